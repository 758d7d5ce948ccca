
set_option maxHeartbeats 8000000 in
theorem oo_Ro_goBack_7 {kA : Nat → ClassId} : or_ok PRD kA GG o_Ro_goBack_7 := by
  refine or_mk fun A ta ws vs hD hth hl => ?_
  intro t0 r0 t3 k3 t4 r4 t7 k7 t8 k8 t9 k9 t10 k10 t12 k12 t13 k13 t14 k14 t15 k15 d0 d1 f0 f1 f2 f3 f4 f5 f6 f7 f8 f9 f10
  replace f0 := shm_40 f0
  replace f1 := shm_12 f1
  replace f2 := shm_38 f2
  rw [show v_iv (n_v vs 13) = 4 from by omega] at f2
  replace f3 := shm_40 f3
  replace f4 := shm_6 f4
  replace f5 := shm_455 f5
  replace f6 := shm_456 f6
  replace f7 := shm_457 f7
  replace f8 := shm_467 f8
  replace f9 := shm_461 f9
  replace f10 := shm_5 f10
  have q4 : n_v vs 4 = n_v vs 0 := f10.symm
  simp only [q4] at f5 f6 f7 f8 f9
  have cr_0_11 := fdq_100 hD hth r0
  have cr_0_12 := fdq_101 hD hth r0
  have cr_0_13 := fdq_102 hD hth r0
  have hK_0_11 := elq_50 hD hth cr_0_11
  have hK_0_12 := elq_51 hD hth cr_0_12
  have hK_0_13 := elq_52 hD hth cr_0_13
  have kz_0_4 := fdq_103 hD hth r0
  have kz_0_5 := fdq_104 hD hth r0
  have kz_0_14 := fdq_105 hD hth r0
  obtain ⟨x, ex, hx⟩ := iv_ex (ta := ta) (lo := 0) (hi := 48004) (z := w_fi ws (n_v vs 0) 14) (by omega) (by omega) (by omega) (by omega)
  have ex2 : v_iv (Value.int x) = w_fi ws (n_v vs 0) 14 := ex
  have ex3 : 0 ≤ v_iv (Value.int x) ∧ v_iv (Value.int x) ≤ 48004 := tv_rng hx
  have e_3 : n_v (vs ++ [Value.int x]) 3 = n_v vs 3 := n_v_old (by rw [hl]; decide)
  have e_4 : n_v (vs ++ [Value.int x]) 4 = n_v vs 4 := n_v_old (by rw [hl]; decide)
  have e_15 : n_v (vs ++ [Value.int x]) 15 = n_v vs 15 := n_v_old (by rw [hl]; decide)
  have e_18 : n_v (vs ++ [Value.int x]) 18 = Value.int x := n_v_new hl
  have nf0 : fc_1 PRD (20, [4], [50, 1, 1, 14, 11, 5, 2, 0, 4, 0, 9, 4, 5, 3, 0, 11, 7, 0, 0, 1, 2, 0, 14]) ws (vs ++ [Value.int x]) := by
    refine ⟨nf_inA hl rfl, sgq_455 ?_⟩
    · show ∀ j0 : Int, 0 ≤ j0 → j0 < 4 → ((w_ei ws (w_ar ws (n_v (vs ++ [Value.int x]) 4) 11) (j0) + 1) ≤ w_fi ws (n_v (vs ++ [Value.int x]) 4) 14)
      simp only [e_4, q4]
      exact vc_Ro_goBack_7_0 (v_iv (n_v vs 3)) (v_iv (n_v vs 7)) (v_iv (n_v vs 8)) (v_iv (n_v vs 9)) (v_iv (n_v vs 10)) (v_iv (n_v vs 12)) (v_iv (n_v vs 13)) (v_iv (n_v vs 14)) (v_iv (n_v vs 15)) (w_ei ws (w_ar ws (n_v vs 0) 11)) (w_fi ws (n_v vs 0) 14) (w_ei ws (w_ar ws (n_v vs 0) 12)) (w_fi ws (n_v vs 0) 4) (w_fi ws (n_v vs 0) 5) (w_ei ws (w_ar ws (n_v vs 0) 13)) (v_iv (Value.int x)) k3 k7 k8 k9 k10 k12 k13 k14 k15 d0 d1 f0 f1 f2 f3 f4 f5 f6 f7 f8 f9 hK_0_11 hK_0_12 hK_0_13 kz_0_4 kz_0_5 kz_0_14 ex2 ex3
  have nf1 : fc_1 PRD (20, [4], [50, 3, 1, 14, 4, 5, 12, 5, 3, 2, 0, 14, 0, 9, 4, 5, 3, 0, 12, 7, 0, 0, 1, 6, 2, 0, 4, 6, 3, 2, 0, 4, 2, 0, 5]) ws (vs ++ [Value.int x]) := by
    refine ⟨nf_inA hl rfl, sgq_456 ?_⟩
    · show ∀ j0 : Int, 0 ≤ j0 → j0 < w_fi ws (n_v (vs ++ [Value.int x]) 4) 14 → ((w_ei ws (w_ar ws (n_v (vs ++ [Value.int x]) 4) 12) (j0) + 1) ≤ (4 * (w_fi ws (n_v (vs ++ [Value.int x]) 4) 4 * w_fi ws (n_v (vs ++ [Value.int x]) 4) 5)))
      simp only [e_4, q4]
      exact vc_Ro_goBack_7_1 (v_iv (n_v vs 3)) (v_iv (n_v vs 7)) (v_iv (n_v vs 8)) (v_iv (n_v vs 9)) (v_iv (n_v vs 10)) (v_iv (n_v vs 12)) (v_iv (n_v vs 13)) (v_iv (n_v vs 14)) (v_iv (n_v vs 15)) (w_ei ws (w_ar ws (n_v vs 0) 11)) (w_fi ws (n_v vs 0) 14) (w_ei ws (w_ar ws (n_v vs 0) 12)) (w_fi ws (n_v vs 0) 4) (w_fi ws (n_v vs 0) 5) (w_ei ws (w_ar ws (n_v vs 0) 13)) (v_iv (Value.int x)) k3 k7 k8 k9 k10 k12 k13 k14 k15 d0 d1 f0 f1 f2 f3 f4 f5 f6 f7 f8 f9 hK_0_11 hK_0_12 hK_0_13 kz_0_4 kz_0_5 kz_0_14 ex2 ex3
  have nf2 : fc_1 PRD (20, [4], [50, 1, 1, 14, 13, 5, 3, 2, 0, 14, 0, 9, 4, 5, 3, 0, 13, 7, 0, 0, 1, 2, 0, 14]) ws (vs ++ [Value.int x]) := by
    refine ⟨nf_inA hl rfl, sgq_457 ?_⟩
    · show ∀ j0 : Int, 0 ≤ j0 → j0 < w_fi ws (n_v (vs ++ [Value.int x]) 4) 14 → ((w_ei ws (w_ar ws (n_v (vs ++ [Value.int x]) 4) 13) (j0) + 1) ≤ w_fi ws (n_v (vs ++ [Value.int x]) 4) 14)
      simp only [e_4, q4]
      exact vc_Ro_goBack_7_2 (v_iv (n_v vs 3)) (v_iv (n_v vs 7)) (v_iv (n_v vs 8)) (v_iv (n_v vs 9)) (v_iv (n_v vs 10)) (v_iv (n_v vs 12)) (v_iv (n_v vs 13)) (v_iv (n_v vs 14)) (v_iv (n_v vs 15)) (w_ei ws (w_ar ws (n_v vs 0) 11)) (w_fi ws (n_v vs 0) 14) (w_ei ws (w_ar ws (n_v vs 0) 12)) (w_fi ws (n_v vs 0) 4) (w_fi ws (n_v vs 0) 5) (w_ei ws (w_ar ws (n_v vs 0) 13)) (v_iv (Value.int x)) k3 k7 k8 k9 k10 k12 k13 k14 k15 d0 d1 f0 f1 f2 f3 f4 f5 f6 f7 f8 f9 hK_0_11 hK_0_12 hK_0_13 kz_0_4 kz_0_5 kz_0_14 ex2 ex3
  have nf3 : fc_1 PRD (20, [15, 4], [50, 2, 0, 1004, 1005, 0, 6, 4, 2, 1, 0, 0, 1, 6, 2, 0, 4, 6, 3, 2, 1, 4, 2, 1, 5]) ws (vs ++ [Value.int x]) := by
    refine ⟨nf_inA hl rfl, sgq_458 ?_⟩
    · show (v_iv (n_v (vs ++ [Value.int x]) 15) + 1) ≤ (4 * (w_fi ws (n_v (vs ++ [Value.int x]) 4) 4 * w_fi ws (n_v (vs ++ [Value.int x]) 4) 5))
      simp only [e_4, e_15, q4]
      exact vc_Ro_goBack_7_3 (v_iv (n_v vs 3)) (v_iv (n_v vs 7)) (v_iv (n_v vs 8)) (v_iv (n_v vs 9)) (v_iv (n_v vs 10)) (v_iv (n_v vs 12)) (v_iv (n_v vs 13)) (v_iv (n_v vs 14)) (v_iv (n_v vs 15)) (w_ei ws (w_ar ws (n_v vs 0) 11)) (w_fi ws (n_v vs 0) 14) (w_ei ws (w_ar ws (n_v vs 0) 12)) (w_fi ws (n_v vs 0) 4) (w_fi ws (n_v vs 0) 5) (w_ei ws (w_ar ws (n_v vs 0) 13)) (v_iv (Value.int x)) k3 k7 k8 k9 k10 k12 k13 k14 k15 d0 d1 f0 f1 f2 f3 f4 f5 f6 f7 f8 f9 hK_0_11 hK_0_12 hK_0_13 kz_0_4 kz_0_5 kz_0_14 ex2 ex3
  have nf4 : fc_1 PRD (20, [4, 18], [30, 0, 1, 1, 14, -1, 0, 0]) ws (vs ++ [Value.int x]) := by
    refine ⟨nf_inA hl rfl, sgq_459 ?_⟩
    · show 1 * w_fi ws (n_v (vs ++ [Value.int x]) 4) 14 + ((-1) * v_iv (n_v (vs ++ [Value.int x]) 18) + 0) ≤ 0
      simp only [e_4, e_18, q4]
      exact vc_Ro_goBack_7_4 (v_iv (n_v vs 3)) (v_iv (n_v vs 7)) (v_iv (n_v vs 8)) (v_iv (n_v vs 9)) (v_iv (n_v vs 10)) (v_iv (n_v vs 12)) (v_iv (n_v vs 13)) (v_iv (n_v vs 14)) (v_iv (n_v vs 15)) (w_ei ws (w_ar ws (n_v vs 0) 11)) (w_fi ws (n_v vs 0) 14) (w_ei ws (w_ar ws (n_v vs 0) 12)) (w_fi ws (n_v vs 0) 4) (w_fi ws (n_v vs 0) 5) (w_ei ws (w_ar ws (n_v vs 0) 13)) (v_iv (Value.int x)) k3 k7 k8 k9 k10 k12 k13 k14 k15 d0 d1 f0 f1 f2 f3 f4 f5 f6 f7 f8 f9 hK_0_11 hK_0_12 hK_0_13 kz_0_4 kz_0_5 kz_0_14 ex2 ex3
  have nf5 : fc_1 PRD (20, [4, 18], [30, 0, -1, 1, 14, 1, 0, 0]) ws (vs ++ [Value.int x]) := by
    refine ⟨nf_inA hl rfl, sgq_460 ?_⟩
    · show (-1) * w_fi ws (n_v (vs ++ [Value.int x]) 4) 14 + (1 * v_iv (n_v (vs ++ [Value.int x]) 18) + 0) ≤ 0
      simp only [e_4, e_18, q4]
      exact vc_Ro_goBack_7_5 (v_iv (n_v vs 3)) (v_iv (n_v vs 7)) (v_iv (n_v vs 8)) (v_iv (n_v vs 9)) (v_iv (n_v vs 10)) (v_iv (n_v vs 12)) (v_iv (n_v vs 13)) (v_iv (n_v vs 14)) (v_iv (n_v vs 15)) (w_ei ws (w_ar ws (n_v vs 0) 11)) (w_fi ws (n_v vs 0) 14) (w_ei ws (w_ar ws (n_v vs 0) 12)) (w_fi ws (n_v vs 0) 4) (w_fi ws (n_v vs 0) 5) (w_ei ws (w_ar ws (n_v vs 0) 13)) (v_iv (Value.int x)) k3 k7 k8 k9 k10 k12 k13 k14 k15 d0 d1 f0 f1 f2 f3 f4 f5 f6 f7 f8 f9 hK_0_11 hK_0_12 hK_0_13 kz_0_4 kz_0_5 kz_0_14 ex2 ex3
  have nf6 : fc_1 PRD (23, [3, 18], [0, 1, -1]) ws (vs ++ [Value.int x]) := by
    refine ⟨nf_inA hl rfl, sgq_7 ?_⟩
    · show 1 * v_iv (n_v (vs ++ [Value.int x]) 3) + ((-1) * v_iv (n_v (vs ++ [Value.int x]) 18) + 0) ≤ 0
      simp only [e_3, e_18]
      exact vc_Ro_goBack_7_6 (v_iv (n_v vs 3)) (v_iv (n_v vs 7)) (v_iv (n_v vs 8)) (v_iv (n_v vs 9)) (v_iv (n_v vs 10)) (v_iv (n_v vs 12)) (v_iv (n_v vs 13)) (v_iv (n_v vs 14)) (v_iv (n_v vs 15)) (w_ei ws (w_ar ws (n_v vs 0) 11)) (w_fi ws (n_v vs 0) 14) (w_ei ws (w_ar ws (n_v vs 0) 12)) (w_fi ws (n_v vs 0) 4) (w_fi ws (n_v vs 0) 5) (w_ei ws (w_ar ws (n_v vs 0) 13)) (v_iv (Value.int x)) k3 k7 k8 k9 k10 k12 k13 k14 k15 d0 d1 f0 f1 f2 f3 f4 f5 f6 f7 f8 f9 hK_0_11 hK_0_12 hK_0_13 kz_0_4 kz_0_5 kz_0_14 ex2 ex3
  exact ⟨(fun _ h => (by cases h)), [Value.int x], ag_one hx, List.forall_mem_cons.mpr ⟨⟨show (20 : Nat) < 100 from by decide, nf0⟩, List.forall_mem_cons.mpr ⟨⟨show (20 : Nat) < 100 from by decide, nf1⟩, List.forall_mem_cons.mpr ⟨⟨show (20 : Nat) < 100 from by decide, nf2⟩, List.forall_mem_cons.mpr ⟨⟨show (20 : Nat) < 100 from by decide, nf3⟩, List.forall_mem_cons.mpr ⟨⟨show (20 : Nat) < 100 from by decide, nf4⟩, List.forall_mem_cons.mpr ⟨⟨show (20 : Nat) < 100 from by decide, nf5⟩, List.forall_mem_cons.mpr ⟨⟨show (23 : Nat) < 100 from by decide, nf6⟩, (fun _ h => (by cases h))⟩⟩⟩⟩⟩⟩⟩, (fun _ h => (by cases h))⟩
set_option maxHeartbeats 4000000 in
theorem vc_Ro_goBack_8_0 (x3 : Int) (x7 : Int) (x8 : Int) (x9 : Int) (x10 : Int) (x12 : Int) (x13 : Int) (x14 : Int) (x15 : Int) (x18 : Int) (x19 : Int) (width_0 : Int) (height_0 : Int) (list_0 : Int → Int) (entries_0 : Int) (entryState_0 : Int → Int) (entryNext_0 : Int → Int) (k3 : 0 ≤ x3 ∧ x3 ≤ 48004) (k7 : 0 ≤ x7 ∧ x7 ≤ 3) (k8 : 0 ≤ x8 ∧ x8 ≤ 5999) (k9 : 0 ≤ x9 ∧ x9 ≤ 3) (k10 : 4 ≤ x10 ∧ x10 ≤ 4) (k12 : 0 ≤ x12 ∧ x12 ≤ 3) (k13 : 4 ≤ x13 ∧ x13 ≤ 4) (k14 : 0 ≤ x14 ∧ x14 ≤ 23996) (k15 : 0 ≤ x15 ∧ x15 ≤ 23999) (k18 : 0 ≤ x18 ∧ x18 ≤ 48004) (k19 : 1 ≤ x19 ∧ x19 ≤ 4) (d0 : x9 + 1 ≤ x19 ∧ x19 ≤ x9 + 1) (d1 : x9 + 0 ≤ x15 ∧ x15 ≤ x9 + 23996) (d2 : x14 + 0 ≤ x15 ∧ x15 ≤ x14 + 3) (f0 : x19 = x9 + 1) (f1 : (x15 + 1) ≤ (4 * (width_0 * height_0))) (f2 : 1 * x3 + ((-1) * x18 + 0) ≤ 0) (f3 : (x8 + 1) ≤ (width_0 * height_0)) (f5 : ∀ j0 : Int, 0 ≤ j0 → j0 < 4 → ((list_0 (j0) + 1) ≤ entries_0)) (f6 : ∀ j0 : Int, 0 ≤ j0 → j0 < entries_0 → ((entryState_0 (j0) + 1) ≤ (4 * (width_0 * height_0)))) (f7 : ∀ j0 : Int, 0 ≤ j0 → j0 < entries_0 → ((entryNext_0 (j0) + 1) ≤ entries_0)) (f8 : 1 * x18 + ((-1) * entries_0 + 0) ≤ 0) (f10 : 1 * x3 + ((-1) * x18 + 0) ≤ 0) (f11 : x9 ≠ x7) (f12 : x15 = x14 + x9) (f13 : x14 = 4 * x8) (f14 : x9 ≠ x12) (f15 : x9 < x10) (hK_0_11 : ∀ j : Int, 0 ≤ j → j < 4 → (-1) ≤ list_0 j ∧ list_0 j ≤ 48003) (hK_0_12 : ∀ j : Int, 0 ≤ j → j < 48004 → 0 ≤ entryState_0 j ∧ entryState_0 j ≤ 23999) (hK_0_13 : ∀ j : Int, 0 ≤ j → j < 48004 → (-1) ≤ entryNext_0 j ∧ entryNext_0 j ≤ 48003) (kz_0_4 : (-2147483648) ≤ width_0 ∧ width_0 ≤ 2147483647) (kz_0_5 : (-2147483648) ≤ height_0 ∧ height_0 ≤ 2147483647) (kz_0_14 : 0 ≤ entries_0 ∧ entries_0 ≤ 48004) : 1 * x3 + ((-1) * entries_0 + 0) ≤ 0 := by
  first | assumption | (clear f5 f6 f7 hK_0_11 hK_0_12 hK_0_13; omega) | omega | grind
def o_Ro_goBack_8 : or_T := (60, 20, [(0, (2, 0, 0, [9])), (3, (0, 0, 48004, [])), (4, (2, 0, 0, [9])), (7, (0, 0, 3, [])), (8, (0, 0, 5999, [])), (9, (0, 0, 3, [])), (10, (0, 4, 4, [])), (12, (0, 0, 3, [])), (13, (0, 4, 4, [])), (14, (0, 0, 23996, [])), (15, (0, 0, 23999, [])), (18, (0, 0, 48004, [])), (19, (0, 1, 4, []))], [(6, [19, 9], [1]), (20, [15, 4], [50, 2, 0, 1004, 1005, 0, 6, 4, 2, 1, 0, 0, 1, 6, 2, 0, 4, 6, 3, 2, 1, 4, 2, 1, 5]), (23, [3, 18], [0, 1, -1]), (20, [8, 4], [50, 2, 0, 1004, 1005, 0, 6, 4, 2, 1, 0, 0, 1, 6, 3, 2, 1, 4, 2, 1, 5]), (24, [0, 4], []), (20, [4], [50, 1, 1, 14, 11, 5, 2, 0, 4, 0, 9, 4, 5, 3, 0, 11, 7, 0, 0, 1, 2, 0, 14]), (20, [4], [50, 3, 1, 14, 4, 5, 12, 5, 3, 2, 0, 14, 0, 9, 4, 5, 3, 0, 12, 7, 0, 0, 1, 6, 2, 0, 4, 6, 3, 2, 0, 4, 2, 0, 5]), (20, [4], [50, 1, 1, 14, 13, 5, 3, 2, 0, 14, 0, 9, 4, 5, 3, 0, 13, 7, 0, 0, 1, 2, 0, 14]), (20, [18, 4], [30, 0, 1, 0, 0, -1, 1, 14]), (102, [18], [77884452878022414427957444938301440, 9014]), (23, [3, 18], [0, 1, -1]), (7, [9, 7], [1]), (1, [15, 14, 9], []), (3, [14, 13, 8], []), (7, [9, 12], [1]), (7, [9, 10], [2])], [], [], [(20, [3, 4], [30, 0, 1, 0, 0, -1, 1, 14])], [], [(19, 9, 1, 1), (15, 9, 0, 23996), (15, 14, 0, 3)])
set_option maxHeartbeats 8000000 in
theorem oo_Ro_goBack_8 {kA : Nat → ClassId} : or_ok PRD kA GG o_Ro_goBack_8 := by
  refine or_mk fun A ta ws vs hD hth hl => ?_
  intro t0 r0 t3 k3 t4 r4 t7 k7 t8 k8 t9 k9 t10 k10 t12 k12 t13 k13 t14 k14 t15 k15 t18 k18 t19 k19 d0 d1 d2 f0 f1 f2 f3 f4 f5 f6 f7 f8 ta1 w1 le1 s1 f10 f11 f12 f13 f14 f15
  replace f0 := shm_4 f0
  replace f1 := shm_458 f1
  replace f2 := shm_7 f2
  replace f3 := shm_467 f3
  replace f4 := shm_5 f4
  replace f5 := shm_455 f5
  replace f6 := shm_456 f6
  replace f7 := shm_457 f7
  replace f8 := shm_461 f8
  replace f10 := shm_7 f10
  replace f11 := shm_40 f11
  replace f12 := shm_12 f12
  replace f13 := shm_38 f13
  rw [show v_iv (n_v vs 13) = 4 from by omega] at f13
  replace f14 := shm_40 f14
  replace f15 := shm_6 f15
  have q4 : n_v vs 4 = n_v vs 0 := f4.symm
  simp only [q4] at f1 f3 f5 f6 f7 f8
  have cr_0_11 := fdq_100 hD hth r0
  have cr_0_12 := fdq_101 hD hth r0
  have cr_0_13 := fdq_102 hD hth r0
  have hK_0_11 := elq_50 hD hth cr_0_11
  have hK_0_12 := elq_51 hD hth cr_0_12
  have hK_0_13 := elq_52 hD hth cr_0_13
  have kz_0_4 := fdq_103 hD hth r0
  have kz_0_5 := fdq_104 hD hth r0
  have kz_0_14 := fdq_105 hD hth r0
  have nf0 : fc_1 PRD (20, [3, 4], [30, 0, 1, 0, 0, -1, 1, 14]) ws (vs) := by
    refine ⟨nf_in hl rfl, sgq_461 ?_⟩
    · show 1 * v_iv (n_v vs 3) + ((-1) * w_fi ws (n_v vs 4) 14 + 0) ≤ 0
      rw [q4]
      exact vc_Ro_goBack_8_0 (v_iv (n_v vs 3)) (v_iv (n_v vs 7)) (v_iv (n_v vs 8)) (v_iv (n_v vs 9)) (v_iv (n_v vs 10)) (v_iv (n_v vs 12)) (v_iv (n_v vs 13)) (v_iv (n_v vs 14)) (v_iv (n_v vs 15)) (v_iv (n_v vs 18)) (v_iv (n_v vs 19)) (w_fi ws (n_v vs 0) 4) (w_fi ws (n_v vs 0) 5) (w_ei ws (w_ar ws (n_v vs 0) 11)) (w_fi ws (n_v vs 0) 14) (w_ei ws (w_ar ws (n_v vs 0) 12)) (w_ei ws (w_ar ws (n_v vs 0) 13)) k3 k7 k8 k9 k10 k12 k13 k14 k15 k18 k19 d0 d1 d2 f0 f1 f2 f3 f5 f6 f7 f8 f10 f11 f12 f13 f14 f15 hK_0_11 hK_0_12 hK_0_13 kz_0_4 kz_0_5 kz_0_14
  refine ⟨(fun _ h => (by cases h)), [], trivial, ?_, (fun _ h => (by cases h))⟩
  rw [List.append_nil]
  exact List.forall_mem_cons.mpr ⟨⟨show (20 : Nat) < 100 from by decide, nf0⟩, (fun _ h => (by cases h))⟩
set_option maxHeartbeats 4000000 in
theorem vc_Ro_goBack_9_0 (x3 : Int) (x7 : Int) (x8 : Int) (x9 : Int) (x10 : Int) (x12 : Int) (x13 : Int) (x14 : Int) (x15 : Int) (list_0 : Int → Int) (entries_0 : Int) (entryState_0 : Int → Int) (width_0 : Int) (height_0 : Int) (entryNext_0 : Int → Int) (gx : Int) (k3 : 0 ≤ x3 ∧ x3 ≤ 48004) (k7 : 0 ≤ x7 ∧ x7 ≤ 3) (k8 : 0 ≤ x8 ∧ x8 ≤ 5999) (k9 : 0 ≤ x9 ∧ x9 ≤ 3) (k10 : 4 ≤ x10 ∧ x10 ≤ 4) (k12 : 0 ≤ x12 ∧ x12 ≤ 3) (k13 : 4 ≤ x13 ∧ x13 ≤ 4) (k14 : 0 ≤ x14 ∧ x14 ≤ 23996) (k15 : 0 ≤ x15 ∧ x15 ≤ 23999) (d0 : x7 + 0 ≤ x9 ∧ x9 ≤ x7 + 0) (d1 : x9 + 0 ≤ x15 ∧ x15 ≤ x9 + 23996) (d2 : x14 + 0 ≤ x15 ∧ x15 ≤ x14 + 3) (f0 : x9 = x7) (f1 : x15 = x14 + x9) (f2 : x14 = 4 * x8) (f3 : x9 ≠ x12) (f4 : x9 < x10) (f5 : ∀ j0 : Int, 0 ≤ j0 → j0 < 4 → ((list_0 (j0) + 1) ≤ entries_0)) (f6 : ∀ j0 : Int, 0 ≤ j0 → j0 < entries_0 → ((entryState_0 (j0) + 1) ≤ (4 * (width_0 * height_0)))) (f7 : ∀ j0 : Int, 0 ≤ j0 → j0 < entries_0 → ((entryNext_0 (j0) + 1) ≤ entries_0)) (f8 : (x8 + 1) ≤ (width_0 * height_0)) (f9 : 1 * x3 + ((-1) * entries_0 + 0) ≤ 0) (hK_0_11 : ∀ j : Int, 0 ≤ j → j < 4 → (-1) ≤ list_0 j ∧ list_0 j ≤ 48003) (hK_0_12 : ∀ j : Int, 0 ≤ j → j < 48004 → 0 ≤ entryState_0 j ∧ entryState_0 j ≤ 23999) (hK_0_13 : ∀ j : Int, 0 ≤ j → j < 48004 → (-1) ≤ entryNext_0 j ∧ entryNext_0 j ≤ 48003) (kz_0_4 : (-2147483648) ≤ width_0 ∧ width_0 ≤ 2147483647) (kz_0_5 : (-2147483648) ≤ height_0 ∧ height_0 ≤ 2147483647) (kz_0_14 : 0 ≤ entries_0 ∧ entries_0 ≤ 48004) (ex2 : gx = entries_0) (ex3 : 0 ≤ gx ∧ gx ≤ 48004) : ∀ j0 : Int, 0 ≤ j0 → j0 < 4 → ((list_0 (j0) + 1) ≤ entries_0) := by
  first | assumption | grind | omega
set_option maxHeartbeats 4000000 in
theorem vc_Ro_goBack_9_1 (x3 : Int) (x7 : Int) (x8 : Int) (x9 : Int) (x10 : Int) (x12 : Int) (x13 : Int) (x14 : Int) (x15 : Int) (list_0 : Int → Int) (entries_0 : Int) (entryState_0 : Int → Int) (width_0 : Int) (height_0 : Int) (entryNext_0 : Int → Int) (gx : Int) (k3 : 0 ≤ x3 ∧ x3 ≤ 48004) (k7 : 0 ≤ x7 ∧ x7 ≤ 3) (k8 : 0 ≤ x8 ∧ x8 ≤ 5999) (k9 : 0 ≤ x9 ∧ x9 ≤ 3) (k10 : 4 ≤ x10 ∧ x10 ≤ 4) (k12 : 0 ≤ x12 ∧ x12 ≤ 3) (k13 : 4 ≤ x13 ∧ x13 ≤ 4) (k14 : 0 ≤ x14 ∧ x14 ≤ 23996) (k15 : 0 ≤ x15 ∧ x15 ≤ 23999) (d0 : x7 + 0 ≤ x9 ∧ x9 ≤ x7 + 0) (d1 : x9 + 0 ≤ x15 ∧ x15 ≤ x9 + 23996) (d2 : x14 + 0 ≤ x15 ∧ x15 ≤ x14 + 3) (f0 : x9 = x7) (f1 : x15 = x14 + x9) (f2 : x14 = 4 * x8) (f3 : x9 ≠ x12) (f4 : x9 < x10) (f5 : ∀ j0 : Int, 0 ≤ j0 → j0 < 4 → ((list_0 (j0) + 1) ≤ entries_0)) (f6 : ∀ j0 : Int, 0 ≤ j0 → j0 < entries_0 → ((entryState_0 (j0) + 1) ≤ (4 * (width_0 * height_0)))) (f7 : ∀ j0 : Int, 0 ≤ j0 → j0 < entries_0 → ((entryNext_0 (j0) + 1) ≤ entries_0)) (f8 : (x8 + 1) ≤ (width_0 * height_0)) (f9 : 1 * x3 + ((-1) * entries_0 + 0) ≤ 0) (hK_0_11 : ∀ j : Int, 0 ≤ j → j < 4 → (-1) ≤ list_0 j ∧ list_0 j ≤ 48003) (hK_0_12 : ∀ j : Int, 0 ≤ j → j < 48004 → 0 ≤ entryState_0 j ∧ entryState_0 j ≤ 23999) (hK_0_13 : ∀ j : Int, 0 ≤ j → j < 48004 → (-1) ≤ entryNext_0 j ∧ entryNext_0 j ≤ 48003) (kz_0_4 : (-2147483648) ≤ width_0 ∧ width_0 ≤ 2147483647) (kz_0_5 : (-2147483648) ≤ height_0 ∧ height_0 ≤ 2147483647) (kz_0_14 : 0 ≤ entries_0 ∧ entries_0 ≤ 48004) (ex2 : gx = entries_0) (ex3 : 0 ≤ gx ∧ gx ≤ 48004) : ∀ j0 : Int, 0 ≤ j0 → j0 < entries_0 → ((entryState_0 (j0) + 1) ≤ (4 * (width_0 * height_0))) := by
  first | assumption | grind | omega
set_option maxHeartbeats 4000000 in
theorem vc_Ro_goBack_9_2 (x3 : Int) (x7 : Int) (x8 : Int) (x9 : Int) (x10 : Int) (x12 : Int) (x13 : Int) (x14 : Int) (x15 : Int) (list_0 : Int → Int) (entries_0 : Int) (entryState_0 : Int → Int) (width_0 : Int) (height_0 : Int) (entryNext_0 : Int → Int) (gx : Int) (k3 : 0 ≤ x3 ∧ x3 ≤ 48004) (k7 : 0 ≤ x7 ∧ x7 ≤ 3) (k8 : 0 ≤ x8 ∧ x8 ≤ 5999) (k9 : 0 ≤ x9 ∧ x9 ≤ 3) (k10 : 4 ≤ x10 ∧ x10 ≤ 4) (k12 : 0 ≤ x12 ∧ x12 ≤ 3) (k13 : 4 ≤ x13 ∧ x13 ≤ 4) (k14 : 0 ≤ x14 ∧ x14 ≤ 23996) (k15 : 0 ≤ x15 ∧ x15 ≤ 23999) (d0 : x7 + 0 ≤ x9 ∧ x9 ≤ x7 + 0) (d1 : x9 + 0 ≤ x15 ∧ x15 ≤ x9 + 23996) (d2 : x14 + 0 ≤ x15 ∧ x15 ≤ x14 + 3) (f0 : x9 = x7) (f1 : x15 = x14 + x9) (f2 : x14 = 4 * x8) (f3 : x9 ≠ x12) (f4 : x9 < x10) (f5 : ∀ j0 : Int, 0 ≤ j0 → j0 < 4 → ((list_0 (j0) + 1) ≤ entries_0)) (f6 : ∀ j0 : Int, 0 ≤ j0 → j0 < entries_0 → ((entryState_0 (j0) + 1) ≤ (4 * (width_0 * height_0)))) (f7 : ∀ j0 : Int, 0 ≤ j0 → j0 < entries_0 → ((entryNext_0 (j0) + 1) ≤ entries_0)) (f8 : (x8 + 1) ≤ (width_0 * height_0)) (f9 : 1 * x3 + ((-1) * entries_0 + 0) ≤ 0) (hK_0_11 : ∀ j : Int, 0 ≤ j → j < 4 → (-1) ≤ list_0 j ∧ list_0 j ≤ 48003) (hK_0_12 : ∀ j : Int, 0 ≤ j → j < 48004 → 0 ≤ entryState_0 j ∧ entryState_0 j ≤ 23999) (hK_0_13 : ∀ j : Int, 0 ≤ j → j < 48004 → (-1) ≤ entryNext_0 j ∧ entryNext_0 j ≤ 48003) (kz_0_4 : (-2147483648) ≤ width_0 ∧ width_0 ≤ 2147483647) (kz_0_5 : (-2147483648) ≤ height_0 ∧ height_0 ≤ 2147483647) (kz_0_14 : 0 ≤ entries_0 ∧ entries_0 ≤ 48004) (ex2 : gx = entries_0) (ex3 : 0 ≤ gx ∧ gx ≤ 48004) : ∀ j0 : Int, 0 ≤ j0 → j0 < entries_0 → ((entryNext_0 (j0) + 1) ≤ entries_0) := by
  first | assumption | grind | omega
set_option maxHeartbeats 4000000 in
theorem vc_Ro_goBack_9_3 (x3 : Int) (x7 : Int) (x8 : Int) (x9 : Int) (x10 : Int) (x12 : Int) (x13 : Int) (x14 : Int) (x15 : Int) (list_0 : Int → Int) (entries_0 : Int) (entryState_0 : Int → Int) (width_0 : Int) (height_0 : Int) (entryNext_0 : Int → Int) (gx : Int) (k3 : 0 ≤ x3 ∧ x3 ≤ 48004) (k7 : 0 ≤ x7 ∧ x7 ≤ 3) (k8 : 0 ≤ x8 ∧ x8 ≤ 5999) (k9 : 0 ≤ x9 ∧ x9 ≤ 3) (k10 : 4 ≤ x10 ∧ x10 ≤ 4) (k12 : 0 ≤ x12 ∧ x12 ≤ 3) (k13 : 4 ≤ x13 ∧ x13 ≤ 4) (k14 : 0 ≤ x14 ∧ x14 ≤ 23996) (k15 : 0 ≤ x15 ∧ x15 ≤ 23999) (d0 : x7 + 0 ≤ x9 ∧ x9 ≤ x7 + 0) (d1 : x9 + 0 ≤ x15 ∧ x15 ≤ x9 + 23996) (d2 : x14 + 0 ≤ x15 ∧ x15 ≤ x14 + 3) (f0 : x9 = x7) (f1 : x15 = x14 + x9) (f2 : x14 = 4 * x8) (f3 : x9 ≠ x12) (f4 : x9 < x10) (f5 : ∀ j0 : Int, 0 ≤ j0 → j0 < 4 → ((list_0 (j0) + 1) ≤ entries_0)) (f6 : ∀ j0 : Int, 0 ≤ j0 → j0 < entries_0 → ((entryState_0 (j0) + 1) ≤ (4 * (width_0 * height_0)))) (f7 : ∀ j0 : Int, 0 ≤ j0 → j0 < entries_0 → ((entryNext_0 (j0) + 1) ≤ entries_0)) (f8 : (x8 + 1) ≤ (width_0 * height_0)) (f9 : 1 * x3 + ((-1) * entries_0 + 0) ≤ 0) (hK_0_11 : ∀ j : Int, 0 ≤ j → j < 4 → (-1) ≤ list_0 j ∧ list_0 j ≤ 48003) (hK_0_12 : ∀ j : Int, 0 ≤ j → j < 48004 → 0 ≤ entryState_0 j ∧ entryState_0 j ≤ 23999) (hK_0_13 : ∀ j : Int, 0 ≤ j → j < 48004 → (-1) ≤ entryNext_0 j ∧ entryNext_0 j ≤ 48003) (kz_0_4 : (-2147483648) ≤ width_0 ∧ width_0 ≤ 2147483647) (kz_0_5 : (-2147483648) ≤ height_0 ∧ height_0 ≤ 2147483647) (kz_0_14 : 0 ≤ entries_0 ∧ entries_0 ≤ 48004) (ex2 : gx = entries_0) (ex3 : 0 ≤ gx ∧ gx ≤ 48004) : (x15 + 1) ≤ (4 * (width_0 * height_0)) := by
  first | assumption | (clear f5 f6 f7 hK_0_11 hK_0_12 hK_0_13; omega) | omega | grind
set_option maxHeartbeats 4000000 in
theorem vc_Ro_goBack_9_4 (x3 : Int) (x7 : Int) (x8 : Int) (x9 : Int) (x10 : Int) (x12 : Int) (x13 : Int) (x14 : Int) (x15 : Int) (list_0 : Int → Int) (entries_0 : Int) (entryState_0 : Int → Int) (width_0 : Int) (height_0 : Int) (entryNext_0 : Int → Int) (gx : Int) (k3 : 0 ≤ x3 ∧ x3 ≤ 48004) (k7 : 0 ≤ x7 ∧ x7 ≤ 3) (k8 : 0 ≤ x8 ∧ x8 ≤ 5999) (k9 : 0 ≤ x9 ∧ x9 ≤ 3) (k10 : 4 ≤ x10 ∧ x10 ≤ 4) (k12 : 0 ≤ x12 ∧ x12 ≤ 3) (k13 : 4 ≤ x13 ∧ x13 ≤ 4) (k14 : 0 ≤ x14 ∧ x14 ≤ 23996) (k15 : 0 ≤ x15 ∧ x15 ≤ 23999) (d0 : x7 + 0 ≤ x9 ∧ x9 ≤ x7 + 0) (d1 : x9 + 0 ≤ x15 ∧ x15 ≤ x9 + 23996) (d2 : x14 + 0 ≤ x15 ∧ x15 ≤ x14 + 3) (f0 : x9 = x7) (f1 : x15 = x14 + x9) (f2 : x14 = 4 * x8) (f3 : x9 ≠ x12) (f4 : x9 < x10) (f5 : ∀ j0 : Int, 0 ≤ j0 → j0 < 4 → ((list_0 (j0) + 1) ≤ entries_0)) (f6 : ∀ j0 : Int, 0 ≤ j0 → j0 < entries_0 → ((entryState_0 (j0) + 1) ≤ (4 * (width_0 * height_0)))) (f7 : ∀ j0 : Int, 0 ≤ j0 → j0 < entries_0 → ((entryNext_0 (j0) + 1) ≤ entries_0)) (f8 : (x8 + 1) ≤ (width_0 * height_0)) (f9 : 1 * x3 + ((-1) * entries_0 + 0) ≤ 0) (hK_0_11 : ∀ j : Int, 0 ≤ j → j < 4 → (-1) ≤ list_0 j ∧ list_0 j ≤ 48003) (hK_0_12 : ∀ j : Int, 0 ≤ j → j < 48004 → 0 ≤ entryState_0 j ∧ entryState_0 j ≤ 23999) (hK_0_13 : ∀ j : Int, 0 ≤ j → j < 48004 → (-1) ≤ entryNext_0 j ∧ entryNext_0 j ≤ 48003) (kz_0_4 : (-2147483648) ≤ width_0 ∧ width_0 ≤ 2147483647) (kz_0_5 : (-2147483648) ≤ height_0 ∧ height_0 ≤ 2147483647) (kz_0_14 : 0 ≤ entries_0 ∧ entries_0 ≤ 48004) (ex2 : gx = entries_0) (ex3 : 0 ≤ gx ∧ gx ≤ 48004) : 1 * entries_0 + ((-1) * gx + 0) ≤ 0 := by
  first | assumption | (clear f5 f6 f7 hK_0_11 hK_0_12 hK_0_13; omega) | omega | grind
set_option maxHeartbeats 4000000 in
theorem vc_Ro_goBack_9_5 (x3 : Int) (x7 : Int) (x8 : Int) (x9 : Int) (x10 : Int) (x12 : Int) (x13 : Int) (x14 : Int) (x15 : Int) (list_0 : Int → Int) (entries_0 : Int) (entryState_0 : Int → Int) (width_0 : Int) (height_0 : Int) (entryNext_0 : Int → Int) (gx : Int) (k3 : 0 ≤ x3 ∧ x3 ≤ 48004) (k7 : 0 ≤ x7 ∧ x7 ≤ 3) (k8 : 0 ≤ x8 ∧ x8 ≤ 5999) (k9 : 0 ≤ x9 ∧ x9 ≤ 3) (k10 : 4 ≤ x10 ∧ x10 ≤ 4) (k12 : 0 ≤ x12 ∧ x12 ≤ 3) (k13 : 4 ≤ x13 ∧ x13 ≤ 4) (k14 : 0 ≤ x14 ∧ x14 ≤ 23996) (k15 : 0 ≤ x15 ∧ x15 ≤ 23999) (d0 : x7 + 0 ≤ x9 ∧ x9 ≤ x7 + 0) (d1 : x9 + 0 ≤ x15 ∧ x15 ≤ x9 + 23996) (d2 : x14 + 0 ≤ x15 ∧ x15 ≤ x14 + 3) (f0 : x9 = x7) (f1 : x15 = x14 + x9) (f2 : x14 = 4 * x8) (f3 : x9 ≠ x12) (f4 : x9 < x10) (f5 : ∀ j0 : Int, 0 ≤ j0 → j0 < 4 → ((list_0 (j0) + 1) ≤ entries_0)) (f6 : ∀ j0 : Int, 0 ≤ j0 → j0 < entries_0 → ((entryState_0 (j0) + 1) ≤ (4 * (width_0 * height_0)))) (f7 : ∀ j0 : Int, 0 ≤ j0 → j0 < entries_0 → ((entryNext_0 (j0) + 1) ≤ entries_0)) (f8 : (x8 + 1) ≤ (width_0 * height_0)) (f9 : 1 * x3 + ((-1) * entries_0 + 0) ≤ 0) (hK_0_11 : ∀ j : Int, 0 ≤ j → j < 4 → (-1) ≤ list_0 j ∧ list_0 j ≤ 48003) (hK_0_12 : ∀ j : Int, 0 ≤ j → j < 48004 → 0 ≤ entryState_0 j ∧ entryState_0 j ≤ 23999) (hK_0_13 : ∀ j : Int, 0 ≤ j → j < 48004 → (-1) ≤ entryNext_0 j ∧ entryNext_0 j ≤ 48003) (kz_0_4 : (-2147483648) ≤ width_0 ∧ width_0 ≤ 2147483647) (kz_0_5 : (-2147483648) ≤ height_0 ∧ height_0 ≤ 2147483647) (kz_0_14 : 0 ≤ entries_0 ∧ entries_0 ≤ 48004) (ex2 : gx = entries_0) (ex3 : 0 ≤ gx ∧ gx ≤ 48004) : (-1) * entries_0 + (1 * gx + 0) ≤ 0 := by
  first | assumption | (clear f5 f6 f7 hK_0_11 hK_0_12 hK_0_13; omega) | omega | grind
set_option maxHeartbeats 4000000 in
theorem vc_Ro_goBack_9_6 (x3 : Int) (x7 : Int) (x8 : Int) (x9 : Int) (x10 : Int) (x12 : Int) (x13 : Int) (x14 : Int) (x15 : Int) (list_0 : Int → Int) (entries_0 : Int) (entryState_0 : Int → Int) (width_0 : Int) (height_0 : Int) (entryNext_0 : Int → Int) (gx : Int) (k3 : 0 ≤ x3 ∧ x3 ≤ 48004) (k7 : 0 ≤ x7 ∧ x7 ≤ 3) (k8 : 0 ≤ x8 ∧ x8 ≤ 5999) (k9 : 0 ≤ x9 ∧ x9 ≤ 3) (k10 : 4 ≤ x10 ∧ x10 ≤ 4) (k12 : 0 ≤ x12 ∧ x12 ≤ 3) (k13 : 4 ≤ x13 ∧ x13 ≤ 4) (k14 : 0 ≤ x14 ∧ x14 ≤ 23996) (k15 : 0 ≤ x15 ∧ x15 ≤ 23999) (d0 : x7 + 0 ≤ x9 ∧ x9 ≤ x7 + 0) (d1 : x9 + 0 ≤ x15 ∧ x15 ≤ x9 + 23996) (d2 : x14 + 0 ≤ x15 ∧ x15 ≤ x14 + 3) (f0 : x9 = x7) (f1 : x15 = x14 + x9) (f2 : x14 = 4 * x8) (f3 : x9 ≠ x12) (f4 : x9 < x10) (f5 : ∀ j0 : Int, 0 ≤ j0 → j0 < 4 → ((list_0 (j0) + 1) ≤ entries_0)) (f6 : ∀ j0 : Int, 0 ≤ j0 → j0 < entries_0 → ((entryState_0 (j0) + 1) ≤ (4 * (width_0 * height_0)))) (f7 : ∀ j0 : Int, 0 ≤ j0 → j0 < entries_0 → ((entryNext_0 (j0) + 1) ≤ entries_0)) (f8 : (x8 + 1) ≤ (width_0 * height_0)) (f9 : 1 * x3 + ((-1) * entries_0 + 0) ≤ 0) (hK_0_11 : ∀ j : Int, 0 ≤ j → j < 4 → (-1) ≤ list_0 j ∧ list_0 j ≤ 48003) (hK_0_12 : ∀ j : Int, 0 ≤ j → j < 48004 → 0 ≤ entryState_0 j ∧ entryState_0 j ≤ 23999) (hK_0_13 : ∀ j : Int, 0 ≤ j → j < 48004 → (-1) ≤ entryNext_0 j ∧ entryNext_0 j ≤ 48003) (kz_0_4 : (-2147483648) ≤ width_0 ∧ width_0 ≤ 2147483647) (kz_0_5 : (-2147483648) ≤ height_0 ∧ height_0 ≤ 2147483647) (kz_0_14 : 0 ≤ entries_0 ∧ entries_0 ≤ 48004) (ex2 : gx = entries_0) (ex3 : 0 ≤ gx ∧ gx ≤ 48004) : 1 * x3 + ((-1) * gx + 0) ≤ 0 := by
  first | assumption | (clear f5 f6 f7 hK_0_11 hK_0_12 hK_0_13; omega) | omega | grind
def o_Ro_goBack_9 : or_T := (95, 18, [(0, (2, 0, 0, [9])), (3, (0, 0, 48004, [])), (4, (2, 0, 0, [9])), (7, (0, 0, 3, [])), (8, (0, 0, 5999, [])), (9, (0, 0, 3, [])), (10, (0, 4, 4, [])), (12, (0, 0, 3, [])), (13, (0, 4, 4, [])), (14, (0, 0, 23996, [])), (15, (0, 0, 23999, []))], [(7, [9, 7], [0]), (1, [15, 14, 9], []), (3, [14, 13, 8], []), (7, [9, 12], [1]), (7, [9, 10], [2]), (20, [4], [50, 1, 1, 14, 11, 5, 2, 0, 4, 0, 9, 4, 5, 3, 0, 11, 7, 0, 0, 1, 2, 0, 14]), (20, [4], [50, 3, 1, 14, 4, 5, 12, 5, 3, 2, 0, 14, 0, 9, 4, 5, 3, 0, 12, 7, 0, 0, 1, 6, 2, 0, 4, 6, 3, 2, 0, 4, 2, 0, 5]), (20, [4], [50, 1, 1, 14, 13, 5, 3, 2, 0, 14, 0, 9, 4, 5, 3, 0, 13, 7, 0, 0, 1, 2, 0, 14]), (20, [8, 4], [50, 2, 0, 1004, 1005, 0, 6, 4, 2, 1, 0, 0, 1, 6, 3, 2, 1, 4, 2, 1, 5]), (20, [3, 4], [30, 0, 1, 0, 0, -1, 1, 14]), (24, [0, 4], [])], [], [(0, 0, 48004, [])], [(20, [4], [50, 1, 1, 14, 11, 5, 2, 0, 4, 0, 9, 4, 5, 3, 0, 11, 7, 0, 0, 1, 2, 0, 14]), (20, [4], [50, 3, 1, 14, 4, 5, 12, 5, 3, 2, 0, 14, 0, 9, 4, 5, 3, 0, 12, 7, 0, 0, 1, 6, 2, 0, 4, 6, 3, 2, 0, 4, 2, 0, 5]), (20, [4], [50, 1, 1, 14, 13, 5, 3, 2, 0, 14, 0, 9, 4, 5, 3, 0, 13, 7, 0, 0, 1, 2, 0, 14]), (20, [15, 4], [50, 2, 0, 1004, 1005, 0, 6, 4, 2, 1, 0, 0, 1, 6, 2, 0, 4, 6, 3, 2, 1, 4, 2, 1, 5]), (20, [4, 18], [30, 0, 1, 1, 14, -1, 0, 0]), (20, [4, 18], [30, 0, -1, 1, 14, 1, 0, 0]), (23, [3, 18], [0, 1, -1])], [], [(9, 7, 0, 0), (15, 9, 0, 23996), (15, 14, 0, 3)])
set_option maxHeartbeats 8000000 in
theorem oo_Ro_goBack_9 {kA : Nat → ClassId} : or_ok PRD kA GG o_Ro_goBack_9 := by
  refine or_mk fun A ta ws vs hD hth hl => ?_
  intro t0 r0 t3 k3 t4 r4 t7 k7 t8 k8 t9 k9 t10 k10 t12 k12 t13 k13 t14 k14 t15 k15 d0 d1 d2 f0 f1 f2 f3 f4 f5 f6 f7 f8 f9 f10
  replace f0 := shm_37 f0
  replace f1 := shm_12 f1
  replace f2 := shm_38 f2
  rw [show v_iv (n_v vs 13) = 4 from by omega] at f2
  replace f3 := shm_40 f3
  replace f4 := shm_6 f4
  replace f5 := shm_455 f5
  replace f6 := shm_456 f6
  replace f7 := shm_457 f7
  replace f8 := shm_467 f8
  replace f9 := shm_461 f9
  replace f10 := shm_5 f10
  have q4 : n_v vs 4 = n_v vs 0 := f10.symm
  simp only [q4] at f5 f6 f7 f8 f9
  have cr_0_11 := fdq_100 hD hth r0
  have cr_0_12 := fdq_101 hD hth r0
  have cr_0_13 := fdq_102 hD hth r0
  have hK_0_11 := elq_50 hD hth cr_0_11
  have hK_0_12 := elq_51 hD hth cr_0_12
  have hK_0_13 := elq_52 hD hth cr_0_13
  have kz_0_4 := fdq_103 hD hth r0
  have kz_0_5 := fdq_104 hD hth r0
  have kz_0_14 := fdq_105 hD hth r0
  obtain ⟨x, ex, hx⟩ := iv_ex (ta := ta) (lo := 0) (hi := 48004) (z := w_fi ws (n_v vs 0) 14) (by omega) (by omega) (by omega) (by omega)
  have ex2 : v_iv (Value.int x) = w_fi ws (n_v vs 0) 14 := ex
  have ex3 : 0 ≤ v_iv (Value.int x) ∧ v_iv (Value.int x) ≤ 48004 := tv_rng hx
  have e_3 : n_v (vs ++ [Value.int x]) 3 = n_v vs 3 := n_v_old (by rw [hl]; decide)
  have e_4 : n_v (vs ++ [Value.int x]) 4 = n_v vs 4 := n_v_old (by rw [hl]; decide)
  have e_15 : n_v (vs ++ [Value.int x]) 15 = n_v vs 15 := n_v_old (by rw [hl]; decide)
  have e_18 : n_v (vs ++ [Value.int x]) 18 = Value.int x := n_v_new hl
  have nf0 : fc_1 PRD (20, [4], [50, 1, 1, 14, 11, 5, 2, 0, 4, 0, 9, 4, 5, 3, 0, 11, 7, 0, 0, 1, 2, 0, 14]) ws (vs ++ [Value.int x]) := by
    refine ⟨nf_inA hl rfl, sgq_455 ?_⟩
    · show ∀ j0 : Int, 0 ≤ j0 → j0 < 4 → ((w_ei ws (w_ar ws (n_v (vs ++ [Value.int x]) 4) 11) (j0) + 1) ≤ w_fi ws (n_v (vs ++ [Value.int x]) 4) 14)
      simp only [e_4, q4]
      exact vc_Ro_goBack_9_0 (v_iv (n_v vs 3)) (v_iv (n_v vs 7)) (v_iv (n_v vs 8)) (v_iv (n_v vs 9)) (v_iv (n_v vs 10)) (v_iv (n_v vs 12)) (v_iv (n_v vs 13)) (v_iv (n_v vs 14)) (v_iv (n_v vs 15)) (w_ei ws (w_ar ws (n_v vs 0) 11)) (w_fi ws (n_v vs 0) 14) (w_ei ws (w_ar ws (n_v vs 0) 12)) (w_fi ws (n_v vs 0) 4) (w_fi ws (n_v vs 0) 5) (w_ei ws (w_ar ws (n_v vs 0) 13)) (v_iv (Value.int x)) k3 k7 k8 k9 k10 k12 k13 k14 k15 d0 d1 d2 f0 f1 f2 f3 f4 f5 f6 f7 f8 f9 hK_0_11 hK_0_12 hK_0_13 kz_0_4 kz_0_5 kz_0_14 ex2 ex3
  have nf1 : fc_1 PRD (20, [4], [50, 3, 1, 14, 4, 5, 12, 5, 3, 2, 0, 14, 0, 9, 4, 5, 3, 0, 12, 7, 0, 0, 1, 6, 2, 0, 4, 6, 3, 2, 0, 4, 2, 0, 5]) ws (vs ++ [Value.int x]) := by
    refine ⟨nf_inA hl rfl, sgq_456 ?_⟩
    · show ∀ j0 : Int, 0 ≤ j0 → j0 < w_fi ws (n_v (vs ++ [Value.int x]) 4) 14 → ((w_ei ws (w_ar ws (n_v (vs ++ [Value.int x]) 4) 12) (j0) + 1) ≤ (4 * (w_fi ws (n_v (vs ++ [Value.int x]) 4) 4 * w_fi ws (n_v (vs ++ [Value.int x]) 4) 5)))
      simp only [e_4, q4]
      exact vc_Ro_goBack_9_1 (v_iv (n_v vs 3)) (v_iv (n_v vs 7)) (v_iv (n_v vs 8)) (v_iv (n_v vs 9)) (v_iv (n_v vs 10)) (v_iv (n_v vs 12)) (v_iv (n_v vs 13)) (v_iv (n_v vs 14)) (v_iv (n_v vs 15)) (w_ei ws (w_ar ws (n_v vs 0) 11)) (w_fi ws (n_v vs 0) 14) (w_ei ws (w_ar ws (n_v vs 0) 12)) (w_fi ws (n_v vs 0) 4) (w_fi ws (n_v vs 0) 5) (w_ei ws (w_ar ws (n_v vs 0) 13)) (v_iv (Value.int x)) k3 k7 k8 k9 k10 k12 k13 k14 k15 d0 d1 d2 f0 f1 f2 f3 f4 f5 f6 f7 f8 f9 hK_0_11 hK_0_12 hK_0_13 kz_0_4 kz_0_5 kz_0_14 ex2 ex3
  have nf2 : fc_1 PRD (20, [4], [50, 1, 1, 14, 13, 5, 3, 2, 0, 14, 0, 9, 4, 5, 3, 0, 13, 7, 0, 0, 1, 2, 0, 14]) ws (vs ++ [Value.int x]) := by
    refine ⟨nf_inA hl rfl, sgq_457 ?_⟩
    · show ∀ j0 : Int, 0 ≤ j0 → j0 < w_fi ws (n_v (vs ++ [Value.int x]) 4) 14 → ((w_ei ws (w_ar ws (n_v (vs ++ [Value.int x]) 4) 13) (j0) + 1) ≤ w_fi ws (n_v (vs ++ [Value.int x]) 4) 14)
      simp only [e_4, q4]
      exact vc_Ro_goBack_9_2 (v_iv (n_v vs 3)) (v_iv (n_v vs 7)) (v_iv (n_v vs 8)) (v_iv (n_v vs 9)) (v_iv (n_v vs 10)) (v_iv (n_v vs 12)) (v_iv (n_v vs 13)) (v_iv (n_v vs 14)) (v_iv (n_v vs 15)) (w_ei ws (w_ar ws (n_v vs 0) 11)) (w_fi ws (n_v vs 0) 14) (w_ei ws (w_ar ws (n_v vs 0) 12)) (w_fi ws (n_v vs 0) 4) (w_fi ws (n_v vs 0) 5) (w_ei ws (w_ar ws (n_v vs 0) 13)) (v_iv (Value.int x)) k3 k7 k8 k9 k10 k12 k13 k14 k15 d0 d1 d2 f0 f1 f2 f3 f4 f5 f6 f7 f8 f9 hK_0_11 hK_0_12 hK_0_13 kz_0_4 kz_0_5 kz_0_14 ex2 ex3
  have nf3 : fc_1 PRD (20, [15, 4], [50, 2, 0, 1004, 1005, 0, 6, 4, 2, 1, 0, 0, 1, 6, 2, 0, 4, 6, 3, 2, 1, 4, 2, 1, 5]) ws (vs ++ [Value.int x]) := by
    refine ⟨nf_inA hl rfl, sgq_458 ?_⟩
    · show (v_iv (n_v (vs ++ [Value.int x]) 15) + 1) ≤ (4 * (w_fi ws (n_v (vs ++ [Value.int x]) 4) 4 * w_fi ws (n_v (vs ++ [Value.int x]) 4) 5))
      simp only [e_4, e_15, q4]
      exact vc_Ro_goBack_9_3 (v_iv (n_v vs 3)) (v_iv (n_v vs 7)) (v_iv (n_v vs 8)) (v_iv (n_v vs 9)) (v_iv (n_v vs 10)) (v_iv (n_v vs 12)) (v_iv (n_v vs 13)) (v_iv (n_v vs 14)) (v_iv (n_v vs 15)) (w_ei ws (w_ar ws (n_v vs 0) 11)) (w_fi ws (n_v vs 0) 14) (w_ei ws (w_ar ws (n_v vs 0) 12)) (w_fi ws (n_v vs 0) 4) (w_fi ws (n_v vs 0) 5) (w_ei ws (w_ar ws (n_v vs 0) 13)) (v_iv (Value.int x)) k3 k7 k8 k9 k10 k12 k13 k14 k15 d0 d1 d2 f0 f1 f2 f3 f4 f5 f6 f7 f8 f9 hK_0_11 hK_0_12 hK_0_13 kz_0_4 kz_0_5 kz_0_14 ex2 ex3
  have nf4 : fc_1 PRD (20, [4, 18], [30, 0, 1, 1, 14, -1, 0, 0]) ws (vs ++ [Value.int x]) := by
    refine ⟨nf_inA hl rfl, sgq_459 ?_⟩
    · show 1 * w_fi ws (n_v (vs ++ [Value.int x]) 4) 14 + ((-1) * v_iv (n_v (vs ++ [Value.int x]) 18) + 0) ≤ 0
      simp only [e_4, e_18, q4]
      exact vc_Ro_goBack_9_4 (v_iv (n_v vs 3)) (v_iv (n_v vs 7)) (v_iv (n_v vs 8)) (v_iv (n_v vs 9)) (v_iv (n_v vs 10)) (v_iv (n_v vs 12)) (v_iv (n_v vs 13)) (v_iv (n_v vs 14)) (v_iv (n_v vs 15)) (w_ei ws (w_ar ws (n_v vs 0) 11)) (w_fi ws (n_v vs 0) 14) (w_ei ws (w_ar ws (n_v vs 0) 12)) (w_fi ws (n_v vs 0) 4) (w_fi ws (n_v vs 0) 5) (w_ei ws (w_ar ws (n_v vs 0) 13)) (v_iv (Value.int x)) k3 k7 k8 k9 k10 k12 k13 k14 k15 d0 d1 d2 f0 f1 f2 f3 f4 f5 f6 f7 f8 f9 hK_0_11 hK_0_12 hK_0_13 kz_0_4 kz_0_5 kz_0_14 ex2 ex3
  have nf5 : fc_1 PRD (20, [4, 18], [30, 0, -1, 1, 14, 1, 0, 0]) ws (vs ++ [Value.int x]) := by
    refine ⟨nf_inA hl rfl, sgq_460 ?_⟩
    · show (-1) * w_fi ws (n_v (vs ++ [Value.int x]) 4) 14 + (1 * v_iv (n_v (vs ++ [Value.int x]) 18) + 0) ≤ 0
      simp only [e_4, e_18, q4]
      exact vc_Ro_goBack_9_5 (v_iv (n_v vs 3)) (v_iv (n_v vs 7)) (v_iv (n_v vs 8)) (v_iv (n_v vs 9)) (v_iv (n_v vs 10)) (v_iv (n_v vs 12)) (v_iv (n_v vs 13)) (v_iv (n_v vs 14)) (v_iv (n_v vs 15)) (w_ei ws (w_ar ws (n_v vs 0) 11)) (w_fi ws (n_v vs 0) 14) (w_ei ws (w_ar ws (n_v vs 0) 12)) (w_fi ws (n_v vs 0) 4) (w_fi ws (n_v vs 0) 5) (w_ei ws (w_ar ws (n_v vs 0) 13)) (v_iv (Value.int x)) k3 k7 k8 k9 k10 k12 k13 k14 k15 d0 d1 d2 f0 f1 f2 f3 f4 f5 f6 f7 f8 f9 hK_0_11 hK_0_12 hK_0_13 kz_0_4 kz_0_5 kz_0_14 ex2 ex3
  have nf6 : fc_1 PRD (23, [3, 18], [0, 1, -1]) ws (vs ++ [Value.int x]) := by
    refine ⟨nf_inA hl rfl, sgq_7 ?_⟩
    · show 1 * v_iv (n_v (vs ++ [Value.int x]) 3) + ((-1) * v_iv (n_v (vs ++ [Value.int x]) 18) + 0) ≤ 0
      simp only [e_3, e_18]
      exact vc_Ro_goBack_9_6 (v_iv (n_v vs 3)) (v_iv (n_v vs 7)) (v_iv (n_v vs 8)) (v_iv (n_v vs 9)) (v_iv (n_v vs 10)) (v_iv (n_v vs 12)) (v_iv (n_v vs 13)) (v_iv (n_v vs 14)) (v_iv (n_v vs 15)) (w_ei ws (w_ar ws (n_v vs 0) 11)) (w_fi ws (n_v vs 0) 14) (w_ei ws (w_ar ws (n_v vs 0) 12)) (w_fi ws (n_v vs 0) 4) (w_fi ws (n_v vs 0) 5) (w_ei ws (w_ar ws (n_v vs 0) 13)) (v_iv (Value.int x)) k3 k7 k8 k9 k10 k12 k13 k14 k15 d0 d1 d2 f0 f1 f2 f3 f4 f5 f6 f7 f8 f9 hK_0_11 hK_0_12 hK_0_13 kz_0_4 kz_0_5 kz_0_14 ex2 ex3
  exact ⟨(fun _ h => (by cases h)), [Value.int x], ag_one hx, List.forall_mem_cons.mpr ⟨⟨show (20 : Nat) < 100 from by decide, nf0⟩, List.forall_mem_cons.mpr ⟨⟨show (20 : Nat) < 100 from by decide, nf1⟩, List.forall_mem_cons.mpr ⟨⟨show (20 : Nat) < 100 from by decide, nf2⟩, List.forall_mem_cons.mpr ⟨⟨show (20 : Nat) < 100 from by decide, nf3⟩, List.forall_mem_cons.mpr ⟨⟨show (20 : Nat) < 100 from by decide, nf4⟩, List.forall_mem_cons.mpr ⟨⟨show (20 : Nat) < 100 from by decide, nf5⟩, List.forall_mem_cons.mpr ⟨⟨show (23 : Nat) < 100 from by decide, nf6⟩, (fun _ h => (by cases h))⟩⟩⟩⟩⟩⟩⟩, (fun _ h => (by cases h))⟩
set_option maxHeartbeats 4000000 in
theorem vc_Ro_goBack_10_0 (x3 : Int) (x7 : Int) (x8 : Int) (x9 : Int) (x10 : Int) (x12 : Int) (x13 : Int) (x14 : Int) (x15 : Int) (x18 : Int) (x19 : Int) (width_0 : Int) (height_0 : Int) (list_0 : Int → Int) (entries_0 : Int) (entryState_0 : Int → Int) (entryNext_0 : Int → Int) (k3 : 0 ≤ x3 ∧ x3 ≤ 48004) (k7 : 0 ≤ x7 ∧ x7 ≤ 3) (k8 : 0 ≤ x8 ∧ x8 ≤ 5999) (k9 : 0 ≤ x9 ∧ x9 ≤ 3) (k10 : 4 ≤ x10 ∧ x10 ≤ 4) (k12 : 0 ≤ x12 ∧ x12 ≤ 3) (k13 : 4 ≤ x13 ∧ x13 ≤ 4) (k14 : 0 ≤ x14 ∧ x14 ≤ 23996) (k15 : 0 ≤ x15 ∧ x15 ≤ 23999) (k18 : 0 ≤ x18 ∧ x18 ≤ 48004) (k19 : 1 ≤ x19 ∧ x19 ≤ 4) (d0 : x9 + 1 ≤ x19 ∧ x19 ≤ x9 + 1) (d1 : x7 + 1 ≤ x19 ∧ x19 ≤ x7 + 1) (d2 : x7 + 0 ≤ x9 ∧ x9 ≤ x7 + 0) (d3 : x9 + 0 ≤ x15 ∧ x15 ≤ x9 + 23996) (d4 : x14 + 0 ≤ x15 ∧ x15 ≤ x14 + 3) (f0 : x19 = x9 + 1) (f1 : (x15 + 1) ≤ (4 * (width_0 * height_0))) (f2 : 1 * x3 + ((-1) * x18 + 0) ≤ 0) (f3 : (x8 + 1) ≤ (width_0 * height_0)) (f5 : ∀ j0 : Int, 0 ≤ j0 → j0 < 4 → ((list_0 (j0) + 1) ≤ entries_0)) (f6 : ∀ j0 : Int, 0 ≤ j0 → j0 < entries_0 → ((entryState_0 (j0) + 1) ≤ (4 * (width_0 * height_0)))) (f7 : ∀ j0 : Int, 0 ≤ j0 → j0 < entries_0 → ((entryNext_0 (j0) + 1) ≤ entries_0)) (f8 : 1 * x18 + ((-1) * entries_0 + 0) ≤ 0) (f10 : 1 * x3 + ((-1) * x18 + 0) ≤ 0) (f11 : x9 = x7) (f12 : x15 = x14 + x9) (f13 : x14 = 4 * x8) (f14 : x9 ≠ x12) (f15 : x9 < x10) (hK_0_11 : ∀ j : Int, 0 ≤ j → j < 4 → (-1) ≤ list_0 j ∧ list_0 j ≤ 48003) (hK_0_12 : ∀ j : Int, 0 ≤ j → j < 48004 → 0 ≤ entryState_0 j ∧ entryState_0 j ≤ 23999) (hK_0_13 : ∀ j : Int, 0 ≤ j → j < 48004 → (-1) ≤ entryNext_0 j ∧ entryNext_0 j ≤ 48003) (kz_0_4 : (-2147483648) ≤ width_0 ∧ width_0 ≤ 2147483647) (kz_0_5 : (-2147483648) ≤ height_0 ∧ height_0 ≤ 2147483647) (kz_0_14 : 0 ≤ entries_0 ∧ entries_0 ≤ 48004) : 1 * x3 + ((-1) * entries_0 + 0) ≤ 0 := by
  first | assumption | (clear f5 f6 f7 hK_0_11 hK_0_12 hK_0_13; omega) | omega | grind
def o_Ro_goBack_10 : or_T := (60, 20, [(0, (2, 0, 0, [9])), (3, (0, 0, 48004, [])), (4, (2, 0, 0, [9])), (7, (0, 0, 3, [])), (8, (0, 0, 5999, [])), (9, (0, 0, 3, [])), (10, (0, 4, 4, [])), (12, (0, 0, 3, [])), (13, (0, 4, 4, [])), (14, (0, 0, 23996, [])), (15, (0, 0, 23999, [])), (18, (0, 0, 48004, [])), (19, (0, 1, 4, []))], [(6, [19, 9], [1]), (20, [15, 4], [50, 2, 0, 1004, 1005, 0, 6, 4, 2, 1, 0, 0, 1, 6, 2, 0, 4, 6, 3, 2, 1, 4, 2, 1, 5]), (23, [3, 18], [0, 1, -1]), (20, [8, 4], [50, 2, 0, 1004, 1005, 0, 6, 4, 2, 1, 0, 0, 1, 6, 3, 2, 1, 4, 2, 1, 5]), (24, [0, 4], []), (20, [4], [50, 1, 1, 14, 11, 5, 2, 0, 4, 0, 9, 4, 5, 3, 0, 11, 7, 0, 0, 1, 2, 0, 14]), (20, [4], [50, 3, 1, 14, 4, 5, 12, 5, 3, 2, 0, 14, 0, 9, 4, 5, 3, 0, 12, 7, 0, 0, 1, 6, 2, 0, 4, 6, 3, 2, 0, 4, 2, 0, 5]), (20, [4], [50, 1, 1, 14, 13, 5, 3, 2, 0, 14, 0, 9, 4, 5, 3, 0, 13, 7, 0, 0, 1, 2, 0, 14]), (20, [18, 4], [30, 0, 1, 0, 0, -1, 1, 14]), (102, [18], [77884452878022414427957444938301440, 9014]), (23, [3, 18], [0, 1, -1]), (7, [9, 7], [0]), (1, [15, 14, 9], []), (3, [14, 13, 8], []), (7, [9, 12], [1]), (7, [9, 10], [2])], [], [], [(20, [3, 4], [30, 0, 1, 0, 0, -1, 1, 14])], [], [(19, 9, 1, 1), (19, 7, 1, 1), (9, 7, 0, 0), (15, 9, 0, 23996), (15, 14, 0, 3)])
set_option maxHeartbeats 8000000 in
theorem oo_Ro_goBack_10 {kA : Nat → ClassId} : or_ok PRD kA GG o_Ro_goBack_10 := by
  refine or_mk fun A ta ws vs hD hth hl => ?_
  intro t0 r0 t3 k3 t4 r4 t7 k7 t8 k8 t9 k9 t10 k10 t12 k12 t13 k13 t14 k14 t15 k15 t18 k18 t19 k19 d0 d1 d2 d3 d4 f0 f1 f2 f3 f4 f5 f6 f7 f8 ta1 w1 le1 s1 f10 f11 f12 f13 f14 f15
  replace f0 := shm_4 f0
  replace f1 := shm_458 f1
  replace f2 := shm_7 f2
  replace f3 := shm_467 f3
  replace f4 := shm_5 f4
  replace f5 := shm_455 f5
  replace f6 := shm_456 f6
  replace f7 := shm_457 f7
  replace f8 := shm_461 f8
  replace f10 := shm_7 f10
  replace f11 := shm_37 f11
  replace f12 := shm_12 f12
  replace f13 := shm_38 f13
  rw [show v_iv (n_v vs 13) = 4 from by omega] at f13
  replace f14 := shm_40 f14
  replace f15 := shm_6 f15
  have q4 : n_v vs 4 = n_v vs 0 := f4.symm
  simp only [q4] at f1 f3 f5 f6 f7 f8
  have cr_0_11 := fdq_100 hD hth r0
  have cr_0_12 := fdq_101 hD hth r0
  have cr_0_13 := fdq_102 hD hth r0
  have hK_0_11 := elq_50 hD hth cr_0_11
  have hK_0_12 := elq_51 hD hth cr_0_12
  have hK_0_13 := elq_52 hD hth cr_0_13
  have kz_0_4 := fdq_103 hD hth r0
  have kz_0_5 := fdq_104 hD hth r0
  have kz_0_14 := fdq_105 hD hth r0
  have nf0 : fc_1 PRD (20, [3, 4], [30, 0, 1, 0, 0, -1, 1, 14]) ws (vs) := by
    refine ⟨nf_in hl rfl, sgq_461 ?_⟩
    · show 1 * v_iv (n_v vs 3) + ((-1) * w_fi ws (n_v vs 4) 14 + 0) ≤ 0
      rw [q4]
      exact vc_Ro_goBack_10_0 (v_iv (n_v vs 3)) (v_iv (n_v vs 7)) (v_iv (n_v vs 8)) (v_iv (n_v vs 9)) (v_iv (n_v vs 10)) (v_iv (n_v vs 12)) (v_iv (n_v vs 13)) (v_iv (n_v vs 14)) (v_iv (n_v vs 15)) (v_iv (n_v vs 18)) (v_iv (n_v vs 19)) (w_fi ws (n_v vs 0) 4) (w_fi ws (n_v vs 0) 5) (w_ei ws (w_ar ws (n_v vs 0) 11)) (w_fi ws (n_v vs 0) 14) (w_ei ws (w_ar ws (n_v vs 0) 12)) (w_ei ws (w_ar ws (n_v vs 0) 13)) k3 k7 k8 k9 k10 k12 k13 k14 k15 k18 k19 d0 d1 d2 d3 d4 f0 f1 f2 f3 f5 f6 f7 f8 f10 f11 f12 f13 f14 f15 hK_0_11 hK_0_12 hK_0_13 kz_0_4 kz_0_5 kz_0_14
  refine ⟨(fun _ h => (by cases h)), [], trivial, ?_, (fun _ h => (by cases h))⟩
  rw [List.append_nil]
  exact List.forall_mem_cons.mpr ⟨⟨show (20 : Nat) < 100 from by decide, nf0⟩, (fun _ h => (by cases h))⟩
def n_Ro_goBack_an : List an_T := [(60, [(0, (2, 0, 0, [9])), (1, (0, 0, 23999, [])), (2, (0, (Int.negSucc 2147483646), 1000000000, [])), (3, (0, 0, 3, [])), (4, (0, 0, 5999, [])), (5, (0, 0, 4, []))], [], (0, 0), [(0, 0, 99940), (1, 9, 4), (0, 0, 100000)], [(1, 5, (Int.negSucc 999999999999), 0), (2, 6, (Int.negSucc 999999999999), 0), (5, 1, (Int.negSucc 999999999999), 0), (6, 2, (Int.negSucc 999999999999), 0)], [], [(2, 0, 0, [9]), (0, 0, 23999, []), (0, (Int.negSucc 2147483646), 1000000000, []), (0, 0, 48004, [])], 0, [], [(20, [4], [50, 1, 1, 14, 11, 5, 2, 0, 4, 0, 9, 4, 5, 3, 0, 11, 7, 0, 0, 1, 2, 0, 14]), (20, [4], [50, 3, 1, 14, 4, 5, 12, 5, 3, 2, 0, 14, 0, 9, 4, 5, 3, 0, 12, 7, 0, 0, 1, 6, 2, 0, 4, 6, 3, 2, 0, 4, 2, 0, 5]), (20, [4], [50, 1, 1, 14, 13, 5, 3, 2, 0, 14, 0, 9, 4, 5, 3, 0, 13, 7, 0, 0, 1, 2, 0, 14]), (20, [8, 4], [50, 2, 0, 1004, 1005, 0, 6, 4, 2, 1, 0, 0, 1, 6, 3, 2, 1, 4, 2, 1, 5]), (20, [3, 4], [30, 0, 1, 0, 0, (Int.negSucc 0), 1, 14]), (24, [0, 4], [])])]
def t_Ro_goBack_ct : ct_L := [(1, 137, e_Ro_enter), (1, 144, e_Ro_next), (123, 117, e_jMath_min1_v116)]
set_option maxRecDepth 100000 in
theorem c_Ro_goBack {l : Launch} {D : va_G} {kA : Nat → ClassId} (h_Ro_enter : ct_ok PRD l D kA GG y_Ro_enter z_Ro_enter e_Ro_enter) (h_Ro_next : ct_ok PRD l D kA GG y_Ro_next z_Ro_next e_Ro_next) : ct_ok PRD l D kA GG y_Ro_goBack z_Ro_goBack e_Ro_goBack := chk_all_ok (FT := [(32, 9, 6), (38, 9, 8), (41, 9, 9)]) (PT := [(38, 9, 8, .int)]) (CT := t_Ro_goBack_ct) (KT := []) (NT := []) (AN := n_Ro_goBack_an) (OT := [o_Ro_goBack_0, o_Ro_goBack_1, o_Ro_goBack_2, o_Ro_goBack_3, o_Ro_goBack_4, o_Ro_goBack_5, o_Ro_goBack_6, o_Ro_goBack_7, o_Ro_goBack_8, o_Ro_goBack_9, o_Ro_goBack_10]) 3 308 (List.forall_mem_cons.mpr ⟨oo_Ro_goBack_0, List.forall_mem_cons.mpr ⟨oo_Ro_goBack_1, List.forall_mem_cons.mpr ⟨oo_Ro_goBack_2, List.forall_mem_cons.mpr ⟨oo_Ro_goBack_3, List.forall_mem_cons.mpr ⟨oo_Ro_goBack_4, List.forall_mem_cons.mpr ⟨oo_Ro_goBack_5, List.forall_mem_cons.mpr ⟨oo_Ro_goBack_6, List.forall_mem_cons.mpr ⟨oo_Ro_goBack_7, List.forall_mem_cons.mpr ⟨oo_Ro_goBack_8, List.forall_mem_cons.mpr ⟨oo_Ro_goBack_9, List.forall_mem_cons.mpr ⟨oo_Ro_goBack_10, List.forall_mem_nil _⟩⟩⟩⟩⟩⟩⟩⟩⟩⟩⟩) (by decide +kernel) ⟨List.forall_mem_cons.mpr ⟨gf_Ro_32, List.forall_mem_cons.mpr ⟨gf_Ro_38, List.forall_mem_cons.mpr ⟨gf_Ro_41, List.forall_mem_nil _⟩⟩⟩, List.forall_mem_cons.mpr ⟨pf_Ro_38, List.forall_mem_nil _⟩, List.forall_mem_cons.mpr ⟨cl_virtual (y := y_Ro_enter) (ci := 9) rfl rfl ⟨_, _, rfl⟩ (by decide +kernel) h_Ro_enter wm_1952 wm_22 wm_1949 wm_1951 wv_9_4 ⟨by decide, by decide, by decide +kernel⟩ (by decide), List.forall_mem_cons.mpr ⟨cl_virtual (y := y_Ro_next) (ci := 9) rfl rfl ⟨_, _, rfl⟩ (by decide +kernel) h_Ro_next wm_1961 wm_22 wm_1958 wm_1960 wv_9_6 ⟨by decide, by decide, by decide +kernel⟩ (by decide), List.forall_mem_cons.mpr ⟨cl_static (y := y_jMath_min1) c_jMath_min1_v116 wm_658 wm_10 wm_1933 wm_657 ⟨by decide, by decide, by decide +kernel⟩ (by decide), List.forall_mem_nil _⟩⟩⟩, List.forall_mem_nil _, List.forall_mem_nil _, GG_pl⟩ (by decide +kernel)

set_option maxHeartbeats 4000000 in
theorem vc_St_findRing_at_gl_0_0 (x3 : Int) (x4 : Int) (from_0 : Int → Int) (to_0 : Int → Int) (gain_0 : Int → Int) (nodes_0 : Int) (arcs_0 : Int) (place_0 : Int → Int) (by_0 : Int → Int) (room_0 : Int → Int) (k3 : (-1) ≤ x3 ∧ x3 ≤ (-1)) (k4 : 0 ≤ x4 ∧ x4 ≤ 0) (f1 : NWL (nodes_0) (arcs_0) (from_0) (to_0) (gain_0)) (hT3 : ∀ j : Int, 0 ≤ j → j < x3 + 73 → (-1) ≤ by_0 j ∧ by_0 j ≤ (-1)) (kz_0_0 : 0 ≤ nodes_0 ∧ nodes_0 ≤ 72) (kz_0_1 : 0 ≤ arcs_0 ∧ arcs_0 ≤ 384) : FRI (nodes_0) (arcs_0) (from_0) (to_0) (room_0) (gain_0) (place_0) (by_0) (x4) := by
  first
    | exact fri_start ‹NWL _ _ _ _ _› (fun w a b => by first | (have q := hT0 w a (by have := (‹NWL _ _ _ _ _›).2.1; omega); omega) | (have q := hT1 w a (by have := (‹NWL _ _ _ _ _›).2.1; omega); omega) | (have q := hT2 w a (by have := (‹NWL _ _ _ _ _›).2.1; omega); omega) | (have q := hT3 w a (by have := (‹NWL _ _ _ _ _›).2.1; omega); omega) | (have q := hT4 w a (by have := (‹NWL _ _ _ _ _›).2.1; omega); omega)) (by omega)
set_option maxHeartbeats 4000000 in
theorem vc_St_findRing_at_gl_0_1 (x3 : Int) (from_0 : Int → Int) (to_0 : Int → Int) (gain_0 : Int → Int) (nodes_0 : Int) (arcs_0 : Int) (by_0 : Int → Int) (k3 : (-1) ≤ x3 ∧ x3 ≤ (-1)) (f1 : NWL (nodes_0) (arcs_0) (from_0) (to_0) (gain_0)) (hT3 : ∀ j : Int, 0 ≤ j → j < x3 + 73 → (-1) ≤ by_0 j ∧ by_0 j ≤ (-1)) (kz_0_0 : 0 ≤ nodes_0 ∧ nodes_0 ≤ 72) (kz_0_1 : 0 ≤ arcs_0 ∧ arcs_0 ≤ 384) : NRG (nodes_0) (from_0) (by_0) := by
  first
    | exact nrg_start (fun w a b => by first | (have q := hT0 w a (by have := (‹NWL _ _ _ _ _›).2.1; omega); omega) | (have q := hT1 w a (by have := (‹NWL _ _ _ _ _›).2.1; omega); omega) | (have q := hT2 w a (by have := (‹NWL _ _ _ _ _›).2.1; omega); omega) | (have q := hT3 w a (by have := (‹NWL _ _ _ _ _›).2.1; omega); omega) | (have q := hT4 w a (by have := (‹NWL _ _ _ _ _›).2.1; omega); omega))
set_option maxHeartbeats 4000000 in
theorem vc_St_findRing_at_gl_0_2 (x1 : Int) (x4 : Int) (nodes_0 : Int) (place_0 : Int → Int) (k1 : 0 ≤ x1 ∧ x1 ≤ 9999) (k4 : 0 ≤ x4 ∧ x4 ≤ 0) (f2 : PBG (nodes_0) (place_0) (x1)) (kz_0_0 : 0 ≤ nodes_0 ∧ nodes_0 ≤ 72) : PBT (nodes_0) (place_0) (x1) (x4) := by
  first
    | (intro v a b; have := ‹PBG _ _ _› v a b; omega)
    | (intro v a b; have := ‹PBU _ _ _ _› v a b; omega)
def o_St_findRing_at_gl_0 : or_T := (10, 5, [(0, (2, 0, 0, [10])), (1, (0, 0, 9999, [])), (3, (0, -1, -1, [])), (4, (0, 0, 0, []))], [(9, [2, 0], [7]), (20, [0], [60, 2, 3, 515, 0, 1, 2, 3, 5]), (20, [0, 1], [60, 1, 1, 522, 0, 6]), (20, [2, 3], [8, -1, -1, 73])], [], [], [(20, [0, 4], [60, 2, 6, 516, 0, 1, 2, 3, 4, 5, 6, 7]), (20, [0], [60, 1, 2, 524, 0, 2, 7]), (20, [0, 1, 4], [60, 1, 1, 520, 0, 6]), (24, [0, 0], [])], [], [])
theorem oo_St_findRing_at_gl_0 {kA : Nat → ClassId} : or_ok PRD kA GG o_St_findRing_at_gl_0 := by
  refine or_mk fun A ta ws vs hD hth hl => ?_
  intro t0 r0 t1 k1 t3 k3 t4 k4 f0 f1 f2 f3
  replace f0 := shm_198 f0
  replace f1 := shm_931 f1
  replace f2 := shm_1224 f2
  replace f3 := shm_30 f3
  have ad_2 : v_ad (n_v vs 2) = w_ar ws (n_v vs 0) 7 := congrArg v_ad f0
  have hT3 : ∀ j : Int, 0 ≤ j → j < v_iv (n_v vs 3) + 73 → (-1) ≤ w_ei ws (w_ar ws (n_v vs 0) 7) j ∧ w_ei ws (w_ar ws (n_v vs 0) 7) j ≤ (-1) := fun j h0 h1 => by have h2 := f3 j.toNat (by omega); rw [ad_2] at h2; exact h2
  have kz_0_0 := fdq_114 hD hth r0
  have kz_0_1 := fdq_113 hD hth r0
  have nf0 : fc_1 PRD (20, [0, 4], [60, 2, 6, 516, 0, 1, 2, 3, 4, 5, 6, 7]) ws (vs) := ⟨nf_in hl rfl, sgq_479 (vc_St_findRing_at_gl_0_0 (v_iv (n_v vs 3)) (v_iv (n_v vs 4)) (w_ei ws (w_ar ws (n_v vs 0) 2)) (w_ei ws (w_ar ws (n_v vs 0) 3)) (w_ei ws (w_ar ws (n_v vs 0) 5)) (w_fi ws (n_v vs 0) 0) (w_fi ws (n_v vs 0) 1) (w_ei ws (w_ar ws (n_v vs 0) 6)) (w_ei ws (w_ar ws (n_v vs 0) 7)) (w_ei ws (w_ar ws (n_v vs 0) 4)) k3 k4 f1 hT3 kz_0_0 kz_0_1)⟩
  have nf1 : fc_1 PRD (20, [0], [60, 1, 2, 524, 0, 2, 7]) ws (vs) := ⟨nf_in hl rfl, sgq_1225 (vc_St_findRing_at_gl_0_1 (v_iv (n_v vs 3)) (w_ei ws (w_ar ws (n_v vs 0) 2)) (w_ei ws (w_ar ws (n_v vs 0) 3)) (w_ei ws (w_ar ws (n_v vs 0) 5)) (w_fi ws (n_v vs 0) 0) (w_fi ws (n_v vs 0) 1) (w_ei ws (w_ar ws (n_v vs 0) 7)) k3 f1 hT3 kz_0_0 kz_0_1)⟩
  have nf2 : fc_1 PRD (20, [0, 1, 4], [60, 1, 1, 520, 0, 6]) ws (vs) := ⟨nf_in hl rfl, sgq_480 (vc_St_findRing_at_gl_0_2 (v_iv (n_v vs 1)) (v_iv (n_v vs 4)) (w_fi ws (n_v vs 0) 0) (w_ei ws (w_ar ws (n_v vs 0) 6)) k1 k4 f2 kz_0_0)⟩
  have nf3 : fc_1 PRD (24, [0, 0], []) ws (vs) := by
    refine ⟨nf_in hl rfl, sgq_1 ?_⟩
    · show n_v vs 0 = n_v vs 0
      first | rfl | simp only [true_and]
  refine ⟨(fun _ h => (by cases h)), [], trivial, ?_, (fun _ h => (by cases h))⟩
  rw [List.append_nil]
  exact List.forall_mem_cons.mpr ⟨⟨show (20 : Nat) < 100 from by decide, nf0⟩, List.forall_mem_cons.mpr ⟨⟨show (20 : Nat) < 100 from by decide, nf1⟩, List.forall_mem_cons.mpr ⟨⟨show (20 : Nat) < 100 from by decide, nf2⟩, List.forall_mem_cons.mpr ⟨⟨show (24 : Nat) < 100 from by decide, nf3⟩, (fun _ h => (by cases h))⟩⟩⟩⟩
set_option maxHeartbeats 4000000 in
theorem vc_St_findRing_at_gl_1_0 (x3 : Int) (x5 : Int) (from_0 : Int → Int) (to_0 : Int → Int) (room_0 : Int → Int) (gain_0 : Int → Int) (place_0 : Int → Int) (by_0 : Int → Int) (nodes_0 : Int) (arcs_0 : Int) (k3 : 288 ≤ x3 ∧ x3 ≤ 288) (k5 : (-1) ≤ x5 ∧ x5 ≤ (-1)) (f1 : FRI (nodes_0) (arcs_0) (from_0) (to_0) (room_0) (gain_0) (place_0) (by_0) (x3)) (f2 : NRG (nodes_0) (from_0) (by_0)) (kz_0_0 : 0 ≤ nodes_0 ∧ nodes_0 ≤ 72) (kz_0_1 : 0 ≤ arcs_0 ∧ arcs_0 ≤ 384) : FRP (nodes_0) (arcs_0) (from_0) (to_0) (room_0) (gain_0) (place_0) (by_0) (x5) := by
  first
    | exact (frp_full ‹FRI _ _ _ _ _ _ _ _ _› ‹NRG _ _ _› (by omega)).elim
set_option maxHeartbeats 4000000 in
theorem vc_St_findRing_at_gl_1_1 (x1 : Int) (x3 : Int) (from_0 : Int → Int) (to_0 : Int → Int) (room_0 : Int → Int) (gain_0 : Int → Int) (place_0 : Int → Int) (by_0 : Int → Int) (nodes_0 : Int) (arcs_0 : Int) (k1 : 0 ≤ x1 ∧ x1 ≤ 9999) (k3 : 288 ≤ x3 ∧ x3 ≤ 288) (f1 : FRI (nodes_0) (arcs_0) (from_0) (to_0) (room_0) (gain_0) (place_0) (by_0) (x3)) (f2 : NRG (nodes_0) (from_0) (by_0)) (kz_0_0 : 0 ≤ nodes_0 ∧ nodes_0 ≤ 72) (kz_0_1 : 0 ≤ arcs_0 ∧ arcs_0 ≤ 384) : PBL (nodes_0) (place_0) (x1) := by
  first
    | exact (frp_full ‹FRI _ _ _ _ _ _ _ _ _› ‹NRG _ _ _› (by omega)).elim
def o_St_findRing_at_gl_1 : or_T := (45, 6, [(0, (2, 0, 0, [10])), (1, (0, 0, 9999, [])), (3, (0, 288, 288, [])), (5, (0, -1, -1, []))], [(20, [2, 3], [60, 2, 6, 516, 0, 1, 2, 3, 4, 5, 6, 7]), (20, [2], [60, 1, 2, 524, 0, 2, 7]), (24, [0, 2], [])], [], [], [(20, [0, 5], [60, 2, 6, 525, 0, 1, 2, 3, 4, 5, 6, 7]), (20, [0, 1], [60, 1, 1, 523, 0, 6])], [], [])
theorem oo_St_findRing_at_gl_1 {kA : Nat → ClassId} : or_ok PRD kA GG o_St_findRing_at_gl_1 := by
  refine or_mk fun A ta ws vs hD hth hl => ?_
  intro t0 r0 t1 k1 t3 k3 t5 k5 f1 f2 f4
  replace f1 := shm_479 f1
  replace f2 := shm_1225 f2
  replace f4 := shm_5 f4
  have q2 : n_v vs 2 = n_v vs 0 := f4.symm
  simp only [q2] at f1 f2
  have kz_0_0 := fdq_114 hD hth r0
  have kz_0_1 := fdq_113 hD hth r0
  have nf0 : fc_1 PRD (20, [0, 5], [60, 2, 6, 525, 0, 1, 2, 3, 4, 5, 6, 7]) ws (vs) := ⟨nf_in hl rfl, sgq_1226 (vc_St_findRing_at_gl_1_0 (v_iv (n_v vs 3)) (v_iv (n_v vs 5)) (w_ei ws (w_ar ws (n_v vs 0) 2)) (w_ei ws (w_ar ws (n_v vs 0) 3)) (w_ei ws (w_ar ws (n_v vs 0) 4)) (w_ei ws (w_ar ws (n_v vs 0) 5)) (w_ei ws (w_ar ws (n_v vs 0) 6)) (w_ei ws (w_ar ws (n_v vs 0) 7)) (w_fi ws (n_v vs 0) 0) (w_fi ws (n_v vs 0) 1) k3 k5 f1 f2 kz_0_0 kz_0_1)⟩
  have nf1 : fc_1 PRD (20, [0, 1], [60, 1, 1, 523, 0, 6]) ws (vs) := ⟨nf_in hl rfl, sgq_1227 (vc_St_findRing_at_gl_1_1 (v_iv (n_v vs 1)) (v_iv (n_v vs 3)) (w_ei ws (w_ar ws (n_v vs 0) 2)) (w_ei ws (w_ar ws (n_v vs 0) 3)) (w_ei ws (w_ar ws (n_v vs 0) 4)) (w_ei ws (w_ar ws (n_v vs 0) 5)) (w_ei ws (w_ar ws (n_v vs 0) 6)) (w_ei ws (w_ar ws (n_v vs 0) 7)) (w_fi ws (n_v vs 0) 0) (w_fi ws (n_v vs 0) 1) k1 k3 f1 f2 kz_0_0 kz_0_1)⟩
  refine ⟨(fun _ h => (by cases h)), [], trivial, ?_, (fun _ h => (by cases h))⟩
  rw [List.append_nil]
  exact List.forall_mem_cons.mpr ⟨⟨show (20 : Nat) < 100 from by decide, nf0⟩, List.forall_mem_cons.mpr ⟨⟨show (20 : Nat) < 100 from by decide, nf1⟩, (fun _ h => (by cases h))⟩⟩
set_option maxHeartbeats 4000000 in
theorem vc_St_findRing_at_gl_2_0 (x3 : Int) (gx : Int) (k3 : 0 ≤ x3 ∧ x3 ≤ 287) (ex2 : gx = x3) : 1 * gx + ((-1) * x3 + 0) ≤ 0 := by
  first
    | omega
  
set_option maxHeartbeats 4000000 in
theorem vc_St_findRing_at_gl_2_1 (x3 : Int) (gx : Int) (k3 : 0 ≤ x3 ∧ x3 ≤ 287) (ex2 : gx = x3) : (-1) * gx + (1 * x3 + 0) ≤ 0 := by
  first
    | omega
  
set_option maxHeartbeats 4000000 in
theorem vc_St_findRing_at_gl_2_2 (x1 : Int) (gy : Int) (k1 : 0 ≤ x1 ∧ x1 ≤ 9999) (ey2 : gy = x1) : 1 * gy + ((-1) * x1 + 0) ≤ 0 := by
  first
    | omega
  
set_option maxHeartbeats 4000000 in
theorem vc_St_findRing_at_gl_2_3 (x1 : Int) (gy : Int) (k1 : 0 ≤ x1 ∧ x1 ≤ 9999) (ey2 : gy = x1) : (-1) * gy + (1 * x1 + 0) ≤ 0 := by
  first
    | omega
  
set_option maxHeartbeats 4000000 in
theorem vc_St_findRing_at_gl_2_4 (x3 : Int) (from_0 : Int → Int) (to_0 : Int → Int) (room_0 : Int → Int) (gain_0 : Int → Int) (place_0 : Int → Int) (by_0 : Int → Int) (nodes_0 : Int) (arcs_0 : Int) (gx : Int) (k3 : 0 ≤ x3 ∧ x3 ≤ 287) (f1 : FRI (nodes_0) (arcs_0) (from_0) (to_0) (room_0) (gain_0) (place_0) (by_0) (x3)) (kz_0_0 : 0 ≤ nodes_0 ∧ nodes_0 ≤ 72) (kz_0_1 : 0 ≤ arcs_0 ∧ arcs_0 ≤ 384) (ex2 : gx = x3) : FRI (nodes_0) (arcs_0) (from_0) (to_0) (room_0) (gain_0) (place_0) (by_0) (gx) := by
  first
    | (rw [show gx = x3 by omega]; assumption)
  
set_option maxHeartbeats 4000000 in
theorem vc_St_findRing_at_gl_2_5 (x1 : Int) (x3 : Int) (place_0 : Int → Int) (nodes_0 : Int) (gx : Int) (gy : Int) (k1 : 0 ≤ x1 ∧ x1 ≤ 9999) (k3 : 0 ≤ x3 ∧ x3 ≤ 287) (f3 : PBT (nodes_0) (place_0) (x1) (x3)) (kz_0_0 : 0 ≤ nodes_0 ∧ nodes_0 ≤ 72) (ex2 : gx = x3) (ey2 : gy = x1) : PBT (nodes_0) (place_0) (gy) (gx) := by
  first
    | (intro v a b; have := ‹PBT _ _ _ _› v a b; omega)
  
set_option maxHeartbeats 4000000 in
theorem vc_St_findRing_at_gl_2_6 (x3 : Int) (gx : Int) (k3 : 0 ≤ x3 ∧ x3 ≤ 287) (ex2 : gx = x3) : gx = x3 := by
  first
    | omega
  
set_option maxHeartbeats 4000000 in
theorem vc_St_findRing_at_gl_2_7 (x1 : Int) (gy : Int) (k1 : 0 ≤ x1 ∧ x1 ≤ 9999) (ey2 : gy = x1) : gy = x1 := by
  first
    | omega
  
def o_St_findRing_at_gl_2 : or_T := (18, 5, [(0, (2, 0, 0, [10])), (1, (0, 0, 9999, [])), (3, (0, 0, 287, []))], [(20, [2, 3], [60, 2, 6, 516, 0, 1, 2, 3, 4, 5, 6, 7]), (20, [2, 1, 3], [60, 1, 1, 520, 0, 6]), (24, [0, 2], [])], [], [(0, 0, 288, []), (0, 0, 9999, [])], [(23, [5, 3], [0, 1, -1]), (23, [5, 3], [0, -1, 1]), (23, [6, 1], [0, 1, -1]), (23, [6, 1], [0, -1, 1]), (20, [2, 5], [60, 2, 6, 516, 0, 1, 2, 3, 4, 5, 6, 7]), (20, [2, 6, 5], [60, 1, 1, 520, 0, 6]), (20, [5, 3], [50, 0, 0, 1, 2, 1, 0, 1, 1]), (20, [6, 1], [50, 0, 0, 1, 2, 1, 0, 1, 1])], [], [])
theorem oo_St_findRing_at_gl_2 {kA : Nat → ClassId} : or_ok PRD kA GG o_St_findRing_at_gl_2 := by
  refine or_mk fun A ta ws vs hD hth hl => ?_
  intro t0 r0 t1 k1 t3 k3 f1 f3 f4
  replace f1 := shm_479 f1
  replace f3 := shm_480 f3
  replace f4 := shm_5 f4
  have q2 : n_v vs 2 = n_v vs 0 := f4.symm
  simp only [q2] at f1 f3
  have kz_0_0 := fdq_114 hD hth r0
  have kz_0_1 := fdq_113 hD hth r0
  obtain ⟨x, ex, hx⟩ := iv_ex (ta := ta) (lo := 0) (hi := 288) (z := v_iv (n_v vs 3)) (by omega) (by omega) (by omega) (by omega)
  have ex2 : v_iv (Value.int x) = v_iv (n_v vs 3) := ex
  have ex3 : 0 ≤ v_iv (Value.int x) ∧ v_iv (Value.int x) ≤ 288 := tv_rng hx
  obtain ⟨y, ey, hy⟩ := iv_ex (ta := ta) (lo := 0) (hi := 9999) (z := v_iv (n_v vs 1)) (by omega) (by omega) (by omega) (by omega)
  have ey2 : v_iv (Value.int y) = v_iv (n_v vs 1) := ey
  have ey3 : 0 ≤ v_iv (Value.int y) ∧ v_iv (Value.int y) ≤ 9999 := tv_rng hy
  have e_1 : n_v (vs ++ [Value.int x, Value.int y]) 1 = n_v vs 1 := n_v_old (by rw [hl]; decide)
  have e_2 : n_v (vs ++ [Value.int x, Value.int y]) 2 = n_v vs 2 := n_v_old (by rw [hl]; decide)
  have e_3 : n_v (vs ++ [Value.int x, Value.int y]) 3 = n_v vs 3 := n_v_old (by rw [hl]; decide)
  have e_5 : n_v (vs ++ [Value.int x, Value.int y]) 5 = Value.int x := n_v_new0 hl
  have e_6 : n_v (vs ++ [Value.int x, Value.int y]) 6 = Value.int y := n_v_new1 hl
  have nf0 : fc_1 PRD (23, [5, 3], [0, 1, -1]) ws (vs ++ [Value.int x, Value.int y]) := by
    refine ⟨nf_inA hl rfl, sgq_7 ?_⟩
    · show 1 * v_iv (n_v (vs ++ [Value.int x, Value.int y]) 5) + ((-1) * v_iv (n_v (vs ++ [Value.int x, Value.int y]) 3) + 0) ≤ 0
      simp only [e_3, e_5]
      exact vc_St_findRing_at_gl_2_0 (v_iv (n_v vs 3)) (v_iv (Value.int x)) k3 ex2
  have nf1 : fc_1 PRD (23, [5, 3], [0, -1, 1]) ws (vs ++ [Value.int x, Value.int y]) := by
    refine ⟨nf_inA hl rfl, sgq_22 ?_⟩
    · show (-1) * v_iv (n_v (vs ++ [Value.int x, Value.int y]) 5) + (1 * v_iv (n_v (vs ++ [Value.int x, Value.int y]) 3) + 0) ≤ 0
      simp only [e_3, e_5]
      exact vc_St_findRing_at_gl_2_1 (v_iv (n_v vs 3)) (v_iv (Value.int x)) k3 ex2
  have nf2 : fc_1 PRD (23, [6, 1], [0, 1, -1]) ws (vs ++ [Value.int x, Value.int y]) := by
    refine ⟨nf_inA hl rfl, sgq_7 ?_⟩
    · show 1 * v_iv (n_v (vs ++ [Value.int x, Value.int y]) 6) + ((-1) * v_iv (n_v (vs ++ [Value.int x, Value.int y]) 1) + 0) ≤ 0
      simp only [e_1, e_6]
      exact vc_St_findRing_at_gl_2_2 (v_iv (n_v vs 1)) (v_iv (Value.int y)) k1 ey2
  have nf3 : fc_1 PRD (23, [6, 1], [0, -1, 1]) ws (vs ++ [Value.int x, Value.int y]) := by
    refine ⟨nf_inA hl rfl, sgq_22 ?_⟩
    · show (-1) * v_iv (n_v (vs ++ [Value.int x, Value.int y]) 6) + (1 * v_iv (n_v (vs ++ [Value.int x, Value.int y]) 1) + 0) ≤ 0
      simp only [e_1, e_6]
      exact vc_St_findRing_at_gl_2_3 (v_iv (n_v vs 1)) (v_iv (Value.int y)) k1 ey2
  have nf4 : fc_1 PRD (20, [2, 5], [60, 2, 6, 516, 0, 1, 2, 3, 4, 5, 6, 7]) ws (vs ++ [Value.int x, Value.int y]) := by
    refine ⟨nf_inA hl rfl, sgq_479 ?_⟩
    · show FRI (w_fi ws (n_v (vs ++ [Value.int x, Value.int y]) 2) 0) (w_fi ws (n_v (vs ++ [Value.int x, Value.int y]) 2) 1) (w_ei ws (w_ar ws (n_v (vs ++ [Value.int x, Value.int y]) 2) 2)) (w_ei ws (w_ar ws (n_v (vs ++ [Value.int x, Value.int y]) 2) 3)) (w_ei ws (w_ar ws (n_v (vs ++ [Value.int x, Value.int y]) 2) 4)) (w_ei ws (w_ar ws (n_v (vs ++ [Value.int x, Value.int y]) 2) 5)) (w_ei ws (w_ar ws (n_v (vs ++ [Value.int x, Value.int y]) 2) 6)) (w_ei ws (w_ar ws (n_v (vs ++ [Value.int x, Value.int y]) 2) 7)) (v_iv (n_v (vs ++ [Value.int x, Value.int y]) 5))
      simp only [e_2, e_5, q2]
      exact vc_St_findRing_at_gl_2_4 (v_iv (n_v vs 3)) (w_ei ws (w_ar ws (n_v vs 0) 2)) (w_ei ws (w_ar ws (n_v vs 0) 3)) (w_ei ws (w_ar ws (n_v vs 0) 4)) (w_ei ws (w_ar ws (n_v vs 0) 5)) (w_ei ws (w_ar ws (n_v vs 0) 6)) (w_ei ws (w_ar ws (n_v vs 0) 7)) (w_fi ws (n_v vs 0) 0) (w_fi ws (n_v vs 0) 1) (v_iv (Value.int x)) k3 f1 kz_0_0 kz_0_1 ex2
  have nf5 : fc_1 PRD (20, [2, 6, 5], [60, 1, 1, 520, 0, 6]) ws (vs ++ [Value.int x, Value.int y]) := by
    refine ⟨nf_inA hl rfl, sgq_480 ?_⟩
    · show PBT (w_fi ws (n_v (vs ++ [Value.int x, Value.int y]) 2) 0) (w_ei ws (w_ar ws (n_v (vs ++ [Value.int x, Value.int y]) 2) 6)) (v_iv (n_v (vs ++ [Value.int x, Value.int y]) 6)) (v_iv (n_v (vs ++ [Value.int x, Value.int y]) 5))
      simp only [e_2, e_5, e_6, q2]
      exact vc_St_findRing_at_gl_2_5 (v_iv (n_v vs 1)) (v_iv (n_v vs 3)) (w_ei ws (w_ar ws (n_v vs 0) 6)) (w_fi ws (n_v vs 0) 0) (v_iv (Value.int x)) (v_iv (Value.int y)) k1 k3 f3 kz_0_0 ex2 ey2
  have nf6 : fc_1 PRD (20, [5, 3], [50, 0, 0, 1, 2, 1, 0, 1, 1]) ws (vs ++ [Value.int x, Value.int y]) := by
    refine ⟨nf_inA hl rfl, sgq_48 ?_⟩
    · show v_iv (n_v (vs ++ [Value.int x, Value.int y]) 5) = v_iv (n_v (vs ++ [Value.int x, Value.int y]) 3)
      simp only [e_3, e_5]
      exact vc_St_findRing_at_gl_2_6 (v_iv (n_v vs 3)) (v_iv (Value.int x)) k3 ex2
  have nf7 : fc_1 PRD (20, [6, 1], [50, 0, 0, 1, 2, 1, 0, 1, 1]) ws (vs ++ [Value.int x, Value.int y]) := by
    refine ⟨nf_inA hl rfl, sgq_48 ?_⟩
    · show v_iv (n_v (vs ++ [Value.int x, Value.int y]) 6) = v_iv (n_v (vs ++ [Value.int x, Value.int y]) 1)
      simp only [e_1, e_6]
      exact vc_St_findRing_at_gl_2_7 (v_iv (n_v vs 1)) (v_iv (Value.int y)) k1 ey2
  exact ⟨(fun _ h => (by cases h)), [Value.int x, Value.int y], ag_two hx hy, List.forall_mem_cons.mpr ⟨⟨show (23 : Nat) < 100 from by decide, nf0⟩, List.forall_mem_cons.mpr ⟨⟨show (23 : Nat) < 100 from by decide, nf1⟩, List.forall_mem_cons.mpr ⟨⟨show (23 : Nat) < 100 from by decide, nf2⟩, List.forall_mem_cons.mpr ⟨⟨show (23 : Nat) < 100 from by decide, nf3⟩, List.forall_mem_cons.mpr ⟨⟨show (20 : Nat) < 100 from by decide, nf4⟩, List.forall_mem_cons.mpr ⟨⟨show (20 : Nat) < 100 from by decide, nf5⟩, List.forall_mem_cons.mpr ⟨⟨show (20 : Nat) < 100 from by decide, nf6⟩, List.forall_mem_cons.mpr ⟨⟨show (20 : Nat) < 100 from by decide, nf7⟩, (fun _ h => (by cases h))⟩⟩⟩⟩⟩⟩⟩⟩, (fun _ h => (by cases h))⟩
set_option maxHeartbeats 4000000 in
theorem vc_St_findRing_at_gl_3_0 (x3 : Int) (x5 : Int) (x7 : Int) (x10 : Int) (from_0 : Int → Int) (to_0 : Int → Int) (room_0 : Int → Int) (gain_0 : Int → Int) (place_0 : Int → Int) (by_0 : Int → Int) (nodes_0 : Int) (arcs_0 : Int) (k3 : 0 ≤ x3 ∧ x3 ≤ 287) (k5 : 0 ≤ x5 ∧ x5 ≤ 288) (k7 : 1 ≤ x7 ∧ x7 ≤ 1) (k10 : 1 ≤ x10 ∧ x10 ≤ 288) (d0 : x3 + 1 ≤ x10 ∧ x10 ≤ x3 + 1) (f2 : 1 * x5 + ((-1) * x3 + 0) ≤ 0) (f3 : (-1) * x5 + (1 * x3 + 0) ≤ 0) (f9 : RAP (nodes_0) (arcs_0) (from_0) (to_0) (room_0) (gain_0) (place_0) (by_0) (x5) (x7)) (f13 : x7 ≠ 0) (kz_0_0 : 0 ≤ nodes_0 ∧ nodes_0 ≤ 72) (kz_0_1 : 0 ≤ arcs_0 ∧ arcs_0 ≤ 384) : FRI (nodes_0) (arcs_0) (from_0) (to_0) (room_0) (gain_0) (place_0) (by_0) (x10) := by
  first
    | (rw [show x10 = x5 + 1 by omega]; exact (‹RAP _ _ _ _ _ _ _ _ _ _›).2.1 (by omega))
set_option maxHeartbeats 4000000 in
theorem vc_St_findRing_at_gl_3_1 (x5 : Int) (x7 : Int) (x8 : Int) (from_0 : Int → Int) (to_0 : Int → Int) (room_0 : Int → Int) (gain_0 : Int → Int) (place_0 : Int → Int) (by_0 : Int → Int) (nodes_0 : Int) (arcs_0 : Int) (k5 : 0 ≤ x5 ∧ x5 ≤ 288) (k7 : 1 ≤ x7 ∧ x7 ≤ 1) (k8 : (-1) ≤ x8 ∧ x8 ≤ (-1)) (f9 : RAP (nodes_0) (arcs_0) (from_0) (to_0) (room_0) (gain_0) (place_0) (by_0) (x5) (x7)) (f11 : SNB (nodes_0) (from_0) (by_0) (x8)) (f13 : x7 ≠ 0) (kz_0_0 : 0 ≤ nodes_0 ∧ nodes_0 ≤ 72) (kz_0_1 : 0 ≤ arcs_0 ∧ arcs_0 ≤ 384) : NRG (nodes_0) (from_0) (by_0) := by
  first
    | exact nrg_of ((‹RAP _ _ _ _ _ _ _ _ _ _›).2.1 (by omega)) ‹SNB _ _ _ _› (by omega)
set_option maxHeartbeats 4000000 in
theorem vc_St_findRing_at_gl_3_2 (x1 : Int) (x3 : Int) (x5 : Int) (x6 : Int) (x10 : Int) (place_0 : Int → Int) (nodes_0 : Int) (k1 : 0 ≤ x1 ∧ x1 ≤ 9999) (k3 : 0 ≤ x3 ∧ x3 ≤ 287) (k5 : 0 ≤ x5 ∧ x5 ≤ 288) (k6 : 0 ≤ x6 ∧ x6 ≤ 9999) (k10 : 1 ≤ x10 ∧ x10 ≤ 288) (d0 : x3 + 1 ≤ x10 ∧ x10 ≤ x3 + 1) (f2 : 1 * x5 + ((-1) * x3 + 0) ≤ 0) (f3 : (-1) * x5 + (1 * x3 + 0) ≤ 0) (f4 : 1 * x6 + ((-1) * x1 + 0) ≤ 0) (f5 : (-1) * x6 + (1 * x1 + 0) ≤ 0) (f10 : PBU (nodes_0) (place_0) (x6) (x5)) (kz_0_0 : 0 ≤ nodes_0 ∧ nodes_0 ≤ 72) : PBT (nodes_0) (place_0) (x1) (x10) := by
  first
    | (intro v a b; have := ‹PBG _ _ _› v a b; omega)
    | (intro v a b; have := ‹PBU _ _ _ _› v a b; omega)
def o_St_findRing_at_gl_3 : or_T := (10, 11, [(0, (2, 0, 0, [10])), (1, (0, 0, 9999, [])), (3, (0, 0, 287, [])), (5, (0, 0, 288, [])), (6, (0, 0, 9999, [])), (7, (0, 1, 1, [])), (8, (0, -1, -1, [])), (10, (0, 1, 288, []))], [(23, [5, 3], [0, 1, -1]), (23, [5, 3], [0, -1, 1]), (23, [6, 1], [0, 1, -1]), (23, [6, 1], [0, -1, 1]), (24, [0, 2], []), (20, [2, 5, 7], [60, 2, 6, 518, 0, 1, 2, 3, 4, 5, 6, 7]), (20, [2, 6, 5], [60, 1, 1, 521, 0, 6]), (20, [2, 8], [60, 1, 2, 512, 0, 2, 7]), (102, [7], [21267647932558653966460912964485513216]), (8, [7], [1])], [], [], [(20, [2, 10], [60, 2, 6, 516, 0, 1, 2, 3, 4, 5, 6, 7]), (20, [2], [60, 1, 2, 524, 0, 2, 7]), (20, [2, 1, 10], [60, 1, 1, 520, 0, 6])], [], [(10, 3, 1, 1)])
theorem oo_St_findRing_at_gl_3 {kA : Nat → ClassId} : or_ok PRD kA GG o_St_findRing_at_gl_3 := by
  refine or_mk fun A ta ws vs hD hth hl => ?_
  intro t0 r0 t1 k1 t3 k3 t5 k5 t6 k6 t7 k7 t8 k8 t10 k10 d0 f2 f3 f4 f5 f8 f9 f10 f11 ta1 w1 le1 s1 f13
  replace f2 := shm_7 f2
  replace f3 := shm_22 f3
  replace f4 := shm_7 f4
  replace f5 := shm_22 f5
  replace f8 := shm_5 f8
  replace f9 := shm_484 f9
  replace f10 := shm_485 f10
  replace f11 := shm_923 f11
  replace f13 := shm_142 f13
  have q2 : n_v vs 2 = n_v vs 0 := f8.symm
  simp only [q2] at f9 f10 f11
  have kz_0_0 := fdq_114 hD hth r0
  have kz_0_1 := fdq_113 hD hth r0
  have nf0 : fc_1 PRD (20, [2, 10], [60, 2, 6, 516, 0, 1, 2, 3, 4, 5, 6, 7]) ws (vs) := by
    refine ⟨nf_in hl rfl, sgq_479 ?_⟩
    · show FRI (w_fi ws (n_v vs 2) 0) (w_fi ws (n_v vs 2) 1) (w_ei ws (w_ar ws (n_v vs 2) 2)) (w_ei ws (w_ar ws (n_v vs 2) 3)) (w_ei ws (w_ar ws (n_v vs 2) 4)) (w_ei ws (w_ar ws (n_v vs 2) 5)) (w_ei ws (w_ar ws (n_v vs 2) 6)) (w_ei ws (w_ar ws (n_v vs 2) 7)) (v_iv (n_v vs 10))
      rw [q2]
      exact vc_St_findRing_at_gl_3_0 (v_iv (n_v vs 3)) (v_iv (n_v vs 5)) (v_iv (n_v vs 7)) (v_iv (n_v vs 10)) (w_ei ws (w_ar ws (n_v vs 0) 2)) (w_ei ws (w_ar ws (n_v vs 0) 3)) (w_ei ws (w_ar ws (n_v vs 0) 4)) (w_ei ws (w_ar ws (n_v vs 0) 5)) (w_ei ws (w_ar ws (n_v vs 0) 6)) (w_ei ws (w_ar ws (n_v vs 0) 7)) (w_fi ws (n_v vs 0) 0) (w_fi ws (n_v vs 0) 1) k3 k5 k7 k10 d0 f2 f3 f9 f13 kz_0_0 kz_0_1
  have nf1 : fc_1 PRD (20, [2], [60, 1, 2, 524, 0, 2, 7]) ws (vs) := by
    refine ⟨nf_in hl rfl, sgq_1225 ?_⟩
    · show NRG (w_fi ws (n_v vs 2) 0) (w_ei ws (w_ar ws (n_v vs 2) 2)) (w_ei ws (w_ar ws (n_v vs 2) 7))
      rw [q2]
      exact vc_St_findRing_at_gl_3_1 (v_iv (n_v vs 5)) (v_iv (n_v vs 7)) (v_iv (n_v vs 8)) (w_ei ws (w_ar ws (n_v vs 0) 2)) (w_ei ws (w_ar ws (n_v vs 0) 3)) (w_ei ws (w_ar ws (n_v vs 0) 4)) (w_ei ws (w_ar ws (n_v vs 0) 5)) (w_ei ws (w_ar ws (n_v vs 0) 6)) (w_ei ws (w_ar ws (n_v vs 0) 7)) (w_fi ws (n_v vs 0) 0) (w_fi ws (n_v vs 0) 1) k5 k7 k8 f9 f11 f13 kz_0_0 kz_0_1
  have nf2 : fc_1 PRD (20, [2, 1, 10], [60, 1, 1, 520, 0, 6]) ws (vs) := by
    refine ⟨nf_in hl rfl, sgq_480 ?_⟩
    · show PBT (w_fi ws (n_v vs 2) 0) (w_ei ws (w_ar ws (n_v vs 2) 6)) (v_iv (n_v vs 1)) (v_iv (n_v vs 10))
      rw [q2]
      exact vc_St_findRing_at_gl_3_2 (v_iv (n_v vs 1)) (v_iv (n_v vs 3)) (v_iv (n_v vs 5)) (v_iv (n_v vs 6)) (v_iv (n_v vs 10)) (w_ei ws (w_ar ws (n_v vs 0) 6)) (w_fi ws (n_v vs 0) 0) k1 k3 k5 k6 k10 d0 f2 f3 f4 f5 f10 kz_0_0
  refine ⟨(fun _ h => (by cases h)), [], trivial, ?_, (fun _ h => (by cases h))⟩
  rw [List.append_nil]
  exact List.forall_mem_cons.mpr ⟨⟨show (20 : Nat) < 100 from by decide, nf0⟩, List.forall_mem_cons.mpr ⟨⟨show (20 : Nat) < 100 from by decide, nf1⟩, List.forall_mem_cons.mpr ⟨⟨show (20 : Nat) < 100 from by decide, nf2⟩, (fun _ h => (by cases h))⟩⟩⟩
set_option maxHeartbeats 4000000 in
theorem vc_St_findRing_at_gl_4_0 (x5 : Int) (x7 : Int) (x8 : Int) (from_0 : Int → Int) (to_0 : Int → Int) (room_0 : Int → Int) (gain_0 : Int → Int) (place_0 : Int → Int) (by_0 : Int → Int) (nodes_0 : Int) (arcs_0 : Int) (k5 : 0 ≤ x5 ∧ x5 ≤ 288) (k7 : 1 ≤ x7 ∧ x7 ≤ 1) (k8 : 0 ≤ x8 ∧ x8 ≤ 71) (f8 : RAP (nodes_0) (arcs_0) (from_0) (to_0) (room_0) (gain_0) (place_0) (by_0) (x5) (x7)) (f10 : SNB (nodes_0) (from_0) (by_0) (x8)) (f12 : x7 ≠ 0) (kz_0_0 : 0 ≤ nodes_0 ∧ nodes_0 ≤ 72) (kz_0_1 : 0 ≤ arcs_0 ∧ arcs_0 ≤ 384) : FRP (nodes_0) (arcs_0) (from_0) (to_0) (room_0) (gain_0) (place_0) (by_0) (x8) := by
  first
    | exact frp_ring ‹RAP _ _ _ _ _ _ _ _ _ _› (by omega) ‹SNB _ _ _ _› (by omega)
set_option maxHeartbeats 4000000 in
theorem vc_St_findRing_at_gl_4_1 (x1 : Int) (x3 : Int) (x5 : Int) (x6 : Int) (place_0 : Int → Int) (nodes_0 : Int) (k1 : 0 ≤ x1 ∧ x1 ≤ 9999) (k3 : 0 ≤ x3 ∧ x3 ≤ 287) (k5 : 0 ≤ x5 ∧ x5 ≤ 288) (k6 : 0 ≤ x6 ∧ x6 ≤ 9999) (f1 : 1 * x5 + ((-1) * x3 + 0) ≤ 0) (f2 : (-1) * x5 + (1 * x3 + 0) ≤ 0) (f3 : 1 * x6 + ((-1) * x1 + 0) ≤ 0) (f4 : (-1) * x6 + (1 * x1 + 0) ≤ 0) (f9 : PBU (nodes_0) (place_0) (x6) (x5)) (kz_0_0 : 0 ≤ nodes_0 ∧ nodes_0 ≤ 72) : PBL (nodes_0) (place_0) (x1) := by
  first
    | (intro v a b; have := ‹PBU _ _ _ _› v a b; omega)
def o_St_findRing_at_gl_4 : or_T := (37, 10, [(0, (2, 0, 0, [10])), (1, (0, 0, 9999, [])), (3, (0, 0, 287, [])), (5, (0, 0, 288, [])), (6, (0, 0, 9999, [])), (7, (0, 1, 1, [])), (8, (0, 0, 71, []))], [(23, [5, 3], [0, 1, -1]), (23, [5, 3], [0, -1, 1]), (23, [6, 1], [0, 1, -1]), (23, [6, 1], [0, -1, 1]), (24, [0, 2], []), (20, [2, 5, 7], [60, 2, 6, 518, 0, 1, 2, 3, 4, 5, 6, 7]), (20, [2, 6, 5], [60, 1, 1, 521, 0, 6]), (20, [2, 8], [60, 1, 2, 512, 0, 2, 7]), (102, [7], [21267647932558653966460912964485513216]), (8, [7], [1])], [], [], [(20, [0, 8], [60, 2, 6, 525, 0, 1, 2, 3, 4, 5, 6, 7]), (20, [0, 1], [60, 1, 1, 523, 0, 6])], [], [])
theorem oo_St_findRing_at_gl_4 {kA : Nat → ClassId} : or_ok PRD kA GG o_St_findRing_at_gl_4 := by
  refine or_mk fun A ta ws vs hD hth hl => ?_
  intro t0 r0 t1 k1 t3 k3 t5 k5 t6 k6 t7 k7 t8 k8 f1 f2 f3 f4 f7 f8 f9 f10 ta1 w1 le1 s1 f12
  replace f7 := shm_5 f7
  replace f8 := shm_484 f8
  replace f9 := shm_485 f9
  replace f10 := shm_923 f10
  have q2 : n_v vs 2 = n_v vs 0 := f7.symm
  simp only [q2] at f8 f9 f10
  have kz_0_0 := fdq_114 hD hth r0
  have kz_0_1 := fdq_113 hD hth r0
  have nf0 : fc_1 PRD (20, [0, 8], [60, 2, 6, 525, 0, 1, 2, 3, 4, 5, 6, 7]) ws (vs) := ⟨nf_in hl rfl, sgq_1226 (vc_St_findRing_at_gl_4_0 (v_iv (n_v vs 5)) (v_iv (n_v vs 7)) (v_iv (n_v vs 8)) (w_ei ws (w_ar ws (n_v vs 0) 2)) (w_ei ws (w_ar ws (n_v vs 0) 3)) (w_ei ws (w_ar ws (n_v vs 0) 4)) (w_ei ws (w_ar ws (n_v vs 0) 5)) (w_ei ws (w_ar ws (n_v vs 0) 6)) (w_ei ws (w_ar ws (n_v vs 0) 7)) (w_fi ws (n_v vs 0) 0) (w_fi ws (n_v vs 0) 1) k5 k7 k8 f8 f10 (shm_142 f12) kz_0_0 kz_0_1)⟩
  have nf1 : fc_1 PRD (20, [0, 1], [60, 1, 1, 523, 0, 6]) ws (vs) := ⟨nf_in hl rfl, sgq_1227 (vc_St_findRing_at_gl_4_1 (v_iv (n_v vs 1)) (v_iv (n_v vs 3)) (v_iv (n_v vs 5)) (v_iv (n_v vs 6)) (w_ei ws (w_ar ws (n_v vs 0) 6)) (w_fi ws (n_v vs 0) 0) k1 k3 k5 k6 (shm_7 f1) (shm_22 f2) (shm_7 f3) (shm_22 f4) f9 kz_0_0)⟩
  refine ⟨(fun _ h => (by cases h)), [], trivial, ?_, (fun _ h => (by cases h))⟩
  rw [List.append_nil]
  exact List.forall_mem_cons.mpr ⟨⟨show (20 : Nat) < 100 from by decide, nf0⟩, List.forall_mem_cons.mpr ⟨⟨show (20 : Nat) < 100 from by decide, nf1⟩, (fun _ h => (by cases h))⟩⟩
set_option maxHeartbeats 4000000 in
theorem vc_St_findRing_at_gl_5_0 (x5 : Int) (x7 : Int) (x8 : Int) (from_0 : Int → Int) (to_0 : Int → Int) (room_0 : Int → Int) (gain_0 : Int → Int) (place_0 : Int → Int) (by_0 : Int → Int) (nodes_0 : Int) (arcs_0 : Int) (k5 : 0 ≤ x5 ∧ x5 ≤ 288) (k7 : 0 ≤ x7 ∧ x7 ≤ 0) (k8 : (-1) ≤ x8 ∧ x8 ≤ (-1)) (f0 : x7 = 0) (f8 : RAP (nodes_0) (arcs_0) (from_0) (to_0) (room_0) (gain_0) (place_0) (by_0) (x5) (x7)) (kz_0_0 : 0 ≤ nodes_0 ∧ nodes_0 ≤ 72) (kz_0_1 : 0 ≤ arcs_0 ∧ arcs_0 ≤ 384) : FRP (nodes_0) (arcs_0) (from_0) (to_0) (room_0) (gain_0) (place_0) (by_0) (x8) := by
  first
    | exact frp_none ‹RAP _ _ _ _ _ _ _ _ _ _› (by omega) (by omega)
set_option maxHeartbeats 4000000 in
theorem vc_St_findRing_at_gl_5_1 (x1 : Int) (x3 : Int) (x5 : Int) (x6 : Int) (place_0 : Int → Int) (nodes_0 : Int) (k1 : 0 ≤ x1 ∧ x1 ≤ 9999) (k3 : 0 ≤ x3 ∧ x3 ≤ 287) (k5 : 0 ≤ x5 ∧ x5 ≤ 288) (k6 : 0 ≤ x6 ∧ x6 ≤ 9999) (f1 : 1 * x5 + ((-1) * x3 + 0) ≤ 0) (f2 : (-1) * x5 + (1 * x3 + 0) ≤ 0) (f3 : 1 * x6 + ((-1) * x1 + 0) ≤ 0) (f4 : (-1) * x6 + (1 * x1 + 0) ≤ 0) (f9 : PBU (nodes_0) (place_0) (x6) (x5)) (kz_0_0 : 0 ≤ nodes_0 ∧ nodes_0 ≤ 72) : PBL (nodes_0) (place_0) (x1) := by
  first
    | (intro v a b; have := ‹PBU _ _ _ _› v a b; omega)
def o_St_findRing_at_gl_5 : or_T := (25, 9, [(0, (2, 0, 0, [10])), (1, (0, 0, 9999, [])), (3, (0, 0, 287, [])), (5, (0, 0, 288, [])), (6, (0, 0, 9999, [])), (7, (0, 0, 0, [])), (8, (0, -1, -1, []))], [(8, [7], [0]), (23, [5, 3], [0, 1, -1]), (23, [5, 3], [0, -1, 1]), (23, [6, 1], [0, 1, -1]), (23, [6, 1], [0, -1, 1]), (24, [0, 2], []), (20, [2, 5, 7], [60, 2, 6, 518, 0, 1, 2, 3, 4, 5, 6, 7]), (20, [2, 6, 5], [60, 1, 1, 521, 0, 6])], [], [], [(20, [0, 8], [60, 2, 6, 525, 0, 1, 2, 3, 4, 5, 6, 7]), (20, [0, 1], [60, 1, 1, 523, 0, 6])], [], [])
theorem oo_St_findRing_at_gl_5 {kA : Nat → ClassId} : or_ok PRD kA GG o_St_findRing_at_gl_5 := by
  refine or_mk fun A ta ws vs hD hth hl => ?_
  intro t0 r0 t1 k1 t3 k3 t5 k5 t6 k6 t7 k7 t8 k8 f0 f1 f2 f3 f4 f7 f8 f9
  replace f7 := shm_5 f7
  replace f8 := shm_484 f8
  replace f9 := shm_485 f9
  have q2 : n_v vs 2 = n_v vs 0 := f7.symm
  simp only [q2] at f8 f9
  have kz_0_0 := fdq_114 hD hth r0
  have kz_0_1 := fdq_113 hD hth r0
  have nf0 : fc_1 PRD (20, [0, 8], [60, 2, 6, 525, 0, 1, 2, 3, 4, 5, 6, 7]) ws (vs) := ⟨nf_in hl rfl, sgq_1226 (vc_St_findRing_at_gl_5_0 (v_iv (n_v vs 5)) (v_iv (n_v vs 7)) (v_iv (n_v vs 8)) (w_ei ws (w_ar ws (n_v vs 0) 2)) (w_ei ws (w_ar ws (n_v vs 0) 3)) (w_ei ws (w_ar ws (n_v vs 0) 4)) (w_ei ws (w_ar ws (n_v vs 0) 5)) (w_ei ws (w_ar ws (n_v vs 0) 6)) (w_ei ws (w_ar ws (n_v vs 0) 7)) (w_fi ws (n_v vs 0) 0) (w_fi ws (n_v vs 0) 1) k5 k7 k8 (shm_192 f0) f8 kz_0_0 kz_0_1)⟩
  have nf1 : fc_1 PRD (20, [0, 1], [60, 1, 1, 523, 0, 6]) ws (vs) := ⟨nf_in hl rfl, sgq_1227 (vc_St_findRing_at_gl_5_1 (v_iv (n_v vs 1)) (v_iv (n_v vs 3)) (v_iv (n_v vs 5)) (v_iv (n_v vs 6)) (w_ei ws (w_ar ws (n_v vs 0) 6)) (w_fi ws (n_v vs 0) 0) k1 k3 k5 k6 (shm_7 f1) (shm_22 f2) (shm_7 f3) (shm_22 f4) f9 kz_0_0)⟩
  refine ⟨(fun _ h => (by cases h)), [], trivial, ?_, (fun _ h => (by cases h))⟩
  rw [List.append_nil]
  exact List.forall_mem_cons.mpr ⟨⟨show (20 : Nat) < 100 from by decide, nf0⟩, List.forall_mem_cons.mpr ⟨⟨show (20 : Nat) < 100 from by decide, nf1⟩, (fun _ h => (by cases h))⟩⟩
def n_St_findRing_at_gl_an : List an_T := [(10, [(0, (2, 0, 0, [10])), (1, (0, 0, 288, []))], [], (0, 0), [(0, 0, 99990), (1, 3, 288), (0, 0, 100000)], [], [], [(2, 0, 0, [10]), (0, 0, 9999, [])], 0, [], [(20, [2, 3], [60, 2, 6, 516, 0, 1, 2, 3, 4, 5, 6, 7]), (20, [2], [60, 1, 2, 524, 0, 2, 7]), (20, [2, 1, 3], [60, 1, 1, 520, 0, 6]), (24, [0, 2], [])])]
def t_St_findRing_at_gl_ct : ct_L := [(1, 64, e_St_ringInBy), (18, 45, e_jArr_fill1_v117), (58, 60, e_St_raise_at_gl)]
set_option maxRecDepth 100000 in
theorem c_St_findRing_at_gl {l : Launch} {D : va_G} {kA : Nat → ClassId} (h_St_raise_at_gl : ct_ok PRD l D kA GG y_St_raise_at_gl z_St_raise_at_gl e_St_raise_at_gl) (h_St_ringInBy : ct_ok PRD l D kA GG y_St_ringInBy z_St_ringInBy e_St_ringInBy) : ct_ok PRD l D kA GG y_St_findRing_at_gl z_St_findRing_at_gl e_St_findRing_at_gl := chk_all_ok (FT := [(34, 10, 7)]) (PT := []) (CT := t_St_findRing_at_gl_ct) (KT := []) (NT := []) (AN := n_St_findRing_at_gl_an) (OT := [o_St_findRing_at_gl_0, o_St_findRing_at_gl_1, o_St_findRing_at_gl_2, o_St_findRing_at_gl_3, o_St_findRing_at_gl_4, o_St_findRing_at_gl_5]) 3 200 (List.forall_mem_cons.mpr ⟨oo_St_findRing_at_gl_0, List.forall_mem_cons.mpr ⟨oo_St_findRing_at_gl_1, List.forall_mem_cons.mpr ⟨oo_St_findRing_at_gl_2, List.forall_mem_cons.mpr ⟨oo_St_findRing_at_gl_3, List.forall_mem_cons.mpr ⟨oo_St_findRing_at_gl_4, List.forall_mem_cons.mpr ⟨oo_St_findRing_at_gl_5, List.forall_mem_nil _⟩⟩⟩⟩⟩⟩) (by decide +kernel) ⟨List.forall_mem_cons.mpr ⟨gf_St_34, List.forall_mem_nil _⟩, List.forall_mem_nil _, List.forall_mem_cons.mpr ⟨cl_virtual (y := y_St_ringInBy) (ci := 10) rfl rfl ⟨_, _, rfl⟩ (by decide +kernel) h_St_ringInBy wm_1356 wm_19 wm_1353 wm_1355 wv_4_14 ⟨by decide, by decide, by decide +kernel⟩ (by decide), List.forall_mem_cons.mpr ⟨cl_static (y := y_jArr_fill1) c_jArr_fill1_v117 wm_55 wm_4 wm_1343 wm_54 ⟨by decide, by decide, by decide +kernel⟩ (by decide), List.forall_mem_cons.mpr ⟨cl_virtual (y := y_St_raise_at_gl) (ci := 10) rfl rfl ⟨_, _, rfl⟩ (by decide +kernel) h_St_raise_at_gl wm_1352 wm_19 wm_1349 wm_1351 wv_4_13 ⟨by decide, by decide, by decide +kernel⟩ (by decide), List.forall_mem_nil _⟩⟩⟩, List.forall_mem_nil _, List.forall_mem_nil _, GG_pl⟩ (by decide +kernel)
set_option maxHeartbeats 4000000 in
theorem vc_St_findRing_at_gr_0_0 (x3 : Int) (k3 : 0 ≤ x3 ∧ x3 ≤ 0) : 0 ≤ x3 := by
  first
    | omega
  
def o_St_findRing_at_gr_0 : or_T := (10, 4, [(3, (0, 0, 0, []))], [], [], [], [(20, [3], [50, 0, 0, 0, 2, 0, 0, 1, 0]), (24, [0, 0], [])], [], [])
theorem oo_St_findRing_at_gr_0 {kA : Nat → ClassId} : or_ok PRD kA GG o_St_findRing_at_gr_0 := by
  refine or_mk fun A ta ws vs hD hth hl => ?_
  intro t3 k3
  have nf0 : fc_1 PRD (20, [3], [50, 0, 0, 0, 2, 0, 0, 1, 0]) ws (vs) := ⟨nf_in hl rfl, sgq_722 (vc_St_findRing_at_gr_0_0 (v_iv (n_v vs 3)) k3)⟩
  have nf1 : fc_1 PRD (24, [0, 0], []) ws (vs) := by
    refine ⟨nf_in hl rfl, sgq_1 ?_⟩
    · show n_v vs 0 = n_v vs 0
      first | rfl | simp only [true_and]
  refine ⟨(fun _ h => (by cases h)), [], trivial, ?_, (fun _ h => (by cases h))⟩
  rw [List.append_nil]
  exact List.forall_mem_cons.mpr ⟨⟨show (20 : Nat) < 100 from by decide, nf0⟩, List.forall_mem_cons.mpr ⟨⟨show (24 : Nat) < 100 from by decide, nf1⟩, (fun _ h => (by cases h))⟩⟩
set_option maxHeartbeats 4000000 in
theorem vc_St_findRing_at_gr_1_0 (x4 : Int) (k4 : (-1) ≤ x4 ∧ x4 ≤ (-1)) : (x4 = (-1)) ∨ (0 ≤ x4) := by
  first
    | omega
  
set_option maxHeartbeats 4000000 in
theorem vc_St_findRing_at_gr_1_1 (x4 : Int) (from_0 : Int → Int) (by_0 : Int → Int) (k4 : (-1) ≤ x4 ∧ x4 ≤ (-1)) : RNGX (from_0) (by_0) (x4) := by
  first
    | exact fun q => absurd (by omega) q
    | exact (‹SNB _ _ _ _›).1
def o_St_findRing_at_gr_1 : or_T := (45, 5, [(4, (0, -1, -1, []))], [], [], [], [(20, [4], [50, 0, 0, 3, 6, 1, 2, 1, 0, 0, -1, 0, 2, 0, 0, 1, 0]), (20, [0, 4], [60, 0, 2, 542, 2, 7])], [], [])
theorem oo_St_findRing_at_gr_1 {kA : Nat → ClassId} : or_ok PRD kA GG o_St_findRing_at_gr_1 := by
  refine or_mk fun A ta ws vs hD hth hl => ?_
  intro t4 k4
  have nf0 : fc_1 PRD (20, [4], [50, 0, 0, 3, 6, 1, 2, 1, 0, 0, -1, 0, 2, 0, 0, 1, 0]) ws (vs) := ⟨nf_in hl rfl, sgq_1228 (vc_St_findRing_at_gr_1_0 (v_iv (n_v vs 4)) k4)⟩
  have nf1 : fc_1 PRD (20, [0, 4], [60, 0, 2, 542, 2, 7]) ws (vs) := ⟨nf_in hl rfl, sgq_1229 (vc_St_findRing_at_gr_1_1 (v_iv (n_v vs 4)) (w_ei ws (w_ar ws (n_v vs 0) 2)) (w_ei ws (w_ar ws (n_v vs 0) 7)) k4)⟩
  refine ⟨(fun _ h => (by cases h)), [], trivial, ?_, (fun _ h => (by cases h))⟩
  rw [List.append_nil]
  exact List.forall_mem_cons.mpr ⟨⟨show (20 : Nat) < 100 from by decide, nf0⟩, List.forall_mem_cons.mpr ⟨⟨show (20 : Nat) < 100 from by decide, nf1⟩, (fun _ h => (by cases h))⟩⟩
set_option maxHeartbeats 4000000 in
theorem vc_St_findRing_at_gr_2_0 (x7 : Int) (k7 : 1 ≤ x7 ∧ x7 ≤ 288) : 0 ≤ x7 := by
  first
    | omega
  
def o_St_findRing_at_gr_2 : or_T := (10, 8, [(7, (0, 1, 288, []))], [], [], [], [(20, [7], [50, 0, 0, 0, 2, 0, 0, 1, 0])], [], [])
theorem oo_St_findRing_at_gr_2 {kA : Nat → ClassId} : or_ok PRD kA GG o_St_findRing_at_gr_2 := by
  refine or_mk fun A ta ws vs hD hth hl => ?_
  intro t7 k7
  have nf0 : fc_1 PRD (20, [7], [50, 0, 0, 0, 2, 0, 0, 1, 0]) ws (vs) := ⟨nf_in hl rfl, sgq_722 (vc_St_findRing_at_gr_2_0 (v_iv (n_v vs 7)) k7)⟩
  refine ⟨(fun _ h => (by cases h)), [], trivial, ?_, (fun _ h => (by cases h))⟩
  rw [List.append_nil]
  exact List.forall_mem_cons.mpr ⟨⟨show (20 : Nat) < 100 from by decide, nf0⟩, (fun _ h => (by cases h))⟩
set_option maxHeartbeats 4000000 in
theorem vc_St_findRing_at_gr_3_0 (x5 : Int) (k5 : 0 ≤ x5 ∧ x5 ≤ 71) : (x5 = (-1)) ∨ (0 ≤ x5) := by
  first
    | omega
  
set_option maxHeartbeats 4000000 in
theorem vc_St_findRing_at_gr_3_1 (x5 : Int) (from_0 : Int → Int) (by_0 : Int → Int) (nodes_0 : Int) (k5 : 0 ≤ x5 ∧ x5 ≤ 71) (f3 : SNB (nodes_0) (from_0) (by_0) (x5)) (kz_0_0 : 0 ≤ nodes_0 ∧ nodes_0 ≤ 72) : RNGX (from_0) (by_0) (x5) := by
  first
    | exact fun q => absurd (by omega) q
    | exact (‹SNB _ _ _ _›).1
def o_St_findRing_at_gr_3 : or_T := (37, 7, [(0, (2, 0, 0, [10])), (5, (0, 0, 71, []))], [(24, [0, 1], []), (20, [1, 5], [60, 1, 2, 512, 0, 2, 7])], [], [], [(20, [5], [50, 0, 0, 3, 6, 1, 2, 1, 0, 0, -1, 0, 2, 0, 0, 1, 0]), (20, [0, 5], [60, 0, 2, 542, 2, 7])], [], [])
theorem oo_St_findRing_at_gr_3 {kA : Nat → ClassId} : or_ok PRD kA GG o_St_findRing_at_gr_3 := by
  refine or_mk fun A ta ws vs hD hth hl => ?_
  intro t0 r0 t5 k5 f2 f3
  replace f2 := shm_5 f2
  replace f3 := shm_923 f3
  have q1 : n_v vs 1 = n_v vs 0 := f2.symm
  simp only [q1] at f3
  have kz_0_0 := fdq_114 hD hth r0
  have nf0 : fc_1 PRD (20, [5], [50, 0, 0, 3, 6, 1, 2, 1, 0, 0, -1, 0, 2, 0, 0, 1, 0]) ws (vs) := ⟨nf_in hl rfl, sgq_1228 (vc_St_findRing_at_gr_3_0 (v_iv (n_v vs 5)) k5)⟩
  have nf1 : fc_1 PRD (20, [0, 5], [60, 0, 2, 542, 2, 7]) ws (vs) := ⟨nf_in hl rfl, sgq_1229 (vc_St_findRing_at_gr_3_1 (v_iv (n_v vs 5)) (w_ei ws (w_ar ws (n_v vs 0) 2)) (w_ei ws (w_ar ws (n_v vs 0) 7)) (w_fi ws (n_v vs 0) 0) k5 f3 kz_0_0)⟩
  refine ⟨(fun _ h => (by cases h)), [], trivial, ?_, (fun _ h => (by cases h))⟩
  rw [List.append_nil]
  exact List.forall_mem_cons.mpr ⟨⟨show (20 : Nat) < 100 from by decide, nf0⟩, List.forall_mem_cons.mpr ⟨⟨show (20 : Nat) < 100 from by decide, nf1⟩, (fun _ h => (by cases h))⟩⟩
set_option maxHeartbeats 4000000 in
theorem vc_St_findRing_at_gr_4_0 (x5 : Int) (k5 : (-1) ≤ x5 ∧ x5 ≤ (-1)) : (x5 = (-1)) ∨ (0 ≤ x5) := by
  first
    | omega
  
set_option maxHeartbeats 4000000 in
theorem vc_St_findRing_at_gr_4_1 (x5 : Int) (from_0 : Int → Int) (by_0 : Int → Int) (k5 : (-1) ≤ x5 ∧ x5 ≤ (-1)) : RNGX (from_0) (by_0) (x5) := by
  first
    | exact fun q => absurd (by omega) q
    | exact (‹SNB _ _ _ _›).1
def o_St_findRing_at_gr_4 : or_T := (25, 6, [(5, (0, -1, -1, []))], [], [], [], [(20, [5], [50, 0, 0, 3, 6, 1, 2, 1, 0, 0, -1, 0, 2, 0, 0, 1, 0]), (20, [0, 5], [60, 0, 2, 542, 2, 7])], [], [])
theorem oo_St_findRing_at_gr_4 {kA : Nat → ClassId} : or_ok PRD kA GG o_St_findRing_at_gr_4 := by
  refine or_mk fun A ta ws vs hD hth hl => ?_
  intro t5 k5
  have nf0 : fc_1 PRD (20, [5], [50, 0, 0, 3, 6, 1, 2, 1, 0, 0, -1, 0, 2, 0, 0, 1, 0]) ws (vs) := ⟨nf_in hl rfl, sgq_1228 (vc_St_findRing_at_gr_4_0 (v_iv (n_v vs 5)) k5)⟩
  have nf1 : fc_1 PRD (20, [0, 5], [60, 0, 2, 542, 2, 7]) ws (vs) := ⟨nf_in hl rfl, sgq_1229 (vc_St_findRing_at_gr_4_1 (v_iv (n_v vs 5)) (w_ei ws (w_ar ws (n_v vs 0) 2)) (w_ei ws (w_ar ws (n_v vs 0) 7)) k5)⟩
  refine ⟨(fun _ h => (by cases h)), [], trivial, ?_, (fun _ h => (by cases h))⟩
  rw [List.append_nil]
  exact List.forall_mem_cons.mpr ⟨⟨show (20 : Nat) < 100 from by decide, nf0⟩, List.forall_mem_cons.mpr ⟨⟨show (20 : Nat) < 100 from by decide, nf1⟩, (fun _ h => (by cases h))⟩⟩
def n_St_findRing_at_gr_an : List an_T := [(10, [(0, (2, 0, 0, [10])), (1, (0, 0, 288, []))], [], (0, 0), [(0, 0, 99990), (1, 2, 288), (0, 0, 100000)], [], [], [(2, 0, 0, [10])], 0, [], [(20, [2], [50, 0, 0, 0, 2, 0, 0, 1, 0]), (24, [0, 1], [])])]
def t_St_findRing_at_gr_ct : ct_L := [(1, 64, e_St_ringInBy), (18, 45, e_jArr_fill1_v117), (58, 60, e_St_raise_at_gr)]
set_option maxRecDepth 100000 in
theorem c_St_findRing_at_gr {l : Launch} {D : va_G} {kA : Nat → ClassId} (h_St_raise_at_gr : ct_ok PRD l D kA GG y_St_raise_at_gr z_St_raise_at_gr e_St_raise_at_gr) (h_St_ringInBy : ct_ok PRD l D kA GG y_St_ringInBy z_St_ringInBy e_St_ringInBy) : ct_ok PRD l D kA GG y_St_findRing_at_gr z_St_findRing_at_gr e_St_findRing_at_gr := chk_all_ok (FT := [(34, 10, 7)]) (PT := []) (CT := t_St_findRing_at_gr_ct) (KT := []) (NT := []) (AN := n_St_findRing_at_gr_an) (OT := [o_St_findRing_at_gr_0, o_St_findRing_at_gr_1, o_St_findRing_at_gr_2, o_St_findRing_at_gr_3, o_St_findRing_at_gr_4]) 3 200 (List.forall_mem_cons.mpr ⟨oo_St_findRing_at_gr_0, List.forall_mem_cons.mpr ⟨oo_St_findRing_at_gr_1, List.forall_mem_cons.mpr ⟨oo_St_findRing_at_gr_2, List.forall_mem_cons.mpr ⟨oo_St_findRing_at_gr_3, List.forall_mem_cons.mpr ⟨oo_St_findRing_at_gr_4, List.forall_mem_nil _⟩⟩⟩⟩⟩) (by decide +kernel) ⟨List.forall_mem_cons.mpr ⟨gf_St_34, List.forall_mem_nil _⟩, List.forall_mem_nil _, List.forall_mem_cons.mpr ⟨cl_virtual (y := y_St_ringInBy) (ci := 10) rfl rfl ⟨_, _, rfl⟩ (by decide +kernel) h_St_ringInBy wm_1356 wm_19 wm_1353 wm_1355 wv_4_14 ⟨by decide, by decide, by decide +kernel⟩ (by decide), List.forall_mem_cons.mpr ⟨cl_static (y := y_jArr_fill1) c_jArr_fill1_v117 wm_55 wm_4 wm_1343 wm_54 ⟨by decide, by decide, by decide +kernel⟩ (by decide), List.forall_mem_cons.mpr ⟨cl_virtual (y := y_St_raise_at_gr) (ci := 10) rfl rfl ⟨_, _, rfl⟩ (by decide +kernel) h_St_raise_at_gr wm_1352 wm_19 wm_1349 wm_1351 wv_4_13 ⟨by decide, by decide, by decide +kernel⟩ (by decide), List.forall_mem_nil _⟩⟩⟩, List.forall_mem_nil _, List.forall_mem_nil _, GG_pl⟩ (by decide +kernel)
set_option maxHeartbeats 4000000 in
theorem vc_Mo_back_0_r0 (x1 : Int) (x8 : Int) (x10 : Int) (x11 : Int) (x13 : Int) (now_0 : Int → Int) (latest_0 : Int → Int) (all_0 : Int → Int) (k1 : 0 ≤ x1 ∧ x1 ≤ 3) (k8 : 0 ≤ x8 ∧ x8 ≤ 30) (k10 : 0 ≤ x10 ∧ x10 ≤ 30) (k11 : 0 ≤ x11 ∧ x11 ≤ 30) (k13 : 1 ≤ x13 ∧ x13 ≤ 31) (d0 : x11 + 1 ≤ x13 ∧ x13 ≤ x11 + 1) (h1 : x11 = now_0 (x1)) (f3 : x8 ≠ x10) (h4 : x10 = latest_0 (x1)) (h6 : x8 = now_0 (x1)) (f7 : ROWS (all_0) (now_0) (latest_0)) : 1 ≤ x13 ∧ x13 ≤ 30 := by
  have h := (‹ROWS _ _ _› x1 (by omega) (by omega)).1
  omega
def o_Mo_back_0 : or_T := (66, 14, [(0, (2, 0, 0, [165])), (1, (0, 0, 3, [])), (7, (2, 0, 0, [168])), (8, (0, 0, 30, [])), (9, (2, 0, 0, [169])), (10, (0, 0, 30, [])), (11, (0, 0, 30, [])), (12, (0, 1, 1, [])), (13, (0, 1, 31, []))], [(1, [13, 11, 12], []), (10, [11, 7, 1], []), (9, [7, 0], [3]), (7, [8, 10], [1]), (10, [10, 9, 1], []), (9, [9, 0], [4]), (10, [8, 7, 1], []), (20, [0], [60, 0, 3, 198, 2, 3, 4])], [(13, (0, 1, 30, []))], [], [], [], [(13, 11, 1, 1)])
theorem oo_Mo_back_0 {kA : Nat → ClassId} : or_ok PRD kA GG o_Mo_back_0 := by
  refine or_mk fun A ta ws vs hD hth hl => ?_
  intro t0 r0 t1 k1 t7 r7 t8 k8 t9 r9 t10 k10 t11 k11 t12 k12 t13 k13 d0 f0 f1 f2 f3 f4 f5 f6 f7
  replace f1 := shm_107 f1
  replace f2 := shm_137 f2
  replace f4 := shm_107 f4
  replace f5 := shm_108 f5
  replace f6 := shm_107 f6
  have ad_7 : v_ad (n_v vs 7) = w_ar ws (n_v vs 0) 3 := congrArg v_ad f2
  have ad_9 : v_ad (n_v vs 9) = w_ar ws (n_v vs 0) 4 := congrArg v_ad f5
  simp only [ad_7] at f1
  have h1 : v_iv (n_v vs 11) = w_ei ws (w_ar ws (n_v vs 0) 3) (v_iv (n_v vs 1)) := f1
  simp only [ad_9] at f4
  have h4 : v_iv (n_v vs 10) = w_ei ws (w_ar ws (n_v vs 0) 4) (v_iv (n_v vs 1)) := f4
  simp only [ad_7] at f6
  have h6 : v_iv (n_v vs 8) = w_ei ws (w_ar ws (n_v vs 0) 3) (v_iv (n_v vs 1)) := f6
  have hrf0 : 1 ≤ v_iv (n_v vs 13) ∧ v_iv (n_v vs 13) ≤ 30 := vc_Mo_back_0_r0 (v_iv (n_v vs 1)) (v_iv (n_v vs 8)) (v_iv (n_v vs 10)) (v_iv (n_v vs 11)) (v_iv (n_v vs 13)) (w_ei ws (w_ar ws (n_v vs 0) 3)) (w_ei ws (w_ar ws (n_v vs 0) 4)) (w_ei ws (w_ar ws (n_v vs 0) 2)) k1 k8 k10 k11 k13 d0 h1 (shm_40 f3) h4 h6 (shm_1230 f7)
  have rf13 : tv_ok ta (0, 1, 30, []) (n_v vs 13) := tv_in t13 (by first | omega | grind) (by first | omega | grind)
  refine ⟨List.forall_mem_cons.mpr ⟨rf13, (fun _ h => (by cases h))⟩, [], trivial, ?_, (fun _ h => (by cases h))⟩
  rw [List.append_nil]
  exact (fun _ h => (by cases h))
set_option maxHeartbeats 4000000 in
theorem vc_Mo_back_1_0 (x1 : Int) (x8 : Int) (x10 : Int) (x11 : Int) (x13 : Int) (now_1 : Int → Int) (latest_1 : Int → Int) (all_1 : Int → Int) (all_0 : Int → Int) (now_0 : Int → Int) (latest_0 : Int → Int) (k1 : 0 ≤ x1 ∧ x1 ≤ 3) (k8 : 0 ≤ x8 ∧ x8 ≤ 30) (k10 : 0 ≤ x10 ∧ x10 ≤ 30) (k11 : 0 ≤ x11 ∧ x11 ≤ 30) (k13 : 1 ≤ x13 ∧ x13 ≤ 30) (d0 : x11 + 1 ≤ x13 ∧ x13 ≤ x11 + 1) (h2 : x11 = now_1 (x1)) (f4 : x8 ≠ x10) (h5 : x10 = latest_1 (x1)) (h7 : x8 = now_1 (x1)) (f8 : ROWS (all_1) (now_1) (latest_1)) (hE_0_2_1 : ∀ j : Int, all_0 j = all_1 j) (hE_0_3_1 : ∀ j : Int, 0 ≤ j → (j = x1 → now_0 j = x13) ∧ (j ≠ x1 → now_0 j = now_1 j)) (hE_0_4_1 : ∀ j : Int, latest_0 j = latest_1 j) : ROWS (all_0) (now_0) (latest_0) := by
  have e_hE_0_2_1 := funext hE_0_2_1; subst e_hE_0_2_1
  have e_hE_0_4_1 := funext hE_0_4_1; subst e_hE_0_4_1
  have h := (‹ROWS _ _ _› x1 (by omega) (by omega)).1
  exact rows_back (g := x1) ‹ROWS _ _ _› (by omega) (by omega) hE_0_3_1 (by omega) (by omega) (by omega)
def o_Mo_back_1 : or_T := (69, 14, [(0, (2, 0, 0, [165])), (1, (0, 0, 3, [])), (7, (2, 0, 0, [168])), (8, (0, 0, 30, [])), (10, (0, 0, 30, [])), (11, (0, 0, 30, [])), (13, (0, 1, 30, []))], [(100, [7, 1, 13], []), (10, [11, 7, 1], []), (9, [7, 0], [3]), (7, [8, 10], [1]), (10, [10, 9, 1], []), (9, [9, 0], [4]), (10, [8, 7, 1], []), (20, [0], [60, 0, 3, 198, 2, 3, 4])], [], [], [(20, [0], [60, 0, 3, 198, 2, 3, 4])], [], [(13, 11, 1, 1)])
theorem oo_Mo_back_1 {kA : Nat → ClassId} : or_ok PRD kA GG o_Mo_back_1 := by
  refine or_mk fun A ta ws vs hD hth hl => ?_
  intro t0 r0 t1 k1 t7 r7 t8 k8 t10 k10 t11 k11 t13 k13 d0 ta1 w1 le1 s1 f2 f3 f4 f5 f6 f7 f8
  have s1 : (∀ b j, w_el ws b j = if b = v_ad (n_v vs 7) ∧ j = (v_iv (n_v vs 1)).toNat then v_iv (n_v vs 13) else w_el w1 b j) ∧ ∀ b k, w_fd ws b k = w_fd w1 b k := s1.2
  replace f2 := shm_107 f2
  replace f3 := shm_137 f3
  replace f5 := shm_107 f5
  replace f6 := shm_108 f6
  replace f7 := shm_107 f7
  replace f8 := shm_1230 f8
  have ar_0_2_1 : w_ar w1 (n_v vs 0) 2 = w_ar ws (n_v vs 0) 2 := congrArg v_ad (s1.2 _ _).symm
  have cr_0_2 := fdq_10 hD hth r0
  have ar_0_3_1 : w_ar w1 (n_v vs 0) 3 = w_ar ws (n_v vs 0) 3 := congrArg v_ad (s1.2 _ _).symm
  have ar_0_4_1 : w_ar w1 (n_v vs 0) 4 = w_ar ws (n_v vs 0) 4 := congrArg v_ad (s1.2 _ _).symm
  have cr_0_4 := fdq_143 hD hth r0
  have ad_7 : v_ad (n_v vs 7) = w_ar ws (n_v vs 0) 3 := (congrArg v_ad f3).trans ar_0_3_1
  have ad_9 : v_ad (n_v vs 9) = w_ar ws (n_v vs 0) 4 := (congrArg v_ad f6).trans ar_0_4_1
  simp only [ad_7] at f2
  have h2 : v_iv (n_v vs 11) = w_ei w1 (w_ar ws (n_v vs 0) 3) (v_iv (n_v vs 1)) := f2
  simp only [ad_9] at f5
  have h5 : v_iv (n_v vs 10) = w_ei w1 (w_ar ws (n_v vs 0) 4) (v_iv (n_v vs 1)) := f5
  simp only [ad_7] at f7
  have h7 : v_iv (n_v vs 8) = w_ei w1 (w_ar ws (n_v vs 0) 3) (v_iv (n_v vs 1)) := f7
  simp only [ar_0_2_1, ar_0_3_1, ar_0_4_1] at f8
  have hE_0_2_1 : ∀ j : Int, w_ei ws (w_ar ws (n_v vs 0) 2) j = w_ei w1 (w_ar ws (n_v vs 0) 2) j := el_kp s1.1 r7 cr_0_2 (by decide)
  have hE_0_3_1 : ∀ j : Int, 0 ≤ j → (j = v_iv (n_v vs 1) → w_ei ws (w_ar ws (n_v vs 0) 3) j = v_iv (n_v vs 13)) ∧ (j ≠ v_iv (n_v vs 1) → w_ei ws (w_ar ws (n_v vs 0) 3) j = w_ei w1 (w_ar ws (n_v vs 0) 3) j) := fun j hj => ⟨fun h => by unfold w_ei; rw [s1.1, if_pos ⟨ad_7.symm, by rw [h]⟩], fun h => by unfold w_ei; rw [s1.1, if_neg (fun e => h (by have := e.2; omega))]⟩
  have hE_0_4_1 : ∀ j : Int, w_ei ws (w_ar ws (n_v vs 0) 4) j = w_ei w1 (w_ar ws (n_v vs 0) 4) j := el_kp s1.1 r7 cr_0_4 (by decide)
  have nf0 : fc_1 PRD (20, [0], [60, 0, 3, 198, 2, 3, 4]) ws (vs) := ⟨nf_in hl rfl, sgq_1230 (vc_Mo_back_1_0 (v_iv (n_v vs 1)) (v_iv (n_v vs 8)) (v_iv (n_v vs 10)) (v_iv (n_v vs 11)) (v_iv (n_v vs 13)) (w_ei w1 (w_ar ws (n_v vs 0) 3)) (w_ei w1 (w_ar ws (n_v vs 0) 4)) (w_ei w1 (w_ar ws (n_v vs 0) 2)) (w_ei ws (w_ar ws (n_v vs 0) 2)) (w_ei ws (w_ar ws (n_v vs 0) 3)) (w_ei ws (w_ar ws (n_v vs 0) 4)) k1 k8 k10 k11 k13 d0 h2 (shm_40 f4) h5 h7 f8 hE_0_2_1 hE_0_3_1 hE_0_4_1)⟩
  refine ⟨(fun _ h => (by cases h)), [], trivial, ?_, (fun _ h => (by cases h))⟩
  rw [List.append_nil]
  exact List.forall_mem_cons.mpr ⟨⟨show (20 : Nat) < 100 from by decide, nf0⟩, (fun _ h => (by cases h))⟩
set_option maxHeartbeats 4000000 in
theorem vc_Mo_back_2_r0 (x1 : Int) (x8 : Int) (x9 : Int) (x11 : Int) (now_0 : Int → Int) (all_0 : Int → Int) (latest_0 : Int → Int) (k1 : 0 ≤ x1 ∧ x1 ≤ 3) (k8 : 1 ≤ x8 ∧ x8 ≤ 30) (k9 : 0 ≤ x9 ∧ x9 ≤ 30) (k11 : (-1) ≤ x11 ∧ x11 ≤ 29) (d0 : x9 + (-1) ≤ x11 ∧ x11 ≤ x9 + (-1)) (h1 : x9 = now_0 (x1)) (h4 : x8 = now_0 (x1)) (f5 : ROWS (all_0) (now_0) (latest_0)) : 0 ≤ x11 ∧ x11 ≤ 29 := by
  have h := (‹ROWS _ _ _› x1 (by omega) (by omega)).1
  omega
def o_Mo_back_2 : or_T := (66, 12, [(0, (2, 0, 0, [165])), (1, (0, 0, 3, [])), (7, (2, 0, 0, [168])), (8, (0, 1, 30, [])), (9, (0, 0, 30, [])), (10, (0, -1, -1, [])), (11, (0, -1, 29, []))], [(1, [11, 9, 10], []), (10, [9, 7, 1], []), (9, [7, 0], [3]), (8, [8], [1]), (10, [8, 7, 1], []), (20, [0], [60, 0, 3, 198, 2, 3, 4])], [(11, (0, 0, 29, []))], [], [], [], [(11, 9, -1, -1)])
theorem oo_Mo_back_2 {kA : Nat → ClassId} : or_ok PRD kA GG o_Mo_back_2 := by
  refine or_mk fun A ta ws vs hD hth hl => ?_
  intro t0 r0 t1 k1 t7 r7 t8 k8 t9 k9 t10 k10 t11 k11 d0 f0 f1 f2 f3 f4 f5
  replace f1 := shm_107 f1
  replace f2 := shm_137 f2
  replace f4 := shm_107 f4
  have ad_7 : v_ad (n_v vs 7) = w_ar ws (n_v vs 0) 3 := congrArg v_ad f2
  simp only [ad_7] at f1
  have h1 : v_iv (n_v vs 9) = w_ei ws (w_ar ws (n_v vs 0) 3) (v_iv (n_v vs 1)) := f1
  simp only [ad_7] at f4
  have h4 : v_iv (n_v vs 8) = w_ei ws (w_ar ws (n_v vs 0) 3) (v_iv (n_v vs 1)) := f4
  have hrf0 : 0 ≤ v_iv (n_v vs 11) ∧ v_iv (n_v vs 11) ≤ 29 := vc_Mo_back_2_r0 (v_iv (n_v vs 1)) (v_iv (n_v vs 8)) (v_iv (n_v vs 9)) (v_iv (n_v vs 11)) (w_ei ws (w_ar ws (n_v vs 0) 3)) (w_ei ws (w_ar ws (n_v vs 0) 2)) (w_ei ws (w_ar ws (n_v vs 0) 4)) k1 k8 k9 k11 d0 h1 h4 (shm_1230 f5)
  have rf11 : tv_ok ta (0, 0, 29, []) (n_v vs 11) := tv_in t11 (by first | omega | grind) (by first | omega | grind)
  refine ⟨List.forall_mem_cons.mpr ⟨rf11, (fun _ h => (by cases h))⟩, [], trivial, ?_, (fun _ h => (by cases h))⟩
  rw [List.append_nil]
  exact (fun _ h => (by cases h))
set_option maxHeartbeats 4000000 in
theorem vc_Mo_back_3_0 (x1 : Int) (x9 : Int) (x11 : Int) (now_1 : Int → Int) (all_1 : Int → Int) (latest_1 : Int → Int) (all_0 : Int → Int) (now_0 : Int → Int) (latest_0 : Int → Int) (k1 : 0 ≤ x1 ∧ x1 ≤ 3) (k9 : 0 ≤ x9 ∧ x9 ≤ 30) (k11 : 0 ≤ x11 ∧ x11 ≤ 29) (d0 : x9 + (-1) ≤ x11 ∧ x11 ≤ x9 + (-1)) (h2 : x9 = now_1 (x1)) (f6 : ROWS (all_1) (now_1) (latest_1)) (hE_0_2_1 : ∀ j : Int, all_0 j = all_1 j) (hE_0_3_1 : ∀ j : Int, 0 ≤ j → (j = x1 → now_0 j = x11) ∧ (j ≠ x1 → now_0 j = now_1 j)) (hE_0_4_1 : ∀ j : Int, latest_0 j = latest_1 j) : ROWS (all_0) (now_0) (latest_0) := by
  have e_hE_0_2_1 := funext hE_0_2_1; subst e_hE_0_2_1
  have e_hE_0_4_1 := funext hE_0_4_1; subst e_hE_0_4_1
  have h := (‹ROWS _ _ _› x1 (by omega) (by omega)).1
  exact rows_back (g := x1) ‹ROWS _ _ _› (by omega) (by omega) hE_0_3_1 (by omega) (by omega) (by omega)
def o_Mo_back_3 : or_T := (69, 12, [(0, (2, 0, 0, [165])), (1, (0, 0, 3, [])), (7, (2, 0, 0, [168])), (9, (0, 0, 30, [])), (11, (0, 0, 29, []))], [(100, [7, 1, 11], []), (10, [9, 7, 1], []), (9, [7, 0], [3]), (20, [0], [60, 0, 3, 198, 2, 3, 4])], [], [], [(20, [0], [60, 0, 3, 198, 2, 3, 4])], [], [(11, 9, -1, -1)])
theorem oo_Mo_back_3 {kA : Nat → ClassId} : or_ok PRD kA GG o_Mo_back_3 := by
  refine or_mk fun A ta ws vs hD hth hl => ?_
  intro t0 r0 t1 k1 t7 r7 t9 k9 t11 k11 d0 ta1 w1 le1 s1 f2 f3 f6
  have s1 : (∀ b j, w_el ws b j = if b = v_ad (n_v vs 7) ∧ j = (v_iv (n_v vs 1)).toNat then v_iv (n_v vs 11) else w_el w1 b j) ∧ ∀ b k, w_fd ws b k = w_fd w1 b k := s1.2
  replace f2 := shm_107 f2
  replace f3 := shm_137 f3
  replace f6 := shm_1230 f6
  have ar_0_2_1 : w_ar w1 (n_v vs 0) 2 = w_ar ws (n_v vs 0) 2 := congrArg v_ad (s1.2 _ _).symm
  have cr_0_2 := fdq_10 hD hth r0
  have ar_0_3_1 : w_ar w1 (n_v vs 0) 3 = w_ar ws (n_v vs 0) 3 := congrArg v_ad (s1.2 _ _).symm
  have ar_0_4_1 : w_ar w1 (n_v vs 0) 4 = w_ar ws (n_v vs 0) 4 := congrArg v_ad (s1.2 _ _).symm
  have cr_0_4 := fdq_143 hD hth r0
  have ad_7 : v_ad (n_v vs 7) = w_ar ws (n_v vs 0) 3 := (congrArg v_ad f3).trans ar_0_3_1
  simp only [ad_7] at f2
  have h2 : v_iv (n_v vs 9) = w_ei w1 (w_ar ws (n_v vs 0) 3) (v_iv (n_v vs 1)) := f2
  simp only [ar_0_2_1, ar_0_3_1, ar_0_4_1] at f6
  have hE_0_2_1 : ∀ j : Int, w_ei ws (w_ar ws (n_v vs 0) 2) j = w_ei w1 (w_ar ws (n_v vs 0) 2) j := el_kp s1.1 r7 cr_0_2 (by decide)
  have hE_0_3_1 : ∀ j : Int, 0 ≤ j → (j = v_iv (n_v vs 1) → w_ei ws (w_ar ws (n_v vs 0) 3) j = v_iv (n_v vs 11)) ∧ (j ≠ v_iv (n_v vs 1) → w_ei ws (w_ar ws (n_v vs 0) 3) j = w_ei w1 (w_ar ws (n_v vs 0) 3) j) := fun j hj => ⟨fun h => by unfold w_ei; rw [s1.1, if_pos ⟨ad_7.symm, by rw [h]⟩], fun h => by unfold w_ei; rw [s1.1, if_neg (fun e => h (by have := e.2; omega))]⟩
  have hE_0_4_1 : ∀ j : Int, w_ei ws (w_ar ws (n_v vs 0) 4) j = w_ei w1 (w_ar ws (n_v vs 0) 4) j := el_kp s1.1 r7 cr_0_4 (by decide)
  have nf0 : fc_1 PRD (20, [0], [60, 0, 3, 198, 2, 3, 4]) ws (vs) := ⟨nf_in hl rfl, sgq_1230 (vc_Mo_back_3_0 (v_iv (n_v vs 1)) (v_iv (n_v vs 9)) (v_iv (n_v vs 11)) (w_ei w1 (w_ar ws (n_v vs 0) 3)) (w_ei w1 (w_ar ws (n_v vs 0) 2)) (w_ei w1 (w_ar ws (n_v vs 0) 4)) (w_ei ws (w_ar ws (n_v vs 0) 2)) (w_ei ws (w_ar ws (n_v vs 0) 3)) (w_ei ws (w_ar ws (n_v vs 0) 4)) k1 k9 k11 d0 h2 f6 hE_0_2_1 hE_0_3_1 hE_0_4_1)⟩
  refine ⟨(fun _ h => (by cases h)), [], trivial, ?_, (fun _ h => (by cases h))⟩
  rw [List.append_nil]
  exact List.forall_mem_cons.mpr ⟨⟨show (20 : Nat) < 100 from by decide, nf0⟩, (fun _ h => (by cases h))⟩
def n_Mo_back_an : List an_T := []
def t_Mo_back_ct : ct_L := [(0, 387, e_Mo_in), (0, 521, e_Mo_isPlace), (1, 524, e_Mo_changed)]
set_option maxRecDepth 100000 in
theorem c_Mo_back {l : Launch} {D : va_G} {kA : Nat → ClassId} (h_Mo_changed : ct_ok PRD l D kA GG y_Mo_changed z_Mo_changed e_Mo_changed) (h_Mo_in : ct_ok PRD l D kA GG y_Mo_in z_Mo_in e_Mo_in) (h_Mo_isPlace : ct_ok PRD l D kA GG y_Mo_isPlace z_Mo_isPlace e_Mo_isPlace) : ct_ok PRD l D kA GG y_Mo_back z_Mo_back e_Mo_back := chk_all_ok (FT := [(20, 13, 3), (23, 13, 4)]) (PT := []) (CT := t_Mo_back_ct) (KT := []) (NT := []) (AN := n_Mo_back_an) (OT := [o_Mo_back_0, o_Mo_back_1, o_Mo_back_2, o_Mo_back_3]) 0 288 (List.forall_mem_cons.mpr ⟨oo_Mo_back_0, List.forall_mem_cons.mpr ⟨oo_Mo_back_1, List.forall_mem_cons.mpr ⟨oo_Mo_back_2, List.forall_mem_cons.mpr ⟨oo_Mo_back_3, List.forall_mem_nil _⟩⟩⟩⟩) (by decide +kernel) ⟨List.forall_mem_cons.mpr ⟨gf_Mo_20, List.forall_mem_cons.mpr ⟨gf_Mo_23, List.forall_mem_nil _⟩⟩, List.forall_mem_nil _, List.forall_mem_cons.mpr ⟨cl_static (y := y_Mo_in) h_Mo_in wm_2971 wm_9 wm_2969 wm_2970 ⟨by decide, by decide, by decide +kernel⟩ (by decide), List.forall_mem_cons.mpr ⟨cl_static (y := y_Mo_isPlace) h_Mo_isPlace wm_2978 wm_9 wm_2976 wm_2977 ⟨by decide, by decide, by decide +kernel⟩ (by decide), List.forall_mem_cons.mpr ⟨cl_virtual (y := y_Mo_changed) (ci := 13) rfl rfl ⟨_, _, rfl⟩ (by decide +kernel) h_Mo_changed wm_3083 wm_9 wm_3080 wm_3082 wv_14_1 ⟨by decide, by decide, by decide +kernel⟩ (by decide), List.forall_mem_nil _⟩⟩⟩, List.forall_mem_nil _, List.forall_mem_nil _, GG_pl⟩ (by decide +kernel)
set_option maxHeartbeats 4000000 in
theorem vc_Mo_known_0_0 (x1 : Int) (tape_0 : Int → Int) (limit_0 : Int) (pos_0 : Int) (from_0 : Int) (all_0 : Int → Int) (r_0 : Int) (k1 : 0 ≤ x1 ∧ x1 ≤ 0) (kz_0_10 : 0 ≤ limit_0 ∧ limit_0 ≤ 2000) (kz_0_11 : 0 ≤ pos_0 ∧ pos_0 ≤ 2000) (kz_0_15 : 0 ≤ from_0 ∧ from_0 ≤ 2000) : KNL (pos_0) (limit_0) (from_0) (r_0) (all_0) (tape_0) (x1) := by
  first
    | exact knl_0 (by omega)
    | exact knl_step ‹KNL _ _ _ _ _ _ _› ‹KNI _ _ _ _ _ _ _ _ _› (by omega) (by omega)
def o_Mo_known_0 : or_T := (2, 2, [(0, (2, 0, 0, [165])), (1, (0, 0, 0, []))], [], [], [], [(20, [0, 1], [60, 4, 2, 1032, 11, 10, 15, 5, 2, 1]), (24, [0, 0], [])], [], [])
theorem oo_Mo_known_0 {kA : Nat → ClassId} : or_ok PRD kA GG o_Mo_known_0 := by
  refine or_mk fun A ta ws vs hD hth hl => ?_
  intro t0 r0 t1 k1
  have kz_0_10 := fdq_43 hD hth r0
  have kz_0_11 := fdq_237 hD hth r0
  have kz_0_15 := fdq_239 hD hth r0
  have nf0 : fc_1 PRD (20, [0, 1], [60, 4, 2, 1032, 11, 10, 15, 5, 2, 1]) ws (vs) := ⟨nf_in hl rfl, sgq_1231 (vc_Mo_known_0_0 (v_iv (n_v vs 1)) (w_ei ws (w_ar ws (n_v vs 0) 1)) (w_fi ws (n_v vs 0) 10) (w_fi ws (n_v vs 0) 11) (w_fi ws (n_v vs 0) 15) (w_ei ws (w_ar ws (n_v vs 0) 2)) (w_fi ws (n_v vs 0) 5) k1 kz_0_10 kz_0_11 kz_0_15)⟩
  have nf1 : fc_1 PRD (24, [0, 0], []) ws (vs) := by
    refine ⟨nf_in hl rfl, sgq_1 ?_⟩
    · show n_v vs 0 = n_v vs 0
      first | rfl | simp only [true_and]
  refine ⟨(fun _ h => (by cases h)), [], trivial, ?_, (fun _ h => (by cases h))⟩
  rw [List.append_nil]
  exact List.forall_mem_cons.mpr ⟨⟨show (20 : Nat) < 100 from by decide, nf0⟩, List.forall_mem_cons.mpr ⟨⟨show (24 : Nat) < 100 from by decide, nf1⟩, (fun _ h => (by cases h))⟩⟩
set_option maxHeartbeats 4000000 in
theorem vc_Mo_known_1_0 (x4 : Int) (all_0 : Int → Int) (r_0 : Int) (k4 : (-1) ≤ x4 ∧ x4 ≤ (-1)) : NDB (r_0) (all_0) (x4) := by
  exact Or.inl (by omega)
set_option maxHeartbeats 4000000 in
theorem vc_Mo_known_1_1 (x2 : Int) (x3 : Int) (x4 : Int) (all_0 : Int → Int) (r_0 : Int) (tape_0 : Int → Int) (pos_0 : Int) (limit_0 : Int) (from_0 : Int) (k2 : 0 ≤ x2 ∧ x2 ≤ 24) (k3 : 0 ≤ x3 ∧ x3 ≤ 24) (k4 : (-1) ≤ x4 ∧ x4 ≤ (-1)) (d0 : x3 + 0 ≤ x2 ∧ x2 ≤ x3 + 4294967296) (f1 : 1 * x3 + ((-1) * all_0 (r_0 + 0) + 0) ≤ 0) (f2 : (-1) * x3 + (1 * all_0 (r_0 + 0) + 0) ≤ 0) (f3 : KNL (pos_0) (limit_0) (from_0) (r_0) (all_0) (tape_0) (x2)) (kz_0_10 : 0 ≤ limit_0 ∧ limit_0 ≤ 2000) (kz_0_11 : 0 ≤ pos_0 ∧ pos_0 ≤ 2000) (kz_0_15 : 0 ≤ from_0 ∧ from_0 ≤ 2000) : KNQ (pos_0) (limit_0) (from_0) (r_0) (all_0) (tape_0) (x4) := by
  exact knq_no ‹KNL _ _ _ _ _ _ _› rfl (by omega) (by omega)
def o_Mo_known_1 : or_T := (108, 5, [(0, (2, 0, 0, [165])), (2, (0, 0, 24, [])), (3, (0, 0, 24, [])), (4, (0, -1, -1, []))], [(20, [3, 1], [30, 0, 1, 0, 0, -1, 3, 2005000]), (20, [3, 1], [30, 0, -1, 0, 0, 1, 3, 2005000]), (20, [1, 2], [60, 4, 2, 1032, 11, 10, 15, 5, 2, 1]), (24, [0, 1], [])], [], [], [(20, [0, 4], [60, 1, 1, 207, 5, 2]), (20, [0, 4], [60, 4, 2, 1031, 11, 10, 15, 5, 2, 1])], [], [(2, 3, 0, 4294967296)])
theorem oo_Mo_known_1 {kA : Nat → ClassId} : or_ok PRD kA GG o_Mo_known_1 := by
  refine or_mk fun A ta ws vs hD hth hl => ?_
  intro t0 r0 t2 k2 t3 k3 t4 k4 d0 f1 f2 f3 f4
  replace f1 := shm_126 f1
  replace f2 := shm_127 f2
  replace f3 := shm_1231 f3
  replace f4 := shm_5 f4
  have q1 : n_v vs 1 = n_v vs 0 := f4.symm
  simp only [q1] at f1 f2 f3
  have kz_0_10 := fdq_43 hD hth r0
  have kz_0_11 := fdq_237 hD hth r0
  have kz_0_15 := fdq_239 hD hth r0
  have nf0 : fc_1 PRD (20, [0, 4], [60, 1, 1, 207, 5, 2]) ws (vs) := ⟨nf_in hl rfl, sgq_1232 (vc_Mo_known_1_0 (v_iv (n_v vs 4)) (w_ei ws (w_ar ws (n_v vs 0) 2)) (w_fi ws (n_v vs 0) 5) k4)⟩
  have nf1 : fc_1 PRD (20, [0, 4], [60, 4, 2, 1031, 11, 10, 15, 5, 2, 1]) ws (vs) := ⟨nf_in hl rfl, sgq_1233 (vc_Mo_known_1_1 (v_iv (n_v vs 2)) (v_iv (n_v vs 3)) (v_iv (n_v vs 4)) (w_ei ws (w_ar ws (n_v vs 0) 2)) (w_fi ws (n_v vs 0) 5) (w_ei ws (w_ar ws (n_v vs 0) 1)) (w_fi ws (n_v vs 0) 11) (w_fi ws (n_v vs 0) 10) (w_fi ws (n_v vs 0) 15) k2 k3 k4 d0 f1 f2 f3 kz_0_10 kz_0_11 kz_0_15)⟩
  refine ⟨(fun _ h => (by cases h)), [], trivial, ?_, (fun _ h => (by cases h))⟩
  rw [List.append_nil]
  exact List.forall_mem_cons.mpr ⟨⟨show (20 : Nat) < 100 from by decide, nf0⟩, List.forall_mem_cons.mpr ⟨⟨show (20 : Nat) < 100 from by decide, nf1⟩, (fun _ h => (by cases h))⟩⟩
set_option maxHeartbeats 4000000 in
theorem vc_Mo_known_2_0 (x5 : Int) (x6 : Int) (x7 : Int) (x8 : Int) (from_0 : Int) (pos_0 : Int) (k5 : 0 ≤ x5 ∧ x5 ≤ 2000) (k6 : 0 ≤ x6 ∧ x6 ≤ 2000) (k7 : (-2000) ≤ x7 ∧ x7 ≤ 2000) (k8 : 0 ≤ x8 ∧ x8 ≤ 0) (f1 : x7 = x5 - x6) (g2 : x6 = from_0) (g3 : x5 = pos_0) (kz_0_11 : 0 ≤ pos_0 ∧ pos_0 ≤ 2000) (kz_0_15 : 0 ≤ from_0 ∧ from_0 ≤ 2000) : 1 * pos_0 + ((-1) * from_0 + (2000 * x8 + 0)) ≤ 2008 := by
  first | omega
set_option maxHeartbeats 4000000 in
theorem vc_Mo_known_2_1 (x2 : Int) (x3 : Int) (all_0 : Int → Int) (r_0 : Int) (k2 : 0 ≤ x2 ∧ x2 ≤ 23) (k3 : 1 ≤ x3 ∧ x3 ≤ 24) (d1 : x3 + (-4294967296) ≤ x2 ∧ x2 ≤ x3 + (-1)) (f6 : 1 * x3 + ((-1) * all_0 (r_0 + 0) + 0) ≤ 0) (f7 : (-1) * x3 + (1 * all_0 (r_0 + 0) + 0) ≤ 0) : 1 * x2 + ((-1) * all_0 (r_0 + 0) + 0) ≤ (-1) := by
  first | omega
set_option maxHeartbeats 4000000 in
theorem vc_Mo_known_2_2 (x2 : Int) (x4 : Int) (x5 : Int) (x6 : Int) (x7 : Int) (x8 : Int) (x9 : Int) (from_0 : Int) (pos_0 : Int) (all_0 : Int → Int) (r_0 : Int) (tape_0 : Int → Int) (limit_0 : Int) (k2 : 0 ≤ x2 ∧ x2 ≤ 23) (k4 : 0 ≤ x4 ∧ x4 ≤ 8) (k5 : 0 ≤ x5 ∧ x5 ≤ 2000) (k6 : 0 ≤ x6 ∧ x6 ≤ 2000) (k7 : (-2000) ≤ x7 ∧ x7 ≤ 2000) (k8 : 0 ≤ x8 ∧ x8 ≤ 0) (k9 : 0 ≤ x9 ∧ x9 ≤ 0) (f0 : x4 ≠ x7) (f1 : x7 = x5 - x6) (g2 : x6 = from_0) (g3 : x5 = pos_0) (f4 : x4 = all_0 ((r_0 + (195 + x2)))) (kz_0_10 : 0 ≤ limit_0 ∧ limit_0 ≤ 2000) (kz_0_11 : 0 ≤ pos_0 ∧ pos_0 ≤ 2000) (kz_0_15 : 0 ≤ from_0 ∧ from_0 ≤ 2000) : KNI (pos_0) (limit_0) (from_0) (r_0) (all_0) (tape_0) (x2) (x9) (x8) := by
  first | subst g2 | skip
  first | subst g3 | skip
  first
    | exact kni_0 (by omega) (by assumption) (by omega) (by omega)
    | exact kni_step ‹KNI _ _ _ _ _ _ _ _ _› (by omega) (by omega) (by omega) (by assumption) (by omega) (by omega) (by assumption) (by omega) (by omega) (by omega)
def o_Mo_known_2 : or_T := (35, 10, [(0, (2, 0, 0, [165])), (1, (2, 0, 0, [165])), (2, (0, 0, 23, [])), (3, (0, 1, 24, [])), (4, (0, 0, 8, [])), (5, (0, 0, 2000, [])), (6, (0, 0, 2000, [])), (7, (0, -2000, 2000, [])), (8, (0, 0, 0, [])), (9, (0, 0, 0, []))], [(7, [4, 7], [1]), (2, [7, 5, 6], []), (9, [6, 1], [15]), (9, [5, 1], [11]), (20, [4, 1, 2], [50, 1, 1, 1005, 1002, 1, 2, 1, 0, 3, 1, 2, 4, 3, 2, 1, 5, 4, 2, 0, 195, 1, 2]), (7, [2, 3], [2]), (20, [3, 1], [30, 0, 1, 0, 0, -1, 3, 2005000]), (20, [3, 1], [30, 0, -1, 0, 0, 1, 3, 2005000]), (20, [1, 2], [60, 4, 2, 1032, 11, 10, 15, 5, 2, 1]), (24, [0, 1], [])], [], [], [(20, [1, 1, 8], [30, 2008, 1, 1, 11, -1, 1, 15, 2000, 0, 0]), (20, [2, 1], [30, -1, 1, 0, 0, -1, 3, 2005000]), (20, [1, 2, 9, 8], [60, 4, 2, 1033, 11, 10, 15, 5, 2, 1])], [], [(7, 5, -2000, 0), (2, 3, -4294967296, -1)])
theorem oo_Mo_known_2 {kA : Nat → ClassId} : or_ok PRD kA GG o_Mo_known_2 := by
  refine or_mk fun A ta ws vs hD hth hl => ?_
  intro t0 r0 t1 r1 t2 k2 t3 k3 t4 k4 t5 k5 t6 k6 t7 k7 t8 k8 t9 k9 d0 d1 f0 f1 f2 f3 f4 f5 f6 f7 f8 f9
  replace f0 := shm_40 f0
  replace f1 := shm_14 f1
  replace f2 := shm_177 f2
  replace f3 := shm_116 f3
  replace f4 := shm_636 f4
  replace f6 := shm_126 f6
  replace f7 := shm_127 f7
  replace f9 := shm_5 f9
  have q1 : n_v vs 1 = n_v vs 0 := f9.symm
  simp only [q1] at f2 f3 f4 f6 f7
  have g2 : v_iv (n_v vs 6) = w_fi ws (n_v vs 0) 15 := congrArg v_iv f2
  have g3 : v_iv (n_v vs 5) = w_fi ws (n_v vs 0) 11 := congrArg v_iv f3
  have kz_0_10 := fdq_43 hD hth r0
  have kz_0_11 := fdq_237 hD hth r0
  have kz_0_15 := fdq_239 hD hth r0
  have nf0 : fc_1 PRD (20, [1, 1, 8], [30, 2008, 1, 1, 11, -1, 1, 15, 2000, 0, 0]) ws (vs) := by
    refine ⟨nf_in hl rfl, sgq_1234 ?_⟩
    · show 1 * w_fi ws (n_v vs 1) 11 + ((-1) * w_fi ws (n_v vs 1) 15 + (2000 * v_iv (n_v vs 8) + 0)) ≤ 2008
      rw [q1]
      exact vc_Mo_known_2_0 (v_iv (n_v vs 5)) (v_iv (n_v vs 6)) (v_iv (n_v vs 7)) (v_iv (n_v vs 8)) (w_fi ws (n_v vs 0) 15) (w_fi ws (n_v vs 0) 11) k5 k6 k7 k8 f1 g2 g3 kz_0_11 kz_0_15
  have nf1 : fc_1 PRD (20, [2, 1], [30, -1, 1, 0, 0, -1, 3, 2005000]) ws (vs) := by
    refine ⟨nf_in hl rfl, sgq_269 ?_⟩
    · show 1 * v_iv (n_v vs 2) + ((-1) * w_el ws (w_ar ws (n_v vs 1) 2) (w_fi ws (n_v vs 1) 5 + 0).toNat + 0) ≤ (-1)
      rw [q1]
      exact vc_Mo_known_2_1 (v_iv (n_v vs 2)) (v_iv (n_v vs 3)) (w_ei ws (w_ar ws (n_v vs 0) 2)) (w_fi ws (n_v vs 0) 5) k2 k3 d1 f6 f7
  have nf2 : fc_1 PRD (20, [1, 2, 9, 8], [60, 4, 2, 1033, 11, 10, 15, 5, 2, 1]) ws (vs) := by
    refine ⟨nf_in hl rfl, sgq_1235 ?_⟩
    · show KNI (w_fi ws (n_v vs 1) 11) (w_fi ws (n_v vs 1) 10) (w_fi ws (n_v vs 1) 15) (w_fi ws (n_v vs 1) 5) (w_ei ws (w_ar ws (n_v vs 1) 2)) (w_ei ws (w_ar ws (n_v vs 1) 1)) (v_iv (n_v vs 2)) (v_iv (n_v vs 9)) (v_iv (n_v vs 8))
      rw [q1]
      exact vc_Mo_known_2_2 (v_iv (n_v vs 2)) (v_iv (n_v vs 4)) (v_iv (n_v vs 5)) (v_iv (n_v vs 6)) (v_iv (n_v vs 7)) (v_iv (n_v vs 8)) (v_iv (n_v vs 9)) (w_fi ws (n_v vs 0) 15) (w_fi ws (n_v vs 0) 11) (w_ei ws (w_ar ws (n_v vs 0) 2)) (w_fi ws (n_v vs 0) 5) (w_ei ws (w_ar ws (n_v vs 0) 1)) (w_fi ws (n_v vs 0) 10) k2 k4 k5 k6 k7 k8 k9 f0 f1 g2 g3 f4 kz_0_10 kz_0_11 kz_0_15
  refine ⟨(fun _ h => (by cases h)), [], trivial, ?_, (fun _ h => (by cases h))⟩
  rw [List.append_nil]
  exact List.forall_mem_cons.mpr ⟨⟨show (20 : Nat) < 100 from by decide, nf0⟩, List.forall_mem_cons.mpr ⟨⟨show (20 : Nat) < 100 from by decide, nf1⟩, List.forall_mem_cons.mpr ⟨⟨show (20 : Nat) < 100 from by decide, nf2⟩, (fun _ h => (by cases h))⟩⟩⟩
set_option maxHeartbeats 4000000 in
theorem vc_Mo_known_3_0 (x2 : Int) (x4 : Int) (x5 : Int) (x6 : Int) (x7 : Int) (x8 : Int) (from_0 : Int) (pos_0 : Int) (all_0 : Int → Int) (r_0 : Int) (k2 : 0 ≤ x2 ∧ x2 ≤ 23) (k4 : 0 ≤ x4 ∧ x4 ≤ 8) (k5 : 0 ≤ x5 ∧ x5 ≤ 2000) (k6 : 0 ≤ x6 ∧ x6 ≤ 2000) (k7 : 0 ≤ x7 ∧ x7 ≤ 8) (k8 : 1 ≤ x8 ∧ x8 ≤ 1) (d0 : x7 + 0 ≤ x4 ∧ x4 ≤ x7 + 0) (f1 : x7 = x5 - x6) (g2 : x6 = from_0) (g3 : x5 = pos_0) (f4 : x4 = all_0 ((r_0 + (195 + x2)))) (kz_0_11 : 0 ≤ pos_0 ∧ pos_0 ≤ 2000) (kz_0_15 : 0 ≤ from_0 ∧ from_0 ≤ 2000) : 1 * pos_0 + ((-1) * from_0 + (2000 * x8 + 0)) ≤ 2008 := by
  first | omega
set_option maxHeartbeats 4000000 in
theorem vc_Mo_known_3_1 (x2 : Int) (x3 : Int) (all_0 : Int → Int) (r_0 : Int) (k2 : 0 ≤ x2 ∧ x2 ≤ 23) (k3 : 1 ≤ x3 ∧ x3 ≤ 24) (d2 : x3 + (-4294967296) ≤ x2 ∧ x2 ≤ x3 + (-1)) (f6 : 1 * x3 + ((-1) * all_0 (r_0 + 0) + 0) ≤ 0) (f7 : (-1) * x3 + (1 * all_0 (r_0 + 0) + 0) ≤ 0) : 1 * x2 + ((-1) * all_0 (r_0 + 0) + 0) ≤ (-1) := by
  first | omega
set_option maxHeartbeats 4000000 in
theorem vc_Mo_known_3_2 (x2 : Int) (x4 : Int) (x5 : Int) (x6 : Int) (x7 : Int) (x8 : Int) (x9 : Int) (from_0 : Int) (pos_0 : Int) (all_0 : Int → Int) (r_0 : Int) (tape_0 : Int → Int) (limit_0 : Int) (k2 : 0 ≤ x2 ∧ x2 ≤ 23) (k4 : 0 ≤ x4 ∧ x4 ≤ 8) (k5 : 0 ≤ x5 ∧ x5 ≤ 2000) (k6 : 0 ≤ x6 ∧ x6 ≤ 2000) (k7 : 0 ≤ x7 ∧ x7 ≤ 8) (k8 : 1 ≤ x8 ∧ x8 ≤ 1) (k9 : 0 ≤ x9 ∧ x9 ≤ 0) (d0 : x7 + 0 ≤ x4 ∧ x4 ≤ x7 + 0) (f1 : x7 = x5 - x6) (g2 : x6 = from_0) (g3 : x5 = pos_0) (f4 : x4 = all_0 ((r_0 + (195 + x2)))) (kz_0_10 : 0 ≤ limit_0 ∧ limit_0 ≤ 2000) (kz_0_11 : 0 ≤ pos_0 ∧ pos_0 ≤ 2000) (kz_0_15 : 0 ≤ from_0 ∧ from_0 ≤ 2000) : KNI (pos_0) (limit_0) (from_0) (r_0) (all_0) (tape_0) (x2) (x9) (x8) := by
  first | subst g2 | skip
  first | subst g3 | skip
  first
    | exact kni_0 (by omega) (by assumption) (by omega) (by omega)
    | exact kni_step ‹KNI _ _ _ _ _ _ _ _ _› (by omega) (by omega) (by omega) (by assumption) (by omega) (by omega) (by assumption) (by omega) (by omega) (by omega)
def o_Mo_known_3 : or_T := (35, 10, [(0, (2, 0, 0, [165])), (1, (2, 0, 0, [165])), (2, (0, 0, 23, [])), (3, (0, 1, 24, [])), (4, (0, 0, 8, [])), (5, (0, 0, 2000, [])), (6, (0, 0, 2000, [])), (7, (0, 0, 8, [])), (8, (0, 1, 1, [])), (9, (0, 0, 0, []))], [(7, [4, 7], [0]), (2, [7, 5, 6], []), (9, [6, 1], [15]), (9, [5, 1], [11]), (20, [4, 1, 2], [50, 1, 1, 1005, 1002, 1, 2, 1, 0, 3, 1, 2, 4, 3, 2, 1, 5, 4, 2, 0, 195, 1, 2]), (7, [2, 3], [2]), (20, [3, 1], [30, 0, 1, 0, 0, -1, 3, 2005000]), (20, [3, 1], [30, 0, -1, 0, 0, 1, 3, 2005000]), (20, [1, 2], [60, 4, 2, 1032, 11, 10, 15, 5, 2, 1]), (24, [0, 1], [])], [], [], [(20, [1, 1, 8], [30, 2008, 1, 1, 11, -1, 1, 15, 2000, 0, 0]), (20, [2, 1], [30, -1, 1, 0, 0, -1, 3, 2005000]), (20, [1, 2, 9, 8], [60, 4, 2, 1033, 11, 10, 15, 5, 2, 1])], [], [(4, 7, 0, 0), (7, 5, -2000, 0), (2, 3, -4294967296, -1)])
theorem oo_Mo_known_3 {kA : Nat → ClassId} : or_ok PRD kA GG o_Mo_known_3 := by
  refine or_mk fun A ta ws vs hD hth hl => ?_
  intro t0 r0 t1 r1 t2 k2 t3 k3 t4 k4 t5 k5 t6 k6 t7 k7 t8 k8 t9 k9 d0 d1 d2 f0 f1 f2 f3 f4 f5 f6 f7 f8 f9
  replace f1 := shm_14 f1
  replace f2 := shm_177 f2
  replace f3 := shm_116 f3
  replace f4 := shm_636 f4
  replace f6 := shm_126 f6
  replace f7 := shm_127 f7
  replace f9 := shm_5 f9
  have q1 : n_v vs 1 = n_v vs 0 := f9.symm
  simp only [q1] at f2 f3 f4 f6 f7
  have g2 : v_iv (n_v vs 6) = w_fi ws (n_v vs 0) 15 := congrArg v_iv f2
  have g3 : v_iv (n_v vs 5) = w_fi ws (n_v vs 0) 11 := congrArg v_iv f3
  have kz_0_10 := fdq_43 hD hth r0
  have kz_0_11 := fdq_237 hD hth r0
  have kz_0_15 := fdq_239 hD hth r0
  have nf0 : fc_1 PRD (20, [1, 1, 8], [30, 2008, 1, 1, 11, -1, 1, 15, 2000, 0, 0]) ws (vs) := by
    refine ⟨nf_in hl rfl, sgq_1234 ?_⟩
    · show 1 * w_fi ws (n_v vs 1) 11 + ((-1) * w_fi ws (n_v vs 1) 15 + (2000 * v_iv (n_v vs 8) + 0)) ≤ 2008
      rw [q1]
      exact vc_Mo_known_3_0 (v_iv (n_v vs 2)) (v_iv (n_v vs 4)) (v_iv (n_v vs 5)) (v_iv (n_v vs 6)) (v_iv (n_v vs 7)) (v_iv (n_v vs 8)) (w_fi ws (n_v vs 0) 15) (w_fi ws (n_v vs 0) 11) (w_ei ws (w_ar ws (n_v vs 0) 2)) (w_fi ws (n_v vs 0) 5) k2 k4 k5 k6 k7 k8 d0 f1 g2 g3 f4 kz_0_11 kz_0_15
  have nf1 : fc_1 PRD (20, [2, 1], [30, -1, 1, 0, 0, -1, 3, 2005000]) ws (vs) := by
    refine ⟨nf_in hl rfl, sgq_269 ?_⟩
    · show 1 * v_iv (n_v vs 2) + ((-1) * w_el ws (w_ar ws (n_v vs 1) 2) (w_fi ws (n_v vs 1) 5 + 0).toNat + 0) ≤ (-1)
      rw [q1]
      exact vc_Mo_known_3_1 (v_iv (n_v vs 2)) (v_iv (n_v vs 3)) (w_ei ws (w_ar ws (n_v vs 0) 2)) (w_fi ws (n_v vs 0) 5) k2 k3 d2 f6 f7
  have nf2 : fc_1 PRD (20, [1, 2, 9, 8], [60, 4, 2, 1033, 11, 10, 15, 5, 2, 1]) ws (vs) := by
    refine ⟨nf_in hl rfl, sgq_1235 ?_⟩
    · show KNI (w_fi ws (n_v vs 1) 11) (w_fi ws (n_v vs 1) 10) (w_fi ws (n_v vs 1) 15) (w_fi ws (n_v vs 1) 5) (w_ei ws (w_ar ws (n_v vs 1) 2)) (w_ei ws (w_ar ws (n_v vs 1) 1)) (v_iv (n_v vs 2)) (v_iv (n_v vs 9)) (v_iv (n_v vs 8))
      rw [q1]
      exact vc_Mo_known_3_2 (v_iv (n_v vs 2)) (v_iv (n_v vs 4)) (v_iv (n_v vs 5)) (v_iv (n_v vs 6)) (v_iv (n_v vs 7)) (v_iv (n_v vs 8)) (v_iv (n_v vs 9)) (w_fi ws (n_v vs 0) 15) (w_fi ws (n_v vs 0) 11) (w_ei ws (w_ar ws (n_v vs 0) 2)) (w_fi ws (n_v vs 0) 5) (w_ei ws (w_ar ws (n_v vs 0) 1)) (w_fi ws (n_v vs 0) 10) k2 k4 k5 k6 k7 k8 k9 d0 f1 g2 g3 f4 kz_0_10 kz_0_11 kz_0_15
  refine ⟨(fun _ h => (by cases h)), [], trivial, ?_, (fun _ h => (by cases h))⟩
  rw [List.append_nil]
  exact List.forall_mem_cons.mpr ⟨⟨show (20 : Nat) < 100 from by decide, nf0⟩, List.forall_mem_cons.mpr ⟨⟨show (20 : Nat) < 100 from by decide, nf1⟩, List.forall_mem_cons.mpr ⟨⟨show (20 : Nat) < 100 from by decide, nf2⟩, (fun _ h => (by cases h))⟩⟩⟩
set_option maxHeartbeats 4000000 in
theorem vc_Mo_known_4_0 (x2 : Int) (x3 : Int) (x4 : Int) (x5 : Int) (x6 : Int) (x8 : Int) (from_0 : Int) (pos_0 : Int) (all_0 : Int → Int) (r_0 : Int) (tape_0 : Int → Int) (limit_0 : Int) (k2 : 0 ≤ x2 ∧ x2 ≤ 23) (k3 : 0 ≤ x3 ∧ x3 ≤ 0) (k4 : 0 ≤ x4 ∧ x4 ≤ 8) (k5 : 0 ≤ x5 ∧ x5 ≤ 2000) (k6 : 0 ≤ x6 ∧ x6 ≤ 2000) (k8 : 1 ≤ x8 ∧ x8 ≤ 24) (f0 : x8 = x2 + 1) (f1 : x3 = 0) (g4 : x6 = from_0) (g5 : x5 = pos_0) (f8 : KNL (pos_0) (limit_0) (from_0) (r_0) (all_0) (tape_0) (x2)) (f9 : KNI (pos_0) (limit_0) (from_0) (r_0) (all_0) (tape_0) (x2) (x4) (x3)) (kz_0_10 : 0 ≤ limit_0 ∧ limit_0 ≤ 2000) (kz_0_11 : 0 ≤ pos_0 ∧ pos_0 ≤ 2000) (kz_0_15 : 0 ≤ from_0 ∧ from_0 ≤ 2000) : KNL (pos_0) (limit_0) (from_0) (r_0) (all_0) (tape_0) (x8) := by
  first | subst g4 | skip
  first | subst g5 | skip
  first
    | exact knl_0 (by omega)
    | exact knl_step ‹KNL _ _ _ _ _ _ _› ‹KNI _ _ _ _ _ _ _ _ _› (by omega) (by omega)
def o_Mo_known_4 : or_T := (2, 9, [(0, (2, 0, 0, [165])), (1, (2, 0, 0, [165])), (2, (0, 0, 23, [])), (3, (0, 0, 0, [])), (4, (0, 0, 8, [])), (5, (0, 0, 2000, [])), (6, (0, 0, 2000, [])), (7, (0, -2000, 8, [])), (8, (0, 1, 24, []))], [(6, [8, 2], [1]), (8, [3], [0]), (7, [4, 7], [3]), (2, [7, 5, 6], []), (9, [6, 1], [15]), (9, [5, 1], [11]), (20, [1, 1, 3], [30, 2008, 1, 1, 11, -1, 1, 15, 2000, 0, 0]), (20, [2, 1], [30, -1, 1, 0, 0, -1, 3, 2005000]), (20, [1, 2], [60, 4, 2, 1032, 11, 10, 15, 5, 2, 1]), (20, [1, 2, 4, 3], [60, 4, 2, 1033, 11, 10, 15, 5, 2, 1]), (24, [0, 1], [])], [], [], [(20, [1, 8], [60, 4, 2, 1032, 11, 10, 15, 5, 2, 1])], [], [(8, 2, 1, 1), (4, 7, 0, 4294967296), (7, 5, -2000, 0)])
theorem oo_Mo_known_4 {kA : Nat → ClassId} : or_ok PRD kA GG o_Mo_known_4 := by
  refine or_mk fun A ta ws vs hD hth hl => ?_
  intro t0 r0 t1 r1 t2 k2 t3 k3 t4 k4 t5 k5 t6 k6 t7 k7 t8 k8 d0 d1 d2 f0 f1 f2 f3 f4 f5 f6 f7 f8 f9 f10
  replace f0 := shm_4 f0
  replace f1 := shm_192 f1
  replace f4 := shm_177 f4
  replace f5 := shm_116 f5
  replace f8 := shm_1231 f8
  replace f9 := shm_1235 f9
  replace f10 := shm_5 f10
  have q1 : n_v vs 1 = n_v vs 0 := f10.symm
  simp only [q1] at f4 f5 f8 f9
  have g4 : v_iv (n_v vs 6) = w_fi ws (n_v vs 0) 15 := congrArg v_iv f4
  have g5 : v_iv (n_v vs 5) = w_fi ws (n_v vs 0) 11 := congrArg v_iv f5
  have kz_0_10 := fdq_43 hD hth r0
  have kz_0_11 := fdq_237 hD hth r0
  have kz_0_15 := fdq_239 hD hth r0
  have nf0 : fc_1 PRD (20, [1, 8], [60, 4, 2, 1032, 11, 10, 15, 5, 2, 1]) ws (vs) := by
    refine ⟨nf_in hl rfl, sgq_1231 ?_⟩
    · show KNL (w_fi ws (n_v vs 1) 11) (w_fi ws (n_v vs 1) 10) (w_fi ws (n_v vs 1) 15) (w_fi ws (n_v vs 1) 5) (w_ei ws (w_ar ws (n_v vs 1) 2)) (w_ei ws (w_ar ws (n_v vs 1) 1)) (v_iv (n_v vs 8))
      rw [q1]
      exact vc_Mo_known_4_0 (v_iv (n_v vs 2)) (v_iv (n_v vs 3)) (v_iv (n_v vs 4)) (v_iv (n_v vs 5)) (v_iv (n_v vs 6)) (v_iv (n_v vs 8)) (w_fi ws (n_v vs 0) 15) (w_fi ws (n_v vs 0) 11) (w_ei ws (w_ar ws (n_v vs 0) 2)) (w_fi ws (n_v vs 0) 5) (w_ei ws (w_ar ws (n_v vs 0) 1)) (w_fi ws (n_v vs 0) 10) k2 k3 k4 k5 k6 k8 f0 f1 g4 g5 f8 f9 kz_0_10 kz_0_11 kz_0_15
  refine ⟨(fun _ h => (by cases h)), [], trivial, ?_, (fun _ h => (by cases h))⟩
  rw [List.append_nil]
  exact List.forall_mem_cons.mpr ⟨⟨show (20 : Nat) < 100 from by decide, nf0⟩, (fun _ h => (by cases h))⟩
set_option maxHeartbeats 4000000 in
theorem vc_Mo_known_5_0 (x2 : Int) (all_0 : Int → Int) (r_0 : Int) (k2 : 0 ≤ x2 ∧ x2 ≤ 23) (f6 : 1 * x2 + ((-1) * all_0 (r_0 + 0) + 0) ≤ (-1)) : NDB (r_0) (all_0) (x2) := by
  exact Or.inr ⟨by omega, by simp only [Int.add_zero] at *; omega⟩
set_option maxHeartbeats 4000000 in
theorem vc_Mo_known_5_1 (x2 : Int) (x3 : Int) (x4 : Int) (x5 : Int) (x6 : Int) (x7 : Int) (from_0 : Int) (pos_0 : Int) (all_0 : Int → Int) (r_0 : Int) (tape_0 : Int → Int) (limit_0 : Int) (k2 : 0 ≤ x2 ∧ x2 ≤ 23) (k3 : 1 ≤ x3 ∧ x3 ≤ 1) (k4 : 0 ≤ x4 ∧ x4 ≤ 8) (k5 : 0 ≤ x5 ∧ x5 ≤ 2000) (k6 : 0 ≤ x6 ∧ x6 ≤ 2000) (k7 : (-2000) ≤ x7 ∧ x7 ≤ 8) (d0 : x7 + 0 ≤ x4 ∧ x4 ≤ x7 + 4294967296) (f2 : x7 = x5 - x6) (g3 : x6 = from_0) (g4 : x5 = pos_0) (f6 : 1 * x2 + ((-1) * all_0 (r_0 + 0) + 0) ≤ (-1)) (f7 : KNL (pos_0) (limit_0) (from_0) (r_0) (all_0) (tape_0) (x2)) (f8 : KNI (pos_0) (limit_0) (from_0) (r_0) (all_0) (tape_0) (x2) (x4) (x3)) (kz_0_10 : 0 ≤ limit_0 ∧ limit_0 ≤ 2000) (kz_0_11 : 0 ≤ pos_0 ∧ pos_0 ≤ 2000) (kz_0_15 : 0 ≤ from_0 ∧ from_0 ≤ 2000) : KNQ (pos_0) (limit_0) (from_0) (r_0) (all_0) (tape_0) (x2) := by
  first | subst g3 | skip
  first | subst g4 | skip
  exact knq_of ‹KNL _ _ _ _ _ _ _› ‹KNI _ _ _ _ _ _ _ _ _› (by omega) (by omega) rfl (by omega) (by omega) (by omega)
def o_Mo_known_5 : or_T := (100, 8, [(0, (2, 0, 0, [165])), (2, (0, 0, 23, [])), (3, (0, 1, 1, [])), (4, (0, 0, 8, [])), (5, (0, 0, 2000, [])), (6, (0, 0, 2000, [])), (7, (0, -2000, 8, []))], [(2, [7, 5, 6], []), (9, [6, 1], [15]), (9, [5, 1], [11]), (20, [2, 1], [30, -1, 1, 0, 0, -1, 3, 2005000]), (20, [1, 2], [60, 4, 2, 1032, 11, 10, 15, 5, 2, 1]), (20, [1, 2, 4, 3], [60, 4, 2, 1033, 11, 10, 15, 5, 2, 1]), (24, [0, 1], [])], [], [], [(20, [0, 2], [60, 1, 1, 207, 5, 2]), (20, [0, 2], [60, 4, 2, 1031, 11, 10, 15, 5, 2, 1])], [], [(4, 7, 0, 4294967296)])
theorem oo_Mo_known_5 {kA : Nat → ClassId} : or_ok PRD kA GG o_Mo_known_5 := by
  refine or_mk fun A ta ws vs hD hth hl => ?_
  intro t0 r0 t2 k2 t3 k3 t4 k4 t5 k5 t6 k6 t7 k7 d0 f2 f3 f4 f6 f7 f8 f9
  replace f3 := shm_177 f3
  replace f4 := shm_116 f4
  replace f6 := shm_269 f6
  replace f7 := shm_1231 f7
  replace f8 := shm_1235 f8
  replace f9 := shm_5 f9
  have q1 : n_v vs 1 = n_v vs 0 := f9.symm
  simp only [q1] at f3 f4 f6 f7 f8
  have g3 : v_iv (n_v vs 6) = w_fi ws (n_v vs 0) 15 := congrArg v_iv f3
  have g4 : v_iv (n_v vs 5) = w_fi ws (n_v vs 0) 11 := congrArg v_iv f4
  have kz_0_10 := fdq_43 hD hth r0
  have kz_0_11 := fdq_237 hD hth r0
  have kz_0_15 := fdq_239 hD hth r0
  have nf0 : fc_1 PRD (20, [0, 2], [60, 1, 1, 207, 5, 2]) ws (vs) := ⟨nf_in hl rfl, sgq_1232 (vc_Mo_known_5_0 (v_iv (n_v vs 2)) (w_ei ws (w_ar ws (n_v vs 0) 2)) (w_fi ws (n_v vs 0) 5) k2 f6)⟩
  have nf1 : fc_1 PRD (20, [0, 2], [60, 4, 2, 1031, 11, 10, 15, 5, 2, 1]) ws (vs) := ⟨nf_in hl rfl, sgq_1233 (vc_Mo_known_5_1 (v_iv (n_v vs 2)) (v_iv (n_v vs 3)) (v_iv (n_v vs 4)) (v_iv (n_v vs 5)) (v_iv (n_v vs 6)) (v_iv (n_v vs 7)) (w_fi ws (n_v vs 0) 15) (w_fi ws (n_v vs 0) 11) (w_ei ws (w_ar ws (n_v vs 0) 2)) (w_fi ws (n_v vs 0) 5) (w_ei ws (w_ar ws (n_v vs 0) 1)) (w_fi ws (n_v vs 0) 10) k2 k3 k4 k5 k6 k7 d0 (shm_14 f2) g3 g4 f6 f7 f8 kz_0_10 kz_0_11 kz_0_15)⟩
  refine ⟨(fun _ h => (by cases h)), [], trivial, ?_, (fun _ h => (by cases h))⟩
  rw [List.append_nil]
  exact List.forall_mem_cons.mpr ⟨⟨show (20 : Nat) < 100 from by decide, nf0⟩, List.forall_mem_cons.mpr ⟨⟨show (20 : Nat) < 100 from by decide, nf1⟩, (fun _ h => (by cases h))⟩⟩
set_option maxHeartbeats 4000000 in
theorem vc_Mo_known_6_0 (x2 : Int) (x3 : Int) (x4 : Int) (x5 : Int) (x6 : Int) (x8 : Int) (from_0 : Int) (pos_0 : Int) (all_0 : Int → Int) (r_0 : Int) (tape_0 : Int → Int) (limit_0 : Int) (k2 : 0 ≤ x2 ∧ x2 ≤ 23) (k3 : 0 ≤ x3 ∧ x3 ≤ 0) (k4 : 0 ≤ x4 ∧ x4 ≤ 8) (k5 : 1 ≤ x5 ∧ x5 ≤ 2000) (k6 : 0 ≤ x6 ∧ x6 ≤ 2000) (k8 : 1 ≤ x8 ∧ x8 ≤ 24) (f0 : x8 = x2 + 1) (f2 : x3 = 0) (g5 : x6 = from_0) (g6 : x5 = pos_0) (f9 : KNL (pos_0) (limit_0) (from_0) (r_0) (all_0) (tape_0) (x2)) (f10 : KNI (pos_0) (limit_0) (from_0) (r_0) (all_0) (tape_0) (x2) (x4) (x3)) (kz_0_10 : 0 ≤ limit_0 ∧ limit_0 ≤ 2000) (kz_0_11 : 0 ≤ pos_0 ∧ pos_0 ≤ 2000) (kz_0_15 : 0 ≤ from_0 ∧ from_0 ≤ 2000) : KNL (pos_0) (limit_0) (from_0) (r_0) (all_0) (tape_0) (x8) := by
  first | subst g5 | skip
  first | subst g6 | skip
  first
    | exact knl_0 (by omega)
    | exact knl_step ‹KNL _ _ _ _ _ _ _› ‹KNI _ _ _ _ _ _ _ _ _› (by omega) (by omega)
def o_Mo_known_6 : or_T := (2, 9, [(0, (2, 0, 0, [165])), (1, (2, 0, 0, [165])), (2, (0, 0, 23, [])), (3, (0, 0, 0, [])), (4, (0, 0, 8, [])), (5, (0, 1, 2000, [])), (6, (0, 0, 2000, [])), (7, (0, 1, 2000, [])), (8, (0, 1, 24, []))], [(6, [8, 2], [1]), (8, [3], [0]), (8, [3], [0]), (7, [4, 7], [2]), (2, [7, 5, 6], []), (9, [6, 1], [15]), (9, [5, 1], [11]), (20, [1, 1, 3], [30, 2008, 1, 1, 11, -1, 1, 15, 2000, 0, 0]), (20, [2, 1], [30, -1, 1, 0, 0, -1, 3, 2005000]), (20, [1, 2], [60, 4, 2, 1032, 11, 10, 15, 5, 2, 1]), (20, [1, 2, 4, 3], [60, 4, 2, 1033, 11, 10, 15, 5, 2, 1]), (24, [0, 1], [])], [], [], [(20, [1, 8], [60, 4, 2, 1032, 11, 10, 15, 5, 2, 1])], [], [(8, 2, 1, 1), (4, 7, -4294967296, -1), (7, 5, -2000, 0)])
theorem oo_Mo_known_6 {kA : Nat → ClassId} : or_ok PRD kA GG o_Mo_known_6 := by
  refine or_mk fun A ta ws vs hD hth hl => ?_
  intro t0 r0 t1 r1 t2 k2 t3 k3 t4 k4 t5 k5 t6 k6 t7 k7 t8 k8 d0 d1 d2 f0 f1 f2 f3 f4 f5 f6 f7 f8 f9 f10 f11
  replace f0 := shm_4 f0
  replace f2 := shm_192 f2
  replace f5 := shm_177 f5
  replace f6 := shm_116 f6
  replace f9 := shm_1231 f9
  replace f10 := shm_1235 f10
  replace f11 := shm_5 f11
  have q1 : n_v vs 1 = n_v vs 0 := f11.symm
  simp only [q1] at f5 f6 f9 f10
  have g5 : v_iv (n_v vs 6) = w_fi ws (n_v vs 0) 15 := congrArg v_iv f5
  have g6 : v_iv (n_v vs 5) = w_fi ws (n_v vs 0) 11 := congrArg v_iv f6
  have kz_0_10 := fdq_43 hD hth r0
  have kz_0_11 := fdq_237 hD hth r0
  have kz_0_15 := fdq_239 hD hth r0
  have nf0 : fc_1 PRD (20, [1, 8], [60, 4, 2, 1032, 11, 10, 15, 5, 2, 1]) ws (vs) := by
    refine ⟨nf_in hl rfl, sgq_1231 ?_⟩
    · show KNL (w_fi ws (n_v vs 1) 11) (w_fi ws (n_v vs 1) 10) (w_fi ws (n_v vs 1) 15) (w_fi ws (n_v vs 1) 5) (w_ei ws (w_ar ws (n_v vs 1) 2)) (w_ei ws (w_ar ws (n_v vs 1) 1)) (v_iv (n_v vs 8))
      rw [q1]
      exact vc_Mo_known_6_0 (v_iv (n_v vs 2)) (v_iv (n_v vs 3)) (v_iv (n_v vs 4)) (v_iv (n_v vs 5)) (v_iv (n_v vs 6)) (v_iv (n_v vs 8)) (w_fi ws (n_v vs 0) 15) (w_fi ws (n_v vs 0) 11) (w_ei ws (w_ar ws (n_v vs 0) 2)) (w_fi ws (n_v vs 0) 5) (w_ei ws (w_ar ws (n_v vs 0) 1)) (w_fi ws (n_v vs 0) 10) k2 k3 k4 k5 k6 k8 f0 f2 g5 g6 f9 f10 kz_0_10 kz_0_11 kz_0_15
  refine ⟨(fun _ h => (by cases h)), [], trivial, ?_, (fun _ h => (by cases h))⟩
  rw [List.append_nil]
  exact List.forall_mem_cons.mpr ⟨⟨show (20 : Nat) < 100 from by decide, nf0⟩, (fun _ h => (by cases h))⟩
def o_Mo_known_7 : or_T := (68, 15, [(0, (2, 0, 0, [165])), (1, (2, 0, 0, [165])), (2, (0, 0, 23, [])), (3, (0, 1, 1, [])), (4, (0, 0, 8, [])), (5, (0, 1, 2000, [])), (6, (0, 0, 2000, [])), (7, (0, 1, 2000, [])), (8, (2, 0, 0, [167])), (9, (0, 0, 66297, [])), (10, (0, 3, 3, [])), (11, (0, 3, 66300, []))], [(1, [11, 9, 10], []), (9, [9, 1], [5]), (9, [8, 1], [2]), (8, [3], [1]), (7, [4, 7], [2]), (2, [7, 5, 6], []), (9, [6, 1], [15]), (9, [5, 1], [11]), (20, [1, 1, 3], [30, 2008, 1, 1, 11, -1, 1, 15, 2000, 0, 0]), (20, [2, 1], [30, -1, 1, 0, 0, -1, 3, 2005000]), (20, [1, 2], [60, 4, 2, 1032, 11, 10, 15, 5, 2, 1]), (20, [1, 2, 4, 3], [60, 4, 2, 1033, 11, 10, 15, 5, 2, 1]), (24, [0, 1], [])], [(4, (0, 0, 7, []))], [], [], [], [(11, 9, 3, 3), (4, 7, -4294967296, -1), (7, 5, -2000, 0)])
theorem oo_Mo_known_7 {kA : Nat → ClassId} : or_ok PRD kA GG o_Mo_known_7 := by
  refine or_mk fun A ta ws vs hD hth hl => ?_
  intro t0 r0 t1 r1 t2 k2 t3 k3 t4 k4 t5 k5 t6 k6 t7 k7 t8 r8 t9 k9 t10 k10 t11 k11 d0 d1 d2 f0 f1 f2 f3 f4 f5 f6 f7 f8 f9 f10 f11 f12
  replace f0 := shm_12 f0
  replace f1 := shm_110 f1
  replace f2 := shm_120 f2
  replace f3 := shm_142 f3
  replace f4 := shm_6 f4
  replace f5 := shm_14 f5
  replace f6 := shm_177 f6
  replace f7 := shm_116 f7
  replace f8 := shm_1234 f8
  replace f9 := shm_269 f9
  replace f10 := shm_1231 f10
  replace f11 := shm_1235 f11
  replace f12 := shm_5 f12
  have q1 : n_v vs 1 = n_v vs 0 := f12.symm
  simp only [q1] at f1 f2 f6 f7 f8 f9 f10 f11
  have cr_0_1 := fdq_39 hD hth r0
  have cr_0_2 := fdq_10 hD hth r0
  have ad_8 : v_ad (n_v vs 8) = w_ar ws (n_v vs 0) 2 := congrArg v_ad f2
  have g1 : v_iv (n_v vs 9) = w_fi ws (n_v vs 0) 5 := congrArg v_iv f1
  have g6 : v_iv (n_v vs 6) = w_fi ws (n_v vs 0) 15 := congrArg v_iv f6
  have g7 : v_iv (n_v vs 5) = w_fi ws (n_v vs 0) 11 := congrArg v_iv f7
  have br_0_2_F5_0_0 : w_ei ws (w_ar ws (n_v vs 0) 2) (w_fi ws (n_v vs 0) 5 + 0) = w_el ws (w_ar ws (n_v vs 0) 2) (w_fi ws (n_v vs 0) 5 + 0).toNat := rfl
  have hK_0_1 := elq_7 hD hth cr_0_1
  have kz_0_10 := fdq_43 hD hth r0
  have kz_0_11 := fdq_237 hD hth r0
  have kz_0_15 := fdq_239 hD hth r0
  have rf4 : tv_ok ta (0, 0, 7, []) (n_v vs 4) := tv_in t4 (by first | omega | grind) (by first | omega | grind)
  refine ⟨List.forall_mem_cons.mpr ⟨rf4, (fun _ h => (by cases h))⟩, [], trivial, ?_, (fun _ h => (by cases h))⟩
  rw [List.append_nil]
  exact (fun _ h => (by cases h))
set_option maxHeartbeats 4000000 in
theorem vc_Mo_known_8_0 (x3 : Int) (x4 : Int) (x5 : Int) (x6 : Int) (x7 : Int) (x17 : Int) (x19 : Int) (x20 : Int) (from_0 : Int) (pos_0 : Int) (k3 : 1 ≤ x3 ∧ x3 ≤ 1) (k4 : 0 ≤ x4 ∧ x4 ≤ 7) (k5 : 1 ≤ x5 ∧ x5 ≤ 2000) (k6 : 0 ≤ x6 ∧ x6 ≤ 2000) (k7 : 1 ≤ x7 ∧ x7 ≤ 2000) (k17 : 0 ≤ x17 ∧ x17 ≤ 2007) (k19 : 0 ≤ x19 ∧ x19 ≤ 0) (k20 : 1 ≤ x20 ∧ x20 ≤ 8) (d0 : x4 + 1 ≤ x20 ∧ x20 ≤ x4 + 1) (f4 : x17 = x6 + x4) (g5 : x6 = from_0) (f15 : x7 = x5 - x6) (g16 : x5 = pos_0) (f17 : 1 * pos_0 + ((-1) * from_0 + (2000 * x3 + 0)) ≤ 2008) (kz_0_11 : 0 ≤ pos_0 ∧ pos_0 ≤ 2000) (kz_0_15 : 0 ≤ from_0 ∧ from_0 ≤ 2000) : 1 * pos_0 + ((-1) * from_0 + (2000 * x19 + 0)) ≤ 2008 := by
  first | omega
set_option maxHeartbeats 4000000 in
theorem vc_Mo_known_8_1 (x2 : Int) (x3 : Int) (x4 : Int) (x5 : Int) (x6 : Int) (x7 : Int) (x9 : Int) (x11 : Int) (x13 : Int) (x14 : Int) (x15 : Int) (x16 : Int) (x17 : Int) (x18 : Int) (x19 : Int) (x20 : Int) (tape_0 : Int → Int) (limit_0 : Int) (from_0 : Int) (all_0 : Int → Int) (r_0 : Int) (pos_0 : Int) (k2 : 0 ≤ x2 ∧ x2 ≤ 23) (k3 : 1 ≤ x3 ∧ x3 ≤ 1) (k4 : 0 ≤ x4 ∧ x4 ≤ 7) (k5 : 1 ≤ x5 ∧ x5 ≤ 2000) (k6 : 0 ≤ x6 ∧ x6 ≤ 2000) (k7 : 1 ≤ x7 ∧ x7 ≤ 2000) (k9 : 0 ≤ x9 ∧ x9 ≤ 66297) (k11 : 3 ≤ x11 ∧ x11 ≤ 66300) (k13 : 0 ≤ x13 ∧ x13 ≤ 184) (k14 : 3 ≤ x14 ∧ x14 ≤ 66484) (k15 : 3 ≤ x15 ∧ x15 ≤ 66491) (k16 : 0 ≤ x16 ∧ x16 ≤ 255) (k17 : 0 ≤ x17 ∧ x17 ≤ 2007) (k18 : (-1) ≤ x18 ∧ x18 ≤ (-1)) (k19 : 0 ≤ x19 ∧ x19 ≤ 0) (k20 : 1 ≤ x20 ∧ x20 ≤ 8) (d0 : x4 + 1 ≤ x20 ∧ x20 ≤ x4 + 1) (d1 : x7 + (-4294967296) ≤ x20 ∧ x20 ≤ x7 + 0) (d4 : x6 + 0 ≤ x17 ∧ x17 ≤ x6 + 7) (d14 : x9 + 3 ≤ x11 ∧ x11 ≤ x9 + 3) (d15 : x7 + (-4294967296) ≤ x4 ∧ x4 ≤ x7 + (-1)) (f0 : x20 = x4 + 1) (f2 : ((x17 + 1) ≤ limit_0) → (x18 = (tape_0 (x17) % 256))) (f4 : x17 = x6 + x4) (g5 : x6 = from_0) (h6 : x16 = all_0 (x15)) (f7 : x15 = x14 + x4) (f8 : x14 = x11 + x13) (f9 : x13 = 8 * x2) (g11 : x9 = r_0) (f15 : x7 = x5 - x6) (g16 : x5 = pos_0) (f20 : KNI (pos_0) (limit_0) (from_0) (r_0) (all_0) (tape_0) (x2) (x4) (x3)) (kz_0_10 : 0 ≤ limit_0 ∧ limit_0 ≤ 2000) (kz_0_11 : 0 ≤ pos_0 ∧ pos_0 ≤ 2000) (kz_0_15 : 0 ≤ from_0 ∧ from_0 ≤ 2000) : KNI (pos_0) (limit_0) (from_0) (r_0) (all_0) (tape_0) (x2) (x20) (x19) := by
  first | subst g5 | skip
  first | subst g11 | skip
  first | subst g16 | skip
  first
    | exact kni_0 (by omega) (by assumption) (by omega) (by omega)
    | exact kni_step ‹KNI _ _ _ _ _ _ _ _ _› (by omega) (by omega) (by omega) (by assumption) (by omega) (by omega) (by assumption) (by omega) (by omega) (by omega)
def o_Mo_known_8 : or_T := (35, 21, [(0, (2, 0, 0, [165])), (1, (2, 0, 0, [165])), (2, (0, 0, 23, [])), (3, (0, 1, 1, [])), (4, (0, 0, 7, [])), (5, (0, 1, 2000, [])), (6, (0, 0, 2000, [])), (7, (0, 1, 2000, [])), (8, (2, 0, 0, [167])), (9, (0, 0, 66297, [])), (10, (0, 3, 3, [])), (11, (0, 3, 66300, [])), (12, (0, 8, 8, [])), (13, (0, 0, 184, [])), (14, (0, 3, 66484, [])), (15, (0, 3, 66491, [])), (16, (0, 0, 255, [])), (17, (0, 0, 2007, [])), (18, (0, -1, -1, [])), (19, (0, 0, 0, [])), (20, (0, 1, 8, []))], [(6, [20, 4], [1]), (7, [16, 18], [1]), (20, [17, 1, 18], [50, 1, 1, 1010, 1001, 4, 11, 0, 6, 4, 2, 1, 0, 0, 1, 2, 1, 10, 1, 2, 1, 2, 9, 5, 3, 1, 1, 1, 0, 0, 256]), (20, [1, 17, 18], [50, 1, 0, 10, 4, 7, 0, 3, 2, 0, 10, 1, 1, 1, 2, 1, 2, 0, -1]), (1, [17, 6, 4], []), (9, [6, 1], [15]), (10, [16, 8, 15], []), (1, [15, 14, 4], []), (1, [14, 11, 13], []), (3, [13, 12, 2], []), (1, [11, 9, 10], []), (9, [9, 1], [5]), (9, [8, 1], [2]), (8, [3], [1]), (7, [4, 7], [2]), (2, [7, 5, 6], []), (9, [5, 1], [11]), (20, [1, 1, 3], [30, 2008, 1, 1, 11, -1, 1, 15, 2000, 0, 0]), (20, [2, 1], [30, -1, 1, 0, 0, -1, 3, 2005000]), (20, [1, 2], [60, 4, 2, 1032, 11, 10, 15, 5, 2, 1]), (20, [1, 2, 4, 3], [60, 4, 2, 1033, 11, 10, 15, 5, 2, 1]), (24, [0, 1], [])], [], [], [(20, [1, 1, 19], [30, 2008, 1, 1, 11, -1, 1, 15, 2000, 0, 0]), (20, [1, 2, 20, 19], [60, 4, 2, 1033, 11, 10, 15, 5, 2, 1])], [], [(20, 4, 1, 1), (20, 7, -4294967296, 0), (17, 4, 0, 2000), (17, 7, -4294967296, 1999), (17, 6, 0, 7), (15, 4, 3, 66484), (15, 7, -4294967296, 66483), (15, 14, 0, 7), (15, 13, 3, 66307), (15, 11, 0, 191), (15, 9, 3, 194), (14, 13, 3, 66300), (14, 11, 0, 184), (14, 9, 3, 187), (11, 9, 3, 3), (4, 7, -4294967296, -1), (7, 5, -2000, 0)])
theorem oo_Mo_known_8 {kA : Nat → ClassId} : or_ok PRD kA GG o_Mo_known_8 := by
  refine or_mk fun A ta ws vs hD hth hl => ?_
  intro t0 r0 t1 r1 t2 k2 t3 k3 t4 k4 t5 k5 t6 k6 t7 k7 t8 r8 t9 k9 t10 k10 t11 k11 t12 k12 t13 k13 t14 k14 t15 k15 t16 k16 t17 k17 t18 k18 t19 k19 t20 k20 d0 d1 d2 d3 d4 d5 d6 d7 d8 d9 d10 d11 d12 d13 d14 d15 d16 f0 f1 f2 f3 f4 f5 f6 f7 f8 f9 f10 f11 f12 f13 f14 f15 f16 f17 f18 f19 f20 f21
  replace f0 := shm_4 f0
  replace f2 := shm_541 f2
  replace f4 := shm_12 f4
  replace f5 := shm_177 f5
  replace f6 := shm_107 f6
  replace f7 := shm_12 f7
  replace f8 := shm_12 f8
  replace f9 := shm_38 f9
  rw [show v_iv (n_v vs 12) = 8 from by omega] at f9
  replace f11 := shm_110 f11
  replace f12 := shm_120 f12
  replace f15 := shm_14 f15
  replace f16 := shm_116 f16
  replace f17 := shm_1234 f17
  replace f20 := shm_1235 f20
  replace f21 := shm_5 f21
  have q1 : n_v vs 1 = n_v vs 0 := f21.symm
  simp only [q1] at f2 f5 f11 f12 f16 f17 f20
  have ad_8 : v_ad (n_v vs 8) = w_ar ws (n_v vs 0) 2 := congrArg v_ad f12
  have g5 : v_iv (n_v vs 6) = w_fi ws (n_v vs 0) 15 := congrArg v_iv f5
  simp only [ad_8] at f6
  have h6 : v_iv (n_v vs 16) = w_ei ws (w_ar ws (n_v vs 0) 2) (v_iv (n_v vs 15)) := f6
  have g11 : v_iv (n_v vs 9) = w_fi ws (n_v vs 0) 5 := congrArg v_iv f11
  have g16 : v_iv (n_v vs 5) = w_fi ws (n_v vs 0) 11 := congrArg v_iv f16
  have kz_0_10 := fdq_43 hD hth r0
  have kz_0_11 := fdq_237 hD hth r0
  have kz_0_15 := fdq_239 hD hth r0
  have nf0 : fc_1 PRD (20, [1, 1, 19], [30, 2008, 1, 1, 11, -1, 1, 15, 2000, 0, 0]) ws (vs) := by
    refine ⟨nf_in hl rfl, sgq_1234 ?_⟩
    · show 1 * w_fi ws (n_v vs 1) 11 + ((-1) * w_fi ws (n_v vs 1) 15 + (2000 * v_iv (n_v vs 19) + 0)) ≤ 2008
      rw [q1]
      exact vc_Mo_known_8_0 (v_iv (n_v vs 3)) (v_iv (n_v vs 4)) (v_iv (n_v vs 5)) (v_iv (n_v vs 6)) (v_iv (n_v vs 7)) (v_iv (n_v vs 17)) (v_iv (n_v vs 19)) (v_iv (n_v vs 20)) (w_fi ws (n_v vs 0) 15) (w_fi ws (n_v vs 0) 11) k3 k4 k5 k6 k7 k17 k19 k20 d0 f4 g5 f15 g16 f17 kz_0_11 kz_0_15
  have nf1 : fc_1 PRD (20, [1, 2, 20, 19], [60, 4, 2, 1033, 11, 10, 15, 5, 2, 1]) ws (vs) := by
    refine ⟨nf_in hl rfl, sgq_1235 ?_⟩
    · show KNI (w_fi ws (n_v vs 1) 11) (w_fi ws (n_v vs 1) 10) (w_fi ws (n_v vs 1) 15) (w_fi ws (n_v vs 1) 5) (w_ei ws (w_ar ws (n_v vs 1) 2)) (w_ei ws (w_ar ws (n_v vs 1) 1)) (v_iv (n_v vs 2)) (v_iv (n_v vs 20)) (v_iv (n_v vs 19))
      rw [q1]
      exact vc_Mo_known_8_1 (v_iv (n_v vs 2)) (v_iv (n_v vs 3)) (v_iv (n_v vs 4)) (v_iv (n_v vs 5)) (v_iv (n_v vs 6)) (v_iv (n_v vs 7)) (v_iv (n_v vs 9)) (v_iv (n_v vs 11)) (v_iv (n_v vs 13)) (v_iv (n_v vs 14)) (v_iv (n_v vs 15)) (v_iv (n_v vs 16)) (v_iv (n_v vs 17)) (v_iv (n_v vs 18)) (v_iv (n_v vs 19)) (v_iv (n_v vs 20)) (w_ei ws (w_ar ws (n_v vs 0) 1)) (w_fi ws (n_v vs 0) 10) (w_fi ws (n_v vs 0) 15) (w_ei ws (w_ar ws (n_v vs 0) 2)) (w_fi ws (n_v vs 0) 5) (w_fi ws (n_v vs 0) 11) k2 k3 k4 k5 k6 k7 k9 k11 k13 k14 k15 k16 k17 k18 k19 k20 d0 d1 d4 d14 d15 f0 f2 f4 g5 h6 f7 f8 f9 g11 f15 g16 f20 kz_0_10 kz_0_11 kz_0_15
  refine ⟨(fun _ h => (by cases h)), [], trivial, ?_, (fun _ h => (by cases h))⟩
  rw [List.append_nil]
  exact List.forall_mem_cons.mpr ⟨⟨show (20 : Nat) < 100 from by decide, nf0⟩, List.forall_mem_cons.mpr ⟨⟨show (20 : Nat) < 100 from by decide, nf1⟩, (fun _ h => (by cases h))⟩⟩
set_option maxHeartbeats 4000000 in
theorem vc_Mo_known_9_0 (x3 : Int) (x4 : Int) (x5 : Int) (x6 : Int) (x7 : Int) (x17 : Int) (x19 : Int) (x20 : Int) (from_0 : Int) (pos_0 : Int) (k3 : 1 ≤ x3 ∧ x3 ≤ 1) (k4 : 0 ≤ x4 ∧ x4 ≤ 7) (k5 : 1 ≤ x5 ∧ x5 ≤ 2000) (k6 : 0 ≤ x6 ∧ x6 ≤ 2000) (k7 : 1 ≤ x7 ∧ x7 ≤ 2000) (k17 : 0 ≤ x17 ∧ x17 ≤ 2007) (k19 : 1 ≤ x19 ∧ x19 ≤ 1) (k20 : 1 ≤ x20 ∧ x20 ≤ 8) (d0 : x4 + 1 ≤ x20 ∧ x20 ≤ x4 + 1) (f4 : x17 = x6 + x4) (g5 : x6 = from_0) (f15 : x7 = x5 - x6) (g16 : x5 = pos_0) (f17 : 1 * pos_0 + ((-1) * from_0 + (2000 * x3 + 0)) ≤ 2008) (kz_0_11 : 0 ≤ pos_0 ∧ pos_0 ≤ 2000) (kz_0_15 : 0 ≤ from_0 ∧ from_0 ≤ 2000) : 1 * pos_0 + ((-1) * from_0 + (2000 * x19 + 0)) ≤ 2008 := by
  first | omega
set_option maxHeartbeats 4000000 in
theorem vc_Mo_known_9_1 (x2 : Int) (x3 : Int) (x4 : Int) (x5 : Int) (x6 : Int) (x7 : Int) (x9 : Int) (x11 : Int) (x13 : Int) (x14 : Int) (x15 : Int) (x16 : Int) (x17 : Int) (x18 : Int) (x19 : Int) (x20 : Int) (tape_0 : Int → Int) (limit_0 : Int) (from_0 : Int) (all_0 : Int → Int) (r_0 : Int) (pos_0 : Int) (k2 : 0 ≤ x2 ∧ x2 ≤ 23) (k3 : 1 ≤ x3 ∧ x3 ≤ 1) (k4 : 0 ≤ x4 ∧ x4 ≤ 7) (k5 : 1 ≤ x5 ∧ x5 ≤ 2000) (k6 : 0 ≤ x6 ∧ x6 ≤ 2000) (k7 : 1 ≤ x7 ∧ x7 ≤ 2000) (k9 : 0 ≤ x9 ∧ x9 ≤ 66297) (k11 : 3 ≤ x11 ∧ x11 ≤ 66300) (k13 : 0 ≤ x13 ∧ x13 ≤ 184) (k14 : 3 ≤ x14 ∧ x14 ≤ 66484) (k15 : 3 ≤ x15 ∧ x15 ≤ 66491) (k16 : (-1) ≤ x16 ∧ x16 ≤ (-1)) (k17 : 0 ≤ x17 ∧ x17 ≤ 2007) (k18 : (-1) ≤ x18 ∧ x18 ≤ (-1)) (k19 : 1 ≤ x19 ∧ x19 ≤ 1) (k20 : 1 ≤ x20 ∧ x20 ≤ 8) (d0 : x4 + 1 ≤ x20 ∧ x20 ≤ x4 + 1) (d1 : x7 + (-4294967296) ≤ x20 ∧ x20 ≤ x7 + 0) (d4 : x6 + 0 ≤ x17 ∧ x17 ≤ x6 + 7) (d14 : x9 + 3 ≤ x11 ∧ x11 ≤ x9 + 3) (d15 : x7 + (-4294967296) ≤ x4 ∧ x4 ≤ x7 + (-1)) (f0 : x20 = x4 + 1) (f2 : ((x17 + 1) ≤ limit_0) → (x18 = (tape_0 (x17) % 256))) (f4 : x17 = x6 + x4) (g5 : x6 = from_0) (h6 : x16 = all_0 (x15)) (f7 : x15 = x14 + x4) (f8 : x14 = x11 + x13) (f9 : x13 = 8 * x2) (g11 : x9 = r_0) (f15 : x7 = x5 - x6) (g16 : x5 = pos_0) (f20 : KNI (pos_0) (limit_0) (from_0) (r_0) (all_0) (tape_0) (x2) (x4) (x3)) (kz_0_10 : 0 ≤ limit_0 ∧ limit_0 ≤ 2000) (kz_0_11 : 0 ≤ pos_0 ∧ pos_0 ≤ 2000) (kz_0_15 : 0 ≤ from_0 ∧ from_0 ≤ 2000) : KNI (pos_0) (limit_0) (from_0) (r_0) (all_0) (tape_0) (x2) (x20) (x19) := by
  first | subst g5 | skip
  first | subst g11 | skip
  first | subst g16 | skip
  first
    | exact kni_0 (by omega) (by assumption) (by omega) (by omega)
    | exact kni_step ‹KNI _ _ _ _ _ _ _ _ _› (by omega) (by omega) (by omega) (by assumption) (by omega) (by omega) (by assumption) (by omega) (by omega) (by omega)
def o_Mo_known_9 : or_T := (35, 21, [(0, (2, 0, 0, [165])), (1, (2, 0, 0, [165])), (2, (0, 0, 23, [])), (3, (0, 1, 1, [])), (4, (0, 0, 7, [])), (5, (0, 1, 2000, [])), (6, (0, 0, 2000, [])), (7, (0, 1, 2000, [])), (8, (2, 0, 0, [167])), (9, (0, 0, 66297, [])), (10, (0, 3, 3, [])), (11, (0, 3, 66300, [])), (12, (0, 8, 8, [])), (13, (0, 0, 184, [])), (14, (0, 3, 66484, [])), (15, (0, 3, 66491, [])), (16, (0, -1, -1, [])), (17, (0, 0, 2007, [])), (18, (0, -1, -1, [])), (19, (0, 1, 1, [])), (20, (0, 1, 8, []))], [(6, [20, 4], [1]), (7, [16, 18], [0]), (20, [17, 1, 18], [50, 1, 1, 1010, 1001, 4, 11, 0, 6, 4, 2, 1, 0, 0, 1, 2, 1, 10, 1, 2, 1, 2, 9, 5, 3, 1, 1, 1, 0, 0, 256]), (20, [1, 17, 18], [50, 1, 0, 10, 4, 7, 0, 3, 2, 0, 10, 1, 1, 1, 2, 1, 2, 0, -1]), (1, [17, 6, 4], []), (9, [6, 1], [15]), (10, [16, 8, 15], []), (1, [15, 14, 4], []), (1, [14, 11, 13], []), (3, [13, 12, 2], []), (1, [11, 9, 10], []), (9, [9, 1], [5]), (9, [8, 1], [2]), (8, [3], [1]), (7, [4, 7], [2]), (2, [7, 5, 6], []), (9, [5, 1], [11]), (20, [1, 1, 3], [30, 2008, 1, 1, 11, -1, 1, 15, 2000, 0, 0]), (20, [2, 1], [30, -1, 1, 0, 0, -1, 3, 2005000]), (20, [1, 2], [60, 4, 2, 1032, 11, 10, 15, 5, 2, 1]), (20, [1, 2, 4, 3], [60, 4, 2, 1033, 11, 10, 15, 5, 2, 1]), (24, [0, 1], [])], [], [], [(20, [1, 1, 19], [30, 2008, 1, 1, 11, -1, 1, 15, 2000, 0, 0]), (20, [1, 2, 20, 19], [60, 4, 2, 1033, 11, 10, 15, 5, 2, 1])], [], [(20, 4, 1, 1), (20, 7, -4294967296, 0), (17, 4, 0, 2000), (17, 7, -4294967296, 1999), (17, 6, 0, 7), (15, 4, 3, 66484), (15, 7, -4294967296, 66483), (15, 14, 0, 7), (15, 13, 3, 66307), (15, 11, 0, 191), (15, 9, 3, 194), (14, 13, 3, 66300), (14, 11, 0, 184), (14, 9, 3, 187), (11, 9, 3, 3), (4, 7, -4294967296, -1), (7, 5, -2000, 0)])
theorem oo_Mo_known_9 {kA : Nat → ClassId} : or_ok PRD kA GG o_Mo_known_9 := by
  refine or_mk fun A ta ws vs hD hth hl => ?_
  intro t0 r0 t1 r1 t2 k2 t3 k3 t4 k4 t5 k5 t6 k6 t7 k7 t8 r8 t9 k9 t10 k10 t11 k11 t12 k12 t13 k13 t14 k14 t15 k15 t16 k16 t17 k17 t18 k18 t19 k19 t20 k20 d0 d1 d2 d3 d4 d5 d6 d7 d8 d9 d10 d11 d12 d13 d14 d15 d16 f0 f1 f2 f3 f4 f5 f6 f7 f8 f9 f10 f11 f12 f13 f14 f15 f16 f17 f18 f19 f20 f21
  replace f0 := shm_4 f0
  replace f2 := shm_541 f2
  replace f4 := shm_12 f4
  replace f5 := shm_177 f5
  replace f6 := shm_107 f6
  replace f7 := shm_12 f7
  replace f8 := shm_12 f8
  replace f9 := shm_38 f9
  rw [show v_iv (n_v vs 12) = 8 from by omega] at f9
  replace f11 := shm_110 f11
  replace f12 := shm_120 f12
  replace f15 := shm_14 f15
  replace f16 := shm_116 f16
  replace f17 := shm_1234 f17
  replace f20 := shm_1235 f20
  replace f21 := shm_5 f21
  have q1 : n_v vs 1 = n_v vs 0 := f21.symm
  simp only [q1] at f2 f5 f11 f12 f16 f17 f20
  have ad_8 : v_ad (n_v vs 8) = w_ar ws (n_v vs 0) 2 := congrArg v_ad f12
  have g5 : v_iv (n_v vs 6) = w_fi ws (n_v vs 0) 15 := congrArg v_iv f5
  simp only [ad_8] at f6
  have h6 : v_iv (n_v vs 16) = w_ei ws (w_ar ws (n_v vs 0) 2) (v_iv (n_v vs 15)) := f6
  have g11 : v_iv (n_v vs 9) = w_fi ws (n_v vs 0) 5 := congrArg v_iv f11
  have g16 : v_iv (n_v vs 5) = w_fi ws (n_v vs 0) 11 := congrArg v_iv f16
  have kz_0_10 := fdq_43 hD hth r0
  have kz_0_11 := fdq_237 hD hth r0
  have kz_0_15 := fdq_239 hD hth r0
  have nf0 : fc_1 PRD (20, [1, 1, 19], [30, 2008, 1, 1, 11, -1, 1, 15, 2000, 0, 0]) ws (vs) := by
    refine ⟨nf_in hl rfl, sgq_1234 ?_⟩
    · show 1 * w_fi ws (n_v vs 1) 11 + ((-1) * w_fi ws (n_v vs 1) 15 + (2000 * v_iv (n_v vs 19) + 0)) ≤ 2008
      rw [q1]
      exact vc_Mo_known_9_0 (v_iv (n_v vs 3)) (v_iv (n_v vs 4)) (v_iv (n_v vs 5)) (v_iv (n_v vs 6)) (v_iv (n_v vs 7)) (v_iv (n_v vs 17)) (v_iv (n_v vs 19)) (v_iv (n_v vs 20)) (w_fi ws (n_v vs 0) 15) (w_fi ws (n_v vs 0) 11) k3 k4 k5 k6 k7 k17 k19 k20 d0 f4 g5 f15 g16 f17 kz_0_11 kz_0_15
  have nf1 : fc_1 PRD (20, [1, 2, 20, 19], [60, 4, 2, 1033, 11, 10, 15, 5, 2, 1]) ws (vs) := by
    refine ⟨nf_in hl rfl, sgq_1235 ?_⟩
    · show KNI (w_fi ws (n_v vs 1) 11) (w_fi ws (n_v vs 1) 10) (w_fi ws (n_v vs 1) 15) (w_fi ws (n_v vs 1) 5) (w_ei ws (w_ar ws (n_v vs 1) 2)) (w_ei ws (w_ar ws (n_v vs 1) 1)) (v_iv (n_v vs 2)) (v_iv (n_v vs 20)) (v_iv (n_v vs 19))
      rw [q1]
      exact vc_Mo_known_9_1 (v_iv (n_v vs 2)) (v_iv (n_v vs 3)) (v_iv (n_v vs 4)) (v_iv (n_v vs 5)) (v_iv (n_v vs 6)) (v_iv (n_v vs 7)) (v_iv (n_v vs 9)) (v_iv (n_v vs 11)) (v_iv (n_v vs 13)) (v_iv (n_v vs 14)) (v_iv (n_v vs 15)) (v_iv (n_v vs 16)) (v_iv (n_v vs 17)) (v_iv (n_v vs 18)) (v_iv (n_v vs 19)) (v_iv (n_v vs 20)) (w_ei ws (w_ar ws (n_v vs 0) 1)) (w_fi ws (n_v vs 0) 10) (w_fi ws (n_v vs 0) 15) (w_ei ws (w_ar ws (n_v vs 0) 2)) (w_fi ws (n_v vs 0) 5) (w_fi ws (n_v vs 0) 11) k2 k3 k4 k5 k6 k7 k9 k11 k13 k14 k15 k16 k17 k18 k19 k20 d0 d1 d4 d14 d15 f0 f2 f4 g5 h6 f7 f8 f9 g11 f15 g16 f20 kz_0_10 kz_0_11 kz_0_15
  refine ⟨(fun _ h => (by cases h)), [], trivial, ?_, (fun _ h => (by cases h))⟩
  rw [List.append_nil]
  exact List.forall_mem_cons.mpr ⟨⟨show (20 : Nat) < 100 from by decide, nf0⟩, List.forall_mem_cons.mpr ⟨⟨show (20 : Nat) < 100 from by decide, nf1⟩, (fun _ h => (by cases h))⟩⟩
set_option maxHeartbeats 4000000 in
theorem vc_Mo_known_10_0 (x3 : Int) (x4 : Int) (x5 : Int) (x6 : Int) (x7 : Int) (x17 : Int) (x19 : Int) (x20 : Int) (from_0 : Int) (pos_0 : Int) (k3 : 1 ≤ x3 ∧ x3 ≤ 1) (k4 : 0 ≤ x4 ∧ x4 ≤ 7) (k5 : 1 ≤ x5 ∧ x5 ≤ 2000) (k6 : 0 ≤ x6 ∧ x6 ≤ 1999) (k7 : 1 ≤ x7 ∧ x7 ≤ 2000) (k17 : 0 ≤ x17 ∧ x17 ≤ 1999) (k19 : 0 ≤ x19 ∧ x19 ≤ 0) (k20 : 1 ≤ x20 ∧ x20 ≤ 8) (d0 : x4 + 1 ≤ x20 ∧ x20 ≤ x4 + 1) (f4 : x17 = x6 + x4) (g5 : x6 = from_0) (f15 : x7 = x5 - x6) (g16 : x5 = pos_0) (f17 : 1 * pos_0 + ((-1) * from_0 + (2000 * x3 + 0)) ≤ 2008) (kz_0_11 : 0 ≤ pos_0 ∧ pos_0 ≤ 2000) (kz_0_15 : 0 ≤ from_0 ∧ from_0 ≤ 2000) : 1 * pos_0 + ((-1) * from_0 + (2000 * x19 + 0)) ≤ 2008 := by
  first | omega
set_option maxHeartbeats 4000000 in
theorem vc_Mo_known_10_1 (x2 : Int) (x3 : Int) (x4 : Int) (x5 : Int) (x6 : Int) (x7 : Int) (x9 : Int) (x11 : Int) (x13 : Int) (x14 : Int) (x15 : Int) (x16 : Int) (x17 : Int) (x18 : Int) (x19 : Int) (x20 : Int) (tape_0 : Int → Int) (limit_0 : Int) (from_0 : Int) (all_0 : Int → Int) (r_0 : Int) (pos_0 : Int) (k2 : 0 ≤ x2 ∧ x2 ≤ 23) (k3 : 1 ≤ x3 ∧ x3 ≤ 1) (k4 : 0 ≤ x4 ∧ x4 ≤ 7) (k5 : 1 ≤ x5 ∧ x5 ≤ 2000) (k6 : 0 ≤ x6 ∧ x6 ≤ 1999) (k7 : 1 ≤ x7 ∧ x7 ≤ 2000) (k9 : 0 ≤ x9 ∧ x9 ≤ 66297) (k11 : 3 ≤ x11 ∧ x11 ≤ 66300) (k13 : 0 ≤ x13 ∧ x13 ≤ 184) (k14 : 3 ≤ x14 ∧ x14 ≤ 66484) (k15 : 3 ≤ x15 ∧ x15 ≤ 66491) (k16 : (-1) ≤ x16 ∧ x16 ≤ 255) (k17 : 0 ≤ x17 ∧ x17 ≤ 1999) (k18 : 0 ≤ x18 ∧ x18 ≤ 255) (k19 : 0 ≤ x19 ∧ x19 ≤ 0) (k20 : 1 ≤ x20 ∧ x20 ≤ 8) (d0 : x4 + 1 ≤ x20 ∧ x20 ≤ x4 + 1) (d1 : x7 + (-4294967296) ≤ x20 ∧ x20 ≤ x7 + 0) (d3 : x6 + 0 ≤ x17 ∧ x17 ≤ x6 + 7) (d13 : x9 + 3 ≤ x11 ∧ x11 ≤ x9 + 3) (d14 : x7 + (-4294967296) ≤ x4 ∧ x4 ≤ x7 + (-1)) (f0 : x20 = x4 + 1) (f1 : x16 ≠ x18) (f2 : ((x17 + 1) ≤ limit_0) → (x18 = (tape_0 (x17) % 256))) (f3 : (limit_0 ≤ x17) → (x18 = (-1))) (f4 : x17 = x6 + x4) (g5 : x6 = from_0) (h6 : x16 = all_0 (x15)) (f7 : x15 = x14 + x4) (f8 : x14 = x11 + x13) (f9 : x13 = 8 * x2) (g11 : x9 = r_0) (f13 : x3 ≠ 0) (f15 : x7 = x5 - x6) (g16 : x5 = pos_0) (f20 : KNI (pos_0) (limit_0) (from_0) (r_0) (all_0) (tape_0) (x2) (x4) (x3)) (kz_0_10 : 0 ≤ limit_0 ∧ limit_0 ≤ 2000) (kz_0_11 : 0 ≤ pos_0 ∧ pos_0 ≤ 2000) (kz_0_15 : 0 ≤ from_0 ∧ from_0 ≤ 2000) : KNI (pos_0) (limit_0) (from_0) (r_0) (all_0) (tape_0) (x2) (x20) (x19) := by
  first | subst g5 | skip
  first | subst g11 | skip
  first | subst g16 | skip
  first
    | exact kni_0 (by omega) (by assumption) (by omega) (by omega)
    | exact kni_step ‹KNI _ _ _ _ _ _ _ _ _› (by omega) (by omega) (by omega) (by assumption) (by omega) (by omega) (by assumption) (by omega) (by omega) (by omega)
def o_Mo_known_10 : or_T := (35, 21, [(0, (2, 0, 0, [165])), (1, (2, 0, 0, [165])), (2, (0, 0, 23, [])), (3, (0, 1, 1, [])), (4, (0, 0, 7, [])), (5, (0, 1, 2000, [])), (6, (0, 0, 1999, [])), (7, (0, 1, 2000, [])), (8, (2, 0, 0, [167])), (9, (0, 0, 66297, [])), (10, (0, 3, 3, [])), (11, (0, 3, 66300, [])), (12, (0, 8, 8, [])), (13, (0, 0, 184, [])), (14, (0, 3, 66484, [])), (15, (0, 3, 66491, [])), (16, (0, -1, 255, [])), (17, (0, 0, 1999, [])), (18, (0, 0, 255, [])), (19, (0, 0, 0, [])), (20, (0, 1, 8, []))], [(6, [20, 4], [1]), (7, [16, 18], [1]), (20, [17, 1, 18], [50, 1, 1, 1010, 1001, 4, 11, 0, 6, 4, 2, 1, 0, 0, 1, 2, 1, 10, 1, 2, 1, 2, 9, 5, 3, 1, 1, 1, 0, 0, 256]), (20, [1, 17, 18], [50, 1, 0, 10, 4, 7, 0, 3, 2, 0, 10, 1, 1, 1, 2, 1, 2, 0, -1]), (1, [17, 6, 4], []), (9, [6, 1], [15]), (10, [16, 8, 15], []), (1, [15, 14, 4], []), (1, [14, 11, 13], []), (3, [13, 12, 2], []), (1, [11, 9, 10], []), (9, [9, 1], [5]), (9, [8, 1], [2]), (8, [3], [1]), (7, [4, 7], [2]), (2, [7, 5, 6], []), (9, [5, 1], [11]), (20, [1, 1, 3], [30, 2008, 1, 1, 11, -1, 1, 15, 2000, 0, 0]), (20, [2, 1], [30, -1, 1, 0, 0, -1, 3, 2005000]), (20, [1, 2], [60, 4, 2, 1032, 11, 10, 15, 5, 2, 1]), (20, [1, 2, 4, 3], [60, 4, 2, 1033, 11, 10, 15, 5, 2, 1]), (24, [0, 1], [])], [], [], [(20, [1, 1, 19], [30, 2008, 1, 1, 11, -1, 1, 15, 2000, 0, 0]), (20, [1, 2, 20, 19], [60, 4, 2, 1033, 11, 10, 15, 5, 2, 1])], [], [(20, 4, 1, 1), (20, 7, -4294967296, 0), (17, 4, 0, 2000), (17, 6, 0, 7), (15, 4, 3, 66484), (15, 7, -4294967296, 66483), (15, 14, 0, 7), (15, 13, 3, 66307), (15, 11, 0, 191), (15, 9, 3, 194), (14, 13, 3, 66300), (14, 11, 0, 184), (14, 9, 3, 187), (11, 9, 3, 3), (4, 7, -4294967296, -1), (7, 5, -2000, 0)])
theorem oo_Mo_known_10 {kA : Nat → ClassId} : or_ok PRD kA GG o_Mo_known_10 := by
  refine or_mk fun A ta ws vs hD hth hl => ?_
  intro t0 r0 t1 r1 t2 k2 t3 k3 t4 k4 t5 k5 t6 k6 t7 k7 t8 r8 t9 k9 t10 k10 t11 k11 t12 k12 t13 k13 t14 k14 t15 k15 t16 k16 t17 k17 t18 k18 t19 k19 t20 k20 d0 d1 d2 d3 d4 d5 d6 d7 d8 d9 d10 d11 d12 d13 d14 d15 f0 f1 f2 f3 f4 f5 f6 f7 f8 f9 f10 f11 f12 f13 f14 f15 f16 f17 f18 f19 f20 f21
  replace f0 := shm_4 f0
  replace f1 := shm_40 f1
  replace f2 := shm_541 f2
  replace f3 := shm_542 f3
  replace f4 := shm_12 f4
  replace f5 := shm_177 f5
  replace f6 := shm_107 f6
  replace f7 := shm_12 f7
  replace f8 := shm_12 f8
  replace f9 := shm_38 f9
  rw [show v_iv (n_v vs 12) = 8 from by omega] at f9
  replace f11 := shm_110 f11
  replace f12 := shm_120 f12
  replace f13 := shm_142 f13
  replace f15 := shm_14 f15
  replace f16 := shm_116 f16
  replace f17 := shm_1234 f17
  replace f20 := shm_1235 f20
  replace f21 := shm_5 f21
  have q1 : n_v vs 1 = n_v vs 0 := f21.symm
  simp only [q1] at f2 f3 f5 f11 f12 f16 f17 f20
  have ad_8 : v_ad (n_v vs 8) = w_ar ws (n_v vs 0) 2 := congrArg v_ad f12
  have g5 : v_iv (n_v vs 6) = w_fi ws (n_v vs 0) 15 := congrArg v_iv f5
  simp only [ad_8] at f6
  have h6 : v_iv (n_v vs 16) = w_ei ws (w_ar ws (n_v vs 0) 2) (v_iv (n_v vs 15)) := f6
  have g11 : v_iv (n_v vs 9) = w_fi ws (n_v vs 0) 5 := congrArg v_iv f11
  have g16 : v_iv (n_v vs 5) = w_fi ws (n_v vs 0) 11 := congrArg v_iv f16
  have kz_0_10 := fdq_43 hD hth r0
  have kz_0_11 := fdq_237 hD hth r0
  have kz_0_15 := fdq_239 hD hth r0
  have nf0 : fc_1 PRD (20, [1, 1, 19], [30, 2008, 1, 1, 11, -1, 1, 15, 2000, 0, 0]) ws (vs) := by
    refine ⟨nf_in hl rfl, sgq_1234 ?_⟩
    · show 1 * w_fi ws (n_v vs 1) 11 + ((-1) * w_fi ws (n_v vs 1) 15 + (2000 * v_iv (n_v vs 19) + 0)) ≤ 2008
      rw [q1]
      exact vc_Mo_known_10_0 (v_iv (n_v vs 3)) (v_iv (n_v vs 4)) (v_iv (n_v vs 5)) (v_iv (n_v vs 6)) (v_iv (n_v vs 7)) (v_iv (n_v vs 17)) (v_iv (n_v vs 19)) (v_iv (n_v vs 20)) (w_fi ws (n_v vs 0) 15) (w_fi ws (n_v vs 0) 11) k3 k4 k5 k6 k7 k17 k19 k20 d0 f4 g5 f15 g16 f17 kz_0_11 kz_0_15
  have nf1 : fc_1 PRD (20, [1, 2, 20, 19], [60, 4, 2, 1033, 11, 10, 15, 5, 2, 1]) ws (vs) := by
    refine ⟨nf_in hl rfl, sgq_1235 ?_⟩
    · show KNI (w_fi ws (n_v vs 1) 11) (w_fi ws (n_v vs 1) 10) (w_fi ws (n_v vs 1) 15) (w_fi ws (n_v vs 1) 5) (w_ei ws (w_ar ws (n_v vs 1) 2)) (w_ei ws (w_ar ws (n_v vs 1) 1)) (v_iv (n_v vs 2)) (v_iv (n_v vs 20)) (v_iv (n_v vs 19))
      rw [q1]
      exact vc_Mo_known_10_1 (v_iv (n_v vs 2)) (v_iv (n_v vs 3)) (v_iv (n_v vs 4)) (v_iv (n_v vs 5)) (v_iv (n_v vs 6)) (v_iv (n_v vs 7)) (v_iv (n_v vs 9)) (v_iv (n_v vs 11)) (v_iv (n_v vs 13)) (v_iv (n_v vs 14)) (v_iv (n_v vs 15)) (v_iv (n_v vs 16)) (v_iv (n_v vs 17)) (v_iv (n_v vs 18)) (v_iv (n_v vs 19)) (v_iv (n_v vs 20)) (w_ei ws (w_ar ws (n_v vs 0) 1)) (w_fi ws (n_v vs 0) 10) (w_fi ws (n_v vs 0) 15) (w_ei ws (w_ar ws (n_v vs 0) 2)) (w_fi ws (n_v vs 0) 5) (w_fi ws (n_v vs 0) 11) k2 k3 k4 k5 k6 k7 k9 k11 k13 k14 k15 k16 k17 k18 k19 k20 d0 d1 d3 d13 d14 f0 f1 f2 f3 f4 g5 h6 f7 f8 f9 g11 f13 f15 g16 f20 kz_0_10 kz_0_11 kz_0_15
  refine ⟨(fun _ h => (by cases h)), [], trivial, ?_, (fun _ h => (by cases h))⟩
  rw [List.append_nil]
  exact List.forall_mem_cons.mpr ⟨⟨show (20 : Nat) < 100 from by decide, nf0⟩, List.forall_mem_cons.mpr ⟨⟨show (20 : Nat) < 100 from by decide, nf1⟩, (fun _ h => (by cases h))⟩⟩
set_option maxHeartbeats 4000000 in
theorem vc_Mo_known_11_0 (x3 : Int) (x4 : Int) (x5 : Int) (x6 : Int) (x7 : Int) (x17 : Int) (x19 : Int) (x20 : Int) (from_0 : Int) (pos_0 : Int) (k3 : 1 ≤ x3 ∧ x3 ≤ 1) (k4 : 0 ≤ x4 ∧ x4 ≤ 7) (k5 : 1 ≤ x5 ∧ x5 ≤ 2000) (k6 : 0 ≤ x6 ∧ x6 ≤ 1999) (k7 : 1 ≤ x7 ∧ x7 ≤ 2000) (k17 : 0 ≤ x17 ∧ x17 ≤ 1999) (k19 : 1 ≤ x19 ∧ x19 ≤ 1) (k20 : 1 ≤ x20 ∧ x20 ≤ 8) (d0 : x4 + 1 ≤ x20 ∧ x20 ≤ x4 + 1) (f4 : x17 = x6 + x4) (g5 : x6 = from_0) (f15 : x7 = x5 - x6) (g16 : x5 = pos_0) (f17 : 1 * pos_0 + ((-1) * from_0 + (2000 * x3 + 0)) ≤ 2008) (kz_0_11 : 0 ≤ pos_0 ∧ pos_0 ≤ 2000) (kz_0_15 : 0 ≤ from_0 ∧ from_0 ≤ 2000) : 1 * pos_0 + ((-1) * from_0 + (2000 * x19 + 0)) ≤ 2008 := by
  first | omega
set_option maxHeartbeats 4000000 in
theorem vc_Mo_known_11_1 (x2 : Int) (x3 : Int) (x4 : Int) (x5 : Int) (x6 : Int) (x7 : Int) (x9 : Int) (x11 : Int) (x13 : Int) (x14 : Int) (x15 : Int) (x16 : Int) (x17 : Int) (x18 : Int) (x19 : Int) (x20 : Int) (tape_0 : Int → Int) (limit_0 : Int) (from_0 : Int) (all_0 : Int → Int) (r_0 : Int) (pos_0 : Int) (k2 : 0 ≤ x2 ∧ x2 ≤ 23) (k3 : 1 ≤ x3 ∧ x3 ≤ 1) (k4 : 0 ≤ x4 ∧ x4 ≤ 7) (k5 : 1 ≤ x5 ∧ x5 ≤ 2000) (k6 : 0 ≤ x6 ∧ x6 ≤ 1999) (k7 : 1 ≤ x7 ∧ x7 ≤ 2000) (k9 : 0 ≤ x9 ∧ x9 ≤ 66297) (k11 : 3 ≤ x11 ∧ x11 ≤ 66300) (k13 : 0 ≤ x13 ∧ x13 ≤ 184) (k14 : 3 ≤ x14 ∧ x14 ≤ 66484) (k15 : 3 ≤ x15 ∧ x15 ≤ 66491) (k16 : 0 ≤ x16 ∧ x16 ≤ 255) (k17 : 0 ≤ x17 ∧ x17 ≤ 1999) (k18 : 0 ≤ x18 ∧ x18 ≤ 255) (k19 : 1 ≤ x19 ∧ x19 ≤ 1) (k20 : 1 ≤ x20 ∧ x20 ≤ 8) (d0 : x4 + 1 ≤ x20 ∧ x20 ≤ x4 + 1) (d1 : x7 + (-4294967296) ≤ x20 ∧ x20 ≤ x7 + 0) (d2 : x18 + 0 ≤ x16 ∧ x16 ≤ x18 + 0) (d4 : x6 + 0 ≤ x17 ∧ x17 ≤ x6 + 7) (d14 : x9 + 3 ≤ x11 ∧ x11 ≤ x9 + 3) (d15 : x7 + (-4294967296) ≤ x4 ∧ x4 ≤ x7 + (-1)) (f0 : x20 = x4 + 1) (f2 : ((x17 + 1) ≤ limit_0) → (x18 = (tape_0 (x17) % 256))) (f4 : x17 = x6 + x4) (g5 : x6 = from_0) (h6 : x16 = all_0 (x15)) (f7 : x15 = x14 + x4) (f8 : x14 = x11 + x13) (f9 : x13 = 8 * x2) (g11 : x9 = r_0) (f15 : x7 = x5 - x6) (g16 : x5 = pos_0) (f20 : KNI (pos_0) (limit_0) (from_0) (r_0) (all_0) (tape_0) (x2) (x4) (x3)) (kz_0_10 : 0 ≤ limit_0 ∧ limit_0 ≤ 2000) (kz_0_11 : 0 ≤ pos_0 ∧ pos_0 ≤ 2000) (kz_0_15 : 0 ≤ from_0 ∧ from_0 ≤ 2000) : KNI (pos_0) (limit_0) (from_0) (r_0) (all_0) (tape_0) (x2) (x20) (x19) := by
  first | subst g5 | skip
  first | subst g11 | skip
  first | subst g16 | skip
  first
    | exact kni_0 (by omega) (by assumption) (by omega) (by omega)
    | exact kni_step ‹KNI _ _ _ _ _ _ _ _ _› (by omega) (by omega) (by omega) (by assumption) (by omega) (by omega) (by assumption) (by omega) (by omega) (by omega)
def o_Mo_known_11 : or_T := (35, 21, [(0, (2, 0, 0, [165])), (1, (2, 0, 0, [165])), (2, (0, 0, 23, [])), (3, (0, 1, 1, [])), (4, (0, 0, 7, [])), (5, (0, 1, 2000, [])), (6, (0, 0, 1999, [])), (7, (0, 1, 2000, [])), (8, (2, 0, 0, [167])), (9, (0, 0, 66297, [])), (10, (0, 3, 3, [])), (11, (0, 3, 66300, [])), (12, (0, 8, 8, [])), (13, (0, 0, 184, [])), (14, (0, 3, 66484, [])), (15, (0, 3, 66491, [])), (16, (0, 0, 255, [])), (17, (0, 0, 1999, [])), (18, (0, 0, 255, [])), (19, (0, 1, 1, [])), (20, (0, 1, 8, []))], [(6, [20, 4], [1]), (7, [16, 18], [0]), (20, [17, 1, 18], [50, 1, 1, 1010, 1001, 4, 11, 0, 6, 4, 2, 1, 0, 0, 1, 2, 1, 10, 1, 2, 1, 2, 9, 5, 3, 1, 1, 1, 0, 0, 256]), (20, [1, 17, 18], [50, 1, 0, 10, 4, 7, 0, 3, 2, 0, 10, 1, 1, 1, 2, 1, 2, 0, -1]), (1, [17, 6, 4], []), (9, [6, 1], [15]), (10, [16, 8, 15], []), (1, [15, 14, 4], []), (1, [14, 11, 13], []), (3, [13, 12, 2], []), (1, [11, 9, 10], []), (9, [9, 1], [5]), (9, [8, 1], [2]), (8, [3], [1]), (7, [4, 7], [2]), (2, [7, 5, 6], []), (9, [5, 1], [11]), (20, [1, 1, 3], [30, 2008, 1, 1, 11, -1, 1, 15, 2000, 0, 0]), (20, [2, 1], [30, -1, 1, 0, 0, -1, 3, 2005000]), (20, [1, 2], [60, 4, 2, 1032, 11, 10, 15, 5, 2, 1]), (20, [1, 2, 4, 3], [60, 4, 2, 1033, 11, 10, 15, 5, 2, 1]), (24, [0, 1], [])], [], [], [(20, [1, 1, 19], [30, 2008, 1, 1, 11, -1, 1, 15, 2000, 0, 0]), (20, [1, 2, 20, 19], [60, 4, 2, 1033, 11, 10, 15, 5, 2, 1])], [], [(20, 4, 1, 1), (20, 7, -4294967296, 0), (16, 18, 0, 0), (17, 4, 0, 2000), (17, 6, 0, 7), (15, 4, 3, 66484), (15, 7, -4294967296, 66483), (15, 14, 0, 7), (15, 13, 3, 66307), (15, 11, 0, 191), (15, 9, 3, 194), (14, 13, 3, 66300), (14, 11, 0, 184), (14, 9, 3, 187), (11, 9, 3, 3), (4, 7, -4294967296, -1), (7, 5, -2000, 0)])
theorem oo_Mo_known_11 {kA : Nat → ClassId} : or_ok PRD kA GG o_Mo_known_11 := by
  refine or_mk fun A ta ws vs hD hth hl => ?_
  intro t0 r0 t1 r1 t2 k2 t3 k3 t4 k4 t5 k5 t6 k6 t7 k7 t8 r8 t9 k9 t10 k10 t11 k11 t12 k12 t13 k13 t14 k14 t15 k15 t16 k16 t17 k17 t18 k18 t19 k19 t20 k20 d0 d1 d2 d3 d4 d5 d6 d7 d8 d9 d10 d11 d12 d13 d14 d15 d16 f0 f1 f2 f3 f4 f5 f6 f7 f8 f9 f10 f11 f12 f13 f14 f15 f16 f17 f18 f19 f20 f21
  replace f0 := shm_4 f0
  replace f2 := shm_541 f2
  replace f4 := shm_12 f4
  replace f5 := shm_177 f5
  replace f6 := shm_107 f6
  replace f7 := shm_12 f7
  replace f8 := shm_12 f8
  replace f9 := shm_38 f9
  rw [show v_iv (n_v vs 12) = 8 from by omega] at f9
  replace f11 := shm_110 f11
  replace f12 := shm_120 f12
  replace f15 := shm_14 f15
  replace f16 := shm_116 f16
  replace f17 := shm_1234 f17
  replace f20 := shm_1235 f20
  replace f21 := shm_5 f21
  have q1 : n_v vs 1 = n_v vs 0 := f21.symm
  simp only [q1] at f2 f5 f11 f12 f16 f17 f20
  have ad_8 : v_ad (n_v vs 8) = w_ar ws (n_v vs 0) 2 := congrArg v_ad f12
  have g5 : v_iv (n_v vs 6) = w_fi ws (n_v vs 0) 15 := congrArg v_iv f5
  simp only [ad_8] at f6
  have h6 : v_iv (n_v vs 16) = w_ei ws (w_ar ws (n_v vs 0) 2) (v_iv (n_v vs 15)) := f6
  have g11 : v_iv (n_v vs 9) = w_fi ws (n_v vs 0) 5 := congrArg v_iv f11
  have g16 : v_iv (n_v vs 5) = w_fi ws (n_v vs 0) 11 := congrArg v_iv f16
  have kz_0_10 := fdq_43 hD hth r0
  have kz_0_11 := fdq_237 hD hth r0
  have kz_0_15 := fdq_239 hD hth r0
  have nf0 : fc_1 PRD (20, [1, 1, 19], [30, 2008, 1, 1, 11, -1, 1, 15, 2000, 0, 0]) ws (vs) := by
    refine ⟨nf_in hl rfl, sgq_1234 ?_⟩
    · show 1 * w_fi ws (n_v vs 1) 11 + ((-1) * w_fi ws (n_v vs 1) 15 + (2000 * v_iv (n_v vs 19) + 0)) ≤ 2008
      rw [q1]
      exact vc_Mo_known_11_0 (v_iv (n_v vs 3)) (v_iv (n_v vs 4)) (v_iv (n_v vs 5)) (v_iv (n_v vs 6)) (v_iv (n_v vs 7)) (v_iv (n_v vs 17)) (v_iv (n_v vs 19)) (v_iv (n_v vs 20)) (w_fi ws (n_v vs 0) 15) (w_fi ws (n_v vs 0) 11) k3 k4 k5 k6 k7 k17 k19 k20 d0 f4 g5 f15 g16 f17 kz_0_11 kz_0_15
  have nf1 : fc_1 PRD (20, [1, 2, 20, 19], [60, 4, 2, 1033, 11, 10, 15, 5, 2, 1]) ws (vs) := by
    refine ⟨nf_in hl rfl, sgq_1235 ?_⟩
    · show KNI (w_fi ws (n_v vs 1) 11) (w_fi ws (n_v vs 1) 10) (w_fi ws (n_v vs 1) 15) (w_fi ws (n_v vs 1) 5) (w_ei ws (w_ar ws (n_v vs 1) 2)) (w_ei ws (w_ar ws (n_v vs 1) 1)) (v_iv (n_v vs 2)) (v_iv (n_v vs 20)) (v_iv (n_v vs 19))
      rw [q1]
      exact vc_Mo_known_11_1 (v_iv (n_v vs 2)) (v_iv (n_v vs 3)) (v_iv (n_v vs 4)) (v_iv (n_v vs 5)) (v_iv (n_v vs 6)) (v_iv (n_v vs 7)) (v_iv (n_v vs 9)) (v_iv (n_v vs 11)) (v_iv (n_v vs 13)) (v_iv (n_v vs 14)) (v_iv (n_v vs 15)) (v_iv (n_v vs 16)) (v_iv (n_v vs 17)) (v_iv (n_v vs 18)) (v_iv (n_v vs 19)) (v_iv (n_v vs 20)) (w_ei ws (w_ar ws (n_v vs 0) 1)) (w_fi ws (n_v vs 0) 10) (w_fi ws (n_v vs 0) 15) (w_ei ws (w_ar ws (n_v vs 0) 2)) (w_fi ws (n_v vs 0) 5) (w_fi ws (n_v vs 0) 11) k2 k3 k4 k5 k6 k7 k9 k11 k13 k14 k15 k16 k17 k18 k19 k20 d0 d1 d2 d4 d14 d15 f0 f2 f4 g5 h6 f7 f8 f9 g11 f15 g16 f20 kz_0_10 kz_0_11 kz_0_15
  refine ⟨(fun _ h => (by cases h)), [], trivial, ?_, (fun _ h => (by cases h))⟩
  rw [List.append_nil]
  exact List.forall_mem_cons.mpr ⟨⟨show (20 : Nat) < 100 from by decide, nf0⟩, List.forall_mem_cons.mpr ⟨⟨show (20 : Nat) < 100 from by decide, nf1⟩, (fun _ h => (by cases h))⟩⟩
def n_Mo_known_an : List an_T := [(2, [(0, (2, 0, 0, [165])), (1, (0, 0, 24, []))], [], (0, 0), [(0, 0, 99998), (1, 2, 24), (0, 0, 100000), (0, 0, 0), (0, 0, 0)], [], [], [(2, 0, 0, [165])], 0, [], [(20, [1, 2], [60, 4, 2, 1032, 11, 10, 15, 5, 2, 1]), (24, [0, 1], [])]), (35, [(0, (2, 0, 0, [165])), (1, (0, 0, 23, [])), (2, (0, 0, 1, [])), (3, (0, 0, 8, []))], [], (0, 0), [(0, 0, 99998), (1, 2, 24), (0, 0, 99965), (1, 4, 8), (0, 0, 100000)], [], [], [(2, 0, 0, [165])], 0, [], [(20, [1, 1, 3], [30, 2008, 1, 1, 11, (Int.negSucc 0), 1, 15, 2000, 0, 0]), (20, [2, 1], [30, (Int.negSucc 0), 1, 0, 0, (Int.negSucc 0), 3, 2005000]), (20, [1, 2], [60, 4, 2, 1032, 11, 10, 15, 5, 2, 1]), (20, [1, 2, 4, 3], [60, 4, 2, 1033, 11, 10, 15, 5, 2, 1]), (24, [0, 1], [])])]
def t_Mo_known_ct : ct_L := [(1, 425, e_Mo_byteAt), (1, 475, e_Mo_nodes), (1, 478, e_Mo_longOf)]
set_option maxRecDepth 100000 in
theorem c_Mo_known {l : Launch} {D : va_G} {kA : Nat → ClassId} (h_Mo_byteAt : ct_ok PRD l D kA GG y_Mo_byteAt z_Mo_byteAt e_Mo_byteAt) (h_Mo_longOf : ct_ok PRD l D kA GG y_Mo_longOf z_Mo_longOf e_Mo_longOf) (h_Mo_nodes : ct_ok PRD l D kA GG y_Mo_nodes z_Mo_nodes e_Mo_nodes) : ct_ok PRD l D kA GG y_Mo_known z_Mo_known e_Mo_known := chk_all_ok (FT := [(16, 13, 2), (391, 13, 5), (422, 13, 11), (431, 13, 15)]) (PT := []) (CT := t_Mo_known_ct) (KT := []) (NT := []) (AN := n_Mo_known_an) (OT := [o_Mo_known_0, o_Mo_known_1, o_Mo_known_2, o_Mo_known_3, o_Mo_known_4, o_Mo_known_5, o_Mo_known_6, o_Mo_known_7, o_Mo_known_8, o_Mo_known_9, o_Mo_known_10, o_Mo_known_11]) 5 336 (List.forall_mem_cons.mpr ⟨oo_Mo_known_0, List.forall_mem_cons.mpr ⟨oo_Mo_known_1, List.forall_mem_cons.mpr ⟨oo_Mo_known_2, List.forall_mem_cons.mpr ⟨oo_Mo_known_3, List.forall_mem_cons.mpr ⟨oo_Mo_known_4, List.forall_mem_cons.mpr ⟨oo_Mo_known_5, List.forall_mem_cons.mpr ⟨oo_Mo_known_6, List.forall_mem_cons.mpr ⟨oo_Mo_known_7, List.forall_mem_cons.mpr ⟨oo_Mo_known_8, List.forall_mem_cons.mpr ⟨oo_Mo_known_9, List.forall_mem_cons.mpr ⟨oo_Mo_known_10, List.forall_mem_cons.mpr ⟨oo_Mo_known_11, List.forall_mem_nil _⟩⟩⟩⟩⟩⟩⟩⟩⟩⟩⟩⟩) (by decide +kernel) ⟨List.forall_mem_cons.mpr ⟨gf_Mo_16, List.forall_mem_cons.mpr ⟨gf_Mo_391, List.forall_mem_cons.mpr ⟨gf_Mo_422, List.forall_mem_cons.mpr ⟨gf_Mo_431, List.forall_mem_nil _⟩⟩⟩⟩, List.forall_mem_nil _, List.forall_mem_cons.mpr ⟨cl_virtual (y := y_Mo_byteAt) (ci := 13) rfl rfl ⟨_, _, rfl⟩ (by decide +kernel) h_Mo_byteAt wm_2986 wm_9 wm_2983 wm_2985 wv_12_12 ⟨by decide, by decide, by decide +kernel⟩ (by decide), List.forall_mem_cons.mpr ⟨cl_virtual (y := y_Mo_nodes) (ci := 13) rfl rfl ⟨_, _, rfl⟩ (by decide +kernel) h_Mo_nodes wm_3025 wm_9 wm_3022 wm_3024 wv_13_3 ⟨by decide, by decide, by decide +kernel⟩ (by decide), List.forall_mem_cons.mpr ⟨cl_virtual (y := y_Mo_longOf) (ci := 13) rfl rfl ⟨_, _, rfl⟩ (by decide +kernel) h_Mo_longOf wm_3029 wm_9 wm_3026 wm_3028 wv_13_4 ⟨by decide, by decide, by decide +kernel⟩ (by decide), List.forall_mem_nil _⟩⟩⟩, List.forall_mem_nil _, List.forall_mem_nil _, GG_pl⟩ (by decide +kernel)

set_option maxHeartbeats 4000000 in
theorem vc_Mo_rise_0_0 (x1 : Int) (spot_0 : Int → Int) (k1 : 0 ≤ x1 ∧ x1 ≤ 0) : UZS (spot_0) (x1) := by
  first
    | exact ⟨fun q a b => by exfalso; omega, trivial⟩
def o_Mo_rise_0 : or_T := (2, 2, [(1, (0, 0, 0, []))], [], [], [], [(20, [0, 1], [60, 0, 1, 412, 82]), (24, [0, 0], [])], [], [])
theorem oo_Mo_rise_0 {kA : Nat → ClassId} : or_ok PRD kA GG o_Mo_rise_0 := by
  refine or_mk fun A ta ws vs hD hth hl => ?_
  intro t1 k1
  have nf0 : fc_1 PRD (20, [0, 1], [60, 0, 1, 412, 82]) ws (vs) := ⟨nf_in hl rfl, sgq_1237 (vc_Mo_rise_0_0 (v_iv (n_v vs 1)) (w_ei ws (w_ar ws (n_v vs 0) 82)) k1)⟩
  have nf1 : fc_1 PRD (24, [0, 0], []) ws (vs) := by
    refine ⟨nf_in hl rfl, sgq_1 ?_⟩
    · show n_v vs 0 = n_v vs 0
      first | rfl | simp only [true_and]
  refine ⟨(fun _ h => (by cases h)), [], trivial, ?_, (fun _ h => (by cases h))⟩
  rw [List.append_nil]
  exact List.forall_mem_cons.mpr ⟨⟨show (20 : Nat) < 100 from by decide, nf0⟩, List.forall_mem_cons.mpr ⟨⟨show (24 : Nat) < 100 from by decide, nf1⟩, (fun _ h => (by cases h))⟩⟩
set_option maxHeartbeats 4000000 in
theorem vc_Mo_rise_1_0 (x2 : Int) (x3 : Int) (x4 : Int) (pointMany_0 : Int) (costA_0 : Int → Int) (costB_0 : Int → Int) (costW_0 : Int → Int) (costPlain_0 : Int → Int) (apartA_0 : Int → Int) (apartB_0 : Int → Int) (apart_0 : Int → Int) (costMany_0 : Int) (apartMany_0 : Int) (spot_0 : Int → Int) (gx : Int) (k2 : 0 ≤ x2 ∧ x2 ≤ 76) (k3 : 0 ≤ x3 ∧ x3 ≤ 76) (k4 : 1 ≤ x4 ∧ x4 ≤ 1) (d0 : x3 + 0 ≤ x2 ∧ x2 ≤ x3 + 4294967296) (g1 : x3 = pointMany_0) (f2 : PBR (pointMany_0) (costMany_0) (apartMany_0) (costA_0) (costB_0) (costW_0) (costPlain_0) (apartA_0) (apartB_0) (apart_0)) (f3 : UZS (spot_0) (x2)) (kz_0_79 : 0 ≤ pointMany_0 ∧ pointMany_0 ≤ 76) (kz_0_80 : 0 ≤ costMany_0 ∧ costMany_0 ≤ 200) (kz_0_81 : 0 ≤ apartMany_0 ∧ apartMany_0 ≤ 200) (ex2 : gx = 1200001) : RSA (pointMany_0) (costMany_0) (apartMany_0) (spot_0) (costA_0) (costB_0) (costW_0) (costPlain_0) (apartA_0) (apartB_0) (apart_0) (x4) (gx) := by
  first
    | exact rsa_start ‹PBR _ _ _ _ _ _ _ _ _ _› ‹UZS _ _›.1 (by omega) (by omega) (by omega)
set_option maxHeartbeats 4000000 in
theorem vc_Mo_rise_1_1 (x4 : Int) (apartA_0 : Int → Int) (apartB_0 : Int → Int) (apart_0 : Int → Int) (apartMany_0 : Int) (spot_0 : Int → Int) (k4 : 1 ≤ x4 ∧ x4 ≤ 1) (kz_0_81 : 0 ≤ apartMany_0 ∧ apartMany_0 ≤ 200) : RSE (apartMany_0) (spot_0) (apartA_0) (apartB_0) (apart_0) (x4) := by
  first
    | (intro h; exfalso; omega)
def o_Mo_rise_1 : or_T := (25, 5, [(0, (2, 0, 0, [165])), (2, (0, 0, 76, [])), (3, (0, 0, 76, [])), (4, (0, 1, 1, []))], [(9, [3, 1], [79]), (20, [1], [60, 3, 7, 396, 79, 80, 81, 83, 84, 85, 86, 87, 88, 89]), (20, [1, 2], [60, 0, 1, 412, 82]), (24, [0, 1], [])], [], [(0, -2, 1200001, [])], [(20, [1, 4, 5], [60, 3, 8, 419, 79, 80, 81, 82, 83, 84, 85, 86, 87, 88, 89]), (20, [1, 4], [60, 1, 4, 422, 81, 82, 87, 88, 89]), (24, [0, 1], [])], [], [(2, 3, 0, 4294967296)])
theorem oo_Mo_rise_1 {kA : Nat → ClassId} : or_ok PRD kA GG o_Mo_rise_1 := by
  refine or_mk fun A ta ws vs hD hth hl => ?_
  intro t0 r0 t2 k2 t3 k3 t4 k4 d0 f1 f2 f3 f4
  replace f1 := shm_1155 f1
  replace f2 := shm_1236 f2
  replace f3 := shm_1237 f3
  replace f4 := shm_5 f4
  have q1 : n_v vs 1 = n_v vs 0 := f4.symm
  simp only [q1] at f1 f2 f3
  have g1 : v_iv (n_v vs 3) = w_fi ws (n_v vs 0) 79 := congrArg v_iv f1
  have kz_0_79 := fdq_147 hD hth r0
  have kz_0_80 := fdq_131 hD hth r0
  have kz_0_81 := fdq_124 hD hth r0
  obtain ⟨x, ex, hx⟩ := iv_ex (ta := ta) (lo := (-2)) (hi := 1200001) (z := 1200001) (by omega) (by omega) (by omega) (by omega)
  have ex2 : v_iv (Value.int x) = 1200001 := ex
  have ex3 : (-2) ≤ v_iv (Value.int x) ∧ v_iv (Value.int x) ≤ 1200001 := tv_rng hx
  have e_0 : n_v (vs ++ [Value.int x]) 0 = n_v vs 0 := n_v_old (by rw [hl]; decide)
  have e_1 : n_v (vs ++ [Value.int x]) 1 = n_v vs 1 := n_v_old (by rw [hl]; decide)
  have e_4 : n_v (vs ++ [Value.int x]) 4 = n_v vs 4 := n_v_old (by rw [hl]; decide)
  have e_5 : n_v (vs ++ [Value.int x]) 5 = Value.int x := n_v_new hl
  have nf0 : fc_1 PRD (20, [1, 4, 5], [60, 3, 8, 419, 79, 80, 81, 82, 83, 84, 85, 86, 87, 88, 89]) ws (vs ++ [Value.int x]) := by
    refine ⟨nf_inA hl rfl, sgq_1238 ?_⟩
    · show RSA (w_fi ws (n_v (vs ++ [Value.int x]) 1) 79) (w_fi ws (n_v (vs ++ [Value.int x]) 1) 80) (w_fi ws (n_v (vs ++ [Value.int x]) 1) 81) (w_ei ws (w_ar ws (n_v (vs ++ [Value.int x]) 1) 82)) (w_ei ws (w_ar ws (n_v (vs ++ [Value.int x]) 1) 83)) (w_ei ws (w_ar ws (n_v (vs ++ [Value.int x]) 1) 84)) (w_ei ws (w_ar ws (n_v (vs ++ [Value.int x]) 1) 85)) (w_ei ws (w_ar ws (n_v (vs ++ [Value.int x]) 1) 86)) (w_ei ws (w_ar ws (n_v (vs ++ [Value.int x]) 1) 87)) (w_ei ws (w_ar ws (n_v (vs ++ [Value.int x]) 1) 88)) (w_ei ws (w_ar ws (n_v (vs ++ [Value.int x]) 1) 89)) (v_iv (n_v (vs ++ [Value.int x]) 4)) (v_iv (n_v (vs ++ [Value.int x]) 5))
      simp only [e_1, e_4, e_5, q1]
      exact vc_Mo_rise_1_0 (v_iv (n_v vs 2)) (v_iv (n_v vs 3)) (v_iv (n_v vs 4)) (w_fi ws (n_v vs 0) 79) (w_ei ws (w_ar ws (n_v vs 0) 83)) (w_ei ws (w_ar ws (n_v vs 0) 84)) (w_ei ws (w_ar ws (n_v vs 0) 85)) (w_ei ws (w_ar ws (n_v vs 0) 86)) (w_ei ws (w_ar ws (n_v vs 0) 87)) (w_ei ws (w_ar ws (n_v vs 0) 88)) (w_ei ws (w_ar ws (n_v vs 0) 89)) (w_fi ws (n_v vs 0) 80) (w_fi ws (n_v vs 0) 81) (w_ei ws (w_ar ws (n_v vs 0) 82)) (v_iv (Value.int x)) k2 k3 k4 d0 g1 f2 f3 kz_0_79 kz_0_80 kz_0_81 ex2
  have nf1 : fc_1 PRD (20, [1, 4], [60, 1, 4, 422, 81, 82, 87, 88, 89]) ws (vs ++ [Value.int x]) := by
    refine ⟨nf_inA hl rfl, sgq_1239 ?_⟩
    · show RSE (w_fi ws (n_v (vs ++ [Value.int x]) 1) 81) (w_ei ws (w_ar ws (n_v (vs ++ [Value.int x]) 1) 82)) (w_ei ws (w_ar ws (n_v (vs ++ [Value.int x]) 1) 87)) (w_ei ws (w_ar ws (n_v (vs ++ [Value.int x]) 1) 88)) (w_ei ws (w_ar ws (n_v (vs ++ [Value.int x]) 1) 89)) (v_iv (n_v (vs ++ [Value.int x]) 4))
      simp only [e_1, e_4, q1]
      exact vc_Mo_rise_1_1 (v_iv (n_v vs 4)) (w_ei ws (w_ar ws (n_v vs 0) 87)) (w_ei ws (w_ar ws (n_v vs 0) 88)) (w_ei ws (w_ar ws (n_v vs 0) 89)) (w_fi ws (n_v vs 0) 81) (w_ei ws (w_ar ws (n_v vs 0) 82)) k4 kz_0_81
  have nf2 : fc_1 PRD (24, [0, 1], []) ws (vs ++ [Value.int x]) := by
    refine ⟨nf_inA hl rfl, sgq_5 ?_⟩
    · show n_v (vs ++ [Value.int x]) 0 = n_v (vs ++ [Value.int x]) 1
      first | rfl | simp only [e_0, e_1, q1]
  exact ⟨(fun _ h => (by cases h)), [Value.int x], ag_one hx, List.forall_mem_cons.mpr ⟨⟨show (20 : Nat) < 100 from by decide, nf0⟩, List.forall_mem_cons.mpr ⟨⟨show (20 : Nat) < 100 from by decide, nf1⟩, List.forall_mem_cons.mpr ⟨⟨show (24 : Nat) < 100 from by decide, nf2⟩, (fun _ h => (by cases h))⟩⟩⟩, (fun _ h => (by cases h))⟩
set_option maxHeartbeats 4000000 in
theorem vc_Mo_rise_2_0 (x2 : Int) (x5 : Int) (x6 : Int) (costA_0 : Int → Int) (costB_0 : Int → Int) (costW_0 : Int → Int) (costPlain_0 : Int → Int) (apartA_0 : Int → Int) (apartB_0 : Int → Int) (apart_0 : Int → Int) (pointMany_0 : Int) (costMany_0 : Int) (apartMany_0 : Int) (pointMany_1 : Int) (costA_1 : Int → Int) (costB_1 : Int → Int) (costW_1 : Int → Int) (costPlain_1 : Int → Int) (apartA_1 : Int → Int) (apartB_1 : Int → Int) (apart_1 : Int → Int) (costMany_1 : Int) (apartMany_1 : Int) (spot_1 : Int → Int) (spot_0 : Int → Int) (k2 : 0 ≤ x2 ∧ x2 ≤ 75) (k5 : 0 ≤ x5 ∧ x5 ≤ 0) (k6 : 1 ≤ x6 ∧ x6 ≤ 76) (f0 : x6 = x2 + 1) (f8 : UZS (spot_1) (x2)) (fe_0_79_1 : pointMany_0 = pointMany_1) (fe_0_80_1 : costMany_0 = costMany_1) (fe_0_81_1 : apartMany_0 = apartMany_1) (hE_0_82_1 : ∀ j : Int, 0 ≤ j → (j = x2 → spot_0 j = x5) ∧ (j ≠ x2 → spot_0 j = spot_1 j)) (hE_0_83_1 : ∀ j : Int, costA_0 j = costA_1 j) (hE_0_84_1 : ∀ j : Int, costB_0 j = costB_1 j) (hE_0_85_1 : ∀ j : Int, costW_0 j = costW_1 j) (hE_0_86_1 : ∀ j : Int, costPlain_0 j = costPlain_1 j) (hE_0_87_1 : ∀ j : Int, apartA_0 j = apartA_1 j) (hE_0_88_1 : ∀ j : Int, apartB_0 j = apartB_1 j) (hE_0_89_1 : ∀ j : Int, apart_0 j = apart_1 j) (kz_0_79 : 0 ≤ pointMany_0 ∧ pointMany_0 ≤ 76) (kz_0_80 : 0 ≤ costMany_0 ∧ costMany_0 ≤ 200) (kz_0_81 : 0 ≤ apartMany_0 ∧ apartMany_0 ≤ 200) : UZS (spot_0) (x6) := by
  subst fe_0_79_1
  subst fe_0_80_1
  subst fe_0_81_1
  have e_hE_0_83_1 := funext hE_0_83_1; subst e_hE_0_83_1
  have e_hE_0_84_1 := funext hE_0_84_1; subst e_hE_0_84_1
  have e_hE_0_85_1 := funext hE_0_85_1; subst e_hE_0_85_1
  have e_hE_0_86_1 := funext hE_0_86_1; subst e_hE_0_86_1
  have e_hE_0_87_1 := funext hE_0_87_1; subst e_hE_0_87_1
  have e_hE_0_88_1 := funext hE_0_88_1; subst e_hE_0_88_1
  have e_hE_0_89_1 := funext hE_0_89_1; subst e_hE_0_89_1
  first
    | exact uzs_step ‹UZS _ _› (by assumption) (by assumption) rfl (by omega)
def o_Mo_rise_2 : or_T := (2, 7, [(0, (2, 0, 0, [165])), (2, (0, 0, 75, [])), (4, (2, 0, 0, [219])), (5, (0, 0, 0, [])), (6, (0, 1, 76, []))], [(6, [6, 2], [1]), (24, [0, 1], []), (100, [4, 2, 5], []), (9, [4, 1], [82]), (20, [1, 2], [60, 0, 1, 412, 82])], [], [], [(20, [1, 6], [60, 0, 1, 412, 82])], [], [(6, 2, 1, 1), (2, 3, -4294967296, -1)])
theorem oo_Mo_rise_2 {kA : Nat → ClassId} : or_ok PRD kA GG o_Mo_rise_2 := by
  refine or_mk fun A ta ws vs hD hth hl => ?_
  intro t0 r0 t2 k2 t4 r4 t5 k5 t6 k6 d0 d2 f0 f2 ta1 w1 le1 s1 f4 f8
  replace f0 := shm_4 f0
  replace f2 := shm_5 f2
  have s1 : (∀ b j, w_el ws b j = if b = v_ad (n_v vs 4) ∧ j = (v_iv (n_v vs 2)).toNat then v_iv (n_v vs 5) else w_el w1 b j) ∧ ∀ b k, w_fd ws b k = w_fd w1 b k := s1.2
  replace f4 := shm_1165 f4
  replace f8 := shm_1237 f8
  have q1 : n_v vs 1 = n_v vs 0 := f2.symm
  simp only [q1] at f4 f8
  have ar_0_82_1 : w_ar w1 (n_v vs 0) 82 = w_ar ws (n_v vs 0) 82 := congrArg v_ad (s1.2 _ _).symm
  have ar_0_83_1 : w_ar w1 (n_v vs 0) 83 = w_ar ws (n_v vs 0) 83 := congrArg v_ad (s1.2 _ _).symm
  have cr_0_83 := fdq_126 hD hth r0
  have ar_0_84_1 : w_ar w1 (n_v vs 0) 84 = w_ar ws (n_v vs 0) 84 := congrArg v_ad (s1.2 _ _).symm
  have cr_0_84 := fdq_127 hD hth r0
  have ar_0_85_1 : w_ar w1 (n_v vs 0) 85 = w_ar ws (n_v vs 0) 85 := congrArg v_ad (s1.2 _ _).symm
  have cr_0_85 := fdq_128 hD hth r0
  have ar_0_86_1 : w_ar w1 (n_v vs 0) 86 = w_ar ws (n_v vs 0) 86 := congrArg v_ad (s1.2 _ _).symm
  have cr_0_86 := fdq_129 hD hth r0
  have ar_0_87_1 : w_ar w1 (n_v vs 0) 87 = w_ar ws (n_v vs 0) 87 := congrArg v_ad (s1.2 _ _).symm
  have cr_0_87 := fdq_119 hD hth r0
  have ar_0_88_1 : w_ar w1 (n_v vs 0) 88 = w_ar ws (n_v vs 0) 88 := congrArg v_ad (s1.2 _ _).symm
  have cr_0_88 := fdq_120 hD hth r0
  have ar_0_89_1 : w_ar w1 (n_v vs 0) 89 = w_ar ws (n_v vs 0) 89 := congrArg v_ad (s1.2 _ _).symm
  have cr_0_89 := fdq_121 hD hth r0
  have ad_4 : v_ad (n_v vs 4) = w_ar ws (n_v vs 0) 82 := (congrArg v_ad f4).trans ar_0_82_1
  simp only [ar_0_83_1, ar_0_84_1, ar_0_85_1, ar_0_86_1, ar_0_87_1, ar_0_88_1, ar_0_89_1, ar_0_82_1] at f8
  have fe_0_79_1 : w_fi ws (n_v vs 0) 79 = w_fi w1 (n_v vs 0) 79 := congrArg v_iv (s1.2 _ _)
  have fe_0_80_1 : w_fi ws (n_v vs 0) 80 = w_fi w1 (n_v vs 0) 80 := congrArg v_iv (s1.2 _ _)
  have fe_0_81_1 : w_fi ws (n_v vs 0) 81 = w_fi w1 (n_v vs 0) 81 := congrArg v_iv (s1.2 _ _)
  have hE_0_82_1 : ∀ j : Int, 0 ≤ j → (j = v_iv (n_v vs 2) → w_ei ws (w_ar ws (n_v vs 0) 82) j = v_iv (n_v vs 5)) ∧ (j ≠ v_iv (n_v vs 2) → w_ei ws (w_ar ws (n_v vs 0) 82) j = w_ei w1 (w_ar ws (n_v vs 0) 82) j) := fun j hj => ⟨fun h => by unfold w_ei; rw [s1.1, if_pos ⟨ad_4.symm, by rw [h]⟩], fun h => by unfold w_ei; rw [s1.1, if_neg (fun e => h (by have := e.2; omega))]⟩
  have hE_0_83_1 : ∀ j : Int, w_ei ws (w_ar ws (n_v vs 0) 83) j = w_ei w1 (w_ar ws (n_v vs 0) 83) j := el_kp s1.1 r4 cr_0_83 (by decide)
  have hE_0_84_1 : ∀ j : Int, w_ei ws (w_ar ws (n_v vs 0) 84) j = w_ei w1 (w_ar ws (n_v vs 0) 84) j := el_kp s1.1 r4 cr_0_84 (by decide)
  have hE_0_85_1 : ∀ j : Int, w_ei ws (w_ar ws (n_v vs 0) 85) j = w_ei w1 (w_ar ws (n_v vs 0) 85) j := el_kp s1.1 r4 cr_0_85 (by decide)
  have hE_0_86_1 : ∀ j : Int, w_ei ws (w_ar ws (n_v vs 0) 86) j = w_ei w1 (w_ar ws (n_v vs 0) 86) j := el_kp s1.1 r4 cr_0_86 (by decide)
  have hE_0_87_1 : ∀ j : Int, w_ei ws (w_ar ws (n_v vs 0) 87) j = w_ei w1 (w_ar ws (n_v vs 0) 87) j := el_kp s1.1 r4 cr_0_87 (by decide)
  have hE_0_88_1 : ∀ j : Int, w_ei ws (w_ar ws (n_v vs 0) 88) j = w_ei w1 (w_ar ws (n_v vs 0) 88) j := el_kp s1.1 r4 cr_0_88 (by decide)
  have hE_0_89_1 : ∀ j : Int, w_ei ws (w_ar ws (n_v vs 0) 89) j = w_ei w1 (w_ar ws (n_v vs 0) 89) j := el_kp s1.1 r4 cr_0_89 (by decide)
  have kz_0_79 := fdq_147 hD hth r0
  have kz_0_80 := fdq_131 hD hth r0
  have kz_0_81 := fdq_124 hD hth r0
  have nf0 : fc_1 PRD (20, [1, 6], [60, 0, 1, 412, 82]) ws (vs) := by
    refine ⟨nf_in hl rfl, sgq_1237 ?_⟩
    · show UZS (w_ei ws (w_ar ws (n_v vs 1) 82)) (v_iv (n_v vs 6))
      rw [q1]
      exact vc_Mo_rise_2_0 (v_iv (n_v vs 2)) (v_iv (n_v vs 5)) (v_iv (n_v vs 6)) (w_ei ws (w_ar ws (n_v vs 0) 83)) (w_ei ws (w_ar ws (n_v vs 0) 84)) (w_ei ws (w_ar ws (n_v vs 0) 85)) (w_ei ws (w_ar ws (n_v vs 0) 86)) (w_ei ws (w_ar ws (n_v vs 0) 87)) (w_ei ws (w_ar ws (n_v vs 0) 88)) (w_ei ws (w_ar ws (n_v vs 0) 89)) (w_fi ws (n_v vs 0) 79) (w_fi ws (n_v vs 0) 80) (w_fi ws (n_v vs 0) 81) (w_fi w1 (n_v vs 0) 79) (w_ei w1 (w_ar ws (n_v vs 0) 83)) (w_ei w1 (w_ar ws (n_v vs 0) 84)) (w_ei w1 (w_ar ws (n_v vs 0) 85)) (w_ei w1 (w_ar ws (n_v vs 0) 86)) (w_ei w1 (w_ar ws (n_v vs 0) 87)) (w_ei w1 (w_ar ws (n_v vs 0) 88)) (w_ei w1 (w_ar ws (n_v vs 0) 89)) (w_fi w1 (n_v vs 0) 80) (w_fi w1 (n_v vs 0) 81) (w_ei w1 (w_ar ws (n_v vs 0) 82)) (w_ei ws (w_ar ws (n_v vs 0) 82)) k2 k5 k6 f0 f8 fe_0_79_1 fe_0_80_1 fe_0_81_1 hE_0_82_1 hE_0_83_1 hE_0_84_1 hE_0_85_1 hE_0_86_1 hE_0_87_1 hE_0_88_1 hE_0_89_1 kz_0_79 kz_0_80 kz_0_81
  refine ⟨(fun _ h => (by cases h)), [], trivial, ?_, (fun _ h => (by cases h))⟩
  rw [List.append_nil]
  exact List.forall_mem_cons.mpr ⟨⟨show (20 : Nat) < 100 from by decide, nf0⟩, (fun _ h => (by cases h))⟩
set_option maxHeartbeats 4000000 in
theorem vc_Mo_rise_3_0 (x2 : Int) (x3 : Int) (spot_0 : Int → Int) (costA_0 : Int → Int) (costB_0 : Int → Int) (costW_0 : Int → Int) (costPlain_0 : Int → Int) (apartA_0 : Int → Int) (apartB_0 : Int → Int) (apart_0 : Int → Int) (pointMany_0 : Int) (costMany_0 : Int) (apartMany_0 : Int) (gx : Int) (k2 : 0 ≤ x2 ∧ x2 ≤ 0) (k3 : (-2) ≤ x3 ∧ x3 ≤ 1200001) (f0 : x2 = 0) (f1 : RSA (pointMany_0) (costMany_0) (apartMany_0) (spot_0) (costA_0) (costB_0) (costW_0) (costPlain_0) (apartA_0) (apartB_0) (apart_0) (x2) (x3)) (f2 : RSE (apartMany_0) (spot_0) (apartA_0) (apartB_0) (apart_0) (x2)) (kz_0_79 : 0 ≤ pointMany_0 ∧ pointMany_0 ≤ 76) (kz_0_80 : 0 ≤ costMany_0 ∧ costMany_0 ≤ 200) (kz_0_81 : 0 ≤ apartMany_0 ∧ apartMany_0 ≤ 200) (ex2 : gx = 221100000) : RII (pointMany_0) (costMany_0) (apartMany_0) (spot_0) (costA_0) (costB_0) (costW_0) (costPlain_0) (apartA_0) (apartB_0) (apart_0) (gx) := by
  first
    | exact rii_start ‹RSA _ _ _ _ _ _ _ _ _ _ _ _ _› ‹RSE _ _ _ _ _ _› (by omega) (by omega)
def o_Mo_rise_3 : or_T := (116, 4, [(0, (2, 0, 0, [165])), (2, (0, 0, 0, [])), (3, (0, -2, 1200001, []))], [(8, [2], [0]), (20, [1, 2, 3], [60, 3, 8, 419, 79, 80, 81, 82, 83, 84, 85, 86, 87, 88, 89]), (20, [1, 2], [60, 1, 4, 422, 81, 82, 87, 88, 89]), (24, [0, 1], [])], [], [(0, -2, 221100001, [])], [(20, [1, 4], [60, 3, 8, 423, 79, 80, 81, 82, 83, 84, 85, 86, 87, 88, 89]), (24, [0, 1], [])], [], [])
theorem oo_Mo_rise_3 {kA : Nat → ClassId} : or_ok PRD kA GG o_Mo_rise_3 := by
  refine or_mk fun A ta ws vs hD hth hl => ?_
  intro t0 r0 t2 k2 t3 k3 f0 f1 f2 f3
  replace f0 := shm_192 f0
  replace f1 := shm_1238 f1
  replace f2 := shm_1239 f2
  replace f3 := shm_5 f3
  have q1 : n_v vs 1 = n_v vs 0 := f3.symm
  simp only [q1] at f1 f2
  have kz_0_79 := fdq_147 hD hth r0
  have kz_0_80 := fdq_131 hD hth r0
  have kz_0_81 := fdq_124 hD hth r0
  obtain ⟨x, ex, hx⟩ := iv_ex (ta := ta) (lo := (-2)) (hi := 221100001) (z := 221100000) (by omega) (by omega) (by omega) (by omega)
  have ex2 : v_iv (Value.int x) = 221100000 := ex
  have ex3 : (-2) ≤ v_iv (Value.int x) ∧ v_iv (Value.int x) ≤ 221100001 := tv_rng hx
  have e_0 : n_v (vs ++ [Value.int x]) 0 = n_v vs 0 := n_v_old (by rw [hl]; decide)
  have e_1 : n_v (vs ++ [Value.int x]) 1 = n_v vs 1 := n_v_old (by rw [hl]; decide)
  have e_4 : n_v (vs ++ [Value.int x]) 4 = Value.int x := n_v_new hl
  have nf0 : fc_1 PRD (20, [1, 4], [60, 3, 8, 423, 79, 80, 81, 82, 83, 84, 85, 86, 87, 88, 89]) ws (vs ++ [Value.int x]) := by
    refine ⟨nf_inA hl rfl, sgq_1240 ?_⟩
    · show RII (w_fi ws (n_v (vs ++ [Value.int x]) 1) 79) (w_fi ws (n_v (vs ++ [Value.int x]) 1) 80) (w_fi ws (n_v (vs ++ [Value.int x]) 1) 81) (w_ei ws (w_ar ws (n_v (vs ++ [Value.int x]) 1) 82)) (w_ei ws (w_ar ws (n_v (vs ++ [Value.int x]) 1) 83)) (w_ei ws (w_ar ws (n_v (vs ++ [Value.int x]) 1) 84)) (w_ei ws (w_ar ws (n_v (vs ++ [Value.int x]) 1) 85)) (w_ei ws (w_ar ws (n_v (vs ++ [Value.int x]) 1) 86)) (w_ei ws (w_ar ws (n_v (vs ++ [Value.int x]) 1) 87)) (w_ei ws (w_ar ws (n_v (vs ++ [Value.int x]) 1) 88)) (w_ei ws (w_ar ws (n_v (vs ++ [Value.int x]) 1) 89)) (v_iv (n_v (vs ++ [Value.int x]) 4))
      simp only [e_1, e_4, q1]
      exact vc_Mo_rise_3_0 (v_iv (n_v vs 2)) (v_iv (n_v vs 3)) (w_ei ws (w_ar ws (n_v vs 0) 82)) (w_ei ws (w_ar ws (n_v vs 0) 83)) (w_ei ws (w_ar ws (n_v vs 0) 84)) (w_ei ws (w_ar ws (n_v vs 0) 85)) (w_ei ws (w_ar ws (n_v vs 0) 86)) (w_ei ws (w_ar ws (n_v vs 0) 87)) (w_ei ws (w_ar ws (n_v vs 0) 88)) (w_ei ws (w_ar ws (n_v vs 0) 89)) (w_fi ws (n_v vs 0) 79) (w_fi ws (n_v vs 0) 80) (w_fi ws (n_v vs 0) 81) (v_iv (Value.int x)) k2 k3 f0 f1 f2 kz_0_79 kz_0_80 kz_0_81 ex2
  have nf1 : fc_1 PRD (24, [0, 1], []) ws (vs ++ [Value.int x]) := by
    refine ⟨nf_inA hl rfl, sgq_5 ?_⟩
    · show n_v (vs ++ [Value.int x]) 0 = n_v (vs ++ [Value.int x]) 1
      first | rfl | simp only [e_0, e_1, q1]
  exact ⟨(fun _ h => (by cases h)), [Value.int x], ag_one hx, List.forall_mem_cons.mpr ⟨⟨show (20 : Nat) < 100 from by decide, nf0⟩, List.forall_mem_cons.mpr ⟨⟨show (24 : Nat) < 100 from by decide, nf1⟩, (fun _ h => (by cases h))⟩⟩, (fun _ h => (by cases h))⟩
set_option maxHeartbeats 4000000 in
theorem vc_Mo_rise_4_0 (x2 : Int) (x3 : Int) (x4 : Int) (spot_0 : Int → Int) (costA_0 : Int → Int) (costB_0 : Int → Int) (costW_0 : Int → Int) (costPlain_0 : Int → Int) (apartA_0 : Int → Int) (apartB_0 : Int → Int) (apart_0 : Int → Int) (pointMany_0 : Int) (costMany_0 : Int) (apartMany_0 : Int) (gx : Int) (k2 : 1 ≤ x2 ∧ x2 ≤ 1) (k3 : (-2) ≤ x3 ∧ x3 ≤ 1200001) (k4 : 0 ≤ x4 ∧ x4 ≤ 0) (f1 : RSA (pointMany_0) (costMany_0) (apartMany_0) (spot_0) (costA_0) (costB_0) (costW_0) (costPlain_0) (apartA_0) (apartB_0) (apart_0) (x2) (x3)) (kz_0_79 : 0 ≤ pointMany_0 ∧ pointMany_0 ≤ 76) (kz_0_80 : 0 ≤ costMany_0 ∧ costMany_0 ≤ 200) (kz_0_81 : 0 ≤ apartMany_0 ∧ apartMany_0 ≤ 200) (ex2 : gx = 0 + (1 * x3 + 0)) : RSB (pointMany_0) (costMany_0) (apartMany_0) (spot_0) (costA_0) (costB_0) (costW_0) (costPlain_0) (apartA_0) (apartB_0) (apart_0) (x4) (gx) := by
  first
    | assumption
    | (have h := ‹RSA _ _ _ _ _ _ _ _ _ _ _ _ _›; have h2 := h.2.2.1; obtain ⟨rk, r1, r2, r3, r4⟩ := h2
       exact ⟨h.1, h.2.1, ⟨rk, r1, r2, r3, by omega⟩, h.2.2.2⟩)
set_option maxHeartbeats 4000000 in
theorem vc_Mo_rise_4_1 (x4 : Int) (x5 : Int) (spot_0 : Int → Int) (apartA_0 : Int → Int) (apartB_0 : Int → Int) (apart_0 : Int → Int) (k4 : 0 ≤ x4 ∧ x4 ≤ 0) (k5 : 0 ≤ x5 ∧ x5 ≤ 0) : RSK (spot_0) (apartA_0) (apartB_0) (apart_0) (x4) (x5) := by
  first
    | (intro _ j a b; exfalso; omega)
set_option maxHeartbeats 4000000 in
theorem vc_Mo_rise_4_2 (x4 : Int) (k4 : 0 ≤ x4 ∧ x4 ≤ 0) : 0 ≤ x4 := by
  first
    | omega
set_option maxHeartbeats 4000000 in
theorem vc_Mo_rise_4_3 (x2 : Int) (x3 : Int) (spot_0 : Int → Int) (costA_0 : Int → Int) (costB_0 : Int → Int) (costW_0 : Int → Int) (costPlain_0 : Int → Int) (apartA_0 : Int → Int) (apartB_0 : Int → Int) (apart_0 : Int → Int) (pointMany_0 : Int) (costMany_0 : Int) (apartMany_0 : Int) (gx : Int) (k2 : 1 ≤ x2 ∧ x2 ≤ 1) (k3 : (-2) ≤ x3 ∧ x3 ≤ 1200001) (f1 : RSA (pointMany_0) (costMany_0) (apartMany_0) (spot_0) (costA_0) (costB_0) (costW_0) (costPlain_0) (apartA_0) (apartB_0) (apart_0) (x2) (x3)) (kz_0_79 : 0 ≤ pointMany_0 ∧ pointMany_0 ≤ 76) (kz_0_80 : 0 ≤ costMany_0 ∧ costMany_0 ≤ 200) (kz_0_81 : 0 ≤ apartMany_0 ∧ apartMany_0 ≤ 200) (ex2 : gx = 0 + (1 * x3 + 0)) : (-1) * gx + 0 ≤ (-1) := by
  first
    | (have h := (rsa_bd ‹RSA _ _ _ _ _ _ _ _ _ _ _ _ _›).2.1; omega)
    | (have h := (rsa_bd ‹RSB _ _ _ _ _ _ _ _ _ _ _ _ _›).2.1; omega)
def o_Mo_rise_4 : or_T := (33, 6, [(0, (2, 0, 0, [165])), (1, (2, 0, 0, [165])), (2, (0, 1, 1, [])), (3, (0, -2, 1200001, [])), (4, (0, 0, 0, [])), (5, (0, 0, 0, []))], [(8, [2], [1]), (20, [1, 2, 3], [60, 3, 8, 419, 79, 80, 81, 82, 83, 84, 85, 86, 87, 88, 89]), (20, [1, 2], [60, 1, 4, 422, 81, 82, 87, 88, 89]), (24, [0, 1], [])], [], [(0, -2, 1200001, [])], [(20, [1, 4, 6], [60, 3, 8, 420, 79, 80, 81, 82, 83, 84, 85, 86, 87, 88, 89]), (20, [1, 4, 5], [60, 0, 4, 421, 82, 87, 88, 89]), (20, [4], [50, 0, 0, 0, 2, 0, 0, 1, 0]), (23, [6], [-1, -1]), (24, [0, 1], [])], [(6, 3, 0, 0)], [])
theorem oo_Mo_rise_4 {kA : Nat → ClassId} : or_ok PRD kA GG o_Mo_rise_4 := by
  refine or_mk fun A ta ws vs hD hth hl => ?_
  intro t0 r0 t1 r1 t2 k2 t3 k3 t4 k4 t5 k5 f0 f1 f2 f3
  replace f0 := shm_142 f0
  replace f1 := shm_1238 f1
  replace f2 := shm_1239 f2
  replace f3 := shm_5 f3
  have q1 : n_v vs 1 = n_v vs 0 := f3.symm
  simp only [q1] at f1 f2
  have cr_0_82 := fdq_230 hD hth r0
  have cr_0_83 := fdq_126 hD hth r0
  have cr_0_84 := fdq_127 hD hth r0
  have cr_0_85 := fdq_128 hD hth r0
  have cr_0_86 := fdq_129 hD hth r0
  have cr_0_87 := fdq_119 hD hth r0
  have cr_0_88 := fdq_120 hD hth r0
  have cr_0_89 := fdq_121 hD hth r0
  have hK_0_82 := elq_143 hD hth cr_0_82
  have hK_0_83 := elq_67 hD hth cr_0_83
  have hK_0_84 := elq_68 hD hth cr_0_84
  have hK_0_85 := elq_69 hD hth cr_0_85
  have hK_0_86 := elq_70 hD hth cr_0_86
  have hK_0_87 := elq_62 hD hth cr_0_87
  have hK_0_88 := elq_63 hD hth cr_0_88
  have hK_0_89 := elq_64 hD hth cr_0_89
  have kz_0_79 := fdq_147 hD hth r0
  have kz_0_80 := fdq_131 hD hth r0
  have kz_0_81 := fdq_124 hD hth r0
  obtain ⟨x, ex, hx⟩ := iv_ex (ta := ta) (lo := (-2)) (hi := 1200001) (z := 0 + (1 * v_iv (n_v vs 3) + 0)) (by omega) (by omega) (by omega) (by omega)
  have ex2 : v_iv (Value.int x) = 0 + (1 * v_iv (n_v vs 3) + 0) := ex
  have ex3 : (-2) ≤ v_iv (Value.int x) ∧ v_iv (Value.int x) ≤ 1200001 := tv_rng hx
  have e_0 : n_v (vs ++ [Value.int x]) 0 = n_v vs 0 := n_v_old (by rw [hl]; decide)
  have e_1 : n_v (vs ++ [Value.int x]) 1 = n_v vs 1 := n_v_old (by rw [hl]; decide)
  have e_4 : n_v (vs ++ [Value.int x]) 4 = n_v vs 4 := n_v_old (by rw [hl]; decide)
  have e_5 : n_v (vs ++ [Value.int x]) 5 = n_v vs 5 := n_v_old (by rw [hl]; decide)
  have e_6 : n_v (vs ++ [Value.int x]) 6 = Value.int x := n_v_new hl
  have nf0 : fc_1 PRD (20, [1, 4, 6], [60, 3, 8, 420, 79, 80, 81, 82, 83, 84, 85, 86, 87, 88, 89]) ws (vs ++ [Value.int x]) := by
    refine ⟨nf_inA hl rfl, sgq_1241 ?_⟩
    · show RSB (w_fi ws (n_v (vs ++ [Value.int x]) 1) 79) (w_fi ws (n_v (vs ++ [Value.int x]) 1) 80) (w_fi ws (n_v (vs ++ [Value.int x]) 1) 81) (w_ei ws (w_ar ws (n_v (vs ++ [Value.int x]) 1) 82)) (w_ei ws (w_ar ws (n_v (vs ++ [Value.int x]) 1) 83)) (w_ei ws (w_ar ws (n_v (vs ++ [Value.int x]) 1) 84)) (w_ei ws (w_ar ws (n_v (vs ++ [Value.int x]) 1) 85)) (w_ei ws (w_ar ws (n_v (vs ++ [Value.int x]) 1) 86)) (w_ei ws (w_ar ws (n_v (vs ++ [Value.int x]) 1) 87)) (w_ei ws (w_ar ws (n_v (vs ++ [Value.int x]) 1) 88)) (w_ei ws (w_ar ws (n_v (vs ++ [Value.int x]) 1) 89)) (v_iv (n_v (vs ++ [Value.int x]) 4)) (v_iv (n_v (vs ++ [Value.int x]) 6))
      simp only [e_1, e_4, e_6, q1]
      exact vc_Mo_rise_4_0 (v_iv (n_v vs 2)) (v_iv (n_v vs 3)) (v_iv (n_v vs 4)) (w_ei ws (w_ar ws (n_v vs 0) 82)) (w_ei ws (w_ar ws (n_v vs 0) 83)) (w_ei ws (w_ar ws (n_v vs 0) 84)) (w_ei ws (w_ar ws (n_v vs 0) 85)) (w_ei ws (w_ar ws (n_v vs 0) 86)) (w_ei ws (w_ar ws (n_v vs 0) 87)) (w_ei ws (w_ar ws (n_v vs 0) 88)) (w_ei ws (w_ar ws (n_v vs 0) 89)) (w_fi ws (n_v vs 0) 79) (w_fi ws (n_v vs 0) 80) (w_fi ws (n_v vs 0) 81) (v_iv (Value.int x)) k2 k3 k4 f1 kz_0_79 kz_0_80 kz_0_81 ex2
  have nf1 : fc_1 PRD (20, [1, 4, 5], [60, 0, 4, 421, 82, 87, 88, 89]) ws (vs ++ [Value.int x]) := by
    refine ⟨nf_inA hl rfl, sgq_1242 ?_⟩
    · show RSK (w_ei ws (w_ar ws (n_v (vs ++ [Value.int x]) 1) 82)) (w_ei ws (w_ar ws (n_v (vs ++ [Value.int x]) 1) 87)) (w_ei ws (w_ar ws (n_v (vs ++ [Value.int x]) 1) 88)) (w_ei ws (w_ar ws (n_v (vs ++ [Value.int x]) 1) 89)) (v_iv (n_v (vs ++ [Value.int x]) 4)) (v_iv (n_v (vs ++ [Value.int x]) 5))
      simp only [e_1, e_4, e_5, q1]
      exact vc_Mo_rise_4_1 (v_iv (n_v vs 4)) (v_iv (n_v vs 5)) (w_ei ws (w_ar ws (n_v vs 0) 82)) (w_ei ws (w_ar ws (n_v vs 0) 87)) (w_ei ws (w_ar ws (n_v vs 0) 88)) (w_ei ws (w_ar ws (n_v vs 0) 89)) k4 k5
  have nf2 : fc_1 PRD (20, [4], [50, 0, 0, 0, 2, 0, 0, 1, 0]) ws (vs ++ [Value.int x]) := by
    refine ⟨nf_inA hl rfl, sgq_722 ?_⟩
    · show 0 ≤ v_iv (n_v (vs ++ [Value.int x]) 4)
      rw [e_4]
      exact vc_Mo_rise_4_2 (v_iv (n_v vs 4)) k4
  have nf3 : fc_1 PRD (23, [6], [-1, -1]) ws (vs ++ [Value.int x]) := by
    refine ⟨nf_inA hl rfl, sgq_626 ?_⟩
    · show (-1) * v_iv (n_v (vs ++ [Value.int x]) 6) + 0 ≤ (-1)
      rw [e_6]
      exact vc_Mo_rise_4_3 (v_iv (n_v vs 2)) (v_iv (n_v vs 3)) (w_ei ws (w_ar ws (n_v vs 0) 82)) (w_ei ws (w_ar ws (n_v vs 0) 83)) (w_ei ws (w_ar ws (n_v vs 0) 84)) (w_ei ws (w_ar ws (n_v vs 0) 85)) (w_ei ws (w_ar ws (n_v vs 0) 86)) (w_ei ws (w_ar ws (n_v vs 0) 87)) (w_ei ws (w_ar ws (n_v vs 0) 88)) (w_ei ws (w_ar ws (n_v vs 0) 89)) (w_fi ws (n_v vs 0) 79) (w_fi ws (n_v vs 0) 80) (w_fi ws (n_v vs 0) 81) (v_iv (Value.int x)) k2 k3 f1 kz_0_79 kz_0_80 kz_0_81 ex2
  have nf4 : fc_1 PRD (24, [0, 1], []) ws (vs ++ [Value.int x]) := by
    refine ⟨nf_inA hl rfl, sgq_5 ?_⟩
    · show n_v (vs ++ [Value.int x]) 0 = n_v (vs ++ [Value.int x]) 1
      first | rfl | simp only [e_0, e_1, q1]
  obtain ⟨x0, e0, _, _⟩ := tv_int t3 rfl
  have e1 : v_iv (n_v vs 3) = x0.toInt := by rw [e0]; rfl
  have ho : sy_ofs (vs ++ [Value.int x]) (6, 3, 0, 0) := by
    refine ⟨x, x0, by rw [List.getElem?_append_right (by rw [hl]; decide), hl]; rfl, ?_, ?_, ?_⟩
    · rw [List.getElem?_append_left (by rw [hl]; decide)]; exact n_v_some (by rw [hl]; decide) e0
    · show x0.toInt + 0 ≤ x.toInt; omega
    · show x.toInt ≤ x0.toInt + 0; omega
  exact ⟨(fun _ h => (by cases h)), [Value.int x], ag_one hx, List.forall_mem_cons.mpr ⟨⟨show (20 : Nat) < 100 from by decide, nf0⟩, List.forall_mem_cons.mpr ⟨⟨show (20 : Nat) < 100 from by decide, nf1⟩, List.forall_mem_cons.mpr ⟨⟨show (20 : Nat) < 100 from by decide, nf2⟩, List.forall_mem_cons.mpr ⟨⟨show (23 : Nat) < 100 from by decide, nf3⟩, List.forall_mem_cons.mpr ⟨⟨show (24 : Nat) < 100 from by decide, nf4⟩, (fun _ h => (by cases h))⟩⟩⟩⟩⟩, List.forall_mem_cons.mpr ⟨ho, (fun _ h => (by cases h))⟩⟩
set_option maxHeartbeats 4000000 in
theorem vc_Mo_rise_5_0 (x2 : Int) (x4 : Int) (apartMany_0 : Int) (spot_0 : Int → Int) (costA_0 : Int → Int) (costB_0 : Int → Int) (costW_0 : Int → Int) (costPlain_0 : Int → Int) (apartA_0 : Int → Int) (apartB_0 : Int → Int) (apart_0 : Int → Int) (pointMany_0 : Int) (costMany_0 : Int) (gx : Int) (k2 : 0 ≤ x2 ∧ x2 ≤ 1) (k4 : (-2) ≤ x4 ∧ x4 ≤ 1200001) (f2 : RSB (pointMany_0) (costMany_0) (apartMany_0) (spot_0) (costA_0) (costB_0) (costW_0) (costPlain_0) (apartA_0) (apartB_0) (apart_0) (x2) (x4)) (kz_0_79 : 0 ≤ pointMany_0 ∧ pointMany_0 ≤ 76) (kz_0_80 : 0 ≤ costMany_0 ∧ costMany_0 ≤ 200) (kz_0_81 : 0 ≤ apartMany_0 ∧ apartMany_0 ≤ 200) (ex2 : gx = (-1) + (1 * x4 + 0)) : RSA (pointMany_0) (costMany_0) (apartMany_0) (spot_0) (costA_0) (costB_0) (costW_0) (costPlain_0) (apartA_0) (apartB_0) (apart_0) (x2) (gx) := by
  first
    | (have h := ‹RSB _ _ _ _ _ _ _ _ _ _ _ _ _›; unfold RSB at h; rw [show gx = x4 - 1 by omega]; exact h)
set_option maxHeartbeats 4000000 in
theorem vc_Mo_rise_5_1 (x2 : Int) (x3 : Int) (x5 : Int) (apartMany_0 : Int) (spot_0 : Int → Int) (apartA_0 : Int → Int) (apartB_0 : Int → Int) (apart_0 : Int → Int) (k2 : 0 ≤ x2 ∧ x2 ≤ 1) (k3 : 0 ≤ x3 ∧ x3 ≤ 200) (k5 : 0 ≤ x5 ∧ x5 ≤ 200) (d0 : x5 + 0 ≤ x3 ∧ x3 ≤ x5 + 4294967296) (g1 : x5 = apartMany_0) (f3 : RSK (spot_0) (apartA_0) (apartB_0) (apart_0) (x2) (x3)) (kz_0_81 : 0 ≤ apartMany_0 ∧ apartMany_0 ≤ 200) : RSE (apartMany_0) (spot_0) (apartA_0) (apartB_0) (apart_0) (x2) := by
  first
    | exact rsk_end ‹RSK _ _ _ _ _ _› (by omega)
def o_Mo_rise_5 : or_T := (25, 6, [(0, (2, 0, 0, [165])), (1, (2, 0, 0, [165])), (2, (0, 0, 1, [])), (3, (0, 0, 200, [])), (4, (0, -2, 1200001, [])), (5, (0, 0, 200, []))], [(7, [3, 5], [3]), (9, [5, 1], [81]), (20, [1, 2, 4], [60, 3, 8, 420, 79, 80, 81, 82, 83, 84, 85, 86, 87, 88, 89]), (20, [1, 2, 3], [60, 0, 4, 421, 82, 87, 88, 89]), (20, [2], [50, 0, 0, 0, 2, 0, 0, 1, 0]), (23, [4], [-1, -1]), (24, [0, 1], [])], [], [(0, -2, 1200001, [])], [(20, [1, 2, 6], [60, 3, 8, 419, 79, 80, 81, 82, 83, 84, 85, 86, 87, 88, 89]), (20, [1, 2], [60, 1, 4, 422, 81, 82, 87, 88, 89]), (24, [0, 1], [])], [(6, 4, -1000000000000, -1)], [(3, 5, 0, 4294967296), (2, 3, -4294967296, 0)])
theorem oo_Mo_rise_5 {kA : Nat → ClassId} : or_ok PRD kA GG o_Mo_rise_5 := by
  refine or_mk fun A ta ws vs hD hth hl => ?_
  intro t0 r0 t1 r1 t2 k2 t3 k3 t4 k4 t5 k5 d0 d1 f0 f1 f2 f3 f4 f5 f6
  replace f0 := shm_2 f0
  replace f1 := shm_497 f1
  replace f2 := shm_1241 f2
  replace f3 := shm_1242 f3
  replace f4 := shm_722 f4
  replace f5 := shm_626 f5
  replace f6 := shm_5 f6
  have q1 : n_v vs 1 = n_v vs 0 := f6.symm
  simp only [q1] at f1 f2 f3
  have cr_0_82 := fdq_230 hD hth r0
  have cr_0_83 := fdq_126 hD hth r0
  have cr_0_84 := fdq_127 hD hth r0
  have cr_0_85 := fdq_128 hD hth r0
  have cr_0_86 := fdq_129 hD hth r0
  have cr_0_87 := fdq_119 hD hth r0
  have cr_0_88 := fdq_120 hD hth r0
  have cr_0_89 := fdq_121 hD hth r0
  have g1 : v_iv (n_v vs 5) = w_fi ws (n_v vs 0) 81 := congrArg v_iv f1
  have hK_0_82 := elq_143 hD hth cr_0_82
  have hK_0_83 := elq_67 hD hth cr_0_83
  have hK_0_84 := elq_68 hD hth cr_0_84
  have hK_0_85 := elq_69 hD hth cr_0_85
  have hK_0_86 := elq_70 hD hth cr_0_86
  have hK_0_87 := elq_62 hD hth cr_0_87
  have hK_0_88 := elq_63 hD hth cr_0_88
  have hK_0_89 := elq_64 hD hth cr_0_89
  have kz_0_79 := fdq_147 hD hth r0
  have kz_0_80 := fdq_131 hD hth r0
  have kz_0_81 := fdq_124 hD hth r0
  obtain ⟨x, ex, hx⟩ := iv_ex (ta := ta) (lo := (-2)) (hi := 1200001) (z := (-1) + (1 * v_iv (n_v vs 4) + 0)) (by omega) (by omega) (by omega) (by omega)
  have ex2 : v_iv (Value.int x) = (-1) + (1 * v_iv (n_v vs 4) + 0) := ex
  have ex3 : (-2) ≤ v_iv (Value.int x) ∧ v_iv (Value.int x) ≤ 1200001 := tv_rng hx
  have e_0 : n_v (vs ++ [Value.int x]) 0 = n_v vs 0 := n_v_old (by rw [hl]; decide)
  have e_1 : n_v (vs ++ [Value.int x]) 1 = n_v vs 1 := n_v_old (by rw [hl]; decide)
  have e_2 : n_v (vs ++ [Value.int x]) 2 = n_v vs 2 := n_v_old (by rw [hl]; decide)
  have e_6 : n_v (vs ++ [Value.int x]) 6 = Value.int x := n_v_new hl
  have nf0 : fc_1 PRD (20, [1, 2, 6], [60, 3, 8, 419, 79, 80, 81, 82, 83, 84, 85, 86, 87, 88, 89]) ws (vs ++ [Value.int x]) := by
    refine ⟨nf_inA hl rfl, sgq_1238 ?_⟩
    · show RSA (w_fi ws (n_v (vs ++ [Value.int x]) 1) 79) (w_fi ws (n_v (vs ++ [Value.int x]) 1) 80) (w_fi ws (n_v (vs ++ [Value.int x]) 1) 81) (w_ei ws (w_ar ws (n_v (vs ++ [Value.int x]) 1) 82)) (w_ei ws (w_ar ws (n_v (vs ++ [Value.int x]) 1) 83)) (w_ei ws (w_ar ws (n_v (vs ++ [Value.int x]) 1) 84)) (w_ei ws (w_ar ws (n_v (vs ++ [Value.int x]) 1) 85)) (w_ei ws (w_ar ws (n_v (vs ++ [Value.int x]) 1) 86)) (w_ei ws (w_ar ws (n_v (vs ++ [Value.int x]) 1) 87)) (w_ei ws (w_ar ws (n_v (vs ++ [Value.int x]) 1) 88)) (w_ei ws (w_ar ws (n_v (vs ++ [Value.int x]) 1) 89)) (v_iv (n_v (vs ++ [Value.int x]) 2)) (v_iv (n_v (vs ++ [Value.int x]) 6))
      simp only [e_1, e_2, e_6, q1]
      exact vc_Mo_rise_5_0 (v_iv (n_v vs 2)) (v_iv (n_v vs 4)) (w_fi ws (n_v vs 0) 81) (w_ei ws (w_ar ws (n_v vs 0) 82)) (w_ei ws (w_ar ws (n_v vs 0) 83)) (w_ei ws (w_ar ws (n_v vs 0) 84)) (w_ei ws (w_ar ws (n_v vs 0) 85)) (w_ei ws (w_ar ws (n_v vs 0) 86)) (w_ei ws (w_ar ws (n_v vs 0) 87)) (w_ei ws (w_ar ws (n_v vs 0) 88)) (w_ei ws (w_ar ws (n_v vs 0) 89)) (w_fi ws (n_v vs 0) 79) (w_fi ws (n_v vs 0) 80) (v_iv (Value.int x)) k2 k4 f2 kz_0_79 kz_0_80 kz_0_81 ex2
  have nf1 : fc_1 PRD (20, [1, 2], [60, 1, 4, 422, 81, 82, 87, 88, 89]) ws (vs ++ [Value.int x]) := by
    refine ⟨nf_inA hl rfl, sgq_1239 ?_⟩
    · show RSE (w_fi ws (n_v (vs ++ [Value.int x]) 1) 81) (w_ei ws (w_ar ws (n_v (vs ++ [Value.int x]) 1) 82)) (w_ei ws (w_ar ws (n_v (vs ++ [Value.int x]) 1) 87)) (w_ei ws (w_ar ws (n_v (vs ++ [Value.int x]) 1) 88)) (w_ei ws (w_ar ws (n_v (vs ++ [Value.int x]) 1) 89)) (v_iv (n_v (vs ++ [Value.int x]) 2))
      simp only [e_1, e_2, q1]
      exact vc_Mo_rise_5_1 (v_iv (n_v vs 2)) (v_iv (n_v vs 3)) (v_iv (n_v vs 5)) (w_fi ws (n_v vs 0) 81) (w_ei ws (w_ar ws (n_v vs 0) 82)) (w_ei ws (w_ar ws (n_v vs 0) 87)) (w_ei ws (w_ar ws (n_v vs 0) 88)) (w_ei ws (w_ar ws (n_v vs 0) 89)) k2 k3 k5 d0 g1 f3 kz_0_81
  have nf2 : fc_1 PRD (24, [0, 1], []) ws (vs ++ [Value.int x]) := by
    refine ⟨nf_inA hl rfl, sgq_5 ?_⟩
    · show n_v (vs ++ [Value.int x]) 0 = n_v (vs ++ [Value.int x]) 1
      first | rfl | simp only [e_0, e_1, q1]
  obtain ⟨x0, e0, _, _⟩ := tv_int t4 rfl
  have e1 : v_iv (n_v vs 4) = x0.toInt := by rw [e0]; rfl
  have ho : sy_ofs (vs ++ [Value.int x]) (6, 4, -1000000000000, -1) := by
    refine ⟨x, x0, by rw [List.getElem?_append_right (by rw [hl]; decide), hl]; rfl, ?_, ?_, ?_⟩
    · rw [List.getElem?_append_left (by rw [hl]; decide)]; exact n_v_some (by rw [hl]; decide) e0
    · show x0.toInt + (-1000000000000) ≤ x.toInt; omega
    · show x.toInt ≤ x0.toInt + (-1); omega
  exact ⟨(fun _ h => (by cases h)), [Value.int x], ag_one hx, List.forall_mem_cons.mpr ⟨⟨show (20 : Nat) < 100 from by decide, nf0⟩, List.forall_mem_cons.mpr ⟨⟨show (20 : Nat) < 100 from by decide, nf1⟩, List.forall_mem_cons.mpr ⟨⟨show (24 : Nat) < 100 from by decide, nf2⟩, (fun _ h => (by cases h))⟩⟩⟩, List.forall_mem_cons.mpr ⟨ho, (fun _ h => (by cases h))⟩⟩
set_option maxHeartbeats 4000000 in
theorem vc_Mo_rise_6_r0 (x2 : Int) (x3 : Int) (x4 : Int) (x5 : Int) (x17 : Int) (x18 : Int) (x19 : Int) (x20 : Int) (apart_0 : Int → Int) (spot_0 : Int → Int) (apartA_0 : Int → Int) (apartB_0 : Int → Int) (apartMany_0 : Int) (costA_0 : Int → Int) (costB_0 : Int → Int) (costW_0 : Int → Int) (costPlain_0 : Int → Int) (pointMany_0 : Int) (costMany_0 : Int) (k2 : 0 ≤ x2 ∧ x2 ≤ 1) (k3 : 0 ≤ x3 ∧ x3 ≤ 199) (k4 : (-2) ≤ x4 ∧ x4 ≤ 1200001) (k5 : 1 ≤ x5 ∧ x5 ≤ 200) (k17 : 0 ≤ x17 ∧ x17 ≤ 75) (k18 : 0 ≤ x18 ∧ x18 ≤ 221100000) (k19 : 0 ≤ x19 ∧ x19 ≤ 202) (k20 : 0 ≤ x20 ∧ x20 ≤ 221100202) (d5 : x5 + (-4294967296) ≤ x3 ∧ x3 ≤ x5 + (-1)) (f0 : x20 = x18 + x19) (h1 : x19 = apart_0 (x3)) (h3 : x18 = spot_0 (x17)) (h4 : x17 = apartA_0 (x3)) (g17 : x5 = apartMany_0) (f18 : RSB (pointMany_0) (costMany_0) (apartMany_0) (spot_0) (costA_0) (costB_0) (costW_0) (costPlain_0) (apartA_0) (apartB_0) (apart_0) (x2) (x4)) (kz_0_79 : 0 ≤ pointMany_0 ∧ pointMany_0 ≤ 76) (kz_0_80 : 0 ≤ costMany_0 ∧ costMany_0 ≤ 200) (kz_0_81 : 0 ≤ apartMany_0 ∧ apartMany_0 ≤ 200) : 0 ≤ x20 ∧ x20 ≤ 221100000 := by
  have h := rsb_v (k := x3) (a := x17) (ya := x18) (d := x19) ‹RSB _ _ _ _ _ _ _ _ _ _ _ _ _› (by omega) (by omega) (by assumption) (by assumption) (by assumption)
  omega
def o_Mo_rise_6 : or_T := (104, 21, [(0, (2, 0, 0, [165])), (1, (2, 0, 0, [165])), (2, (0, 0, 1, [])), (3, (0, 0, 199, [])), (4, (0, -2, 1200001, [])), (5, (0, 1, 200, [])), (6, (2, 0, 0, [219])), (7, (2, 0, 0, [225])), (8, (0, 0, 75, [])), (9, (0, 0, 221100000, [])), (10, (2, 0, 0, [224])), (11, (0, 0, 75, [])), (12, (0, 0, 221100000, [])), (13, (2, 0, 0, [226])), (14, (0, 0, 202, [])), (15, (0, 1, 221100202, [])), (16, (0, 0, 75, [])), (17, (0, 0, 75, [])), (18, (0, 0, 221100000, [])), (19, (0, 0, 202, [])), (20, (0, 0, 221100202, []))], [(1, [20, 18, 19], []), (10, [19, 13, 3], []), (9, [13, 1], [89]), (10, [18, 6, 17], []), (10, [17, 10, 3], []), (9, [10, 1], [87]), (9, [6, 1], [82]), (10, [16, 7, 3], []), (9, [7, 1], [88]), (7, [9, 15], [2]), (1, [15, 12, 14], []), (10, [14, 13, 3], []), (10, [12, 6, 11], []), (10, [11, 10, 3], []), (10, [9, 6, 8], []), (10, [8, 7, 3], []), (7, [3, 5], [2]), (9, [5, 1], [81]), (20, [1, 2, 4], [60, 3, 8, 420, 79, 80, 81, 82, 83, 84, 85, 86, 87, 88, 89]), (20, [1, 2, 3], [60, 0, 4, 421, 82, 87, 88, 89]), (20, [2], [50, 0, 0, 0, 2, 0, 0, 1, 0]), (23, [4], [-1, -1]), (24, [0, 1], [])], [(20, (0, 0, 221100000, []))], [], [], [], [(20, 19, 0, 221100000), (20, 18, 0, 202), (9, 15, -4294967296, -1), (15, 14, 0, 221100000), (15, 12, 0, 202), (3, 5, -4294967296, -1), (2, 3, -4294967296, 0)])
theorem oo_Mo_rise_6 {kA : Nat → ClassId} : or_ok PRD kA GG o_Mo_rise_6 := by
  refine or_mk fun A ta ws vs hD hth hl => ?_
  intro t0 r0 t1 r1 t2 k2 t3 k3 t4 k4 t5 k5 t6 r6 t7 r7 t8 k8 t9 k9 t10 r10 t11 k11 t12 k12 t13 r13 t14 k14 t15 k15 t16 k16 t17 k17 t18 k18 t19 k19 t20 k20 d0 d1 d2 d3 d4 d5 d6 f0 f1 f2 f3 f4 f5 f6 f7 f8 f9 f10 f11 f12 f13 f14 f15 f16 f17 f18 f19 f20 f21 f22
  replace f1 := shm_107 f1
  replace f2 := shm_503 f2
  replace f3 := shm_107 f3
  replace f4 := shm_107 f4
  replace f5 := shm_498 f5
  replace f6 := shm_1165 f6
  replace f17 := shm_497 f17
  replace f18 := shm_1241 f18
  replace f22 := shm_5 f22
  have q1 : n_v vs 1 = n_v vs 0 := f22.symm
  simp only [q1] at f2 f5 f6 f17 f18
  have ad_13 : v_ad (n_v vs 13) = w_ar ws (n_v vs 0) 89 := congrArg v_ad f2
  have ad_10 : v_ad (n_v vs 10) = w_ar ws (n_v vs 0) 87 := congrArg v_ad f5
  have ad_6 : v_ad (n_v vs 6) = w_ar ws (n_v vs 0) 82 := congrArg v_ad f6
  simp only [ad_13] at f1
  have h1 : v_iv (n_v vs 19) = w_ei ws (w_ar ws (n_v vs 0) 89) (v_iv (n_v vs 3)) := f1
  simp only [ad_6] at f3
  have h3 : v_iv (n_v vs 18) = w_ei ws (w_ar ws (n_v vs 0) 82) (v_iv (n_v vs 17)) := f3
  simp only [ad_10] at f4
  have h4 : v_iv (n_v vs 17) = w_ei ws (w_ar ws (n_v vs 0) 87) (v_iv (n_v vs 3)) := f4
  have g17 : v_iv (n_v vs 5) = w_fi ws (n_v vs 0) 81 := congrArg v_iv f17
  have kz_0_79 := fdq_147 hD hth r0
  have kz_0_80 := fdq_131 hD hth r0
  have kz_0_81 := fdq_124 hD hth r0
  have hrf0 : 0 ≤ v_iv (n_v vs 20) ∧ v_iv (n_v vs 20) ≤ 221100000 := vc_Mo_rise_6_r0 (v_iv (n_v vs 2)) (v_iv (n_v vs 3)) (v_iv (n_v vs 4)) (v_iv (n_v vs 5)) (v_iv (n_v vs 17)) (v_iv (n_v vs 18)) (v_iv (n_v vs 19)) (v_iv (n_v vs 20)) (w_ei ws (w_ar ws (n_v vs 0) 89)) (w_ei ws (w_ar ws (n_v vs 0) 82)) (w_ei ws (w_ar ws (n_v vs 0) 87)) (w_ei ws (w_ar ws (n_v vs 0) 88)) (w_fi ws (n_v vs 0) 81) (w_ei ws (w_ar ws (n_v vs 0) 83)) (w_ei ws (w_ar ws (n_v vs 0) 84)) (w_ei ws (w_ar ws (n_v vs 0) 85)) (w_ei ws (w_ar ws (n_v vs 0) 86)) (w_fi ws (n_v vs 0) 79) (w_fi ws (n_v vs 0) 80) k2 k3 k4 k5 k17 k18 k19 k20 d5 (shm_12 f0) h1 h3 h4 g17 f18 kz_0_79 kz_0_80 kz_0_81
  have rf20 : tv_ok ta (0, 0, 221100000, []) (n_v vs 20) := tv_in t20 (by first | omega | grind) (by first | omega | grind)
  refine ⟨List.forall_mem_cons.mpr ⟨rf20, (fun _ h => (by cases h))⟩, [], trivial, ?_, (fun _ h => (by cases h))⟩
  rw [List.append_nil]
  exact (fun _ h => (by cases h))
set_option maxHeartbeats 4000000 in
theorem vc_Mo_rise_7_0 (x2 : Int) (x3 : Int) (x4 : Int) (x5 : Int) (x8 : Int) (x9 : Int) (x11 : Int) (x12 : Int) (x14 : Int) (x15 : Int) (x16 : Int) (x17 : Int) (x18 : Int) (x19 : Int) (x20 : Int) (x21 : Int) (x22 : Int) (apart_1 : Int → Int) (spot_1 : Int → Int) (apartA_1 : Int → Int) (apartB_1 : Int → Int) (apartMany_1 : Int) (costA_1 : Int → Int) (costB_1 : Int → Int) (costW_1 : Int → Int) (costPlain_1 : Int → Int) (pointMany_1 : Int) (costMany_1 : Int) (pointMany_0 : Int) (costMany_0 : Int) (apartMany_0 : Int) (spot_0 : Int → Int) (costA_0 : Int → Int) (costB_0 : Int → Int) (costW_0 : Int → Int) (costPlain_0 : Int → Int) (apartA_0 : Int → Int) (apartB_0 : Int → Int) (apart_0 : Int → Int) (k2 : 0 ≤ x2 ∧ x2 ≤ 1) (k3 : 0 ≤ x3 ∧ x3 ≤ 199) (k4 : (-2) ≤ x4 ∧ x4 ≤ 1200001) (k5 : 1 ≤ x5 ∧ x5 ≤ 200) (k8 : 0 ≤ x8 ∧ x8 ≤ 75) (k9 : 0 ≤ x9 ∧ x9 ≤ 221100000) (k11 : 0 ≤ x11 ∧ x11 ≤ 75) (k12 : 0 ≤ x12 ∧ x12 ≤ 221100000) (k14 : 0 ≤ x14 ∧ x14 ≤ 202) (k15 : 1 ≤ x15 ∧ x15 ≤ 221100202) (k16 : 0 ≤ x16 ∧ x16 ≤ 75) (k17 : 0 ≤ x17 ∧ x17 ≤ 75) (k18 : 0 ≤ x18 ∧ x18 ≤ 221100000) (k19 : 0 ≤ x19 ∧ x19 ≤ 202) (k20 : 0 ≤ x20 ∧ x20 ≤ 221100000) (k21 : 1 ≤ x21 ∧ x21 ≤ 1) (k22 : 1 ≤ x22 ∧ x22 ≤ 200) (d0 : x3 + 1 ≤ x22 ∧ x22 ≤ x3 + 1) (d1 : x5 + (-4294967296) ≤ x22 ∧ x22 ≤ x5 + 0) (d7 : x5 + (-4294967296) ≤ x3 ∧ x3 ≤ x5 + (-1)) (f5 : x20 = x18 + x19) (h6 : x19 = apart_1 (x3)) (h8 : x18 = spot_1 (x17)) (h9 : x17 = apartA_1 (x3)) (h12 : x16 = apartB_1 (x3)) (f14 : x9 < x15) (f15 : x15 = x12 + x14) (h16 : x14 = apart_1 (x3)) (h17 : x12 = spot_1 (x11)) (h18 : x11 = apartA_1 (x3)) (h19 : x9 = spot_1 (x8)) (h20 : x8 = apartB_1 (x3)) (g22 : x5 = apartMany_1) (f23 : RSB (pointMany_1) (costMany_1) (apartMany_1) (spot_1) (costA_1) (costB_1) (costW_1) (costPlain_1) (apartA_1) (apartB_1) (apart_1) (x2) (x4)) (f25 : 0 ≤ x2) (fe_0_79_1 : pointMany_0 = pointMany_1) (fe_0_80_1 : costMany_0 = costMany_1) (fe_0_81_1 : apartMany_0 = apartMany_1) (hE_0_82_1 : ∀ j : Int, 0 ≤ j → (j = x16 → spot_0 j = x20) ∧ (j ≠ x16 → spot_0 j = spot_1 j)) (hE_0_83_1 : ∀ j : Int, costA_0 j = costA_1 j) (hE_0_84_1 : ∀ j : Int, costB_0 j = costB_1 j) (hE_0_85_1 : ∀ j : Int, costW_0 j = costW_1 j) (hE_0_86_1 : ∀ j : Int, costPlain_0 j = costPlain_1 j) (hE_0_87_1 : ∀ j : Int, apartA_0 j = apartA_1 j) (hE_0_88_1 : ∀ j : Int, apartB_0 j = apartB_1 j) (hE_0_89_1 : ∀ j : Int, apart_0 j = apart_1 j) (kz_0_79 : 0 ≤ pointMany_0 ∧ pointMany_0 ≤ 76) (kz_0_80 : 0 ≤ costMany_0 ∧ costMany_0 ≤ 200) (kz_0_81 : 0 ≤ apartMany_0 ∧ apartMany_0 ≤ 200) : RSB (pointMany_0) (costMany_0) (apartMany_0) (spot_0) (costA_0) (costB_0) (costW_0) (costPlain_0) (apartA_0) (apartB_0) (apart_0) (x21) (x4) := by
  subst fe_0_79_1
  subst fe_0_80_1
  subst fe_0_81_1
  have e_hE_0_83_1 := funext hE_0_83_1; subst e_hE_0_83_1
  have e_hE_0_84_1 := funext hE_0_84_1; subst e_hE_0_84_1
  have e_hE_0_85_1 := funext hE_0_85_1; subst e_hE_0_85_1
  have e_hE_0_86_1 := funext hE_0_86_1; subst e_hE_0_86_1
  have e_hE_0_87_1 := funext hE_0_87_1; subst e_hE_0_87_1
  have e_hE_0_88_1 := funext hE_0_88_1; subst e_hE_0_88_1
  have e_hE_0_89_1 := funext hE_0_89_1; subst e_hE_0_89_1
  first
    | exact rsb_go (k := x3) (a := x17) (ya := x18) (d := x19) (b_zq := x8) (yb := x9) (a_zq := x11) (ya_zq := x12) (d_zq := x14) (v_zq := x15) (v := x20) (i := x16) ‹RSB _ _ _ _ _ _ _ _ _ _ _ _ _› (by omega) (by omega) (by assumption) (by assumption) (by assumption) (by assumption) (by assumption) (by assumption) (by assumption) (by assumption) (by assumption) (by assumption) (by assumption) (by omega) (by assumption) (by omega) (by omega)
set_option maxHeartbeats 4000000 in
theorem vc_Mo_rise_7_1 (x8 : Int) (x9 : Int) (x11 : Int) (x12 : Int) (x14 : Int) (x15 : Int) (x21 : Int) (x22 : Int) (apart_1 : Int → Int) (apartA_1 : Int → Int) (apartB_1 : Int → Int) (apartMany_1 : Int) (costA_1 : Int → Int) (costB_1 : Int → Int) (costW_1 : Int → Int) (costPlain_1 : Int → Int) (pointMany_1 : Int) (costMany_1 : Int) (pointMany_0 : Int) (costMany_0 : Int) (apartMany_0 : Int) (spot_0 : Int → Int) (costA_0 : Int → Int) (costB_0 : Int → Int) (costW_0 : Int → Int) (costPlain_0 : Int → Int) (apartA_0 : Int → Int) (apartB_0 : Int → Int) (apart_0 : Int → Int) (k21 : 1 ≤ x21 ∧ x21 ≤ 1) (k22 : 1 ≤ x22 ∧ x22 ≤ 200) (fe_0_79_1 : pointMany_0 = pointMany_1) (fe_0_80_1 : costMany_0 = costMany_1) (fe_0_81_1 : apartMany_0 = apartMany_1) (hE_0_83_1 : ∀ j : Int, costA_0 j = costA_1 j) (hE_0_84_1 : ∀ j : Int, costB_0 j = costB_1 j) (hE_0_85_1 : ∀ j : Int, costW_0 j = costW_1 j) (hE_0_86_1 : ∀ j : Int, costPlain_0 j = costPlain_1 j) (hE_0_87_1 : ∀ j : Int, apartA_0 j = apartA_1 j) (hE_0_88_1 : ∀ j : Int, apartB_0 j = apartB_1 j) (hE_0_89_1 : ∀ j : Int, apart_0 j = apart_1 j) (kz_0_79 : 0 ≤ pointMany_0 ∧ pointMany_0 ≤ 76) (kz_0_80 : 0 ≤ costMany_0 ∧ costMany_0 ≤ 200) (kz_0_81 : 0 ≤ apartMany_0 ∧ apartMany_0 ≤ 200) : RSK (spot_0) (apartA_0) (apartB_0) (apart_0) (x21) (x22) := by
  subst fe_0_79_1
  subst fe_0_80_1
  subst fe_0_81_1
  have e_hE_0_83_1 := funext hE_0_83_1; subst e_hE_0_83_1
  have e_hE_0_84_1 := funext hE_0_84_1; subst e_hE_0_84_1
  have e_hE_0_85_1 := funext hE_0_85_1; subst e_hE_0_85_1
  have e_hE_0_86_1 := funext hE_0_86_1; subst e_hE_0_86_1
  have e_hE_0_87_1 := funext hE_0_87_1; subst e_hE_0_87_1
  have e_hE_0_88_1 := funext hE_0_88_1; subst e_hE_0_88_1
  have e_hE_0_89_1 := funext hE_0_89_1; subst e_hE_0_89_1
  first
    | (intro _ j a b; exfalso; omega)
set_option maxHeartbeats 4000000 in
theorem vc_Mo_rise_7_2 (x21 : Int) (apart_1 : Int → Int) (apartA_1 : Int → Int) (apartB_1 : Int → Int) (apartMany_1 : Int) (costA_1 : Int → Int) (costB_1 : Int → Int) (costW_1 : Int → Int) (costPlain_1 : Int → Int) (pointMany_1 : Int) (costMany_1 : Int) (pointMany_0 : Int) (costMany_0 : Int) (apartMany_0 : Int) (costA_0 : Int → Int) (costB_0 : Int → Int) (costW_0 : Int → Int) (costPlain_0 : Int → Int) (apartA_0 : Int → Int) (apartB_0 : Int → Int) (apart_0 : Int → Int) (k21 : 1 ≤ x21 ∧ x21 ≤ 1) (fe_0_79_1 : pointMany_0 = pointMany_1) (fe_0_80_1 : costMany_0 = costMany_1) (fe_0_81_1 : apartMany_0 = apartMany_1) (hE_0_83_1 : ∀ j : Int, costA_0 j = costA_1 j) (hE_0_84_1 : ∀ j : Int, costB_0 j = costB_1 j) (hE_0_85_1 : ∀ j : Int, costW_0 j = costW_1 j) (hE_0_86_1 : ∀ j : Int, costPlain_0 j = costPlain_1 j) (hE_0_87_1 : ∀ j : Int, apartA_0 j = apartA_1 j) (hE_0_88_1 : ∀ j : Int, apartB_0 j = apartB_1 j) (hE_0_89_1 : ∀ j : Int, apart_0 j = apart_1 j) (kz_0_79 : 0 ≤ pointMany_0 ∧ pointMany_0 ≤ 76) (kz_0_80 : 0 ≤ costMany_0 ∧ costMany_0 ≤ 200) (kz_0_81 : 0 ≤ apartMany_0 ∧ apartMany_0 ≤ 200) : 0 ≤ x21 := by
  subst fe_0_79_1
  subst fe_0_80_1
  subst fe_0_81_1
  have e_hE_0_83_1 := funext hE_0_83_1; subst e_hE_0_83_1
  have e_hE_0_84_1 := funext hE_0_84_1; subst e_hE_0_84_1
  have e_hE_0_85_1 := funext hE_0_85_1; subst e_hE_0_85_1
  have e_hE_0_86_1 := funext hE_0_86_1; subst e_hE_0_86_1
  have e_hE_0_87_1 := funext hE_0_87_1; subst e_hE_0_87_1
  have e_hE_0_88_1 := funext hE_0_88_1; subst e_hE_0_88_1
  have e_hE_0_89_1 := funext hE_0_89_1; subst e_hE_0_89_1
  first
    | omega
def o_Mo_rise_7 : or_T := (33, 23, [(0, (2, 0, 0, [165])), (2, (0, 0, 1, [])), (3, (0, 0, 199, [])), (4, (0, -2, 1200001, [])), (5, (0, 1, 200, [])), (6, (2, 0, 0, [219])), (8, (0, 0, 75, [])), (9, (0, 0, 221100000, [])), (11, (0, 0, 75, [])), (12, (0, 0, 221100000, [])), (14, (0, 0, 202, [])), (15, (0, 1, 221100202, [])), (16, (0, 0, 75, [])), (17, (0, 0, 75, [])), (18, (0, 0, 221100000, [])), (19, (0, 0, 202, [])), (20, (0, 0, 221100000, [])), (21, (0, 1, 1, [])), (22, (0, 1, 200, []))], [(24, [0, 1], []), (100, [6, 16, 20], []), (1, [20, 18, 19], []), (10, [19, 13, 3], []), (9, [13, 1], [89]), (10, [18, 6, 17], []), (10, [17, 10, 3], []), (9, [10, 1], [87]), (9, [6, 1], [82]), (10, [16, 7, 3], []), (9, [7, 1], [88]), (7, [9, 15], [2]), (1, [15, 12, 14], []), (10, [14, 13, 3], []), (10, [12, 6, 11], []), (10, [11, 10, 3], []), (10, [9, 6, 8], []), (10, [8, 7, 3], []), (9, [5, 1], [81]), (20, [1, 2, 4], [60, 3, 8, 420, 79, 80, 81, 82, 83, 84, 85, 86, 87, 88, 89]), (20, [2], [50, 0, 0, 0, 2, 0, 0, 1, 0])], [], [], [(20, [1, 21, 4], [60, 3, 8, 420, 79, 80, 81, 82, 83, 84, 85, 86, 87, 88, 89]), (20, [1, 21, 22], [60, 0, 4, 421, 82, 87, 88, 89]), (20, [21], [50, 0, 0, 0, 2, 0, 0, 1, 0])], [], [(22, 3, 1, 1), (22, 5, -4294967296, 0), (20, 19, 0, 221100000), (20, 18, 0, 202), (3, 5, -4294967296, -1)])
theorem oo_Mo_rise_7 {kA : Nat → ClassId} : or_ok PRD kA GG o_Mo_rise_7 := by
  refine or_mk fun A ta ws vs hD hth hl => ?_
  intro t0 r0 t2 k2 t3 k3 t4 k4 t5 k5 t6 r6 t8 k8 t9 k9 t11 k11 t12 k12 t14 k14 t15 k15 t16 k16 t17 k17 t18 k18 t19 k19 t20 k20 t21 k21 t22 k22 d0 d1 d2 d3 d7 f3 ta1 w1 le1 s1 f5 f6 f7 f8 f9 f10 f11 f12 f13 f14 f15 f16 f17 f18 f19 f20 f22 f23 f25
  replace f3 := shm_5 f3
  have s1 : (∀ b j, w_el ws b j = if b = v_ad (n_v vs 6) ∧ j = (v_iv (n_v vs 16)).toNat then v_iv (n_v vs 20) else w_el w1 b j) ∧ ∀ b k, w_fd ws b k = w_fd w1 b k := s1.2
  replace f5 := shm_12 f5
  replace f6 := shm_107 f6
  replace f7 := shm_503 f7
  replace f8 := shm_107 f8
  replace f9 := shm_107 f9
  replace f10 := shm_498 f10
  replace f11 := shm_1165 f11
  replace f12 := shm_107 f12
  replace f13 := shm_504 f13
  replace f14 := shm_6 f14
  replace f15 := shm_12 f15
  replace f16 := shm_107 f16
  replace f17 := shm_107 f17
  replace f18 := shm_107 f18
  replace f19 := shm_107 f19
  replace f20 := shm_107 f20
  replace f22 := shm_497 f22
  replace f23 := shm_1241 f23
  replace f25 := shm_722 f25
  have q1 : n_v vs 1 = n_v vs 0 := f3.symm
  simp only [q1] at f7 f10 f11 f13 f22 f23
  have ar_0_82_1 : w_ar w1 (n_v vs 0) 82 = w_ar ws (n_v vs 0) 82 := congrArg v_ad (s1.2 _ _).symm
  have ar_0_83_1 : w_ar w1 (n_v vs 0) 83 = w_ar ws (n_v vs 0) 83 := congrArg v_ad (s1.2 _ _).symm
  have cr_0_83 := fdq_126 hD hth r0
  have ar_0_84_1 : w_ar w1 (n_v vs 0) 84 = w_ar ws (n_v vs 0) 84 := congrArg v_ad (s1.2 _ _).symm
  have cr_0_84 := fdq_127 hD hth r0
  have ar_0_85_1 : w_ar w1 (n_v vs 0) 85 = w_ar ws (n_v vs 0) 85 := congrArg v_ad (s1.2 _ _).symm
  have cr_0_85 := fdq_128 hD hth r0
  have ar_0_86_1 : w_ar w1 (n_v vs 0) 86 = w_ar ws (n_v vs 0) 86 := congrArg v_ad (s1.2 _ _).symm
  have cr_0_86 := fdq_129 hD hth r0
  have ar_0_87_1 : w_ar w1 (n_v vs 0) 87 = w_ar ws (n_v vs 0) 87 := congrArg v_ad (s1.2 _ _).symm
  have cr_0_87 := fdq_119 hD hth r0
  have ar_0_88_1 : w_ar w1 (n_v vs 0) 88 = w_ar ws (n_v vs 0) 88 := congrArg v_ad (s1.2 _ _).symm
  have cr_0_88 := fdq_120 hD hth r0
  have ar_0_89_1 : w_ar w1 (n_v vs 0) 89 = w_ar ws (n_v vs 0) 89 := congrArg v_ad (s1.2 _ _).symm
  have cr_0_89 := fdq_121 hD hth r0
  have ad_13 : v_ad (n_v vs 13) = w_ar ws (n_v vs 0) 89 := (congrArg v_ad f7).trans ar_0_89_1
  have ad_10 : v_ad (n_v vs 10) = w_ar ws (n_v vs 0) 87 := (congrArg v_ad f10).trans ar_0_87_1
  have ad_6 : v_ad (n_v vs 6) = w_ar ws (n_v vs 0) 82 := (congrArg v_ad f11).trans ar_0_82_1
  have ad_7 : v_ad (n_v vs 7) = w_ar ws (n_v vs 0) 88 := (congrArg v_ad f13).trans ar_0_88_1
  simp only [ad_13] at f6
  have h6 : v_iv (n_v vs 19) = w_ei w1 (w_ar ws (n_v vs 0) 89) (v_iv (n_v vs 3)) := f6
  simp only [ad_6] at f8
  have h8 : v_iv (n_v vs 18) = w_ei w1 (w_ar ws (n_v vs 0) 82) (v_iv (n_v vs 17)) := f8
  simp only [ad_10] at f9
  have h9 : v_iv (n_v vs 17) = w_ei w1 (w_ar ws (n_v vs 0) 87) (v_iv (n_v vs 3)) := f9
  simp only [ad_7] at f12
  have h12 : v_iv (n_v vs 16) = w_ei w1 (w_ar ws (n_v vs 0) 88) (v_iv (n_v vs 3)) := f12
  simp only [ad_13] at f16
  have h16 : v_iv (n_v vs 14) = w_ei w1 (w_ar ws (n_v vs 0) 89) (v_iv (n_v vs 3)) := f16
  simp only [ad_6] at f17
  have h17 : v_iv (n_v vs 12) = w_ei w1 (w_ar ws (n_v vs 0) 82) (v_iv (n_v vs 11)) := f17
  simp only [ad_10] at f18
  have h18 : v_iv (n_v vs 11) = w_ei w1 (w_ar ws (n_v vs 0) 87) (v_iv (n_v vs 3)) := f18
  simp only [ad_6] at f19
  have h19 : v_iv (n_v vs 9) = w_ei w1 (w_ar ws (n_v vs 0) 82) (v_iv (n_v vs 8)) := f19
  simp only [ad_7] at f20
  have h20 : v_iv (n_v vs 8) = w_ei w1 (w_ar ws (n_v vs 0) 88) (v_iv (n_v vs 3)) := f20
  have g22 : v_iv (n_v vs 5) = w_fi w1 (n_v vs 0) 81 := congrArg v_iv f22
  simp only [ar_0_82_1, ar_0_83_1, ar_0_84_1, ar_0_85_1, ar_0_86_1, ar_0_87_1, ar_0_88_1, ar_0_89_1] at f23
  have fe_0_79_1 : w_fi ws (n_v vs 0) 79 = w_fi w1 (n_v vs 0) 79 := congrArg v_iv (s1.2 _ _)
  have fe_0_80_1 : w_fi ws (n_v vs 0) 80 = w_fi w1 (n_v vs 0) 80 := congrArg v_iv (s1.2 _ _)
  have fe_0_81_1 : w_fi ws (n_v vs 0) 81 = w_fi w1 (n_v vs 0) 81 := congrArg v_iv (s1.2 _ _)
  have hE_0_82_1 : ∀ j : Int, 0 ≤ j → (j = v_iv (n_v vs 16) → w_ei ws (w_ar ws (n_v vs 0) 82) j = v_iv (n_v vs 20)) ∧ (j ≠ v_iv (n_v vs 16) → w_ei ws (w_ar ws (n_v vs 0) 82) j = w_ei w1 (w_ar ws (n_v vs 0) 82) j) := fun j hj => ⟨fun h => by unfold w_ei; rw [s1.1, if_pos ⟨ad_6.symm, by rw [h]⟩], fun h => by unfold w_ei; rw [s1.1, if_neg (fun e => h (by have := e.2; omega))]⟩
  have hE_0_83_1 : ∀ j : Int, w_ei ws (w_ar ws (n_v vs 0) 83) j = w_ei w1 (w_ar ws (n_v vs 0) 83) j := el_kp s1.1 r6 cr_0_83 (by decide)
  have hE_0_84_1 : ∀ j : Int, w_ei ws (w_ar ws (n_v vs 0) 84) j = w_ei w1 (w_ar ws (n_v vs 0) 84) j := el_kp s1.1 r6 cr_0_84 (by decide)
  have hE_0_85_1 : ∀ j : Int, w_ei ws (w_ar ws (n_v vs 0) 85) j = w_ei w1 (w_ar ws (n_v vs 0) 85) j := el_kp s1.1 r6 cr_0_85 (by decide)
  have hE_0_86_1 : ∀ j : Int, w_ei ws (w_ar ws (n_v vs 0) 86) j = w_ei w1 (w_ar ws (n_v vs 0) 86) j := el_kp s1.1 r6 cr_0_86 (by decide)
  have hE_0_87_1 : ∀ j : Int, w_ei ws (w_ar ws (n_v vs 0) 87) j = w_ei w1 (w_ar ws (n_v vs 0) 87) j := el_kp s1.1 r6 cr_0_87 (by decide)
  have hE_0_88_1 : ∀ j : Int, w_ei ws (w_ar ws (n_v vs 0) 88) j = w_ei w1 (w_ar ws (n_v vs 0) 88) j := el_kp s1.1 r6 cr_0_88 (by decide)
  have hE_0_89_1 : ∀ j : Int, w_ei ws (w_ar ws (n_v vs 0) 89) j = w_ei w1 (w_ar ws (n_v vs 0) 89) j := el_kp s1.1 r6 cr_0_89 (by decide)
  have kz_0_79 := fdq_147 hD hth r0
  have kz_0_80 := fdq_131 hD hth r0
  have kz_0_81 := fdq_124 hD hth r0
  have nf0 : fc_1 PRD (20, [1, 21, 4], [60, 3, 8, 420, 79, 80, 81, 82, 83, 84, 85, 86, 87, 88, 89]) ws (vs) := by
    refine ⟨nf_in hl rfl, sgq_1241 ?_⟩
    · show RSB (w_fi ws (n_v vs 1) 79) (w_fi ws (n_v vs 1) 80) (w_fi ws (n_v vs 1) 81) (w_ei ws (w_ar ws (n_v vs 1) 82)) (w_ei ws (w_ar ws (n_v vs 1) 83)) (w_ei ws (w_ar ws (n_v vs 1) 84)) (w_ei ws (w_ar ws (n_v vs 1) 85)) (w_ei ws (w_ar ws (n_v vs 1) 86)) (w_ei ws (w_ar ws (n_v vs 1) 87)) (w_ei ws (w_ar ws (n_v vs 1) 88)) (w_ei ws (w_ar ws (n_v vs 1) 89)) (v_iv (n_v vs 21)) (v_iv (n_v vs 4))
      rw [q1]
      exact vc_Mo_rise_7_0 (v_iv (n_v vs 2)) (v_iv (n_v vs 3)) (v_iv (n_v vs 4)) (v_iv (n_v vs 5)) (v_iv (n_v vs 8)) (v_iv (n_v vs 9)) (v_iv (n_v vs 11)) (v_iv (n_v vs 12)) (v_iv (n_v vs 14)) (v_iv (n_v vs 15)) (v_iv (n_v vs 16)) (v_iv (n_v vs 17)) (v_iv (n_v vs 18)) (v_iv (n_v vs 19)) (v_iv (n_v vs 20)) (v_iv (n_v vs 21)) (v_iv (n_v vs 22)) (w_ei w1 (w_ar ws (n_v vs 0) 89)) (w_ei w1 (w_ar ws (n_v vs 0) 82)) (w_ei w1 (w_ar ws (n_v vs 0) 87)) (w_ei w1 (w_ar ws (n_v vs 0) 88)) (w_fi w1 (n_v vs 0) 81) (w_ei w1 (w_ar ws (n_v vs 0) 83)) (w_ei w1 (w_ar ws (n_v vs 0) 84)) (w_ei w1 (w_ar ws (n_v vs 0) 85)) (w_ei w1 (w_ar ws (n_v vs 0) 86)) (w_fi w1 (n_v vs 0) 79) (w_fi w1 (n_v vs 0) 80) (w_fi ws (n_v vs 0) 79) (w_fi ws (n_v vs 0) 80) (w_fi ws (n_v vs 0) 81) (w_ei ws (w_ar ws (n_v vs 0) 82)) (w_ei ws (w_ar ws (n_v vs 0) 83)) (w_ei ws (w_ar ws (n_v vs 0) 84)) (w_ei ws (w_ar ws (n_v vs 0) 85)) (w_ei ws (w_ar ws (n_v vs 0) 86)) (w_ei ws (w_ar ws (n_v vs 0) 87)) (w_ei ws (w_ar ws (n_v vs 0) 88)) (w_ei ws (w_ar ws (n_v vs 0) 89)) k2 k3 k4 k5 k8 k9 k11 k12 k14 k15 k16 k17 k18 k19 k20 k21 k22 d0 d1 d7 f5 h6 h8 h9 h12 f14 f15 h16 h17 h18 h19 h20 g22 f23 f25 fe_0_79_1 fe_0_80_1 fe_0_81_1 hE_0_82_1 hE_0_83_1 hE_0_84_1 hE_0_85_1 hE_0_86_1 hE_0_87_1 hE_0_88_1 hE_0_89_1 kz_0_79 kz_0_80 kz_0_81
  have nf1 : fc_1 PRD (20, [1, 21, 22], [60, 0, 4, 421, 82, 87, 88, 89]) ws (vs) := by
    refine ⟨nf_in hl rfl, sgq_1242 ?_⟩
    · show RSK (w_ei ws (w_ar ws (n_v vs 1) 82)) (w_ei ws (w_ar ws (n_v vs 1) 87)) (w_ei ws (w_ar ws (n_v vs 1) 88)) (w_ei ws (w_ar ws (n_v vs 1) 89)) (v_iv (n_v vs 21)) (v_iv (n_v vs 22))
      rw [q1]
      exact vc_Mo_rise_7_1 (v_iv (n_v vs 8)) (v_iv (n_v vs 9)) (v_iv (n_v vs 11)) (v_iv (n_v vs 12)) (v_iv (n_v vs 14)) (v_iv (n_v vs 15)) (v_iv (n_v vs 21)) (v_iv (n_v vs 22)) (w_ei w1 (w_ar ws (n_v vs 0) 89)) (w_ei w1 (w_ar ws (n_v vs 0) 87)) (w_ei w1 (w_ar ws (n_v vs 0) 88)) (w_fi w1 (n_v vs 0) 81) (w_ei w1 (w_ar ws (n_v vs 0) 83)) (w_ei w1 (w_ar ws (n_v vs 0) 84)) (w_ei w1 (w_ar ws (n_v vs 0) 85)) (w_ei w1 (w_ar ws (n_v vs 0) 86)) (w_fi w1 (n_v vs 0) 79) (w_fi w1 (n_v vs 0) 80) (w_fi ws (n_v vs 0) 79) (w_fi ws (n_v vs 0) 80) (w_fi ws (n_v vs 0) 81) (w_ei ws (w_ar ws (n_v vs 0) 82)) (w_ei ws (w_ar ws (n_v vs 0) 83)) (w_ei ws (w_ar ws (n_v vs 0) 84)) (w_ei ws (w_ar ws (n_v vs 0) 85)) (w_ei ws (w_ar ws (n_v vs 0) 86)) (w_ei ws (w_ar ws (n_v vs 0) 87)) (w_ei ws (w_ar ws (n_v vs 0) 88)) (w_ei ws (w_ar ws (n_v vs 0) 89)) k21 k22 fe_0_79_1 fe_0_80_1 fe_0_81_1 hE_0_83_1 hE_0_84_1 hE_0_85_1 hE_0_86_1 hE_0_87_1 hE_0_88_1 hE_0_89_1 kz_0_79 kz_0_80 kz_0_81
  have nf2 : fc_1 PRD (20, [21], [50, 0, 0, 0, 2, 0, 0, 1, 0]) ws (vs) := ⟨nf_in hl rfl, sgq_722 (vc_Mo_rise_7_2 (v_iv (n_v vs 21)) (w_ei w1 (w_ar ws (n_v vs 0) 89)) (w_ei w1 (w_ar ws (n_v vs 0) 87)) (w_ei w1 (w_ar ws (n_v vs 0) 88)) (w_fi w1 (n_v vs 0) 81) (w_ei w1 (w_ar ws (n_v vs 0) 83)) (w_ei w1 (w_ar ws (n_v vs 0) 84)) (w_ei w1 (w_ar ws (n_v vs 0) 85)) (w_ei w1 (w_ar ws (n_v vs 0) 86)) (w_fi w1 (n_v vs 0) 79) (w_fi w1 (n_v vs 0) 80) (w_fi ws (n_v vs 0) 79) (w_fi ws (n_v vs 0) 80) (w_fi ws (n_v vs 0) 81) (w_ei ws (w_ar ws (n_v vs 0) 83)) (w_ei ws (w_ar ws (n_v vs 0) 84)) (w_ei ws (w_ar ws (n_v vs 0) 85)) (w_ei ws (w_ar ws (n_v vs 0) 86)) (w_ei ws (w_ar ws (n_v vs 0) 87)) (w_ei ws (w_ar ws (n_v vs 0) 88)) (w_ei ws (w_ar ws (n_v vs 0) 89)) k21 fe_0_79_1 fe_0_80_1 fe_0_81_1 hE_0_83_1 hE_0_84_1 hE_0_85_1 hE_0_86_1 hE_0_87_1 hE_0_88_1 hE_0_89_1 kz_0_79 kz_0_80 kz_0_81)⟩
  refine ⟨(fun _ h => (by cases h)), [], trivial, ?_, (fun _ h => (by cases h))⟩
  rw [List.append_nil]
  exact List.forall_mem_cons.mpr ⟨⟨show (20 : Nat) < 100 from by decide, nf0⟩, List.forall_mem_cons.mpr ⟨⟨show (20 : Nat) < 100 from by decide, nf1⟩, List.forall_mem_cons.mpr ⟨⟨show (20 : Nat) < 100 from by decide, nf2⟩, (fun _ h => (by cases h))⟩⟩⟩
set_option maxHeartbeats 4000000 in
theorem vc_Mo_rise_8_0 (x2 : Int) (x3 : Int) (x8 : Int) (x9 : Int) (x11 : Int) (x12 : Int) (x14 : Int) (x15 : Int) (x16 : Int) (apart_0 : Int → Int) (spot_0 : Int → Int) (apartA_0 : Int → Int) (apartB_0 : Int → Int) (k2 : 0 ≤ x2 ∧ x2 ≤ 1) (k3 : 0 ≤ x3 ∧ x3 ≤ 199) (k8 : 0 ≤ x8 ∧ x8 ≤ 75) (k9 : 0 ≤ x9 ∧ x9 ≤ 221100000) (k11 : 0 ≤ x11 ∧ x11 ≤ 75) (k12 : 0 ≤ x12 ∧ x12 ≤ 221100000) (k14 : 0 ≤ x14 ∧ x14 ≤ 202) (k15 : 0 ≤ x15 ∧ x15 ≤ 221100000) (k16 : 1 ≤ x16 ∧ x16 ≤ 200) (f0 : x16 = x3 + 1) (f1 : x15 ≤ x9) (f2 : x15 = x12 + x14) (h3 : x14 = apart_0 (x3)) (h5 : x12 = spot_0 (x11)) (h6 : x11 = apartA_0 (x3)) (h9 : x9 = spot_0 (x8)) (h10 : x8 = apartB_0 (x3)) (f15 : RSK (spot_0) (apartA_0) (apartB_0) (apart_0) (x2) (x3)) : RSK (spot_0) (apartA_0) (apartB_0) (apart_0) (x2) (x16) := by
  first
    | exact rsk_next (a := x11) (ya := x12) (b := x8) (yb := x9) (d := x14) (v := x15) ‹RSK _ _ _ _ _ _› (by assumption) (by assumption) (by assumption) (by assumption) (by assumption) (by assumption) (by assumption) (by assumption)
def o_Mo_rise_8 : or_T := (33, 17, [(2, (0, 0, 1, [])), (3, (0, 0, 199, [])), (8, (0, 0, 75, [])), (9, (0, 0, 221100000, [])), (11, (0, 0, 75, [])), (12, (0, 0, 221100000, [])), (14, (0, 0, 202, [])), (15, (0, 0, 221100000, [])), (16, (0, 1, 200, []))], [(6, [16, 3], [1]), (7, [9, 15], [3]), (1, [15, 12, 14], []), (10, [14, 13, 3], []), (9, [13, 1], [89]), (10, [12, 6, 11], []), (10, [11, 10, 3], []), (9, [10, 1], [87]), (9, [6, 1], [82]), (10, [9, 6, 8], []), (10, [8, 7, 3], []), (9, [7, 1], [88]), (20, [1, 2, 3], [60, 0, 4, 421, 82, 87, 88, 89]), (24, [0, 1], [])], [], [], [(20, [1, 2, 16], [60, 0, 4, 421, 82, 87, 88, 89])], [], [])
theorem oo_Mo_rise_8 {kA : Nat → ClassId} : or_ok PRD kA GG o_Mo_rise_8 := by
  refine or_mk fun A ta ws vs hD hth hl => ?_
  intro t2 k2 t3 k3 t8 k8 t9 k9 t11 k11 t12 k12 t14 k14 t15 k15 t16 k16 f0 f1 f2 f3 f4 f5 f6 f7 f8 f9 f10 f11 f15 f18
  replace f0 := shm_4 f0
  replace f1 := shm_2 f1
  replace f2 := shm_12 f2
  replace f3 := shm_107 f3
  replace f4 := shm_503 f4
  replace f5 := shm_107 f5
  replace f6 := shm_107 f6
  replace f7 := shm_498 f7
  replace f8 := shm_1165 f8
  replace f9 := shm_107 f9
  replace f10 := shm_107 f10
  replace f11 := shm_504 f11
  replace f15 := shm_1242 f15
  replace f18 := shm_5 f18
  have q1 : n_v vs 1 = n_v vs 0 := f18.symm
  simp only [q1] at f4 f7 f8 f11 f15
  have ad_13 : v_ad (n_v vs 13) = w_ar ws (n_v vs 0) 89 := congrArg v_ad f4
  have ad_10 : v_ad (n_v vs 10) = w_ar ws (n_v vs 0) 87 := congrArg v_ad f7
  have ad_6 : v_ad (n_v vs 6) = w_ar ws (n_v vs 0) 82 := congrArg v_ad f8
  have ad_7 : v_ad (n_v vs 7) = w_ar ws (n_v vs 0) 88 := congrArg v_ad f11
  simp only [ad_13] at f3
  have h3 : v_iv (n_v vs 14) = w_ei ws (w_ar ws (n_v vs 0) 89) (v_iv (n_v vs 3)) := f3
  simp only [ad_6] at f5
  have h5 : v_iv (n_v vs 12) = w_ei ws (w_ar ws (n_v vs 0) 82) (v_iv (n_v vs 11)) := f5
  simp only [ad_10] at f6
  have h6 : v_iv (n_v vs 11) = w_ei ws (w_ar ws (n_v vs 0) 87) (v_iv (n_v vs 3)) := f6
  simp only [ad_6] at f9
  have h9 : v_iv (n_v vs 9) = w_ei ws (w_ar ws (n_v vs 0) 82) (v_iv (n_v vs 8)) := f9
  simp only [ad_7] at f10
  have h10 : v_iv (n_v vs 8) = w_ei ws (w_ar ws (n_v vs 0) 88) (v_iv (n_v vs 3)) := f10
  have nf0 : fc_1 PRD (20, [1, 2, 16], [60, 0, 4, 421, 82, 87, 88, 89]) ws (vs) := by
    refine ⟨nf_in hl rfl, sgq_1242 ?_⟩
    · show RSK (w_ei ws (w_ar ws (n_v vs 1) 82)) (w_ei ws (w_ar ws (n_v vs 1) 87)) (w_ei ws (w_ar ws (n_v vs 1) 88)) (w_ei ws (w_ar ws (n_v vs 1) 89)) (v_iv (n_v vs 2)) (v_iv (n_v vs 16))
      rw [q1]
      exact vc_Mo_rise_8_0 (v_iv (n_v vs 2)) (v_iv (n_v vs 3)) (v_iv (n_v vs 8)) (v_iv (n_v vs 9)) (v_iv (n_v vs 11)) (v_iv (n_v vs 12)) (v_iv (n_v vs 14)) (v_iv (n_v vs 15)) (v_iv (n_v vs 16)) (w_ei ws (w_ar ws (n_v vs 0) 89)) (w_ei ws (w_ar ws (n_v vs 0) 82)) (w_ei ws (w_ar ws (n_v vs 0) 87)) (w_ei ws (w_ar ws (n_v vs 0) 88)) k2 k3 k8 k9 k11 k12 k14 k15 k16 f0 f1 f2 h3 h5 h6 h9 h10 f15
  refine ⟨(fun _ h => (by cases h)), [], trivial, ?_, (fun _ h => (by cases h))⟩
  rw [List.append_nil]
  exact List.forall_mem_cons.mpr ⟨⟨show (20 : Nat) < 100 from by decide, nf0⟩, (fun _ h => (by cases h))⟩
set_option maxHeartbeats 4000000 in
theorem vc_Mo_rise_9_0 (x3 : Int) (spot_0 : Int → Int) (costA_0 : Int → Int) (costB_0 : Int → Int) (costW_0 : Int → Int) (costPlain_0 : Int → Int) (apartA_0 : Int → Int) (apartB_0 : Int → Int) (apart_0 : Int → Int) (pointMany_0 : Int) (costMany_0 : Int) (apartMany_0 : Int) (k3 : (-2) ≤ x3 ∧ x3 ≤ 221100001) (f0 : RII (pointMany_0) (costMany_0) (apartMany_0) (spot_0) (costA_0) (costB_0) (costW_0) (costPlain_0) (apartA_0) (apartB_0) (apart_0) (x3)) (kz_0_79 : 0 ≤ pointMany_0 ∧ pointMany_0 ≤ 76) (kz_0_80 : 0 ≤ costMany_0 ∧ costMany_0 ≤ 200) (kz_0_81 : 0 ≤ apartMany_0 ∧ apartMany_0 ≤ 200) : PBK (pointMany_0) (costMany_0) (apartMany_0) (costA_0) (costB_0) (costW_0) (costPlain_0) (apartA_0) (apartB_0) (apart_0) := by
  exact ‹RII _ _ _ _ _ _ _ _ _ _ _ _›.1.1
def o_Mo_rise_9 : or_T := (117, 4, [(0, (2, 0, 0, [165])), (3, (0, -2, 221100001, []))], [(20, [1, 3], [60, 3, 8, 423, 79, 80, 81, 82, 83, 84, 85, 86, 87, 88, 89]), (24, [0, 1], [])], [], [], [(20, [1], [60, 3, 7, 395, 79, 80, 81, 83, 84, 85, 86, 87, 88, 89])], [], [])
theorem oo_Mo_rise_9 {kA : Nat → ClassId} : or_ok PRD kA GG o_Mo_rise_9 := by
  refine or_mk fun A ta ws vs hD hth hl => ?_
  intro t0 r0 t3 k3 f0 f1
  replace f0 := shm_1240 f0
  replace f1 := shm_5 f1
  have q1 : n_v vs 1 = n_v vs 0 := f1.symm
  simp only [q1] at f0
  have kz_0_79 := fdq_147 hD hth r0
  have kz_0_80 := fdq_131 hD hth r0
  have kz_0_81 := fdq_124 hD hth r0
  have nf0 : fc_1 PRD (20, [1], [60, 3, 7, 395, 79, 80, 81, 83, 84, 85, 86, 87, 88, 89]) ws (vs) := by
    refine ⟨nf_in hl rfl, sgq_1156 ?_⟩
    · show PBK (w_fi ws (n_v vs 1) 79) (w_fi ws (n_v vs 1) 80) (w_fi ws (n_v vs 1) 81) (w_ei ws (w_ar ws (n_v vs 1) 83)) (w_ei ws (w_ar ws (n_v vs 1) 84)) (w_ei ws (w_ar ws (n_v vs 1) 85)) (w_ei ws (w_ar ws (n_v vs 1) 86)) (w_ei ws (w_ar ws (n_v vs 1) 87)) (w_ei ws (w_ar ws (n_v vs 1) 88)) (w_ei ws (w_ar ws (n_v vs 1) 89))
      rw [q1]
      exact vc_Mo_rise_9_0 (v_iv (n_v vs 3)) (w_ei ws (w_ar ws (n_v vs 0) 82)) (w_ei ws (w_ar ws (n_v vs 0) 83)) (w_ei ws (w_ar ws (n_v vs 0) 84)) (w_ei ws (w_ar ws (n_v vs 0) 85)) (w_ei ws (w_ar ws (n_v vs 0) 86)) (w_ei ws (w_ar ws (n_v vs 0) 87)) (w_ei ws (w_ar ws (n_v vs 0) 88)) (w_ei ws (w_ar ws (n_v vs 0) 89)) (w_fi ws (n_v vs 0) 79) (w_fi ws (n_v vs 0) 80) (w_fi ws (n_v vs 0) 81) k3 f0 kz_0_79 kz_0_80 kz_0_81
  refine ⟨(fun _ h => (by cases h)), [], trivial, ?_, (fun _ h => (by cases h))⟩
  rw [List.append_nil]
  exact List.forall_mem_cons.mpr ⟨⟨show (20 : Nat) < 100 from by decide, nf0⟩, (fun _ h => (by cases h))⟩
set_option maxHeartbeats 4000000 in
theorem vc_Mo_rise_10_0 (x3 : Int) (costA_0 : Int → Int) (costB_0 : Int → Int) (costW_0 : Int → Int) (costPlain_0 : Int → Int) (apartA_0 : Int → Int) (apartB_0 : Int → Int) (apart_0 : Int → Int) (pointMany_0 : Int) (costMany_0 : Int) (apartMany_0 : Int) (spot_0 : Int → Int) (k3 : (-2) ≤ x3 ∧ x3 ≤ 221100001) (f2 : RII (pointMany_0) (costMany_0) (apartMany_0) (spot_0) (costA_0) (costB_0) (costW_0) (costPlain_0) (apartA_0) (apartB_0) (apart_0) (x3)) (kz_0_79 : 0 ≤ pointMany_0 ∧ pointMany_0 ≤ 76) (kz_0_80 : 0 ≤ costMany_0 ∧ costMany_0 ≤ 200) (kz_0_81 : 0 ≤ apartMany_0 ∧ apartMany_0 ≤ 200) : RIP (pointMany_0) (costMany_0) (apartMany_0) (spot_0) (costA_0) (costB_0) (costW_0) (costPlain_0) (apartA_0) (apartB_0) (apart_0) := by
  have h := ‹RII _ _ _ _ _ _ _ _ _ _ _ _›
  exact ⟨h.1, h.2.1, h.2.2.1, h.2.2.2.1, by have := h.2.2.2.2.1; omega, h.2.2.2.2.2⟩
def o_Mo_rise_10 : or_T := (362, 5, [(0, (2, 0, 0, [165])), (3, (0, -2, 221100001, []))], [(20, [1, 3], [60, 3, 8, 423, 79, 80, 81, 82, 83, 84, 85, 86, 87, 88, 89]), (24, [0, 1], [])], [], [], [(20, [0], [60, 3, 8, 424, 79, 80, 81, 82, 83, 84, 85, 86, 87, 88, 89])], [], [])
theorem oo_Mo_rise_10 {kA : Nat → ClassId} : or_ok PRD kA GG o_Mo_rise_10 := by
  refine or_mk fun A ta ws vs hD hth hl => ?_
  intro t0 r0 t3 k3 f2 f3
  replace f2 := shm_1240 f2
  replace f3 := shm_5 f3
  have q1 : n_v vs 1 = n_v vs 0 := f3.symm
  simp only [q1] at f2
  have kz_0_79 := fdq_147 hD hth r0
  have kz_0_80 := fdq_131 hD hth r0
  have kz_0_81 := fdq_124 hD hth r0
  have nf0 : fc_1 PRD (20, [0], [60, 3, 8, 424, 79, 80, 81, 82, 83, 84, 85, 86, 87, 88, 89]) ws (vs) := ⟨nf_in hl rfl, sgq_1243 (vc_Mo_rise_10_0 (v_iv (n_v vs 3)) (w_ei ws (w_ar ws (n_v vs 0) 83)) (w_ei ws (w_ar ws (n_v vs 0) 84)) (w_ei ws (w_ar ws (n_v vs 0) 85)) (w_ei ws (w_ar ws (n_v vs 0) 86)) (w_ei ws (w_ar ws (n_v vs 0) 87)) (w_ei ws (w_ar ws (n_v vs 0) 88)) (w_ei ws (w_ar ws (n_v vs 0) 89)) (w_fi ws (n_v vs 0) 79) (w_fi ws (n_v vs 0) 80) (w_fi ws (n_v vs 0) 81) (w_ei ws (w_ar ws (n_v vs 0) 82)) k3 f2 kz_0_79 kz_0_80 kz_0_81)⟩
  refine ⟨(fun _ h => (by cases h)), [], trivial, ?_, (fun _ h => (by cases h))⟩
  rw [List.append_nil]
  exact List.forall_mem_cons.mpr ⟨⟨show (20 : Nat) < 100 from by decide, nf0⟩, (fun _ h => (by cases h))⟩
set_option maxHeartbeats 4000000 in
theorem vc_Mo_rise_11_0 (x3 : Int) (costA_0 : Int → Int) (costB_0 : Int → Int) (costW_0 : Int → Int) (costPlain_0 : Int → Int) (apartA_0 : Int → Int) (apartB_0 : Int → Int) (apart_0 : Int → Int) (pointMany_0 : Int) (costMany_0 : Int) (apartMany_0 : Int) (spot_0 : Int → Int) (gx : Int) (k3 : (-2) ≤ x3 ∧ x3 ≤ 221100001) (f2 : RII (pointMany_0) (costMany_0) (apartMany_0) (spot_0) (costA_0) (costB_0) (costW_0) (costPlain_0) (apartA_0) (apartB_0) (apart_0) (x3)) (kz_0_79 : 0 ≤ pointMany_0 ∧ pointMany_0 ≤ 76) (kz_0_80 : 0 ≤ costMany_0 ∧ costMany_0 ≤ 200) (kz_0_81 : 0 ≤ apartMany_0 ∧ apartMany_0 ≤ 200) (ex2 : gx = 0 + (1 * x3 + 0)) : RII (pointMany_0) (costMany_0) (apartMany_0) (spot_0) (costA_0) (costB_0) (costW_0) (costPlain_0) (apartA_0) (apartB_0) (apart_0) (gx) := by
  first
    | assumption
    | (rw [show gx = x3 by omega]; assumption)
set_option maxHeartbeats 4000000 in
theorem vc_Mo_rise_11_1 (x4 : Int) (costA_0 : Int → Int) (costB_0 : Int → Int) (costW_0 : Int → Int) (costPlain_0 : Int → Int) (apartA_0 : Int → Int) (apartB_0 : Int → Int) (apart_0 : Int → Int) (pointMany_0 : Int) (costMany_0 : Int) (apartMany_0 : Int) (spot_0 : Int → Int) (goes_0 : Int → Int) (k4 : 1 ≤ x4 ∧ x4 ≤ 79) (f0 : 0 < x4) (f4 : UPP (pointMany_0) (costMany_0) (apartMany_0) (goes_0) (spot_0) (costA_0) (costB_0) (costW_0) (costPlain_0) (apartA_0) (apartB_0) (apart_0) (x4)) (kz_0_79 : 0 ≤ pointMany_0 ∧ pointMany_0 ≤ 76) (kz_0_80 : 0 ≤ costMany_0 ∧ costMany_0 ≤ 200) (kz_0_81 : 0 ≤ apartMany_0 ∧ apartMany_0 ≤ 200) : UPQ (pointMany_0) (costMany_0) (apartMany_0) (goes_0) (spot_0) (costA_0) (costB_0) (costW_0) (costPlain_0) (apartA_0) (apartB_0) (apart_0) := by
  first
    | exact upq_of ‹UPP _ _ _ _ _ _ _ _ _ _ _ _ _› (by omega)
set_option maxHeartbeats 4000000 in
theorem vc_Mo_rise_11_2 (x5 : Int) (x6 : Int) (costA_0 : Int → Int) (costB_0 : Int → Int) (costPlain_0 : Int → Int) (spot_0 : Int → Int) (goes_0 : Int → Int) (k5 : 1000000 ≤ x5 ∧ x5 ≤ 1000000) (k6 : 0 ≤ x6 ∧ x6 ≤ 0) : RD1 (spot_0) (goes_0) (costA_0) (costB_0) (costPlain_0) (x5) (x6) := by
  first
    | exact rd1_start (by omega) (by omega)
set_option maxHeartbeats 4000000 in
theorem vc_Mo_rise_11_3 (x3 : Int) (x4 : Int) (costA_0 : Int → Int) (costB_0 : Int → Int) (costW_0 : Int → Int) (costPlain_0 : Int → Int) (apartA_0 : Int → Int) (apartB_0 : Int → Int) (apart_0 : Int → Int) (pointMany_0 : Int) (costMany_0 : Int) (apartMany_0 : Int) (spot_0 : Int → Int) (goes_0 : Int → Int) (gx : Int) (k3 : (-2) ≤ x3 ∧ x3 ≤ 221100001) (k4 : 1 ≤ x4 ∧ x4 ≤ 79) (f0 : 0 < x4) (f2 : RII (pointMany_0) (costMany_0) (apartMany_0) (spot_0) (costA_0) (costB_0) (costW_0) (costPlain_0) (apartA_0) (apartB_0) (apart_0) (x3)) (f4 : UPP (pointMany_0) (costMany_0) (apartMany_0) (goes_0) (spot_0) (costA_0) (costB_0) (costW_0) (costPlain_0) (apartA_0) (apartB_0) (apart_0) (x4)) (kz_0_79 : 0 ≤ pointMany_0 ∧ pointMany_0 ≤ 76) (kz_0_80 : 0 ≤ costMany_0 ∧ costMany_0 ≤ 200) (kz_0_81 : 0 ≤ apartMany_0 ∧ apartMany_0 ≤ 200) (ex2 : gx = 0 + (1 * x3 + 0)) : (-1) * gx + 0 ≤ (-1) := by
  first
    | (have h := rii_one ‹RII _ _ _ _ _ _ _ _ _ _ _ _› ‹UPP _ _ _ _ _ _ _ _ _ _ _ _ _› (by omega); omega)
def o_Mo_rise_11 : or_T := (129, 7, [(0, (2, 0, 0, [165])), (1, (2, 0, 0, [165])), (3, (0, -2, 221100001, [])), (4, (0, 1, 79, [])), (5, (0, 1000000, 1000000, [])), (6, (0, 0, 0, []))], [(8, [4], [4]), (20, [1], [60, 3, 7, 395, 79, 80, 81, 83, 84, 85, 86, 87, 88, 89]), (20, [1, 3], [60, 3, 8, 423, 79, 80, 81, 82, 83, 84, 85, 86, 87, 88, 89]), (24, [0, 1], []), (20, [1, 4], [60, 3, 9, 417, 79, 80, 81, 93, 82, 83, 84, 85, 86, 87, 88, 89])], [], [(0, -2, 221100001, [])], [(20, [1, 7], [60, 3, 8, 423, 79, 80, 81, 82, 83, 84, 85, 86, 87, 88, 89]), (20, [1], [60, 3, 9, 418, 79, 80, 81, 93, 82, 83, 84, 85, 86, 87, 88, 89]), (20, [1, 5, 6], [60, 0, 5, 425, 82, 93, 83, 84, 86]), (23, [7], [-1, -1]), (24, [0, 1], [])], [(7, 3, 0, 0)], [])
theorem oo_Mo_rise_11 {kA : Nat → ClassId} : or_ok PRD kA GG o_Mo_rise_11 := by
  refine or_mk fun A ta ws vs hD hth hl => ?_
  intro t0 r0 t1 r1 t3 k3 t4 k4 t5 k5 t6 k6 f0 f1 f2 f3 f4
  replace f0 := shm_308 f0
  replace f1 := shm_1156 f1
  replace f2 := shm_1240 f2
  replace f3 := shm_5 f3
  replace f4 := shm_1171 f4
  have q1 : n_v vs 1 = n_v vs 0 := f3.symm
  simp only [q1] at f1 f2 f4
  have cr_0_82 := fdq_230 hD hth r0
  have cr_0_83 := fdq_126 hD hth r0
  have cr_0_84 := fdq_127 hD hth r0
  have cr_0_85 := fdq_128 hD hth r0
  have cr_0_86 := fdq_129 hD hth r0
  have cr_0_87 := fdq_119 hD hth r0
  have cr_0_88 := fdq_120 hD hth r0
  have cr_0_89 := fdq_121 hD hth r0
  have cr_0_93 := fdq_276 hD hth r0
  have hK_0_82 := elq_143 hD hth cr_0_82
  have hK_0_83 := elq_67 hD hth cr_0_83
  have hK_0_84 := elq_68 hD hth cr_0_84
  have hK_0_85 := elq_69 hD hth cr_0_85
  have hK_0_86 := elq_70 hD hth cr_0_86
  have hK_0_87 := elq_62 hD hth cr_0_87
  have hK_0_88 := elq_63 hD hth cr_0_88
  have hK_0_89 := elq_64 hD hth cr_0_89
  have hK_0_93 := elq_174 hD hth cr_0_93
  have kz_0_79 := fdq_147 hD hth r0
  have kz_0_80 := fdq_131 hD hth r0
  have kz_0_81 := fdq_124 hD hth r0
  obtain ⟨x, ex, hx⟩ := iv_ex (ta := ta) (lo := (-2)) (hi := 221100001) (z := 0 + (1 * v_iv (n_v vs 3) + 0)) (by omega) (by omega) (by omega) (by omega)
  have ex2 : v_iv (Value.int x) = 0 + (1 * v_iv (n_v vs 3) + 0) := ex
  have ex3 : (-2) ≤ v_iv (Value.int x) ∧ v_iv (Value.int x) ≤ 221100001 := tv_rng hx
  have e_0 : n_v (vs ++ [Value.int x]) 0 = n_v vs 0 := n_v_old (by rw [hl]; decide)
  have e_1 : n_v (vs ++ [Value.int x]) 1 = n_v vs 1 := n_v_old (by rw [hl]; decide)
  have e_5 : n_v (vs ++ [Value.int x]) 5 = n_v vs 5 := n_v_old (by rw [hl]; decide)
  have e_6 : n_v (vs ++ [Value.int x]) 6 = n_v vs 6 := n_v_old (by rw [hl]; decide)
  have e_7 : n_v (vs ++ [Value.int x]) 7 = Value.int x := n_v_new hl
  have nf0 : fc_1 PRD (20, [1, 7], [60, 3, 8, 423, 79, 80, 81, 82, 83, 84, 85, 86, 87, 88, 89]) ws (vs ++ [Value.int x]) := by
    refine ⟨nf_inA hl rfl, sgq_1240 ?_⟩
    · show RII (w_fi ws (n_v (vs ++ [Value.int x]) 1) 79) (w_fi ws (n_v (vs ++ [Value.int x]) 1) 80) (w_fi ws (n_v (vs ++ [Value.int x]) 1) 81) (w_ei ws (w_ar ws (n_v (vs ++ [Value.int x]) 1) 82)) (w_ei ws (w_ar ws (n_v (vs ++ [Value.int x]) 1) 83)) (w_ei ws (w_ar ws (n_v (vs ++ [Value.int x]) 1) 84)) (w_ei ws (w_ar ws (n_v (vs ++ [Value.int x]) 1) 85)) (w_ei ws (w_ar ws (n_v (vs ++ [Value.int x]) 1) 86)) (w_ei ws (w_ar ws (n_v (vs ++ [Value.int x]) 1) 87)) (w_ei ws (w_ar ws (n_v (vs ++ [Value.int x]) 1) 88)) (w_ei ws (w_ar ws (n_v (vs ++ [Value.int x]) 1) 89)) (v_iv (n_v (vs ++ [Value.int x]) 7))
      simp only [e_1, e_7, q1]
      exact vc_Mo_rise_11_0 (v_iv (n_v vs 3)) (w_ei ws (w_ar ws (n_v vs 0) 83)) (w_ei ws (w_ar ws (n_v vs 0) 84)) (w_ei ws (w_ar ws (n_v vs 0) 85)) (w_ei ws (w_ar ws (n_v vs 0) 86)) (w_ei ws (w_ar ws (n_v vs 0) 87)) (w_ei ws (w_ar ws (n_v vs 0) 88)) (w_ei ws (w_ar ws (n_v vs 0) 89)) (w_fi ws (n_v vs 0) 79) (w_fi ws (n_v vs 0) 80) (w_fi ws (n_v vs 0) 81) (w_ei ws (w_ar ws (n_v vs 0) 82)) (v_iv (Value.int x)) k3 f2 kz_0_79 kz_0_80 kz_0_81 ex2
  have nf1 : fc_1 PRD (20, [1], [60, 3, 9, 418, 79, 80, 81, 93, 82, 83, 84, 85, 86, 87, 88, 89]) ws (vs ++ [Value.int x]) := by
    refine ⟨nf_inA hl rfl, sgq_1244 ?_⟩
    · show UPQ (w_fi ws (n_v (vs ++ [Value.int x]) 1) 79) (w_fi ws (n_v (vs ++ [Value.int x]) 1) 80) (w_fi ws (n_v (vs ++ [Value.int x]) 1) 81) (w_ei ws (w_ar ws (n_v (vs ++ [Value.int x]) 1) 93)) (w_ei ws (w_ar ws (n_v (vs ++ [Value.int x]) 1) 82)) (w_ei ws (w_ar ws (n_v (vs ++ [Value.int x]) 1) 83)) (w_ei ws (w_ar ws (n_v (vs ++ [Value.int x]) 1) 84)) (w_ei ws (w_ar ws (n_v (vs ++ [Value.int x]) 1) 85)) (w_ei ws (w_ar ws (n_v (vs ++ [Value.int x]) 1) 86)) (w_ei ws (w_ar ws (n_v (vs ++ [Value.int x]) 1) 87)) (w_ei ws (w_ar ws (n_v (vs ++ [Value.int x]) 1) 88)) (w_ei ws (w_ar ws (n_v (vs ++ [Value.int x]) 1) 89))
      simp only [e_1, q1]
      exact vc_Mo_rise_11_1 (v_iv (n_v vs 4)) (w_ei ws (w_ar ws (n_v vs 0) 83)) (w_ei ws (w_ar ws (n_v vs 0) 84)) (w_ei ws (w_ar ws (n_v vs 0) 85)) (w_ei ws (w_ar ws (n_v vs 0) 86)) (w_ei ws (w_ar ws (n_v vs 0) 87)) (w_ei ws (w_ar ws (n_v vs 0) 88)) (w_ei ws (w_ar ws (n_v vs 0) 89)) (w_fi ws (n_v vs 0) 79) (w_fi ws (n_v vs 0) 80) (w_fi ws (n_v vs 0) 81) (w_ei ws (w_ar ws (n_v vs 0) 82)) (w_ei ws (w_ar ws (n_v vs 0) 93)) k4 f0 f4 kz_0_79 kz_0_80 kz_0_81
  have nf2 : fc_1 PRD (20, [1, 5, 6], [60, 0, 5, 425, 82, 93, 83, 84, 86]) ws (vs ++ [Value.int x]) := by
    refine ⟨nf_inA hl rfl, sgq_1245 ?_⟩
    · show RD1 (w_ei ws (w_ar ws (n_v (vs ++ [Value.int x]) 1) 82)) (w_ei ws (w_ar ws (n_v (vs ++ [Value.int x]) 1) 93)) (w_ei ws (w_ar ws (n_v (vs ++ [Value.int x]) 1) 83)) (w_ei ws (w_ar ws (n_v (vs ++ [Value.int x]) 1) 84)) (w_ei ws (w_ar ws (n_v (vs ++ [Value.int x]) 1) 86)) (v_iv (n_v (vs ++ [Value.int x]) 5)) (v_iv (n_v (vs ++ [Value.int x]) 6))
      simp only [e_1, e_5, e_6, q1]
      exact vc_Mo_rise_11_2 (v_iv (n_v vs 5)) (v_iv (n_v vs 6)) (w_ei ws (w_ar ws (n_v vs 0) 83)) (w_ei ws (w_ar ws (n_v vs 0) 84)) (w_ei ws (w_ar ws (n_v vs 0) 86)) (w_ei ws (w_ar ws (n_v vs 0) 82)) (w_ei ws (w_ar ws (n_v vs 0) 93)) k5 k6
  have nf3 : fc_1 PRD (23, [7], [-1, -1]) ws (vs ++ [Value.int x]) := by
    refine ⟨nf_inA hl rfl, sgq_626 ?_⟩
    · show (-1) * v_iv (n_v (vs ++ [Value.int x]) 7) + 0 ≤ (-1)
      rw [e_7]
      exact vc_Mo_rise_11_3 (v_iv (n_v vs 3)) (v_iv (n_v vs 4)) (w_ei ws (w_ar ws (n_v vs 0) 83)) (w_ei ws (w_ar ws (n_v vs 0) 84)) (w_ei ws (w_ar ws (n_v vs 0) 85)) (w_ei ws (w_ar ws (n_v vs 0) 86)) (w_ei ws (w_ar ws (n_v vs 0) 87)) (w_ei ws (w_ar ws (n_v vs 0) 88)) (w_ei ws (w_ar ws (n_v vs 0) 89)) (w_fi ws (n_v vs 0) 79) (w_fi ws (n_v vs 0) 80) (w_fi ws (n_v vs 0) 81) (w_ei ws (w_ar ws (n_v vs 0) 82)) (w_ei ws (w_ar ws (n_v vs 0) 93)) (v_iv (Value.int x)) k3 k4 f0 f2 f4 kz_0_79 kz_0_80 kz_0_81 ex2
  have nf4 : fc_1 PRD (24, [0, 1], []) ws (vs ++ [Value.int x]) := by
    refine ⟨nf_inA hl rfl, sgq_5 ?_⟩
    · show n_v (vs ++ [Value.int x]) 0 = n_v (vs ++ [Value.int x]) 1
      first | rfl | simp only [e_0, e_1, q1]
  obtain ⟨x0, e0, _, _⟩ := tv_int t3 rfl
  have e1 : v_iv (n_v vs 3) = x0.toInt := by rw [e0]; rfl
  have ho : sy_ofs (vs ++ [Value.int x]) (7, 3, 0, 0) := by
    refine ⟨x, x0, by rw [List.getElem?_append_right (by rw [hl]; decide), hl]; rfl, ?_, ?_, ?_⟩
    · rw [List.getElem?_append_left (by rw [hl]; decide)]; exact n_v_some (by rw [hl]; decide) e0
    · show x0.toInt + 0 ≤ x.toInt; omega
    · show x.toInt ≤ x0.toInt + 0; omega
  exact ⟨(fun _ h => (by cases h)), [Value.int x], ag_one hx, List.forall_mem_cons.mpr ⟨⟨show (20 : Nat) < 100 from by decide, nf0⟩, List.forall_mem_cons.mpr ⟨⟨show (20 : Nat) < 100 from by decide, nf1⟩, List.forall_mem_cons.mpr ⟨⟨show (20 : Nat) < 100 from by decide, nf2⟩, List.forall_mem_cons.mpr ⟨⟨show (23 : Nat) < 100 from by decide, nf3⟩, List.forall_mem_cons.mpr ⟨⟨show (24 : Nat) < 100 from by decide, nf4⟩, (fun _ h => (by cases h))⟩⟩⟩⟩⟩, List.forall_mem_cons.mpr ⟨ho, (fun _ h => (by cases h))⟩⟩
set_option maxHeartbeats 4000000 in
theorem vc_Mo_rise_12_0 (x5 : Int) (costMany_0 : Int) (spot_0 : Int → Int) (costA_0 : Int → Int) (costB_0 : Int → Int) (costW_0 : Int → Int) (costPlain_0 : Int → Int) (apartA_0 : Int → Int) (apartB_0 : Int → Int) (apart_0 : Int → Int) (pointMany_0 : Int) (apartMany_0 : Int) (gx : Int) (k5 : (-2) ≤ x5 ∧ x5 ≤ 221100001) (f2 : RII (pointMany_0) (costMany_0) (apartMany_0) (spot_0) (costA_0) (costB_0) (costW_0) (costPlain_0) (apartA_0) (apartB_0) (apart_0) (x5)) (kz_0_79 : 0 ≤ pointMany_0 ∧ pointMany_0 ≤ 76) (kz_0_80 : 0 ≤ costMany_0 ∧ costMany_0 ≤ 200) (kz_0_81 : 0 ≤ apartMany_0 ∧ apartMany_0 ≤ 200) (ex2 : gx = 0 + (1 * x5 + 0)) : RII (pointMany_0) (costMany_0) (apartMany_0) (spot_0) (costA_0) (costB_0) (costW_0) (costPlain_0) (apartA_0) (apartB_0) (apart_0) (gx) := by
  first
    | assumption
    | (rw [show gx = x5 by omega]; assumption)
set_option maxHeartbeats 4000000 in
theorem vc_Mo_rise_12_1 (costMany_0 : Int) (spot_0 : Int → Int) (costA_0 : Int → Int) (costB_0 : Int → Int) (costW_0 : Int → Int) (costPlain_0 : Int → Int) (apartA_0 : Int → Int) (apartB_0 : Int → Int) (apart_0 : Int → Int) (pointMany_0 : Int) (apartMany_0 : Int) (goes_0 : Int → Int) (f3 : UPQ (pointMany_0) (costMany_0) (apartMany_0) (goes_0) (spot_0) (costA_0) (costB_0) (costW_0) (costPlain_0) (apartA_0) (apartB_0) (apart_0)) (kz_0_79 : 0 ≤ pointMany_0 ∧ pointMany_0 ≤ 76) (kz_0_80 : 0 ≤ costMany_0 ∧ costMany_0 ≤ 200) (kz_0_81 : 0 ≤ apartMany_0 ∧ apartMany_0 ≤ 200) : UPQ (pointMany_0) (costMany_0) (apartMany_0) (goes_0) (spot_0) (costA_0) (costB_0) (costW_0) (costPlain_0) (apartA_0) (apartB_0) (apart_0) := by
  first
    | assumption
set_option maxHeartbeats 4000000 in
theorem vc_Mo_rise_12_2 (x3 : Int) (x4 : Int) (x6 : Int) (costMany_0 : Int) (spot_0 : Int → Int) (costA_0 : Int → Int) (costB_0 : Int → Int) (costPlain_0 : Int → Int) (goes_0 : Int → Int) (k3 : 1 ≤ x3 ∧ x3 ≤ 1000000) (k4 : 0 ≤ x4 ∧ x4 ≤ 200) (k6 : 0 ≤ x6 ∧ x6 ≤ 200) (d0 : x6 + 0 ≤ x4 ∧ x4 ≤ x6 + 4294967296) (g1 : x6 = costMany_0) (f4 : RD1 (spot_0) (goes_0) (costA_0) (costB_0) (costPlain_0) (x3) (x4)) (kz_0_80 : 0 ≤ costMany_0 ∧ costMany_0 ≤ 200) : RDC (costMany_0) (spot_0) (goes_0) (costA_0) (costB_0) (costPlain_0) (x3) := by
  first
    | exact rdc_of ‹RD1 _ _ _ _ _ _ _› (by omega)
set_option maxHeartbeats 4000000 in
theorem vc_Mo_rise_12_3 (x3 : Int) (x7 : Int) (spot_0 : Int → Int) (apartA_0 : Int → Int) (apartB_0 : Int → Int) (apart_0 : Int → Int) (goes_0 : Int → Int) (k3 : 1 ≤ x3 ∧ x3 ≤ 1000000) (k7 : 0 ≤ x7 ∧ x7 ≤ 0) : RDA (spot_0) (goes_0) (apartA_0) (apartB_0) (apart_0) (x7) (x3) := by
  first
    | (intro j a b; exfalso; omega)
set_option maxHeartbeats 4000000 in
theorem vc_Mo_rise_12_4 (x5 : Int) (gx : Int) (k5 : (-2) ≤ x5 ∧ x5 ≤ 221100001) (f5 : (-1) * x5 + 0 ≤ (-1)) (ex2 : gx = 0 + (1 * x5 + 0)) : (-1) * gx + 0 ≤ (-1) := by
  omega
def o_Mo_rise_12 : or_T := (248, 8, [(0, (2, 0, 0, [165])), (1, (2, 0, 0, [165])), (3, (0, 1, 1000000, [])), (4, (0, 0, 200, [])), (5, (0, -2, 221100001, [])), (6, (0, 0, 200, [])), (7, (0, 0, 0, []))], [(7, [4, 6], [3]), (9, [6, 1], [80]), (20, [1, 5], [60, 3, 8, 423, 79, 80, 81, 82, 83, 84, 85, 86, 87, 88, 89]), (20, [1], [60, 3, 9, 418, 79, 80, 81, 93, 82, 83, 84, 85, 86, 87, 88, 89]), (20, [1, 3, 4], [60, 0, 5, 425, 82, 93, 83, 84, 86]), (23, [5], [-1, -1]), (24, [0, 1], [])], [], [(0, -2, 221100001, [])], [(20, [1, 8], [60, 3, 8, 423, 79, 80, 81, 82, 83, 84, 85, 86, 87, 88, 89]), (20, [1], [60, 3, 9, 418, 79, 80, 81, 93, 82, 83, 84, 85, 86, 87, 88, 89]), (20, [1, 3], [60, 1, 5, 426, 80, 82, 93, 83, 84, 86]), (20, [1, 7, 3], [60, 0, 5, 427, 82, 93, 87, 88, 89]), (23, [8], [-1, -1]), (24, [0, 1], [])], [(8, 5, 0, 0)], [(4, 6, 0, 4294967296)])
theorem oo_Mo_rise_12 {kA : Nat → ClassId} : or_ok PRD kA GG o_Mo_rise_12 := by
  refine or_mk fun A ta ws vs hD hth hl => ?_
  intro t0 r0 t1 r1 t3 k3 t4 k4 t5 k5 t6 k6 t7 k7 d0 f0 f1 f2 f3 f4 f5 f6
  replace f0 := shm_2 f0
  replace f1 := shm_555 f1
  replace f2 := shm_1240 f2
  replace f3 := shm_1244 f3
  replace f4 := shm_1245 f4
  replace f5 := shm_626 f5
  replace f6 := shm_5 f6
  have q1 : n_v vs 1 = n_v vs 0 := f6.symm
  simp only [q1] at f1 f2 f3 f4
  have cr_0_82 := fdq_230 hD hth r0
  have cr_0_83 := fdq_126 hD hth r0
  have cr_0_84 := fdq_127 hD hth r0
  have cr_0_85 := fdq_128 hD hth r0
  have cr_0_86 := fdq_129 hD hth r0
  have cr_0_87 := fdq_119 hD hth r0
  have cr_0_88 := fdq_120 hD hth r0
  have cr_0_89 := fdq_121 hD hth r0
  have cr_0_93 := fdq_276 hD hth r0
  have g1 : v_iv (n_v vs 6) = w_fi ws (n_v vs 0) 80 := congrArg v_iv f1
  have hK_0_82 := elq_143 hD hth cr_0_82
  have hK_0_83 := elq_67 hD hth cr_0_83
  have hK_0_84 := elq_68 hD hth cr_0_84
  have hK_0_85 := elq_69 hD hth cr_0_85
  have hK_0_86 := elq_70 hD hth cr_0_86
  have hK_0_87 := elq_62 hD hth cr_0_87
  have hK_0_88 := elq_63 hD hth cr_0_88
  have hK_0_89 := elq_64 hD hth cr_0_89
  have hK_0_93 := elq_174 hD hth cr_0_93
  have kz_0_79 := fdq_147 hD hth r0
  have kz_0_80 := fdq_131 hD hth r0
  have kz_0_81 := fdq_124 hD hth r0
  obtain ⟨x, ex, hx⟩ := iv_ex (ta := ta) (lo := (-2)) (hi := 221100001) (z := 0 + (1 * v_iv (n_v vs 5) + 0)) (by omega) (by omega) (by omega) (by omega)
  have ex2 : v_iv (Value.int x) = 0 + (1 * v_iv (n_v vs 5) + 0) := ex
  have ex3 : (-2) ≤ v_iv (Value.int x) ∧ v_iv (Value.int x) ≤ 221100001 := tv_rng hx
  have e_0 : n_v (vs ++ [Value.int x]) 0 = n_v vs 0 := n_v_old (by rw [hl]; decide)
  have e_1 : n_v (vs ++ [Value.int x]) 1 = n_v vs 1 := n_v_old (by rw [hl]; decide)
  have e_3 : n_v (vs ++ [Value.int x]) 3 = n_v vs 3 := n_v_old (by rw [hl]; decide)
  have e_7 : n_v (vs ++ [Value.int x]) 7 = n_v vs 7 := n_v_old (by rw [hl]; decide)
  have e_8 : n_v (vs ++ [Value.int x]) 8 = Value.int x := n_v_new hl
  have nf0 : fc_1 PRD (20, [1, 8], [60, 3, 8, 423, 79, 80, 81, 82, 83, 84, 85, 86, 87, 88, 89]) ws (vs ++ [Value.int x]) := by
    refine ⟨nf_inA hl rfl, sgq_1240 ?_⟩
    · show RII (w_fi ws (n_v (vs ++ [Value.int x]) 1) 79) (w_fi ws (n_v (vs ++ [Value.int x]) 1) 80) (w_fi ws (n_v (vs ++ [Value.int x]) 1) 81) (w_ei ws (w_ar ws (n_v (vs ++ [Value.int x]) 1) 82)) (w_ei ws (w_ar ws (n_v (vs ++ [Value.int x]) 1) 83)) (w_ei ws (w_ar ws (n_v (vs ++ [Value.int x]) 1) 84)) (w_ei ws (w_ar ws (n_v (vs ++ [Value.int x]) 1) 85)) (w_ei ws (w_ar ws (n_v (vs ++ [Value.int x]) 1) 86)) (w_ei ws (w_ar ws (n_v (vs ++ [Value.int x]) 1) 87)) (w_ei ws (w_ar ws (n_v (vs ++ [Value.int x]) 1) 88)) (w_ei ws (w_ar ws (n_v (vs ++ [Value.int x]) 1) 89)) (v_iv (n_v (vs ++ [Value.int x]) 8))
      simp only [e_1, e_8, q1]
      exact vc_Mo_rise_12_0 (v_iv (n_v vs 5)) (w_fi ws (n_v vs 0) 80) (w_ei ws (w_ar ws (n_v vs 0) 82)) (w_ei ws (w_ar ws (n_v vs 0) 83)) (w_ei ws (w_ar ws (n_v vs 0) 84)) (w_ei ws (w_ar ws (n_v vs 0) 85)) (w_ei ws (w_ar ws (n_v vs 0) 86)) (w_ei ws (w_ar ws (n_v vs 0) 87)) (w_ei ws (w_ar ws (n_v vs 0) 88)) (w_ei ws (w_ar ws (n_v vs 0) 89)) (w_fi ws (n_v vs 0) 79) (w_fi ws (n_v vs 0) 81) (v_iv (Value.int x)) k5 f2 kz_0_79 kz_0_80 kz_0_81 ex2
  have nf1 : fc_1 PRD (20, [1], [60, 3, 9, 418, 79, 80, 81, 93, 82, 83, 84, 85, 86, 87, 88, 89]) ws (vs ++ [Value.int x]) := by
    refine ⟨nf_inA hl rfl, sgq_1244 ?_⟩
    · show UPQ (w_fi ws (n_v (vs ++ [Value.int x]) 1) 79) (w_fi ws (n_v (vs ++ [Value.int x]) 1) 80) (w_fi ws (n_v (vs ++ [Value.int x]) 1) 81) (w_ei ws (w_ar ws (n_v (vs ++ [Value.int x]) 1) 93)) (w_ei ws (w_ar ws (n_v (vs ++ [Value.int x]) 1) 82)) (w_ei ws (w_ar ws (n_v (vs ++ [Value.int x]) 1) 83)) (w_ei ws (w_ar ws (n_v (vs ++ [Value.int x]) 1) 84)) (w_ei ws (w_ar ws (n_v (vs ++ [Value.int x]) 1) 85)) (w_ei ws (w_ar ws (n_v (vs ++ [Value.int x]) 1) 86)) (w_ei ws (w_ar ws (n_v (vs ++ [Value.int x]) 1) 87)) (w_ei ws (w_ar ws (n_v (vs ++ [Value.int x]) 1) 88)) (w_ei ws (w_ar ws (n_v (vs ++ [Value.int x]) 1) 89))
      simp only [e_1, q1]
      exact vc_Mo_rise_12_1 (w_fi ws (n_v vs 0) 80) (w_ei ws (w_ar ws (n_v vs 0) 82)) (w_ei ws (w_ar ws (n_v vs 0) 83)) (w_ei ws (w_ar ws (n_v vs 0) 84)) (w_ei ws (w_ar ws (n_v vs 0) 85)) (w_ei ws (w_ar ws (n_v vs 0) 86)) (w_ei ws (w_ar ws (n_v vs 0) 87)) (w_ei ws (w_ar ws (n_v vs 0) 88)) (w_ei ws (w_ar ws (n_v vs 0) 89)) (w_fi ws (n_v vs 0) 79) (w_fi ws (n_v vs 0) 81) (w_ei ws (w_ar ws (n_v vs 0) 93)) f3 kz_0_79 kz_0_80 kz_0_81
  have nf2 : fc_1 PRD (20, [1, 3], [60, 1, 5, 426, 80, 82, 93, 83, 84, 86]) ws (vs ++ [Value.int x]) := by
    refine ⟨nf_inA hl rfl, sgq_1246 ?_⟩
    · show RDC (w_fi ws (n_v (vs ++ [Value.int x]) 1) 80) (w_ei ws (w_ar ws (n_v (vs ++ [Value.int x]) 1) 82)) (w_ei ws (w_ar ws (n_v (vs ++ [Value.int x]) 1) 93)) (w_ei ws (w_ar ws (n_v (vs ++ [Value.int x]) 1) 83)) (w_ei ws (w_ar ws (n_v (vs ++ [Value.int x]) 1) 84)) (w_ei ws (w_ar ws (n_v (vs ++ [Value.int x]) 1) 86)) (v_iv (n_v (vs ++ [Value.int x]) 3))
      simp only [e_1, e_3, q1]
      exact vc_Mo_rise_12_2 (v_iv (n_v vs 3)) (v_iv (n_v vs 4)) (v_iv (n_v vs 6)) (w_fi ws (n_v vs 0) 80) (w_ei ws (w_ar ws (n_v vs 0) 82)) (w_ei ws (w_ar ws (n_v vs 0) 83)) (w_ei ws (w_ar ws (n_v vs 0) 84)) (w_ei ws (w_ar ws (n_v vs 0) 86)) (w_ei ws (w_ar ws (n_v vs 0) 93)) k3 k4 k6 d0 g1 f4 kz_0_80
  have nf3 : fc_1 PRD (20, [1, 7, 3], [60, 0, 5, 427, 82, 93, 87, 88, 89]) ws (vs ++ [Value.int x]) := by
    refine ⟨nf_inA hl rfl, sgq_1247 ?_⟩
    · show RDA (w_ei ws (w_ar ws (n_v (vs ++ [Value.int x]) 1) 82)) (w_ei ws (w_ar ws (n_v (vs ++ [Value.int x]) 1) 93)) (w_ei ws (w_ar ws (n_v (vs ++ [Value.int x]) 1) 87)) (w_ei ws (w_ar ws (n_v (vs ++ [Value.int x]) 1) 88)) (w_ei ws (w_ar ws (n_v (vs ++ [Value.int x]) 1) 89)) (v_iv (n_v (vs ++ [Value.int x]) 7)) (v_iv (n_v (vs ++ [Value.int x]) 3))
      simp only [e_1, e_3, e_7, q1]
      exact vc_Mo_rise_12_3 (v_iv (n_v vs 3)) (v_iv (n_v vs 7)) (w_ei ws (w_ar ws (n_v vs 0) 82)) (w_ei ws (w_ar ws (n_v vs 0) 87)) (w_ei ws (w_ar ws (n_v vs 0) 88)) (w_ei ws (w_ar ws (n_v vs 0) 89)) (w_ei ws (w_ar ws (n_v vs 0) 93)) k3 k7
  have nf4 : fc_1 PRD (23, [8], [-1, -1]) ws (vs ++ [Value.int x]) := by
    refine ⟨nf_inA hl rfl, sgq_626 ?_⟩
    · show (-1) * v_iv (n_v (vs ++ [Value.int x]) 8) + 0 ≤ (-1)
      rw [e_8]
      exact vc_Mo_rise_12_4 (v_iv (n_v vs 5)) (v_iv (Value.int x)) k5 f5 ex2
  have nf5 : fc_1 PRD (24, [0, 1], []) ws (vs ++ [Value.int x]) := by
    refine ⟨nf_inA hl rfl, sgq_5 ?_⟩
    · show n_v (vs ++ [Value.int x]) 0 = n_v (vs ++ [Value.int x]) 1
      first | rfl | simp only [e_0, e_1, q1]
  obtain ⟨x0, e0, _, _⟩ := tv_int t5 rfl
  have e1 : v_iv (n_v vs 5) = x0.toInt := by rw [e0]; rfl
  have ho : sy_ofs (vs ++ [Value.int x]) (8, 5, 0, 0) := by
    refine ⟨x, x0, by rw [List.getElem?_append_right (by rw [hl]; decide), hl]; rfl, ?_, ?_, ?_⟩
    · rw [List.getElem?_append_left (by rw [hl]; decide)]; exact n_v_some (by rw [hl]; decide) e0
    · show x0.toInt + 0 ≤ x.toInt; omega
    · show x.toInt ≤ x0.toInt + 0; omega
  exact ⟨(fun _ h => (by cases h)), [Value.int x], ag_one hx, List.forall_mem_cons.mpr ⟨⟨show (20 : Nat) < 100 from by decide, nf0⟩, List.forall_mem_cons.mpr ⟨⟨show (20 : Nat) < 100 from by decide, nf1⟩, List.forall_mem_cons.mpr ⟨⟨show (20 : Nat) < 100 from by decide, nf2⟩, List.forall_mem_cons.mpr ⟨⟨show (20 : Nat) < 100 from by decide, nf3⟩, List.forall_mem_cons.mpr ⟨⟨show (23 : Nat) < 100 from by decide, nf4⟩, List.forall_mem_cons.mpr ⟨⟨show (24 : Nat) < 100 from by decide, nf5⟩, (fun _ h => (by cases h))⟩⟩⟩⟩⟩⟩, List.forall_mem_cons.mpr ⟨ho, (fun _ h => (by cases h))⟩⟩
set_option maxHeartbeats 4000000 in
theorem vc_Mo_rise_13_0 (x3 : Int) (x4 : Int) (x8 : Int) (x10 : Int) (x12 : Int) (x13 : Int) (costPlain_0 : Int → Int) (costB_0 : Int → Int) (costA_0 : Int → Int) (spot_0 : Int → Int) (goes_0 : Int → Int) (k3 : 1 ≤ x3 ∧ x3 ≤ 1000000) (k4 : 0 ≤ x4 ∧ x4 ≤ 199) (k8 : 0 ≤ x8 ∧ x8 ≤ 75) (k10 : 0 ≤ x10 ∧ x10 ≤ 75) (k12 : 1 ≤ x12 ∧ x12 ≤ 1) (k13 : 1 ≤ x13 ∧ x13 ≤ 200) (f0 : x13 = x4 + 1) (h2 : x12 = costPlain_0 (x4)) (h4 : x10 = costB_0 (x4)) (h6 : x8 = costA_0 (x4)) (f12 : RD1 (spot_0) (goes_0) (costA_0) (costB_0) (costPlain_0) (x3) (x4)) : RD1 (spot_0) (goes_0) (costA_0) (costB_0) (costPlain_0) (x3) (x13) := by
  first
    | exact rd1_go (a := x8) (b := x10) ‹RD1 _ _ _ _ _ _ _› (by assumption) (by assumption) (by assumption) ⟨by have h := rd1_pos ‹RD1 _ _ _ _ _ _ _›; omega, by omega⟩ (fun z => ⟨by intros; omega, by intros; omega⟩)
    | exact rd1_go (a := x8) (b := x10) ‹RD1 _ _ _ _ _ _ _› (by assumption) (by assumption) (by assumption) ⟨by have h := rd1_pos ‹RD1 _ _ _ _ _ _ _›; omega, by omega⟩ (fun z => by exfalso; omega)
def o_Mo_rise_13 : or_T := (129, 14, [(3, (0, 1, 1000000, [])), (4, (0, 0, 199, [])), (8, (0, 0, 75, [])), (10, (0, 0, 75, [])), (12, (0, 1, 1, [])), (13, (0, 1, 200, []))], [(6, [13, 4], [1]), (10, [12, 11, 4], []), (9, [11, 1], [86]), (10, [10, 9, 4], []), (9, [9, 1], [84]), (10, [8, 7, 4], []), (9, [7, 1], [83]), (20, [1, 3, 4], [60, 0, 5, 425, 82, 93, 83, 84, 86]), (24, [0, 1], [])], [], [], [(20, [1, 3, 13], [60, 0, 5, 425, 82, 93, 83, 84, 86])], [], [])
theorem oo_Mo_rise_13 {kA : Nat → ClassId} : or_ok PRD kA GG o_Mo_rise_13 := by
  refine or_mk fun A ta ws vs hD hth hl => ?_
  intro t3 k3 t4 k4 t8 k8 t10 k10 t12 k12 t13 k13 f0 f2 f3 f4 f5 f6 f7 f12 f14
  replace f0 := shm_4 f0
  replace f2 := shm_107 f2
  replace f3 := shm_560 f3
  replace f4 := shm_107 f4
  replace f5 := shm_562 f5
  replace f6 := shm_107 f6
  replace f7 := shm_556 f7
  replace f12 := shm_1245 f12
  replace f14 := shm_5 f14
  have q1 : n_v vs 1 = n_v vs 0 := f14.symm
  simp only [q1] at f3 f5 f7 f12
  have ad_11 : v_ad (n_v vs 11) = w_ar ws (n_v vs 0) 86 := congrArg v_ad f3
  have ad_9 : v_ad (n_v vs 9) = w_ar ws (n_v vs 0) 84 := congrArg v_ad f5
  have ad_7 : v_ad (n_v vs 7) = w_ar ws (n_v vs 0) 83 := congrArg v_ad f7
  simp only [ad_11] at f2
  have h2 : v_iv (n_v vs 12) = w_ei ws (w_ar ws (n_v vs 0) 86) (v_iv (n_v vs 4)) := f2
  simp only [ad_9] at f4
  have h4 : v_iv (n_v vs 10) = w_ei ws (w_ar ws (n_v vs 0) 84) (v_iv (n_v vs 4)) := f4
  simp only [ad_7] at f6
  have h6 : v_iv (n_v vs 8) = w_ei ws (w_ar ws (n_v vs 0) 83) (v_iv (n_v vs 4)) := f6
  have nf0 : fc_1 PRD (20, [1, 3, 13], [60, 0, 5, 425, 82, 93, 83, 84, 86]) ws (vs) := by
    refine ⟨nf_in hl rfl, sgq_1245 ?_⟩
    · show RD1 (w_ei ws (w_ar ws (n_v vs 1) 82)) (w_ei ws (w_ar ws (n_v vs 1) 93)) (w_ei ws (w_ar ws (n_v vs 1) 83)) (w_ei ws (w_ar ws (n_v vs 1) 84)) (w_ei ws (w_ar ws (n_v vs 1) 86)) (v_iv (n_v vs 3)) (v_iv (n_v vs 13))
      rw [q1]
      exact vc_Mo_rise_13_0 (v_iv (n_v vs 3)) (v_iv (n_v vs 4)) (v_iv (n_v vs 8)) (v_iv (n_v vs 10)) (v_iv (n_v vs 12)) (v_iv (n_v vs 13)) (w_ei ws (w_ar ws (n_v vs 0) 86)) (w_ei ws (w_ar ws (n_v vs 0) 84)) (w_ei ws (w_ar ws (n_v vs 0) 83)) (w_ei ws (w_ar ws (n_v vs 0) 82)) (w_ei ws (w_ar ws (n_v vs 0) 93)) k3 k4 k8 k10 k12 k13 f0 h2 h4 h6 f12
  refine ⟨(fun _ h => (by cases h)), [], trivial, ?_, (fun _ h => (by cases h))⟩
  rw [List.append_nil]
  exact List.forall_mem_cons.mpr ⟨⟨show (20 : Nat) < 100 from by decide, nf0⟩, (fun _ h => (by cases h))⟩
set_option maxHeartbeats 4000000 in
theorem vc_Mo_rise_14_0 (x3 : Int) (x4 : Int) (x8 : Int) (x10 : Int) (x14 : Int) (x15 : Int) (x16 : Int) (x17 : Int) (x19 : Int) (x20 : Int) (x21 : Int) (x22 : Int) (spot_0 : Int → Int) (goes_0 : Int → Int) (costPlain_0 : Int → Int) (costB_0 : Int → Int) (costA_0 : Int → Int) (k3 : 1 ≤ x3 ∧ x3 ≤ 1000000) (k4 : 0 ≤ x4 ∧ x4 ≤ 199) (k8 : 0 ≤ x8 ∧ x8 ≤ 75) (k10 : 0 ≤ x10 ∧ x10 ≤ 75) (k14 : (-14400) ≤ x14 ∧ x14 ≤ 14400) (k15 : (-14400) ≤ x15 ∧ x15 ≤ 14400) (k16 : (-14400) ≤ x16 ∧ x16 ≤ 14400) (k17 : 1 ≤ x17 ∧ x17 ≤ 1) (k19 : 0 ≤ x19 ∧ x19 ≤ 221100000) (k20 : 0 ≤ x20 ∧ x20 ≤ 221100000) (k21 : (-221100000) ≤ x21 ∧ x21 ≤ 0) (k22 : 1 ≤ x22 ∧ x22 ≤ 200) (f0 : x22 = x4 + 1) (f2 : x21 = x19 - x20) (h3 : x20 = spot_0 (x10)) (h5 : x19 = spot_0 (x8)) (f6 : x16 ≠ x17) (h7 : x16 = goes_0 (x8)) (f9 : x14 ≠ x15) (h10 : x15 = goes_0 (x10)) (h11 : x14 = goes_0 (x8)) (h15 : x10 = costB_0 (x4)) (h17 : x8 = costA_0 (x4)) (f23 : RD1 (spot_0) (goes_0) (costA_0) (costB_0) (costPlain_0) (x3) (x4)) : RD1 (spot_0) (goes_0) (costA_0) (costB_0) (costPlain_0) (x3) (x22) := by
  first
    | exact rd1_go (a := x8) (b := x10) ‹RD1 _ _ _ _ _ _ _› (by assumption) (by assumption) (by assumption) ⟨by have h := rd1_pos ‹RD1 _ _ _ _ _ _ _›; omega, by omega⟩ (fun z => ⟨by intros; omega, by intros; omega⟩)
    | exact rd1_go (a := x8) (b := x10) ‹RD1 _ _ _ _ _ _ _› (by assumption) (by assumption) (by assumption) ⟨by have h := rd1_pos ‹RD1 _ _ _ _ _ _ _›; omega, by omega⟩ (fun z => by exfalso; omega)
def o_Mo_rise_14 : or_T := (129, 23, [(0, (2, 0, 0, [165])), (1, (2, 0, 0, [165])), (3, (0, 1, 1000000, [])), (4, (0, 0, 199, [])), (5, (0, -2, 221100001, [])), (6, (0, 1, 200, [])), (7, (2, 0, 0, [220])), (8, (0, 0, 75, [])), (9, (2, 0, 0, [221])), (10, (0, 0, 75, [])), (11, (2, 0, 0, [223])), (12, (0, 0, 0, [])), (13, (2, 0, 0, [230])), (14, (0, -14400, 14400, [])), (15, (0, -14400, 14400, [])), (16, (0, -14400, 14400, [])), (17, (0, 1, 1, [])), (18, (2, 0, 0, [219])), (19, (0, 0, 221100000, [])), (20, (0, 0, 221100000, [])), (21, (0, -221100000, 0, [])), (22, (0, 1, 200, []))], [(6, [22, 4], [1]), (8, [21], [5]), (2, [21, 19, 20], []), (10, [20, 18, 10], []), (9, [18, 1], [82]), (10, [19, 18, 8], []), (7, [16, 17], [1]), (10, [16, 13, 8], []), (9, [13, 1], [93]), (7, [14, 15], [1]), (10, [15, 13, 10], []), (10, [14, 13, 8], []), (8, [12], [0]), (10, [12, 11, 4], []), (9, [11, 1], [86]), (10, [10, 9, 4], []), (9, [9, 1], [84]), (10, [8, 7, 4], []), (9, [7, 1], [83]), (7, [4, 6], [2]), (9, [6, 1], [80]), (20, [1, 5], [60, 3, 8, 423, 79, 80, 81, 82, 83, 84, 85, 86, 87, 88, 89]), (20, [1], [60, 3, 9, 418, 79, 80, 81, 93, 82, 83, 84, 85, 86, 87, 88, 89]), (20, [1, 3, 4], [60, 0, 5, 425, 82, 93, 83, 84, 86]), (23, [5], [-1, -1]), (24, [0, 1], [])], [], [], [(20, [1, 3, 22], [60, 0, 5, 425, 82, 93, 83, 84, 86])], [], [(22, 4, 1, 1), (22, 6, -4294967296, 0), (21, 19, -221100000, 0), (4, 6, -4294967296, -1)])
theorem oo_Mo_rise_14 {kA : Nat → ClassId} : or_ok PRD kA GG o_Mo_rise_14 := by
  refine or_mk fun A ta ws vs hD hth hl => ?_
  intro t0 r0 t1 r1 t3 k3 t4 k4 t5 k5 t6 k6 t7 r7 t8 k8 t9 r9 t10 k10 t11 r11 t12 k12 t13 r13 t14 k14 t15 k15 t16 k16 t17 k17 t18 r18 t19 k19 t20 k20 t21 k21 t22 k22 d0 d1 d2 d3 f0 f1 f2 f3 f4 f5 f6 f7 f8 f9 f10 f11 f12 f13 f14 f15 f16 f17 f18 f19 f20 f21 f22 f23 f24 f25
  replace f0 := shm_4 f0
  replace f2 := shm_14 f2
  replace f3 := shm_107 f3
  replace f4 := shm_1165 f4
  replace f5 := shm_107 f5
  replace f6 := shm_40 f6
  replace f7 := shm_107 f7
  replace f8 := shm_1162 f8
  replace f9 := shm_40 f9
  replace f10 := shm_107 f10
  replace f11 := shm_107 f11
  replace f15 := shm_107 f15
  replace f16 := shm_562 f16
  replace f17 := shm_107 f17
  replace f18 := shm_556 f18
  replace f23 := shm_1245 f23
  replace f25 := shm_5 f25
  have q1 : n_v vs 1 = n_v vs 0 := f25.symm
  simp only [q1] at f4 f8 f16 f18 f23
  have ad_18 : v_ad (n_v vs 18) = w_ar ws (n_v vs 0) 82 := congrArg v_ad f4
  have ad_13 : v_ad (n_v vs 13) = w_ar ws (n_v vs 0) 93 := congrArg v_ad f8
  have ad_9 : v_ad (n_v vs 9) = w_ar ws (n_v vs 0) 84 := congrArg v_ad f16
  have ad_7 : v_ad (n_v vs 7) = w_ar ws (n_v vs 0) 83 := congrArg v_ad f18
  simp only [ad_18] at f3
  have h3 : v_iv (n_v vs 20) = w_ei ws (w_ar ws (n_v vs 0) 82) (v_iv (n_v vs 10)) := f3
  simp only [ad_18] at f5
  have h5 : v_iv (n_v vs 19) = w_ei ws (w_ar ws (n_v vs 0) 82) (v_iv (n_v vs 8)) := f5
  simp only [ad_13] at f7
  have h7 : v_iv (n_v vs 16) = w_ei ws (w_ar ws (n_v vs 0) 93) (v_iv (n_v vs 8)) := f7
  simp only [ad_13] at f10
  have h10 : v_iv (n_v vs 15) = w_ei ws (w_ar ws (n_v vs 0) 93) (v_iv (n_v vs 10)) := f10
  simp only [ad_13] at f11
  have h11 : v_iv (n_v vs 14) = w_ei ws (w_ar ws (n_v vs 0) 93) (v_iv (n_v vs 8)) := f11
  simp only [ad_9] at f15
  have h15 : v_iv (n_v vs 10) = w_ei ws (w_ar ws (n_v vs 0) 84) (v_iv (n_v vs 4)) := f15
  simp only [ad_7] at f17
  have h17 : v_iv (n_v vs 8) = w_ei ws (w_ar ws (n_v vs 0) 83) (v_iv (n_v vs 4)) := f17
  have nf0 : fc_1 PRD (20, [1, 3, 22], [60, 0, 5, 425, 82, 93, 83, 84, 86]) ws (vs) := by
    refine ⟨nf_in hl rfl, sgq_1245 ?_⟩
    · show RD1 (w_ei ws (w_ar ws (n_v vs 1) 82)) (w_ei ws (w_ar ws (n_v vs 1) 93)) (w_ei ws (w_ar ws (n_v vs 1) 83)) (w_ei ws (w_ar ws (n_v vs 1) 84)) (w_ei ws (w_ar ws (n_v vs 1) 86)) (v_iv (n_v vs 3)) (v_iv (n_v vs 22))
      rw [q1]
      exact vc_Mo_rise_14_0 (v_iv (n_v vs 3)) (v_iv (n_v vs 4)) (v_iv (n_v vs 8)) (v_iv (n_v vs 10)) (v_iv (n_v vs 14)) (v_iv (n_v vs 15)) (v_iv (n_v vs 16)) (v_iv (n_v vs 17)) (v_iv (n_v vs 19)) (v_iv (n_v vs 20)) (v_iv (n_v vs 21)) (v_iv (n_v vs 22)) (w_ei ws (w_ar ws (n_v vs 0) 82)) (w_ei ws (w_ar ws (n_v vs 0) 93)) (w_ei ws (w_ar ws (n_v vs 0) 86)) (w_ei ws (w_ar ws (n_v vs 0) 84)) (w_ei ws (w_ar ws (n_v vs 0) 83)) k3 k4 k8 k10 k14 k15 k16 k17 k19 k20 k21 k22 f0 f2 h3 h5 f6 h7 f9 h10 h11 h15 h17 f23
  refine ⟨(fun _ h => (by cases h)), [], trivial, ?_, (fun _ h => (by cases h))⟩
  rw [List.append_nil]
  exact List.forall_mem_cons.mpr ⟨⟨show (20 : Nat) < 100 from by decide, nf0⟩, (fun _ h => (by cases h))⟩
set_option maxHeartbeats 4000000 in
theorem vc_Mo_rise_15_0 (x3 : Int) (x4 : Int) (x8 : Int) (x10 : Int) (x19 : Int) (x20 : Int) (x21 : Int) (x22 : Int) (spot_0 : Int → Int) (goes_0 : Int → Int) (costPlain_0 : Int → Int) (costB_0 : Int → Int) (costA_0 : Int → Int) (k3 : 1 ≤ x3 ∧ x3 ≤ 1000000) (k4 : 0 ≤ x4 ∧ x4 ≤ 199) (k8 : 0 ≤ x8 ∧ x8 ≤ 75) (k10 : 0 ≤ x10 ∧ x10 ≤ 75) (k19 : 1 ≤ x19 ∧ x19 ≤ 221100000) (k20 : 0 ≤ x20 ∧ x20 ≤ 221100000) (k21 : 1 ≤ x21 ∧ x21 ≤ 1000000) (k22 : 1 ≤ x22 ∧ x22 ≤ 200) (f0 : x22 = x4 + 1) (f1 : x21 ≤ x3) (f4 : x21 = x19 - x20) (h5 : x20 = spot_0 (x10)) (h7 : x19 = spot_0 (x8)) (h17 : x10 = costB_0 (x4)) (h19 : x8 = costA_0 (x4)) (f25 : RD1 (spot_0) (goes_0) (costA_0) (costB_0) (costPlain_0) (x3) (x4)) : RD1 (spot_0) (goes_0) (costA_0) (costB_0) (costPlain_0) (x21) (x22) := by
  first
    | exact rd1_go (a := x8) (b := x10) ‹RD1 _ _ _ _ _ _ _› (by assumption) (by assumption) (by assumption) ⟨by have h := rd1_pos ‹RD1 _ _ _ _ _ _ _›; omega, by omega⟩ (fun z => ⟨by intros; omega, by intros; omega⟩)
    | exact rd1_go (a := x8) (b := x10) ‹RD1 _ _ _ _ _ _ _› (by assumption) (by assumption) (by assumption) ⟨by have h := rd1_pos ‹RD1 _ _ _ _ _ _ _›; omega, by omega⟩ (fun z => by exfalso; omega)
def o_Mo_rise_15 : or_T := (129, 23, [(0, (2, 0, 0, [165])), (1, (2, 0, 0, [165])), (3, (0, 1, 1000000, [])), (4, (0, 0, 199, [])), (5, (0, -2, 221100001, [])), (6, (0, 1, 200, [])), (7, (2, 0, 0, [220])), (8, (0, 0, 75, [])), (9, (2, 0, 0, [221])), (10, (0, 0, 75, [])), (11, (2, 0, 0, [223])), (12, (0, 0, 0, [])), (13, (2, 0, 0, [230])), (14, (0, -14400, 14400, [])), (15, (0, -14400, 14400, [])), (16, (0, -14400, 14400, [])), (17, (0, 1, 1, [])), (18, (2, 0, 0, [219])), (19, (0, 1, 221100000, [])), (20, (0, 0, 221100000, [])), (21, (0, 1, 1000000, [])), (22, (0, 1, 200, []))], [(6, [22, 4], [1]), (7, [21, 3], [5]), (7, [21, 21], [5]), (8, [21], [4]), (2, [21, 19, 20], []), (10, [20, 18, 10], []), (9, [18, 1], [82]), (10, [19, 18, 8], []), (7, [16, 17], [1]), (10, [16, 13, 8], []), (9, [13, 1], [93]), (7, [14, 15], [1]), (10, [15, 13, 10], []), (10, [14, 13, 8], []), (8, [12], [0]), (10, [12, 11, 4], []), (9, [11, 1], [86]), (10, [10, 9, 4], []), (9, [9, 1], [84]), (10, [8, 7, 4], []), (9, [7, 1], [83]), (7, [4, 6], [2]), (9, [6, 1], [80]), (20, [1, 5], [60, 3, 8, 423, 79, 80, 81, 82, 83, 84, 85, 86, 87, 88, 89]), (20, [1], [60, 3, 9, 418, 79, 80, 81, 93, 82, 83, 84, 85, 86, 87, 88, 89]), (20, [1, 3, 4], [60, 0, 5, 425, 82, 93, 83, 84, 86]), (23, [5], [-1, -1]), (24, [0, 1], [])], [], [], [(20, [1, 21, 22], [60, 0, 5, 425, 82, 93, 83, 84, 86])], [], [(22, 4, 1, 1), (22, 6, -4294967296, 0), (3, 21, 0, 4294967296), (21, 19, -221100000, 0), (4, 6, -4294967296, -1)])
theorem oo_Mo_rise_15 {kA : Nat → ClassId} : or_ok PRD kA GG o_Mo_rise_15 := by
  refine or_mk fun A ta ws vs hD hth hl => ?_
  intro t0 r0 t1 r1 t3 k3 t4 k4 t5 k5 t6 k6 t7 r7 t8 k8 t9 r9 t10 k10 t11 r11 t12 k12 t13 r13 t14 k14 t15 k15 t16 k16 t17 k17 t18 r18 t19 k19 t20 k20 t21 k21 t22 k22 d0 d1 d2 d3 d4 f0 f1 f2 f3 f4 f5 f6 f7 f8 f9 f10 f11 f12 f13 f14 f15 f16 f17 f18 f19 f20 f21 f22 f23 f24 f25 f26 f27
  replace f0 := shm_4 f0
  replace f1 := shm_24 f1
  replace f4 := shm_14 f4
  replace f5 := shm_107 f5
  replace f6 := shm_1165 f6
  replace f7 := shm_107 f7
  replace f17 := shm_107 f17
  replace f18 := shm_562 f18
  replace f19 := shm_107 f19
  replace f20 := shm_556 f20
  replace f25 := shm_1245 f25
  replace f27 := shm_5 f27
  have q1 : n_v vs 1 = n_v vs 0 := f27.symm
  simp only [q1] at f6 f18 f20 f25
  have ad_18 : v_ad (n_v vs 18) = w_ar ws (n_v vs 0) 82 := congrArg v_ad f6
  have ad_9 : v_ad (n_v vs 9) = w_ar ws (n_v vs 0) 84 := congrArg v_ad f18
  have ad_7 : v_ad (n_v vs 7) = w_ar ws (n_v vs 0) 83 := congrArg v_ad f20
  simp only [ad_18] at f5
  have h5 : v_iv (n_v vs 20) = w_ei ws (w_ar ws (n_v vs 0) 82) (v_iv (n_v vs 10)) := f5
  simp only [ad_18] at f7
  have h7 : v_iv (n_v vs 19) = w_ei ws (w_ar ws (n_v vs 0) 82) (v_iv (n_v vs 8)) := f7
  simp only [ad_9] at f17
  have h17 : v_iv (n_v vs 10) = w_ei ws (w_ar ws (n_v vs 0) 84) (v_iv (n_v vs 4)) := f17
  simp only [ad_7] at f19
  have h19 : v_iv (n_v vs 8) = w_ei ws (w_ar ws (n_v vs 0) 83) (v_iv (n_v vs 4)) := f19
  have nf0 : fc_1 PRD (20, [1, 21, 22], [60, 0, 5, 425, 82, 93, 83, 84, 86]) ws (vs) := by
    refine ⟨nf_in hl rfl, sgq_1245 ?_⟩
    · show RD1 (w_ei ws (w_ar ws (n_v vs 1) 82)) (w_ei ws (w_ar ws (n_v vs 1) 93)) (w_ei ws (w_ar ws (n_v vs 1) 83)) (w_ei ws (w_ar ws (n_v vs 1) 84)) (w_ei ws (w_ar ws (n_v vs 1) 86)) (v_iv (n_v vs 21)) (v_iv (n_v vs 22))
      rw [q1]
      exact vc_Mo_rise_15_0 (v_iv (n_v vs 3)) (v_iv (n_v vs 4)) (v_iv (n_v vs 8)) (v_iv (n_v vs 10)) (v_iv (n_v vs 19)) (v_iv (n_v vs 20)) (v_iv (n_v vs 21)) (v_iv (n_v vs 22)) (w_ei ws (w_ar ws (n_v vs 0) 82)) (w_ei ws (w_ar ws (n_v vs 0) 93)) (w_ei ws (w_ar ws (n_v vs 0) 86)) (w_ei ws (w_ar ws (n_v vs 0) 84)) (w_ei ws (w_ar ws (n_v vs 0) 83)) k3 k4 k8 k10 k19 k20 k21 k22 f0 f1 f4 h5 h7 h17 h19 f25
  refine ⟨(fun _ h => (by cases h)), [], trivial, ?_, (fun _ h => (by cases h))⟩
  rw [List.append_nil]
  exact List.forall_mem_cons.mpr ⟨⟨show (20 : Nat) < 100 from by decide, nf0⟩, (fun _ h => (by cases h))⟩
set_option maxHeartbeats 4000000 in
theorem vc_Mo_rise_16_0 (x3 : Int) (x4 : Int) (x8 : Int) (x10 : Int) (x19 : Int) (x20 : Int) (x21 : Int) (x22 : Int) (spot_0 : Int → Int) (goes_0 : Int → Int) (costPlain_0 : Int → Int) (costB_0 : Int → Int) (costA_0 : Int → Int) (k3 : 1 ≤ x3 ∧ x3 ≤ 1000000) (k4 : 0 ≤ x4 ∧ x4 ≤ 199) (k8 : 0 ≤ x8 ∧ x8 ≤ 75) (k10 : 0 ≤ x10 ∧ x10 ≤ 75) (k19 : 1 ≤ x19 ∧ x19 ≤ 221100000) (k20 : 0 ≤ x20 ∧ x20 ≤ 221100000) (k21 : 2 ≤ x21 ∧ x21 ≤ 221100000) (k22 : 1 ≤ x22 ∧ x22 ≤ 200) (d2 : x21 + (-4294967296) ≤ x3 ∧ x3 ≤ x21 + (-1)) (f0 : x22 = x4 + 1) (f1 : x3 ≤ x3) (f4 : x21 = x19 - x20) (h5 : x20 = spot_0 (x10)) (h7 : x19 = spot_0 (x8)) (h17 : x10 = costB_0 (x4)) (h19 : x8 = costA_0 (x4)) (f25 : RD1 (spot_0) (goes_0) (costA_0) (costB_0) (costPlain_0) (x3) (x4)) : RD1 (spot_0) (goes_0) (costA_0) (costB_0) (costPlain_0) (x3) (x22) := by
  first
    | exact rd1_go (a := x8) (b := x10) ‹RD1 _ _ _ _ _ _ _› (by assumption) (by assumption) (by assumption) ⟨by have h := rd1_pos ‹RD1 _ _ _ _ _ _ _›; omega, by omega⟩ (fun z => ⟨by intros; omega, by intros; omega⟩)
    | exact rd1_go (a := x8) (b := x10) ‹RD1 _ _ _ _ _ _ _› (by assumption) (by assumption) (by assumption) ⟨by have h := rd1_pos ‹RD1 _ _ _ _ _ _ _›; omega, by omega⟩ (fun z => by exfalso; omega)
def o_Mo_rise_16 : or_T := (129, 23, [(0, (2, 0, 0, [165])), (1, (2, 0, 0, [165])), (3, (0, 1, 1000000, [])), (4, (0, 0, 199, [])), (5, (0, -2, 221100001, [])), (6, (0, 1, 200, [])), (7, (2, 0, 0, [220])), (8, (0, 0, 75, [])), (9, (2, 0, 0, [221])), (10, (0, 0, 75, [])), (11, (2, 0, 0, [223])), (12, (0, 0, 0, [])), (13, (2, 0, 0, [230])), (14, (0, -14400, 14400, [])), (15, (0, -14400, 14400, [])), (16, (0, -14400, 14400, [])), (17, (0, 1, 1, [])), (18, (2, 0, 0, [219])), (19, (0, 1, 221100000, [])), (20, (0, 0, 221100000, [])), (21, (0, 2, 221100000, [])), (22, (0, 1, 200, []))], [(6, [22, 4], [1]), (7, [3, 3], [5]), (7, [3, 21], [5]), (8, [21], [4]), (2, [21, 19, 20], []), (10, [20, 18, 10], []), (9, [18, 1], [82]), (10, [19, 18, 8], []), (7, [16, 17], [1]), (10, [16, 13, 8], []), (9, [13, 1], [93]), (7, [14, 15], [1]), (10, [15, 13, 10], []), (10, [14, 13, 8], []), (8, [12], [0]), (10, [12, 11, 4], []), (9, [11, 1], [86]), (10, [10, 9, 4], []), (9, [9, 1], [84]), (10, [8, 7, 4], []), (9, [7, 1], [83]), (7, [4, 6], [2]), (9, [6, 1], [80]), (20, [1, 5], [60, 3, 8, 423, 79, 80, 81, 82, 83, 84, 85, 86, 87, 88, 89]), (20, [1], [60, 3, 9, 418, 79, 80, 81, 93, 82, 83, 84, 85, 86, 87, 88, 89]), (20, [1, 3, 4], [60, 0, 5, 425, 82, 93, 83, 84, 86]), (23, [5], [-1, -1]), (24, [0, 1], [])], [], [], [(20, [1, 3, 22], [60, 0, 5, 425, 82, 93, 83, 84, 86])], [], [(22, 4, 1, 1), (22, 6, -4294967296, 0), (3, 21, -4294967296, -1), (21, 19, -221100000, 0), (4, 6, -4294967296, -1)])
theorem oo_Mo_rise_16 {kA : Nat → ClassId} : or_ok PRD kA GG o_Mo_rise_16 := by
  refine or_mk fun A ta ws vs hD hth hl => ?_
  intro t0 r0 t1 r1 t3 k3 t4 k4 t5 k5 t6 k6 t7 r7 t8 k8 t9 r9 t10 k10 t11 r11 t12 k12 t13 r13 t14 k14 t15 k15 t16 k16 t17 k17 t18 r18 t19 k19 t20 k20 t21 k21 t22 k22 d0 d1 d2 d3 d4 f0 f1 f2 f3 f4 f5 f6 f7 f8 f9 f10 f11 f12 f13 f14 f15 f16 f17 f18 f19 f20 f21 f22 f23 f24 f25 f26 f27
  replace f0 := shm_4 f0
  replace f1 := shm_125 f1
  replace f4 := shm_14 f4
  replace f5 := shm_107 f5
  replace f6 := shm_1165 f6
  replace f7 := shm_107 f7
  replace f17 := shm_107 f17
  replace f18 := shm_562 f18
  replace f19 := shm_107 f19
  replace f20 := shm_556 f20
  replace f25 := shm_1245 f25
  replace f27 := shm_5 f27
  have q1 : n_v vs 1 = n_v vs 0 := f27.symm
  simp only [q1] at f6 f18 f20 f25
  have ad_18 : v_ad (n_v vs 18) = w_ar ws (n_v vs 0) 82 := congrArg v_ad f6
  have ad_9 : v_ad (n_v vs 9) = w_ar ws (n_v vs 0) 84 := congrArg v_ad f18
  have ad_7 : v_ad (n_v vs 7) = w_ar ws (n_v vs 0) 83 := congrArg v_ad f20
  simp only [ad_18] at f5
  have h5 : v_iv (n_v vs 20) = w_ei ws (w_ar ws (n_v vs 0) 82) (v_iv (n_v vs 10)) := f5
  simp only [ad_18] at f7
  have h7 : v_iv (n_v vs 19) = w_ei ws (w_ar ws (n_v vs 0) 82) (v_iv (n_v vs 8)) := f7
  simp only [ad_9] at f17
  have h17 : v_iv (n_v vs 10) = w_ei ws (w_ar ws (n_v vs 0) 84) (v_iv (n_v vs 4)) := f17
  simp only [ad_7] at f19
  have h19 : v_iv (n_v vs 8) = w_ei ws (w_ar ws (n_v vs 0) 83) (v_iv (n_v vs 4)) := f19
  have nf0 : fc_1 PRD (20, [1, 3, 22], [60, 0, 5, 425, 82, 93, 83, 84, 86]) ws (vs) := by
    refine ⟨nf_in hl rfl, sgq_1245 ?_⟩
    · show RD1 (w_ei ws (w_ar ws (n_v vs 1) 82)) (w_ei ws (w_ar ws (n_v vs 1) 93)) (w_ei ws (w_ar ws (n_v vs 1) 83)) (w_ei ws (w_ar ws (n_v vs 1) 84)) (w_ei ws (w_ar ws (n_v vs 1) 86)) (v_iv (n_v vs 3)) (v_iv (n_v vs 22))
      rw [q1]
      exact vc_Mo_rise_16_0 (v_iv (n_v vs 3)) (v_iv (n_v vs 4)) (v_iv (n_v vs 8)) (v_iv (n_v vs 10)) (v_iv (n_v vs 19)) (v_iv (n_v vs 20)) (v_iv (n_v vs 21)) (v_iv (n_v vs 22)) (w_ei ws (w_ar ws (n_v vs 0) 82)) (w_ei ws (w_ar ws (n_v vs 0) 93)) (w_ei ws (w_ar ws (n_v vs 0) 86)) (w_ei ws (w_ar ws (n_v vs 0) 84)) (w_ei ws (w_ar ws (n_v vs 0) 83)) k3 k4 k8 k10 k19 k20 k21 k22 d2 f0 f1 f4 h5 h7 h17 h19 f25
  refine ⟨(fun _ h => (by cases h)), [], trivial, ?_, (fun _ h => (by cases h))⟩
  rw [List.append_nil]
  exact List.forall_mem_cons.mpr ⟨⟨show (20 : Nat) < 100 from by decide, nf0⟩, (fun _ h => (by cases h))⟩
set_option maxHeartbeats 4000000 in
theorem vc_Mo_rise_17_0 (x3 : Int) (x4 : Int) (x8 : Int) (x10 : Int) (x16 : Int) (x19 : Int) (x20 : Int) (x21 : Int) (x22 : Int) (spot_0 : Int → Int) (goes_0 : Int → Int) (costPlain_0 : Int → Int) (costB_0 : Int → Int) (costA_0 : Int → Int) (k3 : 1 ≤ x3 ∧ x3 ≤ 1000000) (k4 : 0 ≤ x4 ∧ x4 ≤ 199) (k8 : 0 ≤ x8 ∧ x8 ≤ 75) (k10 : 0 ≤ x10 ∧ x10 ≤ 75) (k16 : 1 ≤ x16 ∧ x16 ≤ 1) (k19 : 0 ≤ x19 ∧ x19 ≤ 221100000) (k20 : 0 ≤ x20 ∧ x20 ≤ 221100000) (k21 : (-221100000) ≤ x21 ∧ x21 ≤ 0) (k22 : 1 ≤ x22 ∧ x22 ≤ 200) (f0 : x22 = x4 + 1) (f2 : x21 = x19 - x20) (h3 : x20 = spot_0 (x8)) (h5 : x19 = spot_0 (x10)) (h7 : x16 = goes_0 (x8)) (h15 : x10 = costB_0 (x4)) (h17 : x8 = costA_0 (x4)) (f23 : RD1 (spot_0) (goes_0) (costA_0) (costB_0) (costPlain_0) (x3) (x4)) : RD1 (spot_0) (goes_0) (costA_0) (costB_0) (costPlain_0) (x3) (x22) := by
  first
    | exact rd1_go (a := x8) (b := x10) ‹RD1 _ _ _ _ _ _ _› (by assumption) (by assumption) (by assumption) ⟨by have h := rd1_pos ‹RD1 _ _ _ _ _ _ _›; omega, by omega⟩ (fun z => ⟨by intros; omega, by intros; omega⟩)
    | exact rd1_go (a := x8) (b := x10) ‹RD1 _ _ _ _ _ _ _› (by assumption) (by assumption) (by assumption) ⟨by have h := rd1_pos ‹RD1 _ _ _ _ _ _ _›; omega, by omega⟩ (fun z => by exfalso; omega)
def o_Mo_rise_17 : or_T := (129, 23, [(0, (2, 0, 0, [165])), (1, (2, 0, 0, [165])), (3, (0, 1, 1000000, [])), (4, (0, 0, 199, [])), (5, (0, -2, 221100001, [])), (6, (0, 1, 200, [])), (7, (2, 0, 0, [220])), (8, (0, 0, 75, [])), (9, (2, 0, 0, [221])), (10, (0, 0, 75, [])), (11, (2, 0, 0, [223])), (12, (0, 0, 0, [])), (13, (2, 0, 0, [230])), (14, (0, -14400, 14400, [])), (15, (0, -14400, 14400, [])), (16, (0, 1, 1, [])), (17, (0, 1, 1, [])), (18, (2, 0, 0, [219])), (19, (0, 0, 221100000, [])), (20, (0, 0, 221100000, [])), (21, (0, -221100000, 0, [])), (22, (0, 1, 200, []))], [(6, [22, 4], [1]), (8, [21], [5]), (2, [21, 19, 20], []), (10, [20, 18, 8], []), (9, [18, 1], [82]), (10, [19, 18, 10], []), (7, [16, 17], [0]), (10, [16, 13, 8], []), (9, [13, 1], [93]), (7, [14, 15], [1]), (10, [15, 13, 10], []), (10, [14, 13, 8], []), (8, [12], [0]), (10, [12, 11, 4], []), (9, [11, 1], [86]), (10, [10, 9, 4], []), (9, [9, 1], [84]), (10, [8, 7, 4], []), (9, [7, 1], [83]), (7, [4, 6], [2]), (9, [6, 1], [80]), (20, [1, 5], [60, 3, 8, 423, 79, 80, 81, 82, 83, 84, 85, 86, 87, 88, 89]), (20, [1], [60, 3, 9, 418, 79, 80, 81, 93, 82, 83, 84, 85, 86, 87, 88, 89]), (20, [1, 3, 4], [60, 0, 5, 425, 82, 93, 83, 84, 86]), (23, [5], [-1, -1]), (24, [0, 1], [])], [], [], [(20, [1, 3, 22], [60, 0, 5, 425, 82, 93, 83, 84, 86])], [], [(22, 4, 1, 1), (22, 6, -4294967296, 0), (21, 19, -221100000, 0), (4, 6, -4294967296, -1)])
theorem oo_Mo_rise_17 {kA : Nat → ClassId} : or_ok PRD kA GG o_Mo_rise_17 := by
  refine or_mk fun A ta ws vs hD hth hl => ?_
  intro t0 r0 t1 r1 t3 k3 t4 k4 t5 k5 t6 k6 t7 r7 t8 k8 t9 r9 t10 k10 t11 r11 t12 k12 t13 r13 t14 k14 t15 k15 t16 k16 t17 k17 t18 r18 t19 k19 t20 k20 t21 k21 t22 k22 d0 d1 d2 d3 f0 f1 f2 f3 f4 f5 f6 f7 f8 f9 f10 f11 f12 f13 f14 f15 f16 f17 f18 f19 f20 f21 f22 f23 f24 f25
  replace f0 := shm_4 f0
  replace f2 := shm_14 f2
  replace f3 := shm_107 f3
  replace f4 := shm_1165 f4
  replace f5 := shm_107 f5
  replace f7 := shm_107 f7
  replace f8 := shm_1162 f8
  replace f15 := shm_107 f15
  replace f16 := shm_562 f16
  replace f17 := shm_107 f17
  replace f18 := shm_556 f18
  replace f23 := shm_1245 f23
  replace f25 := shm_5 f25
  have q1 : n_v vs 1 = n_v vs 0 := f25.symm
  simp only [q1] at f4 f8 f16 f18 f23
  have ad_18 : v_ad (n_v vs 18) = w_ar ws (n_v vs 0) 82 := congrArg v_ad f4
  have ad_13 : v_ad (n_v vs 13) = w_ar ws (n_v vs 0) 93 := congrArg v_ad f8
  have ad_9 : v_ad (n_v vs 9) = w_ar ws (n_v vs 0) 84 := congrArg v_ad f16
  have ad_7 : v_ad (n_v vs 7) = w_ar ws (n_v vs 0) 83 := congrArg v_ad f18
  simp only [ad_18] at f3
  have h3 : v_iv (n_v vs 20) = w_ei ws (w_ar ws (n_v vs 0) 82) (v_iv (n_v vs 8)) := f3
  simp only [ad_18] at f5
  have h5 : v_iv (n_v vs 19) = w_ei ws (w_ar ws (n_v vs 0) 82) (v_iv (n_v vs 10)) := f5
  simp only [ad_13] at f7
  have h7 : v_iv (n_v vs 16) = w_ei ws (w_ar ws (n_v vs 0) 93) (v_iv (n_v vs 8)) := f7
  simp only [ad_9] at f15
  have h15 : v_iv (n_v vs 10) = w_ei ws (w_ar ws (n_v vs 0) 84) (v_iv (n_v vs 4)) := f15
  simp only [ad_7] at f17
  have h17 : v_iv (n_v vs 8) = w_ei ws (w_ar ws (n_v vs 0) 83) (v_iv (n_v vs 4)) := f17
  have nf0 : fc_1 PRD (20, [1, 3, 22], [60, 0, 5, 425, 82, 93, 83, 84, 86]) ws (vs) := by
    refine ⟨nf_in hl rfl, sgq_1245 ?_⟩
    · show RD1 (w_ei ws (w_ar ws (n_v vs 1) 82)) (w_ei ws (w_ar ws (n_v vs 1) 93)) (w_ei ws (w_ar ws (n_v vs 1) 83)) (w_ei ws (w_ar ws (n_v vs 1) 84)) (w_ei ws (w_ar ws (n_v vs 1) 86)) (v_iv (n_v vs 3)) (v_iv (n_v vs 22))
      rw [q1]
      exact vc_Mo_rise_17_0 (v_iv (n_v vs 3)) (v_iv (n_v vs 4)) (v_iv (n_v vs 8)) (v_iv (n_v vs 10)) (v_iv (n_v vs 16)) (v_iv (n_v vs 19)) (v_iv (n_v vs 20)) (v_iv (n_v vs 21)) (v_iv (n_v vs 22)) (w_ei ws (w_ar ws (n_v vs 0) 82)) (w_ei ws (w_ar ws (n_v vs 0) 93)) (w_ei ws (w_ar ws (n_v vs 0) 86)) (w_ei ws (w_ar ws (n_v vs 0) 84)) (w_ei ws (w_ar ws (n_v vs 0) 83)) k3 k4 k8 k10 k16 k19 k20 k21 k22 f0 f2 h3 h5 h7 h15 h17 f23
  refine ⟨(fun _ h => (by cases h)), [], trivial, ?_, (fun _ h => (by cases h))⟩
  rw [List.append_nil]
  exact List.forall_mem_cons.mpr ⟨⟨show (20 : Nat) < 100 from by decide, nf0⟩, (fun _ h => (by cases h))⟩
set_option maxHeartbeats 4000000 in
theorem vc_Mo_rise_18_0 (x3 : Int) (x4 : Int) (x8 : Int) (x10 : Int) (x16 : Int) (x19 : Int) (x20 : Int) (x21 : Int) (x22 : Int) (spot_0 : Int → Int) (goes_0 : Int → Int) (costPlain_0 : Int → Int) (costB_0 : Int → Int) (costA_0 : Int → Int) (k3 : 1 ≤ x3 ∧ x3 ≤ 1000000) (k4 : 0 ≤ x4 ∧ x4 ≤ 199) (k8 : 0 ≤ x8 ∧ x8 ≤ 75) (k10 : 0 ≤ x10 ∧ x10 ≤ 75) (k16 : 1 ≤ x16 ∧ x16 ≤ 1) (k19 : 1 ≤ x19 ∧ x19 ≤ 221100000) (k20 : 0 ≤ x20 ∧ x20 ≤ 221100000) (k21 : 1 ≤ x21 ∧ x21 ≤ 1000000) (k22 : 1 ≤ x22 ∧ x22 ≤ 200) (f0 : x22 = x4 + 1) (f1 : x21 ≤ x3) (f4 : x21 = x19 - x20) (h5 : x20 = spot_0 (x8)) (h7 : x19 = spot_0 (x10)) (h9 : x16 = goes_0 (x8)) (h17 : x10 = costB_0 (x4)) (h19 : x8 = costA_0 (x4)) (f25 : RD1 (spot_0) (goes_0) (costA_0) (costB_0) (costPlain_0) (x3) (x4)) : RD1 (spot_0) (goes_0) (costA_0) (costB_0) (costPlain_0) (x21) (x22) := by
  first
    | exact rd1_go (a := x8) (b := x10) ‹RD1 _ _ _ _ _ _ _› (by assumption) (by assumption) (by assumption) ⟨by have h := rd1_pos ‹RD1 _ _ _ _ _ _ _›; omega, by omega⟩ (fun z => ⟨by intros; omega, by intros; omega⟩)
    | exact rd1_go (a := x8) (b := x10) ‹RD1 _ _ _ _ _ _ _› (by assumption) (by assumption) (by assumption) ⟨by have h := rd1_pos ‹RD1 _ _ _ _ _ _ _›; omega, by omega⟩ (fun z => by exfalso; omega)
def o_Mo_rise_18 : or_T := (129, 23, [(0, (2, 0, 0, [165])), (1, (2, 0, 0, [165])), (3, (0, 1, 1000000, [])), (4, (0, 0, 199, [])), (5, (0, -2, 221100001, [])), (6, (0, 1, 200, [])), (7, (2, 0, 0, [220])), (8, (0, 0, 75, [])), (9, (2, 0, 0, [221])), (10, (0, 0, 75, [])), (11, (2, 0, 0, [223])), (12, (0, 0, 0, [])), (13, (2, 0, 0, [230])), (14, (0, -14400, 14400, [])), (15, (0, -14400, 14400, [])), (16, (0, 1, 1, [])), (17, (0, 1, 1, [])), (18, (2, 0, 0, [219])), (19, (0, 1, 221100000, [])), (20, (0, 0, 221100000, [])), (21, (0, 1, 1000000, [])), (22, (0, 1, 200, []))], [(6, [22, 4], [1]), (7, [21, 3], [5]), (7, [21, 21], [5]), (8, [21], [4]), (2, [21, 19, 20], []), (10, [20, 18, 8], []), (9, [18, 1], [82]), (10, [19, 18, 10], []), (7, [16, 17], [0]), (10, [16, 13, 8], []), (9, [13, 1], [93]), (7, [14, 15], [1]), (10, [15, 13, 10], []), (10, [14, 13, 8], []), (8, [12], [0]), (10, [12, 11, 4], []), (9, [11, 1], [86]), (10, [10, 9, 4], []), (9, [9, 1], [84]), (10, [8, 7, 4], []), (9, [7, 1], [83]), (7, [4, 6], [2]), (9, [6, 1], [80]), (20, [1, 5], [60, 3, 8, 423, 79, 80, 81, 82, 83, 84, 85, 86, 87, 88, 89]), (20, [1], [60, 3, 9, 418, 79, 80, 81, 93, 82, 83, 84, 85, 86, 87, 88, 89]), (20, [1, 3, 4], [60, 0, 5, 425, 82, 93, 83, 84, 86]), (23, [5], [-1, -1]), (24, [0, 1], [])], [], [], [(20, [1, 21, 22], [60, 0, 5, 425, 82, 93, 83, 84, 86])], [], [(22, 4, 1, 1), (22, 6, -4294967296, 0), (3, 21, 0, 4294967296), (21, 19, -221100000, 0), (4, 6, -4294967296, -1)])
theorem oo_Mo_rise_18 {kA : Nat → ClassId} : or_ok PRD kA GG o_Mo_rise_18 := by
  refine or_mk fun A ta ws vs hD hth hl => ?_
  intro t0 r0 t1 r1 t3 k3 t4 k4 t5 k5 t6 k6 t7 r7 t8 k8 t9 r9 t10 k10 t11 r11 t12 k12 t13 r13 t14 k14 t15 k15 t16 k16 t17 k17 t18 r18 t19 k19 t20 k20 t21 k21 t22 k22 d0 d1 d2 d3 d4 f0 f1 f2 f3 f4 f5 f6 f7 f8 f9 f10 f11 f12 f13 f14 f15 f16 f17 f18 f19 f20 f21 f22 f23 f24 f25 f26 f27
  replace f0 := shm_4 f0
  replace f1 := shm_24 f1
  replace f4 := shm_14 f4
  replace f5 := shm_107 f5
  replace f6 := shm_1165 f6
  replace f7 := shm_107 f7
  replace f9 := shm_107 f9
  replace f10 := shm_1162 f10
  replace f17 := shm_107 f17
  replace f18 := shm_562 f18
  replace f19 := shm_107 f19
  replace f20 := shm_556 f20
  replace f25 := shm_1245 f25
  replace f27 := shm_5 f27
  have q1 : n_v vs 1 = n_v vs 0 := f27.symm
  simp only [q1] at f6 f10 f18 f20 f25
  have ad_18 : v_ad (n_v vs 18) = w_ar ws (n_v vs 0) 82 := congrArg v_ad f6
  have ad_13 : v_ad (n_v vs 13) = w_ar ws (n_v vs 0) 93 := congrArg v_ad f10
  have ad_9 : v_ad (n_v vs 9) = w_ar ws (n_v vs 0) 84 := congrArg v_ad f18
  have ad_7 : v_ad (n_v vs 7) = w_ar ws (n_v vs 0) 83 := congrArg v_ad f20
  simp only [ad_18] at f5
  have h5 : v_iv (n_v vs 20) = w_ei ws (w_ar ws (n_v vs 0) 82) (v_iv (n_v vs 8)) := f5
  simp only [ad_18] at f7
  have h7 : v_iv (n_v vs 19) = w_ei ws (w_ar ws (n_v vs 0) 82) (v_iv (n_v vs 10)) := f7
  simp only [ad_13] at f9
  have h9 : v_iv (n_v vs 16) = w_ei ws (w_ar ws (n_v vs 0) 93) (v_iv (n_v vs 8)) := f9
  simp only [ad_9] at f17
  have h17 : v_iv (n_v vs 10) = w_ei ws (w_ar ws (n_v vs 0) 84) (v_iv (n_v vs 4)) := f17
  simp only [ad_7] at f19
  have h19 : v_iv (n_v vs 8) = w_ei ws (w_ar ws (n_v vs 0) 83) (v_iv (n_v vs 4)) := f19
  have nf0 : fc_1 PRD (20, [1, 21, 22], [60, 0, 5, 425, 82, 93, 83, 84, 86]) ws (vs) := by
    refine ⟨nf_in hl rfl, sgq_1245 ?_⟩
    · show RD1 (w_ei ws (w_ar ws (n_v vs 1) 82)) (w_ei ws (w_ar ws (n_v vs 1) 93)) (w_ei ws (w_ar ws (n_v vs 1) 83)) (w_ei ws (w_ar ws (n_v vs 1) 84)) (w_ei ws (w_ar ws (n_v vs 1) 86)) (v_iv (n_v vs 21)) (v_iv (n_v vs 22))
      rw [q1]
      exact vc_Mo_rise_18_0 (v_iv (n_v vs 3)) (v_iv (n_v vs 4)) (v_iv (n_v vs 8)) (v_iv (n_v vs 10)) (v_iv (n_v vs 16)) (v_iv (n_v vs 19)) (v_iv (n_v vs 20)) (v_iv (n_v vs 21)) (v_iv (n_v vs 22)) (w_ei ws (w_ar ws (n_v vs 0) 82)) (w_ei ws (w_ar ws (n_v vs 0) 93)) (w_ei ws (w_ar ws (n_v vs 0) 86)) (w_ei ws (w_ar ws (n_v vs 0) 84)) (w_ei ws (w_ar ws (n_v vs 0) 83)) k3 k4 k8 k10 k16 k19 k20 k21 k22 f0 f1 f4 h5 h7 h9 h17 h19 f25
  refine ⟨(fun _ h => (by cases h)), [], trivial, ?_, (fun _ h => (by cases h))⟩
  rw [List.append_nil]
  exact List.forall_mem_cons.mpr ⟨⟨show (20 : Nat) < 100 from by decide, nf0⟩, (fun _ h => (by cases h))⟩
set_option maxHeartbeats 4000000 in
theorem vc_Mo_rise_19_0 (x3 : Int) (x4 : Int) (x8 : Int) (x10 : Int) (x16 : Int) (x19 : Int) (x20 : Int) (x21 : Int) (x22 : Int) (spot_0 : Int → Int) (goes_0 : Int → Int) (costPlain_0 : Int → Int) (costB_0 : Int → Int) (costA_0 : Int → Int) (k3 : 1 ≤ x3 ∧ x3 ≤ 1000000) (k4 : 0 ≤ x4 ∧ x4 ≤ 199) (k8 : 0 ≤ x8 ∧ x8 ≤ 75) (k10 : 0 ≤ x10 ∧ x10 ≤ 75) (k16 : 1 ≤ x16 ∧ x16 ≤ 1) (k19 : 1 ≤ x19 ∧ x19 ≤ 221100000) (k20 : 0 ≤ x20 ∧ x20 ≤ 221100000) (k21 : 2 ≤ x21 ∧ x21 ≤ 221100000) (k22 : 1 ≤ x22 ∧ x22 ≤ 200) (d2 : x21 + (-4294967296) ≤ x3 ∧ x3 ≤ x21 + (-1)) (f0 : x22 = x4 + 1) (f1 : x3 ≤ x3) (f4 : x21 = x19 - x20) (h5 : x20 = spot_0 (x8)) (h7 : x19 = spot_0 (x10)) (h9 : x16 = goes_0 (x8)) (h17 : x10 = costB_0 (x4)) (h19 : x8 = costA_0 (x4)) (f25 : RD1 (spot_0) (goes_0) (costA_0) (costB_0) (costPlain_0) (x3) (x4)) : RD1 (spot_0) (goes_0) (costA_0) (costB_0) (costPlain_0) (x3) (x22) := by
  first
    | exact rd1_go (a := x8) (b := x10) ‹RD1 _ _ _ _ _ _ _› (by assumption) (by assumption) (by assumption) ⟨by have h := rd1_pos ‹RD1 _ _ _ _ _ _ _›; omega, by omega⟩ (fun z => ⟨by intros; omega, by intros; omega⟩)
    | exact rd1_go (a := x8) (b := x10) ‹RD1 _ _ _ _ _ _ _› (by assumption) (by assumption) (by assumption) ⟨by have h := rd1_pos ‹RD1 _ _ _ _ _ _ _›; omega, by omega⟩ (fun z => by exfalso; omega)
def o_Mo_rise_19 : or_T := (129, 23, [(0, (2, 0, 0, [165])), (1, (2, 0, 0, [165])), (3, (0, 1, 1000000, [])), (4, (0, 0, 199, [])), (5, (0, -2, 221100001, [])), (6, (0, 1, 200, [])), (7, (2, 0, 0, [220])), (8, (0, 0, 75, [])), (9, (2, 0, 0, [221])), (10, (0, 0, 75, [])), (11, (2, 0, 0, [223])), (12, (0, 0, 0, [])), (13, (2, 0, 0, [230])), (14, (0, -14400, 14400, [])), (15, (0, -14400, 14400, [])), (16, (0, 1, 1, [])), (17, (0, 1, 1, [])), (18, (2, 0, 0, [219])), (19, (0, 1, 221100000, [])), (20, (0, 0, 221100000, [])), (21, (0, 2, 221100000, [])), (22, (0, 1, 200, []))], [(6, [22, 4], [1]), (7, [3, 3], [5]), (7, [3, 21], [5]), (8, [21], [4]), (2, [21, 19, 20], []), (10, [20, 18, 8], []), (9, [18, 1], [82]), (10, [19, 18, 10], []), (7, [16, 17], [0]), (10, [16, 13, 8], []), (9, [13, 1], [93]), (7, [14, 15], [1]), (10, [15, 13, 10], []), (10, [14, 13, 8], []), (8, [12], [0]), (10, [12, 11, 4], []), (9, [11, 1], [86]), (10, [10, 9, 4], []), (9, [9, 1], [84]), (10, [8, 7, 4], []), (9, [7, 1], [83]), (7, [4, 6], [2]), (9, [6, 1], [80]), (20, [1, 5], [60, 3, 8, 423, 79, 80, 81, 82, 83, 84, 85, 86, 87, 88, 89]), (20, [1], [60, 3, 9, 418, 79, 80, 81, 93, 82, 83, 84, 85, 86, 87, 88, 89]), (20, [1, 3, 4], [60, 0, 5, 425, 82, 93, 83, 84, 86]), (23, [5], [-1, -1]), (24, [0, 1], [])], [], [], [(20, [1, 3, 22], [60, 0, 5, 425, 82, 93, 83, 84, 86])], [], [(22, 4, 1, 1), (22, 6, -4294967296, 0), (3, 21, -4294967296, -1), (21, 19, -221100000, 0), (4, 6, -4294967296, -1)])
theorem oo_Mo_rise_19 {kA : Nat → ClassId} : or_ok PRD kA GG o_Mo_rise_19 := by
  refine or_mk fun A ta ws vs hD hth hl => ?_
  intro t0 r0 t1 r1 t3 k3 t4 k4 t5 k5 t6 k6 t7 r7 t8 k8 t9 r9 t10 k10 t11 r11 t12 k12 t13 r13 t14 k14 t15 k15 t16 k16 t17 k17 t18 r18 t19 k19 t20 k20 t21 k21 t22 k22 d0 d1 d2 d3 d4 f0 f1 f2 f3 f4 f5 f6 f7 f8 f9 f10 f11 f12 f13 f14 f15 f16 f17 f18 f19 f20 f21 f22 f23 f24 f25 f26 f27
  replace f0 := shm_4 f0
  replace f1 := shm_125 f1
  replace f4 := shm_14 f4
  replace f5 := shm_107 f5
  replace f6 := shm_1165 f6
  replace f7 := shm_107 f7
  replace f9 := shm_107 f9
  replace f10 := shm_1162 f10
  replace f17 := shm_107 f17
  replace f18 := shm_562 f18
  replace f19 := shm_107 f19
  replace f20 := shm_556 f20
  replace f25 := shm_1245 f25
  replace f27 := shm_5 f27
  have q1 : n_v vs 1 = n_v vs 0 := f27.symm
  simp only [q1] at f6 f10 f18 f20 f25
  have ad_18 : v_ad (n_v vs 18) = w_ar ws (n_v vs 0) 82 := congrArg v_ad f6
  have ad_13 : v_ad (n_v vs 13) = w_ar ws (n_v vs 0) 93 := congrArg v_ad f10
  have ad_9 : v_ad (n_v vs 9) = w_ar ws (n_v vs 0) 84 := congrArg v_ad f18
  have ad_7 : v_ad (n_v vs 7) = w_ar ws (n_v vs 0) 83 := congrArg v_ad f20
  simp only [ad_18] at f5
  have h5 : v_iv (n_v vs 20) = w_ei ws (w_ar ws (n_v vs 0) 82) (v_iv (n_v vs 8)) := f5
  simp only [ad_18] at f7
  have h7 : v_iv (n_v vs 19) = w_ei ws (w_ar ws (n_v vs 0) 82) (v_iv (n_v vs 10)) := f7
  simp only [ad_13] at f9
  have h9 : v_iv (n_v vs 16) = w_ei ws (w_ar ws (n_v vs 0) 93) (v_iv (n_v vs 8)) := f9
  simp only [ad_9] at f17
  have h17 : v_iv (n_v vs 10) = w_ei ws (w_ar ws (n_v vs 0) 84) (v_iv (n_v vs 4)) := f17
  simp only [ad_7] at f19
  have h19 : v_iv (n_v vs 8) = w_ei ws (w_ar ws (n_v vs 0) 83) (v_iv (n_v vs 4)) := f19
  have nf0 : fc_1 PRD (20, [1, 3, 22], [60, 0, 5, 425, 82, 93, 83, 84, 86]) ws (vs) := by
    refine ⟨nf_in hl rfl, sgq_1245 ?_⟩
    · show RD1 (w_ei ws (w_ar ws (n_v vs 1) 82)) (w_ei ws (w_ar ws (n_v vs 1) 93)) (w_ei ws (w_ar ws (n_v vs 1) 83)) (w_ei ws (w_ar ws (n_v vs 1) 84)) (w_ei ws (w_ar ws (n_v vs 1) 86)) (v_iv (n_v vs 3)) (v_iv (n_v vs 22))
      rw [q1]
      exact vc_Mo_rise_19_0 (v_iv (n_v vs 3)) (v_iv (n_v vs 4)) (v_iv (n_v vs 8)) (v_iv (n_v vs 10)) (v_iv (n_v vs 16)) (v_iv (n_v vs 19)) (v_iv (n_v vs 20)) (v_iv (n_v vs 21)) (v_iv (n_v vs 22)) (w_ei ws (w_ar ws (n_v vs 0) 82)) (w_ei ws (w_ar ws (n_v vs 0) 93)) (w_ei ws (w_ar ws (n_v vs 0) 86)) (w_ei ws (w_ar ws (n_v vs 0) 84)) (w_ei ws (w_ar ws (n_v vs 0) 83)) k3 k4 k8 k10 k16 k19 k20 k21 k22 d2 f0 f1 f4 h5 h7 h9 h17 h19 f25
  refine ⟨(fun _ h => (by cases h)), [], trivial, ?_, (fun _ h => (by cases h))⟩
  rw [List.append_nil]
  exact List.forall_mem_cons.mpr ⟨⟨show (20 : Nat) < 100 from by decide, nf0⟩, (fun _ h => (by cases h))⟩
set_option maxHeartbeats 4000000 in
theorem vc_Mo_rise_20_0 (x3 : Int) (x4 : Int) (x8 : Int) (x10 : Int) (x14 : Int) (x15 : Int) (x16 : Int) (goes_0 : Int → Int) (costPlain_0 : Int → Int) (costB_0 : Int → Int) (costA_0 : Int → Int) (spot_0 : Int → Int) (k3 : 1 ≤ x3 ∧ x3 ≤ 1000000) (k4 : 0 ≤ x4 ∧ x4 ≤ 199) (k8 : 0 ≤ x8 ∧ x8 ≤ 75) (k10 : 0 ≤ x10 ∧ x10 ≤ 75) (k14 : (-14400) ≤ x14 ∧ x14 ≤ 14400) (k15 : (-14400) ≤ x15 ∧ x15 ≤ 14400) (k16 : 1 ≤ x16 ∧ x16 ≤ 200) (d2 : x15 + 0 ≤ x14 ∧ x14 ≤ x15 + 0) (f0 : x16 = x4 + 1) (h2 : x15 = goes_0 (x10)) (h4 : x14 = goes_0 (x8)) (h8 : x10 = costB_0 (x4)) (h10 : x8 = costA_0 (x4)) (f16 : RD1 (spot_0) (goes_0) (costA_0) (costB_0) (costPlain_0) (x3) (x4)) : RD1 (spot_0) (goes_0) (costA_0) (costB_0) (costPlain_0) (x3) (x16) := by
  first
    | exact rd1_go (a := x8) (b := x10) ‹RD1 _ _ _ _ _ _ _› (by assumption) (by assumption) (by assumption) ⟨by have h := rd1_pos ‹RD1 _ _ _ _ _ _ _›; omega, by omega⟩ (fun z => ⟨by intros; omega, by intros; omega⟩)
    | exact rd1_go (a := x8) (b := x10) ‹RD1 _ _ _ _ _ _ _› (by assumption) (by assumption) (by assumption) ⟨by have h := rd1_pos ‹RD1 _ _ _ _ _ _ _›; omega, by omega⟩ (fun z => by exfalso; omega)
def o_Mo_rise_20 : or_T := (129, 17, [(3, (0, 1, 1000000, [])), (4, (0, 0, 199, [])), (8, (0, 0, 75, [])), (10, (0, 0, 75, [])), (14, (0, -14400, 14400, [])), (15, (0, -14400, 14400, [])), (16, (0, 1, 200, []))], [(6, [16, 4], [1]), (10, [15, 13, 10], []), (9, [13, 1], [93]), (10, [14, 13, 8], []), (10, [10, 9, 4], []), (9, [9, 1], [84]), (10, [8, 7, 4], []), (9, [7, 1], [83]), (20, [1, 3, 4], [60, 0, 5, 425, 82, 93, 83, 84, 86]), (24, [0, 1], [])], [], [], [(20, [1, 3, 16], [60, 0, 5, 425, 82, 93, 83, 84, 86])], [], [(14, 15, 0, 0)])
theorem oo_Mo_rise_20 {kA : Nat → ClassId} : or_ok PRD kA GG o_Mo_rise_20 := by
  refine or_mk fun A ta ws vs hD hth hl => ?_
  intro t3 k3 t4 k4 t8 k8 t10 k10 t14 k14 t15 k15 t16 k16 d2 f0 f2 f3 f4 f8 f9 f10 f11 f16 f18
  replace f0 := shm_4 f0
  replace f2 := shm_107 f2
  replace f3 := shm_1162 f3
  replace f4 := shm_107 f4
  replace f8 := shm_107 f8
  replace f9 := shm_562 f9
  replace f10 := shm_107 f10
  replace f11 := shm_556 f11
  replace f16 := shm_1245 f16
  replace f18 := shm_5 f18
  have q1 : n_v vs 1 = n_v vs 0 := f18.symm
  simp only [q1] at f3 f9 f11 f16
  have ad_13 : v_ad (n_v vs 13) = w_ar ws (n_v vs 0) 93 := congrArg v_ad f3
  have ad_9 : v_ad (n_v vs 9) = w_ar ws (n_v vs 0) 84 := congrArg v_ad f9
  have ad_7 : v_ad (n_v vs 7) = w_ar ws (n_v vs 0) 83 := congrArg v_ad f11
  simp only [ad_13] at f2
  have h2 : v_iv (n_v vs 15) = w_ei ws (w_ar ws (n_v vs 0) 93) (v_iv (n_v vs 10)) := f2
  simp only [ad_13] at f4
  have h4 : v_iv (n_v vs 14) = w_ei ws (w_ar ws (n_v vs 0) 93) (v_iv (n_v vs 8)) := f4
  simp only [ad_9] at f8
  have h8 : v_iv (n_v vs 10) = w_ei ws (w_ar ws (n_v vs 0) 84) (v_iv (n_v vs 4)) := f8
  simp only [ad_7] at f10
  have h10 : v_iv (n_v vs 8) = w_ei ws (w_ar ws (n_v vs 0) 83) (v_iv (n_v vs 4)) := f10
  have nf0 : fc_1 PRD (20, [1, 3, 16], [60, 0, 5, 425, 82, 93, 83, 84, 86]) ws (vs) := by
    refine ⟨nf_in hl rfl, sgq_1245 ?_⟩
    · show RD1 (w_ei ws (w_ar ws (n_v vs 1) 82)) (w_ei ws (w_ar ws (n_v vs 1) 93)) (w_ei ws (w_ar ws (n_v vs 1) 83)) (w_ei ws (w_ar ws (n_v vs 1) 84)) (w_ei ws (w_ar ws (n_v vs 1) 86)) (v_iv (n_v vs 3)) (v_iv (n_v vs 16))
      rw [q1]
      exact vc_Mo_rise_20_0 (v_iv (n_v vs 3)) (v_iv (n_v vs 4)) (v_iv (n_v vs 8)) (v_iv (n_v vs 10)) (v_iv (n_v vs 14)) (v_iv (n_v vs 15)) (v_iv (n_v vs 16)) (w_ei ws (w_ar ws (n_v vs 0) 93)) (w_ei ws (w_ar ws (n_v vs 0) 86)) (w_ei ws (w_ar ws (n_v vs 0) 84)) (w_ei ws (w_ar ws (n_v vs 0) 83)) (w_ei ws (w_ar ws (n_v vs 0) 82)) k3 k4 k8 k10 k14 k15 k16 d2 f0 h2 h4 h8 h10 f16
  refine ⟨(fun _ h => (by cases h)), [], trivial, ?_, (fun _ h => (by cases h))⟩
  rw [List.append_nil]
  exact List.forall_mem_cons.mpr ⟨⟨show (20 : Nat) < 100 from by decide, nf0⟩, (fun _ h => (by cases h))⟩
set_option maxHeartbeats 4000000 in
theorem vc_Mo_rise_21_0 (x3 : Int) (x4 : Int) (x5 : Int) (x6 : Int) (x7 : Int) (apartMany_0 : Int) (spot_0 : Int → Int) (costA_0 : Int → Int) (costB_0 : Int → Int) (costW_0 : Int → Int) (costPlain_0 : Int → Int) (apartA_0 : Int → Int) (apartB_0 : Int → Int) (apart_0 : Int → Int) (pointMany_0 : Int) (costMany_0 : Int) (goes_0 : Int → Int) (gx : Int) (k3 : (-221100202) ≤ x3 ∧ x3 ≤ 1000000) (k4 : 0 ≤ x4 ∧ x4 ≤ 200) (k5 : (-2) ≤ x5 ∧ x5 ≤ 221100001) (k6 : 0 ≤ x6 ∧ x6 ≤ 200) (k7 : 0 ≤ x7 ∧ x7 ≤ 0) (d0 : x6 + 0 ≤ x4 ∧ x4 ≤ x6 + 4294967296) (g1 : x6 = apartMany_0) (f2 : RII (pointMany_0) (costMany_0) (apartMany_0) (spot_0) (costA_0) (costB_0) (costW_0) (costPlain_0) (apartA_0) (apartB_0) (apart_0) (x5)) (f3 : UPQ (pointMany_0) (costMany_0) (apartMany_0) (goes_0) (spot_0) (costA_0) (costB_0) (costW_0) (costPlain_0) (apartA_0) (apartB_0) (apart_0)) (f4 : RDC (costMany_0) (spot_0) (goes_0) (costA_0) (costB_0) (costPlain_0) (x3)) (f5 : RDA (spot_0) (goes_0) (apartA_0) (apartB_0) (apart_0) (x4) (x3)) (kz_0_79 : 0 ≤ pointMany_0 ∧ pointMany_0 ≤ 76) (kz_0_80 : 0 ≤ costMany_0 ∧ costMany_0 ≤ 200) (kz_0_81 : 0 ≤ apartMany_0 ∧ apartMany_0 ≤ 200) (ex2 : gx = 0 + (1 * x5 + 0)) : RDX (pointMany_0) (costMany_0) (apartMany_0) (spot_0) (goes_0) (costA_0) (costB_0) (costW_0) (costPlain_0) (apartA_0) (apartB_0) (apart_0) (x3) (x7) (gx) := by
  first
    | (rw [show gx = x5 by omega]; exact rd3_start ‹RII _ _ _ _ _ _ _ _ _ _ _ _› ‹UPQ _ _ _ _ _ _ _ _ _ _ _ _› (by omega) ‹RDC _ _ _ _ _ _ _› (fun j a b c d => ‹RDA _ _ _ _ _ _ _› j a (by omega) c d) (by omega))
set_option maxHeartbeats 4000000 in
theorem vc_Mo_rise_21_1 (x5 : Int) (gx : Int) (k5 : (-2) ≤ x5 ∧ x5 ≤ 221100001) (f6 : (-1) * x5 + 0 ≤ (-1)) (ex2 : gx = 0 + (1 * x5 + 0)) : (-1) * gx + 0 ≤ (-1) := by
  omega
def o_Mo_rise_21 : or_T := (328, 8, [(0, (2, 0, 0, [165])), (1, (2, 0, 0, [165])), (3, (0, -221100202, 1000000, [])), (4, (0, 0, 200, [])), (5, (0, -2, 221100001, [])), (6, (0, 0, 200, [])), (7, (0, 0, 0, []))], [(7, [4, 6], [3]), (9, [6, 1], [81]), (20, [1, 5], [60, 3, 8, 423, 79, 80, 81, 82, 83, 84, 85, 86, 87, 88, 89]), (20, [1], [60, 3, 9, 418, 79, 80, 81, 93, 82, 83, 84, 85, 86, 87, 88, 89]), (20, [1, 3], [60, 1, 5, 426, 80, 82, 93, 83, 84, 86]), (20, [1, 4, 3], [60, 0, 5, 427, 82, 93, 87, 88, 89]), (23, [5], [-1, -1]), (24, [0, 1], [])], [], [(0, -2, 221100001, [])], [(20, [1, 3, 7, 8], [60, 3, 9, 428, 79, 80, 81, 82, 93, 83, 84, 85, 86, 87, 88, 89]), (23, [8], [-1, -1]), (24, [0, 1], [])], [(8, 5, 0, 0)], [(4, 6, 0, 4294967296)])
theorem oo_Mo_rise_21 {kA : Nat → ClassId} : or_ok PRD kA GG o_Mo_rise_21 := by
  refine or_mk fun A ta ws vs hD hth hl => ?_
  intro t0 r0 t1 r1 t3 k3 t4 k4 t5 k5 t6 k6 t7 k7 d0 f0 f1 f2 f3 f4 f5 f6 f7
  replace f0 := shm_2 f0
  replace f1 := shm_497 f1
  replace f2 := shm_1240 f2
  replace f3 := shm_1244 f3
  replace f4 := shm_1246 f4
  replace f5 := shm_1247 f5
  replace f6 := shm_626 f6
  replace f7 := shm_5 f7
  have q1 : n_v vs 1 = n_v vs 0 := f7.symm
  simp only [q1] at f1 f2 f3 f4 f5
  have cr_0_82 := fdq_230 hD hth r0
  have cr_0_83 := fdq_126 hD hth r0
  have cr_0_84 := fdq_127 hD hth r0
  have cr_0_85 := fdq_128 hD hth r0
  have cr_0_86 := fdq_129 hD hth r0
  have cr_0_87 := fdq_119 hD hth r0
  have cr_0_88 := fdq_120 hD hth r0
  have cr_0_89 := fdq_121 hD hth r0
  have cr_0_93 := fdq_276 hD hth r0
  have g1 : v_iv (n_v vs 6) = w_fi ws (n_v vs 0) 81 := congrArg v_iv f1
  have hK_0_82 := elq_143 hD hth cr_0_82
  have hK_0_83 := elq_67 hD hth cr_0_83
  have hK_0_84 := elq_68 hD hth cr_0_84
  have hK_0_85 := elq_69 hD hth cr_0_85
  have hK_0_86 := elq_70 hD hth cr_0_86
  have hK_0_87 := elq_62 hD hth cr_0_87
  have hK_0_88 := elq_63 hD hth cr_0_88
  have hK_0_89 := elq_64 hD hth cr_0_89
  have hK_0_93 := elq_174 hD hth cr_0_93
  have kz_0_79 := fdq_147 hD hth r0
  have kz_0_80 := fdq_131 hD hth r0
  have kz_0_81 := fdq_124 hD hth r0
  obtain ⟨x, ex, hx⟩ := iv_ex (ta := ta) (lo := (-2)) (hi := 221100001) (z := 0 + (1 * v_iv (n_v vs 5) + 0)) (by omega) (by omega) (by omega) (by omega)
  have ex2 : v_iv (Value.int x) = 0 + (1 * v_iv (n_v vs 5) + 0) := ex
  have ex3 : (-2) ≤ v_iv (Value.int x) ∧ v_iv (Value.int x) ≤ 221100001 := tv_rng hx
  have e_0 : n_v (vs ++ [Value.int x]) 0 = n_v vs 0 := n_v_old (by rw [hl]; decide)
  have e_1 : n_v (vs ++ [Value.int x]) 1 = n_v vs 1 := n_v_old (by rw [hl]; decide)
  have e_3 : n_v (vs ++ [Value.int x]) 3 = n_v vs 3 := n_v_old (by rw [hl]; decide)
  have e_7 : n_v (vs ++ [Value.int x]) 7 = n_v vs 7 := n_v_old (by rw [hl]; decide)
  have e_8 : n_v (vs ++ [Value.int x]) 8 = Value.int x := n_v_new hl
  have nf0 : fc_1 PRD (20, [1, 3, 7, 8], [60, 3, 9, 428, 79, 80, 81, 82, 93, 83, 84, 85, 86, 87, 88, 89]) ws (vs ++ [Value.int x]) := by
    refine ⟨nf_inA hl rfl, sgq_1248 ?_⟩
    · show RDX (w_fi ws (n_v (vs ++ [Value.int x]) 1) 79) (w_fi ws (n_v (vs ++ [Value.int x]) 1) 80) (w_fi ws (n_v (vs ++ [Value.int x]) 1) 81) (w_ei ws (w_ar ws (n_v (vs ++ [Value.int x]) 1) 82)) (w_ei ws (w_ar ws (n_v (vs ++ [Value.int x]) 1) 93)) (w_ei ws (w_ar ws (n_v (vs ++ [Value.int x]) 1) 83)) (w_ei ws (w_ar ws (n_v (vs ++ [Value.int x]) 1) 84)) (w_ei ws (w_ar ws (n_v (vs ++ [Value.int x]) 1) 85)) (w_ei ws (w_ar ws (n_v (vs ++ [Value.int x]) 1) 86)) (w_ei ws (w_ar ws (n_v (vs ++ [Value.int x]) 1) 87)) (w_ei ws (w_ar ws (n_v (vs ++ [Value.int x]) 1) 88)) (w_ei ws (w_ar ws (n_v (vs ++ [Value.int x]) 1) 89)) (v_iv (n_v (vs ++ [Value.int x]) 3)) (v_iv (n_v (vs ++ [Value.int x]) 7)) (v_iv (n_v (vs ++ [Value.int x]) 8))
      simp only [e_1, e_3, e_7, e_8, q1]
      exact vc_Mo_rise_21_0 (v_iv (n_v vs 3)) (v_iv (n_v vs 4)) (v_iv (n_v vs 5)) (v_iv (n_v vs 6)) (v_iv (n_v vs 7)) (w_fi ws (n_v vs 0) 81) (w_ei ws (w_ar ws (n_v vs 0) 82)) (w_ei ws (w_ar ws (n_v vs 0) 83)) (w_ei ws (w_ar ws (n_v vs 0) 84)) (w_ei ws (w_ar ws (n_v vs 0) 85)) (w_ei ws (w_ar ws (n_v vs 0) 86)) (w_ei ws (w_ar ws (n_v vs 0) 87)) (w_ei ws (w_ar ws (n_v vs 0) 88)) (w_ei ws (w_ar ws (n_v vs 0) 89)) (w_fi ws (n_v vs 0) 79) (w_fi ws (n_v vs 0) 80) (w_ei ws (w_ar ws (n_v vs 0) 93)) (v_iv (Value.int x)) k3 k4 k5 k6 k7 d0 g1 f2 f3 f4 f5 kz_0_79 kz_0_80 kz_0_81 ex2
  have nf1 : fc_1 PRD (23, [8], [-1, -1]) ws (vs ++ [Value.int x]) := by
    refine ⟨nf_inA hl rfl, sgq_626 ?_⟩
    · show (-1) * v_iv (n_v (vs ++ [Value.int x]) 8) + 0 ≤ (-1)
      rw [e_8]
      exact vc_Mo_rise_21_1 (v_iv (n_v vs 5)) (v_iv (Value.int x)) k5 f6 ex2
  have nf2 : fc_1 PRD (24, [0, 1], []) ws (vs ++ [Value.int x]) := by
    refine ⟨nf_inA hl rfl, sgq_5 ?_⟩
    · show n_v (vs ++ [Value.int x]) 0 = n_v (vs ++ [Value.int x]) 1
      first | rfl | simp only [e_0, e_1, q1]
  obtain ⟨x0, e0, _, _⟩ := tv_int t5 rfl
  have e1 : v_iv (n_v vs 5) = x0.toInt := by rw [e0]; rfl
  have ho : sy_ofs (vs ++ [Value.int x]) (8, 5, 0, 0) := by
    refine ⟨x, x0, by rw [List.getElem?_append_right (by rw [hl]; decide), hl]; rfl, ?_, ?_, ?_⟩
    · rw [List.getElem?_append_left (by rw [hl]; decide)]; exact n_v_some (by rw [hl]; decide) e0
    · show x0.toInt + 0 ≤ x.toInt; omega
    · show x.toInt ≤ x0.toInt + 0; omega
  exact ⟨(fun _ h => (by cases h)), [Value.int x], ag_one hx, List.forall_mem_cons.mpr ⟨⟨show (20 : Nat) < 100 from by decide, nf0⟩, List.forall_mem_cons.mpr ⟨⟨show (23 : Nat) < 100 from by decide, nf1⟩, List.forall_mem_cons.mpr ⟨⟨show (24 : Nat) < 100 from by decide, nf2⟩, (fun _ h => (by cases h))⟩⟩⟩, List.forall_mem_cons.mpr ⟨ho, (fun _ h => (by cases h))⟩⟩
set_option maxHeartbeats 4000000 in
theorem vc_Mo_rise_22_0 (x3 : Int) (x4 : Int) (x9 : Int) (x10 : Int) (x11 : Int) (x12 : Int) (goes_0 : Int → Int) (apartA_0 : Int → Int) (spot_0 : Int → Int) (apartB_0 : Int → Int) (apart_0 : Int → Int) (k3 : (-221100202) ≤ x3 ∧ x3 ≤ 1000000) (k4 : 0 ≤ x4 ∧ x4 ≤ 199) (k9 : 0 ≤ x9 ∧ x9 ≤ 75) (k10 : (-14400) ≤ x10 ∧ x10 ≤ 14400) (k11 : 1 ≤ x11 ∧ x11 ≤ 1) (k12 : 1 ≤ x12 ∧ x12 ≤ 200) (f0 : x12 = x4 + 1) (f1 : x10 ≠ x11) (h2 : x10 = goes_0 (x9)) (h3 : x9 = apartA_0 (x4)) (f11 : RDA (spot_0) (goes_0) (apartA_0) (apartB_0) (apart_0) (x4) (x3)) : RDA (spot_0) (goes_0) (apartA_0) (apartB_0) (apart_0) (x12) (x3) := by
  first
    | exact rda_skip (a := x9) (x := x10) (b := 0) (z := 0) ‹RDA _ _ _ _ _ _ _› (by assumption) (Or.inl ⟨by assumption, by assumption, by omega⟩)
    | exact rda_skip (a := 0) (x := 0) (b := x13) (z := x14) ‹RDA _ _ _ _ _ _ _› (by assumption) (Or.inr ⟨by assumption, by assumption, by omega⟩)
def o_Mo_rise_22 : or_T := (248, 13, [(3, (0, -221100202, 1000000, [])), (4, (0, 0, 199, [])), (9, (0, 0, 75, [])), (10, (0, -14400, 14400, [])), (11, (0, 1, 1, [])), (12, (0, 1, 200, []))], [(6, [12, 4], [1]), (7, [10, 11], [1]), (10, [10, 7, 9], []), (10, [9, 8, 4], []), (9, [8, 1], [87]), (9, [7, 1], [93]), (20, [1, 4, 3], [60, 0, 5, 427, 82, 93, 87, 88, 89]), (24, [0, 1], [])], [], [], [(20, [1, 12, 3], [60, 0, 5, 427, 82, 93, 87, 88, 89])], [], [])
theorem oo_Mo_rise_22 {kA : Nat → ClassId} : or_ok PRD kA GG o_Mo_rise_22 := by
  refine or_mk fun A ta ws vs hD hth hl => ?_
  intro t3 k3 t4 k4 t9 k9 t10 k10 t11 k11 t12 k12 f0 f1 f2 f3 f4 f5 f11 f13
  replace f0 := shm_4 f0
  replace f1 := shm_40 f1
  replace f2 := shm_107 f2
  replace f3 := shm_107 f3
  replace f4 := shm_498 f4
  replace f5 := shm_1162 f5
  replace f11 := shm_1247 f11
  replace f13 := shm_5 f13
  have q1 : n_v vs 1 = n_v vs 0 := f13.symm
  simp only [q1] at f4 f5 f11
  have ad_8 : v_ad (n_v vs 8) = w_ar ws (n_v vs 0) 87 := congrArg v_ad f4
  have ad_7 : v_ad (n_v vs 7) = w_ar ws (n_v vs 0) 93 := congrArg v_ad f5
  simp only [ad_7] at f2
  have h2 : v_iv (n_v vs 10) = w_ei ws (w_ar ws (n_v vs 0) 93) (v_iv (n_v vs 9)) := f2
  simp only [ad_8] at f3
  have h3 : v_iv (n_v vs 9) = w_ei ws (w_ar ws (n_v vs 0) 87) (v_iv (n_v vs 4)) := f3
  have nf0 : fc_1 PRD (20, [1, 12, 3], [60, 0, 5, 427, 82, 93, 87, 88, 89]) ws (vs) := by
    refine ⟨nf_in hl rfl, sgq_1247 ?_⟩
    · show RDA (w_ei ws (w_ar ws (n_v vs 1) 82)) (w_ei ws (w_ar ws (n_v vs 1) 93)) (w_ei ws (w_ar ws (n_v vs 1) 87)) (w_ei ws (w_ar ws (n_v vs 1) 88)) (w_ei ws (w_ar ws (n_v vs 1) 89)) (v_iv (n_v vs 12)) (v_iv (n_v vs 3))
      rw [q1]
      exact vc_Mo_rise_22_0 (v_iv (n_v vs 3)) (v_iv (n_v vs 4)) (v_iv (n_v vs 9)) (v_iv (n_v vs 10)) (v_iv (n_v vs 11)) (v_iv (n_v vs 12)) (w_ei ws (w_ar ws (n_v vs 0) 93)) (w_ei ws (w_ar ws (n_v vs 0) 87)) (w_ei ws (w_ar ws (n_v vs 0) 82)) (w_ei ws (w_ar ws (n_v vs 0) 88)) (w_ei ws (w_ar ws (n_v vs 0) 89)) k3 k4 k9 k10 k11 k12 f0 f1 h2 h3 f11
  refine ⟨(fun _ h => (by cases h)), [], trivial, ?_, (fun _ h => (by cases h))⟩
  rw [List.append_nil]
  exact List.forall_mem_cons.mpr ⟨⟨show (20 : Nat) < 100 from by decide, nf0⟩, (fun _ h => (by cases h))⟩
set_option maxHeartbeats 4000000 in
theorem vc_Mo_rise_23_0 (x3 : Int) (x4 : Int) (x9 : Int) (x10 : Int) (x13 : Int) (x14 : Int) (x15 : Int) (goes_0 : Int → Int) (apartB_0 : Int → Int) (apartA_0 : Int → Int) (spot_0 : Int → Int) (apart_0 : Int → Int) (k3 : (-221100202) ≤ x3 ∧ x3 ≤ 1000000) (k4 : 0 ≤ x4 ∧ x4 ≤ 199) (k13 : 0 ≤ x13 ∧ x13 ≤ 75) (k14 : (-14400) ≤ x14 ∧ x14 ≤ 14400) (k15 : 1 ≤ x15 ∧ x15 ≤ 200) (f0 : x15 = x4 + 1) (f1 : x14 ≠ 0) (h2 : x14 = goes_0 (x13)) (h3 : x13 = apartB_0 (x4)) (f15 : RDA (spot_0) (goes_0) (apartA_0) (apartB_0) (apart_0) (x4) (x3)) : RDA (spot_0) (goes_0) (apartA_0) (apartB_0) (apart_0) (x15) (x3) := by
  first
    | exact rda_skip (a := x9) (x := x10) (b := 0) (z := 0) ‹RDA _ _ _ _ _ _ _› (by assumption) (Or.inl ⟨by assumption, by assumption, by omega⟩)
    | exact rda_skip (a := 0) (x := 0) (b := x13) (z := x14) ‹RDA _ _ _ _ _ _ _› (by assumption) (Or.inr ⟨by assumption, by assumption, by omega⟩)
def o_Mo_rise_23 : or_T := (248, 16, [(3, (0, -221100202, 1000000, [])), (4, (0, 0, 199, [])), (13, (0, 0, 75, [])), (14, (0, -14400, 14400, [])), (15, (0, 1, 200, []))], [(6, [15, 4], [1]), (8, [14], [1]), (10, [14, 7, 13], []), (10, [13, 12, 4], []), (9, [12, 1], [88]), (9, [7, 1], [93]), (20, [1, 4, 3], [60, 0, 5, 427, 82, 93, 87, 88, 89]), (24, [0, 1], [])], [], [], [(20, [1, 15, 3], [60, 0, 5, 427, 82, 93, 87, 88, 89])], [], [])
theorem oo_Mo_rise_23 {kA : Nat → ClassId} : or_ok PRD kA GG o_Mo_rise_23 := by
  refine or_mk fun A ta ws vs hD hth hl => ?_
  intro t3 k3 t4 k4 t13 k13 t14 k14 t15 k15 f0 f1 f2 f3 f4 f5 f15 f17
  replace f0 := shm_4 f0
  replace f1 := shm_142 f1
  replace f2 := shm_107 f2
  replace f3 := shm_107 f3
  replace f4 := shm_504 f4
  replace f5 := shm_1162 f5
  replace f15 := shm_1247 f15
  replace f17 := shm_5 f17
  have q1 : n_v vs 1 = n_v vs 0 := f17.symm
  simp only [q1] at f4 f5 f15
  have ad_12 : v_ad (n_v vs 12) = w_ar ws (n_v vs 0) 88 := congrArg v_ad f4
  have ad_7 : v_ad (n_v vs 7) = w_ar ws (n_v vs 0) 93 := congrArg v_ad f5
  simp only [ad_7] at f2
  have h2 : v_iv (n_v vs 14) = w_ei ws (w_ar ws (n_v vs 0) 93) (v_iv (n_v vs 13)) := f2
  simp only [ad_12] at f3
  have h3 : v_iv (n_v vs 13) = w_ei ws (w_ar ws (n_v vs 0) 88) (v_iv (n_v vs 4)) := f3
  have nf0 : fc_1 PRD (20, [1, 15, 3], [60, 0, 5, 427, 82, 93, 87, 88, 89]) ws (vs) := by
    refine ⟨nf_in hl rfl, sgq_1247 ?_⟩
    · show RDA (w_ei ws (w_ar ws (n_v vs 1) 82)) (w_ei ws (w_ar ws (n_v vs 1) 93)) (w_ei ws (w_ar ws (n_v vs 1) 87)) (w_ei ws (w_ar ws (n_v vs 1) 88)) (w_ei ws (w_ar ws (n_v vs 1) 89)) (v_iv (n_v vs 15)) (v_iv (n_v vs 3))
      rw [q1]
      exact vc_Mo_rise_23_0 (v_iv (n_v vs 3)) (v_iv (n_v vs 4)) (v_iv (n_v vs 9)) (v_iv (n_v vs 10)) (v_iv (n_v vs 13)) (v_iv (n_v vs 14)) (v_iv (n_v vs 15)) (w_ei ws (w_ar ws (n_v vs 0) 93)) (w_ei ws (w_ar ws (n_v vs 0) 88)) (w_ei ws (w_ar ws (n_v vs 0) 87)) (w_ei ws (w_ar ws (n_v vs 0) 82)) (w_ei ws (w_ar ws (n_v vs 0) 89)) k3 k4 k13 k14 k15 f0 f1 h2 h3 f15
  refine ⟨(fun _ h => (by cases h)), [], trivial, ?_, (fun _ h => (by cases h))⟩
  rw [List.append_nil]
  exact List.forall_mem_cons.mpr ⟨⟨show (20 : Nat) < 100 from by decide, nf0⟩, (fun _ h => (by cases h))⟩
set_option maxHeartbeats 4000000 in
theorem vc_Mo_rise_24_0 (x3 : Int) (x4 : Int) (x5 : Int) (x6 : Int) (x9 : Int) (x10 : Int) (x13 : Int) (x14 : Int) (x16 : Int) (x17 : Int) (x18 : Int) (x19 : Int) (x20 : Int) (x22 : Int) (x23 : Int) (x24 : Int) (apart_0 : Int → Int) (spot_0 : Int → Int) (apartA_0 : Int → Int) (apartB_0 : Int → Int) (goes_0 : Int → Int) (apartMany_0 : Int) (costA_0 : Int → Int) (costB_0 : Int → Int) (costW_0 : Int → Int) (costPlain_0 : Int → Int) (pointMany_0 : Int) (costMany_0 : Int) (k3 : (-221100202) ≤ x3 ∧ x3 ≤ 1000000) (k4 : 0 ≤ x4 ∧ x4 ≤ 199) (k5 : (-2) ≤ x5 ∧ x5 ≤ 221100001) (k6 : 1 ≤ x6 ∧ x6 ≤ 200) (k9 : 0 ≤ x9 ∧ x9 ≤ 75) (k10 : 1 ≤ x10 ∧ x10 ≤ 1) (k13 : 0 ≤ x13 ∧ x13 ≤ 75) (k14 : 0 ≤ x14 ∧ x14 ≤ 0) (k16 : 0 ≤ x16 ∧ x16 ≤ 75) (k17 : 0 ≤ x17 ∧ x17 ≤ 221100000) (k18 : 0 ≤ x18 ∧ x18 ≤ 75) (k19 : 0 ≤ x19 ∧ x19 ≤ 221100000) (k20 : (-221100000) ≤ x20 ∧ x20 ≤ 221100000) (k22 : 0 ≤ x22 ∧ x22 ≤ 202) (k23 : (-221100202) ≤ x23 ∧ x23 ≤ 1000000) (k24 : 1 ≤ x24 ∧ x24 ≤ 200) (d0 : x4 + 1 ≤ x24 ∧ x24 ≤ x4 + 1) (d1 : x6 + (-4294967296) ≤ x24 ∧ x24 ≤ x6 + 0) (d6 : x6 + (-4294967296) ≤ x4 ∧ x4 ≤ x6 + (-1)) (f1 : x23 ≤ x3) (f3 : x23 = x20 - x22) (h4 : x22 = apart_0 (x4)) (f6 : x20 = x17 - x19) (h7 : x19 = spot_0 (x18)) (h8 : x18 = apartA_0 (x4)) (h11 : x17 = spot_0 (x16)) (h12 : x16 = apartB_0 (x4)) (f14 : x14 = 0) (h15 : x14 = goes_0 (x13)) (h16 : x13 = apartB_0 (x4)) (h19 : x10 = goes_0 (x9)) (h20 : x9 = apartA_0 (x4)) (g22 : x6 = apartMany_0) (f23 : RII (pointMany_0) (costMany_0) (apartMany_0) (spot_0) (costA_0) (costB_0) (costW_0) (costPlain_0) (apartA_0) (apartB_0) (apart_0) (x5)) (f24 : UPQ (pointMany_0) (costMany_0) (apartMany_0) (goes_0) (spot_0) (costA_0) (costB_0) (costW_0) (costPlain_0) (apartA_0) (apartB_0) (apart_0)) (f25 : RDC (costMany_0) (spot_0) (goes_0) (costA_0) (costB_0) (costPlain_0) (x3)) (kz_0_79 : 0 ≤ pointMany_0 ∧ pointMany_0 ≤ 76) (kz_0_80 : 0 ≤ costMany_0 ∧ costMany_0 ≤ 200) (kz_0_81 : 0 ≤ apartMany_0 ∧ apartMany_0 ≤ 200) : RDC (costMany_0) (spot_0) (goes_0) (costA_0) (costB_0) (costPlain_0) (x23) := by
  first
    | exact rdc_less ‹RDC _ _ _ _ _ _ _› (by have h := slk (k := x4) (a := x9) (x := x10) (b := x13) (z := x14) (a_zq := x18) (ya := x19) (b_zq := x16) (yb := x17) (d := x22) ‹UPQ _ _ _ _ _ _ _ _ _ _ _ _› ‹RII _ _ _ _ _ _ _ _ _ _ _ _› (by omega) (by omega) (by assumption) (by assumption) (by omega) (by assumption) (by assumption) (by omega) (by assumption) (by assumption) (by assumption) (by assumption) (by assumption); omega) (by omega)
set_option maxHeartbeats 4000000 in
theorem vc_Mo_rise_24_1 (x3 : Int) (x4 : Int) (x9 : Int) (x10 : Int) (x13 : Int) (x14 : Int) (x16 : Int) (x17 : Int) (x18 : Int) (x19 : Int) (x20 : Int) (x22 : Int) (x23 : Int) (x24 : Int) (apart_0 : Int → Int) (spot_0 : Int → Int) (apartA_0 : Int → Int) (apartB_0 : Int → Int) (goes_0 : Int → Int) (k3 : (-221100202) ≤ x3 ∧ x3 ≤ 1000000) (k4 : 0 ≤ x4 ∧ x4 ≤ 199) (k16 : 0 ≤ x16 ∧ x16 ≤ 75) (k17 : 0 ≤ x17 ∧ x17 ≤ 221100000) (k18 : 0 ≤ x18 ∧ x18 ≤ 75) (k19 : 0 ≤ x19 ∧ x19 ≤ 221100000) (k20 : (-221100000) ≤ x20 ∧ x20 ≤ 221100000) (k22 : 0 ≤ x22 ∧ x22 ≤ 202) (k23 : (-221100202) ≤ x23 ∧ x23 ≤ 1000000) (k24 : 1 ≤ x24 ∧ x24 ≤ 200) (f0 : x24 = x4 + 1) (f1 : x23 ≤ x3) (f3 : x23 = x20 - x22) (h4 : x22 = apart_0 (x4)) (f6 : x20 = x17 - x19) (h7 : x19 = spot_0 (x18)) (h8 : x18 = apartA_0 (x4)) (h11 : x17 = spot_0 (x16)) (h12 : x16 = apartB_0 (x4)) (f26 : RDA (spot_0) (goes_0) (apartA_0) (apartB_0) (apart_0) (x4) (x3)) : RDA (spot_0) (goes_0) (apartA_0) (apartB_0) (apart_0) (x24) (x23) := by
  first
    | exact rda_go (a := x18) (ya := x19) (b := x16) (yb := x17) (w := x22) ‹RDA _ _ _ _ _ _ _› (by assumption) (by assumption) (by assumption) (by assumption) (by assumption) (by assumption) (by omega) (by omega)
def o_Mo_rise_24 : or_T := (248, 25, [(0, (2, 0, 0, [165])), (1, (2, 0, 0, [165])), (3, (0, -221100202, 1000000, [])), (4, (0, 0, 199, [])), (5, (0, -2, 221100001, [])), (6, (0, 1, 200, [])), (7, (2, 0, 0, [230])), (8, (2, 0, 0, [224])), (9, (0, 0, 75, [])), (10, (0, 1, 1, [])), (11, (0, 1, 1, [])), (12, (2, 0, 0, [225])), (13, (0, 0, 75, [])), (14, (0, 0, 0, [])), (15, (2, 0, 0, [219])), (16, (0, 0, 75, [])), (17, (0, 0, 221100000, [])), (18, (0, 0, 75, [])), (19, (0, 0, 221100000, [])), (20, (0, -221100000, 221100000, [])), (21, (2, 0, 0, [226])), (22, (0, 0, 202, [])), (23, (0, -221100202, 1000000, [])), (24, (0, 1, 200, []))], [(6, [24, 4], [1]), (7, [23, 3], [5]), (7, [23, 23], [5]), (2, [23, 20, 22], []), (10, [22, 21, 4], []), (9, [21, 1], [89]), (2, [20, 17, 19], []), (10, [19, 15, 18], []), (10, [18, 8, 4], []), (9, [8, 1], [87]), (9, [15, 1], [82]), (10, [17, 15, 16], []), (10, [16, 12, 4], []), (9, [12, 1], [88]), (8, [14], [0]), (10, [14, 7, 13], []), (10, [13, 12, 4], []), (9, [7, 1], [93]), (7, [10, 11], [0]), (10, [10, 7, 9], []), (10, [9, 8, 4], []), (7, [4, 6], [2]), (9, [6, 1], [81]), (20, [1, 5], [60, 3, 8, 423, 79, 80, 81, 82, 83, 84, 85, 86, 87, 88, 89]), (20, [1], [60, 3, 9, 418, 79, 80, 81, 93, 82, 83, 84, 85, 86, 87, 88, 89]), (20, [1, 3], [60, 1, 5, 426, 80, 82, 93, 83, 84, 86]), (20, [1, 4, 3], [60, 0, 5, 427, 82, 93, 87, 88, 89]), (23, [5], [-1, -1]), (24, [0, 1], [])], [], [], [(20, [1, 23], [60, 1, 5, 426, 80, 82, 93, 83, 84, 86]), (20, [1, 24, 23], [60, 0, 5, 427, 82, 93, 87, 88, 89])], [], [(24, 4, 1, 1), (24, 6, -4294967296, 0), (3, 23, 0, 4294967296), (23, 20, -202, 0), (23, 17, -221100202, 0), (20, 17, -221100000, 0), (4, 6, -4294967296, -1)])
theorem oo_Mo_rise_24 {kA : Nat → ClassId} : or_ok PRD kA GG o_Mo_rise_24 := by
  refine or_mk fun A ta ws vs hD hth hl => ?_
  intro t0 r0 t1 r1 t3 k3 t4 k4 t5 k5 t6 k6 t7 r7 t8 r8 t9 k9 t10 k10 t11 k11 t12 r12 t13 k13 t14 k14 t15 r15 t16 k16 t17 k17 t18 k18 t19 k19 t20 k20 t21 r21 t22 k22 t23 k23 t24 k24 d0 d1 d2 d3 d4 d5 d6 f0 f1 f2 f3 f4 f5 f6 f7 f8 f9 f10 f11 f12 f13 f14 f15 f16 f17 f18 f19 f20 f21 f22 f23 f24 f25 f26 f27 f28
  replace f0 := shm_4 f0
  replace f1 := shm_24 f1
  replace f3 := shm_14 f3
  replace f4 := shm_107 f4
  replace f5 := shm_503 f5
  replace f6 := shm_14 f6
  replace f7 := shm_107 f7
  replace f8 := shm_107 f8
  replace f9 := shm_498 f9
  replace f10 := shm_1165 f10
  replace f11 := shm_107 f11
  replace f12 := shm_107 f12
  replace f13 := shm_504 f13
  replace f14 := shm_192 f14
  replace f15 := shm_107 f15
  replace f16 := shm_107 f16
  replace f17 := shm_1162 f17
  replace f19 := shm_107 f19
  replace f20 := shm_107 f20
  replace f22 := shm_497 f22
  replace f23 := shm_1240 f23
  replace f24 := shm_1244 f24
  replace f25 := shm_1246 f25
  replace f26 := shm_1247 f26
  replace f28 := shm_5 f28
  have q1 : n_v vs 1 = n_v vs 0 := f28.symm
  simp only [q1] at f5 f9 f10 f13 f17 f22 f23 f24 f25 f26
  have ad_21 : v_ad (n_v vs 21) = w_ar ws (n_v vs 0) 89 := congrArg v_ad f5
  have ad_8 : v_ad (n_v vs 8) = w_ar ws (n_v vs 0) 87 := congrArg v_ad f9
  have ad_15 : v_ad (n_v vs 15) = w_ar ws (n_v vs 0) 82 := congrArg v_ad f10
  have ad_12 : v_ad (n_v vs 12) = w_ar ws (n_v vs 0) 88 := congrArg v_ad f13
  have ad_7 : v_ad (n_v vs 7) = w_ar ws (n_v vs 0) 93 := congrArg v_ad f17
  simp only [ad_21] at f4
  have h4 : v_iv (n_v vs 22) = w_ei ws (w_ar ws (n_v vs 0) 89) (v_iv (n_v vs 4)) := f4
  simp only [ad_15] at f7
  have h7 : v_iv (n_v vs 19) = w_ei ws (w_ar ws (n_v vs 0) 82) (v_iv (n_v vs 18)) := f7
  simp only [ad_8] at f8
  have h8 : v_iv (n_v vs 18) = w_ei ws (w_ar ws (n_v vs 0) 87) (v_iv (n_v vs 4)) := f8
  simp only [ad_15] at f11
  have h11 : v_iv (n_v vs 17) = w_ei ws (w_ar ws (n_v vs 0) 82) (v_iv (n_v vs 16)) := f11
  simp only [ad_12] at f12
  have h12 : v_iv (n_v vs 16) = w_ei ws (w_ar ws (n_v vs 0) 88) (v_iv (n_v vs 4)) := f12
  simp only [ad_7] at f15
  have h15 : v_iv (n_v vs 14) = w_ei ws (w_ar ws (n_v vs 0) 93) (v_iv (n_v vs 13)) := f15
  simp only [ad_12] at f16
  have h16 : v_iv (n_v vs 13) = w_ei ws (w_ar ws (n_v vs 0) 88) (v_iv (n_v vs 4)) := f16
  simp only [ad_7] at f19
  have h19 : v_iv (n_v vs 10) = w_ei ws (w_ar ws (n_v vs 0) 93) (v_iv (n_v vs 9)) := f19
  simp only [ad_8] at f20
  have h20 : v_iv (n_v vs 9) = w_ei ws (w_ar ws (n_v vs 0) 87) (v_iv (n_v vs 4)) := f20
  have g22 : v_iv (n_v vs 6) = w_fi ws (n_v vs 0) 81 := congrArg v_iv f22
  have kz_0_79 := fdq_147 hD hth r0
  have kz_0_80 := fdq_131 hD hth r0
  have kz_0_81 := fdq_124 hD hth r0
  have nf0 : fc_1 PRD (20, [1, 23], [60, 1, 5, 426, 80, 82, 93, 83, 84, 86]) ws (vs) := by
    refine ⟨nf_in hl rfl, sgq_1246 ?_⟩
    · show RDC (w_fi ws (n_v vs 1) 80) (w_ei ws (w_ar ws (n_v vs 1) 82)) (w_ei ws (w_ar ws (n_v vs 1) 93)) (w_ei ws (w_ar ws (n_v vs 1) 83)) (w_ei ws (w_ar ws (n_v vs 1) 84)) (w_ei ws (w_ar ws (n_v vs 1) 86)) (v_iv (n_v vs 23))
      rw [q1]
      exact vc_Mo_rise_24_0 (v_iv (n_v vs 3)) (v_iv (n_v vs 4)) (v_iv (n_v vs 5)) (v_iv (n_v vs 6)) (v_iv (n_v vs 9)) (v_iv (n_v vs 10)) (v_iv (n_v vs 13)) (v_iv (n_v vs 14)) (v_iv (n_v vs 16)) (v_iv (n_v vs 17)) (v_iv (n_v vs 18)) (v_iv (n_v vs 19)) (v_iv (n_v vs 20)) (v_iv (n_v vs 22)) (v_iv (n_v vs 23)) (v_iv (n_v vs 24)) (w_ei ws (w_ar ws (n_v vs 0) 89)) (w_ei ws (w_ar ws (n_v vs 0) 82)) (w_ei ws (w_ar ws (n_v vs 0) 87)) (w_ei ws (w_ar ws (n_v vs 0) 88)) (w_ei ws (w_ar ws (n_v vs 0) 93)) (w_fi ws (n_v vs 0) 81) (w_ei ws (w_ar ws (n_v vs 0) 83)) (w_ei ws (w_ar ws (n_v vs 0) 84)) (w_ei ws (w_ar ws (n_v vs 0) 85)) (w_ei ws (w_ar ws (n_v vs 0) 86)) (w_fi ws (n_v vs 0) 79) (w_fi ws (n_v vs 0) 80) k3 k4 k5 k6 k9 k10 k13 k14 k16 k17 k18 k19 k20 k22 k23 k24 d0 d1 d6 f1 f3 h4 f6 h7 h8 h11 h12 f14 h15 h16 h19 h20 g22 f23 f24 f25 kz_0_79 kz_0_80 kz_0_81
  have nf1 : fc_1 PRD (20, [1, 24, 23], [60, 0, 5, 427, 82, 93, 87, 88, 89]) ws (vs) := by
    refine ⟨nf_in hl rfl, sgq_1247 ?_⟩
    · show RDA (w_ei ws (w_ar ws (n_v vs 1) 82)) (w_ei ws (w_ar ws (n_v vs 1) 93)) (w_ei ws (w_ar ws (n_v vs 1) 87)) (w_ei ws (w_ar ws (n_v vs 1) 88)) (w_ei ws (w_ar ws (n_v vs 1) 89)) (v_iv (n_v vs 24)) (v_iv (n_v vs 23))
      rw [q1]
      exact vc_Mo_rise_24_1 (v_iv (n_v vs 3)) (v_iv (n_v vs 4)) (v_iv (n_v vs 9)) (v_iv (n_v vs 10)) (v_iv (n_v vs 13)) (v_iv (n_v vs 14)) (v_iv (n_v vs 16)) (v_iv (n_v vs 17)) (v_iv (n_v vs 18)) (v_iv (n_v vs 19)) (v_iv (n_v vs 20)) (v_iv (n_v vs 22)) (v_iv (n_v vs 23)) (v_iv (n_v vs 24)) (w_ei ws (w_ar ws (n_v vs 0) 89)) (w_ei ws (w_ar ws (n_v vs 0) 82)) (w_ei ws (w_ar ws (n_v vs 0) 87)) (w_ei ws (w_ar ws (n_v vs 0) 88)) (w_ei ws (w_ar ws (n_v vs 0) 93)) k3 k4 k16 k17 k18 k19 k20 k22 k23 k24 f0 f1 f3 h4 f6 h7 h8 h11 h12 f26
  refine ⟨(fun _ h => (by cases h)), [], trivial, ?_, (fun _ h => (by cases h))⟩
  rw [List.append_nil]
  exact List.forall_mem_cons.mpr ⟨⟨show (20 : Nat) < 100 from by decide, nf0⟩, List.forall_mem_cons.mpr ⟨⟨show (20 : Nat) < 100 from by decide, nf1⟩, (fun _ h => (by cases h))⟩⟩
set_option maxHeartbeats 4000000 in
theorem vc_Mo_rise_25_0 (x3 : Int) (x4 : Int) (x9 : Int) (x10 : Int) (x13 : Int) (x14 : Int) (x16 : Int) (x17 : Int) (x18 : Int) (x19 : Int) (x20 : Int) (x22 : Int) (x23 : Int) (x24 : Int) (apart_0 : Int → Int) (spot_0 : Int → Int) (apartA_0 : Int → Int) (apartB_0 : Int → Int) (goes_0 : Int → Int) (k3 : (-221100202) ≤ x3 ∧ x3 ≤ 1000000) (k4 : 0 ≤ x4 ∧ x4 ≤ 199) (k16 : 0 ≤ x16 ∧ x16 ≤ 75) (k17 : 0 ≤ x17 ∧ x17 ≤ 221100000) (k18 : 0 ≤ x18 ∧ x18 ≤ 75) (k19 : 0 ≤ x19 ∧ x19 ≤ 221100000) (k20 : (-221100000) ≤ x20 ∧ x20 ≤ 221100000) (k22 : 0 ≤ x22 ∧ x22 ≤ 202) (k23 : (-221100201) ≤ x23 ∧ x23 ≤ 221100000) (k24 : 1 ≤ x24 ∧ x24 ≤ 200) (d2 : x23 + (-4294967296) ≤ x3 ∧ x3 ≤ x23 + (-1)) (f0 : x24 = x4 + 1) (f1 : x3 ≤ x3) (f3 : x23 = x20 - x22) (h4 : x22 = apart_0 (x4)) (f6 : x20 = x17 - x19) (h7 : x19 = spot_0 (x18)) (h8 : x18 = apartA_0 (x4)) (h11 : x17 = spot_0 (x16)) (h12 : x16 = apartB_0 (x4)) (f26 : RDA (spot_0) (goes_0) (apartA_0) (apartB_0) (apart_0) (x4) (x3)) : RDA (spot_0) (goes_0) (apartA_0) (apartB_0) (apart_0) (x24) (x3) := by
  first
    | exact rda_go (a := x18) (ya := x19) (b := x16) (yb := x17) (w := x22) ‹RDA _ _ _ _ _ _ _› (by assumption) (by assumption) (by assumption) (by assumption) (by assumption) (by assumption) (by omega) (by omega)
def o_Mo_rise_25 : or_T := (248, 25, [(0, (2, 0, 0, [165])), (1, (2, 0, 0, [165])), (3, (0, -221100202, 1000000, [])), (4, (0, 0, 199, [])), (5, (0, -2, 221100001, [])), (6, (0, 1, 200, [])), (7, (2, 0, 0, [230])), (8, (2, 0, 0, [224])), (9, (0, 0, 75, [])), (10, (0, 1, 1, [])), (11, (0, 1, 1, [])), (12, (2, 0, 0, [225])), (13, (0, 0, 75, [])), (14, (0, 0, 0, [])), (15, (2, 0, 0, [219])), (16, (0, 0, 75, [])), (17, (0, 0, 221100000, [])), (18, (0, 0, 75, [])), (19, (0, 0, 221100000, [])), (20, (0, -221100000, 221100000, [])), (21, (2, 0, 0, [226])), (22, (0, 0, 202, [])), (23, (0, -221100201, 221100000, [])), (24, (0, 1, 200, []))], [(6, [24, 4], [1]), (7, [3, 3], [5]), (7, [3, 23], [5]), (2, [23, 20, 22], []), (10, [22, 21, 4], []), (9, [21, 1], [89]), (2, [20, 17, 19], []), (10, [19, 15, 18], []), (10, [18, 8, 4], []), (9, [8, 1], [87]), (9, [15, 1], [82]), (10, [17, 15, 16], []), (10, [16, 12, 4], []), (9, [12, 1], [88]), (8, [14], [0]), (10, [14, 7, 13], []), (10, [13, 12, 4], []), (9, [7, 1], [93]), (7, [10, 11], [0]), (10, [10, 7, 9], []), (10, [9, 8, 4], []), (7, [4, 6], [2]), (9, [6, 1], [81]), (20, [1, 5], [60, 3, 8, 423, 79, 80, 81, 82, 83, 84, 85, 86, 87, 88, 89]), (20, [1], [60, 3, 9, 418, 79, 80, 81, 93, 82, 83, 84, 85, 86, 87, 88, 89]), (20, [1, 3], [60, 1, 5, 426, 80, 82, 93, 83, 84, 86]), (20, [1, 4, 3], [60, 0, 5, 427, 82, 93, 87, 88, 89]), (23, [5], [-1, -1]), (24, [0, 1], [])], [], [], [(20, [1, 24, 3], [60, 0, 5, 427, 82, 93, 87, 88, 89])], [], [(24, 4, 1, 1), (24, 6, -4294967296, 0), (3, 23, -4294967296, -1), (23, 20, -202, 0), (23, 17, -221100202, 0), (20, 17, -221100000, 0), (4, 6, -4294967296, -1)])
theorem oo_Mo_rise_25 {kA : Nat → ClassId} : or_ok PRD kA GG o_Mo_rise_25 := by
  refine or_mk fun A ta ws vs hD hth hl => ?_
  intro t0 r0 t1 r1 t3 k3 t4 k4 t5 k5 t6 k6 t7 r7 t8 r8 t9 k9 t10 k10 t11 k11 t12 r12 t13 k13 t14 k14 t15 r15 t16 k16 t17 k17 t18 k18 t19 k19 t20 k20 t21 r21 t22 k22 t23 k23 t24 k24 d0 d1 d2 d3 d4 d5 d6 f0 f1 f2 f3 f4 f5 f6 f7 f8 f9 f10 f11 f12 f13 f14 f15 f16 f17 f18 f19 f20 f21 f22 f23 f24 f25 f26 f27 f28
  replace f0 := shm_4 f0
  replace f1 := shm_125 f1
  replace f3 := shm_14 f3
  replace f4 := shm_107 f4
  replace f5 := shm_503 f5
  replace f6 := shm_14 f6
  replace f7 := shm_107 f7
  replace f8 := shm_107 f8
  replace f9 := shm_498 f9
  replace f10 := shm_1165 f10
  replace f11 := shm_107 f11
  replace f12 := shm_107 f12
  replace f13 := shm_504 f13
  replace f26 := shm_1247 f26
  replace f28 := shm_5 f28
  have q1 : n_v vs 1 = n_v vs 0 := f28.symm
  simp only [q1] at f5 f9 f10 f13 f26
  have ad_21 : v_ad (n_v vs 21) = w_ar ws (n_v vs 0) 89 := congrArg v_ad f5
  have ad_8 : v_ad (n_v vs 8) = w_ar ws (n_v vs 0) 87 := congrArg v_ad f9
  have ad_15 : v_ad (n_v vs 15) = w_ar ws (n_v vs 0) 82 := congrArg v_ad f10
  have ad_12 : v_ad (n_v vs 12) = w_ar ws (n_v vs 0) 88 := congrArg v_ad f13
  simp only [ad_21] at f4
  have h4 : v_iv (n_v vs 22) = w_ei ws (w_ar ws (n_v vs 0) 89) (v_iv (n_v vs 4)) := f4
  simp only [ad_15] at f7
  have h7 : v_iv (n_v vs 19) = w_ei ws (w_ar ws (n_v vs 0) 82) (v_iv (n_v vs 18)) := f7
  simp only [ad_8] at f8
  have h8 : v_iv (n_v vs 18) = w_ei ws (w_ar ws (n_v vs 0) 87) (v_iv (n_v vs 4)) := f8
  simp only [ad_15] at f11
  have h11 : v_iv (n_v vs 17) = w_ei ws (w_ar ws (n_v vs 0) 82) (v_iv (n_v vs 16)) := f11
  simp only [ad_12] at f12
  have h12 : v_iv (n_v vs 16) = w_ei ws (w_ar ws (n_v vs 0) 88) (v_iv (n_v vs 4)) := f12
  have nf0 : fc_1 PRD (20, [1, 24, 3], [60, 0, 5, 427, 82, 93, 87, 88, 89]) ws (vs) := by
    refine ⟨nf_in hl rfl, sgq_1247 ?_⟩
    · show RDA (w_ei ws (w_ar ws (n_v vs 1) 82)) (w_ei ws (w_ar ws (n_v vs 1) 93)) (w_ei ws (w_ar ws (n_v vs 1) 87)) (w_ei ws (w_ar ws (n_v vs 1) 88)) (w_ei ws (w_ar ws (n_v vs 1) 89)) (v_iv (n_v vs 24)) (v_iv (n_v vs 3))
      rw [q1]
      exact vc_Mo_rise_25_0 (v_iv (n_v vs 3)) (v_iv (n_v vs 4)) (v_iv (n_v vs 9)) (v_iv (n_v vs 10)) (v_iv (n_v vs 13)) (v_iv (n_v vs 14)) (v_iv (n_v vs 16)) (v_iv (n_v vs 17)) (v_iv (n_v vs 18)) (v_iv (n_v vs 19)) (v_iv (n_v vs 20)) (v_iv (n_v vs 22)) (v_iv (n_v vs 23)) (v_iv (n_v vs 24)) (w_ei ws (w_ar ws (n_v vs 0) 89)) (w_ei ws (w_ar ws (n_v vs 0) 82)) (w_ei ws (w_ar ws (n_v vs 0) 87)) (w_ei ws (w_ar ws (n_v vs 0) 88)) (w_ei ws (w_ar ws (n_v vs 0) 93)) k3 k4 k16 k17 k18 k19 k20 k22 k23 k24 d2 f0 f1 f3 h4 f6 h7 h8 h11 h12 f26
  refine ⟨(fun _ h => (by cases h)), [], trivial, ?_, (fun _ h => (by cases h))⟩
  rw [List.append_nil]
  exact List.forall_mem_cons.mpr ⟨⟨show (20 : Nat) < 100 from by decide, nf0⟩, (fun _ h => (by cases h))⟩

set_option maxHeartbeats 4000000 in
theorem vc_Mo_rise_26_0 (x3 : Int) (x4 : Int) (x5 : Int) (x6 : Int) (pointMany_0 : Int) (spot_0 : Int → Int) (goes_0 : Int → Int) (costA_0 : Int → Int) (costB_0 : Int → Int) (costW_0 : Int → Int) (costPlain_0 : Int → Int) (apartA_0 : Int → Int) (apartB_0 : Int → Int) (apart_0 : Int → Int) (costMany_0 : Int) (apartMany_0 : Int) (gx : Int) (k3 : (-221100202) ≤ x3 ∧ x3 ≤ 1000000) (k4 : 0 ≤ x4 ∧ x4 ≤ 76) (k5 : (-2) ≤ x5 ∧ x5 ≤ 221100001) (k6 : 0 ≤ x6 ∧ x6 ≤ 76) (d0 : x6 + 0 ≤ x4 ∧ x4 ≤ x6 + 4294967296) (g1 : x6 = pointMany_0) (f2 : RDX (pointMany_0) (costMany_0) (apartMany_0) (spot_0) (goes_0) (costA_0) (costB_0) (costW_0) (costPlain_0) (apartA_0) (apartB_0) (apart_0) (x3) (x4) (x5)) (kz_0_79 : 0 ≤ pointMany_0 ∧ pointMany_0 ≤ 76) (kz_0_80 : 0 ≤ costMany_0 ∧ costMany_0 ≤ 200) (kz_0_81 : 0 ≤ apartMany_0 ∧ apartMany_0 ≤ 200) (ex2 : gx = (-1) + (1 * x5 + 0)) : RII (pointMany_0) (costMany_0) (apartMany_0) (spot_0) (costA_0) (costB_0) (costW_0) (costPlain_0) (apartA_0) (apartB_0) (apart_0) (gx) := by
  first
    | exact rise_end ‹RDX _ _ _ _ _ _ _ _ _ _ _ _ _ _ _› (by omega) (by omega)
def o_Mo_rise_26 : or_T := (116, 7, [(0, (2, 0, 0, [165])), (1, (2, 0, 0, [165])), (3, (0, -221100202, 1000000, [])), (4, (0, 0, 76, [])), (5, (0, -2, 221100001, [])), (6, (0, 0, 76, []))], [(7, [4, 6], [3]), (9, [6, 1], [79]), (20, [1, 3, 4, 5], [60, 3, 9, 428, 79, 80, 81, 82, 93, 83, 84, 85, 86, 87, 88, 89]), (23, [5], [-1, -1]), (24, [0, 1], [])], [], [(0, -2, 221100001, [])], [(20, [1, 7], [60, 3, 8, 423, 79, 80, 81, 82, 83, 84, 85, 86, 87, 88, 89]), (24, [0, 1], [])], [(7, 5, -1000000000000, -1)], [(4, 6, 0, 4294967296)])
theorem oo_Mo_rise_26 {kA : Nat → ClassId} : or_ok PRD kA GG o_Mo_rise_26 := by
  refine or_mk fun A ta ws vs hD hth hl => ?_
  intro t0 r0 t1 r1 t3 k3 t4 k4 t5 k5 t6 k6 d0 f0 f1 f2 f3 f4
  replace f0 := shm_2 f0
  replace f1 := shm_1155 f1
  replace f2 := shm_1248 f2
  replace f3 := shm_626 f3
  replace f4 := shm_5 f4
  have q1 : n_v vs 1 = n_v vs 0 := f4.symm
  simp only [q1] at f1 f2
  have cr_0_82 := fdq_230 hD hth r0
  have cr_0_83 := fdq_126 hD hth r0
  have cr_0_84 := fdq_127 hD hth r0
  have cr_0_85 := fdq_128 hD hth r0
  have cr_0_86 := fdq_129 hD hth r0
  have cr_0_87 := fdq_119 hD hth r0
  have cr_0_88 := fdq_120 hD hth r0
  have cr_0_89 := fdq_121 hD hth r0
  have cr_0_93 := fdq_276 hD hth r0
  have g1 : v_iv (n_v vs 6) = w_fi ws (n_v vs 0) 79 := congrArg v_iv f1
  have hK_0_82 := elq_143 hD hth cr_0_82
  have hK_0_83 := elq_67 hD hth cr_0_83
  have hK_0_84 := elq_68 hD hth cr_0_84
  have hK_0_85 := elq_69 hD hth cr_0_85
  have hK_0_86 := elq_70 hD hth cr_0_86
  have hK_0_87 := elq_62 hD hth cr_0_87
  have hK_0_88 := elq_63 hD hth cr_0_88
  have hK_0_89 := elq_64 hD hth cr_0_89
  have hK_0_93 := elq_174 hD hth cr_0_93
  have kz_0_79 := fdq_147 hD hth r0
  have kz_0_80 := fdq_131 hD hth r0
  have kz_0_81 := fdq_124 hD hth r0
  obtain ⟨x, ex, hx⟩ := iv_ex (ta := ta) (lo := (-2)) (hi := 221100001) (z := (-1) + (1 * v_iv (n_v vs 5) + 0)) (by omega) (by omega) (by omega) (by omega)
  have ex2 : v_iv (Value.int x) = (-1) + (1 * v_iv (n_v vs 5) + 0) := ex
  have ex3 : (-2) ≤ v_iv (Value.int x) ∧ v_iv (Value.int x) ≤ 221100001 := tv_rng hx
  have e_0 : n_v (vs ++ [Value.int x]) 0 = n_v vs 0 := n_v_old (by rw [hl]; decide)
  have e_1 : n_v (vs ++ [Value.int x]) 1 = n_v vs 1 := n_v_old (by rw [hl]; decide)
  have e_7 : n_v (vs ++ [Value.int x]) 7 = Value.int x := n_v_new hl
  have nf0 : fc_1 PRD (20, [1, 7], [60, 3, 8, 423, 79, 80, 81, 82, 83, 84, 85, 86, 87, 88, 89]) ws (vs ++ [Value.int x]) := by
    refine ⟨nf_inA hl rfl, sgq_1240 ?_⟩
    · show RII (w_fi ws (n_v (vs ++ [Value.int x]) 1) 79) (w_fi ws (n_v (vs ++ [Value.int x]) 1) 80) (w_fi ws (n_v (vs ++ [Value.int x]) 1) 81) (w_ei ws (w_ar ws (n_v (vs ++ [Value.int x]) 1) 82)) (w_ei ws (w_ar ws (n_v (vs ++ [Value.int x]) 1) 83)) (w_ei ws (w_ar ws (n_v (vs ++ [Value.int x]) 1) 84)) (w_ei ws (w_ar ws (n_v (vs ++ [Value.int x]) 1) 85)) (w_ei ws (w_ar ws (n_v (vs ++ [Value.int x]) 1) 86)) (w_ei ws (w_ar ws (n_v (vs ++ [Value.int x]) 1) 87)) (w_ei ws (w_ar ws (n_v (vs ++ [Value.int x]) 1) 88)) (w_ei ws (w_ar ws (n_v (vs ++ [Value.int x]) 1) 89)) (v_iv (n_v (vs ++ [Value.int x]) 7))
      simp only [e_1, e_7, q1]
      exact vc_Mo_rise_26_0 (v_iv (n_v vs 3)) (v_iv (n_v vs 4)) (v_iv (n_v vs 5)) (v_iv (n_v vs 6)) (w_fi ws (n_v vs 0) 79) (w_ei ws (w_ar ws (n_v vs 0) 82)) (w_ei ws (w_ar ws (n_v vs 0) 93)) (w_ei ws (w_ar ws (n_v vs 0) 83)) (w_ei ws (w_ar ws (n_v vs 0) 84)) (w_ei ws (w_ar ws (n_v vs 0) 85)) (w_ei ws (w_ar ws (n_v vs 0) 86)) (w_ei ws (w_ar ws (n_v vs 0) 87)) (w_ei ws (w_ar ws (n_v vs 0) 88)) (w_ei ws (w_ar ws (n_v vs 0) 89)) (w_fi ws (n_v vs 0) 80) (w_fi ws (n_v vs 0) 81) (v_iv (Value.int x)) k3 k4 k5 k6 d0 g1 f2 kz_0_79 kz_0_80 kz_0_81 ex2
  have nf1 : fc_1 PRD (24, [0, 1], []) ws (vs ++ [Value.int x]) := by
    refine ⟨nf_inA hl rfl, sgq_5 ?_⟩
    · show n_v (vs ++ [Value.int x]) 0 = n_v (vs ++ [Value.int x]) 1
      first | rfl | simp only [e_0, e_1, q1]
  obtain ⟨x0, e0, _, _⟩ := tv_int t5 rfl
  have e1 : v_iv (n_v vs 5) = x0.toInt := by rw [e0]; rfl
  have ho : sy_ofs (vs ++ [Value.int x]) (7, 5, -1000000000000, -1) := by
    refine ⟨x, x0, by rw [List.getElem?_append_right (by rw [hl]; decide), hl]; rfl, ?_, ?_, ?_⟩
    · rw [List.getElem?_append_left (by rw [hl]; decide)]; exact n_v_some (by rw [hl]; decide) e0
    · show x0.toInt + (-1000000000000) ≤ x.toInt; omega
    · show x.toInt ≤ x0.toInt + (-1); omega
  exact ⟨(fun _ h => (by cases h)), [Value.int x], ag_one hx, List.forall_mem_cons.mpr ⟨⟨show (20 : Nat) < 100 from by decide, nf0⟩, List.forall_mem_cons.mpr ⟨⟨show (24 : Nat) < 100 from by decide, nf1⟩, (fun _ h => (by cases h))⟩⟩, List.forall_mem_cons.mpr ⟨ho, (fun _ h => (by cases h))⟩⟩
set_option maxHeartbeats 4000000 in
theorem vc_Mo_rise_27_r0 (x3 : Int) (x4 : Int) (x5 : Int) (x6 : Int) (x10 : Int) (goes_0 : Int → Int) (spot_0 : Int → Int) (pointMany_0 : Int) (costA_0 : Int → Int) (costB_0 : Int → Int) (costW_0 : Int → Int) (costPlain_0 : Int → Int) (apartA_0 : Int → Int) (apartB_0 : Int → Int) (apart_0 : Int → Int) (costMany_0 : Int) (apartMany_0 : Int) (k3 : (-221100202) ≤ x3 ∧ x3 ≤ 1000000) (k4 : 0 ≤ x4 ∧ x4 ≤ 75) (k5 : (-2) ≤ x5 ∧ x5 ≤ 221100001) (k6 : 1 ≤ x6 ∧ x6 ≤ 76) (k10 : (-14400) ≤ x10 ∧ x10 ≤ 14400) (d0 : x6 + (-4294967296) ≤ x4 ∧ x4 ≤ x6 + (-1)) (h0 : x10 = goes_0 (x4)) (g5 : x6 = pointMany_0) (f6 : RDX (pointMany_0) (costMany_0) (apartMany_0) (spot_0) (goes_0) (costA_0) (costB_0) (costW_0) (costPlain_0) (apartA_0) (apartB_0) (apart_0) (x3) (x4) (x5)) (kz_0_79 : 0 ≤ pointMany_0 ∧ pointMany_0 ≤ 76) (kz_0_80 : 0 ≤ costMany_0 ∧ costMany_0 ≤ 200) (kz_0_81 : 0 ≤ apartMany_0 ∧ apartMany_0 ≤ 200) : 0 ≤ x10 ∧ x10 ≤ 1 := by
  have h := rd3_bd ‹RDX _ _ _ _ _ _ _ _ _ _ _ _ _ _ _› (by omega) (by omega)
  omega
def o_Mo_rise_27 : or_T := (349, 11, [(0, (2, 0, 0, [165])), (1, (2, 0, 0, [165])), (3, (0, -221100202, 1000000, [])), (4, (0, 0, 75, [])), (5, (0, -2, 221100001, [])), (6, (0, 1, 76, [])), (7, (2, 0, 0, [219])), (8, (0, 0, 221100000, [])), (9, (2, 0, 0, [230])), (10, (0, -14400, 14400, []))], [(10, [10, 9, 4], []), (9, [9, 1], [93]), (10, [8, 7, 4], []), (9, [7, 1], [82]), (7, [4, 6], [2]), (9, [6, 1], [79]), (20, [1, 3, 4, 5], [60, 3, 9, 428, 79, 80, 81, 82, 93, 83, 84, 85, 86, 87, 88, 89]), (23, [5], [-1, -1]), (24, [0, 1], [])], [(10, (0, 0, 1, []))], [], [], [], [(4, 6, -4294967296, -1)])
theorem oo_Mo_rise_27 {kA : Nat → ClassId} : or_ok PRD kA GG o_Mo_rise_27 := by
  refine or_mk fun A ta ws vs hD hth hl => ?_
  intro t0 r0 t1 r1 t3 k3 t4 k4 t5 k5 t6 k6 t7 r7 t8 k8 t9 r9 t10 k10 d0 f0 f1 f2 f3 f4 f5 f6 f7 f8
  replace f0 := shm_107 f0
  replace f1 := shm_1162 f1
  replace f5 := shm_1155 f5
  replace f6 := shm_1248 f6
  replace f8 := shm_5 f8
  have q1 : n_v vs 1 = n_v vs 0 := f8.symm
  simp only [q1] at f1 f5 f6
  have ad_9 : v_ad (n_v vs 9) = w_ar ws (n_v vs 0) 93 := congrArg v_ad f1
  simp only [ad_9] at f0
  have h0 : v_iv (n_v vs 10) = w_ei ws (w_ar ws (n_v vs 0) 93) (v_iv (n_v vs 4)) := f0
  have g5 : v_iv (n_v vs 6) = w_fi ws (n_v vs 0) 79 := congrArg v_iv f5
  have kz_0_79 := fdq_147 hD hth r0
  have kz_0_80 := fdq_131 hD hth r0
  have kz_0_81 := fdq_124 hD hth r0
  have hrf0 : 0 ≤ v_iv (n_v vs 10) ∧ v_iv (n_v vs 10) ≤ 1 := vc_Mo_rise_27_r0 (v_iv (n_v vs 3)) (v_iv (n_v vs 4)) (v_iv (n_v vs 5)) (v_iv (n_v vs 6)) (v_iv (n_v vs 10)) (w_ei ws (w_ar ws (n_v vs 0) 93)) (w_ei ws (w_ar ws (n_v vs 0) 82)) (w_fi ws (n_v vs 0) 79) (w_ei ws (w_ar ws (n_v vs 0) 83)) (w_ei ws (w_ar ws (n_v vs 0) 84)) (w_ei ws (w_ar ws (n_v vs 0) 85)) (w_ei ws (w_ar ws (n_v vs 0) 86)) (w_ei ws (w_ar ws (n_v vs 0) 87)) (w_ei ws (w_ar ws (n_v vs 0) 88)) (w_ei ws (w_ar ws (n_v vs 0) 89)) (w_fi ws (n_v vs 0) 80) (w_fi ws (n_v vs 0) 81) k3 k4 k5 k6 k10 d0 h0 g5 f6 kz_0_79 kz_0_80 kz_0_81
  have rf10 : tv_ok ta (0, 0, 1, []) (n_v vs 10) := tv_in t10 (by first | omega | grind) (by first | omega | grind)
  refine ⟨List.forall_mem_cons.mpr ⟨rf10, (fun _ h => (by cases h))⟩, [], trivial, ?_, (fun _ h => (by cases h))⟩
  rw [List.append_nil]
  exact (fun _ h => (by cases h))
set_option maxHeartbeats 4000000 in
theorem vc_Mo_rise_28_r0 (x3 : Int) (x4 : Int) (x5 : Int) (x6 : Int) (x8 : Int) (x10 : Int) (x11 : Int) (x12 : Int) (goes_0 : Int → Int) (spot_0 : Int → Int) (pointMany_0 : Int) (costA_0 : Int → Int) (costB_0 : Int → Int) (costW_0 : Int → Int) (costPlain_0 : Int → Int) (apartA_0 : Int → Int) (apartB_0 : Int → Int) (apart_0 : Int → Int) (costMany_0 : Int) (apartMany_0 : Int) (k3 : (-221100202) ≤ x3 ∧ x3 ≤ 1000000) (k4 : 0 ≤ x4 ∧ x4 ≤ 75) (k5 : (-2) ≤ x5 ∧ x5 ≤ 221100001) (k6 : 1 ≤ x6 ∧ x6 ≤ 76) (k8 : 0 ≤ x8 ∧ x8 ≤ 221100000) (k10 : 0 ≤ x10 ∧ x10 ≤ 1) (k11 : (-221100202) ≤ x11 ∧ x11 ≤ 1000000) (k12 : (-221100202) ≤ x12 ∧ x12 ≤ 222100000) (d2 : x6 + (-4294967296) ≤ x4 ∧ x4 ≤ x6 + (-1)) (f0 : x12 = x8 + x11) (f1 : x11 = x10 * x3) (h2 : x10 = goes_0 (x4)) (h4 : x8 = spot_0 (x4)) (g7 : x6 = pointMany_0) (f8 : RDX (pointMany_0) (costMany_0) (apartMany_0) (spot_0) (goes_0) (costA_0) (costB_0) (costW_0) (costPlain_0) (apartA_0) (apartB_0) (apart_0) (x3) (x4) (x5)) (kz_0_79 : 0 ≤ pointMany_0 ∧ pointMany_0 ≤ 76) (kz_0_80 : 0 ≤ costMany_0 ∧ costMany_0 ≤ 200) (kz_0_81 : 0 ≤ apartMany_0 ∧ apartMany_0 ≤ 200) : 0 ≤ x12 ∧ x12 ≤ 221100000 := by
  have h := rd3_v (o := x8) (c := x10) (w := x11) ‹RDX _ _ _ _ _ _ _ _ _ _ _ _ _ _ _› (by omega) (by omega) (by assumption) (by assumption) (by assumption)
  omega
def o_Mo_rise_28 : or_T := (352, 13, [(0, (2, 0, 0, [165])), (1, (2, 0, 0, [165])), (3, (0, -221100202, 1000000, [])), (4, (0, 0, 75, [])), (5, (0, -2, 221100001, [])), (6, (0, 1, 76, [])), (7, (2, 0, 0, [219])), (8, (0, 0, 221100000, [])), (9, (2, 0, 0, [230])), (10, (0, 0, 1, [])), (11, (0, -221100202, 1000000, [])), (12, (0, -221100202, 222100000, []))], [(1, [12, 8, 11], []), (3, [11, 10, 3], []), (10, [10, 9, 4], []), (9, [9, 1], [93]), (10, [8, 7, 4], []), (9, [7, 1], [82]), (7, [4, 6], [2]), (9, [6, 1], [79]), (20, [1, 3, 4, 5], [60, 3, 9, 428, 79, 80, 81, 82, 93, 83, 84, 85, 86, 87, 88, 89]), (23, [5], [-1, -1]), (24, [0, 1], [])], [(12, (0, 0, 221100000, []))], [], [], [], [(12, 11, 0, 221100000), (12, 8, -221100202, 1000000), (4, 6, -4294967296, -1)])
theorem oo_Mo_rise_28 {kA : Nat → ClassId} : or_ok PRD kA GG o_Mo_rise_28 := by
  refine or_mk fun A ta ws vs hD hth hl => ?_
  intro t0 r0 t1 r1 t3 k3 t4 k4 t5 k5 t6 k6 t7 r7 t8 k8 t9 r9 t10 k10 t11 k11 t12 k12 d0 d1 d2 f0 f1 f2 f3 f4 f5 f6 f7 f8 f9 f10
  replace f2 := shm_107 f2
  replace f3 := shm_1162 f3
  replace f4 := shm_107 f4
  replace f5 := shm_1165 f5
  replace f7 := shm_1155 f7
  replace f8 := shm_1248 f8
  replace f10 := shm_5 f10
  have q1 : n_v vs 1 = n_v vs 0 := f10.symm
  simp only [q1] at f3 f5 f7 f8
  have ad_9 : v_ad (n_v vs 9) = w_ar ws (n_v vs 0) 93 := congrArg v_ad f3
  have ad_7 : v_ad (n_v vs 7) = w_ar ws (n_v vs 0) 82 := congrArg v_ad f5
  simp only [ad_9] at f2
  have h2 : v_iv (n_v vs 10) = w_ei ws (w_ar ws (n_v vs 0) 93) (v_iv (n_v vs 4)) := f2
  simp only [ad_7] at f4
  have h4 : v_iv (n_v vs 8) = w_ei ws (w_ar ws (n_v vs 0) 82) (v_iv (n_v vs 4)) := f4
  have g7 : v_iv (n_v vs 6) = w_fi ws (n_v vs 0) 79 := congrArg v_iv f7
  have kz_0_79 := fdq_147 hD hth r0
  have kz_0_80 := fdq_131 hD hth r0
  have kz_0_81 := fdq_124 hD hth r0
  have hrf0 : 0 ≤ v_iv (n_v vs 12) ∧ v_iv (n_v vs 12) ≤ 221100000 := vc_Mo_rise_28_r0 (v_iv (n_v vs 3)) (v_iv (n_v vs 4)) (v_iv (n_v vs 5)) (v_iv (n_v vs 6)) (v_iv (n_v vs 8)) (v_iv (n_v vs 10)) (v_iv (n_v vs 11)) (v_iv (n_v vs 12)) (w_ei ws (w_ar ws (n_v vs 0) 93)) (w_ei ws (w_ar ws (n_v vs 0) 82)) (w_fi ws (n_v vs 0) 79) (w_ei ws (w_ar ws (n_v vs 0) 83)) (w_ei ws (w_ar ws (n_v vs 0) 84)) (w_ei ws (w_ar ws (n_v vs 0) 85)) (w_ei ws (w_ar ws (n_v vs 0) 86)) (w_ei ws (w_ar ws (n_v vs 0) 87)) (w_ei ws (w_ar ws (n_v vs 0) 88)) (w_ei ws (w_ar ws (n_v vs 0) 89)) (w_fi ws (n_v vs 0) 80) (w_fi ws (n_v vs 0) 81) k3 k4 k5 k6 k8 k10 k11 k12 d2 (shm_12 f0) (shm_38 f1) h2 h4 g7 f8 kz_0_79 kz_0_80 kz_0_81
  have rf12 : tv_ok ta (0, 0, 221100000, []) (n_v vs 12) := tv_in t12 (by first | omega | grind) (by first | omega | grind)
  refine ⟨List.forall_mem_cons.mpr ⟨rf12, (fun _ h => (by cases h))⟩, [], trivial, ?_, (fun _ h => (by cases h))⟩
  rw [List.append_nil]
  exact (fun _ h => (by cases h))
set_option maxHeartbeats 4000000 in
theorem vc_Mo_rise_29_0 (x3 : Int) (x4 : Int) (x5 : Int) (x6 : Int) (x8 : Int) (x10 : Int) (x11 : Int) (x12 : Int) (x13 : Int) (goes_1 : Int → Int) (spot_1 : Int → Int) (pointMany_1 : Int) (costA_1 : Int → Int) (costB_1 : Int → Int) (costW_1 : Int → Int) (costPlain_1 : Int → Int) (apartA_1 : Int → Int) (apartB_1 : Int → Int) (apart_1 : Int → Int) (costMany_1 : Int) (apartMany_1 : Int) (pointMany_0 : Int) (costMany_0 : Int) (apartMany_0 : Int) (spot_0 : Int → Int) (costA_0 : Int → Int) (costB_0 : Int → Int) (costW_0 : Int → Int) (costPlain_0 : Int → Int) (apartA_0 : Int → Int) (apartB_0 : Int → Int) (apart_0 : Int → Int) (goes_0 : Int → Int) (k3 : (-221100202) ≤ x3 ∧ x3 ≤ 1000000) (k4 : 0 ≤ x4 ∧ x4 ≤ 75) (k5 : (-2) ≤ x5 ∧ x5 ≤ 221100001) (k6 : 1 ≤ x6 ∧ x6 ≤ 76) (k8 : 0 ≤ x8 ∧ x8 ≤ 221100000) (k10 : 0 ≤ x10 ∧ x10 ≤ 1) (k11 : (-221100202) ≤ x11 ∧ x11 ≤ 1000000) (k12 : 0 ≤ x12 ∧ x12 ≤ 221100000) (k13 : 1 ≤ x13 ∧ x13 ≤ 76) (d0 : x4 + 1 ≤ x13 ∧ x13 ≤ x4 + 1) (d1 : x6 + (-4294967296) ≤ x13 ∧ x13 ≤ x6 + 0) (d4 : x6 + (-4294967296) ≤ x4 ∧ x4 ≤ x6 + (-1)) (f0 : x13 = x4 + 1) (f4 : x12 = x8 + x11) (f5 : x11 = x10 * x3) (h6 : x10 = goes_1 (x4)) (h8 : x8 = spot_1 (x4)) (g11 : x6 = pointMany_1) (f12 : RDX (pointMany_1) (costMany_1) (apartMany_1) (spot_1) (goes_1) (costA_1) (costB_1) (costW_1) (costPlain_1) (apartA_1) (apartB_1) (apart_1) (x3) (x4) (x5)) (fe_0_79_1 : pointMany_0 = pointMany_1) (fe_0_80_1 : costMany_0 = costMany_1) (fe_0_81_1 : apartMany_0 = apartMany_1) (hE_0_82_1 : ∀ j : Int, 0 ≤ j → (j = x4 → spot_0 j = x12) ∧ (j ≠ x4 → spot_0 j = spot_1 j)) (hE_0_83_1 : ∀ j : Int, costA_0 j = costA_1 j) (hE_0_84_1 : ∀ j : Int, costB_0 j = costB_1 j) (hE_0_85_1 : ∀ j : Int, costW_0 j = costW_1 j) (hE_0_86_1 : ∀ j : Int, costPlain_0 j = costPlain_1 j) (hE_0_87_1 : ∀ j : Int, apartA_0 j = apartA_1 j) (hE_0_88_1 : ∀ j : Int, apartB_0 j = apartB_1 j) (hE_0_89_1 : ∀ j : Int, apart_0 j = apart_1 j) (hE_0_93_1 : ∀ j : Int, goes_0 j = goes_1 j) (kz_0_79 : 0 ≤ pointMany_0 ∧ pointMany_0 ≤ 76) (kz_0_80 : 0 ≤ costMany_0 ∧ costMany_0 ≤ 200) (kz_0_81 : 0 ≤ apartMany_0 ∧ apartMany_0 ≤ 200) : RDX (pointMany_0) (costMany_0) (apartMany_0) (spot_0) (goes_0) (costA_0) (costB_0) (costW_0) (costPlain_0) (apartA_0) (apartB_0) (apart_0) (x3) (x13) (x5) := by
  subst fe_0_79_1
  subst fe_0_80_1
  subst fe_0_81_1
  have e_hE_0_83_1 := funext hE_0_83_1; subst e_hE_0_83_1
  have e_hE_0_84_1 := funext hE_0_84_1; subst e_hE_0_84_1
  have e_hE_0_85_1 := funext hE_0_85_1; subst e_hE_0_85_1
  have e_hE_0_86_1 := funext hE_0_86_1; subst e_hE_0_86_1
  have e_hE_0_87_1 := funext hE_0_87_1; subst e_hE_0_87_1
  have e_hE_0_88_1 := funext hE_0_88_1; subst e_hE_0_88_1
  have e_hE_0_89_1 := funext hE_0_89_1; subst e_hE_0_89_1
  have e_hE_0_93_1 := funext hE_0_93_1; subst e_hE_0_93_1
  first
    | exact rd3_go (o := x8) (c := x10) (w := x11) ‹RDX _ _ _ _ _ _ _ _ _ _ _ _ _ _ _› (by omega) (by omega) (by assumption) (by assumption) (by assumption) (by assumption) (by assumption) (by assumption) rfl
def o_Mo_rise_29 : or_T := (328, 14, [(0, (2, 0, 0, [165])), (3, (0, -221100202, 1000000, [])), (4, (0, 0, 75, [])), (5, (0, -2, 221100001, [])), (6, (0, 1, 76, [])), (7, (2, 0, 0, [219])), (8, (0, 0, 221100000, [])), (10, (0, 0, 1, [])), (11, (0, -221100202, 1000000, [])), (12, (0, 0, 221100000, [])), (13, (0, 1, 76, []))], [(6, [13, 4], [1]), (24, [0, 1], []), (100, [7, 4, 12], []), (1, [12, 8, 11], []), (3, [11, 10, 3], []), (10, [10, 9, 4], []), (9, [9, 1], [93]), (10, [8, 7, 4], []), (9, [7, 1], [82]), (9, [6, 1], [79]), (20, [1, 3, 4, 5], [60, 3, 9, 428, 79, 80, 81, 82, 93, 83, 84, 85, 86, 87, 88, 89])], [], [], [(20, [1, 3, 13, 5], [60, 3, 9, 428, 79, 80, 81, 82, 93, 83, 84, 85, 86, 87, 88, 89])], [], [(13, 4, 1, 1), (13, 6, -4294967296, 0), (12, 11, 0, 221100000), (12, 8, -221100202, 1000000), (4, 6, -4294967296, -1)])
theorem oo_Mo_rise_29 {kA : Nat → ClassId} : or_ok PRD kA GG o_Mo_rise_29 := by
  refine or_mk fun A ta ws vs hD hth hl => ?_
  intro t0 r0 t3 k3 t4 k4 t5 k5 t6 k6 t7 r7 t8 k8 t10 k10 t11 k11 t12 k12 t13 k13 d0 d1 d2 d3 d4 f0 f2 ta1 w1 le1 s1 f4 f5 f6 f7 f8 f9 f11 f12
  replace f0 := shm_4 f0
  replace f2 := shm_5 f2
  have s1 : (∀ b j, w_el ws b j = if b = v_ad (n_v vs 7) ∧ j = (v_iv (n_v vs 4)).toNat then v_iv (n_v vs 12) else w_el w1 b j) ∧ ∀ b k, w_fd ws b k = w_fd w1 b k := s1.2
  replace f4 := shm_12 f4
  replace f5 := shm_38 f5
  replace f6 := shm_107 f6
  replace f7 := shm_1162 f7
  replace f8 := shm_107 f8
  replace f9 := shm_1165 f9
  replace f11 := shm_1155 f11
  replace f12 := shm_1248 f12
  have q1 : n_v vs 1 = n_v vs 0 := f2.symm
  simp only [q1] at f7 f9 f11 f12
  have ar_0_82_1 : w_ar w1 (n_v vs 0) 82 = w_ar ws (n_v vs 0) 82 := congrArg v_ad (s1.2 _ _).symm
  have ar_0_83_1 : w_ar w1 (n_v vs 0) 83 = w_ar ws (n_v vs 0) 83 := congrArg v_ad (s1.2 _ _).symm
  have cr_0_83 := fdq_126 hD hth r0
  have ar_0_84_1 : w_ar w1 (n_v vs 0) 84 = w_ar ws (n_v vs 0) 84 := congrArg v_ad (s1.2 _ _).symm
  have cr_0_84 := fdq_127 hD hth r0
  have ar_0_85_1 : w_ar w1 (n_v vs 0) 85 = w_ar ws (n_v vs 0) 85 := congrArg v_ad (s1.2 _ _).symm
  have cr_0_85 := fdq_128 hD hth r0
  have ar_0_86_1 : w_ar w1 (n_v vs 0) 86 = w_ar ws (n_v vs 0) 86 := congrArg v_ad (s1.2 _ _).symm
  have cr_0_86 := fdq_129 hD hth r0
  have ar_0_87_1 : w_ar w1 (n_v vs 0) 87 = w_ar ws (n_v vs 0) 87 := congrArg v_ad (s1.2 _ _).symm
  have cr_0_87 := fdq_119 hD hth r0
  have ar_0_88_1 : w_ar w1 (n_v vs 0) 88 = w_ar ws (n_v vs 0) 88 := congrArg v_ad (s1.2 _ _).symm
  have cr_0_88 := fdq_120 hD hth r0
  have ar_0_89_1 : w_ar w1 (n_v vs 0) 89 = w_ar ws (n_v vs 0) 89 := congrArg v_ad (s1.2 _ _).symm
  have cr_0_89 := fdq_121 hD hth r0
  have ar_0_93_1 : w_ar w1 (n_v vs 0) 93 = w_ar ws (n_v vs 0) 93 := congrArg v_ad (s1.2 _ _).symm
  have cr_0_93 := fdq_276 hD hth r0
  have ad_9 : v_ad (n_v vs 9) = w_ar ws (n_v vs 0) 93 := (congrArg v_ad f7).trans ar_0_93_1
  have ad_7 : v_ad (n_v vs 7) = w_ar ws (n_v vs 0) 82 := (congrArg v_ad f9).trans ar_0_82_1
  simp only [ad_9] at f6
  have h6 : v_iv (n_v vs 10) = w_ei w1 (w_ar ws (n_v vs 0) 93) (v_iv (n_v vs 4)) := f6
  simp only [ad_7] at f8
  have h8 : v_iv (n_v vs 8) = w_ei w1 (w_ar ws (n_v vs 0) 82) (v_iv (n_v vs 4)) := f8
  have g11 : v_iv (n_v vs 6) = w_fi w1 (n_v vs 0) 79 := congrArg v_iv f11
  simp only [ar_0_82_1, ar_0_83_1, ar_0_84_1, ar_0_85_1, ar_0_86_1, ar_0_87_1, ar_0_88_1, ar_0_89_1, ar_0_93_1] at f12
  have fe_0_79_1 : w_fi ws (n_v vs 0) 79 = w_fi w1 (n_v vs 0) 79 := congrArg v_iv (s1.2 _ _)
  have fe_0_80_1 : w_fi ws (n_v vs 0) 80 = w_fi w1 (n_v vs 0) 80 := congrArg v_iv (s1.2 _ _)
  have fe_0_81_1 : w_fi ws (n_v vs 0) 81 = w_fi w1 (n_v vs 0) 81 := congrArg v_iv (s1.2 _ _)
  have hE_0_82_1 : ∀ j : Int, 0 ≤ j → (j = v_iv (n_v vs 4) → w_ei ws (w_ar ws (n_v vs 0) 82) j = v_iv (n_v vs 12)) ∧ (j ≠ v_iv (n_v vs 4) → w_ei ws (w_ar ws (n_v vs 0) 82) j = w_ei w1 (w_ar ws (n_v vs 0) 82) j) := fun j hj => ⟨fun h => by unfold w_ei; rw [s1.1, if_pos ⟨ad_7.symm, by rw [h]⟩], fun h => by unfold w_ei; rw [s1.1, if_neg (fun e => h (by have := e.2; omega))]⟩
  have hE_0_83_1 : ∀ j : Int, w_ei ws (w_ar ws (n_v vs 0) 83) j = w_ei w1 (w_ar ws (n_v vs 0) 83) j := el_kp s1.1 r7 cr_0_83 (by decide)
  have hE_0_84_1 : ∀ j : Int, w_ei ws (w_ar ws (n_v vs 0) 84) j = w_ei w1 (w_ar ws (n_v vs 0) 84) j := el_kp s1.1 r7 cr_0_84 (by decide)
  have hE_0_85_1 : ∀ j : Int, w_ei ws (w_ar ws (n_v vs 0) 85) j = w_ei w1 (w_ar ws (n_v vs 0) 85) j := el_kp s1.1 r7 cr_0_85 (by decide)
  have hE_0_86_1 : ∀ j : Int, w_ei ws (w_ar ws (n_v vs 0) 86) j = w_ei w1 (w_ar ws (n_v vs 0) 86) j := el_kp s1.1 r7 cr_0_86 (by decide)
  have hE_0_87_1 : ∀ j : Int, w_ei ws (w_ar ws (n_v vs 0) 87) j = w_ei w1 (w_ar ws (n_v vs 0) 87) j := el_kp s1.1 r7 cr_0_87 (by decide)
  have hE_0_88_1 : ∀ j : Int, w_ei ws (w_ar ws (n_v vs 0) 88) j = w_ei w1 (w_ar ws (n_v vs 0) 88) j := el_kp s1.1 r7 cr_0_88 (by decide)
  have hE_0_89_1 : ∀ j : Int, w_ei ws (w_ar ws (n_v vs 0) 89) j = w_ei w1 (w_ar ws (n_v vs 0) 89) j := el_kp s1.1 r7 cr_0_89 (by decide)
  have hE_0_93_1 : ∀ j : Int, w_ei ws (w_ar ws (n_v vs 0) 93) j = w_ei w1 (w_ar ws (n_v vs 0) 93) j := el_kp s1.1 r7 cr_0_93 (by decide)
  have kz_0_79 := fdq_147 hD hth r0
  have kz_0_80 := fdq_131 hD hth r0
  have kz_0_81 := fdq_124 hD hth r0
  have nf0 : fc_1 PRD (20, [1, 3, 13, 5], [60, 3, 9, 428, 79, 80, 81, 82, 93, 83, 84, 85, 86, 87, 88, 89]) ws (vs) := by
    refine ⟨nf_in hl rfl, sgq_1248 ?_⟩
    · show RDX (w_fi ws (n_v vs 1) 79) (w_fi ws (n_v vs 1) 80) (w_fi ws (n_v vs 1) 81) (w_ei ws (w_ar ws (n_v vs 1) 82)) (w_ei ws (w_ar ws (n_v vs 1) 93)) (w_ei ws (w_ar ws (n_v vs 1) 83)) (w_ei ws (w_ar ws (n_v vs 1) 84)) (w_ei ws (w_ar ws (n_v vs 1) 85)) (w_ei ws (w_ar ws (n_v vs 1) 86)) (w_ei ws (w_ar ws (n_v vs 1) 87)) (w_ei ws (w_ar ws (n_v vs 1) 88)) (w_ei ws (w_ar ws (n_v vs 1) 89)) (v_iv (n_v vs 3)) (v_iv (n_v vs 13)) (v_iv (n_v vs 5))
      rw [q1]
      exact vc_Mo_rise_29_0 (v_iv (n_v vs 3)) (v_iv (n_v vs 4)) (v_iv (n_v vs 5)) (v_iv (n_v vs 6)) (v_iv (n_v vs 8)) (v_iv (n_v vs 10)) (v_iv (n_v vs 11)) (v_iv (n_v vs 12)) (v_iv (n_v vs 13)) (w_ei w1 (w_ar ws (n_v vs 0) 93)) (w_ei w1 (w_ar ws (n_v vs 0) 82)) (w_fi w1 (n_v vs 0) 79) (w_ei w1 (w_ar ws (n_v vs 0) 83)) (w_ei w1 (w_ar ws (n_v vs 0) 84)) (w_ei w1 (w_ar ws (n_v vs 0) 85)) (w_ei w1 (w_ar ws (n_v vs 0) 86)) (w_ei w1 (w_ar ws (n_v vs 0) 87)) (w_ei w1 (w_ar ws (n_v vs 0) 88)) (w_ei w1 (w_ar ws (n_v vs 0) 89)) (w_fi w1 (n_v vs 0) 80) (w_fi w1 (n_v vs 0) 81) (w_fi ws (n_v vs 0) 79) (w_fi ws (n_v vs 0) 80) (w_fi ws (n_v vs 0) 81) (w_ei ws (w_ar ws (n_v vs 0) 82)) (w_ei ws (w_ar ws (n_v vs 0) 83)) (w_ei ws (w_ar ws (n_v vs 0) 84)) (w_ei ws (w_ar ws (n_v vs 0) 85)) (w_ei ws (w_ar ws (n_v vs 0) 86)) (w_ei ws (w_ar ws (n_v vs 0) 87)) (w_ei ws (w_ar ws (n_v vs 0) 88)) (w_ei ws (w_ar ws (n_v vs 0) 89)) (w_ei ws (w_ar ws (n_v vs 0) 93)) k3 k4 k5 k6 k8 k10 k11 k12 k13 d0 d1 d4 f0 f4 f5 h6 h8 g11 f12 fe_0_79_1 fe_0_80_1 fe_0_81_1 hE_0_82_1 hE_0_83_1 hE_0_84_1 hE_0_85_1 hE_0_86_1 hE_0_87_1 hE_0_88_1 hE_0_89_1 hE_0_93_1 kz_0_79 kz_0_80 kz_0_81
  refine ⟨(fun _ h => (by cases h)), [], trivial, ?_, (fun _ h => (by cases h))⟩
  rw [List.append_nil]
  exact List.forall_mem_cons.mpr ⟨⟨show (20 : Nat) < 100 from by decide, nf0⟩, (fun _ h => (by cases h))⟩
def n_Mo_rise_an : List an_T := [(2, [(0, (2, 0, 0, [165])), (1, (0, 0, 76, []))], [], (0, 0), [(0, 0, 99998), (1, 2, 76), (0, 0, 100000), (0, 0, 0), (0, 0, 0)], [], [], [(2, 0, 0, [165])], 0, [], [(20, [1], [60, 3, 7, 396, 79, 80, 81, 83, 84, 85, 86, 87, 88, 89]), (20, [1, 2], [60, 0, 1, 412, 82]), (24, [0, 1], [])]), (25, [(0, (2, 0, 0, [165])), (1, (0, 0, 1, []))], [], (0, 0), [(0, 0, 99975), (2, 3, (Int.negSucc 1)), (0, 0, 100000), (0, 0, 0), (0, 0, 0)], [], [], [(2, 0, 0, [165])], 0, [(0, (Int.negSucc 1), 1200001, [])], [(20, [1, 2, 3], [60, 3, 8, 419, 79, 80, 81, 82, 83, 84, 85, 86, 87, 88, 89]), (20, [1, 2], [60, 1, 4, 422, 81, 82, 87, 88, 89]), (24, [0, 1], [])]), (33, [(0, (2, 0, 0, [165])), (1, (0, 0, 1, [])), (2, (0, 0, 200, []))], [], (0, 0), [(0, 0, 99975), (2, 4, (Int.negSucc 1)), (0, 0, 99967), (1, 3, 200), (0, 0, 100000)], [(2, 3, (Int.negSucc 999999999999), 0)], [], [(2, 0, 0, [165])], 0, [(0, (Int.negSucc 1), 1200001, [])], [(20, [1, 2, 4], [60, 3, 8, 420, 79, 80, 81, 82, 83, 84, 85, 86, 87, 88, 89]), (20, [1, 2, 3], [60, 0, 4, 421, 82, 87, 88, 89]), (20, [2], [50, 0, 0, 0, 2, 0, 0, 1, 0]), (23, [4], [(Int.negSucc 0), (Int.negSucc 0)]), (24, [0, 1], [])]), (116, [(0, (2, 0, 0, [165])), (1, (0, 0, 0, []))], [], (0, 0), [(0, 0, 99884), (2, 3, (Int.negSucc 1)), (0, 0, 100000), (0, 0, 0), (0, 0, 0)], [], [], [(2, 0, 0, [165])], 0, [(0, (Int.negSucc 1), 221100001, [])], [(20, [1, 3], [60, 3, 8, 423, 79, 80, 81, 82, 83, 84, 85, 86, 87, 88, 89]), (24, [0, 1], [])]), (129, [(0, (2, 0, 0, [165])), (1, (0, 0, 0, [])), (2, (0, 1, 1000000, [])), (3, (0, 0, 200, []))], [], (0, 0), [(0, 0, 99884), (2, 5, (Int.negSucc 1)), (0, 0, 99871), (1, 4, 200), (0, 0, 100000)], [], [], [(2, 0, 0, [165])], 0, [(0, (Int.negSucc 1), 221100001, [])], [(20, [1, 5], [60, 3, 8, 423, 79, 80, 81, 82, 83, 84, 85, 86, 87, 88, 89]), (20, [1], [60, 3, 9, 418, 79, 80, 81, 93, 82, 83, 84, 85, 86, 87, 88, 89]), (20, [1, 3, 4], [60, 0, 5, 425, 82, 93, 83, 84, 86]), (23, [5], [(Int.negSucc 0), (Int.negSucc 0)]), (24, [0, 1], [])]), (248, [(0, (2, 0, 0, [165])), (1, (0, 0, 0, [])), (2, (0, (Int.negSucc 221100201), 1000000, [])), (3, (0, 0, 200, []))], [], (0, 0), [(0, 0, 99884), (2, 5, (Int.negSucc 1)), (0, 0, 99752), (1, 4, 200), (0, 0, 100000)], [], [], [(2, 0, 0, [165])], 0, [(0, (Int.negSucc 1), 221100001, [])], [(20, [1, 5], [60, 3, 8, 423, 79, 80, 81, 82, 83, 84, 85, 86, 87, 88, 89]), (20, [1], [60, 3, 9, 418, 79, 80, 81, 93, 82, 83, 84, 85, 86, 87, 88, 89]), (20, [1, 3], [60, 1, 5, 426, 80, 82, 93, 83, 84, 86]), (20, [1, 4, 3], [60, 0, 5, 427, 82, 93, 87, 88, 89]), (23, [5], [(Int.negSucc 0), (Int.negSucc 0)]), (24, [0, 1], [])]), (328, [(0, (2, 0, 0, [165])), (1, (0, 0, 0, [])), (2, (0, (Int.negSucc 221100201), 1000000, [])), (3, (0, 0, 76, []))], [], (0, 0), [(0, 0, 99884), (2, 5, (Int.negSucc 1)), (0, 0, 99672), (1, 4, 76), (0, 0, 100000)], [], [], [(2, 0, 0, [165])], 0, [(0, (Int.negSucc 1), 221100001, [])], [(20, [1, 3, 4, 5], [60, 3, 9, 428, 79, 80, 81, 82, 93, 83, 84, 85, 86, 87, 88, 89]), (23, [5], [(Int.negSucc 0), (Int.negSucc 0)]), (24, [0, 1], [])])]
def t_Mo_rise_ct : ct_L := [(0, 547, e_Mo_min), (1, 786, e_Mo_up)]
set_option maxRecDepth 100000 in
theorem c_Mo_rise {l : Launch} {D : va_G} {kA : Nat → ClassId} (h_Mo_min : ct_ok PRD l D kA GG y_Mo_min z_Mo_min e_Mo_min) (h_Mo_up : ct_ok PRD l D kA GG y_Mo_up z_Mo_up e_Mo_up) : ct_ok PRD l D kA GG y_Mo_rise z_Mo_rise e_Mo_rise := chk_all_ok (FT := [(174, 13, 82), (177, 13, 83), (180, 13, 84), (186, 13, 86), (189, 13, 87), (192, 13, 88), (195, 13, 89), (207, 13, 93), (777, 13, 80), (780, 13, 81), (783, 13, 79)]) (PT := []) (CT := t_Mo_rise_ct) (KT := [(1, 546, .int (1000000), (0, 1000000, 1000000, []))]) (NT := []) (AN := n_Mo_rise_an) (OT := [o_Mo_rise_0, o_Mo_rise_1, o_Mo_rise_2, o_Mo_rise_3, o_Mo_rise_4, o_Mo_rise_5, o_Mo_rise_6, o_Mo_rise_7, o_Mo_rise_8, o_Mo_rise_9, o_Mo_rise_10, o_Mo_rise_11, o_Mo_rise_12, o_Mo_rise_13, o_Mo_rise_14, o_Mo_rise_15, o_Mo_rise_16, o_Mo_rise_17, o_Mo_rise_18, o_Mo_rise_19, o_Mo_rise_20, o_Mo_rise_21, o_Mo_rise_22, o_Mo_rise_23, o_Mo_rise_24, o_Mo_rise_25, o_Mo_rise_26, o_Mo_rise_27, o_Mo_rise_28, o_Mo_rise_29]) 5 972 (List.forall_mem_cons.mpr ⟨oo_Mo_rise_0, List.forall_mem_cons.mpr ⟨oo_Mo_rise_1, List.forall_mem_cons.mpr ⟨oo_Mo_rise_2, List.forall_mem_cons.mpr ⟨oo_Mo_rise_3, List.forall_mem_cons.mpr ⟨oo_Mo_rise_4, List.forall_mem_cons.mpr ⟨oo_Mo_rise_5, List.forall_mem_cons.mpr ⟨oo_Mo_rise_6, List.forall_mem_cons.mpr ⟨oo_Mo_rise_7, List.forall_mem_cons.mpr ⟨oo_Mo_rise_8, List.forall_mem_cons.mpr ⟨oo_Mo_rise_9, List.forall_mem_cons.mpr ⟨oo_Mo_rise_10, List.forall_mem_cons.mpr ⟨oo_Mo_rise_11, List.forall_mem_cons.mpr ⟨oo_Mo_rise_12, List.forall_mem_cons.mpr ⟨oo_Mo_rise_13, List.forall_mem_cons.mpr ⟨oo_Mo_rise_14, List.forall_mem_cons.mpr ⟨oo_Mo_rise_15, List.forall_mem_cons.mpr ⟨oo_Mo_rise_16, List.forall_mem_cons.mpr ⟨oo_Mo_rise_17, List.forall_mem_cons.mpr ⟨oo_Mo_rise_18, List.forall_mem_cons.mpr ⟨oo_Mo_rise_19, List.forall_mem_cons.mpr ⟨oo_Mo_rise_20, List.forall_mem_cons.mpr ⟨oo_Mo_rise_21, List.forall_mem_cons.mpr ⟨oo_Mo_rise_22, List.forall_mem_cons.mpr ⟨oo_Mo_rise_23, List.forall_mem_cons.mpr ⟨oo_Mo_rise_24, List.forall_mem_cons.mpr ⟨oo_Mo_rise_25, List.forall_mem_cons.mpr ⟨oo_Mo_rise_26, List.forall_mem_cons.mpr ⟨oo_Mo_rise_27, List.forall_mem_cons.mpr ⟨oo_Mo_rise_28, List.forall_mem_cons.mpr ⟨oo_Mo_rise_29, List.forall_mem_nil _⟩⟩⟩⟩⟩⟩⟩⟩⟩⟩⟩⟩⟩⟩⟩⟩⟩⟩⟩⟩⟩⟩⟩⟩⟩⟩⟩⟩⟩⟩) (by decide +kernel) ⟨List.forall_mem_cons.mpr ⟨gf_Mo_174, List.forall_mem_cons.mpr ⟨gf_Mo_177, List.forall_mem_cons.mpr ⟨gf_Mo_180, List.forall_mem_cons.mpr ⟨gf_Mo_186, List.forall_mem_cons.mpr ⟨gf_Mo_189, List.forall_mem_cons.mpr ⟨gf_Mo_192, List.forall_mem_cons.mpr ⟨gf_Mo_195, List.forall_mem_cons.mpr ⟨gf_Mo_207, List.forall_mem_cons.mpr ⟨gf_Mo_777, List.forall_mem_cons.mpr ⟨gf_Mo_780, List.forall_mem_cons.mpr ⟨gf_Mo_783, List.forall_mem_nil _⟩⟩⟩⟩⟩⟩⟩⟩⟩⟩⟩, List.forall_mem_nil _, List.forall_mem_cons.mpr ⟨cl_static (y := y_Mo_min) h_Mo_min wm_3174 wm_9 wm_3172 wm_3173 ⟨by decide, by decide, by decide +kernel⟩ (by decide), List.forall_mem_cons.mpr ⟨cl_virtual (y := y_Mo_up) (ci := 13) rfl rfl ⟨_, _, rfl⟩ (by decide +kernel) h_Mo_up wm_3415 wm_9 wm_3412 wm_3414 wv_18_6 ⟨by decide, by decide, by decide +kernel⟩ (by decide), List.forall_mem_nil _⟩⟩, List.forall_mem_cons.mpr ⟨kx_Mo_1_546, List.forall_mem_nil _⟩, List.forall_mem_nil _, GG_pl⟩ (by decide +kernel)

set_option maxHeartbeats 4000000 in
theorem vc_Mo_shift_0_r0 (x2 : Int) (x3 : Int) (order_0 : Int → Int) (pt_0 : Int → Int) (ph_0 : Int → Int) (pn_0 : Int) (pm_0 : Int) (alive_0 : Int → Int) (k2 : 0 ≤ x2 ∧ x2 ≤ 0) (k3 : 0 ≤ x3 ∧ x3 ≤ 25) (h0 : x3 = order_0 (x2)) (f3 : CNH (pn_0) (pm_0) (pt_0) (ph_0) (alive_0) (order_0)) (kz_0_31 : 0 ≤ pn_0 ∧ pn_0 ≤ 25) (kz_0_32 : 0 ≤ pm_0 ∧ pm_0 ≤ 80) : 0 ≤ x3 ∧ x3 ≤ 24 := by
  have n3 := ‹CNH _ _ _ _ _ _›.1
  have h := cnh_rng (j := x2) ‹CNH _ _ _ _ _ _› (by omega) (by omega)
  omega
def o_Mo_shift_0 : or_T := (6, 4, [(0, (2, 0, 0, [165])), (1, (2, 0, 0, [232])), (2, (0, 0, 0, [])), (3, (0, 0, 25, []))], [(10, [3, 1, 2], []), (9, [1, 0], [96]), (20, [0], [60, 2, 2, 75, 31, 32, 33, 34]), (20, [0], [60, 2, 4, 286, 31, 32, 33, 34, 35, 96]), (20, [0], [60, 1, 1, 823, 31, 96])], [(3, (0, 0, 24, []))], [], [], [], [])
theorem oo_Mo_shift_0 {kA : Nat → ClassId} : or_ok PRD kA GG o_Mo_shift_0 := by
  refine or_mk fun A ta ws vs hD hth hl => ?_
  intro t0 r0 t1 r1 t2 k2 t3 k3 f0 f1 f2 f3 f4
  replace f0 := shm_107 f0
  replace f1 := shm_666 f1
  have ad_1 : v_ad (n_v vs 1) = w_ar ws (n_v vs 0) 96 := congrArg v_ad f1
  simp only [ad_1] at f0
  have h0 : v_iv (n_v vs 3) = w_ei ws (w_ar ws (n_v vs 0) 96) (v_iv (n_v vs 2)) := f0
  have kz_0_31 := fdq_145 hD hth r0
  have kz_0_32 := fdq_140 hD hth r0
  have hrf0 : 0 ≤ v_iv (n_v vs 3) ∧ v_iv (n_v vs 3) ≤ 24 := vc_Mo_shift_0_r0 (v_iv (n_v vs 2)) (v_iv (n_v vs 3)) (w_ei ws (w_ar ws (n_v vs 0) 96)) (w_ei ws (w_ar ws (n_v vs 0) 33)) (w_ei ws (w_ar ws (n_v vs 0) 34)) (w_fi ws (n_v vs 0) 31) (w_fi ws (n_v vs 0) 32) (w_ei ws (w_ar ws (n_v vs 0) 35)) k2 k3 h0 (shm_1249 f3) kz_0_31 kz_0_32
  have rf3 : tv_ok ta (0, 0, 24, []) (n_v vs 3) := tv_in t3 (by first | omega | grind) (by first | omega | grind)
  refine ⟨List.forall_mem_cons.mpr ⟨rf3, (fun _ h => (by cases h))⟩, [], trivial, ?_, (fun _ h => (by cases h))⟩
  rw [List.append_nil]
  exact (fun _ h => (by cases h))
set_option maxHeartbeats 4000000 in
theorem vc_Mo_shift_1_r0 (x4 : Int) (x5 : Int) (order_0 : Int → Int) (pt_0 : Int → Int) (ph_0 : Int → Int) (pn_0 : Int) (pm_0 : Int) (alive_0 : Int → Int) (k4 : 1 ≤ x4 ∧ x4 ≤ 1) (k5 : 0 ≤ x5 ∧ x5 ≤ 25) (h0 : x5 = order_0 (x4)) (f4 : CNH (pn_0) (pm_0) (pt_0) (ph_0) (alive_0) (order_0)) (kz_0_31 : 0 ≤ pn_0 ∧ pn_0 ≤ 25) (kz_0_32 : 0 ≤ pm_0 ∧ pm_0 ≤ 80) : 0 ≤ x5 ∧ x5 ≤ 24 := by
  have n3 := ‹CNH _ _ _ _ _ _›.1
  have h := cnh_rng (j := x4) ‹CNH _ _ _ _ _ _› (by omega) (by omega)
  omega
def o_Mo_shift_1 : or_T := (13, 6, [(0, (2, 0, 0, [165])), (1, (2, 0, 0, [232])), (2, (0, 0, 0, [])), (3, (0, 0, 24, [])), (4, (0, 1, 1, [])), (5, (0, 0, 25, []))], [(10, [5, 1, 4], []), (9, [1, 0], [96]), (10, [3, 1, 2], []), (20, [0], [60, 2, 2, 75, 31, 32, 33, 34]), (20, [0], [60, 2, 4, 286, 31, 32, 33, 34, 35, 96]), (20, [0], [60, 1, 1, 823, 31, 96])], [(5, (0, 0, 24, []))], [], [], [], [])
theorem oo_Mo_shift_1 {kA : Nat → ClassId} : or_ok PRD kA GG o_Mo_shift_1 := by
  refine or_mk fun A ta ws vs hD hth hl => ?_
  intro t0 r0 t1 r1 t2 k2 t3 k3 t4 k4 t5 k5 f0 f1 f2 f3 f4 f5
  replace f0 := shm_107 f0
  replace f1 := shm_666 f1
  have ad_1 : v_ad (n_v vs 1) = w_ar ws (n_v vs 0) 96 := congrArg v_ad f1
  simp only [ad_1] at f0
  have h0 : v_iv (n_v vs 5) = w_ei ws (w_ar ws (n_v vs 0) 96) (v_iv (n_v vs 4)) := f0
  have kz_0_31 := fdq_145 hD hth r0
  have kz_0_32 := fdq_140 hD hth r0
  have hrf0 : 0 ≤ v_iv (n_v vs 5) ∧ v_iv (n_v vs 5) ≤ 24 := vc_Mo_shift_1_r0 (v_iv (n_v vs 4)) (v_iv (n_v vs 5)) (w_ei ws (w_ar ws (n_v vs 0) 96)) (w_ei ws (w_ar ws (n_v vs 0) 33)) (w_ei ws (w_ar ws (n_v vs 0) 34)) (w_fi ws (n_v vs 0) 31) (w_fi ws (n_v vs 0) 32) (w_ei ws (w_ar ws (n_v vs 0) 35)) k4 k5 h0 (shm_1249 f4) kz_0_31 kz_0_32
  have rf5 : tv_ok ta (0, 0, 24, []) (n_v vs 5) := tv_in t5 (by first | omega | grind) (by first | omega | grind)
  refine ⟨List.forall_mem_cons.mpr ⟨rf5, (fun _ h => (by cases h))⟩, [], trivial, ?_, (fun _ h => (by cases h))⟩
  rw [List.append_nil]
  exact (fun _ h => (by cases h))
set_option maxHeartbeats 4000000 in
theorem vc_Mo_shift_2_r0 (x6 : Int) (x7 : Int) (order_0 : Int → Int) (pt_0 : Int → Int) (ph_0 : Int → Int) (pn_0 : Int) (pm_0 : Int) (alive_0 : Int → Int) (k6 : 2 ≤ x6 ∧ x6 ≤ 2) (k7 : 0 ≤ x7 ∧ x7 ≤ 25) (h0 : x7 = order_0 (x6)) (f5 : CNH (pn_0) (pm_0) (pt_0) (ph_0) (alive_0) (order_0)) (kz_0_31 : 0 ≤ pn_0 ∧ pn_0 ≤ 25) (kz_0_32 : 0 ≤ pm_0 ∧ pm_0 ≤ 80) : 0 ≤ x7 ∧ x7 ≤ 24 := by
  have n3 := ‹CNH _ _ _ _ _ _›.1
  have h := cnh_rng (j := x6) ‹CNH _ _ _ _ _ _› (by omega) (by omega)
  omega
def o_Mo_shift_2 : or_T := (20, 8, [(0, (2, 0, 0, [165])), (1, (2, 0, 0, [232])), (2, (0, 0, 0, [])), (3, (0, 0, 24, [])), (4, (0, 1, 1, [])), (5, (0, 0, 24, [])), (6, (0, 2, 2, [])), (7, (0, 0, 25, []))], [(10, [7, 1, 6], []), (9, [1, 0], [96]), (10, [5, 1, 4], []), (10, [3, 1, 2], []), (20, [0], [60, 2, 2, 75, 31, 32, 33, 34]), (20, [0], [60, 2, 4, 286, 31, 32, 33, 34, 35, 96]), (20, [0], [60, 1, 1, 823, 31, 96])], [(7, (0, 0, 24, []))], [], [], [], [])
theorem oo_Mo_shift_2 {kA : Nat → ClassId} : or_ok PRD kA GG o_Mo_shift_2 := by
  refine or_mk fun A ta ws vs hD hth hl => ?_
  intro t0 r0 t1 r1 t2 k2 t3 k3 t4 k4 t5 k5 t6 k6 t7 k7 f0 f1 f2 f3 f4 f5 f6
  replace f0 := shm_107 f0
  replace f1 := shm_666 f1
  have ad_1 : v_ad (n_v vs 1) = w_ar ws (n_v vs 0) 96 := congrArg v_ad f1
  simp only [ad_1] at f0
  have h0 : v_iv (n_v vs 7) = w_ei ws (w_ar ws (n_v vs 0) 96) (v_iv (n_v vs 6)) := f0
  have kz_0_31 := fdq_145 hD hth r0
  have kz_0_32 := fdq_140 hD hth r0
  have hrf0 : 0 ≤ v_iv (n_v vs 7) ∧ v_iv (n_v vs 7) ≤ 24 := vc_Mo_shift_2_r0 (v_iv (n_v vs 6)) (v_iv (n_v vs 7)) (w_ei ws (w_ar ws (n_v vs 0) 96)) (w_ei ws (w_ar ws (n_v vs 0) 33)) (w_ei ws (w_ar ws (n_v vs 0) 34)) (w_fi ws (n_v vs 0) 31) (w_fi ws (n_v vs 0) 32) (w_ei ws (w_ar ws (n_v vs 0) 35)) k6 k7 h0 (shm_1249 f5) kz_0_31 kz_0_32
  have rf7 : tv_ok ta (0, 0, 24, []) (n_v vs 7) := tv_in t7 (by first | omega | grind) (by first | omega | grind)
  refine ⟨List.forall_mem_cons.mpr ⟨rf7, (fun _ h => (by cases h))⟩, [], trivial, ?_, (fun _ h => (by cases h))⟩
  rw [List.append_nil]
  exact (fun _ h => (by cases h))
set_option maxHeartbeats 4000000 in
theorem vc_Mo_shift_3_0 (x2 : Int) (x3 : Int) (x4 : Int) (x6 : Int) (pt_0 : Int → Int) (ph_0 : Int → Int) (pn_0 : Int) (pm_0 : Int) (alive_0 : Int → Int) (order_0 : Int → Int) (pt_1 : Int → Int) (ph_1 : Int → Int) (pn_1 : Int) (pm_1 : Int) (alive_1 : Int → Int) (order_1 : Int → Int) (pt_2 : Int → Int) (ph_2 : Int → Int) (pn_2 : Int) (pm_2 : Int) (alive_2 : Int → Int) (order_2 : Int → Int) (pt_3 : Int → Int) (ph_3 : Int → Int) (pn_3 : Int) (pm_3 : Int) (alive_3 : Int → Int) (order_3 : Int → Int) (pt_4 : Int → Int) (ph_4 : Int → Int) (pn_4 : Int) (pm_4 : Int) (alive_4 : Int → Int) (order_4 : Int → Int) (pt_5 : Int → Int) (ph_5 : Int → Int) (pn_5 : Int) (pm_5 : Int) (alive_5 : Int → Int) (order_5 : Int → Int) (order_6 : Int → Int) (pt_6 : Int → Int) (ph_6 : Int → Int) (pn_6 : Int) (pm_6 : Int) (alive_6 : Int → Int) (nx_0 : Int → Int) (nx_1 : Int → Int) (nx_2 : Int → Int) (nx_3 : Int → Int) (nx_4 : Int → Int) (nx_5 : Int → Int) (ny_1 : Int → Int) (ny_2 : Int → Int) (ny_3 : Int → Int) (ny_4 : Int → Int) (ny_5 : Int → Int) (ny_6 : Int → Int) (under_0 : Int → Int) (under_1 : Int → Int) (under_2 : Int → Int) (under_3 : Int → Int) (under_4 : Int → Int) (under_5 : Int → Int) (under_6 : Int → Int) (k2 : 0 ≤ x2 ∧ x2 ≤ 0) (k3 : 0 ≤ x3 ∧ x3 ≤ 24) (h29 : x3 = order_6 (x2)) (fe_0_31_1 : pn_0 = pn_1) (fe_0_32_1 : pm_0 = pm_1) (fe_0_31_2 : pn_1 = pn_2) (fe_0_32_2 : pm_1 = pm_2) (fe_0_31_3 : pn_2 = pn_3) (fe_0_32_3 : pm_2 = pm_3) (fe_0_31_4 : pn_3 = pn_4) (fe_0_32_4 : pm_3 = pm_4) (fe_0_31_5 : pn_4 = pn_5) (fe_0_32_5 : pm_4 = pm_5) (fe_0_31_6 : pn_5 = pn_6) (fe_0_32_6 : pm_5 = pm_6) (hE_0_33_1 : ∀ j : Int, pt_0 j = pt_1 j) (hE_0_33_2 : ∀ j : Int, pt_1 j = pt_2 j) (hE_0_33_3 : ∀ j : Int, pt_2 j = pt_3 j) (hE_0_33_4 : ∀ j : Int, pt_3 j = pt_4 j) (hE_0_33_5 : ∀ j : Int, pt_4 j = pt_5 j) (hE_0_33_6 : ∀ j : Int, pt_5 j = pt_6 j) (hE_0_34_1 : ∀ j : Int, ph_0 j = ph_1 j) (hE_0_34_2 : ∀ j : Int, ph_1 j = ph_2 j) (hE_0_34_3 : ∀ j : Int, ph_2 j = ph_3 j) (hE_0_34_4 : ∀ j : Int, ph_3 j = ph_4 j) (hE_0_34_5 : ∀ j : Int, ph_4 j = ph_5 j) (hE_0_34_6 : ∀ j : Int, ph_5 j = ph_6 j) (hE_0_35_1 : ∀ j : Int, alive_0 j = alive_1 j) (hE_0_35_2 : ∀ j : Int, alive_1 j = alive_2 j) (hE_0_35_3 : ∀ j : Int, alive_2 j = alive_3 j) (hE_0_35_4 : ∀ j : Int, alive_3 j = alive_4 j) (hE_0_35_5 : ∀ j : Int, alive_4 j = alive_5 j) (hE_0_35_6 : ∀ j : Int, alive_5 j = alive_6 j) (hE_0_74_1 : ∀ j : Int, nx_0 j = nx_1 j) (hE_0_74_3 : ∀ j : Int, nx_2 j = nx_3 j) (hE_0_74_5 : ∀ j : Int, nx_4 j = nx_5 j) (hE_0_75_2 : ∀ j : Int, ny_1 j = ny_2 j) (hE_0_75_4 : ∀ j : Int, ny_3 j = ny_4 j) (hE_0_75_6 : ∀ j : Int, ny_5 j = ny_6 j) (hE_0_96_1 : ∀ j : Int, order_0 j = order_1 j) (hE_0_96_2 : ∀ j : Int, order_1 j = order_2 j) (hE_0_96_3 : ∀ j : Int, order_2 j = order_3 j) (hE_0_96_4 : ∀ j : Int, order_3 j = order_4 j) (hE_0_96_5 : ∀ j : Int, order_4 j = order_5 j) (hE_0_96_6 : ∀ j : Int, order_5 j = order_6 j) (hE_0_123_1 : ∀ j : Int, under_0 j = under_1 j) (hE_0_123_2 : ∀ j : Int, under_1 j = under_2 j) (hE_0_123_3 : ∀ j : Int, under_2 j = under_3 j) (hE_0_123_4 : ∀ j : Int, under_3 j = under_4 j) (hE_0_123_5 : ∀ j : Int, under_4 j = under_5 j) (hE_0_123_6 : ∀ j : Int, under_5 j = under_6 j) (kz_0_31 : 0 ≤ pn_0 ∧ pn_0 ≤ 25) (kz_0_32 : 0 ≤ pm_0 ∧ pm_0 ≤ 80) : x3 = order_0 (0) := by
  subst fe_0_31_1
  subst fe_0_32_1
  subst fe_0_31_2
  subst fe_0_32_2
  subst fe_0_31_3
  subst fe_0_32_3
  subst fe_0_31_4
  subst fe_0_32_4
  subst fe_0_31_5
  subst fe_0_32_5
  subst fe_0_31_6
  subst fe_0_32_6
  have e_hE_0_33_1 := funext hE_0_33_1; subst e_hE_0_33_1
  have e_hE_0_33_2 := funext hE_0_33_2; subst e_hE_0_33_2
  have e_hE_0_33_3 := funext hE_0_33_3; subst e_hE_0_33_3
  have e_hE_0_33_4 := funext hE_0_33_4; subst e_hE_0_33_4
  have e_hE_0_33_5 := funext hE_0_33_5; subst e_hE_0_33_5
  have e_hE_0_33_6 := funext hE_0_33_6; subst e_hE_0_33_6
  have e_hE_0_34_1 := funext hE_0_34_1; subst e_hE_0_34_1
  have e_hE_0_34_2 := funext hE_0_34_2; subst e_hE_0_34_2
  have e_hE_0_34_3 := funext hE_0_34_3; subst e_hE_0_34_3
  have e_hE_0_34_4 := funext hE_0_34_4; subst e_hE_0_34_4
  have e_hE_0_34_5 := funext hE_0_34_5; subst e_hE_0_34_5
  have e_hE_0_34_6 := funext hE_0_34_6; subst e_hE_0_34_6
  have e_hE_0_35_1 := funext hE_0_35_1; subst e_hE_0_35_1
  have e_hE_0_35_2 := funext hE_0_35_2; subst e_hE_0_35_2
  have e_hE_0_35_3 := funext hE_0_35_3; subst e_hE_0_35_3
  have e_hE_0_35_4 := funext hE_0_35_4; subst e_hE_0_35_4
  have e_hE_0_35_5 := funext hE_0_35_5; subst e_hE_0_35_5
  have e_hE_0_35_6 := funext hE_0_35_6; subst e_hE_0_35_6
  have e_hE_0_74_1 := funext hE_0_74_1; subst e_hE_0_74_1
  have e_hE_0_74_3 := funext hE_0_74_3; subst e_hE_0_74_3
  have e_hE_0_74_5 := funext hE_0_74_5; subst e_hE_0_74_5
  have e_hE_0_75_2 := funext hE_0_75_2; subst e_hE_0_75_2
  have e_hE_0_75_4 := funext hE_0_75_4; subst e_hE_0_75_4
  have e_hE_0_75_6 := funext hE_0_75_6; subst e_hE_0_75_6
  have e_hE_0_96_1 := funext hE_0_96_1; subst e_hE_0_96_1
  have e_hE_0_96_2 := funext hE_0_96_2; subst e_hE_0_96_2
  have e_hE_0_96_3 := funext hE_0_96_3; subst e_hE_0_96_3
  have e_hE_0_96_4 := funext hE_0_96_4; subst e_hE_0_96_4
  have e_hE_0_96_5 := funext hE_0_96_5; subst e_hE_0_96_5
  have e_hE_0_96_6 := funext hE_0_96_6; subst e_hE_0_96_6
  have e_hE_0_123_1 := funext hE_0_123_1; subst e_hE_0_123_1
  have e_hE_0_123_2 := funext hE_0_123_2; subst e_hE_0_123_2
  have e_hE_0_123_3 := funext hE_0_123_3; subst e_hE_0_123_3
  have e_hE_0_123_4 := funext hE_0_123_4; subst e_hE_0_123_4
  have e_hE_0_123_5 := funext hE_0_123_5; subst e_hE_0_123_5
  have e_hE_0_123_6 := funext hE_0_123_6; subst e_hE_0_123_6
  first
    | omega
    | (rw [show (0 : Int) = x2 by omega]; assumption)
    | (rw [show (1 : Int) = x4 by omega]; assumption)
    | (rw [show (2 : Int) = x6 by omega]; assumption)
set_option maxHeartbeats 4000000 in
theorem vc_Mo_shift_3_1 (x2 : Int) (x4 : Int) (x5 : Int) (x6 : Int) (pt_0 : Int → Int) (ph_0 : Int → Int) (pn_0 : Int) (pm_0 : Int) (alive_0 : Int → Int) (order_0 : Int → Int) (pt_1 : Int → Int) (ph_1 : Int → Int) (pn_1 : Int) (pm_1 : Int) (alive_1 : Int → Int) (order_1 : Int → Int) (pt_2 : Int → Int) (ph_2 : Int → Int) (pn_2 : Int) (pm_2 : Int) (alive_2 : Int → Int) (order_2 : Int → Int) (pt_3 : Int → Int) (ph_3 : Int → Int) (pn_3 : Int) (pm_3 : Int) (alive_3 : Int → Int) (order_3 : Int → Int) (pt_4 : Int → Int) (ph_4 : Int → Int) (pn_4 : Int) (pm_4 : Int) (alive_4 : Int → Int) (order_4 : Int → Int) (pt_5 : Int → Int) (ph_5 : Int → Int) (pn_5 : Int) (pm_5 : Int) (alive_5 : Int → Int) (order_5 : Int → Int) (order_6 : Int → Int) (pt_6 : Int → Int) (ph_6 : Int → Int) (pn_6 : Int) (pm_6 : Int) (alive_6 : Int → Int) (nx_0 : Int → Int) (nx_1 : Int → Int) (nx_2 : Int → Int) (nx_3 : Int → Int) (nx_4 : Int → Int) (nx_5 : Int → Int) (ny_1 : Int → Int) (ny_2 : Int → Int) (ny_3 : Int → Int) (ny_4 : Int → Int) (ny_5 : Int → Int) (ny_6 : Int → Int) (under_0 : Int → Int) (under_1 : Int → Int) (under_2 : Int → Int) (under_3 : Int → Int) (under_4 : Int → Int) (under_5 : Int → Int) (under_6 : Int → Int) (k4 : 1 ≤ x4 ∧ x4 ≤ 1) (k5 : 0 ≤ x5 ∧ x5 ≤ 24) (h28 : x5 = order_6 (x4)) (fe_0_31_1 : pn_0 = pn_1) (fe_0_32_1 : pm_0 = pm_1) (fe_0_31_2 : pn_1 = pn_2) (fe_0_32_2 : pm_1 = pm_2) (fe_0_31_3 : pn_2 = pn_3) (fe_0_32_3 : pm_2 = pm_3) (fe_0_31_4 : pn_3 = pn_4) (fe_0_32_4 : pm_3 = pm_4) (fe_0_31_5 : pn_4 = pn_5) (fe_0_32_5 : pm_4 = pm_5) (fe_0_31_6 : pn_5 = pn_6) (fe_0_32_6 : pm_5 = pm_6) (hE_0_33_1 : ∀ j : Int, pt_0 j = pt_1 j) (hE_0_33_2 : ∀ j : Int, pt_1 j = pt_2 j) (hE_0_33_3 : ∀ j : Int, pt_2 j = pt_3 j) (hE_0_33_4 : ∀ j : Int, pt_3 j = pt_4 j) (hE_0_33_5 : ∀ j : Int, pt_4 j = pt_5 j) (hE_0_33_6 : ∀ j : Int, pt_5 j = pt_6 j) (hE_0_34_1 : ∀ j : Int, ph_0 j = ph_1 j) (hE_0_34_2 : ∀ j : Int, ph_1 j = ph_2 j) (hE_0_34_3 : ∀ j : Int, ph_2 j = ph_3 j) (hE_0_34_4 : ∀ j : Int, ph_3 j = ph_4 j) (hE_0_34_5 : ∀ j : Int, ph_4 j = ph_5 j) (hE_0_34_6 : ∀ j : Int, ph_5 j = ph_6 j) (hE_0_35_1 : ∀ j : Int, alive_0 j = alive_1 j) (hE_0_35_2 : ∀ j : Int, alive_1 j = alive_2 j) (hE_0_35_3 : ∀ j : Int, alive_2 j = alive_3 j) (hE_0_35_4 : ∀ j : Int, alive_3 j = alive_4 j) (hE_0_35_5 : ∀ j : Int, alive_4 j = alive_5 j) (hE_0_35_6 : ∀ j : Int, alive_5 j = alive_6 j) (hE_0_74_1 : ∀ j : Int, nx_0 j = nx_1 j) (hE_0_74_3 : ∀ j : Int, nx_2 j = nx_3 j) (hE_0_74_5 : ∀ j : Int, nx_4 j = nx_5 j) (hE_0_75_2 : ∀ j : Int, ny_1 j = ny_2 j) (hE_0_75_4 : ∀ j : Int, ny_3 j = ny_4 j) (hE_0_75_6 : ∀ j : Int, ny_5 j = ny_6 j) (hE_0_96_1 : ∀ j : Int, order_0 j = order_1 j) (hE_0_96_2 : ∀ j : Int, order_1 j = order_2 j) (hE_0_96_3 : ∀ j : Int, order_2 j = order_3 j) (hE_0_96_4 : ∀ j : Int, order_3 j = order_4 j) (hE_0_96_5 : ∀ j : Int, order_4 j = order_5 j) (hE_0_96_6 : ∀ j : Int, order_5 j = order_6 j) (hE_0_123_1 : ∀ j : Int, under_0 j = under_1 j) (hE_0_123_2 : ∀ j : Int, under_1 j = under_2 j) (hE_0_123_3 : ∀ j : Int, under_2 j = under_3 j) (hE_0_123_4 : ∀ j : Int, under_3 j = under_4 j) (hE_0_123_5 : ∀ j : Int, under_4 j = under_5 j) (hE_0_123_6 : ∀ j : Int, under_5 j = under_6 j) (kz_0_31 : 0 ≤ pn_0 ∧ pn_0 ≤ 25) (kz_0_32 : 0 ≤ pm_0 ∧ pm_0 ≤ 80) : x5 = order_0 (1) := by
  subst fe_0_31_1
  subst fe_0_32_1
  subst fe_0_31_2
  subst fe_0_32_2
  subst fe_0_31_3
  subst fe_0_32_3
  subst fe_0_31_4
  subst fe_0_32_4
  subst fe_0_31_5
  subst fe_0_32_5
  subst fe_0_31_6
  subst fe_0_32_6
  have e_hE_0_33_1 := funext hE_0_33_1; subst e_hE_0_33_1
  have e_hE_0_33_2 := funext hE_0_33_2; subst e_hE_0_33_2
  have e_hE_0_33_3 := funext hE_0_33_3; subst e_hE_0_33_3
  have e_hE_0_33_4 := funext hE_0_33_4; subst e_hE_0_33_4
  have e_hE_0_33_5 := funext hE_0_33_5; subst e_hE_0_33_5
  have e_hE_0_33_6 := funext hE_0_33_6; subst e_hE_0_33_6
  have e_hE_0_34_1 := funext hE_0_34_1; subst e_hE_0_34_1
  have e_hE_0_34_2 := funext hE_0_34_2; subst e_hE_0_34_2
  have e_hE_0_34_3 := funext hE_0_34_3; subst e_hE_0_34_3
  have e_hE_0_34_4 := funext hE_0_34_4; subst e_hE_0_34_4
  have e_hE_0_34_5 := funext hE_0_34_5; subst e_hE_0_34_5
  have e_hE_0_34_6 := funext hE_0_34_6; subst e_hE_0_34_6
  have e_hE_0_35_1 := funext hE_0_35_1; subst e_hE_0_35_1
  have e_hE_0_35_2 := funext hE_0_35_2; subst e_hE_0_35_2
  have e_hE_0_35_3 := funext hE_0_35_3; subst e_hE_0_35_3
  have e_hE_0_35_4 := funext hE_0_35_4; subst e_hE_0_35_4
  have e_hE_0_35_5 := funext hE_0_35_5; subst e_hE_0_35_5
  have e_hE_0_35_6 := funext hE_0_35_6; subst e_hE_0_35_6
  have e_hE_0_74_1 := funext hE_0_74_1; subst e_hE_0_74_1
  have e_hE_0_74_3 := funext hE_0_74_3; subst e_hE_0_74_3
  have e_hE_0_74_5 := funext hE_0_74_5; subst e_hE_0_74_5
  have e_hE_0_75_2 := funext hE_0_75_2; subst e_hE_0_75_2
  have e_hE_0_75_4 := funext hE_0_75_4; subst e_hE_0_75_4
  have e_hE_0_75_6 := funext hE_0_75_6; subst e_hE_0_75_6
  have e_hE_0_96_1 := funext hE_0_96_1; subst e_hE_0_96_1
  have e_hE_0_96_2 := funext hE_0_96_2; subst e_hE_0_96_2
  have e_hE_0_96_3 := funext hE_0_96_3; subst e_hE_0_96_3
  have e_hE_0_96_4 := funext hE_0_96_4; subst e_hE_0_96_4
  have e_hE_0_96_5 := funext hE_0_96_5; subst e_hE_0_96_5
  have e_hE_0_96_6 := funext hE_0_96_6; subst e_hE_0_96_6
  have e_hE_0_123_1 := funext hE_0_123_1; subst e_hE_0_123_1
  have e_hE_0_123_2 := funext hE_0_123_2; subst e_hE_0_123_2
  have e_hE_0_123_3 := funext hE_0_123_3; subst e_hE_0_123_3
  have e_hE_0_123_4 := funext hE_0_123_4; subst e_hE_0_123_4
  have e_hE_0_123_5 := funext hE_0_123_5; subst e_hE_0_123_5
  have e_hE_0_123_6 := funext hE_0_123_6; subst e_hE_0_123_6
  first
    | omega
    | (rw [show (0 : Int) = x2 by omega]; assumption)
    | (rw [show (1 : Int) = x4 by omega]; assumption)
    | (rw [show (2 : Int) = x6 by omega]; assumption)
set_option maxHeartbeats 4000000 in
theorem vc_Mo_shift_3_2 (x2 : Int) (x4 : Int) (x6 : Int) (x7 : Int) (pt_0 : Int → Int) (ph_0 : Int → Int) (pn_0 : Int) (pm_0 : Int) (alive_0 : Int → Int) (order_0 : Int → Int) (pt_1 : Int → Int) (ph_1 : Int → Int) (pn_1 : Int) (pm_1 : Int) (alive_1 : Int → Int) (order_1 : Int → Int) (pt_2 : Int → Int) (ph_2 : Int → Int) (pn_2 : Int) (pm_2 : Int) (alive_2 : Int → Int) (order_2 : Int → Int) (pt_3 : Int → Int) (ph_3 : Int → Int) (pn_3 : Int) (pm_3 : Int) (alive_3 : Int → Int) (order_3 : Int → Int) (pt_4 : Int → Int) (ph_4 : Int → Int) (pn_4 : Int) (pm_4 : Int) (alive_4 : Int → Int) (order_4 : Int → Int) (pt_5 : Int → Int) (ph_5 : Int → Int) (pn_5 : Int) (pm_5 : Int) (alive_5 : Int → Int) (order_5 : Int → Int) (order_6 : Int → Int) (pt_6 : Int → Int) (ph_6 : Int → Int) (pn_6 : Int) (pm_6 : Int) (alive_6 : Int → Int) (nx_0 : Int → Int) (nx_1 : Int → Int) (nx_2 : Int → Int) (nx_3 : Int → Int) (nx_4 : Int → Int) (nx_5 : Int → Int) (ny_1 : Int → Int) (ny_2 : Int → Int) (ny_3 : Int → Int) (ny_4 : Int → Int) (ny_5 : Int → Int) (ny_6 : Int → Int) (under_0 : Int → Int) (under_1 : Int → Int) (under_2 : Int → Int) (under_3 : Int → Int) (under_4 : Int → Int) (under_5 : Int → Int) (under_6 : Int → Int) (k6 : 2 ≤ x6 ∧ x6 ≤ 2) (k7 : 0 ≤ x7 ∧ x7 ≤ 24) (h26 : x7 = order_6 (x6)) (fe_0_31_1 : pn_0 = pn_1) (fe_0_32_1 : pm_0 = pm_1) (fe_0_31_2 : pn_1 = pn_2) (fe_0_32_2 : pm_1 = pm_2) (fe_0_31_3 : pn_2 = pn_3) (fe_0_32_3 : pm_2 = pm_3) (fe_0_31_4 : pn_3 = pn_4) (fe_0_32_4 : pm_3 = pm_4) (fe_0_31_5 : pn_4 = pn_5) (fe_0_32_5 : pm_4 = pm_5) (fe_0_31_6 : pn_5 = pn_6) (fe_0_32_6 : pm_5 = pm_6) (hE_0_33_1 : ∀ j : Int, pt_0 j = pt_1 j) (hE_0_33_2 : ∀ j : Int, pt_1 j = pt_2 j) (hE_0_33_3 : ∀ j : Int, pt_2 j = pt_3 j) (hE_0_33_4 : ∀ j : Int, pt_3 j = pt_4 j) (hE_0_33_5 : ∀ j : Int, pt_4 j = pt_5 j) (hE_0_33_6 : ∀ j : Int, pt_5 j = pt_6 j) (hE_0_34_1 : ∀ j : Int, ph_0 j = ph_1 j) (hE_0_34_2 : ∀ j : Int, ph_1 j = ph_2 j) (hE_0_34_3 : ∀ j : Int, ph_2 j = ph_3 j) (hE_0_34_4 : ∀ j : Int, ph_3 j = ph_4 j) (hE_0_34_5 : ∀ j : Int, ph_4 j = ph_5 j) (hE_0_34_6 : ∀ j : Int, ph_5 j = ph_6 j) (hE_0_35_1 : ∀ j : Int, alive_0 j = alive_1 j) (hE_0_35_2 : ∀ j : Int, alive_1 j = alive_2 j) (hE_0_35_3 : ∀ j : Int, alive_2 j = alive_3 j) (hE_0_35_4 : ∀ j : Int, alive_3 j = alive_4 j) (hE_0_35_5 : ∀ j : Int, alive_4 j = alive_5 j) (hE_0_35_6 : ∀ j : Int, alive_5 j = alive_6 j) (hE_0_74_1 : ∀ j : Int, nx_0 j = nx_1 j) (hE_0_74_3 : ∀ j : Int, nx_2 j = nx_3 j) (hE_0_74_5 : ∀ j : Int, nx_4 j = nx_5 j) (hE_0_75_2 : ∀ j : Int, ny_1 j = ny_2 j) (hE_0_75_4 : ∀ j : Int, ny_3 j = ny_4 j) (hE_0_75_6 : ∀ j : Int, ny_5 j = ny_6 j) (hE_0_96_1 : ∀ j : Int, order_0 j = order_1 j) (hE_0_96_2 : ∀ j : Int, order_1 j = order_2 j) (hE_0_96_3 : ∀ j : Int, order_2 j = order_3 j) (hE_0_96_4 : ∀ j : Int, order_3 j = order_4 j) (hE_0_96_5 : ∀ j : Int, order_4 j = order_5 j) (hE_0_96_6 : ∀ j : Int, order_5 j = order_6 j) (hE_0_123_1 : ∀ j : Int, under_0 j = under_1 j) (hE_0_123_2 : ∀ j : Int, under_1 j = under_2 j) (hE_0_123_3 : ∀ j : Int, under_2 j = under_3 j) (hE_0_123_4 : ∀ j : Int, under_3 j = under_4 j) (hE_0_123_5 : ∀ j : Int, under_4 j = under_5 j) (hE_0_123_6 : ∀ j : Int, under_5 j = under_6 j) (kz_0_31 : 0 ≤ pn_0 ∧ pn_0 ≤ 25) (kz_0_32 : 0 ≤ pm_0 ∧ pm_0 ≤ 80) : x7 = order_0 (2) := by
  subst fe_0_31_1
  subst fe_0_32_1
  subst fe_0_31_2
  subst fe_0_32_2
  subst fe_0_31_3
  subst fe_0_32_3
  subst fe_0_31_4
  subst fe_0_32_4
  subst fe_0_31_5
  subst fe_0_32_5
  subst fe_0_31_6
  subst fe_0_32_6
  have e_hE_0_33_1 := funext hE_0_33_1; subst e_hE_0_33_1
  have e_hE_0_33_2 := funext hE_0_33_2; subst e_hE_0_33_2
  have e_hE_0_33_3 := funext hE_0_33_3; subst e_hE_0_33_3
  have e_hE_0_33_4 := funext hE_0_33_4; subst e_hE_0_33_4
  have e_hE_0_33_5 := funext hE_0_33_5; subst e_hE_0_33_5
  have e_hE_0_33_6 := funext hE_0_33_6; subst e_hE_0_33_6
  have e_hE_0_34_1 := funext hE_0_34_1; subst e_hE_0_34_1
  have e_hE_0_34_2 := funext hE_0_34_2; subst e_hE_0_34_2
  have e_hE_0_34_3 := funext hE_0_34_3; subst e_hE_0_34_3
  have e_hE_0_34_4 := funext hE_0_34_4; subst e_hE_0_34_4
  have e_hE_0_34_5 := funext hE_0_34_5; subst e_hE_0_34_5
  have e_hE_0_34_6 := funext hE_0_34_6; subst e_hE_0_34_6
  have e_hE_0_35_1 := funext hE_0_35_1; subst e_hE_0_35_1
  have e_hE_0_35_2 := funext hE_0_35_2; subst e_hE_0_35_2
  have e_hE_0_35_3 := funext hE_0_35_3; subst e_hE_0_35_3
  have e_hE_0_35_4 := funext hE_0_35_4; subst e_hE_0_35_4
  have e_hE_0_35_5 := funext hE_0_35_5; subst e_hE_0_35_5
  have e_hE_0_35_6 := funext hE_0_35_6; subst e_hE_0_35_6
  have e_hE_0_74_1 := funext hE_0_74_1; subst e_hE_0_74_1
  have e_hE_0_74_3 := funext hE_0_74_3; subst e_hE_0_74_3
  have e_hE_0_74_5 := funext hE_0_74_5; subst e_hE_0_74_5
  have e_hE_0_75_2 := funext hE_0_75_2; subst e_hE_0_75_2
  have e_hE_0_75_4 := funext hE_0_75_4; subst e_hE_0_75_4
  have e_hE_0_75_6 := funext hE_0_75_6; subst e_hE_0_75_6
  have e_hE_0_96_1 := funext hE_0_96_1; subst e_hE_0_96_1
  have e_hE_0_96_2 := funext hE_0_96_2; subst e_hE_0_96_2
  have e_hE_0_96_3 := funext hE_0_96_3; subst e_hE_0_96_3
  have e_hE_0_96_4 := funext hE_0_96_4; subst e_hE_0_96_4
  have e_hE_0_96_5 := funext hE_0_96_5; subst e_hE_0_96_5
  have e_hE_0_96_6 := funext hE_0_96_6; subst e_hE_0_96_6
  have e_hE_0_123_1 := funext hE_0_123_1; subst e_hE_0_123_1
  have e_hE_0_123_2 := funext hE_0_123_2; subst e_hE_0_123_2
  have e_hE_0_123_3 := funext hE_0_123_3; subst e_hE_0_123_3
  have e_hE_0_123_4 := funext hE_0_123_4; subst e_hE_0_123_4
  have e_hE_0_123_5 := funext hE_0_123_5; subst e_hE_0_123_5
  have e_hE_0_123_6 := funext hE_0_123_6; subst e_hE_0_123_6
  first
    | omega
    | (rw [show (0 : Int) = x2 by omega]; assumption)
    | (rw [show (1 : Int) = x4 by omega]; assumption)
    | (rw [show (2 : Int) = x6 by omega]; assumption)
set_option maxHeartbeats 4000000 in
theorem vc_Mo_shift_3_3 (x2 : Int) (x3 : Int) (x4 : Int) (x5 : Int) (x6 : Int) (x7 : Int) (x9 : Int) (x11 : Int) (x12 : Int) (x13 : Int) (x14 : Int) (x15 : Int) (pt_0 : Int → Int) (ph_0 : Int → Int) (pn_0 : Int) (pm_0 : Int) (alive_0 : Int → Int) (order_0 : Int → Int) (pt_1 : Int → Int) (ph_1 : Int → Int) (pn_1 : Int) (pm_1 : Int) (alive_1 : Int → Int) (order_1 : Int → Int) (pt_2 : Int → Int) (ph_2 : Int → Int) (pn_2 : Int) (pm_2 : Int) (alive_2 : Int → Int) (order_2 : Int → Int) (pt_3 : Int → Int) (ph_3 : Int → Int) (pn_3 : Int) (pm_3 : Int) (alive_3 : Int → Int) (order_3 : Int → Int) (pt_4 : Int → Int) (ph_4 : Int → Int) (pn_4 : Int) (pm_4 : Int) (alive_4 : Int → Int) (order_4 : Int → Int) (pt_5 : Int → Int) (ph_5 : Int → Int) (pn_5 : Int) (pm_5 : Int) (alive_5 : Int → Int) (order_5 : Int → Int) (order_6 : Int → Int) (pt_6 : Int → Int) (ph_6 : Int → Int) (pn_6 : Int) (pm_6 : Int) (alive_6 : Int → Int) (nx_0 : Int → Int) (nx_1 : Int → Int) (nx_2 : Int → Int) (nx_3 : Int → Int) (nx_4 : Int → Int) (nx_5 : Int → Int) (nx_6 : Int → Int) (ny_0 : Int → Int) (ny_1 : Int → Int) (ny_2 : Int → Int) (ny_3 : Int → Int) (ny_4 : Int → Int) (ny_5 : Int → Int) (ny_6 : Int → Int) (under_0 : Int → Int) (under_1 : Int → Int) (under_2 : Int → Int) (under_3 : Int → Int) (under_4 : Int → Int) (under_5 : Int → Int) (under_6 : Int → Int) (k2 : 0 ≤ x2 ∧ x2 ≤ 0) (k3 : 0 ≤ x3 ∧ x3 ≤ 24) (k4 : 1 ≤ x4 ∧ x4 ≤ 1) (k5 : 0 ≤ x5 ∧ x5 ≤ 24) (k6 : 2 ≤ x6 ∧ x6 ≤ 2) (k7 : 0 ≤ x7 ∧ x7 ≤ 24) (k9 : 0 ≤ x9 ∧ x9 ≤ 0) (k11 : 0 ≤ x11 ∧ x11 ≤ 0) (k12 : 2 ≤ x12 ∧ x12 ≤ 2) (k13 : 0 ≤ x13 ∧ x13 ≤ 0) (k14 : 1 ≤ x14 ∧ x14 ≤ 1) (k15 : 1 ≤ x15 ∧ x15 ≤ 1) (h26 : x7 = order_6 (x6)) (h28 : x5 = order_6 (x4)) (h29 : x3 = order_6 (x2)) (fe_0_31_1 : pn_0 = pn_1) (fe_0_32_1 : pm_0 = pm_1) (fe_0_31_2 : pn_1 = pn_2) (fe_0_32_2 : pm_1 = pm_2) (fe_0_31_3 : pn_2 = pn_3) (fe_0_32_3 : pm_2 = pm_3) (fe_0_31_4 : pn_3 = pn_4) (fe_0_32_4 : pm_3 = pm_4) (fe_0_31_5 : pn_4 = pn_5) (fe_0_32_5 : pm_4 = pm_5) (fe_0_31_6 : pn_5 = pn_6) (fe_0_32_6 : pm_5 = pm_6) (hE_0_33_1 : ∀ j : Int, pt_0 j = pt_1 j) (hE_0_33_2 : ∀ j : Int, pt_1 j = pt_2 j) (hE_0_33_3 : ∀ j : Int, pt_2 j = pt_3 j) (hE_0_33_4 : ∀ j : Int, pt_3 j = pt_4 j) (hE_0_33_5 : ∀ j : Int, pt_4 j = pt_5 j) (hE_0_33_6 : ∀ j : Int, pt_5 j = pt_6 j) (hE_0_34_1 : ∀ j : Int, ph_0 j = ph_1 j) (hE_0_34_2 : ∀ j : Int, ph_1 j = ph_2 j) (hE_0_34_3 : ∀ j : Int, ph_2 j = ph_3 j) (hE_0_34_4 : ∀ j : Int, ph_3 j = ph_4 j) (hE_0_34_5 : ∀ j : Int, ph_4 j = ph_5 j) (hE_0_34_6 : ∀ j : Int, ph_5 j = ph_6 j) (hE_0_35_1 : ∀ j : Int, alive_0 j = alive_1 j) (hE_0_35_2 : ∀ j : Int, alive_1 j = alive_2 j) (hE_0_35_3 : ∀ j : Int, alive_2 j = alive_3 j) (hE_0_35_4 : ∀ j : Int, alive_3 j = alive_4 j) (hE_0_35_5 : ∀ j : Int, alive_4 j = alive_5 j) (hE_0_35_6 : ∀ j : Int, alive_5 j = alive_6 j) (hE_0_74_1 : ∀ j : Int, nx_0 j = nx_1 j) (hE_0_74_2 : ∀ j : Int, 0 ≤ j → (j = x7 → nx_1 j = x14) ∧ (j ≠ x7 → nx_1 j = nx_2 j)) (hE_0_74_3 : ∀ j : Int, nx_2 j = nx_3 j) (hE_0_74_4 : ∀ j : Int, 0 ≤ j → (j = x5 → nx_3 j = x12) ∧ (j ≠ x5 → nx_3 j = nx_4 j)) (hE_0_74_5 : ∀ j : Int, nx_4 j = nx_5 j) (hE_0_74_6 : ∀ j : Int, 0 ≤ j → (j = x3 → nx_5 j = x9) ∧ (j ≠ x3 → nx_5 j = nx_6 j)) (hE_0_75_1 : ∀ j : Int, 0 ≤ j → (j = x7 → ny_0 j = x15) ∧ (j ≠ x7 → ny_0 j = ny_1 j)) (hE_0_75_2 : ∀ j : Int, ny_1 j = ny_2 j) (hE_0_75_3 : ∀ j : Int, 0 ≤ j → (j = x5 → ny_2 j = x13) ∧ (j ≠ x5 → ny_2 j = ny_3 j)) (hE_0_75_4 : ∀ j : Int, ny_3 j = ny_4 j) (hE_0_75_5 : ∀ j : Int, 0 ≤ j → (j = x3 → ny_4 j = x11) ∧ (j ≠ x3 → ny_4 j = ny_5 j)) (hE_0_75_6 : ∀ j : Int, ny_5 j = ny_6 j) (hE_0_96_1 : ∀ j : Int, order_0 j = order_1 j) (hE_0_96_2 : ∀ j : Int, order_1 j = order_2 j) (hE_0_96_3 : ∀ j : Int, order_2 j = order_3 j) (hE_0_96_4 : ∀ j : Int, order_3 j = order_4 j) (hE_0_96_5 : ∀ j : Int, order_4 j = order_5 j) (hE_0_96_6 : ∀ j : Int, order_5 j = order_6 j) (hE_0_123_1 : ∀ j : Int, under_0 j = under_1 j) (hE_0_123_2 : ∀ j : Int, under_1 j = under_2 j) (hE_0_123_3 : ∀ j : Int, under_2 j = under_3 j) (hE_0_123_4 : ∀ j : Int, under_3 j = under_4 j) (hE_0_123_5 : ∀ j : Int, under_4 j = under_5 j) (hE_0_123_6 : ∀ j : Int, under_5 j = under_6 j) (kz_0_31 : 0 ≤ pn_0 ∧ pn_0 ≤ 25) (kz_0_32 : 0 ≤ pm_0 ∧ pm_0 ≤ 80) : SP3 (nx_0) (ny_0) (order_0) := by
  subst fe_0_31_1
  subst fe_0_32_1
  subst fe_0_31_2
  subst fe_0_32_2
  subst fe_0_31_3
  subst fe_0_32_3
  subst fe_0_31_4
  subst fe_0_32_4
  subst fe_0_31_5
  subst fe_0_32_5
  subst fe_0_31_6
  subst fe_0_32_6
  have e_hE_0_33_1 := funext hE_0_33_1; subst e_hE_0_33_1
  have e_hE_0_33_2 := funext hE_0_33_2; subst e_hE_0_33_2
  have e_hE_0_33_3 := funext hE_0_33_3; subst e_hE_0_33_3
  have e_hE_0_33_4 := funext hE_0_33_4; subst e_hE_0_33_4
  have e_hE_0_33_5 := funext hE_0_33_5; subst e_hE_0_33_5
  have e_hE_0_33_6 := funext hE_0_33_6; subst e_hE_0_33_6
  have e_hE_0_34_1 := funext hE_0_34_1; subst e_hE_0_34_1
  have e_hE_0_34_2 := funext hE_0_34_2; subst e_hE_0_34_2
  have e_hE_0_34_3 := funext hE_0_34_3; subst e_hE_0_34_3
  have e_hE_0_34_4 := funext hE_0_34_4; subst e_hE_0_34_4
  have e_hE_0_34_5 := funext hE_0_34_5; subst e_hE_0_34_5
  have e_hE_0_34_6 := funext hE_0_34_6; subst e_hE_0_34_6
  have e_hE_0_35_1 := funext hE_0_35_1; subst e_hE_0_35_1
  have e_hE_0_35_2 := funext hE_0_35_2; subst e_hE_0_35_2
  have e_hE_0_35_3 := funext hE_0_35_3; subst e_hE_0_35_3
  have e_hE_0_35_4 := funext hE_0_35_4; subst e_hE_0_35_4
  have e_hE_0_35_5 := funext hE_0_35_5; subst e_hE_0_35_5
  have e_hE_0_35_6 := funext hE_0_35_6; subst e_hE_0_35_6
  have e_hE_0_74_1 := funext hE_0_74_1; subst e_hE_0_74_1
  have e_hE_0_74_3 := funext hE_0_74_3; subst e_hE_0_74_3
  have e_hE_0_74_5 := funext hE_0_74_5; subst e_hE_0_74_5
  have e_hE_0_75_2 := funext hE_0_75_2; subst e_hE_0_75_2
  have e_hE_0_75_4 := funext hE_0_75_4; subst e_hE_0_75_4
  have e_hE_0_75_6 := funext hE_0_75_6; subst e_hE_0_75_6
  have e_hE_0_96_1 := funext hE_0_96_1; subst e_hE_0_96_1
  have e_hE_0_96_2 := funext hE_0_96_2; subst e_hE_0_96_2
  have e_hE_0_96_3 := funext hE_0_96_3; subst e_hE_0_96_3
  have e_hE_0_96_4 := funext hE_0_96_4; subst e_hE_0_96_4
  have e_hE_0_96_5 := funext hE_0_96_5; subst e_hE_0_96_5
  have e_hE_0_96_6 := funext hE_0_96_6; subst e_hE_0_96_6
  have e_hE_0_123_1 := funext hE_0_123_1; subst e_hE_0_123_1
  have e_hE_0_123_2 := funext hE_0_123_2; subst e_hE_0_123_2
  have e_hE_0_123_3 := funext hE_0_123_3; subst e_hE_0_123_3
  have e_hE_0_123_4 := funext hE_0_123_4; subst e_hE_0_123_4
  have e_hE_0_123_5 := funext hE_0_123_5; subst e_hE_0_123_5
  have e_hE_0_123_6 := funext hE_0_123_6; subst e_hE_0_123_6
  first
    | exact sp3_of (u := x3) (v := x5) (w := x7) (by rw [show (0 : Int) = x2 by omega]; assumption) (by rw [show (1 : Int) = x4 by omega]; assumption) (by rw [show (2 : Int) = x6 by omega]; assumption) (by omega) hE_0_74_6 hE_0_74_4 hE_0_74_2 hE_0_75_5 hE_0_75_3 hE_0_75_1 (by omega) (by omega) (by omega) (by omega) (by omega) (by omega) (by omega) (by omega)
set_option maxHeartbeats 4000000 in
theorem vc_Mo_shift_3_4 (x16 : Int) (pt_0 : Int → Int) (ph_0 : Int → Int) (pn_0 : Int) (pm_0 : Int) (alive_0 : Int → Int) (order_0 : Int → Int) (pt_1 : Int → Int) (ph_1 : Int → Int) (pn_1 : Int) (pm_1 : Int) (alive_1 : Int → Int) (order_1 : Int → Int) (pt_2 : Int → Int) (ph_2 : Int → Int) (pn_2 : Int) (pm_2 : Int) (alive_2 : Int → Int) (order_2 : Int → Int) (pt_3 : Int → Int) (ph_3 : Int → Int) (pn_3 : Int) (pm_3 : Int) (alive_3 : Int → Int) (order_3 : Int → Int) (pt_4 : Int → Int) (ph_4 : Int → Int) (pn_4 : Int) (pm_4 : Int) (alive_4 : Int → Int) (order_4 : Int → Int) (pt_5 : Int → Int) (ph_5 : Int → Int) (pn_5 : Int) (pm_5 : Int) (alive_5 : Int → Int) (order_5 : Int → Int) (order_6 : Int → Int) (pt_6 : Int → Int) (ph_6 : Int → Int) (pn_6 : Int) (pm_6 : Int) (alive_6 : Int → Int) (nx_0 : Int → Int) (nx_1 : Int → Int) (nx_2 : Int → Int) (nx_3 : Int → Int) (nx_4 : Int → Int) (nx_5 : Int → Int) (ny_1 : Int → Int) (ny_2 : Int → Int) (ny_3 : Int → Int) (ny_4 : Int → Int) (ny_5 : Int → Int) (ny_6 : Int → Int) (under_0 : Int → Int) (under_1 : Int → Int) (under_2 : Int → Int) (under_3 : Int → Int) (under_4 : Int → Int) (under_5 : Int → Int) (under_6 : Int → Int) (k16 : 0 ≤ x16 ∧ x16 ≤ 0) (fe_0_31_1 : pn_0 = pn_1) (fe_0_32_1 : pm_0 = pm_1) (fe_0_31_2 : pn_1 = pn_2) (fe_0_32_2 : pm_1 = pm_2) (fe_0_31_3 : pn_2 = pn_3) (fe_0_32_3 : pm_2 = pm_3) (fe_0_31_4 : pn_3 = pn_4) (fe_0_32_4 : pm_3 = pm_4) (fe_0_31_5 : pn_4 = pn_5) (fe_0_32_5 : pm_4 = pm_5) (fe_0_31_6 : pn_5 = pn_6) (fe_0_32_6 : pm_5 = pm_6) (hE_0_33_1 : ∀ j : Int, pt_0 j = pt_1 j) (hE_0_33_2 : ∀ j : Int, pt_1 j = pt_2 j) (hE_0_33_3 : ∀ j : Int, pt_2 j = pt_3 j) (hE_0_33_4 : ∀ j : Int, pt_3 j = pt_4 j) (hE_0_33_5 : ∀ j : Int, pt_4 j = pt_5 j) (hE_0_33_6 : ∀ j : Int, pt_5 j = pt_6 j) (hE_0_34_1 : ∀ j : Int, ph_0 j = ph_1 j) (hE_0_34_2 : ∀ j : Int, ph_1 j = ph_2 j) (hE_0_34_3 : ∀ j : Int, ph_2 j = ph_3 j) (hE_0_34_4 : ∀ j : Int, ph_3 j = ph_4 j) (hE_0_34_5 : ∀ j : Int, ph_4 j = ph_5 j) (hE_0_34_6 : ∀ j : Int, ph_5 j = ph_6 j) (hE_0_35_1 : ∀ j : Int, alive_0 j = alive_1 j) (hE_0_35_2 : ∀ j : Int, alive_1 j = alive_2 j) (hE_0_35_3 : ∀ j : Int, alive_2 j = alive_3 j) (hE_0_35_4 : ∀ j : Int, alive_3 j = alive_4 j) (hE_0_35_5 : ∀ j : Int, alive_4 j = alive_5 j) (hE_0_35_6 : ∀ j : Int, alive_5 j = alive_6 j) (hE_0_74_1 : ∀ j : Int, nx_0 j = nx_1 j) (hE_0_74_3 : ∀ j : Int, nx_2 j = nx_3 j) (hE_0_74_5 : ∀ j : Int, nx_4 j = nx_5 j) (hE_0_75_2 : ∀ j : Int, ny_1 j = ny_2 j) (hE_0_75_4 : ∀ j : Int, ny_3 j = ny_4 j) (hE_0_75_6 : ∀ j : Int, ny_5 j = ny_6 j) (hE_0_96_1 : ∀ j : Int, order_0 j = order_1 j) (hE_0_96_2 : ∀ j : Int, order_1 j = order_2 j) (hE_0_96_3 : ∀ j : Int, order_2 j = order_3 j) (hE_0_96_4 : ∀ j : Int, order_3 j = order_4 j) (hE_0_96_5 : ∀ j : Int, order_4 j = order_5 j) (hE_0_96_6 : ∀ j : Int, order_5 j = order_6 j) (hE_0_123_1 : ∀ j : Int, under_0 j = under_1 j) (hE_0_123_2 : ∀ j : Int, under_1 j = under_2 j) (hE_0_123_3 : ∀ j : Int, under_2 j = under_3 j) (hE_0_123_4 : ∀ j : Int, under_3 j = under_4 j) (hE_0_123_5 : ∀ j : Int, under_4 j = under_5 j) (hE_0_123_6 : ∀ j : Int, under_5 j = under_6 j) (kz_0_31 : 0 ≤ pn_0 ∧ pn_0 ≤ 25) (kz_0_32 : 0 ≤ pm_0 ∧ pm_0 ≤ 80) : UN0 (pn_0) (under_0) (x16) := by
  subst fe_0_31_1
  subst fe_0_32_1
  subst fe_0_31_2
  subst fe_0_32_2
  subst fe_0_31_3
  subst fe_0_32_3
  subst fe_0_31_4
  subst fe_0_32_4
  subst fe_0_31_5
  subst fe_0_32_5
  subst fe_0_31_6
  subst fe_0_32_6
  have e_hE_0_33_1 := funext hE_0_33_1; subst e_hE_0_33_1
  have e_hE_0_33_2 := funext hE_0_33_2; subst e_hE_0_33_2
  have e_hE_0_33_3 := funext hE_0_33_3; subst e_hE_0_33_3
  have e_hE_0_33_4 := funext hE_0_33_4; subst e_hE_0_33_4
  have e_hE_0_33_5 := funext hE_0_33_5; subst e_hE_0_33_5
  have e_hE_0_33_6 := funext hE_0_33_6; subst e_hE_0_33_6
  have e_hE_0_34_1 := funext hE_0_34_1; subst e_hE_0_34_1
  have e_hE_0_34_2 := funext hE_0_34_2; subst e_hE_0_34_2
  have e_hE_0_34_3 := funext hE_0_34_3; subst e_hE_0_34_3
  have e_hE_0_34_4 := funext hE_0_34_4; subst e_hE_0_34_4
  have e_hE_0_34_5 := funext hE_0_34_5; subst e_hE_0_34_5
  have e_hE_0_34_6 := funext hE_0_34_6; subst e_hE_0_34_6
  have e_hE_0_35_1 := funext hE_0_35_1; subst e_hE_0_35_1
  have e_hE_0_35_2 := funext hE_0_35_2; subst e_hE_0_35_2
  have e_hE_0_35_3 := funext hE_0_35_3; subst e_hE_0_35_3
  have e_hE_0_35_4 := funext hE_0_35_4; subst e_hE_0_35_4
  have e_hE_0_35_5 := funext hE_0_35_5; subst e_hE_0_35_5
  have e_hE_0_35_6 := funext hE_0_35_6; subst e_hE_0_35_6
  have e_hE_0_74_1 := funext hE_0_74_1; subst e_hE_0_74_1
  have e_hE_0_74_3 := funext hE_0_74_3; subst e_hE_0_74_3
  have e_hE_0_74_5 := funext hE_0_74_5; subst e_hE_0_74_5
  have e_hE_0_75_2 := funext hE_0_75_2; subst e_hE_0_75_2
  have e_hE_0_75_4 := funext hE_0_75_4; subst e_hE_0_75_4
  have e_hE_0_75_6 := funext hE_0_75_6; subst e_hE_0_75_6
  have e_hE_0_96_1 := funext hE_0_96_1; subst e_hE_0_96_1
  have e_hE_0_96_2 := funext hE_0_96_2; subst e_hE_0_96_2
  have e_hE_0_96_3 := funext hE_0_96_3; subst e_hE_0_96_3
  have e_hE_0_96_4 := funext hE_0_96_4; subst e_hE_0_96_4
  have e_hE_0_96_5 := funext hE_0_96_5; subst e_hE_0_96_5
  have e_hE_0_96_6 := funext hE_0_96_6; subst e_hE_0_96_6
  have e_hE_0_123_1 := funext hE_0_123_1; subst e_hE_0_123_1
  have e_hE_0_123_2 := funext hE_0_123_2; subst e_hE_0_123_2
  have e_hE_0_123_3 := funext hE_0_123_3; subst e_hE_0_123_3
  have e_hE_0_123_4 := funext hE_0_123_4; subst e_hE_0_123_4
  have e_hE_0_123_5 := funext hE_0_123_5; subst e_hE_0_123_5
  have e_hE_0_123_6 := funext hE_0_123_6; subst e_hE_0_123_6
  first
    | (intro j z a b; exfalso; omega)
set_option maxHeartbeats 4000000 in
theorem vc_Mo_shift_3_5 (pt_0 : Int → Int) (ph_0 : Int → Int) (pn_0 : Int) (pm_0 : Int) (alive_0 : Int → Int) (order_0 : Int → Int) (pt_1 : Int → Int) (ph_1 : Int → Int) (pn_1 : Int) (pm_1 : Int) (alive_1 : Int → Int) (order_1 : Int → Int) (pt_2 : Int → Int) (ph_2 : Int → Int) (pn_2 : Int) (pm_2 : Int) (alive_2 : Int → Int) (order_2 : Int → Int) (pt_3 : Int → Int) (ph_3 : Int → Int) (pn_3 : Int) (pm_3 : Int) (alive_3 : Int → Int) (order_3 : Int → Int) (pt_4 : Int → Int) (ph_4 : Int → Int) (pn_4 : Int) (pm_4 : Int) (alive_4 : Int → Int) (order_4 : Int → Int) (pt_5 : Int → Int) (ph_5 : Int → Int) (pn_5 : Int) (pm_5 : Int) (alive_5 : Int → Int) (order_5 : Int → Int) (order_6 : Int → Int) (pt_6 : Int → Int) (ph_6 : Int → Int) (pn_6 : Int) (pm_6 : Int) (alive_6 : Int → Int) (nx_0 : Int → Int) (nx_1 : Int → Int) (nx_2 : Int → Int) (nx_3 : Int → Int) (nx_4 : Int → Int) (nx_5 : Int → Int) (ny_1 : Int → Int) (ny_2 : Int → Int) (ny_3 : Int → Int) (ny_4 : Int → Int) (ny_5 : Int → Int) (ny_6 : Int → Int) (under_0 : Int → Int) (under_1 : Int → Int) (under_2 : Int → Int) (under_3 : Int → Int) (under_4 : Int → Int) (under_5 : Int → Int) (under_6 : Int → Int) (f31 : CNH (pn_6) (pm_6) (pt_6) (ph_6) (alive_6) (order_6)) (fe_0_31_1 : pn_0 = pn_1) (fe_0_32_1 : pm_0 = pm_1) (fe_0_31_2 : pn_1 = pn_2) (fe_0_32_2 : pm_1 = pm_2) (fe_0_31_3 : pn_2 = pn_3) (fe_0_32_3 : pm_2 = pm_3) (fe_0_31_4 : pn_3 = pn_4) (fe_0_32_4 : pm_3 = pm_4) (fe_0_31_5 : pn_4 = pn_5) (fe_0_32_5 : pm_4 = pm_5) (fe_0_31_6 : pn_5 = pn_6) (fe_0_32_6 : pm_5 = pm_6) (hE_0_33_1 : ∀ j : Int, pt_0 j = pt_1 j) (hE_0_33_2 : ∀ j : Int, pt_1 j = pt_2 j) (hE_0_33_3 : ∀ j : Int, pt_2 j = pt_3 j) (hE_0_33_4 : ∀ j : Int, pt_3 j = pt_4 j) (hE_0_33_5 : ∀ j : Int, pt_4 j = pt_5 j) (hE_0_33_6 : ∀ j : Int, pt_5 j = pt_6 j) (hE_0_34_1 : ∀ j : Int, ph_0 j = ph_1 j) (hE_0_34_2 : ∀ j : Int, ph_1 j = ph_2 j) (hE_0_34_3 : ∀ j : Int, ph_2 j = ph_3 j) (hE_0_34_4 : ∀ j : Int, ph_3 j = ph_4 j) (hE_0_34_5 : ∀ j : Int, ph_4 j = ph_5 j) (hE_0_34_6 : ∀ j : Int, ph_5 j = ph_6 j) (hE_0_35_1 : ∀ j : Int, alive_0 j = alive_1 j) (hE_0_35_2 : ∀ j : Int, alive_1 j = alive_2 j) (hE_0_35_3 : ∀ j : Int, alive_2 j = alive_3 j) (hE_0_35_4 : ∀ j : Int, alive_3 j = alive_4 j) (hE_0_35_5 : ∀ j : Int, alive_4 j = alive_5 j) (hE_0_35_6 : ∀ j : Int, alive_5 j = alive_6 j) (hE_0_74_1 : ∀ j : Int, nx_0 j = nx_1 j) (hE_0_74_3 : ∀ j : Int, nx_2 j = nx_3 j) (hE_0_74_5 : ∀ j : Int, nx_4 j = nx_5 j) (hE_0_75_2 : ∀ j : Int, ny_1 j = ny_2 j) (hE_0_75_4 : ∀ j : Int, ny_3 j = ny_4 j) (hE_0_75_6 : ∀ j : Int, ny_5 j = ny_6 j) (hE_0_96_1 : ∀ j : Int, order_0 j = order_1 j) (hE_0_96_2 : ∀ j : Int, order_1 j = order_2 j) (hE_0_96_3 : ∀ j : Int, order_2 j = order_3 j) (hE_0_96_4 : ∀ j : Int, order_3 j = order_4 j) (hE_0_96_5 : ∀ j : Int, order_4 j = order_5 j) (hE_0_96_6 : ∀ j : Int, order_5 j = order_6 j) (hE_0_123_1 : ∀ j : Int, under_0 j = under_1 j) (hE_0_123_2 : ∀ j : Int, under_1 j = under_2 j) (hE_0_123_3 : ∀ j : Int, under_2 j = under_3 j) (hE_0_123_4 : ∀ j : Int, under_3 j = under_4 j) (hE_0_123_5 : ∀ j : Int, under_4 j = under_5 j) (hE_0_123_6 : ∀ j : Int, under_5 j = under_6 j) (kz_0_31 : 0 ≤ pn_0 ∧ pn_0 ≤ 25) (kz_0_32 : 0 ≤ pm_0 ∧ pm_0 ≤ 80) : ORN4 (pn_0) (order_0) := by
  subst fe_0_31_1
  subst fe_0_32_1
  subst fe_0_31_2
  subst fe_0_32_2
  subst fe_0_31_3
  subst fe_0_32_3
  subst fe_0_31_4
  subst fe_0_32_4
  subst fe_0_31_5
  subst fe_0_32_5
  subst fe_0_31_6
  subst fe_0_32_6
  have e_hE_0_33_1 := funext hE_0_33_1; subst e_hE_0_33_1
  have e_hE_0_33_2 := funext hE_0_33_2; subst e_hE_0_33_2
  have e_hE_0_33_3 := funext hE_0_33_3; subst e_hE_0_33_3
  have e_hE_0_33_4 := funext hE_0_33_4; subst e_hE_0_33_4
  have e_hE_0_33_5 := funext hE_0_33_5; subst e_hE_0_33_5
  have e_hE_0_33_6 := funext hE_0_33_6; subst e_hE_0_33_6
  have e_hE_0_34_1 := funext hE_0_34_1; subst e_hE_0_34_1
  have e_hE_0_34_2 := funext hE_0_34_2; subst e_hE_0_34_2
  have e_hE_0_34_3 := funext hE_0_34_3; subst e_hE_0_34_3
  have e_hE_0_34_4 := funext hE_0_34_4; subst e_hE_0_34_4
  have e_hE_0_34_5 := funext hE_0_34_5; subst e_hE_0_34_5
  have e_hE_0_34_6 := funext hE_0_34_6; subst e_hE_0_34_6
  have e_hE_0_35_1 := funext hE_0_35_1; subst e_hE_0_35_1
  have e_hE_0_35_2 := funext hE_0_35_2; subst e_hE_0_35_2
  have e_hE_0_35_3 := funext hE_0_35_3; subst e_hE_0_35_3
  have e_hE_0_35_4 := funext hE_0_35_4; subst e_hE_0_35_4
  have e_hE_0_35_5 := funext hE_0_35_5; subst e_hE_0_35_5
  have e_hE_0_35_6 := funext hE_0_35_6; subst e_hE_0_35_6
  have e_hE_0_74_1 := funext hE_0_74_1; subst e_hE_0_74_1
  have e_hE_0_74_3 := funext hE_0_74_3; subst e_hE_0_74_3
  have e_hE_0_74_5 := funext hE_0_74_5; subst e_hE_0_74_5
  have e_hE_0_75_2 := funext hE_0_75_2; subst e_hE_0_75_2
  have e_hE_0_75_4 := funext hE_0_75_4; subst e_hE_0_75_4
  have e_hE_0_75_6 := funext hE_0_75_6; subst e_hE_0_75_6
  have e_hE_0_96_1 := funext hE_0_96_1; subst e_hE_0_96_1
  have e_hE_0_96_2 := funext hE_0_96_2; subst e_hE_0_96_2
  have e_hE_0_96_3 := funext hE_0_96_3; subst e_hE_0_96_3
  have e_hE_0_96_4 := funext hE_0_96_4; subst e_hE_0_96_4
  have e_hE_0_96_5 := funext hE_0_96_5; subst e_hE_0_96_5
  have e_hE_0_96_6 := funext hE_0_96_6; subst e_hE_0_96_6
  have e_hE_0_123_1 := funext hE_0_123_1; subst e_hE_0_123_1
  have e_hE_0_123_2 := funext hE_0_123_2; subst e_hE_0_123_2
  have e_hE_0_123_3 := funext hE_0_123_3; subst e_hE_0_123_3
  have e_hE_0_123_4 := funext hE_0_123_4; subst e_hE_0_123_4
  have e_hE_0_123_5 := funext hE_0_123_5; subst e_hE_0_123_5
  have e_hE_0_123_6 := funext hE_0_123_6; subst e_hE_0_123_6
  first
    | exact orn_of ‹CNH _ _ _ _ _ _›
def o_Mo_shift_3 : or_T := (66, 17, [(0, (2, 0, 0, [165])), (2, (0, 0, 0, [])), (3, (0, 0, 24, [])), (4, (0, 1, 1, [])), (5, (0, 0, 24, [])), (6, (0, 2, 2, [])), (7, (0, 0, 24, [])), (8, (2, 0, 0, [214])), (9, (0, 0, 0, [])), (10, (2, 0, 0, [215])), (11, (0, 0, 0, [])), (12, (0, 2, 2, [])), (13, (0, 0, 0, [])), (14, (0, 1, 1, [])), (15, (0, 1, 1, [])), (16, (0, 0, 0, []))], [(100, [10, 7, 15], []), (9, [10, 0], [75]), (100, [8, 7, 14], []), (9, [8, 0], [74]), (100, [10, 5, 13], []), (100, [8, 5, 12], []), (100, [10, 3, 11], []), (100, [8, 3, 9], []), (10, [7, 1, 6], []), (9, [1, 0], [96]), (10, [5, 1, 4], []), (10, [3, 1, 2], []), (20, [0], [60, 2, 4, 286, 31, 32, 33, 34, 35, 96])], [], [], [(20, [3, 0], [50, 0, 1, 1096, 1, 2, 1, 0, 3, 1, 96, 0, 0]), (20, [5, 0], [50, 0, 1, 1096, 1, 2, 1, 0, 3, 1, 96, 0, 1]), (20, [7, 0], [50, 0, 1, 1096, 1, 2, 1, 0, 3, 1, 96, 0, 2]), (20, [0], [60, 0, 3, 836, 74, 75, 96]), (20, [0, 16], [60, 1, 1, 829, 31, 123]), (20, [0], [60, 1, 1, 835, 31, 96]), (24, [0, 0], [])], [], [])
theorem oo_Mo_shift_3 {kA : Nat → ClassId} : or_ok PRD kA GG o_Mo_shift_3 := by
  refine or_mk fun A ta ws vs hD hth hl => ?_
  intro t0 r0 t2 k2 t3 k3 t4 k4 t5 k5 t6 k6 t7 k7 t8 r8 t9 k9 t10 r10 t11 k11 t12 k12 t13 k13 t14 k14 t15 k15 t16 k16 ta1 w1 le1 s1 f4 ta2 w2 le2 s2 f9 ta3 w3 le3 s3 ta4 w4 le4 s4 ta5 w5 le5 s5 ta6 w6 le6 s6 f26 f27 f28 f29 f31
  have s1 : (∀ b j, w_el ws b j = if b = v_ad (n_v vs 10) ∧ j = (v_iv (n_v vs 7)).toNat then v_iv (n_v vs 15) else w_el w1 b j) ∧ ∀ b k, w_fd ws b k = w_fd w1 b k := s1.2
  replace f4 := shm_1251 f4
  have s2 : (∀ b j, w_el w1 b j = if b = v_ad (n_v vs 8) ∧ j = (v_iv (n_v vs 7)).toNat then v_iv (n_v vs 14) else w_el w2 b j) ∧ ∀ b k, w_fd w1 b k = w_fd w2 b k := s2.2
  replace f9 := shm_647 f9
  have s3 : (∀ b j, w_el w2 b j = if b = v_ad (n_v vs 10) ∧ j = (v_iv (n_v vs 5)).toNat then v_iv (n_v vs 13) else w_el w3 b j) ∧ ∀ b k, w_fd w2 b k = w_fd w3 b k := s3.2
  have s4 : (∀ b j, w_el w3 b j = if b = v_ad (n_v vs 8) ∧ j = (v_iv (n_v vs 5)).toNat then v_iv (n_v vs 12) else w_el w4 b j) ∧ ∀ b k, w_fd w3 b k = w_fd w4 b k := s4.2
  have s5 : (∀ b j, w_el w4 b j = if b = v_ad (n_v vs 10) ∧ j = (v_iv (n_v vs 3)).toNat then v_iv (n_v vs 11) else w_el w5 b j) ∧ ∀ b k, w_fd w4 b k = w_fd w5 b k := s5.2
  have s6 : (∀ b j, w_el w5 b j = if b = v_ad (n_v vs 8) ∧ j = (v_iv (n_v vs 3)).toNat then v_iv (n_v vs 9) else w_el w6 b j) ∧ ∀ b k, w_fd w5 b k = w_fd w6 b k := s6.2
  replace f26 := shm_107 f26
  replace f27 := shm_666 f27
  replace f28 := shm_107 f28
  replace f29 := shm_107 f29
  replace f31 := shm_1249 f31
  have ar_0_33_1 : w_ar w1 (n_v vs 0) 33 = w_ar ws (n_v vs 0) 33 := congrArg v_ad (s1.2 _ _).symm
  have ar_0_33_2 : w_ar w2 (n_v vs 0) 33 = w_ar ws (n_v vs 0) 33 := by rw [← ar_0_33_1]; show v_ad (w_fd w2 _ _) = v_ad (w_fd w1 _ _); rw [s2.2]
  have ar_0_33_3 : w_ar w3 (n_v vs 0) 33 = w_ar ws (n_v vs 0) 33 := by rw [← ar_0_33_2]; show v_ad (w_fd w3 _ _) = v_ad (w_fd w2 _ _); rw [s3.2]
  have ar_0_33_4 : w_ar w4 (n_v vs 0) 33 = w_ar ws (n_v vs 0) 33 := by rw [← ar_0_33_3]; show v_ad (w_fd w4 _ _) = v_ad (w_fd w3 _ _); rw [s4.2]
  have ar_0_33_5 : w_ar w5 (n_v vs 0) 33 = w_ar ws (n_v vs 0) 33 := by rw [← ar_0_33_4]; show v_ad (w_fd w5 _ _) = v_ad (w_fd w4 _ _); rw [s5.2]
  have ar_0_33_6 : w_ar w6 (n_v vs 0) 33 = w_ar ws (n_v vs 0) 33 := by rw [← ar_0_33_5]; show v_ad (w_fd w6 _ _) = v_ad (w_fd w5 _ _); rw [s6.2]
  have cr_0_33 := fdq_117 hD hth r0
  have ar_0_34_1 : w_ar w1 (n_v vs 0) 34 = w_ar ws (n_v vs 0) 34 := congrArg v_ad (s1.2 _ _).symm
  have ar_0_34_2 : w_ar w2 (n_v vs 0) 34 = w_ar ws (n_v vs 0) 34 := by rw [← ar_0_34_1]; show v_ad (w_fd w2 _ _) = v_ad (w_fd w1 _ _); rw [s2.2]
  have ar_0_34_3 : w_ar w3 (n_v vs 0) 34 = w_ar ws (n_v vs 0) 34 := by rw [← ar_0_34_2]; show v_ad (w_fd w3 _ _) = v_ad (w_fd w2 _ _); rw [s3.2]
  have ar_0_34_4 : w_ar w4 (n_v vs 0) 34 = w_ar ws (n_v vs 0) 34 := by rw [← ar_0_34_3]; show v_ad (w_fd w4 _ _) = v_ad (w_fd w3 _ _); rw [s4.2]
  have ar_0_34_5 : w_ar w5 (n_v vs 0) 34 = w_ar ws (n_v vs 0) 34 := by rw [← ar_0_34_4]; show v_ad (w_fd w5 _ _) = v_ad (w_fd w4 _ _); rw [s5.2]
  have ar_0_34_6 : w_ar w6 (n_v vs 0) 34 = w_ar ws (n_v vs 0) 34 := by rw [← ar_0_34_5]; show v_ad (w_fd w6 _ _) = v_ad (w_fd w5 _ _); rw [s6.2]
  have cr_0_34 := fdq_118 hD hth r0
  have ar_0_35_1 : w_ar w1 (n_v vs 0) 35 = w_ar ws (n_v vs 0) 35 := congrArg v_ad (s1.2 _ _).symm
  have ar_0_35_2 : w_ar w2 (n_v vs 0) 35 = w_ar ws (n_v vs 0) 35 := by rw [← ar_0_35_1]; show v_ad (w_fd w2 _ _) = v_ad (w_fd w1 _ _); rw [s2.2]
  have ar_0_35_3 : w_ar w3 (n_v vs 0) 35 = w_ar ws (n_v vs 0) 35 := by rw [← ar_0_35_2]; show v_ad (w_fd w3 _ _) = v_ad (w_fd w2 _ _); rw [s3.2]
  have ar_0_35_4 : w_ar w4 (n_v vs 0) 35 = w_ar ws (n_v vs 0) 35 := by rw [← ar_0_35_3]; show v_ad (w_fd w4 _ _) = v_ad (w_fd w3 _ _); rw [s4.2]
  have ar_0_35_5 : w_ar w5 (n_v vs 0) 35 = w_ar ws (n_v vs 0) 35 := by rw [← ar_0_35_4]; show v_ad (w_fd w5 _ _) = v_ad (w_fd w4 _ _); rw [s5.2]
  have ar_0_35_6 : w_ar w6 (n_v vs 0) 35 = w_ar ws (n_v vs 0) 35 := by rw [← ar_0_35_5]; show v_ad (w_fd w6 _ _) = v_ad (w_fd w5 _ _); rw [s6.2]
  have cr_0_35 := fdq_132 hD hth r0
  have ar_0_74_1 : w_ar w1 (n_v vs 0) 74 = w_ar ws (n_v vs 0) 74 := congrArg v_ad (s1.2 _ _).symm
  have ar_0_74_2 : w_ar w2 (n_v vs 0) 74 = w_ar ws (n_v vs 0) 74 := by rw [← ar_0_74_1]; show v_ad (w_fd w2 _ _) = v_ad (w_fd w1 _ _); rw [s2.2]
  have cr_0_74 := fdq_164 hD hth r0
  have ar_0_75_1 : w_ar w1 (n_v vs 0) 75 = w_ar ws (n_v vs 0) 75 := congrArg v_ad (s1.2 _ _).symm
  have cr_0_75 := fdq_165 hD hth r0
  have ar_0_96_1 : w_ar w1 (n_v vs 0) 96 = w_ar ws (n_v vs 0) 96 := congrArg v_ad (s1.2 _ _).symm
  have ar_0_96_2 : w_ar w2 (n_v vs 0) 96 = w_ar ws (n_v vs 0) 96 := by rw [← ar_0_96_1]; show v_ad (w_fd w2 _ _) = v_ad (w_fd w1 _ _); rw [s2.2]
  have ar_0_96_3 : w_ar w3 (n_v vs 0) 96 = w_ar ws (n_v vs 0) 96 := by rw [← ar_0_96_2]; show v_ad (w_fd w3 _ _) = v_ad (w_fd w2 _ _); rw [s3.2]
  have ar_0_96_4 : w_ar w4 (n_v vs 0) 96 = w_ar ws (n_v vs 0) 96 := by rw [← ar_0_96_3]; show v_ad (w_fd w4 _ _) = v_ad (w_fd w3 _ _); rw [s4.2]
  have ar_0_96_5 : w_ar w5 (n_v vs 0) 96 = w_ar ws (n_v vs 0) 96 := by rw [← ar_0_96_4]; show v_ad (w_fd w5 _ _) = v_ad (w_fd w4 _ _); rw [s5.2]
  have ar_0_96_6 : w_ar w6 (n_v vs 0) 96 = w_ar ws (n_v vs 0) 96 := by rw [← ar_0_96_5]; show v_ad (w_fd w6 _ _) = v_ad (w_fd w5 _ _); rw [s6.2]
  have cr_0_96 := fdq_166 hD hth r0
  have cr_0_123 := fdq_281 hD hth r0
  have ad_10 : v_ad (n_v vs 10) = w_ar ws (n_v vs 0) 75 := (congrArg v_ad f4).trans ar_0_75_1
  have ad_8 : v_ad (n_v vs 8) = w_ar ws (n_v vs 0) 74 := (congrArg v_ad f9).trans ar_0_74_2
  have ad_1 : v_ad (n_v vs 1) = w_ar ws (n_v vs 0) 96 := (congrArg v_ad f27).trans ar_0_96_6
  simp only [ar_0_33_1, ar_0_34_1, ar_0_35_1, ar_0_96_1, ar_0_33_2, ar_0_34_2, ar_0_35_2, ar_0_96_2, ar_0_33_3, ar_0_34_3, ar_0_35_3, ar_0_96_3, ar_0_33_4, ar_0_34_4, ar_0_35_4, ar_0_96_4, ar_0_33_5, ar_0_34_5, ar_0_35_5, ar_0_96_5, ad_1] at f26
  have h26 : v_iv (n_v vs 7) = w_ei w6 (w_ar ws (n_v vs 0) 96) (v_iv (n_v vs 6)) := f26
  simp only [ad_1] at f28
  have h28 : v_iv (n_v vs 5) = w_ei w6 (w_ar ws (n_v vs 0) 96) (v_iv (n_v vs 4)) := f28
  simp only [ad_1] at f29
  have h29 : v_iv (n_v vs 3) = w_ei w6 (w_ar ws (n_v vs 0) 96) (v_iv (n_v vs 2)) := f29
  simp only [ar_0_33_6, ar_0_34_6, ar_0_35_6, ar_0_96_6] at f31
  have fe_0_31_1 : w_fi ws (n_v vs 0) 31 = w_fi w1 (n_v vs 0) 31 := congrArg v_iv (s1.2 _ _)
  have fe_0_32_1 : w_fi ws (n_v vs 0) 32 = w_fi w1 (n_v vs 0) 32 := congrArg v_iv (s1.2 _ _)
  have fe_0_31_2 : w_fi w1 (n_v vs 0) 31 = w_fi w2 (n_v vs 0) 31 := congrArg v_iv (s2.2 _ _)
  have fe_0_32_2 : w_fi w1 (n_v vs 0) 32 = w_fi w2 (n_v vs 0) 32 := congrArg v_iv (s2.2 _ _)
  have fe_0_31_3 : w_fi w2 (n_v vs 0) 31 = w_fi w3 (n_v vs 0) 31 := congrArg v_iv (s3.2 _ _)
  have fe_0_32_3 : w_fi w2 (n_v vs 0) 32 = w_fi w3 (n_v vs 0) 32 := congrArg v_iv (s3.2 _ _)
  have fe_0_31_4 : w_fi w3 (n_v vs 0) 31 = w_fi w4 (n_v vs 0) 31 := congrArg v_iv (s4.2 _ _)
  have fe_0_32_4 : w_fi w3 (n_v vs 0) 32 = w_fi w4 (n_v vs 0) 32 := congrArg v_iv (s4.2 _ _)
  have fe_0_31_5 : w_fi w4 (n_v vs 0) 31 = w_fi w5 (n_v vs 0) 31 := congrArg v_iv (s5.2 _ _)
  have fe_0_32_5 : w_fi w4 (n_v vs 0) 32 = w_fi w5 (n_v vs 0) 32 := congrArg v_iv (s5.2 _ _)
  have fe_0_31_6 : w_fi w5 (n_v vs 0) 31 = w_fi w6 (n_v vs 0) 31 := congrArg v_iv (s6.2 _ _)
  have fe_0_32_6 : w_fi w5 (n_v vs 0) 32 = w_fi w6 (n_v vs 0) 32 := congrArg v_iv (s6.2 _ _)
  have hE_0_33_1 : ∀ j : Int, w_ei ws (w_ar ws (n_v vs 0) 33) j = w_ei w1 (w_ar ws (n_v vs 0) 33) j := el_kp s1.1 r10 cr_0_33 (by decide)
  have hE_0_33_2 : ∀ j : Int, w_ei w1 (w_ar ws (n_v vs 0) 33) j = w_ei w2 (w_ar ws (n_v vs 0) 33) j := el_kp s2.1 r8 cr_0_33 (by decide)
  have hE_0_33_3 : ∀ j : Int, w_ei w2 (w_ar ws (n_v vs 0) 33) j = w_ei w3 (w_ar ws (n_v vs 0) 33) j := el_kp s3.1 r10 cr_0_33 (by decide)
  have hE_0_33_4 : ∀ j : Int, w_ei w3 (w_ar ws (n_v vs 0) 33) j = w_ei w4 (w_ar ws (n_v vs 0) 33) j := el_kp s4.1 r8 cr_0_33 (by decide)
  have hE_0_33_5 : ∀ j : Int, w_ei w4 (w_ar ws (n_v vs 0) 33) j = w_ei w5 (w_ar ws (n_v vs 0) 33) j := el_kp s5.1 r10 cr_0_33 (by decide)
  have hE_0_33_6 : ∀ j : Int, w_ei w5 (w_ar ws (n_v vs 0) 33) j = w_ei w6 (w_ar ws (n_v vs 0) 33) j := el_kp s6.1 r8 cr_0_33 (by decide)
  have hE_0_34_1 : ∀ j : Int, w_ei ws (w_ar ws (n_v vs 0) 34) j = w_ei w1 (w_ar ws (n_v vs 0) 34) j := el_kp s1.1 r10 cr_0_34 (by decide)
  have hE_0_34_2 : ∀ j : Int, w_ei w1 (w_ar ws (n_v vs 0) 34) j = w_ei w2 (w_ar ws (n_v vs 0) 34) j := el_kp s2.1 r8 cr_0_34 (by decide)
  have hE_0_34_3 : ∀ j : Int, w_ei w2 (w_ar ws (n_v vs 0) 34) j = w_ei w3 (w_ar ws (n_v vs 0) 34) j := el_kp s3.1 r10 cr_0_34 (by decide)
  have hE_0_34_4 : ∀ j : Int, w_ei w3 (w_ar ws (n_v vs 0) 34) j = w_ei w4 (w_ar ws (n_v vs 0) 34) j := el_kp s4.1 r8 cr_0_34 (by decide)
  have hE_0_34_5 : ∀ j : Int, w_ei w4 (w_ar ws (n_v vs 0) 34) j = w_ei w5 (w_ar ws (n_v vs 0) 34) j := el_kp s5.1 r10 cr_0_34 (by decide)
  have hE_0_34_6 : ∀ j : Int, w_ei w5 (w_ar ws (n_v vs 0) 34) j = w_ei w6 (w_ar ws (n_v vs 0) 34) j := el_kp s6.1 r8 cr_0_34 (by decide)
  have hE_0_35_1 : ∀ j : Int, w_ei ws (w_ar ws (n_v vs 0) 35) j = w_ei w1 (w_ar ws (n_v vs 0) 35) j := el_kp s1.1 r10 cr_0_35 (by decide)
  have hE_0_35_2 : ∀ j : Int, w_ei w1 (w_ar ws (n_v vs 0) 35) j = w_ei w2 (w_ar ws (n_v vs 0) 35) j := el_kp s2.1 r8 cr_0_35 (by decide)
  have hE_0_35_3 : ∀ j : Int, w_ei w2 (w_ar ws (n_v vs 0) 35) j = w_ei w3 (w_ar ws (n_v vs 0) 35) j := el_kp s3.1 r10 cr_0_35 (by decide)
  have hE_0_35_4 : ∀ j : Int, w_ei w3 (w_ar ws (n_v vs 0) 35) j = w_ei w4 (w_ar ws (n_v vs 0) 35) j := el_kp s4.1 r8 cr_0_35 (by decide)
  have hE_0_35_5 : ∀ j : Int, w_ei w4 (w_ar ws (n_v vs 0) 35) j = w_ei w5 (w_ar ws (n_v vs 0) 35) j := el_kp s5.1 r10 cr_0_35 (by decide)
  have hE_0_35_6 : ∀ j : Int, w_ei w5 (w_ar ws (n_v vs 0) 35) j = w_ei w6 (w_ar ws (n_v vs 0) 35) j := el_kp s6.1 r8 cr_0_35 (by decide)
  have hE_0_74_1 : ∀ j : Int, w_ei ws (w_ar ws (n_v vs 0) 74) j = w_ei w1 (w_ar ws (n_v vs 0) 74) j := el_kp s1.1 r10 cr_0_74 (by decide)
  have hE_0_74_2 : ∀ j : Int, 0 ≤ j → (j = v_iv (n_v vs 7) → w_ei w1 (w_ar ws (n_v vs 0) 74) j = v_iv (n_v vs 14)) ∧ (j ≠ v_iv (n_v vs 7) → w_ei w1 (w_ar ws (n_v vs 0) 74) j = w_ei w2 (w_ar ws (n_v vs 0) 74) j) := fun j hj => ⟨fun h => by unfold w_ei; rw [s2.1, if_pos ⟨ad_8.symm, by rw [h]⟩], fun h => by unfold w_ei; rw [s2.1, if_neg (fun e => h (by have := e.2; omega))]⟩
  have hE_0_74_3 : ∀ j : Int, w_ei w2 (w_ar ws (n_v vs 0) 74) j = w_ei w3 (w_ar ws (n_v vs 0) 74) j := el_kp s3.1 r10 cr_0_74 (by decide)
  have hE_0_74_4 : ∀ j : Int, 0 ≤ j → (j = v_iv (n_v vs 5) → w_ei w3 (w_ar ws (n_v vs 0) 74) j = v_iv (n_v vs 12)) ∧ (j ≠ v_iv (n_v vs 5) → w_ei w3 (w_ar ws (n_v vs 0) 74) j = w_ei w4 (w_ar ws (n_v vs 0) 74) j) := fun j hj => ⟨fun h => by unfold w_ei; rw [s4.1, if_pos ⟨ad_8.symm, by rw [h]⟩], fun h => by unfold w_ei; rw [s4.1, if_neg (fun e => h (by have := e.2; omega))]⟩
  have hE_0_74_5 : ∀ j : Int, w_ei w4 (w_ar ws (n_v vs 0) 74) j = w_ei w5 (w_ar ws (n_v vs 0) 74) j := el_kp s5.1 r10 cr_0_74 (by decide)
  have hE_0_74_6 : ∀ j : Int, 0 ≤ j → (j = v_iv (n_v vs 3) → w_ei w5 (w_ar ws (n_v vs 0) 74) j = v_iv (n_v vs 9)) ∧ (j ≠ v_iv (n_v vs 3) → w_ei w5 (w_ar ws (n_v vs 0) 74) j = w_ei w6 (w_ar ws (n_v vs 0) 74) j) := fun j hj => ⟨fun h => by unfold w_ei; rw [s6.1, if_pos ⟨ad_8.symm, by rw [h]⟩], fun h => by unfold w_ei; rw [s6.1, if_neg (fun e => h (by have := e.2; omega))]⟩
  have hE_0_75_1 : ∀ j : Int, 0 ≤ j → (j = v_iv (n_v vs 7) → w_ei ws (w_ar ws (n_v vs 0) 75) j = v_iv (n_v vs 15)) ∧ (j ≠ v_iv (n_v vs 7) → w_ei ws (w_ar ws (n_v vs 0) 75) j = w_ei w1 (w_ar ws (n_v vs 0) 75) j) := fun j hj => ⟨fun h => by unfold w_ei; rw [s1.1, if_pos ⟨ad_10.symm, by rw [h]⟩], fun h => by unfold w_ei; rw [s1.1, if_neg (fun e => h (by have := e.2; omega))]⟩
  have hE_0_75_2 : ∀ j : Int, w_ei w1 (w_ar ws (n_v vs 0) 75) j = w_ei w2 (w_ar ws (n_v vs 0) 75) j := el_kp s2.1 r8 cr_0_75 (by decide)
  have hE_0_75_3 : ∀ j : Int, 0 ≤ j → (j = v_iv (n_v vs 5) → w_ei w2 (w_ar ws (n_v vs 0) 75) j = v_iv (n_v vs 13)) ∧ (j ≠ v_iv (n_v vs 5) → w_ei w2 (w_ar ws (n_v vs 0) 75) j = w_ei w3 (w_ar ws (n_v vs 0) 75) j) := fun j hj => ⟨fun h => by unfold w_ei; rw [s3.1, if_pos ⟨ad_10.symm, by rw [h]⟩], fun h => by unfold w_ei; rw [s3.1, if_neg (fun e => h (by have := e.2; omega))]⟩
  have hE_0_75_4 : ∀ j : Int, w_ei w3 (w_ar ws (n_v vs 0) 75) j = w_ei w4 (w_ar ws (n_v vs 0) 75) j := el_kp s4.1 r8 cr_0_75 (by decide)
  have hE_0_75_5 : ∀ j : Int, 0 ≤ j → (j = v_iv (n_v vs 3) → w_ei w4 (w_ar ws (n_v vs 0) 75) j = v_iv (n_v vs 11)) ∧ (j ≠ v_iv (n_v vs 3) → w_ei w4 (w_ar ws (n_v vs 0) 75) j = w_ei w5 (w_ar ws (n_v vs 0) 75) j) := fun j hj => ⟨fun h => by unfold w_ei; rw [s5.1, if_pos ⟨ad_10.symm, by rw [h]⟩], fun h => by unfold w_ei; rw [s5.1, if_neg (fun e => h (by have := e.2; omega))]⟩
  have hE_0_75_6 : ∀ j : Int, w_ei w5 (w_ar ws (n_v vs 0) 75) j = w_ei w6 (w_ar ws (n_v vs 0) 75) j := el_kp s6.1 r8 cr_0_75 (by decide)
  have hE_0_96_1 : ∀ j : Int, w_ei ws (w_ar ws (n_v vs 0) 96) j = w_ei w1 (w_ar ws (n_v vs 0) 96) j := el_kp s1.1 r10 cr_0_96 (by decide)
  have hE_0_96_2 : ∀ j : Int, w_ei w1 (w_ar ws (n_v vs 0) 96) j = w_ei w2 (w_ar ws (n_v vs 0) 96) j := el_kp s2.1 r8 cr_0_96 (by decide)
  have hE_0_96_3 : ∀ j : Int, w_ei w2 (w_ar ws (n_v vs 0) 96) j = w_ei w3 (w_ar ws (n_v vs 0) 96) j := el_kp s3.1 r10 cr_0_96 (by decide)
  have hE_0_96_4 : ∀ j : Int, w_ei w3 (w_ar ws (n_v vs 0) 96) j = w_ei w4 (w_ar ws (n_v vs 0) 96) j := el_kp s4.1 r8 cr_0_96 (by decide)
  have hE_0_96_5 : ∀ j : Int, w_ei w4 (w_ar ws (n_v vs 0) 96) j = w_ei w5 (w_ar ws (n_v vs 0) 96) j := el_kp s5.1 r10 cr_0_96 (by decide)
  have hE_0_96_6 : ∀ j : Int, w_ei w5 (w_ar ws (n_v vs 0) 96) j = w_ei w6 (w_ar ws (n_v vs 0) 96) j := el_kp s6.1 r8 cr_0_96 (by decide)
  have hE_0_123_1 : ∀ j : Int, w_ei ws (w_ar ws (n_v vs 0) 123) j = w_ei w1 (w_ar ws (n_v vs 0) 123) j := el_kp s1.1 r10 cr_0_123 (by decide)
  have hE_0_123_2 : ∀ j : Int, w_ei w1 (w_ar ws (n_v vs 0) 123) j = w_ei w2 (w_ar ws (n_v vs 0) 123) j := el_kp s2.1 r8 cr_0_123 (by decide)
  have hE_0_123_3 : ∀ j : Int, w_ei w2 (w_ar ws (n_v vs 0) 123) j = w_ei w3 (w_ar ws (n_v vs 0) 123) j := el_kp s3.1 r10 cr_0_123 (by decide)
  have hE_0_123_4 : ∀ j : Int, w_ei w3 (w_ar ws (n_v vs 0) 123) j = w_ei w4 (w_ar ws (n_v vs 0) 123) j := el_kp s4.1 r8 cr_0_123 (by decide)
  have hE_0_123_5 : ∀ j : Int, w_ei w4 (w_ar ws (n_v vs 0) 123) j = w_ei w5 (w_ar ws (n_v vs 0) 123) j := el_kp s5.1 r10 cr_0_123 (by decide)
  have hE_0_123_6 : ∀ j : Int, w_ei w5 (w_ar ws (n_v vs 0) 123) j = w_ei w6 (w_ar ws (n_v vs 0) 123) j := el_kp s6.1 r8 cr_0_123 (by decide)
  have kz_0_31 := fdq_145 hD hth r0
  have kz_0_32 := fdq_140 hD hth r0
  have nf0 : fc_1 PRD (20, [3, 0], [50, 0, 1, 1096, 1, 2, 1, 0, 3, 1, 96, 0, 0]) ws (vs) := ⟨nf_in hl rfl, sgq_1252 (vc_Mo_shift_3_0 (v_iv (n_v vs 2)) (v_iv (n_v vs 3)) (v_iv (n_v vs 4)) (v_iv (n_v vs 6)) (w_ei ws (w_ar ws (n_v vs 0) 33)) (w_ei ws (w_ar ws (n_v vs 0) 34)) (w_fi ws (n_v vs 0) 31) (w_fi ws (n_v vs 0) 32) (w_ei ws (w_ar ws (n_v vs 0) 35)) (w_ei ws (w_ar ws (n_v vs 0) 96)) (w_ei w1 (w_ar ws (n_v vs 0) 33)) (w_ei w1 (w_ar ws (n_v vs 0) 34)) (w_fi w1 (n_v vs 0) 31) (w_fi w1 (n_v vs 0) 32) (w_ei w1 (w_ar ws (n_v vs 0) 35)) (w_ei w1 (w_ar ws (n_v vs 0) 96)) (w_ei w2 (w_ar ws (n_v vs 0) 33)) (w_ei w2 (w_ar ws (n_v vs 0) 34)) (w_fi w2 (n_v vs 0) 31) (w_fi w2 (n_v vs 0) 32) (w_ei w2 (w_ar ws (n_v vs 0) 35)) (w_ei w2 (w_ar ws (n_v vs 0) 96)) (w_ei w3 (w_ar ws (n_v vs 0) 33)) (w_ei w3 (w_ar ws (n_v vs 0) 34)) (w_fi w3 (n_v vs 0) 31) (w_fi w3 (n_v vs 0) 32) (w_ei w3 (w_ar ws (n_v vs 0) 35)) (w_ei w3 (w_ar ws (n_v vs 0) 96)) (w_ei w4 (w_ar ws (n_v vs 0) 33)) (w_ei w4 (w_ar ws (n_v vs 0) 34)) (w_fi w4 (n_v vs 0) 31) (w_fi w4 (n_v vs 0) 32) (w_ei w4 (w_ar ws (n_v vs 0) 35)) (w_ei w4 (w_ar ws (n_v vs 0) 96)) (w_ei w5 (w_ar ws (n_v vs 0) 33)) (w_ei w5 (w_ar ws (n_v vs 0) 34)) (w_fi w5 (n_v vs 0) 31) (w_fi w5 (n_v vs 0) 32) (w_ei w5 (w_ar ws (n_v vs 0) 35)) (w_ei w5 (w_ar ws (n_v vs 0) 96)) (w_ei w6 (w_ar ws (n_v vs 0) 96)) (w_ei w6 (w_ar ws (n_v vs 0) 33)) (w_ei w6 (w_ar ws (n_v vs 0) 34)) (w_fi w6 (n_v vs 0) 31) (w_fi w6 (n_v vs 0) 32) (w_ei w6 (w_ar ws (n_v vs 0) 35)) (w_ei ws (w_ar ws (n_v vs 0) 74)) (w_ei w1 (w_ar ws (n_v vs 0) 74)) (w_ei w2 (w_ar ws (n_v vs 0) 74)) (w_ei w3 (w_ar ws (n_v vs 0) 74)) (w_ei w4 (w_ar ws (n_v vs 0) 74)) (w_ei w5 (w_ar ws (n_v vs 0) 74)) (w_ei w1 (w_ar ws (n_v vs 0) 75)) (w_ei w2 (w_ar ws (n_v vs 0) 75)) (w_ei w3 (w_ar ws (n_v vs 0) 75)) (w_ei w4 (w_ar ws (n_v vs 0) 75)) (w_ei w5 (w_ar ws (n_v vs 0) 75)) (w_ei w6 (w_ar ws (n_v vs 0) 75)) (w_ei ws (w_ar ws (n_v vs 0) 123)) (w_ei w1 (w_ar ws (n_v vs 0) 123)) (w_ei w2 (w_ar ws (n_v vs 0) 123)) (w_ei w3 (w_ar ws (n_v vs 0) 123)) (w_ei w4 (w_ar ws (n_v vs 0) 123)) (w_ei w5 (w_ar ws (n_v vs 0) 123)) (w_ei w6 (w_ar ws (n_v vs 0) 123)) k2 k3 h29 fe_0_31_1 fe_0_32_1 fe_0_31_2 fe_0_32_2 fe_0_31_3 fe_0_32_3 fe_0_31_4 fe_0_32_4 fe_0_31_5 fe_0_32_5 fe_0_31_6 fe_0_32_6 hE_0_33_1 hE_0_33_2 hE_0_33_3 hE_0_33_4 hE_0_33_5 hE_0_33_6 hE_0_34_1 hE_0_34_2 hE_0_34_3 hE_0_34_4 hE_0_34_5 hE_0_34_6 hE_0_35_1 hE_0_35_2 hE_0_35_3 hE_0_35_4 hE_0_35_5 hE_0_35_6 hE_0_74_1 hE_0_74_3 hE_0_74_5 hE_0_75_2 hE_0_75_4 hE_0_75_6 hE_0_96_1 hE_0_96_2 hE_0_96_3 hE_0_96_4 hE_0_96_5 hE_0_96_6 hE_0_123_1 hE_0_123_2 hE_0_123_3 hE_0_123_4 hE_0_123_5 hE_0_123_6 kz_0_31 kz_0_32)⟩
  have nf1 : fc_1 PRD (20, [5, 0], [50, 0, 1, 1096, 1, 2, 1, 0, 3, 1, 96, 0, 1]) ws (vs) := ⟨nf_in hl rfl, sgq_1253 (vc_Mo_shift_3_1 (v_iv (n_v vs 2)) (v_iv (n_v vs 4)) (v_iv (n_v vs 5)) (v_iv (n_v vs 6)) (w_ei ws (w_ar ws (n_v vs 0) 33)) (w_ei ws (w_ar ws (n_v vs 0) 34)) (w_fi ws (n_v vs 0) 31) (w_fi ws (n_v vs 0) 32) (w_ei ws (w_ar ws (n_v vs 0) 35)) (w_ei ws (w_ar ws (n_v vs 0) 96)) (w_ei w1 (w_ar ws (n_v vs 0) 33)) (w_ei w1 (w_ar ws (n_v vs 0) 34)) (w_fi w1 (n_v vs 0) 31) (w_fi w1 (n_v vs 0) 32) (w_ei w1 (w_ar ws (n_v vs 0) 35)) (w_ei w1 (w_ar ws (n_v vs 0) 96)) (w_ei w2 (w_ar ws (n_v vs 0) 33)) (w_ei w2 (w_ar ws (n_v vs 0) 34)) (w_fi w2 (n_v vs 0) 31) (w_fi w2 (n_v vs 0) 32) (w_ei w2 (w_ar ws (n_v vs 0) 35)) (w_ei w2 (w_ar ws (n_v vs 0) 96)) (w_ei w3 (w_ar ws (n_v vs 0) 33)) (w_ei w3 (w_ar ws (n_v vs 0) 34)) (w_fi w3 (n_v vs 0) 31) (w_fi w3 (n_v vs 0) 32) (w_ei w3 (w_ar ws (n_v vs 0) 35)) (w_ei w3 (w_ar ws (n_v vs 0) 96)) (w_ei w4 (w_ar ws (n_v vs 0) 33)) (w_ei w4 (w_ar ws (n_v vs 0) 34)) (w_fi w4 (n_v vs 0) 31) (w_fi w4 (n_v vs 0) 32) (w_ei w4 (w_ar ws (n_v vs 0) 35)) (w_ei w4 (w_ar ws (n_v vs 0) 96)) (w_ei w5 (w_ar ws (n_v vs 0) 33)) (w_ei w5 (w_ar ws (n_v vs 0) 34)) (w_fi w5 (n_v vs 0) 31) (w_fi w5 (n_v vs 0) 32) (w_ei w5 (w_ar ws (n_v vs 0) 35)) (w_ei w5 (w_ar ws (n_v vs 0) 96)) (w_ei w6 (w_ar ws (n_v vs 0) 96)) (w_ei w6 (w_ar ws (n_v vs 0) 33)) (w_ei w6 (w_ar ws (n_v vs 0) 34)) (w_fi w6 (n_v vs 0) 31) (w_fi w6 (n_v vs 0) 32) (w_ei w6 (w_ar ws (n_v vs 0) 35)) (w_ei ws (w_ar ws (n_v vs 0) 74)) (w_ei w1 (w_ar ws (n_v vs 0) 74)) (w_ei w2 (w_ar ws (n_v vs 0) 74)) (w_ei w3 (w_ar ws (n_v vs 0) 74)) (w_ei w4 (w_ar ws (n_v vs 0) 74)) (w_ei w5 (w_ar ws (n_v vs 0) 74)) (w_ei w1 (w_ar ws (n_v vs 0) 75)) (w_ei w2 (w_ar ws (n_v vs 0) 75)) (w_ei w3 (w_ar ws (n_v vs 0) 75)) (w_ei w4 (w_ar ws (n_v vs 0) 75)) (w_ei w5 (w_ar ws (n_v vs 0) 75)) (w_ei w6 (w_ar ws (n_v vs 0) 75)) (w_ei ws (w_ar ws (n_v vs 0) 123)) (w_ei w1 (w_ar ws (n_v vs 0) 123)) (w_ei w2 (w_ar ws (n_v vs 0) 123)) (w_ei w3 (w_ar ws (n_v vs 0) 123)) (w_ei w4 (w_ar ws (n_v vs 0) 123)) (w_ei w5 (w_ar ws (n_v vs 0) 123)) (w_ei w6 (w_ar ws (n_v vs 0) 123)) k4 k5 h28 fe_0_31_1 fe_0_32_1 fe_0_31_2 fe_0_32_2 fe_0_31_3 fe_0_32_3 fe_0_31_4 fe_0_32_4 fe_0_31_5 fe_0_32_5 fe_0_31_6 fe_0_32_6 hE_0_33_1 hE_0_33_2 hE_0_33_3 hE_0_33_4 hE_0_33_5 hE_0_33_6 hE_0_34_1 hE_0_34_2 hE_0_34_3 hE_0_34_4 hE_0_34_5 hE_0_34_6 hE_0_35_1 hE_0_35_2 hE_0_35_3 hE_0_35_4 hE_0_35_5 hE_0_35_6 hE_0_74_1 hE_0_74_3 hE_0_74_5 hE_0_75_2 hE_0_75_4 hE_0_75_6 hE_0_96_1 hE_0_96_2 hE_0_96_3 hE_0_96_4 hE_0_96_5 hE_0_96_6 hE_0_123_1 hE_0_123_2 hE_0_123_3 hE_0_123_4 hE_0_123_5 hE_0_123_6 kz_0_31 kz_0_32)⟩
  have nf2 : fc_1 PRD (20, [7, 0], [50, 0, 1, 1096, 1, 2, 1, 0, 3, 1, 96, 0, 2]) ws (vs) := ⟨nf_in hl rfl, sgq_1254 (vc_Mo_shift_3_2 (v_iv (n_v vs 2)) (v_iv (n_v vs 4)) (v_iv (n_v vs 6)) (v_iv (n_v vs 7)) (w_ei ws (w_ar ws (n_v vs 0) 33)) (w_ei ws (w_ar ws (n_v vs 0) 34)) (w_fi ws (n_v vs 0) 31) (w_fi ws (n_v vs 0) 32) (w_ei ws (w_ar ws (n_v vs 0) 35)) (w_ei ws (w_ar ws (n_v vs 0) 96)) (w_ei w1 (w_ar ws (n_v vs 0) 33)) (w_ei w1 (w_ar ws (n_v vs 0) 34)) (w_fi w1 (n_v vs 0) 31) (w_fi w1 (n_v vs 0) 32) (w_ei w1 (w_ar ws (n_v vs 0) 35)) (w_ei w1 (w_ar ws (n_v vs 0) 96)) (w_ei w2 (w_ar ws (n_v vs 0) 33)) (w_ei w2 (w_ar ws (n_v vs 0) 34)) (w_fi w2 (n_v vs 0) 31) (w_fi w2 (n_v vs 0) 32) (w_ei w2 (w_ar ws (n_v vs 0) 35)) (w_ei w2 (w_ar ws (n_v vs 0) 96)) (w_ei w3 (w_ar ws (n_v vs 0) 33)) (w_ei w3 (w_ar ws (n_v vs 0) 34)) (w_fi w3 (n_v vs 0) 31) (w_fi w3 (n_v vs 0) 32) (w_ei w3 (w_ar ws (n_v vs 0) 35)) (w_ei w3 (w_ar ws (n_v vs 0) 96)) (w_ei w4 (w_ar ws (n_v vs 0) 33)) (w_ei w4 (w_ar ws (n_v vs 0) 34)) (w_fi w4 (n_v vs 0) 31) (w_fi w4 (n_v vs 0) 32) (w_ei w4 (w_ar ws (n_v vs 0) 35)) (w_ei w4 (w_ar ws (n_v vs 0) 96)) (w_ei w5 (w_ar ws (n_v vs 0) 33)) (w_ei w5 (w_ar ws (n_v vs 0) 34)) (w_fi w5 (n_v vs 0) 31) (w_fi w5 (n_v vs 0) 32) (w_ei w5 (w_ar ws (n_v vs 0) 35)) (w_ei w5 (w_ar ws (n_v vs 0) 96)) (w_ei w6 (w_ar ws (n_v vs 0) 96)) (w_ei w6 (w_ar ws (n_v vs 0) 33)) (w_ei w6 (w_ar ws (n_v vs 0) 34)) (w_fi w6 (n_v vs 0) 31) (w_fi w6 (n_v vs 0) 32) (w_ei w6 (w_ar ws (n_v vs 0) 35)) (w_ei ws (w_ar ws (n_v vs 0) 74)) (w_ei w1 (w_ar ws (n_v vs 0) 74)) (w_ei w2 (w_ar ws (n_v vs 0) 74)) (w_ei w3 (w_ar ws (n_v vs 0) 74)) (w_ei w4 (w_ar ws (n_v vs 0) 74)) (w_ei w5 (w_ar ws (n_v vs 0) 74)) (w_ei w1 (w_ar ws (n_v vs 0) 75)) (w_ei w2 (w_ar ws (n_v vs 0) 75)) (w_ei w3 (w_ar ws (n_v vs 0) 75)) (w_ei w4 (w_ar ws (n_v vs 0) 75)) (w_ei w5 (w_ar ws (n_v vs 0) 75)) (w_ei w6 (w_ar ws (n_v vs 0) 75)) (w_ei ws (w_ar ws (n_v vs 0) 123)) (w_ei w1 (w_ar ws (n_v vs 0) 123)) (w_ei w2 (w_ar ws (n_v vs 0) 123)) (w_ei w3 (w_ar ws (n_v vs 0) 123)) (w_ei w4 (w_ar ws (n_v vs 0) 123)) (w_ei w5 (w_ar ws (n_v vs 0) 123)) (w_ei w6 (w_ar ws (n_v vs 0) 123)) k6 k7 h26 fe_0_31_1 fe_0_32_1 fe_0_31_2 fe_0_32_2 fe_0_31_3 fe_0_32_3 fe_0_31_4 fe_0_32_4 fe_0_31_5 fe_0_32_5 fe_0_31_6 fe_0_32_6 hE_0_33_1 hE_0_33_2 hE_0_33_3 hE_0_33_4 hE_0_33_5 hE_0_33_6 hE_0_34_1 hE_0_34_2 hE_0_34_3 hE_0_34_4 hE_0_34_5 hE_0_34_6 hE_0_35_1 hE_0_35_2 hE_0_35_3 hE_0_35_4 hE_0_35_5 hE_0_35_6 hE_0_74_1 hE_0_74_3 hE_0_74_5 hE_0_75_2 hE_0_75_4 hE_0_75_6 hE_0_96_1 hE_0_96_2 hE_0_96_3 hE_0_96_4 hE_0_96_5 hE_0_96_6 hE_0_123_1 hE_0_123_2 hE_0_123_3 hE_0_123_4 hE_0_123_5 hE_0_123_6 kz_0_31 kz_0_32)⟩
  have nf3 : fc_1 PRD (20, [0], [60, 0, 3, 836, 74, 75, 96]) ws (vs) := ⟨nf_in hl rfl, sgq_1255 (vc_Mo_shift_3_3 (v_iv (n_v vs 2)) (v_iv (n_v vs 3)) (v_iv (n_v vs 4)) (v_iv (n_v vs 5)) (v_iv (n_v vs 6)) (v_iv (n_v vs 7)) (v_iv (n_v vs 9)) (v_iv (n_v vs 11)) (v_iv (n_v vs 12)) (v_iv (n_v vs 13)) (v_iv (n_v vs 14)) (v_iv (n_v vs 15)) (w_ei ws (w_ar ws (n_v vs 0) 33)) (w_ei ws (w_ar ws (n_v vs 0) 34)) (w_fi ws (n_v vs 0) 31) (w_fi ws (n_v vs 0) 32) (w_ei ws (w_ar ws (n_v vs 0) 35)) (w_ei ws (w_ar ws (n_v vs 0) 96)) (w_ei w1 (w_ar ws (n_v vs 0) 33)) (w_ei w1 (w_ar ws (n_v vs 0) 34)) (w_fi w1 (n_v vs 0) 31) (w_fi w1 (n_v vs 0) 32) (w_ei w1 (w_ar ws (n_v vs 0) 35)) (w_ei w1 (w_ar ws (n_v vs 0) 96)) (w_ei w2 (w_ar ws (n_v vs 0) 33)) (w_ei w2 (w_ar ws (n_v vs 0) 34)) (w_fi w2 (n_v vs 0) 31) (w_fi w2 (n_v vs 0) 32) (w_ei w2 (w_ar ws (n_v vs 0) 35)) (w_ei w2 (w_ar ws (n_v vs 0) 96)) (w_ei w3 (w_ar ws (n_v vs 0) 33)) (w_ei w3 (w_ar ws (n_v vs 0) 34)) (w_fi w3 (n_v vs 0) 31) (w_fi w3 (n_v vs 0) 32) (w_ei w3 (w_ar ws (n_v vs 0) 35)) (w_ei w3 (w_ar ws (n_v vs 0) 96)) (w_ei w4 (w_ar ws (n_v vs 0) 33)) (w_ei w4 (w_ar ws (n_v vs 0) 34)) (w_fi w4 (n_v vs 0) 31) (w_fi w4 (n_v vs 0) 32) (w_ei w4 (w_ar ws (n_v vs 0) 35)) (w_ei w4 (w_ar ws (n_v vs 0) 96)) (w_ei w5 (w_ar ws (n_v vs 0) 33)) (w_ei w5 (w_ar ws (n_v vs 0) 34)) (w_fi w5 (n_v vs 0) 31) (w_fi w5 (n_v vs 0) 32) (w_ei w5 (w_ar ws (n_v vs 0) 35)) (w_ei w5 (w_ar ws (n_v vs 0) 96)) (w_ei w6 (w_ar ws (n_v vs 0) 96)) (w_ei w6 (w_ar ws (n_v vs 0) 33)) (w_ei w6 (w_ar ws (n_v vs 0) 34)) (w_fi w6 (n_v vs 0) 31) (w_fi w6 (n_v vs 0) 32) (w_ei w6 (w_ar ws (n_v vs 0) 35)) (w_ei ws (w_ar ws (n_v vs 0) 74)) (w_ei w1 (w_ar ws (n_v vs 0) 74)) (w_ei w2 (w_ar ws (n_v vs 0) 74)) (w_ei w3 (w_ar ws (n_v vs 0) 74)) (w_ei w4 (w_ar ws (n_v vs 0) 74)) (w_ei w5 (w_ar ws (n_v vs 0) 74)) (w_ei w6 (w_ar ws (n_v vs 0) 74)) (w_ei ws (w_ar ws (n_v vs 0) 75)) (w_ei w1 (w_ar ws (n_v vs 0) 75)) (w_ei w2 (w_ar ws (n_v vs 0) 75)) (w_ei w3 (w_ar ws (n_v vs 0) 75)) (w_ei w4 (w_ar ws (n_v vs 0) 75)) (w_ei w5 (w_ar ws (n_v vs 0) 75)) (w_ei w6 (w_ar ws (n_v vs 0) 75)) (w_ei ws (w_ar ws (n_v vs 0) 123)) (w_ei w1 (w_ar ws (n_v vs 0) 123)) (w_ei w2 (w_ar ws (n_v vs 0) 123)) (w_ei w3 (w_ar ws (n_v vs 0) 123)) (w_ei w4 (w_ar ws (n_v vs 0) 123)) (w_ei w5 (w_ar ws (n_v vs 0) 123)) (w_ei w6 (w_ar ws (n_v vs 0) 123)) k2 k3 k4 k5 k6 k7 k9 k11 k12 k13 k14 k15 h26 h28 h29 fe_0_31_1 fe_0_32_1 fe_0_31_2 fe_0_32_2 fe_0_31_3 fe_0_32_3 fe_0_31_4 fe_0_32_4 fe_0_31_5 fe_0_32_5 fe_0_31_6 fe_0_32_6 hE_0_33_1 hE_0_33_2 hE_0_33_3 hE_0_33_4 hE_0_33_5 hE_0_33_6 hE_0_34_1 hE_0_34_2 hE_0_34_3 hE_0_34_4 hE_0_34_5 hE_0_34_6 hE_0_35_1 hE_0_35_2 hE_0_35_3 hE_0_35_4 hE_0_35_5 hE_0_35_6 hE_0_74_1 hE_0_74_2 hE_0_74_3 hE_0_74_4 hE_0_74_5 hE_0_74_6 hE_0_75_1 hE_0_75_2 hE_0_75_3 hE_0_75_4 hE_0_75_5 hE_0_75_6 hE_0_96_1 hE_0_96_2 hE_0_96_3 hE_0_96_4 hE_0_96_5 hE_0_96_6 hE_0_123_1 hE_0_123_2 hE_0_123_3 hE_0_123_4 hE_0_123_5 hE_0_123_6 kz_0_31 kz_0_32)⟩
  have nf4 : fc_1 PRD (20, [0, 16], [60, 1, 1, 829, 31, 123]) ws (vs) := ⟨nf_in hl rfl, sgq_1256 (vc_Mo_shift_3_4 (v_iv (n_v vs 16)) (w_ei ws (w_ar ws (n_v vs 0) 33)) (w_ei ws (w_ar ws (n_v vs 0) 34)) (w_fi ws (n_v vs 0) 31) (w_fi ws (n_v vs 0) 32) (w_ei ws (w_ar ws (n_v vs 0) 35)) (w_ei ws (w_ar ws (n_v vs 0) 96)) (w_ei w1 (w_ar ws (n_v vs 0) 33)) (w_ei w1 (w_ar ws (n_v vs 0) 34)) (w_fi w1 (n_v vs 0) 31) (w_fi w1 (n_v vs 0) 32) (w_ei w1 (w_ar ws (n_v vs 0) 35)) (w_ei w1 (w_ar ws (n_v vs 0) 96)) (w_ei w2 (w_ar ws (n_v vs 0) 33)) (w_ei w2 (w_ar ws (n_v vs 0) 34)) (w_fi w2 (n_v vs 0) 31) (w_fi w2 (n_v vs 0) 32) (w_ei w2 (w_ar ws (n_v vs 0) 35)) (w_ei w2 (w_ar ws (n_v vs 0) 96)) (w_ei w3 (w_ar ws (n_v vs 0) 33)) (w_ei w3 (w_ar ws (n_v vs 0) 34)) (w_fi w3 (n_v vs 0) 31) (w_fi w3 (n_v vs 0) 32) (w_ei w3 (w_ar ws (n_v vs 0) 35)) (w_ei w3 (w_ar ws (n_v vs 0) 96)) (w_ei w4 (w_ar ws (n_v vs 0) 33)) (w_ei w4 (w_ar ws (n_v vs 0) 34)) (w_fi w4 (n_v vs 0) 31) (w_fi w4 (n_v vs 0) 32) (w_ei w4 (w_ar ws (n_v vs 0) 35)) (w_ei w4 (w_ar ws (n_v vs 0) 96)) (w_ei w5 (w_ar ws (n_v vs 0) 33)) (w_ei w5 (w_ar ws (n_v vs 0) 34)) (w_fi w5 (n_v vs 0) 31) (w_fi w5 (n_v vs 0) 32) (w_ei w5 (w_ar ws (n_v vs 0) 35)) (w_ei w5 (w_ar ws (n_v vs 0) 96)) (w_ei w6 (w_ar ws (n_v vs 0) 96)) (w_ei w6 (w_ar ws (n_v vs 0) 33)) (w_ei w6 (w_ar ws (n_v vs 0) 34)) (w_fi w6 (n_v vs 0) 31) (w_fi w6 (n_v vs 0) 32) (w_ei w6 (w_ar ws (n_v vs 0) 35)) (w_ei ws (w_ar ws (n_v vs 0) 74)) (w_ei w1 (w_ar ws (n_v vs 0) 74)) (w_ei w2 (w_ar ws (n_v vs 0) 74)) (w_ei w3 (w_ar ws (n_v vs 0) 74)) (w_ei w4 (w_ar ws (n_v vs 0) 74)) (w_ei w5 (w_ar ws (n_v vs 0) 74)) (w_ei w1 (w_ar ws (n_v vs 0) 75)) (w_ei w2 (w_ar ws (n_v vs 0) 75)) (w_ei w3 (w_ar ws (n_v vs 0) 75)) (w_ei w4 (w_ar ws (n_v vs 0) 75)) (w_ei w5 (w_ar ws (n_v vs 0) 75)) (w_ei w6 (w_ar ws (n_v vs 0) 75)) (w_ei ws (w_ar ws (n_v vs 0) 123)) (w_ei w1 (w_ar ws (n_v vs 0) 123)) (w_ei w2 (w_ar ws (n_v vs 0) 123)) (w_ei w3 (w_ar ws (n_v vs 0) 123)) (w_ei w4 (w_ar ws (n_v vs 0) 123)) (w_ei w5 (w_ar ws (n_v vs 0) 123)) (w_ei w6 (w_ar ws (n_v vs 0) 123)) k16 fe_0_31_1 fe_0_32_1 fe_0_31_2 fe_0_32_2 fe_0_31_3 fe_0_32_3 fe_0_31_4 fe_0_32_4 fe_0_31_5 fe_0_32_5 fe_0_31_6 fe_0_32_6 hE_0_33_1 hE_0_33_2 hE_0_33_3 hE_0_33_4 hE_0_33_5 hE_0_33_6 hE_0_34_1 hE_0_34_2 hE_0_34_3 hE_0_34_4 hE_0_34_5 hE_0_34_6 hE_0_35_1 hE_0_35_2 hE_0_35_3 hE_0_35_4 hE_0_35_5 hE_0_35_6 hE_0_74_1 hE_0_74_3 hE_0_74_5 hE_0_75_2 hE_0_75_4 hE_0_75_6 hE_0_96_1 hE_0_96_2 hE_0_96_3 hE_0_96_4 hE_0_96_5 hE_0_96_6 hE_0_123_1 hE_0_123_2 hE_0_123_3 hE_0_123_4 hE_0_123_5 hE_0_123_6 kz_0_31 kz_0_32)⟩
  have nf5 : fc_1 PRD (20, [0], [60, 1, 1, 835, 31, 96]) ws (vs) := ⟨nf_in hl rfl, sgq_643 (vc_Mo_shift_3_5 (w_ei ws (w_ar ws (n_v vs 0) 33)) (w_ei ws (w_ar ws (n_v vs 0) 34)) (w_fi ws (n_v vs 0) 31) (w_fi ws (n_v vs 0) 32) (w_ei ws (w_ar ws (n_v vs 0) 35)) (w_ei ws (w_ar ws (n_v vs 0) 96)) (w_ei w1 (w_ar ws (n_v vs 0) 33)) (w_ei w1 (w_ar ws (n_v vs 0) 34)) (w_fi w1 (n_v vs 0) 31) (w_fi w1 (n_v vs 0) 32) (w_ei w1 (w_ar ws (n_v vs 0) 35)) (w_ei w1 (w_ar ws (n_v vs 0) 96)) (w_ei w2 (w_ar ws (n_v vs 0) 33)) (w_ei w2 (w_ar ws (n_v vs 0) 34)) (w_fi w2 (n_v vs 0) 31) (w_fi w2 (n_v vs 0) 32) (w_ei w2 (w_ar ws (n_v vs 0) 35)) (w_ei w2 (w_ar ws (n_v vs 0) 96)) (w_ei w3 (w_ar ws (n_v vs 0) 33)) (w_ei w3 (w_ar ws (n_v vs 0) 34)) (w_fi w3 (n_v vs 0) 31) (w_fi w3 (n_v vs 0) 32) (w_ei w3 (w_ar ws (n_v vs 0) 35)) (w_ei w3 (w_ar ws (n_v vs 0) 96)) (w_ei w4 (w_ar ws (n_v vs 0) 33)) (w_ei w4 (w_ar ws (n_v vs 0) 34)) (w_fi w4 (n_v vs 0) 31) (w_fi w4 (n_v vs 0) 32) (w_ei w4 (w_ar ws (n_v vs 0) 35)) (w_ei w4 (w_ar ws (n_v vs 0) 96)) (w_ei w5 (w_ar ws (n_v vs 0) 33)) (w_ei w5 (w_ar ws (n_v vs 0) 34)) (w_fi w5 (n_v vs 0) 31) (w_fi w5 (n_v vs 0) 32) (w_ei w5 (w_ar ws (n_v vs 0) 35)) (w_ei w5 (w_ar ws (n_v vs 0) 96)) (w_ei w6 (w_ar ws (n_v vs 0) 96)) (w_ei w6 (w_ar ws (n_v vs 0) 33)) (w_ei w6 (w_ar ws (n_v vs 0) 34)) (w_fi w6 (n_v vs 0) 31) (w_fi w6 (n_v vs 0) 32) (w_ei w6 (w_ar ws (n_v vs 0) 35)) (w_ei ws (w_ar ws (n_v vs 0) 74)) (w_ei w1 (w_ar ws (n_v vs 0) 74)) (w_ei w2 (w_ar ws (n_v vs 0) 74)) (w_ei w3 (w_ar ws (n_v vs 0) 74)) (w_ei w4 (w_ar ws (n_v vs 0) 74)) (w_ei w5 (w_ar ws (n_v vs 0) 74)) (w_ei w1 (w_ar ws (n_v vs 0) 75)) (w_ei w2 (w_ar ws (n_v vs 0) 75)) (w_ei w3 (w_ar ws (n_v vs 0) 75)) (w_ei w4 (w_ar ws (n_v vs 0) 75)) (w_ei w5 (w_ar ws (n_v vs 0) 75)) (w_ei w6 (w_ar ws (n_v vs 0) 75)) (w_ei ws (w_ar ws (n_v vs 0) 123)) (w_ei w1 (w_ar ws (n_v vs 0) 123)) (w_ei w2 (w_ar ws (n_v vs 0) 123)) (w_ei w3 (w_ar ws (n_v vs 0) 123)) (w_ei w4 (w_ar ws (n_v vs 0) 123)) (w_ei w5 (w_ar ws (n_v vs 0) 123)) (w_ei w6 (w_ar ws (n_v vs 0) 123)) f31 fe_0_31_1 fe_0_32_1 fe_0_31_2 fe_0_32_2 fe_0_31_3 fe_0_32_3 fe_0_31_4 fe_0_32_4 fe_0_31_5 fe_0_32_5 fe_0_31_6 fe_0_32_6 hE_0_33_1 hE_0_33_2 hE_0_33_3 hE_0_33_4 hE_0_33_5 hE_0_33_6 hE_0_34_1 hE_0_34_2 hE_0_34_3 hE_0_34_4 hE_0_34_5 hE_0_34_6 hE_0_35_1 hE_0_35_2 hE_0_35_3 hE_0_35_4 hE_0_35_5 hE_0_35_6 hE_0_74_1 hE_0_74_3 hE_0_74_5 hE_0_75_2 hE_0_75_4 hE_0_75_6 hE_0_96_1 hE_0_96_2 hE_0_96_3 hE_0_96_4 hE_0_96_5 hE_0_96_6 hE_0_123_1 hE_0_123_2 hE_0_123_3 hE_0_123_4 hE_0_123_5 hE_0_123_6 kz_0_31 kz_0_32)⟩
  have nf6 : fc_1 PRD (24, [0, 0], []) ws (vs) := by
    refine ⟨nf_in hl rfl, sgq_1 ?_⟩
    · show n_v vs 0 = n_v vs 0
      first | rfl | simp only [true_and]
  refine ⟨(fun _ h => (by cases h)), [], trivial, ?_, (fun _ h => (by cases h))⟩
  rw [List.append_nil]
  exact List.forall_mem_cons.mpr ⟨⟨show (20 : Nat) < 100 from by decide, nf0⟩, List.forall_mem_cons.mpr ⟨⟨show (20 : Nat) < 100 from by decide, nf1⟩, List.forall_mem_cons.mpr ⟨⟨show (20 : Nat) < 100 from by decide, nf2⟩, List.forall_mem_cons.mpr ⟨⟨show (20 : Nat) < 100 from by decide, nf3⟩, List.forall_mem_cons.mpr ⟨⟨show (20 : Nat) < 100 from by decide, nf4⟩, List.forall_mem_cons.mpr ⟨⟨show (20 : Nat) < 100 from by decide, nf5⟩, List.forall_mem_cons.mpr ⟨⟨show (24 : Nat) < 100 from by decide, nf6⟩, (fun _ h => (by cases h))⟩⟩⟩⟩⟩⟩⟩
set_option maxHeartbeats 4000000 in
theorem vc_Mo_shift_4_0 (x2 : Int) (x3 : Int) (x4 : Int) (x7 : Int) (x9 : Int) (x10 : Int) (x11 : Int) (x12 : Int) (pt_0 : Int → Int) (ph_0 : Int → Int) (pn_0 : Int) (pm_0 : Int) (alive_0 : Int → Int) (order_0 : Int → Int) (nx_0 : Int → Int) (ny_0 : Int → Int) (under_0 : Int → Int) (pt_1 : Int → Int) (ph_1 : Int → Int) (pn_1 : Int) (pm_1 : Int) (alive_1 : Int → Int) (order_1 : Int → Int) (nx_1 : Int → Int) (ny_1 : Int → Int) (under_1 : Int → Int) (pt_2 : Int → Int) (ph_2 : Int → Int) (pn_2 : Int) (pm_2 : Int) (alive_2 : Int → Int) (order_2 : Int → Int) (nx_2 : Int → Int) (ny_2 : Int → Int) (under_2 : Int → Int) (pt_3 : Int → Int) (ph_3 : Int → Int) (pn_3 : Int) (pm_3 : Int) (alive_3 : Int → Int) (order_3 : Int → Int) (nx_3 : Int → Int) (ny_3 : Int → Int) (under_3 : Int → Int) (pn_4 : Int) (pt_4 : Int → Int) (ph_4 : Int → Int) (pm_4 : Int) (alive_4 : Int → Int) (order_4 : Int → Int) (nx_4 : Int → Int) (ny_4 : Int → Int) (under_4 : Int → Int) (upper_0 : Int) (upper_1 : Int) (upper_2 : Int) (upper_3 : Int) (upperNode_0 : Int → Int) (upperNode_1 : Int → Int) (upperNode_2 : Int → Int) (upperNode_3 : Int → Int) (upperNode_4 : Int → Int) (k2 : 0 ≤ x2 ∧ x2 ≤ 24) (k3 : 0 ≤ x3 ∧ x3 ≤ 24) (k4 : 0 ≤ x4 ∧ x4 ≤ 24) (k7 : 3 ≤ x7 ∧ x7 ≤ 3) (k9 : 0 ≤ x9 ∧ x9 ≤ 0) (k10 : 1 ≤ x10 ∧ x10 ≤ 1) (k11 : 2 ≤ x11 ∧ x11 ≤ 2) (k12 : 3 ≤ x12 ∧ x12 ≤ 3) (f45 : CNH (pn_4) (pm_4) (pt_4) (ph_4) (alive_4) (order_4)) (f46 : x2 = order_4 (0)) (f47 : x3 = order_4 (1)) (f48 : x4 = order_4 (2)) (fe_0_31_1 : pn_0 = pn_1) (fe_0_32_1 : pm_0 = pm_1) (fe_0_121_1 : upper_0 = upper_1) (fe_0_31_2 : pn_1 = pn_2) (fe_0_32_2 : pm_1 = pm_2) (fe_0_121_2 : upper_1 = upper_2) (fe_0_31_3 : pn_2 = pn_3) (fe_0_32_3 : pm_2 = pm_3) (fe_0_121_3 : upper_2 = upper_3) (fe_0_31_4 : pn_3 = pn_4) (fe_0_32_4 : pm_3 = pm_4) (fe_0_121_4 : upper_3 = x7) (hE_0_33_1 : ∀ j : Int, pt_0 j = pt_1 j) (hE_0_33_2 : ∀ j : Int, pt_1 j = pt_2 j) (hE_0_33_3 : ∀ j : Int, pt_2 j = pt_3 j) (hE_0_33_4 : ∀ j : Int, pt_3 j = pt_4 j) (hE_0_34_1 : ∀ j : Int, ph_0 j = ph_1 j) (hE_0_34_2 : ∀ j : Int, ph_1 j = ph_2 j) (hE_0_34_3 : ∀ j : Int, ph_2 j = ph_3 j) (hE_0_34_4 : ∀ j : Int, ph_3 j = ph_4 j) (hE_0_35_1 : ∀ j : Int, alive_0 j = alive_1 j) (hE_0_35_2 : ∀ j : Int, alive_1 j = alive_2 j) (hE_0_35_3 : ∀ j : Int, alive_2 j = alive_3 j) (hE_0_35_4 : ∀ j : Int, alive_3 j = alive_4 j) (hE_0_74_1 : ∀ j : Int, nx_0 j = nx_1 j) (hE_0_74_2 : ∀ j : Int, nx_1 j = nx_2 j) (hE_0_74_3 : ∀ j : Int, nx_2 j = nx_3 j) (hE_0_74_4 : ∀ j : Int, nx_3 j = nx_4 j) (hE_0_75_1 : ∀ j : Int, ny_0 j = ny_1 j) (hE_0_75_2 : ∀ j : Int, ny_1 j = ny_2 j) (hE_0_75_3 : ∀ j : Int, ny_2 j = ny_3 j) (hE_0_75_4 : ∀ j : Int, ny_3 j = ny_4 j) (hE_0_96_1 : ∀ j : Int, order_0 j = order_1 j) (hE_0_96_2 : ∀ j : Int, order_1 j = order_2 j) (hE_0_96_3 : ∀ j : Int, order_2 j = order_3 j) (hE_0_96_4 : ∀ j : Int, order_3 j = order_4 j) (hE_0_122_1 : ∀ j : Int, 0 ≤ j → (j = x11 → upperNode_0 j = x3) ∧ (j ≠ x11 → upperNode_0 j = upperNode_1 j)) (hE_0_122_2 : ∀ j : Int, 0 ≤ j → (j = x10 → upperNode_1 j = x4) ∧ (j ≠ x10 → upperNode_1 j = upperNode_2 j)) (hE_0_122_3 : ∀ j : Int, 0 ≤ j → (j = x9 → upperNode_2 j = x2) ∧ (j ≠ x9 → upperNode_2 j = upperNode_3 j)) (hE_0_122_4 : ∀ j : Int, upperNode_3 j = upperNode_4 j) (hE_0_123_1 : ∀ j : Int, under_0 j = under_1 j) (hE_0_123_2 : ∀ j : Int, under_1 j = under_2 j) (hE_0_123_3 : ∀ j : Int, under_2 j = under_3 j) (hE_0_123_4 : ∀ j : Int, under_3 j = under_4 j) (kz_0_31 : 0 ≤ pn_0 ∧ pn_0 ≤ 25) (kz_0_32 : 0 ≤ pm_0 ∧ pm_0 ≤ 80) (kz_0_121 : 0 ≤ upper_0 ∧ upper_0 ≤ 30) : SHL (pn_0) (pm_0) (upper_0) (pt_0) (ph_0) (alive_0) (upperNode_0) (order_0) (x12) := by
  subst fe_0_31_1
  subst fe_0_32_1
  subst fe_0_121_1
  subst fe_0_31_2
  subst fe_0_32_2
  subst fe_0_121_2
  subst fe_0_31_3
  subst fe_0_32_3
  subst fe_0_121_3
  subst fe_0_31_4
  subst fe_0_32_4
  have e_hE_0_33_1 := funext hE_0_33_1; subst e_hE_0_33_1
  have e_hE_0_33_2 := funext hE_0_33_2; subst e_hE_0_33_2
  have e_hE_0_33_3 := funext hE_0_33_3; subst e_hE_0_33_3
  have e_hE_0_33_4 := funext hE_0_33_4; subst e_hE_0_33_4
  have e_hE_0_34_1 := funext hE_0_34_1; subst e_hE_0_34_1
  have e_hE_0_34_2 := funext hE_0_34_2; subst e_hE_0_34_2
  have e_hE_0_34_3 := funext hE_0_34_3; subst e_hE_0_34_3
  have e_hE_0_34_4 := funext hE_0_34_4; subst e_hE_0_34_4
  have e_hE_0_35_1 := funext hE_0_35_1; subst e_hE_0_35_1
  have e_hE_0_35_2 := funext hE_0_35_2; subst e_hE_0_35_2
  have e_hE_0_35_3 := funext hE_0_35_3; subst e_hE_0_35_3
  have e_hE_0_35_4 := funext hE_0_35_4; subst e_hE_0_35_4
  have e_hE_0_74_1 := funext hE_0_74_1; subst e_hE_0_74_1
  have e_hE_0_74_2 := funext hE_0_74_2; subst e_hE_0_74_2
  have e_hE_0_74_3 := funext hE_0_74_3; subst e_hE_0_74_3
  have e_hE_0_74_4 := funext hE_0_74_4; subst e_hE_0_74_4
  have e_hE_0_75_1 := funext hE_0_75_1; subst e_hE_0_75_1
  have e_hE_0_75_2 := funext hE_0_75_2; subst e_hE_0_75_2
  have e_hE_0_75_3 := funext hE_0_75_3; subst e_hE_0_75_3
  have e_hE_0_75_4 := funext hE_0_75_4; subst e_hE_0_75_4
  have e_hE_0_96_1 := funext hE_0_96_1; subst e_hE_0_96_1
  have e_hE_0_96_2 := funext hE_0_96_2; subst e_hE_0_96_2
  have e_hE_0_96_3 := funext hE_0_96_3; subst e_hE_0_96_3
  have e_hE_0_96_4 := funext hE_0_96_4; subst e_hE_0_96_4
  have e_hE_0_122_4 := funext hE_0_122_4; subst e_hE_0_122_4
  have e_hE_0_123_1 := funext hE_0_123_1; subst e_hE_0_123_1
  have e_hE_0_123_2 := funext hE_0_123_2; subst e_hE_0_123_2
  have e_hE_0_123_3 := funext hE_0_123_3; subst e_hE_0_123_3
  have e_hE_0_123_4 := funext hE_0_123_4; subst e_hE_0_123_4
  first
    | (refine shl_start ‹CNH _ _ _ _ _ _› (by omega) (by omega) ?_ ?_ ?_
       · rw [(hE_0_122_1 0 (by omega)).2 (by omega), (hE_0_122_2 0 (by omega)).2 (by omega), (hE_0_122_3 0 (by omega)).1 (by omega)]; assumption
       · rw [(hE_0_122_1 1 (by omega)).2 (by omega), (hE_0_122_2 1 (by omega)).1 (by omega)]; assumption
       · rw [(hE_0_122_1 2 (by omega)).1 (by omega)]; assumption)
set_option maxHeartbeats 4000000 in
theorem vc_Mo_shift_4_1 (x12 : Int) (pt_0 : Int → Int) (ph_0 : Int → Int) (pn_0 : Int) (pm_0 : Int) (alive_0 : Int → Int) (order_0 : Int → Int) (nx_0 : Int → Int) (ny_0 : Int → Int) (under_0 : Int → Int) (pt_1 : Int → Int) (ph_1 : Int → Int) (pn_1 : Int) (pm_1 : Int) (alive_1 : Int → Int) (order_1 : Int → Int) (nx_1 : Int → Int) (ny_1 : Int → Int) (under_1 : Int → Int) (pt_2 : Int → Int) (ph_2 : Int → Int) (pn_2 : Int) (pm_2 : Int) (alive_2 : Int → Int) (order_2 : Int → Int) (nx_2 : Int → Int) (ny_2 : Int → Int) (under_2 : Int → Int) (pt_3 : Int → Int) (ph_3 : Int → Int) (pn_3 : Int) (pm_3 : Int) (alive_3 : Int → Int) (order_3 : Int → Int) (nx_3 : Int → Int) (ny_3 : Int → Int) (under_3 : Int → Int) (pn_4 : Int) (pt_4 : Int → Int) (ph_4 : Int → Int) (pm_4 : Int) (alive_4 : Int → Int) (order_4 : Int → Int) (nx_4 : Int → Int) (ny_4 : Int → Int) (under_4 : Int → Int) (upper_0 : Int) (upper_1 : Int) (upper_2 : Int) (upper_3 : Int) (upperNode_3 : Int → Int) (upperNode_4 : Int → Int) (k12 : 3 ≤ x12 ∧ x12 ≤ 3) (f49 : SP3 (nx_4) (ny_4) (order_4)) (fe_0_31_1 : pn_0 = pn_1) (fe_0_32_1 : pm_0 = pm_1) (fe_0_121_1 : upper_0 = upper_1) (fe_0_31_2 : pn_1 = pn_2) (fe_0_32_2 : pm_1 = pm_2) (fe_0_121_2 : upper_1 = upper_2) (fe_0_31_3 : pn_2 = pn_3) (fe_0_32_3 : pm_2 = pm_3) (fe_0_121_3 : upper_2 = upper_3) (fe_0_31_4 : pn_3 = pn_4) (fe_0_32_4 : pm_3 = pm_4) (hE_0_33_1 : ∀ j : Int, pt_0 j = pt_1 j) (hE_0_33_2 : ∀ j : Int, pt_1 j = pt_2 j) (hE_0_33_3 : ∀ j : Int, pt_2 j = pt_3 j) (hE_0_33_4 : ∀ j : Int, pt_3 j = pt_4 j) (hE_0_34_1 : ∀ j : Int, ph_0 j = ph_1 j) (hE_0_34_2 : ∀ j : Int, ph_1 j = ph_2 j) (hE_0_34_3 : ∀ j : Int, ph_2 j = ph_3 j) (hE_0_34_4 : ∀ j : Int, ph_3 j = ph_4 j) (hE_0_35_1 : ∀ j : Int, alive_0 j = alive_1 j) (hE_0_35_2 : ∀ j : Int, alive_1 j = alive_2 j) (hE_0_35_3 : ∀ j : Int, alive_2 j = alive_3 j) (hE_0_35_4 : ∀ j : Int, alive_3 j = alive_4 j) (hE_0_74_1 : ∀ j : Int, nx_0 j = nx_1 j) (hE_0_74_2 : ∀ j : Int, nx_1 j = nx_2 j) (hE_0_74_3 : ∀ j : Int, nx_2 j = nx_3 j) (hE_0_74_4 : ∀ j : Int, nx_3 j = nx_4 j) (hE_0_75_1 : ∀ j : Int, ny_0 j = ny_1 j) (hE_0_75_2 : ∀ j : Int, ny_1 j = ny_2 j) (hE_0_75_3 : ∀ j : Int, ny_2 j = ny_3 j) (hE_0_75_4 : ∀ j : Int, ny_3 j = ny_4 j) (hE_0_96_1 : ∀ j : Int, order_0 j = order_1 j) (hE_0_96_2 : ∀ j : Int, order_1 j = order_2 j) (hE_0_96_3 : ∀ j : Int, order_2 j = order_3 j) (hE_0_96_4 : ∀ j : Int, order_3 j = order_4 j) (hE_0_122_4 : ∀ j : Int, upperNode_3 j = upperNode_4 j) (hE_0_123_1 : ∀ j : Int, under_0 j = under_1 j) (hE_0_123_2 : ∀ j : Int, under_1 j = under_2 j) (hE_0_123_3 : ∀ j : Int, under_2 j = under_3 j) (hE_0_123_4 : ∀ j : Int, under_3 j = under_4 j) (kz_0_31 : 0 ≤ pn_0 ∧ pn_0 ≤ 25) (kz_0_32 : 0 ≤ pm_0 ∧ pm_0 ≤ 80) (kz_0_121 : 0 ≤ upper_0 ∧ upper_0 ≤ 30) : SPKs (nx_0) (ny_0) (order_0) (x12) := by
  subst fe_0_31_1
  subst fe_0_32_1
  subst fe_0_121_1
  subst fe_0_31_2
  subst fe_0_32_2
  subst fe_0_121_2
  subst fe_0_31_3
  subst fe_0_32_3
  subst fe_0_121_3
  subst fe_0_31_4
  subst fe_0_32_4
  have e_hE_0_33_1 := funext hE_0_33_1; subst e_hE_0_33_1
  have e_hE_0_33_2 := funext hE_0_33_2; subst e_hE_0_33_2
  have e_hE_0_33_3 := funext hE_0_33_3; subst e_hE_0_33_3
  have e_hE_0_33_4 := funext hE_0_33_4; subst e_hE_0_33_4
  have e_hE_0_34_1 := funext hE_0_34_1; subst e_hE_0_34_1
  have e_hE_0_34_2 := funext hE_0_34_2; subst e_hE_0_34_2
  have e_hE_0_34_3 := funext hE_0_34_3; subst e_hE_0_34_3
  have e_hE_0_34_4 := funext hE_0_34_4; subst e_hE_0_34_4
  have e_hE_0_35_1 := funext hE_0_35_1; subst e_hE_0_35_1
  have e_hE_0_35_2 := funext hE_0_35_2; subst e_hE_0_35_2
  have e_hE_0_35_3 := funext hE_0_35_3; subst e_hE_0_35_3
  have e_hE_0_35_4 := funext hE_0_35_4; subst e_hE_0_35_4
  have e_hE_0_74_1 := funext hE_0_74_1; subst e_hE_0_74_1
  have e_hE_0_74_2 := funext hE_0_74_2; subst e_hE_0_74_2
  have e_hE_0_74_3 := funext hE_0_74_3; subst e_hE_0_74_3
  have e_hE_0_74_4 := funext hE_0_74_4; subst e_hE_0_74_4
  have e_hE_0_75_1 := funext hE_0_75_1; subst e_hE_0_75_1
  have e_hE_0_75_2 := funext hE_0_75_2; subst e_hE_0_75_2
  have e_hE_0_75_3 := funext hE_0_75_3; subst e_hE_0_75_3
  have e_hE_0_75_4 := funext hE_0_75_4; subst e_hE_0_75_4
  have e_hE_0_96_1 := funext hE_0_96_1; subst e_hE_0_96_1
  have e_hE_0_96_2 := funext hE_0_96_2; subst e_hE_0_96_2
  have e_hE_0_96_3 := funext hE_0_96_3; subst e_hE_0_96_3
  have e_hE_0_96_4 := funext hE_0_96_4; subst e_hE_0_96_4
  have e_hE_0_122_4 := funext hE_0_122_4; subst e_hE_0_122_4
  have e_hE_0_123_1 := funext hE_0_123_1; subst e_hE_0_123_1
  have e_hE_0_123_2 := funext hE_0_123_2; subst e_hE_0_123_2
  have e_hE_0_123_3 := funext hE_0_123_3; subst e_hE_0_123_3
  have e_hE_0_123_4 := funext hE_0_123_4; subst e_hE_0_123_4
  first
    | exact spks_3 ‹SP3 _ _ _› (by omega)
set_option maxHeartbeats 4000000 in
theorem vc_Mo_shift_4_2 (x5 : Int) (x6 : Int) (x12 : Int) (pt_0 : Int → Int) (ph_0 : Int → Int) (pn_0 : Int) (pm_0 : Int) (alive_0 : Int → Int) (order_0 : Int → Int) (nx_0 : Int → Int) (ny_0 : Int → Int) (under_0 : Int → Int) (pt_1 : Int → Int) (ph_1 : Int → Int) (pn_1 : Int) (pm_1 : Int) (alive_1 : Int → Int) (order_1 : Int → Int) (nx_1 : Int → Int) (ny_1 : Int → Int) (under_1 : Int → Int) (pt_2 : Int → Int) (ph_2 : Int → Int) (pn_2 : Int) (pm_2 : Int) (alive_2 : Int → Int) (order_2 : Int → Int) (nx_2 : Int → Int) (ny_2 : Int → Int) (under_2 : Int → Int) (pt_3 : Int → Int) (ph_3 : Int → Int) (pn_3 : Int) (pm_3 : Int) (alive_3 : Int → Int) (order_3 : Int → Int) (nx_3 : Int → Int) (ny_3 : Int → Int) (under_3 : Int → Int) (pn_4 : Int) (pt_4 : Int → Int) (ph_4 : Int → Int) (pm_4 : Int) (alive_4 : Int → Int) (order_4 : Int → Int) (nx_4 : Int → Int) (ny_4 : Int → Int) (under_4 : Int → Int) (upper_0 : Int) (upper_1 : Int) (upper_2 : Int) (upper_3 : Int) (upperNode_3 : Int → Int) (upperNode_4 : Int → Int) (k5 : 0 ≤ x5 ∧ x5 ≤ 25) (k6 : 0 ≤ x6 ∧ x6 ≤ 25) (k12 : 3 ≤ x12 ∧ x12 ≤ 3) (d0 : x6 + 0 ≤ x5 ∧ x5 ≤ x6 + 4294967296) (g43 : x6 = pn_4) (f45 : CNH (pn_4) (pm_4) (pt_4) (ph_4) (alive_4) (order_4)) (f50 : UN0 (pn_4) (under_4) (x5)) (fe_0_31_1 : pn_0 = pn_1) (fe_0_32_1 : pm_0 = pm_1) (fe_0_121_1 : upper_0 = upper_1) (fe_0_31_2 : pn_1 = pn_2) (fe_0_32_2 : pm_1 = pm_2) (fe_0_121_2 : upper_1 = upper_2) (fe_0_31_3 : pn_2 = pn_3) (fe_0_32_3 : pm_2 = pm_3) (fe_0_121_3 : upper_2 = upper_3) (fe_0_31_4 : pn_3 = pn_4) (fe_0_32_4 : pm_3 = pm_4) (hE_0_33_1 : ∀ j : Int, pt_0 j = pt_1 j) (hE_0_33_2 : ∀ j : Int, pt_1 j = pt_2 j) (hE_0_33_3 : ∀ j : Int, pt_2 j = pt_3 j) (hE_0_33_4 : ∀ j : Int, pt_3 j = pt_4 j) (hE_0_34_1 : ∀ j : Int, ph_0 j = ph_1 j) (hE_0_34_2 : ∀ j : Int, ph_1 j = ph_2 j) (hE_0_34_3 : ∀ j : Int, ph_2 j = ph_3 j) (hE_0_34_4 : ∀ j : Int, ph_3 j = ph_4 j) (hE_0_35_1 : ∀ j : Int, alive_0 j = alive_1 j) (hE_0_35_2 : ∀ j : Int, alive_1 j = alive_2 j) (hE_0_35_3 : ∀ j : Int, alive_2 j = alive_3 j) (hE_0_35_4 : ∀ j : Int, alive_3 j = alive_4 j) (hE_0_74_1 : ∀ j : Int, nx_0 j = nx_1 j) (hE_0_74_2 : ∀ j : Int, nx_1 j = nx_2 j) (hE_0_74_3 : ∀ j : Int, nx_2 j = nx_3 j) (hE_0_74_4 : ∀ j : Int, nx_3 j = nx_4 j) (hE_0_75_1 : ∀ j : Int, ny_0 j = ny_1 j) (hE_0_75_2 : ∀ j : Int, ny_1 j = ny_2 j) (hE_0_75_3 : ∀ j : Int, ny_2 j = ny_3 j) (hE_0_75_4 : ∀ j : Int, ny_3 j = ny_4 j) (hE_0_96_1 : ∀ j : Int, order_0 j = order_1 j) (hE_0_96_2 : ∀ j : Int, order_1 j = order_2 j) (hE_0_96_3 : ∀ j : Int, order_2 j = order_3 j) (hE_0_96_4 : ∀ j : Int, order_3 j = order_4 j) (hE_0_122_4 : ∀ j : Int, upperNode_3 j = upperNode_4 j) (hE_0_123_1 : ∀ j : Int, under_0 j = under_1 j) (hE_0_123_2 : ∀ j : Int, under_1 j = under_2 j) (hE_0_123_3 : ∀ j : Int, under_2 j = under_3 j) (hE_0_123_4 : ∀ j : Int, under_3 j = under_4 j) (kz_0_31 : 0 ≤ pn_0 ∧ pn_0 ≤ 25) (kz_0_32 : 0 ≤ pm_0 ∧ pm_0 ≤ 80) (kz_0_121 : 0 ≤ upper_0 ∧ upper_0 ≤ 30) : UND (pn_0) (under_0) (order_0) (x12) := by
  subst fe_0_31_1
  subst fe_0_32_1
  subst fe_0_121_1
  subst fe_0_31_2
  subst fe_0_32_2
  subst fe_0_121_2
  subst fe_0_31_3
  subst fe_0_32_3
  subst fe_0_121_3
  subst fe_0_31_4
  subst fe_0_32_4
  have e_hE_0_33_1 := funext hE_0_33_1; subst e_hE_0_33_1
  have e_hE_0_33_2 := funext hE_0_33_2; subst e_hE_0_33_2
  have e_hE_0_33_3 := funext hE_0_33_3; subst e_hE_0_33_3
  have e_hE_0_33_4 := funext hE_0_33_4; subst e_hE_0_33_4
  have e_hE_0_34_1 := funext hE_0_34_1; subst e_hE_0_34_1
  have e_hE_0_34_2 := funext hE_0_34_2; subst e_hE_0_34_2
  have e_hE_0_34_3 := funext hE_0_34_3; subst e_hE_0_34_3
  have e_hE_0_34_4 := funext hE_0_34_4; subst e_hE_0_34_4
  have e_hE_0_35_1 := funext hE_0_35_1; subst e_hE_0_35_1
  have e_hE_0_35_2 := funext hE_0_35_2; subst e_hE_0_35_2
  have e_hE_0_35_3 := funext hE_0_35_3; subst e_hE_0_35_3
  have e_hE_0_35_4 := funext hE_0_35_4; subst e_hE_0_35_4
  have e_hE_0_74_1 := funext hE_0_74_1; subst e_hE_0_74_1
  have e_hE_0_74_2 := funext hE_0_74_2; subst e_hE_0_74_2
  have e_hE_0_74_3 := funext hE_0_74_3; subst e_hE_0_74_3
  have e_hE_0_74_4 := funext hE_0_74_4; subst e_hE_0_74_4
  have e_hE_0_75_1 := funext hE_0_75_1; subst e_hE_0_75_1
  have e_hE_0_75_2 := funext hE_0_75_2; subst e_hE_0_75_2
  have e_hE_0_75_3 := funext hE_0_75_3; subst e_hE_0_75_3
  have e_hE_0_75_4 := funext hE_0_75_4; subst e_hE_0_75_4
  have e_hE_0_96_1 := funext hE_0_96_1; subst e_hE_0_96_1
  have e_hE_0_96_2 := funext hE_0_96_2; subst e_hE_0_96_2
  have e_hE_0_96_3 := funext hE_0_96_3; subst e_hE_0_96_3
  have e_hE_0_96_4 := funext hE_0_96_4; subst e_hE_0_96_4
  have e_hE_0_122_4 := funext hE_0_122_4; subst e_hE_0_122_4
  have e_hE_0_123_1 := funext hE_0_123_1; subst e_hE_0_123_1
  have e_hE_0_123_2 := funext hE_0_123_2; subst e_hE_0_123_2
  have e_hE_0_123_3 := funext hE_0_123_3; subst e_hE_0_123_3
  have e_hE_0_123_4 := funext hE_0_123_4; subst e_hE_0_123_4
  first
    | exact und_0 ‹UN0 _ _ _› (by omega) (by have := ‹CNH _ _ _ _ _ _›.1; omega)
set_option maxHeartbeats 4000000 in
theorem vc_Mo_shift_4_3 (x2 : Int) (x3 : Int) (x4 : Int) (x5 : Int) (x6 : Int) (x7 : Int) (x9 : Int) (x10 : Int) (x11 : Int) (x12 : Int) (pt_0 : Int → Int) (ph_0 : Int → Int) (pn_0 : Int) (pm_0 : Int) (alive_0 : Int → Int) (order_0 : Int → Int) (nx_0 : Int → Int) (ny_0 : Int → Int) (under_0 : Int → Int) (pt_1 : Int → Int) (ph_1 : Int → Int) (pn_1 : Int) (pm_1 : Int) (alive_1 : Int → Int) (order_1 : Int → Int) (nx_1 : Int → Int) (ny_1 : Int → Int) (under_1 : Int → Int) (pt_2 : Int → Int) (ph_2 : Int → Int) (pn_2 : Int) (pm_2 : Int) (alive_2 : Int → Int) (order_2 : Int → Int) (nx_2 : Int → Int) (ny_2 : Int → Int) (under_2 : Int → Int) (pt_3 : Int → Int) (ph_3 : Int → Int) (pn_3 : Int) (pm_3 : Int) (alive_3 : Int → Int) (order_3 : Int → Int) (nx_3 : Int → Int) (ny_3 : Int → Int) (under_3 : Int → Int) (pn_4 : Int) (pt_4 : Int → Int) (ph_4 : Int → Int) (pm_4 : Int) (alive_4 : Int → Int) (order_4 : Int → Int) (nx_4 : Int → Int) (ny_4 : Int → Int) (under_4 : Int → Int) (upper_0 : Int) (upper_1 : Int) (upper_2 : Int) (upper_3 : Int) (upperNode_0 : Int → Int) (upperNode_1 : Int → Int) (upperNode_2 : Int → Int) (upperNode_3 : Int → Int) (upperNode_4 : Int → Int) (k2 : 0 ≤ x2 ∧ x2 ≤ 24) (k3 : 0 ≤ x3 ∧ x3 ≤ 24) (k4 : 0 ≤ x4 ∧ x4 ≤ 24) (k7 : 3 ≤ x7 ∧ x7 ≤ 3) (k9 : 0 ≤ x9 ∧ x9 ≤ 0) (k10 : 1 ≤ x10 ∧ x10 ≤ 1) (k11 : 2 ≤ x11 ∧ x11 ≤ 2) (k12 : 3 ≤ x12 ∧ x12 ≤ 3) (f46 : x2 = order_4 (0)) (f47 : x3 = order_4 (1)) (f48 : x4 = order_4 (2)) (fe_0_31_1 : pn_0 = pn_1) (fe_0_32_1 : pm_0 = pm_1) (fe_0_121_1 : upper_0 = upper_1) (fe_0_31_2 : pn_1 = pn_2) (fe_0_32_2 : pm_1 = pm_2) (fe_0_121_2 : upper_1 = upper_2) (fe_0_31_3 : pn_2 = pn_3) (fe_0_32_3 : pm_2 = pm_3) (fe_0_121_3 : upper_2 = upper_3) (fe_0_31_4 : pn_3 = pn_4) (fe_0_32_4 : pm_3 = pm_4) (fe_0_121_4 : upper_3 = x7) (hE_0_33_1 : ∀ j : Int, pt_0 j = pt_1 j) (hE_0_33_2 : ∀ j : Int, pt_1 j = pt_2 j) (hE_0_33_3 : ∀ j : Int, pt_2 j = pt_3 j) (hE_0_33_4 : ∀ j : Int, pt_3 j = pt_4 j) (hE_0_34_1 : ∀ j : Int, ph_0 j = ph_1 j) (hE_0_34_2 : ∀ j : Int, ph_1 j = ph_2 j) (hE_0_34_3 : ∀ j : Int, ph_2 j = ph_3 j) (hE_0_34_4 : ∀ j : Int, ph_3 j = ph_4 j) (hE_0_35_1 : ∀ j : Int, alive_0 j = alive_1 j) (hE_0_35_2 : ∀ j : Int, alive_1 j = alive_2 j) (hE_0_35_3 : ∀ j : Int, alive_2 j = alive_3 j) (hE_0_35_4 : ∀ j : Int, alive_3 j = alive_4 j) (hE_0_74_1 : ∀ j : Int, nx_0 j = nx_1 j) (hE_0_74_2 : ∀ j : Int, nx_1 j = nx_2 j) (hE_0_74_3 : ∀ j : Int, nx_2 j = nx_3 j) (hE_0_74_4 : ∀ j : Int, nx_3 j = nx_4 j) (hE_0_75_1 : ∀ j : Int, ny_0 j = ny_1 j) (hE_0_75_2 : ∀ j : Int, ny_1 j = ny_2 j) (hE_0_75_3 : ∀ j : Int, ny_2 j = ny_3 j) (hE_0_75_4 : ∀ j : Int, ny_3 j = ny_4 j) (hE_0_96_1 : ∀ j : Int, order_0 j = order_1 j) (hE_0_96_2 : ∀ j : Int, order_1 j = order_2 j) (hE_0_96_3 : ∀ j : Int, order_2 j = order_3 j) (hE_0_96_4 : ∀ j : Int, order_3 j = order_4 j) (hE_0_122_1 : ∀ j : Int, 0 ≤ j → (j = x11 → upperNode_0 j = x3) ∧ (j ≠ x11 → upperNode_0 j = upperNode_1 j)) (hE_0_122_2 : ∀ j : Int, 0 ≤ j → (j = x10 → upperNode_1 j = x4) ∧ (j ≠ x10 → upperNode_1 j = upperNode_2 j)) (hE_0_122_3 : ∀ j : Int, 0 ≤ j → (j = x9 → upperNode_2 j = x2) ∧ (j ≠ x9 → upperNode_2 j = upperNode_3 j)) (hE_0_122_4 : ∀ j : Int, upperNode_3 j = upperNode_4 j) (hE_0_123_1 : ∀ j : Int, under_0 j = under_1 j) (hE_0_123_2 : ∀ j : Int, under_1 j = under_2 j) (hE_0_123_3 : ∀ j : Int, under_2 j = under_3 j) (hE_0_123_4 : ∀ j : Int, under_3 j = under_4 j) (kz_0_31 : 0 ≤ pn_0 ∧ pn_0 ≤ 25) (kz_0_32 : 0 ≤ pm_0 ∧ pm_0 ≤ 80) (kz_0_121 : 0 ≤ upper_0 ∧ upper_0 ≤ 30) : ULU (upper_0) (upperNode_0) (order_0) (x12) := by
  subst fe_0_31_1
  subst fe_0_32_1
  subst fe_0_121_1
  subst fe_0_31_2
  subst fe_0_32_2
  subst fe_0_121_2
  subst fe_0_31_3
  subst fe_0_32_3
  subst fe_0_121_3
  subst fe_0_31_4
  subst fe_0_32_4
  have e_hE_0_33_1 := funext hE_0_33_1; subst e_hE_0_33_1
  have e_hE_0_33_2 := funext hE_0_33_2; subst e_hE_0_33_2
  have e_hE_0_33_3 := funext hE_0_33_3; subst e_hE_0_33_3
  have e_hE_0_33_4 := funext hE_0_33_4; subst e_hE_0_33_4
  have e_hE_0_34_1 := funext hE_0_34_1; subst e_hE_0_34_1
  have e_hE_0_34_2 := funext hE_0_34_2; subst e_hE_0_34_2
  have e_hE_0_34_3 := funext hE_0_34_3; subst e_hE_0_34_3
  have e_hE_0_34_4 := funext hE_0_34_4; subst e_hE_0_34_4
  have e_hE_0_35_1 := funext hE_0_35_1; subst e_hE_0_35_1
  have e_hE_0_35_2 := funext hE_0_35_2; subst e_hE_0_35_2
  have e_hE_0_35_3 := funext hE_0_35_3; subst e_hE_0_35_3
  have e_hE_0_35_4 := funext hE_0_35_4; subst e_hE_0_35_4
  have e_hE_0_74_1 := funext hE_0_74_1; subst e_hE_0_74_1
  have e_hE_0_74_2 := funext hE_0_74_2; subst e_hE_0_74_2
  have e_hE_0_74_3 := funext hE_0_74_3; subst e_hE_0_74_3
  have e_hE_0_74_4 := funext hE_0_74_4; subst e_hE_0_74_4
  have e_hE_0_75_1 := funext hE_0_75_1; subst e_hE_0_75_1
  have e_hE_0_75_2 := funext hE_0_75_2; subst e_hE_0_75_2
  have e_hE_0_75_3 := funext hE_0_75_3; subst e_hE_0_75_3
  have e_hE_0_75_4 := funext hE_0_75_4; subst e_hE_0_75_4
  have e_hE_0_96_1 := funext hE_0_96_1; subst e_hE_0_96_1
  have e_hE_0_96_2 := funext hE_0_96_2; subst e_hE_0_96_2
  have e_hE_0_96_3 := funext hE_0_96_3; subst e_hE_0_96_3
  have e_hE_0_96_4 := funext hE_0_96_4; subst e_hE_0_96_4
  have e_hE_0_122_4 := funext hE_0_122_4; subst e_hE_0_122_4
  have e_hE_0_123_1 := funext hE_0_123_1; subst e_hE_0_123_1
  have e_hE_0_123_2 := funext hE_0_123_2; subst e_hE_0_123_2
  have e_hE_0_123_3 := funext hE_0_123_3; subst e_hE_0_123_3
  have e_hE_0_123_4 := funext hE_0_123_4; subst e_hE_0_123_4
  first
    | exact ulu_3 (by omega) (by omega) hE_0_122_3 hE_0_122_2 hE_0_122_1 (by omega) (by omega) (by omega) (by assumption) (by assumption) (by assumption)
def o_Mo_shift_4 : or_T := (121, 13, [(0, (2, 0, 0, [165])), (2, (0, 0, 24, [])), (3, (0, 0, 24, [])), (4, (0, 0, 24, [])), (5, (0, 0, 25, [])), (6, (0, 0, 25, [])), (7, (0, 3, 3, [])), (8, (2, 0, 0, [253])), (9, (0, 0, 0, [])), (10, (0, 1, 1, [])), (11, (0, 2, 2, [])), (12, (0, 3, 3, []))], [(24, [0, 1], []), (100, [8, 11, 3], []), (9, [8, 1], [122]), (100, [8, 10, 4], []), (100, [8, 9, 2], []), (101, [1, 7], [121]), (9, [6, 1], [31]), (20, [1], [60, 2, 4, 286, 31, 32, 33, 34, 35, 96]), (20, [2, 1], [50, 0, 1, 1096, 1, 2, 1, 0, 3, 1, 96, 0, 0]), (20, [3, 1], [50, 0, 1, 1096, 1, 2, 1, 0, 3, 1, 96, 0, 1]), (20, [4, 1], [50, 0, 1, 1096, 1, 2, 1, 0, 3, 1, 96, 0, 2]), (20, [1], [60, 0, 3, 836, 74, 75, 96]), (20, [1, 5], [60, 1, 1, 829, 31, 123])], [], [], [(20, [1, 12], [60, 3, 5, 291, 31, 32, 121, 33, 34, 35, 122, 96]), (20, [1, 12], [60, 0, 3, 824, 74, 75, 96]), (20, [1, 12], [60, 1, 2, 827, 31, 123, 96]), (20, [1, 12], [60, 1, 2, 830, 121, 122, 96])], [], [(5, 6, 0, 4294967296)])
theorem oo_Mo_shift_4 {kA : Nat → ClassId} : or_ok PRD kA GG o_Mo_shift_4 := by
  refine or_mk fun A ta ws vs hD hth hl => ?_
  intro t0 r0 t2 k2 t3 k3 t4 k4 t5 k5 t6 k6 t7 k7 t8 r8 t9 k9 t10 k10 t11 k11 t12 k12 d0 f9 ta1 w1 le1 s1 f11 ta2 w2 le2 s2 ta3 w3 le3 s3 ta4 w4 le4 s4 f43 f45 f46 f47 f48 f49 f50
  replace f9 := shm_5 f9
  have s1 : (∀ b j, w_el ws b j = if b = v_ad (n_v vs 8) ∧ j = (v_iv (n_v vs 11)).toNat then v_iv (n_v vs 3) else w_el w1 b j) ∧ ∀ b k, w_fd ws b k = w_fd w1 b k := s1.2
  replace f11 := shm_1019 f11
  have s2 : (∀ b j, w_el w1 b j = if b = v_ad (n_v vs 8) ∧ j = (v_iv (n_v vs 10)).toNat then v_iv (n_v vs 4) else w_el w2 b j) ∧ ∀ b k, w_fd w1 b k = w_fd w2 b k := s2.2
  have s3 : (∀ b j, w_el w2 b j = if b = v_ad (n_v vs 8) ∧ j = (v_iv (n_v vs 9)).toNat then v_iv (n_v vs 2) else w_el w3 b j) ∧ ∀ b k, w_fd w2 b k = w_fd w3 b k := s3.2
  have s4 : (∀ b j, w_el w3 b j = w_el w4 b j) ∧ ∀ b j, w_fd w3 b j = if b = v_ad (n_v vs 1) ∧ j = 121 then n_v vs 7 else w_fd w4 b j := s4.2
  replace f43 := shm_577 f43
  replace f45 := shm_1249 f45
  replace f46 := shm_1252 f46
  replace f47 := shm_1253 f47
  replace f48 := shm_1254 f48
  replace f49 := shm_1255 f49
  replace f50 := shm_1256 f50
  have q1 : n_v vs 1 = n_v vs 0 := f9.symm
  simp only [q1] at f11
  rw [q1] at s4
  simp only [q1] at f43 f45 f46 f47 f48 f49 f50
  have ar_0_33_1 : w_ar w1 (n_v vs 0) 33 = w_ar ws (n_v vs 0) 33 := congrArg v_ad (s1.2 _ _).symm
  have ar_0_33_2 : w_ar w2 (n_v vs 0) 33 = w_ar ws (n_v vs 0) 33 := by rw [← ar_0_33_1]; show v_ad (w_fd w2 _ _) = v_ad (w_fd w1 _ _); rw [s2.2]
  have ar_0_33_3 : w_ar w3 (n_v vs 0) 33 = w_ar ws (n_v vs 0) 33 := by rw [← ar_0_33_2]; show v_ad (w_fd w3 _ _) = v_ad (w_fd w2 _ _); rw [s3.2]
  have ar_0_33_4 : w_ar w4 (n_v vs 0) 33 = w_ar ws (n_v vs 0) 33 := by rw [← ar_0_33_3]; show v_ad (w_fd w4 _ _) = v_ad (w_fd w3 _ _); rw [s4.2, if_neg (fun e => absurd e.2 (by decide))]
  have cr_0_33 := fdq_117 hD hth r0
  have ar_0_34_1 : w_ar w1 (n_v vs 0) 34 = w_ar ws (n_v vs 0) 34 := congrArg v_ad (s1.2 _ _).symm
  have ar_0_34_2 : w_ar w2 (n_v vs 0) 34 = w_ar ws (n_v vs 0) 34 := by rw [← ar_0_34_1]; show v_ad (w_fd w2 _ _) = v_ad (w_fd w1 _ _); rw [s2.2]
  have ar_0_34_3 : w_ar w3 (n_v vs 0) 34 = w_ar ws (n_v vs 0) 34 := by rw [← ar_0_34_2]; show v_ad (w_fd w3 _ _) = v_ad (w_fd w2 _ _); rw [s3.2]
  have ar_0_34_4 : w_ar w4 (n_v vs 0) 34 = w_ar ws (n_v vs 0) 34 := by rw [← ar_0_34_3]; show v_ad (w_fd w4 _ _) = v_ad (w_fd w3 _ _); rw [s4.2, if_neg (fun e => absurd e.2 (by decide))]
  have cr_0_34 := fdq_118 hD hth r0
  have ar_0_35_1 : w_ar w1 (n_v vs 0) 35 = w_ar ws (n_v vs 0) 35 := congrArg v_ad (s1.2 _ _).symm
  have ar_0_35_2 : w_ar w2 (n_v vs 0) 35 = w_ar ws (n_v vs 0) 35 := by rw [← ar_0_35_1]; show v_ad (w_fd w2 _ _) = v_ad (w_fd w1 _ _); rw [s2.2]
  have ar_0_35_3 : w_ar w3 (n_v vs 0) 35 = w_ar ws (n_v vs 0) 35 := by rw [← ar_0_35_2]; show v_ad (w_fd w3 _ _) = v_ad (w_fd w2 _ _); rw [s3.2]
  have ar_0_35_4 : w_ar w4 (n_v vs 0) 35 = w_ar ws (n_v vs 0) 35 := by rw [← ar_0_35_3]; show v_ad (w_fd w4 _ _) = v_ad (w_fd w3 _ _); rw [s4.2, if_neg (fun e => absurd e.2 (by decide))]
  have cr_0_35 := fdq_132 hD hth r0
  have ar_0_74_1 : w_ar w1 (n_v vs 0) 74 = w_ar ws (n_v vs 0) 74 := congrArg v_ad (s1.2 _ _).symm
  have ar_0_74_2 : w_ar w2 (n_v vs 0) 74 = w_ar ws (n_v vs 0) 74 := by rw [← ar_0_74_1]; show v_ad (w_fd w2 _ _) = v_ad (w_fd w1 _ _); rw [s2.2]
  have ar_0_74_3 : w_ar w3 (n_v vs 0) 74 = w_ar ws (n_v vs 0) 74 := by rw [← ar_0_74_2]; show v_ad (w_fd w3 _ _) = v_ad (w_fd w2 _ _); rw [s3.2]
  have ar_0_74_4 : w_ar w4 (n_v vs 0) 74 = w_ar ws (n_v vs 0) 74 := by rw [← ar_0_74_3]; show v_ad (w_fd w4 _ _) = v_ad (w_fd w3 _ _); rw [s4.2, if_neg (fun e => absurd e.2 (by decide))]
  have cr_0_74 := fdq_164 hD hth r0
  have ar_0_75_1 : w_ar w1 (n_v vs 0) 75 = w_ar ws (n_v vs 0) 75 := congrArg v_ad (s1.2 _ _).symm
  have ar_0_75_2 : w_ar w2 (n_v vs 0) 75 = w_ar ws (n_v vs 0) 75 := by rw [← ar_0_75_1]; show v_ad (w_fd w2 _ _) = v_ad (w_fd w1 _ _); rw [s2.2]
  have ar_0_75_3 : w_ar w3 (n_v vs 0) 75 = w_ar ws (n_v vs 0) 75 := by rw [← ar_0_75_2]; show v_ad (w_fd w3 _ _) = v_ad (w_fd w2 _ _); rw [s3.2]
  have ar_0_75_4 : w_ar w4 (n_v vs 0) 75 = w_ar ws (n_v vs 0) 75 := by rw [← ar_0_75_3]; show v_ad (w_fd w4 _ _) = v_ad (w_fd w3 _ _); rw [s4.2, if_neg (fun e => absurd e.2 (by decide))]
  have cr_0_75 := fdq_165 hD hth r0
  have ar_0_96_1 : w_ar w1 (n_v vs 0) 96 = w_ar ws (n_v vs 0) 96 := congrArg v_ad (s1.2 _ _).symm
  have ar_0_96_2 : w_ar w2 (n_v vs 0) 96 = w_ar ws (n_v vs 0) 96 := by rw [← ar_0_96_1]; show v_ad (w_fd w2 _ _) = v_ad (w_fd w1 _ _); rw [s2.2]
  have ar_0_96_3 : w_ar w3 (n_v vs 0) 96 = w_ar ws (n_v vs 0) 96 := by rw [← ar_0_96_2]; show v_ad (w_fd w3 _ _) = v_ad (w_fd w2 _ _); rw [s3.2]
  have ar_0_96_4 : w_ar w4 (n_v vs 0) 96 = w_ar ws (n_v vs 0) 96 := by rw [← ar_0_96_3]; show v_ad (w_fd w4 _ _) = v_ad (w_fd w3 _ _); rw [s4.2, if_neg (fun e => absurd e.2 (by decide))]
  have cr_0_96 := fdq_166 hD hth r0
  have ar_0_122_1 : w_ar w1 (n_v vs 0) 122 = w_ar ws (n_v vs 0) 122 := congrArg v_ad (s1.2 _ _).symm
  have ar_0_123_1 : w_ar w1 (n_v vs 0) 123 = w_ar ws (n_v vs 0) 123 := congrArg v_ad (s1.2 _ _).symm
  have ar_0_123_2 : w_ar w2 (n_v vs 0) 123 = w_ar ws (n_v vs 0) 123 := by rw [← ar_0_123_1]; show v_ad (w_fd w2 _ _) = v_ad (w_fd w1 _ _); rw [s2.2]
  have ar_0_123_3 : w_ar w3 (n_v vs 0) 123 = w_ar ws (n_v vs 0) 123 := by rw [← ar_0_123_2]; show v_ad (w_fd w3 _ _) = v_ad (w_fd w2 _ _); rw [s3.2]
  have ar_0_123_4 : w_ar w4 (n_v vs 0) 123 = w_ar ws (n_v vs 0) 123 := by rw [← ar_0_123_3]; show v_ad (w_fd w4 _ _) = v_ad (w_fd w3 _ _); rw [s4.2, if_neg (fun e => absurd e.2 (by decide))]
  have cr_0_123 := fdq_281 hD hth r0
  have ad_8 : v_ad (n_v vs 8) = w_ar ws (n_v vs 0) 122 := (congrArg v_ad f11).trans ar_0_122_1
  have g43 : v_iv (n_v vs 6) = w_fi w4 (n_v vs 0) 31 := congrArg v_iv f43
  simp only [ar_0_33_4, ar_0_34_4, ar_0_35_4, ar_0_96_4, ar_0_74_4, ar_0_75_4, ar_0_123_4] at f45 f46 f47 f48 f49 f50
  have fe_0_31_1 : w_fi ws (n_v vs 0) 31 = w_fi w1 (n_v vs 0) 31 := congrArg v_iv (s1.2 _ _)
  have fe_0_32_1 : w_fi ws (n_v vs 0) 32 = w_fi w1 (n_v vs 0) 32 := congrArg v_iv (s1.2 _ _)
  have fe_0_121_1 : w_fi ws (n_v vs 0) 121 = w_fi w1 (n_v vs 0) 121 := congrArg v_iv (s1.2 _ _)
  have fe_0_31_2 : w_fi w1 (n_v vs 0) 31 = w_fi w2 (n_v vs 0) 31 := congrArg v_iv (s2.2 _ _)
  have fe_0_32_2 : w_fi w1 (n_v vs 0) 32 = w_fi w2 (n_v vs 0) 32 := congrArg v_iv (s2.2 _ _)
  have fe_0_121_2 : w_fi w1 (n_v vs 0) 121 = w_fi w2 (n_v vs 0) 121 := congrArg v_iv (s2.2 _ _)
  have fe_0_31_3 : w_fi w2 (n_v vs 0) 31 = w_fi w3 (n_v vs 0) 31 := congrArg v_iv (s3.2 _ _)
  have fe_0_32_3 : w_fi w2 (n_v vs 0) 32 = w_fi w3 (n_v vs 0) 32 := congrArg v_iv (s3.2 _ _)
  have fe_0_121_3 : w_fi w2 (n_v vs 0) 121 = w_fi w3 (n_v vs 0) 121 := congrArg v_iv (s3.2 _ _)
  have fe_0_31_4 : w_fi w3 (n_v vs 0) 31 = w_fi w4 (n_v vs 0) 31 := by show v_iv (w_fd _ _ _) = v_iv (w_fd _ _ _); rw [s4.2, if_neg (fun e => absurd e.2 (by decide))]
  have fe_0_32_4 : w_fi w3 (n_v vs 0) 32 = w_fi w4 (n_v vs 0) 32 := by show v_iv (w_fd _ _ _) = v_iv (w_fd _ _ _); rw [s4.2, if_neg (fun e => absurd e.2 (by decide))]
  have fe_0_121_4 : w_fi w3 (n_v vs 0) 121 = v_iv (n_v vs 7) := by show v_iv (w_fd _ _ _) = _; rw [s4.2, if_pos ⟨rfl, rfl⟩]
  have hE_0_33_1 : ∀ j : Int, w_ei ws (w_ar ws (n_v vs 0) 33) j = w_ei w1 (w_ar ws (n_v vs 0) 33) j := el_kp s1.1 r8 cr_0_33 (by decide)
  have hE_0_33_2 : ∀ j : Int, w_ei w1 (w_ar ws (n_v vs 0) 33) j = w_ei w2 (w_ar ws (n_v vs 0) 33) j := el_kp s2.1 r8 cr_0_33 (by decide)
  have hE_0_33_3 : ∀ j : Int, w_ei w2 (w_ar ws (n_v vs 0) 33) j = w_ei w3 (w_ar ws (n_v vs 0) 33) j := el_kp s3.1 r8 cr_0_33 (by decide)
  have hE_0_33_4 : ∀ j : Int, w_ei w3 (w_ar ws (n_v vs 0) 33) j = w_ei w4 (w_ar ws (n_v vs 0) 33) j := fun j => s4.1 _ _
  have hE_0_34_1 : ∀ j : Int, w_ei ws (w_ar ws (n_v vs 0) 34) j = w_ei w1 (w_ar ws (n_v vs 0) 34) j := el_kp s1.1 r8 cr_0_34 (by decide)
  have hE_0_34_2 : ∀ j : Int, w_ei w1 (w_ar ws (n_v vs 0) 34) j = w_ei w2 (w_ar ws (n_v vs 0) 34) j := el_kp s2.1 r8 cr_0_34 (by decide)
  have hE_0_34_3 : ∀ j : Int, w_ei w2 (w_ar ws (n_v vs 0) 34) j = w_ei w3 (w_ar ws (n_v vs 0) 34) j := el_kp s3.1 r8 cr_0_34 (by decide)
  have hE_0_34_4 : ∀ j : Int, w_ei w3 (w_ar ws (n_v vs 0) 34) j = w_ei w4 (w_ar ws (n_v vs 0) 34) j := fun j => s4.1 _ _
  have hE_0_35_1 : ∀ j : Int, w_ei ws (w_ar ws (n_v vs 0) 35) j = w_ei w1 (w_ar ws (n_v vs 0) 35) j := el_kp s1.1 r8 cr_0_35 (by decide)
  have hE_0_35_2 : ∀ j : Int, w_ei w1 (w_ar ws (n_v vs 0) 35) j = w_ei w2 (w_ar ws (n_v vs 0) 35) j := el_kp s2.1 r8 cr_0_35 (by decide)
  have hE_0_35_3 : ∀ j : Int, w_ei w2 (w_ar ws (n_v vs 0) 35) j = w_ei w3 (w_ar ws (n_v vs 0) 35) j := el_kp s3.1 r8 cr_0_35 (by decide)
  have hE_0_35_4 : ∀ j : Int, w_ei w3 (w_ar ws (n_v vs 0) 35) j = w_ei w4 (w_ar ws (n_v vs 0) 35) j := fun j => s4.1 _ _
  have hE_0_74_1 : ∀ j : Int, w_ei ws (w_ar ws (n_v vs 0) 74) j = w_ei w1 (w_ar ws (n_v vs 0) 74) j := el_kp s1.1 r8 cr_0_74 (by decide)
  have hE_0_74_2 : ∀ j : Int, w_ei w1 (w_ar ws (n_v vs 0) 74) j = w_ei w2 (w_ar ws (n_v vs 0) 74) j := el_kp s2.1 r8 cr_0_74 (by decide)
  have hE_0_74_3 : ∀ j : Int, w_ei w2 (w_ar ws (n_v vs 0) 74) j = w_ei w3 (w_ar ws (n_v vs 0) 74) j := el_kp s3.1 r8 cr_0_74 (by decide)
  have hE_0_74_4 : ∀ j : Int, w_ei w3 (w_ar ws (n_v vs 0) 74) j = w_ei w4 (w_ar ws (n_v vs 0) 74) j := fun j => s4.1 _ _
  have hE_0_75_1 : ∀ j : Int, w_ei ws (w_ar ws (n_v vs 0) 75) j = w_ei w1 (w_ar ws (n_v vs 0) 75) j := el_kp s1.1 r8 cr_0_75 (by decide)
  have hE_0_75_2 : ∀ j : Int, w_ei w1 (w_ar ws (n_v vs 0) 75) j = w_ei w2 (w_ar ws (n_v vs 0) 75) j := el_kp s2.1 r8 cr_0_75 (by decide)
  have hE_0_75_3 : ∀ j : Int, w_ei w2 (w_ar ws (n_v vs 0) 75) j = w_ei w3 (w_ar ws (n_v vs 0) 75) j := el_kp s3.1 r8 cr_0_75 (by decide)
  have hE_0_75_4 : ∀ j : Int, w_ei w3 (w_ar ws (n_v vs 0) 75) j = w_ei w4 (w_ar ws (n_v vs 0) 75) j := fun j => s4.1 _ _
  have hE_0_96_1 : ∀ j : Int, w_ei ws (w_ar ws (n_v vs 0) 96) j = w_ei w1 (w_ar ws (n_v vs 0) 96) j := el_kp s1.1 r8 cr_0_96 (by decide)
  have hE_0_96_2 : ∀ j : Int, w_ei w1 (w_ar ws (n_v vs 0) 96) j = w_ei w2 (w_ar ws (n_v vs 0) 96) j := el_kp s2.1 r8 cr_0_96 (by decide)
  have hE_0_96_3 : ∀ j : Int, w_ei w2 (w_ar ws (n_v vs 0) 96) j = w_ei w3 (w_ar ws (n_v vs 0) 96) j := el_kp s3.1 r8 cr_0_96 (by decide)
  have hE_0_96_4 : ∀ j : Int, w_ei w3 (w_ar ws (n_v vs 0) 96) j = w_ei w4 (w_ar ws (n_v vs 0) 96) j := fun j => s4.1 _ _
  have hE_0_122_1 : ∀ j : Int, 0 ≤ j → (j = v_iv (n_v vs 11) → w_ei ws (w_ar ws (n_v vs 0) 122) j = v_iv (n_v vs 3)) ∧ (j ≠ v_iv (n_v vs 11) → w_ei ws (w_ar ws (n_v vs 0) 122) j = w_ei w1 (w_ar ws (n_v vs 0) 122) j) := fun j hj => ⟨fun h => by unfold w_ei; rw [s1.1, if_pos ⟨ad_8.symm, by rw [h]⟩], fun h => by unfold w_ei; rw [s1.1, if_neg (fun e => h (by have := e.2; omega))]⟩
  have hE_0_122_2 : ∀ j : Int, 0 ≤ j → (j = v_iv (n_v vs 10) → w_ei w1 (w_ar ws (n_v vs 0) 122) j = v_iv (n_v vs 4)) ∧ (j ≠ v_iv (n_v vs 10) → w_ei w1 (w_ar ws (n_v vs 0) 122) j = w_ei w2 (w_ar ws (n_v vs 0) 122) j) := fun j hj => ⟨fun h => by unfold w_ei; rw [s2.1, if_pos ⟨ad_8.symm, by rw [h]⟩], fun h => by unfold w_ei; rw [s2.1, if_neg (fun e => h (by have := e.2; omega))]⟩
  have hE_0_122_3 : ∀ j : Int, 0 ≤ j → (j = v_iv (n_v vs 9) → w_ei w2 (w_ar ws (n_v vs 0) 122) j = v_iv (n_v vs 2)) ∧ (j ≠ v_iv (n_v vs 9) → w_ei w2 (w_ar ws (n_v vs 0) 122) j = w_ei w3 (w_ar ws (n_v vs 0) 122) j) := fun j hj => ⟨fun h => by unfold w_ei; rw [s3.1, if_pos ⟨ad_8.symm, by rw [h]⟩], fun h => by unfold w_ei; rw [s3.1, if_neg (fun e => h (by have := e.2; omega))]⟩
  have hE_0_122_4 : ∀ j : Int, w_ei w3 (w_ar ws (n_v vs 0) 122) j = w_ei w4 (w_ar ws (n_v vs 0) 122) j := fun j => s4.1 _ _
  have hE_0_123_1 : ∀ j : Int, w_ei ws (w_ar ws (n_v vs 0) 123) j = w_ei w1 (w_ar ws (n_v vs 0) 123) j := el_kp s1.1 r8 cr_0_123 (by decide)
  have hE_0_123_2 : ∀ j : Int, w_ei w1 (w_ar ws (n_v vs 0) 123) j = w_ei w2 (w_ar ws (n_v vs 0) 123) j := el_kp s2.1 r8 cr_0_123 (by decide)
  have hE_0_123_3 : ∀ j : Int, w_ei w2 (w_ar ws (n_v vs 0) 123) j = w_ei w3 (w_ar ws (n_v vs 0) 123) j := el_kp s3.1 r8 cr_0_123 (by decide)
  have hE_0_123_4 : ∀ j : Int, w_ei w3 (w_ar ws (n_v vs 0) 123) j = w_ei w4 (w_ar ws (n_v vs 0) 123) j := fun j => s4.1 _ _
  have kz_0_31 := fdq_145 hD hth r0
  have kz_0_32 := fdq_140 hD hth r0
  have kz_0_121 := fdq_242 hD hth r0
  have nf0 : fc_1 PRD (20, [1, 12], [60, 3, 5, 291, 31, 32, 121, 33, 34, 35, 122, 96]) ws (vs) := by
    refine ⟨nf_in hl rfl, sgq_1257 ?_⟩
    · show SHL (w_fi ws (n_v vs 1) 31) (w_fi ws (n_v vs 1) 32) (w_fi ws (n_v vs 1) 121) (w_ei ws (w_ar ws (n_v vs 1) 33)) (w_ei ws (w_ar ws (n_v vs 1) 34)) (w_ei ws (w_ar ws (n_v vs 1) 35)) (w_ei ws (w_ar ws (n_v vs 1) 122)) (w_ei ws (w_ar ws (n_v vs 1) 96)) (v_iv (n_v vs 12))
      rw [q1]
      exact vc_Mo_shift_4_0 (v_iv (n_v vs 2)) (v_iv (n_v vs 3)) (v_iv (n_v vs 4)) (v_iv (n_v vs 7)) (v_iv (n_v vs 9)) (v_iv (n_v vs 10)) (v_iv (n_v vs 11)) (v_iv (n_v vs 12)) (w_ei ws (w_ar ws (n_v vs 0) 33)) (w_ei ws (w_ar ws (n_v vs 0) 34)) (w_fi ws (n_v vs 0) 31) (w_fi ws (n_v vs 0) 32) (w_ei ws (w_ar ws (n_v vs 0) 35)) (w_ei ws (w_ar ws (n_v vs 0) 96)) (w_ei ws (w_ar ws (n_v vs 0) 74)) (w_ei ws (w_ar ws (n_v vs 0) 75)) (w_ei ws (w_ar ws (n_v vs 0) 123)) (w_ei w1 (w_ar ws (n_v vs 0) 33)) (w_ei w1 (w_ar ws (n_v vs 0) 34)) (w_fi w1 (n_v vs 0) 31) (w_fi w1 (n_v vs 0) 32) (w_ei w1 (w_ar ws (n_v vs 0) 35)) (w_ei w1 (w_ar ws (n_v vs 0) 96)) (w_ei w1 (w_ar ws (n_v vs 0) 74)) (w_ei w1 (w_ar ws (n_v vs 0) 75)) (w_ei w1 (w_ar ws (n_v vs 0) 123)) (w_ei w2 (w_ar ws (n_v vs 0) 33)) (w_ei w2 (w_ar ws (n_v vs 0) 34)) (w_fi w2 (n_v vs 0) 31) (w_fi w2 (n_v vs 0) 32) (w_ei w2 (w_ar ws (n_v vs 0) 35)) (w_ei w2 (w_ar ws (n_v vs 0) 96)) (w_ei w2 (w_ar ws (n_v vs 0) 74)) (w_ei w2 (w_ar ws (n_v vs 0) 75)) (w_ei w2 (w_ar ws (n_v vs 0) 123)) (w_ei w3 (w_ar ws (n_v vs 0) 33)) (w_ei w3 (w_ar ws (n_v vs 0) 34)) (w_fi w3 (n_v vs 0) 31) (w_fi w3 (n_v vs 0) 32) (w_ei w3 (w_ar ws (n_v vs 0) 35)) (w_ei w3 (w_ar ws (n_v vs 0) 96)) (w_ei w3 (w_ar ws (n_v vs 0) 74)) (w_ei w3 (w_ar ws (n_v vs 0) 75)) (w_ei w3 (w_ar ws (n_v vs 0) 123)) (w_fi w4 (n_v vs 0) 31) (w_ei w4 (w_ar ws (n_v vs 0) 33)) (w_ei w4 (w_ar ws (n_v vs 0) 34)) (w_fi w4 (n_v vs 0) 32) (w_ei w4 (w_ar ws (n_v vs 0) 35)) (w_ei w4 (w_ar ws (n_v vs 0) 96)) (w_ei w4 (w_ar ws (n_v vs 0) 74)) (w_ei w4 (w_ar ws (n_v vs 0) 75)) (w_ei w4 (w_ar ws (n_v vs 0) 123)) (w_fi ws (n_v vs 0) 121) (w_fi w1 (n_v vs 0) 121) (w_fi w2 (n_v vs 0) 121) (w_fi w3 (n_v vs 0) 121) (w_ei ws (w_ar ws (n_v vs 0) 122)) (w_ei w1 (w_ar ws (n_v vs 0) 122)) (w_ei w2 (w_ar ws (n_v vs 0) 122)) (w_ei w3 (w_ar ws (n_v vs 0) 122)) (w_ei w4 (w_ar ws (n_v vs 0) 122)) k2 k3 k4 k7 k9 k10 k11 k12 f45 f46 f47 f48 fe_0_31_1 fe_0_32_1 fe_0_121_1 fe_0_31_2 fe_0_32_2 fe_0_121_2 fe_0_31_3 fe_0_32_3 fe_0_121_3 fe_0_31_4 fe_0_32_4 fe_0_121_4 hE_0_33_1 hE_0_33_2 hE_0_33_3 hE_0_33_4 hE_0_34_1 hE_0_34_2 hE_0_34_3 hE_0_34_4 hE_0_35_1 hE_0_35_2 hE_0_35_3 hE_0_35_4 hE_0_74_1 hE_0_74_2 hE_0_74_3 hE_0_74_4 hE_0_75_1 hE_0_75_2 hE_0_75_3 hE_0_75_4 hE_0_96_1 hE_0_96_2 hE_0_96_3 hE_0_96_4 hE_0_122_1 hE_0_122_2 hE_0_122_3 hE_0_122_4 hE_0_123_1 hE_0_123_2 hE_0_123_3 hE_0_123_4 kz_0_31 kz_0_32 kz_0_121
  have nf1 : fc_1 PRD (20, [1, 12], [60, 0, 3, 824, 74, 75, 96]) ws (vs) := by
    refine ⟨nf_in hl rfl, sgq_1258 ?_⟩
    · show SPKs (w_ei ws (w_ar ws (n_v vs 1) 74)) (w_ei ws (w_ar ws (n_v vs 1) 75)) (w_ei ws (w_ar ws (n_v vs 1) 96)) (v_iv (n_v vs 12))
      rw [q1]
      exact vc_Mo_shift_4_1 (v_iv (n_v vs 12)) (w_ei ws (w_ar ws (n_v vs 0) 33)) (w_ei ws (w_ar ws (n_v vs 0) 34)) (w_fi ws (n_v vs 0) 31) (w_fi ws (n_v vs 0) 32) (w_ei ws (w_ar ws (n_v vs 0) 35)) (w_ei ws (w_ar ws (n_v vs 0) 96)) (w_ei ws (w_ar ws (n_v vs 0) 74)) (w_ei ws (w_ar ws (n_v vs 0) 75)) (w_ei ws (w_ar ws (n_v vs 0) 123)) (w_ei w1 (w_ar ws (n_v vs 0) 33)) (w_ei w1 (w_ar ws (n_v vs 0) 34)) (w_fi w1 (n_v vs 0) 31) (w_fi w1 (n_v vs 0) 32) (w_ei w1 (w_ar ws (n_v vs 0) 35)) (w_ei w1 (w_ar ws (n_v vs 0) 96)) (w_ei w1 (w_ar ws (n_v vs 0) 74)) (w_ei w1 (w_ar ws (n_v vs 0) 75)) (w_ei w1 (w_ar ws (n_v vs 0) 123)) (w_ei w2 (w_ar ws (n_v vs 0) 33)) (w_ei w2 (w_ar ws (n_v vs 0) 34)) (w_fi w2 (n_v vs 0) 31) (w_fi w2 (n_v vs 0) 32) (w_ei w2 (w_ar ws (n_v vs 0) 35)) (w_ei w2 (w_ar ws (n_v vs 0) 96)) (w_ei w2 (w_ar ws (n_v vs 0) 74)) (w_ei w2 (w_ar ws (n_v vs 0) 75)) (w_ei w2 (w_ar ws (n_v vs 0) 123)) (w_ei w3 (w_ar ws (n_v vs 0) 33)) (w_ei w3 (w_ar ws (n_v vs 0) 34)) (w_fi w3 (n_v vs 0) 31) (w_fi w3 (n_v vs 0) 32) (w_ei w3 (w_ar ws (n_v vs 0) 35)) (w_ei w3 (w_ar ws (n_v vs 0) 96)) (w_ei w3 (w_ar ws (n_v vs 0) 74)) (w_ei w3 (w_ar ws (n_v vs 0) 75)) (w_ei w3 (w_ar ws (n_v vs 0) 123)) (w_fi w4 (n_v vs 0) 31) (w_ei w4 (w_ar ws (n_v vs 0) 33)) (w_ei w4 (w_ar ws (n_v vs 0) 34)) (w_fi w4 (n_v vs 0) 32) (w_ei w4 (w_ar ws (n_v vs 0) 35)) (w_ei w4 (w_ar ws (n_v vs 0) 96)) (w_ei w4 (w_ar ws (n_v vs 0) 74)) (w_ei w4 (w_ar ws (n_v vs 0) 75)) (w_ei w4 (w_ar ws (n_v vs 0) 123)) (w_fi ws (n_v vs 0) 121) (w_fi w1 (n_v vs 0) 121) (w_fi w2 (n_v vs 0) 121) (w_fi w3 (n_v vs 0) 121) (w_ei w3 (w_ar ws (n_v vs 0) 122)) (w_ei w4 (w_ar ws (n_v vs 0) 122)) k12 f49 fe_0_31_1 fe_0_32_1 fe_0_121_1 fe_0_31_2 fe_0_32_2 fe_0_121_2 fe_0_31_3 fe_0_32_3 fe_0_121_3 fe_0_31_4 fe_0_32_4 hE_0_33_1 hE_0_33_2 hE_0_33_3 hE_0_33_4 hE_0_34_1 hE_0_34_2 hE_0_34_3 hE_0_34_4 hE_0_35_1 hE_0_35_2 hE_0_35_3 hE_0_35_4 hE_0_74_1 hE_0_74_2 hE_0_74_3 hE_0_74_4 hE_0_75_1 hE_0_75_2 hE_0_75_3 hE_0_75_4 hE_0_96_1 hE_0_96_2 hE_0_96_3 hE_0_96_4 hE_0_122_4 hE_0_123_1 hE_0_123_2 hE_0_123_3 hE_0_123_4 kz_0_31 kz_0_32 kz_0_121
  have nf2 : fc_1 PRD (20, [1, 12], [60, 1, 2, 827, 31, 123, 96]) ws (vs) := by
    refine ⟨nf_in hl rfl, sgq_1259 ?_⟩
    · show UND (w_fi ws (n_v vs 1) 31) (w_ei ws (w_ar ws (n_v vs 1) 123)) (w_ei ws (w_ar ws (n_v vs 1) 96)) (v_iv (n_v vs 12))
      rw [q1]
      exact vc_Mo_shift_4_2 (v_iv (n_v vs 5)) (v_iv (n_v vs 6)) (v_iv (n_v vs 12)) (w_ei ws (w_ar ws (n_v vs 0) 33)) (w_ei ws (w_ar ws (n_v vs 0) 34)) (w_fi ws (n_v vs 0) 31) (w_fi ws (n_v vs 0) 32) (w_ei ws (w_ar ws (n_v vs 0) 35)) (w_ei ws (w_ar ws (n_v vs 0) 96)) (w_ei ws (w_ar ws (n_v vs 0) 74)) (w_ei ws (w_ar ws (n_v vs 0) 75)) (w_ei ws (w_ar ws (n_v vs 0) 123)) (w_ei w1 (w_ar ws (n_v vs 0) 33)) (w_ei w1 (w_ar ws (n_v vs 0) 34)) (w_fi w1 (n_v vs 0) 31) (w_fi w1 (n_v vs 0) 32) (w_ei w1 (w_ar ws (n_v vs 0) 35)) (w_ei w1 (w_ar ws (n_v vs 0) 96)) (w_ei w1 (w_ar ws (n_v vs 0) 74)) (w_ei w1 (w_ar ws (n_v vs 0) 75)) (w_ei w1 (w_ar ws (n_v vs 0) 123)) (w_ei w2 (w_ar ws (n_v vs 0) 33)) (w_ei w2 (w_ar ws (n_v vs 0) 34)) (w_fi w2 (n_v vs 0) 31) (w_fi w2 (n_v vs 0) 32) (w_ei w2 (w_ar ws (n_v vs 0) 35)) (w_ei w2 (w_ar ws (n_v vs 0) 96)) (w_ei w2 (w_ar ws (n_v vs 0) 74)) (w_ei w2 (w_ar ws (n_v vs 0) 75)) (w_ei w2 (w_ar ws (n_v vs 0) 123)) (w_ei w3 (w_ar ws (n_v vs 0) 33)) (w_ei w3 (w_ar ws (n_v vs 0) 34)) (w_fi w3 (n_v vs 0) 31) (w_fi w3 (n_v vs 0) 32) (w_ei w3 (w_ar ws (n_v vs 0) 35)) (w_ei w3 (w_ar ws (n_v vs 0) 96)) (w_ei w3 (w_ar ws (n_v vs 0) 74)) (w_ei w3 (w_ar ws (n_v vs 0) 75)) (w_ei w3 (w_ar ws (n_v vs 0) 123)) (w_fi w4 (n_v vs 0) 31) (w_ei w4 (w_ar ws (n_v vs 0) 33)) (w_ei w4 (w_ar ws (n_v vs 0) 34)) (w_fi w4 (n_v vs 0) 32) (w_ei w4 (w_ar ws (n_v vs 0) 35)) (w_ei w4 (w_ar ws (n_v vs 0) 96)) (w_ei w4 (w_ar ws (n_v vs 0) 74)) (w_ei w4 (w_ar ws (n_v vs 0) 75)) (w_ei w4 (w_ar ws (n_v vs 0) 123)) (w_fi ws (n_v vs 0) 121) (w_fi w1 (n_v vs 0) 121) (w_fi w2 (n_v vs 0) 121) (w_fi w3 (n_v vs 0) 121) (w_ei w3 (w_ar ws (n_v vs 0) 122)) (w_ei w4 (w_ar ws (n_v vs 0) 122)) k5 k6 k12 d0 g43 f45 f50 fe_0_31_1 fe_0_32_1 fe_0_121_1 fe_0_31_2 fe_0_32_2 fe_0_121_2 fe_0_31_3 fe_0_32_3 fe_0_121_3 fe_0_31_4 fe_0_32_4 hE_0_33_1 hE_0_33_2 hE_0_33_3 hE_0_33_4 hE_0_34_1 hE_0_34_2 hE_0_34_3 hE_0_34_4 hE_0_35_1 hE_0_35_2 hE_0_35_3 hE_0_35_4 hE_0_74_1 hE_0_74_2 hE_0_74_3 hE_0_74_4 hE_0_75_1 hE_0_75_2 hE_0_75_3 hE_0_75_4 hE_0_96_1 hE_0_96_2 hE_0_96_3 hE_0_96_4 hE_0_122_4 hE_0_123_1 hE_0_123_2 hE_0_123_3 hE_0_123_4 kz_0_31 kz_0_32 kz_0_121
  have nf3 : fc_1 PRD (20, [1, 12], [60, 1, 2, 830, 121, 122, 96]) ws (vs) := by
    refine ⟨nf_in hl rfl, sgq_1260 ?_⟩
    · show ULU (w_fi ws (n_v vs 1) 121) (w_ei ws (w_ar ws (n_v vs 1) 122)) (w_ei ws (w_ar ws (n_v vs 1) 96)) (v_iv (n_v vs 12))
      rw [q1]
      exact vc_Mo_shift_4_3 (v_iv (n_v vs 2)) (v_iv (n_v vs 3)) (v_iv (n_v vs 4)) (v_iv (n_v vs 5)) (v_iv (n_v vs 6)) (v_iv (n_v vs 7)) (v_iv (n_v vs 9)) (v_iv (n_v vs 10)) (v_iv (n_v vs 11)) (v_iv (n_v vs 12)) (w_ei ws (w_ar ws (n_v vs 0) 33)) (w_ei ws (w_ar ws (n_v vs 0) 34)) (w_fi ws (n_v vs 0) 31) (w_fi ws (n_v vs 0) 32) (w_ei ws (w_ar ws (n_v vs 0) 35)) (w_ei ws (w_ar ws (n_v vs 0) 96)) (w_ei ws (w_ar ws (n_v vs 0) 74)) (w_ei ws (w_ar ws (n_v vs 0) 75)) (w_ei ws (w_ar ws (n_v vs 0) 123)) (w_ei w1 (w_ar ws (n_v vs 0) 33)) (w_ei w1 (w_ar ws (n_v vs 0) 34)) (w_fi w1 (n_v vs 0) 31) (w_fi w1 (n_v vs 0) 32) (w_ei w1 (w_ar ws (n_v vs 0) 35)) (w_ei w1 (w_ar ws (n_v vs 0) 96)) (w_ei w1 (w_ar ws (n_v vs 0) 74)) (w_ei w1 (w_ar ws (n_v vs 0) 75)) (w_ei w1 (w_ar ws (n_v vs 0) 123)) (w_ei w2 (w_ar ws (n_v vs 0) 33)) (w_ei w2 (w_ar ws (n_v vs 0) 34)) (w_fi w2 (n_v vs 0) 31) (w_fi w2 (n_v vs 0) 32) (w_ei w2 (w_ar ws (n_v vs 0) 35)) (w_ei w2 (w_ar ws (n_v vs 0) 96)) (w_ei w2 (w_ar ws (n_v vs 0) 74)) (w_ei w2 (w_ar ws (n_v vs 0) 75)) (w_ei w2 (w_ar ws (n_v vs 0) 123)) (w_ei w3 (w_ar ws (n_v vs 0) 33)) (w_ei w3 (w_ar ws (n_v vs 0) 34)) (w_fi w3 (n_v vs 0) 31) (w_fi w3 (n_v vs 0) 32) (w_ei w3 (w_ar ws (n_v vs 0) 35)) (w_ei w3 (w_ar ws (n_v vs 0) 96)) (w_ei w3 (w_ar ws (n_v vs 0) 74)) (w_ei w3 (w_ar ws (n_v vs 0) 75)) (w_ei w3 (w_ar ws (n_v vs 0) 123)) (w_fi w4 (n_v vs 0) 31) (w_ei w4 (w_ar ws (n_v vs 0) 33)) (w_ei w4 (w_ar ws (n_v vs 0) 34)) (w_fi w4 (n_v vs 0) 32) (w_ei w4 (w_ar ws (n_v vs 0) 35)) (w_ei w4 (w_ar ws (n_v vs 0) 96)) (w_ei w4 (w_ar ws (n_v vs 0) 74)) (w_ei w4 (w_ar ws (n_v vs 0) 75)) (w_ei w4 (w_ar ws (n_v vs 0) 123)) (w_fi ws (n_v vs 0) 121) (w_fi w1 (n_v vs 0) 121) (w_fi w2 (n_v vs 0) 121) (w_fi w3 (n_v vs 0) 121) (w_ei ws (w_ar ws (n_v vs 0) 122)) (w_ei w1 (w_ar ws (n_v vs 0) 122)) (w_ei w2 (w_ar ws (n_v vs 0) 122)) (w_ei w3 (w_ar ws (n_v vs 0) 122)) (w_ei w4 (w_ar ws (n_v vs 0) 122)) k2 k3 k4 k7 k9 k10 k11 k12 f46 f47 f48 fe_0_31_1 fe_0_32_1 fe_0_121_1 fe_0_31_2 fe_0_32_2 fe_0_121_2 fe_0_31_3 fe_0_32_3 fe_0_121_3 fe_0_31_4 fe_0_32_4 fe_0_121_4 hE_0_33_1 hE_0_33_2 hE_0_33_3 hE_0_33_4 hE_0_34_1 hE_0_34_2 hE_0_34_3 hE_0_34_4 hE_0_35_1 hE_0_35_2 hE_0_35_3 hE_0_35_4 hE_0_74_1 hE_0_74_2 hE_0_74_3 hE_0_74_4 hE_0_75_1 hE_0_75_2 hE_0_75_3 hE_0_75_4 hE_0_96_1 hE_0_96_2 hE_0_96_3 hE_0_96_4 hE_0_122_1 hE_0_122_2 hE_0_122_3 hE_0_122_4 hE_0_123_1 hE_0_123_2 hE_0_123_3 hE_0_123_4 kz_0_31 kz_0_32 kz_0_121
  refine ⟨(fun _ h => (by cases h)), [], trivial, ?_, (fun _ h => (by cases h))⟩
  rw [List.append_nil]
  exact List.forall_mem_cons.mpr ⟨⟨show (20 : Nat) < 100 from by decide, nf0⟩, List.forall_mem_cons.mpr ⟨⟨show (20 : Nat) < 100 from by decide, nf1⟩, List.forall_mem_cons.mpr ⟨⟨show (20 : Nat) < 100 from by decide, nf2⟩, List.forall_mem_cons.mpr ⟨⟨show (20 : Nat) < 100 from by decide, nf3⟩, (fun _ h => (by cases h))⟩⟩⟩⟩
set_option maxHeartbeats 4000000 in
theorem vc_Mo_shift_5_0 (x5 : Int) (x8 : Int) (x9 : Int) (x10 : Int) (pt_0 : Int → Int) (ph_0 : Int → Int) (pn_0 : Int) (pm_0 : Int) (alive_0 : Int → Int) (order_0 : Int → Int) (nx_0 : Int → Int) (ny_0 : Int → Int) (pn_1 : Int) (pt_1 : Int → Int) (ph_1 : Int → Int) (pm_1 : Int) (alive_1 : Int → Int) (order_1 : Int → Int) (nx_1 : Int → Int) (ny_1 : Int → Int) (under_1 : Int → Int) (under_0 : Int → Int) (k5 : 0 ≤ x5 ∧ x5 ≤ 24) (k8 : 1 ≤ x8 ∧ x8 ≤ 1) (k9 : 1 ≤ x9 ∧ x9 ≤ 16777216) (k10 : 1 ≤ x10 ∧ x10 ≤ 25) (d0 : x5 + 1 ≤ x10 ∧ x10 ≤ x5 + 1) (f0 : x10 = x5 + 1) (f11 : bvp (x9) = bvp (x8) <<< (x5).toNat) (f21 : UN0 (pn_1) (under_1) (x5)) (fe_0_31_1 : pn_0 = pn_1) (fe_0_32_1 : pm_0 = pm_1) (hE_0_33_1 : ∀ j : Int, pt_0 j = pt_1 j) (hE_0_34_1 : ∀ j : Int, ph_0 j = ph_1 j) (hE_0_35_1 : ∀ j : Int, alive_0 j = alive_1 j) (hE_0_74_1 : ∀ j : Int, nx_0 j = nx_1 j) (hE_0_75_1 : ∀ j : Int, ny_0 j = ny_1 j) (hE_0_96_1 : ∀ j : Int, order_0 j = order_1 j) (hE_0_123_1 : ∀ j : Int, 0 ≤ j → (j = x5 → under_0 j = x9) ∧ (j ≠ x5 → under_0 j = under_1 j)) (kz_0_31 : 0 ≤ pn_0 ∧ pn_0 ≤ 25) (kz_0_32 : 0 ≤ pm_0 ∧ pm_0 ≤ 80) : UN0 (pn_0) (under_0) (x10) := by
  subst fe_0_31_1
  subst fe_0_32_1
  have e_hE_0_33_1 := funext hE_0_33_1; subst e_hE_0_33_1
  have e_hE_0_34_1 := funext hE_0_34_1; subst e_hE_0_34_1
  have e_hE_0_35_1 := funext hE_0_35_1; subst e_hE_0_35_1
  have e_hE_0_74_1 := funext hE_0_74_1; subst e_hE_0_74_1
  have e_hE_0_75_1 := funext hE_0_75_1; subst e_hE_0_75_1
  have e_hE_0_96_1 := funext hE_0_96_1; subst e_hE_0_96_1
  first
    | exact un0_step ‹UN0 _ _ _› (by omega) (by omega) (by assumption) (by omega) (by assumption) (by omega)
def o_Mo_shift_5 : or_T := (66, 11, [(0, (2, 0, 0, [165])), (5, (0, 0, 24, [])), (7, (2, 0, 0, [254])), (8, (0, 1, 1, [])), (9, (0, 1, 16777216, [])), (10, (0, 1, 25, []))], [(6, [10, 5], [1]), (24, [0, 1], []), (100, [7, 5, 9], []), (16, [9, 8, 5], [3]), (9, [7, 1], [123]), (20, [1, 5], [60, 1, 1, 829, 31, 123])], [], [], [(20, [1, 10], [60, 1, 1, 829, 31, 123])], [], [(10, 5, 1, 1), (5, 6, -4294967296, -1)])
theorem oo_Mo_shift_5 {kA : Nat → ClassId} : or_ok PRD kA GG o_Mo_shift_5 := by
  refine or_mk fun A ta ws vs hD hth hl => ?_
  intro t0 r0 t5 k5 t7 r7 t8 k8 t9 k9 t10 k10 d0 d2 f0 f9 ta1 w1 le1 s1 f11 f12 f21
  replace f0 := shm_4 f0
  replace f9 := shm_5 f9
  have s1 : (∀ b j, w_el ws b j = if b = v_ad (n_v vs 7) ∧ j = (v_iv (n_v vs 5)).toNat then v_iv (n_v vs 9) else w_el w1 b j) ∧ ∀ b k, w_fd ws b k = w_fd w1 b k := s1.2
  replace f11 := shm_349 f11
  replace f12 := shm_1261 f12
  replace f21 := shm_1256 f21
  have q1 : n_v vs 1 = n_v vs 0 := f9.symm
  simp only [q1] at f12 f21
  have ar_0_33_1 : w_ar w1 (n_v vs 0) 33 = w_ar ws (n_v vs 0) 33 := congrArg v_ad (s1.2 _ _).symm
  have cr_0_33 := fdq_117 hD hth r0
  have ar_0_34_1 : w_ar w1 (n_v vs 0) 34 = w_ar ws (n_v vs 0) 34 := congrArg v_ad (s1.2 _ _).symm
  have cr_0_34 := fdq_118 hD hth r0
  have ar_0_35_1 : w_ar w1 (n_v vs 0) 35 = w_ar ws (n_v vs 0) 35 := congrArg v_ad (s1.2 _ _).symm
  have cr_0_35 := fdq_132 hD hth r0
  have ar_0_74_1 : w_ar w1 (n_v vs 0) 74 = w_ar ws (n_v vs 0) 74 := congrArg v_ad (s1.2 _ _).symm
  have cr_0_74 := fdq_164 hD hth r0
  have ar_0_75_1 : w_ar w1 (n_v vs 0) 75 = w_ar ws (n_v vs 0) 75 := congrArg v_ad (s1.2 _ _).symm
  have cr_0_75 := fdq_165 hD hth r0
  have ar_0_96_1 : w_ar w1 (n_v vs 0) 96 = w_ar ws (n_v vs 0) 96 := congrArg v_ad (s1.2 _ _).symm
  have cr_0_96 := fdq_166 hD hth r0
  have ar_0_123_1 : w_ar w1 (n_v vs 0) 123 = w_ar ws (n_v vs 0) 123 := congrArg v_ad (s1.2 _ _).symm
  have ad_7 : v_ad (n_v vs 7) = w_ar ws (n_v vs 0) 123 := (congrArg v_ad f12).trans ar_0_123_1
  simp only [ar_0_33_1, ar_0_34_1, ar_0_35_1, ar_0_96_1, ar_0_74_1, ar_0_75_1, ar_0_123_1] at f21
  have fe_0_31_1 : w_fi ws (n_v vs 0) 31 = w_fi w1 (n_v vs 0) 31 := congrArg v_iv (s1.2 _ _)
  have fe_0_32_1 : w_fi ws (n_v vs 0) 32 = w_fi w1 (n_v vs 0) 32 := congrArg v_iv (s1.2 _ _)
  have hE_0_33_1 : ∀ j : Int, w_ei ws (w_ar ws (n_v vs 0) 33) j = w_ei w1 (w_ar ws (n_v vs 0) 33) j := el_kp s1.1 r7 cr_0_33 (by decide)
  have hE_0_34_1 : ∀ j : Int, w_ei ws (w_ar ws (n_v vs 0) 34) j = w_ei w1 (w_ar ws (n_v vs 0) 34) j := el_kp s1.1 r7 cr_0_34 (by decide)
  have hE_0_35_1 : ∀ j : Int, w_ei ws (w_ar ws (n_v vs 0) 35) j = w_ei w1 (w_ar ws (n_v vs 0) 35) j := el_kp s1.1 r7 cr_0_35 (by decide)
  have hE_0_74_1 : ∀ j : Int, w_ei ws (w_ar ws (n_v vs 0) 74) j = w_ei w1 (w_ar ws (n_v vs 0) 74) j := el_kp s1.1 r7 cr_0_74 (by decide)
  have hE_0_75_1 : ∀ j : Int, w_ei ws (w_ar ws (n_v vs 0) 75) j = w_ei w1 (w_ar ws (n_v vs 0) 75) j := el_kp s1.1 r7 cr_0_75 (by decide)
  have hE_0_96_1 : ∀ j : Int, w_ei ws (w_ar ws (n_v vs 0) 96) j = w_ei w1 (w_ar ws (n_v vs 0) 96) j := el_kp s1.1 r7 cr_0_96 (by decide)
  have hE_0_123_1 : ∀ j : Int, 0 ≤ j → (j = v_iv (n_v vs 5) → w_ei ws (w_ar ws (n_v vs 0) 123) j = v_iv (n_v vs 9)) ∧ (j ≠ v_iv (n_v vs 5) → w_ei ws (w_ar ws (n_v vs 0) 123) j = w_ei w1 (w_ar ws (n_v vs 0) 123) j) := fun j hj => ⟨fun h => by unfold w_ei; rw [s1.1, if_pos ⟨ad_7.symm, by rw [h]⟩], fun h => by unfold w_ei; rw [s1.1, if_neg (fun e => h (by have := e.2; omega))]⟩
  have kz_0_31 := fdq_145 hD hth r0
  have kz_0_32 := fdq_140 hD hth r0
  have nf0 : fc_1 PRD (20, [1, 10], [60, 1, 1, 829, 31, 123]) ws (vs) := by
    refine ⟨nf_in hl rfl, sgq_1256 ?_⟩
    · show UN0 (w_fi ws (n_v vs 1) 31) (w_ei ws (w_ar ws (n_v vs 1) 123)) (v_iv (n_v vs 10))
      rw [q1]
      exact vc_Mo_shift_5_0 (v_iv (n_v vs 5)) (v_iv (n_v vs 8)) (v_iv (n_v vs 9)) (v_iv (n_v vs 10)) (w_ei ws (w_ar ws (n_v vs 0) 33)) (w_ei ws (w_ar ws (n_v vs 0) 34)) (w_fi ws (n_v vs 0) 31) (w_fi ws (n_v vs 0) 32) (w_ei ws (w_ar ws (n_v vs 0) 35)) (w_ei ws (w_ar ws (n_v vs 0) 96)) (w_ei ws (w_ar ws (n_v vs 0) 74)) (w_ei ws (w_ar ws (n_v vs 0) 75)) (w_fi w1 (n_v vs 0) 31) (w_ei w1 (w_ar ws (n_v vs 0) 33)) (w_ei w1 (w_ar ws (n_v vs 0) 34)) (w_fi w1 (n_v vs 0) 32) (w_ei w1 (w_ar ws (n_v vs 0) 35)) (w_ei w1 (w_ar ws (n_v vs 0) 96)) (w_ei w1 (w_ar ws (n_v vs 0) 74)) (w_ei w1 (w_ar ws (n_v vs 0) 75)) (w_ei w1 (w_ar ws (n_v vs 0) 123)) (w_ei ws (w_ar ws (n_v vs 0) 123)) k5 k8 k9 k10 d0 f0 f11 f21 fe_0_31_1 fe_0_32_1 hE_0_33_1 hE_0_34_1 hE_0_35_1 hE_0_74_1 hE_0_75_1 hE_0_96_1 hE_0_123_1 kz_0_31 kz_0_32
  refine ⟨(fun _ h => (by cases h)), [], trivial, ?_, (fun _ h => (by cases h))⟩
  rw [List.append_nil]
  exact List.forall_mem_cons.mpr ⟨⟨show (20 : Nat) < 100 from by decide, nf0⟩, (fun _ h => (by cases h))⟩
set_option maxHeartbeats 4000000 in
theorem vc_Mo_shift_6_0 (x5 : Int) (x7 : Int) (pn_0 : Int) (order_0 : Int → Int) (nx_0 : Int → Int) (ny_0 : Int → Int) (k5 : 3 ≤ x5 ∧ x5 ≤ 25) (k7 : 0 ≤ x7 ∧ x7 ≤ 25) (d0 : x7 + 0 ≤ x5 ∧ x5 ≤ x7 + 4294967296) (g1 : x7 = pn_0) (f4 : SPKs (nx_0) (ny_0) (order_0) (x5)) (f8 : ORS (pn_0) (order_0)) (kz_0_31 : 0 ≤ pn_0 ∧ pn_0 ≤ 25) : NYF (pn_0) (ny_0) := by
  first
    | exact nyf_of ‹SPKs _ _ _ _› (by omega) (by omega) ‹ORS _ _›
  
def o_Mo_shift_6 : or_T := (502, 8, [(0, (2, 0, 0, [165])), (5, (0, 3, 25, [])), (7, (0, 0, 25, []))], [(9, [7, 1], [31]), (20, [1, 5], [60, 0, 3, 824, 74, 75, 96]), (20, [1], [60, 1, 1, 823, 31, 96]), (24, [0, 1], [])], [], [], [(20, [0], [60, 1, 1, 837, 31, 75])], [], [(5, 7, 0, 4294967296)])
theorem oo_Mo_shift_6 {kA : Nat → ClassId} : or_ok PRD kA GG o_Mo_shift_6 := by
  refine or_mk fun A ta ws vs hD hth hl => ?_
  intro t0 r0 t5 k5 t7 k7 d0 f1 f4 f8 f9
  replace f1 := shm_577 f1
  replace f4 := shm_1258 f4
  replace f8 := shm_1250 f8
  replace f9 := shm_5 f9
  have q1 : n_v vs 1 = n_v vs 0 := f9.symm
  simp only [q1] at f1 f4 f8
  have g1 : v_iv (n_v vs 7) = w_fi ws (n_v vs 0) 31 := congrArg v_iv f1
  have kz_0_31 := fdq_145 hD hth r0
  have nf0 : fc_1 PRD (20, [0], [60, 1, 1, 837, 31, 75]) ws (vs) := ⟨nf_in hl rfl, sgq_1262 (vc_Mo_shift_6_0 (v_iv (n_v vs 5)) (v_iv (n_v vs 7)) (w_fi ws (n_v vs 0) 31) (w_ei ws (w_ar ws (n_v vs 0) 96)) (w_ei ws (w_ar ws (n_v vs 0) 74)) (w_ei ws (w_ar ws (n_v vs 0) 75)) k5 k7 d0 g1 f4 f8 kz_0_31)⟩
  refine ⟨(fun _ h => (by cases h)), [], trivial, ?_, (fun _ h => (by cases h))⟩
  rw [List.append_nil]
  exact List.forall_mem_cons.mpr ⟨⟨show (20 : Nat) < 100 from by decide, nf0⟩, (fun _ h => (by cases h))⟩
set_option maxHeartbeats 4000000 in
theorem vc_Mo_shift_7_0 (x5 : Int) (x7 : Int) (x9 : Int) (x10 : Int) (order_0 : Int → Int) (pn_0 : Int) (pt_0 : Int → Int) (ph_0 : Int → Int) (pm_0 : Int) (alive_0 : Int → Int) (upperNode_0 : Int → Int) (upper_0 : Int) (k5 : 3 ≤ x5 ∧ x5 ≤ 24) (k7 : 4 ≤ x7 ∧ x7 ≤ 25) (k9 : 0 ≤ x9 ∧ x9 ≤ 25) (k10 : 0 ≤ x10 ∧ x10 ≤ 0) (d0 : x7 + (-4294967296) ≤ x5 ∧ x5 ≤ x7 + (-1)) (h0 : x9 = order_0 (x5)) (g3 : x7 = pn_0) (f5 : SHL (pn_0) (pm_0) (upper_0) (pt_0) (ph_0) (alive_0) (upperNode_0) (order_0) (x5)) (kz_0_31 : 0 ≤ pn_0 ∧ pn_0 ≤ 25) (kz_0_32 : 0 ≤ pm_0 ∧ pm_0 ≤ 80) (kz_0_121 : 0 ≤ upper_0 ∧ upper_0 ≤ 30) : SHA (pn_0) (pm_0) (upper_0) (pt_0) (ph_0) (alive_0) (upperNode_0) (order_0) (x5) (x9) (x10) := by
  first
    | exact ⟨‹SHL _ _ _ _ _ _ _ _ _›, ⟨by omega, by omega⟩, by omega, fun t a b => by exfalso; omega⟩
def o_Mo_shift_7 : or_T := (142, 11, [(0, (2, 0, 0, [165])), (5, (0, 3, 24, [])), (7, (0, 4, 25, [])), (9, (0, 0, 25, [])), (10, (0, 0, 0, []))], [(10, [9, 8, 5], []), (9, [8, 1], [96]), (9, [7, 1], [31]), (20, [1, 5], [60, 3, 5, 291, 31, 32, 121, 33, 34, 35, 122, 96]), (24, [0, 1], [])], [], [], [(20, [1, 5, 9, 10], [60, 3, 5, 292, 31, 32, 121, 33, 34, 35, 122, 96])], [], [(5, 7, -4294967296, -1)])
theorem oo_Mo_shift_7 {kA : Nat → ClassId} : or_ok PRD kA GG o_Mo_shift_7 := by
  refine or_mk fun A ta ws vs hD hth hl => ?_
  intro t0 r0 t5 k5 t7 k7 t9 k9 t10 k10 d0 f0 f1 f3 f5 f11
  replace f0 := shm_107 f0
  replace f1 := shm_666 f1
  replace f3 := shm_577 f3
  replace f5 := shm_1257 f5
  replace f11 := shm_5 f11
  have q1 : n_v vs 1 = n_v vs 0 := f11.symm
  simp only [q1] at f1 f3 f5
  have ad_8 : v_ad (n_v vs 8) = w_ar ws (n_v vs 0) 96 := congrArg v_ad f1
  simp only [ad_8] at f0
  have h0 : v_iv (n_v vs 9) = w_ei ws (w_ar ws (n_v vs 0) 96) (v_iv (n_v vs 5)) := f0
  have g3 : v_iv (n_v vs 7) = w_fi ws (n_v vs 0) 31 := congrArg v_iv f3
  have kz_0_31 := fdq_145 hD hth r0
  have kz_0_32 := fdq_140 hD hth r0
  have kz_0_121 := fdq_242 hD hth r0
  have nf0 : fc_1 PRD (20, [1, 5, 9, 10], [60, 3, 5, 292, 31, 32, 121, 33, 34, 35, 122, 96]) ws (vs) := by
    refine ⟨nf_in hl rfl, sgq_1263 ?_⟩
    · show SHA (w_fi ws (n_v vs 1) 31) (w_fi ws (n_v vs 1) 32) (w_fi ws (n_v vs 1) 121) (w_ei ws (w_ar ws (n_v vs 1) 33)) (w_ei ws (w_ar ws (n_v vs 1) 34)) (w_ei ws (w_ar ws (n_v vs 1) 35)) (w_ei ws (w_ar ws (n_v vs 1) 122)) (w_ei ws (w_ar ws (n_v vs 1) 96)) (v_iv (n_v vs 5)) (v_iv (n_v vs 9)) (v_iv (n_v vs 10))
      rw [q1]
      exact vc_Mo_shift_7_0 (v_iv (n_v vs 5)) (v_iv (n_v vs 7)) (v_iv (n_v vs 9)) (v_iv (n_v vs 10)) (w_ei ws (w_ar ws (n_v vs 0) 96)) (w_fi ws (n_v vs 0) 31) (w_ei ws (w_ar ws (n_v vs 0) 33)) (w_ei ws (w_ar ws (n_v vs 0) 34)) (w_fi ws (n_v vs 0) 32) (w_ei ws (w_ar ws (n_v vs 0) 35)) (w_ei ws (w_ar ws (n_v vs 0) 122)) (w_fi ws (n_v vs 0) 121) k5 k7 k9 k10 d0 h0 g3 f5 kz_0_31 kz_0_32 kz_0_121
  refine ⟨(fun _ h => (by cases h)), [], trivial, ?_, (fun _ h => (by cases h))⟩
  rw [List.append_nil]
  exact List.forall_mem_cons.mpr ⟨⟨show (20 : Nat) < 100 from by decide, nf0⟩, (fun _ h => (by cases h))⟩
set_option maxHeartbeats 4000000 in
theorem vc_Mo_shift_8_0 (x5 : Int) (x6 : Int) (x7 : Int) (x9 : Int) (x10 : Int) (x11 : Int) (x13 : Int) (upper_0 : Int) (pt_0 : Int → Int) (ph_0 : Int → Int) (alive_0 : Int → Int) (pm_0 : Int) (upperNode_0 : Int → Int) (pn_0 : Int) (order_0 : Int → Int) (k5 : 3 ≤ x5 ∧ x5 ≤ 24) (k6 : 0 ≤ x6 ∧ x6 ≤ 25) (k7 : 0 ≤ x7 ∧ x7 ≤ 29) (k9 : 0 ≤ x9 ∧ x9 ≤ 24) (k10 : 0 ≤ x10 ∧ x10 ≤ 79) (k11 : 0 ≤ x11 ∧ x11 ≤ 30) (k13 : (-1) ≤ x13 ∧ x13 ≤ 29) (d0 : x11 + (-1) ≤ x13 ∧ x13 ≤ x11 + (-1)) (g1 : x11 = upper_0) (f2 : 0 ≤ x10) (f3 : EOF (pm_0) (pt_0) (ph_0) (alive_0) (x6) (x9) (x10)) (h4 : x9 = upperNode_0 (x7)) (f7 : SHA (pn_0) (pm_0) (upper_0) (pt_0) (ph_0) (alive_0) (upperNode_0) (order_0) (x5) (x6) (x7)) (kz_0_31 : 0 ≤ pn_0 ∧ pn_0 ≤ 25) (kz_0_32 : 0 ≤ pm_0 ∧ pm_0 ≤ 80) (kz_0_121 : 0 ≤ upper_0 ∧ upper_0 ≤ 30) : SHB (pn_0) (pm_0) (upper_0) (pt_0) (ph_0) (alive_0) (upperNode_0) (order_0) (x5) (x6) (x7) (x13) := by
  first
    | exact ⟨‹SHA _ _ _ _ _ _ _ _ _ _ _›, by have h := sha_bd ‹SHA _ _ _ _ _ _ _ _ _ _ _›; omega, by have h := eof_yes ‹EOF _ _ _ _ _ _ _› (by omega); rw [‹x9 = upperNode_0 x7›] at h; exact h, by omega, fun t a b => by exfalso; omega⟩
def o_Mo_shift_8 : or_T := (172, 14, [(0, (2, 0, 0, [165])), (5, (0, 3, 24, [])), (6, (0, 0, 25, [])), (7, (0, 0, 29, [])), (9, (0, 0, 24, [])), (10, (0, 0, 79, [])), (11, (0, 0, 30, [])), (13, (0, -1, 29, []))], [(9, [11, 1], [121]), (8, [10], [3]), (20, [1, 6, 9, 10], [60, 1, 3, 85, 32, 33, 34, 35]), (10, [9, 8, 7], []), (9, [8, 1], [122]), (20, [1, 5, 6, 7], [60, 3, 5, 292, 31, 32, 121, 33, 34, 35, 122, 96]), (24, [0, 1], [])], [], [], [(20, [1, 5, 6, 7, 13], [60, 3, 5, 293, 31, 32, 121, 33, 34, 35, 122, 96])], [], [(13, 11, -1, -1)])
theorem oo_Mo_shift_8 {kA : Nat → ClassId} : or_ok PRD kA GG o_Mo_shift_8 := by
  refine or_mk fun A ta ws vs hD hth hl => ?_
  intro t0 r0 t5 k5 t6 k6 t7 k7 t9 k9 t10 k10 t11 k11 t13 k13 d0 f1 f2 f3 f4 f5 f7 f13
  replace f1 := shm_1024 f1
  replace f2 := shm_32 f2
  replace f3 := shm_990 f3
  replace f4 := shm_107 f4
  replace f5 := shm_1019 f5
  replace f7 := shm_1263 f7
  replace f13 := shm_5 f13
  have q1 : n_v vs 1 = n_v vs 0 := f13.symm
  simp only [q1] at f1 f3 f5 f7
  have ad_8 : v_ad (n_v vs 8) = w_ar ws (n_v vs 0) 122 := congrArg v_ad f5
  have g1 : v_iv (n_v vs 11) = w_fi ws (n_v vs 0) 121 := congrArg v_iv f1
  simp only [ad_8] at f4
  have h4 : v_iv (n_v vs 9) = w_ei ws (w_ar ws (n_v vs 0) 122) (v_iv (n_v vs 7)) := f4
  have kz_0_31 := fdq_145 hD hth r0
  have kz_0_32 := fdq_140 hD hth r0
  have kz_0_121 := fdq_242 hD hth r0
  have nf0 : fc_1 PRD (20, [1, 5, 6, 7, 13], [60, 3, 5, 293, 31, 32, 121, 33, 34, 35, 122, 96]) ws (vs) := by
    refine ⟨nf_in hl rfl, sgq_1264 ?_⟩
    · show SHB (w_fi ws (n_v vs 1) 31) (w_fi ws (n_v vs 1) 32) (w_fi ws (n_v vs 1) 121) (w_ei ws (w_ar ws (n_v vs 1) 33)) (w_ei ws (w_ar ws (n_v vs 1) 34)) (w_ei ws (w_ar ws (n_v vs 1) 35)) (w_ei ws (w_ar ws (n_v vs 1) 122)) (w_ei ws (w_ar ws (n_v vs 1) 96)) (v_iv (n_v vs 5)) (v_iv (n_v vs 6)) (v_iv (n_v vs 7)) (v_iv (n_v vs 13))
      rw [q1]
      exact vc_Mo_shift_8_0 (v_iv (n_v vs 5)) (v_iv (n_v vs 6)) (v_iv (n_v vs 7)) (v_iv (n_v vs 9)) (v_iv (n_v vs 10)) (v_iv (n_v vs 11)) (v_iv (n_v vs 13)) (w_fi ws (n_v vs 0) 121) (w_ei ws (w_ar ws (n_v vs 0) 33)) (w_ei ws (w_ar ws (n_v vs 0) 34)) (w_ei ws (w_ar ws (n_v vs 0) 35)) (w_fi ws (n_v vs 0) 32) (w_ei ws (w_ar ws (n_v vs 0) 122)) (w_fi ws (n_v vs 0) 31) (w_ei ws (w_ar ws (n_v vs 0) 96)) k5 k6 k7 k9 k10 k11 k13 d0 g1 f2 f3 h4 f7 kz_0_31 kz_0_32 kz_0_121
  refine ⟨(fun _ h => (by cases h)), [], trivial, ?_, (fun _ h => (by cases h))⟩
  rw [List.append_nil]
  exact List.forall_mem_cons.mpr ⟨⟨show (20 : Nat) < 100 from by decide, nf0⟩, (fun _ h => (by cases h))⟩
set_option maxHeartbeats 4000000 in
theorem vc_Mo_shift_9_r0 (x5 : Int) (x6 : Int) (x7 : Int) (x9 : Int) (pt_0 : Int → Int) (ph_0 : Int → Int) (alive_0 : Int → Int) (pm_0 : Int) (upperNode_0 : Int → Int) (pn_0 : Int) (order_0 : Int → Int) (upper_0 : Int) (k5 : 3 ≤ x5 ∧ x5 ≤ 24) (k6 : 0 ≤ x6 ∧ x6 ≤ 25) (k7 : 0 ≤ x7 ∧ x7 ≤ 29) (k9 : 0 ≤ x9 ∧ x9 ≤ 24) (h2 : x9 = upperNode_0 (x7)) (f5 : SHA (pn_0) (pm_0) (upper_0) (pt_0) (ph_0) (alive_0) (upperNode_0) (order_0) (x5) (x6) (x7)) (kz_0_31 : 0 ≤ pn_0 ∧ pn_0 ≤ 25) (kz_0_32 : 0 ≤ pm_0 ∧ pm_0 ≤ 80) (kz_0_121 : 0 ≤ upper_0 ∧ upper_0 ≤ 30) : 0 ≤ x7 ∧ x7 ≤ 28 := by
  first
    | (have h := sha_bd ‹SHA _ _ _ _ _ _ _ _ _ _ _›; omega)
def o_Mo_shift_9 : or_T := (158, 11, [(0, (2, 0, 0, [165])), (1, (2, 0, 0, [165])), (5, (0, 3, 24, [])), (6, (0, 0, 25, [])), (7, (0, 0, 29, [])), (8, (2, 0, 0, [253])), (9, (0, 0, 24, [])), (10, (0, -1, -1, []))], [(8, [10], [2]), (20, [1, 6, 9, 10], [60, 1, 3, 85, 32, 33, 34, 35]), (10, [9, 8, 7], []), (9, [8, 1], [122]), (20, [1], [60, 2, 2, 75, 31, 32, 33, 34]), (20, [1, 5, 6, 7], [60, 3, 5, 292, 31, 32, 121, 33, 34, 35, 122, 96]), (20, [1, 5], [60, 0, 3, 824, 74, 75, 96]), (20, [1, 5], [60, 1, 2, 827, 31, 123, 96]), (20, [1, 5], [60, 1, 2, 830, 121, 122, 96]), (20, [1], [60, 1, 1, 835, 31, 96]), (20, [1], [60, 1, 1, 823, 31, 96]), (24, [0, 1], [])], [(7, (0, 0, 28, []))], [], [], [], [])
theorem oo_Mo_shift_9 {kA : Nat → ClassId} : or_ok PRD kA GG o_Mo_shift_9 := by
  refine or_mk fun A ta ws vs hD hth hl => ?_
  intro t0 r0 t1 r1 t5 k5 t6 k6 t7 k7 t8 r8 t9 k9 t10 k10 f0 f1 f2 f3 f4 f5 f6 f7 f8 f9 f10 f11
  replace f2 := shm_107 f2
  replace f3 := shm_1019 f3
  replace f5 := shm_1263 f5
  replace f11 := shm_5 f11
  have q1 : n_v vs 1 = n_v vs 0 := f11.symm
  simp only [q1] at f3 f5
  have ad_8 : v_ad (n_v vs 8) = w_ar ws (n_v vs 0) 122 := congrArg v_ad f3
  simp only [ad_8] at f2
  have h2 : v_iv (n_v vs 9) = w_ei ws (w_ar ws (n_v vs 0) 122) (v_iv (n_v vs 7)) := f2
  have kz_0_31 := fdq_145 hD hth r0
  have kz_0_32 := fdq_140 hD hth r0
  have kz_0_121 := fdq_242 hD hth r0
  have hrf0 : 0 ≤ v_iv (n_v vs 7) ∧ v_iv (n_v vs 7) ≤ 28 := vc_Mo_shift_9_r0 (v_iv (n_v vs 5)) (v_iv (n_v vs 6)) (v_iv (n_v vs 7)) (v_iv (n_v vs 9)) (w_ei ws (w_ar ws (n_v vs 0) 33)) (w_ei ws (w_ar ws (n_v vs 0) 34)) (w_ei ws (w_ar ws (n_v vs 0) 35)) (w_fi ws (n_v vs 0) 32) (w_ei ws (w_ar ws (n_v vs 0) 122)) (w_fi ws (n_v vs 0) 31) (w_ei ws (w_ar ws (n_v vs 0) 96)) (w_fi ws (n_v vs 0) 121) k5 k6 k7 k9 h2 f5 kz_0_31 kz_0_32 kz_0_121
  have rf7 : tv_ok ta (0, 0, 28, []) (n_v vs 7) := tv_in t7 (by first | omega | grind) (by first | omega | grind)
  refine ⟨List.forall_mem_cons.mpr ⟨rf7, (fun _ h => (by cases h))⟩, [], trivial, ?_, (fun _ h => (by cases h))⟩
  rw [List.append_nil]
  exact (fun _ h => (by cases h))
set_option maxHeartbeats 4000000 in
theorem vc_Mo_shift_10_0 (x5 : Int) (x6 : Int) (x7 : Int) (x9 : Int) (x10 : Int) (x11 : Int) (pt_0 : Int → Int) (ph_0 : Int → Int) (alive_0 : Int → Int) (pm_0 : Int) (upperNode_0 : Int → Int) (pn_0 : Int) (order_0 : Int → Int) (upper_0 : Int) (k5 : 3 ≤ x5 ∧ x5 ≤ 24) (k6 : 0 ≤ x6 ∧ x6 ≤ 25) (k7 : 0 ≤ x7 ∧ x7 ≤ 28) (k9 : 0 ≤ x9 ∧ x9 ≤ 24) (k10 : (-1) ≤ x10 ∧ x10 ≤ (-1)) (k11 : 1 ≤ x11 ∧ x11 ≤ 29) (f0 : x11 = x7 + 1) (f1 : x10 < 0) (f2 : EOF (pm_0) (pt_0) (ph_0) (alive_0) (x6) (x9) (x10)) (h3 : x9 = upperNode_0 (x7)) (f6 : SHA (pn_0) (pm_0) (upper_0) (pt_0) (ph_0) (alive_0) (upperNode_0) (order_0) (x5) (x6) (x7)) (kz_0_31 : 0 ≤ pn_0 ∧ pn_0 ≤ 25) (kz_0_32 : 0 ≤ pm_0 ∧ pm_0 ≤ 80) (kz_0_121 : 0 ≤ upper_0 ∧ upper_0 ≤ 30) : SHA (pn_0) (pm_0) (upper_0) (pt_0) (ph_0) (alive_0) (upperNode_0) (order_0) (x5) (x6) (x11) := by
  first
    | exact sha_next ‹SHA _ _ _ _ _ _ _ _ _ _ _› (by omega) (by have h := eof_no ‹EOF _ _ _ _ _ _ _› (by omega); rw [‹x9 = upperNode_0 x7›] at h; exact h)
def o_Mo_shift_10 : or_T := (142, 12, [(0, (2, 0, 0, [165])), (5, (0, 3, 24, [])), (6, (0, 0, 25, [])), (7, (0, 0, 28, [])), (9, (0, 0, 24, [])), (10, (0, -1, -1, [])), (11, (0, 1, 29, []))], [(6, [11, 7], [1]), (8, [10], [2]), (20, [1, 6, 9, 10], [60, 1, 3, 85, 32, 33, 34, 35]), (10, [9, 8, 7], []), (9, [8, 1], [122]), (20, [1, 5, 6, 7], [60, 3, 5, 292, 31, 32, 121, 33, 34, 35, 122, 96]), (24, [0, 1], [])], [], [], [(20, [1, 5, 6, 11], [60, 3, 5, 292, 31, 32, 121, 33, 34, 35, 122, 96])], [], [])
theorem oo_Mo_shift_10 {kA : Nat → ClassId} : or_ok PRD kA GG o_Mo_shift_10 := by
  refine or_mk fun A ta ws vs hD hth hl => ?_
  intro t0 r0 t5 k5 t6 k6 t7 k7 t9 k9 t10 k10 t11 k11 f0 f1 f2 f3 f4 f6 f12
  replace f0 := shm_4 f0
  replace f1 := shm_39 f1
  replace f2 := shm_990 f2
  replace f3 := shm_107 f3
  replace f4 := shm_1019 f4
  replace f6 := shm_1263 f6
  replace f12 := shm_5 f12
  have q1 : n_v vs 1 = n_v vs 0 := f12.symm
  simp only [q1] at f2 f4 f6
  have ad_8 : v_ad (n_v vs 8) = w_ar ws (n_v vs 0) 122 := congrArg v_ad f4
  simp only [ad_8] at f3
  have h3 : v_iv (n_v vs 9) = w_ei ws (w_ar ws (n_v vs 0) 122) (v_iv (n_v vs 7)) := f3
  have kz_0_31 := fdq_145 hD hth r0
  have kz_0_32 := fdq_140 hD hth r0
  have kz_0_121 := fdq_242 hD hth r0
  have nf0 : fc_1 PRD (20, [1, 5, 6, 11], [60, 3, 5, 292, 31, 32, 121, 33, 34, 35, 122, 96]) ws (vs) := by
    refine ⟨nf_in hl rfl, sgq_1263 ?_⟩
    · show SHA (w_fi ws (n_v vs 1) 31) (w_fi ws (n_v vs 1) 32) (w_fi ws (n_v vs 1) 121) (w_ei ws (w_ar ws (n_v vs 1) 33)) (w_ei ws (w_ar ws (n_v vs 1) 34)) (w_ei ws (w_ar ws (n_v vs 1) 35)) (w_ei ws (w_ar ws (n_v vs 1) 122)) (w_ei ws (w_ar ws (n_v vs 1) 96)) (v_iv (n_v vs 5)) (v_iv (n_v vs 6)) (v_iv (n_v vs 11))
      rw [q1]
      exact vc_Mo_shift_10_0 (v_iv (n_v vs 5)) (v_iv (n_v vs 6)) (v_iv (n_v vs 7)) (v_iv (n_v vs 9)) (v_iv (n_v vs 10)) (v_iv (n_v vs 11)) (w_ei ws (w_ar ws (n_v vs 0) 33)) (w_ei ws (w_ar ws (n_v vs 0) 34)) (w_ei ws (w_ar ws (n_v vs 0) 35)) (w_fi ws (n_v vs 0) 32) (w_ei ws (w_ar ws (n_v vs 0) 122)) (w_fi ws (n_v vs 0) 31) (w_ei ws (w_ar ws (n_v vs 0) 96)) (w_fi ws (n_v vs 0) 121) k5 k6 k7 k9 k10 k11 f0 f1 f2 h3 f6 kz_0_31 kz_0_32 kz_0_121
  refine ⟨(fun _ h => (by cases h)), [], trivial, ?_, (fun _ h => (by cases h))⟩
  rw [List.append_nil]
  exact List.forall_mem_cons.mpr ⟨⟨show (20 : Nat) < 100 from by decide, nf0⟩, (fun _ h => (by cases h))⟩
set_option maxHeartbeats 4000000 in
theorem vc_Mo_shift_11_r0 (x5 : Int) (x6 : Int) (x7 : Int) (x8 : Int) (pt_0 : Int → Int) (ph_0 : Int → Int) (pn_0 : Int) (pm_0 : Int) (alive_0 : Int → Int) (upperNode_0 : Int → Int) (order_0 : Int → Int) (upper_0 : Int) (k5 : 3 ≤ x5 ∧ x5 ≤ 24) (k6 : 0 ≤ x6 ∧ x6 ≤ 25) (k7 : 0 ≤ x7 ∧ x7 ≤ 29) (k8 : (-1) ≤ x8 ∧ x8 ≤ 29) (f2 : SHB (pn_0) (pm_0) (upper_0) (pt_0) (ph_0) (alive_0) (upperNode_0) (order_0) (x5) (x6) (x7) (x8)) (kz_0_31 : 0 ≤ pn_0 ∧ pn_0 ≤ 25) (kz_0_32 : 0 ≤ pm_0 ∧ pm_0 ≤ 80) (kz_0_121 : 0 ≤ upper_0 ∧ upper_0 ≤ 30) : 0 ≤ x8 ∧ x8 ≤ 29 := by
  first
    | (have h := sha_bd ‹SHA _ _ _ _ _ _ _ _ _ _ _›; omega)
    | (have h := sha_bd ‹SHB _ _ _ _ _ _ _ _ _ _ _ _›.1
       have h2 := shb_bd ‹SHB _ _ _ _ _ _ _ _ _ _ _ _›
       have h3 := ‹SHB _ _ _ _ _ _ _ _ _ _ _ _›.2.2.2.1
       omega)
def o_Mo_shift_11 : or_T := (181, 10, [(0, (2, 0, 0, [165])), (1, (2, 0, 0, [165])), (5, (0, 3, 24, [])), (6, (0, 0, 25, [])), (7, (0, 0, 29, [])), (8, (0, -1, 29, [])), (9, (2, 0, 0, [253]))], [(9, [9, 1], [122]), (20, [1], [60, 2, 2, 75, 31, 32, 33, 34]), (20, [1, 5, 6, 7, 8], [60, 3, 5, 293, 31, 32, 121, 33, 34, 35, 122, 96]), (20, [1, 5], [60, 0, 3, 824, 74, 75, 96]), (20, [1, 5], [60, 1, 2, 827, 31, 123, 96]), (20, [1, 5], [60, 1, 2, 830, 121, 122, 96]), (20, [1], [60, 1, 1, 835, 31, 96]), (20, [1], [60, 1, 1, 823, 31, 96]), (24, [0, 1], [])], [(8, (0, 0, 29, []))], [], [], [], [])
theorem oo_Mo_shift_11 {kA : Nat → ClassId} : or_ok PRD kA GG o_Mo_shift_11 := by
  refine or_mk fun A ta ws vs hD hth hl => ?_
  intro t0 r0 t1 r1 t5 k5 t6 k6 t7 k7 t8 k8 t9 r9 f0 f1 f2 f3 f4 f5 f6 f7 f8
  replace f2 := shm_1264 f2
  replace f8 := shm_5 f8
  have q1 : n_v vs 1 = n_v vs 0 := f8.symm
  simp only [q1] at f2
  have kz_0_31 := fdq_145 hD hth r0
  have kz_0_32 := fdq_140 hD hth r0
  have kz_0_121 := fdq_242 hD hth r0
  have hrf0 : 0 ≤ v_iv (n_v vs 8) ∧ v_iv (n_v vs 8) ≤ 29 := vc_Mo_shift_11_r0 (v_iv (n_v vs 5)) (v_iv (n_v vs 6)) (v_iv (n_v vs 7)) (v_iv (n_v vs 8)) (w_ei ws (w_ar ws (n_v vs 0) 33)) (w_ei ws (w_ar ws (n_v vs 0) 34)) (w_fi ws (n_v vs 0) 31) (w_fi ws (n_v vs 0) 32) (w_ei ws (w_ar ws (n_v vs 0) 35)) (w_ei ws (w_ar ws (n_v vs 0) 122)) (w_ei ws (w_ar ws (n_v vs 0) 96)) (w_fi ws (n_v vs 0) 121) k5 k6 k7 k8 f2 kz_0_31 kz_0_32 kz_0_121
  have rf8 : tv_ok ta (0, 0, 29, []) (n_v vs 8) := tv_in t8 (by first | omega | grind) (by first | omega | grind)
  refine ⟨List.forall_mem_cons.mpr ⟨rf8, (fun _ h => (by cases h))⟩, [], trivial, ?_, (fun _ h => (by cases h))⟩
  rw [List.append_nil]
  exact (fun _ h => (by cases h))
set_option maxHeartbeats 4000000 in
theorem vc_Mo_shift_12_0 (x5 : Int) (x6 : Int) (x7 : Int) (x8 : Int) (x10 : Int) (x11 : Int) (pt_0 : Int → Int) (ph_0 : Int → Int) (alive_0 : Int → Int) (pm_0 : Int) (upperNode_0 : Int → Int) (pn_0 : Int) (order_0 : Int → Int) (upper_0 : Int) (k5 : 3 ≤ x5 ∧ x5 ≤ 24) (k6 : 0 ≤ x6 ∧ x6 ≤ 25) (k7 : 0 ≤ x7 ∧ x7 ≤ 29) (k8 : 0 ≤ x8 ∧ x8 ≤ 29) (k10 : 0 ≤ x10 ∧ x10 ≤ 24) (k11 : 0 ≤ x11 ∧ x11 ≤ 79) (f1 : 0 ≤ x11) (f2 : EOF (pm_0) (pt_0) (ph_0) (alive_0) (x6) (x10) (x11)) (h3 : x10 = upperNode_0 (x8)) (f6 : SHB (pn_0) (pm_0) (upper_0) (pt_0) (ph_0) (alive_0) (upperNode_0) (order_0) (x5) (x6) (x7) (x8)) (kz_0_31 : 0 ≤ pn_0 ∧ pn_0 ≤ 25) (kz_0_32 : 0 ≤ pm_0 ∧ pm_0 ≤ 80) (kz_0_121 : 0 ≤ upper_0 ∧ upper_0 ≤ 30) : SHC (pn_0) (pm_0) (upper_0) (pt_0) (ph_0) (alive_0) (upperNode_0) (order_0) (x5) (x6) (x7) (x8) := by
  first
    | exact ⟨‹SHB _ _ _ _ _ _ _ _ _ _ _ _›, by have h := shb_bd ‹SHB _ _ _ _ _ _ _ _ _ _ _ _›; have h2 := sha_bd ‹SHB _ _ _ _ _ _ _ _ _ _ _ _›.1; omega, by have h := eof_yes ‹EOF _ _ _ _ _ _ _› (by omega); rw [‹x10 = upperNode_0 x8›] at h; exact h⟩
set_option maxHeartbeats 4000000 in
theorem vc_Mo_shift_12_1 (x5 : Int) (x13 : Int) (order_0 : Int → Int) (nx_0 : Int → Int) (ny_0 : Int → Int) (k5 : 3 ≤ x5 ∧ x5 ≤ 24) (k13 : 1 ≤ x13 ∧ x13 ≤ 30) (f7 : SPKs (nx_0) (ny_0) (order_0) (x5)) : SPKm (nx_0) (ny_0) (order_0) (x5) (x13) := by
  first
    | exact spkm_of ‹SPKs _ _ _ _› (by omega)
def o_Mo_shift_12 : or_T := (200, 14, [(0, (2, 0, 0, [165])), (5, (0, 3, 24, [])), (6, (0, 0, 25, [])), (7, (0, 0, 29, [])), (8, (0, 0, 29, [])), (10, (0, 0, 24, [])), (11, (0, 0, 79, [])), (13, (0, 1, 30, []))], [(8, [11], [3]), (20, [1, 6, 10, 11], [60, 1, 3, 85, 32, 33, 34, 35]), (10, [10, 9, 8], []), (9, [9, 1], [122]), (20, [1, 5, 6, 7, 8], [60, 3, 5, 293, 31, 32, 121, 33, 34, 35, 122, 96]), (20, [1, 5], [60, 0, 3, 824, 74, 75, 96]), (24, [0, 1], [])], [], [], [(20, [1, 5, 6, 7, 8], [60, 3, 5, 294, 31, 32, 121, 33, 34, 35, 122, 96]), (20, [1, 5, 13], [60, 0, 3, 825, 74, 75, 96])], [], [])
theorem oo_Mo_shift_12 {kA : Nat → ClassId} : or_ok PRD kA GG o_Mo_shift_12 := by
  refine or_mk fun A ta ws vs hD hth hl => ?_
  intro t0 r0 t5 k5 t6 k6 t7 k7 t8 k8 t10 k10 t11 k11 t13 k13 f1 f2 f3 f4 f6 f7 f12
  replace f1 := shm_32 f1
  replace f2 := shm_990 f2
  replace f3 := shm_107 f3
  replace f4 := shm_1019 f4
  replace f6 := shm_1264 f6
  replace f7 := shm_1258 f7
  replace f12 := shm_5 f12
  have q1 : n_v vs 1 = n_v vs 0 := f12.symm
  simp only [q1] at f2 f4 f6 f7
  have ad_9 : v_ad (n_v vs 9) = w_ar ws (n_v vs 0) 122 := congrArg v_ad f4
  simp only [ad_9] at f3
  have h3 : v_iv (n_v vs 10) = w_ei ws (w_ar ws (n_v vs 0) 122) (v_iv (n_v vs 8)) := f3
  have kz_0_31 := fdq_145 hD hth r0
  have kz_0_32 := fdq_140 hD hth r0
  have kz_0_121 := fdq_242 hD hth r0
  have nf0 : fc_1 PRD (20, [1, 5, 6, 7, 8], [60, 3, 5, 294, 31, 32, 121, 33, 34, 35, 122, 96]) ws (vs) := by
    refine ⟨nf_in hl rfl, sgq_1265 ?_⟩
    · show SHC (w_fi ws (n_v vs 1) 31) (w_fi ws (n_v vs 1) 32) (w_fi ws (n_v vs 1) 121) (w_ei ws (w_ar ws (n_v vs 1) 33)) (w_ei ws (w_ar ws (n_v vs 1) 34)) (w_ei ws (w_ar ws (n_v vs 1) 35)) (w_ei ws (w_ar ws (n_v vs 1) 122)) (w_ei ws (w_ar ws (n_v vs 1) 96)) (v_iv (n_v vs 5)) (v_iv (n_v vs 6)) (v_iv (n_v vs 7)) (v_iv (n_v vs 8))
      rw [q1]
      exact vc_Mo_shift_12_0 (v_iv (n_v vs 5)) (v_iv (n_v vs 6)) (v_iv (n_v vs 7)) (v_iv (n_v vs 8)) (v_iv (n_v vs 10)) (v_iv (n_v vs 11)) (w_ei ws (w_ar ws (n_v vs 0) 33)) (w_ei ws (w_ar ws (n_v vs 0) 34)) (w_ei ws (w_ar ws (n_v vs 0) 35)) (w_fi ws (n_v vs 0) 32) (w_ei ws (w_ar ws (n_v vs 0) 122)) (w_fi ws (n_v vs 0) 31) (w_ei ws (w_ar ws (n_v vs 0) 96)) (w_fi ws (n_v vs 0) 121) k5 k6 k7 k8 k10 k11 f1 f2 h3 f6 kz_0_31 kz_0_32 kz_0_121
  have nf1 : fc_1 PRD (20, [1, 5, 13], [60, 0, 3, 825, 74, 75, 96]) ws (vs) := by
    refine ⟨nf_in hl rfl, sgq_1266 ?_⟩
    · show SPKm (w_ei ws (w_ar ws (n_v vs 1) 74)) (w_ei ws (w_ar ws (n_v vs 1) 75)) (w_ei ws (w_ar ws (n_v vs 1) 96)) (v_iv (n_v vs 5)) (v_iv (n_v vs 13))
      rw [q1]
      exact vc_Mo_shift_12_1 (v_iv (n_v vs 5)) (v_iv (n_v vs 13)) (w_ei ws (w_ar ws (n_v vs 0) 96)) (w_ei ws (w_ar ws (n_v vs 0) 74)) (w_ei ws (w_ar ws (n_v vs 0) 75)) k5 k13 f7
  refine ⟨(fun _ h => (by cases h)), [], trivial, ?_, (fun _ h => (by cases h))⟩
  rw [List.append_nil]
  exact List.forall_mem_cons.mpr ⟨⟨show (20 : Nat) < 100 from by decide, nf0⟩, List.forall_mem_cons.mpr ⟨⟨show (20 : Nat) < 100 from by decide, nf1⟩, (fun _ h => (by cases h))⟩⟩
set_option maxHeartbeats 4000000 in
theorem vc_Mo_shift_13_r0 (x5 : Int) (x6 : Int) (x7 : Int) (x8 : Int) (x10 : Int) (pt_0 : Int → Int) (ph_0 : Int → Int) (alive_0 : Int → Int) (pm_0 : Int) (upperNode_0 : Int → Int) (pn_0 : Int) (order_0 : Int → Int) (upper_0 : Int) (k5 : 3 ≤ x5 ∧ x5 ≤ 24) (k6 : 0 ≤ x6 ∧ x6 ≤ 25) (k7 : 0 ≤ x7 ∧ x7 ≤ 29) (k8 : 0 ≤ x8 ∧ x8 ≤ 29) (k10 : 0 ≤ x10 ∧ x10 ≤ 24) (h2 : x10 = upperNode_0 (x8)) (f5 : SHB (pn_0) (pm_0) (upper_0) (pt_0) (ph_0) (alive_0) (upperNode_0) (order_0) (x5) (x6) (x7) (x8)) (kz_0_31 : 0 ≤ pn_0 ∧ pn_0 ≤ 25) (kz_0_32 : 0 ≤ pm_0 ∧ pm_0 ≤ 80) (kz_0_121 : 0 ≤ upper_0 ∧ upper_0 ≤ 30) : 1 ≤ x8 ∧ x8 ≤ 29 := by
  first
    | (have h := sha_bd ‹SHA _ _ _ _ _ _ _ _ _ _ _›; omega)
    | (have h := sha_bd ‹SHB _ _ _ _ _ _ _ _ _ _ _ _›.1
       have h2 := shb_bd ‹SHB _ _ _ _ _ _ _ _ _ _ _ _›
       have h3 := ‹SHB _ _ _ _ _ _ _ _ _ _ _ _›.2.2.2.1
       omega)
def o_Mo_shift_13 : or_T := (188, 12, [(0, (2, 0, 0, [165])), (1, (2, 0, 0, [165])), (5, (0, 3, 24, [])), (6, (0, 0, 25, [])), (7, (0, 0, 29, [])), (8, (0, 0, 29, [])), (9, (2, 0, 0, [253])), (10, (0, 0, 24, [])), (11, (0, -1, -1, []))], [(8, [11], [2]), (20, [1, 6, 10, 11], [60, 1, 3, 85, 32, 33, 34, 35]), (10, [10, 9, 8], []), (9, [9, 1], [122]), (20, [1], [60, 2, 2, 75, 31, 32, 33, 34]), (20, [1, 5, 6, 7, 8], [60, 3, 5, 293, 31, 32, 121, 33, 34, 35, 122, 96]), (20, [1, 5], [60, 0, 3, 824, 74, 75, 96]), (20, [1, 5], [60, 1, 2, 827, 31, 123, 96]), (20, [1, 5], [60, 1, 2, 830, 121, 122, 96]), (20, [1], [60, 1, 1, 835, 31, 96]), (20, [1], [60, 1, 1, 823, 31, 96]), (24, [0, 1], [])], [(8, (0, 1, 29, []))], [], [], [], [])
theorem oo_Mo_shift_13 {kA : Nat → ClassId} : or_ok PRD kA GG o_Mo_shift_13 := by
  refine or_mk fun A ta ws vs hD hth hl => ?_
  intro t0 r0 t1 r1 t5 k5 t6 k6 t7 k7 t8 k8 t9 r9 t10 k10 t11 k11 f0 f1 f2 f3 f4 f5 f6 f7 f8 f9 f10 f11
  replace f2 := shm_107 f2
  replace f3 := shm_1019 f3
  replace f5 := shm_1264 f5
  replace f11 := shm_5 f11
  have q1 : n_v vs 1 = n_v vs 0 := f11.symm
  simp only [q1] at f3 f5
  have ad_9 : v_ad (n_v vs 9) = w_ar ws (n_v vs 0) 122 := congrArg v_ad f3
  simp only [ad_9] at f2
  have h2 : v_iv (n_v vs 10) = w_ei ws (w_ar ws (n_v vs 0) 122) (v_iv (n_v vs 8)) := f2
  have kz_0_31 := fdq_145 hD hth r0
  have kz_0_32 := fdq_140 hD hth r0
  have kz_0_121 := fdq_242 hD hth r0
  have hrf0 : 1 ≤ v_iv (n_v vs 8) ∧ v_iv (n_v vs 8) ≤ 29 := vc_Mo_shift_13_r0 (v_iv (n_v vs 5)) (v_iv (n_v vs 6)) (v_iv (n_v vs 7)) (v_iv (n_v vs 8)) (v_iv (n_v vs 10)) (w_ei ws (w_ar ws (n_v vs 0) 33)) (w_ei ws (w_ar ws (n_v vs 0) 34)) (w_ei ws (w_ar ws (n_v vs 0) 35)) (w_fi ws (n_v vs 0) 32) (w_ei ws (w_ar ws (n_v vs 0) 122)) (w_fi ws (n_v vs 0) 31) (w_ei ws (w_ar ws (n_v vs 0) 96)) (w_fi ws (n_v vs 0) 121) k5 k6 k7 k8 k10 h2 f5 kz_0_31 kz_0_32 kz_0_121
  have rf8 : tv_ok ta (0, 1, 29, []) (n_v vs 8) := tv_in t8 (by first | omega | grind) (by first | omega | grind)
  refine ⟨List.forall_mem_cons.mpr ⟨rf8, (fun _ h => (by cases h))⟩, [], trivial, ?_, (fun _ h => (by cases h))⟩
  rw [List.append_nil]
  exact (fun _ h => (by cases h))
set_option maxHeartbeats 4000000 in
theorem vc_Mo_shift_14_0 (x5 : Int) (x6 : Int) (x7 : Int) (x8 : Int) (x10 : Int) (x11 : Int) (x12 : Int) (pt_0 : Int → Int) (ph_0 : Int → Int) (alive_0 : Int → Int) (pm_0 : Int) (upperNode_0 : Int → Int) (pn_0 : Int) (order_0 : Int → Int) (upper_0 : Int) (k5 : 3 ≤ x5 ∧ x5 ≤ 24) (k6 : 0 ≤ x6 ∧ x6 ≤ 25) (k7 : 0 ≤ x7 ∧ x7 ≤ 29) (k8 : 1 ≤ x8 ∧ x8 ≤ 29) (k10 : 0 ≤ x10 ∧ x10 ≤ 24) (k11 : (-1) ≤ x11 ∧ x11 ≤ (-1)) (k12 : 0 ≤ x12 ∧ x12 ≤ 28) (d0 : x8 + (-1) ≤ x12 ∧ x12 ≤ x8 + (-1)) (f1 : x11 < 0) (f2 : EOF (pm_0) (pt_0) (ph_0) (alive_0) (x6) (x10) (x11)) (h3 : x10 = upperNode_0 (x8)) (f6 : SHB (pn_0) (pm_0) (upper_0) (pt_0) (ph_0) (alive_0) (upperNode_0) (order_0) (x5) (x6) (x7) (x8)) (kz_0_31 : 0 ≤ pn_0 ∧ pn_0 ≤ 25) (kz_0_32 : 0 ≤ pm_0 ∧ pm_0 ≤ 80) (kz_0_121 : 0 ≤ upper_0 ∧ upper_0 ≤ 30) : SHB (pn_0) (pm_0) (upper_0) (pt_0) (ph_0) (alive_0) (upperNode_0) (order_0) (x5) (x6) (x7) (x12) := by
  first
    | exact shb_next ‹SHB _ _ _ _ _ _ _ _ _ _ _ _› (by omega) (by have h := eof_no ‹EOF _ _ _ _ _ _ _› (by omega); rw [‹x10 = upperNode_0 x8›] at h; exact h)
def o_Mo_shift_14 : or_T := (172, 13, [(0, (2, 0, 0, [165])), (5, (0, 3, 24, [])), (6, (0, 0, 25, [])), (7, (0, 0, 29, [])), (8, (0, 1, 29, [])), (10, (0, 0, 24, [])), (11, (0, -1, -1, [])), (12, (0, 0, 28, []))], [(8, [11], [2]), (20, [1, 6, 10, 11], [60, 1, 3, 85, 32, 33, 34, 35]), (10, [10, 9, 8], []), (9, [9, 1], [122]), (20, [1, 5, 6, 7, 8], [60, 3, 5, 293, 31, 32, 121, 33, 34, 35, 122, 96]), (24, [0, 1], [])], [], [], [(20, [1, 5, 6, 7, 12], [60, 3, 5, 293, 31, 32, 121, 33, 34, 35, 122, 96])], [], [(12, 8, -1, -1)])
theorem oo_Mo_shift_14 {kA : Nat → ClassId} : or_ok PRD kA GG o_Mo_shift_14 := by
  refine or_mk fun A ta ws vs hD hth hl => ?_
  intro t0 r0 t5 k5 t6 k6 t7 k7 t8 k8 t10 k10 t11 k11 t12 k12 d0 f1 f2 f3 f4 f6 f12
  replace f1 := shm_39 f1
  replace f2 := shm_990 f2
  replace f3 := shm_107 f3
  replace f4 := shm_1019 f4
  replace f6 := shm_1264 f6
  replace f12 := shm_5 f12
  have q1 : n_v vs 1 = n_v vs 0 := f12.symm
  simp only [q1] at f2 f4 f6
  have ad_9 : v_ad (n_v vs 9) = w_ar ws (n_v vs 0) 122 := congrArg v_ad f4
  simp only [ad_9] at f3
  have h3 : v_iv (n_v vs 10) = w_ei ws (w_ar ws (n_v vs 0) 122) (v_iv (n_v vs 8)) := f3
  have kz_0_31 := fdq_145 hD hth r0
  have kz_0_32 := fdq_140 hD hth r0
  have kz_0_121 := fdq_242 hD hth r0
  have nf0 : fc_1 PRD (20, [1, 5, 6, 7, 12], [60, 3, 5, 293, 31, 32, 121, 33, 34, 35, 122, 96]) ws (vs) := by
    refine ⟨nf_in hl rfl, sgq_1264 ?_⟩
    · show SHB (w_fi ws (n_v vs 1) 31) (w_fi ws (n_v vs 1) 32) (w_fi ws (n_v vs 1) 121) (w_ei ws (w_ar ws (n_v vs 1) 33)) (w_ei ws (w_ar ws (n_v vs 1) 34)) (w_ei ws (w_ar ws (n_v vs 1) 35)) (w_ei ws (w_ar ws (n_v vs 1) 122)) (w_ei ws (w_ar ws (n_v vs 1) 96)) (v_iv (n_v vs 5)) (v_iv (n_v vs 6)) (v_iv (n_v vs 7)) (v_iv (n_v vs 12))
      rw [q1]
      exact vc_Mo_shift_14_0 (v_iv (n_v vs 5)) (v_iv (n_v vs 6)) (v_iv (n_v vs 7)) (v_iv (n_v vs 8)) (v_iv (n_v vs 10)) (v_iv (n_v vs 11)) (v_iv (n_v vs 12)) (w_ei ws (w_ar ws (n_v vs 0) 33)) (w_ei ws (w_ar ws (n_v vs 0) 34)) (w_ei ws (w_ar ws (n_v vs 0) 35)) (w_fi ws (n_v vs 0) 32) (w_ei ws (w_ar ws (n_v vs 0) 122)) (w_fi ws (n_v vs 0) 31) (w_ei ws (w_ar ws (n_v vs 0) 96)) (w_fi ws (n_v vs 0) 121) k5 k6 k7 k8 k10 k11 k12 d0 f1 f2 h3 f6 kz_0_31 kz_0_32 kz_0_121
  refine ⟨(fun _ h => (by cases h)), [], trivial, ?_, (fun _ h => (by cases h))⟩
  rw [List.append_nil]
  exact List.forall_mem_cons.mpr ⟨⟨show (20 : Nat) < 100 from by decide, nf0⟩, (fun _ h => (by cases h))⟩
set_option maxHeartbeats 4000000 in
theorem vc_Mo_shift_15_r0 (x5 : Int) (x6 : Int) (x7 : Int) (x8 : Int) (x9 : Int) (x12 : Int) (x13 : Int) (x15 : Int) (x16 : Int) (x19 : Int) (x21 : Int) (x22 : Int) (x23 : Int) (ny_0 : Int → Int) (upperNode_0 : Int → Int) (upper_0 : Int) (pt_0 : Int → Int) (ph_0 : Int → Int) (pn_0 : Int) (pm_0 : Int) (alive_0 : Int → Int) (order_0 : Int → Int) (k5 : 3 ≤ x5 ∧ x5 ≤ 24) (k6 : 0 ≤ x6 ∧ x6 ≤ 25) (k7 : 0 ≤ x7 ∧ x7 ≤ 29) (k8 : 0 ≤ x8 ∧ x8 ≤ 29) (k12 : 0 ≤ x12 ∧ x12 ≤ 24) (k21 : (-300000000) ≤ x21 ∧ x21 ≤ 300000000) (h2 : x21 = ny_0 (x12)) (f16 : SHC (pn_0) (pm_0) (upper_0) (pt_0) (ph_0) (alive_0) (upperNode_0) (order_0) (x5) (x6) (x7) (x8)) (kz_0_31 : 0 ≤ pn_0 ∧ pn_0 ≤ 25) (kz_0_32 : 0 ≤ pm_0 ∧ pm_0 ≤ 80) (kz_0_121 : 0 ≤ upper_0 ∧ upper_0 ≤ 30) : 0 ≤ x6 ∧ x6 ≤ 24 := by
  first
    | (have h := sha_x ‹SHC _ _ _ _ _ _ _ _ _ _ _ _›.1.1
       have h2 := sha_bd ‹SHC _ _ _ _ _ _ _ _ _ _ _ _›.1.1
       omega)
set_option maxHeartbeats 4000000 in
theorem vc_Mo_shift_15_r1 (x5 : Int) (x6 : Int) (x7 : Int) (x8 : Int) (x9 : Int) (x12 : Int) (x13 : Int) (x15 : Int) (x16 : Int) (x17 : Int) (x19 : Int) (x20 : Int) (x21 : Int) (x22 : Int) (x23 : Int) (x24 : Int) (ny_0 : Int → Int) (nx_0 : Int → Int) (upperNode_0 : Int → Int) (upper_0 : Int) (pt_0 : Int → Int) (ph_0 : Int → Int) (pn_0 : Int) (pm_0 : Int) (alive_0 : Int → Int) (order_0 : Int → Int) (k5 : 3 ≤ x5 ∧ x5 ≤ 24) (k6 : 0 ≤ x6 ∧ x6 ≤ 25) (k7 : 0 ≤ x7 ∧ x7 ≤ 29) (k8 : 0 ≤ x8 ∧ x8 ≤ 29) (k9 : 1 ≤ x9 ∧ x9 ≤ 30) (k12 : 0 ≤ x12 ∧ x12 ≤ 24) (k13 : 0 ≤ x13 ∧ x13 ≤ 24) (k15 : (-300000000) ≤ x15 ∧ x15 ≤ 300000000) (k16 : (-300000000) ≤ x16 ∧ x16 ≤ 300000000) (k17 : (-600000000) ≤ x17 ∧ x17 ≤ 600000000) (k19 : (-300000000) ≤ x19 ∧ x19 ≤ 300000000) (k20 : (-900000000) ≤ x20 ∧ x20 ≤ 900000000) (k21 : (-300000000) ≤ x21 ∧ x21 ≤ 300000000) (k22 : (-1200000000) ≤ x22 ∧ x22 ≤ 1200000000) (k23 : 2 ≤ x23 ∧ x23 ≤ 2) (k24 : (-1200000000) ≤ x24 ∧ x24 ≤ 1200000000) (f0 : x24 = Int.tdiv (x22) (x23)) (f1 : x22 = x20 - x21) (h2 : x21 = ny_0 (x12)) (f4 : x20 = x17 + x19) (h5 : x19 = ny_0 (x13)) (f6 : x17 = x15 + x16) (h7 : x16 = nx_0 (x13)) (h9 : x15 = nx_0 (x12)) (h10 : x13 = upperNode_0 (x8)) (h12 : x12 = upperNode_0 (x7)) (f16 : SHC (pn_0) (pm_0) (upper_0) (pt_0) (ph_0) (alive_0) (upperNode_0) (order_0) (x5) (x6) (x7) (x8)) (f17 : SPKm (nx_0) (ny_0) (order_0) (x5) (x9)) (f19 : ULU (upper_0) (upperNode_0) (order_0) (x5)) (kz_0_31 : 0 ≤ pn_0 ∧ pn_0 ≤ 25) (kz_0_32 : 0 ≤ pm_0 ∧ pm_0 ≤ 80) (kz_0_121 : 0 ≤ upper_0 ∧ upper_0 ≤ 30) : (-2000) ≤ x24 ∧ x24 ≤ 2000 := by
  first
    | (have sx := sha_bd ‹SHC _ _ _ _ _ _ _ _ _ _ _ _›.1.1
       have sb := shc_end ‹SHC _ _ _ _ _ _ _ _ _ _ _ _›
       have ul := ‹ULU _ _ _ _› x7 (by omega) (by omega)
       have ur := ‹ULU _ _ _ _› x8 (by omega) (by omega)
       rw [← ‹x12 = upperNode_0 x7›] at ul
       rw [← ‹x13 = upperNode_0 x8›] at ur
       exact put_bd (S := 64 * x5 + 2 * x9) (l := x12) (r := x13) (a := x15) (b := x16) (c := x19) (d := x21) (e := x22) ‹SPKm _ _ _ _ _› ul ur (by omega) (by assumption) (by assumption) (by assumption) (by assumption) (Or.inl (by omega)) (by rw [show (2 : Int) = x23 by omega]; assumption))
def o_Mo_shift_15 : or_T := (300, 25, [(0, (2, 0, 0, [165])), (1, (2, 0, 0, [165])), (5, (0, 3, 24, [])), (6, (0, 0, 25, [])), (7, (0, 0, 29, [])), (8, (0, 0, 29, [])), (9, (0, 1, 30, [])), (10, (0, 0, 30, [])), (11, (2, 0, 0, [253])), (12, (0, 0, 24, [])), (13, (0, 0, 24, [])), (14, (2, 0, 0, [214])), (15, (0, -300000000, 300000000, [])), (16, (0, -300000000, 300000000, [])), (17, (0, -600000000, 600000000, [])), (18, (2, 0, 0, [215])), (19, (0, -300000000, 300000000, [])), (20, (0, -900000000, 900000000, [])), (21, (0, -300000000, 300000000, [])), (22, (0, -1200000000, 1200000000, [])), (23, (0, 2, 2, [])), (24, (0, -1200000000, 1200000000, []))], [(4, [24, 22, 23], []), (2, [22, 20, 21], []), (10, [21, 18, 12], []), (9, [18, 1], [75]), (1, [20, 17, 19], []), (10, [19, 18, 13], []), (1, [17, 15, 16], []), (10, [16, 14, 13], []), (9, [14, 1], [74]), (10, [15, 14, 12], []), (10, [13, 11, 8], []), (9, [11, 1], [122]), (10, [12, 11, 7], []), (7, [9, 10], [3]), (9, [10, 1], [121]), (20, [1], [60, 2, 2, 75, 31, 32, 33, 34]), (20, [1, 5, 6, 7, 8], [60, 3, 5, 294, 31, 32, 121, 33, 34, 35, 122, 96]), (20, [1, 5, 9], [60, 0, 3, 825, 74, 75, 96]), (20, [1, 5], [60, 1, 2, 827, 31, 123, 96]), (20, [1, 5], [60, 1, 2, 830, 121, 122, 96]), (20, [1], [60, 1, 1, 823, 31, 96]), (20, [1], [60, 1, 1, 835, 31, 96]), (24, [0, 1], [])], [(6, (0, 0, 24, [])), (24, (0, -2000, 2000, []))], [], [], [], [(22, 20, -300000000, 300000000), (22, 19, -900000000, 900000000), (22, 17, -600000000, 600000000), (22, 16, -900000000, 900000000), (22, 15, -900000000, 900000000), (20, 19, -600000000, 600000000), (20, 17, -300000000, 300000000), (20, 16, -600000000, 600000000), (20, 15, -600000000, 600000000), (17, 16, -300000000, 300000000), (17, 15, -300000000, 300000000), (9, 10, 0, 4294967296), (7, 9, -4294967296, -1)])
theorem oo_Mo_shift_15 {kA : Nat → ClassId} : or_ok PRD kA GG o_Mo_shift_15 := by
  refine or_mk fun A ta ws vs hD hth hl => ?_
  intro t0 r0 t1 r1 t5 k5 t6 k6 t7 k7 t8 k8 t9 k9 t10 k10 t11 r11 t12 k12 t13 k13 t14 r14 t15 k15 t16 k16 t17 k17 t18 r18 t19 k19 t20 k20 t21 k21 t22 k22 t23 k23 t24 k24 d0 d1 d2 d3 d4 d5 d6 d7 d8 d9 d10 d11 d12 f0 f1 f2 f3 f4 f5 f6 f7 f8 f9 f10 f11 f12 f13 f14 f15 f16 f17 f18 f19 f20 f21 f22
  replace f2 := shm_107 f2
  replace f3 := shm_1251 f3
  replace f5 := shm_107 f5
  replace f7 := shm_107 f7
  replace f8 := shm_647 f8
  replace f9 := shm_107 f9
  replace f10 := shm_107 f10
  replace f11 := shm_1019 f11
  replace f12 := shm_107 f12
  replace f16 := shm_1265 f16
  replace f17 := shm_1266 f17
  replace f19 := shm_1260 f19
  replace f22 := shm_5 f22
  have q1 : n_v vs 1 = n_v vs 0 := f22.symm
  simp only [q1] at f3 f8 f11 f16 f17 f19
  have ad_18 : v_ad (n_v vs 18) = w_ar ws (n_v vs 0) 75 := congrArg v_ad f3
  have ad_14 : v_ad (n_v vs 14) = w_ar ws (n_v vs 0) 74 := congrArg v_ad f8
  have ad_11 : v_ad (n_v vs 11) = w_ar ws (n_v vs 0) 122 := congrArg v_ad f11
  simp only [ad_18] at f2
  have h2 : v_iv (n_v vs 21) = w_ei ws (w_ar ws (n_v vs 0) 75) (v_iv (n_v vs 12)) := f2
  simp only [ad_18] at f5
  have h5 : v_iv (n_v vs 19) = w_ei ws (w_ar ws (n_v vs 0) 75) (v_iv (n_v vs 13)) := f5
  simp only [ad_14] at f7
  have h7 : v_iv (n_v vs 16) = w_ei ws (w_ar ws (n_v vs 0) 74) (v_iv (n_v vs 13)) := f7
  simp only [ad_14] at f9
  have h9 : v_iv (n_v vs 15) = w_ei ws (w_ar ws (n_v vs 0) 74) (v_iv (n_v vs 12)) := f9
  simp only [ad_11] at f10
  have h10 : v_iv (n_v vs 13) = w_ei ws (w_ar ws (n_v vs 0) 122) (v_iv (n_v vs 8)) := f10
  simp only [ad_11] at f12
  have h12 : v_iv (n_v vs 12) = w_ei ws (w_ar ws (n_v vs 0) 122) (v_iv (n_v vs 7)) := f12
  have kz_0_31 := fdq_145 hD hth r0
  have kz_0_32 := fdq_140 hD hth r0
  have kz_0_121 := fdq_242 hD hth r0
  have hrf0 : 0 ≤ v_iv (n_v vs 6) ∧ v_iv (n_v vs 6) ≤ 24 := vc_Mo_shift_15_r0 (v_iv (n_v vs 5)) (v_iv (n_v vs 6)) (v_iv (n_v vs 7)) (v_iv (n_v vs 8)) (v_iv (n_v vs 9)) (v_iv (n_v vs 12)) (v_iv (n_v vs 13)) (v_iv (n_v vs 15)) (v_iv (n_v vs 16)) (v_iv (n_v vs 19)) (v_iv (n_v vs 21)) (v_iv (n_v vs 22)) (v_iv (n_v vs 23)) (w_ei ws (w_ar ws (n_v vs 0) 75)) (w_ei ws (w_ar ws (n_v vs 0) 122)) (w_fi ws (n_v vs 0) 121) (w_ei ws (w_ar ws (n_v vs 0) 33)) (w_ei ws (w_ar ws (n_v vs 0) 34)) (w_fi ws (n_v vs 0) 31) (w_fi ws (n_v vs 0) 32) (w_ei ws (w_ar ws (n_v vs 0) 35)) (w_ei ws (w_ar ws (n_v vs 0) 96)) k5 k6 k7 k8 k12 k21 h2 f16 kz_0_31 kz_0_32 kz_0_121
  have hrf1 : (-2000) ≤ v_iv (n_v vs 24) ∧ v_iv (n_v vs 24) ≤ 2000 := vc_Mo_shift_15_r1 (v_iv (n_v vs 5)) (v_iv (n_v vs 6)) (v_iv (n_v vs 7)) (v_iv (n_v vs 8)) (v_iv (n_v vs 9)) (v_iv (n_v vs 12)) (v_iv (n_v vs 13)) (v_iv (n_v vs 15)) (v_iv (n_v vs 16)) (v_iv (n_v vs 17)) (v_iv (n_v vs 19)) (v_iv (n_v vs 20)) (v_iv (n_v vs 21)) (v_iv (n_v vs 22)) (v_iv (n_v vs 23)) (v_iv (n_v vs 24)) (w_ei ws (w_ar ws (n_v vs 0) 75)) (w_ei ws (w_ar ws (n_v vs 0) 74)) (w_ei ws (w_ar ws (n_v vs 0) 122)) (w_fi ws (n_v vs 0) 121) (w_ei ws (w_ar ws (n_v vs 0) 33)) (w_ei ws (w_ar ws (n_v vs 0) 34)) (w_fi ws (n_v vs 0) 31) (w_fi ws (n_v vs 0) 32) (w_ei ws (w_ar ws (n_v vs 0) 35)) (w_ei ws (w_ar ws (n_v vs 0) 96)) k5 k6 k7 k8 k9 k12 k13 k15 k16 k17 k19 k20 k21 k22 k23 k24 (shm_34 f0) (shm_14 f1) h2 (shm_12 f4) h5 (shm_12 f6) h7 h9 h10 h12 f16 f17 f19 kz_0_31 kz_0_32 kz_0_121
  have rf6 : tv_ok ta (0, 0, 24, []) (n_v vs 6) := tv_in t6 (by first | omega | grind) (by first | omega | grind)
  have rf24 : tv_ok ta (0, -2000, 2000, []) (n_v vs 24) := tv_in t24 (by first | omega | grind) (by first | omega | grind)
  refine ⟨List.forall_mem_cons.mpr ⟨rf6, List.forall_mem_cons.mpr ⟨rf24, (fun _ h => (by cases h))⟩⟩, [], trivial, ?_, (fun _ h => (by cases h))⟩
  rw [List.append_nil]
  exact (fun _ h => (by cases h))
set_option maxHeartbeats 4000000 in
theorem vc_Mo_shift_16_r0 (x5 : Int) (x6 : Int) (x7 : Int) (x8 : Int) (x9 : Int) (x12 : Int) (x13 : Int) (x15 : Int) (x16 : Int) (x17 : Int) (x19 : Int) (x20 : Int) (x21 : Int) (x22 : Int) (x24 : Int) (x25 : Int) (x26 : Int) (x27 : Int) (x28 : Int) (x29 : Int) (x30 : Int) (x31 : Int) (x32 : Int) (x33 : Int) (ny_0 : Int → Int) (nx_0 : Int → Int) (pt_0 : Int → Int) (ph_0 : Int → Int) (pn_0 : Int) (pm_0 : Int) (alive_0 : Int → Int) (upperNode_0 : Int → Int) (order_0 : Int → Int) (upper_0 : Int) (under_0 : Int → Int) (ny_1 : Int → Int) (nx_1 : Int → Int) (upperNode_1 : Int → Int) (upper_1 : Int) (pt_1 : Int → Int) (ph_1 : Int → Int) (pn_1 : Int) (pm_1 : Int) (alive_1 : Int → Int) (order_1 : Int → Int) (under_1 : Int → Int) (k5 : 3 ≤ x5 ∧ x5 ≤ 24) (k6 : 0 ≤ x6 ∧ x6 ≤ 24) (k7 : 0 ≤ x7 ∧ x7 ≤ 29) (k8 : 0 ≤ x8 ∧ x8 ≤ 29) (k9 : 1 ≤ x9 ∧ x9 ≤ 30) (k12 : 0 ≤ x12 ∧ x12 ≤ 24) (k13 : 0 ≤ x13 ∧ x13 ≤ 24) (k15 : (-300000000) ≤ x15 ∧ x15 ≤ 300000000) (k16 : (-300000000) ≤ x16 ∧ x16 ≤ 300000000) (k17 : (-600000000) ≤ x17 ∧ x17 ≤ 600000000) (k19 : (-300000000) ≤ x19 ∧ x19 ≤ 300000000) (k20 : (-900000000) ≤ x20 ∧ x20 ≤ 900000000) (k21 : (-300000000) ≤ x21 ∧ x21 ≤ 300000000) (k22 : (-1200000000) ≤ x22 ∧ x22 ≤ 1200000000) (k24 : (-2000) ≤ x24 ∧ x24 ≤ 2000) (k25 : (-300000000) ≤ x25 ∧ x25 ≤ 300000000) (k26 : (-300000000) ≤ x26 ∧ x26 ≤ 300000000) (k27 : (-600000000) ≤ x27 ∧ x27 ≤ 600000000) (k28 : (-300000000) ≤ x28 ∧ x28 ≤ 300000000) (k29 : (-900000000) ≤ x29 ∧ x29 ≤ 900000000) (k30 : (-300000000) ≤ x30 ∧ x30 ≤ 300000000) (k31 : (-1200000000) ≤ x31 ∧ x31 ≤ 1200000000) (k32 : 2 ≤ x32 ∧ x32 ≤ 2) (k33 : (-1200000000) ≤ x33 ∧ x33 ≤ 1200000000) (f0 : x33 = Int.tdiv (x31) (x32)) (f1 : x31 = x29 + x30) (h2 : x30 = ny_0 (x12)) (f4 : x29 = x27 + x28) (h5 : x28 = ny_0 (x13)) (f6 : x27 = x25 - x26) (h7 : x26 = nx_0 (x12)) (h9 : x25 = nx_0 (x13)) (f19 : x22 = x20 - x21) (h20 : x21 = ny_1 (x12)) (f21 : x20 = x17 + x19) (h22 : x19 = ny_1 (x13)) (f23 : x17 = x15 + x16) (h24 : x16 = nx_1 (x13)) (h25 : x15 = nx_1 (x12)) (h26 : x13 = upperNode_1 (x8)) (h28 : x12 = upperNode_1 (x7)) (f31 : GOK (pn_1) (pm_1) (pt_1) (ph_1)) (f32 : SHC (pn_1) (pm_1) (upper_1) (pt_1) (ph_1) (alive_1) (upperNode_1) (order_1) (x5) (x6) (x7) (x8)) (f33 : SPKm (nx_1) (ny_1) (order_1) (x5) (x9)) (f35 : ULU (upper_1) (upperNode_1) (order_1) (x5)) (fe_0_31_1 : pn_0 = pn_1) (fe_0_32_1 : pm_0 = pm_1) (fe_0_121_1 : upper_0 = upper_1) (hE_0_33_1 : ∀ j : Int, pt_0 j = pt_1 j) (hE_0_34_1 : ∀ j : Int, ph_0 j = ph_1 j) (hE_0_35_1 : ∀ j : Int, alive_0 j = alive_1 j) (hE_0_74_1 : ∀ j : Int, 0 ≤ j → (j = x6 → nx_0 j = x24) ∧ (j ≠ x6 → nx_0 j = nx_1 j)) (hE_0_75_1 : ∀ j : Int, ny_0 j = ny_1 j) (hE_0_96_1 : ∀ j : Int, order_0 j = order_1 j) (hE_0_122_1 : ∀ j : Int, upperNode_0 j = upperNode_1 j) (hE_0_123_1 : ∀ j : Int, under_0 j = under_1 j) (kz_0_31 : 0 ≤ pn_0 ∧ pn_0 ≤ 25) (kz_0_32 : 0 ≤ pm_0 ∧ pm_0 ≤ 80) (kz_0_121 : 0 ≤ upper_0 ∧ upper_0 ≤ 30) : (-2000) ≤ x33 ∧ x33 ≤ 2000 := by
  subst fe_0_31_1
  subst fe_0_32_1
  subst fe_0_121_1
  have e_hE_0_33_1 := funext hE_0_33_1; subst e_hE_0_33_1
  have e_hE_0_34_1 := funext hE_0_34_1; subst e_hE_0_34_1
  have e_hE_0_35_1 := funext hE_0_35_1; subst e_hE_0_35_1
  have e_hE_0_75_1 := funext hE_0_75_1; subst e_hE_0_75_1
  have e_hE_0_96_1 := funext hE_0_96_1; subst e_hE_0_96_1
  have e_hE_0_122_1 := funext hE_0_122_1; subst e_hE_0_122_1
  have e_hE_0_123_1 := funext hE_0_123_1; subst e_hE_0_123_1
  first
    | (have ne := shc_ne ‹SHC _ _ _ _ _ _ _ _ _ _ _ _› ‹GOK _ _ _ _›
       have sx := sha_bd ‹SHC _ _ _ _ _ _ _ _ _ _ _ _›.1.1
       have sb := shc_end ‹SHC _ _ _ _ _ _ _ _ _ _ _ _›
       have ul := ‹ULU _ _ _ _› x7 (by omega) (by omega)
       have ur := ‹ULU _ _ _ _› x8 (by omega) (by omega)
       rw [← ‹x12 = upperNode_0 x7›] at ul ne
       rw [← ‹x13 = upperNode_0 x8›] at ur ne
       have e25 := (hE_0_74_1 x13 (by omega)).2 (by omega)
       have e26 := (hE_0_74_1 x12 (by omega)).2 (by omega)
       exact put_bd (S := 64 * x5 + 2 * x9) (l := x12) (r := x13) (a := x15) (b := x16) (c := x19) (d := x21) (e := x31) ‹SPKm _ _ _ _ _› ul ur (by omega) (by assumption) (by assumption) (by assumption) (by assumption) (Or.inr (by omega)) (by rw [show (2 : Int) = x32 by omega]; assumption))
def o_Mo_shift_16 : or_T := (340, 34, [(0, (2, 0, 0, [165])), (1, (2, 0, 0, [165])), (5, (0, 3, 24, [])), (6, (0, 0, 24, [])), (7, (0, 0, 29, [])), (8, (0, 0, 29, [])), (9, (0, 1, 30, [])), (10, (0, 0, 30, [])), (11, (2, 0, 0, [253])), (12, (0, 0, 24, [])), (13, (0, 0, 24, [])), (14, (2, 0, 0, [214])), (15, (0, -300000000, 300000000, [])), (16, (0, -300000000, 300000000, [])), (17, (0, -600000000, 600000000, [])), (18, (2, 0, 0, [215])), (19, (0, -300000000, 300000000, [])), (20, (0, -900000000, 900000000, [])), (21, (0, -300000000, 300000000, [])), (22, (0, -1200000000, 1200000000, [])), (23, (0, 2, 2, [])), (24, (0, -2000, 2000, [])), (25, (0, -300000000, 300000000, [])), (26, (0, -300000000, 300000000, [])), (27, (0, -600000000, 600000000, [])), (28, (0, -300000000, 300000000, [])), (29, (0, -900000000, 900000000, [])), (30, (0, -300000000, 300000000, [])), (31, (0, -1200000000, 1200000000, [])), (32, (0, 2, 2, [])), (33, (0, -1200000000, 1200000000, []))], [(4, [33, 31, 32], []), (1, [31, 29, 30], []), (10, [30, 18, 12], []), (9, [18, 1], [75]), (1, [29, 27, 28], []), (10, [28, 18, 13], []), (2, [27, 25, 26], []), (10, [26, 14, 12], []), (9, [14, 1], [74]), (10, [25, 14, 13], []), (20, [1], [60, 2, 2, 75, 31, 32, 33, 34]), (20, [1, 5, 6, 7, 8], [60, 3, 5, 294, 31, 32, 121, 33, 34, 35, 122, 96]), (20, [1, 5], [60, 1, 2, 827, 31, 123, 96]), (20, [1, 5], [60, 1, 2, 830, 121, 122, 96]), (20, [1], [60, 1, 1, 823, 31, 96]), (20, [1], [60, 1, 1, 835, 31, 96]), (24, [0, 1], []), (100, [14, 6, 24], []), (4, [24, 22, 23], []), (2, [22, 20, 21], []), (10, [21, 18, 12], []), (1, [20, 17, 19], []), (10, [19, 18, 13], []), (1, [17, 15, 16], []), (10, [16, 14, 13], []), (10, [15, 14, 12], []), (10, [13, 11, 8], []), (9, [11, 1], [122]), (10, [12, 11, 7], []), (7, [9, 10], [3]), (9, [10, 1], [121]), (20, [1], [60, 2, 2, 75, 31, 32, 33, 34]), (20, [1, 5, 6, 7, 8], [60, 3, 5, 294, 31, 32, 121, 33, 34, 35, 122, 96]), (20, [1, 5, 9], [60, 0, 3, 825, 74, 75, 96]), (20, [1, 5], [60, 1, 2, 827, 31, 123, 96]), (20, [1, 5], [60, 1, 2, 830, 121, 122, 96]), (20, [1], [60, 1, 1, 823, 31, 96]), (20, [1], [60, 1, 1, 835, 31, 96])], [(33, (0, -2000, 2000, []))], [], [], [], [(31, 30, -900000000, 900000000), (31, 29, -300000000, 300000000), (31, 28, -900000000, 900000000), (31, 27, -600000000, 600000000), (31, 25, -900000000, 900000000), (29, 28, -600000000, 600000000), (29, 27, -300000000, 300000000), (29, 25, -600000000, 600000000), (27, 25, -300000000, 300000000), (22, 20, -300000000, 300000000), (22, 19, -900000000, 900000000), (22, 17, -600000000, 600000000), (22, 16, -900000000, 900000000), (22, 15, -900000000, 900000000), (20, 19, -600000000, 600000000), (20, 17, -300000000, 300000000), (20, 16, -600000000, 600000000), (20, 15, -600000000, 600000000), (17, 16, -300000000, 300000000), (17, 15, -300000000, 300000000), (9, 10, 0, 4294967296), (7, 9, -4294967296, -1)])
theorem oo_Mo_shift_16 {kA : Nat → ClassId} : or_ok PRD kA GG o_Mo_shift_16 := by
  refine or_mk fun A ta ws vs hD hth hl => ?_
  intro t0 r0 t1 r1 t5 k5 t6 k6 t7 k7 t8 k8 t9 k9 t10 k10 t11 r11 t12 k12 t13 k13 t14 r14 t15 k15 t16 k16 t17 k17 t18 r18 t19 k19 t20 k20 t21 k21 t22 k22 t23 k23 t24 k24 t25 k25 t26 k26 t27 k27 t28 k28 t29 k29 t30 k30 t31 k31 t32 k32 t33 k33 d0 d1 d2 d3 d4 d5 d6 d7 d8 d9 d10 d11 d12 d13 d14 d15 d16 d17 d18 d19 d20 d21 f0 f1 f2 f3 f4 f5 f6 f7 f8 f9 f10 f11 f12 f13 f14 f15 f16 ta1 w1 le1 s1 f18 f19 f20 f21 f22 f23 f24 f25 f26 f27 f28 f29 f30 f31 f32 f33 f34 f35 f36 f37
  replace f2 := shm_107 f2
  replace f3 := shm_1251 f3
  replace f5 := shm_107 f5
  replace f7 := shm_107 f7
  replace f8 := shm_647 f8
  replace f9 := shm_107 f9
  replace f16 := shm_5 f16
  have s1 : (∀ b j, w_el ws b j = if b = v_ad (n_v vs 14) ∧ j = (v_iv (n_v vs 6)).toNat then v_iv (n_v vs 24) else w_el w1 b j) ∧ ∀ b k, w_fd ws b k = w_fd w1 b k := s1.2
  replace f20 := shm_107 f20
  replace f22 := shm_107 f22
  replace f24 := shm_107 f24
  replace f25 := shm_107 f25
  replace f26 := shm_107 f26
  replace f27 := shm_1019 f27
  replace f28 := shm_107 f28
  replace f31 := shm_575 f31
  replace f32 := shm_1265 f32
  replace f33 := shm_1266 f33
  replace f35 := shm_1260 f35
  have q1 : n_v vs 1 = n_v vs 0 := f16.symm
  simp only [q1] at f3 f8 f27 f31 f32 f33 f35
  have ar_0_33_1 : w_ar w1 (n_v vs 0) 33 = w_ar ws (n_v vs 0) 33 := congrArg v_ad (s1.2 _ _).symm
  have cr_0_33 := fdq_117 hD hth r0
  have ar_0_34_1 : w_ar w1 (n_v vs 0) 34 = w_ar ws (n_v vs 0) 34 := congrArg v_ad (s1.2 _ _).symm
  have cr_0_34 := fdq_118 hD hth r0
  have ar_0_35_1 : w_ar w1 (n_v vs 0) 35 = w_ar ws (n_v vs 0) 35 := congrArg v_ad (s1.2 _ _).symm
  have cr_0_35 := fdq_132 hD hth r0
  have ar_0_74_1 : w_ar w1 (n_v vs 0) 74 = w_ar ws (n_v vs 0) 74 := congrArg v_ad (s1.2 _ _).symm
  have ar_0_75_1 : w_ar w1 (n_v vs 0) 75 = w_ar ws (n_v vs 0) 75 := congrArg v_ad (s1.2 _ _).symm
  have cr_0_75 := fdq_165 hD hth r0
  have ar_0_96_1 : w_ar w1 (n_v vs 0) 96 = w_ar ws (n_v vs 0) 96 := congrArg v_ad (s1.2 _ _).symm
  have cr_0_96 := fdq_166 hD hth r0
  have ar_0_122_1 : w_ar w1 (n_v vs 0) 122 = w_ar ws (n_v vs 0) 122 := congrArg v_ad (s1.2 _ _).symm
  have cr_0_122 := fdq_241 hD hth r0
  have ar_0_123_1 : w_ar w1 (n_v vs 0) 123 = w_ar ws (n_v vs 0) 123 := congrArg v_ad (s1.2 _ _).symm
  have cr_0_123 := fdq_281 hD hth r0
  have ad_18 : v_ad (n_v vs 18) = w_ar ws (n_v vs 0) 75 := congrArg v_ad f3
  have ad_14 : v_ad (n_v vs 14) = w_ar ws (n_v vs 0) 74 := congrArg v_ad f8
  have ad_11 : v_ad (n_v vs 11) = w_ar ws (n_v vs 0) 122 := (congrArg v_ad f27).trans ar_0_122_1
  simp only [ad_18] at f2
  have h2 : v_iv (n_v vs 30) = w_ei ws (w_ar ws (n_v vs 0) 75) (v_iv (n_v vs 12)) := f2
  simp only [ad_18] at f5
  have h5 : v_iv (n_v vs 28) = w_ei ws (w_ar ws (n_v vs 0) 75) (v_iv (n_v vs 13)) := f5
  simp only [ad_14] at f7
  have h7 : v_iv (n_v vs 26) = w_ei ws (w_ar ws (n_v vs 0) 74) (v_iv (n_v vs 12)) := f7
  simp only [ad_14] at f9
  have h9 : v_iv (n_v vs 25) = w_ei ws (w_ar ws (n_v vs 0) 74) (v_iv (n_v vs 13)) := f9
  simp only [ad_18] at f20
  have h20 : v_iv (n_v vs 21) = w_ei w1 (w_ar ws (n_v vs 0) 75) (v_iv (n_v vs 12)) := f20
  simp only [ad_18] at f22
  have h22 : v_iv (n_v vs 19) = w_ei w1 (w_ar ws (n_v vs 0) 75) (v_iv (n_v vs 13)) := f22
  simp only [ad_14] at f24
  have h24 : v_iv (n_v vs 16) = w_ei w1 (w_ar ws (n_v vs 0) 74) (v_iv (n_v vs 13)) := f24
  simp only [ad_14] at f25
  have h25 : v_iv (n_v vs 15) = w_ei w1 (w_ar ws (n_v vs 0) 74) (v_iv (n_v vs 12)) := f25
  simp only [ad_11] at f26
  have h26 : v_iv (n_v vs 13) = w_ei w1 (w_ar ws (n_v vs 0) 122) (v_iv (n_v vs 8)) := f26
  simp only [ad_11] at f28
  have h28 : v_iv (n_v vs 12) = w_ei w1 (w_ar ws (n_v vs 0) 122) (v_iv (n_v vs 7)) := f28
  simp only [ar_0_33_1, ar_0_34_1, ar_0_35_1, ar_0_96_1, ar_0_122_1, ar_0_74_1, ar_0_75_1, ar_0_123_1] at f31 f32 f33 f35
  have fe_0_31_1 : w_fi ws (n_v vs 0) 31 = w_fi w1 (n_v vs 0) 31 := congrArg v_iv (s1.2 _ _)
  have fe_0_32_1 : w_fi ws (n_v vs 0) 32 = w_fi w1 (n_v vs 0) 32 := congrArg v_iv (s1.2 _ _)
  have fe_0_121_1 : w_fi ws (n_v vs 0) 121 = w_fi w1 (n_v vs 0) 121 := congrArg v_iv (s1.2 _ _)
  have hE_0_33_1 : ∀ j : Int, w_ei ws (w_ar ws (n_v vs 0) 33) j = w_ei w1 (w_ar ws (n_v vs 0) 33) j := el_kp s1.1 r14 cr_0_33 (by decide)
  have hE_0_34_1 : ∀ j : Int, w_ei ws (w_ar ws (n_v vs 0) 34) j = w_ei w1 (w_ar ws (n_v vs 0) 34) j := el_kp s1.1 r14 cr_0_34 (by decide)
  have hE_0_35_1 : ∀ j : Int, w_ei ws (w_ar ws (n_v vs 0) 35) j = w_ei w1 (w_ar ws (n_v vs 0) 35) j := el_kp s1.1 r14 cr_0_35 (by decide)
  have hE_0_74_1 : ∀ j : Int, 0 ≤ j → (j = v_iv (n_v vs 6) → w_ei ws (w_ar ws (n_v vs 0) 74) j = v_iv (n_v vs 24)) ∧ (j ≠ v_iv (n_v vs 6) → w_ei ws (w_ar ws (n_v vs 0) 74) j = w_ei w1 (w_ar ws (n_v vs 0) 74) j) := fun j hj => ⟨fun h => by unfold w_ei; rw [s1.1, if_pos ⟨ad_14.symm, by rw [h]⟩], fun h => by unfold w_ei; rw [s1.1, if_neg (fun e => h (by have := e.2; omega))]⟩
  have hE_0_75_1 : ∀ j : Int, w_ei ws (w_ar ws (n_v vs 0) 75) j = w_ei w1 (w_ar ws (n_v vs 0) 75) j := el_kp s1.1 r14 cr_0_75 (by decide)
  have hE_0_96_1 : ∀ j : Int, w_ei ws (w_ar ws (n_v vs 0) 96) j = w_ei w1 (w_ar ws (n_v vs 0) 96) j := el_kp s1.1 r14 cr_0_96 (by decide)
  have hE_0_122_1 : ∀ j : Int, w_ei ws (w_ar ws (n_v vs 0) 122) j = w_ei w1 (w_ar ws (n_v vs 0) 122) j := el_kp s1.1 r14 cr_0_122 (by decide)
  have hE_0_123_1 : ∀ j : Int, w_ei ws (w_ar ws (n_v vs 0) 123) j = w_ei w1 (w_ar ws (n_v vs 0) 123) j := el_kp s1.1 r14 cr_0_123 (by decide)
  have kz_0_31 := fdq_145 hD hth r0
  have kz_0_32 := fdq_140 hD hth r0
  have kz_0_121 := fdq_242 hD hth r0
  have hrf0 : (-2000) ≤ v_iv (n_v vs 33) ∧ v_iv (n_v vs 33) ≤ 2000 := vc_Mo_shift_16_r0 (v_iv (n_v vs 5)) (v_iv (n_v vs 6)) (v_iv (n_v vs 7)) (v_iv (n_v vs 8)) (v_iv (n_v vs 9)) (v_iv (n_v vs 12)) (v_iv (n_v vs 13)) (v_iv (n_v vs 15)) (v_iv (n_v vs 16)) (v_iv (n_v vs 17)) (v_iv (n_v vs 19)) (v_iv (n_v vs 20)) (v_iv (n_v vs 21)) (v_iv (n_v vs 22)) (v_iv (n_v vs 24)) (v_iv (n_v vs 25)) (v_iv (n_v vs 26)) (v_iv (n_v vs 27)) (v_iv (n_v vs 28)) (v_iv (n_v vs 29)) (v_iv (n_v vs 30)) (v_iv (n_v vs 31)) (v_iv (n_v vs 32)) (v_iv (n_v vs 33)) (w_ei ws (w_ar ws (n_v vs 0) 75)) (w_ei ws (w_ar ws (n_v vs 0) 74)) (w_ei ws (w_ar ws (n_v vs 0) 33)) (w_ei ws (w_ar ws (n_v vs 0) 34)) (w_fi ws (n_v vs 0) 31) (w_fi ws (n_v vs 0) 32) (w_ei ws (w_ar ws (n_v vs 0) 35)) (w_ei ws (w_ar ws (n_v vs 0) 122)) (w_ei ws (w_ar ws (n_v vs 0) 96)) (w_fi ws (n_v vs 0) 121) (w_ei ws (w_ar ws (n_v vs 0) 123)) (w_ei w1 (w_ar ws (n_v vs 0) 75)) (w_ei w1 (w_ar ws (n_v vs 0) 74)) (w_ei w1 (w_ar ws (n_v vs 0) 122)) (w_fi w1 (n_v vs 0) 121) (w_ei w1 (w_ar ws (n_v vs 0) 33)) (w_ei w1 (w_ar ws (n_v vs 0) 34)) (w_fi w1 (n_v vs 0) 31) (w_fi w1 (n_v vs 0) 32) (w_ei w1 (w_ar ws (n_v vs 0) 35)) (w_ei w1 (w_ar ws (n_v vs 0) 96)) (w_ei w1 (w_ar ws (n_v vs 0) 123)) k5 k6 k7 k8 k9 k12 k13 k15 k16 k17 k19 k20 k21 k22 k24 k25 k26 k27 k28 k29 k30 k31 k32 k33 (shm_34 f0) (shm_12 f1) h2 (shm_12 f4) h5 (shm_14 f6) h7 h9 (shm_14 f19) h20 (shm_12 f21) h22 (shm_12 f23) h24 h25 h26 h28 f31 f32 f33 f35 fe_0_31_1 fe_0_32_1 fe_0_121_1 hE_0_33_1 hE_0_34_1 hE_0_35_1 hE_0_74_1 hE_0_75_1 hE_0_96_1 hE_0_122_1 hE_0_123_1 kz_0_31 kz_0_32 kz_0_121
  have rf33 : tv_ok ta (0, -2000, 2000, []) (n_v vs 33) := tv_in t33 (by first | omega | grind) (by first | omega | grind)
  refine ⟨List.forall_mem_cons.mpr ⟨rf33, (fun _ h => (by cases h))⟩, [], trivial, ?_, (fun _ h => (by cases h))⟩
  rw [List.append_nil]
  exact (fun _ h => (by cases h))
set_option maxHeartbeats 4000000 in
theorem vc_Mo_shift_17_0 (x5 : Int) (x6 : Int) (x7 : Int) (x8 : Int) (x9 : Int) (x12 : Int) (x13 : Int) (x15 : Int) (x16 : Int) (x17 : Int) (x19 : Int) (x20 : Int) (x21 : Int) (x22 : Int) (x23 : Int) (x24 : Int) (x25 : Int) (x26 : Int) (x27 : Int) (x28 : Int) (x29 : Int) (x30 : Int) (x31 : Int) (x32 : Int) (x33 : Int) (x35 : Int) (pt_0 : Int → Int) (ph_0 : Int → Int) (pn_0 : Int) (pm_0 : Int) (alive_0 : Int → Int) (upperNode_0 : Int → Int) (order_0 : Int → Int) (upper_0 : Int) (under_0 : Int → Int) (ny_1 : Int → Int) (nx_1 : Int → Int) (pt_1 : Int → Int) (ph_1 : Int → Int) (pn_1 : Int) (pm_1 : Int) (alive_1 : Int → Int) (upperNode_1 : Int → Int) (order_1 : Int → Int) (upper_1 : Int) (under_1 : Int → Int) (ny_2 : Int → Int) (nx_2 : Int → Int) (upperNode_2 : Int → Int) (upper_2 : Int) (pt_2 : Int → Int) (ph_2 : Int → Int) (pn_2 : Int) (pm_2 : Int) (alive_2 : Int → Int) (order_2 : Int → Int) (under_2 : Int → Int) (nx_0 : Int → Int) (ny_0 : Int → Int) (k5 : 3 ≤ x5 ∧ x5 ≤ 24) (k6 : 0 ≤ x6 ∧ x6 ≤ 24) (k7 : 0 ≤ x7 ∧ x7 ≤ 29) (k8 : 0 ≤ x8 ∧ x8 ≤ 29) (k9 : 1 ≤ x9 ∧ x9 ≤ 30) (k12 : 0 ≤ x12 ∧ x12 ≤ 24) (k13 : 0 ≤ x13 ∧ x13 ≤ 24) (k15 : (-300000000) ≤ x15 ∧ x15 ≤ 300000000) (k16 : (-300000000) ≤ x16 ∧ x16 ≤ 300000000) (k17 : (-600000000) ≤ x17 ∧ x17 ≤ 600000000) (k19 : (-300000000) ≤ x19 ∧ x19 ≤ 300000000) (k20 : (-900000000) ≤ x20 ∧ x20 ≤ 900000000) (k21 : (-300000000) ≤ x21 ∧ x21 ≤ 300000000) (k22 : (-1200000000) ≤ x22 ∧ x22 ≤ 1200000000) (k23 : 2 ≤ x23 ∧ x23 ≤ 2) (k24 : (-2000) ≤ x24 ∧ x24 ≤ 2000) (k25 : (-300000000) ≤ x25 ∧ x25 ≤ 300000000) (k26 : (-300000000) ≤ x26 ∧ x26 ≤ 300000000) (k27 : (-600000000) ≤ x27 ∧ x27 ≤ 600000000) (k28 : (-300000000) ≤ x28 ∧ x28 ≤ 300000000) (k29 : (-900000000) ≤ x29 ∧ x29 ≤ 900000000) (k30 : (-300000000) ≤ x30 ∧ x30 ≤ 300000000) (k31 : (-1200000000) ≤ x31 ∧ x31 ≤ 1200000000) (k32 : 2 ≤ x32 ∧ x32 ≤ 2) (k33 : (-2000) ≤ x33 ∧ x33 ≤ 2000) (k35 : 1 ≤ x35 ∧ x35 ≤ 30) (d0 : x7 + 1 ≤ x35 ∧ x35 ≤ x7 + 1) (f9 : x33 = Int.tdiv (x31) (x32)) (f10 : x31 = x29 + x30) (h11 : x30 = ny_1 (x12)) (f13 : x29 = x27 + x28) (h14 : x28 = ny_1 (x13)) (f15 : x27 = x25 - x26) (h16 : x26 = nx_1 (x12)) (h18 : x25 = nx_1 (x13)) (f26 : x24 = Int.tdiv (x22) (x23)) (f27 : x22 = x20 - x21) (h28 : x21 = ny_2 (x12)) (f29 : x20 = x17 + x19) (h30 : x19 = ny_2 (x13)) (f31 : x17 = x15 + x16) (h32 : x16 = nx_2 (x13)) (h33 : x15 = nx_2 (x12)) (h34 : x13 = upperNode_2 (x8)) (h36 : x12 = upperNode_2 (x7)) (f39 : GOK (pn_2) (pm_2) (pt_2) (ph_2)) (f40 : SHC (pn_2) (pm_2) (upper_2) (pt_2) (ph_2) (alive_2) (upperNode_2) (order_2) (x5) (x6) (x7) (x8)) (f41 : SPKm (nx_2) (ny_2) (order_2) (x5) (x9)) (f43 : ULU (upper_2) (upperNode_2) (order_2) (x5)) (f45 : ORN4 (pn_2) (order_2)) (fe_0_31_1 : pn_0 = pn_1) (fe_0_32_1 : pm_0 = pm_1) (fe_0_121_1 : upper_0 = upper_1) (fe_0_31_2 : pn_1 = pn_2) (fe_0_32_2 : pm_1 = pm_2) (fe_0_121_2 : upper_1 = upper_2) (hE_0_33_1 : ∀ j : Int, pt_0 j = pt_1 j) (hE_0_33_2 : ∀ j : Int, pt_1 j = pt_2 j) (hE_0_34_1 : ∀ j : Int, ph_0 j = ph_1 j) (hE_0_34_2 : ∀ j : Int, ph_1 j = ph_2 j) (hE_0_35_1 : ∀ j : Int, alive_0 j = alive_1 j) (hE_0_35_2 : ∀ j : Int, alive_1 j = alive_2 j) (hE_0_74_1 : ∀ j : Int, nx_0 j = nx_1 j) (hE_0_74_2 : ∀ j : Int, 0 ≤ j → (j = x6 → nx_1 j = x24) ∧ (j ≠ x6 → nx_1 j = nx_2 j)) (hE_0_75_1 : ∀ j : Int, 0 ≤ j → (j = x6 → ny_0 j = x33) ∧ (j ≠ x6 → ny_0 j = ny_1 j)) (hE_0_75_2 : ∀ j : Int, ny_1 j = ny_2 j) (hE_0_96_1 : ∀ j : Int, order_0 j = order_1 j) (hE_0_96_2 : ∀ j : Int, order_1 j = order_2 j) (hE_0_122_1 : ∀ j : Int, upperNode_0 j = upperNode_1 j) (hE_0_122_2 : ∀ j : Int, upperNode_1 j = upperNode_2 j) (hE_0_123_1 : ∀ j : Int, under_0 j = under_1 j) (hE_0_123_2 : ∀ j : Int, under_1 j = under_2 j) (kz_0_31 : 0 ≤ pn_0 ∧ pn_0 ≤ 25) (kz_0_32 : 0 ≤ pm_0 ∧ pm_0 ≤ 80) (kz_0_121 : 0 ≤ upper_0 ∧ upper_0 ≤ 30) : SPKn (nx_0) (ny_0) (order_0) (x5) := by
  subst fe_0_31_1
  subst fe_0_32_1
  subst fe_0_121_1
  subst fe_0_31_2
  subst fe_0_32_2
  subst fe_0_121_2
  have e_hE_0_33_1 := funext hE_0_33_1; subst e_hE_0_33_1
  have e_hE_0_33_2 := funext hE_0_33_2; subst e_hE_0_33_2
  have e_hE_0_34_1 := funext hE_0_34_1; subst e_hE_0_34_1
  have e_hE_0_34_2 := funext hE_0_34_2; subst e_hE_0_34_2
  have e_hE_0_35_1 := funext hE_0_35_1; subst e_hE_0_35_1
  have e_hE_0_35_2 := funext hE_0_35_2; subst e_hE_0_35_2
  have e_hE_0_74_1 := funext hE_0_74_1; subst e_hE_0_74_1
  have e_hE_0_75_2 := funext hE_0_75_2; subst e_hE_0_75_2
  have e_hE_0_96_1 := funext hE_0_96_1; subst e_hE_0_96_1
  have e_hE_0_96_2 := funext hE_0_96_2; subst e_hE_0_96_2
  have e_hE_0_122_1 := funext hE_0_122_1; subst e_hE_0_122_1
  have e_hE_0_122_2 := funext hE_0_122_2; subst e_hE_0_122_2
  have e_hE_0_123_1 := funext hE_0_123_1; subst e_hE_0_123_1
  have e_hE_0_123_2 := funext hE_0_123_2; subst e_hE_0_123_2
  first
    | (have ne := shc_ne ‹SHC _ _ _ _ _ _ _ _ _ _ _ _› ‹GOK _ _ _ _›
       have sx := sha_bd ‹SHC _ _ _ _ _ _ _ _ _ _ _ _›.1.1
       have sb := shc_end ‹SHC _ _ _ _ _ _ _ _ _ _ _ _›
       have hx := ‹SHC _ _ _ _ _ _ _ _ _ _ _ _›.1.1.2.1.2
       have ul := ‹ULU _ _ _ _› x7 (by omega) (by omega)
       have ur := ‹ULU _ _ _ _› x8 (by omega) (by omega)
       rw [← ‹x12 = upperNode_0 x7›] at ul ne
       rw [← ‹x13 = upperNode_0 x8›] at ur ne
       have e25 := (hE_0_74_2 x13 (by omega)).2 (by omega)
       have e26 := (hE_0_74_2 x12 (by omega)).2 (by omega)
       exact spk_put (S := 64 * x5 + 2 * x9) (x := x6) (l := x12) (r := x13) (a := x15) (b := x16) (c := x19) (d := x21) (e := x22) (f := x31) ‹SPKm _ _ _ _ _› ul ur (by omega) (by omega) (by omega) (by omega) (fun j a b => (‹ORN4 _ _› j a (by omega)).1) hx (by assumption) (by assumption) (by assumption) (by assumption) (by omega) (by omega) hE_0_74_2 (by omega) (by rw [show (2 : Int) = x23 by omega]; assumption) hE_0_75_1 (by omega) (by rw [show (2 : Int) = x32 by omega]; assumption) rfl (by omega))
set_option maxHeartbeats 4000000 in
theorem vc_Mo_shift_17_1 (x5 : Int) (x6 : Int) (x13 : Int) (x15 : Int) (x16 : Int) (pt_0 : Int → Int) (ph_0 : Int → Int) (pn_0 : Int) (pm_0 : Int) (alive_0 : Int → Int) (upperNode_0 : Int → Int) (order_0 : Int → Int) (upper_0 : Int) (under_0 : Int → Int) (ny_1 : Int → Int) (nx_1 : Int → Int) (pt_1 : Int → Int) (ph_1 : Int → Int) (pn_1 : Int) (pm_1 : Int) (alive_1 : Int → Int) (upperNode_1 : Int → Int) (order_1 : Int → Int) (upper_1 : Int) (under_1 : Int → Int) (ny_2 : Int → Int) (upperNode_2 : Int → Int) (upper_2 : Int) (pt_2 : Int → Int) (ph_2 : Int → Int) (pn_2 : Int) (pm_2 : Int) (alive_2 : Int → Int) (order_2 : Int → Int) (under_2 : Int → Int) (nx_0 : Int → Int) (k5 : 3 ≤ x5 ∧ x5 ≤ 24) (f42 : UND (pn_2) (under_2) (order_2) (x5)) (fe_0_31_1 : pn_0 = pn_1) (fe_0_32_1 : pm_0 = pm_1) (fe_0_121_1 : upper_0 = upper_1) (fe_0_31_2 : pn_1 = pn_2) (fe_0_32_2 : pm_1 = pm_2) (fe_0_121_2 : upper_1 = upper_2) (hE_0_33_1 : ∀ j : Int, pt_0 j = pt_1 j) (hE_0_33_2 : ∀ j : Int, pt_1 j = pt_2 j) (hE_0_34_1 : ∀ j : Int, ph_0 j = ph_1 j) (hE_0_34_2 : ∀ j : Int, ph_1 j = ph_2 j) (hE_0_35_1 : ∀ j : Int, alive_0 j = alive_1 j) (hE_0_35_2 : ∀ j : Int, alive_1 j = alive_2 j) (hE_0_74_1 : ∀ j : Int, nx_0 j = nx_1 j) (hE_0_75_2 : ∀ j : Int, ny_1 j = ny_2 j) (hE_0_96_1 : ∀ j : Int, order_0 j = order_1 j) (hE_0_96_2 : ∀ j : Int, order_1 j = order_2 j) (hE_0_122_1 : ∀ j : Int, upperNode_0 j = upperNode_1 j) (hE_0_122_2 : ∀ j : Int, upperNode_1 j = upperNode_2 j) (hE_0_123_1 : ∀ j : Int, under_0 j = under_1 j) (hE_0_123_2 : ∀ j : Int, under_1 j = under_2 j) (kz_0_31 : 0 ≤ pn_0 ∧ pn_0 ≤ 25) (kz_0_32 : 0 ≤ pm_0 ∧ pm_0 ≤ 80) (kz_0_121 : 0 ≤ upper_0 ∧ upper_0 ≤ 30) : UNDn (pn_0) (under_0) (order_0) (x5) := by
  subst fe_0_31_1
  subst fe_0_32_1
  subst fe_0_121_1
  subst fe_0_31_2
  subst fe_0_32_2
  subst fe_0_121_2
  have e_hE_0_33_1 := funext hE_0_33_1; subst e_hE_0_33_1
  have e_hE_0_33_2 := funext hE_0_33_2; subst e_hE_0_33_2
  have e_hE_0_34_1 := funext hE_0_34_1; subst e_hE_0_34_1
  have e_hE_0_34_2 := funext hE_0_34_2; subst e_hE_0_34_2
  have e_hE_0_35_1 := funext hE_0_35_1; subst e_hE_0_35_1
  have e_hE_0_35_2 := funext hE_0_35_2; subst e_hE_0_35_2
  have e_hE_0_74_1 := funext hE_0_74_1; subst e_hE_0_74_1
  have e_hE_0_75_2 := funext hE_0_75_2; subst e_hE_0_75_2
  have e_hE_0_96_1 := funext hE_0_96_1; subst e_hE_0_96_1
  have e_hE_0_96_2 := funext hE_0_96_2; subst e_hE_0_96_2
  have e_hE_0_122_1 := funext hE_0_122_1; subst e_hE_0_122_1
  have e_hE_0_122_2 := funext hE_0_122_2; subst e_hE_0_122_2
  have e_hE_0_123_1 := funext hE_0_123_1; subst e_hE_0_123_1
  have e_hE_0_123_2 := funext hE_0_123_2; subst e_hE_0_123_2
  first
    | exact und_le ‹UND _ _ _ _› (by omega)
def o_Mo_shift_17 : or_T := (347, 36, [(0, (2, 0, 0, [165])), (5, (0, 3, 24, [])), (6, (0, 0, 24, [])), (7, (0, 0, 29, [])), (8, (0, 0, 29, [])), (9, (0, 1, 30, [])), (12, (0, 0, 24, [])), (13, (0, 0, 24, [])), (14, (2, 0, 0, [214])), (15, (0, -300000000, 300000000, [])), (16, (0, -300000000, 300000000, [])), (17, (0, -600000000, 600000000, [])), (18, (2, 0, 0, [215])), (19, (0, -300000000, 300000000, [])), (20, (0, -900000000, 900000000, [])), (21, (0, -300000000, 300000000, [])), (22, (0, -1200000000, 1200000000, [])), (23, (0, 2, 2, [])), (24, (0, -2000, 2000, [])), (25, (0, -300000000, 300000000, [])), (26, (0, -300000000, 300000000, [])), (27, (0, -600000000, 600000000, [])), (28, (0, -300000000, 300000000, [])), (29, (0, -900000000, 900000000, [])), (30, (0, -300000000, 300000000, [])), (31, (0, -1200000000, 1200000000, [])), (32, (0, 2, 2, [])), (33, (0, -2000, 2000, [])), (35, (0, 1, 30, []))], [(24, [0, 1], []), (100, [18, 6, 33], []), (4, [33, 31, 32], []), (1, [31, 29, 30], []), (10, [30, 18, 12], []), (9, [18, 1], [75]), (1, [29, 27, 28], []), (10, [28, 18, 13], []), (2, [27, 25, 26], []), (10, [26, 14, 12], []), (9, [14, 1], [74]), (10, [25, 14, 13], []), (100, [14, 6, 24], []), (4, [24, 22, 23], []), (2, [22, 20, 21], []), (10, [21, 18, 12], []), (1, [20, 17, 19], []), (10, [19, 18, 13], []), (1, [17, 15, 16], []), (10, [16, 14, 13], []), (10, [15, 14, 12], []), (10, [13, 11, 8], []), (9, [11, 1], [122]), (10, [12, 11, 7], []), (20, [1], [60, 2, 2, 75, 31, 32, 33, 34]), (20, [1, 5, 6, 7, 8], [60, 3, 5, 294, 31, 32, 121, 33, 34, 35, 122, 96]), (20, [1, 5, 9], [60, 0, 3, 825, 74, 75, 96]), (20, [1, 5], [60, 1, 2, 827, 31, 123, 96]), (20, [1, 5], [60, 1, 2, 830, 121, 122, 96]), (20, [1], [60, 1, 1, 835, 31, 96])], [], [], [(20, [1, 5], [60, 0, 3, 826, 74, 75, 96]), (20, [1, 5], [60, 1, 2, 828, 31, 123, 96])], [], [(35, 7, 1, 1)])
theorem oo_Mo_shift_17 {kA : Nat → ClassId} : or_ok PRD kA GG o_Mo_shift_17 := by
  refine or_mk fun A ta ws vs hD hth hl => ?_
  intro t0 r0 t5 k5 t6 k6 t7 k7 t8 k8 t9 k9 t12 k12 t13 k13 t14 r14 t15 k15 t16 k16 t17 k17 t18 r18 t19 k19 t20 k20 t21 k21 t22 k22 t23 k23 t24 k24 t25 k25 t26 k26 t27 k27 t28 k28 t29 k29 t30 k30 t31 k31 t32 k32 t33 k33 t35 k35 d0 f7 ta1 w1 le1 s1 f9 f10 f11 f12 f13 f14 f15 f16 f17 f18 ta2 w2 le2 s2 f26 f27 f28 f29 f30 f31 f32 f33 f34 f35 f36 f39 f40 f41 f42 f43 f45
  replace f7 := shm_5 f7
  have s1 : (∀ b j, w_el ws b j = if b = v_ad (n_v vs 18) ∧ j = (v_iv (n_v vs 6)).toNat then v_iv (n_v vs 33) else w_el w1 b j) ∧ ∀ b k, w_fd ws b k = w_fd w1 b k := s1.2
  replace f9 := shm_34 f9
  replace f10 := shm_12 f10
  replace f11 := shm_107 f11
  replace f12 := shm_1251 f12
  replace f13 := shm_12 f13
  replace f14 := shm_107 f14
  replace f15 := shm_14 f15
  replace f16 := shm_107 f16
  replace f17 := shm_647 f17
  replace f18 := shm_107 f18
  have s2 : (∀ b j, w_el w1 b j = if b = v_ad (n_v vs 14) ∧ j = (v_iv (n_v vs 6)).toNat then v_iv (n_v vs 24) else w_el w2 b j) ∧ ∀ b k, w_fd w1 b k = w_fd w2 b k := s2.2
  replace f26 := shm_34 f26
  replace f27 := shm_14 f27
  replace f28 := shm_107 f28
  replace f29 := shm_12 f29
  replace f30 := shm_107 f30
  replace f31 := shm_12 f31
  replace f32 := shm_107 f32
  replace f33 := shm_107 f33
  replace f34 := shm_107 f34
  replace f35 := shm_1019 f35
  replace f36 := shm_107 f36
  replace f39 := shm_575 f39
  replace f40 := shm_1265 f40
  replace f41 := shm_1266 f41
  replace f42 := shm_1259 f42
  replace f43 := shm_1260 f43
  replace f45 := shm_643 f45
  have q1 : n_v vs 1 = n_v vs 0 := f7.symm
  simp only [q1] at f12 f17 f35 f39 f40 f41 f42 f43 f45
  have ar_0_33_1 : w_ar w1 (n_v vs 0) 33 = w_ar ws (n_v vs 0) 33 := congrArg v_ad (s1.2 _ _).symm
  have ar_0_33_2 : w_ar w2 (n_v vs 0) 33 = w_ar ws (n_v vs 0) 33 := by rw [← ar_0_33_1]; show v_ad (w_fd w2 _ _) = v_ad (w_fd w1 _ _); rw [s2.2]
  have cr_0_33 := fdq_117 hD hth r0
  have ar_0_34_1 : w_ar w1 (n_v vs 0) 34 = w_ar ws (n_v vs 0) 34 := congrArg v_ad (s1.2 _ _).symm
  have ar_0_34_2 : w_ar w2 (n_v vs 0) 34 = w_ar ws (n_v vs 0) 34 := by rw [← ar_0_34_1]; show v_ad (w_fd w2 _ _) = v_ad (w_fd w1 _ _); rw [s2.2]
  have cr_0_34 := fdq_118 hD hth r0
  have ar_0_35_1 : w_ar w1 (n_v vs 0) 35 = w_ar ws (n_v vs 0) 35 := congrArg v_ad (s1.2 _ _).symm
  have ar_0_35_2 : w_ar w2 (n_v vs 0) 35 = w_ar ws (n_v vs 0) 35 := by rw [← ar_0_35_1]; show v_ad (w_fd w2 _ _) = v_ad (w_fd w1 _ _); rw [s2.2]
  have cr_0_35 := fdq_132 hD hth r0
  have ar_0_74_1 : w_ar w1 (n_v vs 0) 74 = w_ar ws (n_v vs 0) 74 := congrArg v_ad (s1.2 _ _).symm
  have ar_0_74_2 : w_ar w2 (n_v vs 0) 74 = w_ar ws (n_v vs 0) 74 := by rw [← ar_0_74_1]; show v_ad (w_fd w2 _ _) = v_ad (w_fd w1 _ _); rw [s2.2]
  have cr_0_74 := fdq_164 hD hth r0
  have ar_0_75_1 : w_ar w1 (n_v vs 0) 75 = w_ar ws (n_v vs 0) 75 := congrArg v_ad (s1.2 _ _).symm
  have ar_0_75_2 : w_ar w2 (n_v vs 0) 75 = w_ar ws (n_v vs 0) 75 := by rw [← ar_0_75_1]; show v_ad (w_fd w2 _ _) = v_ad (w_fd w1 _ _); rw [s2.2]
  have cr_0_75 := fdq_165 hD hth r0
  have ar_0_96_1 : w_ar w1 (n_v vs 0) 96 = w_ar ws (n_v vs 0) 96 := congrArg v_ad (s1.2 _ _).symm
  have ar_0_96_2 : w_ar w2 (n_v vs 0) 96 = w_ar ws (n_v vs 0) 96 := by rw [← ar_0_96_1]; show v_ad (w_fd w2 _ _) = v_ad (w_fd w1 _ _); rw [s2.2]
  have cr_0_96 := fdq_166 hD hth r0
  have ar_0_122_1 : w_ar w1 (n_v vs 0) 122 = w_ar ws (n_v vs 0) 122 := congrArg v_ad (s1.2 _ _).symm
  have ar_0_122_2 : w_ar w2 (n_v vs 0) 122 = w_ar ws (n_v vs 0) 122 := by rw [← ar_0_122_1]; show v_ad (w_fd w2 _ _) = v_ad (w_fd w1 _ _); rw [s2.2]
  have cr_0_122 := fdq_241 hD hth r0
  have ar_0_123_1 : w_ar w1 (n_v vs 0) 123 = w_ar ws (n_v vs 0) 123 := congrArg v_ad (s1.2 _ _).symm
  have ar_0_123_2 : w_ar w2 (n_v vs 0) 123 = w_ar ws (n_v vs 0) 123 := by rw [← ar_0_123_1]; show v_ad (w_fd w2 _ _) = v_ad (w_fd w1 _ _); rw [s2.2]
  have cr_0_123 := fdq_281 hD hth r0
  have ad_18 : v_ad (n_v vs 18) = w_ar ws (n_v vs 0) 75 := (congrArg v_ad f12).trans ar_0_75_1
  have ad_14 : v_ad (n_v vs 14) = w_ar ws (n_v vs 0) 74 := (congrArg v_ad f17).trans ar_0_74_1
  have ad_11 : v_ad (n_v vs 11) = w_ar ws (n_v vs 0) 122 := (congrArg v_ad f35).trans ar_0_122_2
  simp only [ad_18] at f11
  have h11 : v_iv (n_v vs 30) = w_ei w1 (w_ar ws (n_v vs 0) 75) (v_iv (n_v vs 12)) := f11
  simp only [ad_18] at f14
  have h14 : v_iv (n_v vs 28) = w_ei w1 (w_ar ws (n_v vs 0) 75) (v_iv (n_v vs 13)) := f14
  simp only [ad_14] at f16
  have h16 : v_iv (n_v vs 26) = w_ei w1 (w_ar ws (n_v vs 0) 74) (v_iv (n_v vs 12)) := f16
  simp only [ad_14] at f18
  have h18 : v_iv (n_v vs 25) = w_ei w1 (w_ar ws (n_v vs 0) 74) (v_iv (n_v vs 13)) := f18
  simp only [ar_0_33_1, ar_0_34_1, ar_0_35_1, ar_0_96_1, ar_0_122_1, ar_0_123_1, ad_18] at f28
  have h28 : v_iv (n_v vs 21) = w_ei w2 (w_ar ws (n_v vs 0) 75) (v_iv (n_v vs 12)) := f28
  simp only [ad_18] at f30
  have h30 : v_iv (n_v vs 19) = w_ei w2 (w_ar ws (n_v vs 0) 75) (v_iv (n_v vs 13)) := f30
  simp only [ad_14] at f32
  have h32 : v_iv (n_v vs 16) = w_ei w2 (w_ar ws (n_v vs 0) 74) (v_iv (n_v vs 13)) := f32
  simp only [ad_14] at f33
  have h33 : v_iv (n_v vs 15) = w_ei w2 (w_ar ws (n_v vs 0) 74) (v_iv (n_v vs 12)) := f33
  simp only [ad_11] at f34
  have h34 : v_iv (n_v vs 13) = w_ei w2 (w_ar ws (n_v vs 0) 122) (v_iv (n_v vs 8)) := f34
  simp only [ad_11] at f36
  have h36 : v_iv (n_v vs 12) = w_ei w2 (w_ar ws (n_v vs 0) 122) (v_iv (n_v vs 7)) := f36
  simp only [ar_0_33_2, ar_0_34_2, ar_0_35_2, ar_0_96_2, ar_0_122_2, ar_0_74_2, ar_0_75_2, ar_0_123_2] at f39 f40 f41 f42 f43 f45
  have fe_0_31_1 : w_fi ws (n_v vs 0) 31 = w_fi w1 (n_v vs 0) 31 := congrArg v_iv (s1.2 _ _)
  have fe_0_32_1 : w_fi ws (n_v vs 0) 32 = w_fi w1 (n_v vs 0) 32 := congrArg v_iv (s1.2 _ _)
  have fe_0_121_1 : w_fi ws (n_v vs 0) 121 = w_fi w1 (n_v vs 0) 121 := congrArg v_iv (s1.2 _ _)
  have fe_0_31_2 : w_fi w1 (n_v vs 0) 31 = w_fi w2 (n_v vs 0) 31 := congrArg v_iv (s2.2 _ _)
  have fe_0_32_2 : w_fi w1 (n_v vs 0) 32 = w_fi w2 (n_v vs 0) 32 := congrArg v_iv (s2.2 _ _)
  have fe_0_121_2 : w_fi w1 (n_v vs 0) 121 = w_fi w2 (n_v vs 0) 121 := congrArg v_iv (s2.2 _ _)
  have hE_0_33_1 : ∀ j : Int, w_ei ws (w_ar ws (n_v vs 0) 33) j = w_ei w1 (w_ar ws (n_v vs 0) 33) j := el_kp s1.1 r18 cr_0_33 (by decide)
  have hE_0_33_2 : ∀ j : Int, w_ei w1 (w_ar ws (n_v vs 0) 33) j = w_ei w2 (w_ar ws (n_v vs 0) 33) j := el_kp s2.1 r14 cr_0_33 (by decide)
  have hE_0_34_1 : ∀ j : Int, w_ei ws (w_ar ws (n_v vs 0) 34) j = w_ei w1 (w_ar ws (n_v vs 0) 34) j := el_kp s1.1 r18 cr_0_34 (by decide)
  have hE_0_34_2 : ∀ j : Int, w_ei w1 (w_ar ws (n_v vs 0) 34) j = w_ei w2 (w_ar ws (n_v vs 0) 34) j := el_kp s2.1 r14 cr_0_34 (by decide)
  have hE_0_35_1 : ∀ j : Int, w_ei ws (w_ar ws (n_v vs 0) 35) j = w_ei w1 (w_ar ws (n_v vs 0) 35) j := el_kp s1.1 r18 cr_0_35 (by decide)
  have hE_0_35_2 : ∀ j : Int, w_ei w1 (w_ar ws (n_v vs 0) 35) j = w_ei w2 (w_ar ws (n_v vs 0) 35) j := el_kp s2.1 r14 cr_0_35 (by decide)
  have hE_0_74_1 : ∀ j : Int, w_ei ws (w_ar ws (n_v vs 0) 74) j = w_ei w1 (w_ar ws (n_v vs 0) 74) j := el_kp s1.1 r18 cr_0_74 (by decide)
  have hE_0_74_2 : ∀ j : Int, 0 ≤ j → (j = v_iv (n_v vs 6) → w_ei w1 (w_ar ws (n_v vs 0) 74) j = v_iv (n_v vs 24)) ∧ (j ≠ v_iv (n_v vs 6) → w_ei w1 (w_ar ws (n_v vs 0) 74) j = w_ei w2 (w_ar ws (n_v vs 0) 74) j) := fun j hj => ⟨fun h => by unfold w_ei; rw [s2.1, if_pos ⟨ad_14.symm, by rw [h]⟩], fun h => by unfold w_ei; rw [s2.1, if_neg (fun e => h (by have := e.2; omega))]⟩
  have hE_0_75_1 : ∀ j : Int, 0 ≤ j → (j = v_iv (n_v vs 6) → w_ei ws (w_ar ws (n_v vs 0) 75) j = v_iv (n_v vs 33)) ∧ (j ≠ v_iv (n_v vs 6) → w_ei ws (w_ar ws (n_v vs 0) 75) j = w_ei w1 (w_ar ws (n_v vs 0) 75) j) := fun j hj => ⟨fun h => by unfold w_ei; rw [s1.1, if_pos ⟨ad_18.symm, by rw [h]⟩], fun h => by unfold w_ei; rw [s1.1, if_neg (fun e => h (by have := e.2; omega))]⟩
  have hE_0_75_2 : ∀ j : Int, w_ei w1 (w_ar ws (n_v vs 0) 75) j = w_ei w2 (w_ar ws (n_v vs 0) 75) j := el_kp s2.1 r14 cr_0_75 (by decide)
  have hE_0_96_1 : ∀ j : Int, w_ei ws (w_ar ws (n_v vs 0) 96) j = w_ei w1 (w_ar ws (n_v vs 0) 96) j := el_kp s1.1 r18 cr_0_96 (by decide)
  have hE_0_96_2 : ∀ j : Int, w_ei w1 (w_ar ws (n_v vs 0) 96) j = w_ei w2 (w_ar ws (n_v vs 0) 96) j := el_kp s2.1 r14 cr_0_96 (by decide)
  have hE_0_122_1 : ∀ j : Int, w_ei ws (w_ar ws (n_v vs 0) 122) j = w_ei w1 (w_ar ws (n_v vs 0) 122) j := el_kp s1.1 r18 cr_0_122 (by decide)
  have hE_0_122_2 : ∀ j : Int, w_ei w1 (w_ar ws (n_v vs 0) 122) j = w_ei w2 (w_ar ws (n_v vs 0) 122) j := el_kp s2.1 r14 cr_0_122 (by decide)
  have hE_0_123_1 : ∀ j : Int, w_ei ws (w_ar ws (n_v vs 0) 123) j = w_ei w1 (w_ar ws (n_v vs 0) 123) j := el_kp s1.1 r18 cr_0_123 (by decide)
  have hE_0_123_2 : ∀ j : Int, w_ei w1 (w_ar ws (n_v vs 0) 123) j = w_ei w2 (w_ar ws (n_v vs 0) 123) j := el_kp s2.1 r14 cr_0_123 (by decide)
  have kz_0_31 := fdq_145 hD hth r0
  have kz_0_32 := fdq_140 hD hth r0
  have kz_0_121 := fdq_242 hD hth r0
  have nf0 : fc_1 PRD (20, [1, 5], [60, 0, 3, 826, 74, 75, 96]) ws (vs) := by
    refine ⟨nf_in hl rfl, sgq_1267 ?_⟩
    · show SPKn (w_ei ws (w_ar ws (n_v vs 1) 74)) (w_ei ws (w_ar ws (n_v vs 1) 75)) (w_ei ws (w_ar ws (n_v vs 1) 96)) (v_iv (n_v vs 5))
      rw [q1]
      exact vc_Mo_shift_17_0 (v_iv (n_v vs 5)) (v_iv (n_v vs 6)) (v_iv (n_v vs 7)) (v_iv (n_v vs 8)) (v_iv (n_v vs 9)) (v_iv (n_v vs 12)) (v_iv (n_v vs 13)) (v_iv (n_v vs 15)) (v_iv (n_v vs 16)) (v_iv (n_v vs 17)) (v_iv (n_v vs 19)) (v_iv (n_v vs 20)) (v_iv (n_v vs 21)) (v_iv (n_v vs 22)) (v_iv (n_v vs 23)) (v_iv (n_v vs 24)) (v_iv (n_v vs 25)) (v_iv (n_v vs 26)) (v_iv (n_v vs 27)) (v_iv (n_v vs 28)) (v_iv (n_v vs 29)) (v_iv (n_v vs 30)) (v_iv (n_v vs 31)) (v_iv (n_v vs 32)) (v_iv (n_v vs 33)) (v_iv (n_v vs 35)) (w_ei ws (w_ar ws (n_v vs 0) 33)) (w_ei ws (w_ar ws (n_v vs 0) 34)) (w_fi ws (n_v vs 0) 31) (w_fi ws (n_v vs 0) 32) (w_ei ws (w_ar ws (n_v vs 0) 35)) (w_ei ws (w_ar ws (n_v vs 0) 122)) (w_ei ws (w_ar ws (n_v vs 0) 96)) (w_fi ws (n_v vs 0) 121) (w_ei ws (w_ar ws (n_v vs 0) 123)) (w_ei w1 (w_ar ws (n_v vs 0) 75)) (w_ei w1 (w_ar ws (n_v vs 0) 74)) (w_ei w1 (w_ar ws (n_v vs 0) 33)) (w_ei w1 (w_ar ws (n_v vs 0) 34)) (w_fi w1 (n_v vs 0) 31) (w_fi w1 (n_v vs 0) 32) (w_ei w1 (w_ar ws (n_v vs 0) 35)) (w_ei w1 (w_ar ws (n_v vs 0) 122)) (w_ei w1 (w_ar ws (n_v vs 0) 96)) (w_fi w1 (n_v vs 0) 121) (w_ei w1 (w_ar ws (n_v vs 0) 123)) (w_ei w2 (w_ar ws (n_v vs 0) 75)) (w_ei w2 (w_ar ws (n_v vs 0) 74)) (w_ei w2 (w_ar ws (n_v vs 0) 122)) (w_fi w2 (n_v vs 0) 121) (w_ei w2 (w_ar ws (n_v vs 0) 33)) (w_ei w2 (w_ar ws (n_v vs 0) 34)) (w_fi w2 (n_v vs 0) 31) (w_fi w2 (n_v vs 0) 32) (w_ei w2 (w_ar ws (n_v vs 0) 35)) (w_ei w2 (w_ar ws (n_v vs 0) 96)) (w_ei w2 (w_ar ws (n_v vs 0) 123)) (w_ei ws (w_ar ws (n_v vs 0) 74)) (w_ei ws (w_ar ws (n_v vs 0) 75)) k5 k6 k7 k8 k9 k12 k13 k15 k16 k17 k19 k20 k21 k22 k23 k24 k25 k26 k27 k28 k29 k30 k31 k32 k33 k35 d0 f9 f10 h11 f13 h14 f15 h16 h18 f26 f27 h28 f29 h30 f31 h32 h33 h34 h36 f39 f40 f41 f43 f45 fe_0_31_1 fe_0_32_1 fe_0_121_1 fe_0_31_2 fe_0_32_2 fe_0_121_2 hE_0_33_1 hE_0_33_2 hE_0_34_1 hE_0_34_2 hE_0_35_1 hE_0_35_2 hE_0_74_1 hE_0_74_2 hE_0_75_1 hE_0_75_2 hE_0_96_1 hE_0_96_2 hE_0_122_1 hE_0_122_2 hE_0_123_1 hE_0_123_2 kz_0_31 kz_0_32 kz_0_121
  have nf1 : fc_1 PRD (20, [1, 5], [60, 1, 2, 828, 31, 123, 96]) ws (vs) := by
    refine ⟨nf_in hl rfl, sgq_1268 ?_⟩
    · show UNDn (w_fi ws (n_v vs 1) 31) (w_ei ws (w_ar ws (n_v vs 1) 123)) (w_ei ws (w_ar ws (n_v vs 1) 96)) (v_iv (n_v vs 5))
      rw [q1]
      exact vc_Mo_shift_17_1 (v_iv (n_v vs 5)) (v_iv (n_v vs 6)) (v_iv (n_v vs 13)) (v_iv (n_v vs 15)) (v_iv (n_v vs 16)) (w_ei ws (w_ar ws (n_v vs 0) 33)) (w_ei ws (w_ar ws (n_v vs 0) 34)) (w_fi ws (n_v vs 0) 31) (w_fi ws (n_v vs 0) 32) (w_ei ws (w_ar ws (n_v vs 0) 35)) (w_ei ws (w_ar ws (n_v vs 0) 122)) (w_ei ws (w_ar ws (n_v vs 0) 96)) (w_fi ws (n_v vs 0) 121) (w_ei ws (w_ar ws (n_v vs 0) 123)) (w_ei w1 (w_ar ws (n_v vs 0) 75)) (w_ei w1 (w_ar ws (n_v vs 0) 74)) (w_ei w1 (w_ar ws (n_v vs 0) 33)) (w_ei w1 (w_ar ws (n_v vs 0) 34)) (w_fi w1 (n_v vs 0) 31) (w_fi w1 (n_v vs 0) 32) (w_ei w1 (w_ar ws (n_v vs 0) 35)) (w_ei w1 (w_ar ws (n_v vs 0) 122)) (w_ei w1 (w_ar ws (n_v vs 0) 96)) (w_fi w1 (n_v vs 0) 121) (w_ei w1 (w_ar ws (n_v vs 0) 123)) (w_ei w2 (w_ar ws (n_v vs 0) 75)) (w_ei w2 (w_ar ws (n_v vs 0) 122)) (w_fi w2 (n_v vs 0) 121) (w_ei w2 (w_ar ws (n_v vs 0) 33)) (w_ei w2 (w_ar ws (n_v vs 0) 34)) (w_fi w2 (n_v vs 0) 31) (w_fi w2 (n_v vs 0) 32) (w_ei w2 (w_ar ws (n_v vs 0) 35)) (w_ei w2 (w_ar ws (n_v vs 0) 96)) (w_ei w2 (w_ar ws (n_v vs 0) 123)) (w_ei ws (w_ar ws (n_v vs 0) 74)) k5 f42 fe_0_31_1 fe_0_32_1 fe_0_121_1 fe_0_31_2 fe_0_32_2 fe_0_121_2 hE_0_33_1 hE_0_33_2 hE_0_34_1 hE_0_34_2 hE_0_35_1 hE_0_35_2 hE_0_74_1 hE_0_75_2 hE_0_96_1 hE_0_96_2 hE_0_122_1 hE_0_122_2 hE_0_123_1 hE_0_123_2 kz_0_31 kz_0_32 kz_0_121
  refine ⟨(fun _ h => (by cases h)), [], trivial, ?_, (fun _ h => (by cases h))⟩
  rw [List.append_nil]
  exact List.forall_mem_cons.mpr ⟨⟨show (20 : Nat) < 100 from by decide, nf0⟩, List.forall_mem_cons.mpr ⟨⟨show (20 : Nat) < 100 from by decide, nf1⟩, (fun _ h => (by cases h))⟩⟩
set_option maxHeartbeats 4000000 in
theorem vc_Mo_shift_18_0 (x5 : Int) (gx : Int) (k5 : 3 ≤ x5 ∧ x5 ≤ 24) (ex2 : gx = x5) : 1 * gx + ((-1) * x5 + 0) ≤ 0 := by
  first
    | omega
set_option maxHeartbeats 4000000 in
theorem vc_Mo_shift_18_1 (x5 : Int) (gx : Int) (k5 : 3 ≤ x5 ∧ x5 ≤ 24) (ex2 : gx = x5) : (-1) * gx + (1 * x5 + 0) ≤ 0 := by
  first
    | omega
set_option maxHeartbeats 4000000 in
theorem vc_Mo_shift_18_2 (x9 : Int) (gy : Int) (k9 : 1 ≤ x9 ∧ x9 ≤ 29) (ey2 : gy = x9) : 1 * gy + ((-1) * x9 + 0) ≤ 0 := by
  first
    | omega
set_option maxHeartbeats 4000000 in
theorem vc_Mo_shift_18_3 (x9 : Int) (gy : Int) (k9 : 1 ≤ x9 ∧ x9 ≤ 29) (ey2 : gy = x9) : (-1) * gy + (1 * x9 + 0) ≤ 0 := by
  first
    | omega
set_option maxHeartbeats 4000000 in
theorem vc_Mo_shift_18_4 (x5 : Int) (x6 : Int) (x7 : Int) (x8 : Int) (x9 : Int) (x10 : Int) (x13 : Int) (x14 : Int) (under_0 : Int → Int) (upperNode_0 : Int → Int) (upper_0 : Int) (pt_0 : Int → Int) (ph_0 : Int → Int) (pn_0 : Int) (pm_0 : Int) (alive_0 : Int → Int) (order_0 : Int → Int) (nx_0 : Int → Int) (ny_0 : Int → Int) (gx : Int) (gy : Int) (k5 : 3 ≤ x5 ∧ x5 ≤ 24) (k6 : 0 ≤ x6 ∧ x6 ≤ 25) (k7 : 0 ≤ x7 ∧ x7 ≤ 28) (k8 : 0 ≤ x8 ∧ x8 ≤ 29) (k9 : 1 ≤ x9 ∧ x9 ≤ 29) (k10 : 2 ≤ x10 ∧ x10 ≤ 30) (k13 : 0 ≤ x13 ∧ x13 ≤ 24) (k14 : 0 ≤ x14 ∧ x14 ≤ 33554431) (d1 : x10 + (-4294967296) ≤ x9 ∧ x9 ≤ x10 + (-1)) (h1 : x14 = under_0 (x13)) (h2 : x13 = upperNode_0 (x9)) (g6 : x10 = upper_0) (f8 : SHC (pn_0) (pm_0) (upper_0) (pt_0) (ph_0) (alive_0) (upperNode_0) (order_0) (x5) (x6) (x7) (x8)) (f9 : SPKm (nx_0) (ny_0) (order_0) (x5) (x9)) (f10 : UND (pn_0) (under_0) (order_0) (x5)) (f11 : ULU (upper_0) (upperNode_0) (order_0) (x5)) (f13 : ORN4 (pn_0) (order_0)) (kz_0_31 : 0 ≤ pn_0 ∧ pn_0 ≤ 25) (kz_0_32 : 0 ≤ pm_0 ∧ pm_0 ≤ 80) (kz_0_121 : 0 ≤ upper_0 ∧ upper_0 ≤ 30) (ex2 : gx = x5) (ey2 : gy = x9) : MVA (pn_0) (nx_0) (ny_0) (order_0) (x14) (gx) (gy) := by
  first
    | (have h := sha_bd ‹SHC _ _ _ _ _ _ _ _ _ _ _ _›.1.1
       have hb := shb_bd ‹SHC _ _ _ _ _ _ _ _ _ _ _ _›.1
       exact mva_of (k := x5) (q := x9) (y := x13) ‹SPKm _ _ _ _ _› ‹UND _ _ _ _› ‹ULU _ _ _ _› (by omega) (by omega) (by assumption) ‹ORN4 _ _› (by omega) (by assumption) (by omega) (by omega))
  
set_option maxHeartbeats 4000000 in
theorem vc_Mo_shift_18_5 (pn_0 : Int) (order_0 : Int → Int) (f13 : ORN4 (pn_0) (order_0)) (kz_0_31 : 0 ≤ pn_0 ∧ pn_0 ≤ 25) : ORN4 (pn_0) (order_0) := by
  first
    | assumption
set_option maxHeartbeats 4000000 in
theorem vc_Mo_shift_18_6 (x5 : Int) (x6 : Int) (x7 : Int) (x8 : Int) (upperNode_0 : Int → Int) (upper_0 : Int) (pt_0 : Int → Int) (ph_0 : Int → Int) (pn_0 : Int) (pm_0 : Int) (alive_0 : Int → Int) (order_0 : Int → Int) (gx : Int) (k5 : 3 ≤ x5 ∧ x5 ≤ 24) (k6 : 0 ≤ x6 ∧ x6 ≤ 25) (k7 : 0 ≤ x7 ∧ x7 ≤ 28) (k8 : 0 ≤ x8 ∧ x8 ≤ 29) (f8 : SHC (pn_0) (pm_0) (upper_0) (pt_0) (ph_0) (alive_0) (upperNode_0) (order_0) (x5) (x6) (x7) (x8)) (kz_0_31 : 0 ≤ pn_0 ∧ pn_0 ≤ 25) (kz_0_32 : 0 ≤ pm_0 ∧ pm_0 ≤ 80) (kz_0_121 : 0 ≤ upper_0 ∧ upper_0 ≤ 30) (ex2 : gx = x5) : gx ≤ pn_0 := by
  first
    | (have h := sha_bd ‹SHC _ _ _ _ _ _ _ _ _ _ _ _›.1.1; omega)
set_option maxHeartbeats 4000000 in
theorem vc_Mo_shift_18_7 (x15 : Int) (k15 : 2 ≤ x15 ∧ x15 ≤ 2) : (1 ≤ x15) ∧ (x15 ≤ 2) := by
  first
    | omega
def o_Mo_shift_18 : or_T := (234, 16, [(0, (2, 0, 0, [165])), (1, (2, 0, 0, [165])), (5, (0, 3, 24, [])), (6, (0, 0, 25, [])), (7, (0, 0, 28, [])), (8, (0, 0, 29, [])), (9, (0, 1, 29, [])), (10, (0, 2, 30, [])), (11, (2, 0, 0, [254])), (12, (2, 0, 0, [253])), (13, (0, 0, 24, [])), (14, (0, 0, 33554431, [])), (15, (0, 2, 2, []))], [(7, [9, 8], [3]), (10, [14, 11, 13], []), (10, [13, 12, 9], []), (9, [12, 1], [122]), (9, [11, 1], [123]), (7, [9, 10], [2]), (9, [10, 1], [121]), (20, [1], [60, 2, 2, 75, 31, 32, 33, 34]), (20, [1, 5, 6, 7, 8], [60, 3, 5, 294, 31, 32, 121, 33, 34, 35, 122, 96]), (20, [1, 5, 9], [60, 0, 3, 825, 74, 75, 96]), (20, [1, 5], [60, 1, 2, 827, 31, 123, 96]), (20, [1, 5], [60, 1, 2, 830, 121, 122, 96]), (20, [1], [60, 1, 1, 823, 31, 96]), (20, [1], [60, 1, 1, 835, 31, 96]), (24, [0, 1], [])], [], [(0, 3, 24, []), (0, 0, 30, [])], [(23, [16, 5], [0, 1, -1]), (23, [16, 5], [0, -1, 1]), (23, [17, 9], [0, 1, -1]), (23, [17, 9], [0, -1, 1]), (20, [1, 14, 16, 17], [60, 1, 3, 832, 31, 74, 75, 96]), (20, [1], [60, 1, 1, 835, 31, 96]), (20, [16, 1], [50, 1, 0, 1031, 0, 2, 1, 0, 2, 1, 31]), (20, [15], [50, 0, 0, 2, 6, 0, 2, 0, 1, 1, 0, 0, 2, 1, 0, 0, 2])], [], [(9, 8, 0, 4294967296), (9, 10, -4294967296, -1), (7, 9, -4294967296, -1)])
theorem oo_Mo_shift_18 {kA : Nat → ClassId} : or_ok PRD kA GG o_Mo_shift_18 := by
  refine or_mk fun A ta ws vs hD hth hl => ?_
  intro t0 r0 t1 r1 t5 k5 t6 k6 t7 k7 t8 k8 t9 k9 t10 k10 t11 r11 t12 r12 t13 k13 t14 k14 t15 k15 d0 d1 d2 f0 f1 f2 f3 f4 f5 f6 f7 f8 f9 f10 f11 f12 f13 f14
  replace f1 := shm_107 f1
  replace f2 := shm_107 f2
  replace f3 := shm_1019 f3
  replace f4 := shm_1261 f4
  replace f6 := shm_1024 f6
  replace f8 := shm_1265 f8
  replace f9 := shm_1266 f9
  replace f10 := shm_1259 f10
  replace f11 := shm_1260 f11
  replace f13 := shm_643 f13
  replace f14 := shm_5 f14
  have q1 : n_v vs 1 = n_v vs 0 := f14.symm
  simp only [q1] at f3 f4 f6 f8 f9 f10 f11 f13
  have ad_12 : v_ad (n_v vs 12) = w_ar ws (n_v vs 0) 122 := congrArg v_ad f3
  have ad_11 : v_ad (n_v vs 11) = w_ar ws (n_v vs 0) 123 := congrArg v_ad f4
  simp only [ad_11] at f1
  have h1 : v_iv (n_v vs 14) = w_ei ws (w_ar ws (n_v vs 0) 123) (v_iv (n_v vs 13)) := f1
  simp only [ad_12] at f2
  have h2 : v_iv (n_v vs 13) = w_ei ws (w_ar ws (n_v vs 0) 122) (v_iv (n_v vs 9)) := f2
  have g6 : v_iv (n_v vs 10) = w_fi ws (n_v vs 0) 121 := congrArg v_iv f6
  have kz_0_31 := fdq_145 hD hth r0
  have kz_0_32 := fdq_140 hD hth r0
  have kz_0_121 := fdq_242 hD hth r0
  obtain ⟨x, ex, hx⟩ := iv_ex (ta := ta) (lo := 3) (hi := 24) (z := v_iv (n_v vs 5)) (by omega) (by omega) (by omega) (by omega)
  have ex2 : v_iv (Value.int x) = v_iv (n_v vs 5) := ex
  have ex3 : 3 ≤ v_iv (Value.int x) ∧ v_iv (Value.int x) ≤ 24 := tv_rng hx
  obtain ⟨y, ey, hy⟩ := iv_ex (ta := ta) (lo := 0) (hi := 30) (z := v_iv (n_v vs 9)) (by omega) (by omega) (by omega) (by omega)
  have ey2 : v_iv (Value.int y) = v_iv (n_v vs 9) := ey
  have ey3 : 0 ≤ v_iv (Value.int y) ∧ v_iv (Value.int y) ≤ 30 := tv_rng hy
  have e_1 : n_v (vs ++ [Value.int x, Value.int y]) 1 = n_v vs 1 := n_v_old (by rw [hl]; decide)
  have e_5 : n_v (vs ++ [Value.int x, Value.int y]) 5 = n_v vs 5 := n_v_old (by rw [hl]; decide)
  have e_9 : n_v (vs ++ [Value.int x, Value.int y]) 9 = n_v vs 9 := n_v_old (by rw [hl]; decide)
  have e_14 : n_v (vs ++ [Value.int x, Value.int y]) 14 = n_v vs 14 := n_v_old (by rw [hl]; decide)
  have e_15 : n_v (vs ++ [Value.int x, Value.int y]) 15 = n_v vs 15 := n_v_old (by rw [hl]; decide)
  have e_16 : n_v (vs ++ [Value.int x, Value.int y]) 16 = Value.int x := n_v_new0 hl
  have e_17 : n_v (vs ++ [Value.int x, Value.int y]) 17 = Value.int y := n_v_new1 hl
  have nf0 : fc_1 PRD (23, [16, 5], [0, 1, -1]) ws (vs ++ [Value.int x, Value.int y]) := by
    refine ⟨nf_inA hl rfl, sgq_7 ?_⟩
    · show 1 * v_iv (n_v (vs ++ [Value.int x, Value.int y]) 16) + ((-1) * v_iv (n_v (vs ++ [Value.int x, Value.int y]) 5) + 0) ≤ 0
      simp only [e_5, e_16]
      exact vc_Mo_shift_18_0 (v_iv (n_v vs 5)) (v_iv (Value.int x)) k5 ex2
  have nf1 : fc_1 PRD (23, [16, 5], [0, -1, 1]) ws (vs ++ [Value.int x, Value.int y]) := by
    refine ⟨nf_inA hl rfl, sgq_22 ?_⟩
    · show (-1) * v_iv (n_v (vs ++ [Value.int x, Value.int y]) 16) + (1 * v_iv (n_v (vs ++ [Value.int x, Value.int y]) 5) + 0) ≤ 0
      simp only [e_5, e_16]
      exact vc_Mo_shift_18_1 (v_iv (n_v vs 5)) (v_iv (Value.int x)) k5 ex2
  have nf2 : fc_1 PRD (23, [17, 9], [0, 1, -1]) ws (vs ++ [Value.int x, Value.int y]) := by
    refine ⟨nf_inA hl rfl, sgq_7 ?_⟩
    · show 1 * v_iv (n_v (vs ++ [Value.int x, Value.int y]) 17) + ((-1) * v_iv (n_v (vs ++ [Value.int x, Value.int y]) 9) + 0) ≤ 0
      simp only [e_9, e_17]
      exact vc_Mo_shift_18_2 (v_iv (n_v vs 9)) (v_iv (Value.int y)) k9 ey2
  have nf3 : fc_1 PRD (23, [17, 9], [0, -1, 1]) ws (vs ++ [Value.int x, Value.int y]) := by
    refine ⟨nf_inA hl rfl, sgq_22 ?_⟩
    · show (-1) * v_iv (n_v (vs ++ [Value.int x, Value.int y]) 17) + (1 * v_iv (n_v (vs ++ [Value.int x, Value.int y]) 9) + 0) ≤ 0
      simp only [e_9, e_17]
      exact vc_Mo_shift_18_3 (v_iv (n_v vs 9)) (v_iv (Value.int y)) k9 ey2
  have nf4 : fc_1 PRD (20, [1, 14, 16, 17], [60, 1, 3, 832, 31, 74, 75, 96]) ws (vs ++ [Value.int x, Value.int y]) := by
    refine ⟨nf_inA hl rfl, sgq_642 ?_⟩
    · show MVA (w_fi ws (n_v (vs ++ [Value.int x, Value.int y]) 1) 31) (w_ei ws (w_ar ws (n_v (vs ++ [Value.int x, Value.int y]) 1) 74)) (w_ei ws (w_ar ws (n_v (vs ++ [Value.int x, Value.int y]) 1) 75)) (w_ei ws (w_ar ws (n_v (vs ++ [Value.int x, Value.int y]) 1) 96)) (v_iv (n_v (vs ++ [Value.int x, Value.int y]) 14)) (v_iv (n_v (vs ++ [Value.int x, Value.int y]) 16)) (v_iv (n_v (vs ++ [Value.int x, Value.int y]) 17))
      simp only [e_1, e_14, e_16, e_17, q1]
      exact vc_Mo_shift_18_4 (v_iv (n_v vs 5)) (v_iv (n_v vs 6)) (v_iv (n_v vs 7)) (v_iv (n_v vs 8)) (v_iv (n_v vs 9)) (v_iv (n_v vs 10)) (v_iv (n_v vs 13)) (v_iv (n_v vs 14)) (w_ei ws (w_ar ws (n_v vs 0) 123)) (w_ei ws (w_ar ws (n_v vs 0) 122)) (w_fi ws (n_v vs 0) 121) (w_ei ws (w_ar ws (n_v vs 0) 33)) (w_ei ws (w_ar ws (n_v vs 0) 34)) (w_fi ws (n_v vs 0) 31) (w_fi ws (n_v vs 0) 32) (w_ei ws (w_ar ws (n_v vs 0) 35)) (w_ei ws (w_ar ws (n_v vs 0) 96)) (w_ei ws (w_ar ws (n_v vs 0) 74)) (w_ei ws (w_ar ws (n_v vs 0) 75)) (v_iv (Value.int x)) (v_iv (Value.int y)) k5 k6 k7 k8 k9 k10 k13 k14 d1 h1 h2 g6 f8 f9 f10 f11 f13 kz_0_31 kz_0_32 kz_0_121 ex2 ey2
  have nf5 : fc_1 PRD (20, [1], [60, 1, 1, 835, 31, 96]) ws (vs ++ [Value.int x, Value.int y]) := by
    refine ⟨nf_inA hl rfl, sgq_643 ?_⟩
    · show ORN4 (w_fi ws (n_v (vs ++ [Value.int x, Value.int y]) 1) 31) (w_ei ws (w_ar ws (n_v (vs ++ [Value.int x, Value.int y]) 1) 96))
      simp only [e_1, q1]
      exact vc_Mo_shift_18_5 (w_fi ws (n_v vs 0) 31) (w_ei ws (w_ar ws (n_v vs 0) 96)) f13 kz_0_31
  have nf6 : fc_1 PRD (20, [16, 1], [50, 1, 0, 1031, 0, 2, 1, 0, 2, 1, 31]) ws (vs ++ [Value.int x, Value.int y]) := by
    refine ⟨nf_inA hl rfl, sgq_644 ?_⟩
    · show v_iv (n_v (vs ++ [Value.int x, Value.int y]) 16) ≤ w_fi ws (n_v (vs ++ [Value.int x, Value.int y]) 1) 31
      simp only [e_1, e_16, q1]
      exact vc_Mo_shift_18_6 (v_iv (n_v vs 5)) (v_iv (n_v vs 6)) (v_iv (n_v vs 7)) (v_iv (n_v vs 8)) (w_ei ws (w_ar ws (n_v vs 0) 122)) (w_fi ws (n_v vs 0) 121) (w_ei ws (w_ar ws (n_v vs 0) 33)) (w_ei ws (w_ar ws (n_v vs 0) 34)) (w_fi ws (n_v vs 0) 31) (w_fi ws (n_v vs 0) 32) (w_ei ws (w_ar ws (n_v vs 0) 35)) (w_ei ws (w_ar ws (n_v vs 0) 96)) (v_iv (Value.int x)) k5 k6 k7 k8 f8 kz_0_31 kz_0_32 kz_0_121 ex2
  have nf7 : fc_1 PRD (20, [15], [50, 0, 0, 2, 6, 0, 2, 0, 1, 1, 0, 0, 2, 1, 0, 0, 2]) ws (vs ++ [Value.int x, Value.int y]) := by
    refine ⟨nf_inA hl rfl, sgq_432 ?_⟩
    · show (1 ≤ v_iv (n_v (vs ++ [Value.int x, Value.int y]) 15)) ∧ (v_iv (n_v (vs ++ [Value.int x, Value.int y]) 15) ≤ 2)
      rw [e_15]
      exact vc_Mo_shift_18_7 (v_iv (n_v vs 15)) k15
  exact ⟨(fun _ h => (by cases h)), [Value.int x, Value.int y], ag_two hx hy, List.forall_mem_cons.mpr ⟨⟨show (23 : Nat) < 100 from by decide, nf0⟩, List.forall_mem_cons.mpr ⟨⟨show (23 : Nat) < 100 from by decide, nf1⟩, List.forall_mem_cons.mpr ⟨⟨show (23 : Nat) < 100 from by decide, nf2⟩, List.forall_mem_cons.mpr ⟨⟨show (23 : Nat) < 100 from by decide, nf3⟩, List.forall_mem_cons.mpr ⟨⟨show (20 : Nat) < 100 from by decide, nf4⟩, List.forall_mem_cons.mpr ⟨⟨show (20 : Nat) < 100 from by decide, nf5⟩, List.forall_mem_cons.mpr ⟨⟨show (20 : Nat) < 100 from by decide, nf6⟩, List.forall_mem_cons.mpr ⟨⟨show (20 : Nat) < 100 from by decide, nf7⟩, (fun _ h => (by cases h))⟩⟩⟩⟩⟩⟩⟩⟩, (fun _ h => (by cases h))⟩
set_option maxHeartbeats 4000000 in
theorem vc_Mo_shift_19_0 (x5 : Int) (x9 : Int) (x16 : Int) (x17 : Int) (x18 : Int) (order_0 : Int → Int) (pn_0 : Int) (nx_0 : Int → Int) (ny_0 : Int → Int) (k5 : 3 ≤ x5 ∧ x5 ≤ 24) (k9 : 1 ≤ x9 ∧ x9 ≤ 29) (k16 : 3 ≤ x16 ∧ x16 ≤ 24) (k17 : 0 ≤ x17 ∧ x17 ≤ 30) (k18 : 2 ≤ x18 ∧ x18 ≤ 30) (d0 : x9 + 1 ≤ x18 ∧ x18 ≤ x9 + 1) (f0 : x18 = x9 + 1) (f1 : 1 * x16 + ((-1) * x5 + 0) ≤ 0) (f2 : (-1) * x16 + (1 * x5 + 0) ≤ 0) (f3 : 1 * x17 + ((-1) * x9 + 0) ≤ 0) (f4 : (-1) * x17 + (1 * x9 + 0) ≤ 0) (f15 : MVB (pn_0) (nx_0) (ny_0) (order_0) (x16) (x17)) (kz_0_31 : 0 ≤ pn_0 ∧ pn_0 ≤ 25) : SPKm (nx_0) (ny_0) (order_0) (x5) (x18) := by
  first
    | exact spkm_next (q := x9) ‹MVB _ _ _ _ _ _› (by omega) (by omega) (by omega)
def o_Mo_shift_19 : or_T := (200, 19, [(0, (2, 0, 0, [165])), (1, (2, 0, 0, [165])), (5, (0, 3, 24, [])), (6, (0, 0, 25, [])), (7, (0, 0, 28, [])), (8, (0, 0, 29, [])), (9, (0, 1, 29, [])), (10, (0, 2, 30, [])), (15, (0, 2, 2, [])), (16, (0, 3, 24, [])), (17, (0, 0, 30, [])), (18, (0, 2, 30, []))], [(6, [18, 9], [1]), (23, [16, 5], [0, 1, -1]), (23, [16, 5], [0, -1, 1]), (23, [17, 9], [0, 1, -1]), (23, [17, 9], [0, -1, 1]), (20, [1], [60, 1, 1, 835, 31, 96]), (20, [16, 1], [50, 1, 0, 1031, 0, 2, 1, 0, 2, 1, 31]), (20, [15], [50, 0, 0, 2, 6, 0, 2, 0, 1, 1, 0, 0, 2, 1, 0, 0, 2]), (20, [1], [60, 2, 2, 75, 31, 32, 33, 34]), (20, [1, 5, 6, 7, 8], [60, 3, 5, 294, 31, 32, 121, 33, 34, 35, 122, 96]), (20, [1, 5], [60, 1, 2, 827, 31, 123, 96]), (20, [1, 5], [60, 1, 2, 830, 121, 122, 96]), (20, [1], [60, 1, 1, 823, 31, 96]), (20, [1], [60, 1, 1, 835, 31, 96]), (24, [0, 1], []), (20, [1, 16, 17], [60, 1, 3, 833, 31, 74, 75, 96]), (102, [17], [26328072917139296674479506920917608079723773850137277813577744384]), (23, [16, 5], [0, 1, -1]), (23, [16, 5], [0, -1, 1]), (23, [17, 9], [0, 1, -1]), (23, [17, 9], [0, -1, 1]), (7, [9, 8], [3]), (7, [9, 10], [2])], [], [], [(20, [1, 5, 18], [60, 0, 3, 825, 74, 75, 96])], [], [(18, 9, 1, 1), (18, 8, 1, 4294967296), (18, 10, -4294967296, 0), (9, 8, 0, 4294967296), (9, 10, -4294967296, -1), (7, 9, -4294967296, -1)])
theorem oo_Mo_shift_19 {kA : Nat → ClassId} : or_ok PRD kA GG o_Mo_shift_19 := by
  refine or_mk fun A ta ws vs hD hth hl => ?_
  intro t0 r0 t1 r1 t5 k5 t6 k6 t7 k7 t8 k8 t9 k9 t10 k10 t15 k15 t16 k16 t17 k17 t18 k18 d0 d1 d2 d3 d4 d5 f0 f1 f2 f3 f4 f5 f6 f7 f8 f9 f10 f11 f12 f13 f14 f15 ta1 w1 le1 s1 f17 f18 f19 f20 f21 f22
  replace f0 := shm_4 f0
  replace f1 := shm_7 f1
  replace f2 := shm_22 f2
  replace f3 := shm_7 f3
  replace f4 := shm_22 f4
  replace f14 := shm_5 f14
  replace f15 := shm_646 f15
  have q1 : n_v vs 1 = n_v vs 0 := f14.symm
  simp only [q1] at f15
  have kz_0_31 := fdq_145 hD hth r0
  have nf0 : fc_1 PRD (20, [1, 5, 18], [60, 0, 3, 825, 74, 75, 96]) ws (vs) := by
    refine ⟨nf_in hl rfl, sgq_1266 ?_⟩
    · show SPKm (w_ei ws (w_ar ws (n_v vs 1) 74)) (w_ei ws (w_ar ws (n_v vs 1) 75)) (w_ei ws (w_ar ws (n_v vs 1) 96)) (v_iv (n_v vs 5)) (v_iv (n_v vs 18))
      rw [q1]
      exact vc_Mo_shift_19_0 (v_iv (n_v vs 5)) (v_iv (n_v vs 9)) (v_iv (n_v vs 16)) (v_iv (n_v vs 17)) (v_iv (n_v vs 18)) (w_ei ws (w_ar ws (n_v vs 0) 96)) (w_fi ws (n_v vs 0) 31) (w_ei ws (w_ar ws (n_v vs 0) 74)) (w_ei ws (w_ar ws (n_v vs 0) 75)) k5 k9 k16 k17 k18 d0 f0 f1 f2 f3 f4 f15 kz_0_31
  refine ⟨(fun _ h => (by cases h)), [], trivial, ?_, (fun _ h => (by cases h))⟩
  rw [List.append_nil]
  exact List.forall_mem_cons.mpr ⟨⟨show (20 : Nat) < 100 from by decide, nf0⟩, (fun _ h => (by cases h))⟩

set_option maxHeartbeats 4000000 in
theorem vc_Mo_shift_20_0 (x5 : Int) (gx : Int) (k5 : 3 ≤ x5 ∧ x5 ≤ 24) (ex2 : gx = x5) : 1 * gx + ((-1) * x5 + 0) ≤ 0 := by
  first
    | omega
set_option maxHeartbeats 4000000 in
theorem vc_Mo_shift_20_1 (x5 : Int) (gx : Int) (k5 : 3 ≤ x5 ∧ x5 ≤ 24) (ex2 : gx = x5) : (-1) * gx + (1 * x5 + 0) ≤ 0 := by
  first
    | omega
set_option maxHeartbeats 4000000 in
theorem vc_Mo_shift_20_2 (x9 : Int) (gy : Int) (k9 : 1 ≤ x9 ∧ x9 ≤ 28) (ey2 : gy = x9) : 1 * gy + ((-1) * x9 + 0) ≤ 0 := by
  first
    | omega
set_option maxHeartbeats 4000000 in
theorem vc_Mo_shift_20_3 (x9 : Int) (gy : Int) (k9 : 1 ≤ x9 ∧ x9 ≤ 28) (ey2 : gy = x9) : (-1) * gy + (1 * x9 + 0) ≤ 0 := by
  first
    | omega
set_option maxHeartbeats 4000000 in
theorem vc_Mo_shift_20_4 (x5 : Int) (x6 : Int) (x7 : Int) (x8 : Int) (x9 : Int) (x10 : Int) (x13 : Int) (x14 : Int) (under_0 : Int → Int) (upperNode_0 : Int → Int) (upper_0 : Int) (pt_0 : Int → Int) (ph_0 : Int → Int) (pn_0 : Int) (pm_0 : Int) (alive_0 : Int → Int) (order_0 : Int → Int) (nx_0 : Int → Int) (ny_0 : Int → Int) (gx : Int) (gy : Int) (k5 : 3 ≤ x5 ∧ x5 ≤ 24) (k6 : 0 ≤ x6 ∧ x6 ≤ 25) (k7 : 0 ≤ x7 ∧ x7 ≤ 27) (k8 : 2 ≤ x8 ∧ x8 ≤ 29) (k9 : 1 ≤ x9 ∧ x9 ≤ 28) (k10 : 2 ≤ x10 ∧ x10 ≤ 30) (k13 : 0 ≤ x13 ∧ x13 ≤ 24) (k14 : 0 ≤ x14 ∧ x14 ≤ 33554431) (d1 : x10 + (-4294967296) ≤ x9 ∧ x9 ≤ x10 + (-1)) (h1 : x14 = under_0 (x13)) (h2 : x13 = upperNode_0 (x9)) (g6 : x10 = upper_0) (f8 : SHC (pn_0) (pm_0) (upper_0) (pt_0) (ph_0) (alive_0) (upperNode_0) (order_0) (x5) (x6) (x7) (x8)) (f9 : SPKm (nx_0) (ny_0) (order_0) (x5) (x9)) (f10 : UND (pn_0) (under_0) (order_0) (x5)) (f11 : ULU (upper_0) (upperNode_0) (order_0) (x5)) (f13 : ORN4 (pn_0) (order_0)) (kz_0_31 : 0 ≤ pn_0 ∧ pn_0 ≤ 25) (kz_0_32 : 0 ≤ pm_0 ∧ pm_0 ≤ 80) (kz_0_121 : 0 ≤ upper_0 ∧ upper_0 ≤ 30) (ex2 : gx = x5) (ey2 : gy = x9) : MVA (pn_0) (nx_0) (ny_0) (order_0) (x14) (gx) (gy) := by
  first
    | (have h := sha_bd ‹SHC _ _ _ _ _ _ _ _ _ _ _ _›.1.1
       have hb := shb_bd ‹SHC _ _ _ _ _ _ _ _ _ _ _ _›.1
       exact mva_of (k := x5) (q := x9) (y := x13) ‹SPKm _ _ _ _ _› ‹UND _ _ _ _› ‹ULU _ _ _ _› (by omega) (by omega) (by assumption) ‹ORN4 _ _› (by omega) (by assumption) (by omega) (by omega))
  
set_option maxHeartbeats 4000000 in
theorem vc_Mo_shift_20_5 (pn_0 : Int) (order_0 : Int → Int) (f13 : ORN4 (pn_0) (order_0)) (kz_0_31 : 0 ≤ pn_0 ∧ pn_0 ≤ 25) : ORN4 (pn_0) (order_0) := by
  first
    | assumption
set_option maxHeartbeats 4000000 in
theorem vc_Mo_shift_20_6 (x5 : Int) (x6 : Int) (x7 : Int) (x8 : Int) (upperNode_0 : Int → Int) (upper_0 : Int) (pt_0 : Int → Int) (ph_0 : Int → Int) (pn_0 : Int) (pm_0 : Int) (alive_0 : Int → Int) (order_0 : Int → Int) (gx : Int) (k5 : 3 ≤ x5 ∧ x5 ≤ 24) (k6 : 0 ≤ x6 ∧ x6 ≤ 25) (k7 : 0 ≤ x7 ∧ x7 ≤ 27) (k8 : 2 ≤ x8 ∧ x8 ≤ 29) (f8 : SHC (pn_0) (pm_0) (upper_0) (pt_0) (ph_0) (alive_0) (upperNode_0) (order_0) (x5) (x6) (x7) (x8)) (kz_0_31 : 0 ≤ pn_0 ∧ pn_0 ≤ 25) (kz_0_32 : 0 ≤ pm_0 ∧ pm_0 ≤ 80) (kz_0_121 : 0 ≤ upper_0 ∧ upper_0 ≤ 30) (ex2 : gx = x5) : gx ≤ pn_0 := by
  first
    | (have h := sha_bd ‹SHC _ _ _ _ _ _ _ _ _ _ _ _›.1.1; omega)
set_option maxHeartbeats 4000000 in
theorem vc_Mo_shift_20_7 (x15 : Int) (k15 : 1 ≤ x15 ∧ x15 ≤ 1) : (1 ≤ x15) ∧ (x15 ≤ 2) := by
  first
    | omega
def o_Mo_shift_20 : or_T := (234, 16, [(0, (2, 0, 0, [165])), (1, (2, 0, 0, [165])), (5, (0, 3, 24, [])), (6, (0, 0, 25, [])), (7, (0, 0, 27, [])), (8, (0, 2, 29, [])), (9, (0, 1, 28, [])), (10, (0, 2, 30, [])), (11, (2, 0, 0, [254])), (12, (2, 0, 0, [253])), (13, (0, 0, 24, [])), (14, (0, 0, 33554431, [])), (15, (0, 1, 1, []))], [(7, [9, 8], [2]), (10, [14, 11, 13], []), (10, [13, 12, 9], []), (9, [12, 1], [122]), (9, [11, 1], [123]), (7, [9, 10], [2]), (9, [10, 1], [121]), (20, [1], [60, 2, 2, 75, 31, 32, 33, 34]), (20, [1, 5, 6, 7, 8], [60, 3, 5, 294, 31, 32, 121, 33, 34, 35, 122, 96]), (20, [1, 5, 9], [60, 0, 3, 825, 74, 75, 96]), (20, [1, 5], [60, 1, 2, 827, 31, 123, 96]), (20, [1, 5], [60, 1, 2, 830, 121, 122, 96]), (20, [1], [60, 1, 1, 823, 31, 96]), (20, [1], [60, 1, 1, 835, 31, 96]), (24, [0, 1], [])], [], [(0, 3, 24, []), (0, 0, 30, [])], [(23, [16, 5], [0, 1, -1]), (23, [16, 5], [0, -1, 1]), (23, [17, 9], [0, 1, -1]), (23, [17, 9], [0, -1, 1]), (20, [1, 14, 16, 17], [60, 1, 3, 832, 31, 74, 75, 96]), (20, [1], [60, 1, 1, 835, 31, 96]), (20, [16, 1], [50, 1, 0, 1031, 0, 2, 1, 0, 2, 1, 31]), (20, [15], [50, 0, 0, 2, 6, 0, 2, 0, 1, 1, 0, 0, 2, 1, 0, 0, 2])], [], [(9, 8, -4294967296, -1), (9, 10, -4294967296, -1), (7, 9, -4294967296, -1)])
theorem oo_Mo_shift_20 {kA : Nat → ClassId} : or_ok PRD kA GG o_Mo_shift_20 := by
  refine or_mk fun A ta ws vs hD hth hl => ?_
  intro t0 r0 t1 r1 t5 k5 t6 k6 t7 k7 t8 k8 t9 k9 t10 k10 t11 r11 t12 r12 t13 k13 t14 k14 t15 k15 d0 d1 d2 f0 f1 f2 f3 f4 f5 f6 f7 f8 f9 f10 f11 f12 f13 f14
  replace f1 := shm_107 f1
  replace f2 := shm_107 f2
  replace f3 := shm_1019 f3
  replace f4 := shm_1261 f4
  replace f6 := shm_1024 f6
  replace f8 := shm_1265 f8
  replace f9 := shm_1266 f9
  replace f10 := shm_1259 f10
  replace f11 := shm_1260 f11
  replace f13 := shm_643 f13
  replace f14 := shm_5 f14
  have q1 : n_v vs 1 = n_v vs 0 := f14.symm
  simp only [q1] at f3 f4 f6 f8 f9 f10 f11 f13
  have ad_12 : v_ad (n_v vs 12) = w_ar ws (n_v vs 0) 122 := congrArg v_ad f3
  have ad_11 : v_ad (n_v vs 11) = w_ar ws (n_v vs 0) 123 := congrArg v_ad f4
  simp only [ad_11] at f1
  have h1 : v_iv (n_v vs 14) = w_ei ws (w_ar ws (n_v vs 0) 123) (v_iv (n_v vs 13)) := f1
  simp only [ad_12] at f2
  have h2 : v_iv (n_v vs 13) = w_ei ws (w_ar ws (n_v vs 0) 122) (v_iv (n_v vs 9)) := f2
  have g6 : v_iv (n_v vs 10) = w_fi ws (n_v vs 0) 121 := congrArg v_iv f6
  have kz_0_31 := fdq_145 hD hth r0
  have kz_0_32 := fdq_140 hD hth r0
  have kz_0_121 := fdq_242 hD hth r0
  obtain ⟨x, ex, hx⟩ := iv_ex (ta := ta) (lo := 3) (hi := 24) (z := v_iv (n_v vs 5)) (by omega) (by omega) (by omega) (by omega)
  have ex2 : v_iv (Value.int x) = v_iv (n_v vs 5) := ex
  have ex3 : 3 ≤ v_iv (Value.int x) ∧ v_iv (Value.int x) ≤ 24 := tv_rng hx
  obtain ⟨y, ey, hy⟩ := iv_ex (ta := ta) (lo := 0) (hi := 30) (z := v_iv (n_v vs 9)) (by omega) (by omega) (by omega) (by omega)
  have ey2 : v_iv (Value.int y) = v_iv (n_v vs 9) := ey
  have ey3 : 0 ≤ v_iv (Value.int y) ∧ v_iv (Value.int y) ≤ 30 := tv_rng hy
  have e_1 : n_v (vs ++ [Value.int x, Value.int y]) 1 = n_v vs 1 := n_v_old (by rw [hl]; decide)
  have e_5 : n_v (vs ++ [Value.int x, Value.int y]) 5 = n_v vs 5 := n_v_old (by rw [hl]; decide)
  have e_9 : n_v (vs ++ [Value.int x, Value.int y]) 9 = n_v vs 9 := n_v_old (by rw [hl]; decide)
  have e_14 : n_v (vs ++ [Value.int x, Value.int y]) 14 = n_v vs 14 := n_v_old (by rw [hl]; decide)
  have e_15 : n_v (vs ++ [Value.int x, Value.int y]) 15 = n_v vs 15 := n_v_old (by rw [hl]; decide)
  have e_16 : n_v (vs ++ [Value.int x, Value.int y]) 16 = Value.int x := n_v_new0 hl
  have e_17 : n_v (vs ++ [Value.int x, Value.int y]) 17 = Value.int y := n_v_new1 hl
  have nf0 : fc_1 PRD (23, [16, 5], [0, 1, -1]) ws (vs ++ [Value.int x, Value.int y]) := by
    refine ⟨nf_inA hl rfl, sgq_7 ?_⟩
    · show 1 * v_iv (n_v (vs ++ [Value.int x, Value.int y]) 16) + ((-1) * v_iv (n_v (vs ++ [Value.int x, Value.int y]) 5) + 0) ≤ 0
      simp only [e_5, e_16]
      exact vc_Mo_shift_20_0 (v_iv (n_v vs 5)) (v_iv (Value.int x)) k5 ex2
  have nf1 : fc_1 PRD (23, [16, 5], [0, -1, 1]) ws (vs ++ [Value.int x, Value.int y]) := by
    refine ⟨nf_inA hl rfl, sgq_22 ?_⟩
    · show (-1) * v_iv (n_v (vs ++ [Value.int x, Value.int y]) 16) + (1 * v_iv (n_v (vs ++ [Value.int x, Value.int y]) 5) + 0) ≤ 0
      simp only [e_5, e_16]
      exact vc_Mo_shift_20_1 (v_iv (n_v vs 5)) (v_iv (Value.int x)) k5 ex2
  have nf2 : fc_1 PRD (23, [17, 9], [0, 1, -1]) ws (vs ++ [Value.int x, Value.int y]) := by
    refine ⟨nf_inA hl rfl, sgq_7 ?_⟩
    · show 1 * v_iv (n_v (vs ++ [Value.int x, Value.int y]) 17) + ((-1) * v_iv (n_v (vs ++ [Value.int x, Value.int y]) 9) + 0) ≤ 0
      simp only [e_9, e_17]
      exact vc_Mo_shift_20_2 (v_iv (n_v vs 9)) (v_iv (Value.int y)) k9 ey2
  have nf3 : fc_1 PRD (23, [17, 9], [0, -1, 1]) ws (vs ++ [Value.int x, Value.int y]) := by
    refine ⟨nf_inA hl rfl, sgq_22 ?_⟩
    · show (-1) * v_iv (n_v (vs ++ [Value.int x, Value.int y]) 17) + (1 * v_iv (n_v (vs ++ [Value.int x, Value.int y]) 9) + 0) ≤ 0
      simp only [e_9, e_17]
      exact vc_Mo_shift_20_3 (v_iv (n_v vs 9)) (v_iv (Value.int y)) k9 ey2
  have nf4 : fc_1 PRD (20, [1, 14, 16, 17], [60, 1, 3, 832, 31, 74, 75, 96]) ws (vs ++ [Value.int x, Value.int y]) := by
    refine ⟨nf_inA hl rfl, sgq_642 ?_⟩
    · show MVA (w_fi ws (n_v (vs ++ [Value.int x, Value.int y]) 1) 31) (w_ei ws (w_ar ws (n_v (vs ++ [Value.int x, Value.int y]) 1) 74)) (w_ei ws (w_ar ws (n_v (vs ++ [Value.int x, Value.int y]) 1) 75)) (w_ei ws (w_ar ws (n_v (vs ++ [Value.int x, Value.int y]) 1) 96)) (v_iv (n_v (vs ++ [Value.int x, Value.int y]) 14)) (v_iv (n_v (vs ++ [Value.int x, Value.int y]) 16)) (v_iv (n_v (vs ++ [Value.int x, Value.int y]) 17))
      simp only [e_1, e_14, e_16, e_17, q1]
      exact vc_Mo_shift_20_4 (v_iv (n_v vs 5)) (v_iv (n_v vs 6)) (v_iv (n_v vs 7)) (v_iv (n_v vs 8)) (v_iv (n_v vs 9)) (v_iv (n_v vs 10)) (v_iv (n_v vs 13)) (v_iv (n_v vs 14)) (w_ei ws (w_ar ws (n_v vs 0) 123)) (w_ei ws (w_ar ws (n_v vs 0) 122)) (w_fi ws (n_v vs 0) 121) (w_ei ws (w_ar ws (n_v vs 0) 33)) (w_ei ws (w_ar ws (n_v vs 0) 34)) (w_fi ws (n_v vs 0) 31) (w_fi ws (n_v vs 0) 32) (w_ei ws (w_ar ws (n_v vs 0) 35)) (w_ei ws (w_ar ws (n_v vs 0) 96)) (w_ei ws (w_ar ws (n_v vs 0) 74)) (w_ei ws (w_ar ws (n_v vs 0) 75)) (v_iv (Value.int x)) (v_iv (Value.int y)) k5 k6 k7 k8 k9 k10 k13 k14 d1 h1 h2 g6 f8 f9 f10 f11 f13 kz_0_31 kz_0_32 kz_0_121 ex2 ey2
  have nf5 : fc_1 PRD (20, [1], [60, 1, 1, 835, 31, 96]) ws (vs ++ [Value.int x, Value.int y]) := by
    refine ⟨nf_inA hl rfl, sgq_643 ?_⟩
    · show ORN4 (w_fi ws (n_v (vs ++ [Value.int x, Value.int y]) 1) 31) (w_ei ws (w_ar ws (n_v (vs ++ [Value.int x, Value.int y]) 1) 96))
      simp only [e_1, q1]
      exact vc_Mo_shift_20_5 (w_fi ws (n_v vs 0) 31) (w_ei ws (w_ar ws (n_v vs 0) 96)) f13 kz_0_31
  have nf6 : fc_1 PRD (20, [16, 1], [50, 1, 0, 1031, 0, 2, 1, 0, 2, 1, 31]) ws (vs ++ [Value.int x, Value.int y]) := by
    refine ⟨nf_inA hl rfl, sgq_644 ?_⟩
    · show v_iv (n_v (vs ++ [Value.int x, Value.int y]) 16) ≤ w_fi ws (n_v (vs ++ [Value.int x, Value.int y]) 1) 31
      simp only [e_1, e_16, q1]
      exact vc_Mo_shift_20_6 (v_iv (n_v vs 5)) (v_iv (n_v vs 6)) (v_iv (n_v vs 7)) (v_iv (n_v vs 8)) (w_ei ws (w_ar ws (n_v vs 0) 122)) (w_fi ws (n_v vs 0) 121) (w_ei ws (w_ar ws (n_v vs 0) 33)) (w_ei ws (w_ar ws (n_v vs 0) 34)) (w_fi ws (n_v vs 0) 31) (w_fi ws (n_v vs 0) 32) (w_ei ws (w_ar ws (n_v vs 0) 35)) (w_ei ws (w_ar ws (n_v vs 0) 96)) (v_iv (Value.int x)) k5 k6 k7 k8 f8 kz_0_31 kz_0_32 kz_0_121 ex2
  have nf7 : fc_1 PRD (20, [15], [50, 0, 0, 2, 6, 0, 2, 0, 1, 1, 0, 0, 2, 1, 0, 0, 2]) ws (vs ++ [Value.int x, Value.int y]) := by
    refine ⟨nf_inA hl rfl, sgq_432 ?_⟩
    · show (1 ≤ v_iv (n_v (vs ++ [Value.int x, Value.int y]) 15)) ∧ (v_iv (n_v (vs ++ [Value.int x, Value.int y]) 15) ≤ 2)
      rw [e_15]
      exact vc_Mo_shift_20_7 (v_iv (n_v vs 15)) k15
  exact ⟨(fun _ h => (by cases h)), [Value.int x, Value.int y], ag_two hx hy, List.forall_mem_cons.mpr ⟨⟨show (23 : Nat) < 100 from by decide, nf0⟩, List.forall_mem_cons.mpr ⟨⟨show (23 : Nat) < 100 from by decide, nf1⟩, List.forall_mem_cons.mpr ⟨⟨show (23 : Nat) < 100 from by decide, nf2⟩, List.forall_mem_cons.mpr ⟨⟨show (23 : Nat) < 100 from by decide, nf3⟩, List.forall_mem_cons.mpr ⟨⟨show (20 : Nat) < 100 from by decide, nf4⟩, List.forall_mem_cons.mpr ⟨⟨show (20 : Nat) < 100 from by decide, nf5⟩, List.forall_mem_cons.mpr ⟨⟨show (20 : Nat) < 100 from by decide, nf6⟩, List.forall_mem_cons.mpr ⟨⟨show (20 : Nat) < 100 from by decide, nf7⟩, (fun _ h => (by cases h))⟩⟩⟩⟩⟩⟩⟩⟩, (fun _ h => (by cases h))⟩
set_option maxHeartbeats 4000000 in
theorem vc_Mo_shift_21_0 (x5 : Int) (x9 : Int) (x16 : Int) (x17 : Int) (x18 : Int) (order_0 : Int → Int) (pn_0 : Int) (nx_0 : Int → Int) (ny_0 : Int → Int) (k5 : 3 ≤ x5 ∧ x5 ≤ 24) (k9 : 1 ≤ x9 ∧ x9 ≤ 28) (k16 : 3 ≤ x16 ∧ x16 ≤ 24) (k17 : 0 ≤ x17 ∧ x17 ≤ 30) (k18 : 2 ≤ x18 ∧ x18 ≤ 29) (d0 : x9 + 1 ≤ x18 ∧ x18 ≤ x9 + 1) (f0 : x18 = x9 + 1) (f1 : 1 * x16 + ((-1) * x5 + 0) ≤ 0) (f2 : (-1) * x16 + (1 * x5 + 0) ≤ 0) (f3 : 1 * x17 + ((-1) * x9 + 0) ≤ 0) (f4 : (-1) * x17 + (1 * x9 + 0) ≤ 0) (f15 : MVB (pn_0) (nx_0) (ny_0) (order_0) (x16) (x17)) (kz_0_31 : 0 ≤ pn_0 ∧ pn_0 ≤ 25) : SPKm (nx_0) (ny_0) (order_0) (x5) (x18) := by
  first
    | exact spkm_next (q := x9) ‹MVB _ _ _ _ _ _› (by omega) (by omega) (by omega)
def o_Mo_shift_21 : or_T := (200, 19, [(0, (2, 0, 0, [165])), (1, (2, 0, 0, [165])), (5, (0, 3, 24, [])), (6, (0, 0, 25, [])), (7, (0, 0, 27, [])), (8, (0, 2, 29, [])), (9, (0, 1, 28, [])), (10, (0, 2, 30, [])), (15, (0, 1, 1, [])), (16, (0, 3, 24, [])), (17, (0, 0, 30, [])), (18, (0, 2, 29, []))], [(6, [18, 9], [1]), (23, [16, 5], [0, 1, -1]), (23, [16, 5], [0, -1, 1]), (23, [17, 9], [0, 1, -1]), (23, [17, 9], [0, -1, 1]), (20, [1], [60, 1, 1, 835, 31, 96]), (20, [16, 1], [50, 1, 0, 1031, 0, 2, 1, 0, 2, 1, 31]), (20, [15], [50, 0, 0, 2, 6, 0, 2, 0, 1, 1, 0, 0, 2, 1, 0, 0, 2]), (20, [1], [60, 2, 2, 75, 31, 32, 33, 34]), (20, [1, 5, 6, 7, 8], [60, 3, 5, 294, 31, 32, 121, 33, 34, 35, 122, 96]), (20, [1, 5], [60, 1, 2, 827, 31, 123, 96]), (20, [1, 5], [60, 1, 2, 830, 121, 122, 96]), (20, [1], [60, 1, 1, 823, 31, 96]), (20, [1], [60, 1, 1, 835, 31, 96]), (24, [0, 1], []), (20, [1, 16, 17], [60, 1, 3, 833, 31, 74, 75, 96]), (102, [17], [26328072917139296674479506920917608079723773850137277813577744384]), (23, [16, 5], [0, 1, -1]), (23, [16, 5], [0, -1, 1]), (23, [17, 9], [0, 1, -1]), (23, [17, 9], [0, -1, 1]), (7, [9, 8], [2]), (7, [9, 10], [2])], [], [], [(20, [1, 5, 18], [60, 0, 3, 825, 74, 75, 96])], [], [(18, 9, 1, 1), (18, 8, -4294967296, 0), (18, 10, -4294967296, 0), (9, 8, -4294967296, -1), (9, 10, -4294967296, -1), (7, 9, -4294967296, -1)])
theorem oo_Mo_shift_21 {kA : Nat → ClassId} : or_ok PRD kA GG o_Mo_shift_21 := by
  refine or_mk fun A ta ws vs hD hth hl => ?_
  intro t0 r0 t1 r1 t5 k5 t6 k6 t7 k7 t8 k8 t9 k9 t10 k10 t15 k15 t16 k16 t17 k17 t18 k18 d0 d1 d2 d3 d4 d5 f0 f1 f2 f3 f4 f5 f6 f7 f8 f9 f10 f11 f12 f13 f14 f15 ta1 w1 le1 s1 f17 f18 f19 f20 f21 f22
  replace f0 := shm_4 f0
  replace f1 := shm_7 f1
  replace f2 := shm_22 f2
  replace f3 := shm_7 f3
  replace f4 := shm_22 f4
  replace f14 := shm_5 f14
  replace f15 := shm_646 f15
  have q1 : n_v vs 1 = n_v vs 0 := f14.symm
  simp only [q1] at f15
  have kz_0_31 := fdq_145 hD hth r0
  have nf0 : fc_1 PRD (20, [1, 5, 18], [60, 0, 3, 825, 74, 75, 96]) ws (vs) := by
    refine ⟨nf_in hl rfl, sgq_1266 ?_⟩
    · show SPKm (w_ei ws (w_ar ws (n_v vs 1) 74)) (w_ei ws (w_ar ws (n_v vs 1) 75)) (w_ei ws (w_ar ws (n_v vs 1) 96)) (v_iv (n_v vs 5)) (v_iv (n_v vs 18))
      rw [q1]
      exact vc_Mo_shift_21_0 (v_iv (n_v vs 5)) (v_iv (n_v vs 9)) (v_iv (n_v vs 16)) (v_iv (n_v vs 17)) (v_iv (n_v vs 18)) (w_ei ws (w_ar ws (n_v vs 0) 96)) (w_fi ws (n_v vs 0) 31) (w_ei ws (w_ar ws (n_v vs 0) 74)) (w_ei ws (w_ar ws (n_v vs 0) 75)) k5 k9 k16 k17 k18 d0 f0 f1 f2 f3 f4 f15 kz_0_31
  refine ⟨(fun _ h => (by cases h)), [], trivial, ?_, (fun _ h => (by cases h))⟩
  rw [List.append_nil]
  exact List.forall_mem_cons.mpr ⟨⟨show (20 : Nat) < 100 from by decide, nf0⟩, (fun _ h => (by cases h))⟩
set_option maxHeartbeats 4000000 in
theorem vc_Mo_shift_22_0 (x5 : Int) (x6 : Int) (x7 : Int) (x8 : Int) (x12 : Int) (x14 : Int) (pt_0 : Int → Int) (ph_0 : Int → Int) (pn_0 : Int) (pm_0 : Int) (alive_0 : Int → Int) (upperNode_0 : Int → Int) (order_0 : Int → Int) (upper_0 : Int) (k5 : 3 ≤ x5 ∧ x5 ≤ 24) (k6 : 0 ≤ x6 ∧ x6 ≤ 24) (k7 : 0 ≤ x7 ∧ x7 ≤ 29) (k8 : 0 ≤ x8 ∧ x8 ≤ 29) (k12 : (-29) ≤ x12 ∧ x12 ≤ 29) (k14 : (-30) ≤ x14 ∧ x14 ≤ 28) (d0 : x12 + (-1) ≤ x14 ∧ x14 ≤ x12 + (-1)) (f0 : x14 ≠ 0) (f2 : x12 = x8 - x7) (f5 : SHC (pn_0) (pm_0) (upper_0) (pt_0) (ph_0) (alive_0) (upperNode_0) (order_0) (x5) (x6) (x7) (x8)) (kz_0_31 : 0 ≤ pn_0 ∧ pn_0 ≤ 25) (kz_0_32 : 0 ≤ pm_0 ∧ pm_0 ≤ 80) (kz_0_121 : 0 ≤ upper_0 ∧ upper_0 ≤ 30) : SD2 (pn_0) (pm_0) (upper_0) (pt_0) (ph_0) (alive_0) (upperNode_0) (order_0) (x5) (x6) (x7) (x8) (x8) := by
  first
    | exact sd2_start ‹SHC _ _ _ _ _ _ _ _ _ _ _ _› (by omega) (by omega)
set_option maxHeartbeats 4000000 in
theorem vc_Mo_shift_22_1 (x7 : Int) (x8 : Int) (x12 : Int) (x14 : Int) (k7 : 0 ≤ x7 ∧ x7 ≤ 29) (k8 : 0 ≤ x8 ∧ x8 ≤ 29) (k12 : (-29) ≤ x12 ∧ x12 ≤ 29) (k14 : (-30) ≤ x14 ∧ x14 ≤ 28) (d0 : x12 + (-1) ≤ x14 ∧ x14 ≤ x12 + (-1)) (f2 : x12 = x8 - x7) : x14 = ((x8 - x7) - 1) := by
  omega
def o_Mo_shift_22 : or_T := (438, 15, [(0, (2, 0, 0, [165])), (5, (0, 3, 24, [])), (6, (0, 0, 24, [])), (7, (0, 0, 29, [])), (8, (0, 0, 29, [])), (12, (0, -29, 29, [])), (14, (0, -30, 28, []))], [(8, [14], [1]), (2, [12, 8, 7], []), (20, [1, 5, 6, 7, 8], [60, 3, 5, 294, 31, 32, 121, 33, 34, 35, 122, 96]), (24, [0, 1], [])], [], [], [(20, [1, 5, 6, 7, 8, 8], [60, 3, 5, 296, 31, 32, 121, 33, 34, 35, 122, 96]), (20, [14, 8, 7], [50, 0, 0, 1, 2, 1, 0, 5, 6, 5, 2, 1, 1, 1, 2, 0, 1])], [], [(14, 12, -1, -1)])
theorem oo_Mo_shift_22 {kA : Nat → ClassId} : or_ok PRD kA GG o_Mo_shift_22 := by
  refine or_mk fun A ta ws vs hD hth hl => ?_
  intro t0 r0 t5 k5 t6 k6 t7 k7 t8 k8 t12 k12 t14 k14 d0 f0 f2 f5 f11
  replace f0 := shm_142 f0
  replace f2 := shm_14 f2
  replace f5 := shm_1265 f5
  replace f11 := shm_5 f11
  have q1 : n_v vs 1 = n_v vs 0 := f11.symm
  simp only [q1] at f5
  have kz_0_31 := fdq_145 hD hth r0
  have kz_0_32 := fdq_140 hD hth r0
  have kz_0_121 := fdq_242 hD hth r0
  have nf0 : fc_1 PRD (20, [1, 5, 6, 7, 8, 8], [60, 3, 5, 296, 31, 32, 121, 33, 34, 35, 122, 96]) ws (vs) := by
    refine ⟨nf_in hl rfl, sgq_1269 ?_⟩
    · show SD2 (w_fi ws (n_v vs 1) 31) (w_fi ws (n_v vs 1) 32) (w_fi ws (n_v vs 1) 121) (w_ei ws (w_ar ws (n_v vs 1) 33)) (w_ei ws (w_ar ws (n_v vs 1) 34)) (w_ei ws (w_ar ws (n_v vs 1) 35)) (w_ei ws (w_ar ws (n_v vs 1) 122)) (w_ei ws (w_ar ws (n_v vs 1) 96)) (v_iv (n_v vs 5)) (v_iv (n_v vs 6)) (v_iv (n_v vs 7)) (v_iv (n_v vs 8)) (v_iv (n_v vs 8))
      rw [q1]
      exact vc_Mo_shift_22_0 (v_iv (n_v vs 5)) (v_iv (n_v vs 6)) (v_iv (n_v vs 7)) (v_iv (n_v vs 8)) (v_iv (n_v vs 12)) (v_iv (n_v vs 14)) (w_ei ws (w_ar ws (n_v vs 0) 33)) (w_ei ws (w_ar ws (n_v vs 0) 34)) (w_fi ws (n_v vs 0) 31) (w_fi ws (n_v vs 0) 32) (w_ei ws (w_ar ws (n_v vs 0) 35)) (w_ei ws (w_ar ws (n_v vs 0) 122)) (w_ei ws (w_ar ws (n_v vs 0) 96)) (w_fi ws (n_v vs 0) 121) k5 k6 k7 k8 k12 k14 d0 f0 f2 f5 kz_0_31 kz_0_32 kz_0_121
  have nf1 : fc_1 PRD (20, [14, 8, 7], [50, 0, 0, 1, 2, 1, 0, 5, 6, 5, 2, 1, 1, 1, 2, 0, 1]) ws (vs) := ⟨nf_in hl rfl, sgq_1270 (vc_Mo_shift_22_1 (v_iv (n_v vs 7)) (v_iv (n_v vs 8)) (v_iv (n_v vs 12)) (v_iv (n_v vs 14)) k7 k8 k12 k14 d0 f2)⟩
  refine ⟨(fun _ h => (by cases h)), [], trivial, ?_, (fun _ h => (by cases h))⟩
  rw [List.append_nil]
  exact List.forall_mem_cons.mpr ⟨⟨show (20 : Nat) < 100 from by decide, nf0⟩, List.forall_mem_cons.mpr ⟨⟨show (20 : Nat) < 100 from by decide, nf1⟩, (fun _ h => (by cases h))⟩⟩
set_option maxHeartbeats 4000000 in
theorem vc_Mo_shift_23_0 (x5 : Int) (x6 : Int) (x7 : Int) (x8 : Int) (x12 : Int) (x15 : Int) (upper_0 : Int) (pt_0 : Int → Int) (ph_0 : Int → Int) (pn_0 : Int) (pm_0 : Int) (alive_0 : Int → Int) (upperNode_0 : Int → Int) (order_0 : Int → Int) (k5 : 3 ≤ x5 ∧ x5 ≤ 24) (k6 : 0 ≤ x6 ∧ x6 ≤ 24) (k7 : 0 ≤ x7 ∧ x7 ≤ 29) (k8 : 1 ≤ x8 ∧ x8 ≤ 29) (k12 : 1 ≤ x12 ∧ x12 ≤ 1) (k15 : 0 ≤ x15 ∧ x15 ≤ 30) (g0 : x15 = upper_0) (f3 : x12 = x8 - x7) (f6 : SHC (pn_0) (pm_0) (upper_0) (pt_0) (ph_0) (alive_0) (upperNode_0) (order_0) (x5) (x6) (x7) (x8)) (kz_0_31 : 0 ≤ pn_0 ∧ pn_0 ≤ 25) (kz_0_32 : 0 ≤ pm_0 ∧ pm_0 ≤ 80) (kz_0_121 : 0 ≤ upper_0 ∧ upper_0 ≤ 30) : SD1 (pn_0) (pm_0) (upper_0) (pt_0) (ph_0) (alive_0) (upperNode_0) (order_0) (x5) (x6) (x7) (x8) (x15) := by
  first
    | exact sd1_start ‹SHC _ _ _ _ _ _ _ _ _ _ _ _› (by omega) (by omega)
set_option maxHeartbeats 4000000 in
theorem vc_Mo_shift_23_1 (x7 : Int) (x8 : Int) (x12 : Int) (x14 : Int) (k7 : 0 ≤ x7 ∧ x7 ≤ 29) (k8 : 1 ≤ x8 ∧ x8 ≤ 29) (k12 : 1 ≤ x12 ∧ x12 ≤ 1) (k14 : 0 ≤ x14 ∧ x14 ≤ 0) (f3 : x12 = x8 - x7) : x14 = ((x8 - x7) - 1) := by
  omega
set_option maxHeartbeats 4000000 in
theorem vc_Mo_shift_23_2 (x5 : Int) (x15 : Int) (upper_0 : Int) (upperNode_0 : Int → Int) (order_0 : Int → Int) (k5 : 3 ≤ x5 ∧ x5 ≤ 24) (k15 : 0 ≤ x15 ∧ x15 ≤ 30) (g0 : x15 = upper_0) (f10 : ULU (upper_0) (upperNode_0) (order_0) (x5)) (kz_0_121 : 0 ≤ upper_0 ∧ upper_0 ≤ 30) : ULV (upper_0) (upperNode_0) (order_0) (x5) (x15) := by
  first
    | exact ulv_start ‹ULU _ _ _ _› (by omega)
def o_Mo_shift_23 : or_T := (402, 16, [(0, (2, 0, 0, [165])), (5, (0, 3, 24, [])), (6, (0, 0, 24, [])), (7, (0, 0, 29, [])), (8, (0, 1, 29, [])), (12, (0, 1, 1, [])), (14, (0, 0, 0, [])), (15, (0, 0, 30, []))], [(9, [15, 1], [121]), (2, [12, 8, 7], []), (20, [1, 5, 6, 7, 8], [60, 3, 5, 294, 31, 32, 121, 33, 34, 35, 122, 96]), (20, [1, 5], [60, 1, 2, 830, 121, 122, 96]), (24, [0, 1], [])], [], [], [(20, [1, 5, 6, 7, 8, 15], [60, 3, 5, 295, 31, 32, 121, 33, 34, 35, 122, 96]), (20, [14, 8, 7], [50, 0, 0, 1, 2, 1, 0, 5, 6, 5, 2, 1, 1, 1, 2, 0, 1]), (20, [1, 5, 15], [60, 1, 2, 831, 121, 122, 96])], [], [])
theorem oo_Mo_shift_23 {kA : Nat → ClassId} : or_ok PRD kA GG o_Mo_shift_23 := by
  refine or_mk fun A ta ws vs hD hth hl => ?_
  intro t0 r0 t5 k5 t6 k6 t7 k7 t8 k8 t12 k12 t14 k14 t15 k15 f0 f3 f6 f10 f12
  replace f0 := shm_1024 f0
  replace f3 := shm_14 f3
  replace f6 := shm_1265 f6
  replace f10 := shm_1260 f10
  replace f12 := shm_5 f12
  have q1 : n_v vs 1 = n_v vs 0 := f12.symm
  simp only [q1] at f0 f6 f10
  have g0 : v_iv (n_v vs 15) = w_fi ws (n_v vs 0) 121 := congrArg v_iv f0
  have kz_0_31 := fdq_145 hD hth r0
  have kz_0_32 := fdq_140 hD hth r0
  have kz_0_121 := fdq_242 hD hth r0
  have nf0 : fc_1 PRD (20, [1, 5, 6, 7, 8, 15], [60, 3, 5, 295, 31, 32, 121, 33, 34, 35, 122, 96]) ws (vs) := by
    refine ⟨nf_in hl rfl, sgq_1271 ?_⟩
    · show SD1 (w_fi ws (n_v vs 1) 31) (w_fi ws (n_v vs 1) 32) (w_fi ws (n_v vs 1) 121) (w_ei ws (w_ar ws (n_v vs 1) 33)) (w_ei ws (w_ar ws (n_v vs 1) 34)) (w_ei ws (w_ar ws (n_v vs 1) 35)) (w_ei ws (w_ar ws (n_v vs 1) 122)) (w_ei ws (w_ar ws (n_v vs 1) 96)) (v_iv (n_v vs 5)) (v_iv (n_v vs 6)) (v_iv (n_v vs 7)) (v_iv (n_v vs 8)) (v_iv (n_v vs 15))
      rw [q1]
      exact vc_Mo_shift_23_0 (v_iv (n_v vs 5)) (v_iv (n_v vs 6)) (v_iv (n_v vs 7)) (v_iv (n_v vs 8)) (v_iv (n_v vs 12)) (v_iv (n_v vs 15)) (w_fi ws (n_v vs 0) 121) (w_ei ws (w_ar ws (n_v vs 0) 33)) (w_ei ws (w_ar ws (n_v vs 0) 34)) (w_fi ws (n_v vs 0) 31) (w_fi ws (n_v vs 0) 32) (w_ei ws (w_ar ws (n_v vs 0) 35)) (w_ei ws (w_ar ws (n_v vs 0) 122)) (w_ei ws (w_ar ws (n_v vs 0) 96)) k5 k6 k7 k8 k12 k15 g0 f3 f6 kz_0_31 kz_0_32 kz_0_121
  have nf1 : fc_1 PRD (20, [14, 8, 7], [50, 0, 0, 1, 2, 1, 0, 5, 6, 5, 2, 1, 1, 1, 2, 0, 1]) ws (vs) := ⟨nf_in hl rfl, sgq_1270 (vc_Mo_shift_23_1 (v_iv (n_v vs 7)) (v_iv (n_v vs 8)) (v_iv (n_v vs 12)) (v_iv (n_v vs 14)) k7 k8 k12 k14 f3)⟩
  have nf2 : fc_1 PRD (20, [1, 5, 15], [60, 1, 2, 831, 121, 122, 96]) ws (vs) := by
    refine ⟨nf_in hl rfl, sgq_1272 ?_⟩
    · show ULV (w_fi ws (n_v vs 1) 121) (w_ei ws (w_ar ws (n_v vs 1) 122)) (w_ei ws (w_ar ws (n_v vs 1) 96)) (v_iv (n_v vs 5)) (v_iv (n_v vs 15))
      rw [q1]
      exact vc_Mo_shift_23_2 (v_iv (n_v vs 5)) (v_iv (n_v vs 15)) (w_fi ws (n_v vs 0) 121) (w_ei ws (w_ar ws (n_v vs 0) 122)) (w_ei ws (w_ar ws (n_v vs 0) 96)) k5 k15 g0 f10 kz_0_121
  refine ⟨(fun _ h => (by cases h)), [], trivial, ?_, (fun _ h => (by cases h))⟩
  rw [List.append_nil]
  exact List.forall_mem_cons.mpr ⟨⟨show (20 : Nat) < 100 from by decide, nf0⟩, List.forall_mem_cons.mpr ⟨⟨show (20 : Nat) < 100 from by decide, nf1⟩, List.forall_mem_cons.mpr ⟨⟨show (20 : Nat) < 100 from by decide, nf2⟩, (fun _ h => (by cases h))⟩⟩⟩
set_option maxHeartbeats 4000000 in
theorem vc_Mo_shift_24_0 (x5 : Int) (x6 : Int) (x7 : Int) (x8 : Int) (x11 : Int) (x13 : Int) (x15 : Int) (x16 : Int) (x17 : Int) (x18 : Int) (pt_0 : Int → Int) (ph_0 : Int → Int) (pn_0 : Int) (pm_0 : Int) (alive_0 : Int → Int) (upperNode_0 : Int → Int) (order_0 : Int → Int) (upper_0 : Int) (nx_0 : Int → Int) (ny_0 : Int → Int) (under_1 : Int → Int) (upperNode_1 : Int → Int) (pt_1 : Int → Int) (ph_1 : Int → Int) (pn_1 : Int) (pm_1 : Int) (alive_1 : Int → Int) (order_1 : Int → Int) (upper_1 : Int) (nx_1 : Int → Int) (ny_1 : Int → Int) (under_0 : Int → Int) (k5 : 3 ≤ x5 ∧ x5 ≤ 24) (k6 : 0 ≤ x6 ∧ x6 ≤ 24) (k7 : 0 ≤ x7 ∧ x7 ≤ 27) (k8 : 2 ≤ x8 ∧ x8 ≤ 29) (k11 : 1 ≤ x11 ∧ x11 ≤ 28) (k13 : 0 ≤ x13 ∧ x13 ≤ 33554431) (k15 : 0 ≤ x15 ∧ x15 ≤ 24) (k16 : 0 ≤ x16 ∧ x16 ≤ 33554431) (k17 : 0 ≤ x17 ∧ x17 ≤ 33554431) (k18 : 2 ≤ x18 ∧ x18 ≤ 29) (d0 : x11 + 1 ≤ x18 ∧ x18 ≤ x11 + 1) (d1 : x8 + (-4294967296) ≤ x18 ∧ x18 ≤ x8 + 0) (d2 : x8 + (-4294967296) ≤ x11 ∧ x11 ≤ x8 + (-1)) (d3 : x11 + (-4294967296) ≤ x7 ∧ x7 ≤ x11 + (-1)) (f10 : bvp (x17) = bvp (x13) ||| bvp (x16)) (h11 : x16 = under_1 (x15)) (h12 : x15 = upperNode_1 (x11)) (h15 : x13 = under_1 (x6)) (f18 : SHC (pn_1) (pm_1) (upper_1) (pt_1) (ph_1) (alive_1) (upperNode_1) (order_1) (x5) (x6) (x7) (x8)) (f20 : UNDn (pn_1) (under_1) (order_1) (x5)) (f21 : ORN4 (pn_1) (order_1)) (f22 : ULU (upper_1) (upperNode_1) (order_1) (x5)) (fe_0_31_1 : pn_0 = pn_1) (fe_0_32_1 : pm_0 = pm_1) (fe_0_121_1 : upper_0 = upper_1) (hE_0_33_1 : ∀ j : Int, pt_0 j = pt_1 j) (hE_0_34_1 : ∀ j : Int, ph_0 j = ph_1 j) (hE_0_35_1 : ∀ j : Int, alive_0 j = alive_1 j) (hE_0_74_1 : ∀ j : Int, nx_0 j = nx_1 j) (hE_0_75_1 : ∀ j : Int, ny_0 j = ny_1 j) (hE_0_96_1 : ∀ j : Int, order_0 j = order_1 j) (hE_0_122_1 : ∀ j : Int, upperNode_0 j = upperNode_1 j) (hE_0_123_1 : ∀ j : Int, 0 ≤ j → (j = x6 → under_0 j = x17) ∧ (j ≠ x6 → under_0 j = under_1 j)) (kz_0_31 : 0 ≤ pn_0 ∧ pn_0 ≤ 25) (kz_0_32 : 0 ≤ pm_0 ∧ pm_0 ≤ 80) (kz_0_121 : 0 ≤ upper_0 ∧ upper_0 ≤ 30) : UNDn (pn_0) (under_0) (order_0) (x5) := by
  subst fe_0_31_1
  subst fe_0_32_1
  subst fe_0_121_1
  have e_hE_0_33_1 := funext hE_0_33_1; subst e_hE_0_33_1
  have e_hE_0_34_1 := funext hE_0_34_1; subst e_hE_0_34_1
  have e_hE_0_35_1 := funext hE_0_35_1; subst e_hE_0_35_1
  have e_hE_0_74_1 := funext hE_0_74_1; subst e_hE_0_74_1
  have e_hE_0_75_1 := funext hE_0_75_1; subst e_hE_0_75_1
  have e_hE_0_96_1 := funext hE_0_96_1; subst e_hE_0_96_1
  have e_hE_0_122_1 := funext hE_0_122_1; subst e_hE_0_122_1
  first
    | (have sx := sha_bd ‹SHC _ _ _ _ _ _ _ _ _ _ _ _›.1.1
       have sb := shc_end ‹SHC _ _ _ _ _ _ _ _ _ _ _ _›
       have hx := ‹SHC _ _ _ _ _ _ _ _ _ _ _ _›.1.1.2.1.2
       obtain ⟨j, j0, j1, j2⟩ := ‹ULU _ _ _ _› x11 (by omega) (by omega)
       rw [← ‹x15 = upperNode_0 x11›] at j2
       have r1 := ‹ORN4 _ _› j j0 (by omega)
       have r2 := ‹ORN4 _ _› x5 (by omega) (by omega)
       exact und_or (x := x6) (b := x13) (c := x16) ‹UNDn _ _ _ _› (by assumption) (by omega) ⟨x5, by omega, by omega, hx.symm⟩ (by omega) (by assumption) x15 (by assumption) (by omega) ⟨j, j0, by omega, j2.symm⟩ (by assumption))
def o_Mo_shift_24 : or_T := (347, 19, [(0, (2, 0, 0, [165])), (5, (0, 3, 24, [])), (6, (0, 0, 24, [])), (7, (0, 0, 27, [])), (8, (0, 2, 29, [])), (11, (0, 1, 28, [])), (12, (2, 0, 0, [254])), (13, (0, 0, 33554431, [])), (15, (0, 0, 24, [])), (16, (0, 0, 33554431, [])), (17, (0, 0, 33554431, [])), (18, (0, 2, 29, []))], [(24, [0, 1], []), (100, [12, 6, 17], []), (16, [17, 13, 16], [1]), (10, [16, 12, 15], []), (10, [15, 14, 11], []), (9, [14, 1], [122]), (9, [12, 1], [123]), (10, [13, 12, 6], []), (20, [1, 5, 6, 7, 8], [60, 3, 5, 294, 31, 32, 121, 33, 34, 35, 122, 96]), (20, [1, 5], [60, 1, 2, 828, 31, 123, 96]), (20, [1], [60, 1, 1, 835, 31, 96]), (20, [1, 5], [60, 1, 2, 830, 121, 122, 96])], [], [], [(20, [1, 5], [60, 1, 2, 828, 31, 123, 96])], [], [(18, 11, 1, 1), (18, 8, -4294967296, 0), (11, 8, -4294967296, -1), (7, 11, -4294967296, -1)])
theorem oo_Mo_shift_24 {kA : Nat → ClassId} : or_ok PRD kA GG o_Mo_shift_24 := by
  refine or_mk fun A ta ws vs hD hth hl => ?_
  intro t0 r0 t5 k5 t6 k6 t7 k7 t8 k8 t11 k11 t12 r12 t13 k13 t15 k15 t16 k16 t17 k17 t18 k18 d0 d1 d2 d3 f7 ta1 w1 le1 s1 f10 f11 f12 f13 f14 f15 f18 f20 f21 f22
  replace f7 := shm_5 f7
  have s1 : (∀ b j, w_el ws b j = if b = v_ad (n_v vs 12) ∧ j = (v_iv (n_v vs 6)).toNat then v_iv (n_v vs 17) else w_el w1 b j) ∧ ∀ b k, w_fd ws b k = w_fd w1 b k := s1.2
  replace f10 := shm_354 f10
  replace f11 := shm_107 f11
  replace f12 := shm_107 f12
  replace f13 := shm_1019 f13
  replace f14 := shm_1261 f14
  replace f15 := shm_107 f15
  replace f18 := shm_1265 f18
  replace f20 := shm_1268 f20
  replace f21 := shm_643 f21
  replace f22 := shm_1260 f22
  have q1 : n_v vs 1 = n_v vs 0 := f7.symm
  simp only [q1] at f13 f14 f18 f20 f21 f22
  have ar_0_33_1 : w_ar w1 (n_v vs 0) 33 = w_ar ws (n_v vs 0) 33 := congrArg v_ad (s1.2 _ _).symm
  have cr_0_33 := fdq_117 hD hth r0
  have ar_0_34_1 : w_ar w1 (n_v vs 0) 34 = w_ar ws (n_v vs 0) 34 := congrArg v_ad (s1.2 _ _).symm
  have cr_0_34 := fdq_118 hD hth r0
  have ar_0_35_1 : w_ar w1 (n_v vs 0) 35 = w_ar ws (n_v vs 0) 35 := congrArg v_ad (s1.2 _ _).symm
  have cr_0_35 := fdq_132 hD hth r0
  have ar_0_74_1 : w_ar w1 (n_v vs 0) 74 = w_ar ws (n_v vs 0) 74 := congrArg v_ad (s1.2 _ _).symm
  have cr_0_74 := fdq_164 hD hth r0
  have ar_0_75_1 : w_ar w1 (n_v vs 0) 75 = w_ar ws (n_v vs 0) 75 := congrArg v_ad (s1.2 _ _).symm
  have cr_0_75 := fdq_165 hD hth r0
  have ar_0_96_1 : w_ar w1 (n_v vs 0) 96 = w_ar ws (n_v vs 0) 96 := congrArg v_ad (s1.2 _ _).symm
  have cr_0_96 := fdq_166 hD hth r0
  have ar_0_122_1 : w_ar w1 (n_v vs 0) 122 = w_ar ws (n_v vs 0) 122 := congrArg v_ad (s1.2 _ _).symm
  have cr_0_122 := fdq_241 hD hth r0
  have ar_0_123_1 : w_ar w1 (n_v vs 0) 123 = w_ar ws (n_v vs 0) 123 := congrArg v_ad (s1.2 _ _).symm
  have ad_14 : v_ad (n_v vs 14) = w_ar ws (n_v vs 0) 122 := (congrArg v_ad f13).trans ar_0_122_1
  have ad_12 : v_ad (n_v vs 12) = w_ar ws (n_v vs 0) 123 := (congrArg v_ad f14).trans ar_0_123_1
  simp only [ad_12] at f11
  have h11 : v_iv (n_v vs 16) = w_ei w1 (w_ar ws (n_v vs 0) 123) (v_iv (n_v vs 15)) := f11
  simp only [ad_14] at f12
  have h12 : v_iv (n_v vs 15) = w_ei w1 (w_ar ws (n_v vs 0) 122) (v_iv (n_v vs 11)) := f12
  simp only [ad_12] at f15
  have h15 : v_iv (n_v vs 13) = w_ei w1 (w_ar ws (n_v vs 0) 123) (v_iv (n_v vs 6)) := f15
  simp only [ar_0_33_1, ar_0_34_1, ar_0_35_1, ar_0_96_1, ar_0_122_1, ar_0_74_1, ar_0_75_1, ar_0_123_1] at f18 f20 f21 f22
  have fe_0_31_1 : w_fi ws (n_v vs 0) 31 = w_fi w1 (n_v vs 0) 31 := congrArg v_iv (s1.2 _ _)
  have fe_0_32_1 : w_fi ws (n_v vs 0) 32 = w_fi w1 (n_v vs 0) 32 := congrArg v_iv (s1.2 _ _)
  have fe_0_121_1 : w_fi ws (n_v vs 0) 121 = w_fi w1 (n_v vs 0) 121 := congrArg v_iv (s1.2 _ _)
  have hE_0_33_1 : ∀ j : Int, w_ei ws (w_ar ws (n_v vs 0) 33) j = w_ei w1 (w_ar ws (n_v vs 0) 33) j := el_kp s1.1 r12 cr_0_33 (by decide)
  have hE_0_34_1 : ∀ j : Int, w_ei ws (w_ar ws (n_v vs 0) 34) j = w_ei w1 (w_ar ws (n_v vs 0) 34) j := el_kp s1.1 r12 cr_0_34 (by decide)
  have hE_0_35_1 : ∀ j : Int, w_ei ws (w_ar ws (n_v vs 0) 35) j = w_ei w1 (w_ar ws (n_v vs 0) 35) j := el_kp s1.1 r12 cr_0_35 (by decide)
  have hE_0_74_1 : ∀ j : Int, w_ei ws (w_ar ws (n_v vs 0) 74) j = w_ei w1 (w_ar ws (n_v vs 0) 74) j := el_kp s1.1 r12 cr_0_74 (by decide)
  have hE_0_75_1 : ∀ j : Int, w_ei ws (w_ar ws (n_v vs 0) 75) j = w_ei w1 (w_ar ws (n_v vs 0) 75) j := el_kp s1.1 r12 cr_0_75 (by decide)
  have hE_0_96_1 : ∀ j : Int, w_ei ws (w_ar ws (n_v vs 0) 96) j = w_ei w1 (w_ar ws (n_v vs 0) 96) j := el_kp s1.1 r12 cr_0_96 (by decide)
  have hE_0_122_1 : ∀ j : Int, w_ei ws (w_ar ws (n_v vs 0) 122) j = w_ei w1 (w_ar ws (n_v vs 0) 122) j := el_kp s1.1 r12 cr_0_122 (by decide)
  have hE_0_123_1 : ∀ j : Int, 0 ≤ j → (j = v_iv (n_v vs 6) → w_ei ws (w_ar ws (n_v vs 0) 123) j = v_iv (n_v vs 17)) ∧ (j ≠ v_iv (n_v vs 6) → w_ei ws (w_ar ws (n_v vs 0) 123) j = w_ei w1 (w_ar ws (n_v vs 0) 123) j) := fun j hj => ⟨fun h => by unfold w_ei; rw [s1.1, if_pos ⟨ad_12.symm, by rw [h]⟩], fun h => by unfold w_ei; rw [s1.1, if_neg (fun e => h (by have := e.2; omega))]⟩
  have kz_0_31 := fdq_145 hD hth r0
  have kz_0_32 := fdq_140 hD hth r0
  have kz_0_121 := fdq_242 hD hth r0
  have nf0 : fc_1 PRD (20, [1, 5], [60, 1, 2, 828, 31, 123, 96]) ws (vs) := by
    refine ⟨nf_in hl rfl, sgq_1268 ?_⟩
    · show UNDn (w_fi ws (n_v vs 1) 31) (w_ei ws (w_ar ws (n_v vs 1) 123)) (w_ei ws (w_ar ws (n_v vs 1) 96)) (v_iv (n_v vs 5))
      rw [q1]
      exact vc_Mo_shift_24_0 (v_iv (n_v vs 5)) (v_iv (n_v vs 6)) (v_iv (n_v vs 7)) (v_iv (n_v vs 8)) (v_iv (n_v vs 11)) (v_iv (n_v vs 13)) (v_iv (n_v vs 15)) (v_iv (n_v vs 16)) (v_iv (n_v vs 17)) (v_iv (n_v vs 18)) (w_ei ws (w_ar ws (n_v vs 0) 33)) (w_ei ws (w_ar ws (n_v vs 0) 34)) (w_fi ws (n_v vs 0) 31) (w_fi ws (n_v vs 0) 32) (w_ei ws (w_ar ws (n_v vs 0) 35)) (w_ei ws (w_ar ws (n_v vs 0) 122)) (w_ei ws (w_ar ws (n_v vs 0) 96)) (w_fi ws (n_v vs 0) 121) (w_ei ws (w_ar ws (n_v vs 0) 74)) (w_ei ws (w_ar ws (n_v vs 0) 75)) (w_ei w1 (w_ar ws (n_v vs 0) 123)) (w_ei w1 (w_ar ws (n_v vs 0) 122)) (w_ei w1 (w_ar ws (n_v vs 0) 33)) (w_ei w1 (w_ar ws (n_v vs 0) 34)) (w_fi w1 (n_v vs 0) 31) (w_fi w1 (n_v vs 0) 32) (w_ei w1 (w_ar ws (n_v vs 0) 35)) (w_ei w1 (w_ar ws (n_v vs 0) 96)) (w_fi w1 (n_v vs 0) 121) (w_ei w1 (w_ar ws (n_v vs 0) 74)) (w_ei w1 (w_ar ws (n_v vs 0) 75)) (w_ei ws (w_ar ws (n_v vs 0) 123)) k5 k6 k7 k8 k11 k13 k15 k16 k17 k18 d0 d1 d2 d3 f10 h11 h12 h15 f18 f20 f21 f22 fe_0_31_1 fe_0_32_1 fe_0_121_1 hE_0_33_1 hE_0_34_1 hE_0_35_1 hE_0_74_1 hE_0_75_1 hE_0_96_1 hE_0_122_1 hE_0_123_1 kz_0_31 kz_0_32 kz_0_121
  refine ⟨(fun _ h => (by cases h)), [], trivial, ?_, (fun _ h => (by cases h))⟩
  rw [List.append_nil]
  exact List.forall_mem_cons.mpr ⟨⟨show (20 : Nat) < 100 from by decide, nf0⟩, (fun _ h => (by cases h))⟩
set_option maxHeartbeats 4000000 in
theorem vc_Mo_shift_25_r0 (x5 : Int) (x6 : Int) (x7 : Int) (x8 : Int) (x12 : Int) (x13 : Int) (x16 : Int) (upper_0 : Int) (pt_0 : Int → Int) (ph_0 : Int → Int) (pn_0 : Int) (pm_0 : Int) (alive_0 : Int → Int) (upperNode_0 : Int → Int) (order_0 : Int → Int) (k5 : 3 ≤ x5 ∧ x5 ≤ 24) (k6 : 0 ≤ x6 ∧ x6 ≤ 24) (k7 : 0 ≤ x7 ∧ x7 ≤ 29) (k8 : 1 ≤ x8 ∧ x8 ≤ 29) (k12 : 0 ≤ x12 ∧ x12 ≤ 29) (k13 : 0 ≤ x13 ∧ x13 ≤ 30) (k16 : 1 ≤ x16 ∧ x16 ≤ 31) (d0 : x13 + 1 ≤ x16 ∧ x16 ≤ x13 + 1) (g2 : x13 = upper_0) (f5 : SD1 (pn_0) (pm_0) (upper_0) (pt_0) (ph_0) (alive_0) (upperNode_0) (order_0) (x5) (x6) (x7) (x8) (x12)) (kz_0_31 : 0 ≤ pn_0 ∧ pn_0 ≤ 25) (kz_0_32 : 0 ≤ pm_0 ∧ pm_0 ≤ 80) (kz_0_121 : 0 ≤ upper_0 ∧ upper_0 ≤ 30) : 1 ≤ x16 ∧ x16 ≤ 30 := by
  first
    | (have h := sd1_len ‹SD1 _ _ _ _ _ _ _ _ _ _ _ _ _›; omega)
def o_Mo_shift_25 : or_T := (482, 17, [(0, (2, 0, 0, [165])), (1, (2, 0, 0, [165])), (5, (0, 3, 24, [])), (6, (0, 0, 24, [])), (7, (0, 0, 29, [])), (8, (0, 1, 29, [])), (11, (0, 0, 0, [])), (12, (0, 0, 29, [])), (13, (0, 0, 30, [])), (14, (0, 1, 1, [])), (15, (0, 1, 1, [])), (16, (0, 1, 31, []))], [(1, [16, 13, 15], []), (2, [15, 14, 11], []), (9, [13, 1], [121]), (7, [12, 8], [5]), (20, [1], [60, 2, 2, 75, 31, 32, 33, 34]), (20, [1, 5, 6, 7, 8, 12], [60, 3, 5, 295, 31, 32, 121, 33, 34, 35, 122, 96]), (20, [11, 8, 7], [50, 0, 0, 1, 2, 1, 0, 5, 6, 5, 2, 1, 1, 1, 2, 0, 1]), (20, [1, 5], [60, 0, 3, 826, 74, 75, 96]), (20, [1, 5], [60, 1, 2, 828, 31, 123, 96]), (20, [1], [60, 1, 1, 835, 31, 96]), (20, [1, 5, 12], [60, 1, 2, 831, 121, 122, 96]), (20, [1], [60, 1, 1, 823, 31, 96]), (24, [0, 1], [])], [(16, (0, 1, 30, []))], [], [], [], [(16, 13, 1, 1), (12, 8, -4294967296, 0)])
theorem oo_Mo_shift_25 {kA : Nat → ClassId} : or_ok PRD kA GG o_Mo_shift_25 := by
  refine or_mk fun A ta ws vs hD hth hl => ?_
  intro t0 r0 t1 r1 t5 k5 t6 k6 t7 k7 t8 k8 t11 k11 t12 k12 t13 k13 t14 k14 t15 k15 t16 k16 d0 d1 f0 f1 f2 f3 f4 f5 f6 f7 f8 f9 f10 f11 f12
  replace f2 := shm_1024 f2
  replace f5 := shm_1271 f5
  replace f12 := shm_5 f12
  have q1 : n_v vs 1 = n_v vs 0 := f12.symm
  simp only [q1] at f2 f5
  have g2 : v_iv (n_v vs 13) = w_fi ws (n_v vs 0) 121 := congrArg v_iv f2
  have kz_0_31 := fdq_145 hD hth r0
  have kz_0_32 := fdq_140 hD hth r0
  have kz_0_121 := fdq_242 hD hth r0
  have hrf0 : 1 ≤ v_iv (n_v vs 16) ∧ v_iv (n_v vs 16) ≤ 30 := vc_Mo_shift_25_r0 (v_iv (n_v vs 5)) (v_iv (n_v vs 6)) (v_iv (n_v vs 7)) (v_iv (n_v vs 8)) (v_iv (n_v vs 12)) (v_iv (n_v vs 13)) (v_iv (n_v vs 16)) (w_fi ws (n_v vs 0) 121) (w_ei ws (w_ar ws (n_v vs 0) 33)) (w_ei ws (w_ar ws (n_v vs 0) 34)) (w_fi ws (n_v vs 0) 31) (w_fi ws (n_v vs 0) 32) (w_ei ws (w_ar ws (n_v vs 0) 35)) (w_ei ws (w_ar ws (n_v vs 0) 122)) (w_ei ws (w_ar ws (n_v vs 0) 96)) k5 k6 k7 k8 k12 k13 k16 d0 g2 f5 kz_0_31 kz_0_32 kz_0_121
  have rf16 : tv_ok ta (0, 1, 30, []) (n_v vs 16) := tv_in t16 (by first | omega | grind) (by first | omega | grind)
  refine ⟨List.forall_mem_cons.mpr ⟨rf16, (fun _ h => (by cases h))⟩, [], trivial, ?_, (fun _ h => (by cases h))⟩
  rw [List.append_nil]
  exact (fun _ h => (by cases h))
set_option maxHeartbeats 4000000 in
theorem vc_Mo_shift_26_r0 (x7 : Int) (x8 : Int) (x11 : Int) (x19 : Int) (pt_0 : Int → Int) (ph_0 : Int → Int) (pn_0 : Int) (pm_0 : Int) (nx_0 : Int → Int) (ny_0 : Int → Int) (order_0 : Int → Int) (under_0 : Int → Int) (pt_1 : Int → Int) (ph_1 : Int → Int) (pn_1 : Int) (pm_1 : Int) (alive_1 : Int → Int) (upperNode_1 : Int → Int) (order_1 : Int → Int) (nx_1 : Int → Int) (ny_1 : Int → Int) (under_1 : Int → Int) (alive_0 : Int → Int) (upperNode_0 : Int → Int) (k7 : 0 ≤ x7 ∧ x7 ≤ 29) (k8 : 1 ≤ x8 ∧ x8 ≤ 29) (k11 : 0 ≤ x11 ∧ x11 ≤ 0) (k19 : 1 ≤ x19 ∧ x19 ≤ 30) (d0 : x7 + 1 ≤ x19 ∧ x19 ≤ x7 + 1) (f3 : x11 = ((x8 - x7) - 1)) (fe_0_31_1 : pn_0 = pn_1) (fe_0_32_1 : pm_0 = pm_1) (hE_0_33_1 : ∀ j : Int, pt_0 j = pt_1 j) (hE_0_34_1 : ∀ j : Int, ph_0 j = ph_1 j) (hE_0_35_1 : ∀ j : Int, alive_0 j = alive_1 j) (hE_0_74_1 : ∀ j : Int, nx_0 j = nx_1 j) (hE_0_75_1 : ∀ j : Int, ny_0 j = ny_1 j) (hE_0_96_1 : ∀ j : Int, order_0 j = order_1 j) (hE_0_122_1 : ∀ j : Int, upperNode_0 j = upperNode_1 j) (hE_0_123_1 : ∀ j : Int, under_0 j = under_1 j) (kz_0_31 : 0 ≤ pn_0 ∧ pn_0 ≤ 25) (kz_0_32 : 0 ≤ pm_0 ∧ pm_0 ≤ 80) : 1 ≤ x19 ∧ x19 ≤ 29 := by
  subst fe_0_31_1
  subst fe_0_32_1
  have e_hE_0_33_1 := funext hE_0_33_1; subst e_hE_0_33_1
  have e_hE_0_34_1 := funext hE_0_34_1; subst e_hE_0_34_1
  have e_hE_0_35_1 := funext hE_0_35_1; subst e_hE_0_35_1
  have e_hE_0_74_1 := funext hE_0_74_1; subst e_hE_0_74_1
  have e_hE_0_75_1 := funext hE_0_75_1; subst e_hE_0_75_1
  have e_hE_0_96_1 := funext hE_0_96_1; subst e_hE_0_96_1
  have e_hE_0_122_1 := funext hE_0_122_1; subst e_hE_0_122_1
  have e_hE_0_123_1 := funext hE_0_123_1; subst e_hE_0_123_1
  first
    | omega
def o_Mo_shift_26 : or_T := (495, 20, [(0, (2, 0, 0, [165])), (1, (2, 0, 0, [165])), (5, (0, 3, 24, [])), (6, (0, 0, 24, [])), (7, (0, 0, 29, [])), (8, (0, 1, 29, [])), (11, (0, 0, 0, [])), (12, (0, 0, 29, [])), (13, (0, 0, 30, [])), (14, (0, 1, 1, [])), (15, (0, 1, 1, [])), (16, (0, 1, 30, [])), (17, (2, 0, 0, [253])), (18, (0, 1, 1, [])), (19, (0, 1, 30, []))], [(1, [19, 7, 18], []), (9, [17, 1], [122]), (20, [1], [60, 2, 2, 75, 31, 32, 33, 34]), (20, [11, 8, 7], [50, 0, 0, 1, 2, 1, 0, 5, 6, 5, 2, 1, 1, 1, 2, 0, 1]), (20, [1, 5], [60, 0, 3, 826, 74, 75, 96]), (20, [1, 5], [60, 1, 2, 828, 31, 123, 96]), (20, [1], [60, 1, 1, 835, 31, 96]), (20, [1], [60, 1, 1, 823, 31, 96]), (24, [0, 1], []), (101, [1, 16], [121]), (1, [16, 13, 15], []), (2, [15, 14, 11], []), (9, [13, 1], [121]), (7, [12, 8], [5]), (20, [1], [60, 2, 2, 75, 31, 32, 33, 34]), (20, [1, 5, 6, 7, 8, 12], [60, 3, 5, 295, 31, 32, 121, 33, 34, 35, 122, 96]), (20, [11, 8, 7], [50, 0, 0, 1, 2, 1, 0, 5, 6, 5, 2, 1, 1, 1, 2, 0, 1]), (20, [1, 5], [60, 0, 3, 826, 74, 75, 96]), (20, [1, 5], [60, 1, 2, 828, 31, 123, 96]), (20, [1], [60, 1, 1, 835, 31, 96]), (20, [1, 5, 12], [60, 1, 2, 831, 121, 122, 96]), (20, [1], [60, 1, 1, 823, 31, 96])], [(19, (0, 1, 29, []))], [], [], [], [(19, 7, 1, 1), (16, 13, 1, 1), (12, 8, -4294967296, 0)])
theorem oo_Mo_shift_26 {kA : Nat → ClassId} : or_ok PRD kA GG o_Mo_shift_26 := by
  refine or_mk fun A ta ws vs hD hth hl => ?_
  intro t0 r0 t1 r1 t5 k5 t6 k6 t7 k7 t8 k8 t11 k11 t12 k12 t13 k13 t14 k14 t15 k15 t16 k16 t17 r17 t18 k18 t19 k19 d0 d1 d2 f0 f1 f2 f3 f4 f5 f6 f7 f8 ta1 w1 le1 s1 f10 f11 f12 f13 f14 f15 f16 f17 f18 f19 f20 f21
  replace f8 := shm_5 f8
  have s1 : (∀ b j, w_el ws b j = w_el w1 b j) ∧ ∀ b j, w_fd ws b j = if b = v_ad (n_v vs 1) ∧ j = 121 then n_v vs 16 else w_fd w1 b j := s1.2
  have q1 : n_v vs 1 = n_v vs 0 := f8.symm
  rw [q1] at s1
  have fe_0_31_1 : w_fi ws (n_v vs 0) 31 = w_fi w1 (n_v vs 0) 31 := by show v_iv (w_fd _ _ _) = v_iv (w_fd _ _ _); rw [s1.2, if_neg (fun e => absurd e.2 (by decide))]
  have fe_0_32_1 : w_fi ws (n_v vs 0) 32 = w_fi w1 (n_v vs 0) 32 := by show v_iv (w_fd _ _ _) = v_iv (w_fd _ _ _); rw [s1.2, if_neg (fun e => absurd e.2 (by decide))]
  have hE_0_33_1 : ∀ j : Int, w_ei ws (w_ar ws (n_v vs 0) 33) j = w_ei w1 (w_ar ws (n_v vs 0) 33) j := fun j => s1.1 _ _
  have hE_0_34_1 : ∀ j : Int, w_ei ws (w_ar ws (n_v vs 0) 34) j = w_ei w1 (w_ar ws (n_v vs 0) 34) j := fun j => s1.1 _ _
  have hE_0_35_1 : ∀ j : Int, w_ei ws (w_ar ws (n_v vs 0) 35) j = w_ei w1 (w_ar ws (n_v vs 0) 35) j := fun j => s1.1 _ _
  have hE_0_74_1 : ∀ j : Int, w_ei ws (w_ar ws (n_v vs 0) 74) j = w_ei w1 (w_ar ws (n_v vs 0) 74) j := fun j => s1.1 _ _
  have hE_0_75_1 : ∀ j : Int, w_ei ws (w_ar ws (n_v vs 0) 75) j = w_ei w1 (w_ar ws (n_v vs 0) 75) j := fun j => s1.1 _ _
  have hE_0_96_1 : ∀ j : Int, w_ei ws (w_ar ws (n_v vs 0) 96) j = w_ei w1 (w_ar ws (n_v vs 0) 96) j := fun j => s1.1 _ _
  have hE_0_122_1 : ∀ j : Int, w_ei ws (w_ar ws (n_v vs 0) 122) j = w_ei w1 (w_ar ws (n_v vs 0) 122) j := fun j => s1.1 _ _
  have hE_0_123_1 : ∀ j : Int, w_ei ws (w_ar ws (n_v vs 0) 123) j = w_ei w1 (w_ar ws (n_v vs 0) 123) j := fun j => s1.1 _ _
  have kz_0_31 := fdq_145 hD hth r0
  have kz_0_32 := fdq_140 hD hth r0
  have hrf0 : 1 ≤ v_iv (n_v vs 19) ∧ v_iv (n_v vs 19) ≤ 29 := vc_Mo_shift_26_r0 (v_iv (n_v vs 7)) (v_iv (n_v vs 8)) (v_iv (n_v vs 11)) (v_iv (n_v vs 19)) (w_ei ws (w_ar ws (n_v vs 0) 33)) (w_ei ws (w_ar ws (n_v vs 0) 34)) (w_fi ws (n_v vs 0) 31) (w_fi ws (n_v vs 0) 32) (w_ei ws (w_ar ws (n_v vs 0) 74)) (w_ei ws (w_ar ws (n_v vs 0) 75)) (w_ei ws (w_ar ws (n_v vs 0) 96)) (w_ei ws (w_ar ws (n_v vs 0) 123)) (w_ei w1 (w_ar ws (n_v vs 0) 33)) (w_ei w1 (w_ar ws (n_v vs 0) 34)) (w_fi w1 (n_v vs 0) 31) (w_fi w1 (n_v vs 0) 32) (w_ei w1 (w_ar ws (n_v vs 0) 35)) (w_ei w1 (w_ar ws (n_v vs 0) 122)) (w_ei w1 (w_ar ws (n_v vs 0) 96)) (w_ei w1 (w_ar ws (n_v vs 0) 74)) (w_ei w1 (w_ar ws (n_v vs 0) 75)) (w_ei w1 (w_ar ws (n_v vs 0) 123)) (w_ei ws (w_ar ws (n_v vs 0) 35)) (w_ei ws (w_ar ws (n_v vs 0) 122)) k7 k8 k11 k19 d0 (shm_1270 f3) fe_0_31_1 fe_0_32_1 hE_0_33_1 hE_0_34_1 hE_0_35_1 hE_0_74_1 hE_0_75_1 hE_0_96_1 hE_0_122_1 hE_0_123_1 kz_0_31 kz_0_32
  have rf19 : tv_ok ta (0, 1, 29, []) (n_v vs 19) := tv_in t19 (by first | omega | grind) (by first | omega | grind)
  refine ⟨List.forall_mem_cons.mpr ⟨rf19, (fun _ h => (by cases h))⟩, [], trivial, ?_, (fun _ h => (by cases h))⟩
  rw [List.append_nil]
  exact (fun _ h => (by cases h))
set_option maxHeartbeats 4000000 in
theorem vc_Mo_shift_27_0 (x5 : Int) (x6 : Int) (x7 : Int) (x8 : Int) (x11 : Int) (x12 : Int) (x13 : Int) (x16 : Int) (x19 : Int) (x20 : Int) (pt_0 : Int → Int) (ph_0 : Int → Int) (pn_0 : Int) (pm_0 : Int) (nx_0 : Int → Int) (ny_0 : Int → Int) (order_0 : Int → Int) (under_0 : Int → Int) (pt_1 : Int → Int) (ph_1 : Int → Int) (pn_1 : Int) (pm_1 : Int) (nx_1 : Int → Int) (ny_1 : Int → Int) (order_1 : Int → Int) (under_1 : Int → Int) (upper_2 : Int) (pt_2 : Int → Int) (ph_2 : Int → Int) (pn_2 : Int) (pm_2 : Int) (alive_2 : Int → Int) (upperNode_2 : Int → Int) (order_2 : Int → Int) (nx_2 : Int → Int) (ny_2 : Int → Int) (under_2 : Int → Int) (upper_0 : Int) (upper_1 : Int) (alive_0 : Int → Int) (alive_1 : Int → Int) (upperNode_0 : Int → Int) (upperNode_1 : Int → Int) (k5 : 3 ≤ x5 ∧ x5 ≤ 24) (k6 : 0 ≤ x6 ∧ x6 ≤ 24) (k7 : 0 ≤ x7 ∧ x7 ≤ 29) (k8 : 1 ≤ x8 ∧ x8 ≤ 29) (k11 : 0 ≤ x11 ∧ x11 ≤ 0) (k12 : 0 ≤ x12 ∧ x12 ≤ 29) (k13 : 0 ≤ x13 ∧ x13 ≤ 30) (k16 : 1 ≤ x16 ∧ x16 ≤ 30) (k19 : 1 ≤ x19 ∧ x19 ≤ 29) (k20 : 4 ≤ x20 ∧ x20 ≤ 25) (d1 : x7 + 1 ≤ x19 ∧ x19 ≤ x7 + 1) (d2 : x13 + 1 ≤ x16 ∧ x16 ≤ x13 + 1) (f0 : x20 = x5 + 1) (f2 : x11 = ((x8 - x7) - 1)) (g20 : x13 = upper_2) (f21 : x12 ≤ x8) (f23 : SD1 (pn_2) (pm_2) (upper_2) (pt_2) (ph_2) (alive_2) (upperNode_2) (order_2) (x5) (x6) (x7) (x8) (x12)) (fe_0_31_1 : pn_0 = pn_1) (fe_0_32_1 : pm_0 = pm_1) (fe_0_121_1 : upper_0 = upper_1) (fe_0_31_2 : pn_1 = pn_2) (fe_0_32_2 : pm_1 = pm_2) (fe_0_121_2 : upper_1 = x16) (hE_0_33_1 : ∀ j : Int, pt_0 j = pt_1 j) (hE_0_33_2 : ∀ j : Int, pt_1 j = pt_2 j) (hE_0_34_1 : ∀ j : Int, ph_0 j = ph_1 j) (hE_0_34_2 : ∀ j : Int, ph_1 j = ph_2 j) (hE_0_35_1 : ∀ j : Int, alive_0 j = alive_1 j) (hE_0_35_2 : ∀ j : Int, alive_1 j = alive_2 j) (hE_0_74_1 : ∀ j : Int, nx_0 j = nx_1 j) (hE_0_74_2 : ∀ j : Int, nx_1 j = nx_2 j) (hE_0_75_1 : ∀ j : Int, ny_0 j = ny_1 j) (hE_0_75_2 : ∀ j : Int, ny_1 j = ny_2 j) (hE_0_96_1 : ∀ j : Int, order_0 j = order_1 j) (hE_0_96_2 : ∀ j : Int, order_1 j = order_2 j) (hE_0_122_1 : ∀ j : Int, 0 ≤ j → (j = x19 → upperNode_0 j = x6) ∧ (j ≠ x19 → upperNode_0 j = upperNode_1 j)) (hE_0_122_2 : ∀ j : Int, upperNode_1 j = upperNode_2 j) (hE_0_123_1 : ∀ j : Int, under_0 j = under_1 j) (hE_0_123_2 : ∀ j : Int, under_1 j = under_2 j) (kz_0_31 : 0 ≤ pn_0 ∧ pn_0 ≤ 25) (kz_0_32 : 0 ≤ pm_0 ∧ pm_0 ≤ 80) (kz_0_121 : 0 ≤ upper_0 ∧ upper_0 ≤ 30) : SHL (pn_0) (pm_0) (upper_0) (pt_0) (ph_0) (alive_0) (upperNode_0) (order_0) (x20) := by
  subst fe_0_31_1
  subst fe_0_32_1
  subst fe_0_121_1
  subst fe_0_31_2
  subst fe_0_32_2
  have e_hE_0_33_1 := funext hE_0_33_1; subst e_hE_0_33_1
  have e_hE_0_33_2 := funext hE_0_33_2; subst e_hE_0_33_2
  have e_hE_0_34_1 := funext hE_0_34_1; subst e_hE_0_34_1
  have e_hE_0_34_2 := funext hE_0_34_2; subst e_hE_0_34_2
  have e_hE_0_35_1 := funext hE_0_35_1; subst e_hE_0_35_1
  have e_hE_0_35_2 := funext hE_0_35_2; subst e_hE_0_35_2
  have e_hE_0_74_1 := funext hE_0_74_1; subst e_hE_0_74_1
  have e_hE_0_74_2 := funext hE_0_74_2; subst e_hE_0_74_2
  have e_hE_0_75_1 := funext hE_0_75_1; subst e_hE_0_75_1
  have e_hE_0_75_2 := funext hE_0_75_2; subst e_hE_0_75_2
  have e_hE_0_96_1 := funext hE_0_96_1; subst e_hE_0_96_1
  have e_hE_0_96_2 := funext hE_0_96_2; subst e_hE_0_96_2
  have e_hE_0_122_2 := funext hE_0_122_2; subst e_hE_0_122_2
  have e_hE_0_123_1 := funext hE_0_123_1; subst e_hE_0_123_1
  have e_hE_0_123_2 := funext hE_0_123_2; subst e_hE_0_123_2
  first
    | exact sd1_end ‹SD1 _ _ _ _ _ _ _ _ _ _ _ _ _› (by omega) (by assumption) (by omega) (by omega) (by omega) (by omega)
set_option maxHeartbeats 4000000 in
theorem vc_Mo_shift_27_1 (x5 : Int) (x20 : Int) (pt_0 : Int → Int) (ph_0 : Int → Int) (pn_0 : Int) (pm_0 : Int) (nx_0 : Int → Int) (ny_0 : Int → Int) (order_0 : Int → Int) (under_0 : Int → Int) (pt_1 : Int → Int) (ph_1 : Int → Int) (pn_1 : Int) (pm_1 : Int) (nx_1 : Int → Int) (ny_1 : Int → Int) (order_1 : Int → Int) (under_1 : Int → Int) (pt_2 : Int → Int) (ph_2 : Int → Int) (pn_2 : Int) (pm_2 : Int) (alive_2 : Int → Int) (upperNode_2 : Int → Int) (order_2 : Int → Int) (nx_2 : Int → Int) (ny_2 : Int → Int) (under_2 : Int → Int) (upper_0 : Int) (upper_1 : Int) (alive_0 : Int → Int) (alive_1 : Int → Int) (upperNode_1 : Int → Int) (k5 : 3 ≤ x5 ∧ x5 ≤ 24) (k20 : 4 ≤ x20 ∧ x20 ≤ 25) (f0 : x20 = x5 + 1) (f25 : SPKn (nx_2) (ny_2) (order_2) (x5)) (fe_0_31_1 : pn_0 = pn_1) (fe_0_32_1 : pm_0 = pm_1) (fe_0_121_1 : upper_0 = upper_1) (fe_0_31_2 : pn_1 = pn_2) (fe_0_32_2 : pm_1 = pm_2) (hE_0_33_1 : ∀ j : Int, pt_0 j = pt_1 j) (hE_0_33_2 : ∀ j : Int, pt_1 j = pt_2 j) (hE_0_34_1 : ∀ j : Int, ph_0 j = ph_1 j) (hE_0_34_2 : ∀ j : Int, ph_1 j = ph_2 j) (hE_0_35_1 : ∀ j : Int, alive_0 j = alive_1 j) (hE_0_35_2 : ∀ j : Int, alive_1 j = alive_2 j) (hE_0_74_1 : ∀ j : Int, nx_0 j = nx_1 j) (hE_0_74_2 : ∀ j : Int, nx_1 j = nx_2 j) (hE_0_75_1 : ∀ j : Int, ny_0 j = ny_1 j) (hE_0_75_2 : ∀ j : Int, ny_1 j = ny_2 j) (hE_0_96_1 : ∀ j : Int, order_0 j = order_1 j) (hE_0_96_2 : ∀ j : Int, order_1 j = order_2 j) (hE_0_122_2 : ∀ j : Int, upperNode_1 j = upperNode_2 j) (hE_0_123_1 : ∀ j : Int, under_0 j = under_1 j) (hE_0_123_2 : ∀ j : Int, under_1 j = under_2 j) (kz_0_31 : 0 ≤ pn_0 ∧ pn_0 ≤ 25) (kz_0_32 : 0 ≤ pm_0 ∧ pm_0 ≤ 80) (kz_0_121 : 0 ≤ upper_0 ∧ upper_0 ≤ 30) : SPKs (nx_0) (ny_0) (order_0) (x20) := by
  subst fe_0_31_1
  subst fe_0_32_1
  subst fe_0_121_1
  subst fe_0_31_2
  subst fe_0_32_2
  have e_hE_0_33_1 := funext hE_0_33_1; subst e_hE_0_33_1
  have e_hE_0_33_2 := funext hE_0_33_2; subst e_hE_0_33_2
  have e_hE_0_34_1 := funext hE_0_34_1; subst e_hE_0_34_1
  have e_hE_0_34_2 := funext hE_0_34_2; subst e_hE_0_34_2
  have e_hE_0_35_1 := funext hE_0_35_1; subst e_hE_0_35_1
  have e_hE_0_35_2 := funext hE_0_35_2; subst e_hE_0_35_2
  have e_hE_0_74_1 := funext hE_0_74_1; subst e_hE_0_74_1
  have e_hE_0_74_2 := funext hE_0_74_2; subst e_hE_0_74_2
  have e_hE_0_75_1 := funext hE_0_75_1; subst e_hE_0_75_1
  have e_hE_0_75_2 := funext hE_0_75_2; subst e_hE_0_75_2
  have e_hE_0_96_1 := funext hE_0_96_1; subst e_hE_0_96_1
  have e_hE_0_96_2 := funext hE_0_96_2; subst e_hE_0_96_2
  have e_hE_0_122_2 := funext hE_0_122_2; subst e_hE_0_122_2
  have e_hE_0_123_1 := funext hE_0_123_1; subst e_hE_0_123_1
  have e_hE_0_123_2 := funext hE_0_123_2; subst e_hE_0_123_2
  first
    | exact spks_next ‹SPKn _ _ _ _› (by omega)
set_option maxHeartbeats 4000000 in
theorem vc_Mo_shift_27_2 (x5 : Int) (x20 : Int) (pt_0 : Int → Int) (ph_0 : Int → Int) (pn_0 : Int) (pm_0 : Int) (nx_0 : Int → Int) (ny_0 : Int → Int) (order_0 : Int → Int) (under_0 : Int → Int) (pt_1 : Int → Int) (ph_1 : Int → Int) (pn_1 : Int) (pm_1 : Int) (nx_1 : Int → Int) (ny_1 : Int → Int) (order_1 : Int → Int) (under_1 : Int → Int) (pt_2 : Int → Int) (ph_2 : Int → Int) (pn_2 : Int) (pm_2 : Int) (alive_2 : Int → Int) (upperNode_2 : Int → Int) (order_2 : Int → Int) (nx_2 : Int → Int) (ny_2 : Int → Int) (under_2 : Int → Int) (upper_0 : Int) (upper_1 : Int) (alive_0 : Int → Int) (alive_1 : Int → Int) (upperNode_1 : Int → Int) (k5 : 3 ≤ x5 ∧ x5 ≤ 24) (k20 : 4 ≤ x20 ∧ x20 ≤ 25) (f0 : x20 = x5 + 1) (f26 : UNDn (pn_2) (under_2) (order_2) (x5)) (fe_0_31_1 : pn_0 = pn_1) (fe_0_32_1 : pm_0 = pm_1) (fe_0_121_1 : upper_0 = upper_1) (fe_0_31_2 : pn_1 = pn_2) (fe_0_32_2 : pm_1 = pm_2) (hE_0_33_1 : ∀ j : Int, pt_0 j = pt_1 j) (hE_0_33_2 : ∀ j : Int, pt_1 j = pt_2 j) (hE_0_34_1 : ∀ j : Int, ph_0 j = ph_1 j) (hE_0_34_2 : ∀ j : Int, ph_1 j = ph_2 j) (hE_0_35_1 : ∀ j : Int, alive_0 j = alive_1 j) (hE_0_35_2 : ∀ j : Int, alive_1 j = alive_2 j) (hE_0_74_1 : ∀ j : Int, nx_0 j = nx_1 j) (hE_0_74_2 : ∀ j : Int, nx_1 j = nx_2 j) (hE_0_75_1 : ∀ j : Int, ny_0 j = ny_1 j) (hE_0_75_2 : ∀ j : Int, ny_1 j = ny_2 j) (hE_0_96_1 : ∀ j : Int, order_0 j = order_1 j) (hE_0_96_2 : ∀ j : Int, order_1 j = order_2 j) (hE_0_122_2 : ∀ j : Int, upperNode_1 j = upperNode_2 j) (hE_0_123_1 : ∀ j : Int, under_0 j = under_1 j) (hE_0_123_2 : ∀ j : Int, under_1 j = under_2 j) (kz_0_31 : 0 ≤ pn_0 ∧ pn_0 ≤ 25) (kz_0_32 : 0 ≤ pm_0 ∧ pm_0 ≤ 80) (kz_0_121 : 0 ≤ upper_0 ∧ upper_0 ≤ 30) : UND (pn_0) (under_0) (order_0) (x20) := by
  subst fe_0_31_1
  subst fe_0_32_1
  subst fe_0_121_1
  subst fe_0_31_2
  subst fe_0_32_2
  have e_hE_0_33_1 := funext hE_0_33_1; subst e_hE_0_33_1
  have e_hE_0_33_2 := funext hE_0_33_2; subst e_hE_0_33_2
  have e_hE_0_34_1 := funext hE_0_34_1; subst e_hE_0_34_1
  have e_hE_0_34_2 := funext hE_0_34_2; subst e_hE_0_34_2
  have e_hE_0_35_1 := funext hE_0_35_1; subst e_hE_0_35_1
  have e_hE_0_35_2 := funext hE_0_35_2; subst e_hE_0_35_2
  have e_hE_0_74_1 := funext hE_0_74_1; subst e_hE_0_74_1
  have e_hE_0_74_2 := funext hE_0_74_2; subst e_hE_0_74_2
  have e_hE_0_75_1 := funext hE_0_75_1; subst e_hE_0_75_1
  have e_hE_0_75_2 := funext hE_0_75_2; subst e_hE_0_75_2
  have e_hE_0_96_1 := funext hE_0_96_1; subst e_hE_0_96_1
  have e_hE_0_96_2 := funext hE_0_96_2; subst e_hE_0_96_2
  have e_hE_0_122_2 := funext hE_0_122_2; subst e_hE_0_122_2
  have e_hE_0_123_1 := funext hE_0_123_1; subst e_hE_0_123_1
  have e_hE_0_123_2 := funext hE_0_123_2; subst e_hE_0_123_2
  first
    | exact und_next ‹UNDn _ _ _ _› (by omega)
set_option maxHeartbeats 4000000 in
theorem vc_Mo_shift_27_3 (x5 : Int) (x6 : Int) (x7 : Int) (x8 : Int) (x11 : Int) (x12 : Int) (x13 : Int) (x16 : Int) (x19 : Int) (x20 : Int) (pt_0 : Int → Int) (ph_0 : Int → Int) (pn_0 : Int) (pm_0 : Int) (nx_0 : Int → Int) (ny_0 : Int → Int) (order_0 : Int → Int) (under_0 : Int → Int) (pt_1 : Int → Int) (ph_1 : Int → Int) (pn_1 : Int) (pm_1 : Int) (nx_1 : Int → Int) (ny_1 : Int → Int) (order_1 : Int → Int) (under_1 : Int → Int) (upper_2 : Int) (pt_2 : Int → Int) (ph_2 : Int → Int) (pn_2 : Int) (pm_2 : Int) (alive_2 : Int → Int) (upperNode_2 : Int → Int) (order_2 : Int → Int) (nx_2 : Int → Int) (ny_2 : Int → Int) (under_2 : Int → Int) (upper_0 : Int) (upper_1 : Int) (alive_0 : Int → Int) (alive_1 : Int → Int) (upperNode_0 : Int → Int) (upperNode_1 : Int → Int) (k5 : 3 ≤ x5 ∧ x5 ≤ 24) (k6 : 0 ≤ x6 ∧ x6 ≤ 24) (k7 : 0 ≤ x7 ∧ x7 ≤ 29) (k8 : 1 ≤ x8 ∧ x8 ≤ 29) (k11 : 0 ≤ x11 ∧ x11 ≤ 0) (k12 : 0 ≤ x12 ∧ x12 ≤ 29) (k13 : 0 ≤ x13 ∧ x13 ≤ 30) (k16 : 1 ≤ x16 ∧ x16 ≤ 30) (k19 : 1 ≤ x19 ∧ x19 ≤ 29) (k20 : 4 ≤ x20 ∧ x20 ≤ 25) (d0 : x5 + 1 ≤ x20 ∧ x20 ≤ x5 + 1) (d1 : x7 + 1 ≤ x19 ∧ x19 ≤ x7 + 1) (d2 : x13 + 1 ≤ x16 ∧ x16 ≤ x13 + 1) (d3 : x8 + (-4294967296) ≤ x12 ∧ x12 ≤ x8 + 0) (f0 : x20 = x5 + 1) (f2 : x11 = ((x8 - x7) - 1)) (g20 : x13 = upper_2) (f23 : SD1 (pn_2) (pm_2) (upper_2) (pt_2) (ph_2) (alive_2) (upperNode_2) (order_2) (x5) (x6) (x7) (x8) (x12)) (f28 : ULV (upper_2) (upperNode_2) (order_2) (x5) (x12)) (fe_0_31_1 : pn_0 = pn_1) (fe_0_32_1 : pm_0 = pm_1) (fe_0_121_1 : upper_0 = upper_1) (fe_0_31_2 : pn_1 = pn_2) (fe_0_32_2 : pm_1 = pm_2) (fe_0_121_2 : upper_1 = x16) (hE_0_33_1 : ∀ j : Int, pt_0 j = pt_1 j) (hE_0_33_2 : ∀ j : Int, pt_1 j = pt_2 j) (hE_0_34_1 : ∀ j : Int, ph_0 j = ph_1 j) (hE_0_34_2 : ∀ j : Int, ph_1 j = ph_2 j) (hE_0_35_1 : ∀ j : Int, alive_0 j = alive_1 j) (hE_0_35_2 : ∀ j : Int, alive_1 j = alive_2 j) (hE_0_74_1 : ∀ j : Int, nx_0 j = nx_1 j) (hE_0_74_2 : ∀ j : Int, nx_1 j = nx_2 j) (hE_0_75_1 : ∀ j : Int, ny_0 j = ny_1 j) (hE_0_75_2 : ∀ j : Int, ny_1 j = ny_2 j) (hE_0_96_1 : ∀ j : Int, order_0 j = order_1 j) (hE_0_96_2 : ∀ j : Int, order_1 j = order_2 j) (hE_0_122_1 : ∀ j : Int, 0 ≤ j → (j = x19 → upperNode_0 j = x6) ∧ (j ≠ x19 → upperNode_0 j = upperNode_1 j)) (hE_0_122_2 : ∀ j : Int, upperNode_1 j = upperNode_2 j) (hE_0_123_1 : ∀ j : Int, under_0 j = under_1 j) (hE_0_123_2 : ∀ j : Int, under_1 j = under_2 j) (kz_0_31 : 0 ≤ pn_0 ∧ pn_0 ≤ 25) (kz_0_32 : 0 ≤ pm_0 ∧ pm_0 ≤ 80) (kz_0_121 : 0 ≤ upper_0 ∧ upper_0 ≤ 30) : ULU (upper_0) (upperNode_0) (order_0) (x20) := by
  subst fe_0_31_1
  subst fe_0_32_1
  subst fe_0_121_1
  subst fe_0_31_2
  subst fe_0_32_2
  have e_hE_0_33_1 := funext hE_0_33_1; subst e_hE_0_33_1
  have e_hE_0_33_2 := funext hE_0_33_2; subst e_hE_0_33_2
  have e_hE_0_34_1 := funext hE_0_34_1; subst e_hE_0_34_1
  have e_hE_0_34_2 := funext hE_0_34_2; subst e_hE_0_34_2
  have e_hE_0_35_1 := funext hE_0_35_1; subst e_hE_0_35_1
  have e_hE_0_35_2 := funext hE_0_35_2; subst e_hE_0_35_2
  have e_hE_0_74_1 := funext hE_0_74_1; subst e_hE_0_74_1
  have e_hE_0_74_2 := funext hE_0_74_2; subst e_hE_0_74_2
  have e_hE_0_75_1 := funext hE_0_75_1; subst e_hE_0_75_1
  have e_hE_0_75_2 := funext hE_0_75_2; subst e_hE_0_75_2
  have e_hE_0_96_1 := funext hE_0_96_1; subst e_hE_0_96_1
  have e_hE_0_96_2 := funext hE_0_96_2; subst e_hE_0_96_2
  have e_hE_0_122_2 := funext hE_0_122_2; subst e_hE_0_122_2
  have e_hE_0_123_1 := funext hE_0_123_1; subst e_hE_0_123_1
  have e_hE_0_123_2 := funext hE_0_123_2; subst e_hE_0_123_2
  first
    | (have hx : x6 = order_0 x5 := by obtain ⟨U0, h, _⟩ := ‹SD1 _ _ _ _ _ _ _ _ _ _ _ _ _›; exact h.1.1.2.1.2
       have hl := sd1_len ‹SD1 _ _ _ _ _ _ _ _ _ _ _ _ _›
       exact ulu_end1 ‹ULV _ _ _ _ _› (by omega) (by assumption) hx (by omega) (by omega) (by omega))
def o_Mo_shift_27 : or_T := (121, 21, [(0, (2, 0, 0, [165])), (1, (2, 0, 0, [165])), (5, (0, 3, 24, [])), (6, (0, 0, 24, [])), (7, (0, 0, 29, [])), (8, (0, 1, 29, [])), (11, (0, 0, 0, [])), (12, (0, 0, 29, [])), (13, (0, 0, 30, [])), (14, (0, 1, 1, [])), (15, (0, 1, 1, [])), (16, (0, 1, 30, [])), (17, (2, 0, 0, [253])), (18, (0, 1, 1, [])), (19, (0, 1, 29, [])), (20, (0, 4, 25, []))], [(6, [20, 5], [1]), (20, [1], [60, 2, 2, 75, 31, 32, 33, 34]), (20, [11, 8, 7], [50, 0, 0, 1, 2, 1, 0, 5, 6, 5, 2, 1, 1, 1, 2, 0, 1]), (20, [1, 5], [60, 0, 3, 826, 74, 75, 96]), (20, [1, 5], [60, 1, 2, 828, 31, 123, 96]), (20, [1], [60, 1, 1, 835, 31, 96]), (20, [1], [60, 1, 1, 823, 31, 96]), (24, [0, 1], []), (100, [17, 19, 6], []), (1, [19, 7, 18], []), (9, [17, 1], [122]), (20, [1], [60, 2, 2, 75, 31, 32, 33, 34]), (20, [11, 8, 7], [50, 0, 0, 1, 2, 1, 0, 5, 6, 5, 2, 1, 1, 1, 2, 0, 1]), (20, [1, 5], [60, 0, 3, 826, 74, 75, 96]), (20, [1, 5], [60, 1, 2, 828, 31, 123, 96]), (20, [1], [60, 1, 1, 835, 31, 96]), (20, [1], [60, 1, 1, 823, 31, 96]), (101, [1, 16], [121]), (1, [16, 13, 15], []), (2, [15, 14, 11], []), (9, [13, 1], [121]), (7, [12, 8], [5]), (20, [1], [60, 2, 2, 75, 31, 32, 33, 34]), (20, [1, 5, 6, 7, 8, 12], [60, 3, 5, 295, 31, 32, 121, 33, 34, 35, 122, 96]), (20, [11, 8, 7], [50, 0, 0, 1, 2, 1, 0, 5, 6, 5, 2, 1, 1, 1, 2, 0, 1]), (20, [1, 5], [60, 0, 3, 826, 74, 75, 96]), (20, [1, 5], [60, 1, 2, 828, 31, 123, 96]), (20, [1], [60, 1, 1, 835, 31, 96]), (20, [1, 5, 12], [60, 1, 2, 831, 121, 122, 96]), (20, [1], [60, 1, 1, 823, 31, 96])], [], [], [(20, [1, 20], [60, 3, 5, 291, 31, 32, 121, 33, 34, 35, 122, 96]), (20, [1, 20], [60, 0, 3, 824, 74, 75, 96]), (20, [1, 20], [60, 1, 2, 827, 31, 123, 96]), (20, [1, 20], [60, 1, 2, 830, 121, 122, 96])], [], [(20, 5, 1, 1), (19, 7, 1, 1), (16, 13, 1, 1), (12, 8, -4294967296, 0)])
theorem oo_Mo_shift_27 {kA : Nat → ClassId} : or_ok PRD kA GG o_Mo_shift_27 := by
  refine or_mk fun A ta ws vs hD hth hl => ?_
  intro t0 r0 t1 r1 t5 k5 t6 k6 t7 k7 t8 k8 t11 k11 t12 k12 t13 k13 t14 k14 t15 k15 t16 k16 t17 r17 t18 k18 t19 k19 t20 k20 d0 d1 d2 d3 f0 f1 f2 f3 f4 f5 f6 f7 ta1 w1 le1 s1 f9 f10 f11 f12 f13 f14 f15 f16 ta2 w2 le2 s2 f18 f19 f20 f21 f22 f23 f24 f25 f26 f27 f28 f29
  replace f0 := shm_4 f0
  replace f2 := shm_1270 f2
  replace f7 := shm_5 f7
  have s1 : (∀ b j, w_el ws b j = if b = v_ad (n_v vs 17) ∧ j = (v_iv (n_v vs 19)).toNat then v_iv (n_v vs 6) else w_el w1 b j) ∧ ∀ b k, w_fd ws b k = w_fd w1 b k := s1.2
  replace f10 := shm_1019 f10
  have s2 : (∀ b j, w_el w1 b j = w_el w2 b j) ∧ ∀ b j, w_fd w1 b j = if b = v_ad (n_v vs 1) ∧ j = 121 then n_v vs 16 else w_fd w2 b j := s2.2
  replace f20 := shm_1024 f20
  replace f21 := shm_24 f21
  replace f23 := shm_1271 f23
  replace f25 := shm_1267 f25
  replace f26 := shm_1268 f26
  replace f28 := shm_1272 f28
  have q1 : n_v vs 1 = n_v vs 0 := f7.symm
  simp only [q1] at f10
  rw [q1] at s2
  simp only [q1] at f20 f23 f25 f26 f28
  have ar_0_33_1 : w_ar w1 (n_v vs 0) 33 = w_ar ws (n_v vs 0) 33 := congrArg v_ad (s1.2 _ _).symm
  have ar_0_33_2 : w_ar w2 (n_v vs 0) 33 = w_ar ws (n_v vs 0) 33 := by rw [← ar_0_33_1]; show v_ad (w_fd w2 _ _) = v_ad (w_fd w1 _ _); rw [s2.2, if_neg (fun e => absurd e.2 (by decide))]
  have cr_0_33 := fdq_117 hD hth r0
  have ar_0_34_1 : w_ar w1 (n_v vs 0) 34 = w_ar ws (n_v vs 0) 34 := congrArg v_ad (s1.2 _ _).symm
  have ar_0_34_2 : w_ar w2 (n_v vs 0) 34 = w_ar ws (n_v vs 0) 34 := by rw [← ar_0_34_1]; show v_ad (w_fd w2 _ _) = v_ad (w_fd w1 _ _); rw [s2.2, if_neg (fun e => absurd e.2 (by decide))]
  have cr_0_34 := fdq_118 hD hth r0
  have ar_0_35_1 : w_ar w1 (n_v vs 0) 35 = w_ar ws (n_v vs 0) 35 := congrArg v_ad (s1.2 _ _).symm
  have ar_0_35_2 : w_ar w2 (n_v vs 0) 35 = w_ar ws (n_v vs 0) 35 := by rw [← ar_0_35_1]; show v_ad (w_fd w2 _ _) = v_ad (w_fd w1 _ _); rw [s2.2, if_neg (fun e => absurd e.2 (by decide))]
  have cr_0_35 := fdq_132 hD hth r0
  have ar_0_74_1 : w_ar w1 (n_v vs 0) 74 = w_ar ws (n_v vs 0) 74 := congrArg v_ad (s1.2 _ _).symm
  have ar_0_74_2 : w_ar w2 (n_v vs 0) 74 = w_ar ws (n_v vs 0) 74 := by rw [← ar_0_74_1]; show v_ad (w_fd w2 _ _) = v_ad (w_fd w1 _ _); rw [s2.2, if_neg (fun e => absurd e.2 (by decide))]
  have cr_0_74 := fdq_164 hD hth r0
  have ar_0_75_1 : w_ar w1 (n_v vs 0) 75 = w_ar ws (n_v vs 0) 75 := congrArg v_ad (s1.2 _ _).symm
  have ar_0_75_2 : w_ar w2 (n_v vs 0) 75 = w_ar ws (n_v vs 0) 75 := by rw [← ar_0_75_1]; show v_ad (w_fd w2 _ _) = v_ad (w_fd w1 _ _); rw [s2.2, if_neg (fun e => absurd e.2 (by decide))]
  have cr_0_75 := fdq_165 hD hth r0
  have ar_0_96_1 : w_ar w1 (n_v vs 0) 96 = w_ar ws (n_v vs 0) 96 := congrArg v_ad (s1.2 _ _).symm
  have ar_0_96_2 : w_ar w2 (n_v vs 0) 96 = w_ar ws (n_v vs 0) 96 := by rw [← ar_0_96_1]; show v_ad (w_fd w2 _ _) = v_ad (w_fd w1 _ _); rw [s2.2, if_neg (fun e => absurd e.2 (by decide))]
  have cr_0_96 := fdq_166 hD hth r0
  have ar_0_122_1 : w_ar w1 (n_v vs 0) 122 = w_ar ws (n_v vs 0) 122 := congrArg v_ad (s1.2 _ _).symm
  have ar_0_122_2 : w_ar w2 (n_v vs 0) 122 = w_ar ws (n_v vs 0) 122 := by rw [← ar_0_122_1]; show v_ad (w_fd w2 _ _) = v_ad (w_fd w1 _ _); rw [s2.2, if_neg (fun e => absurd e.2 (by decide))]
  have ar_0_123_1 : w_ar w1 (n_v vs 0) 123 = w_ar ws (n_v vs 0) 123 := congrArg v_ad (s1.2 _ _).symm
  have ar_0_123_2 : w_ar w2 (n_v vs 0) 123 = w_ar ws (n_v vs 0) 123 := by rw [← ar_0_123_1]; show v_ad (w_fd w2 _ _) = v_ad (w_fd w1 _ _); rw [s2.2, if_neg (fun e => absurd e.2 (by decide))]
  have cr_0_123 := fdq_281 hD hth r0
  have ad_17 : v_ad (n_v vs 17) = w_ar ws (n_v vs 0) 122 := (congrArg v_ad f10).trans ar_0_122_1
  have g20 : v_iv (n_v vs 13) = w_fi w2 (n_v vs 0) 121 := congrArg v_iv f20
  simp only [ar_0_33_2, ar_0_34_2, ar_0_35_2, ar_0_96_2, ar_0_122_2, ar_0_74_2, ar_0_75_2, ar_0_123_2] at f23 f25 f26 f28
  have fe_0_31_1 : w_fi ws (n_v vs 0) 31 = w_fi w1 (n_v vs 0) 31 := congrArg v_iv (s1.2 _ _)
  have fe_0_32_1 : w_fi ws (n_v vs 0) 32 = w_fi w1 (n_v vs 0) 32 := congrArg v_iv (s1.2 _ _)
  have fe_0_121_1 : w_fi ws (n_v vs 0) 121 = w_fi w1 (n_v vs 0) 121 := congrArg v_iv (s1.2 _ _)
  have fe_0_31_2 : w_fi w1 (n_v vs 0) 31 = w_fi w2 (n_v vs 0) 31 := by show v_iv (w_fd _ _ _) = v_iv (w_fd _ _ _); rw [s2.2, if_neg (fun e => absurd e.2 (by decide))]
  have fe_0_32_2 : w_fi w1 (n_v vs 0) 32 = w_fi w2 (n_v vs 0) 32 := by show v_iv (w_fd _ _ _) = v_iv (w_fd _ _ _); rw [s2.2, if_neg (fun e => absurd e.2 (by decide))]
  have fe_0_121_2 : w_fi w1 (n_v vs 0) 121 = v_iv (n_v vs 16) := by show v_iv (w_fd _ _ _) = _; rw [s2.2, if_pos ⟨rfl, rfl⟩]
  have hE_0_33_1 : ∀ j : Int, w_ei ws (w_ar ws (n_v vs 0) 33) j = w_ei w1 (w_ar ws (n_v vs 0) 33) j := el_kp s1.1 r17 cr_0_33 (by decide)
  have hE_0_33_2 : ∀ j : Int, w_ei w1 (w_ar ws (n_v vs 0) 33) j = w_ei w2 (w_ar ws (n_v vs 0) 33) j := fun j => s2.1 _ _
  have hE_0_34_1 : ∀ j : Int, w_ei ws (w_ar ws (n_v vs 0) 34) j = w_ei w1 (w_ar ws (n_v vs 0) 34) j := el_kp s1.1 r17 cr_0_34 (by decide)
  have hE_0_34_2 : ∀ j : Int, w_ei w1 (w_ar ws (n_v vs 0) 34) j = w_ei w2 (w_ar ws (n_v vs 0) 34) j := fun j => s2.1 _ _
  have hE_0_35_1 : ∀ j : Int, w_ei ws (w_ar ws (n_v vs 0) 35) j = w_ei w1 (w_ar ws (n_v vs 0) 35) j := el_kp s1.1 r17 cr_0_35 (by decide)
  have hE_0_35_2 : ∀ j : Int, w_ei w1 (w_ar ws (n_v vs 0) 35) j = w_ei w2 (w_ar ws (n_v vs 0) 35) j := fun j => s2.1 _ _
  have hE_0_74_1 : ∀ j : Int, w_ei ws (w_ar ws (n_v vs 0) 74) j = w_ei w1 (w_ar ws (n_v vs 0) 74) j := el_kp s1.1 r17 cr_0_74 (by decide)
  have hE_0_74_2 : ∀ j : Int, w_ei w1 (w_ar ws (n_v vs 0) 74) j = w_ei w2 (w_ar ws (n_v vs 0) 74) j := fun j => s2.1 _ _
  have hE_0_75_1 : ∀ j : Int, w_ei ws (w_ar ws (n_v vs 0) 75) j = w_ei w1 (w_ar ws (n_v vs 0) 75) j := el_kp s1.1 r17 cr_0_75 (by decide)
  have hE_0_75_2 : ∀ j : Int, w_ei w1 (w_ar ws (n_v vs 0) 75) j = w_ei w2 (w_ar ws (n_v vs 0) 75) j := fun j => s2.1 _ _
  have hE_0_96_1 : ∀ j : Int, w_ei ws (w_ar ws (n_v vs 0) 96) j = w_ei w1 (w_ar ws (n_v vs 0) 96) j := el_kp s1.1 r17 cr_0_96 (by decide)
  have hE_0_96_2 : ∀ j : Int, w_ei w1 (w_ar ws (n_v vs 0) 96) j = w_ei w2 (w_ar ws (n_v vs 0) 96) j := fun j => s2.1 _ _
  have hE_0_122_1 : ∀ j : Int, 0 ≤ j → (j = v_iv (n_v vs 19) → w_ei ws (w_ar ws (n_v vs 0) 122) j = v_iv (n_v vs 6)) ∧ (j ≠ v_iv (n_v vs 19) → w_ei ws (w_ar ws (n_v vs 0) 122) j = w_ei w1 (w_ar ws (n_v vs 0) 122) j) := fun j hj => ⟨fun h => by unfold w_ei; rw [s1.1, if_pos ⟨ad_17.symm, by rw [h]⟩], fun h => by unfold w_ei; rw [s1.1, if_neg (fun e => h (by have := e.2; omega))]⟩
  have hE_0_122_2 : ∀ j : Int, w_ei w1 (w_ar ws (n_v vs 0) 122) j = w_ei w2 (w_ar ws (n_v vs 0) 122) j := fun j => s2.1 _ _
  have hE_0_123_1 : ∀ j : Int, w_ei ws (w_ar ws (n_v vs 0) 123) j = w_ei w1 (w_ar ws (n_v vs 0) 123) j := el_kp s1.1 r17 cr_0_123 (by decide)
  have hE_0_123_2 : ∀ j : Int, w_ei w1 (w_ar ws (n_v vs 0) 123) j = w_ei w2 (w_ar ws (n_v vs 0) 123) j := fun j => s2.1 _ _
  have kz_0_31 := fdq_145 hD hth r0
  have kz_0_32 := fdq_140 hD hth r0
  have kz_0_121 := fdq_242 hD hth r0
  have nf0 : fc_1 PRD (20, [1, 20], [60, 3, 5, 291, 31, 32, 121, 33, 34, 35, 122, 96]) ws (vs) := by
    refine ⟨nf_in hl rfl, sgq_1257 ?_⟩
    · show SHL (w_fi ws (n_v vs 1) 31) (w_fi ws (n_v vs 1) 32) (w_fi ws (n_v vs 1) 121) (w_ei ws (w_ar ws (n_v vs 1) 33)) (w_ei ws (w_ar ws (n_v vs 1) 34)) (w_ei ws (w_ar ws (n_v vs 1) 35)) (w_ei ws (w_ar ws (n_v vs 1) 122)) (w_ei ws (w_ar ws (n_v vs 1) 96)) (v_iv (n_v vs 20))
      rw [q1]
      exact vc_Mo_shift_27_0 (v_iv (n_v vs 5)) (v_iv (n_v vs 6)) (v_iv (n_v vs 7)) (v_iv (n_v vs 8)) (v_iv (n_v vs 11)) (v_iv (n_v vs 12)) (v_iv (n_v vs 13)) (v_iv (n_v vs 16)) (v_iv (n_v vs 19)) (v_iv (n_v vs 20)) (w_ei ws (w_ar ws (n_v vs 0) 33)) (w_ei ws (w_ar ws (n_v vs 0) 34)) (w_fi ws (n_v vs 0) 31) (w_fi ws (n_v vs 0) 32) (w_ei ws (w_ar ws (n_v vs 0) 74)) (w_ei ws (w_ar ws (n_v vs 0) 75)) (w_ei ws (w_ar ws (n_v vs 0) 96)) (w_ei ws (w_ar ws (n_v vs 0) 123)) (w_ei w1 (w_ar ws (n_v vs 0) 33)) (w_ei w1 (w_ar ws (n_v vs 0) 34)) (w_fi w1 (n_v vs 0) 31) (w_fi w1 (n_v vs 0) 32) (w_ei w1 (w_ar ws (n_v vs 0) 74)) (w_ei w1 (w_ar ws (n_v vs 0) 75)) (w_ei w1 (w_ar ws (n_v vs 0) 96)) (w_ei w1 (w_ar ws (n_v vs 0) 123)) (w_fi w2 (n_v vs 0) 121) (w_ei w2 (w_ar ws (n_v vs 0) 33)) (w_ei w2 (w_ar ws (n_v vs 0) 34)) (w_fi w2 (n_v vs 0) 31) (w_fi w2 (n_v vs 0) 32) (w_ei w2 (w_ar ws (n_v vs 0) 35)) (w_ei w2 (w_ar ws (n_v vs 0) 122)) (w_ei w2 (w_ar ws (n_v vs 0) 96)) (w_ei w2 (w_ar ws (n_v vs 0) 74)) (w_ei w2 (w_ar ws (n_v vs 0) 75)) (w_ei w2 (w_ar ws (n_v vs 0) 123)) (w_fi ws (n_v vs 0) 121) (w_fi w1 (n_v vs 0) 121) (w_ei ws (w_ar ws (n_v vs 0) 35)) (w_ei w1 (w_ar ws (n_v vs 0) 35)) (w_ei ws (w_ar ws (n_v vs 0) 122)) (w_ei w1 (w_ar ws (n_v vs 0) 122)) k5 k6 k7 k8 k11 k12 k13 k16 k19 k20 d1 d2 f0 f2 g20 f21 f23 fe_0_31_1 fe_0_32_1 fe_0_121_1 fe_0_31_2 fe_0_32_2 fe_0_121_2 hE_0_33_1 hE_0_33_2 hE_0_34_1 hE_0_34_2 hE_0_35_1 hE_0_35_2 hE_0_74_1 hE_0_74_2 hE_0_75_1 hE_0_75_2 hE_0_96_1 hE_0_96_2 hE_0_122_1 hE_0_122_2 hE_0_123_1 hE_0_123_2 kz_0_31 kz_0_32 kz_0_121
  have nf1 : fc_1 PRD (20, [1, 20], [60, 0, 3, 824, 74, 75, 96]) ws (vs) := by
    refine ⟨nf_in hl rfl, sgq_1258 ?_⟩
    · show SPKs (w_ei ws (w_ar ws (n_v vs 1) 74)) (w_ei ws (w_ar ws (n_v vs 1) 75)) (w_ei ws (w_ar ws (n_v vs 1) 96)) (v_iv (n_v vs 20))
      rw [q1]
      exact vc_Mo_shift_27_1 (v_iv (n_v vs 5)) (v_iv (n_v vs 20)) (w_ei ws (w_ar ws (n_v vs 0) 33)) (w_ei ws (w_ar ws (n_v vs 0) 34)) (w_fi ws (n_v vs 0) 31) (w_fi ws (n_v vs 0) 32) (w_ei ws (w_ar ws (n_v vs 0) 74)) (w_ei ws (w_ar ws (n_v vs 0) 75)) (w_ei ws (w_ar ws (n_v vs 0) 96)) (w_ei ws (w_ar ws (n_v vs 0) 123)) (w_ei w1 (w_ar ws (n_v vs 0) 33)) (w_ei w1 (w_ar ws (n_v vs 0) 34)) (w_fi w1 (n_v vs 0) 31) (w_fi w1 (n_v vs 0) 32) (w_ei w1 (w_ar ws (n_v vs 0) 74)) (w_ei w1 (w_ar ws (n_v vs 0) 75)) (w_ei w1 (w_ar ws (n_v vs 0) 96)) (w_ei w1 (w_ar ws (n_v vs 0) 123)) (w_ei w2 (w_ar ws (n_v vs 0) 33)) (w_ei w2 (w_ar ws (n_v vs 0) 34)) (w_fi w2 (n_v vs 0) 31) (w_fi w2 (n_v vs 0) 32) (w_ei w2 (w_ar ws (n_v vs 0) 35)) (w_ei w2 (w_ar ws (n_v vs 0) 122)) (w_ei w2 (w_ar ws (n_v vs 0) 96)) (w_ei w2 (w_ar ws (n_v vs 0) 74)) (w_ei w2 (w_ar ws (n_v vs 0) 75)) (w_ei w2 (w_ar ws (n_v vs 0) 123)) (w_fi ws (n_v vs 0) 121) (w_fi w1 (n_v vs 0) 121) (w_ei ws (w_ar ws (n_v vs 0) 35)) (w_ei w1 (w_ar ws (n_v vs 0) 35)) (w_ei w1 (w_ar ws (n_v vs 0) 122)) k5 k20 f0 f25 fe_0_31_1 fe_0_32_1 fe_0_121_1 fe_0_31_2 fe_0_32_2 hE_0_33_1 hE_0_33_2 hE_0_34_1 hE_0_34_2 hE_0_35_1 hE_0_35_2 hE_0_74_1 hE_0_74_2 hE_0_75_1 hE_0_75_2 hE_0_96_1 hE_0_96_2 hE_0_122_2 hE_0_123_1 hE_0_123_2 kz_0_31 kz_0_32 kz_0_121
  have nf2 : fc_1 PRD (20, [1, 20], [60, 1, 2, 827, 31, 123, 96]) ws (vs) := by
    refine ⟨nf_in hl rfl, sgq_1259 ?_⟩
    · show UND (w_fi ws (n_v vs 1) 31) (w_ei ws (w_ar ws (n_v vs 1) 123)) (w_ei ws (w_ar ws (n_v vs 1) 96)) (v_iv (n_v vs 20))
      rw [q1]
      exact vc_Mo_shift_27_2 (v_iv (n_v vs 5)) (v_iv (n_v vs 20)) (w_ei ws (w_ar ws (n_v vs 0) 33)) (w_ei ws (w_ar ws (n_v vs 0) 34)) (w_fi ws (n_v vs 0) 31) (w_fi ws (n_v vs 0) 32) (w_ei ws (w_ar ws (n_v vs 0) 74)) (w_ei ws (w_ar ws (n_v vs 0) 75)) (w_ei ws (w_ar ws (n_v vs 0) 96)) (w_ei ws (w_ar ws (n_v vs 0) 123)) (w_ei w1 (w_ar ws (n_v vs 0) 33)) (w_ei w1 (w_ar ws (n_v vs 0) 34)) (w_fi w1 (n_v vs 0) 31) (w_fi w1 (n_v vs 0) 32) (w_ei w1 (w_ar ws (n_v vs 0) 74)) (w_ei w1 (w_ar ws (n_v vs 0) 75)) (w_ei w1 (w_ar ws (n_v vs 0) 96)) (w_ei w1 (w_ar ws (n_v vs 0) 123)) (w_ei w2 (w_ar ws (n_v vs 0) 33)) (w_ei w2 (w_ar ws (n_v vs 0) 34)) (w_fi w2 (n_v vs 0) 31) (w_fi w2 (n_v vs 0) 32) (w_ei w2 (w_ar ws (n_v vs 0) 35)) (w_ei w2 (w_ar ws (n_v vs 0) 122)) (w_ei w2 (w_ar ws (n_v vs 0) 96)) (w_ei w2 (w_ar ws (n_v vs 0) 74)) (w_ei w2 (w_ar ws (n_v vs 0) 75)) (w_ei w2 (w_ar ws (n_v vs 0) 123)) (w_fi ws (n_v vs 0) 121) (w_fi w1 (n_v vs 0) 121) (w_ei ws (w_ar ws (n_v vs 0) 35)) (w_ei w1 (w_ar ws (n_v vs 0) 35)) (w_ei w1 (w_ar ws (n_v vs 0) 122)) k5 k20 f0 f26 fe_0_31_1 fe_0_32_1 fe_0_121_1 fe_0_31_2 fe_0_32_2 hE_0_33_1 hE_0_33_2 hE_0_34_1 hE_0_34_2 hE_0_35_1 hE_0_35_2 hE_0_74_1 hE_0_74_2 hE_0_75_1 hE_0_75_2 hE_0_96_1 hE_0_96_2 hE_0_122_2 hE_0_123_1 hE_0_123_2 kz_0_31 kz_0_32 kz_0_121
  have nf3 : fc_1 PRD (20, [1, 20], [60, 1, 2, 830, 121, 122, 96]) ws (vs) := by
    refine ⟨nf_in hl rfl, sgq_1260 ?_⟩
    · show ULU (w_fi ws (n_v vs 1) 121) (w_ei ws (w_ar ws (n_v vs 1) 122)) (w_ei ws (w_ar ws (n_v vs 1) 96)) (v_iv (n_v vs 20))
      rw [q1]
      exact vc_Mo_shift_27_3 (v_iv (n_v vs 5)) (v_iv (n_v vs 6)) (v_iv (n_v vs 7)) (v_iv (n_v vs 8)) (v_iv (n_v vs 11)) (v_iv (n_v vs 12)) (v_iv (n_v vs 13)) (v_iv (n_v vs 16)) (v_iv (n_v vs 19)) (v_iv (n_v vs 20)) (w_ei ws (w_ar ws (n_v vs 0) 33)) (w_ei ws (w_ar ws (n_v vs 0) 34)) (w_fi ws (n_v vs 0) 31) (w_fi ws (n_v vs 0) 32) (w_ei ws (w_ar ws (n_v vs 0) 74)) (w_ei ws (w_ar ws (n_v vs 0) 75)) (w_ei ws (w_ar ws (n_v vs 0) 96)) (w_ei ws (w_ar ws (n_v vs 0) 123)) (w_ei w1 (w_ar ws (n_v vs 0) 33)) (w_ei w1 (w_ar ws (n_v vs 0) 34)) (w_fi w1 (n_v vs 0) 31) (w_fi w1 (n_v vs 0) 32) (w_ei w1 (w_ar ws (n_v vs 0) 74)) (w_ei w1 (w_ar ws (n_v vs 0) 75)) (w_ei w1 (w_ar ws (n_v vs 0) 96)) (w_ei w1 (w_ar ws (n_v vs 0) 123)) (w_fi w2 (n_v vs 0) 121) (w_ei w2 (w_ar ws (n_v vs 0) 33)) (w_ei w2 (w_ar ws (n_v vs 0) 34)) (w_fi w2 (n_v vs 0) 31) (w_fi w2 (n_v vs 0) 32) (w_ei w2 (w_ar ws (n_v vs 0) 35)) (w_ei w2 (w_ar ws (n_v vs 0) 122)) (w_ei w2 (w_ar ws (n_v vs 0) 96)) (w_ei w2 (w_ar ws (n_v vs 0) 74)) (w_ei w2 (w_ar ws (n_v vs 0) 75)) (w_ei w2 (w_ar ws (n_v vs 0) 123)) (w_fi ws (n_v vs 0) 121) (w_fi w1 (n_v vs 0) 121) (w_ei ws (w_ar ws (n_v vs 0) 35)) (w_ei w1 (w_ar ws (n_v vs 0) 35)) (w_ei ws (w_ar ws (n_v vs 0) 122)) (w_ei w1 (w_ar ws (n_v vs 0) 122)) k5 k6 k7 k8 k11 k12 k13 k16 k19 k20 d0 d1 d2 d3 f0 f2 g20 f23 f28 fe_0_31_1 fe_0_32_1 fe_0_121_1 fe_0_31_2 fe_0_32_2 fe_0_121_2 hE_0_33_1 hE_0_33_2 hE_0_34_1 hE_0_34_2 hE_0_35_1 hE_0_35_2 hE_0_74_1 hE_0_74_2 hE_0_75_1 hE_0_75_2 hE_0_96_1 hE_0_96_2 hE_0_122_1 hE_0_122_2 hE_0_123_1 hE_0_123_2 kz_0_31 kz_0_32 kz_0_121
  refine ⟨(fun _ h => (by cases h)), [], trivial, ?_, (fun _ h => (by cases h))⟩
  rw [List.append_nil]
  exact List.forall_mem_cons.mpr ⟨⟨show (20 : Nat) < 100 from by decide, nf0⟩, List.forall_mem_cons.mpr ⟨⟨show (20 : Nat) < 100 from by decide, nf1⟩, List.forall_mem_cons.mpr ⟨⟨show (20 : Nat) < 100 from by decide, nf2⟩, List.forall_mem_cons.mpr ⟨⟨show (20 : Nat) < 100 from by decide, nf3⟩, (fun _ h => (by cases h))⟩⟩⟩⟩
set_option maxHeartbeats 4000000 in
theorem vc_Mo_shift_28_r0 (x5 : Int) (x6 : Int) (x7 : Int) (x8 : Int) (x12 : Int) (x15 : Int) (upperNode_0 : Int → Int) (pt_0 : Int → Int) (ph_0 : Int → Int) (pn_0 : Int) (pm_0 : Int) (alive_0 : Int → Int) (order_0 : Int → Int) (upper_0 : Int) (k5 : 3 ≤ x5 ∧ x5 ≤ 24) (k6 : 0 ≤ x6 ∧ x6 ≤ 24) (k7 : 0 ≤ x7 ∧ x7 ≤ 29) (k8 : 1 ≤ x8 ∧ x8 ≤ 29) (k12 : 2 ≤ x12 ∧ x12 ≤ 30) (k15 : 1 ≤ x15 ∧ x15 ≤ 29) (d0 : x12 + (-1) ≤ x15 ∧ x15 ≤ x12 + (-1)) (f5 : SD1 (pn_0) (pm_0) (upper_0) (pt_0) (ph_0) (alive_0) (upperNode_0) (order_0) (x5) (x6) (x7) (x8) (x12)) (kz_0_31 : 0 ≤ pn_0 ∧ pn_0 ≤ 25) (kz_0_32 : 0 ≤ pm_0 ∧ pm_0 ≤ 80) (kz_0_121 : 0 ≤ upper_0 ∧ upper_0 ≤ 30) : 2 ≤ x12 ∧ x12 ≤ 29 := by
  first
    | (have h := sd1_len ‹SD1 _ _ _ _ _ _ _ _ _ _ _ _ _›; omega)
def o_Mo_shift_28 : or_T := (424, 17, [(0, (2, 0, 0, [165])), (1, (2, 0, 0, [165])), (5, (0, 3, 24, [])), (6, (0, 0, 24, [])), (7, (0, 0, 29, [])), (8, (0, 1, 29, [])), (11, (0, 0, 0, [])), (12, (0, 2, 30, [])), (13, (2, 0, 0, [253])), (14, (0, 1, 1, [])), (15, (0, 1, 29, [])), (16, (0, 0, 24, []))], [(10, [16, 13, 15], []), (2, [15, 12, 14], []), (9, [13, 1], [122]), (7, [12, 8], [4]), (20, [1], [60, 2, 2, 75, 31, 32, 33, 34]), (20, [1, 5, 6, 7, 8, 12], [60, 3, 5, 295, 31, 32, 121, 33, 34, 35, 122, 96]), (20, [11, 8, 7], [50, 0, 0, 1, 2, 1, 0, 5, 6, 5, 2, 1, 1, 1, 2, 0, 1]), (20, [1, 5], [60, 0, 3, 826, 74, 75, 96]), (20, [1, 5], [60, 1, 2, 828, 31, 123, 96]), (20, [1], [60, 1, 1, 835, 31, 96]), (20, [1, 5, 12], [60, 1, 2, 831, 121, 122, 96]), (20, [1], [60, 1, 1, 823, 31, 96]), (24, [0, 1], [])], [(12, (0, 2, 29, []))], [], [], [], [(15, 12, -1, -1), (15, 8, 0, 4294967296), (12, 8, 1, 4294967296)])
theorem oo_Mo_shift_28 {kA : Nat → ClassId} : or_ok PRD kA GG o_Mo_shift_28 := by
  refine or_mk fun A ta ws vs hD hth hl => ?_
  intro t0 r0 t1 r1 t5 k5 t6 k6 t7 k7 t8 k8 t11 k11 t12 k12 t13 r13 t14 k14 t15 k15 t16 k16 d0 d1 d2 f0 f1 f2 f3 f4 f5 f6 f7 f8 f9 f10 f11 f12
  replace f5 := shm_1271 f5
  replace f12 := shm_5 f12
  have q1 : n_v vs 1 = n_v vs 0 := f12.symm
  simp only [q1] at f5
  have kz_0_31 := fdq_145 hD hth r0
  have kz_0_32 := fdq_140 hD hth r0
  have kz_0_121 := fdq_242 hD hth r0
  have hrf0 : 2 ≤ v_iv (n_v vs 12) ∧ v_iv (n_v vs 12) ≤ 29 := vc_Mo_shift_28_r0 (v_iv (n_v vs 5)) (v_iv (n_v vs 6)) (v_iv (n_v vs 7)) (v_iv (n_v vs 8)) (v_iv (n_v vs 12)) (v_iv (n_v vs 15)) (w_ei ws (w_ar ws (n_v vs 0) 122)) (w_ei ws (w_ar ws (n_v vs 0) 33)) (w_ei ws (w_ar ws (n_v vs 0) 34)) (w_fi ws (n_v vs 0) 31) (w_fi ws (n_v vs 0) 32) (w_ei ws (w_ar ws (n_v vs 0) 35)) (w_ei ws (w_ar ws (n_v vs 0) 96)) (w_fi ws (n_v vs 0) 121) k5 k6 k7 k8 k12 k15 d0 f5 kz_0_31 kz_0_32 kz_0_121
  have rf12 : tv_ok ta (0, 2, 29, []) (n_v vs 12) := tv_in t12 (by first | omega | grind) (by first | omega | grind)
  refine ⟨List.forall_mem_cons.mpr ⟨rf12, (fun _ h => (by cases h))⟩, [], trivial, ?_, (fun _ h => (by cases h))⟩
  rw [List.append_nil]
  exact (fun _ h => (by cases h))
set_option maxHeartbeats 4000000 in
theorem vc_Mo_shift_29_0 (x5 : Int) (x6 : Int) (x7 : Int) (x8 : Int) (x12 : Int) (x15 : Int) (x16 : Int) (x17 : Int) (pt_0 : Int → Int) (ph_0 : Int → Int) (pn_0 : Int) (pm_0 : Int) (nx_0 : Int → Int) (ny_0 : Int → Int) (order_0 : Int → Int) (under_0 : Int → Int) (upperNode_1 : Int → Int) (pt_1 : Int → Int) (ph_1 : Int → Int) (pn_1 : Int) (pm_1 : Int) (alive_1 : Int → Int) (order_1 : Int → Int) (upper_1 : Int) (nx_1 : Int → Int) (ny_1 : Int → Int) (under_1 : Int → Int) (upper_0 : Int) (alive_0 : Int → Int) (upperNode_0 : Int → Int) (k5 : 3 ≤ x5 ∧ x5 ≤ 24) (k6 : 0 ≤ x6 ∧ x6 ≤ 24) (k7 : 0 ≤ x7 ∧ x7 ≤ 29) (k8 : 1 ≤ x8 ∧ x8 ≤ 29) (k12 : 2 ≤ x12 ∧ x12 ≤ 29) (k15 : 1 ≤ x15 ∧ x15 ≤ 29) (k16 : 0 ≤ x16 ∧ x16 ≤ 24) (k17 : 1 ≤ x17 ∧ x17 ≤ 28) (d0 : x12 + (-1) ≤ x17 ∧ x17 ≤ x12 + (-1)) (d2 : x12 + (-1) ≤ x15 ∧ x15 ≤ x12 + (-1)) (h9 : x16 = upperNode_1 (x15)) (f12 : x8 < x12) (f14 : SD1 (pn_1) (pm_1) (upper_1) (pt_1) (ph_1) (alive_1) (upperNode_1) (order_1) (x5) (x6) (x7) (x8) (x12)) (fe_0_31_1 : pn_0 = pn_1) (fe_0_32_1 : pm_0 = pm_1) (fe_0_121_1 : upper_0 = upper_1) (hE_0_33_1 : ∀ j : Int, pt_0 j = pt_1 j) (hE_0_34_1 : ∀ j : Int, ph_0 j = ph_1 j) (hE_0_35_1 : ∀ j : Int, alive_0 j = alive_1 j) (hE_0_74_1 : ∀ j : Int, nx_0 j = nx_1 j) (hE_0_75_1 : ∀ j : Int, ny_0 j = ny_1 j) (hE_0_96_1 : ∀ j : Int, order_0 j = order_1 j) (hE_0_122_1 : ∀ j : Int, 0 ≤ j → (j = x12 → upperNode_0 j = x16) ∧ (j ≠ x12 → upperNode_0 j = upperNode_1 j)) (hE_0_123_1 : ∀ j : Int, under_0 j = under_1 j) (kz_0_31 : 0 ≤ pn_0 ∧ pn_0 ≤ 25) (kz_0_32 : 0 ≤ pm_0 ∧ pm_0 ≤ 80) (kz_0_121 : 0 ≤ upper_0 ∧ upper_0 ≤ 30) : SD1 (pn_0) (pm_0) (upper_0) (pt_0) (ph_0) (alive_0) (upperNode_0) (order_0) (x5) (x6) (x7) (x8) (x17) := by
  subst fe_0_31_1
  subst fe_0_32_1
  subst fe_0_121_1
  have e_hE_0_33_1 := funext hE_0_33_1; subst e_hE_0_33_1
  have e_hE_0_34_1 := funext hE_0_34_1; subst e_hE_0_34_1
  have e_hE_0_35_1 := funext hE_0_35_1; subst e_hE_0_35_1
  have e_hE_0_74_1 := funext hE_0_74_1; subst e_hE_0_74_1
  have e_hE_0_75_1 := funext hE_0_75_1; subst e_hE_0_75_1
  have e_hE_0_96_1 := funext hE_0_96_1; subst e_hE_0_96_1
  have e_hE_0_123_1 := funext hE_0_123_1; subst e_hE_0_123_1
  first
    | exact sd1_step ‹SD1 _ _ _ _ _ _ _ _ _ _ _ _ _› (by omega) (by omega) (by assumption) (by omega) (by assumption) (by omega)
set_option maxHeartbeats 4000000 in
theorem vc_Mo_shift_29_1 (x5 : Int) (x6 : Int) (x7 : Int) (x8 : Int) (x12 : Int) (x15 : Int) (x16 : Int) (x17 : Int) (pt_0 : Int → Int) (ph_0 : Int → Int) (pn_0 : Int) (pm_0 : Int) (nx_0 : Int → Int) (ny_0 : Int → Int) (order_0 : Int → Int) (under_0 : Int → Int) (upperNode_1 : Int → Int) (pt_1 : Int → Int) (ph_1 : Int → Int) (pn_1 : Int) (pm_1 : Int) (alive_1 : Int → Int) (order_1 : Int → Int) (upper_1 : Int) (nx_1 : Int → Int) (ny_1 : Int → Int) (under_1 : Int → Int) (upper_0 : Int) (alive_0 : Int → Int) (upperNode_0 : Int → Int) (k5 : 3 ≤ x5 ∧ x5 ≤ 24) (k6 : 0 ≤ x6 ∧ x6 ≤ 24) (k7 : 0 ≤ x7 ∧ x7 ≤ 29) (k8 : 1 ≤ x8 ∧ x8 ≤ 29) (k12 : 2 ≤ x12 ∧ x12 ≤ 29) (k15 : 1 ≤ x15 ∧ x15 ≤ 29) (k16 : 0 ≤ x16 ∧ x16 ≤ 24) (k17 : 1 ≤ x17 ∧ x17 ≤ 28) (d0 : x12 + (-1) ≤ x17 ∧ x17 ≤ x12 + (-1)) (d2 : x12 + (-1) ≤ x15 ∧ x15 ≤ x12 + (-1)) (h9 : x16 = upperNode_1 (x15)) (f14 : SD1 (pn_1) (pm_1) (upper_1) (pt_1) (ph_1) (alive_1) (upperNode_1) (order_1) (x5) (x6) (x7) (x8) (x12)) (f19 : ULV (upper_1) (upperNode_1) (order_1) (x5) (x12)) (fe_0_31_1 : pn_0 = pn_1) (fe_0_32_1 : pm_0 = pm_1) (fe_0_121_1 : upper_0 = upper_1) (hE_0_33_1 : ∀ j : Int, pt_0 j = pt_1 j) (hE_0_34_1 : ∀ j : Int, ph_0 j = ph_1 j) (hE_0_35_1 : ∀ j : Int, alive_0 j = alive_1 j) (hE_0_74_1 : ∀ j : Int, nx_0 j = nx_1 j) (hE_0_75_1 : ∀ j : Int, ny_0 j = ny_1 j) (hE_0_96_1 : ∀ j : Int, order_0 j = order_1 j) (hE_0_122_1 : ∀ j : Int, 0 ≤ j → (j = x12 → upperNode_0 j = x16) ∧ (j ≠ x12 → upperNode_0 j = upperNode_1 j)) (hE_0_123_1 : ∀ j : Int, under_0 j = under_1 j) (kz_0_31 : 0 ≤ pn_0 ∧ pn_0 ≤ 25) (kz_0_32 : 0 ≤ pm_0 ∧ pm_0 ≤ 80) (kz_0_121 : 0 ≤ upper_0 ∧ upper_0 ≤ 30) : ULV (upper_0) (upperNode_0) (order_0) (x5) (x17) := by
  subst fe_0_31_1
  subst fe_0_32_1
  subst fe_0_121_1
  have e_hE_0_33_1 := funext hE_0_33_1; subst e_hE_0_33_1
  have e_hE_0_34_1 := funext hE_0_34_1; subst e_hE_0_34_1
  have e_hE_0_35_1 := funext hE_0_35_1; subst e_hE_0_35_1
  have e_hE_0_74_1 := funext hE_0_74_1; subst e_hE_0_74_1
  have e_hE_0_75_1 := funext hE_0_75_1; subst e_hE_0_75_1
  have e_hE_0_96_1 := funext hE_0_96_1; subst e_hE_0_96_1
  have e_hE_0_123_1 := funext hE_0_123_1; subst e_hE_0_123_1
  first
    | (have hl := sd1_len ‹SD1 _ _ _ _ _ _ _ _ _ _ _ _ _›
       exact ulv_step (r := x15) ‹ULV _ _ _ _ _› (by omega) (by omega) (by omega) (by assumption) (by omega) (by omega) (by assumption))
def o_Mo_shift_29 : or_T := (402, 18, [(0, (2, 0, 0, [165])), (5, (0, 3, 24, [])), (6, (0, 0, 24, [])), (7, (0, 0, 29, [])), (8, (0, 1, 29, [])), (12, (0, 2, 29, [])), (13, (2, 0, 0, [253])), (15, (0, 1, 29, [])), (16, (0, 0, 24, [])), (17, (0, 1, 28, []))], [(24, [0, 1], []), (100, [13, 12, 16], []), (10, [16, 13, 15], []), (9, [13, 1], [122]), (7, [12, 8], [4]), (20, [1, 5, 6, 7, 8, 12], [60, 3, 5, 295, 31, 32, 121, 33, 34, 35, 122, 96]), (20, [1, 5, 12], [60, 1, 2, 831, 121, 122, 96])], [], [], [(20, [1, 5, 6, 7, 8, 17], [60, 3, 5, 295, 31, 32, 121, 33, 34, 35, 122, 96]), (20, [1, 5, 17], [60, 1, 2, 831, 121, 122, 96])], [], [(17, 12, -1, -1), (15, 12, -1, -1), (12, 8, 1, 4294967296)])
theorem oo_Mo_shift_29 {kA : Nat → ClassId} : or_ok PRD kA GG o_Mo_shift_29 := by
  refine or_mk fun A ta ws vs hD hth hl => ?_
  intro t0 r0 t5 k5 t6 k6 t7 k7 t8 k8 t12 k12 t13 r13 t15 k15 t16 k16 t17 k17 d0 d2 d4 f7 ta1 w1 le1 s1 f9 f11 f12 f14 f19
  replace f7 := shm_5 f7
  have s1 : (∀ b j, w_el ws b j = if b = v_ad (n_v vs 13) ∧ j = (v_iv (n_v vs 12)).toNat then v_iv (n_v vs 16) else w_el w1 b j) ∧ ∀ b k, w_fd ws b k = w_fd w1 b k := s1.2
  replace f9 := shm_107 f9
  replace f11 := shm_1019 f11
  replace f12 := shm_21 f12
  replace f14 := shm_1271 f14
  replace f19 := shm_1272 f19
  have q1 : n_v vs 1 = n_v vs 0 := f7.symm
  simp only [q1] at f11 f14 f19
  have ar_0_33_1 : w_ar w1 (n_v vs 0) 33 = w_ar ws (n_v vs 0) 33 := congrArg v_ad (s1.2 _ _).symm
  have cr_0_33 := fdq_117 hD hth r0
  have ar_0_34_1 : w_ar w1 (n_v vs 0) 34 = w_ar ws (n_v vs 0) 34 := congrArg v_ad (s1.2 _ _).symm
  have cr_0_34 := fdq_118 hD hth r0
  have ar_0_35_1 : w_ar w1 (n_v vs 0) 35 = w_ar ws (n_v vs 0) 35 := congrArg v_ad (s1.2 _ _).symm
  have cr_0_35 := fdq_132 hD hth r0
  have ar_0_74_1 : w_ar w1 (n_v vs 0) 74 = w_ar ws (n_v vs 0) 74 := congrArg v_ad (s1.2 _ _).symm
  have cr_0_74 := fdq_164 hD hth r0
  have ar_0_75_1 : w_ar w1 (n_v vs 0) 75 = w_ar ws (n_v vs 0) 75 := congrArg v_ad (s1.2 _ _).symm
  have cr_0_75 := fdq_165 hD hth r0
  have ar_0_96_1 : w_ar w1 (n_v vs 0) 96 = w_ar ws (n_v vs 0) 96 := congrArg v_ad (s1.2 _ _).symm
  have cr_0_96 := fdq_166 hD hth r0
  have ar_0_122_1 : w_ar w1 (n_v vs 0) 122 = w_ar ws (n_v vs 0) 122 := congrArg v_ad (s1.2 _ _).symm
  have ar_0_123_1 : w_ar w1 (n_v vs 0) 123 = w_ar ws (n_v vs 0) 123 := congrArg v_ad (s1.2 _ _).symm
  have cr_0_123 := fdq_281 hD hth r0
  have ad_13 : v_ad (n_v vs 13) = w_ar ws (n_v vs 0) 122 := (congrArg v_ad f11).trans ar_0_122_1
  simp only [ad_13] at f9
  have h9 : v_iv (n_v vs 16) = w_ei w1 (w_ar ws (n_v vs 0) 122) (v_iv (n_v vs 15)) := f9
  simp only [ar_0_33_1, ar_0_34_1, ar_0_35_1, ar_0_96_1, ar_0_122_1, ar_0_74_1, ar_0_75_1, ar_0_123_1] at f14 f19
  have fe_0_31_1 : w_fi ws (n_v vs 0) 31 = w_fi w1 (n_v vs 0) 31 := congrArg v_iv (s1.2 _ _)
  have fe_0_32_1 : w_fi ws (n_v vs 0) 32 = w_fi w1 (n_v vs 0) 32 := congrArg v_iv (s1.2 _ _)
  have fe_0_121_1 : w_fi ws (n_v vs 0) 121 = w_fi w1 (n_v vs 0) 121 := congrArg v_iv (s1.2 _ _)
  have hE_0_33_1 : ∀ j : Int, w_ei ws (w_ar ws (n_v vs 0) 33) j = w_ei w1 (w_ar ws (n_v vs 0) 33) j := el_kp s1.1 r13 cr_0_33 (by decide)
  have hE_0_34_1 : ∀ j : Int, w_ei ws (w_ar ws (n_v vs 0) 34) j = w_ei w1 (w_ar ws (n_v vs 0) 34) j := el_kp s1.1 r13 cr_0_34 (by decide)
  have hE_0_35_1 : ∀ j : Int, w_ei ws (w_ar ws (n_v vs 0) 35) j = w_ei w1 (w_ar ws (n_v vs 0) 35) j := el_kp s1.1 r13 cr_0_35 (by decide)
  have hE_0_74_1 : ∀ j : Int, w_ei ws (w_ar ws (n_v vs 0) 74) j = w_ei w1 (w_ar ws (n_v vs 0) 74) j := el_kp s1.1 r13 cr_0_74 (by decide)
  have hE_0_75_1 : ∀ j : Int, w_ei ws (w_ar ws (n_v vs 0) 75) j = w_ei w1 (w_ar ws (n_v vs 0) 75) j := el_kp s1.1 r13 cr_0_75 (by decide)
  have hE_0_96_1 : ∀ j : Int, w_ei ws (w_ar ws (n_v vs 0) 96) j = w_ei w1 (w_ar ws (n_v vs 0) 96) j := el_kp s1.1 r13 cr_0_96 (by decide)
  have hE_0_122_1 : ∀ j : Int, 0 ≤ j → (j = v_iv (n_v vs 12) → w_ei ws (w_ar ws (n_v vs 0) 122) j = v_iv (n_v vs 16)) ∧ (j ≠ v_iv (n_v vs 12) → w_ei ws (w_ar ws (n_v vs 0) 122) j = w_ei w1 (w_ar ws (n_v vs 0) 122) j) := fun j hj => ⟨fun h => by unfold w_ei; rw [s1.1, if_pos ⟨ad_13.symm, by rw [h]⟩], fun h => by unfold w_ei; rw [s1.1, if_neg (fun e => h (by have := e.2; omega))]⟩
  have hE_0_123_1 : ∀ j : Int, w_ei ws (w_ar ws (n_v vs 0) 123) j = w_ei w1 (w_ar ws (n_v vs 0) 123) j := el_kp s1.1 r13 cr_0_123 (by decide)
  have kz_0_31 := fdq_145 hD hth r0
  have kz_0_32 := fdq_140 hD hth r0
  have kz_0_121 := fdq_242 hD hth r0
  have nf0 : fc_1 PRD (20, [1, 5, 6, 7, 8, 17], [60, 3, 5, 295, 31, 32, 121, 33, 34, 35, 122, 96]) ws (vs) := by
    refine ⟨nf_in hl rfl, sgq_1271 ?_⟩
    · show SD1 (w_fi ws (n_v vs 1) 31) (w_fi ws (n_v vs 1) 32) (w_fi ws (n_v vs 1) 121) (w_ei ws (w_ar ws (n_v vs 1) 33)) (w_ei ws (w_ar ws (n_v vs 1) 34)) (w_ei ws (w_ar ws (n_v vs 1) 35)) (w_ei ws (w_ar ws (n_v vs 1) 122)) (w_ei ws (w_ar ws (n_v vs 1) 96)) (v_iv (n_v vs 5)) (v_iv (n_v vs 6)) (v_iv (n_v vs 7)) (v_iv (n_v vs 8)) (v_iv (n_v vs 17))
      rw [q1]
      exact vc_Mo_shift_29_0 (v_iv (n_v vs 5)) (v_iv (n_v vs 6)) (v_iv (n_v vs 7)) (v_iv (n_v vs 8)) (v_iv (n_v vs 12)) (v_iv (n_v vs 15)) (v_iv (n_v vs 16)) (v_iv (n_v vs 17)) (w_ei ws (w_ar ws (n_v vs 0) 33)) (w_ei ws (w_ar ws (n_v vs 0) 34)) (w_fi ws (n_v vs 0) 31) (w_fi ws (n_v vs 0) 32) (w_ei ws (w_ar ws (n_v vs 0) 74)) (w_ei ws (w_ar ws (n_v vs 0) 75)) (w_ei ws (w_ar ws (n_v vs 0) 96)) (w_ei ws (w_ar ws (n_v vs 0) 123)) (w_ei w1 (w_ar ws (n_v vs 0) 122)) (w_ei w1 (w_ar ws (n_v vs 0) 33)) (w_ei w1 (w_ar ws (n_v vs 0) 34)) (w_fi w1 (n_v vs 0) 31) (w_fi w1 (n_v vs 0) 32) (w_ei w1 (w_ar ws (n_v vs 0) 35)) (w_ei w1 (w_ar ws (n_v vs 0) 96)) (w_fi w1 (n_v vs 0) 121) (w_ei w1 (w_ar ws (n_v vs 0) 74)) (w_ei w1 (w_ar ws (n_v vs 0) 75)) (w_ei w1 (w_ar ws (n_v vs 0) 123)) (w_fi ws (n_v vs 0) 121) (w_ei ws (w_ar ws (n_v vs 0) 35)) (w_ei ws (w_ar ws (n_v vs 0) 122)) k5 k6 k7 k8 k12 k15 k16 k17 d0 d2 h9 f12 f14 fe_0_31_1 fe_0_32_1 fe_0_121_1 hE_0_33_1 hE_0_34_1 hE_0_35_1 hE_0_74_1 hE_0_75_1 hE_0_96_1 hE_0_122_1 hE_0_123_1 kz_0_31 kz_0_32 kz_0_121
  have nf1 : fc_1 PRD (20, [1, 5, 17], [60, 1, 2, 831, 121, 122, 96]) ws (vs) := by
    refine ⟨nf_in hl rfl, sgq_1272 ?_⟩
    · show ULV (w_fi ws (n_v vs 1) 121) (w_ei ws (w_ar ws (n_v vs 1) 122)) (w_ei ws (w_ar ws (n_v vs 1) 96)) (v_iv (n_v vs 5)) (v_iv (n_v vs 17))
      rw [q1]
      exact vc_Mo_shift_29_1 (v_iv (n_v vs 5)) (v_iv (n_v vs 6)) (v_iv (n_v vs 7)) (v_iv (n_v vs 8)) (v_iv (n_v vs 12)) (v_iv (n_v vs 15)) (v_iv (n_v vs 16)) (v_iv (n_v vs 17)) (w_ei ws (w_ar ws (n_v vs 0) 33)) (w_ei ws (w_ar ws (n_v vs 0) 34)) (w_fi ws (n_v vs 0) 31) (w_fi ws (n_v vs 0) 32) (w_ei ws (w_ar ws (n_v vs 0) 74)) (w_ei ws (w_ar ws (n_v vs 0) 75)) (w_ei ws (w_ar ws (n_v vs 0) 96)) (w_ei ws (w_ar ws (n_v vs 0) 123)) (w_ei w1 (w_ar ws (n_v vs 0) 122)) (w_ei w1 (w_ar ws (n_v vs 0) 33)) (w_ei w1 (w_ar ws (n_v vs 0) 34)) (w_fi w1 (n_v vs 0) 31) (w_fi w1 (n_v vs 0) 32) (w_ei w1 (w_ar ws (n_v vs 0) 35)) (w_ei w1 (w_ar ws (n_v vs 0) 96)) (w_fi w1 (n_v vs 0) 121) (w_ei w1 (w_ar ws (n_v vs 0) 74)) (w_ei w1 (w_ar ws (n_v vs 0) 75)) (w_ei w1 (w_ar ws (n_v vs 0) 123)) (w_fi ws (n_v vs 0) 121) (w_ei ws (w_ar ws (n_v vs 0) 35)) (w_ei ws (w_ar ws (n_v vs 0) 122)) k5 k6 k7 k8 k12 k15 k16 k17 d0 d2 h9 f14 f19 fe_0_31_1 fe_0_32_1 fe_0_121_1 hE_0_33_1 hE_0_34_1 hE_0_35_1 hE_0_74_1 hE_0_75_1 hE_0_96_1 hE_0_122_1 hE_0_123_1 kz_0_31 kz_0_32 kz_0_121
  refine ⟨(fun _ h => (by cases h)), [], trivial, ?_, (fun _ h => (by cases h))⟩
  rw [List.append_nil]
  exact List.forall_mem_cons.mpr ⟨⟨show (20 : Nat) < 100 from by decide, nf0⟩, List.forall_mem_cons.mpr ⟨⟨show (20 : Nat) < 100 from by decide, nf1⟩, (fun _ h => (by cases h))⟩⟩
set_option maxHeartbeats 4000000 in
theorem vc_Mo_shift_30_r0 (x5 : Int) (x6 : Int) (x7 : Int) (x8 : Int) (x11 : Int) (x12 : Int) (x13 : Int) (x14 : Int) (x15 : Int) (x16 : Int) (upper_0 : Int) (pt_0 : Int → Int) (ph_0 : Int → Int) (pn_0 : Int) (pm_0 : Int) (alive_0 : Int → Int) (upperNode_0 : Int → Int) (order_0 : Int → Int) (k5 : 3 ≤ x5 ∧ x5 ≤ 24) (k6 : 0 ≤ x6 ∧ x6 ≤ 24) (k7 : 0 ≤ x7 ∧ x7 ≤ 29) (k8 : 0 ≤ x8 ∧ x8 ≤ 29) (k11 : (-30) ≤ x11 ∧ x11 ≤ 28) (k12 : 0 ≤ x12 ∧ x12 ≤ 30) (k13 : 0 ≤ x13 ∧ x13 ≤ 30) (k14 : 1 ≤ x14 ∧ x14 ≤ 1) (k15 : (-27) ≤ x15 ∧ x15 ≤ 31) (k16 : (-27) ≤ x16 ∧ x16 ≤ 61) (d1 : x13 + (-27) ≤ x16 ∧ x16 ≤ x13 + 31) (d2 : x13 + 0 ≤ x12 ∧ x12 ≤ x13 + 4294967296) (d3 : x12 + (-4294967296) ≤ x8 ∧ x8 ≤ x12 + 0) (d5 : x12 + (-4294967296) ≤ x11 ∧ x11 ≤ x12 + (-1)) (f0 : x16 = x13 + x15) (f1 : x15 = x14 - x11) (g2 : x13 = upper_0) (f5 : SD2 (pn_0) (pm_0) (upper_0) (pt_0) (ph_0) (alive_0) (upperNode_0) (order_0) (x5) (x6) (x7) (x8) (x12)) (f6 : x11 = ((x8 - x7) - 1)) (kz_0_31 : 0 ≤ pn_0 ∧ pn_0 ≤ 25) (kz_0_32 : 0 ≤ pm_0 ∧ pm_0 ≤ 80) (kz_0_121 : 0 ≤ upper_0 ∧ upper_0 ≤ 30) : 0 ≤ x16 ∧ x16 ≤ 30 := by
  first
    | (have h := sd2_len ‹SD2 _ _ _ _ _ _ _ _ _ _ _ _ _›; omega)
def o_Mo_shift_30 : or_T := (482, 17, [(0, (2, 0, 0, [165])), (1, (2, 0, 0, [165])), (5, (0, 3, 24, [])), (6, (0, 0, 24, [])), (7, (0, 0, 29, [])), (8, (0, 0, 29, [])), (11, (0, -30, 28, [])), (12, (0, 0, 30, [])), (13, (0, 0, 30, [])), (14, (0, 1, 1, [])), (15, (0, -27, 31, [])), (16, (0, -27, 61, []))], [(1, [16, 13, 15], []), (2, [15, 14, 11], []), (9, [13, 1], [121]), (7, [12, 13], [3]), (20, [1], [60, 2, 2, 75, 31, 32, 33, 34]), (20, [1, 5, 6, 7, 8, 12], [60, 3, 5, 296, 31, 32, 121, 33, 34, 35, 122, 96]), (20, [11, 8, 7], [50, 0, 0, 1, 2, 1, 0, 5, 6, 5, 2, 1, 1, 1, 2, 0, 1]), (20, [1, 5], [60, 0, 3, 826, 74, 75, 96]), (20, [1, 5], [60, 1, 2, 828, 31, 123, 96]), (20, [1], [60, 1, 1, 835, 31, 96]), (20, [1, 5], [60, 1, 2, 830, 121, 122, 96]), (20, [1], [60, 1, 1, 823, 31, 96]), (24, [0, 1], [])], [(16, (0, 0, 30, []))], [], [], [], [(16, 15, 0, 30), (16, 13, -27, 31), (12, 13, 0, 4294967296), (8, 12, -4294967296, 0), (11, 8, -4294967296, -1), (11, 12, -4294967296, -1)])
theorem oo_Mo_shift_30 {kA : Nat → ClassId} : or_ok PRD kA GG o_Mo_shift_30 := by
  refine or_mk fun A ta ws vs hD hth hl => ?_
  intro t0 r0 t1 r1 t5 k5 t6 k6 t7 k7 t8 k8 t11 k11 t12 k12 t13 k13 t14 k14 t15 k15 t16 k16 d0 d1 d2 d3 d4 d5 f0 f1 f2 f3 f4 f5 f6 f7 f8 f9 f10 f11 f12
  replace f2 := shm_1024 f2
  replace f5 := shm_1273 f5
  replace f12 := shm_5 f12
  have q1 : n_v vs 1 = n_v vs 0 := f12.symm
  simp only [q1] at f2 f5
  have g2 : v_iv (n_v vs 13) = w_fi ws (n_v vs 0) 121 := congrArg v_iv f2
  have kz_0_31 := fdq_145 hD hth r0
  have kz_0_32 := fdq_140 hD hth r0
  have kz_0_121 := fdq_242 hD hth r0
  have hrf0 : 0 ≤ v_iv (n_v vs 16) ∧ v_iv (n_v vs 16) ≤ 30 := vc_Mo_shift_30_r0 (v_iv (n_v vs 5)) (v_iv (n_v vs 6)) (v_iv (n_v vs 7)) (v_iv (n_v vs 8)) (v_iv (n_v vs 11)) (v_iv (n_v vs 12)) (v_iv (n_v vs 13)) (v_iv (n_v vs 14)) (v_iv (n_v vs 15)) (v_iv (n_v vs 16)) (w_fi ws (n_v vs 0) 121) (w_ei ws (w_ar ws (n_v vs 0) 33)) (w_ei ws (w_ar ws (n_v vs 0) 34)) (w_fi ws (n_v vs 0) 31) (w_fi ws (n_v vs 0) 32) (w_ei ws (w_ar ws (n_v vs 0) 35)) (w_ei ws (w_ar ws (n_v vs 0) 122)) (w_ei ws (w_ar ws (n_v vs 0) 96)) k5 k6 k7 k8 k11 k12 k13 k14 k15 k16 d1 d2 d3 d5 (shm_12 f0) (shm_14 f1) g2 f5 (shm_1270 f6) kz_0_31 kz_0_32 kz_0_121
  have rf16 : tv_ok ta (0, 0, 30, []) (n_v vs 16) := tv_in t16 (by first | omega | grind) (by first | omega | grind)
  refine ⟨List.forall_mem_cons.mpr ⟨rf16, (fun _ h => (by cases h))⟩, [], trivial, ?_, (fun _ h => (by cases h))⟩
  rw [List.append_nil]
  exact (fun _ h => (by cases h))
set_option maxHeartbeats 4000000 in
theorem vc_Mo_shift_31_r0 (x5 : Int) (x6 : Int) (x7 : Int) (x8 : Int) (x11 : Int) (x12 : Int) (x13 : Int) (x14 : Int) (x15 : Int) (x16 : Int) (x19 : Int) (pt_0 : Int → Int) (ph_0 : Int → Int) (pn_0 : Int) (pm_0 : Int) (nx_0 : Int → Int) (ny_0 : Int → Int) (order_0 : Int → Int) (under_0 : Int → Int) (upper_1 : Int) (pt_1 : Int → Int) (ph_1 : Int → Int) (pn_1 : Int) (pm_1 : Int) (alive_1 : Int → Int) (upperNode_1 : Int → Int) (order_1 : Int → Int) (nx_1 : Int → Int) (ny_1 : Int → Int) (under_1 : Int → Int) (upper_0 : Int) (alive_0 : Int → Int) (upperNode_0 : Int → Int) (k5 : 3 ≤ x5 ∧ x5 ≤ 24) (k6 : 0 ≤ x6 ∧ x6 ≤ 24) (k7 : 0 ≤ x7 ∧ x7 ≤ 29) (k8 : 0 ≤ x8 ∧ x8 ≤ 29) (k11 : (-30) ≤ x11 ∧ x11 ≤ 28) (k12 : 0 ≤ x12 ∧ x12 ≤ 30) (k13 : 0 ≤ x13 ∧ x13 ≤ 30) (k14 : 1 ≤ x14 ∧ x14 ≤ 1) (k15 : (-27) ≤ x15 ∧ x15 ≤ 31) (k16 : 0 ≤ x16 ∧ x16 ≤ 30) (k19 : 1 ≤ x19 ∧ x19 ≤ 30) (d0 : x7 + 1 ≤ x19 ∧ x19 ≤ x7 + 1) (d3 : x13 + 0 ≤ x12 ∧ x12 ≤ x13 + 4294967296) (d4 : x12 + (-4294967296) ≤ x8 ∧ x8 ≤ x12 + 0) (d6 : x12 + (-4294967296) ≤ x11 ∧ x11 ≤ x12 + (-1)) (f3 : x11 = ((x8 - x7) - 1)) (f10 : x16 = x13 + x15) (f11 : x15 = x14 - x11) (g12 : x13 = upper_1) (f15 : SD2 (pn_1) (pm_1) (upper_1) (pt_1) (ph_1) (alive_1) (upperNode_1) (order_1) (x5) (x6) (x7) (x8) (x12)) (fe_0_31_1 : pn_0 = pn_1) (fe_0_32_1 : pm_0 = pm_1) (fe_0_121_1 : upper_0 = x16) (hE_0_33_1 : ∀ j : Int, pt_0 j = pt_1 j) (hE_0_34_1 : ∀ j : Int, ph_0 j = ph_1 j) (hE_0_35_1 : ∀ j : Int, alive_0 j = alive_1 j) (hE_0_74_1 : ∀ j : Int, nx_0 j = nx_1 j) (hE_0_75_1 : ∀ j : Int, ny_0 j = ny_1 j) (hE_0_96_1 : ∀ j : Int, order_0 j = order_1 j) (hE_0_122_1 : ∀ j : Int, upperNode_0 j = upperNode_1 j) (hE_0_123_1 : ∀ j : Int, under_0 j = under_1 j) (kz_0_31 : 0 ≤ pn_0 ∧ pn_0 ≤ 25) (kz_0_32 : 0 ≤ pm_0 ∧ pm_0 ≤ 80) (kz_0_121 : 0 ≤ upper_0 ∧ upper_0 ≤ 30) : 1 ≤ x19 ∧ x19 ≤ 29 := by
  subst fe_0_31_1
  subst fe_0_32_1
  have e_hE_0_33_1 := funext hE_0_33_1; subst e_hE_0_33_1
  have e_hE_0_34_1 := funext hE_0_34_1; subst e_hE_0_34_1
  have e_hE_0_35_1 := funext hE_0_35_1; subst e_hE_0_35_1
  have e_hE_0_74_1 := funext hE_0_74_1; subst e_hE_0_74_1
  have e_hE_0_75_1 := funext hE_0_75_1; subst e_hE_0_75_1
  have e_hE_0_96_1 := funext hE_0_96_1; subst e_hE_0_96_1
  have e_hE_0_122_1 := funext hE_0_122_1; subst e_hE_0_122_1
  have e_hE_0_123_1 := funext hE_0_123_1; subst e_hE_0_123_1
  first
    | (have h := sd2_len ‹SD2 _ _ _ _ _ _ _ _ _ _ _ _ _›; omega)
def o_Mo_shift_31 : or_T := (495, 20, [(0, (2, 0, 0, [165])), (1, (2, 0, 0, [165])), (5, (0, 3, 24, [])), (6, (0, 0, 24, [])), (7, (0, 0, 29, [])), (8, (0, 0, 29, [])), (11, (0, -30, 28, [])), (12, (0, 0, 30, [])), (13, (0, 0, 30, [])), (14, (0, 1, 1, [])), (15, (0, -27, 31, [])), (16, (0, 0, 30, [])), (17, (2, 0, 0, [253])), (18, (0, 1, 1, [])), (19, (0, 1, 30, []))], [(1, [19, 7, 18], []), (9, [17, 1], [122]), (20, [1], [60, 2, 2, 75, 31, 32, 33, 34]), (20, [11, 8, 7], [50, 0, 0, 1, 2, 1, 0, 5, 6, 5, 2, 1, 1, 1, 2, 0, 1]), (20, [1, 5], [60, 0, 3, 826, 74, 75, 96]), (20, [1, 5], [60, 1, 2, 828, 31, 123, 96]), (20, [1], [60, 1, 1, 835, 31, 96]), (20, [1], [60, 1, 1, 823, 31, 96]), (24, [0, 1], []), (101, [1, 16], [121]), (1, [16, 13, 15], []), (2, [15, 14, 11], []), (9, [13, 1], [121]), (7, [12, 13], [3]), (20, [1], [60, 2, 2, 75, 31, 32, 33, 34]), (20, [1, 5, 6, 7, 8, 12], [60, 3, 5, 296, 31, 32, 121, 33, 34, 35, 122, 96]), (20, [11, 8, 7], [50, 0, 0, 1, 2, 1, 0, 5, 6, 5, 2, 1, 1, 1, 2, 0, 1]), (20, [1, 5], [60, 0, 3, 826, 74, 75, 96]), (20, [1, 5], [60, 1, 2, 828, 31, 123, 96]), (20, [1], [60, 1, 1, 835, 31, 96]), (20, [1, 5], [60, 1, 2, 830, 121, 122, 96]), (20, [1], [60, 1, 1, 823, 31, 96])], [(19, (0, 1, 29, []))], [], [], [], [(19, 7, 1, 1), (16, 15, 0, 30), (16, 13, -27, 31), (12, 13, 0, 4294967296), (8, 12, -4294967296, 0), (11, 8, -4294967296, -1), (11, 12, -4294967296, -1)])
theorem oo_Mo_shift_31 {kA : Nat → ClassId} : or_ok PRD kA GG o_Mo_shift_31 := by
  refine or_mk fun A ta ws vs hD hth hl => ?_
  intro t0 r0 t1 r1 t5 k5 t6 k6 t7 k7 t8 k8 t11 k11 t12 k12 t13 k13 t14 k14 t15 k15 t16 k16 t17 r17 t18 k18 t19 k19 d0 d1 d2 d3 d4 d5 d6 f0 f1 f2 f3 f4 f5 f6 f7 f8 ta1 w1 le1 s1 f10 f11 f12 f13 f14 f15 f16 f17 f18 f19 f20 f21
  replace f8 := shm_5 f8
  have s1 : (∀ b j, w_el ws b j = w_el w1 b j) ∧ ∀ b j, w_fd ws b j = if b = v_ad (n_v vs 1) ∧ j = 121 then n_v vs 16 else w_fd w1 b j := s1.2
  replace f12 := shm_1024 f12
  replace f15 := shm_1273 f15
  have q1 : n_v vs 1 = n_v vs 0 := f8.symm
  rw [q1] at s1
  simp only [q1] at f12 f15
  have ar_0_33_1 : w_ar w1 (n_v vs 0) 33 = w_ar ws (n_v vs 0) 33 := by show v_ad (w_fd w1 _ _) = v_ad (w_fd ws _ _); rw [s1.2, if_neg (fun e => absurd e.2 (by decide))]
  have ar_0_34_1 : w_ar w1 (n_v vs 0) 34 = w_ar ws (n_v vs 0) 34 := by show v_ad (w_fd w1 _ _) = v_ad (w_fd ws _ _); rw [s1.2, if_neg (fun e => absurd e.2 (by decide))]
  have ar_0_35_1 : w_ar w1 (n_v vs 0) 35 = w_ar ws (n_v vs 0) 35 := by show v_ad (w_fd w1 _ _) = v_ad (w_fd ws _ _); rw [s1.2, if_neg (fun e => absurd e.2 (by decide))]
  have ar_0_74_1 : w_ar w1 (n_v vs 0) 74 = w_ar ws (n_v vs 0) 74 := by show v_ad (w_fd w1 _ _) = v_ad (w_fd ws _ _); rw [s1.2, if_neg (fun e => absurd e.2 (by decide))]
  have ar_0_75_1 : w_ar w1 (n_v vs 0) 75 = w_ar ws (n_v vs 0) 75 := by show v_ad (w_fd w1 _ _) = v_ad (w_fd ws _ _); rw [s1.2, if_neg (fun e => absurd e.2 (by decide))]
  have ar_0_96_1 : w_ar w1 (n_v vs 0) 96 = w_ar ws (n_v vs 0) 96 := by show v_ad (w_fd w1 _ _) = v_ad (w_fd ws _ _); rw [s1.2, if_neg (fun e => absurd e.2 (by decide))]
  have ar_0_122_1 : w_ar w1 (n_v vs 0) 122 = w_ar ws (n_v vs 0) 122 := by show v_ad (w_fd w1 _ _) = v_ad (w_fd ws _ _); rw [s1.2, if_neg (fun e => absurd e.2 (by decide))]
  have ar_0_123_1 : w_ar w1 (n_v vs 0) 123 = w_ar ws (n_v vs 0) 123 := by show v_ad (w_fd w1 _ _) = v_ad (w_fd ws _ _); rw [s1.2, if_neg (fun e => absurd e.2 (by decide))]
  have g12 : v_iv (n_v vs 13) = w_fi w1 (n_v vs 0) 121 := congrArg v_iv f12
  simp only [ar_0_33_1, ar_0_34_1, ar_0_35_1, ar_0_96_1, ar_0_122_1, ar_0_74_1, ar_0_75_1, ar_0_123_1] at f15
  have fe_0_31_1 : w_fi ws (n_v vs 0) 31 = w_fi w1 (n_v vs 0) 31 := by show v_iv (w_fd _ _ _) = v_iv (w_fd _ _ _); rw [s1.2, if_neg (fun e => absurd e.2 (by decide))]
  have fe_0_32_1 : w_fi ws (n_v vs 0) 32 = w_fi w1 (n_v vs 0) 32 := by show v_iv (w_fd _ _ _) = v_iv (w_fd _ _ _); rw [s1.2, if_neg (fun e => absurd e.2 (by decide))]
  have fe_0_121_1 : w_fi ws (n_v vs 0) 121 = v_iv (n_v vs 16) := by show v_iv (w_fd _ _ _) = _; rw [s1.2, if_pos ⟨rfl, rfl⟩]
  have hE_0_33_1 : ∀ j : Int, w_ei ws (w_ar ws (n_v vs 0) 33) j = w_ei w1 (w_ar ws (n_v vs 0) 33) j := fun j => s1.1 _ _
  have hE_0_34_1 : ∀ j : Int, w_ei ws (w_ar ws (n_v vs 0) 34) j = w_ei w1 (w_ar ws (n_v vs 0) 34) j := fun j => s1.1 _ _
  have hE_0_35_1 : ∀ j : Int, w_ei ws (w_ar ws (n_v vs 0) 35) j = w_ei w1 (w_ar ws (n_v vs 0) 35) j := fun j => s1.1 _ _
  have hE_0_74_1 : ∀ j : Int, w_ei ws (w_ar ws (n_v vs 0) 74) j = w_ei w1 (w_ar ws (n_v vs 0) 74) j := fun j => s1.1 _ _
  have hE_0_75_1 : ∀ j : Int, w_ei ws (w_ar ws (n_v vs 0) 75) j = w_ei w1 (w_ar ws (n_v vs 0) 75) j := fun j => s1.1 _ _
  have hE_0_96_1 : ∀ j : Int, w_ei ws (w_ar ws (n_v vs 0) 96) j = w_ei w1 (w_ar ws (n_v vs 0) 96) j := fun j => s1.1 _ _
  have hE_0_122_1 : ∀ j : Int, w_ei ws (w_ar ws (n_v vs 0) 122) j = w_ei w1 (w_ar ws (n_v vs 0) 122) j := fun j => s1.1 _ _
  have hE_0_123_1 : ∀ j : Int, w_ei ws (w_ar ws (n_v vs 0) 123) j = w_ei w1 (w_ar ws (n_v vs 0) 123) j := fun j => s1.1 _ _
  have kz_0_31 := fdq_145 hD hth r0
  have kz_0_32 := fdq_140 hD hth r0
  have kz_0_121 := fdq_242 hD hth r0
  have hrf0 : 1 ≤ v_iv (n_v vs 19) ∧ v_iv (n_v vs 19) ≤ 29 := vc_Mo_shift_31_r0 (v_iv (n_v vs 5)) (v_iv (n_v vs 6)) (v_iv (n_v vs 7)) (v_iv (n_v vs 8)) (v_iv (n_v vs 11)) (v_iv (n_v vs 12)) (v_iv (n_v vs 13)) (v_iv (n_v vs 14)) (v_iv (n_v vs 15)) (v_iv (n_v vs 16)) (v_iv (n_v vs 19)) (w_ei ws (w_ar ws (n_v vs 0) 33)) (w_ei ws (w_ar ws (n_v vs 0) 34)) (w_fi ws (n_v vs 0) 31) (w_fi ws (n_v vs 0) 32) (w_ei ws (w_ar ws (n_v vs 0) 74)) (w_ei ws (w_ar ws (n_v vs 0) 75)) (w_ei ws (w_ar ws (n_v vs 0) 96)) (w_ei ws (w_ar ws (n_v vs 0) 123)) (w_fi w1 (n_v vs 0) 121) (w_ei w1 (w_ar ws (n_v vs 0) 33)) (w_ei w1 (w_ar ws (n_v vs 0) 34)) (w_fi w1 (n_v vs 0) 31) (w_fi w1 (n_v vs 0) 32) (w_ei w1 (w_ar ws (n_v vs 0) 35)) (w_ei w1 (w_ar ws (n_v vs 0) 122)) (w_ei w1 (w_ar ws (n_v vs 0) 96)) (w_ei w1 (w_ar ws (n_v vs 0) 74)) (w_ei w1 (w_ar ws (n_v vs 0) 75)) (w_ei w1 (w_ar ws (n_v vs 0) 123)) (w_fi ws (n_v vs 0) 121) (w_ei ws (w_ar ws (n_v vs 0) 35)) (w_ei ws (w_ar ws (n_v vs 0) 122)) k5 k6 k7 k8 k11 k12 k13 k14 k15 k16 k19 d0 d3 d4 d6 (shm_1270 f3) (shm_12 f10) (shm_14 f11) g12 f15 fe_0_31_1 fe_0_32_1 fe_0_121_1 hE_0_33_1 hE_0_34_1 hE_0_35_1 hE_0_74_1 hE_0_75_1 hE_0_96_1 hE_0_122_1 hE_0_123_1 kz_0_31 kz_0_32 kz_0_121
  have rf19 : tv_ok ta (0, 1, 29, []) (n_v vs 19) := tv_in t19 (by first | omega | grind) (by first | omega | grind)
  refine ⟨List.forall_mem_cons.mpr ⟨rf19, (fun _ h => (by cases h))⟩, [], trivial, ?_, (fun _ h => (by cases h))⟩
  rw [List.append_nil]
  exact (fun _ h => (by cases h))
set_option maxHeartbeats 4000000 in
theorem vc_Mo_shift_32_0 (x5 : Int) (x6 : Int) (x7 : Int) (x8 : Int) (x11 : Int) (x12 : Int) (x13 : Int) (x14 : Int) (x15 : Int) (x16 : Int) (x19 : Int) (x20 : Int) (pt_0 : Int → Int) (ph_0 : Int → Int) (pn_0 : Int) (pm_0 : Int) (nx_0 : Int → Int) (ny_0 : Int → Int) (order_0 : Int → Int) (under_0 : Int → Int) (pt_1 : Int → Int) (ph_1 : Int → Int) (pn_1 : Int) (pm_1 : Int) (nx_1 : Int → Int) (ny_1 : Int → Int) (order_1 : Int → Int) (under_1 : Int → Int) (upper_2 : Int) (pt_2 : Int → Int) (ph_2 : Int → Int) (pn_2 : Int) (pm_2 : Int) (alive_2 : Int → Int) (upperNode_2 : Int → Int) (order_2 : Int → Int) (nx_2 : Int → Int) (ny_2 : Int → Int) (under_2 : Int → Int) (upper_0 : Int) (upper_1 : Int) (alive_0 : Int → Int) (alive_1 : Int → Int) (upperNode_0 : Int → Int) (upperNode_1 : Int → Int) (k5 : 3 ≤ x5 ∧ x5 ≤ 24) (k6 : 0 ≤ x6 ∧ x6 ≤ 24) (k7 : 0 ≤ x7 ∧ x7 ≤ 29) (k8 : 0 ≤ x8 ∧ x8 ≤ 29) (k11 : (-30) ≤ x11 ∧ x11 ≤ 28) (k12 : 0 ≤ x12 ∧ x12 ≤ 30) (k13 : 0 ≤ x13 ∧ x13 ≤ 30) (k14 : 1 ≤ x14 ∧ x14 ≤ 1) (k15 : (-27) ≤ x15 ∧ x15 ≤ 31) (k16 : 0 ≤ x16 ∧ x16 ≤ 30) (k19 : 1 ≤ x19 ∧ x19 ≤ 29) (k20 : 4 ≤ x20 ∧ x20 ≤ 25) (d1 : x7 + 1 ≤ x19 ∧ x19 ≤ x7 + 1) (d4 : x13 + 0 ≤ x12 ∧ x12 ≤ x13 + 4294967296) (f0 : x20 = x5 + 1) (f2 : x11 = ((x8 - x7) - 1)) (f18 : x16 = x13 + x15) (f19 : x15 = x14 - x11) (g20 : x13 = upper_2) (f23 : SD2 (pn_2) (pm_2) (upper_2) (pt_2) (ph_2) (alive_2) (upperNode_2) (order_2) (x5) (x6) (x7) (x8) (x12)) (fe_0_31_1 : pn_0 = pn_1) (fe_0_32_1 : pm_0 = pm_1) (fe_0_121_1 : upper_0 = upper_1) (fe_0_31_2 : pn_1 = pn_2) (fe_0_32_2 : pm_1 = pm_2) (fe_0_121_2 : upper_1 = x16) (hE_0_33_1 : ∀ j : Int, pt_0 j = pt_1 j) (hE_0_33_2 : ∀ j : Int, pt_1 j = pt_2 j) (hE_0_34_1 : ∀ j : Int, ph_0 j = ph_1 j) (hE_0_34_2 : ∀ j : Int, ph_1 j = ph_2 j) (hE_0_35_1 : ∀ j : Int, alive_0 j = alive_1 j) (hE_0_35_2 : ∀ j : Int, alive_1 j = alive_2 j) (hE_0_74_1 : ∀ j : Int, nx_0 j = nx_1 j) (hE_0_74_2 : ∀ j : Int, nx_1 j = nx_2 j) (hE_0_75_1 : ∀ j : Int, ny_0 j = ny_1 j) (hE_0_75_2 : ∀ j : Int, ny_1 j = ny_2 j) (hE_0_96_1 : ∀ j : Int, order_0 j = order_1 j) (hE_0_96_2 : ∀ j : Int, order_1 j = order_2 j) (hE_0_122_1 : ∀ j : Int, 0 ≤ j → (j = x19 → upperNode_0 j = x6) ∧ (j ≠ x19 → upperNode_0 j = upperNode_1 j)) (hE_0_122_2 : ∀ j : Int, upperNode_1 j = upperNode_2 j) (hE_0_123_1 : ∀ j : Int, under_0 j = under_1 j) (hE_0_123_2 : ∀ j : Int, under_1 j = under_2 j) (kz_0_31 : 0 ≤ pn_0 ∧ pn_0 ≤ 25) (kz_0_32 : 0 ≤ pm_0 ∧ pm_0 ≤ 80) (kz_0_121 : 0 ≤ upper_0 ∧ upper_0 ≤ 30) : SHL (pn_0) (pm_0) (upper_0) (pt_0) (ph_0) (alive_0) (upperNode_0) (order_0) (x20) := by
  subst fe_0_31_1
  subst fe_0_32_1
  subst fe_0_121_1
  subst fe_0_31_2
  subst fe_0_32_2
  have e_hE_0_33_1 := funext hE_0_33_1; subst e_hE_0_33_1
  have e_hE_0_33_2 := funext hE_0_33_2; subst e_hE_0_33_2
  have e_hE_0_34_1 := funext hE_0_34_1; subst e_hE_0_34_1
  have e_hE_0_34_2 := funext hE_0_34_2; subst e_hE_0_34_2
  have e_hE_0_35_1 := funext hE_0_35_1; subst e_hE_0_35_1
  have e_hE_0_35_2 := funext hE_0_35_2; subst e_hE_0_35_2
  have e_hE_0_74_1 := funext hE_0_74_1; subst e_hE_0_74_1
  have e_hE_0_74_2 := funext hE_0_74_2; subst e_hE_0_74_2
  have e_hE_0_75_1 := funext hE_0_75_1; subst e_hE_0_75_1
  have e_hE_0_75_2 := funext hE_0_75_2; subst e_hE_0_75_2
  have e_hE_0_96_1 := funext hE_0_96_1; subst e_hE_0_96_1
  have e_hE_0_96_2 := funext hE_0_96_2; subst e_hE_0_96_2
  have e_hE_0_122_2 := funext hE_0_122_2; subst e_hE_0_122_2
  have e_hE_0_123_1 := funext hE_0_123_1; subst e_hE_0_123_1
  have e_hE_0_123_2 := funext hE_0_123_2; subst e_hE_0_123_2
  first
    | exact sd2_end ‹SD2 _ _ _ _ _ _ _ _ _ _ _ _ _› (by omega) (by assumption) (by omega) (by omega) (by omega) (by omega)
set_option maxHeartbeats 4000000 in
theorem vc_Mo_shift_32_1 (x5 : Int) (x20 : Int) (pt_0 : Int → Int) (ph_0 : Int → Int) (pn_0 : Int) (pm_0 : Int) (nx_0 : Int → Int) (ny_0 : Int → Int) (order_0 : Int → Int) (under_0 : Int → Int) (pt_1 : Int → Int) (ph_1 : Int → Int) (pn_1 : Int) (pm_1 : Int) (nx_1 : Int → Int) (ny_1 : Int → Int) (order_1 : Int → Int) (under_1 : Int → Int) (pt_2 : Int → Int) (ph_2 : Int → Int) (pn_2 : Int) (pm_2 : Int) (alive_2 : Int → Int) (upperNode_2 : Int → Int) (order_2 : Int → Int) (nx_2 : Int → Int) (ny_2 : Int → Int) (under_2 : Int → Int) (upper_0 : Int) (upper_1 : Int) (alive_0 : Int → Int) (alive_1 : Int → Int) (upperNode_1 : Int → Int) (k5 : 3 ≤ x5 ∧ x5 ≤ 24) (k20 : 4 ≤ x20 ∧ x20 ≤ 25) (f0 : x20 = x5 + 1) (f25 : SPKn (nx_2) (ny_2) (order_2) (x5)) (fe_0_31_1 : pn_0 = pn_1) (fe_0_32_1 : pm_0 = pm_1) (fe_0_121_1 : upper_0 = upper_1) (fe_0_31_2 : pn_1 = pn_2) (fe_0_32_2 : pm_1 = pm_2) (hE_0_33_1 : ∀ j : Int, pt_0 j = pt_1 j) (hE_0_33_2 : ∀ j : Int, pt_1 j = pt_2 j) (hE_0_34_1 : ∀ j : Int, ph_0 j = ph_1 j) (hE_0_34_2 : ∀ j : Int, ph_1 j = ph_2 j) (hE_0_35_1 : ∀ j : Int, alive_0 j = alive_1 j) (hE_0_35_2 : ∀ j : Int, alive_1 j = alive_2 j) (hE_0_74_1 : ∀ j : Int, nx_0 j = nx_1 j) (hE_0_74_2 : ∀ j : Int, nx_1 j = nx_2 j) (hE_0_75_1 : ∀ j : Int, ny_0 j = ny_1 j) (hE_0_75_2 : ∀ j : Int, ny_1 j = ny_2 j) (hE_0_96_1 : ∀ j : Int, order_0 j = order_1 j) (hE_0_96_2 : ∀ j : Int, order_1 j = order_2 j) (hE_0_122_2 : ∀ j : Int, upperNode_1 j = upperNode_2 j) (hE_0_123_1 : ∀ j : Int, under_0 j = under_1 j) (hE_0_123_2 : ∀ j : Int, under_1 j = under_2 j) (kz_0_31 : 0 ≤ pn_0 ∧ pn_0 ≤ 25) (kz_0_32 : 0 ≤ pm_0 ∧ pm_0 ≤ 80) (kz_0_121 : 0 ≤ upper_0 ∧ upper_0 ≤ 30) : SPKs (nx_0) (ny_0) (order_0) (x20) := by
  subst fe_0_31_1
  subst fe_0_32_1
  subst fe_0_121_1
  subst fe_0_31_2
  subst fe_0_32_2
  have e_hE_0_33_1 := funext hE_0_33_1; subst e_hE_0_33_1
  have e_hE_0_33_2 := funext hE_0_33_2; subst e_hE_0_33_2
  have e_hE_0_34_1 := funext hE_0_34_1; subst e_hE_0_34_1
  have e_hE_0_34_2 := funext hE_0_34_2; subst e_hE_0_34_2
  have e_hE_0_35_1 := funext hE_0_35_1; subst e_hE_0_35_1
  have e_hE_0_35_2 := funext hE_0_35_2; subst e_hE_0_35_2
  have e_hE_0_74_1 := funext hE_0_74_1; subst e_hE_0_74_1
  have e_hE_0_74_2 := funext hE_0_74_2; subst e_hE_0_74_2
  have e_hE_0_75_1 := funext hE_0_75_1; subst e_hE_0_75_1
  have e_hE_0_75_2 := funext hE_0_75_2; subst e_hE_0_75_2
  have e_hE_0_96_1 := funext hE_0_96_1; subst e_hE_0_96_1
  have e_hE_0_96_2 := funext hE_0_96_2; subst e_hE_0_96_2
  have e_hE_0_122_2 := funext hE_0_122_2; subst e_hE_0_122_2
  have e_hE_0_123_1 := funext hE_0_123_1; subst e_hE_0_123_1
  have e_hE_0_123_2 := funext hE_0_123_2; subst e_hE_0_123_2
  first
    | exact spks_next ‹SPKn _ _ _ _› (by omega)
set_option maxHeartbeats 4000000 in
theorem vc_Mo_shift_32_2 (x5 : Int) (x20 : Int) (pt_0 : Int → Int) (ph_0 : Int → Int) (pn_0 : Int) (pm_0 : Int) (nx_0 : Int → Int) (ny_0 : Int → Int) (order_0 : Int → Int) (under_0 : Int → Int) (pt_1 : Int → Int) (ph_1 : Int → Int) (pn_1 : Int) (pm_1 : Int) (nx_1 : Int → Int) (ny_1 : Int → Int) (order_1 : Int → Int) (under_1 : Int → Int) (pt_2 : Int → Int) (ph_2 : Int → Int) (pn_2 : Int) (pm_2 : Int) (alive_2 : Int → Int) (upperNode_2 : Int → Int) (order_2 : Int → Int) (nx_2 : Int → Int) (ny_2 : Int → Int) (under_2 : Int → Int) (upper_0 : Int) (upper_1 : Int) (alive_0 : Int → Int) (alive_1 : Int → Int) (upperNode_1 : Int → Int) (k5 : 3 ≤ x5 ∧ x5 ≤ 24) (k20 : 4 ≤ x20 ∧ x20 ≤ 25) (f0 : x20 = x5 + 1) (f26 : UNDn (pn_2) (under_2) (order_2) (x5)) (fe_0_31_1 : pn_0 = pn_1) (fe_0_32_1 : pm_0 = pm_1) (fe_0_121_1 : upper_0 = upper_1) (fe_0_31_2 : pn_1 = pn_2) (fe_0_32_2 : pm_1 = pm_2) (hE_0_33_1 : ∀ j : Int, pt_0 j = pt_1 j) (hE_0_33_2 : ∀ j : Int, pt_1 j = pt_2 j) (hE_0_34_1 : ∀ j : Int, ph_0 j = ph_1 j) (hE_0_34_2 : ∀ j : Int, ph_1 j = ph_2 j) (hE_0_35_1 : ∀ j : Int, alive_0 j = alive_1 j) (hE_0_35_2 : ∀ j : Int, alive_1 j = alive_2 j) (hE_0_74_1 : ∀ j : Int, nx_0 j = nx_1 j) (hE_0_74_2 : ∀ j : Int, nx_1 j = nx_2 j) (hE_0_75_1 : ∀ j : Int, ny_0 j = ny_1 j) (hE_0_75_2 : ∀ j : Int, ny_1 j = ny_2 j) (hE_0_96_1 : ∀ j : Int, order_0 j = order_1 j) (hE_0_96_2 : ∀ j : Int, order_1 j = order_2 j) (hE_0_122_2 : ∀ j : Int, upperNode_1 j = upperNode_2 j) (hE_0_123_1 : ∀ j : Int, under_0 j = under_1 j) (hE_0_123_2 : ∀ j : Int, under_1 j = under_2 j) (kz_0_31 : 0 ≤ pn_0 ∧ pn_0 ≤ 25) (kz_0_32 : 0 ≤ pm_0 ∧ pm_0 ≤ 80) (kz_0_121 : 0 ≤ upper_0 ∧ upper_0 ≤ 30) : UND (pn_0) (under_0) (order_0) (x20) := by
  subst fe_0_31_1
  subst fe_0_32_1
  subst fe_0_121_1
  subst fe_0_31_2
  subst fe_0_32_2
  have e_hE_0_33_1 := funext hE_0_33_1; subst e_hE_0_33_1
  have e_hE_0_33_2 := funext hE_0_33_2; subst e_hE_0_33_2
  have e_hE_0_34_1 := funext hE_0_34_1; subst e_hE_0_34_1
  have e_hE_0_34_2 := funext hE_0_34_2; subst e_hE_0_34_2
  have e_hE_0_35_1 := funext hE_0_35_1; subst e_hE_0_35_1
  have e_hE_0_35_2 := funext hE_0_35_2; subst e_hE_0_35_2
  have e_hE_0_74_1 := funext hE_0_74_1; subst e_hE_0_74_1
  have e_hE_0_74_2 := funext hE_0_74_2; subst e_hE_0_74_2
  have e_hE_0_75_1 := funext hE_0_75_1; subst e_hE_0_75_1
  have e_hE_0_75_2 := funext hE_0_75_2; subst e_hE_0_75_2
  have e_hE_0_96_1 := funext hE_0_96_1; subst e_hE_0_96_1
  have e_hE_0_96_2 := funext hE_0_96_2; subst e_hE_0_96_2
  have e_hE_0_122_2 := funext hE_0_122_2; subst e_hE_0_122_2
  have e_hE_0_123_1 := funext hE_0_123_1; subst e_hE_0_123_1
  have e_hE_0_123_2 := funext hE_0_123_2; subst e_hE_0_123_2
  first
    | exact und_next ‹UNDn _ _ _ _› (by omega)
set_option maxHeartbeats 4000000 in
theorem vc_Mo_shift_32_3 (x5 : Int) (x6 : Int) (x7 : Int) (x8 : Int) (x11 : Int) (x12 : Int) (x13 : Int) (x14 : Int) (x15 : Int) (x16 : Int) (x19 : Int) (x20 : Int) (pt_0 : Int → Int) (ph_0 : Int → Int) (pn_0 : Int) (pm_0 : Int) (nx_0 : Int → Int) (ny_0 : Int → Int) (order_0 : Int → Int) (under_0 : Int → Int) (pt_1 : Int → Int) (ph_1 : Int → Int) (pn_1 : Int) (pm_1 : Int) (nx_1 : Int → Int) (ny_1 : Int → Int) (order_1 : Int → Int) (under_1 : Int → Int) (upper_2 : Int) (pt_2 : Int → Int) (ph_2 : Int → Int) (pn_2 : Int) (pm_2 : Int) (alive_2 : Int → Int) (upperNode_2 : Int → Int) (order_2 : Int → Int) (nx_2 : Int → Int) (ny_2 : Int → Int) (under_2 : Int → Int) (upper_0 : Int) (upper_1 : Int) (alive_0 : Int → Int) (alive_1 : Int → Int) (upperNode_0 : Int → Int) (upperNode_1 : Int → Int) (k5 : 3 ≤ x5 ∧ x5 ≤ 24) (k6 : 0 ≤ x6 ∧ x6 ≤ 24) (k7 : 0 ≤ x7 ∧ x7 ≤ 29) (k8 : 0 ≤ x8 ∧ x8 ≤ 29) (k11 : (-30) ≤ x11 ∧ x11 ≤ 28) (k12 : 0 ≤ x12 ∧ x12 ≤ 30) (k13 : 0 ≤ x13 ∧ x13 ≤ 30) (k14 : 1 ≤ x14 ∧ x14 ≤ 1) (k15 : (-27) ≤ x15 ∧ x15 ≤ 31) (k16 : 0 ≤ x16 ∧ x16 ≤ 30) (k19 : 1 ≤ x19 ∧ x19 ≤ 29) (k20 : 4 ≤ x20 ∧ x20 ≤ 25) (d0 : x5 + 1 ≤ x20 ∧ x20 ≤ x5 + 1) (d1 : x7 + 1 ≤ x19 ∧ x19 ≤ x7 + 1) (d3 : x13 + (-27) ≤ x16 ∧ x16 ≤ x13 + 31) (f0 : x20 = x5 + 1) (f2 : x11 = ((x8 - x7) - 1)) (f18 : x16 = x13 + x15) (f19 : x15 = x14 - x11) (g20 : x13 = upper_2) (f23 : SD2 (pn_2) (pm_2) (upper_2) (pt_2) (ph_2) (alive_2) (upperNode_2) (order_2) (x5) (x6) (x7) (x8) (x12)) (f28 : ULU (upper_2) (upperNode_2) (order_2) (x5)) (fe_0_31_1 : pn_0 = pn_1) (fe_0_32_1 : pm_0 = pm_1) (fe_0_121_1 : upper_0 = upper_1) (fe_0_31_2 : pn_1 = pn_2) (fe_0_32_2 : pm_1 = pm_2) (fe_0_121_2 : upper_1 = x16) (hE_0_33_1 : ∀ j : Int, pt_0 j = pt_1 j) (hE_0_33_2 : ∀ j : Int, pt_1 j = pt_2 j) (hE_0_34_1 : ∀ j : Int, ph_0 j = ph_1 j) (hE_0_34_2 : ∀ j : Int, ph_1 j = ph_2 j) (hE_0_35_1 : ∀ j : Int, alive_0 j = alive_1 j) (hE_0_35_2 : ∀ j : Int, alive_1 j = alive_2 j) (hE_0_74_1 : ∀ j : Int, nx_0 j = nx_1 j) (hE_0_74_2 : ∀ j : Int, nx_1 j = nx_2 j) (hE_0_75_1 : ∀ j : Int, ny_0 j = ny_1 j) (hE_0_75_2 : ∀ j : Int, ny_1 j = ny_2 j) (hE_0_96_1 : ∀ j : Int, order_0 j = order_1 j) (hE_0_96_2 : ∀ j : Int, order_1 j = order_2 j) (hE_0_122_1 : ∀ j : Int, 0 ≤ j → (j = x19 → upperNode_0 j = x6) ∧ (j ≠ x19 → upperNode_0 j = upperNode_1 j)) (hE_0_122_2 : ∀ j : Int, upperNode_1 j = upperNode_2 j) (hE_0_123_1 : ∀ j : Int, under_0 j = under_1 j) (hE_0_123_2 : ∀ j : Int, under_1 j = under_2 j) (kz_0_31 : 0 ≤ pn_0 ∧ pn_0 ≤ 25) (kz_0_32 : 0 ≤ pm_0 ∧ pm_0 ≤ 80) (kz_0_121 : 0 ≤ upper_0 ∧ upper_0 ≤ 30) : ULU (upper_0) (upperNode_0) (order_0) (x20) := by
  subst fe_0_31_1
  subst fe_0_32_1
  subst fe_0_121_1
  subst fe_0_31_2
  subst fe_0_32_2
  have e_hE_0_33_1 := funext hE_0_33_1; subst e_hE_0_33_1
  have e_hE_0_33_2 := funext hE_0_33_2; subst e_hE_0_33_2
  have e_hE_0_34_1 := funext hE_0_34_1; subst e_hE_0_34_1
  have e_hE_0_34_2 := funext hE_0_34_2; subst e_hE_0_34_2
  have e_hE_0_35_1 := funext hE_0_35_1; subst e_hE_0_35_1
  have e_hE_0_35_2 := funext hE_0_35_2; subst e_hE_0_35_2
  have e_hE_0_74_1 := funext hE_0_74_1; subst e_hE_0_74_1
  have e_hE_0_74_2 := funext hE_0_74_2; subst e_hE_0_74_2
  have e_hE_0_75_1 := funext hE_0_75_1; subst e_hE_0_75_1
  have e_hE_0_75_2 := funext hE_0_75_2; subst e_hE_0_75_2
  have e_hE_0_96_1 := funext hE_0_96_1; subst e_hE_0_96_1
  have e_hE_0_96_2 := funext hE_0_96_2; subst e_hE_0_96_2
  have e_hE_0_122_2 := funext hE_0_122_2; subst e_hE_0_122_2
  have e_hE_0_123_1 := funext hE_0_123_1; subst e_hE_0_123_1
  have e_hE_0_123_2 := funext hE_0_123_2; subst e_hE_0_123_2
  first
    | (have hx : x6 = order_0 x5 := by obtain ⟨U0, h, _⟩ := ‹SD2 _ _ _ _ _ _ _ _ _ _ _ _ _›; exact h.1.1.2.1.2
       have hl := sd2_len ‹SD2 _ _ _ _ _ _ _ _ _ _ _ _ _›
       exact ulu_end2 ‹ULU _ _ _ _› (by assumption) hx (by omega) (by omega) (by omega))
def o_Mo_shift_32 : or_T := (121, 21, [(0, (2, 0, 0, [165])), (1, (2, 0, 0, [165])), (5, (0, 3, 24, [])), (6, (0, 0, 24, [])), (7, (0, 0, 29, [])), (8, (0, 0, 29, [])), (11, (0, -30, 28, [])), (12, (0, 0, 30, [])), (13, (0, 0, 30, [])), (14, (0, 1, 1, [])), (15, (0, -27, 31, [])), (16, (0, 0, 30, [])), (17, (2, 0, 0, [253])), (18, (0, 1, 1, [])), (19, (0, 1, 29, [])), (20, (0, 4, 25, []))], [(6, [20, 5], [1]), (20, [1], [60, 2, 2, 75, 31, 32, 33, 34]), (20, [11, 8, 7], [50, 0, 0, 1, 2, 1, 0, 5, 6, 5, 2, 1, 1, 1, 2, 0, 1]), (20, [1, 5], [60, 0, 3, 826, 74, 75, 96]), (20, [1, 5], [60, 1, 2, 828, 31, 123, 96]), (20, [1], [60, 1, 1, 835, 31, 96]), (20, [1], [60, 1, 1, 823, 31, 96]), (24, [0, 1], []), (100, [17, 19, 6], []), (1, [19, 7, 18], []), (9, [17, 1], [122]), (20, [1], [60, 2, 2, 75, 31, 32, 33, 34]), (20, [11, 8, 7], [50, 0, 0, 1, 2, 1, 0, 5, 6, 5, 2, 1, 1, 1, 2, 0, 1]), (20, [1, 5], [60, 0, 3, 826, 74, 75, 96]), (20, [1, 5], [60, 1, 2, 828, 31, 123, 96]), (20, [1], [60, 1, 1, 835, 31, 96]), (20, [1], [60, 1, 1, 823, 31, 96]), (101, [1, 16], [121]), (1, [16, 13, 15], []), (2, [15, 14, 11], []), (9, [13, 1], [121]), (7, [12, 13], [3]), (20, [1], [60, 2, 2, 75, 31, 32, 33, 34]), (20, [1, 5, 6, 7, 8, 12], [60, 3, 5, 296, 31, 32, 121, 33, 34, 35, 122, 96]), (20, [11, 8, 7], [50, 0, 0, 1, 2, 1, 0, 5, 6, 5, 2, 1, 1, 1, 2, 0, 1]), (20, [1, 5], [60, 0, 3, 826, 74, 75, 96]), (20, [1, 5], [60, 1, 2, 828, 31, 123, 96]), (20, [1], [60, 1, 1, 835, 31, 96]), (20, [1, 5], [60, 1, 2, 830, 121, 122, 96]), (20, [1], [60, 1, 1, 823, 31, 96])], [], [], [(20, [1, 20], [60, 3, 5, 291, 31, 32, 121, 33, 34, 35, 122, 96]), (20, [1, 20], [60, 0, 3, 824, 74, 75, 96]), (20, [1, 20], [60, 1, 2, 827, 31, 123, 96]), (20, [1, 20], [60, 1, 2, 830, 121, 122, 96])], [], [(20, 5, 1, 1), (19, 7, 1, 1), (16, 15, 0, 30), (16, 13, -27, 31), (12, 13, 0, 4294967296), (8, 12, -4294967296, 0), (11, 8, -4294967296, -1), (11, 12, -4294967296, -1)])
theorem oo_Mo_shift_32 {kA : Nat → ClassId} : or_ok PRD kA GG o_Mo_shift_32 := by
  refine or_mk fun A ta ws vs hD hth hl => ?_
  intro t0 r0 t1 r1 t5 k5 t6 k6 t7 k7 t8 k8 t11 k11 t12 k12 t13 k13 t14 k14 t15 k15 t16 k16 t17 r17 t18 k18 t19 k19 t20 k20 d0 d1 d2 d3 d4 d5 d6 d7 f0 f1 f2 f3 f4 f5 f6 f7 ta1 w1 le1 s1 f9 f10 f11 f12 f13 f14 f15 f16 ta2 w2 le2 s2 f18 f19 f20 f21 f22 f23 f24 f25 f26 f27 f28 f29
  replace f0 := shm_4 f0
  replace f2 := shm_1270 f2
  replace f7 := shm_5 f7
  have s1 : (∀ b j, w_el ws b j = if b = v_ad (n_v vs 17) ∧ j = (v_iv (n_v vs 19)).toNat then v_iv (n_v vs 6) else w_el w1 b j) ∧ ∀ b k, w_fd ws b k = w_fd w1 b k := s1.2
  replace f10 := shm_1019 f10
  have s2 : (∀ b j, w_el w1 b j = w_el w2 b j) ∧ ∀ b j, w_fd w1 b j = if b = v_ad (n_v vs 1) ∧ j = 121 then n_v vs 16 else w_fd w2 b j := s2.2
  replace f18 := shm_12 f18
  replace f19 := shm_14 f19
  replace f20 := shm_1024 f20
  replace f23 := shm_1273 f23
  replace f25 := shm_1267 f25
  replace f26 := shm_1268 f26
  replace f28 := shm_1260 f28
  have q1 : n_v vs 1 = n_v vs 0 := f7.symm
  simp only [q1] at f10
  rw [q1] at s2
  simp only [q1] at f20 f23 f25 f26 f28
  have ar_0_33_1 : w_ar w1 (n_v vs 0) 33 = w_ar ws (n_v vs 0) 33 := congrArg v_ad (s1.2 _ _).symm
  have ar_0_33_2 : w_ar w2 (n_v vs 0) 33 = w_ar ws (n_v vs 0) 33 := by rw [← ar_0_33_1]; show v_ad (w_fd w2 _ _) = v_ad (w_fd w1 _ _); rw [s2.2, if_neg (fun e => absurd e.2 (by decide))]
  have cr_0_33 := fdq_117 hD hth r0
  have ar_0_34_1 : w_ar w1 (n_v vs 0) 34 = w_ar ws (n_v vs 0) 34 := congrArg v_ad (s1.2 _ _).symm
  have ar_0_34_2 : w_ar w2 (n_v vs 0) 34 = w_ar ws (n_v vs 0) 34 := by rw [← ar_0_34_1]; show v_ad (w_fd w2 _ _) = v_ad (w_fd w1 _ _); rw [s2.2, if_neg (fun e => absurd e.2 (by decide))]
  have cr_0_34 := fdq_118 hD hth r0
  have ar_0_35_1 : w_ar w1 (n_v vs 0) 35 = w_ar ws (n_v vs 0) 35 := congrArg v_ad (s1.2 _ _).symm
  have ar_0_35_2 : w_ar w2 (n_v vs 0) 35 = w_ar ws (n_v vs 0) 35 := by rw [← ar_0_35_1]; show v_ad (w_fd w2 _ _) = v_ad (w_fd w1 _ _); rw [s2.2, if_neg (fun e => absurd e.2 (by decide))]
  have cr_0_35 := fdq_132 hD hth r0
  have ar_0_74_1 : w_ar w1 (n_v vs 0) 74 = w_ar ws (n_v vs 0) 74 := congrArg v_ad (s1.2 _ _).symm
  have ar_0_74_2 : w_ar w2 (n_v vs 0) 74 = w_ar ws (n_v vs 0) 74 := by rw [← ar_0_74_1]; show v_ad (w_fd w2 _ _) = v_ad (w_fd w1 _ _); rw [s2.2, if_neg (fun e => absurd e.2 (by decide))]
  have cr_0_74 := fdq_164 hD hth r0
  have ar_0_75_1 : w_ar w1 (n_v vs 0) 75 = w_ar ws (n_v vs 0) 75 := congrArg v_ad (s1.2 _ _).symm
  have ar_0_75_2 : w_ar w2 (n_v vs 0) 75 = w_ar ws (n_v vs 0) 75 := by rw [← ar_0_75_1]; show v_ad (w_fd w2 _ _) = v_ad (w_fd w1 _ _); rw [s2.2, if_neg (fun e => absurd e.2 (by decide))]
  have cr_0_75 := fdq_165 hD hth r0
  have ar_0_96_1 : w_ar w1 (n_v vs 0) 96 = w_ar ws (n_v vs 0) 96 := congrArg v_ad (s1.2 _ _).symm
  have ar_0_96_2 : w_ar w2 (n_v vs 0) 96 = w_ar ws (n_v vs 0) 96 := by rw [← ar_0_96_1]; show v_ad (w_fd w2 _ _) = v_ad (w_fd w1 _ _); rw [s2.2, if_neg (fun e => absurd e.2 (by decide))]
  have cr_0_96 := fdq_166 hD hth r0
  have ar_0_122_1 : w_ar w1 (n_v vs 0) 122 = w_ar ws (n_v vs 0) 122 := congrArg v_ad (s1.2 _ _).symm
  have ar_0_122_2 : w_ar w2 (n_v vs 0) 122 = w_ar ws (n_v vs 0) 122 := by rw [← ar_0_122_1]; show v_ad (w_fd w2 _ _) = v_ad (w_fd w1 _ _); rw [s2.2, if_neg (fun e => absurd e.2 (by decide))]
  have ar_0_123_1 : w_ar w1 (n_v vs 0) 123 = w_ar ws (n_v vs 0) 123 := congrArg v_ad (s1.2 _ _).symm
  have ar_0_123_2 : w_ar w2 (n_v vs 0) 123 = w_ar ws (n_v vs 0) 123 := by rw [← ar_0_123_1]; show v_ad (w_fd w2 _ _) = v_ad (w_fd w1 _ _); rw [s2.2, if_neg (fun e => absurd e.2 (by decide))]
  have cr_0_123 := fdq_281 hD hth r0
  have ad_17 : v_ad (n_v vs 17) = w_ar ws (n_v vs 0) 122 := (congrArg v_ad f10).trans ar_0_122_1
  have g20 : v_iv (n_v vs 13) = w_fi w2 (n_v vs 0) 121 := congrArg v_iv f20
  simp only [ar_0_33_2, ar_0_34_2, ar_0_35_2, ar_0_96_2, ar_0_122_2, ar_0_74_2, ar_0_75_2, ar_0_123_2] at f23 f25 f26 f28
  have fe_0_31_1 : w_fi ws (n_v vs 0) 31 = w_fi w1 (n_v vs 0) 31 := congrArg v_iv (s1.2 _ _)
  have fe_0_32_1 : w_fi ws (n_v vs 0) 32 = w_fi w1 (n_v vs 0) 32 := congrArg v_iv (s1.2 _ _)
  have fe_0_121_1 : w_fi ws (n_v vs 0) 121 = w_fi w1 (n_v vs 0) 121 := congrArg v_iv (s1.2 _ _)
  have fe_0_31_2 : w_fi w1 (n_v vs 0) 31 = w_fi w2 (n_v vs 0) 31 := by show v_iv (w_fd _ _ _) = v_iv (w_fd _ _ _); rw [s2.2, if_neg (fun e => absurd e.2 (by decide))]
  have fe_0_32_2 : w_fi w1 (n_v vs 0) 32 = w_fi w2 (n_v vs 0) 32 := by show v_iv (w_fd _ _ _) = v_iv (w_fd _ _ _); rw [s2.2, if_neg (fun e => absurd e.2 (by decide))]
  have fe_0_121_2 : w_fi w1 (n_v vs 0) 121 = v_iv (n_v vs 16) := by show v_iv (w_fd _ _ _) = _; rw [s2.2, if_pos ⟨rfl, rfl⟩]
  have hE_0_33_1 : ∀ j : Int, w_ei ws (w_ar ws (n_v vs 0) 33) j = w_ei w1 (w_ar ws (n_v vs 0) 33) j := el_kp s1.1 r17 cr_0_33 (by decide)
  have hE_0_33_2 : ∀ j : Int, w_ei w1 (w_ar ws (n_v vs 0) 33) j = w_ei w2 (w_ar ws (n_v vs 0) 33) j := fun j => s2.1 _ _
  have hE_0_34_1 : ∀ j : Int, w_ei ws (w_ar ws (n_v vs 0) 34) j = w_ei w1 (w_ar ws (n_v vs 0) 34) j := el_kp s1.1 r17 cr_0_34 (by decide)
  have hE_0_34_2 : ∀ j : Int, w_ei w1 (w_ar ws (n_v vs 0) 34) j = w_ei w2 (w_ar ws (n_v vs 0) 34) j := fun j => s2.1 _ _
  have hE_0_35_1 : ∀ j : Int, w_ei ws (w_ar ws (n_v vs 0) 35) j = w_ei w1 (w_ar ws (n_v vs 0) 35) j := el_kp s1.1 r17 cr_0_35 (by decide)
  have hE_0_35_2 : ∀ j : Int, w_ei w1 (w_ar ws (n_v vs 0) 35) j = w_ei w2 (w_ar ws (n_v vs 0) 35) j := fun j => s2.1 _ _
  have hE_0_74_1 : ∀ j : Int, w_ei ws (w_ar ws (n_v vs 0) 74) j = w_ei w1 (w_ar ws (n_v vs 0) 74) j := el_kp s1.1 r17 cr_0_74 (by decide)
  have hE_0_74_2 : ∀ j : Int, w_ei w1 (w_ar ws (n_v vs 0) 74) j = w_ei w2 (w_ar ws (n_v vs 0) 74) j := fun j => s2.1 _ _
  have hE_0_75_1 : ∀ j : Int, w_ei ws (w_ar ws (n_v vs 0) 75) j = w_ei w1 (w_ar ws (n_v vs 0) 75) j := el_kp s1.1 r17 cr_0_75 (by decide)
  have hE_0_75_2 : ∀ j : Int, w_ei w1 (w_ar ws (n_v vs 0) 75) j = w_ei w2 (w_ar ws (n_v vs 0) 75) j := fun j => s2.1 _ _
  have hE_0_96_1 : ∀ j : Int, w_ei ws (w_ar ws (n_v vs 0) 96) j = w_ei w1 (w_ar ws (n_v vs 0) 96) j := el_kp s1.1 r17 cr_0_96 (by decide)
  have hE_0_96_2 : ∀ j : Int, w_ei w1 (w_ar ws (n_v vs 0) 96) j = w_ei w2 (w_ar ws (n_v vs 0) 96) j := fun j => s2.1 _ _
  have hE_0_122_1 : ∀ j : Int, 0 ≤ j → (j = v_iv (n_v vs 19) → w_ei ws (w_ar ws (n_v vs 0) 122) j = v_iv (n_v vs 6)) ∧ (j ≠ v_iv (n_v vs 19) → w_ei ws (w_ar ws (n_v vs 0) 122) j = w_ei w1 (w_ar ws (n_v vs 0) 122) j) := fun j hj => ⟨fun h => by unfold w_ei; rw [s1.1, if_pos ⟨ad_17.symm, by rw [h]⟩], fun h => by unfold w_ei; rw [s1.1, if_neg (fun e => h (by have := e.2; omega))]⟩
  have hE_0_122_2 : ∀ j : Int, w_ei w1 (w_ar ws (n_v vs 0) 122) j = w_ei w2 (w_ar ws (n_v vs 0) 122) j := fun j => s2.1 _ _
  have hE_0_123_1 : ∀ j : Int, w_ei ws (w_ar ws (n_v vs 0) 123) j = w_ei w1 (w_ar ws (n_v vs 0) 123) j := el_kp s1.1 r17 cr_0_123 (by decide)
  have hE_0_123_2 : ∀ j : Int, w_ei w1 (w_ar ws (n_v vs 0) 123) j = w_ei w2 (w_ar ws (n_v vs 0) 123) j := fun j => s2.1 _ _
  have kz_0_31 := fdq_145 hD hth r0
  have kz_0_32 := fdq_140 hD hth r0
  have kz_0_121 := fdq_242 hD hth r0
  have nf0 : fc_1 PRD (20, [1, 20], [60, 3, 5, 291, 31, 32, 121, 33, 34, 35, 122, 96]) ws (vs) := by
    refine ⟨nf_in hl rfl, sgq_1257 ?_⟩
    · show SHL (w_fi ws (n_v vs 1) 31) (w_fi ws (n_v vs 1) 32) (w_fi ws (n_v vs 1) 121) (w_ei ws (w_ar ws (n_v vs 1) 33)) (w_ei ws (w_ar ws (n_v vs 1) 34)) (w_ei ws (w_ar ws (n_v vs 1) 35)) (w_ei ws (w_ar ws (n_v vs 1) 122)) (w_ei ws (w_ar ws (n_v vs 1) 96)) (v_iv (n_v vs 20))
      rw [q1]
      exact vc_Mo_shift_32_0 (v_iv (n_v vs 5)) (v_iv (n_v vs 6)) (v_iv (n_v vs 7)) (v_iv (n_v vs 8)) (v_iv (n_v vs 11)) (v_iv (n_v vs 12)) (v_iv (n_v vs 13)) (v_iv (n_v vs 14)) (v_iv (n_v vs 15)) (v_iv (n_v vs 16)) (v_iv (n_v vs 19)) (v_iv (n_v vs 20)) (w_ei ws (w_ar ws (n_v vs 0) 33)) (w_ei ws (w_ar ws (n_v vs 0) 34)) (w_fi ws (n_v vs 0) 31) (w_fi ws (n_v vs 0) 32) (w_ei ws (w_ar ws (n_v vs 0) 74)) (w_ei ws (w_ar ws (n_v vs 0) 75)) (w_ei ws (w_ar ws (n_v vs 0) 96)) (w_ei ws (w_ar ws (n_v vs 0) 123)) (w_ei w1 (w_ar ws (n_v vs 0) 33)) (w_ei w1 (w_ar ws (n_v vs 0) 34)) (w_fi w1 (n_v vs 0) 31) (w_fi w1 (n_v vs 0) 32) (w_ei w1 (w_ar ws (n_v vs 0) 74)) (w_ei w1 (w_ar ws (n_v vs 0) 75)) (w_ei w1 (w_ar ws (n_v vs 0) 96)) (w_ei w1 (w_ar ws (n_v vs 0) 123)) (w_fi w2 (n_v vs 0) 121) (w_ei w2 (w_ar ws (n_v vs 0) 33)) (w_ei w2 (w_ar ws (n_v vs 0) 34)) (w_fi w2 (n_v vs 0) 31) (w_fi w2 (n_v vs 0) 32) (w_ei w2 (w_ar ws (n_v vs 0) 35)) (w_ei w2 (w_ar ws (n_v vs 0) 122)) (w_ei w2 (w_ar ws (n_v vs 0) 96)) (w_ei w2 (w_ar ws (n_v vs 0) 74)) (w_ei w2 (w_ar ws (n_v vs 0) 75)) (w_ei w2 (w_ar ws (n_v vs 0) 123)) (w_fi ws (n_v vs 0) 121) (w_fi w1 (n_v vs 0) 121) (w_ei ws (w_ar ws (n_v vs 0) 35)) (w_ei w1 (w_ar ws (n_v vs 0) 35)) (w_ei ws (w_ar ws (n_v vs 0) 122)) (w_ei w1 (w_ar ws (n_v vs 0) 122)) k5 k6 k7 k8 k11 k12 k13 k14 k15 k16 k19 k20 d1 d4 f0 f2 f18 f19 g20 f23 fe_0_31_1 fe_0_32_1 fe_0_121_1 fe_0_31_2 fe_0_32_2 fe_0_121_2 hE_0_33_1 hE_0_33_2 hE_0_34_1 hE_0_34_2 hE_0_35_1 hE_0_35_2 hE_0_74_1 hE_0_74_2 hE_0_75_1 hE_0_75_2 hE_0_96_1 hE_0_96_2 hE_0_122_1 hE_0_122_2 hE_0_123_1 hE_0_123_2 kz_0_31 kz_0_32 kz_0_121
  have nf1 : fc_1 PRD (20, [1, 20], [60, 0, 3, 824, 74, 75, 96]) ws (vs) := by
    refine ⟨nf_in hl rfl, sgq_1258 ?_⟩
    · show SPKs (w_ei ws (w_ar ws (n_v vs 1) 74)) (w_ei ws (w_ar ws (n_v vs 1) 75)) (w_ei ws (w_ar ws (n_v vs 1) 96)) (v_iv (n_v vs 20))
      rw [q1]
      exact vc_Mo_shift_32_1 (v_iv (n_v vs 5)) (v_iv (n_v vs 20)) (w_ei ws (w_ar ws (n_v vs 0) 33)) (w_ei ws (w_ar ws (n_v vs 0) 34)) (w_fi ws (n_v vs 0) 31) (w_fi ws (n_v vs 0) 32) (w_ei ws (w_ar ws (n_v vs 0) 74)) (w_ei ws (w_ar ws (n_v vs 0) 75)) (w_ei ws (w_ar ws (n_v vs 0) 96)) (w_ei ws (w_ar ws (n_v vs 0) 123)) (w_ei w1 (w_ar ws (n_v vs 0) 33)) (w_ei w1 (w_ar ws (n_v vs 0) 34)) (w_fi w1 (n_v vs 0) 31) (w_fi w1 (n_v vs 0) 32) (w_ei w1 (w_ar ws (n_v vs 0) 74)) (w_ei w1 (w_ar ws (n_v vs 0) 75)) (w_ei w1 (w_ar ws (n_v vs 0) 96)) (w_ei w1 (w_ar ws (n_v vs 0) 123)) (w_ei w2 (w_ar ws (n_v vs 0) 33)) (w_ei w2 (w_ar ws (n_v vs 0) 34)) (w_fi w2 (n_v vs 0) 31) (w_fi w2 (n_v vs 0) 32) (w_ei w2 (w_ar ws (n_v vs 0) 35)) (w_ei w2 (w_ar ws (n_v vs 0) 122)) (w_ei w2 (w_ar ws (n_v vs 0) 96)) (w_ei w2 (w_ar ws (n_v vs 0) 74)) (w_ei w2 (w_ar ws (n_v vs 0) 75)) (w_ei w2 (w_ar ws (n_v vs 0) 123)) (w_fi ws (n_v vs 0) 121) (w_fi w1 (n_v vs 0) 121) (w_ei ws (w_ar ws (n_v vs 0) 35)) (w_ei w1 (w_ar ws (n_v vs 0) 35)) (w_ei w1 (w_ar ws (n_v vs 0) 122)) k5 k20 f0 f25 fe_0_31_1 fe_0_32_1 fe_0_121_1 fe_0_31_2 fe_0_32_2 hE_0_33_1 hE_0_33_2 hE_0_34_1 hE_0_34_2 hE_0_35_1 hE_0_35_2 hE_0_74_1 hE_0_74_2 hE_0_75_1 hE_0_75_2 hE_0_96_1 hE_0_96_2 hE_0_122_2 hE_0_123_1 hE_0_123_2 kz_0_31 kz_0_32 kz_0_121
  have nf2 : fc_1 PRD (20, [1, 20], [60, 1, 2, 827, 31, 123, 96]) ws (vs) := by
    refine ⟨nf_in hl rfl, sgq_1259 ?_⟩
    · show UND (w_fi ws (n_v vs 1) 31) (w_ei ws (w_ar ws (n_v vs 1) 123)) (w_ei ws (w_ar ws (n_v vs 1) 96)) (v_iv (n_v vs 20))
      rw [q1]
      exact vc_Mo_shift_32_2 (v_iv (n_v vs 5)) (v_iv (n_v vs 20)) (w_ei ws (w_ar ws (n_v vs 0) 33)) (w_ei ws (w_ar ws (n_v vs 0) 34)) (w_fi ws (n_v vs 0) 31) (w_fi ws (n_v vs 0) 32) (w_ei ws (w_ar ws (n_v vs 0) 74)) (w_ei ws (w_ar ws (n_v vs 0) 75)) (w_ei ws (w_ar ws (n_v vs 0) 96)) (w_ei ws (w_ar ws (n_v vs 0) 123)) (w_ei w1 (w_ar ws (n_v vs 0) 33)) (w_ei w1 (w_ar ws (n_v vs 0) 34)) (w_fi w1 (n_v vs 0) 31) (w_fi w1 (n_v vs 0) 32) (w_ei w1 (w_ar ws (n_v vs 0) 74)) (w_ei w1 (w_ar ws (n_v vs 0) 75)) (w_ei w1 (w_ar ws (n_v vs 0) 96)) (w_ei w1 (w_ar ws (n_v vs 0) 123)) (w_ei w2 (w_ar ws (n_v vs 0) 33)) (w_ei w2 (w_ar ws (n_v vs 0) 34)) (w_fi w2 (n_v vs 0) 31) (w_fi w2 (n_v vs 0) 32) (w_ei w2 (w_ar ws (n_v vs 0) 35)) (w_ei w2 (w_ar ws (n_v vs 0) 122)) (w_ei w2 (w_ar ws (n_v vs 0) 96)) (w_ei w2 (w_ar ws (n_v vs 0) 74)) (w_ei w2 (w_ar ws (n_v vs 0) 75)) (w_ei w2 (w_ar ws (n_v vs 0) 123)) (w_fi ws (n_v vs 0) 121) (w_fi w1 (n_v vs 0) 121) (w_ei ws (w_ar ws (n_v vs 0) 35)) (w_ei w1 (w_ar ws (n_v vs 0) 35)) (w_ei w1 (w_ar ws (n_v vs 0) 122)) k5 k20 f0 f26 fe_0_31_1 fe_0_32_1 fe_0_121_1 fe_0_31_2 fe_0_32_2 hE_0_33_1 hE_0_33_2 hE_0_34_1 hE_0_34_2 hE_0_35_1 hE_0_35_2 hE_0_74_1 hE_0_74_2 hE_0_75_1 hE_0_75_2 hE_0_96_1 hE_0_96_2 hE_0_122_2 hE_0_123_1 hE_0_123_2 kz_0_31 kz_0_32 kz_0_121
  have nf3 : fc_1 PRD (20, [1, 20], [60, 1, 2, 830, 121, 122, 96]) ws (vs) := by
    refine ⟨nf_in hl rfl, sgq_1260 ?_⟩
    · show ULU (w_fi ws (n_v vs 1) 121) (w_ei ws (w_ar ws (n_v vs 1) 122)) (w_ei ws (w_ar ws (n_v vs 1) 96)) (v_iv (n_v vs 20))
      rw [q1]
      exact vc_Mo_shift_32_3 (v_iv (n_v vs 5)) (v_iv (n_v vs 6)) (v_iv (n_v vs 7)) (v_iv (n_v vs 8)) (v_iv (n_v vs 11)) (v_iv (n_v vs 12)) (v_iv (n_v vs 13)) (v_iv (n_v vs 14)) (v_iv (n_v vs 15)) (v_iv (n_v vs 16)) (v_iv (n_v vs 19)) (v_iv (n_v vs 20)) (w_ei ws (w_ar ws (n_v vs 0) 33)) (w_ei ws (w_ar ws (n_v vs 0) 34)) (w_fi ws (n_v vs 0) 31) (w_fi ws (n_v vs 0) 32) (w_ei ws (w_ar ws (n_v vs 0) 74)) (w_ei ws (w_ar ws (n_v vs 0) 75)) (w_ei ws (w_ar ws (n_v vs 0) 96)) (w_ei ws (w_ar ws (n_v vs 0) 123)) (w_ei w1 (w_ar ws (n_v vs 0) 33)) (w_ei w1 (w_ar ws (n_v vs 0) 34)) (w_fi w1 (n_v vs 0) 31) (w_fi w1 (n_v vs 0) 32) (w_ei w1 (w_ar ws (n_v vs 0) 74)) (w_ei w1 (w_ar ws (n_v vs 0) 75)) (w_ei w1 (w_ar ws (n_v vs 0) 96)) (w_ei w1 (w_ar ws (n_v vs 0) 123)) (w_fi w2 (n_v vs 0) 121) (w_ei w2 (w_ar ws (n_v vs 0) 33)) (w_ei w2 (w_ar ws (n_v vs 0) 34)) (w_fi w2 (n_v vs 0) 31) (w_fi w2 (n_v vs 0) 32) (w_ei w2 (w_ar ws (n_v vs 0) 35)) (w_ei w2 (w_ar ws (n_v vs 0) 122)) (w_ei w2 (w_ar ws (n_v vs 0) 96)) (w_ei w2 (w_ar ws (n_v vs 0) 74)) (w_ei w2 (w_ar ws (n_v vs 0) 75)) (w_ei w2 (w_ar ws (n_v vs 0) 123)) (w_fi ws (n_v vs 0) 121) (w_fi w1 (n_v vs 0) 121) (w_ei ws (w_ar ws (n_v vs 0) 35)) (w_ei w1 (w_ar ws (n_v vs 0) 35)) (w_ei ws (w_ar ws (n_v vs 0) 122)) (w_ei w1 (w_ar ws (n_v vs 0) 122)) k5 k6 k7 k8 k11 k12 k13 k14 k15 k16 k19 k20 d0 d1 d3 f0 f2 f18 f19 g20 f23 f28 fe_0_31_1 fe_0_32_1 fe_0_121_1 fe_0_31_2 fe_0_32_2 fe_0_121_2 hE_0_33_1 hE_0_33_2 hE_0_34_1 hE_0_34_2 hE_0_35_1 hE_0_35_2 hE_0_74_1 hE_0_74_2 hE_0_75_1 hE_0_75_2 hE_0_96_1 hE_0_96_2 hE_0_122_1 hE_0_122_2 hE_0_123_1 hE_0_123_2 kz_0_31 kz_0_32 kz_0_121
  refine ⟨(fun _ h => (by cases h)), [], trivial, ?_, (fun _ h => (by cases h))⟩
  rw [List.append_nil]
  exact List.forall_mem_cons.mpr ⟨⟨show (20 : Nat) < 100 from by decide, nf0⟩, List.forall_mem_cons.mpr ⟨⟨show (20 : Nat) < 100 from by decide, nf1⟩, List.forall_mem_cons.mpr ⟨⟨show (20 : Nat) < 100 from by decide, nf2⟩, List.forall_mem_cons.mpr ⟨⟨show (20 : Nat) < 100 from by decide, nf3⟩, (fun _ h => (by cases h))⟩⟩⟩⟩
set_option maxHeartbeats 4000000 in
theorem vc_Mo_shift_33_r0 (x5 : Int) (x6 : Int) (x7 : Int) (x8 : Int) (x11 : Int) (x12 : Int) (x15 : Int) (x17 : Int) (upperNode_0 : Int → Int) (upper_0 : Int) (pt_0 : Int → Int) (ph_0 : Int → Int) (pn_0 : Int) (pm_0 : Int) (alive_0 : Int → Int) (order_0 : Int → Int) (k5 : 3 ≤ x5 ∧ x5 ≤ 24) (k6 : 0 ≤ x6 ∧ x6 ≤ 24) (k7 : 0 ≤ x7 ∧ x7 ≤ 29) (k8 : 0 ≤ x8 ∧ x8 ≤ 29) (k11 : (-30) ≤ x11 ∧ x11 ≤ 28) (k12 : 0 ≤ x12 ∧ x12 ≤ 29) (k15 : 1 ≤ x15 ∧ x15 ≤ 59) (k17 : 2 ≤ x17 ∧ x17 ≤ 60) (d0 : x15 + 1 ≤ x17 ∧ x17 ≤ x15 + 1) (d1 : x12 + (-27) ≤ x17 ∧ x17 ≤ x12 + 31) (f3 : x15 = x12 - x11) (f7 : SD2 (pn_0) (pm_0) (upper_0) (pt_0) (ph_0) (alive_0) (upperNode_0) (order_0) (x5) (x6) (x7) (x8) (x12)) (f8 : x11 = ((x8 - x7) - 1)) (kz_0_31 : 0 ≤ pn_0 ∧ pn_0 ≤ 25) (kz_0_32 : 0 ≤ pm_0 ∧ pm_0 ≤ 80) (kz_0_121 : 0 ≤ upper_0 ∧ upper_0 ≤ 30) : 2 ≤ x17 ∧ x17 ≤ 29 := by
  first
    | (have h := sd2_len ‹SD2 _ _ _ _ _ _ _ _ _ _ _ _ _›; omega)
def o_Mo_shift_33 : or_T := (465, 19, [(0, (2, 0, 0, [165])), (1, (2, 0, 0, [165])), (5, (0, 3, 24, [])), (6, (0, 0, 24, [])), (7, (0, 0, 29, [])), (8, (0, 0, 29, [])), (11, (0, -30, 28, [])), (12, (0, 0, 29, [])), (13, (0, 1, 30, [])), (14, (2, 0, 0, [253])), (15, (0, 1, 59, [])), (16, (0, 1, 1, [])), (17, (0, 2, 60, [])), (18, (0, 0, 24, []))], [(10, [18, 14, 12], []), (9, [14, 1], [122]), (1, [17, 15, 16], []), (2, [15, 12, 11], []), (7, [12, 13], [2]), (9, [13, 1], [121]), (20, [1], [60, 2, 2, 75, 31, 32, 33, 34]), (20, [1, 5, 6, 7, 8, 12], [60, 3, 5, 296, 31, 32, 121, 33, 34, 35, 122, 96]), (20, [11, 8, 7], [50, 0, 0, 1, 2, 1, 0, 5, 6, 5, 2, 1, 1, 1, 2, 0, 1]), (20, [1, 5], [60, 0, 3, 826, 74, 75, 96]), (20, [1, 5], [60, 1, 2, 828, 31, 123, 96]), (20, [1], [60, 1, 1, 835, 31, 96]), (20, [1, 5], [60, 1, 2, 830, 121, 122, 96]), (20, [1], [60, 1, 1, 823, 31, 96]), (24, [0, 1], [])], [(17, (0, 2, 29, []))], [], [], [], [(17, 15, 1, 1), (17, 12, -27, 31), (17, 13, -4294967296, 30), (15, 12, -28, 30), (15, 13, -4294967296, 29), (12, 13, -4294967296, -1), (8, 12, -4294967296, 0), (11, 8, -4294967296, -1), (11, 12, -4294967296, -1)])
theorem oo_Mo_shift_33 {kA : Nat → ClassId} : or_ok PRD kA GG o_Mo_shift_33 := by
  refine or_mk fun A ta ws vs hD hth hl => ?_
  intro t0 r0 t1 r1 t5 k5 t6 k6 t7 k7 t8 k8 t11 k11 t12 k12 t13 k13 t14 r14 t15 k15 t16 k16 t17 k17 t18 k18 d0 d1 d2 d3 d4 d5 d6 d7 d8 f0 f1 f2 f3 f4 f5 f6 f7 f8 f9 f10 f11 f12 f13 f14
  replace f7 := shm_1273 f7
  replace f14 := shm_5 f14
  have q1 : n_v vs 1 = n_v vs 0 := f14.symm
  simp only [q1] at f7
  have kz_0_31 := fdq_145 hD hth r0
  have kz_0_32 := fdq_140 hD hth r0
  have kz_0_121 := fdq_242 hD hth r0
  have hrf0 : 2 ≤ v_iv (n_v vs 17) ∧ v_iv (n_v vs 17) ≤ 29 := vc_Mo_shift_33_r0 (v_iv (n_v vs 5)) (v_iv (n_v vs 6)) (v_iv (n_v vs 7)) (v_iv (n_v vs 8)) (v_iv (n_v vs 11)) (v_iv (n_v vs 12)) (v_iv (n_v vs 15)) (v_iv (n_v vs 17)) (w_ei ws (w_ar ws (n_v vs 0) 122)) (w_fi ws (n_v vs 0) 121) (w_ei ws (w_ar ws (n_v vs 0) 33)) (w_ei ws (w_ar ws (n_v vs 0) 34)) (w_fi ws (n_v vs 0) 31) (w_fi ws (n_v vs 0) 32) (w_ei ws (w_ar ws (n_v vs 0) 35)) (w_ei ws (w_ar ws (n_v vs 0) 96)) k5 k6 k7 k8 k11 k12 k15 k17 d0 d1 (shm_14 f3) f7 (shm_1270 f8) kz_0_31 kz_0_32 kz_0_121
  have rf17 : tv_ok ta (0, 2, 29, []) (n_v vs 17) := tv_in t17 (by first | omega | grind) (by first | omega | grind)
  refine ⟨List.forall_mem_cons.mpr ⟨rf17, (fun _ h => (by cases h))⟩, [], trivial, ?_, (fun _ h => (by cases h))⟩
  rw [List.append_nil]
  exact (fun _ h => (by cases h))
set_option maxHeartbeats 4000000 in
theorem vc_Mo_shift_34_0 (x5 : Int) (x6 : Int) (x7 : Int) (x8 : Int) (x11 : Int) (x12 : Int) (x13 : Int) (x15 : Int) (x17 : Int) (x18 : Int) (x19 : Int) (pt_0 : Int → Int) (ph_0 : Int → Int) (pn_0 : Int) (pm_0 : Int) (nx_0 : Int → Int) (ny_0 : Int → Int) (order_0 : Int → Int) (under_0 : Int → Int) (upperNode_1 : Int → Int) (upper_1 : Int) (pt_1 : Int → Int) (ph_1 : Int → Int) (pn_1 : Int) (pm_1 : Int) (alive_1 : Int → Int) (order_1 : Int → Int) (nx_1 : Int → Int) (ny_1 : Int → Int) (under_1 : Int → Int) (upper_0 : Int) (alive_0 : Int → Int) (upperNode_0 : Int → Int) (k5 : 3 ≤ x5 ∧ x5 ≤ 24) (k6 : 0 ≤ x6 ∧ x6 ≤ 24) (k7 : 0 ≤ x7 ∧ x7 ≤ 29) (k8 : 0 ≤ x8 ∧ x8 ≤ 29) (k11 : (-30) ≤ x11 ∧ x11 ≤ 28) (k12 : 0 ≤ x12 ∧ x12 ≤ 29) (k13 : 1 ≤ x13 ∧ x13 ≤ 30) (k15 : 1 ≤ x15 ∧ x15 ≤ 59) (k17 : 2 ≤ x17 ∧ x17 ≤ 29) (k18 : 0 ≤ x18 ∧ x18 ≤ 24) (k19 : 1 ≤ x19 ∧ x19 ≤ 30) (d0 : x12 + 1 ≤ x19 ∧ x19 ≤ x12 + 1) (d1 : x13 + (-4294967296) ≤ x19 ∧ x19 ≤ x13 + 0) (d2 : x15 + 1 ≤ x17 ∧ x17 ≤ x15 + 1) (d5 : x13 + (-4294967296) ≤ x12 ∧ x12 ≤ x13 + (-1)) (f0 : x19 = x12 + 1) (f2 : x11 = ((x8 - x7) - 1)) (h9 : x18 = upperNode_1 (x12)) (f12 : x15 = x12 - x11) (g14 : x13 = upper_1) (f16 : SD2 (pn_1) (pm_1) (upper_1) (pt_1) (ph_1) (alive_1) (upperNode_1) (order_1) (x5) (x6) (x7) (x8) (x12)) (fe_0_31_1 : pn_0 = pn_1) (fe_0_32_1 : pm_0 = pm_1) (fe_0_121_1 : upper_0 = upper_1) (hE_0_33_1 : ∀ j : Int, pt_0 j = pt_1 j) (hE_0_34_1 : ∀ j : Int, ph_0 j = ph_1 j) (hE_0_35_1 : ∀ j : Int, alive_0 j = alive_1 j) (hE_0_74_1 : ∀ j : Int, nx_0 j = nx_1 j) (hE_0_75_1 : ∀ j : Int, ny_0 j = ny_1 j) (hE_0_96_1 : ∀ j : Int, order_0 j = order_1 j) (hE_0_122_1 : ∀ j : Int, 0 ≤ j → (j = x17 → upperNode_0 j = x18) ∧ (j ≠ x17 → upperNode_0 j = upperNode_1 j)) (hE_0_123_1 : ∀ j : Int, under_0 j = under_1 j) (kz_0_31 : 0 ≤ pn_0 ∧ pn_0 ≤ 25) (kz_0_32 : 0 ≤ pm_0 ∧ pm_0 ≤ 80) (kz_0_121 : 0 ≤ upper_0 ∧ upper_0 ≤ 30) : SD2 (pn_0) (pm_0) (upper_0) (pt_0) (ph_0) (alive_0) (upperNode_0) (order_0) (x5) (x6) (x7) (x8) (x19) := by
  subst fe_0_31_1
  subst fe_0_32_1
  subst fe_0_121_1
  have e_hE_0_33_1 := funext hE_0_33_1; subst e_hE_0_33_1
  have e_hE_0_34_1 := funext hE_0_34_1; subst e_hE_0_34_1
  have e_hE_0_35_1 := funext hE_0_35_1; subst e_hE_0_35_1
  have e_hE_0_74_1 := funext hE_0_74_1; subst e_hE_0_74_1
  have e_hE_0_75_1 := funext hE_0_75_1; subst e_hE_0_75_1
  have e_hE_0_96_1 := funext hE_0_96_1; subst e_hE_0_96_1
  have e_hE_0_123_1 := funext hE_0_123_1; subst e_hE_0_123_1
  first
    | exact sd2_step ‹SD2 _ _ _ _ _ _ _ _ _ _ _ _ _› (by omega) (by omega) (by assumption) (by omega) (by assumption) (by omega)
set_option maxHeartbeats 4000000 in
theorem vc_Mo_shift_34_1 (x5 : Int) (x6 : Int) (x7 : Int) (x8 : Int) (x12 : Int) (x13 : Int) (x17 : Int) (x18 : Int) (x19 : Int) (pt_0 : Int → Int) (ph_0 : Int → Int) (pn_0 : Int) (pm_0 : Int) (nx_0 : Int → Int) (ny_0 : Int → Int) (order_0 : Int → Int) (under_0 : Int → Int) (upperNode_1 : Int → Int) (upper_1 : Int) (pt_1 : Int → Int) (ph_1 : Int → Int) (pn_1 : Int) (pm_1 : Int) (alive_1 : Int → Int) (order_1 : Int → Int) (nx_1 : Int → Int) (ny_1 : Int → Int) (under_1 : Int → Int) (upper_0 : Int) (alive_0 : Int → Int) (upperNode_0 : Int → Int) (k5 : 3 ≤ x5 ∧ x5 ≤ 24) (k6 : 0 ≤ x6 ∧ x6 ≤ 24) (k7 : 0 ≤ x7 ∧ x7 ≤ 29) (k8 : 0 ≤ x8 ∧ x8 ≤ 29) (k12 : 0 ≤ x12 ∧ x12 ≤ 29) (k13 : 1 ≤ x13 ∧ x13 ≤ 30) (k17 : 2 ≤ x17 ∧ x17 ≤ 29) (k18 : 0 ≤ x18 ∧ x18 ≤ 24) (k19 : 1 ≤ x19 ∧ x19 ≤ 30) (d0 : x12 + 1 ≤ x19 ∧ x19 ≤ x12 + 1) (d1 : x13 + (-4294967296) ≤ x19 ∧ x19 ≤ x13 + 0) (d5 : x13 + (-4294967296) ≤ x12 ∧ x12 ≤ x13 + (-1)) (h9 : x18 = upperNode_1 (x12)) (g14 : x13 = upper_1) (f16 : SD2 (pn_1) (pm_1) (upper_1) (pt_1) (ph_1) (alive_1) (upperNode_1) (order_1) (x5) (x6) (x7) (x8) (x12)) (f21 : ULU (upper_1) (upperNode_1) (order_1) (x5)) (fe_0_31_1 : pn_0 = pn_1) (fe_0_32_1 : pm_0 = pm_1) (fe_0_121_1 : upper_0 = upper_1) (hE_0_33_1 : ∀ j : Int, pt_0 j = pt_1 j) (hE_0_34_1 : ∀ j : Int, ph_0 j = ph_1 j) (hE_0_35_1 : ∀ j : Int, alive_0 j = alive_1 j) (hE_0_74_1 : ∀ j : Int, nx_0 j = nx_1 j) (hE_0_75_1 : ∀ j : Int, ny_0 j = ny_1 j) (hE_0_96_1 : ∀ j : Int, order_0 j = order_1 j) (hE_0_122_1 : ∀ j : Int, 0 ≤ j → (j = x17 → upperNode_0 j = x18) ∧ (j ≠ x17 → upperNode_0 j = upperNode_1 j)) (hE_0_123_1 : ∀ j : Int, under_0 j = under_1 j) (kz_0_31 : 0 ≤ pn_0 ∧ pn_0 ≤ 25) (kz_0_32 : 0 ≤ pm_0 ∧ pm_0 ≤ 80) (kz_0_121 : 0 ≤ upper_0 ∧ upper_0 ≤ 30) : ULU (upper_0) (upperNode_0) (order_0) (x5) := by
  subst fe_0_31_1
  subst fe_0_32_1
  subst fe_0_121_1
  have e_hE_0_33_1 := funext hE_0_33_1; subst e_hE_0_33_1
  have e_hE_0_34_1 := funext hE_0_34_1; subst e_hE_0_34_1
  have e_hE_0_35_1 := funext hE_0_35_1; subst e_hE_0_35_1
  have e_hE_0_74_1 := funext hE_0_74_1; subst e_hE_0_74_1
  have e_hE_0_75_1 := funext hE_0_75_1; subst e_hE_0_75_1
  have e_hE_0_96_1 := funext hE_0_96_1; subst e_hE_0_96_1
  have e_hE_0_123_1 := funext hE_0_123_1; subst e_hE_0_123_1
  first
    | (have hl := sd2_len ‹SD2 _ _ _ _ _ _ _ _ _ _ _ _ _›
       exact ulu_mv (r := x12) ‹ULU _ _ _ _› (by assumption) (by omega) (by omega) (by assumption))
def o_Mo_shift_34 : or_T := (438, 20, [(0, (2, 0, 0, [165])), (5, (0, 3, 24, [])), (6, (0, 0, 24, [])), (7, (0, 0, 29, [])), (8, (0, 0, 29, [])), (11, (0, -30, 28, [])), (12, (0, 0, 29, [])), (13, (0, 1, 30, [])), (14, (2, 0, 0, [253])), (15, (0, 1, 59, [])), (17, (0, 2, 29, [])), (18, (0, 0, 24, [])), (19, (0, 1, 30, []))], [(6, [19, 12], [1]), (20, [11, 8, 7], [50, 0, 0, 1, 2, 1, 0, 5, 6, 5, 2, 1, 1, 1, 2, 0, 1]), (24, [0, 1], []), (100, [14, 17, 18], []), (10, [18, 14, 12], []), (9, [14, 1], [122]), (2, [15, 12, 11], []), (9, [13, 1], [121]), (20, [1, 5, 6, 7, 8, 12], [60, 3, 5, 296, 31, 32, 121, 33, 34, 35, 122, 96]), (20, [1, 5], [60, 1, 2, 830, 121, 122, 96])], [], [], [(20, [1, 5, 6, 7, 8, 19], [60, 3, 5, 296, 31, 32, 121, 33, 34, 35, 122, 96]), (20, [1, 5], [60, 1, 2, 830, 121, 122, 96])], [], [(19, 12, 1, 1), (19, 13, -4294967296, 0), (17, 15, 1, 1), (12, 13, -4294967296, -1)])
theorem oo_Mo_shift_34 {kA : Nat → ClassId} : or_ok PRD kA GG o_Mo_shift_34 := by
  refine or_mk fun A ta ws vs hD hth hl => ?_
  intro t0 r0 t5 k5 t6 k6 t7 k7 t8 k8 t11 k11 t12 k12 t13 k13 t14 r14 t15 k15 t17 k17 t18 k18 t19 k19 d0 d1 d2 d5 f0 f2 f7 ta1 w1 le1 s1 f9 f10 f12 f14 f16 f21
  replace f0 := shm_4 f0
  replace f2 := shm_1270 f2
  replace f7 := shm_5 f7
  have s1 : (∀ b j, w_el ws b j = if b = v_ad (n_v vs 14) ∧ j = (v_iv (n_v vs 17)).toNat then v_iv (n_v vs 18) else w_el w1 b j) ∧ ∀ b k, w_fd ws b k = w_fd w1 b k := s1.2
  replace f9 := shm_107 f9
  replace f10 := shm_1019 f10
  replace f12 := shm_14 f12
  replace f14 := shm_1024 f14
  replace f16 := shm_1273 f16
  replace f21 := shm_1260 f21
  have q1 : n_v vs 1 = n_v vs 0 := f7.symm
  simp only [q1] at f10 f14 f16 f21
  have ar_0_33_1 : w_ar w1 (n_v vs 0) 33 = w_ar ws (n_v vs 0) 33 := congrArg v_ad (s1.2 _ _).symm
  have cr_0_33 := fdq_117 hD hth r0
  have ar_0_34_1 : w_ar w1 (n_v vs 0) 34 = w_ar ws (n_v vs 0) 34 := congrArg v_ad (s1.2 _ _).symm
  have cr_0_34 := fdq_118 hD hth r0
  have ar_0_35_1 : w_ar w1 (n_v vs 0) 35 = w_ar ws (n_v vs 0) 35 := congrArg v_ad (s1.2 _ _).symm
  have cr_0_35 := fdq_132 hD hth r0
  have ar_0_74_1 : w_ar w1 (n_v vs 0) 74 = w_ar ws (n_v vs 0) 74 := congrArg v_ad (s1.2 _ _).symm
  have cr_0_74 := fdq_164 hD hth r0
  have ar_0_75_1 : w_ar w1 (n_v vs 0) 75 = w_ar ws (n_v vs 0) 75 := congrArg v_ad (s1.2 _ _).symm
  have cr_0_75 := fdq_165 hD hth r0
  have ar_0_96_1 : w_ar w1 (n_v vs 0) 96 = w_ar ws (n_v vs 0) 96 := congrArg v_ad (s1.2 _ _).symm
  have cr_0_96 := fdq_166 hD hth r0
  have ar_0_122_1 : w_ar w1 (n_v vs 0) 122 = w_ar ws (n_v vs 0) 122 := congrArg v_ad (s1.2 _ _).symm
  have ar_0_123_1 : w_ar w1 (n_v vs 0) 123 = w_ar ws (n_v vs 0) 123 := congrArg v_ad (s1.2 _ _).symm
  have cr_0_123 := fdq_281 hD hth r0
  have ad_14 : v_ad (n_v vs 14) = w_ar ws (n_v vs 0) 122 := (congrArg v_ad f10).trans ar_0_122_1
  simp only [ad_14] at f9
  have h9 : v_iv (n_v vs 18) = w_ei w1 (w_ar ws (n_v vs 0) 122) (v_iv (n_v vs 12)) := f9
  have g14 : v_iv (n_v vs 13) = w_fi w1 (n_v vs 0) 121 := congrArg v_iv f14
  simp only [ar_0_33_1, ar_0_34_1, ar_0_35_1, ar_0_96_1, ar_0_122_1, ar_0_74_1, ar_0_75_1, ar_0_123_1] at f16 f21
  have fe_0_31_1 : w_fi ws (n_v vs 0) 31 = w_fi w1 (n_v vs 0) 31 := congrArg v_iv (s1.2 _ _)
  have fe_0_32_1 : w_fi ws (n_v vs 0) 32 = w_fi w1 (n_v vs 0) 32 := congrArg v_iv (s1.2 _ _)
  have fe_0_121_1 : w_fi ws (n_v vs 0) 121 = w_fi w1 (n_v vs 0) 121 := congrArg v_iv (s1.2 _ _)
  have hE_0_33_1 : ∀ j : Int, w_ei ws (w_ar ws (n_v vs 0) 33) j = w_ei w1 (w_ar ws (n_v vs 0) 33) j := el_kp s1.1 r14 cr_0_33 (by decide)
  have hE_0_34_1 : ∀ j : Int, w_ei ws (w_ar ws (n_v vs 0) 34) j = w_ei w1 (w_ar ws (n_v vs 0) 34) j := el_kp s1.1 r14 cr_0_34 (by decide)
  have hE_0_35_1 : ∀ j : Int, w_ei ws (w_ar ws (n_v vs 0) 35) j = w_ei w1 (w_ar ws (n_v vs 0) 35) j := el_kp s1.1 r14 cr_0_35 (by decide)
  have hE_0_74_1 : ∀ j : Int, w_ei ws (w_ar ws (n_v vs 0) 74) j = w_ei w1 (w_ar ws (n_v vs 0) 74) j := el_kp s1.1 r14 cr_0_74 (by decide)
  have hE_0_75_1 : ∀ j : Int, w_ei ws (w_ar ws (n_v vs 0) 75) j = w_ei w1 (w_ar ws (n_v vs 0) 75) j := el_kp s1.1 r14 cr_0_75 (by decide)
  have hE_0_96_1 : ∀ j : Int, w_ei ws (w_ar ws (n_v vs 0) 96) j = w_ei w1 (w_ar ws (n_v vs 0) 96) j := el_kp s1.1 r14 cr_0_96 (by decide)
  have hE_0_122_1 : ∀ j : Int, 0 ≤ j → (j = v_iv (n_v vs 17) → w_ei ws (w_ar ws (n_v vs 0) 122) j = v_iv (n_v vs 18)) ∧ (j ≠ v_iv (n_v vs 17) → w_ei ws (w_ar ws (n_v vs 0) 122) j = w_ei w1 (w_ar ws (n_v vs 0) 122) j) := fun j hj => ⟨fun h => by unfold w_ei; rw [s1.1, if_pos ⟨ad_14.symm, by rw [h]⟩], fun h => by unfold w_ei; rw [s1.1, if_neg (fun e => h (by have := e.2; omega))]⟩
  have hE_0_123_1 : ∀ j : Int, w_ei ws (w_ar ws (n_v vs 0) 123) j = w_ei w1 (w_ar ws (n_v vs 0) 123) j := el_kp s1.1 r14 cr_0_123 (by decide)
  have kz_0_31 := fdq_145 hD hth r0
  have kz_0_32 := fdq_140 hD hth r0
  have kz_0_121 := fdq_242 hD hth r0
  have nf0 : fc_1 PRD (20, [1, 5, 6, 7, 8, 19], [60, 3, 5, 296, 31, 32, 121, 33, 34, 35, 122, 96]) ws (vs) := by
    refine ⟨nf_in hl rfl, sgq_1273 ?_⟩
    · show SD2 (w_fi ws (n_v vs 1) 31) (w_fi ws (n_v vs 1) 32) (w_fi ws (n_v vs 1) 121) (w_ei ws (w_ar ws (n_v vs 1) 33)) (w_ei ws (w_ar ws (n_v vs 1) 34)) (w_ei ws (w_ar ws (n_v vs 1) 35)) (w_ei ws (w_ar ws (n_v vs 1) 122)) (w_ei ws (w_ar ws (n_v vs 1) 96)) (v_iv (n_v vs 5)) (v_iv (n_v vs 6)) (v_iv (n_v vs 7)) (v_iv (n_v vs 8)) (v_iv (n_v vs 19))
      rw [q1]
      exact vc_Mo_shift_34_0 (v_iv (n_v vs 5)) (v_iv (n_v vs 6)) (v_iv (n_v vs 7)) (v_iv (n_v vs 8)) (v_iv (n_v vs 11)) (v_iv (n_v vs 12)) (v_iv (n_v vs 13)) (v_iv (n_v vs 15)) (v_iv (n_v vs 17)) (v_iv (n_v vs 18)) (v_iv (n_v vs 19)) (w_ei ws (w_ar ws (n_v vs 0) 33)) (w_ei ws (w_ar ws (n_v vs 0) 34)) (w_fi ws (n_v vs 0) 31) (w_fi ws (n_v vs 0) 32) (w_ei ws (w_ar ws (n_v vs 0) 74)) (w_ei ws (w_ar ws (n_v vs 0) 75)) (w_ei ws (w_ar ws (n_v vs 0) 96)) (w_ei ws (w_ar ws (n_v vs 0) 123)) (w_ei w1 (w_ar ws (n_v vs 0) 122)) (w_fi w1 (n_v vs 0) 121) (w_ei w1 (w_ar ws (n_v vs 0) 33)) (w_ei w1 (w_ar ws (n_v vs 0) 34)) (w_fi w1 (n_v vs 0) 31) (w_fi w1 (n_v vs 0) 32) (w_ei w1 (w_ar ws (n_v vs 0) 35)) (w_ei w1 (w_ar ws (n_v vs 0) 96)) (w_ei w1 (w_ar ws (n_v vs 0) 74)) (w_ei w1 (w_ar ws (n_v vs 0) 75)) (w_ei w1 (w_ar ws (n_v vs 0) 123)) (w_fi ws (n_v vs 0) 121) (w_ei ws (w_ar ws (n_v vs 0) 35)) (w_ei ws (w_ar ws (n_v vs 0) 122)) k5 k6 k7 k8 k11 k12 k13 k15 k17 k18 k19 d0 d1 d2 d5 f0 f2 h9 f12 g14 f16 fe_0_31_1 fe_0_32_1 fe_0_121_1 hE_0_33_1 hE_0_34_1 hE_0_35_1 hE_0_74_1 hE_0_75_1 hE_0_96_1 hE_0_122_1 hE_0_123_1 kz_0_31 kz_0_32 kz_0_121
  have nf1 : fc_1 PRD (20, [1, 5], [60, 1, 2, 830, 121, 122, 96]) ws (vs) := by
    refine ⟨nf_in hl rfl, sgq_1260 ?_⟩
    · show ULU (w_fi ws (n_v vs 1) 121) (w_ei ws (w_ar ws (n_v vs 1) 122)) (w_ei ws (w_ar ws (n_v vs 1) 96)) (v_iv (n_v vs 5))
      rw [q1]
      exact vc_Mo_shift_34_1 (v_iv (n_v vs 5)) (v_iv (n_v vs 6)) (v_iv (n_v vs 7)) (v_iv (n_v vs 8)) (v_iv (n_v vs 12)) (v_iv (n_v vs 13)) (v_iv (n_v vs 17)) (v_iv (n_v vs 18)) (v_iv (n_v vs 19)) (w_ei ws (w_ar ws (n_v vs 0) 33)) (w_ei ws (w_ar ws (n_v vs 0) 34)) (w_fi ws (n_v vs 0) 31) (w_fi ws (n_v vs 0) 32) (w_ei ws (w_ar ws (n_v vs 0) 74)) (w_ei ws (w_ar ws (n_v vs 0) 75)) (w_ei ws (w_ar ws (n_v vs 0) 96)) (w_ei ws (w_ar ws (n_v vs 0) 123)) (w_ei w1 (w_ar ws (n_v vs 0) 122)) (w_fi w1 (n_v vs 0) 121) (w_ei w1 (w_ar ws (n_v vs 0) 33)) (w_ei w1 (w_ar ws (n_v vs 0) 34)) (w_fi w1 (n_v vs 0) 31) (w_fi w1 (n_v vs 0) 32) (w_ei w1 (w_ar ws (n_v vs 0) 35)) (w_ei w1 (w_ar ws (n_v vs 0) 96)) (w_ei w1 (w_ar ws (n_v vs 0) 74)) (w_ei w1 (w_ar ws (n_v vs 0) 75)) (w_ei w1 (w_ar ws (n_v vs 0) 123)) (w_fi ws (n_v vs 0) 121) (w_ei ws (w_ar ws (n_v vs 0) 35)) (w_ei ws (w_ar ws (n_v vs 0) 122)) k5 k6 k7 k8 k12 k13 k17 k18 k19 d0 d1 d5 h9 g14 f16 f21 fe_0_31_1 fe_0_32_1 fe_0_121_1 hE_0_33_1 hE_0_34_1 hE_0_35_1 hE_0_74_1 hE_0_75_1 hE_0_96_1 hE_0_122_1 hE_0_123_1 kz_0_31 kz_0_32 kz_0_121
  refine ⟨(fun _ h => (by cases h)), [], trivial, ?_, (fun _ h => (by cases h))⟩
  rw [List.append_nil]
  exact List.forall_mem_cons.mpr ⟨⟨show (20 : Nat) < 100 from by decide, nf0⟩, List.forall_mem_cons.mpr ⟨⟨show (20 : Nat) < 100 from by decide, nf1⟩, (fun _ h => (by cases h))⟩⟩
def n_Mo_shift_an : List an_T := [(66, [(0, (2, 0, 0, [165])), (1, (0, 0, 24, [])), (2, (0, 0, 24, [])), (3, (0, 0, 24, [])), (4, (0, 0, 25, []))], [], (0, 0), [(0, 0, 99934), (1, 5, 25), (0, 0, 100000), (0, 0, 0), (0, 0, 0)], [], [], [(2, 0, 0, [165])], 0, [], [(20, [1], [60, 2, 2, 75, 31, 32, 33, 34]), (20, [1], [60, 2, 4, 286, 31, 32, 33, 34, 35, 96]), (20, [2, 1], [50, 0, 1, 1096, 1, 2, 1, 0, 3, 1, 96, 0, 0]), (20, [3, 1], [50, 0, 1, 1096, 1, 2, 1, 0, 3, 1, 96, 0, 1]), (20, [4, 1], [50, 0, 1, 1096, 1, 2, 1, 0, 3, 1, 96, 0, 2]), (20, [1], [60, 0, 3, 836, 74, 75, 96]), (20, [1, 5], [60, 1, 1, 829, 31, 123]), (20, [1], [60, 1, 1, 835, 31, 96]), (20, [1], [60, 1, 1, 823, 31, 96]), (24, [0, 1], [])]), (121, [(0, (2, 0, 0, [165])), (1, (0, 0, 24, [])), (2, (0, 0, 24, [])), (3, (0, 0, 24, [])), (4, (0, 3, 25, []))], [], (0, 0), [(0, 0, 99879), (1, 5, 25), (0, 0, 100000), (0, 0, 0), (0, 0, 0)], [(6, 5, (Int.negSucc 999999999999), 26)], [((0, 121), (0, 0, 30, []))], [(2, 0, 0, [165])], 0, [], [(20, [1], [60, 2, 2, 75, 31, 32, 33, 34]), (20, [1, 5], [60, 3, 5, 291, 31, 32, 121, 33, 34, 35, 122, 96]), (20, [1, 5], [60, 0, 3, 824, 74, 75, 96]), (20, [1, 5], [60, 1, 2, 827, 31, 123, 96]), (20, [1, 5], [60, 1, 2, 830, 121, 122, 96]), (20, [1], [60, 1, 1, 835, 31, 96]), (20, [1], [60, 1, 1, 823, 31, 96]), (24, [0, 1], [])]), (142, [(0, (2, 0, 0, [165])), (1, (0, 0, 24, [])), (2, (0, 0, 24, [])), (3, (0, 0, 24, [])), (4, (0, 3, 24, [])), (5, (0, 0, 25, [])), (6, (0, 0, 29, []))], [], (0, 0), [(0, 0, 99879), (1, 5, 25), (0, 0, 99858), (1, 7, 29), (0, 0, 100000)], [], [], [(2, 0, 0, [165])], 0, [], [(20, [1], [60, 2, 2, 75, 31, 32, 33, 34]), (20, [1, 5, 6, 7], [60, 3, 5, 292, 31, 32, 121, 33, 34, 35, 122, 96]), (20, [1, 5], [60, 0, 3, 824, 74, 75, 96]), (20, [1, 5], [60, 1, 2, 827, 31, 123, 96]), (20, [1, 5], [60, 1, 2, 830, 121, 122, 96]), (20, [1], [60, 1, 1, 835, 31, 96]), (20, [1], [60, 1, 1, 823, 31, 96]), (24, [0, 1], [])]), (172, [(0, (2, 0, 0, [165])), (1, (0, 0, 24, [])), (2, (0, 0, 24, [])), (3, (0, 0, 24, [])), (4, (0, 3, 24, [])), (5, (0, 0, 25, [])), (6, (0, 0, 29, [])), (7, (0, (Int.negSucc 0), 29, []))], [], (0, 0), [(0, 0, 99879), (1, 5, 25), (0, 0, 99828), (2, 8, (Int.negSucc 0)), (0, 0, 100000)], [], [], [(2, 0, 0, [165])], 0, [], [(20, [1], [60, 2, 2, 75, 31, 32, 33, 34]), (20, [1, 5, 6, 7, 8], [60, 3, 5, 293, 31, 32, 121, 33, 34, 35, 122, 96]), (20, [1, 5], [60, 0, 3, 824, 74, 75, 96]), (20, [1, 5], [60, 1, 2, 827, 31, 123, 96]), (20, [1, 5], [60, 1, 2, 830, 121, 122, 96]), (20, [1], [60, 1, 1, 835, 31, 96]), (20, [1], [60, 1, 1, 823, 31, 96]), (24, [0, 1], [])]), (200, [(0, (2, 0, 0, [165])), (1, (0, 0, 24, [])), (2, (0, 0, 24, [])), (3, (0, 0, 24, [])), (4, (0, 3, 24, [])), (5, (0, 0, 25, [])), (6, (0, 0, 29, [])), (7, (0, 0, 29, [])), (8, (0, 1, 30, []))], [], (0, 0), [(0, 0, 99879), (1, 5, 25), (0, 0, 99800), (1, 9, 30), (0, 0, 100000)], [(7, 9, (Int.negSucc 999999999999), (Int.negSucc 0))], [], [(2, 0, 0, [165])], 0, [], [(20, [1], [60, 2, 2, 75, 31, 32, 33, 34]), (20, [1, 5, 6, 7, 8], [60, 3, 5, 294, 31, 32, 121, 33, 34, 35, 122, 96]), (20, [1, 5, 9], [60, 0, 3, 825, 74, 75, 96]), (20, [1, 5], [60, 1, 2, 827, 31, 123, 96]), (20, [1, 5], [60, 1, 2, 830, 121, 122, 96]), (20, [1], [60, 1, 1, 823, 31, 96]), (20, [1], [60, 1, 1, 835, 31, 96]), (24, [0, 1], [])]), (347, [(0, (2, 0, 0, [165])), (1, (0, 0, 24, [])), (2, (0, 0, 24, [])), (3, (0, 0, 24, [])), (4, (0, 3, 24, [])), (5, (0, 0, 24, [])), (6, (0, 0, 29, [])), (7, (0, 0, 29, [])), (8, (0, 0, 24, [])), (9, (0, 0, 24, [])), (10, (0, 1, 30, []))], [], (0, 0), [(0, 0, 99879), (1, 5, 25), (0, 0, 99653), (1, 11, 30), (0, 0, 100000)], [(7, 11, (Int.negSucc 999999999999), (Int.negSucc 0))], [], [(2, 0, 0, [165])], 0, [], [(20, [1], [60, 2, 2, 75, 31, 32, 33, 34]), (20, [1, 5, 6, 7, 8], [60, 3, 5, 294, 31, 32, 121, 33, 34, 35, 122, 96]), (20, [1, 5], [60, 0, 3, 826, 74, 75, 96]), (20, [1, 5], [60, 1, 2, 828, 31, 123, 96]), (20, [1], [60, 1, 1, 835, 31, 96]), (20, [1, 5], [60, 1, 2, 830, 121, 122, 96]), (20, [1], [60, 1, 1, 823, 31, 96]), (24, [0, 1], [])]), (402, [(0, (2, 0, 0, [165])), (1, (0, 0, 24, [])), (2, (0, 0, 24, [])), (3, (0, 0, 24, [])), (4, (0, 3, 24, [])), (5, (0, 0, 24, [])), (6, (0, 0, 29, [])), (7, (0, 1, 29, [])), (8, (0, 0, 24, [])), (9, (0, 0, 24, [])), (10, (0, 0, 0, [])), (11, (0, 0, 30, []))], [], (0, 0), [(0, 0, 99879), (1, 5, 25), (0, 0, 99598), (2, 12, 0), (0, 0, 100000)], [], [], [(2, 0, 0, [165])], 0, [], [(20, [1], [60, 2, 2, 75, 31, 32, 33, 34]), (20, [1, 5, 6, 7, 8, 12], [60, 3, 5, 295, 31, 32, 121, 33, 34, 35, 122, 96]), (20, [11, 8, 7], [50, 0, 0, 1, 2, 1, 0, 5, 6, 5, 2, 1, 1, 1, 2, 0, 1]), (20, [1, 5], [60, 0, 3, 826, 74, 75, 96]), (20, [1, 5], [60, 1, 2, 828, 31, 123, 96]), (20, [1], [60, 1, 1, 835, 31, 96]), (20, [1, 5, 12], [60, 1, 2, 831, 121, 122, 96]), (20, [1], [60, 1, 1, 823, 31, 96]), (24, [0, 1], [])]), (438, [(0, (2, 0, 0, [165])), (1, (0, 0, 24, [])), (2, (0, 0, 24, [])), (3, (0, 0, 24, [])), (4, (0, 3, 24, [])), (5, (0, 0, 24, [])), (6, (0, 0, 29, [])), (7, (0, 0, 29, [])), (8, (0, 0, 24, [])), (9, (0, 0, 24, [])), (10, (0, (Int.negSucc 29), 28, [])), (11, (0, 0, 30, []))], [], (0, 0), [(0, 0, 99879), (1, 5, 25), (0, 0, 99562), (1, 12, 30), (0, 0, 100000)], [(8, 12, (Int.negSucc 999999999999), 0), (11, 8, (Int.negSucc 999999999999), (Int.negSucc 0)), (11, 12, (Int.negSucc 999999999999), (Int.negSucc 0))], [], [(2, 0, 0, [165])], 0, [], [(20, [1], [60, 2, 2, 75, 31, 32, 33, 34]), (20, [1, 5, 6, 7, 8, 12], [60, 3, 5, 296, 31, 32, 121, 33, 34, 35, 122, 96]), (20, [11, 8, 7], [50, 0, 0, 1, 2, 1, 0, 5, 6, 5, 2, 1, 1, 1, 2, 0, 1]), (20, [1, 5], [60, 0, 3, 826, 74, 75, 96]), (20, [1, 5], [60, 1, 2, 828, 31, 123, 96]), (20, [1], [60, 1, 1, 835, 31, 96]), (20, [1, 5], [60, 1, 2, 830, 121, 122, 96]), (20, [1], [60, 1, 1, 823, 31, 96]), (24, [0, 1], [])])]
def t_Mo_shift_ct : ct_L := [(1, 646, e_Mo_edgeOf), (1, 913, e_Mo_move)]
set_option maxRecDepth 100000 in
theorem c_Mo_shift {l : Launch} {D : va_G} {kA : Nat → ClassId} (h_Mo_edgeOf : ct_ok PRD l D kA GG y_Mo_edgeOf z_Mo_edgeOf e_Mo_edgeOf) (h_Mo_move : ct_ok PRD l D kA GG y_Mo_move z_Mo_move e_Mo_move) : ct_ok PRD l D kA GG y_Mo_shift z_Mo_shift e_Mo_shift := chk_all_ok (FT := [(159, 13, 74), (162, 13, 75), (213, 13, 96), (278, 13, 122), (281, 13, 123), (594, 13, 31), (904, 13, 121)]) (PT := [(904, 13, 121, .int)]) (CT := t_Mo_shift_ct) (KT := []) (NT := []) (AN := n_Mo_shift_an) (OT := [o_Mo_shift_0, o_Mo_shift_1, o_Mo_shift_2, o_Mo_shift_3, o_Mo_shift_4, o_Mo_shift_5, o_Mo_shift_6, o_Mo_shift_7, o_Mo_shift_8, o_Mo_shift_9, o_Mo_shift_10, o_Mo_shift_11, o_Mo_shift_12, o_Mo_shift_13, o_Mo_shift_14, o_Mo_shift_15, o_Mo_shift_16, o_Mo_shift_17, o_Mo_shift_18, o_Mo_shift_19, o_Mo_shift_20, o_Mo_shift_21, o_Mo_shift_22, o_Mo_shift_23, o_Mo_shift_24, o_Mo_shift_25, o_Mo_shift_26, o_Mo_shift_27, o_Mo_shift_28, o_Mo_shift_29, o_Mo_shift_30, o_Mo_shift_31, o_Mo_shift_32, o_Mo_shift_33, o_Mo_shift_34]) 5 1236 (List.forall_mem_cons.mpr ⟨oo_Mo_shift_0, List.forall_mem_cons.mpr ⟨oo_Mo_shift_1, List.forall_mem_cons.mpr ⟨oo_Mo_shift_2, List.forall_mem_cons.mpr ⟨oo_Mo_shift_3, List.forall_mem_cons.mpr ⟨oo_Mo_shift_4, List.forall_mem_cons.mpr ⟨oo_Mo_shift_5, List.forall_mem_cons.mpr ⟨oo_Mo_shift_6, List.forall_mem_cons.mpr ⟨oo_Mo_shift_7, List.forall_mem_cons.mpr ⟨oo_Mo_shift_8, List.forall_mem_cons.mpr ⟨oo_Mo_shift_9, List.forall_mem_cons.mpr ⟨oo_Mo_shift_10, List.forall_mem_cons.mpr ⟨oo_Mo_shift_11, List.forall_mem_cons.mpr ⟨oo_Mo_shift_12, List.forall_mem_cons.mpr ⟨oo_Mo_shift_13, List.forall_mem_cons.mpr ⟨oo_Mo_shift_14, List.forall_mem_cons.mpr ⟨oo_Mo_shift_15, List.forall_mem_cons.mpr ⟨oo_Mo_shift_16, List.forall_mem_cons.mpr ⟨oo_Mo_shift_17, List.forall_mem_cons.mpr ⟨oo_Mo_shift_18, List.forall_mem_cons.mpr ⟨oo_Mo_shift_19, List.forall_mem_cons.mpr ⟨oo_Mo_shift_20, List.forall_mem_cons.mpr ⟨oo_Mo_shift_21, List.forall_mem_cons.mpr ⟨oo_Mo_shift_22, List.forall_mem_cons.mpr ⟨oo_Mo_shift_23, List.forall_mem_cons.mpr ⟨oo_Mo_shift_24, List.forall_mem_cons.mpr ⟨oo_Mo_shift_25, List.forall_mem_cons.mpr ⟨oo_Mo_shift_26, List.forall_mem_cons.mpr ⟨oo_Mo_shift_27, List.forall_mem_cons.mpr ⟨oo_Mo_shift_28, List.forall_mem_cons.mpr ⟨oo_Mo_shift_29, List.forall_mem_cons.mpr ⟨oo_Mo_shift_30, List.forall_mem_cons.mpr ⟨oo_Mo_shift_31, List.forall_mem_cons.mpr ⟨oo_Mo_shift_32, List.forall_mem_cons.mpr ⟨oo_Mo_shift_33, List.forall_mem_cons.mpr ⟨oo_Mo_shift_34, List.forall_mem_nil _⟩⟩⟩⟩⟩⟩⟩⟩⟩⟩⟩⟩⟩⟩⟩⟩⟩⟩⟩⟩⟩⟩⟩⟩⟩⟩⟩⟩⟩⟩⟩⟩⟩⟩⟩) (by decide +kernel) ⟨List.forall_mem_cons.mpr ⟨gf_Mo_159, List.forall_mem_cons.mpr ⟨gf_Mo_162, List.forall_mem_cons.mpr ⟨gf_Mo_213, List.forall_mem_cons.mpr ⟨gf_Mo_278, List.forall_mem_cons.mpr ⟨gf_Mo_281, List.forall_mem_cons.mpr ⟨gf_Mo_594, List.forall_mem_cons.mpr ⟨gf_Mo_904, List.forall_mem_nil _⟩⟩⟩⟩⟩⟩⟩, List.forall_mem_cons.mpr ⟨pf_Mo_904, List.forall_mem_nil _⟩, List.forall_mem_cons.mpr ⟨cl_virtual (y := y_Mo_edgeOf) (ci := 13) rfl rfl ⟨_, _, rfl⟩ (by decide +kernel) h_Mo_edgeOf wm_3195 wm_9 wm_3192 wm_3194 wv_15_7 ⟨by decide, by decide, by decide +kernel⟩ (by decide), List.forall_mem_cons.mpr ⟨cl_virtual (y := y_Mo_move) (ci := 13) rfl rfl ⟨_, _, rfl⟩ (by decide +kernel) h_Mo_move wm_3522 wm_9 wm_3519 wm_3521 wv_20_0 ⟨by decide, by decide, by decide +kernel⟩ (by decide), List.forall_mem_nil _⟩⟩, List.forall_mem_nil _, List.forall_mem_nil _, GG_pl⟩ (by decide +kernel)

set_option maxHeartbeats 4000000 in
theorem vc_Mo_squares_0_0 (x6 : Int) (x7 : Int) (itemOf_0 : Int → Int) (itemSize_0 : Int → Int) (itemMany_0 : Int) (k6 : 0 ≤ x6 ∧ x6 ≤ 0) (k7 : 0 ≤ x7 ∧ x7 ≤ 0) (f0 : ITM (itemMany_0) (itemOf_0) (itemSize_0)) (kz_0_132 : 0 ≤ itemMany_0 ∧ itemMany_0 ≤ 40) : SQ1 (itemMany_0) (itemOf_0) (itemSize_0) (x6) (x7) := by
  first
    | exact sq1_start ‹ITM _ _ _› (by omega) rfl rfl
    | exact sq1_start ‹ITM _ _ _› (by omega) (by omega) (by omega)
def o_Mo_squares_0 : or_T := (20, 8, [(0, (2, 0, 0, [165])), (6, (0, 0, 0, [])), (7, (0, 0, 0, []))], [(20, [0], [60, 1, 2, 773, 132, 130, 131])], [], [], [(20, [0, 6, 7], [60, 1, 2, 775, 132, 130, 131]), (24, [0, 0], []), (24, [1, 1], [])], [], [])
theorem oo_Mo_squares_0 {kA : Nat → ClassId} : or_ok PRD kA GG o_Mo_squares_0 := by
  refine or_mk fun A ta ws vs hD hth hl => ?_
  intro t0 r0 t6 k6 t7 k7 f0
  have kz_0_132 := fdq_152 hD hth r0
  have nf0 : fc_1 PRD (20, [0, 6, 7], [60, 1, 2, 775, 132, 130, 131]) ws (vs) := ⟨nf_in hl rfl, sgq_1274 (vc_Mo_squares_0_0 (v_iv (n_v vs 6)) (v_iv (n_v vs 7)) (w_ei ws (w_ar ws (n_v vs 0) 130)) (w_ei ws (w_ar ws (n_v vs 0) 131)) (w_fi ws (n_v vs 0) 132) k6 k7 (shm_589 f0) kz_0_132)⟩
  have nf1 : fc_1 PRD (24, [0, 0], []) ws (vs) := by
    refine ⟨nf_in hl rfl, sgq_1 ?_⟩
    · show n_v vs 0 = n_v vs 0
      first | rfl | simp only [true_and]
  have nf2 : fc_1 PRD (24, [1, 1], []) ws (vs) := by
    refine ⟨nf_in hl rfl, sgq_1 ?_⟩
    · show n_v vs 1 = n_v vs 1
      first | rfl | simp only [true_and]
  refine ⟨(fun _ h => (by cases h)), [], trivial, ?_, (fun _ h => (by cases h))⟩
  rw [List.append_nil]
  exact List.forall_mem_cons.mpr ⟨⟨show (20 : Nat) < 100 from by decide, nf0⟩, List.forall_mem_cons.mpr ⟨⟨show (24 : Nat) < 100 from by decide, nf1⟩, List.forall_mem_cons.mpr ⟨⟨show (24 : Nat) < 100 from by decide, nf2⟩, (fun _ h => (by cases h))⟩⟩⟩
set_option maxHeartbeats 4000000 in
theorem vc_Mo_squares_1_0 (x16 : Int) (x17 : Int) (x18 : Int) (x19 : Int) (itemMany_0 : Int) (itemOf_0 : Int → Int) (itemSize_0 : Int → Int) (k16 : 0 ≤ x16 ∧ x16 ≤ 98400) (k17 : 0 ≤ x17 ∧ x17 ≤ 40) (k18 : 0 ≤ x18 ∧ x18 ≤ 40) (k19 : 0 ≤ x19 ∧ x19 ≤ 0) (d0 : x18 + 0 ≤ x17 ∧ x17 ≤ x18 + 4294967296) (g1 : x18 = itemMany_0) (f2 : SQ1 (itemMany_0) (itemOf_0) (itemSize_0) (x16) (x17)) (kz_0_132 : 0 ≤ itemMany_0 ∧ itemMany_0 ≤ 40) : SQ2 (itemMany_0) (itemOf_0) (itemSize_0) (x16) (x19) := by
  first
    | exact sq2_start ‹SQ1 _ _ _ _ _› (by omega) (by omega)
def o_Mo_squares_1 : or_T := (50, 20, [(0, (2, 0, 0, [165])), (16, (0, 0, 98400, [])), (17, (0, 0, 40, [])), (18, (0, 0, 40, [])), (19, (0, 0, 0, []))], [(9, [18, 6], [132]), (20, [6, 16, 17], [60, 1, 2, 775, 132, 130, 131]), (24, [0, 6], [])], [], [], [(20, [6, 16, 19], [60, 1, 2, 776, 132, 130, 131])], [], [(17, 18, 0, 4294967296)])
theorem oo_Mo_squares_1 {kA : Nat → ClassId} : or_ok PRD kA GG o_Mo_squares_1 := by
  refine or_mk fun A ta ws vs hD hth hl => ?_
  intro t0 r0 t16 k16 t17 k17 t18 k18 t19 k19 d0 f1 f2 f6
  replace f1 := shm_587 f1
  replace f2 := shm_1274 f2
  replace f6 := shm_5 f6
  have q6 : n_v vs 6 = n_v vs 0 := f6.symm
  simp only [q6] at f1 f2
  have g1 : v_iv (n_v vs 18) = w_fi ws (n_v vs 0) 132 := congrArg v_iv f1
  have kz_0_132 := fdq_152 hD hth r0
  have nf0 : fc_1 PRD (20, [6, 16, 19], [60, 1, 2, 776, 132, 130, 131]) ws (vs) := by
    refine ⟨nf_in hl rfl, sgq_1275 ?_⟩
    · show SQ2 (w_fi ws (n_v vs 6) 132) (w_ei ws (w_ar ws (n_v vs 6) 130)) (w_ei ws (w_ar ws (n_v vs 6) 131)) (v_iv (n_v vs 16)) (v_iv (n_v vs 19))
      rw [q6]
      exact vc_Mo_squares_1_0 (v_iv (n_v vs 16)) (v_iv (n_v vs 17)) (v_iv (n_v vs 18)) (v_iv (n_v vs 19)) (w_fi ws (n_v vs 0) 132) (w_ei ws (w_ar ws (n_v vs 0) 130)) (w_ei ws (w_ar ws (n_v vs 0) 131)) k16 k17 k18 k19 d0 g1 f2 kz_0_132
  refine ⟨(fun _ h => (by cases h)), [], trivial, ?_, (fun _ h => (by cases h))⟩
  rw [List.append_nil]
  exact List.forall_mem_cons.mpr ⟨⟨show (20 : Nat) < 100 from by decide, nf0⟩, (fun _ h => (by cases h))⟩
set_option maxHeartbeats 4000000 in
theorem vc_Mo_squares_2_r0 (x16 : Int) (x17 : Int) (x18 : Int) (itemSize_0 : Int → Int) (itemMany_0 : Int) (itemOf_0 : Int → Int) (k16 : 0 ≤ x16 ∧ x16 ≤ 98400) (k17 : 0 ≤ x17 ∧ x17 ≤ 39) (k18 : 1 ≤ x18 ∧ x18 ≤ 40) (d0 : x18 + (-4294967296) ≤ x17 ∧ x17 ≤ x18 + (-1)) (g3 : x18 = itemMany_0) (f4 : SQ1 (itemMany_0) (itemOf_0) (itemSize_0) (x16) (x17)) (kz_0_132 : 0 ≤ itemMany_0 ∧ itemMany_0 ≤ 40) : 0 ≤ x16 ∧ x16 ≤ 96000 := by
  first
    | (have h := sq1_bd ‹SQ1 _ _ _ _ _› (by omega); have q := (‹SQ1 _ _ _ _ _›.1 x17 (by omega) (by omega)).2; omega)
set_option maxHeartbeats 4000000 in
theorem vc_Mo_squares_2_r1 (x16 : Int) (x17 : Int) (x18 : Int) (x20 : Int) (itemSize_0 : Int → Int) (itemMany_0 : Int) (itemOf_0 : Int → Int) (k16 : 0 ≤ x16 ∧ x16 ≤ 98400) (k17 : 0 ≤ x17 ∧ x17 ≤ 39) (k18 : 1 ≤ x18 ∧ x18 ≤ 40) (k20 : 0 ≤ x20 ∧ x20 ≤ 4095) (d0 : x18 + (-4294967296) ≤ x17 ∧ x17 ≤ x18 + (-1)) (h0 : x20 = itemSize_0 (x17)) (g3 : x18 = itemMany_0) (f4 : SQ1 (itemMany_0) (itemOf_0) (itemSize_0) (x16) (x17)) (kz_0_132 : 0 ≤ itemMany_0 ∧ itemMany_0 ≤ 40) : 1 ≤ x20 ∧ x20 ≤ 2400 := by
  first
    | (have h := sq1_bd ‹SQ1 _ _ _ _ _› (by omega); have q := (‹SQ1 _ _ _ _ _›.1 x17 (by omega) (by omega)).2; omega)
def o_Mo_squares_2 : or_T := (38, 21, [(0, (2, 0, 0, [165])), (1, (0, 0, 3, [])), (6, (2, 0, 0, [165])), (7, (0, 0, 3, [])), (12, (0, -512, 512, [])), (13, (0, -512, 512, [])), (14, (0, -512, 512, [])), (15, (0, -512, 512, [])), (16, (0, 0, 98400, [])), (17, (0, 0, 39, [])), (18, (0, 1, 40, [])), (19, (2, 0, 0, [261])), (20, (0, 0, 4095, []))], [(10, [20, 19, 17], []), (9, [19, 6], [131]), (7, [17, 18], [2]), (9, [18, 6], [132]), (20, [6, 16, 17], [60, 1, 2, 775, 132, 130, 131]), (20, [12, 14], [61, 0, 791]), (20, [13, 15], [61, 0, 791]), (20, [6, 7], [60, 0, 1, 789, 72]), (24, [0, 6], []), (24, [1, 7], [])], [(16, (0, 0, 96000, [])), (20, (0, 1, 2400, []))], [], [], [], [(17, 18, -4294967296, -1), (1, 7, -4294967296, 0), (7, 1, -4294967296, 0), (17, 16, -4294967296, 0)])
theorem oo_Mo_squares_2 {kA : Nat → ClassId} : or_ok PRD kA GG o_Mo_squares_2 := by
  refine or_mk fun A ta ws vs hD hth hl => ?_
  intro t0 r0 t1 k1 t6 r6 t7 k7 t12 k12 t13 k13 t14 k14 t15 k15 t16 k16 t17 k17 t18 k18 t19 r19 t20 k20 d0 d1 d2 d3 f0 f1 f2 f3 f4 f5 f6 f7 f8 f9
  replace f0 := shm_107 f0
  replace f1 := shm_594 f1
  replace f3 := shm_587 f3
  replace f4 := shm_1274 f4
  replace f8 := shm_5 f8
  have q6 : n_v vs 6 = n_v vs 0 := f8.symm
  simp only [q6] at f1 f3 f4
  have ad_19 : v_ad (n_v vs 19) = w_ar ws (n_v vs 0) 131 := congrArg v_ad f1
  simp only [ad_19] at f0
  have h0 : v_iv (n_v vs 20) = w_ei ws (w_ar ws (n_v vs 0) 131) (v_iv (n_v vs 17)) := f0
  have g3 : v_iv (n_v vs 18) = w_fi ws (n_v vs 0) 132 := congrArg v_iv f3
  have kz_0_132 := fdq_152 hD hth r0
  have hrf0 : 0 ≤ v_iv (n_v vs 16) ∧ v_iv (n_v vs 16) ≤ 96000 := vc_Mo_squares_2_r0 (v_iv (n_v vs 16)) (v_iv (n_v vs 17)) (v_iv (n_v vs 18)) (w_ei ws (w_ar ws (n_v vs 0) 131)) (w_fi ws (n_v vs 0) 132) (w_ei ws (w_ar ws (n_v vs 0) 130)) k16 k17 k18 d0 g3 f4 kz_0_132
  have hrf1 : 1 ≤ v_iv (n_v vs 20) ∧ v_iv (n_v vs 20) ≤ 2400 := vc_Mo_squares_2_r1 (v_iv (n_v vs 16)) (v_iv (n_v vs 17)) (v_iv (n_v vs 18)) (v_iv (n_v vs 20)) (w_ei ws (w_ar ws (n_v vs 0) 131)) (w_fi ws (n_v vs 0) 132) (w_ei ws (w_ar ws (n_v vs 0) 130)) k16 k17 k18 k20 d0 h0 g3 f4 kz_0_132
  have rf16 : tv_ok ta (0, 0, 96000, []) (n_v vs 16) := tv_in t16 (by first | omega | grind) (by first | omega | grind)
  have rf20 : tv_ok ta (0, 1, 2400, []) (n_v vs 20) := tv_in t20 (by first | omega | grind) (by first | omega | grind)
  refine ⟨List.forall_mem_cons.mpr ⟨rf16, List.forall_mem_cons.mpr ⟨rf20, (fun _ h => (by cases h))⟩⟩, [], trivial, ?_, (fun _ h => (by cases h))⟩
  rw [List.append_nil]
  exact (fun _ h => (by cases h))
set_option maxHeartbeats 4000000 in
theorem vc_Mo_squares_3_0 (x16 : Int) (x17 : Int) (x18 : Int) (x20 : Int) (x21 : Int) (x22 : Int) (itemSize_0 : Int → Int) (itemMany_0 : Int) (itemOf_0 : Int → Int) (k16 : 0 ≤ x16 ∧ x16 ≤ 96000) (k17 : 0 ≤ x17 ∧ x17 ≤ 39) (k18 : 1 ≤ x18 ∧ x18 ≤ 40) (k20 : 1 ≤ x20 ∧ x20 ≤ 2400) (k21 : 1 ≤ x21 ∧ x21 ≤ 98400) (k22 : 1 ≤ x22 ∧ x22 ≤ 40) (d0 : x17 + 1 ≤ x22 ∧ x22 ≤ x17 + 1) (d1 : x18 + (-4294967296) ≤ x22 ∧ x22 ≤ x18 + 0) (d5 : x18 + (-4294967296) ≤ x17 ∧ x17 ≤ x18 + (-1)) (f0 : x22 = x17 + 1) (f1 : x21 = x16 + x20) (h2 : x20 = itemSize_0 (x17)) (g5 : x18 = itemMany_0) (f6 : SQ1 (itemMany_0) (itemOf_0) (itemSize_0) (x16) (x17)) (kz_0_132 : 0 ≤ itemMany_0 ∧ itemMany_0 ≤ 40) : SQ1 (itemMany_0) (itemOf_0) (itemSize_0) (x21) (x22) := by
  first
    | exact sq1_step (v := itemSize_0 x17) ‹SQ1 _ _ _ _ _› (by omega) rfl (by omega) (by omega)
def o_Mo_squares_3 : or_T := (20, 23, [(0, (2, 0, 0, [165])), (16, (0, 0, 96000, [])), (17, (0, 0, 39, [])), (18, (0, 1, 40, [])), (20, (0, 1, 2400, [])), (21, (0, 1, 98400, [])), (22, (0, 1, 40, []))], [(6, [22, 17], [1]), (1, [21, 16, 20], []), (10, [20, 19, 17], []), (9, [19, 6], [131]), (9, [18, 6], [132]), (20, [6, 16, 17], [60, 1, 2, 775, 132, 130, 131]), (24, [0, 6], [])], [], [], [(20, [6, 21, 22], [60, 1, 2, 775, 132, 130, 131])], [], [(22, 17, 1, 1), (22, 18, -4294967296, 0), (17, 18, -4294967296, -1)])
theorem oo_Mo_squares_3 {kA : Nat → ClassId} : or_ok PRD kA GG o_Mo_squares_3 := by
  refine or_mk fun A ta ws vs hD hth hl => ?_
  intro t0 r0 t16 k16 t17 k17 t18 k18 t20 k20 t21 k21 t22 k22 d0 d1 d5 f0 f1 f2 f3 f5 f6 f10
  replace f0 := shm_4 f0
  replace f1 := shm_12 f1
  replace f2 := shm_107 f2
  replace f3 := shm_594 f3
  replace f5 := shm_587 f5
  replace f6 := shm_1274 f6
  replace f10 := shm_5 f10
  have q6 : n_v vs 6 = n_v vs 0 := f10.symm
  simp only [q6] at f3 f5 f6
  have ad_19 : v_ad (n_v vs 19) = w_ar ws (n_v vs 0) 131 := congrArg v_ad f3
  simp only [ad_19] at f2
  have h2 : v_iv (n_v vs 20) = w_ei ws (w_ar ws (n_v vs 0) 131) (v_iv (n_v vs 17)) := f2
  have g5 : v_iv (n_v vs 18) = w_fi ws (n_v vs 0) 132 := congrArg v_iv f5
  have kz_0_132 := fdq_152 hD hth r0
  have nf0 : fc_1 PRD (20, [6, 21, 22], [60, 1, 2, 775, 132, 130, 131]) ws (vs) := by
    refine ⟨nf_in hl rfl, sgq_1274 ?_⟩
    · show SQ1 (w_fi ws (n_v vs 6) 132) (w_ei ws (w_ar ws (n_v vs 6) 130)) (w_ei ws (w_ar ws (n_v vs 6) 131)) (v_iv (n_v vs 21)) (v_iv (n_v vs 22))
      rw [q6]
      exact vc_Mo_squares_3_0 (v_iv (n_v vs 16)) (v_iv (n_v vs 17)) (v_iv (n_v vs 18)) (v_iv (n_v vs 20)) (v_iv (n_v vs 21)) (v_iv (n_v vs 22)) (w_ei ws (w_ar ws (n_v vs 0) 131)) (w_fi ws (n_v vs 0) 132) (w_ei ws (w_ar ws (n_v vs 0) 130)) k16 k17 k18 k20 k21 k22 d0 d1 d5 f0 f1 h2 g5 f6 kz_0_132
  refine ⟨(fun _ h => (by cases h)), [], trivial, ?_, (fun _ h => (by cases h))⟩
  rw [List.append_nil]
  exact List.forall_mem_cons.mpr ⟨⟨show (20 : Nat) < 100 from by decide, nf0⟩, (fun _ h => (by cases h))⟩
set_option maxHeartbeats 4000000 in
theorem vc_Mo_squares_4_0 (x1 : Int) (toldGroup_0 : Int → Int) (k1 : 0 ≤ x1 ∧ x1 ≤ 3) (f5 : BXG (toldGroup_0) (x1)) : BXG (toldGroup_0) (x1) := by
  assumption
def o_Mo_squares_4 : or_T := (438, 19, [(1, (0, 0, 3, []))], [(20, [6, 7], [60, 0, 1, 789, 72]), (24, [0, 6], []), (24, [1, 7], [])], [], [], [(20, [0, 1], [60, 0, 1, 789, 72])], [], [])
theorem oo_Mo_squares_4 {kA : Nat → ClassId} : or_ok PRD kA GG o_Mo_squares_4 := by
  refine or_mk fun A ta ws vs hD hth hl => ?_
  intro t1 k1 f5 f6 f7
  replace f5 := shm_716 f5
  replace f6 := shm_5 f6
  replace f7 := shm_5 f7
  have q6 : n_v vs 6 = n_v vs 0 := f6.symm
  have q7 : n_v vs 7 = n_v vs 1 := f7.symm
  simp only [q6, q7] at f5
  have nf0 : fc_1 PRD (20, [0, 1], [60, 0, 1, 789, 72]) ws (vs) := ⟨nf_in hl rfl, sgq_716 (vc_Mo_squares_4_0 (v_iv (n_v vs 1)) (w_ei ws (w_ar ws (n_v vs 0) 72)) k1 f5)⟩
  refine ⟨(fun _ h => (by cases h)), [], trivial, ?_, (fun _ h => (by cases h))⟩
  rw [List.append_nil]
  exact List.forall_mem_cons.mpr ⟨⟨show (20 : Nat) < 100 from by decide, nf0⟩, (fun _ h => (by cases h))⟩
set_option maxHeartbeats 4000000 in
theorem vc_Mo_squares_5_r0 (x12 : Int) (x13 : Int) (x14 : Int) (x15 : Int) (k12 : (-512) ≤ x12 ∧ x12 ≤ 1024) (k13 : (-512) ≤ x13 ∧ x13 ≤ 1024) (k14 : (-1024) ≤ x14 ∧ x14 ≤ 1024) (k15 : (-1024) ≤ x15 ∧ x15 ≤ 1024) (f3 : HUL (x12) (x14)) (f4 : HUL (x13) (x15)) : 0 ≤ x12 ∧ x12 ≤ 512 := by
  have h1 : HUL x12 x14 := by assumption
  have h2 : HUL x13 x15 := by assumption
  have a1 := h1.1
  have a2 := h1.2
  have b1 := h2.1
  have b2 := h2.2
  omega
set_option maxHeartbeats 4000000 in
theorem vc_Mo_squares_5_r1 (x12 : Int) (x13 : Int) (x14 : Int) (x15 : Int) (k12 : (-512) ≤ x12 ∧ x12 ≤ 1024) (k13 : (-512) ≤ x13 ∧ x13 ≤ 1024) (k14 : (-1024) ≤ x14 ∧ x14 ≤ 1024) (k15 : (-1024) ≤ x15 ∧ x15 ≤ 1024) (f3 : HUL (x12) (x14)) (f4 : HUL (x13) (x15)) : 0 ≤ x13 ∧ x13 ≤ 512 := by
  have h1 : HUL x12 x14 := by assumption
  have h2 : HUL x13 x15 := by assumption
  have a1 := h1.1
  have a2 := h1.2
  have b1 := h2.1
  have b2 := h2.2
  omega
set_option maxHeartbeats 4000000 in
theorem vc_Mo_squares_5_r2 (x12 : Int) (x13 : Int) (x14 : Int) (x15 : Int) (k12 : (-512) ≤ x12 ∧ x12 ≤ 1024) (k13 : (-512) ≤ x13 ∧ x13 ≤ 1024) (k14 : (-1024) ≤ x14 ∧ x14 ≤ 1024) (k15 : (-1024) ≤ x15 ∧ x15 ≤ 1024) (f3 : HUL (x12) (x14)) (f4 : HUL (x13) (x15)) : (-512) ≤ x14 ∧ x14 ≤ 512 := by
  have h1 : HUL x12 x14 := by assumption
  have h2 : HUL x13 x15 := by assumption
  have a1 := h1.1
  have a2 := h1.2
  have b1 := h2.1
  have b2 := h2.2
  omega
set_option maxHeartbeats 4000000 in
theorem vc_Mo_squares_5_r3 (x12 : Int) (x13 : Int) (x14 : Int) (x15 : Int) (k12 : (-512) ≤ x12 ∧ x12 ≤ 1024) (k13 : (-512) ≤ x13 ∧ x13 ≤ 1024) (k14 : (-1024) ≤ x14 ∧ x14 ≤ 1024) (k15 : (-1024) ≤ x15 ∧ x15 ≤ 1024) (f3 : HUL (x12) (x14)) (f4 : HUL (x13) (x15)) : (-512) ≤ x15 ∧ x15 ≤ 512 := by
  have h1 : HUL x12 x14 := by assumption
  have h2 : HUL x13 x15 := by assumption
  have a1 := h1.1
  have a2 := h1.2
  have b1 := h2.1
  have b2 := h2.2
  omega
def o_Mo_squares_5 : or_T := (59, 19, [(0, (2, 0, 0, [165])), (1, (0, 0, 3, [])), (6, (2, 0, 0, [165])), (7, (0, 0, 3, [])), (12, (0, -512, 1024, [])), (13, (0, -512, 1024, [])), (14, (0, -1024, 1024, [])), (15, (0, -1024, 1024, [])), (16, (0, -95999, 98400, [])), (17, (0, 0, 39, [])), (18, (0, 1, 40, []))], [(7, [17, 18], [2]), (9, [18, 6], [132]), (20, [6, 16, 17], [60, 1, 2, 776, 132, 130, 131]), (20, [12, 14], [61, 0, 791]), (20, [13, 15], [61, 0, 791]), (20, [6, 7], [60, 0, 1, 789, 72]), (24, [0, 6], []), (24, [1, 7], [])], [(12, (0, 0, 512, [])), (13, (0, 0, 512, [])), (14, (0, -512, 512, [])), (15, (0, -512, 512, []))], [], [], [], [(17, 18, -4294967296, -1), (1, 7, -4294967296, 0), (7, 1, -4294967296, 0), (12, 13, -4294967296, 1024), (12, 15, -4294967296, 1536), (12, 17, -4294967296, 1023), (13, 12, -4294967296, 1024), (13, 14, -4294967296, 1536), (13, 17, -4294967296, 1023), (14, 13, -4294967296, 1024), (14, 15, -4294967296, 1536), (14, 17, -4294967296, 1023), (15, 12, -4294967296, 1024), (15, 14, -4294967296, 1536), (15, 17, -4294967296, 1023)])
theorem oo_Mo_squares_5 {kA : Nat → ClassId} : or_ok PRD kA GG o_Mo_squares_5 := by
  refine or_mk fun A ta ws vs hD hth hl => ?_
  intro t0 r0 t1 k1 t6 r6 t7 k7 t12 k12 t13 k13 t14 k14 t15 k15 t16 k16 t17 k17 t18 k18 d0 d1 d2 d3 d4 d5 d6 d7 d8 d9 d10 d11 d12 d13 d14 f0 f1 f2 f3 f4 f5 f6 f7
  have hrf0 : 0 ≤ v_iv (n_v vs 12) ∧ v_iv (n_v vs 12) ≤ 512 := vc_Mo_squares_5_r0 (v_iv (n_v vs 12)) (v_iv (n_v vs 13)) (v_iv (n_v vs 14)) (v_iv (n_v vs 15)) k12 k13 k14 k15 (shm_417 f3) (shm_417 f4)
  have hrf1 : 0 ≤ v_iv (n_v vs 13) ∧ v_iv (n_v vs 13) ≤ 512 := vc_Mo_squares_5_r1 (v_iv (n_v vs 12)) (v_iv (n_v vs 13)) (v_iv (n_v vs 14)) (v_iv (n_v vs 15)) k12 k13 k14 k15 (shm_417 f3) (shm_417 f4)
  have hrf2 : (-512) ≤ v_iv (n_v vs 14) ∧ v_iv (n_v vs 14) ≤ 512 := vc_Mo_squares_5_r2 (v_iv (n_v vs 12)) (v_iv (n_v vs 13)) (v_iv (n_v vs 14)) (v_iv (n_v vs 15)) k12 k13 k14 k15 (shm_417 f3) (shm_417 f4)
  have hrf3 : (-512) ≤ v_iv (n_v vs 15) ∧ v_iv (n_v vs 15) ≤ 512 := vc_Mo_squares_5_r3 (v_iv (n_v vs 12)) (v_iv (n_v vs 13)) (v_iv (n_v vs 14)) (v_iv (n_v vs 15)) k12 k13 k14 k15 (shm_417 f3) (shm_417 f4)
  have rf12 : tv_ok ta (0, 0, 512, []) (n_v vs 12) := tv_in t12 (by first | omega | grind) (by first | omega | grind)
  have rf13 : tv_ok ta (0, 0, 512, []) (n_v vs 13) := tv_in t13 (by first | omega | grind) (by first | omega | grind)
  have rf14 : tv_ok ta (0, -512, 512, []) (n_v vs 14) := tv_in t14 (by first | omega | grind) (by first | omega | grind)
  have rf15 : tv_ok ta (0, -512, 512, []) (n_v vs 15) := tv_in t15 (by first | omega | grind) (by first | omega | grind)
  refine ⟨List.forall_mem_cons.mpr ⟨rf12, List.forall_mem_cons.mpr ⟨rf13, List.forall_mem_cons.mpr ⟨rf14, List.forall_mem_cons.mpr ⟨rf15, (fun _ h => (by cases h))⟩⟩⟩⟩, [], trivial, ?_, (fun _ h => (by cases h))⟩
  rw [List.append_nil]
  exact (fun _ h => (by cases h))
set_option maxHeartbeats 4000000 in
theorem vc_Mo_squares_6_0 (x17 : Int) (x18 : Int) (x21 : Int) (itemMany_0 : Int) (itemOf_0 : Int → Int) (k17 : 0 ≤ x17 ∧ x17 ≤ 39) (k18 : 1 ≤ x18 ∧ x18 ≤ 40) (k21 : 1 ≤ x21 ∧ x21 ≤ 40) (d0 : x17 + 1 ≤ x21 ∧ x21 ≤ x17 + 1) (d1 : x18 + (-4294967296) ≤ x21 ∧ x21 ≤ x18 + 0) (d3 : x18 + (-4294967296) ≤ x17 ∧ x17 ≤ x18 + (-1)) (g5 : x18 = itemMany_0) (kz_0_132 : 0 ≤ itemMany_0 ∧ itemMany_0 ≤ 40) : (x17 + 1) ≤ itemMany_0 := by
  first
    | omega
    | (have g := ‹SQ3 _ _ _ _ _ _ _›
       have q := (g.1.1 x26 (by omega) (by have := g.2; omega)).1
       have e1 : x37 = itemOf_0 x26 := by assumption
       have e2 : x34 = itemOf_0 x26 := by assumption
       rw [← e1] at q
       rw [← e1] at e2
       omega)
set_option maxHeartbeats 4000000 in
theorem vc_Mo_squares_6_1 (x17 : Int) (x21 : Int) (x23 : Int) (itemSize_0 : Int → Int) (itemOf_0 : Int → Int) (k17 : 0 ≤ x17 ∧ x17 ≤ 39) (k23 : 0 ≤ x23 ∧ x23 ≤ 4095) (h0 : x23 = itemSize_0 (x17)) : x23 = itemSize_0 (x17) := by
  first
    | omega
    | (have g := ‹SQ3 _ _ _ _ _ _ _›
       have q := (g.1.1 x26 (by omega) (by have := g.2; omega)).1
       have e1 : x37 = itemOf_0 x26 := by assumption
       have e2 : x34 = itemOf_0 x26 := by assumption
       rw [← e1] at q
       rw [← e1] at e2
       omega)
def o_Mo_squares_6 : or_T := (116, 24, [(0, (2, 0, 0, [165])), (1, (0, 0, 3, [])), (6, (2, 0, 0, [165])), (7, (0, 0, 3, [])), (12, (0, 0, 512, [])), (13, (0, 0, 512, [])), (14, (0, -511, 512, [])), (15, (0, -512, 511, [])), (16, (0, -95999, 98400, [])), (17, (0, 0, 39, [])), (18, (0, 1, 40, [])), (20, (0, 1, 1, [])), (21, (0, 1, 40, [])), (22, (2, 0, 0, [261])), (23, (0, 0, 4095, []))], [(10, [23, 22, 17], []), (9, [22, 6], [131]), (1, [21, 17, 20], []), (7, [14, 15], [4]), (7, [17, 18], [2]), (9, [18, 6], [132]), (20, [6, 16, 17], [60, 1, 2, 776, 132, 130, 131]), (20, [12, 14], [61, 0, 791]), (20, [13, 15], [61, 0, 791]), (20, [6, 7], [60, 0, 1, 789, 72]), (24, [0, 6], []), (24, [1, 7], [])], [], [], [(20, [17, 6], [50, 1, 0, 1132, 0, 6, 4, 2, 1, 0, 0, 1, 2, 1, 132]), (20, [23, 6, 17], [50, 0, 1, 1131, 1, 2, 1, 0, 3, 1, 131, 1, 2])], [], [(21, 17, 1, 1), (21, 18, -4294967296, 0), (14, 15, 1, 4294967296), (17, 18, -4294967296, -1), (1, 7, -4294967296, 0), (7, 1, -4294967296, 0)])
theorem oo_Mo_squares_6 {kA : Nat → ClassId} : or_ok PRD kA GG o_Mo_squares_6 := by
  refine or_mk fun A ta ws vs hD hth hl => ?_
  intro t0 r0 t1 k1 t6 r6 t7 k7 t12 k12 t13 k13 t14 k14 t15 k15 t16 k16 t17 k17 t18 k18 t20 k20 t21 k21 t22 r22 t23 k23 d0 d1 d2 d3 d4 d5 f0 f1 f2 f3 f4 f5 f6 f7 f8 f9 f10 f11
  replace f0 := shm_107 f0
  replace f1 := shm_594 f1
  replace f5 := shm_587 f5
  replace f10 := shm_5 f10
  have q6 : n_v vs 6 = n_v vs 0 := f10.symm
  simp only [q6] at f1 f5
  have ad_22 : v_ad (n_v vs 22) = w_ar ws (n_v vs 0) 131 := congrArg v_ad f1
  simp only [ad_22] at f0
  have h0 : v_iv (n_v vs 23) = w_ei ws (w_ar ws (n_v vs 0) 131) (v_iv (n_v vs 17)) := f0
  have g5 : v_iv (n_v vs 18) = w_fi ws (n_v vs 0) 132 := congrArg v_iv f5
  have kz_0_132 := fdq_152 hD hth r0
  have nf0 : fc_1 PRD (20, [17, 6], [50, 1, 0, 1132, 0, 6, 4, 2, 1, 0, 0, 1, 2, 1, 132]) ws (vs) := by
    refine ⟨nf_in hl rfl, sgq_1276 ?_⟩
    · show (v_iv (n_v vs 17) + 1) ≤ w_fi ws (n_v vs 6) 132
      rw [q6]
      exact vc_Mo_squares_6_0 (v_iv (n_v vs 17)) (v_iv (n_v vs 18)) (v_iv (n_v vs 21)) (w_fi ws (n_v vs 0) 132) (w_ei ws (w_ar ws (n_v vs 0) 130)) k17 k18 k21 d0 d1 d3 g5 kz_0_132
  have nf1 : fc_1 PRD (20, [23, 6, 17], [50, 0, 1, 1131, 1, 2, 1, 0, 3, 1, 131, 1, 2]) ws (vs) := by
    refine ⟨nf_in hl rfl, sgq_1277 ?_⟩
    · show v_iv (n_v vs 23) = w_ei ws (w_ar ws (n_v vs 6) 131) (v_iv (n_v vs 17))
      rw [q6]
      exact vc_Mo_squares_6_1 (v_iv (n_v vs 17)) (v_iv (n_v vs 21)) (v_iv (n_v vs 23)) (w_ei ws (w_ar ws (n_v vs 0) 131)) (w_ei ws (w_ar ws (n_v vs 0) 130)) k17 k23 h0
  refine ⟨(fun _ h => (by cases h)), [], trivial, ?_, (fun _ h => (by cases h))⟩
  rw [List.append_nil]
  exact List.forall_mem_cons.mpr ⟨⟨show (20 : Nat) < 100 from by decide, nf0⟩, List.forall_mem_cons.mpr ⟨⟨show (20 : Nat) < 100 from by decide, nf1⟩, (fun _ h => (by cases h))⟩⟩
set_option maxHeartbeats 4000000 in
theorem vc_Mo_squares_7_0 (x16 : Int) (x17 : Int) (x21 : Int) (x23 : Int) (itemMany_0 : Int) (itemSize_0 : Int → Int) (itemOf_0 : Int → Int) (k16 : (-95999) ≤ x16 ∧ x16 ≤ 98400) (k17 : 0 ≤ x17 ∧ x17 ≤ 39) (k21 : 1 ≤ x21 ∧ x21 ≤ 40) (k23 : 0 ≤ x23 ∧ x23 ≤ 4095) (d0 : x17 + 1 ≤ x21 ∧ x21 ≤ x17 + 1) (f0 : (x17 + 1) ≤ itemMany_0) (f1 : x23 = itemSize_0 (x17)) (f2 : SQ2 (itemMany_0) (itemOf_0) (itemSize_0) (x16) (x17)) (kz_0_132 : 0 ≤ itemMany_0 ∧ itemMany_0 ≤ 40) : SQ3 (itemMany_0) (itemOf_0) (itemSize_0) (x16) (x17) (x21) (x23) := by
  first
    | exact sq3_start ‹SQ2 _ _ _ _ _› (by omega) (by omega) (by assumption)
set_option maxHeartbeats 4000000 in
theorem vc_Mo_squares_7_1 (x14 : Int) (x15 : Int) (x19 : Int) (k14 : (-511) ≤ x14 ∧ x14 ≤ 512) (k15 : (-512) ≤ x15 ∧ x15 ≤ 511) (k19 : 0 ≤ x19 ∧ x19 ≤ 0) (f11 : x19 = 0) : SQA (x19) (x14) (x15) (x15) (x14) := by
  first
    | assumption
    | exact Or.inl ⟨by omega, rfl, rfl⟩
    | exact Or.inr ⟨by omega, rfl, rfl⟩
def o_Mo_squares_7 : or_T := (132, 24, [(0, (2, 0, 0, [165])), (1, (0, 0, 3, [])), (6, (2, 0, 0, [165])), (7, (0, 0, 3, [])), (12, (0, 0, 512, [])), (13, (0, 0, 512, [])), (14, (0, -511, 512, [])), (15, (0, -512, 511, [])), (16, (0, -95999, 98400, [])), (17, (0, 0, 39, [])), (18, (0, 1, 40, [])), (19, (0, 0, 0, [])), (20, (0, 1, 1, [])), (21, (0, 1, 40, [])), (23, (0, 0, 4095, []))], [(20, [17, 6], [50, 1, 0, 1132, 0, 6, 4, 2, 1, 0, 0, 1, 2, 1, 132]), (20, [23, 6, 17], [50, 0, 1, 1131, 1, 2, 1, 0, 3, 1, 131, 1, 2]), (20, [6, 16, 17], [60, 1, 2, 776, 132, 130, 131]), (20, [12, 14], [61, 0, 791]), (20, [13, 15], [61, 0, 791]), (20, [6, 7], [60, 0, 1, 789, 72]), (24, [0, 6], []), (24, [1, 7], []), (102, [23], [0, 165133, 165134]), (1, [21, 17, 20], []), (8, [19], [0]), (8, [19], [0]), (7, [14, 15], [4]), (7, [17, 18], [2])], [], [], [(20, [6, 16, 17, 21, 23], [60, 1, 2, 777, 132, 130, 131]), (20, [19, 14, 15, 15, 14], [61, 0, 792])], [], [(21, 17, 1, 1), (21, 18, -4294967296, 0), (14, 15, 1, 4294967296), (17, 18, -4294967296, -1), (1, 7, -4294967296, 0), (7, 1, -4294967296, 0)])
theorem oo_Mo_squares_7 {kA : Nat → ClassId} : or_ok PRD kA GG o_Mo_squares_7 := by
  refine or_mk fun A ta ws vs hD hth hl => ?_
  intro t0 r0 t1 k1 t6 r6 t7 k7 t12 k12 t13 k13 t14 k14 t15 k15 t16 k16 t17 k17 t18 k18 t19 k19 t20 k20 t21 k21 t23 k23 d0 d1 d2 d3 d4 d5 f0 f1 f2 f3 f4 f5 f6 f7 ta1 w1 le1 s1 f9 f10 f11 f12 f13
  replace f0 := shm_1276 f0
  replace f1 := shm_1277 f1
  replace f2 := shm_1275 f2
  replace f6 := shm_5 f6
  replace f11 := shm_192 f11
  have q6 : n_v vs 6 = n_v vs 0 := f6.symm
  simp only [q6] at f0 f1 f2
  have kz_0_132 := fdq_152 hD hth r0
  have nf0 : fc_1 PRD (20, [6, 16, 17, 21, 23], [60, 1, 2, 777, 132, 130, 131]) ws (vs) := by
    refine ⟨nf_in hl rfl, sgq_1278 ?_⟩
    · show SQ3 (w_fi ws (n_v vs 6) 132) (w_ei ws (w_ar ws (n_v vs 6) 130)) (w_ei ws (w_ar ws (n_v vs 6) 131)) (v_iv (n_v vs 16)) (v_iv (n_v vs 17)) (v_iv (n_v vs 21)) (v_iv (n_v vs 23))
      rw [q6]
      exact vc_Mo_squares_7_0 (v_iv (n_v vs 16)) (v_iv (n_v vs 17)) (v_iv (n_v vs 21)) (v_iv (n_v vs 23)) (w_fi ws (n_v vs 0) 132) (w_ei ws (w_ar ws (n_v vs 0) 131)) (w_ei ws (w_ar ws (n_v vs 0) 130)) k16 k17 k21 k23 d0 f0 f1 f2 kz_0_132
  have nf1 : fc_1 PRD (20, [19, 14, 15, 15, 14], [61, 0, 792]) ws (vs) := ⟨nf_in hl rfl, sgq_1279 (vc_Mo_squares_7_1 (v_iv (n_v vs 14)) (v_iv (n_v vs 15)) (v_iv (n_v vs 19)) k14 k15 k19 f11)⟩
  refine ⟨(fun _ h => (by cases h)), [], trivial, ?_, (fun _ h => (by cases h))⟩
  rw [List.append_nil]
  exact List.forall_mem_cons.mpr ⟨⟨show (20 : Nat) < 100 from by decide, nf0⟩, List.forall_mem_cons.mpr ⟨⟨show (20 : Nat) < 100 from by decide, nf1⟩, (fun _ h => (by cases h))⟩⟩
set_option maxHeartbeats 4000000 in
theorem vc_Mo_squares_8_0 (x17 : Int) (x18 : Int) (x21 : Int) (itemMany_0 : Int) (itemOf_0 : Int → Int) (k17 : 0 ≤ x17 ∧ x17 ≤ 39) (k18 : 1 ≤ x18 ∧ x18 ≤ 40) (k21 : 1 ≤ x21 ∧ x21 ≤ 40) (d0 : x17 + 1 ≤ x21 ∧ x21 ≤ x17 + 1) (d1 : x18 + (-4294967296) ≤ x21 ∧ x21 ≤ x18 + 0) (d3 : x18 + (-4294967296) ≤ x17 ∧ x17 ≤ x18 + (-1)) (g5 : x18 = itemMany_0) (kz_0_132 : 0 ≤ itemMany_0 ∧ itemMany_0 ≤ 40) : (x17 + 1) ≤ itemMany_0 := by
  first
    | omega
    | (have g := ‹SQ3 _ _ _ _ _ _ _›
       have q := (g.1.1 x26 (by omega) (by have := g.2; omega)).1
       have e1 : x37 = itemOf_0 x26 := by assumption
       have e2 : x34 = itemOf_0 x26 := by assumption
       rw [← e1] at q
       rw [← e1] at e2
       omega)
set_option maxHeartbeats 4000000 in
theorem vc_Mo_squares_8_1 (x17 : Int) (x21 : Int) (x23 : Int) (itemSize_0 : Int → Int) (itemOf_0 : Int → Int) (k17 : 0 ≤ x17 ∧ x17 ≤ 39) (k23 : 0 ≤ x23 ∧ x23 ≤ 4095) (h0 : x23 = itemSize_0 (x17)) : x23 = itemSize_0 (x17) := by
  first
    | omega
    | (have g := ‹SQ3 _ _ _ _ _ _ _›
       have q := (g.1.1 x26 (by omega) (by have := g.2; omega)).1
       have e1 : x37 = itemOf_0 x26 := by assumption
       have e2 : x34 = itemOf_0 x26 := by assumption
       rw [← e1] at q
       rw [← e1] at e2
       omega)
def o_Mo_squares_8 : or_T := (116, 24, [(0, (2, 0, 0, [165])), (1, (0, 0, 3, [])), (6, (2, 0, 0, [165])), (7, (0, 0, 3, [])), (12, (0, 0, 512, [])), (13, (0, 0, 512, [])), (14, (0, -512, 512, [])), (15, (0, -512, 512, [])), (16, (0, -95999, 98400, [])), (17, (0, 0, 39, [])), (18, (0, 1, 40, [])), (20, (0, 1, 1, [])), (21, (0, 1, 40, [])), (22, (2, 0, 0, [261])), (23, (0, 0, 4095, []))], [(10, [23, 22, 17], []), (9, [22, 6], [131]), (1, [21, 17, 20], []), (7, [14, 15], [5]), (7, [17, 18], [2]), (9, [18, 6], [132]), (20, [6, 16, 17], [60, 1, 2, 776, 132, 130, 131]), (20, [12, 14], [61, 0, 791]), (20, [13, 15], [61, 0, 791]), (20, [6, 7], [60, 0, 1, 789, 72]), (24, [0, 6], []), (24, [1, 7], [])], [], [], [(20, [17, 6], [50, 1, 0, 1132, 0, 6, 4, 2, 1, 0, 0, 1, 2, 1, 132]), (20, [23, 6, 17], [50, 0, 1, 1131, 1, 2, 1, 0, 3, 1, 131, 1, 2])], [], [(21, 17, 1, 1), (21, 18, -4294967296, 0), (14, 15, -4294967296, 0), (17, 18, -4294967296, -1), (1, 7, -4294967296, 0), (7, 1, -4294967296, 0)])
theorem oo_Mo_squares_8 {kA : Nat → ClassId} : or_ok PRD kA GG o_Mo_squares_8 := by
  refine or_mk fun A ta ws vs hD hth hl => ?_
  intro t0 r0 t1 k1 t6 r6 t7 k7 t12 k12 t13 k13 t14 k14 t15 k15 t16 k16 t17 k17 t18 k18 t20 k20 t21 k21 t22 r22 t23 k23 d0 d1 d2 d3 d4 d5 f0 f1 f2 f3 f4 f5 f6 f7 f8 f9 f10 f11
  replace f0 := shm_107 f0
  replace f1 := shm_594 f1
  replace f5 := shm_587 f5
  replace f10 := shm_5 f10
  have q6 : n_v vs 6 = n_v vs 0 := f10.symm
  simp only [q6] at f1 f5
  have ad_22 : v_ad (n_v vs 22) = w_ar ws (n_v vs 0) 131 := congrArg v_ad f1
  simp only [ad_22] at f0
  have h0 : v_iv (n_v vs 23) = w_ei ws (w_ar ws (n_v vs 0) 131) (v_iv (n_v vs 17)) := f0
  have g5 : v_iv (n_v vs 18) = w_fi ws (n_v vs 0) 132 := congrArg v_iv f5
  have kz_0_132 := fdq_152 hD hth r0
  have nf0 : fc_1 PRD (20, [17, 6], [50, 1, 0, 1132, 0, 6, 4, 2, 1, 0, 0, 1, 2, 1, 132]) ws (vs) := by
    refine ⟨nf_in hl rfl, sgq_1276 ?_⟩
    · show (v_iv (n_v vs 17) + 1) ≤ w_fi ws (n_v vs 6) 132
      rw [q6]
      exact vc_Mo_squares_8_0 (v_iv (n_v vs 17)) (v_iv (n_v vs 18)) (v_iv (n_v vs 21)) (w_fi ws (n_v vs 0) 132) (w_ei ws (w_ar ws (n_v vs 0) 130)) k17 k18 k21 d0 d1 d3 g5 kz_0_132
  have nf1 : fc_1 PRD (20, [23, 6, 17], [50, 0, 1, 1131, 1, 2, 1, 0, 3, 1, 131, 1, 2]) ws (vs) := by
    refine ⟨nf_in hl rfl, sgq_1277 ?_⟩
    · show v_iv (n_v vs 23) = w_ei ws (w_ar ws (n_v vs 6) 131) (v_iv (n_v vs 17))
      rw [q6]
      exact vc_Mo_squares_8_1 (v_iv (n_v vs 17)) (v_iv (n_v vs 21)) (v_iv (n_v vs 23)) (w_ei ws (w_ar ws (n_v vs 0) 131)) (w_ei ws (w_ar ws (n_v vs 0) 130)) k17 k23 h0
  refine ⟨(fun _ h => (by cases h)), [], trivial, ?_, (fun _ h => (by cases h))⟩
  rw [List.append_nil]
  exact List.forall_mem_cons.mpr ⟨⟨show (20 : Nat) < 100 from by decide, nf0⟩, List.forall_mem_cons.mpr ⟨⟨show (20 : Nat) < 100 from by decide, nf1⟩, (fun _ h => (by cases h))⟩⟩
set_option maxHeartbeats 4000000 in
theorem vc_Mo_squares_9_0 (x16 : Int) (x17 : Int) (x21 : Int) (x23 : Int) (itemMany_0 : Int) (itemSize_0 : Int → Int) (itemOf_0 : Int → Int) (k16 : (-95999) ≤ x16 ∧ x16 ≤ 98400) (k17 : 0 ≤ x17 ∧ x17 ≤ 39) (k21 : 1 ≤ x21 ∧ x21 ≤ 40) (k23 : 0 ≤ x23 ∧ x23 ≤ 4095) (d0 : x17 + 1 ≤ x21 ∧ x21 ≤ x17 + 1) (f0 : (x17 + 1) ≤ itemMany_0) (f1 : x23 = itemSize_0 (x17)) (f2 : SQ2 (itemMany_0) (itemOf_0) (itemSize_0) (x16) (x17)) (kz_0_132 : 0 ≤ itemMany_0 ∧ itemMany_0 ≤ 40) : SQ3 (itemMany_0) (itemOf_0) (itemSize_0) (x16) (x17) (x21) (x23) := by
  first
    | exact sq3_start ‹SQ2 _ _ _ _ _› (by omega) (by omega) (by assumption)
set_option maxHeartbeats 4000000 in
theorem vc_Mo_squares_9_1 (x14 : Int) (x15 : Int) (x19 : Int) (k14 : (-512) ≤ x14 ∧ x14 ≤ 512) (k15 : (-512) ≤ x15 ∧ x15 ≤ 512) (k19 : 1 ≤ x19 ∧ x19 ≤ 1) (f11 : x19 ≠ 0) : SQA (x19) (x14) (x15) (x14) (x15) := by
  first
    | assumption
    | exact Or.inl ⟨by omega, rfl, rfl⟩
    | exact Or.inr ⟨by omega, rfl, rfl⟩
def o_Mo_squares_9 : or_T := (132, 24, [(0, (2, 0, 0, [165])), (1, (0, 0, 3, [])), (6, (2, 0, 0, [165])), (7, (0, 0, 3, [])), (12, (0, 0, 512, [])), (13, (0, 0, 512, [])), (14, (0, -512, 512, [])), (15, (0, -512, 512, [])), (16, (0, -95999, 98400, [])), (17, (0, 0, 39, [])), (18, (0, 1, 40, [])), (19, (0, 1, 1, [])), (20, (0, 1, 1, [])), (21, (0, 1, 40, [])), (23, (0, 0, 4095, []))], [(20, [17, 6], [50, 1, 0, 1132, 0, 6, 4, 2, 1, 0, 0, 1, 2, 1, 132]), (20, [23, 6, 17], [50, 0, 1, 1131, 1, 2, 1, 0, 3, 1, 131, 1, 2]), (20, [6, 16, 17], [60, 1, 2, 776, 132, 130, 131]), (20, [12, 14], [61, 0, 791]), (20, [13, 15], [61, 0, 791]), (20, [6, 7], [60, 0, 1, 789, 72]), (24, [0, 6], []), (24, [1, 7], []), (102, [23], [0, 165133, 165134]), (1, [21, 17, 20], []), (8, [19], [1]), (8, [19], [1]), (7, [14, 15], [5]), (7, [17, 18], [2])], [], [], [(20, [6, 16, 17, 21, 23], [60, 1, 2, 777, 132, 130, 131]), (20, [19, 14, 15, 14, 15], [61, 0, 792])], [], [(21, 17, 1, 1), (21, 18, -4294967296, 0), (14, 15, -4294967296, 0), (17, 18, -4294967296, -1), (1, 7, -4294967296, 0), (7, 1, -4294967296, 0)])
theorem oo_Mo_squares_9 {kA : Nat → ClassId} : or_ok PRD kA GG o_Mo_squares_9 := by
  refine or_mk fun A ta ws vs hD hth hl => ?_
  intro t0 r0 t1 k1 t6 r6 t7 k7 t12 k12 t13 k13 t14 k14 t15 k15 t16 k16 t17 k17 t18 k18 t19 k19 t20 k20 t21 k21 t23 k23 d0 d1 d2 d3 d4 d5 f0 f1 f2 f3 f4 f5 f6 f7 ta1 w1 le1 s1 f9 f10 f11 f12 f13
  replace f0 := shm_1276 f0
  replace f1 := shm_1277 f1
  replace f2 := shm_1275 f2
  replace f6 := shm_5 f6
  replace f11 := shm_142 f11
  have q6 : n_v vs 6 = n_v vs 0 := f6.symm
  simp only [q6] at f0 f1 f2
  have kz_0_132 := fdq_152 hD hth r0
  have nf0 : fc_1 PRD (20, [6, 16, 17, 21, 23], [60, 1, 2, 777, 132, 130, 131]) ws (vs) := by
    refine ⟨nf_in hl rfl, sgq_1278 ?_⟩
    · show SQ3 (w_fi ws (n_v vs 6) 132) (w_ei ws (w_ar ws (n_v vs 6) 130)) (w_ei ws (w_ar ws (n_v vs 6) 131)) (v_iv (n_v vs 16)) (v_iv (n_v vs 17)) (v_iv (n_v vs 21)) (v_iv (n_v vs 23))
      rw [q6]
      exact vc_Mo_squares_9_0 (v_iv (n_v vs 16)) (v_iv (n_v vs 17)) (v_iv (n_v vs 21)) (v_iv (n_v vs 23)) (w_fi ws (n_v vs 0) 132) (w_ei ws (w_ar ws (n_v vs 0) 131)) (w_ei ws (w_ar ws (n_v vs 0) 130)) k16 k17 k21 k23 d0 f0 f1 f2 kz_0_132
  have nf1 : fc_1 PRD (20, [19, 14, 15, 14, 15], [61, 0, 792]) ws (vs) := ⟨nf_in hl rfl, sgq_1280 (vc_Mo_squares_9_1 (v_iv (n_v vs 14)) (v_iv (n_v vs 15)) (v_iv (n_v vs 19)) k14 k15 k19 f11)⟩
  refine ⟨(fun _ h => (by cases h)), [], trivial, ?_, (fun _ h => (by cases h))⟩
  rw [List.append_nil]
  exact List.forall_mem_cons.mpr ⟨⟨show (20 : Nat) < 100 from by decide, nf0⟩, List.forall_mem_cons.mpr ⟨⟨show (20 : Nat) < 100 from by decide, nf1⟩, (fun _ h => (by cases h))⟩⟩
set_option maxHeartbeats 4000000 in
theorem vc_Mo_squares_10_r0 (x16 : Int) (x17 : Int) (x21 : Int) (x22 : Int) (x23 : Int) (x25 : Int) (x26 : Int) (x27 : Int) (itemMany_0 : Int) (itemOf_0 : Int → Int) (itemSize_0 : Int → Int) (k16 : (-95999) ≤ x16 ∧ x16 ≤ 98400) (k17 : 0 ≤ x17 ∧ x17 ≤ 39) (k21 : 1 ≤ x21 ∧ x21 ≤ 40) (k22 : 0 ≤ x22 ∧ x22 ≤ 98400) (k23 : 0 ≤ x23 ∧ x23 ≤ 40) (k25 : 0 ≤ x25 ∧ x25 ≤ 98400) (k27 : (-95999) ≤ x27 ∧ x27 ≤ 98400) (f0 : x27 = x16) (f2 : x25 = x22) (g5 : x23 = itemMany_0) (f7 : SQ3 (itemMany_0) (itemOf_0) (itemSize_0) (x16) (x17) (x21) (x22)) (kz_0_132 : 0 ≤ itemMany_0 ∧ itemMany_0 ≤ 40) : 1 ≤ x27 ∧ x27 ≤ 96000 := by
  first
    | (have h := sq3_bd ‹SQ3 _ _ _ _ _ _ _› (by omega); omega)
    | (have h := sq3_bd ‹SQ3 _ _ _ _ _ _ _› (by omega); have g := ‹SQ3 _ _ _ _ _ _ _›; have q := (g.1.1 x21 (by omega) (by have := g.2; omega)).2; omega)
def o_Mo_squares_10 : or_T := (242, 28, [(0, (2, 0, 0, [165])), (1, (0, 0, 3, [])), (6, (2, 0, 0, [165])), (7, (0, 0, 3, [])), (12, (0, 0, 512, [])), (13, (0, 0, 512, [])), (14, (0, -512, 512, [])), (15, (0, -512, 512, [])), (16, (0, -95999, 98400, [])), (17, (0, 0, 39, [])), (18, (0, 0, 1, [])), (19, (0, -512, 512, [])), (20, (0, -512, 512, [])), (21, (0, 1, 40, [])), (22, (0, 0, 98400, [])), (23, (0, 0, 40, [])), (24, (1, -512, 512, [])), (25, (1, 0, 98400, [])), (26, (1, -50380800, 50380800, [])), (27, (1, -95999, 98400, []))], [(22, [27, 16], []), (3, [26, 24, 25], []), (22, [25, 22], []), (22, [24, 20], []), (7, [21, 23], [1]), (9, [23, 6], [132]), (7, [21, 23], [3]), (20, [6, 16, 17, 21, 22], [60, 1, 2, 777, 132, 130, 131]), (20, [12, 14], [61, 0, 791]), (20, [13, 15], [61, 0, 791]), (20, [6, 7], [60, 0, 1, 789, 72]), (20, [18, 14, 15, 19, 20], [61, 0, 792]), (24, [0, 6], []), (24, [1, 7], [])], [(27, (1, 1, 96000, []))], [], [], [], [(21, 23, 0, 4294967296), (1, 7, -4294967296, 0), (7, 1, -4294967296, 0), (14, 20, -4294967296, 0), (15, 18, -4294967296, 511), (15, 20, -4294967296, 0), (17, 21, -4294967296, -1), (19, 14, -4294967296, 0), (19, 15, -4294967296, 0), (19, 18, -4294967296, 511), (19, 20, -4294967296, 0)])
theorem oo_Mo_squares_10 {kA : Nat → ClassId} : or_ok PRD kA GG o_Mo_squares_10 := by
  refine or_mk fun A ta ws vs hD hth hl => ?_
  intro t0 r0 t1 k1 t6 r6 t7 k7 t12 k12 t13 k13 t14 k14 t15 k15 t16 k16 t17 k17 t18 k18 t19 k19 t20 k20 t21 k21 t22 k22 t23 k23 t24 k24 t25 k25 t26 k26 t27 k27 d0 d1 d2 d3 d4 d5 d6 d7 d8 d9 d10 f0 f1 f2 f3 f4 f5 f6 f7 f8 f9 f10 f11 f12 f13
  replace f5 := shm_587 f5
  replace f7 := shm_1278 f7
  replace f12 := shm_5 f12
  have q6 : n_v vs 6 = n_v vs 0 := f12.symm
  simp only [q6] at f5 f7
  have g5 : v_iv (n_v vs 23) = w_fi ws (n_v vs 0) 132 := congrArg v_iv f5
  have kz_0_132 := fdq_152 hD hth r0
  have hrf0 : 1 ≤ v_iv (n_v vs 27) ∧ v_iv (n_v vs 27) ≤ 96000 := vc_Mo_squares_10_r0 (v_iv (n_v vs 16)) (v_iv (n_v vs 17)) (v_iv (n_v vs 21)) (v_iv (n_v vs 22)) (v_iv (n_v vs 23)) (v_iv (n_v vs 25)) (v_iv (n_v vs 26)) (v_iv (n_v vs 27)) (w_fi ws (n_v vs 0) 132) (w_ei ws (w_ar ws (n_v vs 0) 130)) (w_ei ws (w_ar ws (n_v vs 0) 131)) k16 k17 k21 k22 k23 k25 k27 (shm_47 f0) (shm_47 f2) g5 f7 kz_0_132
  have rf27 : tv_ok ta (1, 1, 96000, []) (n_v vs 27) := tv_inL t27 (by first | omega | grind) (by first | omega | grind)
  refine ⟨List.forall_mem_cons.mpr ⟨rf27, (fun _ h => (by cases h))⟩, [], trivial, ?_, (fun _ h => (by cases h))⟩
  rw [List.append_nil]
  exact (fun _ h => (by cases h))
set_option maxHeartbeats 4000000 in
theorem vc_Mo_squares_11_r0 (x16 : Int) (x17 : Int) (x20 : Int) (x21 : Int) (x22 : Int) (x23 : Int) (x24 : Int) (x25 : Int) (x26 : Int) (x27 : Int) (x28 : Int) (itemMany_0 : Int) (itemOf_0 : Int → Int) (itemSize_0 : Int → Int) (k16 : (-95999) ≤ x16 ∧ x16 ≤ 98400) (k17 : 0 ≤ x17 ∧ x17 ≤ 39) (k20 : (-512) ≤ x20 ∧ x20 ≤ 512) (k21 : 1 ≤ x21 ∧ x21 ≤ 40) (k22 : 0 ≤ x22 ∧ x22 ≤ 98400) (k23 : 0 ≤ x23 ∧ x23 ≤ 40) (k24 : (-512) ≤ x24 ∧ x24 ≤ 512) (k25 : 0 ≤ x25 ∧ x25 ≤ 98400) (k26 : (-50380800) ≤ x26 ∧ x26 ≤ 50380800) (k27 : 1 ≤ x27 ∧ x27 ≤ 96000) (k28 : (-50380800) ≤ x28 ∧ x28 ≤ 50380800) (f0 : x28 = Int.tdiv (x26) (x27)) (f1 : x27 = x16) (f2 : x26 = x24 * x25) (f3 : x25 = x22) (f4 : x24 = x20) (g6 : x23 = itemMany_0) (f8 : SQ3 (itemMany_0) (itemOf_0) (itemSize_0) (x16) (x17) (x21) (x22)) (kz_0_132 : 0 ≤ itemMany_0 ∧ itemMany_0 ≤ 40) : (-512) ≤ x28 ∧ x28 ≤ 512 := by
  have h := sq3_bd ‹SQ3 _ _ _ _ _ _ _› (by omega)
  exact btw_bd (a := x20) (btw_d rfl (by assumption) (by assumption) (by assumption) (by assumption) (by assumption) (by omega) (by omega) (by omega)) (by omega) (by omega)
def o_Mo_squares_11 : or_T := (243, 29, [(0, (2, 0, 0, [165])), (1, (0, 0, 3, [])), (6, (2, 0, 0, [165])), (7, (0, 0, 3, [])), (12, (0, 0, 512, [])), (13, (0, 0, 512, [])), (14, (0, -512, 512, [])), (15, (0, -512, 512, [])), (16, (0, -95999, 98400, [])), (17, (0, 0, 39, [])), (18, (0, 0, 1, [])), (19, (0, -512, 512, [])), (20, (0, -512, 512, [])), (21, (0, 1, 40, [])), (22, (0, 0, 98400, [])), (23, (0, 0, 40, [])), (24, (1, -512, 512, [])), (25, (1, 0, 98400, [])), (26, (1, -50380800, 50380800, [])), (27, (1, 1, 96000, [])), (28, (1, -50380800, 50380800, []))], [(4, [28, 26, 27], []), (22, [27, 16], []), (3, [26, 24, 25], []), (22, [25, 22], []), (22, [24, 20], []), (7, [21, 23], [1]), (9, [23, 6], [132]), (7, [21, 23], [3]), (20, [6, 16, 17, 21, 22], [60, 1, 2, 777, 132, 130, 131]), (20, [12, 14], [61, 0, 791]), (20, [13, 15], [61, 0, 791]), (20, [6, 7], [60, 0, 1, 789, 72]), (20, [18, 14, 15, 19, 20], [61, 0, 792]), (24, [0, 6], []), (24, [1, 7], [])], [(28, (1, -512, 512, []))], [], [], [], [(21, 23, 0, 4294967296), (1, 7, -4294967296, 0), (7, 1, -4294967296, 0), (14, 20, -4294967296, 0), (15, 18, -4294967296, 511), (15, 20, -4294967296, 0), (17, 21, -4294967296, -1), (19, 14, -4294967296, 0), (19, 15, -4294967296, 0), (19, 18, -4294967296, 511), (19, 20, -4294967296, 0)])
theorem oo_Mo_squares_11 {kA : Nat → ClassId} : or_ok PRD kA GG o_Mo_squares_11 := by
  refine or_mk fun A ta ws vs hD hth hl => ?_
  intro t0 r0 t1 k1 t6 r6 t7 k7 t12 k12 t13 k13 t14 k14 t15 k15 t16 k16 t17 k17 t18 k18 t19 k19 t20 k20 t21 k21 t22 k22 t23 k23 t24 k24 t25 k25 t26 k26 t27 k27 t28 k28 d0 d1 d2 d3 d4 d5 d6 d7 d8 d9 d10 f0 f1 f2 f3 f4 f5 f6 f7 f8 f9 f10 f11 f12 f13 f14
  replace f6 := shm_587 f6
  replace f8 := shm_1278 f8
  replace f13 := shm_5 f13
  have q6 : n_v vs 6 = n_v vs 0 := f13.symm
  simp only [q6] at f6 f8
  have g6 : v_iv (n_v vs 23) = w_fi ws (n_v vs 0) 132 := congrArg v_iv f6
  have kz_0_132 := fdq_152 hD hth r0
  have hrf0 : (-512) ≤ v_iv (n_v vs 28) ∧ v_iv (n_v vs 28) ≤ 512 := vc_Mo_squares_11_r0 (v_iv (n_v vs 16)) (v_iv (n_v vs 17)) (v_iv (n_v vs 20)) (v_iv (n_v vs 21)) (v_iv (n_v vs 22)) (v_iv (n_v vs 23)) (v_iv (n_v vs 24)) (v_iv (n_v vs 25)) (v_iv (n_v vs 26)) (v_iv (n_v vs 27)) (v_iv (n_v vs 28)) (w_fi ws (n_v vs 0) 132) (w_ei ws (w_ar ws (n_v vs 0) 130)) (w_ei ws (w_ar ws (n_v vs 0) 131)) k16 k17 k20 k21 k22 k23 k24 k25 k26 k27 k28 (shm_34 f0) (shm_47 f1) (shm_38 f2) (shm_47 f3) (shm_47 f4) g6 f8 kz_0_132
  have rf28 : tv_ok ta (1, -512, 512, []) (n_v vs 28) := tv_inL t28 (by first | omega | grind) (by first | omega | grind)
  refine ⟨List.forall_mem_cons.mpr ⟨rf28, (fun _ h => (by cases h))⟩, [], trivial, ?_, (fun _ h => (by cases h))⟩
  rw [List.append_nil]
  exact (fun _ h => (by cases h))
set_option maxHeartbeats 4000000 in
theorem vc_Mo_squares_12_0 (x17 : Int) (x21 : Int) (x26 : Int) (itemOf_0 : Int → Int) (k17 : 0 ≤ x17 ∧ x17 ≤ 39) : x17 ≤ x17 := by
  first
    | omega
    | (have g := ‹SQ3 _ _ _ _ _ _ _›
       have q := (g.1.1 x26 (by omega) (by have := g.2; omega)).1
       have e1 : x37 = itemOf_0 x26 := by assumption
       have e2 : x34 = itemOf_0 x26 := by assumption
       rw [← e1] at q
       rw [← e1] at e2
       omega)
set_option maxHeartbeats 4000000 in
theorem vc_Mo_squares_12_1 (x16 : Int) (x17 : Int) (x20 : Int) (x21 : Int) (x22 : Int) (x23 : Int) (x24 : Int) (x25 : Int) (x26 : Int) (x27 : Int) (x28 : Int) (x29 : Int) (itemMany_0 : Int) (itemOf_0 : Int → Int) (itemSize_0 : Int → Int) (k16 : (-95999) ≤ x16 ∧ x16 ≤ 98400) (k17 : 0 ≤ x17 ∧ x17 ≤ 39) (k20 : (-512) ≤ x20 ∧ x20 ≤ 512) (k21 : 1 ≤ x21 ∧ x21 ≤ 40) (k22 : 0 ≤ x22 ∧ x22 ≤ 98400) (k23 : 0 ≤ x23 ∧ x23 ≤ 40) (k24 : (-512) ≤ x24 ∧ x24 ≤ 512) (k25 : 0 ≤ x25 ∧ x25 ≤ 98400) (k26 : (-50380800) ≤ x26 ∧ x26 ≤ 50380800) (k27 : 1 ≤ x27 ∧ x27 ≤ 96000) (k28 : (-512) ≤ x28 ∧ x28 ≤ 512) (k29 : (-512) ≤ x29 ∧ x29 ≤ 512) (f0 : x29 = x28) (f1 : x28 = Int.tdiv (x26) (x27)) (f2 : x27 = x16) (f3 : x26 = x24 * x25) (f4 : x25 = x22) (f5 : x24 = x20) (g7 : x23 = itemMany_0) (f9 : SQ3 (itemMany_0) (itemOf_0) (itemSize_0) (x16) (x17) (x21) (x22)) (kz_0_132 : 0 ≤ itemMany_0 ∧ itemMany_0 ≤ 40) : BTW (x29) (x20) := by
  first
    | (have h := sq3_bd ‹SQ3 _ _ _ _ _ _ _› (by omega)
       exact btw_d (by assumption) (by assumption) (by assumption) (by assumption) (by assumption) (by assumption) (by omega) (by omega) (by omega))
set_option maxHeartbeats 4000000 in
theorem vc_Mo_squares_12_2 (x19 : Int) (x30 : Int) (k19 : (-512) ≤ x19 ∧ x19 ≤ 512) (k30 : 0 ≤ x30 ∧ x30 ≤ 0) : BTW (x30) (x19) := by
  first
    | exact btw_00 (by omega)
set_option maxHeartbeats 4000000 in
theorem vc_Mo_squares_12_3 (x16 : Int) (x17 : Int) (x21 : Int) (x22 : Int) (x26 : Int) (x31 : Int) (itemMany_0 : Int) (itemOf_0 : Int → Int) (itemSize_0 : Int → Int) (k16 : (-95999) ≤ x16 ∧ x16 ≤ 98400) (k17 : 0 ≤ x17 ∧ x17 ≤ 39) (k21 : 1 ≤ x21 ∧ x21 ≤ 40) (k22 : 0 ≤ x22 ∧ x22 ≤ 98400) (k31 : 0 ≤ x31 ∧ x31 ≤ 0) (f9 : SQ3 (itemMany_0) (itemOf_0) (itemSize_0) (x16) (x17) (x21) (x22)) (kz_0_132 : 0 ≤ itemMany_0 ∧ itemMany_0 ≤ 40) : SQ4 (itemMany_0) (itemOf_0) (itemSize_0) (x16) (x17) (x21) (x22) (x17) (x31) := by
  first
    | exact sq4_start ‹SQ3 _ _ _ _ _ _ _› (by omega) (by omega)
def o_Mo_squares_12 : or_T := (256, 32, [(0, (2, 0, 0, [165])), (16, (0, -95999, 98400, [])), (17, (0, 0, 39, [])), (19, (0, -512, 512, [])), (20, (0, -512, 512, [])), (21, (0, 1, 40, [])), (22, (0, 0, 98400, [])), (23, (0, 0, 40, [])), (24, (1, -512, 512, [])), (25, (1, 0, 98400, [])), (26, (1, -50380800, 50380800, [])), (27, (1, 1, 96000, [])), (28, (1, -512, 512, [])), (29, (0, -512, 512, [])), (30, (0, 0, 0, [])), (31, (0, 0, 0, []))], [(22, [29, 28], []), (4, [28, 26, 27], []), (22, [27, 16], []), (3, [26, 24, 25], []), (22, [25, 22], []), (22, [24, 20], []), (9, [23, 6], [132]), (20, [6, 16, 17, 21, 22], [60, 1, 2, 777, 132, 130, 131]), (24, [0, 6], [])], [], [], [(20, [17, 17], [50, 0, 0, 0, 2, 1, 0, 1, 1]), (20, [29, 20], [61, 0, 793]), (20, [30, 19], [61, 0, 793]), (20, [6, 16, 17, 21, 22, 17, 31], [60, 1, 2, 794, 132, 130, 131])], [], [])
theorem oo_Mo_squares_12 {kA : Nat → ClassId} : or_ok PRD kA GG o_Mo_squares_12 := by
  refine or_mk fun A ta ws vs hD hth hl => ?_
  intro t0 r0 t16 k16 t17 k17 t19 k19 t20 k20 t21 k21 t22 k22 t23 k23 t24 k24 t25 k25 t26 k26 t27 k27 t28 k28 t29 k29 t30 k30 t31 k31 f0 f1 f2 f3 f4 f5 f7 f9 f14
  replace f0 := shm_47 f0
  replace f1 := shm_34 f1
  replace f2 := shm_47 f2
  replace f3 := shm_38 f3
  replace f4 := shm_47 f4
  replace f5 := shm_47 f5
  replace f7 := shm_587 f7
  replace f9 := shm_1278 f9
  replace f14 := shm_5 f14
  have q6 : n_v vs 6 = n_v vs 0 := f14.symm
  simp only [q6] at f7 f9
  have g7 : v_iv (n_v vs 23) = w_fi ws (n_v vs 0) 132 := congrArg v_iv f7
  have kz_0_132 := fdq_152 hD hth r0
  have nf0 : fc_1 PRD (20, [17, 17], [50, 0, 0, 0, 2, 1, 0, 1, 1]) ws (vs) := ⟨nf_in hl rfl, sgq_972 (vc_Mo_squares_12_0 (v_iv (n_v vs 17)) (v_iv (n_v vs 21)) (v_iv (n_v vs 26)) (w_ei ws (w_ar ws (n_v vs 0) 130)) k17)⟩
  have nf1 : fc_1 PRD (20, [29, 20], [61, 0, 793]) ws (vs) := ⟨nf_in hl rfl, sgq_890 (vc_Mo_squares_12_1 (v_iv (n_v vs 16)) (v_iv (n_v vs 17)) (v_iv (n_v vs 20)) (v_iv (n_v vs 21)) (v_iv (n_v vs 22)) (v_iv (n_v vs 23)) (v_iv (n_v vs 24)) (v_iv (n_v vs 25)) (v_iv (n_v vs 26)) (v_iv (n_v vs 27)) (v_iv (n_v vs 28)) (v_iv (n_v vs 29)) (w_fi ws (n_v vs 0) 132) (w_ei ws (w_ar ws (n_v vs 0) 130)) (w_ei ws (w_ar ws (n_v vs 0) 131)) k16 k17 k20 k21 k22 k23 k24 k25 k26 k27 k28 k29 f0 f1 f2 f3 f4 f5 g7 f9 kz_0_132)⟩
  have nf2 : fc_1 PRD (20, [30, 19], [61, 0, 793]) ws (vs) := ⟨nf_in hl rfl, sgq_890 (vc_Mo_squares_12_2 (v_iv (n_v vs 19)) (v_iv (n_v vs 30)) k19 k30)⟩
  have nf3 : fc_1 PRD (20, [6, 16, 17, 21, 22, 17, 31], [60, 1, 2, 794, 132, 130, 131]) ws (vs) := by
    refine ⟨nf_in hl rfl, sgq_1282 ?_⟩
    · show SQ4 (w_fi ws (n_v vs 6) 132) (w_ei ws (w_ar ws (n_v vs 6) 130)) (w_ei ws (w_ar ws (n_v vs 6) 131)) (v_iv (n_v vs 16)) (v_iv (n_v vs 17)) (v_iv (n_v vs 21)) (v_iv (n_v vs 22)) (v_iv (n_v vs 17)) (v_iv (n_v vs 31))
      rw [q6]
      exact vc_Mo_squares_12_3 (v_iv (n_v vs 16)) (v_iv (n_v vs 17)) (v_iv (n_v vs 21)) (v_iv (n_v vs 22)) (v_iv (n_v vs 26)) (v_iv (n_v vs 31)) (w_fi ws (n_v vs 0) 132) (w_ei ws (w_ar ws (n_v vs 0) 130)) (w_ei ws (w_ar ws (n_v vs 0) 131)) k16 k17 k21 k22 k31 f9 kz_0_132
  refine ⟨(fun _ h => (by cases h)), [], trivial, ?_, (fun _ h => (by cases h))⟩
  rw [List.append_nil]
  exact List.forall_mem_cons.mpr ⟨⟨show (20 : Nat) < 100 from by decide, nf0⟩, List.forall_mem_cons.mpr ⟨⟨show (20 : Nat) < 100 from by decide, nf1⟩, List.forall_mem_cons.mpr ⟨⟨show (20 : Nat) < 100 from by decide, nf2⟩, List.forall_mem_cons.mpr ⟨⟨show (20 : Nat) < 100 from by decide, nf3⟩, (fun _ h => (by cases h))⟩⟩⟩⟩
set_option maxHeartbeats 4000000 in
theorem vc_Mo_squares_13_0 (x17 : Int) (x21 : Int) (itemOf_0 : Int → Int) (k17 : 0 ≤ x17 ∧ x17 ≤ 39) : x17 ≤ x17 := by
  first
    | omega
    | (have g := ‹SQ3 _ _ _ _ _ _ _›
       have q := (g.1.1 x26 (by omega) (by have := g.2; omega)).1
       have e1 : x37 = itemOf_0 x26 := by assumption
       have e2 : x34 = itemOf_0 x26 := by assumption
       rw [← e1] at q
       rw [← e1] at e2
       omega)
set_option maxHeartbeats 4000000 in
theorem vc_Mo_squares_13_1 (x20 : Int) (k20 : (-512) ≤ x20 ∧ x20 ≤ 512) : BTW (x20) (x20) := by
  first
    | exact btw_all _
set_option maxHeartbeats 4000000 in
theorem vc_Mo_squares_13_2 (x19 : Int) (x24 : Int) (k19 : (-512) ≤ x19 ∧ x19 ≤ 512) (k24 : 0 ≤ x24 ∧ x24 ≤ 0) : BTW (x24) (x19) := by
  first
    | exact btw_00 (by omega)
set_option maxHeartbeats 4000000 in
theorem vc_Mo_squares_13_3 (x16 : Int) (x17 : Int) (x21 : Int) (x22 : Int) (x25 : Int) (itemMany_0 : Int) (itemOf_0 : Int → Int) (itemSize_0 : Int → Int) (k16 : (-95999) ≤ x16 ∧ x16 ≤ 98400) (k17 : 0 ≤ x17 ∧ x17 ≤ 39) (k21 : 1 ≤ x21 ∧ x21 ≤ 40) (k22 : 0 ≤ x22 ∧ x22 ≤ 98400) (k25 : 0 ≤ x25 ∧ x25 ≤ 0) (f3 : SQ3 (itemMany_0) (itemOf_0) (itemSize_0) (x16) (x17) (x21) (x22)) (kz_0_132 : 0 ≤ itemMany_0 ∧ itemMany_0 ≤ 40) : SQ4 (itemMany_0) (itemOf_0) (itemSize_0) (x16) (x17) (x21) (x22) (x17) (x25) := by
  first
    | exact sq4_start ‹SQ3 _ _ _ _ _ _ _› (by omega) (by omega)
def o_Mo_squares_13 : or_T := (256, 26, [(0, (2, 0, 0, [165])), (16, (0, -95999, 98400, [])), (17, (0, 0, 39, [])), (19, (0, -512, 512, [])), (20, (0, -512, 512, [])), (21, (0, 1, 40, [])), (22, (0, 0, 98400, [])), (24, (0, 0, 0, [])), (25, (0, 0, 0, []))], [(20, [6, 16, 17, 21, 22], [60, 1, 2, 777, 132, 130, 131]), (24, [0, 6], [])], [], [], [(20, [17, 17], [50, 0, 0, 0, 2, 1, 0, 1, 1]), (20, [20, 20], [61, 0, 793]), (20, [24, 19], [61, 0, 793]), (20, [6, 16, 17, 21, 22, 17, 25], [60, 1, 2, 794, 132, 130, 131])], [], [])
theorem oo_Mo_squares_13 {kA : Nat → ClassId} : or_ok PRD kA GG o_Mo_squares_13 := by
  refine or_mk fun A ta ws vs hD hth hl => ?_
  intro t0 r0 t16 k16 t17 k17 t19 k19 t20 k20 t21 k21 t22 k22 t24 k24 t25 k25 f3 f8
  replace f3 := shm_1278 f3
  replace f8 := shm_5 f8
  have q6 : n_v vs 6 = n_v vs 0 := f8.symm
  simp only [q6] at f3
  have kz_0_132 := fdq_152 hD hth r0
  have nf0 : fc_1 PRD (20, [17, 17], [50, 0, 0, 0, 2, 1, 0, 1, 1]) ws (vs) := ⟨nf_in hl rfl, sgq_972 (vc_Mo_squares_13_0 (v_iv (n_v vs 17)) (v_iv (n_v vs 21)) (w_ei ws (w_ar ws (n_v vs 0) 130)) k17)⟩
  have nf1 : fc_1 PRD (20, [20, 20], [61, 0, 793]) ws (vs) := ⟨nf_in hl rfl, sgq_1283 (vc_Mo_squares_13_1 (v_iv (n_v vs 20)) k20)⟩
  have nf2 : fc_1 PRD (20, [24, 19], [61, 0, 793]) ws (vs) := ⟨nf_in hl rfl, sgq_890 (vc_Mo_squares_13_2 (v_iv (n_v vs 19)) (v_iv (n_v vs 24)) k19 k24)⟩
  have nf3 : fc_1 PRD (20, [6, 16, 17, 21, 22, 17, 25], [60, 1, 2, 794, 132, 130, 131]) ws (vs) := by
    refine ⟨nf_in hl rfl, sgq_1282 ?_⟩
    · show SQ4 (w_fi ws (n_v vs 6) 132) (w_ei ws (w_ar ws (n_v vs 6) 130)) (w_ei ws (w_ar ws (n_v vs 6) 131)) (v_iv (n_v vs 16)) (v_iv (n_v vs 17)) (v_iv (n_v vs 21)) (v_iv (n_v vs 22)) (v_iv (n_v vs 17)) (v_iv (n_v vs 25))
      rw [q6]
      exact vc_Mo_squares_13_3 (v_iv (n_v vs 16)) (v_iv (n_v vs 17)) (v_iv (n_v vs 21)) (v_iv (n_v vs 22)) (v_iv (n_v vs 25)) (w_fi ws (n_v vs 0) 132) (w_ei ws (w_ar ws (n_v vs 0) 130)) (w_ei ws (w_ar ws (n_v vs 0) 131)) k16 k17 k21 k22 k25 f3 kz_0_132
  refine ⟨(fun _ h => (by cases h)), [], trivial, ?_, (fun _ h => (by cases h))⟩
  rw [List.append_nil]
  exact List.forall_mem_cons.mpr ⟨⟨show (20 : Nat) < 100 from by decide, nf0⟩, List.forall_mem_cons.mpr ⟨⟨show (20 : Nat) < 100 from by decide, nf1⟩, List.forall_mem_cons.mpr ⟨⟨show (20 : Nat) < 100 from by decide, nf2⟩, List.forall_mem_cons.mpr ⟨⟨show (20 : Nat) < 100 from by decide, nf3⟩, (fun _ h => (by cases h))⟩⟩⟩⟩
set_option maxHeartbeats 4000000 in
theorem vc_Mo_squares_14_0 (x17 : Int) (x21 : Int) (x23 : Int) (itemMany_0 : Int) (itemOf_0 : Int → Int) (k21 : 1 ≤ x21 ∧ x21 ≤ 39) (k23 : 2 ≤ x23 ∧ x23 ≤ 40) (d0 : x23 + (-4294967296) ≤ x21 ∧ x21 ≤ x23 + (-1)) (g1 : x23 = itemMany_0) (kz_0_132 : 0 ≤ itemMany_0 ∧ itemMany_0 ≤ 40) : (x21 + 1) ≤ itemMany_0 := by
  first
    | omega
    | (have g := ‹SQ3 _ _ _ _ _ _ _›
       have q := (g.1.1 x26 (by omega) (by have := g.2; omega)).1
       have e1 : x37 = itemOf_0 x26 := by assumption
       have e2 : x34 = itemOf_0 x26 := by assumption
       rw [← e1] at q
       rw [← e1] at e2
       omega)
def o_Mo_squares_14 : or_T := (153, 26, [(0, (2, 0, 0, [165])), (21, (0, 1, 39, [])), (23, (0, 2, 40, []))], [(9, [23, 6], [132]), (24, [0, 6], [])], [], [], [(20, [21, 6], [50, 1, 0, 1132, 0, 6, 4, 2, 1, 0, 0, 1, 2, 1, 132])], [], [(21, 23, -4294967296, -1)])
theorem oo_Mo_squares_14 {kA : Nat → ClassId} : or_ok PRD kA GG o_Mo_squares_14 := by
  refine or_mk fun A ta ws vs hD hth hl => ?_
  intro t0 r0 t21 k21 t23 k23 d0 f1 f7
  replace f1 := shm_587 f1
  replace f7 := shm_5 f7
  have q6 : n_v vs 6 = n_v vs 0 := f7.symm
  simp only [q6] at f1
  have g1 : v_iv (n_v vs 23) = w_fi ws (n_v vs 0) 132 := congrArg v_iv f1
  have kz_0_132 := fdq_152 hD hth r0
  have nf0 : fc_1 PRD (20, [21, 6], [50, 1, 0, 1132, 0, 6, 4, 2, 1, 0, 0, 1, 2, 1, 132]) ws (vs) := by
    refine ⟨nf_in hl rfl, sgq_1276 ?_⟩
    · show (v_iv (n_v vs 21) + 1) ≤ w_fi ws (n_v vs 6) 132
      rw [q6]
      exact vc_Mo_squares_14_0 (v_iv (n_v vs 17)) (v_iv (n_v vs 21)) (v_iv (n_v vs 23)) (w_fi ws (n_v vs 0) 132) (w_ei ws (w_ar ws (n_v vs 0) 130)) k21 k23 d0 g1 kz_0_132
  refine ⟨(fun _ h => (by cases h)), [], trivial, ?_, (fun _ h => (by cases h))⟩
  rw [List.append_nil]
  exact List.forall_mem_cons.mpr ⟨⟨show (20 : Nat) < 100 from by decide, nf0⟩, (fun _ h => (by cases h))⟩
set_option maxHeartbeats 4000000 in
theorem vc_Mo_squares_15_r0 (x16 : Int) (x17 : Int) (x21 : Int) (x22 : Int) (x26 : Int) (itemSize_0 : Int → Int) (itemMany_0 : Int) (itemOf_0 : Int → Int) (k16 : (-95999) ≤ x16 ∧ x16 ≤ 98400) (k17 : 0 ≤ x17 ∧ x17 ≤ 38) (k21 : 1 ≤ x21 ∧ x21 ≤ 39) (k22 : 0 ≤ x22 ∧ x22 ≤ 98400) (f3 : SQ3 (itemMany_0) (itemOf_0) (itemSize_0) (x16) (x17) (x21) (x22)) (kz_0_132 : 0 ≤ itemMany_0 ∧ itemMany_0 ≤ 40) : 1 ≤ x22 ∧ x22 ≤ 96000 := by
  first
    | (have h := sq3_bd ‹SQ3 _ _ _ _ _ _ _› (by omega); omega)
    | (have h := sq3_bd ‹SQ3 _ _ _ _ _ _ _› (by omega); have g := ‹SQ3 _ _ _ _ _ _ _›; have q := (g.1.1 x21 (by omega) (by have := g.2; omega)).2; omega)
set_option maxHeartbeats 4000000 in
theorem vc_Mo_squares_15_r1 (x16 : Int) (x17 : Int) (x21 : Int) (x22 : Int) (x26 : Int) (x27 : Int) (x35 : Int) (itemSize_0 : Int → Int) (itemMany_0 : Int) (itemOf_0 : Int → Int) (k16 : (-95999) ≤ x16 ∧ x16 ≤ 98400) (k17 : 0 ≤ x17 ∧ x17 ≤ 38) (k21 : 1 ≤ x21 ∧ x21 ≤ 39) (k22 : 0 ≤ x22 ∧ x22 ≤ 98400) (k27 : 2 ≤ x27 ∧ x27 ≤ 40) (k35 : 0 ≤ x35 ∧ x35 ≤ 4095) (d0 : x21 + 1 ≤ x27 ∧ x27 ≤ x21 + 1) (h0 : x35 = itemSize_0 (x21)) (f2 : (x21 + 1) ≤ itemMany_0) (f3 : SQ3 (itemMany_0) (itemOf_0) (itemSize_0) (x16) (x17) (x21) (x22)) (kz_0_132 : 0 ≤ itemMany_0 ∧ itemMany_0 ≤ 40) : 1 ≤ x35 ∧ x35 ≤ 2400 := by
  first
    | (have h := sq3_bd ‹SQ3 _ _ _ _ _ _ _› (by omega); omega)
    | (have h := sq3_bd ‹SQ3 _ _ _ _ _ _ _› (by omega); have g := ‹SQ3 _ _ _ _ _ _ _›; have q := (g.1.1 x21 (by omega) (by have := g.2; omega)).2; omega)
def o_Mo_squares_15 : or_T := (209, 36, [(0, (2, 0, 0, [165])), (1, (0, 0, 3, [])), (6, (2, 0, 0, [165])), (7, (0, 0, 3, [])), (12, (0, 0, 512, [])), (13, (0, 0, 512, [])), (14, (0, -512, 512, [])), (15, (0, -512, 512, [])), (16, (0, -95999, 98400, [])), (17, (0, 0, 38, [])), (18, (0, 0, 1, [])), (19, (0, -512, 512, [])), (20, (0, -512, 512, [])), (21, (0, 1, 39, [])), (22, (0, 0, 98400, [])), (23, (0, 2, 40, [])), (26, (0, 1, 1, [])), (27, (0, 2, 40, [])), (28, (2, 0, 0, [261])), (35, (0, 0, 4095, []))], [(10, [35, 28, 21], []), (9, [28, 6], [131]), (20, [21, 6], [50, 1, 0, 1132, 0, 6, 4, 2, 1, 0, 0, 1, 2, 1, 132]), (20, [6, 16, 17, 21, 22], [60, 1, 2, 777, 132, 130, 131]), (20, [12, 14], [61, 0, 791]), (20, [13, 15], [61, 0, 791]), (20, [6, 7], [60, 0, 1, 789, 72]), (20, [18, 14, 15, 19, 20], [61, 0, 792]), (24, [0, 6], []), (24, [1, 7], []), (102, [30], [0, 165133, 165134]), (1, [27, 21, 26], []), (7, [21, 23], [2])], [(22, (0, 1, 96000, [])), (35, (0, 1, 2400, []))], [], [], [], [(27, 21, 1, 1), (27, 23, -4294967296, 0), (21, 23, -4294967296, -1), (1, 7, -4294967296, 0), (7, 1, -4294967296, 0), (14, 20, -4294967296, 0), (15, 18, -4294967296, 511), (15, 20, -4294967296, 0), (17, 21, -4294967296, -1), (19, 14, -4294967296, 0), (19, 15, -4294967296, 0), (19, 18, -4294967296, 511), (19, 20, -4294967296, 0)])
theorem oo_Mo_squares_15 {kA : Nat → ClassId} : or_ok PRD kA GG o_Mo_squares_15 := by
  refine or_mk fun A ta ws vs hD hth hl => ?_
  intro t0 r0 t1 k1 t6 r6 t7 k7 t12 k12 t13 k13 t14 k14 t15 k15 t16 k16 t17 k17 t18 k18 t19 k19 t20 k20 t21 k21 t22 k22 t23 k23 t26 k26 t27 k27 t28 r28 t35 k35 d0 d1 d2 d3 d4 d5 d6 d7 d8 d9 d10 d11 d12 f0 f1 f2 f3 f4 f5 f6 f7 f8 f9 ta1 w1 le1 s1 f11 f12
  replace f0 := shm_107 f0
  replace f1 := shm_594 f1
  replace f2 := shm_1276 f2
  replace f3 := shm_1278 f3
  replace f8 := shm_5 f8
  have q6 : n_v vs 6 = n_v vs 0 := f8.symm
  simp only [q6] at f1 f2 f3
  have ad_28 : v_ad (n_v vs 28) = w_ar ws (n_v vs 0) 131 := congrArg v_ad f1
  simp only [ad_28] at f0
  have h0 : v_iv (n_v vs 35) = w_ei ws (w_ar ws (n_v vs 0) 131) (v_iv (n_v vs 21)) := f0
  have kz_0_132 := fdq_152 hD hth r0
  have hrf0 : 1 ≤ v_iv (n_v vs 22) ∧ v_iv (n_v vs 22) ≤ 96000 := vc_Mo_squares_15_r0 (v_iv (n_v vs 16)) (v_iv (n_v vs 17)) (v_iv (n_v vs 21)) (v_iv (n_v vs 22)) (v_iv (n_v vs 26)) (w_ei ws (w_ar ws (n_v vs 0) 131)) (w_fi ws (n_v vs 0) 132) (w_ei ws (w_ar ws (n_v vs 0) 130)) k16 k17 k21 k22 f3 kz_0_132
  have hrf1 : 1 ≤ v_iv (n_v vs 35) ∧ v_iv (n_v vs 35) ≤ 2400 := vc_Mo_squares_15_r1 (v_iv (n_v vs 16)) (v_iv (n_v vs 17)) (v_iv (n_v vs 21)) (v_iv (n_v vs 22)) (v_iv (n_v vs 26)) (v_iv (n_v vs 27)) (v_iv (n_v vs 35)) (w_ei ws (w_ar ws (n_v vs 0) 131)) (w_fi ws (n_v vs 0) 132) (w_ei ws (w_ar ws (n_v vs 0) 130)) k16 k17 k21 k22 k27 k35 d0 h0 f2 f3 kz_0_132
  have rf22 : tv_ok ta (0, 1, 96000, []) (n_v vs 22) := tv_in t22 (by first | omega | grind) (by first | omega | grind)
  have rf35 : tv_ok ta (0, 1, 2400, []) (n_v vs 35) := tv_in t35 (by first | omega | grind) (by first | omega | grind)
  refine ⟨List.forall_mem_cons.mpr ⟨rf22, List.forall_mem_cons.mpr ⟨rf35, (fun _ h => (by cases h))⟩⟩, [], trivial, ?_, (fun _ h => (by cases h))⟩
  rw [List.append_nil]
  exact (fun _ h => (by cases h))
set_option maxHeartbeats 4000000 in
theorem vc_Mo_squares_16_0 (x16 : Int) (x17 : Int) (x21 : Int) (x22 : Int) (x35 : Int) (x36 : Int) (x37 : Int) (itemSize_0 : Int → Int) (itemMany_0 : Int) (itemOf_0 : Int → Int) (k16 : (-95999) ≤ x16 ∧ x16 ≤ 98400) (k17 : 0 ≤ x17 ∧ x17 ≤ 38) (k21 : 1 ≤ x21 ∧ x21 ≤ 39) (k22 : 1 ≤ x22 ∧ x22 ≤ 96000) (k35 : 1 ≤ x35 ∧ x35 ≤ 2400) (k36 : 2 ≤ x36 ∧ x36 ≤ 98400) (k37 : 2 ≤ x37 ∧ x37 ≤ 40) (d0 : x21 + 1 ≤ x37 ∧ x37 ≤ x21 + 1) (f0 : x37 = x21 + 1) (f1 : x36 = x22 + x35) (h2 : x35 = itemSize_0 (x21)) (f4 : (x21 + 1) ≤ itemMany_0) (f5 : SQ3 (itemMany_0) (itemOf_0) (itemSize_0) (x16) (x17) (x21) (x22)) (kz_0_132 : 0 ≤ itemMany_0 ∧ itemMany_0 ≤ 40) : SQ3 (itemMany_0) (itemOf_0) (itemSize_0) (x16) (x17) (x37) (x36) := by
  first
    | exact sq3_step (v := itemSize_0 x21) ‹SQ3 _ _ _ _ _ _ _› (by omega) rfl (by omega) (by omega)
def o_Mo_squares_16 : or_T := (132, 38, [(0, (2, 0, 0, [165])), (16, (0, -95999, 98400, [])), (17, (0, 0, 38, [])), (21, (0, 1, 39, [])), (22, (0, 1, 96000, [])), (35, (0, 1, 2400, [])), (36, (0, 2, 98400, [])), (37, (0, 2, 40, []))], [(6, [37, 21], [1]), (1, [36, 22, 35], []), (10, [35, 28, 21], []), (9, [28, 6], [131]), (20, [21, 6], [50, 1, 0, 1132, 0, 6, 4, 2, 1, 0, 0, 1, 2, 1, 132]), (20, [6, 16, 17, 21, 22], [60, 1, 2, 777, 132, 130, 131]), (24, [0, 6], [])], [], [], [(20, [6, 16, 17, 37, 36], [60, 1, 2, 777, 132, 130, 131])], [], [(37, 21, 1, 1)])
theorem oo_Mo_squares_16 {kA : Nat → ClassId} : or_ok PRD kA GG o_Mo_squares_16 := by
  refine or_mk fun A ta ws vs hD hth hl => ?_
  intro t0 r0 t16 k16 t17 k17 t21 k21 t22 k22 t35 k35 t36 k36 t37 k37 d0 f0 f1 f2 f3 f4 f5 f10
  replace f0 := shm_4 f0
  replace f1 := shm_12 f1
  replace f2 := shm_107 f2
  replace f3 := shm_594 f3
  replace f4 := shm_1276 f4
  replace f5 := shm_1278 f5
  replace f10 := shm_5 f10
  have q6 : n_v vs 6 = n_v vs 0 := f10.symm
  simp only [q6] at f3 f4 f5
  have ad_28 : v_ad (n_v vs 28) = w_ar ws (n_v vs 0) 131 := congrArg v_ad f3
  simp only [ad_28] at f2
  have h2 : v_iv (n_v vs 35) = w_ei ws (w_ar ws (n_v vs 0) 131) (v_iv (n_v vs 21)) := f2
  have kz_0_132 := fdq_152 hD hth r0
  have nf0 : fc_1 PRD (20, [6, 16, 17, 37, 36], [60, 1, 2, 777, 132, 130, 131]) ws (vs) := by
    refine ⟨nf_in hl rfl, sgq_1278 ?_⟩
    · show SQ3 (w_fi ws (n_v vs 6) 132) (w_ei ws (w_ar ws (n_v vs 6) 130)) (w_ei ws (w_ar ws (n_v vs 6) 131)) (v_iv (n_v vs 16)) (v_iv (n_v vs 17)) (v_iv (n_v vs 37)) (v_iv (n_v vs 36))
      rw [q6]
      exact vc_Mo_squares_16_0 (v_iv (n_v vs 16)) (v_iv (n_v vs 17)) (v_iv (n_v vs 21)) (v_iv (n_v vs 22)) (v_iv (n_v vs 35)) (v_iv (n_v vs 36)) (v_iv (n_v vs 37)) (w_ei ws (w_ar ws (n_v vs 0) 131)) (w_fi ws (n_v vs 0) 132) (w_ei ws (w_ar ws (n_v vs 0) 130)) k16 k17 k21 k22 k35 k36 k37 d0 f0 f1 h2 f4 f5 kz_0_132
  refine ⟨(fun _ h => (by cases h)), [], trivial, ?_, (fun _ h => (by cases h))⟩
  rw [List.append_nil]
  exact List.forall_mem_cons.mpr ⟨⟨show (20 : Nat) < 100 from by decide, nf0⟩, (fun _ h => (by cases h))⟩
set_option maxHeartbeats 4000000 in
theorem vc_Mo_squares_17_r0 (x16 : Int) (x17 : Int) (x21 : Int) (x22 : Int) (x23 : Int) (x26 : Int) (x36 : Int) (x37 : Int) (x38 : Int) (itemMany_0 : Int) (itemOf_0 : Int → Int) (itemSize_0 : Int → Int) (k16 : (-95999) ≤ x16 ∧ x16 ≤ 98400) (k17 : 0 ≤ x17 ∧ x17 ≤ 38) (k21 : 1 ≤ x21 ∧ x21 ≤ 39) (k22 : 0 ≤ x22 ∧ x22 ≤ 98400) (k23 : 2 ≤ x23 ∧ x23 ≤ 40) (k36 : 0 ≤ x36 ∧ x36 ≤ 98400) (k38 : (-95999) ≤ x38 ∧ x38 ≤ 98400) (f0 : x38 = x16) (f2 : x36 = x22) (g5 : x23 = itemMany_0) (f7 : SQ3 (itemMany_0) (itemOf_0) (itemSize_0) (x16) (x17) (x21) (x22)) (kz_0_132 : 0 ≤ itemMany_0 ∧ itemMany_0 ≤ 40) : 1 ≤ x38 ∧ x38 ≤ 96000 := by
  first
    | (have h := sq3_bd ‹SQ3 _ _ _ _ _ _ _› (by omega); omega)
    | (have h := sq3_bd ‹SQ3 _ _ _ _ _ _ _› (by omega); have g := ‹SQ3 _ _ _ _ _ _ _›; have q := (g.1.1 x21 (by omega) (by have := g.2; omega)).2; omega)
def o_Mo_squares_17 : or_T := (242, 39, [(0, (2, 0, 0, [165])), (1, (0, 0, 3, [])), (6, (2, 0, 0, [165])), (7, (0, 0, 3, [])), (12, (0, 0, 512, [])), (13, (0, 0, 512, [])), (14, (0, -512, 512, [])), (15, (0, -512, 512, [])), (16, (0, -95999, 98400, [])), (17, (0, 0, 38, [])), (18, (0, 0, 1, [])), (19, (0, -512, 512, [])), (20, (0, -512, 512, [])), (21, (0, 1, 39, [])), (22, (0, 0, 98400, [])), (23, (0, 2, 40, [])), (26, (0, 1, 1, [])), (27, (0, 2, 40, [])), (35, (1, -512, 512, [])), (36, (1, 0, 98400, [])), (37, (1, -50380800, 50380800, [])), (38, (1, -95999, 98400, []))], [(22, [38, 16], []), (3, [37, 35, 36], []), (22, [36, 22], []), (22, [35, 20], []), (7, [21, 23], [1]), (9, [23, 6], [132]), (20, [21, 6], [50, 1, 0, 1132, 0, 6, 4, 2, 1, 0, 0, 1, 2, 1, 132]), (20, [6, 16, 17, 21, 22], [60, 1, 2, 777, 132, 130, 131]), (20, [12, 14], [61, 0, 791]), (20, [13, 15], [61, 0, 791]), (20, [6, 7], [60, 0, 1, 789, 72]), (20, [18, 14, 15, 19, 20], [61, 0, 792]), (24, [0, 6], []), (24, [1, 7], []), (102, [30], [0, 165133, 165134]), (1, [27, 21, 26], []), (7, [21, 23], [2])], [(38, (1, 1, 96000, []))], [], [], [], [(27, 21, 1, 1), (27, 23, -4294967296, 0), (21, 23, -4294967296, -1), (1, 7, -4294967296, 0), (7, 1, -4294967296, 0), (14, 20, -4294967296, 0), (15, 18, -4294967296, 511), (15, 20, -4294967296, 0), (17, 21, -4294967296, -1), (19, 14, -4294967296, 0), (19, 15, -4294967296, 0), (19, 18, -4294967296, 511), (19, 20, -4294967296, 0)])
theorem oo_Mo_squares_17 {kA : Nat → ClassId} : or_ok PRD kA GG o_Mo_squares_17 := by
  refine or_mk fun A ta ws vs hD hth hl => ?_
  intro t0 r0 t1 k1 t6 r6 t7 k7 t12 k12 t13 k13 t14 k14 t15 k15 t16 k16 t17 k17 t18 k18 t19 k19 t20 k20 t21 k21 t22 k22 t23 k23 t26 k26 t27 k27 t35 k35 t36 k36 t37 k37 t38 k38 d0 d1 d2 d3 d4 d5 d6 d7 d8 d9 d10 d11 d12 f0 f1 f2 f3 f4 f5 f6 f7 f8 f9 f10 f11 f12 f13 ta1 w1 le1 s1 f15 f16
  replace f5 := shm_587 f5
  replace f7 := shm_1278 f7
  replace f12 := shm_5 f12
  have q6 : n_v vs 6 = n_v vs 0 := f12.symm
  simp only [q6] at f5 f7
  have g5 : v_iv (n_v vs 23) = w_fi ws (n_v vs 0) 132 := congrArg v_iv f5
  have kz_0_132 := fdq_152 hD hth r0
  have hrf0 : 1 ≤ v_iv (n_v vs 38) ∧ v_iv (n_v vs 38) ≤ 96000 := vc_Mo_squares_17_r0 (v_iv (n_v vs 16)) (v_iv (n_v vs 17)) (v_iv (n_v vs 21)) (v_iv (n_v vs 22)) (v_iv (n_v vs 23)) (v_iv (n_v vs 26)) (v_iv (n_v vs 36)) (v_iv (n_v vs 37)) (v_iv (n_v vs 38)) (w_fi ws (n_v vs 0) 132) (w_ei ws (w_ar ws (n_v vs 0) 130)) (w_ei ws (w_ar ws (n_v vs 0) 131)) k16 k17 k21 k22 k23 k36 k38 (shm_47 f0) (shm_47 f2) g5 f7 kz_0_132
  have rf38 : tv_ok ta (1, 1, 96000, []) (n_v vs 38) := tv_inL t38 (by first | omega | grind) (by first | omega | grind)
  refine ⟨List.forall_mem_cons.mpr ⟨rf38, (fun _ h => (by cases h))⟩, [], trivial, ?_, (fun _ h => (by cases h))⟩
  rw [List.append_nil]
  exact (fun _ h => (by cases h))
set_option maxHeartbeats 4000000 in
theorem vc_Mo_squares_18_r0 (x16 : Int) (x17 : Int) (x20 : Int) (x21 : Int) (x22 : Int) (x23 : Int) (x35 : Int) (x36 : Int) (x37 : Int) (x38 : Int) (x39 : Int) (itemMany_0 : Int) (itemOf_0 : Int → Int) (itemSize_0 : Int → Int) (k16 : (-95999) ≤ x16 ∧ x16 ≤ 98400) (k17 : 0 ≤ x17 ∧ x17 ≤ 38) (k20 : (-512) ≤ x20 ∧ x20 ≤ 512) (k21 : 1 ≤ x21 ∧ x21 ≤ 39) (k22 : 0 ≤ x22 ∧ x22 ≤ 98400) (k23 : 2 ≤ x23 ∧ x23 ≤ 40) (k35 : (-512) ≤ x35 ∧ x35 ≤ 512) (k36 : 0 ≤ x36 ∧ x36 ≤ 98400) (k37 : (-50380800) ≤ x37 ∧ x37 ≤ 50380800) (k38 : 1 ≤ x38 ∧ x38 ≤ 96000) (k39 : (-50380800) ≤ x39 ∧ x39 ≤ 50380800) (f0 : x39 = Int.tdiv (x37) (x38)) (f1 : x38 = x16) (f2 : x37 = x35 * x36) (f3 : x36 = x22) (f4 : x35 = x20) (g6 : x23 = itemMany_0) (f8 : SQ3 (itemMany_0) (itemOf_0) (itemSize_0) (x16) (x17) (x21) (x22)) (kz_0_132 : 0 ≤ itemMany_0 ∧ itemMany_0 ≤ 40) : (-512) ≤ x39 ∧ x39 ≤ 512 := by
  have h := sq3_bd ‹SQ3 _ _ _ _ _ _ _› (by omega)
  exact btw_bd (a := x20) (btw_d rfl (by assumption) (by assumption) (by assumption) (by assumption) (by assumption) (by omega) (by omega) (by omega)) (by omega) (by omega)
def o_Mo_squares_18 : or_T := (243, 40, [(0, (2, 0, 0, [165])), (1, (0, 0, 3, [])), (6, (2, 0, 0, [165])), (7, (0, 0, 3, [])), (12, (0, 0, 512, [])), (13, (0, 0, 512, [])), (14, (0, -512, 512, [])), (15, (0, -512, 512, [])), (16, (0, -95999, 98400, [])), (17, (0, 0, 38, [])), (18, (0, 0, 1, [])), (19, (0, -512, 512, [])), (20, (0, -512, 512, [])), (21, (0, 1, 39, [])), (22, (0, 0, 98400, [])), (23, (0, 2, 40, [])), (26, (0, 1, 1, [])), (27, (0, 2, 40, [])), (35, (1, -512, 512, [])), (36, (1, 0, 98400, [])), (37, (1, -50380800, 50380800, [])), (38, (1, 1, 96000, [])), (39, (1, -50380800, 50380800, []))], [(4, [39, 37, 38], []), (22, [38, 16], []), (3, [37, 35, 36], []), (22, [36, 22], []), (22, [35, 20], []), (7, [21, 23], [1]), (9, [23, 6], [132]), (20, [21, 6], [50, 1, 0, 1132, 0, 6, 4, 2, 1, 0, 0, 1, 2, 1, 132]), (20, [6, 16, 17, 21, 22], [60, 1, 2, 777, 132, 130, 131]), (20, [12, 14], [61, 0, 791]), (20, [13, 15], [61, 0, 791]), (20, [6, 7], [60, 0, 1, 789, 72]), (20, [18, 14, 15, 19, 20], [61, 0, 792]), (24, [0, 6], []), (24, [1, 7], []), (102, [30], [0, 165133, 165134]), (1, [27, 21, 26], []), (7, [21, 23], [2])], [(39, (1, -512, 512, []))], [], [], [], [(27, 21, 1, 1), (27, 23, -4294967296, 0), (21, 23, -4294967296, -1), (1, 7, -4294967296, 0), (7, 1, -4294967296, 0), (14, 20, -4294967296, 0), (15, 18, -4294967296, 511), (15, 20, -4294967296, 0), (17, 21, -4294967296, -1), (19, 14, -4294967296, 0), (19, 15, -4294967296, 0), (19, 18, -4294967296, 511), (19, 20, -4294967296, 0)])
theorem oo_Mo_squares_18 {kA : Nat → ClassId} : or_ok PRD kA GG o_Mo_squares_18 := by
  refine or_mk fun A ta ws vs hD hth hl => ?_
  intro t0 r0 t1 k1 t6 r6 t7 k7 t12 k12 t13 k13 t14 k14 t15 k15 t16 k16 t17 k17 t18 k18 t19 k19 t20 k20 t21 k21 t22 k22 t23 k23 t26 k26 t27 k27 t35 k35 t36 k36 t37 k37 t38 k38 t39 k39 d0 d1 d2 d3 d4 d5 d6 d7 d8 d9 d10 d11 d12 f0 f1 f2 f3 f4 f5 f6 f7 f8 f9 f10 f11 f12 f13 f14 ta1 w1 le1 s1 f16 f17
  replace f6 := shm_587 f6
  replace f8 := shm_1278 f8
  replace f13 := shm_5 f13
  have q6 : n_v vs 6 = n_v vs 0 := f13.symm
  simp only [q6] at f6 f8
  have g6 : v_iv (n_v vs 23) = w_fi ws (n_v vs 0) 132 := congrArg v_iv f6
  have kz_0_132 := fdq_152 hD hth r0
  have hrf0 : (-512) ≤ v_iv (n_v vs 39) ∧ v_iv (n_v vs 39) ≤ 512 := vc_Mo_squares_18_r0 (v_iv (n_v vs 16)) (v_iv (n_v vs 17)) (v_iv (n_v vs 20)) (v_iv (n_v vs 21)) (v_iv (n_v vs 22)) (v_iv (n_v vs 23)) (v_iv (n_v vs 35)) (v_iv (n_v vs 36)) (v_iv (n_v vs 37)) (v_iv (n_v vs 38)) (v_iv (n_v vs 39)) (w_fi ws (n_v vs 0) 132) (w_ei ws (w_ar ws (n_v vs 0) 130)) (w_ei ws (w_ar ws (n_v vs 0) 131)) k16 k17 k20 k21 k22 k23 k35 k36 k37 k38 k39 (shm_34 f0) (shm_47 f1) (shm_38 f2) (shm_47 f3) (shm_47 f4) g6 f8 kz_0_132
  have rf39 : tv_ok ta (1, -512, 512, []) (n_v vs 39) := tv_inL t39 (by first | omega | grind) (by first | omega | grind)
  refine ⟨List.forall_mem_cons.mpr ⟨rf39, (fun _ h => (by cases h))⟩, [], trivial, ?_, (fun _ h => (by cases h))⟩
  rw [List.append_nil]
  exact (fun _ h => (by cases h))
set_option maxHeartbeats 4000000 in
theorem vc_Mo_squares_19_0 (x17 : Int) (x21 : Int) (x26 : Int) (x37 : Int) (itemOf_0 : Int → Int) (k17 : 0 ≤ x17 ∧ x17 ≤ 38) : x17 ≤ x17 := by
  first
    | omega
    | (have g := ‹SQ3 _ _ _ _ _ _ _›
       have q := (g.1.1 x26 (by omega) (by have := g.2; omega)).1
       have e1 : x37 = itemOf_0 x26 := by assumption
       have e2 : x34 = itemOf_0 x26 := by assumption
       rw [← e1] at q
       rw [← e1] at e2
       omega)
set_option maxHeartbeats 4000000 in
theorem vc_Mo_squares_19_1 (x16 : Int) (x17 : Int) (x20 : Int) (x21 : Int) (x22 : Int) (x23 : Int) (x35 : Int) (x36 : Int) (x37 : Int) (x38 : Int) (x39 : Int) (x40 : Int) (itemMany_0 : Int) (itemOf_0 : Int → Int) (itemSize_0 : Int → Int) (k16 : (-95999) ≤ x16 ∧ x16 ≤ 98400) (k17 : 0 ≤ x17 ∧ x17 ≤ 38) (k20 : (-512) ≤ x20 ∧ x20 ≤ 512) (k21 : 1 ≤ x21 ∧ x21 ≤ 39) (k22 : 0 ≤ x22 ∧ x22 ≤ 98400) (k23 : 2 ≤ x23 ∧ x23 ≤ 40) (k35 : (-512) ≤ x35 ∧ x35 ≤ 512) (k36 : 0 ≤ x36 ∧ x36 ≤ 98400) (k37 : (-50380800) ≤ x37 ∧ x37 ≤ 50380800) (k38 : 1 ≤ x38 ∧ x38 ≤ 96000) (k39 : (-512) ≤ x39 ∧ x39 ≤ 512) (k40 : (-512) ≤ x40 ∧ x40 ≤ 512) (f0 : x40 = x39) (f1 : x39 = Int.tdiv (x37) (x38)) (f2 : x38 = x16) (f3 : x37 = x35 * x36) (f4 : x36 = x22) (f5 : x35 = x20) (g7 : x23 = itemMany_0) (f9 : SQ3 (itemMany_0) (itemOf_0) (itemSize_0) (x16) (x17) (x21) (x22)) (kz_0_132 : 0 ≤ itemMany_0 ∧ itemMany_0 ≤ 40) : BTW (x40) (x20) := by
  first
    | (have h := sq3_bd ‹SQ3 _ _ _ _ _ _ _› (by omega)
       exact btw_d (by assumption) (by assumption) (by assumption) (by assumption) (by assumption) (by assumption) (by omega) (by omega) (by omega))
set_option maxHeartbeats 4000000 in
theorem vc_Mo_squares_19_2 (x19 : Int) (x41 : Int) (k19 : (-512) ≤ x19 ∧ x19 ≤ 512) (k41 : 0 ≤ x41 ∧ x41 ≤ 0) : BTW (x41) (x19) := by
  first
    | exact btw_00 (by omega)
set_option maxHeartbeats 4000000 in
theorem vc_Mo_squares_19_3 (x16 : Int) (x17 : Int) (x21 : Int) (x22 : Int) (x26 : Int) (x42 : Int) (itemMany_0 : Int) (itemOf_0 : Int → Int) (itemSize_0 : Int → Int) (k16 : (-95999) ≤ x16 ∧ x16 ≤ 98400) (k17 : 0 ≤ x17 ∧ x17 ≤ 38) (k21 : 1 ≤ x21 ∧ x21 ≤ 39) (k22 : 0 ≤ x22 ∧ x22 ≤ 98400) (k42 : 0 ≤ x42 ∧ x42 ≤ 0) (f9 : SQ3 (itemMany_0) (itemOf_0) (itemSize_0) (x16) (x17) (x21) (x22)) (kz_0_132 : 0 ≤ itemMany_0 ∧ itemMany_0 ≤ 40) : SQ4 (itemMany_0) (itemOf_0) (itemSize_0) (x16) (x17) (x21) (x22) (x17) (x42) := by
  first
    | exact sq4_start ‹SQ3 _ _ _ _ _ _ _› (by omega) (by omega)
def o_Mo_squares_19 : or_T := (256, 43, [(0, (2, 0, 0, [165])), (16, (0, -95999, 98400, [])), (17, (0, 0, 38, [])), (19, (0, -512, 512, [])), (20, (0, -512, 512, [])), (21, (0, 1, 39, [])), (22, (0, 0, 98400, [])), (23, (0, 2, 40, [])), (35, (1, -512, 512, [])), (36, (1, 0, 98400, [])), (37, (1, -50380800, 50380800, [])), (38, (1, 1, 96000, [])), (39, (1, -512, 512, [])), (40, (0, -512, 512, [])), (41, (0, 0, 0, [])), (42, (0, 0, 0, []))], [(22, [40, 39], []), (4, [39, 37, 38], []), (22, [38, 16], []), (3, [37, 35, 36], []), (22, [36, 22], []), (22, [35, 20], []), (9, [23, 6], [132]), (20, [6, 16, 17, 21, 22], [60, 1, 2, 777, 132, 130, 131]), (24, [0, 6], [])], [], [], [(20, [17, 17], [50, 0, 0, 0, 2, 1, 0, 1, 1]), (20, [40, 20], [61, 0, 793]), (20, [41, 19], [61, 0, 793]), (20, [6, 16, 17, 21, 22, 17, 42], [60, 1, 2, 794, 132, 130, 131])], [], [])
theorem oo_Mo_squares_19 {kA : Nat → ClassId} : or_ok PRD kA GG o_Mo_squares_19 := by
  refine or_mk fun A ta ws vs hD hth hl => ?_
  intro t0 r0 t16 k16 t17 k17 t19 k19 t20 k20 t21 k21 t22 k22 t23 k23 t35 k35 t36 k36 t37 k37 t38 k38 t39 k39 t40 k40 t41 k41 t42 k42 f0 f1 f2 f3 f4 f5 f7 f9 f14
  replace f0 := shm_47 f0
  replace f1 := shm_34 f1
  replace f2 := shm_47 f2
  replace f3 := shm_38 f3
  replace f4 := shm_47 f4
  replace f5 := shm_47 f5
  replace f7 := shm_587 f7
  replace f9 := shm_1278 f9
  replace f14 := shm_5 f14
  have q6 : n_v vs 6 = n_v vs 0 := f14.symm
  simp only [q6] at f7 f9
  have g7 : v_iv (n_v vs 23) = w_fi ws (n_v vs 0) 132 := congrArg v_iv f7
  have kz_0_132 := fdq_152 hD hth r0
  have nf0 : fc_1 PRD (20, [17, 17], [50, 0, 0, 0, 2, 1, 0, 1, 1]) ws (vs) := ⟨nf_in hl rfl, sgq_972 (vc_Mo_squares_19_0 (v_iv (n_v vs 17)) (v_iv (n_v vs 21)) (v_iv (n_v vs 26)) (v_iv (n_v vs 37)) (w_ei ws (w_ar ws (n_v vs 0) 130)) k17)⟩
  have nf1 : fc_1 PRD (20, [40, 20], [61, 0, 793]) ws (vs) := ⟨nf_in hl rfl, sgq_890 (vc_Mo_squares_19_1 (v_iv (n_v vs 16)) (v_iv (n_v vs 17)) (v_iv (n_v vs 20)) (v_iv (n_v vs 21)) (v_iv (n_v vs 22)) (v_iv (n_v vs 23)) (v_iv (n_v vs 35)) (v_iv (n_v vs 36)) (v_iv (n_v vs 37)) (v_iv (n_v vs 38)) (v_iv (n_v vs 39)) (v_iv (n_v vs 40)) (w_fi ws (n_v vs 0) 132) (w_ei ws (w_ar ws (n_v vs 0) 130)) (w_ei ws (w_ar ws (n_v vs 0) 131)) k16 k17 k20 k21 k22 k23 k35 k36 k37 k38 k39 k40 f0 f1 f2 f3 f4 f5 g7 f9 kz_0_132)⟩
  have nf2 : fc_1 PRD (20, [41, 19], [61, 0, 793]) ws (vs) := ⟨nf_in hl rfl, sgq_890 (vc_Mo_squares_19_2 (v_iv (n_v vs 19)) (v_iv (n_v vs 41)) k19 k41)⟩
  have nf3 : fc_1 PRD (20, [6, 16, 17, 21, 22, 17, 42], [60, 1, 2, 794, 132, 130, 131]) ws (vs) := by
    refine ⟨nf_in hl rfl, sgq_1282 ?_⟩
    · show SQ4 (w_fi ws (n_v vs 6) 132) (w_ei ws (w_ar ws (n_v vs 6) 130)) (w_ei ws (w_ar ws (n_v vs 6) 131)) (v_iv (n_v vs 16)) (v_iv (n_v vs 17)) (v_iv (n_v vs 21)) (v_iv (n_v vs 22)) (v_iv (n_v vs 17)) (v_iv (n_v vs 42))
      rw [q6]
      exact vc_Mo_squares_19_3 (v_iv (n_v vs 16)) (v_iv (n_v vs 17)) (v_iv (n_v vs 21)) (v_iv (n_v vs 22)) (v_iv (n_v vs 26)) (v_iv (n_v vs 42)) (w_fi ws (n_v vs 0) 132) (w_ei ws (w_ar ws (n_v vs 0) 130)) (w_ei ws (w_ar ws (n_v vs 0) 131)) k16 k17 k21 k22 k42 f9 kz_0_132
  refine ⟨(fun _ h => (by cases h)), [], trivial, ?_, (fun _ h => (by cases h))⟩
  rw [List.append_nil]
  exact List.forall_mem_cons.mpr ⟨⟨show (20 : Nat) < 100 from by decide, nf0⟩, List.forall_mem_cons.mpr ⟨⟨show (20 : Nat) < 100 from by decide, nf1⟩, List.forall_mem_cons.mpr ⟨⟨show (20 : Nat) < 100 from by decide, nf2⟩, List.forall_mem_cons.mpr ⟨⟨show (20 : Nat) < 100 from by decide, nf3⟩, (fun _ h => (by cases h))⟩⟩⟩⟩
set_option maxHeartbeats 4000000 in
theorem vc_Mo_squares_20_0 (x17 : Int) (x21 : Int) (x23 : Int) (x26 : Int) (x27 : Int) (itemOf_0 : Int → Int) (k17 : 0 ≤ x17 ∧ x17 ≤ 38) (k21 : 2 ≤ x21 ∧ x21 ≤ 38) (k23 : 3 ≤ x23 ∧ x23 ≤ 39) (k27 : 3 ≤ x27 ∧ x27 ≤ 39) (d0 : x23 + 0 ≤ x21 ∧ x21 ≤ x23 + 0) (d1 : x21 + 1 ≤ x27 ∧ x27 ≤ x21 + 1) (d2 : x23 + (-4294967296) ≤ x27 ∧ x27 ≤ x23 + 0) : x17 ≤ x17 := by
  first
    | omega
    | (have g := ‹SQ3 _ _ _ _ _ _ _›
       have q := (g.1.1 x26 (by omega) (by have := g.2; omega)).1
       have e1 : x37 = itemOf_0 x26 := by assumption
       have e2 : x34 = itemOf_0 x26 := by assumption
       rw [← e1] at q
       rw [← e1] at e2
       omega)
set_option maxHeartbeats 4000000 in
theorem vc_Mo_squares_20_1 (x20 : Int) (x21 : Int) (x23 : Int) (x27 : Int) (k20 : (-512) ≤ x20 ∧ x20 ≤ 512) (k21 : 2 ≤ x21 ∧ x21 ≤ 38) (k23 : 3 ≤ x23 ∧ x23 ≤ 39) (k27 : 3 ≤ x27 ∧ x27 ≤ 39) (d0 : x23 + 0 ≤ x21 ∧ x21 ≤ x23 + 0) (d1 : x21 + 1 ≤ x27 ∧ x27 ≤ x21 + 1) (d2 : x23 + (-4294967296) ≤ x27 ∧ x27 ≤ x23 + 0) : BTW (x20) (x20) := by
  first
    | exact btw_00 (by omega)
set_option maxHeartbeats 4000000 in
theorem vc_Mo_squares_20_2 (x19 : Int) (x21 : Int) (x23 : Int) (x27 : Int) (x35 : Int) (k19 : (-512) ≤ x19 ∧ x19 ≤ 512) (k21 : 2 ≤ x21 ∧ x21 ≤ 38) (k23 : 3 ≤ x23 ∧ x23 ≤ 39) (k27 : 3 ≤ x27 ∧ x27 ≤ 39) (k35 : 0 ≤ x35 ∧ x35 ≤ 0) (d0 : x23 + 0 ≤ x21 ∧ x21 ≤ x23 + 0) (d1 : x21 + 1 ≤ x27 ∧ x27 ≤ x21 + 1) (d2 : x23 + (-4294967296) ≤ x27 ∧ x27 ≤ x23 + 0) : BTW (x35) (x19) := by
  first
    | exact btw_00 (by omega)
set_option maxHeartbeats 4000000 in
theorem vc_Mo_squares_20_3 (x16 : Int) (x17 : Int) (x21 : Int) (x22 : Int) (x23 : Int) (x26 : Int) (x27 : Int) (x36 : Int) (itemMany_0 : Int) (itemOf_0 : Int → Int) (itemSize_0 : Int → Int) (k16 : (-95999) ≤ x16 ∧ x16 ≤ 98400) (k17 : 0 ≤ x17 ∧ x17 ≤ 38) (k21 : 2 ≤ x21 ∧ x21 ≤ 38) (k22 : 0 ≤ x22 ∧ x22 ≤ 98400) (k23 : 3 ≤ x23 ∧ x23 ≤ 39) (k27 : 3 ≤ x27 ∧ x27 ≤ 39) (k36 : 0 ≤ x36 ∧ x36 ≤ 0) (d0 : x23 + 0 ≤ x21 ∧ x21 ≤ x23 + 0) (d1 : x21 + 1 ≤ x27 ∧ x27 ≤ x21 + 1) (d2 : x23 + (-4294967296) ≤ x27 ∧ x27 ≤ x23 + 0) (f3 : SQ3 (itemMany_0) (itemOf_0) (itemSize_0) (x16) (x17) (x21) (x22)) (kz_0_132 : 0 ≤ itemMany_0 ∧ itemMany_0 ≤ 40) : SQ4 (itemMany_0) (itemOf_0) (itemSize_0) (x16) (x17) (x21) (x22) (x17) (x36) := by
  first
    | exact sq4_start ‹SQ3 _ _ _ _ _ _ _› (by omega) (by omega)
def o_Mo_squares_20 : or_T := (256, 37, [(0, (2, 0, 0, [165])), (16, (0, -95999, 98400, [])), (17, (0, 0, 38, [])), (19, (0, -512, 512, [])), (20, (0, -512, 512, [])), (21, (0, 2, 38, [])), (22, (0, 0, 98400, [])), (23, (0, 3, 39, [])), (27, (0, 3, 39, [])), (35, (0, 0, 0, [])), (36, (0, 0, 0, []))], [(20, [6, 16, 17, 21, 22], [60, 1, 2, 777, 132, 130, 131]), (24, [0, 6], [])], [], [], [(20, [17, 17], [50, 0, 0, 0, 2, 1, 0, 1, 1]), (20, [20, 20], [61, 0, 793]), (20, [35, 19], [61, 0, 793]), (20, [6, 16, 17, 21, 22, 17, 36], [60, 1, 2, 794, 132, 130, 131])], [], [(21, 23, 0, 0), (27, 21, 1, 1), (27, 23, -4294967296, 0)])
theorem oo_Mo_squares_20 {kA : Nat → ClassId} : or_ok PRD kA GG o_Mo_squares_20 := by
  refine or_mk fun A ta ws vs hD hth hl => ?_
  intro t0 r0 t16 k16 t17 k17 t19 k19 t20 k20 t21 k21 t22 k22 t23 k23 t27 k27 t35 k35 t36 k36 d0 d1 d2 f3 f8
  replace f3 := shm_1278 f3
  replace f8 := shm_5 f8
  have q6 : n_v vs 6 = n_v vs 0 := f8.symm
  simp only [q6] at f3
  have kz_0_132 := fdq_152 hD hth r0
  have nf0 : fc_1 PRD (20, [17, 17], [50, 0, 0, 0, 2, 1, 0, 1, 1]) ws (vs) := ⟨nf_in hl rfl, sgq_972 (vc_Mo_squares_20_0 (v_iv (n_v vs 17)) (v_iv (n_v vs 21)) (v_iv (n_v vs 23)) (v_iv (n_v vs 26)) (v_iv (n_v vs 27)) (w_ei ws (w_ar ws (n_v vs 0) 130)) k17 k21 k23 k27 d0 d1 d2)⟩
  have nf1 : fc_1 PRD (20, [20, 20], [61, 0, 793]) ws (vs) := ⟨nf_in hl rfl, sgq_1283 (vc_Mo_squares_20_1 (v_iv (n_v vs 20)) (v_iv (n_v vs 21)) (v_iv (n_v vs 23)) (v_iv (n_v vs 27)) k20 k21 k23 k27 d0 d1 d2)⟩
  have nf2 : fc_1 PRD (20, [35, 19], [61, 0, 793]) ws (vs) := ⟨nf_in hl rfl, sgq_890 (vc_Mo_squares_20_2 (v_iv (n_v vs 19)) (v_iv (n_v vs 21)) (v_iv (n_v vs 23)) (v_iv (n_v vs 27)) (v_iv (n_v vs 35)) k19 k21 k23 k27 k35 d0 d1 d2)⟩
  have nf3 : fc_1 PRD (20, [6, 16, 17, 21, 22, 17, 36], [60, 1, 2, 794, 132, 130, 131]) ws (vs) := by
    refine ⟨nf_in hl rfl, sgq_1282 ?_⟩
    · show SQ4 (w_fi ws (n_v vs 6) 132) (w_ei ws (w_ar ws (n_v vs 6) 130)) (w_ei ws (w_ar ws (n_v vs 6) 131)) (v_iv (n_v vs 16)) (v_iv (n_v vs 17)) (v_iv (n_v vs 21)) (v_iv (n_v vs 22)) (v_iv (n_v vs 17)) (v_iv (n_v vs 36))
      rw [q6]
      exact vc_Mo_squares_20_3 (v_iv (n_v vs 16)) (v_iv (n_v vs 17)) (v_iv (n_v vs 21)) (v_iv (n_v vs 22)) (v_iv (n_v vs 23)) (v_iv (n_v vs 26)) (v_iv (n_v vs 27)) (v_iv (n_v vs 36)) (w_fi ws (n_v vs 0) 132) (w_ei ws (w_ar ws (n_v vs 0) 130)) (w_ei ws (w_ar ws (n_v vs 0) 131)) k16 k17 k21 k22 k23 k27 k36 d0 d1 d2 f3 kz_0_132
  refine ⟨(fun _ h => (by cases h)), [], trivial, ?_, (fun _ h => (by cases h))⟩
  rw [List.append_nil]
  exact List.forall_mem_cons.mpr ⟨⟨show (20 : Nat) < 100 from by decide, nf0⟩, List.forall_mem_cons.mpr ⟨⟨show (20 : Nat) < 100 from by decide, nf1⟩, List.forall_mem_cons.mpr ⟨⟨show (20 : Nat) < 100 from by decide, nf2⟩, List.forall_mem_cons.mpr ⟨⟨show (20 : Nat) < 100 from by decide, nf3⟩, (fun _ h => (by cases h))⟩⟩⟩⟩
set_option maxHeartbeats 4000000 in
theorem vc_Mo_squares_21_r0 (x16 : Int) (x17 : Int) (x21 : Int) (x22 : Int) (x26 : Int) (itemOf_0 : Int → Int) (itemSize_0 : Int → Int) (itemMany_0 : Int) (k16 : (-2147483648) ≤ x16 ∧ x16 ≤ 131071) (k17 : 0 ≤ x17 ∧ x17 ≤ 39) (k21 : 1 ≤ x21 ∧ x21 ≤ 40) (k22 : 0 ≤ x22 ∧ x22 ≤ 131071) (f4 : SQ3 (itemMany_0) (itemOf_0) (itemSize_0) (x16) (x17) (x21) (x22)) (kz_0_132 : 0 ≤ itemMany_0 ∧ itemMany_0 ≤ 40) : 1 ≤ x16 ∧ x16 ≤ 96000 := by
  first
    | (have h := sq3_bd ‹SQ3 _ _ _ _ _ _ _› (by omega); omega)
    | (have h := sq3_bd ‹SQ3 _ _ _ _ _ _ _› (by omega); have g := ‹SQ3 _ _ _ _ _ _ _›; have q := (g.1.1 x21 (by omega) (by have := g.2; omega)).2; omega)
set_option maxHeartbeats 4000000 in
theorem vc_Mo_squares_21_r1 (x16 : Int) (x17 : Int) (x21 : Int) (x22 : Int) (x26 : Int) (itemOf_0 : Int → Int) (itemSize_0 : Int → Int) (itemMany_0 : Int) (k16 : (-2147483648) ≤ x16 ∧ x16 ≤ 131071) (k17 : 0 ≤ x17 ∧ x17 ≤ 39) (k21 : 1 ≤ x21 ∧ x21 ≤ 40) (k22 : 0 ≤ x22 ∧ x22 ≤ 131071) (f4 : SQ3 (itemMany_0) (itemOf_0) (itemSize_0) (x16) (x17) (x21) (x22)) (kz_0_132 : 0 ≤ itemMany_0 ∧ itemMany_0 ≤ 40) : 1 ≤ x22 ∧ x22 ≤ 96000 := by
  first
    | (have h := sq3_bd ‹SQ3 _ _ _ _ _ _ _› (by omega); omega)
    | (have h := sq3_bd ‹SQ3 _ _ _ _ _ _ _› (by omega); have g := ‹SQ3 _ _ _ _ _ _ _›; have q := (g.1.1 x21 (by omega) (by have := g.2; omega)).2; omega)
def o_Mo_squares_21 : or_T := (428, 29, [(0, (2, 0, 0, [165])), (1, (0, 0, 3, [])), (6, (2, 0, 0, [165])), (7, (0, 0, 3, [])), (12, (0, 0, 512, [])), (13, (0, 0, 512, [])), (14, (0, -512, 512, [])), (15, (0, -512, 511, [])), (16, (0, -2147483648, 131071, [])), (17, (0, 0, 39, [])), (18, (0, 0, 0, [])), (19, (0, -512, 511, [])), (20, (0, -512, 512, [])), (21, (0, 1, 40, [])), (22, (0, 0, 131071, [])), (23, (0, -512, 512, [])), (24, (0, -512, 512, [])), (25, (0, 0, 98400, [])), (26, (0, 1, 40, [])), (27, (0, -512, 1024, [])), (28, (0, -1024, 1024, []))], [(2, [28, 14, 23], []), (1, [27, 12, 23], []), (8, [18], [0]), (7, [26, 21], [3]), (20, [6, 16, 17, 21, 22], [60, 1, 2, 777, 132, 130, 131]), (20, [17, 26], [50, 0, 0, 0, 2, 1, 0, 1, 1]), (20, [12, 14], [61, 0, 791]), (20, [13, 15], [61, 0, 791]), (20, [6, 7], [60, 0, 1, 789, 72]), (20, [18, 14, 15, 19, 20], [61, 0, 792]), (20, [23, 20], [61, 0, 793]), (20, [24, 19], [61, 0, 793]), (20, [6, 16, 17, 21, 22, 26, 25], [60, 1, 2, 794, 132, 130, 131]), (24, [0, 6], []), (24, [1, 7], [])], [(16, (0, 1, 96000, [])), (22, (0, 1, 96000, []))], [], [], [], [(28, 14, -512, 512), (28, 20, -4294967296, 512), (27, 23, 0, 512), (27, 12, -512, 512), (26, 21, 0, 4294967296), (1, 7, -4294967296, 0), (7, 1, -4294967296, 0), (14, 20, -4294967296, 0), (15, 20, -4294967296, 0), (17, 21, -4294967296, -1), (17, 26, -4294967296, 0), (19, 14, -4294967296, 0), (19, 15, -4294967296, 0), (19, 20, -4294967296, 0), (24, 25, -4294967296, 511), (26, 21, -4294967296, 0)])
theorem oo_Mo_squares_21 {kA : Nat → ClassId} : or_ok PRD kA GG o_Mo_squares_21 := by
  refine or_mk fun A ta ws vs hD hth hl => ?_
  intro t0 r0 t1 k1 t6 r6 t7 k7 t12 k12 t13 k13 t14 k14 t15 k15 t16 k16 t17 k17 t18 k18 t19 k19 t20 k20 t21 k21 t22 k22 t23 k23 t24 k24 t25 k25 t26 k26 t27 k27 t28 k28 d0 d1 d2 d3 d4 d5 d6 d7 d8 d9 d10 d11 d12 d13 d14 d15 f0 f1 f2 f3 f4 f5 f6 f7 f8 f9 f10 f11 f12 f13 f14
  replace f4 := shm_1278 f4
  replace f13 := shm_5 f13
  have q6 : n_v vs 6 = n_v vs 0 := f13.symm
  simp only [q6] at f4
  have kz_0_132 := fdq_152 hD hth r0
  have hrf0 : 1 ≤ v_iv (n_v vs 16) ∧ v_iv (n_v vs 16) ≤ 96000 := vc_Mo_squares_21_r0 (v_iv (n_v vs 16)) (v_iv (n_v vs 17)) (v_iv (n_v vs 21)) (v_iv (n_v vs 22)) (v_iv (n_v vs 26)) (w_ei ws (w_ar ws (n_v vs 0) 130)) (w_ei ws (w_ar ws (n_v vs 0) 131)) (w_fi ws (n_v vs 0) 132) k16 k17 k21 k22 f4 kz_0_132
  have hrf1 : 1 ≤ v_iv (n_v vs 22) ∧ v_iv (n_v vs 22) ≤ 96000 := vc_Mo_squares_21_r1 (v_iv (n_v vs 16)) (v_iv (n_v vs 17)) (v_iv (n_v vs 21)) (v_iv (n_v vs 22)) (v_iv (n_v vs 26)) (w_ei ws (w_ar ws (n_v vs 0) 130)) (w_ei ws (w_ar ws (n_v vs 0) 131)) (w_fi ws (n_v vs 0) 132) k16 k17 k21 k22 f4 kz_0_132
  have rf16 : tv_ok ta (0, 1, 96000, []) (n_v vs 16) := tv_in t16 (by first | omega | grind) (by first | omega | grind)
  have rf22 : tv_ok ta (0, 1, 96000, []) (n_v vs 22) := tv_in t22 (by first | omega | grind) (by first | omega | grind)
  refine ⟨List.forall_mem_cons.mpr ⟨rf16, List.forall_mem_cons.mpr ⟨rf22, (fun _ h => (by cases h))⟩⟩, [], trivial, ?_, (fun _ h => (by cases h))⟩
  rw [List.append_nil]
  exact (fun _ h => (by cases h))
set_option maxHeartbeats 4000000 in
theorem vc_Mo_squares_22_0 (x16 : Int) (x17 : Int) (x21 : Int) (x22 : Int) (x29 : Int) (itemOf_0 : Int → Int) (itemSize_0 : Int → Int) (itemMany_0 : Int) (k16 : 1 ≤ x16 ∧ x16 ≤ 96000) (k17 : 0 ≤ x17 ∧ x17 ≤ 39) (k21 : 1 ≤ x21 ∧ x21 ≤ 40) (k22 : 1 ≤ x22 ∧ x22 ≤ 96000) (k29 : (-95999) ≤ x29 ∧ x29 ≤ 95999) (f0 : x29 = x16 - x22) (f5 : SQ3 (itemMany_0) (itemOf_0) (itemSize_0) (x16) (x17) (x21) (x22)) (kz_0_132 : 0 ≤ itemMany_0 ∧ itemMany_0 ≤ 40) : SQ2 (itemMany_0) (itemOf_0) (itemSize_0) (x29) (x21) := by
  first
    | exact sq3_next ‹SQ3 _ _ _ _ _ _ _› (by omega) (by omega)
set_option maxHeartbeats 4000000 in
theorem vc_Mo_squares_22_1 (x12 : Int) (x13 : Int) (x14 : Int) (x15 : Int) (x18 : Int) (x19 : Int) (x20 : Int) (x23 : Int) (x24 : Int) (x27 : Int) (x28 : Int) (k12 : 0 ≤ x12 ∧ x12 ≤ 512) (k14 : (-512) ≤ x14 ∧ x14 ≤ 512) (k15 : (-512) ≤ x15 ∧ x15 ≤ 511) (k18 : 0 ≤ x18 ∧ x18 ≤ 0) (k19 : (-512) ≤ x19 ∧ x19 ≤ 511) (k20 : (-512) ≤ x20 ∧ x20 ≤ 512) (k23 : (-512) ≤ x23 ∧ x23 ≤ 512) (k27 : (-512) ≤ x27 ∧ x27 ≤ 1024) (k28 : (-1024) ≤ x28 ∧ x28 ≤ 1024) (f1 : x28 = x14 - x23) (f2 : x27 = x12 + x23) (f3 : x18 = 0) (f7 : HUL (x12) (x14)) (f10 : SQA (x18) (x14) (x15) (x19) (x20)) (f11 : BTW (x23) (x20)) : HUL (x27) (x28) := by
  first
    | (have h1 : HUL x12 x14 := by assumption
       have e := sqa_0 ‹SQA _ _ _ _ _› (by omega)
       have b : BTW x23 x20 := by assumption
       rw [e.2] at b
       exact hul_st h1 b (by omega) (by omega))
def o_Mo_squares_22 : or_T := (50, 30, [(0, (2, 0, 0, [165])), (1, (0, 0, 3, [])), (6, (2, 0, 0, [165])), (7, (0, 0, 3, [])), (12, (0, 0, 512, [])), (13, (0, 0, 512, [])), (14, (0, -512, 512, [])), (15, (0, -512, 511, [])), (16, (0, 1, 96000, [])), (17, (0, 0, 39, [])), (18, (0, 0, 0, [])), (19, (0, -512, 511, [])), (20, (0, -512, 512, [])), (21, (0, 1, 40, [])), (22, (0, 1, 96000, [])), (23, (0, -512, 512, [])), (24, (0, -512, 512, [])), (25, (0, 0, 98400, [])), (26, (0, 1, 40, [])), (27, (0, -512, 1024, [])), (28, (0, -1024, 1024, [])), (29, (0, -95999, 95999, []))], [(2, [29, 16, 22], []), (2, [28, 14, 23], []), (1, [27, 12, 23], []), (8, [18], [0]), (7, [26, 21], [3]), (20, [6, 16, 17, 21, 22], [60, 1, 2, 777, 132, 130, 131]), (20, [17, 26], [50, 0, 0, 0, 2, 1, 0, 1, 1]), (20, [12, 14], [61, 0, 791]), (20, [13, 15], [61, 0, 791]), (20, [6, 7], [60, 0, 1, 789, 72]), (20, [18, 14, 15, 19, 20], [61, 0, 792]), (20, [23, 20], [61, 0, 793]), (20, [24, 19], [61, 0, 793]), (20, [6, 16, 17, 21, 22, 26, 25], [60, 1, 2, 794, 132, 130, 131]), (24, [0, 6], []), (24, [1, 7], [])], [], [], [(20, [6, 29, 21], [60, 1, 2, 776, 132, 130, 131]), (20, [27, 28], [61, 0, 791])], [], [(29, 16, -96000, -1), (28, 14, -512, 512), (28, 20, -4294967296, 512), (27, 23, 0, 512), (27, 12, -512, 512), (26, 21, 0, 4294967296), (1, 7, -4294967296, 0), (7, 1, -4294967296, 0), (14, 20, -4294967296, 0), (15, 20, -4294967296, 0), (17, 21, -4294967296, -1), (17, 26, -4294967296, 0), (19, 14, -4294967296, 0), (19, 15, -4294967296, 0), (19, 20, -4294967296, 0), (24, 25, -4294967296, 511), (26, 21, -4294967296, 0)])
theorem oo_Mo_squares_22 {kA : Nat → ClassId} : or_ok PRD kA GG o_Mo_squares_22 := by
  refine or_mk fun A ta ws vs hD hth hl => ?_
  intro t0 r0 t1 k1 t6 r6 t7 k7 t12 k12 t13 k13 t14 k14 t15 k15 t16 k16 t17 k17 t18 k18 t19 k19 t20 k20 t21 k21 t22 k22 t23 k23 t24 k24 t25 k25 t26 k26 t27 k27 t28 k28 t29 k29 d0 d1 d2 d3 d4 d5 d6 d7 d8 d9 d10 d11 d12 d13 d14 d15 d16 f0 f1 f2 f3 f4 f5 f6 f7 f8 f9 f10 f11 f12 f13 f14 f15
  replace f0 := shm_14 f0
  replace f1 := shm_14 f1
  replace f2 := shm_12 f2
  replace f3 := shm_192 f3
  replace f5 := shm_1278 f5
  replace f7 := shm_417 f7
  replace f10 := shm_1281 f10
  replace f11 := shm_890 f11
  replace f14 := shm_5 f14
  have q6 : n_v vs 6 = n_v vs 0 := f14.symm
  simp only [q6] at f5
  have kz_0_132 := fdq_152 hD hth r0
  have nf0 : fc_1 PRD (20, [6, 29, 21], [60, 1, 2, 776, 132, 130, 131]) ws (vs) := by
    refine ⟨nf_in hl rfl, sgq_1275 ?_⟩
    · show SQ2 (w_fi ws (n_v vs 6) 132) (w_ei ws (w_ar ws (n_v vs 6) 130)) (w_ei ws (w_ar ws (n_v vs 6) 131)) (v_iv (n_v vs 29)) (v_iv (n_v vs 21))
      rw [q6]
      exact vc_Mo_squares_22_0 (v_iv (n_v vs 16)) (v_iv (n_v vs 17)) (v_iv (n_v vs 21)) (v_iv (n_v vs 22)) (v_iv (n_v vs 29)) (w_ei ws (w_ar ws (n_v vs 0) 130)) (w_ei ws (w_ar ws (n_v vs 0) 131)) (w_fi ws (n_v vs 0) 132) k16 k17 k21 k22 k29 f0 f5 kz_0_132
  have nf1 : fc_1 PRD (20, [27, 28], [61, 0, 791]) ws (vs) := ⟨nf_in hl rfl, sgq_417 (vc_Mo_squares_22_1 (v_iv (n_v vs 12)) (v_iv (n_v vs 13)) (v_iv (n_v vs 14)) (v_iv (n_v vs 15)) (v_iv (n_v vs 18)) (v_iv (n_v vs 19)) (v_iv (n_v vs 20)) (v_iv (n_v vs 23)) (v_iv (n_v vs 24)) (v_iv (n_v vs 27)) (v_iv (n_v vs 28)) k12 k14 k15 k18 k19 k20 k23 k27 k28 f1 f2 f3 f7 f10 f11)⟩
  refine ⟨(fun _ h => (by cases h)), [], trivial, ?_, (fun _ h => (by cases h))⟩
  rw [List.append_nil]
  exact List.forall_mem_cons.mpr ⟨⟨show (20 : Nat) < 100 from by decide, nf0⟩, List.forall_mem_cons.mpr ⟨⟨show (20 : Nat) < 100 from by decide, nf1⟩, (fun _ h => (by cases h))⟩⟩
set_option maxHeartbeats 4000000 in
theorem vc_Mo_squares_23_r0 (x16 : Int) (x17 : Int) (x21 : Int) (x22 : Int) (x26 : Int) (itemOf_0 : Int → Int) (itemSize_0 : Int → Int) (itemMany_0 : Int) (k16 : (-2147483648) ≤ x16 ∧ x16 ≤ 131071) (k17 : 0 ≤ x17 ∧ x17 ≤ 39) (k21 : 1 ≤ x21 ∧ x21 ≤ 40) (k22 : 0 ≤ x22 ∧ x22 ≤ 131071) (f4 : SQ3 (itemMany_0) (itemOf_0) (itemSize_0) (x16) (x17) (x21) (x22)) (kz_0_132 : 0 ≤ itemMany_0 ∧ itemMany_0 ≤ 40) : 1 ≤ x16 ∧ x16 ≤ 96000 := by
  first
    | (have h := sq3_bd ‹SQ3 _ _ _ _ _ _ _› (by omega); omega)
    | (have h := sq3_bd ‹SQ3 _ _ _ _ _ _ _› (by omega); have g := ‹SQ3 _ _ _ _ _ _ _›; have q := (g.1.1 x21 (by omega) (by have := g.2; omega)).2; omega)
set_option maxHeartbeats 4000000 in
theorem vc_Mo_squares_23_r1 (x16 : Int) (x17 : Int) (x21 : Int) (x22 : Int) (x26 : Int) (itemOf_0 : Int → Int) (itemSize_0 : Int → Int) (itemMany_0 : Int) (k16 : (-2147483648) ≤ x16 ∧ x16 ≤ 131071) (k17 : 0 ≤ x17 ∧ x17 ≤ 39) (k21 : 1 ≤ x21 ∧ x21 ≤ 40) (k22 : 0 ≤ x22 ∧ x22 ≤ 131071) (f4 : SQ3 (itemMany_0) (itemOf_0) (itemSize_0) (x16) (x17) (x21) (x22)) (kz_0_132 : 0 ≤ itemMany_0 ∧ itemMany_0 ≤ 40) : 1 ≤ x22 ∧ x22 ≤ 96000 := by
  first
    | (have h := sq3_bd ‹SQ3 _ _ _ _ _ _ _› (by omega); omega)
    | (have h := sq3_bd ‹SQ3 _ _ _ _ _ _ _› (by omega); have g := ‹SQ3 _ _ _ _ _ _ _›; have q := (g.1.1 x21 (by omega) (by have := g.2; omega)).2; omega)
def o_Mo_squares_23 : or_T := (428, 29, [(0, (2, 0, 0, [165])), (1, (0, 0, 3, [])), (6, (2, 0, 0, [165])), (7, (0, 0, 3, [])), (12, (0, 0, 512, [])), (13, (0, 0, 512, [])), (14, (0, -512, 512, [])), (15, (0, -512, 512, [])), (16, (0, -2147483648, 131071, [])), (17, (0, 0, 39, [])), (18, (0, 1, 1, [])), (19, (0, -512, 512, [])), (20, (0, -512, 512, [])), (21, (0, 1, 40, [])), (22, (0, 0, 131071, [])), (23, (0, -512, 512, [])), (24, (0, -512, 512, [])), (25, (0, 0, 98400, [])), (26, (0, 1, 40, [])), (27, (0, -512, 1024, [])), (28, (0, -1024, 1024, []))], [(2, [28, 15, 23], []), (1, [27, 13, 23], []), (8, [18], [1]), (7, [26, 21], [3]), (20, [6, 16, 17, 21, 22], [60, 1, 2, 777, 132, 130, 131]), (20, [17, 26], [50, 0, 0, 0, 2, 1, 0, 1, 1]), (20, [12, 14], [61, 0, 791]), (20, [13, 15], [61, 0, 791]), (20, [6, 7], [60, 0, 1, 789, 72]), (20, [18, 14, 15, 19, 20], [61, 0, 792]), (20, [23, 20], [61, 0, 793]), (20, [24, 19], [61, 0, 793]), (20, [6, 16, 17, 21, 22, 26, 25], [60, 1, 2, 794, 132, 130, 131]), (24, [0, 6], []), (24, [1, 7], [])], [(16, (0, 1, 96000, [])), (22, (0, 1, 96000, []))], [], [], [], [(28, 15, -512, 512), (28, 20, -4294967296, 512), (27, 23, 0, 512), (27, 13, -512, 512), (26, 21, 0, 4294967296), (1, 7, -4294967296, 0), (7, 1, -4294967296, 0), (14, 20, -4294967296, 0), (15, 20, -4294967296, 0), (17, 21, -4294967296, -1), (17, 26, -4294967296, 0), (19, 14, -4294967296, 0), (19, 15, -4294967296, 0), (19, 20, -4294967296, 0), (24, 25, -4294967296, 511), (26, 21, -4294967296, 0)])
theorem oo_Mo_squares_23 {kA : Nat → ClassId} : or_ok PRD kA GG o_Mo_squares_23 := by
  refine or_mk fun A ta ws vs hD hth hl => ?_
  intro t0 r0 t1 k1 t6 r6 t7 k7 t12 k12 t13 k13 t14 k14 t15 k15 t16 k16 t17 k17 t18 k18 t19 k19 t20 k20 t21 k21 t22 k22 t23 k23 t24 k24 t25 k25 t26 k26 t27 k27 t28 k28 d0 d1 d2 d3 d4 d5 d6 d7 d8 d9 d10 d11 d12 d13 d14 d15 f0 f1 f2 f3 f4 f5 f6 f7 f8 f9 f10 f11 f12 f13 f14
  replace f4 := shm_1278 f4
  replace f13 := shm_5 f13
  have q6 : n_v vs 6 = n_v vs 0 := f13.symm
  simp only [q6] at f4
  have kz_0_132 := fdq_152 hD hth r0
  have hrf0 : 1 ≤ v_iv (n_v vs 16) ∧ v_iv (n_v vs 16) ≤ 96000 := vc_Mo_squares_23_r0 (v_iv (n_v vs 16)) (v_iv (n_v vs 17)) (v_iv (n_v vs 21)) (v_iv (n_v vs 22)) (v_iv (n_v vs 26)) (w_ei ws (w_ar ws (n_v vs 0) 130)) (w_ei ws (w_ar ws (n_v vs 0) 131)) (w_fi ws (n_v vs 0) 132) k16 k17 k21 k22 f4 kz_0_132
  have hrf1 : 1 ≤ v_iv (n_v vs 22) ∧ v_iv (n_v vs 22) ≤ 96000 := vc_Mo_squares_23_r1 (v_iv (n_v vs 16)) (v_iv (n_v vs 17)) (v_iv (n_v vs 21)) (v_iv (n_v vs 22)) (v_iv (n_v vs 26)) (w_ei ws (w_ar ws (n_v vs 0) 130)) (w_ei ws (w_ar ws (n_v vs 0) 131)) (w_fi ws (n_v vs 0) 132) k16 k17 k21 k22 f4 kz_0_132
  have rf16 : tv_ok ta (0, 1, 96000, []) (n_v vs 16) := tv_in t16 (by first | omega | grind) (by first | omega | grind)
  have rf22 : tv_ok ta (0, 1, 96000, []) (n_v vs 22) := tv_in t22 (by first | omega | grind) (by first | omega | grind)
  refine ⟨List.forall_mem_cons.mpr ⟨rf16, List.forall_mem_cons.mpr ⟨rf22, (fun _ h => (by cases h))⟩⟩, [], trivial, ?_, (fun _ h => (by cases h))⟩
  rw [List.append_nil]
  exact (fun _ h => (by cases h))
set_option maxHeartbeats 4000000 in
theorem vc_Mo_squares_24_0 (x16 : Int) (x17 : Int) (x21 : Int) (x22 : Int) (x29 : Int) (itemOf_0 : Int → Int) (itemSize_0 : Int → Int) (itemMany_0 : Int) (k16 : 1 ≤ x16 ∧ x16 ≤ 96000) (k17 : 0 ≤ x17 ∧ x17 ≤ 39) (k21 : 1 ≤ x21 ∧ x21 ≤ 40) (k22 : 1 ≤ x22 ∧ x22 ≤ 96000) (k29 : (-95999) ≤ x29 ∧ x29 ≤ 95999) (f0 : x29 = x16 - x22) (f5 : SQ3 (itemMany_0) (itemOf_0) (itemSize_0) (x16) (x17) (x21) (x22)) (kz_0_132 : 0 ≤ itemMany_0 ∧ itemMany_0 ≤ 40) : SQ2 (itemMany_0) (itemOf_0) (itemSize_0) (x29) (x21) := by
  first
    | exact sq3_next ‹SQ3 _ _ _ _ _ _ _› (by omega) (by omega)
set_option maxHeartbeats 4000000 in
theorem vc_Mo_squares_24_1 (x12 : Int) (x13 : Int) (x14 : Int) (x15 : Int) (x18 : Int) (x19 : Int) (x20 : Int) (x23 : Int) (x24 : Int) (x27 : Int) (x28 : Int) (k13 : 0 ≤ x13 ∧ x13 ≤ 512) (k14 : (-512) ≤ x14 ∧ x14 ≤ 512) (k15 : (-512) ≤ x15 ∧ x15 ≤ 512) (k18 : 1 ≤ x18 ∧ x18 ≤ 1) (k19 : (-512) ≤ x19 ∧ x19 ≤ 512) (k20 : (-512) ≤ x20 ∧ x20 ≤ 512) (k23 : (-512) ≤ x23 ∧ x23 ≤ 512) (k27 : (-512) ≤ x27 ∧ x27 ≤ 1024) (k28 : (-1024) ≤ x28 ∧ x28 ≤ 1024) (f1 : x28 = x15 - x23) (f2 : x27 = x13 + x23) (f3 : x18 ≠ 0) (f8 : HUL (x13) (x15)) (f10 : SQA (x18) (x14) (x15) (x19) (x20)) (f11 : BTW (x23) (x20)) : HUL (x27) (x28) := by
  first
    | (have h1 : HUL x13 x15 := by assumption
       have e := sqa_1 ‹SQA _ _ _ _ _› (by omega)
       have b : BTW x23 x20 := by assumption
       rw [e.2] at b
       exact hul_st h1 b (by omega) (by omega))
def o_Mo_squares_24 : or_T := (50, 30, [(0, (2, 0, 0, [165])), (1, (0, 0, 3, [])), (6, (2, 0, 0, [165])), (7, (0, 0, 3, [])), (12, (0, 0, 512, [])), (13, (0, 0, 512, [])), (14, (0, -512, 512, [])), (15, (0, -512, 512, [])), (16, (0, 1, 96000, [])), (17, (0, 0, 39, [])), (18, (0, 1, 1, [])), (19, (0, -512, 512, [])), (20, (0, -512, 512, [])), (21, (0, 1, 40, [])), (22, (0, 1, 96000, [])), (23, (0, -512, 512, [])), (24, (0, -512, 512, [])), (25, (0, 0, 98400, [])), (26, (0, 1, 40, [])), (27, (0, -512, 1024, [])), (28, (0, -1024, 1024, [])), (29, (0, -95999, 95999, []))], [(2, [29, 16, 22], []), (2, [28, 15, 23], []), (1, [27, 13, 23], []), (8, [18], [1]), (7, [26, 21], [3]), (20, [6, 16, 17, 21, 22], [60, 1, 2, 777, 132, 130, 131]), (20, [17, 26], [50, 0, 0, 0, 2, 1, 0, 1, 1]), (20, [12, 14], [61, 0, 791]), (20, [13, 15], [61, 0, 791]), (20, [6, 7], [60, 0, 1, 789, 72]), (20, [18, 14, 15, 19, 20], [61, 0, 792]), (20, [23, 20], [61, 0, 793]), (20, [24, 19], [61, 0, 793]), (20, [6, 16, 17, 21, 22, 26, 25], [60, 1, 2, 794, 132, 130, 131]), (24, [0, 6], []), (24, [1, 7], [])], [], [], [(20, [6, 29, 21], [60, 1, 2, 776, 132, 130, 131]), (20, [27, 28], [61, 0, 791])], [], [(29, 16, -96000, -1), (28, 15, -512, 512), (28, 20, -4294967296, 512), (27, 23, 0, 512), (27, 13, -512, 512), (26, 21, 0, 4294967296), (1, 7, -4294967296, 0), (7, 1, -4294967296, 0), (14, 20, -4294967296, 0), (15, 20, -4294967296, 0), (17, 21, -4294967296, -1), (17, 26, -4294967296, 0), (19, 14, -4294967296, 0), (19, 15, -4294967296, 0), (19, 20, -4294967296, 0), (24, 25, -4294967296, 511), (26, 21, -4294967296, 0)])
theorem oo_Mo_squares_24 {kA : Nat → ClassId} : or_ok PRD kA GG o_Mo_squares_24 := by
  refine or_mk fun A ta ws vs hD hth hl => ?_
  intro t0 r0 t1 k1 t6 r6 t7 k7 t12 k12 t13 k13 t14 k14 t15 k15 t16 k16 t17 k17 t18 k18 t19 k19 t20 k20 t21 k21 t22 k22 t23 k23 t24 k24 t25 k25 t26 k26 t27 k27 t28 k28 t29 k29 d0 d1 d2 d3 d4 d5 d6 d7 d8 d9 d10 d11 d12 d13 d14 d15 d16 f0 f1 f2 f3 f4 f5 f6 f7 f8 f9 f10 f11 f12 f13 f14 f15
  replace f0 := shm_14 f0
  replace f1 := shm_14 f1
  replace f2 := shm_12 f2
  replace f3 := shm_142 f3
  replace f5 := shm_1278 f5
  replace f8 := shm_417 f8
  replace f10 := shm_1281 f10
  replace f11 := shm_890 f11
  replace f14 := shm_5 f14
  have q6 : n_v vs 6 = n_v vs 0 := f14.symm
  simp only [q6] at f5
  have kz_0_132 := fdq_152 hD hth r0
  have nf0 : fc_1 PRD (20, [6, 29, 21], [60, 1, 2, 776, 132, 130, 131]) ws (vs) := by
    refine ⟨nf_in hl rfl, sgq_1275 ?_⟩
    · show SQ2 (w_fi ws (n_v vs 6) 132) (w_ei ws (w_ar ws (n_v vs 6) 130)) (w_ei ws (w_ar ws (n_v vs 6) 131)) (v_iv (n_v vs 29)) (v_iv (n_v vs 21))
      rw [q6]
      exact vc_Mo_squares_24_0 (v_iv (n_v vs 16)) (v_iv (n_v vs 17)) (v_iv (n_v vs 21)) (v_iv (n_v vs 22)) (v_iv (n_v vs 29)) (w_ei ws (w_ar ws (n_v vs 0) 130)) (w_ei ws (w_ar ws (n_v vs 0) 131)) (w_fi ws (n_v vs 0) 132) k16 k17 k21 k22 k29 f0 f5 kz_0_132
  have nf1 : fc_1 PRD (20, [27, 28], [61, 0, 791]) ws (vs) := ⟨nf_in hl rfl, sgq_417 (vc_Mo_squares_24_1 (v_iv (n_v vs 12)) (v_iv (n_v vs 13)) (v_iv (n_v vs 14)) (v_iv (n_v vs 15)) (v_iv (n_v vs 18)) (v_iv (n_v vs 19)) (v_iv (n_v vs 20)) (v_iv (n_v vs 23)) (v_iv (n_v vs 24)) (v_iv (n_v vs 27)) (v_iv (n_v vs 28)) k13 k14 k15 k18 k19 k20 k23 k27 k28 f1 f2 f3 f8 f10 f11)⟩
  refine ⟨(fun _ h => (by cases h)), [], trivial, ?_, (fun _ h => (by cases h))⟩
  rw [List.append_nil]
  exact List.forall_mem_cons.mpr ⟨⟨show (20 : Nat) < 100 from by decide, nf0⟩, List.forall_mem_cons.mpr ⟨⟨show (20 : Nat) < 100 from by decide, nf1⟩, (fun _ h => (by cases h))⟩⟩

set_option maxHeartbeats 4000000 in
theorem vc_Mo_squares_25_r0 (x16 : Int) (x17 : Int) (x21 : Int) (x22 : Int) (x26 : Int) (itemOf_0 : Int → Int) (itemSize_0 : Int → Int) (itemMany_0 : Int) (k16 : (-2147483648) ≤ x16 ∧ x16 ≤ 131071) (k17 : 0 ≤ x17 ∧ x17 ≤ 40) (k21 : 1 ≤ x21 ∧ x21 ≤ 47) (k22 : 0 ≤ x22 ∧ x22 ≤ 131071) (k26 : 0 ≤ x26 ∧ x26 ≤ 40) (d0 : x21 + (-4294967296) ≤ x26 ∧ x26 ≤ x21 + (-1)) (f2 : SQ3 (itemMany_0) (itemOf_0) (itemSize_0) (x16) (x17) (x21) (x22)) (kz_0_132 : 0 ≤ itemMany_0 ∧ itemMany_0 ≤ 40) : 0 ≤ x26 ∧ x26 ≤ 39 := by
  first
    | omega
    | (have g := (‹SQ3 _ _ _ _ _ _ _›).2; omega)
def o_Mo_squares_25 : or_T := (271, 28, [(0, (2, 0, 0, [165])), (1, (0, 0, 3, [])), (6, (2, 0, 0, [165])), (7, (0, 0, 3, [])), (12, (0, 0, 512, [])), (13, (0, 0, 512, [])), (14, (0, -512, 512, [])), (15, (0, -512, 512, [])), (16, (0, -2147483648, 131071, [])), (17, (0, 0, 40, [])), (18, (0, 0, 1, [])), (19, (0, -512, 512, [])), (20, (0, -512, 512, [])), (21, (0, 1, 47, [])), (22, (0, 0, 131071, [])), (23, (0, -512, 512, [])), (24, (0, -512, 512, [])), (25, (0, 0, 98400, [])), (26, (0, 0, 40, [])), (27, (2, 0, 0, [261]))], [(9, [27, 6], [131]), (7, [26, 21], [2]), (20, [6, 16, 17, 21, 22], [60, 1, 2, 777, 132, 130, 131]), (20, [17, 26], [50, 0, 0, 0, 2, 1, 0, 1, 1]), (20, [12, 14], [61, 0, 791]), (20, [13, 15], [61, 0, 791]), (20, [6, 7], [60, 0, 1, 789, 72]), (20, [18, 14, 15, 19, 20], [61, 0, 792]), (20, [23, 20], [61, 0, 793]), (20, [24, 19], [61, 0, 793]), (20, [6, 16, 17, 21, 22, 26, 25], [60, 1, 2, 794, 132, 130, 131]), (24, [0, 6], []), (24, [1, 7], [])], [(26, (0, 0, 39, []))], [], [], [], [(26, 21, -4294967296, -1), (1, 7, -4294967296, 0), (7, 1, -4294967296, 0), (14, 20, -4294967296, 0), (15, 18, -4294967296, 511), (15, 20, -4294967296, 0), (17, 21, -4294967296, -1), (17, 26, -4294967296, 0), (19, 14, -4294967296, 0), (19, 15, -4294967296, 0), (19, 18, -4294967296, 511), (19, 20, -4294967296, 0), (24, 25, -4294967296, 511), (24, 26, -4294967296, 511), (26, 21, -4294967296, 0)])
theorem oo_Mo_squares_25 {kA : Nat → ClassId} : or_ok PRD kA GG o_Mo_squares_25 := by
  refine or_mk fun A ta ws vs hD hth hl => ?_
  intro t0 r0 t1 k1 t6 r6 t7 k7 t12 k12 t13 k13 t14 k14 t15 k15 t16 k16 t17 k17 t18 k18 t19 k19 t20 k20 t21 k21 t22 k22 t23 k23 t24 k24 t25 k25 t26 k26 t27 r27 d0 d1 d2 d3 d4 d5 d6 d7 d8 d9 d10 d11 d12 d13 d14 f0 f1 f2 f3 f4 f5 f6 f7 f8 f9 f10 f11 f12
  replace f2 := shm_1278 f2
  replace f11 := shm_5 f11
  have q6 : n_v vs 6 = n_v vs 0 := f11.symm
  simp only [q6] at f2
  have kz_0_132 := fdq_152 hD hth r0
  have hrf0 : 0 ≤ v_iv (n_v vs 26) ∧ v_iv (n_v vs 26) ≤ 39 := vc_Mo_squares_25_r0 (v_iv (n_v vs 16)) (v_iv (n_v vs 17)) (v_iv (n_v vs 21)) (v_iv (n_v vs 22)) (v_iv (n_v vs 26)) (w_ei ws (w_ar ws (n_v vs 0) 130)) (w_ei ws (w_ar ws (n_v vs 0) 131)) (w_fi ws (n_v vs 0) 132) k16 k17 k21 k22 k26 d0 f2 kz_0_132
  have rf26 : tv_ok ta (0, 0, 39, []) (n_v vs 26) := tv_in t26 (by first | omega | grind) (by first | omega | grind)
  refine ⟨List.forall_mem_cons.mpr ⟨rf26, (fun _ h => (by cases h))⟩, [], trivial, ?_, (fun _ h => (by cases h))⟩
  rw [List.append_nil]
  exact (fun _ h => (by cases h))
set_option maxHeartbeats 4000000 in
theorem vc_Mo_squares_26_r0 (x16 : Int) (x17 : Int) (x21 : Int) (x22 : Int) (x25 : Int) (x26 : Int) (itemSize_0 : Int → Int) (itemOf_0 : Int → Int) (itemMany_0 : Int) (k16 : (-2147483648) ≤ x16 ∧ x16 ≤ 131071) (k17 : 0 ≤ x17 ∧ x17 ≤ 40) (k21 : 1 ≤ x21 ∧ x21 ≤ 47) (k22 : 0 ≤ x22 ∧ x22 ≤ 131071) (k25 : 0 ≤ x25 ∧ x25 ≤ 98400) (k26 : 0 ≤ x26 ∧ x26 ≤ 39) (d0 : x21 + (-4294967296) ≤ x26 ∧ x26 ≤ x21 + (-1)) (f3 : SQ3 (itemMany_0) (itemOf_0) (itemSize_0) (x16) (x17) (x21) (x22)) (f11 : SQ4 (itemMany_0) (itemOf_0) (itemSize_0) (x16) (x17) (x21) (x22) (x26) (x25)) (kz_0_132 : 0 ≤ itemMany_0 ∧ itemMany_0 ≤ 40) : 0 ≤ x25 ∧ x25 ≤ 96000 := by
  first
    | (have h := sq3_bd ‹SQ3 _ _ _ _ _ _ _› (by omega); omega)
    | (have h := sq3_bd ‹SQ3 _ _ _ _ _ _ _› (by omega); have g := ‹SQ3 _ _ _ _ _ _ _›; have q := (g.1.1 x21 (by omega) (by have := g.2; omega)).2; omega)
    | (have h := sq3_bd ‹SQ3 _ _ _ _ _ _ _› (by omega); have h2 := sq4_bd ‹SQ4 _ _ _ _ _ _ _ _ _›; have g := ‹SQ3 _ _ _ _ _ _ _›; have q := (g.1.1 x26 (by omega) (by have := g.2; omega)).2; omega)
set_option maxHeartbeats 4000000 in
theorem vc_Mo_squares_26_r1 (x16 : Int) (x17 : Int) (x21 : Int) (x22 : Int) (x25 : Int) (x26 : Int) (x28 : Int) (itemSize_0 : Int → Int) (itemOf_0 : Int → Int) (itemMany_0 : Int) (k16 : (-2147483648) ≤ x16 ∧ x16 ≤ 131071) (k17 : 0 ≤ x17 ∧ x17 ≤ 40) (k21 : 1 ≤ x21 ∧ x21 ≤ 47) (k22 : 0 ≤ x22 ∧ x22 ≤ 131071) (k25 : 0 ≤ x25 ∧ x25 ≤ 98400) (k26 : 0 ≤ x26 ∧ x26 ≤ 39) (k28 : 0 ≤ x28 ∧ x28 ≤ 4095) (d0 : x21 + (-4294967296) ≤ x26 ∧ x26 ≤ x21 + (-1)) (h0 : x28 = itemSize_0 (x26)) (f3 : SQ3 (itemMany_0) (itemOf_0) (itemSize_0) (x16) (x17) (x21) (x22)) (f11 : SQ4 (itemMany_0) (itemOf_0) (itemSize_0) (x16) (x17) (x21) (x22) (x26) (x25)) (kz_0_132 : 0 ≤ itemMany_0 ∧ itemMany_0 ≤ 40) : 1 ≤ x28 ∧ x28 ≤ 2400 := by
  first
    | (have h := sq3_bd ‹SQ3 _ _ _ _ _ _ _› (by omega); omega)
    | (have h := sq3_bd ‹SQ3 _ _ _ _ _ _ _› (by omega); have g := ‹SQ3 _ _ _ _ _ _ _›; have q := (g.1.1 x21 (by omega) (by have := g.2; omega)).2; omega)
    | (have h := sq3_bd ‹SQ3 _ _ _ _ _ _ _› (by omega); have h2 := sq4_bd ‹SQ4 _ _ _ _ _ _ _ _ _›; have g := ‹SQ3 _ _ _ _ _ _ _›; have q := (g.1.1 x26 (by omega) (by have := g.2; omega)).2; omega)
def o_Mo_squares_26 : or_T := (272, 29, [(0, (2, 0, 0, [165])), (1, (0, 0, 3, [])), (6, (2, 0, 0, [165])), (7, (0, 0, 3, [])), (12, (0, 0, 512, [])), (13, (0, 0, 512, [])), (14, (0, -512, 512, [])), (15, (0, -512, 512, [])), (16, (0, -2147483648, 131071, [])), (17, (0, 0, 40, [])), (18, (0, 0, 1, [])), (19, (0, -512, 512, [])), (20, (0, -512, 512, [])), (21, (0, 1, 47, [])), (22, (0, 0, 131071, [])), (23, (0, -512, 512, [])), (24, (0, -512, 512, [])), (25, (0, 0, 98400, [])), (26, (0, 0, 39, [])), (27, (2, 0, 0, [261])), (28, (0, 0, 4095, []))], [(10, [28, 27, 26], []), (9, [27, 6], [131]), (7, [26, 21], [2]), (20, [6, 16, 17, 21, 22], [60, 1, 2, 777, 132, 130, 131]), (20, [17, 26], [50, 0, 0, 0, 2, 1, 0, 1, 1]), (20, [12, 14], [61, 0, 791]), (20, [13, 15], [61, 0, 791]), (20, [6, 7], [60, 0, 1, 789, 72]), (20, [18, 14, 15, 19, 20], [61, 0, 792]), (20, [23, 20], [61, 0, 793]), (20, [24, 19], [61, 0, 793]), (20, [6, 16, 17, 21, 22, 26, 25], [60, 1, 2, 794, 132, 130, 131]), (24, [0, 6], []), (24, [1, 7], [])], [(25, (0, 0, 96000, [])), (28, (0, 1, 2400, []))], [], [], [], [(26, 21, -4294967296, -1), (1, 7, -4294967296, 0), (7, 1, -4294967296, 0), (14, 20, -4294967296, 0), (15, 18, -4294967296, 511), (15, 20, -4294967296, 0), (17, 21, -4294967296, -1), (17, 26, -4294967296, 0), (19, 14, -4294967296, 0), (19, 15, -4294967296, 0), (19, 18, -4294967296, 511), (19, 20, -4294967296, 0), (24, 25, -4294967296, 511), (24, 26, -4294967296, 511), (26, 21, -4294967296, 0)])
theorem oo_Mo_squares_26 {kA : Nat → ClassId} : or_ok PRD kA GG o_Mo_squares_26 := by
  refine or_mk fun A ta ws vs hD hth hl => ?_
  intro t0 r0 t1 k1 t6 r6 t7 k7 t12 k12 t13 k13 t14 k14 t15 k15 t16 k16 t17 k17 t18 k18 t19 k19 t20 k20 t21 k21 t22 k22 t23 k23 t24 k24 t25 k25 t26 k26 t27 r27 t28 k28 d0 d1 d2 d3 d4 d5 d6 d7 d8 d9 d10 d11 d12 d13 d14 f0 f1 f2 f3 f4 f5 f6 f7 f8 f9 f10 f11 f12 f13
  replace f0 := shm_107 f0
  replace f1 := shm_594 f1
  replace f3 := shm_1278 f3
  replace f11 := shm_1284 f11
  replace f12 := shm_5 f12
  have q6 : n_v vs 6 = n_v vs 0 := f12.symm
  simp only [q6] at f1 f3 f11
  have ad_27 : v_ad (n_v vs 27) = w_ar ws (n_v vs 0) 131 := congrArg v_ad f1
  simp only [ad_27] at f0
  have h0 : v_iv (n_v vs 28) = w_ei ws (w_ar ws (n_v vs 0) 131) (v_iv (n_v vs 26)) := f0
  have kz_0_132 := fdq_152 hD hth r0
  have hrf0 : 0 ≤ v_iv (n_v vs 25) ∧ v_iv (n_v vs 25) ≤ 96000 := vc_Mo_squares_26_r0 (v_iv (n_v vs 16)) (v_iv (n_v vs 17)) (v_iv (n_v vs 21)) (v_iv (n_v vs 22)) (v_iv (n_v vs 25)) (v_iv (n_v vs 26)) (w_ei ws (w_ar ws (n_v vs 0) 131)) (w_ei ws (w_ar ws (n_v vs 0) 130)) (w_fi ws (n_v vs 0) 132) k16 k17 k21 k22 k25 k26 d0 f3 f11 kz_0_132
  have hrf1 : 1 ≤ v_iv (n_v vs 28) ∧ v_iv (n_v vs 28) ≤ 2400 := vc_Mo_squares_26_r1 (v_iv (n_v vs 16)) (v_iv (n_v vs 17)) (v_iv (n_v vs 21)) (v_iv (n_v vs 22)) (v_iv (n_v vs 25)) (v_iv (n_v vs 26)) (v_iv (n_v vs 28)) (w_ei ws (w_ar ws (n_v vs 0) 131)) (w_ei ws (w_ar ws (n_v vs 0) 130)) (w_fi ws (n_v vs 0) 132) k16 k17 k21 k22 k25 k26 k28 d0 h0 f3 f11 kz_0_132
  have rf25 : tv_ok ta (0, 0, 96000, []) (n_v vs 25) := tv_in t25 (by first | omega | grind) (by first | omega | grind)
  have rf28 : tv_ok ta (0, 1, 2400, []) (n_v vs 28) := tv_in t28 (by first | omega | grind) (by first | omega | grind)
  refine ⟨List.forall_mem_cons.mpr ⟨rf25, List.forall_mem_cons.mpr ⟨rf28, (fun _ h => (by cases h))⟩⟩, [], trivial, ?_, (fun _ h => (by cases h))⟩
  rw [List.append_nil]
  exact (fun _ h => (by cases h))
set_option maxHeartbeats 4000000 in
theorem vc_Mo_squares_27_r0 (x16 : Int) (x17 : Int) (x21 : Int) (x22 : Int) (x26 : Int) (x33 : Int) (itemSize_0 : Int → Int) (itemOf_0 : Int → Int) (itemMany_0 : Int) (k16 : (-2147483648) ≤ x16 ∧ x16 ≤ 131071) (k17 : 0 ≤ x17 ∧ x17 ≤ 40) (k21 : 1 ≤ x21 ∧ x21 ≤ 47) (k22 : 0 ≤ x22 ∧ x22 ≤ 131071) (k33 : 0 ≤ x33 ∧ x33 ≤ 131071) (f0 : x33 = x22) (f8 : SQ3 (itemMany_0) (itemOf_0) (itemSize_0) (x16) (x17) (x21) (x22)) (kz_0_132 : 0 ≤ itemMany_0 ∧ itemMany_0 ≤ 40) : 1 ≤ x33 ∧ x33 ≤ 96000 := by
  first
    | (have h := sq3_bd ‹SQ3 _ _ _ _ _ _ _› (by omega); omega)
    | (have h := sq3_bd ‹SQ3 _ _ _ _ _ _ _› (by omega); have g := ‹SQ3 _ _ _ _ _ _ _›; have q := (g.1.1 x21 (by omega) (by have := g.2; omega)).2; omega)
def o_Mo_squares_27 : or_T := (285, 34, [(0, (2, 0, 0, [165])), (1, (0, 0, 3, [])), (6, (2, 0, 0, [165])), (7, (0, 0, 3, [])), (12, (0, 0, 512, [])), (13, (0, 0, 512, [])), (14, (0, -512, 512, [])), (15, (0, -512, 512, [])), (16, (0, -2147483648, 131071, [])), (17, (0, 0, 40, [])), (18, (0, 0, 1, [])), (19, (0, -512, 512, [])), (20, (0, -512, 512, [])), (21, (0, 1, 47, [])), (22, (0, 0, 131071, [])), (23, (0, -512, 512, [])), (24, (0, -512, 512, [])), (25, (0, 0, 96000, [])), (26, (0, 0, 39, [])), (27, (2, 0, 0, [261])), (28, (0, 1, 2400, [])), (29, (0, 1, 98400, [])), (30, (1, -512, 512, [])), (31, (1, 1, 98400, [])), (32, (1, -50380800, 50380800, [])), (33, (1, 0, 131071, []))], [(22, [33, 22], []), (3, [32, 30, 31], []), (22, [31, 29], []), (22, [30, 19], []), (1, [29, 25, 28], []), (10, [28, 27, 26], []), (9, [27, 6], [131]), (7, [26, 21], [2]), (20, [6, 16, 17, 21, 22], [60, 1, 2, 777, 132, 130, 131]), (20, [17, 26], [50, 0, 0, 0, 2, 1, 0, 1, 1]), (20, [12, 14], [61, 0, 791]), (20, [13, 15], [61, 0, 791]), (20, [6, 7], [60, 0, 1, 789, 72]), (20, [18, 14, 15, 19, 20], [61, 0, 792]), (20, [23, 20], [61, 0, 793]), (20, [24, 19], [61, 0, 793]), (20, [6, 16, 17, 21, 22, 26, 25], [60, 1, 2, 794, 132, 130, 131]), (24, [0, 6], []), (24, [1, 7], [])], [(33, (1, 1, 96000, []))], [], [], [], [(29, 28, 0, 96000), (29, 25, 1, 2400), (26, 21, -4294967296, -1), (1, 7, -4294967296, 0), (7, 1, -4294967296, 0), (14, 20, -4294967296, 0), (15, 18, -4294967296, 511), (15, 20, -4294967296, 0), (17, 21, -4294967296, -1), (17, 26, -4294967296, 0), (19, 14, -4294967296, 0), (19, 15, -4294967296, 0), (19, 18, -4294967296, 511), (19, 20, -4294967296, 0), (24, 25, -4294967296, 511), (24, 26, -4294967296, 511), (26, 21, -4294967296, 0)])
theorem oo_Mo_squares_27 {kA : Nat → ClassId} : or_ok PRD kA GG o_Mo_squares_27 := by
  refine or_mk fun A ta ws vs hD hth hl => ?_
  intro t0 r0 t1 k1 t6 r6 t7 k7 t12 k12 t13 k13 t14 k14 t15 k15 t16 k16 t17 k17 t18 k18 t19 k19 t20 k20 t21 k21 t22 k22 t23 k23 t24 k24 t25 k25 t26 k26 t27 r27 t28 k28 t29 k29 t30 k30 t31 k31 t32 k32 t33 k33 d0 d1 d2 d3 d4 d5 d6 d7 d8 d9 d10 d11 d12 d13 d14 d15 d16 f0 f1 f2 f3 f4 f5 f6 f7 f8 f9 f10 f11 f12 f13 f14 f15 f16 f17 f18
  replace f8 := shm_1278 f8
  replace f17 := shm_5 f17
  have q6 : n_v vs 6 = n_v vs 0 := f17.symm
  simp only [q6] at f8
  have kz_0_132 := fdq_152 hD hth r0
  have hrf0 : 1 ≤ v_iv (n_v vs 33) ∧ v_iv (n_v vs 33) ≤ 96000 := vc_Mo_squares_27_r0 (v_iv (n_v vs 16)) (v_iv (n_v vs 17)) (v_iv (n_v vs 21)) (v_iv (n_v vs 22)) (v_iv (n_v vs 26)) (v_iv (n_v vs 33)) (w_ei ws (w_ar ws (n_v vs 0) 131)) (w_ei ws (w_ar ws (n_v vs 0) 130)) (w_fi ws (n_v vs 0) 132) k16 k17 k21 k22 k33 (shm_47 f0) f8 kz_0_132
  have rf33 : tv_ok ta (1, 1, 96000, []) (n_v vs 33) := tv_inL t33 (by first | omega | grind) (by first | omega | grind)
  refine ⟨List.forall_mem_cons.mpr ⟨rf33, (fun _ h => (by cases h))⟩, [], trivial, ?_, (fun _ h => (by cases h))⟩
  rw [List.append_nil]
  exact (fun _ h => (by cases h))
set_option maxHeartbeats 4000000 in
theorem vc_Mo_squares_28_r0 (x16 : Int) (x17 : Int) (x19 : Int) (x21 : Int) (x22 : Int) (x25 : Int) (x26 : Int) (x28 : Int) (x29 : Int) (x30 : Int) (x31 : Int) (x32 : Int) (x33 : Int) (x34 : Int) (itemSize_0 : Int → Int) (itemOf_0 : Int → Int) (itemMany_0 : Int) (k16 : (-2147483648) ≤ x16 ∧ x16 ≤ 131071) (k17 : 0 ≤ x17 ∧ x17 ≤ 40) (k19 : (-512) ≤ x19 ∧ x19 ≤ 512) (k21 : 1 ≤ x21 ∧ x21 ≤ 47) (k22 : 0 ≤ x22 ∧ x22 ≤ 131071) (k25 : 0 ≤ x25 ∧ x25 ≤ 96000) (k26 : 0 ≤ x26 ∧ x26 ≤ 39) (k28 : 1 ≤ x28 ∧ x28 ≤ 2400) (k29 : 1 ≤ x29 ∧ x29 ≤ 98400) (k30 : (-512) ≤ x30 ∧ x30 ≤ 512) (k31 : 1 ≤ x31 ∧ x31 ≤ 98400) (k32 : (-50380800) ≤ x32 ∧ x32 ≤ 50380800) (k33 : 1 ≤ x33 ∧ x33 ≤ 96000) (k34 : (-50380800) ≤ x34 ∧ x34 ≤ 50380800) (f0 : x34 = Int.tdiv (x32) (x33)) (f1 : x33 = x22) (f2 : x32 = x30 * x31) (f3 : x31 = x29) (f4 : x30 = x19) (f5 : x29 = x25 + x28) (h6 : x28 = itemSize_0 (x26)) (f8 : x26 < x21) (f9 : SQ3 (itemMany_0) (itemOf_0) (itemSize_0) (x16) (x17) (x21) (x22)) (f17 : SQ4 (itemMany_0) (itemOf_0) (itemSize_0) (x16) (x17) (x21) (x22) (x26) (x25)) (kz_0_132 : 0 ≤ itemMany_0 ∧ itemMany_0 ≤ 40) : (-512) ≤ x34 ∧ x34 ≤ 512 := by
  have h := sq3_bd ‹SQ3 _ _ _ _ _ _ _› (by omega)
  have g := sq4_bd (sq4_step (z_zq := x26 + 1) (o_zq := x25 + itemSize_0 x26) ‹SQ4 _ _ _ _ _ _ _ _ _› (by omega) rfl (by omega) (by omega))
  exact btw_bd (a := x19) (btw_d (o := x25 + itemSize_0 x26) rfl (by assumption) (by assumption) (by assumption) (by omega) (by assumption) (by omega) (by omega) (by omega)) (by omega) (by omega)
