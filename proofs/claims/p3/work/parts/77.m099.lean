section

def o_Mo_style_19 : or_T := (223, 18, [(0, (2, 0, 0, [165])), (3, (0, 0, 2000, [])), (4, (2, 0, 0, [165])), (8, (0, 1, 1, [])), (9, (0, 0, 47, [])), (11, (0, 0, 2010, [])), (12, (2, 0, 0, [274])), (13, (0, 0, 2009, [])), (16, (0, 0, 0, [])), (17, (0, 0, 0, []))], [(9, [9, 4], [165]), (9, [13, 4], [158]), (9, [12, 4], [160]), (20, [4], [50, 1, 1, 158, 160, 7, 6, 3, 0, 160, 2, 0, 158, 0, 0]), (20, [4], [50, 2, 1, 158, 157, 160, 2, 12, 0, 7, 4, 3, 2, 0, 158, 0, 1, 2, 0, 157, 2, 7, 0, 3, 2, 0, 157, 0, 2010, 3, 14, 1, 10, 3, 0, 160, 5, 3, 2, 0, 157, 0, 1, 0, 0, 1, 10, 3, 0, 160, 5, 3, 2, 0, 157, 0, 1, 0, 4]), (20, [4], [30, 0, 1, 1, 159]), (20, [4], [30, 0, -1, 1, 159]), (20, [4], [60, 1, 5, 74, 10, 160, 161, 162, 163, 1]), (20, [4], [50, 1, 0, 8, 1, 3, 2, 0, 8, 0, 0]), (20, [4], [60, 3, 5, 71, 8, 158, 10, 160, 161, 162, 163, 1]), (20, [8, 9], [50, 0, 0, 4, 6, 1, 2, 1, 0, 0, 0, 0, 2, 1, 1, 0, 23]), (20, [4, 3], [50, 1, 0, 0, 1, 3, 2, 0, 0, 1, 1]), (24, [0, 4], []), (20, [11, 4], [30, 2010, 1, 0, 0, 1, 1, 158]), (20, [11, 4], [30, -2010, -1, 0, 0, -1, 1, 158]), (20, [16, 4], [50, 1, 1, 1158, 1160, 4, 6, 1, 2, 1, 0, 0, 1, 1, 6, 3, 1, 160, 2, 1, 158, 0, 1]), (20, [16, 4], [50, 3, 4, 1008, 1158, 1010, 1160, 1163, 1162, 1001, 4, 6, 1, 2, 1, 0, 0, 1, 2, 7, 1, 3, 2, 1, 8, 0, 0, 2, 10, 1, 6, 3, 1, 160, 2, 1, 158, 0, 1, 2, 18, 1, 6, 3, 1, 163, 2, 1, 158, 4, 6, 3, 1, 162, 2, 1, 158, 0, 4, 2, 15, 0, 10, 4, 6, 3, 1, 162, 2, 1, 158, 0, 4, 2, 1, 10, 2, 21, 1, 17, 9, 13, 3, 1, 1, 4, 6, 3, 1, 162, 2, 1, 158, 0, 0, 0, 256, 0, 110, 2, 21, 1, 17, 9, 13, 3, 1, 1, 4, 6, 3, 1, 162, 2, 1, 158, 0, 1, 0, 256, 0, 111, 2, 21, 1, 17, 9, 13, 3, 1, 1, 4, 6, 3, 1, 162, 2, 1, 158, 0, 2, 0, 256, 0, 100, 1, 17, 9, 13, 3, 1, 1, 4, 6, 3, 1, 162, 2, 1, 158, 0, 3, 0, 256, 0, 101]), (20, [4, 16], [50, 3, 4, 8, 158, 10, 160, 163, 162, 1, 4, 148, 2, 7, 1, 3, 2, 0, 8, 0, 0, 2, 10, 1, 6, 3, 0, 160, 2, 0, 158, 0, 1, 2, 18, 1, 6, 3, 0, 163, 2, 0, 158, 4, 6, 3, 0, 162, 2, 0, 158, 0, 4, 2, 15, 0, 10, 4, 6, 3, 0, 162, 2, 0, 158, 0, 4, 2, 0, 10, 2, 21, 1, 17, 9, 13, 3, 0, 1, 4, 6, 3, 0, 162, 2, 0, 158, 0, 0, 0, 256, 0, 110, 2, 21, 1, 17, 9, 13, 3, 0, 1, 4, 6, 3, 0, 162, 2, 0, 158, 0, 1, 0, 256, 0, 111, 2, 21, 1, 17, 9, 13, 3, 0, 1, 4, 6, 3, 0, 162, 2, 0, 158, 0, 2, 0, 256, 0, 100, 1, 17, 9, 13, 3, 0, 1, 4, 6, 3, 0, 162, 2, 0, 158, 0, 3, 0, 256, 0, 101, 1, 2, 1, 1, 0, 1]), (20, [4, 16], [60, 3, 4, 19, 8, 158, 10, 160, 162, 163, 1]), (101, [4, 9], [165]), (7, [16, 17], [0]), (8, [8], [1]), (20, [4], [50, 1, 1, 158, 160, 7, 6, 3, 0, 160, 2, 0, 158, 0, 0]), (20, [4], [50, 2, 1, 158, 157, 160, 2, 12, 0, 7, 4, 3, 2, 0, 158, 0, 1, 2, 0, 157, 2, 7, 0, 3, 2, 0, 157, 0, 2010, 3, 14, 1, 10, 3, 0, 160, 5, 3, 2, 0, 157, 0, 1, 0, 0, 1, 10, 3, 0, 160, 5, 3, 2, 0, 157, 0, 1, 0, 4]), (20, [4], [30, 0, 1, 1, 159]), (20, [4], [30, 0, -1, 1, 159]), (20, [4], [60, 1, 5, 74, 10, 160, 161, 162, 163, 1]), (20, [4], [50, 1, 0, 8, 1, 3, 2, 0, 8, 0, 0]), (20, [4], [60, 3, 5, 71, 8, 158, 10, 160, 161, 162, 163, 1]), (20, [8, 9], [50, 0, 0, 4, 6, 1, 2, 1, 0, 0, 0, 0, 2, 1, 1, 0, 23]), (20, [4, 3], [50, 1, 0, 0, 1, 3, 2, 0, 0, 1, 1]), (20, [11, 4], [30, 2010, 1, 0, 0, 1, 1, 158]), (20, [11, 4], [30, -2010, -1, 0, 0, -1, 1, 158]), (20, [16, 4], [50, 1, 1, 1158, 1160, 4, 6, 1, 2, 1, 0, 0, 1, 1, 6, 3, 1, 160, 2, 1, 158, 0, 1]), (20, [16, 4], [50, 3, 4, 1008, 1158, 1010, 1160, 1163, 1162, 1001, 4, 6, 1, 2, 1, 0, 0, 1, 2, 7, 1, 3, 2, 1, 8, 0, 0, 2, 10, 1, 6, 3, 1, 160, 2, 1, 158, 0, 1, 2, 18, 1, 6, 3, 1, 163, 2, 1, 158, 4, 6, 3, 1, 162, 2, 1, 158, 0, 4, 2, 15, 0, 10, 4, 6, 3, 1, 162, 2, 1, 158, 0, 4, 2, 1, 10, 2, 21, 1, 17, 9, 13, 3, 1, 1, 4, 6, 3, 1, 162, 2, 1, 158, 0, 0, 0, 256, 0, 110, 2, 21, 1, 17, 9, 13, 3, 1, 1, 4, 6, 3, 1, 162, 2, 1, 158, 0, 1, 0, 256, 0, 111, 2, 21, 1, 17, 9, 13, 3, 1, 1, 4, 6, 3, 1, 162, 2, 1, 158, 0, 2, 0, 256, 0, 100, 1, 17, 9, 13, 3, 1, 1, 4, 6, 3, 1, 162, 2, 1, 158, 0, 3, 0, 256, 0, 101]), (20, [4, 16], [50, 3, 4, 8, 158, 10, 160, 163, 162, 1, 4, 148, 2, 7, 1, 3, 2, 0, 8, 0, 0, 2, 10, 1, 6, 3, 0, 160, 2, 0, 158, 0, 1, 2, 18, 1, 6, 3, 0, 163, 2, 0, 158, 4, 6, 3, 0, 162, 2, 0, 158, 0, 4, 2, 15, 0, 10, 4, 6, 3, 0, 162, 2, 0, 158, 0, 4, 2, 0, 10, 2, 21, 1, 17, 9, 13, 3, 0, 1, 4, 6, 3, 0, 162, 2, 0, 158, 0, 0, 0, 256, 0, 110, 2, 21, 1, 17, 9, 13, 3, 0, 1, 4, 6, 3, 0, 162, 2, 0, 158, 0, 1, 0, 256, 0, 111, 2, 21, 1, 17, 9, 13, 3, 0, 1, 4, 6, 3, 0, 162, 2, 0, 158, 0, 2, 0, 256, 0, 100, 1, 17, 9, 13, 3, 0, 1, 4, 6, 3, 0, 162, 2, 0, 158, 0, 3, 0, 256, 0, 101, 1, 2, 1, 1, 0, 1]), (20, [4, 16], [60, 3, 4, 19, 8, 158, 10, 160, 162, 163, 1])], [], [(0, 0, 2009, [])], [(20, [4], [50, 2, 1, 158, 157, 160, 2, 12, 0, 7, 4, 3, 2, 0, 158, 0, 1, 2, 0, 157, 2, 7, 0, 3, 2, 0, 157, 0, 2010, 3, 14, 1, 10, 3, 0, 160, 5, 3, 2, 0, 157, 0, 1, 0, 0, 1, 10, 3, 0, 160, 5, 3, 2, 0, 157, 0, 1, 0, 4]), (20, [4, 18], [30, 0, 1, 1, 158, -1, 0, 0]), (20, [4, 18], [30, 0, -1, 1, 158, 1, 0, 0]), (20, [4], [50, 4, 4, 8, 158, 10, 165, 160, 163, 162, 1, 4, 148, 2, 7, 1, 3, 2, 0, 8, 0, 0, 2, 10, 1, 6, 3, 0, 160, 2, 0, 158, 0, 1, 2, 18, 1, 6, 3, 0, 163, 2, 0, 158, 4, 6, 3, 0, 162, 2, 0, 158, 0, 4, 2, 15, 0, 10, 4, 6, 3, 0, 162, 2, 0, 158, 0, 4, 2, 0, 10, 2, 21, 1, 17, 9, 13, 3, 0, 1, 4, 6, 3, 0, 162, 2, 0, 158, 0, 0, 0, 256, 0, 110, 2, 21, 1, 17, 9, 13, 3, 0, 1, 4, 6, 3, 0, 162, 2, 0, 158, 0, 1, 0, 256, 0, 111, 2, 21, 1, 17, 9, 13, 3, 0, 1, 4, 6, 3, 0, 162, 2, 0, 158, 0, 2, 0, 256, 0, 100, 1, 17, 9, 13, 3, 0, 1, 4, 6, 3, 0, 162, 2, 0, 158, 0, 3, 0, 256, 0, 101, 0, 3, 2, 0, 165, 0, 23]), (20, [4], [30, 0, 1, 1, 159]), (20, [4], [30, 0, -1, 1, 159]), (20, [4], [50, 1, 0, 8, 1, 3, 2, 0, 8, 0, 0]), (20, [4, 18], [60, 1, 5, 73, 10, 160, 161, 162, 163, 1]), (23, [11, 18], [-2010, -1, -1])], [], [])
theorem oo_Mo_style_19 {kA : Nat → ClassId} : or_ok PRD kA GG o_Mo_style_19 := by
  refine or_mk fun A ta ws vs hD hth hl => ?_
  intro t0 r0 t3 k3 t4 r4 t8 k8 t9 k9 t11 k11 t12 r12 t13 k13 t16 k16 t17 k17 f0 f1 f2 f3 f4 f5 f6 f7 f8 f9 f10 f11 f12 f13 f14 f15 f16 f17 f18 ta1 w1 le1 s1 f20 f21 f22 f23 f24 f25 f26 f27 f28 f29 f30 f31 f32 f33 f34 f35 f36
  replace f0 := shm_195 f0
  replace f1 := shm_286 f1
  replace f3 := shm_310 f3
  replace f4 := shm_271 f4
  replace f5 := shm_1029 f5
  replace f6 := shm_1030 f6
  replace f7 := shm_2306 f7
  replace f8 := shm_2156 f8
  replace f9 := shm_2311 f9
  replace f10 := shm_2312 f10
  replace f11 := shm_570 f11
  replace f12 := shm_5 f12
  replace f13 := shm_284 f13
  replace f14 := shm_285 f14
  replace f15 := shm_287 f15
  replace f16 := shm_1861 f16
  replace f17 := shm_1862 f17
  replace f18 := shm_1863 f18
  have s1 : (∀ b j, w_el ws b j = w_el w1 b j) ∧ ∀ b j, w_fd ws b j = if b = v_ad (n_v vs 4) ∧ j = 165 then n_v vs 9 else w_fd w1 b j := s1.2
  replace f20 := shm_37 f20
  replace f21 := shm_142 f21
  replace f22 := shm_310 f22
  replace f23 := shm_271 f23
  replace f24 := shm_1029 f24
  replace f25 := shm_1030 f25
  replace f26 := shm_2306 f26
  replace f27 := shm_2156 f27
  replace f28 := shm_2311 f28
  replace f29 := shm_2312 f29
  replace f30 := shm_570 f30
  replace f31 := shm_284 f31
  replace f32 := shm_285 f32
  replace f33 := shm_287 f33
  replace f34 := shm_1861 f34
  replace f35 := shm_1862 f35
  replace f36 := shm_1863 f36
  have q4 : n_v vs 4 = n_v vs 0 := f12.symm
  simp only [q4] at f0 f1 f3 f4 f5 f6 f7 f8 f9 f11 f13 f14 f15 f16 f17 f18
  rw [q4] at s1
  simp only [q4] at f22 f23 f24 f25 f26 f27 f28 f30 f31 f32 f33 f34 f35 f36
  have ar_0_1_1 : w_ar w1 (n_v vs 0) 1 = w_ar ws (n_v vs 0) 1 := by show v_ad (w_fd w1 _ _) = v_ad (w_fd ws _ _); rw [s1.2, if_neg (fun e => absurd e.2 (by decide))]
  have cr_0_1 := fdq_39 hD hth r0
  have ar_0_160_1 : w_ar w1 (n_v vs 0) 160 = w_ar ws (n_v vs 0) 160 := by show v_ad (w_fd w1 _ _) = v_ad (w_fd ws _ _); rw [s1.2, if_neg (fun e => absurd e.2 (by decide))]
  have cr_0_160 := fdq_33 hD hth r0
  have ar_0_161_1 : w_ar w1 (n_v vs 0) 161 = w_ar ws (n_v vs 0) 161 := by show v_ad (w_fd w1 _ _) = v_ad (w_fd ws _ _); rw [s1.2, if_neg (fun e => absurd e.2 (by decide))]
  have ar_0_162_1 : w_ar w1 (n_v vs 0) 162 = w_ar ws (n_v vs 0) 162 := by show v_ad (w_fd w1 _ _) = v_ad (w_fd ws _ _); rw [s1.2, if_neg (fun e => absurd e.2 (by decide))]
  have cr_0_162 := fdq_41 hD hth r0
  have ar_0_163_1 : w_ar w1 (n_v vs 0) 163 = w_ar ws (n_v vs 0) 163 := by show v_ad (w_fd w1 _ _) = v_ad (w_fd ws _ _); rw [s1.2, if_neg (fun e => absurd e.2 (by decide))]
  have cr_0_163 := fdq_42 hD hth r0
  have g0 : v_iv (n_v vs 9) = w_fi ws (n_v vs 0) 165 := congrArg v_iv f0
  have g1 : v_iv (n_v vs 13) = w_fi ws (n_v vs 0) 158 := congrArg v_iv f1
  simp only [ar_0_160_1, ar_0_1_1, ar_0_161_1, ar_0_162_1, ar_0_163_1] at f22 f23 f26 f28 f33 f34 f35 f36
  have fe_0_0_1 : w_fi ws (n_v vs 0) 0 = w_fi w1 (n_v vs 0) 0 := by show v_iv (w_fd _ _ _) = v_iv (w_fd _ _ _); rw [s1.2, if_neg (fun e => absurd e.2 (by decide))]
  have fe_0_8_1 : w_fi ws (n_v vs 0) 8 = w_fi w1 (n_v vs 0) 8 := by show v_iv (w_fd _ _ _) = v_iv (w_fd _ _ _); rw [s1.2, if_neg (fun e => absurd e.2 (by decide))]
  have fe_0_10_1 : w_fi ws (n_v vs 0) 10 = w_fi w1 (n_v vs 0) 10 := by show v_iv (w_fd _ _ _) = v_iv (w_fd _ _ _); rw [s1.2, if_neg (fun e => absurd e.2 (by decide))]
  have fe_0_157_1 : w_fi ws (n_v vs 0) 157 = w_fi w1 (n_v vs 0) 157 := by show v_iv (w_fd _ _ _) = v_iv (w_fd _ _ _); rw [s1.2, if_neg (fun e => absurd e.2 (by decide))]
  have fe_0_158_1 : w_fi ws (n_v vs 0) 158 = w_fi w1 (n_v vs 0) 158 := by show v_iv (w_fd _ _ _) = v_iv (w_fd _ _ _); rw [s1.2, if_neg (fun e => absurd e.2 (by decide))]
  have fe_0_159_1 : w_fi ws (n_v vs 0) 159 = w_fi w1 (n_v vs 0) 159 := by show v_iv (w_fd _ _ _) = v_iv (w_fd _ _ _); rw [s1.2, if_neg (fun e => absurd e.2 (by decide))]
  have fe_0_165_1 : w_fi ws (n_v vs 0) 165 = v_iv (n_v vs 9) := by show v_iv (w_fd _ _ _) = _; rw [s1.2, if_pos ⟨rfl, rfl⟩]
  have hE_0_1_1 : ∀ j : Int, w_ei ws (w_ar ws (n_v vs 0) 1) j = w_ei w1 (w_ar ws (n_v vs 0) 1) j := fun j => s1.1 _ _
  have hK_0_1 := elq_7 hD hth cr_0_1
  have hE_0_160_1 : ∀ j : Int, w_ei ws (w_ar ws (n_v vs 0) 160) j = w_ei w1 (w_ar ws (n_v vs 0) 160) j := fun j => s1.1 _ _
  have hK_0_160 := elq_6 hD hth cr_0_160
  have hE_0_161_1 : ∀ j : Int, w_ei ws (w_ar ws (n_v vs 0) 161) j = w_ei w1 (w_ar ws (n_v vs 0) 161) j := fun j => s1.1 _ _
  have hE_0_162_1 : ∀ j : Int, w_ei ws (w_ar ws (n_v vs 0) 162) j = w_ei w1 (w_ar ws (n_v vs 0) 162) j := fun j => s1.1 _ _
  have hK_0_162 := elq_8 hD hth cr_0_162
  have hE_0_163_1 : ∀ j : Int, w_ei ws (w_ar ws (n_v vs 0) 163) j = w_ei w1 (w_ar ws (n_v vs 0) 163) j := fun j => s1.1 _ _
  have hK_0_163 := elq_9 hD hth cr_0_163
  have kz_0_0 := fdq_148 hD hth r0
  have kz_0_8 := fdq_34 hD hth r0
  have kz_0_10 := fdq_43 hD hth r0
  have kz_0_157 := fdq_35 hD hth r0
  have kz_0_158 := fdq_36 hD hth r0
  have kz_0_159 := fdq_37 hD hth r0
  have kz_0_165 := fdq_27 hD hth r0
  obtain ⟨x, ex, hx⟩ := iv_ex (ta := ta) (lo := 0) (hi := 2009) (z := w_fi ws (n_v vs 0) 158) (by omega) (by omega) (by omega) (by omega)
  have ex2 : v_iv (Value.int x) = w_fi ws (n_v vs 0) 158 := ex
  have ex3 : 0 ≤ v_iv (Value.int x) ∧ v_iv (Value.int x) ≤ 2009 := tv_rng hx
  have e_4 : n_v (vs ++ [Value.int x]) 4 = n_v vs 4 := n_v_old (by rw [hl]; decide)
  have e_11 : n_v (vs ++ [Value.int x]) 11 = n_v vs 11 := n_v_old (by rw [hl]; decide)
  have e_18 : n_v (vs ++ [Value.int x]) 18 = Value.int x := n_v_new hl
  have nf0 : fc_1 PRD (20, [4], [50, 2, 1, 158, 157, 160, 2, 12, 0, 7, 4, 3, 2, 0, 158, 0, 1, 2, 0, 157, 2, 7, 0, 3, 2, 0, 157, 0, 2010, 3, 14, 1, 10, 3, 0, 160, 5, 3, 2, 0, 157, 0, 1, 0, 0, 1, 10, 3, 0, 160, 5, 3, 2, 0, 157, 0, 1, 0, 4]) ws (vs ++ [Value.int x]) := by
    refine ⟨nf_inA hl rfl, sgq_271 ?_⟩
    · show ((w_fi ws (n_v (vs ++ [Value.int x]) 4) 158 + 1) ≤ w_fi ws (n_v (vs ++ [Value.int x]) 4) 157) ∧ ((w_fi ws (n_v (vs ++ [Value.int x]) 4) 157 ≤ 2010) ∧ ((w_ei ws (w_ar ws (n_v (vs ++ [Value.int x]) 4) 160) ((w_fi ws (n_v (vs ++ [Value.int x]) 4) 157 - 1)) = 0) ∨ (w_ei ws (w_ar ws (n_v (vs ++ [Value.int x]) 4) 160) ((w_fi ws (n_v (vs ++ [Value.int x]) 4) 157 - 1)) = 4)))
      simp only [e_4, q4]
      exact vc_Mo_style_19_0 (v_iv (n_v vs 3)) (v_iv (n_v vs 8)) (v_iv (n_v vs 9)) (v_iv (n_v vs 11)) (v_iv (n_v vs 13)) (v_iv (n_v vs 16)) (v_iv (n_v vs 17)) (w_fi ws (n_v vs 0) 165) (w_fi ws (n_v vs 0) 158) (w_ei ws (w_ar ws (n_v vs 0) 160)) (w_fi ws (n_v vs 0) 157) (w_fi ws (n_v vs 0) 159) (w_ei ws (w_ar ws (n_v vs 0) 161)) (w_ei ws (w_ar ws (n_v vs 0) 162)) (w_ei ws (w_ar ws (n_v vs 0) 163)) (w_ei ws (w_ar ws (n_v vs 0) 1)) (w_fi ws (n_v vs 0) 10) (w_fi ws (n_v vs 0) 8) (w_fi ws (n_v vs 0) 0) (w_ei w1 (w_ar ws (n_v vs 0) 160)) (w_fi w1 (n_v vs 0) 158) (w_fi w1 (n_v vs 0) 157) (w_fi w1 (n_v vs 0) 159) (w_ei w1 (w_ar ws (n_v vs 0) 161)) (w_ei w1 (w_ar ws (n_v vs 0) 162)) (w_ei w1 (w_ar ws (n_v vs 0) 163)) (w_ei w1 (w_ar ws (n_v vs 0) 1)) (w_fi w1 (n_v vs 0) 10) (w_fi w1 (n_v vs 0) 8) (w_fi w1 (n_v vs 0) 0) (v_iv (Value.int x)) k3 k8 k9 k11 k13 k16 k17 g0 g1 f3 f4 f5 f6 f7 f8 f9 f10 f11 f13 f14 f15 f16 f17 f18 f20 f21 f22 f23 f24 f25 f26 f27 f28 f29 f30 f31 f32 f33 f34 f35 f36 fe_0_0_1 fe_0_8_1 fe_0_10_1 fe_0_157_1 fe_0_158_1 fe_0_159_1 fe_0_165_1 hE_0_1_1 hK_0_1 hE_0_160_1 hK_0_160 hE_0_161_1 hE_0_162_1 hK_0_162 hE_0_163_1 hK_0_163 kz_0_0 kz_0_8 kz_0_10 kz_0_157 kz_0_158 kz_0_159 kz_0_165 ex2 ex3
  have nf1 : fc_1 PRD (20, [4, 18], [30, 0, 1, 1, 158, -1, 0, 0]) ws (vs ++ [Value.int x]) := by
    refine ⟨nf_inA hl rfl, sgq_272 ?_⟩
    · show 1 * w_fi ws (n_v (vs ++ [Value.int x]) 4) 158 + ((-1) * v_iv (n_v (vs ++ [Value.int x]) 18) + 0) ≤ 0
      simp only [e_4, e_18, q4]
      exact vc_Mo_style_19_1 (v_iv (n_v vs 3)) (v_iv (n_v vs 8)) (v_iv (n_v vs 9)) (v_iv (n_v vs 11)) (v_iv (n_v vs 13)) (v_iv (n_v vs 16)) (v_iv (n_v vs 17)) (w_fi ws (n_v vs 0) 165) (w_fi ws (n_v vs 0) 158) (w_ei ws (w_ar ws (n_v vs 0) 160)) (w_fi ws (n_v vs 0) 157) (w_fi ws (n_v vs 0) 159) (w_ei ws (w_ar ws (n_v vs 0) 161)) (w_ei ws (w_ar ws (n_v vs 0) 162)) (w_ei ws (w_ar ws (n_v vs 0) 163)) (w_ei ws (w_ar ws (n_v vs 0) 1)) (w_fi ws (n_v vs 0) 10) (w_fi ws (n_v vs 0) 8) (w_fi ws (n_v vs 0) 0) (w_ei w1 (w_ar ws (n_v vs 0) 160)) (w_fi w1 (n_v vs 0) 158) (w_fi w1 (n_v vs 0) 157) (w_fi w1 (n_v vs 0) 159) (w_ei w1 (w_ar ws (n_v vs 0) 161)) (w_ei w1 (w_ar ws (n_v vs 0) 162)) (w_ei w1 (w_ar ws (n_v vs 0) 163)) (w_ei w1 (w_ar ws (n_v vs 0) 1)) (w_fi w1 (n_v vs 0) 10) (w_fi w1 (n_v vs 0) 8) (w_fi w1 (n_v vs 0) 0) (v_iv (Value.int x)) k3 k8 k9 k11 k13 k16 k17 g0 g1 f3 f4 f5 f6 f7 f8 f9 f10 f11 f13 f14 f15 f16 f17 f18 f20 f21 f22 f23 f24 f25 f26 f27 f28 f29 f30 f31 f32 f33 f34 f35 f36 fe_0_0_1 fe_0_8_1 fe_0_10_1 fe_0_157_1 fe_0_158_1 fe_0_159_1 fe_0_165_1 hE_0_1_1 hK_0_1 hE_0_160_1 hK_0_160 hE_0_161_1 hE_0_162_1 hK_0_162 hE_0_163_1 hK_0_163 kz_0_0 kz_0_8 kz_0_10 kz_0_157 kz_0_158 kz_0_159 kz_0_165 ex2 ex3
  have nf2 : fc_1 PRD (20, [4, 18], [30, 0, -1, 1, 158, 1, 0, 0]) ws (vs ++ [Value.int x]) := by
    refine ⟨nf_inA hl rfl, sgq_273 ?_⟩
    · show (-1) * w_fi ws (n_v (vs ++ [Value.int x]) 4) 158 + (1 * v_iv (n_v (vs ++ [Value.int x]) 18) + 0) ≤ 0
      simp only [e_4, e_18, q4]
      exact vc_Mo_style_19_2 (v_iv (n_v vs 3)) (v_iv (n_v vs 8)) (v_iv (n_v vs 9)) (v_iv (n_v vs 11)) (v_iv (n_v vs 13)) (v_iv (n_v vs 16)) (v_iv (n_v vs 17)) (w_fi ws (n_v vs 0) 165) (w_fi ws (n_v vs 0) 158) (w_ei ws (w_ar ws (n_v vs 0) 160)) (w_fi ws (n_v vs 0) 157) (w_fi ws (n_v vs 0) 159) (w_ei ws (w_ar ws (n_v vs 0) 161)) (w_ei ws (w_ar ws (n_v vs 0) 162)) (w_ei ws (w_ar ws (n_v vs 0) 163)) (w_ei ws (w_ar ws (n_v vs 0) 1)) (w_fi ws (n_v vs 0) 10) (w_fi ws (n_v vs 0) 8) (w_fi ws (n_v vs 0) 0) (w_ei w1 (w_ar ws (n_v vs 0) 160)) (w_fi w1 (n_v vs 0) 158) (w_fi w1 (n_v vs 0) 157) (w_fi w1 (n_v vs 0) 159) (w_ei w1 (w_ar ws (n_v vs 0) 161)) (w_ei w1 (w_ar ws (n_v vs 0) 162)) (w_ei w1 (w_ar ws (n_v vs 0) 163)) (w_ei w1 (w_ar ws (n_v vs 0) 1)) (w_fi w1 (n_v vs 0) 10) (w_fi w1 (n_v vs 0) 8) (w_fi w1 (n_v vs 0) 0) (v_iv (Value.int x)) k3 k8 k9 k11 k13 k16 k17 g0 g1 f3 f4 f5 f6 f7 f8 f9 f10 f11 f13 f14 f15 f16 f17 f18 f20 f21 f22 f23 f24 f25 f26 f27 f28 f29 f30 f31 f32 f33 f34 f35 f36 fe_0_0_1 fe_0_8_1 fe_0_10_1 fe_0_157_1 fe_0_158_1 fe_0_159_1 fe_0_165_1 hE_0_1_1 hK_0_1 hE_0_160_1 hK_0_160 hE_0_161_1 hE_0_162_1 hK_0_162 hE_0_163_1 hK_0_163 kz_0_0 kz_0_8 kz_0_10 kz_0_157 kz_0_158 kz_0_159 kz_0_165 ex2 ex3
  have nf3 : fc_1 PRD (20, [4], [50, 4, 4, 8, 158, 10, 165, 160, 163, 162, 1, 4, 148, 2, 7, 1, 3, 2, 0, 8, 0, 0, 2, 10, 1, 6, 3, 0, 160, 2, 0, 158, 0, 1, 2, 18, 1, 6, 3, 0, 163, 2, 0, 158, 4, 6, 3, 0, 162, 2, 0, 158, 0, 4, 2, 15, 0, 10, 4, 6, 3, 0, 162, 2, 0, 158, 0, 4, 2, 0, 10, 2, 21, 1, 17, 9, 13, 3, 0, 1, 4, 6, 3, 0, 162, 2, 0, 158, 0, 0, 0, 256, 0, 110, 2, 21, 1, 17, 9, 13, 3, 0, 1, 4, 6, 3, 0, 162, 2, 0, 158, 0, 1, 0, 256, 0, 111, 2, 21, 1, 17, 9, 13, 3, 0, 1, 4, 6, 3, 0, 162, 2, 0, 158, 0, 2, 0, 256, 0, 100, 1, 17, 9, 13, 3, 0, 1, 4, 6, 3, 0, 162, 2, 0, 158, 0, 3, 0, 256, 0, 101, 0, 3, 2, 0, 165, 0, 23]) ws (vs ++ [Value.int x]) := by
    refine ⟨nf_inA hl rfl, sgq_2259 ?_⟩
    · show ((w_fi ws (n_v (vs ++ [Value.int x]) 4) 8 = 0) ∧ ((w_ei ws (w_ar ws (n_v (vs ++ [Value.int x]) 4) 160) (w_fi ws (n_v (vs ++ [Value.int x]) 4) 158) = 1) ∧ ((w_ei ws (w_ar ws (n_v (vs ++ [Value.int x]) 4) 163) (w_fi ws (n_v (vs ++ [Value.int x]) 4) 158) = (w_ei ws (w_ar ws (n_v (vs ++ [Value.int x]) 4) 162) (w_fi ws (n_v (vs ++ [Value.int x]) 4) 158) + 4)) ∧ (((w_ei ws (w_ar ws (n_v (vs ++ [Value.int x]) 4) 162) (w_fi ws (n_v (vs ++ [Value.int x]) 4) 158) + 4) ≤ w_fi ws (n_v (vs ++ [Value.int x]) 4) 10) ∧ (((w_ei ws (w_ar ws (n_v (vs ++ [Value.int x]) 4) 1) ((w_ei ws (w_ar ws (n_v (vs ++ [Value.int x]) 4) 162) (w_fi ws (n_v (vs ++ [Value.int x]) 4) 158) + 0)) % 256) = 110) ∧ (((w_ei ws (w_ar ws (n_v (vs ++ [Value.int x]) 4) 1) ((w_ei ws (w_ar ws (n_v (vs ++ [Value.int x]) 4) 162) (w_fi ws (n_v (vs ++ [Value.int x]) 4) 158) + 1)) % 256) = 111) ∧ (((w_ei ws (w_ar ws (n_v (vs ++ [Value.int x]) 4) 1) ((w_ei ws (w_ar ws (n_v (vs ++ [Value.int x]) 4) 162) (w_fi ws (n_v (vs ++ [Value.int x]) 4) 158) + 2)) % 256) = 100) ∧ ((w_ei ws (w_ar ws (n_v (vs ++ [Value.int x]) 4) 1) ((w_ei ws (w_ar ws (n_v (vs ++ [Value.int x]) 4) 162) (w_fi ws (n_v (vs ++ [Value.int x]) 4) 158) + 3)) % 256) = 101)))))))) → (w_fi ws (n_v (vs ++ [Value.int x]) 4) 165 ≤ 23)
      simp only [e_4, q4]
      exact vc_Mo_style_19_3 (v_iv (n_v vs 3)) (v_iv (n_v vs 8)) (v_iv (n_v vs 9)) (v_iv (n_v vs 11)) (v_iv (n_v vs 13)) (v_iv (n_v vs 16)) (v_iv (n_v vs 17)) (w_fi ws (n_v vs 0) 165) (w_fi ws (n_v vs 0) 158) (w_ei ws (w_ar ws (n_v vs 0) 160)) (w_fi ws (n_v vs 0) 157) (w_fi ws (n_v vs 0) 159) (w_ei ws (w_ar ws (n_v vs 0) 161)) (w_ei ws (w_ar ws (n_v vs 0) 162)) (w_ei ws (w_ar ws (n_v vs 0) 163)) (w_ei ws (w_ar ws (n_v vs 0) 1)) (w_fi ws (n_v vs 0) 10) (w_fi ws (n_v vs 0) 8) (w_fi ws (n_v vs 0) 0) (w_ei w1 (w_ar ws (n_v vs 0) 160)) (w_fi w1 (n_v vs 0) 158) (w_fi w1 (n_v vs 0) 157) (w_fi w1 (n_v vs 0) 159) (w_ei w1 (w_ar ws (n_v vs 0) 161)) (w_ei w1 (w_ar ws (n_v vs 0) 162)) (w_ei w1 (w_ar ws (n_v vs 0) 163)) (w_ei w1 (w_ar ws (n_v vs 0) 1)) (w_fi w1 (n_v vs 0) 10) (w_fi w1 (n_v vs 0) 8) (w_fi w1 (n_v vs 0) 0) (v_iv (Value.int x)) k3 k8 k9 k11 k13 k16 k17 g0 g1 f3 f4 f5 f6 f7 f8 f9 f10 f11 f13 f14 f15 f16 f17 f18 f20 f21 f22 f23 f24 f25 f26 f27 f28 f29 f30 f31 f32 f33 f34 f35 f36 fe_0_0_1 fe_0_8_1 fe_0_10_1 fe_0_157_1 fe_0_158_1 fe_0_159_1 fe_0_165_1 hE_0_1_1 hK_0_1 hE_0_160_1 hK_0_160 hE_0_161_1 hE_0_162_1 hK_0_162 hE_0_163_1 hK_0_163 kz_0_0 kz_0_8 kz_0_10 kz_0_157 kz_0_158 kz_0_159 kz_0_165 ex2 ex3
  have nf4 : fc_1 PRD (20, [4], [30, 0, 1, 1, 159]) ws (vs ++ [Value.int x]) := by
    refine ⟨nf_inA hl rfl, sgq_1029 ?_⟩
    · show 1 * w_fi ws (n_v (vs ++ [Value.int x]) 4) 159 + 0 ≤ 0
      simp only [e_4, q4]
      exact vc_Mo_style_19_4 (v_iv (n_v vs 3)) (v_iv (n_v vs 8)) (v_iv (n_v vs 9)) (v_iv (n_v vs 11)) (v_iv (n_v vs 13)) (v_iv (n_v vs 16)) (v_iv (n_v vs 17)) (w_fi ws (n_v vs 0) 165) (w_fi ws (n_v vs 0) 158) (w_ei ws (w_ar ws (n_v vs 0) 160)) (w_fi ws (n_v vs 0) 157) (w_fi ws (n_v vs 0) 159) (w_ei ws (w_ar ws (n_v vs 0) 161)) (w_ei ws (w_ar ws (n_v vs 0) 162)) (w_ei ws (w_ar ws (n_v vs 0) 163)) (w_ei ws (w_ar ws (n_v vs 0) 1)) (w_fi ws (n_v vs 0) 10) (w_fi ws (n_v vs 0) 8) (w_fi ws (n_v vs 0) 0) (w_ei w1 (w_ar ws (n_v vs 0) 160)) (w_fi w1 (n_v vs 0) 158) (w_fi w1 (n_v vs 0) 157) (w_fi w1 (n_v vs 0) 159) (w_ei w1 (w_ar ws (n_v vs 0) 161)) (w_ei w1 (w_ar ws (n_v vs 0) 162)) (w_ei w1 (w_ar ws (n_v vs 0) 163)) (w_ei w1 (w_ar ws (n_v vs 0) 1)) (w_fi w1 (n_v vs 0) 10) (w_fi w1 (n_v vs 0) 8) (w_fi w1 (n_v vs 0) 0) (v_iv (Value.int x)) k3 k8 k9 k11 k13 k16 k17 g0 g1 f3 f4 f5 f6 f7 f8 f9 f10 f11 f13 f14 f15 f16 f17 f18 f20 f21 f22 f23 f24 f25 f26 f27 f28 f29 f30 f31 f32 f33 f34 f35 f36 fe_0_0_1 fe_0_8_1 fe_0_10_1 fe_0_157_1 fe_0_158_1 fe_0_159_1 fe_0_165_1 hE_0_1_1 hK_0_1 hE_0_160_1 hK_0_160 hE_0_161_1 hE_0_162_1 hK_0_162 hE_0_163_1 hK_0_163 kz_0_0 kz_0_8 kz_0_10 kz_0_157 kz_0_158 kz_0_159 kz_0_165 ex2 ex3
  have nf5 : fc_1 PRD (20, [4], [30, 0, -1, 1, 159]) ws (vs ++ [Value.int x]) := by
    refine ⟨nf_inA hl rfl, sgq_1030 ?_⟩
    · show (-1) * w_fi ws (n_v (vs ++ [Value.int x]) 4) 159 + 0 ≤ 0
      simp only [e_4, q4]
      exact vc_Mo_style_19_5 (v_iv (n_v vs 3)) (v_iv (n_v vs 8)) (v_iv (n_v vs 9)) (v_iv (n_v vs 11)) (v_iv (n_v vs 13)) (v_iv (n_v vs 16)) (v_iv (n_v vs 17)) (w_fi ws (n_v vs 0) 165) (w_fi ws (n_v vs 0) 158) (w_ei ws (w_ar ws (n_v vs 0) 160)) (w_fi ws (n_v vs 0) 157) (w_fi ws (n_v vs 0) 159) (w_ei ws (w_ar ws (n_v vs 0) 161)) (w_ei ws (w_ar ws (n_v vs 0) 162)) (w_ei ws (w_ar ws (n_v vs 0) 163)) (w_ei ws (w_ar ws (n_v vs 0) 1)) (w_fi ws (n_v vs 0) 10) (w_fi ws (n_v vs 0) 8) (w_fi ws (n_v vs 0) 0) (w_ei w1 (w_ar ws (n_v vs 0) 160)) (w_fi w1 (n_v vs 0) 158) (w_fi w1 (n_v vs 0) 157) (w_fi w1 (n_v vs 0) 159) (w_ei w1 (w_ar ws (n_v vs 0) 161)) (w_ei w1 (w_ar ws (n_v vs 0) 162)) (w_ei w1 (w_ar ws (n_v vs 0) 163)) (w_ei w1 (w_ar ws (n_v vs 0) 1)) (w_fi w1 (n_v vs 0) 10) (w_fi w1 (n_v vs 0) 8) (w_fi w1 (n_v vs 0) 0) (v_iv (Value.int x)) k3 k8 k9 k11 k13 k16 k17 g0 g1 f3 f4 f5 f6 f7 f8 f9 f10 f11 f13 f14 f15 f16 f17 f18 f20 f21 f22 f23 f24 f25 f26 f27 f28 f29 f30 f31 f32 f33 f34 f35 f36 fe_0_0_1 fe_0_8_1 fe_0_10_1 fe_0_157_1 fe_0_158_1 fe_0_159_1 fe_0_165_1 hE_0_1_1 hK_0_1 hE_0_160_1 hK_0_160 hE_0_161_1 hE_0_162_1 hK_0_162 hE_0_163_1 hK_0_163 kz_0_0 kz_0_8 kz_0_10 kz_0_157 kz_0_158 kz_0_159 kz_0_165 ex2 ex3
  have nf6 : fc_1 PRD (20, [4], [50, 1, 0, 8, 1, 3, 2, 0, 8, 0, 0]) ws (vs ++ [Value.int x]) := by
    refine ⟨nf_inA hl rfl, sgq_2156 ?_⟩
    · show w_fi ws (n_v (vs ++ [Value.int x]) 4) 8 = 0
      simp only [e_4, q4]
      exact vc_Mo_style_19_6 (v_iv (n_v vs 3)) (v_iv (n_v vs 8)) (v_iv (n_v vs 9)) (v_iv (n_v vs 11)) (v_iv (n_v vs 13)) (v_iv (n_v vs 16)) (v_iv (n_v vs 17)) (w_fi ws (n_v vs 0) 165) (w_fi ws (n_v vs 0) 158) (w_ei ws (w_ar ws (n_v vs 0) 160)) (w_fi ws (n_v vs 0) 157) (w_fi ws (n_v vs 0) 159) (w_ei ws (w_ar ws (n_v vs 0) 161)) (w_ei ws (w_ar ws (n_v vs 0) 162)) (w_ei ws (w_ar ws (n_v vs 0) 163)) (w_ei ws (w_ar ws (n_v vs 0) 1)) (w_fi ws (n_v vs 0) 10) (w_fi ws (n_v vs 0) 8) (w_fi ws (n_v vs 0) 0) (w_ei w1 (w_ar ws (n_v vs 0) 160)) (w_fi w1 (n_v vs 0) 158) (w_fi w1 (n_v vs 0) 157) (w_fi w1 (n_v vs 0) 159) (w_ei w1 (w_ar ws (n_v vs 0) 161)) (w_ei w1 (w_ar ws (n_v vs 0) 162)) (w_ei w1 (w_ar ws (n_v vs 0) 163)) (w_ei w1 (w_ar ws (n_v vs 0) 1)) (w_fi w1 (n_v vs 0) 10) (w_fi w1 (n_v vs 0) 8) (w_fi w1 (n_v vs 0) 0) (v_iv (Value.int x)) k3 k8 k9 k11 k13 k16 k17 g0 g1 f3 f4 f5 f6 f7 f8 f9 f10 f11 f13 f14 f15 f16 f17 f18 f20 f21 f22 f23 f24 f25 f26 f27 f28 f29 f30 f31 f32 f33 f34 f35 f36 fe_0_0_1 fe_0_8_1 fe_0_10_1 fe_0_157_1 fe_0_158_1 fe_0_159_1 fe_0_165_1 hE_0_1_1 hK_0_1 hE_0_160_1 hK_0_160 hE_0_161_1 hE_0_162_1 hK_0_162 hE_0_163_1 hK_0_163 kz_0_0 kz_0_8 kz_0_10 kz_0_157 kz_0_158 kz_0_159 kz_0_165 ex2 ex3
  have nf7 : fc_1 PRD (20, [4, 18], [60, 1, 5, 73, 10, 160, 161, 162, 163, 1]) ws (vs ++ [Value.int x]) := by
    refine ⟨nf_inA hl rfl, sgq_2313 ?_⟩
    · show SC1 (w_fi ws (n_v (vs ++ [Value.int x]) 4) 10) (w_ei ws (w_ar ws (n_v (vs ++ [Value.int x]) 4) 160)) (w_ei ws (w_ar ws (n_v (vs ++ [Value.int x]) 4) 161)) (w_ei ws (w_ar ws (n_v (vs ++ [Value.int x]) 4) 162)) (w_ei ws (w_ar ws (n_v (vs ++ [Value.int x]) 4) 163)) (w_ei ws (w_ar ws (n_v (vs ++ [Value.int x]) 4) 1)) (v_iv (n_v (vs ++ [Value.int x]) 18))
      simp only [e_4, e_18, q4]
      exact vc_Mo_style_19_7 (v_iv (n_v vs 3)) (v_iv (n_v vs 8)) (v_iv (n_v vs 9)) (v_iv (n_v vs 11)) (v_iv (n_v vs 13)) (v_iv (n_v vs 16)) (v_iv (n_v vs 17)) (w_fi ws (n_v vs 0) 165) (w_fi ws (n_v vs 0) 158) (w_ei ws (w_ar ws (n_v vs 0) 160)) (w_fi ws (n_v vs 0) 157) (w_fi ws (n_v vs 0) 159) (w_ei ws (w_ar ws (n_v vs 0) 161)) (w_ei ws (w_ar ws (n_v vs 0) 162)) (w_ei ws (w_ar ws (n_v vs 0) 163)) (w_ei ws (w_ar ws (n_v vs 0) 1)) (w_fi ws (n_v vs 0) 10) (w_fi ws (n_v vs 0) 8) (w_fi ws (n_v vs 0) 0) (w_ei w1 (w_ar ws (n_v vs 0) 160)) (w_fi w1 (n_v vs 0) 158) (w_fi w1 (n_v vs 0) 157) (w_fi w1 (n_v vs 0) 159) (w_ei w1 (w_ar ws (n_v vs 0) 161)) (w_ei w1 (w_ar ws (n_v vs 0) 162)) (w_ei w1 (w_ar ws (n_v vs 0) 163)) (w_ei w1 (w_ar ws (n_v vs 0) 1)) (w_fi w1 (n_v vs 0) 10) (w_fi w1 (n_v vs 0) 8) (w_fi w1 (n_v vs 0) 0) (v_iv (Value.int x)) k3 k8 k9 k11 k13 k16 k17 g0 g1 f3 f4 f5 f6 f7 f8 f9 f10 f11 f13 f14 f15 f16 f17 f18 f20 f21 f22 f23 f24 f25 f26 f27 f28 f29 f30 f31 f32 f33 f34 f35 f36 fe_0_0_1 fe_0_8_1 fe_0_10_1 fe_0_157_1 fe_0_158_1 fe_0_159_1 fe_0_165_1 hE_0_1_1 hK_0_1 hE_0_160_1 hK_0_160 hE_0_161_1 hE_0_162_1 hK_0_162 hE_0_163_1 hK_0_163 kz_0_0 kz_0_8 kz_0_10 kz_0_157 kz_0_158 kz_0_159 kz_0_165 ex2 ex3
  have nf8 : fc_1 PRD (23, [11, 18], [-2010, -1, -1]) ws (vs ++ [Value.int x]) := by
    refine ⟨nf_inA hl rfl, sgq_2314 ?_⟩
    · show (-1) * v_iv (n_v (vs ++ [Value.int x]) 11) + ((-1) * v_iv (n_v (vs ++ [Value.int x]) 18) + 0) ≤ (-2010)
      simp only [e_11, e_18]
      exact vc_Mo_style_19_8 (v_iv (n_v vs 3)) (v_iv (n_v vs 8)) (v_iv (n_v vs 9)) (v_iv (n_v vs 11)) (v_iv (n_v vs 13)) (v_iv (n_v vs 16)) (v_iv (n_v vs 17)) (w_fi ws (n_v vs 0) 165) (w_fi ws (n_v vs 0) 158) (w_ei ws (w_ar ws (n_v vs 0) 160)) (w_fi ws (n_v vs 0) 157) (w_fi ws (n_v vs 0) 159) (w_ei ws (w_ar ws (n_v vs 0) 161)) (w_ei ws (w_ar ws (n_v vs 0) 162)) (w_ei ws (w_ar ws (n_v vs 0) 163)) (w_ei ws (w_ar ws (n_v vs 0) 1)) (w_fi ws (n_v vs 0) 10) (w_fi ws (n_v vs 0) 8) (w_fi ws (n_v vs 0) 0) (w_ei w1 (w_ar ws (n_v vs 0) 160)) (w_fi w1 (n_v vs 0) 158) (w_fi w1 (n_v vs 0) 157) (w_fi w1 (n_v vs 0) 159) (w_ei w1 (w_ar ws (n_v vs 0) 161)) (w_ei w1 (w_ar ws (n_v vs 0) 162)) (w_ei w1 (w_ar ws (n_v vs 0) 163)) (w_ei w1 (w_ar ws (n_v vs 0) 1)) (w_fi w1 (n_v vs 0) 10) (w_fi w1 (n_v vs 0) 8) (w_fi w1 (n_v vs 0) 0) (v_iv (Value.int x)) k3 k8 k9 k11 k13 k16 k17 g0 g1 f3 f4 f5 f6 f7 f8 f9 f10 f11 f13 f14 f15 f16 f17 f18 f20 f21 f22 f23 f24 f25 f26 f27 f28 f29 f30 f31 f32 f33 f34 f35 f36 fe_0_0_1 fe_0_8_1 fe_0_10_1 fe_0_157_1 fe_0_158_1 fe_0_159_1 fe_0_165_1 hE_0_1_1 hK_0_1 hE_0_160_1 hK_0_160 hE_0_161_1 hE_0_162_1 hK_0_162 hE_0_163_1 hK_0_163 kz_0_0 kz_0_8 kz_0_10 kz_0_157 kz_0_158 kz_0_159 kz_0_165 ex2 ex3
  exact ⟨(fun _ h => (by cases h)), [Value.int x], ag_one hx, List.forall_mem_cons.mpr ⟨⟨show (20 : Nat) < 100 from by decide, nf0⟩, List.forall_mem_cons.mpr ⟨⟨show (20 : Nat) < 100 from by decide, nf1⟩, List.forall_mem_cons.mpr ⟨⟨show (20 : Nat) < 100 from by decide, nf2⟩, List.forall_mem_cons.mpr ⟨⟨show (20 : Nat) < 100 from by decide, nf3⟩, List.forall_mem_cons.mpr ⟨⟨show (20 : Nat) < 100 from by decide, nf4⟩, List.forall_mem_cons.mpr ⟨⟨show (20 : Nat) < 100 from by decide, nf5⟩, List.forall_mem_cons.mpr ⟨⟨show (20 : Nat) < 100 from by decide, nf6⟩, List.forall_mem_cons.mpr ⟨⟨show (20 : Nat) < 100 from by decide, nf7⟩, List.forall_mem_cons.mpr ⟨⟨show (23 : Nat) < 100 from by decide, nf8⟩, (fun _ h => (by cases h))⟩⟩⟩⟩⟩⟩⟩⟩⟩, (fun _ h => (by cases h))⟩

set_option maxHeartbeats 4000000 in
theorem vc_Mo_style_20_0 (x3 : Int) (x8 : Int) (x9 : Int) (x11 : Int) (x18 : Int) (styleOne_0 : Int) (tokenKind_0 : Int → Int) (tokenValue_0 : Int → Int) (tokenPlace_0 : Int → Int) (tokenEnd_0 : Int → Int) (tape_0 : Int → Int) (limit_0 : Int) (taped_0 : Int) (cur_0 : Int) (tokens_0 : Int) (opened_0 : Int) (fault_0 : Int) (gx : Int) (k3 : 0 ≤ x3 ∧ x3 ≤ 2000) (k8 : 1 ≤ x8 ∧ x8 ≤ 1) (k9 : 0 ≤ x9 ∧ x9 ≤ 47) (k11 : 0 ≤ x11 ∧ x11 ≤ 2010) (k18 : 0 ≤ x18 ∧ x18 ≤ 2009) (g0 : x9 = styleOne_0) (f2 : SC1 (limit_0) (tokenKind_0) (tokenValue_0) (tokenPlace_0) (tokenEnd_0) (tape_0) (x18)) (f3 : (-1) * x11 + ((-1) * x18 + 0) ≤ (-2010)) (f4 : SOK (limit_0) (tokenKind_0) (tokenValue_0) (tokenPlace_0) (tokenEnd_0) (tape_0)) (f5 : (x8 = 0) → (x9 ≤ 23)) (f6 : taped_0 = x3) (f8 : ((cur_0 + 1) ≤ tokens_0) ∧ ((tokens_0 ≤ 2010) ∧ ((tokenKind_0 ((tokens_0 - 1)) = 0) ∨ (tokenKind_0 ((tokens_0 - 1)) = 4)))) (f9 : 1 * x18 + ((-1) * cur_0 + 0) ≤ 0) (f10 : 1 * opened_0 + 0 ≤ 0) (f11 : (-1) * opened_0 + 0 ≤ 0) (f12 : ((-1) * fault_0 + 0 ≤ (-1)) ∨ (1 * x18 + ((-1) * cur_0 + 0) ≤ (-1))) (f13 : RUL (fault_0) (cur_0) (limit_0) (tokenKind_0) (tokenValue_0) (tokenPlace_0) (tokenEnd_0) (tape_0) (x18)) (f15 : (-1) * x11 + ((-1) * x18 + 0) ≤ (-2010)) (f17 : x8 ≠ 0) (hK_0_1 : ∀ j : Int, 0 ≤ j → j < 2000 → (-128) ≤ tape_0 j ∧ tape_0 j ≤ 127) (hK_0_160 : ∀ j : Int, 0 ≤ j → j < 2010 → 0 ≤ tokenKind_0 j ∧ tokenKind_0 j ≤ 4) (hK_0_162 : ∀ j : Int, 0 ≤ j → j < 2010 → 0 ≤ tokenPlace_0 j ∧ tokenPlace_0 j ≤ 2000) (hK_0_163 : ∀ j : Int, 0 ≤ j → j < 2010 → 0 ≤ tokenEnd_0 j ∧ tokenEnd_0 j ≤ 2000) (kz_0_0 : 0 ≤ taped_0 ∧ taped_0 ≤ 2000) (kz_0_8 : 0 ≤ fault_0 ∧ fault_0 ≤ 5) (kz_0_10 : 0 ≤ limit_0 ∧ limit_0 ≤ 2000) (kz_0_157 : 0 ≤ tokens_0 ∧ tokens_0 ≤ 2010) (kz_0_158 : 0 ≤ cur_0 ∧ cur_0 ≤ 2009) (kz_0_159 : 0 ≤ opened_0 ∧ opened_0 ≤ 13) (kz_0_165 : (-1) ≤ styleOne_0 ∧ styleOne_0 ≤ 47) (ex2 : gx = 0 + (1 * x11 + 0)) (ex3 : 0 ≤ gx ∧ gx ≤ 2010) : (x8 = 0) → (x9 ≤ 23) := by
  first
    | exact (sc1_go ‹SC1 _ _ _ _ _ _ _› ‹RUL _ _ _ _ _ _ _ _ _›).1
    | (have e := (sc1_go ‹SC1 _ _ _ _ _ _ _› ‹RUL _ _ _ _ _ _ _ _ _›).1; clear f5 f8 hK_0_1 hK_0_160 hK_0_162 hK_0_163; omega)
    | (first | with_reducible assumption | ((have f8_c0 := f8.1); (have f8_c1 := f8.2.1); (have f8_c2 := f8.2.2); (try and_intros) <;> first | with_reducible assumption | (clear f8_c2 f8 f12 hK_0_1 hK_0_160 hK_0_162 hK_0_163 f5; omega)) | ((have f8_c0 := f8.1); (have f8_c1 := f8.2.1); (have f8_c2 := f8.2.2); (first | have f5_b := f5 (by clear f8_c2 f8 f12 hK_0_1 hK_0_160 hK_0_162 hK_0_163 f5; omega) | skip); (first | have f5_d := f5 (by with_reducible assumption) | skip); (try and_intros) <;> first | with_reducible assumption | (clear f8_c2 f8 f12 hK_0_1 hK_0_160 hK_0_162 hK_0_163 f5; omega)) | ((have f8_c0 := f8.1); (have f8_c1 := f8.2.1); (have f8_c2 := f8.2.2); (first | have f5_b := f5 (by clear f8_c2 f8 f12 hK_0_1 hK_0_160 hK_0_162 hK_0_163 f5; omega) | skip); (first | have f5_d := f5 (by with_reducible assumption) | skip); (first | have f8_q := tk_nx0 f8 (by clear f8_c2 f8 f12 hK_0_1 hK_0_160 hK_0_162 hK_0_163 f5; omega) | skip); (try and_intros) <;> first | with_reducible assumption | (clear f8_c2 f8 f12 hK_0_1 hK_0_160 hK_0_162 hK_0_163 f5; omega)) | ((have f8_c0 := f8.1); (have f8_c1 := f8.2.1); (have f8_c2 := f8.2.2); (first | have f5_b := f5 (by clear f8_c2 f8 f12 hK_0_1 hK_0_160 hK_0_162 hK_0_163 f5; omega) | skip); (first | have f5_d := f5 (by with_reducible assumption) | skip); (try and_intros) <;> first | with_reducible assumption | (clear f8_c2 f8 hK_0_1 hK_0_160 hK_0_162 hK_0_163 f5; omega)) | (intro hG; (first | have f5_g := f5 hG | skip); (have f8_c0 := f8.1); (have f8_c1 := f8.2.1); (have f8_c2 := f8.2.2); (first | have f5_b := f5 (by clear f8_c2 f8 f12 hK_0_1 hK_0_160 hK_0_162 hK_0_163 f5; omega) | skip); (try and_intros) <;> first | with_reducible assumption | (clear f8_c2 f8 f12 hK_0_1 hK_0_160 hK_0_162 hK_0_163 f5 hG; omega)) | omega)
set_option maxHeartbeats 4000000 in
theorem vc_Mo_style_20_1 (x3 : Int) (x8 : Int) (x9 : Int) (x11 : Int) (x18 : Int) (styleOne_0 : Int) (tokenKind_0 : Int → Int) (tokenValue_0 : Int → Int) (tokenPlace_0 : Int → Int) (tokenEnd_0 : Int → Int) (tape_0 : Int → Int) (limit_0 : Int) (taped_0 : Int) (cur_0 : Int) (tokens_0 : Int) (opened_0 : Int) (fault_0 : Int) (gx : Int) (k3 : 0 ≤ x3 ∧ x3 ≤ 2000) (k8 : 1 ≤ x8 ∧ x8 ≤ 1) (k9 : 0 ≤ x9 ∧ x9 ≤ 47) (k11 : 0 ≤ x11 ∧ x11 ≤ 2010) (k18 : 0 ≤ x18 ∧ x18 ≤ 2009) (g0 : x9 = styleOne_0) (f2 : SC1 (limit_0) (tokenKind_0) (tokenValue_0) (tokenPlace_0) (tokenEnd_0) (tape_0) (x18)) (f3 : (-1) * x11 + ((-1) * x18 + 0) ≤ (-2010)) (f4 : SOK (limit_0) (tokenKind_0) (tokenValue_0) (tokenPlace_0) (tokenEnd_0) (tape_0)) (f5 : (x8 = 0) → (x9 ≤ 23)) (f6 : taped_0 = x3) (f8 : ((cur_0 + 1) ≤ tokens_0) ∧ ((tokens_0 ≤ 2010) ∧ ((tokenKind_0 ((tokens_0 - 1)) = 0) ∨ (tokenKind_0 ((tokens_0 - 1)) = 4)))) (f9 : 1 * x18 + ((-1) * cur_0 + 0) ≤ 0) (f10 : 1 * opened_0 + 0 ≤ 0) (f11 : (-1) * opened_0 + 0 ≤ 0) (f12 : ((-1) * fault_0 + 0 ≤ (-1)) ∨ (1 * x18 + ((-1) * cur_0 + 0) ≤ (-1))) (f13 : RUL (fault_0) (cur_0) (limit_0) (tokenKind_0) (tokenValue_0) (tokenPlace_0) (tokenEnd_0) (tape_0) (x18)) (f15 : (-1) * x11 + ((-1) * x18 + 0) ≤ (-2010)) (f17 : x8 ≠ 0) (hK_0_1 : ∀ j : Int, 0 ≤ j → j < 2000 → (-128) ≤ tape_0 j ∧ tape_0 j ≤ 127) (hK_0_160 : ∀ j : Int, 0 ≤ j → j < 2010 → 0 ≤ tokenKind_0 j ∧ tokenKind_0 j ≤ 4) (hK_0_162 : ∀ j : Int, 0 ≤ j → j < 2010 → 0 ≤ tokenPlace_0 j ∧ tokenPlace_0 j ≤ 2000) (hK_0_163 : ∀ j : Int, 0 ≤ j → j < 2010 → 0 ≤ tokenEnd_0 j ∧ tokenEnd_0 j ≤ 2000) (kz_0_0 : 0 ≤ taped_0 ∧ taped_0 ≤ 2000) (kz_0_8 : 0 ≤ fault_0 ∧ fault_0 ≤ 5) (kz_0_10 : 0 ≤ limit_0 ∧ limit_0 ≤ 2000) (kz_0_157 : 0 ≤ tokens_0 ∧ tokens_0 ≤ 2010) (kz_0_158 : 0 ≤ cur_0 ∧ cur_0 ≤ 2009) (kz_0_159 : 0 ≤ opened_0 ∧ opened_0 ≤ 13) (kz_0_165 : (-1) ≤ styleOne_0 ∧ styleOne_0 ≤ 47) (ex2 : gx = 0 + (1 * x11 + 0)) (ex3 : 0 ≤ gx ∧ gx ≤ 2010) : ((cur_0 + 1) ≤ tokens_0) ∧ ((tokens_0 ≤ 2010) ∧ ((tokenKind_0 ((tokens_0 - 1)) = 0) ∨ (tokenKind_0 ((tokens_0 - 1)) = 4))) := by
  first
    | exact (sc1_go ‹SC1 _ _ _ _ _ _ _› ‹RUL _ _ _ _ _ _ _ _ _›).1
    | (have e := (sc1_go ‹SC1 _ _ _ _ _ _ _› ‹RUL _ _ _ _ _ _ _ _ _›).1; clear f5 f8 hK_0_1 hK_0_160 hK_0_162 hK_0_163; omega)
    | (first | with_reducible assumption | ((have f8_c0 := f8.1); (have f8_c1 := f8.2.1); (have f8_c2 := f8.2.2); (try and_intros) <;> first | with_reducible assumption | (clear f8_c2 f8 f12 hK_0_1 hK_0_160 hK_0_162 hK_0_163 f5; omega)) | ((have f8_c0 := f8.1); (have f8_c1 := f8.2.1); (have f8_c2 := f8.2.2); (first | have f5_b := f5 (by clear f8_c2 f8 f12 hK_0_1 hK_0_160 hK_0_162 hK_0_163 f5; omega) | skip); (first | have f5_d := f5 (by with_reducible assumption) | skip); (try and_intros) <;> first | with_reducible assumption | (clear f8_c2 f8 f12 hK_0_1 hK_0_160 hK_0_162 hK_0_163 f5; omega)) | ((have f8_c0 := f8.1); (have f8_c1 := f8.2.1); (have f8_c2 := f8.2.2); (first | have f5_b := f5 (by clear f8_c2 f8 f12 hK_0_1 hK_0_160 hK_0_162 hK_0_163 f5; omega) | skip); (first | have f5_d := f5 (by with_reducible assumption) | skip); (first | have f8_q := tk_nx0 f8 (by clear f8_c2 f8 f12 hK_0_1 hK_0_160 hK_0_162 hK_0_163 f5; omega) | skip); (try and_intros) <;> first | with_reducible assumption | (clear f8_c2 f8 f12 hK_0_1 hK_0_160 hK_0_162 hK_0_163 f5; omega)) | ((have f8_c0 := f8.1); (have f8_c1 := f8.2.1); (have f8_c2 := f8.2.2); (first | have f5_b := f5 (by clear f8_c2 f8 f12 hK_0_1 hK_0_160 hK_0_162 hK_0_163 f5; omega) | skip); (first | have f5_d := f5 (by with_reducible assumption) | skip); (try and_intros) <;> first | with_reducible assumption | (clear f8_c2 f8 hK_0_1 hK_0_160 hK_0_162 hK_0_163 f5; omega)) | omega)
set_option maxHeartbeats 4000000 in
theorem vc_Mo_style_20_2 (x3 : Int) (x8 : Int) (x9 : Int) (x11 : Int) (x18 : Int) (styleOne_0 : Int) (tokenKind_0 : Int → Int) (tokenValue_0 : Int → Int) (tokenPlace_0 : Int → Int) (tokenEnd_0 : Int → Int) (tape_0 : Int → Int) (limit_0 : Int) (taped_0 : Int) (cur_0 : Int) (tokens_0 : Int) (opened_0 : Int) (fault_0 : Int) (gx : Int) (k3 : 0 ≤ x3 ∧ x3 ≤ 2000) (k8 : 1 ≤ x8 ∧ x8 ≤ 1) (k9 : 0 ≤ x9 ∧ x9 ≤ 47) (k11 : 0 ≤ x11 ∧ x11 ≤ 2010) (k18 : 0 ≤ x18 ∧ x18 ≤ 2009) (g0 : x9 = styleOne_0) (f2 : SC1 (limit_0) (tokenKind_0) (tokenValue_0) (tokenPlace_0) (tokenEnd_0) (tape_0) (x18)) (f3 : (-1) * x11 + ((-1) * x18 + 0) ≤ (-2010)) (f4 : SOK (limit_0) (tokenKind_0) (tokenValue_0) (tokenPlace_0) (tokenEnd_0) (tape_0)) (f5 : (x8 = 0) → (x9 ≤ 23)) (f6 : taped_0 = x3) (f8 : ((cur_0 + 1) ≤ tokens_0) ∧ ((tokens_0 ≤ 2010) ∧ ((tokenKind_0 ((tokens_0 - 1)) = 0) ∨ (tokenKind_0 ((tokens_0 - 1)) = 4)))) (f9 : 1 * x18 + ((-1) * cur_0 + 0) ≤ 0) (f10 : 1 * opened_0 + 0 ≤ 0) (f11 : (-1) * opened_0 + 0 ≤ 0) (f12 : ((-1) * fault_0 + 0 ≤ (-1)) ∨ (1 * x18 + ((-1) * cur_0 + 0) ≤ (-1))) (f13 : RUL (fault_0) (cur_0) (limit_0) (tokenKind_0) (tokenValue_0) (tokenPlace_0) (tokenEnd_0) (tape_0) (x18)) (f15 : (-1) * x11 + ((-1) * x18 + 0) ≤ (-2010)) (f17 : x8 ≠ 0) (hK_0_1 : ∀ j : Int, 0 ≤ j → j < 2000 → (-128) ≤ tape_0 j ∧ tape_0 j ≤ 127) (hK_0_160 : ∀ j : Int, 0 ≤ j → j < 2010 → 0 ≤ tokenKind_0 j ∧ tokenKind_0 j ≤ 4) (hK_0_162 : ∀ j : Int, 0 ≤ j → j < 2010 → 0 ≤ tokenPlace_0 j ∧ tokenPlace_0 j ≤ 2000) (hK_0_163 : ∀ j : Int, 0 ≤ j → j < 2010 → 0 ≤ tokenEnd_0 j ∧ tokenEnd_0 j ≤ 2000) (kz_0_0 : 0 ≤ taped_0 ∧ taped_0 ≤ 2000) (kz_0_8 : 0 ≤ fault_0 ∧ fault_0 ≤ 5) (kz_0_10 : 0 ≤ limit_0 ∧ limit_0 ≤ 2000) (kz_0_157 : 0 ≤ tokens_0 ∧ tokens_0 ≤ 2010) (kz_0_158 : 0 ≤ cur_0 ∧ cur_0 ≤ 2009) (kz_0_159 : 0 ≤ opened_0 ∧ opened_0 ≤ 13) (kz_0_165 : (-1) ≤ styleOne_0 ∧ styleOne_0 ≤ 47) (ex2 : gx = 0 + (1 * x11 + 0)) (ex3 : 0 ≤ gx ∧ gx ≤ 2010) : 1 * opened_0 + 0 ≤ 0 := by
  first
    | exact (sc1_go ‹SC1 _ _ _ _ _ _ _› ‹RUL _ _ _ _ _ _ _ _ _›).1
    | (have e := (sc1_go ‹SC1 _ _ _ _ _ _ _› ‹RUL _ _ _ _ _ _ _ _ _›).1; clear f5 f8 hK_0_1 hK_0_160 hK_0_162 hK_0_163; omega)
    | (first | with_reducible assumption | ((have f8_c0 := f8.1); (have f8_c1 := f8.2.1); (have f8_c2 := f8.2.2); (try and_intros) <;> first | with_reducible assumption | (clear f8_c2 f8 f12 hK_0_1 hK_0_160 hK_0_162 hK_0_163 f5; omega)) | ((have f8_c0 := f8.1); (have f8_c1 := f8.2.1); (have f8_c2 := f8.2.2); (first | have f5_b := f5 (by clear f8_c2 f8 f12 hK_0_1 hK_0_160 hK_0_162 hK_0_163 f5; omega) | skip); (first | have f5_d := f5 (by with_reducible assumption) | skip); (try and_intros) <;> first | with_reducible assumption | (clear f8_c2 f8 f12 hK_0_1 hK_0_160 hK_0_162 hK_0_163 f5; omega)) | ((have f8_c0 := f8.1); (have f8_c1 := f8.2.1); (have f8_c2 := f8.2.2); (first | have f5_b := f5 (by clear f8_c2 f8 f12 hK_0_1 hK_0_160 hK_0_162 hK_0_163 f5; omega) | skip); (first | have f5_d := f5 (by with_reducible assumption) | skip); (first | have f8_q := tk_nx0 f8 (by clear f8_c2 f8 f12 hK_0_1 hK_0_160 hK_0_162 hK_0_163 f5; omega) | skip); (try and_intros) <;> first | with_reducible assumption | (clear f8_c2 f8 f12 hK_0_1 hK_0_160 hK_0_162 hK_0_163 f5; omega)) | ((have f8_c0 := f8.1); (have f8_c1 := f8.2.1); (have f8_c2 := f8.2.2); (first | have f5_b := f5 (by clear f8_c2 f8 f12 hK_0_1 hK_0_160 hK_0_162 hK_0_163 f5; omega) | skip); (first | have f5_d := f5 (by with_reducible assumption) | skip); (try and_intros) <;> first | with_reducible assumption | (clear f8_c2 f8 hK_0_1 hK_0_160 hK_0_162 hK_0_163 f5; omega)) | omega)
set_option maxHeartbeats 4000000 in
theorem vc_Mo_style_20_3 (x3 : Int) (x8 : Int) (x9 : Int) (x11 : Int) (x18 : Int) (styleOne_0 : Int) (tokenKind_0 : Int → Int) (tokenValue_0 : Int → Int) (tokenPlace_0 : Int → Int) (tokenEnd_0 : Int → Int) (tape_0 : Int → Int) (limit_0 : Int) (taped_0 : Int) (cur_0 : Int) (tokens_0 : Int) (opened_0 : Int) (fault_0 : Int) (gx : Int) (k3 : 0 ≤ x3 ∧ x3 ≤ 2000) (k8 : 1 ≤ x8 ∧ x8 ≤ 1) (k9 : 0 ≤ x9 ∧ x9 ≤ 47) (k11 : 0 ≤ x11 ∧ x11 ≤ 2010) (k18 : 0 ≤ x18 ∧ x18 ≤ 2009) (g0 : x9 = styleOne_0) (f2 : SC1 (limit_0) (tokenKind_0) (tokenValue_0) (tokenPlace_0) (tokenEnd_0) (tape_0) (x18)) (f3 : (-1) * x11 + ((-1) * x18 + 0) ≤ (-2010)) (f4 : SOK (limit_0) (tokenKind_0) (tokenValue_0) (tokenPlace_0) (tokenEnd_0) (tape_0)) (f5 : (x8 = 0) → (x9 ≤ 23)) (f6 : taped_0 = x3) (f8 : ((cur_0 + 1) ≤ tokens_0) ∧ ((tokens_0 ≤ 2010) ∧ ((tokenKind_0 ((tokens_0 - 1)) = 0) ∨ (tokenKind_0 ((tokens_0 - 1)) = 4)))) (f9 : 1 * x18 + ((-1) * cur_0 + 0) ≤ 0) (f10 : 1 * opened_0 + 0 ≤ 0) (f11 : (-1) * opened_0 + 0 ≤ 0) (f12 : ((-1) * fault_0 + 0 ≤ (-1)) ∨ (1 * x18 + ((-1) * cur_0 + 0) ≤ (-1))) (f13 : RUL (fault_0) (cur_0) (limit_0) (tokenKind_0) (tokenValue_0) (tokenPlace_0) (tokenEnd_0) (tape_0) (x18)) (f15 : (-1) * x11 + ((-1) * x18 + 0) ≤ (-2010)) (f17 : x8 ≠ 0) (hK_0_1 : ∀ j : Int, 0 ≤ j → j < 2000 → (-128) ≤ tape_0 j ∧ tape_0 j ≤ 127) (hK_0_160 : ∀ j : Int, 0 ≤ j → j < 2010 → 0 ≤ tokenKind_0 j ∧ tokenKind_0 j ≤ 4) (hK_0_162 : ∀ j : Int, 0 ≤ j → j < 2010 → 0 ≤ tokenPlace_0 j ∧ tokenPlace_0 j ≤ 2000) (hK_0_163 : ∀ j : Int, 0 ≤ j → j < 2010 → 0 ≤ tokenEnd_0 j ∧ tokenEnd_0 j ≤ 2000) (kz_0_0 : 0 ≤ taped_0 ∧ taped_0 ≤ 2000) (kz_0_8 : 0 ≤ fault_0 ∧ fault_0 ≤ 5) (kz_0_10 : 0 ≤ limit_0 ∧ limit_0 ≤ 2000) (kz_0_157 : 0 ≤ tokens_0 ∧ tokens_0 ≤ 2010) (kz_0_158 : 0 ≤ cur_0 ∧ cur_0 ≤ 2009) (kz_0_159 : 0 ≤ opened_0 ∧ opened_0 ≤ 13) (kz_0_165 : (-1) ≤ styleOne_0 ∧ styleOne_0 ≤ 47) (ex2 : gx = 0 + (1 * x11 + 0)) (ex3 : 0 ≤ gx ∧ gx ≤ 2010) : (-1) * opened_0 + 0 ≤ 0 := by
  first
    | exact (sc1_go ‹SC1 _ _ _ _ _ _ _› ‹RUL _ _ _ _ _ _ _ _ _›).1
    | (have e := (sc1_go ‹SC1 _ _ _ _ _ _ _› ‹RUL _ _ _ _ _ _ _ _ _›).1; clear f5 f8 hK_0_1 hK_0_160 hK_0_162 hK_0_163; omega)
    | (first | with_reducible assumption | ((have f8_c0 := f8.1); (have f8_c1 := f8.2.1); (have f8_c2 := f8.2.2); (try and_intros) <;> first | with_reducible assumption | (clear f8_c2 f8 f12 hK_0_1 hK_0_160 hK_0_162 hK_0_163 f5; omega)) | ((have f8_c0 := f8.1); (have f8_c1 := f8.2.1); (have f8_c2 := f8.2.2); (first | have f5_b := f5 (by clear f8_c2 f8 f12 hK_0_1 hK_0_160 hK_0_162 hK_0_163 f5; omega) | skip); (first | have f5_d := f5 (by with_reducible assumption) | skip); (try and_intros) <;> first | with_reducible assumption | (clear f8_c2 f8 f12 hK_0_1 hK_0_160 hK_0_162 hK_0_163 f5; omega)) | ((have f8_c0 := f8.1); (have f8_c1 := f8.2.1); (have f8_c2 := f8.2.2); (first | have f5_b := f5 (by clear f8_c2 f8 f12 hK_0_1 hK_0_160 hK_0_162 hK_0_163 f5; omega) | skip); (first | have f5_d := f5 (by with_reducible assumption) | skip); (first | have f8_q := tk_nx0 f8 (by clear f8_c2 f8 f12 hK_0_1 hK_0_160 hK_0_162 hK_0_163 f5; omega) | skip); (try and_intros) <;> first | with_reducible assumption | (clear f8_c2 f8 f12 hK_0_1 hK_0_160 hK_0_162 hK_0_163 f5; omega)) | ((have f8_c0 := f8.1); (have f8_c1 := f8.2.1); (have f8_c2 := f8.2.2); (first | have f5_b := f5 (by clear f8_c2 f8 f12 hK_0_1 hK_0_160 hK_0_162 hK_0_163 f5; omega) | skip); (first | have f5_d := f5 (by with_reducible assumption) | skip); (try and_intros) <;> first | with_reducible assumption | (clear f8_c2 f8 hK_0_1 hK_0_160 hK_0_162 hK_0_163 f5; omega)) | omega)
set_option maxHeartbeats 4000000 in
theorem vc_Mo_style_20_4 (x3 : Int) (x8 : Int) (x9 : Int) (x11 : Int) (x18 : Int) (styleOne_0 : Int) (tokenKind_0 : Int → Int) (tokenValue_0 : Int → Int) (tokenPlace_0 : Int → Int) (tokenEnd_0 : Int → Int) (tape_0 : Int → Int) (limit_0 : Int) (taped_0 : Int) (cur_0 : Int) (tokens_0 : Int) (opened_0 : Int) (fault_0 : Int) (gx : Int) (k3 : 0 ≤ x3 ∧ x3 ≤ 2000) (k8 : 1 ≤ x8 ∧ x8 ≤ 1) (k9 : 0 ≤ x9 ∧ x9 ≤ 47) (k11 : 0 ≤ x11 ∧ x11 ≤ 2010) (k18 : 0 ≤ x18 ∧ x18 ≤ 2009) (g0 : x9 = styleOne_0) (f2 : SC1 (limit_0) (tokenKind_0) (tokenValue_0) (tokenPlace_0) (tokenEnd_0) (tape_0) (x18)) (f3 : (-1) * x11 + ((-1) * x18 + 0) ≤ (-2010)) (f4 : SOK (limit_0) (tokenKind_0) (tokenValue_0) (tokenPlace_0) (tokenEnd_0) (tape_0)) (f5 : (x8 = 0) → (x9 ≤ 23)) (f6 : taped_0 = x3) (f8 : ((cur_0 + 1) ≤ tokens_0) ∧ ((tokens_0 ≤ 2010) ∧ ((tokenKind_0 ((tokens_0 - 1)) = 0) ∨ (tokenKind_0 ((tokens_0 - 1)) = 4)))) (f9 : 1 * x18 + ((-1) * cur_0 + 0) ≤ 0) (f10 : 1 * opened_0 + 0 ≤ 0) (f11 : (-1) * opened_0 + 0 ≤ 0) (f12 : ((-1) * fault_0 + 0 ≤ (-1)) ∨ (1 * x18 + ((-1) * cur_0 + 0) ≤ (-1))) (f13 : RUL (fault_0) (cur_0) (limit_0) (tokenKind_0) (tokenValue_0) (tokenPlace_0) (tokenEnd_0) (tape_0) (x18)) (f15 : (-1) * x11 + ((-1) * x18 + 0) ≤ (-2010)) (f17 : x8 ≠ 0) (hK_0_1 : ∀ j : Int, 0 ≤ j → j < 2000 → (-128) ≤ tape_0 j ∧ tape_0 j ≤ 127) (hK_0_160 : ∀ j : Int, 0 ≤ j → j < 2010 → 0 ≤ tokenKind_0 j ∧ tokenKind_0 j ≤ 4) (hK_0_162 : ∀ j : Int, 0 ≤ j → j < 2010 → 0 ≤ tokenPlace_0 j ∧ tokenPlace_0 j ≤ 2000) (hK_0_163 : ∀ j : Int, 0 ≤ j → j < 2010 → 0 ≤ tokenEnd_0 j ∧ tokenEnd_0 j ≤ 2000) (kz_0_0 : 0 ≤ taped_0 ∧ taped_0 ≤ 2000) (kz_0_8 : 0 ≤ fault_0 ∧ fault_0 ≤ 5) (kz_0_10 : 0 ≤ limit_0 ∧ limit_0 ≤ 2000) (kz_0_157 : 0 ≤ tokens_0 ∧ tokens_0 ≤ 2010) (kz_0_158 : 0 ≤ cur_0 ∧ cur_0 ≤ 2009) (kz_0_159 : 0 ≤ opened_0 ∧ opened_0 ≤ 13) (kz_0_165 : (-1) ≤ styleOne_0 ∧ styleOne_0 ≤ 47) (ex2 : gx = 0 + (1 * x11 + 0)) (ex3 : 0 ≤ gx ∧ gx ≤ 2010) : SOK (limit_0) (tokenKind_0) (tokenValue_0) (tokenPlace_0) (tokenEnd_0) (tape_0) := by
  first
    | assumption
    | exact sok_of (‹SFP _ _ _ _ _ _ _ _›) (by omega) (by omega)
    | exact sok_of (‹SFP _ _ _ _ _ _ _ _›) (by omega) (by have e := (‹x7 = cur_0›); rw [← e]; omega)
    | exact sok_of (‹SFP _ _ _ _ _ _ _ _›) (by omega) (by have e := (‹x11 = cur_0›); rw [← e]; omega)
  
set_option maxHeartbeats 4000000 in
theorem vc_Mo_style_20_5 (x3 : Int) (x8 : Int) (x9 : Int) (x11 : Int) (x18 : Int) (styleOne_0 : Int) (tokenKind_0 : Int → Int) (tokenValue_0 : Int → Int) (tokenPlace_0 : Int → Int) (tokenEnd_0 : Int → Int) (tape_0 : Int → Int) (limit_0 : Int) (taped_0 : Int) (cur_0 : Int) (tokens_0 : Int) (opened_0 : Int) (fault_0 : Int) (gx : Int) (k3 : 0 ≤ x3 ∧ x3 ≤ 2000) (k8 : 1 ≤ x8 ∧ x8 ≤ 1) (k9 : 0 ≤ x9 ∧ x9 ≤ 47) (k11 : 0 ≤ x11 ∧ x11 ≤ 2010) (k18 : 0 ≤ x18 ∧ x18 ≤ 2009) (g0 : x9 = styleOne_0) (f2 : SC1 (limit_0) (tokenKind_0) (tokenValue_0) (tokenPlace_0) (tokenEnd_0) (tape_0) (x18)) (f3 : (-1) * x11 + ((-1) * x18 + 0) ≤ (-2010)) (f4 : SOK (limit_0) (tokenKind_0) (tokenValue_0) (tokenPlace_0) (tokenEnd_0) (tape_0)) (f5 : (x8 = 0) → (x9 ≤ 23)) (f6 : taped_0 = x3) (f8 : ((cur_0 + 1) ≤ tokens_0) ∧ ((tokens_0 ≤ 2010) ∧ ((tokenKind_0 ((tokens_0 - 1)) = 0) ∨ (tokenKind_0 ((tokens_0 - 1)) = 4)))) (f9 : 1 * x18 + ((-1) * cur_0 + 0) ≤ 0) (f10 : 1 * opened_0 + 0 ≤ 0) (f11 : (-1) * opened_0 + 0 ≤ 0) (f12 : ((-1) * fault_0 + 0 ≤ (-1)) ∨ (1 * x18 + ((-1) * cur_0 + 0) ≤ (-1))) (f13 : RUL (fault_0) (cur_0) (limit_0) (tokenKind_0) (tokenValue_0) (tokenPlace_0) (tokenEnd_0) (tape_0) (x18)) (f15 : (-1) * x11 + ((-1) * x18 + 0) ≤ (-2010)) (f17 : x8 ≠ 0) (hK_0_1 : ∀ j : Int, 0 ≤ j → j < 2000 → (-128) ≤ tape_0 j ∧ tape_0 j ≤ 127) (hK_0_160 : ∀ j : Int, 0 ≤ j → j < 2010 → 0 ≤ tokenKind_0 j ∧ tokenKind_0 j ≤ 4) (hK_0_162 : ∀ j : Int, 0 ≤ j → j < 2010 → 0 ≤ tokenPlace_0 j ∧ tokenPlace_0 j ≤ 2000) (hK_0_163 : ∀ j : Int, 0 ≤ j → j < 2010 → 0 ≤ tokenEnd_0 j ∧ tokenEnd_0 j ≤ 2000) (kz_0_0 : 0 ≤ taped_0 ∧ taped_0 ≤ 2000) (kz_0_8 : 0 ≤ fault_0 ∧ fault_0 ≤ 5) (kz_0_10 : 0 ≤ limit_0 ∧ limit_0 ≤ 2000) (kz_0_157 : 0 ≤ tokens_0 ∧ tokens_0 ≤ 2010) (kz_0_158 : 0 ≤ cur_0 ∧ cur_0 ≤ 2009) (kz_0_159 : 0 ≤ opened_0 ∧ opened_0 ≤ 13) (kz_0_165 : (-1) ≤ styleOne_0 ∧ styleOne_0 ≤ 47) (ex2 : gx = 0 + (1 * x11 + 0)) (ex3 : 0 ≤ gx ∧ gx ≤ 2010) : fault_0 = 0 := by
  first
    | exact (sc1_go ‹SC1 _ _ _ _ _ _ _› ‹RUL _ _ _ _ _ _ _ _ _›).1
    | (have e := (sc1_go ‹SC1 _ _ _ _ _ _ _› ‹RUL _ _ _ _ _ _ _ _ _›).1; clear f5 f8 hK_0_1 hK_0_160 hK_0_162 hK_0_163; omega)
    | (first | with_reducible assumption | ((have f8_c0 := f8.1); (have f8_c1 := f8.2.1); (have f8_c2 := f8.2.2); (try and_intros) <;> first | with_reducible assumption | (clear f8_c2 f8 f12 hK_0_1 hK_0_160 hK_0_162 hK_0_163 f5; omega)) | ((have f8_c0 := f8.1); (have f8_c1 := f8.2.1); (have f8_c2 := f8.2.2); (first | have f5_b := f5 (by clear f8_c2 f8 f12 hK_0_1 hK_0_160 hK_0_162 hK_0_163 f5; omega) | skip); (first | have f5_d := f5 (by with_reducible assumption) | skip); (try and_intros) <;> first | with_reducible assumption | (clear f8_c2 f8 f12 hK_0_1 hK_0_160 hK_0_162 hK_0_163 f5; omega)) | ((have f8_c0 := f8.1); (have f8_c1 := f8.2.1); (have f8_c2 := f8.2.2); (first | have f5_b := f5 (by clear f8_c2 f8 f12 hK_0_1 hK_0_160 hK_0_162 hK_0_163 f5; omega) | skip); (first | have f5_d := f5 (by with_reducible assumption) | skip); (first | have f8_q := tk_nx0 f8 (by clear f8_c2 f8 f12 hK_0_1 hK_0_160 hK_0_162 hK_0_163 f5; omega) | skip); (try and_intros) <;> first | with_reducible assumption | (clear f8_c2 f8 f12 hK_0_1 hK_0_160 hK_0_162 hK_0_163 f5; omega)) | ((have f8_c0 := f8.1); (have f8_c1 := f8.2.1); (have f8_c2 := f8.2.2); (first | have f5_b := f5 (by clear f8_c2 f8 f12 hK_0_1 hK_0_160 hK_0_162 hK_0_163 f5; omega) | skip); (first | have f5_d := f5 (by with_reducible assumption) | skip); (try and_intros) <;> first | with_reducible assumption | (clear f8_c2 f8 hK_0_1 hK_0_160 hK_0_162 hK_0_163 f5; omega)) | omega)
set_option maxHeartbeats 4000000 in
theorem vc_Mo_style_20_6 (x3 : Int) (x8 : Int) (x9 : Int) (x11 : Int) (x18 : Int) (styleOne_0 : Int) (tokenKind_0 : Int → Int) (tokenValue_0 : Int → Int) (tokenPlace_0 : Int → Int) (tokenEnd_0 : Int → Int) (tape_0 : Int → Int) (limit_0 : Int) (taped_0 : Int) (cur_0 : Int) (tokens_0 : Int) (opened_0 : Int) (fault_0 : Int) (gx : Int) (k3 : 0 ≤ x3 ∧ x3 ≤ 2000) (k8 : 1 ≤ x8 ∧ x8 ≤ 1) (k9 : 0 ≤ x9 ∧ x9 ≤ 47) (k11 : 0 ≤ x11 ∧ x11 ≤ 2010) (k18 : 0 ≤ x18 ∧ x18 ≤ 2009) (g0 : x9 = styleOne_0) (f2 : SC1 (limit_0) (tokenKind_0) (tokenValue_0) (tokenPlace_0) (tokenEnd_0) (tape_0) (x18)) (f3 : (-1) * x11 + ((-1) * x18 + 0) ≤ (-2010)) (f4 : SOK (limit_0) (tokenKind_0) (tokenValue_0) (tokenPlace_0) (tokenEnd_0) (tape_0)) (f5 : (x8 = 0) → (x9 ≤ 23)) (f6 : taped_0 = x3) (f8 : ((cur_0 + 1) ≤ tokens_0) ∧ ((tokens_0 ≤ 2010) ∧ ((tokenKind_0 ((tokens_0 - 1)) = 0) ∨ (tokenKind_0 ((tokens_0 - 1)) = 4)))) (f9 : 1 * x18 + ((-1) * cur_0 + 0) ≤ 0) (f10 : 1 * opened_0 + 0 ≤ 0) (f11 : (-1) * opened_0 + 0 ≤ 0) (f12 : ((-1) * fault_0 + 0 ≤ (-1)) ∨ (1 * x18 + ((-1) * cur_0 + 0) ≤ (-1))) (f13 : RUL (fault_0) (cur_0) (limit_0) (tokenKind_0) (tokenValue_0) (tokenPlace_0) (tokenEnd_0) (tape_0) (x18)) (f15 : (-1) * x11 + ((-1) * x18 + 0) ≤ (-2010)) (f17 : x8 ≠ 0) (hK_0_1 : ∀ j : Int, 0 ≤ j → j < 2000 → (-128) ≤ tape_0 j ∧ tape_0 j ≤ 127) (hK_0_160 : ∀ j : Int, 0 ≤ j → j < 2010 → 0 ≤ tokenKind_0 j ∧ tokenKind_0 j ≤ 4) (hK_0_162 : ∀ j : Int, 0 ≤ j → j < 2010 → 0 ≤ tokenPlace_0 j ∧ tokenPlace_0 j ≤ 2000) (hK_0_163 : ∀ j : Int, 0 ≤ j → j < 2010 → 0 ≤ tokenEnd_0 j ∧ tokenEnd_0 j ≤ 2000) (kz_0_0 : 0 ≤ taped_0 ∧ taped_0 ≤ 2000) (kz_0_8 : 0 ≤ fault_0 ∧ fault_0 ≤ 5) (kz_0_10 : 0 ≤ limit_0 ∧ limit_0 ≤ 2000) (kz_0_157 : 0 ≤ tokens_0 ∧ tokens_0 ≤ 2010) (kz_0_158 : 0 ≤ cur_0 ∧ cur_0 ≤ 2009) (kz_0_159 : 0 ≤ opened_0 ∧ opened_0 ≤ 13) (kz_0_165 : (-1) ≤ styleOne_0 ∧ styleOne_0 ≤ 47) (ex2 : gx = 0 + (1 * x11 + 0)) (ex3 : 0 ≤ gx ∧ gx ≤ 2010) : SOC (fault_0) (cur_0) (limit_0) (tokenKind_0) (tokenValue_0) (tokenPlace_0) (tokenEnd_0) (tape_0) := by
  first
    | assumption
    | exact soc_of (‹SOK _ _ _ _ _ _›) (by omega) (by omega)
    | exact sc1_go (‹SC1 _ _ _ _ _ _ _›) (‹RUL _ _ _ _ _ _ _ _ _›)
  
set_option maxHeartbeats 4000000 in
theorem vc_Mo_style_20_7 (x3 : Int) (x8 : Int) (x9 : Int) (x11 : Int) (x18 : Int) (styleOne_0 : Int) (tokenKind_0 : Int → Int) (tokenValue_0 : Int → Int) (tokenPlace_0 : Int → Int) (tokenEnd_0 : Int → Int) (tape_0 : Int → Int) (limit_0 : Int) (taped_0 : Int) (cur_0 : Int) (tokens_0 : Int) (opened_0 : Int) (fault_0 : Int) (gx : Int) (k3 : 0 ≤ x3 ∧ x3 ≤ 2000) (k8 : 1 ≤ x8 ∧ x8 ≤ 1) (k9 : 0 ≤ x9 ∧ x9 ≤ 47) (k11 : 0 ≤ x11 ∧ x11 ≤ 2010) (k18 : 0 ≤ x18 ∧ x18 ≤ 2009) (g0 : x9 = styleOne_0) (f2 : SC1 (limit_0) (tokenKind_0) (tokenValue_0) (tokenPlace_0) (tokenEnd_0) (tape_0) (x18)) (f3 : (-1) * x11 + ((-1) * x18 + 0) ≤ (-2010)) (f4 : SOK (limit_0) (tokenKind_0) (tokenValue_0) (tokenPlace_0) (tokenEnd_0) (tape_0)) (f5 : (x8 = 0) → (x9 ≤ 23)) (f6 : taped_0 = x3) (f8 : ((cur_0 + 1) ≤ tokens_0) ∧ ((tokens_0 ≤ 2010) ∧ ((tokenKind_0 ((tokens_0 - 1)) = 0) ∨ (tokenKind_0 ((tokens_0 - 1)) = 4)))) (f9 : 1 * x18 + ((-1) * cur_0 + 0) ≤ 0) (f10 : 1 * opened_0 + 0 ≤ 0) (f11 : (-1) * opened_0 + 0 ≤ 0) (f12 : ((-1) * fault_0 + 0 ≤ (-1)) ∨ (1 * x18 + ((-1) * cur_0 + 0) ≤ (-1))) (f13 : RUL (fault_0) (cur_0) (limit_0) (tokenKind_0) (tokenValue_0) (tokenPlace_0) (tokenEnd_0) (tape_0) (x18)) (f15 : (-1) * x11 + ((-1) * x18 + 0) ≤ (-2010)) (f17 : x8 ≠ 0) (hK_0_1 : ∀ j : Int, 0 ≤ j → j < 2000 → (-128) ≤ tape_0 j ∧ tape_0 j ≤ 127) (hK_0_160 : ∀ j : Int, 0 ≤ j → j < 2010 → 0 ≤ tokenKind_0 j ∧ tokenKind_0 j ≤ 4) (hK_0_162 : ∀ j : Int, 0 ≤ j → j < 2010 → 0 ≤ tokenPlace_0 j ∧ tokenPlace_0 j ≤ 2000) (hK_0_163 : ∀ j : Int, 0 ≤ j → j < 2010 → 0 ≤ tokenEnd_0 j ∧ tokenEnd_0 j ≤ 2000) (kz_0_0 : 0 ≤ taped_0 ∧ taped_0 ≤ 2000) (kz_0_8 : 0 ≤ fault_0 ∧ fault_0 ≤ 5) (kz_0_10 : 0 ≤ limit_0 ∧ limit_0 ≤ 2000) (kz_0_157 : 0 ≤ tokens_0 ∧ tokens_0 ≤ 2010) (kz_0_158 : 0 ≤ cur_0 ∧ cur_0 ≤ 2009) (kz_0_159 : 0 ≤ opened_0 ∧ opened_0 ≤ 13) (kz_0_165 : (-1) ≤ styleOne_0 ∧ styleOne_0 ≤ 47) (ex2 : gx = 0 + (1 * x11 + 0)) (ex3 : 0 ≤ gx ∧ gx ≤ 2010) : (-1) * gx + ((-1) * cur_0 + 0) ≤ (-2011) := by
  first
    | exact (sc1_go ‹SC1 _ _ _ _ _ _ _› ‹RUL _ _ _ _ _ _ _ _ _›).1
    | (have e := (sc1_go ‹SC1 _ _ _ _ _ _ _› ‹RUL _ _ _ _ _ _ _ _ _›).1; clear f5 f8 hK_0_1 hK_0_160 hK_0_162 hK_0_163; omega)
    | (first | with_reducible assumption | ((have f8_c0 := f8.1); (have f8_c1 := f8.2.1); (have f8_c2 := f8.2.2); (try and_intros) <;> first | with_reducible assumption | (clear f8_c2 f8 f12 hK_0_1 hK_0_160 hK_0_162 hK_0_163 f5; omega)) | ((have f8_c0 := f8.1); (have f8_c1 := f8.2.1); (have f8_c2 := f8.2.2); (first | have f5_b := f5 (by clear f8_c2 f8 f12 hK_0_1 hK_0_160 hK_0_162 hK_0_163 f5; omega) | skip); (first | have f5_d := f5 (by with_reducible assumption) | skip); (try and_intros) <;> first | with_reducible assumption | (clear f8_c2 f8 f12 hK_0_1 hK_0_160 hK_0_162 hK_0_163 f5; omega)) | ((have f8_c0 := f8.1); (have f8_c1 := f8.2.1); (have f8_c2 := f8.2.2); (first | have f5_b := f5 (by clear f8_c2 f8 f12 hK_0_1 hK_0_160 hK_0_162 hK_0_163 f5; omega) | skip); (first | have f5_d := f5 (by with_reducible assumption) | skip); (first | have f8_q := tk_nx0 f8 (by clear f8_c2 f8 f12 hK_0_1 hK_0_160 hK_0_162 hK_0_163 f5; omega) | skip); (try and_intros) <;> first | with_reducible assumption | (clear f8_c2 f8 f12 hK_0_1 hK_0_160 hK_0_162 hK_0_163 f5; omega)) | ((have f8_c0 := f8.1); (have f8_c1 := f8.2.1); (have f8_c2 := f8.2.2); (first | have f5_b := f5 (by clear f8_c2 f8 f12 hK_0_1 hK_0_160 hK_0_162 hK_0_163 f5; omega) | skip); (first | have f5_d := f5 (by with_reducible assumption) | skip); (try and_intros) <;> first | with_reducible assumption | (clear f8_c2 f8 hK_0_1 hK_0_160 hK_0_162 hK_0_163 f5; omega)) | omega)
set_option maxHeartbeats 4000000 in
theorem vc_Mo_style_20_8 (x3 : Int) (x8 : Int) (x9 : Int) (x11 : Int) (x18 : Int) (styleOne_0 : Int) (tokenKind_0 : Int → Int) (tokenValue_0 : Int → Int) (tokenPlace_0 : Int → Int) (tokenEnd_0 : Int → Int) (tape_0 : Int → Int) (limit_0 : Int) (taped_0 : Int) (cur_0 : Int) (tokens_0 : Int) (opened_0 : Int) (fault_0 : Int) (gx : Int) (k3 : 0 ≤ x3 ∧ x3 ≤ 2000) (k8 : 1 ≤ x8 ∧ x8 ≤ 1) (k9 : 0 ≤ x9 ∧ x9 ≤ 47) (k11 : 0 ≤ x11 ∧ x11 ≤ 2010) (k18 : 0 ≤ x18 ∧ x18 ≤ 2009) (g0 : x9 = styleOne_0) (f2 : SC1 (limit_0) (tokenKind_0) (tokenValue_0) (tokenPlace_0) (tokenEnd_0) (tape_0) (x18)) (f3 : (-1) * x11 + ((-1) * x18 + 0) ≤ (-2010)) (f4 : SOK (limit_0) (tokenKind_0) (tokenValue_0) (tokenPlace_0) (tokenEnd_0) (tape_0)) (f5 : (x8 = 0) → (x9 ≤ 23)) (f6 : taped_0 = x3) (f8 : ((cur_0 + 1) ≤ tokens_0) ∧ ((tokens_0 ≤ 2010) ∧ ((tokenKind_0 ((tokens_0 - 1)) = 0) ∨ (tokenKind_0 ((tokens_0 - 1)) = 4)))) (f9 : 1 * x18 + ((-1) * cur_0 + 0) ≤ 0) (f10 : 1 * opened_0 + 0 ≤ 0) (f11 : (-1) * opened_0 + 0 ≤ 0) (f12 : ((-1) * fault_0 + 0 ≤ (-1)) ∨ (1 * x18 + ((-1) * cur_0 + 0) ≤ (-1))) (f13 : RUL (fault_0) (cur_0) (limit_0) (tokenKind_0) (tokenValue_0) (tokenPlace_0) (tokenEnd_0) (tape_0) (x18)) (f15 : (-1) * x11 + ((-1) * x18 + 0) ≤ (-2010)) (f17 : x8 ≠ 0) (hK_0_1 : ∀ j : Int, 0 ≤ j → j < 2000 → (-128) ≤ tape_0 j ∧ tape_0 j ≤ 127) (hK_0_160 : ∀ j : Int, 0 ≤ j → j < 2010 → 0 ≤ tokenKind_0 j ∧ tokenKind_0 j ≤ 4) (hK_0_162 : ∀ j : Int, 0 ≤ j → j < 2010 → 0 ≤ tokenPlace_0 j ∧ tokenPlace_0 j ≤ 2000) (hK_0_163 : ∀ j : Int, 0 ≤ j → j < 2010 → 0 ≤ tokenEnd_0 j ∧ tokenEnd_0 j ≤ 2000) (kz_0_0 : 0 ≤ taped_0 ∧ taped_0 ≤ 2000) (kz_0_8 : 0 ≤ fault_0 ∧ fault_0 ≤ 5) (kz_0_10 : 0 ≤ limit_0 ∧ limit_0 ≤ 2000) (kz_0_157 : 0 ≤ tokens_0 ∧ tokens_0 ≤ 2010) (kz_0_158 : 0 ≤ cur_0 ∧ cur_0 ≤ 2009) (kz_0_159 : 0 ≤ opened_0 ∧ opened_0 ≤ 13) (kz_0_165 : (-1) ≤ styleOne_0 ∧ styleOne_0 ≤ 47) (ex2 : gx = 0 + (1 * x11 + 0)) (ex3 : 0 ≤ gx ∧ gx ≤ 2010) : taped_0 = x3 := by
  first
    | exact (sc1_go ‹SC1 _ _ _ _ _ _ _› ‹RUL _ _ _ _ _ _ _ _ _›).1
    | (have e := (sc1_go ‹SC1 _ _ _ _ _ _ _› ‹RUL _ _ _ _ _ _ _ _ _›).1; clear f5 f8 hK_0_1 hK_0_160 hK_0_162 hK_0_163; omega)
    | (first | with_reducible assumption | ((have f8_c0 := f8.1); (have f8_c1 := f8.2.1); (have f8_c2 := f8.2.2); (try and_intros) <;> first | with_reducible assumption | (clear f8_c2 f8 f12 hK_0_1 hK_0_160 hK_0_162 hK_0_163 f5; omega)) | ((have f8_c0 := f8.1); (have f8_c1 := f8.2.1); (have f8_c2 := f8.2.2); (first | have f5_b := f5 (by clear f8_c2 f8 f12 hK_0_1 hK_0_160 hK_0_162 hK_0_163 f5; omega) | skip); (first | have f5_d := f5 (by with_reducible assumption) | skip); (try and_intros) <;> first | with_reducible assumption | (clear f8_c2 f8 f12 hK_0_1 hK_0_160 hK_0_162 hK_0_163 f5; omega)) | ((have f8_c0 := f8.1); (have f8_c1 := f8.2.1); (have f8_c2 := f8.2.2); (first | have f5_b := f5 (by clear f8_c2 f8 f12 hK_0_1 hK_0_160 hK_0_162 hK_0_163 f5; omega) | skip); (first | have f5_d := f5 (by with_reducible assumption) | skip); (first | have f8_q := tk_nx0 f8 (by clear f8_c2 f8 f12 hK_0_1 hK_0_160 hK_0_162 hK_0_163 f5; omega) | skip); (try and_intros) <;> first | with_reducible assumption | (clear f8_c2 f8 f12 hK_0_1 hK_0_160 hK_0_162 hK_0_163 f5; omega)) | ((have f8_c0 := f8.1); (have f8_c1 := f8.2.1); (have f8_c2 := f8.2.2); (first | have f5_b := f5 (by clear f8_c2 f8 f12 hK_0_1 hK_0_160 hK_0_162 hK_0_163 f5; omega) | skip); (first | have f5_d := f5 (by with_reducible assumption) | skip); (try and_intros) <;> first | with_reducible assumption | (clear f8_c2 f8 hK_0_1 hK_0_160 hK_0_162 hK_0_163 f5; omega)) | omega)
def o_Mo_style_20 : or_T := (226, 19, [(0, (2, 0, 0, [165])), (3, (0, 0, 2000, [])), (4, (2, 0, 0, [165])), (8, (0, 1, 1, [])), (9, (0, 0, 47, [])), (11, (0, 0, 2010, [])), (12, (2, 0, 0, [274])), (18, (0, 0, 2009, []))], [(9, [9, 4], [165]), (9, [12, 4], [160]), (20, [4, 18], [60, 1, 5, 73, 10, 160, 161, 162, 163, 1]), (23, [11, 18], [-2010, -1, -1]), (20, [4], [60, 1, 5, 74, 10, 160, 161, 162, 163, 1]), (20, [8, 9], [50, 0, 0, 4, 6, 1, 2, 1, 0, 0, 0, 0, 2, 1, 1, 0, 23]), (20, [4, 3], [50, 1, 0, 0, 1, 3, 2, 0, 0, 1, 1]), (24, [0, 4], []), (20, [4], [50, 2, 1, 158, 157, 160, 2, 12, 0, 7, 4, 3, 2, 0, 158, 0, 1, 2, 0, 157, 2, 7, 0, 3, 2, 0, 157, 0, 2010, 3, 14, 1, 10, 3, 0, 160, 5, 3, 2, 0, 157, 0, 1, 0, 0, 1, 10, 3, 0, 160, 5, 3, 2, 0, 157, 0, 1, 0, 4]), (20, [18, 4], [30, 0, 1, 0, 0, -1, 1, 158]), (20, [4], [30, 0, 1, 1, 159]), (20, [4], [30, 0, -1, 1, 159]), (20, [4, 18, 4], [31, 1, -1, -1, 1, 8, -1, 1, 0, 0, -1, 1, 158]), (20, [4, 18], [60, 3, 5, 64, 8, 158, 10, 160, 161, 162, 163, 1]), (102, [18], [13164036458569648337239753460458804039861886925068638906788872192, 165008, 165009, 165158, 165159, 165164]), (23, [11, 18], [-2010, -1, -1]), (101, [4, 9], [165]), (8, [8], [1])], [], [(0, 0, 2010, [])], [(20, [8, 9], [50, 0, 0, 4, 6, 1, 2, 1, 0, 0, 0, 0, 2, 1, 1, 0, 23]), (20, [4], [50, 2, 1, 158, 157, 160, 2, 12, 0, 7, 4, 3, 2, 0, 158, 0, 1, 2, 0, 157, 2, 7, 0, 3, 2, 0, 157, 0, 2010, 3, 14, 1, 10, 3, 0, 160, 5, 3, 2, 0, 157, 0, 1, 0, 0, 1, 10, 3, 0, 160, 5, 3, 2, 0, 157, 0, 1, 0, 4]), (20, [4], [30, 0, 1, 1, 159]), (20, [4], [30, 0, -1, 1, 159]), (20, [4], [60, 1, 5, 74, 10, 160, 161, 162, 163, 1]), (20, [4], [50, 1, 0, 8, 1, 3, 2, 0, 8, 0, 0]), (20, [4], [60, 3, 5, 71, 8, 158, 10, 160, 161, 162, 163, 1]), (20, [19, 4], [30, -2011, -1, 0, 0, -1, 1, 158]), (20, [4, 3], [50, 1, 0, 0, 1, 3, 2, 0, 0, 1, 1]), (24, [0, 4], [])], [(19, 11, 0, 0)], [])
theorem oo_Mo_style_20 {kA : Nat → ClassId} : or_ok PRD kA GG o_Mo_style_20 := by
  refine or_mk fun A ta ws vs hD hth hl => ?_
  intro t0 r0 t3 k3 t4 r4 t8 k8 t9 k9 t11 k11 t12 r12 t18 k18 f0 f1 f2 f3 f4 f5 f6 f7 f8 f9 f10 f11 f12 f13 ta1 w1 le1 s1 f15 ta2 w2 le2 s2 f17
  replace f0 := shm_195 f0
  replace f1 := shm_327 f1
  replace f2 := shm_2313 f2
  replace f3 := shm_2314 f3
  replace f4 := shm_2306 f4
  replace f5 := shm_2312 f5
  replace f6 := shm_570 f6
  replace f7 := shm_5 f7
  replace f8 := shm_271 f8
  replace f9 := shm_281 f9
  replace f10 := shm_1029 f10
  replace f11 := shm_1030 f11
  replace f12 := shm_2268 f12
  replace f13 := shm_2269 f13
  replace f15 := shm_2314 f15
  have s2 : (∀ b j, w_el w1 b j = w_el w2 b j) ∧ ∀ b j, w_fd w1 b j = if b = v_ad (n_v vs 4) ∧ j = 165 then n_v vs 9 else w_fd w2 b j := s2.2
  replace f17 := shm_142 f17
  have q4 : n_v vs 4 = n_v vs 0 := f7.symm
  simp only [q4] at f0 f1 f2 f4 f6 f8 f9 f10 f11 f12 f13
  rw [q4] at s2
  have cr_0_1 := fdq_39 hD hth r0
  have cr_0_160 := fdq_33 hD hth r0
  have cr_0_161 := fdq_40 hD hth r0
  have cr_0_162 := fdq_41 hD hth r0
  have cr_0_163 := fdq_42 hD hth r0
  have ad_12 : v_ad (n_v vs 12) = w_ar ws (n_v vs 0) 160 := congrArg v_ad f1
  have g0 : v_iv (n_v vs 9) = w_fi ws (n_v vs 0) 165 := congrArg v_iv f0
  have hK_0_1 := elq_7 hD hth cr_0_1
  have hK_0_160 := elq_6 hD hth cr_0_160
  have hK_0_162 := elq_8 hD hth cr_0_162
  have hK_0_163 := elq_9 hD hth cr_0_163
  have kz_0_0 := fdq_148 hD hth r0
  have kz_0_8 := fdq_34 hD hth r0
  have kz_0_10 := fdq_43 hD hth r0
  have kz_0_157 := fdq_35 hD hth r0
  have kz_0_158 := fdq_36 hD hth r0
  have kz_0_159 := fdq_37 hD hth r0
  have kz_0_165 := fdq_27 hD hth r0
  obtain ⟨x, ex, hx⟩ := iv_ex (ta := ta) (lo := 0) (hi := 2010) (z := 0 + (1 * v_iv (n_v vs 11) + 0)) (by omega) (by omega) (by omega) (by omega)
  have ex2 : v_iv (Value.int x) = 0 + (1 * v_iv (n_v vs 11) + 0) := ex
  have ex3 : 0 ≤ v_iv (Value.int x) ∧ v_iv (Value.int x) ≤ 2010 := tv_rng hx
  have e_0 : n_v (vs ++ [Value.int x]) 0 = n_v vs 0 := n_v_old (by rw [hl]; decide)
  have e_3 : n_v (vs ++ [Value.int x]) 3 = n_v vs 3 := n_v_old (by rw [hl]; decide)
  have e_4 : n_v (vs ++ [Value.int x]) 4 = n_v vs 4 := n_v_old (by rw [hl]; decide)
  have e_8 : n_v (vs ++ [Value.int x]) 8 = n_v vs 8 := n_v_old (by rw [hl]; decide)
  have e_9 : n_v (vs ++ [Value.int x]) 9 = n_v vs 9 := n_v_old (by rw [hl]; decide)
  have e_19 : n_v (vs ++ [Value.int x]) 19 = Value.int x := n_v_new hl
  have nf0 : fc_1 PRD (20, [8, 9], [50, 0, 0, 4, 6, 1, 2, 1, 0, 0, 0, 0, 2, 1, 1, 0, 23]) ws (vs ++ [Value.int x]) := by
    refine ⟨nf_inA hl rfl, sgq_2312 ?_⟩
    · show (v_iv (n_v (vs ++ [Value.int x]) 8) = 0) → (v_iv (n_v (vs ++ [Value.int x]) 9) ≤ 23)
      simp only [e_8, e_9]
      exact vc_Mo_style_20_0 (v_iv (n_v vs 3)) (v_iv (n_v vs 8)) (v_iv (n_v vs 9)) (v_iv (n_v vs 11)) (v_iv (n_v vs 18)) (w_fi ws (n_v vs 0) 165) (w_ei ws (w_ar ws (n_v vs 0) 160)) (w_ei ws (w_ar ws (n_v vs 0) 161)) (w_ei ws (w_ar ws (n_v vs 0) 162)) (w_ei ws (w_ar ws (n_v vs 0) 163)) (w_ei ws (w_ar ws (n_v vs 0) 1)) (w_fi ws (n_v vs 0) 10) (w_fi ws (n_v vs 0) 0) (w_fi ws (n_v vs 0) 158) (w_fi ws (n_v vs 0) 157) (w_fi ws (n_v vs 0) 159) (w_fi ws (n_v vs 0) 8) (v_iv (Value.int x)) k3 k8 k9 k11 k18 g0 f2 f3 f4 f5 f6 f8 f9 f10 f11 f12 f13 f15 f17 hK_0_1 hK_0_160 hK_0_162 hK_0_163 kz_0_0 kz_0_8 kz_0_10 kz_0_157 kz_0_158 kz_0_159 kz_0_165 ex2 ex3
  have nf1 : fc_1 PRD (20, [4], [50, 2, 1, 158, 157, 160, 2, 12, 0, 7, 4, 3, 2, 0, 158, 0, 1, 2, 0, 157, 2, 7, 0, 3, 2, 0, 157, 0, 2010, 3, 14, 1, 10, 3, 0, 160, 5, 3, 2, 0, 157, 0, 1, 0, 0, 1, 10, 3, 0, 160, 5, 3, 2, 0, 157, 0, 1, 0, 4]) ws (vs ++ [Value.int x]) := by
    refine ⟨nf_inA hl rfl, sgq_271 ?_⟩
    · show ((w_fi ws (n_v (vs ++ [Value.int x]) 4) 158 + 1) ≤ w_fi ws (n_v (vs ++ [Value.int x]) 4) 157) ∧ ((w_fi ws (n_v (vs ++ [Value.int x]) 4) 157 ≤ 2010) ∧ ((w_ei ws (w_ar ws (n_v (vs ++ [Value.int x]) 4) 160) ((w_fi ws (n_v (vs ++ [Value.int x]) 4) 157 - 1)) = 0) ∨ (w_ei ws (w_ar ws (n_v (vs ++ [Value.int x]) 4) 160) ((w_fi ws (n_v (vs ++ [Value.int x]) 4) 157 - 1)) = 4)))
      simp only [e_4, q4]
      exact vc_Mo_style_20_1 (v_iv (n_v vs 3)) (v_iv (n_v vs 8)) (v_iv (n_v vs 9)) (v_iv (n_v vs 11)) (v_iv (n_v vs 18)) (w_fi ws (n_v vs 0) 165) (w_ei ws (w_ar ws (n_v vs 0) 160)) (w_ei ws (w_ar ws (n_v vs 0) 161)) (w_ei ws (w_ar ws (n_v vs 0) 162)) (w_ei ws (w_ar ws (n_v vs 0) 163)) (w_ei ws (w_ar ws (n_v vs 0) 1)) (w_fi ws (n_v vs 0) 10) (w_fi ws (n_v vs 0) 0) (w_fi ws (n_v vs 0) 158) (w_fi ws (n_v vs 0) 157) (w_fi ws (n_v vs 0) 159) (w_fi ws (n_v vs 0) 8) (v_iv (Value.int x)) k3 k8 k9 k11 k18 g0 f2 f3 f4 f5 f6 f8 f9 f10 f11 f12 f13 f15 f17 hK_0_1 hK_0_160 hK_0_162 hK_0_163 kz_0_0 kz_0_8 kz_0_10 kz_0_157 kz_0_158 kz_0_159 kz_0_165 ex2 ex3
  have nf2 : fc_1 PRD (20, [4], [30, 0, 1, 1, 159]) ws (vs ++ [Value.int x]) := by
    refine ⟨nf_inA hl rfl, sgq_1029 ?_⟩
    · show 1 * w_fi ws (n_v (vs ++ [Value.int x]) 4) 159 + 0 ≤ 0
      simp only [e_4, q4]
      exact vc_Mo_style_20_2 (v_iv (n_v vs 3)) (v_iv (n_v vs 8)) (v_iv (n_v vs 9)) (v_iv (n_v vs 11)) (v_iv (n_v vs 18)) (w_fi ws (n_v vs 0) 165) (w_ei ws (w_ar ws (n_v vs 0) 160)) (w_ei ws (w_ar ws (n_v vs 0) 161)) (w_ei ws (w_ar ws (n_v vs 0) 162)) (w_ei ws (w_ar ws (n_v vs 0) 163)) (w_ei ws (w_ar ws (n_v vs 0) 1)) (w_fi ws (n_v vs 0) 10) (w_fi ws (n_v vs 0) 0) (w_fi ws (n_v vs 0) 158) (w_fi ws (n_v vs 0) 157) (w_fi ws (n_v vs 0) 159) (w_fi ws (n_v vs 0) 8) (v_iv (Value.int x)) k3 k8 k9 k11 k18 g0 f2 f3 f4 f5 f6 f8 f9 f10 f11 f12 f13 f15 f17 hK_0_1 hK_0_160 hK_0_162 hK_0_163 kz_0_0 kz_0_8 kz_0_10 kz_0_157 kz_0_158 kz_0_159 kz_0_165 ex2 ex3
  have nf3 : fc_1 PRD (20, [4], [30, 0, -1, 1, 159]) ws (vs ++ [Value.int x]) := by
    refine ⟨nf_inA hl rfl, sgq_1030 ?_⟩
    · show (-1) * w_fi ws (n_v (vs ++ [Value.int x]) 4) 159 + 0 ≤ 0
      simp only [e_4, q4]
      exact vc_Mo_style_20_3 (v_iv (n_v vs 3)) (v_iv (n_v vs 8)) (v_iv (n_v vs 9)) (v_iv (n_v vs 11)) (v_iv (n_v vs 18)) (w_fi ws (n_v vs 0) 165) (w_ei ws (w_ar ws (n_v vs 0) 160)) (w_ei ws (w_ar ws (n_v vs 0) 161)) (w_ei ws (w_ar ws (n_v vs 0) 162)) (w_ei ws (w_ar ws (n_v vs 0) 163)) (w_ei ws (w_ar ws (n_v vs 0) 1)) (w_fi ws (n_v vs 0) 10) (w_fi ws (n_v vs 0) 0) (w_fi ws (n_v vs 0) 158) (w_fi ws (n_v vs 0) 157) (w_fi ws (n_v vs 0) 159) (w_fi ws (n_v vs 0) 8) (v_iv (Value.int x)) k3 k8 k9 k11 k18 g0 f2 f3 f4 f5 f6 f8 f9 f10 f11 f12 f13 f15 f17 hK_0_1 hK_0_160 hK_0_162 hK_0_163 kz_0_0 kz_0_8 kz_0_10 kz_0_157 kz_0_158 kz_0_159 kz_0_165 ex2 ex3
  have nf4 : fc_1 PRD (20, [4], [60, 1, 5, 74, 10, 160, 161, 162, 163, 1]) ws (vs ++ [Value.int x]) := by
    refine ⟨nf_inA hl rfl, sgq_2306 ?_⟩
    · show SOK (w_fi ws (n_v (vs ++ [Value.int x]) 4) 10) (w_ei ws (w_ar ws (n_v (vs ++ [Value.int x]) 4) 160)) (w_ei ws (w_ar ws (n_v (vs ++ [Value.int x]) 4) 161)) (w_ei ws (w_ar ws (n_v (vs ++ [Value.int x]) 4) 162)) (w_ei ws (w_ar ws (n_v (vs ++ [Value.int x]) 4) 163)) (w_ei ws (w_ar ws (n_v (vs ++ [Value.int x]) 4) 1))
      simp only [e_4, q4]
      exact vc_Mo_style_20_4 (v_iv (n_v vs 3)) (v_iv (n_v vs 8)) (v_iv (n_v vs 9)) (v_iv (n_v vs 11)) (v_iv (n_v vs 18)) (w_fi ws (n_v vs 0) 165) (w_ei ws (w_ar ws (n_v vs 0) 160)) (w_ei ws (w_ar ws (n_v vs 0) 161)) (w_ei ws (w_ar ws (n_v vs 0) 162)) (w_ei ws (w_ar ws (n_v vs 0) 163)) (w_ei ws (w_ar ws (n_v vs 0) 1)) (w_fi ws (n_v vs 0) 10) (w_fi ws (n_v vs 0) 0) (w_fi ws (n_v vs 0) 158) (w_fi ws (n_v vs 0) 157) (w_fi ws (n_v vs 0) 159) (w_fi ws (n_v vs 0) 8) (v_iv (Value.int x)) k3 k8 k9 k11 k18 g0 f2 f3 f4 f5 f6 f8 f9 f10 f11 f12 f13 f15 f17 hK_0_1 hK_0_160 hK_0_162 hK_0_163 kz_0_0 kz_0_8 kz_0_10 kz_0_157 kz_0_158 kz_0_159 kz_0_165 ex2 ex3
  have nf5 : fc_1 PRD (20, [4], [50, 1, 0, 8, 1, 3, 2, 0, 8, 0, 0]) ws (vs ++ [Value.int x]) := by
    refine ⟨nf_inA hl rfl, sgq_2156 ?_⟩
    · show w_fi ws (n_v (vs ++ [Value.int x]) 4) 8 = 0
      simp only [e_4, q4]
      exact vc_Mo_style_20_5 (v_iv (n_v vs 3)) (v_iv (n_v vs 8)) (v_iv (n_v vs 9)) (v_iv (n_v vs 11)) (v_iv (n_v vs 18)) (w_fi ws (n_v vs 0) 165) (w_ei ws (w_ar ws (n_v vs 0) 160)) (w_ei ws (w_ar ws (n_v vs 0) 161)) (w_ei ws (w_ar ws (n_v vs 0) 162)) (w_ei ws (w_ar ws (n_v vs 0) 163)) (w_ei ws (w_ar ws (n_v vs 0) 1)) (w_fi ws (n_v vs 0) 10) (w_fi ws (n_v vs 0) 0) (w_fi ws (n_v vs 0) 158) (w_fi ws (n_v vs 0) 157) (w_fi ws (n_v vs 0) 159) (w_fi ws (n_v vs 0) 8) (v_iv (Value.int x)) k3 k8 k9 k11 k18 g0 f2 f3 f4 f5 f6 f8 f9 f10 f11 f12 f13 f15 f17 hK_0_1 hK_0_160 hK_0_162 hK_0_163 kz_0_0 kz_0_8 kz_0_10 kz_0_157 kz_0_158 kz_0_159 kz_0_165 ex2 ex3
  have nf6 : fc_1 PRD (20, [4], [60, 3, 5, 71, 8, 158, 10, 160, 161, 162, 163, 1]) ws (vs ++ [Value.int x]) := by
    refine ⟨nf_inA hl rfl, sgq_2311 ?_⟩
    · show SOC (w_fi ws (n_v (vs ++ [Value.int x]) 4) 8) (w_fi ws (n_v (vs ++ [Value.int x]) 4) 158) (w_fi ws (n_v (vs ++ [Value.int x]) 4) 10) (w_ei ws (w_ar ws (n_v (vs ++ [Value.int x]) 4) 160)) (w_ei ws (w_ar ws (n_v (vs ++ [Value.int x]) 4) 161)) (w_ei ws (w_ar ws (n_v (vs ++ [Value.int x]) 4) 162)) (w_ei ws (w_ar ws (n_v (vs ++ [Value.int x]) 4) 163)) (w_ei ws (w_ar ws (n_v (vs ++ [Value.int x]) 4) 1))
      simp only [e_4, q4]
      exact vc_Mo_style_20_6 (v_iv (n_v vs 3)) (v_iv (n_v vs 8)) (v_iv (n_v vs 9)) (v_iv (n_v vs 11)) (v_iv (n_v vs 18)) (w_fi ws (n_v vs 0) 165) (w_ei ws (w_ar ws (n_v vs 0) 160)) (w_ei ws (w_ar ws (n_v vs 0) 161)) (w_ei ws (w_ar ws (n_v vs 0) 162)) (w_ei ws (w_ar ws (n_v vs 0) 163)) (w_ei ws (w_ar ws (n_v vs 0) 1)) (w_fi ws (n_v vs 0) 10) (w_fi ws (n_v vs 0) 0) (w_fi ws (n_v vs 0) 158) (w_fi ws (n_v vs 0) 157) (w_fi ws (n_v vs 0) 159) (w_fi ws (n_v vs 0) 8) (v_iv (Value.int x)) k3 k8 k9 k11 k18 g0 f2 f3 f4 f5 f6 f8 f9 f10 f11 f12 f13 f15 f17 hK_0_1 hK_0_160 hK_0_162 hK_0_163 kz_0_0 kz_0_8 kz_0_10 kz_0_157 kz_0_158 kz_0_159 kz_0_165 ex2 ex3
  have nf7 : fc_1 PRD (20, [19, 4], [30, -2011, -1, 0, 0, -1, 1, 158]) ws (vs ++ [Value.int x]) := by
    refine ⟨nf_inA hl rfl, sgq_292 ?_⟩
    · show (-1) * v_iv (n_v (vs ++ [Value.int x]) 19) + ((-1) * w_fi ws (n_v (vs ++ [Value.int x]) 4) 158 + 0) ≤ (-2011)
      simp only [e_4, e_19, q4]
      exact vc_Mo_style_20_7 (v_iv (n_v vs 3)) (v_iv (n_v vs 8)) (v_iv (n_v vs 9)) (v_iv (n_v vs 11)) (v_iv (n_v vs 18)) (w_fi ws (n_v vs 0) 165) (w_ei ws (w_ar ws (n_v vs 0) 160)) (w_ei ws (w_ar ws (n_v vs 0) 161)) (w_ei ws (w_ar ws (n_v vs 0) 162)) (w_ei ws (w_ar ws (n_v vs 0) 163)) (w_ei ws (w_ar ws (n_v vs 0) 1)) (w_fi ws (n_v vs 0) 10) (w_fi ws (n_v vs 0) 0) (w_fi ws (n_v vs 0) 158) (w_fi ws (n_v vs 0) 157) (w_fi ws (n_v vs 0) 159) (w_fi ws (n_v vs 0) 8) (v_iv (Value.int x)) k3 k8 k9 k11 k18 g0 f2 f3 f4 f5 f6 f8 f9 f10 f11 f12 f13 f15 f17 hK_0_1 hK_0_160 hK_0_162 hK_0_163 kz_0_0 kz_0_8 kz_0_10 kz_0_157 kz_0_158 kz_0_159 kz_0_165 ex2 ex3
  have nf8 : fc_1 PRD (20, [4, 3], [50, 1, 0, 0, 1, 3, 2, 0, 0, 1, 1]) ws (vs ++ [Value.int x]) := by
    refine ⟨nf_inA hl rfl, sgq_570 ?_⟩
    · show w_fi ws (n_v (vs ++ [Value.int x]) 4) 0 = v_iv (n_v (vs ++ [Value.int x]) 3)
      simp only [e_3, e_4, q4]
      exact vc_Mo_style_20_8 (v_iv (n_v vs 3)) (v_iv (n_v vs 8)) (v_iv (n_v vs 9)) (v_iv (n_v vs 11)) (v_iv (n_v vs 18)) (w_fi ws (n_v vs 0) 165) (w_ei ws (w_ar ws (n_v vs 0) 160)) (w_ei ws (w_ar ws (n_v vs 0) 161)) (w_ei ws (w_ar ws (n_v vs 0) 162)) (w_ei ws (w_ar ws (n_v vs 0) 163)) (w_ei ws (w_ar ws (n_v vs 0) 1)) (w_fi ws (n_v vs 0) 10) (w_fi ws (n_v vs 0) 0) (w_fi ws (n_v vs 0) 158) (w_fi ws (n_v vs 0) 157) (w_fi ws (n_v vs 0) 159) (w_fi ws (n_v vs 0) 8) (v_iv (Value.int x)) k3 k8 k9 k11 k18 g0 f2 f3 f4 f5 f6 f8 f9 f10 f11 f12 f13 f15 f17 hK_0_1 hK_0_160 hK_0_162 hK_0_163 kz_0_0 kz_0_8 kz_0_10 kz_0_157 kz_0_158 kz_0_159 kz_0_165 ex2 ex3
  have nf9 : fc_1 PRD (24, [0, 4], []) ws (vs ++ [Value.int x]) := by
    refine ⟨nf_inA hl rfl, sgq_5 ?_⟩
    · show n_v (vs ++ [Value.int x]) 0 = n_v (vs ++ [Value.int x]) 4
      first | rfl | simp only [e_0, e_4, q4]
  obtain ⟨x0, e0, _, _⟩ := tv_int t11 rfl
  have e1 : v_iv (n_v vs 11) = x0.toInt := by rw [e0]; rfl
  have ho : sy_ofs (vs ++ [Value.int x]) (19, 11, 0, 0) := by
    refine ⟨x, x0, by rw [List.getElem?_append_right (by rw [hl]; decide), hl]; rfl, ?_, ?_, ?_⟩
    · rw [List.getElem?_append_left (by rw [hl]; decide)]; exact n_v_some (by rw [hl]; decide) e0
    · show x0.toInt + 0 ≤ x.toInt; omega
    · show x.toInt ≤ x0.toInt + 0; omega
  exact ⟨(fun _ h => (by cases h)), [Value.int x], ag_one hx, List.forall_mem_cons.mpr ⟨⟨show (20 : Nat) < 100 from by decide, nf0⟩, List.forall_mem_cons.mpr ⟨⟨show (20 : Nat) < 100 from by decide, nf1⟩, List.forall_mem_cons.mpr ⟨⟨show (20 : Nat) < 100 from by decide, nf2⟩, List.forall_mem_cons.mpr ⟨⟨show (20 : Nat) < 100 from by decide, nf3⟩, List.forall_mem_cons.mpr ⟨⟨show (20 : Nat) < 100 from by decide, nf4⟩, List.forall_mem_cons.mpr ⟨⟨show (20 : Nat) < 100 from by decide, nf5⟩, List.forall_mem_cons.mpr ⟨⟨show (20 : Nat) < 100 from by decide, nf6⟩, List.forall_mem_cons.mpr ⟨⟨show (20 : Nat) < 100 from by decide, nf7⟩, List.forall_mem_cons.mpr ⟨⟨show (20 : Nat) < 100 from by decide, nf8⟩, List.forall_mem_cons.mpr ⟨⟨show (24 : Nat) < 100 from by decide, nf9⟩, (fun _ h => (by cases h))⟩⟩⟩⟩⟩⟩⟩⟩⟩⟩, List.forall_mem_cons.mpr ⟨ho, (fun _ h => (by cases h))⟩⟩
set_option maxHeartbeats 4000000 in
theorem vc_Mo_style_21_0 (x3 : Int) (x8 : Int) (x9 : Int) (x11 : Int) (x13 : Int) (x16 : Int) (x17 : Int) (x18 : Int) (styleOne_0 : Int) (cur_0 : Int) (tokenKind_0 : Int → Int) (tokens_0 : Int) (opened_0 : Int) (tokenValue_0 : Int → Int) (tokenPlace_0 : Int → Int) (tokenEnd_0 : Int → Int) (tape_0 : Int → Int) (limit_0 : Int) (fault_0 : Int) (taped_0 : Int) (tokenKind_1 : Int → Int) (cur_1 : Int) (tokens_1 : Int) (opened_1 : Int) (tokenValue_1 : Int → Int) (tokenPlace_1 : Int → Int) (tokenEnd_1 : Int → Int) (tape_1 : Int → Int) (limit_1 : Int) (fault_1 : Int) (taped_1 : Int) (gx : Int) (k3 : 0 ≤ x3 ∧ x3 ≤ 2000) (k8 : 0 ≤ x8 ∧ x8 ≤ 0) (k9 : 0 ≤ x9 ∧ x9 ≤ 47) (k11 : 0 ≤ x11 ∧ x11 ≤ 2010) (k13 : 0 ≤ x13 ∧ x13 ≤ 2009) (k16 : 0 ≤ x16 ∧ x16 ≤ 0) (k17 : 1 ≤ x17 ∧ x17 ≤ 1) (k18 : (-1) ≤ x18 ∧ x18 ≤ (-1)) (g0 : x18 = styleOne_0) (g1 : x13 = cur_0) (f3 : tokenKind_0 (cur_0) ≠ 0) (f4 : ((cur_0 + 1) ≤ tokens_0) ∧ ((tokens_0 ≤ 2010) ∧ ((tokenKind_0 ((tokens_0 - 1)) = 0) ∨ (tokenKind_0 ((tokens_0 - 1)) = 4)))) (f5 : 1 * opened_0 + 0 ≤ 0) (f6 : (-1) * opened_0 + 0 ≤ 0) (f7 : SOK (limit_0) (tokenKind_0) (tokenValue_0) (tokenPlace_0) (tokenEnd_0) (tape_0)) (f8 : fault_0 = 0) (f9 : SOC (fault_0) (cur_0) (limit_0) (tokenKind_0) (tokenValue_0) (tokenPlace_0) (tokenEnd_0) (tape_0)) (f10 : (x8 = 0) → (x9 ≤ 23)) (f11 : taped_0 = x3) (f13 : 1 * x11 + (1 * cur_0 + 0) ≤ 2010) (f14 : (-1) * x11 + ((-1) * cur_0 + 0) ≤ (-2010)) (f15 : (x16 = 1) → (tokenKind_0 (cur_0) = 1)) (f16 : (x16 = 1) → ((fault_0 = 0) ∧ ((tokenKind_0 (cur_0) = 1) ∧ ((tokenEnd_0 (cur_0) = (tokenPlace_0 (cur_0) + 4)) ∧ (((tokenPlace_0 (cur_0) + 4) ≤ limit_0) ∧ (((tape_0 ((tokenPlace_0 (cur_0) + 0)) % 256) = 110) ∧ (((tape_0 ((tokenPlace_0 (cur_0) + 1)) % 256) = 111) ∧ (((tape_0 ((tokenPlace_0 (cur_0) + 2)) % 256) = 100) ∧ ((tape_0 ((tokenPlace_0 (cur_0) + 3)) % 256) = 101))))))))) (f17 : ((fault_0 = 0) ∧ ((tokenKind_0 (cur_0) = 1) ∧ ((tokenEnd_0 (cur_0) = (tokenPlace_0 (cur_0) + 4)) ∧ (((tokenPlace_0 (cur_0) + 4) ≤ limit_0) ∧ (((tape_0 ((tokenPlace_0 (cur_0) + 0)) % 256) = 110) ∧ (((tape_0 ((tokenPlace_0 (cur_0) + 1)) % 256) = 111) ∧ (((tape_0 ((tokenPlace_0 (cur_0) + 2)) % 256) = 100) ∧ ((tape_0 ((tokenPlace_0 (cur_0) + 3)) % 256) = 101)))))))) → (x16 = 1)) (f18 : Wqnode (fault_0) (cur_0) (limit_0) (tokenKind_0) (tokenPlace_0) (tokenEnd_0) (tape_0) (x16)) (f20 : x16 ≠ x17) (f21 : x8 = 0) (f22 : tokenKind_1 (cur_1) ≠ 0) (f23 : ((cur_1 + 1) ≤ tokens_1) ∧ ((tokens_1 ≤ 2010) ∧ ((tokenKind_1 ((tokens_1 - 1)) = 0) ∨ (tokenKind_1 ((tokens_1 - 1)) = 4)))) (f24 : 1 * opened_1 + 0 ≤ 0) (f25 : (-1) * opened_1 + 0 ≤ 0) (f26 : SOK (limit_1) (tokenKind_1) (tokenValue_1) (tokenPlace_1) (tokenEnd_1) (tape_1)) (f27 : fault_1 = 0) (f28 : SOC (fault_1) (cur_1) (limit_1) (tokenKind_1) (tokenValue_1) (tokenPlace_1) (tokenEnd_1) (tape_1)) (f29 : (x8 = 0) → (x9 ≤ 23)) (f30 : taped_1 = x3) (f31 : 1 * x11 + (1 * cur_1 + 0) ≤ 2010) (f32 : (-1) * x11 + ((-1) * cur_1 + 0) ≤ (-2010)) (f33 : (x16 = 1) → (tokenKind_1 (cur_1) = 1)) (f34 : (x16 = 1) → ((fault_1 = 0) ∧ ((tokenKind_1 (cur_1) = 1) ∧ ((tokenEnd_1 (cur_1) = (tokenPlace_1 (cur_1) + 4)) ∧ (((tokenPlace_1 (cur_1) + 4) ≤ limit_1) ∧ (((tape_1 ((tokenPlace_1 (cur_1) + 0)) % 256) = 110) ∧ (((tape_1 ((tokenPlace_1 (cur_1) + 1)) % 256) = 111) ∧ (((tape_1 ((tokenPlace_1 (cur_1) + 2)) % 256) = 100) ∧ ((tape_1 ((tokenPlace_1 (cur_1) + 3)) % 256) = 101))))))))) (f35 : ((fault_1 = 0) ∧ ((tokenKind_1 (cur_1) = 1) ∧ ((tokenEnd_1 (cur_1) = (tokenPlace_1 (cur_1) + 4)) ∧ (((tokenPlace_1 (cur_1) + 4) ≤ limit_1) ∧ (((tape_1 ((tokenPlace_1 (cur_1) + 0)) % 256) = 110) ∧ (((tape_1 ((tokenPlace_1 (cur_1) + 1)) % 256) = 111) ∧ (((tape_1 ((tokenPlace_1 (cur_1) + 2)) % 256) = 100) ∧ ((tape_1 ((tokenPlace_1 (cur_1) + 3)) % 256) = 101)))))))) → (x16 = 1)) (f36 : Wqnode (fault_1) (cur_1) (limit_1) (tokenKind_1) (tokenPlace_1) (tokenEnd_1) (tape_1) (x16)) (fe_0_0_1 : taped_0 = taped_1) (fe_0_8_1 : fault_0 = fault_1) (fe_0_10_1 : limit_0 = limit_1) (fe_0_157_1 : tokens_0 = tokens_1) (fe_0_158_1 : cur_0 = cur_1) (fe_0_159_1 : opened_0 = opened_1) (fe_0_165_1 : styleOne_0 = x18) (hE_0_1_1 : ∀ j : Int, tape_0 j = tape_1 j) (hK_0_1 : ∀ j : Int, 0 ≤ j → j < 2000 → (-128) ≤ tape_0 j ∧ tape_0 j ≤ 127) (hE_0_160_1 : ∀ j : Int, tokenKind_0 j = tokenKind_1 j) (hK_0_160 : ∀ j : Int, 0 ≤ j → j < 2010 → 0 ≤ tokenKind_0 j ∧ tokenKind_0 j ≤ 4) (hE_0_161_1 : ∀ j : Int, tokenValue_0 j = tokenValue_1 j) (hE_0_162_1 : ∀ j : Int, tokenPlace_0 j = tokenPlace_1 j) (hK_0_162 : ∀ j : Int, 0 ≤ j → j < 2010 → 0 ≤ tokenPlace_0 j ∧ tokenPlace_0 j ≤ 2000) (hE_0_163_1 : ∀ j : Int, tokenEnd_0 j = tokenEnd_1 j) (hK_0_163 : ∀ j : Int, 0 ≤ j → j < 2010 → 0 ≤ tokenEnd_0 j ∧ tokenEnd_0 j ≤ 2000) (kz_0_0 : 0 ≤ taped_0 ∧ taped_0 ≤ 2000) (kz_0_8 : 0 ≤ fault_0 ∧ fault_0 ≤ 5) (kz_0_10 : 0 ≤ limit_0 ∧ limit_0 ≤ 2000) (kz_0_157 : 0 ≤ tokens_0 ∧ tokens_0 ≤ 2010) (kz_0_158 : 0 ≤ cur_0 ∧ cur_0 ≤ 2009) (kz_0_159 : 0 ≤ opened_0 ∧ opened_0 ≤ 13) (kz_0_165 : (-1) ≤ styleOne_0 ∧ styleOne_0 ≤ 47) (ex2 : gx = cur_0) (ex3 : 0 ≤ gx ∧ gx ≤ 2009) : ((cur_0 + 1) ≤ tokens_0) ∧ ((tokens_0 ≤ 2010) ∧ ((tokenKind_0 ((tokens_0 - 1)) = 0) ∨ (tokenKind_0 ((tokens_0 - 1)) = 4))) := by
  subst fe_0_0_1
  subst fe_0_8_1
  subst fe_0_10_1
  subst fe_0_157_1
  subst fe_0_158_1
  subst fe_0_159_1
  have e_hE_0_1_1 := funext hE_0_1_1; subst e_hE_0_1_1
  have e_hE_0_160_1 := funext hE_0_160_1; subst e_hE_0_160_1
  have e_hE_0_161_1 := funext hE_0_161_1; subst e_hE_0_161_1
  have e_hE_0_162_1 := funext hE_0_162_1; subst e_hE_0_162_1
  have e_hE_0_163_1 := funext hE_0_163_1; subst e_hE_0_163_1
  first | with_reducible assumption | ((have f4_c0 := f4.1); (have f4_c1 := f4.2.1); (have f4_c2 := f4.2.2); (have f23_c0 := f23.1); (have f23_c1 := f23.2.1); (have f23_c2 := f23.2.2); (try and_intros) <;> first | with_reducible assumption | (clear f4_c2 f4 f23_c2 f23 hE_0_1_1 hK_0_1 hE_0_160_1 hK_0_160 hE_0_161_1 hE_0_162_1 hK_0_162 hE_0_163_1 hK_0_163 f10 f15 f16 f17 f29 f33 f34 f35; omega)) | ((have f4_c0 := f4.1); (have f4_c1 := f4.2.1); (have f4_c2 := f4.2.2); (have f23_c0 := f23.1); (have f23_c1 := f23.2.1); (have f23_c2 := f23.2.2); (first | have f10_b := f10 (by clear f4_c2 f4 f23_c2 f23 hE_0_1_1 hK_0_1 hE_0_160_1 hK_0_160 hE_0_161_1 hE_0_162_1 hK_0_162 hE_0_163_1 hK_0_163 f10 f15 f16 f17 f29 f33 f34 f35; omega) | skip); (first | have f15_b := f15 (by clear f4_c2 f4 f23_c2 f23 hE_0_1_1 hK_0_1 hE_0_160_1 hK_0_160 hE_0_161_1 hE_0_162_1 hK_0_162 hE_0_163_1 hK_0_163 f10 f15 f16 f17 f29 f33 f34 f35; omega) | skip); (first | have f16_b := f16 (by clear f4_c2 f4 f23_c2 f23 hE_0_1_1 hK_0_1 hE_0_160_1 hK_0_160 hE_0_161_1 hE_0_162_1 hK_0_162 hE_0_163_1 hK_0_163 f10 f15 f16 f17 f29 f33 f34 f35; omega) | skip); (first | have f29_b := f29 (by clear f4_c2 f4 f23_c2 f23 hE_0_1_1 hK_0_1 hE_0_160_1 hK_0_160 hE_0_161_1 hE_0_162_1 hK_0_162 hE_0_163_1 hK_0_163 f10 f15 f16 f17 f29 f33 f34 f35; omega) | skip); (first | have f33_b := f33 (by clear f4_c2 f4 f23_c2 f23 hE_0_1_1 hK_0_1 hE_0_160_1 hK_0_160 hE_0_161_1 hE_0_162_1 hK_0_162 hE_0_163_1 hK_0_163 f10 f15 f16 f17 f29 f33 f34 f35; omega) | skip); (first | have f34_b := f34 (by clear f4_c2 f4 f23_c2 f23 hE_0_1_1 hK_0_1 hE_0_160_1 hK_0_160 hE_0_161_1 hE_0_162_1 hK_0_162 hE_0_163_1 hK_0_163 f10 f15 f16 f17 f29 f33 f34 f35; omega) | skip); (first | have f10_d := f10 (by with_reducible assumption) | skip); (first | have f15_d := f15 (by with_reducible assumption) | skip); (first | have f16_d := f16 (by with_reducible assumption) | skip); (first | have f17_d := f17 (by with_reducible assumption) | skip); (first | have f29_d := f29 (by with_reducible assumption) | skip); (first | have f33_d := f33 (by with_reducible assumption) | skip); (first | have f34_d := f34 (by with_reducible assumption) | skip); (first | have f35_d := f35 (by with_reducible assumption) | skip); (try and_intros) <;> first | with_reducible assumption | (clear f4_c2 f4 f23_c2 f23 hE_0_1_1 hK_0_1 hE_0_160_1 hK_0_160 hE_0_161_1 hE_0_162_1 hK_0_162 hE_0_163_1 hK_0_163 f10 f15 f16 f17 f29 f33 f34 f35; omega)) | ((have f4_c0 := f4.1); (have f4_c1 := f4.2.1); (have f4_c2 := f4.2.2); (have f23_c0 := f23.1); (have f23_c1 := f23.2.1); (have f23_c2 := f23.2.2); (first | have f10_b := f10 (by clear f4_c2 f4 f23_c2 f23 hE_0_1_1 hK_0_1 hE_0_160_1 hK_0_160 hE_0_161_1 hE_0_162_1 hK_0_162 hE_0_163_1 hK_0_163 f10 f15 f16 f17 f29 f33 f34 f35; omega) | skip); (first | have f15_b := f15 (by clear f4_c2 f4 f23_c2 f23 hE_0_1_1 hK_0_1 hE_0_160_1 hK_0_160 hE_0_161_1 hE_0_162_1 hK_0_162 hE_0_163_1 hK_0_163 f10 f15 f16 f17 f29 f33 f34 f35; omega) | skip); (first | have f16_b := f16 (by clear f4_c2 f4 f23_c2 f23 hE_0_1_1 hK_0_1 hE_0_160_1 hK_0_160 hE_0_161_1 hE_0_162_1 hK_0_162 hE_0_163_1 hK_0_163 f10 f15 f16 f17 f29 f33 f34 f35; omega) | skip); (first | have f29_b := f29 (by clear f4_c2 f4 f23_c2 f23 hE_0_1_1 hK_0_1 hE_0_160_1 hK_0_160 hE_0_161_1 hE_0_162_1 hK_0_162 hE_0_163_1 hK_0_163 f10 f15 f16 f17 f29 f33 f34 f35; omega) | skip); (first | have f33_b := f33 (by clear f4_c2 f4 f23_c2 f23 hE_0_1_1 hK_0_1 hE_0_160_1 hK_0_160 hE_0_161_1 hE_0_162_1 hK_0_162 hE_0_163_1 hK_0_163 f10 f15 f16 f17 f29 f33 f34 f35; omega) | skip); (first | have f34_b := f34 (by clear f4_c2 f4 f23_c2 f23 hE_0_1_1 hK_0_1 hE_0_160_1 hK_0_160 hE_0_161_1 hE_0_162_1 hK_0_162 hE_0_163_1 hK_0_163 f10 f15 f16 f17 f29 f33 f34 f35; omega) | skip); (first | have f10_d := f10 (by with_reducible assumption) | skip); (first | have f15_d := f15 (by with_reducible assumption) | skip); (first | have f16_d := f16 (by with_reducible assumption) | skip); (first | have f17_d := f17 (by with_reducible assumption) | skip); (first | have f29_d := f29 (by with_reducible assumption) | skip); (first | have f33_d := f33 (by with_reducible assumption) | skip); (first | have f34_d := f34 (by with_reducible assumption) | skip); (first | have f35_d := f35 (by with_reducible assumption) | skip); (first | have f4_q := tk_nx0 f4 (by clear f4_c2 f4 f23_c2 f23 hE_0_1_1 hK_0_1 hE_0_160_1 hK_0_160 hE_0_161_1 hE_0_162_1 hK_0_162 hE_0_163_1 hK_0_163 f10 f15 f16 f17 f29 f33 f34 f35; omega) | skip); (first | have f23_q := tk_nx0 f23 (by clear f4_c2 f4 f23_c2 f23 hE_0_1_1 hK_0_1 hE_0_160_1 hK_0_160 hE_0_161_1 hE_0_162_1 hK_0_162 hE_0_163_1 hK_0_163 f10 f15 f16 f17 f29 f33 f34 f35; omega) | skip); (try and_intros) <;> first | with_reducible assumption | (clear f4_c2 f4 f23_c2 f23 hE_0_1_1 hK_0_1 hE_0_160_1 hK_0_160 hE_0_161_1 hE_0_162_1 hK_0_162 hE_0_163_1 hK_0_163 f10 f15 f16 f17 f29 f33 f34 f35; omega)) | ((have f4_c0 := f4.1); (have f4_c1 := f4.2.1); (have f4_c2 := f4.2.2); (have f23_c0 := f23.1); (have f23_c1 := f23.2.1); (have f23_c2 := f23.2.2); (first | have f10_b := f10 (by clear f4_c2 f4 f23_c2 f23 hE_0_1_1 hK_0_1 hE_0_160_1 hK_0_160 hE_0_161_1 hE_0_162_1 hK_0_162 hE_0_163_1 hK_0_163 f10 f15 f16 f17 f29 f33 f34 f35; omega) | skip); (first | have f15_b := f15 (by clear f4_c2 f4 f23_c2 f23 hE_0_1_1 hK_0_1 hE_0_160_1 hK_0_160 hE_0_161_1 hE_0_162_1 hK_0_162 hE_0_163_1 hK_0_163 f10 f15 f16 f17 f29 f33 f34 f35; omega) | skip); (first | have f16_b := f16 (by clear f4_c2 f4 f23_c2 f23 hE_0_1_1 hK_0_1 hE_0_160_1 hK_0_160 hE_0_161_1 hE_0_162_1 hK_0_162 hE_0_163_1 hK_0_163 f10 f15 f16 f17 f29 f33 f34 f35; omega) | skip); (first | have f29_b := f29 (by clear f4_c2 f4 f23_c2 f23 hE_0_1_1 hK_0_1 hE_0_160_1 hK_0_160 hE_0_161_1 hE_0_162_1 hK_0_162 hE_0_163_1 hK_0_163 f10 f15 f16 f17 f29 f33 f34 f35; omega) | skip); (first | have f33_b := f33 (by clear f4_c2 f4 f23_c2 f23 hE_0_1_1 hK_0_1 hE_0_160_1 hK_0_160 hE_0_161_1 hE_0_162_1 hK_0_162 hE_0_163_1 hK_0_163 f10 f15 f16 f17 f29 f33 f34 f35; omega) | skip); (first | have f34_b := f34 (by clear f4_c2 f4 f23_c2 f23 hE_0_1_1 hK_0_1 hE_0_160_1 hK_0_160 hE_0_161_1 hE_0_162_1 hK_0_162 hE_0_163_1 hK_0_163 f10 f15 f16 f17 f29 f33 f34 f35; omega) | skip); (first | have f10_d := f10 (by with_reducible assumption) | skip); (first | have f15_d := f15 (by with_reducible assumption) | skip); (first | have f16_d := f16 (by with_reducible assumption) | skip); (first | have f17_d := f17 (by with_reducible assumption) | skip); (first | have f29_d := f29 (by with_reducible assumption) | skip); (first | have f33_d := f33 (by with_reducible assumption) | skip); (first | have f34_d := f34 (by with_reducible assumption) | skip); (first | have f35_d := f35 (by with_reducible assumption) | skip); (first | have f4_q := tk_nx0 f4 (by clear f4_c2 f4 f23_c2 f23 hE_0_1_1 hK_0_1 hE_0_160_1 hK_0_160 hE_0_161_1 hE_0_162_1 hK_0_162 hE_0_163_1 hK_0_163 f10 f15 f16 f17 f29 f33 f34 f35; omega) | skip); (first | have f23_q := tk_nx0 f23 (by clear f4_c2 f4 f23_c2 f23 hE_0_1_1 hK_0_1 hE_0_160_1 hK_0_160 hE_0_161_1 hE_0_162_1 hK_0_162 hE_0_163_1 hK_0_163 f10 f15 f16 f17 f29 f33 f34 f35; omega) | skip); (first | have f4_r0 := tk_nx1 (c := cur_0) f4.2 (by clear f4_c2 f4 f23_c2 f23 hE_0_1_1 hK_0_1 hE_0_160_1 hK_0_160 hE_0_161_1 hE_0_162_1 hK_0_162 hE_0_163_1 hK_0_163 f10 f15 f16 f17 f29 f33 f34 f35; omega) (by clear f4_c2 f4 f23_c2 f23 hE_0_1_1 hK_0_1 hE_0_160_1 hK_0_160 hE_0_161_1 hE_0_162_1 hK_0_162 hE_0_163_1 hK_0_163 f10 f15 f16 f17 f29 f33 f34 f35; omega) | skip); (first | have f4_r1 := tk_nx1 (c := cur_1) f4.2 (by clear f4_c2 f4 f23_c2 f23 hE_0_1_1 hK_0_1 hE_0_160_1 hK_0_160 hE_0_161_1 hE_0_162_1 hK_0_162 hE_0_163_1 hK_0_163 f10 f15 f16 f17 f29 f33 f34 f35; omega) (by clear f4_c2 f4 f23_c2 f23 hE_0_1_1 hK_0_1 hE_0_160_1 hK_0_160 hE_0_161_1 hE_0_162_1 hK_0_162 hE_0_163_1 hK_0_163 f10 f15 f16 f17 f29 f33 f34 f35; omega) | skip); (first | have f23_r0 := tk_nx1 (c := cur_0) f23.2 (by clear f4_c2 f4 f23_c2 f23 hE_0_1_1 hK_0_1 hE_0_160_1 hK_0_160 hE_0_161_1 hE_0_162_1 hK_0_162 hE_0_163_1 hK_0_163 f10 f15 f16 f17 f29 f33 f34 f35; omega) (by clear f4_c2 f4 f23_c2 f23 hE_0_1_1 hK_0_1 hE_0_160_1 hK_0_160 hE_0_161_1 hE_0_162_1 hK_0_162 hE_0_163_1 hK_0_163 f10 f15 f16 f17 f29 f33 f34 f35; omega) | skip); (first | have f23_r1 := tk_nx1 (c := cur_1) f23.2 (by clear f4_c2 f4 f23_c2 f23 hE_0_1_1 hK_0_1 hE_0_160_1 hK_0_160 hE_0_161_1 hE_0_162_1 hK_0_162 hE_0_163_1 hK_0_163 f10 f15 f16 f17 f29 f33 f34 f35; omega) (by clear f4_c2 f4 f23_c2 f23 hE_0_1_1 hK_0_1 hE_0_160_1 hK_0_160 hE_0_161_1 hE_0_162_1 hK_0_162 hE_0_163_1 hK_0_163 f10 f15 f16 f17 f29 f33 f34 f35; omega) | skip); (try and_intros) <;> first | with_reducible assumption | (clear f4_c2 f4 f23_c2 f23 hE_0_1_1 hK_0_1 hE_0_160_1 hK_0_160 hE_0_161_1 hE_0_162_1 hK_0_162 hE_0_163_1 hK_0_163 f10 f15 f16 f17 f29 f33 f34 f35; omega)) | omega
set_option maxHeartbeats 4000000 in
theorem vc_Mo_style_21_1 (x3 : Int) (x8 : Int) (x9 : Int) (x11 : Int) (x13 : Int) (x16 : Int) (x17 : Int) (x18 : Int) (styleOne_0 : Int) (cur_0 : Int) (tokenKind_0 : Int → Int) (tokens_0 : Int) (opened_0 : Int) (tokenValue_0 : Int → Int) (tokenPlace_0 : Int → Int) (tokenEnd_0 : Int → Int) (tape_0 : Int → Int) (limit_0 : Int) (fault_0 : Int) (taped_0 : Int) (tokenKind_1 : Int → Int) (cur_1 : Int) (tokens_1 : Int) (opened_1 : Int) (tokenValue_1 : Int → Int) (tokenPlace_1 : Int → Int) (tokenEnd_1 : Int → Int) (tape_1 : Int → Int) (limit_1 : Int) (fault_1 : Int) (taped_1 : Int) (gx : Int) (k3 : 0 ≤ x3 ∧ x3 ≤ 2000) (k8 : 0 ≤ x8 ∧ x8 ≤ 0) (k9 : 0 ≤ x9 ∧ x9 ≤ 47) (k11 : 0 ≤ x11 ∧ x11 ≤ 2010) (k13 : 0 ≤ x13 ∧ x13 ≤ 2009) (k16 : 0 ≤ x16 ∧ x16 ≤ 0) (k17 : 1 ≤ x17 ∧ x17 ≤ 1) (k18 : (-1) ≤ x18 ∧ x18 ≤ (-1)) (g0 : x18 = styleOne_0) (g1 : x13 = cur_0) (f3 : tokenKind_0 (cur_0) ≠ 0) (f4 : ((cur_0 + 1) ≤ tokens_0) ∧ ((tokens_0 ≤ 2010) ∧ ((tokenKind_0 ((tokens_0 - 1)) = 0) ∨ (tokenKind_0 ((tokens_0 - 1)) = 4)))) (f5 : 1 * opened_0 + 0 ≤ 0) (f6 : (-1) * opened_0 + 0 ≤ 0) (f7 : SOK (limit_0) (tokenKind_0) (tokenValue_0) (tokenPlace_0) (tokenEnd_0) (tape_0)) (f8 : fault_0 = 0) (f9 : SOC (fault_0) (cur_0) (limit_0) (tokenKind_0) (tokenValue_0) (tokenPlace_0) (tokenEnd_0) (tape_0)) (f10 : (x8 = 0) → (x9 ≤ 23)) (f11 : taped_0 = x3) (f13 : 1 * x11 + (1 * cur_0 + 0) ≤ 2010) (f14 : (-1) * x11 + ((-1) * cur_0 + 0) ≤ (-2010)) (f15 : (x16 = 1) → (tokenKind_0 (cur_0) = 1)) (f16 : (x16 = 1) → ((fault_0 = 0) ∧ ((tokenKind_0 (cur_0) = 1) ∧ ((tokenEnd_0 (cur_0) = (tokenPlace_0 (cur_0) + 4)) ∧ (((tokenPlace_0 (cur_0) + 4) ≤ limit_0) ∧ (((tape_0 ((tokenPlace_0 (cur_0) + 0)) % 256) = 110) ∧ (((tape_0 ((tokenPlace_0 (cur_0) + 1)) % 256) = 111) ∧ (((tape_0 ((tokenPlace_0 (cur_0) + 2)) % 256) = 100) ∧ ((tape_0 ((tokenPlace_0 (cur_0) + 3)) % 256) = 101))))))))) (f17 : ((fault_0 = 0) ∧ ((tokenKind_0 (cur_0) = 1) ∧ ((tokenEnd_0 (cur_0) = (tokenPlace_0 (cur_0) + 4)) ∧ (((tokenPlace_0 (cur_0) + 4) ≤ limit_0) ∧ (((tape_0 ((tokenPlace_0 (cur_0) + 0)) % 256) = 110) ∧ (((tape_0 ((tokenPlace_0 (cur_0) + 1)) % 256) = 111) ∧ (((tape_0 ((tokenPlace_0 (cur_0) + 2)) % 256) = 100) ∧ ((tape_0 ((tokenPlace_0 (cur_0) + 3)) % 256) = 101)))))))) → (x16 = 1)) (f18 : Wqnode (fault_0) (cur_0) (limit_0) (tokenKind_0) (tokenPlace_0) (tokenEnd_0) (tape_0) (x16)) (f20 : x16 ≠ x17) (f21 : x8 = 0) (f22 : tokenKind_1 (cur_1) ≠ 0) (f23 : ((cur_1 + 1) ≤ tokens_1) ∧ ((tokens_1 ≤ 2010) ∧ ((tokenKind_1 ((tokens_1 - 1)) = 0) ∨ (tokenKind_1 ((tokens_1 - 1)) = 4)))) (f24 : 1 * opened_1 + 0 ≤ 0) (f25 : (-1) * opened_1 + 0 ≤ 0) (f26 : SOK (limit_1) (tokenKind_1) (tokenValue_1) (tokenPlace_1) (tokenEnd_1) (tape_1)) (f27 : fault_1 = 0) (f28 : SOC (fault_1) (cur_1) (limit_1) (tokenKind_1) (tokenValue_1) (tokenPlace_1) (tokenEnd_1) (tape_1)) (f29 : (x8 = 0) → (x9 ≤ 23)) (f30 : taped_1 = x3) (f31 : 1 * x11 + (1 * cur_1 + 0) ≤ 2010) (f32 : (-1) * x11 + ((-1) * cur_1 + 0) ≤ (-2010)) (f33 : (x16 = 1) → (tokenKind_1 (cur_1) = 1)) (f34 : (x16 = 1) → ((fault_1 = 0) ∧ ((tokenKind_1 (cur_1) = 1) ∧ ((tokenEnd_1 (cur_1) = (tokenPlace_1 (cur_1) + 4)) ∧ (((tokenPlace_1 (cur_1) + 4) ≤ limit_1) ∧ (((tape_1 ((tokenPlace_1 (cur_1) + 0)) % 256) = 110) ∧ (((tape_1 ((tokenPlace_1 (cur_1) + 1)) % 256) = 111) ∧ (((tape_1 ((tokenPlace_1 (cur_1) + 2)) % 256) = 100) ∧ ((tape_1 ((tokenPlace_1 (cur_1) + 3)) % 256) = 101))))))))) (f35 : ((fault_1 = 0) ∧ ((tokenKind_1 (cur_1) = 1) ∧ ((tokenEnd_1 (cur_1) = (tokenPlace_1 (cur_1) + 4)) ∧ (((tokenPlace_1 (cur_1) + 4) ≤ limit_1) ∧ (((tape_1 ((tokenPlace_1 (cur_1) + 0)) % 256) = 110) ∧ (((tape_1 ((tokenPlace_1 (cur_1) + 1)) % 256) = 111) ∧ (((tape_1 ((tokenPlace_1 (cur_1) + 2)) % 256) = 100) ∧ ((tape_1 ((tokenPlace_1 (cur_1) + 3)) % 256) = 101)))))))) → (x16 = 1)) (f36 : Wqnode (fault_1) (cur_1) (limit_1) (tokenKind_1) (tokenPlace_1) (tokenEnd_1) (tape_1) (x16)) (fe_0_0_1 : taped_0 = taped_1) (fe_0_8_1 : fault_0 = fault_1) (fe_0_10_1 : limit_0 = limit_1) (fe_0_157_1 : tokens_0 = tokens_1) (fe_0_158_1 : cur_0 = cur_1) (fe_0_159_1 : opened_0 = opened_1) (fe_0_165_1 : styleOne_0 = x18) (hE_0_1_1 : ∀ j : Int, tape_0 j = tape_1 j) (hK_0_1 : ∀ j : Int, 0 ≤ j → j < 2000 → (-128) ≤ tape_0 j ∧ tape_0 j ≤ 127) (hE_0_160_1 : ∀ j : Int, tokenKind_0 j = tokenKind_1 j) (hK_0_160 : ∀ j : Int, 0 ≤ j → j < 2010 → 0 ≤ tokenKind_0 j ∧ tokenKind_0 j ≤ 4) (hE_0_161_1 : ∀ j : Int, tokenValue_0 j = tokenValue_1 j) (hE_0_162_1 : ∀ j : Int, tokenPlace_0 j = tokenPlace_1 j) (hK_0_162 : ∀ j : Int, 0 ≤ j → j < 2010 → 0 ≤ tokenPlace_0 j ∧ tokenPlace_0 j ≤ 2000) (hE_0_163_1 : ∀ j : Int, tokenEnd_0 j = tokenEnd_1 j) (hK_0_163 : ∀ j : Int, 0 ≤ j → j < 2010 → 0 ≤ tokenEnd_0 j ∧ tokenEnd_0 j ≤ 2000) (kz_0_0 : 0 ≤ taped_0 ∧ taped_0 ≤ 2000) (kz_0_8 : 0 ≤ fault_0 ∧ fault_0 ≤ 5) (kz_0_10 : 0 ≤ limit_0 ∧ limit_0 ≤ 2000) (kz_0_157 : 0 ≤ tokens_0 ∧ tokens_0 ≤ 2010) (kz_0_158 : 0 ≤ cur_0 ∧ cur_0 ≤ 2009) (kz_0_159 : 0 ≤ opened_0 ∧ opened_0 ≤ 13) (kz_0_165 : (-1) ≤ styleOne_0 ∧ styleOne_0 ≤ 47) (ex2 : gx = cur_0) (ex3 : 0 ≤ gx ∧ gx ≤ 2009) : 1 * cur_0 + ((-1) * gx + 0) ≤ 0 := by
  subst fe_0_0_1
  subst fe_0_8_1
  subst fe_0_10_1
  subst fe_0_157_1
  subst fe_0_158_1
  subst fe_0_159_1
  have e_hE_0_1_1 := funext hE_0_1_1; subst e_hE_0_1_1
  have e_hE_0_160_1 := funext hE_0_160_1; subst e_hE_0_160_1
  have e_hE_0_161_1 := funext hE_0_161_1; subst e_hE_0_161_1
  have e_hE_0_162_1 := funext hE_0_162_1; subst e_hE_0_162_1
  have e_hE_0_163_1 := funext hE_0_163_1; subst e_hE_0_163_1
  first | with_reducible assumption | ((have f4_c0 := f4.1); (have f4_c1 := f4.2.1); (have f4_c2 := f4.2.2); (have f23_c0 := f23.1); (have f23_c1 := f23.2.1); (have f23_c2 := f23.2.2); (try and_intros) <;> first | with_reducible assumption | (clear f4_c2 f4 f23_c2 f23 hE_0_1_1 hK_0_1 hE_0_160_1 hK_0_160 hE_0_161_1 hE_0_162_1 hK_0_162 hE_0_163_1 hK_0_163 f10 f15 f16 f17 f29 f33 f34 f35; omega)) | ((have f4_c0 := f4.1); (have f4_c1 := f4.2.1); (have f4_c2 := f4.2.2); (have f23_c0 := f23.1); (have f23_c1 := f23.2.1); (have f23_c2 := f23.2.2); (first | have f10_b := f10 (by clear f4_c2 f4 f23_c2 f23 hE_0_1_1 hK_0_1 hE_0_160_1 hK_0_160 hE_0_161_1 hE_0_162_1 hK_0_162 hE_0_163_1 hK_0_163 f10 f15 f16 f17 f29 f33 f34 f35; omega) | skip); (first | have f15_b := f15 (by clear f4_c2 f4 f23_c2 f23 hE_0_1_1 hK_0_1 hE_0_160_1 hK_0_160 hE_0_161_1 hE_0_162_1 hK_0_162 hE_0_163_1 hK_0_163 f10 f15 f16 f17 f29 f33 f34 f35; omega) | skip); (first | have f16_b := f16 (by clear f4_c2 f4 f23_c2 f23 hE_0_1_1 hK_0_1 hE_0_160_1 hK_0_160 hE_0_161_1 hE_0_162_1 hK_0_162 hE_0_163_1 hK_0_163 f10 f15 f16 f17 f29 f33 f34 f35; omega) | skip); (first | have f29_b := f29 (by clear f4_c2 f4 f23_c2 f23 hE_0_1_1 hK_0_1 hE_0_160_1 hK_0_160 hE_0_161_1 hE_0_162_1 hK_0_162 hE_0_163_1 hK_0_163 f10 f15 f16 f17 f29 f33 f34 f35; omega) | skip); (first | have f33_b := f33 (by clear f4_c2 f4 f23_c2 f23 hE_0_1_1 hK_0_1 hE_0_160_1 hK_0_160 hE_0_161_1 hE_0_162_1 hK_0_162 hE_0_163_1 hK_0_163 f10 f15 f16 f17 f29 f33 f34 f35; omega) | skip); (first | have f34_b := f34 (by clear f4_c2 f4 f23_c2 f23 hE_0_1_1 hK_0_1 hE_0_160_1 hK_0_160 hE_0_161_1 hE_0_162_1 hK_0_162 hE_0_163_1 hK_0_163 f10 f15 f16 f17 f29 f33 f34 f35; omega) | skip); (first | have f10_d := f10 (by with_reducible assumption) | skip); (first | have f15_d := f15 (by with_reducible assumption) | skip); (first | have f16_d := f16 (by with_reducible assumption) | skip); (first | have f17_d := f17 (by with_reducible assumption) | skip); (first | have f29_d := f29 (by with_reducible assumption) | skip); (first | have f33_d := f33 (by with_reducible assumption) | skip); (first | have f34_d := f34 (by with_reducible assumption) | skip); (first | have f35_d := f35 (by with_reducible assumption) | skip); (try and_intros) <;> first | with_reducible assumption | (clear f4_c2 f4 f23_c2 f23 hE_0_1_1 hK_0_1 hE_0_160_1 hK_0_160 hE_0_161_1 hE_0_162_1 hK_0_162 hE_0_163_1 hK_0_163 f10 f15 f16 f17 f29 f33 f34 f35; omega)) | ((have f4_c0 := f4.1); (have f4_c1 := f4.2.1); (have f4_c2 := f4.2.2); (have f23_c0 := f23.1); (have f23_c1 := f23.2.1); (have f23_c2 := f23.2.2); (first | have f10_b := f10 (by clear f4_c2 f4 f23_c2 f23 hE_0_1_1 hK_0_1 hE_0_160_1 hK_0_160 hE_0_161_1 hE_0_162_1 hK_0_162 hE_0_163_1 hK_0_163 f10 f15 f16 f17 f29 f33 f34 f35; omega) | skip); (first | have f15_b := f15 (by clear f4_c2 f4 f23_c2 f23 hE_0_1_1 hK_0_1 hE_0_160_1 hK_0_160 hE_0_161_1 hE_0_162_1 hK_0_162 hE_0_163_1 hK_0_163 f10 f15 f16 f17 f29 f33 f34 f35; omega) | skip); (first | have f16_b := f16 (by clear f4_c2 f4 f23_c2 f23 hE_0_1_1 hK_0_1 hE_0_160_1 hK_0_160 hE_0_161_1 hE_0_162_1 hK_0_162 hE_0_163_1 hK_0_163 f10 f15 f16 f17 f29 f33 f34 f35; omega) | skip); (first | have f29_b := f29 (by clear f4_c2 f4 f23_c2 f23 hE_0_1_1 hK_0_1 hE_0_160_1 hK_0_160 hE_0_161_1 hE_0_162_1 hK_0_162 hE_0_163_1 hK_0_163 f10 f15 f16 f17 f29 f33 f34 f35; omega) | skip); (first | have f33_b := f33 (by clear f4_c2 f4 f23_c2 f23 hE_0_1_1 hK_0_1 hE_0_160_1 hK_0_160 hE_0_161_1 hE_0_162_1 hK_0_162 hE_0_163_1 hK_0_163 f10 f15 f16 f17 f29 f33 f34 f35; omega) | skip); (first | have f34_b := f34 (by clear f4_c2 f4 f23_c2 f23 hE_0_1_1 hK_0_1 hE_0_160_1 hK_0_160 hE_0_161_1 hE_0_162_1 hK_0_162 hE_0_163_1 hK_0_163 f10 f15 f16 f17 f29 f33 f34 f35; omega) | skip); (first | have f10_d := f10 (by with_reducible assumption) | skip); (first | have f15_d := f15 (by with_reducible assumption) | skip); (first | have f16_d := f16 (by with_reducible assumption) | skip); (first | have f17_d := f17 (by with_reducible assumption) | skip); (first | have f29_d := f29 (by with_reducible assumption) | skip); (first | have f33_d := f33 (by with_reducible assumption) | skip); (first | have f34_d := f34 (by with_reducible assumption) | skip); (first | have f35_d := f35 (by with_reducible assumption) | skip); (first | have f4_q := tk_nx0 f4 (by clear f4_c2 f4 f23_c2 f23 hE_0_1_1 hK_0_1 hE_0_160_1 hK_0_160 hE_0_161_1 hE_0_162_1 hK_0_162 hE_0_163_1 hK_0_163 f10 f15 f16 f17 f29 f33 f34 f35; omega) | skip); (first | have f23_q := tk_nx0 f23 (by clear f4_c2 f4 f23_c2 f23 hE_0_1_1 hK_0_1 hE_0_160_1 hK_0_160 hE_0_161_1 hE_0_162_1 hK_0_162 hE_0_163_1 hK_0_163 f10 f15 f16 f17 f29 f33 f34 f35; omega) | skip); (try and_intros) <;> first | with_reducible assumption | (clear f4_c2 f4 f23_c2 f23 hE_0_1_1 hK_0_1 hE_0_160_1 hK_0_160 hE_0_161_1 hE_0_162_1 hK_0_162 hE_0_163_1 hK_0_163 f10 f15 f16 f17 f29 f33 f34 f35; omega)) | ((have f4_c0 := f4.1); (have f4_c1 := f4.2.1); (have f4_c2 := f4.2.2); (have f23_c0 := f23.1); (have f23_c1 := f23.2.1); (have f23_c2 := f23.2.2); (first | have f10_b := f10 (by clear f4_c2 f4 f23_c2 f23 hE_0_1_1 hK_0_1 hE_0_160_1 hK_0_160 hE_0_161_1 hE_0_162_1 hK_0_162 hE_0_163_1 hK_0_163 f10 f15 f16 f17 f29 f33 f34 f35; omega) | skip); (first | have f15_b := f15 (by clear f4_c2 f4 f23_c2 f23 hE_0_1_1 hK_0_1 hE_0_160_1 hK_0_160 hE_0_161_1 hE_0_162_1 hK_0_162 hE_0_163_1 hK_0_163 f10 f15 f16 f17 f29 f33 f34 f35; omega) | skip); (first | have f16_b := f16 (by clear f4_c2 f4 f23_c2 f23 hE_0_1_1 hK_0_1 hE_0_160_1 hK_0_160 hE_0_161_1 hE_0_162_1 hK_0_162 hE_0_163_1 hK_0_163 f10 f15 f16 f17 f29 f33 f34 f35; omega) | skip); (first | have f29_b := f29 (by clear f4_c2 f4 f23_c2 f23 hE_0_1_1 hK_0_1 hE_0_160_1 hK_0_160 hE_0_161_1 hE_0_162_1 hK_0_162 hE_0_163_1 hK_0_163 f10 f15 f16 f17 f29 f33 f34 f35; omega) | skip); (first | have f33_b := f33 (by clear f4_c2 f4 f23_c2 f23 hE_0_1_1 hK_0_1 hE_0_160_1 hK_0_160 hE_0_161_1 hE_0_162_1 hK_0_162 hE_0_163_1 hK_0_163 f10 f15 f16 f17 f29 f33 f34 f35; omega) | skip); (first | have f34_b := f34 (by clear f4_c2 f4 f23_c2 f23 hE_0_1_1 hK_0_1 hE_0_160_1 hK_0_160 hE_0_161_1 hE_0_162_1 hK_0_162 hE_0_163_1 hK_0_163 f10 f15 f16 f17 f29 f33 f34 f35; omega) | skip); (first | have f10_d := f10 (by with_reducible assumption) | skip); (first | have f15_d := f15 (by with_reducible assumption) | skip); (first | have f16_d := f16 (by with_reducible assumption) | skip); (first | have f17_d := f17 (by with_reducible assumption) | skip); (first | have f29_d := f29 (by with_reducible assumption) | skip); (first | have f33_d := f33 (by with_reducible assumption) | skip); (first | have f34_d := f34 (by with_reducible assumption) | skip); (first | have f35_d := f35 (by with_reducible assumption) | skip); (first | have f4_q := tk_nx0 f4 (by clear f4_c2 f4 f23_c2 f23 hE_0_1_1 hK_0_1 hE_0_160_1 hK_0_160 hE_0_161_1 hE_0_162_1 hK_0_162 hE_0_163_1 hK_0_163 f10 f15 f16 f17 f29 f33 f34 f35; omega) | skip); (first | have f23_q := tk_nx0 f23 (by clear f4_c2 f4 f23_c2 f23 hE_0_1_1 hK_0_1 hE_0_160_1 hK_0_160 hE_0_161_1 hE_0_162_1 hK_0_162 hE_0_163_1 hK_0_163 f10 f15 f16 f17 f29 f33 f34 f35; omega) | skip); (first | have f4_r0 := tk_nx1 (c := cur_0) f4.2 (by clear f4_c2 f4 f23_c2 f23 hE_0_1_1 hK_0_1 hE_0_160_1 hK_0_160 hE_0_161_1 hE_0_162_1 hK_0_162 hE_0_163_1 hK_0_163 f10 f15 f16 f17 f29 f33 f34 f35; omega) (by clear f4_c2 f4 f23_c2 f23 hE_0_1_1 hK_0_1 hE_0_160_1 hK_0_160 hE_0_161_1 hE_0_162_1 hK_0_162 hE_0_163_1 hK_0_163 f10 f15 f16 f17 f29 f33 f34 f35; omega) | skip); (first | have f4_r1 := tk_nx1 (c := cur_1) f4.2 (by clear f4_c2 f4 f23_c2 f23 hE_0_1_1 hK_0_1 hE_0_160_1 hK_0_160 hE_0_161_1 hE_0_162_1 hK_0_162 hE_0_163_1 hK_0_163 f10 f15 f16 f17 f29 f33 f34 f35; omega) (by clear f4_c2 f4 f23_c2 f23 hE_0_1_1 hK_0_1 hE_0_160_1 hK_0_160 hE_0_161_1 hE_0_162_1 hK_0_162 hE_0_163_1 hK_0_163 f10 f15 f16 f17 f29 f33 f34 f35; omega) | skip); (first | have f23_r0 := tk_nx1 (c := cur_0) f23.2 (by clear f4_c2 f4 f23_c2 f23 hE_0_1_1 hK_0_1 hE_0_160_1 hK_0_160 hE_0_161_1 hE_0_162_1 hK_0_162 hE_0_163_1 hK_0_163 f10 f15 f16 f17 f29 f33 f34 f35; omega) (by clear f4_c2 f4 f23_c2 f23 hE_0_1_1 hK_0_1 hE_0_160_1 hK_0_160 hE_0_161_1 hE_0_162_1 hK_0_162 hE_0_163_1 hK_0_163 f10 f15 f16 f17 f29 f33 f34 f35; omega) | skip); (first | have f23_r1 := tk_nx1 (c := cur_1) f23.2 (by clear f4_c2 f4 f23_c2 f23 hE_0_1_1 hK_0_1 hE_0_160_1 hK_0_160 hE_0_161_1 hE_0_162_1 hK_0_162 hE_0_163_1 hK_0_163 f10 f15 f16 f17 f29 f33 f34 f35; omega) (by clear f4_c2 f4 f23_c2 f23 hE_0_1_1 hK_0_1 hE_0_160_1 hK_0_160 hE_0_161_1 hE_0_162_1 hK_0_162 hE_0_163_1 hK_0_163 f10 f15 f16 f17 f29 f33 f34 f35; omega) | skip); (try and_intros) <;> first | with_reducible assumption | (clear f4_c2 f4 f23_c2 f23 hE_0_1_1 hK_0_1 hE_0_160_1 hK_0_160 hE_0_161_1 hE_0_162_1 hK_0_162 hE_0_163_1 hK_0_163 f10 f15 f16 f17 f29 f33 f34 f35; omega)) | omega
set_option maxHeartbeats 4000000 in
theorem vc_Mo_style_21_2 (x3 : Int) (x8 : Int) (x9 : Int) (x11 : Int) (x13 : Int) (x16 : Int) (x17 : Int) (x18 : Int) (styleOne_0 : Int) (cur_0 : Int) (tokenKind_0 : Int → Int) (tokens_0 : Int) (opened_0 : Int) (tokenValue_0 : Int → Int) (tokenPlace_0 : Int → Int) (tokenEnd_0 : Int → Int) (tape_0 : Int → Int) (limit_0 : Int) (fault_0 : Int) (taped_0 : Int) (tokenKind_1 : Int → Int) (cur_1 : Int) (tokens_1 : Int) (opened_1 : Int) (tokenValue_1 : Int → Int) (tokenPlace_1 : Int → Int) (tokenEnd_1 : Int → Int) (tape_1 : Int → Int) (limit_1 : Int) (fault_1 : Int) (taped_1 : Int) (gx : Int) (k3 : 0 ≤ x3 ∧ x3 ≤ 2000) (k8 : 0 ≤ x8 ∧ x8 ≤ 0) (k9 : 0 ≤ x9 ∧ x9 ≤ 47) (k11 : 0 ≤ x11 ∧ x11 ≤ 2010) (k13 : 0 ≤ x13 ∧ x13 ≤ 2009) (k16 : 0 ≤ x16 ∧ x16 ≤ 0) (k17 : 1 ≤ x17 ∧ x17 ≤ 1) (k18 : (-1) ≤ x18 ∧ x18 ≤ (-1)) (g0 : x18 = styleOne_0) (g1 : x13 = cur_0) (f3 : tokenKind_0 (cur_0) ≠ 0) (f4 : ((cur_0 + 1) ≤ tokens_0) ∧ ((tokens_0 ≤ 2010) ∧ ((tokenKind_0 ((tokens_0 - 1)) = 0) ∨ (tokenKind_0 ((tokens_0 - 1)) = 4)))) (f5 : 1 * opened_0 + 0 ≤ 0) (f6 : (-1) * opened_0 + 0 ≤ 0) (f7 : SOK (limit_0) (tokenKind_0) (tokenValue_0) (tokenPlace_0) (tokenEnd_0) (tape_0)) (f8 : fault_0 = 0) (f9 : SOC (fault_0) (cur_0) (limit_0) (tokenKind_0) (tokenValue_0) (tokenPlace_0) (tokenEnd_0) (tape_0)) (f10 : (x8 = 0) → (x9 ≤ 23)) (f11 : taped_0 = x3) (f13 : 1 * x11 + (1 * cur_0 + 0) ≤ 2010) (f14 : (-1) * x11 + ((-1) * cur_0 + 0) ≤ (-2010)) (f15 : (x16 = 1) → (tokenKind_0 (cur_0) = 1)) (f16 : (x16 = 1) → ((fault_0 = 0) ∧ ((tokenKind_0 (cur_0) = 1) ∧ ((tokenEnd_0 (cur_0) = (tokenPlace_0 (cur_0) + 4)) ∧ (((tokenPlace_0 (cur_0) + 4) ≤ limit_0) ∧ (((tape_0 ((tokenPlace_0 (cur_0) + 0)) % 256) = 110) ∧ (((tape_0 ((tokenPlace_0 (cur_0) + 1)) % 256) = 111) ∧ (((tape_0 ((tokenPlace_0 (cur_0) + 2)) % 256) = 100) ∧ ((tape_0 ((tokenPlace_0 (cur_0) + 3)) % 256) = 101))))))))) (f17 : ((fault_0 = 0) ∧ ((tokenKind_0 (cur_0) = 1) ∧ ((tokenEnd_0 (cur_0) = (tokenPlace_0 (cur_0) + 4)) ∧ (((tokenPlace_0 (cur_0) + 4) ≤ limit_0) ∧ (((tape_0 ((tokenPlace_0 (cur_0) + 0)) % 256) = 110) ∧ (((tape_0 ((tokenPlace_0 (cur_0) + 1)) % 256) = 111) ∧ (((tape_0 ((tokenPlace_0 (cur_0) + 2)) % 256) = 100) ∧ ((tape_0 ((tokenPlace_0 (cur_0) + 3)) % 256) = 101)))))))) → (x16 = 1)) (f18 : Wqnode (fault_0) (cur_0) (limit_0) (tokenKind_0) (tokenPlace_0) (tokenEnd_0) (tape_0) (x16)) (f20 : x16 ≠ x17) (f21 : x8 = 0) (f22 : tokenKind_1 (cur_1) ≠ 0) (f23 : ((cur_1 + 1) ≤ tokens_1) ∧ ((tokens_1 ≤ 2010) ∧ ((tokenKind_1 ((tokens_1 - 1)) = 0) ∨ (tokenKind_1 ((tokens_1 - 1)) = 4)))) (f24 : 1 * opened_1 + 0 ≤ 0) (f25 : (-1) * opened_1 + 0 ≤ 0) (f26 : SOK (limit_1) (tokenKind_1) (tokenValue_1) (tokenPlace_1) (tokenEnd_1) (tape_1)) (f27 : fault_1 = 0) (f28 : SOC (fault_1) (cur_1) (limit_1) (tokenKind_1) (tokenValue_1) (tokenPlace_1) (tokenEnd_1) (tape_1)) (f29 : (x8 = 0) → (x9 ≤ 23)) (f30 : taped_1 = x3) (f31 : 1 * x11 + (1 * cur_1 + 0) ≤ 2010) (f32 : (-1) * x11 + ((-1) * cur_1 + 0) ≤ (-2010)) (f33 : (x16 = 1) → (tokenKind_1 (cur_1) = 1)) (f34 : (x16 = 1) → ((fault_1 = 0) ∧ ((tokenKind_1 (cur_1) = 1) ∧ ((tokenEnd_1 (cur_1) = (tokenPlace_1 (cur_1) + 4)) ∧ (((tokenPlace_1 (cur_1) + 4) ≤ limit_1) ∧ (((tape_1 ((tokenPlace_1 (cur_1) + 0)) % 256) = 110) ∧ (((tape_1 ((tokenPlace_1 (cur_1) + 1)) % 256) = 111) ∧ (((tape_1 ((tokenPlace_1 (cur_1) + 2)) % 256) = 100) ∧ ((tape_1 ((tokenPlace_1 (cur_1) + 3)) % 256) = 101))))))))) (f35 : ((fault_1 = 0) ∧ ((tokenKind_1 (cur_1) = 1) ∧ ((tokenEnd_1 (cur_1) = (tokenPlace_1 (cur_1) + 4)) ∧ (((tokenPlace_1 (cur_1) + 4) ≤ limit_1) ∧ (((tape_1 ((tokenPlace_1 (cur_1) + 0)) % 256) = 110) ∧ (((tape_1 ((tokenPlace_1 (cur_1) + 1)) % 256) = 111) ∧ (((tape_1 ((tokenPlace_1 (cur_1) + 2)) % 256) = 100) ∧ ((tape_1 ((tokenPlace_1 (cur_1) + 3)) % 256) = 101)))))))) → (x16 = 1)) (f36 : Wqnode (fault_1) (cur_1) (limit_1) (tokenKind_1) (tokenPlace_1) (tokenEnd_1) (tape_1) (x16)) (fe_0_0_1 : taped_0 = taped_1) (fe_0_8_1 : fault_0 = fault_1) (fe_0_10_1 : limit_0 = limit_1) (fe_0_157_1 : tokens_0 = tokens_1) (fe_0_158_1 : cur_0 = cur_1) (fe_0_159_1 : opened_0 = opened_1) (fe_0_165_1 : styleOne_0 = x18) (hE_0_1_1 : ∀ j : Int, tape_0 j = tape_1 j) (hK_0_1 : ∀ j : Int, 0 ≤ j → j < 2000 → (-128) ≤ tape_0 j ∧ tape_0 j ≤ 127) (hE_0_160_1 : ∀ j : Int, tokenKind_0 j = tokenKind_1 j) (hK_0_160 : ∀ j : Int, 0 ≤ j → j < 2010 → 0 ≤ tokenKind_0 j ∧ tokenKind_0 j ≤ 4) (hE_0_161_1 : ∀ j : Int, tokenValue_0 j = tokenValue_1 j) (hE_0_162_1 : ∀ j : Int, tokenPlace_0 j = tokenPlace_1 j) (hK_0_162 : ∀ j : Int, 0 ≤ j → j < 2010 → 0 ≤ tokenPlace_0 j ∧ tokenPlace_0 j ≤ 2000) (hE_0_163_1 : ∀ j : Int, tokenEnd_0 j = tokenEnd_1 j) (hK_0_163 : ∀ j : Int, 0 ≤ j → j < 2010 → 0 ≤ tokenEnd_0 j ∧ tokenEnd_0 j ≤ 2000) (kz_0_0 : 0 ≤ taped_0 ∧ taped_0 ≤ 2000) (kz_0_8 : 0 ≤ fault_0 ∧ fault_0 ≤ 5) (kz_0_10 : 0 ≤ limit_0 ∧ limit_0 ≤ 2000) (kz_0_157 : 0 ≤ tokens_0 ∧ tokens_0 ≤ 2010) (kz_0_158 : 0 ≤ cur_0 ∧ cur_0 ≤ 2009) (kz_0_159 : 0 ≤ opened_0 ∧ opened_0 ≤ 13) (kz_0_165 : (-1) ≤ styleOne_0 ∧ styleOne_0 ≤ 47) (ex2 : gx = cur_0) (ex3 : 0 ≤ gx ∧ gx ≤ 2009) : (-1) * cur_0 + (1 * gx + 0) ≤ 0 := by
  subst fe_0_0_1
  subst fe_0_8_1
  subst fe_0_10_1
  subst fe_0_157_1
  subst fe_0_158_1
  subst fe_0_159_1
  have e_hE_0_1_1 := funext hE_0_1_1; subst e_hE_0_1_1
  have e_hE_0_160_1 := funext hE_0_160_1; subst e_hE_0_160_1
  have e_hE_0_161_1 := funext hE_0_161_1; subst e_hE_0_161_1
  have e_hE_0_162_1 := funext hE_0_162_1; subst e_hE_0_162_1
  have e_hE_0_163_1 := funext hE_0_163_1; subst e_hE_0_163_1
  first | with_reducible assumption | ((have f4_c0 := f4.1); (have f4_c1 := f4.2.1); (have f4_c2 := f4.2.2); (have f23_c0 := f23.1); (have f23_c1 := f23.2.1); (have f23_c2 := f23.2.2); (try and_intros) <;> first | with_reducible assumption | (clear f4_c2 f4 f23_c2 f23 hE_0_1_1 hK_0_1 hE_0_160_1 hK_0_160 hE_0_161_1 hE_0_162_1 hK_0_162 hE_0_163_1 hK_0_163 f10 f15 f16 f17 f29 f33 f34 f35; omega)) | ((have f4_c0 := f4.1); (have f4_c1 := f4.2.1); (have f4_c2 := f4.2.2); (have f23_c0 := f23.1); (have f23_c1 := f23.2.1); (have f23_c2 := f23.2.2); (first | have f10_b := f10 (by clear f4_c2 f4 f23_c2 f23 hE_0_1_1 hK_0_1 hE_0_160_1 hK_0_160 hE_0_161_1 hE_0_162_1 hK_0_162 hE_0_163_1 hK_0_163 f10 f15 f16 f17 f29 f33 f34 f35; omega) | skip); (first | have f15_b := f15 (by clear f4_c2 f4 f23_c2 f23 hE_0_1_1 hK_0_1 hE_0_160_1 hK_0_160 hE_0_161_1 hE_0_162_1 hK_0_162 hE_0_163_1 hK_0_163 f10 f15 f16 f17 f29 f33 f34 f35; omega) | skip); (first | have f16_b := f16 (by clear f4_c2 f4 f23_c2 f23 hE_0_1_1 hK_0_1 hE_0_160_1 hK_0_160 hE_0_161_1 hE_0_162_1 hK_0_162 hE_0_163_1 hK_0_163 f10 f15 f16 f17 f29 f33 f34 f35; omega) | skip); (first | have f29_b := f29 (by clear f4_c2 f4 f23_c2 f23 hE_0_1_1 hK_0_1 hE_0_160_1 hK_0_160 hE_0_161_1 hE_0_162_1 hK_0_162 hE_0_163_1 hK_0_163 f10 f15 f16 f17 f29 f33 f34 f35; omega) | skip); (first | have f33_b := f33 (by clear f4_c2 f4 f23_c2 f23 hE_0_1_1 hK_0_1 hE_0_160_1 hK_0_160 hE_0_161_1 hE_0_162_1 hK_0_162 hE_0_163_1 hK_0_163 f10 f15 f16 f17 f29 f33 f34 f35; omega) | skip); (first | have f34_b := f34 (by clear f4_c2 f4 f23_c2 f23 hE_0_1_1 hK_0_1 hE_0_160_1 hK_0_160 hE_0_161_1 hE_0_162_1 hK_0_162 hE_0_163_1 hK_0_163 f10 f15 f16 f17 f29 f33 f34 f35; omega) | skip); (first | have f10_d := f10 (by with_reducible assumption) | skip); (first | have f15_d := f15 (by with_reducible assumption) | skip); (first | have f16_d := f16 (by with_reducible assumption) | skip); (first | have f17_d := f17 (by with_reducible assumption) | skip); (first | have f29_d := f29 (by with_reducible assumption) | skip); (first | have f33_d := f33 (by with_reducible assumption) | skip); (first | have f34_d := f34 (by with_reducible assumption) | skip); (first | have f35_d := f35 (by with_reducible assumption) | skip); (try and_intros) <;> first | with_reducible assumption | (clear f4_c2 f4 f23_c2 f23 hE_0_1_1 hK_0_1 hE_0_160_1 hK_0_160 hE_0_161_1 hE_0_162_1 hK_0_162 hE_0_163_1 hK_0_163 f10 f15 f16 f17 f29 f33 f34 f35; omega)) | ((have f4_c0 := f4.1); (have f4_c1 := f4.2.1); (have f4_c2 := f4.2.2); (have f23_c0 := f23.1); (have f23_c1 := f23.2.1); (have f23_c2 := f23.2.2); (first | have f10_b := f10 (by clear f4_c2 f4 f23_c2 f23 hE_0_1_1 hK_0_1 hE_0_160_1 hK_0_160 hE_0_161_1 hE_0_162_1 hK_0_162 hE_0_163_1 hK_0_163 f10 f15 f16 f17 f29 f33 f34 f35; omega) | skip); (first | have f15_b := f15 (by clear f4_c2 f4 f23_c2 f23 hE_0_1_1 hK_0_1 hE_0_160_1 hK_0_160 hE_0_161_1 hE_0_162_1 hK_0_162 hE_0_163_1 hK_0_163 f10 f15 f16 f17 f29 f33 f34 f35; omega) | skip); (first | have f16_b := f16 (by clear f4_c2 f4 f23_c2 f23 hE_0_1_1 hK_0_1 hE_0_160_1 hK_0_160 hE_0_161_1 hE_0_162_1 hK_0_162 hE_0_163_1 hK_0_163 f10 f15 f16 f17 f29 f33 f34 f35; omega) | skip); (first | have f29_b := f29 (by clear f4_c2 f4 f23_c2 f23 hE_0_1_1 hK_0_1 hE_0_160_1 hK_0_160 hE_0_161_1 hE_0_162_1 hK_0_162 hE_0_163_1 hK_0_163 f10 f15 f16 f17 f29 f33 f34 f35; omega) | skip); (first | have f33_b := f33 (by clear f4_c2 f4 f23_c2 f23 hE_0_1_1 hK_0_1 hE_0_160_1 hK_0_160 hE_0_161_1 hE_0_162_1 hK_0_162 hE_0_163_1 hK_0_163 f10 f15 f16 f17 f29 f33 f34 f35; omega) | skip); (first | have f34_b := f34 (by clear f4_c2 f4 f23_c2 f23 hE_0_1_1 hK_0_1 hE_0_160_1 hK_0_160 hE_0_161_1 hE_0_162_1 hK_0_162 hE_0_163_1 hK_0_163 f10 f15 f16 f17 f29 f33 f34 f35; omega) | skip); (first | have f10_d := f10 (by with_reducible assumption) | skip); (first | have f15_d := f15 (by with_reducible assumption) | skip); (first | have f16_d := f16 (by with_reducible assumption) | skip); (first | have f17_d := f17 (by with_reducible assumption) | skip); (first | have f29_d := f29 (by with_reducible assumption) | skip); (first | have f33_d := f33 (by with_reducible assumption) | skip); (first | have f34_d := f34 (by with_reducible assumption) | skip); (first | have f35_d := f35 (by with_reducible assumption) | skip); (first | have f4_q := tk_nx0 f4 (by clear f4_c2 f4 f23_c2 f23 hE_0_1_1 hK_0_1 hE_0_160_1 hK_0_160 hE_0_161_1 hE_0_162_1 hK_0_162 hE_0_163_1 hK_0_163 f10 f15 f16 f17 f29 f33 f34 f35; omega) | skip); (first | have f23_q := tk_nx0 f23 (by clear f4_c2 f4 f23_c2 f23 hE_0_1_1 hK_0_1 hE_0_160_1 hK_0_160 hE_0_161_1 hE_0_162_1 hK_0_162 hE_0_163_1 hK_0_163 f10 f15 f16 f17 f29 f33 f34 f35; omega) | skip); (try and_intros) <;> first | with_reducible assumption | (clear f4_c2 f4 f23_c2 f23 hE_0_1_1 hK_0_1 hE_0_160_1 hK_0_160 hE_0_161_1 hE_0_162_1 hK_0_162 hE_0_163_1 hK_0_163 f10 f15 f16 f17 f29 f33 f34 f35; omega)) | ((have f4_c0 := f4.1); (have f4_c1 := f4.2.1); (have f4_c2 := f4.2.2); (have f23_c0 := f23.1); (have f23_c1 := f23.2.1); (have f23_c2 := f23.2.2); (first | have f10_b := f10 (by clear f4_c2 f4 f23_c2 f23 hE_0_1_1 hK_0_1 hE_0_160_1 hK_0_160 hE_0_161_1 hE_0_162_1 hK_0_162 hE_0_163_1 hK_0_163 f10 f15 f16 f17 f29 f33 f34 f35; omega) | skip); (first | have f15_b := f15 (by clear f4_c2 f4 f23_c2 f23 hE_0_1_1 hK_0_1 hE_0_160_1 hK_0_160 hE_0_161_1 hE_0_162_1 hK_0_162 hE_0_163_1 hK_0_163 f10 f15 f16 f17 f29 f33 f34 f35; omega) | skip); (first | have f16_b := f16 (by clear f4_c2 f4 f23_c2 f23 hE_0_1_1 hK_0_1 hE_0_160_1 hK_0_160 hE_0_161_1 hE_0_162_1 hK_0_162 hE_0_163_1 hK_0_163 f10 f15 f16 f17 f29 f33 f34 f35; omega) | skip); (first | have f29_b := f29 (by clear f4_c2 f4 f23_c2 f23 hE_0_1_1 hK_0_1 hE_0_160_1 hK_0_160 hE_0_161_1 hE_0_162_1 hK_0_162 hE_0_163_1 hK_0_163 f10 f15 f16 f17 f29 f33 f34 f35; omega) | skip); (first | have f33_b := f33 (by clear f4_c2 f4 f23_c2 f23 hE_0_1_1 hK_0_1 hE_0_160_1 hK_0_160 hE_0_161_1 hE_0_162_1 hK_0_162 hE_0_163_1 hK_0_163 f10 f15 f16 f17 f29 f33 f34 f35; omega) | skip); (first | have f34_b := f34 (by clear f4_c2 f4 f23_c2 f23 hE_0_1_1 hK_0_1 hE_0_160_1 hK_0_160 hE_0_161_1 hE_0_162_1 hK_0_162 hE_0_163_1 hK_0_163 f10 f15 f16 f17 f29 f33 f34 f35; omega) | skip); (first | have f10_d := f10 (by with_reducible assumption) | skip); (first | have f15_d := f15 (by with_reducible assumption) | skip); (first | have f16_d := f16 (by with_reducible assumption) | skip); (first | have f17_d := f17 (by with_reducible assumption) | skip); (first | have f29_d := f29 (by with_reducible assumption) | skip); (first | have f33_d := f33 (by with_reducible assumption) | skip); (first | have f34_d := f34 (by with_reducible assumption) | skip); (first | have f35_d := f35 (by with_reducible assumption) | skip); (first | have f4_q := tk_nx0 f4 (by clear f4_c2 f4 f23_c2 f23 hE_0_1_1 hK_0_1 hE_0_160_1 hK_0_160 hE_0_161_1 hE_0_162_1 hK_0_162 hE_0_163_1 hK_0_163 f10 f15 f16 f17 f29 f33 f34 f35; omega) | skip); (first | have f23_q := tk_nx0 f23 (by clear f4_c2 f4 f23_c2 f23 hE_0_1_1 hK_0_1 hE_0_160_1 hK_0_160 hE_0_161_1 hE_0_162_1 hK_0_162 hE_0_163_1 hK_0_163 f10 f15 f16 f17 f29 f33 f34 f35; omega) | skip); (first | have f4_r0 := tk_nx1 (c := cur_0) f4.2 (by clear f4_c2 f4 f23_c2 f23 hE_0_1_1 hK_0_1 hE_0_160_1 hK_0_160 hE_0_161_1 hE_0_162_1 hK_0_162 hE_0_163_1 hK_0_163 f10 f15 f16 f17 f29 f33 f34 f35; omega) (by clear f4_c2 f4 f23_c2 f23 hE_0_1_1 hK_0_1 hE_0_160_1 hK_0_160 hE_0_161_1 hE_0_162_1 hK_0_162 hE_0_163_1 hK_0_163 f10 f15 f16 f17 f29 f33 f34 f35; omega) | skip); (first | have f4_r1 := tk_nx1 (c := cur_1) f4.2 (by clear f4_c2 f4 f23_c2 f23 hE_0_1_1 hK_0_1 hE_0_160_1 hK_0_160 hE_0_161_1 hE_0_162_1 hK_0_162 hE_0_163_1 hK_0_163 f10 f15 f16 f17 f29 f33 f34 f35; omega) (by clear f4_c2 f4 f23_c2 f23 hE_0_1_1 hK_0_1 hE_0_160_1 hK_0_160 hE_0_161_1 hE_0_162_1 hK_0_162 hE_0_163_1 hK_0_163 f10 f15 f16 f17 f29 f33 f34 f35; omega) | skip); (first | have f23_r0 := tk_nx1 (c := cur_0) f23.2 (by clear f4_c2 f4 f23_c2 f23 hE_0_1_1 hK_0_1 hE_0_160_1 hK_0_160 hE_0_161_1 hE_0_162_1 hK_0_162 hE_0_163_1 hK_0_163 f10 f15 f16 f17 f29 f33 f34 f35; omega) (by clear f4_c2 f4 f23_c2 f23 hE_0_1_1 hK_0_1 hE_0_160_1 hK_0_160 hE_0_161_1 hE_0_162_1 hK_0_162 hE_0_163_1 hK_0_163 f10 f15 f16 f17 f29 f33 f34 f35; omega) | skip); (first | have f23_r1 := tk_nx1 (c := cur_1) f23.2 (by clear f4_c2 f4 f23_c2 f23 hE_0_1_1 hK_0_1 hE_0_160_1 hK_0_160 hE_0_161_1 hE_0_162_1 hK_0_162 hE_0_163_1 hK_0_163 f10 f15 f16 f17 f29 f33 f34 f35; omega) (by clear f4_c2 f4 f23_c2 f23 hE_0_1_1 hK_0_1 hE_0_160_1 hK_0_160 hE_0_161_1 hE_0_162_1 hK_0_162 hE_0_163_1 hK_0_163 f10 f15 f16 f17 f29 f33 f34 f35; omega) | skip); (try and_intros) <;> first | with_reducible assumption | (clear f4_c2 f4 f23_c2 f23 hE_0_1_1 hK_0_1 hE_0_160_1 hK_0_160 hE_0_161_1 hE_0_162_1 hK_0_162 hE_0_163_1 hK_0_163 f10 f15 f16 f17 f29 f33 f34 f35; omega)) | omega
set_option maxHeartbeats 4000000 in
theorem vc_Mo_style_21_3 (x3 : Int) (x8 : Int) (x9 : Int) (x11 : Int) (x13 : Int) (x16 : Int) (x17 : Int) (x18 : Int) (styleOne_0 : Int) (cur_0 : Int) (tokenKind_0 : Int → Int) (tokens_0 : Int) (opened_0 : Int) (tokenValue_0 : Int → Int) (tokenPlace_0 : Int → Int) (tokenEnd_0 : Int → Int) (tape_0 : Int → Int) (limit_0 : Int) (fault_0 : Int) (taped_0 : Int) (tokenKind_1 : Int → Int) (cur_1 : Int) (tokens_1 : Int) (opened_1 : Int) (tokenValue_1 : Int → Int) (tokenPlace_1 : Int → Int) (tokenEnd_1 : Int → Int) (tape_1 : Int → Int) (limit_1 : Int) (fault_1 : Int) (taped_1 : Int) (gx : Int) (k3 : 0 ≤ x3 ∧ x3 ≤ 2000) (k8 : 0 ≤ x8 ∧ x8 ≤ 0) (k9 : 0 ≤ x9 ∧ x9 ≤ 47) (k11 : 0 ≤ x11 ∧ x11 ≤ 2010) (k13 : 0 ≤ x13 ∧ x13 ≤ 2009) (k16 : 0 ≤ x16 ∧ x16 ≤ 0) (k17 : 1 ≤ x17 ∧ x17 ≤ 1) (k18 : (-1) ≤ x18 ∧ x18 ≤ (-1)) (g0 : x18 = styleOne_0) (g1 : x13 = cur_0) (f3 : tokenKind_0 (cur_0) ≠ 0) (f4 : ((cur_0 + 1) ≤ tokens_0) ∧ ((tokens_0 ≤ 2010) ∧ ((tokenKind_0 ((tokens_0 - 1)) = 0) ∨ (tokenKind_0 ((tokens_0 - 1)) = 4)))) (f5 : 1 * opened_0 + 0 ≤ 0) (f6 : (-1) * opened_0 + 0 ≤ 0) (f7 : SOK (limit_0) (tokenKind_0) (tokenValue_0) (tokenPlace_0) (tokenEnd_0) (tape_0)) (f8 : fault_0 = 0) (f9 : SOC (fault_0) (cur_0) (limit_0) (tokenKind_0) (tokenValue_0) (tokenPlace_0) (tokenEnd_0) (tape_0)) (f10 : (x8 = 0) → (x9 ≤ 23)) (f11 : taped_0 = x3) (f13 : 1 * x11 + (1 * cur_0 + 0) ≤ 2010) (f14 : (-1) * x11 + ((-1) * cur_0 + 0) ≤ (-2010)) (f15 : (x16 = 1) → (tokenKind_0 (cur_0) = 1)) (f16 : (x16 = 1) → ((fault_0 = 0) ∧ ((tokenKind_0 (cur_0) = 1) ∧ ((tokenEnd_0 (cur_0) = (tokenPlace_0 (cur_0) + 4)) ∧ (((tokenPlace_0 (cur_0) + 4) ≤ limit_0) ∧ (((tape_0 ((tokenPlace_0 (cur_0) + 0)) % 256) = 110) ∧ (((tape_0 ((tokenPlace_0 (cur_0) + 1)) % 256) = 111) ∧ (((tape_0 ((tokenPlace_0 (cur_0) + 2)) % 256) = 100) ∧ ((tape_0 ((tokenPlace_0 (cur_0) + 3)) % 256) = 101))))))))) (f17 : ((fault_0 = 0) ∧ ((tokenKind_0 (cur_0) = 1) ∧ ((tokenEnd_0 (cur_0) = (tokenPlace_0 (cur_0) + 4)) ∧ (((tokenPlace_0 (cur_0) + 4) ≤ limit_0) ∧ (((tape_0 ((tokenPlace_0 (cur_0) + 0)) % 256) = 110) ∧ (((tape_0 ((tokenPlace_0 (cur_0) + 1)) % 256) = 111) ∧ (((tape_0 ((tokenPlace_0 (cur_0) + 2)) % 256) = 100) ∧ ((tape_0 ((tokenPlace_0 (cur_0) + 3)) % 256) = 101)))))))) → (x16 = 1)) (f18 : Wqnode (fault_0) (cur_0) (limit_0) (tokenKind_0) (tokenPlace_0) (tokenEnd_0) (tape_0) (x16)) (f20 : x16 ≠ x17) (f21 : x8 = 0) (f22 : tokenKind_1 (cur_1) ≠ 0) (f23 : ((cur_1 + 1) ≤ tokens_1) ∧ ((tokens_1 ≤ 2010) ∧ ((tokenKind_1 ((tokens_1 - 1)) = 0) ∨ (tokenKind_1 ((tokens_1 - 1)) = 4)))) (f24 : 1 * opened_1 + 0 ≤ 0) (f25 : (-1) * opened_1 + 0 ≤ 0) (f26 : SOK (limit_1) (tokenKind_1) (tokenValue_1) (tokenPlace_1) (tokenEnd_1) (tape_1)) (f27 : fault_1 = 0) (f28 : SOC (fault_1) (cur_1) (limit_1) (tokenKind_1) (tokenValue_1) (tokenPlace_1) (tokenEnd_1) (tape_1)) (f29 : (x8 = 0) → (x9 ≤ 23)) (f30 : taped_1 = x3) (f31 : 1 * x11 + (1 * cur_1 + 0) ≤ 2010) (f32 : (-1) * x11 + ((-1) * cur_1 + 0) ≤ (-2010)) (f33 : (x16 = 1) → (tokenKind_1 (cur_1) = 1)) (f34 : (x16 = 1) → ((fault_1 = 0) ∧ ((tokenKind_1 (cur_1) = 1) ∧ ((tokenEnd_1 (cur_1) = (tokenPlace_1 (cur_1) + 4)) ∧ (((tokenPlace_1 (cur_1) + 4) ≤ limit_1) ∧ (((tape_1 ((tokenPlace_1 (cur_1) + 0)) % 256) = 110) ∧ (((tape_1 ((tokenPlace_1 (cur_1) + 1)) % 256) = 111) ∧ (((tape_1 ((tokenPlace_1 (cur_1) + 2)) % 256) = 100) ∧ ((tape_1 ((tokenPlace_1 (cur_1) + 3)) % 256) = 101))))))))) (f35 : ((fault_1 = 0) ∧ ((tokenKind_1 (cur_1) = 1) ∧ ((tokenEnd_1 (cur_1) = (tokenPlace_1 (cur_1) + 4)) ∧ (((tokenPlace_1 (cur_1) + 4) ≤ limit_1) ∧ (((tape_1 ((tokenPlace_1 (cur_1) + 0)) % 256) = 110) ∧ (((tape_1 ((tokenPlace_1 (cur_1) + 1)) % 256) = 111) ∧ (((tape_1 ((tokenPlace_1 (cur_1) + 2)) % 256) = 100) ∧ ((tape_1 ((tokenPlace_1 (cur_1) + 3)) % 256) = 101)))))))) → (x16 = 1)) (f36 : Wqnode (fault_1) (cur_1) (limit_1) (tokenKind_1) (tokenPlace_1) (tokenEnd_1) (tape_1) (x16)) (fe_0_0_1 : taped_0 = taped_1) (fe_0_8_1 : fault_0 = fault_1) (fe_0_10_1 : limit_0 = limit_1) (fe_0_157_1 : tokens_0 = tokens_1) (fe_0_158_1 : cur_0 = cur_1) (fe_0_159_1 : opened_0 = opened_1) (fe_0_165_1 : styleOne_0 = x18) (hE_0_1_1 : ∀ j : Int, tape_0 j = tape_1 j) (hK_0_1 : ∀ j : Int, 0 ≤ j → j < 2000 → (-128) ≤ tape_0 j ∧ tape_0 j ≤ 127) (hE_0_160_1 : ∀ j : Int, tokenKind_0 j = tokenKind_1 j) (hK_0_160 : ∀ j : Int, 0 ≤ j → j < 2010 → 0 ≤ tokenKind_0 j ∧ tokenKind_0 j ≤ 4) (hE_0_161_1 : ∀ j : Int, tokenValue_0 j = tokenValue_1 j) (hE_0_162_1 : ∀ j : Int, tokenPlace_0 j = tokenPlace_1 j) (hK_0_162 : ∀ j : Int, 0 ≤ j → j < 2010 → 0 ≤ tokenPlace_0 j ∧ tokenPlace_0 j ≤ 2000) (hE_0_163_1 : ∀ j : Int, tokenEnd_0 j = tokenEnd_1 j) (hK_0_163 : ∀ j : Int, 0 ≤ j → j < 2010 → 0 ≤ tokenEnd_0 j ∧ tokenEnd_0 j ≤ 2000) (kz_0_0 : 0 ≤ taped_0 ∧ taped_0 ≤ 2000) (kz_0_8 : 0 ≤ fault_0 ∧ fault_0 ≤ 5) (kz_0_10 : 0 ≤ limit_0 ∧ limit_0 ≤ 2000) (kz_0_157 : 0 ≤ tokens_0 ∧ tokens_0 ≤ 2010) (kz_0_158 : 0 ≤ cur_0 ∧ cur_0 ≤ 2009) (kz_0_159 : 0 ≤ opened_0 ∧ opened_0 ≤ 13) (kz_0_165 : (-1) ≤ styleOne_0 ∧ styleOne_0 ≤ 47) (ex2 : gx = cur_0) (ex3 : 0 ≤ gx ∧ gx ≤ 2009) : ((fault_0 = 0) ∧ ((tokenKind_0 (cur_0) = 1) ∧ ((tokenEnd_0 (cur_0) = (tokenPlace_0 (cur_0) + 4)) ∧ (((tokenPlace_0 (cur_0) + 4) ≤ limit_0) ∧ (((tape_0 ((tokenPlace_0 (cur_0) + 0)) % 256) = 110) ∧ (((tape_0 ((tokenPlace_0 (cur_0) + 1)) % 256) = 111) ∧ (((tape_0 ((tokenPlace_0 (cur_0) + 2)) % 256) = 100) ∧ ((tape_0 ((tokenPlace_0 (cur_0) + 3)) % 256) = 101)))))))) → (styleOne_0 ≤ 23) := by
  subst fe_0_0_1
  subst fe_0_8_1
  subst fe_0_10_1
  subst fe_0_157_1
  subst fe_0_158_1
  subst fe_0_159_1
  have e_hE_0_1_1 := funext hE_0_1_1; subst e_hE_0_1_1
  have e_hE_0_160_1 := funext hE_0_160_1; subst e_hE_0_160_1
  have e_hE_0_161_1 := funext hE_0_161_1; subst e_hE_0_161_1
  have e_hE_0_162_1 := funext hE_0_162_1; subst e_hE_0_162_1
  have e_hE_0_163_1 := funext hE_0_163_1; subst e_hE_0_163_1
  first | with_reducible assumption | ((have f4_c0 := f4.1); (have f4_c1 := f4.2.1); (have f4_c2 := f4.2.2); (have f23_c0 := f23.1); (have f23_c1 := f23.2.1); (have f23_c2 := f23.2.2); (try and_intros) <;> first | with_reducible assumption | (clear f4_c2 f4 f23_c2 f23 hE_0_1_1 hK_0_1 hE_0_160_1 hK_0_160 hE_0_161_1 hE_0_162_1 hK_0_162 hE_0_163_1 hK_0_163 f10 f15 f16 f17 f29 f33 f34 f35; omega)) | ((have f4_c0 := f4.1); (have f4_c1 := f4.2.1); (have f4_c2 := f4.2.2); (have f23_c0 := f23.1); (have f23_c1 := f23.2.1); (have f23_c2 := f23.2.2); (first | have f10_b := f10 (by clear f4_c2 f4 f23_c2 f23 hE_0_1_1 hK_0_1 hE_0_160_1 hK_0_160 hE_0_161_1 hE_0_162_1 hK_0_162 hE_0_163_1 hK_0_163 f10 f15 f16 f17 f29 f33 f34 f35; omega) | skip); (first | have f15_b := f15 (by clear f4_c2 f4 f23_c2 f23 hE_0_1_1 hK_0_1 hE_0_160_1 hK_0_160 hE_0_161_1 hE_0_162_1 hK_0_162 hE_0_163_1 hK_0_163 f10 f15 f16 f17 f29 f33 f34 f35; omega) | skip); (first | have f16_b := f16 (by clear f4_c2 f4 f23_c2 f23 hE_0_1_1 hK_0_1 hE_0_160_1 hK_0_160 hE_0_161_1 hE_0_162_1 hK_0_162 hE_0_163_1 hK_0_163 f10 f15 f16 f17 f29 f33 f34 f35; omega) | skip); (first | have f29_b := f29 (by clear f4_c2 f4 f23_c2 f23 hE_0_1_1 hK_0_1 hE_0_160_1 hK_0_160 hE_0_161_1 hE_0_162_1 hK_0_162 hE_0_163_1 hK_0_163 f10 f15 f16 f17 f29 f33 f34 f35; omega) | skip); (first | have f33_b := f33 (by clear f4_c2 f4 f23_c2 f23 hE_0_1_1 hK_0_1 hE_0_160_1 hK_0_160 hE_0_161_1 hE_0_162_1 hK_0_162 hE_0_163_1 hK_0_163 f10 f15 f16 f17 f29 f33 f34 f35; omega) | skip); (first | have f34_b := f34 (by clear f4_c2 f4 f23_c2 f23 hE_0_1_1 hK_0_1 hE_0_160_1 hK_0_160 hE_0_161_1 hE_0_162_1 hK_0_162 hE_0_163_1 hK_0_163 f10 f15 f16 f17 f29 f33 f34 f35; omega) | skip); (first | have f10_d := f10 (by with_reducible assumption) | skip); (first | have f15_d := f15 (by with_reducible assumption) | skip); (first | have f16_d := f16 (by with_reducible assumption) | skip); (first | have f17_d := f17 (by with_reducible assumption) | skip); (first | have f29_d := f29 (by with_reducible assumption) | skip); (first | have f33_d := f33 (by with_reducible assumption) | skip); (first | have f34_d := f34 (by with_reducible assumption) | skip); (first | have f35_d := f35 (by with_reducible assumption) | skip); (try and_intros) <;> first | with_reducible assumption | (clear f4_c2 f4 f23_c2 f23 hE_0_1_1 hK_0_1 hE_0_160_1 hK_0_160 hE_0_161_1 hE_0_162_1 hK_0_162 hE_0_163_1 hK_0_163 f10 f15 f16 f17 f29 f33 f34 f35; omega)) | ((have f4_c0 := f4.1); (have f4_c1 := f4.2.1); (have f4_c2 := f4.2.2); (have f23_c0 := f23.1); (have f23_c1 := f23.2.1); (have f23_c2 := f23.2.2); (first | have f10_b := f10 (by clear f4_c2 f4 f23_c2 f23 hE_0_1_1 hK_0_1 hE_0_160_1 hK_0_160 hE_0_161_1 hE_0_162_1 hK_0_162 hE_0_163_1 hK_0_163 f10 f15 f16 f17 f29 f33 f34 f35; omega) | skip); (first | have f15_b := f15 (by clear f4_c2 f4 f23_c2 f23 hE_0_1_1 hK_0_1 hE_0_160_1 hK_0_160 hE_0_161_1 hE_0_162_1 hK_0_162 hE_0_163_1 hK_0_163 f10 f15 f16 f17 f29 f33 f34 f35; omega) | skip); (first | have f16_b := f16 (by clear f4_c2 f4 f23_c2 f23 hE_0_1_1 hK_0_1 hE_0_160_1 hK_0_160 hE_0_161_1 hE_0_162_1 hK_0_162 hE_0_163_1 hK_0_163 f10 f15 f16 f17 f29 f33 f34 f35; omega) | skip); (first | have f29_b := f29 (by clear f4_c2 f4 f23_c2 f23 hE_0_1_1 hK_0_1 hE_0_160_1 hK_0_160 hE_0_161_1 hE_0_162_1 hK_0_162 hE_0_163_1 hK_0_163 f10 f15 f16 f17 f29 f33 f34 f35; omega) | skip); (first | have f33_b := f33 (by clear f4_c2 f4 f23_c2 f23 hE_0_1_1 hK_0_1 hE_0_160_1 hK_0_160 hE_0_161_1 hE_0_162_1 hK_0_162 hE_0_163_1 hK_0_163 f10 f15 f16 f17 f29 f33 f34 f35; omega) | skip); (first | have f34_b := f34 (by clear f4_c2 f4 f23_c2 f23 hE_0_1_1 hK_0_1 hE_0_160_1 hK_0_160 hE_0_161_1 hE_0_162_1 hK_0_162 hE_0_163_1 hK_0_163 f10 f15 f16 f17 f29 f33 f34 f35; omega) | skip); (first | have f10_d := f10 (by with_reducible assumption) | skip); (first | have f15_d := f15 (by with_reducible assumption) | skip); (first | have f16_d := f16 (by with_reducible assumption) | skip); (first | have f17_d := f17 (by with_reducible assumption) | skip); (first | have f29_d := f29 (by with_reducible assumption) | skip); (first | have f33_d := f33 (by with_reducible assumption) | skip); (first | have f34_d := f34 (by with_reducible assumption) | skip); (first | have f35_d := f35 (by with_reducible assumption) | skip); (first | have f4_q := tk_nx0 f4 (by clear f4_c2 f4 f23_c2 f23 hE_0_1_1 hK_0_1 hE_0_160_1 hK_0_160 hE_0_161_1 hE_0_162_1 hK_0_162 hE_0_163_1 hK_0_163 f10 f15 f16 f17 f29 f33 f34 f35; omega) | skip); (first | have f23_q := tk_nx0 f23 (by clear f4_c2 f4 f23_c2 f23 hE_0_1_1 hK_0_1 hE_0_160_1 hK_0_160 hE_0_161_1 hE_0_162_1 hK_0_162 hE_0_163_1 hK_0_163 f10 f15 f16 f17 f29 f33 f34 f35; omega) | skip); (try and_intros) <;> first | with_reducible assumption | (clear f4_c2 f4 f23_c2 f23 hE_0_1_1 hK_0_1 hE_0_160_1 hK_0_160 hE_0_161_1 hE_0_162_1 hK_0_162 hE_0_163_1 hK_0_163 f10 f15 f16 f17 f29 f33 f34 f35; omega)) | ((have f4_c0 := f4.1); (have f4_c1 := f4.2.1); (have f4_c2 := f4.2.2); (have f23_c0 := f23.1); (have f23_c1 := f23.2.1); (have f23_c2 := f23.2.2); (first | have f10_b := f10 (by clear f4_c2 f4 f23_c2 f23 hE_0_1_1 hK_0_1 hE_0_160_1 hK_0_160 hE_0_161_1 hE_0_162_1 hK_0_162 hE_0_163_1 hK_0_163 f10 f15 f16 f17 f29 f33 f34 f35; omega) | skip); (first | have f15_b := f15 (by clear f4_c2 f4 f23_c2 f23 hE_0_1_1 hK_0_1 hE_0_160_1 hK_0_160 hE_0_161_1 hE_0_162_1 hK_0_162 hE_0_163_1 hK_0_163 f10 f15 f16 f17 f29 f33 f34 f35; omega) | skip); (first | have f16_b := f16 (by clear f4_c2 f4 f23_c2 f23 hE_0_1_1 hK_0_1 hE_0_160_1 hK_0_160 hE_0_161_1 hE_0_162_1 hK_0_162 hE_0_163_1 hK_0_163 f10 f15 f16 f17 f29 f33 f34 f35; omega) | skip); (first | have f29_b := f29 (by clear f4_c2 f4 f23_c2 f23 hE_0_1_1 hK_0_1 hE_0_160_1 hK_0_160 hE_0_161_1 hE_0_162_1 hK_0_162 hE_0_163_1 hK_0_163 f10 f15 f16 f17 f29 f33 f34 f35; omega) | skip); (first | have f33_b := f33 (by clear f4_c2 f4 f23_c2 f23 hE_0_1_1 hK_0_1 hE_0_160_1 hK_0_160 hE_0_161_1 hE_0_162_1 hK_0_162 hE_0_163_1 hK_0_163 f10 f15 f16 f17 f29 f33 f34 f35; omega) | skip); (first | have f34_b := f34 (by clear f4_c2 f4 f23_c2 f23 hE_0_1_1 hK_0_1 hE_0_160_1 hK_0_160 hE_0_161_1 hE_0_162_1 hK_0_162 hE_0_163_1 hK_0_163 f10 f15 f16 f17 f29 f33 f34 f35; omega) | skip); (first | have f10_d := f10 (by with_reducible assumption) | skip); (first | have f15_d := f15 (by with_reducible assumption) | skip); (first | have f16_d := f16 (by with_reducible assumption) | skip); (first | have f17_d := f17 (by with_reducible assumption) | skip); (first | have f29_d := f29 (by with_reducible assumption) | skip); (first | have f33_d := f33 (by with_reducible assumption) | skip); (first | have f34_d := f34 (by with_reducible assumption) | skip); (first | have f35_d := f35 (by with_reducible assumption) | skip); (first | have f4_q := tk_nx0 f4 (by clear f4_c2 f4 f23_c2 f23 hE_0_1_1 hK_0_1 hE_0_160_1 hK_0_160 hE_0_161_1 hE_0_162_1 hK_0_162 hE_0_163_1 hK_0_163 f10 f15 f16 f17 f29 f33 f34 f35; omega) | skip); (first | have f23_q := tk_nx0 f23 (by clear f4_c2 f4 f23_c2 f23 hE_0_1_1 hK_0_1 hE_0_160_1 hK_0_160 hE_0_161_1 hE_0_162_1 hK_0_162 hE_0_163_1 hK_0_163 f10 f15 f16 f17 f29 f33 f34 f35; omega) | skip); (first | have f4_r0 := tk_nx1 (c := cur_0) f4.2 (by clear f4_c2 f4 f23_c2 f23 hE_0_1_1 hK_0_1 hE_0_160_1 hK_0_160 hE_0_161_1 hE_0_162_1 hK_0_162 hE_0_163_1 hK_0_163 f10 f15 f16 f17 f29 f33 f34 f35; omega) (by clear f4_c2 f4 f23_c2 f23 hE_0_1_1 hK_0_1 hE_0_160_1 hK_0_160 hE_0_161_1 hE_0_162_1 hK_0_162 hE_0_163_1 hK_0_163 f10 f15 f16 f17 f29 f33 f34 f35; omega) | skip); (first | have f4_r1 := tk_nx1 (c := cur_1) f4.2 (by clear f4_c2 f4 f23_c2 f23 hE_0_1_1 hK_0_1 hE_0_160_1 hK_0_160 hE_0_161_1 hE_0_162_1 hK_0_162 hE_0_163_1 hK_0_163 f10 f15 f16 f17 f29 f33 f34 f35; omega) (by clear f4_c2 f4 f23_c2 f23 hE_0_1_1 hK_0_1 hE_0_160_1 hK_0_160 hE_0_161_1 hE_0_162_1 hK_0_162 hE_0_163_1 hK_0_163 f10 f15 f16 f17 f29 f33 f34 f35; omega) | skip); (first | have f23_r0 := tk_nx1 (c := cur_0) f23.2 (by clear f4_c2 f4 f23_c2 f23 hE_0_1_1 hK_0_1 hE_0_160_1 hK_0_160 hE_0_161_1 hE_0_162_1 hK_0_162 hE_0_163_1 hK_0_163 f10 f15 f16 f17 f29 f33 f34 f35; omega) (by clear f4_c2 f4 f23_c2 f23 hE_0_1_1 hK_0_1 hE_0_160_1 hK_0_160 hE_0_161_1 hE_0_162_1 hK_0_162 hE_0_163_1 hK_0_163 f10 f15 f16 f17 f29 f33 f34 f35; omega) | skip); (first | have f23_r1 := tk_nx1 (c := cur_1) f23.2 (by clear f4_c2 f4 f23_c2 f23 hE_0_1_1 hK_0_1 hE_0_160_1 hK_0_160 hE_0_161_1 hE_0_162_1 hK_0_162 hE_0_163_1 hK_0_163 f10 f15 f16 f17 f29 f33 f34 f35; omega) (by clear f4_c2 f4 f23_c2 f23 hE_0_1_1 hK_0_1 hE_0_160_1 hK_0_160 hE_0_161_1 hE_0_162_1 hK_0_162 hE_0_163_1 hK_0_163 f10 f15 f16 f17 f29 f33 f34 f35; omega) | skip); (try and_intros) <;> first | with_reducible assumption | (clear f4_c2 f4 f23_c2 f23 hE_0_1_1 hK_0_1 hE_0_160_1 hK_0_160 hE_0_161_1 hE_0_162_1 hK_0_162 hE_0_163_1 hK_0_163 f10 f15 f16 f17 f29 f33 f34 f35; omega)) | (intro hG; (first | have f10_g := f10 hG | skip); (first | have f15_g := f15 hG | skip); (first | have f16_g := f16 hG | skip); (first | have f17_g := f17 hG | skip); (first | have f29_g := f29 hG | skip); (first | have f33_g := f33 hG | skip); (first | have f34_g := f34 hG | skip); (first | have f35_g := f35 hG | skip); (have f4_c0 := f4.1); (have f4_c1 := f4.2.1); (have f4_c2 := f4.2.2); (have f23_c0 := f23.1); (have f23_c1 := f23.2.1); (have f23_c2 := f23.2.2); (first | have f10_b := f10 (by clear f4_c2 f4 f23_c2 f23 hE_0_1_1 hK_0_1 hE_0_160_1 hK_0_160 hE_0_161_1 hE_0_162_1 hK_0_162 hE_0_163_1 hK_0_163 f10 f15 f16 f17 f29 f33 f34 f35; omega) | skip); (first | have f15_b := f15 (by clear f4_c2 f4 f23_c2 f23 hE_0_1_1 hK_0_1 hE_0_160_1 hK_0_160 hE_0_161_1 hE_0_162_1 hK_0_162 hE_0_163_1 hK_0_163 f10 f15 f16 f17 f29 f33 f34 f35; omega) | skip); (first | have f16_b := f16 (by clear f4_c2 f4 f23_c2 f23 hE_0_1_1 hK_0_1 hE_0_160_1 hK_0_160 hE_0_161_1 hE_0_162_1 hK_0_162 hE_0_163_1 hK_0_163 f10 f15 f16 f17 f29 f33 f34 f35; omega) | skip); (first | have f29_b := f29 (by clear f4_c2 f4 f23_c2 f23 hE_0_1_1 hK_0_1 hE_0_160_1 hK_0_160 hE_0_161_1 hE_0_162_1 hK_0_162 hE_0_163_1 hK_0_163 f10 f15 f16 f17 f29 f33 f34 f35; omega) | skip); (first | have f33_b := f33 (by clear f4_c2 f4 f23_c2 f23 hE_0_1_1 hK_0_1 hE_0_160_1 hK_0_160 hE_0_161_1 hE_0_162_1 hK_0_162 hE_0_163_1 hK_0_163 f10 f15 f16 f17 f29 f33 f34 f35; omega) | skip); (first | have f34_b := f34 (by clear f4_c2 f4 f23_c2 f23 hE_0_1_1 hK_0_1 hE_0_160_1 hK_0_160 hE_0_161_1 hE_0_162_1 hK_0_162 hE_0_163_1 hK_0_163 f10 f15 f16 f17 f29 f33 f34 f35; omega) | skip); (try and_intros) <;> first | with_reducible assumption | (clear f4_c2 f4 f23_c2 f23 hE_0_1_1 hK_0_1 hE_0_160_1 hK_0_160 hE_0_161_1 hE_0_162_1 hK_0_162 hE_0_163_1 hK_0_163 f10 f15 f16 f17 f29 f33 f34 f35 hG; omega)) | omega
set_option maxHeartbeats 4000000 in
theorem vc_Mo_style_21_4 (x3 : Int) (x8 : Int) (x9 : Int) (x11 : Int) (x13 : Int) (x16 : Int) (x17 : Int) (x18 : Int) (styleOne_0 : Int) (cur_0 : Int) (tokenKind_0 : Int → Int) (tokens_0 : Int) (opened_0 : Int) (tokenValue_0 : Int → Int) (tokenPlace_0 : Int → Int) (tokenEnd_0 : Int → Int) (tape_0 : Int → Int) (limit_0 : Int) (fault_0 : Int) (taped_0 : Int) (tokenKind_1 : Int → Int) (cur_1 : Int) (tokens_1 : Int) (opened_1 : Int) (tokenValue_1 : Int → Int) (tokenPlace_1 : Int → Int) (tokenEnd_1 : Int → Int) (tape_1 : Int → Int) (limit_1 : Int) (fault_1 : Int) (taped_1 : Int) (gx : Int) (k3 : 0 ≤ x3 ∧ x3 ≤ 2000) (k8 : 0 ≤ x8 ∧ x8 ≤ 0) (k9 : 0 ≤ x9 ∧ x9 ≤ 47) (k11 : 0 ≤ x11 ∧ x11 ≤ 2010) (k13 : 0 ≤ x13 ∧ x13 ≤ 2009) (k16 : 0 ≤ x16 ∧ x16 ≤ 0) (k17 : 1 ≤ x17 ∧ x17 ≤ 1) (k18 : (-1) ≤ x18 ∧ x18 ≤ (-1)) (g0 : x18 = styleOne_0) (g1 : x13 = cur_0) (f3 : tokenKind_0 (cur_0) ≠ 0) (f4 : ((cur_0 + 1) ≤ tokens_0) ∧ ((tokens_0 ≤ 2010) ∧ ((tokenKind_0 ((tokens_0 - 1)) = 0) ∨ (tokenKind_0 ((tokens_0 - 1)) = 4)))) (f5 : 1 * opened_0 + 0 ≤ 0) (f6 : (-1) * opened_0 + 0 ≤ 0) (f7 : SOK (limit_0) (tokenKind_0) (tokenValue_0) (tokenPlace_0) (tokenEnd_0) (tape_0)) (f8 : fault_0 = 0) (f9 : SOC (fault_0) (cur_0) (limit_0) (tokenKind_0) (tokenValue_0) (tokenPlace_0) (tokenEnd_0) (tape_0)) (f10 : (x8 = 0) → (x9 ≤ 23)) (f11 : taped_0 = x3) (f13 : 1 * x11 + (1 * cur_0 + 0) ≤ 2010) (f14 : (-1) * x11 + ((-1) * cur_0 + 0) ≤ (-2010)) (f15 : (x16 = 1) → (tokenKind_0 (cur_0) = 1)) (f16 : (x16 = 1) → ((fault_0 = 0) ∧ ((tokenKind_0 (cur_0) = 1) ∧ ((tokenEnd_0 (cur_0) = (tokenPlace_0 (cur_0) + 4)) ∧ (((tokenPlace_0 (cur_0) + 4) ≤ limit_0) ∧ (((tape_0 ((tokenPlace_0 (cur_0) + 0)) % 256) = 110) ∧ (((tape_0 ((tokenPlace_0 (cur_0) + 1)) % 256) = 111) ∧ (((tape_0 ((tokenPlace_0 (cur_0) + 2)) % 256) = 100) ∧ ((tape_0 ((tokenPlace_0 (cur_0) + 3)) % 256) = 101))))))))) (f17 : ((fault_0 = 0) ∧ ((tokenKind_0 (cur_0) = 1) ∧ ((tokenEnd_0 (cur_0) = (tokenPlace_0 (cur_0) + 4)) ∧ (((tokenPlace_0 (cur_0) + 4) ≤ limit_0) ∧ (((tape_0 ((tokenPlace_0 (cur_0) + 0)) % 256) = 110) ∧ (((tape_0 ((tokenPlace_0 (cur_0) + 1)) % 256) = 111) ∧ (((tape_0 ((tokenPlace_0 (cur_0) + 2)) % 256) = 100) ∧ ((tape_0 ((tokenPlace_0 (cur_0) + 3)) % 256) = 101)))))))) → (x16 = 1)) (f18 : Wqnode (fault_0) (cur_0) (limit_0) (tokenKind_0) (tokenPlace_0) (tokenEnd_0) (tape_0) (x16)) (f20 : x16 ≠ x17) (f21 : x8 = 0) (f22 : tokenKind_1 (cur_1) ≠ 0) (f23 : ((cur_1 + 1) ≤ tokens_1) ∧ ((tokens_1 ≤ 2010) ∧ ((tokenKind_1 ((tokens_1 - 1)) = 0) ∨ (tokenKind_1 ((tokens_1 - 1)) = 4)))) (f24 : 1 * opened_1 + 0 ≤ 0) (f25 : (-1) * opened_1 + 0 ≤ 0) (f26 : SOK (limit_1) (tokenKind_1) (tokenValue_1) (tokenPlace_1) (tokenEnd_1) (tape_1)) (f27 : fault_1 = 0) (f28 : SOC (fault_1) (cur_1) (limit_1) (tokenKind_1) (tokenValue_1) (tokenPlace_1) (tokenEnd_1) (tape_1)) (f29 : (x8 = 0) → (x9 ≤ 23)) (f30 : taped_1 = x3) (f31 : 1 * x11 + (1 * cur_1 + 0) ≤ 2010) (f32 : (-1) * x11 + ((-1) * cur_1 + 0) ≤ (-2010)) (f33 : (x16 = 1) → (tokenKind_1 (cur_1) = 1)) (f34 : (x16 = 1) → ((fault_1 = 0) ∧ ((tokenKind_1 (cur_1) = 1) ∧ ((tokenEnd_1 (cur_1) = (tokenPlace_1 (cur_1) + 4)) ∧ (((tokenPlace_1 (cur_1) + 4) ≤ limit_1) ∧ (((tape_1 ((tokenPlace_1 (cur_1) + 0)) % 256) = 110) ∧ (((tape_1 ((tokenPlace_1 (cur_1) + 1)) % 256) = 111) ∧ (((tape_1 ((tokenPlace_1 (cur_1) + 2)) % 256) = 100) ∧ ((tape_1 ((tokenPlace_1 (cur_1) + 3)) % 256) = 101))))))))) (f35 : ((fault_1 = 0) ∧ ((tokenKind_1 (cur_1) = 1) ∧ ((tokenEnd_1 (cur_1) = (tokenPlace_1 (cur_1) + 4)) ∧ (((tokenPlace_1 (cur_1) + 4) ≤ limit_1) ∧ (((tape_1 ((tokenPlace_1 (cur_1) + 0)) % 256) = 110) ∧ (((tape_1 ((tokenPlace_1 (cur_1) + 1)) % 256) = 111) ∧ (((tape_1 ((tokenPlace_1 (cur_1) + 2)) % 256) = 100) ∧ ((tape_1 ((tokenPlace_1 (cur_1) + 3)) % 256) = 101)))))))) → (x16 = 1)) (f36 : Wqnode (fault_1) (cur_1) (limit_1) (tokenKind_1) (tokenPlace_1) (tokenEnd_1) (tape_1) (x16)) (fe_0_0_1 : taped_0 = taped_1) (fe_0_8_1 : fault_0 = fault_1) (fe_0_10_1 : limit_0 = limit_1) (fe_0_157_1 : tokens_0 = tokens_1) (fe_0_158_1 : cur_0 = cur_1) (fe_0_159_1 : opened_0 = opened_1) (fe_0_165_1 : styleOne_0 = x18) (hE_0_1_1 : ∀ j : Int, tape_0 j = tape_1 j) (hK_0_1 : ∀ j : Int, 0 ≤ j → j < 2000 → (-128) ≤ tape_0 j ∧ tape_0 j ≤ 127) (hE_0_160_1 : ∀ j : Int, tokenKind_0 j = tokenKind_1 j) (hK_0_160 : ∀ j : Int, 0 ≤ j → j < 2010 → 0 ≤ tokenKind_0 j ∧ tokenKind_0 j ≤ 4) (hE_0_161_1 : ∀ j : Int, tokenValue_0 j = tokenValue_1 j) (hE_0_162_1 : ∀ j : Int, tokenPlace_0 j = tokenPlace_1 j) (hK_0_162 : ∀ j : Int, 0 ≤ j → j < 2010 → 0 ≤ tokenPlace_0 j ∧ tokenPlace_0 j ≤ 2000) (hE_0_163_1 : ∀ j : Int, tokenEnd_0 j = tokenEnd_1 j) (hK_0_163 : ∀ j : Int, 0 ≤ j → j < 2010 → 0 ≤ tokenEnd_0 j ∧ tokenEnd_0 j ≤ 2000) (kz_0_0 : 0 ≤ taped_0 ∧ taped_0 ≤ 2000) (kz_0_8 : 0 ≤ fault_0 ∧ fault_0 ≤ 5) (kz_0_10 : 0 ≤ limit_0 ∧ limit_0 ≤ 2000) (kz_0_157 : 0 ≤ tokens_0 ∧ tokens_0 ≤ 2010) (kz_0_158 : 0 ≤ cur_0 ∧ cur_0 ≤ 2009) (kz_0_159 : 0 ≤ opened_0 ∧ opened_0 ≤ 13) (kz_0_165 : (-1) ≤ styleOne_0 ∧ styleOne_0 ≤ 47) (ex2 : gx = cur_0) (ex3 : 0 ≤ gx ∧ gx ≤ 2009) : 1 * opened_0 + 0 ≤ 0 := by
  subst fe_0_0_1
  subst fe_0_8_1
  subst fe_0_10_1
  subst fe_0_157_1
  subst fe_0_158_1
  subst fe_0_159_1
  have e_hE_0_1_1 := funext hE_0_1_1; subst e_hE_0_1_1
  have e_hE_0_160_1 := funext hE_0_160_1; subst e_hE_0_160_1
  have e_hE_0_161_1 := funext hE_0_161_1; subst e_hE_0_161_1
  have e_hE_0_162_1 := funext hE_0_162_1; subst e_hE_0_162_1
  have e_hE_0_163_1 := funext hE_0_163_1; subst e_hE_0_163_1
  first | with_reducible assumption | ((have f4_c0 := f4.1); (have f4_c1 := f4.2.1); (have f4_c2 := f4.2.2); (have f23_c0 := f23.1); (have f23_c1 := f23.2.1); (have f23_c2 := f23.2.2); (try and_intros) <;> first | with_reducible assumption | (clear f4_c2 f4 f23_c2 f23 hE_0_1_1 hK_0_1 hE_0_160_1 hK_0_160 hE_0_161_1 hE_0_162_1 hK_0_162 hE_0_163_1 hK_0_163 f10 f15 f16 f17 f29 f33 f34 f35; omega)) | ((have f4_c0 := f4.1); (have f4_c1 := f4.2.1); (have f4_c2 := f4.2.2); (have f23_c0 := f23.1); (have f23_c1 := f23.2.1); (have f23_c2 := f23.2.2); (first | have f10_b := f10 (by clear f4_c2 f4 f23_c2 f23 hE_0_1_1 hK_0_1 hE_0_160_1 hK_0_160 hE_0_161_1 hE_0_162_1 hK_0_162 hE_0_163_1 hK_0_163 f10 f15 f16 f17 f29 f33 f34 f35; omega) | skip); (first | have f15_b := f15 (by clear f4_c2 f4 f23_c2 f23 hE_0_1_1 hK_0_1 hE_0_160_1 hK_0_160 hE_0_161_1 hE_0_162_1 hK_0_162 hE_0_163_1 hK_0_163 f10 f15 f16 f17 f29 f33 f34 f35; omega) | skip); (first | have f16_b := f16 (by clear f4_c2 f4 f23_c2 f23 hE_0_1_1 hK_0_1 hE_0_160_1 hK_0_160 hE_0_161_1 hE_0_162_1 hK_0_162 hE_0_163_1 hK_0_163 f10 f15 f16 f17 f29 f33 f34 f35; omega) | skip); (first | have f29_b := f29 (by clear f4_c2 f4 f23_c2 f23 hE_0_1_1 hK_0_1 hE_0_160_1 hK_0_160 hE_0_161_1 hE_0_162_1 hK_0_162 hE_0_163_1 hK_0_163 f10 f15 f16 f17 f29 f33 f34 f35; omega) | skip); (first | have f33_b := f33 (by clear f4_c2 f4 f23_c2 f23 hE_0_1_1 hK_0_1 hE_0_160_1 hK_0_160 hE_0_161_1 hE_0_162_1 hK_0_162 hE_0_163_1 hK_0_163 f10 f15 f16 f17 f29 f33 f34 f35; omega) | skip); (first | have f34_b := f34 (by clear f4_c2 f4 f23_c2 f23 hE_0_1_1 hK_0_1 hE_0_160_1 hK_0_160 hE_0_161_1 hE_0_162_1 hK_0_162 hE_0_163_1 hK_0_163 f10 f15 f16 f17 f29 f33 f34 f35; omega) | skip); (first | have f10_d := f10 (by with_reducible assumption) | skip); (first | have f15_d := f15 (by with_reducible assumption) | skip); (first | have f16_d := f16 (by with_reducible assumption) | skip); (first | have f17_d := f17 (by with_reducible assumption) | skip); (first | have f29_d := f29 (by with_reducible assumption) | skip); (first | have f33_d := f33 (by with_reducible assumption) | skip); (first | have f34_d := f34 (by with_reducible assumption) | skip); (first | have f35_d := f35 (by with_reducible assumption) | skip); (try and_intros) <;> first | with_reducible assumption | (clear f4_c2 f4 f23_c2 f23 hE_0_1_1 hK_0_1 hE_0_160_1 hK_0_160 hE_0_161_1 hE_0_162_1 hK_0_162 hE_0_163_1 hK_0_163 f10 f15 f16 f17 f29 f33 f34 f35; omega)) | ((have f4_c0 := f4.1); (have f4_c1 := f4.2.1); (have f4_c2 := f4.2.2); (have f23_c0 := f23.1); (have f23_c1 := f23.2.1); (have f23_c2 := f23.2.2); (first | have f10_b := f10 (by clear f4_c2 f4 f23_c2 f23 hE_0_1_1 hK_0_1 hE_0_160_1 hK_0_160 hE_0_161_1 hE_0_162_1 hK_0_162 hE_0_163_1 hK_0_163 f10 f15 f16 f17 f29 f33 f34 f35; omega) | skip); (first | have f15_b := f15 (by clear f4_c2 f4 f23_c2 f23 hE_0_1_1 hK_0_1 hE_0_160_1 hK_0_160 hE_0_161_1 hE_0_162_1 hK_0_162 hE_0_163_1 hK_0_163 f10 f15 f16 f17 f29 f33 f34 f35; omega) | skip); (first | have f16_b := f16 (by clear f4_c2 f4 f23_c2 f23 hE_0_1_1 hK_0_1 hE_0_160_1 hK_0_160 hE_0_161_1 hE_0_162_1 hK_0_162 hE_0_163_1 hK_0_163 f10 f15 f16 f17 f29 f33 f34 f35; omega) | skip); (first | have f29_b := f29 (by clear f4_c2 f4 f23_c2 f23 hE_0_1_1 hK_0_1 hE_0_160_1 hK_0_160 hE_0_161_1 hE_0_162_1 hK_0_162 hE_0_163_1 hK_0_163 f10 f15 f16 f17 f29 f33 f34 f35; omega) | skip); (first | have f33_b := f33 (by clear f4_c2 f4 f23_c2 f23 hE_0_1_1 hK_0_1 hE_0_160_1 hK_0_160 hE_0_161_1 hE_0_162_1 hK_0_162 hE_0_163_1 hK_0_163 f10 f15 f16 f17 f29 f33 f34 f35; omega) | skip); (first | have f34_b := f34 (by clear f4_c2 f4 f23_c2 f23 hE_0_1_1 hK_0_1 hE_0_160_1 hK_0_160 hE_0_161_1 hE_0_162_1 hK_0_162 hE_0_163_1 hK_0_163 f10 f15 f16 f17 f29 f33 f34 f35; omega) | skip); (first | have f10_d := f10 (by with_reducible assumption) | skip); (first | have f15_d := f15 (by with_reducible assumption) | skip); (first | have f16_d := f16 (by with_reducible assumption) | skip); (first | have f17_d := f17 (by with_reducible assumption) | skip); (first | have f29_d := f29 (by with_reducible assumption) | skip); (first | have f33_d := f33 (by with_reducible assumption) | skip); (first | have f34_d := f34 (by with_reducible assumption) | skip); (first | have f35_d := f35 (by with_reducible assumption) | skip); (first | have f4_q := tk_nx0 f4 (by clear f4_c2 f4 f23_c2 f23 hE_0_1_1 hK_0_1 hE_0_160_1 hK_0_160 hE_0_161_1 hE_0_162_1 hK_0_162 hE_0_163_1 hK_0_163 f10 f15 f16 f17 f29 f33 f34 f35; omega) | skip); (first | have f23_q := tk_nx0 f23 (by clear f4_c2 f4 f23_c2 f23 hE_0_1_1 hK_0_1 hE_0_160_1 hK_0_160 hE_0_161_1 hE_0_162_1 hK_0_162 hE_0_163_1 hK_0_163 f10 f15 f16 f17 f29 f33 f34 f35; omega) | skip); (try and_intros) <;> first | with_reducible assumption | (clear f4_c2 f4 f23_c2 f23 hE_0_1_1 hK_0_1 hE_0_160_1 hK_0_160 hE_0_161_1 hE_0_162_1 hK_0_162 hE_0_163_1 hK_0_163 f10 f15 f16 f17 f29 f33 f34 f35; omega)) | ((have f4_c0 := f4.1); (have f4_c1 := f4.2.1); (have f4_c2 := f4.2.2); (have f23_c0 := f23.1); (have f23_c1 := f23.2.1); (have f23_c2 := f23.2.2); (first | have f10_b := f10 (by clear f4_c2 f4 f23_c2 f23 hE_0_1_1 hK_0_1 hE_0_160_1 hK_0_160 hE_0_161_1 hE_0_162_1 hK_0_162 hE_0_163_1 hK_0_163 f10 f15 f16 f17 f29 f33 f34 f35; omega) | skip); (first | have f15_b := f15 (by clear f4_c2 f4 f23_c2 f23 hE_0_1_1 hK_0_1 hE_0_160_1 hK_0_160 hE_0_161_1 hE_0_162_1 hK_0_162 hE_0_163_1 hK_0_163 f10 f15 f16 f17 f29 f33 f34 f35; omega) | skip); (first | have f16_b := f16 (by clear f4_c2 f4 f23_c2 f23 hE_0_1_1 hK_0_1 hE_0_160_1 hK_0_160 hE_0_161_1 hE_0_162_1 hK_0_162 hE_0_163_1 hK_0_163 f10 f15 f16 f17 f29 f33 f34 f35; omega) | skip); (first | have f29_b := f29 (by clear f4_c2 f4 f23_c2 f23 hE_0_1_1 hK_0_1 hE_0_160_1 hK_0_160 hE_0_161_1 hE_0_162_1 hK_0_162 hE_0_163_1 hK_0_163 f10 f15 f16 f17 f29 f33 f34 f35; omega) | skip); (first | have f33_b := f33 (by clear f4_c2 f4 f23_c2 f23 hE_0_1_1 hK_0_1 hE_0_160_1 hK_0_160 hE_0_161_1 hE_0_162_1 hK_0_162 hE_0_163_1 hK_0_163 f10 f15 f16 f17 f29 f33 f34 f35; omega) | skip); (first | have f34_b := f34 (by clear f4_c2 f4 f23_c2 f23 hE_0_1_1 hK_0_1 hE_0_160_1 hK_0_160 hE_0_161_1 hE_0_162_1 hK_0_162 hE_0_163_1 hK_0_163 f10 f15 f16 f17 f29 f33 f34 f35; omega) | skip); (first | have f10_d := f10 (by with_reducible assumption) | skip); (first | have f15_d := f15 (by with_reducible assumption) | skip); (first | have f16_d := f16 (by with_reducible assumption) | skip); (first | have f17_d := f17 (by with_reducible assumption) | skip); (first | have f29_d := f29 (by with_reducible assumption) | skip); (first | have f33_d := f33 (by with_reducible assumption) | skip); (first | have f34_d := f34 (by with_reducible assumption) | skip); (first | have f35_d := f35 (by with_reducible assumption) | skip); (first | have f4_q := tk_nx0 f4 (by clear f4_c2 f4 f23_c2 f23 hE_0_1_1 hK_0_1 hE_0_160_1 hK_0_160 hE_0_161_1 hE_0_162_1 hK_0_162 hE_0_163_1 hK_0_163 f10 f15 f16 f17 f29 f33 f34 f35; omega) | skip); (first | have f23_q := tk_nx0 f23 (by clear f4_c2 f4 f23_c2 f23 hE_0_1_1 hK_0_1 hE_0_160_1 hK_0_160 hE_0_161_1 hE_0_162_1 hK_0_162 hE_0_163_1 hK_0_163 f10 f15 f16 f17 f29 f33 f34 f35; omega) | skip); (first | have f4_r0 := tk_nx1 (c := cur_0) f4.2 (by clear f4_c2 f4 f23_c2 f23 hE_0_1_1 hK_0_1 hE_0_160_1 hK_0_160 hE_0_161_1 hE_0_162_1 hK_0_162 hE_0_163_1 hK_0_163 f10 f15 f16 f17 f29 f33 f34 f35; omega) (by clear f4_c2 f4 f23_c2 f23 hE_0_1_1 hK_0_1 hE_0_160_1 hK_0_160 hE_0_161_1 hE_0_162_1 hK_0_162 hE_0_163_1 hK_0_163 f10 f15 f16 f17 f29 f33 f34 f35; omega) | skip); (first | have f4_r1 := tk_nx1 (c := cur_1) f4.2 (by clear f4_c2 f4 f23_c2 f23 hE_0_1_1 hK_0_1 hE_0_160_1 hK_0_160 hE_0_161_1 hE_0_162_1 hK_0_162 hE_0_163_1 hK_0_163 f10 f15 f16 f17 f29 f33 f34 f35; omega) (by clear f4_c2 f4 f23_c2 f23 hE_0_1_1 hK_0_1 hE_0_160_1 hK_0_160 hE_0_161_1 hE_0_162_1 hK_0_162 hE_0_163_1 hK_0_163 f10 f15 f16 f17 f29 f33 f34 f35; omega) | skip); (first | have f23_r0 := tk_nx1 (c := cur_0) f23.2 (by clear f4_c2 f4 f23_c2 f23 hE_0_1_1 hK_0_1 hE_0_160_1 hK_0_160 hE_0_161_1 hE_0_162_1 hK_0_162 hE_0_163_1 hK_0_163 f10 f15 f16 f17 f29 f33 f34 f35; omega) (by clear f4_c2 f4 f23_c2 f23 hE_0_1_1 hK_0_1 hE_0_160_1 hK_0_160 hE_0_161_1 hE_0_162_1 hK_0_162 hE_0_163_1 hK_0_163 f10 f15 f16 f17 f29 f33 f34 f35; omega) | skip); (first | have f23_r1 := tk_nx1 (c := cur_1) f23.2 (by clear f4_c2 f4 f23_c2 f23 hE_0_1_1 hK_0_1 hE_0_160_1 hK_0_160 hE_0_161_1 hE_0_162_1 hK_0_162 hE_0_163_1 hK_0_163 f10 f15 f16 f17 f29 f33 f34 f35; omega) (by clear f4_c2 f4 f23_c2 f23 hE_0_1_1 hK_0_1 hE_0_160_1 hK_0_160 hE_0_161_1 hE_0_162_1 hK_0_162 hE_0_163_1 hK_0_163 f10 f15 f16 f17 f29 f33 f34 f35; omega) | skip); (try and_intros) <;> first | with_reducible assumption | (clear f4_c2 f4 f23_c2 f23 hE_0_1_1 hK_0_1 hE_0_160_1 hK_0_160 hE_0_161_1 hE_0_162_1 hK_0_162 hE_0_163_1 hK_0_163 f10 f15 f16 f17 f29 f33 f34 f35; omega)) | omega
set_option maxHeartbeats 4000000 in
theorem vc_Mo_style_21_5 (x3 : Int) (x8 : Int) (x9 : Int) (x11 : Int) (x13 : Int) (x16 : Int) (x17 : Int) (x18 : Int) (styleOne_0 : Int) (cur_0 : Int) (tokenKind_0 : Int → Int) (tokens_0 : Int) (opened_0 : Int) (tokenValue_0 : Int → Int) (tokenPlace_0 : Int → Int) (tokenEnd_0 : Int → Int) (tape_0 : Int → Int) (limit_0 : Int) (fault_0 : Int) (taped_0 : Int) (tokenKind_1 : Int → Int) (cur_1 : Int) (tokens_1 : Int) (opened_1 : Int) (tokenValue_1 : Int → Int) (tokenPlace_1 : Int → Int) (tokenEnd_1 : Int → Int) (tape_1 : Int → Int) (limit_1 : Int) (fault_1 : Int) (taped_1 : Int) (gx : Int) (k3 : 0 ≤ x3 ∧ x3 ≤ 2000) (k8 : 0 ≤ x8 ∧ x8 ≤ 0) (k9 : 0 ≤ x9 ∧ x9 ≤ 47) (k11 : 0 ≤ x11 ∧ x11 ≤ 2010) (k13 : 0 ≤ x13 ∧ x13 ≤ 2009) (k16 : 0 ≤ x16 ∧ x16 ≤ 0) (k17 : 1 ≤ x17 ∧ x17 ≤ 1) (k18 : (-1) ≤ x18 ∧ x18 ≤ (-1)) (g0 : x18 = styleOne_0) (g1 : x13 = cur_0) (f3 : tokenKind_0 (cur_0) ≠ 0) (f4 : ((cur_0 + 1) ≤ tokens_0) ∧ ((tokens_0 ≤ 2010) ∧ ((tokenKind_0 ((tokens_0 - 1)) = 0) ∨ (tokenKind_0 ((tokens_0 - 1)) = 4)))) (f5 : 1 * opened_0 + 0 ≤ 0) (f6 : (-1) * opened_0 + 0 ≤ 0) (f7 : SOK (limit_0) (tokenKind_0) (tokenValue_0) (tokenPlace_0) (tokenEnd_0) (tape_0)) (f8 : fault_0 = 0) (f9 : SOC (fault_0) (cur_0) (limit_0) (tokenKind_0) (tokenValue_0) (tokenPlace_0) (tokenEnd_0) (tape_0)) (f10 : (x8 = 0) → (x9 ≤ 23)) (f11 : taped_0 = x3) (f13 : 1 * x11 + (1 * cur_0 + 0) ≤ 2010) (f14 : (-1) * x11 + ((-1) * cur_0 + 0) ≤ (-2010)) (f15 : (x16 = 1) → (tokenKind_0 (cur_0) = 1)) (f16 : (x16 = 1) → ((fault_0 = 0) ∧ ((tokenKind_0 (cur_0) = 1) ∧ ((tokenEnd_0 (cur_0) = (tokenPlace_0 (cur_0) + 4)) ∧ (((tokenPlace_0 (cur_0) + 4) ≤ limit_0) ∧ (((tape_0 ((tokenPlace_0 (cur_0) + 0)) % 256) = 110) ∧ (((tape_0 ((tokenPlace_0 (cur_0) + 1)) % 256) = 111) ∧ (((tape_0 ((tokenPlace_0 (cur_0) + 2)) % 256) = 100) ∧ ((tape_0 ((tokenPlace_0 (cur_0) + 3)) % 256) = 101))))))))) (f17 : ((fault_0 = 0) ∧ ((tokenKind_0 (cur_0) = 1) ∧ ((tokenEnd_0 (cur_0) = (tokenPlace_0 (cur_0) + 4)) ∧ (((tokenPlace_0 (cur_0) + 4) ≤ limit_0) ∧ (((tape_0 ((tokenPlace_0 (cur_0) + 0)) % 256) = 110) ∧ (((tape_0 ((tokenPlace_0 (cur_0) + 1)) % 256) = 111) ∧ (((tape_0 ((tokenPlace_0 (cur_0) + 2)) % 256) = 100) ∧ ((tape_0 ((tokenPlace_0 (cur_0) + 3)) % 256) = 101)))))))) → (x16 = 1)) (f18 : Wqnode (fault_0) (cur_0) (limit_0) (tokenKind_0) (tokenPlace_0) (tokenEnd_0) (tape_0) (x16)) (f20 : x16 ≠ x17) (f21 : x8 = 0) (f22 : tokenKind_1 (cur_1) ≠ 0) (f23 : ((cur_1 + 1) ≤ tokens_1) ∧ ((tokens_1 ≤ 2010) ∧ ((tokenKind_1 ((tokens_1 - 1)) = 0) ∨ (tokenKind_1 ((tokens_1 - 1)) = 4)))) (f24 : 1 * opened_1 + 0 ≤ 0) (f25 : (-1) * opened_1 + 0 ≤ 0) (f26 : SOK (limit_1) (tokenKind_1) (tokenValue_1) (tokenPlace_1) (tokenEnd_1) (tape_1)) (f27 : fault_1 = 0) (f28 : SOC (fault_1) (cur_1) (limit_1) (tokenKind_1) (tokenValue_1) (tokenPlace_1) (tokenEnd_1) (tape_1)) (f29 : (x8 = 0) → (x9 ≤ 23)) (f30 : taped_1 = x3) (f31 : 1 * x11 + (1 * cur_1 + 0) ≤ 2010) (f32 : (-1) * x11 + ((-1) * cur_1 + 0) ≤ (-2010)) (f33 : (x16 = 1) → (tokenKind_1 (cur_1) = 1)) (f34 : (x16 = 1) → ((fault_1 = 0) ∧ ((tokenKind_1 (cur_1) = 1) ∧ ((tokenEnd_1 (cur_1) = (tokenPlace_1 (cur_1) + 4)) ∧ (((tokenPlace_1 (cur_1) + 4) ≤ limit_1) ∧ (((tape_1 ((tokenPlace_1 (cur_1) + 0)) % 256) = 110) ∧ (((tape_1 ((tokenPlace_1 (cur_1) + 1)) % 256) = 111) ∧ (((tape_1 ((tokenPlace_1 (cur_1) + 2)) % 256) = 100) ∧ ((tape_1 ((tokenPlace_1 (cur_1) + 3)) % 256) = 101))))))))) (f35 : ((fault_1 = 0) ∧ ((tokenKind_1 (cur_1) = 1) ∧ ((tokenEnd_1 (cur_1) = (tokenPlace_1 (cur_1) + 4)) ∧ (((tokenPlace_1 (cur_1) + 4) ≤ limit_1) ∧ (((tape_1 ((tokenPlace_1 (cur_1) + 0)) % 256) = 110) ∧ (((tape_1 ((tokenPlace_1 (cur_1) + 1)) % 256) = 111) ∧ (((tape_1 ((tokenPlace_1 (cur_1) + 2)) % 256) = 100) ∧ ((tape_1 ((tokenPlace_1 (cur_1) + 3)) % 256) = 101)))))))) → (x16 = 1)) (f36 : Wqnode (fault_1) (cur_1) (limit_1) (tokenKind_1) (tokenPlace_1) (tokenEnd_1) (tape_1) (x16)) (fe_0_0_1 : taped_0 = taped_1) (fe_0_8_1 : fault_0 = fault_1) (fe_0_10_1 : limit_0 = limit_1) (fe_0_157_1 : tokens_0 = tokens_1) (fe_0_158_1 : cur_0 = cur_1) (fe_0_159_1 : opened_0 = opened_1) (fe_0_165_1 : styleOne_0 = x18) (hE_0_1_1 : ∀ j : Int, tape_0 j = tape_1 j) (hK_0_1 : ∀ j : Int, 0 ≤ j → j < 2000 → (-128) ≤ tape_0 j ∧ tape_0 j ≤ 127) (hE_0_160_1 : ∀ j : Int, tokenKind_0 j = tokenKind_1 j) (hK_0_160 : ∀ j : Int, 0 ≤ j → j < 2010 → 0 ≤ tokenKind_0 j ∧ tokenKind_0 j ≤ 4) (hE_0_161_1 : ∀ j : Int, tokenValue_0 j = tokenValue_1 j) (hE_0_162_1 : ∀ j : Int, tokenPlace_0 j = tokenPlace_1 j) (hK_0_162 : ∀ j : Int, 0 ≤ j → j < 2010 → 0 ≤ tokenPlace_0 j ∧ tokenPlace_0 j ≤ 2000) (hE_0_163_1 : ∀ j : Int, tokenEnd_0 j = tokenEnd_1 j) (hK_0_163 : ∀ j : Int, 0 ≤ j → j < 2010 → 0 ≤ tokenEnd_0 j ∧ tokenEnd_0 j ≤ 2000) (kz_0_0 : 0 ≤ taped_0 ∧ taped_0 ≤ 2000) (kz_0_8 : 0 ≤ fault_0 ∧ fault_0 ≤ 5) (kz_0_10 : 0 ≤ limit_0 ∧ limit_0 ≤ 2000) (kz_0_157 : 0 ≤ tokens_0 ∧ tokens_0 ≤ 2010) (kz_0_158 : 0 ≤ cur_0 ∧ cur_0 ≤ 2009) (kz_0_159 : 0 ≤ opened_0 ∧ opened_0 ≤ 13) (kz_0_165 : (-1) ≤ styleOne_0 ∧ styleOne_0 ≤ 47) (ex2 : gx = cur_0) (ex3 : 0 ≤ gx ∧ gx ≤ 2009) : (-1) * opened_0 + 0 ≤ 0 := by
  subst fe_0_0_1
  subst fe_0_8_1
  subst fe_0_10_1
  subst fe_0_157_1
  subst fe_0_158_1
  subst fe_0_159_1
  have e_hE_0_1_1 := funext hE_0_1_1; subst e_hE_0_1_1
  have e_hE_0_160_1 := funext hE_0_160_1; subst e_hE_0_160_1
  have e_hE_0_161_1 := funext hE_0_161_1; subst e_hE_0_161_1
  have e_hE_0_162_1 := funext hE_0_162_1; subst e_hE_0_162_1
  have e_hE_0_163_1 := funext hE_0_163_1; subst e_hE_0_163_1
  first | with_reducible assumption | ((have f4_c0 := f4.1); (have f4_c1 := f4.2.1); (have f4_c2 := f4.2.2); (have f23_c0 := f23.1); (have f23_c1 := f23.2.1); (have f23_c2 := f23.2.2); (try and_intros) <;> first | with_reducible assumption | (clear f4_c2 f4 f23_c2 f23 hE_0_1_1 hK_0_1 hE_0_160_1 hK_0_160 hE_0_161_1 hE_0_162_1 hK_0_162 hE_0_163_1 hK_0_163 f10 f15 f16 f17 f29 f33 f34 f35; omega)) | ((have f4_c0 := f4.1); (have f4_c1 := f4.2.1); (have f4_c2 := f4.2.2); (have f23_c0 := f23.1); (have f23_c1 := f23.2.1); (have f23_c2 := f23.2.2); (first | have f10_b := f10 (by clear f4_c2 f4 f23_c2 f23 hE_0_1_1 hK_0_1 hE_0_160_1 hK_0_160 hE_0_161_1 hE_0_162_1 hK_0_162 hE_0_163_1 hK_0_163 f10 f15 f16 f17 f29 f33 f34 f35; omega) | skip); (first | have f15_b := f15 (by clear f4_c2 f4 f23_c2 f23 hE_0_1_1 hK_0_1 hE_0_160_1 hK_0_160 hE_0_161_1 hE_0_162_1 hK_0_162 hE_0_163_1 hK_0_163 f10 f15 f16 f17 f29 f33 f34 f35; omega) | skip); (first | have f16_b := f16 (by clear f4_c2 f4 f23_c2 f23 hE_0_1_1 hK_0_1 hE_0_160_1 hK_0_160 hE_0_161_1 hE_0_162_1 hK_0_162 hE_0_163_1 hK_0_163 f10 f15 f16 f17 f29 f33 f34 f35; omega) | skip); (first | have f29_b := f29 (by clear f4_c2 f4 f23_c2 f23 hE_0_1_1 hK_0_1 hE_0_160_1 hK_0_160 hE_0_161_1 hE_0_162_1 hK_0_162 hE_0_163_1 hK_0_163 f10 f15 f16 f17 f29 f33 f34 f35; omega) | skip); (first | have f33_b := f33 (by clear f4_c2 f4 f23_c2 f23 hE_0_1_1 hK_0_1 hE_0_160_1 hK_0_160 hE_0_161_1 hE_0_162_1 hK_0_162 hE_0_163_1 hK_0_163 f10 f15 f16 f17 f29 f33 f34 f35; omega) | skip); (first | have f34_b := f34 (by clear f4_c2 f4 f23_c2 f23 hE_0_1_1 hK_0_1 hE_0_160_1 hK_0_160 hE_0_161_1 hE_0_162_1 hK_0_162 hE_0_163_1 hK_0_163 f10 f15 f16 f17 f29 f33 f34 f35; omega) | skip); (first | have f10_d := f10 (by with_reducible assumption) | skip); (first | have f15_d := f15 (by with_reducible assumption) | skip); (first | have f16_d := f16 (by with_reducible assumption) | skip); (first | have f17_d := f17 (by with_reducible assumption) | skip); (first | have f29_d := f29 (by with_reducible assumption) | skip); (first | have f33_d := f33 (by with_reducible assumption) | skip); (first | have f34_d := f34 (by with_reducible assumption) | skip); (first | have f35_d := f35 (by with_reducible assumption) | skip); (try and_intros) <;> first | with_reducible assumption | (clear f4_c2 f4 f23_c2 f23 hE_0_1_1 hK_0_1 hE_0_160_1 hK_0_160 hE_0_161_1 hE_0_162_1 hK_0_162 hE_0_163_1 hK_0_163 f10 f15 f16 f17 f29 f33 f34 f35; omega)) | ((have f4_c0 := f4.1); (have f4_c1 := f4.2.1); (have f4_c2 := f4.2.2); (have f23_c0 := f23.1); (have f23_c1 := f23.2.1); (have f23_c2 := f23.2.2); (first | have f10_b := f10 (by clear f4_c2 f4 f23_c2 f23 hE_0_1_1 hK_0_1 hE_0_160_1 hK_0_160 hE_0_161_1 hE_0_162_1 hK_0_162 hE_0_163_1 hK_0_163 f10 f15 f16 f17 f29 f33 f34 f35; omega) | skip); (first | have f15_b := f15 (by clear f4_c2 f4 f23_c2 f23 hE_0_1_1 hK_0_1 hE_0_160_1 hK_0_160 hE_0_161_1 hE_0_162_1 hK_0_162 hE_0_163_1 hK_0_163 f10 f15 f16 f17 f29 f33 f34 f35; omega) | skip); (first | have f16_b := f16 (by clear f4_c2 f4 f23_c2 f23 hE_0_1_1 hK_0_1 hE_0_160_1 hK_0_160 hE_0_161_1 hE_0_162_1 hK_0_162 hE_0_163_1 hK_0_163 f10 f15 f16 f17 f29 f33 f34 f35; omega) | skip); (first | have f29_b := f29 (by clear f4_c2 f4 f23_c2 f23 hE_0_1_1 hK_0_1 hE_0_160_1 hK_0_160 hE_0_161_1 hE_0_162_1 hK_0_162 hE_0_163_1 hK_0_163 f10 f15 f16 f17 f29 f33 f34 f35; omega) | skip); (first | have f33_b := f33 (by clear f4_c2 f4 f23_c2 f23 hE_0_1_1 hK_0_1 hE_0_160_1 hK_0_160 hE_0_161_1 hE_0_162_1 hK_0_162 hE_0_163_1 hK_0_163 f10 f15 f16 f17 f29 f33 f34 f35; omega) | skip); (first | have f34_b := f34 (by clear f4_c2 f4 f23_c2 f23 hE_0_1_1 hK_0_1 hE_0_160_1 hK_0_160 hE_0_161_1 hE_0_162_1 hK_0_162 hE_0_163_1 hK_0_163 f10 f15 f16 f17 f29 f33 f34 f35; omega) | skip); (first | have f10_d := f10 (by with_reducible assumption) | skip); (first | have f15_d := f15 (by with_reducible assumption) | skip); (first | have f16_d := f16 (by with_reducible assumption) | skip); (first | have f17_d := f17 (by with_reducible assumption) | skip); (first | have f29_d := f29 (by with_reducible assumption) | skip); (first | have f33_d := f33 (by with_reducible assumption) | skip); (first | have f34_d := f34 (by with_reducible assumption) | skip); (first | have f35_d := f35 (by with_reducible assumption) | skip); (first | have f4_q := tk_nx0 f4 (by clear f4_c2 f4 f23_c2 f23 hE_0_1_1 hK_0_1 hE_0_160_1 hK_0_160 hE_0_161_1 hE_0_162_1 hK_0_162 hE_0_163_1 hK_0_163 f10 f15 f16 f17 f29 f33 f34 f35; omega) | skip); (first | have f23_q := tk_nx0 f23 (by clear f4_c2 f4 f23_c2 f23 hE_0_1_1 hK_0_1 hE_0_160_1 hK_0_160 hE_0_161_1 hE_0_162_1 hK_0_162 hE_0_163_1 hK_0_163 f10 f15 f16 f17 f29 f33 f34 f35; omega) | skip); (try and_intros) <;> first | with_reducible assumption | (clear f4_c2 f4 f23_c2 f23 hE_0_1_1 hK_0_1 hE_0_160_1 hK_0_160 hE_0_161_1 hE_0_162_1 hK_0_162 hE_0_163_1 hK_0_163 f10 f15 f16 f17 f29 f33 f34 f35; omega)) | ((have f4_c0 := f4.1); (have f4_c1 := f4.2.1); (have f4_c2 := f4.2.2); (have f23_c0 := f23.1); (have f23_c1 := f23.2.1); (have f23_c2 := f23.2.2); (first | have f10_b := f10 (by clear f4_c2 f4 f23_c2 f23 hE_0_1_1 hK_0_1 hE_0_160_1 hK_0_160 hE_0_161_1 hE_0_162_1 hK_0_162 hE_0_163_1 hK_0_163 f10 f15 f16 f17 f29 f33 f34 f35; omega) | skip); (first | have f15_b := f15 (by clear f4_c2 f4 f23_c2 f23 hE_0_1_1 hK_0_1 hE_0_160_1 hK_0_160 hE_0_161_1 hE_0_162_1 hK_0_162 hE_0_163_1 hK_0_163 f10 f15 f16 f17 f29 f33 f34 f35; omega) | skip); (first | have f16_b := f16 (by clear f4_c2 f4 f23_c2 f23 hE_0_1_1 hK_0_1 hE_0_160_1 hK_0_160 hE_0_161_1 hE_0_162_1 hK_0_162 hE_0_163_1 hK_0_163 f10 f15 f16 f17 f29 f33 f34 f35; omega) | skip); (first | have f29_b := f29 (by clear f4_c2 f4 f23_c2 f23 hE_0_1_1 hK_0_1 hE_0_160_1 hK_0_160 hE_0_161_1 hE_0_162_1 hK_0_162 hE_0_163_1 hK_0_163 f10 f15 f16 f17 f29 f33 f34 f35; omega) | skip); (first | have f33_b := f33 (by clear f4_c2 f4 f23_c2 f23 hE_0_1_1 hK_0_1 hE_0_160_1 hK_0_160 hE_0_161_1 hE_0_162_1 hK_0_162 hE_0_163_1 hK_0_163 f10 f15 f16 f17 f29 f33 f34 f35; omega) | skip); (first | have f34_b := f34 (by clear f4_c2 f4 f23_c2 f23 hE_0_1_1 hK_0_1 hE_0_160_1 hK_0_160 hE_0_161_1 hE_0_162_1 hK_0_162 hE_0_163_1 hK_0_163 f10 f15 f16 f17 f29 f33 f34 f35; omega) | skip); (first | have f10_d := f10 (by with_reducible assumption) | skip); (first | have f15_d := f15 (by with_reducible assumption) | skip); (first | have f16_d := f16 (by with_reducible assumption) | skip); (first | have f17_d := f17 (by with_reducible assumption) | skip); (first | have f29_d := f29 (by with_reducible assumption) | skip); (first | have f33_d := f33 (by with_reducible assumption) | skip); (first | have f34_d := f34 (by with_reducible assumption) | skip); (first | have f35_d := f35 (by with_reducible assumption) | skip); (first | have f4_q := tk_nx0 f4 (by clear f4_c2 f4 f23_c2 f23 hE_0_1_1 hK_0_1 hE_0_160_1 hK_0_160 hE_0_161_1 hE_0_162_1 hK_0_162 hE_0_163_1 hK_0_163 f10 f15 f16 f17 f29 f33 f34 f35; omega) | skip); (first | have f23_q := tk_nx0 f23 (by clear f4_c2 f4 f23_c2 f23 hE_0_1_1 hK_0_1 hE_0_160_1 hK_0_160 hE_0_161_1 hE_0_162_1 hK_0_162 hE_0_163_1 hK_0_163 f10 f15 f16 f17 f29 f33 f34 f35; omega) | skip); (first | have f4_r0 := tk_nx1 (c := cur_0) f4.2 (by clear f4_c2 f4 f23_c2 f23 hE_0_1_1 hK_0_1 hE_0_160_1 hK_0_160 hE_0_161_1 hE_0_162_1 hK_0_162 hE_0_163_1 hK_0_163 f10 f15 f16 f17 f29 f33 f34 f35; omega) (by clear f4_c2 f4 f23_c2 f23 hE_0_1_1 hK_0_1 hE_0_160_1 hK_0_160 hE_0_161_1 hE_0_162_1 hK_0_162 hE_0_163_1 hK_0_163 f10 f15 f16 f17 f29 f33 f34 f35; omega) | skip); (first | have f4_r1 := tk_nx1 (c := cur_1) f4.2 (by clear f4_c2 f4 f23_c2 f23 hE_0_1_1 hK_0_1 hE_0_160_1 hK_0_160 hE_0_161_1 hE_0_162_1 hK_0_162 hE_0_163_1 hK_0_163 f10 f15 f16 f17 f29 f33 f34 f35; omega) (by clear f4_c2 f4 f23_c2 f23 hE_0_1_1 hK_0_1 hE_0_160_1 hK_0_160 hE_0_161_1 hE_0_162_1 hK_0_162 hE_0_163_1 hK_0_163 f10 f15 f16 f17 f29 f33 f34 f35; omega) | skip); (first | have f23_r0 := tk_nx1 (c := cur_0) f23.2 (by clear f4_c2 f4 f23_c2 f23 hE_0_1_1 hK_0_1 hE_0_160_1 hK_0_160 hE_0_161_1 hE_0_162_1 hK_0_162 hE_0_163_1 hK_0_163 f10 f15 f16 f17 f29 f33 f34 f35; omega) (by clear f4_c2 f4 f23_c2 f23 hE_0_1_1 hK_0_1 hE_0_160_1 hK_0_160 hE_0_161_1 hE_0_162_1 hK_0_162 hE_0_163_1 hK_0_163 f10 f15 f16 f17 f29 f33 f34 f35; omega) | skip); (first | have f23_r1 := tk_nx1 (c := cur_1) f23.2 (by clear f4_c2 f4 f23_c2 f23 hE_0_1_1 hK_0_1 hE_0_160_1 hK_0_160 hE_0_161_1 hE_0_162_1 hK_0_162 hE_0_163_1 hK_0_163 f10 f15 f16 f17 f29 f33 f34 f35; omega) (by clear f4_c2 f4 f23_c2 f23 hE_0_1_1 hK_0_1 hE_0_160_1 hK_0_160 hE_0_161_1 hE_0_162_1 hK_0_162 hE_0_163_1 hK_0_163 f10 f15 f16 f17 f29 f33 f34 f35; omega) | skip); (try and_intros) <;> first | with_reducible assumption | (clear f4_c2 f4 f23_c2 f23 hE_0_1_1 hK_0_1 hE_0_160_1 hK_0_160 hE_0_161_1 hE_0_162_1 hK_0_162 hE_0_163_1 hK_0_163 f10 f15 f16 f17 f29 f33 f34 f35; omega)) | omega
set_option maxHeartbeats 4000000 in
theorem vc_Mo_style_21_6 (x3 : Int) (x8 : Int) (x9 : Int) (x11 : Int) (x13 : Int) (x16 : Int) (x17 : Int) (x18 : Int) (styleOne_0 : Int) (cur_0 : Int) (tokenKind_0 : Int → Int) (tokens_0 : Int) (opened_0 : Int) (tokenValue_0 : Int → Int) (tokenPlace_0 : Int → Int) (tokenEnd_0 : Int → Int) (tape_0 : Int → Int) (limit_0 : Int) (fault_0 : Int) (taped_0 : Int) (tokenKind_1 : Int → Int) (cur_1 : Int) (tokens_1 : Int) (opened_1 : Int) (tokenValue_1 : Int → Int) (tokenPlace_1 : Int → Int) (tokenEnd_1 : Int → Int) (tape_1 : Int → Int) (limit_1 : Int) (fault_1 : Int) (taped_1 : Int) (gx : Int) (k3 : 0 ≤ x3 ∧ x3 ≤ 2000) (k8 : 0 ≤ x8 ∧ x8 ≤ 0) (k9 : 0 ≤ x9 ∧ x9 ≤ 47) (k11 : 0 ≤ x11 ∧ x11 ≤ 2010) (k13 : 0 ≤ x13 ∧ x13 ≤ 2009) (k16 : 0 ≤ x16 ∧ x16 ≤ 0) (k17 : 1 ≤ x17 ∧ x17 ≤ 1) (k18 : (-1) ≤ x18 ∧ x18 ≤ (-1)) (g0 : x18 = styleOne_0) (g1 : x13 = cur_0) (f3 : tokenKind_0 (cur_0) ≠ 0) (f4 : ((cur_0 + 1) ≤ tokens_0) ∧ ((tokens_0 ≤ 2010) ∧ ((tokenKind_0 ((tokens_0 - 1)) = 0) ∨ (tokenKind_0 ((tokens_0 - 1)) = 4)))) (f5 : 1 * opened_0 + 0 ≤ 0) (f6 : (-1) * opened_0 + 0 ≤ 0) (f7 : SOK (limit_0) (tokenKind_0) (tokenValue_0) (tokenPlace_0) (tokenEnd_0) (tape_0)) (f8 : fault_0 = 0) (f9 : SOC (fault_0) (cur_0) (limit_0) (tokenKind_0) (tokenValue_0) (tokenPlace_0) (tokenEnd_0) (tape_0)) (f10 : (x8 = 0) → (x9 ≤ 23)) (f11 : taped_0 = x3) (f13 : 1 * x11 + (1 * cur_0 + 0) ≤ 2010) (f14 : (-1) * x11 + ((-1) * cur_0 + 0) ≤ (-2010)) (f15 : (x16 = 1) → (tokenKind_0 (cur_0) = 1)) (f16 : (x16 = 1) → ((fault_0 = 0) ∧ ((tokenKind_0 (cur_0) = 1) ∧ ((tokenEnd_0 (cur_0) = (tokenPlace_0 (cur_0) + 4)) ∧ (((tokenPlace_0 (cur_0) + 4) ≤ limit_0) ∧ (((tape_0 ((tokenPlace_0 (cur_0) + 0)) % 256) = 110) ∧ (((tape_0 ((tokenPlace_0 (cur_0) + 1)) % 256) = 111) ∧ (((tape_0 ((tokenPlace_0 (cur_0) + 2)) % 256) = 100) ∧ ((tape_0 ((tokenPlace_0 (cur_0) + 3)) % 256) = 101))))))))) (f17 : ((fault_0 = 0) ∧ ((tokenKind_0 (cur_0) = 1) ∧ ((tokenEnd_0 (cur_0) = (tokenPlace_0 (cur_0) + 4)) ∧ (((tokenPlace_0 (cur_0) + 4) ≤ limit_0) ∧ (((tape_0 ((tokenPlace_0 (cur_0) + 0)) % 256) = 110) ∧ (((tape_0 ((tokenPlace_0 (cur_0) + 1)) % 256) = 111) ∧ (((tape_0 ((tokenPlace_0 (cur_0) + 2)) % 256) = 100) ∧ ((tape_0 ((tokenPlace_0 (cur_0) + 3)) % 256) = 101)))))))) → (x16 = 1)) (f18 : Wqnode (fault_0) (cur_0) (limit_0) (tokenKind_0) (tokenPlace_0) (tokenEnd_0) (tape_0) (x16)) (f20 : x16 ≠ x17) (f21 : x8 = 0) (f22 : tokenKind_1 (cur_1) ≠ 0) (f23 : ((cur_1 + 1) ≤ tokens_1) ∧ ((tokens_1 ≤ 2010) ∧ ((tokenKind_1 ((tokens_1 - 1)) = 0) ∨ (tokenKind_1 ((tokens_1 - 1)) = 4)))) (f24 : 1 * opened_1 + 0 ≤ 0) (f25 : (-1) * opened_1 + 0 ≤ 0) (f26 : SOK (limit_1) (tokenKind_1) (tokenValue_1) (tokenPlace_1) (tokenEnd_1) (tape_1)) (f27 : fault_1 = 0) (f28 : SOC (fault_1) (cur_1) (limit_1) (tokenKind_1) (tokenValue_1) (tokenPlace_1) (tokenEnd_1) (tape_1)) (f29 : (x8 = 0) → (x9 ≤ 23)) (f30 : taped_1 = x3) (f31 : 1 * x11 + (1 * cur_1 + 0) ≤ 2010) (f32 : (-1) * x11 + ((-1) * cur_1 + 0) ≤ (-2010)) (f33 : (x16 = 1) → (tokenKind_1 (cur_1) = 1)) (f34 : (x16 = 1) → ((fault_1 = 0) ∧ ((tokenKind_1 (cur_1) = 1) ∧ ((tokenEnd_1 (cur_1) = (tokenPlace_1 (cur_1) + 4)) ∧ (((tokenPlace_1 (cur_1) + 4) ≤ limit_1) ∧ (((tape_1 ((tokenPlace_1 (cur_1) + 0)) % 256) = 110) ∧ (((tape_1 ((tokenPlace_1 (cur_1) + 1)) % 256) = 111) ∧ (((tape_1 ((tokenPlace_1 (cur_1) + 2)) % 256) = 100) ∧ ((tape_1 ((tokenPlace_1 (cur_1) + 3)) % 256) = 101))))))))) (f35 : ((fault_1 = 0) ∧ ((tokenKind_1 (cur_1) = 1) ∧ ((tokenEnd_1 (cur_1) = (tokenPlace_1 (cur_1) + 4)) ∧ (((tokenPlace_1 (cur_1) + 4) ≤ limit_1) ∧ (((tape_1 ((tokenPlace_1 (cur_1) + 0)) % 256) = 110) ∧ (((tape_1 ((tokenPlace_1 (cur_1) + 1)) % 256) = 111) ∧ (((tape_1 ((tokenPlace_1 (cur_1) + 2)) % 256) = 100) ∧ ((tape_1 ((tokenPlace_1 (cur_1) + 3)) % 256) = 101)))))))) → (x16 = 1)) (f36 : Wqnode (fault_1) (cur_1) (limit_1) (tokenKind_1) (tokenPlace_1) (tokenEnd_1) (tape_1) (x16)) (fe_0_0_1 : taped_0 = taped_1) (fe_0_8_1 : fault_0 = fault_1) (fe_0_10_1 : limit_0 = limit_1) (fe_0_157_1 : tokens_0 = tokens_1) (fe_0_158_1 : cur_0 = cur_1) (fe_0_159_1 : opened_0 = opened_1) (fe_0_165_1 : styleOne_0 = x18) (hE_0_1_1 : ∀ j : Int, tape_0 j = tape_1 j) (hK_0_1 : ∀ j : Int, 0 ≤ j → j < 2000 → (-128) ≤ tape_0 j ∧ tape_0 j ≤ 127) (hE_0_160_1 : ∀ j : Int, tokenKind_0 j = tokenKind_1 j) (hK_0_160 : ∀ j : Int, 0 ≤ j → j < 2010 → 0 ≤ tokenKind_0 j ∧ tokenKind_0 j ≤ 4) (hE_0_161_1 : ∀ j : Int, tokenValue_0 j = tokenValue_1 j) (hE_0_162_1 : ∀ j : Int, tokenPlace_0 j = tokenPlace_1 j) (hK_0_162 : ∀ j : Int, 0 ≤ j → j < 2010 → 0 ≤ tokenPlace_0 j ∧ tokenPlace_0 j ≤ 2000) (hE_0_163_1 : ∀ j : Int, tokenEnd_0 j = tokenEnd_1 j) (hK_0_163 : ∀ j : Int, 0 ≤ j → j < 2010 → 0 ≤ tokenEnd_0 j ∧ tokenEnd_0 j ≤ 2000) (kz_0_0 : 0 ≤ taped_0 ∧ taped_0 ≤ 2000) (kz_0_8 : 0 ≤ fault_0 ∧ fault_0 ≤ 5) (kz_0_10 : 0 ≤ limit_0 ∧ limit_0 ≤ 2000) (kz_0_157 : 0 ≤ tokens_0 ∧ tokens_0 ≤ 2010) (kz_0_158 : 0 ≤ cur_0 ∧ cur_0 ≤ 2009) (kz_0_159 : 0 ≤ opened_0 ∧ opened_0 ≤ 13) (kz_0_165 : (-1) ≤ styleOne_0 ∧ styleOne_0 ≤ 47) (ex2 : gx = cur_0) (ex3 : 0 ≤ gx ∧ gx ≤ 2009) : fault_0 = 0 := by
  subst fe_0_0_1
  subst fe_0_8_1
  subst fe_0_10_1
  subst fe_0_157_1
  subst fe_0_158_1
  subst fe_0_159_1
  have e_hE_0_1_1 := funext hE_0_1_1; subst e_hE_0_1_1
  have e_hE_0_160_1 := funext hE_0_160_1; subst e_hE_0_160_1
  have e_hE_0_161_1 := funext hE_0_161_1; subst e_hE_0_161_1
  have e_hE_0_162_1 := funext hE_0_162_1; subst e_hE_0_162_1
  have e_hE_0_163_1 := funext hE_0_163_1; subst e_hE_0_163_1
  first | with_reducible assumption | ((have f4_c0 := f4.1); (have f4_c1 := f4.2.1); (have f4_c2 := f4.2.2); (have f23_c0 := f23.1); (have f23_c1 := f23.2.1); (have f23_c2 := f23.2.2); (try and_intros) <;> first | with_reducible assumption | (clear f4_c2 f4 f23_c2 f23 hE_0_1_1 hK_0_1 hE_0_160_1 hK_0_160 hE_0_161_1 hE_0_162_1 hK_0_162 hE_0_163_1 hK_0_163 f10 f15 f16 f17 f29 f33 f34 f35; omega)) | ((have f4_c0 := f4.1); (have f4_c1 := f4.2.1); (have f4_c2 := f4.2.2); (have f23_c0 := f23.1); (have f23_c1 := f23.2.1); (have f23_c2 := f23.2.2); (first | have f10_b := f10 (by clear f4_c2 f4 f23_c2 f23 hE_0_1_1 hK_0_1 hE_0_160_1 hK_0_160 hE_0_161_1 hE_0_162_1 hK_0_162 hE_0_163_1 hK_0_163 f10 f15 f16 f17 f29 f33 f34 f35; omega) | skip); (first | have f15_b := f15 (by clear f4_c2 f4 f23_c2 f23 hE_0_1_1 hK_0_1 hE_0_160_1 hK_0_160 hE_0_161_1 hE_0_162_1 hK_0_162 hE_0_163_1 hK_0_163 f10 f15 f16 f17 f29 f33 f34 f35; omega) | skip); (first | have f16_b := f16 (by clear f4_c2 f4 f23_c2 f23 hE_0_1_1 hK_0_1 hE_0_160_1 hK_0_160 hE_0_161_1 hE_0_162_1 hK_0_162 hE_0_163_1 hK_0_163 f10 f15 f16 f17 f29 f33 f34 f35; omega) | skip); (first | have f29_b := f29 (by clear f4_c2 f4 f23_c2 f23 hE_0_1_1 hK_0_1 hE_0_160_1 hK_0_160 hE_0_161_1 hE_0_162_1 hK_0_162 hE_0_163_1 hK_0_163 f10 f15 f16 f17 f29 f33 f34 f35; omega) | skip); (first | have f33_b := f33 (by clear f4_c2 f4 f23_c2 f23 hE_0_1_1 hK_0_1 hE_0_160_1 hK_0_160 hE_0_161_1 hE_0_162_1 hK_0_162 hE_0_163_1 hK_0_163 f10 f15 f16 f17 f29 f33 f34 f35; omega) | skip); (first | have f34_b := f34 (by clear f4_c2 f4 f23_c2 f23 hE_0_1_1 hK_0_1 hE_0_160_1 hK_0_160 hE_0_161_1 hE_0_162_1 hK_0_162 hE_0_163_1 hK_0_163 f10 f15 f16 f17 f29 f33 f34 f35; omega) | skip); (first | have f10_d := f10 (by with_reducible assumption) | skip); (first | have f15_d := f15 (by with_reducible assumption) | skip); (first | have f16_d := f16 (by with_reducible assumption) | skip); (first | have f17_d := f17 (by with_reducible assumption) | skip); (first | have f29_d := f29 (by with_reducible assumption) | skip); (first | have f33_d := f33 (by with_reducible assumption) | skip); (first | have f34_d := f34 (by with_reducible assumption) | skip); (first | have f35_d := f35 (by with_reducible assumption) | skip); (try and_intros) <;> first | with_reducible assumption | (clear f4_c2 f4 f23_c2 f23 hE_0_1_1 hK_0_1 hE_0_160_1 hK_0_160 hE_0_161_1 hE_0_162_1 hK_0_162 hE_0_163_1 hK_0_163 f10 f15 f16 f17 f29 f33 f34 f35; omega)) | ((have f4_c0 := f4.1); (have f4_c1 := f4.2.1); (have f4_c2 := f4.2.2); (have f23_c0 := f23.1); (have f23_c1 := f23.2.1); (have f23_c2 := f23.2.2); (first | have f10_b := f10 (by clear f4_c2 f4 f23_c2 f23 hE_0_1_1 hK_0_1 hE_0_160_1 hK_0_160 hE_0_161_1 hE_0_162_1 hK_0_162 hE_0_163_1 hK_0_163 f10 f15 f16 f17 f29 f33 f34 f35; omega) | skip); (first | have f15_b := f15 (by clear f4_c2 f4 f23_c2 f23 hE_0_1_1 hK_0_1 hE_0_160_1 hK_0_160 hE_0_161_1 hE_0_162_1 hK_0_162 hE_0_163_1 hK_0_163 f10 f15 f16 f17 f29 f33 f34 f35; omega) | skip); (first | have f16_b := f16 (by clear f4_c2 f4 f23_c2 f23 hE_0_1_1 hK_0_1 hE_0_160_1 hK_0_160 hE_0_161_1 hE_0_162_1 hK_0_162 hE_0_163_1 hK_0_163 f10 f15 f16 f17 f29 f33 f34 f35; omega) | skip); (first | have f29_b := f29 (by clear f4_c2 f4 f23_c2 f23 hE_0_1_1 hK_0_1 hE_0_160_1 hK_0_160 hE_0_161_1 hE_0_162_1 hK_0_162 hE_0_163_1 hK_0_163 f10 f15 f16 f17 f29 f33 f34 f35; omega) | skip); (first | have f33_b := f33 (by clear f4_c2 f4 f23_c2 f23 hE_0_1_1 hK_0_1 hE_0_160_1 hK_0_160 hE_0_161_1 hE_0_162_1 hK_0_162 hE_0_163_1 hK_0_163 f10 f15 f16 f17 f29 f33 f34 f35; omega) | skip); (first | have f34_b := f34 (by clear f4_c2 f4 f23_c2 f23 hE_0_1_1 hK_0_1 hE_0_160_1 hK_0_160 hE_0_161_1 hE_0_162_1 hK_0_162 hE_0_163_1 hK_0_163 f10 f15 f16 f17 f29 f33 f34 f35; omega) | skip); (first | have f10_d := f10 (by with_reducible assumption) | skip); (first | have f15_d := f15 (by with_reducible assumption) | skip); (first | have f16_d := f16 (by with_reducible assumption) | skip); (first | have f17_d := f17 (by with_reducible assumption) | skip); (first | have f29_d := f29 (by with_reducible assumption) | skip); (first | have f33_d := f33 (by with_reducible assumption) | skip); (first | have f34_d := f34 (by with_reducible assumption) | skip); (first | have f35_d := f35 (by with_reducible assumption) | skip); (first | have f4_q := tk_nx0 f4 (by clear f4_c2 f4 f23_c2 f23 hE_0_1_1 hK_0_1 hE_0_160_1 hK_0_160 hE_0_161_1 hE_0_162_1 hK_0_162 hE_0_163_1 hK_0_163 f10 f15 f16 f17 f29 f33 f34 f35; omega) | skip); (first | have f23_q := tk_nx0 f23 (by clear f4_c2 f4 f23_c2 f23 hE_0_1_1 hK_0_1 hE_0_160_1 hK_0_160 hE_0_161_1 hE_0_162_1 hK_0_162 hE_0_163_1 hK_0_163 f10 f15 f16 f17 f29 f33 f34 f35; omega) | skip); (try and_intros) <;> first | with_reducible assumption | (clear f4_c2 f4 f23_c2 f23 hE_0_1_1 hK_0_1 hE_0_160_1 hK_0_160 hE_0_161_1 hE_0_162_1 hK_0_162 hE_0_163_1 hK_0_163 f10 f15 f16 f17 f29 f33 f34 f35; omega)) | ((have f4_c0 := f4.1); (have f4_c1 := f4.2.1); (have f4_c2 := f4.2.2); (have f23_c0 := f23.1); (have f23_c1 := f23.2.1); (have f23_c2 := f23.2.2); (first | have f10_b := f10 (by clear f4_c2 f4 f23_c2 f23 hE_0_1_1 hK_0_1 hE_0_160_1 hK_0_160 hE_0_161_1 hE_0_162_1 hK_0_162 hE_0_163_1 hK_0_163 f10 f15 f16 f17 f29 f33 f34 f35; omega) | skip); (first | have f15_b := f15 (by clear f4_c2 f4 f23_c2 f23 hE_0_1_1 hK_0_1 hE_0_160_1 hK_0_160 hE_0_161_1 hE_0_162_1 hK_0_162 hE_0_163_1 hK_0_163 f10 f15 f16 f17 f29 f33 f34 f35; omega) | skip); (first | have f16_b := f16 (by clear f4_c2 f4 f23_c2 f23 hE_0_1_1 hK_0_1 hE_0_160_1 hK_0_160 hE_0_161_1 hE_0_162_1 hK_0_162 hE_0_163_1 hK_0_163 f10 f15 f16 f17 f29 f33 f34 f35; omega) | skip); (first | have f29_b := f29 (by clear f4_c2 f4 f23_c2 f23 hE_0_1_1 hK_0_1 hE_0_160_1 hK_0_160 hE_0_161_1 hE_0_162_1 hK_0_162 hE_0_163_1 hK_0_163 f10 f15 f16 f17 f29 f33 f34 f35; omega) | skip); (first | have f33_b := f33 (by clear f4_c2 f4 f23_c2 f23 hE_0_1_1 hK_0_1 hE_0_160_1 hK_0_160 hE_0_161_1 hE_0_162_1 hK_0_162 hE_0_163_1 hK_0_163 f10 f15 f16 f17 f29 f33 f34 f35; omega) | skip); (first | have f34_b := f34 (by clear f4_c2 f4 f23_c2 f23 hE_0_1_1 hK_0_1 hE_0_160_1 hK_0_160 hE_0_161_1 hE_0_162_1 hK_0_162 hE_0_163_1 hK_0_163 f10 f15 f16 f17 f29 f33 f34 f35; omega) | skip); (first | have f10_d := f10 (by with_reducible assumption) | skip); (first | have f15_d := f15 (by with_reducible assumption) | skip); (first | have f16_d := f16 (by with_reducible assumption) | skip); (first | have f17_d := f17 (by with_reducible assumption) | skip); (first | have f29_d := f29 (by with_reducible assumption) | skip); (first | have f33_d := f33 (by with_reducible assumption) | skip); (first | have f34_d := f34 (by with_reducible assumption) | skip); (first | have f35_d := f35 (by with_reducible assumption) | skip); (first | have f4_q := tk_nx0 f4 (by clear f4_c2 f4 f23_c2 f23 hE_0_1_1 hK_0_1 hE_0_160_1 hK_0_160 hE_0_161_1 hE_0_162_1 hK_0_162 hE_0_163_1 hK_0_163 f10 f15 f16 f17 f29 f33 f34 f35; omega) | skip); (first | have f23_q := tk_nx0 f23 (by clear f4_c2 f4 f23_c2 f23 hE_0_1_1 hK_0_1 hE_0_160_1 hK_0_160 hE_0_161_1 hE_0_162_1 hK_0_162 hE_0_163_1 hK_0_163 f10 f15 f16 f17 f29 f33 f34 f35; omega) | skip); (first | have f4_r0 := tk_nx1 (c := cur_0) f4.2 (by clear f4_c2 f4 f23_c2 f23 hE_0_1_1 hK_0_1 hE_0_160_1 hK_0_160 hE_0_161_1 hE_0_162_1 hK_0_162 hE_0_163_1 hK_0_163 f10 f15 f16 f17 f29 f33 f34 f35; omega) (by clear f4_c2 f4 f23_c2 f23 hE_0_1_1 hK_0_1 hE_0_160_1 hK_0_160 hE_0_161_1 hE_0_162_1 hK_0_162 hE_0_163_1 hK_0_163 f10 f15 f16 f17 f29 f33 f34 f35; omega) | skip); (first | have f4_r1 := tk_nx1 (c := cur_1) f4.2 (by clear f4_c2 f4 f23_c2 f23 hE_0_1_1 hK_0_1 hE_0_160_1 hK_0_160 hE_0_161_1 hE_0_162_1 hK_0_162 hE_0_163_1 hK_0_163 f10 f15 f16 f17 f29 f33 f34 f35; omega) (by clear f4_c2 f4 f23_c2 f23 hE_0_1_1 hK_0_1 hE_0_160_1 hK_0_160 hE_0_161_1 hE_0_162_1 hK_0_162 hE_0_163_1 hK_0_163 f10 f15 f16 f17 f29 f33 f34 f35; omega) | skip); (first | have f23_r0 := tk_nx1 (c := cur_0) f23.2 (by clear f4_c2 f4 f23_c2 f23 hE_0_1_1 hK_0_1 hE_0_160_1 hK_0_160 hE_0_161_1 hE_0_162_1 hK_0_162 hE_0_163_1 hK_0_163 f10 f15 f16 f17 f29 f33 f34 f35; omega) (by clear f4_c2 f4 f23_c2 f23 hE_0_1_1 hK_0_1 hE_0_160_1 hK_0_160 hE_0_161_1 hE_0_162_1 hK_0_162 hE_0_163_1 hK_0_163 f10 f15 f16 f17 f29 f33 f34 f35; omega) | skip); (first | have f23_r1 := tk_nx1 (c := cur_1) f23.2 (by clear f4_c2 f4 f23_c2 f23 hE_0_1_1 hK_0_1 hE_0_160_1 hK_0_160 hE_0_161_1 hE_0_162_1 hK_0_162 hE_0_163_1 hK_0_163 f10 f15 f16 f17 f29 f33 f34 f35; omega) (by clear f4_c2 f4 f23_c2 f23 hE_0_1_1 hK_0_1 hE_0_160_1 hK_0_160 hE_0_161_1 hE_0_162_1 hK_0_162 hE_0_163_1 hK_0_163 f10 f15 f16 f17 f29 f33 f34 f35; omega) | skip); (try and_intros) <;> first | with_reducible assumption | (clear f4_c2 f4 f23_c2 f23 hE_0_1_1 hK_0_1 hE_0_160_1 hK_0_160 hE_0_161_1 hE_0_162_1 hK_0_162 hE_0_163_1 hK_0_163 f10 f15 f16 f17 f29 f33 f34 f35; omega)) | omega
set_option maxHeartbeats 4000000 in
theorem vc_Mo_style_21_7 (x3 : Int) (x8 : Int) (x9 : Int) (x11 : Int) (x13 : Int) (x16 : Int) (x17 : Int) (x18 : Int) (styleOne_0 : Int) (cur_0 : Int) (tokenKind_0 : Int → Int) (tokens_0 : Int) (opened_0 : Int) (tokenValue_0 : Int → Int) (tokenPlace_0 : Int → Int) (tokenEnd_0 : Int → Int) (tape_0 : Int → Int) (limit_0 : Int) (fault_0 : Int) (taped_0 : Int) (tokenKind_1 : Int → Int) (cur_1 : Int) (tokens_1 : Int) (opened_1 : Int) (tokenValue_1 : Int → Int) (tokenPlace_1 : Int → Int) (tokenEnd_1 : Int → Int) (tape_1 : Int → Int) (limit_1 : Int) (fault_1 : Int) (taped_1 : Int) (gx : Int) (k3 : 0 ≤ x3 ∧ x3 ≤ 2000) (k8 : 0 ≤ x8 ∧ x8 ≤ 0) (k9 : 0 ≤ x9 ∧ x9 ≤ 47) (k11 : 0 ≤ x11 ∧ x11 ≤ 2010) (k13 : 0 ≤ x13 ∧ x13 ≤ 2009) (k16 : 0 ≤ x16 ∧ x16 ≤ 0) (k17 : 1 ≤ x17 ∧ x17 ≤ 1) (k18 : (-1) ≤ x18 ∧ x18 ≤ (-1)) (g0 : x18 = styleOne_0) (g1 : x13 = cur_0) (f3 : tokenKind_0 (cur_0) ≠ 0) (f4 : ((cur_0 + 1) ≤ tokens_0) ∧ ((tokens_0 ≤ 2010) ∧ ((tokenKind_0 ((tokens_0 - 1)) = 0) ∨ (tokenKind_0 ((tokens_0 - 1)) = 4)))) (f5 : 1 * opened_0 + 0 ≤ 0) (f6 : (-1) * opened_0 + 0 ≤ 0) (f7 : SOK (limit_0) (tokenKind_0) (tokenValue_0) (tokenPlace_0) (tokenEnd_0) (tape_0)) (f8 : fault_0 = 0) (f9 : SOC (fault_0) (cur_0) (limit_0) (tokenKind_0) (tokenValue_0) (tokenPlace_0) (tokenEnd_0) (tape_0)) (f10 : (x8 = 0) → (x9 ≤ 23)) (f11 : taped_0 = x3) (f13 : 1 * x11 + (1 * cur_0 + 0) ≤ 2010) (f14 : (-1) * x11 + ((-1) * cur_0 + 0) ≤ (-2010)) (f15 : (x16 = 1) → (tokenKind_0 (cur_0) = 1)) (f16 : (x16 = 1) → ((fault_0 = 0) ∧ ((tokenKind_0 (cur_0) = 1) ∧ ((tokenEnd_0 (cur_0) = (tokenPlace_0 (cur_0) + 4)) ∧ (((tokenPlace_0 (cur_0) + 4) ≤ limit_0) ∧ (((tape_0 ((tokenPlace_0 (cur_0) + 0)) % 256) = 110) ∧ (((tape_0 ((tokenPlace_0 (cur_0) + 1)) % 256) = 111) ∧ (((tape_0 ((tokenPlace_0 (cur_0) + 2)) % 256) = 100) ∧ ((tape_0 ((tokenPlace_0 (cur_0) + 3)) % 256) = 101))))))))) (f17 : ((fault_0 = 0) ∧ ((tokenKind_0 (cur_0) = 1) ∧ ((tokenEnd_0 (cur_0) = (tokenPlace_0 (cur_0) + 4)) ∧ (((tokenPlace_0 (cur_0) + 4) ≤ limit_0) ∧ (((tape_0 ((tokenPlace_0 (cur_0) + 0)) % 256) = 110) ∧ (((tape_0 ((tokenPlace_0 (cur_0) + 1)) % 256) = 111) ∧ (((tape_0 ((tokenPlace_0 (cur_0) + 2)) % 256) = 100) ∧ ((tape_0 ((tokenPlace_0 (cur_0) + 3)) % 256) = 101)))))))) → (x16 = 1)) (f18 : Wqnode (fault_0) (cur_0) (limit_0) (tokenKind_0) (tokenPlace_0) (tokenEnd_0) (tape_0) (x16)) (f20 : x16 ≠ x17) (f21 : x8 = 0) (f22 : tokenKind_1 (cur_1) ≠ 0) (f23 : ((cur_1 + 1) ≤ tokens_1) ∧ ((tokens_1 ≤ 2010) ∧ ((tokenKind_1 ((tokens_1 - 1)) = 0) ∨ (tokenKind_1 ((tokens_1 - 1)) = 4)))) (f24 : 1 * opened_1 + 0 ≤ 0) (f25 : (-1) * opened_1 + 0 ≤ 0) (f26 : SOK (limit_1) (tokenKind_1) (tokenValue_1) (tokenPlace_1) (tokenEnd_1) (tape_1)) (f27 : fault_1 = 0) (f28 : SOC (fault_1) (cur_1) (limit_1) (tokenKind_1) (tokenValue_1) (tokenPlace_1) (tokenEnd_1) (tape_1)) (f29 : (x8 = 0) → (x9 ≤ 23)) (f30 : taped_1 = x3) (f31 : 1 * x11 + (1 * cur_1 + 0) ≤ 2010) (f32 : (-1) * x11 + ((-1) * cur_1 + 0) ≤ (-2010)) (f33 : (x16 = 1) → (tokenKind_1 (cur_1) = 1)) (f34 : (x16 = 1) → ((fault_1 = 0) ∧ ((tokenKind_1 (cur_1) = 1) ∧ ((tokenEnd_1 (cur_1) = (tokenPlace_1 (cur_1) + 4)) ∧ (((tokenPlace_1 (cur_1) + 4) ≤ limit_1) ∧ (((tape_1 ((tokenPlace_1 (cur_1) + 0)) % 256) = 110) ∧ (((tape_1 ((tokenPlace_1 (cur_1) + 1)) % 256) = 111) ∧ (((tape_1 ((tokenPlace_1 (cur_1) + 2)) % 256) = 100) ∧ ((tape_1 ((tokenPlace_1 (cur_1) + 3)) % 256) = 101))))))))) (f35 : ((fault_1 = 0) ∧ ((tokenKind_1 (cur_1) = 1) ∧ ((tokenEnd_1 (cur_1) = (tokenPlace_1 (cur_1) + 4)) ∧ (((tokenPlace_1 (cur_1) + 4) ≤ limit_1) ∧ (((tape_1 ((tokenPlace_1 (cur_1) + 0)) % 256) = 110) ∧ (((tape_1 ((tokenPlace_1 (cur_1) + 1)) % 256) = 111) ∧ (((tape_1 ((tokenPlace_1 (cur_1) + 2)) % 256) = 100) ∧ ((tape_1 ((tokenPlace_1 (cur_1) + 3)) % 256) = 101)))))))) → (x16 = 1)) (f36 : Wqnode (fault_1) (cur_1) (limit_1) (tokenKind_1) (tokenPlace_1) (tokenEnd_1) (tape_1) (x16)) (fe_0_0_1 : taped_0 = taped_1) (fe_0_8_1 : fault_0 = fault_1) (fe_0_10_1 : limit_0 = limit_1) (fe_0_157_1 : tokens_0 = tokens_1) (fe_0_158_1 : cur_0 = cur_1) (fe_0_159_1 : opened_0 = opened_1) (fe_0_165_1 : styleOne_0 = x18) (hE_0_1_1 : ∀ j : Int, tape_0 j = tape_1 j) (hK_0_1 : ∀ j : Int, 0 ≤ j → j < 2000 → (-128) ≤ tape_0 j ∧ tape_0 j ≤ 127) (hE_0_160_1 : ∀ j : Int, tokenKind_0 j = tokenKind_1 j) (hK_0_160 : ∀ j : Int, 0 ≤ j → j < 2010 → 0 ≤ tokenKind_0 j ∧ tokenKind_0 j ≤ 4) (hE_0_161_1 : ∀ j : Int, tokenValue_0 j = tokenValue_1 j) (hE_0_162_1 : ∀ j : Int, tokenPlace_0 j = tokenPlace_1 j) (hK_0_162 : ∀ j : Int, 0 ≤ j → j < 2010 → 0 ≤ tokenPlace_0 j ∧ tokenPlace_0 j ≤ 2000) (hE_0_163_1 : ∀ j : Int, tokenEnd_0 j = tokenEnd_1 j) (hK_0_163 : ∀ j : Int, 0 ≤ j → j < 2010 → 0 ≤ tokenEnd_0 j ∧ tokenEnd_0 j ≤ 2000) (kz_0_0 : 0 ≤ taped_0 ∧ taped_0 ≤ 2000) (kz_0_8 : 0 ≤ fault_0 ∧ fault_0 ≤ 5) (kz_0_10 : 0 ≤ limit_0 ∧ limit_0 ≤ 2000) (kz_0_157 : 0 ≤ tokens_0 ∧ tokens_0 ≤ 2010) (kz_0_158 : 0 ≤ cur_0 ∧ cur_0 ≤ 2009) (kz_0_159 : 0 ≤ opened_0 ∧ opened_0 ≤ 13) (kz_0_165 : (-1) ≤ styleOne_0 ∧ styleOne_0 ≤ 47) (ex2 : gx = cur_0) (ex3 : 0 ≤ gx ∧ gx ≤ 2009) : SC1 (limit_0) (tokenKind_0) (tokenValue_0) (tokenPlace_0) (tokenEnd_0) (tape_0) (gx) := by
  subst fe_0_0_1
  subst fe_0_8_1
  subst fe_0_10_1
  subst fe_0_157_1
  subst fe_0_158_1
  subst fe_0_159_1
  have e_hE_0_1_1 := funext hE_0_1_1; subst e_hE_0_1_1
  have e_hE_0_160_1 := funext hE_0_160_1; subst e_hE_0_160_1
  have e_hE_0_161_1 := funext hE_0_161_1; subst e_hE_0_161_1
  have e_hE_0_162_1 := funext hE_0_162_1; subst e_hE_0_162_1
  have e_hE_0_163_1 := funext hE_0_163_1; subst e_hE_0_163_1
  first
    | exact sc1_of (‹SOC _ _ _ _ _ _ _ _›) (by omega) (by omega)
  
set_option maxHeartbeats 4000000 in
theorem vc_Mo_style_21_8 (x3 : Int) (x8 : Int) (x9 : Int) (x11 : Int) (x13 : Int) (x16 : Int) (x17 : Int) (x18 : Int) (styleOne_0 : Int) (cur_0 : Int) (tokenKind_0 : Int → Int) (tokens_0 : Int) (opened_0 : Int) (tokenValue_0 : Int → Int) (tokenPlace_0 : Int → Int) (tokenEnd_0 : Int → Int) (tape_0 : Int → Int) (limit_0 : Int) (fault_0 : Int) (taped_0 : Int) (tokenKind_1 : Int → Int) (cur_1 : Int) (tokens_1 : Int) (opened_1 : Int) (tokenValue_1 : Int → Int) (tokenPlace_1 : Int → Int) (tokenEnd_1 : Int → Int) (tape_1 : Int → Int) (limit_1 : Int) (fault_1 : Int) (taped_1 : Int) (gx : Int) (k3 : 0 ≤ x3 ∧ x3 ≤ 2000) (k8 : 0 ≤ x8 ∧ x8 ≤ 0) (k9 : 0 ≤ x9 ∧ x9 ≤ 47) (k11 : 0 ≤ x11 ∧ x11 ≤ 2010) (k13 : 0 ≤ x13 ∧ x13 ≤ 2009) (k16 : 0 ≤ x16 ∧ x16 ≤ 0) (k17 : 1 ≤ x17 ∧ x17 ≤ 1) (k18 : (-1) ≤ x18 ∧ x18 ≤ (-1)) (g0 : x18 = styleOne_0) (g1 : x13 = cur_0) (f3 : tokenKind_0 (cur_0) ≠ 0) (f4 : ((cur_0 + 1) ≤ tokens_0) ∧ ((tokens_0 ≤ 2010) ∧ ((tokenKind_0 ((tokens_0 - 1)) = 0) ∨ (tokenKind_0 ((tokens_0 - 1)) = 4)))) (f5 : 1 * opened_0 + 0 ≤ 0) (f6 : (-1) * opened_0 + 0 ≤ 0) (f7 : SOK (limit_0) (tokenKind_0) (tokenValue_0) (tokenPlace_0) (tokenEnd_0) (tape_0)) (f8 : fault_0 = 0) (f9 : SOC (fault_0) (cur_0) (limit_0) (tokenKind_0) (tokenValue_0) (tokenPlace_0) (tokenEnd_0) (tape_0)) (f10 : (x8 = 0) → (x9 ≤ 23)) (f11 : taped_0 = x3) (f13 : 1 * x11 + (1 * cur_0 + 0) ≤ 2010) (f14 : (-1) * x11 + ((-1) * cur_0 + 0) ≤ (-2010)) (f15 : (x16 = 1) → (tokenKind_0 (cur_0) = 1)) (f16 : (x16 = 1) → ((fault_0 = 0) ∧ ((tokenKind_0 (cur_0) = 1) ∧ ((tokenEnd_0 (cur_0) = (tokenPlace_0 (cur_0) + 4)) ∧ (((tokenPlace_0 (cur_0) + 4) ≤ limit_0) ∧ (((tape_0 ((tokenPlace_0 (cur_0) + 0)) % 256) = 110) ∧ (((tape_0 ((tokenPlace_0 (cur_0) + 1)) % 256) = 111) ∧ (((tape_0 ((tokenPlace_0 (cur_0) + 2)) % 256) = 100) ∧ ((tape_0 ((tokenPlace_0 (cur_0) + 3)) % 256) = 101))))))))) (f17 : ((fault_0 = 0) ∧ ((tokenKind_0 (cur_0) = 1) ∧ ((tokenEnd_0 (cur_0) = (tokenPlace_0 (cur_0) + 4)) ∧ (((tokenPlace_0 (cur_0) + 4) ≤ limit_0) ∧ (((tape_0 ((tokenPlace_0 (cur_0) + 0)) % 256) = 110) ∧ (((tape_0 ((tokenPlace_0 (cur_0) + 1)) % 256) = 111) ∧ (((tape_0 ((tokenPlace_0 (cur_0) + 2)) % 256) = 100) ∧ ((tape_0 ((tokenPlace_0 (cur_0) + 3)) % 256) = 101)))))))) → (x16 = 1)) (f18 : Wqnode (fault_0) (cur_0) (limit_0) (tokenKind_0) (tokenPlace_0) (tokenEnd_0) (tape_0) (x16)) (f20 : x16 ≠ x17) (f21 : x8 = 0) (f22 : tokenKind_1 (cur_1) ≠ 0) (f23 : ((cur_1 + 1) ≤ tokens_1) ∧ ((tokens_1 ≤ 2010) ∧ ((tokenKind_1 ((tokens_1 - 1)) = 0) ∨ (tokenKind_1 ((tokens_1 - 1)) = 4)))) (f24 : 1 * opened_1 + 0 ≤ 0) (f25 : (-1) * opened_1 + 0 ≤ 0) (f26 : SOK (limit_1) (tokenKind_1) (tokenValue_1) (tokenPlace_1) (tokenEnd_1) (tape_1)) (f27 : fault_1 = 0) (f28 : SOC (fault_1) (cur_1) (limit_1) (tokenKind_1) (tokenValue_1) (tokenPlace_1) (tokenEnd_1) (tape_1)) (f29 : (x8 = 0) → (x9 ≤ 23)) (f30 : taped_1 = x3) (f31 : 1 * x11 + (1 * cur_1 + 0) ≤ 2010) (f32 : (-1) * x11 + ((-1) * cur_1 + 0) ≤ (-2010)) (f33 : (x16 = 1) → (tokenKind_1 (cur_1) = 1)) (f34 : (x16 = 1) → ((fault_1 = 0) ∧ ((tokenKind_1 (cur_1) = 1) ∧ ((tokenEnd_1 (cur_1) = (tokenPlace_1 (cur_1) + 4)) ∧ (((tokenPlace_1 (cur_1) + 4) ≤ limit_1) ∧ (((tape_1 ((tokenPlace_1 (cur_1) + 0)) % 256) = 110) ∧ (((tape_1 ((tokenPlace_1 (cur_1) + 1)) % 256) = 111) ∧ (((tape_1 ((tokenPlace_1 (cur_1) + 2)) % 256) = 100) ∧ ((tape_1 ((tokenPlace_1 (cur_1) + 3)) % 256) = 101))))))))) (f35 : ((fault_1 = 0) ∧ ((tokenKind_1 (cur_1) = 1) ∧ ((tokenEnd_1 (cur_1) = (tokenPlace_1 (cur_1) + 4)) ∧ (((tokenPlace_1 (cur_1) + 4) ≤ limit_1) ∧ (((tape_1 ((tokenPlace_1 (cur_1) + 0)) % 256) = 110) ∧ (((tape_1 ((tokenPlace_1 (cur_1) + 1)) % 256) = 111) ∧ (((tape_1 ((tokenPlace_1 (cur_1) + 2)) % 256) = 100) ∧ ((tape_1 ((tokenPlace_1 (cur_1) + 3)) % 256) = 101)))))))) → (x16 = 1)) (f36 : Wqnode (fault_1) (cur_1) (limit_1) (tokenKind_1) (tokenPlace_1) (tokenEnd_1) (tape_1) (x16)) (fe_0_0_1 : taped_0 = taped_1) (fe_0_8_1 : fault_0 = fault_1) (fe_0_10_1 : limit_0 = limit_1) (fe_0_157_1 : tokens_0 = tokens_1) (fe_0_158_1 : cur_0 = cur_1) (fe_0_159_1 : opened_0 = opened_1) (fe_0_165_1 : styleOne_0 = x18) (hE_0_1_1 : ∀ j : Int, tape_0 j = tape_1 j) (hK_0_1 : ∀ j : Int, 0 ≤ j → j < 2000 → (-128) ≤ tape_0 j ∧ tape_0 j ≤ 127) (hE_0_160_1 : ∀ j : Int, tokenKind_0 j = tokenKind_1 j) (hK_0_160 : ∀ j : Int, 0 ≤ j → j < 2010 → 0 ≤ tokenKind_0 j ∧ tokenKind_0 j ≤ 4) (hE_0_161_1 : ∀ j : Int, tokenValue_0 j = tokenValue_1 j) (hE_0_162_1 : ∀ j : Int, tokenPlace_0 j = tokenPlace_1 j) (hK_0_162 : ∀ j : Int, 0 ≤ j → j < 2010 → 0 ≤ tokenPlace_0 j ∧ tokenPlace_0 j ≤ 2000) (hE_0_163_1 : ∀ j : Int, tokenEnd_0 j = tokenEnd_1 j) (hK_0_163 : ∀ j : Int, 0 ≤ j → j < 2010 → 0 ≤ tokenEnd_0 j ∧ tokenEnd_0 j ≤ 2000) (kz_0_0 : 0 ≤ taped_0 ∧ taped_0 ≤ 2000) (kz_0_8 : 0 ≤ fault_0 ∧ fault_0 ≤ 5) (kz_0_10 : 0 ≤ limit_0 ∧ limit_0 ≤ 2000) (kz_0_157 : 0 ≤ tokens_0 ∧ tokens_0 ≤ 2010) (kz_0_158 : 0 ≤ cur_0 ∧ cur_0 ≤ 2009) (kz_0_159 : 0 ≤ opened_0 ∧ opened_0 ≤ 13) (kz_0_165 : (-1) ≤ styleOne_0 ∧ styleOne_0 ≤ 47) (ex2 : gx = cur_0) (ex3 : 0 ≤ gx ∧ gx ≤ 2009) : (-1) * x11 + ((-1) * gx + 0) ≤ (-2010) := by
  subst fe_0_0_1
  subst fe_0_8_1
  subst fe_0_10_1
  subst fe_0_157_1
  subst fe_0_158_1
  subst fe_0_159_1
  have e_hE_0_1_1 := funext hE_0_1_1; subst e_hE_0_1_1
  have e_hE_0_160_1 := funext hE_0_160_1; subst e_hE_0_160_1
  have e_hE_0_161_1 := funext hE_0_161_1; subst e_hE_0_161_1
  have e_hE_0_162_1 := funext hE_0_162_1; subst e_hE_0_162_1
  have e_hE_0_163_1 := funext hE_0_163_1; subst e_hE_0_163_1
  first | with_reducible assumption | ((have f4_c0 := f4.1); (have f4_c1 := f4.2.1); (have f4_c2 := f4.2.2); (have f23_c0 := f23.1); (have f23_c1 := f23.2.1); (have f23_c2 := f23.2.2); (try and_intros) <;> first | with_reducible assumption | (clear f4_c2 f4 f23_c2 f23 hE_0_1_1 hK_0_1 hE_0_160_1 hK_0_160 hE_0_161_1 hE_0_162_1 hK_0_162 hE_0_163_1 hK_0_163 f10 f15 f16 f17 f29 f33 f34 f35; omega)) | ((have f4_c0 := f4.1); (have f4_c1 := f4.2.1); (have f4_c2 := f4.2.2); (have f23_c0 := f23.1); (have f23_c1 := f23.2.1); (have f23_c2 := f23.2.2); (first | have f10_b := f10 (by clear f4_c2 f4 f23_c2 f23 hE_0_1_1 hK_0_1 hE_0_160_1 hK_0_160 hE_0_161_1 hE_0_162_1 hK_0_162 hE_0_163_1 hK_0_163 f10 f15 f16 f17 f29 f33 f34 f35; omega) | skip); (first | have f15_b := f15 (by clear f4_c2 f4 f23_c2 f23 hE_0_1_1 hK_0_1 hE_0_160_1 hK_0_160 hE_0_161_1 hE_0_162_1 hK_0_162 hE_0_163_1 hK_0_163 f10 f15 f16 f17 f29 f33 f34 f35; omega) | skip); (first | have f16_b := f16 (by clear f4_c2 f4 f23_c2 f23 hE_0_1_1 hK_0_1 hE_0_160_1 hK_0_160 hE_0_161_1 hE_0_162_1 hK_0_162 hE_0_163_1 hK_0_163 f10 f15 f16 f17 f29 f33 f34 f35; omega) | skip); (first | have f29_b := f29 (by clear f4_c2 f4 f23_c2 f23 hE_0_1_1 hK_0_1 hE_0_160_1 hK_0_160 hE_0_161_1 hE_0_162_1 hK_0_162 hE_0_163_1 hK_0_163 f10 f15 f16 f17 f29 f33 f34 f35; omega) | skip); (first | have f33_b := f33 (by clear f4_c2 f4 f23_c2 f23 hE_0_1_1 hK_0_1 hE_0_160_1 hK_0_160 hE_0_161_1 hE_0_162_1 hK_0_162 hE_0_163_1 hK_0_163 f10 f15 f16 f17 f29 f33 f34 f35; omega) | skip); (first | have f34_b := f34 (by clear f4_c2 f4 f23_c2 f23 hE_0_1_1 hK_0_1 hE_0_160_1 hK_0_160 hE_0_161_1 hE_0_162_1 hK_0_162 hE_0_163_1 hK_0_163 f10 f15 f16 f17 f29 f33 f34 f35; omega) | skip); (first | have f10_d := f10 (by with_reducible assumption) | skip); (first | have f15_d := f15 (by with_reducible assumption) | skip); (first | have f16_d := f16 (by with_reducible assumption) | skip); (first | have f17_d := f17 (by with_reducible assumption) | skip); (first | have f29_d := f29 (by with_reducible assumption) | skip); (first | have f33_d := f33 (by with_reducible assumption) | skip); (first | have f34_d := f34 (by with_reducible assumption) | skip); (first | have f35_d := f35 (by with_reducible assumption) | skip); (try and_intros) <;> first | with_reducible assumption | (clear f4_c2 f4 f23_c2 f23 hE_0_1_1 hK_0_1 hE_0_160_1 hK_0_160 hE_0_161_1 hE_0_162_1 hK_0_162 hE_0_163_1 hK_0_163 f10 f15 f16 f17 f29 f33 f34 f35; omega)) | ((have f4_c0 := f4.1); (have f4_c1 := f4.2.1); (have f4_c2 := f4.2.2); (have f23_c0 := f23.1); (have f23_c1 := f23.2.1); (have f23_c2 := f23.2.2); (first | have f10_b := f10 (by clear f4_c2 f4 f23_c2 f23 hE_0_1_1 hK_0_1 hE_0_160_1 hK_0_160 hE_0_161_1 hE_0_162_1 hK_0_162 hE_0_163_1 hK_0_163 f10 f15 f16 f17 f29 f33 f34 f35; omega) | skip); (first | have f15_b := f15 (by clear f4_c2 f4 f23_c2 f23 hE_0_1_1 hK_0_1 hE_0_160_1 hK_0_160 hE_0_161_1 hE_0_162_1 hK_0_162 hE_0_163_1 hK_0_163 f10 f15 f16 f17 f29 f33 f34 f35; omega) | skip); (first | have f16_b := f16 (by clear f4_c2 f4 f23_c2 f23 hE_0_1_1 hK_0_1 hE_0_160_1 hK_0_160 hE_0_161_1 hE_0_162_1 hK_0_162 hE_0_163_1 hK_0_163 f10 f15 f16 f17 f29 f33 f34 f35; omega) | skip); (first | have f29_b := f29 (by clear f4_c2 f4 f23_c2 f23 hE_0_1_1 hK_0_1 hE_0_160_1 hK_0_160 hE_0_161_1 hE_0_162_1 hK_0_162 hE_0_163_1 hK_0_163 f10 f15 f16 f17 f29 f33 f34 f35; omega) | skip); (first | have f33_b := f33 (by clear f4_c2 f4 f23_c2 f23 hE_0_1_1 hK_0_1 hE_0_160_1 hK_0_160 hE_0_161_1 hE_0_162_1 hK_0_162 hE_0_163_1 hK_0_163 f10 f15 f16 f17 f29 f33 f34 f35; omega) | skip); (first | have f34_b := f34 (by clear f4_c2 f4 f23_c2 f23 hE_0_1_1 hK_0_1 hE_0_160_1 hK_0_160 hE_0_161_1 hE_0_162_1 hK_0_162 hE_0_163_1 hK_0_163 f10 f15 f16 f17 f29 f33 f34 f35; omega) | skip); (first | have f10_d := f10 (by with_reducible assumption) | skip); (first | have f15_d := f15 (by with_reducible assumption) | skip); (first | have f16_d := f16 (by with_reducible assumption) | skip); (first | have f17_d := f17 (by with_reducible assumption) | skip); (first | have f29_d := f29 (by with_reducible assumption) | skip); (first | have f33_d := f33 (by with_reducible assumption) | skip); (first | have f34_d := f34 (by with_reducible assumption) | skip); (first | have f35_d := f35 (by with_reducible assumption) | skip); (first | have f4_q := tk_nx0 f4 (by clear f4_c2 f4 f23_c2 f23 hE_0_1_1 hK_0_1 hE_0_160_1 hK_0_160 hE_0_161_1 hE_0_162_1 hK_0_162 hE_0_163_1 hK_0_163 f10 f15 f16 f17 f29 f33 f34 f35; omega) | skip); (first | have f23_q := tk_nx0 f23 (by clear f4_c2 f4 f23_c2 f23 hE_0_1_1 hK_0_1 hE_0_160_1 hK_0_160 hE_0_161_1 hE_0_162_1 hK_0_162 hE_0_163_1 hK_0_163 f10 f15 f16 f17 f29 f33 f34 f35; omega) | skip); (try and_intros) <;> first | with_reducible assumption | (clear f4_c2 f4 f23_c2 f23 hE_0_1_1 hK_0_1 hE_0_160_1 hK_0_160 hE_0_161_1 hE_0_162_1 hK_0_162 hE_0_163_1 hK_0_163 f10 f15 f16 f17 f29 f33 f34 f35; omega)) | ((have f4_c0 := f4.1); (have f4_c1 := f4.2.1); (have f4_c2 := f4.2.2); (have f23_c0 := f23.1); (have f23_c1 := f23.2.1); (have f23_c2 := f23.2.2); (first | have f10_b := f10 (by clear f4_c2 f4 f23_c2 f23 hE_0_1_1 hK_0_1 hE_0_160_1 hK_0_160 hE_0_161_1 hE_0_162_1 hK_0_162 hE_0_163_1 hK_0_163 f10 f15 f16 f17 f29 f33 f34 f35; omega) | skip); (first | have f15_b := f15 (by clear f4_c2 f4 f23_c2 f23 hE_0_1_1 hK_0_1 hE_0_160_1 hK_0_160 hE_0_161_1 hE_0_162_1 hK_0_162 hE_0_163_1 hK_0_163 f10 f15 f16 f17 f29 f33 f34 f35; omega) | skip); (first | have f16_b := f16 (by clear f4_c2 f4 f23_c2 f23 hE_0_1_1 hK_0_1 hE_0_160_1 hK_0_160 hE_0_161_1 hE_0_162_1 hK_0_162 hE_0_163_1 hK_0_163 f10 f15 f16 f17 f29 f33 f34 f35; omega) | skip); (first | have f29_b := f29 (by clear f4_c2 f4 f23_c2 f23 hE_0_1_1 hK_0_1 hE_0_160_1 hK_0_160 hE_0_161_1 hE_0_162_1 hK_0_162 hE_0_163_1 hK_0_163 f10 f15 f16 f17 f29 f33 f34 f35; omega) | skip); (first | have f33_b := f33 (by clear f4_c2 f4 f23_c2 f23 hE_0_1_1 hK_0_1 hE_0_160_1 hK_0_160 hE_0_161_1 hE_0_162_1 hK_0_162 hE_0_163_1 hK_0_163 f10 f15 f16 f17 f29 f33 f34 f35; omega) | skip); (first | have f34_b := f34 (by clear f4_c2 f4 f23_c2 f23 hE_0_1_1 hK_0_1 hE_0_160_1 hK_0_160 hE_0_161_1 hE_0_162_1 hK_0_162 hE_0_163_1 hK_0_163 f10 f15 f16 f17 f29 f33 f34 f35; omega) | skip); (first | have f10_d := f10 (by with_reducible assumption) | skip); (first | have f15_d := f15 (by with_reducible assumption) | skip); (first | have f16_d := f16 (by with_reducible assumption) | skip); (first | have f17_d := f17 (by with_reducible assumption) | skip); (first | have f29_d := f29 (by with_reducible assumption) | skip); (first | have f33_d := f33 (by with_reducible assumption) | skip); (first | have f34_d := f34 (by with_reducible assumption) | skip); (first | have f35_d := f35 (by with_reducible assumption) | skip); (first | have f4_q := tk_nx0 f4 (by clear f4_c2 f4 f23_c2 f23 hE_0_1_1 hK_0_1 hE_0_160_1 hK_0_160 hE_0_161_1 hE_0_162_1 hK_0_162 hE_0_163_1 hK_0_163 f10 f15 f16 f17 f29 f33 f34 f35; omega) | skip); (first | have f23_q := tk_nx0 f23 (by clear f4_c2 f4 f23_c2 f23 hE_0_1_1 hK_0_1 hE_0_160_1 hK_0_160 hE_0_161_1 hE_0_162_1 hK_0_162 hE_0_163_1 hK_0_163 f10 f15 f16 f17 f29 f33 f34 f35; omega) | skip); (first | have f4_r0 := tk_nx1 (c := cur_0) f4.2 (by clear f4_c2 f4 f23_c2 f23 hE_0_1_1 hK_0_1 hE_0_160_1 hK_0_160 hE_0_161_1 hE_0_162_1 hK_0_162 hE_0_163_1 hK_0_163 f10 f15 f16 f17 f29 f33 f34 f35; omega) (by clear f4_c2 f4 f23_c2 f23 hE_0_1_1 hK_0_1 hE_0_160_1 hK_0_160 hE_0_161_1 hE_0_162_1 hK_0_162 hE_0_163_1 hK_0_163 f10 f15 f16 f17 f29 f33 f34 f35; omega) | skip); (first | have f4_r1 := tk_nx1 (c := cur_1) f4.2 (by clear f4_c2 f4 f23_c2 f23 hE_0_1_1 hK_0_1 hE_0_160_1 hK_0_160 hE_0_161_1 hE_0_162_1 hK_0_162 hE_0_163_1 hK_0_163 f10 f15 f16 f17 f29 f33 f34 f35; omega) (by clear f4_c2 f4 f23_c2 f23 hE_0_1_1 hK_0_1 hE_0_160_1 hK_0_160 hE_0_161_1 hE_0_162_1 hK_0_162 hE_0_163_1 hK_0_163 f10 f15 f16 f17 f29 f33 f34 f35; omega) | skip); (first | have f23_r0 := tk_nx1 (c := cur_0) f23.2 (by clear f4_c2 f4 f23_c2 f23 hE_0_1_1 hK_0_1 hE_0_160_1 hK_0_160 hE_0_161_1 hE_0_162_1 hK_0_162 hE_0_163_1 hK_0_163 f10 f15 f16 f17 f29 f33 f34 f35; omega) (by clear f4_c2 f4 f23_c2 f23 hE_0_1_1 hK_0_1 hE_0_160_1 hK_0_160 hE_0_161_1 hE_0_162_1 hK_0_162 hE_0_163_1 hK_0_163 f10 f15 f16 f17 f29 f33 f34 f35; omega) | skip); (first | have f23_r1 := tk_nx1 (c := cur_1) f23.2 (by clear f4_c2 f4 f23_c2 f23 hE_0_1_1 hK_0_1 hE_0_160_1 hK_0_160 hE_0_161_1 hE_0_162_1 hK_0_162 hE_0_163_1 hK_0_163 f10 f15 f16 f17 f29 f33 f34 f35; omega) (by clear f4_c2 f4 f23_c2 f23 hE_0_1_1 hK_0_1 hE_0_160_1 hK_0_160 hE_0_161_1 hE_0_162_1 hK_0_162 hE_0_163_1 hK_0_163 f10 f15 f16 f17 f29 f33 f34 f35; omega) | skip); (try and_intros) <;> first | with_reducible assumption | (clear f4_c2 f4 f23_c2 f23 hE_0_1_1 hK_0_1 hE_0_160_1 hK_0_160 hE_0_161_1 hE_0_162_1 hK_0_162 hE_0_163_1 hK_0_163 f10 f15 f16 f17 f29 f33 f34 f35; omega)) | omega
def o_Mo_style_21 : or_T := (223, 19, [(0, (2, 0, 0, [165])), (3, (0, 0, 2000, [])), (4, (2, 0, 0, [165])), (8, (0, 0, 0, [])), (9, (0, 0, 47, [])), (11, (0, 0, 2010, [])), (12, (2, 0, 0, [274])), (13, (0, 0, 2009, [])), (16, (0, 0, 0, [])), (17, (0, 1, 1, [])), (18, (0, -1, -1, []))], [(9, [18, 4], [165]), (9, [13, 4], [158]), (9, [12, 4], [160]), (20, [4], [50, 1, 1, 158, 160, 7, 6, 3, 0, 160, 2, 0, 158, 0, 0]), (20, [4], [50, 2, 1, 158, 157, 160, 2, 12, 0, 7, 4, 3, 2, 0, 158, 0, 1, 2, 0, 157, 2, 7, 0, 3, 2, 0, 157, 0, 2010, 3, 14, 1, 10, 3, 0, 160, 5, 3, 2, 0, 157, 0, 1, 0, 0, 1, 10, 3, 0, 160, 5, 3, 2, 0, 157, 0, 1, 0, 4]), (20, [4], [30, 0, 1, 1, 159]), (20, [4], [30, 0, -1, 1, 159]), (20, [4], [60, 1, 5, 74, 10, 160, 161, 162, 163, 1]), (20, [4], [50, 1, 0, 8, 1, 3, 2, 0, 8, 0, 0]), (20, [4], [60, 3, 5, 71, 8, 158, 10, 160, 161, 162, 163, 1]), (20, [8, 9], [50, 0, 0, 4, 6, 1, 2, 1, 0, 0, 0, 0, 2, 1, 1, 0, 23]), (20, [4, 3], [50, 1, 0, 0, 1, 3, 2, 0, 0, 1, 1]), (24, [0, 4], []), (20, [11, 4], [30, 2010, 1, 0, 0, 1, 1, 158]), (20, [11, 4], [30, -2010, -1, 0, 0, -1, 1, 158]), (20, [16, 4], [50, 1, 1, 1158, 1160, 4, 6, 1, 2, 1, 0, 0, 1, 1, 6, 3, 1, 160, 2, 1, 158, 0, 1]), (20, [16, 4], [50, 3, 4, 1008, 1158, 1010, 1160, 1163, 1162, 1001, 4, 6, 1, 2, 1, 0, 0, 1, 2, 7, 1, 3, 2, 1, 8, 0, 0, 2, 10, 1, 6, 3, 1, 160, 2, 1, 158, 0, 1, 2, 18, 1, 6, 3, 1, 163, 2, 1, 158, 4, 6, 3, 1, 162, 2, 1, 158, 0, 4, 2, 15, 0, 10, 4, 6, 3, 1, 162, 2, 1, 158, 0, 4, 2, 1, 10, 2, 21, 1, 17, 9, 13, 3, 1, 1, 4, 6, 3, 1, 162, 2, 1, 158, 0, 0, 0, 256, 0, 110, 2, 21, 1, 17, 9, 13, 3, 1, 1, 4, 6, 3, 1, 162, 2, 1, 158, 0, 1, 0, 256, 0, 111, 2, 21, 1, 17, 9, 13, 3, 1, 1, 4, 6, 3, 1, 162, 2, 1, 158, 0, 2, 0, 256, 0, 100, 1, 17, 9, 13, 3, 1, 1, 4, 6, 3, 1, 162, 2, 1, 158, 0, 3, 0, 256, 0, 101]), (20, [4, 16], [50, 3, 4, 8, 158, 10, 160, 163, 162, 1, 4, 148, 2, 7, 1, 3, 2, 0, 8, 0, 0, 2, 10, 1, 6, 3, 0, 160, 2, 0, 158, 0, 1, 2, 18, 1, 6, 3, 0, 163, 2, 0, 158, 4, 6, 3, 0, 162, 2, 0, 158, 0, 4, 2, 15, 0, 10, 4, 6, 3, 0, 162, 2, 0, 158, 0, 4, 2, 0, 10, 2, 21, 1, 17, 9, 13, 3, 0, 1, 4, 6, 3, 0, 162, 2, 0, 158, 0, 0, 0, 256, 0, 110, 2, 21, 1, 17, 9, 13, 3, 0, 1, 4, 6, 3, 0, 162, 2, 0, 158, 0, 1, 0, 256, 0, 111, 2, 21, 1, 17, 9, 13, 3, 0, 1, 4, 6, 3, 0, 162, 2, 0, 158, 0, 2, 0, 256, 0, 100, 1, 17, 9, 13, 3, 0, 1, 4, 6, 3, 0, 162, 2, 0, 158, 0, 3, 0, 256, 0, 101, 1, 2, 1, 1, 0, 1]), (20, [4, 16], [60, 3, 4, 19, 8, 158, 10, 160, 162, 163, 1]), (101, [4, 18], [165]), (7, [16, 17], [1]), (8, [8], [0]), (20, [4], [50, 1, 1, 158, 160, 7, 6, 3, 0, 160, 2, 0, 158, 0, 0]), (20, [4], [50, 2, 1, 158, 157, 160, 2, 12, 0, 7, 4, 3, 2, 0, 158, 0, 1, 2, 0, 157, 2, 7, 0, 3, 2, 0, 157, 0, 2010, 3, 14, 1, 10, 3, 0, 160, 5, 3, 2, 0, 157, 0, 1, 0, 0, 1, 10, 3, 0, 160, 5, 3, 2, 0, 157, 0, 1, 0, 4]), (20, [4], [30, 0, 1, 1, 159]), (20, [4], [30, 0, -1, 1, 159]), (20, [4], [60, 1, 5, 74, 10, 160, 161, 162, 163, 1]), (20, [4], [50, 1, 0, 8, 1, 3, 2, 0, 8, 0, 0]), (20, [4], [60, 3, 5, 71, 8, 158, 10, 160, 161, 162, 163, 1]), (20, [8, 9], [50, 0, 0, 4, 6, 1, 2, 1, 0, 0, 0, 0, 2, 1, 1, 0, 23]), (20, [4, 3], [50, 1, 0, 0, 1, 3, 2, 0, 0, 1, 1]), (20, [11, 4], [30, 2010, 1, 0, 0, 1, 1, 158]), (20, [11, 4], [30, -2010, -1, 0, 0, -1, 1, 158]), (20, [16, 4], [50, 1, 1, 1158, 1160, 4, 6, 1, 2, 1, 0, 0, 1, 1, 6, 3, 1, 160, 2, 1, 158, 0, 1]), (20, [16, 4], [50, 3, 4, 1008, 1158, 1010, 1160, 1163, 1162, 1001, 4, 6, 1, 2, 1, 0, 0, 1, 2, 7, 1, 3, 2, 1, 8, 0, 0, 2, 10, 1, 6, 3, 1, 160, 2, 1, 158, 0, 1, 2, 18, 1, 6, 3, 1, 163, 2, 1, 158, 4, 6, 3, 1, 162, 2, 1, 158, 0, 4, 2, 15, 0, 10, 4, 6, 3, 1, 162, 2, 1, 158, 0, 4, 2, 1, 10, 2, 21, 1, 17, 9, 13, 3, 1, 1, 4, 6, 3, 1, 162, 2, 1, 158, 0, 0, 0, 256, 0, 110, 2, 21, 1, 17, 9, 13, 3, 1, 1, 4, 6, 3, 1, 162, 2, 1, 158, 0, 1, 0, 256, 0, 111, 2, 21, 1, 17, 9, 13, 3, 1, 1, 4, 6, 3, 1, 162, 2, 1, 158, 0, 2, 0, 256, 0, 100, 1, 17, 9, 13, 3, 1, 1, 4, 6, 3, 1, 162, 2, 1, 158, 0, 3, 0, 256, 0, 101]), (20, [4, 16], [50, 3, 4, 8, 158, 10, 160, 163, 162, 1, 4, 148, 2, 7, 1, 3, 2, 0, 8, 0, 0, 2, 10, 1, 6, 3, 0, 160, 2, 0, 158, 0, 1, 2, 18, 1, 6, 3, 0, 163, 2, 0, 158, 4, 6, 3, 0, 162, 2, 0, 158, 0, 4, 2, 15, 0, 10, 4, 6, 3, 0, 162, 2, 0, 158, 0, 4, 2, 0, 10, 2, 21, 1, 17, 9, 13, 3, 0, 1, 4, 6, 3, 0, 162, 2, 0, 158, 0, 0, 0, 256, 0, 110, 2, 21, 1, 17, 9, 13, 3, 0, 1, 4, 6, 3, 0, 162, 2, 0, 158, 0, 1, 0, 256, 0, 111, 2, 21, 1, 17, 9, 13, 3, 0, 1, 4, 6, 3, 0, 162, 2, 0, 158, 0, 2, 0, 256, 0, 100, 1, 17, 9, 13, 3, 0, 1, 4, 6, 3, 0, 162, 2, 0, 158, 0, 3, 0, 256, 0, 101, 1, 2, 1, 1, 0, 1]), (20, [4, 16], [60, 3, 4, 19, 8, 158, 10, 160, 162, 163, 1])], [], [(0, 0, 2009, [])], [(20, [4], [50, 2, 1, 158, 157, 160, 2, 12, 0, 7, 4, 3, 2, 0, 158, 0, 1, 2, 0, 157, 2, 7, 0, 3, 2, 0, 157, 0, 2010, 3, 14, 1, 10, 3, 0, 160, 5, 3, 2, 0, 157, 0, 1, 0, 0, 1, 10, 3, 0, 160, 5, 3, 2, 0, 157, 0, 1, 0, 4]), (20, [4, 19], [30, 0, 1, 1, 158, -1, 0, 0]), (20, [4, 19], [30, 0, -1, 1, 158, 1, 0, 0]), (20, [4], [50, 4, 4, 8, 158, 10, 165, 160, 163, 162, 1, 4, 148, 2, 7, 1, 3, 2, 0, 8, 0, 0, 2, 10, 1, 6, 3, 0, 160, 2, 0, 158, 0, 1, 2, 18, 1, 6, 3, 0, 163, 2, 0, 158, 4, 6, 3, 0, 162, 2, 0, 158, 0, 4, 2, 15, 0, 10, 4, 6, 3, 0, 162, 2, 0, 158, 0, 4, 2, 0, 10, 2, 21, 1, 17, 9, 13, 3, 0, 1, 4, 6, 3, 0, 162, 2, 0, 158, 0, 0, 0, 256, 0, 110, 2, 21, 1, 17, 9, 13, 3, 0, 1, 4, 6, 3, 0, 162, 2, 0, 158, 0, 1, 0, 256, 0, 111, 2, 21, 1, 17, 9, 13, 3, 0, 1, 4, 6, 3, 0, 162, 2, 0, 158, 0, 2, 0, 256, 0, 100, 1, 17, 9, 13, 3, 0, 1, 4, 6, 3, 0, 162, 2, 0, 158, 0, 3, 0, 256, 0, 101, 0, 3, 2, 0, 165, 0, 23]), (20, [4], [30, 0, 1, 1, 159]), (20, [4], [30, 0, -1, 1, 159]), (20, [4], [50, 1, 0, 8, 1, 3, 2, 0, 8, 0, 0]), (20, [4, 19], [60, 1, 5, 73, 10, 160, 161, 162, 163, 1]), (23, [11, 19], [-2010, -1, -1])], [], [])
theorem oo_Mo_style_21 {kA : Nat → ClassId} : or_ok PRD kA GG o_Mo_style_21 := by
  refine or_mk fun A ta ws vs hD hth hl => ?_
  intro t0 r0 t3 k3 t4 r4 t8 k8 t9 k9 t11 k11 t12 r12 t13 k13 t16 k16 t17 k17 t18 k18 f0 f1 f2 f3 f4 f5 f6 f7 f8 f9 f10 f11 f12 f13 f14 f15 f16 f17 f18 ta1 w1 le1 s1 f20 f21 f22 f23 f24 f25 f26 f27 f28 f29 f30 f31 f32 f33 f34 f35 f36
  replace f0 := shm_195 f0
  replace f1 := shm_286 f1
  replace f3 := shm_310 f3
  replace f4 := shm_271 f4
  replace f5 := shm_1029 f5
  replace f6 := shm_1030 f6
  replace f7 := shm_2306 f7
  replace f8 := shm_2156 f8
  replace f9 := shm_2311 f9
  replace f10 := shm_2312 f10
  replace f11 := shm_570 f11
  replace f12 := shm_5 f12
  replace f13 := shm_284 f13
  replace f14 := shm_285 f14
  replace f15 := shm_287 f15
  replace f16 := shm_1861 f16
  replace f17 := shm_1862 f17
  replace f18 := shm_1863 f18
  have s1 : (∀ b j, w_el ws b j = w_el w1 b j) ∧ ∀ b j, w_fd ws b j = if b = v_ad (n_v vs 4) ∧ j = 165 then n_v vs 18 else w_fd w1 b j := s1.2
  replace f20 := shm_40 f20
  replace f21 := shm_192 f21
  replace f22 := shm_310 f22
  replace f23 := shm_271 f23
  replace f24 := shm_1029 f24
  replace f25 := shm_1030 f25
  replace f26 := shm_2306 f26
  replace f27 := shm_2156 f27
  replace f28 := shm_2311 f28
  replace f29 := shm_2312 f29
  replace f30 := shm_570 f30
  replace f31 := shm_284 f31
  replace f32 := shm_285 f32
  replace f33 := shm_287 f33
  replace f34 := shm_1861 f34
  replace f35 := shm_1862 f35
  replace f36 := shm_1863 f36
  have q4 : n_v vs 4 = n_v vs 0 := f12.symm
  simp only [q4] at f0 f1 f3 f4 f5 f6 f7 f8 f9 f11 f13 f14 f15 f16 f17 f18
  rw [q4] at s1
  simp only [q4] at f22 f23 f24 f25 f26 f27 f28 f30 f31 f32 f33 f34 f35 f36
  have ar_0_1_1 : w_ar w1 (n_v vs 0) 1 = w_ar ws (n_v vs 0) 1 := by show v_ad (w_fd w1 _ _) = v_ad (w_fd ws _ _); rw [s1.2, if_neg (fun e => absurd e.2 (by decide))]
  have cr_0_1 := fdq_39 hD hth r0
  have ar_0_160_1 : w_ar w1 (n_v vs 0) 160 = w_ar ws (n_v vs 0) 160 := by show v_ad (w_fd w1 _ _) = v_ad (w_fd ws _ _); rw [s1.2, if_neg (fun e => absurd e.2 (by decide))]
  have cr_0_160 := fdq_33 hD hth r0
  have ar_0_161_1 : w_ar w1 (n_v vs 0) 161 = w_ar ws (n_v vs 0) 161 := by show v_ad (w_fd w1 _ _) = v_ad (w_fd ws _ _); rw [s1.2, if_neg (fun e => absurd e.2 (by decide))]
  have ar_0_162_1 : w_ar w1 (n_v vs 0) 162 = w_ar ws (n_v vs 0) 162 := by show v_ad (w_fd w1 _ _) = v_ad (w_fd ws _ _); rw [s1.2, if_neg (fun e => absurd e.2 (by decide))]
  have cr_0_162 := fdq_41 hD hth r0
  have ar_0_163_1 : w_ar w1 (n_v vs 0) 163 = w_ar ws (n_v vs 0) 163 := by show v_ad (w_fd w1 _ _) = v_ad (w_fd ws _ _); rw [s1.2, if_neg (fun e => absurd e.2 (by decide))]
  have cr_0_163 := fdq_42 hD hth r0
  have g0 : v_iv (n_v vs 18) = w_fi ws (n_v vs 0) 165 := congrArg v_iv f0
  have g1 : v_iv (n_v vs 13) = w_fi ws (n_v vs 0) 158 := congrArg v_iv f1
  simp only [ar_0_160_1, ar_0_1_1, ar_0_161_1, ar_0_162_1, ar_0_163_1] at f22 f23 f26 f28 f33 f34 f35 f36
  have fe_0_0_1 : w_fi ws (n_v vs 0) 0 = w_fi w1 (n_v vs 0) 0 := by show v_iv (w_fd _ _ _) = v_iv (w_fd _ _ _); rw [s1.2, if_neg (fun e => absurd e.2 (by decide))]
  have fe_0_8_1 : w_fi ws (n_v vs 0) 8 = w_fi w1 (n_v vs 0) 8 := by show v_iv (w_fd _ _ _) = v_iv (w_fd _ _ _); rw [s1.2, if_neg (fun e => absurd e.2 (by decide))]
  have fe_0_10_1 : w_fi ws (n_v vs 0) 10 = w_fi w1 (n_v vs 0) 10 := by show v_iv (w_fd _ _ _) = v_iv (w_fd _ _ _); rw [s1.2, if_neg (fun e => absurd e.2 (by decide))]
  have fe_0_157_1 : w_fi ws (n_v vs 0) 157 = w_fi w1 (n_v vs 0) 157 := by show v_iv (w_fd _ _ _) = v_iv (w_fd _ _ _); rw [s1.2, if_neg (fun e => absurd e.2 (by decide))]
  have fe_0_158_1 : w_fi ws (n_v vs 0) 158 = w_fi w1 (n_v vs 0) 158 := by show v_iv (w_fd _ _ _) = v_iv (w_fd _ _ _); rw [s1.2, if_neg (fun e => absurd e.2 (by decide))]
  have fe_0_159_1 : w_fi ws (n_v vs 0) 159 = w_fi w1 (n_v vs 0) 159 := by show v_iv (w_fd _ _ _) = v_iv (w_fd _ _ _); rw [s1.2, if_neg (fun e => absurd e.2 (by decide))]
  have fe_0_165_1 : w_fi ws (n_v vs 0) 165 = v_iv (n_v vs 18) := by show v_iv (w_fd _ _ _) = _; rw [s1.2, if_pos ⟨rfl, rfl⟩]
  have hE_0_1_1 : ∀ j : Int, w_ei ws (w_ar ws (n_v vs 0) 1) j = w_ei w1 (w_ar ws (n_v vs 0) 1) j := fun j => s1.1 _ _
  have hK_0_1 := elq_7 hD hth cr_0_1
  have hE_0_160_1 : ∀ j : Int, w_ei ws (w_ar ws (n_v vs 0) 160) j = w_ei w1 (w_ar ws (n_v vs 0) 160) j := fun j => s1.1 _ _
  have hK_0_160 := elq_6 hD hth cr_0_160
  have hE_0_161_1 : ∀ j : Int, w_ei ws (w_ar ws (n_v vs 0) 161) j = w_ei w1 (w_ar ws (n_v vs 0) 161) j := fun j => s1.1 _ _
  have hE_0_162_1 : ∀ j : Int, w_ei ws (w_ar ws (n_v vs 0) 162) j = w_ei w1 (w_ar ws (n_v vs 0) 162) j := fun j => s1.1 _ _
  have hK_0_162 := elq_8 hD hth cr_0_162
  have hE_0_163_1 : ∀ j : Int, w_ei ws (w_ar ws (n_v vs 0) 163) j = w_ei w1 (w_ar ws (n_v vs 0) 163) j := fun j => s1.1 _ _
  have hK_0_163 := elq_9 hD hth cr_0_163
  have kz_0_0 := fdq_148 hD hth r0
  have kz_0_8 := fdq_34 hD hth r0
  have kz_0_10 := fdq_43 hD hth r0
  have kz_0_157 := fdq_35 hD hth r0
  have kz_0_158 := fdq_36 hD hth r0
  have kz_0_159 := fdq_37 hD hth r0
  have kz_0_165 := fdq_27 hD hth r0
  obtain ⟨x, ex, hx⟩ := iv_ex (ta := ta) (lo := 0) (hi := 2009) (z := w_fi ws (n_v vs 0) 158) (by omega) (by omega) (by omega) (by omega)
  have ex2 : v_iv (Value.int x) = w_fi ws (n_v vs 0) 158 := ex
  have ex3 : 0 ≤ v_iv (Value.int x) ∧ v_iv (Value.int x) ≤ 2009 := tv_rng hx
  have e_4 : n_v (vs ++ [Value.int x]) 4 = n_v vs 4 := n_v_old (by rw [hl]; decide)
  have e_11 : n_v (vs ++ [Value.int x]) 11 = n_v vs 11 := n_v_old (by rw [hl]; decide)
  have e_19 : n_v (vs ++ [Value.int x]) 19 = Value.int x := n_v_new hl
  have nf0 : fc_1 PRD (20, [4], [50, 2, 1, 158, 157, 160, 2, 12, 0, 7, 4, 3, 2, 0, 158, 0, 1, 2, 0, 157, 2, 7, 0, 3, 2, 0, 157, 0, 2010, 3, 14, 1, 10, 3, 0, 160, 5, 3, 2, 0, 157, 0, 1, 0, 0, 1, 10, 3, 0, 160, 5, 3, 2, 0, 157, 0, 1, 0, 4]) ws (vs ++ [Value.int x]) := by
    refine ⟨nf_inA hl rfl, sgq_271 ?_⟩
    · show ((w_fi ws (n_v (vs ++ [Value.int x]) 4) 158 + 1) ≤ w_fi ws (n_v (vs ++ [Value.int x]) 4) 157) ∧ ((w_fi ws (n_v (vs ++ [Value.int x]) 4) 157 ≤ 2010) ∧ ((w_ei ws (w_ar ws (n_v (vs ++ [Value.int x]) 4) 160) ((w_fi ws (n_v (vs ++ [Value.int x]) 4) 157 - 1)) = 0) ∨ (w_ei ws (w_ar ws (n_v (vs ++ [Value.int x]) 4) 160) ((w_fi ws (n_v (vs ++ [Value.int x]) 4) 157 - 1)) = 4)))
      simp only [e_4, q4]
      exact vc_Mo_style_21_0 (v_iv (n_v vs 3)) (v_iv (n_v vs 8)) (v_iv (n_v vs 9)) (v_iv (n_v vs 11)) (v_iv (n_v vs 13)) (v_iv (n_v vs 16)) (v_iv (n_v vs 17)) (v_iv (n_v vs 18)) (w_fi ws (n_v vs 0) 165) (w_fi ws (n_v vs 0) 158) (w_ei ws (w_ar ws (n_v vs 0) 160)) (w_fi ws (n_v vs 0) 157) (w_fi ws (n_v vs 0) 159) (w_ei ws (w_ar ws (n_v vs 0) 161)) (w_ei ws (w_ar ws (n_v vs 0) 162)) (w_ei ws (w_ar ws (n_v vs 0) 163)) (w_ei ws (w_ar ws (n_v vs 0) 1)) (w_fi ws (n_v vs 0) 10) (w_fi ws (n_v vs 0) 8) (w_fi ws (n_v vs 0) 0) (w_ei w1 (w_ar ws (n_v vs 0) 160)) (w_fi w1 (n_v vs 0) 158) (w_fi w1 (n_v vs 0) 157) (w_fi w1 (n_v vs 0) 159) (w_ei w1 (w_ar ws (n_v vs 0) 161)) (w_ei w1 (w_ar ws (n_v vs 0) 162)) (w_ei w1 (w_ar ws (n_v vs 0) 163)) (w_ei w1 (w_ar ws (n_v vs 0) 1)) (w_fi w1 (n_v vs 0) 10) (w_fi w1 (n_v vs 0) 8) (w_fi w1 (n_v vs 0) 0) (v_iv (Value.int x)) k3 k8 k9 k11 k13 k16 k17 k18 g0 g1 f3 f4 f5 f6 f7 f8 f9 f10 f11 f13 f14 f15 f16 f17 f18 f20 f21 f22 f23 f24 f25 f26 f27 f28 f29 f30 f31 f32 f33 f34 f35 f36 fe_0_0_1 fe_0_8_1 fe_0_10_1 fe_0_157_1 fe_0_158_1 fe_0_159_1 fe_0_165_1 hE_0_1_1 hK_0_1 hE_0_160_1 hK_0_160 hE_0_161_1 hE_0_162_1 hK_0_162 hE_0_163_1 hK_0_163 kz_0_0 kz_0_8 kz_0_10 kz_0_157 kz_0_158 kz_0_159 kz_0_165 ex2 ex3
  have nf1 : fc_1 PRD (20, [4, 19], [30, 0, 1, 1, 158, -1, 0, 0]) ws (vs ++ [Value.int x]) := by
    refine ⟨nf_inA hl rfl, sgq_272 ?_⟩
    · show 1 * w_fi ws (n_v (vs ++ [Value.int x]) 4) 158 + ((-1) * v_iv (n_v (vs ++ [Value.int x]) 19) + 0) ≤ 0
      simp only [e_4, e_19, q4]
      exact vc_Mo_style_21_1 (v_iv (n_v vs 3)) (v_iv (n_v vs 8)) (v_iv (n_v vs 9)) (v_iv (n_v vs 11)) (v_iv (n_v vs 13)) (v_iv (n_v vs 16)) (v_iv (n_v vs 17)) (v_iv (n_v vs 18)) (w_fi ws (n_v vs 0) 165) (w_fi ws (n_v vs 0) 158) (w_ei ws (w_ar ws (n_v vs 0) 160)) (w_fi ws (n_v vs 0) 157) (w_fi ws (n_v vs 0) 159) (w_ei ws (w_ar ws (n_v vs 0) 161)) (w_ei ws (w_ar ws (n_v vs 0) 162)) (w_ei ws (w_ar ws (n_v vs 0) 163)) (w_ei ws (w_ar ws (n_v vs 0) 1)) (w_fi ws (n_v vs 0) 10) (w_fi ws (n_v vs 0) 8) (w_fi ws (n_v vs 0) 0) (w_ei w1 (w_ar ws (n_v vs 0) 160)) (w_fi w1 (n_v vs 0) 158) (w_fi w1 (n_v vs 0) 157) (w_fi w1 (n_v vs 0) 159) (w_ei w1 (w_ar ws (n_v vs 0) 161)) (w_ei w1 (w_ar ws (n_v vs 0) 162)) (w_ei w1 (w_ar ws (n_v vs 0) 163)) (w_ei w1 (w_ar ws (n_v vs 0) 1)) (w_fi w1 (n_v vs 0) 10) (w_fi w1 (n_v vs 0) 8) (w_fi w1 (n_v vs 0) 0) (v_iv (Value.int x)) k3 k8 k9 k11 k13 k16 k17 k18 g0 g1 f3 f4 f5 f6 f7 f8 f9 f10 f11 f13 f14 f15 f16 f17 f18 f20 f21 f22 f23 f24 f25 f26 f27 f28 f29 f30 f31 f32 f33 f34 f35 f36 fe_0_0_1 fe_0_8_1 fe_0_10_1 fe_0_157_1 fe_0_158_1 fe_0_159_1 fe_0_165_1 hE_0_1_1 hK_0_1 hE_0_160_1 hK_0_160 hE_0_161_1 hE_0_162_1 hK_0_162 hE_0_163_1 hK_0_163 kz_0_0 kz_0_8 kz_0_10 kz_0_157 kz_0_158 kz_0_159 kz_0_165 ex2 ex3
  have nf2 : fc_1 PRD (20, [4, 19], [30, 0, -1, 1, 158, 1, 0, 0]) ws (vs ++ [Value.int x]) := by
    refine ⟨nf_inA hl rfl, sgq_273 ?_⟩
    · show (-1) * w_fi ws (n_v (vs ++ [Value.int x]) 4) 158 + (1 * v_iv (n_v (vs ++ [Value.int x]) 19) + 0) ≤ 0
      simp only [e_4, e_19, q4]
      exact vc_Mo_style_21_2 (v_iv (n_v vs 3)) (v_iv (n_v vs 8)) (v_iv (n_v vs 9)) (v_iv (n_v vs 11)) (v_iv (n_v vs 13)) (v_iv (n_v vs 16)) (v_iv (n_v vs 17)) (v_iv (n_v vs 18)) (w_fi ws (n_v vs 0) 165) (w_fi ws (n_v vs 0) 158) (w_ei ws (w_ar ws (n_v vs 0) 160)) (w_fi ws (n_v vs 0) 157) (w_fi ws (n_v vs 0) 159) (w_ei ws (w_ar ws (n_v vs 0) 161)) (w_ei ws (w_ar ws (n_v vs 0) 162)) (w_ei ws (w_ar ws (n_v vs 0) 163)) (w_ei ws (w_ar ws (n_v vs 0) 1)) (w_fi ws (n_v vs 0) 10) (w_fi ws (n_v vs 0) 8) (w_fi ws (n_v vs 0) 0) (w_ei w1 (w_ar ws (n_v vs 0) 160)) (w_fi w1 (n_v vs 0) 158) (w_fi w1 (n_v vs 0) 157) (w_fi w1 (n_v vs 0) 159) (w_ei w1 (w_ar ws (n_v vs 0) 161)) (w_ei w1 (w_ar ws (n_v vs 0) 162)) (w_ei w1 (w_ar ws (n_v vs 0) 163)) (w_ei w1 (w_ar ws (n_v vs 0) 1)) (w_fi w1 (n_v vs 0) 10) (w_fi w1 (n_v vs 0) 8) (w_fi w1 (n_v vs 0) 0) (v_iv (Value.int x)) k3 k8 k9 k11 k13 k16 k17 k18 g0 g1 f3 f4 f5 f6 f7 f8 f9 f10 f11 f13 f14 f15 f16 f17 f18 f20 f21 f22 f23 f24 f25 f26 f27 f28 f29 f30 f31 f32 f33 f34 f35 f36 fe_0_0_1 fe_0_8_1 fe_0_10_1 fe_0_157_1 fe_0_158_1 fe_0_159_1 fe_0_165_1 hE_0_1_1 hK_0_1 hE_0_160_1 hK_0_160 hE_0_161_1 hE_0_162_1 hK_0_162 hE_0_163_1 hK_0_163 kz_0_0 kz_0_8 kz_0_10 kz_0_157 kz_0_158 kz_0_159 kz_0_165 ex2 ex3
  have nf3 : fc_1 PRD (20, [4], [50, 4, 4, 8, 158, 10, 165, 160, 163, 162, 1, 4, 148, 2, 7, 1, 3, 2, 0, 8, 0, 0, 2, 10, 1, 6, 3, 0, 160, 2, 0, 158, 0, 1, 2, 18, 1, 6, 3, 0, 163, 2, 0, 158, 4, 6, 3, 0, 162, 2, 0, 158, 0, 4, 2, 15, 0, 10, 4, 6, 3, 0, 162, 2, 0, 158, 0, 4, 2, 0, 10, 2, 21, 1, 17, 9, 13, 3, 0, 1, 4, 6, 3, 0, 162, 2, 0, 158, 0, 0, 0, 256, 0, 110, 2, 21, 1, 17, 9, 13, 3, 0, 1, 4, 6, 3, 0, 162, 2, 0, 158, 0, 1, 0, 256, 0, 111, 2, 21, 1, 17, 9, 13, 3, 0, 1, 4, 6, 3, 0, 162, 2, 0, 158, 0, 2, 0, 256, 0, 100, 1, 17, 9, 13, 3, 0, 1, 4, 6, 3, 0, 162, 2, 0, 158, 0, 3, 0, 256, 0, 101, 0, 3, 2, 0, 165, 0, 23]) ws (vs ++ [Value.int x]) := by
    refine ⟨nf_inA hl rfl, sgq_2259 ?_⟩
    · show ((w_fi ws (n_v (vs ++ [Value.int x]) 4) 8 = 0) ∧ ((w_ei ws (w_ar ws (n_v (vs ++ [Value.int x]) 4) 160) (w_fi ws (n_v (vs ++ [Value.int x]) 4) 158) = 1) ∧ ((w_ei ws (w_ar ws (n_v (vs ++ [Value.int x]) 4) 163) (w_fi ws (n_v (vs ++ [Value.int x]) 4) 158) = (w_ei ws (w_ar ws (n_v (vs ++ [Value.int x]) 4) 162) (w_fi ws (n_v (vs ++ [Value.int x]) 4) 158) + 4)) ∧ (((w_ei ws (w_ar ws (n_v (vs ++ [Value.int x]) 4) 162) (w_fi ws (n_v (vs ++ [Value.int x]) 4) 158) + 4) ≤ w_fi ws (n_v (vs ++ [Value.int x]) 4) 10) ∧ (((w_ei ws (w_ar ws (n_v (vs ++ [Value.int x]) 4) 1) ((w_ei ws (w_ar ws (n_v (vs ++ [Value.int x]) 4) 162) (w_fi ws (n_v (vs ++ [Value.int x]) 4) 158) + 0)) % 256) = 110) ∧ (((w_ei ws (w_ar ws (n_v (vs ++ [Value.int x]) 4) 1) ((w_ei ws (w_ar ws (n_v (vs ++ [Value.int x]) 4) 162) (w_fi ws (n_v (vs ++ [Value.int x]) 4) 158) + 1)) % 256) = 111) ∧ (((w_ei ws (w_ar ws (n_v (vs ++ [Value.int x]) 4) 1) ((w_ei ws (w_ar ws (n_v (vs ++ [Value.int x]) 4) 162) (w_fi ws (n_v (vs ++ [Value.int x]) 4) 158) + 2)) % 256) = 100) ∧ ((w_ei ws (w_ar ws (n_v (vs ++ [Value.int x]) 4) 1) ((w_ei ws (w_ar ws (n_v (vs ++ [Value.int x]) 4) 162) (w_fi ws (n_v (vs ++ [Value.int x]) 4) 158) + 3)) % 256) = 101)))))))) → (w_fi ws (n_v (vs ++ [Value.int x]) 4) 165 ≤ 23)
      simp only [e_4, q4]
      exact vc_Mo_style_21_3 (v_iv (n_v vs 3)) (v_iv (n_v vs 8)) (v_iv (n_v vs 9)) (v_iv (n_v vs 11)) (v_iv (n_v vs 13)) (v_iv (n_v vs 16)) (v_iv (n_v vs 17)) (v_iv (n_v vs 18)) (w_fi ws (n_v vs 0) 165) (w_fi ws (n_v vs 0) 158) (w_ei ws (w_ar ws (n_v vs 0) 160)) (w_fi ws (n_v vs 0) 157) (w_fi ws (n_v vs 0) 159) (w_ei ws (w_ar ws (n_v vs 0) 161)) (w_ei ws (w_ar ws (n_v vs 0) 162)) (w_ei ws (w_ar ws (n_v vs 0) 163)) (w_ei ws (w_ar ws (n_v vs 0) 1)) (w_fi ws (n_v vs 0) 10) (w_fi ws (n_v vs 0) 8) (w_fi ws (n_v vs 0) 0) (w_ei w1 (w_ar ws (n_v vs 0) 160)) (w_fi w1 (n_v vs 0) 158) (w_fi w1 (n_v vs 0) 157) (w_fi w1 (n_v vs 0) 159) (w_ei w1 (w_ar ws (n_v vs 0) 161)) (w_ei w1 (w_ar ws (n_v vs 0) 162)) (w_ei w1 (w_ar ws (n_v vs 0) 163)) (w_ei w1 (w_ar ws (n_v vs 0) 1)) (w_fi w1 (n_v vs 0) 10) (w_fi w1 (n_v vs 0) 8) (w_fi w1 (n_v vs 0) 0) (v_iv (Value.int x)) k3 k8 k9 k11 k13 k16 k17 k18 g0 g1 f3 f4 f5 f6 f7 f8 f9 f10 f11 f13 f14 f15 f16 f17 f18 f20 f21 f22 f23 f24 f25 f26 f27 f28 f29 f30 f31 f32 f33 f34 f35 f36 fe_0_0_1 fe_0_8_1 fe_0_10_1 fe_0_157_1 fe_0_158_1 fe_0_159_1 fe_0_165_1 hE_0_1_1 hK_0_1 hE_0_160_1 hK_0_160 hE_0_161_1 hE_0_162_1 hK_0_162 hE_0_163_1 hK_0_163 kz_0_0 kz_0_8 kz_0_10 kz_0_157 kz_0_158 kz_0_159 kz_0_165 ex2 ex3
  have nf4 : fc_1 PRD (20, [4], [30, 0, 1, 1, 159]) ws (vs ++ [Value.int x]) := by
    refine ⟨nf_inA hl rfl, sgq_1029 ?_⟩
    · show 1 * w_fi ws (n_v (vs ++ [Value.int x]) 4) 159 + 0 ≤ 0
      simp only [e_4, q4]
      exact vc_Mo_style_21_4 (v_iv (n_v vs 3)) (v_iv (n_v vs 8)) (v_iv (n_v vs 9)) (v_iv (n_v vs 11)) (v_iv (n_v vs 13)) (v_iv (n_v vs 16)) (v_iv (n_v vs 17)) (v_iv (n_v vs 18)) (w_fi ws (n_v vs 0) 165) (w_fi ws (n_v vs 0) 158) (w_ei ws (w_ar ws (n_v vs 0) 160)) (w_fi ws (n_v vs 0) 157) (w_fi ws (n_v vs 0) 159) (w_ei ws (w_ar ws (n_v vs 0) 161)) (w_ei ws (w_ar ws (n_v vs 0) 162)) (w_ei ws (w_ar ws (n_v vs 0) 163)) (w_ei ws (w_ar ws (n_v vs 0) 1)) (w_fi ws (n_v vs 0) 10) (w_fi ws (n_v vs 0) 8) (w_fi ws (n_v vs 0) 0) (w_ei w1 (w_ar ws (n_v vs 0) 160)) (w_fi w1 (n_v vs 0) 158) (w_fi w1 (n_v vs 0) 157) (w_fi w1 (n_v vs 0) 159) (w_ei w1 (w_ar ws (n_v vs 0) 161)) (w_ei w1 (w_ar ws (n_v vs 0) 162)) (w_ei w1 (w_ar ws (n_v vs 0) 163)) (w_ei w1 (w_ar ws (n_v vs 0) 1)) (w_fi w1 (n_v vs 0) 10) (w_fi w1 (n_v vs 0) 8) (w_fi w1 (n_v vs 0) 0) (v_iv (Value.int x)) k3 k8 k9 k11 k13 k16 k17 k18 g0 g1 f3 f4 f5 f6 f7 f8 f9 f10 f11 f13 f14 f15 f16 f17 f18 f20 f21 f22 f23 f24 f25 f26 f27 f28 f29 f30 f31 f32 f33 f34 f35 f36 fe_0_0_1 fe_0_8_1 fe_0_10_1 fe_0_157_1 fe_0_158_1 fe_0_159_1 fe_0_165_1 hE_0_1_1 hK_0_1 hE_0_160_1 hK_0_160 hE_0_161_1 hE_0_162_1 hK_0_162 hE_0_163_1 hK_0_163 kz_0_0 kz_0_8 kz_0_10 kz_0_157 kz_0_158 kz_0_159 kz_0_165 ex2 ex3
  have nf5 : fc_1 PRD (20, [4], [30, 0, -1, 1, 159]) ws (vs ++ [Value.int x]) := by
    refine ⟨nf_inA hl rfl, sgq_1030 ?_⟩
    · show (-1) * w_fi ws (n_v (vs ++ [Value.int x]) 4) 159 + 0 ≤ 0
      simp only [e_4, q4]
      exact vc_Mo_style_21_5 (v_iv (n_v vs 3)) (v_iv (n_v vs 8)) (v_iv (n_v vs 9)) (v_iv (n_v vs 11)) (v_iv (n_v vs 13)) (v_iv (n_v vs 16)) (v_iv (n_v vs 17)) (v_iv (n_v vs 18)) (w_fi ws (n_v vs 0) 165) (w_fi ws (n_v vs 0) 158) (w_ei ws (w_ar ws (n_v vs 0) 160)) (w_fi ws (n_v vs 0) 157) (w_fi ws (n_v vs 0) 159) (w_ei ws (w_ar ws (n_v vs 0) 161)) (w_ei ws (w_ar ws (n_v vs 0) 162)) (w_ei ws (w_ar ws (n_v vs 0) 163)) (w_ei ws (w_ar ws (n_v vs 0) 1)) (w_fi ws (n_v vs 0) 10) (w_fi ws (n_v vs 0) 8) (w_fi ws (n_v vs 0) 0) (w_ei w1 (w_ar ws (n_v vs 0) 160)) (w_fi w1 (n_v vs 0) 158) (w_fi w1 (n_v vs 0) 157) (w_fi w1 (n_v vs 0) 159) (w_ei w1 (w_ar ws (n_v vs 0) 161)) (w_ei w1 (w_ar ws (n_v vs 0) 162)) (w_ei w1 (w_ar ws (n_v vs 0) 163)) (w_ei w1 (w_ar ws (n_v vs 0) 1)) (w_fi w1 (n_v vs 0) 10) (w_fi w1 (n_v vs 0) 8) (w_fi w1 (n_v vs 0) 0) (v_iv (Value.int x)) k3 k8 k9 k11 k13 k16 k17 k18 g0 g1 f3 f4 f5 f6 f7 f8 f9 f10 f11 f13 f14 f15 f16 f17 f18 f20 f21 f22 f23 f24 f25 f26 f27 f28 f29 f30 f31 f32 f33 f34 f35 f36 fe_0_0_1 fe_0_8_1 fe_0_10_1 fe_0_157_1 fe_0_158_1 fe_0_159_1 fe_0_165_1 hE_0_1_1 hK_0_1 hE_0_160_1 hK_0_160 hE_0_161_1 hE_0_162_1 hK_0_162 hE_0_163_1 hK_0_163 kz_0_0 kz_0_8 kz_0_10 kz_0_157 kz_0_158 kz_0_159 kz_0_165 ex2 ex3
  have nf6 : fc_1 PRD (20, [4], [50, 1, 0, 8, 1, 3, 2, 0, 8, 0, 0]) ws (vs ++ [Value.int x]) := by
    refine ⟨nf_inA hl rfl, sgq_2156 ?_⟩
    · show w_fi ws (n_v (vs ++ [Value.int x]) 4) 8 = 0
      simp only [e_4, q4]
      exact vc_Mo_style_21_6 (v_iv (n_v vs 3)) (v_iv (n_v vs 8)) (v_iv (n_v vs 9)) (v_iv (n_v vs 11)) (v_iv (n_v vs 13)) (v_iv (n_v vs 16)) (v_iv (n_v vs 17)) (v_iv (n_v vs 18)) (w_fi ws (n_v vs 0) 165) (w_fi ws (n_v vs 0) 158) (w_ei ws (w_ar ws (n_v vs 0) 160)) (w_fi ws (n_v vs 0) 157) (w_fi ws (n_v vs 0) 159) (w_ei ws (w_ar ws (n_v vs 0) 161)) (w_ei ws (w_ar ws (n_v vs 0) 162)) (w_ei ws (w_ar ws (n_v vs 0) 163)) (w_ei ws (w_ar ws (n_v vs 0) 1)) (w_fi ws (n_v vs 0) 10) (w_fi ws (n_v vs 0) 8) (w_fi ws (n_v vs 0) 0) (w_ei w1 (w_ar ws (n_v vs 0) 160)) (w_fi w1 (n_v vs 0) 158) (w_fi w1 (n_v vs 0) 157) (w_fi w1 (n_v vs 0) 159) (w_ei w1 (w_ar ws (n_v vs 0) 161)) (w_ei w1 (w_ar ws (n_v vs 0) 162)) (w_ei w1 (w_ar ws (n_v vs 0) 163)) (w_ei w1 (w_ar ws (n_v vs 0) 1)) (w_fi w1 (n_v vs 0) 10) (w_fi w1 (n_v vs 0) 8) (w_fi w1 (n_v vs 0) 0) (v_iv (Value.int x)) k3 k8 k9 k11 k13 k16 k17 k18 g0 g1 f3 f4 f5 f6 f7 f8 f9 f10 f11 f13 f14 f15 f16 f17 f18 f20 f21 f22 f23 f24 f25 f26 f27 f28 f29 f30 f31 f32 f33 f34 f35 f36 fe_0_0_1 fe_0_8_1 fe_0_10_1 fe_0_157_1 fe_0_158_1 fe_0_159_1 fe_0_165_1 hE_0_1_1 hK_0_1 hE_0_160_1 hK_0_160 hE_0_161_1 hE_0_162_1 hK_0_162 hE_0_163_1 hK_0_163 kz_0_0 kz_0_8 kz_0_10 kz_0_157 kz_0_158 kz_0_159 kz_0_165 ex2 ex3
  have nf7 : fc_1 PRD (20, [4, 19], [60, 1, 5, 73, 10, 160, 161, 162, 163, 1]) ws (vs ++ [Value.int x]) := by
    refine ⟨nf_inA hl rfl, sgq_2313 ?_⟩
    · show SC1 (w_fi ws (n_v (vs ++ [Value.int x]) 4) 10) (w_ei ws (w_ar ws (n_v (vs ++ [Value.int x]) 4) 160)) (w_ei ws (w_ar ws (n_v (vs ++ [Value.int x]) 4) 161)) (w_ei ws (w_ar ws (n_v (vs ++ [Value.int x]) 4) 162)) (w_ei ws (w_ar ws (n_v (vs ++ [Value.int x]) 4) 163)) (w_ei ws (w_ar ws (n_v (vs ++ [Value.int x]) 4) 1)) (v_iv (n_v (vs ++ [Value.int x]) 19))
      simp only [e_4, e_19, q4]
      exact vc_Mo_style_21_7 (v_iv (n_v vs 3)) (v_iv (n_v vs 8)) (v_iv (n_v vs 9)) (v_iv (n_v vs 11)) (v_iv (n_v vs 13)) (v_iv (n_v vs 16)) (v_iv (n_v vs 17)) (v_iv (n_v vs 18)) (w_fi ws (n_v vs 0) 165) (w_fi ws (n_v vs 0) 158) (w_ei ws (w_ar ws (n_v vs 0) 160)) (w_fi ws (n_v vs 0) 157) (w_fi ws (n_v vs 0) 159) (w_ei ws (w_ar ws (n_v vs 0) 161)) (w_ei ws (w_ar ws (n_v vs 0) 162)) (w_ei ws (w_ar ws (n_v vs 0) 163)) (w_ei ws (w_ar ws (n_v vs 0) 1)) (w_fi ws (n_v vs 0) 10) (w_fi ws (n_v vs 0) 8) (w_fi ws (n_v vs 0) 0) (w_ei w1 (w_ar ws (n_v vs 0) 160)) (w_fi w1 (n_v vs 0) 158) (w_fi w1 (n_v vs 0) 157) (w_fi w1 (n_v vs 0) 159) (w_ei w1 (w_ar ws (n_v vs 0) 161)) (w_ei w1 (w_ar ws (n_v vs 0) 162)) (w_ei w1 (w_ar ws (n_v vs 0) 163)) (w_ei w1 (w_ar ws (n_v vs 0) 1)) (w_fi w1 (n_v vs 0) 10) (w_fi w1 (n_v vs 0) 8) (w_fi w1 (n_v vs 0) 0) (v_iv (Value.int x)) k3 k8 k9 k11 k13 k16 k17 k18 g0 g1 f3 f4 f5 f6 f7 f8 f9 f10 f11 f13 f14 f15 f16 f17 f18 f20 f21 f22 f23 f24 f25 f26 f27 f28 f29 f30 f31 f32 f33 f34 f35 f36 fe_0_0_1 fe_0_8_1 fe_0_10_1 fe_0_157_1 fe_0_158_1 fe_0_159_1 fe_0_165_1 hE_0_1_1 hK_0_1 hE_0_160_1 hK_0_160 hE_0_161_1 hE_0_162_1 hK_0_162 hE_0_163_1 hK_0_163 kz_0_0 kz_0_8 kz_0_10 kz_0_157 kz_0_158 kz_0_159 kz_0_165 ex2 ex3
  have nf8 : fc_1 PRD (23, [11, 19], [-2010, -1, -1]) ws (vs ++ [Value.int x]) := by
    refine ⟨nf_inA hl rfl, sgq_2314 ?_⟩
    · show (-1) * v_iv (n_v (vs ++ [Value.int x]) 11) + ((-1) * v_iv (n_v (vs ++ [Value.int x]) 19) + 0) ≤ (-2010)
      simp only [e_11, e_19]
      exact vc_Mo_style_21_8 (v_iv (n_v vs 3)) (v_iv (n_v vs 8)) (v_iv (n_v vs 9)) (v_iv (n_v vs 11)) (v_iv (n_v vs 13)) (v_iv (n_v vs 16)) (v_iv (n_v vs 17)) (v_iv (n_v vs 18)) (w_fi ws (n_v vs 0) 165) (w_fi ws (n_v vs 0) 158) (w_ei ws (w_ar ws (n_v vs 0) 160)) (w_fi ws (n_v vs 0) 157) (w_fi ws (n_v vs 0) 159) (w_ei ws (w_ar ws (n_v vs 0) 161)) (w_ei ws (w_ar ws (n_v vs 0) 162)) (w_ei ws (w_ar ws (n_v vs 0) 163)) (w_ei ws (w_ar ws (n_v vs 0) 1)) (w_fi ws (n_v vs 0) 10) (w_fi ws (n_v vs 0) 8) (w_fi ws (n_v vs 0) 0) (w_ei w1 (w_ar ws (n_v vs 0) 160)) (w_fi w1 (n_v vs 0) 158) (w_fi w1 (n_v vs 0) 157) (w_fi w1 (n_v vs 0) 159) (w_ei w1 (w_ar ws (n_v vs 0) 161)) (w_ei w1 (w_ar ws (n_v vs 0) 162)) (w_ei w1 (w_ar ws (n_v vs 0) 163)) (w_ei w1 (w_ar ws (n_v vs 0) 1)) (w_fi w1 (n_v vs 0) 10) (w_fi w1 (n_v vs 0) 8) (w_fi w1 (n_v vs 0) 0) (v_iv (Value.int x)) k3 k8 k9 k11 k13 k16 k17 k18 g0 g1 f3 f4 f5 f6 f7 f8 f9 f10 f11 f13 f14 f15 f16 f17 f18 f20 f21 f22 f23 f24 f25 f26 f27 f28 f29 f30 f31 f32 f33 f34 f35 f36 fe_0_0_1 fe_0_8_1 fe_0_10_1 fe_0_157_1 fe_0_158_1 fe_0_159_1 fe_0_165_1 hE_0_1_1 hK_0_1 hE_0_160_1 hK_0_160 hE_0_161_1 hE_0_162_1 hK_0_162 hE_0_163_1 hK_0_163 kz_0_0 kz_0_8 kz_0_10 kz_0_157 kz_0_158 kz_0_159 kz_0_165 ex2 ex3
  exact ⟨(fun _ h => (by cases h)), [Value.int x], ag_one hx, List.forall_mem_cons.mpr ⟨⟨show (20 : Nat) < 100 from by decide, nf0⟩, List.forall_mem_cons.mpr ⟨⟨show (20 : Nat) < 100 from by decide, nf1⟩, List.forall_mem_cons.mpr ⟨⟨show (20 : Nat) < 100 from by decide, nf2⟩, List.forall_mem_cons.mpr ⟨⟨show (20 : Nat) < 100 from by decide, nf3⟩, List.forall_mem_cons.mpr ⟨⟨show (20 : Nat) < 100 from by decide, nf4⟩, List.forall_mem_cons.mpr ⟨⟨show (20 : Nat) < 100 from by decide, nf5⟩, List.forall_mem_cons.mpr ⟨⟨show (20 : Nat) < 100 from by decide, nf6⟩, List.forall_mem_cons.mpr ⟨⟨show (20 : Nat) < 100 from by decide, nf7⟩, List.forall_mem_cons.mpr ⟨⟨show (23 : Nat) < 100 from by decide, nf8⟩, (fun _ h => (by cases h))⟩⟩⟩⟩⟩⟩⟩⟩⟩, (fun _ h => (by cases h))⟩
set_option maxHeartbeats 4000000 in
theorem vc_Mo_style_22_0 (x3 : Int) (x8 : Int) (x9 : Int) (x11 : Int) (x19 : Int) (tokenKind_0 : Int → Int) (tokenValue_0 : Int → Int) (tokenPlace_0 : Int → Int) (tokenEnd_0 : Int → Int) (tape_0 : Int → Int) (limit_0 : Int) (taped_0 : Int) (cur_0 : Int) (tokens_0 : Int) (opened_0 : Int) (fault_0 : Int) (gx : Int) (k3 : 0 ≤ x3 ∧ x3 ≤ 2000) (k8 : 0 ≤ x8 ∧ x8 ≤ 0) (k9 : 0 ≤ x9 ∧ x9 ≤ 47) (k11 : 0 ≤ x11 ∧ x11 ≤ 2010) (k19 : 0 ≤ x19 ∧ x19 ≤ 2009) (f1 : SC1 (limit_0) (tokenKind_0) (tokenValue_0) (tokenPlace_0) (tokenEnd_0) (tape_0) (x19)) (f2 : (-1) * x11 + ((-1) * x19 + 0) ≤ (-2010)) (f3 : SOK (limit_0) (tokenKind_0) (tokenValue_0) (tokenPlace_0) (tokenEnd_0) (tape_0)) (f4 : (x8 = 0) → (x9 ≤ 23)) (f5 : taped_0 = x3) (f7 : ((cur_0 + 1) ≤ tokens_0) ∧ ((tokens_0 ≤ 2010) ∧ ((tokenKind_0 ((tokens_0 - 1)) = 0) ∨ (tokenKind_0 ((tokens_0 - 1)) = 4)))) (f8 : 1 * x19 + ((-1) * cur_0 + 0) ≤ 0) (f9 : 1 * opened_0 + 0 ≤ 0) (f10 : (-1) * opened_0 + 0 ≤ 0) (f11 : ((-1) * fault_0 + 0 ≤ (-1)) ∨ (1 * x19 + ((-1) * cur_0 + 0) ≤ (-1))) (f12 : RUL (fault_0) (cur_0) (limit_0) (tokenKind_0) (tokenValue_0) (tokenPlace_0) (tokenEnd_0) (tape_0) (x19)) (f14 : (-1) * x11 + ((-1) * x19 + 0) ≤ (-2010)) (f16 : x8 = 0) (hK_0_1 : ∀ j : Int, 0 ≤ j → j < 2000 → (-128) ≤ tape_0 j ∧ tape_0 j ≤ 127) (hK_0_160 : ∀ j : Int, 0 ≤ j → j < 2010 → 0 ≤ tokenKind_0 j ∧ tokenKind_0 j ≤ 4) (hK_0_162 : ∀ j : Int, 0 ≤ j → j < 2010 → 0 ≤ tokenPlace_0 j ∧ tokenPlace_0 j ≤ 2000) (hK_0_163 : ∀ j : Int, 0 ≤ j → j < 2010 → 0 ≤ tokenEnd_0 j ∧ tokenEnd_0 j ≤ 2000) (kz_0_0 : 0 ≤ taped_0 ∧ taped_0 ≤ 2000) (kz_0_8 : 0 ≤ fault_0 ∧ fault_0 ≤ 5) (kz_0_10 : 0 ≤ limit_0 ∧ limit_0 ≤ 2000) (kz_0_157 : 0 ≤ tokens_0 ∧ tokens_0 ≤ 2010) (kz_0_158 : 0 ≤ cur_0 ∧ cur_0 ≤ 2009) (kz_0_159 : 0 ≤ opened_0 ∧ opened_0 ≤ 13) (ex2 : gx = 0 + (1 * x11 + 0)) (ex3 : 0 ≤ gx ∧ gx ≤ 2010) : (x8 = 0) → (x9 ≤ 23) := by
  first
    | exact (sc1_go ‹SC1 _ _ _ _ _ _ _› ‹RUL _ _ _ _ _ _ _ _ _›).1
    | (have e := (sc1_go ‹SC1 _ _ _ _ _ _ _› ‹RUL _ _ _ _ _ _ _ _ _›).1; clear f4 f7 hK_0_1 hK_0_160 hK_0_162 hK_0_163; omega)
    | (first | with_reducible assumption | ((have f7_c0 := f7.1); (have f7_c1 := f7.2.1); (have f7_c2 := f7.2.2); (try and_intros) <;> first | with_reducible assumption | (clear f7_c2 f7 f11 hK_0_1 hK_0_160 hK_0_162 hK_0_163 f4; omega)) | ((have f7_c0 := f7.1); (have f7_c1 := f7.2.1); (have f7_c2 := f7.2.2); (first | have f4_b := f4 (by clear f7_c2 f7 f11 hK_0_1 hK_0_160 hK_0_162 hK_0_163 f4; omega) | skip); (first | have f4_d := f4 (by with_reducible assumption) | skip); (try and_intros) <;> first | with_reducible assumption | (clear f7_c2 f7 f11 hK_0_1 hK_0_160 hK_0_162 hK_0_163 f4; omega)) | ((have f7_c0 := f7.1); (have f7_c1 := f7.2.1); (have f7_c2 := f7.2.2); (first | have f4_b := f4 (by clear f7_c2 f7 f11 hK_0_1 hK_0_160 hK_0_162 hK_0_163 f4; omega) | skip); (first | have f4_d := f4 (by with_reducible assumption) | skip); (first | have f7_q := tk_nx0 f7 (by clear f7_c2 f7 f11 hK_0_1 hK_0_160 hK_0_162 hK_0_163 f4; omega) | skip); (try and_intros) <;> first | with_reducible assumption | (clear f7_c2 f7 f11 hK_0_1 hK_0_160 hK_0_162 hK_0_163 f4; omega)) | ((have f7_c0 := f7.1); (have f7_c1 := f7.2.1); (have f7_c2 := f7.2.2); (first | have f4_b := f4 (by clear f7_c2 f7 f11 hK_0_1 hK_0_160 hK_0_162 hK_0_163 f4; omega) | skip); (first | have f4_d := f4 (by with_reducible assumption) | skip); (try and_intros) <;> first | with_reducible assumption | (clear f7_c2 f7 hK_0_1 hK_0_160 hK_0_162 hK_0_163 f4; omega)) | (intro hG; (first | have f4_g := f4 hG | skip); (have f7_c0 := f7.1); (have f7_c1 := f7.2.1); (have f7_c2 := f7.2.2); (first | have f4_b := f4 (by clear f7_c2 f7 f11 hK_0_1 hK_0_160 hK_0_162 hK_0_163 f4; omega) | skip); (try and_intros) <;> first | with_reducible assumption | (clear f7_c2 f7 f11 hK_0_1 hK_0_160 hK_0_162 hK_0_163 f4 hG; omega)) | omega)
set_option maxHeartbeats 4000000 in
theorem vc_Mo_style_22_1 (x3 : Int) (x8 : Int) (x9 : Int) (x11 : Int) (x19 : Int) (tokenKind_0 : Int → Int) (tokenValue_0 : Int → Int) (tokenPlace_0 : Int → Int) (tokenEnd_0 : Int → Int) (tape_0 : Int → Int) (limit_0 : Int) (taped_0 : Int) (cur_0 : Int) (tokens_0 : Int) (opened_0 : Int) (fault_0 : Int) (gx : Int) (k3 : 0 ≤ x3 ∧ x3 ≤ 2000) (k8 : 0 ≤ x8 ∧ x8 ≤ 0) (k9 : 0 ≤ x9 ∧ x9 ≤ 47) (k11 : 0 ≤ x11 ∧ x11 ≤ 2010) (k19 : 0 ≤ x19 ∧ x19 ≤ 2009) (f1 : SC1 (limit_0) (tokenKind_0) (tokenValue_0) (tokenPlace_0) (tokenEnd_0) (tape_0) (x19)) (f2 : (-1) * x11 + ((-1) * x19 + 0) ≤ (-2010)) (f3 : SOK (limit_0) (tokenKind_0) (tokenValue_0) (tokenPlace_0) (tokenEnd_0) (tape_0)) (f4 : (x8 = 0) → (x9 ≤ 23)) (f5 : taped_0 = x3) (f7 : ((cur_0 + 1) ≤ tokens_0) ∧ ((tokens_0 ≤ 2010) ∧ ((tokenKind_0 ((tokens_0 - 1)) = 0) ∨ (tokenKind_0 ((tokens_0 - 1)) = 4)))) (f8 : 1 * x19 + ((-1) * cur_0 + 0) ≤ 0) (f9 : 1 * opened_0 + 0 ≤ 0) (f10 : (-1) * opened_0 + 0 ≤ 0) (f11 : ((-1) * fault_0 + 0 ≤ (-1)) ∨ (1 * x19 + ((-1) * cur_0 + 0) ≤ (-1))) (f12 : RUL (fault_0) (cur_0) (limit_0) (tokenKind_0) (tokenValue_0) (tokenPlace_0) (tokenEnd_0) (tape_0) (x19)) (f14 : (-1) * x11 + ((-1) * x19 + 0) ≤ (-2010)) (f16 : x8 = 0) (hK_0_1 : ∀ j : Int, 0 ≤ j → j < 2000 → (-128) ≤ tape_0 j ∧ tape_0 j ≤ 127) (hK_0_160 : ∀ j : Int, 0 ≤ j → j < 2010 → 0 ≤ tokenKind_0 j ∧ tokenKind_0 j ≤ 4) (hK_0_162 : ∀ j : Int, 0 ≤ j → j < 2010 → 0 ≤ tokenPlace_0 j ∧ tokenPlace_0 j ≤ 2000) (hK_0_163 : ∀ j : Int, 0 ≤ j → j < 2010 → 0 ≤ tokenEnd_0 j ∧ tokenEnd_0 j ≤ 2000) (kz_0_0 : 0 ≤ taped_0 ∧ taped_0 ≤ 2000) (kz_0_8 : 0 ≤ fault_0 ∧ fault_0 ≤ 5) (kz_0_10 : 0 ≤ limit_0 ∧ limit_0 ≤ 2000) (kz_0_157 : 0 ≤ tokens_0 ∧ tokens_0 ≤ 2010) (kz_0_158 : 0 ≤ cur_0 ∧ cur_0 ≤ 2009) (kz_0_159 : 0 ≤ opened_0 ∧ opened_0 ≤ 13) (ex2 : gx = 0 + (1 * x11 + 0)) (ex3 : 0 ≤ gx ∧ gx ≤ 2010) : ((cur_0 + 1) ≤ tokens_0) ∧ ((tokens_0 ≤ 2010) ∧ ((tokenKind_0 ((tokens_0 - 1)) = 0) ∨ (tokenKind_0 ((tokens_0 - 1)) = 4))) := by
  first
    | exact (sc1_go ‹SC1 _ _ _ _ _ _ _› ‹RUL _ _ _ _ _ _ _ _ _›).1
    | (have e := (sc1_go ‹SC1 _ _ _ _ _ _ _› ‹RUL _ _ _ _ _ _ _ _ _›).1; clear f4 f7 hK_0_1 hK_0_160 hK_0_162 hK_0_163; omega)
    | (first | with_reducible assumption | ((have f7_c0 := f7.1); (have f7_c1 := f7.2.1); (have f7_c2 := f7.2.2); (try and_intros) <;> first | with_reducible assumption | (clear f7_c2 f7 f11 hK_0_1 hK_0_160 hK_0_162 hK_0_163 f4; omega)) | ((have f7_c0 := f7.1); (have f7_c1 := f7.2.1); (have f7_c2 := f7.2.2); (first | have f4_b := f4 (by clear f7_c2 f7 f11 hK_0_1 hK_0_160 hK_0_162 hK_0_163 f4; omega) | skip); (first | have f4_d := f4 (by with_reducible assumption) | skip); (try and_intros) <;> first | with_reducible assumption | (clear f7_c2 f7 f11 hK_0_1 hK_0_160 hK_0_162 hK_0_163 f4; omega)) | ((have f7_c0 := f7.1); (have f7_c1 := f7.2.1); (have f7_c2 := f7.2.2); (first | have f4_b := f4 (by clear f7_c2 f7 f11 hK_0_1 hK_0_160 hK_0_162 hK_0_163 f4; omega) | skip); (first | have f4_d := f4 (by with_reducible assumption) | skip); (first | have f7_q := tk_nx0 f7 (by clear f7_c2 f7 f11 hK_0_1 hK_0_160 hK_0_162 hK_0_163 f4; omega) | skip); (try and_intros) <;> first | with_reducible assumption | (clear f7_c2 f7 f11 hK_0_1 hK_0_160 hK_0_162 hK_0_163 f4; omega)) | ((have f7_c0 := f7.1); (have f7_c1 := f7.2.1); (have f7_c2 := f7.2.2); (first | have f4_b := f4 (by clear f7_c2 f7 f11 hK_0_1 hK_0_160 hK_0_162 hK_0_163 f4; omega) | skip); (first | have f4_d := f4 (by with_reducible assumption) | skip); (try and_intros) <;> first | with_reducible assumption | (clear f7_c2 f7 hK_0_1 hK_0_160 hK_0_162 hK_0_163 f4; omega)) | omega)
set_option maxHeartbeats 4000000 in
theorem vc_Mo_style_22_2 (x3 : Int) (x8 : Int) (x9 : Int) (x11 : Int) (x19 : Int) (tokenKind_0 : Int → Int) (tokenValue_0 : Int → Int) (tokenPlace_0 : Int → Int) (tokenEnd_0 : Int → Int) (tape_0 : Int → Int) (limit_0 : Int) (taped_0 : Int) (cur_0 : Int) (tokens_0 : Int) (opened_0 : Int) (fault_0 : Int) (gx : Int) (k3 : 0 ≤ x3 ∧ x3 ≤ 2000) (k8 : 0 ≤ x8 ∧ x8 ≤ 0) (k9 : 0 ≤ x9 ∧ x9 ≤ 47) (k11 : 0 ≤ x11 ∧ x11 ≤ 2010) (k19 : 0 ≤ x19 ∧ x19 ≤ 2009) (f1 : SC1 (limit_0) (tokenKind_0) (tokenValue_0) (tokenPlace_0) (tokenEnd_0) (tape_0) (x19)) (f2 : (-1) * x11 + ((-1) * x19 + 0) ≤ (-2010)) (f3 : SOK (limit_0) (tokenKind_0) (tokenValue_0) (tokenPlace_0) (tokenEnd_0) (tape_0)) (f4 : (x8 = 0) → (x9 ≤ 23)) (f5 : taped_0 = x3) (f7 : ((cur_0 + 1) ≤ tokens_0) ∧ ((tokens_0 ≤ 2010) ∧ ((tokenKind_0 ((tokens_0 - 1)) = 0) ∨ (tokenKind_0 ((tokens_0 - 1)) = 4)))) (f8 : 1 * x19 + ((-1) * cur_0 + 0) ≤ 0) (f9 : 1 * opened_0 + 0 ≤ 0) (f10 : (-1) * opened_0 + 0 ≤ 0) (f11 : ((-1) * fault_0 + 0 ≤ (-1)) ∨ (1 * x19 + ((-1) * cur_0 + 0) ≤ (-1))) (f12 : RUL (fault_0) (cur_0) (limit_0) (tokenKind_0) (tokenValue_0) (tokenPlace_0) (tokenEnd_0) (tape_0) (x19)) (f14 : (-1) * x11 + ((-1) * x19 + 0) ≤ (-2010)) (f16 : x8 = 0) (hK_0_1 : ∀ j : Int, 0 ≤ j → j < 2000 → (-128) ≤ tape_0 j ∧ tape_0 j ≤ 127) (hK_0_160 : ∀ j : Int, 0 ≤ j → j < 2010 → 0 ≤ tokenKind_0 j ∧ tokenKind_0 j ≤ 4) (hK_0_162 : ∀ j : Int, 0 ≤ j → j < 2010 → 0 ≤ tokenPlace_0 j ∧ tokenPlace_0 j ≤ 2000) (hK_0_163 : ∀ j : Int, 0 ≤ j → j < 2010 → 0 ≤ tokenEnd_0 j ∧ tokenEnd_0 j ≤ 2000) (kz_0_0 : 0 ≤ taped_0 ∧ taped_0 ≤ 2000) (kz_0_8 : 0 ≤ fault_0 ∧ fault_0 ≤ 5) (kz_0_10 : 0 ≤ limit_0 ∧ limit_0 ≤ 2000) (kz_0_157 : 0 ≤ tokens_0 ∧ tokens_0 ≤ 2010) (kz_0_158 : 0 ≤ cur_0 ∧ cur_0 ≤ 2009) (kz_0_159 : 0 ≤ opened_0 ∧ opened_0 ≤ 13) (ex2 : gx = 0 + (1 * x11 + 0)) (ex3 : 0 ≤ gx ∧ gx ≤ 2010) : 1 * opened_0 + 0 ≤ 0 := by
  first
    | exact (sc1_go ‹SC1 _ _ _ _ _ _ _› ‹RUL _ _ _ _ _ _ _ _ _›).1
    | (have e := (sc1_go ‹SC1 _ _ _ _ _ _ _› ‹RUL _ _ _ _ _ _ _ _ _›).1; clear f4 f7 hK_0_1 hK_0_160 hK_0_162 hK_0_163; omega)
    | (first | with_reducible assumption | ((have f7_c0 := f7.1); (have f7_c1 := f7.2.1); (have f7_c2 := f7.2.2); (try and_intros) <;> first | with_reducible assumption | (clear f7_c2 f7 f11 hK_0_1 hK_0_160 hK_0_162 hK_0_163 f4; omega)) | ((have f7_c0 := f7.1); (have f7_c1 := f7.2.1); (have f7_c2 := f7.2.2); (first | have f4_b := f4 (by clear f7_c2 f7 f11 hK_0_1 hK_0_160 hK_0_162 hK_0_163 f4; omega) | skip); (first | have f4_d := f4 (by with_reducible assumption) | skip); (try and_intros) <;> first | with_reducible assumption | (clear f7_c2 f7 f11 hK_0_1 hK_0_160 hK_0_162 hK_0_163 f4; omega)) | ((have f7_c0 := f7.1); (have f7_c1 := f7.2.1); (have f7_c2 := f7.2.2); (first | have f4_b := f4 (by clear f7_c2 f7 f11 hK_0_1 hK_0_160 hK_0_162 hK_0_163 f4; omega) | skip); (first | have f4_d := f4 (by with_reducible assumption) | skip); (first | have f7_q := tk_nx0 f7 (by clear f7_c2 f7 f11 hK_0_1 hK_0_160 hK_0_162 hK_0_163 f4; omega) | skip); (try and_intros) <;> first | with_reducible assumption | (clear f7_c2 f7 f11 hK_0_1 hK_0_160 hK_0_162 hK_0_163 f4; omega)) | ((have f7_c0 := f7.1); (have f7_c1 := f7.2.1); (have f7_c2 := f7.2.2); (first | have f4_b := f4 (by clear f7_c2 f7 f11 hK_0_1 hK_0_160 hK_0_162 hK_0_163 f4; omega) | skip); (first | have f4_d := f4 (by with_reducible assumption) | skip); (try and_intros) <;> first | with_reducible assumption | (clear f7_c2 f7 hK_0_1 hK_0_160 hK_0_162 hK_0_163 f4; omega)) | omega)
set_option maxHeartbeats 4000000 in
theorem vc_Mo_style_22_3 (x3 : Int) (x8 : Int) (x9 : Int) (x11 : Int) (x19 : Int) (tokenKind_0 : Int → Int) (tokenValue_0 : Int → Int) (tokenPlace_0 : Int → Int) (tokenEnd_0 : Int → Int) (tape_0 : Int → Int) (limit_0 : Int) (taped_0 : Int) (cur_0 : Int) (tokens_0 : Int) (opened_0 : Int) (fault_0 : Int) (gx : Int) (k3 : 0 ≤ x3 ∧ x3 ≤ 2000) (k8 : 0 ≤ x8 ∧ x8 ≤ 0) (k9 : 0 ≤ x9 ∧ x9 ≤ 47) (k11 : 0 ≤ x11 ∧ x11 ≤ 2010) (k19 : 0 ≤ x19 ∧ x19 ≤ 2009) (f1 : SC1 (limit_0) (tokenKind_0) (tokenValue_0) (tokenPlace_0) (tokenEnd_0) (tape_0) (x19)) (f2 : (-1) * x11 + ((-1) * x19 + 0) ≤ (-2010)) (f3 : SOK (limit_0) (tokenKind_0) (tokenValue_0) (tokenPlace_0) (tokenEnd_0) (tape_0)) (f4 : (x8 = 0) → (x9 ≤ 23)) (f5 : taped_0 = x3) (f7 : ((cur_0 + 1) ≤ tokens_0) ∧ ((tokens_0 ≤ 2010) ∧ ((tokenKind_0 ((tokens_0 - 1)) = 0) ∨ (tokenKind_0 ((tokens_0 - 1)) = 4)))) (f8 : 1 * x19 + ((-1) * cur_0 + 0) ≤ 0) (f9 : 1 * opened_0 + 0 ≤ 0) (f10 : (-1) * opened_0 + 0 ≤ 0) (f11 : ((-1) * fault_0 + 0 ≤ (-1)) ∨ (1 * x19 + ((-1) * cur_0 + 0) ≤ (-1))) (f12 : RUL (fault_0) (cur_0) (limit_0) (tokenKind_0) (tokenValue_0) (tokenPlace_0) (tokenEnd_0) (tape_0) (x19)) (f14 : (-1) * x11 + ((-1) * x19 + 0) ≤ (-2010)) (f16 : x8 = 0) (hK_0_1 : ∀ j : Int, 0 ≤ j → j < 2000 → (-128) ≤ tape_0 j ∧ tape_0 j ≤ 127) (hK_0_160 : ∀ j : Int, 0 ≤ j → j < 2010 → 0 ≤ tokenKind_0 j ∧ tokenKind_0 j ≤ 4) (hK_0_162 : ∀ j : Int, 0 ≤ j → j < 2010 → 0 ≤ tokenPlace_0 j ∧ tokenPlace_0 j ≤ 2000) (hK_0_163 : ∀ j : Int, 0 ≤ j → j < 2010 → 0 ≤ tokenEnd_0 j ∧ tokenEnd_0 j ≤ 2000) (kz_0_0 : 0 ≤ taped_0 ∧ taped_0 ≤ 2000) (kz_0_8 : 0 ≤ fault_0 ∧ fault_0 ≤ 5) (kz_0_10 : 0 ≤ limit_0 ∧ limit_0 ≤ 2000) (kz_0_157 : 0 ≤ tokens_0 ∧ tokens_0 ≤ 2010) (kz_0_158 : 0 ≤ cur_0 ∧ cur_0 ≤ 2009) (kz_0_159 : 0 ≤ opened_0 ∧ opened_0 ≤ 13) (ex2 : gx = 0 + (1 * x11 + 0)) (ex3 : 0 ≤ gx ∧ gx ≤ 2010) : (-1) * opened_0 + 0 ≤ 0 := by
  first
    | exact (sc1_go ‹SC1 _ _ _ _ _ _ _› ‹RUL _ _ _ _ _ _ _ _ _›).1
    | (have e := (sc1_go ‹SC1 _ _ _ _ _ _ _› ‹RUL _ _ _ _ _ _ _ _ _›).1; clear f4 f7 hK_0_1 hK_0_160 hK_0_162 hK_0_163; omega)
    | (first | with_reducible assumption | ((have f7_c0 := f7.1); (have f7_c1 := f7.2.1); (have f7_c2 := f7.2.2); (try and_intros) <;> first | with_reducible assumption | (clear f7_c2 f7 f11 hK_0_1 hK_0_160 hK_0_162 hK_0_163 f4; omega)) | ((have f7_c0 := f7.1); (have f7_c1 := f7.2.1); (have f7_c2 := f7.2.2); (first | have f4_b := f4 (by clear f7_c2 f7 f11 hK_0_1 hK_0_160 hK_0_162 hK_0_163 f4; omega) | skip); (first | have f4_d := f4 (by with_reducible assumption) | skip); (try and_intros) <;> first | with_reducible assumption | (clear f7_c2 f7 f11 hK_0_1 hK_0_160 hK_0_162 hK_0_163 f4; omega)) | ((have f7_c0 := f7.1); (have f7_c1 := f7.2.1); (have f7_c2 := f7.2.2); (first | have f4_b := f4 (by clear f7_c2 f7 f11 hK_0_1 hK_0_160 hK_0_162 hK_0_163 f4; omega) | skip); (first | have f4_d := f4 (by with_reducible assumption) | skip); (first | have f7_q := tk_nx0 f7 (by clear f7_c2 f7 f11 hK_0_1 hK_0_160 hK_0_162 hK_0_163 f4; omega) | skip); (try and_intros) <;> first | with_reducible assumption | (clear f7_c2 f7 f11 hK_0_1 hK_0_160 hK_0_162 hK_0_163 f4; omega)) | ((have f7_c0 := f7.1); (have f7_c1 := f7.2.1); (have f7_c2 := f7.2.2); (first | have f4_b := f4 (by clear f7_c2 f7 f11 hK_0_1 hK_0_160 hK_0_162 hK_0_163 f4; omega) | skip); (first | have f4_d := f4 (by with_reducible assumption) | skip); (try and_intros) <;> first | with_reducible assumption | (clear f7_c2 f7 hK_0_1 hK_0_160 hK_0_162 hK_0_163 f4; omega)) | omega)
set_option maxHeartbeats 4000000 in
theorem vc_Mo_style_22_4 (x3 : Int) (x8 : Int) (x9 : Int) (x11 : Int) (x19 : Int) (tokenKind_0 : Int → Int) (tokenValue_0 : Int → Int) (tokenPlace_0 : Int → Int) (tokenEnd_0 : Int → Int) (tape_0 : Int → Int) (limit_0 : Int) (taped_0 : Int) (cur_0 : Int) (tokens_0 : Int) (opened_0 : Int) (fault_0 : Int) (gx : Int) (k3 : 0 ≤ x3 ∧ x3 ≤ 2000) (k8 : 0 ≤ x8 ∧ x8 ≤ 0) (k9 : 0 ≤ x9 ∧ x9 ≤ 47) (k11 : 0 ≤ x11 ∧ x11 ≤ 2010) (k19 : 0 ≤ x19 ∧ x19 ≤ 2009) (f1 : SC1 (limit_0) (tokenKind_0) (tokenValue_0) (tokenPlace_0) (tokenEnd_0) (tape_0) (x19)) (f2 : (-1) * x11 + ((-1) * x19 + 0) ≤ (-2010)) (f3 : SOK (limit_0) (tokenKind_0) (tokenValue_0) (tokenPlace_0) (tokenEnd_0) (tape_0)) (f4 : (x8 = 0) → (x9 ≤ 23)) (f5 : taped_0 = x3) (f7 : ((cur_0 + 1) ≤ tokens_0) ∧ ((tokens_0 ≤ 2010) ∧ ((tokenKind_0 ((tokens_0 - 1)) = 0) ∨ (tokenKind_0 ((tokens_0 - 1)) = 4)))) (f8 : 1 * x19 + ((-1) * cur_0 + 0) ≤ 0) (f9 : 1 * opened_0 + 0 ≤ 0) (f10 : (-1) * opened_0 + 0 ≤ 0) (f11 : ((-1) * fault_0 + 0 ≤ (-1)) ∨ (1 * x19 + ((-1) * cur_0 + 0) ≤ (-1))) (f12 : RUL (fault_0) (cur_0) (limit_0) (tokenKind_0) (tokenValue_0) (tokenPlace_0) (tokenEnd_0) (tape_0) (x19)) (f14 : (-1) * x11 + ((-1) * x19 + 0) ≤ (-2010)) (f16 : x8 = 0) (hK_0_1 : ∀ j : Int, 0 ≤ j → j < 2000 → (-128) ≤ tape_0 j ∧ tape_0 j ≤ 127) (hK_0_160 : ∀ j : Int, 0 ≤ j → j < 2010 → 0 ≤ tokenKind_0 j ∧ tokenKind_0 j ≤ 4) (hK_0_162 : ∀ j : Int, 0 ≤ j → j < 2010 → 0 ≤ tokenPlace_0 j ∧ tokenPlace_0 j ≤ 2000) (hK_0_163 : ∀ j : Int, 0 ≤ j → j < 2010 → 0 ≤ tokenEnd_0 j ∧ tokenEnd_0 j ≤ 2000) (kz_0_0 : 0 ≤ taped_0 ∧ taped_0 ≤ 2000) (kz_0_8 : 0 ≤ fault_0 ∧ fault_0 ≤ 5) (kz_0_10 : 0 ≤ limit_0 ∧ limit_0 ≤ 2000) (kz_0_157 : 0 ≤ tokens_0 ∧ tokens_0 ≤ 2010) (kz_0_158 : 0 ≤ cur_0 ∧ cur_0 ≤ 2009) (kz_0_159 : 0 ≤ opened_0 ∧ opened_0 ≤ 13) (ex2 : gx = 0 + (1 * x11 + 0)) (ex3 : 0 ≤ gx ∧ gx ≤ 2010) : SOK (limit_0) (tokenKind_0) (tokenValue_0) (tokenPlace_0) (tokenEnd_0) (tape_0) := by
  first
    | assumption
    | exact sok_of (‹SFP _ _ _ _ _ _ _ _›) (by omega) (by omega)
    | exact sok_of (‹SFP _ _ _ _ _ _ _ _›) (by omega) (by have e := (‹x7 = cur_0›); rw [← e]; omega)
    | exact sok_of (‹SFP _ _ _ _ _ _ _ _›) (by omega) (by have e := (‹x11 = cur_0›); rw [← e]; omega)
  
set_option maxHeartbeats 4000000 in
theorem vc_Mo_style_22_5 (x3 : Int) (x8 : Int) (x9 : Int) (x11 : Int) (x19 : Int) (tokenKind_0 : Int → Int) (tokenValue_0 : Int → Int) (tokenPlace_0 : Int → Int) (tokenEnd_0 : Int → Int) (tape_0 : Int → Int) (limit_0 : Int) (taped_0 : Int) (cur_0 : Int) (tokens_0 : Int) (opened_0 : Int) (fault_0 : Int) (gx : Int) (k3 : 0 ≤ x3 ∧ x3 ≤ 2000) (k8 : 0 ≤ x8 ∧ x8 ≤ 0) (k9 : 0 ≤ x9 ∧ x9 ≤ 47) (k11 : 0 ≤ x11 ∧ x11 ≤ 2010) (k19 : 0 ≤ x19 ∧ x19 ≤ 2009) (f1 : SC1 (limit_0) (tokenKind_0) (tokenValue_0) (tokenPlace_0) (tokenEnd_0) (tape_0) (x19)) (f2 : (-1) * x11 + ((-1) * x19 + 0) ≤ (-2010)) (f3 : SOK (limit_0) (tokenKind_0) (tokenValue_0) (tokenPlace_0) (tokenEnd_0) (tape_0)) (f4 : (x8 = 0) → (x9 ≤ 23)) (f5 : taped_0 = x3) (f7 : ((cur_0 + 1) ≤ tokens_0) ∧ ((tokens_0 ≤ 2010) ∧ ((tokenKind_0 ((tokens_0 - 1)) = 0) ∨ (tokenKind_0 ((tokens_0 - 1)) = 4)))) (f8 : 1 * x19 + ((-1) * cur_0 + 0) ≤ 0) (f9 : 1 * opened_0 + 0 ≤ 0) (f10 : (-1) * opened_0 + 0 ≤ 0) (f11 : ((-1) * fault_0 + 0 ≤ (-1)) ∨ (1 * x19 + ((-1) * cur_0 + 0) ≤ (-1))) (f12 : RUL (fault_0) (cur_0) (limit_0) (tokenKind_0) (tokenValue_0) (tokenPlace_0) (tokenEnd_0) (tape_0) (x19)) (f14 : (-1) * x11 + ((-1) * x19 + 0) ≤ (-2010)) (f16 : x8 = 0) (hK_0_1 : ∀ j : Int, 0 ≤ j → j < 2000 → (-128) ≤ tape_0 j ∧ tape_0 j ≤ 127) (hK_0_160 : ∀ j : Int, 0 ≤ j → j < 2010 → 0 ≤ tokenKind_0 j ∧ tokenKind_0 j ≤ 4) (hK_0_162 : ∀ j : Int, 0 ≤ j → j < 2010 → 0 ≤ tokenPlace_0 j ∧ tokenPlace_0 j ≤ 2000) (hK_0_163 : ∀ j : Int, 0 ≤ j → j < 2010 → 0 ≤ tokenEnd_0 j ∧ tokenEnd_0 j ≤ 2000) (kz_0_0 : 0 ≤ taped_0 ∧ taped_0 ≤ 2000) (kz_0_8 : 0 ≤ fault_0 ∧ fault_0 ≤ 5) (kz_0_10 : 0 ≤ limit_0 ∧ limit_0 ≤ 2000) (kz_0_157 : 0 ≤ tokens_0 ∧ tokens_0 ≤ 2010) (kz_0_158 : 0 ≤ cur_0 ∧ cur_0 ≤ 2009) (kz_0_159 : 0 ≤ opened_0 ∧ opened_0 ≤ 13) (ex2 : gx = 0 + (1 * x11 + 0)) (ex3 : 0 ≤ gx ∧ gx ≤ 2010) : fault_0 = 0 := by
  first
    | exact (sc1_go ‹SC1 _ _ _ _ _ _ _› ‹RUL _ _ _ _ _ _ _ _ _›).1
    | (have e := (sc1_go ‹SC1 _ _ _ _ _ _ _› ‹RUL _ _ _ _ _ _ _ _ _›).1; clear f4 f7 hK_0_1 hK_0_160 hK_0_162 hK_0_163; omega)
    | (first | with_reducible assumption | ((have f7_c0 := f7.1); (have f7_c1 := f7.2.1); (have f7_c2 := f7.2.2); (try and_intros) <;> first | with_reducible assumption | (clear f7_c2 f7 f11 hK_0_1 hK_0_160 hK_0_162 hK_0_163 f4; omega)) | ((have f7_c0 := f7.1); (have f7_c1 := f7.2.1); (have f7_c2 := f7.2.2); (first | have f4_b := f4 (by clear f7_c2 f7 f11 hK_0_1 hK_0_160 hK_0_162 hK_0_163 f4; omega) | skip); (first | have f4_d := f4 (by with_reducible assumption) | skip); (try and_intros) <;> first | with_reducible assumption | (clear f7_c2 f7 f11 hK_0_1 hK_0_160 hK_0_162 hK_0_163 f4; omega)) | ((have f7_c0 := f7.1); (have f7_c1 := f7.2.1); (have f7_c2 := f7.2.2); (first | have f4_b := f4 (by clear f7_c2 f7 f11 hK_0_1 hK_0_160 hK_0_162 hK_0_163 f4; omega) | skip); (first | have f4_d := f4 (by with_reducible assumption) | skip); (first | have f7_q := tk_nx0 f7 (by clear f7_c2 f7 f11 hK_0_1 hK_0_160 hK_0_162 hK_0_163 f4; omega) | skip); (try and_intros) <;> first | with_reducible assumption | (clear f7_c2 f7 f11 hK_0_1 hK_0_160 hK_0_162 hK_0_163 f4; omega)) | ((have f7_c0 := f7.1); (have f7_c1 := f7.2.1); (have f7_c2 := f7.2.2); (first | have f4_b := f4 (by clear f7_c2 f7 f11 hK_0_1 hK_0_160 hK_0_162 hK_0_163 f4; omega) | skip); (first | have f4_d := f4 (by with_reducible assumption) | skip); (try and_intros) <;> first | with_reducible assumption | (clear f7_c2 f7 hK_0_1 hK_0_160 hK_0_162 hK_0_163 f4; omega)) | omega)
set_option maxHeartbeats 4000000 in
theorem vc_Mo_style_22_6 (x3 : Int) (x8 : Int) (x9 : Int) (x11 : Int) (x19 : Int) (tokenKind_0 : Int → Int) (tokenValue_0 : Int → Int) (tokenPlace_0 : Int → Int) (tokenEnd_0 : Int → Int) (tape_0 : Int → Int) (limit_0 : Int) (taped_0 : Int) (cur_0 : Int) (tokens_0 : Int) (opened_0 : Int) (fault_0 : Int) (gx : Int) (k3 : 0 ≤ x3 ∧ x3 ≤ 2000) (k8 : 0 ≤ x8 ∧ x8 ≤ 0) (k9 : 0 ≤ x9 ∧ x9 ≤ 47) (k11 : 0 ≤ x11 ∧ x11 ≤ 2010) (k19 : 0 ≤ x19 ∧ x19 ≤ 2009) (f1 : SC1 (limit_0) (tokenKind_0) (tokenValue_0) (tokenPlace_0) (tokenEnd_0) (tape_0) (x19)) (f2 : (-1) * x11 + ((-1) * x19 + 0) ≤ (-2010)) (f3 : SOK (limit_0) (tokenKind_0) (tokenValue_0) (tokenPlace_0) (tokenEnd_0) (tape_0)) (f4 : (x8 = 0) → (x9 ≤ 23)) (f5 : taped_0 = x3) (f7 : ((cur_0 + 1) ≤ tokens_0) ∧ ((tokens_0 ≤ 2010) ∧ ((tokenKind_0 ((tokens_0 - 1)) = 0) ∨ (tokenKind_0 ((tokens_0 - 1)) = 4)))) (f8 : 1 * x19 + ((-1) * cur_0 + 0) ≤ 0) (f9 : 1 * opened_0 + 0 ≤ 0) (f10 : (-1) * opened_0 + 0 ≤ 0) (f11 : ((-1) * fault_0 + 0 ≤ (-1)) ∨ (1 * x19 + ((-1) * cur_0 + 0) ≤ (-1))) (f12 : RUL (fault_0) (cur_0) (limit_0) (tokenKind_0) (tokenValue_0) (tokenPlace_0) (tokenEnd_0) (tape_0) (x19)) (f14 : (-1) * x11 + ((-1) * x19 + 0) ≤ (-2010)) (f16 : x8 = 0) (hK_0_1 : ∀ j : Int, 0 ≤ j → j < 2000 → (-128) ≤ tape_0 j ∧ tape_0 j ≤ 127) (hK_0_160 : ∀ j : Int, 0 ≤ j → j < 2010 → 0 ≤ tokenKind_0 j ∧ tokenKind_0 j ≤ 4) (hK_0_162 : ∀ j : Int, 0 ≤ j → j < 2010 → 0 ≤ tokenPlace_0 j ∧ tokenPlace_0 j ≤ 2000) (hK_0_163 : ∀ j : Int, 0 ≤ j → j < 2010 → 0 ≤ tokenEnd_0 j ∧ tokenEnd_0 j ≤ 2000) (kz_0_0 : 0 ≤ taped_0 ∧ taped_0 ≤ 2000) (kz_0_8 : 0 ≤ fault_0 ∧ fault_0 ≤ 5) (kz_0_10 : 0 ≤ limit_0 ∧ limit_0 ≤ 2000) (kz_0_157 : 0 ≤ tokens_0 ∧ tokens_0 ≤ 2010) (kz_0_158 : 0 ≤ cur_0 ∧ cur_0 ≤ 2009) (kz_0_159 : 0 ≤ opened_0 ∧ opened_0 ≤ 13) (ex2 : gx = 0 + (1 * x11 + 0)) (ex3 : 0 ≤ gx ∧ gx ≤ 2010) : SOC (fault_0) (cur_0) (limit_0) (tokenKind_0) (tokenValue_0) (tokenPlace_0) (tokenEnd_0) (tape_0) := by
  first
    | assumption
    | exact soc_of (‹SOK _ _ _ _ _ _›) (by omega) (by omega)
    | exact sc1_go (‹SC1 _ _ _ _ _ _ _›) (‹RUL _ _ _ _ _ _ _ _ _›)
  
set_option maxHeartbeats 4000000 in
theorem vc_Mo_style_22_7 (x3 : Int) (x8 : Int) (x9 : Int) (x11 : Int) (x19 : Int) (tokenKind_0 : Int → Int) (tokenValue_0 : Int → Int) (tokenPlace_0 : Int → Int) (tokenEnd_0 : Int → Int) (tape_0 : Int → Int) (limit_0 : Int) (taped_0 : Int) (cur_0 : Int) (tokens_0 : Int) (opened_0 : Int) (fault_0 : Int) (gx : Int) (k3 : 0 ≤ x3 ∧ x3 ≤ 2000) (k8 : 0 ≤ x8 ∧ x8 ≤ 0) (k9 : 0 ≤ x9 ∧ x9 ≤ 47) (k11 : 0 ≤ x11 ∧ x11 ≤ 2010) (k19 : 0 ≤ x19 ∧ x19 ≤ 2009) (f1 : SC1 (limit_0) (tokenKind_0) (tokenValue_0) (tokenPlace_0) (tokenEnd_0) (tape_0) (x19)) (f2 : (-1) * x11 + ((-1) * x19 + 0) ≤ (-2010)) (f3 : SOK (limit_0) (tokenKind_0) (tokenValue_0) (tokenPlace_0) (tokenEnd_0) (tape_0)) (f4 : (x8 = 0) → (x9 ≤ 23)) (f5 : taped_0 = x3) (f7 : ((cur_0 + 1) ≤ tokens_0) ∧ ((tokens_0 ≤ 2010) ∧ ((tokenKind_0 ((tokens_0 - 1)) = 0) ∨ (tokenKind_0 ((tokens_0 - 1)) = 4)))) (f8 : 1 * x19 + ((-1) * cur_0 + 0) ≤ 0) (f9 : 1 * opened_0 + 0 ≤ 0) (f10 : (-1) * opened_0 + 0 ≤ 0) (f11 : ((-1) * fault_0 + 0 ≤ (-1)) ∨ (1 * x19 + ((-1) * cur_0 + 0) ≤ (-1))) (f12 : RUL (fault_0) (cur_0) (limit_0) (tokenKind_0) (tokenValue_0) (tokenPlace_0) (tokenEnd_0) (tape_0) (x19)) (f14 : (-1) * x11 + ((-1) * x19 + 0) ≤ (-2010)) (f16 : x8 = 0) (hK_0_1 : ∀ j : Int, 0 ≤ j → j < 2000 → (-128) ≤ tape_0 j ∧ tape_0 j ≤ 127) (hK_0_160 : ∀ j : Int, 0 ≤ j → j < 2010 → 0 ≤ tokenKind_0 j ∧ tokenKind_0 j ≤ 4) (hK_0_162 : ∀ j : Int, 0 ≤ j → j < 2010 → 0 ≤ tokenPlace_0 j ∧ tokenPlace_0 j ≤ 2000) (hK_0_163 : ∀ j : Int, 0 ≤ j → j < 2010 → 0 ≤ tokenEnd_0 j ∧ tokenEnd_0 j ≤ 2000) (kz_0_0 : 0 ≤ taped_0 ∧ taped_0 ≤ 2000) (kz_0_8 : 0 ≤ fault_0 ∧ fault_0 ≤ 5) (kz_0_10 : 0 ≤ limit_0 ∧ limit_0 ≤ 2000) (kz_0_157 : 0 ≤ tokens_0 ∧ tokens_0 ≤ 2010) (kz_0_158 : 0 ≤ cur_0 ∧ cur_0 ≤ 2009) (kz_0_159 : 0 ≤ opened_0 ∧ opened_0 ≤ 13) (ex2 : gx = 0 + (1 * x11 + 0)) (ex3 : 0 ≤ gx ∧ gx ≤ 2010) : (-1) * gx + ((-1) * cur_0 + 0) ≤ (-2011) := by
  first
    | exact (sc1_go ‹SC1 _ _ _ _ _ _ _› ‹RUL _ _ _ _ _ _ _ _ _›).1
    | (have e := (sc1_go ‹SC1 _ _ _ _ _ _ _› ‹RUL _ _ _ _ _ _ _ _ _›).1; clear f4 f7 hK_0_1 hK_0_160 hK_0_162 hK_0_163; omega)
    | (first | with_reducible assumption | ((have f7_c0 := f7.1); (have f7_c1 := f7.2.1); (have f7_c2 := f7.2.2); (try and_intros) <;> first | with_reducible assumption | (clear f7_c2 f7 f11 hK_0_1 hK_0_160 hK_0_162 hK_0_163 f4; omega)) | ((have f7_c0 := f7.1); (have f7_c1 := f7.2.1); (have f7_c2 := f7.2.2); (first | have f4_b := f4 (by clear f7_c2 f7 f11 hK_0_1 hK_0_160 hK_0_162 hK_0_163 f4; omega) | skip); (first | have f4_d := f4 (by with_reducible assumption) | skip); (try and_intros) <;> first | with_reducible assumption | (clear f7_c2 f7 f11 hK_0_1 hK_0_160 hK_0_162 hK_0_163 f4; omega)) | ((have f7_c0 := f7.1); (have f7_c1 := f7.2.1); (have f7_c2 := f7.2.2); (first | have f4_b := f4 (by clear f7_c2 f7 f11 hK_0_1 hK_0_160 hK_0_162 hK_0_163 f4; omega) | skip); (first | have f4_d := f4 (by with_reducible assumption) | skip); (first | have f7_q := tk_nx0 f7 (by clear f7_c2 f7 f11 hK_0_1 hK_0_160 hK_0_162 hK_0_163 f4; omega) | skip); (try and_intros) <;> first | with_reducible assumption | (clear f7_c2 f7 f11 hK_0_1 hK_0_160 hK_0_162 hK_0_163 f4; omega)) | ((have f7_c0 := f7.1); (have f7_c1 := f7.2.1); (have f7_c2 := f7.2.2); (first | have f4_b := f4 (by clear f7_c2 f7 f11 hK_0_1 hK_0_160 hK_0_162 hK_0_163 f4; omega) | skip); (first | have f4_d := f4 (by with_reducible assumption) | skip); (try and_intros) <;> first | with_reducible assumption | (clear f7_c2 f7 hK_0_1 hK_0_160 hK_0_162 hK_0_163 f4; omega)) | omega)
set_option maxHeartbeats 4000000 in
theorem vc_Mo_style_22_8 (x3 : Int) (x8 : Int) (x9 : Int) (x11 : Int) (x19 : Int) (tokenKind_0 : Int → Int) (tokenValue_0 : Int → Int) (tokenPlace_0 : Int → Int) (tokenEnd_0 : Int → Int) (tape_0 : Int → Int) (limit_0 : Int) (taped_0 : Int) (cur_0 : Int) (tokens_0 : Int) (opened_0 : Int) (fault_0 : Int) (gx : Int) (k3 : 0 ≤ x3 ∧ x3 ≤ 2000) (k8 : 0 ≤ x8 ∧ x8 ≤ 0) (k9 : 0 ≤ x9 ∧ x9 ≤ 47) (k11 : 0 ≤ x11 ∧ x11 ≤ 2010) (k19 : 0 ≤ x19 ∧ x19 ≤ 2009) (f1 : SC1 (limit_0) (tokenKind_0) (tokenValue_0) (tokenPlace_0) (tokenEnd_0) (tape_0) (x19)) (f2 : (-1) * x11 + ((-1) * x19 + 0) ≤ (-2010)) (f3 : SOK (limit_0) (tokenKind_0) (tokenValue_0) (tokenPlace_0) (tokenEnd_0) (tape_0)) (f4 : (x8 = 0) → (x9 ≤ 23)) (f5 : taped_0 = x3) (f7 : ((cur_0 + 1) ≤ tokens_0) ∧ ((tokens_0 ≤ 2010) ∧ ((tokenKind_0 ((tokens_0 - 1)) = 0) ∨ (tokenKind_0 ((tokens_0 - 1)) = 4)))) (f8 : 1 * x19 + ((-1) * cur_0 + 0) ≤ 0) (f9 : 1 * opened_0 + 0 ≤ 0) (f10 : (-1) * opened_0 + 0 ≤ 0) (f11 : ((-1) * fault_0 + 0 ≤ (-1)) ∨ (1 * x19 + ((-1) * cur_0 + 0) ≤ (-1))) (f12 : RUL (fault_0) (cur_0) (limit_0) (tokenKind_0) (tokenValue_0) (tokenPlace_0) (tokenEnd_0) (tape_0) (x19)) (f14 : (-1) * x11 + ((-1) * x19 + 0) ≤ (-2010)) (f16 : x8 = 0) (hK_0_1 : ∀ j : Int, 0 ≤ j → j < 2000 → (-128) ≤ tape_0 j ∧ tape_0 j ≤ 127) (hK_0_160 : ∀ j : Int, 0 ≤ j → j < 2010 → 0 ≤ tokenKind_0 j ∧ tokenKind_0 j ≤ 4) (hK_0_162 : ∀ j : Int, 0 ≤ j → j < 2010 → 0 ≤ tokenPlace_0 j ∧ tokenPlace_0 j ≤ 2000) (hK_0_163 : ∀ j : Int, 0 ≤ j → j < 2010 → 0 ≤ tokenEnd_0 j ∧ tokenEnd_0 j ≤ 2000) (kz_0_0 : 0 ≤ taped_0 ∧ taped_0 ≤ 2000) (kz_0_8 : 0 ≤ fault_0 ∧ fault_0 ≤ 5) (kz_0_10 : 0 ≤ limit_0 ∧ limit_0 ≤ 2000) (kz_0_157 : 0 ≤ tokens_0 ∧ tokens_0 ≤ 2010) (kz_0_158 : 0 ≤ cur_0 ∧ cur_0 ≤ 2009) (kz_0_159 : 0 ≤ opened_0 ∧ opened_0 ≤ 13) (ex2 : gx = 0 + (1 * x11 + 0)) (ex3 : 0 ≤ gx ∧ gx ≤ 2010) : taped_0 = x3 := by
  first
    | exact (sc1_go ‹SC1 _ _ _ _ _ _ _› ‹RUL _ _ _ _ _ _ _ _ _›).1
    | (have e := (sc1_go ‹SC1 _ _ _ _ _ _ _› ‹RUL _ _ _ _ _ _ _ _ _›).1; clear f4 f7 hK_0_1 hK_0_160 hK_0_162 hK_0_163; omega)
    | (first | with_reducible assumption | ((have f7_c0 := f7.1); (have f7_c1 := f7.2.1); (have f7_c2 := f7.2.2); (try and_intros) <;> first | with_reducible assumption | (clear f7_c2 f7 f11 hK_0_1 hK_0_160 hK_0_162 hK_0_163 f4; omega)) | ((have f7_c0 := f7.1); (have f7_c1 := f7.2.1); (have f7_c2 := f7.2.2); (first | have f4_b := f4 (by clear f7_c2 f7 f11 hK_0_1 hK_0_160 hK_0_162 hK_0_163 f4; omega) | skip); (first | have f4_d := f4 (by with_reducible assumption) | skip); (try and_intros) <;> first | with_reducible assumption | (clear f7_c2 f7 f11 hK_0_1 hK_0_160 hK_0_162 hK_0_163 f4; omega)) | ((have f7_c0 := f7.1); (have f7_c1 := f7.2.1); (have f7_c2 := f7.2.2); (first | have f4_b := f4 (by clear f7_c2 f7 f11 hK_0_1 hK_0_160 hK_0_162 hK_0_163 f4; omega) | skip); (first | have f4_d := f4 (by with_reducible assumption) | skip); (first | have f7_q := tk_nx0 f7 (by clear f7_c2 f7 f11 hK_0_1 hK_0_160 hK_0_162 hK_0_163 f4; omega) | skip); (try and_intros) <;> first | with_reducible assumption | (clear f7_c2 f7 f11 hK_0_1 hK_0_160 hK_0_162 hK_0_163 f4; omega)) | ((have f7_c0 := f7.1); (have f7_c1 := f7.2.1); (have f7_c2 := f7.2.2); (first | have f4_b := f4 (by clear f7_c2 f7 f11 hK_0_1 hK_0_160 hK_0_162 hK_0_163 f4; omega) | skip); (first | have f4_d := f4 (by with_reducible assumption) | skip); (try and_intros) <;> first | with_reducible assumption | (clear f7_c2 f7 hK_0_1 hK_0_160 hK_0_162 hK_0_163 f4; omega)) | omega)
def o_Mo_style_22 : or_T := (226, 20, [(0, (2, 0, 0, [165])), (3, (0, 0, 2000, [])), (4, (2, 0, 0, [165])), (8, (0, 0, 0, [])), (9, (0, 0, 47, [])), (11, (0, 0, 2010, [])), (12, (2, 0, 0, [274])), (19, (0, 0, 2009, []))], [(9, [12, 4], [160]), (20, [4, 19], [60, 1, 5, 73, 10, 160, 161, 162, 163, 1]), (23, [11, 19], [-2010, -1, -1]), (20, [4], [60, 1, 5, 74, 10, 160, 161, 162, 163, 1]), (20, [8, 9], [50, 0, 0, 4, 6, 1, 2, 1, 0, 0, 0, 0, 2, 1, 1, 0, 23]), (20, [4, 3], [50, 1, 0, 0, 1, 3, 2, 0, 0, 1, 1]), (24, [0, 4], []), (20, [4], [50, 2, 1, 158, 157, 160, 2, 12, 0, 7, 4, 3, 2, 0, 158, 0, 1, 2, 0, 157, 2, 7, 0, 3, 2, 0, 157, 0, 2010, 3, 14, 1, 10, 3, 0, 160, 5, 3, 2, 0, 157, 0, 1, 0, 0, 1, 10, 3, 0, 160, 5, 3, 2, 0, 157, 0, 1, 0, 4]), (20, [19, 4], [30, 0, 1, 0, 0, -1, 1, 158]), (20, [4], [30, 0, 1, 1, 159]), (20, [4], [30, 0, -1, 1, 159]), (20, [4, 19, 4], [31, 1, -1, -1, 1, 8, -1, 1, 0, 0, -1, 1, 158]), (20, [4, 19], [60, 3, 5, 64, 8, 158, 10, 160, 161, 162, 163, 1]), (102, [19], [13164036458569648337239753460458804039861886925068638906788872192, 165008, 165009, 165158, 165159, 165164]), (23, [11, 19], [-2010, -1, -1]), (101, [4, 18], [165]), (8, [8], [0])], [], [(0, 0, 2010, [])], [(20, [8, 9], [50, 0, 0, 4, 6, 1, 2, 1, 0, 0, 0, 0, 2, 1, 1, 0, 23]), (20, [4], [50, 2, 1, 158, 157, 160, 2, 12, 0, 7, 4, 3, 2, 0, 158, 0, 1, 2, 0, 157, 2, 7, 0, 3, 2, 0, 157, 0, 2010, 3, 14, 1, 10, 3, 0, 160, 5, 3, 2, 0, 157, 0, 1, 0, 0, 1, 10, 3, 0, 160, 5, 3, 2, 0, 157, 0, 1, 0, 4]), (20, [4], [30, 0, 1, 1, 159]), (20, [4], [30, 0, -1, 1, 159]), (20, [4], [60, 1, 5, 74, 10, 160, 161, 162, 163, 1]), (20, [4], [50, 1, 0, 8, 1, 3, 2, 0, 8, 0, 0]), (20, [4], [60, 3, 5, 71, 8, 158, 10, 160, 161, 162, 163, 1]), (20, [20, 4], [30, -2011, -1, 0, 0, -1, 1, 158]), (20, [4, 3], [50, 1, 0, 0, 1, 3, 2, 0, 0, 1, 1]), (24, [0, 4], [])], [(20, 11, 0, 0)], [])
theorem oo_Mo_style_22 {kA : Nat → ClassId} : or_ok PRD kA GG o_Mo_style_22 := by
  refine or_mk fun A ta ws vs hD hth hl => ?_
  intro t0 r0 t3 k3 t4 r4 t8 k8 t9 k9 t11 k11 t12 r12 t19 k19 f0 f1 f2 f3 f4 f5 f6 f7 f8 f9 f10 f11 f12 ta1 w1 le1 s1 f14 ta2 w2 le2 s2 f16
  replace f0 := shm_327 f0
  replace f1 := shm_2313 f1
  replace f2 := shm_2314 f2
  replace f3 := shm_2306 f3
  replace f4 := shm_2312 f4
  replace f5 := shm_570 f5
  replace f6 := shm_5 f6
  replace f7 := shm_271 f7
  replace f8 := shm_281 f8
  replace f9 := shm_1029 f9
  replace f10 := shm_1030 f10
  replace f11 := shm_2268 f11
  replace f12 := shm_2269 f12
  replace f14 := shm_2314 f14
  have s2 : (∀ b j, w_el w1 b j = w_el w2 b j) ∧ ∀ b j, w_fd w1 b j = if b = v_ad (n_v vs 4) ∧ j = 165 then n_v vs 18 else w_fd w2 b j := s2.2
  replace f16 := shm_192 f16
  have q4 : n_v vs 4 = n_v vs 0 := f6.symm
  simp only [q4] at f0 f1 f3 f5 f7 f8 f9 f10 f11 f12
  rw [q4] at s2
  have cr_0_1 := fdq_39 hD hth r0
  have cr_0_160 := fdq_33 hD hth r0
  have cr_0_161 := fdq_40 hD hth r0
  have cr_0_162 := fdq_41 hD hth r0
  have cr_0_163 := fdq_42 hD hth r0
  have ad_12 : v_ad (n_v vs 12) = w_ar ws (n_v vs 0) 160 := congrArg v_ad f0
  have hK_0_1 := elq_7 hD hth cr_0_1
  have hK_0_160 := elq_6 hD hth cr_0_160
  have hK_0_162 := elq_8 hD hth cr_0_162
  have hK_0_163 := elq_9 hD hth cr_0_163
  have kz_0_0 := fdq_148 hD hth r0
  have kz_0_8 := fdq_34 hD hth r0
  have kz_0_10 := fdq_43 hD hth r0
  have kz_0_157 := fdq_35 hD hth r0
  have kz_0_158 := fdq_36 hD hth r0
  have kz_0_159 := fdq_37 hD hth r0
  obtain ⟨x, ex, hx⟩ := iv_ex (ta := ta) (lo := 0) (hi := 2010) (z := 0 + (1 * v_iv (n_v vs 11) + 0)) (by omega) (by omega) (by omega) (by omega)
  have ex2 : v_iv (Value.int x) = 0 + (1 * v_iv (n_v vs 11) + 0) := ex
  have ex3 : 0 ≤ v_iv (Value.int x) ∧ v_iv (Value.int x) ≤ 2010 := tv_rng hx
  have e_0 : n_v (vs ++ [Value.int x]) 0 = n_v vs 0 := n_v_old (by rw [hl]; decide)
  have e_3 : n_v (vs ++ [Value.int x]) 3 = n_v vs 3 := n_v_old (by rw [hl]; decide)
  have e_4 : n_v (vs ++ [Value.int x]) 4 = n_v vs 4 := n_v_old (by rw [hl]; decide)
  have e_8 : n_v (vs ++ [Value.int x]) 8 = n_v vs 8 := n_v_old (by rw [hl]; decide)
  have e_9 : n_v (vs ++ [Value.int x]) 9 = n_v vs 9 := n_v_old (by rw [hl]; decide)
  have e_20 : n_v (vs ++ [Value.int x]) 20 = Value.int x := n_v_new hl
  have nf0 : fc_1 PRD (20, [8, 9], [50, 0, 0, 4, 6, 1, 2, 1, 0, 0, 0, 0, 2, 1, 1, 0, 23]) ws (vs ++ [Value.int x]) := by
    refine ⟨nf_inA hl rfl, sgq_2312 ?_⟩
    · show (v_iv (n_v (vs ++ [Value.int x]) 8) = 0) → (v_iv (n_v (vs ++ [Value.int x]) 9) ≤ 23)
      simp only [e_8, e_9]
      exact vc_Mo_style_22_0 (v_iv (n_v vs 3)) (v_iv (n_v vs 8)) (v_iv (n_v vs 9)) (v_iv (n_v vs 11)) (v_iv (n_v vs 19)) (w_ei ws (w_ar ws (n_v vs 0) 160)) (w_ei ws (w_ar ws (n_v vs 0) 161)) (w_ei ws (w_ar ws (n_v vs 0) 162)) (w_ei ws (w_ar ws (n_v vs 0) 163)) (w_ei ws (w_ar ws (n_v vs 0) 1)) (w_fi ws (n_v vs 0) 10) (w_fi ws (n_v vs 0) 0) (w_fi ws (n_v vs 0) 158) (w_fi ws (n_v vs 0) 157) (w_fi ws (n_v vs 0) 159) (w_fi ws (n_v vs 0) 8) (v_iv (Value.int x)) k3 k8 k9 k11 k19 f1 f2 f3 f4 f5 f7 f8 f9 f10 f11 f12 f14 f16 hK_0_1 hK_0_160 hK_0_162 hK_0_163 kz_0_0 kz_0_8 kz_0_10 kz_0_157 kz_0_158 kz_0_159 ex2 ex3
  have nf1 : fc_1 PRD (20, [4], [50, 2, 1, 158, 157, 160, 2, 12, 0, 7, 4, 3, 2, 0, 158, 0, 1, 2, 0, 157, 2, 7, 0, 3, 2, 0, 157, 0, 2010, 3, 14, 1, 10, 3, 0, 160, 5, 3, 2, 0, 157, 0, 1, 0, 0, 1, 10, 3, 0, 160, 5, 3, 2, 0, 157, 0, 1, 0, 4]) ws (vs ++ [Value.int x]) := by
    refine ⟨nf_inA hl rfl, sgq_271 ?_⟩
    · show ((w_fi ws (n_v (vs ++ [Value.int x]) 4) 158 + 1) ≤ w_fi ws (n_v (vs ++ [Value.int x]) 4) 157) ∧ ((w_fi ws (n_v (vs ++ [Value.int x]) 4) 157 ≤ 2010) ∧ ((w_ei ws (w_ar ws (n_v (vs ++ [Value.int x]) 4) 160) ((w_fi ws (n_v (vs ++ [Value.int x]) 4) 157 - 1)) = 0) ∨ (w_ei ws (w_ar ws (n_v (vs ++ [Value.int x]) 4) 160) ((w_fi ws (n_v (vs ++ [Value.int x]) 4) 157 - 1)) = 4)))
      simp only [e_4, q4]
      exact vc_Mo_style_22_1 (v_iv (n_v vs 3)) (v_iv (n_v vs 8)) (v_iv (n_v vs 9)) (v_iv (n_v vs 11)) (v_iv (n_v vs 19)) (w_ei ws (w_ar ws (n_v vs 0) 160)) (w_ei ws (w_ar ws (n_v vs 0) 161)) (w_ei ws (w_ar ws (n_v vs 0) 162)) (w_ei ws (w_ar ws (n_v vs 0) 163)) (w_ei ws (w_ar ws (n_v vs 0) 1)) (w_fi ws (n_v vs 0) 10) (w_fi ws (n_v vs 0) 0) (w_fi ws (n_v vs 0) 158) (w_fi ws (n_v vs 0) 157) (w_fi ws (n_v vs 0) 159) (w_fi ws (n_v vs 0) 8) (v_iv (Value.int x)) k3 k8 k9 k11 k19 f1 f2 f3 f4 f5 f7 f8 f9 f10 f11 f12 f14 f16 hK_0_1 hK_0_160 hK_0_162 hK_0_163 kz_0_0 kz_0_8 kz_0_10 kz_0_157 kz_0_158 kz_0_159 ex2 ex3
  have nf2 : fc_1 PRD (20, [4], [30, 0, 1, 1, 159]) ws (vs ++ [Value.int x]) := by
    refine ⟨nf_inA hl rfl, sgq_1029 ?_⟩
    · show 1 * w_fi ws (n_v (vs ++ [Value.int x]) 4) 159 + 0 ≤ 0
      simp only [e_4, q4]
      exact vc_Mo_style_22_2 (v_iv (n_v vs 3)) (v_iv (n_v vs 8)) (v_iv (n_v vs 9)) (v_iv (n_v vs 11)) (v_iv (n_v vs 19)) (w_ei ws (w_ar ws (n_v vs 0) 160)) (w_ei ws (w_ar ws (n_v vs 0) 161)) (w_ei ws (w_ar ws (n_v vs 0) 162)) (w_ei ws (w_ar ws (n_v vs 0) 163)) (w_ei ws (w_ar ws (n_v vs 0) 1)) (w_fi ws (n_v vs 0) 10) (w_fi ws (n_v vs 0) 0) (w_fi ws (n_v vs 0) 158) (w_fi ws (n_v vs 0) 157) (w_fi ws (n_v vs 0) 159) (w_fi ws (n_v vs 0) 8) (v_iv (Value.int x)) k3 k8 k9 k11 k19 f1 f2 f3 f4 f5 f7 f8 f9 f10 f11 f12 f14 f16 hK_0_1 hK_0_160 hK_0_162 hK_0_163 kz_0_0 kz_0_8 kz_0_10 kz_0_157 kz_0_158 kz_0_159 ex2 ex3
  have nf3 : fc_1 PRD (20, [4], [30, 0, -1, 1, 159]) ws (vs ++ [Value.int x]) := by
    refine ⟨nf_inA hl rfl, sgq_1030 ?_⟩
    · show (-1) * w_fi ws (n_v (vs ++ [Value.int x]) 4) 159 + 0 ≤ 0
      simp only [e_4, q4]
      exact vc_Mo_style_22_3 (v_iv (n_v vs 3)) (v_iv (n_v vs 8)) (v_iv (n_v vs 9)) (v_iv (n_v vs 11)) (v_iv (n_v vs 19)) (w_ei ws (w_ar ws (n_v vs 0) 160)) (w_ei ws (w_ar ws (n_v vs 0) 161)) (w_ei ws (w_ar ws (n_v vs 0) 162)) (w_ei ws (w_ar ws (n_v vs 0) 163)) (w_ei ws (w_ar ws (n_v vs 0) 1)) (w_fi ws (n_v vs 0) 10) (w_fi ws (n_v vs 0) 0) (w_fi ws (n_v vs 0) 158) (w_fi ws (n_v vs 0) 157) (w_fi ws (n_v vs 0) 159) (w_fi ws (n_v vs 0) 8) (v_iv (Value.int x)) k3 k8 k9 k11 k19 f1 f2 f3 f4 f5 f7 f8 f9 f10 f11 f12 f14 f16 hK_0_1 hK_0_160 hK_0_162 hK_0_163 kz_0_0 kz_0_8 kz_0_10 kz_0_157 kz_0_158 kz_0_159 ex2 ex3
  have nf4 : fc_1 PRD (20, [4], [60, 1, 5, 74, 10, 160, 161, 162, 163, 1]) ws (vs ++ [Value.int x]) := by
    refine ⟨nf_inA hl rfl, sgq_2306 ?_⟩
    · show SOK (w_fi ws (n_v (vs ++ [Value.int x]) 4) 10) (w_ei ws (w_ar ws (n_v (vs ++ [Value.int x]) 4) 160)) (w_ei ws (w_ar ws (n_v (vs ++ [Value.int x]) 4) 161)) (w_ei ws (w_ar ws (n_v (vs ++ [Value.int x]) 4) 162)) (w_ei ws (w_ar ws (n_v (vs ++ [Value.int x]) 4) 163)) (w_ei ws (w_ar ws (n_v (vs ++ [Value.int x]) 4) 1))
      simp only [e_4, q4]
      exact vc_Mo_style_22_4 (v_iv (n_v vs 3)) (v_iv (n_v vs 8)) (v_iv (n_v vs 9)) (v_iv (n_v vs 11)) (v_iv (n_v vs 19)) (w_ei ws (w_ar ws (n_v vs 0) 160)) (w_ei ws (w_ar ws (n_v vs 0) 161)) (w_ei ws (w_ar ws (n_v vs 0) 162)) (w_ei ws (w_ar ws (n_v vs 0) 163)) (w_ei ws (w_ar ws (n_v vs 0) 1)) (w_fi ws (n_v vs 0) 10) (w_fi ws (n_v vs 0) 0) (w_fi ws (n_v vs 0) 158) (w_fi ws (n_v vs 0) 157) (w_fi ws (n_v vs 0) 159) (w_fi ws (n_v vs 0) 8) (v_iv (Value.int x)) k3 k8 k9 k11 k19 f1 f2 f3 f4 f5 f7 f8 f9 f10 f11 f12 f14 f16 hK_0_1 hK_0_160 hK_0_162 hK_0_163 kz_0_0 kz_0_8 kz_0_10 kz_0_157 kz_0_158 kz_0_159 ex2 ex3
  have nf5 : fc_1 PRD (20, [4], [50, 1, 0, 8, 1, 3, 2, 0, 8, 0, 0]) ws (vs ++ [Value.int x]) := by
    refine ⟨nf_inA hl rfl, sgq_2156 ?_⟩
    · show w_fi ws (n_v (vs ++ [Value.int x]) 4) 8 = 0
      simp only [e_4, q4]
      exact vc_Mo_style_22_5 (v_iv (n_v vs 3)) (v_iv (n_v vs 8)) (v_iv (n_v vs 9)) (v_iv (n_v vs 11)) (v_iv (n_v vs 19)) (w_ei ws (w_ar ws (n_v vs 0) 160)) (w_ei ws (w_ar ws (n_v vs 0) 161)) (w_ei ws (w_ar ws (n_v vs 0) 162)) (w_ei ws (w_ar ws (n_v vs 0) 163)) (w_ei ws (w_ar ws (n_v vs 0) 1)) (w_fi ws (n_v vs 0) 10) (w_fi ws (n_v vs 0) 0) (w_fi ws (n_v vs 0) 158) (w_fi ws (n_v vs 0) 157) (w_fi ws (n_v vs 0) 159) (w_fi ws (n_v vs 0) 8) (v_iv (Value.int x)) k3 k8 k9 k11 k19 f1 f2 f3 f4 f5 f7 f8 f9 f10 f11 f12 f14 f16 hK_0_1 hK_0_160 hK_0_162 hK_0_163 kz_0_0 kz_0_8 kz_0_10 kz_0_157 kz_0_158 kz_0_159 ex2 ex3
  have nf6 : fc_1 PRD (20, [4], [60, 3, 5, 71, 8, 158, 10, 160, 161, 162, 163, 1]) ws (vs ++ [Value.int x]) := by
    refine ⟨nf_inA hl rfl, sgq_2311 ?_⟩
    · show SOC (w_fi ws (n_v (vs ++ [Value.int x]) 4) 8) (w_fi ws (n_v (vs ++ [Value.int x]) 4) 158) (w_fi ws (n_v (vs ++ [Value.int x]) 4) 10) (w_ei ws (w_ar ws (n_v (vs ++ [Value.int x]) 4) 160)) (w_ei ws (w_ar ws (n_v (vs ++ [Value.int x]) 4) 161)) (w_ei ws (w_ar ws (n_v (vs ++ [Value.int x]) 4) 162)) (w_ei ws (w_ar ws (n_v (vs ++ [Value.int x]) 4) 163)) (w_ei ws (w_ar ws (n_v (vs ++ [Value.int x]) 4) 1))
      simp only [e_4, q4]
      exact vc_Mo_style_22_6 (v_iv (n_v vs 3)) (v_iv (n_v vs 8)) (v_iv (n_v vs 9)) (v_iv (n_v vs 11)) (v_iv (n_v vs 19)) (w_ei ws (w_ar ws (n_v vs 0) 160)) (w_ei ws (w_ar ws (n_v vs 0) 161)) (w_ei ws (w_ar ws (n_v vs 0) 162)) (w_ei ws (w_ar ws (n_v vs 0) 163)) (w_ei ws (w_ar ws (n_v vs 0) 1)) (w_fi ws (n_v vs 0) 10) (w_fi ws (n_v vs 0) 0) (w_fi ws (n_v vs 0) 158) (w_fi ws (n_v vs 0) 157) (w_fi ws (n_v vs 0) 159) (w_fi ws (n_v vs 0) 8) (v_iv (Value.int x)) k3 k8 k9 k11 k19 f1 f2 f3 f4 f5 f7 f8 f9 f10 f11 f12 f14 f16 hK_0_1 hK_0_160 hK_0_162 hK_0_163 kz_0_0 kz_0_8 kz_0_10 kz_0_157 kz_0_158 kz_0_159 ex2 ex3
  have nf7 : fc_1 PRD (20, [20, 4], [30, -2011, -1, 0, 0, -1, 1, 158]) ws (vs ++ [Value.int x]) := by
    refine ⟨nf_inA hl rfl, sgq_292 ?_⟩
    · show (-1) * v_iv (n_v (vs ++ [Value.int x]) 20) + ((-1) * w_fi ws (n_v (vs ++ [Value.int x]) 4) 158 + 0) ≤ (-2011)
      simp only [e_4, e_20, q4]
      exact vc_Mo_style_22_7 (v_iv (n_v vs 3)) (v_iv (n_v vs 8)) (v_iv (n_v vs 9)) (v_iv (n_v vs 11)) (v_iv (n_v vs 19)) (w_ei ws (w_ar ws (n_v vs 0) 160)) (w_ei ws (w_ar ws (n_v vs 0) 161)) (w_ei ws (w_ar ws (n_v vs 0) 162)) (w_ei ws (w_ar ws (n_v vs 0) 163)) (w_ei ws (w_ar ws (n_v vs 0) 1)) (w_fi ws (n_v vs 0) 10) (w_fi ws (n_v vs 0) 0) (w_fi ws (n_v vs 0) 158) (w_fi ws (n_v vs 0) 157) (w_fi ws (n_v vs 0) 159) (w_fi ws (n_v vs 0) 8) (v_iv (Value.int x)) k3 k8 k9 k11 k19 f1 f2 f3 f4 f5 f7 f8 f9 f10 f11 f12 f14 f16 hK_0_1 hK_0_160 hK_0_162 hK_0_163 kz_0_0 kz_0_8 kz_0_10 kz_0_157 kz_0_158 kz_0_159 ex2 ex3
  have nf8 : fc_1 PRD (20, [4, 3], [50, 1, 0, 0, 1, 3, 2, 0, 0, 1, 1]) ws (vs ++ [Value.int x]) := by
    refine ⟨nf_inA hl rfl, sgq_570 ?_⟩
    · show w_fi ws (n_v (vs ++ [Value.int x]) 4) 0 = v_iv (n_v (vs ++ [Value.int x]) 3)
      simp only [e_3, e_4, q4]
      exact vc_Mo_style_22_8 (v_iv (n_v vs 3)) (v_iv (n_v vs 8)) (v_iv (n_v vs 9)) (v_iv (n_v vs 11)) (v_iv (n_v vs 19)) (w_ei ws (w_ar ws (n_v vs 0) 160)) (w_ei ws (w_ar ws (n_v vs 0) 161)) (w_ei ws (w_ar ws (n_v vs 0) 162)) (w_ei ws (w_ar ws (n_v vs 0) 163)) (w_ei ws (w_ar ws (n_v vs 0) 1)) (w_fi ws (n_v vs 0) 10) (w_fi ws (n_v vs 0) 0) (w_fi ws (n_v vs 0) 158) (w_fi ws (n_v vs 0) 157) (w_fi ws (n_v vs 0) 159) (w_fi ws (n_v vs 0) 8) (v_iv (Value.int x)) k3 k8 k9 k11 k19 f1 f2 f3 f4 f5 f7 f8 f9 f10 f11 f12 f14 f16 hK_0_1 hK_0_160 hK_0_162 hK_0_163 kz_0_0 kz_0_8 kz_0_10 kz_0_157 kz_0_158 kz_0_159 ex2 ex3
  have nf9 : fc_1 PRD (24, [0, 4], []) ws (vs ++ [Value.int x]) := by
    refine ⟨nf_inA hl rfl, sgq_5 ?_⟩
    · show n_v (vs ++ [Value.int x]) 0 = n_v (vs ++ [Value.int x]) 4
      first | rfl | simp only [e_0, e_4, q4]
  obtain ⟨x0, e0, _, _⟩ := tv_int t11 rfl
  have e1 : v_iv (n_v vs 11) = x0.toInt := by rw [e0]; rfl
  have ho : sy_ofs (vs ++ [Value.int x]) (20, 11, 0, 0) := by
    refine ⟨x, x0, by rw [List.getElem?_append_right (by rw [hl]; decide), hl]; rfl, ?_, ?_, ?_⟩
    · rw [List.getElem?_append_left (by rw [hl]; decide)]; exact n_v_some (by rw [hl]; decide) e0
    · show x0.toInt + 0 ≤ x.toInt; omega
    · show x.toInt ≤ x0.toInt + 0; omega
  exact ⟨(fun _ h => (by cases h)), [Value.int x], ag_one hx, List.forall_mem_cons.mpr ⟨⟨show (20 : Nat) < 100 from by decide, nf0⟩, List.forall_mem_cons.mpr ⟨⟨show (20 : Nat) < 100 from by decide, nf1⟩, List.forall_mem_cons.mpr ⟨⟨show (20 : Nat) < 100 from by decide, nf2⟩, List.forall_mem_cons.mpr ⟨⟨show (20 : Nat) < 100 from by decide, nf3⟩, List.forall_mem_cons.mpr ⟨⟨show (20 : Nat) < 100 from by decide, nf4⟩, List.forall_mem_cons.mpr ⟨⟨show (20 : Nat) < 100 from by decide, nf5⟩, List.forall_mem_cons.mpr ⟨⟨show (20 : Nat) < 100 from by decide, nf6⟩, List.forall_mem_cons.mpr ⟨⟨show (20 : Nat) < 100 from by decide, nf7⟩, List.forall_mem_cons.mpr ⟨⟨show (20 : Nat) < 100 from by decide, nf8⟩, List.forall_mem_cons.mpr ⟨⟨show (24 : Nat) < 100 from by decide, nf9⟩, (fun _ h => (by cases h))⟩⟩⟩⟩⟩⟩⟩⟩⟩⟩, List.forall_mem_cons.mpr ⟨ho, (fun _ h => (by cases h))⟩⟩
set_option maxHeartbeats 4000000 in
theorem vc_Mo_style_23_0 (x3 : Int) (x8 : Int) (x9 : Int) (x11 : Int) (x13 : Int) (x16 : Int) (x17 : Int) (styleOne_0 : Int) (cur_0 : Int) (tokenKind_0 : Int → Int) (tokens_0 : Int) (opened_0 : Int) (tokenValue_0 : Int → Int) (tokenPlace_0 : Int → Int) (tokenEnd_0 : Int → Int) (tape_0 : Int → Int) (limit_0 : Int) (fault_0 : Int) (taped_0 : Int) (tokenKind_1 : Int → Int) (cur_1 : Int) (tokens_1 : Int) (opened_1 : Int) (tokenValue_1 : Int → Int) (tokenPlace_1 : Int → Int) (tokenEnd_1 : Int → Int) (tape_1 : Int → Int) (limit_1 : Int) (fault_1 : Int) (taped_1 : Int) (gx : Int) (k3 : 0 ≤ x3 ∧ x3 ≤ 2000) (k8 : 0 ≤ x8 ∧ x8 ≤ 0) (k9 : 0 ≤ x9 ∧ x9 ≤ 47) (k11 : 0 ≤ x11 ∧ x11 ≤ 2010) (k13 : 0 ≤ x13 ∧ x13 ≤ 2009) (k16 : 1 ≤ x16 ∧ x16 ≤ 1) (k17 : 1 ≤ x17 ∧ x17 ≤ 1) (g0 : x9 = styleOne_0) (g1 : x13 = cur_0) (f3 : tokenKind_0 (cur_0) ≠ 0) (f4 : ((cur_0 + 1) ≤ tokens_0) ∧ ((tokens_0 ≤ 2010) ∧ ((tokenKind_0 ((tokens_0 - 1)) = 0) ∨ (tokenKind_0 ((tokens_0 - 1)) = 4)))) (f5 : 1 * opened_0 + 0 ≤ 0) (f6 : (-1) * opened_0 + 0 ≤ 0) (f7 : SOK (limit_0) (tokenKind_0) (tokenValue_0) (tokenPlace_0) (tokenEnd_0) (tape_0)) (f8 : fault_0 = 0) (f9 : SOC (fault_0) (cur_0) (limit_0) (tokenKind_0) (tokenValue_0) (tokenPlace_0) (tokenEnd_0) (tape_0)) (f10 : (x8 = 0) → (x9 ≤ 23)) (f11 : taped_0 = x3) (f13 : 1 * x11 + (1 * cur_0 + 0) ≤ 2010) (f14 : (-1) * x11 + ((-1) * cur_0 + 0) ≤ (-2010)) (f15 : (x16 = 1) → (tokenKind_0 (cur_0) = 1)) (f16 : (x16 = 1) → ((fault_0 = 0) ∧ ((tokenKind_0 (cur_0) = 1) ∧ ((tokenEnd_0 (cur_0) = (tokenPlace_0 (cur_0) + 4)) ∧ (((tokenPlace_0 (cur_0) + 4) ≤ limit_0) ∧ (((tape_0 ((tokenPlace_0 (cur_0) + 0)) % 256) = 110) ∧ (((tape_0 ((tokenPlace_0 (cur_0) + 1)) % 256) = 111) ∧ (((tape_0 ((tokenPlace_0 (cur_0) + 2)) % 256) = 100) ∧ ((tape_0 ((tokenPlace_0 (cur_0) + 3)) % 256) = 101))))))))) (f17 : ((fault_0 = 0) ∧ ((tokenKind_0 (cur_0) = 1) ∧ ((tokenEnd_0 (cur_0) = (tokenPlace_0 (cur_0) + 4)) ∧ (((tokenPlace_0 (cur_0) + 4) ≤ limit_0) ∧ (((tape_0 ((tokenPlace_0 (cur_0) + 0)) % 256) = 110) ∧ (((tape_0 ((tokenPlace_0 (cur_0) + 1)) % 256) = 111) ∧ (((tape_0 ((tokenPlace_0 (cur_0) + 2)) % 256) = 100) ∧ ((tape_0 ((tokenPlace_0 (cur_0) + 3)) % 256) = 101)))))))) → (x16 = 1)) (f18 : Wqnode (fault_0) (cur_0) (limit_0) (tokenKind_0) (tokenPlace_0) (tokenEnd_0) (tape_0) (x16)) (f20 : x16 = x17) (f21 : x8 = 0) (f22 : tokenKind_1 (cur_1) ≠ 0) (f23 : ((cur_1 + 1) ≤ tokens_1) ∧ ((tokens_1 ≤ 2010) ∧ ((tokenKind_1 ((tokens_1 - 1)) = 0) ∨ (tokenKind_1 ((tokens_1 - 1)) = 4)))) (f24 : 1 * opened_1 + 0 ≤ 0) (f25 : (-1) * opened_1 + 0 ≤ 0) (f26 : SOK (limit_1) (tokenKind_1) (tokenValue_1) (tokenPlace_1) (tokenEnd_1) (tape_1)) (f27 : fault_1 = 0) (f28 : SOC (fault_1) (cur_1) (limit_1) (tokenKind_1) (tokenValue_1) (tokenPlace_1) (tokenEnd_1) (tape_1)) (f29 : (x8 = 0) → (x9 ≤ 23)) (f30 : taped_1 = x3) (f31 : 1 * x11 + (1 * cur_1 + 0) ≤ 2010) (f32 : (-1) * x11 + ((-1) * cur_1 + 0) ≤ (-2010)) (f33 : (x16 = 1) → (tokenKind_1 (cur_1) = 1)) (f34 : (x16 = 1) → ((fault_1 = 0) ∧ ((tokenKind_1 (cur_1) = 1) ∧ ((tokenEnd_1 (cur_1) = (tokenPlace_1 (cur_1) + 4)) ∧ (((tokenPlace_1 (cur_1) + 4) ≤ limit_1) ∧ (((tape_1 ((tokenPlace_1 (cur_1) + 0)) % 256) = 110) ∧ (((tape_1 ((tokenPlace_1 (cur_1) + 1)) % 256) = 111) ∧ (((tape_1 ((tokenPlace_1 (cur_1) + 2)) % 256) = 100) ∧ ((tape_1 ((tokenPlace_1 (cur_1) + 3)) % 256) = 101))))))))) (f35 : ((fault_1 = 0) ∧ ((tokenKind_1 (cur_1) = 1) ∧ ((tokenEnd_1 (cur_1) = (tokenPlace_1 (cur_1) + 4)) ∧ (((tokenPlace_1 (cur_1) + 4) ≤ limit_1) ∧ (((tape_1 ((tokenPlace_1 (cur_1) + 0)) % 256) = 110) ∧ (((tape_1 ((tokenPlace_1 (cur_1) + 1)) % 256) = 111) ∧ (((tape_1 ((tokenPlace_1 (cur_1) + 2)) % 256) = 100) ∧ ((tape_1 ((tokenPlace_1 (cur_1) + 3)) % 256) = 101)))))))) → (x16 = 1)) (f36 : Wqnode (fault_1) (cur_1) (limit_1) (tokenKind_1) (tokenPlace_1) (tokenEnd_1) (tape_1) (x16)) (fe_0_0_1 : taped_0 = taped_1) (fe_0_8_1 : fault_0 = fault_1) (fe_0_10_1 : limit_0 = limit_1) (fe_0_157_1 : tokens_0 = tokens_1) (fe_0_158_1 : cur_0 = cur_1) (fe_0_159_1 : opened_0 = opened_1) (fe_0_165_1 : styleOne_0 = x9) (hE_0_1_1 : ∀ j : Int, tape_0 j = tape_1 j) (hK_0_1 : ∀ j : Int, 0 ≤ j → j < 2000 → (-128) ≤ tape_0 j ∧ tape_0 j ≤ 127) (hE_0_160_1 : ∀ j : Int, tokenKind_0 j = tokenKind_1 j) (hK_0_160 : ∀ j : Int, 0 ≤ j → j < 2010 → 0 ≤ tokenKind_0 j ∧ tokenKind_0 j ≤ 4) (hE_0_161_1 : ∀ j : Int, tokenValue_0 j = tokenValue_1 j) (hE_0_162_1 : ∀ j : Int, tokenPlace_0 j = tokenPlace_1 j) (hK_0_162 : ∀ j : Int, 0 ≤ j → j < 2010 → 0 ≤ tokenPlace_0 j ∧ tokenPlace_0 j ≤ 2000) (hE_0_163_1 : ∀ j : Int, tokenEnd_0 j = tokenEnd_1 j) (hK_0_163 : ∀ j : Int, 0 ≤ j → j < 2010 → 0 ≤ tokenEnd_0 j ∧ tokenEnd_0 j ≤ 2000) (kz_0_0 : 0 ≤ taped_0 ∧ taped_0 ≤ 2000) (kz_0_8 : 0 ≤ fault_0 ∧ fault_0 ≤ 5) (kz_0_10 : 0 ≤ limit_0 ∧ limit_0 ≤ 2000) (kz_0_157 : 0 ≤ tokens_0 ∧ tokens_0 ≤ 2010) (kz_0_158 : 0 ≤ cur_0 ∧ cur_0 ≤ 2009) (kz_0_159 : 0 ≤ opened_0 ∧ opened_0 ≤ 13) (kz_0_165 : (-1) ≤ styleOne_0 ∧ styleOne_0 ≤ 47) (ex2 : gx = cur_0) (ex3 : 0 ≤ gx ∧ gx ≤ 2009) : ((cur_0 + 1) ≤ tokens_0) ∧ ((tokens_0 ≤ 2010) ∧ ((tokenKind_0 ((tokens_0 - 1)) = 0) ∨ (tokenKind_0 ((tokens_0 - 1)) = 4))) := by
  subst fe_0_0_1
  subst fe_0_8_1
  subst fe_0_10_1
  subst fe_0_157_1
  subst fe_0_158_1
  subst fe_0_159_1
  have e_hE_0_1_1 := funext hE_0_1_1; subst e_hE_0_1_1
  have e_hE_0_160_1 := funext hE_0_160_1; subst e_hE_0_160_1
  have e_hE_0_161_1 := funext hE_0_161_1; subst e_hE_0_161_1
  have e_hE_0_162_1 := funext hE_0_162_1; subst e_hE_0_162_1
  have e_hE_0_163_1 := funext hE_0_163_1; subst e_hE_0_163_1
  first | with_reducible assumption | ((have f4_c0 := f4.1); (have f4_c1 := f4.2.1); (have f4_c2 := f4.2.2); (have f23_c0 := f23.1); (have f23_c1 := f23.2.1); (have f23_c2 := f23.2.2); (try and_intros) <;> first | with_reducible assumption | (clear f4_c2 f4 f23_c2 f23 hE_0_1_1 hK_0_1 hE_0_160_1 hK_0_160 hE_0_161_1 hE_0_162_1 hK_0_162 hE_0_163_1 hK_0_163 f10 f15 f16 f17 f29 f33 f34 f35; omega)) | ((have f4_c0 := f4.1); (have f4_c1 := f4.2.1); (have f4_c2 := f4.2.2); (have f23_c0 := f23.1); (have f23_c1 := f23.2.1); (have f23_c2 := f23.2.2); (first | have f10_b := f10 (by clear f4_c2 f4 f23_c2 f23 hE_0_1_1 hK_0_1 hE_0_160_1 hK_0_160 hE_0_161_1 hE_0_162_1 hK_0_162 hE_0_163_1 hK_0_163 f10 f15 f16 f17 f29 f33 f34 f35; omega) | skip); (first | have f15_b := f15 (by clear f4_c2 f4 f23_c2 f23 hE_0_1_1 hK_0_1 hE_0_160_1 hK_0_160 hE_0_161_1 hE_0_162_1 hK_0_162 hE_0_163_1 hK_0_163 f10 f15 f16 f17 f29 f33 f34 f35; omega) | skip); (first | have f16_b := f16 (by clear f4_c2 f4 f23_c2 f23 hE_0_1_1 hK_0_1 hE_0_160_1 hK_0_160 hE_0_161_1 hE_0_162_1 hK_0_162 hE_0_163_1 hK_0_163 f10 f15 f16 f17 f29 f33 f34 f35; omega) | skip); (first | have f29_b := f29 (by clear f4_c2 f4 f23_c2 f23 hE_0_1_1 hK_0_1 hE_0_160_1 hK_0_160 hE_0_161_1 hE_0_162_1 hK_0_162 hE_0_163_1 hK_0_163 f10 f15 f16 f17 f29 f33 f34 f35; omega) | skip); (first | have f33_b := f33 (by clear f4_c2 f4 f23_c2 f23 hE_0_1_1 hK_0_1 hE_0_160_1 hK_0_160 hE_0_161_1 hE_0_162_1 hK_0_162 hE_0_163_1 hK_0_163 f10 f15 f16 f17 f29 f33 f34 f35; omega) | skip); (first | have f34_b := f34 (by clear f4_c2 f4 f23_c2 f23 hE_0_1_1 hK_0_1 hE_0_160_1 hK_0_160 hE_0_161_1 hE_0_162_1 hK_0_162 hE_0_163_1 hK_0_163 f10 f15 f16 f17 f29 f33 f34 f35; omega) | skip); (first | have f10_d := f10 (by with_reducible assumption) | skip); (first | have f15_d := f15 (by with_reducible assumption) | skip); (first | have f16_d := f16 (by with_reducible assumption) | skip); (first | have f17_d := f17 (by with_reducible assumption) | skip); (first | have f29_d := f29 (by with_reducible assumption) | skip); (first | have f33_d := f33 (by with_reducible assumption) | skip); (first | have f34_d := f34 (by with_reducible assumption) | skip); (first | have f35_d := f35 (by with_reducible assumption) | skip); (try and_intros) <;> first | with_reducible assumption | (clear f4_c2 f4 f23_c2 f23 hE_0_1_1 hK_0_1 hE_0_160_1 hK_0_160 hE_0_161_1 hE_0_162_1 hK_0_162 hE_0_163_1 hK_0_163 f10 f15 f16 f17 f29 f33 f34 f35; omega)) | ((have f4_c0 := f4.1); (have f4_c1 := f4.2.1); (have f4_c2 := f4.2.2); (have f23_c0 := f23.1); (have f23_c1 := f23.2.1); (have f23_c2 := f23.2.2); (first | have f10_b := f10 (by clear f4_c2 f4 f23_c2 f23 hE_0_1_1 hK_0_1 hE_0_160_1 hK_0_160 hE_0_161_1 hE_0_162_1 hK_0_162 hE_0_163_1 hK_0_163 f10 f15 f16 f17 f29 f33 f34 f35; omega) | skip); (first | have f15_b := f15 (by clear f4_c2 f4 f23_c2 f23 hE_0_1_1 hK_0_1 hE_0_160_1 hK_0_160 hE_0_161_1 hE_0_162_1 hK_0_162 hE_0_163_1 hK_0_163 f10 f15 f16 f17 f29 f33 f34 f35; omega) | skip); (first | have f16_b := f16 (by clear f4_c2 f4 f23_c2 f23 hE_0_1_1 hK_0_1 hE_0_160_1 hK_0_160 hE_0_161_1 hE_0_162_1 hK_0_162 hE_0_163_1 hK_0_163 f10 f15 f16 f17 f29 f33 f34 f35; omega) | skip); (first | have f29_b := f29 (by clear f4_c2 f4 f23_c2 f23 hE_0_1_1 hK_0_1 hE_0_160_1 hK_0_160 hE_0_161_1 hE_0_162_1 hK_0_162 hE_0_163_1 hK_0_163 f10 f15 f16 f17 f29 f33 f34 f35; omega) | skip); (first | have f33_b := f33 (by clear f4_c2 f4 f23_c2 f23 hE_0_1_1 hK_0_1 hE_0_160_1 hK_0_160 hE_0_161_1 hE_0_162_1 hK_0_162 hE_0_163_1 hK_0_163 f10 f15 f16 f17 f29 f33 f34 f35; omega) | skip); (first | have f34_b := f34 (by clear f4_c2 f4 f23_c2 f23 hE_0_1_1 hK_0_1 hE_0_160_1 hK_0_160 hE_0_161_1 hE_0_162_1 hK_0_162 hE_0_163_1 hK_0_163 f10 f15 f16 f17 f29 f33 f34 f35; omega) | skip); (first | have f10_d := f10 (by with_reducible assumption) | skip); (first | have f15_d := f15 (by with_reducible assumption) | skip); (first | have f16_d := f16 (by with_reducible assumption) | skip); (first | have f17_d := f17 (by with_reducible assumption) | skip); (first | have f29_d := f29 (by with_reducible assumption) | skip); (first | have f33_d := f33 (by with_reducible assumption) | skip); (first | have f34_d := f34 (by with_reducible assumption) | skip); (first | have f35_d := f35 (by with_reducible assumption) | skip); (first | have f4_q := tk_nx0 f4 (by clear f4_c2 f4 f23_c2 f23 hE_0_1_1 hK_0_1 hE_0_160_1 hK_0_160 hE_0_161_1 hE_0_162_1 hK_0_162 hE_0_163_1 hK_0_163 f10 f15 f16 f17 f29 f33 f34 f35; omega) | skip); (first | have f23_q := tk_nx0 f23 (by clear f4_c2 f4 f23_c2 f23 hE_0_1_1 hK_0_1 hE_0_160_1 hK_0_160 hE_0_161_1 hE_0_162_1 hK_0_162 hE_0_163_1 hK_0_163 f10 f15 f16 f17 f29 f33 f34 f35; omega) | skip); (try and_intros) <;> first | with_reducible assumption | (clear f4_c2 f4 f23_c2 f23 hE_0_1_1 hK_0_1 hE_0_160_1 hK_0_160 hE_0_161_1 hE_0_162_1 hK_0_162 hE_0_163_1 hK_0_163 f10 f15 f16 f17 f29 f33 f34 f35; omega)) | ((have f4_c0 := f4.1); (have f4_c1 := f4.2.1); (have f4_c2 := f4.2.2); (have f23_c0 := f23.1); (have f23_c1 := f23.2.1); (have f23_c2 := f23.2.2); (first | have f10_b := f10 (by clear f4_c2 f4 f23_c2 f23 hE_0_1_1 hK_0_1 hE_0_160_1 hK_0_160 hE_0_161_1 hE_0_162_1 hK_0_162 hE_0_163_1 hK_0_163 f10 f15 f16 f17 f29 f33 f34 f35; omega) | skip); (first | have f15_b := f15 (by clear f4_c2 f4 f23_c2 f23 hE_0_1_1 hK_0_1 hE_0_160_1 hK_0_160 hE_0_161_1 hE_0_162_1 hK_0_162 hE_0_163_1 hK_0_163 f10 f15 f16 f17 f29 f33 f34 f35; omega) | skip); (first | have f16_b := f16 (by clear f4_c2 f4 f23_c2 f23 hE_0_1_1 hK_0_1 hE_0_160_1 hK_0_160 hE_0_161_1 hE_0_162_1 hK_0_162 hE_0_163_1 hK_0_163 f10 f15 f16 f17 f29 f33 f34 f35; omega) | skip); (first | have f29_b := f29 (by clear f4_c2 f4 f23_c2 f23 hE_0_1_1 hK_0_1 hE_0_160_1 hK_0_160 hE_0_161_1 hE_0_162_1 hK_0_162 hE_0_163_1 hK_0_163 f10 f15 f16 f17 f29 f33 f34 f35; omega) | skip); (first | have f33_b := f33 (by clear f4_c2 f4 f23_c2 f23 hE_0_1_1 hK_0_1 hE_0_160_1 hK_0_160 hE_0_161_1 hE_0_162_1 hK_0_162 hE_0_163_1 hK_0_163 f10 f15 f16 f17 f29 f33 f34 f35; omega) | skip); (first | have f34_b := f34 (by clear f4_c2 f4 f23_c2 f23 hE_0_1_1 hK_0_1 hE_0_160_1 hK_0_160 hE_0_161_1 hE_0_162_1 hK_0_162 hE_0_163_1 hK_0_163 f10 f15 f16 f17 f29 f33 f34 f35; omega) | skip); (first | have f10_d := f10 (by with_reducible assumption) | skip); (first | have f15_d := f15 (by with_reducible assumption) | skip); (first | have f16_d := f16 (by with_reducible assumption) | skip); (first | have f17_d := f17 (by with_reducible assumption) | skip); (first | have f29_d := f29 (by with_reducible assumption) | skip); (first | have f33_d := f33 (by with_reducible assumption) | skip); (first | have f34_d := f34 (by with_reducible assumption) | skip); (first | have f35_d := f35 (by with_reducible assumption) | skip); (first | have f4_q := tk_nx0 f4 (by clear f4_c2 f4 f23_c2 f23 hE_0_1_1 hK_0_1 hE_0_160_1 hK_0_160 hE_0_161_1 hE_0_162_1 hK_0_162 hE_0_163_1 hK_0_163 f10 f15 f16 f17 f29 f33 f34 f35; omega) | skip); (first | have f23_q := tk_nx0 f23 (by clear f4_c2 f4 f23_c2 f23 hE_0_1_1 hK_0_1 hE_0_160_1 hK_0_160 hE_0_161_1 hE_0_162_1 hK_0_162 hE_0_163_1 hK_0_163 f10 f15 f16 f17 f29 f33 f34 f35; omega) | skip); (first | have f4_r0 := tk_nx1 (c := cur_0) f4.2 (by clear f4_c2 f4 f23_c2 f23 hE_0_1_1 hK_0_1 hE_0_160_1 hK_0_160 hE_0_161_1 hE_0_162_1 hK_0_162 hE_0_163_1 hK_0_163 f10 f15 f16 f17 f29 f33 f34 f35; omega) (by clear f4_c2 f4 f23_c2 f23 hE_0_1_1 hK_0_1 hE_0_160_1 hK_0_160 hE_0_161_1 hE_0_162_1 hK_0_162 hE_0_163_1 hK_0_163 f10 f15 f16 f17 f29 f33 f34 f35; omega) | skip); (first | have f4_r1 := tk_nx1 (c := cur_1) f4.2 (by clear f4_c2 f4 f23_c2 f23 hE_0_1_1 hK_0_1 hE_0_160_1 hK_0_160 hE_0_161_1 hE_0_162_1 hK_0_162 hE_0_163_1 hK_0_163 f10 f15 f16 f17 f29 f33 f34 f35; omega) (by clear f4_c2 f4 f23_c2 f23 hE_0_1_1 hK_0_1 hE_0_160_1 hK_0_160 hE_0_161_1 hE_0_162_1 hK_0_162 hE_0_163_1 hK_0_163 f10 f15 f16 f17 f29 f33 f34 f35; omega) | skip); (first | have f23_r0 := tk_nx1 (c := cur_0) f23.2 (by clear f4_c2 f4 f23_c2 f23 hE_0_1_1 hK_0_1 hE_0_160_1 hK_0_160 hE_0_161_1 hE_0_162_1 hK_0_162 hE_0_163_1 hK_0_163 f10 f15 f16 f17 f29 f33 f34 f35; omega) (by clear f4_c2 f4 f23_c2 f23 hE_0_1_1 hK_0_1 hE_0_160_1 hK_0_160 hE_0_161_1 hE_0_162_1 hK_0_162 hE_0_163_1 hK_0_163 f10 f15 f16 f17 f29 f33 f34 f35; omega) | skip); (first | have f23_r1 := tk_nx1 (c := cur_1) f23.2 (by clear f4_c2 f4 f23_c2 f23 hE_0_1_1 hK_0_1 hE_0_160_1 hK_0_160 hE_0_161_1 hE_0_162_1 hK_0_162 hE_0_163_1 hK_0_163 f10 f15 f16 f17 f29 f33 f34 f35; omega) (by clear f4_c2 f4 f23_c2 f23 hE_0_1_1 hK_0_1 hE_0_160_1 hK_0_160 hE_0_161_1 hE_0_162_1 hK_0_162 hE_0_163_1 hK_0_163 f10 f15 f16 f17 f29 f33 f34 f35; omega) | skip); (try and_intros) <;> first | with_reducible assumption | (clear f4_c2 f4 f23_c2 f23 hE_0_1_1 hK_0_1 hE_0_160_1 hK_0_160 hE_0_161_1 hE_0_162_1 hK_0_162 hE_0_163_1 hK_0_163 f10 f15 f16 f17 f29 f33 f34 f35; omega)) | omega
set_option maxHeartbeats 4000000 in
theorem vc_Mo_style_23_1 (x3 : Int) (x8 : Int) (x9 : Int) (x11 : Int) (x13 : Int) (x16 : Int) (x17 : Int) (styleOne_0 : Int) (cur_0 : Int) (tokenKind_0 : Int → Int) (tokens_0 : Int) (opened_0 : Int) (tokenValue_0 : Int → Int) (tokenPlace_0 : Int → Int) (tokenEnd_0 : Int → Int) (tape_0 : Int → Int) (limit_0 : Int) (fault_0 : Int) (taped_0 : Int) (tokenKind_1 : Int → Int) (cur_1 : Int) (tokens_1 : Int) (opened_1 : Int) (tokenValue_1 : Int → Int) (tokenPlace_1 : Int → Int) (tokenEnd_1 : Int → Int) (tape_1 : Int → Int) (limit_1 : Int) (fault_1 : Int) (taped_1 : Int) (gx : Int) (k3 : 0 ≤ x3 ∧ x3 ≤ 2000) (k8 : 0 ≤ x8 ∧ x8 ≤ 0) (k9 : 0 ≤ x9 ∧ x9 ≤ 47) (k11 : 0 ≤ x11 ∧ x11 ≤ 2010) (k13 : 0 ≤ x13 ∧ x13 ≤ 2009) (k16 : 1 ≤ x16 ∧ x16 ≤ 1) (k17 : 1 ≤ x17 ∧ x17 ≤ 1) (g0 : x9 = styleOne_0) (g1 : x13 = cur_0) (f3 : tokenKind_0 (cur_0) ≠ 0) (f4 : ((cur_0 + 1) ≤ tokens_0) ∧ ((tokens_0 ≤ 2010) ∧ ((tokenKind_0 ((tokens_0 - 1)) = 0) ∨ (tokenKind_0 ((tokens_0 - 1)) = 4)))) (f5 : 1 * opened_0 + 0 ≤ 0) (f6 : (-1) * opened_0 + 0 ≤ 0) (f7 : SOK (limit_0) (tokenKind_0) (tokenValue_0) (tokenPlace_0) (tokenEnd_0) (tape_0)) (f8 : fault_0 = 0) (f9 : SOC (fault_0) (cur_0) (limit_0) (tokenKind_0) (tokenValue_0) (tokenPlace_0) (tokenEnd_0) (tape_0)) (f10 : (x8 = 0) → (x9 ≤ 23)) (f11 : taped_0 = x3) (f13 : 1 * x11 + (1 * cur_0 + 0) ≤ 2010) (f14 : (-1) * x11 + ((-1) * cur_0 + 0) ≤ (-2010)) (f15 : (x16 = 1) → (tokenKind_0 (cur_0) = 1)) (f16 : (x16 = 1) → ((fault_0 = 0) ∧ ((tokenKind_0 (cur_0) = 1) ∧ ((tokenEnd_0 (cur_0) = (tokenPlace_0 (cur_0) + 4)) ∧ (((tokenPlace_0 (cur_0) + 4) ≤ limit_0) ∧ (((tape_0 ((tokenPlace_0 (cur_0) + 0)) % 256) = 110) ∧ (((tape_0 ((tokenPlace_0 (cur_0) + 1)) % 256) = 111) ∧ (((tape_0 ((tokenPlace_0 (cur_0) + 2)) % 256) = 100) ∧ ((tape_0 ((tokenPlace_0 (cur_0) + 3)) % 256) = 101))))))))) (f17 : ((fault_0 = 0) ∧ ((tokenKind_0 (cur_0) = 1) ∧ ((tokenEnd_0 (cur_0) = (tokenPlace_0 (cur_0) + 4)) ∧ (((tokenPlace_0 (cur_0) + 4) ≤ limit_0) ∧ (((tape_0 ((tokenPlace_0 (cur_0) + 0)) % 256) = 110) ∧ (((tape_0 ((tokenPlace_0 (cur_0) + 1)) % 256) = 111) ∧ (((tape_0 ((tokenPlace_0 (cur_0) + 2)) % 256) = 100) ∧ ((tape_0 ((tokenPlace_0 (cur_0) + 3)) % 256) = 101)))))))) → (x16 = 1)) (f18 : Wqnode (fault_0) (cur_0) (limit_0) (tokenKind_0) (tokenPlace_0) (tokenEnd_0) (tape_0) (x16)) (f20 : x16 = x17) (f21 : x8 = 0) (f22 : tokenKind_1 (cur_1) ≠ 0) (f23 : ((cur_1 + 1) ≤ tokens_1) ∧ ((tokens_1 ≤ 2010) ∧ ((tokenKind_1 ((tokens_1 - 1)) = 0) ∨ (tokenKind_1 ((tokens_1 - 1)) = 4)))) (f24 : 1 * opened_1 + 0 ≤ 0) (f25 : (-1) * opened_1 + 0 ≤ 0) (f26 : SOK (limit_1) (tokenKind_1) (tokenValue_1) (tokenPlace_1) (tokenEnd_1) (tape_1)) (f27 : fault_1 = 0) (f28 : SOC (fault_1) (cur_1) (limit_1) (tokenKind_1) (tokenValue_1) (tokenPlace_1) (tokenEnd_1) (tape_1)) (f29 : (x8 = 0) → (x9 ≤ 23)) (f30 : taped_1 = x3) (f31 : 1 * x11 + (1 * cur_1 + 0) ≤ 2010) (f32 : (-1) * x11 + ((-1) * cur_1 + 0) ≤ (-2010)) (f33 : (x16 = 1) → (tokenKind_1 (cur_1) = 1)) (f34 : (x16 = 1) → ((fault_1 = 0) ∧ ((tokenKind_1 (cur_1) = 1) ∧ ((tokenEnd_1 (cur_1) = (tokenPlace_1 (cur_1) + 4)) ∧ (((tokenPlace_1 (cur_1) + 4) ≤ limit_1) ∧ (((tape_1 ((tokenPlace_1 (cur_1) + 0)) % 256) = 110) ∧ (((tape_1 ((tokenPlace_1 (cur_1) + 1)) % 256) = 111) ∧ (((tape_1 ((tokenPlace_1 (cur_1) + 2)) % 256) = 100) ∧ ((tape_1 ((tokenPlace_1 (cur_1) + 3)) % 256) = 101))))))))) (f35 : ((fault_1 = 0) ∧ ((tokenKind_1 (cur_1) = 1) ∧ ((tokenEnd_1 (cur_1) = (tokenPlace_1 (cur_1) + 4)) ∧ (((tokenPlace_1 (cur_1) + 4) ≤ limit_1) ∧ (((tape_1 ((tokenPlace_1 (cur_1) + 0)) % 256) = 110) ∧ (((tape_1 ((tokenPlace_1 (cur_1) + 1)) % 256) = 111) ∧ (((tape_1 ((tokenPlace_1 (cur_1) + 2)) % 256) = 100) ∧ ((tape_1 ((tokenPlace_1 (cur_1) + 3)) % 256) = 101)))))))) → (x16 = 1)) (f36 : Wqnode (fault_1) (cur_1) (limit_1) (tokenKind_1) (tokenPlace_1) (tokenEnd_1) (tape_1) (x16)) (fe_0_0_1 : taped_0 = taped_1) (fe_0_8_1 : fault_0 = fault_1) (fe_0_10_1 : limit_0 = limit_1) (fe_0_157_1 : tokens_0 = tokens_1) (fe_0_158_1 : cur_0 = cur_1) (fe_0_159_1 : opened_0 = opened_1) (fe_0_165_1 : styleOne_0 = x9) (hE_0_1_1 : ∀ j : Int, tape_0 j = tape_1 j) (hK_0_1 : ∀ j : Int, 0 ≤ j → j < 2000 → (-128) ≤ tape_0 j ∧ tape_0 j ≤ 127) (hE_0_160_1 : ∀ j : Int, tokenKind_0 j = tokenKind_1 j) (hK_0_160 : ∀ j : Int, 0 ≤ j → j < 2010 → 0 ≤ tokenKind_0 j ∧ tokenKind_0 j ≤ 4) (hE_0_161_1 : ∀ j : Int, tokenValue_0 j = tokenValue_1 j) (hE_0_162_1 : ∀ j : Int, tokenPlace_0 j = tokenPlace_1 j) (hK_0_162 : ∀ j : Int, 0 ≤ j → j < 2010 → 0 ≤ tokenPlace_0 j ∧ tokenPlace_0 j ≤ 2000) (hE_0_163_1 : ∀ j : Int, tokenEnd_0 j = tokenEnd_1 j) (hK_0_163 : ∀ j : Int, 0 ≤ j → j < 2010 → 0 ≤ tokenEnd_0 j ∧ tokenEnd_0 j ≤ 2000) (kz_0_0 : 0 ≤ taped_0 ∧ taped_0 ≤ 2000) (kz_0_8 : 0 ≤ fault_0 ∧ fault_0 ≤ 5) (kz_0_10 : 0 ≤ limit_0 ∧ limit_0 ≤ 2000) (kz_0_157 : 0 ≤ tokens_0 ∧ tokens_0 ≤ 2010) (kz_0_158 : 0 ≤ cur_0 ∧ cur_0 ≤ 2009) (kz_0_159 : 0 ≤ opened_0 ∧ opened_0 ≤ 13) (kz_0_165 : (-1) ≤ styleOne_0 ∧ styleOne_0 ≤ 47) (ex2 : gx = cur_0) (ex3 : 0 ≤ gx ∧ gx ≤ 2009) : 1 * cur_0 + ((-1) * gx + 0) ≤ 0 := by
  subst fe_0_0_1
  subst fe_0_8_1
  subst fe_0_10_1
  subst fe_0_157_1
  subst fe_0_158_1
  subst fe_0_159_1
  have e_hE_0_1_1 := funext hE_0_1_1; subst e_hE_0_1_1
  have e_hE_0_160_1 := funext hE_0_160_1; subst e_hE_0_160_1
  have e_hE_0_161_1 := funext hE_0_161_1; subst e_hE_0_161_1
  have e_hE_0_162_1 := funext hE_0_162_1; subst e_hE_0_162_1
  have e_hE_0_163_1 := funext hE_0_163_1; subst e_hE_0_163_1
  first | with_reducible assumption | ((have f4_c0 := f4.1); (have f4_c1 := f4.2.1); (have f4_c2 := f4.2.2); (have f23_c0 := f23.1); (have f23_c1 := f23.2.1); (have f23_c2 := f23.2.2); (try and_intros) <;> first | with_reducible assumption | (clear f4_c2 f4 f23_c2 f23 hE_0_1_1 hK_0_1 hE_0_160_1 hK_0_160 hE_0_161_1 hE_0_162_1 hK_0_162 hE_0_163_1 hK_0_163 f10 f15 f16 f17 f29 f33 f34 f35; omega)) | ((have f4_c0 := f4.1); (have f4_c1 := f4.2.1); (have f4_c2 := f4.2.2); (have f23_c0 := f23.1); (have f23_c1 := f23.2.1); (have f23_c2 := f23.2.2); (first | have f10_b := f10 (by clear f4_c2 f4 f23_c2 f23 hE_0_1_1 hK_0_1 hE_0_160_1 hK_0_160 hE_0_161_1 hE_0_162_1 hK_0_162 hE_0_163_1 hK_0_163 f10 f15 f16 f17 f29 f33 f34 f35; omega) | skip); (first | have f15_b := f15 (by clear f4_c2 f4 f23_c2 f23 hE_0_1_1 hK_0_1 hE_0_160_1 hK_0_160 hE_0_161_1 hE_0_162_1 hK_0_162 hE_0_163_1 hK_0_163 f10 f15 f16 f17 f29 f33 f34 f35; omega) | skip); (first | have f16_b := f16 (by clear f4_c2 f4 f23_c2 f23 hE_0_1_1 hK_0_1 hE_0_160_1 hK_0_160 hE_0_161_1 hE_0_162_1 hK_0_162 hE_0_163_1 hK_0_163 f10 f15 f16 f17 f29 f33 f34 f35; omega) | skip); (first | have f29_b := f29 (by clear f4_c2 f4 f23_c2 f23 hE_0_1_1 hK_0_1 hE_0_160_1 hK_0_160 hE_0_161_1 hE_0_162_1 hK_0_162 hE_0_163_1 hK_0_163 f10 f15 f16 f17 f29 f33 f34 f35; omega) | skip); (first | have f33_b := f33 (by clear f4_c2 f4 f23_c2 f23 hE_0_1_1 hK_0_1 hE_0_160_1 hK_0_160 hE_0_161_1 hE_0_162_1 hK_0_162 hE_0_163_1 hK_0_163 f10 f15 f16 f17 f29 f33 f34 f35; omega) | skip); (first | have f34_b := f34 (by clear f4_c2 f4 f23_c2 f23 hE_0_1_1 hK_0_1 hE_0_160_1 hK_0_160 hE_0_161_1 hE_0_162_1 hK_0_162 hE_0_163_1 hK_0_163 f10 f15 f16 f17 f29 f33 f34 f35; omega) | skip); (first | have f10_d := f10 (by with_reducible assumption) | skip); (first | have f15_d := f15 (by with_reducible assumption) | skip); (first | have f16_d := f16 (by with_reducible assumption) | skip); (first | have f17_d := f17 (by with_reducible assumption) | skip); (first | have f29_d := f29 (by with_reducible assumption) | skip); (first | have f33_d := f33 (by with_reducible assumption) | skip); (first | have f34_d := f34 (by with_reducible assumption) | skip); (first | have f35_d := f35 (by with_reducible assumption) | skip); (try and_intros) <;> first | with_reducible assumption | (clear f4_c2 f4 f23_c2 f23 hE_0_1_1 hK_0_1 hE_0_160_1 hK_0_160 hE_0_161_1 hE_0_162_1 hK_0_162 hE_0_163_1 hK_0_163 f10 f15 f16 f17 f29 f33 f34 f35; omega)) | ((have f4_c0 := f4.1); (have f4_c1 := f4.2.1); (have f4_c2 := f4.2.2); (have f23_c0 := f23.1); (have f23_c1 := f23.2.1); (have f23_c2 := f23.2.2); (first | have f10_b := f10 (by clear f4_c2 f4 f23_c2 f23 hE_0_1_1 hK_0_1 hE_0_160_1 hK_0_160 hE_0_161_1 hE_0_162_1 hK_0_162 hE_0_163_1 hK_0_163 f10 f15 f16 f17 f29 f33 f34 f35; omega) | skip); (first | have f15_b := f15 (by clear f4_c2 f4 f23_c2 f23 hE_0_1_1 hK_0_1 hE_0_160_1 hK_0_160 hE_0_161_1 hE_0_162_1 hK_0_162 hE_0_163_1 hK_0_163 f10 f15 f16 f17 f29 f33 f34 f35; omega) | skip); (first | have f16_b := f16 (by clear f4_c2 f4 f23_c2 f23 hE_0_1_1 hK_0_1 hE_0_160_1 hK_0_160 hE_0_161_1 hE_0_162_1 hK_0_162 hE_0_163_1 hK_0_163 f10 f15 f16 f17 f29 f33 f34 f35; omega) | skip); (first | have f29_b := f29 (by clear f4_c2 f4 f23_c2 f23 hE_0_1_1 hK_0_1 hE_0_160_1 hK_0_160 hE_0_161_1 hE_0_162_1 hK_0_162 hE_0_163_1 hK_0_163 f10 f15 f16 f17 f29 f33 f34 f35; omega) | skip); (first | have f33_b := f33 (by clear f4_c2 f4 f23_c2 f23 hE_0_1_1 hK_0_1 hE_0_160_1 hK_0_160 hE_0_161_1 hE_0_162_1 hK_0_162 hE_0_163_1 hK_0_163 f10 f15 f16 f17 f29 f33 f34 f35; omega) | skip); (first | have f34_b := f34 (by clear f4_c2 f4 f23_c2 f23 hE_0_1_1 hK_0_1 hE_0_160_1 hK_0_160 hE_0_161_1 hE_0_162_1 hK_0_162 hE_0_163_1 hK_0_163 f10 f15 f16 f17 f29 f33 f34 f35; omega) | skip); (first | have f10_d := f10 (by with_reducible assumption) | skip); (first | have f15_d := f15 (by with_reducible assumption) | skip); (first | have f16_d := f16 (by with_reducible assumption) | skip); (first | have f17_d := f17 (by with_reducible assumption) | skip); (first | have f29_d := f29 (by with_reducible assumption) | skip); (first | have f33_d := f33 (by with_reducible assumption) | skip); (first | have f34_d := f34 (by with_reducible assumption) | skip); (first | have f35_d := f35 (by with_reducible assumption) | skip); (first | have f4_q := tk_nx0 f4 (by clear f4_c2 f4 f23_c2 f23 hE_0_1_1 hK_0_1 hE_0_160_1 hK_0_160 hE_0_161_1 hE_0_162_1 hK_0_162 hE_0_163_1 hK_0_163 f10 f15 f16 f17 f29 f33 f34 f35; omega) | skip); (first | have f23_q := tk_nx0 f23 (by clear f4_c2 f4 f23_c2 f23 hE_0_1_1 hK_0_1 hE_0_160_1 hK_0_160 hE_0_161_1 hE_0_162_1 hK_0_162 hE_0_163_1 hK_0_163 f10 f15 f16 f17 f29 f33 f34 f35; omega) | skip); (try and_intros) <;> first | with_reducible assumption | (clear f4_c2 f4 f23_c2 f23 hE_0_1_1 hK_0_1 hE_0_160_1 hK_0_160 hE_0_161_1 hE_0_162_1 hK_0_162 hE_0_163_1 hK_0_163 f10 f15 f16 f17 f29 f33 f34 f35; omega)) | ((have f4_c0 := f4.1); (have f4_c1 := f4.2.1); (have f4_c2 := f4.2.2); (have f23_c0 := f23.1); (have f23_c1 := f23.2.1); (have f23_c2 := f23.2.2); (first | have f10_b := f10 (by clear f4_c2 f4 f23_c2 f23 hE_0_1_1 hK_0_1 hE_0_160_1 hK_0_160 hE_0_161_1 hE_0_162_1 hK_0_162 hE_0_163_1 hK_0_163 f10 f15 f16 f17 f29 f33 f34 f35; omega) | skip); (first | have f15_b := f15 (by clear f4_c2 f4 f23_c2 f23 hE_0_1_1 hK_0_1 hE_0_160_1 hK_0_160 hE_0_161_1 hE_0_162_1 hK_0_162 hE_0_163_1 hK_0_163 f10 f15 f16 f17 f29 f33 f34 f35; omega) | skip); (first | have f16_b := f16 (by clear f4_c2 f4 f23_c2 f23 hE_0_1_1 hK_0_1 hE_0_160_1 hK_0_160 hE_0_161_1 hE_0_162_1 hK_0_162 hE_0_163_1 hK_0_163 f10 f15 f16 f17 f29 f33 f34 f35; omega) | skip); (first | have f29_b := f29 (by clear f4_c2 f4 f23_c2 f23 hE_0_1_1 hK_0_1 hE_0_160_1 hK_0_160 hE_0_161_1 hE_0_162_1 hK_0_162 hE_0_163_1 hK_0_163 f10 f15 f16 f17 f29 f33 f34 f35; omega) | skip); (first | have f33_b := f33 (by clear f4_c2 f4 f23_c2 f23 hE_0_1_1 hK_0_1 hE_0_160_1 hK_0_160 hE_0_161_1 hE_0_162_1 hK_0_162 hE_0_163_1 hK_0_163 f10 f15 f16 f17 f29 f33 f34 f35; omega) | skip); (first | have f34_b := f34 (by clear f4_c2 f4 f23_c2 f23 hE_0_1_1 hK_0_1 hE_0_160_1 hK_0_160 hE_0_161_1 hE_0_162_1 hK_0_162 hE_0_163_1 hK_0_163 f10 f15 f16 f17 f29 f33 f34 f35; omega) | skip); (first | have f10_d := f10 (by with_reducible assumption) | skip); (first | have f15_d := f15 (by with_reducible assumption) | skip); (first | have f16_d := f16 (by with_reducible assumption) | skip); (first | have f17_d := f17 (by with_reducible assumption) | skip); (first | have f29_d := f29 (by with_reducible assumption) | skip); (first | have f33_d := f33 (by with_reducible assumption) | skip); (first | have f34_d := f34 (by with_reducible assumption) | skip); (first | have f35_d := f35 (by with_reducible assumption) | skip); (first | have f4_q := tk_nx0 f4 (by clear f4_c2 f4 f23_c2 f23 hE_0_1_1 hK_0_1 hE_0_160_1 hK_0_160 hE_0_161_1 hE_0_162_1 hK_0_162 hE_0_163_1 hK_0_163 f10 f15 f16 f17 f29 f33 f34 f35; omega) | skip); (first | have f23_q := tk_nx0 f23 (by clear f4_c2 f4 f23_c2 f23 hE_0_1_1 hK_0_1 hE_0_160_1 hK_0_160 hE_0_161_1 hE_0_162_1 hK_0_162 hE_0_163_1 hK_0_163 f10 f15 f16 f17 f29 f33 f34 f35; omega) | skip); (first | have f4_r0 := tk_nx1 (c := cur_0) f4.2 (by clear f4_c2 f4 f23_c2 f23 hE_0_1_1 hK_0_1 hE_0_160_1 hK_0_160 hE_0_161_1 hE_0_162_1 hK_0_162 hE_0_163_1 hK_0_163 f10 f15 f16 f17 f29 f33 f34 f35; omega) (by clear f4_c2 f4 f23_c2 f23 hE_0_1_1 hK_0_1 hE_0_160_1 hK_0_160 hE_0_161_1 hE_0_162_1 hK_0_162 hE_0_163_1 hK_0_163 f10 f15 f16 f17 f29 f33 f34 f35; omega) | skip); (first | have f4_r1 := tk_nx1 (c := cur_1) f4.2 (by clear f4_c2 f4 f23_c2 f23 hE_0_1_1 hK_0_1 hE_0_160_1 hK_0_160 hE_0_161_1 hE_0_162_1 hK_0_162 hE_0_163_1 hK_0_163 f10 f15 f16 f17 f29 f33 f34 f35; omega) (by clear f4_c2 f4 f23_c2 f23 hE_0_1_1 hK_0_1 hE_0_160_1 hK_0_160 hE_0_161_1 hE_0_162_1 hK_0_162 hE_0_163_1 hK_0_163 f10 f15 f16 f17 f29 f33 f34 f35; omega) | skip); (first | have f23_r0 := tk_nx1 (c := cur_0) f23.2 (by clear f4_c2 f4 f23_c2 f23 hE_0_1_1 hK_0_1 hE_0_160_1 hK_0_160 hE_0_161_1 hE_0_162_1 hK_0_162 hE_0_163_1 hK_0_163 f10 f15 f16 f17 f29 f33 f34 f35; omega) (by clear f4_c2 f4 f23_c2 f23 hE_0_1_1 hK_0_1 hE_0_160_1 hK_0_160 hE_0_161_1 hE_0_162_1 hK_0_162 hE_0_163_1 hK_0_163 f10 f15 f16 f17 f29 f33 f34 f35; omega) | skip); (first | have f23_r1 := tk_nx1 (c := cur_1) f23.2 (by clear f4_c2 f4 f23_c2 f23 hE_0_1_1 hK_0_1 hE_0_160_1 hK_0_160 hE_0_161_1 hE_0_162_1 hK_0_162 hE_0_163_1 hK_0_163 f10 f15 f16 f17 f29 f33 f34 f35; omega) (by clear f4_c2 f4 f23_c2 f23 hE_0_1_1 hK_0_1 hE_0_160_1 hK_0_160 hE_0_161_1 hE_0_162_1 hK_0_162 hE_0_163_1 hK_0_163 f10 f15 f16 f17 f29 f33 f34 f35; omega) | skip); (try and_intros) <;> first | with_reducible assumption | (clear f4_c2 f4 f23_c2 f23 hE_0_1_1 hK_0_1 hE_0_160_1 hK_0_160 hE_0_161_1 hE_0_162_1 hK_0_162 hE_0_163_1 hK_0_163 f10 f15 f16 f17 f29 f33 f34 f35; omega)) | omega
set_option maxHeartbeats 4000000 in
theorem vc_Mo_style_23_2 (x3 : Int) (x8 : Int) (x9 : Int) (x11 : Int) (x13 : Int) (x16 : Int) (x17 : Int) (styleOne_0 : Int) (cur_0 : Int) (tokenKind_0 : Int → Int) (tokens_0 : Int) (opened_0 : Int) (tokenValue_0 : Int → Int) (tokenPlace_0 : Int → Int) (tokenEnd_0 : Int → Int) (tape_0 : Int → Int) (limit_0 : Int) (fault_0 : Int) (taped_0 : Int) (tokenKind_1 : Int → Int) (cur_1 : Int) (tokens_1 : Int) (opened_1 : Int) (tokenValue_1 : Int → Int) (tokenPlace_1 : Int → Int) (tokenEnd_1 : Int → Int) (tape_1 : Int → Int) (limit_1 : Int) (fault_1 : Int) (taped_1 : Int) (gx : Int) (k3 : 0 ≤ x3 ∧ x3 ≤ 2000) (k8 : 0 ≤ x8 ∧ x8 ≤ 0) (k9 : 0 ≤ x9 ∧ x9 ≤ 47) (k11 : 0 ≤ x11 ∧ x11 ≤ 2010) (k13 : 0 ≤ x13 ∧ x13 ≤ 2009) (k16 : 1 ≤ x16 ∧ x16 ≤ 1) (k17 : 1 ≤ x17 ∧ x17 ≤ 1) (g0 : x9 = styleOne_0) (g1 : x13 = cur_0) (f3 : tokenKind_0 (cur_0) ≠ 0) (f4 : ((cur_0 + 1) ≤ tokens_0) ∧ ((tokens_0 ≤ 2010) ∧ ((tokenKind_0 ((tokens_0 - 1)) = 0) ∨ (tokenKind_0 ((tokens_0 - 1)) = 4)))) (f5 : 1 * opened_0 + 0 ≤ 0) (f6 : (-1) * opened_0 + 0 ≤ 0) (f7 : SOK (limit_0) (tokenKind_0) (tokenValue_0) (tokenPlace_0) (tokenEnd_0) (tape_0)) (f8 : fault_0 = 0) (f9 : SOC (fault_0) (cur_0) (limit_0) (tokenKind_0) (tokenValue_0) (tokenPlace_0) (tokenEnd_0) (tape_0)) (f10 : (x8 = 0) → (x9 ≤ 23)) (f11 : taped_0 = x3) (f13 : 1 * x11 + (1 * cur_0 + 0) ≤ 2010) (f14 : (-1) * x11 + ((-1) * cur_0 + 0) ≤ (-2010)) (f15 : (x16 = 1) → (tokenKind_0 (cur_0) = 1)) (f16 : (x16 = 1) → ((fault_0 = 0) ∧ ((tokenKind_0 (cur_0) = 1) ∧ ((tokenEnd_0 (cur_0) = (tokenPlace_0 (cur_0) + 4)) ∧ (((tokenPlace_0 (cur_0) + 4) ≤ limit_0) ∧ (((tape_0 ((tokenPlace_0 (cur_0) + 0)) % 256) = 110) ∧ (((tape_0 ((tokenPlace_0 (cur_0) + 1)) % 256) = 111) ∧ (((tape_0 ((tokenPlace_0 (cur_0) + 2)) % 256) = 100) ∧ ((tape_0 ((tokenPlace_0 (cur_0) + 3)) % 256) = 101))))))))) (f17 : ((fault_0 = 0) ∧ ((tokenKind_0 (cur_0) = 1) ∧ ((tokenEnd_0 (cur_0) = (tokenPlace_0 (cur_0) + 4)) ∧ (((tokenPlace_0 (cur_0) + 4) ≤ limit_0) ∧ (((tape_0 ((tokenPlace_0 (cur_0) + 0)) % 256) = 110) ∧ (((tape_0 ((tokenPlace_0 (cur_0) + 1)) % 256) = 111) ∧ (((tape_0 ((tokenPlace_0 (cur_0) + 2)) % 256) = 100) ∧ ((tape_0 ((tokenPlace_0 (cur_0) + 3)) % 256) = 101)))))))) → (x16 = 1)) (f18 : Wqnode (fault_0) (cur_0) (limit_0) (tokenKind_0) (tokenPlace_0) (tokenEnd_0) (tape_0) (x16)) (f20 : x16 = x17) (f21 : x8 = 0) (f22 : tokenKind_1 (cur_1) ≠ 0) (f23 : ((cur_1 + 1) ≤ tokens_1) ∧ ((tokens_1 ≤ 2010) ∧ ((tokenKind_1 ((tokens_1 - 1)) = 0) ∨ (tokenKind_1 ((tokens_1 - 1)) = 4)))) (f24 : 1 * opened_1 + 0 ≤ 0) (f25 : (-1) * opened_1 + 0 ≤ 0) (f26 : SOK (limit_1) (tokenKind_1) (tokenValue_1) (tokenPlace_1) (tokenEnd_1) (tape_1)) (f27 : fault_1 = 0) (f28 : SOC (fault_1) (cur_1) (limit_1) (tokenKind_1) (tokenValue_1) (tokenPlace_1) (tokenEnd_1) (tape_1)) (f29 : (x8 = 0) → (x9 ≤ 23)) (f30 : taped_1 = x3) (f31 : 1 * x11 + (1 * cur_1 + 0) ≤ 2010) (f32 : (-1) * x11 + ((-1) * cur_1 + 0) ≤ (-2010)) (f33 : (x16 = 1) → (tokenKind_1 (cur_1) = 1)) (f34 : (x16 = 1) → ((fault_1 = 0) ∧ ((tokenKind_1 (cur_1) = 1) ∧ ((tokenEnd_1 (cur_1) = (tokenPlace_1 (cur_1) + 4)) ∧ (((tokenPlace_1 (cur_1) + 4) ≤ limit_1) ∧ (((tape_1 ((tokenPlace_1 (cur_1) + 0)) % 256) = 110) ∧ (((tape_1 ((tokenPlace_1 (cur_1) + 1)) % 256) = 111) ∧ (((tape_1 ((tokenPlace_1 (cur_1) + 2)) % 256) = 100) ∧ ((tape_1 ((tokenPlace_1 (cur_1) + 3)) % 256) = 101))))))))) (f35 : ((fault_1 = 0) ∧ ((tokenKind_1 (cur_1) = 1) ∧ ((tokenEnd_1 (cur_1) = (tokenPlace_1 (cur_1) + 4)) ∧ (((tokenPlace_1 (cur_1) + 4) ≤ limit_1) ∧ (((tape_1 ((tokenPlace_1 (cur_1) + 0)) % 256) = 110) ∧ (((tape_1 ((tokenPlace_1 (cur_1) + 1)) % 256) = 111) ∧ (((tape_1 ((tokenPlace_1 (cur_1) + 2)) % 256) = 100) ∧ ((tape_1 ((tokenPlace_1 (cur_1) + 3)) % 256) = 101)))))))) → (x16 = 1)) (f36 : Wqnode (fault_1) (cur_1) (limit_1) (tokenKind_1) (tokenPlace_1) (tokenEnd_1) (tape_1) (x16)) (fe_0_0_1 : taped_0 = taped_1) (fe_0_8_1 : fault_0 = fault_1) (fe_0_10_1 : limit_0 = limit_1) (fe_0_157_1 : tokens_0 = tokens_1) (fe_0_158_1 : cur_0 = cur_1) (fe_0_159_1 : opened_0 = opened_1) (fe_0_165_1 : styleOne_0 = x9) (hE_0_1_1 : ∀ j : Int, tape_0 j = tape_1 j) (hK_0_1 : ∀ j : Int, 0 ≤ j → j < 2000 → (-128) ≤ tape_0 j ∧ tape_0 j ≤ 127) (hE_0_160_1 : ∀ j : Int, tokenKind_0 j = tokenKind_1 j) (hK_0_160 : ∀ j : Int, 0 ≤ j → j < 2010 → 0 ≤ tokenKind_0 j ∧ tokenKind_0 j ≤ 4) (hE_0_161_1 : ∀ j : Int, tokenValue_0 j = tokenValue_1 j) (hE_0_162_1 : ∀ j : Int, tokenPlace_0 j = tokenPlace_1 j) (hK_0_162 : ∀ j : Int, 0 ≤ j → j < 2010 → 0 ≤ tokenPlace_0 j ∧ tokenPlace_0 j ≤ 2000) (hE_0_163_1 : ∀ j : Int, tokenEnd_0 j = tokenEnd_1 j) (hK_0_163 : ∀ j : Int, 0 ≤ j → j < 2010 → 0 ≤ tokenEnd_0 j ∧ tokenEnd_0 j ≤ 2000) (kz_0_0 : 0 ≤ taped_0 ∧ taped_0 ≤ 2000) (kz_0_8 : 0 ≤ fault_0 ∧ fault_0 ≤ 5) (kz_0_10 : 0 ≤ limit_0 ∧ limit_0 ≤ 2000) (kz_0_157 : 0 ≤ tokens_0 ∧ tokens_0 ≤ 2010) (kz_0_158 : 0 ≤ cur_0 ∧ cur_0 ≤ 2009) (kz_0_159 : 0 ≤ opened_0 ∧ opened_0 ≤ 13) (kz_0_165 : (-1) ≤ styleOne_0 ∧ styleOne_0 ≤ 47) (ex2 : gx = cur_0) (ex3 : 0 ≤ gx ∧ gx ≤ 2009) : (-1) * cur_0 + (1 * gx + 0) ≤ 0 := by
  subst fe_0_0_1
  subst fe_0_8_1
  subst fe_0_10_1
  subst fe_0_157_1
  subst fe_0_158_1
  subst fe_0_159_1
  have e_hE_0_1_1 := funext hE_0_1_1; subst e_hE_0_1_1
  have e_hE_0_160_1 := funext hE_0_160_1; subst e_hE_0_160_1
  have e_hE_0_161_1 := funext hE_0_161_1; subst e_hE_0_161_1
  have e_hE_0_162_1 := funext hE_0_162_1; subst e_hE_0_162_1
  have e_hE_0_163_1 := funext hE_0_163_1; subst e_hE_0_163_1
  first | with_reducible assumption | ((have f4_c0 := f4.1); (have f4_c1 := f4.2.1); (have f4_c2 := f4.2.2); (have f23_c0 := f23.1); (have f23_c1 := f23.2.1); (have f23_c2 := f23.2.2); (try and_intros) <;> first | with_reducible assumption | (clear f4_c2 f4 f23_c2 f23 hE_0_1_1 hK_0_1 hE_0_160_1 hK_0_160 hE_0_161_1 hE_0_162_1 hK_0_162 hE_0_163_1 hK_0_163 f10 f15 f16 f17 f29 f33 f34 f35; omega)) | ((have f4_c0 := f4.1); (have f4_c1 := f4.2.1); (have f4_c2 := f4.2.2); (have f23_c0 := f23.1); (have f23_c1 := f23.2.1); (have f23_c2 := f23.2.2); (first | have f10_b := f10 (by clear f4_c2 f4 f23_c2 f23 hE_0_1_1 hK_0_1 hE_0_160_1 hK_0_160 hE_0_161_1 hE_0_162_1 hK_0_162 hE_0_163_1 hK_0_163 f10 f15 f16 f17 f29 f33 f34 f35; omega) | skip); (first | have f15_b := f15 (by clear f4_c2 f4 f23_c2 f23 hE_0_1_1 hK_0_1 hE_0_160_1 hK_0_160 hE_0_161_1 hE_0_162_1 hK_0_162 hE_0_163_1 hK_0_163 f10 f15 f16 f17 f29 f33 f34 f35; omega) | skip); (first | have f16_b := f16 (by clear f4_c2 f4 f23_c2 f23 hE_0_1_1 hK_0_1 hE_0_160_1 hK_0_160 hE_0_161_1 hE_0_162_1 hK_0_162 hE_0_163_1 hK_0_163 f10 f15 f16 f17 f29 f33 f34 f35; omega) | skip); (first | have f29_b := f29 (by clear f4_c2 f4 f23_c2 f23 hE_0_1_1 hK_0_1 hE_0_160_1 hK_0_160 hE_0_161_1 hE_0_162_1 hK_0_162 hE_0_163_1 hK_0_163 f10 f15 f16 f17 f29 f33 f34 f35; omega) | skip); (first | have f33_b := f33 (by clear f4_c2 f4 f23_c2 f23 hE_0_1_1 hK_0_1 hE_0_160_1 hK_0_160 hE_0_161_1 hE_0_162_1 hK_0_162 hE_0_163_1 hK_0_163 f10 f15 f16 f17 f29 f33 f34 f35; omega) | skip); (first | have f34_b := f34 (by clear f4_c2 f4 f23_c2 f23 hE_0_1_1 hK_0_1 hE_0_160_1 hK_0_160 hE_0_161_1 hE_0_162_1 hK_0_162 hE_0_163_1 hK_0_163 f10 f15 f16 f17 f29 f33 f34 f35; omega) | skip); (first | have f10_d := f10 (by with_reducible assumption) | skip); (first | have f15_d := f15 (by with_reducible assumption) | skip); (first | have f16_d := f16 (by with_reducible assumption) | skip); (first | have f17_d := f17 (by with_reducible assumption) | skip); (first | have f29_d := f29 (by with_reducible assumption) | skip); (first | have f33_d := f33 (by with_reducible assumption) | skip); (first | have f34_d := f34 (by with_reducible assumption) | skip); (first | have f35_d := f35 (by with_reducible assumption) | skip); (try and_intros) <;> first | with_reducible assumption | (clear f4_c2 f4 f23_c2 f23 hE_0_1_1 hK_0_1 hE_0_160_1 hK_0_160 hE_0_161_1 hE_0_162_1 hK_0_162 hE_0_163_1 hK_0_163 f10 f15 f16 f17 f29 f33 f34 f35; omega)) | ((have f4_c0 := f4.1); (have f4_c1 := f4.2.1); (have f4_c2 := f4.2.2); (have f23_c0 := f23.1); (have f23_c1 := f23.2.1); (have f23_c2 := f23.2.2); (first | have f10_b := f10 (by clear f4_c2 f4 f23_c2 f23 hE_0_1_1 hK_0_1 hE_0_160_1 hK_0_160 hE_0_161_1 hE_0_162_1 hK_0_162 hE_0_163_1 hK_0_163 f10 f15 f16 f17 f29 f33 f34 f35; omega) | skip); (first | have f15_b := f15 (by clear f4_c2 f4 f23_c2 f23 hE_0_1_1 hK_0_1 hE_0_160_1 hK_0_160 hE_0_161_1 hE_0_162_1 hK_0_162 hE_0_163_1 hK_0_163 f10 f15 f16 f17 f29 f33 f34 f35; omega) | skip); (first | have f16_b := f16 (by clear f4_c2 f4 f23_c2 f23 hE_0_1_1 hK_0_1 hE_0_160_1 hK_0_160 hE_0_161_1 hE_0_162_1 hK_0_162 hE_0_163_1 hK_0_163 f10 f15 f16 f17 f29 f33 f34 f35; omega) | skip); (first | have f29_b := f29 (by clear f4_c2 f4 f23_c2 f23 hE_0_1_1 hK_0_1 hE_0_160_1 hK_0_160 hE_0_161_1 hE_0_162_1 hK_0_162 hE_0_163_1 hK_0_163 f10 f15 f16 f17 f29 f33 f34 f35; omega) | skip); (first | have f33_b := f33 (by clear f4_c2 f4 f23_c2 f23 hE_0_1_1 hK_0_1 hE_0_160_1 hK_0_160 hE_0_161_1 hE_0_162_1 hK_0_162 hE_0_163_1 hK_0_163 f10 f15 f16 f17 f29 f33 f34 f35; omega) | skip); (first | have f34_b := f34 (by clear f4_c2 f4 f23_c2 f23 hE_0_1_1 hK_0_1 hE_0_160_1 hK_0_160 hE_0_161_1 hE_0_162_1 hK_0_162 hE_0_163_1 hK_0_163 f10 f15 f16 f17 f29 f33 f34 f35; omega) | skip); (first | have f10_d := f10 (by with_reducible assumption) | skip); (first | have f15_d := f15 (by with_reducible assumption) | skip); (first | have f16_d := f16 (by with_reducible assumption) | skip); (first | have f17_d := f17 (by with_reducible assumption) | skip); (first | have f29_d := f29 (by with_reducible assumption) | skip); (first | have f33_d := f33 (by with_reducible assumption) | skip); (first | have f34_d := f34 (by with_reducible assumption) | skip); (first | have f35_d := f35 (by with_reducible assumption) | skip); (first | have f4_q := tk_nx0 f4 (by clear f4_c2 f4 f23_c2 f23 hE_0_1_1 hK_0_1 hE_0_160_1 hK_0_160 hE_0_161_1 hE_0_162_1 hK_0_162 hE_0_163_1 hK_0_163 f10 f15 f16 f17 f29 f33 f34 f35; omega) | skip); (first | have f23_q := tk_nx0 f23 (by clear f4_c2 f4 f23_c2 f23 hE_0_1_1 hK_0_1 hE_0_160_1 hK_0_160 hE_0_161_1 hE_0_162_1 hK_0_162 hE_0_163_1 hK_0_163 f10 f15 f16 f17 f29 f33 f34 f35; omega) | skip); (try and_intros) <;> first | with_reducible assumption | (clear f4_c2 f4 f23_c2 f23 hE_0_1_1 hK_0_1 hE_0_160_1 hK_0_160 hE_0_161_1 hE_0_162_1 hK_0_162 hE_0_163_1 hK_0_163 f10 f15 f16 f17 f29 f33 f34 f35; omega)) | ((have f4_c0 := f4.1); (have f4_c1 := f4.2.1); (have f4_c2 := f4.2.2); (have f23_c0 := f23.1); (have f23_c1 := f23.2.1); (have f23_c2 := f23.2.2); (first | have f10_b := f10 (by clear f4_c2 f4 f23_c2 f23 hE_0_1_1 hK_0_1 hE_0_160_1 hK_0_160 hE_0_161_1 hE_0_162_1 hK_0_162 hE_0_163_1 hK_0_163 f10 f15 f16 f17 f29 f33 f34 f35; omega) | skip); (first | have f15_b := f15 (by clear f4_c2 f4 f23_c2 f23 hE_0_1_1 hK_0_1 hE_0_160_1 hK_0_160 hE_0_161_1 hE_0_162_1 hK_0_162 hE_0_163_1 hK_0_163 f10 f15 f16 f17 f29 f33 f34 f35; omega) | skip); (first | have f16_b := f16 (by clear f4_c2 f4 f23_c2 f23 hE_0_1_1 hK_0_1 hE_0_160_1 hK_0_160 hE_0_161_1 hE_0_162_1 hK_0_162 hE_0_163_1 hK_0_163 f10 f15 f16 f17 f29 f33 f34 f35; omega) | skip); (first | have f29_b := f29 (by clear f4_c2 f4 f23_c2 f23 hE_0_1_1 hK_0_1 hE_0_160_1 hK_0_160 hE_0_161_1 hE_0_162_1 hK_0_162 hE_0_163_1 hK_0_163 f10 f15 f16 f17 f29 f33 f34 f35; omega) | skip); (first | have f33_b := f33 (by clear f4_c2 f4 f23_c2 f23 hE_0_1_1 hK_0_1 hE_0_160_1 hK_0_160 hE_0_161_1 hE_0_162_1 hK_0_162 hE_0_163_1 hK_0_163 f10 f15 f16 f17 f29 f33 f34 f35; omega) | skip); (first | have f34_b := f34 (by clear f4_c2 f4 f23_c2 f23 hE_0_1_1 hK_0_1 hE_0_160_1 hK_0_160 hE_0_161_1 hE_0_162_1 hK_0_162 hE_0_163_1 hK_0_163 f10 f15 f16 f17 f29 f33 f34 f35; omega) | skip); (first | have f10_d := f10 (by with_reducible assumption) | skip); (first | have f15_d := f15 (by with_reducible assumption) | skip); (first | have f16_d := f16 (by with_reducible assumption) | skip); (first | have f17_d := f17 (by with_reducible assumption) | skip); (first | have f29_d := f29 (by with_reducible assumption) | skip); (first | have f33_d := f33 (by with_reducible assumption) | skip); (first | have f34_d := f34 (by with_reducible assumption) | skip); (first | have f35_d := f35 (by with_reducible assumption) | skip); (first | have f4_q := tk_nx0 f4 (by clear f4_c2 f4 f23_c2 f23 hE_0_1_1 hK_0_1 hE_0_160_1 hK_0_160 hE_0_161_1 hE_0_162_1 hK_0_162 hE_0_163_1 hK_0_163 f10 f15 f16 f17 f29 f33 f34 f35; omega) | skip); (first | have f23_q := tk_nx0 f23 (by clear f4_c2 f4 f23_c2 f23 hE_0_1_1 hK_0_1 hE_0_160_1 hK_0_160 hE_0_161_1 hE_0_162_1 hK_0_162 hE_0_163_1 hK_0_163 f10 f15 f16 f17 f29 f33 f34 f35; omega) | skip); (first | have f4_r0 := tk_nx1 (c := cur_0) f4.2 (by clear f4_c2 f4 f23_c2 f23 hE_0_1_1 hK_0_1 hE_0_160_1 hK_0_160 hE_0_161_1 hE_0_162_1 hK_0_162 hE_0_163_1 hK_0_163 f10 f15 f16 f17 f29 f33 f34 f35; omega) (by clear f4_c2 f4 f23_c2 f23 hE_0_1_1 hK_0_1 hE_0_160_1 hK_0_160 hE_0_161_1 hE_0_162_1 hK_0_162 hE_0_163_1 hK_0_163 f10 f15 f16 f17 f29 f33 f34 f35; omega) | skip); (first | have f4_r1 := tk_nx1 (c := cur_1) f4.2 (by clear f4_c2 f4 f23_c2 f23 hE_0_1_1 hK_0_1 hE_0_160_1 hK_0_160 hE_0_161_1 hE_0_162_1 hK_0_162 hE_0_163_1 hK_0_163 f10 f15 f16 f17 f29 f33 f34 f35; omega) (by clear f4_c2 f4 f23_c2 f23 hE_0_1_1 hK_0_1 hE_0_160_1 hK_0_160 hE_0_161_1 hE_0_162_1 hK_0_162 hE_0_163_1 hK_0_163 f10 f15 f16 f17 f29 f33 f34 f35; omega) | skip); (first | have f23_r0 := tk_nx1 (c := cur_0) f23.2 (by clear f4_c2 f4 f23_c2 f23 hE_0_1_1 hK_0_1 hE_0_160_1 hK_0_160 hE_0_161_1 hE_0_162_1 hK_0_162 hE_0_163_1 hK_0_163 f10 f15 f16 f17 f29 f33 f34 f35; omega) (by clear f4_c2 f4 f23_c2 f23 hE_0_1_1 hK_0_1 hE_0_160_1 hK_0_160 hE_0_161_1 hE_0_162_1 hK_0_162 hE_0_163_1 hK_0_163 f10 f15 f16 f17 f29 f33 f34 f35; omega) | skip); (first | have f23_r1 := tk_nx1 (c := cur_1) f23.2 (by clear f4_c2 f4 f23_c2 f23 hE_0_1_1 hK_0_1 hE_0_160_1 hK_0_160 hE_0_161_1 hE_0_162_1 hK_0_162 hE_0_163_1 hK_0_163 f10 f15 f16 f17 f29 f33 f34 f35; omega) (by clear f4_c2 f4 f23_c2 f23 hE_0_1_1 hK_0_1 hE_0_160_1 hK_0_160 hE_0_161_1 hE_0_162_1 hK_0_162 hE_0_163_1 hK_0_163 f10 f15 f16 f17 f29 f33 f34 f35; omega) | skip); (try and_intros) <;> first | with_reducible assumption | (clear f4_c2 f4 f23_c2 f23 hE_0_1_1 hK_0_1 hE_0_160_1 hK_0_160 hE_0_161_1 hE_0_162_1 hK_0_162 hE_0_163_1 hK_0_163 f10 f15 f16 f17 f29 f33 f34 f35; omega)) | omega
set_option maxHeartbeats 4000000 in
theorem vc_Mo_style_23_3 (x3 : Int) (x8 : Int) (x9 : Int) (x11 : Int) (x13 : Int) (x16 : Int) (x17 : Int) (styleOne_0 : Int) (cur_0 : Int) (tokenKind_0 : Int → Int) (tokens_0 : Int) (opened_0 : Int) (tokenValue_0 : Int → Int) (tokenPlace_0 : Int → Int) (tokenEnd_0 : Int → Int) (tape_0 : Int → Int) (limit_0 : Int) (fault_0 : Int) (taped_0 : Int) (tokenKind_1 : Int → Int) (cur_1 : Int) (tokens_1 : Int) (opened_1 : Int) (tokenValue_1 : Int → Int) (tokenPlace_1 : Int → Int) (tokenEnd_1 : Int → Int) (tape_1 : Int → Int) (limit_1 : Int) (fault_1 : Int) (taped_1 : Int) (gx : Int) (k3 : 0 ≤ x3 ∧ x3 ≤ 2000) (k8 : 0 ≤ x8 ∧ x8 ≤ 0) (k9 : 0 ≤ x9 ∧ x9 ≤ 47) (k11 : 0 ≤ x11 ∧ x11 ≤ 2010) (k13 : 0 ≤ x13 ∧ x13 ≤ 2009) (k16 : 1 ≤ x16 ∧ x16 ≤ 1) (k17 : 1 ≤ x17 ∧ x17 ≤ 1) (g0 : x9 = styleOne_0) (g1 : x13 = cur_0) (f3 : tokenKind_0 (cur_0) ≠ 0) (f4 : ((cur_0 + 1) ≤ tokens_0) ∧ ((tokens_0 ≤ 2010) ∧ ((tokenKind_0 ((tokens_0 - 1)) = 0) ∨ (tokenKind_0 ((tokens_0 - 1)) = 4)))) (f5 : 1 * opened_0 + 0 ≤ 0) (f6 : (-1) * opened_0 + 0 ≤ 0) (f7 : SOK (limit_0) (tokenKind_0) (tokenValue_0) (tokenPlace_0) (tokenEnd_0) (tape_0)) (f8 : fault_0 = 0) (f9 : SOC (fault_0) (cur_0) (limit_0) (tokenKind_0) (tokenValue_0) (tokenPlace_0) (tokenEnd_0) (tape_0)) (f10 : (x8 = 0) → (x9 ≤ 23)) (f11 : taped_0 = x3) (f13 : 1 * x11 + (1 * cur_0 + 0) ≤ 2010) (f14 : (-1) * x11 + ((-1) * cur_0 + 0) ≤ (-2010)) (f15 : (x16 = 1) → (tokenKind_0 (cur_0) = 1)) (f16 : (x16 = 1) → ((fault_0 = 0) ∧ ((tokenKind_0 (cur_0) = 1) ∧ ((tokenEnd_0 (cur_0) = (tokenPlace_0 (cur_0) + 4)) ∧ (((tokenPlace_0 (cur_0) + 4) ≤ limit_0) ∧ (((tape_0 ((tokenPlace_0 (cur_0) + 0)) % 256) = 110) ∧ (((tape_0 ((tokenPlace_0 (cur_0) + 1)) % 256) = 111) ∧ (((tape_0 ((tokenPlace_0 (cur_0) + 2)) % 256) = 100) ∧ ((tape_0 ((tokenPlace_0 (cur_0) + 3)) % 256) = 101))))))))) (f17 : ((fault_0 = 0) ∧ ((tokenKind_0 (cur_0) = 1) ∧ ((tokenEnd_0 (cur_0) = (tokenPlace_0 (cur_0) + 4)) ∧ (((tokenPlace_0 (cur_0) + 4) ≤ limit_0) ∧ (((tape_0 ((tokenPlace_0 (cur_0) + 0)) % 256) = 110) ∧ (((tape_0 ((tokenPlace_0 (cur_0) + 1)) % 256) = 111) ∧ (((tape_0 ((tokenPlace_0 (cur_0) + 2)) % 256) = 100) ∧ ((tape_0 ((tokenPlace_0 (cur_0) + 3)) % 256) = 101)))))))) → (x16 = 1)) (f18 : Wqnode (fault_0) (cur_0) (limit_0) (tokenKind_0) (tokenPlace_0) (tokenEnd_0) (tape_0) (x16)) (f20 : x16 = x17) (f21 : x8 = 0) (f22 : tokenKind_1 (cur_1) ≠ 0) (f23 : ((cur_1 + 1) ≤ tokens_1) ∧ ((tokens_1 ≤ 2010) ∧ ((tokenKind_1 ((tokens_1 - 1)) = 0) ∨ (tokenKind_1 ((tokens_1 - 1)) = 4)))) (f24 : 1 * opened_1 + 0 ≤ 0) (f25 : (-1) * opened_1 + 0 ≤ 0) (f26 : SOK (limit_1) (tokenKind_1) (tokenValue_1) (tokenPlace_1) (tokenEnd_1) (tape_1)) (f27 : fault_1 = 0) (f28 : SOC (fault_1) (cur_1) (limit_1) (tokenKind_1) (tokenValue_1) (tokenPlace_1) (tokenEnd_1) (tape_1)) (f29 : (x8 = 0) → (x9 ≤ 23)) (f30 : taped_1 = x3) (f31 : 1 * x11 + (1 * cur_1 + 0) ≤ 2010) (f32 : (-1) * x11 + ((-1) * cur_1 + 0) ≤ (-2010)) (f33 : (x16 = 1) → (tokenKind_1 (cur_1) = 1)) (f34 : (x16 = 1) → ((fault_1 = 0) ∧ ((tokenKind_1 (cur_1) = 1) ∧ ((tokenEnd_1 (cur_1) = (tokenPlace_1 (cur_1) + 4)) ∧ (((tokenPlace_1 (cur_1) + 4) ≤ limit_1) ∧ (((tape_1 ((tokenPlace_1 (cur_1) + 0)) % 256) = 110) ∧ (((tape_1 ((tokenPlace_1 (cur_1) + 1)) % 256) = 111) ∧ (((tape_1 ((tokenPlace_1 (cur_1) + 2)) % 256) = 100) ∧ ((tape_1 ((tokenPlace_1 (cur_1) + 3)) % 256) = 101))))))))) (f35 : ((fault_1 = 0) ∧ ((tokenKind_1 (cur_1) = 1) ∧ ((tokenEnd_1 (cur_1) = (tokenPlace_1 (cur_1) + 4)) ∧ (((tokenPlace_1 (cur_1) + 4) ≤ limit_1) ∧ (((tape_1 ((tokenPlace_1 (cur_1) + 0)) % 256) = 110) ∧ (((tape_1 ((tokenPlace_1 (cur_1) + 1)) % 256) = 111) ∧ (((tape_1 ((tokenPlace_1 (cur_1) + 2)) % 256) = 100) ∧ ((tape_1 ((tokenPlace_1 (cur_1) + 3)) % 256) = 101)))))))) → (x16 = 1)) (f36 : Wqnode (fault_1) (cur_1) (limit_1) (tokenKind_1) (tokenPlace_1) (tokenEnd_1) (tape_1) (x16)) (fe_0_0_1 : taped_0 = taped_1) (fe_0_8_1 : fault_0 = fault_1) (fe_0_10_1 : limit_0 = limit_1) (fe_0_157_1 : tokens_0 = tokens_1) (fe_0_158_1 : cur_0 = cur_1) (fe_0_159_1 : opened_0 = opened_1) (fe_0_165_1 : styleOne_0 = x9) (hE_0_1_1 : ∀ j : Int, tape_0 j = tape_1 j) (hK_0_1 : ∀ j : Int, 0 ≤ j → j < 2000 → (-128) ≤ tape_0 j ∧ tape_0 j ≤ 127) (hE_0_160_1 : ∀ j : Int, tokenKind_0 j = tokenKind_1 j) (hK_0_160 : ∀ j : Int, 0 ≤ j → j < 2010 → 0 ≤ tokenKind_0 j ∧ tokenKind_0 j ≤ 4) (hE_0_161_1 : ∀ j : Int, tokenValue_0 j = tokenValue_1 j) (hE_0_162_1 : ∀ j : Int, tokenPlace_0 j = tokenPlace_1 j) (hK_0_162 : ∀ j : Int, 0 ≤ j → j < 2010 → 0 ≤ tokenPlace_0 j ∧ tokenPlace_0 j ≤ 2000) (hE_0_163_1 : ∀ j : Int, tokenEnd_0 j = tokenEnd_1 j) (hK_0_163 : ∀ j : Int, 0 ≤ j → j < 2010 → 0 ≤ tokenEnd_0 j ∧ tokenEnd_0 j ≤ 2000) (kz_0_0 : 0 ≤ taped_0 ∧ taped_0 ≤ 2000) (kz_0_8 : 0 ≤ fault_0 ∧ fault_0 ≤ 5) (kz_0_10 : 0 ≤ limit_0 ∧ limit_0 ≤ 2000) (kz_0_157 : 0 ≤ tokens_0 ∧ tokens_0 ≤ 2010) (kz_0_158 : 0 ≤ cur_0 ∧ cur_0 ≤ 2009) (kz_0_159 : 0 ≤ opened_0 ∧ opened_0 ≤ 13) (kz_0_165 : (-1) ≤ styleOne_0 ∧ styleOne_0 ≤ 47) (ex2 : gx = cur_0) (ex3 : 0 ≤ gx ∧ gx ≤ 2009) : ((fault_0 = 0) ∧ ((tokenKind_0 (cur_0) = 1) ∧ ((tokenEnd_0 (cur_0) = (tokenPlace_0 (cur_0) + 4)) ∧ (((tokenPlace_0 (cur_0) + 4) ≤ limit_0) ∧ (((tape_0 ((tokenPlace_0 (cur_0) + 0)) % 256) = 110) ∧ (((tape_0 ((tokenPlace_0 (cur_0) + 1)) % 256) = 111) ∧ (((tape_0 ((tokenPlace_0 (cur_0) + 2)) % 256) = 100) ∧ ((tape_0 ((tokenPlace_0 (cur_0) + 3)) % 256) = 101)))))))) → (styleOne_0 ≤ 23) := by
  subst fe_0_0_1
  subst fe_0_8_1
  subst fe_0_10_1
  subst fe_0_157_1
  subst fe_0_158_1
  subst fe_0_159_1
  have e_hE_0_1_1 := funext hE_0_1_1; subst e_hE_0_1_1
  have e_hE_0_160_1 := funext hE_0_160_1; subst e_hE_0_160_1
  have e_hE_0_161_1 := funext hE_0_161_1; subst e_hE_0_161_1
  have e_hE_0_162_1 := funext hE_0_162_1; subst e_hE_0_162_1
  have e_hE_0_163_1 := funext hE_0_163_1; subst e_hE_0_163_1
  first | with_reducible assumption | ((have f4_c0 := f4.1); (have f4_c1 := f4.2.1); (have f4_c2 := f4.2.2); (have f23_c0 := f23.1); (have f23_c1 := f23.2.1); (have f23_c2 := f23.2.2); (try and_intros) <;> first | with_reducible assumption | (clear f4_c2 f4 f23_c2 f23 hE_0_1_1 hK_0_1 hE_0_160_1 hK_0_160 hE_0_161_1 hE_0_162_1 hK_0_162 hE_0_163_1 hK_0_163 f10 f15 f16 f17 f29 f33 f34 f35; omega)) | ((have f4_c0 := f4.1); (have f4_c1 := f4.2.1); (have f4_c2 := f4.2.2); (have f23_c0 := f23.1); (have f23_c1 := f23.2.1); (have f23_c2 := f23.2.2); (first | have f10_b := f10 (by clear f4_c2 f4 f23_c2 f23 hE_0_1_1 hK_0_1 hE_0_160_1 hK_0_160 hE_0_161_1 hE_0_162_1 hK_0_162 hE_0_163_1 hK_0_163 f10 f15 f16 f17 f29 f33 f34 f35; omega) | skip); (first | have f15_b := f15 (by clear f4_c2 f4 f23_c2 f23 hE_0_1_1 hK_0_1 hE_0_160_1 hK_0_160 hE_0_161_1 hE_0_162_1 hK_0_162 hE_0_163_1 hK_0_163 f10 f15 f16 f17 f29 f33 f34 f35; omega) | skip); (first | have f16_b := f16 (by clear f4_c2 f4 f23_c2 f23 hE_0_1_1 hK_0_1 hE_0_160_1 hK_0_160 hE_0_161_1 hE_0_162_1 hK_0_162 hE_0_163_1 hK_0_163 f10 f15 f16 f17 f29 f33 f34 f35; omega) | skip); (first | have f29_b := f29 (by clear f4_c2 f4 f23_c2 f23 hE_0_1_1 hK_0_1 hE_0_160_1 hK_0_160 hE_0_161_1 hE_0_162_1 hK_0_162 hE_0_163_1 hK_0_163 f10 f15 f16 f17 f29 f33 f34 f35; omega) | skip); (first | have f33_b := f33 (by clear f4_c2 f4 f23_c2 f23 hE_0_1_1 hK_0_1 hE_0_160_1 hK_0_160 hE_0_161_1 hE_0_162_1 hK_0_162 hE_0_163_1 hK_0_163 f10 f15 f16 f17 f29 f33 f34 f35; omega) | skip); (first | have f34_b := f34 (by clear f4_c2 f4 f23_c2 f23 hE_0_1_1 hK_0_1 hE_0_160_1 hK_0_160 hE_0_161_1 hE_0_162_1 hK_0_162 hE_0_163_1 hK_0_163 f10 f15 f16 f17 f29 f33 f34 f35; omega) | skip); (first | have f10_d := f10 (by with_reducible assumption) | skip); (first | have f15_d := f15 (by with_reducible assumption) | skip); (first | have f16_d := f16 (by with_reducible assumption) | skip); (first | have f17_d := f17 (by with_reducible assumption) | skip); (first | have f29_d := f29 (by with_reducible assumption) | skip); (first | have f33_d := f33 (by with_reducible assumption) | skip); (first | have f34_d := f34 (by with_reducible assumption) | skip); (first | have f35_d := f35 (by with_reducible assumption) | skip); (try and_intros) <;> first | with_reducible assumption | (clear f4_c2 f4 f23_c2 f23 hE_0_1_1 hK_0_1 hE_0_160_1 hK_0_160 hE_0_161_1 hE_0_162_1 hK_0_162 hE_0_163_1 hK_0_163 f10 f15 f16 f17 f29 f33 f34 f35; omega)) | ((have f4_c0 := f4.1); (have f4_c1 := f4.2.1); (have f4_c2 := f4.2.2); (have f23_c0 := f23.1); (have f23_c1 := f23.2.1); (have f23_c2 := f23.2.2); (first | have f10_b := f10 (by clear f4_c2 f4 f23_c2 f23 hE_0_1_1 hK_0_1 hE_0_160_1 hK_0_160 hE_0_161_1 hE_0_162_1 hK_0_162 hE_0_163_1 hK_0_163 f10 f15 f16 f17 f29 f33 f34 f35; omega) | skip); (first | have f15_b := f15 (by clear f4_c2 f4 f23_c2 f23 hE_0_1_1 hK_0_1 hE_0_160_1 hK_0_160 hE_0_161_1 hE_0_162_1 hK_0_162 hE_0_163_1 hK_0_163 f10 f15 f16 f17 f29 f33 f34 f35; omega) | skip); (first | have f16_b := f16 (by clear f4_c2 f4 f23_c2 f23 hE_0_1_1 hK_0_1 hE_0_160_1 hK_0_160 hE_0_161_1 hE_0_162_1 hK_0_162 hE_0_163_1 hK_0_163 f10 f15 f16 f17 f29 f33 f34 f35; omega) | skip); (first | have f29_b := f29 (by clear f4_c2 f4 f23_c2 f23 hE_0_1_1 hK_0_1 hE_0_160_1 hK_0_160 hE_0_161_1 hE_0_162_1 hK_0_162 hE_0_163_1 hK_0_163 f10 f15 f16 f17 f29 f33 f34 f35; omega) | skip); (first | have f33_b := f33 (by clear f4_c2 f4 f23_c2 f23 hE_0_1_1 hK_0_1 hE_0_160_1 hK_0_160 hE_0_161_1 hE_0_162_1 hK_0_162 hE_0_163_1 hK_0_163 f10 f15 f16 f17 f29 f33 f34 f35; omega) | skip); (first | have f34_b := f34 (by clear f4_c2 f4 f23_c2 f23 hE_0_1_1 hK_0_1 hE_0_160_1 hK_0_160 hE_0_161_1 hE_0_162_1 hK_0_162 hE_0_163_1 hK_0_163 f10 f15 f16 f17 f29 f33 f34 f35; omega) | skip); (first | have f10_d := f10 (by with_reducible assumption) | skip); (first | have f15_d := f15 (by with_reducible assumption) | skip); (first | have f16_d := f16 (by with_reducible assumption) | skip); (first | have f17_d := f17 (by with_reducible assumption) | skip); (first | have f29_d := f29 (by with_reducible assumption) | skip); (first | have f33_d := f33 (by with_reducible assumption) | skip); (first | have f34_d := f34 (by with_reducible assumption) | skip); (first | have f35_d := f35 (by with_reducible assumption) | skip); (first | have f4_q := tk_nx0 f4 (by clear f4_c2 f4 f23_c2 f23 hE_0_1_1 hK_0_1 hE_0_160_1 hK_0_160 hE_0_161_1 hE_0_162_1 hK_0_162 hE_0_163_1 hK_0_163 f10 f15 f16 f17 f29 f33 f34 f35; omega) | skip); (first | have f23_q := tk_nx0 f23 (by clear f4_c2 f4 f23_c2 f23 hE_0_1_1 hK_0_1 hE_0_160_1 hK_0_160 hE_0_161_1 hE_0_162_1 hK_0_162 hE_0_163_1 hK_0_163 f10 f15 f16 f17 f29 f33 f34 f35; omega) | skip); (try and_intros) <;> first | with_reducible assumption | (clear f4_c2 f4 f23_c2 f23 hE_0_1_1 hK_0_1 hE_0_160_1 hK_0_160 hE_0_161_1 hE_0_162_1 hK_0_162 hE_0_163_1 hK_0_163 f10 f15 f16 f17 f29 f33 f34 f35; omega)) | ((have f4_c0 := f4.1); (have f4_c1 := f4.2.1); (have f4_c2 := f4.2.2); (have f23_c0 := f23.1); (have f23_c1 := f23.2.1); (have f23_c2 := f23.2.2); (first | have f10_b := f10 (by clear f4_c2 f4 f23_c2 f23 hE_0_1_1 hK_0_1 hE_0_160_1 hK_0_160 hE_0_161_1 hE_0_162_1 hK_0_162 hE_0_163_1 hK_0_163 f10 f15 f16 f17 f29 f33 f34 f35; omega) | skip); (first | have f15_b := f15 (by clear f4_c2 f4 f23_c2 f23 hE_0_1_1 hK_0_1 hE_0_160_1 hK_0_160 hE_0_161_1 hE_0_162_1 hK_0_162 hE_0_163_1 hK_0_163 f10 f15 f16 f17 f29 f33 f34 f35; omega) | skip); (first | have f16_b := f16 (by clear f4_c2 f4 f23_c2 f23 hE_0_1_1 hK_0_1 hE_0_160_1 hK_0_160 hE_0_161_1 hE_0_162_1 hK_0_162 hE_0_163_1 hK_0_163 f10 f15 f16 f17 f29 f33 f34 f35; omega) | skip); (first | have f29_b := f29 (by clear f4_c2 f4 f23_c2 f23 hE_0_1_1 hK_0_1 hE_0_160_1 hK_0_160 hE_0_161_1 hE_0_162_1 hK_0_162 hE_0_163_1 hK_0_163 f10 f15 f16 f17 f29 f33 f34 f35; omega) | skip); (first | have f33_b := f33 (by clear f4_c2 f4 f23_c2 f23 hE_0_1_1 hK_0_1 hE_0_160_1 hK_0_160 hE_0_161_1 hE_0_162_1 hK_0_162 hE_0_163_1 hK_0_163 f10 f15 f16 f17 f29 f33 f34 f35; omega) | skip); (first | have f34_b := f34 (by clear f4_c2 f4 f23_c2 f23 hE_0_1_1 hK_0_1 hE_0_160_1 hK_0_160 hE_0_161_1 hE_0_162_1 hK_0_162 hE_0_163_1 hK_0_163 f10 f15 f16 f17 f29 f33 f34 f35; omega) | skip); (first | have f10_d := f10 (by with_reducible assumption) | skip); (first | have f15_d := f15 (by with_reducible assumption) | skip); (first | have f16_d := f16 (by with_reducible assumption) | skip); (first | have f17_d := f17 (by with_reducible assumption) | skip); (first | have f29_d := f29 (by with_reducible assumption) | skip); (first | have f33_d := f33 (by with_reducible assumption) | skip); (first | have f34_d := f34 (by with_reducible assumption) | skip); (first | have f35_d := f35 (by with_reducible assumption) | skip); (first | have f4_q := tk_nx0 f4 (by clear f4_c2 f4 f23_c2 f23 hE_0_1_1 hK_0_1 hE_0_160_1 hK_0_160 hE_0_161_1 hE_0_162_1 hK_0_162 hE_0_163_1 hK_0_163 f10 f15 f16 f17 f29 f33 f34 f35; omega) | skip); (first | have f23_q := tk_nx0 f23 (by clear f4_c2 f4 f23_c2 f23 hE_0_1_1 hK_0_1 hE_0_160_1 hK_0_160 hE_0_161_1 hE_0_162_1 hK_0_162 hE_0_163_1 hK_0_163 f10 f15 f16 f17 f29 f33 f34 f35; omega) | skip); (first | have f4_r0 := tk_nx1 (c := cur_0) f4.2 (by clear f4_c2 f4 f23_c2 f23 hE_0_1_1 hK_0_1 hE_0_160_1 hK_0_160 hE_0_161_1 hE_0_162_1 hK_0_162 hE_0_163_1 hK_0_163 f10 f15 f16 f17 f29 f33 f34 f35; omega) (by clear f4_c2 f4 f23_c2 f23 hE_0_1_1 hK_0_1 hE_0_160_1 hK_0_160 hE_0_161_1 hE_0_162_1 hK_0_162 hE_0_163_1 hK_0_163 f10 f15 f16 f17 f29 f33 f34 f35; omega) | skip); (first | have f4_r1 := tk_nx1 (c := cur_1) f4.2 (by clear f4_c2 f4 f23_c2 f23 hE_0_1_1 hK_0_1 hE_0_160_1 hK_0_160 hE_0_161_1 hE_0_162_1 hK_0_162 hE_0_163_1 hK_0_163 f10 f15 f16 f17 f29 f33 f34 f35; omega) (by clear f4_c2 f4 f23_c2 f23 hE_0_1_1 hK_0_1 hE_0_160_1 hK_0_160 hE_0_161_1 hE_0_162_1 hK_0_162 hE_0_163_1 hK_0_163 f10 f15 f16 f17 f29 f33 f34 f35; omega) | skip); (first | have f23_r0 := tk_nx1 (c := cur_0) f23.2 (by clear f4_c2 f4 f23_c2 f23 hE_0_1_1 hK_0_1 hE_0_160_1 hK_0_160 hE_0_161_1 hE_0_162_1 hK_0_162 hE_0_163_1 hK_0_163 f10 f15 f16 f17 f29 f33 f34 f35; omega) (by clear f4_c2 f4 f23_c2 f23 hE_0_1_1 hK_0_1 hE_0_160_1 hK_0_160 hE_0_161_1 hE_0_162_1 hK_0_162 hE_0_163_1 hK_0_163 f10 f15 f16 f17 f29 f33 f34 f35; omega) | skip); (first | have f23_r1 := tk_nx1 (c := cur_1) f23.2 (by clear f4_c2 f4 f23_c2 f23 hE_0_1_1 hK_0_1 hE_0_160_1 hK_0_160 hE_0_161_1 hE_0_162_1 hK_0_162 hE_0_163_1 hK_0_163 f10 f15 f16 f17 f29 f33 f34 f35; omega) (by clear f4_c2 f4 f23_c2 f23 hE_0_1_1 hK_0_1 hE_0_160_1 hK_0_160 hE_0_161_1 hE_0_162_1 hK_0_162 hE_0_163_1 hK_0_163 f10 f15 f16 f17 f29 f33 f34 f35; omega) | skip); (try and_intros) <;> first | with_reducible assumption | (clear f4_c2 f4 f23_c2 f23 hE_0_1_1 hK_0_1 hE_0_160_1 hK_0_160 hE_0_161_1 hE_0_162_1 hK_0_162 hE_0_163_1 hK_0_163 f10 f15 f16 f17 f29 f33 f34 f35; omega)) | (intro hG; (first | have f10_g := f10 hG | skip); (first | have f15_g := f15 hG | skip); (first | have f16_g := f16 hG | skip); (first | have f17_g := f17 hG | skip); (first | have f29_g := f29 hG | skip); (first | have f33_g := f33 hG | skip); (first | have f34_g := f34 hG | skip); (first | have f35_g := f35 hG | skip); (have f4_c0 := f4.1); (have f4_c1 := f4.2.1); (have f4_c2 := f4.2.2); (have f23_c0 := f23.1); (have f23_c1 := f23.2.1); (have f23_c2 := f23.2.2); (first | have f10_b := f10 (by clear f4_c2 f4 f23_c2 f23 hE_0_1_1 hK_0_1 hE_0_160_1 hK_0_160 hE_0_161_1 hE_0_162_1 hK_0_162 hE_0_163_1 hK_0_163 f10 f15 f16 f17 f29 f33 f34 f35; omega) | skip); (first | have f15_b := f15 (by clear f4_c2 f4 f23_c2 f23 hE_0_1_1 hK_0_1 hE_0_160_1 hK_0_160 hE_0_161_1 hE_0_162_1 hK_0_162 hE_0_163_1 hK_0_163 f10 f15 f16 f17 f29 f33 f34 f35; omega) | skip); (first | have f16_b := f16 (by clear f4_c2 f4 f23_c2 f23 hE_0_1_1 hK_0_1 hE_0_160_1 hK_0_160 hE_0_161_1 hE_0_162_1 hK_0_162 hE_0_163_1 hK_0_163 f10 f15 f16 f17 f29 f33 f34 f35; omega) | skip); (first | have f29_b := f29 (by clear f4_c2 f4 f23_c2 f23 hE_0_1_1 hK_0_1 hE_0_160_1 hK_0_160 hE_0_161_1 hE_0_162_1 hK_0_162 hE_0_163_1 hK_0_163 f10 f15 f16 f17 f29 f33 f34 f35; omega) | skip); (first | have f33_b := f33 (by clear f4_c2 f4 f23_c2 f23 hE_0_1_1 hK_0_1 hE_0_160_1 hK_0_160 hE_0_161_1 hE_0_162_1 hK_0_162 hE_0_163_1 hK_0_163 f10 f15 f16 f17 f29 f33 f34 f35; omega) | skip); (first | have f34_b := f34 (by clear f4_c2 f4 f23_c2 f23 hE_0_1_1 hK_0_1 hE_0_160_1 hK_0_160 hE_0_161_1 hE_0_162_1 hK_0_162 hE_0_163_1 hK_0_163 f10 f15 f16 f17 f29 f33 f34 f35; omega) | skip); (try and_intros) <;> first | with_reducible assumption | (clear f4_c2 f4 f23_c2 f23 hE_0_1_1 hK_0_1 hE_0_160_1 hK_0_160 hE_0_161_1 hE_0_162_1 hK_0_162 hE_0_163_1 hK_0_163 f10 f15 f16 f17 f29 f33 f34 f35 hG; omega)) | omega
set_option maxHeartbeats 4000000 in
theorem vc_Mo_style_23_4 (x3 : Int) (x8 : Int) (x9 : Int) (x11 : Int) (x13 : Int) (x16 : Int) (x17 : Int) (styleOne_0 : Int) (cur_0 : Int) (tokenKind_0 : Int → Int) (tokens_0 : Int) (opened_0 : Int) (tokenValue_0 : Int → Int) (tokenPlace_0 : Int → Int) (tokenEnd_0 : Int → Int) (tape_0 : Int → Int) (limit_0 : Int) (fault_0 : Int) (taped_0 : Int) (tokenKind_1 : Int → Int) (cur_1 : Int) (tokens_1 : Int) (opened_1 : Int) (tokenValue_1 : Int → Int) (tokenPlace_1 : Int → Int) (tokenEnd_1 : Int → Int) (tape_1 : Int → Int) (limit_1 : Int) (fault_1 : Int) (taped_1 : Int) (gx : Int) (k3 : 0 ≤ x3 ∧ x3 ≤ 2000) (k8 : 0 ≤ x8 ∧ x8 ≤ 0) (k9 : 0 ≤ x9 ∧ x9 ≤ 47) (k11 : 0 ≤ x11 ∧ x11 ≤ 2010) (k13 : 0 ≤ x13 ∧ x13 ≤ 2009) (k16 : 1 ≤ x16 ∧ x16 ≤ 1) (k17 : 1 ≤ x17 ∧ x17 ≤ 1) (g0 : x9 = styleOne_0) (g1 : x13 = cur_0) (f3 : tokenKind_0 (cur_0) ≠ 0) (f4 : ((cur_0 + 1) ≤ tokens_0) ∧ ((tokens_0 ≤ 2010) ∧ ((tokenKind_0 ((tokens_0 - 1)) = 0) ∨ (tokenKind_0 ((tokens_0 - 1)) = 4)))) (f5 : 1 * opened_0 + 0 ≤ 0) (f6 : (-1) * opened_0 + 0 ≤ 0) (f7 : SOK (limit_0) (tokenKind_0) (tokenValue_0) (tokenPlace_0) (tokenEnd_0) (tape_0)) (f8 : fault_0 = 0) (f9 : SOC (fault_0) (cur_0) (limit_0) (tokenKind_0) (tokenValue_0) (tokenPlace_0) (tokenEnd_0) (tape_0)) (f10 : (x8 = 0) → (x9 ≤ 23)) (f11 : taped_0 = x3) (f13 : 1 * x11 + (1 * cur_0 + 0) ≤ 2010) (f14 : (-1) * x11 + ((-1) * cur_0 + 0) ≤ (-2010)) (f15 : (x16 = 1) → (tokenKind_0 (cur_0) = 1)) (f16 : (x16 = 1) → ((fault_0 = 0) ∧ ((tokenKind_0 (cur_0) = 1) ∧ ((tokenEnd_0 (cur_0) = (tokenPlace_0 (cur_0) + 4)) ∧ (((tokenPlace_0 (cur_0) + 4) ≤ limit_0) ∧ (((tape_0 ((tokenPlace_0 (cur_0) + 0)) % 256) = 110) ∧ (((tape_0 ((tokenPlace_0 (cur_0) + 1)) % 256) = 111) ∧ (((tape_0 ((tokenPlace_0 (cur_0) + 2)) % 256) = 100) ∧ ((tape_0 ((tokenPlace_0 (cur_0) + 3)) % 256) = 101))))))))) (f17 : ((fault_0 = 0) ∧ ((tokenKind_0 (cur_0) = 1) ∧ ((tokenEnd_0 (cur_0) = (tokenPlace_0 (cur_0) + 4)) ∧ (((tokenPlace_0 (cur_0) + 4) ≤ limit_0) ∧ (((tape_0 ((tokenPlace_0 (cur_0) + 0)) % 256) = 110) ∧ (((tape_0 ((tokenPlace_0 (cur_0) + 1)) % 256) = 111) ∧ (((tape_0 ((tokenPlace_0 (cur_0) + 2)) % 256) = 100) ∧ ((tape_0 ((tokenPlace_0 (cur_0) + 3)) % 256) = 101)))))))) → (x16 = 1)) (f18 : Wqnode (fault_0) (cur_0) (limit_0) (tokenKind_0) (tokenPlace_0) (tokenEnd_0) (tape_0) (x16)) (f20 : x16 = x17) (f21 : x8 = 0) (f22 : tokenKind_1 (cur_1) ≠ 0) (f23 : ((cur_1 + 1) ≤ tokens_1) ∧ ((tokens_1 ≤ 2010) ∧ ((tokenKind_1 ((tokens_1 - 1)) = 0) ∨ (tokenKind_1 ((tokens_1 - 1)) = 4)))) (f24 : 1 * opened_1 + 0 ≤ 0) (f25 : (-1) * opened_1 + 0 ≤ 0) (f26 : SOK (limit_1) (tokenKind_1) (tokenValue_1) (tokenPlace_1) (tokenEnd_1) (tape_1)) (f27 : fault_1 = 0) (f28 : SOC (fault_1) (cur_1) (limit_1) (tokenKind_1) (tokenValue_1) (tokenPlace_1) (tokenEnd_1) (tape_1)) (f29 : (x8 = 0) → (x9 ≤ 23)) (f30 : taped_1 = x3) (f31 : 1 * x11 + (1 * cur_1 + 0) ≤ 2010) (f32 : (-1) * x11 + ((-1) * cur_1 + 0) ≤ (-2010)) (f33 : (x16 = 1) → (tokenKind_1 (cur_1) = 1)) (f34 : (x16 = 1) → ((fault_1 = 0) ∧ ((tokenKind_1 (cur_1) = 1) ∧ ((tokenEnd_1 (cur_1) = (tokenPlace_1 (cur_1) + 4)) ∧ (((tokenPlace_1 (cur_1) + 4) ≤ limit_1) ∧ (((tape_1 ((tokenPlace_1 (cur_1) + 0)) % 256) = 110) ∧ (((tape_1 ((tokenPlace_1 (cur_1) + 1)) % 256) = 111) ∧ (((tape_1 ((tokenPlace_1 (cur_1) + 2)) % 256) = 100) ∧ ((tape_1 ((tokenPlace_1 (cur_1) + 3)) % 256) = 101))))))))) (f35 : ((fault_1 = 0) ∧ ((tokenKind_1 (cur_1) = 1) ∧ ((tokenEnd_1 (cur_1) = (tokenPlace_1 (cur_1) + 4)) ∧ (((tokenPlace_1 (cur_1) + 4) ≤ limit_1) ∧ (((tape_1 ((tokenPlace_1 (cur_1) + 0)) % 256) = 110) ∧ (((tape_1 ((tokenPlace_1 (cur_1) + 1)) % 256) = 111) ∧ (((tape_1 ((tokenPlace_1 (cur_1) + 2)) % 256) = 100) ∧ ((tape_1 ((tokenPlace_1 (cur_1) + 3)) % 256) = 101)))))))) → (x16 = 1)) (f36 : Wqnode (fault_1) (cur_1) (limit_1) (tokenKind_1) (tokenPlace_1) (tokenEnd_1) (tape_1) (x16)) (fe_0_0_1 : taped_0 = taped_1) (fe_0_8_1 : fault_0 = fault_1) (fe_0_10_1 : limit_0 = limit_1) (fe_0_157_1 : tokens_0 = tokens_1) (fe_0_158_1 : cur_0 = cur_1) (fe_0_159_1 : opened_0 = opened_1) (fe_0_165_1 : styleOne_0 = x9) (hE_0_1_1 : ∀ j : Int, tape_0 j = tape_1 j) (hK_0_1 : ∀ j : Int, 0 ≤ j → j < 2000 → (-128) ≤ tape_0 j ∧ tape_0 j ≤ 127) (hE_0_160_1 : ∀ j : Int, tokenKind_0 j = tokenKind_1 j) (hK_0_160 : ∀ j : Int, 0 ≤ j → j < 2010 → 0 ≤ tokenKind_0 j ∧ tokenKind_0 j ≤ 4) (hE_0_161_1 : ∀ j : Int, tokenValue_0 j = tokenValue_1 j) (hE_0_162_1 : ∀ j : Int, tokenPlace_0 j = tokenPlace_1 j) (hK_0_162 : ∀ j : Int, 0 ≤ j → j < 2010 → 0 ≤ tokenPlace_0 j ∧ tokenPlace_0 j ≤ 2000) (hE_0_163_1 : ∀ j : Int, tokenEnd_0 j = tokenEnd_1 j) (hK_0_163 : ∀ j : Int, 0 ≤ j → j < 2010 → 0 ≤ tokenEnd_0 j ∧ tokenEnd_0 j ≤ 2000) (kz_0_0 : 0 ≤ taped_0 ∧ taped_0 ≤ 2000) (kz_0_8 : 0 ≤ fault_0 ∧ fault_0 ≤ 5) (kz_0_10 : 0 ≤ limit_0 ∧ limit_0 ≤ 2000) (kz_0_157 : 0 ≤ tokens_0 ∧ tokens_0 ≤ 2010) (kz_0_158 : 0 ≤ cur_0 ∧ cur_0 ≤ 2009) (kz_0_159 : 0 ≤ opened_0 ∧ opened_0 ≤ 13) (kz_0_165 : (-1) ≤ styleOne_0 ∧ styleOne_0 ≤ 47) (ex2 : gx = cur_0) (ex3 : 0 ≤ gx ∧ gx ≤ 2009) : 1 * opened_0 + 0 ≤ 0 := by
  subst fe_0_0_1
  subst fe_0_8_1
  subst fe_0_10_1
  subst fe_0_157_1
  subst fe_0_158_1
  subst fe_0_159_1
  have e_hE_0_1_1 := funext hE_0_1_1; subst e_hE_0_1_1
  have e_hE_0_160_1 := funext hE_0_160_1; subst e_hE_0_160_1
  have e_hE_0_161_1 := funext hE_0_161_1; subst e_hE_0_161_1
  have e_hE_0_162_1 := funext hE_0_162_1; subst e_hE_0_162_1
  have e_hE_0_163_1 := funext hE_0_163_1; subst e_hE_0_163_1
  first | with_reducible assumption | ((have f4_c0 := f4.1); (have f4_c1 := f4.2.1); (have f4_c2 := f4.2.2); (have f23_c0 := f23.1); (have f23_c1 := f23.2.1); (have f23_c2 := f23.2.2); (try and_intros) <;> first | with_reducible assumption | (clear f4_c2 f4 f23_c2 f23 hE_0_1_1 hK_0_1 hE_0_160_1 hK_0_160 hE_0_161_1 hE_0_162_1 hK_0_162 hE_0_163_1 hK_0_163 f10 f15 f16 f17 f29 f33 f34 f35; omega)) | ((have f4_c0 := f4.1); (have f4_c1 := f4.2.1); (have f4_c2 := f4.2.2); (have f23_c0 := f23.1); (have f23_c1 := f23.2.1); (have f23_c2 := f23.2.2); (first | have f10_b := f10 (by clear f4_c2 f4 f23_c2 f23 hE_0_1_1 hK_0_1 hE_0_160_1 hK_0_160 hE_0_161_1 hE_0_162_1 hK_0_162 hE_0_163_1 hK_0_163 f10 f15 f16 f17 f29 f33 f34 f35; omega) | skip); (first | have f15_b := f15 (by clear f4_c2 f4 f23_c2 f23 hE_0_1_1 hK_0_1 hE_0_160_1 hK_0_160 hE_0_161_1 hE_0_162_1 hK_0_162 hE_0_163_1 hK_0_163 f10 f15 f16 f17 f29 f33 f34 f35; omega) | skip); (first | have f16_b := f16 (by clear f4_c2 f4 f23_c2 f23 hE_0_1_1 hK_0_1 hE_0_160_1 hK_0_160 hE_0_161_1 hE_0_162_1 hK_0_162 hE_0_163_1 hK_0_163 f10 f15 f16 f17 f29 f33 f34 f35; omega) | skip); (first | have f29_b := f29 (by clear f4_c2 f4 f23_c2 f23 hE_0_1_1 hK_0_1 hE_0_160_1 hK_0_160 hE_0_161_1 hE_0_162_1 hK_0_162 hE_0_163_1 hK_0_163 f10 f15 f16 f17 f29 f33 f34 f35; omega) | skip); (first | have f33_b := f33 (by clear f4_c2 f4 f23_c2 f23 hE_0_1_1 hK_0_1 hE_0_160_1 hK_0_160 hE_0_161_1 hE_0_162_1 hK_0_162 hE_0_163_1 hK_0_163 f10 f15 f16 f17 f29 f33 f34 f35; omega) | skip); (first | have f34_b := f34 (by clear f4_c2 f4 f23_c2 f23 hE_0_1_1 hK_0_1 hE_0_160_1 hK_0_160 hE_0_161_1 hE_0_162_1 hK_0_162 hE_0_163_1 hK_0_163 f10 f15 f16 f17 f29 f33 f34 f35; omega) | skip); (first | have f10_d := f10 (by with_reducible assumption) | skip); (first | have f15_d := f15 (by with_reducible assumption) | skip); (first | have f16_d := f16 (by with_reducible assumption) | skip); (first | have f17_d := f17 (by with_reducible assumption) | skip); (first | have f29_d := f29 (by with_reducible assumption) | skip); (first | have f33_d := f33 (by with_reducible assumption) | skip); (first | have f34_d := f34 (by with_reducible assumption) | skip); (first | have f35_d := f35 (by with_reducible assumption) | skip); (try and_intros) <;> first | with_reducible assumption | (clear f4_c2 f4 f23_c2 f23 hE_0_1_1 hK_0_1 hE_0_160_1 hK_0_160 hE_0_161_1 hE_0_162_1 hK_0_162 hE_0_163_1 hK_0_163 f10 f15 f16 f17 f29 f33 f34 f35; omega)) | ((have f4_c0 := f4.1); (have f4_c1 := f4.2.1); (have f4_c2 := f4.2.2); (have f23_c0 := f23.1); (have f23_c1 := f23.2.1); (have f23_c2 := f23.2.2); (first | have f10_b := f10 (by clear f4_c2 f4 f23_c2 f23 hE_0_1_1 hK_0_1 hE_0_160_1 hK_0_160 hE_0_161_1 hE_0_162_1 hK_0_162 hE_0_163_1 hK_0_163 f10 f15 f16 f17 f29 f33 f34 f35; omega) | skip); (first | have f15_b := f15 (by clear f4_c2 f4 f23_c2 f23 hE_0_1_1 hK_0_1 hE_0_160_1 hK_0_160 hE_0_161_1 hE_0_162_1 hK_0_162 hE_0_163_1 hK_0_163 f10 f15 f16 f17 f29 f33 f34 f35; omega) | skip); (first | have f16_b := f16 (by clear f4_c2 f4 f23_c2 f23 hE_0_1_1 hK_0_1 hE_0_160_1 hK_0_160 hE_0_161_1 hE_0_162_1 hK_0_162 hE_0_163_1 hK_0_163 f10 f15 f16 f17 f29 f33 f34 f35; omega) | skip); (first | have f29_b := f29 (by clear f4_c2 f4 f23_c2 f23 hE_0_1_1 hK_0_1 hE_0_160_1 hK_0_160 hE_0_161_1 hE_0_162_1 hK_0_162 hE_0_163_1 hK_0_163 f10 f15 f16 f17 f29 f33 f34 f35; omega) | skip); (first | have f33_b := f33 (by clear f4_c2 f4 f23_c2 f23 hE_0_1_1 hK_0_1 hE_0_160_1 hK_0_160 hE_0_161_1 hE_0_162_1 hK_0_162 hE_0_163_1 hK_0_163 f10 f15 f16 f17 f29 f33 f34 f35; omega) | skip); (first | have f34_b := f34 (by clear f4_c2 f4 f23_c2 f23 hE_0_1_1 hK_0_1 hE_0_160_1 hK_0_160 hE_0_161_1 hE_0_162_1 hK_0_162 hE_0_163_1 hK_0_163 f10 f15 f16 f17 f29 f33 f34 f35; omega) | skip); (first | have f10_d := f10 (by with_reducible assumption) | skip); (first | have f15_d := f15 (by with_reducible assumption) | skip); (first | have f16_d := f16 (by with_reducible assumption) | skip); (first | have f17_d := f17 (by with_reducible assumption) | skip); (first | have f29_d := f29 (by with_reducible assumption) | skip); (first | have f33_d := f33 (by with_reducible assumption) | skip); (first | have f34_d := f34 (by with_reducible assumption) | skip); (first | have f35_d := f35 (by with_reducible assumption) | skip); (first | have f4_q := tk_nx0 f4 (by clear f4_c2 f4 f23_c2 f23 hE_0_1_1 hK_0_1 hE_0_160_1 hK_0_160 hE_0_161_1 hE_0_162_1 hK_0_162 hE_0_163_1 hK_0_163 f10 f15 f16 f17 f29 f33 f34 f35; omega) | skip); (first | have f23_q := tk_nx0 f23 (by clear f4_c2 f4 f23_c2 f23 hE_0_1_1 hK_0_1 hE_0_160_1 hK_0_160 hE_0_161_1 hE_0_162_1 hK_0_162 hE_0_163_1 hK_0_163 f10 f15 f16 f17 f29 f33 f34 f35; omega) | skip); (try and_intros) <;> first | with_reducible assumption | (clear f4_c2 f4 f23_c2 f23 hE_0_1_1 hK_0_1 hE_0_160_1 hK_0_160 hE_0_161_1 hE_0_162_1 hK_0_162 hE_0_163_1 hK_0_163 f10 f15 f16 f17 f29 f33 f34 f35; omega)) | ((have f4_c0 := f4.1); (have f4_c1 := f4.2.1); (have f4_c2 := f4.2.2); (have f23_c0 := f23.1); (have f23_c1 := f23.2.1); (have f23_c2 := f23.2.2); (first | have f10_b := f10 (by clear f4_c2 f4 f23_c2 f23 hE_0_1_1 hK_0_1 hE_0_160_1 hK_0_160 hE_0_161_1 hE_0_162_1 hK_0_162 hE_0_163_1 hK_0_163 f10 f15 f16 f17 f29 f33 f34 f35; omega) | skip); (first | have f15_b := f15 (by clear f4_c2 f4 f23_c2 f23 hE_0_1_1 hK_0_1 hE_0_160_1 hK_0_160 hE_0_161_1 hE_0_162_1 hK_0_162 hE_0_163_1 hK_0_163 f10 f15 f16 f17 f29 f33 f34 f35; omega) | skip); (first | have f16_b := f16 (by clear f4_c2 f4 f23_c2 f23 hE_0_1_1 hK_0_1 hE_0_160_1 hK_0_160 hE_0_161_1 hE_0_162_1 hK_0_162 hE_0_163_1 hK_0_163 f10 f15 f16 f17 f29 f33 f34 f35; omega) | skip); (first | have f29_b := f29 (by clear f4_c2 f4 f23_c2 f23 hE_0_1_1 hK_0_1 hE_0_160_1 hK_0_160 hE_0_161_1 hE_0_162_1 hK_0_162 hE_0_163_1 hK_0_163 f10 f15 f16 f17 f29 f33 f34 f35; omega) | skip); (first | have f33_b := f33 (by clear f4_c2 f4 f23_c2 f23 hE_0_1_1 hK_0_1 hE_0_160_1 hK_0_160 hE_0_161_1 hE_0_162_1 hK_0_162 hE_0_163_1 hK_0_163 f10 f15 f16 f17 f29 f33 f34 f35; omega) | skip); (first | have f34_b := f34 (by clear f4_c2 f4 f23_c2 f23 hE_0_1_1 hK_0_1 hE_0_160_1 hK_0_160 hE_0_161_1 hE_0_162_1 hK_0_162 hE_0_163_1 hK_0_163 f10 f15 f16 f17 f29 f33 f34 f35; omega) | skip); (first | have f10_d := f10 (by with_reducible assumption) | skip); (first | have f15_d := f15 (by with_reducible assumption) | skip); (first | have f16_d := f16 (by with_reducible assumption) | skip); (first | have f17_d := f17 (by with_reducible assumption) | skip); (first | have f29_d := f29 (by with_reducible assumption) | skip); (first | have f33_d := f33 (by with_reducible assumption) | skip); (first | have f34_d := f34 (by with_reducible assumption) | skip); (first | have f35_d := f35 (by with_reducible assumption) | skip); (first | have f4_q := tk_nx0 f4 (by clear f4_c2 f4 f23_c2 f23 hE_0_1_1 hK_0_1 hE_0_160_1 hK_0_160 hE_0_161_1 hE_0_162_1 hK_0_162 hE_0_163_1 hK_0_163 f10 f15 f16 f17 f29 f33 f34 f35; omega) | skip); (first | have f23_q := tk_nx0 f23 (by clear f4_c2 f4 f23_c2 f23 hE_0_1_1 hK_0_1 hE_0_160_1 hK_0_160 hE_0_161_1 hE_0_162_1 hK_0_162 hE_0_163_1 hK_0_163 f10 f15 f16 f17 f29 f33 f34 f35; omega) | skip); (first | have f4_r0 := tk_nx1 (c := cur_0) f4.2 (by clear f4_c2 f4 f23_c2 f23 hE_0_1_1 hK_0_1 hE_0_160_1 hK_0_160 hE_0_161_1 hE_0_162_1 hK_0_162 hE_0_163_1 hK_0_163 f10 f15 f16 f17 f29 f33 f34 f35; omega) (by clear f4_c2 f4 f23_c2 f23 hE_0_1_1 hK_0_1 hE_0_160_1 hK_0_160 hE_0_161_1 hE_0_162_1 hK_0_162 hE_0_163_1 hK_0_163 f10 f15 f16 f17 f29 f33 f34 f35; omega) | skip); (first | have f4_r1 := tk_nx1 (c := cur_1) f4.2 (by clear f4_c2 f4 f23_c2 f23 hE_0_1_1 hK_0_1 hE_0_160_1 hK_0_160 hE_0_161_1 hE_0_162_1 hK_0_162 hE_0_163_1 hK_0_163 f10 f15 f16 f17 f29 f33 f34 f35; omega) (by clear f4_c2 f4 f23_c2 f23 hE_0_1_1 hK_0_1 hE_0_160_1 hK_0_160 hE_0_161_1 hE_0_162_1 hK_0_162 hE_0_163_1 hK_0_163 f10 f15 f16 f17 f29 f33 f34 f35; omega) | skip); (first | have f23_r0 := tk_nx1 (c := cur_0) f23.2 (by clear f4_c2 f4 f23_c2 f23 hE_0_1_1 hK_0_1 hE_0_160_1 hK_0_160 hE_0_161_1 hE_0_162_1 hK_0_162 hE_0_163_1 hK_0_163 f10 f15 f16 f17 f29 f33 f34 f35; omega) (by clear f4_c2 f4 f23_c2 f23 hE_0_1_1 hK_0_1 hE_0_160_1 hK_0_160 hE_0_161_1 hE_0_162_1 hK_0_162 hE_0_163_1 hK_0_163 f10 f15 f16 f17 f29 f33 f34 f35; omega) | skip); (first | have f23_r1 := tk_nx1 (c := cur_1) f23.2 (by clear f4_c2 f4 f23_c2 f23 hE_0_1_1 hK_0_1 hE_0_160_1 hK_0_160 hE_0_161_1 hE_0_162_1 hK_0_162 hE_0_163_1 hK_0_163 f10 f15 f16 f17 f29 f33 f34 f35; omega) (by clear f4_c2 f4 f23_c2 f23 hE_0_1_1 hK_0_1 hE_0_160_1 hK_0_160 hE_0_161_1 hE_0_162_1 hK_0_162 hE_0_163_1 hK_0_163 f10 f15 f16 f17 f29 f33 f34 f35; omega) | skip); (try and_intros) <;> first | with_reducible assumption | (clear f4_c2 f4 f23_c2 f23 hE_0_1_1 hK_0_1 hE_0_160_1 hK_0_160 hE_0_161_1 hE_0_162_1 hK_0_162 hE_0_163_1 hK_0_163 f10 f15 f16 f17 f29 f33 f34 f35; omega)) | omega
set_option maxHeartbeats 4000000 in
theorem vc_Mo_style_23_5 (x3 : Int) (x8 : Int) (x9 : Int) (x11 : Int) (x13 : Int) (x16 : Int) (x17 : Int) (styleOne_0 : Int) (cur_0 : Int) (tokenKind_0 : Int → Int) (tokens_0 : Int) (opened_0 : Int) (tokenValue_0 : Int → Int) (tokenPlace_0 : Int → Int) (tokenEnd_0 : Int → Int) (tape_0 : Int → Int) (limit_0 : Int) (fault_0 : Int) (taped_0 : Int) (tokenKind_1 : Int → Int) (cur_1 : Int) (tokens_1 : Int) (opened_1 : Int) (tokenValue_1 : Int → Int) (tokenPlace_1 : Int → Int) (tokenEnd_1 : Int → Int) (tape_1 : Int → Int) (limit_1 : Int) (fault_1 : Int) (taped_1 : Int) (gx : Int) (k3 : 0 ≤ x3 ∧ x3 ≤ 2000) (k8 : 0 ≤ x8 ∧ x8 ≤ 0) (k9 : 0 ≤ x9 ∧ x9 ≤ 47) (k11 : 0 ≤ x11 ∧ x11 ≤ 2010) (k13 : 0 ≤ x13 ∧ x13 ≤ 2009) (k16 : 1 ≤ x16 ∧ x16 ≤ 1) (k17 : 1 ≤ x17 ∧ x17 ≤ 1) (g0 : x9 = styleOne_0) (g1 : x13 = cur_0) (f3 : tokenKind_0 (cur_0) ≠ 0) (f4 : ((cur_0 + 1) ≤ tokens_0) ∧ ((tokens_0 ≤ 2010) ∧ ((tokenKind_0 ((tokens_0 - 1)) = 0) ∨ (tokenKind_0 ((tokens_0 - 1)) = 4)))) (f5 : 1 * opened_0 + 0 ≤ 0) (f6 : (-1) * opened_0 + 0 ≤ 0) (f7 : SOK (limit_0) (tokenKind_0) (tokenValue_0) (tokenPlace_0) (tokenEnd_0) (tape_0)) (f8 : fault_0 = 0) (f9 : SOC (fault_0) (cur_0) (limit_0) (tokenKind_0) (tokenValue_0) (tokenPlace_0) (tokenEnd_0) (tape_0)) (f10 : (x8 = 0) → (x9 ≤ 23)) (f11 : taped_0 = x3) (f13 : 1 * x11 + (1 * cur_0 + 0) ≤ 2010) (f14 : (-1) * x11 + ((-1) * cur_0 + 0) ≤ (-2010)) (f15 : (x16 = 1) → (tokenKind_0 (cur_0) = 1)) (f16 : (x16 = 1) → ((fault_0 = 0) ∧ ((tokenKind_0 (cur_0) = 1) ∧ ((tokenEnd_0 (cur_0) = (tokenPlace_0 (cur_0) + 4)) ∧ (((tokenPlace_0 (cur_0) + 4) ≤ limit_0) ∧ (((tape_0 ((tokenPlace_0 (cur_0) + 0)) % 256) = 110) ∧ (((tape_0 ((tokenPlace_0 (cur_0) + 1)) % 256) = 111) ∧ (((tape_0 ((tokenPlace_0 (cur_0) + 2)) % 256) = 100) ∧ ((tape_0 ((tokenPlace_0 (cur_0) + 3)) % 256) = 101))))))))) (f17 : ((fault_0 = 0) ∧ ((tokenKind_0 (cur_0) = 1) ∧ ((tokenEnd_0 (cur_0) = (tokenPlace_0 (cur_0) + 4)) ∧ (((tokenPlace_0 (cur_0) + 4) ≤ limit_0) ∧ (((tape_0 ((tokenPlace_0 (cur_0) + 0)) % 256) = 110) ∧ (((tape_0 ((tokenPlace_0 (cur_0) + 1)) % 256) = 111) ∧ (((tape_0 ((tokenPlace_0 (cur_0) + 2)) % 256) = 100) ∧ ((tape_0 ((tokenPlace_0 (cur_0) + 3)) % 256) = 101)))))))) → (x16 = 1)) (f18 : Wqnode (fault_0) (cur_0) (limit_0) (tokenKind_0) (tokenPlace_0) (tokenEnd_0) (tape_0) (x16)) (f20 : x16 = x17) (f21 : x8 = 0) (f22 : tokenKind_1 (cur_1) ≠ 0) (f23 : ((cur_1 + 1) ≤ tokens_1) ∧ ((tokens_1 ≤ 2010) ∧ ((tokenKind_1 ((tokens_1 - 1)) = 0) ∨ (tokenKind_1 ((tokens_1 - 1)) = 4)))) (f24 : 1 * opened_1 + 0 ≤ 0) (f25 : (-1) * opened_1 + 0 ≤ 0) (f26 : SOK (limit_1) (tokenKind_1) (tokenValue_1) (tokenPlace_1) (tokenEnd_1) (tape_1)) (f27 : fault_1 = 0) (f28 : SOC (fault_1) (cur_1) (limit_1) (tokenKind_1) (tokenValue_1) (tokenPlace_1) (tokenEnd_1) (tape_1)) (f29 : (x8 = 0) → (x9 ≤ 23)) (f30 : taped_1 = x3) (f31 : 1 * x11 + (1 * cur_1 + 0) ≤ 2010) (f32 : (-1) * x11 + ((-1) * cur_1 + 0) ≤ (-2010)) (f33 : (x16 = 1) → (tokenKind_1 (cur_1) = 1)) (f34 : (x16 = 1) → ((fault_1 = 0) ∧ ((tokenKind_1 (cur_1) = 1) ∧ ((tokenEnd_1 (cur_1) = (tokenPlace_1 (cur_1) + 4)) ∧ (((tokenPlace_1 (cur_1) + 4) ≤ limit_1) ∧ (((tape_1 ((tokenPlace_1 (cur_1) + 0)) % 256) = 110) ∧ (((tape_1 ((tokenPlace_1 (cur_1) + 1)) % 256) = 111) ∧ (((tape_1 ((tokenPlace_1 (cur_1) + 2)) % 256) = 100) ∧ ((tape_1 ((tokenPlace_1 (cur_1) + 3)) % 256) = 101))))))))) (f35 : ((fault_1 = 0) ∧ ((tokenKind_1 (cur_1) = 1) ∧ ((tokenEnd_1 (cur_1) = (tokenPlace_1 (cur_1) + 4)) ∧ (((tokenPlace_1 (cur_1) + 4) ≤ limit_1) ∧ (((tape_1 ((tokenPlace_1 (cur_1) + 0)) % 256) = 110) ∧ (((tape_1 ((tokenPlace_1 (cur_1) + 1)) % 256) = 111) ∧ (((tape_1 ((tokenPlace_1 (cur_1) + 2)) % 256) = 100) ∧ ((tape_1 ((tokenPlace_1 (cur_1) + 3)) % 256) = 101)))))))) → (x16 = 1)) (f36 : Wqnode (fault_1) (cur_1) (limit_1) (tokenKind_1) (tokenPlace_1) (tokenEnd_1) (tape_1) (x16)) (fe_0_0_1 : taped_0 = taped_1) (fe_0_8_1 : fault_0 = fault_1) (fe_0_10_1 : limit_0 = limit_1) (fe_0_157_1 : tokens_0 = tokens_1) (fe_0_158_1 : cur_0 = cur_1) (fe_0_159_1 : opened_0 = opened_1) (fe_0_165_1 : styleOne_0 = x9) (hE_0_1_1 : ∀ j : Int, tape_0 j = tape_1 j) (hK_0_1 : ∀ j : Int, 0 ≤ j → j < 2000 → (-128) ≤ tape_0 j ∧ tape_0 j ≤ 127) (hE_0_160_1 : ∀ j : Int, tokenKind_0 j = tokenKind_1 j) (hK_0_160 : ∀ j : Int, 0 ≤ j → j < 2010 → 0 ≤ tokenKind_0 j ∧ tokenKind_0 j ≤ 4) (hE_0_161_1 : ∀ j : Int, tokenValue_0 j = tokenValue_1 j) (hE_0_162_1 : ∀ j : Int, tokenPlace_0 j = tokenPlace_1 j) (hK_0_162 : ∀ j : Int, 0 ≤ j → j < 2010 → 0 ≤ tokenPlace_0 j ∧ tokenPlace_0 j ≤ 2000) (hE_0_163_1 : ∀ j : Int, tokenEnd_0 j = tokenEnd_1 j) (hK_0_163 : ∀ j : Int, 0 ≤ j → j < 2010 → 0 ≤ tokenEnd_0 j ∧ tokenEnd_0 j ≤ 2000) (kz_0_0 : 0 ≤ taped_0 ∧ taped_0 ≤ 2000) (kz_0_8 : 0 ≤ fault_0 ∧ fault_0 ≤ 5) (kz_0_10 : 0 ≤ limit_0 ∧ limit_0 ≤ 2000) (kz_0_157 : 0 ≤ tokens_0 ∧ tokens_0 ≤ 2010) (kz_0_158 : 0 ≤ cur_0 ∧ cur_0 ≤ 2009) (kz_0_159 : 0 ≤ opened_0 ∧ opened_0 ≤ 13) (kz_0_165 : (-1) ≤ styleOne_0 ∧ styleOne_0 ≤ 47) (ex2 : gx = cur_0) (ex3 : 0 ≤ gx ∧ gx ≤ 2009) : (-1) * opened_0 + 0 ≤ 0 := by
  subst fe_0_0_1
  subst fe_0_8_1
  subst fe_0_10_1
  subst fe_0_157_1
  subst fe_0_158_1
  subst fe_0_159_1
  have e_hE_0_1_1 := funext hE_0_1_1; subst e_hE_0_1_1
  have e_hE_0_160_1 := funext hE_0_160_1; subst e_hE_0_160_1
  have e_hE_0_161_1 := funext hE_0_161_1; subst e_hE_0_161_1
  have e_hE_0_162_1 := funext hE_0_162_1; subst e_hE_0_162_1
  have e_hE_0_163_1 := funext hE_0_163_1; subst e_hE_0_163_1
  first | with_reducible assumption | ((have f4_c0 := f4.1); (have f4_c1 := f4.2.1); (have f4_c2 := f4.2.2); (have f23_c0 := f23.1); (have f23_c1 := f23.2.1); (have f23_c2 := f23.2.2); (try and_intros) <;> first | with_reducible assumption | (clear f4_c2 f4 f23_c2 f23 hE_0_1_1 hK_0_1 hE_0_160_1 hK_0_160 hE_0_161_1 hE_0_162_1 hK_0_162 hE_0_163_1 hK_0_163 f10 f15 f16 f17 f29 f33 f34 f35; omega)) | ((have f4_c0 := f4.1); (have f4_c1 := f4.2.1); (have f4_c2 := f4.2.2); (have f23_c0 := f23.1); (have f23_c1 := f23.2.1); (have f23_c2 := f23.2.2); (first | have f10_b := f10 (by clear f4_c2 f4 f23_c2 f23 hE_0_1_1 hK_0_1 hE_0_160_1 hK_0_160 hE_0_161_1 hE_0_162_1 hK_0_162 hE_0_163_1 hK_0_163 f10 f15 f16 f17 f29 f33 f34 f35; omega) | skip); (first | have f15_b := f15 (by clear f4_c2 f4 f23_c2 f23 hE_0_1_1 hK_0_1 hE_0_160_1 hK_0_160 hE_0_161_1 hE_0_162_1 hK_0_162 hE_0_163_1 hK_0_163 f10 f15 f16 f17 f29 f33 f34 f35; omega) | skip); (first | have f16_b := f16 (by clear f4_c2 f4 f23_c2 f23 hE_0_1_1 hK_0_1 hE_0_160_1 hK_0_160 hE_0_161_1 hE_0_162_1 hK_0_162 hE_0_163_1 hK_0_163 f10 f15 f16 f17 f29 f33 f34 f35; omega) | skip); (first | have f29_b := f29 (by clear f4_c2 f4 f23_c2 f23 hE_0_1_1 hK_0_1 hE_0_160_1 hK_0_160 hE_0_161_1 hE_0_162_1 hK_0_162 hE_0_163_1 hK_0_163 f10 f15 f16 f17 f29 f33 f34 f35; omega) | skip); (first | have f33_b := f33 (by clear f4_c2 f4 f23_c2 f23 hE_0_1_1 hK_0_1 hE_0_160_1 hK_0_160 hE_0_161_1 hE_0_162_1 hK_0_162 hE_0_163_1 hK_0_163 f10 f15 f16 f17 f29 f33 f34 f35; omega) | skip); (first | have f34_b := f34 (by clear f4_c2 f4 f23_c2 f23 hE_0_1_1 hK_0_1 hE_0_160_1 hK_0_160 hE_0_161_1 hE_0_162_1 hK_0_162 hE_0_163_1 hK_0_163 f10 f15 f16 f17 f29 f33 f34 f35; omega) | skip); (first | have f10_d := f10 (by with_reducible assumption) | skip); (first | have f15_d := f15 (by with_reducible assumption) | skip); (first | have f16_d := f16 (by with_reducible assumption) | skip); (first | have f17_d := f17 (by with_reducible assumption) | skip); (first | have f29_d := f29 (by with_reducible assumption) | skip); (first | have f33_d := f33 (by with_reducible assumption) | skip); (first | have f34_d := f34 (by with_reducible assumption) | skip); (first | have f35_d := f35 (by with_reducible assumption) | skip); (try and_intros) <;> first | with_reducible assumption | (clear f4_c2 f4 f23_c2 f23 hE_0_1_1 hK_0_1 hE_0_160_1 hK_0_160 hE_0_161_1 hE_0_162_1 hK_0_162 hE_0_163_1 hK_0_163 f10 f15 f16 f17 f29 f33 f34 f35; omega)) | ((have f4_c0 := f4.1); (have f4_c1 := f4.2.1); (have f4_c2 := f4.2.2); (have f23_c0 := f23.1); (have f23_c1 := f23.2.1); (have f23_c2 := f23.2.2); (first | have f10_b := f10 (by clear f4_c2 f4 f23_c2 f23 hE_0_1_1 hK_0_1 hE_0_160_1 hK_0_160 hE_0_161_1 hE_0_162_1 hK_0_162 hE_0_163_1 hK_0_163 f10 f15 f16 f17 f29 f33 f34 f35; omega) | skip); (first | have f15_b := f15 (by clear f4_c2 f4 f23_c2 f23 hE_0_1_1 hK_0_1 hE_0_160_1 hK_0_160 hE_0_161_1 hE_0_162_1 hK_0_162 hE_0_163_1 hK_0_163 f10 f15 f16 f17 f29 f33 f34 f35; omega) | skip); (first | have f16_b := f16 (by clear f4_c2 f4 f23_c2 f23 hE_0_1_1 hK_0_1 hE_0_160_1 hK_0_160 hE_0_161_1 hE_0_162_1 hK_0_162 hE_0_163_1 hK_0_163 f10 f15 f16 f17 f29 f33 f34 f35; omega) | skip); (first | have f29_b := f29 (by clear f4_c2 f4 f23_c2 f23 hE_0_1_1 hK_0_1 hE_0_160_1 hK_0_160 hE_0_161_1 hE_0_162_1 hK_0_162 hE_0_163_1 hK_0_163 f10 f15 f16 f17 f29 f33 f34 f35; omega) | skip); (first | have f33_b := f33 (by clear f4_c2 f4 f23_c2 f23 hE_0_1_1 hK_0_1 hE_0_160_1 hK_0_160 hE_0_161_1 hE_0_162_1 hK_0_162 hE_0_163_1 hK_0_163 f10 f15 f16 f17 f29 f33 f34 f35; omega) | skip); (first | have f34_b := f34 (by clear f4_c2 f4 f23_c2 f23 hE_0_1_1 hK_0_1 hE_0_160_1 hK_0_160 hE_0_161_1 hE_0_162_1 hK_0_162 hE_0_163_1 hK_0_163 f10 f15 f16 f17 f29 f33 f34 f35; omega) | skip); (first | have f10_d := f10 (by with_reducible assumption) | skip); (first | have f15_d := f15 (by with_reducible assumption) | skip); (first | have f16_d := f16 (by with_reducible assumption) | skip); (first | have f17_d := f17 (by with_reducible assumption) | skip); (first | have f29_d := f29 (by with_reducible assumption) | skip); (first | have f33_d := f33 (by with_reducible assumption) | skip); (first | have f34_d := f34 (by with_reducible assumption) | skip); (first | have f35_d := f35 (by with_reducible assumption) | skip); (first | have f4_q := tk_nx0 f4 (by clear f4_c2 f4 f23_c2 f23 hE_0_1_1 hK_0_1 hE_0_160_1 hK_0_160 hE_0_161_1 hE_0_162_1 hK_0_162 hE_0_163_1 hK_0_163 f10 f15 f16 f17 f29 f33 f34 f35; omega) | skip); (first | have f23_q := tk_nx0 f23 (by clear f4_c2 f4 f23_c2 f23 hE_0_1_1 hK_0_1 hE_0_160_1 hK_0_160 hE_0_161_1 hE_0_162_1 hK_0_162 hE_0_163_1 hK_0_163 f10 f15 f16 f17 f29 f33 f34 f35; omega) | skip); (try and_intros) <;> first | with_reducible assumption | (clear f4_c2 f4 f23_c2 f23 hE_0_1_1 hK_0_1 hE_0_160_1 hK_0_160 hE_0_161_1 hE_0_162_1 hK_0_162 hE_0_163_1 hK_0_163 f10 f15 f16 f17 f29 f33 f34 f35; omega)) | ((have f4_c0 := f4.1); (have f4_c1 := f4.2.1); (have f4_c2 := f4.2.2); (have f23_c0 := f23.1); (have f23_c1 := f23.2.1); (have f23_c2 := f23.2.2); (first | have f10_b := f10 (by clear f4_c2 f4 f23_c2 f23 hE_0_1_1 hK_0_1 hE_0_160_1 hK_0_160 hE_0_161_1 hE_0_162_1 hK_0_162 hE_0_163_1 hK_0_163 f10 f15 f16 f17 f29 f33 f34 f35; omega) | skip); (first | have f15_b := f15 (by clear f4_c2 f4 f23_c2 f23 hE_0_1_1 hK_0_1 hE_0_160_1 hK_0_160 hE_0_161_1 hE_0_162_1 hK_0_162 hE_0_163_1 hK_0_163 f10 f15 f16 f17 f29 f33 f34 f35; omega) | skip); (first | have f16_b := f16 (by clear f4_c2 f4 f23_c2 f23 hE_0_1_1 hK_0_1 hE_0_160_1 hK_0_160 hE_0_161_1 hE_0_162_1 hK_0_162 hE_0_163_1 hK_0_163 f10 f15 f16 f17 f29 f33 f34 f35; omega) | skip); (first | have f29_b := f29 (by clear f4_c2 f4 f23_c2 f23 hE_0_1_1 hK_0_1 hE_0_160_1 hK_0_160 hE_0_161_1 hE_0_162_1 hK_0_162 hE_0_163_1 hK_0_163 f10 f15 f16 f17 f29 f33 f34 f35; omega) | skip); (first | have f33_b := f33 (by clear f4_c2 f4 f23_c2 f23 hE_0_1_1 hK_0_1 hE_0_160_1 hK_0_160 hE_0_161_1 hE_0_162_1 hK_0_162 hE_0_163_1 hK_0_163 f10 f15 f16 f17 f29 f33 f34 f35; omega) | skip); (first | have f34_b := f34 (by clear f4_c2 f4 f23_c2 f23 hE_0_1_1 hK_0_1 hE_0_160_1 hK_0_160 hE_0_161_1 hE_0_162_1 hK_0_162 hE_0_163_1 hK_0_163 f10 f15 f16 f17 f29 f33 f34 f35; omega) | skip); (first | have f10_d := f10 (by with_reducible assumption) | skip); (first | have f15_d := f15 (by with_reducible assumption) | skip); (first | have f16_d := f16 (by with_reducible assumption) | skip); (first | have f17_d := f17 (by with_reducible assumption) | skip); (first | have f29_d := f29 (by with_reducible assumption) | skip); (first | have f33_d := f33 (by with_reducible assumption) | skip); (first | have f34_d := f34 (by with_reducible assumption) | skip); (first | have f35_d := f35 (by with_reducible assumption) | skip); (first | have f4_q := tk_nx0 f4 (by clear f4_c2 f4 f23_c2 f23 hE_0_1_1 hK_0_1 hE_0_160_1 hK_0_160 hE_0_161_1 hE_0_162_1 hK_0_162 hE_0_163_1 hK_0_163 f10 f15 f16 f17 f29 f33 f34 f35; omega) | skip); (first | have f23_q := tk_nx0 f23 (by clear f4_c2 f4 f23_c2 f23 hE_0_1_1 hK_0_1 hE_0_160_1 hK_0_160 hE_0_161_1 hE_0_162_1 hK_0_162 hE_0_163_1 hK_0_163 f10 f15 f16 f17 f29 f33 f34 f35; omega) | skip); (first | have f4_r0 := tk_nx1 (c := cur_0) f4.2 (by clear f4_c2 f4 f23_c2 f23 hE_0_1_1 hK_0_1 hE_0_160_1 hK_0_160 hE_0_161_1 hE_0_162_1 hK_0_162 hE_0_163_1 hK_0_163 f10 f15 f16 f17 f29 f33 f34 f35; omega) (by clear f4_c2 f4 f23_c2 f23 hE_0_1_1 hK_0_1 hE_0_160_1 hK_0_160 hE_0_161_1 hE_0_162_1 hK_0_162 hE_0_163_1 hK_0_163 f10 f15 f16 f17 f29 f33 f34 f35; omega) | skip); (first | have f4_r1 := tk_nx1 (c := cur_1) f4.2 (by clear f4_c2 f4 f23_c2 f23 hE_0_1_1 hK_0_1 hE_0_160_1 hK_0_160 hE_0_161_1 hE_0_162_1 hK_0_162 hE_0_163_1 hK_0_163 f10 f15 f16 f17 f29 f33 f34 f35; omega) (by clear f4_c2 f4 f23_c2 f23 hE_0_1_1 hK_0_1 hE_0_160_1 hK_0_160 hE_0_161_1 hE_0_162_1 hK_0_162 hE_0_163_1 hK_0_163 f10 f15 f16 f17 f29 f33 f34 f35; omega) | skip); (first | have f23_r0 := tk_nx1 (c := cur_0) f23.2 (by clear f4_c2 f4 f23_c2 f23 hE_0_1_1 hK_0_1 hE_0_160_1 hK_0_160 hE_0_161_1 hE_0_162_1 hK_0_162 hE_0_163_1 hK_0_163 f10 f15 f16 f17 f29 f33 f34 f35; omega) (by clear f4_c2 f4 f23_c2 f23 hE_0_1_1 hK_0_1 hE_0_160_1 hK_0_160 hE_0_161_1 hE_0_162_1 hK_0_162 hE_0_163_1 hK_0_163 f10 f15 f16 f17 f29 f33 f34 f35; omega) | skip); (first | have f23_r1 := tk_nx1 (c := cur_1) f23.2 (by clear f4_c2 f4 f23_c2 f23 hE_0_1_1 hK_0_1 hE_0_160_1 hK_0_160 hE_0_161_1 hE_0_162_1 hK_0_162 hE_0_163_1 hK_0_163 f10 f15 f16 f17 f29 f33 f34 f35; omega) (by clear f4_c2 f4 f23_c2 f23 hE_0_1_1 hK_0_1 hE_0_160_1 hK_0_160 hE_0_161_1 hE_0_162_1 hK_0_162 hE_0_163_1 hK_0_163 f10 f15 f16 f17 f29 f33 f34 f35; omega) | skip); (try and_intros) <;> first | with_reducible assumption | (clear f4_c2 f4 f23_c2 f23 hE_0_1_1 hK_0_1 hE_0_160_1 hK_0_160 hE_0_161_1 hE_0_162_1 hK_0_162 hE_0_163_1 hK_0_163 f10 f15 f16 f17 f29 f33 f34 f35; omega)) | omega
set_option maxHeartbeats 4000000 in
theorem vc_Mo_style_23_6 (x3 : Int) (x8 : Int) (x9 : Int) (x11 : Int) (x13 : Int) (x16 : Int) (x17 : Int) (styleOne_0 : Int) (cur_0 : Int) (tokenKind_0 : Int → Int) (tokens_0 : Int) (opened_0 : Int) (tokenValue_0 : Int → Int) (tokenPlace_0 : Int → Int) (tokenEnd_0 : Int → Int) (tape_0 : Int → Int) (limit_0 : Int) (fault_0 : Int) (taped_0 : Int) (tokenKind_1 : Int → Int) (cur_1 : Int) (tokens_1 : Int) (opened_1 : Int) (tokenValue_1 : Int → Int) (tokenPlace_1 : Int → Int) (tokenEnd_1 : Int → Int) (tape_1 : Int → Int) (limit_1 : Int) (fault_1 : Int) (taped_1 : Int) (gx : Int) (k3 : 0 ≤ x3 ∧ x3 ≤ 2000) (k8 : 0 ≤ x8 ∧ x8 ≤ 0) (k9 : 0 ≤ x9 ∧ x9 ≤ 47) (k11 : 0 ≤ x11 ∧ x11 ≤ 2010) (k13 : 0 ≤ x13 ∧ x13 ≤ 2009) (k16 : 1 ≤ x16 ∧ x16 ≤ 1) (k17 : 1 ≤ x17 ∧ x17 ≤ 1) (g0 : x9 = styleOne_0) (g1 : x13 = cur_0) (f3 : tokenKind_0 (cur_0) ≠ 0) (f4 : ((cur_0 + 1) ≤ tokens_0) ∧ ((tokens_0 ≤ 2010) ∧ ((tokenKind_0 ((tokens_0 - 1)) = 0) ∨ (tokenKind_0 ((tokens_0 - 1)) = 4)))) (f5 : 1 * opened_0 + 0 ≤ 0) (f6 : (-1) * opened_0 + 0 ≤ 0) (f7 : SOK (limit_0) (tokenKind_0) (tokenValue_0) (tokenPlace_0) (tokenEnd_0) (tape_0)) (f8 : fault_0 = 0) (f9 : SOC (fault_0) (cur_0) (limit_0) (tokenKind_0) (tokenValue_0) (tokenPlace_0) (tokenEnd_0) (tape_0)) (f10 : (x8 = 0) → (x9 ≤ 23)) (f11 : taped_0 = x3) (f13 : 1 * x11 + (1 * cur_0 + 0) ≤ 2010) (f14 : (-1) * x11 + ((-1) * cur_0 + 0) ≤ (-2010)) (f15 : (x16 = 1) → (tokenKind_0 (cur_0) = 1)) (f16 : (x16 = 1) → ((fault_0 = 0) ∧ ((tokenKind_0 (cur_0) = 1) ∧ ((tokenEnd_0 (cur_0) = (tokenPlace_0 (cur_0) + 4)) ∧ (((tokenPlace_0 (cur_0) + 4) ≤ limit_0) ∧ (((tape_0 ((tokenPlace_0 (cur_0) + 0)) % 256) = 110) ∧ (((tape_0 ((tokenPlace_0 (cur_0) + 1)) % 256) = 111) ∧ (((tape_0 ((tokenPlace_0 (cur_0) + 2)) % 256) = 100) ∧ ((tape_0 ((tokenPlace_0 (cur_0) + 3)) % 256) = 101))))))))) (f17 : ((fault_0 = 0) ∧ ((tokenKind_0 (cur_0) = 1) ∧ ((tokenEnd_0 (cur_0) = (tokenPlace_0 (cur_0) + 4)) ∧ (((tokenPlace_0 (cur_0) + 4) ≤ limit_0) ∧ (((tape_0 ((tokenPlace_0 (cur_0) + 0)) % 256) = 110) ∧ (((tape_0 ((tokenPlace_0 (cur_0) + 1)) % 256) = 111) ∧ (((tape_0 ((tokenPlace_0 (cur_0) + 2)) % 256) = 100) ∧ ((tape_0 ((tokenPlace_0 (cur_0) + 3)) % 256) = 101)))))))) → (x16 = 1)) (f18 : Wqnode (fault_0) (cur_0) (limit_0) (tokenKind_0) (tokenPlace_0) (tokenEnd_0) (tape_0) (x16)) (f20 : x16 = x17) (f21 : x8 = 0) (f22 : tokenKind_1 (cur_1) ≠ 0) (f23 : ((cur_1 + 1) ≤ tokens_1) ∧ ((tokens_1 ≤ 2010) ∧ ((tokenKind_1 ((tokens_1 - 1)) = 0) ∨ (tokenKind_1 ((tokens_1 - 1)) = 4)))) (f24 : 1 * opened_1 + 0 ≤ 0) (f25 : (-1) * opened_1 + 0 ≤ 0) (f26 : SOK (limit_1) (tokenKind_1) (tokenValue_1) (tokenPlace_1) (tokenEnd_1) (tape_1)) (f27 : fault_1 = 0) (f28 : SOC (fault_1) (cur_1) (limit_1) (tokenKind_1) (tokenValue_1) (tokenPlace_1) (tokenEnd_1) (tape_1)) (f29 : (x8 = 0) → (x9 ≤ 23)) (f30 : taped_1 = x3) (f31 : 1 * x11 + (1 * cur_1 + 0) ≤ 2010) (f32 : (-1) * x11 + ((-1) * cur_1 + 0) ≤ (-2010)) (f33 : (x16 = 1) → (tokenKind_1 (cur_1) = 1)) (f34 : (x16 = 1) → ((fault_1 = 0) ∧ ((tokenKind_1 (cur_1) = 1) ∧ ((tokenEnd_1 (cur_1) = (tokenPlace_1 (cur_1) + 4)) ∧ (((tokenPlace_1 (cur_1) + 4) ≤ limit_1) ∧ (((tape_1 ((tokenPlace_1 (cur_1) + 0)) % 256) = 110) ∧ (((tape_1 ((tokenPlace_1 (cur_1) + 1)) % 256) = 111) ∧ (((tape_1 ((tokenPlace_1 (cur_1) + 2)) % 256) = 100) ∧ ((tape_1 ((tokenPlace_1 (cur_1) + 3)) % 256) = 101))))))))) (f35 : ((fault_1 = 0) ∧ ((tokenKind_1 (cur_1) = 1) ∧ ((tokenEnd_1 (cur_1) = (tokenPlace_1 (cur_1) + 4)) ∧ (((tokenPlace_1 (cur_1) + 4) ≤ limit_1) ∧ (((tape_1 ((tokenPlace_1 (cur_1) + 0)) % 256) = 110) ∧ (((tape_1 ((tokenPlace_1 (cur_1) + 1)) % 256) = 111) ∧ (((tape_1 ((tokenPlace_1 (cur_1) + 2)) % 256) = 100) ∧ ((tape_1 ((tokenPlace_1 (cur_1) + 3)) % 256) = 101)))))))) → (x16 = 1)) (f36 : Wqnode (fault_1) (cur_1) (limit_1) (tokenKind_1) (tokenPlace_1) (tokenEnd_1) (tape_1) (x16)) (fe_0_0_1 : taped_0 = taped_1) (fe_0_8_1 : fault_0 = fault_1) (fe_0_10_1 : limit_0 = limit_1) (fe_0_157_1 : tokens_0 = tokens_1) (fe_0_158_1 : cur_0 = cur_1) (fe_0_159_1 : opened_0 = opened_1) (fe_0_165_1 : styleOne_0 = x9) (hE_0_1_1 : ∀ j : Int, tape_0 j = tape_1 j) (hK_0_1 : ∀ j : Int, 0 ≤ j → j < 2000 → (-128) ≤ tape_0 j ∧ tape_0 j ≤ 127) (hE_0_160_1 : ∀ j : Int, tokenKind_0 j = tokenKind_1 j) (hK_0_160 : ∀ j : Int, 0 ≤ j → j < 2010 → 0 ≤ tokenKind_0 j ∧ tokenKind_0 j ≤ 4) (hE_0_161_1 : ∀ j : Int, tokenValue_0 j = tokenValue_1 j) (hE_0_162_1 : ∀ j : Int, tokenPlace_0 j = tokenPlace_1 j) (hK_0_162 : ∀ j : Int, 0 ≤ j → j < 2010 → 0 ≤ tokenPlace_0 j ∧ tokenPlace_0 j ≤ 2000) (hE_0_163_1 : ∀ j : Int, tokenEnd_0 j = tokenEnd_1 j) (hK_0_163 : ∀ j : Int, 0 ≤ j → j < 2010 → 0 ≤ tokenEnd_0 j ∧ tokenEnd_0 j ≤ 2000) (kz_0_0 : 0 ≤ taped_0 ∧ taped_0 ≤ 2000) (kz_0_8 : 0 ≤ fault_0 ∧ fault_0 ≤ 5) (kz_0_10 : 0 ≤ limit_0 ∧ limit_0 ≤ 2000) (kz_0_157 : 0 ≤ tokens_0 ∧ tokens_0 ≤ 2010) (kz_0_158 : 0 ≤ cur_0 ∧ cur_0 ≤ 2009) (kz_0_159 : 0 ≤ opened_0 ∧ opened_0 ≤ 13) (kz_0_165 : (-1) ≤ styleOne_0 ∧ styleOne_0 ≤ 47) (ex2 : gx = cur_0) (ex3 : 0 ≤ gx ∧ gx ≤ 2009) : fault_0 = 0 := by
  subst fe_0_0_1
  subst fe_0_8_1
  subst fe_0_10_1
  subst fe_0_157_1
  subst fe_0_158_1
  subst fe_0_159_1
  have e_hE_0_1_1 := funext hE_0_1_1; subst e_hE_0_1_1
  have e_hE_0_160_1 := funext hE_0_160_1; subst e_hE_0_160_1
  have e_hE_0_161_1 := funext hE_0_161_1; subst e_hE_0_161_1
  have e_hE_0_162_1 := funext hE_0_162_1; subst e_hE_0_162_1
  have e_hE_0_163_1 := funext hE_0_163_1; subst e_hE_0_163_1
  first | with_reducible assumption | ((have f4_c0 := f4.1); (have f4_c1 := f4.2.1); (have f4_c2 := f4.2.2); (have f23_c0 := f23.1); (have f23_c1 := f23.2.1); (have f23_c2 := f23.2.2); (try and_intros) <;> first | with_reducible assumption | (clear f4_c2 f4 f23_c2 f23 hE_0_1_1 hK_0_1 hE_0_160_1 hK_0_160 hE_0_161_1 hE_0_162_1 hK_0_162 hE_0_163_1 hK_0_163 f10 f15 f16 f17 f29 f33 f34 f35; omega)) | ((have f4_c0 := f4.1); (have f4_c1 := f4.2.1); (have f4_c2 := f4.2.2); (have f23_c0 := f23.1); (have f23_c1 := f23.2.1); (have f23_c2 := f23.2.2); (first | have f10_b := f10 (by clear f4_c2 f4 f23_c2 f23 hE_0_1_1 hK_0_1 hE_0_160_1 hK_0_160 hE_0_161_1 hE_0_162_1 hK_0_162 hE_0_163_1 hK_0_163 f10 f15 f16 f17 f29 f33 f34 f35; omega) | skip); (first | have f15_b := f15 (by clear f4_c2 f4 f23_c2 f23 hE_0_1_1 hK_0_1 hE_0_160_1 hK_0_160 hE_0_161_1 hE_0_162_1 hK_0_162 hE_0_163_1 hK_0_163 f10 f15 f16 f17 f29 f33 f34 f35; omega) | skip); (first | have f16_b := f16 (by clear f4_c2 f4 f23_c2 f23 hE_0_1_1 hK_0_1 hE_0_160_1 hK_0_160 hE_0_161_1 hE_0_162_1 hK_0_162 hE_0_163_1 hK_0_163 f10 f15 f16 f17 f29 f33 f34 f35; omega) | skip); (first | have f29_b := f29 (by clear f4_c2 f4 f23_c2 f23 hE_0_1_1 hK_0_1 hE_0_160_1 hK_0_160 hE_0_161_1 hE_0_162_1 hK_0_162 hE_0_163_1 hK_0_163 f10 f15 f16 f17 f29 f33 f34 f35; omega) | skip); (first | have f33_b := f33 (by clear f4_c2 f4 f23_c2 f23 hE_0_1_1 hK_0_1 hE_0_160_1 hK_0_160 hE_0_161_1 hE_0_162_1 hK_0_162 hE_0_163_1 hK_0_163 f10 f15 f16 f17 f29 f33 f34 f35; omega) | skip); (first | have f34_b := f34 (by clear f4_c2 f4 f23_c2 f23 hE_0_1_1 hK_0_1 hE_0_160_1 hK_0_160 hE_0_161_1 hE_0_162_1 hK_0_162 hE_0_163_1 hK_0_163 f10 f15 f16 f17 f29 f33 f34 f35; omega) | skip); (first | have f10_d := f10 (by with_reducible assumption) | skip); (first | have f15_d := f15 (by with_reducible assumption) | skip); (first | have f16_d := f16 (by with_reducible assumption) | skip); (first | have f17_d := f17 (by with_reducible assumption) | skip); (first | have f29_d := f29 (by with_reducible assumption) | skip); (first | have f33_d := f33 (by with_reducible assumption) | skip); (first | have f34_d := f34 (by with_reducible assumption) | skip); (first | have f35_d := f35 (by with_reducible assumption) | skip); (try and_intros) <;> first | with_reducible assumption | (clear f4_c2 f4 f23_c2 f23 hE_0_1_1 hK_0_1 hE_0_160_1 hK_0_160 hE_0_161_1 hE_0_162_1 hK_0_162 hE_0_163_1 hK_0_163 f10 f15 f16 f17 f29 f33 f34 f35; omega)) | ((have f4_c0 := f4.1); (have f4_c1 := f4.2.1); (have f4_c2 := f4.2.2); (have f23_c0 := f23.1); (have f23_c1 := f23.2.1); (have f23_c2 := f23.2.2); (first | have f10_b := f10 (by clear f4_c2 f4 f23_c2 f23 hE_0_1_1 hK_0_1 hE_0_160_1 hK_0_160 hE_0_161_1 hE_0_162_1 hK_0_162 hE_0_163_1 hK_0_163 f10 f15 f16 f17 f29 f33 f34 f35; omega) | skip); (first | have f15_b := f15 (by clear f4_c2 f4 f23_c2 f23 hE_0_1_1 hK_0_1 hE_0_160_1 hK_0_160 hE_0_161_1 hE_0_162_1 hK_0_162 hE_0_163_1 hK_0_163 f10 f15 f16 f17 f29 f33 f34 f35; omega) | skip); (first | have f16_b := f16 (by clear f4_c2 f4 f23_c2 f23 hE_0_1_1 hK_0_1 hE_0_160_1 hK_0_160 hE_0_161_1 hE_0_162_1 hK_0_162 hE_0_163_1 hK_0_163 f10 f15 f16 f17 f29 f33 f34 f35; omega) | skip); (first | have f29_b := f29 (by clear f4_c2 f4 f23_c2 f23 hE_0_1_1 hK_0_1 hE_0_160_1 hK_0_160 hE_0_161_1 hE_0_162_1 hK_0_162 hE_0_163_1 hK_0_163 f10 f15 f16 f17 f29 f33 f34 f35; omega) | skip); (first | have f33_b := f33 (by clear f4_c2 f4 f23_c2 f23 hE_0_1_1 hK_0_1 hE_0_160_1 hK_0_160 hE_0_161_1 hE_0_162_1 hK_0_162 hE_0_163_1 hK_0_163 f10 f15 f16 f17 f29 f33 f34 f35; omega) | skip); (first | have f34_b := f34 (by clear f4_c2 f4 f23_c2 f23 hE_0_1_1 hK_0_1 hE_0_160_1 hK_0_160 hE_0_161_1 hE_0_162_1 hK_0_162 hE_0_163_1 hK_0_163 f10 f15 f16 f17 f29 f33 f34 f35; omega) | skip); (first | have f10_d := f10 (by with_reducible assumption) | skip); (first | have f15_d := f15 (by with_reducible assumption) | skip); (first | have f16_d := f16 (by with_reducible assumption) | skip); (first | have f17_d := f17 (by with_reducible assumption) | skip); (first | have f29_d := f29 (by with_reducible assumption) | skip); (first | have f33_d := f33 (by with_reducible assumption) | skip); (first | have f34_d := f34 (by with_reducible assumption) | skip); (first | have f35_d := f35 (by with_reducible assumption) | skip); (first | have f4_q := tk_nx0 f4 (by clear f4_c2 f4 f23_c2 f23 hE_0_1_1 hK_0_1 hE_0_160_1 hK_0_160 hE_0_161_1 hE_0_162_1 hK_0_162 hE_0_163_1 hK_0_163 f10 f15 f16 f17 f29 f33 f34 f35; omega) | skip); (first | have f23_q := tk_nx0 f23 (by clear f4_c2 f4 f23_c2 f23 hE_0_1_1 hK_0_1 hE_0_160_1 hK_0_160 hE_0_161_1 hE_0_162_1 hK_0_162 hE_0_163_1 hK_0_163 f10 f15 f16 f17 f29 f33 f34 f35; omega) | skip); (try and_intros) <;> first | with_reducible assumption | (clear f4_c2 f4 f23_c2 f23 hE_0_1_1 hK_0_1 hE_0_160_1 hK_0_160 hE_0_161_1 hE_0_162_1 hK_0_162 hE_0_163_1 hK_0_163 f10 f15 f16 f17 f29 f33 f34 f35; omega)) | ((have f4_c0 := f4.1); (have f4_c1 := f4.2.1); (have f4_c2 := f4.2.2); (have f23_c0 := f23.1); (have f23_c1 := f23.2.1); (have f23_c2 := f23.2.2); (first | have f10_b := f10 (by clear f4_c2 f4 f23_c2 f23 hE_0_1_1 hK_0_1 hE_0_160_1 hK_0_160 hE_0_161_1 hE_0_162_1 hK_0_162 hE_0_163_1 hK_0_163 f10 f15 f16 f17 f29 f33 f34 f35; omega) | skip); (first | have f15_b := f15 (by clear f4_c2 f4 f23_c2 f23 hE_0_1_1 hK_0_1 hE_0_160_1 hK_0_160 hE_0_161_1 hE_0_162_1 hK_0_162 hE_0_163_1 hK_0_163 f10 f15 f16 f17 f29 f33 f34 f35; omega) | skip); (first | have f16_b := f16 (by clear f4_c2 f4 f23_c2 f23 hE_0_1_1 hK_0_1 hE_0_160_1 hK_0_160 hE_0_161_1 hE_0_162_1 hK_0_162 hE_0_163_1 hK_0_163 f10 f15 f16 f17 f29 f33 f34 f35; omega) | skip); (first | have f29_b := f29 (by clear f4_c2 f4 f23_c2 f23 hE_0_1_1 hK_0_1 hE_0_160_1 hK_0_160 hE_0_161_1 hE_0_162_1 hK_0_162 hE_0_163_1 hK_0_163 f10 f15 f16 f17 f29 f33 f34 f35; omega) | skip); (first | have f33_b := f33 (by clear f4_c2 f4 f23_c2 f23 hE_0_1_1 hK_0_1 hE_0_160_1 hK_0_160 hE_0_161_1 hE_0_162_1 hK_0_162 hE_0_163_1 hK_0_163 f10 f15 f16 f17 f29 f33 f34 f35; omega) | skip); (first | have f34_b := f34 (by clear f4_c2 f4 f23_c2 f23 hE_0_1_1 hK_0_1 hE_0_160_1 hK_0_160 hE_0_161_1 hE_0_162_1 hK_0_162 hE_0_163_1 hK_0_163 f10 f15 f16 f17 f29 f33 f34 f35; omega) | skip); (first | have f10_d := f10 (by with_reducible assumption) | skip); (first | have f15_d := f15 (by with_reducible assumption) | skip); (first | have f16_d := f16 (by with_reducible assumption) | skip); (first | have f17_d := f17 (by with_reducible assumption) | skip); (first | have f29_d := f29 (by with_reducible assumption) | skip); (first | have f33_d := f33 (by with_reducible assumption) | skip); (first | have f34_d := f34 (by with_reducible assumption) | skip); (first | have f35_d := f35 (by with_reducible assumption) | skip); (first | have f4_q := tk_nx0 f4 (by clear f4_c2 f4 f23_c2 f23 hE_0_1_1 hK_0_1 hE_0_160_1 hK_0_160 hE_0_161_1 hE_0_162_1 hK_0_162 hE_0_163_1 hK_0_163 f10 f15 f16 f17 f29 f33 f34 f35; omega) | skip); (first | have f23_q := tk_nx0 f23 (by clear f4_c2 f4 f23_c2 f23 hE_0_1_1 hK_0_1 hE_0_160_1 hK_0_160 hE_0_161_1 hE_0_162_1 hK_0_162 hE_0_163_1 hK_0_163 f10 f15 f16 f17 f29 f33 f34 f35; omega) | skip); (first | have f4_r0 := tk_nx1 (c := cur_0) f4.2 (by clear f4_c2 f4 f23_c2 f23 hE_0_1_1 hK_0_1 hE_0_160_1 hK_0_160 hE_0_161_1 hE_0_162_1 hK_0_162 hE_0_163_1 hK_0_163 f10 f15 f16 f17 f29 f33 f34 f35; omega) (by clear f4_c2 f4 f23_c2 f23 hE_0_1_1 hK_0_1 hE_0_160_1 hK_0_160 hE_0_161_1 hE_0_162_1 hK_0_162 hE_0_163_1 hK_0_163 f10 f15 f16 f17 f29 f33 f34 f35; omega) | skip); (first | have f4_r1 := tk_nx1 (c := cur_1) f4.2 (by clear f4_c2 f4 f23_c2 f23 hE_0_1_1 hK_0_1 hE_0_160_1 hK_0_160 hE_0_161_1 hE_0_162_1 hK_0_162 hE_0_163_1 hK_0_163 f10 f15 f16 f17 f29 f33 f34 f35; omega) (by clear f4_c2 f4 f23_c2 f23 hE_0_1_1 hK_0_1 hE_0_160_1 hK_0_160 hE_0_161_1 hE_0_162_1 hK_0_162 hE_0_163_1 hK_0_163 f10 f15 f16 f17 f29 f33 f34 f35; omega) | skip); (first | have f23_r0 := tk_nx1 (c := cur_0) f23.2 (by clear f4_c2 f4 f23_c2 f23 hE_0_1_1 hK_0_1 hE_0_160_1 hK_0_160 hE_0_161_1 hE_0_162_1 hK_0_162 hE_0_163_1 hK_0_163 f10 f15 f16 f17 f29 f33 f34 f35; omega) (by clear f4_c2 f4 f23_c2 f23 hE_0_1_1 hK_0_1 hE_0_160_1 hK_0_160 hE_0_161_1 hE_0_162_1 hK_0_162 hE_0_163_1 hK_0_163 f10 f15 f16 f17 f29 f33 f34 f35; omega) | skip); (first | have f23_r1 := tk_nx1 (c := cur_1) f23.2 (by clear f4_c2 f4 f23_c2 f23 hE_0_1_1 hK_0_1 hE_0_160_1 hK_0_160 hE_0_161_1 hE_0_162_1 hK_0_162 hE_0_163_1 hK_0_163 f10 f15 f16 f17 f29 f33 f34 f35; omega) (by clear f4_c2 f4 f23_c2 f23 hE_0_1_1 hK_0_1 hE_0_160_1 hK_0_160 hE_0_161_1 hE_0_162_1 hK_0_162 hE_0_163_1 hK_0_163 f10 f15 f16 f17 f29 f33 f34 f35; omega) | skip); (try and_intros) <;> first | with_reducible assumption | (clear f4_c2 f4 f23_c2 f23 hE_0_1_1 hK_0_1 hE_0_160_1 hK_0_160 hE_0_161_1 hE_0_162_1 hK_0_162 hE_0_163_1 hK_0_163 f10 f15 f16 f17 f29 f33 f34 f35; omega)) | omega
set_option maxHeartbeats 4000000 in
theorem vc_Mo_style_23_7 (x3 : Int) (x8 : Int) (x9 : Int) (x11 : Int) (x13 : Int) (x16 : Int) (x17 : Int) (styleOne_0 : Int) (cur_0 : Int) (tokenKind_0 : Int → Int) (tokens_0 : Int) (opened_0 : Int) (tokenValue_0 : Int → Int) (tokenPlace_0 : Int → Int) (tokenEnd_0 : Int → Int) (tape_0 : Int → Int) (limit_0 : Int) (fault_0 : Int) (taped_0 : Int) (tokenKind_1 : Int → Int) (cur_1 : Int) (tokens_1 : Int) (opened_1 : Int) (tokenValue_1 : Int → Int) (tokenPlace_1 : Int → Int) (tokenEnd_1 : Int → Int) (tape_1 : Int → Int) (limit_1 : Int) (fault_1 : Int) (taped_1 : Int) (gx : Int) (k3 : 0 ≤ x3 ∧ x3 ≤ 2000) (k8 : 0 ≤ x8 ∧ x8 ≤ 0) (k9 : 0 ≤ x9 ∧ x9 ≤ 47) (k11 : 0 ≤ x11 ∧ x11 ≤ 2010) (k13 : 0 ≤ x13 ∧ x13 ≤ 2009) (k16 : 1 ≤ x16 ∧ x16 ≤ 1) (k17 : 1 ≤ x17 ∧ x17 ≤ 1) (g0 : x9 = styleOne_0) (g1 : x13 = cur_0) (f3 : tokenKind_0 (cur_0) ≠ 0) (f4 : ((cur_0 + 1) ≤ tokens_0) ∧ ((tokens_0 ≤ 2010) ∧ ((tokenKind_0 ((tokens_0 - 1)) = 0) ∨ (tokenKind_0 ((tokens_0 - 1)) = 4)))) (f5 : 1 * opened_0 + 0 ≤ 0) (f6 : (-1) * opened_0 + 0 ≤ 0) (f7 : SOK (limit_0) (tokenKind_0) (tokenValue_0) (tokenPlace_0) (tokenEnd_0) (tape_0)) (f8 : fault_0 = 0) (f9 : SOC (fault_0) (cur_0) (limit_0) (tokenKind_0) (tokenValue_0) (tokenPlace_0) (tokenEnd_0) (tape_0)) (f10 : (x8 = 0) → (x9 ≤ 23)) (f11 : taped_0 = x3) (f13 : 1 * x11 + (1 * cur_0 + 0) ≤ 2010) (f14 : (-1) * x11 + ((-1) * cur_0 + 0) ≤ (-2010)) (f15 : (x16 = 1) → (tokenKind_0 (cur_0) = 1)) (f16 : (x16 = 1) → ((fault_0 = 0) ∧ ((tokenKind_0 (cur_0) = 1) ∧ ((tokenEnd_0 (cur_0) = (tokenPlace_0 (cur_0) + 4)) ∧ (((tokenPlace_0 (cur_0) + 4) ≤ limit_0) ∧ (((tape_0 ((tokenPlace_0 (cur_0) + 0)) % 256) = 110) ∧ (((tape_0 ((tokenPlace_0 (cur_0) + 1)) % 256) = 111) ∧ (((tape_0 ((tokenPlace_0 (cur_0) + 2)) % 256) = 100) ∧ ((tape_0 ((tokenPlace_0 (cur_0) + 3)) % 256) = 101))))))))) (f17 : ((fault_0 = 0) ∧ ((tokenKind_0 (cur_0) = 1) ∧ ((tokenEnd_0 (cur_0) = (tokenPlace_0 (cur_0) + 4)) ∧ (((tokenPlace_0 (cur_0) + 4) ≤ limit_0) ∧ (((tape_0 ((tokenPlace_0 (cur_0) + 0)) % 256) = 110) ∧ (((tape_0 ((tokenPlace_0 (cur_0) + 1)) % 256) = 111) ∧ (((tape_0 ((tokenPlace_0 (cur_0) + 2)) % 256) = 100) ∧ ((tape_0 ((tokenPlace_0 (cur_0) + 3)) % 256) = 101)))))))) → (x16 = 1)) (f18 : Wqnode (fault_0) (cur_0) (limit_0) (tokenKind_0) (tokenPlace_0) (tokenEnd_0) (tape_0) (x16)) (f20 : x16 = x17) (f21 : x8 = 0) (f22 : tokenKind_1 (cur_1) ≠ 0) (f23 : ((cur_1 + 1) ≤ tokens_1) ∧ ((tokens_1 ≤ 2010) ∧ ((tokenKind_1 ((tokens_1 - 1)) = 0) ∨ (tokenKind_1 ((tokens_1 - 1)) = 4)))) (f24 : 1 * opened_1 + 0 ≤ 0) (f25 : (-1) * opened_1 + 0 ≤ 0) (f26 : SOK (limit_1) (tokenKind_1) (tokenValue_1) (tokenPlace_1) (tokenEnd_1) (tape_1)) (f27 : fault_1 = 0) (f28 : SOC (fault_1) (cur_1) (limit_1) (tokenKind_1) (tokenValue_1) (tokenPlace_1) (tokenEnd_1) (tape_1)) (f29 : (x8 = 0) → (x9 ≤ 23)) (f30 : taped_1 = x3) (f31 : 1 * x11 + (1 * cur_1 + 0) ≤ 2010) (f32 : (-1) * x11 + ((-1) * cur_1 + 0) ≤ (-2010)) (f33 : (x16 = 1) → (tokenKind_1 (cur_1) = 1)) (f34 : (x16 = 1) → ((fault_1 = 0) ∧ ((tokenKind_1 (cur_1) = 1) ∧ ((tokenEnd_1 (cur_1) = (tokenPlace_1 (cur_1) + 4)) ∧ (((tokenPlace_1 (cur_1) + 4) ≤ limit_1) ∧ (((tape_1 ((tokenPlace_1 (cur_1) + 0)) % 256) = 110) ∧ (((tape_1 ((tokenPlace_1 (cur_1) + 1)) % 256) = 111) ∧ (((tape_1 ((tokenPlace_1 (cur_1) + 2)) % 256) = 100) ∧ ((tape_1 ((tokenPlace_1 (cur_1) + 3)) % 256) = 101))))))))) (f35 : ((fault_1 = 0) ∧ ((tokenKind_1 (cur_1) = 1) ∧ ((tokenEnd_1 (cur_1) = (tokenPlace_1 (cur_1) + 4)) ∧ (((tokenPlace_1 (cur_1) + 4) ≤ limit_1) ∧ (((tape_1 ((tokenPlace_1 (cur_1) + 0)) % 256) = 110) ∧ (((tape_1 ((tokenPlace_1 (cur_1) + 1)) % 256) = 111) ∧ (((tape_1 ((tokenPlace_1 (cur_1) + 2)) % 256) = 100) ∧ ((tape_1 ((tokenPlace_1 (cur_1) + 3)) % 256) = 101)))))))) → (x16 = 1)) (f36 : Wqnode (fault_1) (cur_1) (limit_1) (tokenKind_1) (tokenPlace_1) (tokenEnd_1) (tape_1) (x16)) (fe_0_0_1 : taped_0 = taped_1) (fe_0_8_1 : fault_0 = fault_1) (fe_0_10_1 : limit_0 = limit_1) (fe_0_157_1 : tokens_0 = tokens_1) (fe_0_158_1 : cur_0 = cur_1) (fe_0_159_1 : opened_0 = opened_1) (fe_0_165_1 : styleOne_0 = x9) (hE_0_1_1 : ∀ j : Int, tape_0 j = tape_1 j) (hK_0_1 : ∀ j : Int, 0 ≤ j → j < 2000 → (-128) ≤ tape_0 j ∧ tape_0 j ≤ 127) (hE_0_160_1 : ∀ j : Int, tokenKind_0 j = tokenKind_1 j) (hK_0_160 : ∀ j : Int, 0 ≤ j → j < 2010 → 0 ≤ tokenKind_0 j ∧ tokenKind_0 j ≤ 4) (hE_0_161_1 : ∀ j : Int, tokenValue_0 j = tokenValue_1 j) (hE_0_162_1 : ∀ j : Int, tokenPlace_0 j = tokenPlace_1 j) (hK_0_162 : ∀ j : Int, 0 ≤ j → j < 2010 → 0 ≤ tokenPlace_0 j ∧ tokenPlace_0 j ≤ 2000) (hE_0_163_1 : ∀ j : Int, tokenEnd_0 j = tokenEnd_1 j) (hK_0_163 : ∀ j : Int, 0 ≤ j → j < 2010 → 0 ≤ tokenEnd_0 j ∧ tokenEnd_0 j ≤ 2000) (kz_0_0 : 0 ≤ taped_0 ∧ taped_0 ≤ 2000) (kz_0_8 : 0 ≤ fault_0 ∧ fault_0 ≤ 5) (kz_0_10 : 0 ≤ limit_0 ∧ limit_0 ≤ 2000) (kz_0_157 : 0 ≤ tokens_0 ∧ tokens_0 ≤ 2010) (kz_0_158 : 0 ≤ cur_0 ∧ cur_0 ≤ 2009) (kz_0_159 : 0 ≤ opened_0 ∧ opened_0 ≤ 13) (kz_0_165 : (-1) ≤ styleOne_0 ∧ styleOne_0 ≤ 47) (ex2 : gx = cur_0) (ex3 : 0 ≤ gx ∧ gx ≤ 2009) : SC1 (limit_0) (tokenKind_0) (tokenValue_0) (tokenPlace_0) (tokenEnd_0) (tape_0) (gx) := by
  subst fe_0_0_1
  subst fe_0_8_1
  subst fe_0_10_1
  subst fe_0_157_1
  subst fe_0_158_1
  subst fe_0_159_1
  have e_hE_0_1_1 := funext hE_0_1_1; subst e_hE_0_1_1
  have e_hE_0_160_1 := funext hE_0_160_1; subst e_hE_0_160_1
  have e_hE_0_161_1 := funext hE_0_161_1; subst e_hE_0_161_1
  have e_hE_0_162_1 := funext hE_0_162_1; subst e_hE_0_162_1
  have e_hE_0_163_1 := funext hE_0_163_1; subst e_hE_0_163_1
  first
    | exact sc1_of (‹SOC _ _ _ _ _ _ _ _›) (by omega) (by omega)
  
set_option maxHeartbeats 4000000 in
theorem vc_Mo_style_23_8 (x3 : Int) (x8 : Int) (x9 : Int) (x11 : Int) (x13 : Int) (x16 : Int) (x17 : Int) (styleOne_0 : Int) (cur_0 : Int) (tokenKind_0 : Int → Int) (tokens_0 : Int) (opened_0 : Int) (tokenValue_0 : Int → Int) (tokenPlace_0 : Int → Int) (tokenEnd_0 : Int → Int) (tape_0 : Int → Int) (limit_0 : Int) (fault_0 : Int) (taped_0 : Int) (tokenKind_1 : Int → Int) (cur_1 : Int) (tokens_1 : Int) (opened_1 : Int) (tokenValue_1 : Int → Int) (tokenPlace_1 : Int → Int) (tokenEnd_1 : Int → Int) (tape_1 : Int → Int) (limit_1 : Int) (fault_1 : Int) (taped_1 : Int) (gx : Int) (k3 : 0 ≤ x3 ∧ x3 ≤ 2000) (k8 : 0 ≤ x8 ∧ x8 ≤ 0) (k9 : 0 ≤ x9 ∧ x9 ≤ 47) (k11 : 0 ≤ x11 ∧ x11 ≤ 2010) (k13 : 0 ≤ x13 ∧ x13 ≤ 2009) (k16 : 1 ≤ x16 ∧ x16 ≤ 1) (k17 : 1 ≤ x17 ∧ x17 ≤ 1) (g0 : x9 = styleOne_0) (g1 : x13 = cur_0) (f3 : tokenKind_0 (cur_0) ≠ 0) (f4 : ((cur_0 + 1) ≤ tokens_0) ∧ ((tokens_0 ≤ 2010) ∧ ((tokenKind_0 ((tokens_0 - 1)) = 0) ∨ (tokenKind_0 ((tokens_0 - 1)) = 4)))) (f5 : 1 * opened_0 + 0 ≤ 0) (f6 : (-1) * opened_0 + 0 ≤ 0) (f7 : SOK (limit_0) (tokenKind_0) (tokenValue_0) (tokenPlace_0) (tokenEnd_0) (tape_0)) (f8 : fault_0 = 0) (f9 : SOC (fault_0) (cur_0) (limit_0) (tokenKind_0) (tokenValue_0) (tokenPlace_0) (tokenEnd_0) (tape_0)) (f10 : (x8 = 0) → (x9 ≤ 23)) (f11 : taped_0 = x3) (f13 : 1 * x11 + (1 * cur_0 + 0) ≤ 2010) (f14 : (-1) * x11 + ((-1) * cur_0 + 0) ≤ (-2010)) (f15 : (x16 = 1) → (tokenKind_0 (cur_0) = 1)) (f16 : (x16 = 1) → ((fault_0 = 0) ∧ ((tokenKind_0 (cur_0) = 1) ∧ ((tokenEnd_0 (cur_0) = (tokenPlace_0 (cur_0) + 4)) ∧ (((tokenPlace_0 (cur_0) + 4) ≤ limit_0) ∧ (((tape_0 ((tokenPlace_0 (cur_0) + 0)) % 256) = 110) ∧ (((tape_0 ((tokenPlace_0 (cur_0) + 1)) % 256) = 111) ∧ (((tape_0 ((tokenPlace_0 (cur_0) + 2)) % 256) = 100) ∧ ((tape_0 ((tokenPlace_0 (cur_0) + 3)) % 256) = 101))))))))) (f17 : ((fault_0 = 0) ∧ ((tokenKind_0 (cur_0) = 1) ∧ ((tokenEnd_0 (cur_0) = (tokenPlace_0 (cur_0) + 4)) ∧ (((tokenPlace_0 (cur_0) + 4) ≤ limit_0) ∧ (((tape_0 ((tokenPlace_0 (cur_0) + 0)) % 256) = 110) ∧ (((tape_0 ((tokenPlace_0 (cur_0) + 1)) % 256) = 111) ∧ (((tape_0 ((tokenPlace_0 (cur_0) + 2)) % 256) = 100) ∧ ((tape_0 ((tokenPlace_0 (cur_0) + 3)) % 256) = 101)))))))) → (x16 = 1)) (f18 : Wqnode (fault_0) (cur_0) (limit_0) (tokenKind_0) (tokenPlace_0) (tokenEnd_0) (tape_0) (x16)) (f20 : x16 = x17) (f21 : x8 = 0) (f22 : tokenKind_1 (cur_1) ≠ 0) (f23 : ((cur_1 + 1) ≤ tokens_1) ∧ ((tokens_1 ≤ 2010) ∧ ((tokenKind_1 ((tokens_1 - 1)) = 0) ∨ (tokenKind_1 ((tokens_1 - 1)) = 4)))) (f24 : 1 * opened_1 + 0 ≤ 0) (f25 : (-1) * opened_1 + 0 ≤ 0) (f26 : SOK (limit_1) (tokenKind_1) (tokenValue_1) (tokenPlace_1) (tokenEnd_1) (tape_1)) (f27 : fault_1 = 0) (f28 : SOC (fault_1) (cur_1) (limit_1) (tokenKind_1) (tokenValue_1) (tokenPlace_1) (tokenEnd_1) (tape_1)) (f29 : (x8 = 0) → (x9 ≤ 23)) (f30 : taped_1 = x3) (f31 : 1 * x11 + (1 * cur_1 + 0) ≤ 2010) (f32 : (-1) * x11 + ((-1) * cur_1 + 0) ≤ (-2010)) (f33 : (x16 = 1) → (tokenKind_1 (cur_1) = 1)) (f34 : (x16 = 1) → ((fault_1 = 0) ∧ ((tokenKind_1 (cur_1) = 1) ∧ ((tokenEnd_1 (cur_1) = (tokenPlace_1 (cur_1) + 4)) ∧ (((tokenPlace_1 (cur_1) + 4) ≤ limit_1) ∧ (((tape_1 ((tokenPlace_1 (cur_1) + 0)) % 256) = 110) ∧ (((tape_1 ((tokenPlace_1 (cur_1) + 1)) % 256) = 111) ∧ (((tape_1 ((tokenPlace_1 (cur_1) + 2)) % 256) = 100) ∧ ((tape_1 ((tokenPlace_1 (cur_1) + 3)) % 256) = 101))))))))) (f35 : ((fault_1 = 0) ∧ ((tokenKind_1 (cur_1) = 1) ∧ ((tokenEnd_1 (cur_1) = (tokenPlace_1 (cur_1) + 4)) ∧ (((tokenPlace_1 (cur_1) + 4) ≤ limit_1) ∧ (((tape_1 ((tokenPlace_1 (cur_1) + 0)) % 256) = 110) ∧ (((tape_1 ((tokenPlace_1 (cur_1) + 1)) % 256) = 111) ∧ (((tape_1 ((tokenPlace_1 (cur_1) + 2)) % 256) = 100) ∧ ((tape_1 ((tokenPlace_1 (cur_1) + 3)) % 256) = 101)))))))) → (x16 = 1)) (f36 : Wqnode (fault_1) (cur_1) (limit_1) (tokenKind_1) (tokenPlace_1) (tokenEnd_1) (tape_1) (x16)) (fe_0_0_1 : taped_0 = taped_1) (fe_0_8_1 : fault_0 = fault_1) (fe_0_10_1 : limit_0 = limit_1) (fe_0_157_1 : tokens_0 = tokens_1) (fe_0_158_1 : cur_0 = cur_1) (fe_0_159_1 : opened_0 = opened_1) (fe_0_165_1 : styleOne_0 = x9) (hE_0_1_1 : ∀ j : Int, tape_0 j = tape_1 j) (hK_0_1 : ∀ j : Int, 0 ≤ j → j < 2000 → (-128) ≤ tape_0 j ∧ tape_0 j ≤ 127) (hE_0_160_1 : ∀ j : Int, tokenKind_0 j = tokenKind_1 j) (hK_0_160 : ∀ j : Int, 0 ≤ j → j < 2010 → 0 ≤ tokenKind_0 j ∧ tokenKind_0 j ≤ 4) (hE_0_161_1 : ∀ j : Int, tokenValue_0 j = tokenValue_1 j) (hE_0_162_1 : ∀ j : Int, tokenPlace_0 j = tokenPlace_1 j) (hK_0_162 : ∀ j : Int, 0 ≤ j → j < 2010 → 0 ≤ tokenPlace_0 j ∧ tokenPlace_0 j ≤ 2000) (hE_0_163_1 : ∀ j : Int, tokenEnd_0 j = tokenEnd_1 j) (hK_0_163 : ∀ j : Int, 0 ≤ j → j < 2010 → 0 ≤ tokenEnd_0 j ∧ tokenEnd_0 j ≤ 2000) (kz_0_0 : 0 ≤ taped_0 ∧ taped_0 ≤ 2000) (kz_0_8 : 0 ≤ fault_0 ∧ fault_0 ≤ 5) (kz_0_10 : 0 ≤ limit_0 ∧ limit_0 ≤ 2000) (kz_0_157 : 0 ≤ tokens_0 ∧ tokens_0 ≤ 2010) (kz_0_158 : 0 ≤ cur_0 ∧ cur_0 ≤ 2009) (kz_0_159 : 0 ≤ opened_0 ∧ opened_0 ≤ 13) (kz_0_165 : (-1) ≤ styleOne_0 ∧ styleOne_0 ≤ 47) (ex2 : gx = cur_0) (ex3 : 0 ≤ gx ∧ gx ≤ 2009) : (-1) * x11 + ((-1) * gx + 0) ≤ (-2010) := by
  subst fe_0_0_1
  subst fe_0_8_1
  subst fe_0_10_1
  subst fe_0_157_1
  subst fe_0_158_1
  subst fe_0_159_1
  have e_hE_0_1_1 := funext hE_0_1_1; subst e_hE_0_1_1
  have e_hE_0_160_1 := funext hE_0_160_1; subst e_hE_0_160_1
  have e_hE_0_161_1 := funext hE_0_161_1; subst e_hE_0_161_1
  have e_hE_0_162_1 := funext hE_0_162_1; subst e_hE_0_162_1
  have e_hE_0_163_1 := funext hE_0_163_1; subst e_hE_0_163_1
  first | with_reducible assumption | ((have f4_c0 := f4.1); (have f4_c1 := f4.2.1); (have f4_c2 := f4.2.2); (have f23_c0 := f23.1); (have f23_c1 := f23.2.1); (have f23_c2 := f23.2.2); (try and_intros) <;> first | with_reducible assumption | (clear f4_c2 f4 f23_c2 f23 hE_0_1_1 hK_0_1 hE_0_160_1 hK_0_160 hE_0_161_1 hE_0_162_1 hK_0_162 hE_0_163_1 hK_0_163 f10 f15 f16 f17 f29 f33 f34 f35; omega)) | ((have f4_c0 := f4.1); (have f4_c1 := f4.2.1); (have f4_c2 := f4.2.2); (have f23_c0 := f23.1); (have f23_c1 := f23.2.1); (have f23_c2 := f23.2.2); (first | have f10_b := f10 (by clear f4_c2 f4 f23_c2 f23 hE_0_1_1 hK_0_1 hE_0_160_1 hK_0_160 hE_0_161_1 hE_0_162_1 hK_0_162 hE_0_163_1 hK_0_163 f10 f15 f16 f17 f29 f33 f34 f35; omega) | skip); (first | have f15_b := f15 (by clear f4_c2 f4 f23_c2 f23 hE_0_1_1 hK_0_1 hE_0_160_1 hK_0_160 hE_0_161_1 hE_0_162_1 hK_0_162 hE_0_163_1 hK_0_163 f10 f15 f16 f17 f29 f33 f34 f35; omega) | skip); (first | have f16_b := f16 (by clear f4_c2 f4 f23_c2 f23 hE_0_1_1 hK_0_1 hE_0_160_1 hK_0_160 hE_0_161_1 hE_0_162_1 hK_0_162 hE_0_163_1 hK_0_163 f10 f15 f16 f17 f29 f33 f34 f35; omega) | skip); (first | have f29_b := f29 (by clear f4_c2 f4 f23_c2 f23 hE_0_1_1 hK_0_1 hE_0_160_1 hK_0_160 hE_0_161_1 hE_0_162_1 hK_0_162 hE_0_163_1 hK_0_163 f10 f15 f16 f17 f29 f33 f34 f35; omega) | skip); (first | have f33_b := f33 (by clear f4_c2 f4 f23_c2 f23 hE_0_1_1 hK_0_1 hE_0_160_1 hK_0_160 hE_0_161_1 hE_0_162_1 hK_0_162 hE_0_163_1 hK_0_163 f10 f15 f16 f17 f29 f33 f34 f35; omega) | skip); (first | have f34_b := f34 (by clear f4_c2 f4 f23_c2 f23 hE_0_1_1 hK_0_1 hE_0_160_1 hK_0_160 hE_0_161_1 hE_0_162_1 hK_0_162 hE_0_163_1 hK_0_163 f10 f15 f16 f17 f29 f33 f34 f35; omega) | skip); (first | have f10_d := f10 (by with_reducible assumption) | skip); (first | have f15_d := f15 (by with_reducible assumption) | skip); (first | have f16_d := f16 (by with_reducible assumption) | skip); (first | have f17_d := f17 (by with_reducible assumption) | skip); (first | have f29_d := f29 (by with_reducible assumption) | skip); (first | have f33_d := f33 (by with_reducible assumption) | skip); (first | have f34_d := f34 (by with_reducible assumption) | skip); (first | have f35_d := f35 (by with_reducible assumption) | skip); (try and_intros) <;> first | with_reducible assumption | (clear f4_c2 f4 f23_c2 f23 hE_0_1_1 hK_0_1 hE_0_160_1 hK_0_160 hE_0_161_1 hE_0_162_1 hK_0_162 hE_0_163_1 hK_0_163 f10 f15 f16 f17 f29 f33 f34 f35; omega)) | ((have f4_c0 := f4.1); (have f4_c1 := f4.2.1); (have f4_c2 := f4.2.2); (have f23_c0 := f23.1); (have f23_c1 := f23.2.1); (have f23_c2 := f23.2.2); (first | have f10_b := f10 (by clear f4_c2 f4 f23_c2 f23 hE_0_1_1 hK_0_1 hE_0_160_1 hK_0_160 hE_0_161_1 hE_0_162_1 hK_0_162 hE_0_163_1 hK_0_163 f10 f15 f16 f17 f29 f33 f34 f35; omega) | skip); (first | have f15_b := f15 (by clear f4_c2 f4 f23_c2 f23 hE_0_1_1 hK_0_1 hE_0_160_1 hK_0_160 hE_0_161_1 hE_0_162_1 hK_0_162 hE_0_163_1 hK_0_163 f10 f15 f16 f17 f29 f33 f34 f35; omega) | skip); (first | have f16_b := f16 (by clear f4_c2 f4 f23_c2 f23 hE_0_1_1 hK_0_1 hE_0_160_1 hK_0_160 hE_0_161_1 hE_0_162_1 hK_0_162 hE_0_163_1 hK_0_163 f10 f15 f16 f17 f29 f33 f34 f35; omega) | skip); (first | have f29_b := f29 (by clear f4_c2 f4 f23_c2 f23 hE_0_1_1 hK_0_1 hE_0_160_1 hK_0_160 hE_0_161_1 hE_0_162_1 hK_0_162 hE_0_163_1 hK_0_163 f10 f15 f16 f17 f29 f33 f34 f35; omega) | skip); (first | have f33_b := f33 (by clear f4_c2 f4 f23_c2 f23 hE_0_1_1 hK_0_1 hE_0_160_1 hK_0_160 hE_0_161_1 hE_0_162_1 hK_0_162 hE_0_163_1 hK_0_163 f10 f15 f16 f17 f29 f33 f34 f35; omega) | skip); (first | have f34_b := f34 (by clear f4_c2 f4 f23_c2 f23 hE_0_1_1 hK_0_1 hE_0_160_1 hK_0_160 hE_0_161_1 hE_0_162_1 hK_0_162 hE_0_163_1 hK_0_163 f10 f15 f16 f17 f29 f33 f34 f35; omega) | skip); (first | have f10_d := f10 (by with_reducible assumption) | skip); (first | have f15_d := f15 (by with_reducible assumption) | skip); (first | have f16_d := f16 (by with_reducible assumption) | skip); (first | have f17_d := f17 (by with_reducible assumption) | skip); (first | have f29_d := f29 (by with_reducible assumption) | skip); (first | have f33_d := f33 (by with_reducible assumption) | skip); (first | have f34_d := f34 (by with_reducible assumption) | skip); (first | have f35_d := f35 (by with_reducible assumption) | skip); (first | have f4_q := tk_nx0 f4 (by clear f4_c2 f4 f23_c2 f23 hE_0_1_1 hK_0_1 hE_0_160_1 hK_0_160 hE_0_161_1 hE_0_162_1 hK_0_162 hE_0_163_1 hK_0_163 f10 f15 f16 f17 f29 f33 f34 f35; omega) | skip); (first | have f23_q := tk_nx0 f23 (by clear f4_c2 f4 f23_c2 f23 hE_0_1_1 hK_0_1 hE_0_160_1 hK_0_160 hE_0_161_1 hE_0_162_1 hK_0_162 hE_0_163_1 hK_0_163 f10 f15 f16 f17 f29 f33 f34 f35; omega) | skip); (try and_intros) <;> first | with_reducible assumption | (clear f4_c2 f4 f23_c2 f23 hE_0_1_1 hK_0_1 hE_0_160_1 hK_0_160 hE_0_161_1 hE_0_162_1 hK_0_162 hE_0_163_1 hK_0_163 f10 f15 f16 f17 f29 f33 f34 f35; omega)) | ((have f4_c0 := f4.1); (have f4_c1 := f4.2.1); (have f4_c2 := f4.2.2); (have f23_c0 := f23.1); (have f23_c1 := f23.2.1); (have f23_c2 := f23.2.2); (first | have f10_b := f10 (by clear f4_c2 f4 f23_c2 f23 hE_0_1_1 hK_0_1 hE_0_160_1 hK_0_160 hE_0_161_1 hE_0_162_1 hK_0_162 hE_0_163_1 hK_0_163 f10 f15 f16 f17 f29 f33 f34 f35; omega) | skip); (first | have f15_b := f15 (by clear f4_c2 f4 f23_c2 f23 hE_0_1_1 hK_0_1 hE_0_160_1 hK_0_160 hE_0_161_1 hE_0_162_1 hK_0_162 hE_0_163_1 hK_0_163 f10 f15 f16 f17 f29 f33 f34 f35; omega) | skip); (first | have f16_b := f16 (by clear f4_c2 f4 f23_c2 f23 hE_0_1_1 hK_0_1 hE_0_160_1 hK_0_160 hE_0_161_1 hE_0_162_1 hK_0_162 hE_0_163_1 hK_0_163 f10 f15 f16 f17 f29 f33 f34 f35; omega) | skip); (first | have f29_b := f29 (by clear f4_c2 f4 f23_c2 f23 hE_0_1_1 hK_0_1 hE_0_160_1 hK_0_160 hE_0_161_1 hE_0_162_1 hK_0_162 hE_0_163_1 hK_0_163 f10 f15 f16 f17 f29 f33 f34 f35; omega) | skip); (first | have f33_b := f33 (by clear f4_c2 f4 f23_c2 f23 hE_0_1_1 hK_0_1 hE_0_160_1 hK_0_160 hE_0_161_1 hE_0_162_1 hK_0_162 hE_0_163_1 hK_0_163 f10 f15 f16 f17 f29 f33 f34 f35; omega) | skip); (first | have f34_b := f34 (by clear f4_c2 f4 f23_c2 f23 hE_0_1_1 hK_0_1 hE_0_160_1 hK_0_160 hE_0_161_1 hE_0_162_1 hK_0_162 hE_0_163_1 hK_0_163 f10 f15 f16 f17 f29 f33 f34 f35; omega) | skip); (first | have f10_d := f10 (by with_reducible assumption) | skip); (first | have f15_d := f15 (by with_reducible assumption) | skip); (first | have f16_d := f16 (by with_reducible assumption) | skip); (first | have f17_d := f17 (by with_reducible assumption) | skip); (first | have f29_d := f29 (by with_reducible assumption) | skip); (first | have f33_d := f33 (by with_reducible assumption) | skip); (first | have f34_d := f34 (by with_reducible assumption) | skip); (first | have f35_d := f35 (by with_reducible assumption) | skip); (first | have f4_q := tk_nx0 f4 (by clear f4_c2 f4 f23_c2 f23 hE_0_1_1 hK_0_1 hE_0_160_1 hK_0_160 hE_0_161_1 hE_0_162_1 hK_0_162 hE_0_163_1 hK_0_163 f10 f15 f16 f17 f29 f33 f34 f35; omega) | skip); (first | have f23_q := tk_nx0 f23 (by clear f4_c2 f4 f23_c2 f23 hE_0_1_1 hK_0_1 hE_0_160_1 hK_0_160 hE_0_161_1 hE_0_162_1 hK_0_162 hE_0_163_1 hK_0_163 f10 f15 f16 f17 f29 f33 f34 f35; omega) | skip); (first | have f4_r0 := tk_nx1 (c := cur_0) f4.2 (by clear f4_c2 f4 f23_c2 f23 hE_0_1_1 hK_0_1 hE_0_160_1 hK_0_160 hE_0_161_1 hE_0_162_1 hK_0_162 hE_0_163_1 hK_0_163 f10 f15 f16 f17 f29 f33 f34 f35; omega) (by clear f4_c2 f4 f23_c2 f23 hE_0_1_1 hK_0_1 hE_0_160_1 hK_0_160 hE_0_161_1 hE_0_162_1 hK_0_162 hE_0_163_1 hK_0_163 f10 f15 f16 f17 f29 f33 f34 f35; omega) | skip); (first | have f4_r1 := tk_nx1 (c := cur_1) f4.2 (by clear f4_c2 f4 f23_c2 f23 hE_0_1_1 hK_0_1 hE_0_160_1 hK_0_160 hE_0_161_1 hE_0_162_1 hK_0_162 hE_0_163_1 hK_0_163 f10 f15 f16 f17 f29 f33 f34 f35; omega) (by clear f4_c2 f4 f23_c2 f23 hE_0_1_1 hK_0_1 hE_0_160_1 hK_0_160 hE_0_161_1 hE_0_162_1 hK_0_162 hE_0_163_1 hK_0_163 f10 f15 f16 f17 f29 f33 f34 f35; omega) | skip); (first | have f23_r0 := tk_nx1 (c := cur_0) f23.2 (by clear f4_c2 f4 f23_c2 f23 hE_0_1_1 hK_0_1 hE_0_160_1 hK_0_160 hE_0_161_1 hE_0_162_1 hK_0_162 hE_0_163_1 hK_0_163 f10 f15 f16 f17 f29 f33 f34 f35; omega) (by clear f4_c2 f4 f23_c2 f23 hE_0_1_1 hK_0_1 hE_0_160_1 hK_0_160 hE_0_161_1 hE_0_162_1 hK_0_162 hE_0_163_1 hK_0_163 f10 f15 f16 f17 f29 f33 f34 f35; omega) | skip); (first | have f23_r1 := tk_nx1 (c := cur_1) f23.2 (by clear f4_c2 f4 f23_c2 f23 hE_0_1_1 hK_0_1 hE_0_160_1 hK_0_160 hE_0_161_1 hE_0_162_1 hK_0_162 hE_0_163_1 hK_0_163 f10 f15 f16 f17 f29 f33 f34 f35; omega) (by clear f4_c2 f4 f23_c2 f23 hE_0_1_1 hK_0_1 hE_0_160_1 hK_0_160 hE_0_161_1 hE_0_162_1 hK_0_162 hE_0_163_1 hK_0_163 f10 f15 f16 f17 f29 f33 f34 f35; omega) | skip); (try and_intros) <;> first | with_reducible assumption | (clear f4_c2 f4 f23_c2 f23 hE_0_1_1 hK_0_1 hE_0_160_1 hK_0_160 hE_0_161_1 hE_0_162_1 hK_0_162 hE_0_163_1 hK_0_163 f10 f15 f16 f17 f29 f33 f34 f35; omega)) | omega
def o_Mo_style_23 : or_T := (223, 18, [(0, (2, 0, 0, [165])), (3, (0, 0, 2000, [])), (4, (2, 0, 0, [165])), (8, (0, 0, 0, [])), (9, (0, 0, 47, [])), (11, (0, 0, 2010, [])), (12, (2, 0, 0, [274])), (13, (0, 0, 2009, [])), (16, (0, 1, 1, [])), (17, (0, 1, 1, []))], [(9, [9, 4], [165]), (9, [13, 4], [158]), (9, [12, 4], [160]), (20, [4], [50, 1, 1, 158, 160, 7, 6, 3, 0, 160, 2, 0, 158, 0, 0]), (20, [4], [50, 2, 1, 158, 157, 160, 2, 12, 0, 7, 4, 3, 2, 0, 158, 0, 1, 2, 0, 157, 2, 7, 0, 3, 2, 0, 157, 0, 2010, 3, 14, 1, 10, 3, 0, 160, 5, 3, 2, 0, 157, 0, 1, 0, 0, 1, 10, 3, 0, 160, 5, 3, 2, 0, 157, 0, 1, 0, 4]), (20, [4], [30, 0, 1, 1, 159]), (20, [4], [30, 0, -1, 1, 159]), (20, [4], [60, 1, 5, 74, 10, 160, 161, 162, 163, 1]), (20, [4], [50, 1, 0, 8, 1, 3, 2, 0, 8, 0, 0]), (20, [4], [60, 3, 5, 71, 8, 158, 10, 160, 161, 162, 163, 1]), (20, [8, 9], [50, 0, 0, 4, 6, 1, 2, 1, 0, 0, 0, 0, 2, 1, 1, 0, 23]), (20, [4, 3], [50, 1, 0, 0, 1, 3, 2, 0, 0, 1, 1]), (24, [0, 4], []), (20, [11, 4], [30, 2010, 1, 0, 0, 1, 1, 158]), (20, [11, 4], [30, -2010, -1, 0, 0, -1, 1, 158]), (20, [16, 4], [50, 1, 1, 1158, 1160, 4, 6, 1, 2, 1, 0, 0, 1, 1, 6, 3, 1, 160, 2, 1, 158, 0, 1]), (20, [16, 4], [50, 3, 4, 1008, 1158, 1010, 1160, 1163, 1162, 1001, 4, 6, 1, 2, 1, 0, 0, 1, 2, 7, 1, 3, 2, 1, 8, 0, 0, 2, 10, 1, 6, 3, 1, 160, 2, 1, 158, 0, 1, 2, 18, 1, 6, 3, 1, 163, 2, 1, 158, 4, 6, 3, 1, 162, 2, 1, 158, 0, 4, 2, 15, 0, 10, 4, 6, 3, 1, 162, 2, 1, 158, 0, 4, 2, 1, 10, 2, 21, 1, 17, 9, 13, 3, 1, 1, 4, 6, 3, 1, 162, 2, 1, 158, 0, 0, 0, 256, 0, 110, 2, 21, 1, 17, 9, 13, 3, 1, 1, 4, 6, 3, 1, 162, 2, 1, 158, 0, 1, 0, 256, 0, 111, 2, 21, 1, 17, 9, 13, 3, 1, 1, 4, 6, 3, 1, 162, 2, 1, 158, 0, 2, 0, 256, 0, 100, 1, 17, 9, 13, 3, 1, 1, 4, 6, 3, 1, 162, 2, 1, 158, 0, 3, 0, 256, 0, 101]), (20, [4, 16], [50, 3, 4, 8, 158, 10, 160, 163, 162, 1, 4, 148, 2, 7, 1, 3, 2, 0, 8, 0, 0, 2, 10, 1, 6, 3, 0, 160, 2, 0, 158, 0, 1, 2, 18, 1, 6, 3, 0, 163, 2, 0, 158, 4, 6, 3, 0, 162, 2, 0, 158, 0, 4, 2, 15, 0, 10, 4, 6, 3, 0, 162, 2, 0, 158, 0, 4, 2, 0, 10, 2, 21, 1, 17, 9, 13, 3, 0, 1, 4, 6, 3, 0, 162, 2, 0, 158, 0, 0, 0, 256, 0, 110, 2, 21, 1, 17, 9, 13, 3, 0, 1, 4, 6, 3, 0, 162, 2, 0, 158, 0, 1, 0, 256, 0, 111, 2, 21, 1, 17, 9, 13, 3, 0, 1, 4, 6, 3, 0, 162, 2, 0, 158, 0, 2, 0, 256, 0, 100, 1, 17, 9, 13, 3, 0, 1, 4, 6, 3, 0, 162, 2, 0, 158, 0, 3, 0, 256, 0, 101, 1, 2, 1, 1, 0, 1]), (20, [4, 16], [60, 3, 4, 19, 8, 158, 10, 160, 162, 163, 1]), (101, [4, 9], [165]), (7, [16, 17], [0]), (8, [8], [0]), (20, [4], [50, 1, 1, 158, 160, 7, 6, 3, 0, 160, 2, 0, 158, 0, 0]), (20, [4], [50, 2, 1, 158, 157, 160, 2, 12, 0, 7, 4, 3, 2, 0, 158, 0, 1, 2, 0, 157, 2, 7, 0, 3, 2, 0, 157, 0, 2010, 3, 14, 1, 10, 3, 0, 160, 5, 3, 2, 0, 157, 0, 1, 0, 0, 1, 10, 3, 0, 160, 5, 3, 2, 0, 157, 0, 1, 0, 4]), (20, [4], [30, 0, 1, 1, 159]), (20, [4], [30, 0, -1, 1, 159]), (20, [4], [60, 1, 5, 74, 10, 160, 161, 162, 163, 1]), (20, [4], [50, 1, 0, 8, 1, 3, 2, 0, 8, 0, 0]), (20, [4], [60, 3, 5, 71, 8, 158, 10, 160, 161, 162, 163, 1]), (20, [8, 9], [50, 0, 0, 4, 6, 1, 2, 1, 0, 0, 0, 0, 2, 1, 1, 0, 23]), (20, [4, 3], [50, 1, 0, 0, 1, 3, 2, 0, 0, 1, 1]), (20, [11, 4], [30, 2010, 1, 0, 0, 1, 1, 158]), (20, [11, 4], [30, -2010, -1, 0, 0, -1, 1, 158]), (20, [16, 4], [50, 1, 1, 1158, 1160, 4, 6, 1, 2, 1, 0, 0, 1, 1, 6, 3, 1, 160, 2, 1, 158, 0, 1]), (20, [16, 4], [50, 3, 4, 1008, 1158, 1010, 1160, 1163, 1162, 1001, 4, 6, 1, 2, 1, 0, 0, 1, 2, 7, 1, 3, 2, 1, 8, 0, 0, 2, 10, 1, 6, 3, 1, 160, 2, 1, 158, 0, 1, 2, 18, 1, 6, 3, 1, 163, 2, 1, 158, 4, 6, 3, 1, 162, 2, 1, 158, 0, 4, 2, 15, 0, 10, 4, 6, 3, 1, 162, 2, 1, 158, 0, 4, 2, 1, 10, 2, 21, 1, 17, 9, 13, 3, 1, 1, 4, 6, 3, 1, 162, 2, 1, 158, 0, 0, 0, 256, 0, 110, 2, 21, 1, 17, 9, 13, 3, 1, 1, 4, 6, 3, 1, 162, 2, 1, 158, 0, 1, 0, 256, 0, 111, 2, 21, 1, 17, 9, 13, 3, 1, 1, 4, 6, 3, 1, 162, 2, 1, 158, 0, 2, 0, 256, 0, 100, 1, 17, 9, 13, 3, 1, 1, 4, 6, 3, 1, 162, 2, 1, 158, 0, 3, 0, 256, 0, 101]), (20, [4, 16], [50, 3, 4, 8, 158, 10, 160, 163, 162, 1, 4, 148, 2, 7, 1, 3, 2, 0, 8, 0, 0, 2, 10, 1, 6, 3, 0, 160, 2, 0, 158, 0, 1, 2, 18, 1, 6, 3, 0, 163, 2, 0, 158, 4, 6, 3, 0, 162, 2, 0, 158, 0, 4, 2, 15, 0, 10, 4, 6, 3, 0, 162, 2, 0, 158, 0, 4, 2, 0, 10, 2, 21, 1, 17, 9, 13, 3, 0, 1, 4, 6, 3, 0, 162, 2, 0, 158, 0, 0, 0, 256, 0, 110, 2, 21, 1, 17, 9, 13, 3, 0, 1, 4, 6, 3, 0, 162, 2, 0, 158, 0, 1, 0, 256, 0, 111, 2, 21, 1, 17, 9, 13, 3, 0, 1, 4, 6, 3, 0, 162, 2, 0, 158, 0, 2, 0, 256, 0, 100, 1, 17, 9, 13, 3, 0, 1, 4, 6, 3, 0, 162, 2, 0, 158, 0, 3, 0, 256, 0, 101, 1, 2, 1, 1, 0, 1]), (20, [4, 16], [60, 3, 4, 19, 8, 158, 10, 160, 162, 163, 1])], [], [(0, 0, 2009, [])], [(20, [4], [50, 2, 1, 158, 157, 160, 2, 12, 0, 7, 4, 3, 2, 0, 158, 0, 1, 2, 0, 157, 2, 7, 0, 3, 2, 0, 157, 0, 2010, 3, 14, 1, 10, 3, 0, 160, 5, 3, 2, 0, 157, 0, 1, 0, 0, 1, 10, 3, 0, 160, 5, 3, 2, 0, 157, 0, 1, 0, 4]), (20, [4, 18], [30, 0, 1, 1, 158, -1, 0, 0]), (20, [4, 18], [30, 0, -1, 1, 158, 1, 0, 0]), (20, [4], [50, 4, 4, 8, 158, 10, 165, 160, 163, 162, 1, 4, 148, 2, 7, 1, 3, 2, 0, 8, 0, 0, 2, 10, 1, 6, 3, 0, 160, 2, 0, 158, 0, 1, 2, 18, 1, 6, 3, 0, 163, 2, 0, 158, 4, 6, 3, 0, 162, 2, 0, 158, 0, 4, 2, 15, 0, 10, 4, 6, 3, 0, 162, 2, 0, 158, 0, 4, 2, 0, 10, 2, 21, 1, 17, 9, 13, 3, 0, 1, 4, 6, 3, 0, 162, 2, 0, 158, 0, 0, 0, 256, 0, 110, 2, 21, 1, 17, 9, 13, 3, 0, 1, 4, 6, 3, 0, 162, 2, 0, 158, 0, 1, 0, 256, 0, 111, 2, 21, 1, 17, 9, 13, 3, 0, 1, 4, 6, 3, 0, 162, 2, 0, 158, 0, 2, 0, 256, 0, 100, 1, 17, 9, 13, 3, 0, 1, 4, 6, 3, 0, 162, 2, 0, 158, 0, 3, 0, 256, 0, 101, 0, 3, 2, 0, 165, 0, 23]), (20, [4], [30, 0, 1, 1, 159]), (20, [4], [30, 0, -1, 1, 159]), (20, [4], [50, 1, 0, 8, 1, 3, 2, 0, 8, 0, 0]), (20, [4, 18], [60, 1, 5, 73, 10, 160, 161, 162, 163, 1]), (23, [11, 18], [-2010, -1, -1])], [], [])
theorem oo_Mo_style_23 {kA : Nat → ClassId} : or_ok PRD kA GG o_Mo_style_23 := by
  refine or_mk fun A ta ws vs hD hth hl => ?_
  intro t0 r0 t3 k3 t4 r4 t8 k8 t9 k9 t11 k11 t12 r12 t13 k13 t16 k16 t17 k17 f0 f1 f2 f3 f4 f5 f6 f7 f8 f9 f10 f11 f12 f13 f14 f15 f16 f17 f18 ta1 w1 le1 s1 f20 f21 f22 f23 f24 f25 f26 f27 f28 f29 f30 f31 f32 f33 f34 f35 f36
  replace f0 := shm_195 f0
  replace f1 := shm_286 f1
  replace f3 := shm_310 f3
  replace f4 := shm_271 f4
  replace f5 := shm_1029 f5
  replace f6 := shm_1030 f6
  replace f7 := shm_2306 f7
  replace f8 := shm_2156 f8
  replace f9 := shm_2311 f9
  replace f10 := shm_2312 f10
  replace f11 := shm_570 f11
  replace f12 := shm_5 f12
  replace f13 := shm_284 f13
  replace f14 := shm_285 f14
  replace f15 := shm_287 f15
  replace f16 := shm_1861 f16
  replace f17 := shm_1862 f17
  replace f18 := shm_1863 f18
  have s1 : (∀ b j, w_el ws b j = w_el w1 b j) ∧ ∀ b j, w_fd ws b j = if b = v_ad (n_v vs 4) ∧ j = 165 then n_v vs 9 else w_fd w1 b j := s1.2
  replace f20 := shm_37 f20
  replace f21 := shm_192 f21
  replace f22 := shm_310 f22
  replace f23 := shm_271 f23
  replace f24 := shm_1029 f24
  replace f25 := shm_1030 f25
  replace f26 := shm_2306 f26
  replace f27 := shm_2156 f27
  replace f28 := shm_2311 f28
  replace f29 := shm_2312 f29
  replace f30 := shm_570 f30
  replace f31 := shm_284 f31
  replace f32 := shm_285 f32
  replace f33 := shm_287 f33
  replace f34 := shm_1861 f34
  replace f35 := shm_1862 f35
  replace f36 := shm_1863 f36
  have q4 : n_v vs 4 = n_v vs 0 := f12.symm
  simp only [q4] at f0 f1 f3 f4 f5 f6 f7 f8 f9 f11 f13 f14 f15 f16 f17 f18
  rw [q4] at s1
  simp only [q4] at f22 f23 f24 f25 f26 f27 f28 f30 f31 f32 f33 f34 f35 f36
  have ar_0_1_1 : w_ar w1 (n_v vs 0) 1 = w_ar ws (n_v vs 0) 1 := by show v_ad (w_fd w1 _ _) = v_ad (w_fd ws _ _); rw [s1.2, if_neg (fun e => absurd e.2 (by decide))]
  have cr_0_1 := fdq_39 hD hth r0
  have ar_0_160_1 : w_ar w1 (n_v vs 0) 160 = w_ar ws (n_v vs 0) 160 := by show v_ad (w_fd w1 _ _) = v_ad (w_fd ws _ _); rw [s1.2, if_neg (fun e => absurd e.2 (by decide))]
  have cr_0_160 := fdq_33 hD hth r0
  have ar_0_161_1 : w_ar w1 (n_v vs 0) 161 = w_ar ws (n_v vs 0) 161 := by show v_ad (w_fd w1 _ _) = v_ad (w_fd ws _ _); rw [s1.2, if_neg (fun e => absurd e.2 (by decide))]
  have ar_0_162_1 : w_ar w1 (n_v vs 0) 162 = w_ar ws (n_v vs 0) 162 := by show v_ad (w_fd w1 _ _) = v_ad (w_fd ws _ _); rw [s1.2, if_neg (fun e => absurd e.2 (by decide))]
  have cr_0_162 := fdq_41 hD hth r0
  have ar_0_163_1 : w_ar w1 (n_v vs 0) 163 = w_ar ws (n_v vs 0) 163 := by show v_ad (w_fd w1 _ _) = v_ad (w_fd ws _ _); rw [s1.2, if_neg (fun e => absurd e.2 (by decide))]
  have cr_0_163 := fdq_42 hD hth r0
  have g0 : v_iv (n_v vs 9) = w_fi ws (n_v vs 0) 165 := congrArg v_iv f0
  have g1 : v_iv (n_v vs 13) = w_fi ws (n_v vs 0) 158 := congrArg v_iv f1
  simp only [ar_0_160_1, ar_0_1_1, ar_0_161_1, ar_0_162_1, ar_0_163_1] at f22 f23 f26 f28 f33 f34 f35 f36
  have fe_0_0_1 : w_fi ws (n_v vs 0) 0 = w_fi w1 (n_v vs 0) 0 := by show v_iv (w_fd _ _ _) = v_iv (w_fd _ _ _); rw [s1.2, if_neg (fun e => absurd e.2 (by decide))]
  have fe_0_8_1 : w_fi ws (n_v vs 0) 8 = w_fi w1 (n_v vs 0) 8 := by show v_iv (w_fd _ _ _) = v_iv (w_fd _ _ _); rw [s1.2, if_neg (fun e => absurd e.2 (by decide))]
  have fe_0_10_1 : w_fi ws (n_v vs 0) 10 = w_fi w1 (n_v vs 0) 10 := by show v_iv (w_fd _ _ _) = v_iv (w_fd _ _ _); rw [s1.2, if_neg (fun e => absurd e.2 (by decide))]
  have fe_0_157_1 : w_fi ws (n_v vs 0) 157 = w_fi w1 (n_v vs 0) 157 := by show v_iv (w_fd _ _ _) = v_iv (w_fd _ _ _); rw [s1.2, if_neg (fun e => absurd e.2 (by decide))]
  have fe_0_158_1 : w_fi ws (n_v vs 0) 158 = w_fi w1 (n_v vs 0) 158 := by show v_iv (w_fd _ _ _) = v_iv (w_fd _ _ _); rw [s1.2, if_neg (fun e => absurd e.2 (by decide))]
  have fe_0_159_1 : w_fi ws (n_v vs 0) 159 = w_fi w1 (n_v vs 0) 159 := by show v_iv (w_fd _ _ _) = v_iv (w_fd _ _ _); rw [s1.2, if_neg (fun e => absurd e.2 (by decide))]
  have fe_0_165_1 : w_fi ws (n_v vs 0) 165 = v_iv (n_v vs 9) := by show v_iv (w_fd _ _ _) = _; rw [s1.2, if_pos ⟨rfl, rfl⟩]
  have hE_0_1_1 : ∀ j : Int, w_ei ws (w_ar ws (n_v vs 0) 1) j = w_ei w1 (w_ar ws (n_v vs 0) 1) j := fun j => s1.1 _ _
  have hK_0_1 := elq_7 hD hth cr_0_1
  have hE_0_160_1 : ∀ j : Int, w_ei ws (w_ar ws (n_v vs 0) 160) j = w_ei w1 (w_ar ws (n_v vs 0) 160) j := fun j => s1.1 _ _
  have hK_0_160 := elq_6 hD hth cr_0_160
  have hE_0_161_1 : ∀ j : Int, w_ei ws (w_ar ws (n_v vs 0) 161) j = w_ei w1 (w_ar ws (n_v vs 0) 161) j := fun j => s1.1 _ _
  have hE_0_162_1 : ∀ j : Int, w_ei ws (w_ar ws (n_v vs 0) 162) j = w_ei w1 (w_ar ws (n_v vs 0) 162) j := fun j => s1.1 _ _
  have hK_0_162 := elq_8 hD hth cr_0_162
  have hE_0_163_1 : ∀ j : Int, w_ei ws (w_ar ws (n_v vs 0) 163) j = w_ei w1 (w_ar ws (n_v vs 0) 163) j := fun j => s1.1 _ _
  have hK_0_163 := elq_9 hD hth cr_0_163
  have kz_0_0 := fdq_148 hD hth r0
  have kz_0_8 := fdq_34 hD hth r0
  have kz_0_10 := fdq_43 hD hth r0
  have kz_0_157 := fdq_35 hD hth r0
  have kz_0_158 := fdq_36 hD hth r0
  have kz_0_159 := fdq_37 hD hth r0
  have kz_0_165 := fdq_27 hD hth r0
  obtain ⟨x, ex, hx⟩ := iv_ex (ta := ta) (lo := 0) (hi := 2009) (z := w_fi ws (n_v vs 0) 158) (by omega) (by omega) (by omega) (by omega)
  have ex2 : v_iv (Value.int x) = w_fi ws (n_v vs 0) 158 := ex
  have ex3 : 0 ≤ v_iv (Value.int x) ∧ v_iv (Value.int x) ≤ 2009 := tv_rng hx
  have e_4 : n_v (vs ++ [Value.int x]) 4 = n_v vs 4 := n_v_old (by rw [hl]; decide)
  have e_11 : n_v (vs ++ [Value.int x]) 11 = n_v vs 11 := n_v_old (by rw [hl]; decide)
  have e_18 : n_v (vs ++ [Value.int x]) 18 = Value.int x := n_v_new hl
  have nf0 : fc_1 PRD (20, [4], [50, 2, 1, 158, 157, 160, 2, 12, 0, 7, 4, 3, 2, 0, 158, 0, 1, 2, 0, 157, 2, 7, 0, 3, 2, 0, 157, 0, 2010, 3, 14, 1, 10, 3, 0, 160, 5, 3, 2, 0, 157, 0, 1, 0, 0, 1, 10, 3, 0, 160, 5, 3, 2, 0, 157, 0, 1, 0, 4]) ws (vs ++ [Value.int x]) := by
    refine ⟨nf_inA hl rfl, sgq_271 ?_⟩
    · show ((w_fi ws (n_v (vs ++ [Value.int x]) 4) 158 + 1) ≤ w_fi ws (n_v (vs ++ [Value.int x]) 4) 157) ∧ ((w_fi ws (n_v (vs ++ [Value.int x]) 4) 157 ≤ 2010) ∧ ((w_ei ws (w_ar ws (n_v (vs ++ [Value.int x]) 4) 160) ((w_fi ws (n_v (vs ++ [Value.int x]) 4) 157 - 1)) = 0) ∨ (w_ei ws (w_ar ws (n_v (vs ++ [Value.int x]) 4) 160) ((w_fi ws (n_v (vs ++ [Value.int x]) 4) 157 - 1)) = 4)))
      simp only [e_4, q4]
      exact vc_Mo_style_23_0 (v_iv (n_v vs 3)) (v_iv (n_v vs 8)) (v_iv (n_v vs 9)) (v_iv (n_v vs 11)) (v_iv (n_v vs 13)) (v_iv (n_v vs 16)) (v_iv (n_v vs 17)) (w_fi ws (n_v vs 0) 165) (w_fi ws (n_v vs 0) 158) (w_ei ws (w_ar ws (n_v vs 0) 160)) (w_fi ws (n_v vs 0) 157) (w_fi ws (n_v vs 0) 159) (w_ei ws (w_ar ws (n_v vs 0) 161)) (w_ei ws (w_ar ws (n_v vs 0) 162)) (w_ei ws (w_ar ws (n_v vs 0) 163)) (w_ei ws (w_ar ws (n_v vs 0) 1)) (w_fi ws (n_v vs 0) 10) (w_fi ws (n_v vs 0) 8) (w_fi ws (n_v vs 0) 0) (w_ei w1 (w_ar ws (n_v vs 0) 160)) (w_fi w1 (n_v vs 0) 158) (w_fi w1 (n_v vs 0) 157) (w_fi w1 (n_v vs 0) 159) (w_ei w1 (w_ar ws (n_v vs 0) 161)) (w_ei w1 (w_ar ws (n_v vs 0) 162)) (w_ei w1 (w_ar ws (n_v vs 0) 163)) (w_ei w1 (w_ar ws (n_v vs 0) 1)) (w_fi w1 (n_v vs 0) 10) (w_fi w1 (n_v vs 0) 8) (w_fi w1 (n_v vs 0) 0) (v_iv (Value.int x)) k3 k8 k9 k11 k13 k16 k17 g0 g1 f3 f4 f5 f6 f7 f8 f9 f10 f11 f13 f14 f15 f16 f17 f18 f20 f21 f22 f23 f24 f25 f26 f27 f28 f29 f30 f31 f32 f33 f34 f35 f36 fe_0_0_1 fe_0_8_1 fe_0_10_1 fe_0_157_1 fe_0_158_1 fe_0_159_1 fe_0_165_1 hE_0_1_1 hK_0_1 hE_0_160_1 hK_0_160 hE_0_161_1 hE_0_162_1 hK_0_162 hE_0_163_1 hK_0_163 kz_0_0 kz_0_8 kz_0_10 kz_0_157 kz_0_158 kz_0_159 kz_0_165 ex2 ex3
  have nf1 : fc_1 PRD (20, [4, 18], [30, 0, 1, 1, 158, -1, 0, 0]) ws (vs ++ [Value.int x]) := by
    refine ⟨nf_inA hl rfl, sgq_272 ?_⟩
    · show 1 * w_fi ws (n_v (vs ++ [Value.int x]) 4) 158 + ((-1) * v_iv (n_v (vs ++ [Value.int x]) 18) + 0) ≤ 0
      simp only [e_4, e_18, q4]
      exact vc_Mo_style_23_1 (v_iv (n_v vs 3)) (v_iv (n_v vs 8)) (v_iv (n_v vs 9)) (v_iv (n_v vs 11)) (v_iv (n_v vs 13)) (v_iv (n_v vs 16)) (v_iv (n_v vs 17)) (w_fi ws (n_v vs 0) 165) (w_fi ws (n_v vs 0) 158) (w_ei ws (w_ar ws (n_v vs 0) 160)) (w_fi ws (n_v vs 0) 157) (w_fi ws (n_v vs 0) 159) (w_ei ws (w_ar ws (n_v vs 0) 161)) (w_ei ws (w_ar ws (n_v vs 0) 162)) (w_ei ws (w_ar ws (n_v vs 0) 163)) (w_ei ws (w_ar ws (n_v vs 0) 1)) (w_fi ws (n_v vs 0) 10) (w_fi ws (n_v vs 0) 8) (w_fi ws (n_v vs 0) 0) (w_ei w1 (w_ar ws (n_v vs 0) 160)) (w_fi w1 (n_v vs 0) 158) (w_fi w1 (n_v vs 0) 157) (w_fi w1 (n_v vs 0) 159) (w_ei w1 (w_ar ws (n_v vs 0) 161)) (w_ei w1 (w_ar ws (n_v vs 0) 162)) (w_ei w1 (w_ar ws (n_v vs 0) 163)) (w_ei w1 (w_ar ws (n_v vs 0) 1)) (w_fi w1 (n_v vs 0) 10) (w_fi w1 (n_v vs 0) 8) (w_fi w1 (n_v vs 0) 0) (v_iv (Value.int x)) k3 k8 k9 k11 k13 k16 k17 g0 g1 f3 f4 f5 f6 f7 f8 f9 f10 f11 f13 f14 f15 f16 f17 f18 f20 f21 f22 f23 f24 f25 f26 f27 f28 f29 f30 f31 f32 f33 f34 f35 f36 fe_0_0_1 fe_0_8_1 fe_0_10_1 fe_0_157_1 fe_0_158_1 fe_0_159_1 fe_0_165_1 hE_0_1_1 hK_0_1 hE_0_160_1 hK_0_160 hE_0_161_1 hE_0_162_1 hK_0_162 hE_0_163_1 hK_0_163 kz_0_0 kz_0_8 kz_0_10 kz_0_157 kz_0_158 kz_0_159 kz_0_165 ex2 ex3
  have nf2 : fc_1 PRD (20, [4, 18], [30, 0, -1, 1, 158, 1, 0, 0]) ws (vs ++ [Value.int x]) := by
    refine ⟨nf_inA hl rfl, sgq_273 ?_⟩
    · show (-1) * w_fi ws (n_v (vs ++ [Value.int x]) 4) 158 + (1 * v_iv (n_v (vs ++ [Value.int x]) 18) + 0) ≤ 0
      simp only [e_4, e_18, q4]
      exact vc_Mo_style_23_2 (v_iv (n_v vs 3)) (v_iv (n_v vs 8)) (v_iv (n_v vs 9)) (v_iv (n_v vs 11)) (v_iv (n_v vs 13)) (v_iv (n_v vs 16)) (v_iv (n_v vs 17)) (w_fi ws (n_v vs 0) 165) (w_fi ws (n_v vs 0) 158) (w_ei ws (w_ar ws (n_v vs 0) 160)) (w_fi ws (n_v vs 0) 157) (w_fi ws (n_v vs 0) 159) (w_ei ws (w_ar ws (n_v vs 0) 161)) (w_ei ws (w_ar ws (n_v vs 0) 162)) (w_ei ws (w_ar ws (n_v vs 0) 163)) (w_ei ws (w_ar ws (n_v vs 0) 1)) (w_fi ws (n_v vs 0) 10) (w_fi ws (n_v vs 0) 8) (w_fi ws (n_v vs 0) 0) (w_ei w1 (w_ar ws (n_v vs 0) 160)) (w_fi w1 (n_v vs 0) 158) (w_fi w1 (n_v vs 0) 157) (w_fi w1 (n_v vs 0) 159) (w_ei w1 (w_ar ws (n_v vs 0) 161)) (w_ei w1 (w_ar ws (n_v vs 0) 162)) (w_ei w1 (w_ar ws (n_v vs 0) 163)) (w_ei w1 (w_ar ws (n_v vs 0) 1)) (w_fi w1 (n_v vs 0) 10) (w_fi w1 (n_v vs 0) 8) (w_fi w1 (n_v vs 0) 0) (v_iv (Value.int x)) k3 k8 k9 k11 k13 k16 k17 g0 g1 f3 f4 f5 f6 f7 f8 f9 f10 f11 f13 f14 f15 f16 f17 f18 f20 f21 f22 f23 f24 f25 f26 f27 f28 f29 f30 f31 f32 f33 f34 f35 f36 fe_0_0_1 fe_0_8_1 fe_0_10_1 fe_0_157_1 fe_0_158_1 fe_0_159_1 fe_0_165_1 hE_0_1_1 hK_0_1 hE_0_160_1 hK_0_160 hE_0_161_1 hE_0_162_1 hK_0_162 hE_0_163_1 hK_0_163 kz_0_0 kz_0_8 kz_0_10 kz_0_157 kz_0_158 kz_0_159 kz_0_165 ex2 ex3
  have nf3 : fc_1 PRD (20, [4], [50, 4, 4, 8, 158, 10, 165, 160, 163, 162, 1, 4, 148, 2, 7, 1, 3, 2, 0, 8, 0, 0, 2, 10, 1, 6, 3, 0, 160, 2, 0, 158, 0, 1, 2, 18, 1, 6, 3, 0, 163, 2, 0, 158, 4, 6, 3, 0, 162, 2, 0, 158, 0, 4, 2, 15, 0, 10, 4, 6, 3, 0, 162, 2, 0, 158, 0, 4, 2, 0, 10, 2, 21, 1, 17, 9, 13, 3, 0, 1, 4, 6, 3, 0, 162, 2, 0, 158, 0, 0, 0, 256, 0, 110, 2, 21, 1, 17, 9, 13, 3, 0, 1, 4, 6, 3, 0, 162, 2, 0, 158, 0, 1, 0, 256, 0, 111, 2, 21, 1, 17, 9, 13, 3, 0, 1, 4, 6, 3, 0, 162, 2, 0, 158, 0, 2, 0, 256, 0, 100, 1, 17, 9, 13, 3, 0, 1, 4, 6, 3, 0, 162, 2, 0, 158, 0, 3, 0, 256, 0, 101, 0, 3, 2, 0, 165, 0, 23]) ws (vs ++ [Value.int x]) := by
    refine ⟨nf_inA hl rfl, sgq_2259 ?_⟩
    · show ((w_fi ws (n_v (vs ++ [Value.int x]) 4) 8 = 0) ∧ ((w_ei ws (w_ar ws (n_v (vs ++ [Value.int x]) 4) 160) (w_fi ws (n_v (vs ++ [Value.int x]) 4) 158) = 1) ∧ ((w_ei ws (w_ar ws (n_v (vs ++ [Value.int x]) 4) 163) (w_fi ws (n_v (vs ++ [Value.int x]) 4) 158) = (w_ei ws (w_ar ws (n_v (vs ++ [Value.int x]) 4) 162) (w_fi ws (n_v (vs ++ [Value.int x]) 4) 158) + 4)) ∧ (((w_ei ws (w_ar ws (n_v (vs ++ [Value.int x]) 4) 162) (w_fi ws (n_v (vs ++ [Value.int x]) 4) 158) + 4) ≤ w_fi ws (n_v (vs ++ [Value.int x]) 4) 10) ∧ (((w_ei ws (w_ar ws (n_v (vs ++ [Value.int x]) 4) 1) ((w_ei ws (w_ar ws (n_v (vs ++ [Value.int x]) 4) 162) (w_fi ws (n_v (vs ++ [Value.int x]) 4) 158) + 0)) % 256) = 110) ∧ (((w_ei ws (w_ar ws (n_v (vs ++ [Value.int x]) 4) 1) ((w_ei ws (w_ar ws (n_v (vs ++ [Value.int x]) 4) 162) (w_fi ws (n_v (vs ++ [Value.int x]) 4) 158) + 1)) % 256) = 111) ∧ (((w_ei ws (w_ar ws (n_v (vs ++ [Value.int x]) 4) 1) ((w_ei ws (w_ar ws (n_v (vs ++ [Value.int x]) 4) 162) (w_fi ws (n_v (vs ++ [Value.int x]) 4) 158) + 2)) % 256) = 100) ∧ ((w_ei ws (w_ar ws (n_v (vs ++ [Value.int x]) 4) 1) ((w_ei ws (w_ar ws (n_v (vs ++ [Value.int x]) 4) 162) (w_fi ws (n_v (vs ++ [Value.int x]) 4) 158) + 3)) % 256) = 101)))))))) → (w_fi ws (n_v (vs ++ [Value.int x]) 4) 165 ≤ 23)
      simp only [e_4, q4]
      exact vc_Mo_style_23_3 (v_iv (n_v vs 3)) (v_iv (n_v vs 8)) (v_iv (n_v vs 9)) (v_iv (n_v vs 11)) (v_iv (n_v vs 13)) (v_iv (n_v vs 16)) (v_iv (n_v vs 17)) (w_fi ws (n_v vs 0) 165) (w_fi ws (n_v vs 0) 158) (w_ei ws (w_ar ws (n_v vs 0) 160)) (w_fi ws (n_v vs 0) 157) (w_fi ws (n_v vs 0) 159) (w_ei ws (w_ar ws (n_v vs 0) 161)) (w_ei ws (w_ar ws (n_v vs 0) 162)) (w_ei ws (w_ar ws (n_v vs 0) 163)) (w_ei ws (w_ar ws (n_v vs 0) 1)) (w_fi ws (n_v vs 0) 10) (w_fi ws (n_v vs 0) 8) (w_fi ws (n_v vs 0) 0) (w_ei w1 (w_ar ws (n_v vs 0) 160)) (w_fi w1 (n_v vs 0) 158) (w_fi w1 (n_v vs 0) 157) (w_fi w1 (n_v vs 0) 159) (w_ei w1 (w_ar ws (n_v vs 0) 161)) (w_ei w1 (w_ar ws (n_v vs 0) 162)) (w_ei w1 (w_ar ws (n_v vs 0) 163)) (w_ei w1 (w_ar ws (n_v vs 0) 1)) (w_fi w1 (n_v vs 0) 10) (w_fi w1 (n_v vs 0) 8) (w_fi w1 (n_v vs 0) 0) (v_iv (Value.int x)) k3 k8 k9 k11 k13 k16 k17 g0 g1 f3 f4 f5 f6 f7 f8 f9 f10 f11 f13 f14 f15 f16 f17 f18 f20 f21 f22 f23 f24 f25 f26 f27 f28 f29 f30 f31 f32 f33 f34 f35 f36 fe_0_0_1 fe_0_8_1 fe_0_10_1 fe_0_157_1 fe_0_158_1 fe_0_159_1 fe_0_165_1 hE_0_1_1 hK_0_1 hE_0_160_1 hK_0_160 hE_0_161_1 hE_0_162_1 hK_0_162 hE_0_163_1 hK_0_163 kz_0_0 kz_0_8 kz_0_10 kz_0_157 kz_0_158 kz_0_159 kz_0_165 ex2 ex3
  have nf4 : fc_1 PRD (20, [4], [30, 0, 1, 1, 159]) ws (vs ++ [Value.int x]) := by
    refine ⟨nf_inA hl rfl, sgq_1029 ?_⟩
    · show 1 * w_fi ws (n_v (vs ++ [Value.int x]) 4) 159 + 0 ≤ 0
      simp only [e_4, q4]
      exact vc_Mo_style_23_4 (v_iv (n_v vs 3)) (v_iv (n_v vs 8)) (v_iv (n_v vs 9)) (v_iv (n_v vs 11)) (v_iv (n_v vs 13)) (v_iv (n_v vs 16)) (v_iv (n_v vs 17)) (w_fi ws (n_v vs 0) 165) (w_fi ws (n_v vs 0) 158) (w_ei ws (w_ar ws (n_v vs 0) 160)) (w_fi ws (n_v vs 0) 157) (w_fi ws (n_v vs 0) 159) (w_ei ws (w_ar ws (n_v vs 0) 161)) (w_ei ws (w_ar ws (n_v vs 0) 162)) (w_ei ws (w_ar ws (n_v vs 0) 163)) (w_ei ws (w_ar ws (n_v vs 0) 1)) (w_fi ws (n_v vs 0) 10) (w_fi ws (n_v vs 0) 8) (w_fi ws (n_v vs 0) 0) (w_ei w1 (w_ar ws (n_v vs 0) 160)) (w_fi w1 (n_v vs 0) 158) (w_fi w1 (n_v vs 0) 157) (w_fi w1 (n_v vs 0) 159) (w_ei w1 (w_ar ws (n_v vs 0) 161)) (w_ei w1 (w_ar ws (n_v vs 0) 162)) (w_ei w1 (w_ar ws (n_v vs 0) 163)) (w_ei w1 (w_ar ws (n_v vs 0) 1)) (w_fi w1 (n_v vs 0) 10) (w_fi w1 (n_v vs 0) 8) (w_fi w1 (n_v vs 0) 0) (v_iv (Value.int x)) k3 k8 k9 k11 k13 k16 k17 g0 g1 f3 f4 f5 f6 f7 f8 f9 f10 f11 f13 f14 f15 f16 f17 f18 f20 f21 f22 f23 f24 f25 f26 f27 f28 f29 f30 f31 f32 f33 f34 f35 f36 fe_0_0_1 fe_0_8_1 fe_0_10_1 fe_0_157_1 fe_0_158_1 fe_0_159_1 fe_0_165_1 hE_0_1_1 hK_0_1 hE_0_160_1 hK_0_160 hE_0_161_1 hE_0_162_1 hK_0_162 hE_0_163_1 hK_0_163 kz_0_0 kz_0_8 kz_0_10 kz_0_157 kz_0_158 kz_0_159 kz_0_165 ex2 ex3
  have nf5 : fc_1 PRD (20, [4], [30, 0, -1, 1, 159]) ws (vs ++ [Value.int x]) := by
    refine ⟨nf_inA hl rfl, sgq_1030 ?_⟩
    · show (-1) * w_fi ws (n_v (vs ++ [Value.int x]) 4) 159 + 0 ≤ 0
      simp only [e_4, q4]
      exact vc_Mo_style_23_5 (v_iv (n_v vs 3)) (v_iv (n_v vs 8)) (v_iv (n_v vs 9)) (v_iv (n_v vs 11)) (v_iv (n_v vs 13)) (v_iv (n_v vs 16)) (v_iv (n_v vs 17)) (w_fi ws (n_v vs 0) 165) (w_fi ws (n_v vs 0) 158) (w_ei ws (w_ar ws (n_v vs 0) 160)) (w_fi ws (n_v vs 0) 157) (w_fi ws (n_v vs 0) 159) (w_ei ws (w_ar ws (n_v vs 0) 161)) (w_ei ws (w_ar ws (n_v vs 0) 162)) (w_ei ws (w_ar ws (n_v vs 0) 163)) (w_ei ws (w_ar ws (n_v vs 0) 1)) (w_fi ws (n_v vs 0) 10) (w_fi ws (n_v vs 0) 8) (w_fi ws (n_v vs 0) 0) (w_ei w1 (w_ar ws (n_v vs 0) 160)) (w_fi w1 (n_v vs 0) 158) (w_fi w1 (n_v vs 0) 157) (w_fi w1 (n_v vs 0) 159) (w_ei w1 (w_ar ws (n_v vs 0) 161)) (w_ei w1 (w_ar ws (n_v vs 0) 162)) (w_ei w1 (w_ar ws (n_v vs 0) 163)) (w_ei w1 (w_ar ws (n_v vs 0) 1)) (w_fi w1 (n_v vs 0) 10) (w_fi w1 (n_v vs 0) 8) (w_fi w1 (n_v vs 0) 0) (v_iv (Value.int x)) k3 k8 k9 k11 k13 k16 k17 g0 g1 f3 f4 f5 f6 f7 f8 f9 f10 f11 f13 f14 f15 f16 f17 f18 f20 f21 f22 f23 f24 f25 f26 f27 f28 f29 f30 f31 f32 f33 f34 f35 f36 fe_0_0_1 fe_0_8_1 fe_0_10_1 fe_0_157_1 fe_0_158_1 fe_0_159_1 fe_0_165_1 hE_0_1_1 hK_0_1 hE_0_160_1 hK_0_160 hE_0_161_1 hE_0_162_1 hK_0_162 hE_0_163_1 hK_0_163 kz_0_0 kz_0_8 kz_0_10 kz_0_157 kz_0_158 kz_0_159 kz_0_165 ex2 ex3
  have nf6 : fc_1 PRD (20, [4], [50, 1, 0, 8, 1, 3, 2, 0, 8, 0, 0]) ws (vs ++ [Value.int x]) := by
    refine ⟨nf_inA hl rfl, sgq_2156 ?_⟩
    · show w_fi ws (n_v (vs ++ [Value.int x]) 4) 8 = 0
      simp only [e_4, q4]
      exact vc_Mo_style_23_6 (v_iv (n_v vs 3)) (v_iv (n_v vs 8)) (v_iv (n_v vs 9)) (v_iv (n_v vs 11)) (v_iv (n_v vs 13)) (v_iv (n_v vs 16)) (v_iv (n_v vs 17)) (w_fi ws (n_v vs 0) 165) (w_fi ws (n_v vs 0) 158) (w_ei ws (w_ar ws (n_v vs 0) 160)) (w_fi ws (n_v vs 0) 157) (w_fi ws (n_v vs 0) 159) (w_ei ws (w_ar ws (n_v vs 0) 161)) (w_ei ws (w_ar ws (n_v vs 0) 162)) (w_ei ws (w_ar ws (n_v vs 0) 163)) (w_ei ws (w_ar ws (n_v vs 0) 1)) (w_fi ws (n_v vs 0) 10) (w_fi ws (n_v vs 0) 8) (w_fi ws (n_v vs 0) 0) (w_ei w1 (w_ar ws (n_v vs 0) 160)) (w_fi w1 (n_v vs 0) 158) (w_fi w1 (n_v vs 0) 157) (w_fi w1 (n_v vs 0) 159) (w_ei w1 (w_ar ws (n_v vs 0) 161)) (w_ei w1 (w_ar ws (n_v vs 0) 162)) (w_ei w1 (w_ar ws (n_v vs 0) 163)) (w_ei w1 (w_ar ws (n_v vs 0) 1)) (w_fi w1 (n_v vs 0) 10) (w_fi w1 (n_v vs 0) 8) (w_fi w1 (n_v vs 0) 0) (v_iv (Value.int x)) k3 k8 k9 k11 k13 k16 k17 g0 g1 f3 f4 f5 f6 f7 f8 f9 f10 f11 f13 f14 f15 f16 f17 f18 f20 f21 f22 f23 f24 f25 f26 f27 f28 f29 f30 f31 f32 f33 f34 f35 f36 fe_0_0_1 fe_0_8_1 fe_0_10_1 fe_0_157_1 fe_0_158_1 fe_0_159_1 fe_0_165_1 hE_0_1_1 hK_0_1 hE_0_160_1 hK_0_160 hE_0_161_1 hE_0_162_1 hK_0_162 hE_0_163_1 hK_0_163 kz_0_0 kz_0_8 kz_0_10 kz_0_157 kz_0_158 kz_0_159 kz_0_165 ex2 ex3
  have nf7 : fc_1 PRD (20, [4, 18], [60, 1, 5, 73, 10, 160, 161, 162, 163, 1]) ws (vs ++ [Value.int x]) := by
    refine ⟨nf_inA hl rfl, sgq_2313 ?_⟩
    · show SC1 (w_fi ws (n_v (vs ++ [Value.int x]) 4) 10) (w_ei ws (w_ar ws (n_v (vs ++ [Value.int x]) 4) 160)) (w_ei ws (w_ar ws (n_v (vs ++ [Value.int x]) 4) 161)) (w_ei ws (w_ar ws (n_v (vs ++ [Value.int x]) 4) 162)) (w_ei ws (w_ar ws (n_v (vs ++ [Value.int x]) 4) 163)) (w_ei ws (w_ar ws (n_v (vs ++ [Value.int x]) 4) 1)) (v_iv (n_v (vs ++ [Value.int x]) 18))
      simp only [e_4, e_18, q4]
      exact vc_Mo_style_23_7 (v_iv (n_v vs 3)) (v_iv (n_v vs 8)) (v_iv (n_v vs 9)) (v_iv (n_v vs 11)) (v_iv (n_v vs 13)) (v_iv (n_v vs 16)) (v_iv (n_v vs 17)) (w_fi ws (n_v vs 0) 165) (w_fi ws (n_v vs 0) 158) (w_ei ws (w_ar ws (n_v vs 0) 160)) (w_fi ws (n_v vs 0) 157) (w_fi ws (n_v vs 0) 159) (w_ei ws (w_ar ws (n_v vs 0) 161)) (w_ei ws (w_ar ws (n_v vs 0) 162)) (w_ei ws (w_ar ws (n_v vs 0) 163)) (w_ei ws (w_ar ws (n_v vs 0) 1)) (w_fi ws (n_v vs 0) 10) (w_fi ws (n_v vs 0) 8) (w_fi ws (n_v vs 0) 0) (w_ei w1 (w_ar ws (n_v vs 0) 160)) (w_fi w1 (n_v vs 0) 158) (w_fi w1 (n_v vs 0) 157) (w_fi w1 (n_v vs 0) 159) (w_ei w1 (w_ar ws (n_v vs 0) 161)) (w_ei w1 (w_ar ws (n_v vs 0) 162)) (w_ei w1 (w_ar ws (n_v vs 0) 163)) (w_ei w1 (w_ar ws (n_v vs 0) 1)) (w_fi w1 (n_v vs 0) 10) (w_fi w1 (n_v vs 0) 8) (w_fi w1 (n_v vs 0) 0) (v_iv (Value.int x)) k3 k8 k9 k11 k13 k16 k17 g0 g1 f3 f4 f5 f6 f7 f8 f9 f10 f11 f13 f14 f15 f16 f17 f18 f20 f21 f22 f23 f24 f25 f26 f27 f28 f29 f30 f31 f32 f33 f34 f35 f36 fe_0_0_1 fe_0_8_1 fe_0_10_1 fe_0_157_1 fe_0_158_1 fe_0_159_1 fe_0_165_1 hE_0_1_1 hK_0_1 hE_0_160_1 hK_0_160 hE_0_161_1 hE_0_162_1 hK_0_162 hE_0_163_1 hK_0_163 kz_0_0 kz_0_8 kz_0_10 kz_0_157 kz_0_158 kz_0_159 kz_0_165 ex2 ex3
  have nf8 : fc_1 PRD (23, [11, 18], [-2010, -1, -1]) ws (vs ++ [Value.int x]) := by
    refine ⟨nf_inA hl rfl, sgq_2314 ?_⟩
    · show (-1) * v_iv (n_v (vs ++ [Value.int x]) 11) + ((-1) * v_iv (n_v (vs ++ [Value.int x]) 18) + 0) ≤ (-2010)
      simp only [e_11, e_18]
      exact vc_Mo_style_23_8 (v_iv (n_v vs 3)) (v_iv (n_v vs 8)) (v_iv (n_v vs 9)) (v_iv (n_v vs 11)) (v_iv (n_v vs 13)) (v_iv (n_v vs 16)) (v_iv (n_v vs 17)) (w_fi ws (n_v vs 0) 165) (w_fi ws (n_v vs 0) 158) (w_ei ws (w_ar ws (n_v vs 0) 160)) (w_fi ws (n_v vs 0) 157) (w_fi ws (n_v vs 0) 159) (w_ei ws (w_ar ws (n_v vs 0) 161)) (w_ei ws (w_ar ws (n_v vs 0) 162)) (w_ei ws (w_ar ws (n_v vs 0) 163)) (w_ei ws (w_ar ws (n_v vs 0) 1)) (w_fi ws (n_v vs 0) 10) (w_fi ws (n_v vs 0) 8) (w_fi ws (n_v vs 0) 0) (w_ei w1 (w_ar ws (n_v vs 0) 160)) (w_fi w1 (n_v vs 0) 158) (w_fi w1 (n_v vs 0) 157) (w_fi w1 (n_v vs 0) 159) (w_ei w1 (w_ar ws (n_v vs 0) 161)) (w_ei w1 (w_ar ws (n_v vs 0) 162)) (w_ei w1 (w_ar ws (n_v vs 0) 163)) (w_ei w1 (w_ar ws (n_v vs 0) 1)) (w_fi w1 (n_v vs 0) 10) (w_fi w1 (n_v vs 0) 8) (w_fi w1 (n_v vs 0) 0) (v_iv (Value.int x)) k3 k8 k9 k11 k13 k16 k17 g0 g1 f3 f4 f5 f6 f7 f8 f9 f10 f11 f13 f14 f15 f16 f17 f18 f20 f21 f22 f23 f24 f25 f26 f27 f28 f29 f30 f31 f32 f33 f34 f35 f36 fe_0_0_1 fe_0_8_1 fe_0_10_1 fe_0_157_1 fe_0_158_1 fe_0_159_1 fe_0_165_1 hE_0_1_1 hK_0_1 hE_0_160_1 hK_0_160 hE_0_161_1 hE_0_162_1 hK_0_162 hE_0_163_1 hK_0_163 kz_0_0 kz_0_8 kz_0_10 kz_0_157 kz_0_158 kz_0_159 kz_0_165 ex2 ex3
  exact ⟨(fun _ h => (by cases h)), [Value.int x], ag_one hx, List.forall_mem_cons.mpr ⟨⟨show (20 : Nat) < 100 from by decide, nf0⟩, List.forall_mem_cons.mpr ⟨⟨show (20 : Nat) < 100 from by decide, nf1⟩, List.forall_mem_cons.mpr ⟨⟨show (20 : Nat) < 100 from by decide, nf2⟩, List.forall_mem_cons.mpr ⟨⟨show (20 : Nat) < 100 from by decide, nf3⟩, List.forall_mem_cons.mpr ⟨⟨show (20 : Nat) < 100 from by decide, nf4⟩, List.forall_mem_cons.mpr ⟨⟨show (20 : Nat) < 100 from by decide, nf5⟩, List.forall_mem_cons.mpr ⟨⟨show (20 : Nat) < 100 from by decide, nf6⟩, List.forall_mem_cons.mpr ⟨⟨show (20 : Nat) < 100 from by decide, nf7⟩, List.forall_mem_cons.mpr ⟨⟨show (23 : Nat) < 100 from by decide, nf8⟩, (fun _ h => (by cases h))⟩⟩⟩⟩⟩⟩⟩⟩⟩, (fun _ h => (by cases h))⟩
set_option maxHeartbeats 4000000 in
theorem vc_Mo_style_24_0 (x3 : Int) (x8 : Int) (x9 : Int) (x11 : Int) (x18 : Int) (styleOne_0 : Int) (tokenKind_0 : Int → Int) (tokenValue_0 : Int → Int) (tokenPlace_0 : Int → Int) (tokenEnd_0 : Int → Int) (tape_0 : Int → Int) (limit_0 : Int) (taped_0 : Int) (cur_0 : Int) (tokens_0 : Int) (opened_0 : Int) (fault_0 : Int) (gx : Int) (k3 : 0 ≤ x3 ∧ x3 ≤ 2000) (k8 : 0 ≤ x8 ∧ x8 ≤ 0) (k9 : 0 ≤ x9 ∧ x9 ≤ 47) (k11 : 0 ≤ x11 ∧ x11 ≤ 2010) (k18 : 0 ≤ x18 ∧ x18 ≤ 2009) (g0 : x9 = styleOne_0) (f2 : SC1 (limit_0) (tokenKind_0) (tokenValue_0) (tokenPlace_0) (tokenEnd_0) (tape_0) (x18)) (f3 : (-1) * x11 + ((-1) * x18 + 0) ≤ (-2010)) (f4 : SOK (limit_0) (tokenKind_0) (tokenValue_0) (tokenPlace_0) (tokenEnd_0) (tape_0)) (f5 : (x8 = 0) → (x9 ≤ 23)) (f6 : taped_0 = x3) (f8 : ((cur_0 + 1) ≤ tokens_0) ∧ ((tokens_0 ≤ 2010) ∧ ((tokenKind_0 ((tokens_0 - 1)) = 0) ∨ (tokenKind_0 ((tokens_0 - 1)) = 4)))) (f9 : 1 * x18 + ((-1) * cur_0 + 0) ≤ 0) (f10 : 1 * opened_0 + 0 ≤ 0) (f11 : (-1) * opened_0 + 0 ≤ 0) (f12 : ((-1) * fault_0 + 0 ≤ (-1)) ∨ (1 * x18 + ((-1) * cur_0 + 0) ≤ (-1))) (f13 : RUL (fault_0) (cur_0) (limit_0) (tokenKind_0) (tokenValue_0) (tokenPlace_0) (tokenEnd_0) (tape_0) (x18)) (f15 : (-1) * x11 + ((-1) * x18 + 0) ≤ (-2010)) (f17 : x8 = 0) (hK_0_1 : ∀ j : Int, 0 ≤ j → j < 2000 → (-128) ≤ tape_0 j ∧ tape_0 j ≤ 127) (hK_0_160 : ∀ j : Int, 0 ≤ j → j < 2010 → 0 ≤ tokenKind_0 j ∧ tokenKind_0 j ≤ 4) (hK_0_162 : ∀ j : Int, 0 ≤ j → j < 2010 → 0 ≤ tokenPlace_0 j ∧ tokenPlace_0 j ≤ 2000) (hK_0_163 : ∀ j : Int, 0 ≤ j → j < 2010 → 0 ≤ tokenEnd_0 j ∧ tokenEnd_0 j ≤ 2000) (kz_0_0 : 0 ≤ taped_0 ∧ taped_0 ≤ 2000) (kz_0_8 : 0 ≤ fault_0 ∧ fault_0 ≤ 5) (kz_0_10 : 0 ≤ limit_0 ∧ limit_0 ≤ 2000) (kz_0_157 : 0 ≤ tokens_0 ∧ tokens_0 ≤ 2010) (kz_0_158 : 0 ≤ cur_0 ∧ cur_0 ≤ 2009) (kz_0_159 : 0 ≤ opened_0 ∧ opened_0 ≤ 13) (kz_0_165 : (-1) ≤ styleOne_0 ∧ styleOne_0 ≤ 47) (ex2 : gx = 0 + (1 * x11 + 0)) (ex3 : 0 ≤ gx ∧ gx ≤ 2010) : (x8 = 0) → (x9 ≤ 23) := by
  first
    | exact (sc1_go ‹SC1 _ _ _ _ _ _ _› ‹RUL _ _ _ _ _ _ _ _ _›).1
    | (have e := (sc1_go ‹SC1 _ _ _ _ _ _ _› ‹RUL _ _ _ _ _ _ _ _ _›).1; clear f5 f8 hK_0_1 hK_0_160 hK_0_162 hK_0_163; omega)
    | (first | with_reducible assumption | ((have f8_c0 := f8.1); (have f8_c1 := f8.2.1); (have f8_c2 := f8.2.2); (try and_intros) <;> first | with_reducible assumption | (clear f8_c2 f8 f12 hK_0_1 hK_0_160 hK_0_162 hK_0_163 f5; omega)) | ((have f8_c0 := f8.1); (have f8_c1 := f8.2.1); (have f8_c2 := f8.2.2); (first | have f5_b := f5 (by clear f8_c2 f8 f12 hK_0_1 hK_0_160 hK_0_162 hK_0_163 f5; omega) | skip); (first | have f5_d := f5 (by with_reducible assumption) | skip); (try and_intros) <;> first | with_reducible assumption | (clear f8_c2 f8 f12 hK_0_1 hK_0_160 hK_0_162 hK_0_163 f5; omega)) | ((have f8_c0 := f8.1); (have f8_c1 := f8.2.1); (have f8_c2 := f8.2.2); (first | have f5_b := f5 (by clear f8_c2 f8 f12 hK_0_1 hK_0_160 hK_0_162 hK_0_163 f5; omega) | skip); (first | have f5_d := f5 (by with_reducible assumption) | skip); (first | have f8_q := tk_nx0 f8 (by clear f8_c2 f8 f12 hK_0_1 hK_0_160 hK_0_162 hK_0_163 f5; omega) | skip); (try and_intros) <;> first | with_reducible assumption | (clear f8_c2 f8 f12 hK_0_1 hK_0_160 hK_0_162 hK_0_163 f5; omega)) | ((have f8_c0 := f8.1); (have f8_c1 := f8.2.1); (have f8_c2 := f8.2.2); (first | have f5_b := f5 (by clear f8_c2 f8 f12 hK_0_1 hK_0_160 hK_0_162 hK_0_163 f5; omega) | skip); (first | have f5_d := f5 (by with_reducible assumption) | skip); (try and_intros) <;> first | with_reducible assumption | (clear f8_c2 f8 hK_0_1 hK_0_160 hK_0_162 hK_0_163 f5; omega)) | (intro hG; (first | have f5_g := f5 hG | skip); (have f8_c0 := f8.1); (have f8_c1 := f8.2.1); (have f8_c2 := f8.2.2); (first | have f5_b := f5 (by clear f8_c2 f8 f12 hK_0_1 hK_0_160 hK_0_162 hK_0_163 f5; omega) | skip); (try and_intros) <;> first | with_reducible assumption | (clear f8_c2 f8 f12 hK_0_1 hK_0_160 hK_0_162 hK_0_163 f5 hG; omega)) | omega)
set_option maxHeartbeats 4000000 in
theorem vc_Mo_style_24_1 (x3 : Int) (x8 : Int) (x9 : Int) (x11 : Int) (x18 : Int) (styleOne_0 : Int) (tokenKind_0 : Int → Int) (tokenValue_0 : Int → Int) (tokenPlace_0 : Int → Int) (tokenEnd_0 : Int → Int) (tape_0 : Int → Int) (limit_0 : Int) (taped_0 : Int) (cur_0 : Int) (tokens_0 : Int) (opened_0 : Int) (fault_0 : Int) (gx : Int) (k3 : 0 ≤ x3 ∧ x3 ≤ 2000) (k8 : 0 ≤ x8 ∧ x8 ≤ 0) (k9 : 0 ≤ x9 ∧ x9 ≤ 47) (k11 : 0 ≤ x11 ∧ x11 ≤ 2010) (k18 : 0 ≤ x18 ∧ x18 ≤ 2009) (g0 : x9 = styleOne_0) (f2 : SC1 (limit_0) (tokenKind_0) (tokenValue_0) (tokenPlace_0) (tokenEnd_0) (tape_0) (x18)) (f3 : (-1) * x11 + ((-1) * x18 + 0) ≤ (-2010)) (f4 : SOK (limit_0) (tokenKind_0) (tokenValue_0) (tokenPlace_0) (tokenEnd_0) (tape_0)) (f5 : (x8 = 0) → (x9 ≤ 23)) (f6 : taped_0 = x3) (f8 : ((cur_0 + 1) ≤ tokens_0) ∧ ((tokens_0 ≤ 2010) ∧ ((tokenKind_0 ((tokens_0 - 1)) = 0) ∨ (tokenKind_0 ((tokens_0 - 1)) = 4)))) (f9 : 1 * x18 + ((-1) * cur_0 + 0) ≤ 0) (f10 : 1 * opened_0 + 0 ≤ 0) (f11 : (-1) * opened_0 + 0 ≤ 0) (f12 : ((-1) * fault_0 + 0 ≤ (-1)) ∨ (1 * x18 + ((-1) * cur_0 + 0) ≤ (-1))) (f13 : RUL (fault_0) (cur_0) (limit_0) (tokenKind_0) (tokenValue_0) (tokenPlace_0) (tokenEnd_0) (tape_0) (x18)) (f15 : (-1) * x11 + ((-1) * x18 + 0) ≤ (-2010)) (f17 : x8 = 0) (hK_0_1 : ∀ j : Int, 0 ≤ j → j < 2000 → (-128) ≤ tape_0 j ∧ tape_0 j ≤ 127) (hK_0_160 : ∀ j : Int, 0 ≤ j → j < 2010 → 0 ≤ tokenKind_0 j ∧ tokenKind_0 j ≤ 4) (hK_0_162 : ∀ j : Int, 0 ≤ j → j < 2010 → 0 ≤ tokenPlace_0 j ∧ tokenPlace_0 j ≤ 2000) (hK_0_163 : ∀ j : Int, 0 ≤ j → j < 2010 → 0 ≤ tokenEnd_0 j ∧ tokenEnd_0 j ≤ 2000) (kz_0_0 : 0 ≤ taped_0 ∧ taped_0 ≤ 2000) (kz_0_8 : 0 ≤ fault_0 ∧ fault_0 ≤ 5) (kz_0_10 : 0 ≤ limit_0 ∧ limit_0 ≤ 2000) (kz_0_157 : 0 ≤ tokens_0 ∧ tokens_0 ≤ 2010) (kz_0_158 : 0 ≤ cur_0 ∧ cur_0 ≤ 2009) (kz_0_159 : 0 ≤ opened_0 ∧ opened_0 ≤ 13) (kz_0_165 : (-1) ≤ styleOne_0 ∧ styleOne_0 ≤ 47) (ex2 : gx = 0 + (1 * x11 + 0)) (ex3 : 0 ≤ gx ∧ gx ≤ 2010) : ((cur_0 + 1) ≤ tokens_0) ∧ ((tokens_0 ≤ 2010) ∧ ((tokenKind_0 ((tokens_0 - 1)) = 0) ∨ (tokenKind_0 ((tokens_0 - 1)) = 4))) := by
  first
    | exact (sc1_go ‹SC1 _ _ _ _ _ _ _› ‹RUL _ _ _ _ _ _ _ _ _›).1
    | (have e := (sc1_go ‹SC1 _ _ _ _ _ _ _› ‹RUL _ _ _ _ _ _ _ _ _›).1; clear f5 f8 hK_0_1 hK_0_160 hK_0_162 hK_0_163; omega)
    | (first | with_reducible assumption | ((have f8_c0 := f8.1); (have f8_c1 := f8.2.1); (have f8_c2 := f8.2.2); (try and_intros) <;> first | with_reducible assumption | (clear f8_c2 f8 f12 hK_0_1 hK_0_160 hK_0_162 hK_0_163 f5; omega)) | ((have f8_c0 := f8.1); (have f8_c1 := f8.2.1); (have f8_c2 := f8.2.2); (first | have f5_b := f5 (by clear f8_c2 f8 f12 hK_0_1 hK_0_160 hK_0_162 hK_0_163 f5; omega) | skip); (first | have f5_d := f5 (by with_reducible assumption) | skip); (try and_intros) <;> first | with_reducible assumption | (clear f8_c2 f8 f12 hK_0_1 hK_0_160 hK_0_162 hK_0_163 f5; omega)) | ((have f8_c0 := f8.1); (have f8_c1 := f8.2.1); (have f8_c2 := f8.2.2); (first | have f5_b := f5 (by clear f8_c2 f8 f12 hK_0_1 hK_0_160 hK_0_162 hK_0_163 f5; omega) | skip); (first | have f5_d := f5 (by with_reducible assumption) | skip); (first | have f8_q := tk_nx0 f8 (by clear f8_c2 f8 f12 hK_0_1 hK_0_160 hK_0_162 hK_0_163 f5; omega) | skip); (try and_intros) <;> first | with_reducible assumption | (clear f8_c2 f8 f12 hK_0_1 hK_0_160 hK_0_162 hK_0_163 f5; omega)) | ((have f8_c0 := f8.1); (have f8_c1 := f8.2.1); (have f8_c2 := f8.2.2); (first | have f5_b := f5 (by clear f8_c2 f8 f12 hK_0_1 hK_0_160 hK_0_162 hK_0_163 f5; omega) | skip); (first | have f5_d := f5 (by with_reducible assumption) | skip); (try and_intros) <;> first | with_reducible assumption | (clear f8_c2 f8 hK_0_1 hK_0_160 hK_0_162 hK_0_163 f5; omega)) | omega)
set_option maxHeartbeats 4000000 in
theorem vc_Mo_style_24_2 (x3 : Int) (x8 : Int) (x9 : Int) (x11 : Int) (x18 : Int) (styleOne_0 : Int) (tokenKind_0 : Int → Int) (tokenValue_0 : Int → Int) (tokenPlace_0 : Int → Int) (tokenEnd_0 : Int → Int) (tape_0 : Int → Int) (limit_0 : Int) (taped_0 : Int) (cur_0 : Int) (tokens_0 : Int) (opened_0 : Int) (fault_0 : Int) (gx : Int) (k3 : 0 ≤ x3 ∧ x3 ≤ 2000) (k8 : 0 ≤ x8 ∧ x8 ≤ 0) (k9 : 0 ≤ x9 ∧ x9 ≤ 47) (k11 : 0 ≤ x11 ∧ x11 ≤ 2010) (k18 : 0 ≤ x18 ∧ x18 ≤ 2009) (g0 : x9 = styleOne_0) (f2 : SC1 (limit_0) (tokenKind_0) (tokenValue_0) (tokenPlace_0) (tokenEnd_0) (tape_0) (x18)) (f3 : (-1) * x11 + ((-1) * x18 + 0) ≤ (-2010)) (f4 : SOK (limit_0) (tokenKind_0) (tokenValue_0) (tokenPlace_0) (tokenEnd_0) (tape_0)) (f5 : (x8 = 0) → (x9 ≤ 23)) (f6 : taped_0 = x3) (f8 : ((cur_0 + 1) ≤ tokens_0) ∧ ((tokens_0 ≤ 2010) ∧ ((tokenKind_0 ((tokens_0 - 1)) = 0) ∨ (tokenKind_0 ((tokens_0 - 1)) = 4)))) (f9 : 1 * x18 + ((-1) * cur_0 + 0) ≤ 0) (f10 : 1 * opened_0 + 0 ≤ 0) (f11 : (-1) * opened_0 + 0 ≤ 0) (f12 : ((-1) * fault_0 + 0 ≤ (-1)) ∨ (1 * x18 + ((-1) * cur_0 + 0) ≤ (-1))) (f13 : RUL (fault_0) (cur_0) (limit_0) (tokenKind_0) (tokenValue_0) (tokenPlace_0) (tokenEnd_0) (tape_0) (x18)) (f15 : (-1) * x11 + ((-1) * x18 + 0) ≤ (-2010)) (f17 : x8 = 0) (hK_0_1 : ∀ j : Int, 0 ≤ j → j < 2000 → (-128) ≤ tape_0 j ∧ tape_0 j ≤ 127) (hK_0_160 : ∀ j : Int, 0 ≤ j → j < 2010 → 0 ≤ tokenKind_0 j ∧ tokenKind_0 j ≤ 4) (hK_0_162 : ∀ j : Int, 0 ≤ j → j < 2010 → 0 ≤ tokenPlace_0 j ∧ tokenPlace_0 j ≤ 2000) (hK_0_163 : ∀ j : Int, 0 ≤ j → j < 2010 → 0 ≤ tokenEnd_0 j ∧ tokenEnd_0 j ≤ 2000) (kz_0_0 : 0 ≤ taped_0 ∧ taped_0 ≤ 2000) (kz_0_8 : 0 ≤ fault_0 ∧ fault_0 ≤ 5) (kz_0_10 : 0 ≤ limit_0 ∧ limit_0 ≤ 2000) (kz_0_157 : 0 ≤ tokens_0 ∧ tokens_0 ≤ 2010) (kz_0_158 : 0 ≤ cur_0 ∧ cur_0 ≤ 2009) (kz_0_159 : 0 ≤ opened_0 ∧ opened_0 ≤ 13) (kz_0_165 : (-1) ≤ styleOne_0 ∧ styleOne_0 ≤ 47) (ex2 : gx = 0 + (1 * x11 + 0)) (ex3 : 0 ≤ gx ∧ gx ≤ 2010) : 1 * opened_0 + 0 ≤ 0 := by
  first
    | exact (sc1_go ‹SC1 _ _ _ _ _ _ _› ‹RUL _ _ _ _ _ _ _ _ _›).1
    | (have e := (sc1_go ‹SC1 _ _ _ _ _ _ _› ‹RUL _ _ _ _ _ _ _ _ _›).1; clear f5 f8 hK_0_1 hK_0_160 hK_0_162 hK_0_163; omega)
    | (first | with_reducible assumption | ((have f8_c0 := f8.1); (have f8_c1 := f8.2.1); (have f8_c2 := f8.2.2); (try and_intros) <;> first | with_reducible assumption | (clear f8_c2 f8 f12 hK_0_1 hK_0_160 hK_0_162 hK_0_163 f5; omega)) | ((have f8_c0 := f8.1); (have f8_c1 := f8.2.1); (have f8_c2 := f8.2.2); (first | have f5_b := f5 (by clear f8_c2 f8 f12 hK_0_1 hK_0_160 hK_0_162 hK_0_163 f5; omega) | skip); (first | have f5_d := f5 (by with_reducible assumption) | skip); (try and_intros) <;> first | with_reducible assumption | (clear f8_c2 f8 f12 hK_0_1 hK_0_160 hK_0_162 hK_0_163 f5; omega)) | ((have f8_c0 := f8.1); (have f8_c1 := f8.2.1); (have f8_c2 := f8.2.2); (first | have f5_b := f5 (by clear f8_c2 f8 f12 hK_0_1 hK_0_160 hK_0_162 hK_0_163 f5; omega) | skip); (first | have f5_d := f5 (by with_reducible assumption) | skip); (first | have f8_q := tk_nx0 f8 (by clear f8_c2 f8 f12 hK_0_1 hK_0_160 hK_0_162 hK_0_163 f5; omega) | skip); (try and_intros) <;> first | with_reducible assumption | (clear f8_c2 f8 f12 hK_0_1 hK_0_160 hK_0_162 hK_0_163 f5; omega)) | ((have f8_c0 := f8.1); (have f8_c1 := f8.2.1); (have f8_c2 := f8.2.2); (first | have f5_b := f5 (by clear f8_c2 f8 f12 hK_0_1 hK_0_160 hK_0_162 hK_0_163 f5; omega) | skip); (first | have f5_d := f5 (by with_reducible assumption) | skip); (try and_intros) <;> first | with_reducible assumption | (clear f8_c2 f8 hK_0_1 hK_0_160 hK_0_162 hK_0_163 f5; omega)) | omega)
set_option maxHeartbeats 4000000 in
theorem vc_Mo_style_24_3 (x3 : Int) (x8 : Int) (x9 : Int) (x11 : Int) (x18 : Int) (styleOne_0 : Int) (tokenKind_0 : Int → Int) (tokenValue_0 : Int → Int) (tokenPlace_0 : Int → Int) (tokenEnd_0 : Int → Int) (tape_0 : Int → Int) (limit_0 : Int) (taped_0 : Int) (cur_0 : Int) (tokens_0 : Int) (opened_0 : Int) (fault_0 : Int) (gx : Int) (k3 : 0 ≤ x3 ∧ x3 ≤ 2000) (k8 : 0 ≤ x8 ∧ x8 ≤ 0) (k9 : 0 ≤ x9 ∧ x9 ≤ 47) (k11 : 0 ≤ x11 ∧ x11 ≤ 2010) (k18 : 0 ≤ x18 ∧ x18 ≤ 2009) (g0 : x9 = styleOne_0) (f2 : SC1 (limit_0) (tokenKind_0) (tokenValue_0) (tokenPlace_0) (tokenEnd_0) (tape_0) (x18)) (f3 : (-1) * x11 + ((-1) * x18 + 0) ≤ (-2010)) (f4 : SOK (limit_0) (tokenKind_0) (tokenValue_0) (tokenPlace_0) (tokenEnd_0) (tape_0)) (f5 : (x8 = 0) → (x9 ≤ 23)) (f6 : taped_0 = x3) (f8 : ((cur_0 + 1) ≤ tokens_0) ∧ ((tokens_0 ≤ 2010) ∧ ((tokenKind_0 ((tokens_0 - 1)) = 0) ∨ (tokenKind_0 ((tokens_0 - 1)) = 4)))) (f9 : 1 * x18 + ((-1) * cur_0 + 0) ≤ 0) (f10 : 1 * opened_0 + 0 ≤ 0) (f11 : (-1) * opened_0 + 0 ≤ 0) (f12 : ((-1) * fault_0 + 0 ≤ (-1)) ∨ (1 * x18 + ((-1) * cur_0 + 0) ≤ (-1))) (f13 : RUL (fault_0) (cur_0) (limit_0) (tokenKind_0) (tokenValue_0) (tokenPlace_0) (tokenEnd_0) (tape_0) (x18)) (f15 : (-1) * x11 + ((-1) * x18 + 0) ≤ (-2010)) (f17 : x8 = 0) (hK_0_1 : ∀ j : Int, 0 ≤ j → j < 2000 → (-128) ≤ tape_0 j ∧ tape_0 j ≤ 127) (hK_0_160 : ∀ j : Int, 0 ≤ j → j < 2010 → 0 ≤ tokenKind_0 j ∧ tokenKind_0 j ≤ 4) (hK_0_162 : ∀ j : Int, 0 ≤ j → j < 2010 → 0 ≤ tokenPlace_0 j ∧ tokenPlace_0 j ≤ 2000) (hK_0_163 : ∀ j : Int, 0 ≤ j → j < 2010 → 0 ≤ tokenEnd_0 j ∧ tokenEnd_0 j ≤ 2000) (kz_0_0 : 0 ≤ taped_0 ∧ taped_0 ≤ 2000) (kz_0_8 : 0 ≤ fault_0 ∧ fault_0 ≤ 5) (kz_0_10 : 0 ≤ limit_0 ∧ limit_0 ≤ 2000) (kz_0_157 : 0 ≤ tokens_0 ∧ tokens_0 ≤ 2010) (kz_0_158 : 0 ≤ cur_0 ∧ cur_0 ≤ 2009) (kz_0_159 : 0 ≤ opened_0 ∧ opened_0 ≤ 13) (kz_0_165 : (-1) ≤ styleOne_0 ∧ styleOne_0 ≤ 47) (ex2 : gx = 0 + (1 * x11 + 0)) (ex3 : 0 ≤ gx ∧ gx ≤ 2010) : (-1) * opened_0 + 0 ≤ 0 := by
  first
    | exact (sc1_go ‹SC1 _ _ _ _ _ _ _› ‹RUL _ _ _ _ _ _ _ _ _›).1
    | (have e := (sc1_go ‹SC1 _ _ _ _ _ _ _› ‹RUL _ _ _ _ _ _ _ _ _›).1; clear f5 f8 hK_0_1 hK_0_160 hK_0_162 hK_0_163; omega)
    | (first | with_reducible assumption | ((have f8_c0 := f8.1); (have f8_c1 := f8.2.1); (have f8_c2 := f8.2.2); (try and_intros) <;> first | with_reducible assumption | (clear f8_c2 f8 f12 hK_0_1 hK_0_160 hK_0_162 hK_0_163 f5; omega)) | ((have f8_c0 := f8.1); (have f8_c1 := f8.2.1); (have f8_c2 := f8.2.2); (first | have f5_b := f5 (by clear f8_c2 f8 f12 hK_0_1 hK_0_160 hK_0_162 hK_0_163 f5; omega) | skip); (first | have f5_d := f5 (by with_reducible assumption) | skip); (try and_intros) <;> first | with_reducible assumption | (clear f8_c2 f8 f12 hK_0_1 hK_0_160 hK_0_162 hK_0_163 f5; omega)) | ((have f8_c0 := f8.1); (have f8_c1 := f8.2.1); (have f8_c2 := f8.2.2); (first | have f5_b := f5 (by clear f8_c2 f8 f12 hK_0_1 hK_0_160 hK_0_162 hK_0_163 f5; omega) | skip); (first | have f5_d := f5 (by with_reducible assumption) | skip); (first | have f8_q := tk_nx0 f8 (by clear f8_c2 f8 f12 hK_0_1 hK_0_160 hK_0_162 hK_0_163 f5; omega) | skip); (try and_intros) <;> first | with_reducible assumption | (clear f8_c2 f8 f12 hK_0_1 hK_0_160 hK_0_162 hK_0_163 f5; omega)) | ((have f8_c0 := f8.1); (have f8_c1 := f8.2.1); (have f8_c2 := f8.2.2); (first | have f5_b := f5 (by clear f8_c2 f8 f12 hK_0_1 hK_0_160 hK_0_162 hK_0_163 f5; omega) | skip); (first | have f5_d := f5 (by with_reducible assumption) | skip); (try and_intros) <;> first | with_reducible assumption | (clear f8_c2 f8 hK_0_1 hK_0_160 hK_0_162 hK_0_163 f5; omega)) | omega)
set_option maxHeartbeats 4000000 in
theorem vc_Mo_style_24_4 (x3 : Int) (x8 : Int) (x9 : Int) (x11 : Int) (x18 : Int) (styleOne_0 : Int) (tokenKind_0 : Int → Int) (tokenValue_0 : Int → Int) (tokenPlace_0 : Int → Int) (tokenEnd_0 : Int → Int) (tape_0 : Int → Int) (limit_0 : Int) (taped_0 : Int) (cur_0 : Int) (tokens_0 : Int) (opened_0 : Int) (fault_0 : Int) (gx : Int) (k3 : 0 ≤ x3 ∧ x3 ≤ 2000) (k8 : 0 ≤ x8 ∧ x8 ≤ 0) (k9 : 0 ≤ x9 ∧ x9 ≤ 47) (k11 : 0 ≤ x11 ∧ x11 ≤ 2010) (k18 : 0 ≤ x18 ∧ x18 ≤ 2009) (g0 : x9 = styleOne_0) (f2 : SC1 (limit_0) (tokenKind_0) (tokenValue_0) (tokenPlace_0) (tokenEnd_0) (tape_0) (x18)) (f3 : (-1) * x11 + ((-1) * x18 + 0) ≤ (-2010)) (f4 : SOK (limit_0) (tokenKind_0) (tokenValue_0) (tokenPlace_0) (tokenEnd_0) (tape_0)) (f5 : (x8 = 0) → (x9 ≤ 23)) (f6 : taped_0 = x3) (f8 : ((cur_0 + 1) ≤ tokens_0) ∧ ((tokens_0 ≤ 2010) ∧ ((tokenKind_0 ((tokens_0 - 1)) = 0) ∨ (tokenKind_0 ((tokens_0 - 1)) = 4)))) (f9 : 1 * x18 + ((-1) * cur_0 + 0) ≤ 0) (f10 : 1 * opened_0 + 0 ≤ 0) (f11 : (-1) * opened_0 + 0 ≤ 0) (f12 : ((-1) * fault_0 + 0 ≤ (-1)) ∨ (1 * x18 + ((-1) * cur_0 + 0) ≤ (-1))) (f13 : RUL (fault_0) (cur_0) (limit_0) (tokenKind_0) (tokenValue_0) (tokenPlace_0) (tokenEnd_0) (tape_0) (x18)) (f15 : (-1) * x11 + ((-1) * x18 + 0) ≤ (-2010)) (f17 : x8 = 0) (hK_0_1 : ∀ j : Int, 0 ≤ j → j < 2000 → (-128) ≤ tape_0 j ∧ tape_0 j ≤ 127) (hK_0_160 : ∀ j : Int, 0 ≤ j → j < 2010 → 0 ≤ tokenKind_0 j ∧ tokenKind_0 j ≤ 4) (hK_0_162 : ∀ j : Int, 0 ≤ j → j < 2010 → 0 ≤ tokenPlace_0 j ∧ tokenPlace_0 j ≤ 2000) (hK_0_163 : ∀ j : Int, 0 ≤ j → j < 2010 → 0 ≤ tokenEnd_0 j ∧ tokenEnd_0 j ≤ 2000) (kz_0_0 : 0 ≤ taped_0 ∧ taped_0 ≤ 2000) (kz_0_8 : 0 ≤ fault_0 ∧ fault_0 ≤ 5) (kz_0_10 : 0 ≤ limit_0 ∧ limit_0 ≤ 2000) (kz_0_157 : 0 ≤ tokens_0 ∧ tokens_0 ≤ 2010) (kz_0_158 : 0 ≤ cur_0 ∧ cur_0 ≤ 2009) (kz_0_159 : 0 ≤ opened_0 ∧ opened_0 ≤ 13) (kz_0_165 : (-1) ≤ styleOne_0 ∧ styleOne_0 ≤ 47) (ex2 : gx = 0 + (1 * x11 + 0)) (ex3 : 0 ≤ gx ∧ gx ≤ 2010) : SOK (limit_0) (tokenKind_0) (tokenValue_0) (tokenPlace_0) (tokenEnd_0) (tape_0) := by
  first
    | assumption
    | exact sok_of (‹SFP _ _ _ _ _ _ _ _›) (by omega) (by omega)
    | exact sok_of (‹SFP _ _ _ _ _ _ _ _›) (by omega) (by have e := (‹x7 = cur_0›); rw [← e]; omega)
    | exact sok_of (‹SFP _ _ _ _ _ _ _ _›) (by omega) (by have e := (‹x11 = cur_0›); rw [← e]; omega)
  
set_option maxHeartbeats 4000000 in
theorem vc_Mo_style_24_5 (x3 : Int) (x8 : Int) (x9 : Int) (x11 : Int) (x18 : Int) (styleOne_0 : Int) (tokenKind_0 : Int → Int) (tokenValue_0 : Int → Int) (tokenPlace_0 : Int → Int) (tokenEnd_0 : Int → Int) (tape_0 : Int → Int) (limit_0 : Int) (taped_0 : Int) (cur_0 : Int) (tokens_0 : Int) (opened_0 : Int) (fault_0 : Int) (gx : Int) (k3 : 0 ≤ x3 ∧ x3 ≤ 2000) (k8 : 0 ≤ x8 ∧ x8 ≤ 0) (k9 : 0 ≤ x9 ∧ x9 ≤ 47) (k11 : 0 ≤ x11 ∧ x11 ≤ 2010) (k18 : 0 ≤ x18 ∧ x18 ≤ 2009) (g0 : x9 = styleOne_0) (f2 : SC1 (limit_0) (tokenKind_0) (tokenValue_0) (tokenPlace_0) (tokenEnd_0) (tape_0) (x18)) (f3 : (-1) * x11 + ((-1) * x18 + 0) ≤ (-2010)) (f4 : SOK (limit_0) (tokenKind_0) (tokenValue_0) (tokenPlace_0) (tokenEnd_0) (tape_0)) (f5 : (x8 = 0) → (x9 ≤ 23)) (f6 : taped_0 = x3) (f8 : ((cur_0 + 1) ≤ tokens_0) ∧ ((tokens_0 ≤ 2010) ∧ ((tokenKind_0 ((tokens_0 - 1)) = 0) ∨ (tokenKind_0 ((tokens_0 - 1)) = 4)))) (f9 : 1 * x18 + ((-1) * cur_0 + 0) ≤ 0) (f10 : 1 * opened_0 + 0 ≤ 0) (f11 : (-1) * opened_0 + 0 ≤ 0) (f12 : ((-1) * fault_0 + 0 ≤ (-1)) ∨ (1 * x18 + ((-1) * cur_0 + 0) ≤ (-1))) (f13 : RUL (fault_0) (cur_0) (limit_0) (tokenKind_0) (tokenValue_0) (tokenPlace_0) (tokenEnd_0) (tape_0) (x18)) (f15 : (-1) * x11 + ((-1) * x18 + 0) ≤ (-2010)) (f17 : x8 = 0) (hK_0_1 : ∀ j : Int, 0 ≤ j → j < 2000 → (-128) ≤ tape_0 j ∧ tape_0 j ≤ 127) (hK_0_160 : ∀ j : Int, 0 ≤ j → j < 2010 → 0 ≤ tokenKind_0 j ∧ tokenKind_0 j ≤ 4) (hK_0_162 : ∀ j : Int, 0 ≤ j → j < 2010 → 0 ≤ tokenPlace_0 j ∧ tokenPlace_0 j ≤ 2000) (hK_0_163 : ∀ j : Int, 0 ≤ j → j < 2010 → 0 ≤ tokenEnd_0 j ∧ tokenEnd_0 j ≤ 2000) (kz_0_0 : 0 ≤ taped_0 ∧ taped_0 ≤ 2000) (kz_0_8 : 0 ≤ fault_0 ∧ fault_0 ≤ 5) (kz_0_10 : 0 ≤ limit_0 ∧ limit_0 ≤ 2000) (kz_0_157 : 0 ≤ tokens_0 ∧ tokens_0 ≤ 2010) (kz_0_158 : 0 ≤ cur_0 ∧ cur_0 ≤ 2009) (kz_0_159 : 0 ≤ opened_0 ∧ opened_0 ≤ 13) (kz_0_165 : (-1) ≤ styleOne_0 ∧ styleOne_0 ≤ 47) (ex2 : gx = 0 + (1 * x11 + 0)) (ex3 : 0 ≤ gx ∧ gx ≤ 2010) : fault_0 = 0 := by
  first
    | exact (sc1_go ‹SC1 _ _ _ _ _ _ _› ‹RUL _ _ _ _ _ _ _ _ _›).1
    | (have e := (sc1_go ‹SC1 _ _ _ _ _ _ _› ‹RUL _ _ _ _ _ _ _ _ _›).1; clear f5 f8 hK_0_1 hK_0_160 hK_0_162 hK_0_163; omega)
    | (first | with_reducible assumption | ((have f8_c0 := f8.1); (have f8_c1 := f8.2.1); (have f8_c2 := f8.2.2); (try and_intros) <;> first | with_reducible assumption | (clear f8_c2 f8 f12 hK_0_1 hK_0_160 hK_0_162 hK_0_163 f5; omega)) | ((have f8_c0 := f8.1); (have f8_c1 := f8.2.1); (have f8_c2 := f8.2.2); (first | have f5_b := f5 (by clear f8_c2 f8 f12 hK_0_1 hK_0_160 hK_0_162 hK_0_163 f5; omega) | skip); (first | have f5_d := f5 (by with_reducible assumption) | skip); (try and_intros) <;> first | with_reducible assumption | (clear f8_c2 f8 f12 hK_0_1 hK_0_160 hK_0_162 hK_0_163 f5; omega)) | ((have f8_c0 := f8.1); (have f8_c1 := f8.2.1); (have f8_c2 := f8.2.2); (first | have f5_b := f5 (by clear f8_c2 f8 f12 hK_0_1 hK_0_160 hK_0_162 hK_0_163 f5; omega) | skip); (first | have f5_d := f5 (by with_reducible assumption) | skip); (first | have f8_q := tk_nx0 f8 (by clear f8_c2 f8 f12 hK_0_1 hK_0_160 hK_0_162 hK_0_163 f5; omega) | skip); (try and_intros) <;> first | with_reducible assumption | (clear f8_c2 f8 f12 hK_0_1 hK_0_160 hK_0_162 hK_0_163 f5; omega)) | ((have f8_c0 := f8.1); (have f8_c1 := f8.2.1); (have f8_c2 := f8.2.2); (first | have f5_b := f5 (by clear f8_c2 f8 f12 hK_0_1 hK_0_160 hK_0_162 hK_0_163 f5; omega) | skip); (first | have f5_d := f5 (by with_reducible assumption) | skip); (try and_intros) <;> first | with_reducible assumption | (clear f8_c2 f8 hK_0_1 hK_0_160 hK_0_162 hK_0_163 f5; omega)) | omega)
set_option maxHeartbeats 4000000 in
theorem vc_Mo_style_24_6 (x3 : Int) (x8 : Int) (x9 : Int) (x11 : Int) (x18 : Int) (styleOne_0 : Int) (tokenKind_0 : Int → Int) (tokenValue_0 : Int → Int) (tokenPlace_0 : Int → Int) (tokenEnd_0 : Int → Int) (tape_0 : Int → Int) (limit_0 : Int) (taped_0 : Int) (cur_0 : Int) (tokens_0 : Int) (opened_0 : Int) (fault_0 : Int) (gx : Int) (k3 : 0 ≤ x3 ∧ x3 ≤ 2000) (k8 : 0 ≤ x8 ∧ x8 ≤ 0) (k9 : 0 ≤ x9 ∧ x9 ≤ 47) (k11 : 0 ≤ x11 ∧ x11 ≤ 2010) (k18 : 0 ≤ x18 ∧ x18 ≤ 2009) (g0 : x9 = styleOne_0) (f2 : SC1 (limit_0) (tokenKind_0) (tokenValue_0) (tokenPlace_0) (tokenEnd_0) (tape_0) (x18)) (f3 : (-1) * x11 + ((-1) * x18 + 0) ≤ (-2010)) (f4 : SOK (limit_0) (tokenKind_0) (tokenValue_0) (tokenPlace_0) (tokenEnd_0) (tape_0)) (f5 : (x8 = 0) → (x9 ≤ 23)) (f6 : taped_0 = x3) (f8 : ((cur_0 + 1) ≤ tokens_0) ∧ ((tokens_0 ≤ 2010) ∧ ((tokenKind_0 ((tokens_0 - 1)) = 0) ∨ (tokenKind_0 ((tokens_0 - 1)) = 4)))) (f9 : 1 * x18 + ((-1) * cur_0 + 0) ≤ 0) (f10 : 1 * opened_0 + 0 ≤ 0) (f11 : (-1) * opened_0 + 0 ≤ 0) (f12 : ((-1) * fault_0 + 0 ≤ (-1)) ∨ (1 * x18 + ((-1) * cur_0 + 0) ≤ (-1))) (f13 : RUL (fault_0) (cur_0) (limit_0) (tokenKind_0) (tokenValue_0) (tokenPlace_0) (tokenEnd_0) (tape_0) (x18)) (f15 : (-1) * x11 + ((-1) * x18 + 0) ≤ (-2010)) (f17 : x8 = 0) (hK_0_1 : ∀ j : Int, 0 ≤ j → j < 2000 → (-128) ≤ tape_0 j ∧ tape_0 j ≤ 127) (hK_0_160 : ∀ j : Int, 0 ≤ j → j < 2010 → 0 ≤ tokenKind_0 j ∧ tokenKind_0 j ≤ 4) (hK_0_162 : ∀ j : Int, 0 ≤ j → j < 2010 → 0 ≤ tokenPlace_0 j ∧ tokenPlace_0 j ≤ 2000) (hK_0_163 : ∀ j : Int, 0 ≤ j → j < 2010 → 0 ≤ tokenEnd_0 j ∧ tokenEnd_0 j ≤ 2000) (kz_0_0 : 0 ≤ taped_0 ∧ taped_0 ≤ 2000) (kz_0_8 : 0 ≤ fault_0 ∧ fault_0 ≤ 5) (kz_0_10 : 0 ≤ limit_0 ∧ limit_0 ≤ 2000) (kz_0_157 : 0 ≤ tokens_0 ∧ tokens_0 ≤ 2010) (kz_0_158 : 0 ≤ cur_0 ∧ cur_0 ≤ 2009) (kz_0_159 : 0 ≤ opened_0 ∧ opened_0 ≤ 13) (kz_0_165 : (-1) ≤ styleOne_0 ∧ styleOne_0 ≤ 47) (ex2 : gx = 0 + (1 * x11 + 0)) (ex3 : 0 ≤ gx ∧ gx ≤ 2010) : SOC (fault_0) (cur_0) (limit_0) (tokenKind_0) (tokenValue_0) (tokenPlace_0) (tokenEnd_0) (tape_0) := by
  first
    | assumption
    | exact soc_of (‹SOK _ _ _ _ _ _›) (by omega) (by omega)
    | exact sc1_go (‹SC1 _ _ _ _ _ _ _›) (‹RUL _ _ _ _ _ _ _ _ _›)
  
set_option maxHeartbeats 4000000 in
theorem vc_Mo_style_24_7 (x3 : Int) (x8 : Int) (x9 : Int) (x11 : Int) (x18 : Int) (styleOne_0 : Int) (tokenKind_0 : Int → Int) (tokenValue_0 : Int → Int) (tokenPlace_0 : Int → Int) (tokenEnd_0 : Int → Int) (tape_0 : Int → Int) (limit_0 : Int) (taped_0 : Int) (cur_0 : Int) (tokens_0 : Int) (opened_0 : Int) (fault_0 : Int) (gx : Int) (k3 : 0 ≤ x3 ∧ x3 ≤ 2000) (k8 : 0 ≤ x8 ∧ x8 ≤ 0) (k9 : 0 ≤ x9 ∧ x9 ≤ 47) (k11 : 0 ≤ x11 ∧ x11 ≤ 2010) (k18 : 0 ≤ x18 ∧ x18 ≤ 2009) (g0 : x9 = styleOne_0) (f2 : SC1 (limit_0) (tokenKind_0) (tokenValue_0) (tokenPlace_0) (tokenEnd_0) (tape_0) (x18)) (f3 : (-1) * x11 + ((-1) * x18 + 0) ≤ (-2010)) (f4 : SOK (limit_0) (tokenKind_0) (tokenValue_0) (tokenPlace_0) (tokenEnd_0) (tape_0)) (f5 : (x8 = 0) → (x9 ≤ 23)) (f6 : taped_0 = x3) (f8 : ((cur_0 + 1) ≤ tokens_0) ∧ ((tokens_0 ≤ 2010) ∧ ((tokenKind_0 ((tokens_0 - 1)) = 0) ∨ (tokenKind_0 ((tokens_0 - 1)) = 4)))) (f9 : 1 * x18 + ((-1) * cur_0 + 0) ≤ 0) (f10 : 1 * opened_0 + 0 ≤ 0) (f11 : (-1) * opened_0 + 0 ≤ 0) (f12 : ((-1) * fault_0 + 0 ≤ (-1)) ∨ (1 * x18 + ((-1) * cur_0 + 0) ≤ (-1))) (f13 : RUL (fault_0) (cur_0) (limit_0) (tokenKind_0) (tokenValue_0) (tokenPlace_0) (tokenEnd_0) (tape_0) (x18)) (f15 : (-1) * x11 + ((-1) * x18 + 0) ≤ (-2010)) (f17 : x8 = 0) (hK_0_1 : ∀ j : Int, 0 ≤ j → j < 2000 → (-128) ≤ tape_0 j ∧ tape_0 j ≤ 127) (hK_0_160 : ∀ j : Int, 0 ≤ j → j < 2010 → 0 ≤ tokenKind_0 j ∧ tokenKind_0 j ≤ 4) (hK_0_162 : ∀ j : Int, 0 ≤ j → j < 2010 → 0 ≤ tokenPlace_0 j ∧ tokenPlace_0 j ≤ 2000) (hK_0_163 : ∀ j : Int, 0 ≤ j → j < 2010 → 0 ≤ tokenEnd_0 j ∧ tokenEnd_0 j ≤ 2000) (kz_0_0 : 0 ≤ taped_0 ∧ taped_0 ≤ 2000) (kz_0_8 : 0 ≤ fault_0 ∧ fault_0 ≤ 5) (kz_0_10 : 0 ≤ limit_0 ∧ limit_0 ≤ 2000) (kz_0_157 : 0 ≤ tokens_0 ∧ tokens_0 ≤ 2010) (kz_0_158 : 0 ≤ cur_0 ∧ cur_0 ≤ 2009) (kz_0_159 : 0 ≤ opened_0 ∧ opened_0 ≤ 13) (kz_0_165 : (-1) ≤ styleOne_0 ∧ styleOne_0 ≤ 47) (ex2 : gx = 0 + (1 * x11 + 0)) (ex3 : 0 ≤ gx ∧ gx ≤ 2010) : (-1) * gx + ((-1) * cur_0 + 0) ≤ (-2011) := by
  first
    | exact (sc1_go ‹SC1 _ _ _ _ _ _ _› ‹RUL _ _ _ _ _ _ _ _ _›).1
    | (have e := (sc1_go ‹SC1 _ _ _ _ _ _ _› ‹RUL _ _ _ _ _ _ _ _ _›).1; clear f5 f8 hK_0_1 hK_0_160 hK_0_162 hK_0_163; omega)
    | (first | with_reducible assumption | ((have f8_c0 := f8.1); (have f8_c1 := f8.2.1); (have f8_c2 := f8.2.2); (try and_intros) <;> first | with_reducible assumption | (clear f8_c2 f8 f12 hK_0_1 hK_0_160 hK_0_162 hK_0_163 f5; omega)) | ((have f8_c0 := f8.1); (have f8_c1 := f8.2.1); (have f8_c2 := f8.2.2); (first | have f5_b := f5 (by clear f8_c2 f8 f12 hK_0_1 hK_0_160 hK_0_162 hK_0_163 f5; omega) | skip); (first | have f5_d := f5 (by with_reducible assumption) | skip); (try and_intros) <;> first | with_reducible assumption | (clear f8_c2 f8 f12 hK_0_1 hK_0_160 hK_0_162 hK_0_163 f5; omega)) | ((have f8_c0 := f8.1); (have f8_c1 := f8.2.1); (have f8_c2 := f8.2.2); (first | have f5_b := f5 (by clear f8_c2 f8 f12 hK_0_1 hK_0_160 hK_0_162 hK_0_163 f5; omega) | skip); (first | have f5_d := f5 (by with_reducible assumption) | skip); (first | have f8_q := tk_nx0 f8 (by clear f8_c2 f8 f12 hK_0_1 hK_0_160 hK_0_162 hK_0_163 f5; omega) | skip); (try and_intros) <;> first | with_reducible assumption | (clear f8_c2 f8 f12 hK_0_1 hK_0_160 hK_0_162 hK_0_163 f5; omega)) | ((have f8_c0 := f8.1); (have f8_c1 := f8.2.1); (have f8_c2 := f8.2.2); (first | have f5_b := f5 (by clear f8_c2 f8 f12 hK_0_1 hK_0_160 hK_0_162 hK_0_163 f5; omega) | skip); (first | have f5_d := f5 (by with_reducible assumption) | skip); (try and_intros) <;> first | with_reducible assumption | (clear f8_c2 f8 hK_0_1 hK_0_160 hK_0_162 hK_0_163 f5; omega)) | omega)
set_option maxHeartbeats 4000000 in
theorem vc_Mo_style_24_8 (x3 : Int) (x8 : Int) (x9 : Int) (x11 : Int) (x18 : Int) (styleOne_0 : Int) (tokenKind_0 : Int → Int) (tokenValue_0 : Int → Int) (tokenPlace_0 : Int → Int) (tokenEnd_0 : Int → Int) (tape_0 : Int → Int) (limit_0 : Int) (taped_0 : Int) (cur_0 : Int) (tokens_0 : Int) (opened_0 : Int) (fault_0 : Int) (gx : Int) (k3 : 0 ≤ x3 ∧ x3 ≤ 2000) (k8 : 0 ≤ x8 ∧ x8 ≤ 0) (k9 : 0 ≤ x9 ∧ x9 ≤ 47) (k11 : 0 ≤ x11 ∧ x11 ≤ 2010) (k18 : 0 ≤ x18 ∧ x18 ≤ 2009) (g0 : x9 = styleOne_0) (f2 : SC1 (limit_0) (tokenKind_0) (tokenValue_0) (tokenPlace_0) (tokenEnd_0) (tape_0) (x18)) (f3 : (-1) * x11 + ((-1) * x18 + 0) ≤ (-2010)) (f4 : SOK (limit_0) (tokenKind_0) (tokenValue_0) (tokenPlace_0) (tokenEnd_0) (tape_0)) (f5 : (x8 = 0) → (x9 ≤ 23)) (f6 : taped_0 = x3) (f8 : ((cur_0 + 1) ≤ tokens_0) ∧ ((tokens_0 ≤ 2010) ∧ ((tokenKind_0 ((tokens_0 - 1)) = 0) ∨ (tokenKind_0 ((tokens_0 - 1)) = 4)))) (f9 : 1 * x18 + ((-1) * cur_0 + 0) ≤ 0) (f10 : 1 * opened_0 + 0 ≤ 0) (f11 : (-1) * opened_0 + 0 ≤ 0) (f12 : ((-1) * fault_0 + 0 ≤ (-1)) ∨ (1 * x18 + ((-1) * cur_0 + 0) ≤ (-1))) (f13 : RUL (fault_0) (cur_0) (limit_0) (tokenKind_0) (tokenValue_0) (tokenPlace_0) (tokenEnd_0) (tape_0) (x18)) (f15 : (-1) * x11 + ((-1) * x18 + 0) ≤ (-2010)) (f17 : x8 = 0) (hK_0_1 : ∀ j : Int, 0 ≤ j → j < 2000 → (-128) ≤ tape_0 j ∧ tape_0 j ≤ 127) (hK_0_160 : ∀ j : Int, 0 ≤ j → j < 2010 → 0 ≤ tokenKind_0 j ∧ tokenKind_0 j ≤ 4) (hK_0_162 : ∀ j : Int, 0 ≤ j → j < 2010 → 0 ≤ tokenPlace_0 j ∧ tokenPlace_0 j ≤ 2000) (hK_0_163 : ∀ j : Int, 0 ≤ j → j < 2010 → 0 ≤ tokenEnd_0 j ∧ tokenEnd_0 j ≤ 2000) (kz_0_0 : 0 ≤ taped_0 ∧ taped_0 ≤ 2000) (kz_0_8 : 0 ≤ fault_0 ∧ fault_0 ≤ 5) (kz_0_10 : 0 ≤ limit_0 ∧ limit_0 ≤ 2000) (kz_0_157 : 0 ≤ tokens_0 ∧ tokens_0 ≤ 2010) (kz_0_158 : 0 ≤ cur_0 ∧ cur_0 ≤ 2009) (kz_0_159 : 0 ≤ opened_0 ∧ opened_0 ≤ 13) (kz_0_165 : (-1) ≤ styleOne_0 ∧ styleOne_0 ≤ 47) (ex2 : gx = 0 + (1 * x11 + 0)) (ex3 : 0 ≤ gx ∧ gx ≤ 2010) : taped_0 = x3 := by
  first
    | exact (sc1_go ‹SC1 _ _ _ _ _ _ _› ‹RUL _ _ _ _ _ _ _ _ _›).1
    | (have e := (sc1_go ‹SC1 _ _ _ _ _ _ _› ‹RUL _ _ _ _ _ _ _ _ _›).1; clear f5 f8 hK_0_1 hK_0_160 hK_0_162 hK_0_163; omega)
    | (first | with_reducible assumption | ((have f8_c0 := f8.1); (have f8_c1 := f8.2.1); (have f8_c2 := f8.2.2); (try and_intros) <;> first | with_reducible assumption | (clear f8_c2 f8 f12 hK_0_1 hK_0_160 hK_0_162 hK_0_163 f5; omega)) | ((have f8_c0 := f8.1); (have f8_c1 := f8.2.1); (have f8_c2 := f8.2.2); (first | have f5_b := f5 (by clear f8_c2 f8 f12 hK_0_1 hK_0_160 hK_0_162 hK_0_163 f5; omega) | skip); (first | have f5_d := f5 (by with_reducible assumption) | skip); (try and_intros) <;> first | with_reducible assumption | (clear f8_c2 f8 f12 hK_0_1 hK_0_160 hK_0_162 hK_0_163 f5; omega)) | ((have f8_c0 := f8.1); (have f8_c1 := f8.2.1); (have f8_c2 := f8.2.2); (first | have f5_b := f5 (by clear f8_c2 f8 f12 hK_0_1 hK_0_160 hK_0_162 hK_0_163 f5; omega) | skip); (first | have f5_d := f5 (by with_reducible assumption) | skip); (first | have f8_q := tk_nx0 f8 (by clear f8_c2 f8 f12 hK_0_1 hK_0_160 hK_0_162 hK_0_163 f5; omega) | skip); (try and_intros) <;> first | with_reducible assumption | (clear f8_c2 f8 f12 hK_0_1 hK_0_160 hK_0_162 hK_0_163 f5; omega)) | ((have f8_c0 := f8.1); (have f8_c1 := f8.2.1); (have f8_c2 := f8.2.2); (first | have f5_b := f5 (by clear f8_c2 f8 f12 hK_0_1 hK_0_160 hK_0_162 hK_0_163 f5; omega) | skip); (first | have f5_d := f5 (by with_reducible assumption) | skip); (try and_intros) <;> first | with_reducible assumption | (clear f8_c2 f8 hK_0_1 hK_0_160 hK_0_162 hK_0_163 f5; omega)) | omega)
def o_Mo_style_24 : or_T := (226, 19, [(0, (2, 0, 0, [165])), (3, (0, 0, 2000, [])), (4, (2, 0, 0, [165])), (8, (0, 0, 0, [])), (9, (0, 0, 47, [])), (11, (0, 0, 2010, [])), (12, (2, 0, 0, [274])), (18, (0, 0, 2009, []))], [(9, [9, 4], [165]), (9, [12, 4], [160]), (20, [4, 18], [60, 1, 5, 73, 10, 160, 161, 162, 163, 1]), (23, [11, 18], [-2010, -1, -1]), (20, [4], [60, 1, 5, 74, 10, 160, 161, 162, 163, 1]), (20, [8, 9], [50, 0, 0, 4, 6, 1, 2, 1, 0, 0, 0, 0, 2, 1, 1, 0, 23]), (20, [4, 3], [50, 1, 0, 0, 1, 3, 2, 0, 0, 1, 1]), (24, [0, 4], []), (20, [4], [50, 2, 1, 158, 157, 160, 2, 12, 0, 7, 4, 3, 2, 0, 158, 0, 1, 2, 0, 157, 2, 7, 0, 3, 2, 0, 157, 0, 2010, 3, 14, 1, 10, 3, 0, 160, 5, 3, 2, 0, 157, 0, 1, 0, 0, 1, 10, 3, 0, 160, 5, 3, 2, 0, 157, 0, 1, 0, 4]), (20, [18, 4], [30, 0, 1, 0, 0, -1, 1, 158]), (20, [4], [30, 0, 1, 1, 159]), (20, [4], [30, 0, -1, 1, 159]), (20, [4, 18, 4], [31, 1, -1, -1, 1, 8, -1, 1, 0, 0, -1, 1, 158]), (20, [4, 18], [60, 3, 5, 64, 8, 158, 10, 160, 161, 162, 163, 1]), (102, [18], [13164036458569648337239753460458804039861886925068638906788872192, 165008, 165009, 165158, 165159, 165164]), (23, [11, 18], [-2010, -1, -1]), (101, [4, 9], [165]), (8, [8], [0])], [], [(0, 0, 2010, [])], [(20, [8, 9], [50, 0, 0, 4, 6, 1, 2, 1, 0, 0, 0, 0, 2, 1, 1, 0, 23]), (20, [4], [50, 2, 1, 158, 157, 160, 2, 12, 0, 7, 4, 3, 2, 0, 158, 0, 1, 2, 0, 157, 2, 7, 0, 3, 2, 0, 157, 0, 2010, 3, 14, 1, 10, 3, 0, 160, 5, 3, 2, 0, 157, 0, 1, 0, 0, 1, 10, 3, 0, 160, 5, 3, 2, 0, 157, 0, 1, 0, 4]), (20, [4], [30, 0, 1, 1, 159]), (20, [4], [30, 0, -1, 1, 159]), (20, [4], [60, 1, 5, 74, 10, 160, 161, 162, 163, 1]), (20, [4], [50, 1, 0, 8, 1, 3, 2, 0, 8, 0, 0]), (20, [4], [60, 3, 5, 71, 8, 158, 10, 160, 161, 162, 163, 1]), (20, [19, 4], [30, -2011, -1, 0, 0, -1, 1, 158]), (20, [4, 3], [50, 1, 0, 0, 1, 3, 2, 0, 0, 1, 1]), (24, [0, 4], [])], [(19, 11, 0, 0)], [])
theorem oo_Mo_style_24 {kA : Nat → ClassId} : or_ok PRD kA GG o_Mo_style_24 := by
  refine or_mk fun A ta ws vs hD hth hl => ?_
  intro t0 r0 t3 k3 t4 r4 t8 k8 t9 k9 t11 k11 t12 r12 t18 k18 f0 f1 f2 f3 f4 f5 f6 f7 f8 f9 f10 f11 f12 f13 ta1 w1 le1 s1 f15 ta2 w2 le2 s2 f17
  replace f0 := shm_195 f0
  replace f1 := shm_327 f1
  replace f2 := shm_2313 f2
  replace f3 := shm_2314 f3
  replace f4 := shm_2306 f4
  replace f5 := shm_2312 f5
  replace f6 := shm_570 f6
  replace f7 := shm_5 f7
  replace f8 := shm_271 f8
  replace f9 := shm_281 f9
  replace f10 := shm_1029 f10
  replace f11 := shm_1030 f11
  replace f12 := shm_2268 f12
  replace f13 := shm_2269 f13
  replace f15 := shm_2314 f15
  have s2 : (∀ b j, w_el w1 b j = w_el w2 b j) ∧ ∀ b j, w_fd w1 b j = if b = v_ad (n_v vs 4) ∧ j = 165 then n_v vs 9 else w_fd w2 b j := s2.2
  replace f17 := shm_192 f17
  have q4 : n_v vs 4 = n_v vs 0 := f7.symm
  simp only [q4] at f0 f1 f2 f4 f6 f8 f9 f10 f11 f12 f13
  rw [q4] at s2
  have cr_0_1 := fdq_39 hD hth r0
  have cr_0_160 := fdq_33 hD hth r0
  have cr_0_161 := fdq_40 hD hth r0
  have cr_0_162 := fdq_41 hD hth r0
  have cr_0_163 := fdq_42 hD hth r0
  have ad_12 : v_ad (n_v vs 12) = w_ar ws (n_v vs 0) 160 := congrArg v_ad f1
  have g0 : v_iv (n_v vs 9) = w_fi ws (n_v vs 0) 165 := congrArg v_iv f0
  have hK_0_1 := elq_7 hD hth cr_0_1
  have hK_0_160 := elq_6 hD hth cr_0_160
  have hK_0_162 := elq_8 hD hth cr_0_162
  have hK_0_163 := elq_9 hD hth cr_0_163
  have kz_0_0 := fdq_148 hD hth r0
  have kz_0_8 := fdq_34 hD hth r0
  have kz_0_10 := fdq_43 hD hth r0
  have kz_0_157 := fdq_35 hD hth r0
  have kz_0_158 := fdq_36 hD hth r0
  have kz_0_159 := fdq_37 hD hth r0
  have kz_0_165 := fdq_27 hD hth r0
  obtain ⟨x, ex, hx⟩ := iv_ex (ta := ta) (lo := 0) (hi := 2010) (z := 0 + (1 * v_iv (n_v vs 11) + 0)) (by omega) (by omega) (by omega) (by omega)
  have ex2 : v_iv (Value.int x) = 0 + (1 * v_iv (n_v vs 11) + 0) := ex
  have ex3 : 0 ≤ v_iv (Value.int x) ∧ v_iv (Value.int x) ≤ 2010 := tv_rng hx
  have e_0 : n_v (vs ++ [Value.int x]) 0 = n_v vs 0 := n_v_old (by rw [hl]; decide)
  have e_3 : n_v (vs ++ [Value.int x]) 3 = n_v vs 3 := n_v_old (by rw [hl]; decide)
  have e_4 : n_v (vs ++ [Value.int x]) 4 = n_v vs 4 := n_v_old (by rw [hl]; decide)
  have e_8 : n_v (vs ++ [Value.int x]) 8 = n_v vs 8 := n_v_old (by rw [hl]; decide)
  have e_9 : n_v (vs ++ [Value.int x]) 9 = n_v vs 9 := n_v_old (by rw [hl]; decide)
  have e_19 : n_v (vs ++ [Value.int x]) 19 = Value.int x := n_v_new hl
  have nf0 : fc_1 PRD (20, [8, 9], [50, 0, 0, 4, 6, 1, 2, 1, 0, 0, 0, 0, 2, 1, 1, 0, 23]) ws (vs ++ [Value.int x]) := by
    refine ⟨nf_inA hl rfl, sgq_2312 ?_⟩
    · show (v_iv (n_v (vs ++ [Value.int x]) 8) = 0) → (v_iv (n_v (vs ++ [Value.int x]) 9) ≤ 23)
      simp only [e_8, e_9]
      exact vc_Mo_style_24_0 (v_iv (n_v vs 3)) (v_iv (n_v vs 8)) (v_iv (n_v vs 9)) (v_iv (n_v vs 11)) (v_iv (n_v vs 18)) (w_fi ws (n_v vs 0) 165) (w_ei ws (w_ar ws (n_v vs 0) 160)) (w_ei ws (w_ar ws (n_v vs 0) 161)) (w_ei ws (w_ar ws (n_v vs 0) 162)) (w_ei ws (w_ar ws (n_v vs 0) 163)) (w_ei ws (w_ar ws (n_v vs 0) 1)) (w_fi ws (n_v vs 0) 10) (w_fi ws (n_v vs 0) 0) (w_fi ws (n_v vs 0) 158) (w_fi ws (n_v vs 0) 157) (w_fi ws (n_v vs 0) 159) (w_fi ws (n_v vs 0) 8) (v_iv (Value.int x)) k3 k8 k9 k11 k18 g0 f2 f3 f4 f5 f6 f8 f9 f10 f11 f12 f13 f15 f17 hK_0_1 hK_0_160 hK_0_162 hK_0_163 kz_0_0 kz_0_8 kz_0_10 kz_0_157 kz_0_158 kz_0_159 kz_0_165 ex2 ex3
  have nf1 : fc_1 PRD (20, [4], [50, 2, 1, 158, 157, 160, 2, 12, 0, 7, 4, 3, 2, 0, 158, 0, 1, 2, 0, 157, 2, 7, 0, 3, 2, 0, 157, 0, 2010, 3, 14, 1, 10, 3, 0, 160, 5, 3, 2, 0, 157, 0, 1, 0, 0, 1, 10, 3, 0, 160, 5, 3, 2, 0, 157, 0, 1, 0, 4]) ws (vs ++ [Value.int x]) := by
    refine ⟨nf_inA hl rfl, sgq_271 ?_⟩
    · show ((w_fi ws (n_v (vs ++ [Value.int x]) 4) 158 + 1) ≤ w_fi ws (n_v (vs ++ [Value.int x]) 4) 157) ∧ ((w_fi ws (n_v (vs ++ [Value.int x]) 4) 157 ≤ 2010) ∧ ((w_ei ws (w_ar ws (n_v (vs ++ [Value.int x]) 4) 160) ((w_fi ws (n_v (vs ++ [Value.int x]) 4) 157 - 1)) = 0) ∨ (w_ei ws (w_ar ws (n_v (vs ++ [Value.int x]) 4) 160) ((w_fi ws (n_v (vs ++ [Value.int x]) 4) 157 - 1)) = 4)))
      simp only [e_4, q4]
      exact vc_Mo_style_24_1 (v_iv (n_v vs 3)) (v_iv (n_v vs 8)) (v_iv (n_v vs 9)) (v_iv (n_v vs 11)) (v_iv (n_v vs 18)) (w_fi ws (n_v vs 0) 165) (w_ei ws (w_ar ws (n_v vs 0) 160)) (w_ei ws (w_ar ws (n_v vs 0) 161)) (w_ei ws (w_ar ws (n_v vs 0) 162)) (w_ei ws (w_ar ws (n_v vs 0) 163)) (w_ei ws (w_ar ws (n_v vs 0) 1)) (w_fi ws (n_v vs 0) 10) (w_fi ws (n_v vs 0) 0) (w_fi ws (n_v vs 0) 158) (w_fi ws (n_v vs 0) 157) (w_fi ws (n_v vs 0) 159) (w_fi ws (n_v vs 0) 8) (v_iv (Value.int x)) k3 k8 k9 k11 k18 g0 f2 f3 f4 f5 f6 f8 f9 f10 f11 f12 f13 f15 f17 hK_0_1 hK_0_160 hK_0_162 hK_0_163 kz_0_0 kz_0_8 kz_0_10 kz_0_157 kz_0_158 kz_0_159 kz_0_165 ex2 ex3
  have nf2 : fc_1 PRD (20, [4], [30, 0, 1, 1, 159]) ws (vs ++ [Value.int x]) := by
    refine ⟨nf_inA hl rfl, sgq_1029 ?_⟩
    · show 1 * w_fi ws (n_v (vs ++ [Value.int x]) 4) 159 + 0 ≤ 0
      simp only [e_4, q4]
      exact vc_Mo_style_24_2 (v_iv (n_v vs 3)) (v_iv (n_v vs 8)) (v_iv (n_v vs 9)) (v_iv (n_v vs 11)) (v_iv (n_v vs 18)) (w_fi ws (n_v vs 0) 165) (w_ei ws (w_ar ws (n_v vs 0) 160)) (w_ei ws (w_ar ws (n_v vs 0) 161)) (w_ei ws (w_ar ws (n_v vs 0) 162)) (w_ei ws (w_ar ws (n_v vs 0) 163)) (w_ei ws (w_ar ws (n_v vs 0) 1)) (w_fi ws (n_v vs 0) 10) (w_fi ws (n_v vs 0) 0) (w_fi ws (n_v vs 0) 158) (w_fi ws (n_v vs 0) 157) (w_fi ws (n_v vs 0) 159) (w_fi ws (n_v vs 0) 8) (v_iv (Value.int x)) k3 k8 k9 k11 k18 g0 f2 f3 f4 f5 f6 f8 f9 f10 f11 f12 f13 f15 f17 hK_0_1 hK_0_160 hK_0_162 hK_0_163 kz_0_0 kz_0_8 kz_0_10 kz_0_157 kz_0_158 kz_0_159 kz_0_165 ex2 ex3
  have nf3 : fc_1 PRD (20, [4], [30, 0, -1, 1, 159]) ws (vs ++ [Value.int x]) := by
    refine ⟨nf_inA hl rfl, sgq_1030 ?_⟩
    · show (-1) * w_fi ws (n_v (vs ++ [Value.int x]) 4) 159 + 0 ≤ 0
      simp only [e_4, q4]
      exact vc_Mo_style_24_3 (v_iv (n_v vs 3)) (v_iv (n_v vs 8)) (v_iv (n_v vs 9)) (v_iv (n_v vs 11)) (v_iv (n_v vs 18)) (w_fi ws (n_v vs 0) 165) (w_ei ws (w_ar ws (n_v vs 0) 160)) (w_ei ws (w_ar ws (n_v vs 0) 161)) (w_ei ws (w_ar ws (n_v vs 0) 162)) (w_ei ws (w_ar ws (n_v vs 0) 163)) (w_ei ws (w_ar ws (n_v vs 0) 1)) (w_fi ws (n_v vs 0) 10) (w_fi ws (n_v vs 0) 0) (w_fi ws (n_v vs 0) 158) (w_fi ws (n_v vs 0) 157) (w_fi ws (n_v vs 0) 159) (w_fi ws (n_v vs 0) 8) (v_iv (Value.int x)) k3 k8 k9 k11 k18 g0 f2 f3 f4 f5 f6 f8 f9 f10 f11 f12 f13 f15 f17 hK_0_1 hK_0_160 hK_0_162 hK_0_163 kz_0_0 kz_0_8 kz_0_10 kz_0_157 kz_0_158 kz_0_159 kz_0_165 ex2 ex3
  have nf4 : fc_1 PRD (20, [4], [60, 1, 5, 74, 10, 160, 161, 162, 163, 1]) ws (vs ++ [Value.int x]) := by
    refine ⟨nf_inA hl rfl, sgq_2306 ?_⟩
    · show SOK (w_fi ws (n_v (vs ++ [Value.int x]) 4) 10) (w_ei ws (w_ar ws (n_v (vs ++ [Value.int x]) 4) 160)) (w_ei ws (w_ar ws (n_v (vs ++ [Value.int x]) 4) 161)) (w_ei ws (w_ar ws (n_v (vs ++ [Value.int x]) 4) 162)) (w_ei ws (w_ar ws (n_v (vs ++ [Value.int x]) 4) 163)) (w_ei ws (w_ar ws (n_v (vs ++ [Value.int x]) 4) 1))
      simp only [e_4, q4]
      exact vc_Mo_style_24_4 (v_iv (n_v vs 3)) (v_iv (n_v vs 8)) (v_iv (n_v vs 9)) (v_iv (n_v vs 11)) (v_iv (n_v vs 18)) (w_fi ws (n_v vs 0) 165) (w_ei ws (w_ar ws (n_v vs 0) 160)) (w_ei ws (w_ar ws (n_v vs 0) 161)) (w_ei ws (w_ar ws (n_v vs 0) 162)) (w_ei ws (w_ar ws (n_v vs 0) 163)) (w_ei ws (w_ar ws (n_v vs 0) 1)) (w_fi ws (n_v vs 0) 10) (w_fi ws (n_v vs 0) 0) (w_fi ws (n_v vs 0) 158) (w_fi ws (n_v vs 0) 157) (w_fi ws (n_v vs 0) 159) (w_fi ws (n_v vs 0) 8) (v_iv (Value.int x)) k3 k8 k9 k11 k18 g0 f2 f3 f4 f5 f6 f8 f9 f10 f11 f12 f13 f15 f17 hK_0_1 hK_0_160 hK_0_162 hK_0_163 kz_0_0 kz_0_8 kz_0_10 kz_0_157 kz_0_158 kz_0_159 kz_0_165 ex2 ex3
  have nf5 : fc_1 PRD (20, [4], [50, 1, 0, 8, 1, 3, 2, 0, 8, 0, 0]) ws (vs ++ [Value.int x]) := by
    refine ⟨nf_inA hl rfl, sgq_2156 ?_⟩
    · show w_fi ws (n_v (vs ++ [Value.int x]) 4) 8 = 0
      simp only [e_4, q4]
      exact vc_Mo_style_24_5 (v_iv (n_v vs 3)) (v_iv (n_v vs 8)) (v_iv (n_v vs 9)) (v_iv (n_v vs 11)) (v_iv (n_v vs 18)) (w_fi ws (n_v vs 0) 165) (w_ei ws (w_ar ws (n_v vs 0) 160)) (w_ei ws (w_ar ws (n_v vs 0) 161)) (w_ei ws (w_ar ws (n_v vs 0) 162)) (w_ei ws (w_ar ws (n_v vs 0) 163)) (w_ei ws (w_ar ws (n_v vs 0) 1)) (w_fi ws (n_v vs 0) 10) (w_fi ws (n_v vs 0) 0) (w_fi ws (n_v vs 0) 158) (w_fi ws (n_v vs 0) 157) (w_fi ws (n_v vs 0) 159) (w_fi ws (n_v vs 0) 8) (v_iv (Value.int x)) k3 k8 k9 k11 k18 g0 f2 f3 f4 f5 f6 f8 f9 f10 f11 f12 f13 f15 f17 hK_0_1 hK_0_160 hK_0_162 hK_0_163 kz_0_0 kz_0_8 kz_0_10 kz_0_157 kz_0_158 kz_0_159 kz_0_165 ex2 ex3
  have nf6 : fc_1 PRD (20, [4], [60, 3, 5, 71, 8, 158, 10, 160, 161, 162, 163, 1]) ws (vs ++ [Value.int x]) := by
    refine ⟨nf_inA hl rfl, sgq_2311 ?_⟩
    · show SOC (w_fi ws (n_v (vs ++ [Value.int x]) 4) 8) (w_fi ws (n_v (vs ++ [Value.int x]) 4) 158) (w_fi ws (n_v (vs ++ [Value.int x]) 4) 10) (w_ei ws (w_ar ws (n_v (vs ++ [Value.int x]) 4) 160)) (w_ei ws (w_ar ws (n_v (vs ++ [Value.int x]) 4) 161)) (w_ei ws (w_ar ws (n_v (vs ++ [Value.int x]) 4) 162)) (w_ei ws (w_ar ws (n_v (vs ++ [Value.int x]) 4) 163)) (w_ei ws (w_ar ws (n_v (vs ++ [Value.int x]) 4) 1))
      simp only [e_4, q4]
      exact vc_Mo_style_24_6 (v_iv (n_v vs 3)) (v_iv (n_v vs 8)) (v_iv (n_v vs 9)) (v_iv (n_v vs 11)) (v_iv (n_v vs 18)) (w_fi ws (n_v vs 0) 165) (w_ei ws (w_ar ws (n_v vs 0) 160)) (w_ei ws (w_ar ws (n_v vs 0) 161)) (w_ei ws (w_ar ws (n_v vs 0) 162)) (w_ei ws (w_ar ws (n_v vs 0) 163)) (w_ei ws (w_ar ws (n_v vs 0) 1)) (w_fi ws (n_v vs 0) 10) (w_fi ws (n_v vs 0) 0) (w_fi ws (n_v vs 0) 158) (w_fi ws (n_v vs 0) 157) (w_fi ws (n_v vs 0) 159) (w_fi ws (n_v vs 0) 8) (v_iv (Value.int x)) k3 k8 k9 k11 k18 g0 f2 f3 f4 f5 f6 f8 f9 f10 f11 f12 f13 f15 f17 hK_0_1 hK_0_160 hK_0_162 hK_0_163 kz_0_0 kz_0_8 kz_0_10 kz_0_157 kz_0_158 kz_0_159 kz_0_165 ex2 ex3
  have nf7 : fc_1 PRD (20, [19, 4], [30, -2011, -1, 0, 0, -1, 1, 158]) ws (vs ++ [Value.int x]) := by
    refine ⟨nf_inA hl rfl, sgq_292 ?_⟩
    · show (-1) * v_iv (n_v (vs ++ [Value.int x]) 19) + ((-1) * w_fi ws (n_v (vs ++ [Value.int x]) 4) 158 + 0) ≤ (-2011)
      simp only [e_4, e_19, q4]
      exact vc_Mo_style_24_7 (v_iv (n_v vs 3)) (v_iv (n_v vs 8)) (v_iv (n_v vs 9)) (v_iv (n_v vs 11)) (v_iv (n_v vs 18)) (w_fi ws (n_v vs 0) 165) (w_ei ws (w_ar ws (n_v vs 0) 160)) (w_ei ws (w_ar ws (n_v vs 0) 161)) (w_ei ws (w_ar ws (n_v vs 0) 162)) (w_ei ws (w_ar ws (n_v vs 0) 163)) (w_ei ws (w_ar ws (n_v vs 0) 1)) (w_fi ws (n_v vs 0) 10) (w_fi ws (n_v vs 0) 0) (w_fi ws (n_v vs 0) 158) (w_fi ws (n_v vs 0) 157) (w_fi ws (n_v vs 0) 159) (w_fi ws (n_v vs 0) 8) (v_iv (Value.int x)) k3 k8 k9 k11 k18 g0 f2 f3 f4 f5 f6 f8 f9 f10 f11 f12 f13 f15 f17 hK_0_1 hK_0_160 hK_0_162 hK_0_163 kz_0_0 kz_0_8 kz_0_10 kz_0_157 kz_0_158 kz_0_159 kz_0_165 ex2 ex3
  have nf8 : fc_1 PRD (20, [4, 3], [50, 1, 0, 0, 1, 3, 2, 0, 0, 1, 1]) ws (vs ++ [Value.int x]) := by
    refine ⟨nf_inA hl rfl, sgq_570 ?_⟩
    · show w_fi ws (n_v (vs ++ [Value.int x]) 4) 0 = v_iv (n_v (vs ++ [Value.int x]) 3)
      simp only [e_3, e_4, q4]
      exact vc_Mo_style_24_8 (v_iv (n_v vs 3)) (v_iv (n_v vs 8)) (v_iv (n_v vs 9)) (v_iv (n_v vs 11)) (v_iv (n_v vs 18)) (w_fi ws (n_v vs 0) 165) (w_ei ws (w_ar ws (n_v vs 0) 160)) (w_ei ws (w_ar ws (n_v vs 0) 161)) (w_ei ws (w_ar ws (n_v vs 0) 162)) (w_ei ws (w_ar ws (n_v vs 0) 163)) (w_ei ws (w_ar ws (n_v vs 0) 1)) (w_fi ws (n_v vs 0) 10) (w_fi ws (n_v vs 0) 0) (w_fi ws (n_v vs 0) 158) (w_fi ws (n_v vs 0) 157) (w_fi ws (n_v vs 0) 159) (w_fi ws (n_v vs 0) 8) (v_iv (Value.int x)) k3 k8 k9 k11 k18 g0 f2 f3 f4 f5 f6 f8 f9 f10 f11 f12 f13 f15 f17 hK_0_1 hK_0_160 hK_0_162 hK_0_163 kz_0_0 kz_0_8 kz_0_10 kz_0_157 kz_0_158 kz_0_159 kz_0_165 ex2 ex3
  have nf9 : fc_1 PRD (24, [0, 4], []) ws (vs ++ [Value.int x]) := by
    refine ⟨nf_inA hl rfl, sgq_5 ?_⟩
    · show n_v (vs ++ [Value.int x]) 0 = n_v (vs ++ [Value.int x]) 4
      first | rfl | simp only [e_0, e_4, q4]
  obtain ⟨x0, e0, _, _⟩ := tv_int t11 rfl
  have e1 : v_iv (n_v vs 11) = x0.toInt := by rw [e0]; rfl
  have ho : sy_ofs (vs ++ [Value.int x]) (19, 11, 0, 0) := by
    refine ⟨x, x0, by rw [List.getElem?_append_right (by rw [hl]; decide), hl]; rfl, ?_, ?_, ?_⟩
    · rw [List.getElem?_append_left (by rw [hl]; decide)]; exact n_v_some (by rw [hl]; decide) e0
    · show x0.toInt + 0 ≤ x.toInt; omega
    · show x.toInt ≤ x0.toInt + 0; omega
  exact ⟨(fun _ h => (by cases h)), [Value.int x], ag_one hx, List.forall_mem_cons.mpr ⟨⟨show (20 : Nat) < 100 from by decide, nf0⟩, List.forall_mem_cons.mpr ⟨⟨show (20 : Nat) < 100 from by decide, nf1⟩, List.forall_mem_cons.mpr ⟨⟨show (20 : Nat) < 100 from by decide, nf2⟩, List.forall_mem_cons.mpr ⟨⟨show (20 : Nat) < 100 from by decide, nf3⟩, List.forall_mem_cons.mpr ⟨⟨show (20 : Nat) < 100 from by decide, nf4⟩, List.forall_mem_cons.mpr ⟨⟨show (20 : Nat) < 100 from by decide, nf5⟩, List.forall_mem_cons.mpr ⟨⟨show (20 : Nat) < 100 from by decide, nf6⟩, List.forall_mem_cons.mpr ⟨⟨show (20 : Nat) < 100 from by decide, nf7⟩, List.forall_mem_cons.mpr ⟨⟨show (20 : Nat) < 100 from by decide, nf8⟩, List.forall_mem_cons.mpr ⟨⟨show (24 : Nat) < 100 from by decide, nf9⟩, (fun _ h => (by cases h))⟩⟩⟩⟩⟩⟩⟩⟩⟩⟩, List.forall_mem_cons.mpr ⟨ho, (fun _ h => (by cases h))⟩⟩
set_option maxHeartbeats 4000000 in
theorem vc_Mo_style_25_0 (x3 : Int) (x8 : Int) (x9 : Int) (x11 : Int) (tokenKind_0 : Int → Int) (cur_0 : Int) (tokens_0 : Int) (opened_0 : Int) (tokenValue_0 : Int → Int) (tokenPlace_0 : Int → Int) (tokenEnd_0 : Int → Int) (tape_0 : Int → Int) (limit_0 : Int) (fault_0 : Int) (taped_0 : Int) (gx : Int) (k3 : 0 ≤ x3 ∧ x3 ≤ 2000) (k8 : 0 ≤ x8 ∧ x8 ≤ 1) (k9 : 0 ≤ x9 ∧ x9 ≤ 47) (k11 : 0 ≤ x11 ∧ x11 ≤ 2010) (f0 : (x8 = 0) → (x9 ≤ 23)) (f1 : ((cur_0 + 1) ≤ tokens_0) ∧ ((tokens_0 ≤ 2010) ∧ ((tokenKind_0 ((tokens_0 - 1)) = 0) ∨ (tokenKind_0 ((tokens_0 - 1)) = 4)))) (f2 : 1 * opened_0 + 0 ≤ 0) (f3 : (-1) * opened_0 + 0 ≤ 0) (f4 : SOK (limit_0) (tokenKind_0) (tokenValue_0) (tokenPlace_0) (tokenEnd_0) (tape_0)) (f5 : fault_0 = 0) (f6 : SOC (fault_0) (cur_0) (limit_0) (tokenKind_0) (tokenValue_0) (tokenPlace_0) (tokenEnd_0) (tape_0)) (f7 : (-1) * x11 + ((-1) * cur_0 + 0) ≤ (-2011)) (f8 : taped_0 = x3) (hK_0_1 : ∀ j : Int, 0 ≤ j → j < 2000 → (-128) ≤ tape_0 j ∧ tape_0 j ≤ 127) (hK_0_160 : ∀ j : Int, 0 ≤ j → j < 2010 → 0 ≤ tokenKind_0 j ∧ tokenKind_0 j ≤ 4) (hK_0_162 : ∀ j : Int, 0 ≤ j → j < 2010 → 0 ≤ tokenPlace_0 j ∧ tokenPlace_0 j ≤ 2000) (hK_0_163 : ∀ j : Int, 0 ≤ j → j < 2010 → 0 ≤ tokenEnd_0 j ∧ tokenEnd_0 j ≤ 2000) (kz_0_0 : 0 ≤ taped_0 ∧ taped_0 ≤ 2000) (kz_0_8 : 0 ≤ fault_0 ∧ fault_0 ≤ 5) (kz_0_10 : 0 ≤ limit_0 ∧ limit_0 ≤ 2000) (kz_0_157 : 0 ≤ tokens_0 ∧ tokens_0 ≤ 2010) (kz_0_158 : 0 ≤ cur_0 ∧ cur_0 ≤ 2009) (kz_0_159 : 0 ≤ opened_0 ∧ opened_0 ≤ 13) (ex2 : gx = 2010 + ((-1) * cur_0 + 0)) (ex3 : 0 ≤ gx ∧ gx ≤ 2010) : ((cur_0 + 1) ≤ tokens_0) ∧ ((tokens_0 ≤ 2010) ∧ ((tokenKind_0 ((tokens_0 - 1)) = 0) ∨ (tokenKind_0 ((tokens_0 - 1)) = 4))) := by
  first | with_reducible assumption | ((have f1_c0 := f1.1); (have f1_c1 := f1.2.1); (have f1_c2 := f1.2.2); (try and_intros) <;> first | with_reducible assumption | (clear f1_c2 f1 hK_0_1 hK_0_160 hK_0_162 hK_0_163 f0; omega)) | ((have f1_c0 := f1.1); (have f1_c1 := f1.2.1); (have f1_c2 := f1.2.2); (first | have f0_b := f0 (by clear f1_c2 f1 hK_0_1 hK_0_160 hK_0_162 hK_0_163 f0; omega) | skip); (first | have f0_d := f0 (by with_reducible assumption) | skip); (try and_intros) <;> first | with_reducible assumption | (clear f1_c2 f1 hK_0_1 hK_0_160 hK_0_162 hK_0_163 f0; omega)) | ((have f1_c0 := f1.1); (have f1_c1 := f1.2.1); (have f1_c2 := f1.2.2); (first | have f0_b := f0 (by clear f1_c2 f1 hK_0_1 hK_0_160 hK_0_162 hK_0_163 f0; omega) | skip); (first | have f0_d := f0 (by with_reducible assumption) | skip); (first | have f1_q := tk_nx0 f1 (by clear f1_c2 f1 hK_0_1 hK_0_160 hK_0_162 hK_0_163 f0; omega) | skip); (try and_intros) <;> first | with_reducible assumption | (clear f1_c2 f1 hK_0_1 hK_0_160 hK_0_162 hK_0_163 f0; omega)) | omega
set_option maxHeartbeats 4000000 in
theorem vc_Mo_style_25_1 (x3 : Int) (x8 : Int) (x9 : Int) (x11 : Int) (tokenKind_0 : Int → Int) (cur_0 : Int) (tokens_0 : Int) (opened_0 : Int) (tokenValue_0 : Int → Int) (tokenPlace_0 : Int → Int) (tokenEnd_0 : Int → Int) (tape_0 : Int → Int) (limit_0 : Int) (fault_0 : Int) (taped_0 : Int) (gx : Int) (k3 : 0 ≤ x3 ∧ x3 ≤ 2000) (k8 : 0 ≤ x8 ∧ x8 ≤ 1) (k9 : 0 ≤ x9 ∧ x9 ≤ 47) (k11 : 0 ≤ x11 ∧ x11 ≤ 2010) (f0 : (x8 = 0) → (x9 ≤ 23)) (f1 : ((cur_0 + 1) ≤ tokens_0) ∧ ((tokens_0 ≤ 2010) ∧ ((tokenKind_0 ((tokens_0 - 1)) = 0) ∨ (tokenKind_0 ((tokens_0 - 1)) = 4)))) (f2 : 1 * opened_0 + 0 ≤ 0) (f3 : (-1) * opened_0 + 0 ≤ 0) (f4 : SOK (limit_0) (tokenKind_0) (tokenValue_0) (tokenPlace_0) (tokenEnd_0) (tape_0)) (f5 : fault_0 = 0) (f6 : SOC (fault_0) (cur_0) (limit_0) (tokenKind_0) (tokenValue_0) (tokenPlace_0) (tokenEnd_0) (tape_0)) (f7 : (-1) * x11 + ((-1) * cur_0 + 0) ≤ (-2011)) (f8 : taped_0 = x3) (hK_0_1 : ∀ j : Int, 0 ≤ j → j < 2000 → (-128) ≤ tape_0 j ∧ tape_0 j ≤ 127) (hK_0_160 : ∀ j : Int, 0 ≤ j → j < 2010 → 0 ≤ tokenKind_0 j ∧ tokenKind_0 j ≤ 4) (hK_0_162 : ∀ j : Int, 0 ≤ j → j < 2010 → 0 ≤ tokenPlace_0 j ∧ tokenPlace_0 j ≤ 2000) (hK_0_163 : ∀ j : Int, 0 ≤ j → j < 2010 → 0 ≤ tokenEnd_0 j ∧ tokenEnd_0 j ≤ 2000) (kz_0_0 : 0 ≤ taped_0 ∧ taped_0 ≤ 2000) (kz_0_8 : 0 ≤ fault_0 ∧ fault_0 ≤ 5) (kz_0_10 : 0 ≤ limit_0 ∧ limit_0 ≤ 2000) (kz_0_157 : 0 ≤ tokens_0 ∧ tokens_0 ≤ 2010) (kz_0_158 : 0 ≤ cur_0 ∧ cur_0 ≤ 2009) (kz_0_159 : 0 ≤ opened_0 ∧ opened_0 ≤ 13) (ex2 : gx = 2010 + ((-1) * cur_0 + 0)) (ex3 : 0 ≤ gx ∧ gx ≤ 2010) : 1 * opened_0 + 0 ≤ 0 := by
  first | with_reducible assumption | ((have f1_c0 := f1.1); (have f1_c1 := f1.2.1); (have f1_c2 := f1.2.2); (try and_intros) <;> first | with_reducible assumption | (clear f1_c2 f1 hK_0_1 hK_0_160 hK_0_162 hK_0_163 f0; omega)) | ((have f1_c0 := f1.1); (have f1_c1 := f1.2.1); (have f1_c2 := f1.2.2); (first | have f0_b := f0 (by clear f1_c2 f1 hK_0_1 hK_0_160 hK_0_162 hK_0_163 f0; omega) | skip); (first | have f0_d := f0 (by with_reducible assumption) | skip); (try and_intros) <;> first | with_reducible assumption | (clear f1_c2 f1 hK_0_1 hK_0_160 hK_0_162 hK_0_163 f0; omega)) | ((have f1_c0 := f1.1); (have f1_c1 := f1.2.1); (have f1_c2 := f1.2.2); (first | have f0_b := f0 (by clear f1_c2 f1 hK_0_1 hK_0_160 hK_0_162 hK_0_163 f0; omega) | skip); (first | have f0_d := f0 (by with_reducible assumption) | skip); (first | have f1_q := tk_nx0 f1 (by clear f1_c2 f1 hK_0_1 hK_0_160 hK_0_162 hK_0_163 f0; omega) | skip); (try and_intros) <;> first | with_reducible assumption | (clear f1_c2 f1 hK_0_1 hK_0_160 hK_0_162 hK_0_163 f0; omega)) | omega
set_option maxHeartbeats 4000000 in
theorem vc_Mo_style_25_2 (x3 : Int) (x8 : Int) (x9 : Int) (x11 : Int) (tokenKind_0 : Int → Int) (cur_0 : Int) (tokens_0 : Int) (opened_0 : Int) (tokenValue_0 : Int → Int) (tokenPlace_0 : Int → Int) (tokenEnd_0 : Int → Int) (tape_0 : Int → Int) (limit_0 : Int) (fault_0 : Int) (taped_0 : Int) (gx : Int) (k3 : 0 ≤ x3 ∧ x3 ≤ 2000) (k8 : 0 ≤ x8 ∧ x8 ≤ 1) (k9 : 0 ≤ x9 ∧ x9 ≤ 47) (k11 : 0 ≤ x11 ∧ x11 ≤ 2010) (f0 : (x8 = 0) → (x9 ≤ 23)) (f1 : ((cur_0 + 1) ≤ tokens_0) ∧ ((tokens_0 ≤ 2010) ∧ ((tokenKind_0 ((tokens_0 - 1)) = 0) ∨ (tokenKind_0 ((tokens_0 - 1)) = 4)))) (f2 : 1 * opened_0 + 0 ≤ 0) (f3 : (-1) * opened_0 + 0 ≤ 0) (f4 : SOK (limit_0) (tokenKind_0) (tokenValue_0) (tokenPlace_0) (tokenEnd_0) (tape_0)) (f5 : fault_0 = 0) (f6 : SOC (fault_0) (cur_0) (limit_0) (tokenKind_0) (tokenValue_0) (tokenPlace_0) (tokenEnd_0) (tape_0)) (f7 : (-1) * x11 + ((-1) * cur_0 + 0) ≤ (-2011)) (f8 : taped_0 = x3) (hK_0_1 : ∀ j : Int, 0 ≤ j → j < 2000 → (-128) ≤ tape_0 j ∧ tape_0 j ≤ 127) (hK_0_160 : ∀ j : Int, 0 ≤ j → j < 2010 → 0 ≤ tokenKind_0 j ∧ tokenKind_0 j ≤ 4) (hK_0_162 : ∀ j : Int, 0 ≤ j → j < 2010 → 0 ≤ tokenPlace_0 j ∧ tokenPlace_0 j ≤ 2000) (hK_0_163 : ∀ j : Int, 0 ≤ j → j < 2010 → 0 ≤ tokenEnd_0 j ∧ tokenEnd_0 j ≤ 2000) (kz_0_0 : 0 ≤ taped_0 ∧ taped_0 ≤ 2000) (kz_0_8 : 0 ≤ fault_0 ∧ fault_0 ≤ 5) (kz_0_10 : 0 ≤ limit_0 ∧ limit_0 ≤ 2000) (kz_0_157 : 0 ≤ tokens_0 ∧ tokens_0 ≤ 2010) (kz_0_158 : 0 ≤ cur_0 ∧ cur_0 ≤ 2009) (kz_0_159 : 0 ≤ opened_0 ∧ opened_0 ≤ 13) (ex2 : gx = 2010 + ((-1) * cur_0 + 0)) (ex3 : 0 ≤ gx ∧ gx ≤ 2010) : (-1) * opened_0 + 0 ≤ 0 := by
  first | with_reducible assumption | ((have f1_c0 := f1.1); (have f1_c1 := f1.2.1); (have f1_c2 := f1.2.2); (try and_intros) <;> first | with_reducible assumption | (clear f1_c2 f1 hK_0_1 hK_0_160 hK_0_162 hK_0_163 f0; omega)) | ((have f1_c0 := f1.1); (have f1_c1 := f1.2.1); (have f1_c2 := f1.2.2); (first | have f0_b := f0 (by clear f1_c2 f1 hK_0_1 hK_0_160 hK_0_162 hK_0_163 f0; omega) | skip); (first | have f0_d := f0 (by with_reducible assumption) | skip); (try and_intros) <;> first | with_reducible assumption | (clear f1_c2 f1 hK_0_1 hK_0_160 hK_0_162 hK_0_163 f0; omega)) | ((have f1_c0 := f1.1); (have f1_c1 := f1.2.1); (have f1_c2 := f1.2.2); (first | have f0_b := f0 (by clear f1_c2 f1 hK_0_1 hK_0_160 hK_0_162 hK_0_163 f0; omega) | skip); (first | have f0_d := f0 (by with_reducible assumption) | skip); (first | have f1_q := tk_nx0 f1 (by clear f1_c2 f1 hK_0_1 hK_0_160 hK_0_162 hK_0_163 f0; omega) | skip); (try and_intros) <;> first | with_reducible assumption | (clear f1_c2 f1 hK_0_1 hK_0_160 hK_0_162 hK_0_163 f0; omega)) | omega
set_option maxHeartbeats 4000000 in
theorem vc_Mo_style_25_3 (x3 : Int) (x8 : Int) (x9 : Int) (x11 : Int) (tokenKind_0 : Int → Int) (cur_0 : Int) (tokens_0 : Int) (opened_0 : Int) (tokenValue_0 : Int → Int) (tokenPlace_0 : Int → Int) (tokenEnd_0 : Int → Int) (tape_0 : Int → Int) (limit_0 : Int) (fault_0 : Int) (taped_0 : Int) (gx : Int) (k3 : 0 ≤ x3 ∧ x3 ≤ 2000) (k8 : 0 ≤ x8 ∧ x8 ≤ 1) (k9 : 0 ≤ x9 ∧ x9 ≤ 47) (k11 : 0 ≤ x11 ∧ x11 ≤ 2010) (f0 : (x8 = 0) → (x9 ≤ 23)) (f1 : ((cur_0 + 1) ≤ tokens_0) ∧ ((tokens_0 ≤ 2010) ∧ ((tokenKind_0 ((tokens_0 - 1)) = 0) ∨ (tokenKind_0 ((tokens_0 - 1)) = 4)))) (f2 : 1 * opened_0 + 0 ≤ 0) (f3 : (-1) * opened_0 + 0 ≤ 0) (f4 : SOK (limit_0) (tokenKind_0) (tokenValue_0) (tokenPlace_0) (tokenEnd_0) (tape_0)) (f5 : fault_0 = 0) (f6 : SOC (fault_0) (cur_0) (limit_0) (tokenKind_0) (tokenValue_0) (tokenPlace_0) (tokenEnd_0) (tape_0)) (f7 : (-1) * x11 + ((-1) * cur_0 + 0) ≤ (-2011)) (f8 : taped_0 = x3) (hK_0_1 : ∀ j : Int, 0 ≤ j → j < 2000 → (-128) ≤ tape_0 j ∧ tape_0 j ≤ 127) (hK_0_160 : ∀ j : Int, 0 ≤ j → j < 2010 → 0 ≤ tokenKind_0 j ∧ tokenKind_0 j ≤ 4) (hK_0_162 : ∀ j : Int, 0 ≤ j → j < 2010 → 0 ≤ tokenPlace_0 j ∧ tokenPlace_0 j ≤ 2000) (hK_0_163 : ∀ j : Int, 0 ≤ j → j < 2010 → 0 ≤ tokenEnd_0 j ∧ tokenEnd_0 j ≤ 2000) (kz_0_0 : 0 ≤ taped_0 ∧ taped_0 ≤ 2000) (kz_0_8 : 0 ≤ fault_0 ∧ fault_0 ≤ 5) (kz_0_10 : 0 ≤ limit_0 ∧ limit_0 ≤ 2000) (kz_0_157 : 0 ≤ tokens_0 ∧ tokens_0 ≤ 2010) (kz_0_158 : 0 ≤ cur_0 ∧ cur_0 ≤ 2009) (kz_0_159 : 0 ≤ opened_0 ∧ opened_0 ≤ 13) (ex2 : gx = 2010 + ((-1) * cur_0 + 0)) (ex3 : 0 ≤ gx ∧ gx ≤ 2010) : SOK (limit_0) (tokenKind_0) (tokenValue_0) (tokenPlace_0) (tokenEnd_0) (tape_0) := by
  first
    | assumption
    | exact sok_of (‹SFP _ _ _ _ _ _ _ _›) (by omega) (by omega)
    | exact sok_of (‹SFP _ _ _ _ _ _ _ _›) (by omega) (by have e := (‹x7 = cur_0›); rw [← e]; omega)
    | exact sok_of (‹SFP _ _ _ _ _ _ _ _›) (by omega) (by have e := (‹x11 = cur_0›); rw [← e]; omega)
  
set_option maxHeartbeats 4000000 in
theorem vc_Mo_style_25_4 (x3 : Int) (x8 : Int) (x9 : Int) (x11 : Int) (tokenKind_0 : Int → Int) (cur_0 : Int) (tokens_0 : Int) (opened_0 : Int) (tokenValue_0 : Int → Int) (tokenPlace_0 : Int → Int) (tokenEnd_0 : Int → Int) (tape_0 : Int → Int) (limit_0 : Int) (fault_0 : Int) (taped_0 : Int) (gx : Int) (k3 : 0 ≤ x3 ∧ x3 ≤ 2000) (k8 : 0 ≤ x8 ∧ x8 ≤ 1) (k9 : 0 ≤ x9 ∧ x9 ≤ 47) (k11 : 0 ≤ x11 ∧ x11 ≤ 2010) (f0 : (x8 = 0) → (x9 ≤ 23)) (f1 : ((cur_0 + 1) ≤ tokens_0) ∧ ((tokens_0 ≤ 2010) ∧ ((tokenKind_0 ((tokens_0 - 1)) = 0) ∨ (tokenKind_0 ((tokens_0 - 1)) = 4)))) (f2 : 1 * opened_0 + 0 ≤ 0) (f3 : (-1) * opened_0 + 0 ≤ 0) (f4 : SOK (limit_0) (tokenKind_0) (tokenValue_0) (tokenPlace_0) (tokenEnd_0) (tape_0)) (f5 : fault_0 = 0) (f6 : SOC (fault_0) (cur_0) (limit_0) (tokenKind_0) (tokenValue_0) (tokenPlace_0) (tokenEnd_0) (tape_0)) (f7 : (-1) * x11 + ((-1) * cur_0 + 0) ≤ (-2011)) (f8 : taped_0 = x3) (hK_0_1 : ∀ j : Int, 0 ≤ j → j < 2000 → (-128) ≤ tape_0 j ∧ tape_0 j ≤ 127) (hK_0_160 : ∀ j : Int, 0 ≤ j → j < 2010 → 0 ≤ tokenKind_0 j ∧ tokenKind_0 j ≤ 4) (hK_0_162 : ∀ j : Int, 0 ≤ j → j < 2010 → 0 ≤ tokenPlace_0 j ∧ tokenPlace_0 j ≤ 2000) (hK_0_163 : ∀ j : Int, 0 ≤ j → j < 2010 → 0 ≤ tokenEnd_0 j ∧ tokenEnd_0 j ≤ 2000) (kz_0_0 : 0 ≤ taped_0 ∧ taped_0 ≤ 2000) (kz_0_8 : 0 ≤ fault_0 ∧ fault_0 ≤ 5) (kz_0_10 : 0 ≤ limit_0 ∧ limit_0 ≤ 2000) (kz_0_157 : 0 ≤ tokens_0 ∧ tokens_0 ≤ 2010) (kz_0_158 : 0 ≤ cur_0 ∧ cur_0 ≤ 2009) (kz_0_159 : 0 ≤ opened_0 ∧ opened_0 ≤ 13) (ex2 : gx = 2010 + ((-1) * cur_0 + 0)) (ex3 : 0 ≤ gx ∧ gx ≤ 2010) : fault_0 = 0 := by
  first | with_reducible assumption | ((have f1_c0 := f1.1); (have f1_c1 := f1.2.1); (have f1_c2 := f1.2.2); (try and_intros) <;> first | with_reducible assumption | (clear f1_c2 f1 hK_0_1 hK_0_160 hK_0_162 hK_0_163 f0; omega)) | ((have f1_c0 := f1.1); (have f1_c1 := f1.2.1); (have f1_c2 := f1.2.2); (first | have f0_b := f0 (by clear f1_c2 f1 hK_0_1 hK_0_160 hK_0_162 hK_0_163 f0; omega) | skip); (first | have f0_d := f0 (by with_reducible assumption) | skip); (try and_intros) <;> first | with_reducible assumption | (clear f1_c2 f1 hK_0_1 hK_0_160 hK_0_162 hK_0_163 f0; omega)) | ((have f1_c0 := f1.1); (have f1_c1 := f1.2.1); (have f1_c2 := f1.2.2); (first | have f0_b := f0 (by clear f1_c2 f1 hK_0_1 hK_0_160 hK_0_162 hK_0_163 f0; omega) | skip); (first | have f0_d := f0 (by with_reducible assumption) | skip); (first | have f1_q := tk_nx0 f1 (by clear f1_c2 f1 hK_0_1 hK_0_160 hK_0_162 hK_0_163 f0; omega) | skip); (try and_intros) <;> first | with_reducible assumption | (clear f1_c2 f1 hK_0_1 hK_0_160 hK_0_162 hK_0_163 f0; omega)) | omega
set_option maxHeartbeats 4000000 in
theorem vc_Mo_style_25_5 (x3 : Int) (x8 : Int) (x9 : Int) (x11 : Int) (tokenKind_0 : Int → Int) (cur_0 : Int) (tokens_0 : Int) (opened_0 : Int) (tokenValue_0 : Int → Int) (tokenPlace_0 : Int → Int) (tokenEnd_0 : Int → Int) (tape_0 : Int → Int) (limit_0 : Int) (fault_0 : Int) (taped_0 : Int) (gx : Int) (k3 : 0 ≤ x3 ∧ x3 ≤ 2000) (k8 : 0 ≤ x8 ∧ x8 ≤ 1) (k9 : 0 ≤ x9 ∧ x9 ≤ 47) (k11 : 0 ≤ x11 ∧ x11 ≤ 2010) (f0 : (x8 = 0) → (x9 ≤ 23)) (f1 : ((cur_0 + 1) ≤ tokens_0) ∧ ((tokens_0 ≤ 2010) ∧ ((tokenKind_0 ((tokens_0 - 1)) = 0) ∨ (tokenKind_0 ((tokens_0 - 1)) = 4)))) (f2 : 1 * opened_0 + 0 ≤ 0) (f3 : (-1) * opened_0 + 0 ≤ 0) (f4 : SOK (limit_0) (tokenKind_0) (tokenValue_0) (tokenPlace_0) (tokenEnd_0) (tape_0)) (f5 : fault_0 = 0) (f6 : SOC (fault_0) (cur_0) (limit_0) (tokenKind_0) (tokenValue_0) (tokenPlace_0) (tokenEnd_0) (tape_0)) (f7 : (-1) * x11 + ((-1) * cur_0 + 0) ≤ (-2011)) (f8 : taped_0 = x3) (hK_0_1 : ∀ j : Int, 0 ≤ j → j < 2000 → (-128) ≤ tape_0 j ∧ tape_0 j ≤ 127) (hK_0_160 : ∀ j : Int, 0 ≤ j → j < 2010 → 0 ≤ tokenKind_0 j ∧ tokenKind_0 j ≤ 4) (hK_0_162 : ∀ j : Int, 0 ≤ j → j < 2010 → 0 ≤ tokenPlace_0 j ∧ tokenPlace_0 j ≤ 2000) (hK_0_163 : ∀ j : Int, 0 ≤ j → j < 2010 → 0 ≤ tokenEnd_0 j ∧ tokenEnd_0 j ≤ 2000) (kz_0_0 : 0 ≤ taped_0 ∧ taped_0 ≤ 2000) (kz_0_8 : 0 ≤ fault_0 ∧ fault_0 ≤ 5) (kz_0_10 : 0 ≤ limit_0 ∧ limit_0 ≤ 2000) (kz_0_157 : 0 ≤ tokens_0 ∧ tokens_0 ≤ 2010) (kz_0_158 : 0 ≤ cur_0 ∧ cur_0 ≤ 2009) (kz_0_159 : 0 ≤ opened_0 ∧ opened_0 ≤ 13) (ex2 : gx = 2010 + ((-1) * cur_0 + 0)) (ex3 : 0 ≤ gx ∧ gx ≤ 2010) : SOC (fault_0) (cur_0) (limit_0) (tokenKind_0) (tokenValue_0) (tokenPlace_0) (tokenEnd_0) (tape_0) := by
  first
    | assumption
    | exact soc_of (‹SOK _ _ _ _ _ _›) (by omega) (by omega)
    | exact sc1_go (‹SC1 _ _ _ _ _ _ _›) (‹RUL _ _ _ _ _ _ _ _ _›)
  
set_option maxHeartbeats 4000000 in
theorem vc_Mo_style_25_6 (x3 : Int) (x8 : Int) (x9 : Int) (x11 : Int) (tokenKind_0 : Int → Int) (cur_0 : Int) (tokens_0 : Int) (opened_0 : Int) (tokenValue_0 : Int → Int) (tokenPlace_0 : Int → Int) (tokenEnd_0 : Int → Int) (tape_0 : Int → Int) (limit_0 : Int) (fault_0 : Int) (taped_0 : Int) (gx : Int) (k3 : 0 ≤ x3 ∧ x3 ≤ 2000) (k8 : 0 ≤ x8 ∧ x8 ≤ 1) (k9 : 0 ≤ x9 ∧ x9 ≤ 47) (k11 : 0 ≤ x11 ∧ x11 ≤ 2010) (f0 : (x8 = 0) → (x9 ≤ 23)) (f1 : ((cur_0 + 1) ≤ tokens_0) ∧ ((tokens_0 ≤ 2010) ∧ ((tokenKind_0 ((tokens_0 - 1)) = 0) ∨ (tokenKind_0 ((tokens_0 - 1)) = 4)))) (f2 : 1 * opened_0 + 0 ≤ 0) (f3 : (-1) * opened_0 + 0 ≤ 0) (f4 : SOK (limit_0) (tokenKind_0) (tokenValue_0) (tokenPlace_0) (tokenEnd_0) (tape_0)) (f5 : fault_0 = 0) (f6 : SOC (fault_0) (cur_0) (limit_0) (tokenKind_0) (tokenValue_0) (tokenPlace_0) (tokenEnd_0) (tape_0)) (f7 : (-1) * x11 + ((-1) * cur_0 + 0) ≤ (-2011)) (f8 : taped_0 = x3) (hK_0_1 : ∀ j : Int, 0 ≤ j → j < 2000 → (-128) ≤ tape_0 j ∧ tape_0 j ≤ 127) (hK_0_160 : ∀ j : Int, 0 ≤ j → j < 2010 → 0 ≤ tokenKind_0 j ∧ tokenKind_0 j ≤ 4) (hK_0_162 : ∀ j : Int, 0 ≤ j → j < 2010 → 0 ≤ tokenPlace_0 j ∧ tokenPlace_0 j ≤ 2000) (hK_0_163 : ∀ j : Int, 0 ≤ j → j < 2010 → 0 ≤ tokenEnd_0 j ∧ tokenEnd_0 j ≤ 2000) (kz_0_0 : 0 ≤ taped_0 ∧ taped_0 ≤ 2000) (kz_0_8 : 0 ≤ fault_0 ∧ fault_0 ≤ 5) (kz_0_10 : 0 ≤ limit_0 ∧ limit_0 ≤ 2000) (kz_0_157 : 0 ≤ tokens_0 ∧ tokens_0 ≤ 2010) (kz_0_158 : 0 ≤ cur_0 ∧ cur_0 ≤ 2009) (kz_0_159 : 0 ≤ opened_0 ∧ opened_0 ≤ 13) (ex2 : gx = 2010 + ((-1) * cur_0 + 0)) (ex3 : 0 ≤ gx ∧ gx ≤ 2010) : (x8 = 0) → (x9 ≤ 23) := by
  first | with_reducible assumption | ((have f1_c0 := f1.1); (have f1_c1 := f1.2.1); (have f1_c2 := f1.2.2); (try and_intros) <;> first | with_reducible assumption | (clear f1_c2 f1 hK_0_1 hK_0_160 hK_0_162 hK_0_163 f0; omega)) | ((have f1_c0 := f1.1); (have f1_c1 := f1.2.1); (have f1_c2 := f1.2.2); (first | have f0_b := f0 (by clear f1_c2 f1 hK_0_1 hK_0_160 hK_0_162 hK_0_163 f0; omega) | skip); (first | have f0_d := f0 (by with_reducible assumption) | skip); (try and_intros) <;> first | with_reducible assumption | (clear f1_c2 f1 hK_0_1 hK_0_160 hK_0_162 hK_0_163 f0; omega)) | ((have f1_c0 := f1.1); (have f1_c1 := f1.2.1); (have f1_c2 := f1.2.2); (first | have f0_b := f0 (by clear f1_c2 f1 hK_0_1 hK_0_160 hK_0_162 hK_0_163 f0; omega) | skip); (first | have f0_d := f0 (by with_reducible assumption) | skip); (first | have f1_q := tk_nx0 f1 (by clear f1_c2 f1 hK_0_1 hK_0_160 hK_0_162 hK_0_163 f0; omega) | skip); (try and_intros) <;> first | with_reducible assumption | (clear f1_c2 f1 hK_0_1 hK_0_160 hK_0_162 hK_0_163 f0; omega)) | (intro hG; (first | have f0_g := f0 hG | skip); (have f1_c0 := f1.1); (have f1_c1 := f1.2.1); (have f1_c2 := f1.2.2); (first | have f0_b := f0 (by clear f1_c2 f1 hK_0_1 hK_0_160 hK_0_162 hK_0_163 f0; omega) | skip); (try and_intros) <;> first | with_reducible assumption | (clear f1_c2 f1 hK_0_1 hK_0_160 hK_0_162 hK_0_163 f0 hG; omega)) | omega
set_option maxHeartbeats 4000000 in
theorem vc_Mo_style_25_7 (x3 : Int) (x8 : Int) (x9 : Int) (x11 : Int) (tokenKind_0 : Int → Int) (cur_0 : Int) (tokens_0 : Int) (opened_0 : Int) (tokenValue_0 : Int → Int) (tokenPlace_0 : Int → Int) (tokenEnd_0 : Int → Int) (tape_0 : Int → Int) (limit_0 : Int) (fault_0 : Int) (taped_0 : Int) (gx : Int) (k3 : 0 ≤ x3 ∧ x3 ≤ 2000) (k8 : 0 ≤ x8 ∧ x8 ≤ 1) (k9 : 0 ≤ x9 ∧ x9 ≤ 47) (k11 : 0 ≤ x11 ∧ x11 ≤ 2010) (f0 : (x8 = 0) → (x9 ≤ 23)) (f1 : ((cur_0 + 1) ≤ tokens_0) ∧ ((tokens_0 ≤ 2010) ∧ ((tokenKind_0 ((tokens_0 - 1)) = 0) ∨ (tokenKind_0 ((tokens_0 - 1)) = 4)))) (f2 : 1 * opened_0 + 0 ≤ 0) (f3 : (-1) * opened_0 + 0 ≤ 0) (f4 : SOK (limit_0) (tokenKind_0) (tokenValue_0) (tokenPlace_0) (tokenEnd_0) (tape_0)) (f5 : fault_0 = 0) (f6 : SOC (fault_0) (cur_0) (limit_0) (tokenKind_0) (tokenValue_0) (tokenPlace_0) (tokenEnd_0) (tape_0)) (f7 : (-1) * x11 + ((-1) * cur_0 + 0) ≤ (-2011)) (f8 : taped_0 = x3) (hK_0_1 : ∀ j : Int, 0 ≤ j → j < 2000 → (-128) ≤ tape_0 j ∧ tape_0 j ≤ 127) (hK_0_160 : ∀ j : Int, 0 ≤ j → j < 2010 → 0 ≤ tokenKind_0 j ∧ tokenKind_0 j ≤ 4) (hK_0_162 : ∀ j : Int, 0 ≤ j → j < 2010 → 0 ≤ tokenPlace_0 j ∧ tokenPlace_0 j ≤ 2000) (hK_0_163 : ∀ j : Int, 0 ≤ j → j < 2010 → 0 ≤ tokenEnd_0 j ∧ tokenEnd_0 j ≤ 2000) (kz_0_0 : 0 ≤ taped_0 ∧ taped_0 ≤ 2000) (kz_0_8 : 0 ≤ fault_0 ∧ fault_0 ≤ 5) (kz_0_10 : 0 ≤ limit_0 ∧ limit_0 ≤ 2000) (kz_0_157 : 0 ≤ tokens_0 ∧ tokens_0 ≤ 2010) (kz_0_158 : 0 ≤ cur_0 ∧ cur_0 ≤ 2009) (kz_0_159 : 0 ≤ opened_0 ∧ opened_0 ≤ 13) (ex2 : gx = 2010 + ((-1) * cur_0 + 0)) (ex3 : 0 ≤ gx ∧ gx ≤ 2010) : taped_0 = x3 := by
  first | with_reducible assumption | ((have f1_c0 := f1.1); (have f1_c1 := f1.2.1); (have f1_c2 := f1.2.2); (try and_intros) <;> first | with_reducible assumption | (clear f1_c2 f1 hK_0_1 hK_0_160 hK_0_162 hK_0_163 f0; omega)) | ((have f1_c0 := f1.1); (have f1_c1 := f1.2.1); (have f1_c2 := f1.2.2); (first | have f0_b := f0 (by clear f1_c2 f1 hK_0_1 hK_0_160 hK_0_162 hK_0_163 f0; omega) | skip); (first | have f0_d := f0 (by with_reducible assumption) | skip); (try and_intros) <;> first | with_reducible assumption | (clear f1_c2 f1 hK_0_1 hK_0_160 hK_0_162 hK_0_163 f0; omega)) | ((have f1_c0 := f1.1); (have f1_c1 := f1.2.1); (have f1_c2 := f1.2.2); (first | have f0_b := f0 (by clear f1_c2 f1 hK_0_1 hK_0_160 hK_0_162 hK_0_163 f0; omega) | skip); (first | have f0_d := f0 (by with_reducible assumption) | skip); (first | have f1_q := tk_nx0 f1 (by clear f1_c2 f1 hK_0_1 hK_0_160 hK_0_162 hK_0_163 f0; omega) | skip); (try and_intros) <;> first | with_reducible assumption | (clear f1_c2 f1 hK_0_1 hK_0_160 hK_0_162 hK_0_163 f0; omega)) | omega
set_option maxHeartbeats 4000000 in
theorem vc_Mo_style_25_9 (x3 : Int) (x8 : Int) (x9 : Int) (x11 : Int) (tokenKind_0 : Int → Int) (cur_0 : Int) (tokens_0 : Int) (opened_0 : Int) (tokenValue_0 : Int → Int) (tokenPlace_0 : Int → Int) (tokenEnd_0 : Int → Int) (tape_0 : Int → Int) (limit_0 : Int) (fault_0 : Int) (taped_0 : Int) (gx : Int) (k3 : 0 ≤ x3 ∧ x3 ≤ 2000) (k8 : 0 ≤ x8 ∧ x8 ≤ 1) (k9 : 0 ≤ x9 ∧ x9 ≤ 47) (k11 : 0 ≤ x11 ∧ x11 ≤ 2010) (f0 : (x8 = 0) → (x9 ≤ 23)) (f1 : ((cur_0 + 1) ≤ tokens_0) ∧ ((tokens_0 ≤ 2010) ∧ ((tokenKind_0 ((tokens_0 - 1)) = 0) ∨ (tokenKind_0 ((tokens_0 - 1)) = 4)))) (f2 : 1 * opened_0 + 0 ≤ 0) (f3 : (-1) * opened_0 + 0 ≤ 0) (f4 : SOK (limit_0) (tokenKind_0) (tokenValue_0) (tokenPlace_0) (tokenEnd_0) (tape_0)) (f5 : fault_0 = 0) (f6 : SOC (fault_0) (cur_0) (limit_0) (tokenKind_0) (tokenValue_0) (tokenPlace_0) (tokenEnd_0) (tape_0)) (f7 : (-1) * x11 + ((-1) * cur_0 + 0) ≤ (-2011)) (f8 : taped_0 = x3) (hK_0_1 : ∀ j : Int, 0 ≤ j → j < 2000 → (-128) ≤ tape_0 j ∧ tape_0 j ≤ 127) (hK_0_160 : ∀ j : Int, 0 ≤ j → j < 2010 → 0 ≤ tokenKind_0 j ∧ tokenKind_0 j ≤ 4) (hK_0_162 : ∀ j : Int, 0 ≤ j → j < 2010 → 0 ≤ tokenPlace_0 j ∧ tokenPlace_0 j ≤ 2000) (hK_0_163 : ∀ j : Int, 0 ≤ j → j < 2010 → 0 ≤ tokenEnd_0 j ∧ tokenEnd_0 j ≤ 2000) (kz_0_0 : 0 ≤ taped_0 ∧ taped_0 ≤ 2000) (kz_0_8 : 0 ≤ fault_0 ∧ fault_0 ≤ 5) (kz_0_10 : 0 ≤ limit_0 ∧ limit_0 ≤ 2000) (kz_0_157 : 0 ≤ tokens_0 ∧ tokens_0 ≤ 2010) (kz_0_158 : 0 ≤ cur_0 ∧ cur_0 ≤ 2009) (kz_0_159 : 0 ≤ opened_0 ∧ opened_0 ≤ 13) (ex2 : gx = 2010 + ((-1) * cur_0 + 0)) (ex3 : 0 ≤ gx ∧ gx ≤ 2010) : 1 * gx + (1 * cur_0 + 0) ≤ 2010 := by
  first | with_reducible assumption | ((have f1_c0 := f1.1); (have f1_c1 := f1.2.1); (have f1_c2 := f1.2.2); (try and_intros) <;> first | with_reducible assumption | (clear f1_c2 f1 hK_0_1 hK_0_160 hK_0_162 hK_0_163 f0; omega)) | ((have f1_c0 := f1.1); (have f1_c1 := f1.2.1); (have f1_c2 := f1.2.2); (first | have f0_b := f0 (by clear f1_c2 f1 hK_0_1 hK_0_160 hK_0_162 hK_0_163 f0; omega) | skip); (first | have f0_d := f0 (by with_reducible assumption) | skip); (try and_intros) <;> first | with_reducible assumption | (clear f1_c2 f1 hK_0_1 hK_0_160 hK_0_162 hK_0_163 f0; omega)) | ((have f1_c0 := f1.1); (have f1_c1 := f1.2.1); (have f1_c2 := f1.2.2); (first | have f0_b := f0 (by clear f1_c2 f1 hK_0_1 hK_0_160 hK_0_162 hK_0_163 f0; omega) | skip); (first | have f0_d := f0 (by with_reducible assumption) | skip); (first | have f1_q := tk_nx0 f1 (by clear f1_c2 f1 hK_0_1 hK_0_160 hK_0_162 hK_0_163 f0; omega) | skip); (try and_intros) <;> first | with_reducible assumption | (clear f1_c2 f1 hK_0_1 hK_0_160 hK_0_162 hK_0_163 f0; omega)) | omega
set_option maxHeartbeats 4000000 in
theorem vc_Mo_style_25_10 (x3 : Int) (x8 : Int) (x9 : Int) (x11 : Int) (tokenKind_0 : Int → Int) (cur_0 : Int) (tokens_0 : Int) (opened_0 : Int) (tokenValue_0 : Int → Int) (tokenPlace_0 : Int → Int) (tokenEnd_0 : Int → Int) (tape_0 : Int → Int) (limit_0 : Int) (fault_0 : Int) (taped_0 : Int) (gx : Int) (k3 : 0 ≤ x3 ∧ x3 ≤ 2000) (k8 : 0 ≤ x8 ∧ x8 ≤ 1) (k9 : 0 ≤ x9 ∧ x9 ≤ 47) (k11 : 0 ≤ x11 ∧ x11 ≤ 2010) (f0 : (x8 = 0) → (x9 ≤ 23)) (f1 : ((cur_0 + 1) ≤ tokens_0) ∧ ((tokens_0 ≤ 2010) ∧ ((tokenKind_0 ((tokens_0 - 1)) = 0) ∨ (tokenKind_0 ((tokens_0 - 1)) = 4)))) (f2 : 1 * opened_0 + 0 ≤ 0) (f3 : (-1) * opened_0 + 0 ≤ 0) (f4 : SOK (limit_0) (tokenKind_0) (tokenValue_0) (tokenPlace_0) (tokenEnd_0) (tape_0)) (f5 : fault_0 = 0) (f6 : SOC (fault_0) (cur_0) (limit_0) (tokenKind_0) (tokenValue_0) (tokenPlace_0) (tokenEnd_0) (tape_0)) (f7 : (-1) * x11 + ((-1) * cur_0 + 0) ≤ (-2011)) (f8 : taped_0 = x3) (hK_0_1 : ∀ j : Int, 0 ≤ j → j < 2000 → (-128) ≤ tape_0 j ∧ tape_0 j ≤ 127) (hK_0_160 : ∀ j : Int, 0 ≤ j → j < 2010 → 0 ≤ tokenKind_0 j ∧ tokenKind_0 j ≤ 4) (hK_0_162 : ∀ j : Int, 0 ≤ j → j < 2010 → 0 ≤ tokenPlace_0 j ∧ tokenPlace_0 j ≤ 2000) (hK_0_163 : ∀ j : Int, 0 ≤ j → j < 2010 → 0 ≤ tokenEnd_0 j ∧ tokenEnd_0 j ≤ 2000) (kz_0_0 : 0 ≤ taped_0 ∧ taped_0 ≤ 2000) (kz_0_8 : 0 ≤ fault_0 ∧ fault_0 ≤ 5) (kz_0_10 : 0 ≤ limit_0 ∧ limit_0 ≤ 2000) (kz_0_157 : 0 ≤ tokens_0 ∧ tokens_0 ≤ 2010) (kz_0_158 : 0 ≤ cur_0 ∧ cur_0 ≤ 2009) (kz_0_159 : 0 ≤ opened_0 ∧ opened_0 ≤ 13) (ex2 : gx = 2010 + ((-1) * cur_0 + 0)) (ex3 : 0 ≤ gx ∧ gx ≤ 2010) : (-1) * gx + ((-1) * cur_0 + 0) ≤ (-2010) := by
  first | with_reducible assumption | ((have f1_c0 := f1.1); (have f1_c1 := f1.2.1); (have f1_c2 := f1.2.2); (try and_intros) <;> first | with_reducible assumption | (clear f1_c2 f1 hK_0_1 hK_0_160 hK_0_162 hK_0_163 f0; omega)) | ((have f1_c0 := f1.1); (have f1_c1 := f1.2.1); (have f1_c2 := f1.2.2); (first | have f0_b := f0 (by clear f1_c2 f1 hK_0_1 hK_0_160 hK_0_162 hK_0_163 f0; omega) | skip); (first | have f0_d := f0 (by with_reducible assumption) | skip); (try and_intros) <;> first | with_reducible assumption | (clear f1_c2 f1 hK_0_1 hK_0_160 hK_0_162 hK_0_163 f0; omega)) | ((have f1_c0 := f1.1); (have f1_c1 := f1.2.1); (have f1_c2 := f1.2.2); (first | have f0_b := f0 (by clear f1_c2 f1 hK_0_1 hK_0_160 hK_0_162 hK_0_163 f0; omega) | skip); (first | have f0_d := f0 (by with_reducible assumption) | skip); (first | have f1_q := tk_nx0 f1 (by clear f1_c2 f1 hK_0_1 hK_0_160 hK_0_162 hK_0_163 f0; omega) | skip); (try and_intros) <;> first | with_reducible assumption | (clear f1_c2 f1 hK_0_1 hK_0_160 hK_0_162 hK_0_163 f0; omega)) | omega
def o_Mo_style_25 : or_T := (180, 12, [(0, (2, 0, 0, [165])), (3, (0, 0, 2000, [])), (4, (2, 0, 0, [165])), (8, (0, 0, 1, [])), (9, (0, 0, 47, [])), (11, (0, 0, 2010, []))], [(20, [8, 9], [50, 0, 0, 4, 6, 1, 2, 1, 0, 0, 0, 0, 2, 1, 1, 0, 23]), (20, [4], [50, 2, 1, 158, 157, 160, 2, 12, 0, 7, 4, 3, 2, 0, 158, 0, 1, 2, 0, 157, 2, 7, 0, 3, 2, 0, 157, 0, 2010, 3, 14, 1, 10, 3, 0, 160, 5, 3, 2, 0, 157, 0, 1, 0, 0, 1, 10, 3, 0, 160, 5, 3, 2, 0, 157, 0, 1, 0, 4]), (20, [4], [30, 0, 1, 1, 159]), (20, [4], [30, 0, -1, 1, 159]), (20, [4], [60, 1, 5, 74, 10, 160, 161, 162, 163, 1]), (20, [4], [50, 1, 0, 8, 1, 3, 2, 0, 8, 0, 0]), (20, [4], [60, 3, 5, 71, 8, 158, 10, 160, 161, 162, 163, 1]), (20, [11, 4], [30, -2011, -1, 0, 0, -1, 1, 158]), (20, [4, 3], [50, 1, 0, 0, 1, 3, 2, 0, 0, 1, 1]), (24, [0, 4], [])], [], [(0, 0, 2010, [])], [(20, [4], [50, 2, 1, 158, 157, 160, 2, 12, 0, 7, 4, 3, 2, 0, 158, 0, 1, 2, 0, 157, 2, 7, 0, 3, 2, 0, 157, 0, 2010, 3, 14, 1, 10, 3, 0, 160, 5, 3, 2, 0, 157, 0, 1, 0, 0, 1, 10, 3, 0, 160, 5, 3, 2, 0, 157, 0, 1, 0, 4]), (20, [4], [30, 0, 1, 1, 159]), (20, [4], [30, 0, -1, 1, 159]), (20, [4], [60, 1, 5, 74, 10, 160, 161, 162, 163, 1]), (20, [4], [50, 1, 0, 8, 1, 3, 2, 0, 8, 0, 0]), (20, [4], [60, 3, 5, 71, 8, 158, 10, 160, 161, 162, 163, 1]), (20, [8, 9], [50, 0, 0, 4, 6, 1, 2, 1, 0, 0, 0, 0, 2, 1, 1, 0, 23]), (20, [4, 3], [50, 1, 0, 0, 1, 3, 2, 0, 0, 1, 1]), (24, [0, 4], []), (20, [12, 4], [30, 2010, 1, 0, 0, 1, 1, 158]), (20, [12, 4], [30, -2010, -1, 0, 0, -1, 1, 158])], [(12, 11, -1000000000000, -1)], [])
theorem oo_Mo_style_25 {kA : Nat → ClassId} : or_ok PRD kA GG o_Mo_style_25 := by
  refine or_mk fun A ta ws vs hD hth hl => ?_
  intro t0 r0 t3 k3 t4 r4 t8 k8 t9 k9 t11 k11 f0 f1 f2 f3 f4 f5 f6 f7 f8 f9
  replace f0 := shm_2312 f0
  replace f1 := shm_271 f1
  replace f2 := shm_1029 f2
  replace f3 := shm_1030 f3
  replace f4 := shm_2306 f4
  replace f5 := shm_2156 f5
  replace f6 := shm_2311 f6
  replace f7 := shm_292 f7
  replace f8 := shm_570 f8
  replace f9 := shm_5 f9
  have q4 : n_v vs 4 = n_v vs 0 := f9.symm
  simp only [q4] at f1 f2 f3 f4 f5 f6 f7 f8
  have cr_0_1 := fdq_39 hD hth r0
  have cr_0_160 := fdq_33 hD hth r0
  have cr_0_161 := fdq_40 hD hth r0
  have cr_0_162 := fdq_41 hD hth r0
  have cr_0_163 := fdq_42 hD hth r0
  have hK_0_1 := elq_7 hD hth cr_0_1
  have hK_0_160 := elq_6 hD hth cr_0_160
  have hK_0_162 := elq_8 hD hth cr_0_162
  have hK_0_163 := elq_9 hD hth cr_0_163
  have kz_0_0 := fdq_148 hD hth r0
  have kz_0_8 := fdq_34 hD hth r0
  have kz_0_10 := fdq_43 hD hth r0
  have kz_0_157 := fdq_35 hD hth r0
  have kz_0_158 := fdq_36 hD hth r0
  have kz_0_159 := fdq_37 hD hth r0
  have kb_0_158 := fdq_36 hD hth r0
  obtain ⟨x, ex, hx⟩ := iv_ex (ta := ta) (lo := 0) (hi := 2010) (z := 2010 + ((-1) * w_fi ws (n_v vs 0) 158 + 0)) (by omega) (by omega) (by omega) (by omega)
  have ex2 : v_iv (Value.int x) = 2010 + ((-1) * w_fi ws (n_v vs 0) 158 + 0) := ex
  have ex3 : 0 ≤ v_iv (Value.int x) ∧ v_iv (Value.int x) ≤ 2010 := tv_rng hx
  have e_0 : n_v (vs ++ [Value.int x]) 0 = n_v vs 0 := n_v_old (by rw [hl]; decide)
  have e_3 : n_v (vs ++ [Value.int x]) 3 = n_v vs 3 := n_v_old (by rw [hl]; decide)
  have e_4 : n_v (vs ++ [Value.int x]) 4 = n_v vs 4 := n_v_old (by rw [hl]; decide)
  have e_8 : n_v (vs ++ [Value.int x]) 8 = n_v vs 8 := n_v_old (by rw [hl]; decide)
  have e_9 : n_v (vs ++ [Value.int x]) 9 = n_v vs 9 := n_v_old (by rw [hl]; decide)
  have e_12 : n_v (vs ++ [Value.int x]) 12 = Value.int x := n_v_new hl
  have nf0 : fc_1 PRD (20, [4], [50, 2, 1, 158, 157, 160, 2, 12, 0, 7, 4, 3, 2, 0, 158, 0, 1, 2, 0, 157, 2, 7, 0, 3, 2, 0, 157, 0, 2010, 3, 14, 1, 10, 3, 0, 160, 5, 3, 2, 0, 157, 0, 1, 0, 0, 1, 10, 3, 0, 160, 5, 3, 2, 0, 157, 0, 1, 0, 4]) ws (vs ++ [Value.int x]) := by
    refine ⟨nf_inA hl rfl, sgq_271 ?_⟩
    · show ((w_fi ws (n_v (vs ++ [Value.int x]) 4) 158 + 1) ≤ w_fi ws (n_v (vs ++ [Value.int x]) 4) 157) ∧ ((w_fi ws (n_v (vs ++ [Value.int x]) 4) 157 ≤ 2010) ∧ ((w_ei ws (w_ar ws (n_v (vs ++ [Value.int x]) 4) 160) ((w_fi ws (n_v (vs ++ [Value.int x]) 4) 157 - 1)) = 0) ∨ (w_ei ws (w_ar ws (n_v (vs ++ [Value.int x]) 4) 160) ((w_fi ws (n_v (vs ++ [Value.int x]) 4) 157 - 1)) = 4)))
      simp only [e_4, q4]
      exact vc_Mo_style_25_0 (v_iv (n_v vs 3)) (v_iv (n_v vs 8)) (v_iv (n_v vs 9)) (v_iv (n_v vs 11)) (w_ei ws (w_ar ws (n_v vs 0) 160)) (w_fi ws (n_v vs 0) 158) (w_fi ws (n_v vs 0) 157) (w_fi ws (n_v vs 0) 159) (w_ei ws (w_ar ws (n_v vs 0) 161)) (w_ei ws (w_ar ws (n_v vs 0) 162)) (w_ei ws (w_ar ws (n_v vs 0) 163)) (w_ei ws (w_ar ws (n_v vs 0) 1)) (w_fi ws (n_v vs 0) 10) (w_fi ws (n_v vs 0) 8) (w_fi ws (n_v vs 0) 0) (v_iv (Value.int x)) k3 k8 k9 k11 f0 f1 f2 f3 f4 f5 f6 f7 f8 hK_0_1 hK_0_160 hK_0_162 hK_0_163 kz_0_0 kz_0_8 kz_0_10 kz_0_157 kz_0_158 kz_0_159 ex2 ex3
  have nf1 : fc_1 PRD (20, [4], [30, 0, 1, 1, 159]) ws (vs ++ [Value.int x]) := by
    refine ⟨nf_inA hl rfl, sgq_1029 ?_⟩
    · show 1 * w_fi ws (n_v (vs ++ [Value.int x]) 4) 159 + 0 ≤ 0
      simp only [e_4, q4]
      exact vc_Mo_style_25_1 (v_iv (n_v vs 3)) (v_iv (n_v vs 8)) (v_iv (n_v vs 9)) (v_iv (n_v vs 11)) (w_ei ws (w_ar ws (n_v vs 0) 160)) (w_fi ws (n_v vs 0) 158) (w_fi ws (n_v vs 0) 157) (w_fi ws (n_v vs 0) 159) (w_ei ws (w_ar ws (n_v vs 0) 161)) (w_ei ws (w_ar ws (n_v vs 0) 162)) (w_ei ws (w_ar ws (n_v vs 0) 163)) (w_ei ws (w_ar ws (n_v vs 0) 1)) (w_fi ws (n_v vs 0) 10) (w_fi ws (n_v vs 0) 8) (w_fi ws (n_v vs 0) 0) (v_iv (Value.int x)) k3 k8 k9 k11 f0 f1 f2 f3 f4 f5 f6 f7 f8 hK_0_1 hK_0_160 hK_0_162 hK_0_163 kz_0_0 kz_0_8 kz_0_10 kz_0_157 kz_0_158 kz_0_159 ex2 ex3
  have nf2 : fc_1 PRD (20, [4], [30, 0, -1, 1, 159]) ws (vs ++ [Value.int x]) := by
    refine ⟨nf_inA hl rfl, sgq_1030 ?_⟩
    · show (-1) * w_fi ws (n_v (vs ++ [Value.int x]) 4) 159 + 0 ≤ 0
      simp only [e_4, q4]
      exact vc_Mo_style_25_2 (v_iv (n_v vs 3)) (v_iv (n_v vs 8)) (v_iv (n_v vs 9)) (v_iv (n_v vs 11)) (w_ei ws (w_ar ws (n_v vs 0) 160)) (w_fi ws (n_v vs 0) 158) (w_fi ws (n_v vs 0) 157) (w_fi ws (n_v vs 0) 159) (w_ei ws (w_ar ws (n_v vs 0) 161)) (w_ei ws (w_ar ws (n_v vs 0) 162)) (w_ei ws (w_ar ws (n_v vs 0) 163)) (w_ei ws (w_ar ws (n_v vs 0) 1)) (w_fi ws (n_v vs 0) 10) (w_fi ws (n_v vs 0) 8) (w_fi ws (n_v vs 0) 0) (v_iv (Value.int x)) k3 k8 k9 k11 f0 f1 f2 f3 f4 f5 f6 f7 f8 hK_0_1 hK_0_160 hK_0_162 hK_0_163 kz_0_0 kz_0_8 kz_0_10 kz_0_157 kz_0_158 kz_0_159 ex2 ex3
  have nf3 : fc_1 PRD (20, [4], [60, 1, 5, 74, 10, 160, 161, 162, 163, 1]) ws (vs ++ [Value.int x]) := by
    refine ⟨nf_inA hl rfl, sgq_2306 ?_⟩
    · show SOK (w_fi ws (n_v (vs ++ [Value.int x]) 4) 10) (w_ei ws (w_ar ws (n_v (vs ++ [Value.int x]) 4) 160)) (w_ei ws (w_ar ws (n_v (vs ++ [Value.int x]) 4) 161)) (w_ei ws (w_ar ws (n_v (vs ++ [Value.int x]) 4) 162)) (w_ei ws (w_ar ws (n_v (vs ++ [Value.int x]) 4) 163)) (w_ei ws (w_ar ws (n_v (vs ++ [Value.int x]) 4) 1))
      simp only [e_4, q4]
      exact vc_Mo_style_25_3 (v_iv (n_v vs 3)) (v_iv (n_v vs 8)) (v_iv (n_v vs 9)) (v_iv (n_v vs 11)) (w_ei ws (w_ar ws (n_v vs 0) 160)) (w_fi ws (n_v vs 0) 158) (w_fi ws (n_v vs 0) 157) (w_fi ws (n_v vs 0) 159) (w_ei ws (w_ar ws (n_v vs 0) 161)) (w_ei ws (w_ar ws (n_v vs 0) 162)) (w_ei ws (w_ar ws (n_v vs 0) 163)) (w_ei ws (w_ar ws (n_v vs 0) 1)) (w_fi ws (n_v vs 0) 10) (w_fi ws (n_v vs 0) 8) (w_fi ws (n_v vs 0) 0) (v_iv (Value.int x)) k3 k8 k9 k11 f0 f1 f2 f3 f4 f5 f6 f7 f8 hK_0_1 hK_0_160 hK_0_162 hK_0_163 kz_0_0 kz_0_8 kz_0_10 kz_0_157 kz_0_158 kz_0_159 ex2 ex3
  have nf4 : fc_1 PRD (20, [4], [50, 1, 0, 8, 1, 3, 2, 0, 8, 0, 0]) ws (vs ++ [Value.int x]) := by
    refine ⟨nf_inA hl rfl, sgq_2156 ?_⟩
    · show w_fi ws (n_v (vs ++ [Value.int x]) 4) 8 = 0
      simp only [e_4, q4]
      exact vc_Mo_style_25_4 (v_iv (n_v vs 3)) (v_iv (n_v vs 8)) (v_iv (n_v vs 9)) (v_iv (n_v vs 11)) (w_ei ws (w_ar ws (n_v vs 0) 160)) (w_fi ws (n_v vs 0) 158) (w_fi ws (n_v vs 0) 157) (w_fi ws (n_v vs 0) 159) (w_ei ws (w_ar ws (n_v vs 0) 161)) (w_ei ws (w_ar ws (n_v vs 0) 162)) (w_ei ws (w_ar ws (n_v vs 0) 163)) (w_ei ws (w_ar ws (n_v vs 0) 1)) (w_fi ws (n_v vs 0) 10) (w_fi ws (n_v vs 0) 8) (w_fi ws (n_v vs 0) 0) (v_iv (Value.int x)) k3 k8 k9 k11 f0 f1 f2 f3 f4 f5 f6 f7 f8 hK_0_1 hK_0_160 hK_0_162 hK_0_163 kz_0_0 kz_0_8 kz_0_10 kz_0_157 kz_0_158 kz_0_159 ex2 ex3
  have nf5 : fc_1 PRD (20, [4], [60, 3, 5, 71, 8, 158, 10, 160, 161, 162, 163, 1]) ws (vs ++ [Value.int x]) := by
    refine ⟨nf_inA hl rfl, sgq_2311 ?_⟩
    · show SOC (w_fi ws (n_v (vs ++ [Value.int x]) 4) 8) (w_fi ws (n_v (vs ++ [Value.int x]) 4) 158) (w_fi ws (n_v (vs ++ [Value.int x]) 4) 10) (w_ei ws (w_ar ws (n_v (vs ++ [Value.int x]) 4) 160)) (w_ei ws (w_ar ws (n_v (vs ++ [Value.int x]) 4) 161)) (w_ei ws (w_ar ws (n_v (vs ++ [Value.int x]) 4) 162)) (w_ei ws (w_ar ws (n_v (vs ++ [Value.int x]) 4) 163)) (w_ei ws (w_ar ws (n_v (vs ++ [Value.int x]) 4) 1))
      simp only [e_4, q4]
      exact vc_Mo_style_25_5 (v_iv (n_v vs 3)) (v_iv (n_v vs 8)) (v_iv (n_v vs 9)) (v_iv (n_v vs 11)) (w_ei ws (w_ar ws (n_v vs 0) 160)) (w_fi ws (n_v vs 0) 158) (w_fi ws (n_v vs 0) 157) (w_fi ws (n_v vs 0) 159) (w_ei ws (w_ar ws (n_v vs 0) 161)) (w_ei ws (w_ar ws (n_v vs 0) 162)) (w_ei ws (w_ar ws (n_v vs 0) 163)) (w_ei ws (w_ar ws (n_v vs 0) 1)) (w_fi ws (n_v vs 0) 10) (w_fi ws (n_v vs 0) 8) (w_fi ws (n_v vs 0) 0) (v_iv (Value.int x)) k3 k8 k9 k11 f0 f1 f2 f3 f4 f5 f6 f7 f8 hK_0_1 hK_0_160 hK_0_162 hK_0_163 kz_0_0 kz_0_8 kz_0_10 kz_0_157 kz_0_158 kz_0_159 ex2 ex3
  have nf6 : fc_1 PRD (20, [8, 9], [50, 0, 0, 4, 6, 1, 2, 1, 0, 0, 0, 0, 2, 1, 1, 0, 23]) ws (vs ++ [Value.int x]) := by
    refine ⟨nf_inA hl rfl, sgq_2312 ?_⟩
    · show (v_iv (n_v (vs ++ [Value.int x]) 8) = 0) → (v_iv (n_v (vs ++ [Value.int x]) 9) ≤ 23)
      simp only [e_8, e_9]
      exact vc_Mo_style_25_6 (v_iv (n_v vs 3)) (v_iv (n_v vs 8)) (v_iv (n_v vs 9)) (v_iv (n_v vs 11)) (w_ei ws (w_ar ws (n_v vs 0) 160)) (w_fi ws (n_v vs 0) 158) (w_fi ws (n_v vs 0) 157) (w_fi ws (n_v vs 0) 159) (w_ei ws (w_ar ws (n_v vs 0) 161)) (w_ei ws (w_ar ws (n_v vs 0) 162)) (w_ei ws (w_ar ws (n_v vs 0) 163)) (w_ei ws (w_ar ws (n_v vs 0) 1)) (w_fi ws (n_v vs 0) 10) (w_fi ws (n_v vs 0) 8) (w_fi ws (n_v vs 0) 0) (v_iv (Value.int x)) k3 k8 k9 k11 f0 f1 f2 f3 f4 f5 f6 f7 f8 hK_0_1 hK_0_160 hK_0_162 hK_0_163 kz_0_0 kz_0_8 kz_0_10 kz_0_157 kz_0_158 kz_0_159 ex2 ex3
  have nf7 : fc_1 PRD (20, [4, 3], [50, 1, 0, 0, 1, 3, 2, 0, 0, 1, 1]) ws (vs ++ [Value.int x]) := by
    refine ⟨nf_inA hl rfl, sgq_570 ?_⟩
    · show w_fi ws (n_v (vs ++ [Value.int x]) 4) 0 = v_iv (n_v (vs ++ [Value.int x]) 3)
      simp only [e_3, e_4, q4]
      exact vc_Mo_style_25_7 (v_iv (n_v vs 3)) (v_iv (n_v vs 8)) (v_iv (n_v vs 9)) (v_iv (n_v vs 11)) (w_ei ws (w_ar ws (n_v vs 0) 160)) (w_fi ws (n_v vs 0) 158) (w_fi ws (n_v vs 0) 157) (w_fi ws (n_v vs 0) 159) (w_ei ws (w_ar ws (n_v vs 0) 161)) (w_ei ws (w_ar ws (n_v vs 0) 162)) (w_ei ws (w_ar ws (n_v vs 0) 163)) (w_ei ws (w_ar ws (n_v vs 0) 1)) (w_fi ws (n_v vs 0) 10) (w_fi ws (n_v vs 0) 8) (w_fi ws (n_v vs 0) 0) (v_iv (Value.int x)) k3 k8 k9 k11 f0 f1 f2 f3 f4 f5 f6 f7 f8 hK_0_1 hK_0_160 hK_0_162 hK_0_163 kz_0_0 kz_0_8 kz_0_10 kz_0_157 kz_0_158 kz_0_159 ex2 ex3
  have nf8 : fc_1 PRD (24, [0, 4], []) ws (vs ++ [Value.int x]) := by
    refine ⟨nf_inA hl rfl, sgq_5 ?_⟩
    · show n_v (vs ++ [Value.int x]) 0 = n_v (vs ++ [Value.int x]) 4
      first | rfl | simp only [e_0, e_4, q4]
  have nf9 : fc_1 PRD (20, [12, 4], [30, 2010, 1, 0, 0, 1, 1, 158]) ws (vs ++ [Value.int x]) := by
    refine ⟨nf_inA hl rfl, sgq_284 ?_⟩
    · show 1 * v_iv (n_v (vs ++ [Value.int x]) 12) + (1 * w_fi ws (n_v (vs ++ [Value.int x]) 4) 158 + 0) ≤ 2010
      simp only [e_4, e_12, q4]
      exact vc_Mo_style_25_9 (v_iv (n_v vs 3)) (v_iv (n_v vs 8)) (v_iv (n_v vs 9)) (v_iv (n_v vs 11)) (w_ei ws (w_ar ws (n_v vs 0) 160)) (w_fi ws (n_v vs 0) 158) (w_fi ws (n_v vs 0) 157) (w_fi ws (n_v vs 0) 159) (w_ei ws (w_ar ws (n_v vs 0) 161)) (w_ei ws (w_ar ws (n_v vs 0) 162)) (w_ei ws (w_ar ws (n_v vs 0) 163)) (w_ei ws (w_ar ws (n_v vs 0) 1)) (w_fi ws (n_v vs 0) 10) (w_fi ws (n_v vs 0) 8) (w_fi ws (n_v vs 0) 0) (v_iv (Value.int x)) k3 k8 k9 k11 f0 f1 f2 f3 f4 f5 f6 f7 f8 hK_0_1 hK_0_160 hK_0_162 hK_0_163 kz_0_0 kz_0_8 kz_0_10 kz_0_157 kz_0_158 kz_0_159 ex2 ex3
  have nf10 : fc_1 PRD (20, [12, 4], [30, -2010, -1, 0, 0, -1, 1, 158]) ws (vs ++ [Value.int x]) := by
    refine ⟨nf_inA hl rfl, sgq_285 ?_⟩
    · show (-1) * v_iv (n_v (vs ++ [Value.int x]) 12) + ((-1) * w_fi ws (n_v (vs ++ [Value.int x]) 4) 158 + 0) ≤ (-2010)
      simp only [e_4, e_12, q4]
      exact vc_Mo_style_25_10 (v_iv (n_v vs 3)) (v_iv (n_v vs 8)) (v_iv (n_v vs 9)) (v_iv (n_v vs 11)) (w_ei ws (w_ar ws (n_v vs 0) 160)) (w_fi ws (n_v vs 0) 158) (w_fi ws (n_v vs 0) 157) (w_fi ws (n_v vs 0) 159) (w_ei ws (w_ar ws (n_v vs 0) 161)) (w_ei ws (w_ar ws (n_v vs 0) 162)) (w_ei ws (w_ar ws (n_v vs 0) 163)) (w_ei ws (w_ar ws (n_v vs 0) 1)) (w_fi ws (n_v vs 0) 10) (w_fi ws (n_v vs 0) 8) (w_fi ws (n_v vs 0) 0) (v_iv (Value.int x)) k3 k8 k9 k11 f0 f1 f2 f3 f4 f5 f6 f7 f8 hK_0_1 hK_0_160 hK_0_162 hK_0_163 kz_0_0 kz_0_8 kz_0_10 kz_0_157 kz_0_158 kz_0_159 ex2 ex3
  obtain ⟨x0, e0, _, _⟩ := tv_int t11 rfl
  have e1 : v_iv (n_v vs 11) = x0.toInt := by rw [e0]; rfl
  have ho : sy_ofs (vs ++ [Value.int x]) (12, 11, -1000000000000, -1) := by
    refine ⟨x, x0, by rw [List.getElem?_append_right (by rw [hl]; decide), hl]; rfl, ?_, ?_, ?_⟩
    · rw [List.getElem?_append_left (by rw [hl]; decide)]; exact n_v_some (by rw [hl]; decide) e0
    · show x0.toInt + (-1000000000000) ≤ x.toInt; omega
    · show x.toInt ≤ x0.toInt + (-1); omega
  exact ⟨(fun _ h => (by cases h)), [Value.int x], ag_one hx, List.forall_mem_cons.mpr ⟨⟨show (20 : Nat) < 100 from by decide, nf0⟩, List.forall_mem_cons.mpr ⟨⟨show (20 : Nat) < 100 from by decide, nf1⟩, List.forall_mem_cons.mpr ⟨⟨show (20 : Nat) < 100 from by decide, nf2⟩, List.forall_mem_cons.mpr ⟨⟨show (20 : Nat) < 100 from by decide, nf3⟩, List.forall_mem_cons.mpr ⟨⟨show (20 : Nat) < 100 from by decide, nf4⟩, List.forall_mem_cons.mpr ⟨⟨show (20 : Nat) < 100 from by decide, nf5⟩, List.forall_mem_cons.mpr ⟨⟨show (20 : Nat) < 100 from by decide, nf6⟩, List.forall_mem_cons.mpr ⟨⟨show (20 : Nat) < 100 from by decide, nf7⟩, List.forall_mem_cons.mpr ⟨⟨show (24 : Nat) < 100 from by decide, nf8⟩, List.forall_mem_cons.mpr ⟨⟨show (20 : Nat) < 100 from by decide, nf9⟩, List.forall_mem_cons.mpr ⟨⟨show (20 : Nat) < 100 from by decide, nf10⟩, (fun _ h => (by cases h))⟩⟩⟩⟩⟩⟩⟩⟩⟩⟩⟩, List.forall_mem_cons.mpr ⟨ho, (fun _ h => (by cases h))⟩⟩
def n_Mo_style_an : List an_T := [(69, [(0, (2, 0, 0, [165])), (1, (0, 0, 3, [])), (2, (0, 0, 2000, [])), (3, (0, (Int.negSucc 2147483647), 2147483647, []))], [], (0, 0), [(0, 0, 99931), (2, 8, (Int.negSucc 0)), (0, 0, 100000), (0, 0, 0), (0, 0, 0), (0, 0, 0), (0, 0, 0)], [(1, 2, (Int.negSucc 999999999999), 3), (1, 3, (Int.negSucc 999999999999), 3), (1, 5, (Int.negSucc 999999999999), 0), (1, 6, (Int.negSucc 999999999999), 3), (1, 7, (Int.negSucc 999999999999), 2147483651), (2, 1, (Int.negSucc 999999999999), 2000), (2, 3, (Int.negSucc 999999999999), 2000), (2, 5, (Int.negSucc 999999999999), 2000), (2, 6, (Int.negSucc 999999999999), 0), (2, 7, (Int.negSucc 999999999999), 2147485648), (3, 1, (Int.negSucc 999999999999), 2000), (3, 2, (Int.negSucc 999999999999), 2000), (5, 1, (Int.negSucc 999999999999), 0), (5, 2, (Int.negSucc 999999999999), 3), (6, 1, (Int.negSucc 999999999999), 2000), (6, 2, (Int.negSucc 999999999999), 0)], [], [(2, 0, 0, [165]), (0, (Int.negSucc 2147483647), 2147483647, []), (0, (Int.negSucc 2147483647), 2147483647, []), (0, 0, 2000, [])], 0, [(0, (Int.negSucc 0), 2015, [])], [(20, [4], [50, 2, 1, 158, 157, 160, 2, 12, 0, 7, 4, 3, 2, 0, 158, 0, 1, 2, 0, 157, 2, 7, 0, 3, 2, 0, 157, 0, 2010, 3, 14, 1, 10, 3, 0, 160, 5, 3, 2, 0, 157, 0, 1, 0, 0, 1, 10, 3, 0, 160, 5, 3, 2, 0, 157, 0, 1, 0, 4]), (20, [4], [30, 0, 1, 1, 159]), (20, [4], [30, 0, (Int.negSucc 0), 1, 159]), (20, [4], [60, 3, 5, 70, 8, 158, 10, 160, 161, 162, 163, 1]), (20, [4], [50, 1, 0, 165, 1, 3, 2, 0, 165, 0, (Int.negSucc 0)]), (20, [4], [60, 1, 1, 197, 5, 2]), (20, [4, 3], [50, 1, 0, 0, 1, 3, 2, 0, 0, 1, 1]), (24, [0, 4], []), (20, [8, 4, 4], [30, 2015, 1, 0, 0, 1, 1, 158, 1, 1, 8]), (20, [8, 4, 4], [30, (Int.negSucc 2014), (Int.negSucc 0), 0, 0, (Int.negSucc 0), 1, 158, (Int.negSucc 0), 1, 8])]), (92, [(0, (2, 0, 0, [165])), (1, (0, 0, 3, [])), (2, (0, 0, 2000, [])), (3, (0, (Int.negSucc 2147483647), 2147483647, []))], [], (0, 0), [(0, 0, 99931), (2, 8, (Int.negSucc 0)), (0, 0, 99908), (0, 0, 0), (0, 0, 0), (0, 0, 0), (0, 0, 0)], [(1, 2, (Int.negSucc 999999999999), 3), (1, 3, (Int.negSucc 999999999999), 3), (1, 5, (Int.negSucc 999999999999), 0), (1, 6, (Int.negSucc 999999999999), 3), (1, 7, (Int.negSucc 999999999999), 2147483651), (2, 1, (Int.negSucc 999999999999), 2000), (2, 3, (Int.negSucc 999999999999), 2000), (2, 5, (Int.negSucc 999999999999), 2000), (2, 6, (Int.negSucc 999999999999), 0), (2, 7, (Int.negSucc 999999999999), 2147485648), (3, 1, (Int.negSucc 999999999999), 2000), (3, 2, (Int.negSucc 999999999999), 2000), (5, 1, (Int.negSucc 999999999999), 0), (5, 2, (Int.negSucc 999999999999), 3), (6, 1, (Int.negSucc 999999999999), 2000), (6, 2, (Int.negSucc 999999999999), 0)], [], [(2, 0, 0, [165]), (0, (Int.negSucc 2147483647), 2147483647, []), (0, (Int.negSucc 2147483647), 2147483647, []), (0, 0, 2000, [])], 0, [(0, (Int.negSucc 0), 2015, [])], [(20, [4], [50, 2, 1, 158, 157, 160, 2, 12, 0, 7, 4, 3, 2, 0, 158, 0, 1, 2, 0, 157, 2, 7, 0, 3, 2, 0, 157, 0, 2010, 3, 14, 1, 10, 3, 0, 160, 5, 3, 2, 0, 157, 0, 1, 0, 0, 1, 10, 3, 0, 160, 5, 3, 2, 0, 157, 0, 1, 0, 4]), (20, [8, 4, 4], [30, (Int.negSucc 2015), (Int.negSucc 0), 0, 0, (Int.negSucc 0), 1, 158, (Int.negSucc 0), 1, 8]), (20, [4], [30, 0, 1, 1, 159]), (20, [4], [30, 0, (Int.negSucc 0), 1, 159]), (20, [4], [60, 3, 5, 70, 8, 158, 10, 160, 161, 162, 163, 1]), (20, [4], [50, 1, 0, 165, 1, 3, 2, 0, 165, 0, (Int.negSucc 0)]), (20, [4], [60, 1, 1, 197, 5, 2]), (20, [4, 3], [50, 1, 0, 0, 1, 3, 2, 0, 0, 1, 1]), (24, [0, 4], [])]), (114, [(0, (2, 0, 0, [165])), (1, (0, 0, 3, [])), (2, (0, 0, 2000, [])), (3, (0, (Int.negSucc 2147483647), 2147483647, [])), (4, (0, 0, 216, []))], [], (0, 0), [(0, 0, 99886), (1, 8, 216), (0, 0, 100000), (0, 0, 0), (0, 0, 0), (0, 0, 0), (0, 0, 0)], [(1, 2, (Int.negSucc 999999999999), 3), (1, 3, (Int.negSucc 999999999999), 3), (1, 5, (Int.negSucc 999999999999), 0), (1, 6, (Int.negSucc 999999999999), 3), (1, 7, (Int.negSucc 999999999999), 2147483651), (1, 8, (Int.negSucc 999999999999), 3), (2, 1, (Int.negSucc 999999999999), 2000), (2, 3, (Int.negSucc 999999999999), 2000), (2, 5, (Int.negSucc 999999999999), 2000), (2, 6, (Int.negSucc 999999999999), 0), (2, 7, (Int.negSucc 999999999999), 2147485648), (2, 8, (Int.negSucc 999999999999), 2000), (3, 1, (Int.negSucc 999999999999), 2000), (3, 2, (Int.negSucc 999999999999), 2000), (5, 1, (Int.negSucc 999999999999), 0), (5, 2, (Int.negSucc 999999999999), 3), (6, 1, (Int.negSucc 999999999999), 2000), (6, 2, (Int.negSucc 999999999999), 0)], [], [(2, 0, 0, [165]), (0, (Int.negSucc 2147483647), 2147483647, []), (0, (Int.negSucc 2147483647), 2147483647, []), (0, 0, 2000, [])], 0, [], [(20, [4], [60, 1, 5, 74, 10, 160, 161, 162, 163, 1]), (20, [4], [50, 1, 0, 8, 1, 3, 2, 0, 8, 0, 0]), (20, [4], [50, 2, 1, 158, 157, 160, 2, 12, 0, 7, 4, 3, 2, 0, 158, 0, 1, 2, 0, 157, 2, 7, 0, 3, 2, 0, 157, 0, 2010, 3, 14, 1, 10, 3, 0, 160, 5, 3, 2, 0, 157, 0, 1, 0, 0, 1, 10, 3, 0, 160, 5, 3, 2, 0, 157, 0, 1, 0, 4]), (20, [4], [50, 1, 0, 157, 0, 2, 0, 1, 2, 0, 157]), (20, [4], [30, 0, 1, 1, 159]), (20, [4], [30, 0, (Int.negSucc 0), 1, 159]), (20, [4, 3], [50, 1, 0, 0, 1, 3, 2, 0, 0, 1, 1]), (24, [0, 4], [])]), (145, [(0, (2, 0, 0, [165])), (1, (0, 0, 3, [])), (2, (0, 0, 2000, [])), (3, (0, (Int.negSucc 2147483647), 2147483647, [])), (4, (0, 0, 2, []))], [], (0, 0), [(0, 0, 99855), (1, 8, 2), (0, 0, 100000), (0, 0, 0), (0, 0, 0), (0, 0, 0), (0, 0, 0)], [(1, 2, (Int.negSucc 999999999999), 3), (1, 3, (Int.negSucc 999999999999), 3), (1, 5, (Int.negSucc 999999999999), 0), (1, 6, (Int.negSucc 999999999999), 3), (1, 7, (Int.negSucc 999999999999), 2147483651), (1, 8, (Int.negSucc 999999999999), 3), (1, 9, (Int.negSucc 999999999999), 3), (1, 10, (Int.negSucc 999999999999), 4), (2, 1, (Int.negSucc 999999999999), 2000), (2, 3, (Int.negSucc 999999999999), 2000), (2, 5, (Int.negSucc 999999999999), 2000), (2, 6, (Int.negSucc 999999999999), 0), (2, 7, (Int.negSucc 999999999999), 2147485648), (2, 8, (Int.negSucc 999999999999), 2000), (2, 9, (Int.negSucc 999999999999), 2000), (2, 10, (Int.negSucc 999999999999), 2001), (3, 1, (Int.negSucc 999999999999), 2000), (3, 2, (Int.negSucc 999999999999), 2000), (5, 1, (Int.negSucc 999999999999), 0), (5, 2, (Int.negSucc 999999999999), 3), (6, 1, (Int.negSucc 999999999999), 2000), (6, 2, (Int.negSucc 999999999999), 0)], [((0, 158), (0, 0, 2009, [])), ((0, 165), (0, (Int.negSucc 0), 47, []))], [(2, 0, 0, [165]), (0, (Int.negSucc 2147483647), 2147483647, []), (0, (Int.negSucc 2147483647), 2147483647, []), (0, 0, 2000, [])], 0, [], [(20, [4], [60, 1, 5, 74, 10, 160, 161, 162, 163, 1]), (20, [4], [50, 1, 0, 8, 1, 3, 2, 0, 8, 0, 0]), (20, [4], [50, 2, 1, 158, 157, 160, 2, 12, 0, 7, 4, 3, 2, 0, 158, 0, 1, 2, 0, 157, 2, 7, 0, 3, 2, 0, 157, 0, 2010, 3, 14, 1, 10, 3, 0, 160, 5, 3, 2, 0, 157, 0, 1, 0, 0, 1, 10, 3, 0, 160, 5, 3, 2, 0, 157, 0, 1, 0, 4]), (20, [4], [50, 1, 0, 157, 0, 2, 0, 1, 2, 0, 157]), (20, [4], [30, 0, 1, 1, 159]), (20, [4], [30, 0, (Int.negSucc 0), 1, 159]), (20, [4, 3], [50, 1, 0, 0, 1, 3, 2, 0, 0, 1, 1]), (24, [0, 4], [])]), (154, [(0, (2, 0, 0, [165])), (1, (0, 0, 3, [])), (2, (0, 0, 2000, [])), (3, (0, (Int.negSucc 2147483647), 2147483647, [])), (4, (0, 0, 1, [])), (5, (0, 0, 48, []))], [], (0, 0), [(0, 0, 99855), (1, 8, 2), (0, 0, 99846), (1, 9, 48), (0, 0, 100000), (0, 0, 0), (0, 0, 0)], [(1, 2, (Int.negSucc 999999999999), 3), (1, 3, (Int.negSucc 999999999999), 3), (1, 5, (Int.negSucc 999999999999), 0), (1, 6, (Int.negSucc 999999999999), 3), (1, 7, (Int.negSucc 999999999999), 2147483651), (1, 8, (Int.negSucc 999999999999), 3), (1, 9, (Int.negSucc 999999999999), 3), (1, 10, (Int.negSucc 999999999999), 3), (1, 11, (Int.negSucc 999999999999), 4), (2, 1, (Int.negSucc 999999999999), 2000), (2, 3, (Int.negSucc 999999999999), 2000), (2, 5, (Int.negSucc 999999999999), 2000), (2, 6, (Int.negSucc 999999999999), 0), (2, 7, (Int.negSucc 999999999999), 2147485648), (2, 8, (Int.negSucc 999999999999), 2000), (2, 9, (Int.negSucc 999999999999), 2000), (2, 10, (Int.negSucc 999999999999), 2000), (2, 11, (Int.negSucc 999999999999), 2001), (3, 1, (Int.negSucc 999999999999), 2000), (3, 2, (Int.negSucc 999999999999), 2000), (5, 1, (Int.negSucc 999999999999), 0), (5, 2, (Int.negSucc 999999999999), 3), (6, 1, (Int.negSucc 999999999999), 2000), (6, 2, (Int.negSucc 999999999999), 0), (11, 1, (Int.negSucc 999999999999), 2147483695), (11, 2, (Int.negSucc 999999999999), 2147483695)], [((0, 158), (0, 0, 2009, [])), ((0, 165), (0, (Int.negSucc 0), 47, []))], [(2, 0, 0, [165]), (0, (Int.negSucc 2147483647), 2147483647, []), (0, (Int.negSucc 2147483647), 2147483647, []), (0, 0, 2000, [])], 0, [], [(20, [4], [60, 1, 5, 74, 10, 160, 161, 162, 163, 1]), (20, [4], [50, 1, 0, 8, 1, 3, 2, 0, 8, 0, 0]), (20, [4], [50, 2, 1, 158, 157, 160, 2, 12, 0, 7, 4, 3, 2, 0, 158, 0, 1, 2, 0, 157, 2, 7, 0, 3, 2, 0, 157, 0, 2010, 3, 14, 1, 10, 3, 0, 160, 5, 3, 2, 0, 157, 0, 1, 0, 0, 1, 10, 3, 0, 160, 5, 3, 2, 0, 157, 0, 1, 0, 4]), (20, [4], [50, 1, 0, 157, 0, 2, 0, 1, 2, 0, 157]), (20, [4], [30, 0, 1, 1, 159]), (20, [4], [30, 0, (Int.negSucc 0), 1, 159]), (20, [4, 3], [50, 1, 0, 0, 1, 3, 2, 0, 0, 1, 1]), (24, [0, 4], [])]), (180, [(0, (2, 0, 0, [165])), (1, (0, 0, 3, [])), (2, (0, 0, 2000, [])), (3, (0, (Int.negSucc 2147483647), 2147483647, [])), (4, (0, 0, 1, [])), (5, (0, 0, 47, []))], [], (0, 0), [(0, 0, 99855), (1, 8, 2), (0, 0, 99846), (1, 9, 48), (0, 0, 99820), (2, 11, 0), (0, 0, 100000)], [(1, 2, (Int.negSucc 999999999999), 3), (1, 3, (Int.negSucc 999999999999), 3), (1, 5, (Int.negSucc 999999999999), 0), (1, 6, (Int.negSucc 999999999999), 3), (1, 7, (Int.negSucc 999999999999), 2147483651), (1, 8, (Int.negSucc 999999999999), 3), (1, 9, (Int.negSucc 999999999999), 3), (1, 10, (Int.negSucc 999999999999), 4), (2, 1, (Int.negSucc 999999999999), 2000), (2, 3, (Int.negSucc 999999999999), 2000), (2, 5, (Int.negSucc 999999999999), 2000), (2, 6, (Int.negSucc 999999999999), 0), (2, 7, (Int.negSucc 999999999999), 2147485648), (2, 8, (Int.negSucc 999999999999), 2000), (2, 9, (Int.negSucc 999999999999), 2000), (2, 10, (Int.negSucc 999999999999), 2001), (3, 1, (Int.negSucc 999999999999), 2000), (3, 2, (Int.negSucc 999999999999), 2000), (5, 1, (Int.negSucc 999999999999), 0), (5, 2, (Int.negSucc 999999999999), 3), (6, 1, (Int.negSucc 999999999999), 2000), (6, 2, (Int.negSucc 999999999999), 0), (8, 1, (Int.negSucc 999999999999), 2147483649), (8, 2, (Int.negSucc 999999999999), 2147483649)], [((0, 165), (0, (Int.negSucc 0), 47, []))], [(2, 0, 0, [165]), (0, (Int.negSucc 2147483647), 2147483647, []), (0, (Int.negSucc 2147483647), 2147483647, []), (0, 0, 2000, [])], 0, [(0, 0, 2010, [])], [(20, [4], [50, 2, 1, 158, 157, 160, 2, 12, 0, 7, 4, 3, 2, 0, 158, 0, 1, 2, 0, 157, 2, 7, 0, 3, 2, 0, 157, 0, 2010, 3, 14, 1, 10, 3, 0, 160, 5, 3, 2, 0, 157, 0, 1, 0, 0, 1, 10, 3, 0, 160, 5, 3, 2, 0, 157, 0, 1, 0, 4]), (20, [4], [30, 0, 1, 1, 159]), (20, [4], [30, 0, (Int.negSucc 0), 1, 159]), (20, [4], [60, 1, 5, 74, 10, 160, 161, 162, 163, 1]), (20, [4], [50, 1, 0, 8, 1, 3, 2, 0, 8, 0, 0]), (20, [4], [60, 3, 5, 71, 8, 158, 10, 160, 161, 162, 163, 1]), (20, [8, 9], [50, 0, 0, 4, 6, 1, 2, 1, 0, 0, 0, 0, 2, 1, 1, 0, 23]), (20, [4, 3], [50, 1, 0, 0, 1, 3, 2, 0, 0, 1, 1]), (24, [0, 4], []), (20, [11, 4], [30, 2010, 1, 0, 0, 1, 1, 158]), (20, [11, 4], [30, (Int.negSucc 2009), (Int.negSucc 0), 0, 0, (Int.negSucc 0), 1, 158])]), (226, [(0, (2, 0, 0, [165])), (1, (0, 0, 3, [])), (2, (0, 0, 2000, [])), (3, (0, (Int.negSucc 2147483647), 2147483647, [])), (4, (0, 0, 1, [])), (5, (0, 0, 47, []))], [], (0, 0), [(0, 0, 99855), (1, 8, 2), (0, 0, 99846), (1, 9, 48), (0, 0, 99820), (2, 11, 0), (0, 0, 99774)], [(1, 2, (Int.negSucc 999999999999), 3), (1, 3, (Int.negSucc 999999999999), 3), (1, 5, (Int.negSucc 999999999999), 0), (1, 6, (Int.negSucc 999999999999), 3), (1, 7, (Int.negSucc 999999999999), 2147483651), (1, 8, (Int.negSucc 999999999999), 3), (1, 9, (Int.negSucc 999999999999), 3), (1, 10, (Int.negSucc 999999999999), 4), (2, 1, (Int.negSucc 999999999999), 2000), (2, 3, (Int.negSucc 999999999999), 2000), (2, 5, (Int.negSucc 999999999999), 2000), (2, 6, (Int.negSucc 999999999999), 0), (2, 7, (Int.negSucc 999999999999), 2147485648), (2, 8, (Int.negSucc 999999999999), 2000), (2, 9, (Int.negSucc 999999999999), 2000), (2, 10, (Int.negSucc 999999999999), 2001), (3, 1, (Int.negSucc 999999999999), 2000), (3, 2, (Int.negSucc 999999999999), 2000), (5, 1, (Int.negSucc 999999999999), 0), (5, 2, (Int.negSucc 999999999999), 3), (6, 1, (Int.negSucc 999999999999), 2000), (6, 2, (Int.negSucc 999999999999), 0), (8, 1, (Int.negSucc 999999999999), 2147483649), (8, 2, (Int.negSucc 999999999999), 2147483649), (10, 9, (Int.negSucc 999999999999), 0)], [((0, 165), (0, (Int.negSucc 0), 47, []))], [(2, 0, 0, [165]), (0, (Int.negSucc 2147483647), 2147483647, []), (0, (Int.negSucc 2147483647), 2147483647, []), (0, 0, 2000, [])], 0, [(0, 0, 2010, [])], [(20, [8, 9], [50, 0, 0, 4, 6, 1, 2, 1, 0, 0, 0, 0, 2, 1, 1, 0, 23]), (20, [4], [50, 2, 1, 158, 157, 160, 2, 12, 0, 7, 4, 3, 2, 0, 158, 0, 1, 2, 0, 157, 2, 7, 0, 3, 2, 0, 157, 0, 2010, 3, 14, 1, 10, 3, 0, 160, 5, 3, 2, 0, 157, 0, 1, 0, 0, 1, 10, 3, 0, 160, 5, 3, 2, 0, 157, 0, 1, 0, 4]), (20, [4], [30, 0, 1, 1, 159]), (20, [4], [30, 0, (Int.negSucc 0), 1, 159]), (20, [4], [60, 1, 5, 74, 10, 160, 161, 162, 163, 1]), (20, [4], [50, 1, 0, 8, 1, 3, 2, 0, 8, 0, 0]), (20, [4], [60, 3, 5, 71, 8, 158, 10, 160, 161, 162, 163, 1]), (20, [11, 4], [30, (Int.negSucc 2010), (Int.negSucc 0), 0, 0, (Int.negSucc 0), 1, 158]), (20, [4, 3], [50, 1, 0, 0, 1, 3, 2, 0, 0, 1, 1]), (24, [0, 4], [])])]
def t_Mo_style_ct : ct_L := [(0, 521, e_Mo_isPlace), (1, 401, e_Mo_edges), (1, 475, e_Mo_nodes), (1, 527, e_Mo_take), (1, 1178, e_Mo_styleTokens), (1, 1187, e_Mo_prepare), (271, 1184, e_Mo_rule_at_f0), (595, 1190, e_Mo_word_at_s5000), (673, 1184, e_Mo_rule_at_f0), (1000001, 467, en_ro [] (2, 0, 0, [5000]))]
set_option maxRecDepth 100000 in
theorem c_Mo_style {l : Launch} {D : va_G} {kA : Nat → ClassId} (h_Mo_edges : ct_ok PRD l D kA GG y_Mo_edges z_Mo_edges e_Mo_edges) (h_Mo_isPlace : ct_ok PRD l D kA GG y_Mo_isPlace z_Mo_isPlace e_Mo_isPlace) (h_Mo_nodes : ct_ok PRD l D kA GG y_Mo_nodes z_Mo_nodes e_Mo_nodes) (h_Mo_prepare : ct_ok PRD l D kA GG y_Mo_prepare z_Mo_prepare e_Mo_prepare) (h_Mo_rule_at_f0 : ct_ok PRD l D kA GG y_Mo_rule_at_f0 z_Mo_rule_at_f0 e_Mo_rule_at_f0) (h_Mo_styleTokens : ct_ok PRD l D kA GG y_Mo_styleTokens z_Mo_styleTokens e_Mo_styleTokens) (h_Mo_take : ct_ok PRD l D kA GG y_Mo_take z_Mo_take e_Mo_take) (h_Mo_word_at_s5000 : ct_ok PRD l D kA GG y_Mo_word_at_s5000 z_Mo_word_at_s5000 e_Mo_word_at_s5000) : ct_ok PRD l D kA GG y_Mo_style z_Mo_style e_Mo_style := chk_all_ok (FT := [(156, 13, 73), (342, 13, 160), (383, 13, 0), (413, 13, 8), (1169, 13, 158)]) (PT := [(383, 13, 0, .int), (409, 13, 7, .boolean), (413, 13, 8, .int), (1020, 13, 139, .int), (1169, 13, 158, .int), (1175, 13, 159, .int), (1181, 13, 165, .int)]) (CT := t_Mo_style_ct) (KT := []) (NT := []) (AN := n_Mo_style_an) (OT := [o_Mo_style_0, o_Mo_style_1, o_Mo_style_2, o_Mo_style_3, o_Mo_style_4, o_Mo_style_5, o_Mo_style_6, o_Mo_style_7, o_Mo_style_8, o_Mo_style_9, o_Mo_style_10, o_Mo_style_11, o_Mo_style_12, o_Mo_style_13, o_Mo_style_14, o_Mo_style_15, o_Mo_style_16, o_Mo_style_17, o_Mo_style_18, o_Mo_style_19, o_Mo_style_20, o_Mo_style_21, o_Mo_style_22, o_Mo_style_23, o_Mo_style_24, o_Mo_style_25]) 7 616 (List.forall_mem_cons.mpr ⟨oo_Mo_style_0, List.forall_mem_cons.mpr ⟨oo_Mo_style_1, List.forall_mem_cons.mpr ⟨oo_Mo_style_2, List.forall_mem_cons.mpr ⟨oo_Mo_style_3, List.forall_mem_cons.mpr ⟨oo_Mo_style_4, List.forall_mem_cons.mpr ⟨oo_Mo_style_5, List.forall_mem_cons.mpr ⟨oo_Mo_style_6, List.forall_mem_cons.mpr ⟨oo_Mo_style_7, List.forall_mem_cons.mpr ⟨oo_Mo_style_8, List.forall_mem_cons.mpr ⟨oo_Mo_style_9, List.forall_mem_cons.mpr ⟨oo_Mo_style_10, List.forall_mem_cons.mpr ⟨oo_Mo_style_11, List.forall_mem_cons.mpr ⟨oo_Mo_style_12, List.forall_mem_cons.mpr ⟨oo_Mo_style_13, List.forall_mem_cons.mpr ⟨oo_Mo_style_14, List.forall_mem_cons.mpr ⟨oo_Mo_style_15, List.forall_mem_cons.mpr ⟨oo_Mo_style_16, List.forall_mem_cons.mpr ⟨oo_Mo_style_17, List.forall_mem_cons.mpr ⟨oo_Mo_style_18, List.forall_mem_cons.mpr ⟨oo_Mo_style_19, List.forall_mem_cons.mpr ⟨oo_Mo_style_20, List.forall_mem_cons.mpr ⟨oo_Mo_style_21, List.forall_mem_cons.mpr ⟨oo_Mo_style_22, List.forall_mem_cons.mpr ⟨oo_Mo_style_23, List.forall_mem_cons.mpr ⟨oo_Mo_style_24, List.forall_mem_cons.mpr ⟨oo_Mo_style_25, List.forall_mem_nil _⟩⟩⟩⟩⟩⟩⟩⟩⟩⟩⟩⟩⟩⟩⟩⟩⟩⟩⟩⟩⟩⟩⟩⟩⟩⟩) (by decide +kernel) ⟨List.forall_mem_cons.mpr ⟨gf_Mo_156, List.forall_mem_cons.mpr ⟨gf_Mo_342, List.forall_mem_cons.mpr ⟨gf_Mo_383, List.forall_mem_cons.mpr ⟨gf_Mo_413, List.forall_mem_cons.mpr ⟨gf_Mo_1169, List.forall_mem_nil _⟩⟩⟩⟩⟩, List.forall_mem_cons.mpr ⟨pf_Mo_383, List.forall_mem_cons.mpr ⟨pf_Mo_409, List.forall_mem_cons.mpr ⟨pf_Mo_413, List.forall_mem_cons.mpr ⟨pf_Mo_1020, List.forall_mem_cons.mpr ⟨pf_Mo_1169, List.forall_mem_cons.mpr ⟨pf_Mo_1175, List.forall_mem_cons.mpr ⟨pf_Mo_1181, List.forall_mem_nil _⟩⟩⟩⟩⟩⟩⟩, List.forall_mem_cons.mpr ⟨cl_static (y := y_Mo_isPlace) h_Mo_isPlace wm_2978 wm_9 wm_2976 wm_2977 ⟨by decide, by decide, by decide +kernel⟩ (by decide), List.forall_mem_cons.mpr ⟨cl_virtual (y := y_Mo_edges) (ci := 13) rfl rfl ⟨_, _, rfl⟩ (by decide +kernel) h_Mo_edges wm_3037 wm_9 wm_3034 wm_3036 wv_13_6 ⟨by decide, by decide, by decide +kernel⟩ (by decide), List.forall_mem_cons.mpr ⟨cl_virtual (y := y_Mo_nodes) (ci := 13) rfl rfl ⟨_, _, rfl⟩ (by decide +kernel) h_Mo_nodes wm_3025 wm_9 wm_3022 wm_3024 wv_13_3 ⟨by decide, by decide, by decide +kernel⟩ (by decide), List.forall_mem_cons.mpr ⟨cl_virtual (y := y_Mo_take) (ci := 13) rfl rfl ⟨_, _, rfl⟩ (by decide +kernel) h_Mo_take wm_3091 wm_9 wm_3088 wm_3090 wv_14_2 ⟨by decide, by decide, by decide +kernel⟩ (by decide), List.forall_mem_cons.mpr ⟨cl_virtual (y := y_Mo_styleTokens) (ci := 13) rfl rfl ⟨_, _, rfl⟩ (by decide +kernel) h_Mo_styleTokens wm_3798 wm_9 wm_3795 wm_3797 wv_23_4 ⟨by decide, by decide, by decide +kernel⟩ (by decide), List.forall_mem_cons.mpr ⟨cl_virtual (y := y_Mo_prepare) (ci := 13) rfl rfl ⟨_, _, rfl⟩ (by decide +kernel) h_Mo_prepare wm_3893 wm_9 wm_3890 wm_3892 wv_24_5 ⟨by decide, by decide, by decide +kernel⟩ (by decide), List.forall_mem_cons.mpr ⟨cl_virtual (y := y_Mo_rule_at_f0) (ci := 13) rfl rfl ⟨_, _, rfl⟩ (by decide +kernel) h_Mo_rule_at_f0 wm_3805 wm_9 wm_3802 wm_3804 wv_23_5 ⟨by decide, by decide, by decide +kernel⟩ (by decide), List.forall_mem_cons.mpr ⟨cl_virtual (y := y_Mo_word_at_s5000) (ci := 13) rfl rfl ⟨_, _, rfl⟩ (by decide +kernel) h_Mo_word_at_s5000 wm_3809 wm_9 wm_3806 wm_3808 wv_23_6 ⟨by decide, by decide, by decide +kernel⟩ (by decide), List.forall_mem_cons.mpr ⟨cl_virtual (y := y_Mo_rule_at_f0) (ci := 13) rfl rfl ⟨_, _, rfl⟩ (by decide +kernel) h_Mo_rule_at_f0 wm_3805 wm_9 wm_3802 wm_3804 wv_23_5 ⟨by decide, by decide, by decide +kernel⟩ (by decide), List.forall_mem_cons.mpr ⟨cl_ldcw (own := "DrawingHouseModel") (idx := 467) (i := 0) (tx := "node") (by decide +kernel) (by decide +kernel) (by decide +kernel), List.forall_mem_nil _⟩⟩⟩⟩⟩⟩⟩⟩⟩⟩, List.forall_mem_nil _, List.forall_mem_nil _, GG_pl⟩ (by decide +kernel)
set_option maxHeartbeats 4000000 in
theorem vc_Ho_style_0_0 (x1 : Int) (x2 : Int) (x4 : Int) (length_0o3 : Int) (k1 : (-2147483648) ≤ x1 ∧ x1 ≤ (-1)) (k2 : (-2147483648) ≤ x2 ∧ x2 ≤ 2147483647) (k4 : 0 ≤ x4 ∧ x4 ≤ 2000) (f0 : ((0 ≤ x1) ∧ ((x1 ≤ 3) ∧ ((0 ≤ x2) ∧ ((x2 ≤ length_0o3) ∧ (x4 = 0))))) ∨ (((x1 ≤ (-1)) ∨ ((4 ≤ x1) ∨ ((x2 ≤ (-1)) ∨ ((length_0o3 + 1) ≤ x2)))) ∧ (x4 = length_0o3))) (kz_3_1 : 0 ≤ length_0o3 ∧ length_0o3 ≤ 2000) : length_0o3 = x4 := by
  first | omega
def o_Ho_style_0 : or_T := (24, 7, [(1, (0, -2147483648, -1, [])), (2, (0, -2147483648, 2147483647, [])), (3, (2, 0, 0, [8])), (4, (0, 0, 2000, []))], [(20, [1, 2, 3, 4], [50, 1, 0, 2001, 3, 39, 2, 6, 0, 2, 0, 0, 1, 0, 2, 6, 0, 2, 1, 0, 0, 3, 2, 6, 0, 2, 0, 0, 1, 1, 2, 7, 0, 2, 1, 1, 2, 2, 1, 1, 2, 1, 3, 0, 0, 2, 35, 3, 6, 0, 2, 1, 0, 0, -1, 3, 6, 0, 2, 0, 4, 1, 0, 3, 6, 0, 2, 1, 1, 0, -1, 0, 7, 4, 3, 2, 2, 1, 0, 1, 1, 1, 1, 2, 1, 3, 2, 2, 1])], [], [], [(20, [3, 4], [50, 1, 0, 1, 1, 3, 2, 0, 1, 1, 1])], [], [])
theorem oo_Ho_style_0 {kA : Nat → ClassId} : or_ok PRD kA GG o_Ho_style_0 := by
  refine or_mk fun A ta ws vs hD hth hl => ?_
  intro t1 k1 t2 k2 t3 r3 t4 k4 f0
  have kz_3_1 := fdq_96 hD hth r3
  have nf0 : fc_1 PRD (20, [3, 4], [50, 1, 0, 1, 1, 3, 2, 0, 1, 1, 1]) ws (vs) := ⟨nf_in hl rfl, sgq_790 (vc_Ho_style_0_0 (v_iv (n_v vs 1)) (v_iv (n_v vs 2)) (v_iv (n_v vs 4)) (w_fi ws (n_v vs 3) 1) k1 k2 k4 (shm_2276 f0) kz_3_1)⟩
  refine ⟨(fun _ h => (by cases h)), [], trivial, ?_, (fun _ h => (by cases h))⟩
  rw [List.append_nil]
  exact List.forall_mem_cons.mpr ⟨⟨show (20 : Nat) < 100 from by decide, nf0⟩, (fun _ h => (by cases h))⟩
set_option maxHeartbeats 4000000 in
theorem vc_Ho_style_1_0 (x1 : Int) (x2 : Int) (x4 : Int) (length_0o3 : Int) (k1 : 4 ≤ x1 ∧ x1 ≤ 2147483647) (k2 : (-2147483648) ≤ x2 ∧ x2 ≤ 2147483647) (k4 : 0 ≤ x4 ∧ x4 ≤ 2000) (f0 : ((0 ≤ x1) ∧ ((x1 ≤ 3) ∧ ((0 ≤ x2) ∧ ((x2 ≤ length_0o3) ∧ (x4 = 0))))) ∨ (((x1 ≤ (-1)) ∨ ((4 ≤ x1) ∨ ((x2 ≤ (-1)) ∨ ((length_0o3 + 1) ≤ x2)))) ∧ (x4 = length_0o3))) (kz_3_1 : 0 ≤ length_0o3 ∧ length_0o3 ≤ 2000) : length_0o3 = x4 := by
  first | omega
def o_Ho_style_1 : or_T := (24, 7, [(1, (0, 4, 2147483647, [])), (2, (0, -2147483648, 2147483647, [])), (3, (2, 0, 0, [8])), (4, (0, 0, 2000, []))], [(20, [1, 2, 3, 4], [50, 1, 0, 2001, 3, 39, 2, 6, 0, 2, 0, 0, 1, 0, 2, 6, 0, 2, 1, 0, 0, 3, 2, 6, 0, 2, 0, 0, 1, 1, 2, 7, 0, 2, 1, 1, 2, 2, 1, 1, 2, 1, 3, 0, 0, 2, 35, 3, 6, 0, 2, 1, 0, 0, -1, 3, 6, 0, 2, 0, 4, 1, 0, 3, 6, 0, 2, 1, 1, 0, -1, 0, 7, 4, 3, 2, 2, 1, 0, 1, 1, 1, 1, 2, 1, 3, 2, 2, 1])], [], [], [(20, [3, 4], [50, 1, 0, 1, 1, 3, 2, 0, 1, 1, 1])], [], [])
theorem oo_Ho_style_1 {kA : Nat → ClassId} : or_ok PRD kA GG o_Ho_style_1 := by
  refine or_mk fun A ta ws vs hD hth hl => ?_
  intro t1 k1 t2 k2 t3 r3 t4 k4 f0
  have kz_3_1 := fdq_96 hD hth r3
  have nf0 : fc_1 PRD (20, [3, 4], [50, 1, 0, 1, 1, 3, 2, 0, 1, 1, 1]) ws (vs) := ⟨nf_in hl rfl, sgq_790 (vc_Ho_style_1_0 (v_iv (n_v vs 1)) (v_iv (n_v vs 2)) (v_iv (n_v vs 4)) (w_fi ws (n_v vs 3) 1) k1 k2 k4 (shm_2276 f0) kz_3_1)⟩
  refine ⟨(fun _ h => (by cases h)), [], trivial, ?_, (fun _ h => (by cases h))⟩
  rw [List.append_nil]
  exact List.forall_mem_cons.mpr ⟨⟨show (20 : Nat) < 100 from by decide, nf0⟩, (fun _ h => (by cases h))⟩
set_option maxHeartbeats 4000000 in
theorem vc_Ho_style_2_0 (x1 : Int) (x2 : Int) (x4 : Int) (length_0o3 : Int) (k1 : 0 ≤ x1 ∧ x1 ≤ 3) (k2 : (-2147483648) ≤ x2 ∧ x2 ≤ (-1)) (k4 : 0 ≤ x4 ∧ x4 ≤ 2000) (f1 : ((0 ≤ x1) ∧ ((x1 ≤ 3) ∧ ((0 ≤ x2) ∧ ((x2 ≤ length_0o3) ∧ (x4 = 0))))) ∨ (((x1 ≤ (-1)) ∨ ((4 ≤ x1) ∨ ((x2 ≤ (-1)) ∨ ((length_0o3 + 1) ≤ x2)))) ∧ (x4 = length_0o3))) (kz_3_1 : 0 ≤ length_0o3 ∧ length_0o3 ≤ 2000) : length_0o3 = x4 := by
  first | omega
def o_Ho_style_2 : or_T := (24, 7, [(1, (0, 0, 3, [])), (2, (0, -2147483648, -1, [])), (3, (2, 0, 0, [8])), (4, (0, 0, 2000, []))], [(8, [2], [2]), (20, [1, 2, 3, 4], [50, 1, 0, 2001, 3, 39, 2, 6, 0, 2, 0, 0, 1, 0, 2, 6, 0, 2, 1, 0, 0, 3, 2, 6, 0, 2, 0, 0, 1, 1, 2, 7, 0, 2, 1, 1, 2, 2, 1, 1, 2, 1, 3, 0, 0, 2, 35, 3, 6, 0, 2, 1, 0, 0, -1, 3, 6, 0, 2, 0, 4, 1, 0, 3, 6, 0, 2, 1, 1, 0, -1, 0, 7, 4, 3, 2, 2, 1, 0, 1, 1, 1, 1, 2, 1, 3, 2, 2, 1])], [], [], [(20, [3, 4], [50, 1, 0, 1, 1, 3, 2, 0, 1, 1, 1])], [], [])
theorem oo_Ho_style_2 {kA : Nat → ClassId} : or_ok PRD kA GG o_Ho_style_2 := by
  refine or_mk fun A ta ws vs hD hth hl => ?_
  intro t1 k1 t2 k2 t3 r3 t4 k4 f0 f1
  have kz_3_1 := fdq_96 hD hth r3
  have nf0 : fc_1 PRD (20, [3, 4], [50, 1, 0, 1, 1, 3, 2, 0, 1, 1, 1]) ws (vs) := ⟨nf_in hl rfl, sgq_790 (vc_Ho_style_2_0 (v_iv (n_v vs 1)) (v_iv (n_v vs 2)) (v_iv (n_v vs 4)) (w_fi ws (n_v vs 3) 1) k1 k2 k4 (shm_2276 f1) kz_3_1)⟩
  refine ⟨(fun _ h => (by cases h)), [], trivial, ?_, (fun _ h => (by cases h))⟩
  rw [List.append_nil]
  exact List.forall_mem_cons.mpr ⟨⟨show (20 : Nat) < 100 from by decide, nf0⟩, (fun _ h => (by cases h))⟩
set_option maxHeartbeats 4000000 in
theorem vc_Ho_style_3_0 (x1 : Int) (x2 : Int) (x4 : Int) (x6 : Int) (length_0o3 : Int) (k1 : 0 ≤ x1 ∧ x1 ≤ 3) (k2 : 0 ≤ x2 ∧ x2 ≤ 2000) (k4 : 0 ≤ x4 ∧ x4 ≤ 2000) (k6 : 0 ≤ x6 ∧ x6 ≤ 2000) (d0 : x6 + (-4294967296) ≤ x2 ∧ x2 ≤ x6 + 0) (g1 : x6 = length_0o3) (f3 : ((0 ≤ x1) ∧ ((x1 ≤ 3) ∧ ((0 ≤ x2) ∧ ((x2 ≤ length_0o3) ∧ (x4 = 0))))) ∨ (((x1 ≤ (-1)) ∨ ((4 ≤ x1) ∨ ((x2 ≤ (-1)) ∨ ((length_0o3 + 1) ≤ x2)))) ∧ (x4 = length_0o3))) (kz_3_1 : 0 ≤ length_0o3 ∧ length_0o3 ≤ 2000) : 1 * x4 + 0 ≤ 0 := by
  first | omega
set_option maxHeartbeats 4000000 in
theorem vc_Ho_style_3_1 (x4 : Int) (k4 : 0 ≤ x4 ∧ x4 ≤ 2000) : (-1) * x4 + 0 ≤ 0 := by
  first | omega
def o_Ho_style_3 : or_T := (25, 7, [(1, (0, 0, 3, [])), (2, (0, 0, 2000, [])), (3, (2, 0, 0, [8])), (4, (0, 0, 2000, [])), (6, (0, 0, 2000, []))], [(9, [6, 3], [1]), (20, [1, 2, 3, 4], [50, 1, 0, 2001, 3, 39, 2, 6, 0, 2, 0, 0, 1, 0, 2, 6, 0, 2, 1, 0, 0, 3, 2, 6, 0, 2, 0, 0, 1, 1, 2, 7, 0, 2, 1, 1, 2, 2, 1, 1, 2, 1, 3, 0, 0, 2, 35, 3, 6, 0, 2, 1, 0, 0, -1, 3, 6, 0, 2, 0, 4, 1, 0, 3, 6, 0, 2, 1, 1, 0, -1, 0, 7, 4, 3, 2, 2, 1, 0, 1, 1, 1, 1, 2, 1, 3, 2, 2, 1])], [], [], [(23, [4], [0, 1]), (23, [4], [0, -1])], [], [(2, 6, -4294967296, 0)])
theorem oo_Ho_style_3 {kA : Nat → ClassId} : or_ok PRD kA GG o_Ho_style_3 := by
  refine or_mk fun A ta ws vs hD hth hl => ?_
  intro t1 k1 t2 k2 t3 r3 t4 k4 t6 k6 d0 f1 f3
  replace f1 := shm_215 f1
  have g1 : v_iv (n_v vs 6) = w_fi ws (n_v vs 3) 1 := congrArg v_iv f1
  have kz_3_1 := fdq_96 hD hth r3
  have nf0 : fc_1 PRD (23, [4], [0, 1]) ws (vs) := ⟨nf_in hl rfl, sgq_1540 (vc_Ho_style_3_0 (v_iv (n_v vs 1)) (v_iv (n_v vs 2)) (v_iv (n_v vs 4)) (v_iv (n_v vs 6)) (w_fi ws (n_v vs 3) 1) k1 k2 k4 k6 d0 g1 (shm_2276 f3) kz_3_1)⟩
  have nf1 : fc_1 PRD (23, [4], [0, -1]) ws (vs) := ⟨nf_in hl rfl, sgq_1043 (vc_Ho_style_3_1 (v_iv (n_v vs 4)) k4)⟩
  refine ⟨(fun _ h => (by cases h)), [], trivial, ?_, (fun _ h => (by cases h))⟩
  rw [List.append_nil]
  exact List.forall_mem_cons.mpr ⟨⟨show (23 : Nat) < 100 from by decide, nf0⟩, List.forall_mem_cons.mpr ⟨⟨show (23 : Nat) < 100 from by decide, nf1⟩, (fun _ h => (by cases h))⟩⟩
set_option maxHeartbeats 4000000 in
theorem vc_Ho_style_4_0 (x4 : Int) (x11 : Int) (length_0o3 : Int) (k4 : 0 ≤ x4 ∧ x4 ≤ 2000) (k11 : 0 ≤ x11 ∧ x11 ≤ 0) (g0 : x11 = length_0o3) (f1 : 1 * x4 + 0 ≤ 0) (kz_3_1 : 0 ≤ length_0o3 ∧ length_0o3 ≤ 2000) : length_0o3 = x4 := by
  first | omega
def o_Ho_style_4 : or_T := (67, 12, [(3, (2, 0, 0, [8])), (4, (0, 0, 2000, [])), (11, (0, 0, 0, []))], [(9, [11, 3], [1]), (23, [4], [0, 1])], [], [], [(20, [3, 4], [50, 1, 0, 1, 1, 3, 2, 0, 1, 1, 1])], [], [])
theorem oo_Ho_style_4 {kA : Nat → ClassId} : or_ok PRD kA GG o_Ho_style_4 := by
  refine or_mk fun A ta ws vs hD hth hl => ?_
  intro t3 r3 t4 k4 t11 k11 f0 f1
  replace f0 := shm_215 f0
  have g0 : v_iv (n_v vs 11) = w_fi ws (n_v vs 3) 1 := congrArg v_iv f0
  have kz_3_1 := fdq_96 hD hth r3
  have nf0 : fc_1 PRD (20, [3, 4], [50, 1, 0, 1, 1, 3, 2, 0, 1, 1, 1]) ws (vs) := ⟨nf_in hl rfl, sgq_790 (vc_Ho_style_4_0 (v_iv (n_v vs 4)) (v_iv (n_v vs 11)) (w_fi ws (n_v vs 3) 1) k4 k11 g0 (shm_1540 f1) kz_3_1)⟩
  refine ⟨(fun _ h => (by cases h)), [], trivial, ?_, (fun _ h => (by cases h))⟩
  rw [List.append_nil]
  exact List.forall_mem_cons.mpr ⟨⟨show (20 : Nat) < 100 from by decide, nf0⟩, (fun _ h => (by cases h))⟩
set_option maxHeartbeats 4000000 in
theorem vc_Ho_style_5_0 (x4 : Int) (x10 : Int) (length_0o3 : Int) (k4 : 0 ≤ x4 ∧ x4 ≤ 2000) (k10 : 0 ≤ x10 ∧ x10 ≤ 0) (g0 : x10 = length_0o3) (f1 : 1 * x4 + 0 ≤ 0) (kz_3_1 : 0 ≤ length_0o3 ∧ length_0o3 ≤ 2000) : length_0o3 = x4 := by
  first | omega
def o_Ho_style_5 : or_T := (67, 11, [(3, (2, 0, 0, [8])), (4, (0, 0, 2000, [])), (10, (0, 0, 0, []))], [(9, [10, 3], [1]), (23, [4], [0, 1])], [], [], [(20, [3, 4], [50, 1, 0, 1, 1, 3, 2, 0, 1, 1, 1])], [], [])
theorem oo_Ho_style_5 {kA : Nat → ClassId} : or_ok PRD kA GG o_Ho_style_5 := by
  refine or_mk fun A ta ws vs hD hth hl => ?_
  intro t3 r3 t4 k4 t10 k10 f0 f1
  replace f0 := shm_215 f0
  have g0 : v_iv (n_v vs 10) = w_fi ws (n_v vs 3) 1 := congrArg v_iv f0
  have kz_3_1 := fdq_96 hD hth r3
  have nf0 : fc_1 PRD (20, [3, 4], [50, 1, 0, 1, 1, 3, 2, 0, 1, 1, 1]) ws (vs) := ⟨nf_in hl rfl, sgq_790 (vc_Ho_style_5_0 (v_iv (n_v vs 4)) (v_iv (n_v vs 10)) (w_fi ws (n_v vs 3) 1) k4 k10 g0 (shm_1540 f1) kz_3_1)⟩
  refine ⟨(fun _ h => (by cases h)), [], trivial, ?_, (fun _ h => (by cases h))⟩
  rw [List.append_nil]
  exact List.forall_mem_cons.mpr ⟨⟨show (20 : Nat) < 100 from by decide, nf0⟩, (fun _ h => (by cases h))⟩
set_option maxHeartbeats 4000000 in
theorem vc_Ho_style_6_0 (x1 : Int) (x2 : Int) (x4 : Int) (x6 : Int) (length_0o3 : Int) (k1 : 0 ≤ x1 ∧ x1 ≤ 3) (k2 : 1 ≤ x2 ∧ x2 ≤ 2147483647) (k4 : 0 ≤ x4 ∧ x4 ≤ 2000) (k6 : 0 ≤ x6 ∧ x6 ≤ 2000) (d0 : x6 + 1 ≤ x2 ∧ x2 ≤ x6 + 4294967296) (g1 : x6 = length_0o3) (f3 : ((0 ≤ x1) ∧ ((x1 ≤ 3) ∧ ((0 ≤ x2) ∧ ((x2 ≤ length_0o3) ∧ (x4 = 0))))) ∨ (((x1 ≤ (-1)) ∨ ((4 ≤ x1) ∨ ((x2 ≤ (-1)) ∨ ((length_0o3 + 1) ≤ x2)))) ∧ (x4 = length_0o3))) (kz_3_1 : 0 ≤ length_0o3 ∧ length_0o3 ≤ 2000) : length_0o3 = x4 := by
  first | omega
def o_Ho_style_6 : or_T := (24, 8, [(1, (0, 0, 3, [])), (2, (0, 1, 2147483647, [])), (3, (2, 0, 0, [8])), (4, (0, 0, 2000, [])), (6, (0, 0, 2000, []))], [(9, [6, 3], [1]), (20, [1, 2, 3, 4], [50, 1, 0, 2001, 3, 39, 2, 6, 0, 2, 0, 0, 1, 0, 2, 6, 0, 2, 1, 0, 0, 3, 2, 6, 0, 2, 0, 0, 1, 1, 2, 7, 0, 2, 1, 1, 2, 2, 1, 1, 2, 1, 3, 0, 0, 2, 35, 3, 6, 0, 2, 1, 0, 0, -1, 3, 6, 0, 2, 0, 4, 1, 0, 3, 6, 0, 2, 1, 1, 0, -1, 0, 7, 4, 3, 2, 2, 1, 0, 1, 1, 1, 1, 2, 1, 3, 2, 2, 1])], [], [], [(20, [3, 4], [50, 1, 0, 1, 1, 3, 2, 0, 1, 1, 1])], [], [(2, 6, 1, 4294967296)])
theorem oo_Ho_style_6 {kA : Nat → ClassId} : or_ok PRD kA GG o_Ho_style_6 := by
  refine or_mk fun A ta ws vs hD hth hl => ?_
  intro t1 k1 t2 k2 t3 r3 t4 k4 t6 k6 d0 f1 f3
  replace f1 := shm_215 f1
  have g1 : v_iv (n_v vs 6) = w_fi ws (n_v vs 3) 1 := congrArg v_iv f1
  have kz_3_1 := fdq_96 hD hth r3
  have nf0 : fc_1 PRD (20, [3, 4], [50, 1, 0, 1, 1, 3, 2, 0, 1, 1, 1]) ws (vs) := ⟨nf_in hl rfl, sgq_790 (vc_Ho_style_6_0 (v_iv (n_v vs 1)) (v_iv (n_v vs 2)) (v_iv (n_v vs 4)) (v_iv (n_v vs 6)) (w_fi ws (n_v vs 3) 1) k1 k2 k4 k6 d0 g1 (shm_2276 f3) kz_3_1)⟩
  refine ⟨(fun _ h => (by cases h)), [], trivial, ?_, (fun _ h => (by cases h))⟩
  rw [List.append_nil]
  exact List.forall_mem_cons.mpr ⟨⟨show (20 : Nat) < 100 from by decide, nf0⟩, (fun _ h => (by cases h))⟩
def n_Ho_style_an : List an_T := []
def t_Ho_style_ct : ct_L := [(0, 115, e_Ho_isPlace), (1, 147, e_Ho_learned), (1, 348, e_Sy_compile), (1, 354, e_Sy_apply), (2000033, 0, e_Sy_init_nw)]
set_option maxRecDepth 100000 in
theorem c_Ho_style {l : Launch} {D : va_G} {kA : Nat → ClassId} (h_Ho_isPlace : ct_ok PRD l D kA GG y_Ho_isPlace z_Ho_isPlace e_Ho_isPlace) (h_Ho_learned : ct_ok PRD l D kA GG y_Ho_learned z_Ho_learned e_Ho_learned) (h_Sy_apply : ct_ok PRD l D kA GG y_Sy_apply z_Sy_apply e_Sy_apply) (h_Sy_compile : ct_ok PRD l D kA GG y_Sy_compile z_Sy_compile e_Sy_compile) (h_Sy_init : ct_ok PRD l D kA GG y_Sy_init z_Sy_init e_Sy_init) : ct_ok PRD l D kA GG y_Ho_style z_Ho_style e_Ho_style := chk_all_ok (FT := [(13, 12, 0), (31, 12, 3), (38, 12, 4), (82, 12, 16), (108, 8, 1), (345, 8, 0), (352, 11, 1), (353, 11, 2), (358, 11, 0)]) (PT := [(82, 12, 16, .object "DrawingHouse$Styler"), (108, 8, 1, .int), (135, 8, 2, .int), (138, 8, 3, .int)]) (CT := t_Ho_style_ct) (KT := []) (NT := []) (AN := n_Ho_style_an) (OT := [o_Ho_style_0, o_Ho_style_1, o_Ho_style_2, o_Ho_style_3, o_Ho_style_4, o_Ho_style_5, o_Ho_style_6]) 0 472 (List.forall_mem_cons.mpr ⟨oo_Ho_style_0, List.forall_mem_cons.mpr ⟨oo_Ho_style_1, List.forall_mem_cons.mpr ⟨oo_Ho_style_2, List.forall_mem_cons.mpr ⟨oo_Ho_style_3, List.forall_mem_cons.mpr ⟨oo_Ho_style_4, List.forall_mem_cons.mpr ⟨oo_Ho_style_5, List.forall_mem_cons.mpr ⟨oo_Ho_style_6, List.forall_mem_nil _⟩⟩⟩⟩⟩⟩⟩) (by decide +kernel) ⟨List.forall_mem_cons.mpr ⟨gf_Ho_13, List.forall_mem_cons.mpr ⟨gf_Ho_31, List.forall_mem_cons.mpr ⟨gf_Ho_38, List.forall_mem_cons.mpr ⟨gf_Ho_82, List.forall_mem_cons.mpr ⟨gf_Ho_108, List.forall_mem_cons.mpr ⟨gf_Ho_345, List.forall_mem_cons.mpr ⟨gf_Ho_352, List.forall_mem_cons.mpr ⟨gf_Ho_353, List.forall_mem_cons.mpr ⟨gf_Ho_358, List.forall_mem_nil _⟩⟩⟩⟩⟩⟩⟩⟩⟩, List.forall_mem_cons.mpr ⟨pf_Ho_82, List.forall_mem_cons.mpr ⟨pf_Ho_108, List.forall_mem_cons.mpr ⟨pf_Ho_135, List.forall_mem_cons.mpr ⟨pf_Ho_138, List.forall_mem_nil _⟩⟩⟩⟩, List.forall_mem_cons.mpr ⟨cl_static (y := y_Ho_isPlace) h_Ho_isPlace wm_633 wm_1 wm_631 wm_632 ⟨by decide, by decide, by decide +kernel⟩ (by decide), List.forall_mem_cons.mpr ⟨cl_virtual (y := y_Ho_learned) (ci := 12) rfl rfl ⟨_, _, rfl⟩ (by decide +kernel) h_Ho_learned wm_810 wm_1 wm_807 wm_809 wv_1_14 ⟨by decide, by decide, by decide +kernel⟩ (by decide), List.forall_mem_cons.mpr ⟨cl_virtual (y := y_Sy_compile) (ci := 11) rfl rfl ⟨_, _, rfl⟩ (by decide +kernel) h_Sy_compile wm_2154 wm_23 wm_2151 wm_2152 wm_2153 ⟨by decide, by decide, by decide +kernel⟩ (by decide), List.forall_mem_cons.mpr ⟨cl_virtual (y := y_Sy_apply) (ci := 11) rfl rfl ⟨_, _, rfl⟩ (by decide +kernel) h_Sy_apply wm_2285 wm_23 wm_2282 wm_2283 wm_2284 ⟨by decide, by decide, by decide +kernel⟩ (by decide), List.forall_mem_cons.mpr ⟨cq_new (PQ := PRD) (pc := 33) (idx := 342) (index := 344) (rr := 304) (r := 11) h_Sy_init rfl rfl (by decide +kernel) (by decide +kernel) rfl rfl rfl (ro_none (G := GG) (by decide +kernel)) rfl rfl rfl rfl (by decide +kernel) (by decide +kernel) (by decide +kernel) i_Sy t_Sy t_Sy_ok wm_2089 wm_2090 wm_23 rfl f0Sy_ok wm_2093 wm_23 (Or.inr ⟨_, wn_2091⟩) wm_2092 rfl ⟨by decide, by decide, by decide +kernel⟩ (by decide) (by decide +kernel) (by decide +kernel) (by decide +kernel), List.forall_mem_nil _⟩⟩⟩⟩⟩, List.forall_mem_nil _, List.forall_mem_nil _, GG_pl⟩ (by decide +kernel)
set_option maxHeartbeats 4000000 in
theorem vc_Mo_draw_0_0 (x1 : Int) (all_0 : Int → Int) (r_0 : Int) (now_0 : Int → Int) (latest_0 : Int → Int) (k1 : 0 ≤ x1 ∧ x1 ≤ 3) (f3 : ROWS (all_0) (now_0) (latest_0)) (f5 : r_0 = ((16709 * x1) + (539 * now_0 (x1)))) : SGR (r_0) (all_0) := by
  first
    | assumption
    | exact rows_at (g := x1) ‹ROWS _ _ _› (by omega) (by omega) (by omega)
set_option maxHeartbeats 4000000 in
theorem vc_Mo_draw_0_1 (x8 : Int) (all_0 : Int → Int) (r_0 : Int) (k8 : 1 ≤ x8 ∧ x8 ≤ 24) (f1 : 1 * x8 + ((-1) * all_0 (r_0 + 0) + 0) ≤ 0) (f2 : (-1) * x8 + (1 * all_0 (r_0 + 0) + 0) ≤ 0) : 1 ≤ all_0 (r_0) := by
  try simp only [Int.add_zero] at *
  omega
def o_Mo_draw_0 : or_T := (36, 10, [(1, (0, 0, 3, [])), (8, (0, 1, 24, []))], [(20, [8, 0], [30, 0, 1, 0, 0, -1, 3, 2005000]), (20, [8, 0], [30, 0, -1, 0, 0, 1, 3, 2005000]), (20, [0], [60, 0, 3, 198, 2, 3, 4]), (20, [0, 1], [50, 1, 1, 5, 3, 1, 3, 2, 0, 5, 4, 6, 6, 2, 0, 16709, 1, 1, 6, 2, 0, 539, 3, 0, 3, 1, 1])], [], [], [(20, [0], [60, 1, 1, 197, 5, 2]), (20, [0], [50, 1, 1, 5, 2, 0, 2, 0, 1, 3, 0, 2, 2, 0, 5])], [], [])
theorem oo_Mo_draw_0 {kA : Nat → ClassId} : or_ok PRD kA GG o_Mo_draw_0 := by
  refine or_mk fun A ta ws vs hD hth hl => ?_
  intro t1 k1 t8 k8 f1 f2 f3 f5
  have nf0 : fc_1 PRD (20, [0], [60, 1, 1, 197, 5, 2]) ws (vs) := ⟨nf_in hl rfl, sgq_1452 (vc_Mo_draw_0_0 (v_iv (n_v vs 1)) (w_ei ws (w_ar ws (n_v vs 0) 2)) (w_fi ws (n_v vs 0) 5) (w_ei ws (w_ar ws (n_v vs 0) 3)) (w_ei ws (w_ar ws (n_v vs 0) 4)) k1 (shm_1230 f3) (shm_1037 f5))⟩
  have nf1 : fc_1 PRD (20, [0], [50, 1, 1, 5, 2, 0, 2, 0, 1, 3, 0, 2, 2, 0, 5]) ws (vs) := ⟨nf_in hl rfl, sgq_2230 (vc_Mo_draw_0_1 (v_iv (n_v vs 8)) (w_ei ws (w_ar ws (n_v vs 0) 2)) (w_fi ws (n_v vs 0) 5) k8 (shm_126 f1) (shm_127 f2))⟩
  refine ⟨(fun _ h => (by cases h)), [], trivial, ?_, (fun _ h => (by cases h))⟩
  rw [List.append_nil]
  exact List.forall_mem_cons.mpr ⟨⟨show (20 : Nat) < 100 from by decide, nf0⟩, List.forall_mem_cons.mpr ⟨⟨show (20 : Nat) < 100 from by decide, nf1⟩, (fun _ h => (by cases h))⟩⟩
set_option maxHeartbeats 4000000 in
theorem vc_Mo_draw_1_0 (all_0 : Int → Int) (r_0 : Int) (f3 : SGR (r_0) (all_0)) : SZ1 (r_0) (all_0) := by
  exact ‹SGR _ _›.1.2.2.2.2
def o_Mo_draw_1 : or_T := (117, 10, [], [(20, [0], [60, 1, 1, 197, 5, 2])], [], [], [(20, [0], [60, 1, 1, 782, 5, 2])], [], [])
theorem oo_Mo_draw_1 {kA : Nat → ClassId} : or_ok PRD kA GG o_Mo_draw_1 := by
  refine or_mk fun A ta ws vs hD hth hl => ?_
  intro f3
  have nf0 : fc_1 PRD (20, [0], [60, 1, 1, 782, 5, 2]) ws (vs) := ⟨nf_in hl rfl, sgq_1702 (vc_Mo_draw_1_0 (w_ei ws (w_ar ws (n_v vs 0) 2)) (w_fi ws (n_v vs 0) 5) (shm_1452 f3))⟩
  refine ⟨(fun _ h => (by cases h)), [], trivial, ?_, (fun _ h => (by cases h))⟩
  rw [List.append_nil]
  exact List.forall_mem_cons.mpr ⟨⟨show (20 : Nat) < 100 from by decide, nf0⟩, (fun _ h => (by cases h))⟩
def n_Mo_draw_an : List an_T := [(36, [(0, (2, 0, 0, [165])), (1, (0, 0, 3, [])), (2, (0, 0, 7, [])), (3, (0, (Int.negSucc 2147483647), 2147483647, [])), (4, (0, 0, 48, []))], [], (0, 0), [(0, 0, 99964), (1, 4, 48), (0, 0, 100000)], [], [], [], 0, [], [(20, [0], [60, 1, 1, 197, 5, 2]), (20, [0], [60, 0, 3, 367, 110, 111, 112]), (20, [0], [50, 1, 1, 5, 2, 0, 2, 0, 1, 3, 0, 2, 2, 0, 5])])]
def t_Mo_draw_ct : ct_L := [(0, 387, e_Mo_in), (0, 521, e_Mo_isPlace), (1, 401, e_Mo_edges), (1, 475, e_Mo_nodes), (1, 527, e_Mo_take), (1, 748, e_Mo_layers), (1, 751, e_Mo_grid), (1, 754, e_Mo_bars), (1, 757, e_Mo_tree), (1, 760, e_Mo_areas), (1, 763, e_Mo_ring), (1, 766, e_Mo_forces), (1, 769, e_Mo_matrix), (1, 772, e_Mo_keep)]
set_option maxRecDepth 100000 in
theorem c_Mo_draw {l : Launch} {D : va_G} {kA : Nat → ClassId} (h_Mo_areas : ct_ok PRD l D kA GG y_Mo_areas z_Mo_areas e_Mo_areas) (h_Mo_bars : ct_ok PRD l D kA GG y_Mo_bars z_Mo_bars e_Mo_bars) (h_Mo_edges : ct_ok PRD l D kA GG y_Mo_edges z_Mo_edges e_Mo_edges) (h_Mo_forces : ct_ok PRD l D kA GG y_Mo_forces z_Mo_forces e_Mo_forces) (h_Mo_grid : ct_ok PRD l D kA GG y_Mo_grid z_Mo_grid e_Mo_grid) (h_Mo_in : ct_ok PRD l D kA GG y_Mo_in z_Mo_in e_Mo_in) (h_Mo_isPlace : ct_ok PRD l D kA GG y_Mo_isPlace z_Mo_isPlace e_Mo_isPlace) (h_Mo_keep : ct_ok PRD l D kA GG y_Mo_keep z_Mo_keep e_Mo_keep) (h_Mo_layers : ct_ok PRD l D kA GG y_Mo_layers z_Mo_layers e_Mo_layers) (h_Mo_matrix : ct_ok PRD l D kA GG y_Mo_matrix z_Mo_matrix e_Mo_matrix) (h_Mo_nodes : ct_ok PRD l D kA GG y_Mo_nodes z_Mo_nodes e_Mo_nodes) (h_Mo_ring : ct_ok PRD l D kA GG y_Mo_ring z_Mo_ring e_Mo_ring) (h_Mo_take : ct_ok PRD l D kA GG y_Mo_take z_Mo_take e_Mo_take) (h_Mo_tree : ct_ok PRD l D kA GG y_Mo_tree z_Mo_tree e_Mo_tree) : ct_ok PRD l D kA GG y_Mo_draw z_Mo_draw e_Mo_draw := chk_all_ok (FT := [(165, 13, 76)]) (PT := []) (CT := t_Mo_draw_ct) (KT := []) (NT := []) (AN := n_Mo_draw_an) (OT := [o_Mo_draw_0, o_Mo_draw_1]) 3 704 (List.forall_mem_cons.mpr ⟨oo_Mo_draw_0, List.forall_mem_cons.mpr ⟨oo_Mo_draw_1, List.forall_mem_nil _⟩⟩) (by decide +kernel) ⟨List.forall_mem_cons.mpr ⟨gf_Mo_165, List.forall_mem_nil _⟩, List.forall_mem_nil _, List.forall_mem_cons.mpr ⟨cl_static (y := y_Mo_in) h_Mo_in wm_2971 wm_9 wm_2969 wm_2970 ⟨by decide, by decide, by decide +kernel⟩ (by decide), List.forall_mem_cons.mpr ⟨cl_static (y := y_Mo_isPlace) h_Mo_isPlace wm_2978 wm_9 wm_2976 wm_2977 ⟨by decide, by decide, by decide +kernel⟩ (by decide), List.forall_mem_cons.mpr ⟨cl_virtual (y := y_Mo_edges) (ci := 13) rfl rfl ⟨_, _, rfl⟩ (by decide +kernel) h_Mo_edges wm_3037 wm_9 wm_3034 wm_3036 wv_13_6 ⟨by decide, by decide, by decide +kernel⟩ (by decide), List.forall_mem_cons.mpr ⟨cl_virtual (y := y_Mo_nodes) (ci := 13) rfl rfl ⟨_, _, rfl⟩ (by decide +kernel) h_Mo_nodes wm_3025 wm_9 wm_3022 wm_3024 wv_13_3 ⟨by decide, by decide, by decide +kernel⟩ (by decide), List.forall_mem_cons.mpr ⟨cl_virtual (y := y_Mo_take) (ci := 13) rfl rfl ⟨_, _, rfl⟩ (by decide +kernel) h_Mo_take wm_3091 wm_9 wm_3088 wm_3090 wv_14_2 ⟨by decide, by decide, by decide +kernel⟩ (by decide), List.forall_mem_cons.mpr ⟨cl_virtual (y := y_Mo_layers) (ci := 13) rfl rfl ⟨_, _, rfl⟩ (by decide +kernel) h_Mo_layers wm_3371 wm_9 wm_3368 wm_3370 wv_17_11 ⟨by decide, by decide, by decide +kernel⟩ (by decide), List.forall_mem_cons.mpr ⟨cl_virtual (y := y_Mo_grid) (ci := 13) rfl rfl ⟨_, _, rfl⟩ (by decide +kernel) h_Mo_grid wm_3478 wm_9 wm_3475 wm_3477 wv_19_5 ⟨by decide, by decide, by decide +kernel⟩ (by decide), List.forall_mem_cons.mpr ⟨cl_virtual (y := y_Mo_bars) (ci := 13) rfl rfl ⟨_, _, rfl⟩ (by decide +kernel) h_Mo_bars wm_3526 wm_9 wm_3523 wm_3525 wv_20_1 ⟨by decide, by decide, by decide +kernel⟩ (by decide), List.forall_mem_cons.mpr ⟨cl_virtual (y := y_Mo_tree) (ci := 13) rfl rfl ⟨_, _, rfl⟩ (by decide +kernel) h_Mo_tree wm_3560 wm_9 wm_3557 wm_3559 wv_20_9 ⟨by decide, by decide, by decide +kernel⟩ (by decide), List.forall_mem_cons.mpr ⟨cl_virtual (y := y_Mo_areas) (ci := 13) rfl rfl ⟨_, _, rfl⟩ (by decide +kernel) h_Mo_areas wm_3584 wm_9 wm_3581 wm_3583 wv_20_15 ⟨by decide, by decide, by decide +kernel⟩ (by decide), List.forall_mem_cons.mpr ⟨cl_virtual (y := y_Mo_ring) (ci := 13) rfl rfl ⟨_, _, rfl⟩ (by decide +kernel) h_Mo_ring wm_3608 wm_9 wm_3605 wm_3607 wv_21_5 ⟨by decide, by decide, by decide +kernel⟩ (by decide), List.forall_mem_cons.mpr ⟨cl_virtual (y := y_Mo_forces) (ci := 13) rfl rfl ⟨_, _, rfl⟩ (by decide +kernel) h_Mo_forces wm_3620 wm_9 wm_3617 wm_3619 wv_21_8 ⟨by decide, by decide, by decide +kernel⟩ (by decide), List.forall_mem_cons.mpr ⟨cl_virtual (y := y_Mo_matrix) (ci := 13) rfl rfl ⟨_, _, rfl⟩ (by decide +kernel) h_Mo_matrix wm_3640 wm_9 wm_3637 wm_3639 wv_21_10 ⟨by decide, by decide, by decide +kernel⟩ (by decide), List.forall_mem_cons.mpr ⟨cl_virtual (y := y_Mo_keep) (ci := 13) rfl rfl ⟨_, _, rfl⟩ (by decide +kernel) h_Mo_keep wm_3648 wm_9 wm_3645 wm_3647 wv_21_12 ⟨by decide, by decide, by decide +kernel⟩ (by decide), List.forall_mem_nil _⟩⟩⟩⟩⟩⟩⟩⟩⟩⟩⟩⟩⟩⟩, List.forall_mem_nil _, List.forall_mem_nil _, GG_pl⟩ (by decide +kernel)

def o_Ho_draw_0 : or_T := (30, 7, [(0, (2, 0, 0, [12])), (4, (0, 0, 3066, []))], [(20, [0, 4], [62, 2000000])], [], [], [(20, [0, 4], [62, 2000006])], [], [])
theorem oo_Ho_draw_0 {kA : Nat → ClassId} : or_ok PRD kA GG o_Ho_draw_0 := by
  refine or_mk fun A ta ws vs hD hth hl => ?_
  intro t0 r0 t4 k4 f0
  replace f0 := shm_161 f0
  have nf0 : fc_1 PRD (20, [0, 4], [62, 2000006]) ws (vs) := by
    refine ⟨nf_in hl rfl, sgq_270 ?_⟩
    · show HY ws (n_v vs 0) (v_iv (n_v vs 4) + (((2000006 : Nat) : Int) - 2000000))
      exact hy_le f0 (by omega)
  refine ⟨(fun _ h => (by cases h)), [], trivial, ?_, (fun _ h => (by cases h))⟩
  rw [List.append_nil]
  exact List.forall_mem_cons.mpr ⟨⟨show (20 : Nat) < 100 from by decide, nf0⟩, (fun _ h => (by cases h))⟩
def o_Ho_draw_1 : or_T := (30, 8, [(0, (2, 0, 0, [12])), (4, (0, 0, 3066, []))], [(20, [0, 4], [62, 2000000])], [], [], [(20, [0, 4], [62, 2000006])], [], [])
theorem oo_Ho_draw_1 {kA : Nat → ClassId} : or_ok PRD kA GG o_Ho_draw_1 := by
  refine or_mk fun A ta ws vs hD hth hl => ?_
  intro t0 r0 t4 k4 f0
  replace f0 := shm_161 f0
  have nf0 : fc_1 PRD (20, [0, 4], [62, 2000006]) ws (vs) := by
    refine ⟨nf_in hl rfl, sgq_270 ?_⟩
    · show HY ws (n_v vs 0) (v_iv (n_v vs 4) + (((2000006 : Nat) : Int) - 2000000))
      exact hy_le f0 (by omega)
  refine ⟨(fun _ h => (by cases h)), [], trivial, ?_, (fun _ h => (by cases h))⟩
  rw [List.append_nil]
  exact List.forall_mem_cons.mpr ⟨⟨show (20 : Nat) < 100 from by decide, nf0⟩, (fun _ h => (by cases h))⟩
def o_Ho_draw_2 : or_T := (23, 9, [(0, (2, 0, 0, [12])), (1, (0, 0, 3, [])), (7, (2, 0, 0, [131])), (8, (2, 0, 0, [3]))], [(14, [8, 7, 1], []), (9, [7, 0], [0]), (20, [0], [62, 0])], [], [], [(20, [0, 1, 8], [62, 71])], [], [])
theorem oo_Ho_draw_2 {kA : Nat → ClassId} : or_ok PRD kA GG o_Ho_draw_2 := by
  refine or_mk fun A ta ws vs hD hth hl => ?_
  intro t0 r0 t1 k1 t7 r7 t8 r8 f0 f1 f2
  replace f0 := shm_793 f0
  replace f1 := shm_163 f1
  replace f2 := shm_1176 f2
  have cr_0_0 := fdq_311 hD hth r0
  have ad_7 : v_ad (n_v vs 7) = w_ar ws (n_v vs 0) 0 := congrArg v_ad f1
  have nf0 : fc_1 PRD (20, [0, 1, 8], [62, 71]) ws (vs) := by
    refine ⟨nf_in hl rfl, sgq_1819 ?_⟩
    · show WQF 71 [n_v vs 0, n_v vs 1, n_v vs 8] ws
      have zw := f2
      exact wq_in (zw) (by omega) (by omega) ⟨rfl, rfl⟩ ⟨Or.inr (pO_of f1 f0), trivial⟩
  refine ⟨(fun _ h => (by cases h)), [], trivial, ?_, (fun _ h => (by cases h))⟩
  rw [List.append_nil]
  exact List.forall_mem_cons.mpr ⟨⟨show (20 : Nat) < 100 from by decide, nf0⟩, (fun _ h => (by cases h))⟩
set_option maxHeartbeats 4000000 in
theorem vc_Ho_draw_3_0 (x9 : Int) (nodes_0o8 : Int) (k9 : 1 ≤ x9 ∧ x9 ≤ 24) (g1 : x9 = nodes_0o8) (kz_8_0 : 0 ≤ nodes_0o8 ∧ nodes_0o8 ≤ 24) : 1 ≤ nodes_0o8 := by
  first | omega
def o_Ho_draw_3 : or_T := (31, 10, [(8, (2, 0, 0, [3])), (9, (0, 1, 24, []))], [(9, [9, 8], [0])], [], [], [(20, [8], [50, 1, 0, 0, 0, 2, 0, 1, 2, 0, 0])], [], [])
theorem oo_Ho_draw_3 {kA : Nat → ClassId} : or_ok PRD kA GG o_Ho_draw_3 := by
  refine or_mk fun A ta ws vs hD hth hl => ?_
  intro t8 r8 t9 k9 f1
  replace f1 := shm_163 f1
  have g1 : v_iv (n_v vs 9) = w_fi ws (n_v vs 8) 0 := congrArg v_iv f1
  have kz_8_0 := fdq_21 hD hth r8
  have nf0 : fc_1 PRD (20, [8], [50, 1, 0, 0, 0, 2, 0, 1, 2, 0, 0]) ws (vs) := ⟨nf_in hl rfl, sgq_1220 (vc_Ho_draw_3_0 (v_iv (n_v vs 9)) (w_fi ws (n_v vs 8) 0) k9 g1 kz_8_0)⟩
  refine ⟨(fun _ h => (by cases h)), [], trivial, ?_, (fun _ h => (by cases h))⟩
  rw [List.append_nil]
  exact List.forall_mem_cons.mpr ⟨⟨show (20 : Nat) < 100 from by decide, nf0⟩, (fun _ h => (by cases h))⟩
def o_Ho_draw_4 : or_T := (170, 14, [(0, (2, 0, 0, [12])), (1, (0, 0, 3, [])), (7, (2, 0, 0, [131])), (8, (2, 0, 0, [3])), (13, (2, 0, 0, [3]))], [(14, [13, 7, 1], []), (9, [7, 0], [0]), (20, [0, 1, 8], [62, 71])], [], [], [(24, [8, 13], [])], [], [])
theorem oo_Ho_draw_4 {kA : Nat → ClassId} : or_ok PRD kA GG o_Ho_draw_4 := by
  refine or_mk fun A ta ws vs hD hth hl => ?_
  intro t0 r0 t1 k1 t7 r7 t8 r8 t13 r13 f0 f1 f2
  replace f0 := shm_793 f0
  replace f1 := shm_163 f1
  replace f2 := shm_1819 f2
  have nf0 : fc_1 PRD (24, [8, 13], []) ws (vs) := by
    refine ⟨nf_in hl rfl, sgq_5 ?_⟩
    · show n_v vs 8 = n_v vs 13
      exact ref_same t8 t13 rfl rfl ((wl_0 (wq_wl f2) (by decide)).trans (pO_of f1 f0).symm)
  refine ⟨(fun _ h => (by cases h)), [], trivial, ?_, (fun _ h => (by cases h))⟩
  rw [List.append_nil]
  exact List.forall_mem_cons.mpr ⟨⟨show (24 : Nat) < 100 from by decide, nf0⟩, (fun _ h => (by cases h))⟩
def o_Ho_draw_5 : or_T := (170, 14, [(0, (2, 0, 0, [12])), (1, (0, 0, 3, [])), (8, (2, 0, 0, [3])), (9, (0, 1, 24, [])), (13, (2, 0, 0, [3]))], [(9, [9, 8], [0]), (24, [8, 13], []), (20, [8], [50, 1, 0, 0, 0, 2, 0, 1, 2, 0, 0]), (20, [0, 1, 8], [62, 71]), (101, [0, 12], [19]), (102, [11], [0, 302000, 302001, 302002, 302003, 302004, 302005, 302006, 302007, 302008, 302009, 302010, 302011, 302012, 302013, 302014, 302015, 302016, 302017, 302018]), (8, [9], [1])], [], [], [(20, [0, 1, 13], [62, 71])], [], [])
theorem oo_Ho_draw_5 {kA : Nat → ClassId} : or_ok PRD kA GG o_Ho_draw_5 := by
  refine or_mk fun A ta ws vs hD hth hl => ?_
  intro t0 r0 t1 k1 t8 r8 t9 k9 t13 r13 f0 f1 f2 f3 ta1 w1 le1 s1 ta2 w2 le2 s2 f6
  replace f1 := shm_5 f1
  replace f3 := shm_1819 f3
  have q13 : n_v vs 13 = n_v vs 8 := f1.symm
  have nf0 : fc_1 PRD (20, [0, 1, 13], [62, 71]) ws (vs) := by
    refine ⟨nf_in hl rfl, sgq_1819 ?_⟩
    · show WQF 71 [n_v vs 0, n_v vs 1, n_v vs 13] ws
      first | rw [q13] | skip
      have zw := f3
      first | rw [show n_v vs 8 = n_v vs 13 from (by first | exact f1 | exact f1.symm)] at zw | skip
      first | exact zw | ((first | rw [q13] at zw | skip); exact zw)
  refine ⟨(fun _ h => (by cases h)), [], trivial, ?_, (fun _ h => (by cases h))⟩
  rw [List.append_nil]
  exact List.forall_mem_cons.mpr ⟨⟨show (20 : Nat) < 100 from by decide, nf0⟩, (fun _ h => (by cases h))⟩
def o_Ho_draw_6 : or_T := (175, 15, [(0, (2, 0, 0, [12]))], [(20, [0], [62, 0]), (102, [13], [281337537757184, 2000, 2001, 2002, 2003]), (20, [0, 1, 13], [62, 71])], [], [], [(20, [0, 1, 13], [62, 71])], [], [])
theorem oo_Ho_draw_6 {kA : Nat → ClassId} : or_ok PRD kA GG o_Ho_draw_6 := by
  refine or_mk fun A ta ws vs hD hth hl => ?_
  intro t0 r0 f0 ta1 w1 le1 s1 f2
  replace f0 := shm_1176 f0
  replace s1 := s1.2
  replace f2 := shm_1819 f2
  have nf0 : fc_1 PRD (20, [0, 1, 13], [62, 71]) ws (vs) := by
    refine ⟨nf_in hl rfl, sgq_1819 ?_⟩
    · show WQF 71 [n_v vs 0, n_v vs 1, n_v vs 13] ws
      obtain ⟨aH, _, eH, _⟩ := tv_ref t0 rfl
      have hH0 := s1.2.2.1 13 List.mem_cons_self 0 (by decide) aH eH
      exact wq_step f0 (hd_call hD hth (by decide +kernel) le1 r0 (by rw [eH]; exact hH0) s1 (by decide +kernel)) f2 (by decide)
  refine ⟨(fun _ h => (by cases h)), [], trivial, ?_, (fun _ h => (by cases h))⟩
  rw [List.append_nil]
  exact List.forall_mem_cons.mpr ⟨⟨show (20 : Nat) < 100 from by decide, nf0⟩, (fun _ h => (by cases h))⟩
def o_Ho_draw_7 : or_T := (181, 17, [(0, (2, 0, 0, [12])), (1, (0, 0, 3, [])), (13, (2, 0, 0, [3]))], [(20, [0, 1, 13], [62, 71])], [], [], [(20, [13], [60, 1, 1, 637, 0, 14])], [], [])
theorem oo_Ho_draw_7 {kA : Nat → ClassId} : or_ok PRD kA GG o_Ho_draw_7 := by
  refine or_mk fun A ta ws vs hD hth hl => ?_
  intro t0 r0 t1 k1 t13 r13 f0
  replace f0 := shm_1819 f0
  have nf0 : fc_1 PRD (20, [13], [60, 1, 1, 637, 0, 14]) ws (vs) := by
    refine ⟨nf_in hl rfl, sgq_1792 ?_⟩
    · show SYG (w_fi ws (n_v vs 13) 0) (w_ei ws (w_ar ws (n_v vs 13) 14))
      have kz13_0 : 0 ≤ w_fi ws (n_v vs 13) 0 ∧ w_fi ws (n_v vs 13) 0 ≤ 24 := tv_rng (th_fd hD hth r13 (g := GG_3) rfl (k := 0) (t := (0, 0, 24, [])) rfl rfl)
      exact hg_syg (wq_hg f0 (by decide) (wl_0 (wq_wl (k := 71) f0) (by decide))) (by omega)
  refine ⟨(fun _ h => (by cases h)), [], trivial, ?_, (fun _ h => (by cases h))⟩
  rw [List.append_nil]
  exact List.forall_mem_cons.mpr ⟨⟨show (20 : Nat) < 100 from by decide, nf0⟩, (fun _ h => (by cases h))⟩
def o_Ho_draw_8 : or_T := (181, 17, [(0, (2, 0, 0, [12])), (1, (0, 0, 3, [])), (13, (2, 0, 0, [3])), (14, (2, 0, 0, [2]))], [(20, [0, 1, 13], [62, 71]), (20, [0, 1, 14], [62, 135]), (20, [14], [50, 1, 0, 0, 7, 3, 2, 0, 0, 0, 0])], [], [], [(20, [13, 14], [60, 1, 2, 671, 0, 14, 1004])], [], [])
theorem oo_Ho_draw_8 {kA : Nat → ClassId} : or_ok PRD kA GG o_Ho_draw_8 := by
  refine or_mk fun A ta ws vs hD hth hl => ?_
  intro t0 r0 t1 k1 t13 r13 t14 r14 f0 f1 f2
  replace f0 := shm_1819 f0
  replace f1 := shm_2132 f1
  replace f2 := shm_2130 f2
  have nf0 : fc_1 PRD (20, [13, 14], [60, 1, 2, 671, 0, 14, 1004]) ws (vs) := by
    refine ⟨nf_in hl rfl, sgq_419 ?_⟩
    · show PNC (w_fi ws (n_v vs 13) 0) (w_ei ws (w_ar ws (n_v vs 13) 14)) (w_ei ws (w_ar ws (n_v vs 14) 4))
      exact (hf_all (wq_hf f0 (by decide) (wl_0 (wq_wl (k := 71) f0) (by decide)) (wl_0 (wq_wl (k := 135) f1) (by decide))) (show w_fi ws (n_v vs 14) 0 ≠ 0 from f2)).1
  refine ⟨(fun _ h => (by cases h)), [], trivial, ?_, (fun _ h => (by cases h))⟩
  rw [List.append_nil]
  exact List.forall_mem_cons.mpr ⟨⟨show (20 : Nat) < 100 from by decide, nf0⟩, (fun _ h => (by cases h))⟩
def o_Ho_draw_9 : or_T := (181, 17, [(0, (2, 0, 0, [12])), (1, (0, 0, 3, [])), (13, (2, 0, 0, [3])), (14, (2, 0, 0, [2]))], [(20, [0, 1, 13], [62, 71]), (20, [0, 1, 14], [62, 135]), (20, [14], [50, 1, 0, 0, 7, 3, 2, 0, 0, 0, 0])], [], [], [(20, [13, 14], [60, 2, 1, 672, 0, 1001, 1004])], [], [])
theorem oo_Ho_draw_9 {kA : Nat → ClassId} : or_ok PRD kA GG o_Ho_draw_9 := by
  refine or_mk fun A ta ws vs hD hth hl => ?_
  intro t0 r0 t1 k1 t13 r13 t14 r14 f0 f1 f2
  replace f0 := shm_1819 f0
  replace f1 := shm_2132 f1
  replace f2 := shm_2130 f2
  have nf0 : fc_1 PRD (20, [13, 14], [60, 2, 1, 672, 0, 1001, 1004]) ws (vs) := by
    refine ⟨nf_in hl rfl, sgq_1179 ?_⟩
    · show FPA (w_fi ws (n_v vs 13) 0) (w_fi ws (n_v vs 14) 1) (w_ei ws (w_ar ws (n_v vs 14) 4))
      exact (hf_all (wq_hf f0 (by decide) (wl_0 (wq_wl (k := 71) f0) (by decide)) (wl_0 (wq_wl (k := 135) f1) (by decide))) (show w_fi ws (n_v vs 14) 0 ≠ 0 from f2)).2.1
  refine ⟨(fun _ h => (by cases h)), [], trivial, ?_, (fun _ h => (by cases h))⟩
  rw [List.append_nil]
  exact List.forall_mem_cons.mpr ⟨⟨show (20 : Nat) < 100 from by decide, nf0⟩, (fun _ h => (by cases h))⟩
def o_Ho_draw_10 : or_T := (181, 17, [(0, (2, 0, 0, [12])), (1, (0, 0, 3, [])), (13, (2, 0, 0, [3]))], [(20, [0, 1, 13], [62, 71])], [], [], [(20, [13], [60, 2, 2, 596, 0, 1, 7, 8])], [], [])
theorem oo_Ho_draw_10 {kA : Nat → ClassId} : or_ok PRD kA GG o_Ho_draw_10 := by
  refine or_mk fun A ta ws vs hD hth hl => ?_
  intro t0 r0 t1 k1 t13 r13 f0
  replace f0 := shm_1819 f0
  have nf0 : fc_1 PRD (20, [13], [60, 2, 2, 596, 0, 1, 7, 8]) ws (vs) := by
    refine ⟨nf_in hl rfl, sgq_386 ?_⟩
    · show GKE (w_fi ws (n_v vs 13) 0) (w_fi ws (n_v vs 13) 1) (w_ei ws (w_ar ws (n_v vs 13) 7)) (w_ei ws (w_ar ws (n_v vs 13) 8))
      exact hg_gke (wq_hg f0 (by decide) (wl_0 (wq_wl (k := 71) f0) (by decide)))
  refine ⟨(fun _ h => (by cases h)), [], trivial, ?_, (fun _ h => (by cases h))⟩
  rw [List.append_nil]
  exact List.forall_mem_cons.mpr ⟨⟨show (20 : Nat) < 100 from by decide, nf0⟩, (fun _ h => (by cases h))⟩
set_option maxHeartbeats 4000000 in
theorem vc_Ho_draw_11_0 (nodes_0o8 : Int) (f6 : 1 ≤ nodes_0o8) (kz_8_0 : 0 ≤ nodes_0o8 ∧ nodes_0o8 ≤ 24) : 1 ≤ nodes_0o8 := by
  first | omega
set_option maxHeartbeats 4000000 in
theorem vc_Ho_draw_11_2 (x4 : Int) (gy : Int) (k4 : 0 ≤ x4 ∧ x4 ≤ 3066) (ey2 : gy = x4) : 1 * gy + ((-1) * x4 + 0) ≤ 0 := by
  first | omega
set_option maxHeartbeats 4000000 in
theorem vc_Ho_draw_11_3 (x4 : Int) (gy : Int) (k4 : 0 ≤ x4 ∧ x4 ≤ 3066) (ey2 : gy = x4) : (-1) * gy + (1 * x4 + 0) ≤ 0 := by
  first | omega
set_option maxHeartbeats 4000000 in
theorem vc_Ho_draw_11_4 (nodes_0o8 : Int) (part_0o14 : Int → Int) (near_0o8 : Int → Int) (f3 : PNC (nodes_0o8) (near_0o8) (part_0o14)) (kz_8_0 : 0 ≤ nodes_0o8 ∧ nodes_0o8 ≤ 24) : PNC (nodes_0o8) (near_0o8) (part_0o14) := by
  first | assumption
set_option maxHeartbeats 4000000 in
theorem vc_Ho_draw_11_5 (nodes_0o8 : Int) (part_0o14 : Int → Int) (parts_0o14 : Int) (f2 : FPA (nodes_0o8) (parts_0o14) (part_0o14)) (kz_8_0 : 0 ≤ nodes_0o8 ∧ nodes_0o8 ≤ 24) (kz_14_1 : 0 ≤ parts_0o14 ∧ parts_0o14 ≤ 24) : FPA (nodes_0o8) (parts_0o14) (part_0o14) := by
  first | assumption
def o_Ho_draw_11 : or_T := (181, 17, [(0, (2, 0, 0, [12])), (4, (0, 0, 3066, [])), (8, (2, 0, 0, [3])), (9, (0, 1, 24, [])), (13, (2, 0, 0, [3])), (14, (2, 0, 0, [2]))], [(9, [9, 8], [0]), (20, [13], [60, 2, 2, 596, 0, 1, 7, 8]), (20, [13, 14], [60, 2, 1, 672, 0, 1001, 1004]), (20, [13, 14], [60, 1, 2, 671, 0, 14, 1004]), (20, [13], [60, 1, 1, 637, 0, 14]), (24, [8, 13], []), (20, [8], [50, 1, 0, 0, 0, 2, 0, 1, 2, 0, 0]), (20, [0, 4], [62, 2000000]), (20, [14], [50, 1, 0, 0, 7, 3, 2, 0, 0, 0, 0]), (102, [13], [281337537757184, 2000, 2001, 2002, 2003]), (101, [0, 12], [19]), (102, [11], [0, 302000, 302001, 302002, 302003, 302004, 302005, 302006, 302007, 302008, 302009, 302010, 302011, 302012, 302013, 302014, 302015, 302016, 302017, 302018]), (8, [9], [1])], [], [(2, 0, 0, [12]), (0, 0, 3072, [])], [(20, [13], [50, 1, 0, 0, 0, 2, 0, 1, 2, 0, 0]), (24, [0, 17], []), (23, [18, 4], [0, 1, -1]), (23, [18, 4], [0, -1, 1]), (20, [13, 14], [60, 1, 2, 671, 0, 14, 1004]), (20, [13, 14], [60, 2, 1, 672, 0, 1001, 1004]), (20, [17, 18], [62, 2000000])], [], [])
theorem oo_Ho_draw_11 {kA : Nat → ClassId} : or_ok PRD kA GG o_Ho_draw_11 := by
  refine or_mk fun A ta ws vs hD hth hl => ?_
  intro t0 r0 t4 k4 t8 r8 t9 k9 t13 r13 t14 r14 f0 f1 f2 f3 f4 f5 f6 f7 f8 ta1 w1 le1 s1 ta2 w2 le2 s2 ta3 w3 le3 s3 f12
  replace f0 := shm_163 f0
  replace f1 := shm_386 f1
  replace f2 := shm_1179 f2
  replace f3 := shm_419 f3
  replace f4 := shm_1792 f4
  replace f5 := shm_5 f5
  replace f6 := shm_1220 f6
  replace f7 := shm_161 f7
  replace f8 := shm_2130 f8
  have s2 : (∀ b j, w_el w1 b j = w_el w2 b j) ∧ ∀ b j, w_fd w1 b j = if b = v_ad (n_v vs 0) ∧ j = 19 then n_v vs 12 else w_fd w2 b j := s2.2
  replace f12 := shm_142 f12
  have q13 : n_v vs 13 = n_v vs 8 := f5.symm
  simp only [q13] at f1 f2 f3 f4
  have cr_8_7 := fdq_46 hD hth r8
  have cr_8_8 := fdq_47 hD hth r8
  have cr_8_14 := fdq_75 hD hth r8
  have cr_14_4 := fdq_87 hD hth r14
  have g0 : v_iv (n_v vs 9) = w_fi ws (n_v vs 8) 0 := congrArg v_iv f0
  have hK_8_7 := elq_11 hD hth cr_8_7
  have hK_8_8 := elq_12 hD hth cr_8_8
  have hK_8_14 := elq_25 hD hth cr_8_14
  have hK_14_4 := elq_29 hD hth cr_14_4
  have kz_8_0 := fdq_21 hD hth r8
  have kz_8_1 := fdq_30 hD hth r8
  have kz_14_0 := fdq_294 hD hth r14
  have kz_14_1 := fdq_278 hD hth r14
  obtain ⟨y, ey, hy⟩ := iv_ex (ta := ta) (lo := 0) (hi := 3072) (z := v_iv (n_v vs 4)) (by omega) (by omega) (by omega) (by omega)
  have ey2 : v_iv (Value.int y) = v_iv (n_v vs 4) := ey
  have ey3 : 0 ≤ v_iv (Value.int y) ∧ v_iv (Value.int y) ≤ 3072 := tv_rng hy
  have e_0 : n_v (vs ++ [n_v vs 0, Value.int y]) 0 = n_v vs 0 := n_v_old (by rw [hl]; decide)
  have e_4 : n_v (vs ++ [n_v vs 0, Value.int y]) 4 = n_v vs 4 := n_v_old (by rw [hl]; decide)
  have e_13 : n_v (vs ++ [n_v vs 0, Value.int y]) 13 = n_v vs 13 := n_v_old (by rw [hl]; decide)
  have e_14 : n_v (vs ++ [n_v vs 0, Value.int y]) 14 = n_v vs 14 := n_v_old (by rw [hl]; decide)
  have e_17 : n_v (vs ++ [n_v vs 0, Value.int y]) 17 = n_v vs 0 := n_v_new0 hl
  have e_18 : n_v (vs ++ [n_v vs 0, Value.int y]) 18 = Value.int y := n_v_new1 hl
  have nf0 : fc_1 PRD (20, [13], [50, 1, 0, 0, 0, 2, 0, 1, 2, 0, 0]) ws (vs ++ [n_v vs 0, Value.int y]) := by
    refine ⟨nf_inA hl rfl, sgq_1220 ?_⟩
    · show 1 ≤ w_fi ws (n_v (vs ++ [n_v vs 0, Value.int y]) 13) 0
      simp only [e_13, q13]
      exact vc_Ho_draw_11_0 (w_fi ws (n_v vs 8) 0) f6 kz_8_0
  have nf1 : fc_1 PRD (24, [0, 17], []) ws (vs ++ [n_v vs 0, Value.int y]) := by
    refine ⟨nf_inA hl rfl, sgq_5 ?_⟩
    · show n_v (vs ++ [n_v vs 0, Value.int y]) 0 = n_v (vs ++ [n_v vs 0, Value.int y]) 17
      first | rfl | simp only [e_0, e_17, q13]
  have nf2 : fc_1 PRD (23, [18, 4], [0, 1, -1]) ws (vs ++ [n_v vs 0, Value.int y]) := by
    refine ⟨nf_inA hl rfl, sgq_7 ?_⟩
    · show 1 * v_iv (n_v (vs ++ [n_v vs 0, Value.int y]) 18) + ((-1) * v_iv (n_v (vs ++ [n_v vs 0, Value.int y]) 4) + 0) ≤ 0
      simp only [e_4, e_18]
      exact vc_Ho_draw_11_2 (v_iv (n_v vs 4)) (v_iv (Value.int y)) k4 ey2
  have nf3 : fc_1 PRD (23, [18, 4], [0, -1, 1]) ws (vs ++ [n_v vs 0, Value.int y]) := by
    refine ⟨nf_inA hl rfl, sgq_22 ?_⟩
    · show (-1) * v_iv (n_v (vs ++ [n_v vs 0, Value.int y]) 18) + (1 * v_iv (n_v (vs ++ [n_v vs 0, Value.int y]) 4) + 0) ≤ 0
      simp only [e_4, e_18]
      exact vc_Ho_draw_11_3 (v_iv (n_v vs 4)) (v_iv (Value.int y)) k4 ey2
  have nf4 : fc_1 PRD (20, [13, 14], [60, 1, 2, 671, 0, 14, 1004]) ws (vs ++ [n_v vs 0, Value.int y]) := by
    refine ⟨nf_inA hl rfl, sgq_419 ?_⟩
    · show PNC (w_fi ws (n_v (vs ++ [n_v vs 0, Value.int y]) 13) 0) (w_ei ws (w_ar ws (n_v (vs ++ [n_v vs 0, Value.int y]) 13) 14)) (w_ei ws (w_ar ws (n_v (vs ++ [n_v vs 0, Value.int y]) 14) 4))
      simp only [e_13, e_14, q13]
      exact vc_Ho_draw_11_4 (w_fi ws (n_v vs 8) 0) (w_ei ws (w_ar ws (n_v vs 14) 4)) (w_ei ws (w_ar ws (n_v vs 8) 14)) f3 kz_8_0
  have nf5 : fc_1 PRD (20, [13, 14], [60, 2, 1, 672, 0, 1001, 1004]) ws (vs ++ [n_v vs 0, Value.int y]) := by
    refine ⟨nf_inA hl rfl, sgq_1179 ?_⟩
    · show FPA (w_fi ws (n_v (vs ++ [n_v vs 0, Value.int y]) 13) 0) (w_fi ws (n_v (vs ++ [n_v vs 0, Value.int y]) 14) 1) (w_ei ws (w_ar ws (n_v (vs ++ [n_v vs 0, Value.int y]) 14) 4))
      simp only [e_13, e_14, q13]
      exact vc_Ho_draw_11_5 (w_fi ws (n_v vs 8) 0) (w_ei ws (w_ar ws (n_v vs 14) 4)) (w_fi ws (n_v vs 14) 1) f2 kz_8_0 kz_14_1
  have nf6 : fc_1 PRD (20, [17, 18], [62, 2000000]) ws (vs ++ [n_v vs 0, Value.int y]) := by
    refine ⟨nf_inA hl rfl, sgq_161 ?_⟩
    · show HY ws (n_v (vs ++ [n_v vs 0, Value.int y]) 17) (v_iv (n_v (vs ++ [n_v vs 0, Value.int y]) 18) + (((2000000 : Nat) : Int) - 2000000))
      simp only [e_17, e_18]
      exact hy_le f7 (by omega)
  exact ⟨(fun _ h => (by cases h)), [n_v vs 0, Value.int y], ag_two t0 hy, List.forall_mem_cons.mpr ⟨⟨show (20 : Nat) < 100 from by decide, nf0⟩, List.forall_mem_cons.mpr ⟨⟨show (24 : Nat) < 100 from by decide, nf1⟩, List.forall_mem_cons.mpr ⟨⟨show (23 : Nat) < 100 from by decide, nf2⟩, List.forall_mem_cons.mpr ⟨⟨show (23 : Nat) < 100 from by decide, nf3⟩, List.forall_mem_cons.mpr ⟨⟨show (20 : Nat) < 100 from by decide, nf4⟩, List.forall_mem_cons.mpr ⟨⟨show (20 : Nat) < 100 from by decide, nf5⟩, List.forall_mem_cons.mpr ⟨⟨show (20 : Nat) < 100 from by decide, nf6⟩, (fun _ h => (by cases h))⟩⟩⟩⟩⟩⟩⟩, (fun _ h => (by cases h))⟩
def o_Ho_draw_12 : or_T := (203, 20, [(0, (2, 0, 0, [12])), (4, (0, 0, 3066, [])), (8, (2, 0, 0, [3])), (9, (0, 1, 24, [])), (13, (2, 0, 0, [3])), (14, (2, 0, 0, [2])), (17, (2, 0, 0, [12])), (18, (0, 0, 3072, []))], [(9, [9, 8], [0]), (20, [13], [50, 1, 0, 0, 0, 2, 0, 1, 2, 0, 0]), (24, [0, 17], []), (23, [18, 4], [0, 1, -1]), (23, [18, 4], [0, -1, 1]), (20, [13, 14], [60, 1, 2, 671, 0, 14, 1004]), (20, [13, 14], [60, 2, 1, 672, 0, 1001, 1004]), (20, [13], [60, 2, 2, 596, 0, 1, 7, 8]), (20, [13, 14], [60, 2, 1, 672, 0, 1001, 1004]), (20, [13, 14], [60, 1, 2, 671, 0, 14, 1004]), (20, [13], [60, 1, 1, 637, 0, 14]), (24, [8, 13], []), (20, [8], [50, 1, 0, 0, 0, 2, 0, 1, 2, 0, 0]), (20, [14], [50, 1, 0, 0, 7, 3, 2, 0, 0, 0, 0]), (20, [17, 18], [62, 2000000]), (102, [18], [5069983430893274915849367568384, 7, 9, 6000, 6001, 6008, 6011, 6013, 6014]), (23, [18, 4], [0, 1, -1]), (23, [18, 4], [0, -1, 1]), (102, [13], [281337537757184, 2000, 2001, 2002, 2003]), (101, [0, 12], [19]), (102, [11], [0, 302000, 302001, 302002, 302003, 302004, 302005, 302006, 302007, 302008, 302009, 302010, 302011, 302012, 302013, 302014, 302015, 302016, 302017, 302018]), (8, [9], [1])], [], [], [(20, [0, 4], [62, 2000006])], [], [])
theorem oo_Ho_draw_12 {kA : Nat → ClassId} : or_ok PRD kA GG o_Ho_draw_12 := by
  refine or_mk fun A ta ws vs hD hth hl => ?_
  intro t0 r0 t4 k4 t8 r8 t9 k9 t13 r13 t14 r14 t17 r17 t18 k18 f0 f1 f2 f3 f4 f5 f6 f7 f8 f9 f10 f11 f12 f13 f14 ta1 w1 le1 s1 f16 f17 ta2 w2 le2 s2 ta3 w3 le3 s3 ta4 w4 le4 s4 f21
  replace f0 := shm_163 f0
  replace f1 := shm_1220 f1
  replace f2 := shm_5 f2
  replace f3 := shm_7 f3
  replace f4 := shm_22 f4
  replace f5 := shm_419 f5
  replace f6 := shm_1179 f6
  replace f7 := shm_386 f7
  replace f8 := shm_1179 f8
  replace f9 := shm_419 f9
  replace f10 := shm_1792 f10
  replace f11 := shm_5 f11
  replace f12 := shm_1220 f12
  replace f13 := shm_2130 f13
  replace f14 := shm_161 f14
  replace f16 := shm_7 f16
  replace f17 := shm_22 f17
  have s3 : (∀ b j, w_el w2 b j = w_el w3 b j) ∧ ∀ b j, w_fd w2 b j = if b = v_ad (n_v vs 0) ∧ j = 19 then n_v vs 12 else w_fd w3 b j := s3.2
  replace f21 := shm_142 f21
  have q17 : n_v vs 17 = n_v vs 0 := f2.symm
  have q13 : n_v vs 13 = n_v vs 8 := f11.symm
  simp only [q13, q17] at f1 f5 f6 f7 f8 f9 f10 f14
  have cr_8_7 := fdq_46 hD hth r8
  have cr_8_8 := fdq_47 hD hth r8
  have cr_8_14 := fdq_75 hD hth r8
  have cr_14_4 := fdq_87 hD hth r14
  have g0 : v_iv (n_v vs 9) = w_fi ws (n_v vs 8) 0 := congrArg v_iv f0
  have hK_8_7 := elq_11 hD hth cr_8_7
  have hK_8_8 := elq_12 hD hth cr_8_8
  have hK_8_14 := elq_25 hD hth cr_8_14
  have hK_14_4 := elq_29 hD hth cr_14_4
  have kz_8_0 := fdq_21 hD hth r8
  have kz_8_1 := fdq_30 hD hth r8
  have kz_14_0 := fdq_294 hD hth r14
  have kz_14_1 := fdq_278 hD hth r14
  have nf0 : fc_1 PRD (20, [0, 4], [62, 2000006]) ws (vs) := by
    refine ⟨nf_in hl rfl, sgq_270 ?_⟩
    · show HY ws (n_v vs 0) (v_iv (n_v vs 4) + (((2000006 : Nat) : Int) - 2000000))
      exact hy_le f14 (by omega)
  refine ⟨(fun _ h => (by cases h)), [], trivial, ?_, (fun _ h => (by cases h))⟩
  rw [List.append_nil]
  exact List.forall_mem_cons.mpr ⟨⟨show (20 : Nat) < 100 from by decide, nf0⟩, (fun _ h => (by cases h))⟩
def o_Ho_draw_13 : or_T := (203, 21, [(0, (2, 0, 0, [12])), (4, (0, 0, 3066, [])), (8, (2, 0, 0, [3])), (9, (0, 1, 24, [])), (13, (2, 0, 0, [3])), (14, (2, 0, 0, [2])), (17, (2, 0, 0, [12])), (18, (0, 0, 3072, [])), (20, (2, 0, 0, [0]))], [(9, [9, 8], [0]), (20, [13], [50, 1, 0, 0, 0, 2, 0, 1, 2, 0, 0]), (24, [0, 17], []), (23, [18, 4], [0, 1, -1]), (23, [18, 4], [0, -1, 1]), (20, [13, 14], [60, 1, 2, 671, 0, 14, 1004]), (20, [13, 14], [60, 2, 1, 672, 0, 1001, 1004]), (20, [13], [60, 2, 2, 596, 0, 1, 7, 8]), (20, [13, 14], [60, 2, 1, 672, 0, 1001, 1004]), (20, [13, 14], [60, 1, 2, 671, 0, 14, 1004]), (20, [13], [60, 1, 1, 637, 0, 14]), (24, [8, 13], []), (20, [8], [50, 1, 0, 0, 0, 2, 0, 1, 2, 0, 0]), (20, [14], [50, 1, 0, 0, 7, 3, 2, 0, 0, 0, 0]), (20, [17, 18], [62, 2000000]), (101, [20, 2], [1]), (20, [13], [50, 1, 0, 0, 0, 2, 0, 1, 2, 0, 0]), (23, [18, 4], [0, 1, -1]), (23, [18, 4], [0, -1, 1]), (20, [13, 14], [60, 1, 2, 671, 0, 14, 1004]), (20, [13, 14], [60, 2, 1, 672, 0, 1001, 1004]), (20, [13], [60, 2, 2, 596, 0, 1, 7, 8]), (20, [13, 14], [60, 2, 1, 672, 0, 1001, 1004]), (20, [13, 14], [60, 1, 2, 671, 0, 14, 1004]), (20, [13], [60, 1, 1, 637, 0, 14]), (20, [8], [50, 1, 0, 0, 0, 2, 0, 1, 2, 0, 0]), (20, [14], [50, 1, 0, 0, 7, 3, 2, 0, 0, 0, 0]), (102, [18], [5069983430893274915849367568384, 7, 9, 6000, 6001, 6008, 6011, 6013, 6014]), (23, [18, 4], [0, 1, -1]), (23, [18, 4], [0, -1, 1]), (102, [13], [281337537757184, 2000, 2001, 2002, 2003]), (101, [0, 12], [19]), (102, [11], [0, 302000, 302001, 302002, 302003, 302004, 302005, 302006, 302007, 302008, 302009, 302010, 302011, 302012, 302013, 302014, 302015, 302016, 302017, 302018]), (8, [9], [1])], [], [], [(20, [0, 4], [62, 2000006])], [], [])
theorem oo_Ho_draw_13 {kA : Nat → ClassId} : or_ok PRD kA GG o_Ho_draw_13 := by
  refine or_mk fun A ta ws vs hD hth hl => ?_
  intro t0 r0 t4 k4 t8 r8 t9 k9 t13 r13 t14 r14 t17 r17 t18 k18 t20 r20 f0 f1 f2 f3 f4 f5 f6 f7 f8 f9 f10 f11 f12 f13 f14 ta1 w1 le1 s1 f16 f17 f18 f19 f20 f21 f22 f23 f24 f25 f26 ta2 w2 le2 s2 f28 f29 ta3 w3 le3 s3 ta4 w4 le4 s4 ta5 w5 le5 s5 f33
  replace f0 := shm_163 f0
  replace f1 := shm_1220 f1
  replace f2 := shm_5 f2
  replace f3 := shm_7 f3
  replace f4 := shm_22 f4
  replace f5 := shm_419 f5
  replace f6 := shm_1179 f6
  replace f7 := shm_386 f7
  replace f8 := shm_1179 f8
  replace f9 := shm_419 f9
  replace f10 := shm_1792 f10
  replace f11 := shm_5 f11
  replace f12 := shm_1220 f12
  replace f13 := shm_2130 f13
  replace f14 := shm_161 f14
  have s1 : (∀ b j, w_el ws b j = w_el w1 b j) ∧ ∀ b j, w_fd ws b j = if b = v_ad (n_v vs 20) ∧ j = 1 then n_v vs 2 else w_fd w1 b j := s1.2
  replace f16 := shm_1220 f16
  replace f17 := shm_7 f17
  replace f18 := shm_22 f18
  replace f19 := shm_419 f19
  replace f20 := shm_1179 f20
  replace f21 := shm_386 f21
  replace f22 := shm_1179 f22
  replace f23 := shm_419 f23
  replace f24 := shm_1792 f24
  replace f25 := shm_1220 f25
  replace f26 := shm_2130 f26
  replace f28 := shm_7 f28
  replace f29 := shm_22 f29
  have s4 : (∀ b j, w_el w3 b j = w_el w4 b j) ∧ ∀ b j, w_fd w3 b j = if b = v_ad (n_v vs 0) ∧ j = 19 then n_v vs 12 else w_fd w4 b j := s4.2
  replace f33 := shm_142 f33
  have q17 : n_v vs 17 = n_v vs 0 := f2.symm
  have q13 : n_v vs 13 = n_v vs 8 := f11.symm
  simp only [q13, q17] at f1 f5 f6 f7 f8 f9 f10 f14 f16 f19 f20 f21 f22 f23 f24
  have ar_8_7_1 : w_ar w1 (n_v vs 8) 7 = w_ar ws (n_v vs 8) 7 := by show v_ad (w_fd w1 _ _) = v_ad (w_fd ws _ _); rw [s1.2, if_neg (fun e => absurd e.2 (by decide))]
  have cr_8_7 := fdq_46 hD hth r8
  have ar_8_8_1 : w_ar w1 (n_v vs 8) 8 = w_ar ws (n_v vs 8) 8 := by show v_ad (w_fd w1 _ _) = v_ad (w_fd ws _ _); rw [s1.2, if_neg (fun e => absurd e.2 (by decide))]
  have cr_8_8 := fdq_47 hD hth r8
  have ar_8_14_1 : w_ar w1 (n_v vs 8) 14 = w_ar ws (n_v vs 8) 14 := by show v_ad (w_fd w1 _ _) = v_ad (w_fd ws _ _); rw [s1.2, if_neg (fun e => absurd e.2 (by decide))]
  have cr_8_14 := fdq_75 hD hth r8
  have ar_14_4_1 : w_ar w1 (n_v vs 14) 4 = w_ar ws (n_v vs 14) 4 := by show v_ad (w_fd w1 _ _) = v_ad (w_fd ws _ _); rw [s1.2, if_neg (fun e => absurd e.2 (by decide))]
  have cr_14_4 := fdq_87 hD hth r14
  have g0 : v_iv (n_v vs 9) = w_fi ws (n_v vs 8) 0 := congrArg v_iv f0
  simp only [ar_8_14_1, ar_14_4_1, ar_8_7_1, ar_8_8_1] at f19 f20 f21 f22 f23 f24
  have fe_8_0_1 : w_fi ws (n_v vs 8) 0 = w_fi w1 (n_v vs 8) 0 := by show v_iv (w_fd _ _ _) = v_iv (w_fd _ _ _); rw [s1.2, if_neg (fun e => absurd e.2 (by decide))]
  have fe_8_1_1 : w_fi ws (n_v vs 8) 1 = w_fi w1 (n_v vs 8) 1 := by show v_iv (w_fd _ _ _) = v_iv (w_fd _ _ _); rw [s1.2, if_neg (fun e => by have e1 := e.1; have e2 := r8; rw [e1, r20] at e2; exact absurd (Option.some.inj e2) (by decide))]
  have fe_14_0_1 : w_fi ws (n_v vs 14) 0 = w_fi w1 (n_v vs 14) 0 := by show v_iv (w_fd _ _ _) = v_iv (w_fd _ _ _); rw [s1.2, if_neg (fun e => absurd e.2 (by decide))]
  have fe_14_1_1 : w_fi ws (n_v vs 14) 1 = w_fi w1 (n_v vs 14) 1 := by show v_iv (w_fd _ _ _) = v_iv (w_fd _ _ _); rw [s1.2, if_neg (fun e => by have e1 := e.1; have e2 := r14; rw [e1, r20] at e2; exact absurd (Option.some.inj e2) (by decide))]
  have hE_8_7_1 : ∀ j : Int, w_ei ws (w_ar ws (n_v vs 8) 7) j = w_ei w1 (w_ar ws (n_v vs 8) 7) j := fun j => s1.1 _ _
  have hK_8_7 := elq_11 hD hth cr_8_7
  have hE_8_8_1 : ∀ j : Int, w_ei ws (w_ar ws (n_v vs 8) 8) j = w_ei w1 (w_ar ws (n_v vs 8) 8) j := fun j => s1.1 _ _
  have hK_8_8 := elq_12 hD hth cr_8_8
  have hE_8_14_1 : ∀ j : Int, w_ei ws (w_ar ws (n_v vs 8) 14) j = w_ei w1 (w_ar ws (n_v vs 8) 14) j := fun j => s1.1 _ _
  have hK_8_14 := elq_25 hD hth cr_8_14
  have hE_14_4_1 : ∀ j : Int, w_ei ws (w_ar ws (n_v vs 14) 4) j = w_ei w1 (w_ar ws (n_v vs 14) 4) j := fun j => s1.1 _ _
  have hK_14_4 := elq_29 hD hth cr_14_4
  have kz_8_0 := fdq_21 hD hth r8
  have kz_8_1 := fdq_30 hD hth r8
  have kz_14_0 := fdq_294 hD hth r14
  have kz_14_1 := fdq_278 hD hth r14
  have nf0 : fc_1 PRD (20, [0, 4], [62, 2000006]) ws (vs) := by
    refine ⟨nf_in hl rfl, sgq_270 ?_⟩
    · show HY ws (n_v vs 0) (v_iv (n_v vs 4) + (((2000006 : Nat) : Int) - 2000000))
      exact hy_le f14 (by omega)
  refine ⟨(fun _ h => (by cases h)), [], trivial, ?_, (fun _ h => (by cases h))⟩
  rw [List.append_nil]
  exact List.forall_mem_cons.mpr ⟨⟨show (20 : Nat) < 100 from by decide, nf0⟩, (fun _ h => (by cases h))⟩
def o_Ho_draw_14 : or_T := (170, 13, [(0, (2, 0, 0, [12])), (1, (0, 0, 3, [])), (7, (2, 0, 0, [131])), (8, (2, 0, 0, [3])), (12, (2, 0, 0, [3]))], [(14, [12, 7, 1], []), (9, [7, 0], [0]), (20, [0, 1, 8], [62, 71])], [], [], [(24, [8, 12], [])], [], [])
theorem oo_Ho_draw_14 {kA : Nat → ClassId} : or_ok PRD kA GG o_Ho_draw_14 := by
  refine or_mk fun A ta ws vs hD hth hl => ?_
  intro t0 r0 t1 k1 t7 r7 t8 r8 t12 r12 f0 f1 f2
  replace f0 := shm_793 f0
  replace f1 := shm_163 f1
  replace f2 := shm_1819 f2
  have nf0 : fc_1 PRD (24, [8, 12], []) ws (vs) := by
    refine ⟨nf_in hl rfl, sgq_5 ?_⟩
    · show n_v vs 8 = n_v vs 12
      exact ref_same t8 t12 rfl rfl ((wl_0 (wq_wl f2) (by decide)).trans (pO_of f1 f0).symm)
  refine ⟨(fun _ h => (by cases h)), [], trivial, ?_, (fun _ h => (by cases h))⟩
  rw [List.append_nil]
  exact List.forall_mem_cons.mpr ⟨⟨show (24 : Nat) < 100 from by decide, nf0⟩, (fun _ h => (by cases h))⟩
def o_Ho_draw_15 : or_T := (170, 13, [(0, (2, 0, 0, [12])), (1, (0, 0, 3, [])), (8, (2, 0, 0, [3])), (9, (0, 1, 24, [])), (12, (2, 0, 0, [3]))], [(24, [8, 12], []), (20, [8], [50, 1, 0, 0, 0, 2, 0, 1, 2, 0, 0]), (8, [9], [1]), (9, [9, 8], [0]), (20, [0, 1, 8], [62, 71])], [], [], [(20, [0, 1, 12], [62, 71])], [], [])
theorem oo_Ho_draw_15 {kA : Nat → ClassId} : or_ok PRD kA GG o_Ho_draw_15 := by
  refine or_mk fun A ta ws vs hD hth hl => ?_
  intro t0 r0 t1 k1 t8 r8 t9 k9 t12 r12 f0 f1 f2 f3 f4
  replace f0 := shm_5 f0
  replace f4 := shm_1819 f4
  have q12 : n_v vs 12 = n_v vs 8 := f0.symm
  have nf0 : fc_1 PRD (20, [0, 1, 12], [62, 71]) ws (vs) := by
    refine ⟨nf_in hl rfl, sgq_1819 ?_⟩
    · show WQF 71 [n_v vs 0, n_v vs 1, n_v vs 12] ws
      first | rw [q12] | skip
      have zw := f4
      first | rw [show n_v vs 8 = n_v vs 12 from (by first | exact f0 | exact f0.symm)] at zw | skip
      first | exact zw | ((first | rw [q12] at zw | skip); exact zw)
  refine ⟨(fun _ h => (by cases h)), [], trivial, ?_, (fun _ h => (by cases h))⟩
  rw [List.append_nil]
  exact List.forall_mem_cons.mpr ⟨⟨show (20 : Nat) < 100 from by decide, nf0⟩, (fun _ h => (by cases h))⟩
def o_Ho_draw_16 : or_T := (175, 14, [(0, (2, 0, 0, [12]))], [(20, [0], [62, 0]), (102, [12], [281337537757184, 2000, 2001, 2002, 2003]), (20, [0, 1, 12], [62, 71])], [], [], [(20, [0, 1, 12], [62, 71])], [], [])
theorem oo_Ho_draw_16 {kA : Nat → ClassId} : or_ok PRD kA GG o_Ho_draw_16 := by
  refine or_mk fun A ta ws vs hD hth hl => ?_
  intro t0 r0 f0 ta1 w1 le1 s1 f2
  replace f0 := shm_1176 f0
  replace s1 := s1.2
  replace f2 := shm_1819 f2
  have nf0 : fc_1 PRD (20, [0, 1, 12], [62, 71]) ws (vs) := by
    refine ⟨nf_in hl rfl, sgq_1819 ?_⟩
    · show WQF 71 [n_v vs 0, n_v vs 1, n_v vs 12] ws
      obtain ⟨aH, _, eH, _⟩ := tv_ref t0 rfl
      have hH0 := s1.2.2.1 12 List.mem_cons_self 0 (by decide) aH eH
      exact wq_step f0 (hd_call hD hth (by decide +kernel) le1 r0 (by rw [eH]; exact hH0) s1 (by decide +kernel)) f2 (by decide)
  refine ⟨(fun _ h => (by cases h)), [], trivial, ?_, (fun _ h => (by cases h))⟩
  rw [List.append_nil]
  exact List.forall_mem_cons.mpr ⟨⟨show (20 : Nat) < 100 from by decide, nf0⟩, (fun _ h => (by cases h))⟩
def o_Ho_draw_17 : or_T := (181, 16, [(0, (2, 0, 0, [12])), (1, (0, 0, 3, [])), (12, (2, 0, 0, [3]))], [(20, [0, 1, 12], [62, 71])], [], [], [(20, [12], [60, 1, 1, 637, 0, 14])], [], [])
theorem oo_Ho_draw_17 {kA : Nat → ClassId} : or_ok PRD kA GG o_Ho_draw_17 := by
  refine or_mk fun A ta ws vs hD hth hl => ?_
  intro t0 r0 t1 k1 t12 r12 f0
  replace f0 := shm_1819 f0
  have nf0 : fc_1 PRD (20, [12], [60, 1, 1, 637, 0, 14]) ws (vs) := by
    refine ⟨nf_in hl rfl, sgq_1792 ?_⟩
    · show SYG (w_fi ws (n_v vs 12) 0) (w_ei ws (w_ar ws (n_v vs 12) 14))
      have kz12_0 : 0 ≤ w_fi ws (n_v vs 12) 0 ∧ w_fi ws (n_v vs 12) 0 ≤ 24 := tv_rng (th_fd hD hth r12 (g := GG_3) rfl (k := 0) (t := (0, 0, 24, [])) rfl rfl)
      exact hg_syg (wq_hg f0 (by decide) (wl_0 (wq_wl (k := 71) f0) (by decide))) (by omega)
  refine ⟨(fun _ h => (by cases h)), [], trivial, ?_, (fun _ h => (by cases h))⟩
  rw [List.append_nil]
  exact List.forall_mem_cons.mpr ⟨⟨show (20 : Nat) < 100 from by decide, nf0⟩, (fun _ h => (by cases h))⟩
def o_Ho_draw_18 : or_T := (181, 16, [(0, (2, 0, 0, [12])), (1, (0, 0, 3, [])), (12, (2, 0, 0, [3])), (13, (2, 0, 0, [2]))], [(20, [0, 1, 12], [62, 71]), (20, [0, 1, 13], [62, 135]), (20, [13], [50, 1, 0, 0, 7, 3, 2, 0, 0, 0, 0])], [], [], [(20, [12, 13], [60, 1, 2, 671, 0, 14, 1004])], [], [])
theorem oo_Ho_draw_18 {kA : Nat → ClassId} : or_ok PRD kA GG o_Ho_draw_18 := by
  refine or_mk fun A ta ws vs hD hth hl => ?_
  intro t0 r0 t1 k1 t12 r12 t13 r13 f0 f1 f2
  replace f0 := shm_1819 f0
  replace f1 := shm_2132 f1
  replace f2 := shm_2130 f2
  have nf0 : fc_1 PRD (20, [12, 13], [60, 1, 2, 671, 0, 14, 1004]) ws (vs) := by
    refine ⟨nf_in hl rfl, sgq_419 ?_⟩
    · show PNC (w_fi ws (n_v vs 12) 0) (w_ei ws (w_ar ws (n_v vs 12) 14)) (w_ei ws (w_ar ws (n_v vs 13) 4))
      exact (hf_all (wq_hf f0 (by decide) (wl_0 (wq_wl (k := 71) f0) (by decide)) (wl_0 (wq_wl (k := 135) f1) (by decide))) (show w_fi ws (n_v vs 13) 0 ≠ 0 from f2)).1
  refine ⟨(fun _ h => (by cases h)), [], trivial, ?_, (fun _ h => (by cases h))⟩
  rw [List.append_nil]
  exact List.forall_mem_cons.mpr ⟨⟨show (20 : Nat) < 100 from by decide, nf0⟩, (fun _ h => (by cases h))⟩
def o_Ho_draw_19 : or_T := (181, 16, [(0, (2, 0, 0, [12])), (1, (0, 0, 3, [])), (12, (2, 0, 0, [3])), (13, (2, 0, 0, [2]))], [(20, [0, 1, 12], [62, 71]), (20, [0, 1, 13], [62, 135]), (20, [13], [50, 1, 0, 0, 7, 3, 2, 0, 0, 0, 0])], [], [], [(20, [12, 13], [60, 2, 1, 672, 0, 1001, 1004])], [], [])
theorem oo_Ho_draw_19 {kA : Nat → ClassId} : or_ok PRD kA GG o_Ho_draw_19 := by
  refine or_mk fun A ta ws vs hD hth hl => ?_
  intro t0 r0 t1 k1 t12 r12 t13 r13 f0 f1 f2
  replace f0 := shm_1819 f0
  replace f1 := shm_2132 f1
  replace f2 := shm_2130 f2
  have nf0 : fc_1 PRD (20, [12, 13], [60, 2, 1, 672, 0, 1001, 1004]) ws (vs) := by
    refine ⟨nf_in hl rfl, sgq_1179 ?_⟩
    · show FPA (w_fi ws (n_v vs 12) 0) (w_fi ws (n_v vs 13) 1) (w_ei ws (w_ar ws (n_v vs 13) 4))
      exact (hf_all (wq_hf f0 (by decide) (wl_0 (wq_wl (k := 71) f0) (by decide)) (wl_0 (wq_wl (k := 135) f1) (by decide))) (show w_fi ws (n_v vs 13) 0 ≠ 0 from f2)).2.1
  refine ⟨(fun _ h => (by cases h)), [], trivial, ?_, (fun _ h => (by cases h))⟩
  rw [List.append_nil]
  exact List.forall_mem_cons.mpr ⟨⟨show (20 : Nat) < 100 from by decide, nf0⟩, (fun _ h => (by cases h))⟩
def o_Ho_draw_20 : or_T := (181, 16, [(0, (2, 0, 0, [12])), (1, (0, 0, 3, [])), (12, (2, 0, 0, [3]))], [(20, [0, 1, 12], [62, 71])], [], [], [(20, [12], [60, 2, 2, 596, 0, 1, 7, 8])], [], [])
theorem oo_Ho_draw_20 {kA : Nat → ClassId} : or_ok PRD kA GG o_Ho_draw_20 := by
  refine or_mk fun A ta ws vs hD hth hl => ?_
  intro t0 r0 t1 k1 t12 r12 f0
  replace f0 := shm_1819 f0
  have nf0 : fc_1 PRD (20, [12], [60, 2, 2, 596, 0, 1, 7, 8]) ws (vs) := by
    refine ⟨nf_in hl rfl, sgq_386 ?_⟩
    · show GKE (w_fi ws (n_v vs 12) 0) (w_fi ws (n_v vs 12) 1) (w_ei ws (w_ar ws (n_v vs 12) 7)) (w_ei ws (w_ar ws (n_v vs 12) 8))
      exact hg_gke (wq_hg f0 (by decide) (wl_0 (wq_wl (k := 71) f0) (by decide)))
  refine ⟨(fun _ h => (by cases h)), [], trivial, ?_, (fun _ h => (by cases h))⟩
  rw [List.append_nil]
  exact List.forall_mem_cons.mpr ⟨⟨show (20 : Nat) < 100 from by decide, nf0⟩, (fun _ h => (by cases h))⟩
set_option maxHeartbeats 4000000 in
theorem vc_Ho_draw_21_0 (nodes_0o8 : Int) (f6 : 1 ≤ nodes_0o8) (kz_8_0 : 0 ≤ nodes_0o8 ∧ nodes_0o8 ≤ 24) : 1 ≤ nodes_0o8 := by
  first | omega
set_option maxHeartbeats 4000000 in
theorem vc_Ho_draw_21_2 (x4 : Int) (gy : Int) (k4 : 0 ≤ x4 ∧ x4 ≤ 3066) (ey2 : gy = x4) : 1 * gy + ((-1) * x4 + 0) ≤ 0 := by
  first | omega
set_option maxHeartbeats 4000000 in
theorem vc_Ho_draw_21_3 (x4 : Int) (gy : Int) (k4 : 0 ≤ x4 ∧ x4 ≤ 3066) (ey2 : gy = x4) : (-1) * gy + (1 * x4 + 0) ≤ 0 := by
  first | omega
set_option maxHeartbeats 4000000 in
theorem vc_Ho_draw_21_4 (nodes_0o8 : Int) (part_0o13 : Int → Int) (near_0o8 : Int → Int) (f3 : PNC (nodes_0o8) (near_0o8) (part_0o13)) (kz_8_0 : 0 ≤ nodes_0o8 ∧ nodes_0o8 ≤ 24) : PNC (nodes_0o8) (near_0o8) (part_0o13) := by
  first | assumption
set_option maxHeartbeats 4000000 in
theorem vc_Ho_draw_21_5 (nodes_0o8 : Int) (part_0o13 : Int → Int) (parts_0o13 : Int) (f2 : FPA (nodes_0o8) (parts_0o13) (part_0o13)) (kz_8_0 : 0 ≤ nodes_0o8 ∧ nodes_0o8 ≤ 24) (kz_13_1 : 0 ≤ parts_0o13 ∧ parts_0o13 ≤ 24) : FPA (nodes_0o8) (parts_0o13) (part_0o13) := by
  first | assumption
def o_Ho_draw_21 : or_T := (181, 16, [(0, (2, 0, 0, [12])), (4, (0, 0, 3066, [])), (8, (2, 0, 0, [3])), (9, (0, 1, 24, [])), (12, (2, 0, 0, [3])), (13, (2, 0, 0, [2]))], [(9, [9, 8], [0]), (20, [12], [60, 2, 2, 596, 0, 1, 7, 8]), (20, [12, 13], [60, 2, 1, 672, 0, 1001, 1004]), (20, [12, 13], [60, 1, 2, 671, 0, 14, 1004]), (20, [12], [60, 1, 1, 637, 0, 14]), (24, [8, 12], []), (20, [8], [50, 1, 0, 0, 0, 2, 0, 1, 2, 0, 0]), (20, [0, 4], [62, 2000000]), (20, [13], [50, 1, 0, 0, 7, 3, 2, 0, 0, 0, 0]), (102, [12], [281337537757184, 2000, 2001, 2002, 2003]), (8, [9], [1])], [], [(2, 0, 0, [12]), (0, 0, 3072, [])], [(20, [12], [50, 1, 0, 0, 0, 2, 0, 1, 2, 0, 0]), (24, [0, 16], []), (23, [17, 4], [0, 1, -1]), (23, [17, 4], [0, -1, 1]), (20, [12, 13], [60, 1, 2, 671, 0, 14, 1004]), (20, [12, 13], [60, 2, 1, 672, 0, 1001, 1004]), (20, [16, 17], [62, 2000000])], [], [])
theorem oo_Ho_draw_21 {kA : Nat → ClassId} : or_ok PRD kA GG o_Ho_draw_21 := by
  refine or_mk fun A ta ws vs hD hth hl => ?_
  intro t0 r0 t4 k4 t8 r8 t9 k9 t12 r12 t13 r13 f0 f1 f2 f3 f4 f5 f6 f7 f8 ta1 w1 le1 s1 f10
  replace f0 := shm_163 f0
  replace f1 := shm_386 f1
  replace f2 := shm_1179 f2
  replace f3 := shm_419 f3
  replace f4 := shm_1792 f4
  replace f5 := shm_5 f5
  replace f6 := shm_1220 f6
  replace f7 := shm_161 f7
  replace f8 := shm_2130 f8
  replace f10 := shm_142 f10
  have q12 : n_v vs 12 = n_v vs 8 := f5.symm
  simp only [q12] at f1 f2 f3 f4
  have cr_8_7 := fdq_46 hD hth r8
  have cr_8_8 := fdq_47 hD hth r8
  have cr_8_14 := fdq_75 hD hth r8
  have cr_13_4 := fdq_87 hD hth r13
  have g0 : v_iv (n_v vs 9) = w_fi ws (n_v vs 8) 0 := congrArg v_iv f0
  have hK_8_7 := elq_11 hD hth cr_8_7
  have hK_8_8 := elq_12 hD hth cr_8_8
  have hK_8_14 := elq_25 hD hth cr_8_14
  have hK_13_4 := elq_29 hD hth cr_13_4
  have kz_8_0 := fdq_21 hD hth r8
  have kz_8_1 := fdq_30 hD hth r8
  have kz_13_0 := fdq_294 hD hth r13
  have kz_13_1 := fdq_278 hD hth r13
  obtain ⟨y, ey, hy⟩ := iv_ex (ta := ta) (lo := 0) (hi := 3072) (z := v_iv (n_v vs 4)) (by omega) (by omega) (by omega) (by omega)
  have ey2 : v_iv (Value.int y) = v_iv (n_v vs 4) := ey
  have ey3 : 0 ≤ v_iv (Value.int y) ∧ v_iv (Value.int y) ≤ 3072 := tv_rng hy
  have e_0 : n_v (vs ++ [n_v vs 0, Value.int y]) 0 = n_v vs 0 := n_v_old (by rw [hl]; decide)
  have e_4 : n_v (vs ++ [n_v vs 0, Value.int y]) 4 = n_v vs 4 := n_v_old (by rw [hl]; decide)
  have e_12 : n_v (vs ++ [n_v vs 0, Value.int y]) 12 = n_v vs 12 := n_v_old (by rw [hl]; decide)
  have e_13 : n_v (vs ++ [n_v vs 0, Value.int y]) 13 = n_v vs 13 := n_v_old (by rw [hl]; decide)
  have e_16 : n_v (vs ++ [n_v vs 0, Value.int y]) 16 = n_v vs 0 := n_v_new0 hl
  have e_17 : n_v (vs ++ [n_v vs 0, Value.int y]) 17 = Value.int y := n_v_new1 hl
  have nf0 : fc_1 PRD (20, [12], [50, 1, 0, 0, 0, 2, 0, 1, 2, 0, 0]) ws (vs ++ [n_v vs 0, Value.int y]) := by
    refine ⟨nf_inA hl rfl, sgq_1220 ?_⟩
    · show 1 ≤ w_fi ws (n_v (vs ++ [n_v vs 0, Value.int y]) 12) 0
      simp only [e_12, q12]
      exact vc_Ho_draw_21_0 (w_fi ws (n_v vs 8) 0) f6 kz_8_0
  have nf1 : fc_1 PRD (24, [0, 16], []) ws (vs ++ [n_v vs 0, Value.int y]) := by
    refine ⟨nf_inA hl rfl, sgq_5 ?_⟩
    · show n_v (vs ++ [n_v vs 0, Value.int y]) 0 = n_v (vs ++ [n_v vs 0, Value.int y]) 16
      first | rfl | simp only [e_0, e_16, q12]
  have nf2 : fc_1 PRD (23, [17, 4], [0, 1, -1]) ws (vs ++ [n_v vs 0, Value.int y]) := by
    refine ⟨nf_inA hl rfl, sgq_7 ?_⟩
    · show 1 * v_iv (n_v (vs ++ [n_v vs 0, Value.int y]) 17) + ((-1) * v_iv (n_v (vs ++ [n_v vs 0, Value.int y]) 4) + 0) ≤ 0
      simp only [e_4, e_17]
      exact vc_Ho_draw_21_2 (v_iv (n_v vs 4)) (v_iv (Value.int y)) k4 ey2
  have nf3 : fc_1 PRD (23, [17, 4], [0, -1, 1]) ws (vs ++ [n_v vs 0, Value.int y]) := by
    refine ⟨nf_inA hl rfl, sgq_22 ?_⟩
    · show (-1) * v_iv (n_v (vs ++ [n_v vs 0, Value.int y]) 17) + (1 * v_iv (n_v (vs ++ [n_v vs 0, Value.int y]) 4) + 0) ≤ 0
      simp only [e_4, e_17]
      exact vc_Ho_draw_21_3 (v_iv (n_v vs 4)) (v_iv (Value.int y)) k4 ey2
  have nf4 : fc_1 PRD (20, [12, 13], [60, 1, 2, 671, 0, 14, 1004]) ws (vs ++ [n_v vs 0, Value.int y]) := by
    refine ⟨nf_inA hl rfl, sgq_419 ?_⟩
    · show PNC (w_fi ws (n_v (vs ++ [n_v vs 0, Value.int y]) 12) 0) (w_ei ws (w_ar ws (n_v (vs ++ [n_v vs 0, Value.int y]) 12) 14)) (w_ei ws (w_ar ws (n_v (vs ++ [n_v vs 0, Value.int y]) 13) 4))
      simp only [e_12, e_13, q12]
      exact vc_Ho_draw_21_4 (w_fi ws (n_v vs 8) 0) (w_ei ws (w_ar ws (n_v vs 13) 4)) (w_ei ws (w_ar ws (n_v vs 8) 14)) f3 kz_8_0
  have nf5 : fc_1 PRD (20, [12, 13], [60, 2, 1, 672, 0, 1001, 1004]) ws (vs ++ [n_v vs 0, Value.int y]) := by
    refine ⟨nf_inA hl rfl, sgq_1179 ?_⟩
    · show FPA (w_fi ws (n_v (vs ++ [n_v vs 0, Value.int y]) 12) 0) (w_fi ws (n_v (vs ++ [n_v vs 0, Value.int y]) 13) 1) (w_ei ws (w_ar ws (n_v (vs ++ [n_v vs 0, Value.int y]) 13) 4))
      simp only [e_12, e_13, q12]
      exact vc_Ho_draw_21_5 (w_fi ws (n_v vs 8) 0) (w_ei ws (w_ar ws (n_v vs 13) 4)) (w_fi ws (n_v vs 13) 1) f2 kz_8_0 kz_13_1
  have nf6 : fc_1 PRD (20, [16, 17], [62, 2000000]) ws (vs ++ [n_v vs 0, Value.int y]) := by
    refine ⟨nf_inA hl rfl, sgq_161 ?_⟩
    · show HY ws (n_v (vs ++ [n_v vs 0, Value.int y]) 16) (v_iv (n_v (vs ++ [n_v vs 0, Value.int y]) 17) + (((2000000 : Nat) : Int) - 2000000))
      simp only [e_16, e_17]
      exact hy_le f7 (by omega)
  exact ⟨(fun _ h => (by cases h)), [n_v vs 0, Value.int y], ag_two t0 hy, List.forall_mem_cons.mpr ⟨⟨show (20 : Nat) < 100 from by decide, nf0⟩, List.forall_mem_cons.mpr ⟨⟨show (24 : Nat) < 100 from by decide, nf1⟩, List.forall_mem_cons.mpr ⟨⟨show (23 : Nat) < 100 from by decide, nf2⟩, List.forall_mem_cons.mpr ⟨⟨show (23 : Nat) < 100 from by decide, nf3⟩, List.forall_mem_cons.mpr ⟨⟨show (20 : Nat) < 100 from by decide, nf4⟩, List.forall_mem_cons.mpr ⟨⟨show (20 : Nat) < 100 from by decide, nf5⟩, List.forall_mem_cons.mpr ⟨⟨show (20 : Nat) < 100 from by decide, nf6⟩, (fun _ h => (by cases h))⟩⟩⟩⟩⟩⟩⟩, (fun _ h => (by cases h))⟩
def o_Ho_draw_22 : or_T := (203, 19, [(0, (2, 0, 0, [12])), (4, (0, 0, 3066, [])), (8, (2, 0, 0, [3])), (9, (0, 1, 24, [])), (12, (2, 0, 0, [3])), (13, (2, 0, 0, [2])), (16, (2, 0, 0, [12])), (17, (0, 0, 3072, []))], [(9, [9, 8], [0]), (20, [12], [50, 1, 0, 0, 0, 2, 0, 1, 2, 0, 0]), (24, [0, 16], []), (23, [17, 4], [0, 1, -1]), (23, [17, 4], [0, -1, 1]), (20, [12, 13], [60, 1, 2, 671, 0, 14, 1004]), (20, [12, 13], [60, 2, 1, 672, 0, 1001, 1004]), (20, [12], [60, 2, 2, 596, 0, 1, 7, 8]), (20, [12, 13], [60, 2, 1, 672, 0, 1001, 1004]), (20, [12, 13], [60, 1, 2, 671, 0, 14, 1004]), (20, [12], [60, 1, 1, 637, 0, 14]), (24, [8, 12], []), (20, [8], [50, 1, 0, 0, 0, 2, 0, 1, 2, 0, 0]), (20, [13], [50, 1, 0, 0, 7, 3, 2, 0, 0, 0, 0]), (20, [16, 17], [62, 2000000]), (102, [17], [5069983430893274915849367568384, 7, 9, 6000, 6001, 6008, 6011, 6013, 6014]), (23, [17, 4], [0, 1, -1]), (23, [17, 4], [0, -1, 1]), (102, [12], [281337537757184, 2000, 2001, 2002, 2003]), (8, [9], [1])], [], [], [(20, [0, 4], [62, 2000006])], [], [])
theorem oo_Ho_draw_22 {kA : Nat → ClassId} : or_ok PRD kA GG o_Ho_draw_22 := by
  refine or_mk fun A ta ws vs hD hth hl => ?_
  intro t0 r0 t4 k4 t8 r8 t9 k9 t12 r12 t13 r13 t16 r16 t17 k17 f0 f1 f2 f3 f4 f5 f6 f7 f8 f9 f10 f11 f12 f13 f14 ta1 w1 le1 s1 f16 f17 ta2 w2 le2 s2 f19
  replace f0 := shm_163 f0
  replace f1 := shm_1220 f1
  replace f2 := shm_5 f2
  replace f3 := shm_7 f3
  replace f4 := shm_22 f4
  replace f5 := shm_419 f5
  replace f6 := shm_1179 f6
  replace f7 := shm_386 f7
  replace f8 := shm_1179 f8
  replace f9 := shm_419 f9
  replace f10 := shm_1792 f10
  replace f11 := shm_5 f11
  replace f12 := shm_1220 f12
  replace f13 := shm_2130 f13
  replace f14 := shm_161 f14
  replace f16 := shm_7 f16
  replace f17 := shm_22 f17
  replace f19 := shm_142 f19
  have q16 : n_v vs 16 = n_v vs 0 := f2.symm
  have q12 : n_v vs 12 = n_v vs 8 := f11.symm
  simp only [q12, q16] at f1 f5 f6 f7 f8 f9 f10 f14
  have cr_8_7 := fdq_46 hD hth r8
  have cr_8_8 := fdq_47 hD hth r8
  have cr_8_14 := fdq_75 hD hth r8
  have cr_13_4 := fdq_87 hD hth r13
  have g0 : v_iv (n_v vs 9) = w_fi ws (n_v vs 8) 0 := congrArg v_iv f0
  have hK_8_7 := elq_11 hD hth cr_8_7
  have hK_8_8 := elq_12 hD hth cr_8_8
  have hK_8_14 := elq_25 hD hth cr_8_14
  have hK_13_4 := elq_29 hD hth cr_13_4
  have kz_8_0 := fdq_21 hD hth r8
  have kz_8_1 := fdq_30 hD hth r8
  have kz_13_0 := fdq_294 hD hth r13
  have kz_13_1 := fdq_278 hD hth r13
  have nf0 : fc_1 PRD (20, [0, 4], [62, 2000006]) ws (vs) := by
    refine ⟨nf_in hl rfl, sgq_270 ?_⟩
    · show HY ws (n_v vs 0) (v_iv (n_v vs 4) + (((2000006 : Nat) : Int) - 2000000))
      exact hy_le f14 (by omega)
  refine ⟨(fun _ h => (by cases h)), [], trivial, ?_, (fun _ h => (by cases h))⟩
  rw [List.append_nil]
  exact List.forall_mem_cons.mpr ⟨⟨show (20 : Nat) < 100 from by decide, nf0⟩, (fun _ h => (by cases h))⟩
def o_Ho_draw_23 : or_T := (203, 20, [(0, (2, 0, 0, [12])), (4, (0, 0, 3066, [])), (8, (2, 0, 0, [3])), (9, (0, 1, 24, [])), (12, (2, 0, 0, [3])), (13, (2, 0, 0, [2])), (16, (2, 0, 0, [12])), (17, (0, 0, 3072, [])), (19, (2, 0, 0, [0]))], [(9, [9, 8], [0]), (20, [12], [50, 1, 0, 0, 0, 2, 0, 1, 2, 0, 0]), (24, [0, 16], []), (23, [17, 4], [0, 1, -1]), (23, [17, 4], [0, -1, 1]), (20, [12, 13], [60, 1, 2, 671, 0, 14, 1004]), (20, [12, 13], [60, 2, 1, 672, 0, 1001, 1004]), (20, [12], [60, 2, 2, 596, 0, 1, 7, 8]), (20, [12, 13], [60, 2, 1, 672, 0, 1001, 1004]), (20, [12, 13], [60, 1, 2, 671, 0, 14, 1004]), (20, [12], [60, 1, 1, 637, 0, 14]), (24, [8, 12], []), (20, [8], [50, 1, 0, 0, 0, 2, 0, 1, 2, 0, 0]), (20, [13], [50, 1, 0, 0, 7, 3, 2, 0, 0, 0, 0]), (20, [16, 17], [62, 2000000]), (101, [19, 2], [1]), (20, [12], [50, 1, 0, 0, 0, 2, 0, 1, 2, 0, 0]), (23, [17, 4], [0, 1, -1]), (23, [17, 4], [0, -1, 1]), (20, [12, 13], [60, 1, 2, 671, 0, 14, 1004]), (20, [12, 13], [60, 2, 1, 672, 0, 1001, 1004]), (20, [12], [60, 2, 2, 596, 0, 1, 7, 8]), (20, [12, 13], [60, 2, 1, 672, 0, 1001, 1004]), (20, [12, 13], [60, 1, 2, 671, 0, 14, 1004]), (20, [12], [60, 1, 1, 637, 0, 14]), (20, [8], [50, 1, 0, 0, 0, 2, 0, 1, 2, 0, 0]), (20, [13], [50, 1, 0, 0, 7, 3, 2, 0, 0, 0, 0]), (102, [17], [5069983430893274915849367568384, 7, 9, 6000, 6001, 6008, 6011, 6013, 6014]), (23, [17, 4], [0, 1, -1]), (23, [17, 4], [0, -1, 1]), (102, [12], [281337537757184, 2000, 2001, 2002, 2003]), (8, [9], [1])], [], [], [(20, [0, 4], [62, 2000006])], [], [])
theorem oo_Ho_draw_23 {kA : Nat → ClassId} : or_ok PRD kA GG o_Ho_draw_23 := by
  refine or_mk fun A ta ws vs hD hth hl => ?_
  intro t0 r0 t4 k4 t8 r8 t9 k9 t12 r12 t13 r13 t16 r16 t17 k17 t19 r19 f0 f1 f2 f3 f4 f5 f6 f7 f8 f9 f10 f11 f12 f13 f14 ta1 w1 le1 s1 f16 f17 f18 f19 f20 f21 f22 f23 f24 f25 f26 ta2 w2 le2 s2 f28 f29 ta3 w3 le3 s3 f31
  replace f0 := shm_163 f0
  replace f1 := shm_1220 f1
  replace f2 := shm_5 f2
  replace f3 := shm_7 f3
  replace f4 := shm_22 f4
  replace f5 := shm_419 f5
  replace f6 := shm_1179 f6
  replace f7 := shm_386 f7
  replace f8 := shm_1179 f8
  replace f9 := shm_419 f9
  replace f10 := shm_1792 f10
  replace f11 := shm_5 f11
  replace f12 := shm_1220 f12
  replace f13 := shm_2130 f13
  replace f14 := shm_161 f14
  have s1 : (∀ b j, w_el ws b j = w_el w1 b j) ∧ ∀ b j, w_fd ws b j = if b = v_ad (n_v vs 19) ∧ j = 1 then n_v vs 2 else w_fd w1 b j := s1.2
  replace f16 := shm_1220 f16
  replace f17 := shm_7 f17
  replace f18 := shm_22 f18
  replace f19 := shm_419 f19
  replace f20 := shm_1179 f20
  replace f21 := shm_386 f21
  replace f22 := shm_1179 f22
  replace f23 := shm_419 f23
  replace f24 := shm_1792 f24
  replace f25 := shm_1220 f25
  replace f26 := shm_2130 f26
  replace f28 := shm_7 f28
  replace f29 := shm_22 f29
  replace f31 := shm_142 f31
  have q16 : n_v vs 16 = n_v vs 0 := f2.symm
  have q12 : n_v vs 12 = n_v vs 8 := f11.symm
  simp only [q12, q16] at f1 f5 f6 f7 f8 f9 f10 f14 f16 f19 f20 f21 f22 f23 f24
  have ar_8_7_1 : w_ar w1 (n_v vs 8) 7 = w_ar ws (n_v vs 8) 7 := by show v_ad (w_fd w1 _ _) = v_ad (w_fd ws _ _); rw [s1.2, if_neg (fun e => absurd e.2 (by decide))]
  have cr_8_7 := fdq_46 hD hth r8
  have ar_8_8_1 : w_ar w1 (n_v vs 8) 8 = w_ar ws (n_v vs 8) 8 := by show v_ad (w_fd w1 _ _) = v_ad (w_fd ws _ _); rw [s1.2, if_neg (fun e => absurd e.2 (by decide))]
  have cr_8_8 := fdq_47 hD hth r8
  have ar_8_14_1 : w_ar w1 (n_v vs 8) 14 = w_ar ws (n_v vs 8) 14 := by show v_ad (w_fd w1 _ _) = v_ad (w_fd ws _ _); rw [s1.2, if_neg (fun e => absurd e.2 (by decide))]
  have cr_8_14 := fdq_75 hD hth r8
  have ar_13_4_1 : w_ar w1 (n_v vs 13) 4 = w_ar ws (n_v vs 13) 4 := by show v_ad (w_fd w1 _ _) = v_ad (w_fd ws _ _); rw [s1.2, if_neg (fun e => absurd e.2 (by decide))]
  have cr_13_4 := fdq_87 hD hth r13
  have g0 : v_iv (n_v vs 9) = w_fi ws (n_v vs 8) 0 := congrArg v_iv f0
  simp only [ar_8_14_1, ar_13_4_1, ar_8_7_1, ar_8_8_1] at f19 f20 f21 f22 f23 f24
  have fe_8_0_1 : w_fi ws (n_v vs 8) 0 = w_fi w1 (n_v vs 8) 0 := by show v_iv (w_fd _ _ _) = v_iv (w_fd _ _ _); rw [s1.2, if_neg (fun e => absurd e.2 (by decide))]
  have fe_8_1_1 : w_fi ws (n_v vs 8) 1 = w_fi w1 (n_v vs 8) 1 := by show v_iv (w_fd _ _ _) = v_iv (w_fd _ _ _); rw [s1.2, if_neg (fun e => by have e1 := e.1; have e2 := r8; rw [e1, r19] at e2; exact absurd (Option.some.inj e2) (by decide))]
  have fe_13_0_1 : w_fi ws (n_v vs 13) 0 = w_fi w1 (n_v vs 13) 0 := by show v_iv (w_fd _ _ _) = v_iv (w_fd _ _ _); rw [s1.2, if_neg (fun e => absurd e.2 (by decide))]
  have fe_13_1_1 : w_fi ws (n_v vs 13) 1 = w_fi w1 (n_v vs 13) 1 := by show v_iv (w_fd _ _ _) = v_iv (w_fd _ _ _); rw [s1.2, if_neg (fun e => by have e1 := e.1; have e2 := r13; rw [e1, r19] at e2; exact absurd (Option.some.inj e2) (by decide))]
  have hE_8_7_1 : ∀ j : Int, w_ei ws (w_ar ws (n_v vs 8) 7) j = w_ei w1 (w_ar ws (n_v vs 8) 7) j := fun j => s1.1 _ _
  have hK_8_7 := elq_11 hD hth cr_8_7
  have hE_8_8_1 : ∀ j : Int, w_ei ws (w_ar ws (n_v vs 8) 8) j = w_ei w1 (w_ar ws (n_v vs 8) 8) j := fun j => s1.1 _ _
  have hK_8_8 := elq_12 hD hth cr_8_8
  have hE_8_14_1 : ∀ j : Int, w_ei ws (w_ar ws (n_v vs 8) 14) j = w_ei w1 (w_ar ws (n_v vs 8) 14) j := fun j => s1.1 _ _
  have hK_8_14 := elq_25 hD hth cr_8_14
  have hE_13_4_1 : ∀ j : Int, w_ei ws (w_ar ws (n_v vs 13) 4) j = w_ei w1 (w_ar ws (n_v vs 13) 4) j := fun j => s1.1 _ _
  have hK_13_4 := elq_29 hD hth cr_13_4
  have kz_8_0 := fdq_21 hD hth r8
  have kz_8_1 := fdq_30 hD hth r8
  have kz_13_0 := fdq_294 hD hth r13
  have kz_13_1 := fdq_278 hD hth r13
  have nf0 : fc_1 PRD (20, [0, 4], [62, 2000006]) ws (vs) := by
    refine ⟨nf_in hl rfl, sgq_270 ?_⟩
    · show HY ws (n_v vs 0) (v_iv (n_v vs 4) + (((2000006 : Nat) : Int) - 2000000))
      exact hy_le f14 (by omega)
  refine ⟨(fun _ h => (by cases h)), [], trivial, ?_, (fun _ h => (by cases h))⟩
  rw [List.append_nil]
  exact List.forall_mem_cons.mpr ⟨⟨show (20 : Nat) < 100 from by decide, nf0⟩, (fun _ h => (by cases h))⟩
def o_Ho_draw_24 : or_T := (116, 14, [(0, (2, 0, 0, [12])), (1, (0, 0, 3, [])), (7, (2, 0, 0, [131])), (8, (2, 0, 0, [3])), (13, (2, 0, 0, [3]))], [(14, [13, 7, 1], []), (9, [7, 0], [0]), (20, [0, 1, 8], [62, 71])], [], [], [(24, [8, 13], [])], [], [])
theorem oo_Ho_draw_24 {kA : Nat → ClassId} : or_ok PRD kA GG o_Ho_draw_24 := by
  refine or_mk fun A ta ws vs hD hth hl => ?_
  intro t0 r0 t1 k1 t7 r7 t8 r8 t13 r13 f0 f1 f2
  replace f0 := shm_793 f0
  replace f1 := shm_163 f1
  replace f2 := shm_1819 f2
  have nf0 : fc_1 PRD (24, [8, 13], []) ws (vs) := by
    refine ⟨nf_in hl rfl, sgq_5 ?_⟩
    · show n_v vs 8 = n_v vs 13
      exact ref_same t8 t13 rfl rfl ((wl_0 (wq_wl f2) (by decide)).trans (pO_of f1 f0).symm)
  refine ⟨(fun _ h => (by cases h)), [], trivial, ?_, (fun _ h => (by cases h))⟩
  rw [List.append_nil]
  exact List.forall_mem_cons.mpr ⟨⟨show (24 : Nat) < 100 from by decide, nf0⟩, (fun _ h => (by cases h))⟩
def o_Ho_draw_25 : or_T := (116, 14, [(0, (2, 0, 0, [12])), (1, (0, 0, 3, [])), (8, (2, 0, 0, [3])), (9, (0, 1, 24, [])), (13, (2, 0, 0, [3]))], [(9, [9, 8], [0]), (24, [8, 13], []), (20, [8], [50, 1, 0, 0, 0, 2, 0, 1, 2, 0, 0]), (20, [0, 1, 8], [62, 71]), (101, [0, 12], [18]), (102, [11], [0, 301000, 301001, 301002, 301003, 301004, 301005, 301006, 301007, 301008, 305000, 305001, 305002, 305003, 305004, 305005, 305006, 305007, 305008, 305009, 305010, 305011, 305012, 305013, 305014, 305015, 305016]), (8, [9], [1])], [], [], [(20, [0, 1, 13], [62, 71])], [], [])
theorem oo_Ho_draw_25 {kA : Nat → ClassId} : or_ok PRD kA GG o_Ho_draw_25 := by
  refine or_mk fun A ta ws vs hD hth hl => ?_
  intro t0 r0 t1 k1 t8 r8 t9 k9 t13 r13 f0 f1 f2 f3 ta1 w1 le1 s1 ta2 w2 le2 s2 f6
  replace f1 := shm_5 f1
  replace f3 := shm_1819 f3
  have q13 : n_v vs 13 = n_v vs 8 := f1.symm
  have nf0 : fc_1 PRD (20, [0, 1, 13], [62, 71]) ws (vs) := by
    refine ⟨nf_in hl rfl, sgq_1819 ?_⟩
    · show WQF 71 [n_v vs 0, n_v vs 1, n_v vs 13] ws
      first | rw [q13] | skip
      have zw := f3
      first | rw [show n_v vs 8 = n_v vs 13 from (by first | exact f1 | exact f1.symm)] at zw | skip
      first | exact zw | ((first | rw [q13] at zw | skip); exact zw)
  refine ⟨(fun _ h => (by cases h)), [], trivial, ?_, (fun _ h => (by cases h))⟩
  rw [List.append_nil]
  exact List.forall_mem_cons.mpr ⟨⟨show (20 : Nat) < 100 from by decide, nf0⟩, (fun _ h => (by cases h))⟩
def o_Ho_draw_26 : or_T := (121, 15, [(0, (2, 0, 0, [12]))], [(20, [0], [62, 0]), (102, [13], [281337537757184, 2000, 2001, 2002, 2003]), (20, [0, 1, 13], [62, 71])], [], [], [(20, [0, 1, 13], [62, 71])], [], [])
theorem oo_Ho_draw_26 {kA : Nat → ClassId} : or_ok PRD kA GG o_Ho_draw_26 := by
  refine or_mk fun A ta ws vs hD hth hl => ?_
  intro t0 r0 f0 ta1 w1 le1 s1 f2
  replace f0 := shm_1176 f0
  replace s1 := s1.2
  replace f2 := shm_1819 f2
  have nf0 : fc_1 PRD (20, [0, 1, 13], [62, 71]) ws (vs) := by
    refine ⟨nf_in hl rfl, sgq_1819 ?_⟩
    · show WQF 71 [n_v vs 0, n_v vs 1, n_v vs 13] ws
      obtain ⟨aH, _, eH, _⟩ := tv_ref t0 rfl
      have hH0 := s1.2.2.1 13 List.mem_cons_self 0 (by decide) aH eH
      exact wq_step f0 (hd_call hD hth (by decide +kernel) le1 r0 (by rw [eH]; exact hH0) s1 (by decide +kernel)) f2 (by decide)
  refine ⟨(fun _ h => (by cases h)), [], trivial, ?_, (fun _ h => (by cases h))⟩
  rw [List.append_nil]
  exact List.forall_mem_cons.mpr ⟨⟨show (20 : Nat) < 100 from by decide, nf0⟩, (fun _ h => (by cases h))⟩
def o_Ho_draw_27 : or_T := (126, 16, [(0, (2, 0, 0, [12])), (1, (0, 0, 3, [])), (13, (2, 0, 0, [3])), (14, (2, 0, 0, [2]))], [(20, [0], [62, 0]), (102, [14], [712230049778071777201162559065590005831303168, 1000, 1005, 1006, 1007, 1015, 1016, 1017, 1018, 5000, 5002, 5003, 5005, 5006, 5013, 149005, 149006, 149013]), (20, [0, 1, 13], [62, 71])], [], [], [(20, [0, 1, 13], [62, 71])], [], [])
theorem oo_Ho_draw_27 {kA : Nat → ClassId} : or_ok PRD kA GG o_Ho_draw_27 := by
  refine or_mk fun A ta ws vs hD hth hl => ?_
  intro t0 r0 t1 k1 t13 r13 t14 r14 f0 ta1 w1 le1 s1 f2
  replace f0 := shm_1176 f0
  replace s1 := s1.2
  replace f2 := shm_1819 f2
  have nf0 : fc_1 PRD (20, [0, 1, 13], [62, 71]) ws (vs) := by
    refine ⟨nf_in hl rfl, sgq_1819 ?_⟩
    · show WQF 71 [n_v vs 0, n_v vs 1, n_v vs 13] ws
      obtain ⟨aH, _, eH, _⟩ := tv_ref t0 rfl
      have hH0 := s1.2.2.1 14 List.mem_cons_self 0 (by decide) aH eH
      exact wq_step f0 (hd_call hD hth (by decide +kernel) le1 r0 (by rw [eH]; exact hH0) s1 (by decide +kernel)) f2 (by decide)
  refine ⟨(fun _ h => (by cases h)), [], trivial, ?_, (fun _ h => (by cases h))⟩
  rw [List.append_nil]
  exact List.forall_mem_cons.mpr ⟨⟨show (20 : Nat) < 100 from by decide, nf0⟩, (fun _ h => (by cases h))⟩
def o_Ho_draw_28 : or_T := (126, 16, [(0, (2, 0, 0, [12])), (1, (0, 0, 3, [])), (14, (2, 0, 0, [2]))], [(20, [0], [62, 0]), (102, [14], [712230049778071777201162559065590005831303168, 1000, 1005, 1006, 1007, 1015, 1016, 1017, 1018, 5000, 5002, 5003, 5005, 5006, 5013, 149005, 149006, 149013]), (20, [0, 1, 14], [62, 135])], [], [], [(20, [0, 1, 14], [62, 135])], [], [])
theorem oo_Ho_draw_28 {kA : Nat → ClassId} : or_ok PRD kA GG o_Ho_draw_28 := by
  refine or_mk fun A ta ws vs hD hth hl => ?_
  intro t0 r0 t1 k1 t14 r14 f0 ta1 w1 le1 s1 f2
  replace f0 := shm_1176 f0
  replace s1 := s1.2
  replace f2 := shm_2132 f2
  have nf0 : fc_1 PRD (20, [0, 1, 14], [62, 135]) ws (vs) := by
    refine ⟨nf_in hl rfl, sgq_2132 ?_⟩
    · show WQF 135 [n_v vs 0, n_v vs 1, n_v vs 14] ws
      obtain ⟨aH, _, eH, _⟩ := tv_ref t0 rfl
      have hH0 := s1.2.2.1 14 List.mem_cons_self 0 (by decide) aH eH
      exact wq_step f0 (hd_call hD hth (by decide +kernel) le1 r0 (by rw [eH]; exact hH0) s1 (by decide +kernel)) f2 (by decide)
  refine ⟨(fun _ h => (by cases h)), [], trivial, ?_, (fun _ h => (by cases h))⟩
  rw [List.append_nil]
  exact List.forall_mem_cons.mpr ⟨⟨show (20 : Nat) < 100 from by decide, nf0⟩, (fun _ h => (by cases h))⟩
def o_Ho_draw_29 : or_T := (132, 18, [(0, (2, 0, 0, [12])), (1, (0, 0, 3, [])), (4, (0, 0, 3066, [])), (16, (2, 0, 0, [134])), (17, (2, 0, 0, [0]))], [(14, [17, 16, 1], []), (9, [16, 0], [3]), (20, [0, 4], [62, 2000000])], [], [], [(20, [0, 4, 17], [62, 2000000])], [], [])
theorem oo_Ho_draw_29 {kA : Nat → ClassId} : or_ok PRD kA GG o_Ho_draw_29 := by
  refine or_mk fun A ta ws vs hD hth hl => ?_
  intro t0 r0 t1 k1 t4 k4 t16 r16 t17 r17 f0 f1 f2
  replace f0 := shm_793 f0
  replace f1 := shm_137 f1
  replace f2 := shm_161 f2
  have nf0 : fc_1 PRD (20, [0, 4, 17], [62, 2000000]) ws (vs) := by
    refine ⟨nf_in hl rfl, sgq_1399 ?_⟩
    · show HY ws (n_v vs 0) (v_iv (n_v vs 4) + (((2000000 : Nat) : Int) - 2000000)) ∧ HYD ws (n_v vs 0) (n_v vs 17)
      exact ⟨hy_le f2 (by omega), hyd_of f1 f0 (by omega) (by omega)⟩
  refine ⟨(fun _ h => (by cases h)), [], trivial, ?_, (fun _ h => (by cases h))⟩
  rw [List.append_nil]
  exact List.forall_mem_cons.mpr ⟨⟨show (20 : Nat) < 100 from by decide, nf0⟩, (fun _ h => (by cases h))⟩
def o_Ho_draw_30 : or_T := (132, 18, [(0, (2, 0, 0, [12])), (1, (0, 0, 3, [])), (13, (2, 0, 0, [3])), (14, (2, 0, 0, [2]))], [(20, [0, 1, 14], [62, 135]), (20, [0, 1, 13], [62, 71])], [], [], [(20, [13], [60, 1, 1, 637, 0, 14])], [], [])
theorem oo_Ho_draw_30 {kA : Nat → ClassId} : or_ok PRD kA GG o_Ho_draw_30 := by
  refine or_mk fun A ta ws vs hD hth hl => ?_
  intro t0 r0 t1 k1 t13 r13 t14 r14 f0 f1
  replace f0 := shm_2132 f0
  replace f1 := shm_1819 f1
  have nf0 : fc_1 PRD (20, [13], [60, 1, 1, 637, 0, 14]) ws (vs) := by
    refine ⟨nf_in hl rfl, sgq_1792 ?_⟩
    · show SYG (w_fi ws (n_v vs 13) 0) (w_ei ws (w_ar ws (n_v vs 13) 14))
      have kz13_0 : 0 ≤ w_fi ws (n_v vs 13) 0 ∧ w_fi ws (n_v vs 13) 0 ≤ 24 := tv_rng (th_fd hD hth r13 (g := GG_3) rfl (k := 0) (t := (0, 0, 24, [])) rfl rfl)
      exact hg_syg (wq_hg f0 (by decide) (wl_0 (wq_wl (k := 71) f1) (by decide))) (by omega)
  refine ⟨(fun _ h => (by cases h)), [], trivial, ?_, (fun _ h => (by cases h))⟩
  rw [List.append_nil]
  exact List.forall_mem_cons.mpr ⟨⟨show (20 : Nat) < 100 from by decide, nf0⟩, (fun _ h => (by cases h))⟩
def o_Ho_draw_31 : or_T := (132, 18, [(0, (2, 0, 0, [12])), (1, (0, 0, 3, [])), (13, (2, 0, 0, [3])), (14, (2, 0, 0, [2])), (15, (2, 0, 0, [5]))], [(20, [0, 1, 14], [62, 135]), (20, [0, 1, 13], [62, 71]), (20, [14], [50, 1, 0, 0, 7, 3, 2, 0, 0, 0, 0]), (20, [0, 1, 15], [62, 199]), (20, [15], [50, 1, 0, 0, 0, 2, 0, 0, 2, 0, 0])], [], [], [(20, [15, 13, 14], [60, 3, 1, 644, 0, 1001, 2002, 16])], [], [])
theorem oo_Ho_draw_31 {kA : Nat → ClassId} : or_ok PRD kA GG o_Ho_draw_31 := by
  refine or_mk fun A ta ws vs hD hth hl => ?_
  intro t0 r0 t1 k1 t13 r13 t14 r14 t15 r15 f0 f1 f2 f3 f4
  replace f0 := shm_2132 f0
  replace f1 := shm_1819 f1
  replace f2 := shm_2130 f2
  replace f3 := shm_2167 f3
  replace f4 := shm_1616 f4
  have nf0 : fc_1 PRD (20, [15, 13, 14], [60, 3, 1, 644, 0, 1001, 2002, 16]) ws (vs) := by
    refine ⟨nf_in hl rfl, sgq_2243 ?_⟩
    · show PLB (w_fi ws (n_v vs 15) 0) (w_fi ws (n_v vs 13) 1) (w_fi ws (n_v vs 14) 2) (w_ei ws (w_ar ws (n_v vs 15) 16))
      have kz15_0 : (-1) ≤ w_fi ws (n_v vs 15) 0 ∧ w_fi ws (n_v vs 15) 0 ≤ 1 := tv_rng (th_fd hD hth r15 (g := GG_5) rfl (k := 0) (t := (0, -1, 1, [])) rfl rfl)
      have kp0 : 0 ≤ w_fi ws (n_v vs 15) 0 := f4
      have kz13_1 : 0 ≤ w_fi ws (n_v vs 13) 1 ∧ w_fi ws (n_v vs 13) 1 ≤ 48 := tv_rng (th_fd hD hth r13 (g := GG_3) rfl (k := 1) (t := (0, 0, 48, [])) rfl rfl)
      obtain ⟨dz, rz, hz, tz, mz⟩ := tv_ref (fd_at hD hth r15 (g := GG_5) rfl (k := 16) rfl (by decide)).1 rfl
      obtain rfl := List.mem_singleton.mp mz
      have kfo : ∀ d : Int, 0 ≤ d → d < 144 → -1 ≤ w_ei ws (w_ar ws (n_v vs 15) 16) d := fun d d0 d1 => by rw [hg_ar hz]; have z := th_el hD hth tz (kd := 0) (n := 144) (m := 144) (lo := (-1)) (hi := 143) (rs := []) (L := []) rfl (by decide) (j := d.toNat) (by omega); show -1 ≤ w_el ws dz d.toNat; omega
      exact hn_plb (wq_hn f0 (by decide) (wl_0 (wq_wl (k := 71) f1) (by decide)) (wl_0 (wq_wl (k := 199) f3) (by decide))) (wq_hf f0 (by decide) (wl_0 (wq_wl (k := 71) f1) (by decide)) (wl_0 (wq_wl (k := 135) f0) (by decide))) (show w_fi ws (n_v vs 14) 0 ≠ 0 from f2) ⟨kp0, by omega⟩ (by omega) kfo
  refine ⟨(fun _ h => (by cases h)), [], trivial, ?_, (fun _ h => (by cases h))⟩
  rw [List.append_nil]
  exact List.forall_mem_cons.mpr ⟨⟨show (20 : Nat) < 100 from by decide, nf0⟩, (fun _ h => (by cases h))⟩
def o_Ho_draw_32 : or_T := (132, 18, [(0, (2, 0, 0, [12])), (1, (0, 0, 3, [])), (13, (2, 0, 0, [3])), (14, (2, 0, 0, [2]))], [(20, [0, 1, 14], [62, 135]), (20, [0, 1, 13], [62, 71]), (20, [14], [50, 1, 0, 0, 7, 3, 2, 0, 0, 0, 0])], [], [], [(20, [13, 14], [60, 3, 3, 673, 0, 1, 1002, 14, 7, 8])], [], [])
theorem oo_Ho_draw_32 {kA : Nat → ClassId} : or_ok PRD kA GG o_Ho_draw_32 := by
  refine or_mk fun A ta ws vs hD hth hl => ?_
  intro t0 r0 t1 k1 t13 r13 t14 r14 f0 f1 f2
  replace f0 := shm_2132 f0
  replace f1 := shm_1819 f1
  replace f2 := shm_2130 f2
  have nf0 : fc_1 PRD (20, [13, 14], [60, 3, 3, 673, 0, 1, 1002, 14, 7, 8]) ws (vs) := by
    refine ⟨nf_in hl rfl, sgq_2131 ?_⟩
    · show BKS (w_fi ws (n_v vs 13) 0) (w_fi ws (n_v vs 13) 1) (w_fi ws (n_v vs 14) 2) (w_ei ws (w_ar ws (n_v vs 13) 14)) (w_ei ws (w_ar ws (n_v vs 13) 7)) (w_ei ws (w_ar ws (n_v vs 13) 8))
      exact (hf_all (wq_hf f0 (by decide) (wl_0 (wq_wl (k := 71) f1) (by decide)) (wl_0 (wq_wl (k := 135) f0) (by decide))) (show w_fi ws (n_v vs 14) 0 ≠ 0 from f2)).2.2.2
  refine ⟨(fun _ h => (by cases h)), [], trivial, ?_, (fun _ h => (by cases h))⟩
  rw [List.append_nil]
  exact List.forall_mem_cons.mpr ⟨⟨show (20 : Nat) < 100 from by decide, nf0⟩, (fun _ h => (by cases h))⟩
def o_Ho_draw_33 : or_T := (132, 18, [(0, (2, 0, 0, [12])), (1, (0, 0, 3, [])), (13, (2, 0, 0, [3])), (14, (2, 0, 0, [2]))], [(20, [0, 1, 14], [62, 135]), (20, [0, 1, 13], [62, 71]), (20, [14], [50, 1, 0, 0, 7, 3, 2, 0, 0, 0, 0])], [], [], [(20, [13, 14], [60, 1, 2, 671, 0, 14, 1004])], [], [])
theorem oo_Ho_draw_33 {kA : Nat → ClassId} : or_ok PRD kA GG o_Ho_draw_33 := by
  refine or_mk fun A ta ws vs hD hth hl => ?_
  intro t0 r0 t1 k1 t13 r13 t14 r14 f0 f1 f2
  replace f0 := shm_2132 f0
  replace f1 := shm_1819 f1
  replace f2 := shm_2130 f2
  have nf0 : fc_1 PRD (20, [13, 14], [60, 1, 2, 671, 0, 14, 1004]) ws (vs) := by
    refine ⟨nf_in hl rfl, sgq_419 ?_⟩
    · show PNC (w_fi ws (n_v vs 13) 0) (w_ei ws (w_ar ws (n_v vs 13) 14)) (w_ei ws (w_ar ws (n_v vs 14) 4))
      exact (hf_all (wq_hf f0 (by decide) (wl_0 (wq_wl (k := 71) f1) (by decide)) (wl_0 (wq_wl (k := 135) f0) (by decide))) (show w_fi ws (n_v vs 14) 0 ≠ 0 from f2)).1
  refine ⟨(fun _ h => (by cases h)), [], trivial, ?_, (fun _ h => (by cases h))⟩
  rw [List.append_nil]
  exact List.forall_mem_cons.mpr ⟨⟨show (20 : Nat) < 100 from by decide, nf0⟩, (fun _ h => (by cases h))⟩
def o_Ho_draw_34 : or_T := (132, 18, [(0, (2, 0, 0, [12])), (1, (0, 0, 3, [])), (13, (2, 0, 0, [3])), (14, (2, 0, 0, [2]))], [(20, [0, 1, 14], [62, 135]), (20, [0, 1, 13], [62, 71]), (20, [14], [50, 1, 0, 0, 7, 3, 2, 0, 0, 0, 0])], [], [], [(20, [13, 14], [60, 2, 1, 672, 0, 1001, 1004])], [], [])
theorem oo_Ho_draw_34 {kA : Nat → ClassId} : or_ok PRD kA GG o_Ho_draw_34 := by
  refine or_mk fun A ta ws vs hD hth hl => ?_
  intro t0 r0 t1 k1 t13 r13 t14 r14 f0 f1 f2
  replace f0 := shm_2132 f0
  replace f1 := shm_1819 f1
  replace f2 := shm_2130 f2
  have nf0 : fc_1 PRD (20, [13, 14], [60, 2, 1, 672, 0, 1001, 1004]) ws (vs) := by
    refine ⟨nf_in hl rfl, sgq_1179 ?_⟩
    · show FPA (w_fi ws (n_v vs 13) 0) (w_fi ws (n_v vs 14) 1) (w_ei ws (w_ar ws (n_v vs 14) 4))
      exact (hf_all (wq_hf f0 (by decide) (wl_0 (wq_wl (k := 71) f1) (by decide)) (wl_0 (wq_wl (k := 135) f0) (by decide))) (show w_fi ws (n_v vs 14) 0 ≠ 0 from f2)).2.1
  refine ⟨(fun _ h => (by cases h)), [], trivial, ?_, (fun _ h => (by cases h))⟩
  rw [List.append_nil]
  exact List.forall_mem_cons.mpr ⟨⟨show (20 : Nat) < 100 from by decide, nf0⟩, (fun _ h => (by cases h))⟩
def o_Ho_draw_35 : or_T := (132, 18, [(0, (2, 0, 0, [12])), (1, (0, 0, 3, [])), (13, (2, 0, 0, [3])), (14, (2, 0, 0, [2]))], [(20, [0, 1, 14], [62, 135]), (20, [0, 1, 13], [62, 71])], [], [], [(20, [13], [60, 2, 3, 670, 0, 1, 14, 7, 8])], [], [])
theorem oo_Ho_draw_35 {kA : Nat → ClassId} : or_ok PRD kA GG o_Ho_draw_35 := by
  refine or_mk fun A ta ws vs hD hth hl => ?_
  intro t0 r0 t1 k1 t13 r13 t14 r14 f0 f1
  replace f0 := shm_2132 f0
  replace f1 := shm_1819 f1
  have nf0 : fc_1 PRD (20, [13], [60, 2, 3, 670, 0, 1, 14, 7, 8]) ws (vs) := by
    refine ⟨nf_in hl rfl, sgq_825 ?_⟩
    · show GNB (w_fi ws (n_v vs 13) 0) (w_fi ws (n_v vs 13) 1) (w_ei ws (w_ar ws (n_v vs 13) 14)) (w_ei ws (w_ar ws (n_v vs 13) 7)) (w_ei ws (w_ar ws (n_v vs 13) 8))
      exact hg_gnb (wq_hg f0 (by decide) (wl_0 (wq_wl (k := 71) f1) (by decide)))
  refine ⟨(fun _ h => (by cases h)), [], trivial, ?_, (fun _ h => (by cases h))⟩
  rw [List.append_nil]
  exact List.forall_mem_cons.mpr ⟨⟨show (20 : Nat) < 100 from by decide, nf0⟩, (fun _ h => (by cases h))⟩
def o_Ho_draw_36 : or_T := (132, 18, [(0, (2, 0, 0, [12])), (1, (0, 0, 3, [])), (13, (2, 0, 0, [3])), (14, (2, 0, 0, [2]))], [(20, [0, 1, 14], [62, 135]), (20, [0, 1, 13], [62, 71])], [], [], [(20, [13], [60, 2, 2, 596, 0, 1, 7, 8])], [], [])
theorem oo_Ho_draw_36 {kA : Nat → ClassId} : or_ok PRD kA GG o_Ho_draw_36 := by
  refine or_mk fun A ta ws vs hD hth hl => ?_
  intro t0 r0 t1 k1 t13 r13 t14 r14 f0 f1
  replace f0 := shm_2132 f0
  replace f1 := shm_1819 f1
  have nf0 : fc_1 PRD (20, [13], [60, 2, 2, 596, 0, 1, 7, 8]) ws (vs) := by
    refine ⟨nf_in hl rfl, sgq_386 ?_⟩
    · show GKE (w_fi ws (n_v vs 13) 0) (w_fi ws (n_v vs 13) 1) (w_ei ws (w_ar ws (n_v vs 13) 7)) (w_ei ws (w_ar ws (n_v vs 13) 8))
      exact hg_gke (wq_hg f0 (by decide) (wl_0 (wq_wl (k := 71) f1) (by decide)))
  refine ⟨(fun _ h => (by cases h)), [], trivial, ?_, (fun _ h => (by cases h))⟩
  rw [List.append_nil]
  exact List.forall_mem_cons.mpr ⟨⟨show (20 : Nat) < 100 from by decide, nf0⟩, (fun _ h => (by cases h))⟩
set_option maxHeartbeats 4000000 in
theorem vc_Ho_draw_37_0 (nodes_0o8 : Int) (f10 : 1 ≤ nodes_0o8) (kz_8_0 : 0 ≤ nodes_0o8 ∧ nodes_0o8 ≤ 24) : 1 ≤ nodes_0o8 := by
  first | omega
set_option maxHeartbeats 4000000 in
theorem vc_Ho_draw_37_2 (x4 : Int) (gy : Int) (k4 : 0 ≤ x4 ∧ x4 ≤ 3066) (ey2 : gy = x4) : 1 * gy + ((-1) * x4 + 0) ≤ 0 := by
  first | omega
set_option maxHeartbeats 4000000 in
theorem vc_Ho_draw_37_3 (x4 : Int) (gy : Int) (k4 : 0 ≤ x4 ∧ x4 ≤ 3066) (ey2 : gy = x4) : (-1) * gy + (1 * x4 + 0) ≤ 0 := by
  first | omega
set_option maxHeartbeats 4000000 in
theorem vc_Ho_draw_37_4 (nodes_0o8 : Int) (near_0o8 : Int → Int) (f7 : SYG (nodes_0o8) (near_0o8)) (kz_8_0 : 0 ≤ nodes_0o8 ∧ nodes_0o8 ≤ 24) : SYG (nodes_0o8) (near_0o8) := by
  first | assumption
set_option maxHeartbeats 4000000 in
theorem vc_Ho_draw_37_5 (edges_0o8 : Int) (blocks_0o14 : Int) (faceOf_0o15 : Int → Int) (planar_0o15 : Int) (f6 : PLB (planar_0o15) (edges_0o8) (blocks_0o14) (faceOf_0o15)) (kz_8_1 : 0 ≤ edges_0o8 ∧ edges_0o8 ≤ 48) (kz_14_2 : 0 ≤ blocks_0o14 ∧ blocks_0o14 ≤ 48) (kz_15_0 : (-1) ≤ planar_0o15 ∧ planar_0o15 ≤ 1) : PLB (planar_0o15) (edges_0o8) (blocks_0o14) (faceOf_0o15) := by
  first | assumption
set_option maxHeartbeats 4000000 in
theorem vc_Ho_draw_37_6 (nodes_0o8 : Int) (tail_0o8 : Int → Int) (head_0o8 : Int → Int) (edges_0o8 : Int) (near_0o8 : Int → Int) (blocks_0o14 : Int) (f5 : BKS (nodes_0o8) (edges_0o8) (blocks_0o14) (near_0o8) (tail_0o8) (head_0o8)) (kz_8_0 : 0 ≤ nodes_0o8 ∧ nodes_0o8 ≤ 24) (kz_8_1 : 0 ≤ edges_0o8 ∧ edges_0o8 ≤ 48) (kz_14_2 : 0 ≤ blocks_0o14 ∧ blocks_0o14 ≤ 48) : BKS (nodes_0o8) (edges_0o8) (blocks_0o14) (near_0o8) (tail_0o8) (head_0o8) := by
  first | assumption
set_option maxHeartbeats 4000000 in
theorem vc_Ho_draw_37_7 (nodes_0o8 : Int) (near_0o8 : Int → Int) (part_0o14 : Int → Int) (f4 : PNC (nodes_0o8) (near_0o8) (part_0o14)) (kz_8_0 : 0 ≤ nodes_0o8 ∧ nodes_0o8 ≤ 24) : PNC (nodes_0o8) (near_0o8) (part_0o14) := by
  first | assumption
set_option maxHeartbeats 4000000 in
theorem vc_Ho_draw_37_8 (nodes_0o8 : Int) (part_0o14 : Int → Int) (parts_0o14 : Int) (f3 : FPA (nodes_0o8) (parts_0o14) (part_0o14)) (kz_8_0 : 0 ≤ nodes_0o8 ∧ nodes_0o8 ≤ 24) (kz_14_1 : 0 ≤ parts_0o14 ∧ parts_0o14 ≤ 24) : FPA (nodes_0o8) (parts_0o14) (part_0o14) := by
  first | assumption
set_option maxHeartbeats 4000000 in
theorem vc_Ho_draw_37_9 (nodes_0o8 : Int) (tail_0o8 : Int → Int) (head_0o8 : Int → Int) (edges_0o8 : Int) (near_0o8 : Int → Int) (f2 : GNB (nodes_0o8) (edges_0o8) (near_0o8) (tail_0o8) (head_0o8)) (kz_8_0 : 0 ≤ nodes_0o8 ∧ nodes_0o8 ≤ 24) (kz_8_1 : 0 ≤ edges_0o8 ∧ edges_0o8 ≤ 48) : GNB (nodes_0o8) (edges_0o8) (near_0o8) (tail_0o8) (head_0o8) := by
  first | assumption
set_option maxHeartbeats 4000000 in
theorem vc_Ho_draw_37_10 (nodes_0o8 : Int) (tail_0o8 : Int → Int) (head_0o8 : Int → Int) (edges_0o8 : Int) (f1 : GKE (nodes_0o8) (edges_0o8) (tail_0o8) (head_0o8)) (kz_8_0 : 0 ≤ nodes_0o8 ∧ nodes_0o8 ≤ 24) (kz_8_1 : 0 ≤ edges_0o8 ∧ edges_0o8 ≤ 48) : GKE (nodes_0o8) (edges_0o8) (tail_0o8) (head_0o8) := by
  first | assumption
def o_Ho_draw_37 : or_T := (132, 18, [(0, (2, 0, 0, [12])), (4, (0, 0, 3066, [])), (8, (2, 0, 0, [3])), (9, (0, 1, 24, [])), (13, (2, 0, 0, [3])), (14, (2, 0, 0, [2])), (15, (2, 0, 0, [5])), (17, (2, 0, 0, [0]))], [(9, [9, 8], [0]), (20, [13], [60, 2, 2, 596, 0, 1, 7, 8]), (20, [13], [60, 2, 3, 670, 0, 1, 14, 7, 8]), (20, [13, 14], [60, 2, 1, 672, 0, 1001, 1004]), (20, [13, 14], [60, 1, 2, 671, 0, 14, 1004]), (20, [13, 14], [60, 3, 3, 673, 0, 1, 1002, 14, 7, 8]), (20, [15, 13, 14], [60, 3, 1, 644, 0, 1001, 2002, 16]), (20, [13], [60, 1, 1, 637, 0, 14]), (20, [0, 4, 17], [62, 2000000]), (24, [8, 13], []), (20, [8], [50, 1, 0, 0, 0, 2, 0, 1, 2, 0, 0]), (20, [14], [50, 1, 0, 0, 7, 3, 2, 0, 0, 0, 0]), (20, [15], [50, 1, 0, 0, 0, 2, 0, 0, 2, 0, 0]), (102, [14], [712230049778071777201162559065590005831303168, 1000, 1005, 1006, 1007, 1015, 1016, 1017, 1018, 5000, 5002, 5003, 5005, 5006, 5013, 149005, 149006, 149013]), (102, [13], [281337537757184, 2000, 2001, 2002, 2003]), (101, [0, 12], [18]), (102, [11], [0, 301000, 301001, 301002, 301003, 301004, 301005, 301006, 301007, 301008, 305000, 305001, 305002, 305003, 305004, 305005, 305006, 305007, 305008, 305009, 305010, 305011, 305012, 305013, 305014, 305015, 305016]), (8, [9], [1])], [], [(2, 0, 0, [12]), (0, 0, 3066, [])], [(20, [13], [50, 1, 0, 0, 0, 2, 0, 1, 2, 0, 0]), (24, [0, 18], []), (23, [19, 4], [0, 1, -1]), (23, [19, 4], [0, -1, 1]), (20, [13], [60, 1, 1, 637, 0, 14]), (20, [15, 13, 14], [60, 3, 1, 644, 0, 1001, 2002, 16]), (20, [13, 14], [60, 3, 3, 673, 0, 1, 1002, 14, 7, 8]), (20, [13, 14], [60, 1, 2, 671, 0, 14, 1004]), (20, [13, 14], [60, 2, 1, 672, 0, 1001, 1004]), (20, [13], [60, 2, 3, 670, 0, 1, 14, 7, 8]), (20, [13], [60, 2, 2, 596, 0, 1, 7, 8]), (20, [18, 19, 17], [62, 2000000])], [], [])
theorem oo_Ho_draw_37 {kA : Nat → ClassId} : or_ok PRD kA GG o_Ho_draw_37 := by
  refine or_mk fun A ta ws vs hD hth hl => ?_
  intro t0 r0 t4 k4 t8 r8 t9 k9 t13 r13 t14 r14 t15 r15 t17 r17 f0 f1 f2 f3 f4 f5 f6 f7 f8 f9 f10 f11 f12 ta1 w1 le1 s1 ta2 w2 le2 s2 ta3 w3 le3 s3 ta4 w4 le4 s4 f17
  replace f0 := shm_163 f0
  replace f1 := shm_386 f1
  replace f2 := shm_825 f2
  replace f3 := shm_1179 f3
  replace f4 := shm_419 f4
  replace f5 := shm_2131 f5
  replace f6 := shm_2243 f6
  replace f7 := shm_1792 f7
  replace f8 := shm_1399 f8
  replace f9 := shm_5 f9
  replace f10 := shm_1220 f10
  replace f11 := shm_2130 f11
  replace f12 := shm_1616 f12
  have s3 : (∀ b j, w_el w2 b j = w_el w3 b j) ∧ ∀ b j, w_fd w2 b j = if b = v_ad (n_v vs 0) ∧ j = 18 then n_v vs 12 else w_fd w3 b j := s3.2
  replace f17 := shm_142 f17
  have q13 : n_v vs 13 = n_v vs 8 := f9.symm
  simp only [q13] at f1 f2 f3 f4 f5 f6 f7
  have cr_8_7 := fdq_46 hD hth r8
  have cr_8_8 := fdq_47 hD hth r8
  have cr_8_14 := fdq_75 hD hth r8
  have cr_14_4 := fdq_87 hD hth r14
  have cr_15_16 := fdq_91 hD hth r15
  have g0 : v_iv (n_v vs 9) = w_fi ws (n_v vs 8) 0 := congrArg v_iv f0
  have hK_8_7 := elq_11 hD hth cr_8_7
  have hK_8_8 := elq_12 hD hth cr_8_8
  have hK_8_14 := elq_25 hD hth cr_8_14
  have hK_14_4 := elq_29 hD hth cr_14_4
  have hK_15_16 := elq_47 hD hth cr_15_16
  have kz_8_0 := fdq_21 hD hth r8
  have kz_8_1 := fdq_30 hD hth r8
  have kz_14_0 := fdq_294 hD hth r14
  have kz_14_1 := fdq_278 hD hth r14
  have kz_14_2 := fdq_295 hD hth r14
  have kz_15_0 := fdq_78 hD hth r15
  obtain ⟨y, ey, hy⟩ := iv_ex (ta := ta) (lo := 0) (hi := 3066) (z := v_iv (n_v vs 4)) (by omega) (by omega) (by omega) (by omega)
  have ey2 : v_iv (Value.int y) = v_iv (n_v vs 4) := ey
  have ey3 : 0 ≤ v_iv (Value.int y) ∧ v_iv (Value.int y) ≤ 3066 := tv_rng hy
  have e_0 : n_v (vs ++ [n_v vs 0, Value.int y]) 0 = n_v vs 0 := n_v_old (by rw [hl]; decide)
  have e_4 : n_v (vs ++ [n_v vs 0, Value.int y]) 4 = n_v vs 4 := n_v_old (by rw [hl]; decide)
  have e_13 : n_v (vs ++ [n_v vs 0, Value.int y]) 13 = n_v vs 13 := n_v_old (by rw [hl]; decide)
  have e_14 : n_v (vs ++ [n_v vs 0, Value.int y]) 14 = n_v vs 14 := n_v_old (by rw [hl]; decide)
  have e_15 : n_v (vs ++ [n_v vs 0, Value.int y]) 15 = n_v vs 15 := n_v_old (by rw [hl]; decide)
  have e_17 : n_v (vs ++ [n_v vs 0, Value.int y]) 17 = n_v vs 17 := n_v_old (by rw [hl]; decide)
  have e_18 : n_v (vs ++ [n_v vs 0, Value.int y]) 18 = n_v vs 0 := n_v_new0 hl
  have e_19 : n_v (vs ++ [n_v vs 0, Value.int y]) 19 = Value.int y := n_v_new1 hl
  have nf0 : fc_1 PRD (20, [13], [50, 1, 0, 0, 0, 2, 0, 1, 2, 0, 0]) ws (vs ++ [n_v vs 0, Value.int y]) := by
    refine ⟨nf_inA hl rfl, sgq_1220 ?_⟩
    · show 1 ≤ w_fi ws (n_v (vs ++ [n_v vs 0, Value.int y]) 13) 0
      simp only [e_13, q13]
      exact vc_Ho_draw_37_0 (w_fi ws (n_v vs 8) 0) f10 kz_8_0
  have nf1 : fc_1 PRD (24, [0, 18], []) ws (vs ++ [n_v vs 0, Value.int y]) := by
    refine ⟨nf_inA hl rfl, sgq_5 ?_⟩
    · show n_v (vs ++ [n_v vs 0, Value.int y]) 0 = n_v (vs ++ [n_v vs 0, Value.int y]) 18
      first | rfl | simp only [e_0, e_18, q13]
  have nf2 : fc_1 PRD (23, [19, 4], [0, 1, -1]) ws (vs ++ [n_v vs 0, Value.int y]) := by
    refine ⟨nf_inA hl rfl, sgq_7 ?_⟩
    · show 1 * v_iv (n_v (vs ++ [n_v vs 0, Value.int y]) 19) + ((-1) * v_iv (n_v (vs ++ [n_v vs 0, Value.int y]) 4) + 0) ≤ 0
      simp only [e_4, e_19]
      exact vc_Ho_draw_37_2 (v_iv (n_v vs 4)) (v_iv (Value.int y)) k4 ey2
  have nf3 : fc_1 PRD (23, [19, 4], [0, -1, 1]) ws (vs ++ [n_v vs 0, Value.int y]) := by
    refine ⟨nf_inA hl rfl, sgq_22 ?_⟩
    · show (-1) * v_iv (n_v (vs ++ [n_v vs 0, Value.int y]) 19) + (1 * v_iv (n_v (vs ++ [n_v vs 0, Value.int y]) 4) + 0) ≤ 0
      simp only [e_4, e_19]
      exact vc_Ho_draw_37_3 (v_iv (n_v vs 4)) (v_iv (Value.int y)) k4 ey2
  have nf4 : fc_1 PRD (20, [13], [60, 1, 1, 637, 0, 14]) ws (vs ++ [n_v vs 0, Value.int y]) := by
    refine ⟨nf_inA hl rfl, sgq_1792 ?_⟩
    · show SYG (w_fi ws (n_v (vs ++ [n_v vs 0, Value.int y]) 13) 0) (w_ei ws (w_ar ws (n_v (vs ++ [n_v vs 0, Value.int y]) 13) 14))
      simp only [e_13, q13]
      exact vc_Ho_draw_37_4 (w_fi ws (n_v vs 8) 0) (w_ei ws (w_ar ws (n_v vs 8) 14)) f7 kz_8_0
  have nf5 : fc_1 PRD (20, [15, 13, 14], [60, 3, 1, 644, 0, 1001, 2002, 16]) ws (vs ++ [n_v vs 0, Value.int y]) := by
    refine ⟨nf_inA hl rfl, sgq_2243 ?_⟩
    · show PLB (w_fi ws (n_v (vs ++ [n_v vs 0, Value.int y]) 15) 0) (w_fi ws (n_v (vs ++ [n_v vs 0, Value.int y]) 13) 1) (w_fi ws (n_v (vs ++ [n_v vs 0, Value.int y]) 14) 2) (w_ei ws (w_ar ws (n_v (vs ++ [n_v vs 0, Value.int y]) 15) 16))
      simp only [e_13, e_14, e_15, q13]
      exact vc_Ho_draw_37_5 (w_fi ws (n_v vs 8) 1) (w_fi ws (n_v vs 14) 2) (w_ei ws (w_ar ws (n_v vs 15) 16)) (w_fi ws (n_v vs 15) 0) f6 kz_8_1 kz_14_2 kz_15_0
  have nf6 : fc_1 PRD (20, [13, 14], [60, 3, 3, 673, 0, 1, 1002, 14, 7, 8]) ws (vs ++ [n_v vs 0, Value.int y]) := by
    refine ⟨nf_inA hl rfl, sgq_2131 ?_⟩
    · show BKS (w_fi ws (n_v (vs ++ [n_v vs 0, Value.int y]) 13) 0) (w_fi ws (n_v (vs ++ [n_v vs 0, Value.int y]) 13) 1) (w_fi ws (n_v (vs ++ [n_v vs 0, Value.int y]) 14) 2) (w_ei ws (w_ar ws (n_v (vs ++ [n_v vs 0, Value.int y]) 13) 14)) (w_ei ws (w_ar ws (n_v (vs ++ [n_v vs 0, Value.int y]) 13) 7)) (w_ei ws (w_ar ws (n_v (vs ++ [n_v vs 0, Value.int y]) 13) 8))
      simp only [e_13, e_14, q13]
      exact vc_Ho_draw_37_6 (w_fi ws (n_v vs 8) 0) (w_ei ws (w_ar ws (n_v vs 8) 7)) (w_ei ws (w_ar ws (n_v vs 8) 8)) (w_fi ws (n_v vs 8) 1) (w_ei ws (w_ar ws (n_v vs 8) 14)) (w_fi ws (n_v vs 14) 2) f5 kz_8_0 kz_8_1 kz_14_2
  have nf7 : fc_1 PRD (20, [13, 14], [60, 1, 2, 671, 0, 14, 1004]) ws (vs ++ [n_v vs 0, Value.int y]) := by
    refine ⟨nf_inA hl rfl, sgq_419 ?_⟩
    · show PNC (w_fi ws (n_v (vs ++ [n_v vs 0, Value.int y]) 13) 0) (w_ei ws (w_ar ws (n_v (vs ++ [n_v vs 0, Value.int y]) 13) 14)) (w_ei ws (w_ar ws (n_v (vs ++ [n_v vs 0, Value.int y]) 14) 4))
      simp only [e_13, e_14, q13]
      exact vc_Ho_draw_37_7 (w_fi ws (n_v vs 8) 0) (w_ei ws (w_ar ws (n_v vs 8) 14)) (w_ei ws (w_ar ws (n_v vs 14) 4)) f4 kz_8_0
  have nf8 : fc_1 PRD (20, [13, 14], [60, 2, 1, 672, 0, 1001, 1004]) ws (vs ++ [n_v vs 0, Value.int y]) := by
    refine ⟨nf_inA hl rfl, sgq_1179 ?_⟩
    · show FPA (w_fi ws (n_v (vs ++ [n_v vs 0, Value.int y]) 13) 0) (w_fi ws (n_v (vs ++ [n_v vs 0, Value.int y]) 14) 1) (w_ei ws (w_ar ws (n_v (vs ++ [n_v vs 0, Value.int y]) 14) 4))
      simp only [e_13, e_14, q13]
      exact vc_Ho_draw_37_8 (w_fi ws (n_v vs 8) 0) (w_ei ws (w_ar ws (n_v vs 14) 4)) (w_fi ws (n_v vs 14) 1) f3 kz_8_0 kz_14_1
  have nf9 : fc_1 PRD (20, [13], [60, 2, 3, 670, 0, 1, 14, 7, 8]) ws (vs ++ [n_v vs 0, Value.int y]) := by
    refine ⟨nf_inA hl rfl, sgq_825 ?_⟩
    · show GNB (w_fi ws (n_v (vs ++ [n_v vs 0, Value.int y]) 13) 0) (w_fi ws (n_v (vs ++ [n_v vs 0, Value.int y]) 13) 1) (w_ei ws (w_ar ws (n_v (vs ++ [n_v vs 0, Value.int y]) 13) 14)) (w_ei ws (w_ar ws (n_v (vs ++ [n_v vs 0, Value.int y]) 13) 7)) (w_ei ws (w_ar ws (n_v (vs ++ [n_v vs 0, Value.int y]) 13) 8))
      simp only [e_13, q13]
      exact vc_Ho_draw_37_9 (w_fi ws (n_v vs 8) 0) (w_ei ws (w_ar ws (n_v vs 8) 7)) (w_ei ws (w_ar ws (n_v vs 8) 8)) (w_fi ws (n_v vs 8) 1) (w_ei ws (w_ar ws (n_v vs 8) 14)) f2 kz_8_0 kz_8_1
  have nf10 : fc_1 PRD (20, [13], [60, 2, 2, 596, 0, 1, 7, 8]) ws (vs ++ [n_v vs 0, Value.int y]) := by
    refine ⟨nf_inA hl rfl, sgq_386 ?_⟩
    · show GKE (w_fi ws (n_v (vs ++ [n_v vs 0, Value.int y]) 13) 0) (w_fi ws (n_v (vs ++ [n_v vs 0, Value.int y]) 13) 1) (w_ei ws (w_ar ws (n_v (vs ++ [n_v vs 0, Value.int y]) 13) 7)) (w_ei ws (w_ar ws (n_v (vs ++ [n_v vs 0, Value.int y]) 13) 8))
      simp only [e_13, q13]
      exact vc_Ho_draw_37_10 (w_fi ws (n_v vs 8) 0) (w_ei ws (w_ar ws (n_v vs 8) 7)) (w_ei ws (w_ar ws (n_v vs 8) 8)) (w_fi ws (n_v vs 8) 1) f1 kz_8_0 kz_8_1
  have nf11 : fc_1 PRD (20, [18, 19, 17], [62, 2000000]) ws (vs ++ [n_v vs 0, Value.int y]) := by
    refine ⟨nf_inA hl rfl, sgq_1399 ?_⟩
    · show HY ws (n_v (vs ++ [n_v vs 0, Value.int y]) 18) (v_iv (n_v (vs ++ [n_v vs 0, Value.int y]) 19) + (((2000000 : Nat) : Int) - 2000000)) ∧ HYD ws (n_v (vs ++ [n_v vs 0, Value.int y]) 18) (n_v (vs ++ [n_v vs 0, Value.int y]) 17)
      simp only [e_17, e_18, e_19]
      exact ⟨hy_le f8.1 (by omega), f8.2⟩
  exact ⟨(fun _ h => (by cases h)), [n_v vs 0, Value.int y], ag_two t0 hy, List.forall_mem_cons.mpr ⟨⟨show (20 : Nat) < 100 from by decide, nf0⟩, List.forall_mem_cons.mpr ⟨⟨show (24 : Nat) < 100 from by decide, nf1⟩, List.forall_mem_cons.mpr ⟨⟨show (23 : Nat) < 100 from by decide, nf2⟩, List.forall_mem_cons.mpr ⟨⟨show (23 : Nat) < 100 from by decide, nf3⟩, List.forall_mem_cons.mpr ⟨⟨show (20 : Nat) < 100 from by decide, nf4⟩, List.forall_mem_cons.mpr ⟨⟨show (20 : Nat) < 100 from by decide, nf5⟩, List.forall_mem_cons.mpr ⟨⟨show (20 : Nat) < 100 from by decide, nf6⟩, List.forall_mem_cons.mpr ⟨⟨show (20 : Nat) < 100 from by decide, nf7⟩, List.forall_mem_cons.mpr ⟨⟨show (20 : Nat) < 100 from by decide, nf8⟩, List.forall_mem_cons.mpr ⟨⟨show (20 : Nat) < 100 from by decide, nf9⟩, List.forall_mem_cons.mpr ⟨⟨show (20 : Nat) < 100 from by decide, nf10⟩, List.forall_mem_cons.mpr ⟨⟨show (20 : Nat) < 100 from by decide, nf11⟩, (fun _ h => (by cases h))⟩⟩⟩⟩⟩⟩⟩⟩⟩⟩⟩⟩, (fun _ h => (by cases h))⟩
def o_Ho_draw_38 : or_T := (203, 21, [(0, (2, 0, 0, [12])), (4, (0, 0, 3066, [])), (8, (2, 0, 0, [3])), (9, (0, 1, 24, [])), (13, (2, 0, 0, [3])), (14, (2, 0, 0, [2])), (15, (2, 0, 0, [5])), (18, (2, 0, 0, [12])), (19, (0, 0, 3066, []))], [(9, [9, 8], [0]), (20, [13], [50, 1, 0, 0, 0, 2, 0, 1, 2, 0, 0]), (24, [0, 18], []), (23, [19, 4], [0, 1, -1]), (23, [19, 4], [0, -1, 1]), (20, [13], [60, 1, 1, 637, 0, 14]), (20, [15, 13, 14], [60, 3, 1, 644, 0, 1001, 2002, 16]), (20, [13, 14], [60, 3, 3, 673, 0, 1, 1002, 14, 7, 8]), (20, [13, 14], [60, 1, 2, 671, 0, 14, 1004]), (20, [13, 14], [60, 2, 1, 672, 0, 1001, 1004]), (20, [13], [60, 2, 3, 670, 0, 1, 14, 7, 8]), (20, [13], [60, 2, 2, 596, 0, 1, 7, 8]), (20, [13], [60, 2, 2, 596, 0, 1, 7, 8]), (20, [13], [60, 2, 3, 670, 0, 1, 14, 7, 8]), (20, [13, 14], [60, 2, 1, 672, 0, 1001, 1004]), (20, [13, 14], [60, 1, 2, 671, 0, 14, 1004]), (20, [13, 14], [60, 3, 3, 673, 0, 1, 1002, 14, 7, 8]), (20, [15, 13, 14], [60, 3, 1, 644, 0, 1001, 2002, 16]), (20, [13], [60, 1, 1, 637, 0, 14]), (24, [8, 13], []), (20, [8], [50, 1, 0, 0, 0, 2, 0, 1, 2, 0, 0]), (20, [14], [50, 1, 0, 0, 7, 3, 2, 0, 0, 0, 0]), (20, [15], [50, 1, 0, 0, 0, 2, 0, 0, 2, 0, 0]), (20, [18, 19], [62, 2000006]), (102, [19], [31766521725675121767675041100378181161416636632180585452153603028966503407635894593110016, 7003, 294005, 294006, 294013]), (23, [19, 4], [0, 1, -1]), (23, [19, 4], [0, -1, 1]), (102, [14], [712230049778071777201162559065590005831303168, 1000, 1005, 1006, 1007, 1015, 1016, 1017, 1018, 5000, 5002, 5003, 5005, 5006, 5013, 149005, 149006, 149013]), (102, [13], [281337537757184, 2000, 2001, 2002, 2003]), (101, [0, 12], [18]), (102, [11], [0, 301000, 301001, 301002, 301003, 301004, 301005, 301006, 301007, 301008, 305000, 305001, 305002, 305003, 305004, 305005, 305006, 305007, 305008, 305009, 305010, 305011, 305012, 305013, 305014, 305015, 305016]), (8, [9], [1])], [], [], [(20, [0, 4], [62, 2000006])], [], [])
theorem oo_Ho_draw_38 {kA : Nat → ClassId} : or_ok PRD kA GG o_Ho_draw_38 := by
  refine or_mk fun A ta ws vs hD hth hl => ?_
  intro t0 r0 t4 k4 t8 r8 t9 k9 t13 r13 t14 r14 t15 r15 t18 r18 t19 k19 f0 f1 f2 f3 f4 f5 f6 f7 f8 f9 f10 f11 f12 f13 f14 f15 f16 f17 f18 f19 f20 f21 f22 f23 ta1 w1 le1 s1 f25 f26 ta2 w2 le2 s2 ta3 w3 le3 s3 ta4 w4 le4 s4 ta5 w5 le5 s5 f31
  replace f0 := shm_163 f0
  replace f1 := shm_1220 f1
  replace f2 := shm_5 f2
  replace f3 := shm_7 f3
  replace f4 := shm_22 f4
  replace f5 := shm_1792 f5
  replace f6 := shm_2243 f6
  replace f7 := shm_2131 f7
  replace f8 := shm_419 f8
  replace f9 := shm_1179 f9
  replace f10 := shm_825 f10
  replace f11 := shm_386 f11
  replace f12 := shm_386 f12
  replace f13 := shm_825 f13
  replace f14 := shm_1179 f14
  replace f15 := shm_419 f15
  replace f16 := shm_2131 f16
  replace f17 := shm_2243 f17
  replace f18 := shm_1792 f18
  replace f19 := shm_5 f19
  replace f20 := shm_1220 f20
  replace f21 := shm_2130 f21
  replace f22 := shm_1616 f22
  replace f23 := shm_270 f23
  replace f25 := shm_7 f25
  replace f26 := shm_22 f26
  have s4 : (∀ b j, w_el w3 b j = w_el w4 b j) ∧ ∀ b j, w_fd w3 b j = if b = v_ad (n_v vs 0) ∧ j = 18 then n_v vs 12 else w_fd w4 b j := s4.2
  replace f31 := shm_142 f31
  have q18 : n_v vs 18 = n_v vs 0 := f2.symm
  have q13 : n_v vs 13 = n_v vs 8 := f19.symm
  simp only [q13, q18] at f1 f5 f6 f7 f8 f9 f10 f11 f12 f13 f14 f15 f16 f17 f18 f23
  have cr_8_7 := fdq_46 hD hth r8
  have cr_8_8 := fdq_47 hD hth r8
  have cr_8_14 := fdq_75 hD hth r8
  have cr_14_4 := fdq_87 hD hth r14
  have cr_15_16 := fdq_91 hD hth r15
  have g0 : v_iv (n_v vs 9) = w_fi ws (n_v vs 8) 0 := congrArg v_iv f0
  have hK_8_7 := elq_11 hD hth cr_8_7
  have hK_8_8 := elq_12 hD hth cr_8_8
  have hK_8_14 := elq_25 hD hth cr_8_14
  have hK_14_4 := elq_29 hD hth cr_14_4
  have hK_15_16 := elq_47 hD hth cr_15_16
  have kz_8_0 := fdq_21 hD hth r8
  have kz_8_1 := fdq_30 hD hth r8
  have kz_14_0 := fdq_294 hD hth r14
  have kz_14_1 := fdq_278 hD hth r14
  have kz_14_2 := fdq_295 hD hth r14
  have kz_15_0 := fdq_78 hD hth r15
  have nf0 : fc_1 PRD (20, [0, 4], [62, 2000006]) ws (vs) := by
    refine ⟨nf_in hl rfl, sgq_270 ?_⟩
    · show HY ws (n_v vs 0) (v_iv (n_v vs 4) + (((2000006 : Nat) : Int) - 2000000))
      exact hy_le f23 (by omega)
  refine ⟨(fun _ h => (by cases h)), [], trivial, ?_, (fun _ h => (by cases h))⟩
  rw [List.append_nil]
  exact List.forall_mem_cons.mpr ⟨⟨show (20 : Nat) < 100 from by decide, nf0⟩, (fun _ h => (by cases h))⟩
def o_Ho_draw_39 : or_T := (203, 22, [(0, (2, 0, 0, [12])), (4, (0, 0, 3066, [])), (8, (2, 0, 0, [3])), (9, (0, 1, 24, [])), (13, (2, 0, 0, [3])), (14, (2, 0, 0, [2])), (15, (2, 0, 0, [5])), (18, (2, 0, 0, [12])), (19, (0, 0, 3066, [])), (21, (2, 0, 0, [0]))], [(9, [9, 8], [0]), (20, [13], [50, 1, 0, 0, 0, 2, 0, 1, 2, 0, 0]), (24, [0, 18], []), (23, [19, 4], [0, 1, -1]), (23, [19, 4], [0, -1, 1]), (20, [13], [60, 1, 1, 637, 0, 14]), (20, [15, 13, 14], [60, 3, 1, 644, 0, 1001, 2002, 16]), (20, [13, 14], [60, 3, 3, 673, 0, 1, 1002, 14, 7, 8]), (20, [13, 14], [60, 1, 2, 671, 0, 14, 1004]), (20, [13, 14], [60, 2, 1, 672, 0, 1001, 1004]), (20, [13], [60, 2, 3, 670, 0, 1, 14, 7, 8]), (20, [13], [60, 2, 2, 596, 0, 1, 7, 8]), (20, [13], [60, 2, 2, 596, 0, 1, 7, 8]), (20, [13], [60, 2, 3, 670, 0, 1, 14, 7, 8]), (20, [13, 14], [60, 2, 1, 672, 0, 1001, 1004]), (20, [13, 14], [60, 1, 2, 671, 0, 14, 1004]), (20, [13, 14], [60, 3, 3, 673, 0, 1, 1002, 14, 7, 8]), (20, [15, 13, 14], [60, 3, 1, 644, 0, 1001, 2002, 16]), (20, [13], [60, 1, 1, 637, 0, 14]), (24, [8, 13], []), (20, [8], [50, 1, 0, 0, 0, 2, 0, 1, 2, 0, 0]), (20, [14], [50, 1, 0, 0, 7, 3, 2, 0, 0, 0, 0]), (20, [15], [50, 1, 0, 0, 0, 2, 0, 0, 2, 0, 0]), (20, [18, 19], [62, 2000006]), (101, [21, 2], [1]), (20, [13], [50, 1, 0, 0, 0, 2, 0, 1, 2, 0, 0]), (23, [19, 4], [0, 1, -1]), (23, [19, 4], [0, -1, 1]), (20, [13], [60, 1, 1, 637, 0, 14]), (20, [15, 13, 14], [60, 3, 1, 644, 0, 1001, 2002, 16]), (20, [13, 14], [60, 3, 3, 673, 0, 1, 1002, 14, 7, 8]), (20, [13, 14], [60, 1, 2, 671, 0, 14, 1004]), (20, [13, 14], [60, 2, 1, 672, 0, 1001, 1004]), (20, [13], [60, 2, 3, 670, 0, 1, 14, 7, 8]), (20, [13], [60, 2, 2, 596, 0, 1, 7, 8]), (20, [13], [60, 2, 2, 596, 0, 1, 7, 8]), (20, [13], [60, 2, 3, 670, 0, 1, 14, 7, 8]), (20, [13, 14], [60, 2, 1, 672, 0, 1001, 1004]), (20, [13, 14], [60, 1, 2, 671, 0, 14, 1004]), (20, [13, 14], [60, 3, 3, 673, 0, 1, 1002, 14, 7, 8]), (20, [15, 13, 14], [60, 3, 1, 644, 0, 1001, 2002, 16]), (20, [13], [60, 1, 1, 637, 0, 14]), (20, [8], [50, 1, 0, 0, 0, 2, 0, 1, 2, 0, 0]), (20, [14], [50, 1, 0, 0, 7, 3, 2, 0, 0, 0, 0]), (20, [15], [50, 1, 0, 0, 0, 2, 0, 0, 2, 0, 0]), (102, [19], [31766521725675121767675041100378181161416636632180585452153603028966503407635894593110016, 7003, 294005, 294006, 294013]), (23, [19, 4], [0, 1, -1]), (23, [19, 4], [0, -1, 1]), (102, [14], [712230049778071777201162559065590005831303168, 1000, 1005, 1006, 1007, 1015, 1016, 1017, 1018, 5000, 5002, 5003, 5005, 5006, 5013, 149005, 149006, 149013]), (102, [13], [281337537757184, 2000, 2001, 2002, 2003]), (101, [0, 12], [18]), (102, [11], [0, 301000, 301001, 301002, 301003, 301004, 301005, 301006, 301007, 301008, 305000, 305001, 305002, 305003, 305004, 305005, 305006, 305007, 305008, 305009, 305010, 305011, 305012, 305013, 305014, 305015, 305016]), (8, [9], [1])], [], [], [(20, [0, 4], [62, 2000006])], [], [])
theorem oo_Ho_draw_39 {kA : Nat → ClassId} : or_ok PRD kA GG o_Ho_draw_39 := by
  refine or_mk fun A ta ws vs hD hth hl => ?_
  intro t0 r0 t4 k4 t8 r8 t9 k9 t13 r13 t14 r14 t15 r15 t18 r18 t19 k19 t21 r21 f0 f1 f2 f3 f4 f5 f6 f7 f8 f9 f10 f11 f12 f13 f14 f15 f16 f17 f18 f19 f20 f21 f22 f23 ta1 w1 le1 s1 f25 f26 f27 f28 f29 f30 f31 f32 f33 f34 f35 f36 f37 f38 f39 f40 f41 f42 f43 f44 ta2 w2 le2 s2 f46 f47 ta3 w3 le3 s3 ta4 w4 le4 s4 ta5 w5 le5 s5 ta6 w6 le6 s6 f52
  replace f0 := shm_163 f0
  replace f1 := shm_1220 f1
  replace f2 := shm_5 f2
  replace f3 := shm_7 f3
  replace f4 := shm_22 f4
  replace f5 := shm_1792 f5
  replace f6 := shm_2243 f6
  replace f7 := shm_2131 f7
  replace f8 := shm_419 f8
  replace f9 := shm_1179 f9
  replace f10 := shm_825 f10
  replace f11 := shm_386 f11
  replace f12 := shm_386 f12
  replace f13 := shm_825 f13
  replace f14 := shm_1179 f14
  replace f15 := shm_419 f15
  replace f16 := shm_2131 f16
  replace f17 := shm_2243 f17
  replace f18 := shm_1792 f18
  replace f19 := shm_5 f19
  replace f20 := shm_1220 f20
  replace f21 := shm_2130 f21
  replace f22 := shm_1616 f22
  replace f23 := shm_270 f23
  have s1 : (∀ b j, w_el ws b j = w_el w1 b j) ∧ ∀ b j, w_fd ws b j = if b = v_ad (n_v vs 21) ∧ j = 1 then n_v vs 2 else w_fd w1 b j := s1.2
  replace f25 := shm_1220 f25
  replace f26 := shm_7 f26
  replace f27 := shm_22 f27
  replace f28 := shm_1792 f28
  replace f29 := shm_2243 f29
  replace f30 := shm_2131 f30
  replace f31 := shm_419 f31
  replace f32 := shm_1179 f32
  replace f33 := shm_825 f33
  replace f34 := shm_386 f34
  replace f35 := shm_386 f35
  replace f36 := shm_825 f36
  replace f37 := shm_1179 f37
  replace f38 := shm_419 f38
  replace f39 := shm_2131 f39
  replace f40 := shm_2243 f40
  replace f41 := shm_1792 f41
  replace f42 := shm_1220 f42
  replace f43 := shm_2130 f43
  replace f44 := shm_1616 f44
  replace f46 := shm_7 f46
  replace f47 := shm_22 f47
  have s5 : (∀ b j, w_el w4 b j = w_el w5 b j) ∧ ∀ b j, w_fd w4 b j = if b = v_ad (n_v vs 0) ∧ j = 18 then n_v vs 12 else w_fd w5 b j := s5.2
  replace f52 := shm_142 f52
  have q18 : n_v vs 18 = n_v vs 0 := f2.symm
  have q13 : n_v vs 13 = n_v vs 8 := f19.symm
  simp only [q13, q18] at f1 f5 f6 f7 f8 f9 f10 f11 f12 f13 f14 f15 f16 f17 f18 f23 f25 f28 f29 f30 f31 f32 f33 f34 f35 f36 f37 f38 f39 f40 f41
  have ar_8_7_1 : w_ar w1 (n_v vs 8) 7 = w_ar ws (n_v vs 8) 7 := by show v_ad (w_fd w1 _ _) = v_ad (w_fd ws _ _); rw [s1.2, if_neg (fun e => absurd e.2 (by decide))]
  have cr_8_7 := fdq_46 hD hth r8
  have ar_8_8_1 : w_ar w1 (n_v vs 8) 8 = w_ar ws (n_v vs 8) 8 := by show v_ad (w_fd w1 _ _) = v_ad (w_fd ws _ _); rw [s1.2, if_neg (fun e => absurd e.2 (by decide))]
  have cr_8_8 := fdq_47 hD hth r8
  have ar_8_14_1 : w_ar w1 (n_v vs 8) 14 = w_ar ws (n_v vs 8) 14 := by show v_ad (w_fd w1 _ _) = v_ad (w_fd ws _ _); rw [s1.2, if_neg (fun e => absurd e.2 (by decide))]
  have cr_8_14 := fdq_75 hD hth r8
  have ar_14_4_1 : w_ar w1 (n_v vs 14) 4 = w_ar ws (n_v vs 14) 4 := by show v_ad (w_fd w1 _ _) = v_ad (w_fd ws _ _); rw [s1.2, if_neg (fun e => absurd e.2 (by decide))]
  have cr_14_4 := fdq_87 hD hth r14
  have ar_15_16_1 : w_ar w1 (n_v vs 15) 16 = w_ar ws (n_v vs 15) 16 := by show v_ad (w_fd w1 _ _) = v_ad (w_fd ws _ _); rw [s1.2, if_neg (fun e => absurd e.2 (by decide))]
  have cr_15_16 := fdq_91 hD hth r15
  have g0 : v_iv (n_v vs 9) = w_fi ws (n_v vs 8) 0 := congrArg v_iv f0
  simp only [ar_8_14_1, ar_15_16_1, ar_8_7_1, ar_8_8_1, ar_14_4_1] at f28 f29 f30 f31 f32 f33 f34 f35 f36 f37 f38 f39 f40 f41
  have fe_8_0_1 : w_fi ws (n_v vs 8) 0 = w_fi w1 (n_v vs 8) 0 := by show v_iv (w_fd _ _ _) = v_iv (w_fd _ _ _); rw [s1.2, if_neg (fun e => absurd e.2 (by decide))]
  have fe_8_1_1 : w_fi ws (n_v vs 8) 1 = w_fi w1 (n_v vs 8) 1 := by show v_iv (w_fd _ _ _) = v_iv (w_fd _ _ _); rw [s1.2, if_neg (fun e => by have e1 := e.1; have e2 := r8; rw [e1, r21] at e2; exact absurd (Option.some.inj e2) (by decide))]
  have fe_14_0_1 : w_fi ws (n_v vs 14) 0 = w_fi w1 (n_v vs 14) 0 := by show v_iv (w_fd _ _ _) = v_iv (w_fd _ _ _); rw [s1.2, if_neg (fun e => absurd e.2 (by decide))]
  have fe_14_1_1 : w_fi ws (n_v vs 14) 1 = w_fi w1 (n_v vs 14) 1 := by show v_iv (w_fd _ _ _) = v_iv (w_fd _ _ _); rw [s1.2, if_neg (fun e => by have e1 := e.1; have e2 := r14; rw [e1, r21] at e2; exact absurd (Option.some.inj e2) (by decide))]
  have fe_14_2_1 : w_fi ws (n_v vs 14) 2 = w_fi w1 (n_v vs 14) 2 := by show v_iv (w_fd _ _ _) = v_iv (w_fd _ _ _); rw [s1.2, if_neg (fun e => absurd e.2 (by decide))]
  have fe_15_0_1 : w_fi ws (n_v vs 15) 0 = w_fi w1 (n_v vs 15) 0 := by show v_iv (w_fd _ _ _) = v_iv (w_fd _ _ _); rw [s1.2, if_neg (fun e => absurd e.2 (by decide))]
  have hE_8_7_1 : ∀ j : Int, w_ei ws (w_ar ws (n_v vs 8) 7) j = w_ei w1 (w_ar ws (n_v vs 8) 7) j := fun j => s1.1 _ _
  have hK_8_7 := elq_11 hD hth cr_8_7
  have hE_8_8_1 : ∀ j : Int, w_ei ws (w_ar ws (n_v vs 8) 8) j = w_ei w1 (w_ar ws (n_v vs 8) 8) j := fun j => s1.1 _ _
  have hK_8_8 := elq_12 hD hth cr_8_8
  have hE_8_14_1 : ∀ j : Int, w_ei ws (w_ar ws (n_v vs 8) 14) j = w_ei w1 (w_ar ws (n_v vs 8) 14) j := fun j => s1.1 _ _
  have hK_8_14 := elq_25 hD hth cr_8_14
  have hE_14_4_1 : ∀ j : Int, w_ei ws (w_ar ws (n_v vs 14) 4) j = w_ei w1 (w_ar ws (n_v vs 14) 4) j := fun j => s1.1 _ _
  have hK_14_4 := elq_29 hD hth cr_14_4
  have hE_15_16_1 : ∀ j : Int, w_ei ws (w_ar ws (n_v vs 15) 16) j = w_ei w1 (w_ar ws (n_v vs 15) 16) j := fun j => s1.1 _ _
  have hK_15_16 := elq_47 hD hth cr_15_16
  have kz_8_0 := fdq_21 hD hth r8
  have kz_8_1 := fdq_30 hD hth r8
  have kz_14_0 := fdq_294 hD hth r14
  have kz_14_1 := fdq_278 hD hth r14
  have kz_14_2 := fdq_295 hD hth r14
  have kz_15_0 := fdq_78 hD hth r15
  have nf0 : fc_1 PRD (20, [0, 4], [62, 2000006]) ws (vs) := by
    refine ⟨nf_in hl rfl, sgq_270 ?_⟩
    · show HY ws (n_v vs 0) (v_iv (n_v vs 4) + (((2000006 : Nat) : Int) - 2000000))
      exact hy_le f23 (by omega)
  refine ⟨(fun _ h => (by cases h)), [], trivial, ?_, (fun _ h => (by cases h))⟩
  rw [List.append_nil]
  exact List.forall_mem_cons.mpr ⟨⟨show (20 : Nat) < 100 from by decide, nf0⟩, (fun _ h => (by cases h))⟩
def o_Ho_draw_40 : or_T := (116, 13, [(0, (2, 0, 0, [12])), (1, (0, 0, 3, [])), (7, (2, 0, 0, [131])), (8, (2, 0, 0, [3])), (12, (2, 0, 0, [3]))], [(14, [12, 7, 1], []), (9, [7, 0], [0]), (20, [0, 1, 8], [62, 71])], [], [], [(24, [8, 12], [])], [], [])
theorem oo_Ho_draw_40 {kA : Nat → ClassId} : or_ok PRD kA GG o_Ho_draw_40 := by
  refine or_mk fun A ta ws vs hD hth hl => ?_
  intro t0 r0 t1 k1 t7 r7 t8 r8 t12 r12 f0 f1 f2
  replace f0 := shm_793 f0
  replace f1 := shm_163 f1
  replace f2 := shm_1819 f2
  have nf0 : fc_1 PRD (24, [8, 12], []) ws (vs) := by
    refine ⟨nf_in hl rfl, sgq_5 ?_⟩
    · show n_v vs 8 = n_v vs 12
      exact ref_same t8 t12 rfl rfl ((wl_0 (wq_wl f2) (by decide)).trans (pO_of f1 f0).symm)
  refine ⟨(fun _ h => (by cases h)), [], trivial, ?_, (fun _ h => (by cases h))⟩
  rw [List.append_nil]
  exact List.forall_mem_cons.mpr ⟨⟨show (24 : Nat) < 100 from by decide, nf0⟩, (fun _ h => (by cases h))⟩
def o_Ho_draw_41 : or_T := (116, 13, [(0, (2, 0, 0, [12])), (1, (0, 0, 3, [])), (8, (2, 0, 0, [3])), (9, (0, 1, 24, [])), (12, (2, 0, 0, [3]))], [(24, [8, 12], []), (20, [8], [50, 1, 0, 0, 0, 2, 0, 1, 2, 0, 0]), (8, [9], [1]), (9, [9, 8], [0]), (20, [0, 1, 8], [62, 71])], [], [], [(20, [0, 1, 12], [62, 71])], [], [])
theorem oo_Ho_draw_41 {kA : Nat → ClassId} : or_ok PRD kA GG o_Ho_draw_41 := by
  refine or_mk fun A ta ws vs hD hth hl => ?_
  intro t0 r0 t1 k1 t8 r8 t9 k9 t12 r12 f0 f1 f2 f3 f4
  replace f0 := shm_5 f0
  replace f4 := shm_1819 f4
  have q12 : n_v vs 12 = n_v vs 8 := f0.symm
  have nf0 : fc_1 PRD (20, [0, 1, 12], [62, 71]) ws (vs) := by
    refine ⟨nf_in hl rfl, sgq_1819 ?_⟩
    · show WQF 71 [n_v vs 0, n_v vs 1, n_v vs 12] ws
      first | rw [q12] | skip
      have zw := f4
      first | rw [show n_v vs 8 = n_v vs 12 from (by first | exact f0 | exact f0.symm)] at zw | skip
      first | exact zw | ((first | rw [q12] at zw | skip); exact zw)
  refine ⟨(fun _ h => (by cases h)), [], trivial, ?_, (fun _ h => (by cases h))⟩
  rw [List.append_nil]
  exact List.forall_mem_cons.mpr ⟨⟨show (20 : Nat) < 100 from by decide, nf0⟩, (fun _ h => (by cases h))⟩
def o_Ho_draw_42 : or_T := (121, 14, [(0, (2, 0, 0, [12]))], [(20, [0], [62, 0]), (102, [12], [281337537757184, 2000, 2001, 2002, 2003]), (20, [0, 1, 12], [62, 71])], [], [], [(20, [0, 1, 12], [62, 71])], [], [])
theorem oo_Ho_draw_42 {kA : Nat → ClassId} : or_ok PRD kA GG o_Ho_draw_42 := by
  refine or_mk fun A ta ws vs hD hth hl => ?_
  intro t0 r0 f0 ta1 w1 le1 s1 f2
  replace f0 := shm_1176 f0
  replace s1 := s1.2
  replace f2 := shm_1819 f2
  have nf0 : fc_1 PRD (20, [0, 1, 12], [62, 71]) ws (vs) := by
    refine ⟨nf_in hl rfl, sgq_1819 ?_⟩
    · show WQF 71 [n_v vs 0, n_v vs 1, n_v vs 12] ws
      obtain ⟨aH, _, eH, _⟩ := tv_ref t0 rfl
      have hH0 := s1.2.2.1 12 List.mem_cons_self 0 (by decide) aH eH
      exact wq_step f0 (hd_call hD hth (by decide +kernel) le1 r0 (by rw [eH]; exact hH0) s1 (by decide +kernel)) f2 (by decide)
  refine ⟨(fun _ h => (by cases h)), [], trivial, ?_, (fun _ h => (by cases h))⟩
  rw [List.append_nil]
  exact List.forall_mem_cons.mpr ⟨⟨show (20 : Nat) < 100 from by decide, nf0⟩, (fun _ h => (by cases h))⟩
def o_Ho_draw_43 : or_T := (126, 15, [(0, (2, 0, 0, [12])), (1, (0, 0, 3, [])), (12, (2, 0, 0, [3])), (13, (2, 0, 0, [2]))], [(20, [0], [62, 0]), (102, [13], [712230049778071777201162559065590005831303168, 1000, 1005, 1006, 1007, 1015, 1016, 1017, 1018, 5000, 5002, 5003, 5005, 5006, 5013, 149005, 149006, 149013]), (20, [0, 1, 12], [62, 71])], [], [], [(20, [0, 1, 12], [62, 71])], [], [])
theorem oo_Ho_draw_43 {kA : Nat → ClassId} : or_ok PRD kA GG o_Ho_draw_43 := by
  refine or_mk fun A ta ws vs hD hth hl => ?_
  intro t0 r0 t1 k1 t12 r12 t13 r13 f0 ta1 w1 le1 s1 f2
  replace f0 := shm_1176 f0
  replace s1 := s1.2
  replace f2 := shm_1819 f2
  have nf0 : fc_1 PRD (20, [0, 1, 12], [62, 71]) ws (vs) := by
    refine ⟨nf_in hl rfl, sgq_1819 ?_⟩
    · show WQF 71 [n_v vs 0, n_v vs 1, n_v vs 12] ws
      obtain ⟨aH, _, eH, _⟩ := tv_ref t0 rfl
      have hH0 := s1.2.2.1 13 List.mem_cons_self 0 (by decide) aH eH
      exact wq_step f0 (hd_call hD hth (by decide +kernel) le1 r0 (by rw [eH]; exact hH0) s1 (by decide +kernel)) f2 (by decide)
  refine ⟨(fun _ h => (by cases h)), [], trivial, ?_, (fun _ h => (by cases h))⟩
  rw [List.append_nil]
  exact List.forall_mem_cons.mpr ⟨⟨show (20 : Nat) < 100 from by decide, nf0⟩, (fun _ h => (by cases h))⟩
def o_Ho_draw_44 : or_T := (126, 15, [(0, (2, 0, 0, [12])), (1, (0, 0, 3, [])), (13, (2, 0, 0, [2]))], [(20, [0], [62, 0]), (102, [13], [712230049778071777201162559065590005831303168, 1000, 1005, 1006, 1007, 1015, 1016, 1017, 1018, 5000, 5002, 5003, 5005, 5006, 5013, 149005, 149006, 149013]), (20, [0, 1, 13], [62, 135])], [], [], [(20, [0, 1, 13], [62, 135])], [], [])
theorem oo_Ho_draw_44 {kA : Nat → ClassId} : or_ok PRD kA GG o_Ho_draw_44 := by
  refine or_mk fun A ta ws vs hD hth hl => ?_
  intro t0 r0 t1 k1 t13 r13 f0 ta1 w1 le1 s1 f2
  replace f0 := shm_1176 f0
  replace s1 := s1.2
  replace f2 := shm_2132 f2
  have nf0 : fc_1 PRD (20, [0, 1, 13], [62, 135]) ws (vs) := by
    refine ⟨nf_in hl rfl, sgq_2132 ?_⟩
    · show WQF 135 [n_v vs 0, n_v vs 1, n_v vs 13] ws
      obtain ⟨aH, _, eH, _⟩ := tv_ref t0 rfl
      have hH0 := s1.2.2.1 13 List.mem_cons_self 0 (by decide) aH eH
      exact wq_step f0 (hd_call hD hth (by decide +kernel) le1 r0 (by rw [eH]; exact hH0) s1 (by decide +kernel)) f2 (by decide)
  refine ⟨(fun _ h => (by cases h)), [], trivial, ?_, (fun _ h => (by cases h))⟩
  rw [List.append_nil]
  exact List.forall_mem_cons.mpr ⟨⟨show (20 : Nat) < 100 from by decide, nf0⟩, (fun _ h => (by cases h))⟩
def o_Ho_draw_45 : or_T := (132, 17, [(0, (2, 0, 0, [12])), (1, (0, 0, 3, [])), (4, (0, 0, 3066, [])), (15, (2, 0, 0, [134])), (16, (2, 0, 0, [0]))], [(14, [16, 15, 1], []), (9, [15, 0], [3]), (20, [0, 4], [62, 2000000])], [], [], [(20, [0, 4, 16], [62, 2000000])], [], [])
theorem oo_Ho_draw_45 {kA : Nat → ClassId} : or_ok PRD kA GG o_Ho_draw_45 := by
  refine or_mk fun A ta ws vs hD hth hl => ?_
  intro t0 r0 t1 k1 t4 k4 t15 r15 t16 r16 f0 f1 f2
  replace f0 := shm_793 f0
  replace f1 := shm_137 f1
  replace f2 := shm_161 f2
  have nf0 : fc_1 PRD (20, [0, 4, 16], [62, 2000000]) ws (vs) := by
    refine ⟨nf_in hl rfl, sgq_1399 ?_⟩
    · show HY ws (n_v vs 0) (v_iv (n_v vs 4) + (((2000000 : Nat) : Int) - 2000000)) ∧ HYD ws (n_v vs 0) (n_v vs 16)
      exact ⟨hy_le f2 (by omega), hyd_of f1 f0 (by omega) (by omega)⟩
  refine ⟨(fun _ h => (by cases h)), [], trivial, ?_, (fun _ h => (by cases h))⟩
  rw [List.append_nil]
  exact List.forall_mem_cons.mpr ⟨⟨show (20 : Nat) < 100 from by decide, nf0⟩, (fun _ h => (by cases h))⟩
def o_Ho_draw_46 : or_T := (132, 17, [(0, (2, 0, 0, [12])), (1, (0, 0, 3, [])), (12, (2, 0, 0, [3])), (13, (2, 0, 0, [2]))], [(20, [0, 1, 13], [62, 135]), (20, [0, 1, 12], [62, 71])], [], [], [(20, [12], [60, 1, 1, 637, 0, 14])], [], [])
theorem oo_Ho_draw_46 {kA : Nat → ClassId} : or_ok PRD kA GG o_Ho_draw_46 := by
  refine or_mk fun A ta ws vs hD hth hl => ?_
  intro t0 r0 t1 k1 t12 r12 t13 r13 f0 f1
  replace f0 := shm_2132 f0
  replace f1 := shm_1819 f1
  have nf0 : fc_1 PRD (20, [12], [60, 1, 1, 637, 0, 14]) ws (vs) := by
    refine ⟨nf_in hl rfl, sgq_1792 ?_⟩
    · show SYG (w_fi ws (n_v vs 12) 0) (w_ei ws (w_ar ws (n_v vs 12) 14))
      have kz12_0 : 0 ≤ w_fi ws (n_v vs 12) 0 ∧ w_fi ws (n_v vs 12) 0 ≤ 24 := tv_rng (th_fd hD hth r12 (g := GG_3) rfl (k := 0) (t := (0, 0, 24, [])) rfl rfl)
      exact hg_syg (wq_hg f0 (by decide) (wl_0 (wq_wl (k := 71) f1) (by decide))) (by omega)
  refine ⟨(fun _ h => (by cases h)), [], trivial, ?_, (fun _ h => (by cases h))⟩
  rw [List.append_nil]
  exact List.forall_mem_cons.mpr ⟨⟨show (20 : Nat) < 100 from by decide, nf0⟩, (fun _ h => (by cases h))⟩
def o_Ho_draw_47 : or_T := (132, 17, [(0, (2, 0, 0, [12])), (1, (0, 0, 3, [])), (12, (2, 0, 0, [3])), (13, (2, 0, 0, [2])), (14, (2, 0, 0, [5]))], [(20, [0, 1, 13], [62, 135]), (20, [0, 1, 12], [62, 71]), (20, [13], [50, 1, 0, 0, 7, 3, 2, 0, 0, 0, 0]), (20, [0, 1, 14], [62, 199]), (20, [14], [50, 1, 0, 0, 0, 2, 0, 0, 2, 0, 0])], [], [], [(20, [14, 12, 13], [60, 3, 1, 644, 0, 1001, 2002, 16])], [], [])
theorem oo_Ho_draw_47 {kA : Nat → ClassId} : or_ok PRD kA GG o_Ho_draw_47 := by
  refine or_mk fun A ta ws vs hD hth hl => ?_
  intro t0 r0 t1 k1 t12 r12 t13 r13 t14 r14 f0 f1 f2 f3 f4
  replace f0 := shm_2132 f0
  replace f1 := shm_1819 f1
  replace f2 := shm_2130 f2
  replace f3 := shm_2167 f3
  replace f4 := shm_1616 f4
  have nf0 : fc_1 PRD (20, [14, 12, 13], [60, 3, 1, 644, 0, 1001, 2002, 16]) ws (vs) := by
    refine ⟨nf_in hl rfl, sgq_2243 ?_⟩
    · show PLB (w_fi ws (n_v vs 14) 0) (w_fi ws (n_v vs 12) 1) (w_fi ws (n_v vs 13) 2) (w_ei ws (w_ar ws (n_v vs 14) 16))
      have kz14_0 : (-1) ≤ w_fi ws (n_v vs 14) 0 ∧ w_fi ws (n_v vs 14) 0 ≤ 1 := tv_rng (th_fd hD hth r14 (g := GG_5) rfl (k := 0) (t := (0, -1, 1, [])) rfl rfl)
      have kp0 : 0 ≤ w_fi ws (n_v vs 14) 0 := f4
      have kz12_1 : 0 ≤ w_fi ws (n_v vs 12) 1 ∧ w_fi ws (n_v vs 12) 1 ≤ 48 := tv_rng (th_fd hD hth r12 (g := GG_3) rfl (k := 1) (t := (0, 0, 48, [])) rfl rfl)
      obtain ⟨dz, rz, hz, tz, mz⟩ := tv_ref (fd_at hD hth r14 (g := GG_5) rfl (k := 16) rfl (by decide)).1 rfl
      obtain rfl := List.mem_singleton.mp mz
      have kfo : ∀ d : Int, 0 ≤ d → d < 144 → -1 ≤ w_ei ws (w_ar ws (n_v vs 14) 16) d := fun d d0 d1 => by rw [hg_ar hz]; have z := th_el hD hth tz (kd := 0) (n := 144) (m := 144) (lo := (-1)) (hi := 143) (rs := []) (L := []) rfl (by decide) (j := d.toNat) (by omega); show -1 ≤ w_el ws dz d.toNat; omega
      exact hn_plb (wq_hn f0 (by decide) (wl_0 (wq_wl (k := 71) f1) (by decide)) (wl_0 (wq_wl (k := 199) f3) (by decide))) (wq_hf f0 (by decide) (wl_0 (wq_wl (k := 71) f1) (by decide)) (wl_0 (wq_wl (k := 135) f0) (by decide))) (show w_fi ws (n_v vs 13) 0 ≠ 0 from f2) ⟨kp0, by omega⟩ (by omega) kfo
  refine ⟨(fun _ h => (by cases h)), [], trivial, ?_, (fun _ h => (by cases h))⟩
  rw [List.append_nil]
  exact List.forall_mem_cons.mpr ⟨⟨show (20 : Nat) < 100 from by decide, nf0⟩, (fun _ h => (by cases h))⟩
def o_Ho_draw_48 : or_T := (132, 17, [(0, (2, 0, 0, [12])), (1, (0, 0, 3, [])), (12, (2, 0, 0, [3])), (13, (2, 0, 0, [2]))], [(20, [0, 1, 13], [62, 135]), (20, [0, 1, 12], [62, 71]), (20, [13], [50, 1, 0, 0, 7, 3, 2, 0, 0, 0, 0])], [], [], [(20, [12, 13], [60, 3, 3, 673, 0, 1, 1002, 14, 7, 8])], [], [])
theorem oo_Ho_draw_48 {kA : Nat → ClassId} : or_ok PRD kA GG o_Ho_draw_48 := by
  refine or_mk fun A ta ws vs hD hth hl => ?_
  intro t0 r0 t1 k1 t12 r12 t13 r13 f0 f1 f2
  replace f0 := shm_2132 f0
  replace f1 := shm_1819 f1
  replace f2 := shm_2130 f2
  have nf0 : fc_1 PRD (20, [12, 13], [60, 3, 3, 673, 0, 1, 1002, 14, 7, 8]) ws (vs) := by
    refine ⟨nf_in hl rfl, sgq_2131 ?_⟩
    · show BKS (w_fi ws (n_v vs 12) 0) (w_fi ws (n_v vs 12) 1) (w_fi ws (n_v vs 13) 2) (w_ei ws (w_ar ws (n_v vs 12) 14)) (w_ei ws (w_ar ws (n_v vs 12) 7)) (w_ei ws (w_ar ws (n_v vs 12) 8))
      exact (hf_all (wq_hf f0 (by decide) (wl_0 (wq_wl (k := 71) f1) (by decide)) (wl_0 (wq_wl (k := 135) f0) (by decide))) (show w_fi ws (n_v vs 13) 0 ≠ 0 from f2)).2.2.2
  refine ⟨(fun _ h => (by cases h)), [], trivial, ?_, (fun _ h => (by cases h))⟩
  rw [List.append_nil]
  exact List.forall_mem_cons.mpr ⟨⟨show (20 : Nat) < 100 from by decide, nf0⟩, (fun _ h => (by cases h))⟩
def o_Ho_draw_49 : or_T := (132, 17, [(0, (2, 0, 0, [12])), (1, (0, 0, 3, [])), (12, (2, 0, 0, [3])), (13, (2, 0, 0, [2]))], [(20, [0, 1, 13], [62, 135]), (20, [0, 1, 12], [62, 71]), (20, [13], [50, 1, 0, 0, 7, 3, 2, 0, 0, 0, 0])], [], [], [(20, [12, 13], [60, 1, 2, 671, 0, 14, 1004])], [], [])
theorem oo_Ho_draw_49 {kA : Nat → ClassId} : or_ok PRD kA GG o_Ho_draw_49 := by
  refine or_mk fun A ta ws vs hD hth hl => ?_
  intro t0 r0 t1 k1 t12 r12 t13 r13 f0 f1 f2
  replace f0 := shm_2132 f0
  replace f1 := shm_1819 f1
  replace f2 := shm_2130 f2
  have nf0 : fc_1 PRD (20, [12, 13], [60, 1, 2, 671, 0, 14, 1004]) ws (vs) := by
    refine ⟨nf_in hl rfl, sgq_419 ?_⟩
    · show PNC (w_fi ws (n_v vs 12) 0) (w_ei ws (w_ar ws (n_v vs 12) 14)) (w_ei ws (w_ar ws (n_v vs 13) 4))
      exact (hf_all (wq_hf f0 (by decide) (wl_0 (wq_wl (k := 71) f1) (by decide)) (wl_0 (wq_wl (k := 135) f0) (by decide))) (show w_fi ws (n_v vs 13) 0 ≠ 0 from f2)).1
  refine ⟨(fun _ h => (by cases h)), [], trivial, ?_, (fun _ h => (by cases h))⟩
  rw [List.append_nil]
  exact List.forall_mem_cons.mpr ⟨⟨show (20 : Nat) < 100 from by decide, nf0⟩, (fun _ h => (by cases h))⟩
def o_Ho_draw_50 : or_T := (132, 17, [(0, (2, 0, 0, [12])), (1, (0, 0, 3, [])), (12, (2, 0, 0, [3])), (13, (2, 0, 0, [2]))], [(20, [0, 1, 13], [62, 135]), (20, [0, 1, 12], [62, 71]), (20, [13], [50, 1, 0, 0, 7, 3, 2, 0, 0, 0, 0])], [], [], [(20, [12, 13], [60, 2, 1, 672, 0, 1001, 1004])], [], [])
theorem oo_Ho_draw_50 {kA : Nat → ClassId} : or_ok PRD kA GG o_Ho_draw_50 := by
  refine or_mk fun A ta ws vs hD hth hl => ?_
  intro t0 r0 t1 k1 t12 r12 t13 r13 f0 f1 f2
  replace f0 := shm_2132 f0
  replace f1 := shm_1819 f1
  replace f2 := shm_2130 f2
  have nf0 : fc_1 PRD (20, [12, 13], [60, 2, 1, 672, 0, 1001, 1004]) ws (vs) := by
    refine ⟨nf_in hl rfl, sgq_1179 ?_⟩
    · show FPA (w_fi ws (n_v vs 12) 0) (w_fi ws (n_v vs 13) 1) (w_ei ws (w_ar ws (n_v vs 13) 4))
      exact (hf_all (wq_hf f0 (by decide) (wl_0 (wq_wl (k := 71) f1) (by decide)) (wl_0 (wq_wl (k := 135) f0) (by decide))) (show w_fi ws (n_v vs 13) 0 ≠ 0 from f2)).2.1
  refine ⟨(fun _ h => (by cases h)), [], trivial, ?_, (fun _ h => (by cases h))⟩
  rw [List.append_nil]
  exact List.forall_mem_cons.mpr ⟨⟨show (20 : Nat) < 100 from by decide, nf0⟩, (fun _ h => (by cases h))⟩
def o_Ho_draw_51 : or_T := (132, 17, [(0, (2, 0, 0, [12])), (1, (0, 0, 3, [])), (12, (2, 0, 0, [3])), (13, (2, 0, 0, [2]))], [(20, [0, 1, 13], [62, 135]), (20, [0, 1, 12], [62, 71])], [], [], [(20, [12], [60, 2, 3, 670, 0, 1, 14, 7, 8])], [], [])
theorem oo_Ho_draw_51 {kA : Nat → ClassId} : or_ok PRD kA GG o_Ho_draw_51 := by
  refine or_mk fun A ta ws vs hD hth hl => ?_
  intro t0 r0 t1 k1 t12 r12 t13 r13 f0 f1
  replace f0 := shm_2132 f0
  replace f1 := shm_1819 f1
  have nf0 : fc_1 PRD (20, [12], [60, 2, 3, 670, 0, 1, 14, 7, 8]) ws (vs) := by
    refine ⟨nf_in hl rfl, sgq_825 ?_⟩
    · show GNB (w_fi ws (n_v vs 12) 0) (w_fi ws (n_v vs 12) 1) (w_ei ws (w_ar ws (n_v vs 12) 14)) (w_ei ws (w_ar ws (n_v vs 12) 7)) (w_ei ws (w_ar ws (n_v vs 12) 8))
      exact hg_gnb (wq_hg f0 (by decide) (wl_0 (wq_wl (k := 71) f1) (by decide)))
  refine ⟨(fun _ h => (by cases h)), [], trivial, ?_, (fun _ h => (by cases h))⟩
  rw [List.append_nil]
  exact List.forall_mem_cons.mpr ⟨⟨show (20 : Nat) < 100 from by decide, nf0⟩, (fun _ h => (by cases h))⟩
def o_Ho_draw_52 : or_T := (132, 17, [(0, (2, 0, 0, [12])), (1, (0, 0, 3, [])), (12, (2, 0, 0, [3])), (13, (2, 0, 0, [2]))], [(20, [0, 1, 13], [62, 135]), (20, [0, 1, 12], [62, 71])], [], [], [(20, [12], [60, 2, 2, 596, 0, 1, 7, 8])], [], [])
theorem oo_Ho_draw_52 {kA : Nat → ClassId} : or_ok PRD kA GG o_Ho_draw_52 := by
  refine or_mk fun A ta ws vs hD hth hl => ?_
  intro t0 r0 t1 k1 t12 r12 t13 r13 f0 f1
  replace f0 := shm_2132 f0
  replace f1 := shm_1819 f1
  have nf0 : fc_1 PRD (20, [12], [60, 2, 2, 596, 0, 1, 7, 8]) ws (vs) := by
    refine ⟨nf_in hl rfl, sgq_386 ?_⟩
    · show GKE (w_fi ws (n_v vs 12) 0) (w_fi ws (n_v vs 12) 1) (w_ei ws (w_ar ws (n_v vs 12) 7)) (w_ei ws (w_ar ws (n_v vs 12) 8))
      exact hg_gke (wq_hg f0 (by decide) (wl_0 (wq_wl (k := 71) f1) (by decide)))
  refine ⟨(fun _ h => (by cases h)), [], trivial, ?_, (fun _ h => (by cases h))⟩
  rw [List.append_nil]
  exact List.forall_mem_cons.mpr ⟨⟨show (20 : Nat) < 100 from by decide, nf0⟩, (fun _ h => (by cases h))⟩
set_option maxHeartbeats 4000000 in
theorem vc_Ho_draw_53_0 (nodes_0o8 : Int) (f10 : 1 ≤ nodes_0o8) (kz_8_0 : 0 ≤ nodes_0o8 ∧ nodes_0o8 ≤ 24) : 1 ≤ nodes_0o8 := by
  first | omega
set_option maxHeartbeats 4000000 in
theorem vc_Ho_draw_53_2 (x4 : Int) (gy : Int) (k4 : 0 ≤ x4 ∧ x4 ≤ 3066) (ey2 : gy = x4) : 1 * gy + ((-1) * x4 + 0) ≤ 0 := by
  first | omega
set_option maxHeartbeats 4000000 in
theorem vc_Ho_draw_53_3 (x4 : Int) (gy : Int) (k4 : 0 ≤ x4 ∧ x4 ≤ 3066) (ey2 : gy = x4) : (-1) * gy + (1 * x4 + 0) ≤ 0 := by
  first | omega
set_option maxHeartbeats 4000000 in
theorem vc_Ho_draw_53_4 (nodes_0o8 : Int) (near_0o8 : Int → Int) (f7 : SYG (nodes_0o8) (near_0o8)) (kz_8_0 : 0 ≤ nodes_0o8 ∧ nodes_0o8 ≤ 24) : SYG (nodes_0o8) (near_0o8) := by
  first | assumption
set_option maxHeartbeats 4000000 in
theorem vc_Ho_draw_53_5 (edges_0o8 : Int) (blocks_0o13 : Int) (faceOf_0o14 : Int → Int) (planar_0o14 : Int) (f6 : PLB (planar_0o14) (edges_0o8) (blocks_0o13) (faceOf_0o14)) (kz_8_1 : 0 ≤ edges_0o8 ∧ edges_0o8 ≤ 48) (kz_13_2 : 0 ≤ blocks_0o13 ∧ blocks_0o13 ≤ 48) (kz_14_0 : (-1) ≤ planar_0o14 ∧ planar_0o14 ≤ 1) : PLB (planar_0o14) (edges_0o8) (blocks_0o13) (faceOf_0o14) := by
  first | assumption
set_option maxHeartbeats 4000000 in
theorem vc_Ho_draw_53_6 (nodes_0o8 : Int) (tail_0o8 : Int → Int) (head_0o8 : Int → Int) (edges_0o8 : Int) (near_0o8 : Int → Int) (blocks_0o13 : Int) (f5 : BKS (nodes_0o8) (edges_0o8) (blocks_0o13) (near_0o8) (tail_0o8) (head_0o8)) (kz_8_0 : 0 ≤ nodes_0o8 ∧ nodes_0o8 ≤ 24) (kz_8_1 : 0 ≤ edges_0o8 ∧ edges_0o8 ≤ 48) (kz_13_2 : 0 ≤ blocks_0o13 ∧ blocks_0o13 ≤ 48) : BKS (nodes_0o8) (edges_0o8) (blocks_0o13) (near_0o8) (tail_0o8) (head_0o8) := by
  first | assumption
set_option maxHeartbeats 4000000 in
theorem vc_Ho_draw_53_7 (nodes_0o8 : Int) (near_0o8 : Int → Int) (part_0o13 : Int → Int) (f4 : PNC (nodes_0o8) (near_0o8) (part_0o13)) (kz_8_0 : 0 ≤ nodes_0o8 ∧ nodes_0o8 ≤ 24) : PNC (nodes_0o8) (near_0o8) (part_0o13) := by
  first | assumption
set_option maxHeartbeats 4000000 in
theorem vc_Ho_draw_53_8 (nodes_0o8 : Int) (part_0o13 : Int → Int) (parts_0o13 : Int) (f3 : FPA (nodes_0o8) (parts_0o13) (part_0o13)) (kz_8_0 : 0 ≤ nodes_0o8 ∧ nodes_0o8 ≤ 24) (kz_13_1 : 0 ≤ parts_0o13 ∧ parts_0o13 ≤ 24) : FPA (nodes_0o8) (parts_0o13) (part_0o13) := by
  first | assumption
set_option maxHeartbeats 4000000 in
theorem vc_Ho_draw_53_9 (nodes_0o8 : Int) (tail_0o8 : Int → Int) (head_0o8 : Int → Int) (edges_0o8 : Int) (near_0o8 : Int → Int) (f2 : GNB (nodes_0o8) (edges_0o8) (near_0o8) (tail_0o8) (head_0o8)) (kz_8_0 : 0 ≤ nodes_0o8 ∧ nodes_0o8 ≤ 24) (kz_8_1 : 0 ≤ edges_0o8 ∧ edges_0o8 ≤ 48) : GNB (nodes_0o8) (edges_0o8) (near_0o8) (tail_0o8) (head_0o8) := by
  first | assumption
set_option maxHeartbeats 4000000 in
theorem vc_Ho_draw_53_10 (nodes_0o8 : Int) (tail_0o8 : Int → Int) (head_0o8 : Int → Int) (edges_0o8 : Int) (f1 : GKE (nodes_0o8) (edges_0o8) (tail_0o8) (head_0o8)) (kz_8_0 : 0 ≤ nodes_0o8 ∧ nodes_0o8 ≤ 24) (kz_8_1 : 0 ≤ edges_0o8 ∧ edges_0o8 ≤ 48) : GKE (nodes_0o8) (edges_0o8) (tail_0o8) (head_0o8) := by
  first | assumption
def o_Ho_draw_53 : or_T := (132, 17, [(0, (2, 0, 0, [12])), (4, (0, 0, 3066, [])), (8, (2, 0, 0, [3])), (9, (0, 1, 24, [])), (12, (2, 0, 0, [3])), (13, (2, 0, 0, [2])), (14, (2, 0, 0, [5])), (16, (2, 0, 0, [0]))], [(9, [9, 8], [0]), (20, [12], [60, 2, 2, 596, 0, 1, 7, 8]), (20, [12], [60, 2, 3, 670, 0, 1, 14, 7, 8]), (20, [12, 13], [60, 2, 1, 672, 0, 1001, 1004]), (20, [12, 13], [60, 1, 2, 671, 0, 14, 1004]), (20, [12, 13], [60, 3, 3, 673, 0, 1, 1002, 14, 7, 8]), (20, [14, 12, 13], [60, 3, 1, 644, 0, 1001, 2002, 16]), (20, [12], [60, 1, 1, 637, 0, 14]), (20, [0, 4, 16], [62, 2000000]), (24, [8, 12], []), (20, [8], [50, 1, 0, 0, 0, 2, 0, 1, 2, 0, 0]), (20, [13], [50, 1, 0, 0, 7, 3, 2, 0, 0, 0, 0]), (20, [14], [50, 1, 0, 0, 0, 2, 0, 0, 2, 0, 0]), (102, [13], [712230049778071777201162559065590005831303168, 1000, 1005, 1006, 1007, 1015, 1016, 1017, 1018, 5000, 5002, 5003, 5005, 5006, 5013, 149005, 149006, 149013]), (102, [12], [281337537757184, 2000, 2001, 2002, 2003]), (8, [9], [1])], [], [(2, 0, 0, [12]), (0, 0, 3066, [])], [(20, [12], [50, 1, 0, 0, 0, 2, 0, 1, 2, 0, 0]), (24, [0, 17], []), (23, [18, 4], [0, 1, -1]), (23, [18, 4], [0, -1, 1]), (20, [12], [60, 1, 1, 637, 0, 14]), (20, [14, 12, 13], [60, 3, 1, 644, 0, 1001, 2002, 16]), (20, [12, 13], [60, 3, 3, 673, 0, 1, 1002, 14, 7, 8]), (20, [12, 13], [60, 1, 2, 671, 0, 14, 1004]), (20, [12, 13], [60, 2, 1, 672, 0, 1001, 1004]), (20, [12], [60, 2, 3, 670, 0, 1, 14, 7, 8]), (20, [12], [60, 2, 2, 596, 0, 1, 7, 8]), (20, [17, 18, 16], [62, 2000000])], [], [])
theorem oo_Ho_draw_53 {kA : Nat → ClassId} : or_ok PRD kA GG o_Ho_draw_53 := by
  refine or_mk fun A ta ws vs hD hth hl => ?_
  intro t0 r0 t4 k4 t8 r8 t9 k9 t12 r12 t13 r13 t14 r14 t16 r16 f0 f1 f2 f3 f4 f5 f6 f7 f8 f9 f10 f11 f12 ta1 w1 le1 s1 ta2 w2 le2 s2 f15
  replace f0 := shm_163 f0
  replace f1 := shm_386 f1
  replace f2 := shm_825 f2
  replace f3 := shm_1179 f3
  replace f4 := shm_419 f4
  replace f5 := shm_2131 f5
  replace f6 := shm_2243 f6
  replace f7 := shm_1792 f7
  replace f8 := shm_1399 f8
  replace f9 := shm_5 f9
  replace f10 := shm_1220 f10
  replace f11 := shm_2130 f11
  replace f12 := shm_1616 f12
  replace f15 := shm_142 f15
  have q12 : n_v vs 12 = n_v vs 8 := f9.symm
  simp only [q12] at f1 f2 f3 f4 f5 f6 f7
  have cr_8_7 := fdq_46 hD hth r8
  have cr_8_8 := fdq_47 hD hth r8
  have cr_8_14 := fdq_75 hD hth r8
  have cr_13_4 := fdq_87 hD hth r13
  have cr_14_16 := fdq_91 hD hth r14
  have g0 : v_iv (n_v vs 9) = w_fi ws (n_v vs 8) 0 := congrArg v_iv f0
  have hK_8_7 := elq_11 hD hth cr_8_7
  have hK_8_8 := elq_12 hD hth cr_8_8
  have hK_8_14 := elq_25 hD hth cr_8_14
  have hK_13_4 := elq_29 hD hth cr_13_4
  have hK_14_16 := elq_47 hD hth cr_14_16
  have kz_8_0 := fdq_21 hD hth r8
  have kz_8_1 := fdq_30 hD hth r8
  have kz_13_0 := fdq_294 hD hth r13
  have kz_13_1 := fdq_278 hD hth r13
  have kz_13_2 := fdq_295 hD hth r13
  have kz_14_0 := fdq_78 hD hth r14
  obtain ⟨y, ey, hy⟩ := iv_ex (ta := ta) (lo := 0) (hi := 3066) (z := v_iv (n_v vs 4)) (by omega) (by omega) (by omega) (by omega)
  have ey2 : v_iv (Value.int y) = v_iv (n_v vs 4) := ey
  have ey3 : 0 ≤ v_iv (Value.int y) ∧ v_iv (Value.int y) ≤ 3066 := tv_rng hy
  have e_0 : n_v (vs ++ [n_v vs 0, Value.int y]) 0 = n_v vs 0 := n_v_old (by rw [hl]; decide)
  have e_4 : n_v (vs ++ [n_v vs 0, Value.int y]) 4 = n_v vs 4 := n_v_old (by rw [hl]; decide)
  have e_12 : n_v (vs ++ [n_v vs 0, Value.int y]) 12 = n_v vs 12 := n_v_old (by rw [hl]; decide)
  have e_13 : n_v (vs ++ [n_v vs 0, Value.int y]) 13 = n_v vs 13 := n_v_old (by rw [hl]; decide)
  have e_14 : n_v (vs ++ [n_v vs 0, Value.int y]) 14 = n_v vs 14 := n_v_old (by rw [hl]; decide)
  have e_16 : n_v (vs ++ [n_v vs 0, Value.int y]) 16 = n_v vs 16 := n_v_old (by rw [hl]; decide)
  have e_17 : n_v (vs ++ [n_v vs 0, Value.int y]) 17 = n_v vs 0 := n_v_new0 hl
  have e_18 : n_v (vs ++ [n_v vs 0, Value.int y]) 18 = Value.int y := n_v_new1 hl
  have nf0 : fc_1 PRD (20, [12], [50, 1, 0, 0, 0, 2, 0, 1, 2, 0, 0]) ws (vs ++ [n_v vs 0, Value.int y]) := by
    refine ⟨nf_inA hl rfl, sgq_1220 ?_⟩
    · show 1 ≤ w_fi ws (n_v (vs ++ [n_v vs 0, Value.int y]) 12) 0
      simp only [e_12, q12]
      exact vc_Ho_draw_53_0 (w_fi ws (n_v vs 8) 0) f10 kz_8_0
  have nf1 : fc_1 PRD (24, [0, 17], []) ws (vs ++ [n_v vs 0, Value.int y]) := by
    refine ⟨nf_inA hl rfl, sgq_5 ?_⟩
    · show n_v (vs ++ [n_v vs 0, Value.int y]) 0 = n_v (vs ++ [n_v vs 0, Value.int y]) 17
      first | rfl | simp only [e_0, e_17, q12]
  have nf2 : fc_1 PRD (23, [18, 4], [0, 1, -1]) ws (vs ++ [n_v vs 0, Value.int y]) := by
    refine ⟨nf_inA hl rfl, sgq_7 ?_⟩
    · show 1 * v_iv (n_v (vs ++ [n_v vs 0, Value.int y]) 18) + ((-1) * v_iv (n_v (vs ++ [n_v vs 0, Value.int y]) 4) + 0) ≤ 0
      simp only [e_4, e_18]
      exact vc_Ho_draw_53_2 (v_iv (n_v vs 4)) (v_iv (Value.int y)) k4 ey2
  have nf3 : fc_1 PRD (23, [18, 4], [0, -1, 1]) ws (vs ++ [n_v vs 0, Value.int y]) := by
    refine ⟨nf_inA hl rfl, sgq_22 ?_⟩
    · show (-1) * v_iv (n_v (vs ++ [n_v vs 0, Value.int y]) 18) + (1 * v_iv (n_v (vs ++ [n_v vs 0, Value.int y]) 4) + 0) ≤ 0
      simp only [e_4, e_18]
      exact vc_Ho_draw_53_3 (v_iv (n_v vs 4)) (v_iv (Value.int y)) k4 ey2
  have nf4 : fc_1 PRD (20, [12], [60, 1, 1, 637, 0, 14]) ws (vs ++ [n_v vs 0, Value.int y]) := by
    refine ⟨nf_inA hl rfl, sgq_1792 ?_⟩
    · show SYG (w_fi ws (n_v (vs ++ [n_v vs 0, Value.int y]) 12) 0) (w_ei ws (w_ar ws (n_v (vs ++ [n_v vs 0, Value.int y]) 12) 14))
      simp only [e_12, q12]
      exact vc_Ho_draw_53_4 (w_fi ws (n_v vs 8) 0) (w_ei ws (w_ar ws (n_v vs 8) 14)) f7 kz_8_0
  have nf5 : fc_1 PRD (20, [14, 12, 13], [60, 3, 1, 644, 0, 1001, 2002, 16]) ws (vs ++ [n_v vs 0, Value.int y]) := by
    refine ⟨nf_inA hl rfl, sgq_2243 ?_⟩
    · show PLB (w_fi ws (n_v (vs ++ [n_v vs 0, Value.int y]) 14) 0) (w_fi ws (n_v (vs ++ [n_v vs 0, Value.int y]) 12) 1) (w_fi ws (n_v (vs ++ [n_v vs 0, Value.int y]) 13) 2) (w_ei ws (w_ar ws (n_v (vs ++ [n_v vs 0, Value.int y]) 14) 16))
      simp only [e_12, e_13, e_14, q12]
      exact vc_Ho_draw_53_5 (w_fi ws (n_v vs 8) 1) (w_fi ws (n_v vs 13) 2) (w_ei ws (w_ar ws (n_v vs 14) 16)) (w_fi ws (n_v vs 14) 0) f6 kz_8_1 kz_13_2 kz_14_0
  have nf6 : fc_1 PRD (20, [12, 13], [60, 3, 3, 673, 0, 1, 1002, 14, 7, 8]) ws (vs ++ [n_v vs 0, Value.int y]) := by
    refine ⟨nf_inA hl rfl, sgq_2131 ?_⟩
    · show BKS (w_fi ws (n_v (vs ++ [n_v vs 0, Value.int y]) 12) 0) (w_fi ws (n_v (vs ++ [n_v vs 0, Value.int y]) 12) 1) (w_fi ws (n_v (vs ++ [n_v vs 0, Value.int y]) 13) 2) (w_ei ws (w_ar ws (n_v (vs ++ [n_v vs 0, Value.int y]) 12) 14)) (w_ei ws (w_ar ws (n_v (vs ++ [n_v vs 0, Value.int y]) 12) 7)) (w_ei ws (w_ar ws (n_v (vs ++ [n_v vs 0, Value.int y]) 12) 8))
      simp only [e_12, e_13, q12]
      exact vc_Ho_draw_53_6 (w_fi ws (n_v vs 8) 0) (w_ei ws (w_ar ws (n_v vs 8) 7)) (w_ei ws (w_ar ws (n_v vs 8) 8)) (w_fi ws (n_v vs 8) 1) (w_ei ws (w_ar ws (n_v vs 8) 14)) (w_fi ws (n_v vs 13) 2) f5 kz_8_0 kz_8_1 kz_13_2
  have nf7 : fc_1 PRD (20, [12, 13], [60, 1, 2, 671, 0, 14, 1004]) ws (vs ++ [n_v vs 0, Value.int y]) := by
    refine ⟨nf_inA hl rfl, sgq_419 ?_⟩
    · show PNC (w_fi ws (n_v (vs ++ [n_v vs 0, Value.int y]) 12) 0) (w_ei ws (w_ar ws (n_v (vs ++ [n_v vs 0, Value.int y]) 12) 14)) (w_ei ws (w_ar ws (n_v (vs ++ [n_v vs 0, Value.int y]) 13) 4))
      simp only [e_12, e_13, q12]
      exact vc_Ho_draw_53_7 (w_fi ws (n_v vs 8) 0) (w_ei ws (w_ar ws (n_v vs 8) 14)) (w_ei ws (w_ar ws (n_v vs 13) 4)) f4 kz_8_0
  have nf8 : fc_1 PRD (20, [12, 13], [60, 2, 1, 672, 0, 1001, 1004]) ws (vs ++ [n_v vs 0, Value.int y]) := by
    refine ⟨nf_inA hl rfl, sgq_1179 ?_⟩
    · show FPA (w_fi ws (n_v (vs ++ [n_v vs 0, Value.int y]) 12) 0) (w_fi ws (n_v (vs ++ [n_v vs 0, Value.int y]) 13) 1) (w_ei ws (w_ar ws (n_v (vs ++ [n_v vs 0, Value.int y]) 13) 4))
      simp only [e_12, e_13, q12]
      exact vc_Ho_draw_53_8 (w_fi ws (n_v vs 8) 0) (w_ei ws (w_ar ws (n_v vs 13) 4)) (w_fi ws (n_v vs 13) 1) f3 kz_8_0 kz_13_1
  have nf9 : fc_1 PRD (20, [12], [60, 2, 3, 670, 0, 1, 14, 7, 8]) ws (vs ++ [n_v vs 0, Value.int y]) := by
    refine ⟨nf_inA hl rfl, sgq_825 ?_⟩
    · show GNB (w_fi ws (n_v (vs ++ [n_v vs 0, Value.int y]) 12) 0) (w_fi ws (n_v (vs ++ [n_v vs 0, Value.int y]) 12) 1) (w_ei ws (w_ar ws (n_v (vs ++ [n_v vs 0, Value.int y]) 12) 14)) (w_ei ws (w_ar ws (n_v (vs ++ [n_v vs 0, Value.int y]) 12) 7)) (w_ei ws (w_ar ws (n_v (vs ++ [n_v vs 0, Value.int y]) 12) 8))
      simp only [e_12, q12]
      exact vc_Ho_draw_53_9 (w_fi ws (n_v vs 8) 0) (w_ei ws (w_ar ws (n_v vs 8) 7)) (w_ei ws (w_ar ws (n_v vs 8) 8)) (w_fi ws (n_v vs 8) 1) (w_ei ws (w_ar ws (n_v vs 8) 14)) f2 kz_8_0 kz_8_1
  have nf10 : fc_1 PRD (20, [12], [60, 2, 2, 596, 0, 1, 7, 8]) ws (vs ++ [n_v vs 0, Value.int y]) := by
    refine ⟨nf_inA hl rfl, sgq_386 ?_⟩
    · show GKE (w_fi ws (n_v (vs ++ [n_v vs 0, Value.int y]) 12) 0) (w_fi ws (n_v (vs ++ [n_v vs 0, Value.int y]) 12) 1) (w_ei ws (w_ar ws (n_v (vs ++ [n_v vs 0, Value.int y]) 12) 7)) (w_ei ws (w_ar ws (n_v (vs ++ [n_v vs 0, Value.int y]) 12) 8))
      simp only [e_12, q12]
      exact vc_Ho_draw_53_10 (w_fi ws (n_v vs 8) 0) (w_ei ws (w_ar ws (n_v vs 8) 7)) (w_ei ws (w_ar ws (n_v vs 8) 8)) (w_fi ws (n_v vs 8) 1) f1 kz_8_0 kz_8_1
  have nf11 : fc_1 PRD (20, [17, 18, 16], [62, 2000000]) ws (vs ++ [n_v vs 0, Value.int y]) := by
    refine ⟨nf_inA hl rfl, sgq_1399 ?_⟩
    · show HY ws (n_v (vs ++ [n_v vs 0, Value.int y]) 17) (v_iv (n_v (vs ++ [n_v vs 0, Value.int y]) 18) + (((2000000 : Nat) : Int) - 2000000)) ∧ HYD ws (n_v (vs ++ [n_v vs 0, Value.int y]) 17) (n_v (vs ++ [n_v vs 0, Value.int y]) 16)
      simp only [e_16, e_17, e_18]
      exact ⟨hy_le f8.1 (by omega), f8.2⟩
  exact ⟨(fun _ h => (by cases h)), [n_v vs 0, Value.int y], ag_two t0 hy, List.forall_mem_cons.mpr ⟨⟨show (20 : Nat) < 100 from by decide, nf0⟩, List.forall_mem_cons.mpr ⟨⟨show (24 : Nat) < 100 from by decide, nf1⟩, List.forall_mem_cons.mpr ⟨⟨show (23 : Nat) < 100 from by decide, nf2⟩, List.forall_mem_cons.mpr ⟨⟨show (23 : Nat) < 100 from by decide, nf3⟩, List.forall_mem_cons.mpr ⟨⟨show (20 : Nat) < 100 from by decide, nf4⟩, List.forall_mem_cons.mpr ⟨⟨show (20 : Nat) < 100 from by decide, nf5⟩, List.forall_mem_cons.mpr ⟨⟨show (20 : Nat) < 100 from by decide, nf6⟩, List.forall_mem_cons.mpr ⟨⟨show (20 : Nat) < 100 from by decide, nf7⟩, List.forall_mem_cons.mpr ⟨⟨show (20 : Nat) < 100 from by decide, nf8⟩, List.forall_mem_cons.mpr ⟨⟨show (20 : Nat) < 100 from by decide, nf9⟩, List.forall_mem_cons.mpr ⟨⟨show (20 : Nat) < 100 from by decide, nf10⟩, List.forall_mem_cons.mpr ⟨⟨show (20 : Nat) < 100 from by decide, nf11⟩, (fun _ h => (by cases h))⟩⟩⟩⟩⟩⟩⟩⟩⟩⟩⟩⟩, (fun _ h => (by cases h))⟩
def o_Ho_draw_54 : or_T := (203, 20, [(0, (2, 0, 0, [12])), (4, (0, 0, 3066, [])), (8, (2, 0, 0, [3])), (9, (0, 1, 24, [])), (12, (2, 0, 0, [3])), (13, (2, 0, 0, [2])), (14, (2, 0, 0, [5])), (17, (2, 0, 0, [12])), (18, (0, 0, 3066, []))], [(9, [9, 8], [0]), (20, [12], [50, 1, 0, 0, 0, 2, 0, 1, 2, 0, 0]), (24, [0, 17], []), (23, [18, 4], [0, 1, -1]), (23, [18, 4], [0, -1, 1]), (20, [12], [60, 1, 1, 637, 0, 14]), (20, [14, 12, 13], [60, 3, 1, 644, 0, 1001, 2002, 16]), (20, [12, 13], [60, 3, 3, 673, 0, 1, 1002, 14, 7, 8]), (20, [12, 13], [60, 1, 2, 671, 0, 14, 1004]), (20, [12, 13], [60, 2, 1, 672, 0, 1001, 1004]), (20, [12], [60, 2, 3, 670, 0, 1, 14, 7, 8]), (20, [12], [60, 2, 2, 596, 0, 1, 7, 8]), (20, [12], [60, 2, 2, 596, 0, 1, 7, 8]), (20, [12], [60, 2, 3, 670, 0, 1, 14, 7, 8]), (20, [12, 13], [60, 2, 1, 672, 0, 1001, 1004]), (20, [12, 13], [60, 1, 2, 671, 0, 14, 1004]), (20, [12, 13], [60, 3, 3, 673, 0, 1, 1002, 14, 7, 8]), (20, [14, 12, 13], [60, 3, 1, 644, 0, 1001, 2002, 16]), (20, [12], [60, 1, 1, 637, 0, 14]), (24, [8, 12], []), (20, [8], [50, 1, 0, 0, 0, 2, 0, 1, 2, 0, 0]), (20, [13], [50, 1, 0, 0, 7, 3, 2, 0, 0, 0, 0]), (20, [14], [50, 1, 0, 0, 0, 2, 0, 0, 2, 0, 0]), (20, [17, 18], [62, 2000006]), (102, [18], [31766521725675121767675041100378181161416636632180585452153603028966503407635894593110016, 7003, 294005, 294006, 294013]), (23, [18, 4], [0, 1, -1]), (23, [18, 4], [0, -1, 1]), (102, [13], [712230049778071777201162559065590005831303168, 1000, 1005, 1006, 1007, 1015, 1016, 1017, 1018, 5000, 5002, 5003, 5005, 5006, 5013, 149005, 149006, 149013]), (102, [12], [281337537757184, 2000, 2001, 2002, 2003]), (8, [9], [1])], [], [], [(20, [0, 4], [62, 2000006])], [], [])
theorem oo_Ho_draw_54 {kA : Nat → ClassId} : or_ok PRD kA GG o_Ho_draw_54 := by
  refine or_mk fun A ta ws vs hD hth hl => ?_
  intro t0 r0 t4 k4 t8 r8 t9 k9 t12 r12 t13 r13 t14 r14 t17 r17 t18 k18 f0 f1 f2 f3 f4 f5 f6 f7 f8 f9 f10 f11 f12 f13 f14 f15 f16 f17 f18 f19 f20 f21 f22 f23 ta1 w1 le1 s1 f25 f26 ta2 w2 le2 s2 ta3 w3 le3 s3 f29
  replace f0 := shm_163 f0
  replace f1 := shm_1220 f1
  replace f2 := shm_5 f2
  replace f3 := shm_7 f3
  replace f4 := shm_22 f4
  replace f5 := shm_1792 f5
  replace f6 := shm_2243 f6
  replace f7 := shm_2131 f7
  replace f8 := shm_419 f8
  replace f9 := shm_1179 f9
  replace f10 := shm_825 f10
  replace f11 := shm_386 f11
  replace f12 := shm_386 f12
  replace f13 := shm_825 f13
  replace f14 := shm_1179 f14
  replace f15 := shm_419 f15
  replace f16 := shm_2131 f16
  replace f17 := shm_2243 f17
  replace f18 := shm_1792 f18
  replace f19 := shm_5 f19
  replace f20 := shm_1220 f20
  replace f21 := shm_2130 f21
  replace f22 := shm_1616 f22
  replace f23 := shm_270 f23
  replace f25 := shm_7 f25
  replace f26 := shm_22 f26
  replace f29 := shm_142 f29
  have q17 : n_v vs 17 = n_v vs 0 := f2.symm
  have q12 : n_v vs 12 = n_v vs 8 := f19.symm
  simp only [q12, q17] at f1 f5 f6 f7 f8 f9 f10 f11 f12 f13 f14 f15 f16 f17 f18 f23
  have cr_8_7 := fdq_46 hD hth r8
  have cr_8_8 := fdq_47 hD hth r8
  have cr_8_14 := fdq_75 hD hth r8
  have cr_13_4 := fdq_87 hD hth r13
  have cr_14_16 := fdq_91 hD hth r14
  have g0 : v_iv (n_v vs 9) = w_fi ws (n_v vs 8) 0 := congrArg v_iv f0
  have hK_8_7 := elq_11 hD hth cr_8_7
  have hK_8_8 := elq_12 hD hth cr_8_8
  have hK_8_14 := elq_25 hD hth cr_8_14
  have hK_13_4 := elq_29 hD hth cr_13_4
  have hK_14_16 := elq_47 hD hth cr_14_16
  have kz_8_0 := fdq_21 hD hth r8
  have kz_8_1 := fdq_30 hD hth r8
  have kz_13_0 := fdq_294 hD hth r13
  have kz_13_1 := fdq_278 hD hth r13
  have kz_13_2 := fdq_295 hD hth r13
  have kz_14_0 := fdq_78 hD hth r14
  have nf0 : fc_1 PRD (20, [0, 4], [62, 2000006]) ws (vs) := by
    refine ⟨nf_in hl rfl, sgq_270 ?_⟩
    · show HY ws (n_v vs 0) (v_iv (n_v vs 4) + (((2000006 : Nat) : Int) - 2000000))
      exact hy_le f23 (by omega)
  refine ⟨(fun _ h => (by cases h)), [], trivial, ?_, (fun _ h => (by cases h))⟩
  rw [List.append_nil]
  exact List.forall_mem_cons.mpr ⟨⟨show (20 : Nat) < 100 from by decide, nf0⟩, (fun _ h => (by cases h))⟩
def o_Ho_draw_55 : or_T := (203, 21, [(0, (2, 0, 0, [12])), (4, (0, 0, 3066, [])), (8, (2, 0, 0, [3])), (9, (0, 1, 24, [])), (12, (2, 0, 0, [3])), (13, (2, 0, 0, [2])), (14, (2, 0, 0, [5])), (17, (2, 0, 0, [12])), (18, (0, 0, 3066, [])), (20, (2, 0, 0, [0]))], [(9, [9, 8], [0]), (20, [12], [50, 1, 0, 0, 0, 2, 0, 1, 2, 0, 0]), (24, [0, 17], []), (23, [18, 4], [0, 1, -1]), (23, [18, 4], [0, -1, 1]), (20, [12], [60, 1, 1, 637, 0, 14]), (20, [14, 12, 13], [60, 3, 1, 644, 0, 1001, 2002, 16]), (20, [12, 13], [60, 3, 3, 673, 0, 1, 1002, 14, 7, 8]), (20, [12, 13], [60, 1, 2, 671, 0, 14, 1004]), (20, [12, 13], [60, 2, 1, 672, 0, 1001, 1004]), (20, [12], [60, 2, 3, 670, 0, 1, 14, 7, 8]), (20, [12], [60, 2, 2, 596, 0, 1, 7, 8]), (20, [12], [60, 2, 2, 596, 0, 1, 7, 8]), (20, [12], [60, 2, 3, 670, 0, 1, 14, 7, 8]), (20, [12, 13], [60, 2, 1, 672, 0, 1001, 1004]), (20, [12, 13], [60, 1, 2, 671, 0, 14, 1004]), (20, [12, 13], [60, 3, 3, 673, 0, 1, 1002, 14, 7, 8]), (20, [14, 12, 13], [60, 3, 1, 644, 0, 1001, 2002, 16]), (20, [12], [60, 1, 1, 637, 0, 14]), (24, [8, 12], []), (20, [8], [50, 1, 0, 0, 0, 2, 0, 1, 2, 0, 0]), (20, [13], [50, 1, 0, 0, 7, 3, 2, 0, 0, 0, 0]), (20, [14], [50, 1, 0, 0, 0, 2, 0, 0, 2, 0, 0]), (20, [17, 18], [62, 2000006]), (101, [20, 2], [1]), (20, [12], [50, 1, 0, 0, 0, 2, 0, 1, 2, 0, 0]), (23, [18, 4], [0, 1, -1]), (23, [18, 4], [0, -1, 1]), (20, [12], [60, 1, 1, 637, 0, 14]), (20, [14, 12, 13], [60, 3, 1, 644, 0, 1001, 2002, 16]), (20, [12, 13], [60, 3, 3, 673, 0, 1, 1002, 14, 7, 8]), (20, [12, 13], [60, 1, 2, 671, 0, 14, 1004]), (20, [12, 13], [60, 2, 1, 672, 0, 1001, 1004]), (20, [12], [60, 2, 3, 670, 0, 1, 14, 7, 8]), (20, [12], [60, 2, 2, 596, 0, 1, 7, 8]), (20, [12], [60, 2, 2, 596, 0, 1, 7, 8]), (20, [12], [60, 2, 3, 670, 0, 1, 14, 7, 8]), (20, [12, 13], [60, 2, 1, 672, 0, 1001, 1004]), (20, [12, 13], [60, 1, 2, 671, 0, 14, 1004]), (20, [12, 13], [60, 3, 3, 673, 0, 1, 1002, 14, 7, 8]), (20, [14, 12, 13], [60, 3, 1, 644, 0, 1001, 2002, 16]), (20, [12], [60, 1, 1, 637, 0, 14]), (20, [8], [50, 1, 0, 0, 0, 2, 0, 1, 2, 0, 0]), (20, [13], [50, 1, 0, 0, 7, 3, 2, 0, 0, 0, 0]), (20, [14], [50, 1, 0, 0, 0, 2, 0, 0, 2, 0, 0]), (102, [18], [31766521725675121767675041100378181161416636632180585452153603028966503407635894593110016, 7003, 294005, 294006, 294013]), (23, [18, 4], [0, 1, -1]), (23, [18, 4], [0, -1, 1]), (102, [13], [712230049778071777201162559065590005831303168, 1000, 1005, 1006, 1007, 1015, 1016, 1017, 1018, 5000, 5002, 5003, 5005, 5006, 5013, 149005, 149006, 149013]), (102, [12], [281337537757184, 2000, 2001, 2002, 2003]), (8, [9], [1])], [], [], [(20, [0, 4], [62, 2000006])], [], [])
theorem oo_Ho_draw_55 {kA : Nat → ClassId} : or_ok PRD kA GG o_Ho_draw_55 := by
  refine or_mk fun A ta ws vs hD hth hl => ?_
  intro t0 r0 t4 k4 t8 r8 t9 k9 t12 r12 t13 r13 t14 r14 t17 r17 t18 k18 t20 r20 f0 f1 f2 f3 f4 f5 f6 f7 f8 f9 f10 f11 f12 f13 f14 f15 f16 f17 f18 f19 f20 f21 f22 f23 ta1 w1 le1 s1 f25 f26 f27 f28 f29 f30 f31 f32 f33 f34 f35 f36 f37 f38 f39 f40 f41 f42 f43 f44 ta2 w2 le2 s2 f46 f47 ta3 w3 le3 s3 ta4 w4 le4 s4 f50
  replace f0 := shm_163 f0
  replace f1 := shm_1220 f1
  replace f2 := shm_5 f2
  replace f3 := shm_7 f3
  replace f4 := shm_22 f4
  replace f5 := shm_1792 f5
  replace f6 := shm_2243 f6
  replace f7 := shm_2131 f7
  replace f8 := shm_419 f8
  replace f9 := shm_1179 f9
  replace f10 := shm_825 f10
  replace f11 := shm_386 f11
  replace f12 := shm_386 f12
  replace f13 := shm_825 f13
  replace f14 := shm_1179 f14
  replace f15 := shm_419 f15
  replace f16 := shm_2131 f16
  replace f17 := shm_2243 f17
  replace f18 := shm_1792 f18
  replace f19 := shm_5 f19
  replace f20 := shm_1220 f20
  replace f21 := shm_2130 f21
  replace f22 := shm_1616 f22
  replace f23 := shm_270 f23
  have s1 : (∀ b j, w_el ws b j = w_el w1 b j) ∧ ∀ b j, w_fd ws b j = if b = v_ad (n_v vs 20) ∧ j = 1 then n_v vs 2 else w_fd w1 b j := s1.2
  replace f25 := shm_1220 f25
  replace f26 := shm_7 f26
  replace f27 := shm_22 f27
  replace f28 := shm_1792 f28
  replace f29 := shm_2243 f29
  replace f30 := shm_2131 f30
  replace f31 := shm_419 f31
  replace f32 := shm_1179 f32
  replace f33 := shm_825 f33
  replace f34 := shm_386 f34
  replace f35 := shm_386 f35
  replace f36 := shm_825 f36
  replace f37 := shm_1179 f37
  replace f38 := shm_419 f38
  replace f39 := shm_2131 f39
  replace f40 := shm_2243 f40
  replace f41 := shm_1792 f41
  replace f42 := shm_1220 f42
  replace f43 := shm_2130 f43
  replace f44 := shm_1616 f44
  replace f46 := shm_7 f46
  replace f47 := shm_22 f47
  replace f50 := shm_142 f50
  have q17 : n_v vs 17 = n_v vs 0 := f2.symm
  have q12 : n_v vs 12 = n_v vs 8 := f19.symm
  simp only [q12, q17] at f1 f5 f6 f7 f8 f9 f10 f11 f12 f13 f14 f15 f16 f17 f18 f23 f25 f28 f29 f30 f31 f32 f33 f34 f35 f36 f37 f38 f39 f40 f41
  have ar_8_7_1 : w_ar w1 (n_v vs 8) 7 = w_ar ws (n_v vs 8) 7 := by show v_ad (w_fd w1 _ _) = v_ad (w_fd ws _ _); rw [s1.2, if_neg (fun e => absurd e.2 (by decide))]
  have cr_8_7 := fdq_46 hD hth r8
  have ar_8_8_1 : w_ar w1 (n_v vs 8) 8 = w_ar ws (n_v vs 8) 8 := by show v_ad (w_fd w1 _ _) = v_ad (w_fd ws _ _); rw [s1.2, if_neg (fun e => absurd e.2 (by decide))]
  have cr_8_8 := fdq_47 hD hth r8
  have ar_8_14_1 : w_ar w1 (n_v vs 8) 14 = w_ar ws (n_v vs 8) 14 := by show v_ad (w_fd w1 _ _) = v_ad (w_fd ws _ _); rw [s1.2, if_neg (fun e => absurd e.2 (by decide))]
  have cr_8_14 := fdq_75 hD hth r8
  have ar_13_4_1 : w_ar w1 (n_v vs 13) 4 = w_ar ws (n_v vs 13) 4 := by show v_ad (w_fd w1 _ _) = v_ad (w_fd ws _ _); rw [s1.2, if_neg (fun e => absurd e.2 (by decide))]
  have cr_13_4 := fdq_87 hD hth r13
  have ar_14_16_1 : w_ar w1 (n_v vs 14) 16 = w_ar ws (n_v vs 14) 16 := by show v_ad (w_fd w1 _ _) = v_ad (w_fd ws _ _); rw [s1.2, if_neg (fun e => absurd e.2 (by decide))]
  have cr_14_16 := fdq_91 hD hth r14
  have g0 : v_iv (n_v vs 9) = w_fi ws (n_v vs 8) 0 := congrArg v_iv f0
  simp only [ar_8_14_1, ar_14_16_1, ar_8_7_1, ar_8_8_1, ar_13_4_1] at f28 f29 f30 f31 f32 f33 f34 f35 f36 f37 f38 f39 f40 f41
  have fe_8_0_1 : w_fi ws (n_v vs 8) 0 = w_fi w1 (n_v vs 8) 0 := by show v_iv (w_fd _ _ _) = v_iv (w_fd _ _ _); rw [s1.2, if_neg (fun e => absurd e.2 (by decide))]
  have fe_8_1_1 : w_fi ws (n_v vs 8) 1 = w_fi w1 (n_v vs 8) 1 := by show v_iv (w_fd _ _ _) = v_iv (w_fd _ _ _); rw [s1.2, if_neg (fun e => by have e1 := e.1; have e2 := r8; rw [e1, r20] at e2; exact absurd (Option.some.inj e2) (by decide))]
  have fe_13_0_1 : w_fi ws (n_v vs 13) 0 = w_fi w1 (n_v vs 13) 0 := by show v_iv (w_fd _ _ _) = v_iv (w_fd _ _ _); rw [s1.2, if_neg (fun e => absurd e.2 (by decide))]
  have fe_13_1_1 : w_fi ws (n_v vs 13) 1 = w_fi w1 (n_v vs 13) 1 := by show v_iv (w_fd _ _ _) = v_iv (w_fd _ _ _); rw [s1.2, if_neg (fun e => by have e1 := e.1; have e2 := r13; rw [e1, r20] at e2; exact absurd (Option.some.inj e2) (by decide))]
  have fe_13_2_1 : w_fi ws (n_v vs 13) 2 = w_fi w1 (n_v vs 13) 2 := by show v_iv (w_fd _ _ _) = v_iv (w_fd _ _ _); rw [s1.2, if_neg (fun e => absurd e.2 (by decide))]
  have fe_14_0_1 : w_fi ws (n_v vs 14) 0 = w_fi w1 (n_v vs 14) 0 := by show v_iv (w_fd _ _ _) = v_iv (w_fd _ _ _); rw [s1.2, if_neg (fun e => absurd e.2 (by decide))]
  have hE_8_7_1 : ∀ j : Int, w_ei ws (w_ar ws (n_v vs 8) 7) j = w_ei w1 (w_ar ws (n_v vs 8) 7) j := fun j => s1.1 _ _
  have hK_8_7 := elq_11 hD hth cr_8_7
  have hE_8_8_1 : ∀ j : Int, w_ei ws (w_ar ws (n_v vs 8) 8) j = w_ei w1 (w_ar ws (n_v vs 8) 8) j := fun j => s1.1 _ _
  have hK_8_8 := elq_12 hD hth cr_8_8
  have hE_8_14_1 : ∀ j : Int, w_ei ws (w_ar ws (n_v vs 8) 14) j = w_ei w1 (w_ar ws (n_v vs 8) 14) j := fun j => s1.1 _ _
  have hK_8_14 := elq_25 hD hth cr_8_14
  have hE_13_4_1 : ∀ j : Int, w_ei ws (w_ar ws (n_v vs 13) 4) j = w_ei w1 (w_ar ws (n_v vs 13) 4) j := fun j => s1.1 _ _
  have hK_13_4 := elq_29 hD hth cr_13_4
  have hE_14_16_1 : ∀ j : Int, w_ei ws (w_ar ws (n_v vs 14) 16) j = w_ei w1 (w_ar ws (n_v vs 14) 16) j := fun j => s1.1 _ _
  have hK_14_16 := elq_47 hD hth cr_14_16
  have kz_8_0 := fdq_21 hD hth r8
  have kz_8_1 := fdq_30 hD hth r8
  have kz_13_0 := fdq_294 hD hth r13
  have kz_13_1 := fdq_278 hD hth r13
  have kz_13_2 := fdq_295 hD hth r13
  have kz_14_0 := fdq_78 hD hth r14
  have nf0 : fc_1 PRD (20, [0, 4], [62, 2000006]) ws (vs) := by
    refine ⟨nf_in hl rfl, sgq_270 ?_⟩
    · show HY ws (n_v vs 0) (v_iv (n_v vs 4) + (((2000006 : Nat) : Int) - 2000000))
      exact hy_le f23 (by omega)
  refine ⟨(fun _ h => (by cases h)), [], trivial, ?_, (fun _ h => (by cases h))⟩
  rw [List.append_nil]
  exact List.forall_mem_cons.mpr ⟨⟨show (20 : Nat) < 100 from by decide, nf0⟩, (fun _ h => (by cases h))⟩
def o_Ho_draw_56 : or_T := (53, 12, [(0, (2, 0, 0, [12])), (11, (2, 0, 0, [4]))], [(101, [0, 11], [17]), (20, [11], [60, 0, 1, 648, 17])], [], [], [(20, [0], [62, 1000000])], [], [])
theorem oo_Ho_draw_56 {kA : Nat → ClassId} : or_ok PRD kA GG o_Ho_draw_56 := by
  refine or_mk fun A ta ws vs hD hth hl => ?_
  intro t0 r0 t11 r11 ta1 w1 le1 s1 f1
  have s1 : (∀ b j, w_el ws b j = w_el w1 b j) ∧ ∀ b j, w_fd ws b j = if b = v_ad (n_v vs 0) ∧ j = 17 then n_v vs 11 else w_fd w1 b j := s1.2
  replace f1 := shm_1096 f1
  have nf0 : fc_1 PRD (20, [0], [62, 1000000]) ws (vs) := by
    refine ⟨nf_in hl rfl, sgq_2315 ?_⟩
    · show HL ws (n_v vs 0)
      obtain ⟨av, _, ev, _⟩ := tv_ref t11 rfl
      exact hl_put (fun e => by have z := r11; rw [e, r0] at z; exact absurd (Option.some.inj z) (by decide)) ⟨av, ev⟩ f1 s1
  refine ⟨(fun _ h => (by cases h)), [], trivial, ?_, (fun _ h => (by cases h))⟩
  rw [List.append_nil]
  exact List.forall_mem_cons.mpr ⟨⟨show (20 : Nat) < 100 from by decide, nf0⟩, (fun _ h => (by cases h))⟩
def o_Ho_draw_57 : or_T := (63, 13, [(0, (2, 0, 0, [12])), (1, (0, 0, 3, [])), (7, (2, 0, 0, [131])), (8, (2, 0, 0, [3])), (12, (2, 0, 0, [3]))], [(14, [12, 7, 1], []), (9, [7, 0], [0]), (20, [0, 1, 8], [62, 71])], [], [], [(24, [8, 12], [])], [], [])
theorem oo_Ho_draw_57 {kA : Nat → ClassId} : or_ok PRD kA GG o_Ho_draw_57 := by
  refine or_mk fun A ta ws vs hD hth hl => ?_
  intro t0 r0 t1 k1 t7 r7 t8 r8 t12 r12 f0 f1 f2
  replace f0 := shm_793 f0
  replace f1 := shm_163 f1
  replace f2 := shm_1819 f2
  have nf0 : fc_1 PRD (24, [8, 12], []) ws (vs) := by
    refine ⟨nf_in hl rfl, sgq_5 ?_⟩
    · show n_v vs 8 = n_v vs 12
      exact ref_same t8 t12 rfl rfl ((wl_0 (wq_wl f2) (by decide)).trans (pO_of f1 f0).symm)
  refine ⟨(fun _ h => (by cases h)), [], trivial, ?_, (fun _ h => (by cases h))⟩
  rw [List.append_nil]
  exact List.forall_mem_cons.mpr ⟨⟨show (24 : Nat) < 100 from by decide, nf0⟩, (fun _ h => (by cases h))⟩
def o_Ho_draw_58 : or_T := (63, 13, [(0, (2, 0, 0, [12])), (1, (0, 0, 3, [])), (8, (2, 0, 0, [3])), (9, (0, 1, 24, [])), (11, (2, 0, 0, [4])), (12, (2, 0, 0, [3]))], [(9, [9, 8], [0]), (24, [8, 12], []), (20, [8], [50, 1, 0, 0, 0, 2, 0, 1, 2, 0, 0]), (20, [0, 1, 8], [62, 71]), (20, [11], [60, 0, 1, 648, 17]), (101, [0, 11], [17]), (102, [10], [509258994083621521567111422102344540262867098416484062659035112338633103872697133707558912, 299000, 299001, 299002, 299003, 299004, 299005, 299006, 299007, 299008, 299009, 299010, 299011, 299012, 299013, 299014, 299015, 299016, 299017, 299018, 299019, 299020, 300000, 300001, 300002, 300003, 300004, 300005, 300006, 300007, 300008]), (8, [9], [1])], [], [], [(20, [0, 1, 12], [62, 71])], [], [])
theorem oo_Ho_draw_58 {kA : Nat → ClassId} : or_ok PRD kA GG o_Ho_draw_58 := by
  refine or_mk fun A ta ws vs hD hth hl => ?_
  intro t0 r0 t1 k1 t8 r8 t9 k9 t11 r11 t12 r12 f0 f1 f2 f3 f4 ta1 w1 le1 s1 ta2 w2 le2 s2 f7
  replace f1 := shm_5 f1
  replace f3 := shm_1819 f3
  have q12 : n_v vs 12 = n_v vs 8 := f1.symm
  have nf0 : fc_1 PRD (20, [0, 1, 12], [62, 71]) ws (vs) := by
    refine ⟨nf_in hl rfl, sgq_1819 ?_⟩
    · show WQF 71 [n_v vs 0, n_v vs 1, n_v vs 12] ws
      first | rw [q12] | skip
      have zw := f3
      first | rw [show n_v vs 8 = n_v vs 12 from (by first | exact f1 | exact f1.symm)] at zw | skip
      first | exact zw | ((first | rw [q12] at zw | skip); exact zw)
  refine ⟨(fun _ h => (by cases h)), [], trivial, ?_, (fun _ h => (by cases h))⟩
  rw [List.append_nil]
  exact List.forall_mem_cons.mpr ⟨⟨show (20 : Nat) < 100 from by decide, nf0⟩, (fun _ h => (by cases h))⟩
def o_Ho_draw_59 : or_T := (68, 14, [(0, (2, 0, 0, [12]))], [(20, [0], [62, 0]), (102, [12], [281337537757184, 2000, 2001, 2002, 2003]), (20, [0, 1, 12], [62, 71])], [], [], [(20, [0, 1, 12], [62, 71])], [], [])
theorem oo_Ho_draw_59 {kA : Nat → ClassId} : or_ok PRD kA GG o_Ho_draw_59 := by
  refine or_mk fun A ta ws vs hD hth hl => ?_
  intro t0 r0 f0 ta1 w1 le1 s1 f2
  replace f0 := shm_1176 f0
  replace s1 := s1.2
  replace f2 := shm_1819 f2
  have nf0 : fc_1 PRD (20, [0, 1, 12], [62, 71]) ws (vs) := by
    refine ⟨nf_in hl rfl, sgq_1819 ?_⟩
    · show WQF 71 [n_v vs 0, n_v vs 1, n_v vs 12] ws
      obtain ⟨aH, _, eH, _⟩ := tv_ref t0 rfl
      have hH0 := s1.2.2.1 12 List.mem_cons_self 0 (by decide) aH eH
      exact wq_step f0 (hd_call hD hth (by decide +kernel) le1 r0 (by rw [eH]; exact hH0) s1 (by decide +kernel)) f2 (by decide)
  refine ⟨(fun _ h => (by cases h)), [], trivial, ?_, (fun _ h => (by cases h))⟩
  rw [List.append_nil]
  exact List.forall_mem_cons.mpr ⟨⟨show (20 : Nat) < 100 from by decide, nf0⟩, (fun _ h => (by cases h))⟩
def o_Ho_draw_60 : or_T := (74, 16, [(0, (2, 0, 0, [12])), (1, (0, 0, 3, [])), (12, (2, 0, 0, [3]))], [(20, [0, 1, 12], [62, 71])], [], [], [(20, [12], [60, 2, 2, 596, 0, 1, 7, 8])], [], [])
theorem oo_Ho_draw_60 {kA : Nat → ClassId} : or_ok PRD kA GG o_Ho_draw_60 := by
  refine or_mk fun A ta ws vs hD hth hl => ?_
  intro t0 r0 t1 k1 t12 r12 f0
  replace f0 := shm_1819 f0
  have nf0 : fc_1 PRD (20, [12], [60, 2, 2, 596, 0, 1, 7, 8]) ws (vs) := by
    refine ⟨nf_in hl rfl, sgq_386 ?_⟩
    · show GKE (w_fi ws (n_v vs 12) 0) (w_fi ws (n_v vs 12) 1) (w_ei ws (w_ar ws (n_v vs 12) 7)) (w_ei ws (w_ar ws (n_v vs 12) 8))
      exact hg_gke (wq_hg f0 (by decide) (wl_0 (wq_wl (k := 71) f0) (by decide)))
  refine ⟨(fun _ h => (by cases h)), [], trivial, ?_, (fun _ h => (by cases h))⟩
  rw [List.append_nil]
  exact List.forall_mem_cons.mpr ⟨⟨show (20 : Nat) < 100 from by decide, nf0⟩, (fun _ h => (by cases h))⟩
def o_Ho_draw_61 : or_T := (74, 16, [(0, (2, 0, 0, [12])), (1, (0, 0, 3, [])), (12, (2, 0, 0, [3])), (13, (2, 0, 0, [2]))], [(20, [0, 1, 12], [62, 71]), (20, [0, 1, 13], [62, 135]), (20, [13], [50, 1, 0, 0, 7, 3, 2, 0, 0, 0, 0])], [], [], [(20, [12, 13], [60, 1, 3, 658, 1, 7, 8, 1009])], [], [])
theorem oo_Ho_draw_61 {kA : Nat → ClassId} : or_ok PRD kA GG o_Ho_draw_61 := by
  refine or_mk fun A ta ws vs hD hth hl => ?_
  intro t0 r0 t1 k1 t12 r12 t13 r13 f0 f1 f2
  replace f0 := shm_1819 f0
  replace f1 := shm_2132 f1
  replace f2 := shm_2130 f2
  have nf0 : fc_1 PRD (20, [12, 13], [60, 1, 3, 658, 1, 7, 8, 1009]) ws (vs) := by
    refine ⟨nf_in hl rfl, sgq_1906 ?_⟩
    · show TPO (w_fi ws (n_v vs 12) 1) (w_ei ws (w_ar ws (n_v vs 12) 7)) (w_ei ws (w_ar ws (n_v vs 12) 8)) (w_ei ws (w_ar ws (n_v vs 13) 9))
      exact (hf_all (wq_hf f0 (by decide) (wl_0 (wq_wl (k := 71) f0) (by decide)) (wl_0 (wq_wl (k := 135) f1) (by decide))) (show w_fi ws (n_v vs 13) 0 ≠ 0 from f2)).2.2.1
  refine ⟨(fun _ h => (by cases h)), [], trivial, ?_, (fun _ h => (by cases h))⟩
  rw [List.append_nil]
  exact List.forall_mem_cons.mpr ⟨⟨show (20 : Nat) < 100 from by decide, nf0⟩, (fun _ h => (by cases h))⟩
set_option maxHeartbeats 4000000 in
theorem vc_Ho_draw_62_0 (nodes_0o8 : Int) (f4 : 1 ≤ nodes_0o8) (kz_8_0 : 0 ≤ nodes_0o8 ∧ nodes_0o8 ≤ 24) : 1 ≤ nodes_0o8 := by
  first | omega
set_option maxHeartbeats 4000000 in
theorem vc_Ho_draw_62_2 (x4 : Int) (gy : Int) (k4 : 0 ≤ x4 ∧ x4 ≤ 3066) (ey2 : gy = x4) : 1 * gy + ((-1) * x4 + 0) ≤ 0 := by
  first | omega
set_option maxHeartbeats 4000000 in
theorem vc_Ho_draw_62_3 (x4 : Int) (gy : Int) (k4 : 0 ≤ x4 ∧ x4 ≤ 3066) (ey2 : gy = x4) : (-1) * gy + (1 * x4 + 0) ≤ 0 := by
  first | omega
set_option maxHeartbeats 4000000 in
theorem vc_Ho_draw_62_4 (nodes_0o8 : Int) (tail_0o8 : Int → Int) (head_0o8 : Int → Int) (edges_0o8 : Int) (f2 : GKE (nodes_0o8) (edges_0o8) (tail_0o8) (head_0o8)) (kz_8_0 : 0 ≤ nodes_0o8 ∧ nodes_0o8 ≤ 24) (kz_8_1 : 0 ≤ edges_0o8 ∧ edges_0o8 ≤ 48) : GKE (nodes_0o8) (edges_0o8) (tail_0o8) (head_0o8) := by
  first | assumption
set_option maxHeartbeats 4000000 in
theorem vc_Ho_draw_62_5 (tail_0o8 : Int → Int) (head_0o8 : Int → Int) (turned_0o13 : Int → Int) (edges_0o8 : Int) (f1 : TPO (edges_0o8) (tail_0o8) (head_0o8) (turned_0o13)) (kz_8_1 : 0 ≤ edges_0o8 ∧ edges_0o8 ≤ 48) : TPO (edges_0o8) (tail_0o8) (head_0o8) (turned_0o13) := by
  first | assumption
set_option maxHeartbeats 4000000 in
theorem vc_Ho_draw_62_6 (nodes_0o8 : Int) (f4 : 1 ≤ nodes_0o8) (kz_8_0 : 0 ≤ nodes_0o8 ∧ nodes_0o8 ≤ 24) : 1 ≤ nodes_0o8 := by
  first | omega
set_option maxHeartbeats 4000000 in
theorem vc_Ho_draw_62_7 (orders_0o11 : Int → Int) (f6 : ORD (orders_0o11)) : ORD (orders_0o11) := by
  first | assumption
def o_Ho_draw_62 : or_T := (74, 16, [(0, (2, 0, 0, [12])), (4, (0, 0, 3066, [])), (8, (2, 0, 0, [3])), (9, (0, 1, 24, [])), (11, (2, 0, 0, [4])), (12, (2, 0, 0, [3])), (13, (2, 0, 0, [2]))], [(9, [9, 8], [0]), (20, [12, 13], [60, 1, 3, 658, 1, 7, 8, 1009]), (20, [12], [60, 2, 2, 596, 0, 1, 7, 8]), (24, [8, 12], []), (20, [8], [50, 1, 0, 0, 0, 2, 0, 1, 2, 0, 0]), (20, [0, 4], [62, 2000000]), (20, [11], [60, 0, 1, 648, 17]), (20, [13], [50, 1, 0, 0, 7, 3, 2, 0, 0, 0, 0]), (102, [12], [281337537757184, 2000, 2001, 2002, 2003]), (101, [0, 11], [17]), (102, [10], [509258994083621521567111422102344540262867098416484062659035112338633103872697133707558912, 299000, 299001, 299002, 299003, 299004, 299005, 299006, 299007, 299008, 299009, 299010, 299011, 299012, 299013, 299014, 299015, 299016, 299017, 299018, 299019, 299020, 300000, 300001, 300002, 300003, 300004, 300005, 300006, 300007, 300008]), (8, [9], [1])], [], [(2, 0, 0, [12]), (0, 0, 3072, [])], [(20, [12], [50, 1, 0, 0, 0, 2, 0, 1, 2, 0, 0]), (24, [0, 16], []), (23, [17, 4], [0, 1, -1]), (23, [17, 4], [0, -1, 1]), (20, [12], [60, 2, 2, 596, 0, 1, 7, 8]), (20, [12, 13], [60, 1, 3, 658, 1, 7, 8, 1009]), (20, [12], [50, 1, 0, 0, 0, 2, 0, 1, 2, 0, 0]), (20, [11], [60, 0, 1, 648, 17]), (20, [16, 17], [62, 2000000])], [], [])
theorem oo_Ho_draw_62 {kA : Nat → ClassId} : or_ok PRD kA GG o_Ho_draw_62 := by
  refine or_mk fun A ta ws vs hD hth hl => ?_
  intro t0 r0 t4 k4 t8 r8 t9 k9 t11 r11 t12 r12 t13 r13 f0 f1 f2 f3 f4 f5 f6 f7 ta1 w1 le1 s1 ta2 w2 le2 s2 ta3 w3 le3 s3 f11
  replace f0 := shm_163 f0
  replace f1 := shm_1906 f1
  replace f2 := shm_386 f2
  replace f3 := shm_5 f3
  replace f4 := shm_1220 f4
  replace f5 := shm_161 f5
  replace f6 := shm_1096 f6
  replace f7 := shm_2130 f7
  have s2 : (∀ b j, w_el w1 b j = w_el w2 b j) ∧ ∀ b j, w_fd w1 b j = if b = v_ad (n_v vs 0) ∧ j = 17 then n_v vs 11 else w_fd w2 b j := s2.2
  replace f11 := shm_142 f11
  have q12 : n_v vs 12 = n_v vs 8 := f3.symm
  simp only [q12] at f1 f2
  have cr_8_7 := fdq_46 hD hth r8
  have cr_8_8 := fdq_47 hD hth r8
  have cr_11_17 := fdq_251 hD hth r11
  have cr_13_9 := fdq_76 hD hth r13
  have g0 : v_iv (n_v vs 9) = w_fi ws (n_v vs 8) 0 := congrArg v_iv f0
  have hK_8_7 := elq_11 hD hth cr_8_7
  have hK_8_8 := elq_12 hD hth cr_8_8
  have hK_11_17 := elq_158 hD hth cr_11_17
  have hK_13_9 := elq_38 hD hth cr_13_9
  have kz_8_0 := fdq_21 hD hth r8
  have kz_8_1 := fdq_30 hD hth r8
  have kz_13_0 := fdq_294 hD hth r13
  obtain ⟨y, ey, hy⟩ := iv_ex (ta := ta) (lo := 0) (hi := 3072) (z := v_iv (n_v vs 4)) (by omega) (by omega) (by omega) (by omega)
  have ey2 : v_iv (Value.int y) = v_iv (n_v vs 4) := ey
  have ey3 : 0 ≤ v_iv (Value.int y) ∧ v_iv (Value.int y) ≤ 3072 := tv_rng hy
  have e_0 : n_v (vs ++ [n_v vs 0, Value.int y]) 0 = n_v vs 0 := n_v_old (by rw [hl]; decide)
  have e_4 : n_v (vs ++ [n_v vs 0, Value.int y]) 4 = n_v vs 4 := n_v_old (by rw [hl]; decide)
  have e_11 : n_v (vs ++ [n_v vs 0, Value.int y]) 11 = n_v vs 11 := n_v_old (by rw [hl]; decide)
  have e_12 : n_v (vs ++ [n_v vs 0, Value.int y]) 12 = n_v vs 12 := n_v_old (by rw [hl]; decide)
  have e_13 : n_v (vs ++ [n_v vs 0, Value.int y]) 13 = n_v vs 13 := n_v_old (by rw [hl]; decide)
  have e_16 : n_v (vs ++ [n_v vs 0, Value.int y]) 16 = n_v vs 0 := n_v_new0 hl
  have e_17 : n_v (vs ++ [n_v vs 0, Value.int y]) 17 = Value.int y := n_v_new1 hl
  have nf0 : fc_1 PRD (20, [12], [50, 1, 0, 0, 0, 2, 0, 1, 2, 0, 0]) ws (vs ++ [n_v vs 0, Value.int y]) := by
    refine ⟨nf_inA hl rfl, sgq_1220 ?_⟩
    · show 1 ≤ w_fi ws (n_v (vs ++ [n_v vs 0, Value.int y]) 12) 0
      simp only [e_12, q12]
      exact vc_Ho_draw_62_0 (w_fi ws (n_v vs 8) 0) f4 kz_8_0
  have nf1 : fc_1 PRD (24, [0, 16], []) ws (vs ++ [n_v vs 0, Value.int y]) := by
    refine ⟨nf_inA hl rfl, sgq_5 ?_⟩
    · show n_v (vs ++ [n_v vs 0, Value.int y]) 0 = n_v (vs ++ [n_v vs 0, Value.int y]) 16
      first | rfl | simp only [e_0, e_16, q12]
  have nf2 : fc_1 PRD (23, [17, 4], [0, 1, -1]) ws (vs ++ [n_v vs 0, Value.int y]) := by
    refine ⟨nf_inA hl rfl, sgq_7 ?_⟩
    · show 1 * v_iv (n_v (vs ++ [n_v vs 0, Value.int y]) 17) + ((-1) * v_iv (n_v (vs ++ [n_v vs 0, Value.int y]) 4) + 0) ≤ 0
      simp only [e_4, e_17]
      exact vc_Ho_draw_62_2 (v_iv (n_v vs 4)) (v_iv (Value.int y)) k4 ey2
  have nf3 : fc_1 PRD (23, [17, 4], [0, -1, 1]) ws (vs ++ [n_v vs 0, Value.int y]) := by
    refine ⟨nf_inA hl rfl, sgq_22 ?_⟩
    · show (-1) * v_iv (n_v (vs ++ [n_v vs 0, Value.int y]) 17) + (1 * v_iv (n_v (vs ++ [n_v vs 0, Value.int y]) 4) + 0) ≤ 0
      simp only [e_4, e_17]
      exact vc_Ho_draw_62_3 (v_iv (n_v vs 4)) (v_iv (Value.int y)) k4 ey2
  have nf4 : fc_1 PRD (20, [12], [60, 2, 2, 596, 0, 1, 7, 8]) ws (vs ++ [n_v vs 0, Value.int y]) := by
    refine ⟨nf_inA hl rfl, sgq_386 ?_⟩
    · show GKE (w_fi ws (n_v (vs ++ [n_v vs 0, Value.int y]) 12) 0) (w_fi ws (n_v (vs ++ [n_v vs 0, Value.int y]) 12) 1) (w_ei ws (w_ar ws (n_v (vs ++ [n_v vs 0, Value.int y]) 12) 7)) (w_ei ws (w_ar ws (n_v (vs ++ [n_v vs 0, Value.int y]) 12) 8))
      simp only [e_12, q12]
      exact vc_Ho_draw_62_4 (w_fi ws (n_v vs 8) 0) (w_ei ws (w_ar ws (n_v vs 8) 7)) (w_ei ws (w_ar ws (n_v vs 8) 8)) (w_fi ws (n_v vs 8) 1) f2 kz_8_0 kz_8_1
  have nf5 : fc_1 PRD (20, [12, 13], [60, 1, 3, 658, 1, 7, 8, 1009]) ws (vs ++ [n_v vs 0, Value.int y]) := by
    refine ⟨nf_inA hl rfl, sgq_1906 ?_⟩
    · show TPO (w_fi ws (n_v (vs ++ [n_v vs 0, Value.int y]) 12) 1) (w_ei ws (w_ar ws (n_v (vs ++ [n_v vs 0, Value.int y]) 12) 7)) (w_ei ws (w_ar ws (n_v (vs ++ [n_v vs 0, Value.int y]) 12) 8)) (w_ei ws (w_ar ws (n_v (vs ++ [n_v vs 0, Value.int y]) 13) 9))
      simp only [e_12, e_13, q12]
      exact vc_Ho_draw_62_5 (w_ei ws (w_ar ws (n_v vs 8) 7)) (w_ei ws (w_ar ws (n_v vs 8) 8)) (w_ei ws (w_ar ws (n_v vs 13) 9)) (w_fi ws (n_v vs 8) 1) f1 kz_8_1
  have nf6 : fc_1 PRD (20, [12], [50, 1, 0, 0, 0, 2, 0, 1, 2, 0, 0]) ws (vs ++ [n_v vs 0, Value.int y]) := by
    refine ⟨nf_inA hl rfl, sgq_1220 ?_⟩
    · show 1 ≤ w_fi ws (n_v (vs ++ [n_v vs 0, Value.int y]) 12) 0
      simp only [e_12, q12]
      exact vc_Ho_draw_62_6 (w_fi ws (n_v vs 8) 0) f4 kz_8_0
  have nf7 : fc_1 PRD (20, [11], [60, 0, 1, 648, 17]) ws (vs ++ [n_v vs 0, Value.int y]) := by
    refine ⟨nf_inA hl rfl, sgq_1096 ?_⟩
    · show ORD (w_ei ws (w_ar ws (n_v (vs ++ [n_v vs 0, Value.int y]) 11) 17))
      rw [e_11]
      exact vc_Ho_draw_62_7 (w_ei ws (w_ar ws (n_v vs 11) 17)) f6
  have nf8 : fc_1 PRD (20, [16, 17], [62, 2000000]) ws (vs ++ [n_v vs 0, Value.int y]) := by
    refine ⟨nf_inA hl rfl, sgq_161 ?_⟩
    · show HY ws (n_v (vs ++ [n_v vs 0, Value.int y]) 16) (v_iv (n_v (vs ++ [n_v vs 0, Value.int y]) 17) + (((2000000 : Nat) : Int) - 2000000))
      simp only [e_16, e_17]
      exact hy_le f5 (by omega)
  exact ⟨(fun _ h => (by cases h)), [n_v vs 0, Value.int y], ag_two t0 hy, List.forall_mem_cons.mpr ⟨⟨show (20 : Nat) < 100 from by decide, nf0⟩, List.forall_mem_cons.mpr ⟨⟨show (24 : Nat) < 100 from by decide, nf1⟩, List.forall_mem_cons.mpr ⟨⟨show (23 : Nat) < 100 from by decide, nf2⟩, List.forall_mem_cons.mpr ⟨⟨show (23 : Nat) < 100 from by decide, nf3⟩, List.forall_mem_cons.mpr ⟨⟨show (20 : Nat) < 100 from by decide, nf4⟩, List.forall_mem_cons.mpr ⟨⟨show (20 : Nat) < 100 from by decide, nf5⟩, List.forall_mem_cons.mpr ⟨⟨show (20 : Nat) < 100 from by decide, nf6⟩, List.forall_mem_cons.mpr ⟨⟨show (20 : Nat) < 100 from by decide, nf7⟩, List.forall_mem_cons.mpr ⟨⟨show (20 : Nat) < 100 from by decide, nf8⟩, (fun _ h => (by cases h))⟩⟩⟩⟩⟩⟩⟩⟩⟩, (fun _ h => (by cases h))⟩

def o_Ho_draw_63 : or_T := (203, 21, [(0, (2, 0, 0, [12])), (4, (0, 0, 3066, [])), (8, (2, 0, 0, [3])), (9, (0, 1, 24, [])), (11, (2, 0, 0, [4])), (12, (2, 0, 0, [3])), (13, (2, 0, 0, [2])), (16, (2, 0, 0, [12])), (17, (0, 0, 3072, [])), (20, (2, 0, 0, [0]))], [(9, [9, 8], [0]), (20, [12], [50, 1, 0, 0, 0, 2, 0, 1, 2, 0, 0]), (24, [0, 16], []), (23, [17, 4], [0, 1, -1]), (23, [17, 4], [0, -1, 1]), (20, [12], [60, 2, 2, 596, 0, 1, 7, 8]), (20, [12, 13], [60, 1, 3, 658, 1, 7, 8, 1009]), (20, [12], [50, 1, 0, 0, 0, 2, 0, 1, 2, 0, 0]), (20, [11], [60, 0, 1, 648, 17]), (20, [12, 13], [60, 1, 3, 658, 1, 7, 8, 1009]), (20, [12], [60, 2, 2, 596, 0, 1, 7, 8]), (24, [8, 12], []), (20, [8], [50, 1, 0, 0, 0, 2, 0, 1, 2, 0, 0]), (20, [11], [60, 0, 1, 648, 17]), (20, [13], [50, 1, 0, 0, 7, 3, 2, 0, 0, 0, 0]), (20, [16, 17], [62, 2000000]), (101, [20, 2], [1]), (20, [12], [50, 1, 0, 0, 0, 2, 0, 1, 2, 0, 0]), (23, [17, 4], [0, 1, -1]), (23, [17, 4], [0, -1, 1]), (20, [12], [60, 2, 2, 596, 0, 1, 7, 8]), (20, [12, 13], [60, 1, 3, 658, 1, 7, 8, 1009]), (20, [12], [50, 1, 0, 0, 0, 2, 0, 1, 2, 0, 0]), (20, [11], [60, 0, 1, 648, 17]), (20, [12, 13], [60, 1, 3, 658, 1, 7, 8, 1009]), (20, [12], [60, 2, 2, 596, 0, 1, 7, 8]), (20, [8], [50, 1, 0, 0, 0, 2, 0, 1, 2, 0, 0]), (20, [11], [60, 0, 1, 648, 17]), (20, [13], [50, 1, 0, 0, 7, 3, 2, 0, 0, 0, 0]), (102, [17], [42202988866171645644062132502901276672, 7, 8, 4001, 4002, 4003, 10000, 10001]), (23, [17, 4], [0, 1, -1]), (23, [17, 4], [0, -1, 1]), (102, [12], [281337537757184, 2000, 2001, 2002, 2003]), (101, [0, 11], [17]), (102, [10], [509258994083621521567111422102344540262867098416484062659035112338633103872697133707558912, 299000, 299001, 299002, 299003, 299004, 299005, 299006, 299007, 299008, 299009, 299010, 299011, 299012, 299013, 299014, 299015, 299016, 299017, 299018, 299019, 299020, 300000, 300001, 300002, 300003, 300004, 300005, 300006, 300007, 300008]), (8, [9], [1])], [], [], [(20, [0, 4], [62, 2000006])], [], [])
theorem oo_Ho_draw_63 {kA : Nat → ClassId} : or_ok PRD kA GG o_Ho_draw_63 := by
  refine or_mk fun A ta ws vs hD hth hl => ?_
  intro t0 r0 t4 k4 t8 r8 t9 k9 t11 r11 t12 r12 t13 r13 t16 r16 t17 k17 t20 r20 f0 f1 f2 f3 f4 f5 f6 f7 f8 f9 f10 f11 f12 f13 f14 f15 ta1 w1 le1 s1 f17 f18 f19 f20 f21 f22 f23 f24 f25 f26 f27 f28 ta2 w2 le2 s2 f30 f31 ta3 w3 le3 s3 ta4 w4 le4 s4 ta5 w5 le5 s5 f35
  replace f0 := shm_163 f0
  replace f1 := shm_1220 f1
  replace f2 := shm_5 f2
  replace f3 := shm_7 f3
  replace f4 := shm_22 f4
  replace f5 := shm_386 f5
  replace f6 := shm_1906 f6
  replace f7 := shm_1220 f7
  replace f8 := shm_1096 f8
  replace f9 := shm_1906 f9
  replace f10 := shm_386 f10
  replace f11 := shm_5 f11
  replace f12 := shm_1220 f12
  replace f13 := shm_1096 f13
  replace f14 := shm_2130 f14
  replace f15 := shm_161 f15
  have s1 : (∀ b j, w_el ws b j = w_el w1 b j) ∧ ∀ b j, w_fd ws b j = if b = v_ad (n_v vs 20) ∧ j = 1 then n_v vs 2 else w_fd w1 b j := s1.2
  replace f17 := shm_1220 f17
  replace f18 := shm_7 f18
  replace f19 := shm_22 f19
  replace f20 := shm_386 f20
  replace f21 := shm_1906 f21
  replace f22 := shm_1220 f22
  replace f23 := shm_1096 f23
  replace f24 := shm_1906 f24
  replace f25 := shm_386 f25
  replace f26 := shm_1220 f26
  replace f27 := shm_1096 f27
  replace f28 := shm_2130 f28
  replace f30 := shm_7 f30
  replace f31 := shm_22 f31
  have s4 : (∀ b j, w_el w3 b j = w_el w4 b j) ∧ ∀ b j, w_fd w3 b j = if b = v_ad (n_v vs 0) ∧ j = 17 then n_v vs 11 else w_fd w4 b j := s4.2
  replace f35 := shm_142 f35
  have q16 : n_v vs 16 = n_v vs 0 := f2.symm
  have q12 : n_v vs 12 = n_v vs 8 := f11.symm
  simp only [q12, q16] at f1 f5 f6 f7 f9 f10 f15 f17 f20 f21 f22 f24 f25
  have ar_8_7_1 : w_ar w1 (n_v vs 8) 7 = w_ar ws (n_v vs 8) 7 := by show v_ad (w_fd w1 _ _) = v_ad (w_fd ws _ _); rw [s1.2, if_neg (fun e => absurd e.2 (by decide))]
  have cr_8_7 := fdq_46 hD hth r8
  have ar_8_8_1 : w_ar w1 (n_v vs 8) 8 = w_ar ws (n_v vs 8) 8 := by show v_ad (w_fd w1 _ _) = v_ad (w_fd ws _ _); rw [s1.2, if_neg (fun e => absurd e.2 (by decide))]
  have cr_8_8 := fdq_47 hD hth r8
  have ar_11_17_1 : w_ar w1 (n_v vs 11) 17 = w_ar ws (n_v vs 11) 17 := by show v_ad (w_fd w1 _ _) = v_ad (w_fd ws _ _); rw [s1.2, if_neg (fun e => absurd e.2 (by decide))]
  have cr_11_17 := fdq_251 hD hth r11
  have ar_13_9_1 : w_ar w1 (n_v vs 13) 9 = w_ar ws (n_v vs 13) 9 := by show v_ad (w_fd w1 _ _) = v_ad (w_fd ws _ _); rw [s1.2, if_neg (fun e => absurd e.2 (by decide))]
  have cr_13_9 := fdq_76 hD hth r13
  have g0 : v_iv (n_v vs 9) = w_fi ws (n_v vs 8) 0 := congrArg v_iv f0
  simp only [ar_8_7_1, ar_8_8_1, ar_13_9_1, ar_11_17_1] at f20 f21 f23 f24 f25 f27
  have fe_8_0_1 : w_fi ws (n_v vs 8) 0 = w_fi w1 (n_v vs 8) 0 := by show v_iv (w_fd _ _ _) = v_iv (w_fd _ _ _); rw [s1.2, if_neg (fun e => absurd e.2 (by decide))]
  have fe_8_1_1 : w_fi ws (n_v vs 8) 1 = w_fi w1 (n_v vs 8) 1 := by show v_iv (w_fd _ _ _) = v_iv (w_fd _ _ _); rw [s1.2, if_neg (fun e => by have e1 := e.1; have e2 := r8; rw [e1, r20] at e2; exact absurd (Option.some.inj e2) (by decide))]
  have fe_13_0_1 : w_fi ws (n_v vs 13) 0 = w_fi w1 (n_v vs 13) 0 := by show v_iv (w_fd _ _ _) = v_iv (w_fd _ _ _); rw [s1.2, if_neg (fun e => absurd e.2 (by decide))]
  have hE_8_7_1 : ∀ j : Int, w_ei ws (w_ar ws (n_v vs 8) 7) j = w_ei w1 (w_ar ws (n_v vs 8) 7) j := fun j => s1.1 _ _
  have hK_8_7 := elq_11 hD hth cr_8_7
  have hE_8_8_1 : ∀ j : Int, w_ei ws (w_ar ws (n_v vs 8) 8) j = w_ei w1 (w_ar ws (n_v vs 8) 8) j := fun j => s1.1 _ _
  have hK_8_8 := elq_12 hD hth cr_8_8
  have hE_11_17_1 : ∀ j : Int, w_ei ws (w_ar ws (n_v vs 11) 17) j = w_ei w1 (w_ar ws (n_v vs 11) 17) j := fun j => s1.1 _ _
  have hK_11_17 := elq_158 hD hth cr_11_17
  have hE_13_9_1 : ∀ j : Int, w_ei ws (w_ar ws (n_v vs 13) 9) j = w_ei w1 (w_ar ws (n_v vs 13) 9) j := fun j => s1.1 _ _
  have hK_13_9 := elq_38 hD hth cr_13_9
  have kz_8_0 := fdq_21 hD hth r8
  have kz_8_1 := fdq_30 hD hth r8
  have kz_13_0 := fdq_294 hD hth r13
  have nf0 : fc_1 PRD (20, [0, 4], [62, 2000006]) ws (vs) := by
    refine ⟨nf_in hl rfl, sgq_270 ?_⟩
    · show HY ws (n_v vs 0) (v_iv (n_v vs 4) + (((2000006 : Nat) : Int) - 2000000))
      exact hy_le f15 (by omega)
  refine ⟨(fun _ h => (by cases h)), [], trivial, ?_, (fun _ h => (by cases h))⟩
  rw [List.append_nil]
  exact List.forall_mem_cons.mpr ⟨⟨show (20 : Nat) < 100 from by decide, nf0⟩, (fun _ h => (by cases h))⟩
def o_Ho_draw_64 : or_T := (203, 20, [(0, (2, 0, 0, [12])), (4, (0, 0, 3066, [])), (8, (2, 0, 0, [3])), (9, (0, 1, 24, [])), (11, (2, 0, 0, [4])), (12, (2, 0, 0, [3])), (13, (2, 0, 0, [2])), (16, (2, 0, 0, [12])), (17, (0, 0, 3072, []))], [(9, [9, 8], [0]), (20, [12], [50, 1, 0, 0, 0, 2, 0, 1, 2, 0, 0]), (24, [0, 16], []), (23, [17, 4], [0, 1, -1]), (23, [17, 4], [0, -1, 1]), (20, [12], [60, 2, 2, 596, 0, 1, 7, 8]), (20, [12, 13], [60, 1, 3, 658, 1, 7, 8, 1009]), (20, [12], [50, 1, 0, 0, 0, 2, 0, 1, 2, 0, 0]), (20, [11], [60, 0, 1, 648, 17]), (20, [12, 13], [60, 1, 3, 658, 1, 7, 8, 1009]), (20, [12], [60, 2, 2, 596, 0, 1, 7, 8]), (24, [8, 12], []), (20, [8], [50, 1, 0, 0, 0, 2, 0, 1, 2, 0, 0]), (20, [11], [60, 0, 1, 648, 17]), (20, [13], [50, 1, 0, 0, 7, 3, 2, 0, 0, 0, 0]), (20, [16, 17], [62, 2000000]), (102, [17], [42202988866171645644062132502901276672, 7, 8, 4001, 4002, 4003, 10000, 10001]), (23, [17, 4], [0, 1, -1]), (23, [17, 4], [0, -1, 1]), (102, [12], [281337537757184, 2000, 2001, 2002, 2003]), (101, [0, 11], [17]), (102, [10], [509258994083621521567111422102344540262867098416484062659035112338633103872697133707558912, 299000, 299001, 299002, 299003, 299004, 299005, 299006, 299007, 299008, 299009, 299010, 299011, 299012, 299013, 299014, 299015, 299016, 299017, 299018, 299019, 299020, 300000, 300001, 300002, 300003, 300004, 300005, 300006, 300007, 300008]), (8, [9], [1])], [], [], [(20, [0, 4], [62, 2000006])], [], [])
theorem oo_Ho_draw_64 {kA : Nat → ClassId} : or_ok PRD kA GG o_Ho_draw_64 := by
  refine or_mk fun A ta ws vs hD hth hl => ?_
  intro t0 r0 t4 k4 t8 r8 t9 k9 t11 r11 t12 r12 t13 r13 t16 r16 t17 k17 f0 f1 f2 f3 f4 f5 f6 f7 f8 f9 f10 f11 f12 f13 f14 f15 ta1 w1 le1 s1 f17 f18 ta2 w2 le2 s2 ta3 w3 le3 s3 ta4 w4 le4 s4 f22
  replace f0 := shm_163 f0
  replace f1 := shm_1220 f1
  replace f2 := shm_5 f2
  replace f3 := shm_7 f3
  replace f4 := shm_22 f4
  replace f5 := shm_386 f5
  replace f6 := shm_1906 f6
  replace f7 := shm_1220 f7
  replace f8 := shm_1096 f8
  replace f9 := shm_1906 f9
  replace f10 := shm_386 f10
  replace f11 := shm_5 f11
  replace f12 := shm_1220 f12
  replace f13 := shm_1096 f13
  replace f14 := shm_2130 f14
  replace f15 := shm_161 f15
  replace f17 := shm_7 f17
  replace f18 := shm_22 f18
  have s3 : (∀ b j, w_el w2 b j = w_el w3 b j) ∧ ∀ b j, w_fd w2 b j = if b = v_ad (n_v vs 0) ∧ j = 17 then n_v vs 11 else w_fd w3 b j := s3.2
  replace f22 := shm_142 f22
  have q16 : n_v vs 16 = n_v vs 0 := f2.symm
  have q12 : n_v vs 12 = n_v vs 8 := f11.symm
  simp only [q12, q16] at f1 f5 f6 f7 f9 f10 f15
  have cr_8_7 := fdq_46 hD hth r8
  have cr_8_8 := fdq_47 hD hth r8
  have cr_11_17 := fdq_251 hD hth r11
  have cr_13_9 := fdq_76 hD hth r13
  have g0 : v_iv (n_v vs 9) = w_fi ws (n_v vs 8) 0 := congrArg v_iv f0
  have hK_8_7 := elq_11 hD hth cr_8_7
  have hK_8_8 := elq_12 hD hth cr_8_8
  have hK_11_17 := elq_158 hD hth cr_11_17
  have hK_13_9 := elq_38 hD hth cr_13_9
  have kz_8_0 := fdq_21 hD hth r8
  have kz_8_1 := fdq_30 hD hth r8
  have kz_13_0 := fdq_294 hD hth r13
  have nf0 : fc_1 PRD (20, [0, 4], [62, 2000006]) ws (vs) := by
    refine ⟨nf_in hl rfl, sgq_270 ?_⟩
    · show HY ws (n_v vs 0) (v_iv (n_v vs 4) + (((2000006 : Nat) : Int) - 2000000))
      exact hy_le f15 (by omega)
  refine ⟨(fun _ h => (by cases h)), [], trivial, ?_, (fun _ h => (by cases h))⟩
  rw [List.append_nil]
  exact List.forall_mem_cons.mpr ⟨⟨show (20 : Nat) < 100 from by decide, nf0⟩, (fun _ h => (by cases h))⟩
def o_Ho_draw_65 : or_T := (57, 11, [(10, (2, 0, 0, [4]))], [(9, [10, 0], [17]), (20, [0], [62, 1000000])], [], [], [(20, [10], [60, 0, 1, 648, 17])], [], [])
theorem oo_Ho_draw_65 {kA : Nat → ClassId} : or_ok PRD kA GG o_Ho_draw_65 := by
  refine or_mk fun A ta ws vs hD hth hl => ?_
  intro t10 r10 f0 f1
  replace f0 := shm_795 f0
  replace f1 := shm_2315 f1
  have nf0 : fc_1 PRD (20, [10], [60, 0, 1, 648, 17]) ws (vs) := by
    refine ⟨nf_in hl rfl, sgq_1096 ?_⟩
    · show ORD (w_ei ws (w_ar ws (n_v vs 10) 17))
      obtain ⟨ax, _, ex, _⟩ := tv_ref t10 rfl
      exact hl_ord (g := GG_4) hD hth f1 f0 r10 rfl (by decide) rfl rfl ⟨ax, ex⟩
  refine ⟨(fun _ h => (by cases h)), [], trivial, ?_, (fun _ h => (by cases h))⟩
  rw [List.append_nil]
  exact List.forall_mem_cons.mpr ⟨⟨show (20 : Nat) < 100 from by decide, nf0⟩, (fun _ h => (by cases h))⟩
def o_Ho_draw_66 : or_T := (63, 12, [(0, (2, 0, 0, [12])), (1, (0, 0, 3, [])), (7, (2, 0, 0, [131])), (8, (2, 0, 0, [3])), (11, (2, 0, 0, [3]))], [(14, [11, 7, 1], []), (9, [7, 0], [0]), (20, [0, 1, 8], [62, 71])], [], [], [(24, [8, 11], [])], [], [])
theorem oo_Ho_draw_66 {kA : Nat → ClassId} : or_ok PRD kA GG o_Ho_draw_66 := by
  refine or_mk fun A ta ws vs hD hth hl => ?_
  intro t0 r0 t1 k1 t7 r7 t8 r8 t11 r11 f0 f1 f2
  replace f0 := shm_793 f0
  replace f1 := shm_163 f1
  replace f2 := shm_1819 f2
  have nf0 : fc_1 PRD (24, [8, 11], []) ws (vs) := by
    refine ⟨nf_in hl rfl, sgq_5 ?_⟩
    · show n_v vs 8 = n_v vs 11
      exact ref_same t8 t11 rfl rfl ((wl_0 (wq_wl f2) (by decide)).trans (pO_of f1 f0).symm)
  refine ⟨(fun _ h => (by cases h)), [], trivial, ?_, (fun _ h => (by cases h))⟩
  rw [List.append_nil]
  exact List.forall_mem_cons.mpr ⟨⟨show (24 : Nat) < 100 from by decide, nf0⟩, (fun _ h => (by cases h))⟩
def o_Ho_draw_67 : or_T := (63, 12, [(0, (2, 0, 0, [12])), (1, (0, 0, 3, [])), (8, (2, 0, 0, [3])), (9, (0, 1, 24, [])), (10, (2, 0, 0, [4])), (11, (2, 0, 0, [3]))], [(24, [8, 11], []), (20, [10], [60, 0, 1, 648, 17]), (20, [8], [50, 1, 0, 0, 0, 2, 0, 1, 2, 0, 0]), (8, [9], [1]), (9, [9, 8], [0]), (20, [0, 1, 8], [62, 71])], [], [], [(20, [0, 1, 11], [62, 71])], [], [])
theorem oo_Ho_draw_67 {kA : Nat → ClassId} : or_ok PRD kA GG o_Ho_draw_67 := by
  refine or_mk fun A ta ws vs hD hth hl => ?_
  intro t0 r0 t1 k1 t8 r8 t9 k9 t10 r10 t11 r11 f0 f1 f2 f3 f4 f5
  replace f0 := shm_5 f0
  replace f5 := shm_1819 f5
  have q11 : n_v vs 11 = n_v vs 8 := f0.symm
  have nf0 : fc_1 PRD (20, [0, 1, 11], [62, 71]) ws (vs) := by
    refine ⟨nf_in hl rfl, sgq_1819 ?_⟩
    · show WQF 71 [n_v vs 0, n_v vs 1, n_v vs 11] ws
      first | rw [q11] | skip
      have zw := f5
      first | rw [show n_v vs 8 = n_v vs 11 from (by first | exact f0 | exact f0.symm)] at zw | skip
      first | exact zw | ((first | rw [q11] at zw | skip); exact zw)
  refine ⟨(fun _ h => (by cases h)), [], trivial, ?_, (fun _ h => (by cases h))⟩
  rw [List.append_nil]
  exact List.forall_mem_cons.mpr ⟨⟨show (20 : Nat) < 100 from by decide, nf0⟩, (fun _ h => (by cases h))⟩
def o_Ho_draw_68 : or_T := (68, 13, [(0, (2, 0, 0, [12]))], [(20, [0], [62, 0]), (102, [11], [281337537757184, 2000, 2001, 2002, 2003]), (20, [0, 1, 11], [62, 71])], [], [], [(20, [0, 1, 11], [62, 71])], [], [])
theorem oo_Ho_draw_68 {kA : Nat → ClassId} : or_ok PRD kA GG o_Ho_draw_68 := by
  refine or_mk fun A ta ws vs hD hth hl => ?_
  intro t0 r0 f0 ta1 w1 le1 s1 f2
  replace f0 := shm_1176 f0
  replace s1 := s1.2
  replace f2 := shm_1819 f2
  have nf0 : fc_1 PRD (20, [0, 1, 11], [62, 71]) ws (vs) := by
    refine ⟨nf_in hl rfl, sgq_1819 ?_⟩
    · show WQF 71 [n_v vs 0, n_v vs 1, n_v vs 11] ws
      obtain ⟨aH, _, eH, _⟩ := tv_ref t0 rfl
      have hH0 := s1.2.2.1 11 List.mem_cons_self 0 (by decide) aH eH
      exact wq_step f0 (hd_call hD hth (by decide +kernel) le1 r0 (by rw [eH]; exact hH0) s1 (by decide +kernel)) f2 (by decide)
  refine ⟨(fun _ h => (by cases h)), [], trivial, ?_, (fun _ h => (by cases h))⟩
  rw [List.append_nil]
  exact List.forall_mem_cons.mpr ⟨⟨show (20 : Nat) < 100 from by decide, nf0⟩, (fun _ h => (by cases h))⟩
def o_Ho_draw_69 : or_T := (74, 15, [(0, (2, 0, 0, [12])), (1, (0, 0, 3, [])), (11, (2, 0, 0, [3]))], [(20, [0, 1, 11], [62, 71])], [], [], [(20, [11], [60, 2, 2, 596, 0, 1, 7, 8])], [], [])
theorem oo_Ho_draw_69 {kA : Nat → ClassId} : or_ok PRD kA GG o_Ho_draw_69 := by
  refine or_mk fun A ta ws vs hD hth hl => ?_
  intro t0 r0 t1 k1 t11 r11 f0
  replace f0 := shm_1819 f0
  have nf0 : fc_1 PRD (20, [11], [60, 2, 2, 596, 0, 1, 7, 8]) ws (vs) := by
    refine ⟨nf_in hl rfl, sgq_386 ?_⟩
    · show GKE (w_fi ws (n_v vs 11) 0) (w_fi ws (n_v vs 11) 1) (w_ei ws (w_ar ws (n_v vs 11) 7)) (w_ei ws (w_ar ws (n_v vs 11) 8))
      exact hg_gke (wq_hg f0 (by decide) (wl_0 (wq_wl (k := 71) f0) (by decide)))
  refine ⟨(fun _ h => (by cases h)), [], trivial, ?_, (fun _ h => (by cases h))⟩
  rw [List.append_nil]
  exact List.forall_mem_cons.mpr ⟨⟨show (20 : Nat) < 100 from by decide, nf0⟩, (fun _ h => (by cases h))⟩
def o_Ho_draw_70 : or_T := (74, 15, [(0, (2, 0, 0, [12])), (1, (0, 0, 3, [])), (11, (2, 0, 0, [3])), (12, (2, 0, 0, [2]))], [(20, [0, 1, 11], [62, 71]), (20, [0, 1, 12], [62, 135]), (20, [12], [50, 1, 0, 0, 7, 3, 2, 0, 0, 0, 0])], [], [], [(20, [11, 12], [60, 1, 3, 658, 1, 7, 8, 1009])], [], [])
theorem oo_Ho_draw_70 {kA : Nat → ClassId} : or_ok PRD kA GG o_Ho_draw_70 := by
  refine or_mk fun A ta ws vs hD hth hl => ?_
  intro t0 r0 t1 k1 t11 r11 t12 r12 f0 f1 f2
  replace f0 := shm_1819 f0
  replace f1 := shm_2132 f1
  replace f2 := shm_2130 f2
  have nf0 : fc_1 PRD (20, [11, 12], [60, 1, 3, 658, 1, 7, 8, 1009]) ws (vs) := by
    refine ⟨nf_in hl rfl, sgq_1906 ?_⟩
    · show TPO (w_fi ws (n_v vs 11) 1) (w_ei ws (w_ar ws (n_v vs 11) 7)) (w_ei ws (w_ar ws (n_v vs 11) 8)) (w_ei ws (w_ar ws (n_v vs 12) 9))
      exact (hf_all (wq_hf f0 (by decide) (wl_0 (wq_wl (k := 71) f0) (by decide)) (wl_0 (wq_wl (k := 135) f1) (by decide))) (show w_fi ws (n_v vs 12) 0 ≠ 0 from f2)).2.2.1
  refine ⟨(fun _ h => (by cases h)), [], trivial, ?_, (fun _ h => (by cases h))⟩
  rw [List.append_nil]
  exact List.forall_mem_cons.mpr ⟨⟨show (20 : Nat) < 100 from by decide, nf0⟩, (fun _ h => (by cases h))⟩
set_option maxHeartbeats 4000000 in
theorem vc_Ho_draw_71_0 (nodes_0o8 : Int) (f5 : 1 ≤ nodes_0o8) (kz_8_0 : 0 ≤ nodes_0o8 ∧ nodes_0o8 ≤ 24) : 1 ≤ nodes_0o8 := by
  first | omega
set_option maxHeartbeats 4000000 in
theorem vc_Ho_draw_71_2 (x4 : Int) (gy : Int) (k4 : 0 ≤ x4 ∧ x4 ≤ 3066) (ey2 : gy = x4) : 1 * gy + ((-1) * x4 + 0) ≤ 0 := by
  first | omega
set_option maxHeartbeats 4000000 in
theorem vc_Ho_draw_71_3 (x4 : Int) (gy : Int) (k4 : 0 ≤ x4 ∧ x4 ≤ 3066) (ey2 : gy = x4) : (-1) * gy + (1 * x4 + 0) ≤ 0 := by
  first | omega
set_option maxHeartbeats 4000000 in
theorem vc_Ho_draw_71_4 (nodes_0o8 : Int) (tail_0o8 : Int → Int) (head_0o8 : Int → Int) (edges_0o8 : Int) (f2 : GKE (nodes_0o8) (edges_0o8) (tail_0o8) (head_0o8)) (kz_8_0 : 0 ≤ nodes_0o8 ∧ nodes_0o8 ≤ 24) (kz_8_1 : 0 ≤ edges_0o8 ∧ edges_0o8 ≤ 48) : GKE (nodes_0o8) (edges_0o8) (tail_0o8) (head_0o8) := by
  first | assumption
set_option maxHeartbeats 4000000 in
theorem vc_Ho_draw_71_5 (tail_0o8 : Int → Int) (head_0o8 : Int → Int) (turned_0o12 : Int → Int) (edges_0o8 : Int) (f1 : TPO (edges_0o8) (tail_0o8) (head_0o8) (turned_0o12)) (kz_8_1 : 0 ≤ edges_0o8 ∧ edges_0o8 ≤ 48) : TPO (edges_0o8) (tail_0o8) (head_0o8) (turned_0o12) := by
  first | assumption
set_option maxHeartbeats 4000000 in
theorem vc_Ho_draw_71_6 (nodes_0o8 : Int) (f5 : 1 ≤ nodes_0o8) (kz_8_0 : 0 ≤ nodes_0o8 ∧ nodes_0o8 ≤ 24) : 1 ≤ nodes_0o8 := by
  first | omega
set_option maxHeartbeats 4000000 in
theorem vc_Ho_draw_71_7 (orders_0o10 : Int → Int) (f4 : ORD (orders_0o10)) : ORD (orders_0o10) := by
  first | assumption
def o_Ho_draw_71 : or_T := (74, 15, [(0, (2, 0, 0, [12])), (4, (0, 0, 3066, [])), (8, (2, 0, 0, [3])), (9, (0, 1, 24, [])), (10, (2, 0, 0, [4])), (11, (2, 0, 0, [3])), (12, (2, 0, 0, [2]))], [(9, [9, 8], [0]), (20, [11, 12], [60, 1, 3, 658, 1, 7, 8, 1009]), (20, [11], [60, 2, 2, 596, 0, 1, 7, 8]), (24, [8, 11], []), (20, [10], [60, 0, 1, 648, 17]), (20, [8], [50, 1, 0, 0, 0, 2, 0, 1, 2, 0, 0]), (20, [0, 4], [62, 2000000]), (20, [12], [50, 1, 0, 0, 7, 3, 2, 0, 0, 0, 0]), (102, [11], [281337537757184, 2000, 2001, 2002, 2003]), (8, [9], [1])], [], [(2, 0, 0, [12]), (0, 0, 3072, [])], [(20, [11], [50, 1, 0, 0, 0, 2, 0, 1, 2, 0, 0]), (24, [0, 15], []), (23, [16, 4], [0, 1, -1]), (23, [16, 4], [0, -1, 1]), (20, [11], [60, 2, 2, 596, 0, 1, 7, 8]), (20, [11, 12], [60, 1, 3, 658, 1, 7, 8, 1009]), (20, [11], [50, 1, 0, 0, 0, 2, 0, 1, 2, 0, 0]), (20, [10], [60, 0, 1, 648, 17]), (20, [15, 16], [62, 2000000])], [], [])
theorem oo_Ho_draw_71 {kA : Nat → ClassId} : or_ok PRD kA GG o_Ho_draw_71 := by
  refine or_mk fun A ta ws vs hD hth hl => ?_
  intro t0 r0 t4 k4 t8 r8 t9 k9 t10 r10 t11 r11 t12 r12 f0 f1 f2 f3 f4 f5 f6 f7 ta1 w1 le1 s1 f9
  replace f0 := shm_163 f0
  replace f1 := shm_1906 f1
  replace f2 := shm_386 f2
  replace f3 := shm_5 f3
  replace f4 := shm_1096 f4
  replace f5 := shm_1220 f5
  replace f6 := shm_161 f6
  replace f7 := shm_2130 f7
  replace f9 := shm_142 f9
  have q11 : n_v vs 11 = n_v vs 8 := f3.symm
  simp only [q11] at f1 f2
  have cr_8_7 := fdq_46 hD hth r8
  have cr_8_8 := fdq_47 hD hth r8
  have cr_10_17 := fdq_251 hD hth r10
  have cr_12_9 := fdq_76 hD hth r12
  have g0 : v_iv (n_v vs 9) = w_fi ws (n_v vs 8) 0 := congrArg v_iv f0
  have hK_8_7 := elq_11 hD hth cr_8_7
  have hK_8_8 := elq_12 hD hth cr_8_8
  have hK_10_17 := elq_158 hD hth cr_10_17
  have hK_12_9 := elq_38 hD hth cr_12_9
  have kz_8_0 := fdq_21 hD hth r8
  have kz_8_1 := fdq_30 hD hth r8
  have kz_12_0 := fdq_294 hD hth r12
  obtain ⟨y, ey, hy⟩ := iv_ex (ta := ta) (lo := 0) (hi := 3072) (z := v_iv (n_v vs 4)) (by omega) (by omega) (by omega) (by omega)
  have ey2 : v_iv (Value.int y) = v_iv (n_v vs 4) := ey
  have ey3 : 0 ≤ v_iv (Value.int y) ∧ v_iv (Value.int y) ≤ 3072 := tv_rng hy
  have e_0 : n_v (vs ++ [n_v vs 0, Value.int y]) 0 = n_v vs 0 := n_v_old (by rw [hl]; decide)
  have e_4 : n_v (vs ++ [n_v vs 0, Value.int y]) 4 = n_v vs 4 := n_v_old (by rw [hl]; decide)
  have e_10 : n_v (vs ++ [n_v vs 0, Value.int y]) 10 = n_v vs 10 := n_v_old (by rw [hl]; decide)
  have e_11 : n_v (vs ++ [n_v vs 0, Value.int y]) 11 = n_v vs 11 := n_v_old (by rw [hl]; decide)
  have e_12 : n_v (vs ++ [n_v vs 0, Value.int y]) 12 = n_v vs 12 := n_v_old (by rw [hl]; decide)
  have e_15 : n_v (vs ++ [n_v vs 0, Value.int y]) 15 = n_v vs 0 := n_v_new0 hl
  have e_16 : n_v (vs ++ [n_v vs 0, Value.int y]) 16 = Value.int y := n_v_new1 hl
  have nf0 : fc_1 PRD (20, [11], [50, 1, 0, 0, 0, 2, 0, 1, 2, 0, 0]) ws (vs ++ [n_v vs 0, Value.int y]) := by
    refine ⟨nf_inA hl rfl, sgq_1220 ?_⟩
    · show 1 ≤ w_fi ws (n_v (vs ++ [n_v vs 0, Value.int y]) 11) 0
      simp only [e_11, q11]
      exact vc_Ho_draw_71_0 (w_fi ws (n_v vs 8) 0) f5 kz_8_0
  have nf1 : fc_1 PRD (24, [0, 15], []) ws (vs ++ [n_v vs 0, Value.int y]) := by
    refine ⟨nf_inA hl rfl, sgq_5 ?_⟩
    · show n_v (vs ++ [n_v vs 0, Value.int y]) 0 = n_v (vs ++ [n_v vs 0, Value.int y]) 15
      first | rfl | simp only [e_0, e_15, q11]
  have nf2 : fc_1 PRD (23, [16, 4], [0, 1, -1]) ws (vs ++ [n_v vs 0, Value.int y]) := by
    refine ⟨nf_inA hl rfl, sgq_7 ?_⟩
    · show 1 * v_iv (n_v (vs ++ [n_v vs 0, Value.int y]) 16) + ((-1) * v_iv (n_v (vs ++ [n_v vs 0, Value.int y]) 4) + 0) ≤ 0
      simp only [e_4, e_16]
      exact vc_Ho_draw_71_2 (v_iv (n_v vs 4)) (v_iv (Value.int y)) k4 ey2
  have nf3 : fc_1 PRD (23, [16, 4], [0, -1, 1]) ws (vs ++ [n_v vs 0, Value.int y]) := by
    refine ⟨nf_inA hl rfl, sgq_22 ?_⟩
    · show (-1) * v_iv (n_v (vs ++ [n_v vs 0, Value.int y]) 16) + (1 * v_iv (n_v (vs ++ [n_v vs 0, Value.int y]) 4) + 0) ≤ 0
      simp only [e_4, e_16]
      exact vc_Ho_draw_71_3 (v_iv (n_v vs 4)) (v_iv (Value.int y)) k4 ey2
  have nf4 : fc_1 PRD (20, [11], [60, 2, 2, 596, 0, 1, 7, 8]) ws (vs ++ [n_v vs 0, Value.int y]) := by
    refine ⟨nf_inA hl rfl, sgq_386 ?_⟩
    · show GKE (w_fi ws (n_v (vs ++ [n_v vs 0, Value.int y]) 11) 0) (w_fi ws (n_v (vs ++ [n_v vs 0, Value.int y]) 11) 1) (w_ei ws (w_ar ws (n_v (vs ++ [n_v vs 0, Value.int y]) 11) 7)) (w_ei ws (w_ar ws (n_v (vs ++ [n_v vs 0, Value.int y]) 11) 8))
      simp only [e_11, q11]
      exact vc_Ho_draw_71_4 (w_fi ws (n_v vs 8) 0) (w_ei ws (w_ar ws (n_v vs 8) 7)) (w_ei ws (w_ar ws (n_v vs 8) 8)) (w_fi ws (n_v vs 8) 1) f2 kz_8_0 kz_8_1
  have nf5 : fc_1 PRD (20, [11, 12], [60, 1, 3, 658, 1, 7, 8, 1009]) ws (vs ++ [n_v vs 0, Value.int y]) := by
    refine ⟨nf_inA hl rfl, sgq_1906 ?_⟩
    · show TPO (w_fi ws (n_v (vs ++ [n_v vs 0, Value.int y]) 11) 1) (w_ei ws (w_ar ws (n_v (vs ++ [n_v vs 0, Value.int y]) 11) 7)) (w_ei ws (w_ar ws (n_v (vs ++ [n_v vs 0, Value.int y]) 11) 8)) (w_ei ws (w_ar ws (n_v (vs ++ [n_v vs 0, Value.int y]) 12) 9))
      simp only [e_11, e_12, q11]
      exact vc_Ho_draw_71_5 (w_ei ws (w_ar ws (n_v vs 8) 7)) (w_ei ws (w_ar ws (n_v vs 8) 8)) (w_ei ws (w_ar ws (n_v vs 12) 9)) (w_fi ws (n_v vs 8) 1) f1 kz_8_1
  have nf6 : fc_1 PRD (20, [11], [50, 1, 0, 0, 0, 2, 0, 1, 2, 0, 0]) ws (vs ++ [n_v vs 0, Value.int y]) := by
    refine ⟨nf_inA hl rfl, sgq_1220 ?_⟩
    · show 1 ≤ w_fi ws (n_v (vs ++ [n_v vs 0, Value.int y]) 11) 0
      simp only [e_11, q11]
      exact vc_Ho_draw_71_6 (w_fi ws (n_v vs 8) 0) f5 kz_8_0
  have nf7 : fc_1 PRD (20, [10], [60, 0, 1, 648, 17]) ws (vs ++ [n_v vs 0, Value.int y]) := by
    refine ⟨nf_inA hl rfl, sgq_1096 ?_⟩
    · show ORD (w_ei ws (w_ar ws (n_v (vs ++ [n_v vs 0, Value.int y]) 10) 17))
      rw [e_10]
      exact vc_Ho_draw_71_7 (w_ei ws (w_ar ws (n_v vs 10) 17)) f4
  have nf8 : fc_1 PRD (20, [15, 16], [62, 2000000]) ws (vs ++ [n_v vs 0, Value.int y]) := by
    refine ⟨nf_inA hl rfl, sgq_161 ?_⟩
    · show HY ws (n_v (vs ++ [n_v vs 0, Value.int y]) 15) (v_iv (n_v (vs ++ [n_v vs 0, Value.int y]) 16) + (((2000000 : Nat) : Int) - 2000000))
      simp only [e_15, e_16]
      exact hy_le f6 (by omega)
  exact ⟨(fun _ h => (by cases h)), [n_v vs 0, Value.int y], ag_two t0 hy, List.forall_mem_cons.mpr ⟨⟨show (20 : Nat) < 100 from by decide, nf0⟩, List.forall_mem_cons.mpr ⟨⟨show (24 : Nat) < 100 from by decide, nf1⟩, List.forall_mem_cons.mpr ⟨⟨show (23 : Nat) < 100 from by decide, nf2⟩, List.forall_mem_cons.mpr ⟨⟨show (23 : Nat) < 100 from by decide, nf3⟩, List.forall_mem_cons.mpr ⟨⟨show (20 : Nat) < 100 from by decide, nf4⟩, List.forall_mem_cons.mpr ⟨⟨show (20 : Nat) < 100 from by decide, nf5⟩, List.forall_mem_cons.mpr ⟨⟨show (20 : Nat) < 100 from by decide, nf6⟩, List.forall_mem_cons.mpr ⟨⟨show (20 : Nat) < 100 from by decide, nf7⟩, List.forall_mem_cons.mpr ⟨⟨show (20 : Nat) < 100 from by decide, nf8⟩, (fun _ h => (by cases h))⟩⟩⟩⟩⟩⟩⟩⟩⟩, (fun _ h => (by cases h))⟩
def o_Ho_draw_72 : or_T := (203, 20, [(0, (2, 0, 0, [12])), (4, (0, 0, 3066, [])), (8, (2, 0, 0, [3])), (9, (0, 1, 24, [])), (10, (2, 0, 0, [4])), (11, (2, 0, 0, [3])), (12, (2, 0, 0, [2])), (15, (2, 0, 0, [12])), (16, (0, 0, 3072, [])), (19, (2, 0, 0, [0]))], [(9, [9, 8], [0]), (20, [11], [50, 1, 0, 0, 0, 2, 0, 1, 2, 0, 0]), (24, [0, 15], []), (23, [16, 4], [0, 1, -1]), (23, [16, 4], [0, -1, 1]), (20, [11], [60, 2, 2, 596, 0, 1, 7, 8]), (20, [11, 12], [60, 1, 3, 658, 1, 7, 8, 1009]), (20, [11], [50, 1, 0, 0, 0, 2, 0, 1, 2, 0, 0]), (20, [10], [60, 0, 1, 648, 17]), (20, [11, 12], [60, 1, 3, 658, 1, 7, 8, 1009]), (20, [11], [60, 2, 2, 596, 0, 1, 7, 8]), (24, [8, 11], []), (20, [10], [60, 0, 1, 648, 17]), (20, [8], [50, 1, 0, 0, 0, 2, 0, 1, 2, 0, 0]), (20, [12], [50, 1, 0, 0, 7, 3, 2, 0, 0, 0, 0]), (20, [15, 16], [62, 2000000]), (101, [19, 2], [1]), (20, [11], [50, 1, 0, 0, 0, 2, 0, 1, 2, 0, 0]), (23, [16, 4], [0, 1, -1]), (23, [16, 4], [0, -1, 1]), (20, [11], [60, 2, 2, 596, 0, 1, 7, 8]), (20, [11, 12], [60, 1, 3, 658, 1, 7, 8, 1009]), (20, [11], [50, 1, 0, 0, 0, 2, 0, 1, 2, 0, 0]), (20, [10], [60, 0, 1, 648, 17]), (20, [11, 12], [60, 1, 3, 658, 1, 7, 8, 1009]), (20, [11], [60, 2, 2, 596, 0, 1, 7, 8]), (20, [10], [60, 0, 1, 648, 17]), (20, [8], [50, 1, 0, 0, 0, 2, 0, 1, 2, 0, 0]), (20, [12], [50, 1, 0, 0, 7, 3, 2, 0, 0, 0, 0]), (102, [16], [42202988866171645644062132502901276672, 7, 8, 4001, 4002, 4003, 10000, 10001]), (23, [16, 4], [0, 1, -1]), (23, [16, 4], [0, -1, 1]), (102, [11], [281337537757184, 2000, 2001, 2002, 2003]), (8, [9], [1])], [], [], [(20, [0, 4], [62, 2000006])], [], [])
theorem oo_Ho_draw_72 {kA : Nat → ClassId} : or_ok PRD kA GG o_Ho_draw_72 := by
  refine or_mk fun A ta ws vs hD hth hl => ?_
  intro t0 r0 t4 k4 t8 r8 t9 k9 t10 r10 t11 r11 t12 r12 t15 r15 t16 k16 t19 r19 f0 f1 f2 f3 f4 f5 f6 f7 f8 f9 f10 f11 f12 f13 f14 f15 ta1 w1 le1 s1 f17 f18 f19 f20 f21 f22 f23 f24 f25 f26 f27 f28 ta2 w2 le2 s2 f30 f31 ta3 w3 le3 s3 f33
  replace f0 := shm_163 f0
  replace f1 := shm_1220 f1
  replace f2 := shm_5 f2
  replace f3 := shm_7 f3
  replace f4 := shm_22 f4
  replace f5 := shm_386 f5
  replace f6 := shm_1906 f6
  replace f7 := shm_1220 f7
  replace f8 := shm_1096 f8
  replace f9 := shm_1906 f9
  replace f10 := shm_386 f10
  replace f11 := shm_5 f11
  replace f12 := shm_1096 f12
  replace f13 := shm_1220 f13
  replace f14 := shm_2130 f14
  replace f15 := shm_161 f15
  have s1 : (∀ b j, w_el ws b j = w_el w1 b j) ∧ ∀ b j, w_fd ws b j = if b = v_ad (n_v vs 19) ∧ j = 1 then n_v vs 2 else w_fd w1 b j := s1.2
  replace f17 := shm_1220 f17
  replace f18 := shm_7 f18
  replace f19 := shm_22 f19
  replace f20 := shm_386 f20
  replace f21 := shm_1906 f21
  replace f22 := shm_1220 f22
  replace f23 := shm_1096 f23
  replace f24 := shm_1906 f24
  replace f25 := shm_386 f25
  replace f26 := shm_1096 f26
  replace f27 := shm_1220 f27
  replace f28 := shm_2130 f28
  replace f30 := shm_7 f30
  replace f31 := shm_22 f31
  replace f33 := shm_142 f33
  have q15 : n_v vs 15 = n_v vs 0 := f2.symm
  have q11 : n_v vs 11 = n_v vs 8 := f11.symm
  simp only [q11, q15] at f1 f5 f6 f7 f9 f10 f15 f17 f20 f21 f22 f24 f25
  have ar_8_7_1 : w_ar w1 (n_v vs 8) 7 = w_ar ws (n_v vs 8) 7 := by show v_ad (w_fd w1 _ _) = v_ad (w_fd ws _ _); rw [s1.2, if_neg (fun e => absurd e.2 (by decide))]
  have cr_8_7 := fdq_46 hD hth r8
  have ar_8_8_1 : w_ar w1 (n_v vs 8) 8 = w_ar ws (n_v vs 8) 8 := by show v_ad (w_fd w1 _ _) = v_ad (w_fd ws _ _); rw [s1.2, if_neg (fun e => absurd e.2 (by decide))]
  have cr_8_8 := fdq_47 hD hth r8
  have ar_10_17_1 : w_ar w1 (n_v vs 10) 17 = w_ar ws (n_v vs 10) 17 := by show v_ad (w_fd w1 _ _) = v_ad (w_fd ws _ _); rw [s1.2, if_neg (fun e => absurd e.2 (by decide))]
  have cr_10_17 := fdq_251 hD hth r10
  have ar_12_9_1 : w_ar w1 (n_v vs 12) 9 = w_ar ws (n_v vs 12) 9 := by show v_ad (w_fd w1 _ _) = v_ad (w_fd ws _ _); rw [s1.2, if_neg (fun e => absurd e.2 (by decide))]
  have cr_12_9 := fdq_76 hD hth r12
  have g0 : v_iv (n_v vs 9) = w_fi ws (n_v vs 8) 0 := congrArg v_iv f0
  simp only [ar_8_7_1, ar_8_8_1, ar_12_9_1, ar_10_17_1] at f20 f21 f23 f24 f25 f26
  have fe_8_0_1 : w_fi ws (n_v vs 8) 0 = w_fi w1 (n_v vs 8) 0 := by show v_iv (w_fd _ _ _) = v_iv (w_fd _ _ _); rw [s1.2, if_neg (fun e => absurd e.2 (by decide))]
  have fe_8_1_1 : w_fi ws (n_v vs 8) 1 = w_fi w1 (n_v vs 8) 1 := by show v_iv (w_fd _ _ _) = v_iv (w_fd _ _ _); rw [s1.2, if_neg (fun e => by have e1 := e.1; have e2 := r8; rw [e1, r19] at e2; exact absurd (Option.some.inj e2) (by decide))]
  have fe_12_0_1 : w_fi ws (n_v vs 12) 0 = w_fi w1 (n_v vs 12) 0 := by show v_iv (w_fd _ _ _) = v_iv (w_fd _ _ _); rw [s1.2, if_neg (fun e => absurd e.2 (by decide))]
  have hE_8_7_1 : ∀ j : Int, w_ei ws (w_ar ws (n_v vs 8) 7) j = w_ei w1 (w_ar ws (n_v vs 8) 7) j := fun j => s1.1 _ _
  have hK_8_7 := elq_11 hD hth cr_8_7
  have hE_8_8_1 : ∀ j : Int, w_ei ws (w_ar ws (n_v vs 8) 8) j = w_ei w1 (w_ar ws (n_v vs 8) 8) j := fun j => s1.1 _ _
  have hK_8_8 := elq_12 hD hth cr_8_8
  have hE_10_17_1 : ∀ j : Int, w_ei ws (w_ar ws (n_v vs 10) 17) j = w_ei w1 (w_ar ws (n_v vs 10) 17) j := fun j => s1.1 _ _
  have hK_10_17 := elq_158 hD hth cr_10_17
  have hE_12_9_1 : ∀ j : Int, w_ei ws (w_ar ws (n_v vs 12) 9) j = w_ei w1 (w_ar ws (n_v vs 12) 9) j := fun j => s1.1 _ _
  have hK_12_9 := elq_38 hD hth cr_12_9
  have kz_8_0 := fdq_21 hD hth r8
  have kz_8_1 := fdq_30 hD hth r8
  have kz_12_0 := fdq_294 hD hth r12
  have nf0 : fc_1 PRD (20, [0, 4], [62, 2000006]) ws (vs) := by
    refine ⟨nf_in hl rfl, sgq_270 ?_⟩
    · show HY ws (n_v vs 0) (v_iv (n_v vs 4) + (((2000006 : Nat) : Int) - 2000000))
      exact hy_le f15 (by omega)
  refine ⟨(fun _ h => (by cases h)), [], trivial, ?_, (fun _ h => (by cases h))⟩
  rw [List.append_nil]
  exact List.forall_mem_cons.mpr ⟨⟨show (20 : Nat) < 100 from by decide, nf0⟩, (fun _ h => (by cases h))⟩
def o_Ho_draw_73 : or_T := (203, 19, [(0, (2, 0, 0, [12])), (4, (0, 0, 3066, [])), (8, (2, 0, 0, [3])), (9, (0, 1, 24, [])), (10, (2, 0, 0, [4])), (11, (2, 0, 0, [3])), (12, (2, 0, 0, [2])), (15, (2, 0, 0, [12])), (16, (0, 0, 3072, []))], [(9, [9, 8], [0]), (20, [11], [50, 1, 0, 0, 0, 2, 0, 1, 2, 0, 0]), (24, [0, 15], []), (23, [16, 4], [0, 1, -1]), (23, [16, 4], [0, -1, 1]), (20, [11], [60, 2, 2, 596, 0, 1, 7, 8]), (20, [11, 12], [60, 1, 3, 658, 1, 7, 8, 1009]), (20, [11], [50, 1, 0, 0, 0, 2, 0, 1, 2, 0, 0]), (20, [10], [60, 0, 1, 648, 17]), (20, [11, 12], [60, 1, 3, 658, 1, 7, 8, 1009]), (20, [11], [60, 2, 2, 596, 0, 1, 7, 8]), (24, [8, 11], []), (20, [10], [60, 0, 1, 648, 17]), (20, [8], [50, 1, 0, 0, 0, 2, 0, 1, 2, 0, 0]), (20, [12], [50, 1, 0, 0, 7, 3, 2, 0, 0, 0, 0]), (20, [15, 16], [62, 2000000]), (102, [16], [42202988866171645644062132502901276672, 7, 8, 4001, 4002, 4003, 10000, 10001]), (23, [16, 4], [0, 1, -1]), (23, [16, 4], [0, -1, 1]), (102, [11], [281337537757184, 2000, 2001, 2002, 2003]), (8, [9], [1])], [], [], [(20, [0, 4], [62, 2000006])], [], [])
theorem oo_Ho_draw_73 {kA : Nat → ClassId} : or_ok PRD kA GG o_Ho_draw_73 := by
  refine or_mk fun A ta ws vs hD hth hl => ?_
  intro t0 r0 t4 k4 t8 r8 t9 k9 t10 r10 t11 r11 t12 r12 t15 r15 t16 k16 f0 f1 f2 f3 f4 f5 f6 f7 f8 f9 f10 f11 f12 f13 f14 f15 ta1 w1 le1 s1 f17 f18 ta2 w2 le2 s2 f20
  replace f0 := shm_163 f0
  replace f1 := shm_1220 f1
  replace f2 := shm_5 f2
  replace f3 := shm_7 f3
  replace f4 := shm_22 f4
  replace f5 := shm_386 f5
  replace f6 := shm_1906 f6
  replace f7 := shm_1220 f7
  replace f8 := shm_1096 f8
  replace f9 := shm_1906 f9
  replace f10 := shm_386 f10
  replace f11 := shm_5 f11
  replace f12 := shm_1096 f12
  replace f13 := shm_1220 f13
  replace f14 := shm_2130 f14
  replace f15 := shm_161 f15
  replace f17 := shm_7 f17
  replace f18 := shm_22 f18
  replace f20 := shm_142 f20
  have q15 : n_v vs 15 = n_v vs 0 := f2.symm
  have q11 : n_v vs 11 = n_v vs 8 := f11.symm
  simp only [q11, q15] at f1 f5 f6 f7 f9 f10 f15
  have cr_8_7 := fdq_46 hD hth r8
  have cr_8_8 := fdq_47 hD hth r8
  have cr_10_17 := fdq_251 hD hth r10
  have cr_12_9 := fdq_76 hD hth r12
  have g0 : v_iv (n_v vs 9) = w_fi ws (n_v vs 8) 0 := congrArg v_iv f0
  have hK_8_7 := elq_11 hD hth cr_8_7
  have hK_8_8 := elq_12 hD hth cr_8_8
  have hK_10_17 := elq_158 hD hth cr_10_17
  have hK_12_9 := elq_38 hD hth cr_12_9
  have kz_8_0 := fdq_21 hD hth r8
  have kz_8_1 := fdq_30 hD hth r8
  have kz_12_0 := fdq_294 hD hth r12
  have nf0 : fc_1 PRD (20, [0, 4], [62, 2000006]) ws (vs) := by
    refine ⟨nf_in hl rfl, sgq_270 ?_⟩
    · show HY ws (n_v vs 0) (v_iv (n_v vs 4) + (((2000006 : Nat) : Int) - 2000000))
      exact hy_le f15 (by omega)
  refine ⟨(fun _ h => (by cases h)), [], trivial, ?_, (fun _ h => (by cases h))⟩
  rw [List.append_nil]
  exact List.forall_mem_cons.mpr ⟨⟨show (20 : Nat) < 100 from by decide, nf0⟩, (fun _ h => (by cases h))⟩
def o_Ho_draw_74 : or_T := (30, 11, [(0, (2, 0, 0, [12])), (4, (0, 0, 3066, []))], [(20, [0, 4], [62, 2000000])], [], [], [(20, [0, 4], [62, 2000006])], [], [])
theorem oo_Ho_draw_74 {kA : Nat → ClassId} : or_ok PRD kA GG o_Ho_draw_74 := by
  refine or_mk fun A ta ws vs hD hth hl => ?_
  intro t0 r0 t4 k4 f0
  replace f0 := shm_161 f0
  have nf0 : fc_1 PRD (20, [0, 4], [62, 2000006]) ws (vs) := by
    refine ⟨nf_in hl rfl, sgq_270 ?_⟩
    · show HY ws (n_v vs 0) (v_iv (n_v vs 4) + (((2000006 : Nat) : Int) - 2000000))
      exact hy_le f0 (by omega)
  refine ⟨(fun _ h => (by cases h)), [], trivial, ?_, (fun _ h => (by cases h))⟩
  rw [List.append_nil]
  exact List.forall_mem_cons.mpr ⟨⟨show (20 : Nat) < 100 from by decide, nf0⟩, (fun _ h => (by cases h))⟩
def n_Ho_draw_an : List an_T := []
def t_Ho_draw_ct : ct_L := [(0, 115, e_Ho_isPlace), (1, 147, e_Ho_learned), (1, 261, e_Ho_embedded), (1, 293, e_La_lay), (1, 300, e_Pn_lay), (1, 306, e_Pl_lay), (2000043, 0, e_La_init_nw), (2000095, 0, e_Pn_init_nw), (2000148, 0, e_Pl_init_nw)]
set_option maxRecDepth 100000 in
theorem c_Ho_draw {l : Launch} {D : va_G} {kA : Nat → ClassId} (h_Ho_embedded : ct_ok PRD l D kA GG y_Ho_embedded z_Ho_embedded e_Ho_embedded) (h_Ho_isPlace : ct_ok PRD l D kA GG y_Ho_isPlace z_Ho_isPlace e_Ho_isPlace) (h_Ho_learned : ct_ok PRD l D kA GG y_Ho_learned z_Ho_learned e_Ho_learned) (h_La_init : ct_ok PRD l D kA GG y_La_init z_La_init e_La_init) (h_La_lay : ct_ok PRD l D kA GG y_La_lay z_La_lay e_La_lay) (h_Pl_init : ct_ok PRD l D kA GG y_Pl_init z_Pl_init e_Pl_init) (h_Pl_lay : ct_ok PRD l D kA GG y_Pl_lay z_Pl_lay e_Pl_lay) (h_Pn_init : ct_ok PRD l D kA GG y_Pn_init z_Pn_init e_Pn_init) (h_Pn_lay : ct_ok PRD l D kA GG y_Pn_lay z_Pn_lay e_Pn_lay) : ct_ok PRD l D kA GG y_Ho_draw z_Ho_draw e_Ho_draw := chk_all_ok (FT := [(13, 12, 0), (31, 12, 3), (86, 12, 17), (90, 12, 18), (94, 12, 19), (132, 3, 0)]) (PT := [(86, 12, 17, .object "DrawingHouse$Layers"), (90, 12, 18, .object "DrawingHouse$PlanarWays"), (94, 12, 19, .object "DrawingHouse$PlainWays"), (309, 0, 1, .int)]) (CT := t_Ho_draw_ct) (KT := []) (NT := []) (AN := n_Ho_draw_an) (OT := [o_Ho_draw_0, o_Ho_draw_1, o_Ho_draw_2, o_Ho_draw_3, o_Ho_draw_4, o_Ho_draw_5, o_Ho_draw_6, o_Ho_draw_7, o_Ho_draw_8, o_Ho_draw_9, o_Ho_draw_10, o_Ho_draw_11, o_Ho_draw_12, o_Ho_draw_13, o_Ho_draw_14, o_Ho_draw_15, o_Ho_draw_16, o_Ho_draw_17, o_Ho_draw_18, o_Ho_draw_19, o_Ho_draw_20, o_Ho_draw_21, o_Ho_draw_22, o_Ho_draw_23, o_Ho_draw_24, o_Ho_draw_25, o_Ho_draw_26, o_Ho_draw_27, o_Ho_draw_28, o_Ho_draw_29, o_Ho_draw_30, o_Ho_draw_31, o_Ho_draw_32, o_Ho_draw_33, o_Ho_draw_34, o_Ho_draw_35, o_Ho_draw_36, o_Ho_draw_37, o_Ho_draw_38, o_Ho_draw_39, o_Ho_draw_40, o_Ho_draw_41, o_Ho_draw_42, o_Ho_draw_43, o_Ho_draw_44, o_Ho_draw_45, o_Ho_draw_46, o_Ho_draw_47, o_Ho_draw_48, o_Ho_draw_49, o_Ho_draw_50, o_Ho_draw_51, o_Ho_draw_52, o_Ho_draw_53, o_Ho_draw_54, o_Ho_draw_55, o_Ho_draw_56, o_Ho_draw_57, o_Ho_draw_58, o_Ho_draw_59, o_Ho_draw_60, o_Ho_draw_61, o_Ho_draw_62, o_Ho_draw_63, o_Ho_draw_64, o_Ho_draw_65, o_Ho_draw_66, o_Ho_draw_67, o_Ho_draw_68, o_Ho_draw_69, o_Ho_draw_70, o_Ho_draw_71, o_Ho_draw_72, o_Ho_draw_73, o_Ho_draw_74]) 0 940 (List.forall_mem_cons.mpr ⟨oo_Ho_draw_0, List.forall_mem_cons.mpr ⟨oo_Ho_draw_1, List.forall_mem_cons.mpr ⟨oo_Ho_draw_2, List.forall_mem_cons.mpr ⟨oo_Ho_draw_3, List.forall_mem_cons.mpr ⟨oo_Ho_draw_4, List.forall_mem_cons.mpr ⟨oo_Ho_draw_5, List.forall_mem_cons.mpr ⟨oo_Ho_draw_6, List.forall_mem_cons.mpr ⟨oo_Ho_draw_7, List.forall_mem_cons.mpr ⟨oo_Ho_draw_8, List.forall_mem_cons.mpr ⟨oo_Ho_draw_9, List.forall_mem_cons.mpr ⟨oo_Ho_draw_10, List.forall_mem_cons.mpr ⟨oo_Ho_draw_11, List.forall_mem_cons.mpr ⟨oo_Ho_draw_12, List.forall_mem_cons.mpr ⟨oo_Ho_draw_13, List.forall_mem_cons.mpr ⟨oo_Ho_draw_14, List.forall_mem_cons.mpr ⟨oo_Ho_draw_15, List.forall_mem_cons.mpr ⟨oo_Ho_draw_16, List.forall_mem_cons.mpr ⟨oo_Ho_draw_17, List.forall_mem_cons.mpr ⟨oo_Ho_draw_18, List.forall_mem_cons.mpr ⟨oo_Ho_draw_19, List.forall_mem_cons.mpr ⟨oo_Ho_draw_20, List.forall_mem_cons.mpr ⟨oo_Ho_draw_21, List.forall_mem_cons.mpr ⟨oo_Ho_draw_22, List.forall_mem_cons.mpr ⟨oo_Ho_draw_23, List.forall_mem_cons.mpr ⟨oo_Ho_draw_24, List.forall_mem_cons.mpr ⟨oo_Ho_draw_25, List.forall_mem_cons.mpr ⟨oo_Ho_draw_26, List.forall_mem_cons.mpr ⟨oo_Ho_draw_27, List.forall_mem_cons.mpr ⟨oo_Ho_draw_28, List.forall_mem_cons.mpr ⟨oo_Ho_draw_29, List.forall_mem_cons.mpr ⟨oo_Ho_draw_30, List.forall_mem_cons.mpr ⟨oo_Ho_draw_31, List.forall_mem_cons.mpr ⟨oo_Ho_draw_32, List.forall_mem_cons.mpr ⟨oo_Ho_draw_33, List.forall_mem_cons.mpr ⟨oo_Ho_draw_34, List.forall_mem_cons.mpr ⟨oo_Ho_draw_35, List.forall_mem_cons.mpr ⟨oo_Ho_draw_36, List.forall_mem_cons.mpr ⟨oo_Ho_draw_37, List.forall_mem_cons.mpr ⟨oo_Ho_draw_38, List.forall_mem_cons.mpr ⟨oo_Ho_draw_39, List.forall_mem_cons.mpr ⟨oo_Ho_draw_40, List.forall_mem_cons.mpr ⟨oo_Ho_draw_41, List.forall_mem_cons.mpr ⟨oo_Ho_draw_42, List.forall_mem_cons.mpr ⟨oo_Ho_draw_43, List.forall_mem_cons.mpr ⟨oo_Ho_draw_44, List.forall_mem_cons.mpr ⟨oo_Ho_draw_45, List.forall_mem_cons.mpr ⟨oo_Ho_draw_46, List.forall_mem_cons.mpr ⟨oo_Ho_draw_47, List.forall_mem_cons.mpr ⟨oo_Ho_draw_48, List.forall_mem_cons.mpr ⟨oo_Ho_draw_49, List.forall_mem_cons.mpr ⟨oo_Ho_draw_50, List.forall_mem_cons.mpr ⟨oo_Ho_draw_51, List.forall_mem_cons.mpr ⟨oo_Ho_draw_52, List.forall_mem_cons.mpr ⟨oo_Ho_draw_53, List.forall_mem_cons.mpr ⟨oo_Ho_draw_54, List.forall_mem_cons.mpr ⟨oo_Ho_draw_55, List.forall_mem_cons.mpr ⟨oo_Ho_draw_56, List.forall_mem_cons.mpr ⟨oo_Ho_draw_57, List.forall_mem_cons.mpr ⟨oo_Ho_draw_58, List.forall_mem_cons.mpr ⟨oo_Ho_draw_59, List.forall_mem_cons.mpr ⟨oo_Ho_draw_60, List.forall_mem_cons.mpr ⟨oo_Ho_draw_61, List.forall_mem_cons.mpr ⟨oo_Ho_draw_62, List.forall_mem_cons.mpr ⟨oo_Ho_draw_63, List.forall_mem_cons.mpr ⟨oo_Ho_draw_64, List.forall_mem_cons.mpr ⟨oo_Ho_draw_65, List.forall_mem_cons.mpr ⟨oo_Ho_draw_66, List.forall_mem_cons.mpr ⟨oo_Ho_draw_67, List.forall_mem_cons.mpr ⟨oo_Ho_draw_68, List.forall_mem_cons.mpr ⟨oo_Ho_draw_69, List.forall_mem_cons.mpr ⟨oo_Ho_draw_70, List.forall_mem_cons.mpr ⟨oo_Ho_draw_71, List.forall_mem_cons.mpr ⟨oo_Ho_draw_72, List.forall_mem_cons.mpr ⟨oo_Ho_draw_73, List.forall_mem_cons.mpr ⟨oo_Ho_draw_74, List.forall_mem_nil _⟩⟩⟩⟩⟩⟩⟩⟩⟩⟩⟩⟩⟩⟩⟩⟩⟩⟩⟩⟩⟩⟩⟩⟩⟩⟩⟩⟩⟩⟩⟩⟩⟩⟩⟩⟩⟩⟩⟩⟩⟩⟩⟩⟩⟩⟩⟩⟩⟩⟩⟩⟩⟩⟩⟩⟩⟩⟩⟩⟩⟩⟩⟩⟩⟩⟩⟩⟩⟩⟩⟩⟩⟩⟩⟩) (by decide +kernel) ⟨List.forall_mem_cons.mpr ⟨gf_Ho_13, List.forall_mem_cons.mpr ⟨gf_Ho_31, List.forall_mem_cons.mpr ⟨gf_Ho_86, List.forall_mem_cons.mpr ⟨gf_Ho_90, List.forall_mem_cons.mpr ⟨gf_Ho_94, List.forall_mem_cons.mpr ⟨gf_Ho_132, List.forall_mem_nil _⟩⟩⟩⟩⟩⟩, List.forall_mem_cons.mpr ⟨pf_Ho_86, List.forall_mem_cons.mpr ⟨pf_Ho_90, List.forall_mem_cons.mpr ⟨pf_Ho_94, List.forall_mem_cons.mpr ⟨pf_Ho_309, List.forall_mem_nil _⟩⟩⟩⟩, List.forall_mem_cons.mpr ⟨cl_static (y := y_Ho_isPlace) h_Ho_isPlace wm_633 wm_1 wm_631 wm_632 ⟨by decide, by decide, by decide +kernel⟩ (by decide), List.forall_mem_cons.mpr ⟨cl_virtual (y := y_Ho_learned) (ci := 12) rfl rfl ⟨_, _, rfl⟩ (by decide +kernel) h_Ho_learned wm_810 wm_1 wm_807 wm_809 wv_1_14 ⟨by decide, by decide, by decide +kernel⟩ (by decide), List.forall_mem_cons.mpr ⟨cl_virtual (y := y_Ho_embedded) (ci := 12) rfl rfl ⟨_, _, rfl⟩ (by decide +kernel) h_Ho_embedded wm_1052 wm_1 wm_1049 wm_1051 wv_3_6 ⟨by decide, by decide, by decide +kernel⟩ (by decide), List.forall_mem_cons.mpr ⟨cl_virtual (y := y_La_lay) (ci := 4) rfl rfl ⟨_, _, rfl⟩ (by decide +kernel) h_La_lay wm_1309 wm_18 wm_1306 wm_1307 wm_1308 ⟨by decide, by decide, by decide +kernel⟩ (by decide), List.forall_mem_cons.mpr ⟨cl_virtual (y := y_Pn_lay) (ci := 7) rfl rfl ⟨_, _, rfl⟩ (by decide +kernel) h_Pn_lay wm_1504 wm_20 wm_1501 wm_1502 wm_1503 ⟨by decide, by decide, by decide +kernel⟩ (by decide), List.forall_mem_cons.mpr ⟨cl_virtual (y := y_Pl_lay) (ci := 6) rfl rfl ⟨_, _, rfl⟩ (by decide +kernel) h_Pl_lay wm_1687 wm_21 wm_1684 wm_1685 wm_1686 ⟨by decide, by decide, by decide +kernel⟩ (by decide), List.forall_mem_cons.mpr ⟨cq_new (PQ := PRD) (pc := 43) (idx := 290) (index := 292) (rr := 299) (r := 4) h_La_init rfl rfl (by decide +kernel) (by decide +kernel) rfl rfl rfl (ro_none (G := GG) (by decide +kernel)) rfl rfl rfl rfl (by decide +kernel) (by decide +kernel) (by decide +kernel) i_La t_La t_La_ok wm_1186 wm_1187 wm_18 rfl f0La_ok wm_1190 wm_18 (Or.inl wm_1188) wm_1189 rfl ⟨by decide, by decide, by decide +kernel⟩ (by decide) (by decide +kernel) (by decide +kernel) (by decide +kernel), List.forall_mem_cons.mpr ⟨cq_new (PQ := PRD) (pc := 95) (idx := 297) (index := 299) (rr := 301) (r := 7) h_Pn_init rfl rfl (by decide +kernel) (by decide +kernel) rfl rfl rfl (ro_none (G := GG) (by decide +kernel)) rfl rfl rfl rfl (by decide +kernel) (by decide +kernel) (by decide +kernel) i_Pn t_Pn t_Pn_ok wm_1465 wm_1466 wm_20 rfl f0Pn_ok wm_1469 wm_20 (Or.inr ⟨_, wn_1467⟩) wm_1468 rfl ⟨by decide, by decide, by decide +kernel⟩ (by decide) (by decide +kernel) (by decide +kernel) (by decide +kernel), List.forall_mem_cons.mpr ⟨cq_new (PQ := PRD) (pc := 148) (idx := 303) (index := 305) (rr := 302) (r := 6) h_Pl_init rfl rfl (by decide +kernel) (by decide +kernel) rfl rfl rfl (ro_none (G := GG) (by decide +kernel)) rfl rfl rfl rfl (by decide +kernel) (by decide +kernel) (by decide +kernel) i_Pl t_Pl t_Pl_ok wm_1619 wm_1620 wm_21 rfl f0Pl_ok wm_1623 wm_21 (Or.inr ⟨_, wn_1621⟩) wm_1622 rfl ⟨by decide, by decide, by decide +kernel⟩ (by decide) (by decide +kernel) (by decide +kernel) (by decide +kernel), List.forall_mem_nil _⟩⟩⟩⟩⟩⟩⟩⟩⟩, List.forall_mem_nil _, List.forall_mem_nil _, GG_pl⟩ (by decide +kernel)
def o_Ho_draw_at_b_0 : or_T := (23, 9, [(0, (2, 0, 0, [12])), (1, (0, 0, 3, [])), (7, (2, 0, 0, [131])), (8, (2, 0, 0, [3]))], [(14, [8, 7, 1], []), (9, [7, 0], [0]), (20, [0], [62, 0]), (20, [0, 1], [51, 0, 0, 1, 4000000000, 0, 6, 14, 0, 0, 4000, 1, 1, 0, 0])], [], [], [(20, [0, 1, 8], [62, 71])], [], [])
theorem oo_Ho_draw_at_b_0 {kA : Nat → ClassId} : or_ok PRD kA GG o_Ho_draw_at_b_0 := by
  refine or_mk fun A ta ws vs hD hth hl => ?_
  intro t0 r0 t1 k1 t7 r7 t8 r8 f0 f1 f2 f3
  replace f0 := shm_793 f0
  replace f1 := shm_163 f1
  replace f2 := shm_1176 f2
  replace f3 := shm_2316 f3
  have cr_0_0 := fdq_311 hD hth r0
  have ad_7 : v_ad (n_v vs 7) = w_ar ws (n_v vs 0) 0 := congrArg v_ad f1
  have nf0 : fc_1 PRD (20, [0, 1, 8], [62, 71]) ws (vs) := by
    refine ⟨nf_in hl rfl, sgq_1819 ?_⟩
    · show WQF 71 [n_v vs 0, n_v vs 1, n_v vs 8] ws
      have zw := f2
      exact wq_in (zw) (by omega) (by omega) ⟨rfl, rfl⟩ ⟨Or.inr (pO_of f1 f0), trivial⟩
  refine ⟨(fun _ h => (by cases h)), [], trivial, ?_, (fun _ h => (by cases h))⟩
  rw [List.append_nil]
  exact List.forall_mem_cons.mpr ⟨⟨show (20 : Nat) < 100 from by decide, nf0⟩, (fun _ h => (by cases h))⟩
def o_Ho_draw_at_b_1 : or_T := (26, 10, [(0, (2, 0, 0, [12])), (1, (0, 0, 3, [])), (7, (2, 0, 0, [131])), (8, (2, 0, 0, [3])), (9, (0, 0, 24, []))], [(9, [9, 8], [0]), (14, [8, 7, 1], []), (9, [7, 0], [0]), (20, [0, 1], [51, 0, 0, 1, 4000000000, 0, 6, 14, 0, 0, 4000, 1, 1, 0, 0])], [(9, (0, 0, 0, []))], [], [], [], [])
theorem oo_Ho_draw_at_b_1 {kA : Nat → ClassId} : or_ok PRD kA GG o_Ho_draw_at_b_1 := by
  refine or_mk fun A ta ws vs hD hth hl => ?_
  intro t0 r0 t1 k1 t7 r7 t8 r8 t9 k9 f0 f1 f2 f3
  replace f0 := shm_163 f0
  replace f1 := shm_793 f1
  replace f2 := shm_163 f2
  replace f3 := shm_2316 f3
  have cr_0_0 := fdq_311 hD hth r0
  have ad_7 : v_ad (n_v vs 7) = w_ar ws (n_v vs 0) 0 := congrArg v_ad f2
  have g0 : v_iv (n_v vs 9) = w_fi ws (n_v vs 8) 0 := congrArg v_iv f0
  have kz_8_0 := fdq_21 hD hth r8
  first | have gr0 := rfi_nm (kf := 0) (len := 4) (z := v_iv (n_v vs 1)) (v := n_v vs 8) (a := w_ar ws (n_v vs 0) 0) (by first | assumption | omega | (rw [← ad_7]; assumption)) (by omega) (by omega) | skip
  have rf9 : tv_ok ta (0, 0, 0, []) (n_v vs 9) := tv_in t9 (by first | omega | grind) (by first | omega | grind)
  refine ⟨List.forall_mem_cons.mpr ⟨rf9, (fun _ h => (by cases h))⟩, [], trivial, ?_, (fun _ h => (by cases h))⟩
  rw [List.append_nil]
  exact (fun _ h => (by cases h))
def o_Ho_draw_at_b_2 : or_T := (30, 11, [(0, (2, 0, 0, [12])), (4, (0, 0, 3066, []))], [(20, [0, 4], [62, 2000000])], [], [], [(20, [0, 4], [62, 2000006])], [], [])
theorem oo_Ho_draw_at_b_2 {kA : Nat → ClassId} : or_ok PRD kA GG o_Ho_draw_at_b_2 := by
  refine or_mk fun A ta ws vs hD hth hl => ?_
  intro t0 r0 t4 k4 f0
  replace f0 := shm_161 f0
  have nf0 : fc_1 PRD (20, [0, 4], [62, 2000006]) ws (vs) := by
    refine ⟨nf_in hl rfl, sgq_270 ?_⟩
    · show HY ws (n_v vs 0) (v_iv (n_v vs 4) + (((2000006 : Nat) : Int) - 2000000))
      exact hy_le f0 (by omega)
  refine ⟨(fun _ h => (by cases h)), [], trivial, ?_, (fun _ h => (by cases h))⟩
  rw [List.append_nil]
  exact List.forall_mem_cons.mpr ⟨⟨show (20 : Nat) < 100 from by decide, nf0⟩, (fun _ h => (by cases h))⟩
def n_Ho_draw_at_b_an : List an_T := []
def t_Ho_draw_at_b_ct : ct_L := [(0, 115, e_Ho_isPlace)]
set_option maxRecDepth 100000 in
theorem c_Ho_draw_at_b {l : Launch} {D : va_G} {kA : Nat → ClassId} (h_Ho_isPlace : ct_ok PRD l D kA GG y_Ho_isPlace z_Ho_isPlace e_Ho_isPlace) : ct_ok PRD l D kA GG y_Ho_draw_at_b z_Ho_draw_at_b e_Ho_draw_at_b := chk_all_ok (FT := [(13, 12, 0), (31, 12, 3), (86, 12, 17), (90, 12, 18), (94, 12, 19), (132, 3, 0)]) (PT := [(86, 12, 17, .object "DrawingHouse$Layers"), (90, 12, 18, .object "DrawingHouse$PlanarWays"), (94, 12, 19, .object "DrawingHouse$PlainWays"), (309, 0, 1, .int)]) (CT := t_Ho_draw_at_b_ct) (KT := []) (NT := []) (AN := n_Ho_draw_at_b_an) (OT := [o_Ho_draw_at_b_0, o_Ho_draw_at_b_1, o_Ho_draw_at_b_2]) 0 200 (List.forall_mem_cons.mpr ⟨oo_Ho_draw_at_b_0, List.forall_mem_cons.mpr ⟨oo_Ho_draw_at_b_1, List.forall_mem_cons.mpr ⟨oo_Ho_draw_at_b_2, List.forall_mem_nil _⟩⟩⟩) (by decide +kernel) ⟨List.forall_mem_cons.mpr ⟨gf_Ho_13, List.forall_mem_cons.mpr ⟨gf_Ho_31, List.forall_mem_cons.mpr ⟨gf_Ho_86, List.forall_mem_cons.mpr ⟨gf_Ho_90, List.forall_mem_cons.mpr ⟨gf_Ho_94, List.forall_mem_cons.mpr ⟨gf_Ho_132, List.forall_mem_nil _⟩⟩⟩⟩⟩⟩, List.forall_mem_cons.mpr ⟨pf_Ho_86, List.forall_mem_cons.mpr ⟨pf_Ho_90, List.forall_mem_cons.mpr ⟨pf_Ho_94, List.forall_mem_cons.mpr ⟨pf_Ho_309, List.forall_mem_nil _⟩⟩⟩⟩, List.forall_mem_cons.mpr ⟨cl_static (y := y_Ho_isPlace) h_Ho_isPlace wm_633 wm_1 wm_631 wm_632 ⟨by decide, by decide, by decide +kernel⟩ (by decide), List.forall_mem_nil _⟩, List.forall_mem_nil _, List.forall_mem_nil _, GG_pl⟩ (by decide +kernel)
def o_Ho_draw_at_c_0 : or_T := (23, 10, [(0, (2, 0, 0, [12])), (1, (0, 0, 3, [])), (8, (2, 0, 0, [131])), (9, (2, 0, 0, [3]))], [(14, [9, 8, 1], []), (9, [8, 0], [0]), (20, [0], [62, 0])], [], [], [(20, [0, 1, 9], [62, 71])], [], [])
theorem oo_Ho_draw_at_c_0 {kA : Nat → ClassId} : or_ok PRD kA GG o_Ho_draw_at_c_0 := by
  refine or_mk fun A ta ws vs hD hth hl => ?_
  intro t0 r0 t1 k1 t8 r8 t9 r9 f0 f1 f2
  replace f0 := shm_793 f0
  replace f1 := shm_163 f1
  replace f2 := shm_1176 f2
  have cr_0_0 := fdq_311 hD hth r0
  have ad_8 : v_ad (n_v vs 8) = w_ar ws (n_v vs 0) 0 := congrArg v_ad f1
  have nf0 : fc_1 PRD (20, [0, 1, 9], [62, 71]) ws (vs) := by
    refine ⟨nf_in hl rfl, sgq_1819 ?_⟩
    · show WQF 71 [n_v vs 0, n_v vs 1, n_v vs 9] ws
      have zw := f2
      exact wq_in (zw) (by omega) (by omega) ⟨rfl, rfl⟩ ⟨Or.inr (pO_of f1 f0), trivial⟩
  refine ⟨(fun _ h => (by cases h)), [], trivial, ?_, (fun _ h => (by cases h))⟩
  rw [List.append_nil]
  exact List.forall_mem_cons.mpr ⟨⟨show (20 : Nat) < 100 from by decide, nf0⟩, (fun _ h => (by cases h))⟩
set_option maxHeartbeats 4000000 in
theorem vc_Ho_draw_at_c_1_0 (x10 : Int) (nodes_0o9 : Int) (k10 : 1 ≤ x10 ∧ x10 ≤ 24) (g1 : x10 = nodes_0o9) (kz_9_0 : 0 ≤ nodes_0o9 ∧ nodes_0o9 ≤ 24) : 1 ≤ nodes_0o9 := by
  first | omega
def o_Ho_draw_at_c_1 : or_T := (31, 11, [(9, (2, 0, 0, [3])), (10, (0, 1, 24, []))], [(9, [10, 9], [0])], [], [], [(20, [9], [50, 1, 0, 0, 0, 2, 0, 1, 2, 0, 0])], [], [])
theorem oo_Ho_draw_at_c_1 {kA : Nat → ClassId} : or_ok PRD kA GG o_Ho_draw_at_c_1 := by
  refine or_mk fun A ta ws vs hD hth hl => ?_
  intro t9 r9 t10 k10 f1
  replace f1 := shm_163 f1
  have g1 : v_iv (n_v vs 10) = w_fi ws (n_v vs 9) 0 := congrArg v_iv f1
  have kz_9_0 := fdq_21 hD hth r9
  have nf0 : fc_1 PRD (20, [9], [50, 1, 0, 0, 0, 2, 0, 1, 2, 0, 0]) ws (vs) := ⟨nf_in hl rfl, sgq_1220 (vc_Ho_draw_at_c_1_0 (v_iv (n_v vs 10)) (w_fi ws (n_v vs 9) 0) k10 g1 kz_9_0)⟩
  refine ⟨(fun _ h => (by cases h)), [], trivial, ?_, (fun _ h => (by cases h))⟩
  rw [List.append_nil]
  exact List.forall_mem_cons.mpr ⟨⟨show (20 : Nat) < 100 from by decide, nf0⟩, (fun _ h => (by cases h))⟩
def o_Ho_draw_at_c_2 : or_T := (57, 11, [(4, (2, 0, 0, [4]))], [(9, [4, 0], [17]), (20, [0], [62, 1000000])], [], [], [(20, [4], [60, 0, 1, 648, 17])], [], [])
theorem oo_Ho_draw_at_c_2 {kA : Nat → ClassId} : or_ok PRD kA GG o_Ho_draw_at_c_2 := by
  refine or_mk fun A ta ws vs hD hth hl => ?_
  intro t4 r4 f0 f1
  replace f0 := shm_795 f0
  replace f1 := shm_2315 f1
  have nf0 : fc_1 PRD (20, [4], [60, 0, 1, 648, 17]) ws (vs) := by
    refine ⟨nf_in hl rfl, sgq_1096 ?_⟩
    · show ORD (w_ei ws (w_ar ws (n_v vs 4) 17))
      obtain ⟨ax, _, ex, _⟩ := tv_ref t4 rfl
      exact hl_ord (g := GG_4) hD hth f1 f0 r4 rfl (by decide) rfl rfl ⟨ax, ex⟩
  refine ⟨(fun _ h => (by cases h)), [], trivial, ?_, (fun _ h => (by cases h))⟩
  rw [List.append_nil]
  exact List.forall_mem_cons.mpr ⟨⟨show (20 : Nat) < 100 from by decide, nf0⟩, (fun _ h => (by cases h))⟩
def o_Ho_draw_at_c_3 : or_T := (63, 12, [(0, (2, 0, 0, [12])), (1, (0, 0, 3, [])), (8, (2, 0, 0, [131])), (9, (2, 0, 0, [3])), (11, (2, 0, 0, [3]))], [(14, [11, 8, 1], []), (9, [8, 0], [0]), (20, [0, 1, 9], [62, 71])], [], [], [(24, [9, 11], [])], [], [])
theorem oo_Ho_draw_at_c_3 {kA : Nat → ClassId} : or_ok PRD kA GG o_Ho_draw_at_c_3 := by
  refine or_mk fun A ta ws vs hD hth hl => ?_
  intro t0 r0 t1 k1 t8 r8 t9 r9 t11 r11 f0 f1 f2
  replace f0 := shm_793 f0
  replace f1 := shm_163 f1
  replace f2 := shm_1819 f2
  have nf0 : fc_1 PRD (24, [9, 11], []) ws (vs) := by
    refine ⟨nf_in hl rfl, sgq_5 ?_⟩
    · show n_v vs 9 = n_v vs 11
      exact ref_same t9 t11 rfl rfl ((wl_0 (wq_wl f2) (by decide)).trans (pO_of f1 f0).symm)
  refine ⟨(fun _ h => (by cases h)), [], trivial, ?_, (fun _ h => (by cases h))⟩
  rw [List.append_nil]
  exact List.forall_mem_cons.mpr ⟨⟨show (24 : Nat) < 100 from by decide, nf0⟩, (fun _ h => (by cases h))⟩
def o_Ho_draw_at_c_4 : or_T := (63, 12, [(0, (2, 0, 0, [12])), (1, (0, 0, 3, [])), (4, (2, 0, 0, [4])), (9, (2, 0, 0, [3])), (10, (0, 1, 24, [])), (11, (2, 0, 0, [3]))], [(24, [9, 11], []), (20, [4], [60, 0, 1, 648, 17]), (20, [9], [50, 1, 0, 0, 0, 2, 0, 1, 2, 0, 0]), (8, [10], [1]), (9, [10, 9], [0]), (20, [0, 1, 9], [62, 71])], [], [], [(20, [0, 1, 11], [62, 71])], [], [])
theorem oo_Ho_draw_at_c_4 {kA : Nat → ClassId} : or_ok PRD kA GG o_Ho_draw_at_c_4 := by
  refine or_mk fun A ta ws vs hD hth hl => ?_
  intro t0 r0 t1 k1 t4 r4 t9 r9 t10 k10 t11 r11 f0 f1 f2 f3 f4 f5
  replace f0 := shm_5 f0
  replace f5 := shm_1819 f5
  have q11 : n_v vs 11 = n_v vs 9 := f0.symm
  have nf0 : fc_1 PRD (20, [0, 1, 11], [62, 71]) ws (vs) := by
    refine ⟨nf_in hl rfl, sgq_1819 ?_⟩
    · show WQF 71 [n_v vs 0, n_v vs 1, n_v vs 11] ws
      first | rw [q11] | skip
      have zw := f5
      first | rw [show n_v vs 9 = n_v vs 11 from (by first | exact f0 | exact f0.symm)] at zw | skip
      first | exact zw | ((first | rw [q11] at zw | skip); exact zw)
  refine ⟨(fun _ h => (by cases h)), [], trivial, ?_, (fun _ h => (by cases h))⟩
  rw [List.append_nil]
  exact List.forall_mem_cons.mpr ⟨⟨show (20 : Nat) < 100 from by decide, nf0⟩, (fun _ h => (by cases h))⟩
def o_Ho_draw_at_c_5 : or_T := (68, 13, [(0, (2, 0, 0, [12]))], [(20, [0], [62, 0]), (102, [11], [281337537757184, 2000, 2001, 2002, 2003]), (20, [0, 1, 11], [62, 71])], [], [], [(20, [0, 1, 11], [62, 71])], [], [])
theorem oo_Ho_draw_at_c_5 {kA : Nat → ClassId} : or_ok PRD kA GG o_Ho_draw_at_c_5 := by
  refine or_mk fun A ta ws vs hD hth hl => ?_
  intro t0 r0 f0 ta1 w1 le1 s1 f2
  replace f0 := shm_1176 f0
  replace s1 := s1.2
  replace f2 := shm_1819 f2
  have nf0 : fc_1 PRD (20, [0, 1, 11], [62, 71]) ws (vs) := by
    refine ⟨nf_in hl rfl, sgq_1819 ?_⟩
    · show WQF 71 [n_v vs 0, n_v vs 1, n_v vs 11] ws
      obtain ⟨aH, _, eH, _⟩ := tv_ref t0 rfl
      have hH0 := s1.2.2.1 11 List.mem_cons_self 0 (by decide) aH eH
      exact wq_step f0 (hd_call hD hth (by decide +kernel) le1 r0 (by rw [eH]; exact hH0) s1 (by decide +kernel)) f2 (by decide)
  refine ⟨(fun _ h => (by cases h)), [], trivial, ?_, (fun _ h => (by cases h))⟩
  rw [List.append_nil]
  exact List.forall_mem_cons.mpr ⟨⟨show (20 : Nat) < 100 from by decide, nf0⟩, (fun _ h => (by cases h))⟩
def o_Ho_draw_at_c_6 : or_T := (74, 15, [(0, (2, 0, 0, [12])), (1, (0, 0, 3, [])), (11, (2, 0, 0, [3]))], [(20, [0, 1, 11], [62, 71])], [], [], [(20, [11], [60, 2, 2, 596, 0, 1, 7, 8])], [], [])
theorem oo_Ho_draw_at_c_6 {kA : Nat → ClassId} : or_ok PRD kA GG o_Ho_draw_at_c_6 := by
  refine or_mk fun A ta ws vs hD hth hl => ?_
  intro t0 r0 t1 k1 t11 r11 f0
  replace f0 := shm_1819 f0
  have nf0 : fc_1 PRD (20, [11], [60, 2, 2, 596, 0, 1, 7, 8]) ws (vs) := by
    refine ⟨nf_in hl rfl, sgq_386 ?_⟩
    · show GKE (w_fi ws (n_v vs 11) 0) (w_fi ws (n_v vs 11) 1) (w_ei ws (w_ar ws (n_v vs 11) 7)) (w_ei ws (w_ar ws (n_v vs 11) 8))
      exact hg_gke (wq_hg f0 (by decide) (wl_0 (wq_wl (k := 71) f0) (by decide)))
  refine ⟨(fun _ h => (by cases h)), [], trivial, ?_, (fun _ h => (by cases h))⟩
  rw [List.append_nil]
  exact List.forall_mem_cons.mpr ⟨⟨show (20 : Nat) < 100 from by decide, nf0⟩, (fun _ h => (by cases h))⟩
def o_Ho_draw_at_c_7 : or_T := (74, 15, [(0, (2, 0, 0, [12])), (1, (0, 0, 3, [])), (11, (2, 0, 0, [3])), (12, (2, 0, 0, [2]))], [(20, [0, 1, 11], [62, 71]), (20, [0, 1, 12], [62, 135]), (20, [12], [50, 1, 0, 0, 7, 3, 2, 0, 0, 0, 0])], [], [], [(20, [11, 12], [60, 1, 3, 658, 1, 7, 8, 1009])], [], [])
theorem oo_Ho_draw_at_c_7 {kA : Nat → ClassId} : or_ok PRD kA GG o_Ho_draw_at_c_7 := by
  refine or_mk fun A ta ws vs hD hth hl => ?_
  intro t0 r0 t1 k1 t11 r11 t12 r12 f0 f1 f2
  replace f0 := shm_1819 f0
  replace f1 := shm_2132 f1
  replace f2 := shm_2130 f2
  have nf0 : fc_1 PRD (20, [11, 12], [60, 1, 3, 658, 1, 7, 8, 1009]) ws (vs) := by
    refine ⟨nf_in hl rfl, sgq_1906 ?_⟩
    · show TPO (w_fi ws (n_v vs 11) 1) (w_ei ws (w_ar ws (n_v vs 11) 7)) (w_ei ws (w_ar ws (n_v vs 11) 8)) (w_ei ws (w_ar ws (n_v vs 12) 9))
      exact (hf_all (wq_hf f0 (by decide) (wl_0 (wq_wl (k := 71) f0) (by decide)) (wl_0 (wq_wl (k := 135) f1) (by decide))) (show w_fi ws (n_v vs 12) 0 ≠ 0 from f2)).2.2.1
  refine ⟨(fun _ h => (by cases h)), [], trivial, ?_, (fun _ h => (by cases h))⟩
  rw [List.append_nil]
  exact List.forall_mem_cons.mpr ⟨⟨show (20 : Nat) < 100 from by decide, nf0⟩, (fun _ h => (by cases h))⟩
set_option maxHeartbeats 4000000 in
theorem vc_Ho_draw_at_c_8_0 (nodes_0o9 : Int) (f5 : 1 ≤ nodes_0o9) (kz_9_0 : 0 ≤ nodes_0o9 ∧ nodes_0o9 ≤ 24) : 1 ≤ nodes_0o9 := by
  first | omega
set_option maxHeartbeats 4000000 in
theorem vc_Ho_draw_at_c_8_2 (x5 : Int) (gy : Int) (k5 : 0 ≤ x5 ∧ x5 ≤ 3066) (ey2 : gy = x5) : 1 * gy + ((-1) * x5 + 0) ≤ 0 := by
  first | omega
set_option maxHeartbeats 4000000 in
theorem vc_Ho_draw_at_c_8_3 (x5 : Int) (gy : Int) (k5 : 0 ≤ x5 ∧ x5 ≤ 3066) (ey2 : gy = x5) : (-1) * gy + (1 * x5 + 0) ≤ 0 := by
  first | omega
set_option maxHeartbeats 4000000 in
theorem vc_Ho_draw_at_c_8_4 (nodes_0o9 : Int) (tail_0o9 : Int → Int) (head_0o9 : Int → Int) (edges_0o9 : Int) (f2 : GKE (nodes_0o9) (edges_0o9) (tail_0o9) (head_0o9)) (kz_9_0 : 0 ≤ nodes_0o9 ∧ nodes_0o9 ≤ 24) (kz_9_1 : 0 ≤ edges_0o9 ∧ edges_0o9 ≤ 48) : GKE (nodes_0o9) (edges_0o9) (tail_0o9) (head_0o9) := by
  first | assumption
set_option maxHeartbeats 4000000 in
theorem vc_Ho_draw_at_c_8_5 (tail_0o9 : Int → Int) (head_0o9 : Int → Int) (turned_0o12 : Int → Int) (edges_0o9 : Int) (f1 : TPO (edges_0o9) (tail_0o9) (head_0o9) (turned_0o12)) (kz_9_1 : 0 ≤ edges_0o9 ∧ edges_0o9 ≤ 48) : TPO (edges_0o9) (tail_0o9) (head_0o9) (turned_0o12) := by
  first | assumption
set_option maxHeartbeats 4000000 in
theorem vc_Ho_draw_at_c_8_6 (nodes_0o9 : Int) (f5 : 1 ≤ nodes_0o9) (kz_9_0 : 0 ≤ nodes_0o9 ∧ nodes_0o9 ≤ 24) : 1 ≤ nodes_0o9 := by
  first | omega
set_option maxHeartbeats 4000000 in
theorem vc_Ho_draw_at_c_8_7 (orders_0o4 : Int → Int) (f4 : ORD (orders_0o4)) : ORD (orders_0o4) := by
  first | assumption
def o_Ho_draw_at_c_8 : or_T := (74, 15, [(0, (2, 0, 0, [12])), (4, (2, 0, 0, [4])), (5, (0, 0, 3066, [])), (9, (2, 0, 0, [3])), (10, (0, 1, 24, [])), (11, (2, 0, 0, [3])), (12, (2, 0, 0, [2]))], [(9, [10, 9], [0]), (20, [11, 12], [60, 1, 3, 658, 1, 7, 8, 1009]), (20, [11], [60, 2, 2, 596, 0, 1, 7, 8]), (24, [9, 11], []), (20, [4], [60, 0, 1, 648, 17]), (20, [9], [50, 1, 0, 0, 0, 2, 0, 1, 2, 0, 0]), (20, [0, 5], [62, 2000000]), (20, [12], [50, 1, 0, 0, 7, 3, 2, 0, 0, 0, 0]), (102, [11], [281337537757184, 2000, 2001, 2002, 2003]), (8, [10], [1])], [], [(2, 0, 0, [12]), (0, 0, 3072, [])], [(20, [11], [50, 1, 0, 0, 0, 2, 0, 1, 2, 0, 0]), (24, [0, 15], []), (23, [16, 5], [0, 1, -1]), (23, [16, 5], [0, -1, 1]), (20, [11], [60, 2, 2, 596, 0, 1, 7, 8]), (20, [11, 12], [60, 1, 3, 658, 1, 7, 8, 1009]), (20, [11], [50, 1, 0, 0, 0, 2, 0, 1, 2, 0, 0]), (20, [4], [60, 0, 1, 648, 17]), (20, [15, 16], [62, 2000000])], [], [])
theorem oo_Ho_draw_at_c_8 {kA : Nat → ClassId} : or_ok PRD kA GG o_Ho_draw_at_c_8 := by
  refine or_mk fun A ta ws vs hD hth hl => ?_
  intro t0 r0 t4 r4 t5 k5 t9 r9 t10 k10 t11 r11 t12 r12 f0 f1 f2 f3 f4 f5 f6 f7 ta1 w1 le1 s1 f9
  replace f0 := shm_163 f0
  replace f1 := shm_1906 f1
  replace f2 := shm_386 f2
  replace f3 := shm_5 f3
  replace f4 := shm_1096 f4
  replace f5 := shm_1220 f5
  replace f6 := shm_161 f6
  replace f7 := shm_2130 f7
  replace f9 := shm_142 f9
  have q11 : n_v vs 11 = n_v vs 9 := f3.symm
  simp only [q11] at f1 f2
  have cr_4_17 := fdq_251 hD hth r4
  have cr_9_7 := fdq_46 hD hth r9
  have cr_9_8 := fdq_47 hD hth r9
  have cr_12_9 := fdq_76 hD hth r12
  have g0 : v_iv (n_v vs 10) = w_fi ws (n_v vs 9) 0 := congrArg v_iv f0
  have hK_4_17 := elq_158 hD hth cr_4_17
  have hK_9_7 := elq_11 hD hth cr_9_7
  have hK_9_8 := elq_12 hD hth cr_9_8
  have hK_12_9 := elq_38 hD hth cr_12_9
  have kz_9_0 := fdq_21 hD hth r9
  have kz_9_1 := fdq_30 hD hth r9
  have kz_12_0 := fdq_294 hD hth r12
  obtain ⟨y, ey, hy⟩ := iv_ex (ta := ta) (lo := 0) (hi := 3072) (z := v_iv (n_v vs 5)) (by omega) (by omega) (by omega) (by omega)
  have ey2 : v_iv (Value.int y) = v_iv (n_v vs 5) := ey
  have ey3 : 0 ≤ v_iv (Value.int y) ∧ v_iv (Value.int y) ≤ 3072 := tv_rng hy
  have e_0 : n_v (vs ++ [n_v vs 0, Value.int y]) 0 = n_v vs 0 := n_v_old (by rw [hl]; decide)
  have e_4 : n_v (vs ++ [n_v vs 0, Value.int y]) 4 = n_v vs 4 := n_v_old (by rw [hl]; decide)
  have e_5 : n_v (vs ++ [n_v vs 0, Value.int y]) 5 = n_v vs 5 := n_v_old (by rw [hl]; decide)
  have e_11 : n_v (vs ++ [n_v vs 0, Value.int y]) 11 = n_v vs 11 := n_v_old (by rw [hl]; decide)
  have e_12 : n_v (vs ++ [n_v vs 0, Value.int y]) 12 = n_v vs 12 := n_v_old (by rw [hl]; decide)
  have e_15 : n_v (vs ++ [n_v vs 0, Value.int y]) 15 = n_v vs 0 := n_v_new0 hl
  have e_16 : n_v (vs ++ [n_v vs 0, Value.int y]) 16 = Value.int y := n_v_new1 hl
  have nf0 : fc_1 PRD (20, [11], [50, 1, 0, 0, 0, 2, 0, 1, 2, 0, 0]) ws (vs ++ [n_v vs 0, Value.int y]) := by
    refine ⟨nf_inA hl rfl, sgq_1220 ?_⟩
    · show 1 ≤ w_fi ws (n_v (vs ++ [n_v vs 0, Value.int y]) 11) 0
      simp only [e_11, q11]
      exact vc_Ho_draw_at_c_8_0 (w_fi ws (n_v vs 9) 0) f5 kz_9_0
  have nf1 : fc_1 PRD (24, [0, 15], []) ws (vs ++ [n_v vs 0, Value.int y]) := by
    refine ⟨nf_inA hl rfl, sgq_5 ?_⟩
    · show n_v (vs ++ [n_v vs 0, Value.int y]) 0 = n_v (vs ++ [n_v vs 0, Value.int y]) 15
      first | rfl | simp only [e_0, e_15, q11]
  have nf2 : fc_1 PRD (23, [16, 5], [0, 1, -1]) ws (vs ++ [n_v vs 0, Value.int y]) := by
    refine ⟨nf_inA hl rfl, sgq_7 ?_⟩
    · show 1 * v_iv (n_v (vs ++ [n_v vs 0, Value.int y]) 16) + ((-1) * v_iv (n_v (vs ++ [n_v vs 0, Value.int y]) 5) + 0) ≤ 0
      simp only [e_5, e_16]
      exact vc_Ho_draw_at_c_8_2 (v_iv (n_v vs 5)) (v_iv (Value.int y)) k5 ey2
  have nf3 : fc_1 PRD (23, [16, 5], [0, -1, 1]) ws (vs ++ [n_v vs 0, Value.int y]) := by
    refine ⟨nf_inA hl rfl, sgq_22 ?_⟩
    · show (-1) * v_iv (n_v (vs ++ [n_v vs 0, Value.int y]) 16) + (1 * v_iv (n_v (vs ++ [n_v vs 0, Value.int y]) 5) + 0) ≤ 0
      simp only [e_5, e_16]
      exact vc_Ho_draw_at_c_8_3 (v_iv (n_v vs 5)) (v_iv (Value.int y)) k5 ey2
  have nf4 : fc_1 PRD (20, [11], [60, 2, 2, 596, 0, 1, 7, 8]) ws (vs ++ [n_v vs 0, Value.int y]) := by
    refine ⟨nf_inA hl rfl, sgq_386 ?_⟩
    · show GKE (w_fi ws (n_v (vs ++ [n_v vs 0, Value.int y]) 11) 0) (w_fi ws (n_v (vs ++ [n_v vs 0, Value.int y]) 11) 1) (w_ei ws (w_ar ws (n_v (vs ++ [n_v vs 0, Value.int y]) 11) 7)) (w_ei ws (w_ar ws (n_v (vs ++ [n_v vs 0, Value.int y]) 11) 8))
      simp only [e_11, q11]
      exact vc_Ho_draw_at_c_8_4 (w_fi ws (n_v vs 9) 0) (w_ei ws (w_ar ws (n_v vs 9) 7)) (w_ei ws (w_ar ws (n_v vs 9) 8)) (w_fi ws (n_v vs 9) 1) f2 kz_9_0 kz_9_1
  have nf5 : fc_1 PRD (20, [11, 12], [60, 1, 3, 658, 1, 7, 8, 1009]) ws (vs ++ [n_v vs 0, Value.int y]) := by
    refine ⟨nf_inA hl rfl, sgq_1906 ?_⟩
    · show TPO (w_fi ws (n_v (vs ++ [n_v vs 0, Value.int y]) 11) 1) (w_ei ws (w_ar ws (n_v (vs ++ [n_v vs 0, Value.int y]) 11) 7)) (w_ei ws (w_ar ws (n_v (vs ++ [n_v vs 0, Value.int y]) 11) 8)) (w_ei ws (w_ar ws (n_v (vs ++ [n_v vs 0, Value.int y]) 12) 9))
      simp only [e_11, e_12, q11]
      exact vc_Ho_draw_at_c_8_5 (w_ei ws (w_ar ws (n_v vs 9) 7)) (w_ei ws (w_ar ws (n_v vs 9) 8)) (w_ei ws (w_ar ws (n_v vs 12) 9)) (w_fi ws (n_v vs 9) 1) f1 kz_9_1
  have nf6 : fc_1 PRD (20, [11], [50, 1, 0, 0, 0, 2, 0, 1, 2, 0, 0]) ws (vs ++ [n_v vs 0, Value.int y]) := by
    refine ⟨nf_inA hl rfl, sgq_1220 ?_⟩
    · show 1 ≤ w_fi ws (n_v (vs ++ [n_v vs 0, Value.int y]) 11) 0
      simp only [e_11, q11]
      exact vc_Ho_draw_at_c_8_6 (w_fi ws (n_v vs 9) 0) f5 kz_9_0
  have nf7 : fc_1 PRD (20, [4], [60, 0, 1, 648, 17]) ws (vs ++ [n_v vs 0, Value.int y]) := by
    refine ⟨nf_inA hl rfl, sgq_1096 ?_⟩
    · show ORD (w_ei ws (w_ar ws (n_v (vs ++ [n_v vs 0, Value.int y]) 4) 17))
      rw [e_4]
      exact vc_Ho_draw_at_c_8_7 (w_ei ws (w_ar ws (n_v vs 4) 17)) f4
  have nf8 : fc_1 PRD (20, [15, 16], [62, 2000000]) ws (vs ++ [n_v vs 0, Value.int y]) := by
    refine ⟨nf_inA hl rfl, sgq_161 ?_⟩
    · show HY ws (n_v (vs ++ [n_v vs 0, Value.int y]) 15) (v_iv (n_v (vs ++ [n_v vs 0, Value.int y]) 16) + (((2000000 : Nat) : Int) - 2000000))
      simp only [e_15, e_16]
      exact hy_le f6 (by omega)
  exact ⟨(fun _ h => (by cases h)), [n_v vs 0, Value.int y], ag_two t0 hy, List.forall_mem_cons.mpr ⟨⟨show (20 : Nat) < 100 from by decide, nf0⟩, List.forall_mem_cons.mpr ⟨⟨show (24 : Nat) < 100 from by decide, nf1⟩, List.forall_mem_cons.mpr ⟨⟨show (23 : Nat) < 100 from by decide, nf2⟩, List.forall_mem_cons.mpr ⟨⟨show (23 : Nat) < 100 from by decide, nf3⟩, List.forall_mem_cons.mpr ⟨⟨show (20 : Nat) < 100 from by decide, nf4⟩, List.forall_mem_cons.mpr ⟨⟨show (20 : Nat) < 100 from by decide, nf5⟩, List.forall_mem_cons.mpr ⟨⟨show (20 : Nat) < 100 from by decide, nf6⟩, List.forall_mem_cons.mpr ⟨⟨show (20 : Nat) < 100 from by decide, nf7⟩, List.forall_mem_cons.mpr ⟨⟨show (20 : Nat) < 100 from by decide, nf8⟩, (fun _ h => (by cases h))⟩⟩⟩⟩⟩⟩⟩⟩⟩, (fun _ h => (by cases h))⟩
def o_Ho_draw_at_c_9 : or_T := (203, 20, [(0, (2, 0, 0, [12])), (4, (2, 0, 0, [4])), (5, (0, 0, 3066, [])), (9, (2, 0, 0, [3])), (10, (0, 1, 24, [])), (11, (2, 0, 0, [3])), (12, (2, 0, 0, [2])), (15, (2, 0, 0, [12])), (16, (0, 0, 3072, [])), (19, (2, 0, 0, [0]))], [(9, [10, 9], [0]), (20, [11], [50, 1, 0, 0, 0, 2, 0, 1, 2, 0, 0]), (24, [0, 15], []), (23, [16, 5], [0, 1, -1]), (23, [16, 5], [0, -1, 1]), (20, [11], [60, 2, 2, 596, 0, 1, 7, 8]), (20, [11, 12], [60, 1, 3, 658, 1, 7, 8, 1009]), (20, [11], [50, 1, 0, 0, 0, 2, 0, 1, 2, 0, 0]), (20, [4], [60, 0, 1, 648, 17]), (20, [11, 12], [60, 1, 3, 658, 1, 7, 8, 1009]), (20, [11], [60, 2, 2, 596, 0, 1, 7, 8]), (24, [9, 11], []), (20, [4], [60, 0, 1, 648, 17]), (20, [9], [50, 1, 0, 0, 0, 2, 0, 1, 2, 0, 0]), (20, [12], [50, 1, 0, 0, 7, 3, 2, 0, 0, 0, 0]), (20, [15, 16], [62, 2000000]), (101, [19, 2], [1]), (20, [11], [50, 1, 0, 0, 0, 2, 0, 1, 2, 0, 0]), (23, [16, 5], [0, 1, -1]), (23, [16, 5], [0, -1, 1]), (20, [11], [60, 2, 2, 596, 0, 1, 7, 8]), (20, [11, 12], [60, 1, 3, 658, 1, 7, 8, 1009]), (20, [11], [50, 1, 0, 0, 0, 2, 0, 1, 2, 0, 0]), (20, [4], [60, 0, 1, 648, 17]), (20, [11, 12], [60, 1, 3, 658, 1, 7, 8, 1009]), (20, [11], [60, 2, 2, 596, 0, 1, 7, 8]), (20, [4], [60, 0, 1, 648, 17]), (20, [9], [50, 1, 0, 0, 0, 2, 0, 1, 2, 0, 0]), (20, [12], [50, 1, 0, 0, 7, 3, 2, 0, 0, 0, 0]), (102, [16], [42202988866171645644062132502901276672, 7, 8, 4001, 4002, 4003, 10000, 10001]), (23, [16, 5], [0, 1, -1]), (23, [16, 5], [0, -1, 1]), (102, [11], [281337537757184, 2000, 2001, 2002, 2003]), (8, [10], [1])], [], [], [(20, [0, 5], [62, 2000006])], [], [])
theorem oo_Ho_draw_at_c_9 {kA : Nat → ClassId} : or_ok PRD kA GG o_Ho_draw_at_c_9 := by
  refine or_mk fun A ta ws vs hD hth hl => ?_
  intro t0 r0 t4 r4 t5 k5 t9 r9 t10 k10 t11 r11 t12 r12 t15 r15 t16 k16 t19 r19 f0 f1 f2 f3 f4 f5 f6 f7 f8 f9 f10 f11 f12 f13 f14 f15 ta1 w1 le1 s1 f17 f18 f19 f20 f21 f22 f23 f24 f25 f26 f27 f28 ta2 w2 le2 s2 f30 f31 ta3 w3 le3 s3 f33
  replace f0 := shm_163 f0
  replace f1 := shm_1220 f1
  replace f2 := shm_5 f2
  replace f3 := shm_7 f3
  replace f4 := shm_22 f4
  replace f5 := shm_386 f5
  replace f6 := shm_1906 f6
  replace f7 := shm_1220 f7
  replace f8 := shm_1096 f8
  replace f9 := shm_1906 f9
  replace f10 := shm_386 f10
  replace f11 := shm_5 f11
  replace f12 := shm_1096 f12
  replace f13 := shm_1220 f13
  replace f14 := shm_2130 f14
  replace f15 := shm_161 f15
  have s1 : (∀ b j, w_el ws b j = w_el w1 b j) ∧ ∀ b j, w_fd ws b j = if b = v_ad (n_v vs 19) ∧ j = 1 then n_v vs 2 else w_fd w1 b j := s1.2
  replace f17 := shm_1220 f17
  replace f18 := shm_7 f18
  replace f19 := shm_22 f19
  replace f20 := shm_386 f20
  replace f21 := shm_1906 f21
  replace f22 := shm_1220 f22
  replace f23 := shm_1096 f23
  replace f24 := shm_1906 f24
  replace f25 := shm_386 f25
  replace f26 := shm_1096 f26
  replace f27 := shm_1220 f27
  replace f28 := shm_2130 f28
  replace f30 := shm_7 f30
  replace f31 := shm_22 f31
  replace f33 := shm_142 f33
  have q15 : n_v vs 15 = n_v vs 0 := f2.symm
  have q11 : n_v vs 11 = n_v vs 9 := f11.symm
  simp only [q11, q15] at f1 f5 f6 f7 f9 f10 f15 f17 f20 f21 f22 f24 f25
  have ar_4_17_1 : w_ar w1 (n_v vs 4) 17 = w_ar ws (n_v vs 4) 17 := by show v_ad (w_fd w1 _ _) = v_ad (w_fd ws _ _); rw [s1.2, if_neg (fun e => absurd e.2 (by decide))]
  have cr_4_17 := fdq_251 hD hth r4
  have ar_9_7_1 : w_ar w1 (n_v vs 9) 7 = w_ar ws (n_v vs 9) 7 := by show v_ad (w_fd w1 _ _) = v_ad (w_fd ws _ _); rw [s1.2, if_neg (fun e => absurd e.2 (by decide))]
  have cr_9_7 := fdq_46 hD hth r9
  have ar_9_8_1 : w_ar w1 (n_v vs 9) 8 = w_ar ws (n_v vs 9) 8 := by show v_ad (w_fd w1 _ _) = v_ad (w_fd ws _ _); rw [s1.2, if_neg (fun e => absurd e.2 (by decide))]
  have cr_9_8 := fdq_47 hD hth r9
  have ar_12_9_1 : w_ar w1 (n_v vs 12) 9 = w_ar ws (n_v vs 12) 9 := by show v_ad (w_fd w1 _ _) = v_ad (w_fd ws _ _); rw [s1.2, if_neg (fun e => absurd e.2 (by decide))]
  have cr_12_9 := fdq_76 hD hth r12
  have g0 : v_iv (n_v vs 10) = w_fi ws (n_v vs 9) 0 := congrArg v_iv f0
  simp only [ar_9_7_1, ar_9_8_1, ar_12_9_1, ar_4_17_1] at f20 f21 f23 f24 f25 f26
  have fe_9_0_1 : w_fi ws (n_v vs 9) 0 = w_fi w1 (n_v vs 9) 0 := by show v_iv (w_fd _ _ _) = v_iv (w_fd _ _ _); rw [s1.2, if_neg (fun e => absurd e.2 (by decide))]
  have fe_9_1_1 : w_fi ws (n_v vs 9) 1 = w_fi w1 (n_v vs 9) 1 := by show v_iv (w_fd _ _ _) = v_iv (w_fd _ _ _); rw [s1.2, if_neg (fun e => by have e1 := e.1; have e2 := r9; rw [e1, r19] at e2; exact absurd (Option.some.inj e2) (by decide))]
  have fe_12_0_1 : w_fi ws (n_v vs 12) 0 = w_fi w1 (n_v vs 12) 0 := by show v_iv (w_fd _ _ _) = v_iv (w_fd _ _ _); rw [s1.2, if_neg (fun e => absurd e.2 (by decide))]
  have hE_4_17_1 : ∀ j : Int, w_ei ws (w_ar ws (n_v vs 4) 17) j = w_ei w1 (w_ar ws (n_v vs 4) 17) j := fun j => s1.1 _ _
  have hK_4_17 := elq_158 hD hth cr_4_17
  have hE_9_7_1 : ∀ j : Int, w_ei ws (w_ar ws (n_v vs 9) 7) j = w_ei w1 (w_ar ws (n_v vs 9) 7) j := fun j => s1.1 _ _
  have hK_9_7 := elq_11 hD hth cr_9_7
  have hE_9_8_1 : ∀ j : Int, w_ei ws (w_ar ws (n_v vs 9) 8) j = w_ei w1 (w_ar ws (n_v vs 9) 8) j := fun j => s1.1 _ _
  have hK_9_8 := elq_12 hD hth cr_9_8
  have hE_12_9_1 : ∀ j : Int, w_ei ws (w_ar ws (n_v vs 12) 9) j = w_ei w1 (w_ar ws (n_v vs 12) 9) j := fun j => s1.1 _ _
  have hK_12_9 := elq_38 hD hth cr_12_9
  have kz_9_0 := fdq_21 hD hth r9
  have kz_9_1 := fdq_30 hD hth r9
  have kz_12_0 := fdq_294 hD hth r12
  have nf0 : fc_1 PRD (20, [0, 5], [62, 2000006]) ws (vs) := by
    refine ⟨nf_in hl rfl, sgq_270 ?_⟩
    · show HY ws (n_v vs 0) (v_iv (n_v vs 5) + (((2000006 : Nat) : Int) - 2000000))
      exact hy_le f15 (by omega)
  refine ⟨(fun _ h => (by cases h)), [], trivial, ?_, (fun _ h => (by cases h))⟩
  rw [List.append_nil]
  exact List.forall_mem_cons.mpr ⟨⟨show (20 : Nat) < 100 from by decide, nf0⟩, (fun _ h => (by cases h))⟩
def o_Ho_draw_at_c_10 : or_T := (203, 19, [(0, (2, 0, 0, [12])), (4, (2, 0, 0, [4])), (5, (0, 0, 3066, [])), (9, (2, 0, 0, [3])), (10, (0, 1, 24, [])), (11, (2, 0, 0, [3])), (12, (2, 0, 0, [2])), (15, (2, 0, 0, [12])), (16, (0, 0, 3072, []))], [(9, [10, 9], [0]), (20, [11], [50, 1, 0, 0, 0, 2, 0, 1, 2, 0, 0]), (24, [0, 15], []), (23, [16, 5], [0, 1, -1]), (23, [16, 5], [0, -1, 1]), (20, [11], [60, 2, 2, 596, 0, 1, 7, 8]), (20, [11, 12], [60, 1, 3, 658, 1, 7, 8, 1009]), (20, [11], [50, 1, 0, 0, 0, 2, 0, 1, 2, 0, 0]), (20, [4], [60, 0, 1, 648, 17]), (20, [11, 12], [60, 1, 3, 658, 1, 7, 8, 1009]), (20, [11], [60, 2, 2, 596, 0, 1, 7, 8]), (24, [9, 11], []), (20, [4], [60, 0, 1, 648, 17]), (20, [9], [50, 1, 0, 0, 0, 2, 0, 1, 2, 0, 0]), (20, [12], [50, 1, 0, 0, 7, 3, 2, 0, 0, 0, 0]), (20, [15, 16], [62, 2000000]), (102, [16], [42202988866171645644062132502901276672, 7, 8, 4001, 4002, 4003, 10000, 10001]), (23, [16, 5], [0, 1, -1]), (23, [16, 5], [0, -1, 1]), (102, [11], [281337537757184, 2000, 2001, 2002, 2003]), (8, [10], [1])], [], [], [(20, [0, 5], [62, 2000006])], [], [])
theorem oo_Ho_draw_at_c_10 {kA : Nat → ClassId} : or_ok PRD kA GG o_Ho_draw_at_c_10 := by
  refine or_mk fun A ta ws vs hD hth hl => ?_
  intro t0 r0 t4 r4 t5 k5 t9 r9 t10 k10 t11 r11 t12 r12 t15 r15 t16 k16 f0 f1 f2 f3 f4 f5 f6 f7 f8 f9 f10 f11 f12 f13 f14 f15 ta1 w1 le1 s1 f17 f18 ta2 w2 le2 s2 f20
  replace f0 := shm_163 f0
  replace f1 := shm_1220 f1
  replace f2 := shm_5 f2
  replace f3 := shm_7 f3
  replace f4 := shm_22 f4
  replace f5 := shm_386 f5
  replace f6 := shm_1906 f6
  replace f7 := shm_1220 f7
  replace f8 := shm_1096 f8
  replace f9 := shm_1906 f9
  replace f10 := shm_386 f10
  replace f11 := shm_5 f11
  replace f12 := shm_1096 f12
  replace f13 := shm_1220 f13
  replace f14 := shm_2130 f14
  replace f15 := shm_161 f15
  replace f17 := shm_7 f17
  replace f18 := shm_22 f18
  replace f20 := shm_142 f20
  have q15 : n_v vs 15 = n_v vs 0 := f2.symm
  have q11 : n_v vs 11 = n_v vs 9 := f11.symm
  simp only [q11, q15] at f1 f5 f6 f7 f9 f10 f15
  have cr_4_17 := fdq_251 hD hth r4
  have cr_9_7 := fdq_46 hD hth r9
  have cr_9_8 := fdq_47 hD hth r9
  have cr_12_9 := fdq_76 hD hth r12
  have g0 : v_iv (n_v vs 10) = w_fi ws (n_v vs 9) 0 := congrArg v_iv f0
  have hK_4_17 := elq_158 hD hth cr_4_17
  have hK_9_7 := elq_11 hD hth cr_9_7
  have hK_9_8 := elq_12 hD hth cr_9_8
  have hK_12_9 := elq_38 hD hth cr_12_9
  have kz_9_0 := fdq_21 hD hth r9
  have kz_9_1 := fdq_30 hD hth r9
  have kz_12_0 := fdq_294 hD hth r12
  have nf0 : fc_1 PRD (20, [0, 5], [62, 2000006]) ws (vs) := by
    refine ⟨nf_in hl rfl, sgq_270 ?_⟩
    · show HY ws (n_v vs 0) (v_iv (n_v vs 5) + (((2000006 : Nat) : Int) - 2000000))
      exact hy_le f15 (by omega)
  refine ⟨(fun _ h => (by cases h)), [], trivial, ?_, (fun _ h => (by cases h))⟩
  rw [List.append_nil]
  exact List.forall_mem_cons.mpr ⟨⟨show (20 : Nat) < 100 from by decide, nf0⟩, (fun _ h => (by cases h))⟩
def o_Ho_draw_at_c_11 : or_T := (30, 12, [(0, (2, 0, 0, [12])), (5, (0, 0, 3066, []))], [(20, [0, 5], [62, 2000000])], [], [], [(20, [0, 5], [62, 2000006])], [], [])
theorem oo_Ho_draw_at_c_11 {kA : Nat → ClassId} : or_ok PRD kA GG o_Ho_draw_at_c_11 := by
  refine or_mk fun A ta ws vs hD hth hl => ?_
  intro t0 r0 t5 k5 f0
  replace f0 := shm_161 f0
  have nf0 : fc_1 PRD (20, [0, 5], [62, 2000006]) ws (vs) := by
    refine ⟨nf_in hl rfl, sgq_270 ?_⟩
    · show HY ws (n_v vs 0) (v_iv (n_v vs 5) + (((2000006 : Nat) : Int) - 2000000))
      exact hy_le f0 (by omega)
  refine ⟨(fun _ h => (by cases h)), [], trivial, ?_, (fun _ h => (by cases h))⟩
  rw [List.append_nil]
  exact List.forall_mem_cons.mpr ⟨⟨show (20 : Nat) < 100 from by decide, nf0⟩, (fun _ h => (by cases h))⟩
def n_Ho_draw_at_c_an : List an_T := []
def t_Ho_draw_at_c_ct : ct_L := [(0, 115, e_Ho_isPlace), (1, 147, e_Ho_learned), (1, 293, e_La_lay)]
set_option maxRecDepth 100000 in
theorem c_Ho_draw_at_c {l : Launch} {D : va_G} {kA : Nat → ClassId} (h_Ho_isPlace : ct_ok PRD l D kA GG y_Ho_isPlace z_Ho_isPlace e_Ho_isPlace) (h_Ho_learned : ct_ok PRD l D kA GG y_Ho_learned z_Ho_learned e_Ho_learned) (h_La_lay : ct_ok PRD l D kA GG y_La_lay z_La_lay e_La_lay) : ct_ok PRD l D kA GG y_Ho_draw_at_c z_Ho_draw_at_c e_Ho_draw_at_c := chk_all_ok (FT := [(13, 12, 0), (31, 12, 3), (86, 12, 17), (90, 12, 18), (94, 12, 19), (132, 3, 0)]) (PT := [(86, 12, 17, .object "DrawingHouse$Layers"), (90, 12, 18, .object "DrawingHouse$PlanarWays"), (94, 12, 19, .object "DrawingHouse$PlainWays"), (309, 0, 1, .int)]) (CT := t_Ho_draw_at_c_ct) (KT := []) (NT := []) (AN := n_Ho_draw_at_c_an) (OT := [o_Ho_draw_at_c_0, o_Ho_draw_at_c_1, o_Ho_draw_at_c_2, o_Ho_draw_at_c_3, o_Ho_draw_at_c_4, o_Ho_draw_at_c_5, o_Ho_draw_at_c_6, o_Ho_draw_at_c_7, o_Ho_draw_at_c_8, o_Ho_draw_at_c_9, o_Ho_draw_at_c_10, o_Ho_draw_at_c_11]) 0 212 (List.forall_mem_cons.mpr ⟨oo_Ho_draw_at_c_0, List.forall_mem_cons.mpr ⟨oo_Ho_draw_at_c_1, List.forall_mem_cons.mpr ⟨oo_Ho_draw_at_c_2, List.forall_mem_cons.mpr ⟨oo_Ho_draw_at_c_3, List.forall_mem_cons.mpr ⟨oo_Ho_draw_at_c_4, List.forall_mem_cons.mpr ⟨oo_Ho_draw_at_c_5, List.forall_mem_cons.mpr ⟨oo_Ho_draw_at_c_6, List.forall_mem_cons.mpr ⟨oo_Ho_draw_at_c_7, List.forall_mem_cons.mpr ⟨oo_Ho_draw_at_c_8, List.forall_mem_cons.mpr ⟨oo_Ho_draw_at_c_9, List.forall_mem_cons.mpr ⟨oo_Ho_draw_at_c_10, List.forall_mem_cons.mpr ⟨oo_Ho_draw_at_c_11, List.forall_mem_nil _⟩⟩⟩⟩⟩⟩⟩⟩⟩⟩⟩⟩) (by decide +kernel) ⟨List.forall_mem_cons.mpr ⟨gf_Ho_13, List.forall_mem_cons.mpr ⟨gf_Ho_31, List.forall_mem_cons.mpr ⟨gf_Ho_86, List.forall_mem_cons.mpr ⟨gf_Ho_90, List.forall_mem_cons.mpr ⟨gf_Ho_94, List.forall_mem_cons.mpr ⟨gf_Ho_132, List.forall_mem_nil _⟩⟩⟩⟩⟩⟩, List.forall_mem_cons.mpr ⟨pf_Ho_86, List.forall_mem_cons.mpr ⟨pf_Ho_90, List.forall_mem_cons.mpr ⟨pf_Ho_94, List.forall_mem_cons.mpr ⟨pf_Ho_309, List.forall_mem_nil _⟩⟩⟩⟩, List.forall_mem_cons.mpr ⟨cl_static (y := y_Ho_isPlace) h_Ho_isPlace wm_633 wm_1 wm_631 wm_632 ⟨by decide, by decide, by decide +kernel⟩ (by decide), List.forall_mem_cons.mpr ⟨cl_virtual (y := y_Ho_learned) (ci := 12) rfl rfl ⟨_, _, rfl⟩ (by decide +kernel) h_Ho_learned wm_810 wm_1 wm_807 wm_809 wv_1_14 ⟨by decide, by decide, by decide +kernel⟩ (by decide), List.forall_mem_cons.mpr ⟨cl_virtual (y := y_La_lay) (ci := 4) rfl rfl ⟨_, _, rfl⟩ (by decide +kernel) h_La_lay wm_1309 wm_18 wm_1306 wm_1307 wm_1308 ⟨by decide, by decide, by decide +kernel⟩ (by decide), List.forall_mem_nil _⟩⟩⟩, List.forall_mem_nil _, List.forall_mem_nil _, GG_pl⟩ (by decide +kernel)
def o_Ho_draw_at_d_0 : or_T := (23, 10, [(0, (2, 0, 0, [12])), (1, (0, 0, 3, [])), (8, (2, 0, 0, [131])), (9, (2, 0, 0, [3]))], [(14, [9, 8, 1], []), (9, [8, 0], [0]), (20, [0], [62, 0]), (20, [0, 1], [51, 0, 0, 1, 4000000000, 0, 2, 0, 1, 14, 0, 0, 4000, 1, 1])], [], [], [(20, [0, 1, 9], [62, 71])], [], [])
theorem oo_Ho_draw_at_d_0 {kA : Nat → ClassId} : or_ok PRD kA GG o_Ho_draw_at_d_0 := by
  refine or_mk fun A ta ws vs hD hth hl => ?_
  intro t0 r0 t1 k1 t8 r8 t9 r9 f0 f1 f2 f3
  replace f0 := shm_793 f0
  replace f1 := shm_163 f1
  replace f2 := shm_1176 f2
  replace f3 := shm_2317 f3
  have cr_0_0 := fdq_311 hD hth r0
  have ad_8 : v_ad (n_v vs 8) = w_ar ws (n_v vs 0) 0 := congrArg v_ad f1
  have nf0 : fc_1 PRD (20, [0, 1, 9], [62, 71]) ws (vs) := by
    refine ⟨nf_in hl rfl, sgq_1819 ?_⟩
    · show WQF 71 [n_v vs 0, n_v vs 1, n_v vs 9] ws
      have zw := f2
      exact wq_in (zw) (by omega) (by omega) ⟨rfl, rfl⟩ ⟨Or.inr (pO_of f1 f0), trivial⟩
  refine ⟨(fun _ h => (by cases h)), [], trivial, ?_, (fun _ h => (by cases h))⟩
  rw [List.append_nil]
  exact List.forall_mem_cons.mpr ⟨⟨show (20 : Nat) < 100 from by decide, nf0⟩, (fun _ h => (by cases h))⟩
def o_Ho_draw_at_d_1 : or_T := (26, 11, [(0, (2, 0, 0, [12])), (1, (0, 0, 3, [])), (8, (2, 0, 0, [131])), (9, (2, 0, 0, [3])), (10, (0, 0, 24, []))], [(9, [10, 9], [0]), (14, [9, 8, 1], []), (9, [8, 0], [0]), (20, [0, 1], [51, 0, 0, 1, 4000000000, 0, 2, 0, 1, 14, 0, 0, 4000, 1, 1])], [(10, (0, 1, 24, []))], [], [], [], [])
theorem oo_Ho_draw_at_d_1 {kA : Nat → ClassId} : or_ok PRD kA GG o_Ho_draw_at_d_1 := by
  refine or_mk fun A ta ws vs hD hth hl => ?_
  intro t0 r0 t1 k1 t8 r8 t9 r9 t10 k10 f0 f1 f2 f3
  replace f0 := shm_163 f0
  replace f1 := shm_793 f1
  replace f2 := shm_163 f2
  replace f3 := shm_2317 f3
  have cr_0_0 := fdq_311 hD hth r0
  have ad_8 : v_ad (n_v vs 8) = w_ar ws (n_v vs 0) 0 := congrArg v_ad f2
  have g0 : v_iv (n_v vs 10) = w_fi ws (n_v vs 9) 0 := congrArg v_iv f0
  have kz_9_0 := fdq_21 hD hth r9
  first | have gr0 := rfi_nm (kf := 0) (len := 4) (z := v_iv (n_v vs 1)) (v := n_v vs 9) (a := w_ar ws (n_v vs 0) 0) (by first | assumption | omega | (rw [← ad_8]; assumption)) (by omega) (by omega) | skip
  have rf10 : tv_ok ta (0, 1, 24, []) (n_v vs 10) := tv_in t10 (by first | omega | grind) (by first | omega | grind)
  refine ⟨List.forall_mem_cons.mpr ⟨rf10, (fun _ h => (by cases h))⟩, [], trivial, ?_, (fun _ h => (by cases h))⟩
  rw [List.append_nil]
  exact (fun _ h => (by cases h))
set_option maxHeartbeats 4000000 in
theorem vc_Ho_draw_at_d_2_0 (x10 : Int) (nodes_0o9 : Int) (k10 : 1 ≤ x10 ∧ x10 ≤ 24) (g1 : x10 = nodes_0o9) (kz_9_0 : 0 ≤ nodes_0o9 ∧ nodes_0o9 ≤ 24) : 1 ≤ nodes_0o9 := by
  first | omega
def o_Ho_draw_at_d_2 : or_T := (31, 11, [(9, (2, 0, 0, [3])), (10, (0, 1, 24, []))], [(9, [10, 9], [0])], [], [], [(20, [9], [50, 1, 0, 0, 0, 2, 0, 1, 2, 0, 0])], [], [])
theorem oo_Ho_draw_at_d_2 {kA : Nat → ClassId} : or_ok PRD kA GG o_Ho_draw_at_d_2 := by
  refine or_mk fun A ta ws vs hD hth hl => ?_
  intro t9 r9 t10 k10 f1
  replace f1 := shm_163 f1
  have g1 : v_iv (n_v vs 10) = w_fi ws (n_v vs 9) 0 := congrArg v_iv f1
  have kz_9_0 := fdq_21 hD hth r9
  have nf0 : fc_1 PRD (20, [9], [50, 1, 0, 0, 0, 2, 0, 1, 2, 0, 0]) ws (vs) := ⟨nf_in hl rfl, sgq_1220 (vc_Ho_draw_at_d_2_0 (v_iv (n_v vs 10)) (w_fi ws (n_v vs 9) 0) k10 g1 kz_9_0)⟩
  refine ⟨(fun _ h => (by cases h)), [], trivial, ?_, (fun _ h => (by cases h))⟩
  rw [List.append_nil]
  exact List.forall_mem_cons.mpr ⟨⟨show (20 : Nat) < 100 from by decide, nf0⟩, (fun _ h => (by cases h))⟩
def o_Ho_draw_at_d_3 : or_T := (53, 12, [(0, (2, 0, 0, [12])), (11, (2, 0, 0, [4]))], [(101, [0, 11], [17]), (20, [11], [60, 0, 1, 648, 17])], [], [], [(20, [0], [62, 1000000])], [], [])
theorem oo_Ho_draw_at_d_3 {kA : Nat → ClassId} : or_ok PRD kA GG o_Ho_draw_at_d_3 := by
  refine or_mk fun A ta ws vs hD hth hl => ?_
  intro t0 r0 t11 r11 ta1 w1 le1 s1 f1
  have s1 : (∀ b j, w_el ws b j = w_el w1 b j) ∧ ∀ b j, w_fd ws b j = if b = v_ad (n_v vs 0) ∧ j = 17 then n_v vs 11 else w_fd w1 b j := s1.2
  replace f1 := shm_1096 f1
  have nf0 : fc_1 PRD (20, [0], [62, 1000000]) ws (vs) := by
    refine ⟨nf_in hl rfl, sgq_2315 ?_⟩
    · show HL ws (n_v vs 0)
      obtain ⟨av, _, ev, _⟩ := tv_ref t11 rfl
      exact hl_put (fun e => by have z := r11; rw [e, r0] at z; exact absurd (Option.some.inj z) (by decide)) ⟨av, ev⟩ f1 s1
  refine ⟨(fun _ h => (by cases h)), [], trivial, ?_, (fun _ h => (by cases h))⟩
  rw [List.append_nil]
  exact List.forall_mem_cons.mpr ⟨⟨show (20 : Nat) < 100 from by decide, nf0⟩, (fun _ h => (by cases h))⟩
def o_Ho_draw_at_d_4 : or_T := (63, 13, [(0, (2, 0, 0, [12])), (1, (0, 0, 3, [])), (8, (2, 0, 0, [131])), (9, (2, 0, 0, [3])), (12, (2, 0, 0, [3]))], [(14, [12, 8, 1], []), (9, [8, 0], [0]), (20, [0, 1, 9], [62, 71])], [], [], [(24, [9, 12], [])], [], [])
theorem oo_Ho_draw_at_d_4 {kA : Nat → ClassId} : or_ok PRD kA GG o_Ho_draw_at_d_4 := by
  refine or_mk fun A ta ws vs hD hth hl => ?_
  intro t0 r0 t1 k1 t8 r8 t9 r9 t12 r12 f0 f1 f2
  replace f0 := shm_793 f0
  replace f1 := shm_163 f1
  replace f2 := shm_1819 f2
  have nf0 : fc_1 PRD (24, [9, 12], []) ws (vs) := by
    refine ⟨nf_in hl rfl, sgq_5 ?_⟩
    · show n_v vs 9 = n_v vs 12
      exact ref_same t9 t12 rfl rfl ((wl_0 (wq_wl f2) (by decide)).trans (pO_of f1 f0).symm)
  refine ⟨(fun _ h => (by cases h)), [], trivial, ?_, (fun _ h => (by cases h))⟩
  rw [List.append_nil]
  exact List.forall_mem_cons.mpr ⟨⟨show (24 : Nat) < 100 from by decide, nf0⟩, (fun _ h => (by cases h))⟩
def o_Ho_draw_at_d_5 : or_T := (63, 13, [(0, (2, 0, 0, [12])), (1, (0, 0, 3, [])), (8, (2, 0, 0, [131])), (9, (2, 0, 0, [3])), (10, (0, 1, 24, [])), (11, (2, 0, 0, [4])), (12, (2, 0, 0, [3]))], [(9, [10, 9], [0]), (24, [9, 12], []), (14, [12, 8, 1], []), (9, [8, 0], [0]), (20, [9], [50, 1, 0, 0, 0, 2, 0, 1, 2, 0, 0]), (20, [0, 1, 9], [62, 71]), (20, [0, 1], [51, 0, 0, 1, 4000000000, 0, 2, 0, 1, 14, 0, 0, 4000, 1, 1]), (20, [11], [60, 0, 1, 648, 17]), (101, [0, 11], [17]), (102, [10], [509258994083621521567111422102344540262867098416484062659035112338633103872697133707558912, 299000, 299001, 299002, 299003, 299004, 299005, 299006, 299007, 299008, 299009, 299010, 299011, 299012, 299013, 299014, 299015, 299016, 299017, 299018, 299019, 299020, 300000, 300001, 300002, 300003, 300004, 300005, 300006, 300007, 300008]), (8, [10], [1])], [], [], [(20, [0, 1, 12], [62, 71])], [], [])
theorem oo_Ho_draw_at_d_5 {kA : Nat → ClassId} : or_ok PRD kA GG o_Ho_draw_at_d_5 := by
  refine or_mk fun A ta ws vs hD hth hl => ?_
  intro t0 r0 t1 k1 t8 r8 t9 r9 t10 k10 t11 r11 t12 r12 f0 f1 f2 f3 f4 f5 f6 f7 ta1 w1 le1 s1 ta2 w2 le2 s2 f10
  replace f1 := shm_5 f1
  replace f5 := shm_1819 f5
  have q12 : n_v vs 12 = n_v vs 9 := f1.symm
  have nf0 : fc_1 PRD (20, [0, 1, 12], [62, 71]) ws (vs) := by
    refine ⟨nf_in hl rfl, sgq_1819 ?_⟩
    · show WQF 71 [n_v vs 0, n_v vs 1, n_v vs 12] ws
      first | rw [q12] | skip
      have zw := f5
      first | rw [show n_v vs 9 = n_v vs 12 from (by first | exact f1 | exact f1.symm)] at zw | skip
      first | exact zw | ((first | rw [q12] at zw | skip); exact zw)
  refine ⟨(fun _ h => (by cases h)), [], trivial, ?_, (fun _ h => (by cases h))⟩
  rw [List.append_nil]
  exact List.forall_mem_cons.mpr ⟨⟨show (20 : Nat) < 100 from by decide, nf0⟩, (fun _ h => (by cases h))⟩
def o_Ho_draw_at_d_6 : or_T := (68, 14, [(0, (2, 0, 0, [12]))], [(20, [0], [62, 0]), (102, [12], [281337537757184, 2000, 2001, 2002, 2003]), (20, [0, 1, 12], [62, 71])], [], [], [(20, [0, 1, 12], [62, 71])], [], [])
theorem oo_Ho_draw_at_d_6 {kA : Nat → ClassId} : or_ok PRD kA GG o_Ho_draw_at_d_6 := by
  refine or_mk fun A ta ws vs hD hth hl => ?_
  intro t0 r0 f0 ta1 w1 le1 s1 f2
  replace f0 := shm_1176 f0
  replace s1 := s1.2
  replace f2 := shm_1819 f2
  have nf0 : fc_1 PRD (20, [0, 1, 12], [62, 71]) ws (vs) := by
    refine ⟨nf_in hl rfl, sgq_1819 ?_⟩
    · show WQF 71 [n_v vs 0, n_v vs 1, n_v vs 12] ws
      obtain ⟨aH, _, eH, _⟩ := tv_ref t0 rfl
      have hH0 := s1.2.2.1 12 List.mem_cons_self 0 (by decide) aH eH
      exact wq_step f0 (hd_call hD hth (by decide +kernel) le1 r0 (by rw [eH]; exact hH0) s1 (by decide +kernel)) f2 (by decide)
  refine ⟨(fun _ h => (by cases h)), [], trivial, ?_, (fun _ h => (by cases h))⟩
  rw [List.append_nil]
  exact List.forall_mem_cons.mpr ⟨⟨show (20 : Nat) < 100 from by decide, nf0⟩, (fun _ h => (by cases h))⟩
def o_Ho_draw_at_d_7 : or_T := (74, 16, [(0, (2, 0, 0, [12])), (1, (0, 0, 3, [])), (12, (2, 0, 0, [3]))], [(20, [0, 1, 12], [62, 71])], [], [], [(20, [12], [60, 2, 2, 596, 0, 1, 7, 8])], [], [])
theorem oo_Ho_draw_at_d_7 {kA : Nat → ClassId} : or_ok PRD kA GG o_Ho_draw_at_d_7 := by
  refine or_mk fun A ta ws vs hD hth hl => ?_
  intro t0 r0 t1 k1 t12 r12 f0
  replace f0 := shm_1819 f0
  have nf0 : fc_1 PRD (20, [12], [60, 2, 2, 596, 0, 1, 7, 8]) ws (vs) := by
    refine ⟨nf_in hl rfl, sgq_386 ?_⟩
    · show GKE (w_fi ws (n_v vs 12) 0) (w_fi ws (n_v vs 12) 1) (w_ei ws (w_ar ws (n_v vs 12) 7)) (w_ei ws (w_ar ws (n_v vs 12) 8))
      exact hg_gke (wq_hg f0 (by decide) (wl_0 (wq_wl (k := 71) f0) (by decide)))
  refine ⟨(fun _ h => (by cases h)), [], trivial, ?_, (fun _ h => (by cases h))⟩
  rw [List.append_nil]
  exact List.forall_mem_cons.mpr ⟨⟨show (20 : Nat) < 100 from by decide, nf0⟩, (fun _ h => (by cases h))⟩
def o_Ho_draw_at_d_8 : or_T := (74, 16, [(0, (2, 0, 0, [12])), (1, (0, 0, 3, [])), (12, (2, 0, 0, [3])), (13, (2, 0, 0, [2]))], [(20, [0, 1, 12], [62, 71]), (20, [0, 1, 13], [62, 135]), (20, [13], [50, 1, 0, 0, 7, 3, 2, 0, 0, 0, 0])], [], [], [(20, [12, 13], [60, 1, 3, 658, 1, 7, 8, 1009])], [], [])
theorem oo_Ho_draw_at_d_8 {kA : Nat → ClassId} : or_ok PRD kA GG o_Ho_draw_at_d_8 := by
  refine or_mk fun A ta ws vs hD hth hl => ?_
  intro t0 r0 t1 k1 t12 r12 t13 r13 f0 f1 f2
  replace f0 := shm_1819 f0
  replace f1 := shm_2132 f1
  replace f2 := shm_2130 f2
  have nf0 : fc_1 PRD (20, [12, 13], [60, 1, 3, 658, 1, 7, 8, 1009]) ws (vs) := by
    refine ⟨nf_in hl rfl, sgq_1906 ?_⟩
    · show TPO (w_fi ws (n_v vs 12) 1) (w_ei ws (w_ar ws (n_v vs 12) 7)) (w_ei ws (w_ar ws (n_v vs 12) 8)) (w_ei ws (w_ar ws (n_v vs 13) 9))
      exact (hf_all (wq_hf f0 (by decide) (wl_0 (wq_wl (k := 71) f0) (by decide)) (wl_0 (wq_wl (k := 135) f1) (by decide))) (show w_fi ws (n_v vs 13) 0 ≠ 0 from f2)).2.2.1
  refine ⟨(fun _ h => (by cases h)), [], trivial, ?_, (fun _ h => (by cases h))⟩
  rw [List.append_nil]
  exact List.forall_mem_cons.mpr ⟨⟨show (20 : Nat) < 100 from by decide, nf0⟩, (fun _ h => (by cases h))⟩
set_option maxHeartbeats 4000000 in
theorem vc_Ho_draw_at_d_9_0 (nodes_0o9 : Int) (f6 : 1 ≤ nodes_0o9) (kz_9_0 : 0 ≤ nodes_0o9 ∧ nodes_0o9 ≤ 24) : 1 ≤ nodes_0o9 := by
  first | omega
set_option maxHeartbeats 4000000 in
theorem vc_Ho_draw_at_d_9_2 (x5 : Int) (gy : Int) (k5 : 0 ≤ x5 ∧ x5 ≤ 3066) (ey2 : gy = x5) : 1 * gy + ((-1) * x5 + 0) ≤ 0 := by
  first | omega
set_option maxHeartbeats 4000000 in
theorem vc_Ho_draw_at_d_9_3 (x5 : Int) (gy : Int) (k5 : 0 ≤ x5 ∧ x5 ≤ 3066) (ey2 : gy = x5) : (-1) * gy + (1 * x5 + 0) ≤ 0 := by
  first | omega
set_option maxHeartbeats 4000000 in
theorem vc_Ho_draw_at_d_9_4 (nodes_0o9 : Int) (tail_0o9 : Int → Int) (head_0o9 : Int → Int) (edges_0o9 : Int) (f2 : GKE (nodes_0o9) (edges_0o9) (tail_0o9) (head_0o9)) (kz_9_0 : 0 ≤ nodes_0o9 ∧ nodes_0o9 ≤ 24) (kz_9_1 : 0 ≤ edges_0o9 ∧ edges_0o9 ≤ 48) : GKE (nodes_0o9) (edges_0o9) (tail_0o9) (head_0o9) := by
  first | assumption
set_option maxHeartbeats 4000000 in
theorem vc_Ho_draw_at_d_9_5 (tail_0o9 : Int → Int) (head_0o9 : Int → Int) (turned_0o13 : Int → Int) (edges_0o9 : Int) (f1 : TPO (edges_0o9) (tail_0o9) (head_0o9) (turned_0o13)) (kz_9_1 : 0 ≤ edges_0o9 ∧ edges_0o9 ≤ 48) : TPO (edges_0o9) (tail_0o9) (head_0o9) (turned_0o13) := by
  first | assumption
set_option maxHeartbeats 4000000 in
theorem vc_Ho_draw_at_d_9_6 (nodes_0o9 : Int) (f6 : 1 ≤ nodes_0o9) (kz_9_0 : 0 ≤ nodes_0o9 ∧ nodes_0o9 ≤ 24) : 1 ≤ nodes_0o9 := by
  first | omega
set_option maxHeartbeats 4000000 in
theorem vc_Ho_draw_at_d_9_7 (orders_0o11 : Int → Int) (f9 : ORD (orders_0o11)) : ORD (orders_0o11) := by
  first | assumption
def o_Ho_draw_at_d_9 : or_T := (74, 16, [(0, (2, 0, 0, [12])), (1, (0, 0, 3, [])), (5, (0, 0, 3066, [])), (9, (2, 0, 0, [3])), (10, (0, 1, 24, [])), (11, (2, 0, 0, [4])), (12, (2, 0, 0, [3])), (13, (2, 0, 0, [2])), (14, (2, 0, 0, [134])), (15, (2, 0, 0, [0]))], [(9, [10, 9], [0]), (20, [12, 13], [60, 1, 3, 658, 1, 7, 8, 1009]), (20, [12], [60, 2, 2, 596, 0, 1, 7, 8]), (14, [15, 14, 1], []), (9, [14, 0], [3]), (24, [9, 12], []), (20, [9], [50, 1, 0, 0, 0, 2, 0, 1, 2, 0, 0]), (20, [0, 5], [62, 2000000]), (20, [0, 1], [51, 0, 0, 1, 4000000000, 0, 2, 0, 1, 14, 0, 0, 4000, 1, 1]), (20, [11], [60, 0, 1, 648, 17]), (20, [13], [50, 1, 0, 0, 7, 3, 2, 0, 0, 0, 0]), (102, [12], [281337537757184, 2000, 2001, 2002, 2003]), (101, [0, 11], [17]), (102, [10], [509258994083621521567111422102344540262867098416484062659035112338633103872697133707558912, 299000, 299001, 299002, 299003, 299004, 299005, 299006, 299007, 299008, 299009, 299010, 299011, 299012, 299013, 299014, 299015, 299016, 299017, 299018, 299019, 299020, 300000, 300001, 300002, 300003, 300004, 300005, 300006, 300007, 300008]), (8, [10], [1])], [], [(2, 0, 0, [12]), (0, 0, 3072, [])], [(20, [12], [50, 1, 0, 0, 0, 2, 0, 1, 2, 0, 0]), (24, [0, 16], []), (23, [17, 5], [0, 1, -1]), (23, [17, 5], [0, -1, 1]), (20, [12], [60, 2, 2, 596, 0, 1, 7, 8]), (20, [12, 13], [60, 1, 3, 658, 1, 7, 8, 1009]), (20, [12], [50, 1, 0, 0, 0, 2, 0, 1, 2, 0, 0]), (20, [11], [60, 0, 1, 648, 17]), (20, [16, 17], [62, 2000000])], [], [])
theorem oo_Ho_draw_at_d_9 {kA : Nat → ClassId} : or_ok PRD kA GG o_Ho_draw_at_d_9 := by
  refine or_mk fun A ta ws vs hD hth hl => ?_
  intro t0 r0 t1 k1 t5 k5 t9 r9 t10 k10 t11 r11 t12 r12 t13 r13 t14 r14 t15 r15 f0 f1 f2 f3 f4 f5 f6 f7 f8 f9 f10 ta1 w1 le1 s1 ta2 w2 le2 s2 ta3 w3 le3 s3 f14
  replace f0 := shm_163 f0
  replace f1 := shm_1906 f1
  replace f2 := shm_386 f2
  replace f3 := shm_793 f3
  replace f4 := shm_137 f4
  replace f5 := shm_5 f5
  replace f6 := shm_1220 f6
  replace f7 := shm_161 f7
  replace f8 := shm_2317 f8
  replace f9 := shm_1096 f9
  replace f10 := shm_2130 f10
  have s2 : (∀ b j, w_el w1 b j = w_el w2 b j) ∧ ∀ b j, w_fd w1 b j = if b = v_ad (n_v vs 0) ∧ j = 17 then n_v vs 11 else w_fd w2 b j := s2.2
  replace f14 := shm_142 f14
  have q12 : n_v vs 12 = n_v vs 9 := f5.symm
  simp only [q12] at f1 f2
  have cr_0_3 := fdq_196 hD hth r0
  have cr_9_7 := fdq_46 hD hth r9
  have cr_9_8 := fdq_47 hD hth r9
  have cr_11_17 := fdq_251 hD hth r11
  have cr_13_9 := fdq_76 hD hth r13
  have ad_14 : v_ad (n_v vs 14) = w_ar ws (n_v vs 0) 3 := congrArg v_ad f4
  have g0 : v_iv (n_v vs 10) = w_fi ws (n_v vs 9) 0 := congrArg v_iv f0
  have hK_9_7 := elq_11 hD hth cr_9_7
  have hK_9_8 := elq_12 hD hth cr_9_8
  have hK_11_17 := elq_158 hD hth cr_11_17
  have hK_13_9 := elq_38 hD hth cr_13_9
  have kz_9_0 := fdq_21 hD hth r9
  have kz_9_1 := fdq_30 hD hth r9
  have kz_13_0 := fdq_294 hD hth r13
  obtain ⟨y, ey, hy⟩ := iv_ex (ta := ta) (lo := 0) (hi := 3072) (z := v_iv (n_v vs 5)) (by omega) (by omega) (by omega) (by omega)
  have ey2 : v_iv (Value.int y) = v_iv (n_v vs 5) := ey
  have ey3 : 0 ≤ v_iv (Value.int y) ∧ v_iv (Value.int y) ≤ 3072 := tv_rng hy
  have e_0 : n_v (vs ++ [n_v vs 0, Value.int y]) 0 = n_v vs 0 := n_v_old (by rw [hl]; decide)
  have e_5 : n_v (vs ++ [n_v vs 0, Value.int y]) 5 = n_v vs 5 := n_v_old (by rw [hl]; decide)
  have e_11 : n_v (vs ++ [n_v vs 0, Value.int y]) 11 = n_v vs 11 := n_v_old (by rw [hl]; decide)
  have e_12 : n_v (vs ++ [n_v vs 0, Value.int y]) 12 = n_v vs 12 := n_v_old (by rw [hl]; decide)
  have e_13 : n_v (vs ++ [n_v vs 0, Value.int y]) 13 = n_v vs 13 := n_v_old (by rw [hl]; decide)
  have e_16 : n_v (vs ++ [n_v vs 0, Value.int y]) 16 = n_v vs 0 := n_v_new0 hl
  have e_17 : n_v (vs ++ [n_v vs 0, Value.int y]) 17 = Value.int y := n_v_new1 hl
  have nf0 : fc_1 PRD (20, [12], [50, 1, 0, 0, 0, 2, 0, 1, 2, 0, 0]) ws (vs ++ [n_v vs 0, Value.int y]) := by
    refine ⟨nf_inA hl rfl, sgq_1220 ?_⟩
    · show 1 ≤ w_fi ws (n_v (vs ++ [n_v vs 0, Value.int y]) 12) 0
      simp only [e_12, q12]
      exact vc_Ho_draw_at_d_9_0 (w_fi ws (n_v vs 9) 0) f6 kz_9_0
  have nf1 : fc_1 PRD (24, [0, 16], []) ws (vs ++ [n_v vs 0, Value.int y]) := by
    refine ⟨nf_inA hl rfl, sgq_5 ?_⟩
    · show n_v (vs ++ [n_v vs 0, Value.int y]) 0 = n_v (vs ++ [n_v vs 0, Value.int y]) 16
      first | rfl | simp only [e_0, e_16, q12]
  have nf2 : fc_1 PRD (23, [17, 5], [0, 1, -1]) ws (vs ++ [n_v vs 0, Value.int y]) := by
    refine ⟨nf_inA hl rfl, sgq_7 ?_⟩
    · show 1 * v_iv (n_v (vs ++ [n_v vs 0, Value.int y]) 17) + ((-1) * v_iv (n_v (vs ++ [n_v vs 0, Value.int y]) 5) + 0) ≤ 0
      simp only [e_5, e_17]
      exact vc_Ho_draw_at_d_9_2 (v_iv (n_v vs 5)) (v_iv (Value.int y)) k5 ey2
  have nf3 : fc_1 PRD (23, [17, 5], [0, -1, 1]) ws (vs ++ [n_v vs 0, Value.int y]) := by
    refine ⟨nf_inA hl rfl, sgq_22 ?_⟩
    · show (-1) * v_iv (n_v (vs ++ [n_v vs 0, Value.int y]) 17) + (1 * v_iv (n_v (vs ++ [n_v vs 0, Value.int y]) 5) + 0) ≤ 0
      simp only [e_5, e_17]
      exact vc_Ho_draw_at_d_9_3 (v_iv (n_v vs 5)) (v_iv (Value.int y)) k5 ey2
  have nf4 : fc_1 PRD (20, [12], [60, 2, 2, 596, 0, 1, 7, 8]) ws (vs ++ [n_v vs 0, Value.int y]) := by
    refine ⟨nf_inA hl rfl, sgq_386 ?_⟩
    · show GKE (w_fi ws (n_v (vs ++ [n_v vs 0, Value.int y]) 12) 0) (w_fi ws (n_v (vs ++ [n_v vs 0, Value.int y]) 12) 1) (w_ei ws (w_ar ws (n_v (vs ++ [n_v vs 0, Value.int y]) 12) 7)) (w_ei ws (w_ar ws (n_v (vs ++ [n_v vs 0, Value.int y]) 12) 8))
      simp only [e_12, q12]
      exact vc_Ho_draw_at_d_9_4 (w_fi ws (n_v vs 9) 0) (w_ei ws (w_ar ws (n_v vs 9) 7)) (w_ei ws (w_ar ws (n_v vs 9) 8)) (w_fi ws (n_v vs 9) 1) f2 kz_9_0 kz_9_1
  have nf5 : fc_1 PRD (20, [12, 13], [60, 1, 3, 658, 1, 7, 8, 1009]) ws (vs ++ [n_v vs 0, Value.int y]) := by
    refine ⟨nf_inA hl rfl, sgq_1906 ?_⟩
    · show TPO (w_fi ws (n_v (vs ++ [n_v vs 0, Value.int y]) 12) 1) (w_ei ws (w_ar ws (n_v (vs ++ [n_v vs 0, Value.int y]) 12) 7)) (w_ei ws (w_ar ws (n_v (vs ++ [n_v vs 0, Value.int y]) 12) 8)) (w_ei ws (w_ar ws (n_v (vs ++ [n_v vs 0, Value.int y]) 13) 9))
      simp only [e_12, e_13, q12]
      exact vc_Ho_draw_at_d_9_5 (w_ei ws (w_ar ws (n_v vs 9) 7)) (w_ei ws (w_ar ws (n_v vs 9) 8)) (w_ei ws (w_ar ws (n_v vs 13) 9)) (w_fi ws (n_v vs 9) 1) f1 kz_9_1
  have nf6 : fc_1 PRD (20, [12], [50, 1, 0, 0, 0, 2, 0, 1, 2, 0, 0]) ws (vs ++ [n_v vs 0, Value.int y]) := by
    refine ⟨nf_inA hl rfl, sgq_1220 ?_⟩
    · show 1 ≤ w_fi ws (n_v (vs ++ [n_v vs 0, Value.int y]) 12) 0
      simp only [e_12, q12]
      exact vc_Ho_draw_at_d_9_6 (w_fi ws (n_v vs 9) 0) f6 kz_9_0
  have nf7 : fc_1 PRD (20, [11], [60, 0, 1, 648, 17]) ws (vs ++ [n_v vs 0, Value.int y]) := by
    refine ⟨nf_inA hl rfl, sgq_1096 ?_⟩
    · show ORD (w_ei ws (w_ar ws (n_v (vs ++ [n_v vs 0, Value.int y]) 11) 17))
      rw [e_11]
      exact vc_Ho_draw_at_d_9_7 (w_ei ws (w_ar ws (n_v vs 11) 17)) f9
  have nf8 : fc_1 PRD (20, [16, 17], [62, 2000000]) ws (vs ++ [n_v vs 0, Value.int y]) := by
    refine ⟨nf_inA hl rfl, sgq_161 ?_⟩
    · show HY ws (n_v (vs ++ [n_v vs 0, Value.int y]) 16) (v_iv (n_v (vs ++ [n_v vs 0, Value.int y]) 17) + (((2000000 : Nat) : Int) - 2000000))
      simp only [e_16, e_17]
      exact hy_le f7 (by omega)
  exact ⟨(fun _ h => (by cases h)), [n_v vs 0, Value.int y], ag_two t0 hy, List.forall_mem_cons.mpr ⟨⟨show (20 : Nat) < 100 from by decide, nf0⟩, List.forall_mem_cons.mpr ⟨⟨show (24 : Nat) < 100 from by decide, nf1⟩, List.forall_mem_cons.mpr ⟨⟨show (23 : Nat) < 100 from by decide, nf2⟩, List.forall_mem_cons.mpr ⟨⟨show (23 : Nat) < 100 from by decide, nf3⟩, List.forall_mem_cons.mpr ⟨⟨show (20 : Nat) < 100 from by decide, nf4⟩, List.forall_mem_cons.mpr ⟨⟨show (20 : Nat) < 100 from by decide, nf5⟩, List.forall_mem_cons.mpr ⟨⟨show (20 : Nat) < 100 from by decide, nf6⟩, List.forall_mem_cons.mpr ⟨⟨show (20 : Nat) < 100 from by decide, nf7⟩, List.forall_mem_cons.mpr ⟨⟨show (20 : Nat) < 100 from by decide, nf8⟩, (fun _ h => (by cases h))⟩⟩⟩⟩⟩⟩⟩⟩⟩, (fun _ h => (by cases h))⟩
def o_Ho_draw_at_d_10 : or_T := (203, 21, [(0, (2, 0, 0, [12])), (1, (0, 0, 3, [])), (2, (0, 0, 0, [])), (5, (0, 0, 3066, [])), (7, (0, 7, 7, [])), (9, (2, 0, 0, [3])), (10, (0, 1, 24, [])), (11, (2, 0, 0, [4])), (12, (2, 0, 0, [3])), (13, (2, 0, 0, [2])), (14, (2, 0, 0, [134])), (16, (2, 0, 0, [12])), (17, (0, 0, 3072, [])), (20, (2, 0, 0, [0]))], [(9, [2, 20], [1]), (9, [14, 0], [3]), (9, [10, 9], [0]), (20, [12], [50, 1, 0, 0, 0, 2, 0, 1, 2, 0, 0]), (24, [0, 16], []), (23, [17, 5], [0, 1, -1]), (23, [17, 5], [0, -1, 1]), (20, [12], [60, 2, 2, 596, 0, 1, 7, 8]), (20, [12, 13], [60, 1, 3, 658, 1, 7, 8, 1009]), (20, [12], [50, 1, 0, 0, 0, 2, 0, 1, 2, 0, 0]), (20, [11], [60, 0, 1, 648, 17]), (20, [12, 13], [60, 1, 3, 658, 1, 7, 8, 1009]), (20, [12], [60, 2, 2, 596, 0, 1, 7, 8]), (24, [9, 12], []), (20, [9], [50, 1, 0, 0, 0, 2, 0, 1, 2, 0, 0]), (20, [0, 1], [51, 0, 0, 1, 4000000000, 0, 2, 0, 1, 14, 0, 0, 4000, 1, 1]), (20, [11], [60, 0, 1, 648, 17]), (20, [13], [50, 1, 0, 0, 7, 3, 2, 0, 0, 0, 0]), (20, [16, 17], [62, 2000000]), (101, [20, 2], [1]), (14, [20, 14, 1], []), (20, [12], [50, 1, 0, 0, 0, 2, 0, 1, 2, 0, 0]), (23, [17, 5], [0, 1, -1]), (23, [17, 5], [0, -1, 1]), (20, [12], [60, 2, 2, 596, 0, 1, 7, 8]), (20, [12, 13], [60, 1, 3, 658, 1, 7, 8, 1009]), (20, [12], [50, 1, 0, 0, 0, 2, 0, 1, 2, 0, 0]), (20, [11], [60, 0, 1, 648, 17]), (20, [12, 13], [60, 1, 3, 658, 1, 7, 8, 1009]), (20, [12], [60, 2, 2, 596, 0, 1, 7, 8]), (20, [9], [50, 1, 0, 0, 0, 2, 0, 1, 2, 0, 0]), (20, [0, 1], [51, 0, 0, 1, 4000000000, 0, 2, 0, 1, 14, 0, 0, 4000, 1, 1]), (20, [11], [60, 0, 1, 648, 17]), (20, [13], [50, 1, 0, 0, 7, 3, 2, 0, 0, 0, 0]), (102, [17], [42202988866171645644062132502901276672, 7, 8, 4001, 4002, 4003, 10000, 10001]), (23, [17, 5], [0, 1, -1]), (23, [17, 5], [0, -1, 1]), (102, [12], [281337537757184, 2000, 2001, 2002, 2003]), (101, [0, 11], [17]), (102, [10], [509258994083621521567111422102344540262867098416484062659035112338633103872697133707558912, 299000, 299001, 299002, 299003, 299004, 299005, 299006, 299007, 299008, 299009, 299010, 299011, 299012, 299013, 299014, 299015, 299016, 299017, 299018, 299019, 299020, 300000, 300001, 300002, 300003, 300004, 300005, 300006, 300007, 300008]), (8, [2], [0]), (8, [10], [1]), (7, [2, 7], [5]), (8, [2], [3])], [], [], [(20, [0, 5], [62, 2000006])], [], [])
theorem oo_Ho_draw_at_d_10 {kA : Nat → ClassId} : or_ok PRD kA GG o_Ho_draw_at_d_10 := by
  refine or_mk fun A ta ws vs hD hth hl => ?_
  intro t0 r0 t1 k1 t2 k2 t5 k5 t7 k7 t9 r9 t10 k10 t11 r11 t12 r12 t13 r13 t14 r14 t16 r16 t17 k17 t20 r20 f0 f1 f2 f3 f4 f5 f6 f7 f8 f9 f10 f11 f12 f13 f14 f15 f16 f17 f18 ta1 w1 le1 s1 f20 f21 f22 f23 f24 f25 f26 f27 f28 f29 f30 f31 f32 f33 ta2 w2 le2 s2 f35 f36 ta3 w3 le3 s3 ta4 w4 le4 s4 ta5 w5 le5 s5 f40 f41 f42 f43
  replace f0 := shm_215 f0
  replace f1 := shm_137 f1
  replace f2 := shm_163 f2
  replace f3 := shm_1220 f3
  replace f4 := shm_5 f4
  replace f5 := shm_7 f5
  replace f6 := shm_22 f6
  replace f7 := shm_386 f7
  replace f8 := shm_1906 f8
  replace f9 := shm_1220 f9
  replace f10 := shm_1096 f10
  replace f11 := shm_1906 f11
  replace f12 := shm_386 f12
  replace f13 := shm_5 f13
  replace f14 := shm_1220 f14
  replace f15 := shm_2317 f15
  replace f16 := shm_1096 f16
  replace f17 := shm_2130 f17
  replace f18 := shm_161 f18
  have s1 : (∀ b j, w_el ws b j = w_el w1 b j) ∧ ∀ b j, w_fd ws b j = if b = v_ad (n_v vs 20) ∧ j = 1 then n_v vs 2 else w_fd w1 b j := s1.2
  replace f20 := shm_793 f20
  replace f21 := shm_1220 f21
  replace f22 := shm_7 f22
  replace f23 := shm_22 f23
  replace f24 := shm_386 f24
  replace f25 := shm_1906 f25
  replace f26 := shm_1220 f26
  replace f27 := shm_1096 f27
  replace f28 := shm_1906 f28
  replace f29 := shm_386 f29
  replace f30 := shm_1220 f30
  replace f31 := shm_2317 f31
  replace f32 := shm_1096 f32
  replace f33 := shm_2130 f33
  replace f35 := shm_7 f35
  replace f36 := shm_22 f36
  have s4 : (∀ b j, w_el w3 b j = w_el w4 b j) ∧ ∀ b j, w_fd w3 b j = if b = v_ad (n_v vs 0) ∧ j = 17 then n_v vs 11 else w_fd w4 b j := s4.2
  replace f40 := shm_192 f40
  replace f41 := shm_142 f41
  replace f42 := shm_24 f42
  replace f43 := shm_32 f43
  have q16 : n_v vs 16 = n_v vs 0 := f4.symm
  have q12 : n_v vs 12 = n_v vs 9 := f13.symm
  simp only [q12, q16] at f3 f7 f8 f9 f11 f12 f18 f21 f24 f25 f26 f28 f29
  have ar_0_3_1 : w_ar w1 (n_v vs 0) 3 = w_ar ws (n_v vs 0) 3 := by show v_ad (w_fd w1 _ _) = v_ad (w_fd ws _ _); rw [s1.2, if_neg (fun e => absurd e.2 (by decide))]
  have cr_0_3 := fdq_196 hD hth r0
  have ar_9_7_1 : w_ar w1 (n_v vs 9) 7 = w_ar ws (n_v vs 9) 7 := by show v_ad (w_fd w1 _ _) = v_ad (w_fd ws _ _); rw [s1.2, if_neg (fun e => absurd e.2 (by decide))]
  have cr_9_7 := fdq_46 hD hth r9
  have ar_9_8_1 : w_ar w1 (n_v vs 9) 8 = w_ar ws (n_v vs 9) 8 := by show v_ad (w_fd w1 _ _) = v_ad (w_fd ws _ _); rw [s1.2, if_neg (fun e => absurd e.2 (by decide))]
  have cr_9_8 := fdq_47 hD hth r9
  have ar_11_17_1 : w_ar w1 (n_v vs 11) 17 = w_ar ws (n_v vs 11) 17 := by show v_ad (w_fd w1 _ _) = v_ad (w_fd ws _ _); rw [s1.2, if_neg (fun e => absurd e.2 (by decide))]
  have cr_11_17 := fdq_251 hD hth r11
  have ar_13_9_1 : w_ar w1 (n_v vs 13) 9 = w_ar ws (n_v vs 13) 9 := by show v_ad (w_fd w1 _ _) = v_ad (w_fd ws _ _); rw [s1.2, if_neg (fun e => absurd e.2 (by decide))]
  have cr_13_9 := fdq_76 hD hth r13
  have ad_14 : v_ad (n_v vs 14) = w_ar ws (n_v vs 0) 3 := congrArg v_ad f1
  have g0 : v_iv (n_v vs 2) = w_fi ws (n_v vs 20) 1 := congrArg v_iv f0
  have g2 : v_iv (n_v vs 10) = w_fi ws (n_v vs 9) 0 := congrArg v_iv f2
  simp only [ar_9_7_1, ar_9_8_1, ar_13_9_1, ar_11_17_1] at f24 f25 f27 f28 f29 f32
  have fe_9_0_1 : w_fi ws (n_v vs 9) 0 = w_fi w1 (n_v vs 9) 0 := by show v_iv (w_fd _ _ _) = v_iv (w_fd _ _ _); rw [s1.2, if_neg (fun e => absurd e.2 (by decide))]
  have fe_9_1_1 : w_fi ws (n_v vs 9) 1 = w_fi w1 (n_v vs 9) 1 := by show v_iv (w_fd _ _ _) = v_iv (w_fd _ _ _); rw [s1.2, if_neg (fun e => by have e1 := e.1; have e2 := r9; rw [e1, r20] at e2; exact absurd (Option.some.inj e2) (by decide))]
  have fe_13_0_1 : w_fi ws (n_v vs 13) 0 = w_fi w1 (n_v vs 13) 0 := by show v_iv (w_fd _ _ _) = v_iv (w_fd _ _ _); rw [s1.2, if_neg (fun e => absurd e.2 (by decide))]
  have fe_20_1_1 : w_fi ws (n_v vs 20) 1 = v_iv (n_v vs 2) := by show v_iv (w_fd _ _ _) = _; rw [s1.2, if_pos ⟨rfl, rfl⟩]
  have hE_0_3_1 : ∀ j : Int, w_ei ws (w_ar ws (n_v vs 0) 3) j = w_ei w1 (w_ar ws (n_v vs 0) 3) j := fun j => s1.1 _ _
  have hE_9_7_1 : ∀ j : Int, w_ei ws (w_ar ws (n_v vs 9) 7) j = w_ei w1 (w_ar ws (n_v vs 9) 7) j := fun j => s1.1 _ _
  have hK_9_7 := elq_11 hD hth cr_9_7
  have hE_9_8_1 : ∀ j : Int, w_ei ws (w_ar ws (n_v vs 9) 8) j = w_ei w1 (w_ar ws (n_v vs 9) 8) j := fun j => s1.1 _ _
  have hK_9_8 := elq_12 hD hth cr_9_8
  have hE_11_17_1 : ∀ j : Int, w_ei ws (w_ar ws (n_v vs 11) 17) j = w_ei w1 (w_ar ws (n_v vs 11) 17) j := fun j => s1.1 _ _
  have hK_11_17 := elq_158 hD hth cr_11_17
  have hE_13_9_1 : ∀ j : Int, w_ei ws (w_ar ws (n_v vs 13) 9) j = w_ei w1 (w_ar ws (n_v vs 13) 9) j := fun j => s1.1 _ _
  have hK_13_9 := elq_38 hD hth cr_13_9
  have kz_9_0 := fdq_21 hD hth r9
  have kz_9_1 := fdq_30 hD hth r9
  have kz_13_0 := fdq_294 hD hth r13
  have kz_20_1 := fdq_197 hD hth r20
  have nf0 : fc_1 PRD (20, [0, 5], [62, 2000006]) ws (vs) := by
    refine ⟨nf_in hl rfl, sgq_270 ?_⟩
    · show HY ws (n_v vs 0) (v_iv (n_v vs 5) + (((2000006 : Nat) : Int) - 2000000))
      exact hy_le f18 (by omega)
  refine ⟨(fun _ h => (by cases h)), [], trivial, ?_, (fun _ h => (by cases h))⟩
  rw [List.append_nil]
  exact List.forall_mem_cons.mpr ⟨⟨show (20 : Nat) < 100 from by decide, nf0⟩, (fun _ h => (by cases h))⟩
def o_Ho_draw_at_d_11 : or_T := (203, 20, [(0, (2, 0, 0, [12])), (1, (0, 0, 3, [])), (5, (0, 0, 3066, [])), (9, (2, 0, 0, [3])), (10, (0, 1, 24, [])), (11, (2, 0, 0, [4])), (12, (2, 0, 0, [3])), (13, (2, 0, 0, [2])), (16, (2, 0, 0, [12])), (17, (0, 0, 3072, []))], [(9, [10, 9], [0]), (20, [12], [50, 1, 0, 0, 0, 2, 0, 1, 2, 0, 0]), (24, [0, 16], []), (23, [17, 5], [0, 1, -1]), (23, [17, 5], [0, -1, 1]), (20, [12], [60, 2, 2, 596, 0, 1, 7, 8]), (20, [12, 13], [60, 1, 3, 658, 1, 7, 8, 1009]), (20, [12], [50, 1, 0, 0, 0, 2, 0, 1, 2, 0, 0]), (20, [11], [60, 0, 1, 648, 17]), (20, [12, 13], [60, 1, 3, 658, 1, 7, 8, 1009]), (20, [12], [60, 2, 2, 596, 0, 1, 7, 8]), (24, [9, 12], []), (20, [9], [50, 1, 0, 0, 0, 2, 0, 1, 2, 0, 0]), (20, [0, 1], [51, 0, 0, 1, 4000000000, 0, 2, 0, 1, 14, 0, 0, 4000, 1, 1]), (20, [11], [60, 0, 1, 648, 17]), (20, [13], [50, 1, 0, 0, 7, 3, 2, 0, 0, 0, 0]), (20, [16, 17], [62, 2000000]), (102, [17], [42202988866171645644062132502901276672, 7, 8, 4001, 4002, 4003, 10000, 10001]), (23, [17, 5], [0, 1, -1]), (23, [17, 5], [0, -1, 1]), (102, [12], [281337537757184, 2000, 2001, 2002, 2003]), (101, [0, 11], [17]), (102, [10], [509258994083621521567111422102344540262867098416484062659035112338633103872697133707558912, 299000, 299001, 299002, 299003, 299004, 299005, 299006, 299007, 299008, 299009, 299010, 299011, 299012, 299013, 299014, 299015, 299016, 299017, 299018, 299019, 299020, 300000, 300001, 300002, 300003, 300004, 300005, 300006, 300007, 300008]), (8, [10], [1])], [], [], [(20, [0, 5], [62, 2000006])], [], [])
theorem oo_Ho_draw_at_d_11 {kA : Nat → ClassId} : or_ok PRD kA GG o_Ho_draw_at_d_11 := by
  refine or_mk fun A ta ws vs hD hth hl => ?_
  intro t0 r0 t1 k1 t5 k5 t9 r9 t10 k10 t11 r11 t12 r12 t13 r13 t16 r16 t17 k17 f0 f1 f2 f3 f4 f5 f6 f7 f8 f9 f10 f11 f12 f13 f14 f15 f16 ta1 w1 le1 s1 f18 f19 ta2 w2 le2 s2 ta3 w3 le3 s3 ta4 w4 le4 s4 f23
  replace f0 := shm_163 f0
  replace f1 := shm_1220 f1
  replace f2 := shm_5 f2
  replace f3 := shm_7 f3
  replace f4 := shm_22 f4
  replace f5 := shm_386 f5
  replace f6 := shm_1906 f6
  replace f7 := shm_1220 f7
  replace f8 := shm_1096 f8
  replace f9 := shm_1906 f9
  replace f10 := shm_386 f10
  replace f11 := shm_5 f11
  replace f12 := shm_1220 f12
  replace f13 := shm_2317 f13
  replace f14 := shm_1096 f14
  replace f15 := shm_2130 f15
  replace f16 := shm_161 f16
  replace f18 := shm_7 f18
  replace f19 := shm_22 f19
  have s3 : (∀ b j, w_el w2 b j = w_el w3 b j) ∧ ∀ b j, w_fd w2 b j = if b = v_ad (n_v vs 0) ∧ j = 17 then n_v vs 11 else w_fd w3 b j := s3.2
  replace f23 := shm_142 f23
  have q16 : n_v vs 16 = n_v vs 0 := f2.symm
  have q12 : n_v vs 12 = n_v vs 9 := f11.symm
  simp only [q12, q16] at f1 f5 f6 f7 f9 f10 f16
  have cr_9_7 := fdq_46 hD hth r9
  have cr_9_8 := fdq_47 hD hth r9
  have cr_11_17 := fdq_251 hD hth r11
  have cr_13_9 := fdq_76 hD hth r13
  have g0 : v_iv (n_v vs 10) = w_fi ws (n_v vs 9) 0 := congrArg v_iv f0
  have hK_9_7 := elq_11 hD hth cr_9_7
  have hK_9_8 := elq_12 hD hth cr_9_8
  have hK_11_17 := elq_158 hD hth cr_11_17
  have hK_13_9 := elq_38 hD hth cr_13_9
  have kz_9_0 := fdq_21 hD hth r9
  have kz_9_1 := fdq_30 hD hth r9
  have kz_13_0 := fdq_294 hD hth r13
  have nf0 : fc_1 PRD (20, [0, 5], [62, 2000006]) ws (vs) := by
    refine ⟨nf_in hl rfl, sgq_270 ?_⟩
    · show HY ws (n_v vs 0) (v_iv (n_v vs 5) + (((2000006 : Nat) : Int) - 2000000))
      exact hy_le f16 (by omega)
  refine ⟨(fun _ h => (by cases h)), [], trivial, ?_, (fun _ h => (by cases h))⟩
  rw [List.append_nil]
  exact List.forall_mem_cons.mpr ⟨⟨show (20 : Nat) < 100 from by decide, nf0⟩, (fun _ h => (by cases h))⟩
def o_Ho_draw_at_d_12 : or_T := (57, 11, [(4, (2, 0, 0, [4]))], [(9, [4, 0], [17]), (20, [0], [62, 1000000])], [], [], [(20, [4], [60, 0, 1, 648, 17])], [], [])
theorem oo_Ho_draw_at_d_12 {kA : Nat → ClassId} : or_ok PRD kA GG o_Ho_draw_at_d_12 := by
  refine or_mk fun A ta ws vs hD hth hl => ?_
  intro t4 r4 f0 f1
  replace f0 := shm_795 f0
  replace f1 := shm_2315 f1
  have nf0 : fc_1 PRD (20, [4], [60, 0, 1, 648, 17]) ws (vs) := by
    refine ⟨nf_in hl rfl, sgq_1096 ?_⟩
    · show ORD (w_ei ws (w_ar ws (n_v vs 4) 17))
      obtain ⟨ax, _, ex, _⟩ := tv_ref t4 rfl
      exact hl_ord (g := GG_4) hD hth f1 f0 r4 rfl (by decide) rfl rfl ⟨ax, ex⟩
  refine ⟨(fun _ h => (by cases h)), [], trivial, ?_, (fun _ h => (by cases h))⟩
  rw [List.append_nil]
  exact List.forall_mem_cons.mpr ⟨⟨show (20 : Nat) < 100 from by decide, nf0⟩, (fun _ h => (by cases h))⟩
def o_Ho_draw_at_d_13 : or_T := (63, 12, [(0, (2, 0, 0, [12])), (1, (0, 0, 3, [])), (8, (2, 0, 0, [131])), (9, (2, 0, 0, [3])), (11, (2, 0, 0, [3]))], [(14, [11, 8, 1], []), (9, [8, 0], [0]), (20, [0, 1, 9], [62, 71])], [], [], [(24, [9, 11], [])], [], [])
theorem oo_Ho_draw_at_d_13 {kA : Nat → ClassId} : or_ok PRD kA GG o_Ho_draw_at_d_13 := by
  refine or_mk fun A ta ws vs hD hth hl => ?_
  intro t0 r0 t1 k1 t8 r8 t9 r9 t11 r11 f0 f1 f2
  replace f0 := shm_793 f0
  replace f1 := shm_163 f1
  replace f2 := shm_1819 f2
  have nf0 : fc_1 PRD (24, [9, 11], []) ws (vs) := by
    refine ⟨nf_in hl rfl, sgq_5 ?_⟩
    · show n_v vs 9 = n_v vs 11
      exact ref_same t9 t11 rfl rfl ((wl_0 (wq_wl f2) (by decide)).trans (pO_of f1 f0).symm)
  refine ⟨(fun _ h => (by cases h)), [], trivial, ?_, (fun _ h => (by cases h))⟩
  rw [List.append_nil]
  exact List.forall_mem_cons.mpr ⟨⟨show (24 : Nat) < 100 from by decide, nf0⟩, (fun _ h => (by cases h))⟩
def o_Ho_draw_at_d_14 : or_T := (63, 12, [(0, (2, 0, 0, [12])), (1, (0, 0, 3, [])), (4, (2, 0, 0, [4])), (8, (2, 0, 0, [131])), (9, (2, 0, 0, [3])), (10, (0, 1, 24, [])), (11, (2, 0, 0, [3]))], [(24, [9, 11], []), (14, [11, 8, 1], []), (9, [8, 0], [0]), (20, [4], [60, 0, 1, 648, 17]), (20, [9], [50, 1, 0, 0, 0, 2, 0, 1, 2, 0, 0]), (8, [10], [1]), (9, [10, 9], [0]), (20, [0, 1, 9], [62, 71]), (14, [9, 8, 1], []), (20, [0, 1], [51, 0, 0, 1, 4000000000, 0, 2, 0, 1, 14, 0, 0, 4000, 1, 1])], [], [], [(20, [0, 1, 11], [62, 71])], [], [])
theorem oo_Ho_draw_at_d_14 {kA : Nat → ClassId} : or_ok PRD kA GG o_Ho_draw_at_d_14 := by
  refine or_mk fun A ta ws vs hD hth hl => ?_
  intro t0 r0 t1 k1 t4 r4 t8 r8 t9 r9 t10 k10 t11 r11 f0 f1 f2 f3 f4 f5 f6 f7 f8 f9
  replace f0 := shm_5 f0
  replace f7 := shm_1819 f7
  have q11 : n_v vs 11 = n_v vs 9 := f0.symm
  have nf0 : fc_1 PRD (20, [0, 1, 11], [62, 71]) ws (vs) := by
    refine ⟨nf_in hl rfl, sgq_1819 ?_⟩
    · show WQF 71 [n_v vs 0, n_v vs 1, n_v vs 11] ws
      first | rw [q11] | skip
      have zw := f7
      first | rw [show n_v vs 9 = n_v vs 11 from (by first | exact f0 | exact f0.symm)] at zw | skip
      first | exact zw | ((first | rw [q11] at zw | skip); exact zw)
  refine ⟨(fun _ h => (by cases h)), [], trivial, ?_, (fun _ h => (by cases h))⟩
  rw [List.append_nil]
  exact List.forall_mem_cons.mpr ⟨⟨show (20 : Nat) < 100 from by decide, nf0⟩, (fun _ h => (by cases h))⟩
def o_Ho_draw_at_d_15 : or_T := (68, 13, [(0, (2, 0, 0, [12]))], [(20, [0], [62, 0]), (102, [11], [281337537757184, 2000, 2001, 2002, 2003]), (20, [0, 1, 11], [62, 71])], [], [], [(20, [0, 1, 11], [62, 71])], [], [])
theorem oo_Ho_draw_at_d_15 {kA : Nat → ClassId} : or_ok PRD kA GG o_Ho_draw_at_d_15 := by
  refine or_mk fun A ta ws vs hD hth hl => ?_
  intro t0 r0 f0 ta1 w1 le1 s1 f2
  replace f0 := shm_1176 f0
  replace s1 := s1.2
  replace f2 := shm_1819 f2
  have nf0 : fc_1 PRD (20, [0, 1, 11], [62, 71]) ws (vs) := by
    refine ⟨nf_in hl rfl, sgq_1819 ?_⟩
    · show WQF 71 [n_v vs 0, n_v vs 1, n_v vs 11] ws
      obtain ⟨aH, _, eH, _⟩ := tv_ref t0 rfl
      have hH0 := s1.2.2.1 11 List.mem_cons_self 0 (by decide) aH eH
      exact wq_step f0 (hd_call hD hth (by decide +kernel) le1 r0 (by rw [eH]; exact hH0) s1 (by decide +kernel)) f2 (by decide)
  refine ⟨(fun _ h => (by cases h)), [], trivial, ?_, (fun _ h => (by cases h))⟩
  rw [List.append_nil]
  exact List.forall_mem_cons.mpr ⟨⟨show (20 : Nat) < 100 from by decide, nf0⟩, (fun _ h => (by cases h))⟩
def o_Ho_draw_at_d_16 : or_T := (74, 15, [(0, (2, 0, 0, [12])), (1, (0, 0, 3, [])), (11, (2, 0, 0, [3]))], [(20, [0, 1, 11], [62, 71])], [], [], [(20, [11], [60, 2, 2, 596, 0, 1, 7, 8])], [], [])
theorem oo_Ho_draw_at_d_16 {kA : Nat → ClassId} : or_ok PRD kA GG o_Ho_draw_at_d_16 := by
  refine or_mk fun A ta ws vs hD hth hl => ?_
  intro t0 r0 t1 k1 t11 r11 f0
  replace f0 := shm_1819 f0
  have nf0 : fc_1 PRD (20, [11], [60, 2, 2, 596, 0, 1, 7, 8]) ws (vs) := by
    refine ⟨nf_in hl rfl, sgq_386 ?_⟩
    · show GKE (w_fi ws (n_v vs 11) 0) (w_fi ws (n_v vs 11) 1) (w_ei ws (w_ar ws (n_v vs 11) 7)) (w_ei ws (w_ar ws (n_v vs 11) 8))
      exact hg_gke (wq_hg f0 (by decide) (wl_0 (wq_wl (k := 71) f0) (by decide)))
  refine ⟨(fun _ h => (by cases h)), [], trivial, ?_, (fun _ h => (by cases h))⟩
  rw [List.append_nil]
  exact List.forall_mem_cons.mpr ⟨⟨show (20 : Nat) < 100 from by decide, nf0⟩, (fun _ h => (by cases h))⟩
def o_Ho_draw_at_d_17 : or_T := (74, 15, [(0, (2, 0, 0, [12])), (1, (0, 0, 3, [])), (11, (2, 0, 0, [3])), (12, (2, 0, 0, [2]))], [(20, [0, 1, 11], [62, 71]), (20, [0, 1, 12], [62, 135]), (20, [12], [50, 1, 0, 0, 7, 3, 2, 0, 0, 0, 0])], [], [], [(20, [11, 12], [60, 1, 3, 658, 1, 7, 8, 1009])], [], [])
theorem oo_Ho_draw_at_d_17 {kA : Nat → ClassId} : or_ok PRD kA GG o_Ho_draw_at_d_17 := by
  refine or_mk fun A ta ws vs hD hth hl => ?_
  intro t0 r0 t1 k1 t11 r11 t12 r12 f0 f1 f2
  replace f0 := shm_1819 f0
  replace f1 := shm_2132 f1
  replace f2 := shm_2130 f2
  have nf0 : fc_1 PRD (20, [11, 12], [60, 1, 3, 658, 1, 7, 8, 1009]) ws (vs) := by
    refine ⟨nf_in hl rfl, sgq_1906 ?_⟩
    · show TPO (w_fi ws (n_v vs 11) 1) (w_ei ws (w_ar ws (n_v vs 11) 7)) (w_ei ws (w_ar ws (n_v vs 11) 8)) (w_ei ws (w_ar ws (n_v vs 12) 9))
      exact (hf_all (wq_hf f0 (by decide) (wl_0 (wq_wl (k := 71) f0) (by decide)) (wl_0 (wq_wl (k := 135) f1) (by decide))) (show w_fi ws (n_v vs 12) 0 ≠ 0 from f2)).2.2.1
  refine ⟨(fun _ h => (by cases h)), [], trivial, ?_, (fun _ h => (by cases h))⟩
  rw [List.append_nil]
  exact List.forall_mem_cons.mpr ⟨⟨show (20 : Nat) < 100 from by decide, nf0⟩, (fun _ h => (by cases h))⟩
set_option maxHeartbeats 4000000 in
theorem vc_Ho_draw_at_d_18_0 (nodes_0o9 : Int) (f7 : 1 ≤ nodes_0o9) (kz_9_0 : 0 ≤ nodes_0o9 ∧ nodes_0o9 ≤ 24) : 1 ≤ nodes_0o9 := by
  first | omega
set_option maxHeartbeats 4000000 in
theorem vc_Ho_draw_at_d_18_2 (x5 : Int) (gy : Int) (k5 : 0 ≤ x5 ∧ x5 ≤ 3066) (ey2 : gy = x5) : 1 * gy + ((-1) * x5 + 0) ≤ 0 := by
  first | omega
set_option maxHeartbeats 4000000 in
theorem vc_Ho_draw_at_d_18_3 (x5 : Int) (gy : Int) (k5 : 0 ≤ x5 ∧ x5 ≤ 3066) (ey2 : gy = x5) : (-1) * gy + (1 * x5 + 0) ≤ 0 := by
  first | omega
set_option maxHeartbeats 4000000 in
theorem vc_Ho_draw_at_d_18_4 (nodes_0o9 : Int) (tail_0o9 : Int → Int) (head_0o9 : Int → Int) (edges_0o9 : Int) (f2 : GKE (nodes_0o9) (edges_0o9) (tail_0o9) (head_0o9)) (kz_9_0 : 0 ≤ nodes_0o9 ∧ nodes_0o9 ≤ 24) (kz_9_1 : 0 ≤ edges_0o9 ∧ edges_0o9 ≤ 48) : GKE (nodes_0o9) (edges_0o9) (tail_0o9) (head_0o9) := by
  first | assumption
set_option maxHeartbeats 4000000 in
theorem vc_Ho_draw_at_d_18_5 (tail_0o9 : Int → Int) (head_0o9 : Int → Int) (turned_0o12 : Int → Int) (edges_0o9 : Int) (f1 : TPO (edges_0o9) (tail_0o9) (head_0o9) (turned_0o12)) (kz_9_1 : 0 ≤ edges_0o9 ∧ edges_0o9 ≤ 48) : TPO (edges_0o9) (tail_0o9) (head_0o9) (turned_0o12) := by
  first | assumption
set_option maxHeartbeats 4000000 in
theorem vc_Ho_draw_at_d_18_6 (nodes_0o9 : Int) (f7 : 1 ≤ nodes_0o9) (kz_9_0 : 0 ≤ nodes_0o9 ∧ nodes_0o9 ≤ 24) : 1 ≤ nodes_0o9 := by
  first | omega
set_option maxHeartbeats 4000000 in
theorem vc_Ho_draw_at_d_18_7 (orders_0o4 : Int → Int) (f6 : ORD (orders_0o4)) : ORD (orders_0o4) := by
  first | assumption
def o_Ho_draw_at_d_18 : or_T := (74, 15, [(0, (2, 0, 0, [12])), (1, (0, 0, 3, [])), (4, (2, 0, 0, [4])), (5, (0, 0, 3066, [])), (9, (2, 0, 0, [3])), (10, (0, 1, 24, [])), (11, (2, 0, 0, [3])), (12, (2, 0, 0, [2])), (13, (2, 0, 0, [134])), (14, (2, 0, 0, [0]))], [(9, [10, 9], [0]), (20, [11, 12], [60, 1, 3, 658, 1, 7, 8, 1009]), (20, [11], [60, 2, 2, 596, 0, 1, 7, 8]), (14, [14, 13, 1], []), (9, [13, 0], [3]), (24, [9, 11], []), (20, [4], [60, 0, 1, 648, 17]), (20, [9], [50, 1, 0, 0, 0, 2, 0, 1, 2, 0, 0]), (20, [0, 5], [62, 2000000]), (20, [0, 1], [51, 0, 0, 1, 4000000000, 0, 2, 0, 1, 14, 0, 0, 4000, 1, 1]), (20, [12], [50, 1, 0, 0, 7, 3, 2, 0, 0, 0, 0]), (102, [11], [281337537757184, 2000, 2001, 2002, 2003]), (8, [10], [1])], [], [(2, 0, 0, [12]), (0, 0, 3072, [])], [(20, [11], [50, 1, 0, 0, 0, 2, 0, 1, 2, 0, 0]), (24, [0, 15], []), (23, [16, 5], [0, 1, -1]), (23, [16, 5], [0, -1, 1]), (20, [11], [60, 2, 2, 596, 0, 1, 7, 8]), (20, [11, 12], [60, 1, 3, 658, 1, 7, 8, 1009]), (20, [11], [50, 1, 0, 0, 0, 2, 0, 1, 2, 0, 0]), (20, [4], [60, 0, 1, 648, 17]), (20, [15, 16], [62, 2000000])], [], [])
theorem oo_Ho_draw_at_d_18 {kA : Nat → ClassId} : or_ok PRD kA GG o_Ho_draw_at_d_18 := by
  refine or_mk fun A ta ws vs hD hth hl => ?_
  intro t0 r0 t1 k1 t4 r4 t5 k5 t9 r9 t10 k10 t11 r11 t12 r12 t13 r13 t14 r14 f0 f1 f2 f3 f4 f5 f6 f7 f8 f9 f10 ta1 w1 le1 s1 f12
  replace f0 := shm_163 f0
  replace f1 := shm_1906 f1
  replace f2 := shm_386 f2
  replace f3 := shm_793 f3
  replace f4 := shm_137 f4
  replace f5 := shm_5 f5
  replace f6 := shm_1096 f6
  replace f7 := shm_1220 f7
  replace f8 := shm_161 f8
  replace f9 := shm_2317 f9
  replace f10 := shm_2130 f10
  replace f12 := shm_142 f12
  have q11 : n_v vs 11 = n_v vs 9 := f5.symm
  simp only [q11] at f1 f2
  have cr_0_3 := fdq_196 hD hth r0
  have cr_4_17 := fdq_251 hD hth r4
  have cr_9_7 := fdq_46 hD hth r9
  have cr_9_8 := fdq_47 hD hth r9
  have cr_12_9 := fdq_76 hD hth r12
  have ad_13 : v_ad (n_v vs 13) = w_ar ws (n_v vs 0) 3 := congrArg v_ad f4
  have g0 : v_iv (n_v vs 10) = w_fi ws (n_v vs 9) 0 := congrArg v_iv f0
  have hK_4_17 := elq_158 hD hth cr_4_17
  have hK_9_7 := elq_11 hD hth cr_9_7
  have hK_9_8 := elq_12 hD hth cr_9_8
  have hK_12_9 := elq_38 hD hth cr_12_9
  have kz_9_0 := fdq_21 hD hth r9
  have kz_9_1 := fdq_30 hD hth r9
  have kz_12_0 := fdq_294 hD hth r12
  obtain ⟨y, ey, hy⟩ := iv_ex (ta := ta) (lo := 0) (hi := 3072) (z := v_iv (n_v vs 5)) (by omega) (by omega) (by omega) (by omega)
  have ey2 : v_iv (Value.int y) = v_iv (n_v vs 5) := ey
  have ey3 : 0 ≤ v_iv (Value.int y) ∧ v_iv (Value.int y) ≤ 3072 := tv_rng hy
  have e_0 : n_v (vs ++ [n_v vs 0, Value.int y]) 0 = n_v vs 0 := n_v_old (by rw [hl]; decide)
  have e_4 : n_v (vs ++ [n_v vs 0, Value.int y]) 4 = n_v vs 4 := n_v_old (by rw [hl]; decide)
  have e_5 : n_v (vs ++ [n_v vs 0, Value.int y]) 5 = n_v vs 5 := n_v_old (by rw [hl]; decide)
  have e_11 : n_v (vs ++ [n_v vs 0, Value.int y]) 11 = n_v vs 11 := n_v_old (by rw [hl]; decide)
  have e_12 : n_v (vs ++ [n_v vs 0, Value.int y]) 12 = n_v vs 12 := n_v_old (by rw [hl]; decide)
  have e_15 : n_v (vs ++ [n_v vs 0, Value.int y]) 15 = n_v vs 0 := n_v_new0 hl
  have e_16 : n_v (vs ++ [n_v vs 0, Value.int y]) 16 = Value.int y := n_v_new1 hl
  have nf0 : fc_1 PRD (20, [11], [50, 1, 0, 0, 0, 2, 0, 1, 2, 0, 0]) ws (vs ++ [n_v vs 0, Value.int y]) := by
    refine ⟨nf_inA hl rfl, sgq_1220 ?_⟩
    · show 1 ≤ w_fi ws (n_v (vs ++ [n_v vs 0, Value.int y]) 11) 0
      simp only [e_11, q11]
      exact vc_Ho_draw_at_d_18_0 (w_fi ws (n_v vs 9) 0) f7 kz_9_0
  have nf1 : fc_1 PRD (24, [0, 15], []) ws (vs ++ [n_v vs 0, Value.int y]) := by
    refine ⟨nf_inA hl rfl, sgq_5 ?_⟩
    · show n_v (vs ++ [n_v vs 0, Value.int y]) 0 = n_v (vs ++ [n_v vs 0, Value.int y]) 15
      first | rfl | simp only [e_0, e_15, q11]
  have nf2 : fc_1 PRD (23, [16, 5], [0, 1, -1]) ws (vs ++ [n_v vs 0, Value.int y]) := by
    refine ⟨nf_inA hl rfl, sgq_7 ?_⟩
    · show 1 * v_iv (n_v (vs ++ [n_v vs 0, Value.int y]) 16) + ((-1) * v_iv (n_v (vs ++ [n_v vs 0, Value.int y]) 5) + 0) ≤ 0
      simp only [e_5, e_16]
      exact vc_Ho_draw_at_d_18_2 (v_iv (n_v vs 5)) (v_iv (Value.int y)) k5 ey2
  have nf3 : fc_1 PRD (23, [16, 5], [0, -1, 1]) ws (vs ++ [n_v vs 0, Value.int y]) := by
    refine ⟨nf_inA hl rfl, sgq_22 ?_⟩
    · show (-1) * v_iv (n_v (vs ++ [n_v vs 0, Value.int y]) 16) + (1 * v_iv (n_v (vs ++ [n_v vs 0, Value.int y]) 5) + 0) ≤ 0
      simp only [e_5, e_16]
      exact vc_Ho_draw_at_d_18_3 (v_iv (n_v vs 5)) (v_iv (Value.int y)) k5 ey2
  have nf4 : fc_1 PRD (20, [11], [60, 2, 2, 596, 0, 1, 7, 8]) ws (vs ++ [n_v vs 0, Value.int y]) := by
    refine ⟨nf_inA hl rfl, sgq_386 ?_⟩
    · show GKE (w_fi ws (n_v (vs ++ [n_v vs 0, Value.int y]) 11) 0) (w_fi ws (n_v (vs ++ [n_v vs 0, Value.int y]) 11) 1) (w_ei ws (w_ar ws (n_v (vs ++ [n_v vs 0, Value.int y]) 11) 7)) (w_ei ws (w_ar ws (n_v (vs ++ [n_v vs 0, Value.int y]) 11) 8))
      simp only [e_11, q11]
      exact vc_Ho_draw_at_d_18_4 (w_fi ws (n_v vs 9) 0) (w_ei ws (w_ar ws (n_v vs 9) 7)) (w_ei ws (w_ar ws (n_v vs 9) 8)) (w_fi ws (n_v vs 9) 1) f2 kz_9_0 kz_9_1
  have nf5 : fc_1 PRD (20, [11, 12], [60, 1, 3, 658, 1, 7, 8, 1009]) ws (vs ++ [n_v vs 0, Value.int y]) := by
    refine ⟨nf_inA hl rfl, sgq_1906 ?_⟩
    · show TPO (w_fi ws (n_v (vs ++ [n_v vs 0, Value.int y]) 11) 1) (w_ei ws (w_ar ws (n_v (vs ++ [n_v vs 0, Value.int y]) 11) 7)) (w_ei ws (w_ar ws (n_v (vs ++ [n_v vs 0, Value.int y]) 11) 8)) (w_ei ws (w_ar ws (n_v (vs ++ [n_v vs 0, Value.int y]) 12) 9))
      simp only [e_11, e_12, q11]
      exact vc_Ho_draw_at_d_18_5 (w_ei ws (w_ar ws (n_v vs 9) 7)) (w_ei ws (w_ar ws (n_v vs 9) 8)) (w_ei ws (w_ar ws (n_v vs 12) 9)) (w_fi ws (n_v vs 9) 1) f1 kz_9_1
  have nf6 : fc_1 PRD (20, [11], [50, 1, 0, 0, 0, 2, 0, 1, 2, 0, 0]) ws (vs ++ [n_v vs 0, Value.int y]) := by
    refine ⟨nf_inA hl rfl, sgq_1220 ?_⟩
    · show 1 ≤ w_fi ws (n_v (vs ++ [n_v vs 0, Value.int y]) 11) 0
      simp only [e_11, q11]
      exact vc_Ho_draw_at_d_18_6 (w_fi ws (n_v vs 9) 0) f7 kz_9_0
  have nf7 : fc_1 PRD (20, [4], [60, 0, 1, 648, 17]) ws (vs ++ [n_v vs 0, Value.int y]) := by
    refine ⟨nf_inA hl rfl, sgq_1096 ?_⟩
    · show ORD (w_ei ws (w_ar ws (n_v (vs ++ [n_v vs 0, Value.int y]) 4) 17))
      rw [e_4]
      exact vc_Ho_draw_at_d_18_7 (w_ei ws (w_ar ws (n_v vs 4) 17)) f6
  have nf8 : fc_1 PRD (20, [15, 16], [62, 2000000]) ws (vs ++ [n_v vs 0, Value.int y]) := by
    refine ⟨nf_inA hl rfl, sgq_161 ?_⟩
    · show HY ws (n_v (vs ++ [n_v vs 0, Value.int y]) 15) (v_iv (n_v (vs ++ [n_v vs 0, Value.int y]) 16) + (((2000000 : Nat) : Int) - 2000000))
      simp only [e_15, e_16]
      exact hy_le f8 (by omega)
  exact ⟨(fun _ h => (by cases h)), [n_v vs 0, Value.int y], ag_two t0 hy, List.forall_mem_cons.mpr ⟨⟨show (20 : Nat) < 100 from by decide, nf0⟩, List.forall_mem_cons.mpr ⟨⟨show (24 : Nat) < 100 from by decide, nf1⟩, List.forall_mem_cons.mpr ⟨⟨show (23 : Nat) < 100 from by decide, nf2⟩, List.forall_mem_cons.mpr ⟨⟨show (23 : Nat) < 100 from by decide, nf3⟩, List.forall_mem_cons.mpr ⟨⟨show (20 : Nat) < 100 from by decide, nf4⟩, List.forall_mem_cons.mpr ⟨⟨show (20 : Nat) < 100 from by decide, nf5⟩, List.forall_mem_cons.mpr ⟨⟨show (20 : Nat) < 100 from by decide, nf6⟩, List.forall_mem_cons.mpr ⟨⟨show (20 : Nat) < 100 from by decide, nf7⟩, List.forall_mem_cons.mpr ⟨⟨show (20 : Nat) < 100 from by decide, nf8⟩, (fun _ h => (by cases h))⟩⟩⟩⟩⟩⟩⟩⟩⟩, (fun _ h => (by cases h))⟩
def o_Ho_draw_at_d_19 : or_T := (203, 20, [(0, (2, 0, 0, [12])), (1, (0, 0, 3, [])), (2, (0, 0, 0, [])), (4, (2, 0, 0, [4])), (5, (0, 0, 3066, [])), (7, (0, 7, 7, [])), (9, (2, 0, 0, [3])), (10, (0, 1, 24, [])), (11, (2, 0, 0, [3])), (12, (2, 0, 0, [2])), (13, (2, 0, 0, [134])), (15, (2, 0, 0, [12])), (16, (0, 0, 3072, [])), (19, (2, 0, 0, [0]))], [(9, [2, 19], [1]), (9, [13, 0], [3]), (9, [10, 9], [0]), (20, [11], [50, 1, 0, 0, 0, 2, 0, 1, 2, 0, 0]), (24, [0, 15], []), (23, [16, 5], [0, 1, -1]), (23, [16, 5], [0, -1, 1]), (20, [11], [60, 2, 2, 596, 0, 1, 7, 8]), (20, [11, 12], [60, 1, 3, 658, 1, 7, 8, 1009]), (20, [11], [50, 1, 0, 0, 0, 2, 0, 1, 2, 0, 0]), (20, [4], [60, 0, 1, 648, 17]), (20, [11, 12], [60, 1, 3, 658, 1, 7, 8, 1009]), (20, [11], [60, 2, 2, 596, 0, 1, 7, 8]), (24, [9, 11], []), (20, [4], [60, 0, 1, 648, 17]), (20, [9], [50, 1, 0, 0, 0, 2, 0, 1, 2, 0, 0]), (20, [0, 1], [51, 0, 0, 1, 4000000000, 0, 2, 0, 1, 14, 0, 0, 4000, 1, 1]), (20, [12], [50, 1, 0, 0, 7, 3, 2, 0, 0, 0, 0]), (20, [15, 16], [62, 2000000]), (101, [19, 2], [1]), (14, [19, 13, 1], []), (20, [11], [50, 1, 0, 0, 0, 2, 0, 1, 2, 0, 0]), (23, [16, 5], [0, 1, -1]), (23, [16, 5], [0, -1, 1]), (20, [11], [60, 2, 2, 596, 0, 1, 7, 8]), (20, [11, 12], [60, 1, 3, 658, 1, 7, 8, 1009]), (20, [11], [50, 1, 0, 0, 0, 2, 0, 1, 2, 0, 0]), (20, [4], [60, 0, 1, 648, 17]), (20, [11, 12], [60, 1, 3, 658, 1, 7, 8, 1009]), (20, [11], [60, 2, 2, 596, 0, 1, 7, 8]), (20, [4], [60, 0, 1, 648, 17]), (20, [9], [50, 1, 0, 0, 0, 2, 0, 1, 2, 0, 0]), (20, [0, 1], [51, 0, 0, 1, 4000000000, 0, 2, 0, 1, 14, 0, 0, 4000, 1, 1]), (20, [12], [50, 1, 0, 0, 7, 3, 2, 0, 0, 0, 0]), (102, [16], [42202988866171645644062132502901276672, 7, 8, 4001, 4002, 4003, 10000, 10001]), (23, [16, 5], [0, 1, -1]), (23, [16, 5], [0, -1, 1]), (102, [11], [281337537757184, 2000, 2001, 2002, 2003]), (8, [2], [0]), (8, [10], [1]), (7, [2, 7], [5]), (8, [2], [3])], [], [], [(20, [0, 5], [62, 2000006])], [], [])
theorem oo_Ho_draw_at_d_19 {kA : Nat → ClassId} : or_ok PRD kA GG o_Ho_draw_at_d_19 := by
  refine or_mk fun A ta ws vs hD hth hl => ?_
  intro t0 r0 t1 k1 t2 k2 t4 r4 t5 k5 t7 k7 t9 r9 t10 k10 t11 r11 t12 r12 t13 r13 t15 r15 t16 k16 t19 r19 f0 f1 f2 f3 f4 f5 f6 f7 f8 f9 f10 f11 f12 f13 f14 f15 f16 f17 f18 ta1 w1 le1 s1 f20 f21 f22 f23 f24 f25 f26 f27 f28 f29 f30 f31 f32 f33 ta2 w2 le2 s2 f35 f36 ta3 w3 le3 s3 f38 f39 f40 f41
  replace f0 := shm_215 f0
  replace f1 := shm_137 f1
  replace f2 := shm_163 f2
  replace f3 := shm_1220 f3
  replace f4 := shm_5 f4
  replace f5 := shm_7 f5
  replace f6 := shm_22 f6
  replace f7 := shm_386 f7
  replace f8 := shm_1906 f8
  replace f9 := shm_1220 f9
  replace f10 := shm_1096 f10
  replace f11 := shm_1906 f11
  replace f12 := shm_386 f12
  replace f13 := shm_5 f13
  replace f14 := shm_1096 f14
  replace f15 := shm_1220 f15
  replace f16 := shm_2317 f16
  replace f17 := shm_2130 f17
  replace f18 := shm_161 f18
  have s1 : (∀ b j, w_el ws b j = w_el w1 b j) ∧ ∀ b j, w_fd ws b j = if b = v_ad (n_v vs 19) ∧ j = 1 then n_v vs 2 else w_fd w1 b j := s1.2
  replace f20 := shm_793 f20
  replace f21 := shm_1220 f21
  replace f22 := shm_7 f22
  replace f23 := shm_22 f23
  replace f24 := shm_386 f24
  replace f25 := shm_1906 f25
  replace f26 := shm_1220 f26
  replace f27 := shm_1096 f27
  replace f28 := shm_1906 f28
  replace f29 := shm_386 f29
  replace f30 := shm_1096 f30
  replace f31 := shm_1220 f31
  replace f32 := shm_2317 f32
  replace f33 := shm_2130 f33
  replace f35 := shm_7 f35
  replace f36 := shm_22 f36
  replace f38 := shm_192 f38
  replace f39 := shm_142 f39
  replace f40 := shm_24 f40
  replace f41 := shm_32 f41
  have q15 : n_v vs 15 = n_v vs 0 := f4.symm
  have q11 : n_v vs 11 = n_v vs 9 := f13.symm
  simp only [q11, q15] at f3 f7 f8 f9 f11 f12 f18 f21 f24 f25 f26 f28 f29
  have ar_0_3_1 : w_ar w1 (n_v vs 0) 3 = w_ar ws (n_v vs 0) 3 := by show v_ad (w_fd w1 _ _) = v_ad (w_fd ws _ _); rw [s1.2, if_neg (fun e => absurd e.2 (by decide))]
  have cr_0_3 := fdq_196 hD hth r0
  have ar_4_17_1 : w_ar w1 (n_v vs 4) 17 = w_ar ws (n_v vs 4) 17 := by show v_ad (w_fd w1 _ _) = v_ad (w_fd ws _ _); rw [s1.2, if_neg (fun e => absurd e.2 (by decide))]
  have cr_4_17 := fdq_251 hD hth r4
  have ar_9_7_1 : w_ar w1 (n_v vs 9) 7 = w_ar ws (n_v vs 9) 7 := by show v_ad (w_fd w1 _ _) = v_ad (w_fd ws _ _); rw [s1.2, if_neg (fun e => absurd e.2 (by decide))]
  have cr_9_7 := fdq_46 hD hth r9
  have ar_9_8_1 : w_ar w1 (n_v vs 9) 8 = w_ar ws (n_v vs 9) 8 := by show v_ad (w_fd w1 _ _) = v_ad (w_fd ws _ _); rw [s1.2, if_neg (fun e => absurd e.2 (by decide))]
  have cr_9_8 := fdq_47 hD hth r9
  have ar_12_9_1 : w_ar w1 (n_v vs 12) 9 = w_ar ws (n_v vs 12) 9 := by show v_ad (w_fd w1 _ _) = v_ad (w_fd ws _ _); rw [s1.2, if_neg (fun e => absurd e.2 (by decide))]
  have cr_12_9 := fdq_76 hD hth r12
  have ad_13 : v_ad (n_v vs 13) = w_ar ws (n_v vs 0) 3 := congrArg v_ad f1
  have g0 : v_iv (n_v vs 2) = w_fi ws (n_v vs 19) 1 := congrArg v_iv f0
  have g2 : v_iv (n_v vs 10) = w_fi ws (n_v vs 9) 0 := congrArg v_iv f2
  simp only [ar_9_7_1, ar_9_8_1, ar_12_9_1, ar_4_17_1] at f24 f25 f27 f28 f29 f30
  have fe_9_0_1 : w_fi ws (n_v vs 9) 0 = w_fi w1 (n_v vs 9) 0 := by show v_iv (w_fd _ _ _) = v_iv (w_fd _ _ _); rw [s1.2, if_neg (fun e => absurd e.2 (by decide))]
  have fe_9_1_1 : w_fi ws (n_v vs 9) 1 = w_fi w1 (n_v vs 9) 1 := by show v_iv (w_fd _ _ _) = v_iv (w_fd _ _ _); rw [s1.2, if_neg (fun e => by have e1 := e.1; have e2 := r9; rw [e1, r19] at e2; exact absurd (Option.some.inj e2) (by decide))]
  have fe_12_0_1 : w_fi ws (n_v vs 12) 0 = w_fi w1 (n_v vs 12) 0 := by show v_iv (w_fd _ _ _) = v_iv (w_fd _ _ _); rw [s1.2, if_neg (fun e => absurd e.2 (by decide))]
  have fe_19_1_1 : w_fi ws (n_v vs 19) 1 = v_iv (n_v vs 2) := by show v_iv (w_fd _ _ _) = _; rw [s1.2, if_pos ⟨rfl, rfl⟩]
  have hE_0_3_1 : ∀ j : Int, w_ei ws (w_ar ws (n_v vs 0) 3) j = w_ei w1 (w_ar ws (n_v vs 0) 3) j := fun j => s1.1 _ _
  have hE_4_17_1 : ∀ j : Int, w_ei ws (w_ar ws (n_v vs 4) 17) j = w_ei w1 (w_ar ws (n_v vs 4) 17) j := fun j => s1.1 _ _
  have hK_4_17 := elq_158 hD hth cr_4_17
  have hE_9_7_1 : ∀ j : Int, w_ei ws (w_ar ws (n_v vs 9) 7) j = w_ei w1 (w_ar ws (n_v vs 9) 7) j := fun j => s1.1 _ _
  have hK_9_7 := elq_11 hD hth cr_9_7
  have hE_9_8_1 : ∀ j : Int, w_ei ws (w_ar ws (n_v vs 9) 8) j = w_ei w1 (w_ar ws (n_v vs 9) 8) j := fun j => s1.1 _ _
  have hK_9_8 := elq_12 hD hth cr_9_8
  have hE_12_9_1 : ∀ j : Int, w_ei ws (w_ar ws (n_v vs 12) 9) j = w_ei w1 (w_ar ws (n_v vs 12) 9) j := fun j => s1.1 _ _
  have hK_12_9 := elq_38 hD hth cr_12_9
  have kz_9_0 := fdq_21 hD hth r9
  have kz_9_1 := fdq_30 hD hth r9
  have kz_12_0 := fdq_294 hD hth r12
  have kz_19_1 := fdq_197 hD hth r19
  have nf0 : fc_1 PRD (20, [0, 5], [62, 2000006]) ws (vs) := by
    refine ⟨nf_in hl rfl, sgq_270 ?_⟩
    · show HY ws (n_v vs 0) (v_iv (n_v vs 5) + (((2000006 : Nat) : Int) - 2000000))
      exact hy_le f18 (by omega)
  refine ⟨(fun _ h => (by cases h)), [], trivial, ?_, (fun _ h => (by cases h))⟩
  rw [List.append_nil]
  exact List.forall_mem_cons.mpr ⟨⟨show (20 : Nat) < 100 from by decide, nf0⟩, (fun _ h => (by cases h))⟩
def o_Ho_draw_at_d_20 : or_T := (203, 19, [(0, (2, 0, 0, [12])), (1, (0, 0, 3, [])), (4, (2, 0, 0, [4])), (5, (0, 0, 3066, [])), (9, (2, 0, 0, [3])), (10, (0, 1, 24, [])), (11, (2, 0, 0, [3])), (12, (2, 0, 0, [2])), (15, (2, 0, 0, [12])), (16, (0, 0, 3072, []))], [(9, [10, 9], [0]), (20, [11], [50, 1, 0, 0, 0, 2, 0, 1, 2, 0, 0]), (24, [0, 15], []), (23, [16, 5], [0, 1, -1]), (23, [16, 5], [0, -1, 1]), (20, [11], [60, 2, 2, 596, 0, 1, 7, 8]), (20, [11, 12], [60, 1, 3, 658, 1, 7, 8, 1009]), (20, [11], [50, 1, 0, 0, 0, 2, 0, 1, 2, 0, 0]), (20, [4], [60, 0, 1, 648, 17]), (20, [11, 12], [60, 1, 3, 658, 1, 7, 8, 1009]), (20, [11], [60, 2, 2, 596, 0, 1, 7, 8]), (24, [9, 11], []), (20, [4], [60, 0, 1, 648, 17]), (20, [9], [50, 1, 0, 0, 0, 2, 0, 1, 2, 0, 0]), (20, [0, 1], [51, 0, 0, 1, 4000000000, 0, 2, 0, 1, 14, 0, 0, 4000, 1, 1]), (20, [12], [50, 1, 0, 0, 7, 3, 2, 0, 0, 0, 0]), (20, [15, 16], [62, 2000000]), (102, [16], [42202988866171645644062132502901276672, 7, 8, 4001, 4002, 4003, 10000, 10001]), (23, [16, 5], [0, 1, -1]), (23, [16, 5], [0, -1, 1]), (102, [11], [281337537757184, 2000, 2001, 2002, 2003]), (8, [10], [1])], [], [], [(20, [0, 5], [62, 2000006])], [], [])
theorem oo_Ho_draw_at_d_20 {kA : Nat → ClassId} : or_ok PRD kA GG o_Ho_draw_at_d_20 := by
  refine or_mk fun A ta ws vs hD hth hl => ?_
  intro t0 r0 t1 k1 t4 r4 t5 k5 t9 r9 t10 k10 t11 r11 t12 r12 t15 r15 t16 k16 f0 f1 f2 f3 f4 f5 f6 f7 f8 f9 f10 f11 f12 f13 f14 f15 f16 ta1 w1 le1 s1 f18 f19 ta2 w2 le2 s2 f21
  replace f0 := shm_163 f0
  replace f1 := shm_1220 f1
  replace f2 := shm_5 f2
  replace f3 := shm_7 f3
  replace f4 := shm_22 f4
  replace f5 := shm_386 f5
  replace f6 := shm_1906 f6
  replace f7 := shm_1220 f7
  replace f8 := shm_1096 f8
  replace f9 := shm_1906 f9
  replace f10 := shm_386 f10
  replace f11 := shm_5 f11
  replace f12 := shm_1096 f12
  replace f13 := shm_1220 f13
  replace f14 := shm_2317 f14
  replace f15 := shm_2130 f15
  replace f16 := shm_161 f16
  replace f18 := shm_7 f18
  replace f19 := shm_22 f19
  replace f21 := shm_142 f21
  have q15 : n_v vs 15 = n_v vs 0 := f2.symm
  have q11 : n_v vs 11 = n_v vs 9 := f11.symm
  simp only [q11, q15] at f1 f5 f6 f7 f9 f10 f16
  have cr_4_17 := fdq_251 hD hth r4
  have cr_9_7 := fdq_46 hD hth r9
  have cr_9_8 := fdq_47 hD hth r9
  have cr_12_9 := fdq_76 hD hth r12
  have g0 : v_iv (n_v vs 10) = w_fi ws (n_v vs 9) 0 := congrArg v_iv f0
  have hK_4_17 := elq_158 hD hth cr_4_17
  have hK_9_7 := elq_11 hD hth cr_9_7
  have hK_9_8 := elq_12 hD hth cr_9_8
  have hK_12_9 := elq_38 hD hth cr_12_9
  have kz_9_0 := fdq_21 hD hth r9
  have kz_9_1 := fdq_30 hD hth r9
  have kz_12_0 := fdq_294 hD hth r12
  have nf0 : fc_1 PRD (20, [0, 5], [62, 2000006]) ws (vs) := by
    refine ⟨nf_in hl rfl, sgq_270 ?_⟩
    · show HY ws (n_v vs 0) (v_iv (n_v vs 5) + (((2000006 : Nat) : Int) - 2000000))
      exact hy_le f16 (by omega)
  refine ⟨(fun _ h => (by cases h)), [], trivial, ?_, (fun _ h => (by cases h))⟩
  rw [List.append_nil]
  exact List.forall_mem_cons.mpr ⟨⟨show (20 : Nat) < 100 from by decide, nf0⟩, (fun _ h => (by cases h))⟩
def n_Ho_draw_at_d_an : List an_T := []
def t_Ho_draw_at_d_ct : ct_L := [(0, 115, e_Ho_isPlace), (1, 147, e_Ho_learned), (1, 293, e_La_lay), (2000043, 0, e_La_init_nw)]
set_option maxRecDepth 100000 in
theorem c_Ho_draw_at_d {l : Launch} {D : va_G} {kA : Nat → ClassId} (h_Ho_isPlace : ct_ok PRD l D kA GG y_Ho_isPlace z_Ho_isPlace e_Ho_isPlace) (h_Ho_learned : ct_ok PRD l D kA GG y_Ho_learned z_Ho_learned e_Ho_learned) (h_La_init : ct_ok PRD l D kA GG y_La_init z_La_init e_La_init) (h_La_lay : ct_ok PRD l D kA GG y_La_lay z_La_lay e_La_lay) : ct_ok PRD l D kA GG y_Ho_draw_at_d z_Ho_draw_at_d e_Ho_draw_at_d := chk_all_ok (FT := [(13, 12, 0), (31, 12, 3), (86, 12, 17), (90, 12, 18), (94, 12, 19), (132, 3, 0)]) (PT := [(86, 12, 17, .object "DrawingHouse$Layers"), (90, 12, 18, .object "DrawingHouse$PlanarWays"), (94, 12, 19, .object "DrawingHouse$PlainWays"), (309, 0, 1, .int)]) (CT := t_Ho_draw_at_d_ct) (KT := []) (NT := []) (AN := n_Ho_draw_at_d_an) (OT := [o_Ho_draw_at_d_0, o_Ho_draw_at_d_1, o_Ho_draw_at_d_2, o_Ho_draw_at_d_3, o_Ho_draw_at_d_4, o_Ho_draw_at_d_5, o_Ho_draw_at_d_6, o_Ho_draw_at_d_7, o_Ho_draw_at_d_8, o_Ho_draw_at_d_9, o_Ho_draw_at_d_10, o_Ho_draw_at_d_11, o_Ho_draw_at_d_12, o_Ho_draw_at_d_13, o_Ho_draw_at_d_14, o_Ho_draw_at_d_15, o_Ho_draw_at_d_16, o_Ho_draw_at_d_17, o_Ho_draw_at_d_18, o_Ho_draw_at_d_19, o_Ho_draw_at_d_20]) 0 344 (List.forall_mem_cons.mpr ⟨oo_Ho_draw_at_d_0, List.forall_mem_cons.mpr ⟨oo_Ho_draw_at_d_1, List.forall_mem_cons.mpr ⟨oo_Ho_draw_at_d_2, List.forall_mem_cons.mpr ⟨oo_Ho_draw_at_d_3, List.forall_mem_cons.mpr ⟨oo_Ho_draw_at_d_4, List.forall_mem_cons.mpr ⟨oo_Ho_draw_at_d_5, List.forall_mem_cons.mpr ⟨oo_Ho_draw_at_d_6, List.forall_mem_cons.mpr ⟨oo_Ho_draw_at_d_7, List.forall_mem_cons.mpr ⟨oo_Ho_draw_at_d_8, List.forall_mem_cons.mpr ⟨oo_Ho_draw_at_d_9, List.forall_mem_cons.mpr ⟨oo_Ho_draw_at_d_10, List.forall_mem_cons.mpr ⟨oo_Ho_draw_at_d_11, List.forall_mem_cons.mpr ⟨oo_Ho_draw_at_d_12, List.forall_mem_cons.mpr ⟨oo_Ho_draw_at_d_13, List.forall_mem_cons.mpr ⟨oo_Ho_draw_at_d_14, List.forall_mem_cons.mpr ⟨oo_Ho_draw_at_d_15, List.forall_mem_cons.mpr ⟨oo_Ho_draw_at_d_16, List.forall_mem_cons.mpr ⟨oo_Ho_draw_at_d_17, List.forall_mem_cons.mpr ⟨oo_Ho_draw_at_d_18, List.forall_mem_cons.mpr ⟨oo_Ho_draw_at_d_19, List.forall_mem_cons.mpr ⟨oo_Ho_draw_at_d_20, List.forall_mem_nil _⟩⟩⟩⟩⟩⟩⟩⟩⟩⟩⟩⟩⟩⟩⟩⟩⟩⟩⟩⟩⟩) (by decide +kernel) ⟨List.forall_mem_cons.mpr ⟨gf_Ho_13, List.forall_mem_cons.mpr ⟨gf_Ho_31, List.forall_mem_cons.mpr ⟨gf_Ho_86, List.forall_mem_cons.mpr ⟨gf_Ho_90, List.forall_mem_cons.mpr ⟨gf_Ho_94, List.forall_mem_cons.mpr ⟨gf_Ho_132, List.forall_mem_nil _⟩⟩⟩⟩⟩⟩, List.forall_mem_cons.mpr ⟨pf_Ho_86, List.forall_mem_cons.mpr ⟨pf_Ho_90, List.forall_mem_cons.mpr ⟨pf_Ho_94, List.forall_mem_cons.mpr ⟨pf_Ho_309, List.forall_mem_nil _⟩⟩⟩⟩, List.forall_mem_cons.mpr ⟨cl_static (y := y_Ho_isPlace) h_Ho_isPlace wm_633 wm_1 wm_631 wm_632 ⟨by decide, by decide, by decide +kernel⟩ (by decide), List.forall_mem_cons.mpr ⟨cl_virtual (y := y_Ho_learned) (ci := 12) rfl rfl ⟨_, _, rfl⟩ (by decide +kernel) h_Ho_learned wm_810 wm_1 wm_807 wm_809 wv_1_14 ⟨by decide, by decide, by decide +kernel⟩ (by decide), List.forall_mem_cons.mpr ⟨cl_virtual (y := y_La_lay) (ci := 4) rfl rfl ⟨_, _, rfl⟩ (by decide +kernel) h_La_lay wm_1309 wm_18 wm_1306 wm_1307 wm_1308 ⟨by decide, by decide, by decide +kernel⟩ (by decide), List.forall_mem_cons.mpr ⟨cq_new (PQ := PRD) (pc := 43) (idx := 290) (index := 292) (rr := 299) (r := 4) h_La_init rfl rfl (by decide +kernel) (by decide +kernel) rfl rfl rfl (ro_none (G := GG) (by decide +kernel)) rfl rfl rfl rfl (by decide +kernel) (by decide +kernel) (by decide +kernel) i_La t_La t_La_ok wm_1186 wm_1187 wm_18 rfl f0La_ok wm_1190 wm_18 (Or.inl wm_1188) wm_1189 rfl ⟨by decide, by decide, by decide +kernel⟩ (by decide) (by decide +kernel) (by decide +kernel) (by decide +kernel), List.forall_mem_nil _⟩⟩⟩⟩, List.forall_mem_nil _, List.forall_mem_nil _, GG_pl⟩ (by decide +kernel)

def o_Ho_draw_at_p_0 : or_T := (30, 7, [(0, (2, 0, 0, [12])), (4, (0, 0, 3066, []))], [(20, [0, 4], [62, 2000000])], [], [], [(20, [0, 4], [62, 2000006])], [], [])
theorem oo_Ho_draw_at_p_0 {kA : Nat → ClassId} : or_ok PRD kA GG o_Ho_draw_at_p_0 := by
  refine or_mk fun A ta ws vs hD hth hl => ?_
  intro t0 r0 t4 k4 f0
  replace f0 := shm_161 f0
  have nf0 : fc_1 PRD (20, [0, 4], [62, 2000006]) ws (vs) := by
    refine ⟨nf_in hl rfl, sgq_270 ?_⟩
    · show HY ws (n_v vs 0) (v_iv (n_v vs 4) + (((2000006 : Nat) : Int) - 2000000))
      exact hy_le f0 (by omega)
  refine ⟨(fun _ h => (by cases h)), [], trivial, ?_, (fun _ h => (by cases h))⟩
  rw [List.append_nil]
  exact List.forall_mem_cons.mpr ⟨⟨show (20 : Nat) < 100 from by decide, nf0⟩, (fun _ h => (by cases h))⟩
def o_Ho_draw_at_p_1 : or_T := (30, 8, [(0, (2, 0, 0, [12])), (4, (0, 0, 3066, []))], [(20, [0, 4], [62, 2000000])], [], [], [(20, [0, 4], [62, 2000006])], [], [])
theorem oo_Ho_draw_at_p_1 {kA : Nat → ClassId} : or_ok PRD kA GG o_Ho_draw_at_p_1 := by
  refine or_mk fun A ta ws vs hD hth hl => ?_
  intro t0 r0 t4 k4 f0
  replace f0 := shm_161 f0
  have nf0 : fc_1 PRD (20, [0, 4], [62, 2000006]) ws (vs) := by
    refine ⟨nf_in hl rfl, sgq_270 ?_⟩
    · show HY ws (n_v vs 0) (v_iv (n_v vs 4) + (((2000006 : Nat) : Int) - 2000000))
      exact hy_le f0 (by omega)
  refine ⟨(fun _ h => (by cases h)), [], trivial, ?_, (fun _ h => (by cases h))⟩
  rw [List.append_nil]
  exact List.forall_mem_cons.mpr ⟨⟨show (20 : Nat) < 100 from by decide, nf0⟩, (fun _ h => (by cases h))⟩
def o_Ho_draw_at_p_2 : or_T := (23, 9, [(0, (2, 0, 0, [12])), (1, (0, 0, 3, [])), (7, (2, 0, 0, [131])), (8, (2, 0, 0, [3]))], [(14, [8, 7, 1], []), (9, [7, 0], [0]), (20, [0], [62, 0])], [], [], [(20, [0, 1, 8], [62, 71])], [], [])
theorem oo_Ho_draw_at_p_2 {kA : Nat → ClassId} : or_ok PRD kA GG o_Ho_draw_at_p_2 := by
  refine or_mk fun A ta ws vs hD hth hl => ?_
  intro t0 r0 t1 k1 t7 r7 t8 r8 f0 f1 f2
  replace f0 := shm_793 f0
  replace f1 := shm_163 f1
  replace f2 := shm_1176 f2
  have cr_0_0 := fdq_311 hD hth r0
  have ad_7 : v_ad (n_v vs 7) = w_ar ws (n_v vs 0) 0 := congrArg v_ad f1
  have nf0 : fc_1 PRD (20, [0, 1, 8], [62, 71]) ws (vs) := by
    refine ⟨nf_in hl rfl, sgq_1819 ?_⟩
    · show WQF 71 [n_v vs 0, n_v vs 1, n_v vs 8] ws
      have zw := f2
      exact wq_in (zw) (by omega) (by omega) ⟨rfl, rfl⟩ ⟨Or.inr (pO_of f1 f0), trivial⟩
  refine ⟨(fun _ h => (by cases h)), [], trivial, ?_, (fun _ h => (by cases h))⟩
  rw [List.append_nil]
  exact List.forall_mem_cons.mpr ⟨⟨show (20 : Nat) < 100 from by decide, nf0⟩, (fun _ h => (by cases h))⟩
set_option maxHeartbeats 4000000 in
theorem vc_Ho_draw_at_p_3_0 (x9 : Int) (nodes_0o8 : Int) (k9 : 1 ≤ x9 ∧ x9 ≤ 24) (g1 : x9 = nodes_0o8) (kz_8_0 : 0 ≤ nodes_0o8 ∧ nodes_0o8 ≤ 24) : 1 ≤ nodes_0o8 := by
  first | omega
def o_Ho_draw_at_p_3 : or_T := (31, 10, [(8, (2, 0, 0, [3])), (9, (0, 1, 24, []))], [(9, [9, 8], [0])], [], [], [(20, [8], [50, 1, 0, 0, 0, 2, 0, 1, 2, 0, 0])], [], [])
theorem oo_Ho_draw_at_p_3 {kA : Nat → ClassId} : or_ok PRD kA GG o_Ho_draw_at_p_3 := by
  refine or_mk fun A ta ws vs hD hth hl => ?_
  intro t8 r8 t9 k9 f1
  replace f1 := shm_163 f1
  have g1 : v_iv (n_v vs 9) = w_fi ws (n_v vs 8) 0 := congrArg v_iv f1
  have kz_8_0 := fdq_21 hD hth r8
  have nf0 : fc_1 PRD (20, [8], [50, 1, 0, 0, 0, 2, 0, 1, 2, 0, 0]) ws (vs) := ⟨nf_in hl rfl, sgq_1220 (vc_Ho_draw_at_p_3_0 (v_iv (n_v vs 9)) (w_fi ws (n_v vs 8) 0) k9 g1 kz_8_0)⟩
  refine ⟨(fun _ h => (by cases h)), [], trivial, ?_, (fun _ h => (by cases h))⟩
  rw [List.append_nil]
  exact List.forall_mem_cons.mpr ⟨⟨show (20 : Nat) < 100 from by decide, nf0⟩, (fun _ h => (by cases h))⟩
def o_Ho_draw_at_p_4 : or_T := (170, 14, [(0, (2, 0, 0, [12])), (1, (0, 0, 3, [])), (7, (2, 0, 0, [131])), (8, (2, 0, 0, [3])), (13, (2, 0, 0, [3]))], [(14, [13, 7, 1], []), (9, [7, 0], [0]), (20, [0, 1, 8], [62, 71])], [], [], [(24, [8, 13], [])], [], [])
theorem oo_Ho_draw_at_p_4 {kA : Nat → ClassId} : or_ok PRD kA GG o_Ho_draw_at_p_4 := by
  refine or_mk fun A ta ws vs hD hth hl => ?_
  intro t0 r0 t1 k1 t7 r7 t8 r8 t13 r13 f0 f1 f2
  replace f0 := shm_793 f0
  replace f1 := shm_163 f1
  replace f2 := shm_1819 f2
  have nf0 : fc_1 PRD (24, [8, 13], []) ws (vs) := by
    refine ⟨nf_in hl rfl, sgq_5 ?_⟩
    · show n_v vs 8 = n_v vs 13
      exact ref_same t8 t13 rfl rfl ((wl_0 (wq_wl f2) (by decide)).trans (pO_of f1 f0).symm)
  refine ⟨(fun _ h => (by cases h)), [], trivial, ?_, (fun _ h => (by cases h))⟩
  rw [List.append_nil]
  exact List.forall_mem_cons.mpr ⟨⟨show (24 : Nat) < 100 from by decide, nf0⟩, (fun _ h => (by cases h))⟩
def o_Ho_draw_at_p_5 : or_T := (170, 14, [(0, (2, 0, 0, [12])), (1, (0, 0, 3, [])), (8, (2, 0, 0, [3])), (9, (0, 1, 24, [])), (13, (2, 0, 0, [3]))], [(9, [9, 8], [0]), (24, [8, 13], []), (20, [8], [50, 1, 0, 0, 0, 2, 0, 1, 2, 0, 0]), (20, [0, 1, 8], [62, 71]), (101, [0, 12], [19]), (102, [11], [0, 302000, 302001, 302002, 302003, 302004, 302005, 302006, 302007, 302008, 302009, 302010, 302011, 302012, 302013, 302014, 302015, 302016, 302017, 302018]), (8, [9], [1])], [], [], [(20, [0, 1, 13], [62, 71])], [], [])
theorem oo_Ho_draw_at_p_5 {kA : Nat → ClassId} : or_ok PRD kA GG o_Ho_draw_at_p_5 := by
  refine or_mk fun A ta ws vs hD hth hl => ?_
  intro t0 r0 t1 k1 t8 r8 t9 k9 t13 r13 f0 f1 f2 f3 ta1 w1 le1 s1 ta2 w2 le2 s2 f6
  replace f1 := shm_5 f1
  replace f3 := shm_1819 f3
  have q13 : n_v vs 13 = n_v vs 8 := f1.symm
  have nf0 : fc_1 PRD (20, [0, 1, 13], [62, 71]) ws (vs) := by
    refine ⟨nf_in hl rfl, sgq_1819 ?_⟩
    · show WQF 71 [n_v vs 0, n_v vs 1, n_v vs 13] ws
      first | rw [q13] | skip
      have zw := f3
      first | rw [show n_v vs 8 = n_v vs 13 from (by first | exact f1 | exact f1.symm)] at zw | skip
      first | exact zw | ((first | rw [q13] at zw | skip); exact zw)
  refine ⟨(fun _ h => (by cases h)), [], trivial, ?_, (fun _ h => (by cases h))⟩
  rw [List.append_nil]
  exact List.forall_mem_cons.mpr ⟨⟨show (20 : Nat) < 100 from by decide, nf0⟩, (fun _ h => (by cases h))⟩
def o_Ho_draw_at_p_6 : or_T := (175, 15, [(0, (2, 0, 0, [12]))], [(20, [0], [62, 0]), (102, [13], [281337537757184, 2000, 2001, 2002, 2003]), (20, [0, 1, 13], [62, 71])], [], [], [(20, [0, 1, 13], [62, 71])], [], [])
theorem oo_Ho_draw_at_p_6 {kA : Nat → ClassId} : or_ok PRD kA GG o_Ho_draw_at_p_6 := by
  refine or_mk fun A ta ws vs hD hth hl => ?_
  intro t0 r0 f0 ta1 w1 le1 s1 f2
  replace f0 := shm_1176 f0
  replace s1 := s1.2
  replace f2 := shm_1819 f2
  have nf0 : fc_1 PRD (20, [0, 1, 13], [62, 71]) ws (vs) := by
    refine ⟨nf_in hl rfl, sgq_1819 ?_⟩
    · show WQF 71 [n_v vs 0, n_v vs 1, n_v vs 13] ws
      obtain ⟨aH, _, eH, _⟩ := tv_ref t0 rfl
      have hH0 := s1.2.2.1 13 List.mem_cons_self 0 (by decide) aH eH
      exact wq_step f0 (hd_call hD hth (by decide +kernel) le1 r0 (by rw [eH]; exact hH0) s1 (by decide +kernel)) f2 (by decide)
  refine ⟨(fun _ h => (by cases h)), [], trivial, ?_, (fun _ h => (by cases h))⟩
  rw [List.append_nil]
  exact List.forall_mem_cons.mpr ⟨⟨show (20 : Nat) < 100 from by decide, nf0⟩, (fun _ h => (by cases h))⟩
def o_Ho_draw_at_p_7 : or_T := (181, 17, [(0, (2, 0, 0, [12])), (1, (0, 0, 3, [])), (13, (2, 0, 0, [3]))], [(20, [0, 1, 13], [62, 71])], [], [], [(20, [13], [60, 1, 1, 637, 0, 14])], [], [])
theorem oo_Ho_draw_at_p_7 {kA : Nat → ClassId} : or_ok PRD kA GG o_Ho_draw_at_p_7 := by
  refine or_mk fun A ta ws vs hD hth hl => ?_
  intro t0 r0 t1 k1 t13 r13 f0
  replace f0 := shm_1819 f0
  have nf0 : fc_1 PRD (20, [13], [60, 1, 1, 637, 0, 14]) ws (vs) := by
    refine ⟨nf_in hl rfl, sgq_1792 ?_⟩
    · show SYG (w_fi ws (n_v vs 13) 0) (w_ei ws (w_ar ws (n_v vs 13) 14))
      have kz13_0 : 0 ≤ w_fi ws (n_v vs 13) 0 ∧ w_fi ws (n_v vs 13) 0 ≤ 24 := tv_rng (th_fd hD hth r13 (g := GG_3) rfl (k := 0) (t := (0, 0, 24, [])) rfl rfl)
      exact hg_syg (wq_hg f0 (by decide) (wl_0 (wq_wl (k := 71) f0) (by decide))) (by omega)
  refine ⟨(fun _ h => (by cases h)), [], trivial, ?_, (fun _ h => (by cases h))⟩
  rw [List.append_nil]
  exact List.forall_mem_cons.mpr ⟨⟨show (20 : Nat) < 100 from by decide, nf0⟩, (fun _ h => (by cases h))⟩
def o_Ho_draw_at_p_8 : or_T := (181, 17, [(0, (2, 0, 0, [12])), (1, (0, 0, 3, [])), (13, (2, 0, 0, [3])), (14, (2, 0, 0, [2]))], [(20, [0, 1, 13], [62, 71]), (20, [0, 1, 14], [62, 135]), (20, [14], [50, 1, 0, 0, 7, 3, 2, 0, 0, 0, 0])], [], [], [(20, [13, 14], [60, 1, 2, 671, 0, 14, 1004])], [], [])
theorem oo_Ho_draw_at_p_8 {kA : Nat → ClassId} : or_ok PRD kA GG o_Ho_draw_at_p_8 := by
  refine or_mk fun A ta ws vs hD hth hl => ?_
  intro t0 r0 t1 k1 t13 r13 t14 r14 f0 f1 f2
  replace f0 := shm_1819 f0
  replace f1 := shm_2132 f1
  replace f2 := shm_2130 f2
  have nf0 : fc_1 PRD (20, [13, 14], [60, 1, 2, 671, 0, 14, 1004]) ws (vs) := by
    refine ⟨nf_in hl rfl, sgq_419 ?_⟩
    · show PNC (w_fi ws (n_v vs 13) 0) (w_ei ws (w_ar ws (n_v vs 13) 14)) (w_ei ws (w_ar ws (n_v vs 14) 4))
      exact (hf_all (wq_hf f0 (by decide) (wl_0 (wq_wl (k := 71) f0) (by decide)) (wl_0 (wq_wl (k := 135) f1) (by decide))) (show w_fi ws (n_v vs 14) 0 ≠ 0 from f2)).1
  refine ⟨(fun _ h => (by cases h)), [], trivial, ?_, (fun _ h => (by cases h))⟩
  rw [List.append_nil]
  exact List.forall_mem_cons.mpr ⟨⟨show (20 : Nat) < 100 from by decide, nf0⟩, (fun _ h => (by cases h))⟩
def o_Ho_draw_at_p_9 : or_T := (181, 17, [(0, (2, 0, 0, [12])), (1, (0, 0, 3, [])), (13, (2, 0, 0, [3])), (14, (2, 0, 0, [2]))], [(20, [0, 1, 13], [62, 71]), (20, [0, 1, 14], [62, 135]), (20, [14], [50, 1, 0, 0, 7, 3, 2, 0, 0, 0, 0])], [], [], [(20, [13, 14], [60, 2, 1, 672, 0, 1001, 1004])], [], [])
theorem oo_Ho_draw_at_p_9 {kA : Nat → ClassId} : or_ok PRD kA GG o_Ho_draw_at_p_9 := by
  refine or_mk fun A ta ws vs hD hth hl => ?_
  intro t0 r0 t1 k1 t13 r13 t14 r14 f0 f1 f2
  replace f0 := shm_1819 f0
  replace f1 := shm_2132 f1
  replace f2 := shm_2130 f2
  have nf0 : fc_1 PRD (20, [13, 14], [60, 2, 1, 672, 0, 1001, 1004]) ws (vs) := by
    refine ⟨nf_in hl rfl, sgq_1179 ?_⟩
    · show FPA (w_fi ws (n_v vs 13) 0) (w_fi ws (n_v vs 14) 1) (w_ei ws (w_ar ws (n_v vs 14) 4))
      exact (hf_all (wq_hf f0 (by decide) (wl_0 (wq_wl (k := 71) f0) (by decide)) (wl_0 (wq_wl (k := 135) f1) (by decide))) (show w_fi ws (n_v vs 14) 0 ≠ 0 from f2)).2.1
  refine ⟨(fun _ h => (by cases h)), [], trivial, ?_, (fun _ h => (by cases h))⟩
  rw [List.append_nil]
  exact List.forall_mem_cons.mpr ⟨⟨show (20 : Nat) < 100 from by decide, nf0⟩, (fun _ h => (by cases h))⟩
def o_Ho_draw_at_p_10 : or_T := (181, 17, [(0, (2, 0, 0, [12])), (1, (0, 0, 3, [])), (13, (2, 0, 0, [3]))], [(20, [0, 1, 13], [62, 71])], [], [], [(20, [13], [60, 2, 2, 596, 0, 1, 7, 8])], [], [])
theorem oo_Ho_draw_at_p_10 {kA : Nat → ClassId} : or_ok PRD kA GG o_Ho_draw_at_p_10 := by
  refine or_mk fun A ta ws vs hD hth hl => ?_
  intro t0 r0 t1 k1 t13 r13 f0
  replace f0 := shm_1819 f0
  have nf0 : fc_1 PRD (20, [13], [60, 2, 2, 596, 0, 1, 7, 8]) ws (vs) := by
    refine ⟨nf_in hl rfl, sgq_386 ?_⟩
    · show GKE (w_fi ws (n_v vs 13) 0) (w_fi ws (n_v vs 13) 1) (w_ei ws (w_ar ws (n_v vs 13) 7)) (w_ei ws (w_ar ws (n_v vs 13) 8))
      exact hg_gke (wq_hg f0 (by decide) (wl_0 (wq_wl (k := 71) f0) (by decide)))
  refine ⟨(fun _ h => (by cases h)), [], trivial, ?_, (fun _ h => (by cases h))⟩
  rw [List.append_nil]
  exact List.forall_mem_cons.mpr ⟨⟨show (20 : Nat) < 100 from by decide, nf0⟩, (fun _ h => (by cases h))⟩
set_option maxHeartbeats 4000000 in
theorem vc_Ho_draw_at_p_11_0 (nodes_0o8 : Int) (f6 : 1 ≤ nodes_0o8) (kz_8_0 : 0 ≤ nodes_0o8 ∧ nodes_0o8 ≤ 24) : 1 ≤ nodes_0o8 := by
  first | omega
set_option maxHeartbeats 4000000 in
theorem vc_Ho_draw_at_p_11_2 (x4 : Int) (gy : Int) (k4 : 0 ≤ x4 ∧ x4 ≤ 3066) (ey2 : gy = x4) : 1 * gy + ((-1) * x4 + 0) ≤ 0 := by
  first | omega
set_option maxHeartbeats 4000000 in
theorem vc_Ho_draw_at_p_11_3 (x4 : Int) (gy : Int) (k4 : 0 ≤ x4 ∧ x4 ≤ 3066) (ey2 : gy = x4) : (-1) * gy + (1 * x4 + 0) ≤ 0 := by
  first | omega
set_option maxHeartbeats 4000000 in
theorem vc_Ho_draw_at_p_11_4 (nodes_0o8 : Int) (part_0o14 : Int → Int) (near_0o8 : Int → Int) (f3 : PNC (nodes_0o8) (near_0o8) (part_0o14)) (kz_8_0 : 0 ≤ nodes_0o8 ∧ nodes_0o8 ≤ 24) : PNC (nodes_0o8) (near_0o8) (part_0o14) := by
  first | assumption
set_option maxHeartbeats 4000000 in
theorem vc_Ho_draw_at_p_11_5 (nodes_0o8 : Int) (part_0o14 : Int → Int) (parts_0o14 : Int) (f2 : FPA (nodes_0o8) (parts_0o14) (part_0o14)) (kz_8_0 : 0 ≤ nodes_0o8 ∧ nodes_0o8 ≤ 24) (kz_14_1 : 0 ≤ parts_0o14 ∧ parts_0o14 ≤ 24) : FPA (nodes_0o8) (parts_0o14) (part_0o14) := by
  first | assumption
def o_Ho_draw_at_p_11 : or_T := (181, 17, [(0, (2, 0, 0, [12])), (4, (0, 0, 3066, [])), (8, (2, 0, 0, [3])), (9, (0, 1, 24, [])), (13, (2, 0, 0, [3])), (14, (2, 0, 0, [2]))], [(9, [9, 8], [0]), (20, [13], [60, 2, 2, 596, 0, 1, 7, 8]), (20, [13, 14], [60, 2, 1, 672, 0, 1001, 1004]), (20, [13, 14], [60, 1, 2, 671, 0, 14, 1004]), (20, [13], [60, 1, 1, 637, 0, 14]), (24, [8, 13], []), (20, [8], [50, 1, 0, 0, 0, 2, 0, 1, 2, 0, 0]), (20, [0, 4], [62, 2000000]), (20, [14], [50, 1, 0, 0, 7, 3, 2, 0, 0, 0, 0]), (102, [13], [281337537757184, 2000, 2001, 2002, 2003]), (101, [0, 12], [19]), (102, [11], [0, 302000, 302001, 302002, 302003, 302004, 302005, 302006, 302007, 302008, 302009, 302010, 302011, 302012, 302013, 302014, 302015, 302016, 302017, 302018]), (8, [9], [1])], [], [(2, 0, 0, [12]), (0, 0, 3072, [])], [(20, [13], [50, 1, 0, 0, 0, 2, 0, 1, 2, 0, 0]), (24, [0, 17], []), (23, [18, 4], [0, 1, -1]), (23, [18, 4], [0, -1, 1]), (20, [13, 14], [60, 1, 2, 671, 0, 14, 1004]), (20, [13, 14], [60, 2, 1, 672, 0, 1001, 1004]), (20, [17, 18], [62, 2000000])], [], [])
theorem oo_Ho_draw_at_p_11 {kA : Nat → ClassId} : or_ok PRD kA GG o_Ho_draw_at_p_11 := by
  refine or_mk fun A ta ws vs hD hth hl => ?_
  intro t0 r0 t4 k4 t8 r8 t9 k9 t13 r13 t14 r14 f0 f1 f2 f3 f4 f5 f6 f7 f8 ta1 w1 le1 s1 ta2 w2 le2 s2 ta3 w3 le3 s3 f12
  replace f0 := shm_163 f0
  replace f1 := shm_386 f1
  replace f2 := shm_1179 f2
  replace f3 := shm_419 f3
  replace f4 := shm_1792 f4
  replace f5 := shm_5 f5
  replace f6 := shm_1220 f6
  replace f7 := shm_161 f7
  replace f8 := shm_2130 f8
  have s2 : (∀ b j, w_el w1 b j = w_el w2 b j) ∧ ∀ b j, w_fd w1 b j = if b = v_ad (n_v vs 0) ∧ j = 19 then n_v vs 12 else w_fd w2 b j := s2.2
  replace f12 := shm_142 f12
  have q13 : n_v vs 13 = n_v vs 8 := f5.symm
  simp only [q13] at f1 f2 f3 f4
  have cr_8_7 := fdq_46 hD hth r8
  have cr_8_8 := fdq_47 hD hth r8
  have cr_8_14 := fdq_75 hD hth r8
  have cr_14_4 := fdq_87 hD hth r14
  have g0 : v_iv (n_v vs 9) = w_fi ws (n_v vs 8) 0 := congrArg v_iv f0
  have hK_8_7 := elq_11 hD hth cr_8_7
  have hK_8_8 := elq_12 hD hth cr_8_8
  have hK_8_14 := elq_25 hD hth cr_8_14
  have hK_14_4 := elq_29 hD hth cr_14_4
  have kz_8_0 := fdq_21 hD hth r8
  have kz_8_1 := fdq_30 hD hth r8
  have kz_14_0 := fdq_294 hD hth r14
  have kz_14_1 := fdq_278 hD hth r14
  obtain ⟨y, ey, hy⟩ := iv_ex (ta := ta) (lo := 0) (hi := 3072) (z := v_iv (n_v vs 4)) (by omega) (by omega) (by omega) (by omega)
  have ey2 : v_iv (Value.int y) = v_iv (n_v vs 4) := ey
  have ey3 : 0 ≤ v_iv (Value.int y) ∧ v_iv (Value.int y) ≤ 3072 := tv_rng hy
  have e_0 : n_v (vs ++ [n_v vs 0, Value.int y]) 0 = n_v vs 0 := n_v_old (by rw [hl]; decide)
  have e_4 : n_v (vs ++ [n_v vs 0, Value.int y]) 4 = n_v vs 4 := n_v_old (by rw [hl]; decide)
  have e_13 : n_v (vs ++ [n_v vs 0, Value.int y]) 13 = n_v vs 13 := n_v_old (by rw [hl]; decide)
  have e_14 : n_v (vs ++ [n_v vs 0, Value.int y]) 14 = n_v vs 14 := n_v_old (by rw [hl]; decide)
  have e_17 : n_v (vs ++ [n_v vs 0, Value.int y]) 17 = n_v vs 0 := n_v_new0 hl
  have e_18 : n_v (vs ++ [n_v vs 0, Value.int y]) 18 = Value.int y := n_v_new1 hl
  have nf0 : fc_1 PRD (20, [13], [50, 1, 0, 0, 0, 2, 0, 1, 2, 0, 0]) ws (vs ++ [n_v vs 0, Value.int y]) := by
    refine ⟨nf_inA hl rfl, sgq_1220 ?_⟩
    · show 1 ≤ w_fi ws (n_v (vs ++ [n_v vs 0, Value.int y]) 13) 0
      simp only [e_13, q13]
      exact vc_Ho_draw_at_p_11_0 (w_fi ws (n_v vs 8) 0) f6 kz_8_0
  have nf1 : fc_1 PRD (24, [0, 17], []) ws (vs ++ [n_v vs 0, Value.int y]) := by
    refine ⟨nf_inA hl rfl, sgq_5 ?_⟩
    · show n_v (vs ++ [n_v vs 0, Value.int y]) 0 = n_v (vs ++ [n_v vs 0, Value.int y]) 17
      first | rfl | simp only [e_0, e_17, q13]
  have nf2 : fc_1 PRD (23, [18, 4], [0, 1, -1]) ws (vs ++ [n_v vs 0, Value.int y]) := by
    refine ⟨nf_inA hl rfl, sgq_7 ?_⟩
    · show 1 * v_iv (n_v (vs ++ [n_v vs 0, Value.int y]) 18) + ((-1) * v_iv (n_v (vs ++ [n_v vs 0, Value.int y]) 4) + 0) ≤ 0
      simp only [e_4, e_18]
      exact vc_Ho_draw_at_p_11_2 (v_iv (n_v vs 4)) (v_iv (Value.int y)) k4 ey2
  have nf3 : fc_1 PRD (23, [18, 4], [0, -1, 1]) ws (vs ++ [n_v vs 0, Value.int y]) := by
    refine ⟨nf_inA hl rfl, sgq_22 ?_⟩
    · show (-1) * v_iv (n_v (vs ++ [n_v vs 0, Value.int y]) 18) + (1 * v_iv (n_v (vs ++ [n_v vs 0, Value.int y]) 4) + 0) ≤ 0
      simp only [e_4, e_18]
      exact vc_Ho_draw_at_p_11_3 (v_iv (n_v vs 4)) (v_iv (Value.int y)) k4 ey2
  have nf4 : fc_1 PRD (20, [13, 14], [60, 1, 2, 671, 0, 14, 1004]) ws (vs ++ [n_v vs 0, Value.int y]) := by
    refine ⟨nf_inA hl rfl, sgq_419 ?_⟩
    · show PNC (w_fi ws (n_v (vs ++ [n_v vs 0, Value.int y]) 13) 0) (w_ei ws (w_ar ws (n_v (vs ++ [n_v vs 0, Value.int y]) 13) 14)) (w_ei ws (w_ar ws (n_v (vs ++ [n_v vs 0, Value.int y]) 14) 4))
      simp only [e_13, e_14, q13]
      exact vc_Ho_draw_at_p_11_4 (w_fi ws (n_v vs 8) 0) (w_ei ws (w_ar ws (n_v vs 14) 4)) (w_ei ws (w_ar ws (n_v vs 8) 14)) f3 kz_8_0
  have nf5 : fc_1 PRD (20, [13, 14], [60, 2, 1, 672, 0, 1001, 1004]) ws (vs ++ [n_v vs 0, Value.int y]) := by
    refine ⟨nf_inA hl rfl, sgq_1179 ?_⟩
    · show FPA (w_fi ws (n_v (vs ++ [n_v vs 0, Value.int y]) 13) 0) (w_fi ws (n_v (vs ++ [n_v vs 0, Value.int y]) 14) 1) (w_ei ws (w_ar ws (n_v (vs ++ [n_v vs 0, Value.int y]) 14) 4))
      simp only [e_13, e_14, q13]
      exact vc_Ho_draw_at_p_11_5 (w_fi ws (n_v vs 8) 0) (w_ei ws (w_ar ws (n_v vs 14) 4)) (w_fi ws (n_v vs 14) 1) f2 kz_8_0 kz_14_1
  have nf6 : fc_1 PRD (20, [17, 18], [62, 2000000]) ws (vs ++ [n_v vs 0, Value.int y]) := by
    refine ⟨nf_inA hl rfl, sgq_161 ?_⟩
    · show HY ws (n_v (vs ++ [n_v vs 0, Value.int y]) 17) (v_iv (n_v (vs ++ [n_v vs 0, Value.int y]) 18) + (((2000000 : Nat) : Int) - 2000000))
      simp only [e_17, e_18]
      exact hy_le f7 (by omega)
  exact ⟨(fun _ h => (by cases h)), [n_v vs 0, Value.int y], ag_two t0 hy, List.forall_mem_cons.mpr ⟨⟨show (20 : Nat) < 100 from by decide, nf0⟩, List.forall_mem_cons.mpr ⟨⟨show (24 : Nat) < 100 from by decide, nf1⟩, List.forall_mem_cons.mpr ⟨⟨show (23 : Nat) < 100 from by decide, nf2⟩, List.forall_mem_cons.mpr ⟨⟨show (23 : Nat) < 100 from by decide, nf3⟩, List.forall_mem_cons.mpr ⟨⟨show (20 : Nat) < 100 from by decide, nf4⟩, List.forall_mem_cons.mpr ⟨⟨show (20 : Nat) < 100 from by decide, nf5⟩, List.forall_mem_cons.mpr ⟨⟨show (20 : Nat) < 100 from by decide, nf6⟩, (fun _ h => (by cases h))⟩⟩⟩⟩⟩⟩⟩, (fun _ h => (by cases h))⟩
end
section

def o_Ho_draw_at_p_12 : or_T := (203, 20, [(0, (2, 0, 0, [12])), (4, (0, 0, 3066, [])), (8, (2, 0, 0, [3])), (9, (0, 1, 24, [])), (13, (2, 0, 0, [3])), (14, (2, 0, 0, [2])), (17, (2, 0, 0, [12])), (18, (0, 0, 3072, []))], [(9, [9, 8], [0]), (20, [13], [50, 1, 0, 0, 0, 2, 0, 1, 2, 0, 0]), (24, [0, 17], []), (23, [18, 4], [0, 1, -1]), (23, [18, 4], [0, -1, 1]), (20, [13, 14], [60, 1, 2, 671, 0, 14, 1004]), (20, [13, 14], [60, 2, 1, 672, 0, 1001, 1004]), (20, [13], [60, 2, 2, 596, 0, 1, 7, 8]), (20, [13, 14], [60, 2, 1, 672, 0, 1001, 1004]), (20, [13, 14], [60, 1, 2, 671, 0, 14, 1004]), (20, [13], [60, 1, 1, 637, 0, 14]), (24, [8, 13], []), (20, [8], [50, 1, 0, 0, 0, 2, 0, 1, 2, 0, 0]), (20, [14], [50, 1, 0, 0, 7, 3, 2, 0, 0, 0, 0]), (20, [17, 18], [62, 2000000]), (102, [18], [5069983430893274915849367568384, 7, 9, 6000, 6001, 6008, 6011, 6013, 6014]), (23, [18, 4], [0, 1, -1]), (23, [18, 4], [0, -1, 1]), (102, [13], [281337537757184, 2000, 2001, 2002, 2003]), (101, [0, 12], [19]), (102, [11], [0, 302000, 302001, 302002, 302003, 302004, 302005, 302006, 302007, 302008, 302009, 302010, 302011, 302012, 302013, 302014, 302015, 302016, 302017, 302018]), (8, [9], [1])], [], [], [(20, [0, 4], [62, 2000006])], [], [])
theorem oo_Ho_draw_at_p_12 {kA : Nat → ClassId} : or_ok PRD kA GG o_Ho_draw_at_p_12 := by
  refine or_mk fun A ta ws vs hD hth hl => ?_
  intro t0 r0 t4 k4 t8 r8 t9 k9 t13 r13 t14 r14 t17 r17 t18 k18 f0 f1 f2 f3 f4 f5 f6 f7 f8 f9 f10 f11 f12 f13 f14 ta1 w1 le1 s1 f16 f17 ta2 w2 le2 s2 ta3 w3 le3 s3 ta4 w4 le4 s4 f21
  replace f0 := shm_163 f0
  replace f1 := shm_1220 f1
  replace f2 := shm_5 f2
  replace f3 := shm_7 f3
  replace f4 := shm_22 f4
  replace f5 := shm_419 f5
  replace f6 := shm_1179 f6
  replace f7 := shm_386 f7
  replace f8 := shm_1179 f8
  replace f9 := shm_419 f9
  replace f10 := shm_1792 f10
  replace f11 := shm_5 f11
  replace f12 := shm_1220 f12
  replace f13 := shm_2130 f13
  replace f14 := shm_161 f14
  replace f16 := shm_7 f16
  replace f17 := shm_22 f17
  have s3 : (∀ b j, w_el w2 b j = w_el w3 b j) ∧ ∀ b j, w_fd w2 b j = if b = v_ad (n_v vs 0) ∧ j = 19 then n_v vs 12 else w_fd w3 b j := s3.2
  replace f21 := shm_142 f21
  have q17 : n_v vs 17 = n_v vs 0 := f2.symm
  have q13 : n_v vs 13 = n_v vs 8 := f11.symm
  simp only [q13, q17] at f1 f5 f6 f7 f8 f9 f10 f14
  have cr_8_7 := fdq_46 hD hth r8
  have cr_8_8 := fdq_47 hD hth r8
  have cr_8_14 := fdq_75 hD hth r8
  have cr_14_4 := fdq_87 hD hth r14
  have g0 : v_iv (n_v vs 9) = w_fi ws (n_v vs 8) 0 := congrArg v_iv f0
  have hK_8_7 := elq_11 hD hth cr_8_7
  have hK_8_8 := elq_12 hD hth cr_8_8
  have hK_8_14 := elq_25 hD hth cr_8_14
  have hK_14_4 := elq_29 hD hth cr_14_4
  have kz_8_0 := fdq_21 hD hth r8
  have kz_8_1 := fdq_30 hD hth r8
  have kz_14_0 := fdq_294 hD hth r14
  have kz_14_1 := fdq_278 hD hth r14
  have nf0 : fc_1 PRD (20, [0, 4], [62, 2000006]) ws (vs) := by
    refine ⟨nf_in hl rfl, sgq_270 ?_⟩
    · show HY ws (n_v vs 0) (v_iv (n_v vs 4) + (((2000006 : Nat) : Int) - 2000000))
      exact hy_le f14 (by omega)
  refine ⟨(fun _ h => (by cases h)), [], trivial, ?_, (fun _ h => (by cases h))⟩
  rw [List.append_nil]
  exact List.forall_mem_cons.mpr ⟨⟨show (20 : Nat) < 100 from by decide, nf0⟩, (fun _ h => (by cases h))⟩
def o_Ho_draw_at_p_13 : or_T := (203, 21, [(0, (2, 0, 0, [12])), (4, (0, 0, 3066, [])), (8, (2, 0, 0, [3])), (9, (0, 1, 24, [])), (13, (2, 0, 0, [3])), (14, (2, 0, 0, [2])), (17, (2, 0, 0, [12])), (18, (0, 0, 3072, [])), (20, (2, 0, 0, [0]))], [(9, [9, 8], [0]), (20, [13], [50, 1, 0, 0, 0, 2, 0, 1, 2, 0, 0]), (24, [0, 17], []), (23, [18, 4], [0, 1, -1]), (23, [18, 4], [0, -1, 1]), (20, [13, 14], [60, 1, 2, 671, 0, 14, 1004]), (20, [13, 14], [60, 2, 1, 672, 0, 1001, 1004]), (20, [13], [60, 2, 2, 596, 0, 1, 7, 8]), (20, [13, 14], [60, 2, 1, 672, 0, 1001, 1004]), (20, [13, 14], [60, 1, 2, 671, 0, 14, 1004]), (20, [13], [60, 1, 1, 637, 0, 14]), (24, [8, 13], []), (20, [8], [50, 1, 0, 0, 0, 2, 0, 1, 2, 0, 0]), (20, [14], [50, 1, 0, 0, 7, 3, 2, 0, 0, 0, 0]), (20, [17, 18], [62, 2000000]), (101, [20, 2], [1]), (20, [13], [50, 1, 0, 0, 0, 2, 0, 1, 2, 0, 0]), (23, [18, 4], [0, 1, -1]), (23, [18, 4], [0, -1, 1]), (20, [13, 14], [60, 1, 2, 671, 0, 14, 1004]), (20, [13, 14], [60, 2, 1, 672, 0, 1001, 1004]), (20, [13], [60, 2, 2, 596, 0, 1, 7, 8]), (20, [13, 14], [60, 2, 1, 672, 0, 1001, 1004]), (20, [13, 14], [60, 1, 2, 671, 0, 14, 1004]), (20, [13], [60, 1, 1, 637, 0, 14]), (20, [8], [50, 1, 0, 0, 0, 2, 0, 1, 2, 0, 0]), (20, [14], [50, 1, 0, 0, 7, 3, 2, 0, 0, 0, 0]), (102, [18], [5069983430893274915849367568384, 7, 9, 6000, 6001, 6008, 6011, 6013, 6014]), (23, [18, 4], [0, 1, -1]), (23, [18, 4], [0, -1, 1]), (102, [13], [281337537757184, 2000, 2001, 2002, 2003]), (101, [0, 12], [19]), (102, [11], [0, 302000, 302001, 302002, 302003, 302004, 302005, 302006, 302007, 302008, 302009, 302010, 302011, 302012, 302013, 302014, 302015, 302016, 302017, 302018]), (8, [9], [1])], [], [], [(20, [0, 4], [62, 2000006])], [], [])
theorem oo_Ho_draw_at_p_13 {kA : Nat → ClassId} : or_ok PRD kA GG o_Ho_draw_at_p_13 := by
  refine or_mk fun A ta ws vs hD hth hl => ?_
  intro t0 r0 t4 k4 t8 r8 t9 k9 t13 r13 t14 r14 t17 r17 t18 k18 t20 r20 f0 f1 f2 f3 f4 f5 f6 f7 f8 f9 f10 f11 f12 f13 f14 ta1 w1 le1 s1 f16 f17 f18 f19 f20 f21 f22 f23 f24 f25 f26 ta2 w2 le2 s2 f28 f29 ta3 w3 le3 s3 ta4 w4 le4 s4 ta5 w5 le5 s5 f33
  replace f0 := shm_163 f0
  replace f1 := shm_1220 f1
  replace f2 := shm_5 f2
  replace f3 := shm_7 f3
  replace f4 := shm_22 f4
  replace f5 := shm_419 f5
  replace f6 := shm_1179 f6
  replace f7 := shm_386 f7
  replace f8 := shm_1179 f8
  replace f9 := shm_419 f9
  replace f10 := shm_1792 f10
  replace f11 := shm_5 f11
  replace f12 := shm_1220 f12
  replace f13 := shm_2130 f13
  replace f14 := shm_161 f14
  have s1 : (∀ b j, w_el ws b j = w_el w1 b j) ∧ ∀ b j, w_fd ws b j = if b = v_ad (n_v vs 20) ∧ j = 1 then n_v vs 2 else w_fd w1 b j := s1.2
  replace f16 := shm_1220 f16
  replace f17 := shm_7 f17
  replace f18 := shm_22 f18
  replace f19 := shm_419 f19
  replace f20 := shm_1179 f20
  replace f21 := shm_386 f21
  replace f22 := shm_1179 f22
  replace f23 := shm_419 f23
  replace f24 := shm_1792 f24
  replace f25 := shm_1220 f25
  replace f26 := shm_2130 f26
  replace f28 := shm_7 f28
  replace f29 := shm_22 f29
  have s4 : (∀ b j, w_el w3 b j = w_el w4 b j) ∧ ∀ b j, w_fd w3 b j = if b = v_ad (n_v vs 0) ∧ j = 19 then n_v vs 12 else w_fd w4 b j := s4.2
  replace f33 := shm_142 f33
  have q17 : n_v vs 17 = n_v vs 0 := f2.symm
  have q13 : n_v vs 13 = n_v vs 8 := f11.symm
  simp only [q13, q17] at f1 f5 f6 f7 f8 f9 f10 f14 f16 f19 f20 f21 f22 f23 f24
  have ar_8_7_1 : w_ar w1 (n_v vs 8) 7 = w_ar ws (n_v vs 8) 7 := by show v_ad (w_fd w1 _ _) = v_ad (w_fd ws _ _); rw [s1.2, if_neg (fun e => absurd e.2 (by decide))]
  have cr_8_7 := fdq_46 hD hth r8
  have ar_8_8_1 : w_ar w1 (n_v vs 8) 8 = w_ar ws (n_v vs 8) 8 := by show v_ad (w_fd w1 _ _) = v_ad (w_fd ws _ _); rw [s1.2, if_neg (fun e => absurd e.2 (by decide))]
  have cr_8_8 := fdq_47 hD hth r8
  have ar_8_14_1 : w_ar w1 (n_v vs 8) 14 = w_ar ws (n_v vs 8) 14 := by show v_ad (w_fd w1 _ _) = v_ad (w_fd ws _ _); rw [s1.2, if_neg (fun e => absurd e.2 (by decide))]
  have cr_8_14 := fdq_75 hD hth r8
  have ar_14_4_1 : w_ar w1 (n_v vs 14) 4 = w_ar ws (n_v vs 14) 4 := by show v_ad (w_fd w1 _ _) = v_ad (w_fd ws _ _); rw [s1.2, if_neg (fun e => absurd e.2 (by decide))]
  have cr_14_4 := fdq_87 hD hth r14
  have g0 : v_iv (n_v vs 9) = w_fi ws (n_v vs 8) 0 := congrArg v_iv f0
  simp only [ar_8_14_1, ar_14_4_1, ar_8_7_1, ar_8_8_1] at f19 f20 f21 f22 f23 f24
  have fe_8_0_1 : w_fi ws (n_v vs 8) 0 = w_fi w1 (n_v vs 8) 0 := by show v_iv (w_fd _ _ _) = v_iv (w_fd _ _ _); rw [s1.2, if_neg (fun e => absurd e.2 (by decide))]
  have fe_8_1_1 : w_fi ws (n_v vs 8) 1 = w_fi w1 (n_v vs 8) 1 := by show v_iv (w_fd _ _ _) = v_iv (w_fd _ _ _); rw [s1.2, if_neg (fun e => by have e1 := e.1; have e2 := r8; rw [e1, r20] at e2; exact absurd (Option.some.inj e2) (by decide))]
  have fe_14_0_1 : w_fi ws (n_v vs 14) 0 = w_fi w1 (n_v vs 14) 0 := by show v_iv (w_fd _ _ _) = v_iv (w_fd _ _ _); rw [s1.2, if_neg (fun e => absurd e.2 (by decide))]
  have fe_14_1_1 : w_fi ws (n_v vs 14) 1 = w_fi w1 (n_v vs 14) 1 := by show v_iv (w_fd _ _ _) = v_iv (w_fd _ _ _); rw [s1.2, if_neg (fun e => by have e1 := e.1; have e2 := r14; rw [e1, r20] at e2; exact absurd (Option.some.inj e2) (by decide))]
  have hE_8_7_1 : ∀ j : Int, w_ei ws (w_ar ws (n_v vs 8) 7) j = w_ei w1 (w_ar ws (n_v vs 8) 7) j := fun j => s1.1 _ _
  have hK_8_7 := elq_11 hD hth cr_8_7
  have hE_8_8_1 : ∀ j : Int, w_ei ws (w_ar ws (n_v vs 8) 8) j = w_ei w1 (w_ar ws (n_v vs 8) 8) j := fun j => s1.1 _ _
  have hK_8_8 := elq_12 hD hth cr_8_8
  have hE_8_14_1 : ∀ j : Int, w_ei ws (w_ar ws (n_v vs 8) 14) j = w_ei w1 (w_ar ws (n_v vs 8) 14) j := fun j => s1.1 _ _
  have hK_8_14 := elq_25 hD hth cr_8_14
  have hE_14_4_1 : ∀ j : Int, w_ei ws (w_ar ws (n_v vs 14) 4) j = w_ei w1 (w_ar ws (n_v vs 14) 4) j := fun j => s1.1 _ _
  have hK_14_4 := elq_29 hD hth cr_14_4
  have kz_8_0 := fdq_21 hD hth r8
  have kz_8_1 := fdq_30 hD hth r8
  have kz_14_0 := fdq_294 hD hth r14
  have kz_14_1 := fdq_278 hD hth r14
  have nf0 : fc_1 PRD (20, [0, 4], [62, 2000006]) ws (vs) := by
    refine ⟨nf_in hl rfl, sgq_270 ?_⟩
    · show HY ws (n_v vs 0) (v_iv (n_v vs 4) + (((2000006 : Nat) : Int) - 2000000))
      exact hy_le f14 (by omega)
  refine ⟨(fun _ h => (by cases h)), [], trivial, ?_, (fun _ h => (by cases h))⟩
  rw [List.append_nil]
  exact List.forall_mem_cons.mpr ⟨⟨show (20 : Nat) < 100 from by decide, nf0⟩, (fun _ h => (by cases h))⟩
def o_Ho_draw_at_p_14 : or_T := (170, 13, [(0, (2, 0, 0, [12])), (1, (0, 0, 3, [])), (7, (2, 0, 0, [131])), (8, (2, 0, 0, [3])), (12, (2, 0, 0, [3]))], [(14, [12, 7, 1], []), (9, [7, 0], [0]), (20, [0, 1, 8], [62, 71])], [], [], [(24, [8, 12], [])], [], [])
theorem oo_Ho_draw_at_p_14 {kA : Nat → ClassId} : or_ok PRD kA GG o_Ho_draw_at_p_14 := by
  refine or_mk fun A ta ws vs hD hth hl => ?_
  intro t0 r0 t1 k1 t7 r7 t8 r8 t12 r12 f0 f1 f2
  replace f0 := shm_793 f0
  replace f1 := shm_163 f1
  replace f2 := shm_1819 f2
  have nf0 : fc_1 PRD (24, [8, 12], []) ws (vs) := by
    refine ⟨nf_in hl rfl, sgq_5 ?_⟩
    · show n_v vs 8 = n_v vs 12
      exact ref_same t8 t12 rfl rfl ((wl_0 (wq_wl f2) (by decide)).trans (pO_of f1 f0).symm)
  refine ⟨(fun _ h => (by cases h)), [], trivial, ?_, (fun _ h => (by cases h))⟩
  rw [List.append_nil]
  exact List.forall_mem_cons.mpr ⟨⟨show (24 : Nat) < 100 from by decide, nf0⟩, (fun _ h => (by cases h))⟩
def o_Ho_draw_at_p_15 : or_T := (170, 13, [(0, (2, 0, 0, [12])), (1, (0, 0, 3, [])), (8, (2, 0, 0, [3])), (9, (0, 1, 24, [])), (12, (2, 0, 0, [3]))], [(24, [8, 12], []), (20, [8], [50, 1, 0, 0, 0, 2, 0, 1, 2, 0, 0]), (8, [9], [1]), (9, [9, 8], [0]), (20, [0, 1, 8], [62, 71])], [], [], [(20, [0, 1, 12], [62, 71])], [], [])
theorem oo_Ho_draw_at_p_15 {kA : Nat → ClassId} : or_ok PRD kA GG o_Ho_draw_at_p_15 := by
  refine or_mk fun A ta ws vs hD hth hl => ?_
  intro t0 r0 t1 k1 t8 r8 t9 k9 t12 r12 f0 f1 f2 f3 f4
  replace f0 := shm_5 f0
  replace f4 := shm_1819 f4
  have q12 : n_v vs 12 = n_v vs 8 := f0.symm
  have nf0 : fc_1 PRD (20, [0, 1, 12], [62, 71]) ws (vs) := by
    refine ⟨nf_in hl rfl, sgq_1819 ?_⟩
    · show WQF 71 [n_v vs 0, n_v vs 1, n_v vs 12] ws
      first | rw [q12] | skip
      have zw := f4
      first | rw [show n_v vs 8 = n_v vs 12 from (by first | exact f0 | exact f0.symm)] at zw | skip
      first | exact zw | ((first | rw [q12] at zw | skip); exact zw)
  refine ⟨(fun _ h => (by cases h)), [], trivial, ?_, (fun _ h => (by cases h))⟩
  rw [List.append_nil]
  exact List.forall_mem_cons.mpr ⟨⟨show (20 : Nat) < 100 from by decide, nf0⟩, (fun _ h => (by cases h))⟩
def o_Ho_draw_at_p_16 : or_T := (175, 14, [(0, (2, 0, 0, [12]))], [(20, [0], [62, 0]), (102, [12], [281337537757184, 2000, 2001, 2002, 2003]), (20, [0, 1, 12], [62, 71])], [], [], [(20, [0, 1, 12], [62, 71])], [], [])
theorem oo_Ho_draw_at_p_16 {kA : Nat → ClassId} : or_ok PRD kA GG o_Ho_draw_at_p_16 := by
  refine or_mk fun A ta ws vs hD hth hl => ?_
  intro t0 r0 f0 ta1 w1 le1 s1 f2
  replace f0 := shm_1176 f0
  replace s1 := s1.2
  replace f2 := shm_1819 f2
  have nf0 : fc_1 PRD (20, [0, 1, 12], [62, 71]) ws (vs) := by
    refine ⟨nf_in hl rfl, sgq_1819 ?_⟩
    · show WQF 71 [n_v vs 0, n_v vs 1, n_v vs 12] ws
      obtain ⟨aH, _, eH, _⟩ := tv_ref t0 rfl
      have hH0 := s1.2.2.1 12 List.mem_cons_self 0 (by decide) aH eH
      exact wq_step f0 (hd_call hD hth (by decide +kernel) le1 r0 (by rw [eH]; exact hH0) s1 (by decide +kernel)) f2 (by decide)
  refine ⟨(fun _ h => (by cases h)), [], trivial, ?_, (fun _ h => (by cases h))⟩
  rw [List.append_nil]
  exact List.forall_mem_cons.mpr ⟨⟨show (20 : Nat) < 100 from by decide, nf0⟩, (fun _ h => (by cases h))⟩
def o_Ho_draw_at_p_17 : or_T := (181, 16, [(0, (2, 0, 0, [12])), (1, (0, 0, 3, [])), (12, (2, 0, 0, [3]))], [(20, [0, 1, 12], [62, 71])], [], [], [(20, [12], [60, 1, 1, 637, 0, 14])], [], [])
theorem oo_Ho_draw_at_p_17 {kA : Nat → ClassId} : or_ok PRD kA GG o_Ho_draw_at_p_17 := by
  refine or_mk fun A ta ws vs hD hth hl => ?_
  intro t0 r0 t1 k1 t12 r12 f0
  replace f0 := shm_1819 f0
  have nf0 : fc_1 PRD (20, [12], [60, 1, 1, 637, 0, 14]) ws (vs) := by
    refine ⟨nf_in hl rfl, sgq_1792 ?_⟩
    · show SYG (w_fi ws (n_v vs 12) 0) (w_ei ws (w_ar ws (n_v vs 12) 14))
      have kz12_0 : 0 ≤ w_fi ws (n_v vs 12) 0 ∧ w_fi ws (n_v vs 12) 0 ≤ 24 := tv_rng (th_fd hD hth r12 (g := GG_3) rfl (k := 0) (t := (0, 0, 24, [])) rfl rfl)
      exact hg_syg (wq_hg f0 (by decide) (wl_0 (wq_wl (k := 71) f0) (by decide))) (by omega)
  refine ⟨(fun _ h => (by cases h)), [], trivial, ?_, (fun _ h => (by cases h))⟩
  rw [List.append_nil]
  exact List.forall_mem_cons.mpr ⟨⟨show (20 : Nat) < 100 from by decide, nf0⟩, (fun _ h => (by cases h))⟩
def o_Ho_draw_at_p_18 : or_T := (181, 16, [(0, (2, 0, 0, [12])), (1, (0, 0, 3, [])), (12, (2, 0, 0, [3])), (13, (2, 0, 0, [2]))], [(20, [0, 1, 12], [62, 71]), (20, [0, 1, 13], [62, 135]), (20, [13], [50, 1, 0, 0, 7, 3, 2, 0, 0, 0, 0])], [], [], [(20, [12, 13], [60, 1, 2, 671, 0, 14, 1004])], [], [])
theorem oo_Ho_draw_at_p_18 {kA : Nat → ClassId} : or_ok PRD kA GG o_Ho_draw_at_p_18 := by
  refine or_mk fun A ta ws vs hD hth hl => ?_
  intro t0 r0 t1 k1 t12 r12 t13 r13 f0 f1 f2
  replace f0 := shm_1819 f0
  replace f1 := shm_2132 f1
  replace f2 := shm_2130 f2
  have nf0 : fc_1 PRD (20, [12, 13], [60, 1, 2, 671, 0, 14, 1004]) ws (vs) := by
    refine ⟨nf_in hl rfl, sgq_419 ?_⟩
    · show PNC (w_fi ws (n_v vs 12) 0) (w_ei ws (w_ar ws (n_v vs 12) 14)) (w_ei ws (w_ar ws (n_v vs 13) 4))
      exact (hf_all (wq_hf f0 (by decide) (wl_0 (wq_wl (k := 71) f0) (by decide)) (wl_0 (wq_wl (k := 135) f1) (by decide))) (show w_fi ws (n_v vs 13) 0 ≠ 0 from f2)).1
  refine ⟨(fun _ h => (by cases h)), [], trivial, ?_, (fun _ h => (by cases h))⟩
  rw [List.append_nil]
  exact List.forall_mem_cons.mpr ⟨⟨show (20 : Nat) < 100 from by decide, nf0⟩, (fun _ h => (by cases h))⟩
def o_Ho_draw_at_p_19 : or_T := (181, 16, [(0, (2, 0, 0, [12])), (1, (0, 0, 3, [])), (12, (2, 0, 0, [3])), (13, (2, 0, 0, [2]))], [(20, [0, 1, 12], [62, 71]), (20, [0, 1, 13], [62, 135]), (20, [13], [50, 1, 0, 0, 7, 3, 2, 0, 0, 0, 0])], [], [], [(20, [12, 13], [60, 2, 1, 672, 0, 1001, 1004])], [], [])
theorem oo_Ho_draw_at_p_19 {kA : Nat → ClassId} : or_ok PRD kA GG o_Ho_draw_at_p_19 := by
  refine or_mk fun A ta ws vs hD hth hl => ?_
  intro t0 r0 t1 k1 t12 r12 t13 r13 f0 f1 f2
  replace f0 := shm_1819 f0
  replace f1 := shm_2132 f1
  replace f2 := shm_2130 f2
  have nf0 : fc_1 PRD (20, [12, 13], [60, 2, 1, 672, 0, 1001, 1004]) ws (vs) := by
    refine ⟨nf_in hl rfl, sgq_1179 ?_⟩
    · show FPA (w_fi ws (n_v vs 12) 0) (w_fi ws (n_v vs 13) 1) (w_ei ws (w_ar ws (n_v vs 13) 4))
      exact (hf_all (wq_hf f0 (by decide) (wl_0 (wq_wl (k := 71) f0) (by decide)) (wl_0 (wq_wl (k := 135) f1) (by decide))) (show w_fi ws (n_v vs 13) 0 ≠ 0 from f2)).2.1
  refine ⟨(fun _ h => (by cases h)), [], trivial, ?_, (fun _ h => (by cases h))⟩
  rw [List.append_nil]
  exact List.forall_mem_cons.mpr ⟨⟨show (20 : Nat) < 100 from by decide, nf0⟩, (fun _ h => (by cases h))⟩
def o_Ho_draw_at_p_20 : or_T := (181, 16, [(0, (2, 0, 0, [12])), (1, (0, 0, 3, [])), (12, (2, 0, 0, [3]))], [(20, [0, 1, 12], [62, 71])], [], [], [(20, [12], [60, 2, 2, 596, 0, 1, 7, 8])], [], [])
theorem oo_Ho_draw_at_p_20 {kA : Nat → ClassId} : or_ok PRD kA GG o_Ho_draw_at_p_20 := by
  refine or_mk fun A ta ws vs hD hth hl => ?_
  intro t0 r0 t1 k1 t12 r12 f0
  replace f0 := shm_1819 f0
  have nf0 : fc_1 PRD (20, [12], [60, 2, 2, 596, 0, 1, 7, 8]) ws (vs) := by
    refine ⟨nf_in hl rfl, sgq_386 ?_⟩
    · show GKE (w_fi ws (n_v vs 12) 0) (w_fi ws (n_v vs 12) 1) (w_ei ws (w_ar ws (n_v vs 12) 7)) (w_ei ws (w_ar ws (n_v vs 12) 8))
      exact hg_gke (wq_hg f0 (by decide) (wl_0 (wq_wl (k := 71) f0) (by decide)))
  refine ⟨(fun _ h => (by cases h)), [], trivial, ?_, (fun _ h => (by cases h))⟩
  rw [List.append_nil]
  exact List.forall_mem_cons.mpr ⟨⟨show (20 : Nat) < 100 from by decide, nf0⟩, (fun _ h => (by cases h))⟩
set_option maxHeartbeats 4000000 in
theorem vc_Ho_draw_at_p_21_0 (nodes_0o8 : Int) (f6 : 1 ≤ nodes_0o8) (kz_8_0 : 0 ≤ nodes_0o8 ∧ nodes_0o8 ≤ 24) : 1 ≤ nodes_0o8 := by
  first | omega
set_option maxHeartbeats 4000000 in
theorem vc_Ho_draw_at_p_21_2 (x4 : Int) (gy : Int) (k4 : 0 ≤ x4 ∧ x4 ≤ 3066) (ey2 : gy = x4) : 1 * gy + ((-1) * x4 + 0) ≤ 0 := by
  first | omega
set_option maxHeartbeats 4000000 in
theorem vc_Ho_draw_at_p_21_3 (x4 : Int) (gy : Int) (k4 : 0 ≤ x4 ∧ x4 ≤ 3066) (ey2 : gy = x4) : (-1) * gy + (1 * x4 + 0) ≤ 0 := by
  first | omega
set_option maxHeartbeats 4000000 in
theorem vc_Ho_draw_at_p_21_4 (nodes_0o8 : Int) (part_0o13 : Int → Int) (near_0o8 : Int → Int) (f3 : PNC (nodes_0o8) (near_0o8) (part_0o13)) (kz_8_0 : 0 ≤ nodes_0o8 ∧ nodes_0o8 ≤ 24) : PNC (nodes_0o8) (near_0o8) (part_0o13) := by
  first | assumption
set_option maxHeartbeats 4000000 in
theorem vc_Ho_draw_at_p_21_5 (nodes_0o8 : Int) (part_0o13 : Int → Int) (parts_0o13 : Int) (f2 : FPA (nodes_0o8) (parts_0o13) (part_0o13)) (kz_8_0 : 0 ≤ nodes_0o8 ∧ nodes_0o8 ≤ 24) (kz_13_1 : 0 ≤ parts_0o13 ∧ parts_0o13 ≤ 24) : FPA (nodes_0o8) (parts_0o13) (part_0o13) := by
  first | assumption
def o_Ho_draw_at_p_21 : or_T := (181, 16, [(0, (2, 0, 0, [12])), (4, (0, 0, 3066, [])), (8, (2, 0, 0, [3])), (9, (0, 1, 24, [])), (12, (2, 0, 0, [3])), (13, (2, 0, 0, [2]))], [(9, [9, 8], [0]), (20, [12], [60, 2, 2, 596, 0, 1, 7, 8]), (20, [12, 13], [60, 2, 1, 672, 0, 1001, 1004]), (20, [12, 13], [60, 1, 2, 671, 0, 14, 1004]), (20, [12], [60, 1, 1, 637, 0, 14]), (24, [8, 12], []), (20, [8], [50, 1, 0, 0, 0, 2, 0, 1, 2, 0, 0]), (20, [0, 4], [62, 2000000]), (20, [13], [50, 1, 0, 0, 7, 3, 2, 0, 0, 0, 0]), (102, [12], [281337537757184, 2000, 2001, 2002, 2003]), (8, [9], [1])], [], [(2, 0, 0, [12]), (0, 0, 3072, [])], [(20, [12], [50, 1, 0, 0, 0, 2, 0, 1, 2, 0, 0]), (24, [0, 16], []), (23, [17, 4], [0, 1, -1]), (23, [17, 4], [0, -1, 1]), (20, [12, 13], [60, 1, 2, 671, 0, 14, 1004]), (20, [12, 13], [60, 2, 1, 672, 0, 1001, 1004]), (20, [16, 17], [62, 2000000])], [], [])
theorem oo_Ho_draw_at_p_21 {kA : Nat → ClassId} : or_ok PRD kA GG o_Ho_draw_at_p_21 := by
  refine or_mk fun A ta ws vs hD hth hl => ?_
  intro t0 r0 t4 k4 t8 r8 t9 k9 t12 r12 t13 r13 f0 f1 f2 f3 f4 f5 f6 f7 f8 ta1 w1 le1 s1 f10
  replace f0 := shm_163 f0
  replace f1 := shm_386 f1
  replace f2 := shm_1179 f2
  replace f3 := shm_419 f3
  replace f4 := shm_1792 f4
  replace f5 := shm_5 f5
  replace f6 := shm_1220 f6
  replace f7 := shm_161 f7
  replace f8 := shm_2130 f8
  replace f10 := shm_142 f10
  have q12 : n_v vs 12 = n_v vs 8 := f5.symm
  simp only [q12] at f1 f2 f3 f4
  have cr_8_7 := fdq_46 hD hth r8
  have cr_8_8 := fdq_47 hD hth r8
  have cr_8_14 := fdq_75 hD hth r8
  have cr_13_4 := fdq_87 hD hth r13
  have g0 : v_iv (n_v vs 9) = w_fi ws (n_v vs 8) 0 := congrArg v_iv f0
  have hK_8_7 := elq_11 hD hth cr_8_7
  have hK_8_8 := elq_12 hD hth cr_8_8
  have hK_8_14 := elq_25 hD hth cr_8_14
  have hK_13_4 := elq_29 hD hth cr_13_4
  have kz_8_0 := fdq_21 hD hth r8
  have kz_8_1 := fdq_30 hD hth r8
  have kz_13_0 := fdq_294 hD hth r13
  have kz_13_1 := fdq_278 hD hth r13
  obtain ⟨y, ey, hy⟩ := iv_ex (ta := ta) (lo := 0) (hi := 3072) (z := v_iv (n_v vs 4)) (by omega) (by omega) (by omega) (by omega)
  have ey2 : v_iv (Value.int y) = v_iv (n_v vs 4) := ey
  have ey3 : 0 ≤ v_iv (Value.int y) ∧ v_iv (Value.int y) ≤ 3072 := tv_rng hy
  have e_0 : n_v (vs ++ [n_v vs 0, Value.int y]) 0 = n_v vs 0 := n_v_old (by rw [hl]; decide)
  have e_4 : n_v (vs ++ [n_v vs 0, Value.int y]) 4 = n_v vs 4 := n_v_old (by rw [hl]; decide)
  have e_12 : n_v (vs ++ [n_v vs 0, Value.int y]) 12 = n_v vs 12 := n_v_old (by rw [hl]; decide)
  have e_13 : n_v (vs ++ [n_v vs 0, Value.int y]) 13 = n_v vs 13 := n_v_old (by rw [hl]; decide)
  have e_16 : n_v (vs ++ [n_v vs 0, Value.int y]) 16 = n_v vs 0 := n_v_new0 hl
  have e_17 : n_v (vs ++ [n_v vs 0, Value.int y]) 17 = Value.int y := n_v_new1 hl
  have nf0 : fc_1 PRD (20, [12], [50, 1, 0, 0, 0, 2, 0, 1, 2, 0, 0]) ws (vs ++ [n_v vs 0, Value.int y]) := by
    refine ⟨nf_inA hl rfl, sgq_1220 ?_⟩
    · show 1 ≤ w_fi ws (n_v (vs ++ [n_v vs 0, Value.int y]) 12) 0
      simp only [e_12, q12]
      exact vc_Ho_draw_at_p_21_0 (w_fi ws (n_v vs 8) 0) f6 kz_8_0
  have nf1 : fc_1 PRD (24, [0, 16], []) ws (vs ++ [n_v vs 0, Value.int y]) := by
    refine ⟨nf_inA hl rfl, sgq_5 ?_⟩
    · show n_v (vs ++ [n_v vs 0, Value.int y]) 0 = n_v (vs ++ [n_v vs 0, Value.int y]) 16
      first | rfl | simp only [e_0, e_16, q12]
  have nf2 : fc_1 PRD (23, [17, 4], [0, 1, -1]) ws (vs ++ [n_v vs 0, Value.int y]) := by
    refine ⟨nf_inA hl rfl, sgq_7 ?_⟩
    · show 1 * v_iv (n_v (vs ++ [n_v vs 0, Value.int y]) 17) + ((-1) * v_iv (n_v (vs ++ [n_v vs 0, Value.int y]) 4) + 0) ≤ 0
      simp only [e_4, e_17]
      exact vc_Ho_draw_at_p_21_2 (v_iv (n_v vs 4)) (v_iv (Value.int y)) k4 ey2
  have nf3 : fc_1 PRD (23, [17, 4], [0, -1, 1]) ws (vs ++ [n_v vs 0, Value.int y]) := by
    refine ⟨nf_inA hl rfl, sgq_22 ?_⟩
    · show (-1) * v_iv (n_v (vs ++ [n_v vs 0, Value.int y]) 17) + (1 * v_iv (n_v (vs ++ [n_v vs 0, Value.int y]) 4) + 0) ≤ 0
      simp only [e_4, e_17]
      exact vc_Ho_draw_at_p_21_3 (v_iv (n_v vs 4)) (v_iv (Value.int y)) k4 ey2
  have nf4 : fc_1 PRD (20, [12, 13], [60, 1, 2, 671, 0, 14, 1004]) ws (vs ++ [n_v vs 0, Value.int y]) := by
    refine ⟨nf_inA hl rfl, sgq_419 ?_⟩
    · show PNC (w_fi ws (n_v (vs ++ [n_v vs 0, Value.int y]) 12) 0) (w_ei ws (w_ar ws (n_v (vs ++ [n_v vs 0, Value.int y]) 12) 14)) (w_ei ws (w_ar ws (n_v (vs ++ [n_v vs 0, Value.int y]) 13) 4))
      simp only [e_12, e_13, q12]
      exact vc_Ho_draw_at_p_21_4 (w_fi ws (n_v vs 8) 0) (w_ei ws (w_ar ws (n_v vs 13) 4)) (w_ei ws (w_ar ws (n_v vs 8) 14)) f3 kz_8_0
  have nf5 : fc_1 PRD (20, [12, 13], [60, 2, 1, 672, 0, 1001, 1004]) ws (vs ++ [n_v vs 0, Value.int y]) := by
    refine ⟨nf_inA hl rfl, sgq_1179 ?_⟩
    · show FPA (w_fi ws (n_v (vs ++ [n_v vs 0, Value.int y]) 12) 0) (w_fi ws (n_v (vs ++ [n_v vs 0, Value.int y]) 13) 1) (w_ei ws (w_ar ws (n_v (vs ++ [n_v vs 0, Value.int y]) 13) 4))
      simp only [e_12, e_13, q12]
      exact vc_Ho_draw_at_p_21_5 (w_fi ws (n_v vs 8) 0) (w_ei ws (w_ar ws (n_v vs 13) 4)) (w_fi ws (n_v vs 13) 1) f2 kz_8_0 kz_13_1
  have nf6 : fc_1 PRD (20, [16, 17], [62, 2000000]) ws (vs ++ [n_v vs 0, Value.int y]) := by
    refine ⟨nf_inA hl rfl, sgq_161 ?_⟩
    · show HY ws (n_v (vs ++ [n_v vs 0, Value.int y]) 16) (v_iv (n_v (vs ++ [n_v vs 0, Value.int y]) 17) + (((2000000 : Nat) : Int) - 2000000))
      simp only [e_16, e_17]
      exact hy_le f7 (by omega)
  exact ⟨(fun _ h => (by cases h)), [n_v vs 0, Value.int y], ag_two t0 hy, List.forall_mem_cons.mpr ⟨⟨show (20 : Nat) < 100 from by decide, nf0⟩, List.forall_mem_cons.mpr ⟨⟨show (24 : Nat) < 100 from by decide, nf1⟩, List.forall_mem_cons.mpr ⟨⟨show (23 : Nat) < 100 from by decide, nf2⟩, List.forall_mem_cons.mpr ⟨⟨show (23 : Nat) < 100 from by decide, nf3⟩, List.forall_mem_cons.mpr ⟨⟨show (20 : Nat) < 100 from by decide, nf4⟩, List.forall_mem_cons.mpr ⟨⟨show (20 : Nat) < 100 from by decide, nf5⟩, List.forall_mem_cons.mpr ⟨⟨show (20 : Nat) < 100 from by decide, nf6⟩, (fun _ h => (by cases h))⟩⟩⟩⟩⟩⟩⟩, (fun _ h => (by cases h))⟩
def o_Ho_draw_at_p_22 : or_T := (203, 19, [(0, (2, 0, 0, [12])), (4, (0, 0, 3066, [])), (8, (2, 0, 0, [3])), (9, (0, 1, 24, [])), (12, (2, 0, 0, [3])), (13, (2, 0, 0, [2])), (16, (2, 0, 0, [12])), (17, (0, 0, 3072, []))], [(9, [9, 8], [0]), (20, [12], [50, 1, 0, 0, 0, 2, 0, 1, 2, 0, 0]), (24, [0, 16], []), (23, [17, 4], [0, 1, -1]), (23, [17, 4], [0, -1, 1]), (20, [12, 13], [60, 1, 2, 671, 0, 14, 1004]), (20, [12, 13], [60, 2, 1, 672, 0, 1001, 1004]), (20, [12], [60, 2, 2, 596, 0, 1, 7, 8]), (20, [12, 13], [60, 2, 1, 672, 0, 1001, 1004]), (20, [12, 13], [60, 1, 2, 671, 0, 14, 1004]), (20, [12], [60, 1, 1, 637, 0, 14]), (24, [8, 12], []), (20, [8], [50, 1, 0, 0, 0, 2, 0, 1, 2, 0, 0]), (20, [13], [50, 1, 0, 0, 7, 3, 2, 0, 0, 0, 0]), (20, [16, 17], [62, 2000000]), (102, [17], [5069983430893274915849367568384, 7, 9, 6000, 6001, 6008, 6011, 6013, 6014]), (23, [17, 4], [0, 1, -1]), (23, [17, 4], [0, -1, 1]), (102, [12], [281337537757184, 2000, 2001, 2002, 2003]), (8, [9], [1])], [], [], [(20, [0, 4], [62, 2000006])], [], [])
theorem oo_Ho_draw_at_p_22 {kA : Nat → ClassId} : or_ok PRD kA GG o_Ho_draw_at_p_22 := by
  refine or_mk fun A ta ws vs hD hth hl => ?_
  intro t0 r0 t4 k4 t8 r8 t9 k9 t12 r12 t13 r13 t16 r16 t17 k17 f0 f1 f2 f3 f4 f5 f6 f7 f8 f9 f10 f11 f12 f13 f14 ta1 w1 le1 s1 f16 f17 ta2 w2 le2 s2 f19
  replace f0 := shm_163 f0
  replace f1 := shm_1220 f1
  replace f2 := shm_5 f2
  replace f3 := shm_7 f3
  replace f4 := shm_22 f4
  replace f5 := shm_419 f5
  replace f6 := shm_1179 f6
  replace f7 := shm_386 f7
  replace f8 := shm_1179 f8
  replace f9 := shm_419 f9
  replace f10 := shm_1792 f10
  replace f11 := shm_5 f11
  replace f12 := shm_1220 f12
  replace f13 := shm_2130 f13
  replace f14 := shm_161 f14
  replace f16 := shm_7 f16
  replace f17 := shm_22 f17
  replace f19 := shm_142 f19
  have q16 : n_v vs 16 = n_v vs 0 := f2.symm
  have q12 : n_v vs 12 = n_v vs 8 := f11.symm
  simp only [q12, q16] at f1 f5 f6 f7 f8 f9 f10 f14
  have cr_8_7 := fdq_46 hD hth r8
  have cr_8_8 := fdq_47 hD hth r8
  have cr_8_14 := fdq_75 hD hth r8
  have cr_13_4 := fdq_87 hD hth r13
  have g0 : v_iv (n_v vs 9) = w_fi ws (n_v vs 8) 0 := congrArg v_iv f0
  have hK_8_7 := elq_11 hD hth cr_8_7
  have hK_8_8 := elq_12 hD hth cr_8_8
  have hK_8_14 := elq_25 hD hth cr_8_14
  have hK_13_4 := elq_29 hD hth cr_13_4
  have kz_8_0 := fdq_21 hD hth r8
  have kz_8_1 := fdq_30 hD hth r8
  have kz_13_0 := fdq_294 hD hth r13
  have kz_13_1 := fdq_278 hD hth r13
  have nf0 : fc_1 PRD (20, [0, 4], [62, 2000006]) ws (vs) := by
    refine ⟨nf_in hl rfl, sgq_270 ?_⟩
    · show HY ws (n_v vs 0) (v_iv (n_v vs 4) + (((2000006 : Nat) : Int) - 2000000))
      exact hy_le f14 (by omega)
  refine ⟨(fun _ h => (by cases h)), [], trivial, ?_, (fun _ h => (by cases h))⟩
  rw [List.append_nil]
  exact List.forall_mem_cons.mpr ⟨⟨show (20 : Nat) < 100 from by decide, nf0⟩, (fun _ h => (by cases h))⟩
def o_Ho_draw_at_p_23 : or_T := (203, 20, [(0, (2, 0, 0, [12])), (4, (0, 0, 3066, [])), (8, (2, 0, 0, [3])), (9, (0, 1, 24, [])), (12, (2, 0, 0, [3])), (13, (2, 0, 0, [2])), (16, (2, 0, 0, [12])), (17, (0, 0, 3072, [])), (19, (2, 0, 0, [0]))], [(9, [9, 8], [0]), (20, [12], [50, 1, 0, 0, 0, 2, 0, 1, 2, 0, 0]), (24, [0, 16], []), (23, [17, 4], [0, 1, -1]), (23, [17, 4], [0, -1, 1]), (20, [12, 13], [60, 1, 2, 671, 0, 14, 1004]), (20, [12, 13], [60, 2, 1, 672, 0, 1001, 1004]), (20, [12], [60, 2, 2, 596, 0, 1, 7, 8]), (20, [12, 13], [60, 2, 1, 672, 0, 1001, 1004]), (20, [12, 13], [60, 1, 2, 671, 0, 14, 1004]), (20, [12], [60, 1, 1, 637, 0, 14]), (24, [8, 12], []), (20, [8], [50, 1, 0, 0, 0, 2, 0, 1, 2, 0, 0]), (20, [13], [50, 1, 0, 0, 7, 3, 2, 0, 0, 0, 0]), (20, [16, 17], [62, 2000000]), (101, [19, 2], [1]), (20, [12], [50, 1, 0, 0, 0, 2, 0, 1, 2, 0, 0]), (23, [17, 4], [0, 1, -1]), (23, [17, 4], [0, -1, 1]), (20, [12, 13], [60, 1, 2, 671, 0, 14, 1004]), (20, [12, 13], [60, 2, 1, 672, 0, 1001, 1004]), (20, [12], [60, 2, 2, 596, 0, 1, 7, 8]), (20, [12, 13], [60, 2, 1, 672, 0, 1001, 1004]), (20, [12, 13], [60, 1, 2, 671, 0, 14, 1004]), (20, [12], [60, 1, 1, 637, 0, 14]), (20, [8], [50, 1, 0, 0, 0, 2, 0, 1, 2, 0, 0]), (20, [13], [50, 1, 0, 0, 7, 3, 2, 0, 0, 0, 0]), (102, [17], [5069983430893274915849367568384, 7, 9, 6000, 6001, 6008, 6011, 6013, 6014]), (23, [17, 4], [0, 1, -1]), (23, [17, 4], [0, -1, 1]), (102, [12], [281337537757184, 2000, 2001, 2002, 2003]), (8, [9], [1])], [], [], [(20, [0, 4], [62, 2000006])], [], [])
theorem oo_Ho_draw_at_p_23 {kA : Nat → ClassId} : or_ok PRD kA GG o_Ho_draw_at_p_23 := by
  refine or_mk fun A ta ws vs hD hth hl => ?_
  intro t0 r0 t4 k4 t8 r8 t9 k9 t12 r12 t13 r13 t16 r16 t17 k17 t19 r19 f0 f1 f2 f3 f4 f5 f6 f7 f8 f9 f10 f11 f12 f13 f14 ta1 w1 le1 s1 f16 f17 f18 f19 f20 f21 f22 f23 f24 f25 f26 ta2 w2 le2 s2 f28 f29 ta3 w3 le3 s3 f31
  replace f0 := shm_163 f0
  replace f1 := shm_1220 f1
  replace f2 := shm_5 f2
  replace f3 := shm_7 f3
  replace f4 := shm_22 f4
  replace f5 := shm_419 f5
  replace f6 := shm_1179 f6
  replace f7 := shm_386 f7
  replace f8 := shm_1179 f8
  replace f9 := shm_419 f9
  replace f10 := shm_1792 f10
  replace f11 := shm_5 f11
  replace f12 := shm_1220 f12
  replace f13 := shm_2130 f13
  replace f14 := shm_161 f14
  have s1 : (∀ b j, w_el ws b j = w_el w1 b j) ∧ ∀ b j, w_fd ws b j = if b = v_ad (n_v vs 19) ∧ j = 1 then n_v vs 2 else w_fd w1 b j := s1.2
  replace f16 := shm_1220 f16
  replace f17 := shm_7 f17
  replace f18 := shm_22 f18
  replace f19 := shm_419 f19
  replace f20 := shm_1179 f20
  replace f21 := shm_386 f21
  replace f22 := shm_1179 f22
  replace f23 := shm_419 f23
  replace f24 := shm_1792 f24
  replace f25 := shm_1220 f25
  replace f26 := shm_2130 f26
  replace f28 := shm_7 f28
  replace f29 := shm_22 f29
  replace f31 := shm_142 f31
  have q16 : n_v vs 16 = n_v vs 0 := f2.symm
  have q12 : n_v vs 12 = n_v vs 8 := f11.symm
  simp only [q12, q16] at f1 f5 f6 f7 f8 f9 f10 f14 f16 f19 f20 f21 f22 f23 f24
  have ar_8_7_1 : w_ar w1 (n_v vs 8) 7 = w_ar ws (n_v vs 8) 7 := by show v_ad (w_fd w1 _ _) = v_ad (w_fd ws _ _); rw [s1.2, if_neg (fun e => absurd e.2 (by decide))]
  have cr_8_7 := fdq_46 hD hth r8
  have ar_8_8_1 : w_ar w1 (n_v vs 8) 8 = w_ar ws (n_v vs 8) 8 := by show v_ad (w_fd w1 _ _) = v_ad (w_fd ws _ _); rw [s1.2, if_neg (fun e => absurd e.2 (by decide))]
  have cr_8_8 := fdq_47 hD hth r8
  have ar_8_14_1 : w_ar w1 (n_v vs 8) 14 = w_ar ws (n_v vs 8) 14 := by show v_ad (w_fd w1 _ _) = v_ad (w_fd ws _ _); rw [s1.2, if_neg (fun e => absurd e.2 (by decide))]
  have cr_8_14 := fdq_75 hD hth r8
  have ar_13_4_1 : w_ar w1 (n_v vs 13) 4 = w_ar ws (n_v vs 13) 4 := by show v_ad (w_fd w1 _ _) = v_ad (w_fd ws _ _); rw [s1.2, if_neg (fun e => absurd e.2 (by decide))]
  have cr_13_4 := fdq_87 hD hth r13
  have g0 : v_iv (n_v vs 9) = w_fi ws (n_v vs 8) 0 := congrArg v_iv f0
  simp only [ar_8_14_1, ar_13_4_1, ar_8_7_1, ar_8_8_1] at f19 f20 f21 f22 f23 f24
  have fe_8_0_1 : w_fi ws (n_v vs 8) 0 = w_fi w1 (n_v vs 8) 0 := by show v_iv (w_fd _ _ _) = v_iv (w_fd _ _ _); rw [s1.2, if_neg (fun e => absurd e.2 (by decide))]
  have fe_8_1_1 : w_fi ws (n_v vs 8) 1 = w_fi w1 (n_v vs 8) 1 := by show v_iv (w_fd _ _ _) = v_iv (w_fd _ _ _); rw [s1.2, if_neg (fun e => by have e1 := e.1; have e2 := r8; rw [e1, r19] at e2; exact absurd (Option.some.inj e2) (by decide))]
  have fe_13_0_1 : w_fi ws (n_v vs 13) 0 = w_fi w1 (n_v vs 13) 0 := by show v_iv (w_fd _ _ _) = v_iv (w_fd _ _ _); rw [s1.2, if_neg (fun e => absurd e.2 (by decide))]
  have fe_13_1_1 : w_fi ws (n_v vs 13) 1 = w_fi w1 (n_v vs 13) 1 := by show v_iv (w_fd _ _ _) = v_iv (w_fd _ _ _); rw [s1.2, if_neg (fun e => by have e1 := e.1; have e2 := r13; rw [e1, r19] at e2; exact absurd (Option.some.inj e2) (by decide))]
  have hE_8_7_1 : ∀ j : Int, w_ei ws (w_ar ws (n_v vs 8) 7) j = w_ei w1 (w_ar ws (n_v vs 8) 7) j := fun j => s1.1 _ _
  have hK_8_7 := elq_11 hD hth cr_8_7
  have hE_8_8_1 : ∀ j : Int, w_ei ws (w_ar ws (n_v vs 8) 8) j = w_ei w1 (w_ar ws (n_v vs 8) 8) j := fun j => s1.1 _ _
  have hK_8_8 := elq_12 hD hth cr_8_8
  have hE_8_14_1 : ∀ j : Int, w_ei ws (w_ar ws (n_v vs 8) 14) j = w_ei w1 (w_ar ws (n_v vs 8) 14) j := fun j => s1.1 _ _
  have hK_8_14 := elq_25 hD hth cr_8_14
  have hE_13_4_1 : ∀ j : Int, w_ei ws (w_ar ws (n_v vs 13) 4) j = w_ei w1 (w_ar ws (n_v vs 13) 4) j := fun j => s1.1 _ _
  have hK_13_4 := elq_29 hD hth cr_13_4
  have kz_8_0 := fdq_21 hD hth r8
  have kz_8_1 := fdq_30 hD hth r8
  have kz_13_0 := fdq_294 hD hth r13
  have kz_13_1 := fdq_278 hD hth r13
  have nf0 : fc_1 PRD (20, [0, 4], [62, 2000006]) ws (vs) := by
    refine ⟨nf_in hl rfl, sgq_270 ?_⟩
    · show HY ws (n_v vs 0) (v_iv (n_v vs 4) + (((2000006 : Nat) : Int) - 2000000))
      exact hy_le f14 (by omega)
  refine ⟨(fun _ h => (by cases h)), [], trivial, ?_, (fun _ h => (by cases h))⟩
  rw [List.append_nil]
  exact List.forall_mem_cons.mpr ⟨⟨show (20 : Nat) < 100 from by decide, nf0⟩, (fun _ h => (by cases h))⟩
def o_Ho_draw_at_p_24 : or_T := (116, 14, [(0, (2, 0, 0, [12])), (1, (0, 0, 3, [])), (7, (2, 0, 0, [131])), (8, (2, 0, 0, [3])), (13, (2, 0, 0, [3]))], [(14, [13, 7, 1], []), (9, [7, 0], [0]), (20, [0, 1, 8], [62, 71])], [], [], [(24, [8, 13], [])], [], [])
theorem oo_Ho_draw_at_p_24 {kA : Nat → ClassId} : or_ok PRD kA GG o_Ho_draw_at_p_24 := by
  refine or_mk fun A ta ws vs hD hth hl => ?_
  intro t0 r0 t1 k1 t7 r7 t8 r8 t13 r13 f0 f1 f2
  replace f0 := shm_793 f0
  replace f1 := shm_163 f1
  replace f2 := shm_1819 f2
  have nf0 : fc_1 PRD (24, [8, 13], []) ws (vs) := by
    refine ⟨nf_in hl rfl, sgq_5 ?_⟩
    · show n_v vs 8 = n_v vs 13
      exact ref_same t8 t13 rfl rfl ((wl_0 (wq_wl f2) (by decide)).trans (pO_of f1 f0).symm)
  refine ⟨(fun _ h => (by cases h)), [], trivial, ?_, (fun _ h => (by cases h))⟩
  rw [List.append_nil]
  exact List.forall_mem_cons.mpr ⟨⟨show (24 : Nat) < 100 from by decide, nf0⟩, (fun _ h => (by cases h))⟩
def o_Ho_draw_at_p_25 : or_T := (116, 14, [(0, (2, 0, 0, [12])), (1, (0, 0, 3, [])), (8, (2, 0, 0, [3])), (9, (0, 1, 24, [])), (13, (2, 0, 0, [3]))], [(9, [9, 8], [0]), (24, [8, 13], []), (20, [8], [50, 1, 0, 0, 0, 2, 0, 1, 2, 0, 0]), (20, [0, 1, 8], [62, 71]), (101, [0, 12], [18]), (102, [11], [0, 301000, 301001, 301002, 301003, 301004, 301005, 301006, 301007, 301008, 305000, 305001, 305002, 305003, 305004, 305005, 305006, 305007, 305008, 305009, 305010, 305011, 305012, 305013, 305014, 305015, 305016]), (8, [9], [1])], [], [], [(20, [0, 1, 13], [62, 71])], [], [])
theorem oo_Ho_draw_at_p_25 {kA : Nat → ClassId} : or_ok PRD kA GG o_Ho_draw_at_p_25 := by
  refine or_mk fun A ta ws vs hD hth hl => ?_
  intro t0 r0 t1 k1 t8 r8 t9 k9 t13 r13 f0 f1 f2 f3 ta1 w1 le1 s1 ta2 w2 le2 s2 f6
  replace f1 := shm_5 f1
  replace f3 := shm_1819 f3
  have q13 : n_v vs 13 = n_v vs 8 := f1.symm
  have nf0 : fc_1 PRD (20, [0, 1, 13], [62, 71]) ws (vs) := by
    refine ⟨nf_in hl rfl, sgq_1819 ?_⟩
    · show WQF 71 [n_v vs 0, n_v vs 1, n_v vs 13] ws
      first | rw [q13] | skip
      have zw := f3
      first | rw [show n_v vs 8 = n_v vs 13 from (by first | exact f1 | exact f1.symm)] at zw | skip
      first | exact zw | ((first | rw [q13] at zw | skip); exact zw)
  refine ⟨(fun _ h => (by cases h)), [], trivial, ?_, (fun _ h => (by cases h))⟩
  rw [List.append_nil]
  exact List.forall_mem_cons.mpr ⟨⟨show (20 : Nat) < 100 from by decide, nf0⟩, (fun _ h => (by cases h))⟩
def o_Ho_draw_at_p_26 : or_T := (121, 15, [(0, (2, 0, 0, [12]))], [(20, [0], [62, 0]), (102, [13], [281337537757184, 2000, 2001, 2002, 2003]), (20, [0, 1, 13], [62, 71])], [], [], [(20, [0, 1, 13], [62, 71])], [], [])
theorem oo_Ho_draw_at_p_26 {kA : Nat → ClassId} : or_ok PRD kA GG o_Ho_draw_at_p_26 := by
  refine or_mk fun A ta ws vs hD hth hl => ?_
  intro t0 r0 f0 ta1 w1 le1 s1 f2
  replace f0 := shm_1176 f0
  replace s1 := s1.2
  replace f2 := shm_1819 f2
  have nf0 : fc_1 PRD (20, [0, 1, 13], [62, 71]) ws (vs) := by
    refine ⟨nf_in hl rfl, sgq_1819 ?_⟩
    · show WQF 71 [n_v vs 0, n_v vs 1, n_v vs 13] ws
      obtain ⟨aH, _, eH, _⟩ := tv_ref t0 rfl
      have hH0 := s1.2.2.1 13 List.mem_cons_self 0 (by decide) aH eH
      exact wq_step f0 (hd_call hD hth (by decide +kernel) le1 r0 (by rw [eH]; exact hH0) s1 (by decide +kernel)) f2 (by decide)
  refine ⟨(fun _ h => (by cases h)), [], trivial, ?_, (fun _ h => (by cases h))⟩
  rw [List.append_nil]
  exact List.forall_mem_cons.mpr ⟨⟨show (20 : Nat) < 100 from by decide, nf0⟩, (fun _ h => (by cases h))⟩
def o_Ho_draw_at_p_27 : or_T := (126, 16, [(0, (2, 0, 0, [12])), (1, (0, 0, 3, [])), (13, (2, 0, 0, [3])), (14, (2, 0, 0, [2]))], [(20, [0], [62, 0]), (102, [14], [712230049778071777201162559065590005831303168, 1000, 1005, 1006, 1007, 1015, 1016, 1017, 1018, 5000, 5002, 5003, 5005, 5006, 5013, 149005, 149006, 149013]), (20, [0, 1, 13], [62, 71])], [], [], [(20, [0, 1, 13], [62, 71])], [], [])
theorem oo_Ho_draw_at_p_27 {kA : Nat → ClassId} : or_ok PRD kA GG o_Ho_draw_at_p_27 := by
  refine or_mk fun A ta ws vs hD hth hl => ?_
  intro t0 r0 t1 k1 t13 r13 t14 r14 f0 ta1 w1 le1 s1 f2
  replace f0 := shm_1176 f0
  replace s1 := s1.2
  replace f2 := shm_1819 f2
  have nf0 : fc_1 PRD (20, [0, 1, 13], [62, 71]) ws (vs) := by
    refine ⟨nf_in hl rfl, sgq_1819 ?_⟩
    · show WQF 71 [n_v vs 0, n_v vs 1, n_v vs 13] ws
      obtain ⟨aH, _, eH, _⟩ := tv_ref t0 rfl
      have hH0 := s1.2.2.1 14 List.mem_cons_self 0 (by decide) aH eH
      exact wq_step f0 (hd_call hD hth (by decide +kernel) le1 r0 (by rw [eH]; exact hH0) s1 (by decide +kernel)) f2 (by decide)
  refine ⟨(fun _ h => (by cases h)), [], trivial, ?_, (fun _ h => (by cases h))⟩
  rw [List.append_nil]
  exact List.forall_mem_cons.mpr ⟨⟨show (20 : Nat) < 100 from by decide, nf0⟩, (fun _ h => (by cases h))⟩
def o_Ho_draw_at_p_28 : or_T := (126, 16, [(0, (2, 0, 0, [12])), (1, (0, 0, 3, [])), (14, (2, 0, 0, [2]))], [(20, [0], [62, 0]), (102, [14], [712230049778071777201162559065590005831303168, 1000, 1005, 1006, 1007, 1015, 1016, 1017, 1018, 5000, 5002, 5003, 5005, 5006, 5013, 149005, 149006, 149013]), (20, [0, 1, 14], [62, 135])], [], [], [(20, [0, 1, 14], [62, 135])], [], [])
theorem oo_Ho_draw_at_p_28 {kA : Nat → ClassId} : or_ok PRD kA GG o_Ho_draw_at_p_28 := by
  refine or_mk fun A ta ws vs hD hth hl => ?_
  intro t0 r0 t1 k1 t14 r14 f0 ta1 w1 le1 s1 f2
  replace f0 := shm_1176 f0
  replace s1 := s1.2
  replace f2 := shm_2132 f2
  have nf0 : fc_1 PRD (20, [0, 1, 14], [62, 135]) ws (vs) := by
    refine ⟨nf_in hl rfl, sgq_2132 ?_⟩
    · show WQF 135 [n_v vs 0, n_v vs 1, n_v vs 14] ws
      obtain ⟨aH, _, eH, _⟩ := tv_ref t0 rfl
      have hH0 := s1.2.2.1 14 List.mem_cons_self 0 (by decide) aH eH
      exact wq_step f0 (hd_call hD hth (by decide +kernel) le1 r0 (by rw [eH]; exact hH0) s1 (by decide +kernel)) f2 (by decide)
  refine ⟨(fun _ h => (by cases h)), [], trivial, ?_, (fun _ h => (by cases h))⟩
  rw [List.append_nil]
  exact List.forall_mem_cons.mpr ⟨⟨show (20 : Nat) < 100 from by decide, nf0⟩, (fun _ h => (by cases h))⟩
def o_Ho_draw_at_p_29 : or_T := (132, 18, [(0, (2, 0, 0, [12])), (1, (0, 0, 3, [])), (4, (0, 0, 3066, [])), (16, (2, 0, 0, [134])), (17, (2, 0, 0, [0]))], [(14, [17, 16, 1], []), (9, [16, 0], [3]), (20, [0, 4], [62, 2000000])], [], [], [(20, [0, 4, 17], [62, 2000000])], [], [])
theorem oo_Ho_draw_at_p_29 {kA : Nat → ClassId} : or_ok PRD kA GG o_Ho_draw_at_p_29 := by
  refine or_mk fun A ta ws vs hD hth hl => ?_
  intro t0 r0 t1 k1 t4 k4 t16 r16 t17 r17 f0 f1 f2
  replace f0 := shm_793 f0
  replace f1 := shm_137 f1
  replace f2 := shm_161 f2
  have nf0 : fc_1 PRD (20, [0, 4, 17], [62, 2000000]) ws (vs) := by
    refine ⟨nf_in hl rfl, sgq_1399 ?_⟩
    · show HY ws (n_v vs 0) (v_iv (n_v vs 4) + (((2000000 : Nat) : Int) - 2000000)) ∧ HYD ws (n_v vs 0) (n_v vs 17)
      exact ⟨hy_le f2 (by omega), hyd_of f1 f0 (by omega) (by omega)⟩
  refine ⟨(fun _ h => (by cases h)), [], trivial, ?_, (fun _ h => (by cases h))⟩
  rw [List.append_nil]
  exact List.forall_mem_cons.mpr ⟨⟨show (20 : Nat) < 100 from by decide, nf0⟩, (fun _ h => (by cases h))⟩
def o_Ho_draw_at_p_30 : or_T := (132, 18, [(0, (2, 0, 0, [12])), (1, (0, 0, 3, [])), (13, (2, 0, 0, [3])), (14, (2, 0, 0, [2]))], [(20, [0, 1, 14], [62, 135]), (20, [0, 1, 13], [62, 71])], [], [], [(20, [13], [60, 1, 1, 637, 0, 14])], [], [])
theorem oo_Ho_draw_at_p_30 {kA : Nat → ClassId} : or_ok PRD kA GG o_Ho_draw_at_p_30 := by
  refine or_mk fun A ta ws vs hD hth hl => ?_
  intro t0 r0 t1 k1 t13 r13 t14 r14 f0 f1
  replace f0 := shm_2132 f0
  replace f1 := shm_1819 f1
  have nf0 : fc_1 PRD (20, [13], [60, 1, 1, 637, 0, 14]) ws (vs) := by
    refine ⟨nf_in hl rfl, sgq_1792 ?_⟩
    · show SYG (w_fi ws (n_v vs 13) 0) (w_ei ws (w_ar ws (n_v vs 13) 14))
      have kz13_0 : 0 ≤ w_fi ws (n_v vs 13) 0 ∧ w_fi ws (n_v vs 13) 0 ≤ 24 := tv_rng (th_fd hD hth r13 (g := GG_3) rfl (k := 0) (t := (0, 0, 24, [])) rfl rfl)
      exact hg_syg (wq_hg f0 (by decide) (wl_0 (wq_wl (k := 71) f1) (by decide))) (by omega)
  refine ⟨(fun _ h => (by cases h)), [], trivial, ?_, (fun _ h => (by cases h))⟩
  rw [List.append_nil]
  exact List.forall_mem_cons.mpr ⟨⟨show (20 : Nat) < 100 from by decide, nf0⟩, (fun _ h => (by cases h))⟩
def o_Ho_draw_at_p_31 : or_T := (132, 18, [(0, (2, 0, 0, [12])), (1, (0, 0, 3, [])), (13, (2, 0, 0, [3])), (14, (2, 0, 0, [2])), (15, (2, 0, 0, [5]))], [(20, [0, 1, 14], [62, 135]), (20, [0, 1, 13], [62, 71]), (20, [14], [50, 1, 0, 0, 7, 3, 2, 0, 0, 0, 0]), (20, [0, 1, 15], [62, 199]), (20, [15], [50, 1, 0, 0, 0, 2, 0, 0, 2, 0, 0])], [], [], [(20, [15, 13, 14], [60, 3, 1, 644, 0, 1001, 2002, 16])], [], [])
theorem oo_Ho_draw_at_p_31 {kA : Nat → ClassId} : or_ok PRD kA GG o_Ho_draw_at_p_31 := by
  refine or_mk fun A ta ws vs hD hth hl => ?_
  intro t0 r0 t1 k1 t13 r13 t14 r14 t15 r15 f0 f1 f2 f3 f4
  replace f0 := shm_2132 f0
  replace f1 := shm_1819 f1
  replace f2 := shm_2130 f2
  replace f3 := shm_2167 f3
  replace f4 := shm_1616 f4
  have nf0 : fc_1 PRD (20, [15, 13, 14], [60, 3, 1, 644, 0, 1001, 2002, 16]) ws (vs) := by
    refine ⟨nf_in hl rfl, sgq_2243 ?_⟩
    · show PLB (w_fi ws (n_v vs 15) 0) (w_fi ws (n_v vs 13) 1) (w_fi ws (n_v vs 14) 2) (w_ei ws (w_ar ws (n_v vs 15) 16))
      have kz15_0 : (-1) ≤ w_fi ws (n_v vs 15) 0 ∧ w_fi ws (n_v vs 15) 0 ≤ 1 := tv_rng (th_fd hD hth r15 (g := GG_5) rfl (k := 0) (t := (0, -1, 1, [])) rfl rfl)
      have kp0 : 0 ≤ w_fi ws (n_v vs 15) 0 := f4
      have kz13_1 : 0 ≤ w_fi ws (n_v vs 13) 1 ∧ w_fi ws (n_v vs 13) 1 ≤ 48 := tv_rng (th_fd hD hth r13 (g := GG_3) rfl (k := 1) (t := (0, 0, 48, [])) rfl rfl)
      obtain ⟨dz, rz, hz, tz, mz⟩ := tv_ref (fd_at hD hth r15 (g := GG_5) rfl (k := 16) rfl (by decide)).1 rfl
      obtain rfl := List.mem_singleton.mp mz
      have kfo : ∀ d : Int, 0 ≤ d → d < 144 → -1 ≤ w_ei ws (w_ar ws (n_v vs 15) 16) d := fun d d0 d1 => by rw [hg_ar hz]; have z := th_el hD hth tz (kd := 0) (n := 144) (m := 144) (lo := (-1)) (hi := 143) (rs := []) (L := []) rfl (by decide) (j := d.toNat) (by omega); show -1 ≤ w_el ws dz d.toNat; omega
      exact hn_plb (wq_hn f0 (by decide) (wl_0 (wq_wl (k := 71) f1) (by decide)) (wl_0 (wq_wl (k := 199) f3) (by decide))) (wq_hf f0 (by decide) (wl_0 (wq_wl (k := 71) f1) (by decide)) (wl_0 (wq_wl (k := 135) f0) (by decide))) (show w_fi ws (n_v vs 14) 0 ≠ 0 from f2) ⟨kp0, by omega⟩ (by omega) kfo
  refine ⟨(fun _ h => (by cases h)), [], trivial, ?_, (fun _ h => (by cases h))⟩
  rw [List.append_nil]
  exact List.forall_mem_cons.mpr ⟨⟨show (20 : Nat) < 100 from by decide, nf0⟩, (fun _ h => (by cases h))⟩
def o_Ho_draw_at_p_32 : or_T := (132, 18, [(0, (2, 0, 0, [12])), (1, (0, 0, 3, [])), (13, (2, 0, 0, [3])), (14, (2, 0, 0, [2]))], [(20, [0, 1, 14], [62, 135]), (20, [0, 1, 13], [62, 71]), (20, [14], [50, 1, 0, 0, 7, 3, 2, 0, 0, 0, 0])], [], [], [(20, [13, 14], [60, 3, 3, 673, 0, 1, 1002, 14, 7, 8])], [], [])
theorem oo_Ho_draw_at_p_32 {kA : Nat → ClassId} : or_ok PRD kA GG o_Ho_draw_at_p_32 := by
  refine or_mk fun A ta ws vs hD hth hl => ?_
  intro t0 r0 t1 k1 t13 r13 t14 r14 f0 f1 f2
  replace f0 := shm_2132 f0
  replace f1 := shm_1819 f1
  replace f2 := shm_2130 f2
  have nf0 : fc_1 PRD (20, [13, 14], [60, 3, 3, 673, 0, 1, 1002, 14, 7, 8]) ws (vs) := by
    refine ⟨nf_in hl rfl, sgq_2131 ?_⟩
    · show BKS (w_fi ws (n_v vs 13) 0) (w_fi ws (n_v vs 13) 1) (w_fi ws (n_v vs 14) 2) (w_ei ws (w_ar ws (n_v vs 13) 14)) (w_ei ws (w_ar ws (n_v vs 13) 7)) (w_ei ws (w_ar ws (n_v vs 13) 8))
      exact (hf_all (wq_hf f0 (by decide) (wl_0 (wq_wl (k := 71) f1) (by decide)) (wl_0 (wq_wl (k := 135) f0) (by decide))) (show w_fi ws (n_v vs 14) 0 ≠ 0 from f2)).2.2.2
  refine ⟨(fun _ h => (by cases h)), [], trivial, ?_, (fun _ h => (by cases h))⟩
  rw [List.append_nil]
  exact List.forall_mem_cons.mpr ⟨⟨show (20 : Nat) < 100 from by decide, nf0⟩, (fun _ h => (by cases h))⟩
def o_Ho_draw_at_p_33 : or_T := (132, 18, [(0, (2, 0, 0, [12])), (1, (0, 0, 3, [])), (13, (2, 0, 0, [3])), (14, (2, 0, 0, [2]))], [(20, [0, 1, 14], [62, 135]), (20, [0, 1, 13], [62, 71]), (20, [14], [50, 1, 0, 0, 7, 3, 2, 0, 0, 0, 0])], [], [], [(20, [13, 14], [60, 1, 2, 671, 0, 14, 1004])], [], [])
theorem oo_Ho_draw_at_p_33 {kA : Nat → ClassId} : or_ok PRD kA GG o_Ho_draw_at_p_33 := by
  refine or_mk fun A ta ws vs hD hth hl => ?_
  intro t0 r0 t1 k1 t13 r13 t14 r14 f0 f1 f2
  replace f0 := shm_2132 f0
  replace f1 := shm_1819 f1
  replace f2 := shm_2130 f2
  have nf0 : fc_1 PRD (20, [13, 14], [60, 1, 2, 671, 0, 14, 1004]) ws (vs) := by
    refine ⟨nf_in hl rfl, sgq_419 ?_⟩
    · show PNC (w_fi ws (n_v vs 13) 0) (w_ei ws (w_ar ws (n_v vs 13) 14)) (w_ei ws (w_ar ws (n_v vs 14) 4))
      exact (hf_all (wq_hf f0 (by decide) (wl_0 (wq_wl (k := 71) f1) (by decide)) (wl_0 (wq_wl (k := 135) f0) (by decide))) (show w_fi ws (n_v vs 14) 0 ≠ 0 from f2)).1
  refine ⟨(fun _ h => (by cases h)), [], trivial, ?_, (fun _ h => (by cases h))⟩
  rw [List.append_nil]
  exact List.forall_mem_cons.mpr ⟨⟨show (20 : Nat) < 100 from by decide, nf0⟩, (fun _ h => (by cases h))⟩
def o_Ho_draw_at_p_34 : or_T := (132, 18, [(0, (2, 0, 0, [12])), (1, (0, 0, 3, [])), (13, (2, 0, 0, [3])), (14, (2, 0, 0, [2]))], [(20, [0, 1, 14], [62, 135]), (20, [0, 1, 13], [62, 71]), (20, [14], [50, 1, 0, 0, 7, 3, 2, 0, 0, 0, 0])], [], [], [(20, [13, 14], [60, 2, 1, 672, 0, 1001, 1004])], [], [])
theorem oo_Ho_draw_at_p_34 {kA : Nat → ClassId} : or_ok PRD kA GG o_Ho_draw_at_p_34 := by
  refine or_mk fun A ta ws vs hD hth hl => ?_
  intro t0 r0 t1 k1 t13 r13 t14 r14 f0 f1 f2
  replace f0 := shm_2132 f0
  replace f1 := shm_1819 f1
  replace f2 := shm_2130 f2
  have nf0 : fc_1 PRD (20, [13, 14], [60, 2, 1, 672, 0, 1001, 1004]) ws (vs) := by
    refine ⟨nf_in hl rfl, sgq_1179 ?_⟩
    · show FPA (w_fi ws (n_v vs 13) 0) (w_fi ws (n_v vs 14) 1) (w_ei ws (w_ar ws (n_v vs 14) 4))
      exact (hf_all (wq_hf f0 (by decide) (wl_0 (wq_wl (k := 71) f1) (by decide)) (wl_0 (wq_wl (k := 135) f0) (by decide))) (show w_fi ws (n_v vs 14) 0 ≠ 0 from f2)).2.1
  refine ⟨(fun _ h => (by cases h)), [], trivial, ?_, (fun _ h => (by cases h))⟩
  rw [List.append_nil]
  exact List.forall_mem_cons.mpr ⟨⟨show (20 : Nat) < 100 from by decide, nf0⟩, (fun _ h => (by cases h))⟩
def o_Ho_draw_at_p_35 : or_T := (132, 18, [(0, (2, 0, 0, [12])), (1, (0, 0, 3, [])), (13, (2, 0, 0, [3])), (14, (2, 0, 0, [2]))], [(20, [0, 1, 14], [62, 135]), (20, [0, 1, 13], [62, 71])], [], [], [(20, [13], [60, 2, 3, 670, 0, 1, 14, 7, 8])], [], [])
theorem oo_Ho_draw_at_p_35 {kA : Nat → ClassId} : or_ok PRD kA GG o_Ho_draw_at_p_35 := by
  refine or_mk fun A ta ws vs hD hth hl => ?_
  intro t0 r0 t1 k1 t13 r13 t14 r14 f0 f1
  replace f0 := shm_2132 f0
  replace f1 := shm_1819 f1
  have nf0 : fc_1 PRD (20, [13], [60, 2, 3, 670, 0, 1, 14, 7, 8]) ws (vs) := by
    refine ⟨nf_in hl rfl, sgq_825 ?_⟩
    · show GNB (w_fi ws (n_v vs 13) 0) (w_fi ws (n_v vs 13) 1) (w_ei ws (w_ar ws (n_v vs 13) 14)) (w_ei ws (w_ar ws (n_v vs 13) 7)) (w_ei ws (w_ar ws (n_v vs 13) 8))
      exact hg_gnb (wq_hg f0 (by decide) (wl_0 (wq_wl (k := 71) f1) (by decide)))
  refine ⟨(fun _ h => (by cases h)), [], trivial, ?_, (fun _ h => (by cases h))⟩
  rw [List.append_nil]
  exact List.forall_mem_cons.mpr ⟨⟨show (20 : Nat) < 100 from by decide, nf0⟩, (fun _ h => (by cases h))⟩
def o_Ho_draw_at_p_36 : or_T := (132, 18, [(0, (2, 0, 0, [12])), (1, (0, 0, 3, [])), (13, (2, 0, 0, [3])), (14, (2, 0, 0, [2]))], [(20, [0, 1, 14], [62, 135]), (20, [0, 1, 13], [62, 71])], [], [], [(20, [13], [60, 2, 2, 596, 0, 1, 7, 8])], [], [])
theorem oo_Ho_draw_at_p_36 {kA : Nat → ClassId} : or_ok PRD kA GG o_Ho_draw_at_p_36 := by
  refine or_mk fun A ta ws vs hD hth hl => ?_
  intro t0 r0 t1 k1 t13 r13 t14 r14 f0 f1
  replace f0 := shm_2132 f0
  replace f1 := shm_1819 f1
  have nf0 : fc_1 PRD (20, [13], [60, 2, 2, 596, 0, 1, 7, 8]) ws (vs) := by
    refine ⟨nf_in hl rfl, sgq_386 ?_⟩
    · show GKE (w_fi ws (n_v vs 13) 0) (w_fi ws (n_v vs 13) 1) (w_ei ws (w_ar ws (n_v vs 13) 7)) (w_ei ws (w_ar ws (n_v vs 13) 8))
      exact hg_gke (wq_hg f0 (by decide) (wl_0 (wq_wl (k := 71) f1) (by decide)))
  refine ⟨(fun _ h => (by cases h)), [], trivial, ?_, (fun _ h => (by cases h))⟩
  rw [List.append_nil]
  exact List.forall_mem_cons.mpr ⟨⟨show (20 : Nat) < 100 from by decide, nf0⟩, (fun _ h => (by cases h))⟩
set_option maxHeartbeats 4000000 in
theorem vc_Ho_draw_at_p_37_0 (nodes_0o8 : Int) (f10 : 1 ≤ nodes_0o8) (kz_8_0 : 0 ≤ nodes_0o8 ∧ nodes_0o8 ≤ 24) : 1 ≤ nodes_0o8 := by
  first | omega
set_option maxHeartbeats 4000000 in
theorem vc_Ho_draw_at_p_37_2 (x4 : Int) (gy : Int) (k4 : 0 ≤ x4 ∧ x4 ≤ 3066) (ey2 : gy = x4) : 1 * gy + ((-1) * x4 + 0) ≤ 0 := by
  first | omega
set_option maxHeartbeats 4000000 in
theorem vc_Ho_draw_at_p_37_3 (x4 : Int) (gy : Int) (k4 : 0 ≤ x4 ∧ x4 ≤ 3066) (ey2 : gy = x4) : (-1) * gy + (1 * x4 + 0) ≤ 0 := by
  first | omega
set_option maxHeartbeats 4000000 in
theorem vc_Ho_draw_at_p_37_4 (nodes_0o8 : Int) (near_0o8 : Int → Int) (f7 : SYG (nodes_0o8) (near_0o8)) (kz_8_0 : 0 ≤ nodes_0o8 ∧ nodes_0o8 ≤ 24) : SYG (nodes_0o8) (near_0o8) := by
  first | assumption
set_option maxHeartbeats 4000000 in
theorem vc_Ho_draw_at_p_37_5 (edges_0o8 : Int) (blocks_0o14 : Int) (faceOf_0o15 : Int → Int) (planar_0o15 : Int) (f6 : PLB (planar_0o15) (edges_0o8) (blocks_0o14) (faceOf_0o15)) (kz_8_1 : 0 ≤ edges_0o8 ∧ edges_0o8 ≤ 48) (kz_14_2 : 0 ≤ blocks_0o14 ∧ blocks_0o14 ≤ 48) (kz_15_0 : (-1) ≤ planar_0o15 ∧ planar_0o15 ≤ 1) : PLB (planar_0o15) (edges_0o8) (blocks_0o14) (faceOf_0o15) := by
  first | assumption
set_option maxHeartbeats 4000000 in
theorem vc_Ho_draw_at_p_37_6 (nodes_0o8 : Int) (tail_0o8 : Int → Int) (head_0o8 : Int → Int) (edges_0o8 : Int) (near_0o8 : Int → Int) (blocks_0o14 : Int) (f5 : BKS (nodes_0o8) (edges_0o8) (blocks_0o14) (near_0o8) (tail_0o8) (head_0o8)) (kz_8_0 : 0 ≤ nodes_0o8 ∧ nodes_0o8 ≤ 24) (kz_8_1 : 0 ≤ edges_0o8 ∧ edges_0o8 ≤ 48) (kz_14_2 : 0 ≤ blocks_0o14 ∧ blocks_0o14 ≤ 48) : BKS (nodes_0o8) (edges_0o8) (blocks_0o14) (near_0o8) (tail_0o8) (head_0o8) := by
  first | assumption
set_option maxHeartbeats 4000000 in
theorem vc_Ho_draw_at_p_37_7 (nodes_0o8 : Int) (near_0o8 : Int → Int) (part_0o14 : Int → Int) (f4 : PNC (nodes_0o8) (near_0o8) (part_0o14)) (kz_8_0 : 0 ≤ nodes_0o8 ∧ nodes_0o8 ≤ 24) : PNC (nodes_0o8) (near_0o8) (part_0o14) := by
  first | assumption
set_option maxHeartbeats 4000000 in
theorem vc_Ho_draw_at_p_37_8 (nodes_0o8 : Int) (part_0o14 : Int → Int) (parts_0o14 : Int) (f3 : FPA (nodes_0o8) (parts_0o14) (part_0o14)) (kz_8_0 : 0 ≤ nodes_0o8 ∧ nodes_0o8 ≤ 24) (kz_14_1 : 0 ≤ parts_0o14 ∧ parts_0o14 ≤ 24) : FPA (nodes_0o8) (parts_0o14) (part_0o14) := by
  first | assumption
set_option maxHeartbeats 4000000 in
theorem vc_Ho_draw_at_p_37_9 (nodes_0o8 : Int) (tail_0o8 : Int → Int) (head_0o8 : Int → Int) (edges_0o8 : Int) (near_0o8 : Int → Int) (f2 : GNB (nodes_0o8) (edges_0o8) (near_0o8) (tail_0o8) (head_0o8)) (kz_8_0 : 0 ≤ nodes_0o8 ∧ nodes_0o8 ≤ 24) (kz_8_1 : 0 ≤ edges_0o8 ∧ edges_0o8 ≤ 48) : GNB (nodes_0o8) (edges_0o8) (near_0o8) (tail_0o8) (head_0o8) := by
  first | assumption
set_option maxHeartbeats 4000000 in
theorem vc_Ho_draw_at_p_37_10 (nodes_0o8 : Int) (tail_0o8 : Int → Int) (head_0o8 : Int → Int) (edges_0o8 : Int) (f1 : GKE (nodes_0o8) (edges_0o8) (tail_0o8) (head_0o8)) (kz_8_0 : 0 ≤ nodes_0o8 ∧ nodes_0o8 ≤ 24) (kz_8_1 : 0 ≤ edges_0o8 ∧ edges_0o8 ≤ 48) : GKE (nodes_0o8) (edges_0o8) (tail_0o8) (head_0o8) := by
  first | assumption
def o_Ho_draw_at_p_37 : or_T := (132, 18, [(0, (2, 0, 0, [12])), (4, (0, 0, 3066, [])), (8, (2, 0, 0, [3])), (9, (0, 1, 24, [])), (13, (2, 0, 0, [3])), (14, (2, 0, 0, [2])), (15, (2, 0, 0, [5])), (17, (2, 0, 0, [0]))], [(9, [9, 8], [0]), (20, [13], [60, 2, 2, 596, 0, 1, 7, 8]), (20, [13], [60, 2, 3, 670, 0, 1, 14, 7, 8]), (20, [13, 14], [60, 2, 1, 672, 0, 1001, 1004]), (20, [13, 14], [60, 1, 2, 671, 0, 14, 1004]), (20, [13, 14], [60, 3, 3, 673, 0, 1, 1002, 14, 7, 8]), (20, [15, 13, 14], [60, 3, 1, 644, 0, 1001, 2002, 16]), (20, [13], [60, 1, 1, 637, 0, 14]), (20, [0, 4, 17], [62, 2000000]), (24, [8, 13], []), (20, [8], [50, 1, 0, 0, 0, 2, 0, 1, 2, 0, 0]), (20, [14], [50, 1, 0, 0, 7, 3, 2, 0, 0, 0, 0]), (20, [15], [50, 1, 0, 0, 0, 2, 0, 0, 2, 0, 0]), (102, [14], [712230049778071777201162559065590005831303168, 1000, 1005, 1006, 1007, 1015, 1016, 1017, 1018, 5000, 5002, 5003, 5005, 5006, 5013, 149005, 149006, 149013]), (102, [13], [281337537757184, 2000, 2001, 2002, 2003]), (101, [0, 12], [18]), (102, [11], [0, 301000, 301001, 301002, 301003, 301004, 301005, 301006, 301007, 301008, 305000, 305001, 305002, 305003, 305004, 305005, 305006, 305007, 305008, 305009, 305010, 305011, 305012, 305013, 305014, 305015, 305016]), (8, [9], [1])], [], [(2, 0, 0, [12]), (0, 0, 3066, [])], [(20, [13], [50, 1, 0, 0, 0, 2, 0, 1, 2, 0, 0]), (24, [0, 18], []), (23, [19, 4], [0, 1, -1]), (23, [19, 4], [0, -1, 1]), (20, [13], [60, 1, 1, 637, 0, 14]), (20, [15, 13, 14], [60, 3, 1, 644, 0, 1001, 2002, 16]), (20, [13, 14], [60, 3, 3, 673, 0, 1, 1002, 14, 7, 8]), (20, [13, 14], [60, 1, 2, 671, 0, 14, 1004]), (20, [13, 14], [60, 2, 1, 672, 0, 1001, 1004]), (20, [13], [60, 2, 3, 670, 0, 1, 14, 7, 8]), (20, [13], [60, 2, 2, 596, 0, 1, 7, 8]), (20, [18, 19, 17], [62, 2000000])], [], [])
theorem oo_Ho_draw_at_p_37 {kA : Nat → ClassId} : or_ok PRD kA GG o_Ho_draw_at_p_37 := by
  refine or_mk fun A ta ws vs hD hth hl => ?_
  intro t0 r0 t4 k4 t8 r8 t9 k9 t13 r13 t14 r14 t15 r15 t17 r17 f0 f1 f2 f3 f4 f5 f6 f7 f8 f9 f10 f11 f12 ta1 w1 le1 s1 ta2 w2 le2 s2 ta3 w3 le3 s3 ta4 w4 le4 s4 f17
  replace f0 := shm_163 f0
  replace f1 := shm_386 f1
  replace f2 := shm_825 f2
  replace f3 := shm_1179 f3
  replace f4 := shm_419 f4
  replace f5 := shm_2131 f5
  replace f6 := shm_2243 f6
  replace f7 := shm_1792 f7
  replace f8 := shm_1399 f8
  replace f9 := shm_5 f9
  replace f10 := shm_1220 f10
  replace f11 := shm_2130 f11
  replace f12 := shm_1616 f12
  have s3 : (∀ b j, w_el w2 b j = w_el w3 b j) ∧ ∀ b j, w_fd w2 b j = if b = v_ad (n_v vs 0) ∧ j = 18 then n_v vs 12 else w_fd w3 b j := s3.2
  replace f17 := shm_142 f17
  have q13 : n_v vs 13 = n_v vs 8 := f9.symm
  simp only [q13] at f1 f2 f3 f4 f5 f6 f7
  have cr_8_7 := fdq_46 hD hth r8
  have cr_8_8 := fdq_47 hD hth r8
  have cr_8_14 := fdq_75 hD hth r8
  have cr_14_4 := fdq_87 hD hth r14
  have cr_15_16 := fdq_91 hD hth r15
  have g0 : v_iv (n_v vs 9) = w_fi ws (n_v vs 8) 0 := congrArg v_iv f0
  have hK_8_7 := elq_11 hD hth cr_8_7
  have hK_8_8 := elq_12 hD hth cr_8_8
  have hK_8_14 := elq_25 hD hth cr_8_14
  have hK_14_4 := elq_29 hD hth cr_14_4
  have hK_15_16 := elq_47 hD hth cr_15_16
  have kz_8_0 := fdq_21 hD hth r8
  have kz_8_1 := fdq_30 hD hth r8
  have kz_14_0 := fdq_294 hD hth r14
  have kz_14_1 := fdq_278 hD hth r14
  have kz_14_2 := fdq_295 hD hth r14
  have kz_15_0 := fdq_78 hD hth r15
  obtain ⟨y, ey, hy⟩ := iv_ex (ta := ta) (lo := 0) (hi := 3066) (z := v_iv (n_v vs 4)) (by omega) (by omega) (by omega) (by omega)
  have ey2 : v_iv (Value.int y) = v_iv (n_v vs 4) := ey
  have ey3 : 0 ≤ v_iv (Value.int y) ∧ v_iv (Value.int y) ≤ 3066 := tv_rng hy
  have e_0 : n_v (vs ++ [n_v vs 0, Value.int y]) 0 = n_v vs 0 := n_v_old (by rw [hl]; decide)
  have e_4 : n_v (vs ++ [n_v vs 0, Value.int y]) 4 = n_v vs 4 := n_v_old (by rw [hl]; decide)
  have e_13 : n_v (vs ++ [n_v vs 0, Value.int y]) 13 = n_v vs 13 := n_v_old (by rw [hl]; decide)
  have e_14 : n_v (vs ++ [n_v vs 0, Value.int y]) 14 = n_v vs 14 := n_v_old (by rw [hl]; decide)
  have e_15 : n_v (vs ++ [n_v vs 0, Value.int y]) 15 = n_v vs 15 := n_v_old (by rw [hl]; decide)
  have e_17 : n_v (vs ++ [n_v vs 0, Value.int y]) 17 = n_v vs 17 := n_v_old (by rw [hl]; decide)
  have e_18 : n_v (vs ++ [n_v vs 0, Value.int y]) 18 = n_v vs 0 := n_v_new0 hl
  have e_19 : n_v (vs ++ [n_v vs 0, Value.int y]) 19 = Value.int y := n_v_new1 hl
  have nf0 : fc_1 PRD (20, [13], [50, 1, 0, 0, 0, 2, 0, 1, 2, 0, 0]) ws (vs ++ [n_v vs 0, Value.int y]) := by
    refine ⟨nf_inA hl rfl, sgq_1220 ?_⟩
    · show 1 ≤ w_fi ws (n_v (vs ++ [n_v vs 0, Value.int y]) 13) 0
      simp only [e_13, q13]
      exact vc_Ho_draw_at_p_37_0 (w_fi ws (n_v vs 8) 0) f10 kz_8_0
  have nf1 : fc_1 PRD (24, [0, 18], []) ws (vs ++ [n_v vs 0, Value.int y]) := by
    refine ⟨nf_inA hl rfl, sgq_5 ?_⟩
    · show n_v (vs ++ [n_v vs 0, Value.int y]) 0 = n_v (vs ++ [n_v vs 0, Value.int y]) 18
      first | rfl | simp only [e_0, e_18, q13]
  have nf2 : fc_1 PRD (23, [19, 4], [0, 1, -1]) ws (vs ++ [n_v vs 0, Value.int y]) := by
    refine ⟨nf_inA hl rfl, sgq_7 ?_⟩
    · show 1 * v_iv (n_v (vs ++ [n_v vs 0, Value.int y]) 19) + ((-1) * v_iv (n_v (vs ++ [n_v vs 0, Value.int y]) 4) + 0) ≤ 0
      simp only [e_4, e_19]
      exact vc_Ho_draw_at_p_37_2 (v_iv (n_v vs 4)) (v_iv (Value.int y)) k4 ey2
  have nf3 : fc_1 PRD (23, [19, 4], [0, -1, 1]) ws (vs ++ [n_v vs 0, Value.int y]) := by
    refine ⟨nf_inA hl rfl, sgq_22 ?_⟩
    · show (-1) * v_iv (n_v (vs ++ [n_v vs 0, Value.int y]) 19) + (1 * v_iv (n_v (vs ++ [n_v vs 0, Value.int y]) 4) + 0) ≤ 0
      simp only [e_4, e_19]
      exact vc_Ho_draw_at_p_37_3 (v_iv (n_v vs 4)) (v_iv (Value.int y)) k4 ey2
  have nf4 : fc_1 PRD (20, [13], [60, 1, 1, 637, 0, 14]) ws (vs ++ [n_v vs 0, Value.int y]) := by
    refine ⟨nf_inA hl rfl, sgq_1792 ?_⟩
    · show SYG (w_fi ws (n_v (vs ++ [n_v vs 0, Value.int y]) 13) 0) (w_ei ws (w_ar ws (n_v (vs ++ [n_v vs 0, Value.int y]) 13) 14))
      simp only [e_13, q13]
      exact vc_Ho_draw_at_p_37_4 (w_fi ws (n_v vs 8) 0) (w_ei ws (w_ar ws (n_v vs 8) 14)) f7 kz_8_0
  have nf5 : fc_1 PRD (20, [15, 13, 14], [60, 3, 1, 644, 0, 1001, 2002, 16]) ws (vs ++ [n_v vs 0, Value.int y]) := by
    refine ⟨nf_inA hl rfl, sgq_2243 ?_⟩
    · show PLB (w_fi ws (n_v (vs ++ [n_v vs 0, Value.int y]) 15) 0) (w_fi ws (n_v (vs ++ [n_v vs 0, Value.int y]) 13) 1) (w_fi ws (n_v (vs ++ [n_v vs 0, Value.int y]) 14) 2) (w_ei ws (w_ar ws (n_v (vs ++ [n_v vs 0, Value.int y]) 15) 16))
      simp only [e_13, e_14, e_15, q13]
      exact vc_Ho_draw_at_p_37_5 (w_fi ws (n_v vs 8) 1) (w_fi ws (n_v vs 14) 2) (w_ei ws (w_ar ws (n_v vs 15) 16)) (w_fi ws (n_v vs 15) 0) f6 kz_8_1 kz_14_2 kz_15_0
  have nf6 : fc_1 PRD (20, [13, 14], [60, 3, 3, 673, 0, 1, 1002, 14, 7, 8]) ws (vs ++ [n_v vs 0, Value.int y]) := by
    refine ⟨nf_inA hl rfl, sgq_2131 ?_⟩
    · show BKS (w_fi ws (n_v (vs ++ [n_v vs 0, Value.int y]) 13) 0) (w_fi ws (n_v (vs ++ [n_v vs 0, Value.int y]) 13) 1) (w_fi ws (n_v (vs ++ [n_v vs 0, Value.int y]) 14) 2) (w_ei ws (w_ar ws (n_v (vs ++ [n_v vs 0, Value.int y]) 13) 14)) (w_ei ws (w_ar ws (n_v (vs ++ [n_v vs 0, Value.int y]) 13) 7)) (w_ei ws (w_ar ws (n_v (vs ++ [n_v vs 0, Value.int y]) 13) 8))
      simp only [e_13, e_14, q13]
      exact vc_Ho_draw_at_p_37_6 (w_fi ws (n_v vs 8) 0) (w_ei ws (w_ar ws (n_v vs 8) 7)) (w_ei ws (w_ar ws (n_v vs 8) 8)) (w_fi ws (n_v vs 8) 1) (w_ei ws (w_ar ws (n_v vs 8) 14)) (w_fi ws (n_v vs 14) 2) f5 kz_8_0 kz_8_1 kz_14_2
  have nf7 : fc_1 PRD (20, [13, 14], [60, 1, 2, 671, 0, 14, 1004]) ws (vs ++ [n_v vs 0, Value.int y]) := by
    refine ⟨nf_inA hl rfl, sgq_419 ?_⟩
    · show PNC (w_fi ws (n_v (vs ++ [n_v vs 0, Value.int y]) 13) 0) (w_ei ws (w_ar ws (n_v (vs ++ [n_v vs 0, Value.int y]) 13) 14)) (w_ei ws (w_ar ws (n_v (vs ++ [n_v vs 0, Value.int y]) 14) 4))
      simp only [e_13, e_14, q13]
      exact vc_Ho_draw_at_p_37_7 (w_fi ws (n_v vs 8) 0) (w_ei ws (w_ar ws (n_v vs 8) 14)) (w_ei ws (w_ar ws (n_v vs 14) 4)) f4 kz_8_0
  have nf8 : fc_1 PRD (20, [13, 14], [60, 2, 1, 672, 0, 1001, 1004]) ws (vs ++ [n_v vs 0, Value.int y]) := by
    refine ⟨nf_inA hl rfl, sgq_1179 ?_⟩
    · show FPA (w_fi ws (n_v (vs ++ [n_v vs 0, Value.int y]) 13) 0) (w_fi ws (n_v (vs ++ [n_v vs 0, Value.int y]) 14) 1) (w_ei ws (w_ar ws (n_v (vs ++ [n_v vs 0, Value.int y]) 14) 4))
      simp only [e_13, e_14, q13]
      exact vc_Ho_draw_at_p_37_8 (w_fi ws (n_v vs 8) 0) (w_ei ws (w_ar ws (n_v vs 14) 4)) (w_fi ws (n_v vs 14) 1) f3 kz_8_0 kz_14_1
  have nf9 : fc_1 PRD (20, [13], [60, 2, 3, 670, 0, 1, 14, 7, 8]) ws (vs ++ [n_v vs 0, Value.int y]) := by
    refine ⟨nf_inA hl rfl, sgq_825 ?_⟩
    · show GNB (w_fi ws (n_v (vs ++ [n_v vs 0, Value.int y]) 13) 0) (w_fi ws (n_v (vs ++ [n_v vs 0, Value.int y]) 13) 1) (w_ei ws (w_ar ws (n_v (vs ++ [n_v vs 0, Value.int y]) 13) 14)) (w_ei ws (w_ar ws (n_v (vs ++ [n_v vs 0, Value.int y]) 13) 7)) (w_ei ws (w_ar ws (n_v (vs ++ [n_v vs 0, Value.int y]) 13) 8))
      simp only [e_13, q13]
      exact vc_Ho_draw_at_p_37_9 (w_fi ws (n_v vs 8) 0) (w_ei ws (w_ar ws (n_v vs 8) 7)) (w_ei ws (w_ar ws (n_v vs 8) 8)) (w_fi ws (n_v vs 8) 1) (w_ei ws (w_ar ws (n_v vs 8) 14)) f2 kz_8_0 kz_8_1
  have nf10 : fc_1 PRD (20, [13], [60, 2, 2, 596, 0, 1, 7, 8]) ws (vs ++ [n_v vs 0, Value.int y]) := by
    refine ⟨nf_inA hl rfl, sgq_386 ?_⟩
    · show GKE (w_fi ws (n_v (vs ++ [n_v vs 0, Value.int y]) 13) 0) (w_fi ws (n_v (vs ++ [n_v vs 0, Value.int y]) 13) 1) (w_ei ws (w_ar ws (n_v (vs ++ [n_v vs 0, Value.int y]) 13) 7)) (w_ei ws (w_ar ws (n_v (vs ++ [n_v vs 0, Value.int y]) 13) 8))
      simp only [e_13, q13]
      exact vc_Ho_draw_at_p_37_10 (w_fi ws (n_v vs 8) 0) (w_ei ws (w_ar ws (n_v vs 8) 7)) (w_ei ws (w_ar ws (n_v vs 8) 8)) (w_fi ws (n_v vs 8) 1) f1 kz_8_0 kz_8_1
  have nf11 : fc_1 PRD (20, [18, 19, 17], [62, 2000000]) ws (vs ++ [n_v vs 0, Value.int y]) := by
    refine ⟨nf_inA hl rfl, sgq_1399 ?_⟩
    · show HY ws (n_v (vs ++ [n_v vs 0, Value.int y]) 18) (v_iv (n_v (vs ++ [n_v vs 0, Value.int y]) 19) + (((2000000 : Nat) : Int) - 2000000)) ∧ HYD ws (n_v (vs ++ [n_v vs 0, Value.int y]) 18) (n_v (vs ++ [n_v vs 0, Value.int y]) 17)
      simp only [e_17, e_18, e_19]
      exact ⟨hy_le f8.1 (by omega), f8.2⟩
  exact ⟨(fun _ h => (by cases h)), [n_v vs 0, Value.int y], ag_two t0 hy, List.forall_mem_cons.mpr ⟨⟨show (20 : Nat) < 100 from by decide, nf0⟩, List.forall_mem_cons.mpr ⟨⟨show (24 : Nat) < 100 from by decide, nf1⟩, List.forall_mem_cons.mpr ⟨⟨show (23 : Nat) < 100 from by decide, nf2⟩, List.forall_mem_cons.mpr ⟨⟨show (23 : Nat) < 100 from by decide, nf3⟩, List.forall_mem_cons.mpr ⟨⟨show (20 : Nat) < 100 from by decide, nf4⟩, List.forall_mem_cons.mpr ⟨⟨show (20 : Nat) < 100 from by decide, nf5⟩, List.forall_mem_cons.mpr ⟨⟨show (20 : Nat) < 100 from by decide, nf6⟩, List.forall_mem_cons.mpr ⟨⟨show (20 : Nat) < 100 from by decide, nf7⟩, List.forall_mem_cons.mpr ⟨⟨show (20 : Nat) < 100 from by decide, nf8⟩, List.forall_mem_cons.mpr ⟨⟨show (20 : Nat) < 100 from by decide, nf9⟩, List.forall_mem_cons.mpr ⟨⟨show (20 : Nat) < 100 from by decide, nf10⟩, List.forall_mem_cons.mpr ⟨⟨show (20 : Nat) < 100 from by decide, nf11⟩, (fun _ h => (by cases h))⟩⟩⟩⟩⟩⟩⟩⟩⟩⟩⟩⟩, (fun _ h => (by cases h))⟩
def o_Ho_draw_at_p_38 : or_T := (203, 21, [(0, (2, 0, 0, [12])), (4, (0, 0, 3066, [])), (8, (2, 0, 0, [3])), (9, (0, 1, 24, [])), (13, (2, 0, 0, [3])), (14, (2, 0, 0, [2])), (15, (2, 0, 0, [5])), (18, (2, 0, 0, [12])), (19, (0, 0, 3066, []))], [(9, [9, 8], [0]), (20, [13], [50, 1, 0, 0, 0, 2, 0, 1, 2, 0, 0]), (24, [0, 18], []), (23, [19, 4], [0, 1, -1]), (23, [19, 4], [0, -1, 1]), (20, [13], [60, 1, 1, 637, 0, 14]), (20, [15, 13, 14], [60, 3, 1, 644, 0, 1001, 2002, 16]), (20, [13, 14], [60, 3, 3, 673, 0, 1, 1002, 14, 7, 8]), (20, [13, 14], [60, 1, 2, 671, 0, 14, 1004]), (20, [13, 14], [60, 2, 1, 672, 0, 1001, 1004]), (20, [13], [60, 2, 3, 670, 0, 1, 14, 7, 8]), (20, [13], [60, 2, 2, 596, 0, 1, 7, 8]), (20, [13], [60, 2, 2, 596, 0, 1, 7, 8]), (20, [13], [60, 2, 3, 670, 0, 1, 14, 7, 8]), (20, [13, 14], [60, 2, 1, 672, 0, 1001, 1004]), (20, [13, 14], [60, 1, 2, 671, 0, 14, 1004]), (20, [13, 14], [60, 3, 3, 673, 0, 1, 1002, 14, 7, 8]), (20, [15, 13, 14], [60, 3, 1, 644, 0, 1001, 2002, 16]), (20, [13], [60, 1, 1, 637, 0, 14]), (24, [8, 13], []), (20, [8], [50, 1, 0, 0, 0, 2, 0, 1, 2, 0, 0]), (20, [14], [50, 1, 0, 0, 7, 3, 2, 0, 0, 0, 0]), (20, [15], [50, 1, 0, 0, 0, 2, 0, 0, 2, 0, 0]), (20, [18, 19], [62, 2000006]), (102, [19], [31766521725675121767675041100378181161416636632180585452153603028966503407635894593110016, 7003, 294005, 294006, 294013]), (23, [19, 4], [0, 1, -1]), (23, [19, 4], [0, -1, 1]), (102, [14], [712230049778071777201162559065590005831303168, 1000, 1005, 1006, 1007, 1015, 1016, 1017, 1018, 5000, 5002, 5003, 5005, 5006, 5013, 149005, 149006, 149013]), (102, [13], [281337537757184, 2000, 2001, 2002, 2003]), (101, [0, 12], [18]), (102, [11], [0, 301000, 301001, 301002, 301003, 301004, 301005, 301006, 301007, 301008, 305000, 305001, 305002, 305003, 305004, 305005, 305006, 305007, 305008, 305009, 305010, 305011, 305012, 305013, 305014, 305015, 305016]), (8, [9], [1])], [], [], [(20, [0, 4], [62, 2000006])], [], [])
theorem oo_Ho_draw_at_p_38 {kA : Nat → ClassId} : or_ok PRD kA GG o_Ho_draw_at_p_38 := by
  refine or_mk fun A ta ws vs hD hth hl => ?_
  intro t0 r0 t4 k4 t8 r8 t9 k9 t13 r13 t14 r14 t15 r15 t18 r18 t19 k19 f0 f1 f2 f3 f4 f5 f6 f7 f8 f9 f10 f11 f12 f13 f14 f15 f16 f17 f18 f19 f20 f21 f22 f23 ta1 w1 le1 s1 f25 f26 ta2 w2 le2 s2 ta3 w3 le3 s3 ta4 w4 le4 s4 ta5 w5 le5 s5 f31
  replace f0 := shm_163 f0
  replace f1 := shm_1220 f1
  replace f2 := shm_5 f2
  replace f3 := shm_7 f3
  replace f4 := shm_22 f4
  replace f5 := shm_1792 f5
  replace f6 := shm_2243 f6
  replace f7 := shm_2131 f7
  replace f8 := shm_419 f8
  replace f9 := shm_1179 f9
  replace f10 := shm_825 f10
  replace f11 := shm_386 f11
  replace f12 := shm_386 f12
  replace f13 := shm_825 f13
  replace f14 := shm_1179 f14
  replace f15 := shm_419 f15
  replace f16 := shm_2131 f16
  replace f17 := shm_2243 f17
  replace f18 := shm_1792 f18
  replace f19 := shm_5 f19
  replace f20 := shm_1220 f20
  replace f21 := shm_2130 f21
  replace f22 := shm_1616 f22
  replace f23 := shm_270 f23
  replace f25 := shm_7 f25
  replace f26 := shm_22 f26
  have s4 : (∀ b j, w_el w3 b j = w_el w4 b j) ∧ ∀ b j, w_fd w3 b j = if b = v_ad (n_v vs 0) ∧ j = 18 then n_v vs 12 else w_fd w4 b j := s4.2
  replace f31 := shm_142 f31
  have q18 : n_v vs 18 = n_v vs 0 := f2.symm
  have q13 : n_v vs 13 = n_v vs 8 := f19.symm
  simp only [q13, q18] at f1 f5 f6 f7 f8 f9 f10 f11 f12 f13 f14 f15 f16 f17 f18 f23
  have cr_8_7 := fdq_46 hD hth r8
  have cr_8_8 := fdq_47 hD hth r8
  have cr_8_14 := fdq_75 hD hth r8
  have cr_14_4 := fdq_87 hD hth r14
  have cr_15_16 := fdq_91 hD hth r15
  have g0 : v_iv (n_v vs 9) = w_fi ws (n_v vs 8) 0 := congrArg v_iv f0
  have hK_8_7 := elq_11 hD hth cr_8_7
  have hK_8_8 := elq_12 hD hth cr_8_8
  have hK_8_14 := elq_25 hD hth cr_8_14
  have hK_14_4 := elq_29 hD hth cr_14_4
  have hK_15_16 := elq_47 hD hth cr_15_16
  have kz_8_0 := fdq_21 hD hth r8
  have kz_8_1 := fdq_30 hD hth r8
  have kz_14_0 := fdq_294 hD hth r14
  have kz_14_1 := fdq_278 hD hth r14
  have kz_14_2 := fdq_295 hD hth r14
  have kz_15_0 := fdq_78 hD hth r15
  have nf0 : fc_1 PRD (20, [0, 4], [62, 2000006]) ws (vs) := by
    refine ⟨nf_in hl rfl, sgq_270 ?_⟩
    · show HY ws (n_v vs 0) (v_iv (n_v vs 4) + (((2000006 : Nat) : Int) - 2000000))
      exact hy_le f23 (by omega)
  refine ⟨(fun _ h => (by cases h)), [], trivial, ?_, (fun _ h => (by cases h))⟩
  rw [List.append_nil]
  exact List.forall_mem_cons.mpr ⟨⟨show (20 : Nat) < 100 from by decide, nf0⟩, (fun _ h => (by cases h))⟩
def o_Ho_draw_at_p_39 : or_T := (203, 22, [(0, (2, 0, 0, [12])), (4, (0, 0, 3066, [])), (8, (2, 0, 0, [3])), (9, (0, 1, 24, [])), (13, (2, 0, 0, [3])), (14, (2, 0, 0, [2])), (15, (2, 0, 0, [5])), (18, (2, 0, 0, [12])), (19, (0, 0, 3066, [])), (21, (2, 0, 0, [0]))], [(9, [9, 8], [0]), (20, [13], [50, 1, 0, 0, 0, 2, 0, 1, 2, 0, 0]), (24, [0, 18], []), (23, [19, 4], [0, 1, -1]), (23, [19, 4], [0, -1, 1]), (20, [13], [60, 1, 1, 637, 0, 14]), (20, [15, 13, 14], [60, 3, 1, 644, 0, 1001, 2002, 16]), (20, [13, 14], [60, 3, 3, 673, 0, 1, 1002, 14, 7, 8]), (20, [13, 14], [60, 1, 2, 671, 0, 14, 1004]), (20, [13, 14], [60, 2, 1, 672, 0, 1001, 1004]), (20, [13], [60, 2, 3, 670, 0, 1, 14, 7, 8]), (20, [13], [60, 2, 2, 596, 0, 1, 7, 8]), (20, [13], [60, 2, 2, 596, 0, 1, 7, 8]), (20, [13], [60, 2, 3, 670, 0, 1, 14, 7, 8]), (20, [13, 14], [60, 2, 1, 672, 0, 1001, 1004]), (20, [13, 14], [60, 1, 2, 671, 0, 14, 1004]), (20, [13, 14], [60, 3, 3, 673, 0, 1, 1002, 14, 7, 8]), (20, [15, 13, 14], [60, 3, 1, 644, 0, 1001, 2002, 16]), (20, [13], [60, 1, 1, 637, 0, 14]), (24, [8, 13], []), (20, [8], [50, 1, 0, 0, 0, 2, 0, 1, 2, 0, 0]), (20, [14], [50, 1, 0, 0, 7, 3, 2, 0, 0, 0, 0]), (20, [15], [50, 1, 0, 0, 0, 2, 0, 0, 2, 0, 0]), (20, [18, 19], [62, 2000006]), (101, [21, 2], [1]), (20, [13], [50, 1, 0, 0, 0, 2, 0, 1, 2, 0, 0]), (23, [19, 4], [0, 1, -1]), (23, [19, 4], [0, -1, 1]), (20, [13], [60, 1, 1, 637, 0, 14]), (20, [15, 13, 14], [60, 3, 1, 644, 0, 1001, 2002, 16]), (20, [13, 14], [60, 3, 3, 673, 0, 1, 1002, 14, 7, 8]), (20, [13, 14], [60, 1, 2, 671, 0, 14, 1004]), (20, [13, 14], [60, 2, 1, 672, 0, 1001, 1004]), (20, [13], [60, 2, 3, 670, 0, 1, 14, 7, 8]), (20, [13], [60, 2, 2, 596, 0, 1, 7, 8]), (20, [13], [60, 2, 2, 596, 0, 1, 7, 8]), (20, [13], [60, 2, 3, 670, 0, 1, 14, 7, 8]), (20, [13, 14], [60, 2, 1, 672, 0, 1001, 1004]), (20, [13, 14], [60, 1, 2, 671, 0, 14, 1004]), (20, [13, 14], [60, 3, 3, 673, 0, 1, 1002, 14, 7, 8]), (20, [15, 13, 14], [60, 3, 1, 644, 0, 1001, 2002, 16]), (20, [13], [60, 1, 1, 637, 0, 14]), (20, [8], [50, 1, 0, 0, 0, 2, 0, 1, 2, 0, 0]), (20, [14], [50, 1, 0, 0, 7, 3, 2, 0, 0, 0, 0]), (20, [15], [50, 1, 0, 0, 0, 2, 0, 0, 2, 0, 0]), (102, [19], [31766521725675121767675041100378181161416636632180585452153603028966503407635894593110016, 7003, 294005, 294006, 294013]), (23, [19, 4], [0, 1, -1]), (23, [19, 4], [0, -1, 1]), (102, [14], [712230049778071777201162559065590005831303168, 1000, 1005, 1006, 1007, 1015, 1016, 1017, 1018, 5000, 5002, 5003, 5005, 5006, 5013, 149005, 149006, 149013]), (102, [13], [281337537757184, 2000, 2001, 2002, 2003]), (101, [0, 12], [18]), (102, [11], [0, 301000, 301001, 301002, 301003, 301004, 301005, 301006, 301007, 301008, 305000, 305001, 305002, 305003, 305004, 305005, 305006, 305007, 305008, 305009, 305010, 305011, 305012, 305013, 305014, 305015, 305016]), (8, [9], [1])], [], [], [(20, [0, 4], [62, 2000006])], [], [])
theorem oo_Ho_draw_at_p_39 {kA : Nat → ClassId} : or_ok PRD kA GG o_Ho_draw_at_p_39 := by
  refine or_mk fun A ta ws vs hD hth hl => ?_
  intro t0 r0 t4 k4 t8 r8 t9 k9 t13 r13 t14 r14 t15 r15 t18 r18 t19 k19 t21 r21 f0 f1 f2 f3 f4 f5 f6 f7 f8 f9 f10 f11 f12 f13 f14 f15 f16 f17 f18 f19 f20 f21 f22 f23 ta1 w1 le1 s1 f25 f26 f27 f28 f29 f30 f31 f32 f33 f34 f35 f36 f37 f38 f39 f40 f41 f42 f43 f44 ta2 w2 le2 s2 f46 f47 ta3 w3 le3 s3 ta4 w4 le4 s4 ta5 w5 le5 s5 ta6 w6 le6 s6 f52
  replace f0 := shm_163 f0
  replace f1 := shm_1220 f1
  replace f2 := shm_5 f2
  replace f3 := shm_7 f3
  replace f4 := shm_22 f4
  replace f5 := shm_1792 f5
  replace f6 := shm_2243 f6
  replace f7 := shm_2131 f7
  replace f8 := shm_419 f8
  replace f9 := shm_1179 f9
  replace f10 := shm_825 f10
  replace f11 := shm_386 f11
  replace f12 := shm_386 f12
  replace f13 := shm_825 f13
  replace f14 := shm_1179 f14
  replace f15 := shm_419 f15
  replace f16 := shm_2131 f16
  replace f17 := shm_2243 f17
  replace f18 := shm_1792 f18
  replace f19 := shm_5 f19
  replace f20 := shm_1220 f20
  replace f21 := shm_2130 f21
  replace f22 := shm_1616 f22
  replace f23 := shm_270 f23
  have s1 : (∀ b j, w_el ws b j = w_el w1 b j) ∧ ∀ b j, w_fd ws b j = if b = v_ad (n_v vs 21) ∧ j = 1 then n_v vs 2 else w_fd w1 b j := s1.2
  replace f25 := shm_1220 f25
  replace f26 := shm_7 f26
  replace f27 := shm_22 f27
  replace f28 := shm_1792 f28
  replace f29 := shm_2243 f29
  replace f30 := shm_2131 f30
  replace f31 := shm_419 f31
  replace f32 := shm_1179 f32
  replace f33 := shm_825 f33
  replace f34 := shm_386 f34
  replace f35 := shm_386 f35
  replace f36 := shm_825 f36
  replace f37 := shm_1179 f37
  replace f38 := shm_419 f38
  replace f39 := shm_2131 f39
  replace f40 := shm_2243 f40
  replace f41 := shm_1792 f41
  replace f42 := shm_1220 f42
  replace f43 := shm_2130 f43
  replace f44 := shm_1616 f44
  replace f46 := shm_7 f46
  replace f47 := shm_22 f47
  have s5 : (∀ b j, w_el w4 b j = w_el w5 b j) ∧ ∀ b j, w_fd w4 b j = if b = v_ad (n_v vs 0) ∧ j = 18 then n_v vs 12 else w_fd w5 b j := s5.2
  replace f52 := shm_142 f52
  have q18 : n_v vs 18 = n_v vs 0 := f2.symm
  have q13 : n_v vs 13 = n_v vs 8 := f19.symm
  simp only [q13, q18] at f1 f5 f6 f7 f8 f9 f10 f11 f12 f13 f14 f15 f16 f17 f18 f23 f25 f28 f29 f30 f31 f32 f33 f34 f35 f36 f37 f38 f39 f40 f41
  have ar_8_7_1 : w_ar w1 (n_v vs 8) 7 = w_ar ws (n_v vs 8) 7 := by show v_ad (w_fd w1 _ _) = v_ad (w_fd ws _ _); rw [s1.2, if_neg (fun e => absurd e.2 (by decide))]
  have cr_8_7 := fdq_46 hD hth r8
  have ar_8_8_1 : w_ar w1 (n_v vs 8) 8 = w_ar ws (n_v vs 8) 8 := by show v_ad (w_fd w1 _ _) = v_ad (w_fd ws _ _); rw [s1.2, if_neg (fun e => absurd e.2 (by decide))]
  have cr_8_8 := fdq_47 hD hth r8
  have ar_8_14_1 : w_ar w1 (n_v vs 8) 14 = w_ar ws (n_v vs 8) 14 := by show v_ad (w_fd w1 _ _) = v_ad (w_fd ws _ _); rw [s1.2, if_neg (fun e => absurd e.2 (by decide))]
  have cr_8_14 := fdq_75 hD hth r8
  have ar_14_4_1 : w_ar w1 (n_v vs 14) 4 = w_ar ws (n_v vs 14) 4 := by show v_ad (w_fd w1 _ _) = v_ad (w_fd ws _ _); rw [s1.2, if_neg (fun e => absurd e.2 (by decide))]
  have cr_14_4 := fdq_87 hD hth r14
  have ar_15_16_1 : w_ar w1 (n_v vs 15) 16 = w_ar ws (n_v vs 15) 16 := by show v_ad (w_fd w1 _ _) = v_ad (w_fd ws _ _); rw [s1.2, if_neg (fun e => absurd e.2 (by decide))]
  have cr_15_16 := fdq_91 hD hth r15
  have g0 : v_iv (n_v vs 9) = w_fi ws (n_v vs 8) 0 := congrArg v_iv f0
  simp only [ar_8_14_1, ar_15_16_1, ar_8_7_1, ar_8_8_1, ar_14_4_1] at f28 f29 f30 f31 f32 f33 f34 f35 f36 f37 f38 f39 f40 f41
  have fe_8_0_1 : w_fi ws (n_v vs 8) 0 = w_fi w1 (n_v vs 8) 0 := by show v_iv (w_fd _ _ _) = v_iv (w_fd _ _ _); rw [s1.2, if_neg (fun e => absurd e.2 (by decide))]
  have fe_8_1_1 : w_fi ws (n_v vs 8) 1 = w_fi w1 (n_v vs 8) 1 := by show v_iv (w_fd _ _ _) = v_iv (w_fd _ _ _); rw [s1.2, if_neg (fun e => by have e1 := e.1; have e2 := r8; rw [e1, r21] at e2; exact absurd (Option.some.inj e2) (by decide))]
  have fe_14_0_1 : w_fi ws (n_v vs 14) 0 = w_fi w1 (n_v vs 14) 0 := by show v_iv (w_fd _ _ _) = v_iv (w_fd _ _ _); rw [s1.2, if_neg (fun e => absurd e.2 (by decide))]
  have fe_14_1_1 : w_fi ws (n_v vs 14) 1 = w_fi w1 (n_v vs 14) 1 := by show v_iv (w_fd _ _ _) = v_iv (w_fd _ _ _); rw [s1.2, if_neg (fun e => by have e1 := e.1; have e2 := r14; rw [e1, r21] at e2; exact absurd (Option.some.inj e2) (by decide))]
  have fe_14_2_1 : w_fi ws (n_v vs 14) 2 = w_fi w1 (n_v vs 14) 2 := by show v_iv (w_fd _ _ _) = v_iv (w_fd _ _ _); rw [s1.2, if_neg (fun e => absurd e.2 (by decide))]
  have fe_15_0_1 : w_fi ws (n_v vs 15) 0 = w_fi w1 (n_v vs 15) 0 := by show v_iv (w_fd _ _ _) = v_iv (w_fd _ _ _); rw [s1.2, if_neg (fun e => absurd e.2 (by decide))]
  have hE_8_7_1 : ∀ j : Int, w_ei ws (w_ar ws (n_v vs 8) 7) j = w_ei w1 (w_ar ws (n_v vs 8) 7) j := fun j => s1.1 _ _
  have hK_8_7 := elq_11 hD hth cr_8_7
  have hE_8_8_1 : ∀ j : Int, w_ei ws (w_ar ws (n_v vs 8) 8) j = w_ei w1 (w_ar ws (n_v vs 8) 8) j := fun j => s1.1 _ _
  have hK_8_8 := elq_12 hD hth cr_8_8
  have hE_8_14_1 : ∀ j : Int, w_ei ws (w_ar ws (n_v vs 8) 14) j = w_ei w1 (w_ar ws (n_v vs 8) 14) j := fun j => s1.1 _ _
  have hK_8_14 := elq_25 hD hth cr_8_14
  have hE_14_4_1 : ∀ j : Int, w_ei ws (w_ar ws (n_v vs 14) 4) j = w_ei w1 (w_ar ws (n_v vs 14) 4) j := fun j => s1.1 _ _
  have hK_14_4 := elq_29 hD hth cr_14_4
  have hE_15_16_1 : ∀ j : Int, w_ei ws (w_ar ws (n_v vs 15) 16) j = w_ei w1 (w_ar ws (n_v vs 15) 16) j := fun j => s1.1 _ _
  have hK_15_16 := elq_47 hD hth cr_15_16
  have kz_8_0 := fdq_21 hD hth r8
  have kz_8_1 := fdq_30 hD hth r8
  have kz_14_0 := fdq_294 hD hth r14
  have kz_14_1 := fdq_278 hD hth r14
  have kz_14_2 := fdq_295 hD hth r14
  have kz_15_0 := fdq_78 hD hth r15
  have nf0 : fc_1 PRD (20, [0, 4], [62, 2000006]) ws (vs) := by
    refine ⟨nf_in hl rfl, sgq_270 ?_⟩
    · show HY ws (n_v vs 0) (v_iv (n_v vs 4) + (((2000006 : Nat) : Int) - 2000000))
      exact hy_le f23 (by omega)
  refine ⟨(fun _ h => (by cases h)), [], trivial, ?_, (fun _ h => (by cases h))⟩
  rw [List.append_nil]
  exact List.forall_mem_cons.mpr ⟨⟨show (20 : Nat) < 100 from by decide, nf0⟩, (fun _ h => (by cases h))⟩
def o_Ho_draw_at_p_40 : or_T := (116, 13, [(0, (2, 0, 0, [12])), (1, (0, 0, 3, [])), (7, (2, 0, 0, [131])), (8, (2, 0, 0, [3])), (12, (2, 0, 0, [3]))], [(14, [12, 7, 1], []), (9, [7, 0], [0]), (20, [0, 1, 8], [62, 71])], [], [], [(24, [8, 12], [])], [], [])
theorem oo_Ho_draw_at_p_40 {kA : Nat → ClassId} : or_ok PRD kA GG o_Ho_draw_at_p_40 := by
  refine or_mk fun A ta ws vs hD hth hl => ?_
  intro t0 r0 t1 k1 t7 r7 t8 r8 t12 r12 f0 f1 f2
  replace f0 := shm_793 f0
  replace f1 := shm_163 f1
  replace f2 := shm_1819 f2
  have nf0 : fc_1 PRD (24, [8, 12], []) ws (vs) := by
    refine ⟨nf_in hl rfl, sgq_5 ?_⟩
    · show n_v vs 8 = n_v vs 12
      exact ref_same t8 t12 rfl rfl ((wl_0 (wq_wl f2) (by decide)).trans (pO_of f1 f0).symm)
  refine ⟨(fun _ h => (by cases h)), [], trivial, ?_, (fun _ h => (by cases h))⟩
  rw [List.append_nil]
  exact List.forall_mem_cons.mpr ⟨⟨show (24 : Nat) < 100 from by decide, nf0⟩, (fun _ h => (by cases h))⟩
def o_Ho_draw_at_p_41 : or_T := (116, 13, [(0, (2, 0, 0, [12])), (1, (0, 0, 3, [])), (8, (2, 0, 0, [3])), (9, (0, 1, 24, [])), (12, (2, 0, 0, [3]))], [(24, [8, 12], []), (20, [8], [50, 1, 0, 0, 0, 2, 0, 1, 2, 0, 0]), (8, [9], [1]), (9, [9, 8], [0]), (20, [0, 1, 8], [62, 71])], [], [], [(20, [0, 1, 12], [62, 71])], [], [])
theorem oo_Ho_draw_at_p_41 {kA : Nat → ClassId} : or_ok PRD kA GG o_Ho_draw_at_p_41 := by
  refine or_mk fun A ta ws vs hD hth hl => ?_
  intro t0 r0 t1 k1 t8 r8 t9 k9 t12 r12 f0 f1 f2 f3 f4
  replace f0 := shm_5 f0
  replace f4 := shm_1819 f4
  have q12 : n_v vs 12 = n_v vs 8 := f0.symm
  have nf0 : fc_1 PRD (20, [0, 1, 12], [62, 71]) ws (vs) := by
    refine ⟨nf_in hl rfl, sgq_1819 ?_⟩
    · show WQF 71 [n_v vs 0, n_v vs 1, n_v vs 12] ws
      first | rw [q12] | skip
      have zw := f4
      first | rw [show n_v vs 8 = n_v vs 12 from (by first | exact f0 | exact f0.symm)] at zw | skip
      first | exact zw | ((first | rw [q12] at zw | skip); exact zw)
  refine ⟨(fun _ h => (by cases h)), [], trivial, ?_, (fun _ h => (by cases h))⟩
  rw [List.append_nil]
  exact List.forall_mem_cons.mpr ⟨⟨show (20 : Nat) < 100 from by decide, nf0⟩, (fun _ h => (by cases h))⟩
def o_Ho_draw_at_p_42 : or_T := (121, 14, [(0, (2, 0, 0, [12]))], [(20, [0], [62, 0]), (102, [12], [281337537757184, 2000, 2001, 2002, 2003]), (20, [0, 1, 12], [62, 71])], [], [], [(20, [0, 1, 12], [62, 71])], [], [])
theorem oo_Ho_draw_at_p_42 {kA : Nat → ClassId} : or_ok PRD kA GG o_Ho_draw_at_p_42 := by
  refine or_mk fun A ta ws vs hD hth hl => ?_
  intro t0 r0 f0 ta1 w1 le1 s1 f2
  replace f0 := shm_1176 f0
  replace s1 := s1.2
  replace f2 := shm_1819 f2
  have nf0 : fc_1 PRD (20, [0, 1, 12], [62, 71]) ws (vs) := by
    refine ⟨nf_in hl rfl, sgq_1819 ?_⟩
    · show WQF 71 [n_v vs 0, n_v vs 1, n_v vs 12] ws
      obtain ⟨aH, _, eH, _⟩ := tv_ref t0 rfl
      have hH0 := s1.2.2.1 12 List.mem_cons_self 0 (by decide) aH eH
      exact wq_step f0 (hd_call hD hth (by decide +kernel) le1 r0 (by rw [eH]; exact hH0) s1 (by decide +kernel)) f2 (by decide)
  refine ⟨(fun _ h => (by cases h)), [], trivial, ?_, (fun _ h => (by cases h))⟩
  rw [List.append_nil]
  exact List.forall_mem_cons.mpr ⟨⟨show (20 : Nat) < 100 from by decide, nf0⟩, (fun _ h => (by cases h))⟩
def o_Ho_draw_at_p_43 : or_T := (126, 15, [(0, (2, 0, 0, [12])), (1, (0, 0, 3, [])), (12, (2, 0, 0, [3])), (13, (2, 0, 0, [2]))], [(20, [0], [62, 0]), (102, [13], [712230049778071777201162559065590005831303168, 1000, 1005, 1006, 1007, 1015, 1016, 1017, 1018, 5000, 5002, 5003, 5005, 5006, 5013, 149005, 149006, 149013]), (20, [0, 1, 12], [62, 71])], [], [], [(20, [0, 1, 12], [62, 71])], [], [])
theorem oo_Ho_draw_at_p_43 {kA : Nat → ClassId} : or_ok PRD kA GG o_Ho_draw_at_p_43 := by
  refine or_mk fun A ta ws vs hD hth hl => ?_
  intro t0 r0 t1 k1 t12 r12 t13 r13 f0 ta1 w1 le1 s1 f2
  replace f0 := shm_1176 f0
  replace s1 := s1.2
  replace f2 := shm_1819 f2
  have nf0 : fc_1 PRD (20, [0, 1, 12], [62, 71]) ws (vs) := by
    refine ⟨nf_in hl rfl, sgq_1819 ?_⟩
    · show WQF 71 [n_v vs 0, n_v vs 1, n_v vs 12] ws
      obtain ⟨aH, _, eH, _⟩ := tv_ref t0 rfl
      have hH0 := s1.2.2.1 13 List.mem_cons_self 0 (by decide) aH eH
      exact wq_step f0 (hd_call hD hth (by decide +kernel) le1 r0 (by rw [eH]; exact hH0) s1 (by decide +kernel)) f2 (by decide)
  refine ⟨(fun _ h => (by cases h)), [], trivial, ?_, (fun _ h => (by cases h))⟩
  rw [List.append_nil]
  exact List.forall_mem_cons.mpr ⟨⟨show (20 : Nat) < 100 from by decide, nf0⟩, (fun _ h => (by cases h))⟩
def o_Ho_draw_at_p_44 : or_T := (126, 15, [(0, (2, 0, 0, [12])), (1, (0, 0, 3, [])), (13, (2, 0, 0, [2]))], [(20, [0], [62, 0]), (102, [13], [712230049778071777201162559065590005831303168, 1000, 1005, 1006, 1007, 1015, 1016, 1017, 1018, 5000, 5002, 5003, 5005, 5006, 5013, 149005, 149006, 149013]), (20, [0, 1, 13], [62, 135])], [], [], [(20, [0, 1, 13], [62, 135])], [], [])
theorem oo_Ho_draw_at_p_44 {kA : Nat → ClassId} : or_ok PRD kA GG o_Ho_draw_at_p_44 := by
  refine or_mk fun A ta ws vs hD hth hl => ?_
  intro t0 r0 t1 k1 t13 r13 f0 ta1 w1 le1 s1 f2
  replace f0 := shm_1176 f0
  replace s1 := s1.2
  replace f2 := shm_2132 f2
  have nf0 : fc_1 PRD (20, [0, 1, 13], [62, 135]) ws (vs) := by
    refine ⟨nf_in hl rfl, sgq_2132 ?_⟩
    · show WQF 135 [n_v vs 0, n_v vs 1, n_v vs 13] ws
      obtain ⟨aH, _, eH, _⟩ := tv_ref t0 rfl
      have hH0 := s1.2.2.1 13 List.mem_cons_self 0 (by decide) aH eH
      exact wq_step f0 (hd_call hD hth (by decide +kernel) le1 r0 (by rw [eH]; exact hH0) s1 (by decide +kernel)) f2 (by decide)
  refine ⟨(fun _ h => (by cases h)), [], trivial, ?_, (fun _ h => (by cases h))⟩
  rw [List.append_nil]
  exact List.forall_mem_cons.mpr ⟨⟨show (20 : Nat) < 100 from by decide, nf0⟩, (fun _ h => (by cases h))⟩
def o_Ho_draw_at_p_45 : or_T := (132, 17, [(0, (2, 0, 0, [12])), (1, (0, 0, 3, [])), (4, (0, 0, 3066, [])), (15, (2, 0, 0, [134])), (16, (2, 0, 0, [0]))], [(14, [16, 15, 1], []), (9, [15, 0], [3]), (20, [0, 4], [62, 2000000])], [], [], [(20, [0, 4, 16], [62, 2000000])], [], [])
theorem oo_Ho_draw_at_p_45 {kA : Nat → ClassId} : or_ok PRD kA GG o_Ho_draw_at_p_45 := by
  refine or_mk fun A ta ws vs hD hth hl => ?_
  intro t0 r0 t1 k1 t4 k4 t15 r15 t16 r16 f0 f1 f2
  replace f0 := shm_793 f0
  replace f1 := shm_137 f1
  replace f2 := shm_161 f2
  have nf0 : fc_1 PRD (20, [0, 4, 16], [62, 2000000]) ws (vs) := by
    refine ⟨nf_in hl rfl, sgq_1399 ?_⟩
    · show HY ws (n_v vs 0) (v_iv (n_v vs 4) + (((2000000 : Nat) : Int) - 2000000)) ∧ HYD ws (n_v vs 0) (n_v vs 16)
      exact ⟨hy_le f2 (by omega), hyd_of f1 f0 (by omega) (by omega)⟩
  refine ⟨(fun _ h => (by cases h)), [], trivial, ?_, (fun _ h => (by cases h))⟩
  rw [List.append_nil]
  exact List.forall_mem_cons.mpr ⟨⟨show (20 : Nat) < 100 from by decide, nf0⟩, (fun _ h => (by cases h))⟩
def o_Ho_draw_at_p_46 : or_T := (132, 17, [(0, (2, 0, 0, [12])), (1, (0, 0, 3, [])), (12, (2, 0, 0, [3])), (13, (2, 0, 0, [2]))], [(20, [0, 1, 13], [62, 135]), (20, [0, 1, 12], [62, 71])], [], [], [(20, [12], [60, 1, 1, 637, 0, 14])], [], [])
theorem oo_Ho_draw_at_p_46 {kA : Nat → ClassId} : or_ok PRD kA GG o_Ho_draw_at_p_46 := by
  refine or_mk fun A ta ws vs hD hth hl => ?_
  intro t0 r0 t1 k1 t12 r12 t13 r13 f0 f1
  replace f0 := shm_2132 f0
  replace f1 := shm_1819 f1
  have nf0 : fc_1 PRD (20, [12], [60, 1, 1, 637, 0, 14]) ws (vs) := by
    refine ⟨nf_in hl rfl, sgq_1792 ?_⟩
    · show SYG (w_fi ws (n_v vs 12) 0) (w_ei ws (w_ar ws (n_v vs 12) 14))
      have kz12_0 : 0 ≤ w_fi ws (n_v vs 12) 0 ∧ w_fi ws (n_v vs 12) 0 ≤ 24 := tv_rng (th_fd hD hth r12 (g := GG_3) rfl (k := 0) (t := (0, 0, 24, [])) rfl rfl)
      exact hg_syg (wq_hg f0 (by decide) (wl_0 (wq_wl (k := 71) f1) (by decide))) (by omega)
  refine ⟨(fun _ h => (by cases h)), [], trivial, ?_, (fun _ h => (by cases h))⟩
  rw [List.append_nil]
  exact List.forall_mem_cons.mpr ⟨⟨show (20 : Nat) < 100 from by decide, nf0⟩, (fun _ h => (by cases h))⟩
def o_Ho_draw_at_p_47 : or_T := (132, 17, [(0, (2, 0, 0, [12])), (1, (0, 0, 3, [])), (12, (2, 0, 0, [3])), (13, (2, 0, 0, [2])), (14, (2, 0, 0, [5]))], [(20, [0, 1, 13], [62, 135]), (20, [0, 1, 12], [62, 71]), (20, [13], [50, 1, 0, 0, 7, 3, 2, 0, 0, 0, 0]), (20, [0, 1, 14], [62, 199]), (20, [14], [50, 1, 0, 0, 0, 2, 0, 0, 2, 0, 0])], [], [], [(20, [14, 12, 13], [60, 3, 1, 644, 0, 1001, 2002, 16])], [], [])
theorem oo_Ho_draw_at_p_47 {kA : Nat → ClassId} : or_ok PRD kA GG o_Ho_draw_at_p_47 := by
  refine or_mk fun A ta ws vs hD hth hl => ?_
  intro t0 r0 t1 k1 t12 r12 t13 r13 t14 r14 f0 f1 f2 f3 f4
  replace f0 := shm_2132 f0
  replace f1 := shm_1819 f1
  replace f2 := shm_2130 f2
  replace f3 := shm_2167 f3
  replace f4 := shm_1616 f4
  have nf0 : fc_1 PRD (20, [14, 12, 13], [60, 3, 1, 644, 0, 1001, 2002, 16]) ws (vs) := by
    refine ⟨nf_in hl rfl, sgq_2243 ?_⟩
    · show PLB (w_fi ws (n_v vs 14) 0) (w_fi ws (n_v vs 12) 1) (w_fi ws (n_v vs 13) 2) (w_ei ws (w_ar ws (n_v vs 14) 16))
      have kz14_0 : (-1) ≤ w_fi ws (n_v vs 14) 0 ∧ w_fi ws (n_v vs 14) 0 ≤ 1 := tv_rng (th_fd hD hth r14 (g := GG_5) rfl (k := 0) (t := (0, -1, 1, [])) rfl rfl)
      have kp0 : 0 ≤ w_fi ws (n_v vs 14) 0 := f4
      have kz12_1 : 0 ≤ w_fi ws (n_v vs 12) 1 ∧ w_fi ws (n_v vs 12) 1 ≤ 48 := tv_rng (th_fd hD hth r12 (g := GG_3) rfl (k := 1) (t := (0, 0, 48, [])) rfl rfl)
      obtain ⟨dz, rz, hz, tz, mz⟩ := tv_ref (fd_at hD hth r14 (g := GG_5) rfl (k := 16) rfl (by decide)).1 rfl
      obtain rfl := List.mem_singleton.mp mz
      have kfo : ∀ d : Int, 0 ≤ d → d < 144 → -1 ≤ w_ei ws (w_ar ws (n_v vs 14) 16) d := fun d d0 d1 => by rw [hg_ar hz]; have z := th_el hD hth tz (kd := 0) (n := 144) (m := 144) (lo := (-1)) (hi := 143) (rs := []) (L := []) rfl (by decide) (j := d.toNat) (by omega); show -1 ≤ w_el ws dz d.toNat; omega
      exact hn_plb (wq_hn f0 (by decide) (wl_0 (wq_wl (k := 71) f1) (by decide)) (wl_0 (wq_wl (k := 199) f3) (by decide))) (wq_hf f0 (by decide) (wl_0 (wq_wl (k := 71) f1) (by decide)) (wl_0 (wq_wl (k := 135) f0) (by decide))) (show w_fi ws (n_v vs 13) 0 ≠ 0 from f2) ⟨kp0, by omega⟩ (by omega) kfo
  refine ⟨(fun _ h => (by cases h)), [], trivial, ?_, (fun _ h => (by cases h))⟩
  rw [List.append_nil]
  exact List.forall_mem_cons.mpr ⟨⟨show (20 : Nat) < 100 from by decide, nf0⟩, (fun _ h => (by cases h))⟩
def o_Ho_draw_at_p_48 : or_T := (132, 17, [(0, (2, 0, 0, [12])), (1, (0, 0, 3, [])), (12, (2, 0, 0, [3])), (13, (2, 0, 0, [2]))], [(20, [0, 1, 13], [62, 135]), (20, [0, 1, 12], [62, 71]), (20, [13], [50, 1, 0, 0, 7, 3, 2, 0, 0, 0, 0])], [], [], [(20, [12, 13], [60, 3, 3, 673, 0, 1, 1002, 14, 7, 8])], [], [])
theorem oo_Ho_draw_at_p_48 {kA : Nat → ClassId} : or_ok PRD kA GG o_Ho_draw_at_p_48 := by
  refine or_mk fun A ta ws vs hD hth hl => ?_
  intro t0 r0 t1 k1 t12 r12 t13 r13 f0 f1 f2
  replace f0 := shm_2132 f0
  replace f1 := shm_1819 f1
  replace f2 := shm_2130 f2
  have nf0 : fc_1 PRD (20, [12, 13], [60, 3, 3, 673, 0, 1, 1002, 14, 7, 8]) ws (vs) := by
    refine ⟨nf_in hl rfl, sgq_2131 ?_⟩
    · show BKS (w_fi ws (n_v vs 12) 0) (w_fi ws (n_v vs 12) 1) (w_fi ws (n_v vs 13) 2) (w_ei ws (w_ar ws (n_v vs 12) 14)) (w_ei ws (w_ar ws (n_v vs 12) 7)) (w_ei ws (w_ar ws (n_v vs 12) 8))
      exact (hf_all (wq_hf f0 (by decide) (wl_0 (wq_wl (k := 71) f1) (by decide)) (wl_0 (wq_wl (k := 135) f0) (by decide))) (show w_fi ws (n_v vs 13) 0 ≠ 0 from f2)).2.2.2
  refine ⟨(fun _ h => (by cases h)), [], trivial, ?_, (fun _ h => (by cases h))⟩
  rw [List.append_nil]
  exact List.forall_mem_cons.mpr ⟨⟨show (20 : Nat) < 100 from by decide, nf0⟩, (fun _ h => (by cases h))⟩
def o_Ho_draw_at_p_49 : or_T := (132, 17, [(0, (2, 0, 0, [12])), (1, (0, 0, 3, [])), (12, (2, 0, 0, [3])), (13, (2, 0, 0, [2]))], [(20, [0, 1, 13], [62, 135]), (20, [0, 1, 12], [62, 71]), (20, [13], [50, 1, 0, 0, 7, 3, 2, 0, 0, 0, 0])], [], [], [(20, [12, 13], [60, 1, 2, 671, 0, 14, 1004])], [], [])
theorem oo_Ho_draw_at_p_49 {kA : Nat → ClassId} : or_ok PRD kA GG o_Ho_draw_at_p_49 := by
  refine or_mk fun A ta ws vs hD hth hl => ?_
  intro t0 r0 t1 k1 t12 r12 t13 r13 f0 f1 f2
  replace f0 := shm_2132 f0
  replace f1 := shm_1819 f1
  replace f2 := shm_2130 f2
  have nf0 : fc_1 PRD (20, [12, 13], [60, 1, 2, 671, 0, 14, 1004]) ws (vs) := by
    refine ⟨nf_in hl rfl, sgq_419 ?_⟩
    · show PNC (w_fi ws (n_v vs 12) 0) (w_ei ws (w_ar ws (n_v vs 12) 14)) (w_ei ws (w_ar ws (n_v vs 13) 4))
      exact (hf_all (wq_hf f0 (by decide) (wl_0 (wq_wl (k := 71) f1) (by decide)) (wl_0 (wq_wl (k := 135) f0) (by decide))) (show w_fi ws (n_v vs 13) 0 ≠ 0 from f2)).1
  refine ⟨(fun _ h => (by cases h)), [], trivial, ?_, (fun _ h => (by cases h))⟩
  rw [List.append_nil]
  exact List.forall_mem_cons.mpr ⟨⟨show (20 : Nat) < 100 from by decide, nf0⟩, (fun _ h => (by cases h))⟩
def o_Ho_draw_at_p_50 : or_T := (132, 17, [(0, (2, 0, 0, [12])), (1, (0, 0, 3, [])), (12, (2, 0, 0, [3])), (13, (2, 0, 0, [2]))], [(20, [0, 1, 13], [62, 135]), (20, [0, 1, 12], [62, 71]), (20, [13], [50, 1, 0, 0, 7, 3, 2, 0, 0, 0, 0])], [], [], [(20, [12, 13], [60, 2, 1, 672, 0, 1001, 1004])], [], [])
theorem oo_Ho_draw_at_p_50 {kA : Nat → ClassId} : or_ok PRD kA GG o_Ho_draw_at_p_50 := by
  refine or_mk fun A ta ws vs hD hth hl => ?_
  intro t0 r0 t1 k1 t12 r12 t13 r13 f0 f1 f2
  replace f0 := shm_2132 f0
  replace f1 := shm_1819 f1
  replace f2 := shm_2130 f2
  have nf0 : fc_1 PRD (20, [12, 13], [60, 2, 1, 672, 0, 1001, 1004]) ws (vs) := by
    refine ⟨nf_in hl rfl, sgq_1179 ?_⟩
    · show FPA (w_fi ws (n_v vs 12) 0) (w_fi ws (n_v vs 13) 1) (w_ei ws (w_ar ws (n_v vs 13) 4))
      exact (hf_all (wq_hf f0 (by decide) (wl_0 (wq_wl (k := 71) f1) (by decide)) (wl_0 (wq_wl (k := 135) f0) (by decide))) (show w_fi ws (n_v vs 13) 0 ≠ 0 from f2)).2.1
  refine ⟨(fun _ h => (by cases h)), [], trivial, ?_, (fun _ h => (by cases h))⟩
  rw [List.append_nil]
  exact List.forall_mem_cons.mpr ⟨⟨show (20 : Nat) < 100 from by decide, nf0⟩, (fun _ h => (by cases h))⟩
def o_Ho_draw_at_p_51 : or_T := (132, 17, [(0, (2, 0, 0, [12])), (1, (0, 0, 3, [])), (12, (2, 0, 0, [3])), (13, (2, 0, 0, [2]))], [(20, [0, 1, 13], [62, 135]), (20, [0, 1, 12], [62, 71])], [], [], [(20, [12], [60, 2, 3, 670, 0, 1, 14, 7, 8])], [], [])
theorem oo_Ho_draw_at_p_51 {kA : Nat → ClassId} : or_ok PRD kA GG o_Ho_draw_at_p_51 := by
  refine or_mk fun A ta ws vs hD hth hl => ?_
  intro t0 r0 t1 k1 t12 r12 t13 r13 f0 f1
  replace f0 := shm_2132 f0
  replace f1 := shm_1819 f1
  have nf0 : fc_1 PRD (20, [12], [60, 2, 3, 670, 0, 1, 14, 7, 8]) ws (vs) := by
    refine ⟨nf_in hl rfl, sgq_825 ?_⟩
    · show GNB (w_fi ws (n_v vs 12) 0) (w_fi ws (n_v vs 12) 1) (w_ei ws (w_ar ws (n_v vs 12) 14)) (w_ei ws (w_ar ws (n_v vs 12) 7)) (w_ei ws (w_ar ws (n_v vs 12) 8))
      exact hg_gnb (wq_hg f0 (by decide) (wl_0 (wq_wl (k := 71) f1) (by decide)))
  refine ⟨(fun _ h => (by cases h)), [], trivial, ?_, (fun _ h => (by cases h))⟩
  rw [List.append_nil]
  exact List.forall_mem_cons.mpr ⟨⟨show (20 : Nat) < 100 from by decide, nf0⟩, (fun _ h => (by cases h))⟩
def o_Ho_draw_at_p_52 : or_T := (132, 17, [(0, (2, 0, 0, [12])), (1, (0, 0, 3, [])), (12, (2, 0, 0, [3])), (13, (2, 0, 0, [2]))], [(20, [0, 1, 13], [62, 135]), (20, [0, 1, 12], [62, 71])], [], [], [(20, [12], [60, 2, 2, 596, 0, 1, 7, 8])], [], [])
theorem oo_Ho_draw_at_p_52 {kA : Nat → ClassId} : or_ok PRD kA GG o_Ho_draw_at_p_52 := by
  refine or_mk fun A ta ws vs hD hth hl => ?_
  intro t0 r0 t1 k1 t12 r12 t13 r13 f0 f1
  replace f0 := shm_2132 f0
  replace f1 := shm_1819 f1
  have nf0 : fc_1 PRD (20, [12], [60, 2, 2, 596, 0, 1, 7, 8]) ws (vs) := by
    refine ⟨nf_in hl rfl, sgq_386 ?_⟩
    · show GKE (w_fi ws (n_v vs 12) 0) (w_fi ws (n_v vs 12) 1) (w_ei ws (w_ar ws (n_v vs 12) 7)) (w_ei ws (w_ar ws (n_v vs 12) 8))
      exact hg_gke (wq_hg f0 (by decide) (wl_0 (wq_wl (k := 71) f1) (by decide)))
  refine ⟨(fun _ h => (by cases h)), [], trivial, ?_, (fun _ h => (by cases h))⟩
  rw [List.append_nil]
  exact List.forall_mem_cons.mpr ⟨⟨show (20 : Nat) < 100 from by decide, nf0⟩, (fun _ h => (by cases h))⟩
set_option maxHeartbeats 4000000 in
theorem vc_Ho_draw_at_p_53_0 (nodes_0o8 : Int) (f10 : 1 ≤ nodes_0o8) (kz_8_0 : 0 ≤ nodes_0o8 ∧ nodes_0o8 ≤ 24) : 1 ≤ nodes_0o8 := by
  first | omega
set_option maxHeartbeats 4000000 in
theorem vc_Ho_draw_at_p_53_2 (x4 : Int) (gy : Int) (k4 : 0 ≤ x4 ∧ x4 ≤ 3066) (ey2 : gy = x4) : 1 * gy + ((-1) * x4 + 0) ≤ 0 := by
  first | omega
set_option maxHeartbeats 4000000 in
theorem vc_Ho_draw_at_p_53_3 (x4 : Int) (gy : Int) (k4 : 0 ≤ x4 ∧ x4 ≤ 3066) (ey2 : gy = x4) : (-1) * gy + (1 * x4 + 0) ≤ 0 := by
  first | omega
set_option maxHeartbeats 4000000 in
theorem vc_Ho_draw_at_p_53_4 (nodes_0o8 : Int) (near_0o8 : Int → Int) (f7 : SYG (nodes_0o8) (near_0o8)) (kz_8_0 : 0 ≤ nodes_0o8 ∧ nodes_0o8 ≤ 24) : SYG (nodes_0o8) (near_0o8) := by
  first | assumption
set_option maxHeartbeats 4000000 in
theorem vc_Ho_draw_at_p_53_5 (edges_0o8 : Int) (blocks_0o13 : Int) (faceOf_0o14 : Int → Int) (planar_0o14 : Int) (f6 : PLB (planar_0o14) (edges_0o8) (blocks_0o13) (faceOf_0o14)) (kz_8_1 : 0 ≤ edges_0o8 ∧ edges_0o8 ≤ 48) (kz_13_2 : 0 ≤ blocks_0o13 ∧ blocks_0o13 ≤ 48) (kz_14_0 : (-1) ≤ planar_0o14 ∧ planar_0o14 ≤ 1) : PLB (planar_0o14) (edges_0o8) (blocks_0o13) (faceOf_0o14) := by
  first | assumption
set_option maxHeartbeats 4000000 in
theorem vc_Ho_draw_at_p_53_6 (nodes_0o8 : Int) (tail_0o8 : Int → Int) (head_0o8 : Int → Int) (edges_0o8 : Int) (near_0o8 : Int → Int) (blocks_0o13 : Int) (f5 : BKS (nodes_0o8) (edges_0o8) (blocks_0o13) (near_0o8) (tail_0o8) (head_0o8)) (kz_8_0 : 0 ≤ nodes_0o8 ∧ nodes_0o8 ≤ 24) (kz_8_1 : 0 ≤ edges_0o8 ∧ edges_0o8 ≤ 48) (kz_13_2 : 0 ≤ blocks_0o13 ∧ blocks_0o13 ≤ 48) : BKS (nodes_0o8) (edges_0o8) (blocks_0o13) (near_0o8) (tail_0o8) (head_0o8) := by
  first | assumption
set_option maxHeartbeats 4000000 in
theorem vc_Ho_draw_at_p_53_7 (nodes_0o8 : Int) (near_0o8 : Int → Int) (part_0o13 : Int → Int) (f4 : PNC (nodes_0o8) (near_0o8) (part_0o13)) (kz_8_0 : 0 ≤ nodes_0o8 ∧ nodes_0o8 ≤ 24) : PNC (nodes_0o8) (near_0o8) (part_0o13) := by
  first | assumption
set_option maxHeartbeats 4000000 in
theorem vc_Ho_draw_at_p_53_8 (nodes_0o8 : Int) (part_0o13 : Int → Int) (parts_0o13 : Int) (f3 : FPA (nodes_0o8) (parts_0o13) (part_0o13)) (kz_8_0 : 0 ≤ nodes_0o8 ∧ nodes_0o8 ≤ 24) (kz_13_1 : 0 ≤ parts_0o13 ∧ parts_0o13 ≤ 24) : FPA (nodes_0o8) (parts_0o13) (part_0o13) := by
  first | assumption
set_option maxHeartbeats 4000000 in
theorem vc_Ho_draw_at_p_53_9 (nodes_0o8 : Int) (tail_0o8 : Int → Int) (head_0o8 : Int → Int) (edges_0o8 : Int) (near_0o8 : Int → Int) (f2 : GNB (nodes_0o8) (edges_0o8) (near_0o8) (tail_0o8) (head_0o8)) (kz_8_0 : 0 ≤ nodes_0o8 ∧ nodes_0o8 ≤ 24) (kz_8_1 : 0 ≤ edges_0o8 ∧ edges_0o8 ≤ 48) : GNB (nodes_0o8) (edges_0o8) (near_0o8) (tail_0o8) (head_0o8) := by
  first | assumption
set_option maxHeartbeats 4000000 in
theorem vc_Ho_draw_at_p_53_10 (nodes_0o8 : Int) (tail_0o8 : Int → Int) (head_0o8 : Int → Int) (edges_0o8 : Int) (f1 : GKE (nodes_0o8) (edges_0o8) (tail_0o8) (head_0o8)) (kz_8_0 : 0 ≤ nodes_0o8 ∧ nodes_0o8 ≤ 24) (kz_8_1 : 0 ≤ edges_0o8 ∧ edges_0o8 ≤ 48) : GKE (nodes_0o8) (edges_0o8) (tail_0o8) (head_0o8) := by
  first | assumption
def o_Ho_draw_at_p_53 : or_T := (132, 17, [(0, (2, 0, 0, [12])), (4, (0, 0, 3066, [])), (8, (2, 0, 0, [3])), (9, (0, 1, 24, [])), (12, (2, 0, 0, [3])), (13, (2, 0, 0, [2])), (14, (2, 0, 0, [5])), (16, (2, 0, 0, [0]))], [(9, [9, 8], [0]), (20, [12], [60, 2, 2, 596, 0, 1, 7, 8]), (20, [12], [60, 2, 3, 670, 0, 1, 14, 7, 8]), (20, [12, 13], [60, 2, 1, 672, 0, 1001, 1004]), (20, [12, 13], [60, 1, 2, 671, 0, 14, 1004]), (20, [12, 13], [60, 3, 3, 673, 0, 1, 1002, 14, 7, 8]), (20, [14, 12, 13], [60, 3, 1, 644, 0, 1001, 2002, 16]), (20, [12], [60, 1, 1, 637, 0, 14]), (20, [0, 4, 16], [62, 2000000]), (24, [8, 12], []), (20, [8], [50, 1, 0, 0, 0, 2, 0, 1, 2, 0, 0]), (20, [13], [50, 1, 0, 0, 7, 3, 2, 0, 0, 0, 0]), (20, [14], [50, 1, 0, 0, 0, 2, 0, 0, 2, 0, 0]), (102, [13], [712230049778071777201162559065590005831303168, 1000, 1005, 1006, 1007, 1015, 1016, 1017, 1018, 5000, 5002, 5003, 5005, 5006, 5013, 149005, 149006, 149013]), (102, [12], [281337537757184, 2000, 2001, 2002, 2003]), (8, [9], [1])], [], [(2, 0, 0, [12]), (0, 0, 3066, [])], [(20, [12], [50, 1, 0, 0, 0, 2, 0, 1, 2, 0, 0]), (24, [0, 17], []), (23, [18, 4], [0, 1, -1]), (23, [18, 4], [0, -1, 1]), (20, [12], [60, 1, 1, 637, 0, 14]), (20, [14, 12, 13], [60, 3, 1, 644, 0, 1001, 2002, 16]), (20, [12, 13], [60, 3, 3, 673, 0, 1, 1002, 14, 7, 8]), (20, [12, 13], [60, 1, 2, 671, 0, 14, 1004]), (20, [12, 13], [60, 2, 1, 672, 0, 1001, 1004]), (20, [12], [60, 2, 3, 670, 0, 1, 14, 7, 8]), (20, [12], [60, 2, 2, 596, 0, 1, 7, 8]), (20, [17, 18, 16], [62, 2000000])], [], [])
theorem oo_Ho_draw_at_p_53 {kA : Nat → ClassId} : or_ok PRD kA GG o_Ho_draw_at_p_53 := by
  refine or_mk fun A ta ws vs hD hth hl => ?_
  intro t0 r0 t4 k4 t8 r8 t9 k9 t12 r12 t13 r13 t14 r14 t16 r16 f0 f1 f2 f3 f4 f5 f6 f7 f8 f9 f10 f11 f12 ta1 w1 le1 s1 ta2 w2 le2 s2 f15
  replace f0 := shm_163 f0
  replace f1 := shm_386 f1
  replace f2 := shm_825 f2
  replace f3 := shm_1179 f3
  replace f4 := shm_419 f4
  replace f5 := shm_2131 f5
  replace f6 := shm_2243 f6
  replace f7 := shm_1792 f7
  replace f8 := shm_1399 f8
  replace f9 := shm_5 f9
  replace f10 := shm_1220 f10
  replace f11 := shm_2130 f11
  replace f12 := shm_1616 f12
  replace f15 := shm_142 f15
  have q12 : n_v vs 12 = n_v vs 8 := f9.symm
  simp only [q12] at f1 f2 f3 f4 f5 f6 f7
  have cr_8_7 := fdq_46 hD hth r8
  have cr_8_8 := fdq_47 hD hth r8
  have cr_8_14 := fdq_75 hD hth r8
  have cr_13_4 := fdq_87 hD hth r13
  have cr_14_16 := fdq_91 hD hth r14
  have g0 : v_iv (n_v vs 9) = w_fi ws (n_v vs 8) 0 := congrArg v_iv f0
  have hK_8_7 := elq_11 hD hth cr_8_7
  have hK_8_8 := elq_12 hD hth cr_8_8
  have hK_8_14 := elq_25 hD hth cr_8_14
  have hK_13_4 := elq_29 hD hth cr_13_4
  have hK_14_16 := elq_47 hD hth cr_14_16
  have kz_8_0 := fdq_21 hD hth r8
  have kz_8_1 := fdq_30 hD hth r8
  have kz_13_0 := fdq_294 hD hth r13
  have kz_13_1 := fdq_278 hD hth r13
  have kz_13_2 := fdq_295 hD hth r13
  have kz_14_0 := fdq_78 hD hth r14
  obtain ⟨y, ey, hy⟩ := iv_ex (ta := ta) (lo := 0) (hi := 3066) (z := v_iv (n_v vs 4)) (by omega) (by omega) (by omega) (by omega)
  have ey2 : v_iv (Value.int y) = v_iv (n_v vs 4) := ey
  have ey3 : 0 ≤ v_iv (Value.int y) ∧ v_iv (Value.int y) ≤ 3066 := tv_rng hy
  have e_0 : n_v (vs ++ [n_v vs 0, Value.int y]) 0 = n_v vs 0 := n_v_old (by rw [hl]; decide)
  have e_4 : n_v (vs ++ [n_v vs 0, Value.int y]) 4 = n_v vs 4 := n_v_old (by rw [hl]; decide)
  have e_12 : n_v (vs ++ [n_v vs 0, Value.int y]) 12 = n_v vs 12 := n_v_old (by rw [hl]; decide)
  have e_13 : n_v (vs ++ [n_v vs 0, Value.int y]) 13 = n_v vs 13 := n_v_old (by rw [hl]; decide)
  have e_14 : n_v (vs ++ [n_v vs 0, Value.int y]) 14 = n_v vs 14 := n_v_old (by rw [hl]; decide)
  have e_16 : n_v (vs ++ [n_v vs 0, Value.int y]) 16 = n_v vs 16 := n_v_old (by rw [hl]; decide)
  have e_17 : n_v (vs ++ [n_v vs 0, Value.int y]) 17 = n_v vs 0 := n_v_new0 hl
  have e_18 : n_v (vs ++ [n_v vs 0, Value.int y]) 18 = Value.int y := n_v_new1 hl
  have nf0 : fc_1 PRD (20, [12], [50, 1, 0, 0, 0, 2, 0, 1, 2, 0, 0]) ws (vs ++ [n_v vs 0, Value.int y]) := by
    refine ⟨nf_inA hl rfl, sgq_1220 ?_⟩
    · show 1 ≤ w_fi ws (n_v (vs ++ [n_v vs 0, Value.int y]) 12) 0
      simp only [e_12, q12]
      exact vc_Ho_draw_at_p_53_0 (w_fi ws (n_v vs 8) 0) f10 kz_8_0
  have nf1 : fc_1 PRD (24, [0, 17], []) ws (vs ++ [n_v vs 0, Value.int y]) := by
    refine ⟨nf_inA hl rfl, sgq_5 ?_⟩
    · show n_v (vs ++ [n_v vs 0, Value.int y]) 0 = n_v (vs ++ [n_v vs 0, Value.int y]) 17
      first | rfl | simp only [e_0, e_17, q12]
  have nf2 : fc_1 PRD (23, [18, 4], [0, 1, -1]) ws (vs ++ [n_v vs 0, Value.int y]) := by
    refine ⟨nf_inA hl rfl, sgq_7 ?_⟩
    · show 1 * v_iv (n_v (vs ++ [n_v vs 0, Value.int y]) 18) + ((-1) * v_iv (n_v (vs ++ [n_v vs 0, Value.int y]) 4) + 0) ≤ 0
      simp only [e_4, e_18]
      exact vc_Ho_draw_at_p_53_2 (v_iv (n_v vs 4)) (v_iv (Value.int y)) k4 ey2
  have nf3 : fc_1 PRD (23, [18, 4], [0, -1, 1]) ws (vs ++ [n_v vs 0, Value.int y]) := by
    refine ⟨nf_inA hl rfl, sgq_22 ?_⟩
    · show (-1) * v_iv (n_v (vs ++ [n_v vs 0, Value.int y]) 18) + (1 * v_iv (n_v (vs ++ [n_v vs 0, Value.int y]) 4) + 0) ≤ 0
      simp only [e_4, e_18]
      exact vc_Ho_draw_at_p_53_3 (v_iv (n_v vs 4)) (v_iv (Value.int y)) k4 ey2
  have nf4 : fc_1 PRD (20, [12], [60, 1, 1, 637, 0, 14]) ws (vs ++ [n_v vs 0, Value.int y]) := by
    refine ⟨nf_inA hl rfl, sgq_1792 ?_⟩
    · show SYG (w_fi ws (n_v (vs ++ [n_v vs 0, Value.int y]) 12) 0) (w_ei ws (w_ar ws (n_v (vs ++ [n_v vs 0, Value.int y]) 12) 14))
      simp only [e_12, q12]
      exact vc_Ho_draw_at_p_53_4 (w_fi ws (n_v vs 8) 0) (w_ei ws (w_ar ws (n_v vs 8) 14)) f7 kz_8_0
  have nf5 : fc_1 PRD (20, [14, 12, 13], [60, 3, 1, 644, 0, 1001, 2002, 16]) ws (vs ++ [n_v vs 0, Value.int y]) := by
    refine ⟨nf_inA hl rfl, sgq_2243 ?_⟩
    · show PLB (w_fi ws (n_v (vs ++ [n_v vs 0, Value.int y]) 14) 0) (w_fi ws (n_v (vs ++ [n_v vs 0, Value.int y]) 12) 1) (w_fi ws (n_v (vs ++ [n_v vs 0, Value.int y]) 13) 2) (w_ei ws (w_ar ws (n_v (vs ++ [n_v vs 0, Value.int y]) 14) 16))
      simp only [e_12, e_13, e_14, q12]
      exact vc_Ho_draw_at_p_53_5 (w_fi ws (n_v vs 8) 1) (w_fi ws (n_v vs 13) 2) (w_ei ws (w_ar ws (n_v vs 14) 16)) (w_fi ws (n_v vs 14) 0) f6 kz_8_1 kz_13_2 kz_14_0
  have nf6 : fc_1 PRD (20, [12, 13], [60, 3, 3, 673, 0, 1, 1002, 14, 7, 8]) ws (vs ++ [n_v vs 0, Value.int y]) := by
    refine ⟨nf_inA hl rfl, sgq_2131 ?_⟩
    · show BKS (w_fi ws (n_v (vs ++ [n_v vs 0, Value.int y]) 12) 0) (w_fi ws (n_v (vs ++ [n_v vs 0, Value.int y]) 12) 1) (w_fi ws (n_v (vs ++ [n_v vs 0, Value.int y]) 13) 2) (w_ei ws (w_ar ws (n_v (vs ++ [n_v vs 0, Value.int y]) 12) 14)) (w_ei ws (w_ar ws (n_v (vs ++ [n_v vs 0, Value.int y]) 12) 7)) (w_ei ws (w_ar ws (n_v (vs ++ [n_v vs 0, Value.int y]) 12) 8))
      simp only [e_12, e_13, q12]
      exact vc_Ho_draw_at_p_53_6 (w_fi ws (n_v vs 8) 0) (w_ei ws (w_ar ws (n_v vs 8) 7)) (w_ei ws (w_ar ws (n_v vs 8) 8)) (w_fi ws (n_v vs 8) 1) (w_ei ws (w_ar ws (n_v vs 8) 14)) (w_fi ws (n_v vs 13) 2) f5 kz_8_0 kz_8_1 kz_13_2
  have nf7 : fc_1 PRD (20, [12, 13], [60, 1, 2, 671, 0, 14, 1004]) ws (vs ++ [n_v vs 0, Value.int y]) := by
    refine ⟨nf_inA hl rfl, sgq_419 ?_⟩
    · show PNC (w_fi ws (n_v (vs ++ [n_v vs 0, Value.int y]) 12) 0) (w_ei ws (w_ar ws (n_v (vs ++ [n_v vs 0, Value.int y]) 12) 14)) (w_ei ws (w_ar ws (n_v (vs ++ [n_v vs 0, Value.int y]) 13) 4))
      simp only [e_12, e_13, q12]
      exact vc_Ho_draw_at_p_53_7 (w_fi ws (n_v vs 8) 0) (w_ei ws (w_ar ws (n_v vs 8) 14)) (w_ei ws (w_ar ws (n_v vs 13) 4)) f4 kz_8_0
  have nf8 : fc_1 PRD (20, [12, 13], [60, 2, 1, 672, 0, 1001, 1004]) ws (vs ++ [n_v vs 0, Value.int y]) := by
    refine ⟨nf_inA hl rfl, sgq_1179 ?_⟩
    · show FPA (w_fi ws (n_v (vs ++ [n_v vs 0, Value.int y]) 12) 0) (w_fi ws (n_v (vs ++ [n_v vs 0, Value.int y]) 13) 1) (w_ei ws (w_ar ws (n_v (vs ++ [n_v vs 0, Value.int y]) 13) 4))
      simp only [e_12, e_13, q12]
      exact vc_Ho_draw_at_p_53_8 (w_fi ws (n_v vs 8) 0) (w_ei ws (w_ar ws (n_v vs 13) 4)) (w_fi ws (n_v vs 13) 1) f3 kz_8_0 kz_13_1
  have nf9 : fc_1 PRD (20, [12], [60, 2, 3, 670, 0, 1, 14, 7, 8]) ws (vs ++ [n_v vs 0, Value.int y]) := by
    refine ⟨nf_inA hl rfl, sgq_825 ?_⟩
    · show GNB (w_fi ws (n_v (vs ++ [n_v vs 0, Value.int y]) 12) 0) (w_fi ws (n_v (vs ++ [n_v vs 0, Value.int y]) 12) 1) (w_ei ws (w_ar ws (n_v (vs ++ [n_v vs 0, Value.int y]) 12) 14)) (w_ei ws (w_ar ws (n_v (vs ++ [n_v vs 0, Value.int y]) 12) 7)) (w_ei ws (w_ar ws (n_v (vs ++ [n_v vs 0, Value.int y]) 12) 8))
      simp only [e_12, q12]
      exact vc_Ho_draw_at_p_53_9 (w_fi ws (n_v vs 8) 0) (w_ei ws (w_ar ws (n_v vs 8) 7)) (w_ei ws (w_ar ws (n_v vs 8) 8)) (w_fi ws (n_v vs 8) 1) (w_ei ws (w_ar ws (n_v vs 8) 14)) f2 kz_8_0 kz_8_1
  have nf10 : fc_1 PRD (20, [12], [60, 2, 2, 596, 0, 1, 7, 8]) ws (vs ++ [n_v vs 0, Value.int y]) := by
    refine ⟨nf_inA hl rfl, sgq_386 ?_⟩
    · show GKE (w_fi ws (n_v (vs ++ [n_v vs 0, Value.int y]) 12) 0) (w_fi ws (n_v (vs ++ [n_v vs 0, Value.int y]) 12) 1) (w_ei ws (w_ar ws (n_v (vs ++ [n_v vs 0, Value.int y]) 12) 7)) (w_ei ws (w_ar ws (n_v (vs ++ [n_v vs 0, Value.int y]) 12) 8))
      simp only [e_12, q12]
      exact vc_Ho_draw_at_p_53_10 (w_fi ws (n_v vs 8) 0) (w_ei ws (w_ar ws (n_v vs 8) 7)) (w_ei ws (w_ar ws (n_v vs 8) 8)) (w_fi ws (n_v vs 8) 1) f1 kz_8_0 kz_8_1
  have nf11 : fc_1 PRD (20, [17, 18, 16], [62, 2000000]) ws (vs ++ [n_v vs 0, Value.int y]) := by
    refine ⟨nf_inA hl rfl, sgq_1399 ?_⟩
    · show HY ws (n_v (vs ++ [n_v vs 0, Value.int y]) 17) (v_iv (n_v (vs ++ [n_v vs 0, Value.int y]) 18) + (((2000000 : Nat) : Int) - 2000000)) ∧ HYD ws (n_v (vs ++ [n_v vs 0, Value.int y]) 17) (n_v (vs ++ [n_v vs 0, Value.int y]) 16)
      simp only [e_16, e_17, e_18]
      exact ⟨hy_le f8.1 (by omega), f8.2⟩
  exact ⟨(fun _ h => (by cases h)), [n_v vs 0, Value.int y], ag_two t0 hy, List.forall_mem_cons.mpr ⟨⟨show (20 : Nat) < 100 from by decide, nf0⟩, List.forall_mem_cons.mpr ⟨⟨show (24 : Nat) < 100 from by decide, nf1⟩, List.forall_mem_cons.mpr ⟨⟨show (23 : Nat) < 100 from by decide, nf2⟩, List.forall_mem_cons.mpr ⟨⟨show (23 : Nat) < 100 from by decide, nf3⟩, List.forall_mem_cons.mpr ⟨⟨show (20 : Nat) < 100 from by decide, nf4⟩, List.forall_mem_cons.mpr ⟨⟨show (20 : Nat) < 100 from by decide, nf5⟩, List.forall_mem_cons.mpr ⟨⟨show (20 : Nat) < 100 from by decide, nf6⟩, List.forall_mem_cons.mpr ⟨⟨show (20 : Nat) < 100 from by decide, nf7⟩, List.forall_mem_cons.mpr ⟨⟨show (20 : Nat) < 100 from by decide, nf8⟩, List.forall_mem_cons.mpr ⟨⟨show (20 : Nat) < 100 from by decide, nf9⟩, List.forall_mem_cons.mpr ⟨⟨show (20 : Nat) < 100 from by decide, nf10⟩, List.forall_mem_cons.mpr ⟨⟨show (20 : Nat) < 100 from by decide, nf11⟩, (fun _ h => (by cases h))⟩⟩⟩⟩⟩⟩⟩⟩⟩⟩⟩⟩, (fun _ h => (by cases h))⟩
def o_Ho_draw_at_p_54 : or_T := (203, 20, [(0, (2, 0, 0, [12])), (4, (0, 0, 3066, [])), (8, (2, 0, 0, [3])), (9, (0, 1, 24, [])), (12, (2, 0, 0, [3])), (13, (2, 0, 0, [2])), (14, (2, 0, 0, [5])), (17, (2, 0, 0, [12])), (18, (0, 0, 3066, []))], [(9, [9, 8], [0]), (20, [12], [50, 1, 0, 0, 0, 2, 0, 1, 2, 0, 0]), (24, [0, 17], []), (23, [18, 4], [0, 1, -1]), (23, [18, 4], [0, -1, 1]), (20, [12], [60, 1, 1, 637, 0, 14]), (20, [14, 12, 13], [60, 3, 1, 644, 0, 1001, 2002, 16]), (20, [12, 13], [60, 3, 3, 673, 0, 1, 1002, 14, 7, 8]), (20, [12, 13], [60, 1, 2, 671, 0, 14, 1004]), (20, [12, 13], [60, 2, 1, 672, 0, 1001, 1004]), (20, [12], [60, 2, 3, 670, 0, 1, 14, 7, 8]), (20, [12], [60, 2, 2, 596, 0, 1, 7, 8]), (20, [12], [60, 2, 2, 596, 0, 1, 7, 8]), (20, [12], [60, 2, 3, 670, 0, 1, 14, 7, 8]), (20, [12, 13], [60, 2, 1, 672, 0, 1001, 1004]), (20, [12, 13], [60, 1, 2, 671, 0, 14, 1004]), (20, [12, 13], [60, 3, 3, 673, 0, 1, 1002, 14, 7, 8]), (20, [14, 12, 13], [60, 3, 1, 644, 0, 1001, 2002, 16]), (20, [12], [60, 1, 1, 637, 0, 14]), (24, [8, 12], []), (20, [8], [50, 1, 0, 0, 0, 2, 0, 1, 2, 0, 0]), (20, [13], [50, 1, 0, 0, 7, 3, 2, 0, 0, 0, 0]), (20, [14], [50, 1, 0, 0, 0, 2, 0, 0, 2, 0, 0]), (20, [17, 18], [62, 2000006]), (102, [18], [31766521725675121767675041100378181161416636632180585452153603028966503407635894593110016, 7003, 294005, 294006, 294013]), (23, [18, 4], [0, 1, -1]), (23, [18, 4], [0, -1, 1]), (102, [13], [712230049778071777201162559065590005831303168, 1000, 1005, 1006, 1007, 1015, 1016, 1017, 1018, 5000, 5002, 5003, 5005, 5006, 5013, 149005, 149006, 149013]), (102, [12], [281337537757184, 2000, 2001, 2002, 2003]), (8, [9], [1])], [], [], [(20, [0, 4], [62, 2000006])], [], [])
theorem oo_Ho_draw_at_p_54 {kA : Nat → ClassId} : or_ok PRD kA GG o_Ho_draw_at_p_54 := by
  refine or_mk fun A ta ws vs hD hth hl => ?_
  intro t0 r0 t4 k4 t8 r8 t9 k9 t12 r12 t13 r13 t14 r14 t17 r17 t18 k18 f0 f1 f2 f3 f4 f5 f6 f7 f8 f9 f10 f11 f12 f13 f14 f15 f16 f17 f18 f19 f20 f21 f22 f23 ta1 w1 le1 s1 f25 f26 ta2 w2 le2 s2 ta3 w3 le3 s3 f29
  replace f0 := shm_163 f0
  replace f1 := shm_1220 f1
  replace f2 := shm_5 f2
  replace f3 := shm_7 f3
  replace f4 := shm_22 f4
  replace f5 := shm_1792 f5
  replace f6 := shm_2243 f6
  replace f7 := shm_2131 f7
  replace f8 := shm_419 f8
  replace f9 := shm_1179 f9
  replace f10 := shm_825 f10
  replace f11 := shm_386 f11
  replace f12 := shm_386 f12
  replace f13 := shm_825 f13
  replace f14 := shm_1179 f14
  replace f15 := shm_419 f15
  replace f16 := shm_2131 f16
  replace f17 := shm_2243 f17
  replace f18 := shm_1792 f18
  replace f19 := shm_5 f19
  replace f20 := shm_1220 f20
  replace f21 := shm_2130 f21
  replace f22 := shm_1616 f22
  replace f23 := shm_270 f23
  replace f25 := shm_7 f25
  replace f26 := shm_22 f26
  replace f29 := shm_142 f29
  have q17 : n_v vs 17 = n_v vs 0 := f2.symm
  have q12 : n_v vs 12 = n_v vs 8 := f19.symm
  simp only [q12, q17] at f1 f5 f6 f7 f8 f9 f10 f11 f12 f13 f14 f15 f16 f17 f18 f23
  have cr_8_7 := fdq_46 hD hth r8
  have cr_8_8 := fdq_47 hD hth r8
  have cr_8_14 := fdq_75 hD hth r8
  have cr_13_4 := fdq_87 hD hth r13
  have cr_14_16 := fdq_91 hD hth r14
  have g0 : v_iv (n_v vs 9) = w_fi ws (n_v vs 8) 0 := congrArg v_iv f0
  have hK_8_7 := elq_11 hD hth cr_8_7
  have hK_8_8 := elq_12 hD hth cr_8_8
  have hK_8_14 := elq_25 hD hth cr_8_14
  have hK_13_4 := elq_29 hD hth cr_13_4
  have hK_14_16 := elq_47 hD hth cr_14_16
  have kz_8_0 := fdq_21 hD hth r8
  have kz_8_1 := fdq_30 hD hth r8
  have kz_13_0 := fdq_294 hD hth r13
  have kz_13_1 := fdq_278 hD hth r13
  have kz_13_2 := fdq_295 hD hth r13
  have kz_14_0 := fdq_78 hD hth r14
  have nf0 : fc_1 PRD (20, [0, 4], [62, 2000006]) ws (vs) := by
    refine ⟨nf_in hl rfl, sgq_270 ?_⟩
    · show HY ws (n_v vs 0) (v_iv (n_v vs 4) + (((2000006 : Nat) : Int) - 2000000))
      exact hy_le f23 (by omega)
  refine ⟨(fun _ h => (by cases h)), [], trivial, ?_, (fun _ h => (by cases h))⟩
  rw [List.append_nil]
  exact List.forall_mem_cons.mpr ⟨⟨show (20 : Nat) < 100 from by decide, nf0⟩, (fun _ h => (by cases h))⟩
def o_Ho_draw_at_p_55 : or_T := (203, 21, [(0, (2, 0, 0, [12])), (4, (0, 0, 3066, [])), (8, (2, 0, 0, [3])), (9, (0, 1, 24, [])), (12, (2, 0, 0, [3])), (13, (2, 0, 0, [2])), (14, (2, 0, 0, [5])), (17, (2, 0, 0, [12])), (18, (0, 0, 3066, [])), (20, (2, 0, 0, [0]))], [(9, [9, 8], [0]), (20, [12], [50, 1, 0, 0, 0, 2, 0, 1, 2, 0, 0]), (24, [0, 17], []), (23, [18, 4], [0, 1, -1]), (23, [18, 4], [0, -1, 1]), (20, [12], [60, 1, 1, 637, 0, 14]), (20, [14, 12, 13], [60, 3, 1, 644, 0, 1001, 2002, 16]), (20, [12, 13], [60, 3, 3, 673, 0, 1, 1002, 14, 7, 8]), (20, [12, 13], [60, 1, 2, 671, 0, 14, 1004]), (20, [12, 13], [60, 2, 1, 672, 0, 1001, 1004]), (20, [12], [60, 2, 3, 670, 0, 1, 14, 7, 8]), (20, [12], [60, 2, 2, 596, 0, 1, 7, 8]), (20, [12], [60, 2, 2, 596, 0, 1, 7, 8]), (20, [12], [60, 2, 3, 670, 0, 1, 14, 7, 8]), (20, [12, 13], [60, 2, 1, 672, 0, 1001, 1004]), (20, [12, 13], [60, 1, 2, 671, 0, 14, 1004]), (20, [12, 13], [60, 3, 3, 673, 0, 1, 1002, 14, 7, 8]), (20, [14, 12, 13], [60, 3, 1, 644, 0, 1001, 2002, 16]), (20, [12], [60, 1, 1, 637, 0, 14]), (24, [8, 12], []), (20, [8], [50, 1, 0, 0, 0, 2, 0, 1, 2, 0, 0]), (20, [13], [50, 1, 0, 0, 7, 3, 2, 0, 0, 0, 0]), (20, [14], [50, 1, 0, 0, 0, 2, 0, 0, 2, 0, 0]), (20, [17, 18], [62, 2000006]), (101, [20, 2], [1]), (20, [12], [50, 1, 0, 0, 0, 2, 0, 1, 2, 0, 0]), (23, [18, 4], [0, 1, -1]), (23, [18, 4], [0, -1, 1]), (20, [12], [60, 1, 1, 637, 0, 14]), (20, [14, 12, 13], [60, 3, 1, 644, 0, 1001, 2002, 16]), (20, [12, 13], [60, 3, 3, 673, 0, 1, 1002, 14, 7, 8]), (20, [12, 13], [60, 1, 2, 671, 0, 14, 1004]), (20, [12, 13], [60, 2, 1, 672, 0, 1001, 1004]), (20, [12], [60, 2, 3, 670, 0, 1, 14, 7, 8]), (20, [12], [60, 2, 2, 596, 0, 1, 7, 8]), (20, [12], [60, 2, 2, 596, 0, 1, 7, 8]), (20, [12], [60, 2, 3, 670, 0, 1, 14, 7, 8]), (20, [12, 13], [60, 2, 1, 672, 0, 1001, 1004]), (20, [12, 13], [60, 1, 2, 671, 0, 14, 1004]), (20, [12, 13], [60, 3, 3, 673, 0, 1, 1002, 14, 7, 8]), (20, [14, 12, 13], [60, 3, 1, 644, 0, 1001, 2002, 16]), (20, [12], [60, 1, 1, 637, 0, 14]), (20, [8], [50, 1, 0, 0, 0, 2, 0, 1, 2, 0, 0]), (20, [13], [50, 1, 0, 0, 7, 3, 2, 0, 0, 0, 0]), (20, [14], [50, 1, 0, 0, 0, 2, 0, 0, 2, 0, 0]), (102, [18], [31766521725675121767675041100378181161416636632180585452153603028966503407635894593110016, 7003, 294005, 294006, 294013]), (23, [18, 4], [0, 1, -1]), (23, [18, 4], [0, -1, 1]), (102, [13], [712230049778071777201162559065590005831303168, 1000, 1005, 1006, 1007, 1015, 1016, 1017, 1018, 5000, 5002, 5003, 5005, 5006, 5013, 149005, 149006, 149013]), (102, [12], [281337537757184, 2000, 2001, 2002, 2003]), (8, [9], [1])], [], [], [(20, [0, 4], [62, 2000006])], [], [])
theorem oo_Ho_draw_at_p_55 {kA : Nat → ClassId} : or_ok PRD kA GG o_Ho_draw_at_p_55 := by
  refine or_mk fun A ta ws vs hD hth hl => ?_
  intro t0 r0 t4 k4 t8 r8 t9 k9 t12 r12 t13 r13 t14 r14 t17 r17 t18 k18 t20 r20 f0 f1 f2 f3 f4 f5 f6 f7 f8 f9 f10 f11 f12 f13 f14 f15 f16 f17 f18 f19 f20 f21 f22 f23 ta1 w1 le1 s1 f25 f26 f27 f28 f29 f30 f31 f32 f33 f34 f35 f36 f37 f38 f39 f40 f41 f42 f43 f44 ta2 w2 le2 s2 f46 f47 ta3 w3 le3 s3 ta4 w4 le4 s4 f50
  replace f0 := shm_163 f0
  replace f1 := shm_1220 f1
  replace f2 := shm_5 f2
  replace f3 := shm_7 f3
  replace f4 := shm_22 f4
  replace f5 := shm_1792 f5
  replace f6 := shm_2243 f6
  replace f7 := shm_2131 f7
  replace f8 := shm_419 f8
  replace f9 := shm_1179 f9
  replace f10 := shm_825 f10
  replace f11 := shm_386 f11
  replace f12 := shm_386 f12
  replace f13 := shm_825 f13
  replace f14 := shm_1179 f14
  replace f15 := shm_419 f15
  replace f16 := shm_2131 f16
  replace f17 := shm_2243 f17
  replace f18 := shm_1792 f18
  replace f19 := shm_5 f19
  replace f20 := shm_1220 f20
  replace f21 := shm_2130 f21
  replace f22 := shm_1616 f22
  replace f23 := shm_270 f23
  have s1 : (∀ b j, w_el ws b j = w_el w1 b j) ∧ ∀ b j, w_fd ws b j = if b = v_ad (n_v vs 20) ∧ j = 1 then n_v vs 2 else w_fd w1 b j := s1.2
  replace f25 := shm_1220 f25
  replace f26 := shm_7 f26
  replace f27 := shm_22 f27
  replace f28 := shm_1792 f28
  replace f29 := shm_2243 f29
  replace f30 := shm_2131 f30
  replace f31 := shm_419 f31
  replace f32 := shm_1179 f32
  replace f33 := shm_825 f33
  replace f34 := shm_386 f34
  replace f35 := shm_386 f35
  replace f36 := shm_825 f36
  replace f37 := shm_1179 f37
  replace f38 := shm_419 f38
  replace f39 := shm_2131 f39
  replace f40 := shm_2243 f40
  replace f41 := shm_1792 f41
  replace f42 := shm_1220 f42
  replace f43 := shm_2130 f43
  replace f44 := shm_1616 f44
  replace f46 := shm_7 f46
  replace f47 := shm_22 f47
  replace f50 := shm_142 f50
  have q17 : n_v vs 17 = n_v vs 0 := f2.symm
  have q12 : n_v vs 12 = n_v vs 8 := f19.symm
  simp only [q12, q17] at f1 f5 f6 f7 f8 f9 f10 f11 f12 f13 f14 f15 f16 f17 f18 f23 f25 f28 f29 f30 f31 f32 f33 f34 f35 f36 f37 f38 f39 f40 f41
  have ar_8_7_1 : w_ar w1 (n_v vs 8) 7 = w_ar ws (n_v vs 8) 7 := by show v_ad (w_fd w1 _ _) = v_ad (w_fd ws _ _); rw [s1.2, if_neg (fun e => absurd e.2 (by decide))]
  have cr_8_7 := fdq_46 hD hth r8
  have ar_8_8_1 : w_ar w1 (n_v vs 8) 8 = w_ar ws (n_v vs 8) 8 := by show v_ad (w_fd w1 _ _) = v_ad (w_fd ws _ _); rw [s1.2, if_neg (fun e => absurd e.2 (by decide))]
  have cr_8_8 := fdq_47 hD hth r8
  have ar_8_14_1 : w_ar w1 (n_v vs 8) 14 = w_ar ws (n_v vs 8) 14 := by show v_ad (w_fd w1 _ _) = v_ad (w_fd ws _ _); rw [s1.2, if_neg (fun e => absurd e.2 (by decide))]
  have cr_8_14 := fdq_75 hD hth r8
  have ar_13_4_1 : w_ar w1 (n_v vs 13) 4 = w_ar ws (n_v vs 13) 4 := by show v_ad (w_fd w1 _ _) = v_ad (w_fd ws _ _); rw [s1.2, if_neg (fun e => absurd e.2 (by decide))]
  have cr_13_4 := fdq_87 hD hth r13
  have ar_14_16_1 : w_ar w1 (n_v vs 14) 16 = w_ar ws (n_v vs 14) 16 := by show v_ad (w_fd w1 _ _) = v_ad (w_fd ws _ _); rw [s1.2, if_neg (fun e => absurd e.2 (by decide))]
  have cr_14_16 := fdq_91 hD hth r14
  have g0 : v_iv (n_v vs 9) = w_fi ws (n_v vs 8) 0 := congrArg v_iv f0
  simp only [ar_8_14_1, ar_14_16_1, ar_8_7_1, ar_8_8_1, ar_13_4_1] at f28 f29 f30 f31 f32 f33 f34 f35 f36 f37 f38 f39 f40 f41
  have fe_8_0_1 : w_fi ws (n_v vs 8) 0 = w_fi w1 (n_v vs 8) 0 := by show v_iv (w_fd _ _ _) = v_iv (w_fd _ _ _); rw [s1.2, if_neg (fun e => absurd e.2 (by decide))]
  have fe_8_1_1 : w_fi ws (n_v vs 8) 1 = w_fi w1 (n_v vs 8) 1 := by show v_iv (w_fd _ _ _) = v_iv (w_fd _ _ _); rw [s1.2, if_neg (fun e => by have e1 := e.1; have e2 := r8; rw [e1, r20] at e2; exact absurd (Option.some.inj e2) (by decide))]
  have fe_13_0_1 : w_fi ws (n_v vs 13) 0 = w_fi w1 (n_v vs 13) 0 := by show v_iv (w_fd _ _ _) = v_iv (w_fd _ _ _); rw [s1.2, if_neg (fun e => absurd e.2 (by decide))]
  have fe_13_1_1 : w_fi ws (n_v vs 13) 1 = w_fi w1 (n_v vs 13) 1 := by show v_iv (w_fd _ _ _) = v_iv (w_fd _ _ _); rw [s1.2, if_neg (fun e => by have e1 := e.1; have e2 := r13; rw [e1, r20] at e2; exact absurd (Option.some.inj e2) (by decide))]
  have fe_13_2_1 : w_fi ws (n_v vs 13) 2 = w_fi w1 (n_v vs 13) 2 := by show v_iv (w_fd _ _ _) = v_iv (w_fd _ _ _); rw [s1.2, if_neg (fun e => absurd e.2 (by decide))]
  have fe_14_0_1 : w_fi ws (n_v vs 14) 0 = w_fi w1 (n_v vs 14) 0 := by show v_iv (w_fd _ _ _) = v_iv (w_fd _ _ _); rw [s1.2, if_neg (fun e => absurd e.2 (by decide))]
  have hE_8_7_1 : ∀ j : Int, w_ei ws (w_ar ws (n_v vs 8) 7) j = w_ei w1 (w_ar ws (n_v vs 8) 7) j := fun j => s1.1 _ _
  have hK_8_7 := elq_11 hD hth cr_8_7
  have hE_8_8_1 : ∀ j : Int, w_ei ws (w_ar ws (n_v vs 8) 8) j = w_ei w1 (w_ar ws (n_v vs 8) 8) j := fun j => s1.1 _ _
  have hK_8_8 := elq_12 hD hth cr_8_8
  have hE_8_14_1 : ∀ j : Int, w_ei ws (w_ar ws (n_v vs 8) 14) j = w_ei w1 (w_ar ws (n_v vs 8) 14) j := fun j => s1.1 _ _
  have hK_8_14 := elq_25 hD hth cr_8_14
  have hE_13_4_1 : ∀ j : Int, w_ei ws (w_ar ws (n_v vs 13) 4) j = w_ei w1 (w_ar ws (n_v vs 13) 4) j := fun j => s1.1 _ _
  have hK_13_4 := elq_29 hD hth cr_13_4
  have hE_14_16_1 : ∀ j : Int, w_ei ws (w_ar ws (n_v vs 14) 16) j = w_ei w1 (w_ar ws (n_v vs 14) 16) j := fun j => s1.1 _ _
  have hK_14_16 := elq_47 hD hth cr_14_16
  have kz_8_0 := fdq_21 hD hth r8
  have kz_8_1 := fdq_30 hD hth r8
  have kz_13_0 := fdq_294 hD hth r13
  have kz_13_1 := fdq_278 hD hth r13
  have kz_13_2 := fdq_295 hD hth r13
  have kz_14_0 := fdq_78 hD hth r14
  have nf0 : fc_1 PRD (20, [0, 4], [62, 2000006]) ws (vs) := by
    refine ⟨nf_in hl rfl, sgq_270 ?_⟩
    · show HY ws (n_v vs 0) (v_iv (n_v vs 4) + (((2000006 : Nat) : Int) - 2000000))
      exact hy_le f23 (by omega)
  refine ⟨(fun _ h => (by cases h)), [], trivial, ?_, (fun _ h => (by cases h))⟩
  rw [List.append_nil]
  exact List.forall_mem_cons.mpr ⟨⟨show (20 : Nat) < 100 from by decide, nf0⟩, (fun _ h => (by cases h))⟩
def o_Ho_draw_at_p_56 : or_T := (30, 11, [(0, (2, 0, 0, [12])), (4, (0, 0, 3066, []))], [(20, [0, 4], [62, 2000000])], [], [], [(20, [0, 4], [62, 2000006])], [], [])
theorem oo_Ho_draw_at_p_56 {kA : Nat → ClassId} : or_ok PRD kA GG o_Ho_draw_at_p_56 := by
  refine or_mk fun A ta ws vs hD hth hl => ?_
  intro t0 r0 t4 k4 f0
  replace f0 := shm_161 f0
  have nf0 : fc_1 PRD (20, [0, 4], [62, 2000006]) ws (vs) := by
    refine ⟨nf_in hl rfl, sgq_270 ?_⟩
    · show HY ws (n_v vs 0) (v_iv (n_v vs 4) + (((2000006 : Nat) : Int) - 2000000))
      exact hy_le f0 (by omega)
  refine ⟨(fun _ h => (by cases h)), [], trivial, ?_, (fun _ h => (by cases h))⟩
  rw [List.append_nil]
  exact List.forall_mem_cons.mpr ⟨⟨show (20 : Nat) < 100 from by decide, nf0⟩, (fun _ h => (by cases h))⟩
def n_Ho_draw_at_p_an : List an_T := []
def t_Ho_draw_at_p_ct : ct_L := [(0, 115, e_Ho_isPlace), (1, 147, e_Ho_learned), (1, 261, e_Ho_embedded), (1, 300, e_Pn_lay), (1, 306, e_Pl_lay), (2000095, 0, e_Pn_init_nw), (2000148, 0, e_Pl_init_nw)]
set_option maxRecDepth 100000 in
theorem c_Ho_draw_at_p {l : Launch} {D : va_G} {kA : Nat → ClassId} (h_Ho_embedded : ct_ok PRD l D kA GG y_Ho_embedded z_Ho_embedded e_Ho_embedded) (h_Ho_isPlace : ct_ok PRD l D kA GG y_Ho_isPlace z_Ho_isPlace e_Ho_isPlace) (h_Ho_learned : ct_ok PRD l D kA GG y_Ho_learned z_Ho_learned e_Ho_learned) (h_Pl_init : ct_ok PRD l D kA GG y_Pl_init z_Pl_init e_Pl_init) (h_Pl_lay : ct_ok PRD l D kA GG y_Pl_lay z_Pl_lay e_Pl_lay) (h_Pn_init : ct_ok PRD l D kA GG y_Pn_init z_Pn_init e_Pn_init) (h_Pn_lay : ct_ok PRD l D kA GG y_Pn_lay z_Pn_lay e_Pn_lay) : ct_ok PRD l D kA GG y_Ho_draw_at_p z_Ho_draw_at_p e_Ho_draw_at_p := chk_all_ok (FT := [(13, 12, 0), (31, 12, 3), (86, 12, 17), (90, 12, 18), (94, 12, 19), (132, 3, 0)]) (PT := [(86, 12, 17, .object "DrawingHouse$Layers"), (90, 12, 18, .object "DrawingHouse$PlanarWays"), (94, 12, 19, .object "DrawingHouse$PlainWays"), (309, 0, 1, .int)]) (CT := t_Ho_draw_at_p_ct) (KT := []) (NT := []) (AN := n_Ho_draw_at_p_an) (OT := [o_Ho_draw_at_p_0, o_Ho_draw_at_p_1, o_Ho_draw_at_p_2, o_Ho_draw_at_p_3, o_Ho_draw_at_p_4, o_Ho_draw_at_p_5, o_Ho_draw_at_p_6, o_Ho_draw_at_p_7, o_Ho_draw_at_p_8, o_Ho_draw_at_p_9, o_Ho_draw_at_p_10, o_Ho_draw_at_p_11, o_Ho_draw_at_p_12, o_Ho_draw_at_p_13, o_Ho_draw_at_p_14, o_Ho_draw_at_p_15, o_Ho_draw_at_p_16, o_Ho_draw_at_p_17, o_Ho_draw_at_p_18, o_Ho_draw_at_p_19, o_Ho_draw_at_p_20, o_Ho_draw_at_p_21, o_Ho_draw_at_p_22, o_Ho_draw_at_p_23, o_Ho_draw_at_p_24, o_Ho_draw_at_p_25, o_Ho_draw_at_p_26, o_Ho_draw_at_p_27, o_Ho_draw_at_p_28, o_Ho_draw_at_p_29, o_Ho_draw_at_p_30, o_Ho_draw_at_p_31, o_Ho_draw_at_p_32, o_Ho_draw_at_p_33, o_Ho_draw_at_p_34, o_Ho_draw_at_p_35, o_Ho_draw_at_p_36, o_Ho_draw_at_p_37, o_Ho_draw_at_p_38, o_Ho_draw_at_p_39, o_Ho_draw_at_p_40, o_Ho_draw_at_p_41, o_Ho_draw_at_p_42, o_Ho_draw_at_p_43, o_Ho_draw_at_p_44, o_Ho_draw_at_p_45, o_Ho_draw_at_p_46, o_Ho_draw_at_p_47, o_Ho_draw_at_p_48, o_Ho_draw_at_p_49, o_Ho_draw_at_p_50, o_Ho_draw_at_p_51, o_Ho_draw_at_p_52, o_Ho_draw_at_p_53, o_Ho_draw_at_p_54, o_Ho_draw_at_p_55, o_Ho_draw_at_p_56]) 0 652 (List.forall_mem_cons.mpr ⟨oo_Ho_draw_at_p_0, List.forall_mem_cons.mpr ⟨oo_Ho_draw_at_p_1, List.forall_mem_cons.mpr ⟨oo_Ho_draw_at_p_2, List.forall_mem_cons.mpr ⟨oo_Ho_draw_at_p_3, List.forall_mem_cons.mpr ⟨oo_Ho_draw_at_p_4, List.forall_mem_cons.mpr ⟨oo_Ho_draw_at_p_5, List.forall_mem_cons.mpr ⟨oo_Ho_draw_at_p_6, List.forall_mem_cons.mpr ⟨oo_Ho_draw_at_p_7, List.forall_mem_cons.mpr ⟨oo_Ho_draw_at_p_8, List.forall_mem_cons.mpr ⟨oo_Ho_draw_at_p_9, List.forall_mem_cons.mpr ⟨oo_Ho_draw_at_p_10, List.forall_mem_cons.mpr ⟨oo_Ho_draw_at_p_11, List.forall_mem_cons.mpr ⟨oo_Ho_draw_at_p_12, List.forall_mem_cons.mpr ⟨oo_Ho_draw_at_p_13, List.forall_mem_cons.mpr ⟨oo_Ho_draw_at_p_14, List.forall_mem_cons.mpr ⟨oo_Ho_draw_at_p_15, List.forall_mem_cons.mpr ⟨oo_Ho_draw_at_p_16, List.forall_mem_cons.mpr ⟨oo_Ho_draw_at_p_17, List.forall_mem_cons.mpr ⟨oo_Ho_draw_at_p_18, List.forall_mem_cons.mpr ⟨oo_Ho_draw_at_p_19, List.forall_mem_cons.mpr ⟨oo_Ho_draw_at_p_20, List.forall_mem_cons.mpr ⟨oo_Ho_draw_at_p_21, List.forall_mem_cons.mpr ⟨oo_Ho_draw_at_p_22, List.forall_mem_cons.mpr ⟨oo_Ho_draw_at_p_23, List.forall_mem_cons.mpr ⟨oo_Ho_draw_at_p_24, List.forall_mem_cons.mpr ⟨oo_Ho_draw_at_p_25, List.forall_mem_cons.mpr ⟨oo_Ho_draw_at_p_26, List.forall_mem_cons.mpr ⟨oo_Ho_draw_at_p_27, List.forall_mem_cons.mpr ⟨oo_Ho_draw_at_p_28, List.forall_mem_cons.mpr ⟨oo_Ho_draw_at_p_29, List.forall_mem_cons.mpr ⟨oo_Ho_draw_at_p_30, List.forall_mem_cons.mpr ⟨oo_Ho_draw_at_p_31, List.forall_mem_cons.mpr ⟨oo_Ho_draw_at_p_32, List.forall_mem_cons.mpr ⟨oo_Ho_draw_at_p_33, List.forall_mem_cons.mpr ⟨oo_Ho_draw_at_p_34, List.forall_mem_cons.mpr ⟨oo_Ho_draw_at_p_35, List.forall_mem_cons.mpr ⟨oo_Ho_draw_at_p_36, List.forall_mem_cons.mpr ⟨oo_Ho_draw_at_p_37, List.forall_mem_cons.mpr ⟨oo_Ho_draw_at_p_38, List.forall_mem_cons.mpr ⟨oo_Ho_draw_at_p_39, List.forall_mem_cons.mpr ⟨oo_Ho_draw_at_p_40, List.forall_mem_cons.mpr ⟨oo_Ho_draw_at_p_41, List.forall_mem_cons.mpr ⟨oo_Ho_draw_at_p_42, List.forall_mem_cons.mpr ⟨oo_Ho_draw_at_p_43, List.forall_mem_cons.mpr ⟨oo_Ho_draw_at_p_44, List.forall_mem_cons.mpr ⟨oo_Ho_draw_at_p_45, List.forall_mem_cons.mpr ⟨oo_Ho_draw_at_p_46, List.forall_mem_cons.mpr ⟨oo_Ho_draw_at_p_47, List.forall_mem_cons.mpr ⟨oo_Ho_draw_at_p_48, List.forall_mem_cons.mpr ⟨oo_Ho_draw_at_p_49, List.forall_mem_cons.mpr ⟨oo_Ho_draw_at_p_50, List.forall_mem_cons.mpr ⟨oo_Ho_draw_at_p_51, List.forall_mem_cons.mpr ⟨oo_Ho_draw_at_p_52, List.forall_mem_cons.mpr ⟨oo_Ho_draw_at_p_53, List.forall_mem_cons.mpr ⟨oo_Ho_draw_at_p_54, List.forall_mem_cons.mpr ⟨oo_Ho_draw_at_p_55, List.forall_mem_cons.mpr ⟨oo_Ho_draw_at_p_56, List.forall_mem_nil _⟩⟩⟩⟩⟩⟩⟩⟩⟩⟩⟩⟩⟩⟩⟩⟩⟩⟩⟩⟩⟩⟩⟩⟩⟩⟩⟩⟩⟩⟩⟩⟩⟩⟩⟩⟩⟩⟩⟩⟩⟩⟩⟩⟩⟩⟩⟩⟩⟩⟩⟩⟩⟩⟩⟩⟩⟩) (by decide +kernel) ⟨List.forall_mem_cons.mpr ⟨gf_Ho_13, List.forall_mem_cons.mpr ⟨gf_Ho_31, List.forall_mem_cons.mpr ⟨gf_Ho_86, List.forall_mem_cons.mpr ⟨gf_Ho_90, List.forall_mem_cons.mpr ⟨gf_Ho_94, List.forall_mem_cons.mpr ⟨gf_Ho_132, List.forall_mem_nil _⟩⟩⟩⟩⟩⟩, List.forall_mem_cons.mpr ⟨pf_Ho_86, List.forall_mem_cons.mpr ⟨pf_Ho_90, List.forall_mem_cons.mpr ⟨pf_Ho_94, List.forall_mem_cons.mpr ⟨pf_Ho_309, List.forall_mem_nil _⟩⟩⟩⟩, List.forall_mem_cons.mpr ⟨cl_static (y := y_Ho_isPlace) h_Ho_isPlace wm_633 wm_1 wm_631 wm_632 ⟨by decide, by decide, by decide +kernel⟩ (by decide), List.forall_mem_cons.mpr ⟨cl_virtual (y := y_Ho_learned) (ci := 12) rfl rfl ⟨_, _, rfl⟩ (by decide +kernel) h_Ho_learned wm_810 wm_1 wm_807 wm_809 wv_1_14 ⟨by decide, by decide, by decide +kernel⟩ (by decide), List.forall_mem_cons.mpr ⟨cl_virtual (y := y_Ho_embedded) (ci := 12) rfl rfl ⟨_, _, rfl⟩ (by decide +kernel) h_Ho_embedded wm_1052 wm_1 wm_1049 wm_1051 wv_3_6 ⟨by decide, by decide, by decide +kernel⟩ (by decide), List.forall_mem_cons.mpr ⟨cl_virtual (y := y_Pn_lay) (ci := 7) rfl rfl ⟨_, _, rfl⟩ (by decide +kernel) h_Pn_lay wm_1504 wm_20 wm_1501 wm_1502 wm_1503 ⟨by decide, by decide, by decide +kernel⟩ (by decide), List.forall_mem_cons.mpr ⟨cl_virtual (y := y_Pl_lay) (ci := 6) rfl rfl ⟨_, _, rfl⟩ (by decide +kernel) h_Pl_lay wm_1687 wm_21 wm_1684 wm_1685 wm_1686 ⟨by decide, by decide, by decide +kernel⟩ (by decide), List.forall_mem_cons.mpr ⟨cq_new (PQ := PRD) (pc := 95) (idx := 297) (index := 299) (rr := 301) (r := 7) h_Pn_init rfl rfl (by decide +kernel) (by decide +kernel) rfl rfl rfl (ro_none (G := GG) (by decide +kernel)) rfl rfl rfl rfl (by decide +kernel) (by decide +kernel) (by decide +kernel) i_Pn t_Pn t_Pn_ok wm_1465 wm_1466 wm_20 rfl f0Pn_ok wm_1469 wm_20 (Or.inr ⟨_, wn_1467⟩) wm_1468 rfl ⟨by decide, by decide, by decide +kernel⟩ (by decide) (by decide +kernel) (by decide +kernel) (by decide +kernel), List.forall_mem_cons.mpr ⟨cq_new (PQ := PRD) (pc := 148) (idx := 303) (index := 305) (rr := 302) (r := 6) h_Pl_init rfl rfl (by decide +kernel) (by decide +kernel) rfl rfl rfl (ro_none (G := GG) (by decide +kernel)) rfl rfl rfl rfl (by decide +kernel) (by decide +kernel) (by decide +kernel) i_Pl t_Pl t_Pl_ok wm_1619 wm_1620 wm_21 rfl f0Pl_ok wm_1623 wm_21 (Or.inr ⟨_, wn_1621⟩) wm_1622 rfl ⟨by decide, by decide, by decide +kernel⟩ (by decide) (by decide +kernel) (by decide +kernel) (by decide +kernel), List.forall_mem_nil _⟩⟩⟩⟩⟩⟩⟩, List.forall_mem_nil _, List.forall_mem_nil _, GG_pl⟩ (by decide +kernel)
end
