theorem oo_Pn_placeNext_13 {kA : Nat → ClassId} : or_ok PRD kA GG o_Pn_placeNext_13 := by
  refine or_mk fun A ta ws vs hD hth hl => ?_
  intro t0 r0 t1 r1 t3 r3 t6 k6 t7 r7 t8 r8 t9 k9 t10 k10 t11 k11 t12 k12 t13 r13 t14 k14 t15 r15 t16 k16 t17 k17 t18 k18 t19 k19 t20 k20 t21 r21 t22 k22 t23 k23 t24 k24 t25 k25 t26 k26 d0 d1 d2 d3 d4 d5 d6 d7 f0 f1 f2 f3 f4 f5 f6 f7 f8 f9 f10 f11 f12 f13 f14 f15 f16 f17 f18 f19 ta1 w1 le1 s1 f21 f22 f23 f24 f25 f26 f27 f28 f29 f30 f31 f32 f33 f34 f35 f36 f37 f38 f39 ta2 w2 le2 s2 f41 f42 f43 f44 f45 f46 f47 f48
  replace f0 := shm_107 f0
  replace f1 := shm_129 f1
  replace f4 := shm_4 f4
  replace f18 := shm_5 f18
  replace f19 := shm_5 f19
  have s1 : (∀ b j, w_el ws b j = if b = v_ad (n_v vs 21) ∧ j = (v_iv (n_v vs 9)).toNat then v_iv (n_v vs 25) else w_el w1 b j) ∧ ∀ b k, w_fd ws b k = w_fd w1 b k := s1.2
  replace f22 := shm_372 f22
  replace f23 := shm_106 f23
  replace f24 := shm_106 f24
  replace f26 := shm_106 f26
  replace f35 := shm_871 f35
  replace f39 := shm_448 f39
  have q7 : n_v vs 7 = n_v vs 0 := f18.symm
  have q8 : n_v vs 8 = n_v vs 1 := f19.symm
  simp only [q7, q8] at f0 f1 f35 f39
  have ar_0_1_1 : w_ar w1 (n_v vs 0) 1 = w_ar ws (n_v vs 0) 1 := congrArg v_ad (s1.2 _ _).symm
  have cr_0_1 := fdq_96 hD hth r0
  have ar_0_2_1 : w_ar w1 (n_v vs 0) 2 = w_ar ws (n_v vs 0) 2 := congrArg v_ad (s1.2 _ _).symm
  have cr_0_2 := fdq_222 hD hth r0
  have ar_0_4_1 : w_ar w1 (n_v vs 0) 4 = w_ar ws (n_v vs 0) 4 := congrArg v_ad (s1.2 _ _).symm
  have ar_1_2_1 : w_ar w1 (n_v vs 1) 2 = w_ar ws (n_v vs 1) 2 := congrArg v_ad (s1.2 _ _).symm
  have cr_1_2 := fdq_51 hD hth r1
  have ar_1_3_1 : w_ar w1 (n_v vs 1) 3 = w_ar ws (n_v vs 1) 3 := congrArg v_ad (s1.2 _ _).symm
  have cr_1_3 := fdq_54 hD hth r1
  have ad_21 : v_ad (n_v vs 21) = w_ar ws (n_v vs 0) 4 := congrArg v_ad f0
  have ad_15 : v_ad (n_v vs 15) = w_ar ws (n_v vs 0) 2 := congrArg v_ad f1
  simp only [ad_21] at f23
  have h23 : v_iv (n_v vs 24) = w_ei w1 (w_ar ws (n_v vs 0) 4) (v_iv (n_v vs 23)) := f23
  simp only [ad_15] at f24
  have h24 : v_iv (n_v vs 23) = w_ei w1 (w_ar ws (n_v vs 0) 2) (v_iv (n_v vs 12)) := f24
  simp only [ad_21] at f26
  have h26 : v_iv (n_v vs 22) = w_ei w1 (w_ar ws (n_v vs 0) 4) (v_iv (n_v vs 9)) := f26
  simp only [ar_0_1_1, ar_0_2_1, ar_0_4_1, ar_1_2_1, ar_1_3_1] at f35 f39
  have fe_0_3_1 : w_fi ws (n_v vs 0) 3 = w_fi w1 (n_v vs 0) 3 := congrArg v_iv (s1.2 _ _)
  have hE_0_1_1 : ∀ j : Int, w_ei ws (w_ar ws (n_v vs 0) 1) j = w_ei w1 (w_ar ws (n_v vs 0) 1) j := el_kp s1.1 r21 cr_0_1 (by decide)
  have hE_0_2_1 : ∀ j : Int, w_ei ws (w_ar ws (n_v vs 0) 2) j = w_ei w1 (w_ar ws (n_v vs 0) 2) j := el_kp s1.1 r21 cr_0_2 (by decide)
  have hE_0_4_1 : ∀ j : Int, 0 ≤ j → (j = v_iv (n_v vs 9) → w_ei ws (w_ar ws (n_v vs 0) 4) j = v_iv (n_v vs 25)) ∧ (j ≠ v_iv (n_v vs 9) → w_ei ws (w_ar ws (n_v vs 0) 4) j = w_ei w1 (w_ar ws (n_v vs 0) 4) j) := fun j hj => ⟨fun h => by unfold w_ei; rw [s1.1, if_pos ⟨ad_21.symm, by rw [h]⟩], fun h => by unfold w_ei; rw [s1.1, if_neg (fun e => h (by have := e.2; omega))]⟩
  have hE_1_2_1 : ∀ j : Int, w_ei ws (w_ar ws (n_v vs 1) 2) j = w_ei w1 (w_ar ws (n_v vs 1) 2) j := el_kp s1.1 r21 cr_1_2 (by decide)
  have hE_1_3_1 : ∀ j : Int, w_ei ws (w_ar ws (n_v vs 1) 3) j = w_ei w1 (w_ar ws (n_v vs 1) 3) j := el_kp s1.1 r21 cr_1_3 (by decide)
  have kz_0_3 := fdq_15 hD hth r0
  have nf0 : fc_1 PRD (20, [7, 8, 6, 26, 9], [60, 0, 4, 885, 1, 4, 1002, 1003]) ws (vs) := by
    refine ⟨nf_in hl rfl, sgq_444 ?_⟩
    · show CO2 (w_ei ws (w_ar ws (n_v vs 7) 1)) (w_ei ws (w_ar ws (n_v vs 7) 4)) (w_ei ws (w_ar ws (n_v vs 8) 2)) (w_ei ws (w_ar ws (n_v vs 8) 3)) (v_iv (n_v vs 6)) (v_iv (n_v vs 26)) (v_iv (n_v vs 9))
      simp only [q7, q8]
      exact vc_Pn_placeNext_13_0 (v_iv (n_v vs 6)) (v_iv (n_v vs 9)) (v_iv (n_v vs 11)) (v_iv (n_v vs 12)) (v_iv (n_v vs 18)) (v_iv (n_v vs 19)) (v_iv (n_v vs 20)) (v_iv (n_v vs 22)) (v_iv (n_v vs 23)) (v_iv (n_v vs 24)) (v_iv (n_v vs 25)) (v_iv (n_v vs 26)) (w_fi ws (n_v vs 0) 3) (w_ei ws (w_ar ws (n_v vs 0) 1)) (w_ei ws (w_ar ws (n_v vs 0) 2)) (w_ei w1 (w_ar ws (n_v vs 0) 4)) (w_ei w1 (w_ar ws (n_v vs 0) 2)) (w_ei w1 (w_ar ws (n_v vs 0) 1)) (w_fi w1 (n_v vs 0) 3) (w_ei w1 (w_ar ws (n_v vs 1) 2)) (w_ei w1 (w_ar ws (n_v vs 1) 3)) (w_ei ws (w_ar ws (n_v vs 0) 4)) (w_ei ws (w_ar ws (n_v vs 1) 2)) (w_ei ws (w_ar ws (n_v vs 1) 3)) k6 k9 k11 k12 k18 k19 k20 k22 k23 k24 k25 k26 d1 d2 f4 f22 h23 h24 h26 f35 f39 fe_0_3_1 hE_0_1_1 hE_0_2_1 hE_0_4_1 hE_1_2_1 hE_1_3_1 kz_0_3
  have nf1 : fc_1 PRD (20, [26, 10], [50, 0, 0, 2, 6, 0, 2, 0, 1, 1, 0, 0, 6, 4, 2, 1, 1, 0, 1, 1, 0]) ws (vs) := ⟨nf_in hl rfl, sgq_1366 (vc_Pn_placeNext_13_1 (v_iv (n_v vs 6)) (v_iv (n_v vs 10)) (v_iv (n_v vs 11)) (v_iv (n_v vs 26)) (w_fi ws (n_v vs 0) 3) (w_ei ws (w_ar ws (n_v vs 0) 1)) (w_ei ws (w_ar ws (n_v vs 0) 2)) (w_ei w1 (w_ar ws (n_v vs 0) 2)) (w_ei w1 (w_ar ws (n_v vs 0) 1)) (w_fi w1 (n_v vs 0) 3) (w_ei w1 (w_ar ws (n_v vs 1) 2)) (w_ei w1 (w_ar ws (n_v vs 1) 3)) (w_ei ws (w_ar ws (n_v vs 1) 2)) (w_ei ws (w_ar ws (n_v vs 1) 3)) k10 k11 k26 d1 d2 fe_0_3_1 hE_0_1_1 hE_0_2_1 hE_1_2_1 hE_1_3_1 kz_0_3)⟩
  refine ⟨(fun _ h => (by cases h)), [], trivial, ?_, (fun _ h => (by cases h))⟩
  rw [List.append_nil]
  exact List.forall_mem_cons.mpr ⟨⟨show (20 : Nat) < 100 from by decide, nf0⟩, List.forall_mem_cons.mpr ⟨⟨show (20 : Nat) < 100 from by decide, nf1⟩, (fun _ h => (by cases h))⟩⟩
set_option maxHeartbeats 4000000 in
theorem vc_Pn_placeNext_14_0 (x6 : Int) (gx : Int) (k6 : 3 ≤ x6 ∧ x6 ≤ 23) (ex2 : gx = x6) : 1 * gx + ((-1) * x6 + 0) ≤ 0 := by
  first
    | omega
    | assumption
    | (have h := (‹LNO _ _ _ _›).1; omega)
    | (rw [(hE_0_6_1 0 (by omega)).1 (by omega), show gx = x6 by omega]; assumption)
set_option maxHeartbeats 4000000 in
theorem vc_Pn_placeNext_14_1 (x6 : Int) (gx : Int) (k6 : 3 ≤ x6 ∧ x6 ≤ 23) (ex2 : gx = x6) : (-1) * gx + (1 * x6 + 0) ≤ 0 := by
  first
    | omega
    | assumption
    | (have h := (‹LNO _ _ _ _›).1; omega)
    | (rw [(hE_0_6_1 0 (by omega)).1 (by omega), show gx = x6 by omega]; assumption)
set_option maxHeartbeats 4000000 in
theorem vc_Pn_placeNext_14_2 (x6 : Int) (x12 : Int) (gx : Int) (gy : Int) (k12 : 1 ≤ x12 ∧ x12 ≤ 22) (ey2 : gy = x12) : 1 * gy + ((-1) * x12 + 0) ≤ 0 := by
  first
    | omega
    | assumption
    | (have h := (‹LNO _ _ _ _›).1; omega)
    | (rw [(hE_0_6_1 0 (by omega)).1 (by omega), show gx = x6 by omega]; assumption)
set_option maxHeartbeats 4000000 in
theorem vc_Pn_placeNext_14_3 (x6 : Int) (x12 : Int) (gx : Int) (gy : Int) (k12 : 1 ≤ x12 ∧ x12 ≤ 22) (ey2 : gy = x12) : (-1) * gy + (1 * x12 + 0) ≤ 0 := by
  first
    | omega
    | assumption
    | (have h := (‹LNO _ _ _ _›).1; omega)
    | (rw [(hE_0_6_1 0 (by omega)).1 (by omega), show gx = x6 by omega]; assumption)
set_option maxHeartbeats 4000000 in
theorem vc_Pn_placeNext_14_4 (x6 : Int) (x9 : Int) (order_0 : Int → Int) (gx : Int) (gu : Int) (k6 : 3 ≤ x6 ∧ x6 ≤ 23) (k9 : 0 ≤ x9 ∧ x9 ≤ 23) (f10 : x9 = order_0 (x6)) (eu2 : gu = x9) : 1 * gu + ((-1) * x9 + 0) ≤ 0 := by
  first
    | omega
    | assumption
    | (have h := (‹LNO _ _ _ _›).1; omega)
    | (rw [(hE_0_6_1 0 (by omega)).1 (by omega), show gx = x6 by omega]; assumption)
set_option maxHeartbeats 4000000 in
theorem vc_Pn_placeNext_14_5 (x6 : Int) (x9 : Int) (order_0 : Int → Int) (gx : Int) (gu : Int) (k6 : 3 ≤ x6 ∧ x6 ≤ 23) (k9 : 0 ≤ x9 ∧ x9 ≤ 23) (f10 : x9 = order_0 (x6)) (eu2 : gu = x9) : (-1) * gu + (1 * x9 + 0) ≤ 0 := by
  first
    | omega
    | assumption
    | (have h := (‹LNO _ _ _ _›).1; omega)
    | (rw [(hE_0_6_1 0 (by omega)).1 (by omega), show gx = x6 by omega]; assumption)
set_option maxHeartbeats 4000000 in
theorem vc_Pn_placeNext_14_6 (x6 : Int) (x9 : Int) (x12 : Int) (order_0 : Int → Int) (under_0 : Int → Int) (x_0o1 : Int → Int) (y_0o1 : Int → Int) (gx : Int) (gy : Int) (gu : Int) (k6 : 3 ≤ x6 ∧ x6 ≤ 23) (k9 : 0 ≤ x9 ∧ x9 ≤ 23) (k12 : 1 ≤ x12 ∧ x12 ≤ 22) (f7 : CO2 (order_0) (under_0) (x_0o1) (y_0o1) (x6) (x12) (x9)) (ex2 : gx = x6) (ey2 : gy = x12) (eu2 : gu = x9) : CO2 (order_0) (under_0) (x_0o1) (y_0o1) (gx) (gy) (gu) := by
  first
    | assumption
    | (rw [show gx = x6 by omega, show gy = x12 by omega, show gu = x9 by omega]; assumption)
set_option maxHeartbeats 4000000 in
theorem vc_Pn_placeNext_14_7 (x6 : Int) (x17 : Int) (gx : Int) (k17 : 1 ≤ x17 ∧ x17 ≤ 1) : (1 ≤ x17) ∧ (x17 ≤ 2) := by
  first
    | omega
    | assumption
    | (have h := (‹LNO _ _ _ _›).1; omega)
    | (rw [(hE_0_6_1 0 (by omega)).1 (by omega), show gx = x6 by omega]; assumption)
set_option maxHeartbeats 4000000 in
theorem vc_Pn_placeNext_14_8 (x6 : Int) (x10 : Int) (x11 : Int) (x12 : Int) (x14 : Int) (x16 : Int) (line_0 : Int → Int) (lineLength_0 : Int) (order_0 : Int → Int) (gx : Int) (gy : Int) (k6 : 3 ≤ x6 ∧ x6 ≤ 23) (k12 : 1 ≤ x12 ∧ x12 ≤ 22) (k14 : 2 ≤ x14 ∧ x14 ≤ 24) (k16 : 0 ≤ x16 ∧ x16 ≤ 23) (d1 : x14 + (-4294967296) ≤ x12 ∧ x12 ≤ x14 + (-1)) (h2 : x16 = line_0 (x12)) (g5 : x14 = lineLength_0) (f6 : LNO (lineLength_0) (line_0) (order_0) (x6)) (kz_0_3 : 0 ≤ lineLength_0 ∧ lineLength_0 ≤ 24) (ex2 : gx = x6) (ey2 : gy = x12) : TOQ (order_0) (x16) (gx) := by
  first
    | exact lno_toq (q := x10) ‹LNO _ _ _ _› (by omega) (by omega) (by assumption)
    | exact lno_toq (q := x11) ‹LNO _ _ _ _› (by omega) (by omega) (by assumption)
    | (rw [show gx = x6 by omega]; exact lno_toq (q := x12) ‹LNO _ _ _ _› (by omega) (by omega) (by assumption))
def o_Pn_placeNext_14 : or_T := (111, 18, [(0, (2, 0, 0, [7])), (1, (2, 0, 0, [0])), (3, (2, 0, 0, [102])), (6, (0, 3, 23, [])), (7, (2, 0, 0, [7])), (8, (2, 0, 0, [0])), (9, (0, 0, 23, [])), (10, (0, 0, 21, [])), (11, (0, 2, 23, [])), (12, (0, 1, 22, [])), (13, (2, 0, 0, [102])), (14, (0, 2, 24, [])), (15, (2, 0, 0, [103])), (16, (0, 0, 23, [])), (17, (0, 1, 1, []))], [(9, [13, 7], [1]), (7, [12, 11], [2]), (10, [16, 15, 12], []), (9, [15, 7], [2]), (7, [12, 14], [2]), (9, [14, 7], [3]), (20, [7, 6], [60, 1, 2, 889, 3, 2, 1]), (20, [7, 8, 6, 12, 9], [60, 0, 4, 885, 1, 4, 1002, 1003]), (20, [10, 7, 11], [50, 1, 0, 1003, 2, 19, 2, 6, 0, 2, 0, 0, 1, 0, 0, 6, 4, 2, 1, 0, 0, 1, 2, 1, 3, 2, 6, 0, 2, 0, 0, 1, 2, 0, 6, 4, 2, 1, 2, 0, 1, 2, 1, 3]), (20, [12, 10], [50, 0, 0, 2, 6, 0, 2, 0, 1, 1, 0, 0, 6, 4, 2, 1, 1, 0, 1, 1, 0]), (20, [9, 7, 6], [50, 0, 1, 1001, 1, 2, 1, 0, 3, 1, 1, 1, 2]), (24, [3, 13], []), (24, [0, 7], []), (24, [1, 8], [])], [], [(0, 3, 23, []), (0, 1, 23, []), (0, 0, 23, [])], [(23, [18, 6], [0, 1, -1]), (23, [18, 6], [0, -1, 1]), (23, [19, 12], [0, 1, -1]), (23, [19, 12], [0, -1, 1]), (23, [20, 9], [0, 1, -1]), (23, [20, 9], [0, -1, 1]), (20, [7, 8, 18, 19, 20], [60, 0, 4, 885, 1, 4, 1002, 1003]), (20, [17], [50, 0, 0, 2, 6, 0, 2, 0, 1, 1, 0, 0, 2, 1, 0, 0, 2]), (20, [7, 16, 18], [60, 0, 1, 891, 1])], [], [(12, 11, -4294967296, -1), (12, 14, -4294967296, -1), (10, 12, -4294967296, -1)])
theorem oo_Pn_placeNext_14 {kA : Nat → ClassId} : or_ok PRD kA GG o_Pn_placeNext_14 := by
  refine or_mk fun A ta ws vs hD hth hl => ?_
  intro t0 r0 t1 r1 t3 r3 t6 k6 t7 r7 t8 r8 t9 k9 t10 k10 t11 k11 t12 k12 t13 r13 t14 k14 t15 r15 t16 k16 t17 k17 d0 d1 d2 f0 f1 f2 f3 f4 f5 f6 f7 f8 f9 f10 f11 f12 f13
  replace f2 := shm_106 f2
  replace f3 := shm_129 f3
  replace f5 := shm_149 f5
  replace f6 := shm_871 f6
  replace f7 := shm_444 f7
  replace f10 := shm_1363 f10
  replace f12 := shm_5 f12
  replace f13 := shm_5 f13
  have q7 : n_v vs 7 = n_v vs 0 := f12.symm
  have q8 : n_v vs 8 = n_v vs 1 := f13.symm
  simp only [q7, q8] at f3 f5 f6 f7 f10
  have ad_15 : v_ad (n_v vs 15) = w_ar ws (n_v vs 0) 2 := congrArg v_ad f3
  simp only [ad_15] at f2
  have h2 : v_iv (n_v vs 16) = w_ei ws (w_ar ws (n_v vs 0) 2) (v_iv (n_v vs 12)) := f2
  have g5 : v_iv (n_v vs 14) = w_fi ws (n_v vs 0) 3 := congrArg v_iv f5
  have kz_0_3 := fdq_15 hD hth r0
  obtain ⟨x, ex, hx⟩ := iv_ex (ta := ta) (lo := 3) (hi := 23) (z := v_iv (n_v vs 6)) (by omega) (by omega) (by omega) (by omega)
  have ex2 : v_iv (Value.int x) = v_iv (n_v vs 6) := ex
  have ex3 : 3 ≤ v_iv (Value.int x) ∧ v_iv (Value.int x) ≤ 23 := tv_rng hx
  obtain ⟨y, ey, hy⟩ := iv_ex (ta := ta) (lo := 1) (hi := 23) (z := v_iv (n_v vs 12)) (by omega) (by omega) (by omega) (by omega)
  have ey2 : v_iv (Value.int y) = v_iv (n_v vs 12) := ey
  have ey3 : 1 ≤ v_iv (Value.int y) ∧ v_iv (Value.int y) ≤ 23 := tv_rng hy
  obtain ⟨u, eu, hu⟩ := iv_ex (ta := ta) (lo := 0) (hi := 23) (z := v_iv (n_v vs 9)) (by omega) (by omega) (by omega) (by omega)
  have eu2 : v_iv (Value.int u) = v_iv (n_v vs 9) := eu
  have eu3 : 0 ≤ v_iv (Value.int u) ∧ v_iv (Value.int u) ≤ 23 := tv_rng hu
  have e_6 : n_v (vs ++ [Value.int x, Value.int y, Value.int u]) 6 = n_v vs 6 := n_v_old (by rw [hl]; decide)
  have e_7 : n_v (vs ++ [Value.int x, Value.int y, Value.int u]) 7 = n_v vs 7 := n_v_old (by rw [hl]; decide)
  have e_8 : n_v (vs ++ [Value.int x, Value.int y, Value.int u]) 8 = n_v vs 8 := n_v_old (by rw [hl]; decide)
  have e_9 : n_v (vs ++ [Value.int x, Value.int y, Value.int u]) 9 = n_v vs 9 := n_v_old (by rw [hl]; decide)
  have e_12 : n_v (vs ++ [Value.int x, Value.int y, Value.int u]) 12 = n_v vs 12 := n_v_old (by rw [hl]; decide)
  have e_16 : n_v (vs ++ [Value.int x, Value.int y, Value.int u]) 16 = n_v vs 16 := n_v_old (by rw [hl]; decide)
  have e_17 : n_v (vs ++ [Value.int x, Value.int y, Value.int u]) 17 = n_v vs 17 := n_v_old (by rw [hl]; decide)
  have e_18 : n_v (vs ++ [Value.int x, Value.int y, Value.int u]) 18 = Value.int x := n_v_newk (k := 0) hl rfl
  have e_19 : n_v (vs ++ [Value.int x, Value.int y, Value.int u]) 19 = Value.int y := n_v_newk (k := 1) hl rfl
  have e_20 : n_v (vs ++ [Value.int x, Value.int y, Value.int u]) 20 = Value.int u := n_v_newk (k := 2) hl rfl
  have nf0 : fc_1 PRD (23, [18, 6], [0, 1, -1]) ws (vs ++ [Value.int x, Value.int y, Value.int u]) := by
    refine ⟨nf_inA hl rfl, sgq_7 ?_⟩
    · show 1 * v_iv (n_v (vs ++ [Value.int x, Value.int y, Value.int u]) 18) + ((-1) * v_iv (n_v (vs ++ [Value.int x, Value.int y, Value.int u]) 6) + 0) ≤ 0
      simp only [e_6, e_18]
      exact vc_Pn_placeNext_14_0 (v_iv (n_v vs 6)) (v_iv (Value.int x)) k6 ex2
  have nf1 : fc_1 PRD (23, [18, 6], [0, -1, 1]) ws (vs ++ [Value.int x, Value.int y, Value.int u]) := by
    refine ⟨nf_inA hl rfl, sgq_22 ?_⟩
    · show (-1) * v_iv (n_v (vs ++ [Value.int x, Value.int y, Value.int u]) 18) + (1 * v_iv (n_v (vs ++ [Value.int x, Value.int y, Value.int u]) 6) + 0) ≤ 0
      simp only [e_6, e_18]
      exact vc_Pn_placeNext_14_1 (v_iv (n_v vs 6)) (v_iv (Value.int x)) k6 ex2
  have nf2 : fc_1 PRD (23, [19, 12], [0, 1, -1]) ws (vs ++ [Value.int x, Value.int y, Value.int u]) := by
    refine ⟨nf_inA hl rfl, sgq_7 ?_⟩
    · show 1 * v_iv (n_v (vs ++ [Value.int x, Value.int y, Value.int u]) 19) + ((-1) * v_iv (n_v (vs ++ [Value.int x, Value.int y, Value.int u]) 12) + 0) ≤ 0
      simp only [e_12, e_19]
      exact vc_Pn_placeNext_14_2 (v_iv (n_v vs 6)) (v_iv (n_v vs 12)) (v_iv (Value.int x)) (v_iv (Value.int y)) k12 ey2
  have nf3 : fc_1 PRD (23, [19, 12], [0, -1, 1]) ws (vs ++ [Value.int x, Value.int y, Value.int u]) := by
    refine ⟨nf_inA hl rfl, sgq_22 ?_⟩
    · show (-1) * v_iv (n_v (vs ++ [Value.int x, Value.int y, Value.int u]) 19) + (1 * v_iv (n_v (vs ++ [Value.int x, Value.int y, Value.int u]) 12) + 0) ≤ 0
      simp only [e_12, e_19]
      exact vc_Pn_placeNext_14_3 (v_iv (n_v vs 6)) (v_iv (n_v vs 12)) (v_iv (Value.int x)) (v_iv (Value.int y)) k12 ey2
  have nf4 : fc_1 PRD (23, [20, 9], [0, 1, -1]) ws (vs ++ [Value.int x, Value.int y, Value.int u]) := by
    refine ⟨nf_inA hl rfl, sgq_7 ?_⟩
    · show 1 * v_iv (n_v (vs ++ [Value.int x, Value.int y, Value.int u]) 20) + ((-1) * v_iv (n_v (vs ++ [Value.int x, Value.int y, Value.int u]) 9) + 0) ≤ 0
      simp only [e_9, e_20]
      exact vc_Pn_placeNext_14_4 (v_iv (n_v vs 6)) (v_iv (n_v vs 9)) (w_ei ws (w_ar ws (n_v vs 0) 1)) (v_iv (Value.int x)) (v_iv (Value.int u)) k6 k9 f10 eu2
  have nf5 : fc_1 PRD (23, [20, 9], [0, -1, 1]) ws (vs ++ [Value.int x, Value.int y, Value.int u]) := by
    refine ⟨nf_inA hl rfl, sgq_22 ?_⟩
    · show (-1) * v_iv (n_v (vs ++ [Value.int x, Value.int y, Value.int u]) 20) + (1 * v_iv (n_v (vs ++ [Value.int x, Value.int y, Value.int u]) 9) + 0) ≤ 0
      simp only [e_9, e_20]
      exact vc_Pn_placeNext_14_5 (v_iv (n_v vs 6)) (v_iv (n_v vs 9)) (w_ei ws (w_ar ws (n_v vs 0) 1)) (v_iv (Value.int x)) (v_iv (Value.int u)) k6 k9 f10 eu2
  have nf6 : fc_1 PRD (20, [7, 8, 18, 19, 20], [60, 0, 4, 885, 1, 4, 1002, 1003]) ws (vs ++ [Value.int x, Value.int y, Value.int u]) := by
    refine ⟨nf_inA hl rfl, sgq_444 ?_⟩
    · show CO2 (w_ei ws (w_ar ws (n_v (vs ++ [Value.int x, Value.int y, Value.int u]) 7) 1)) (w_ei ws (w_ar ws (n_v (vs ++ [Value.int x, Value.int y, Value.int u]) 7) 4)) (w_ei ws (w_ar ws (n_v (vs ++ [Value.int x, Value.int y, Value.int u]) 8) 2)) (w_ei ws (w_ar ws (n_v (vs ++ [Value.int x, Value.int y, Value.int u]) 8) 3)) (v_iv (n_v (vs ++ [Value.int x, Value.int y, Value.int u]) 18)) (v_iv (n_v (vs ++ [Value.int x, Value.int y, Value.int u]) 19)) (v_iv (n_v (vs ++ [Value.int x, Value.int y, Value.int u]) 20))
      simp only [e_7, e_8, e_18, e_19, e_20, q7, q8]
      exact vc_Pn_placeNext_14_6 (v_iv (n_v vs 6)) (v_iv (n_v vs 9)) (v_iv (n_v vs 12)) (w_ei ws (w_ar ws (n_v vs 0) 1)) (w_ei ws (w_ar ws (n_v vs 0) 4)) (w_ei ws (w_ar ws (n_v vs 1) 2)) (w_ei ws (w_ar ws (n_v vs 1) 3)) (v_iv (Value.int x)) (v_iv (Value.int y)) (v_iv (Value.int u)) k6 k9 k12 f7 ex2 ey2 eu2
  have nf7 : fc_1 PRD (20, [17], [50, 0, 0, 2, 6, 0, 2, 0, 1, 1, 0, 0, 2, 1, 0, 0, 2]) ws (vs ++ [Value.int x, Value.int y, Value.int u]) := by
    refine ⟨nf_inA hl rfl, sgq_445 ?_⟩
    · show (1 ≤ v_iv (n_v (vs ++ [Value.int x, Value.int y, Value.int u]) 17)) ∧ (v_iv (n_v (vs ++ [Value.int x, Value.int y, Value.int u]) 17) ≤ 2)
      rw [e_17]
      exact vc_Pn_placeNext_14_7 (v_iv (n_v vs 6)) (v_iv (n_v vs 17)) (v_iv (Value.int x)) k17
  have nf8 : fc_1 PRD (20, [7, 16, 18], [60, 0, 1, 891, 1]) ws (vs ++ [Value.int x, Value.int y, Value.int u]) := by
    refine ⟨nf_inA hl rfl, sgq_446 ?_⟩
    · show TOQ (w_ei ws (w_ar ws (n_v (vs ++ [Value.int x, Value.int y, Value.int u]) 7) 1)) (v_iv (n_v (vs ++ [Value.int x, Value.int y, Value.int u]) 16)) (v_iv (n_v (vs ++ [Value.int x, Value.int y, Value.int u]) 18))
      simp only [e_7, e_16, e_18, q7]
      exact vc_Pn_placeNext_14_8 (v_iv (n_v vs 6)) (v_iv (n_v vs 10)) (v_iv (n_v vs 11)) (v_iv (n_v vs 12)) (v_iv (n_v vs 14)) (v_iv (n_v vs 16)) (w_ei ws (w_ar ws (n_v vs 0) 2)) (w_fi ws (n_v vs 0) 3) (w_ei ws (w_ar ws (n_v vs 0) 1)) (v_iv (Value.int x)) (v_iv (Value.int y)) k6 k12 k14 k16 d1 h2 g5 f6 kz_0_3 ex2 ey2
  exact ⟨(fun _ h => (by cases h)), [Value.int x, Value.int y, Value.int u], ag_three hx hy hu, List.forall_mem_cons.mpr ⟨⟨show (23 : Nat) < 100 from by decide, nf0⟩, List.forall_mem_cons.mpr ⟨⟨show (23 : Nat) < 100 from by decide, nf1⟩, List.forall_mem_cons.mpr ⟨⟨show (23 : Nat) < 100 from by decide, nf2⟩, List.forall_mem_cons.mpr ⟨⟨show (23 : Nat) < 100 from by decide, nf3⟩, List.forall_mem_cons.mpr ⟨⟨show (23 : Nat) < 100 from by decide, nf4⟩, List.forall_mem_cons.mpr ⟨⟨show (23 : Nat) < 100 from by decide, nf5⟩, List.forall_mem_cons.mpr ⟨⟨show (20 : Nat) < 100 from by decide, nf6⟩, List.forall_mem_cons.mpr ⟨⟨show (20 : Nat) < 100 from by decide, nf7⟩, List.forall_mem_cons.mpr ⟨⟨show (20 : Nat) < 100 from by decide, nf8⟩, (fun _ h => (by cases h))⟩⟩⟩⟩⟩⟩⟩⟩⟩, (fun _ h => (by cases h))⟩
set_option maxHeartbeats 4000000 in
theorem vc_Pn_placeNext_15_0 (x6 : Int) (x9 : Int) (x11 : Int) (x12 : Int) (x18 : Int) (x19 : Int) (x20 : Int) (x22 : Int) (x23 : Int) (x24 : Int) (x25 : Int) (lineLength_0 : Int) (order_0 : Int → Int) (line_0 : Int → Int) (under_1 : Int → Int) (order_1 : Int → Int) (line_1 : Int → Int) (lineLength_1 : Int) (x_1o1 : Int → Int) (y_1o1 : Int → Int) (under_0 : Int → Int) (x_0o1 : Int → Int) (y_0o1 : Int → Int) (k6 : 3 ≤ x6 ∧ x6 ≤ 23) (k9 : 0 ≤ x9 ∧ x9 ≤ 23) (k11 : 3 ≤ x11 ∧ x11 ≤ 22) (k12 : 2 ≤ x12 ∧ x12 ≤ 21) (k18 : 3 ≤ x18 ∧ x18 ≤ 23) (k19 : 1 ≤ x19 ∧ x19 ≤ 23) (k20 : 0 ≤ x20 ∧ x20 ≤ 23) (k22 : 0 ≤ x22 ∧ x22 ≤ 16777215) (k23 : 0 ≤ x23 ∧ x23 ≤ 0) (k24 : 0 ≤ x24 ∧ x24 ≤ 16777215) (k25 : 3 ≤ x25 ∧ x25 ≤ 22) (d1 : x11 + 1 ≤ x25 ∧ x25 ≤ x11 + 4294967296) (d2 : x11 + (-4294967296) ≤ x25 ∧ x25 ≤ x11 + 0) (f4 : x25 = x12 + 1) (f22 : bvp (x24) = bvp (x22) ||| bvp (x23)) (h24 : x22 = under_1 (x9)) (f37 : CO2n (order_1) (under_1) (x_1o1) (y_1o1) (x18) (x19) (x20)) (fe_0_3_1 : lineLength_0 = lineLength_1) (hE_0_1_1 : ∀ j : Int, order_0 j = order_1 j) (hE_0_2_1 : ∀ j : Int, line_0 j = line_1 j) (hE_0_4_1 : ∀ j : Int, 0 ≤ j → (j = x9 → under_0 j = x24) ∧ (j ≠ x9 → under_0 j = under_1 j)) (hE_1_2_1 : ∀ j : Int, x_0o1 j = x_1o1 j) (hE_1_3_1 : ∀ j : Int, y_0o1 j = y_1o1 j) (kz_0_3 : 0 ≤ lineLength_0 ∧ lineLength_0 ≤ 24) : CO2 (order_0) (under_0) (x_0o1) (y_0o1) (x6) (x25) (x9) := by
  subst fe_0_3_1
  have e_hE_0_1_1 := funext hE_0_1_1; subst e_hE_0_1_1
  have e_hE_0_2_1 := funext hE_0_2_1; subst e_hE_0_2_1
  have e_hE_1_2_1 := funext hE_1_2_1; subst e_hE_1_2_1
  have e_hE_1_3_1 := funext hE_1_3_1; subst e_hE_1_3_1
  first
    | (have g := ‹CO2n _ _ _ _ _ _ _›
       rw [show x18 = x6 by omega, show x19 = x12 by omega, show x20 = x9 by omega] at g
       exact co2_step (a := x23) g (by omega) (by assumption) rfl (by omega) (by assumption) (fun z => (bit_or (by assumption) z).1) (Or.inl (fun z => by rw [show x23 = 0 by omega]; exact bit_zero z)))
set_option maxHeartbeats 4000000 in
theorem vc_Pn_placeNext_15_1 (x6 : Int) (x10 : Int) (x11 : Int) (x25 : Int) (lineLength_0 : Int) (order_0 : Int → Int) (line_0 : Int → Int) (order_1 : Int → Int) (line_1 : Int → Int) (lineLength_1 : Int) (x_1o1 : Int → Int) (y_1o1 : Int → Int) (x_0o1 : Int → Int) (y_0o1 : Int → Int) (k10 : 0 ≤ x10 ∧ x10 ≤ 21) (k11 : 3 ≤ x11 ∧ x11 ≤ 22) (k25 : 3 ≤ x25 ∧ x25 ≤ 22) (d1 : x11 + 1 ≤ x25 ∧ x25 ≤ x11 + 4294967296) (d2 : x11 + (-4294967296) ≤ x25 ∧ x25 ≤ x11 + 0) (fe_0_3_1 : lineLength_0 = lineLength_1) (hE_0_1_1 : ∀ j : Int, order_0 j = order_1 j) (hE_0_2_1 : ∀ j : Int, line_0 j = line_1 j) (hE_1_2_1 : ∀ j : Int, x_0o1 j = x_1o1 j) (hE_1_3_1 : ∀ j : Int, y_0o1 j = y_1o1 j) (kz_0_3 : 0 ≤ lineLength_0 ∧ lineLength_0 ≤ 24) : (1 ≤ x25) ∧ ((x10 + 1) ≤ x25) := by
  subst fe_0_3_1
  have e_hE_0_1_1 := funext hE_0_1_1; subst e_hE_0_1_1
  have e_hE_0_2_1 := funext hE_0_2_1; subst e_hE_0_2_1
  have e_hE_1_2_1 := funext hE_1_2_1; subst e_hE_1_2_1
  have e_hE_1_3_1 := funext hE_1_3_1; subst e_hE_1_3_1
  first
    | omega
    | assumption
    | (have h := (‹LNO _ _ _ _›).1; omega)
    | (rw [(hE_0_6_1 0 (by omega)).1 (by omega), show gx = x6 by omega]; assumption)
def o_Pn_placeNext_15 : or_T := (81, 26, [(0, (2, 0, 0, [7])), (1, (2, 0, 0, [0])), (3, (2, 0, 0, [102])), (6, (0, 3, 23, [])), (7, (2, 0, 0, [7])), (8, (2, 0, 0, [0])), (9, (0, 0, 23, [])), (10, (0, 0, 21, [])), (11, (0, 3, 22, [])), (12, (0, 2, 21, [])), (13, (2, 0, 0, [102])), (14, (0, 3, 24, [])), (15, (2, 0, 0, [103])), (16, (0, 0, 23, [])), (17, (0, 1, 1, [])), (18, (0, 3, 23, [])), (19, (0, 1, 23, [])), (20, (0, 0, 23, [])), (21, (2, 0, 0, [104])), (22, (0, 0, 16777215, [])), (23, (0, 0, 0, [])), (24, (0, 0, 16777215, [])), (25, (0, 3, 22, []))], [(9, [21, 7], [4]), (9, [15, 7], [2]), (9, [14, 7], [3]), (9, [13, 7], [1]), (6, [25, 12], [1]), (23, [18, 6], [0, 1, -1]), (23, [18, 6], [0, -1, 1]), (23, [19, 12], [0, 1, -1]), (23, [19, 12], [0, -1, 1]), (23, [20, 9], [0, 1, -1]), (23, [20, 9], [0, -1, 1]), (20, [17], [50, 0, 0, 2, 6, 0, 2, 0, 1, 1, 0, 0, 2, 1, 0, 0, 2]), (20, [7, 16, 18], [60, 0, 1, 891, 1]), (20, [7, 6], [60, 1, 2, 889, 3, 2, 1]), (20, [10, 7, 11], [50, 1, 0, 1003, 2, 19, 2, 6, 0, 2, 0, 0, 1, 0, 0, 6, 4, 2, 1, 0, 0, 1, 2, 1, 3, 2, 6, 0, 2, 0, 0, 1, 2, 0, 6, 4, 2, 1, 2, 0, 1, 2, 1, 3]), (20, [12, 10], [50, 0, 0, 2, 6, 0, 2, 0, 1, 1, 0, 0, 6, 4, 2, 1, 1, 0, 1, 1, 0]), (20, [9, 7, 6], [50, 0, 1, 1001, 1, 2, 1, 0, 3, 1, 1, 1, 2]), (24, [3, 13], []), (24, [0, 7], []), (24, [1, 8], []), (100, [21, 9, 24], []), (13, [24, 22, 23], []), (16, [24, 22, 23], [1]), (7, [12, 11], [3]), (10, [22, 21, 9], []), (23, [18, 6], [0, 1, -1]), (23, [18, 6], [0, -1, 1]), (23, [19, 12], [0, 1, -1]), (23, [19, 12], [0, -1, 1]), (23, [20, 9], [0, 1, -1]), (23, [20, 9], [0, -1, 1]), (20, [17], [50, 0, 0, 2, 6, 0, 2, 0, 1, 1, 0, 0, 2, 1, 0, 0, 2]), (20, [7, 16, 18], [60, 0, 1, 891, 1]), (20, [7, 6], [60, 1, 2, 889, 3, 2, 1]), (20, [10, 7, 11], [50, 1, 0, 1003, 2, 19, 2, 6, 0, 2, 0, 0, 1, 0, 0, 6, 4, 2, 1, 0, 0, 1, 2, 1, 3, 2, 6, 0, 2, 0, 0, 1, 2, 0, 6, 4, 2, 1, 2, 0, 1, 2, 1, 3]), (20, [12, 10], [50, 0, 0, 2, 6, 0, 2, 0, 1, 1, 0, 0, 6, 4, 2, 1, 1, 0, 1, 1, 0]), (20, [9, 7, 6], [50, 0, 1, 1001, 1, 2, 1, 0, 3, 1, 1, 1, 2]), (20, [7, 8, 18, 19, 20], [60, 0, 4, 886, 1, 4, 1002, 1003]), (102, [20], [16384]), (23, [18, 6], [0, 1, -1]), (23, [18, 6], [0, -1, 1]), (23, [19, 12], [0, 1, -1]), (23, [19, 12], [0, -1, 1]), (23, [20, 9], [0, 1, -1]), (23, [20, 9], [0, -1, 1]), (7, [12, 11], [2]), (7, [12, 14], [2])], [], [], [(20, [7, 8, 6, 25, 9], [60, 0, 4, 885, 1, 4, 1002, 1003]), (20, [25, 10], [50, 0, 0, 2, 6, 0, 2, 0, 1, 1, 0, 0, 6, 4, 2, 1, 1, 0, 1, 1, 0])], [], [(25, 12, 1, 1), (25, 11, 1, 4294967296), (25, 11, -4294967296, 0), (25, 14, -4294967296, 0), (12, 11, 0, 4294967296), (12, 11, -4294967296, -1), (12, 14, -4294967296, -1), (10, 12, -4294967296, -1)])
theorem oo_Pn_placeNext_15 {kA : Nat → ClassId} : or_ok PRD kA GG o_Pn_placeNext_15 := by
  refine or_mk fun A ta ws vs hD hth hl => ?_
  intro t0 r0 t1 r1 t3 r3 t6 k6 t7 r7 t8 r8 t9 k9 t10 k10 t11 k11 t12 k12 t13 r13 t14 k14 t15 r15 t16 k16 t17 k17 t18 k18 t19 k19 t20 k20 t21 r21 t22 k22 t23 k23 t24 k24 t25 k25 d0 d1 d2 d3 d4 d5 d6 d7 f0 f1 f2 f3 f4 f5 f6 f7 f8 f9 f10 f11 f12 f13 f14 f15 f16 f17 f18 f19 ta1 w1 le1 s1 f21 f22 f23 f24 f25 f26 f27 f28 f29 f30 f31 f32 f33 f34 f35 f36 f37 ta2 w2 le2 s2 f39 f40 f41 f42 f43 f44 f45 f46
  replace f0 := shm_107 f0
  replace f4 := shm_4 f4
  replace f18 := shm_5 f18
  replace f19 := shm_5 f19
  have s1 : (∀ b j, w_el ws b j = if b = v_ad (n_v vs 21) ∧ j = (v_iv (n_v vs 9)).toNat then v_iv (n_v vs 24) else w_el w1 b j) ∧ ∀ b k, w_fd ws b k = w_fd w1 b k := s1.2
  replace f22 := shm_372 f22
  replace f24 := shm_106 f24
  replace f37 := shm_448 f37
  have q7 : n_v vs 7 = n_v vs 0 := f18.symm
  have q8 : n_v vs 8 = n_v vs 1 := f19.symm
  simp only [q7, q8] at f0 f37
  have ar_0_1_1 : w_ar w1 (n_v vs 0) 1 = w_ar ws (n_v vs 0) 1 := congrArg v_ad (s1.2 _ _).symm
  have cr_0_1 := fdq_96 hD hth r0
  have ar_0_2_1 : w_ar w1 (n_v vs 0) 2 = w_ar ws (n_v vs 0) 2 := congrArg v_ad (s1.2 _ _).symm
  have cr_0_2 := fdq_222 hD hth r0
  have ar_0_4_1 : w_ar w1 (n_v vs 0) 4 = w_ar ws (n_v vs 0) 4 := congrArg v_ad (s1.2 _ _).symm
  have ar_1_2_1 : w_ar w1 (n_v vs 1) 2 = w_ar ws (n_v vs 1) 2 := congrArg v_ad (s1.2 _ _).symm
  have cr_1_2 := fdq_51 hD hth r1
  have ar_1_3_1 : w_ar w1 (n_v vs 1) 3 = w_ar ws (n_v vs 1) 3 := congrArg v_ad (s1.2 _ _).symm
  have cr_1_3 := fdq_54 hD hth r1
  have ad_21 : v_ad (n_v vs 21) = w_ar ws (n_v vs 0) 4 := congrArg v_ad f0
  simp only [ad_21] at f24
  have h24 : v_iv (n_v vs 22) = w_ei w1 (w_ar ws (n_v vs 0) 4) (v_iv (n_v vs 9)) := f24
  simp only [ar_0_1_1, ar_0_2_1, ar_0_4_1, ar_1_2_1, ar_1_3_1] at f37
  have fe_0_3_1 : w_fi ws (n_v vs 0) 3 = w_fi w1 (n_v vs 0) 3 := congrArg v_iv (s1.2 _ _)
  have hE_0_1_1 : ∀ j : Int, w_ei ws (w_ar ws (n_v vs 0) 1) j = w_ei w1 (w_ar ws (n_v vs 0) 1) j := el_kp s1.1 r21 cr_0_1 (by decide)
  have hE_0_2_1 : ∀ j : Int, w_ei ws (w_ar ws (n_v vs 0) 2) j = w_ei w1 (w_ar ws (n_v vs 0) 2) j := el_kp s1.1 r21 cr_0_2 (by decide)
  have hE_0_4_1 : ∀ j : Int, 0 ≤ j → (j = v_iv (n_v vs 9) → w_ei ws (w_ar ws (n_v vs 0) 4) j = v_iv (n_v vs 24)) ∧ (j ≠ v_iv (n_v vs 9) → w_ei ws (w_ar ws (n_v vs 0) 4) j = w_ei w1 (w_ar ws (n_v vs 0) 4) j) := fun j hj => ⟨fun h => by unfold w_ei; rw [s1.1, if_pos ⟨ad_21.symm, by rw [h]⟩], fun h => by unfold w_ei; rw [s1.1, if_neg (fun e => h (by have := e.2; omega))]⟩
  have hE_1_2_1 : ∀ j : Int, w_ei ws (w_ar ws (n_v vs 1) 2) j = w_ei w1 (w_ar ws (n_v vs 1) 2) j := el_kp s1.1 r21 cr_1_2 (by decide)
  have hE_1_3_1 : ∀ j : Int, w_ei ws (w_ar ws (n_v vs 1) 3) j = w_ei w1 (w_ar ws (n_v vs 1) 3) j := el_kp s1.1 r21 cr_1_3 (by decide)
  have kz_0_3 := fdq_15 hD hth r0
  have nf0 : fc_1 PRD (20, [7, 8, 6, 25, 9], [60, 0, 4, 885, 1, 4, 1002, 1003]) ws (vs) := by
    refine ⟨nf_in hl rfl, sgq_444 ?_⟩
    · show CO2 (w_ei ws (w_ar ws (n_v vs 7) 1)) (w_ei ws (w_ar ws (n_v vs 7) 4)) (w_ei ws (w_ar ws (n_v vs 8) 2)) (w_ei ws (w_ar ws (n_v vs 8) 3)) (v_iv (n_v vs 6)) (v_iv (n_v vs 25)) (v_iv (n_v vs 9))
      simp only [q7, q8]
      exact vc_Pn_placeNext_15_0 (v_iv (n_v vs 6)) (v_iv (n_v vs 9)) (v_iv (n_v vs 11)) (v_iv (n_v vs 12)) (v_iv (n_v vs 18)) (v_iv (n_v vs 19)) (v_iv (n_v vs 20)) (v_iv (n_v vs 22)) (v_iv (n_v vs 23)) (v_iv (n_v vs 24)) (v_iv (n_v vs 25)) (w_fi ws (n_v vs 0) 3) (w_ei ws (w_ar ws (n_v vs 0) 1)) (w_ei ws (w_ar ws (n_v vs 0) 2)) (w_ei w1 (w_ar ws (n_v vs 0) 4)) (w_ei w1 (w_ar ws (n_v vs 0) 1)) (w_ei w1 (w_ar ws (n_v vs 0) 2)) (w_fi w1 (n_v vs 0) 3) (w_ei w1 (w_ar ws (n_v vs 1) 2)) (w_ei w1 (w_ar ws (n_v vs 1) 3)) (w_ei ws (w_ar ws (n_v vs 0) 4)) (w_ei ws (w_ar ws (n_v vs 1) 2)) (w_ei ws (w_ar ws (n_v vs 1) 3)) k6 k9 k11 k12 k18 k19 k20 k22 k23 k24 k25 d1 d2 f4 f22 h24 f37 fe_0_3_1 hE_0_1_1 hE_0_2_1 hE_0_4_1 hE_1_2_1 hE_1_3_1 kz_0_3
  have nf1 : fc_1 PRD (20, [25, 10], [50, 0, 0, 2, 6, 0, 2, 0, 1, 1, 0, 0, 6, 4, 2, 1, 1, 0, 1, 1, 0]) ws (vs) := ⟨nf_in hl rfl, sgq_1366 (vc_Pn_placeNext_15_1 (v_iv (n_v vs 6)) (v_iv (n_v vs 10)) (v_iv (n_v vs 11)) (v_iv (n_v vs 25)) (w_fi ws (n_v vs 0) 3) (w_ei ws (w_ar ws (n_v vs 0) 1)) (w_ei ws (w_ar ws (n_v vs 0) 2)) (w_ei w1 (w_ar ws (n_v vs 0) 1)) (w_ei w1 (w_ar ws (n_v vs 0) 2)) (w_fi w1 (n_v vs 0) 3) (w_ei w1 (w_ar ws (n_v vs 1) 2)) (w_ei w1 (w_ar ws (n_v vs 1) 3)) (w_ei ws (w_ar ws (n_v vs 1) 2)) (w_ei ws (w_ar ws (n_v vs 1) 3)) k10 k11 k25 d1 d2 fe_0_3_1 hE_0_1_1 hE_0_2_1 hE_1_2_1 hE_1_3_1 kz_0_3)⟩
  refine ⟨(fun _ h => (by cases h)), [], trivial, ?_, (fun _ h => (by cases h))⟩
  rw [List.append_nil]
  exact List.forall_mem_cons.mpr ⟨⟨show (20 : Nat) < 100 from by decide, nf0⟩, List.forall_mem_cons.mpr ⟨⟨show (20 : Nat) < 100 from by decide, nf1⟩, (fun _ h => (by cases h))⟩⟩

set_option maxHeartbeats 4000000 in
theorem vc_Pn_placeNext_16_0 (x6 : Int) (x9 : Int) (x12 : Int) (x14 : Int) (x18 : Int) (x19 : Int) (x20 : Int) (x22 : Int) (x23 : Int) (x24 : Int) (x25 : Int) (x26 : Int) (lineLength_0 : Int) (order_0 : Int → Int) (line_0 : Int → Int) (under_1 : Int → Int) (line_1 : Int → Int) (order_1 : Int → Int) (lineLength_1 : Int) (x_1o1 : Int → Int) (y_1o1 : Int → Int) (under_0 : Int → Int) (x_0o1 : Int → Int) (y_0o1 : Int → Int) (k6 : 3 ≤ x6 ∧ x6 ≤ 23) (k9 : 0 ≤ x9 ∧ x9 ≤ 23) (k12 : 1 ≤ x12 ∧ x12 ≤ 22) (k14 : 2 ≤ x14 ∧ x14 ≤ 24) (k18 : 3 ≤ x18 ∧ x18 ≤ 23) (k19 : 1 ≤ x19 ∧ x19 ≤ 23) (k20 : 0 ≤ x20 ∧ x20 ≤ 23) (k22 : 0 ≤ x22 ∧ x22 ≤ 16777215) (k23 : 0 ≤ x23 ∧ x23 ≤ 23) (k24 : 0 ≤ x24 ∧ x24 ≤ 16777215) (k25 : 0 ≤ x25 ∧ x25 ≤ 16777215) (k26 : 2 ≤ x26 ∧ x26 ≤ 23) (d0 : x12 + 1 ≤ x26 ∧ x26 ≤ x12 + 1) (d2 : x14 + (-4294967296) ≤ x26 ∧ x26 ≤ x14 + 0) (d4 : x14 + (-4294967296) ≤ x12 ∧ x12 ≤ x14 + (-1)) (g2 : x14 = lineLength_0) (f4 : x26 = x12 + 1) (f5 : 1 * x18 + ((-1) * x6 + 0) ≤ 0) (f6 : (-1) * x18 + (1 * x6 + 0) ≤ 0) (f7 : 1 * x19 + ((-1) * x12 + 0) ≤ 0) (f8 : (-1) * x19 + (1 * x12 + 0) ≤ 0) (f9 : 1 * x20 + ((-1) * x9 + 0) ≤ 0) (f10 : (-1) * x20 + (1 * x9 + 0) ≤ 0) (f16 : x9 = order_0 (x6)) (f22 : bvp (x25) = bvp (x22) ||| bvp (x24)) (h23 : x24 = under_1 (x23)) (h24 : x23 = line_1 (x12)) (h26 : x22 = under_1 (x9)) (f35 : LNO (lineLength_1) (line_1) (order_1) (x6)) (f39 : CO2n (order_1) (under_1) (x_1o1) (y_1o1) (x18) (x19) (x20)) (fe_0_3_1 : lineLength_0 = lineLength_1) (hE_0_1_1 : ∀ j : Int, order_0 j = order_1 j) (hE_0_2_1 : ∀ j : Int, line_0 j = line_1 j) (hE_0_4_1 : ∀ j : Int, 0 ≤ j → (j = x9 → under_0 j = x25) ∧ (j ≠ x9 → under_0 j = under_1 j)) (hE_1_2_1 : ∀ j : Int, x_0o1 j = x_1o1 j) (hE_1_3_1 : ∀ j : Int, y_0o1 j = y_1o1 j) (kz_0_3 : 0 ≤ lineLength_0 ∧ lineLength_0 ≤ 24) : CO2 (order_0) (under_0) (x_0o1) (y_0o1) (x6) (x26) (x9) := by
  subst fe_0_3_1
  have e_hE_0_1_1 := funext hE_0_1_1; subst e_hE_0_1_1
  have e_hE_0_2_1 := funext hE_0_2_1; subst e_hE_0_2_1
  have e_hE_1_2_1 := funext hE_1_2_1; subst e_hE_1_2_1
  have e_hE_1_3_1 := funext hE_1_3_1; subst e_hE_1_3_1
  first
    | (have g := ‹CO2n _ _ _ _ _ _ _›
       have l := ‹LNO _ _ _ _›
       rw [show x18 = x6 by omega, show x19 = x12 by omega, show x20 = x9 by omega] at g
       exact co2_step (a := x24) g (by omega) (by assumption) rfl (by omega) (by assumption) (fun z => (bit_or (by assumption) z).1) (Or.inr ⟨x23, lno_toq (q := x12) l (by omega) (by omega) (by assumption), by assumption⟩))
set_option maxHeartbeats 4000000 in
theorem vc_Pn_placeNext_16_1 (x6 : Int) (x10 : Int) (x12 : Int) (x26 : Int) (lineLength_0 : Int) (order_0 : Int → Int) (line_0 : Int → Int) (line_1 : Int → Int) (order_1 : Int → Int) (lineLength_1 : Int) (x_1o1 : Int → Int) (y_1o1 : Int → Int) (x_0o1 : Int → Int) (y_0o1 : Int → Int) (k10 : 0 ≤ x10 ∧ x10 ≤ 21) (k12 : 1 ≤ x12 ∧ x12 ≤ 22) (k26 : 2 ≤ x26 ∧ x26 ≤ 23) (d0 : x12 + 1 ≤ x26 ∧ x26 ≤ x12 + 1) (d5 : x12 + (-4294967296) ≤ x10 ∧ x10 ≤ x12 + (-1)) (fe_0_3_1 : lineLength_0 = lineLength_1) (hE_0_1_1 : ∀ j : Int, order_0 j = order_1 j) (hE_0_2_1 : ∀ j : Int, line_0 j = line_1 j) (hE_1_2_1 : ∀ j : Int, x_0o1 j = x_1o1 j) (hE_1_3_1 : ∀ j : Int, y_0o1 j = y_1o1 j) (kz_0_3 : 0 ≤ lineLength_0 ∧ lineLength_0 ≤ 24) : (1 ≤ x26) ∧ ((x10 + 1) ≤ x26) := by
  subst fe_0_3_1
  have e_hE_0_1_1 := funext hE_0_1_1; subst e_hE_0_1_1
  have e_hE_0_2_1 := funext hE_0_2_1; subst e_hE_0_2_1
  have e_hE_1_2_1 := funext hE_1_2_1; subst e_hE_1_2_1
  have e_hE_1_3_1 := funext hE_1_3_1; subst e_hE_1_3_1
  first
    | omega
    | assumption
    | (have h := (‹LNO _ _ _ _›).1; omega)
    | (rw [(hE_0_6_1 0 (by omega)).1 (by omega), show gx = x6 by omega]; assumption)
def o_Pn_placeNext_16 : or_T := (81, 27, [(0, (2, 0, 0, [7])), (1, (2, 0, 0, [0])), (3, (2, 0, 0, [102])), (6, (0, 3, 23, [])), (7, (2, 0, 0, [7])), (8, (2, 0, 0, [0])), (9, (0, 0, 23, [])), (10, (0, 0, 21, [])), (11, (0, 2, 23, [])), (12, (0, 1, 22, [])), (13, (2, 0, 0, [102])), (14, (0, 2, 24, [])), (15, (2, 0, 0, [103])), (16, (0, 0, 23, [])), (17, (0, 1, 1, [])), (18, (0, 3, 23, [])), (19, (0, 1, 23, [])), (20, (0, 0, 23, [])), (21, (2, 0, 0, [104])), (22, (0, 0, 16777215, [])), (23, (0, 0, 23, [])), (24, (0, 0, 16777215, [])), (25, (0, 0, 16777215, [])), (26, (0, 2, 23, []))], [(9, [21, 7], [4]), (9, [15, 7], [2]), (9, [14, 7], [3]), (9, [13, 7], [1]), (6, [26, 12], [1]), (23, [18, 6], [0, 1, -1]), (23, [18, 6], [0, -1, 1]), (23, [19, 12], [0, 1, -1]), (23, [19, 12], [0, -1, 1]), (23, [20, 9], [0, 1, -1]), (23, [20, 9], [0, -1, 1]), (20, [17], [50, 0, 0, 2, 6, 0, 2, 0, 1, 1, 0, 0, 2, 1, 0, 0, 2]), (20, [7, 16, 18], [60, 0, 1, 891, 1]), (20, [7, 6], [60, 1, 2, 889, 3, 2, 1]), (20, [10, 7, 11], [50, 1, 0, 1003, 2, 19, 2, 6, 0, 2, 0, 0, 1, 0, 0, 6, 4, 2, 1, 0, 0, 1, 2, 1, 3, 2, 6, 0, 2, 0, 0, 1, 2, 0, 6, 4, 2, 1, 2, 0, 1, 2, 1, 3]), (20, [12, 10], [50, 0, 0, 2, 6, 0, 2, 0, 1, 1, 0, 0, 6, 4, 2, 1, 1, 0, 1, 1, 0]), (20, [9, 7, 6], [50, 0, 1, 1001, 1, 2, 1, 0, 3, 1, 1, 1, 2]), (24, [3, 13], []), (24, [0, 7], []), (24, [1, 8], []), (100, [21, 9, 25], []), (13, [25, 22, 24], []), (16, [25, 22, 24], [1]), (10, [24, 21, 23], []), (10, [23, 15, 12], []), (7, [12, 11], [2]), (10, [22, 21, 9], []), (23, [18, 6], [0, 1, -1]), (23, [18, 6], [0, -1, 1]), (23, [19, 12], [0, 1, -1]), (23, [19, 12], [0, -1, 1]), (23, [20, 9], [0, 1, -1]), (23, [20, 9], [0, -1, 1]), (20, [17], [50, 0, 0, 2, 6, 0, 2, 0, 1, 1, 0, 0, 2, 1, 0, 0, 2]), (20, [7, 16, 18], [60, 0, 1, 891, 1]), (20, [7, 6], [60, 1, 2, 889, 3, 2, 1]), (20, [10, 7, 11], [50, 1, 0, 1003, 2, 19, 2, 6, 0, 2, 0, 0, 1, 0, 0, 6, 4, 2, 1, 0, 0, 1, 2, 1, 3, 2, 6, 0, 2, 0, 0, 1, 2, 0, 6, 4, 2, 1, 2, 0, 1, 2, 1, 3]), (20, [12, 10], [50, 0, 0, 2, 6, 0, 2, 0, 1, 1, 0, 0, 6, 4, 2, 1, 1, 0, 1, 1, 0]), (20, [9, 7, 6], [50, 0, 1, 1001, 1, 2, 1, 0, 3, 1, 1, 1, 2]), (20, [7, 8, 18, 19, 20], [60, 0, 4, 886, 1, 4, 1002, 1003]), (102, [20], [16384]), (23, [18, 6], [0, 1, -1]), (23, [18, 6], [0, -1, 1]), (23, [19, 12], [0, 1, -1]), (23, [19, 12], [0, -1, 1]), (23, [20, 9], [0, 1, -1]), (23, [20, 9], [0, -1, 1]), (7, [12, 11], [2]), (7, [12, 14], [2])], [], [], [(20, [7, 8, 6, 26, 9], [60, 0, 4, 885, 1, 4, 1002, 1003]), (20, [26, 10], [50, 0, 0, 2, 6, 0, 2, 0, 1, 1, 0, 0, 6, 4, 2, 1, 1, 0, 1, 1, 0])], [], [(26, 12, 1, 1), (26, 11, -4294967296, 0), (26, 14, -4294967296, 0), (12, 11, -4294967296, -1), (12, 14, -4294967296, -1), (10, 12, -4294967296, -1)])
theorem oo_Pn_placeNext_16 {kA : Nat → ClassId} : or_ok PRD kA GG o_Pn_placeNext_16 := by
  refine or_mk fun A ta ws vs hD hth hl => ?_
  intro t0 r0 t1 r1 t3 r3 t6 k6 t7 r7 t8 r8 t9 k9 t10 k10 t11 k11 t12 k12 t13 r13 t14 k14 t15 r15 t16 k16 t17 k17 t18 k18 t19 k19 t20 k20 t21 r21 t22 k22 t23 k23 t24 k24 t25 k25 t26 k26 d0 d1 d2 d3 d4 d5 f0 f1 f2 f3 f4 f5 f6 f7 f8 f9 f10 f11 f12 f13 f14 f15 f16 f17 f18 f19 ta1 w1 le1 s1 f21 f22 f23 f24 f25 f26 f27 f28 f29 f30 f31 f32 f33 f34 f35 f36 f37 f38 f39 ta2 w2 le2 s2 f41 f42 f43 f44 f45 f46 f47 f48
  replace f0 := shm_107 f0
  replace f1 := shm_129 f1
  replace f2 := shm_149 f2
  replace f4 := shm_4 f4
  replace f5 := shm_7 f5
  replace f6 := shm_22 f6
  replace f7 := shm_7 f7
  replace f8 := shm_22 f8
  replace f9 := shm_7 f9
  replace f10 := shm_22 f10
  replace f16 := shm_1363 f16
  replace f18 := shm_5 f18
  replace f19 := shm_5 f19
  have s1 : (∀ b j, w_el ws b j = if b = v_ad (n_v vs 21) ∧ j = (v_iv (n_v vs 9)).toNat then v_iv (n_v vs 25) else w_el w1 b j) ∧ ∀ b k, w_fd ws b k = w_fd w1 b k := s1.2
  replace f22 := shm_372 f22
  replace f23 := shm_106 f23
  replace f24 := shm_106 f24
  replace f26 := shm_106 f26
  replace f35 := shm_871 f35
  replace f39 := shm_448 f39
  have q7 : n_v vs 7 = n_v vs 0 := f18.symm
  have q8 : n_v vs 8 = n_v vs 1 := f19.symm
  simp only [q7, q8] at f0 f1 f2 f16 f35 f39
  have ar_0_1_1 : w_ar w1 (n_v vs 0) 1 = w_ar ws (n_v vs 0) 1 := congrArg v_ad (s1.2 _ _).symm
  have cr_0_1 := fdq_96 hD hth r0
  have ar_0_2_1 : w_ar w1 (n_v vs 0) 2 = w_ar ws (n_v vs 0) 2 := congrArg v_ad (s1.2 _ _).symm
  have cr_0_2 := fdq_222 hD hth r0
  have ar_0_4_1 : w_ar w1 (n_v vs 0) 4 = w_ar ws (n_v vs 0) 4 := congrArg v_ad (s1.2 _ _).symm
  have ar_1_2_1 : w_ar w1 (n_v vs 1) 2 = w_ar ws (n_v vs 1) 2 := congrArg v_ad (s1.2 _ _).symm
  have cr_1_2 := fdq_51 hD hth r1
  have ar_1_3_1 : w_ar w1 (n_v vs 1) 3 = w_ar ws (n_v vs 1) 3 := congrArg v_ad (s1.2 _ _).symm
  have cr_1_3 := fdq_54 hD hth r1
  have ad_21 : v_ad (n_v vs 21) = w_ar ws (n_v vs 0) 4 := congrArg v_ad f0
  have ad_15 : v_ad (n_v vs 15) = w_ar ws (n_v vs 0) 2 := congrArg v_ad f1
  have g2 : v_iv (n_v vs 14) = w_fi ws (n_v vs 0) 3 := congrArg v_iv f2
  simp only [ad_21] at f23
  have h23 : v_iv (n_v vs 24) = w_ei w1 (w_ar ws (n_v vs 0) 4) (v_iv (n_v vs 23)) := f23
  simp only [ad_15] at f24
  have h24 : v_iv (n_v vs 23) = w_ei w1 (w_ar ws (n_v vs 0) 2) (v_iv (n_v vs 12)) := f24
  simp only [ad_21] at f26
  have h26 : v_iv (n_v vs 22) = w_ei w1 (w_ar ws (n_v vs 0) 4) (v_iv (n_v vs 9)) := f26
  simp only [ar_0_1_1, ar_0_2_1, ar_0_4_1, ar_1_2_1, ar_1_3_1] at f35 f39
  have fe_0_3_1 : w_fi ws (n_v vs 0) 3 = w_fi w1 (n_v vs 0) 3 := congrArg v_iv (s1.2 _ _)
  have hE_0_1_1 : ∀ j : Int, w_ei ws (w_ar ws (n_v vs 0) 1) j = w_ei w1 (w_ar ws (n_v vs 0) 1) j := el_kp s1.1 r21 cr_0_1 (by decide)
  have hE_0_2_1 : ∀ j : Int, w_ei ws (w_ar ws (n_v vs 0) 2) j = w_ei w1 (w_ar ws (n_v vs 0) 2) j := el_kp s1.1 r21 cr_0_2 (by decide)
  have hE_0_4_1 : ∀ j : Int, 0 ≤ j → (j = v_iv (n_v vs 9) → w_ei ws (w_ar ws (n_v vs 0) 4) j = v_iv (n_v vs 25)) ∧ (j ≠ v_iv (n_v vs 9) → w_ei ws (w_ar ws (n_v vs 0) 4) j = w_ei w1 (w_ar ws (n_v vs 0) 4) j) := fun j hj => ⟨fun h => by unfold w_ei; rw [s1.1, if_pos ⟨ad_21.symm, by rw [h]⟩], fun h => by unfold w_ei; rw [s1.1, if_neg (fun e => h (by have := e.2; omega))]⟩
  have hE_1_2_1 : ∀ j : Int, w_ei ws (w_ar ws (n_v vs 1) 2) j = w_ei w1 (w_ar ws (n_v vs 1) 2) j := el_kp s1.1 r21 cr_1_2 (by decide)
  have hE_1_3_1 : ∀ j : Int, w_ei ws (w_ar ws (n_v vs 1) 3) j = w_ei w1 (w_ar ws (n_v vs 1) 3) j := el_kp s1.1 r21 cr_1_3 (by decide)
  have kz_0_3 := fdq_15 hD hth r0
  have nf0 : fc_1 PRD (20, [7, 8, 6, 26, 9], [60, 0, 4, 885, 1, 4, 1002, 1003]) ws (vs) := by
    refine ⟨nf_in hl rfl, sgq_444 ?_⟩
    · show CO2 (w_ei ws (w_ar ws (n_v vs 7) 1)) (w_ei ws (w_ar ws (n_v vs 7) 4)) (w_ei ws (w_ar ws (n_v vs 8) 2)) (w_ei ws (w_ar ws (n_v vs 8) 3)) (v_iv (n_v vs 6)) (v_iv (n_v vs 26)) (v_iv (n_v vs 9))
      simp only [q7, q8]
      exact vc_Pn_placeNext_16_0 (v_iv (n_v vs 6)) (v_iv (n_v vs 9)) (v_iv (n_v vs 12)) (v_iv (n_v vs 14)) (v_iv (n_v vs 18)) (v_iv (n_v vs 19)) (v_iv (n_v vs 20)) (v_iv (n_v vs 22)) (v_iv (n_v vs 23)) (v_iv (n_v vs 24)) (v_iv (n_v vs 25)) (v_iv (n_v vs 26)) (w_fi ws (n_v vs 0) 3) (w_ei ws (w_ar ws (n_v vs 0) 1)) (w_ei ws (w_ar ws (n_v vs 0) 2)) (w_ei w1 (w_ar ws (n_v vs 0) 4)) (w_ei w1 (w_ar ws (n_v vs 0) 2)) (w_ei w1 (w_ar ws (n_v vs 0) 1)) (w_fi w1 (n_v vs 0) 3) (w_ei w1 (w_ar ws (n_v vs 1) 2)) (w_ei w1 (w_ar ws (n_v vs 1) 3)) (w_ei ws (w_ar ws (n_v vs 0) 4)) (w_ei ws (w_ar ws (n_v vs 1) 2)) (w_ei ws (w_ar ws (n_v vs 1) 3)) k6 k9 k12 k14 k18 k19 k20 k22 k23 k24 k25 k26 d0 d2 d4 g2 f4 f5 f6 f7 f8 f9 f10 f16 f22 h23 h24 h26 f35 f39 fe_0_3_1 hE_0_1_1 hE_0_2_1 hE_0_4_1 hE_1_2_1 hE_1_3_1 kz_0_3
  have nf1 : fc_1 PRD (20, [26, 10], [50, 0, 0, 2, 6, 0, 2, 0, 1, 1, 0, 0, 6, 4, 2, 1, 1, 0, 1, 1, 0]) ws (vs) := ⟨nf_in hl rfl, sgq_1366 (vc_Pn_placeNext_16_1 (v_iv (n_v vs 6)) (v_iv (n_v vs 10)) (v_iv (n_v vs 12)) (v_iv (n_v vs 26)) (w_fi ws (n_v vs 0) 3) (w_ei ws (w_ar ws (n_v vs 0) 1)) (w_ei ws (w_ar ws (n_v vs 0) 2)) (w_ei w1 (w_ar ws (n_v vs 0) 2)) (w_ei w1 (w_ar ws (n_v vs 0) 1)) (w_fi w1 (n_v vs 0) 3) (w_ei w1 (w_ar ws (n_v vs 1) 2)) (w_ei w1 (w_ar ws (n_v vs 1) 3)) (w_ei ws (w_ar ws (n_v vs 1) 2)) (w_ei ws (w_ar ws (n_v vs 1) 3)) k10 k12 k26 d0 d5 fe_0_3_1 hE_0_1_1 hE_0_2_1 hE_1_2_1 hE_1_3_1 kz_0_3)⟩
  refine ⟨(fun _ h => (by cases h)), [], trivial, ?_, (fun _ h => (by cases h))⟩
  rw [List.append_nil]
  exact List.forall_mem_cons.mpr ⟨⟨show (20 : Nat) < 100 from by decide, nf0⟩, List.forall_mem_cons.mpr ⟨⟨show (20 : Nat) < 100 from by decide, nf1⟩, (fun _ h => (by cases h))⟩⟩
def n_Pn_placeNext_an : List an_T := [(8, [(0, (2, 0, 0, [7])), (1, (2, 0, 0, [0])), (2, (0, 0, 23, [])), (3, (0, (Int.negSucc 0), 23, [])), (4, (0, 0, 23, [])), (5, (0, 0, 24, []))], [], (0, 0), [(0, 0, 99992), (1, 12, 24), (0, 0, 100000)], [(2, 9, (Int.negSucc 999999999999), 0), (9, 2, (Int.negSucc 999999999999), 0), (10, 11, (Int.negSucc 999999999999), 0), (10, 12, (Int.negSucc 999999999999), (Int.negSucc 0)), (11, 12, (Int.negSucc 999999999999), 0)], [((0, 1), (2, 0, 0, [102]))], [(2, 0, 0, [7]), (2, 0, 0, [0]), (0, 0, 23, []), (2, 0, 0, [102]), (2, 0, 0, [12]), (0, 0, 3072, []), (0, 3, 23, [])], 0, [], [(20, [4, 5, 8], [62, 2000000]), (20, [7, 6], [60, 1, 2, 889, 3, 2, 1]), (20, [7, 8, 6], [60, 0, 4, 883, 1, 4, 1002, 1003]), (20, [10, 7, 11], [50, 1, 0, 1003, 2, 19, 2, 6, 0, 2, 0, (Int.negSucc 0), 1, 0, 0, 6, 4, 2, 1, 0, 0, 1, 2, 1, 3, 2, 6, 0, 2, 0, 0, 1, 2, 0, 6, 4, 2, 1, 2, 0, 1, 2, 1, 3]), (20, [9, 7, 6], [50, 0, 1, 1001, 1, 2, 1, 0, 3, 1, 1, 1, 2]), (24, [3, 13], []), (24, [0, 7], []), (24, [1, 8], [])]), (81, [(0, (2, 0, 0, [7])), (1, (2, 0, 0, [0])), (2, (0, 0, 23, [])), (3, (0, 0, 23, [])), (4, (0, 0, 23, [])), (5, (0, 1, 24, []))], [], (0, 0), [(0, 0, 99919), (1, 12, 24), (0, 0, 100000)], [(2, 9, (Int.negSucc 999999999999), 0), (9, 2, (Int.negSucc 999999999999), 0), (10, 12, (Int.negSucc 999999999999), (Int.negSucc 0))], [((0, 1), (2, 0, 0, [102]))], [(2, 0, 0, [7]), (2, 0, 0, [0]), (0, 0, 23, []), (2, 0, 0, [102]), (2, 0, 0, [12]), (0, 0, 3072, []), (0, 3, 23, [])], 0, [], [(20, [4, 5, 8], [62, 2000000]), (20, [7, 6], [60, 1, 2, 889, 3, 2, 1]), (20, [7, 8, 6, 12, 9], [60, 0, 4, 885, 1, 4, 1002, 1003]), (20, [10, 7, 11], [50, 1, 0, 1003, 2, 19, 2, 6, 0, 2, 0, 0, 1, 0, 0, 6, 4, 2, 1, 0, 0, 1, 2, 1, 3, 2, 6, 0, 2, 0, 0, 1, 2, 0, 6, 4, 2, 1, 2, 0, 1, 2, 1, 3]), (20, [12, 10], [50, 0, 0, 2, 6, 0, 2, 0, 1, 1, 0, 0, 6, 4, 2, 1, 1, 0, 1, 1, 0]), (20, [9, 7, 6], [50, 0, 1, 1001, 1, 2, 1, 0, 3, 1, 1, 1, 2]), (24, [3, 13], []), (24, [0, 7], []), (24, [1, 8], [])])]
def t_Pn_placeNext_ct : ct_L := [(1, 184, e_Pn_shiftUnder), (192, 92, e_jMath_max1_v133), (192, 92, e_jMath_max1_v134), (192, 92, e_jMath_max1_v135), (192, 92, e_jMath_max1_v136), (192, 92, e_jMath_max1_v137), (192, 92, e_jMath_max1_v138), (192, 92, e_jMath_max1_v139), (192, 92, e_jMath_max1_v140), (192, 92, e_jMath_max1_v141), (192, 92, e_jMath_max1_v142), (192, 92, e_jMath_max1_v143), (799, 168, e_Pn_replaceInLine_at_gg)]
set_option maxRecDepth 100000 in
theorem c_Pn_placeNext {l : Launch} {D : va_G} {kA : Nat → ClassId} (h_Pn_replaceInLine_at_gg : ct_ok PRD l D kA GG y_Pn_replaceInLine_at_gg z_Pn_replaceInLine_at_gg e_Pn_replaceInLine_at_gg) (h_Pn_shiftUnder : ct_ok PRD l D kA GG y_Pn_shiftUnder z_Pn_shiftUnder e_Pn_shiftUnder) : ct_ok PRD l D kA GG y_Pn_placeNext z_Pn_placeNext e_Pn_placeNext := chk_all_ok (FT := [(12, 7, 0), (22, 7, 2), (25, 7, 3), (29, 7, 4), (35, 7, 6), (87, 0, 3), (131, 5, 9), (177, 0, 2)]) (PT := []) (CT := t_Pn_placeNext_ct) (KT := []) (NT := []) (AN := n_Pn_placeNext_an) (OT := [o_Pn_placeNext_0, o_Pn_placeNext_1, o_Pn_placeNext_2, o_Pn_placeNext_3, o_Pn_placeNext_4, o_Pn_placeNext_5, o_Pn_placeNext_6, o_Pn_placeNext_7, o_Pn_placeNext_8, o_Pn_placeNext_9, o_Pn_placeNext_10, o_Pn_placeNext_11, o_Pn_placeNext_12, o_Pn_placeNext_13, o_Pn_placeNext_14, o_Pn_placeNext_15, o_Pn_placeNext_16]) 3 812 (List.forall_mem_cons.mpr ⟨oo_Pn_placeNext_0, List.forall_mem_cons.mpr ⟨oo_Pn_placeNext_1, List.forall_mem_cons.mpr ⟨oo_Pn_placeNext_2, List.forall_mem_cons.mpr ⟨oo_Pn_placeNext_3, List.forall_mem_cons.mpr ⟨oo_Pn_placeNext_4, List.forall_mem_cons.mpr ⟨oo_Pn_placeNext_5, List.forall_mem_cons.mpr ⟨oo_Pn_placeNext_6, List.forall_mem_cons.mpr ⟨oo_Pn_placeNext_7, List.forall_mem_cons.mpr ⟨oo_Pn_placeNext_8, List.forall_mem_cons.mpr ⟨oo_Pn_placeNext_9, List.forall_mem_cons.mpr ⟨oo_Pn_placeNext_10, List.forall_mem_cons.mpr ⟨oo_Pn_placeNext_11, List.forall_mem_cons.mpr ⟨oo_Pn_placeNext_12, List.forall_mem_cons.mpr ⟨oo_Pn_placeNext_13, List.forall_mem_cons.mpr ⟨oo_Pn_placeNext_14, List.forall_mem_cons.mpr ⟨oo_Pn_placeNext_15, List.forall_mem_cons.mpr ⟨oo_Pn_placeNext_16, List.forall_mem_nil _⟩⟩⟩⟩⟩⟩⟩⟩⟩⟩⟩⟩⟩⟩⟩⟩⟩) (by decide +kernel) ⟨List.forall_mem_cons.mpr ⟨gf_Pn_12, List.forall_mem_cons.mpr ⟨gf_Pn_22, List.forall_mem_cons.mpr ⟨gf_Pn_25, List.forall_mem_cons.mpr ⟨gf_Pn_29, List.forall_mem_cons.mpr ⟨gf_Pn_35, List.forall_mem_cons.mpr ⟨gf_Pn_87, List.forall_mem_cons.mpr ⟨gf_Pn_131, List.forall_mem_cons.mpr ⟨gf_Pn_177, List.forall_mem_nil _⟩⟩⟩⟩⟩⟩⟩⟩, List.forall_mem_nil _, List.forall_mem_cons.mpr ⟨cl_virtual (y := y_Pn_shiftUnder) (ci := 7) rfl rfl ⟨_, _, rfl⟩ (by decide +kernel) h_Pn_shiftUnder wm_1578 wm_20 wm_1575 wm_1577 wv_6_15 ⟨by decide, by decide, by decide +kernel⟩ (by decide), List.forall_mem_cons.mpr ⟨cl_static (y := y_jMath_max1) c_jMath_max1_v133 wm_836 wm_10 wm_1574 wm_835 ⟨by decide, by decide, by decide +kernel⟩ (by decide), List.forall_mem_cons.mpr ⟨cl_static (y := y_jMath_max1) c_jMath_max1_v134 wm_836 wm_10 wm_1574 wm_835 ⟨by decide, by decide, by decide +kernel⟩ (by decide), List.forall_mem_cons.mpr ⟨cl_static (y := y_jMath_max1) c_jMath_max1_v135 wm_836 wm_10 wm_1574 wm_835 ⟨by decide, by decide, by decide +kernel⟩ (by decide), List.forall_mem_cons.mpr ⟨cl_static (y := y_jMath_max1) c_jMath_max1_v136 wm_836 wm_10 wm_1574 wm_835 ⟨by decide, by decide, by decide +kernel⟩ (by decide), List.forall_mem_cons.mpr ⟨cl_static (y := y_jMath_max1) c_jMath_max1_v137 wm_836 wm_10 wm_1574 wm_835 ⟨by decide, by decide, by decide +kernel⟩ (by decide), List.forall_mem_cons.mpr ⟨cl_static (y := y_jMath_max1) c_jMath_max1_v138 wm_836 wm_10 wm_1574 wm_835 ⟨by decide, by decide, by decide +kernel⟩ (by decide), List.forall_mem_cons.mpr ⟨cl_static (y := y_jMath_max1) c_jMath_max1_v139 wm_836 wm_10 wm_1574 wm_835 ⟨by decide, by decide, by decide +kernel⟩ (by decide), List.forall_mem_cons.mpr ⟨cl_static (y := y_jMath_max1) c_jMath_max1_v140 wm_836 wm_10 wm_1574 wm_835 ⟨by decide, by decide, by decide +kernel⟩ (by decide), List.forall_mem_cons.mpr ⟨cl_static (y := y_jMath_max1) c_jMath_max1_v141 wm_836 wm_10 wm_1574 wm_835 ⟨by decide, by decide, by decide +kernel⟩ (by decide), List.forall_mem_cons.mpr ⟨cl_static (y := y_jMath_max1) c_jMath_max1_v142 wm_836 wm_10 wm_1574 wm_835 ⟨by decide, by decide, by decide +kernel⟩ (by decide), List.forall_mem_cons.mpr ⟨cl_static (y := y_jMath_max1) c_jMath_max1_v143 wm_836 wm_10 wm_1574 wm_835 ⟨by decide, by decide, by decide +kernel⟩ (by decide), List.forall_mem_cons.mpr ⟨cl_virtual (y := y_Pn_replaceInLine_at_gg) (ci := 7) rfl rfl ⟨_, _, rfl⟩ (by decide +kernel) h_Pn_replaceInLine_at_gg wm_1564 wm_20 wm_1561 wm_1563 wv_6_12 ⟨by decide, by decide, by decide +kernel⟩ (by decide), List.forall_mem_nil _⟩⟩⟩⟩⟩⟩⟩⟩⟩⟩⟩⟩⟩, List.forall_mem_nil _, List.forall_mem_nil _, GG_pl⟩ (by decide +kernel)
set_option maxHeartbeats 4000000 in
theorem vc_Re_meetNode_at_ga_0_r0 (x4 : Int) (x5 : Int) (x6 : Int) (begin_0 : Int) (next_0 : Int) (k4 : 0 ≤ x4 ∧ x4 ≤ 2000) (k5 : 0 ≤ x5 ∧ x5 ≤ 2000) (k6 : (-2000) ≤ x6 ∧ x6 ≤ 2000) (f0 : x6 = x5 - x4) (g1 : x4 = begin_0) (g2 : x5 = next_0) (f3 : 1 * next_0 + ((-1) * begin_0 + 0) ≤ 8) (f4 : (-1) * next_0 + (1 * begin_0 + 0) ≤ 0) (kz_0_6 : 0 ≤ next_0 ∧ next_0 ≤ 2000) (kz_0_8 : 0 ≤ begin_0 ∧ begin_0 ≤ 2000) : 0 ≤ x6 ∧ x6 ≤ 8 := by
  first
    | omega
  
set_option maxHeartbeats 4000000 in
theorem vc_Re_meetNode_at_ga_0_0 (x4 : Int) (x5 : Int) (x6 : Int) (begin_0 : Int) (next_0 : Int) (k4 : 0 ≤ x4 ∧ x4 ≤ 2000) (k5 : 0 ≤ x5 ∧ x5 ≤ 2000) (k6 : (-2000) ≤ x6 ∧ x6 ≤ 2000) (f0 : x6 = x5 - x4) (g1 : x4 = begin_0) (g2 : x5 = next_0) (kz_0_6 : 0 ≤ next_0 ∧ next_0 ≤ 2000) (kz_0_8 : 0 ≤ begin_0 ∧ begin_0 ≤ 2000) : x4 + x6 ≤ 2000 := by
  first
    | omega
  
def o_Re_meetNode_at_ga_0 : or_T := (21, 7, [(0, (2, 0, 0, [8])), (1, (2, 0, 0, [164])), (2, (0, 0, 23, [])), (4, (0, 0, 2000, [])), (5, (0, 0, 2000, [])), (6, (0, -2000, 2000, []))], [(2, [6, 5, 4], []), (9, [4, 0], [8]), (9, [5, 0], [6]), (20, [0, 0], [30, 8, 1, 1, 6, -1, 1, 8]), (20, [0, 0], [30, 0, -1, 1, 6, 1, 1, 8]), (20, [1], [60, 2, 3, 670, 0, 1, 14, 7, 8]), (20, [1], [60, 2, 2, 596, 0, 1, 7, 8]), (20, [2, 1], [50, 1, 0, 1000, 2, 6, 0, 2, 0, 0, 1, 0, 0, 6, 4, 2, 1, 0, 0, 1, 2, 1, 0])], [(6, (0, 0, 8, []))], [], [(21, [4, 6], [2000])], [], [(6, 5, -2000, 0)])
theorem oo_Re_meetNode_at_ga_0 {kA : Nat → ClassId} : or_ok PRD kA GG o_Re_meetNode_at_ga_0 := by
  refine or_mk fun A ta ws vs hD hth hl => ?_
  intro t0 r0 t1 r1 t2 k2 t4 k4 t5 k5 t6 k6 d0 f0 f1 f2 f3 f4 f5 f6 f7
  replace f1 := shm_143 f1
  replace f2 := shm_110 f2
  have g1 : v_iv (n_v vs 4) = w_fi ws (n_v vs 0) 8 := congrArg v_iv f1
  have g2 : v_iv (n_v vs 5) = w_fi ws (n_v vs 0) 6 := congrArg v_iv f2
  have kz_0_6 := fdq_29 hD hth r0
  have kz_0_8 := fdq_31 hD hth r0
  have hrf0 : 0 ≤ v_iv (n_v vs 6) ∧ v_iv (n_v vs 6) ≤ 8 := vc_Re_meetNode_at_ga_0_r0 (v_iv (n_v vs 4)) (v_iv (n_v vs 5)) (v_iv (n_v vs 6)) (w_fi ws (n_v vs 0) 8) (w_fi ws (n_v vs 0) 6) k4 k5 k6 (shm_14 f0) g1 g2 (shm_1370 f3) (shm_1371 f4) kz_0_6 kz_0_8
  have nf0 : fc_1 PRD (21, [4, 6], [2000]) ws (vs) := ⟨nf_in hl rfl, sgq_813 (vc_Re_meetNode_at_ga_0_0 (v_iv (n_v vs 4)) (v_iv (n_v vs 5)) (v_iv (n_v vs 6)) (w_fi ws (n_v vs 0) 8) (w_fi ws (n_v vs 0) 6) k4 k5 k6 (shm_14 f0) g1 g2 kz_0_6 kz_0_8)⟩
  have rf6 : tv_ok ta (0, 0, 8, []) (n_v vs 6) := tv_in t6 (by first | omega | grind) (by first | omega | grind)
  refine ⟨List.forall_mem_cons.mpr ⟨rf6, (fun _ h => (by cases h))⟩, [], trivial, ?_, (fun _ h => (by cases h))⟩
  rw [List.append_nil]
  exact List.forall_mem_cons.mpr ⟨⟨show (21 : Nat) < 100 from by decide, nf0⟩, (fun _ h => (by cases h))⟩
set_option maxHeartbeats 4000000 in
theorem vc_Re_meetNode_at_ga_1_0 (x2 : Int) (x9 : Int) (nodes_0o1 : Int) (k2 : 0 ≤ x2 ∧ x2 ≤ 23) (k9 : 0 ≤ x9 ∧ x9 ≤ 24) (g0 : x9 = nodes_0o1) (f11 : (0 ≤ x2) ∧ ((x2 + 1) ≤ nodes_0o1)) (kz_1_0 : 0 ≤ nodes_0o1 ∧ nodes_0o1 ≤ 24) : (x2 + 1) ≤ x9 := by
  first
    | omega
  
def o_Re_meetNode_at_ga_1 : or_T := (39, 11, [(1, (2, 0, 0, [164])), (2, (0, 0, 23, [])), (9, (0, 0, 24, []))], [(9, [9, 1], [0]), (20, [2, 1], [50, 1, 0, 1000, 2, 6, 0, 2, 0, 0, 1, 0, 0, 6, 4, 2, 1, 0, 0, 1, 2, 1, 0])], [], [], [(20, [2, 9], [50, 0, 0, 0, 6, 4, 2, 1, 0, 0, 1, 1, 1])], [], [])
theorem oo_Re_meetNode_at_ga_1 {kA : Nat → ClassId} : or_ok PRD kA GG o_Re_meetNode_at_ga_1 := by
  refine or_mk fun A ta ws vs hD hth hl => ?_
  intro t1 r1 t2 k2 t9 k9 f0 f11
  replace f0 := shm_175 f0
  have g0 : v_iv (n_v vs 9) = w_fi ws (n_v vs 1) 0 := congrArg v_iv f0
  have kz_1_0 := fdq_77 hD hth r1
  have nf0 : fc_1 PRD (20, [2, 9], [50, 0, 0, 0, 6, 4, 2, 1, 0, 0, 1, 1, 1]) ws (vs) := ⟨nf_in hl rfl, sgq_409 (vc_Re_meetNode_at_ga_1_0 (v_iv (n_v vs 2)) (v_iv (n_v vs 9)) (w_fi ws (n_v vs 1) 0) k2 k9 g0 (shm_429 f11) kz_1_0)⟩
  refine ⟨(fun _ h => (by cases h)), [], trivial, ?_, (fun _ h => (by cases h))⟩
  rw [List.append_nil]
  exact List.forall_mem_cons.mpr ⟨⟨show (20 : Nat) < 100 from by decide, nf0⟩, (fun _ h => (by cases h))⟩
set_option maxHeartbeats 4000000 in
theorem vc_Re_meetNode_at_ga_2_r0 (x4 : Int) (x5 : Int) (x6 : Int) (x11 : Int) (begin_0 : Int) (next_0 : Int) (k4 : 0 ≤ x4 ∧ x4 ≤ 2000) (k5 : 0 ≤ x5 ∧ x5 ≤ 2000) (k6 : 0 ≤ x6 ∧ x6 ≤ 8) (k11 : (-2000) ≤ x11 ∧ x11 ≤ 2000) (f0 : x11 = x5 - x4) (g1 : x4 = begin_0) (g2 : x5 = next_0) (f9 : x6 = x5 - x4) (kz_0_6 : 0 ≤ next_0 ∧ next_0 ≤ 2000) (kz_0_8 : 0 ≤ begin_0 ∧ begin_0 ≤ 2000) : 0 ≤ x11 ∧ x11 ≤ 8 := by
  first
    | omega
  
set_option maxHeartbeats 4000000 in
theorem vc_Re_meetNode_at_ga_2_0 (x4 : Int) (x5 : Int) (x11 : Int) (begin_0 : Int) (next_0 : Int) (k4 : 0 ≤ x4 ∧ x4 ≤ 2000) (k5 : 0 ≤ x5 ∧ x5 ≤ 2000) (k11 : (-2000) ≤ x11 ∧ x11 ≤ 2000) (f0 : x11 = x5 - x4) (g1 : x4 = begin_0) (g2 : x5 = next_0) (kz_0_6 : 0 ≤ next_0 ∧ next_0 ≤ 2000) (kz_0_8 : 0 ≤ begin_0 ∧ begin_0 ≤ 2000) : x4 + x11 ≤ 2000 := by
  first
    | omega
  
set_option maxHeartbeats 4000000 in
theorem vc_Re_meetNode_at_ga_2_1 (nodes_0o1 : Int) (gx : Int) (kz_1_0 : 0 ≤ nodes_0o1 ∧ nodes_0o1 ≤ 24) (ex2 : gx = nodes_0o1) : nodes_0o1 = gx := by
  first
    | omega
  
set_option maxHeartbeats 4000000 in
theorem vc_Re_meetNode_at_ga_2_2 (x9 : Int) (nodes_0o1 : Int) (gx : Int) (k9 : 0 ≤ x9 ∧ x9 ≤ 23) (g5 : x9 = nodes_0o1) (kz_1_0 : 0 ≤ nodes_0o1 ∧ nodes_0o1 ≤ 24) (ex2 : gx = nodes_0o1) : nodes_0o1 ≤ 23 := by
  first
    | omega
  
set_option maxHeartbeats 4000000 in
theorem vc_Re_meetNode_at_ga_2_3 (nodes_0o1 : Int) (near_0o1 : Int → Int) (tail_0o1 : Int → Int) (head_0o1 : Int → Int) (edges_0o1 : Int) (f12 : GNB (nodes_0o1) (edges_0o1) (near_0o1) (tail_0o1) (head_0o1)) (kz_1_0 : 0 ≤ nodes_0o1 ∧ nodes_0o1 ≤ 24) (kz_1_1 : 0 ≤ edges_0o1 ∧ edges_0o1 ≤ 48) : GNB (nodes_0o1) (edges_0o1) (near_0o1) (tail_0o1) (head_0o1) := by
  first
    | assumption
  
set_option maxHeartbeats 4000000 in
theorem vc_Re_meetNode_at_ga_2_4 (nodes_0o1 : Int) (tail_0o1 : Int → Int) (head_0o1 : Int → Int) (edges_0o1 : Int) (f13 : GKE (nodes_0o1) (edges_0o1) (tail_0o1) (head_0o1)) (kz_1_0 : 0 ≤ nodes_0o1 ∧ nodes_0o1 ≤ 24) (kz_1_1 : 0 ≤ edges_0o1 ∧ edges_0o1 ≤ 48) : GKE (nodes_0o1) (edges_0o1) (tail_0o1) (head_0o1) := by
  first
    | assumption
  
def o_Re_meetNode_at_ga_2 : or_T := (72, 15, [(0, (2, 0, 0, [8])), (1, (2, 0, 0, [164])), (2, (0, 0, 23, [])), (4, (0, 0, 2000, [])), (5, (0, 0, 2000, [])), (6, (0, 0, 8, [])), (7, (0, -1, -1, [])), (8, (0, -1, -1, [])), (9, (0, 0, 23, [])), (10, (0, 24, 24, [])), (11, (0, -2000, 2000, []))], [(2, [11, 5, 4], []), (9, [4, 0], [8]), (9, [5, 0], [6]), (7, [9, 10], [2]), (20, [2, 9], [50, 0, 0, 0, 6, 4, 2, 1, 0, 0, 1, 1, 1]), (9, [9, 1], [0]), (7, [7, 8], [0]), (20, [7, 1], [50, 1, 0, 1000, 3, 6, 1, 2, 1, 0, 0, -1, 2, 6, 0, 2, 0, 0, 1, 0, 0, 6, 4, 2, 1, 0, 0, 1, 2, 1, 0]), (21, [4, 6], [2000]), (2, [6, 5, 4], []), (20, [0, 0], [30, 8, 1, 1, 6, -1, 1, 8]), (20, [0, 0], [30, 0, -1, 1, 6, 1, 1, 8]), (20, [1], [60, 2, 3, 670, 0, 1, 14, 7, 8]), (20, [1], [60, 2, 2, 596, 0, 1, 7, 8]), (20, [2, 1], [50, 1, 0, 1000, 2, 6, 0, 2, 0, 0, 1, 0, 0, 6, 4, 2, 1, 0, 0, 1, 2, 1, 0])], [(11, (0, 0, 8, []))], [(0, 0, 24, [])], [(21, [4, 11], [2000]), (20, [1, 15], [50, 1, 0, 0, 1, 3, 2, 0, 0, 1, 1]), (20, [1], [50, 1, 0, 0, 0, 3, 2, 0, 0, 0, 23]), (20, [1], [60, 2, 3, 670, 0, 1, 14, 7, 8]), (20, [1], [60, 2, 2, 596, 0, 1, 7, 8])], [], [(11, 5, -2000, 0), (6, 5, -2000, 0)])
theorem oo_Re_meetNode_at_ga_2 {kA : Nat → ClassId} : or_ok PRD kA GG o_Re_meetNode_at_ga_2 := by
  refine or_mk fun A ta ws vs hD hth hl => ?_
  intro t0 r0 t1 r1 t2 k2 t4 k4 t5 k5 t6 k6 t7 k7 t8 k8 t9 k9 t10 k10 t11 k11 d0 d1 f0 f1 f2 f3 f4 f5 f6 f7 f8 f9 f10 f11 f12 f13 f14
  replace f0 := shm_14 f0
  replace f1 := shm_143 f1
  replace f2 := shm_110 f2
  replace f5 := shm_175 f5
  replace f9 := shm_14 f9
  replace f12 := shm_811 f12
  replace f13 := shm_401 f13
  have g1 : v_iv (n_v vs 4) = w_fi ws (n_v vs 0) 8 := congrArg v_iv f1
  have g2 : v_iv (n_v vs 5) = w_fi ws (n_v vs 0) 6 := congrArg v_iv f2
  have g5 : v_iv (n_v vs 9) = w_fi ws (n_v vs 1) 0 := congrArg v_iv f5
  have kz_0_6 := fdq_29 hD hth r0
  have kz_0_8 := fdq_31 hD hth r0
  have kz_1_0 := fdq_77 hD hth r1
  have kz_1_1 := fdq_78 hD hth r1
  obtain ⟨x, ex, hx⟩ := iv_ex (ta := ta) (lo := 0) (hi := 24) (z := w_fi ws (n_v vs 1) 0) (by omega) (by omega) (by omega) (by omega)
  have ex2 : v_iv (Value.int x) = w_fi ws (n_v vs 1) 0 := ex
  have ex3 : 0 ≤ v_iv (Value.int x) ∧ v_iv (Value.int x) ≤ 24 := tv_rng hx
  have hrf0 : 0 ≤ v_iv (n_v vs 11) ∧ v_iv (n_v vs 11) ≤ 8 := vc_Re_meetNode_at_ga_2_r0 (v_iv (n_v vs 4)) (v_iv (n_v vs 5)) (v_iv (n_v vs 6)) (v_iv (n_v vs 11)) (w_fi ws (n_v vs 0) 8) (w_fi ws (n_v vs 0) 6) k4 k5 k6 k11 f0 g1 g2 f9 kz_0_6 kz_0_8
  have e_1 : n_v (vs ++ [Value.int x]) 1 = n_v vs 1 := n_v_old (by rw [hl]; decide)
  have e_4 : n_v (vs ++ [Value.int x]) 4 = n_v vs 4 := n_v_old (by rw [hl]; decide)
  have e_11 : n_v (vs ++ [Value.int x]) 11 = n_v vs 11 := n_v_old (by rw [hl]; decide)
  have e_15 : n_v (vs ++ [Value.int x]) 15 = Value.int x := n_v_new hl
  have nf0 : fc_1 PRD (21, [4, 11], [2000]) ws (vs ++ [Value.int x]) := by
    refine ⟨nf_inA hl rfl, sgq_813 ?_⟩
    · show v_iv (n_v (vs ++ [Value.int x]) 4) + v_iv (n_v (vs ++ [Value.int x]) 11) ≤ 2000
      simp only [e_4, e_11]
      exact vc_Re_meetNode_at_ga_2_0 (v_iv (n_v vs 4)) (v_iv (n_v vs 5)) (v_iv (n_v vs 11)) (w_fi ws (n_v vs 0) 8) (w_fi ws (n_v vs 0) 6) k4 k5 k11 f0 g1 g2 kz_0_6 kz_0_8
  have nf1 : fc_1 PRD (20, [1, 15], [50, 1, 0, 0, 1, 3, 2, 0, 0, 1, 1]) ws (vs ++ [Value.int x]) := by
    refine ⟨nf_inA hl rfl, sgq_560 ?_⟩
    · show w_fi ws (n_v (vs ++ [Value.int x]) 1) 0 = v_iv (n_v (vs ++ [Value.int x]) 15)
      simp only [e_1, e_15]
      exact vc_Re_meetNode_at_ga_2_1 (w_fi ws (n_v vs 1) 0) (v_iv (Value.int x)) kz_1_0 ex2
  have nf2 : fc_1 PRD (20, [1], [50, 1, 0, 0, 0, 3, 2, 0, 0, 0, 23]) ws (vs ++ [Value.int x]) := by
    refine ⟨nf_inA hl rfl, sgq_814 ?_⟩
    · show w_fi ws (n_v (vs ++ [Value.int x]) 1) 0 ≤ 23
      rw [e_1]
      exact vc_Re_meetNode_at_ga_2_2 (v_iv (n_v vs 9)) (w_fi ws (n_v vs 1) 0) (v_iv (Value.int x)) k9 g5 kz_1_0 ex2
  have nf3 : fc_1 PRD (20, [1], [60, 2, 3, 670, 0, 1, 14, 7, 8]) ws (vs ++ [Value.int x]) := by
    refine ⟨nf_inA hl rfl, sgq_811 ?_⟩
    · show GNB (w_fi ws (n_v (vs ++ [Value.int x]) 1) 0) (w_fi ws (n_v (vs ++ [Value.int x]) 1) 1) (w_ei ws (w_ar ws (n_v (vs ++ [Value.int x]) 1) 14)) (w_ei ws (w_ar ws (n_v (vs ++ [Value.int x]) 1) 7)) (w_ei ws (w_ar ws (n_v (vs ++ [Value.int x]) 1) 8))
      rw [e_1]
      exact vc_Re_meetNode_at_ga_2_3 (w_fi ws (n_v vs 1) 0) (w_ei ws (w_ar ws (n_v vs 1) 14)) (w_ei ws (w_ar ws (n_v vs 1) 7)) (w_ei ws (w_ar ws (n_v vs 1) 8)) (w_fi ws (n_v vs 1) 1) f12 kz_1_0 kz_1_1
  have nf4 : fc_1 PRD (20, [1], [60, 2, 2, 596, 0, 1, 7, 8]) ws (vs ++ [Value.int x]) := by
    refine ⟨nf_inA hl rfl, sgq_401 ?_⟩
    · show GKE (w_fi ws (n_v (vs ++ [Value.int x]) 1) 0) (w_fi ws (n_v (vs ++ [Value.int x]) 1) 1) (w_ei ws (w_ar ws (n_v (vs ++ [Value.int x]) 1) 7)) (w_ei ws (w_ar ws (n_v (vs ++ [Value.int x]) 1) 8))
      rw [e_1]
      exact vc_Re_meetNode_at_ga_2_4 (w_fi ws (n_v vs 1) 0) (w_ei ws (w_ar ws (n_v vs 1) 7)) (w_ei ws (w_ar ws (n_v vs 1) 8)) (w_fi ws (n_v vs 1) 1) f13 kz_1_0 kz_1_1
  have rf11 : tv_ok ta (0, 0, 8, []) (n_v vs 11) := tv_in t11 (by first | omega | grind) (by first | omega | grind)
  exact ⟨List.forall_mem_cons.mpr ⟨rf11, (fun _ h => (by cases h))⟩, [Value.int x], ag_one hx, List.forall_mem_cons.mpr ⟨⟨show (21 : Nat) < 100 from by decide, nf0⟩, List.forall_mem_cons.mpr ⟨⟨show (20 : Nat) < 100 from by decide, nf1⟩, List.forall_mem_cons.mpr ⟨⟨show (20 : Nat) < 100 from by decide, nf2⟩, List.forall_mem_cons.mpr ⟨⟨show (20 : Nat) < 100 from by decide, nf3⟩, List.forall_mem_cons.mpr ⟨⟨show (20 : Nat) < 100 from by decide, nf4⟩, (fun _ h => (by cases h))⟩⟩⟩⟩⟩, (fun _ h => (by cases h))⟩
set_option maxHeartbeats 4000000 in
theorem vc_Re_meetNode_at_ga_3_0 (x9 : Int) (x16 : Int) (nodes_0o1 : Int) (k9 : 0 ≤ x9 ∧ x9 ≤ 23) (k16 : 1 ≤ x16 ∧ x16 ≤ 24) (d0 : x9 + 1 ≤ x16 ∧ x16 ≤ x9 + 1) (g0 : x16 = nodes_0o1) (kz_1_0 : 0 ≤ nodes_0o1 ∧ nodes_0o1 ≤ 24) : (x9 = (-1)) ∨ ((0 ≤ x9) ∧ ((x9 + 1) ≤ nodes_0o1)) := by
  first
    | omega
  
set_option maxHeartbeats 4000000 in
theorem vc_Re_meetNode_at_ga_3_1 (x2 : Int) (x9 : Int) (x16 : Int) (nodes_0o1 : Int) (k2 : 0 ≤ x2 ∧ x2 ≤ 23) (k9 : 0 ≤ x9 ∧ x9 ≤ 23) (k16 : 1 ≤ x16 ∧ x16 ≤ 24) (d0 : x9 + 1 ≤ x16 ∧ x16 ≤ x9 + 1) (g0 : x16 = nodes_0o1) (f4 : (x2 + 1) ≤ x9) (kz_1_0 : 0 ≤ nodes_0o1 ∧ nodes_0o1 ≤ 24) : (0 ≤ x2) ∧ ((x2 + 1) ≤ nodes_0o1) := by
  first
    | omega
  
def o_Re_meetNode_at_ga_3 : or_T := (77, 17, [(1, (2, 0, 0, [164])), (2, (0, 0, 23, [])), (9, (0, 0, 23, [])), (16, (0, 1, 24, []))], [(9, [16, 1], [0]), (20, [2, 9], [50, 0, 0, 0, 6, 4, 2, 1, 0, 0, 1, 1, 1])], [], [], [(20, [9, 1], [50, 1, 0, 1000, 3, 6, 1, 2, 1, 0, 0, -1, 2, 6, 0, 2, 0, 0, 1, 0, 0, 6, 4, 2, 1, 0, 0, 1, 2, 1, 0]), (20, [2, 1], [50, 1, 0, 1000, 2, 6, 0, 2, 0, 0, 1, 0, 0, 6, 4, 2, 1, 0, 0, 1, 2, 1, 0])], [], [(16, 9, 1, 1)])
theorem oo_Re_meetNode_at_ga_3 {kA : Nat → ClassId} : or_ok PRD kA GG o_Re_meetNode_at_ga_3 := by
  refine or_mk fun A ta ws vs hD hth hl => ?_
  intro t1 r1 t2 k2 t9 k9 t16 k16 d0 f0 f4
  replace f0 := shm_175 f0
  have g0 : v_iv (n_v vs 16) = w_fi ws (n_v vs 1) 0 := congrArg v_iv f0
  have kz_1_0 := fdq_77 hD hth r1
  have nf0 : fc_1 PRD (20, [9, 1], [50, 1, 0, 1000, 3, 6, 1, 2, 1, 0, 0, -1, 2, 6, 0, 2, 0, 0, 1, 0, 0, 6, 4, 2, 1, 0, 0, 1, 2, 1, 0]) ws (vs) := ⟨nf_in hl rfl, sgq_819 (vc_Re_meetNode_at_ga_3_0 (v_iv (n_v vs 9)) (v_iv (n_v vs 16)) (w_fi ws (n_v vs 1) 0) k9 k16 d0 g0 kz_1_0)⟩
  have nf1 : fc_1 PRD (20, [2, 1], [50, 1, 0, 1000, 2, 6, 0, 2, 0, 0, 1, 0, 0, 6, 4, 2, 1, 0, 0, 1, 2, 1, 0]) ws (vs) := ⟨nf_in hl rfl, sgq_429 (vc_Re_meetNode_at_ga_3_1 (v_iv (n_v vs 2)) (v_iv (n_v vs 9)) (v_iv (n_v vs 16)) (w_fi ws (n_v vs 1) 0) k2 k9 k16 d0 g0 (shm_409 f4) kz_1_0)⟩
  refine ⟨(fun _ h => (by cases h)), [], trivial, ?_, (fun _ h => (by cases h))⟩
  rw [List.append_nil]
  exact List.forall_mem_cons.mpr ⟨⟨show (20 : Nat) < 100 from by decide, nf0⟩, List.forall_mem_cons.mpr ⟨⟨show (20 : Nat) < 100 from by decide, nf1⟩, (fun _ h => (by cases h))⟩⟩
def n_Re_meetNode_at_ga_an : List an_T := []
def t_Re_meetNode_at_ga_ct : ct_L := [(67, 116, e_Gr_findNode_at_Gq_Retape), (220, 123, e_Gr_addNode_at_Gq_Retape)]
set_option maxRecDepth 100000 in
theorem c_Re_meetNode_at_ga {l : Launch} {D : va_G} {kA : Nat → ClassId} (h_Gr_addNode_at_Gq_Retape : ct_ok PRD l D kA GG y_Gr_addNode_at_Gq_Retape z_Gr_addNode_at_Gq_Retape e_Gr_addNode_at_Gq_Retape) (h_Gr_findNode_at_Gq_Retape : ct_ok PRD l D kA GG y_Gr_findNode_at_Gq_Retape z_Gr_findNode_at_Gq_Retape e_Gr_findNode_at_Gq_Retape) : ct_ok PRD l D kA GG y_Re_meetNode_at_ga z_Re_meetNode_at_ga e_Re_meetNode_at_ga := chk_all_ok (FT := [(9, 8, 0), (28, 8, 4), (35, 8, 6), (41, 8, 8), (47, 8, 10), (51, 8, 11), (120, 3, 0)]) (PT := []) (CT := t_Re_meetNode_at_ga_ct) (KT := []) (NT := []) (AN := n_Re_meetNode_at_ga_an) (OT := [o_Re_meetNode_at_ga_0, o_Re_meetNode_at_ga_1, o_Re_meetNode_at_ga_2, o_Re_meetNode_at_ga_3]) 0 200 (List.forall_mem_cons.mpr ⟨oo_Re_meetNode_at_ga_0, List.forall_mem_cons.mpr ⟨oo_Re_meetNode_at_ga_1, List.forall_mem_cons.mpr ⟨oo_Re_meetNode_at_ga_2, List.forall_mem_cons.mpr ⟨oo_Re_meetNode_at_ga_3, List.forall_mem_nil _⟩⟩⟩⟩) (by decide +kernel) ⟨List.forall_mem_cons.mpr ⟨gf_Re_9, List.forall_mem_cons.mpr ⟨gf_Re_28, List.forall_mem_cons.mpr ⟨gf_Re_35, List.forall_mem_cons.mpr ⟨gf_Re_41, List.forall_mem_cons.mpr ⟨gf_Re_47, List.forall_mem_cons.mpr ⟨gf_Re_51, List.forall_mem_cons.mpr ⟨gf_Re_120, List.forall_mem_nil _⟩⟩⟩⟩⟩⟩⟩, List.forall_mem_nil _, List.forall_mem_cons.mpr ⟨cl_virtual (y := y_Gr_findNode_at_Gq_Retape) (ci := 3) rfl rfl ⟨_, _, rfl⟩ (by decide +kernel) h_Gr_findNode_at_Gq_Retape wm_739 wm_3 wm_736 wm_737 wm_738 ⟨by decide, by decide, by decide +kernel⟩ (by decide), List.forall_mem_cons.mpr ⟨cl_virtual (y := y_Gr_addNode_at_Gq_Retape) (ci := 3) rfl rfl ⟨_, _, rfl⟩ (by decide +kernel) h_Gr_addNode_at_Gq_Retape wm_747 wm_3 wm_744 wm_745 wm_746 ⟨by decide, by decide, by decide +kernel⟩ (by decide), List.forall_mem_nil _⟩⟩, List.forall_mem_nil _, List.forall_mem_nil _, GG_pl⟩ (by decide +kernel)
set_option maxHeartbeats 4000000 in
theorem vc_Re_meetNode_at_gx_0_r0 (x3 : Int) (x4 : Int) (x5 : Int) (begin_0 : Int) (next_0 : Int) (k3 : 0 ≤ x3 ∧ x3 ≤ 2000) (k4 : 0 ≤ x4 ∧ x4 ≤ 2000) (k5 : (-2000) ≤ x5 ∧ x5 ≤ 2000) (f0 : x5 = x4 - x3) (g1 : x3 = begin_0) (g2 : x4 = next_0) (f3 : 1 * next_0 + ((-1) * begin_0 + 0) ≤ 8) (f4 : (-1) * next_0 + (1 * begin_0 + 0) ≤ 0) (kz_0_6 : 0 ≤ next_0 ∧ next_0 ≤ 2000) (kz_0_8 : 0 ≤ begin_0 ∧ begin_0 ≤ 2000) : 0 ≤ x5 ∧ x5 ≤ 8 := by
  first
    | omega
  
set_option maxHeartbeats 4000000 in
theorem vc_Re_meetNode_at_gx_0_0 (x3 : Int) (x4 : Int) (x5 : Int) (begin_0 : Int) (next_0 : Int) (k3 : 0 ≤ x3 ∧ x3 ≤ 2000) (k4 : 0 ≤ x4 ∧ x4 ≤ 2000) (k5 : (-2000) ≤ x5 ∧ x5 ≤ 2000) (f0 : x5 = x4 - x3) (g1 : x3 = begin_0) (g2 : x4 = next_0) (kz_0_6 : 0 ≤ next_0 ∧ next_0 ≤ 2000) (kz_0_8 : 0 ≤ begin_0 ∧ begin_0 ≤ 2000) : x3 + x5 ≤ 2000 := by
  first
    | omega
  
def o_Re_meetNode_at_gx_0 : or_T := (21, 6, [(0, (2, 0, 0, [8])), (1, (2, 0, 0, [164])), (3, (0, 0, 2000, [])), (4, (0, 0, 2000, [])), (5, (0, -2000, 2000, []))], [(2, [5, 4, 3], []), (9, [3, 0], [8]), (9, [4, 0], [6]), (20, [0, 0], [30, 8, 1, 1, 6, -1, 1, 8]), (20, [0, 0], [30, 0, -1, 1, 6, 1, 1, 8]), (20, [1], [60, 2, 3, 670, 0, 1, 14, 7, 8]), (20, [1], [60, 2, 2, 596, 0, 1, 7, 8])], [(5, (0, 0, 8, []))], [], [(21, [3, 5], [2000])], [], [(5, 4, -2000, 0)])
theorem oo_Re_meetNode_at_gx_0 {kA : Nat → ClassId} : or_ok PRD kA GG o_Re_meetNode_at_gx_0 := by
  refine or_mk fun A ta ws vs hD hth hl => ?_
  intro t0 r0 t1 r1 t3 k3 t4 k4 t5 k5 d0 f0 f1 f2 f3 f4 f5 f6
  replace f1 := shm_143 f1
  replace f2 := shm_110 f2
  have g1 : v_iv (n_v vs 3) = w_fi ws (n_v vs 0) 8 := congrArg v_iv f1
  have g2 : v_iv (n_v vs 4) = w_fi ws (n_v vs 0) 6 := congrArg v_iv f2
  have kz_0_6 := fdq_29 hD hth r0
  have kz_0_8 := fdq_31 hD hth r0
  have hrf0 : 0 ≤ v_iv (n_v vs 5) ∧ v_iv (n_v vs 5) ≤ 8 := vc_Re_meetNode_at_gx_0_r0 (v_iv (n_v vs 3)) (v_iv (n_v vs 4)) (v_iv (n_v vs 5)) (w_fi ws (n_v vs 0) 8) (w_fi ws (n_v vs 0) 6) k3 k4 k5 (shm_14 f0) g1 g2 (shm_1370 f3) (shm_1371 f4) kz_0_6 kz_0_8
  have nf0 : fc_1 PRD (21, [3, 5], [2000]) ws (vs) := ⟨nf_in hl rfl, sgq_813 (vc_Re_meetNode_at_gx_0_0 (v_iv (n_v vs 3)) (v_iv (n_v vs 4)) (v_iv (n_v vs 5)) (w_fi ws (n_v vs 0) 8) (w_fi ws (n_v vs 0) 6) k3 k4 k5 (shm_14 f0) g1 g2 kz_0_6 kz_0_8)⟩
  have rf5 : tv_ok ta (0, 0, 8, []) (n_v vs 5) := tv_in t5 (by first | omega | grind) (by first | omega | grind)
  refine ⟨List.forall_mem_cons.mpr ⟨rf5, (fun _ h => (by cases h))⟩, [], trivial, ?_, (fun _ h => (by cases h))⟩
  rw [List.append_nil]
  exact List.forall_mem_cons.mpr ⟨⟨show (21 : Nat) < 100 from by decide, nf0⟩, (fun _ h => (by cases h))⟩
set_option maxHeartbeats 4000000 in
theorem vc_Re_meetNode_at_gx_1_r0 (x3 : Int) (x4 : Int) (x5 : Int) (x10 : Int) (begin_0 : Int) (next_0 : Int) (k3 : 0 ≤ x3 ∧ x3 ≤ 2000) (k4 : 0 ≤ x4 ∧ x4 ≤ 2000) (k5 : 0 ≤ x5 ∧ x5 ≤ 8) (k10 : (-2000) ≤ x10 ∧ x10 ≤ 2000) (f0 : x10 = x4 - x3) (g1 : x3 = begin_0) (g2 : x4 = next_0) (f8 : x5 = x4 - x3) (kz_0_6 : 0 ≤ next_0 ∧ next_0 ≤ 2000) (kz_0_8 : 0 ≤ begin_0 ∧ begin_0 ≤ 2000) : 0 ≤ x10 ∧ x10 ≤ 8 := by
  first
    | omega
  
set_option maxHeartbeats 4000000 in
theorem vc_Re_meetNode_at_gx_1_0 (x3 : Int) (x4 : Int) (x10 : Int) (begin_0 : Int) (next_0 : Int) (k3 : 0 ≤ x3 ∧ x3 ≤ 2000) (k4 : 0 ≤ x4 ∧ x4 ≤ 2000) (k10 : (-2000) ≤ x10 ∧ x10 ≤ 2000) (f0 : x10 = x4 - x3) (g1 : x3 = begin_0) (g2 : x4 = next_0) (kz_0_6 : 0 ≤ next_0 ∧ next_0 ≤ 2000) (kz_0_8 : 0 ≤ begin_0 ∧ begin_0 ≤ 2000) : x3 + x10 ≤ 2000 := by
  first
    | omega
  
set_option maxHeartbeats 4000000 in
theorem vc_Re_meetNode_at_gx_1_1 (nodes_0o1 : Int) (gx : Int) (kz_1_0 : 0 ≤ nodes_0o1 ∧ nodes_0o1 ≤ 24) (ex2 : gx = nodes_0o1) : nodes_0o1 = gx := by
  first
    | omega
  
set_option maxHeartbeats 4000000 in
theorem vc_Re_meetNode_at_gx_1_2 (x8 : Int) (nodes_0o1 : Int) (gx : Int) (k8 : 0 ≤ x8 ∧ x8 ≤ 23) (g4 : x8 = nodes_0o1) (kz_1_0 : 0 ≤ nodes_0o1 ∧ nodes_0o1 ≤ 24) (ex2 : gx = nodes_0o1) : nodes_0o1 ≤ 23 := by
  first
    | omega
  
set_option maxHeartbeats 4000000 in
theorem vc_Re_meetNode_at_gx_1_3 (nodes_0o1 : Int) (near_0o1 : Int → Int) (tail_0o1 : Int → Int) (head_0o1 : Int → Int) (edges_0o1 : Int) (f11 : GNB (nodes_0o1) (edges_0o1) (near_0o1) (tail_0o1) (head_0o1)) (kz_1_0 : 0 ≤ nodes_0o1 ∧ nodes_0o1 ≤ 24) (kz_1_1 : 0 ≤ edges_0o1 ∧ edges_0o1 ≤ 48) : GNB (nodes_0o1) (edges_0o1) (near_0o1) (tail_0o1) (head_0o1) := by
  first
    | assumption
  
set_option maxHeartbeats 4000000 in
theorem vc_Re_meetNode_at_gx_1_4 (nodes_0o1 : Int) (tail_0o1 : Int → Int) (head_0o1 : Int → Int) (edges_0o1 : Int) (f12 : GKE (nodes_0o1) (edges_0o1) (tail_0o1) (head_0o1)) (kz_1_0 : 0 ≤ nodes_0o1 ∧ nodes_0o1 ≤ 24) (kz_1_1 : 0 ≤ edges_0o1 ∧ edges_0o1 ≤ 48) : GKE (nodes_0o1) (edges_0o1) (tail_0o1) (head_0o1) := by
  first
    | assumption
  
def o_Re_meetNode_at_gx_1 : or_T := (72, 14, [(0, (2, 0, 0, [8])), (1, (2, 0, 0, [164])), (3, (0, 0, 2000, [])), (4, (0, 0, 2000, [])), (5, (0, 0, 8, [])), (6, (0, -1, -1, [])), (7, (0, -1, -1, [])), (8, (0, 0, 23, [])), (9, (0, 24, 24, [])), (10, (0, -2000, 2000, []))], [(2, [10, 4, 3], []), (9, [3, 0], [8]), (9, [4, 0], [6]), (7, [8, 9], [2]), (9, [8, 1], [0]), (7, [6, 7], [0]), (20, [6, 1], [50, 1, 0, 1000, 3, 6, 1, 2, 1, 0, 0, -1, 2, 6, 0, 2, 0, 0, 1, 0, 0, 6, 4, 2, 1, 0, 0, 1, 2, 1, 0]), (21, [3, 5], [2000]), (2, [5, 4, 3], []), (20, [0, 0], [30, 8, 1, 1, 6, -1, 1, 8]), (20, [0, 0], [30, 0, -1, 1, 6, 1, 1, 8]), (20, [1], [60, 2, 3, 670, 0, 1, 14, 7, 8]), (20, [1], [60, 2, 2, 596, 0, 1, 7, 8])], [(10, (0, 0, 8, []))], [(0, 0, 24, [])], [(21, [3, 10], [2000]), (20, [1, 14], [50, 1, 0, 0, 1, 3, 2, 0, 0, 1, 1]), (20, [1], [50, 1, 0, 0, 0, 3, 2, 0, 0, 0, 23]), (20, [1], [60, 2, 3, 670, 0, 1, 14, 7, 8]), (20, [1], [60, 2, 2, 596, 0, 1, 7, 8])], [], [(10, 4, -2000, 0), (5, 4, -2000, 0)])
theorem oo_Re_meetNode_at_gx_1 {kA : Nat → ClassId} : or_ok PRD kA GG o_Re_meetNode_at_gx_1 := by
  refine or_mk fun A ta ws vs hD hth hl => ?_
  intro t0 r0 t1 r1 t3 k3 t4 k4 t5 k5 t6 k6 t7 k7 t8 k8 t9 k9 t10 k10 d0 d1 f0 f1 f2 f3 f4 f5 f6 f7 f8 f9 f10 f11 f12
  replace f0 := shm_14 f0
  replace f1 := shm_143 f1
  replace f2 := shm_110 f2
  replace f4 := shm_175 f4
  replace f8 := shm_14 f8
  replace f11 := shm_811 f11
  replace f12 := shm_401 f12
  have g1 : v_iv (n_v vs 3) = w_fi ws (n_v vs 0) 8 := congrArg v_iv f1
  have g2 : v_iv (n_v vs 4) = w_fi ws (n_v vs 0) 6 := congrArg v_iv f2
  have g4 : v_iv (n_v vs 8) = w_fi ws (n_v vs 1) 0 := congrArg v_iv f4
  have kz_0_6 := fdq_29 hD hth r0
  have kz_0_8 := fdq_31 hD hth r0
  have kz_1_0 := fdq_77 hD hth r1
  have kz_1_1 := fdq_78 hD hth r1
  obtain ⟨x, ex, hx⟩ := iv_ex (ta := ta) (lo := 0) (hi := 24) (z := w_fi ws (n_v vs 1) 0) (by omega) (by omega) (by omega) (by omega)
  have ex2 : v_iv (Value.int x) = w_fi ws (n_v vs 1) 0 := ex
  have ex3 : 0 ≤ v_iv (Value.int x) ∧ v_iv (Value.int x) ≤ 24 := tv_rng hx
  have hrf0 : 0 ≤ v_iv (n_v vs 10) ∧ v_iv (n_v vs 10) ≤ 8 := vc_Re_meetNode_at_gx_1_r0 (v_iv (n_v vs 3)) (v_iv (n_v vs 4)) (v_iv (n_v vs 5)) (v_iv (n_v vs 10)) (w_fi ws (n_v vs 0) 8) (w_fi ws (n_v vs 0) 6) k3 k4 k5 k10 f0 g1 g2 f8 kz_0_6 kz_0_8
  have e_1 : n_v (vs ++ [Value.int x]) 1 = n_v vs 1 := n_v_old (by rw [hl]; decide)
  have e_3 : n_v (vs ++ [Value.int x]) 3 = n_v vs 3 := n_v_old (by rw [hl]; decide)
  have e_10 : n_v (vs ++ [Value.int x]) 10 = n_v vs 10 := n_v_old (by rw [hl]; decide)
  have e_14 : n_v (vs ++ [Value.int x]) 14 = Value.int x := n_v_new hl
  have nf0 : fc_1 PRD (21, [3, 10], [2000]) ws (vs ++ [Value.int x]) := by
    refine ⟨nf_inA hl rfl, sgq_813 ?_⟩
    · show v_iv (n_v (vs ++ [Value.int x]) 3) + v_iv (n_v (vs ++ [Value.int x]) 10) ≤ 2000
      simp only [e_3, e_10]
      exact vc_Re_meetNode_at_gx_1_0 (v_iv (n_v vs 3)) (v_iv (n_v vs 4)) (v_iv (n_v vs 10)) (w_fi ws (n_v vs 0) 8) (w_fi ws (n_v vs 0) 6) k3 k4 k10 f0 g1 g2 kz_0_6 kz_0_8
  have nf1 : fc_1 PRD (20, [1, 14], [50, 1, 0, 0, 1, 3, 2, 0, 0, 1, 1]) ws (vs ++ [Value.int x]) := by
    refine ⟨nf_inA hl rfl, sgq_560 ?_⟩
    · show w_fi ws (n_v (vs ++ [Value.int x]) 1) 0 = v_iv (n_v (vs ++ [Value.int x]) 14)
      simp only [e_1, e_14]
      exact vc_Re_meetNode_at_gx_1_1 (w_fi ws (n_v vs 1) 0) (v_iv (Value.int x)) kz_1_0 ex2
  have nf2 : fc_1 PRD (20, [1], [50, 1, 0, 0, 0, 3, 2, 0, 0, 0, 23]) ws (vs ++ [Value.int x]) := by
    refine ⟨nf_inA hl rfl, sgq_814 ?_⟩
    · show w_fi ws (n_v (vs ++ [Value.int x]) 1) 0 ≤ 23
      rw [e_1]
      exact vc_Re_meetNode_at_gx_1_2 (v_iv (n_v vs 8)) (w_fi ws (n_v vs 1) 0) (v_iv (Value.int x)) k8 g4 kz_1_0 ex2
  have nf3 : fc_1 PRD (20, [1], [60, 2, 3, 670, 0, 1, 14, 7, 8]) ws (vs ++ [Value.int x]) := by
    refine ⟨nf_inA hl rfl, sgq_811 ?_⟩
    · show GNB (w_fi ws (n_v (vs ++ [Value.int x]) 1) 0) (w_fi ws (n_v (vs ++ [Value.int x]) 1) 1) (w_ei ws (w_ar ws (n_v (vs ++ [Value.int x]) 1) 14)) (w_ei ws (w_ar ws (n_v (vs ++ [Value.int x]) 1) 7)) (w_ei ws (w_ar ws (n_v (vs ++ [Value.int x]) 1) 8))
      rw [e_1]
      exact vc_Re_meetNode_at_gx_1_3 (w_fi ws (n_v vs 1) 0) (w_ei ws (w_ar ws (n_v vs 1) 14)) (w_ei ws (w_ar ws (n_v vs 1) 7)) (w_ei ws (w_ar ws (n_v vs 1) 8)) (w_fi ws (n_v vs 1) 1) f11 kz_1_0 kz_1_1
  have nf4 : fc_1 PRD (20, [1], [60, 2, 2, 596, 0, 1, 7, 8]) ws (vs ++ [Value.int x]) := by
    refine ⟨nf_inA hl rfl, sgq_401 ?_⟩
    · show GKE (w_fi ws (n_v (vs ++ [Value.int x]) 1) 0) (w_fi ws (n_v (vs ++ [Value.int x]) 1) 1) (w_ei ws (w_ar ws (n_v (vs ++ [Value.int x]) 1) 7)) (w_ei ws (w_ar ws (n_v (vs ++ [Value.int x]) 1) 8))
      rw [e_1]
      exact vc_Re_meetNode_at_gx_1_4 (w_fi ws (n_v vs 1) 0) (w_ei ws (w_ar ws (n_v vs 1) 7)) (w_ei ws (w_ar ws (n_v vs 1) 8)) (w_fi ws (n_v vs 1) 1) f12 kz_1_0 kz_1_1
  have rf10 : tv_ok ta (0, 0, 8, []) (n_v vs 10) := tv_in t10 (by first | omega | grind) (by first | omega | grind)
  exact ⟨List.forall_mem_cons.mpr ⟨rf10, (fun _ h => (by cases h))⟩, [Value.int x], ag_one hx, List.forall_mem_cons.mpr ⟨⟨show (21 : Nat) < 100 from by decide, nf0⟩, List.forall_mem_cons.mpr ⟨⟨show (20 : Nat) < 100 from by decide, nf1⟩, List.forall_mem_cons.mpr ⟨⟨show (20 : Nat) < 100 from by decide, nf2⟩, List.forall_mem_cons.mpr ⟨⟨show (20 : Nat) < 100 from by decide, nf3⟩, List.forall_mem_cons.mpr ⟨⟨show (20 : Nat) < 100 from by decide, nf4⟩, (fun _ h => (by cases h))⟩⟩⟩⟩⟩, (fun _ h => (by cases h))⟩
set_option maxHeartbeats 4000000 in
theorem vc_Re_meetNode_at_gx_2_0 (x8 : Int) (x15 : Int) (nodes_0o1 : Int) (k8 : 0 ≤ x8 ∧ x8 ≤ 23) (k15 : 1 ≤ x15 ∧ x15 ≤ 24) (d0 : x8 + 1 ≤ x15 ∧ x15 ≤ x8 + 1) (g0 : x15 = nodes_0o1) (kz_1_0 : 0 ≤ nodes_0o1 ∧ nodes_0o1 ≤ 24) : (x8 = (-1)) ∨ ((0 ≤ x8) ∧ ((x8 + 1) ≤ nodes_0o1)) := by
  first
    | omega
  
def o_Re_meetNode_at_gx_2 : or_T := (77, 16, [(1, (2, 0, 0, [164])), (8, (0, 0, 23, [])), (15, (0, 1, 24, []))], [(9, [15, 1], [0])], [], [], [(20, [8, 1], [50, 1, 0, 1000, 3, 6, 1, 2, 1, 0, 0, -1, 2, 6, 0, 2, 0, 0, 1, 0, 0, 6, 4, 2, 1, 0, 0, 1, 2, 1, 0])], [], [(15, 8, 1, 1)])
theorem oo_Re_meetNode_at_gx_2 {kA : Nat → ClassId} : or_ok PRD kA GG o_Re_meetNode_at_gx_2 := by
  refine or_mk fun A ta ws vs hD hth hl => ?_
  intro t1 r1 t8 k8 t15 k15 d0 f0
  replace f0 := shm_175 f0
  have g0 : v_iv (n_v vs 15) = w_fi ws (n_v vs 1) 0 := congrArg v_iv f0
  have kz_1_0 := fdq_77 hD hth r1
  have nf0 : fc_1 PRD (20, [8, 1], [50, 1, 0, 1000, 3, 6, 1, 2, 1, 0, 0, -1, 2, 6, 0, 2, 0, 0, 1, 0, 0, 6, 4, 2, 1, 0, 0, 1, 2, 1, 0]) ws (vs) := ⟨nf_in hl rfl, sgq_819 (vc_Re_meetNode_at_gx_2_0 (v_iv (n_v vs 8)) (v_iv (n_v vs 15)) (w_fi ws (n_v vs 1) 0) k8 k15 d0 g0 kz_1_0)⟩
  refine ⟨(fun _ h => (by cases h)), [], trivial, ?_, (fun _ h => (by cases h))⟩
  rw [List.append_nil]
  exact List.forall_mem_cons.mpr ⟨⟨show (20 : Nat) < 100 from by decide, nf0⟩, (fun _ h => (by cases h))⟩
def n_Re_meetNode_at_gx_an : List an_T := []
def t_Re_meetNode_at_gx_ct : ct_L := [(67, 116, e_Gr_findNode_at_Gq_Retape), (220, 123, e_Gr_addNode_at_Gq_Retape)]
set_option maxRecDepth 100000 in
theorem c_Re_meetNode_at_gx {l : Launch} {D : va_G} {kA : Nat → ClassId} (h_Gr_addNode_at_Gq_Retape : ct_ok PRD l D kA GG y_Gr_addNode_at_Gq_Retape z_Gr_addNode_at_Gq_Retape e_Gr_addNode_at_Gq_Retape) (h_Gr_findNode_at_Gq_Retape : ct_ok PRD l D kA GG y_Gr_findNode_at_Gq_Retape z_Gr_findNode_at_Gq_Retape e_Gr_findNode_at_Gq_Retape) : ct_ok PRD l D kA GG y_Re_meetNode_at_gx z_Re_meetNode_at_gx e_Re_meetNode_at_gx := chk_all_ok (FT := [(9, 8, 0), (28, 8, 4), (35, 8, 6), (41, 8, 8), (47, 8, 10), (51, 8, 11), (120, 3, 0)]) (PT := []) (CT := t_Re_meetNode_at_gx_ct) (KT := []) (NT := []) (AN := n_Re_meetNode_at_gx_an) (OT := [o_Re_meetNode_at_gx_0, o_Re_meetNode_at_gx_1, o_Re_meetNode_at_gx_2]) 0 200 (List.forall_mem_cons.mpr ⟨oo_Re_meetNode_at_gx_0, List.forall_mem_cons.mpr ⟨oo_Re_meetNode_at_gx_1, List.forall_mem_cons.mpr ⟨oo_Re_meetNode_at_gx_2, List.forall_mem_nil _⟩⟩⟩) (by decide +kernel) ⟨List.forall_mem_cons.mpr ⟨gf_Re_9, List.forall_mem_cons.mpr ⟨gf_Re_28, List.forall_mem_cons.mpr ⟨gf_Re_35, List.forall_mem_cons.mpr ⟨gf_Re_41, List.forall_mem_cons.mpr ⟨gf_Re_47, List.forall_mem_cons.mpr ⟨gf_Re_51, List.forall_mem_cons.mpr ⟨gf_Re_120, List.forall_mem_nil _⟩⟩⟩⟩⟩⟩⟩, List.forall_mem_nil _, List.forall_mem_cons.mpr ⟨cl_virtual (y := y_Gr_findNode_at_Gq_Retape) (ci := 3) rfl rfl ⟨_, _, rfl⟩ (by decide +kernel) h_Gr_findNode_at_Gq_Retape wm_739 wm_3 wm_736 wm_737 wm_738 ⟨by decide, by decide, by decide +kernel⟩ (by decide), List.forall_mem_cons.mpr ⟨cl_virtual (y := y_Gr_addNode_at_Gq_Retape) (ci := 3) rfl rfl ⟨_, _, rfl⟩ (by decide +kernel) h_Gr_addNode_at_Gq_Retape wm_747 wm_3 wm_744 wm_745 wm_746 ⟨by decide, by decide, by decide +kernel⟩ (by decide), List.forall_mem_nil _⟩⟩, List.forall_mem_nil _, List.forall_mem_nil _, GG_pl⟩ (by decide +kernel)

set_option maxHeartbeats 4000000 in
theorem vc_Mo_backFrom_0_r0 (x2 : Int) (x3 : Int) (x8 : Int) (wide_0 : Int) (barredPoint_0 : Int → Int) (costOf_0 : Int → Int) (bucket_0 : Int → Int) (bucketMany_0 : Int → Int) (tall_0 : Int) (k2 : 0 ≤ x2 ∧ x2 ≤ 1000000) (k3 : 0 ≤ x3 ∧ x3 ≤ 5999) (k8 : (-3999999) ≤ x8 ∧ x8 ≤ 600000023) (g0 : x8 = wide_0) (f3 : RTQ (wide_0) (tall_0) (barredPoint_0) (costOf_0) (bucket_0) (bucketMany_0) (x3) (x2)) (kz_0_146 : (-3999999) ≤ wide_0 ∧ wide_0 ≤ 600000023) (kz_0_147 : (-3999999) ≤ tall_0 ∧ tall_0 ≤ 600000007) : 1 ≤ x8 ∧ x8 ≤ 6000 := by
  first
    | (have g := gok_bd (show GRX wide_0 tall_0 from ‹RTQ _ _ _ _ _ _ _ _›.1); omega)
def o_Mo_backFrom_0 : or_T := (14, 9, [(0, (2, 0, 0, [165])), (1, (0, 0, 23999, [])), (2, (0, 0, 1000000, [])), (3, (0, 0, 5999, [])), (5, (0, 0, 5999, [])), (7, (0, 0, 3, [])), (8, (0, -3999999, 600000023, []))], [(9, [8, 0], [146]), (12, [7, 1], [4]), (11, [5, 1], [4]), (20, [0, 3, 2], [60, 2, 4, 495, 146, 147, 143, 140, 141, 142]), (20, [0, 1, 2], [60, 0, 1, 497, 140]), (20, [1, 0], [50, 2, 0, 1146, 1147, 2, 6, 0, 2, 0, 0, 1, 0, 0, 6, 4, 2, 1, 0, 0, 1, 6, 2, 0, 4, 6, 3, 2, 1, 146, 2, 1, 147]), (20, [2], [50, 0, 0, 2, 6, 0, 2, 0, 0, 1, 0, 0, 2, 1, 0, 0, 999999])], [(8, (0, 1, 6000, []))], [], [], [], [])
theorem oo_Mo_backFrom_0 {kA : Nat → ClassId} : or_ok PRD kA GG o_Mo_backFrom_0 := by
  refine or_mk fun A ta ws vs hD hth hl => ?_
  intro t0 r0 t1 k1 t2 k2 t3 k3 t5 k5 t7 k7 t8 k8 f0 f1 f2 f3 f4 f5 f6
  replace f0 := shm_1254 f0
  have g0 : v_iv (n_v vs 8) = w_fi ws (n_v vs 0) 146 := congrArg v_iv f0
  have kz_0_146 := fdq_178 hD hth r0
  have kz_0_147 := fdq_179 hD hth r0
  have hrf0 : 1 ≤ v_iv (n_v vs 8) ∧ v_iv (n_v vs 8) ≤ 6000 := vc_Mo_backFrom_0_r0 (v_iv (n_v vs 2)) (v_iv (n_v vs 3)) (v_iv (n_v vs 8)) (w_fi ws (n_v vs 0) 146) (w_ei ws (w_ar ws (n_v vs 0) 143)) (w_ei ws (w_ar ws (n_v vs 0) 140)) (w_ei ws (w_ar ws (n_v vs 0) 141)) (w_ei ws (w_ar ws (n_v vs 0) 142)) (w_fi ws (n_v vs 0) 147) k2 k3 k8 g0 (shm_691 f3) kz_0_146 kz_0_147
  have rf8 : tv_ok ta (0, 1, 6000, []) (n_v vs 8) := tv_in t8 (by first | omega | grind) (by first | omega | grind)
  refine ⟨List.forall_mem_cons.mpr ⟨rf8, (fun _ h => (by cases h))⟩, [], trivial, ?_, (fun _ h => (by cases h))⟩
  rw [List.append_nil]
  exact (fun _ h => (by cases h))
set_option maxHeartbeats 4000000 in
theorem vc_Mo_backFrom_1_r0 (x7 : Int) (x8 : Int) (x10 : Int) (x11 : Int) (x13 : Int) (x14 : Int) (x20 : Int) (tall_0 : Int) (wide_0 : Int) (k7 : 1 ≤ x7 ∧ x7 ≤ 2) (k10 : 0 ≤ x10 ∧ x10 ≤ 0) (k13 : 0 ≤ x13 ∧ x13 ≤ 0) (k20 : (-3999999) ≤ x20 ∧ x20 ≤ 600000007) (g0 : x20 = tall_0) (f4 : ((x7 = 1) ∧ (x13 = 1)) ∨ (((x7 = 3) ∧ (x13 = (-1))) ∨ ((x7 ≠ 1) ∧ ((x7 ≠ 3) ∧ (x13 = 0))))) (f7 : ((x7 = 0) ∧ (x10 = 1)) ∨ (((x7 = 2) ∧ (x10 = (-1))) ∨ ((x7 ≠ 0) ∧ ((x7 ≠ 2) ∧ (x10 = 0))))) (kz_0_147 : (-3999999) ≤ tall_0 ∧ tall_0 ≤ 600000007) : 1 ≤ x20 ∧ x20 ≤ 6000 := by
  first
    | omega
    | (have h := ‹BFP _ _ _ _ _›.2.2.1; omega)
def o_Mo_backFrom_1 : or_T := (60, 22, [(0, (2, 0, 0, [165])), (1, (0, 0, 23999, [])), (2, (0, 0, 1000000, [])), (3, (0, 0, 5999, [])), (5, (0, 0, 5999, [])), (7, (0, 1, 2, [])), (8, (0, 1, 6000, [])), (9, (0, 0, 5999, [])), (10, (0, 0, 0, [])), (11, (0, 0, 5999, [])), (12, (0, 0, 5999, [])), (13, (0, 0, 0, [])), (14, (0, 0, 5999, [])), (16, (0, 1, 1, [])), (17, (0, 0, 5999, [])), (20, (0, -3999999, 600000007, []))], [(9, [20, 0], [147]), (2, [17, 8, 16], []), (9, [8, 0], [146]), (2, [14, 12, 13], []), (20, [7, 13], [50, 0, 0, 3, 14, 2, 6, 1, 2, 1, 0, 0, 1, 1, 2, 1, 1, 0, 1, 3, 14, 2, 6, 1, 2, 1, 0, 0, 3, 1, 2, 1, 1, 0, -1, 2, 6, 7, 2, 1, 0, 0, 1, 2, 6, 7, 2, 1, 0, 0, 3, 1, 2, 1, 1, 0, 0]), (4, [12, 5, 8], []), (2, [11, 9, 10], []), (20, [7, 10], [50, 0, 0, 3, 14, 2, 6, 1, 2, 1, 0, 0, 0, 1, 2, 1, 1, 0, 1, 3, 14, 2, 6, 1, 2, 1, 0, 0, 2, 1, 2, 1, 1, 0, -1, 2, 6, 7, 2, 1, 0, 0, 0, 2, 6, 7, 2, 1, 0, 0, 2, 1, 2, 1, 1, 0, 0]), (5, [9, 5, 8], []), (12, [7, 1], [4]), (11, [5, 1], [4]), (20, [0, 3, 2], [60, 2, 4, 495, 146, 147, 143, 140, 141, 142]), (20, [0, 1, 2], [60, 0, 1, 497, 140]), (20, [1, 0], [50, 2, 0, 1146, 1147, 2, 6, 0, 2, 0, 0, 1, 0, 0, 6, 4, 2, 1, 0, 0, 1, 6, 2, 0, 4, 6, 3, 2, 1, 146, 2, 1, 147]), (20, [2], [50, 0, 0, 2, 6, 0, 2, 0, 0, 1, 0, 0, 2, 1, 0, 0, 999999])], [(20, (0, 1, 6000, []))], [], [], [], [(11, 17, -4294967296, 0), (17, 8, -1, -1), (14, 12, 0, 0), (11, 9, 0, 0), (11, 8, -4294967295, -1), (9, 8, -4294967295, -1)])
theorem oo_Mo_backFrom_1 {kA : Nat → ClassId} : or_ok PRD kA GG o_Mo_backFrom_1 := by
  refine or_mk fun A ta ws vs hD hth hl => ?_
  intro t0 r0 t1 k1 t2 k2 t3 k3 t5 k5 t7 k7 t8 k8 t9 k9 t10 k10 t11 k11 t12 k12 t13 k13 t14 k14 t16 k16 t17 k17 t20 k20 d0 d1 d2 d3 d4 d5 f0 f1 f2 f3 f4 f5 f6 f7 f8 f9 f10 f11 f12 f13 f14
  replace f0 := shm_1259 f0
  have g0 : v_iv (n_v vs 20) = w_fi ws (n_v vs 0) 147 := congrArg v_iv f0
  have kz_0_147 := fdq_179 hD hth r0
  have hrf0 : 1 ≤ v_iv (n_v vs 20) ∧ v_iv (n_v vs 20) ≤ 6000 := vc_Mo_backFrom_1_r0 (v_iv (n_v vs 7)) (v_iv (n_v vs 8)) (v_iv (n_v vs 10)) (v_iv (n_v vs 11)) (v_iv (n_v vs 13)) (v_iv (n_v vs 14)) (v_iv (n_v vs 20)) (w_fi ws (n_v vs 0) 147) (w_fi ws (n_v vs 0) 146) k7 k10 k13 k20 g0 (shm_557 f4) (shm_556 f7) kz_0_147
  have rf20 : tv_ok ta (0, 1, 6000, []) (n_v vs 20) := tv_in t20 (by first | omega | grind) (by first | omega | grind)
  refine ⟨List.forall_mem_cons.mpr ⟨rf20, (fun _ h => (by cases h))⟩, [], trivial, ?_, (fun _ h => (by cases h))⟩
  rw [List.append_nil]
  exact (fun _ h => (by cases h))
set_option maxHeartbeats 4000000 in
theorem vc_Mo_backFrom_2_r0 (x5 : Int) (x7 : Int) (x8 : Int) (x9 : Int) (x10 : Int) (x11 : Int) (x13 : Int) (x14 : Int) (x20 : Int) (x24 : Int) (x25 : Int) (wide_0 : Int) (tall_0 : Int) (k5 : 0 ≤ x5 ∧ x5 ≤ 5999) (k7 : 1 ≤ x7 ∧ x7 ≤ 2) (k8 : 1 ≤ x8 ∧ x8 ≤ 6000) (k9 : 0 ≤ x9 ∧ x9 ≤ 5999) (k10 : 0 ≤ x10 ∧ x10 ≤ 0) (k11 : 0 ≤ x11 ∧ x11 ≤ 5999) (k13 : 0 ≤ x13 ∧ x13 ≤ 0) (k14 : 0 ≤ x14 ∧ x14 ≤ 5999) (k24 : 0 ≤ x24 ∧ x24 ≤ 35994000) (k25 : 0 ≤ x25 ∧ x25 ≤ 35999999) (d10 : x9 + 0 ≤ x11 ∧ x11 ≤ x9 + 0) (f1 : x25 = x24 + x11) (f2 : x24 = x14 * x8) (g3 : x8 = wide_0) (f8 : ((x7 = 1) ∧ (x13 = 1)) ∨ (((x7 = 3) ∧ (x13 = (-1))) ∨ ((x7 ≠ 1) ∧ ((x7 ≠ 3) ∧ (x13 = 0))))) (f11 : ((x7 = 0) ∧ (x10 = 1)) ∨ (((x7 = 2) ∧ (x10 = (-1))) ∨ ((x7 ≠ 0) ∧ ((x7 ≠ 2) ∧ (x10 = 0))))) (f12 : x9 = Int.tmod (x5) (x8)) (kz_0_146 : (-3999999) ≤ wide_0 ∧ wide_0 ≤ 600000023) : 0 ≤ x25 ∧ x25 ≤ 5999 := by
  first
    | omega
    | (have h := ‹BFP _ _ _ _ _›.2.2.1; omega)
def o_Mo_backFrom_2 : or_T := (86, 27, [(0, (2, 0, 0, [165])), (1, (0, 0, 23999, [])), (2, (0, 0, 1000000, [])), (3, (0, 0, 5999, [])), (5, (0, 0, 5999, [])), (7, (0, 1, 2, [])), (8, (0, 1, 6000, [])), (9, (0, 0, 5999, [])), (10, (0, 0, 0, [])), (11, (0, 0, 5999, [])), (12, (0, 0, 5999, [])), (13, (0, 0, 0, [])), (14, (0, 0, 5999, [])), (16, (0, 1, 1, [])), (17, (0, 0, 5999, [])), (20, (0, 1, 6000, [])), (21, (0, 1, 1, [])), (22, (0, 0, 5999, [])), (24, (0, 0, 35994000, [])), (25, (0, 0, 35999999, [])), (26, (2, 0, 0, [269]))], [(9, [26, 0], [143]), (1, [25, 24, 11], []), (3, [24, 14, 8], []), (9, [8, 0], [146]), (2, [22, 20, 21], []), (9, [20, 0], [147]), (2, [17, 8, 16], []), (2, [14, 12, 13], []), (20, [7, 13], [50, 0, 0, 3, 14, 2, 6, 1, 2, 1, 0, 0, 1, 1, 2, 1, 1, 0, 1, 3, 14, 2, 6, 1, 2, 1, 0, 0, 3, 1, 2, 1, 1, 0, -1, 2, 6, 7, 2, 1, 0, 0, 1, 2, 6, 7, 2, 1, 0, 0, 3, 1, 2, 1, 1, 0, 0]), (4, [12, 5, 8], []), (2, [11, 9, 10], []), (20, [7, 10], [50, 0, 0, 3, 14, 2, 6, 1, 2, 1, 0, 0, 0, 1, 2, 1, 1, 0, 1, 3, 14, 2, 6, 1, 2, 1, 0, 0, 2, 1, 2, 1, 1, 0, -1, 2, 6, 7, 2, 1, 0, 0, 0, 2, 6, 7, 2, 1, 0, 0, 2, 1, 2, 1, 1, 0, 0]), (5, [9, 5, 8], []), (12, [7, 1], [4]), (11, [5, 1], [4]), (20, [0, 3, 2], [60, 2, 4, 495, 146, 147, 143, 140, 141, 142]), (20, [0, 1, 2], [60, 0, 1, 497, 140]), (20, [1, 0], [50, 2, 0, 1146, 1147, 2, 6, 0, 2, 0, 0, 1, 0, 0, 6, 4, 2, 1, 0, 0, 1, 6, 2, 0, 4, 6, 3, 2, 1, 146, 2, 1, 147]), (20, [2], [50, 0, 0, 2, 6, 0, 2, 0, 0, 1, 0, 0, 2, 1, 0, 0, 999999])], [(25, (0, 0, 5999, []))], [], [], [], [(25, 11, 0, 35994000), (25, 17, -4294967296, 35994000), (25, 9, 0, 35994000), (25, 8, -4294967295, 35993999), (25, 24, 0, 5999), (14, 22, -4294967296, 0), (22, 20, -1, -1), (11, 17, -4294967296, 0), (17, 8, -1, -1), (14, 12, 0, 0), (11, 9, 0, 0), (11, 8, -4294967295, -1), (9, 8, -4294967295, -1)])
theorem oo_Mo_backFrom_2 {kA : Nat → ClassId} : or_ok PRD kA GG o_Mo_backFrom_2 := by
  refine or_mk fun A ta ws vs hD hth hl => ?_
  intro t0 r0 t1 k1 t2 k2 t3 k3 t5 k5 t7 k7 t8 k8 t9 k9 t10 k10 t11 k11 t12 k12 t13 k13 t14 k14 t16 k16 t17 k17 t20 k20 t21 k21 t22 k22 t24 k24 t25 k25 t26 r26 d0 d1 d2 d3 d4 d5 d6 d7 d8 d9 d10 d11 d12 f0 f1 f2 f3 f4 f5 f6 f7 f8 f9 f10 f11 f12 f13 f14 f15 f16 f17 f18
  replace f3 := shm_1254 f3
  have g3 : v_iv (n_v vs 8) = w_fi ws (n_v vs 0) 146 := congrArg v_iv f3
  have kz_0_146 := fdq_178 hD hth r0
  have hrf0 : 0 ≤ v_iv (n_v vs 25) ∧ v_iv (n_v vs 25) ≤ 5999 := vc_Mo_backFrom_2_r0 (v_iv (n_v vs 5)) (v_iv (n_v vs 7)) (v_iv (n_v vs 8)) (v_iv (n_v vs 9)) (v_iv (n_v vs 10)) (v_iv (n_v vs 11)) (v_iv (n_v vs 13)) (v_iv (n_v vs 14)) (v_iv (n_v vs 20)) (v_iv (n_v vs 24)) (v_iv (n_v vs 25)) (w_fi ws (n_v vs 0) 146) (w_fi ws (n_v vs 0) 147) k5 k7 k8 k9 k10 k11 k13 k14 k24 k25 d10 (shm_12 f1) (shm_38 f2) g3 (shm_557 f8) (shm_556 f11) (shm_462 f12) kz_0_146
  have rf25 : tv_ok ta (0, 0, 5999, []) (n_v vs 25) := tv_in t25 (by first | omega | grind) (by first | omega | grind)
  refine ⟨List.forall_mem_cons.mpr ⟨rf25, (fun _ h => (by cases h))⟩, [], trivial, ?_, (fun _ h => (by cases h))⟩
  rw [List.append_nil]
  exact (fun _ h => (by cases h))
set_option maxHeartbeats 4000000 in
theorem vc_Mo_backFrom_3_0 (x1 : Int) (x2 : Int) (x3 : Int) (x5 : Int) (x7 : Int) (x8 : Int) (x9 : Int) (x10 : Int) (x11 : Int) (x12 : Int) (x13 : Int) (x14 : Int) (x17 : Int) (x20 : Int) (x22 : Int) (x24 : Int) (x25 : Int) (x27 : Int) (barredPoint_0 : Int → Int) (wide_0 : Int) (tall_0 : Int) (costOf_0 : Int → Int) (bucket_0 : Int → Int) (bucketMany_0 : Int → Int) (k1 : 0 ≤ x1 ∧ x1 ≤ 23999) (k2 : 0 ≤ x2 ∧ x2 ≤ 1000000) (k3 : 0 ≤ x3 ∧ x3 ≤ 5999) (k5 : 0 ≤ x5 ∧ x5 ≤ 5999) (k7 : 1 ≤ x7 ∧ x7 ≤ 2) (k8 : 1 ≤ x8 ∧ x8 ≤ 6000) (k9 : 0 ≤ x9 ∧ x9 ≤ 5999) (k10 : 0 ≤ x10 ∧ x10 ≤ 0) (k11 : 0 ≤ x11 ∧ x11 ≤ 5999) (k12 : 0 ≤ x12 ∧ x12 ≤ 5999) (k13 : 0 ≤ x13 ∧ x13 ≤ 0) (k14 : 0 ≤ x14 ∧ x14 ≤ 5999) (k17 : 0 ≤ x17 ∧ x17 ≤ 5999) (k20 : 1 ≤ x20 ∧ x20 ≤ 6000) (k22 : 0 ≤ x22 ∧ x22 ≤ 5999) (k24 : 0 ≤ x24 ∧ x24 ≤ 35994000) (k25 : 0 ≤ x25 ∧ x25 ≤ 5999) (k27 : 0 ≤ x27 ∧ x27 ≤ 0) (d2 : x24 + 0 ≤ x25 ∧ x25 ≤ x24 + 5999) (d3 : x22 + (-4294967296) ≤ x14 ∧ x14 ≤ x22 + 0) (d4 : x20 + (-1) ≤ x22 ∧ x22 ≤ x20 + (-1)) (d5 : x17 + (-4294967296) ≤ x11 ∧ x11 ≤ x17 + 0) (d6 : x8 + (-1) ≤ x17 ∧ x17 ≤ x8 + (-1)) (d7 : x12 + 0 ≤ x14 ∧ x14 ≤ x12 + 0) (d8 : x9 + 0 ≤ x11 ∧ x11 ≤ x9 + 0) (d9 : x8 + (-4294967295) ≤ x11 ∧ x11 ≤ x8 + (-1)) (f0 : x27 = 0) (h1 : x27 = barredPoint_0 (x25)) (f3 : x25 = x24 + x11) (f4 : x24 = x14 * x8) (g5 : x8 = wide_0) (g7 : x20 = tall_0) (f10 : ((x7 = 1) ∧ (x13 = 1)) ∨ (((x7 = 3) ∧ (x13 = (-1))) ∨ ((x7 ≠ 1) ∧ ((x7 ≠ 3) ∧ (x13 = 0))))) (f11 : x12 = Int.tdiv (x5) (x8)) (f13 : ((x7 = 0) ∧ (x10 = 1)) ∨ (((x7 = 2) ∧ (x10 = (-1))) ∨ ((x7 ≠ 0) ∧ ((x7 ≠ 2) ∧ (x10 = 0))))) (f14 : x9 = Int.tmod (x5) (x8)) (f15 : x7 = x1 % 4) (f16 : x5 = x1 / 4) (f17 : RTQ (wide_0) (tall_0) (barredPoint_0) (costOf_0) (bucket_0) (bucketMany_0) (x3) (x2)) (f18 : PIV (costOf_0) (x1) (x2)) (f19 : (0 ≤ x1) ∧ ((x1 + 1) ≤ (4 * (wide_0 * tall_0)))) (f20 : (0 ≤ x2) ∧ (x2 ≤ 999999)) (kz_0_146 : (-3999999) ≤ wide_0 ∧ wide_0 ≤ 600000023) (kz_0_147 : (-3999999) ≤ tall_0 ∧ tall_0 ≤ 600000007) : BFP (wide_0) (tall_0) (barredPoint_0) (x1) (x25) := by
  first
    | (have g0 : GRX wide_0 tall_0 := ‹RTQ _ _ _ _ _ _ _ _›.1
       have g := gok_bd g0
       have e8 : x8 = wide_0 := by assumption
       have e20 : x20 = tall_0 := by assumption
       have tm : x9 = x5 % wide_0 := by rw [← e8, ‹x9 = Int.tmod x5 x8›]; exact Int.tmod_eq_emod_of_nonneg (by omega)
       have td : x12 = x5 / wide_0 := by rw [← e8, ‹x12 = Int.tdiv x5 x8›]; exact Int.tdiv_eq_ediv_of_nonneg (by omega)
       have hx : x11 = x5 % wide_0 - dxf x7 := by rw [← tm]; unfold dxf; split; omega; split <;> omega
       have hy : x14 = x5 / wide_0 - dyf x7 := by rw [← td]; unfold dyf; split; omega; split <;> omega
       have n := nb_back (T := tall_0) (q := x5) (d := x7) (x := x11) (y := x14) (p := x25) (by omega) (by omega) (by omega) hx hy (by omega) (by omega) (by omega) (by omega) (by rw [← e8, ‹x25 = x24 + x11›, ‹x24 = x14 * x8›])
       have b := rtq_bar ‹RTQ _ _ _ _ _ _ _ _› ‹PIV _ _ _› (by omega) (by omega)
       exact ⟨⟨by omega, by omega⟩, by rw [show x1 % 4 = x7 by omega, show x1 / 4 = x5 by omega]; exact n.1, n.2, by rw [← ‹x27 = barredPoint_0 x25›]; omega, b⟩)
set_option maxHeartbeats 4000000 in
theorem vc_Mo_backFrom_3_1 (x1 : Int) (x7 : Int) (x8 : Int) (x11 : Int) (x14 : Int) (x20 : Int) (x24 : Int) (x25 : Int) (wide_0 : Int) (tall_0 : Int) (k1 : 0 ≤ x1 ∧ x1 ≤ 23999) (k7 : 1 ≤ x7 ∧ x7 ≤ 2) (f15 : x7 = x1 % 4) : x7 = (x1 % 4) := by
  first
    | omega
    | (have h := ‹BFP _ _ _ _ _›.2.2.1; omega)
set_option maxHeartbeats 4000000 in
theorem vc_Mo_backFrom_3_2 (x5 : Int) (x7 : Int) (x8 : Int) (x9 : Int) (x10 : Int) (x11 : Int) (x13 : Int) (x14 : Int) (x20 : Int) (x24 : Int) (x25 : Int) (wide_0 : Int) (tall_0 : Int) (k5 : 0 ≤ x5 ∧ x5 ≤ 5999) (k7 : 1 ≤ x7 ∧ x7 ≤ 2) (k8 : 1 ≤ x8 ∧ x8 ≤ 6000) (k9 : 0 ≤ x9 ∧ x9 ≤ 5999) (k10 : 0 ≤ x10 ∧ x10 ≤ 0) (k11 : 0 ≤ x11 ∧ x11 ≤ 5999) (k13 : 0 ≤ x13 ∧ x13 ≤ 0) (k14 : 0 ≤ x14 ∧ x14 ≤ 5999) (k24 : 0 ≤ x24 ∧ x24 ≤ 35994000) (k25 : 0 ≤ x25 ∧ x25 ≤ 5999) (d8 : x9 + 0 ≤ x11 ∧ x11 ≤ x9 + 0) (f3 : x25 = x24 + x11) (f4 : x24 = x14 * x8) (f10 : ((x7 = 1) ∧ (x13 = 1)) ∨ (((x7 = 3) ∧ (x13 = (-1))) ∨ ((x7 ≠ 1) ∧ ((x7 ≠ 3) ∧ (x13 = 0))))) (f13 : ((x7 = 0) ∧ (x10 = 1)) ∨ (((x7 = 2) ∧ (x10 = (-1))) ∨ ((x7 ≠ 0) ∧ ((x7 ≠ 2) ∧ (x10 = 0))))) (f14 : x9 = Int.tmod (x5) (x8)) (kz_0_146 : (-3999999) ≤ wide_0 ∧ wide_0 ≤ 600000023) (kz_0_147 : (-3999999) ≤ tall_0 ∧ tall_0 ≤ 600000007) : (0 ≤ x25) ∧ ((x25 + 1) ≤ (wide_0 * tall_0)) := by
  first
    | omega
    | (have h := ‹BFP _ _ _ _ _›.2.2.1; omega)
def o_Mo_backFrom_3 : or_T := (94, 29, [(0, (2, 0, 0, [165])), (1, (0, 0, 23999, [])), (2, (0, 0, 1000000, [])), (3, (0, 0, 5999, [])), (5, (0, 0, 5999, [])), (7, (0, 1, 2, [])), (8, (0, 1, 6000, [])), (9, (0, 0, 5999, [])), (10, (0, 0, 0, [])), (11, (0, 0, 5999, [])), (12, (0, 0, 5999, [])), (13, (0, 0, 0, [])), (14, (0, 0, 5999, [])), (16, (0, 1, 1, [])), (17, (0, 0, 5999, [])), (20, (0, 1, 6000, [])), (21, (0, 1, 1, [])), (22, (0, 0, 5999, [])), (24, (0, 0, 35994000, [])), (25, (0, 0, 5999, [])), (26, (2, 0, 0, [269])), (27, (0, 0, 0, []))], [(8, [27], [0]), (10, [27, 26, 25], []), (9, [26, 0], [143]), (1, [25, 24, 11], []), (3, [24, 14, 8], []), (9, [8, 0], [146]), (2, [22, 20, 21], []), (9, [20, 0], [147]), (2, [17, 8, 16], []), (2, [14, 12, 13], []), (20, [7, 13], [50, 0, 0, 3, 14, 2, 6, 1, 2, 1, 0, 0, 1, 1, 2, 1, 1, 0, 1, 3, 14, 2, 6, 1, 2, 1, 0, 0, 3, 1, 2, 1, 1, 0, -1, 2, 6, 7, 2, 1, 0, 0, 1, 2, 6, 7, 2, 1, 0, 0, 3, 1, 2, 1, 1, 0, 0]), (4, [12, 5, 8], []), (2, [11, 9, 10], []), (20, [7, 10], [50, 0, 0, 3, 14, 2, 6, 1, 2, 1, 0, 0, 0, 1, 2, 1, 1, 0, 1, 3, 14, 2, 6, 1, 2, 1, 0, 0, 2, 1, 2, 1, 1, 0, -1, 2, 6, 7, 2, 1, 0, 0, 0, 2, 6, 7, 2, 1, 0, 0, 2, 1, 2, 1, 1, 0, 0]), (5, [9, 5, 8], []), (12, [7, 1], [4]), (11, [5, 1], [4]), (20, [0, 3, 2], [60, 2, 4, 495, 146, 147, 143, 140, 141, 142]), (20, [0, 1, 2], [60, 0, 1, 497, 140]), (20, [1, 0], [50, 2, 0, 1146, 1147, 2, 6, 0, 2, 0, 0, 1, 0, 0, 6, 4, 2, 1, 0, 0, 1, 6, 2, 0, 4, 6, 3, 2, 1, 146, 2, 1, 147]), (20, [2], [50, 0, 0, 2, 6, 0, 2, 0, 0, 1, 0, 0, 2, 1, 0, 0, 999999])], [], [], [(20, [0, 1, 25], [60, 2, 1, 500, 146, 147, 143]), (20, [7, 1], [50, 0, 0, 1, 2, 1, 0, 9, 2, 1, 1, 0, 4]), (20, [25, 0], [50, 2, 0, 1146, 1147, 2, 6, 0, 2, 0, 0, 1, 0, 0, 6, 4, 2, 1, 0, 0, 1, 6, 3, 2, 1, 146, 2, 1, 147]), (24, [0, 0], []), (24, [1, 1], []), (24, [2, 2], [])], [], [(25, 11, 0, 35994000), (25, 9, 0, 35994000), (25, 24, 0, 5999), (14, 22, -4294967296, 0), (22, 20, -1, -1), (11, 17, -4294967296, 0), (17, 8, -1, -1), (14, 12, 0, 0), (11, 9, 0, 0), (11, 8, -4294967295, -1), (9, 8, -4294967295, -1)])
theorem oo_Mo_backFrom_3 {kA : Nat → ClassId} : or_ok PRD kA GG o_Mo_backFrom_3 := by
  refine or_mk fun A ta ws vs hD hth hl => ?_
  intro t0 r0 t1 k1 t2 k2 t3 k3 t5 k5 t7 k7 t8 k8 t9 k9 t10 k10 t11 k11 t12 k12 t13 k13 t14 k14 t16 k16 t17 k17 t20 k20 t21 k21 t22 k22 t24 k24 t25 k25 t26 r26 t27 k27 d0 d1 d2 d3 d4 d5 d6 d7 d8 d9 d10 f0 f1 f2 f3 f4 f5 f6 f7 f8 f9 f10 f11 f12 f13 f14 f15 f16 f17 f18 f19 f20
  replace f1 := shm_106 f1
  replace f2 := shm_1260 f2
  replace f5 := shm_1254 f5
  replace f7 := shm_1259 f7
  replace f11 := shm_34 f11
  have ad_26 : v_ad (n_v vs 26) = w_ar ws (n_v vs 0) 143 := congrArg v_ad f2
  simp only [ad_26] at f1
  have h1 : v_iv (n_v vs 27) = w_ei ws (w_ar ws (n_v vs 0) 143) (v_iv (n_v vs 25)) := f1
  have g5 : v_iv (n_v vs 8) = w_fi ws (n_v vs 0) 146 := congrArg v_iv f5
  have g7 : v_iv (n_v vs 20) = w_fi ws (n_v vs 0) 147 := congrArg v_iv f7
  have kz_0_146 := fdq_178 hD hth r0
  have kz_0_147 := fdq_179 hD hth r0
  have nf0 : fc_1 PRD (20, [0, 1, 25], [60, 2, 1, 500, 146, 147, 143]) ws (vs) := ⟨nf_in hl rfl, sgq_1374 (vc_Mo_backFrom_3_0 (v_iv (n_v vs 1)) (v_iv (n_v vs 2)) (v_iv (n_v vs 3)) (v_iv (n_v vs 5)) (v_iv (n_v vs 7)) (v_iv (n_v vs 8)) (v_iv (n_v vs 9)) (v_iv (n_v vs 10)) (v_iv (n_v vs 11)) (v_iv (n_v vs 12)) (v_iv (n_v vs 13)) (v_iv (n_v vs 14)) (v_iv (n_v vs 17)) (v_iv (n_v vs 20)) (v_iv (n_v vs 22)) (v_iv (n_v vs 24)) (v_iv (n_v vs 25)) (v_iv (n_v vs 27)) (w_ei ws (w_ar ws (n_v vs 0) 143)) (w_fi ws (n_v vs 0) 146) (w_fi ws (n_v vs 0) 147) (w_ei ws (w_ar ws (n_v vs 0) 140)) (w_ei ws (w_ar ws (n_v vs 0) 141)) (w_ei ws (w_ar ws (n_v vs 0) 142)) k1 k2 k3 k5 k7 k8 k9 k10 k11 k12 k13 k14 k17 k20 k22 k24 k25 k27 d2 d3 d4 d5 d6 d7 d8 d9 (shm_210 f0) h1 (shm_12 f3) (shm_38 f4) g5 g7 (shm_557 f10) f11 (shm_556 f13) (shm_462 f14) (shm_561 f15) (shm_1192 f16) (shm_691 f17) (shm_693 f18) (shm_1372 f19) (shm_1373 f20) kz_0_146 kz_0_147)⟩
  have nf1 : fc_1 PRD (20, [7, 1], [50, 0, 0, 1, 2, 1, 0, 9, 2, 1, 1, 0, 4]) ws (vs) := ⟨nf_in hl rfl, sgq_1375 (vc_Mo_backFrom_3_1 (v_iv (n_v vs 1)) (v_iv (n_v vs 7)) (v_iv (n_v vs 8)) (v_iv (n_v vs 11)) (v_iv (n_v vs 14)) (v_iv (n_v vs 20)) (v_iv (n_v vs 24)) (v_iv (n_v vs 25)) (w_fi ws (n_v vs 0) 146) (w_fi ws (n_v vs 0) 147) k1 k7 (shm_561 f15))⟩
  have nf2 : fc_1 PRD (20, [25, 0], [50, 2, 0, 1146, 1147, 2, 6, 0, 2, 0, 0, 1, 0, 0, 6, 4, 2, 1, 0, 0, 1, 6, 3, 2, 1, 146, 2, 1, 147]) ws (vs) := ⟨nf_in hl rfl, sgq_1256 (vc_Mo_backFrom_3_2 (v_iv (n_v vs 5)) (v_iv (n_v vs 7)) (v_iv (n_v vs 8)) (v_iv (n_v vs 9)) (v_iv (n_v vs 10)) (v_iv (n_v vs 11)) (v_iv (n_v vs 13)) (v_iv (n_v vs 14)) (v_iv (n_v vs 20)) (v_iv (n_v vs 24)) (v_iv (n_v vs 25)) (w_fi ws (n_v vs 0) 146) (w_fi ws (n_v vs 0) 147) k5 k7 k8 k9 k10 k11 k13 k14 k24 k25 d8 (shm_12 f3) (shm_38 f4) (shm_557 f10) (shm_556 f13) (shm_462 f14) kz_0_146 kz_0_147)⟩
  have nf3 : fc_1 PRD (24, [0, 0], []) ws (vs) := by
    refine ⟨nf_in hl rfl, sgq_1 ?_⟩
    · show n_v vs 0 = n_v vs 0
      first | rfl | simp only [true_and]
  have nf4 : fc_1 PRD (24, [1, 1], []) ws (vs) := by
    refine ⟨nf_in hl rfl, sgq_1 ?_⟩
    · show n_v vs 1 = n_v vs 1
      first | rfl | simp only [true_and]
  have nf5 : fc_1 PRD (24, [2, 2], []) ws (vs) := by
    refine ⟨nf_in hl rfl, sgq_1 ?_⟩
    · show n_v vs 2 = n_v vs 2
      first | rfl | simp only [true_and]
  refine ⟨(fun _ h => (by cases h)), [], trivial, ?_, (fun _ h => (by cases h))⟩
  rw [List.append_nil]
  exact List.forall_mem_cons.mpr ⟨⟨show (20 : Nat) < 100 from by decide, nf0⟩, List.forall_mem_cons.mpr ⟨⟨show (20 : Nat) < 100 from by decide, nf1⟩, List.forall_mem_cons.mpr ⟨⟨show (20 : Nat) < 100 from by decide, nf2⟩, List.forall_mem_cons.mpr ⟨⟨show (24 : Nat) < 100 from by decide, nf3⟩, List.forall_mem_cons.mpr ⟨⟨show (24 : Nat) < 100 from by decide, nf4⟩, List.forall_mem_cons.mpr ⟨⟨show (24 : Nat) < 100 from by decide, nf5⟩, (fun _ h => (by cases h))⟩⟩⟩⟩⟩⟩
set_option maxHeartbeats 4000000 in
theorem vc_Mo_backFrom_4_r0 (x2 : Int) (x3 : Int) (x8 : Int) (x11 : Int) (x14 : Int) (x20 : Int) (tall_0 : Int) (wide_0 : Int) (barredPoint_0 : Int → Int) (costOf_0 : Int → Int) (bucket_0 : Int → Int) (bucketMany_0 : Int → Int) (k2 : 0 ≤ x2 ∧ x2 ≤ 1000000) (k3 : 0 ≤ x3 ∧ x3 ≤ 5999) (k20 : (-3999999) ≤ x20 ∧ x20 ≤ 600000007) (g0 : x20 = tall_0) (f11 : RTQ (wide_0) (tall_0) (barredPoint_0) (costOf_0) (bucket_0) (bucketMany_0) (x3) (x2)) (kz_0_146 : (-3999999) ≤ wide_0 ∧ wide_0 ≤ 600000023) (kz_0_147 : (-3999999) ≤ tall_0 ∧ tall_0 ≤ 600000007) : 1 ≤ x20 ∧ x20 ≤ 6000 := by
  first
    | (have g := gok_bd (show GRX wide_0 tall_0 from ‹RTQ _ _ _ _ _ _ _ _›.1); omega)
def o_Mo_backFrom_4 : or_T := (60, 22, [(0, (2, 0, 0, [165])), (1, (0, 0, 23999, [])), (2, (0, 0, 1000000, [])), (3, (0, 0, 5999, [])), (5, (0, 0, 5999, [])), (7, (0, 3, 3, [])), (8, (0, 1, 6000, [])), (9, (0, 0, 5999, [])), (10, (0, 0, 0, [])), (11, (0, 0, 5999, [])), (12, (0, 0, 5999, [])), (13, (0, -1, -1, [])), (14, (0, 1, 6000, [])), (16, (0, 1, 1, [])), (17, (0, 0, 5999, [])), (20, (0, -3999999, 600000007, []))], [(9, [20, 0], [147]), (2, [17, 8, 16], []), (9, [8, 0], [146]), (2, [14, 12, 13], []), (20, [7, 13], [50, 0, 0, 3, 14, 2, 6, 1, 2, 1, 0, 0, 1, 1, 2, 1, 1, 0, 1, 3, 14, 2, 6, 1, 2, 1, 0, 0, 3, 1, 2, 1, 1, 0, -1, 2, 6, 7, 2, 1, 0, 0, 1, 2, 6, 7, 2, 1, 0, 0, 3, 1, 2, 1, 1, 0, 0]), (4, [12, 5, 8], []), (2, [11, 9, 10], []), (20, [7, 10], [50, 0, 0, 3, 14, 2, 6, 1, 2, 1, 0, 0, 0, 1, 2, 1, 1, 0, 1, 3, 14, 2, 6, 1, 2, 1, 0, 0, 2, 1, 2, 1, 1, 0, -1, 2, 6, 7, 2, 1, 0, 0, 0, 2, 6, 7, 2, 1, 0, 0, 2, 1, 2, 1, 1, 0, 0]), (5, [9, 5, 8], []), (12, [7, 1], [4]), (11, [5, 1], [4]), (20, [0, 3, 2], [60, 2, 4, 495, 146, 147, 143, 140, 141, 142]), (20, [0, 1, 2], [60, 0, 1, 497, 140]), (20, [1, 0], [50, 2, 0, 1146, 1147, 2, 6, 0, 2, 0, 0, 1, 0, 0, 6, 4, 2, 1, 0, 0, 1, 6, 2, 0, 4, 6, 3, 2, 1, 146, 2, 1, 147]), (20, [2], [50, 0, 0, 2, 6, 0, 2, 0, 0, 1, 0, 0, 2, 1, 0, 0, 999999])], [(20, (0, 1, 6000, []))], [], [], [], [(11, 17, -4294967296, 0), (17, 8, -1, -1), (14, 12, 1, 1), (11, 9, 0, 0), (11, 8, -4294967295, -1), (9, 8, -4294967295, -1)])
theorem oo_Mo_backFrom_4 {kA : Nat → ClassId} : or_ok PRD kA GG o_Mo_backFrom_4 := by
  refine or_mk fun A ta ws vs hD hth hl => ?_
  intro t0 r0 t1 k1 t2 k2 t3 k3 t5 k5 t7 k7 t8 k8 t9 k9 t10 k10 t11 k11 t12 k12 t13 k13 t14 k14 t16 k16 t17 k17 t20 k20 d0 d1 d2 d3 d4 d5 f0 f1 f2 f3 f4 f5 f6 f7 f8 f9 f10 f11 f12 f13 f14
  replace f0 := shm_1259 f0
  have g0 : v_iv (n_v vs 20) = w_fi ws (n_v vs 0) 147 := congrArg v_iv f0
  have kz_0_146 := fdq_178 hD hth r0
  have kz_0_147 := fdq_179 hD hth r0
  have hrf0 : 1 ≤ v_iv (n_v vs 20) ∧ v_iv (n_v vs 20) ≤ 6000 := vc_Mo_backFrom_4_r0 (v_iv (n_v vs 2)) (v_iv (n_v vs 3)) (v_iv (n_v vs 8)) (v_iv (n_v vs 11)) (v_iv (n_v vs 14)) (v_iv (n_v vs 20)) (w_fi ws (n_v vs 0) 147) (w_fi ws (n_v vs 0) 146) (w_ei ws (w_ar ws (n_v vs 0) 143)) (w_ei ws (w_ar ws (n_v vs 0) 140)) (w_ei ws (w_ar ws (n_v vs 0) 141)) (w_ei ws (w_ar ws (n_v vs 0) 142)) k2 k3 k20 g0 (shm_691 f11) kz_0_146 kz_0_147
  have rf20 : tv_ok ta (0, 1, 6000, []) (n_v vs 20) := tv_in t20 (by first | omega | grind) (by first | omega | grind)
  refine ⟨List.forall_mem_cons.mpr ⟨rf20, (fun _ h => (by cases h))⟩, [], trivial, ?_, (fun _ h => (by cases h))⟩
  rw [List.append_nil]
  exact (fun _ h => (by cases h))
set_option maxHeartbeats 4000000 in
theorem vc_Mo_backFrom_5_r0 (x1 : Int) (x2 : Int) (x3 : Int) (x5 : Int) (x7 : Int) (x8 : Int) (x9 : Int) (x11 : Int) (x12 : Int) (x14 : Int) (x17 : Int) (x20 : Int) (x22 : Int) (x24 : Int) (x25 : Int) (wide_0 : Int) (tall_0 : Int) (barredPoint_0 : Int → Int) (costOf_0 : Int → Int) (bucket_0 : Int → Int) (bucketMany_0 : Int → Int) (k1 : 0 ≤ x1 ∧ x1 ≤ 23999) (k2 : 0 ≤ x2 ∧ x2 ≤ 1000000) (k3 : 0 ≤ x3 ∧ x3 ≤ 5999) (k5 : 0 ≤ x5 ∧ x5 ≤ 5999) (k7 : 3 ≤ x7 ∧ x7 ≤ 3) (k8 : 1 ≤ x8 ∧ x8 ≤ 6000) (k9 : 0 ≤ x9 ∧ x9 ≤ 5999) (k11 : 0 ≤ x11 ∧ x11 ≤ 5999) (k12 : 0 ≤ x12 ∧ x12 ≤ 5999) (k14 : 1 ≤ x14 ∧ x14 ≤ 5999) (k17 : 0 ≤ x17 ∧ x17 ≤ 5999) (k20 : 1 ≤ x20 ∧ x20 ≤ 6000) (k22 : 1 ≤ x22 ∧ x22 ≤ 5999) (k24 : 1 ≤ x24 ∧ x24 ≤ 35994000) (k25 : 1 ≤ x25 ∧ x25 ≤ 35999999) (d4 : x24 + 0 ≤ x25 ∧ x25 ≤ x24 + 5999) (d5 : x22 + (-4294967296) ≤ x14 ∧ x14 ≤ x22 + 0) (d6 : x20 + (-1) ≤ x22 ∧ x22 ≤ x20 + (-1)) (d7 : x17 + (-4294967296) ≤ x11 ∧ x11 ≤ x17 + 0) (d8 : x8 + (-1) ≤ x17 ∧ x17 ≤ x8 + (-1)) (d9 : x12 + 1 ≤ x14 ∧ x14 ≤ x12 + 1) (d10 : x9 + 0 ≤ x11 ∧ x11 ≤ x9 + 0) (d11 : x8 + (-4294967295) ≤ x11 ∧ x11 ≤ x8 + (-1)) (f1 : x25 = x24 + x11) (f2 : x24 = x14 * x8) (g3 : x8 = wide_0) (g5 : x20 = tall_0) (f9 : x12 = Int.tdiv (x5) (x8)) (f12 : x9 = Int.tmod (x5) (x8)) (f13 : x7 = x1 % 4) (f14 : x5 = x1 / 4) (f15 : RTQ (wide_0) (tall_0) (barredPoint_0) (costOf_0) (bucket_0) (bucketMany_0) (x3) (x2)) (f17 : (0 ≤ x1) ∧ ((x1 + 1) ≤ (4 * (wide_0 * tall_0)))) (kz_0_146 : (-3999999) ≤ wide_0 ∧ wide_0 ≤ 600000023) (kz_0_147 : (-3999999) ≤ tall_0 ∧ tall_0 ≤ 600000007) : 1 ≤ x25 ∧ x25 ≤ 5999 := by
  first
    | (have g := gok_bd (show GRX wide_0 tall_0 from ‹RTQ _ _ _ _ _ _ _ _›.1); omega)
    | (have g0 : GRX wide_0 tall_0 := ‹RTQ _ _ _ _ _ _ _ _›.1
       have g := gok_bd g0
       have e8 : x8 = wide_0 := by assumption
       have e20 : x20 = tall_0 := by assumption
       have c := cell_ix (W := x8) (T := x20) (x := x11) (y := x14) (p := x25) (by omega) (by omega) (by omega) (by omega) (by omega) (by rw [‹x25 = x24 + x11›, ‹x24 = x14 * x8›])
       have g3 := g0.2.2
       rw [e8, e20] at c
       omega)
def o_Mo_backFrom_5 : or_T := (86, 27, [(0, (2, 0, 0, [165])), (1, (0, 0, 23999, [])), (2, (0, 0, 1000000, [])), (3, (0, 0, 5999, [])), (5, (0, 0, 5999, [])), (7, (0, 3, 3, [])), (8, (0, 1, 6000, [])), (9, (0, 0, 5999, [])), (10, (0, 0, 0, [])), (11, (0, 0, 5999, [])), (12, (0, 0, 5999, [])), (13, (0, -1, -1, [])), (14, (0, 1, 5999, [])), (16, (0, 1, 1, [])), (17, (0, 0, 5999, [])), (20, (0, 1, 6000, [])), (21, (0, 1, 1, [])), (22, (0, 1, 5999, [])), (24, (0, 1, 35994000, [])), (25, (0, 1, 35999999, [])), (26, (2, 0, 0, [269]))], [(9, [26, 0], [143]), (1, [25, 24, 11], []), (3, [24, 14, 8], []), (9, [8, 0], [146]), (2, [22, 20, 21], []), (9, [20, 0], [147]), (2, [17, 8, 16], []), (2, [14, 12, 13], []), (20, [7, 13], [50, 0, 0, 3, 14, 2, 6, 1, 2, 1, 0, 0, 1, 1, 2, 1, 1, 0, 1, 3, 14, 2, 6, 1, 2, 1, 0, 0, 3, 1, 2, 1, 1, 0, -1, 2, 6, 7, 2, 1, 0, 0, 1, 2, 6, 7, 2, 1, 0, 0, 3, 1, 2, 1, 1, 0, 0]), (4, [12, 5, 8], []), (2, [11, 9, 10], []), (20, [7, 10], [50, 0, 0, 3, 14, 2, 6, 1, 2, 1, 0, 0, 0, 1, 2, 1, 1, 0, 1, 3, 14, 2, 6, 1, 2, 1, 0, 0, 2, 1, 2, 1, 1, 0, -1, 2, 6, 7, 2, 1, 0, 0, 0, 2, 6, 7, 2, 1, 0, 0, 2, 1, 2, 1, 1, 0, 0]), (5, [9, 5, 8], []), (12, [7, 1], [4]), (11, [5, 1], [4]), (20, [0, 3, 2], [60, 2, 4, 495, 146, 147, 143, 140, 141, 142]), (20, [0, 1, 2], [60, 0, 1, 497, 140]), (20, [1, 0], [50, 2, 0, 1146, 1147, 2, 6, 0, 2, 0, 0, 1, 0, 0, 6, 4, 2, 1, 0, 0, 1, 6, 2, 0, 4, 6, 3, 2, 1, 146, 2, 1, 147]), (20, [2], [50, 0, 0, 2, 6, 0, 2, 0, 0, 1, 0, 0, 2, 1, 0, 0, 999999])], [(25, (0, 1, 5999, []))], [], [], [], [(25, 11, 1, 35994000), (25, 17, -4294967296, 35994000), (25, 9, 1, 35994000), (25, 8, -4294967294, 35993999), (25, 24, 0, 5999), (14, 22, -4294967296, 0), (22, 20, -1, -1), (11, 17, -4294967296, 0), (17, 8, -1, -1), (14, 12, 1, 1), (11, 9, 0, 0), (11, 8, -4294967295, -1), (9, 8, -4294967295, -1)])
theorem oo_Mo_backFrom_5 {kA : Nat → ClassId} : or_ok PRD kA GG o_Mo_backFrom_5 := by
  refine or_mk fun A ta ws vs hD hth hl => ?_
  intro t0 r0 t1 k1 t2 k2 t3 k3 t5 k5 t7 k7 t8 k8 t9 k9 t10 k10 t11 k11 t12 k12 t13 k13 t14 k14 t16 k16 t17 k17 t20 k20 t21 k21 t22 k22 t24 k24 t25 k25 t26 r26 d0 d1 d2 d3 d4 d5 d6 d7 d8 d9 d10 d11 d12 f0 f1 f2 f3 f4 f5 f6 f7 f8 f9 f10 f11 f12 f13 f14 f15 f16 f17 f18
  replace f3 := shm_1254 f3
  replace f5 := shm_1259 f5
  replace f9 := shm_34 f9
  have g3 : v_iv (n_v vs 8) = w_fi ws (n_v vs 0) 146 := congrArg v_iv f3
  have g5 : v_iv (n_v vs 20) = w_fi ws (n_v vs 0) 147 := congrArg v_iv f5
  have kz_0_146 := fdq_178 hD hth r0
  have kz_0_147 := fdq_179 hD hth r0
  have hrf0 : 1 ≤ v_iv (n_v vs 25) ∧ v_iv (n_v vs 25) ≤ 5999 := vc_Mo_backFrom_5_r0 (v_iv (n_v vs 1)) (v_iv (n_v vs 2)) (v_iv (n_v vs 3)) (v_iv (n_v vs 5)) (v_iv (n_v vs 7)) (v_iv (n_v vs 8)) (v_iv (n_v vs 9)) (v_iv (n_v vs 11)) (v_iv (n_v vs 12)) (v_iv (n_v vs 14)) (v_iv (n_v vs 17)) (v_iv (n_v vs 20)) (v_iv (n_v vs 22)) (v_iv (n_v vs 24)) (v_iv (n_v vs 25)) (w_fi ws (n_v vs 0) 146) (w_fi ws (n_v vs 0) 147) (w_ei ws (w_ar ws (n_v vs 0) 143)) (w_ei ws (w_ar ws (n_v vs 0) 140)) (w_ei ws (w_ar ws (n_v vs 0) 141)) (w_ei ws (w_ar ws (n_v vs 0) 142)) k1 k2 k3 k5 k7 k8 k9 k11 k12 k14 k17 k20 k22 k24 k25 d4 d5 d6 d7 d8 d9 d10 d11 (shm_12 f1) (shm_38 f2) g3 g5 f9 (shm_462 f12) (shm_561 f13) (shm_1192 f14) (shm_691 f15) (shm_1372 f17) kz_0_146 kz_0_147
  have rf25 : tv_ok ta (0, 1, 5999, []) (n_v vs 25) := tv_in t25 (by first | omega | grind) (by first | omega | grind)
  refine ⟨List.forall_mem_cons.mpr ⟨rf25, (fun _ h => (by cases h))⟩, [], trivial, ?_, (fun _ h => (by cases h))⟩
  rw [List.append_nil]
  exact (fun _ h => (by cases h))
set_option maxHeartbeats 4000000 in
theorem vc_Mo_backFrom_6_0 (x1 : Int) (x2 : Int) (x3 : Int) (x5 : Int) (x7 : Int) (x8 : Int) (x9 : Int) (x11 : Int) (x12 : Int) (x14 : Int) (x17 : Int) (x20 : Int) (x22 : Int) (x24 : Int) (x25 : Int) (x27 : Int) (barredPoint_0 : Int → Int) (wide_0 : Int) (tall_0 : Int) (costOf_0 : Int → Int) (bucket_0 : Int → Int) (bucketMany_0 : Int → Int) (k1 : 0 ≤ x1 ∧ x1 ≤ 23999) (k2 : 0 ≤ x2 ∧ x2 ≤ 1000000) (k3 : 0 ≤ x3 ∧ x3 ≤ 5999) (k5 : 0 ≤ x5 ∧ x5 ≤ 5999) (k7 : 3 ≤ x7 ∧ x7 ≤ 3) (k8 : 1 ≤ x8 ∧ x8 ≤ 6000) (k9 : 0 ≤ x9 ∧ x9 ≤ 5999) (k11 : 0 ≤ x11 ∧ x11 ≤ 5999) (k12 : 0 ≤ x12 ∧ x12 ≤ 5999) (k14 : 1 ≤ x14 ∧ x14 ≤ 5999) (k17 : 0 ≤ x17 ∧ x17 ≤ 5999) (k20 : 1 ≤ x20 ∧ x20 ≤ 6000) (k22 : 1 ≤ x22 ∧ x22 ≤ 5999) (k24 : 1 ≤ x24 ∧ x24 ≤ 35994000) (k25 : 1 ≤ x25 ∧ x25 ≤ 5999) (k27 : 0 ≤ x27 ∧ x27 ≤ 0) (d2 : x24 + 0 ≤ x25 ∧ x25 ≤ x24 + 5999) (d3 : x22 + (-4294967296) ≤ x14 ∧ x14 ≤ x22 + 0) (d4 : x20 + (-1) ≤ x22 ∧ x22 ≤ x20 + (-1)) (d5 : x17 + (-4294967296) ≤ x11 ∧ x11 ≤ x17 + 0) (d6 : x8 + (-1) ≤ x17 ∧ x17 ≤ x8 + (-1)) (d7 : x12 + 1 ≤ x14 ∧ x14 ≤ x12 + 1) (d8 : x9 + 0 ≤ x11 ∧ x11 ≤ x9 + 0) (d9 : x8 + (-4294967295) ≤ x11 ∧ x11 ≤ x8 + (-1)) (f0 : x27 = 0) (h1 : x27 = barredPoint_0 (x25)) (f3 : x25 = x24 + x11) (f4 : x24 = x14 * x8) (g5 : x8 = wide_0) (g7 : x20 = tall_0) (f11 : x12 = Int.tdiv (x5) (x8)) (f14 : x9 = Int.tmod (x5) (x8)) (f15 : x7 = x1 % 4) (f16 : x5 = x1 / 4) (f17 : RTQ (wide_0) (tall_0) (barredPoint_0) (costOf_0) (bucket_0) (bucketMany_0) (x3) (x2)) (f18 : PIV (costOf_0) (x1) (x2)) (f19 : (0 ≤ x1) ∧ ((x1 + 1) ≤ (4 * (wide_0 * tall_0)))) (f20 : (0 ≤ x2) ∧ (x2 ≤ 999999)) (kz_0_146 : (-3999999) ≤ wide_0 ∧ wide_0 ≤ 600000023) (kz_0_147 : (-3999999) ≤ tall_0 ∧ tall_0 ≤ 600000007) : BFP (wide_0) (tall_0) (barredPoint_0) (x1) (x25) := by
  first
    | (have g0 : GRX wide_0 tall_0 := ‹RTQ _ _ _ _ _ _ _ _›.1
       have g := gok_bd g0
       have e8 : x8 = wide_0 := by assumption
       have e20 : x20 = tall_0 := by assumption
       have tm : x9 = x5 % wide_0 := by rw [← e8, ‹x9 = Int.tmod x5 x8›]; exact Int.tmod_eq_emod_of_nonneg (by omega)
       have td : x12 = x5 / wide_0 := by rw [← e8, ‹x12 = Int.tdiv x5 x8›]; exact Int.tdiv_eq_ediv_of_nonneg (by omega)
       have hx : x11 = x5 % wide_0 - dxf x7 := by rw [← tm]; unfold dxf; split; omega; split <;> omega
       have hy : x14 = x5 / wide_0 - dyf x7 := by rw [← td]; unfold dyf; split; omega; split <;> omega
       have n := nb_back (T := tall_0) (q := x5) (d := x7) (x := x11) (y := x14) (p := x25) (by omega) (by omega) (by omega) hx hy (by omega) (by omega) (by omega) (by omega) (by rw [← e8, ‹x25 = x24 + x11›, ‹x24 = x14 * x8›])
       have b := rtq_bar ‹RTQ _ _ _ _ _ _ _ _› ‹PIV _ _ _› (by omega) (by omega)
       exact ⟨⟨by omega, by omega⟩, by rw [show x1 % 4 = x7 by omega, show x1 / 4 = x5 by omega]; exact n.1, n.2, by rw [← ‹x27 = barredPoint_0 x25›]; omega, b⟩)
set_option maxHeartbeats 4000000 in
theorem vc_Mo_backFrom_6_1 (x1 : Int) (x7 : Int) (x8 : Int) (x11 : Int) (x14 : Int) (x20 : Int) (x24 : Int) (x25 : Int) (wide_0 : Int) (tall_0 : Int) (k1 : 0 ≤ x1 ∧ x1 ≤ 23999) (k7 : 3 ≤ x7 ∧ x7 ≤ 3) (f15 : x7 = x1 % 4) : x7 = (x1 % 4) := by
  first
    | omega
    | (have h := ‹BFP _ _ _ _ _›.2.2.1; omega)
set_option maxHeartbeats 4000000 in
theorem vc_Mo_backFrom_6_2 (x2 : Int) (x3 : Int) (x5 : Int) (x8 : Int) (x9 : Int) (x11 : Int) (x12 : Int) (x14 : Int) (x17 : Int) (x20 : Int) (x22 : Int) (x24 : Int) (x25 : Int) (barredPoint_0 : Int → Int) (wide_0 : Int) (tall_0 : Int) (costOf_0 : Int → Int) (bucket_0 : Int → Int) (bucketMany_0 : Int → Int) (k2 : 0 ≤ x2 ∧ x2 ≤ 1000000) (k3 : 0 ≤ x3 ∧ x3 ≤ 5999) (k5 : 0 ≤ x5 ∧ x5 ≤ 5999) (k8 : 1 ≤ x8 ∧ x8 ≤ 6000) (k9 : 0 ≤ x9 ∧ x9 ≤ 5999) (k11 : 0 ≤ x11 ∧ x11 ≤ 5999) (k12 : 0 ≤ x12 ∧ x12 ≤ 5999) (k14 : 1 ≤ x14 ∧ x14 ≤ 5999) (k17 : 0 ≤ x17 ∧ x17 ≤ 5999) (k20 : 1 ≤ x20 ∧ x20 ≤ 6000) (k22 : 1 ≤ x22 ∧ x22 ≤ 5999) (k24 : 1 ≤ x24 ∧ x24 ≤ 35994000) (k25 : 1 ≤ x25 ∧ x25 ≤ 5999) (d2 : x24 + 0 ≤ x25 ∧ x25 ≤ x24 + 5999) (d3 : x22 + (-4294967296) ≤ x14 ∧ x14 ≤ x22 + 0) (d4 : x20 + (-1) ≤ x22 ∧ x22 ≤ x20 + (-1)) (d5 : x17 + (-4294967296) ≤ x11 ∧ x11 ≤ x17 + 0) (d6 : x8 + (-1) ≤ x17 ∧ x17 ≤ x8 + (-1)) (d7 : x12 + 1 ≤ x14 ∧ x14 ≤ x12 + 1) (d8 : x9 + 0 ≤ x11 ∧ x11 ≤ x9 + 0) (d9 : x8 + (-4294967295) ≤ x11 ∧ x11 ≤ x8 + (-1)) (f3 : x25 = x24 + x11) (f4 : x24 = x14 * x8) (g5 : x8 = wide_0) (g7 : x20 = tall_0) (f11 : x12 = Int.tdiv (x5) (x8)) (f14 : x9 = Int.tmod (x5) (x8)) (f17 : RTQ (wide_0) (tall_0) (barredPoint_0) (costOf_0) (bucket_0) (bucketMany_0) (x3) (x2)) (kz_0_146 : (-3999999) ≤ wide_0 ∧ wide_0 ≤ 600000023) (kz_0_147 : (-3999999) ≤ tall_0 ∧ tall_0 ≤ 600000007) : (0 ≤ x25) ∧ ((x25 + 1) ≤ (wide_0 * tall_0)) := by
  first
    | (have g := gok_bd (show GRX wide_0 tall_0 from ‹RTQ _ _ _ _ _ _ _ _›.1); omega)
    | (have g0 : GRX wide_0 tall_0 := ‹RTQ _ _ _ _ _ _ _ _›.1
       have g := gok_bd g0
       have e8 : x8 = wide_0 := by assumption
       have e20 : x20 = tall_0 := by assumption
       have c := cell_ix (W := x8) (T := x20) (x := x11) (y := x14) (p := x25) (by omega) (by omega) (by omega) (by omega) (by omega) (by rw [‹x25 = x24 + x11›, ‹x24 = x14 * x8›])
       have g3 := g0.2.2
       rw [e8, e20] at c
       omega)
def o_Mo_backFrom_6 : or_T := (94, 29, [(0, (2, 0, 0, [165])), (1, (0, 0, 23999, [])), (2, (0, 0, 1000000, [])), (3, (0, 0, 5999, [])), (5, (0, 0, 5999, [])), (7, (0, 3, 3, [])), (8, (0, 1, 6000, [])), (9, (0, 0, 5999, [])), (10, (0, 0, 0, [])), (11, (0, 0, 5999, [])), (12, (0, 0, 5999, [])), (13, (0, -1, -1, [])), (14, (0, 1, 5999, [])), (16, (0, 1, 1, [])), (17, (0, 0, 5999, [])), (20, (0, 1, 6000, [])), (21, (0, 1, 1, [])), (22, (0, 1, 5999, [])), (24, (0, 1, 35994000, [])), (25, (0, 1, 5999, [])), (26, (2, 0, 0, [269])), (27, (0, 0, 0, []))], [(8, [27], [0]), (10, [27, 26, 25], []), (9, [26, 0], [143]), (1, [25, 24, 11], []), (3, [24, 14, 8], []), (9, [8, 0], [146]), (2, [22, 20, 21], []), (9, [20, 0], [147]), (2, [17, 8, 16], []), (2, [14, 12, 13], []), (20, [7, 13], [50, 0, 0, 3, 14, 2, 6, 1, 2, 1, 0, 0, 1, 1, 2, 1, 1, 0, 1, 3, 14, 2, 6, 1, 2, 1, 0, 0, 3, 1, 2, 1, 1, 0, -1, 2, 6, 7, 2, 1, 0, 0, 1, 2, 6, 7, 2, 1, 0, 0, 3, 1, 2, 1, 1, 0, 0]), (4, [12, 5, 8], []), (2, [11, 9, 10], []), (20, [7, 10], [50, 0, 0, 3, 14, 2, 6, 1, 2, 1, 0, 0, 0, 1, 2, 1, 1, 0, 1, 3, 14, 2, 6, 1, 2, 1, 0, 0, 2, 1, 2, 1, 1, 0, -1, 2, 6, 7, 2, 1, 0, 0, 0, 2, 6, 7, 2, 1, 0, 0, 2, 1, 2, 1, 1, 0, 0]), (5, [9, 5, 8], []), (12, [7, 1], [4]), (11, [5, 1], [4]), (20, [0, 3, 2], [60, 2, 4, 495, 146, 147, 143, 140, 141, 142]), (20, [0, 1, 2], [60, 0, 1, 497, 140]), (20, [1, 0], [50, 2, 0, 1146, 1147, 2, 6, 0, 2, 0, 0, 1, 0, 0, 6, 4, 2, 1, 0, 0, 1, 6, 2, 0, 4, 6, 3, 2, 1, 146, 2, 1, 147]), (20, [2], [50, 0, 0, 2, 6, 0, 2, 0, 0, 1, 0, 0, 2, 1, 0, 0, 999999])], [], [], [(20, [0, 1, 25], [60, 2, 1, 500, 146, 147, 143]), (20, [7, 1], [50, 0, 0, 1, 2, 1, 0, 9, 2, 1, 1, 0, 4]), (20, [25, 0], [50, 2, 0, 1146, 1147, 2, 6, 0, 2, 0, 0, 1, 0, 0, 6, 4, 2, 1, 0, 0, 1, 6, 3, 2, 1, 146, 2, 1, 147]), (24, [0, 0], []), (24, [1, 1], []), (24, [2, 2], [])], [], [(25, 11, 1, 35994000), (25, 9, 1, 35994000), (25, 24, 0, 5999), (14, 22, -4294967296, 0), (22, 20, -1, -1), (11, 17, -4294967296, 0), (17, 8, -1, -1), (14, 12, 1, 1), (11, 9, 0, 0), (11, 8, -4294967295, -1), (9, 8, -4294967295, -1)])
theorem oo_Mo_backFrom_6 {kA : Nat → ClassId} : or_ok PRD kA GG o_Mo_backFrom_6 := by
  refine or_mk fun A ta ws vs hD hth hl => ?_
  intro t0 r0 t1 k1 t2 k2 t3 k3 t5 k5 t7 k7 t8 k8 t9 k9 t10 k10 t11 k11 t12 k12 t13 k13 t14 k14 t16 k16 t17 k17 t20 k20 t21 k21 t22 k22 t24 k24 t25 k25 t26 r26 t27 k27 d0 d1 d2 d3 d4 d5 d6 d7 d8 d9 d10 f0 f1 f2 f3 f4 f5 f6 f7 f8 f9 f10 f11 f12 f13 f14 f15 f16 f17 f18 f19 f20
  replace f1 := shm_106 f1
  replace f2 := shm_1260 f2
  replace f5 := shm_1254 f5
  replace f7 := shm_1259 f7
  replace f11 := shm_34 f11
  have ad_26 : v_ad (n_v vs 26) = w_ar ws (n_v vs 0) 143 := congrArg v_ad f2
  simp only [ad_26] at f1
  have h1 : v_iv (n_v vs 27) = w_ei ws (w_ar ws (n_v vs 0) 143) (v_iv (n_v vs 25)) := f1
  have g5 : v_iv (n_v vs 8) = w_fi ws (n_v vs 0) 146 := congrArg v_iv f5
  have g7 : v_iv (n_v vs 20) = w_fi ws (n_v vs 0) 147 := congrArg v_iv f7
  have kz_0_146 := fdq_178 hD hth r0
  have kz_0_147 := fdq_179 hD hth r0
  have nf0 : fc_1 PRD (20, [0, 1, 25], [60, 2, 1, 500, 146, 147, 143]) ws (vs) := ⟨nf_in hl rfl, sgq_1374 (vc_Mo_backFrom_6_0 (v_iv (n_v vs 1)) (v_iv (n_v vs 2)) (v_iv (n_v vs 3)) (v_iv (n_v vs 5)) (v_iv (n_v vs 7)) (v_iv (n_v vs 8)) (v_iv (n_v vs 9)) (v_iv (n_v vs 11)) (v_iv (n_v vs 12)) (v_iv (n_v vs 14)) (v_iv (n_v vs 17)) (v_iv (n_v vs 20)) (v_iv (n_v vs 22)) (v_iv (n_v vs 24)) (v_iv (n_v vs 25)) (v_iv (n_v vs 27)) (w_ei ws (w_ar ws (n_v vs 0) 143)) (w_fi ws (n_v vs 0) 146) (w_fi ws (n_v vs 0) 147) (w_ei ws (w_ar ws (n_v vs 0) 140)) (w_ei ws (w_ar ws (n_v vs 0) 141)) (w_ei ws (w_ar ws (n_v vs 0) 142)) k1 k2 k3 k5 k7 k8 k9 k11 k12 k14 k17 k20 k22 k24 k25 k27 d2 d3 d4 d5 d6 d7 d8 d9 (shm_210 f0) h1 (shm_12 f3) (shm_38 f4) g5 g7 f11 (shm_462 f14) (shm_561 f15) (shm_1192 f16) (shm_691 f17) (shm_693 f18) (shm_1372 f19) (shm_1373 f20) kz_0_146 kz_0_147)⟩
  have nf1 : fc_1 PRD (20, [7, 1], [50, 0, 0, 1, 2, 1, 0, 9, 2, 1, 1, 0, 4]) ws (vs) := ⟨nf_in hl rfl, sgq_1375 (vc_Mo_backFrom_6_1 (v_iv (n_v vs 1)) (v_iv (n_v vs 7)) (v_iv (n_v vs 8)) (v_iv (n_v vs 11)) (v_iv (n_v vs 14)) (v_iv (n_v vs 20)) (v_iv (n_v vs 24)) (v_iv (n_v vs 25)) (w_fi ws (n_v vs 0) 146) (w_fi ws (n_v vs 0) 147) k1 k7 (shm_561 f15))⟩
  have nf2 : fc_1 PRD (20, [25, 0], [50, 2, 0, 1146, 1147, 2, 6, 0, 2, 0, 0, 1, 0, 0, 6, 4, 2, 1, 0, 0, 1, 6, 3, 2, 1, 146, 2, 1, 147]) ws (vs) := ⟨nf_in hl rfl, sgq_1256 (vc_Mo_backFrom_6_2 (v_iv (n_v vs 2)) (v_iv (n_v vs 3)) (v_iv (n_v vs 5)) (v_iv (n_v vs 8)) (v_iv (n_v vs 9)) (v_iv (n_v vs 11)) (v_iv (n_v vs 12)) (v_iv (n_v vs 14)) (v_iv (n_v vs 17)) (v_iv (n_v vs 20)) (v_iv (n_v vs 22)) (v_iv (n_v vs 24)) (v_iv (n_v vs 25)) (w_ei ws (w_ar ws (n_v vs 0) 143)) (w_fi ws (n_v vs 0) 146) (w_fi ws (n_v vs 0) 147) (w_ei ws (w_ar ws (n_v vs 0) 140)) (w_ei ws (w_ar ws (n_v vs 0) 141)) (w_ei ws (w_ar ws (n_v vs 0) 142)) k2 k3 k5 k8 k9 k11 k12 k14 k17 k20 k22 k24 k25 d2 d3 d4 d5 d6 d7 d8 d9 (shm_12 f3) (shm_38 f4) g5 g7 f11 (shm_462 f14) (shm_691 f17) kz_0_146 kz_0_147)⟩
  have nf3 : fc_1 PRD (24, [0, 0], []) ws (vs) := by
    refine ⟨nf_in hl rfl, sgq_1 ?_⟩
    · show n_v vs 0 = n_v vs 0
      first | rfl | simp only [true_and]
  have nf4 : fc_1 PRD (24, [1, 1], []) ws (vs) := by
    refine ⟨nf_in hl rfl, sgq_1 ?_⟩
    · show n_v vs 1 = n_v vs 1
      first | rfl | simp only [true_and]
  have nf5 : fc_1 PRD (24, [2, 2], []) ws (vs) := by
    refine ⟨nf_in hl rfl, sgq_1 ?_⟩
    · show n_v vs 2 = n_v vs 2
      first | rfl | simp only [true_and]
  refine ⟨(fun _ h => (by cases h)), [], trivial, ?_, (fun _ h => (by cases h))⟩
  rw [List.append_nil]
  exact List.forall_mem_cons.mpr ⟨⟨show (20 : Nat) < 100 from by decide, nf0⟩, List.forall_mem_cons.mpr ⟨⟨show (20 : Nat) < 100 from by decide, nf1⟩, List.forall_mem_cons.mpr ⟨⟨show (20 : Nat) < 100 from by decide, nf2⟩, List.forall_mem_cons.mpr ⟨⟨show (24 : Nat) < 100 from by decide, nf3⟩, List.forall_mem_cons.mpr ⟨⟨show (24 : Nat) < 100 from by decide, nf4⟩, List.forall_mem_cons.mpr ⟨⟨show (24 : Nat) < 100 from by decide, nf5⟩, (fun _ h => (by cases h))⟩⟩⟩⟩⟩⟩
set_option maxHeartbeats 4000000 in
theorem vc_Mo_backFrom_7_r0 (x2 : Int) (x3 : Int) (x8 : Int) (x11 : Int) (x14 : Int) (x20 : Int) (tall_0 : Int) (wide_0 : Int) (barredPoint_0 : Int → Int) (costOf_0 : Int → Int) (bucket_0 : Int → Int) (bucketMany_0 : Int → Int) (k2 : 0 ≤ x2 ∧ x2 ≤ 1000000) (k3 : 0 ≤ x3 ∧ x3 ≤ 5999) (k20 : (-3999999) ≤ x20 ∧ x20 ≤ 600000007) (g0 : x20 = tall_0) (f11 : RTQ (wide_0) (tall_0) (barredPoint_0) (costOf_0) (bucket_0) (bucketMany_0) (x3) (x2)) (kz_0_146 : (-3999999) ≤ wide_0 ∧ wide_0 ≤ 600000023) (kz_0_147 : (-3999999) ≤ tall_0 ∧ tall_0 ≤ 600000007) : 1 ≤ x20 ∧ x20 ≤ 6000 := by
  first
    | (have g := gok_bd (show GRX wide_0 tall_0 from ‹RTQ _ _ _ _ _ _ _ _›.1); omega)
def o_Mo_backFrom_7 : or_T := (60, 22, [(0, (2, 0, 0, [165])), (1, (0, 0, 23999, [])), (2, (0, 0, 1000000, [])), (3, (0, 0, 5999, [])), (5, (0, 0, 5999, [])), (7, (0, 1, 1, [])), (8, (0, 1, 6000, [])), (9, (0, 0, 5999, [])), (10, (0, 0, 0, [])), (11, (0, 0, 5999, [])), (12, (0, 0, 5999, [])), (13, (0, 1, 1, [])), (14, (0, -1, 5998, [])), (16, (0, 1, 1, [])), (17, (0, 0, 5999, [])), (20, (0, -3999999, 600000007, []))], [(9, [20, 0], [147]), (2, [17, 8, 16], []), (9, [8, 0], [146]), (2, [14, 12, 13], []), (20, [7, 13], [50, 0, 0, 3, 14, 2, 6, 1, 2, 1, 0, 0, 1, 1, 2, 1, 1, 0, 1, 3, 14, 2, 6, 1, 2, 1, 0, 0, 3, 1, 2, 1, 1, 0, -1, 2, 6, 7, 2, 1, 0, 0, 1, 2, 6, 7, 2, 1, 0, 0, 3, 1, 2, 1, 1, 0, 0]), (4, [12, 5, 8], []), (2, [11, 9, 10], []), (20, [7, 10], [50, 0, 0, 3, 14, 2, 6, 1, 2, 1, 0, 0, 0, 1, 2, 1, 1, 0, 1, 3, 14, 2, 6, 1, 2, 1, 0, 0, 2, 1, 2, 1, 1, 0, -1, 2, 6, 7, 2, 1, 0, 0, 0, 2, 6, 7, 2, 1, 0, 0, 2, 1, 2, 1, 1, 0, 0]), (5, [9, 5, 8], []), (12, [7, 1], [4]), (11, [5, 1], [4]), (20, [0, 3, 2], [60, 2, 4, 495, 146, 147, 143, 140, 141, 142]), (20, [0, 1, 2], [60, 0, 1, 497, 140]), (20, [1, 0], [50, 2, 0, 1146, 1147, 2, 6, 0, 2, 0, 0, 1, 0, 0, 6, 4, 2, 1, 0, 0, 1, 6, 2, 0, 4, 6, 3, 2, 1, 146, 2, 1, 147]), (20, [2], [50, 0, 0, 2, 6, 0, 2, 0, 0, 1, 0, 0, 2, 1, 0, 0, 999999])], [(20, (0, 1, 6000, []))], [], [], [], [(11, 17, -4294967296, 0), (17, 8, -1, -1), (14, 12, -1, -1), (11, 9, 0, 0), (11, 8, -4294967295, -1), (9, 8, -4294967295, -1)])
theorem oo_Mo_backFrom_7 {kA : Nat → ClassId} : or_ok PRD kA GG o_Mo_backFrom_7 := by
  refine or_mk fun A ta ws vs hD hth hl => ?_
  intro t0 r0 t1 k1 t2 k2 t3 k3 t5 k5 t7 k7 t8 k8 t9 k9 t10 k10 t11 k11 t12 k12 t13 k13 t14 k14 t16 k16 t17 k17 t20 k20 d0 d1 d2 d3 d4 d5 f0 f1 f2 f3 f4 f5 f6 f7 f8 f9 f10 f11 f12 f13 f14
  replace f0 := shm_1259 f0
  have g0 : v_iv (n_v vs 20) = w_fi ws (n_v vs 0) 147 := congrArg v_iv f0
  have kz_0_146 := fdq_178 hD hth r0
  have kz_0_147 := fdq_179 hD hth r0
  have hrf0 : 1 ≤ v_iv (n_v vs 20) ∧ v_iv (n_v vs 20) ≤ 6000 := vc_Mo_backFrom_7_r0 (v_iv (n_v vs 2)) (v_iv (n_v vs 3)) (v_iv (n_v vs 8)) (v_iv (n_v vs 11)) (v_iv (n_v vs 14)) (v_iv (n_v vs 20)) (w_fi ws (n_v vs 0) 147) (w_fi ws (n_v vs 0) 146) (w_ei ws (w_ar ws (n_v vs 0) 143)) (w_ei ws (w_ar ws (n_v vs 0) 140)) (w_ei ws (w_ar ws (n_v vs 0) 141)) (w_ei ws (w_ar ws (n_v vs 0) 142)) k2 k3 k20 g0 (shm_691 f11) kz_0_146 kz_0_147
  have rf20 : tv_ok ta (0, 1, 6000, []) (n_v vs 20) := tv_in t20 (by first | omega | grind) (by first | omega | grind)
  refine ⟨List.forall_mem_cons.mpr ⟨rf20, (fun _ h => (by cases h))⟩, [], trivial, ?_, (fun _ h => (by cases h))⟩
  rw [List.append_nil]
  exact (fun _ h => (by cases h))
set_option maxHeartbeats 4000000 in
theorem vc_Mo_backFrom_8_r0 (x1 : Int) (x2 : Int) (x3 : Int) (x5 : Int) (x7 : Int) (x8 : Int) (x9 : Int) (x11 : Int) (x12 : Int) (x14 : Int) (x17 : Int) (x20 : Int) (x22 : Int) (x24 : Int) (x25 : Int) (wide_0 : Int) (tall_0 : Int) (barredPoint_0 : Int → Int) (costOf_0 : Int → Int) (bucket_0 : Int → Int) (bucketMany_0 : Int → Int) (k1 : 0 ≤ x1 ∧ x1 ≤ 23999) (k2 : 0 ≤ x2 ∧ x2 ≤ 1000000) (k3 : 0 ≤ x3 ∧ x3 ≤ 5999) (k5 : 0 ≤ x5 ∧ x5 ≤ 5999) (k7 : 1 ≤ x7 ∧ x7 ≤ 1) (k8 : 1 ≤ x8 ∧ x8 ≤ 6000) (k9 : 0 ≤ x9 ∧ x9 ≤ 5999) (k11 : 0 ≤ x11 ∧ x11 ≤ 5999) (k12 : 0 ≤ x12 ∧ x12 ≤ 5999) (k14 : 0 ≤ x14 ∧ x14 ≤ 5998) (k17 : 0 ≤ x17 ∧ x17 ≤ 5999) (k20 : 1 ≤ x20 ∧ x20 ≤ 6000) (k22 : 0 ≤ x22 ∧ x22 ≤ 5999) (k24 : 0 ≤ x24 ∧ x24 ≤ 35988000) (k25 : 0 ≤ x25 ∧ x25 ≤ 35993999) (d4 : x24 + 0 ≤ x25 ∧ x25 ≤ x24 + 5999) (d5 : x22 + (-4294967296) ≤ x14 ∧ x14 ≤ x22 + 0) (d6 : x20 + (-1) ≤ x22 ∧ x22 ≤ x20 + (-1)) (d7 : x17 + (-4294967296) ≤ x11 ∧ x11 ≤ x17 + 0) (d8 : x8 + (-1) ≤ x17 ∧ x17 ≤ x8 + (-1)) (d9 : x12 + (-1) ≤ x14 ∧ x14 ≤ x12 + (-1)) (d10 : x9 + 0 ≤ x11 ∧ x11 ≤ x9 + 0) (d11 : x8 + (-4294967295) ≤ x11 ∧ x11 ≤ x8 + (-1)) (f1 : x25 = x24 + x11) (f2 : x24 = x14 * x8) (g3 : x8 = wide_0) (g5 : x20 = tall_0) (f9 : x12 = Int.tdiv (x5) (x8)) (f12 : x9 = Int.tmod (x5) (x8)) (f13 : x7 = x1 % 4) (f14 : x5 = x1 / 4) (f15 : RTQ (wide_0) (tall_0) (barredPoint_0) (costOf_0) (bucket_0) (bucketMany_0) (x3) (x2)) (f17 : (0 ≤ x1) ∧ ((x1 + 1) ≤ (4 * (wide_0 * tall_0)))) (kz_0_146 : (-3999999) ≤ wide_0 ∧ wide_0 ≤ 600000023) (kz_0_147 : (-3999999) ≤ tall_0 ∧ tall_0 ≤ 600000007) : 0 ≤ x25 ∧ x25 ≤ 5999 := by
  first
    | (have g := gok_bd (show GRX wide_0 tall_0 from ‹RTQ _ _ _ _ _ _ _ _›.1); omega)
    | (have g0 : GRX wide_0 tall_0 := ‹RTQ _ _ _ _ _ _ _ _›.1
       have g := gok_bd g0
       have e8 : x8 = wide_0 := by assumption
       have e20 : x20 = tall_0 := by assumption
       have c := cell_ix (W := x8) (T := x20) (x := x11) (y := x14) (p := x25) (by omega) (by omega) (by omega) (by omega) (by omega) (by rw [‹x25 = x24 + x11›, ‹x24 = x14 * x8›])
       have g3 := g0.2.2
       rw [e8, e20] at c
       omega)
def o_Mo_backFrom_8 : or_T := (86, 27, [(0, (2, 0, 0, [165])), (1, (0, 0, 23999, [])), (2, (0, 0, 1000000, [])), (3, (0, 0, 5999, [])), (5, (0, 0, 5999, [])), (7, (0, 1, 1, [])), (8, (0, 1, 6000, [])), (9, (0, 0, 5999, [])), (10, (0, 0, 0, [])), (11, (0, 0, 5999, [])), (12, (0, 0, 5999, [])), (13, (0, 1, 1, [])), (14, (0, 0, 5998, [])), (16, (0, 1, 1, [])), (17, (0, 0, 5999, [])), (20, (0, 1, 6000, [])), (21, (0, 1, 1, [])), (22, (0, 0, 5999, [])), (24, (0, 0, 35988000, [])), (25, (0, 0, 35993999, [])), (26, (2, 0, 0, [269]))], [(9, [26, 0], [143]), (1, [25, 24, 11], []), (3, [24, 14, 8], []), (9, [8, 0], [146]), (2, [22, 20, 21], []), (9, [20, 0], [147]), (2, [17, 8, 16], []), (2, [14, 12, 13], []), (20, [7, 13], [50, 0, 0, 3, 14, 2, 6, 1, 2, 1, 0, 0, 1, 1, 2, 1, 1, 0, 1, 3, 14, 2, 6, 1, 2, 1, 0, 0, 3, 1, 2, 1, 1, 0, -1, 2, 6, 7, 2, 1, 0, 0, 1, 2, 6, 7, 2, 1, 0, 0, 3, 1, 2, 1, 1, 0, 0]), (4, [12, 5, 8], []), (2, [11, 9, 10], []), (20, [7, 10], [50, 0, 0, 3, 14, 2, 6, 1, 2, 1, 0, 0, 0, 1, 2, 1, 1, 0, 1, 3, 14, 2, 6, 1, 2, 1, 0, 0, 2, 1, 2, 1, 1, 0, -1, 2, 6, 7, 2, 1, 0, 0, 0, 2, 6, 7, 2, 1, 0, 0, 2, 1, 2, 1, 1, 0, 0]), (5, [9, 5, 8], []), (12, [7, 1], [4]), (11, [5, 1], [4]), (20, [0, 3, 2], [60, 2, 4, 495, 146, 147, 143, 140, 141, 142]), (20, [0, 1, 2], [60, 0, 1, 497, 140]), (20, [1, 0], [50, 2, 0, 1146, 1147, 2, 6, 0, 2, 0, 0, 1, 0, 0, 6, 4, 2, 1, 0, 0, 1, 6, 2, 0, 4, 6, 3, 2, 1, 146, 2, 1, 147]), (20, [2], [50, 0, 0, 2, 6, 0, 2, 0, 0, 1, 0, 0, 2, 1, 0, 0, 999999])], [(25, (0, 0, 5999, []))], [], [], [], [(25, 11, 0, 35988000), (25, 17, -4294967296, 35988000), (25, 9, 0, 35988000), (25, 8, -4294967295, 35987999), (25, 24, 0, 5999), (14, 22, -4294967296, 0), (22, 20, -1, -1), (11, 17, -4294967296, 0), (17, 8, -1, -1), (14, 12, -1, -1), (11, 9, 0, 0), (11, 8, -4294967295, -1), (9, 8, -4294967295, -1)])
theorem oo_Mo_backFrom_8 {kA : Nat → ClassId} : or_ok PRD kA GG o_Mo_backFrom_8 := by
  refine or_mk fun A ta ws vs hD hth hl => ?_
  intro t0 r0 t1 k1 t2 k2 t3 k3 t5 k5 t7 k7 t8 k8 t9 k9 t10 k10 t11 k11 t12 k12 t13 k13 t14 k14 t16 k16 t17 k17 t20 k20 t21 k21 t22 k22 t24 k24 t25 k25 t26 r26 d0 d1 d2 d3 d4 d5 d6 d7 d8 d9 d10 d11 d12 f0 f1 f2 f3 f4 f5 f6 f7 f8 f9 f10 f11 f12 f13 f14 f15 f16 f17 f18
  replace f3 := shm_1254 f3
  replace f5 := shm_1259 f5
  replace f9 := shm_34 f9
  have g3 : v_iv (n_v vs 8) = w_fi ws (n_v vs 0) 146 := congrArg v_iv f3
  have g5 : v_iv (n_v vs 20) = w_fi ws (n_v vs 0) 147 := congrArg v_iv f5
  have kz_0_146 := fdq_178 hD hth r0
  have kz_0_147 := fdq_179 hD hth r0
  have hrf0 : 0 ≤ v_iv (n_v vs 25) ∧ v_iv (n_v vs 25) ≤ 5999 := vc_Mo_backFrom_8_r0 (v_iv (n_v vs 1)) (v_iv (n_v vs 2)) (v_iv (n_v vs 3)) (v_iv (n_v vs 5)) (v_iv (n_v vs 7)) (v_iv (n_v vs 8)) (v_iv (n_v vs 9)) (v_iv (n_v vs 11)) (v_iv (n_v vs 12)) (v_iv (n_v vs 14)) (v_iv (n_v vs 17)) (v_iv (n_v vs 20)) (v_iv (n_v vs 22)) (v_iv (n_v vs 24)) (v_iv (n_v vs 25)) (w_fi ws (n_v vs 0) 146) (w_fi ws (n_v vs 0) 147) (w_ei ws (w_ar ws (n_v vs 0) 143)) (w_ei ws (w_ar ws (n_v vs 0) 140)) (w_ei ws (w_ar ws (n_v vs 0) 141)) (w_ei ws (w_ar ws (n_v vs 0) 142)) k1 k2 k3 k5 k7 k8 k9 k11 k12 k14 k17 k20 k22 k24 k25 d4 d5 d6 d7 d8 d9 d10 d11 (shm_12 f1) (shm_38 f2) g3 g5 f9 (shm_462 f12) (shm_561 f13) (shm_1192 f14) (shm_691 f15) (shm_1372 f17) kz_0_146 kz_0_147
  have rf25 : tv_ok ta (0, 0, 5999, []) (n_v vs 25) := tv_in t25 (by first | omega | grind) (by first | omega | grind)
  refine ⟨List.forall_mem_cons.mpr ⟨rf25, (fun _ h => (by cases h))⟩, [], trivial, ?_, (fun _ h => (by cases h))⟩
  rw [List.append_nil]
  exact (fun _ h => (by cases h))
set_option maxHeartbeats 4000000 in
theorem vc_Mo_backFrom_9_0 (x1 : Int) (x2 : Int) (x3 : Int) (x5 : Int) (x7 : Int) (x8 : Int) (x9 : Int) (x11 : Int) (x12 : Int) (x14 : Int) (x17 : Int) (x20 : Int) (x22 : Int) (x24 : Int) (x25 : Int) (x27 : Int) (barredPoint_0 : Int → Int) (wide_0 : Int) (tall_0 : Int) (costOf_0 : Int → Int) (bucket_0 : Int → Int) (bucketMany_0 : Int → Int) (k1 : 0 ≤ x1 ∧ x1 ≤ 23999) (k2 : 0 ≤ x2 ∧ x2 ≤ 1000000) (k3 : 0 ≤ x3 ∧ x3 ≤ 5999) (k5 : 0 ≤ x5 ∧ x5 ≤ 5999) (k7 : 1 ≤ x7 ∧ x7 ≤ 1) (k8 : 1 ≤ x8 ∧ x8 ≤ 6000) (k9 : 0 ≤ x9 ∧ x9 ≤ 5999) (k11 : 0 ≤ x11 ∧ x11 ≤ 5999) (k12 : 0 ≤ x12 ∧ x12 ≤ 5999) (k14 : 0 ≤ x14 ∧ x14 ≤ 5998) (k17 : 0 ≤ x17 ∧ x17 ≤ 5999) (k20 : 1 ≤ x20 ∧ x20 ≤ 6000) (k22 : 0 ≤ x22 ∧ x22 ≤ 5999) (k24 : 0 ≤ x24 ∧ x24 ≤ 35988000) (k25 : 0 ≤ x25 ∧ x25 ≤ 5999) (k27 : 0 ≤ x27 ∧ x27 ≤ 0) (d2 : x24 + 0 ≤ x25 ∧ x25 ≤ x24 + 5999) (d3 : x22 + (-4294967296) ≤ x14 ∧ x14 ≤ x22 + 0) (d4 : x20 + (-1) ≤ x22 ∧ x22 ≤ x20 + (-1)) (d5 : x17 + (-4294967296) ≤ x11 ∧ x11 ≤ x17 + 0) (d6 : x8 + (-1) ≤ x17 ∧ x17 ≤ x8 + (-1)) (d7 : x12 + (-1) ≤ x14 ∧ x14 ≤ x12 + (-1)) (d8 : x9 + 0 ≤ x11 ∧ x11 ≤ x9 + 0) (d9 : x8 + (-4294967295) ≤ x11 ∧ x11 ≤ x8 + (-1)) (f0 : x27 = 0) (h1 : x27 = barredPoint_0 (x25)) (f3 : x25 = x24 + x11) (f4 : x24 = x14 * x8) (g5 : x8 = wide_0) (g7 : x20 = tall_0) (f11 : x12 = Int.tdiv (x5) (x8)) (f14 : x9 = Int.tmod (x5) (x8)) (f15 : x7 = x1 % 4) (f16 : x5 = x1 / 4) (f17 : RTQ (wide_0) (tall_0) (barredPoint_0) (costOf_0) (bucket_0) (bucketMany_0) (x3) (x2)) (f18 : PIV (costOf_0) (x1) (x2)) (f19 : (0 ≤ x1) ∧ ((x1 + 1) ≤ (4 * (wide_0 * tall_0)))) (f20 : (0 ≤ x2) ∧ (x2 ≤ 999999)) (kz_0_146 : (-3999999) ≤ wide_0 ∧ wide_0 ≤ 600000023) (kz_0_147 : (-3999999) ≤ tall_0 ∧ tall_0 ≤ 600000007) : BFP (wide_0) (tall_0) (barredPoint_0) (x1) (x25) := by
  first
    | (have g0 : GRX wide_0 tall_0 := ‹RTQ _ _ _ _ _ _ _ _›.1
       have g := gok_bd g0
       have e8 : x8 = wide_0 := by assumption
       have e20 : x20 = tall_0 := by assumption
       have tm : x9 = x5 % wide_0 := by rw [← e8, ‹x9 = Int.tmod x5 x8›]; exact Int.tmod_eq_emod_of_nonneg (by omega)
       have td : x12 = x5 / wide_0 := by rw [← e8, ‹x12 = Int.tdiv x5 x8›]; exact Int.tdiv_eq_ediv_of_nonneg (by omega)
       have hx : x11 = x5 % wide_0 - dxf x7 := by rw [← tm]; unfold dxf; split; omega; split <;> omega
       have hy : x14 = x5 / wide_0 - dyf x7 := by rw [← td]; unfold dyf; split; omega; split <;> omega
       have n := nb_back (T := tall_0) (q := x5) (d := x7) (x := x11) (y := x14) (p := x25) (by omega) (by omega) (by omega) hx hy (by omega) (by omega) (by omega) (by omega) (by rw [← e8, ‹x25 = x24 + x11›, ‹x24 = x14 * x8›])
       have b := rtq_bar ‹RTQ _ _ _ _ _ _ _ _› ‹PIV _ _ _› (by omega) (by omega)
       exact ⟨⟨by omega, by omega⟩, by rw [show x1 % 4 = x7 by omega, show x1 / 4 = x5 by omega]; exact n.1, n.2, by rw [← ‹x27 = barredPoint_0 x25›]; omega, b⟩)
set_option maxHeartbeats 4000000 in
theorem vc_Mo_backFrom_9_1 (x1 : Int) (x7 : Int) (x8 : Int) (x11 : Int) (x14 : Int) (x20 : Int) (x24 : Int) (x25 : Int) (wide_0 : Int) (tall_0 : Int) (k1 : 0 ≤ x1 ∧ x1 ≤ 23999) (k7 : 1 ≤ x7 ∧ x7 ≤ 1) (f15 : x7 = x1 % 4) : x7 = (x1 % 4) := by
  first
    | omega
    | (have h := ‹BFP _ _ _ _ _›.2.2.1; omega)
set_option maxHeartbeats 4000000 in
theorem vc_Mo_backFrom_9_2 (x2 : Int) (x3 : Int) (x5 : Int) (x8 : Int) (x9 : Int) (x11 : Int) (x12 : Int) (x14 : Int) (x17 : Int) (x20 : Int) (x22 : Int) (x24 : Int) (x25 : Int) (barredPoint_0 : Int → Int) (wide_0 : Int) (tall_0 : Int) (costOf_0 : Int → Int) (bucket_0 : Int → Int) (bucketMany_0 : Int → Int) (k2 : 0 ≤ x2 ∧ x2 ≤ 1000000) (k3 : 0 ≤ x3 ∧ x3 ≤ 5999) (k5 : 0 ≤ x5 ∧ x5 ≤ 5999) (k8 : 1 ≤ x8 ∧ x8 ≤ 6000) (k9 : 0 ≤ x9 ∧ x9 ≤ 5999) (k11 : 0 ≤ x11 ∧ x11 ≤ 5999) (k12 : 0 ≤ x12 ∧ x12 ≤ 5999) (k14 : 0 ≤ x14 ∧ x14 ≤ 5998) (k17 : 0 ≤ x17 ∧ x17 ≤ 5999) (k20 : 1 ≤ x20 ∧ x20 ≤ 6000) (k22 : 0 ≤ x22 ∧ x22 ≤ 5999) (k24 : 0 ≤ x24 ∧ x24 ≤ 35988000) (k25 : 0 ≤ x25 ∧ x25 ≤ 5999) (d2 : x24 + 0 ≤ x25 ∧ x25 ≤ x24 + 5999) (d3 : x22 + (-4294967296) ≤ x14 ∧ x14 ≤ x22 + 0) (d4 : x20 + (-1) ≤ x22 ∧ x22 ≤ x20 + (-1)) (d5 : x17 + (-4294967296) ≤ x11 ∧ x11 ≤ x17 + 0) (d6 : x8 + (-1) ≤ x17 ∧ x17 ≤ x8 + (-1)) (d7 : x12 + (-1) ≤ x14 ∧ x14 ≤ x12 + (-1)) (d8 : x9 + 0 ≤ x11 ∧ x11 ≤ x9 + 0) (d9 : x8 + (-4294967295) ≤ x11 ∧ x11 ≤ x8 + (-1)) (f3 : x25 = x24 + x11) (f4 : x24 = x14 * x8) (g5 : x8 = wide_0) (g7 : x20 = tall_0) (f11 : x12 = Int.tdiv (x5) (x8)) (f14 : x9 = Int.tmod (x5) (x8)) (f17 : RTQ (wide_0) (tall_0) (barredPoint_0) (costOf_0) (bucket_0) (bucketMany_0) (x3) (x2)) (kz_0_146 : (-3999999) ≤ wide_0 ∧ wide_0 ≤ 600000023) (kz_0_147 : (-3999999) ≤ tall_0 ∧ tall_0 ≤ 600000007) : (0 ≤ x25) ∧ ((x25 + 1) ≤ (wide_0 * tall_0)) := by
  first
    | (have g := gok_bd (show GRX wide_0 tall_0 from ‹RTQ _ _ _ _ _ _ _ _›.1); omega)
    | (have g0 : GRX wide_0 tall_0 := ‹RTQ _ _ _ _ _ _ _ _›.1
       have g := gok_bd g0
       have e8 : x8 = wide_0 := by assumption
       have e20 : x20 = tall_0 := by assumption
       have c := cell_ix (W := x8) (T := x20) (x := x11) (y := x14) (p := x25) (by omega) (by omega) (by omega) (by omega) (by omega) (by rw [‹x25 = x24 + x11›, ‹x24 = x14 * x8›])
       have g3 := g0.2.2
       rw [e8, e20] at c
       omega)
def o_Mo_backFrom_9 : or_T := (94, 29, [(0, (2, 0, 0, [165])), (1, (0, 0, 23999, [])), (2, (0, 0, 1000000, [])), (3, (0, 0, 5999, [])), (5, (0, 0, 5999, [])), (7, (0, 1, 1, [])), (8, (0, 1, 6000, [])), (9, (0, 0, 5999, [])), (10, (0, 0, 0, [])), (11, (0, 0, 5999, [])), (12, (0, 0, 5999, [])), (13, (0, 1, 1, [])), (14, (0, 0, 5998, [])), (16, (0, 1, 1, [])), (17, (0, 0, 5999, [])), (20, (0, 1, 6000, [])), (21, (0, 1, 1, [])), (22, (0, 0, 5999, [])), (24, (0, 0, 35988000, [])), (25, (0, 0, 5999, [])), (26, (2, 0, 0, [269])), (27, (0, 0, 0, []))], [(8, [27], [0]), (10, [27, 26, 25], []), (9, [26, 0], [143]), (1, [25, 24, 11], []), (3, [24, 14, 8], []), (9, [8, 0], [146]), (2, [22, 20, 21], []), (9, [20, 0], [147]), (2, [17, 8, 16], []), (2, [14, 12, 13], []), (20, [7, 13], [50, 0, 0, 3, 14, 2, 6, 1, 2, 1, 0, 0, 1, 1, 2, 1, 1, 0, 1, 3, 14, 2, 6, 1, 2, 1, 0, 0, 3, 1, 2, 1, 1, 0, -1, 2, 6, 7, 2, 1, 0, 0, 1, 2, 6, 7, 2, 1, 0, 0, 3, 1, 2, 1, 1, 0, 0]), (4, [12, 5, 8], []), (2, [11, 9, 10], []), (20, [7, 10], [50, 0, 0, 3, 14, 2, 6, 1, 2, 1, 0, 0, 0, 1, 2, 1, 1, 0, 1, 3, 14, 2, 6, 1, 2, 1, 0, 0, 2, 1, 2, 1, 1, 0, -1, 2, 6, 7, 2, 1, 0, 0, 0, 2, 6, 7, 2, 1, 0, 0, 2, 1, 2, 1, 1, 0, 0]), (5, [9, 5, 8], []), (12, [7, 1], [4]), (11, [5, 1], [4]), (20, [0, 3, 2], [60, 2, 4, 495, 146, 147, 143, 140, 141, 142]), (20, [0, 1, 2], [60, 0, 1, 497, 140]), (20, [1, 0], [50, 2, 0, 1146, 1147, 2, 6, 0, 2, 0, 0, 1, 0, 0, 6, 4, 2, 1, 0, 0, 1, 6, 2, 0, 4, 6, 3, 2, 1, 146, 2, 1, 147]), (20, [2], [50, 0, 0, 2, 6, 0, 2, 0, 0, 1, 0, 0, 2, 1, 0, 0, 999999])], [], [], [(20, [0, 1, 25], [60, 2, 1, 500, 146, 147, 143]), (20, [7, 1], [50, 0, 0, 1, 2, 1, 0, 9, 2, 1, 1, 0, 4]), (20, [25, 0], [50, 2, 0, 1146, 1147, 2, 6, 0, 2, 0, 0, 1, 0, 0, 6, 4, 2, 1, 0, 0, 1, 6, 3, 2, 1, 146, 2, 1, 147]), (24, [0, 0], []), (24, [1, 1], []), (24, [2, 2], [])], [], [(25, 11, 0, 35988000), (25, 9, 0, 35988000), (25, 24, 0, 5999), (14, 22, -4294967296, 0), (22, 20, -1, -1), (11, 17, -4294967296, 0), (17, 8, -1, -1), (14, 12, -1, -1), (11, 9, 0, 0), (11, 8, -4294967295, -1), (9, 8, -4294967295, -1)])
theorem oo_Mo_backFrom_9 {kA : Nat → ClassId} : or_ok PRD kA GG o_Mo_backFrom_9 := by
  refine or_mk fun A ta ws vs hD hth hl => ?_
  intro t0 r0 t1 k1 t2 k2 t3 k3 t5 k5 t7 k7 t8 k8 t9 k9 t10 k10 t11 k11 t12 k12 t13 k13 t14 k14 t16 k16 t17 k17 t20 k20 t21 k21 t22 k22 t24 k24 t25 k25 t26 r26 t27 k27 d0 d1 d2 d3 d4 d5 d6 d7 d8 d9 d10 f0 f1 f2 f3 f4 f5 f6 f7 f8 f9 f10 f11 f12 f13 f14 f15 f16 f17 f18 f19 f20
  replace f1 := shm_106 f1
  replace f2 := shm_1260 f2
  replace f5 := shm_1254 f5
  replace f7 := shm_1259 f7
  replace f11 := shm_34 f11
  have ad_26 : v_ad (n_v vs 26) = w_ar ws (n_v vs 0) 143 := congrArg v_ad f2
  simp only [ad_26] at f1
  have h1 : v_iv (n_v vs 27) = w_ei ws (w_ar ws (n_v vs 0) 143) (v_iv (n_v vs 25)) := f1
  have g5 : v_iv (n_v vs 8) = w_fi ws (n_v vs 0) 146 := congrArg v_iv f5
  have g7 : v_iv (n_v vs 20) = w_fi ws (n_v vs 0) 147 := congrArg v_iv f7
  have kz_0_146 := fdq_178 hD hth r0
  have kz_0_147 := fdq_179 hD hth r0
  have nf0 : fc_1 PRD (20, [0, 1, 25], [60, 2, 1, 500, 146, 147, 143]) ws (vs) := ⟨nf_in hl rfl, sgq_1374 (vc_Mo_backFrom_9_0 (v_iv (n_v vs 1)) (v_iv (n_v vs 2)) (v_iv (n_v vs 3)) (v_iv (n_v vs 5)) (v_iv (n_v vs 7)) (v_iv (n_v vs 8)) (v_iv (n_v vs 9)) (v_iv (n_v vs 11)) (v_iv (n_v vs 12)) (v_iv (n_v vs 14)) (v_iv (n_v vs 17)) (v_iv (n_v vs 20)) (v_iv (n_v vs 22)) (v_iv (n_v vs 24)) (v_iv (n_v vs 25)) (v_iv (n_v vs 27)) (w_ei ws (w_ar ws (n_v vs 0) 143)) (w_fi ws (n_v vs 0) 146) (w_fi ws (n_v vs 0) 147) (w_ei ws (w_ar ws (n_v vs 0) 140)) (w_ei ws (w_ar ws (n_v vs 0) 141)) (w_ei ws (w_ar ws (n_v vs 0) 142)) k1 k2 k3 k5 k7 k8 k9 k11 k12 k14 k17 k20 k22 k24 k25 k27 d2 d3 d4 d5 d6 d7 d8 d9 (shm_210 f0) h1 (shm_12 f3) (shm_38 f4) g5 g7 f11 (shm_462 f14) (shm_561 f15) (shm_1192 f16) (shm_691 f17) (shm_693 f18) (shm_1372 f19) (shm_1373 f20) kz_0_146 kz_0_147)⟩
  have nf1 : fc_1 PRD (20, [7, 1], [50, 0, 0, 1, 2, 1, 0, 9, 2, 1, 1, 0, 4]) ws (vs) := ⟨nf_in hl rfl, sgq_1375 (vc_Mo_backFrom_9_1 (v_iv (n_v vs 1)) (v_iv (n_v vs 7)) (v_iv (n_v vs 8)) (v_iv (n_v vs 11)) (v_iv (n_v vs 14)) (v_iv (n_v vs 20)) (v_iv (n_v vs 24)) (v_iv (n_v vs 25)) (w_fi ws (n_v vs 0) 146) (w_fi ws (n_v vs 0) 147) k1 k7 (shm_561 f15))⟩
  have nf2 : fc_1 PRD (20, [25, 0], [50, 2, 0, 1146, 1147, 2, 6, 0, 2, 0, 0, 1, 0, 0, 6, 4, 2, 1, 0, 0, 1, 6, 3, 2, 1, 146, 2, 1, 147]) ws (vs) := ⟨nf_in hl rfl, sgq_1256 (vc_Mo_backFrom_9_2 (v_iv (n_v vs 2)) (v_iv (n_v vs 3)) (v_iv (n_v vs 5)) (v_iv (n_v vs 8)) (v_iv (n_v vs 9)) (v_iv (n_v vs 11)) (v_iv (n_v vs 12)) (v_iv (n_v vs 14)) (v_iv (n_v vs 17)) (v_iv (n_v vs 20)) (v_iv (n_v vs 22)) (v_iv (n_v vs 24)) (v_iv (n_v vs 25)) (w_ei ws (w_ar ws (n_v vs 0) 143)) (w_fi ws (n_v vs 0) 146) (w_fi ws (n_v vs 0) 147) (w_ei ws (w_ar ws (n_v vs 0) 140)) (w_ei ws (w_ar ws (n_v vs 0) 141)) (w_ei ws (w_ar ws (n_v vs 0) 142)) k2 k3 k5 k8 k9 k11 k12 k14 k17 k20 k22 k24 k25 d2 d3 d4 d5 d6 d7 d8 d9 (shm_12 f3) (shm_38 f4) g5 g7 f11 (shm_462 f14) (shm_691 f17) kz_0_146 kz_0_147)⟩
  have nf3 : fc_1 PRD (24, [0, 0], []) ws (vs) := by
    refine ⟨nf_in hl rfl, sgq_1 ?_⟩
    · show n_v vs 0 = n_v vs 0
      first | rfl | simp only [true_and]
  have nf4 : fc_1 PRD (24, [1, 1], []) ws (vs) := by
    refine ⟨nf_in hl rfl, sgq_1 ?_⟩
    · show n_v vs 1 = n_v vs 1
      first | rfl | simp only [true_and]
  have nf5 : fc_1 PRD (24, [2, 2], []) ws (vs) := by
    refine ⟨nf_in hl rfl, sgq_1 ?_⟩
    · show n_v vs 2 = n_v vs 2
      first | rfl | simp only [true_and]
  refine ⟨(fun _ h => (by cases h)), [], trivial, ?_, (fun _ h => (by cases h))⟩
  rw [List.append_nil]
  exact List.forall_mem_cons.mpr ⟨⟨show (20 : Nat) < 100 from by decide, nf0⟩, List.forall_mem_cons.mpr ⟨⟨show (20 : Nat) < 100 from by decide, nf1⟩, List.forall_mem_cons.mpr ⟨⟨show (20 : Nat) < 100 from by decide, nf2⟩, List.forall_mem_cons.mpr ⟨⟨show (24 : Nat) < 100 from by decide, nf3⟩, List.forall_mem_cons.mpr ⟨⟨show (24 : Nat) < 100 from by decide, nf4⟩, List.forall_mem_cons.mpr ⟨⟨show (24 : Nat) < 100 from by decide, nf5⟩, (fun _ h => (by cases h))⟩⟩⟩⟩⟩⟩
set_option maxHeartbeats 4000000 in
theorem vc_Mo_backFrom_10_r0 (x2 : Int) (x3 : Int) (x8 : Int) (x11 : Int) (x14 : Int) (x20 : Int) (tall_0 : Int) (wide_0 : Int) (barredPoint_0 : Int → Int) (costOf_0 : Int → Int) (bucket_0 : Int → Int) (bucketMany_0 : Int → Int) (k2 : 0 ≤ x2 ∧ x2 ≤ 1000000) (k3 : 0 ≤ x3 ∧ x3 ≤ 5999) (k20 : (-3999999) ≤ x20 ∧ x20 ≤ 600000007) (g0 : x20 = tall_0) (f11 : RTQ (wide_0) (tall_0) (barredPoint_0) (costOf_0) (bucket_0) (bucketMany_0) (x3) (x2)) (kz_0_146 : (-3999999) ≤ wide_0 ∧ wide_0 ≤ 600000023) (kz_0_147 : (-3999999) ≤ tall_0 ∧ tall_0 ≤ 600000007) : 1 ≤ x20 ∧ x20 ≤ 6000 := by
  first
    | (have g := gok_bd (show GRX wide_0 tall_0 from ‹RTQ _ _ _ _ _ _ _ _›.1); omega)
def o_Mo_backFrom_10 : or_T := (60, 22, [(0, (2, 0, 0, [165])), (1, (0, 0, 23999, [])), (2, (0, 0, 1000000, [])), (3, (0, 0, 5999, [])), (5, (0, 0, 5999, [])), (7, (0, 2, 2, [])), (8, (0, 1, 6000, [])), (9, (0, 0, 5999, [])), (10, (0, -1, -1, [])), (11, (0, 1, 5999, [])), (12, (0, 0, 5999, [])), (13, (0, 0, 0, [])), (14, (0, 0, 5999, [])), (16, (0, 1, 1, [])), (17, (0, 1, 5999, [])), (20, (0, -3999999, 600000007, []))], [(9, [20, 0], [147]), (2, [17, 8, 16], []), (9, [8, 0], [146]), (2, [14, 12, 13], []), (20, [7, 13], [50, 0, 0, 3, 14, 2, 6, 1, 2, 1, 0, 0, 1, 1, 2, 1, 1, 0, 1, 3, 14, 2, 6, 1, 2, 1, 0, 0, 3, 1, 2, 1, 1, 0, -1, 2, 6, 7, 2, 1, 0, 0, 1, 2, 6, 7, 2, 1, 0, 0, 3, 1, 2, 1, 1, 0, 0]), (4, [12, 5, 8], []), (2, [11, 9, 10], []), (20, [7, 10], [50, 0, 0, 3, 14, 2, 6, 1, 2, 1, 0, 0, 0, 1, 2, 1, 1, 0, 1, 3, 14, 2, 6, 1, 2, 1, 0, 0, 2, 1, 2, 1, 1, 0, -1, 2, 6, 7, 2, 1, 0, 0, 0, 2, 6, 7, 2, 1, 0, 0, 2, 1, 2, 1, 1, 0, 0]), (5, [9, 5, 8], []), (12, [7, 1], [4]), (11, [5, 1], [4]), (20, [0, 3, 2], [60, 2, 4, 495, 146, 147, 143, 140, 141, 142]), (20, [0, 1, 2], [60, 0, 1, 497, 140]), (20, [1, 0], [50, 2, 0, 1146, 1147, 2, 6, 0, 2, 0, 0, 1, 0, 0, 6, 4, 2, 1, 0, 0, 1, 6, 2, 0, 4, 6, 3, 2, 1, 146, 2, 1, 147]), (20, [2], [50, 0, 0, 2, 6, 0, 2, 0, 0, 1, 0, 0, 2, 1, 0, 0, 999999])], [(20, (0, 1, 6000, []))], [], [], [], [(11, 17, -4294967296, 0), (17, 8, -1, -1), (14, 12, 0, 0), (11, 9, 1, 1), (11, 8, -4294967294, 0), (9, 8, -4294967295, -1)])
theorem oo_Mo_backFrom_10 {kA : Nat → ClassId} : or_ok PRD kA GG o_Mo_backFrom_10 := by
  refine or_mk fun A ta ws vs hD hth hl => ?_
  intro t0 r0 t1 k1 t2 k2 t3 k3 t5 k5 t7 k7 t8 k8 t9 k9 t10 k10 t11 k11 t12 k12 t13 k13 t14 k14 t16 k16 t17 k17 t20 k20 d0 d1 d2 d3 d4 d5 f0 f1 f2 f3 f4 f5 f6 f7 f8 f9 f10 f11 f12 f13 f14
  replace f0 := shm_1259 f0
  have g0 : v_iv (n_v vs 20) = w_fi ws (n_v vs 0) 147 := congrArg v_iv f0
  have kz_0_146 := fdq_178 hD hth r0
  have kz_0_147 := fdq_179 hD hth r0
  have hrf0 : 1 ≤ v_iv (n_v vs 20) ∧ v_iv (n_v vs 20) ≤ 6000 := vc_Mo_backFrom_10_r0 (v_iv (n_v vs 2)) (v_iv (n_v vs 3)) (v_iv (n_v vs 8)) (v_iv (n_v vs 11)) (v_iv (n_v vs 14)) (v_iv (n_v vs 20)) (w_fi ws (n_v vs 0) 147) (w_fi ws (n_v vs 0) 146) (w_ei ws (w_ar ws (n_v vs 0) 143)) (w_ei ws (w_ar ws (n_v vs 0) 140)) (w_ei ws (w_ar ws (n_v vs 0) 141)) (w_ei ws (w_ar ws (n_v vs 0) 142)) k2 k3 k20 g0 (shm_691 f11) kz_0_146 kz_0_147
  have rf20 : tv_ok ta (0, 1, 6000, []) (n_v vs 20) := tv_in t20 (by first | omega | grind) (by first | omega | grind)
  refine ⟨List.forall_mem_cons.mpr ⟨rf20, (fun _ h => (by cases h))⟩, [], trivial, ?_, (fun _ h => (by cases h))⟩
  rw [List.append_nil]
  exact (fun _ h => (by cases h))
set_option maxHeartbeats 4000000 in
theorem vc_Mo_backFrom_11_r0 (x1 : Int) (x2 : Int) (x3 : Int) (x5 : Int) (x7 : Int) (x8 : Int) (x9 : Int) (x11 : Int) (x12 : Int) (x14 : Int) (x17 : Int) (x20 : Int) (x22 : Int) (x24 : Int) (x25 : Int) (wide_0 : Int) (tall_0 : Int) (barredPoint_0 : Int → Int) (costOf_0 : Int → Int) (bucket_0 : Int → Int) (bucketMany_0 : Int → Int) (k1 : 0 ≤ x1 ∧ x1 ≤ 23999) (k2 : 0 ≤ x2 ∧ x2 ≤ 1000000) (k3 : 0 ≤ x3 ∧ x3 ≤ 5999) (k5 : 0 ≤ x5 ∧ x5 ≤ 5999) (k7 : 2 ≤ x7 ∧ x7 ≤ 2) (k8 : 1 ≤ x8 ∧ x8 ≤ 6000) (k9 : 0 ≤ x9 ∧ x9 ≤ 5999) (k11 : 1 ≤ x11 ∧ x11 ≤ 5999) (k12 : 0 ≤ x12 ∧ x12 ≤ 5999) (k14 : 0 ≤ x14 ∧ x14 ≤ 5999) (k17 : 1 ≤ x17 ∧ x17 ≤ 5999) (k20 : 1 ≤ x20 ∧ x20 ≤ 6000) (k22 : 0 ≤ x22 ∧ x22 ≤ 5999) (k24 : 0 ≤ x24 ∧ x24 ≤ 35994000) (k25 : 1 ≤ x25 ∧ x25 ≤ 35999999) (d4 : x24 + 1 ≤ x25 ∧ x25 ≤ x24 + 5999) (d5 : x22 + (-4294967296) ≤ x14 ∧ x14 ≤ x22 + 0) (d6 : x20 + (-1) ≤ x22 ∧ x22 ≤ x20 + (-1)) (d7 : x17 + (-4294967296) ≤ x11 ∧ x11 ≤ x17 + 0) (d8 : x8 + (-1) ≤ x17 ∧ x17 ≤ x8 + (-1)) (d9 : x12 + 0 ≤ x14 ∧ x14 ≤ x12 + 0) (d10 : x9 + 1 ≤ x11 ∧ x11 ≤ x9 + 1) (d11 : x8 + (-4294967294) ≤ x11 ∧ x11 ≤ x8 + 0) (f1 : x25 = x24 + x11) (f2 : x24 = x14 * x8) (g3 : x8 = wide_0) (g5 : x20 = tall_0) (f9 : x12 = Int.tdiv (x5) (x8)) (f12 : x9 = Int.tmod (x5) (x8)) (f13 : x7 = x1 % 4) (f14 : x5 = x1 / 4) (f15 : RTQ (wide_0) (tall_0) (barredPoint_0) (costOf_0) (bucket_0) (bucketMany_0) (x3) (x2)) (f17 : (0 ≤ x1) ∧ ((x1 + 1) ≤ (4 * (wide_0 * tall_0)))) (kz_0_146 : (-3999999) ≤ wide_0 ∧ wide_0 ≤ 600000023) (kz_0_147 : (-3999999) ≤ tall_0 ∧ tall_0 ≤ 600000007) : 1 ≤ x25 ∧ x25 ≤ 5999 := by
  first
    | (have g := gok_bd (show GRX wide_0 tall_0 from ‹RTQ _ _ _ _ _ _ _ _›.1); omega)
    | (have g0 : GRX wide_0 tall_0 := ‹RTQ _ _ _ _ _ _ _ _›.1
       have g := gok_bd g0
       have e8 : x8 = wide_0 := by assumption
       have e20 : x20 = tall_0 := by assumption
       have c := cell_ix (W := x8) (T := x20) (x := x11) (y := x14) (p := x25) (by omega) (by omega) (by omega) (by omega) (by omega) (by rw [‹x25 = x24 + x11›, ‹x24 = x14 * x8›])
       have g3 := g0.2.2
       rw [e8, e20] at c
       omega)
def o_Mo_backFrom_11 : or_T := (86, 27, [(0, (2, 0, 0, [165])), (1, (0, 0, 23999, [])), (2, (0, 0, 1000000, [])), (3, (0, 0, 5999, [])), (5, (0, 0, 5999, [])), (7, (0, 2, 2, [])), (8, (0, 1, 6000, [])), (9, (0, 0, 5999, [])), (10, (0, -1, -1, [])), (11, (0, 1, 5999, [])), (12, (0, 0, 5999, [])), (13, (0, 0, 0, [])), (14, (0, 0, 5999, [])), (16, (0, 1, 1, [])), (17, (0, 1, 5999, [])), (20, (0, 1, 6000, [])), (21, (0, 1, 1, [])), (22, (0, 0, 5999, [])), (24, (0, 0, 35994000, [])), (25, (0, 1, 35999999, [])), (26, (2, 0, 0, [269]))], [(9, [26, 0], [143]), (1, [25, 24, 11], []), (3, [24, 14, 8], []), (9, [8, 0], [146]), (2, [22, 20, 21], []), (9, [20, 0], [147]), (2, [17, 8, 16], []), (2, [14, 12, 13], []), (20, [7, 13], [50, 0, 0, 3, 14, 2, 6, 1, 2, 1, 0, 0, 1, 1, 2, 1, 1, 0, 1, 3, 14, 2, 6, 1, 2, 1, 0, 0, 3, 1, 2, 1, 1, 0, -1, 2, 6, 7, 2, 1, 0, 0, 1, 2, 6, 7, 2, 1, 0, 0, 3, 1, 2, 1, 1, 0, 0]), (4, [12, 5, 8], []), (2, [11, 9, 10], []), (20, [7, 10], [50, 0, 0, 3, 14, 2, 6, 1, 2, 1, 0, 0, 0, 1, 2, 1, 1, 0, 1, 3, 14, 2, 6, 1, 2, 1, 0, 0, 2, 1, 2, 1, 1, 0, -1, 2, 6, 7, 2, 1, 0, 0, 0, 2, 6, 7, 2, 1, 0, 0, 2, 1, 2, 1, 1, 0, 0]), (5, [9, 5, 8], []), (12, [7, 1], [4]), (11, [5, 1], [4]), (20, [0, 3, 2], [60, 2, 4, 495, 146, 147, 143, 140, 141, 142]), (20, [0, 1, 2], [60, 0, 1, 497, 140]), (20, [1, 0], [50, 2, 0, 1146, 1147, 2, 6, 0, 2, 0, 0, 1, 0, 0, 6, 4, 2, 1, 0, 0, 1, 6, 2, 0, 4, 6, 3, 2, 1, 146, 2, 1, 147]), (20, [2], [50, 0, 0, 2, 6, 0, 2, 0, 0, 1, 0, 0, 2, 1, 0, 0, 999999])], [(25, (0, 1, 5999, []))], [], [], [], [(25, 11, 0, 35994000), (25, 17, -4294967296, 35994000), (25, 9, 1, 35994001), (25, 8, -4294967294, 35994000), (25, 24, 1, 5999), (14, 22, -4294967296, 0), (22, 20, -1, -1), (11, 17, -4294967296, 0), (17, 8, -1, -1), (14, 12, 0, 0), (11, 9, 1, 1), (11, 8, -4294967294, 0), (9, 8, -4294967295, -1)])
theorem oo_Mo_backFrom_11 {kA : Nat → ClassId} : or_ok PRD kA GG o_Mo_backFrom_11 := by
  refine or_mk fun A ta ws vs hD hth hl => ?_
  intro t0 r0 t1 k1 t2 k2 t3 k3 t5 k5 t7 k7 t8 k8 t9 k9 t10 k10 t11 k11 t12 k12 t13 k13 t14 k14 t16 k16 t17 k17 t20 k20 t21 k21 t22 k22 t24 k24 t25 k25 t26 r26 d0 d1 d2 d3 d4 d5 d6 d7 d8 d9 d10 d11 d12 f0 f1 f2 f3 f4 f5 f6 f7 f8 f9 f10 f11 f12 f13 f14 f15 f16 f17 f18
  replace f3 := shm_1254 f3
  replace f5 := shm_1259 f5
  replace f9 := shm_34 f9
  have g3 : v_iv (n_v vs 8) = w_fi ws (n_v vs 0) 146 := congrArg v_iv f3
  have g5 : v_iv (n_v vs 20) = w_fi ws (n_v vs 0) 147 := congrArg v_iv f5
  have kz_0_146 := fdq_178 hD hth r0
  have kz_0_147 := fdq_179 hD hth r0
  have hrf0 : 1 ≤ v_iv (n_v vs 25) ∧ v_iv (n_v vs 25) ≤ 5999 := vc_Mo_backFrom_11_r0 (v_iv (n_v vs 1)) (v_iv (n_v vs 2)) (v_iv (n_v vs 3)) (v_iv (n_v vs 5)) (v_iv (n_v vs 7)) (v_iv (n_v vs 8)) (v_iv (n_v vs 9)) (v_iv (n_v vs 11)) (v_iv (n_v vs 12)) (v_iv (n_v vs 14)) (v_iv (n_v vs 17)) (v_iv (n_v vs 20)) (v_iv (n_v vs 22)) (v_iv (n_v vs 24)) (v_iv (n_v vs 25)) (w_fi ws (n_v vs 0) 146) (w_fi ws (n_v vs 0) 147) (w_ei ws (w_ar ws (n_v vs 0) 143)) (w_ei ws (w_ar ws (n_v vs 0) 140)) (w_ei ws (w_ar ws (n_v vs 0) 141)) (w_ei ws (w_ar ws (n_v vs 0) 142)) k1 k2 k3 k5 k7 k8 k9 k11 k12 k14 k17 k20 k22 k24 k25 d4 d5 d6 d7 d8 d9 d10 d11 (shm_12 f1) (shm_38 f2) g3 g5 f9 (shm_462 f12) (shm_561 f13) (shm_1192 f14) (shm_691 f15) (shm_1372 f17) kz_0_146 kz_0_147
  have rf25 : tv_ok ta (0, 1, 5999, []) (n_v vs 25) := tv_in t25 (by first | omega | grind) (by first | omega | grind)
  refine ⟨List.forall_mem_cons.mpr ⟨rf25, (fun _ h => (by cases h))⟩, [], trivial, ?_, (fun _ h => (by cases h))⟩
  rw [List.append_nil]
  exact (fun _ h => (by cases h))
set_option maxHeartbeats 4000000 in
theorem vc_Mo_backFrom_12_0 (x1 : Int) (x2 : Int) (x3 : Int) (x5 : Int) (x7 : Int) (x8 : Int) (x9 : Int) (x11 : Int) (x12 : Int) (x14 : Int) (x17 : Int) (x20 : Int) (x22 : Int) (x24 : Int) (x25 : Int) (x27 : Int) (barredPoint_0 : Int → Int) (wide_0 : Int) (tall_0 : Int) (costOf_0 : Int → Int) (bucket_0 : Int → Int) (bucketMany_0 : Int → Int) (k1 : 0 ≤ x1 ∧ x1 ≤ 23999) (k2 : 0 ≤ x2 ∧ x2 ≤ 1000000) (k3 : 0 ≤ x3 ∧ x3 ≤ 5999) (k5 : 0 ≤ x5 ∧ x5 ≤ 5999) (k7 : 2 ≤ x7 ∧ x7 ≤ 2) (k8 : 1 ≤ x8 ∧ x8 ≤ 6000) (k9 : 0 ≤ x9 ∧ x9 ≤ 5999) (k11 : 1 ≤ x11 ∧ x11 ≤ 5999) (k12 : 0 ≤ x12 ∧ x12 ≤ 5999) (k14 : 0 ≤ x14 ∧ x14 ≤ 5999) (k17 : 1 ≤ x17 ∧ x17 ≤ 5999) (k20 : 1 ≤ x20 ∧ x20 ≤ 6000) (k22 : 0 ≤ x22 ∧ x22 ≤ 5999) (k24 : 0 ≤ x24 ∧ x24 ≤ 35994000) (k25 : 1 ≤ x25 ∧ x25 ≤ 5999) (k27 : 0 ≤ x27 ∧ x27 ≤ 0) (d2 : x24 + 1 ≤ x25 ∧ x25 ≤ x24 + 5999) (d3 : x22 + (-4294967296) ≤ x14 ∧ x14 ≤ x22 + 0) (d4 : x20 + (-1) ≤ x22 ∧ x22 ≤ x20 + (-1)) (d5 : x17 + (-4294967296) ≤ x11 ∧ x11 ≤ x17 + 0) (d6 : x8 + (-1) ≤ x17 ∧ x17 ≤ x8 + (-1)) (d7 : x12 + 0 ≤ x14 ∧ x14 ≤ x12 + 0) (d8 : x9 + 1 ≤ x11 ∧ x11 ≤ x9 + 1) (d9 : x8 + (-4294967294) ≤ x11 ∧ x11 ≤ x8 + 0) (f0 : x27 = 0) (h1 : x27 = barredPoint_0 (x25)) (f3 : x25 = x24 + x11) (f4 : x24 = x14 * x8) (g5 : x8 = wide_0) (g7 : x20 = tall_0) (f11 : x12 = Int.tdiv (x5) (x8)) (f14 : x9 = Int.tmod (x5) (x8)) (f15 : x7 = x1 % 4) (f16 : x5 = x1 / 4) (f17 : RTQ (wide_0) (tall_0) (barredPoint_0) (costOf_0) (bucket_0) (bucketMany_0) (x3) (x2)) (f18 : PIV (costOf_0) (x1) (x2)) (f19 : (0 ≤ x1) ∧ ((x1 + 1) ≤ (4 * (wide_0 * tall_0)))) (f20 : (0 ≤ x2) ∧ (x2 ≤ 999999)) (kz_0_146 : (-3999999) ≤ wide_0 ∧ wide_0 ≤ 600000023) (kz_0_147 : (-3999999) ≤ tall_0 ∧ tall_0 ≤ 600000007) : BFP (wide_0) (tall_0) (barredPoint_0) (x1) (x25) := by
  first
    | (have g0 : GRX wide_0 tall_0 := ‹RTQ _ _ _ _ _ _ _ _›.1
       have g := gok_bd g0
       have e8 : x8 = wide_0 := by assumption
       have e20 : x20 = tall_0 := by assumption
       have tm : x9 = x5 % wide_0 := by rw [← e8, ‹x9 = Int.tmod x5 x8›]; exact Int.tmod_eq_emod_of_nonneg (by omega)
       have td : x12 = x5 / wide_0 := by rw [← e8, ‹x12 = Int.tdiv x5 x8›]; exact Int.tdiv_eq_ediv_of_nonneg (by omega)
       have hx : x11 = x5 % wide_0 - dxf x7 := by rw [← tm]; unfold dxf; split; omega; split <;> omega
       have hy : x14 = x5 / wide_0 - dyf x7 := by rw [← td]; unfold dyf; split; omega; split <;> omega
       have n := nb_back (T := tall_0) (q := x5) (d := x7) (x := x11) (y := x14) (p := x25) (by omega) (by omega) (by omega) hx hy (by omega) (by omega) (by omega) (by omega) (by rw [← e8, ‹x25 = x24 + x11›, ‹x24 = x14 * x8›])
       have b := rtq_bar ‹RTQ _ _ _ _ _ _ _ _› ‹PIV _ _ _› (by omega) (by omega)
       exact ⟨⟨by omega, by omega⟩, by rw [show x1 % 4 = x7 by omega, show x1 / 4 = x5 by omega]; exact n.1, n.2, by rw [← ‹x27 = barredPoint_0 x25›]; omega, b⟩)
set_option maxHeartbeats 4000000 in
theorem vc_Mo_backFrom_12_1 (x1 : Int) (x7 : Int) (x8 : Int) (x11 : Int) (x14 : Int) (x20 : Int) (x24 : Int) (x25 : Int) (wide_0 : Int) (tall_0 : Int) (k1 : 0 ≤ x1 ∧ x1 ≤ 23999) (k7 : 2 ≤ x7 ∧ x7 ≤ 2) (f15 : x7 = x1 % 4) : x7 = (x1 % 4) := by
  first
    | omega
    | (have h := ‹BFP _ _ _ _ _›.2.2.1; omega)
set_option maxHeartbeats 4000000 in
theorem vc_Mo_backFrom_12_2 (x2 : Int) (x3 : Int) (x5 : Int) (x8 : Int) (x9 : Int) (x11 : Int) (x12 : Int) (x14 : Int) (x17 : Int) (x20 : Int) (x22 : Int) (x24 : Int) (x25 : Int) (barredPoint_0 : Int → Int) (wide_0 : Int) (tall_0 : Int) (costOf_0 : Int → Int) (bucket_0 : Int → Int) (bucketMany_0 : Int → Int) (k2 : 0 ≤ x2 ∧ x2 ≤ 1000000) (k3 : 0 ≤ x3 ∧ x3 ≤ 5999) (k5 : 0 ≤ x5 ∧ x5 ≤ 5999) (k8 : 1 ≤ x8 ∧ x8 ≤ 6000) (k9 : 0 ≤ x9 ∧ x9 ≤ 5999) (k11 : 1 ≤ x11 ∧ x11 ≤ 5999) (k12 : 0 ≤ x12 ∧ x12 ≤ 5999) (k14 : 0 ≤ x14 ∧ x14 ≤ 5999) (k17 : 1 ≤ x17 ∧ x17 ≤ 5999) (k20 : 1 ≤ x20 ∧ x20 ≤ 6000) (k22 : 0 ≤ x22 ∧ x22 ≤ 5999) (k24 : 0 ≤ x24 ∧ x24 ≤ 35994000) (k25 : 1 ≤ x25 ∧ x25 ≤ 5999) (d2 : x24 + 1 ≤ x25 ∧ x25 ≤ x24 + 5999) (d3 : x22 + (-4294967296) ≤ x14 ∧ x14 ≤ x22 + 0) (d4 : x20 + (-1) ≤ x22 ∧ x22 ≤ x20 + (-1)) (d5 : x17 + (-4294967296) ≤ x11 ∧ x11 ≤ x17 + 0) (d6 : x8 + (-1) ≤ x17 ∧ x17 ≤ x8 + (-1)) (d7 : x12 + 0 ≤ x14 ∧ x14 ≤ x12 + 0) (d8 : x9 + 1 ≤ x11 ∧ x11 ≤ x9 + 1) (d9 : x8 + (-4294967294) ≤ x11 ∧ x11 ≤ x8 + 0) (f3 : x25 = x24 + x11) (f4 : x24 = x14 * x8) (g5 : x8 = wide_0) (g7 : x20 = tall_0) (f11 : x12 = Int.tdiv (x5) (x8)) (f14 : x9 = Int.tmod (x5) (x8)) (f17 : RTQ (wide_0) (tall_0) (barredPoint_0) (costOf_0) (bucket_0) (bucketMany_0) (x3) (x2)) (kz_0_146 : (-3999999) ≤ wide_0 ∧ wide_0 ≤ 600000023) (kz_0_147 : (-3999999) ≤ tall_0 ∧ tall_0 ≤ 600000007) : (0 ≤ x25) ∧ ((x25 + 1) ≤ (wide_0 * tall_0)) := by
  first
    | (have g := gok_bd (show GRX wide_0 tall_0 from ‹RTQ _ _ _ _ _ _ _ _›.1); omega)
    | (have g0 : GRX wide_0 tall_0 := ‹RTQ _ _ _ _ _ _ _ _›.1
       have g := gok_bd g0
       have e8 : x8 = wide_0 := by assumption
       have e20 : x20 = tall_0 := by assumption
       have c := cell_ix (W := x8) (T := x20) (x := x11) (y := x14) (p := x25) (by omega) (by omega) (by omega) (by omega) (by omega) (by rw [‹x25 = x24 + x11›, ‹x24 = x14 * x8›])
       have g3 := g0.2.2
       rw [e8, e20] at c
       omega)
def o_Mo_backFrom_12 : or_T := (94, 29, [(0, (2, 0, 0, [165])), (1, (0, 0, 23999, [])), (2, (0, 0, 1000000, [])), (3, (0, 0, 5999, [])), (5, (0, 0, 5999, [])), (7, (0, 2, 2, [])), (8, (0, 1, 6000, [])), (9, (0, 0, 5999, [])), (10, (0, -1, -1, [])), (11, (0, 1, 5999, [])), (12, (0, 0, 5999, [])), (13, (0, 0, 0, [])), (14, (0, 0, 5999, [])), (16, (0, 1, 1, [])), (17, (0, 1, 5999, [])), (20, (0, 1, 6000, [])), (21, (0, 1, 1, [])), (22, (0, 0, 5999, [])), (24, (0, 0, 35994000, [])), (25, (0, 1, 5999, [])), (26, (2, 0, 0, [269])), (27, (0, 0, 0, []))], [(8, [27], [0]), (10, [27, 26, 25], []), (9, [26, 0], [143]), (1, [25, 24, 11], []), (3, [24, 14, 8], []), (9, [8, 0], [146]), (2, [22, 20, 21], []), (9, [20, 0], [147]), (2, [17, 8, 16], []), (2, [14, 12, 13], []), (20, [7, 13], [50, 0, 0, 3, 14, 2, 6, 1, 2, 1, 0, 0, 1, 1, 2, 1, 1, 0, 1, 3, 14, 2, 6, 1, 2, 1, 0, 0, 3, 1, 2, 1, 1, 0, -1, 2, 6, 7, 2, 1, 0, 0, 1, 2, 6, 7, 2, 1, 0, 0, 3, 1, 2, 1, 1, 0, 0]), (4, [12, 5, 8], []), (2, [11, 9, 10], []), (20, [7, 10], [50, 0, 0, 3, 14, 2, 6, 1, 2, 1, 0, 0, 0, 1, 2, 1, 1, 0, 1, 3, 14, 2, 6, 1, 2, 1, 0, 0, 2, 1, 2, 1, 1, 0, -1, 2, 6, 7, 2, 1, 0, 0, 0, 2, 6, 7, 2, 1, 0, 0, 2, 1, 2, 1, 1, 0, 0]), (5, [9, 5, 8], []), (12, [7, 1], [4]), (11, [5, 1], [4]), (20, [0, 3, 2], [60, 2, 4, 495, 146, 147, 143, 140, 141, 142]), (20, [0, 1, 2], [60, 0, 1, 497, 140]), (20, [1, 0], [50, 2, 0, 1146, 1147, 2, 6, 0, 2, 0, 0, 1, 0, 0, 6, 4, 2, 1, 0, 0, 1, 6, 2, 0, 4, 6, 3, 2, 1, 146, 2, 1, 147]), (20, [2], [50, 0, 0, 2, 6, 0, 2, 0, 0, 1, 0, 0, 2, 1, 0, 0, 999999])], [], [], [(20, [0, 1, 25], [60, 2, 1, 500, 146, 147, 143]), (20, [7, 1], [50, 0, 0, 1, 2, 1, 0, 9, 2, 1, 1, 0, 4]), (20, [25, 0], [50, 2, 0, 1146, 1147, 2, 6, 0, 2, 0, 0, 1, 0, 0, 6, 4, 2, 1, 0, 0, 1, 6, 3, 2, 1, 146, 2, 1, 147]), (24, [0, 0], []), (24, [1, 1], []), (24, [2, 2], [])], [], [(25, 11, 0, 35994000), (25, 9, 1, 35994001), (25, 24, 1, 5999), (14, 22, -4294967296, 0), (22, 20, -1, -1), (11, 17, -4294967296, 0), (17, 8, -1, -1), (14, 12, 0, 0), (11, 9, 1, 1), (11, 8, -4294967294, 0), (9, 8, -4294967295, -1)])
theorem oo_Mo_backFrom_12 {kA : Nat → ClassId} : or_ok PRD kA GG o_Mo_backFrom_12 := by
  refine or_mk fun A ta ws vs hD hth hl => ?_
  intro t0 r0 t1 k1 t2 k2 t3 k3 t5 k5 t7 k7 t8 k8 t9 k9 t10 k10 t11 k11 t12 k12 t13 k13 t14 k14 t16 k16 t17 k17 t20 k20 t21 k21 t22 k22 t24 k24 t25 k25 t26 r26 t27 k27 d0 d1 d2 d3 d4 d5 d6 d7 d8 d9 d10 f0 f1 f2 f3 f4 f5 f6 f7 f8 f9 f10 f11 f12 f13 f14 f15 f16 f17 f18 f19 f20
  replace f1 := shm_106 f1
  replace f2 := shm_1260 f2
  replace f5 := shm_1254 f5
  replace f7 := shm_1259 f7
  replace f11 := shm_34 f11
  have ad_26 : v_ad (n_v vs 26) = w_ar ws (n_v vs 0) 143 := congrArg v_ad f2
  simp only [ad_26] at f1
  have h1 : v_iv (n_v vs 27) = w_ei ws (w_ar ws (n_v vs 0) 143) (v_iv (n_v vs 25)) := f1
  have g5 : v_iv (n_v vs 8) = w_fi ws (n_v vs 0) 146 := congrArg v_iv f5
  have g7 : v_iv (n_v vs 20) = w_fi ws (n_v vs 0) 147 := congrArg v_iv f7
  have kz_0_146 := fdq_178 hD hth r0
  have kz_0_147 := fdq_179 hD hth r0
  have nf0 : fc_1 PRD (20, [0, 1, 25], [60, 2, 1, 500, 146, 147, 143]) ws (vs) := ⟨nf_in hl rfl, sgq_1374 (vc_Mo_backFrom_12_0 (v_iv (n_v vs 1)) (v_iv (n_v vs 2)) (v_iv (n_v vs 3)) (v_iv (n_v vs 5)) (v_iv (n_v vs 7)) (v_iv (n_v vs 8)) (v_iv (n_v vs 9)) (v_iv (n_v vs 11)) (v_iv (n_v vs 12)) (v_iv (n_v vs 14)) (v_iv (n_v vs 17)) (v_iv (n_v vs 20)) (v_iv (n_v vs 22)) (v_iv (n_v vs 24)) (v_iv (n_v vs 25)) (v_iv (n_v vs 27)) (w_ei ws (w_ar ws (n_v vs 0) 143)) (w_fi ws (n_v vs 0) 146) (w_fi ws (n_v vs 0) 147) (w_ei ws (w_ar ws (n_v vs 0) 140)) (w_ei ws (w_ar ws (n_v vs 0) 141)) (w_ei ws (w_ar ws (n_v vs 0) 142)) k1 k2 k3 k5 k7 k8 k9 k11 k12 k14 k17 k20 k22 k24 k25 k27 d2 d3 d4 d5 d6 d7 d8 d9 (shm_210 f0) h1 (shm_12 f3) (shm_38 f4) g5 g7 f11 (shm_462 f14) (shm_561 f15) (shm_1192 f16) (shm_691 f17) (shm_693 f18) (shm_1372 f19) (shm_1373 f20) kz_0_146 kz_0_147)⟩
  have nf1 : fc_1 PRD (20, [7, 1], [50, 0, 0, 1, 2, 1, 0, 9, 2, 1, 1, 0, 4]) ws (vs) := ⟨nf_in hl rfl, sgq_1375 (vc_Mo_backFrom_12_1 (v_iv (n_v vs 1)) (v_iv (n_v vs 7)) (v_iv (n_v vs 8)) (v_iv (n_v vs 11)) (v_iv (n_v vs 14)) (v_iv (n_v vs 20)) (v_iv (n_v vs 24)) (v_iv (n_v vs 25)) (w_fi ws (n_v vs 0) 146) (w_fi ws (n_v vs 0) 147) k1 k7 (shm_561 f15))⟩
  have nf2 : fc_1 PRD (20, [25, 0], [50, 2, 0, 1146, 1147, 2, 6, 0, 2, 0, 0, 1, 0, 0, 6, 4, 2, 1, 0, 0, 1, 6, 3, 2, 1, 146, 2, 1, 147]) ws (vs) := ⟨nf_in hl rfl, sgq_1256 (vc_Mo_backFrom_12_2 (v_iv (n_v vs 2)) (v_iv (n_v vs 3)) (v_iv (n_v vs 5)) (v_iv (n_v vs 8)) (v_iv (n_v vs 9)) (v_iv (n_v vs 11)) (v_iv (n_v vs 12)) (v_iv (n_v vs 14)) (v_iv (n_v vs 17)) (v_iv (n_v vs 20)) (v_iv (n_v vs 22)) (v_iv (n_v vs 24)) (v_iv (n_v vs 25)) (w_ei ws (w_ar ws (n_v vs 0) 143)) (w_fi ws (n_v vs 0) 146) (w_fi ws (n_v vs 0) 147) (w_ei ws (w_ar ws (n_v vs 0) 140)) (w_ei ws (w_ar ws (n_v vs 0) 141)) (w_ei ws (w_ar ws (n_v vs 0) 142)) k2 k3 k5 k8 k9 k11 k12 k14 k17 k20 k22 k24 k25 d2 d3 d4 d5 d6 d7 d8 d9 (shm_12 f3) (shm_38 f4) g5 g7 f11 (shm_462 f14) (shm_691 f17) kz_0_146 kz_0_147)⟩
  have nf3 : fc_1 PRD (24, [0, 0], []) ws (vs) := by
    refine ⟨nf_in hl rfl, sgq_1 ?_⟩
    · show n_v vs 0 = n_v vs 0
      first | rfl | simp only [true_and]
  have nf4 : fc_1 PRD (24, [1, 1], []) ws (vs) := by
    refine ⟨nf_in hl rfl, sgq_1 ?_⟩
    · show n_v vs 1 = n_v vs 1
      first | rfl | simp only [true_and]
  have nf5 : fc_1 PRD (24, [2, 2], []) ws (vs) := by
    refine ⟨nf_in hl rfl, sgq_1 ?_⟩
    · show n_v vs 2 = n_v vs 2
      first | rfl | simp only [true_and]
  refine ⟨(fun _ h => (by cases h)), [], trivial, ?_, (fun _ h => (by cases h))⟩
  rw [List.append_nil]
  exact List.forall_mem_cons.mpr ⟨⟨show (20 : Nat) < 100 from by decide, nf0⟩, List.forall_mem_cons.mpr ⟨⟨show (20 : Nat) < 100 from by decide, nf1⟩, List.forall_mem_cons.mpr ⟨⟨show (20 : Nat) < 100 from by decide, nf2⟩, List.forall_mem_cons.mpr ⟨⟨show (24 : Nat) < 100 from by decide, nf3⟩, List.forall_mem_cons.mpr ⟨⟨show (24 : Nat) < 100 from by decide, nf4⟩, List.forall_mem_cons.mpr ⟨⟨show (24 : Nat) < 100 from by decide, nf5⟩, (fun _ h => (by cases h))⟩⟩⟩⟩⟩⟩
set_option maxHeartbeats 4000000 in
theorem vc_Mo_backFrom_13_r0 (x2 : Int) (x3 : Int) (x8 : Int) (x11 : Int) (x14 : Int) (x20 : Int) (tall_0 : Int) (wide_0 : Int) (barredPoint_0 : Int → Int) (costOf_0 : Int → Int) (bucket_0 : Int → Int) (bucketMany_0 : Int → Int) (k2 : 0 ≤ x2 ∧ x2 ≤ 1000000) (k3 : 0 ≤ x3 ∧ x3 ≤ 5999) (k20 : (-3999999) ≤ x20 ∧ x20 ≤ 600000007) (g0 : x20 = tall_0) (f11 : RTQ (wide_0) (tall_0) (barredPoint_0) (costOf_0) (bucket_0) (bucketMany_0) (x3) (x2)) (kz_0_146 : (-3999999) ≤ wide_0 ∧ wide_0 ≤ 600000023) (kz_0_147 : (-3999999) ≤ tall_0 ∧ tall_0 ≤ 600000007) : 1 ≤ x20 ∧ x20 ≤ 6000 := by
  first
    | (have g := gok_bd (show GRX wide_0 tall_0 from ‹RTQ _ _ _ _ _ _ _ _›.1); omega)
def o_Mo_backFrom_13 : or_T := (60, 22, [(0, (2, 0, 0, [165])), (1, (0, 0, 23999, [])), (2, (0, 0, 1000000, [])), (3, (0, 0, 5999, [])), (5, (0, 0, 5999, [])), (7, (0, 0, 0, [])), (8, (0, 1, 6000, [])), (9, (0, 0, 5999, [])), (10, (0, 1, 1, [])), (11, (0, 0, 5998, [])), (12, (0, 0, 5999, [])), (13, (0, 0, 0, [])), (14, (0, 0, 5999, [])), (16, (0, 1, 1, [])), (17, (0, 0, 5999, [])), (20, (0, -3999999, 600000007, []))], [(9, [20, 0], [147]), (2, [17, 8, 16], []), (9, [8, 0], [146]), (2, [14, 12, 13], []), (20, [7, 13], [50, 0, 0, 3, 14, 2, 6, 1, 2, 1, 0, 0, 1, 1, 2, 1, 1, 0, 1, 3, 14, 2, 6, 1, 2, 1, 0, 0, 3, 1, 2, 1, 1, 0, -1, 2, 6, 7, 2, 1, 0, 0, 1, 2, 6, 7, 2, 1, 0, 0, 3, 1, 2, 1, 1, 0, 0]), (4, [12, 5, 8], []), (2, [11, 9, 10], []), (20, [7, 10], [50, 0, 0, 3, 14, 2, 6, 1, 2, 1, 0, 0, 0, 1, 2, 1, 1, 0, 1, 3, 14, 2, 6, 1, 2, 1, 0, 0, 2, 1, 2, 1, 1, 0, -1, 2, 6, 7, 2, 1, 0, 0, 0, 2, 6, 7, 2, 1, 0, 0, 2, 1, 2, 1, 1, 0, 0]), (5, [9, 5, 8], []), (12, [7, 1], [4]), (11, [5, 1], [4]), (20, [0, 3, 2], [60, 2, 4, 495, 146, 147, 143, 140, 141, 142]), (20, [0, 1, 2], [60, 0, 1, 497, 140]), (20, [1, 0], [50, 2, 0, 1146, 1147, 2, 6, 0, 2, 0, 0, 1, 0, 0, 6, 4, 2, 1, 0, 0, 1, 6, 2, 0, 4, 6, 3, 2, 1, 146, 2, 1, 147]), (20, [2], [50, 0, 0, 2, 6, 0, 2, 0, 0, 1, 0, 0, 2, 1, 0, 0, 999999])], [(20, (0, 1, 6000, []))], [], [], [], [(11, 17, -4294967296, 0), (17, 8, -1, -1), (14, 12, 0, 0), (11, 9, -1, -1), (11, 8, -4294967296, -2), (9, 8, -4294967295, -1)])
theorem oo_Mo_backFrom_13 {kA : Nat → ClassId} : or_ok PRD kA GG o_Mo_backFrom_13 := by
  refine or_mk fun A ta ws vs hD hth hl => ?_
  intro t0 r0 t1 k1 t2 k2 t3 k3 t5 k5 t7 k7 t8 k8 t9 k9 t10 k10 t11 k11 t12 k12 t13 k13 t14 k14 t16 k16 t17 k17 t20 k20 d0 d1 d2 d3 d4 d5 f0 f1 f2 f3 f4 f5 f6 f7 f8 f9 f10 f11 f12 f13 f14
  replace f0 := shm_1259 f0
  have g0 : v_iv (n_v vs 20) = w_fi ws (n_v vs 0) 147 := congrArg v_iv f0
  have kz_0_146 := fdq_178 hD hth r0
  have kz_0_147 := fdq_179 hD hth r0
  have hrf0 : 1 ≤ v_iv (n_v vs 20) ∧ v_iv (n_v vs 20) ≤ 6000 := vc_Mo_backFrom_13_r0 (v_iv (n_v vs 2)) (v_iv (n_v vs 3)) (v_iv (n_v vs 8)) (v_iv (n_v vs 11)) (v_iv (n_v vs 14)) (v_iv (n_v vs 20)) (w_fi ws (n_v vs 0) 147) (w_fi ws (n_v vs 0) 146) (w_ei ws (w_ar ws (n_v vs 0) 143)) (w_ei ws (w_ar ws (n_v vs 0) 140)) (w_ei ws (w_ar ws (n_v vs 0) 141)) (w_ei ws (w_ar ws (n_v vs 0) 142)) k2 k3 k20 g0 (shm_691 f11) kz_0_146 kz_0_147
  have rf20 : tv_ok ta (0, 1, 6000, []) (n_v vs 20) := tv_in t20 (by first | omega | grind) (by first | omega | grind)
  refine ⟨List.forall_mem_cons.mpr ⟨rf20, (fun _ h => (by cases h))⟩, [], trivial, ?_, (fun _ h => (by cases h))⟩
  rw [List.append_nil]
  exact (fun _ h => (by cases h))
set_option maxHeartbeats 4000000 in
theorem vc_Mo_backFrom_14_r0 (x1 : Int) (x2 : Int) (x3 : Int) (x5 : Int) (x7 : Int) (x8 : Int) (x9 : Int) (x11 : Int) (x12 : Int) (x14 : Int) (x17 : Int) (x20 : Int) (x22 : Int) (x24 : Int) (x25 : Int) (wide_0 : Int) (tall_0 : Int) (barredPoint_0 : Int → Int) (costOf_0 : Int → Int) (bucket_0 : Int → Int) (bucketMany_0 : Int → Int) (k1 : 0 ≤ x1 ∧ x1 ≤ 23999) (k2 : 0 ≤ x2 ∧ x2 ≤ 1000000) (k3 : 0 ≤ x3 ∧ x3 ≤ 5999) (k5 : 0 ≤ x5 ∧ x5 ≤ 5999) (k7 : 0 ≤ x7 ∧ x7 ≤ 0) (k8 : 1 ≤ x8 ∧ x8 ≤ 6000) (k9 : 0 ≤ x9 ∧ x9 ≤ 5999) (k11 : 0 ≤ x11 ∧ x11 ≤ 5998) (k12 : 0 ≤ x12 ∧ x12 ≤ 5999) (k14 : 0 ≤ x14 ∧ x14 ≤ 5999) (k17 : 0 ≤ x17 ∧ x17 ≤ 5999) (k20 : 1 ≤ x20 ∧ x20 ≤ 6000) (k22 : 0 ≤ x22 ∧ x22 ≤ 5999) (k24 : 0 ≤ x24 ∧ x24 ≤ 35994000) (k25 : 0 ≤ x25 ∧ x25 ≤ 35999998) (d4 : x24 + 0 ≤ x25 ∧ x25 ≤ x24 + 5998) (d5 : x22 + (-4294967296) ≤ x14 ∧ x14 ≤ x22 + 0) (d6 : x20 + (-1) ≤ x22 ∧ x22 ≤ x20 + (-1)) (d7 : x17 + (-4294967296) ≤ x11 ∧ x11 ≤ x17 + 0) (d8 : x8 + (-1) ≤ x17 ∧ x17 ≤ x8 + (-1)) (d9 : x12 + 0 ≤ x14 ∧ x14 ≤ x12 + 0) (d10 : x9 + (-1) ≤ x11 ∧ x11 ≤ x9 + (-1)) (d11 : x8 + (-4294967296) ≤ x11 ∧ x11 ≤ x8 + (-2)) (f1 : x25 = x24 + x11) (f2 : x24 = x14 * x8) (g3 : x8 = wide_0) (g5 : x20 = tall_0) (f9 : x12 = Int.tdiv (x5) (x8)) (f12 : x9 = Int.tmod (x5) (x8)) (f13 : x7 = x1 % 4) (f14 : x5 = x1 / 4) (f15 : RTQ (wide_0) (tall_0) (barredPoint_0) (costOf_0) (bucket_0) (bucketMany_0) (x3) (x2)) (f17 : (0 ≤ x1) ∧ ((x1 + 1) ≤ (4 * (wide_0 * tall_0)))) (kz_0_146 : (-3999999) ≤ wide_0 ∧ wide_0 ≤ 600000023) (kz_0_147 : (-3999999) ≤ tall_0 ∧ tall_0 ≤ 600000007) : 0 ≤ x25 ∧ x25 ≤ 5999 := by
  first
    | (have g := gok_bd (show GRX wide_0 tall_0 from ‹RTQ _ _ _ _ _ _ _ _›.1); omega)
    | (have g0 : GRX wide_0 tall_0 := ‹RTQ _ _ _ _ _ _ _ _›.1
       have g := gok_bd g0
       have e8 : x8 = wide_0 := by assumption
       have e20 : x20 = tall_0 := by assumption
       have c := cell_ix (W := x8) (T := x20) (x := x11) (y := x14) (p := x25) (by omega) (by omega) (by omega) (by omega) (by omega) (by rw [‹x25 = x24 + x11›, ‹x24 = x14 * x8›])
       have g3 := g0.2.2
       rw [e8, e20] at c
       omega)
def o_Mo_backFrom_14 : or_T := (86, 27, [(0, (2, 0, 0, [165])), (1, (0, 0, 23999, [])), (2, (0, 0, 1000000, [])), (3, (0, 0, 5999, [])), (5, (0, 0, 5999, [])), (7, (0, 0, 0, [])), (8, (0, 1, 6000, [])), (9, (0, 0, 5999, [])), (10, (0, 1, 1, [])), (11, (0, 0, 5998, [])), (12, (0, 0, 5999, [])), (13, (0, 0, 0, [])), (14, (0, 0, 5999, [])), (16, (0, 1, 1, [])), (17, (0, 0, 5999, [])), (20, (0, 1, 6000, [])), (21, (0, 1, 1, [])), (22, (0, 0, 5999, [])), (24, (0, 0, 35994000, [])), (25, (0, 0, 35999998, [])), (26, (2, 0, 0, [269]))], [(9, [26, 0], [143]), (1, [25, 24, 11], []), (3, [24, 14, 8], []), (9, [8, 0], [146]), (2, [22, 20, 21], []), (9, [20, 0], [147]), (2, [17, 8, 16], []), (2, [14, 12, 13], []), (20, [7, 13], [50, 0, 0, 3, 14, 2, 6, 1, 2, 1, 0, 0, 1, 1, 2, 1, 1, 0, 1, 3, 14, 2, 6, 1, 2, 1, 0, 0, 3, 1, 2, 1, 1, 0, -1, 2, 6, 7, 2, 1, 0, 0, 1, 2, 6, 7, 2, 1, 0, 0, 3, 1, 2, 1, 1, 0, 0]), (4, [12, 5, 8], []), (2, [11, 9, 10], []), (20, [7, 10], [50, 0, 0, 3, 14, 2, 6, 1, 2, 1, 0, 0, 0, 1, 2, 1, 1, 0, 1, 3, 14, 2, 6, 1, 2, 1, 0, 0, 2, 1, 2, 1, 1, 0, -1, 2, 6, 7, 2, 1, 0, 0, 0, 2, 6, 7, 2, 1, 0, 0, 2, 1, 2, 1, 1, 0, 0]), (5, [9, 5, 8], []), (12, [7, 1], [4]), (11, [5, 1], [4]), (20, [0, 3, 2], [60, 2, 4, 495, 146, 147, 143, 140, 141, 142]), (20, [0, 1, 2], [60, 0, 1, 497, 140]), (20, [1, 0], [50, 2, 0, 1146, 1147, 2, 6, 0, 2, 0, 0, 1, 0, 0, 6, 4, 2, 1, 0, 0, 1, 6, 2, 0, 4, 6, 3, 2, 1, 146, 2, 1, 147]), (20, [2], [50, 0, 0, 2, 6, 0, 2, 0, 0, 1, 0, 0, 2, 1, 0, 0, 999999])], [(25, (0, 0, 5999, []))], [], [], [], [(25, 11, 0, 35994000), (25, 17, -4294967296, 35994000), (25, 9, -1, 35993999), (25, 8, -4294967296, 35993998), (25, 24, 0, 5998), (14, 22, -4294967296, 0), (22, 20, -1, -1), (11, 17, -4294967296, 0), (17, 8, -1, -1), (14, 12, 0, 0), (11, 9, -1, -1), (11, 8, -4294967296, -2), (9, 8, -4294967295, -1)])
theorem oo_Mo_backFrom_14 {kA : Nat → ClassId} : or_ok PRD kA GG o_Mo_backFrom_14 := by
  refine or_mk fun A ta ws vs hD hth hl => ?_
  intro t0 r0 t1 k1 t2 k2 t3 k3 t5 k5 t7 k7 t8 k8 t9 k9 t10 k10 t11 k11 t12 k12 t13 k13 t14 k14 t16 k16 t17 k17 t20 k20 t21 k21 t22 k22 t24 k24 t25 k25 t26 r26 d0 d1 d2 d3 d4 d5 d6 d7 d8 d9 d10 d11 d12 f0 f1 f2 f3 f4 f5 f6 f7 f8 f9 f10 f11 f12 f13 f14 f15 f16 f17 f18
  replace f3 := shm_1254 f3
  replace f5 := shm_1259 f5
  replace f9 := shm_34 f9
  have g3 : v_iv (n_v vs 8) = w_fi ws (n_v vs 0) 146 := congrArg v_iv f3
  have g5 : v_iv (n_v vs 20) = w_fi ws (n_v vs 0) 147 := congrArg v_iv f5
  have kz_0_146 := fdq_178 hD hth r0
  have kz_0_147 := fdq_179 hD hth r0
  have hrf0 : 0 ≤ v_iv (n_v vs 25) ∧ v_iv (n_v vs 25) ≤ 5999 := vc_Mo_backFrom_14_r0 (v_iv (n_v vs 1)) (v_iv (n_v vs 2)) (v_iv (n_v vs 3)) (v_iv (n_v vs 5)) (v_iv (n_v vs 7)) (v_iv (n_v vs 8)) (v_iv (n_v vs 9)) (v_iv (n_v vs 11)) (v_iv (n_v vs 12)) (v_iv (n_v vs 14)) (v_iv (n_v vs 17)) (v_iv (n_v vs 20)) (v_iv (n_v vs 22)) (v_iv (n_v vs 24)) (v_iv (n_v vs 25)) (w_fi ws (n_v vs 0) 146) (w_fi ws (n_v vs 0) 147) (w_ei ws (w_ar ws (n_v vs 0) 143)) (w_ei ws (w_ar ws (n_v vs 0) 140)) (w_ei ws (w_ar ws (n_v vs 0) 141)) (w_ei ws (w_ar ws (n_v vs 0) 142)) k1 k2 k3 k5 k7 k8 k9 k11 k12 k14 k17 k20 k22 k24 k25 d4 d5 d6 d7 d8 d9 d10 d11 (shm_12 f1) (shm_38 f2) g3 g5 f9 (shm_462 f12) (shm_561 f13) (shm_1192 f14) (shm_691 f15) (shm_1372 f17) kz_0_146 kz_0_147
  have rf25 : tv_ok ta (0, 0, 5999, []) (n_v vs 25) := tv_in t25 (by first | omega | grind) (by first | omega | grind)
  refine ⟨List.forall_mem_cons.mpr ⟨rf25, (fun _ h => (by cases h))⟩, [], trivial, ?_, (fun _ h => (by cases h))⟩
  rw [List.append_nil]
  exact (fun _ h => (by cases h))
set_option maxHeartbeats 4000000 in
theorem vc_Mo_backFrom_15_0 (x1 : Int) (x2 : Int) (x3 : Int) (x5 : Int) (x7 : Int) (x8 : Int) (x9 : Int) (x11 : Int) (x12 : Int) (x14 : Int) (x17 : Int) (x20 : Int) (x22 : Int) (x24 : Int) (x25 : Int) (x27 : Int) (barredPoint_0 : Int → Int) (wide_0 : Int) (tall_0 : Int) (costOf_0 : Int → Int) (bucket_0 : Int → Int) (bucketMany_0 : Int → Int) (k1 : 0 ≤ x1 ∧ x1 ≤ 23999) (k2 : 0 ≤ x2 ∧ x2 ≤ 1000000) (k3 : 0 ≤ x3 ∧ x3 ≤ 5999) (k5 : 0 ≤ x5 ∧ x5 ≤ 5999) (k7 : 0 ≤ x7 ∧ x7 ≤ 0) (k8 : 1 ≤ x8 ∧ x8 ≤ 6000) (k9 : 0 ≤ x9 ∧ x9 ≤ 5999) (k11 : 0 ≤ x11 ∧ x11 ≤ 5998) (k12 : 0 ≤ x12 ∧ x12 ≤ 5999) (k14 : 0 ≤ x14 ∧ x14 ≤ 5999) (k17 : 0 ≤ x17 ∧ x17 ≤ 5999) (k20 : 1 ≤ x20 ∧ x20 ≤ 6000) (k22 : 0 ≤ x22 ∧ x22 ≤ 5999) (k24 : 0 ≤ x24 ∧ x24 ≤ 35994000) (k25 : 0 ≤ x25 ∧ x25 ≤ 5999) (k27 : 0 ≤ x27 ∧ x27 ≤ 0) (d2 : x24 + 0 ≤ x25 ∧ x25 ≤ x24 + 5998) (d3 : x22 + (-4294967296) ≤ x14 ∧ x14 ≤ x22 + 0) (d4 : x20 + (-1) ≤ x22 ∧ x22 ≤ x20 + (-1)) (d5 : x17 + (-4294967296) ≤ x11 ∧ x11 ≤ x17 + 0) (d6 : x8 + (-1) ≤ x17 ∧ x17 ≤ x8 + (-1)) (d7 : x12 + 0 ≤ x14 ∧ x14 ≤ x12 + 0) (d8 : x9 + (-1) ≤ x11 ∧ x11 ≤ x9 + (-1)) (d9 : x8 + (-4294967296) ≤ x11 ∧ x11 ≤ x8 + (-2)) (f0 : x27 = 0) (h1 : x27 = barredPoint_0 (x25)) (f3 : x25 = x24 + x11) (f4 : x24 = x14 * x8) (g5 : x8 = wide_0) (g7 : x20 = tall_0) (f11 : x12 = Int.tdiv (x5) (x8)) (f14 : x9 = Int.tmod (x5) (x8)) (f15 : x7 = x1 % 4) (f16 : x5 = x1 / 4) (f17 : RTQ (wide_0) (tall_0) (barredPoint_0) (costOf_0) (bucket_0) (bucketMany_0) (x3) (x2)) (f18 : PIV (costOf_0) (x1) (x2)) (f19 : (0 ≤ x1) ∧ ((x1 + 1) ≤ (4 * (wide_0 * tall_0)))) (f20 : (0 ≤ x2) ∧ (x2 ≤ 999999)) (kz_0_146 : (-3999999) ≤ wide_0 ∧ wide_0 ≤ 600000023) (kz_0_147 : (-3999999) ≤ tall_0 ∧ tall_0 ≤ 600000007) : BFP (wide_0) (tall_0) (barredPoint_0) (x1) (x25) := by
  first
    | (have g0 : GRX wide_0 tall_0 := ‹RTQ _ _ _ _ _ _ _ _›.1
       have g := gok_bd g0
       have e8 : x8 = wide_0 := by assumption
       have e20 : x20 = tall_0 := by assumption
       have tm : x9 = x5 % wide_0 := by rw [← e8, ‹x9 = Int.tmod x5 x8›]; exact Int.tmod_eq_emod_of_nonneg (by omega)
       have td : x12 = x5 / wide_0 := by rw [← e8, ‹x12 = Int.tdiv x5 x8›]; exact Int.tdiv_eq_ediv_of_nonneg (by omega)
       have hx : x11 = x5 % wide_0 - dxf x7 := by rw [← tm]; unfold dxf; split; omega; split <;> omega
       have hy : x14 = x5 / wide_0 - dyf x7 := by rw [← td]; unfold dyf; split; omega; split <;> omega
       have n := nb_back (T := tall_0) (q := x5) (d := x7) (x := x11) (y := x14) (p := x25) (by omega) (by omega) (by omega) hx hy (by omega) (by omega) (by omega) (by omega) (by rw [← e8, ‹x25 = x24 + x11›, ‹x24 = x14 * x8›])
       have b := rtq_bar ‹RTQ _ _ _ _ _ _ _ _› ‹PIV _ _ _› (by omega) (by omega)
       exact ⟨⟨by omega, by omega⟩, by rw [show x1 % 4 = x7 by omega, show x1 / 4 = x5 by omega]; exact n.1, n.2, by rw [← ‹x27 = barredPoint_0 x25›]; omega, b⟩)
set_option maxHeartbeats 4000000 in
theorem vc_Mo_backFrom_15_1 (x1 : Int) (x7 : Int) (x8 : Int) (x11 : Int) (x14 : Int) (x20 : Int) (x24 : Int) (x25 : Int) (wide_0 : Int) (tall_0 : Int) (k1 : 0 ≤ x1 ∧ x1 ≤ 23999) (k7 : 0 ≤ x7 ∧ x7 ≤ 0) (f15 : x7 = x1 % 4) : x7 = (x1 % 4) := by
  first
    | omega
    | (have h := ‹BFP _ _ _ _ _›.2.2.1; omega)
set_option maxHeartbeats 4000000 in
theorem vc_Mo_backFrom_15_2 (x2 : Int) (x3 : Int) (x5 : Int) (x8 : Int) (x9 : Int) (x11 : Int) (x12 : Int) (x14 : Int) (x17 : Int) (x20 : Int) (x22 : Int) (x24 : Int) (x25 : Int) (barredPoint_0 : Int → Int) (wide_0 : Int) (tall_0 : Int) (costOf_0 : Int → Int) (bucket_0 : Int → Int) (bucketMany_0 : Int → Int) (k2 : 0 ≤ x2 ∧ x2 ≤ 1000000) (k3 : 0 ≤ x3 ∧ x3 ≤ 5999) (k5 : 0 ≤ x5 ∧ x5 ≤ 5999) (k8 : 1 ≤ x8 ∧ x8 ≤ 6000) (k9 : 0 ≤ x9 ∧ x9 ≤ 5999) (k11 : 0 ≤ x11 ∧ x11 ≤ 5998) (k12 : 0 ≤ x12 ∧ x12 ≤ 5999) (k14 : 0 ≤ x14 ∧ x14 ≤ 5999) (k17 : 0 ≤ x17 ∧ x17 ≤ 5999) (k20 : 1 ≤ x20 ∧ x20 ≤ 6000) (k22 : 0 ≤ x22 ∧ x22 ≤ 5999) (k24 : 0 ≤ x24 ∧ x24 ≤ 35994000) (k25 : 0 ≤ x25 ∧ x25 ≤ 5999) (d2 : x24 + 0 ≤ x25 ∧ x25 ≤ x24 + 5998) (d3 : x22 + (-4294967296) ≤ x14 ∧ x14 ≤ x22 + 0) (d4 : x20 + (-1) ≤ x22 ∧ x22 ≤ x20 + (-1)) (d5 : x17 + (-4294967296) ≤ x11 ∧ x11 ≤ x17 + 0) (d6 : x8 + (-1) ≤ x17 ∧ x17 ≤ x8 + (-1)) (d7 : x12 + 0 ≤ x14 ∧ x14 ≤ x12 + 0) (d8 : x9 + (-1) ≤ x11 ∧ x11 ≤ x9 + (-1)) (d9 : x8 + (-4294967296) ≤ x11 ∧ x11 ≤ x8 + (-2)) (f3 : x25 = x24 + x11) (f4 : x24 = x14 * x8) (g5 : x8 = wide_0) (g7 : x20 = tall_0) (f11 : x12 = Int.tdiv (x5) (x8)) (f14 : x9 = Int.tmod (x5) (x8)) (f17 : RTQ (wide_0) (tall_0) (barredPoint_0) (costOf_0) (bucket_0) (bucketMany_0) (x3) (x2)) (kz_0_146 : (-3999999) ≤ wide_0 ∧ wide_0 ≤ 600000023) (kz_0_147 : (-3999999) ≤ tall_0 ∧ tall_0 ≤ 600000007) : (0 ≤ x25) ∧ ((x25 + 1) ≤ (wide_0 * tall_0)) := by
  first
    | (have g := gok_bd (show GRX wide_0 tall_0 from ‹RTQ _ _ _ _ _ _ _ _›.1); omega)
    | (have g0 : GRX wide_0 tall_0 := ‹RTQ _ _ _ _ _ _ _ _›.1
       have g := gok_bd g0
       have e8 : x8 = wide_0 := by assumption
       have e20 : x20 = tall_0 := by assumption
       have c := cell_ix (W := x8) (T := x20) (x := x11) (y := x14) (p := x25) (by omega) (by omega) (by omega) (by omega) (by omega) (by rw [‹x25 = x24 + x11›, ‹x24 = x14 * x8›])
       have g3 := g0.2.2
       rw [e8, e20] at c
       omega)
def o_Mo_backFrom_15 : or_T := (94, 29, [(0, (2, 0, 0, [165])), (1, (0, 0, 23999, [])), (2, (0, 0, 1000000, [])), (3, (0, 0, 5999, [])), (5, (0, 0, 5999, [])), (7, (0, 0, 0, [])), (8, (0, 1, 6000, [])), (9, (0, 0, 5999, [])), (10, (0, 1, 1, [])), (11, (0, 0, 5998, [])), (12, (0, 0, 5999, [])), (13, (0, 0, 0, [])), (14, (0, 0, 5999, [])), (16, (0, 1, 1, [])), (17, (0, 0, 5999, [])), (20, (0, 1, 6000, [])), (21, (0, 1, 1, [])), (22, (0, 0, 5999, [])), (24, (0, 0, 35994000, [])), (25, (0, 0, 5999, [])), (26, (2, 0, 0, [269])), (27, (0, 0, 0, []))], [(8, [27], [0]), (10, [27, 26, 25], []), (9, [26, 0], [143]), (1, [25, 24, 11], []), (3, [24, 14, 8], []), (9, [8, 0], [146]), (2, [22, 20, 21], []), (9, [20, 0], [147]), (2, [17, 8, 16], []), (2, [14, 12, 13], []), (20, [7, 13], [50, 0, 0, 3, 14, 2, 6, 1, 2, 1, 0, 0, 1, 1, 2, 1, 1, 0, 1, 3, 14, 2, 6, 1, 2, 1, 0, 0, 3, 1, 2, 1, 1, 0, -1, 2, 6, 7, 2, 1, 0, 0, 1, 2, 6, 7, 2, 1, 0, 0, 3, 1, 2, 1, 1, 0, 0]), (4, [12, 5, 8], []), (2, [11, 9, 10], []), (20, [7, 10], [50, 0, 0, 3, 14, 2, 6, 1, 2, 1, 0, 0, 0, 1, 2, 1, 1, 0, 1, 3, 14, 2, 6, 1, 2, 1, 0, 0, 2, 1, 2, 1, 1, 0, -1, 2, 6, 7, 2, 1, 0, 0, 0, 2, 6, 7, 2, 1, 0, 0, 2, 1, 2, 1, 1, 0, 0]), (5, [9, 5, 8], []), (12, [7, 1], [4]), (11, [5, 1], [4]), (20, [0, 3, 2], [60, 2, 4, 495, 146, 147, 143, 140, 141, 142]), (20, [0, 1, 2], [60, 0, 1, 497, 140]), (20, [1, 0], [50, 2, 0, 1146, 1147, 2, 6, 0, 2, 0, 0, 1, 0, 0, 6, 4, 2, 1, 0, 0, 1, 6, 2, 0, 4, 6, 3, 2, 1, 146, 2, 1, 147]), (20, [2], [50, 0, 0, 2, 6, 0, 2, 0, 0, 1, 0, 0, 2, 1, 0, 0, 999999])], [], [], [(20, [0, 1, 25], [60, 2, 1, 500, 146, 147, 143]), (20, [7, 1], [50, 0, 0, 1, 2, 1, 0, 9, 2, 1, 1, 0, 4]), (20, [25, 0], [50, 2, 0, 1146, 1147, 2, 6, 0, 2, 0, 0, 1, 0, 0, 6, 4, 2, 1, 0, 0, 1, 6, 3, 2, 1, 146, 2, 1, 147]), (24, [0, 0], []), (24, [1, 1], []), (24, [2, 2], [])], [], [(25, 11, 0, 35994000), (25, 9, -1, 35993999), (25, 24, 0, 5998), (14, 22, -4294967296, 0), (22, 20, -1, -1), (11, 17, -4294967296, 0), (17, 8, -1, -1), (14, 12, 0, 0), (11, 9, -1, -1), (11, 8, -4294967296, -2), (9, 8, -4294967295, -1)])
theorem oo_Mo_backFrom_15 {kA : Nat → ClassId} : or_ok PRD kA GG o_Mo_backFrom_15 := by
  refine or_mk fun A ta ws vs hD hth hl => ?_
  intro t0 r0 t1 k1 t2 k2 t3 k3 t5 k5 t7 k7 t8 k8 t9 k9 t10 k10 t11 k11 t12 k12 t13 k13 t14 k14 t16 k16 t17 k17 t20 k20 t21 k21 t22 k22 t24 k24 t25 k25 t26 r26 t27 k27 d0 d1 d2 d3 d4 d5 d6 d7 d8 d9 d10 f0 f1 f2 f3 f4 f5 f6 f7 f8 f9 f10 f11 f12 f13 f14 f15 f16 f17 f18 f19 f20
  replace f1 := shm_106 f1
  replace f2 := shm_1260 f2
  replace f5 := shm_1254 f5
  replace f7 := shm_1259 f7
  replace f11 := shm_34 f11
  have ad_26 : v_ad (n_v vs 26) = w_ar ws (n_v vs 0) 143 := congrArg v_ad f2
  simp only [ad_26] at f1
  have h1 : v_iv (n_v vs 27) = w_ei ws (w_ar ws (n_v vs 0) 143) (v_iv (n_v vs 25)) := f1
  have g5 : v_iv (n_v vs 8) = w_fi ws (n_v vs 0) 146 := congrArg v_iv f5
  have g7 : v_iv (n_v vs 20) = w_fi ws (n_v vs 0) 147 := congrArg v_iv f7
  have kz_0_146 := fdq_178 hD hth r0
  have kz_0_147 := fdq_179 hD hth r0
  have nf0 : fc_1 PRD (20, [0, 1, 25], [60, 2, 1, 500, 146, 147, 143]) ws (vs) := ⟨nf_in hl rfl, sgq_1374 (vc_Mo_backFrom_15_0 (v_iv (n_v vs 1)) (v_iv (n_v vs 2)) (v_iv (n_v vs 3)) (v_iv (n_v vs 5)) (v_iv (n_v vs 7)) (v_iv (n_v vs 8)) (v_iv (n_v vs 9)) (v_iv (n_v vs 11)) (v_iv (n_v vs 12)) (v_iv (n_v vs 14)) (v_iv (n_v vs 17)) (v_iv (n_v vs 20)) (v_iv (n_v vs 22)) (v_iv (n_v vs 24)) (v_iv (n_v vs 25)) (v_iv (n_v vs 27)) (w_ei ws (w_ar ws (n_v vs 0) 143)) (w_fi ws (n_v vs 0) 146) (w_fi ws (n_v vs 0) 147) (w_ei ws (w_ar ws (n_v vs 0) 140)) (w_ei ws (w_ar ws (n_v vs 0) 141)) (w_ei ws (w_ar ws (n_v vs 0) 142)) k1 k2 k3 k5 k7 k8 k9 k11 k12 k14 k17 k20 k22 k24 k25 k27 d2 d3 d4 d5 d6 d7 d8 d9 (shm_210 f0) h1 (shm_12 f3) (shm_38 f4) g5 g7 f11 (shm_462 f14) (shm_561 f15) (shm_1192 f16) (shm_691 f17) (shm_693 f18) (shm_1372 f19) (shm_1373 f20) kz_0_146 kz_0_147)⟩
  have nf1 : fc_1 PRD (20, [7, 1], [50, 0, 0, 1, 2, 1, 0, 9, 2, 1, 1, 0, 4]) ws (vs) := ⟨nf_in hl rfl, sgq_1375 (vc_Mo_backFrom_15_1 (v_iv (n_v vs 1)) (v_iv (n_v vs 7)) (v_iv (n_v vs 8)) (v_iv (n_v vs 11)) (v_iv (n_v vs 14)) (v_iv (n_v vs 20)) (v_iv (n_v vs 24)) (v_iv (n_v vs 25)) (w_fi ws (n_v vs 0) 146) (w_fi ws (n_v vs 0) 147) k1 k7 (shm_561 f15))⟩
  have nf2 : fc_1 PRD (20, [25, 0], [50, 2, 0, 1146, 1147, 2, 6, 0, 2, 0, 0, 1, 0, 0, 6, 4, 2, 1, 0, 0, 1, 6, 3, 2, 1, 146, 2, 1, 147]) ws (vs) := ⟨nf_in hl rfl, sgq_1256 (vc_Mo_backFrom_15_2 (v_iv (n_v vs 2)) (v_iv (n_v vs 3)) (v_iv (n_v vs 5)) (v_iv (n_v vs 8)) (v_iv (n_v vs 9)) (v_iv (n_v vs 11)) (v_iv (n_v vs 12)) (v_iv (n_v vs 14)) (v_iv (n_v vs 17)) (v_iv (n_v vs 20)) (v_iv (n_v vs 22)) (v_iv (n_v vs 24)) (v_iv (n_v vs 25)) (w_ei ws (w_ar ws (n_v vs 0) 143)) (w_fi ws (n_v vs 0) 146) (w_fi ws (n_v vs 0) 147) (w_ei ws (w_ar ws (n_v vs 0) 140)) (w_ei ws (w_ar ws (n_v vs 0) 141)) (w_ei ws (w_ar ws (n_v vs 0) 142)) k2 k3 k5 k8 k9 k11 k12 k14 k17 k20 k22 k24 k25 d2 d3 d4 d5 d6 d7 d8 d9 (shm_12 f3) (shm_38 f4) g5 g7 f11 (shm_462 f14) (shm_691 f17) kz_0_146 kz_0_147)⟩
  have nf3 : fc_1 PRD (24, [0, 0], []) ws (vs) := by
    refine ⟨nf_in hl rfl, sgq_1 ?_⟩
    · show n_v vs 0 = n_v vs 0
      first | rfl | simp only [true_and]
  have nf4 : fc_1 PRD (24, [1, 1], []) ws (vs) := by
    refine ⟨nf_in hl rfl, sgq_1 ?_⟩
    · show n_v vs 1 = n_v vs 1
      first | rfl | simp only [true_and]
  have nf5 : fc_1 PRD (24, [2, 2], []) ws (vs) := by
    refine ⟨nf_in hl rfl, sgq_1 ?_⟩
    · show n_v vs 2 = n_v vs 2
      first | rfl | simp only [true_and]
  refine ⟨(fun _ h => (by cases h)), [], trivial, ?_, (fun _ h => (by cases h))⟩
  rw [List.append_nil]
  exact List.forall_mem_cons.mpr ⟨⟨show (20 : Nat) < 100 from by decide, nf0⟩, List.forall_mem_cons.mpr ⟨⟨show (20 : Nat) < 100 from by decide, nf1⟩, List.forall_mem_cons.mpr ⟨⟨show (20 : Nat) < 100 from by decide, nf2⟩, List.forall_mem_cons.mpr ⟨⟨show (24 : Nat) < 100 from by decide, nf3⟩, List.forall_mem_cons.mpr ⟨⟨show (24 : Nat) < 100 from by decide, nf4⟩, List.forall_mem_cons.mpr ⟨⟨show (24 : Nat) < 100 from by decide, nf5⟩, (fun _ h => (by cases h))⟩⟩⟩⟩⟩⟩
set_option maxHeartbeats 4000000 in
theorem vc_Mo_backFrom_16_0 (x2 : Int) (x3 : Int) (barredPoint_0 : Int → Int) (costOf_0 : Int → Int) (bucket_0 : Int → Int) (bucketMany_0 : Int → Int) (wide_0 : Int) (tall_0 : Int) (k2 : 0 ≤ x2 ∧ x2 ≤ 1000000) (k3 : 0 ≤ x3 ∧ x3 ≤ 5999) (f0 : RTQ (wide_0) (tall_0) (barredPoint_0) (costOf_0) (bucket_0) (bucketMany_0) (x3) (x2)) (kz_0_146 : (-3999999) ≤ wide_0 ∧ wide_0 ≤ 600000023) (kz_0_147 : (-3999999) ≤ tall_0 ∧ tall_0 ≤ 600000007) : RTQ (wide_0) (tall_0) (barredPoint_0) (costOf_0) (bucket_0) (bucketMany_0) (x3) (x2) := by
  first
    | assumption
    | (rw [ex2, ey2]; assumption)
def o_Mo_backFrom_16 : or_T := (131, 14, [(0, (2, 0, 0, [165])), (2, (0, 0, 1000000, [])), (3, (0, 0, 5999, []))], [(20, [4, 3, 6], [60, 2, 4, 495, 146, 147, 143, 140, 141, 142]), (24, [0, 4], []), (24, [2, 6], [])], [], [], [(20, [0, 3, 2], [60, 2, 4, 495, 146, 147, 143, 140, 141, 142])], [], [])
theorem oo_Mo_backFrom_16 {kA : Nat → ClassId} : or_ok PRD kA GG o_Mo_backFrom_16 := by
  refine or_mk fun A ta ws vs hD hth hl => ?_
  intro t0 r0 t2 k2 t3 k3 f0 f6 f8
  replace f0 := shm_691 f0
  replace f6 := shm_5 f6
  replace f8 := shm_5 f8
  have q4 : n_v vs 4 = n_v vs 0 := f6.symm
  have q6 : n_v vs 6 = n_v vs 2 := f8.symm
  simp only [q4, q6] at f0
  have kz_0_146 := fdq_178 hD hth r0
  have kz_0_147 := fdq_179 hD hth r0
  have nf0 : fc_1 PRD (20, [0, 3, 2], [60, 2, 4, 495, 146, 147, 143, 140, 141, 142]) ws (vs) := ⟨nf_in hl rfl, sgq_691 (vc_Mo_backFrom_16_0 (v_iv (n_v vs 2)) (v_iv (n_v vs 3)) (w_ei ws (w_ar ws (n_v vs 0) 143)) (w_ei ws (w_ar ws (n_v vs 0) 140)) (w_ei ws (w_ar ws (n_v vs 0) 141)) (w_ei ws (w_ar ws (n_v vs 0) 142)) (w_fi ws (n_v vs 0) 146) (w_fi ws (n_v vs 0) 147) k2 k3 f0 kz_0_146 kz_0_147)⟩
  refine ⟨(fun _ h => (by cases h)), [], trivial, ?_, (fun _ h => (by cases h))⟩
  rw [List.append_nil]
  exact List.forall_mem_cons.mpr ⟨⟨show (20 : Nat) < 100 from by decide, nf0⟩, (fun _ h => (by cases h))⟩
set_option maxHeartbeats 4000000 in
theorem vc_Mo_backFrom_17_0 (x3 : Int) (x8 : Int) (x11 : Int) (x14 : Int) (wide_0 : Int) (tall_0 : Int) (gx : Int) (k3 : 0 ≤ x3 ∧ x3 ≤ 5999) (ex2 : gx = x3) : 1 * gx + ((-1) * x3 + 0) ≤ 0 := by
  first
    | omega
    | (have h := ‹BFP _ _ _ _ _›.2.2.1; omega)
set_option maxHeartbeats 4000000 in
theorem vc_Mo_backFrom_17_1 (x3 : Int) (x8 : Int) (x11 : Int) (x14 : Int) (wide_0 : Int) (tall_0 : Int) (gx : Int) (k3 : 0 ≤ x3 ∧ x3 ≤ 5999) (ex2 : gx = x3) : (-1) * gx + (1 * x3 + 0) ≤ 0 := by
  first
    | omega
    | (have h := ‹BFP _ _ _ _ _›.2.2.1; omega)
set_option maxHeartbeats 4000000 in
theorem vc_Mo_backFrom_17_2 (x2 : Int) (x6 : Int) (x8 : Int) (x11 : Int) (x14 : Int) (x18 : Int) (wide_0 : Int) (tall_0 : Int) (gy : Int) (k2 : 0 ≤ x2 ∧ x2 ≤ 1000000) (k6 : 0 ≤ x6 ∧ x6 ≤ 1000000) (k18 : 3 ≤ x18 ∧ x18 ≤ 1000003) (d0 : x6 + 3 ≤ x18 ∧ x18 ≤ x6 + 3) (d1 : x2 + (-4294967296) ≤ x18 ∧ x18 ≤ x2 + 3) (d5 : x6 + (-4294967296) ≤ x2 ∧ x2 ≤ x6 + 0) (ey2 : gy = x2) : 1 * gy + ((-1) * x2 + 0) ≤ 0 := by
  first
    | omega
    | (have h := ‹BFP _ _ _ _ _›.2.2.1; omega)
set_option maxHeartbeats 4000000 in
theorem vc_Mo_backFrom_17_3 (x2 : Int) (x6 : Int) (x8 : Int) (x11 : Int) (x14 : Int) (x18 : Int) (wide_0 : Int) (tall_0 : Int) (gy : Int) (k2 : 0 ≤ x2 ∧ x2 ≤ 1000000) (k6 : 0 ≤ x6 ∧ x6 ≤ 1000000) (k18 : 3 ≤ x18 ∧ x18 ≤ 1000003) (d0 : x6 + 3 ≤ x18 ∧ x18 ≤ x6 + 3) (d1 : x2 + (-4294967296) ≤ x18 ∧ x18 ≤ x2 + 3) (d5 : x6 + (-4294967296) ≤ x2 ∧ x2 ≤ x6 + 0) (ey2 : gy = x2) : (-1) * gy + (1 * x2 + 0) ≤ 0 := by
  first
    | omega
    | (have h := ‹BFP _ _ _ _ _›.2.2.1; omega)
set_option maxHeartbeats 4000000 in
theorem vc_Mo_backFrom_17_4 (x1 : Int) (x5 : Int) (x8 : Int) (x11 : Int) (x14 : Int) (wide_0 : Int) (tall_0 : Int) (gu : Int) (k1 : 0 ≤ x1 ∧ x1 ≤ 23999) (k5 : 0 ≤ x5 ∧ x5 ≤ 23999) (k8 : 0 ≤ x8 ∧ x8 ≤ 3) (d4 : x5 + (-4294967296) ≤ x1 ∧ x1 ≤ x5 + 0) (d6 : x1 + (-4294967296) ≤ x5 ∧ x5 ≤ x1 + 0) (f8 : x8 = (x1 % 4)) (eu2 : gu = x1) : 1 * gu + ((-1) * x1 + 0) ≤ 0 := by
  first
    | omega
    | (have h := ‹BFP _ _ _ _ _›.2.2.1; omega)
set_option maxHeartbeats 4000000 in
theorem vc_Mo_backFrom_17_5 (x1 : Int) (x5 : Int) (x8 : Int) (x11 : Int) (x14 : Int) (wide_0 : Int) (tall_0 : Int) (gu : Int) (k1 : 0 ≤ x1 ∧ x1 ≤ 23999) (k5 : 0 ≤ x5 ∧ x5 ≤ 23999) (k8 : 0 ≤ x8 ∧ x8 ≤ 3) (d4 : x5 + (-4294967296) ≤ x1 ∧ x1 ≤ x5 + 0) (d6 : x1 + (-4294967296) ≤ x5 ∧ x5 ≤ x1 + 0) (f8 : x8 = (x1 % 4)) (eu2 : gu = x1) : (-1) * gu + (1 * x1 + 0) ≤ 0 := by
  first
    | omega
    | (have h := ‹BFP _ _ _ _ _›.2.2.1; omega)
set_option maxHeartbeats 4000000 in
theorem vc_Mo_backFrom_17_6 (x2 : Int) (x3 : Int) (barredPoint_0 : Int → Int) (costOf_0 : Int → Int) (bucket_0 : Int → Int) (bucketMany_0 : Int → Int) (wide_0 : Int) (tall_0 : Int) (gx : Int) (gy : Int) (k2 : 0 ≤ x2 ∧ x2 ≤ 1000000) (k3 : 0 ≤ x3 ∧ x3 ≤ 5999) (f5 : RTQ (wide_0) (tall_0) (barredPoint_0) (costOf_0) (bucket_0) (bucketMany_0) (x3) (x2)) (kz_0_146 : (-3999999) ≤ wide_0 ∧ wide_0 ≤ 600000023) (kz_0_147 : (-3999999) ≤ tall_0 ∧ tall_0 ≤ 600000007) (ex2 : gx = x3) (ey2 : gy = x2) : RTQ (wide_0) (tall_0) (barredPoint_0) (costOf_0) (bucket_0) (bucketMany_0) (gx) (gy) := by
  first
    | assumption
    | (rw [ex2, ey2]; assumption)
set_option maxHeartbeats 4000000 in
theorem vc_Mo_backFrom_17_7 (x1 : Int) (x2 : Int) (x3 : Int) (x5 : Int) (x6 : Int) (x8 : Int) (x11 : Int) (x12 : Int) (x15 : Int) (x16 : Int) (x18 : Int) (barredPoint_0 : Int → Int) (costOf_0 : Int → Int) (wide_0 : Int) (tall_0 : Int) (gx : Int) (gy : Int) (gu : Int) (k1 : 0 ≤ x1 ∧ x1 ≤ 23999) (k2 : 0 ≤ x2 ∧ x2 ≤ 1000000) (k3 : 0 ≤ x3 ∧ x3 ≤ 5999) (k5 : 0 ≤ x5 ∧ x5 ≤ 23999) (k6 : 0 ≤ x6 ∧ x6 ≤ 1000000) (k8 : 0 ≤ x8 ∧ x8 ≤ 3) (k11 : 0 ≤ x11 ∧ x11 ≤ 5999) (k12 : 0 ≤ x12 ∧ x12 ≤ 3) (k15 : 0 ≤ x15 ∧ x15 ≤ 23996) (k16 : 0 ≤ x16 ∧ x16 ≤ 23999) (k18 : 3 ≤ x18 ∧ x18 ≤ 1000003) (d0 : x6 + 3 ≤ x18 ∧ x18 ≤ x6 + 3) (d1 : x2 + (-4294967296) ≤ x18 ∧ x18 ≤ x2 + 3) (d4 : x5 + (-4294967296) ≤ x1 ∧ x1 ≤ x5 + 0) (d5 : x6 + (-4294967296) ≤ x2 ∧ x2 ≤ x6 + 0) (d6 : x1 + (-4294967296) ≤ x5 ∧ x5 ≤ x1 + 0) (f1 : x12 ≠ x8) (f2 : x16 = x15 + x12) (f3 : x15 = 4 * x11) (f6 : PIV (costOf_0) (x1) (x2)) (f7 : BFP (wide_0) (tall_0) (barredPoint_0) (x1) (x11)) (f8 : x8 = (x1 % 4)) (f9 : (0 ≤ x2) ∧ (x2 ≤ 999999)) (kz_0_146 : (-3999999) ≤ wide_0 ∧ wide_0 ≤ 600000023) (kz_0_147 : (-3999999) ≤ tall_0 ∧ tall_0 ≤ 600000007) (ex2 : gx = x3) (ey2 : gy = x2) (eu2 : gu = x1) : RJB (wide_0) (tall_0) (barredPoint_0) (costOf_0) (gx) (gy) (x16) (x18) := by
  rw [ex2, ey2]
  exact rjb_b (p := x11) (f := x12) (d := x8) ‹BFP _ _ _ _ _› ‹PIV _ _ _› (by omega) (by omega) (by omega) (by omega) (by omega) (by omega)
set_option maxHeartbeats 4000000 in
theorem vc_Mo_backFrom_17_8 (x1 : Int) (x2 : Int) (costOf_0 : Int → Int) (gy : Int) (gu : Int) (k1 : 0 ≤ x1 ∧ x1 ≤ 23999) (k2 : 0 ≤ x2 ∧ x2 ≤ 1000000) (f6 : PIV (costOf_0) (x1) (x2)) (ey2 : gy = x2) (eu2 : gu = x1) : PIV (costOf_0) (gu) (gy) := by
  first
    | assumption
    | (rw [eu2, ey2]; assumption)
    | (rw [ey2, eu2]; assumption)
set_option maxHeartbeats 4000000 in
theorem vc_Mo_backFrom_17_9 (x3 : Int) (x8 : Int) (x11 : Int) (x14 : Int) (wide_0 : Int) (tall_0 : Int) (gx : Int) (k3 : 0 ≤ x3 ∧ x3 ≤ 5999) (ex2 : gx = x3) : gx = x3 := by
  first
    | omega
    | (have h := ‹BFP _ _ _ _ _›.2.2.1; omega)
set_option maxHeartbeats 4000000 in
theorem vc_Mo_backFrom_17_10 (x2 : Int) (x8 : Int) (x11 : Int) (x14 : Int) (wide_0 : Int) (tall_0 : Int) (gy : Int) (k2 : 0 ≤ x2 ∧ x2 ≤ 1000000) (ey2 : gy = x2) : gy = x2 := by
  first
    | omega
    | (have h := ‹BFP _ _ _ _ _›.2.2.1; omega)
set_option maxHeartbeats 4000000 in
theorem vc_Mo_backFrom_17_11 (x1 : Int) (x8 : Int) (x11 : Int) (x14 : Int) (wide_0 : Int) (tall_0 : Int) (gu : Int) (k1 : 0 ≤ x1 ∧ x1 ≤ 23999) (eu2 : gu = x1) : gu = x1 := by
  first
    | omega
    | (have h := ‹BFP _ _ _ _ _›.2.2.1; omega)
def o_Mo_backFrom_17 : or_T := (122, 19, [(0, (2, 0, 0, [165])), (1, (0, 0, 23999, [])), (2, (0, 0, 1000000, [])), (3, (0, 0, 5999, [])), (4, (2, 0, 0, [165])), (5, (0, 0, 23999, [])), (6, (0, 0, 1000000, [])), (8, (0, 0, 3, [])), (11, (0, 0, 5999, [])), (12, (0, 0, 3, [])), (13, (0, 4, 4, [])), (14, (0, 4, 4, [])), (15, (0, 0, 23996, [])), (16, (0, 0, 23999, [])), (17, (0, 3, 3, [])), (18, (0, 3, 1000003, []))], [(1, [18, 6, 17], []), (7, [12, 8], [1]), (1, [16, 15, 12], []), (3, [15, 14, 11], []), (7, [12, 13], [2]), (20, [4, 3, 6], [60, 2, 4, 495, 146, 147, 143, 140, 141, 142]), (20, [4, 5, 6], [60, 0, 1, 497, 140]), (20, [4, 5, 11], [60, 2, 1, 500, 146, 147, 143]), (20, [8, 5], [50, 0, 0, 1, 2, 1, 0, 9, 2, 1, 1, 0, 4]), (20, [6], [50, 0, 0, 2, 6, 0, 2, 0, 0, 1, 0, 0, 2, 1, 0, 0, 999999]), (20, [11, 4], [50, 2, 0, 1146, 1147, 2, 6, 0, 2, 0, 0, 1, 0, 0, 6, 4, 2, 1, 0, 0, 1, 6, 3, 2, 1, 146, 2, 1, 147]), (24, [0, 4], []), (24, [1, 5], []), (24, [2, 6], [])], [], [(0, 0, 5999, []), (0, 0, 1000008, []), (0, 0, 23999, [])], [(23, [19, 3], [0, 1, -1]), (23, [19, 3], [0, -1, 1]), (23, [20, 6], [0, 1, -1]), (23, [20, 6], [0, -1, 1]), (23, [21, 5], [0, 1, -1]), (23, [21, 5], [0, -1, 1]), (20, [4, 19, 20], [60, 2, 4, 495, 146, 147, 143, 140, 141, 142]), (20, [4, 19, 20, 16, 18], [60, 2, 2, 498, 146, 147, 143, 140]), (20, [4, 21, 20], [60, 0, 1, 497, 140]), (20, [19, 3], [50, 0, 0, 1, 2, 1, 0, 1, 1]), (20, [20, 6], [50, 0, 0, 1, 2, 1, 0, 1, 1]), (20, [21, 5], [50, 0, 0, 1, 2, 1, 0, 1, 1])], [], [(18, 6, 3, 3), (18, 2, -4294967296, 3), (16, 12, 0, 23996), (16, 15, 0, 3), (1, 5, -4294967296, 0), (2, 6, -4294967296, 0), (5, 1, -4294967296, 0), (6, 2, -4294967296, 0), (8, 11, -4294967296, 2)])
theorem oo_Mo_backFrom_17 {kA : Nat → ClassId} : or_ok PRD kA GG o_Mo_backFrom_17 := by
  refine or_mk fun A ta ws vs hD hth hl => ?_
  intro t0 r0 t1 k1 t2 k2 t3 k3 t4 r4 t5 k5 t6 k6 t8 k8 t11 k11 t12 k12 t13 k13 t14 k14 t15 k15 t16 k16 t17 k17 t18 k18 d0 d1 d2 d3 d4 d5 d6 d7 d8 f0 f1 f2 f3 f4 f5 f6 f7 f8 f9 f10 f11 f12 f13
  replace f1 := shm_40 f1
  replace f2 := shm_12 f2
  replace f3 := shm_38 f3
  rw [show v_iv (n_v vs 14) = 4 from by omega] at f3
  replace f5 := shm_691 f5
  replace f6 := shm_693 f6
  replace f7 := shm_1374 f7
  replace f8 := shm_1375 f8
  replace f9 := shm_1373 f9
  replace f11 := shm_5 f11
  replace f12 := shm_5 f12
  replace f13 := shm_5 f13
  have q4 : n_v vs 4 = n_v vs 0 := f11.symm
  have q5 : n_v vs 5 = n_v vs 1 := f12.symm
  have q6 : n_v vs 6 = n_v vs 2 := f13.symm
  simp only [q6, q4, q5] at f5 f6 f7 f8 f9
  have kz_0_146 := fdq_178 hD hth r0
  have kz_0_147 := fdq_179 hD hth r0
  obtain ⟨x, ex, hx⟩ := iv_ex (ta := ta) (lo := 0) (hi := 5999) (z := v_iv (n_v vs 3)) (by omega) (by omega) (by omega) (by omega)
  have ex2 : v_iv (Value.int x) = v_iv (n_v vs 3) := ex
  have ex3 : 0 ≤ v_iv (Value.int x) ∧ v_iv (Value.int x) ≤ 5999 := tv_rng hx
  obtain ⟨y, ey, hy⟩ := iv_ex (ta := ta) (lo := 0) (hi := 1000008) (z := v_iv (n_v vs 2)) (by omega) (by omega) (by omega) (by omega)
  have ey2 : v_iv (Value.int y) = v_iv (n_v vs 2) := ey
  have ey3 : 0 ≤ v_iv (Value.int y) ∧ v_iv (Value.int y) ≤ 1000008 := tv_rng hy
  obtain ⟨u, eu, hu⟩ := iv_ex (ta := ta) (lo := 0) (hi := 23999) (z := v_iv (n_v vs 1)) (by omega) (by omega) (by omega) (by omega)
  have eu2 : v_iv (Value.int u) = v_iv (n_v vs 1) := eu
  have eu3 : 0 ≤ v_iv (Value.int u) ∧ v_iv (Value.int u) ≤ 23999 := tv_rng hu
  have e_3 : n_v (vs ++ [Value.int x, Value.int y, Value.int u]) 3 = n_v vs 3 := n_v_old (by rw [hl]; decide)
  have e_4 : n_v (vs ++ [Value.int x, Value.int y, Value.int u]) 4 = n_v vs 4 := n_v_old (by rw [hl]; decide)
  have e_5 : n_v (vs ++ [Value.int x, Value.int y, Value.int u]) 5 = n_v vs 5 := n_v_old (by rw [hl]; decide)
  have e_6 : n_v (vs ++ [Value.int x, Value.int y, Value.int u]) 6 = n_v vs 6 := n_v_old (by rw [hl]; decide)
  have e_16 : n_v (vs ++ [Value.int x, Value.int y, Value.int u]) 16 = n_v vs 16 := n_v_old (by rw [hl]; decide)
  have e_18 : n_v (vs ++ [Value.int x, Value.int y, Value.int u]) 18 = n_v vs 18 := n_v_old (by rw [hl]; decide)
  have e_19 : n_v (vs ++ [Value.int x, Value.int y, Value.int u]) 19 = Value.int x := n_v_newk (k := 0) hl rfl
  have e_20 : n_v (vs ++ [Value.int x, Value.int y, Value.int u]) 20 = Value.int y := n_v_newk (k := 1) hl rfl
  have e_21 : n_v (vs ++ [Value.int x, Value.int y, Value.int u]) 21 = Value.int u := n_v_newk (k := 2) hl rfl
  have nf0 : fc_1 PRD (23, [19, 3], [0, 1, -1]) ws (vs ++ [Value.int x, Value.int y, Value.int u]) := by
    refine ⟨nf_inA hl rfl, sgq_7 ?_⟩
    · show 1 * v_iv (n_v (vs ++ [Value.int x, Value.int y, Value.int u]) 19) + ((-1) * v_iv (n_v (vs ++ [Value.int x, Value.int y, Value.int u]) 3) + 0) ≤ 0
      simp only [e_3, e_19]
      exact vc_Mo_backFrom_17_0 (v_iv (n_v vs 3)) (v_iv (n_v vs 8)) (v_iv (n_v vs 11)) (v_iv (n_v vs 14)) (w_fi ws (n_v vs 0) 146) (w_fi ws (n_v vs 0) 147) (v_iv (Value.int x)) k3 ex2
  have nf1 : fc_1 PRD (23, [19, 3], [0, -1, 1]) ws (vs ++ [Value.int x, Value.int y, Value.int u]) := by
    refine ⟨nf_inA hl rfl, sgq_22 ?_⟩
    · show (-1) * v_iv (n_v (vs ++ [Value.int x, Value.int y, Value.int u]) 19) + (1 * v_iv (n_v (vs ++ [Value.int x, Value.int y, Value.int u]) 3) + 0) ≤ 0
      simp only [e_3, e_19]
      exact vc_Mo_backFrom_17_1 (v_iv (n_v vs 3)) (v_iv (n_v vs 8)) (v_iv (n_v vs 11)) (v_iv (n_v vs 14)) (w_fi ws (n_v vs 0) 146) (w_fi ws (n_v vs 0) 147) (v_iv (Value.int x)) k3 ex2
  have nf2 : fc_1 PRD (23, [20, 6], [0, 1, -1]) ws (vs ++ [Value.int x, Value.int y, Value.int u]) := by
    refine ⟨nf_inA hl rfl, sgq_7 ?_⟩
    · show 1 * v_iv (n_v (vs ++ [Value.int x, Value.int y, Value.int u]) 20) + ((-1) * v_iv (n_v (vs ++ [Value.int x, Value.int y, Value.int u]) 6) + 0) ≤ 0
      simp only [e_6, e_20, q6]
      exact vc_Mo_backFrom_17_2 (v_iv (n_v vs 2)) (v_iv (n_v vs 6)) (v_iv (n_v vs 8)) (v_iv (n_v vs 11)) (v_iv (n_v vs 14)) (v_iv (n_v vs 18)) (w_fi ws (n_v vs 0) 146) (w_fi ws (n_v vs 0) 147) (v_iv (Value.int y)) k2 k6 k18 d0 d1 d5 ey2
  have nf3 : fc_1 PRD (23, [20, 6], [0, -1, 1]) ws (vs ++ [Value.int x, Value.int y, Value.int u]) := by
    refine ⟨nf_inA hl rfl, sgq_22 ?_⟩
    · show (-1) * v_iv (n_v (vs ++ [Value.int x, Value.int y, Value.int u]) 20) + (1 * v_iv (n_v (vs ++ [Value.int x, Value.int y, Value.int u]) 6) + 0) ≤ 0
      simp only [e_6, e_20, q6]
      exact vc_Mo_backFrom_17_3 (v_iv (n_v vs 2)) (v_iv (n_v vs 6)) (v_iv (n_v vs 8)) (v_iv (n_v vs 11)) (v_iv (n_v vs 14)) (v_iv (n_v vs 18)) (w_fi ws (n_v vs 0) 146) (w_fi ws (n_v vs 0) 147) (v_iv (Value.int y)) k2 k6 k18 d0 d1 d5 ey2
  have nf4 : fc_1 PRD (23, [21, 5], [0, 1, -1]) ws (vs ++ [Value.int x, Value.int y, Value.int u]) := by
    refine ⟨nf_inA hl rfl, sgq_7 ?_⟩
    · show 1 * v_iv (n_v (vs ++ [Value.int x, Value.int y, Value.int u]) 21) + ((-1) * v_iv (n_v (vs ++ [Value.int x, Value.int y, Value.int u]) 5) + 0) ≤ 0
      simp only [e_5, e_21, q5]
      exact vc_Mo_backFrom_17_4 (v_iv (n_v vs 1)) (v_iv (n_v vs 5)) (v_iv (n_v vs 8)) (v_iv (n_v vs 11)) (v_iv (n_v vs 14)) (w_fi ws (n_v vs 0) 146) (w_fi ws (n_v vs 0) 147) (v_iv (Value.int u)) k1 k5 k8 d4 d6 f8 eu2
  have nf5 : fc_1 PRD (23, [21, 5], [0, -1, 1]) ws (vs ++ [Value.int x, Value.int y, Value.int u]) := by
    refine ⟨nf_inA hl rfl, sgq_22 ?_⟩
    · show (-1) * v_iv (n_v (vs ++ [Value.int x, Value.int y, Value.int u]) 21) + (1 * v_iv (n_v (vs ++ [Value.int x, Value.int y, Value.int u]) 5) + 0) ≤ 0
      simp only [e_5, e_21, q5]
      exact vc_Mo_backFrom_17_5 (v_iv (n_v vs 1)) (v_iv (n_v vs 5)) (v_iv (n_v vs 8)) (v_iv (n_v vs 11)) (v_iv (n_v vs 14)) (w_fi ws (n_v vs 0) 146) (w_fi ws (n_v vs 0) 147) (v_iv (Value.int u)) k1 k5 k8 d4 d6 f8 eu2
  have nf6 : fc_1 PRD (20, [4, 19, 20], [60, 2, 4, 495, 146, 147, 143, 140, 141, 142]) ws (vs ++ [Value.int x, Value.int y, Value.int u]) := by
    refine ⟨nf_inA hl rfl, sgq_691 ?_⟩
    · show RTQ (w_fi ws (n_v (vs ++ [Value.int x, Value.int y, Value.int u]) 4) 146) (w_fi ws (n_v (vs ++ [Value.int x, Value.int y, Value.int u]) 4) 147) (w_ei ws (w_ar ws (n_v (vs ++ [Value.int x, Value.int y, Value.int u]) 4) 143)) (w_ei ws (w_ar ws (n_v (vs ++ [Value.int x, Value.int y, Value.int u]) 4) 140)) (w_ei ws (w_ar ws (n_v (vs ++ [Value.int x, Value.int y, Value.int u]) 4) 141)) (w_ei ws (w_ar ws (n_v (vs ++ [Value.int x, Value.int y, Value.int u]) 4) 142)) (v_iv (n_v (vs ++ [Value.int x, Value.int y, Value.int u]) 19)) (v_iv (n_v (vs ++ [Value.int x, Value.int y, Value.int u]) 20))
      simp only [e_4, e_19, e_20, q4]
      exact vc_Mo_backFrom_17_6 (v_iv (n_v vs 2)) (v_iv (n_v vs 3)) (w_ei ws (w_ar ws (n_v vs 0) 143)) (w_ei ws (w_ar ws (n_v vs 0) 140)) (w_ei ws (w_ar ws (n_v vs 0) 141)) (w_ei ws (w_ar ws (n_v vs 0) 142)) (w_fi ws (n_v vs 0) 146) (w_fi ws (n_v vs 0) 147) (v_iv (Value.int x)) (v_iv (Value.int y)) k2 k3 f5 kz_0_146 kz_0_147 ex2 ey2
  have nf7 : fc_1 PRD (20, [4, 19, 20, 16, 18], [60, 2, 2, 498, 146, 147, 143, 140]) ws (vs ++ [Value.int x, Value.int y, Value.int u]) := by
    refine ⟨nf_inA hl rfl, sgq_692 ?_⟩
    · show RJB (w_fi ws (n_v (vs ++ [Value.int x, Value.int y, Value.int u]) 4) 146) (w_fi ws (n_v (vs ++ [Value.int x, Value.int y, Value.int u]) 4) 147) (w_ei ws (w_ar ws (n_v (vs ++ [Value.int x, Value.int y, Value.int u]) 4) 143)) (w_ei ws (w_ar ws (n_v (vs ++ [Value.int x, Value.int y, Value.int u]) 4) 140)) (v_iv (n_v (vs ++ [Value.int x, Value.int y, Value.int u]) 19)) (v_iv (n_v (vs ++ [Value.int x, Value.int y, Value.int u]) 20)) (v_iv (n_v (vs ++ [Value.int x, Value.int y, Value.int u]) 16)) (v_iv (n_v (vs ++ [Value.int x, Value.int y, Value.int u]) 18))
      simp only [e_4, e_16, e_18, e_19, e_20, q4]
      exact vc_Mo_backFrom_17_7 (v_iv (n_v vs 1)) (v_iv (n_v vs 2)) (v_iv (n_v vs 3)) (v_iv (n_v vs 5)) (v_iv (n_v vs 6)) (v_iv (n_v vs 8)) (v_iv (n_v vs 11)) (v_iv (n_v vs 12)) (v_iv (n_v vs 15)) (v_iv (n_v vs 16)) (v_iv (n_v vs 18)) (w_ei ws (w_ar ws (n_v vs 0) 143)) (w_ei ws (w_ar ws (n_v vs 0) 140)) (w_fi ws (n_v vs 0) 146) (w_fi ws (n_v vs 0) 147) (v_iv (Value.int x)) (v_iv (Value.int y)) (v_iv (Value.int u)) k1 k2 k3 k5 k6 k8 k11 k12 k15 k16 k18 d0 d1 d4 d5 d6 f1 f2 f3 f6 f7 f8 f9 kz_0_146 kz_0_147 ex2 ey2 eu2
  have nf8 : fc_1 PRD (20, [4, 21, 20], [60, 0, 1, 497, 140]) ws (vs ++ [Value.int x, Value.int y, Value.int u]) := by
    refine ⟨nf_inA hl rfl, sgq_693 ?_⟩
    · show PIV (w_ei ws (w_ar ws (n_v (vs ++ [Value.int x, Value.int y, Value.int u]) 4) 140)) (v_iv (n_v (vs ++ [Value.int x, Value.int y, Value.int u]) 21)) (v_iv (n_v (vs ++ [Value.int x, Value.int y, Value.int u]) 20))
      simp only [e_4, e_20, e_21, q4]
      exact vc_Mo_backFrom_17_8 (v_iv (n_v vs 1)) (v_iv (n_v vs 2)) (w_ei ws (w_ar ws (n_v vs 0) 140)) (v_iv (Value.int y)) (v_iv (Value.int u)) k1 k2 f6 ey2 eu2
  have nf9 : fc_1 PRD (20, [19, 3], [50, 0, 0, 1, 2, 1, 0, 1, 1]) ws (vs ++ [Value.int x, Value.int y, Value.int u]) := by
    refine ⟨nf_inA hl rfl, sgq_48 ?_⟩
    · show v_iv (n_v (vs ++ [Value.int x, Value.int y, Value.int u]) 19) = v_iv (n_v (vs ++ [Value.int x, Value.int y, Value.int u]) 3)
      simp only [e_3, e_19]
      exact vc_Mo_backFrom_17_9 (v_iv (n_v vs 3)) (v_iv (n_v vs 8)) (v_iv (n_v vs 11)) (v_iv (n_v vs 14)) (w_fi ws (n_v vs 0) 146) (w_fi ws (n_v vs 0) 147) (v_iv (Value.int x)) k3 ex2
  have nf10 : fc_1 PRD (20, [20, 6], [50, 0, 0, 1, 2, 1, 0, 1, 1]) ws (vs ++ [Value.int x, Value.int y, Value.int u]) := by
    refine ⟨nf_inA hl rfl, sgq_48 ?_⟩
    · show v_iv (n_v (vs ++ [Value.int x, Value.int y, Value.int u]) 20) = v_iv (n_v (vs ++ [Value.int x, Value.int y, Value.int u]) 6)
      simp only [e_6, e_20, q6]
      exact vc_Mo_backFrom_17_10 (v_iv (n_v vs 2)) (v_iv (n_v vs 8)) (v_iv (n_v vs 11)) (v_iv (n_v vs 14)) (w_fi ws (n_v vs 0) 146) (w_fi ws (n_v vs 0) 147) (v_iv (Value.int y)) k2 ey2
  have nf11 : fc_1 PRD (20, [21, 5], [50, 0, 0, 1, 2, 1, 0, 1, 1]) ws (vs ++ [Value.int x, Value.int y, Value.int u]) := by
    refine ⟨nf_inA hl rfl, sgq_48 ?_⟩
    · show v_iv (n_v (vs ++ [Value.int x, Value.int y, Value.int u]) 21) = v_iv (n_v (vs ++ [Value.int x, Value.int y, Value.int u]) 5)
      simp only [e_5, e_21, q5]
      exact vc_Mo_backFrom_17_11 (v_iv (n_v vs 1)) (v_iv (n_v vs 8)) (v_iv (n_v vs 11)) (v_iv (n_v vs 14)) (w_fi ws (n_v vs 0) 146) (w_fi ws (n_v vs 0) 147) (v_iv (Value.int u)) k1 eu2
  exact ⟨(fun _ h => (by cases h)), [Value.int x, Value.int y, Value.int u], ag_three hx hy hu, List.forall_mem_cons.mpr ⟨⟨show (23 : Nat) < 100 from by decide, nf0⟩, List.forall_mem_cons.mpr ⟨⟨show (23 : Nat) < 100 from by decide, nf1⟩, List.forall_mem_cons.mpr ⟨⟨show (23 : Nat) < 100 from by decide, nf2⟩, List.forall_mem_cons.mpr ⟨⟨show (23 : Nat) < 100 from by decide, nf3⟩, List.forall_mem_cons.mpr ⟨⟨show (23 : Nat) < 100 from by decide, nf4⟩, List.forall_mem_cons.mpr ⟨⟨show (23 : Nat) < 100 from by decide, nf5⟩, List.forall_mem_cons.mpr ⟨⟨show (20 : Nat) < 100 from by decide, nf6⟩, List.forall_mem_cons.mpr ⟨⟨show (20 : Nat) < 100 from by decide, nf7⟩, List.forall_mem_cons.mpr ⟨⟨show (20 : Nat) < 100 from by decide, nf8⟩, List.forall_mem_cons.mpr ⟨⟨show (20 : Nat) < 100 from by decide, nf9⟩, List.forall_mem_cons.mpr ⟨⟨show (20 : Nat) < 100 from by decide, nf10⟩, List.forall_mem_cons.mpr ⟨⟨show (20 : Nat) < 100 from by decide, nf11⟩, (fun _ h => (by cases h))⟩⟩⟩⟩⟩⟩⟩⟩⟩⟩⟩⟩, (fun _ h => (by cases h))⟩
set_option maxHeartbeats 4000000 in
theorem vc_Mo_backFrom_18_0 (x2 : Int) (x3 : Int) (x6 : Int) (x18 : Int) (x19 : Int) (x20 : Int) (barredPoint_0 : Int → Int) (wide_0 : Int) (tall_0 : Int) (costOf_0 : Int → Int) (bucket_0 : Int → Int) (bucketMany_0 : Int → Int) (k2 : 0 ≤ x2 ∧ x2 ≤ 1000000) (k3 : 0 ≤ x3 ∧ x3 ≤ 5999) (k6 : 0 ≤ x6 ∧ x6 ≤ 1000000) (k18 : 3 ≤ x18 ∧ x18 ≤ 1000003) (k19 : 0 ≤ x19 ∧ x19 ≤ 5999) (k20 : 0 ≤ x20 ∧ x20 ≤ 1000008) (d1 : x6 + 3 ≤ x18 ∧ x18 ≤ x6 + 3) (d2 : x2 + (-4294967296) ≤ x18 ∧ x18 ≤ x2 + 3) (d6 : x6 + (-4294967296) ≤ x2 ∧ x2 ≤ x6 + 0) (f1 : 1 * x19 + ((-1) * x3 + 0) ≤ 0) (f2 : (-1) * x19 + (1 * x3 + 0) ≤ 0) (f3 : 1 * x20 + ((-1) * x2 + 0) ≤ 0) (f4 : (-1) * x20 + (1 * x2 + 0) ≤ 0) (f17 : RTQ (wide_0) (tall_0) (barredPoint_0) (costOf_0) (bucket_0) (bucketMany_0) (x19) (x20)) (kz_0_146 : (-3999999) ≤ wide_0 ∧ wide_0 ≤ 600000023) (kz_0_147 : (-3999999) ≤ tall_0 ∧ tall_0 ≤ 600000007) : RTQ (wide_0) (tall_0) (barredPoint_0) (costOf_0) (bucket_0) (bucketMany_0) (x3) (x2) := by
  first
    | assumption
    | (rw [show x3 = x19 by omega, show x2 = x20 by omega]; assumption)
set_option maxHeartbeats 4000000 in
theorem vc_Mo_backFrom_18_1 (x1 : Int) (x2 : Int) (x5 : Int) (x6 : Int) (x18 : Int) (x20 : Int) (x21 : Int) (costOf_0 : Int → Int) (k1 : 0 ≤ x1 ∧ x1 ≤ 23999) (k2 : 0 ≤ x2 ∧ x2 ≤ 1000000) (k5 : 0 ≤ x5 ∧ x5 ≤ 23999) (k6 : 0 ≤ x6 ∧ x6 ≤ 1000000) (k18 : 3 ≤ x18 ∧ x18 ≤ 1000003) (k20 : 0 ≤ x20 ∧ x20 ≤ 1000008) (k21 : 0 ≤ x21 ∧ x21 ≤ 23999) (d1 : x6 + 3 ≤ x18 ∧ x18 ≤ x6 + 3) (d2 : x2 + (-4294967296) ≤ x18 ∧ x18 ≤ x2 + 3) (d5 : x5 + (-4294967296) ≤ x1 ∧ x1 ≤ x5 + 0) (d6 : x6 + (-4294967296) ≤ x2 ∧ x2 ≤ x6 + 0) (d7 : x1 + (-4294967296) ≤ x5 ∧ x5 ≤ x1 + 0) (f3 : 1 * x20 + ((-1) * x2 + 0) ≤ 0) (f4 : (-1) * x20 + (1 * x2 + 0) ≤ 0) (f5 : 1 * x21 + ((-1) * x1 + 0) ≤ 0) (f6 : (-1) * x21 + (1 * x1 + 0) ≤ 0) (f18 : PIV (costOf_0) (x21) (x20)) : PIV (costOf_0) (x1) (x2) := by
  first
    | assumption
    | (rw [show x1 = x21 by omega, show x2 = x20 by omega]; assumption)
def o_Mo_backFrom_18 : or_T := (94, 23, [(0, (2, 0, 0, [165])), (1, (0, 0, 23999, [])), (2, (0, 0, 1000000, [])), (3, (0, 0, 5999, [])), (4, (2, 0, 0, [165])), (5, (0, 0, 23999, [])), (6, (0, 0, 1000000, [])), (8, (0, 0, 3, [])), (11, (0, 0, 5999, [])), (12, (0, 0, 3, [])), (13, (0, 4, 4, [])), (14, (0, 4, 4, [])), (15, (0, 0, 23996, [])), (16, (0, 0, 23999, [])), (17, (0, 3, 3, [])), (18, (0, 3, 1000003, [])), (19, (0, 0, 5999, [])), (20, (0, 0, 1000008, [])), (21, (0, 0, 23999, [])), (22, (0, 1, 4, []))], [(6, [22, 12], [1]), (23, [19, 3], [0, 1, -1]), (23, [19, 3], [0, -1, 1]), (23, [20, 6], [0, 1, -1]), (23, [20, 6], [0, -1, 1]), (23, [21, 5], [0, 1, -1]), (23, [21, 5], [0, -1, 1]), (20, [19, 3], [50, 0, 0, 1, 2, 1, 0, 1, 1]), (20, [20, 6], [50, 0, 0, 1, 2, 1, 0, 1, 1]), (20, [21, 5], [50, 0, 0, 1, 2, 1, 0, 1, 1]), (20, [4, 5, 11], [60, 2, 1, 500, 146, 147, 143]), (20, [8, 5], [50, 0, 0, 1, 2, 1, 0, 9, 2, 1, 1, 0, 4]), (20, [6], [50, 0, 0, 2, 6, 0, 2, 0, 0, 1, 0, 0, 2, 1, 0, 0, 999999]), (20, [11, 4], [50, 2, 0, 1146, 1147, 2, 6, 0, 2, 0, 0, 1, 0, 0, 6, 4, 2, 1, 0, 0, 1, 6, 3, 2, 1, 146, 2, 1, 147]), (24, [0, 4], []), (24, [1, 5], []), (24, [2, 6], []), (20, [4, 19, 20], [60, 2, 4, 495, 146, 147, 143, 140, 141, 142]), (20, [4, 21, 20], [60, 0, 1, 497, 140]), (102, [21], [829997695653082488796156820542274923492239250083311563034831962168721313259061248]), (23, [19, 3], [0, 1, -1]), (23, [19, 3], [0, -1, 1]), (23, [20, 6], [0, 1, -1]), (23, [20, 6], [0, -1, 1]), (23, [21, 5], [0, 1, -1]), (23, [21, 5], [0, -1, 1]), (1, [18, 6, 17], []), (7, [12, 8], [1]), (1, [16, 15, 12], []), (3, [15, 14, 11], []), (7, [12, 13], [2])], [], [], [(20, [4, 3, 6], [60, 2, 4, 495, 146, 147, 143, 140, 141, 142]), (20, [4, 5, 6], [60, 0, 1, 497, 140])], [], [(22, 12, 1, 1), (18, 6, 3, 3), (18, 2, -4294967296, 3), (16, 12, 0, 23996), (16, 15, 0, 3), (1, 5, -4294967296, 0), (2, 6, -4294967296, 0), (5, 1, -4294967296, 0), (6, 2, -4294967296, 0), (8, 11, -4294967296, 2)])
theorem oo_Mo_backFrom_18 {kA : Nat → ClassId} : or_ok PRD kA GG o_Mo_backFrom_18 := by
  refine or_mk fun A ta ws vs hD hth hl => ?_
  intro t0 r0 t1 k1 t2 k2 t3 k3 t4 r4 t5 k5 t6 k6 t8 k8 t11 k11 t12 k12 t13 k13 t14 k14 t15 k15 t16 k16 t17 k17 t18 k18 t19 k19 t20 k20 t21 k21 t22 k22 d0 d1 d2 d3 d4 d5 d6 d7 d8 d9 f0 f1 f2 f3 f4 f5 f6 f7 f8 f9 f10 f11 f12 f13 f14 f15 f16 f17 f18 ta1 w1 le1 s1 f20 f21 f22 f23 f24 f25 f26 f27 f28 f29 f30
  replace f1 := shm_7 f1
  replace f2 := shm_22 f2
  replace f3 := shm_7 f3
  replace f4 := shm_22 f4
  replace f5 := shm_7 f5
  replace f6 := shm_22 f6
  replace f14 := shm_5 f14
  replace f15 := shm_5 f15
  replace f16 := shm_5 f16
  replace f17 := shm_691 f17
  replace f18 := shm_693 f18
  have q4 : n_v vs 4 = n_v vs 0 := f14.symm
  have q5 : n_v vs 5 = n_v vs 1 := f15.symm
  have q6 : n_v vs 6 = n_v vs 2 := f16.symm
  simp only [q6, q5, q4] at f3 f4 f5 f6 f17 f18
  have kz_0_146 := fdq_178 hD hth r0
  have kz_0_147 := fdq_179 hD hth r0
  have nf0 : fc_1 PRD (20, [4, 3, 6], [60, 2, 4, 495, 146, 147, 143, 140, 141, 142]) ws (vs) := by
    refine ⟨nf_in hl rfl, sgq_691 ?_⟩
    · show RTQ (w_fi ws (n_v vs 4) 146) (w_fi ws (n_v vs 4) 147) (w_ei ws (w_ar ws (n_v vs 4) 143)) (w_ei ws (w_ar ws (n_v vs 4) 140)) (w_ei ws (w_ar ws (n_v vs 4) 141)) (w_ei ws (w_ar ws (n_v vs 4) 142)) (v_iv (n_v vs 3)) (v_iv (n_v vs 6))
      simp only [q4, q6]
      exact vc_Mo_backFrom_18_0 (v_iv (n_v vs 2)) (v_iv (n_v vs 3)) (v_iv (n_v vs 6)) (v_iv (n_v vs 18)) (v_iv (n_v vs 19)) (v_iv (n_v vs 20)) (w_ei ws (w_ar ws (n_v vs 0) 143)) (w_fi ws (n_v vs 0) 146) (w_fi ws (n_v vs 0) 147) (w_ei ws (w_ar ws (n_v vs 0) 140)) (w_ei ws (w_ar ws (n_v vs 0) 141)) (w_ei ws (w_ar ws (n_v vs 0) 142)) k2 k3 k6 k18 k19 k20 d1 d2 d6 f1 f2 f3 f4 f17 kz_0_146 kz_0_147
  have nf1 : fc_1 PRD (20, [4, 5, 6], [60, 0, 1, 497, 140]) ws (vs) := by
    refine ⟨nf_in hl rfl, sgq_693 ?_⟩
    · show PIV (w_ei ws (w_ar ws (n_v vs 4) 140)) (v_iv (n_v vs 5)) (v_iv (n_v vs 6))
      simp only [q4, q5, q6]
      exact vc_Mo_backFrom_18_1 (v_iv (n_v vs 1)) (v_iv (n_v vs 2)) (v_iv (n_v vs 5)) (v_iv (n_v vs 6)) (v_iv (n_v vs 18)) (v_iv (n_v vs 20)) (v_iv (n_v vs 21)) (w_ei ws (w_ar ws (n_v vs 0) 140)) k1 k2 k5 k6 k18 k20 k21 d1 d2 d5 d6 d7 f3 f4 f5 f6 f18
  refine ⟨(fun _ h => (by cases h)), [], trivial, ?_, (fun _ h => (by cases h))⟩
  rw [List.append_nil]
  exact List.forall_mem_cons.mpr ⟨⟨show (20 : Nat) < 100 from by decide, nf0⟩, List.forall_mem_cons.mpr ⟨⟨show (20 : Nat) < 100 from by decide, nf1⟩, (fun _ h => (by cases h))⟩⟩
set_option maxHeartbeats 4000000 in
theorem vc_Mo_backFrom_19_0 (x3 : Int) (x8 : Int) (x11 : Int) (x14 : Int) (wide_0 : Int) (tall_0 : Int) (gx : Int) (k3 : 0 ≤ x3 ∧ x3 ≤ 5999) (ex2 : gx = x3) : 1 * gx + ((-1) * x3 + 0) ≤ 0 := by
  first
    | omega
    | (have h := ‹BFP _ _ _ _ _›.2.2.1; omega)
set_option maxHeartbeats 4000000 in
theorem vc_Mo_backFrom_19_1 (x3 : Int) (x8 : Int) (x11 : Int) (x14 : Int) (wide_0 : Int) (tall_0 : Int) (gx : Int) (k3 : 0 ≤ x3 ∧ x3 ≤ 5999) (ex2 : gx = x3) : (-1) * gx + (1 * x3 + 0) ≤ 0 := by
  first
    | omega
    | (have h := ‹BFP _ _ _ _ _›.2.2.1; omega)
set_option maxHeartbeats 4000000 in
theorem vc_Mo_backFrom_19_2 (x2 : Int) (x6 : Int) (x8 : Int) (x11 : Int) (x14 : Int) (x18 : Int) (wide_0 : Int) (tall_0 : Int) (gy : Int) (k2 : 0 ≤ x2 ∧ x2 ≤ 1000000) (k6 : 0 ≤ x6 ∧ x6 ≤ 1000000) (k18 : 1 ≤ x18 ∧ x18 ≤ 1000001) (d0 : x6 + 1 ≤ x18 ∧ x18 ≤ x6 + 1) (d1 : x2 + (-4294967296) ≤ x18 ∧ x18 ≤ x2 + 1) (d6 : x6 + (-4294967296) ≤ x2 ∧ x2 ≤ x6 + 0) (ey2 : gy = x2) : 1 * gy + ((-1) * x2 + 0) ≤ 0 := by
  first
    | omega
    | (have h := ‹BFP _ _ _ _ _›.2.2.1; omega)
set_option maxHeartbeats 4000000 in
theorem vc_Mo_backFrom_19_3 (x2 : Int) (x6 : Int) (x8 : Int) (x11 : Int) (x14 : Int) (x18 : Int) (wide_0 : Int) (tall_0 : Int) (gy : Int) (k2 : 0 ≤ x2 ∧ x2 ≤ 1000000) (k6 : 0 ≤ x6 ∧ x6 ≤ 1000000) (k18 : 1 ≤ x18 ∧ x18 ≤ 1000001) (d0 : x6 + 1 ≤ x18 ∧ x18 ≤ x6 + 1) (d1 : x2 + (-4294967296) ≤ x18 ∧ x18 ≤ x2 + 1) (d6 : x6 + (-4294967296) ≤ x2 ∧ x2 ≤ x6 + 0) (ey2 : gy = x2) : (-1) * gy + (1 * x2 + 0) ≤ 0 := by
  first
    | omega
    | (have h := ‹BFP _ _ _ _ _›.2.2.1; omega)
set_option maxHeartbeats 4000000 in
theorem vc_Mo_backFrom_19_4 (x1 : Int) (x5 : Int) (x8 : Int) (x11 : Int) (x12 : Int) (x14 : Int) (x15 : Int) (x16 : Int) (wide_0 : Int) (tall_0 : Int) (gu : Int) (k1 : 0 ≤ x1 ∧ x1 ≤ 23999) (k5 : 0 ≤ x5 ∧ x5 ≤ 23999) (k8 : 0 ≤ x8 ∧ x8 ≤ 3) (k11 : 0 ≤ x11 ∧ x11 ≤ 5999) (k12 : 0 ≤ x12 ∧ x12 ≤ 3) (k15 : 0 ≤ x15 ∧ x15 ≤ 23996) (k16 : 0 ≤ x16 ∧ x16 ≤ 23999) (d2 : x8 + 0 ≤ x12 ∧ x12 ≤ x8 + 0) (d5 : x5 + (-4294967296) ≤ x1 ∧ x1 ≤ x5 + 0) (d7 : x1 + (-4294967296) ≤ x5 ∧ x5 ≤ x1 + 0) (f2 : x16 = x15 + x12) (f3 : x15 = 4 * x11) (f8 : x8 = (x1 % 4)) (eu2 : gu = x1) : 1 * gu + ((-1) * x1 + 0) ≤ 0 := by
  first
    | omega
    | (have h := ‹BFP _ _ _ _ _›.2.2.1; omega)
set_option maxHeartbeats 4000000 in
theorem vc_Mo_backFrom_19_5 (x1 : Int) (x5 : Int) (x8 : Int) (x11 : Int) (x12 : Int) (x14 : Int) (x15 : Int) (x16 : Int) (wide_0 : Int) (tall_0 : Int) (gu : Int) (k1 : 0 ≤ x1 ∧ x1 ≤ 23999) (k5 : 0 ≤ x5 ∧ x5 ≤ 23999) (k8 : 0 ≤ x8 ∧ x8 ≤ 3) (k11 : 0 ≤ x11 ∧ x11 ≤ 5999) (k12 : 0 ≤ x12 ∧ x12 ≤ 3) (k15 : 0 ≤ x15 ∧ x15 ≤ 23996) (k16 : 0 ≤ x16 ∧ x16 ≤ 23999) (d2 : x8 + 0 ≤ x12 ∧ x12 ≤ x8 + 0) (d5 : x5 + (-4294967296) ≤ x1 ∧ x1 ≤ x5 + 0) (d7 : x1 + (-4294967296) ≤ x5 ∧ x5 ≤ x1 + 0) (f2 : x16 = x15 + x12) (f3 : x15 = 4 * x11) (f8 : x8 = (x1 % 4)) (eu2 : gu = x1) : (-1) * gu + (1 * x1 + 0) ≤ 0 := by
  first
    | omega
    | (have h := ‹BFP _ _ _ _ _›.2.2.1; omega)
set_option maxHeartbeats 4000000 in
theorem vc_Mo_backFrom_19_6 (x2 : Int) (x3 : Int) (barredPoint_0 : Int → Int) (costOf_0 : Int → Int) (bucket_0 : Int → Int) (bucketMany_0 : Int → Int) (wide_0 : Int) (tall_0 : Int) (gx : Int) (gy : Int) (k2 : 0 ≤ x2 ∧ x2 ≤ 1000000) (k3 : 0 ≤ x3 ∧ x3 ≤ 5999) (f5 : RTQ (wide_0) (tall_0) (barredPoint_0) (costOf_0) (bucket_0) (bucketMany_0) (x3) (x2)) (kz_0_146 : (-3999999) ≤ wide_0 ∧ wide_0 ≤ 600000023) (kz_0_147 : (-3999999) ≤ tall_0 ∧ tall_0 ≤ 600000007) (ex2 : gx = x3) (ey2 : gy = x2) : RTQ (wide_0) (tall_0) (barredPoint_0) (costOf_0) (bucket_0) (bucketMany_0) (gx) (gy) := by
  first
    | assumption
    | (rw [ex2, ey2]; assumption)
set_option maxHeartbeats 4000000 in
theorem vc_Mo_backFrom_19_7 (x1 : Int) (x2 : Int) (x3 : Int) (x5 : Int) (x6 : Int) (x8 : Int) (x11 : Int) (x12 : Int) (x15 : Int) (x16 : Int) (x18 : Int) (barredPoint_0 : Int → Int) (costOf_0 : Int → Int) (wide_0 : Int) (tall_0 : Int) (gx : Int) (gy : Int) (gu : Int) (k1 : 0 ≤ x1 ∧ x1 ≤ 23999) (k2 : 0 ≤ x2 ∧ x2 ≤ 1000000) (k3 : 0 ≤ x3 ∧ x3 ≤ 5999) (k5 : 0 ≤ x5 ∧ x5 ≤ 23999) (k6 : 0 ≤ x6 ∧ x6 ≤ 1000000) (k8 : 0 ≤ x8 ∧ x8 ≤ 3) (k11 : 0 ≤ x11 ∧ x11 ≤ 5999) (k12 : 0 ≤ x12 ∧ x12 ≤ 3) (k15 : 0 ≤ x15 ∧ x15 ≤ 23996) (k16 : 0 ≤ x16 ∧ x16 ≤ 23999) (k18 : 1 ≤ x18 ∧ x18 ≤ 1000001) (d0 : x6 + 1 ≤ x18 ∧ x18 ≤ x6 + 1) (d1 : x2 + (-4294967296) ≤ x18 ∧ x18 ≤ x2 + 1) (d2 : x8 + 0 ≤ x12 ∧ x12 ≤ x8 + 0) (d5 : x5 + (-4294967296) ≤ x1 ∧ x1 ≤ x5 + 0) (d6 : x6 + (-4294967296) ≤ x2 ∧ x2 ≤ x6 + 0) (d7 : x1 + (-4294967296) ≤ x5 ∧ x5 ≤ x1 + 0) (f2 : x16 = x15 + x12) (f3 : x15 = 4 * x11) (f6 : PIV (costOf_0) (x1) (x2)) (f7 : BFP (wide_0) (tall_0) (barredPoint_0) (x1) (x11)) (f8 : x8 = (x1 % 4)) (f9 : (0 ≤ x2) ∧ (x2 ≤ 999999)) (kz_0_146 : (-3999999) ≤ wide_0 ∧ wide_0 ≤ 600000023) (kz_0_147 : (-3999999) ≤ tall_0 ∧ tall_0 ≤ 600000007) (ex2 : gx = x3) (ey2 : gy = x2) (eu2 : gu = x1) : RJB (wide_0) (tall_0) (barredPoint_0) (costOf_0) (gx) (gy) (x16) (x18) := by
  rw [ex2, ey2]
  exact rjb_b (p := x11) (f := x12) (d := x8) ‹BFP _ _ _ _ _› ‹PIV _ _ _› (by omega) (by omega) (by omega) (by omega) (by omega) (by omega)
set_option maxHeartbeats 4000000 in
theorem vc_Mo_backFrom_19_8 (x1 : Int) (x2 : Int) (costOf_0 : Int → Int) (gy : Int) (gu : Int) (k1 : 0 ≤ x1 ∧ x1 ≤ 23999) (k2 : 0 ≤ x2 ∧ x2 ≤ 1000000) (f6 : PIV (costOf_0) (x1) (x2)) (ey2 : gy = x2) (eu2 : gu = x1) : PIV (costOf_0) (gu) (gy) := by
  first
    | assumption
    | (rw [eu2, ey2]; assumption)
    | (rw [ey2, eu2]; assumption)
set_option maxHeartbeats 4000000 in
theorem vc_Mo_backFrom_19_9 (x3 : Int) (x8 : Int) (x11 : Int) (x14 : Int) (wide_0 : Int) (tall_0 : Int) (gx : Int) (k3 : 0 ≤ x3 ∧ x3 ≤ 5999) (ex2 : gx = x3) : gx = x3 := by
  first
    | omega
    | (have h := ‹BFP _ _ _ _ _›.2.2.1; omega)
set_option maxHeartbeats 4000000 in
theorem vc_Mo_backFrom_19_10 (x2 : Int) (x8 : Int) (x11 : Int) (x14 : Int) (wide_0 : Int) (tall_0 : Int) (gy : Int) (k2 : 0 ≤ x2 ∧ x2 ≤ 1000000) (ey2 : gy = x2) : gy = x2 := by
  first
    | omega
    | (have h := ‹BFP _ _ _ _ _›.2.2.1; omega)
set_option maxHeartbeats 4000000 in
theorem vc_Mo_backFrom_19_11 (x1 : Int) (x8 : Int) (x11 : Int) (x14 : Int) (wide_0 : Int) (tall_0 : Int) (gu : Int) (k1 : 0 ≤ x1 ∧ x1 ≤ 23999) (eu2 : gu = x1) : gu = x1 := by
  first
    | omega
    | (have h := ‹BFP _ _ _ _ _›.2.2.1; omega)
def o_Mo_backFrom_19 : or_T := (122, 19, [(0, (2, 0, 0, [165])), (1, (0, 0, 23999, [])), (2, (0, 0, 1000000, [])), (3, (0, 0, 5999, [])), (4, (2, 0, 0, [165])), (5, (0, 0, 23999, [])), (6, (0, 0, 1000000, [])), (8, (0, 0, 3, [])), (11, (0, 0, 5999, [])), (12, (0, 0, 3, [])), (13, (0, 4, 4, [])), (14, (0, 4, 4, [])), (15, (0, 0, 23996, [])), (16, (0, 0, 23999, [])), (17, (0, 1, 1, [])), (18, (0, 1, 1000001, []))], [(1, [18, 6, 17], []), (7, [12, 8], [0]), (1, [16, 15, 12], []), (3, [15, 14, 11], []), (7, [12, 13], [2]), (20, [4, 3, 6], [60, 2, 4, 495, 146, 147, 143, 140, 141, 142]), (20, [4, 5, 6], [60, 0, 1, 497, 140]), (20, [4, 5, 11], [60, 2, 1, 500, 146, 147, 143]), (20, [8, 5], [50, 0, 0, 1, 2, 1, 0, 9, 2, 1, 1, 0, 4]), (20, [6], [50, 0, 0, 2, 6, 0, 2, 0, 0, 1, 0, 0, 2, 1, 0, 0, 999999]), (20, [11, 4], [50, 2, 0, 1146, 1147, 2, 6, 0, 2, 0, 0, 1, 0, 0, 6, 4, 2, 1, 0, 0, 1, 6, 3, 2, 1, 146, 2, 1, 147]), (24, [0, 4], []), (24, [1, 5], []), (24, [2, 6], [])], [], [(0, 0, 5999, []), (0, 0, 1000008, []), (0, 0, 23999, [])], [(23, [19, 3], [0, 1, -1]), (23, [19, 3], [0, -1, 1]), (23, [20, 6], [0, 1, -1]), (23, [20, 6], [0, -1, 1]), (23, [21, 5], [0, 1, -1]), (23, [21, 5], [0, -1, 1]), (20, [4, 19, 20], [60, 2, 4, 495, 146, 147, 143, 140, 141, 142]), (20, [4, 19, 20, 16, 18], [60, 2, 2, 498, 146, 147, 143, 140]), (20, [4, 21, 20], [60, 0, 1, 497, 140]), (20, [19, 3], [50, 0, 0, 1, 2, 1, 0, 1, 1]), (20, [20, 6], [50, 0, 0, 1, 2, 1, 0, 1, 1]), (20, [21, 5], [50, 0, 0, 1, 2, 1, 0, 1, 1])], [], [(18, 6, 1, 1), (18, 2, -4294967296, 1), (12, 8, 0, 0), (16, 12, 0, 23996), (16, 15, 0, 3), (1, 5, -4294967296, 0), (2, 6, -4294967296, 0), (5, 1, -4294967296, 0), (6, 2, -4294967296, 0), (8, 11, -4294967296, 2)])
theorem oo_Mo_backFrom_19 {kA : Nat → ClassId} : or_ok PRD kA GG o_Mo_backFrom_19 := by
  refine or_mk fun A ta ws vs hD hth hl => ?_
  intro t0 r0 t1 k1 t2 k2 t3 k3 t4 r4 t5 k5 t6 k6 t8 k8 t11 k11 t12 k12 t13 k13 t14 k14 t15 k15 t16 k16 t17 k17 t18 k18 d0 d1 d2 d3 d4 d5 d6 d7 d8 d9 f0 f1 f2 f3 f4 f5 f6 f7 f8 f9 f10 f11 f12 f13
  replace f2 := shm_12 f2
  replace f3 := shm_38 f3
  rw [show v_iv (n_v vs 14) = 4 from by omega] at f3
  replace f5 := shm_691 f5
  replace f6 := shm_693 f6
  replace f7 := shm_1374 f7
  replace f8 := shm_1375 f8
  replace f9 := shm_1373 f9
  replace f11 := shm_5 f11
  replace f12 := shm_5 f12
  replace f13 := shm_5 f13
  have q4 : n_v vs 4 = n_v vs 0 := f11.symm
  have q5 : n_v vs 5 = n_v vs 1 := f12.symm
  have q6 : n_v vs 6 = n_v vs 2 := f13.symm
  simp only [q6, q4, q5] at f5 f6 f7 f8 f9
  have kz_0_146 := fdq_178 hD hth r0
  have kz_0_147 := fdq_179 hD hth r0
  obtain ⟨x, ex, hx⟩ := iv_ex (ta := ta) (lo := 0) (hi := 5999) (z := v_iv (n_v vs 3)) (by omega) (by omega) (by omega) (by omega)
  have ex2 : v_iv (Value.int x) = v_iv (n_v vs 3) := ex
  have ex3 : 0 ≤ v_iv (Value.int x) ∧ v_iv (Value.int x) ≤ 5999 := tv_rng hx
  obtain ⟨y, ey, hy⟩ := iv_ex (ta := ta) (lo := 0) (hi := 1000008) (z := v_iv (n_v vs 2)) (by omega) (by omega) (by omega) (by omega)
  have ey2 : v_iv (Value.int y) = v_iv (n_v vs 2) := ey
  have ey3 : 0 ≤ v_iv (Value.int y) ∧ v_iv (Value.int y) ≤ 1000008 := tv_rng hy
  obtain ⟨u, eu, hu⟩ := iv_ex (ta := ta) (lo := 0) (hi := 23999) (z := v_iv (n_v vs 1)) (by omega) (by omega) (by omega) (by omega)
  have eu2 : v_iv (Value.int u) = v_iv (n_v vs 1) := eu
  have eu3 : 0 ≤ v_iv (Value.int u) ∧ v_iv (Value.int u) ≤ 23999 := tv_rng hu
  have e_3 : n_v (vs ++ [Value.int x, Value.int y, Value.int u]) 3 = n_v vs 3 := n_v_old (by rw [hl]; decide)
  have e_4 : n_v (vs ++ [Value.int x, Value.int y, Value.int u]) 4 = n_v vs 4 := n_v_old (by rw [hl]; decide)
  have e_5 : n_v (vs ++ [Value.int x, Value.int y, Value.int u]) 5 = n_v vs 5 := n_v_old (by rw [hl]; decide)
  have e_6 : n_v (vs ++ [Value.int x, Value.int y, Value.int u]) 6 = n_v vs 6 := n_v_old (by rw [hl]; decide)
  have e_16 : n_v (vs ++ [Value.int x, Value.int y, Value.int u]) 16 = n_v vs 16 := n_v_old (by rw [hl]; decide)
  have e_18 : n_v (vs ++ [Value.int x, Value.int y, Value.int u]) 18 = n_v vs 18 := n_v_old (by rw [hl]; decide)
  have e_19 : n_v (vs ++ [Value.int x, Value.int y, Value.int u]) 19 = Value.int x := n_v_newk (k := 0) hl rfl
  have e_20 : n_v (vs ++ [Value.int x, Value.int y, Value.int u]) 20 = Value.int y := n_v_newk (k := 1) hl rfl
  have e_21 : n_v (vs ++ [Value.int x, Value.int y, Value.int u]) 21 = Value.int u := n_v_newk (k := 2) hl rfl
  have nf0 : fc_1 PRD (23, [19, 3], [0, 1, -1]) ws (vs ++ [Value.int x, Value.int y, Value.int u]) := by
    refine ⟨nf_inA hl rfl, sgq_7 ?_⟩
    · show 1 * v_iv (n_v (vs ++ [Value.int x, Value.int y, Value.int u]) 19) + ((-1) * v_iv (n_v (vs ++ [Value.int x, Value.int y, Value.int u]) 3) + 0) ≤ 0
      simp only [e_3, e_19]
      exact vc_Mo_backFrom_19_0 (v_iv (n_v vs 3)) (v_iv (n_v vs 8)) (v_iv (n_v vs 11)) (v_iv (n_v vs 14)) (w_fi ws (n_v vs 0) 146) (w_fi ws (n_v vs 0) 147) (v_iv (Value.int x)) k3 ex2
  have nf1 : fc_1 PRD (23, [19, 3], [0, -1, 1]) ws (vs ++ [Value.int x, Value.int y, Value.int u]) := by
    refine ⟨nf_inA hl rfl, sgq_22 ?_⟩
    · show (-1) * v_iv (n_v (vs ++ [Value.int x, Value.int y, Value.int u]) 19) + (1 * v_iv (n_v (vs ++ [Value.int x, Value.int y, Value.int u]) 3) + 0) ≤ 0
      simp only [e_3, e_19]
      exact vc_Mo_backFrom_19_1 (v_iv (n_v vs 3)) (v_iv (n_v vs 8)) (v_iv (n_v vs 11)) (v_iv (n_v vs 14)) (w_fi ws (n_v vs 0) 146) (w_fi ws (n_v vs 0) 147) (v_iv (Value.int x)) k3 ex2
  have nf2 : fc_1 PRD (23, [20, 6], [0, 1, -1]) ws (vs ++ [Value.int x, Value.int y, Value.int u]) := by
    refine ⟨nf_inA hl rfl, sgq_7 ?_⟩
    · show 1 * v_iv (n_v (vs ++ [Value.int x, Value.int y, Value.int u]) 20) + ((-1) * v_iv (n_v (vs ++ [Value.int x, Value.int y, Value.int u]) 6) + 0) ≤ 0
      simp only [e_6, e_20, q6]
      exact vc_Mo_backFrom_19_2 (v_iv (n_v vs 2)) (v_iv (n_v vs 6)) (v_iv (n_v vs 8)) (v_iv (n_v vs 11)) (v_iv (n_v vs 14)) (v_iv (n_v vs 18)) (w_fi ws (n_v vs 0) 146) (w_fi ws (n_v vs 0) 147) (v_iv (Value.int y)) k2 k6 k18 d0 d1 d6 ey2
  have nf3 : fc_1 PRD (23, [20, 6], [0, -1, 1]) ws (vs ++ [Value.int x, Value.int y, Value.int u]) := by
    refine ⟨nf_inA hl rfl, sgq_22 ?_⟩
    · show (-1) * v_iv (n_v (vs ++ [Value.int x, Value.int y, Value.int u]) 20) + (1 * v_iv (n_v (vs ++ [Value.int x, Value.int y, Value.int u]) 6) + 0) ≤ 0
      simp only [e_6, e_20, q6]
      exact vc_Mo_backFrom_19_3 (v_iv (n_v vs 2)) (v_iv (n_v vs 6)) (v_iv (n_v vs 8)) (v_iv (n_v vs 11)) (v_iv (n_v vs 14)) (v_iv (n_v vs 18)) (w_fi ws (n_v vs 0) 146) (w_fi ws (n_v vs 0) 147) (v_iv (Value.int y)) k2 k6 k18 d0 d1 d6 ey2
  have nf4 : fc_1 PRD (23, [21, 5], [0, 1, -1]) ws (vs ++ [Value.int x, Value.int y, Value.int u]) := by
    refine ⟨nf_inA hl rfl, sgq_7 ?_⟩
    · show 1 * v_iv (n_v (vs ++ [Value.int x, Value.int y, Value.int u]) 21) + ((-1) * v_iv (n_v (vs ++ [Value.int x, Value.int y, Value.int u]) 5) + 0) ≤ 0
      simp only [e_5, e_21, q5]
      exact vc_Mo_backFrom_19_4 (v_iv (n_v vs 1)) (v_iv (n_v vs 5)) (v_iv (n_v vs 8)) (v_iv (n_v vs 11)) (v_iv (n_v vs 12)) (v_iv (n_v vs 14)) (v_iv (n_v vs 15)) (v_iv (n_v vs 16)) (w_fi ws (n_v vs 0) 146) (w_fi ws (n_v vs 0) 147) (v_iv (Value.int u)) k1 k5 k8 k11 k12 k15 k16 d2 d5 d7 f2 f3 f8 eu2
  have nf5 : fc_1 PRD (23, [21, 5], [0, -1, 1]) ws (vs ++ [Value.int x, Value.int y, Value.int u]) := by
    refine ⟨nf_inA hl rfl, sgq_22 ?_⟩
    · show (-1) * v_iv (n_v (vs ++ [Value.int x, Value.int y, Value.int u]) 21) + (1 * v_iv (n_v (vs ++ [Value.int x, Value.int y, Value.int u]) 5) + 0) ≤ 0
      simp only [e_5, e_21, q5]
      exact vc_Mo_backFrom_19_5 (v_iv (n_v vs 1)) (v_iv (n_v vs 5)) (v_iv (n_v vs 8)) (v_iv (n_v vs 11)) (v_iv (n_v vs 12)) (v_iv (n_v vs 14)) (v_iv (n_v vs 15)) (v_iv (n_v vs 16)) (w_fi ws (n_v vs 0) 146) (w_fi ws (n_v vs 0) 147) (v_iv (Value.int u)) k1 k5 k8 k11 k12 k15 k16 d2 d5 d7 f2 f3 f8 eu2
  have nf6 : fc_1 PRD (20, [4, 19, 20], [60, 2, 4, 495, 146, 147, 143, 140, 141, 142]) ws (vs ++ [Value.int x, Value.int y, Value.int u]) := by
    refine ⟨nf_inA hl rfl, sgq_691 ?_⟩
    · show RTQ (w_fi ws (n_v (vs ++ [Value.int x, Value.int y, Value.int u]) 4) 146) (w_fi ws (n_v (vs ++ [Value.int x, Value.int y, Value.int u]) 4) 147) (w_ei ws (w_ar ws (n_v (vs ++ [Value.int x, Value.int y, Value.int u]) 4) 143)) (w_ei ws (w_ar ws (n_v (vs ++ [Value.int x, Value.int y, Value.int u]) 4) 140)) (w_ei ws (w_ar ws (n_v (vs ++ [Value.int x, Value.int y, Value.int u]) 4) 141)) (w_ei ws (w_ar ws (n_v (vs ++ [Value.int x, Value.int y, Value.int u]) 4) 142)) (v_iv (n_v (vs ++ [Value.int x, Value.int y, Value.int u]) 19)) (v_iv (n_v (vs ++ [Value.int x, Value.int y, Value.int u]) 20))
      simp only [e_4, e_19, e_20, q4]
      exact vc_Mo_backFrom_19_6 (v_iv (n_v vs 2)) (v_iv (n_v vs 3)) (w_ei ws (w_ar ws (n_v vs 0) 143)) (w_ei ws (w_ar ws (n_v vs 0) 140)) (w_ei ws (w_ar ws (n_v vs 0) 141)) (w_ei ws (w_ar ws (n_v vs 0) 142)) (w_fi ws (n_v vs 0) 146) (w_fi ws (n_v vs 0) 147) (v_iv (Value.int x)) (v_iv (Value.int y)) k2 k3 f5 kz_0_146 kz_0_147 ex2 ey2
  have nf7 : fc_1 PRD (20, [4, 19, 20, 16, 18], [60, 2, 2, 498, 146, 147, 143, 140]) ws (vs ++ [Value.int x, Value.int y, Value.int u]) := by
    refine ⟨nf_inA hl rfl, sgq_692 ?_⟩
    · show RJB (w_fi ws (n_v (vs ++ [Value.int x, Value.int y, Value.int u]) 4) 146) (w_fi ws (n_v (vs ++ [Value.int x, Value.int y, Value.int u]) 4) 147) (w_ei ws (w_ar ws (n_v (vs ++ [Value.int x, Value.int y, Value.int u]) 4) 143)) (w_ei ws (w_ar ws (n_v (vs ++ [Value.int x, Value.int y, Value.int u]) 4) 140)) (v_iv (n_v (vs ++ [Value.int x, Value.int y, Value.int u]) 19)) (v_iv (n_v (vs ++ [Value.int x, Value.int y, Value.int u]) 20)) (v_iv (n_v (vs ++ [Value.int x, Value.int y, Value.int u]) 16)) (v_iv (n_v (vs ++ [Value.int x, Value.int y, Value.int u]) 18))
      simp only [e_4, e_16, e_18, e_19, e_20, q4]
      exact vc_Mo_backFrom_19_7 (v_iv (n_v vs 1)) (v_iv (n_v vs 2)) (v_iv (n_v vs 3)) (v_iv (n_v vs 5)) (v_iv (n_v vs 6)) (v_iv (n_v vs 8)) (v_iv (n_v vs 11)) (v_iv (n_v vs 12)) (v_iv (n_v vs 15)) (v_iv (n_v vs 16)) (v_iv (n_v vs 18)) (w_ei ws (w_ar ws (n_v vs 0) 143)) (w_ei ws (w_ar ws (n_v vs 0) 140)) (w_fi ws (n_v vs 0) 146) (w_fi ws (n_v vs 0) 147) (v_iv (Value.int x)) (v_iv (Value.int y)) (v_iv (Value.int u)) k1 k2 k3 k5 k6 k8 k11 k12 k15 k16 k18 d0 d1 d2 d5 d6 d7 f2 f3 f6 f7 f8 f9 kz_0_146 kz_0_147 ex2 ey2 eu2
  have nf8 : fc_1 PRD (20, [4, 21, 20], [60, 0, 1, 497, 140]) ws (vs ++ [Value.int x, Value.int y, Value.int u]) := by
    refine ⟨nf_inA hl rfl, sgq_693 ?_⟩
    · show PIV (w_ei ws (w_ar ws (n_v (vs ++ [Value.int x, Value.int y, Value.int u]) 4) 140)) (v_iv (n_v (vs ++ [Value.int x, Value.int y, Value.int u]) 21)) (v_iv (n_v (vs ++ [Value.int x, Value.int y, Value.int u]) 20))
      simp only [e_4, e_20, e_21, q4]
      exact vc_Mo_backFrom_19_8 (v_iv (n_v vs 1)) (v_iv (n_v vs 2)) (w_ei ws (w_ar ws (n_v vs 0) 140)) (v_iv (Value.int y)) (v_iv (Value.int u)) k1 k2 f6 ey2 eu2
  have nf9 : fc_1 PRD (20, [19, 3], [50, 0, 0, 1, 2, 1, 0, 1, 1]) ws (vs ++ [Value.int x, Value.int y, Value.int u]) := by
    refine ⟨nf_inA hl rfl, sgq_48 ?_⟩
    · show v_iv (n_v (vs ++ [Value.int x, Value.int y, Value.int u]) 19) = v_iv (n_v (vs ++ [Value.int x, Value.int y, Value.int u]) 3)
      simp only [e_3, e_19]
      exact vc_Mo_backFrom_19_9 (v_iv (n_v vs 3)) (v_iv (n_v vs 8)) (v_iv (n_v vs 11)) (v_iv (n_v vs 14)) (w_fi ws (n_v vs 0) 146) (w_fi ws (n_v vs 0) 147) (v_iv (Value.int x)) k3 ex2
  have nf10 : fc_1 PRD (20, [20, 6], [50, 0, 0, 1, 2, 1, 0, 1, 1]) ws (vs ++ [Value.int x, Value.int y, Value.int u]) := by
    refine ⟨nf_inA hl rfl, sgq_48 ?_⟩
    · show v_iv (n_v (vs ++ [Value.int x, Value.int y, Value.int u]) 20) = v_iv (n_v (vs ++ [Value.int x, Value.int y, Value.int u]) 6)
      simp only [e_6, e_20, q6]
      exact vc_Mo_backFrom_19_10 (v_iv (n_v vs 2)) (v_iv (n_v vs 8)) (v_iv (n_v vs 11)) (v_iv (n_v vs 14)) (w_fi ws (n_v vs 0) 146) (w_fi ws (n_v vs 0) 147) (v_iv (Value.int y)) k2 ey2
  have nf11 : fc_1 PRD (20, [21, 5], [50, 0, 0, 1, 2, 1, 0, 1, 1]) ws (vs ++ [Value.int x, Value.int y, Value.int u]) := by
    refine ⟨nf_inA hl rfl, sgq_48 ?_⟩
    · show v_iv (n_v (vs ++ [Value.int x, Value.int y, Value.int u]) 21) = v_iv (n_v (vs ++ [Value.int x, Value.int y, Value.int u]) 5)
      simp only [e_5, e_21, q5]
      exact vc_Mo_backFrom_19_11 (v_iv (n_v vs 1)) (v_iv (n_v vs 8)) (v_iv (n_v vs 11)) (v_iv (n_v vs 14)) (w_fi ws (n_v vs 0) 146) (w_fi ws (n_v vs 0) 147) (v_iv (Value.int u)) k1 eu2
  exact ⟨(fun _ h => (by cases h)), [Value.int x, Value.int y, Value.int u], ag_three hx hy hu, List.forall_mem_cons.mpr ⟨⟨show (23 : Nat) < 100 from by decide, nf0⟩, List.forall_mem_cons.mpr ⟨⟨show (23 : Nat) < 100 from by decide, nf1⟩, List.forall_mem_cons.mpr ⟨⟨show (23 : Nat) < 100 from by decide, nf2⟩, List.forall_mem_cons.mpr ⟨⟨show (23 : Nat) < 100 from by decide, nf3⟩, List.forall_mem_cons.mpr ⟨⟨show (23 : Nat) < 100 from by decide, nf4⟩, List.forall_mem_cons.mpr ⟨⟨show (23 : Nat) < 100 from by decide, nf5⟩, List.forall_mem_cons.mpr ⟨⟨show (20 : Nat) < 100 from by decide, nf6⟩, List.forall_mem_cons.mpr ⟨⟨show (20 : Nat) < 100 from by decide, nf7⟩, List.forall_mem_cons.mpr ⟨⟨show (20 : Nat) < 100 from by decide, nf8⟩, List.forall_mem_cons.mpr ⟨⟨show (20 : Nat) < 100 from by decide, nf9⟩, List.forall_mem_cons.mpr ⟨⟨show (20 : Nat) < 100 from by decide, nf10⟩, List.forall_mem_cons.mpr ⟨⟨show (20 : Nat) < 100 from by decide, nf11⟩, (fun _ h => (by cases h))⟩⟩⟩⟩⟩⟩⟩⟩⟩⟩⟩⟩, (fun _ h => (by cases h))⟩
set_option maxHeartbeats 4000000 in
theorem vc_Mo_backFrom_20_0 (x2 : Int) (x3 : Int) (x6 : Int) (x18 : Int) (x19 : Int) (x20 : Int) (barredPoint_0 : Int → Int) (wide_0 : Int) (tall_0 : Int) (costOf_0 : Int → Int) (bucket_0 : Int → Int) (bucketMany_0 : Int → Int) (k2 : 0 ≤ x2 ∧ x2 ≤ 1000000) (k3 : 0 ≤ x3 ∧ x3 ≤ 5999) (k6 : 0 ≤ x6 ∧ x6 ≤ 1000000) (k18 : 1 ≤ x18 ∧ x18 ≤ 1000001) (k19 : 0 ≤ x19 ∧ x19 ≤ 5999) (k20 : 0 ≤ x20 ∧ x20 ≤ 1000008) (d2 : x6 + 1 ≤ x18 ∧ x18 ≤ x6 + 1) (d3 : x2 + (-4294967296) ≤ x18 ∧ x18 ≤ x2 + 1) (d8 : x6 + (-4294967296) ≤ x2 ∧ x2 ≤ x6 + 0) (f1 : 1 * x19 + ((-1) * x3 + 0) ≤ 0) (f2 : (-1) * x19 + (1 * x3 + 0) ≤ 0) (f3 : 1 * x20 + ((-1) * x2 + 0) ≤ 0) (f4 : (-1) * x20 + (1 * x2 + 0) ≤ 0) (f17 : RTQ (wide_0) (tall_0) (barredPoint_0) (costOf_0) (bucket_0) (bucketMany_0) (x19) (x20)) (kz_0_146 : (-3999999) ≤ wide_0 ∧ wide_0 ≤ 600000023) (kz_0_147 : (-3999999) ≤ tall_0 ∧ tall_0 ≤ 600000007) : RTQ (wide_0) (tall_0) (barredPoint_0) (costOf_0) (bucket_0) (bucketMany_0) (x3) (x2) := by
  first
    | assumption
    | (rw [show x3 = x19 by omega, show x2 = x20 by omega]; assumption)
set_option maxHeartbeats 4000000 in
theorem vc_Mo_backFrom_20_1 (x1 : Int) (x2 : Int) (x5 : Int) (x6 : Int) (x18 : Int) (x20 : Int) (x21 : Int) (costOf_0 : Int → Int) (k1 : 0 ≤ x1 ∧ x1 ≤ 23999) (k2 : 0 ≤ x2 ∧ x2 ≤ 1000000) (k5 : 0 ≤ x5 ∧ x5 ≤ 23999) (k6 : 0 ≤ x6 ∧ x6 ≤ 1000000) (k18 : 1 ≤ x18 ∧ x18 ≤ 1000001) (k20 : 0 ≤ x20 ∧ x20 ≤ 1000008) (k21 : 0 ≤ x21 ∧ x21 ≤ 23999) (d2 : x6 + 1 ≤ x18 ∧ x18 ≤ x6 + 1) (d3 : x2 + (-4294967296) ≤ x18 ∧ x18 ≤ x2 + 1) (d7 : x5 + (-4294967296) ≤ x1 ∧ x1 ≤ x5 + 0) (d8 : x6 + (-4294967296) ≤ x2 ∧ x2 ≤ x6 + 0) (d9 : x1 + (-4294967296) ≤ x5 ∧ x5 ≤ x1 + 0) (f3 : 1 * x20 + ((-1) * x2 + 0) ≤ 0) (f4 : (-1) * x20 + (1 * x2 + 0) ≤ 0) (f5 : 1 * x21 + ((-1) * x1 + 0) ≤ 0) (f6 : (-1) * x21 + (1 * x1 + 0) ≤ 0) (f18 : PIV (costOf_0) (x21) (x20)) : PIV (costOf_0) (x1) (x2) := by
  first
    | assumption
    | (rw [show x1 = x21 by omega, show x2 = x20 by omega]; assumption)
def o_Mo_backFrom_20 : or_T := (94, 23, [(0, (2, 0, 0, [165])), (1, (0, 0, 23999, [])), (2, (0, 0, 1000000, [])), (3, (0, 0, 5999, [])), (4, (2, 0, 0, [165])), (5, (0, 0, 23999, [])), (6, (0, 0, 1000000, [])), (8, (0, 0, 3, [])), (11, (0, 0, 5999, [])), (12, (0, 0, 3, [])), (13, (0, 4, 4, [])), (14, (0, 4, 4, [])), (15, (0, 0, 23996, [])), (16, (0, 0, 23999, [])), (17, (0, 1, 1, [])), (18, (0, 1, 1000001, [])), (19, (0, 0, 5999, [])), (20, (0, 0, 1000008, [])), (21, (0, 0, 23999, [])), (22, (0, 1, 4, []))], [(6, [22, 12], [1]), (23, [19, 3], [0, 1, -1]), (23, [19, 3], [0, -1, 1]), (23, [20, 6], [0, 1, -1]), (23, [20, 6], [0, -1, 1]), (23, [21, 5], [0, 1, -1]), (23, [21, 5], [0, -1, 1]), (20, [19, 3], [50, 0, 0, 1, 2, 1, 0, 1, 1]), (20, [20, 6], [50, 0, 0, 1, 2, 1, 0, 1, 1]), (20, [21, 5], [50, 0, 0, 1, 2, 1, 0, 1, 1]), (20, [4, 5, 11], [60, 2, 1, 500, 146, 147, 143]), (20, [8, 5], [50, 0, 0, 1, 2, 1, 0, 9, 2, 1, 1, 0, 4]), (20, [6], [50, 0, 0, 2, 6, 0, 2, 0, 0, 1, 0, 0, 2, 1, 0, 0, 999999]), (20, [11, 4], [50, 2, 0, 1146, 1147, 2, 6, 0, 2, 0, 0, 1, 0, 0, 6, 4, 2, 1, 0, 0, 1, 6, 3, 2, 1, 146, 2, 1, 147]), (24, [0, 4], []), (24, [1, 5], []), (24, [2, 6], []), (20, [4, 19, 20], [60, 2, 4, 495, 146, 147, 143, 140, 141, 142]), (20, [4, 21, 20], [60, 0, 1, 497, 140]), (102, [21], [829997695653082488796156820542274923492239250083311563034831962168721313259061248]), (23, [19, 3], [0, 1, -1]), (23, [19, 3], [0, -1, 1]), (23, [20, 6], [0, 1, -1]), (23, [20, 6], [0, -1, 1]), (23, [21, 5], [0, 1, -1]), (23, [21, 5], [0, -1, 1]), (1, [18, 6, 17], []), (7, [12, 8], [0]), (1, [16, 15, 12], []), (3, [15, 14, 11], []), (7, [12, 13], [2])], [], [], [(20, [4, 3, 6], [60, 2, 4, 495, 146, 147, 143, 140, 141, 142]), (20, [4, 5, 6], [60, 0, 1, 497, 140])], [], [(22, 12, 1, 1), (22, 8, 1, 1), (18, 6, 1, 1), (18, 2, -4294967296, 1), (12, 8, 0, 0), (16, 12, 0, 23996), (16, 15, 0, 3), (1, 5, -4294967296, 0), (2, 6, -4294967296, 0), (5, 1, -4294967296, 0), (6, 2, -4294967296, 0), (8, 11, -4294967296, 2)])
theorem oo_Mo_backFrom_20 {kA : Nat → ClassId} : or_ok PRD kA GG o_Mo_backFrom_20 := by
  refine or_mk fun A ta ws vs hD hth hl => ?_
  intro t0 r0 t1 k1 t2 k2 t3 k3 t4 r4 t5 k5 t6 k6 t8 k8 t11 k11 t12 k12 t13 k13 t14 k14 t15 k15 t16 k16 t17 k17 t18 k18 t19 k19 t20 k20 t21 k21 t22 k22 d0 d1 d2 d3 d4 d5 d6 d7 d8 d9 d10 d11 f0 f1 f2 f3 f4 f5 f6 f7 f8 f9 f10 f11 f12 f13 f14 f15 f16 f17 f18 ta1 w1 le1 s1 f20 f21 f22 f23 f24 f25 f26 f27 f28 f29 f30
  replace f1 := shm_7 f1
  replace f2 := shm_22 f2
  replace f3 := shm_7 f3
  replace f4 := shm_22 f4
  replace f5 := shm_7 f5
  replace f6 := shm_22 f6
  replace f14 := shm_5 f14
  replace f15 := shm_5 f15
  replace f16 := shm_5 f16
  replace f17 := shm_691 f17
  replace f18 := shm_693 f18
  have q4 : n_v vs 4 = n_v vs 0 := f14.symm
  have q5 : n_v vs 5 = n_v vs 1 := f15.symm
  have q6 : n_v vs 6 = n_v vs 2 := f16.symm
  simp only [q6, q5, q4] at f3 f4 f5 f6 f17 f18
  have kz_0_146 := fdq_178 hD hth r0
  have kz_0_147 := fdq_179 hD hth r0
  have nf0 : fc_1 PRD (20, [4, 3, 6], [60, 2, 4, 495, 146, 147, 143, 140, 141, 142]) ws (vs) := by
    refine ⟨nf_in hl rfl, sgq_691 ?_⟩
    · show RTQ (w_fi ws (n_v vs 4) 146) (w_fi ws (n_v vs 4) 147) (w_ei ws (w_ar ws (n_v vs 4) 143)) (w_ei ws (w_ar ws (n_v vs 4) 140)) (w_ei ws (w_ar ws (n_v vs 4) 141)) (w_ei ws (w_ar ws (n_v vs 4) 142)) (v_iv (n_v vs 3)) (v_iv (n_v vs 6))
      simp only [q4, q6]
      exact vc_Mo_backFrom_20_0 (v_iv (n_v vs 2)) (v_iv (n_v vs 3)) (v_iv (n_v vs 6)) (v_iv (n_v vs 18)) (v_iv (n_v vs 19)) (v_iv (n_v vs 20)) (w_ei ws (w_ar ws (n_v vs 0) 143)) (w_fi ws (n_v vs 0) 146) (w_fi ws (n_v vs 0) 147) (w_ei ws (w_ar ws (n_v vs 0) 140)) (w_ei ws (w_ar ws (n_v vs 0) 141)) (w_ei ws (w_ar ws (n_v vs 0) 142)) k2 k3 k6 k18 k19 k20 d2 d3 d8 f1 f2 f3 f4 f17 kz_0_146 kz_0_147
  have nf1 : fc_1 PRD (20, [4, 5, 6], [60, 0, 1, 497, 140]) ws (vs) := by
    refine ⟨nf_in hl rfl, sgq_693 ?_⟩
    · show PIV (w_ei ws (w_ar ws (n_v vs 4) 140)) (v_iv (n_v vs 5)) (v_iv (n_v vs 6))
      simp only [q4, q5, q6]
      exact vc_Mo_backFrom_20_1 (v_iv (n_v vs 1)) (v_iv (n_v vs 2)) (v_iv (n_v vs 5)) (v_iv (n_v vs 6)) (v_iv (n_v vs 18)) (v_iv (n_v vs 20)) (v_iv (n_v vs 21)) (w_ei ws (w_ar ws (n_v vs 0) 140)) k1 k2 k5 k6 k18 k20 k21 d2 d3 d7 d8 d9 f3 f4 f5 f6 f18
  refine ⟨(fun _ h => (by cases h)), [], trivial, ?_, (fun _ h => (by cases h))⟩
  rw [List.append_nil]
  exact List.forall_mem_cons.mpr ⟨⟨show (20 : Nat) < 100 from by decide, nf0⟩, List.forall_mem_cons.mpr ⟨⟨show (20 : Nat) < 100 from by decide, nf1⟩, (fun _ h => (by cases h))⟩⟩

def n_Mo_backFrom_an : List an_T := [(94, [(0, (2, 0, 0, [165])), (1, (0, 0, 23999, [])), (2, (0, 0, 1000000, [])), (3, (0, 0, 5999, [])), (4, (0, 0, 3, [])), (5, (0, 0, 5999, [])), (6, (0, 0, 5999, [])), (7, (0, 0, 5999, [])), (8, (0, 0, 4, []))], [], (0, 0), [(0, 0, 99906), (1, 12, 4), (0, 0, 100000)], [(1, 5, (Int.negSucc 999999999999), 0), (2, 6, (Int.negSucc 999999999999), 0), (5, 1, (Int.negSucc 999999999999), 0), (6, 2, (Int.negSucc 999999999999), 0), (8, 10, (Int.negSucc 999999999999), 2), (8, 11, (Int.negSucc 999999999999), 2), (9, 8, (Int.negSucc 999999999999), 5998), (9, 11, (Int.negSucc 999999999999), 0)], [], [(2, 0, 0, [165]), (0, 0, 23999, []), (0, 0, 1000000, []), (0, 0, 5999, [])], 0, [], [(20, [4, 3, 6], [60, 2, 4, 495, 146, 147, 143, 140, 141, 142]), (20, [4, 5, 6], [60, 0, 1, 497, 140]), (20, [4, 5, 11], [60, 2, 1, 500, 146, 147, 143]), (20, [8, 5], [50, 0, 0, 1, 2, 1, 0, 9, 2, 1, 1, 0, 4]), (20, [6], [50, 0, 0, 2, 6, 0, 2, 0, 0, 1, 0, 0, 2, 1, 0, 0, 999999]), (20, [11, 4], [50, 2, 0, 1146, 1147, 2, 6, 0, 2, 0, 0, 1, 0, 0, 6, 4, 2, 1, 0, 0, 1, 6, 3, 2, 1, 146, 2, 1, 147]), (24, [0, 4], []), (24, [1, 5], []), (24, [2, 6], [])])]
def t_Mo_backFrom_ct : ct_L := [(0, 387, e_Mo_in), (0, 1064, e_Mo_dx), (0, 1067, e_Mo_dy), (370, 1070, e_Mo_reached_at_gb)]
set_option maxRecDepth 100000 in
theorem c_Mo_backFrom {l : Launch} {D : va_G} {kA : Nat → ClassId} (h_Mo_dx : ct_ok PRD l D kA GG y_Mo_dx z_Mo_dx e_Mo_dx) (h_Mo_dy : ct_ok PRD l D kA GG y_Mo_dy z_Mo_dy e_Mo_dy) (h_Mo_in : ct_ok PRD l D kA GG y_Mo_in z_Mo_in e_Mo_in) (h_Mo_reached_at_gb : ct_ok PRD l D kA GG y_Mo_reached_at_gb z_Mo_reached_at_gb e_Mo_reached_at_gb) : ct_ok PRD l D kA GG y_Mo_backFrom z_Mo_backFrom e_Mo_backFrom := chk_all_ok (FT := [(327, 13, 143), (1043, 13, 146), (1046, 13, 147)]) (PT := []) (CT := t_Mo_backFrom_ct) (KT := []) (NT := []) (AN := n_Mo_backFrom_an) (OT := [o_Mo_backFrom_0, o_Mo_backFrom_1, o_Mo_backFrom_2, o_Mo_backFrom_3, o_Mo_backFrom_4, o_Mo_backFrom_5, o_Mo_backFrom_6, o_Mo_backFrom_7, o_Mo_backFrom_8, o_Mo_backFrom_9, o_Mo_backFrom_10, o_Mo_backFrom_11, o_Mo_backFrom_12, o_Mo_backFrom_13, o_Mo_backFrom_14, o_Mo_backFrom_15, o_Mo_backFrom_16, o_Mo_backFrom_17, o_Mo_backFrom_18, o_Mo_backFrom_19, o_Mo_backFrom_20]) 3 1008 (List.forall_mem_cons.mpr ⟨oo_Mo_backFrom_0, List.forall_mem_cons.mpr ⟨oo_Mo_backFrom_1, List.forall_mem_cons.mpr ⟨oo_Mo_backFrom_2, List.forall_mem_cons.mpr ⟨oo_Mo_backFrom_3, List.forall_mem_cons.mpr ⟨oo_Mo_backFrom_4, List.forall_mem_cons.mpr ⟨oo_Mo_backFrom_5, List.forall_mem_cons.mpr ⟨oo_Mo_backFrom_6, List.forall_mem_cons.mpr ⟨oo_Mo_backFrom_7, List.forall_mem_cons.mpr ⟨oo_Mo_backFrom_8, List.forall_mem_cons.mpr ⟨oo_Mo_backFrom_9, List.forall_mem_cons.mpr ⟨oo_Mo_backFrom_10, List.forall_mem_cons.mpr ⟨oo_Mo_backFrom_11, List.forall_mem_cons.mpr ⟨oo_Mo_backFrom_12, List.forall_mem_cons.mpr ⟨oo_Mo_backFrom_13, List.forall_mem_cons.mpr ⟨oo_Mo_backFrom_14, List.forall_mem_cons.mpr ⟨oo_Mo_backFrom_15, List.forall_mem_cons.mpr ⟨oo_Mo_backFrom_16, List.forall_mem_cons.mpr ⟨oo_Mo_backFrom_17, List.forall_mem_cons.mpr ⟨oo_Mo_backFrom_18, List.forall_mem_cons.mpr ⟨oo_Mo_backFrom_19, List.forall_mem_cons.mpr ⟨oo_Mo_backFrom_20, List.forall_mem_nil _⟩⟩⟩⟩⟩⟩⟩⟩⟩⟩⟩⟩⟩⟩⟩⟩⟩⟩⟩⟩⟩) (by decide +kernel) ⟨List.forall_mem_cons.mpr ⟨gf_Mo_327, List.forall_mem_cons.mpr ⟨gf_Mo_1043, List.forall_mem_cons.mpr ⟨gf_Mo_1046, List.forall_mem_nil _⟩⟩⟩, List.forall_mem_nil _, List.forall_mem_cons.mpr ⟨cl_static (y := y_Mo_in) h_Mo_in wm_2971 wm_9 wm_2969 wm_2970 ⟨by decide, by decide, by decide +kernel⟩ (by decide), List.forall_mem_cons.mpr ⟨cl_static (y := y_Mo_dx) h_Mo_dx wm_3703 wm_9 wm_3701 wm_3702 ⟨by decide, by decide, by decide +kernel⟩ (by decide), List.forall_mem_cons.mpr ⟨cl_static (y := y_Mo_dy) h_Mo_dy wm_3706 wm_9 wm_3704 wm_3705 ⟨by decide, by decide, by decide +kernel⟩ (by decide), List.forall_mem_cons.mpr ⟨cl_virtual (y := y_Mo_reached_at_gb) (ci := 13) rfl rfl ⟨_, _, rfl⟩ (by decide +kernel) h_Mo_reached_at_gb wm_3696 wm_9 wm_3693 wm_3695 wv_22_3 ⟨by decide, by decide, by decide +kernel⟩ (by decide), List.forall_mem_nil _⟩⟩⟩⟩, List.forall_mem_nil _, List.forall_mem_nil _, GG_pl⟩ (by decide +kernel)
set_option maxHeartbeats 4000000 in
theorem vc_Mo_becomes_at_k219_k0_0_0 (all_0 : Int → Int) (now_0 : Int → Int) (latest_0 : Int → Int) (r_0 : Int) (f0 : RWS (r_0) (all_0) (now_0) (latest_0)) : ROWS (all_0) (now_0) (latest_0) := by
  exact ‹RWS _ _ _ _›.1
def o_Mo_becomes_at_k219_k0_0 : or_T := (5, 7, [], [(20, [0], [60, 1, 3, 199, 5, 2, 3, 4])], [], [], [(20, [0], [60, 0, 3, 198, 2, 3, 4])], [], [])
theorem oo_Mo_becomes_at_k219_k0_0 {kA : Nat → ClassId} : or_ok PRD kA GG o_Mo_becomes_at_k219_k0_0 := by
  refine or_mk fun A ta ws vs hD hth hl => ?_
  intro f0
  have nf0 : fc_1 PRD (20, [0], [60, 0, 3, 198, 2, 3, 4]) ws (vs) := ⟨nf_in hl rfl, sgq_1199 (vc_Mo_becomes_at_k219_k0_0_0 (w_ei ws (w_ar ws (n_v vs 0) 2)) (w_ei ws (w_ar ws (n_v vs 0) 3)) (w_ei ws (w_ar ws (n_v vs 0) 4)) (w_fi ws (n_v vs 0) 5) (shm_952 f0))⟩
  refine ⟨(fun _ h => (by cases h)), [], trivial, ?_, (fun _ h => (by cases h))⟩
  rw [List.append_nil]
  exact List.forall_mem_cons.mpr ⟨⟨show (20 : Nat) < 100 from by decide, nf0⟩, (fun _ h => (by cases h))⟩
def n_Mo_becomes_at_k219_k0_an : List an_T := []
def t_Mo_becomes_at_k219_k0_ct : ct_L := []
set_option maxRecDepth 100000 in
theorem c_Mo_becomes_at_k219_k0 {l : Launch} {D : va_G} {kA : Nat → ClassId} : ct_ok PRD l D kA GG y_Mo_becomes_at_k219_k0 z_Mo_becomes_at_k219_k0 e_Mo_becomes_at_k219_k0 := chk_all_ok (FT := [(16, 13, 2), (391, 13, 5)]) (PT := []) (CT := t_Mo_becomes_at_k219_k0_ct) (KT := []) (NT := []) (AN := n_Mo_becomes_at_k219_k0_an) (OT := [o_Mo_becomes_at_k219_k0_0]) 0 200 (List.forall_mem_cons.mpr ⟨oo_Mo_becomes_at_k219_k0_0, List.forall_mem_nil _⟩) (by decide +kernel) ⟨List.forall_mem_cons.mpr ⟨gf_Mo_16, List.forall_mem_cons.mpr ⟨gf_Mo_391, List.forall_mem_nil _⟩⟩, List.forall_mem_nil _, List.forall_mem_nil _, List.forall_mem_nil _, List.forall_mem_nil _, GG_pl⟩ (by decide +kernel)
set_option maxHeartbeats 4000000 in
theorem vc_Mo_becomes_at_k219_k1_0_0 (x1 : Int) (x4 : Int) (x5 : Int) (x7 : Int) (x8 : Int) (x9 : Int) (now_0 : Int → Int) (r_0 : Int) (r_1 : Int) (all_1 : Int → Int) (now_1 : Int → Int) (latest_1 : Int → Int) (all_0 : Int → Int) (latest_0 : Int → Int) (k1 : 0 ≤ x1 ∧ x1 ≤ 3) (k4 : 0 ≤ x4 ∧ x4 ≤ 23) (k5 : 1 ≤ x5 ∧ x5 ≤ 99) (k7 : 0 ≤ x7 ∧ x7 ≤ 66297) (k8 : 219 ≤ x8 ∧ x8 ≤ 66516) (k9 : 219 ≤ x9 ∧ x9 ≤ 66539) (d3 : x7 + 219 ≤ x8 ∧ x8 ≤ x7 + 219) (f0 : r_0 = ((16709 * x1) + (539 * now_0 (x1)))) (f2 : x9 = x8 + x4) (g4 : x7 = r_1) (f6 : RWS (r_1) (all_1) (now_1) (latest_1)) (fe_0_5_1 : r_0 = r_1) (hE_0_2_1 : ∀ j : Int, 0 ≤ j → (j = x9 → all_0 j = x5) ∧ (j ≠ x9 → all_0 j = all_1 j)) (hE_0_3_1 : ∀ j : Int, now_0 j = now_1 j) (hE_0_4_1 : ∀ j : Int, latest_0 j = latest_1 j) : ROWS (all_0) (now_0) (latest_0) := by
  subst fe_0_5_1
  have e_hE_0_3_1 := funext hE_0_3_1; subst e_hE_0_3_1
  have e_hE_0_4_1 := funext hE_0_4_1; subst e_hE_0_4_1
  first
    | exact (rws_off ‹RWS _ _ _ _› (by assumption) (by omega)).1
def o_Mo_becomes_at_k219_k1_0 : or_T := (28, 11, [(0, (2, 0, 0, [165])), (1, (0, 0, 3, [])), (4, (0, 0, 23, [])), (5, (0, 1, 99, [])), (6, (2, 0, 0, [167])), (7, (0, 0, 66297, [])), (8, (0, 219, 66516, [])), (9, (0, 219, 66539, []))], [(20, [0, 1], [50, 1, 1, 5, 3, 1, 3, 2, 0, 5, 4, 6, 6, 2, 0, 16709, 1, 1, 6, 2, 0, 539, 3, 0, 3, 1, 1]), (100, [6, 9, 5], []), (1, [9, 8, 4], []), (9, [7, 0], [5]), (9, [6, 0], [2]), (20, [0], [60, 1, 3, 199, 5, 2, 3, 4])], [], [], [(20, [0], [60, 0, 3, 198, 2, 3, 4])], [], [(9, 4, 219, 66516), (9, 8, 0, 23), (9, 7, 219, 242), (8, 7, 219, 219)])
theorem oo_Mo_becomes_at_k219_k1_0 {kA : Nat → ClassId} : or_ok PRD kA GG o_Mo_becomes_at_k219_k1_0 := by
  refine or_mk fun A ta ws vs hD hth hl => ?_
  intro t0 r0 t1 k1 t4 k4 t5 k5 t6 r6 t7 k7 t8 k8 t9 k9 d0 d1 d2 d3 f0 ta1 w1 le1 s1 f2 f4 f5 f6
  have s1 : (∀ b j, w_el ws b j = if b = v_ad (n_v vs 6) ∧ j = (v_iv (n_v vs 9)).toNat then v_iv (n_v vs 5) else w_el w1 b j) ∧ ∀ b k, w_fd ws b k = w_fd w1 b k := s1.2
  replace f4 := shm_109 f4
  replace f5 := shm_129 f5
  replace f6 := shm_952 f6
  have ar_0_2_1 : w_ar w1 (n_v vs 0) 2 = w_ar ws (n_v vs 0) 2 := congrArg v_ad (s1.2 _ _).symm
  have ar_0_3_1 : w_ar w1 (n_v vs 0) 3 = w_ar ws (n_v vs 0) 3 := congrArg v_ad (s1.2 _ _).symm
  have cr_0_3 := fdq_141 hD hth r0
  have ar_0_4_1 : w_ar w1 (n_v vs 0) 4 = w_ar ws (n_v vs 0) 4 := congrArg v_ad (s1.2 _ _).symm
  have cr_0_4 := fdq_142 hD hth r0
  have ad_6 : v_ad (n_v vs 6) = w_ar ws (n_v vs 0) 2 := (congrArg v_ad f5).trans ar_0_2_1
  have g4 : v_iv (n_v vs 7) = w_fi w1 (n_v vs 0) 5 := congrArg v_iv f4
  simp only [ar_0_2_1, ar_0_3_1, ar_0_4_1] at f6
  have fe_0_5_1 : w_fi ws (n_v vs 0) 5 = w_fi w1 (n_v vs 0) 5 := congrArg v_iv (s1.2 _ _)
  have hE_0_2_1 : ∀ j : Int, 0 ≤ j → (j = v_iv (n_v vs 9) → w_ei ws (w_ar ws (n_v vs 0) 2) j = v_iv (n_v vs 5)) ∧ (j ≠ v_iv (n_v vs 9) → w_ei ws (w_ar ws (n_v vs 0) 2) j = w_ei w1 (w_ar ws (n_v vs 0) 2) j) := fun j hj => ⟨fun h => by unfold w_ei; rw [s1.1, if_pos ⟨ad_6.symm, by rw [h]⟩], fun h => by unfold w_ei; rw [s1.1, if_neg (fun e => h (by have := e.2; omega))]⟩
  have hE_0_3_1 : ∀ j : Int, w_ei ws (w_ar ws (n_v vs 0) 3) j = w_ei w1 (w_ar ws (n_v vs 0) 3) j := el_kp s1.1 r6 cr_0_3 (by decide)
  have hE_0_4_1 : ∀ j : Int, w_ei ws (w_ar ws (n_v vs 0) 4) j = w_ei w1 (w_ar ws (n_v vs 0) 4) j := el_kp s1.1 r6 cr_0_4 (by decide)
  have nf0 : fc_1 PRD (20, [0], [60, 0, 3, 198, 2, 3, 4]) ws (vs) := ⟨nf_in hl rfl, sgq_1199 (vc_Mo_becomes_at_k219_k1_0_0 (v_iv (n_v vs 1)) (v_iv (n_v vs 4)) (v_iv (n_v vs 5)) (v_iv (n_v vs 7)) (v_iv (n_v vs 8)) (v_iv (n_v vs 9)) (w_ei ws (w_ar ws (n_v vs 0) 3)) (w_fi ws (n_v vs 0) 5) (w_fi w1 (n_v vs 0) 5) (w_ei w1 (w_ar ws (n_v vs 0) 2)) (w_ei w1 (w_ar ws (n_v vs 0) 3)) (w_ei w1 (w_ar ws (n_v vs 0) 4)) (w_ei ws (w_ar ws (n_v vs 0) 2)) (w_ei ws (w_ar ws (n_v vs 0) 4)) k1 k4 k5 k7 k8 k9 d3 (shm_1007 f0) (shm_12 f2) g4 f6 fe_0_5_1 hE_0_2_1 hE_0_3_1 hE_0_4_1)⟩
  refine ⟨(fun _ h => (by cases h)), [], trivial, ?_, (fun _ h => (by cases h))⟩
  rw [List.append_nil]
  exact List.forall_mem_cons.mpr ⟨⟨show (20 : Nat) < 100 from by decide, nf0⟩, (fun _ h => (by cases h))⟩
def n_Mo_becomes_at_k219_k1_an : List an_T := []
def t_Mo_becomes_at_k219_k1_ct : ct_L := [(28, 533, e_Mo_step_at_gx)]
set_option maxRecDepth 100000 in
theorem c_Mo_becomes_at_k219_k1 {l : Launch} {D : va_G} {kA : Nat → ClassId} (h_Mo_step_at_gx : ct_ok PRD l D kA GG y_Mo_step_at_gx z_Mo_step_at_gx e_Mo_step_at_gx) : ct_ok PRD l D kA GG y_Mo_becomes_at_k219_k1 z_Mo_becomes_at_k219_k1 e_Mo_becomes_at_k219_k1 := chk_all_ok (FT := [(16, 13, 2), (391, 13, 5)]) (PT := []) (CT := t_Mo_becomes_at_k219_k1_ct) (KT := []) (NT := []) (AN := n_Mo_becomes_at_k219_k1_an) (OT := [o_Mo_becomes_at_k219_k1_0]) 0 200 (List.forall_mem_cons.mpr ⟨oo_Mo_becomes_at_k219_k1_0, List.forall_mem_nil _⟩) (by decide +kernel) ⟨List.forall_mem_cons.mpr ⟨gf_Mo_16, List.forall_mem_cons.mpr ⟨gf_Mo_391, List.forall_mem_nil _⟩⟩, List.forall_mem_nil _, List.forall_mem_cons.mpr ⟨cl_virtual (y := y_Mo_step_at_gx) (ci := 13) rfl rfl ⟨_, _, rfl⟩ (by decide +kernel) h_Mo_step_at_gx wm_3099 wm_9 wm_3096 wm_3098 wv_14_4 ⟨by decide, by decide, by decide +kernel⟩ (by decide), List.forall_mem_nil _⟩, List.forall_mem_nil _, List.forall_mem_nil _, GG_pl⟩ (by decide +kernel)
set_option maxHeartbeats 4000000 in
theorem vc_Mo_becomes_at_k243_k0_0_0 (all_0 : Int → Int) (now_0 : Int → Int) (latest_0 : Int → Int) (r_0 : Int) (f0 : RWS (r_0) (all_0) (now_0) (latest_0)) : ROWS (all_0) (now_0) (latest_0) := by
  exact ‹RWS _ _ _ _›.1
def o_Mo_becomes_at_k243_k0_0 : or_T := (5, 7, [], [(20, [0], [60, 1, 3, 199, 5, 2, 3, 4])], [], [], [(20, [0], [60, 0, 3, 198, 2, 3, 4])], [], [])
theorem oo_Mo_becomes_at_k243_k0_0 {kA : Nat → ClassId} : or_ok PRD kA GG o_Mo_becomes_at_k243_k0_0 := by
  refine or_mk fun A ta ws vs hD hth hl => ?_
  intro f0
  have nf0 : fc_1 PRD (20, [0], [60, 0, 3, 198, 2, 3, 4]) ws (vs) := ⟨nf_in hl rfl, sgq_1199 (vc_Mo_becomes_at_k243_k0_0_0 (w_ei ws (w_ar ws (n_v vs 0) 2)) (w_ei ws (w_ar ws (n_v vs 0) 3)) (w_ei ws (w_ar ws (n_v vs 0) 4)) (w_fi ws (n_v vs 0) 5) (shm_952 f0))⟩
  refine ⟨(fun _ h => (by cases h)), [], trivial, ?_, (fun _ h => (by cases h))⟩
  rw [List.append_nil]
  exact List.forall_mem_cons.mpr ⟨⟨show (20 : Nat) < 100 from by decide, nf0⟩, (fun _ h => (by cases h))⟩
def n_Mo_becomes_at_k243_k0_an : List an_T := []
def t_Mo_becomes_at_k243_k0_ct : ct_L := []
set_option maxRecDepth 100000 in
theorem c_Mo_becomes_at_k243_k0 {l : Launch} {D : va_G} {kA : Nat → ClassId} : ct_ok PRD l D kA GG y_Mo_becomes_at_k243_k0 z_Mo_becomes_at_k243_k0 e_Mo_becomes_at_k243_k0 := chk_all_ok (FT := [(16, 13, 2), (391, 13, 5)]) (PT := []) (CT := t_Mo_becomes_at_k243_k0_ct) (KT := []) (NT := []) (AN := n_Mo_becomes_at_k243_k0_an) (OT := [o_Mo_becomes_at_k243_k0_0]) 0 200 (List.forall_mem_cons.mpr ⟨oo_Mo_becomes_at_k243_k0_0, List.forall_mem_nil _⟩) (by decide +kernel) ⟨List.forall_mem_cons.mpr ⟨gf_Mo_16, List.forall_mem_cons.mpr ⟨gf_Mo_391, List.forall_mem_nil _⟩⟩, List.forall_mem_nil _, List.forall_mem_nil _, List.forall_mem_nil _, List.forall_mem_nil _, GG_pl⟩ (by decide +kernel)
set_option maxHeartbeats 4000000 in
theorem vc_Mo_becomes_at_k243_k1_0_0 (x1 : Int) (x4 : Int) (x5 : Int) (x7 : Int) (x8 : Int) (x9 : Int) (now_0 : Int → Int) (r_0 : Int) (r_1 : Int) (all_1 : Int → Int) (now_1 : Int → Int) (latest_1 : Int → Int) (all_0 : Int → Int) (latest_0 : Int → Int) (k1 : 0 ≤ x1 ∧ x1 ≤ 3) (k4 : 0 ≤ x4 ∧ x4 ≤ 23) (k5 : 0 ≤ x5 ∧ x5 ≤ 7) (k7 : 0 ≤ x7 ∧ x7 ≤ 66297) (k8 : 243 ≤ x8 ∧ x8 ≤ 66540) (k9 : 243 ≤ x9 ∧ x9 ≤ 66563) (d3 : x7 + 243 ≤ x8 ∧ x8 ≤ x7 + 243) (f0 : r_0 = ((16709 * x1) + (539 * now_0 (x1)))) (f2 : x9 = x8 + x4) (g4 : x7 = r_1) (f6 : RWS (r_1) (all_1) (now_1) (latest_1)) (fe_0_5_1 : r_0 = r_1) (hE_0_2_1 : ∀ j : Int, 0 ≤ j → (j = x9 → all_0 j = x5) ∧ (j ≠ x9 → all_0 j = all_1 j)) (hE_0_3_1 : ∀ j : Int, now_0 j = now_1 j) (hE_0_4_1 : ∀ j : Int, latest_0 j = latest_1 j) : ROWS (all_0) (now_0) (latest_0) := by
  subst fe_0_5_1
  have e_hE_0_3_1 := funext hE_0_3_1; subst e_hE_0_3_1
  have e_hE_0_4_1 := funext hE_0_4_1; subst e_hE_0_4_1
  first
    | exact (rws_off ‹RWS _ _ _ _› (by assumption) (by omega)).1
def o_Mo_becomes_at_k243_k1_0 : or_T := (28, 11, [(0, (2, 0, 0, [165])), (1, (0, 0, 3, [])), (4, (0, 0, 23, [])), (5, (0, 0, 7, [])), (6, (2, 0, 0, [167])), (7, (0, 0, 66297, [])), (8, (0, 243, 66540, [])), (9, (0, 243, 66563, []))], [(20, [0, 1], [50, 1, 1, 5, 3, 1, 3, 2, 0, 5, 4, 6, 6, 2, 0, 16709, 1, 1, 6, 2, 0, 539, 3, 0, 3, 1, 1]), (100, [6, 9, 5], []), (1, [9, 8, 4], []), (9, [7, 0], [5]), (9, [6, 0], [2]), (20, [0], [60, 1, 3, 199, 5, 2, 3, 4])], [], [], [(20, [0], [60, 0, 3, 198, 2, 3, 4])], [], [(9, 4, 243, 66540), (9, 8, 0, 23), (9, 7, 243, 266), (8, 7, 243, 243)])
theorem oo_Mo_becomes_at_k243_k1_0 {kA : Nat → ClassId} : or_ok PRD kA GG o_Mo_becomes_at_k243_k1_0 := by
  refine or_mk fun A ta ws vs hD hth hl => ?_
  intro t0 r0 t1 k1 t4 k4 t5 k5 t6 r6 t7 k7 t8 k8 t9 k9 d0 d1 d2 d3 f0 ta1 w1 le1 s1 f2 f4 f5 f6
  have s1 : (∀ b j, w_el ws b j = if b = v_ad (n_v vs 6) ∧ j = (v_iv (n_v vs 9)).toNat then v_iv (n_v vs 5) else w_el w1 b j) ∧ ∀ b k, w_fd ws b k = w_fd w1 b k := s1.2
  replace f4 := shm_109 f4
  replace f5 := shm_129 f5
  replace f6 := shm_952 f6
  have ar_0_2_1 : w_ar w1 (n_v vs 0) 2 = w_ar ws (n_v vs 0) 2 := congrArg v_ad (s1.2 _ _).symm
  have ar_0_3_1 : w_ar w1 (n_v vs 0) 3 = w_ar ws (n_v vs 0) 3 := congrArg v_ad (s1.2 _ _).symm
  have cr_0_3 := fdq_141 hD hth r0
  have ar_0_4_1 : w_ar w1 (n_v vs 0) 4 = w_ar ws (n_v vs 0) 4 := congrArg v_ad (s1.2 _ _).symm
  have cr_0_4 := fdq_142 hD hth r0
  have ad_6 : v_ad (n_v vs 6) = w_ar ws (n_v vs 0) 2 := (congrArg v_ad f5).trans ar_0_2_1
  have g4 : v_iv (n_v vs 7) = w_fi w1 (n_v vs 0) 5 := congrArg v_iv f4
  simp only [ar_0_2_1, ar_0_3_1, ar_0_4_1] at f6
  have fe_0_5_1 : w_fi ws (n_v vs 0) 5 = w_fi w1 (n_v vs 0) 5 := congrArg v_iv (s1.2 _ _)
  have hE_0_2_1 : ∀ j : Int, 0 ≤ j → (j = v_iv (n_v vs 9) → w_ei ws (w_ar ws (n_v vs 0) 2) j = v_iv (n_v vs 5)) ∧ (j ≠ v_iv (n_v vs 9) → w_ei ws (w_ar ws (n_v vs 0) 2) j = w_ei w1 (w_ar ws (n_v vs 0) 2) j) := fun j hj => ⟨fun h => by unfold w_ei; rw [s1.1, if_pos ⟨ad_6.symm, by rw [h]⟩], fun h => by unfold w_ei; rw [s1.1, if_neg (fun e => h (by have := e.2; omega))]⟩
  have hE_0_3_1 : ∀ j : Int, w_ei ws (w_ar ws (n_v vs 0) 3) j = w_ei w1 (w_ar ws (n_v vs 0) 3) j := el_kp s1.1 r6 cr_0_3 (by decide)
  have hE_0_4_1 : ∀ j : Int, w_ei ws (w_ar ws (n_v vs 0) 4) j = w_ei w1 (w_ar ws (n_v vs 0) 4) j := el_kp s1.1 r6 cr_0_4 (by decide)
  have nf0 : fc_1 PRD (20, [0], [60, 0, 3, 198, 2, 3, 4]) ws (vs) := ⟨nf_in hl rfl, sgq_1199 (vc_Mo_becomes_at_k243_k1_0_0 (v_iv (n_v vs 1)) (v_iv (n_v vs 4)) (v_iv (n_v vs 5)) (v_iv (n_v vs 7)) (v_iv (n_v vs 8)) (v_iv (n_v vs 9)) (w_ei ws (w_ar ws (n_v vs 0) 3)) (w_fi ws (n_v vs 0) 5) (w_fi w1 (n_v vs 0) 5) (w_ei w1 (w_ar ws (n_v vs 0) 2)) (w_ei w1 (w_ar ws (n_v vs 0) 3)) (w_ei w1 (w_ar ws (n_v vs 0) 4)) (w_ei ws (w_ar ws (n_v vs 0) 2)) (w_ei ws (w_ar ws (n_v vs 0) 4)) k1 k4 k5 k7 k8 k9 d3 (shm_1007 f0) (shm_12 f2) g4 f6 fe_0_5_1 hE_0_2_1 hE_0_3_1 hE_0_4_1)⟩
  refine ⟨(fun _ h => (by cases h)), [], trivial, ?_, (fun _ h => (by cases h))⟩
  rw [List.append_nil]
  exact List.forall_mem_cons.mpr ⟨⟨show (20 : Nat) < 100 from by decide, nf0⟩, (fun _ h => (by cases h))⟩
def n_Mo_becomes_at_k243_k1_an : List an_T := []
def t_Mo_becomes_at_k243_k1_ct : ct_L := [(28, 533, e_Mo_step_at_gx)]
set_option maxRecDepth 100000 in
theorem c_Mo_becomes_at_k243_k1 {l : Launch} {D : va_G} {kA : Nat → ClassId} (h_Mo_step_at_gx : ct_ok PRD l D kA GG y_Mo_step_at_gx z_Mo_step_at_gx e_Mo_step_at_gx) : ct_ok PRD l D kA GG y_Mo_becomes_at_k243_k1 z_Mo_becomes_at_k243_k1 e_Mo_becomes_at_k243_k1 := chk_all_ok (FT := [(16, 13, 2), (391, 13, 5)]) (PT := []) (CT := t_Mo_becomes_at_k243_k1_ct) (KT := []) (NT := []) (AN := n_Mo_becomes_at_k243_k1_an) (OT := [o_Mo_becomes_at_k243_k1_0]) 0 200 (List.forall_mem_cons.mpr ⟨oo_Mo_becomes_at_k243_k1_0, List.forall_mem_nil _⟩) (by decide +kernel) ⟨List.forall_mem_cons.mpr ⟨gf_Mo_16, List.forall_mem_cons.mpr ⟨gf_Mo_391, List.forall_mem_nil _⟩⟩, List.forall_mem_nil _, List.forall_mem_cons.mpr ⟨cl_virtual (y := y_Mo_step_at_gx) (ci := 13) rfl rfl ⟨_, _, rfl⟩ (by decide +kernel) h_Mo_step_at_gx wm_3099 wm_9 wm_3096 wm_3098 wv_14_4 ⟨by decide, by decide, by decide +kernel⟩ (by decide), List.forall_mem_nil _⟩, List.forall_mem_nil _, List.forall_mem_nil _, GG_pl⟩ (by decide +kernel)
set_option maxHeartbeats 4000000 in
theorem vc_Mo_becomes_at_k363_k0_0_0 (all_0 : Int → Int) (now_0 : Int → Int) (latest_0 : Int → Int) (r_0 : Int) (f0 : RWS (r_0) (all_0) (now_0) (latest_0)) : ROWS (all_0) (now_0) (latest_0) := by
  exact ‹RWS _ _ _ _›.1
def o_Mo_becomes_at_k363_k0_0 : or_T := (5, 7, [], [(20, [0], [60, 1, 3, 199, 5, 2, 3, 4])], [], [], [(20, [0], [60, 0, 3, 198, 2, 3, 4])], [], [])
theorem oo_Mo_becomes_at_k363_k0_0 {kA : Nat → ClassId} : or_ok PRD kA GG o_Mo_becomes_at_k363_k0_0 := by
  refine or_mk fun A ta ws vs hD hth hl => ?_
  intro f0
  have nf0 : fc_1 PRD (20, [0], [60, 0, 3, 198, 2, 3, 4]) ws (vs) := ⟨nf_in hl rfl, sgq_1199 (vc_Mo_becomes_at_k363_k0_0_0 (w_ei ws (w_ar ws (n_v vs 0) 2)) (w_ei ws (w_ar ws (n_v vs 0) 3)) (w_ei ws (w_ar ws (n_v vs 0) 4)) (w_fi ws (n_v vs 0) 5) (shm_952 f0))⟩
  refine ⟨(fun _ h => (by cases h)), [], trivial, ?_, (fun _ h => (by cases h))⟩
  rw [List.append_nil]
  exact List.forall_mem_cons.mpr ⟨⟨show (20 : Nat) < 100 from by decide, nf0⟩, (fun _ h => (by cases h))⟩
def n_Mo_becomes_at_k363_k0_an : List an_T := []
def t_Mo_becomes_at_k363_k0_ct : ct_L := []
set_option maxRecDepth 100000 in
theorem c_Mo_becomes_at_k363_k0 {l : Launch} {D : va_G} {kA : Nat → ClassId} : ct_ok PRD l D kA GG y_Mo_becomes_at_k363_k0 z_Mo_becomes_at_k363_k0 e_Mo_becomes_at_k363_k0 := chk_all_ok (FT := [(16, 13, 2), (391, 13, 5)]) (PT := []) (CT := t_Mo_becomes_at_k363_k0_ct) (KT := []) (NT := []) (AN := n_Mo_becomes_at_k363_k0_an) (OT := [o_Mo_becomes_at_k363_k0_0]) 0 200 (List.forall_mem_cons.mpr ⟨oo_Mo_becomes_at_k363_k0_0, List.forall_mem_nil _⟩) (by decide +kernel) ⟨List.forall_mem_cons.mpr ⟨gf_Mo_16, List.forall_mem_cons.mpr ⟨gf_Mo_391, List.forall_mem_nil _⟩⟩, List.forall_mem_nil _, List.forall_mem_nil _, List.forall_mem_nil _, List.forall_mem_nil _, GG_pl⟩ (by decide +kernel)
set_option maxHeartbeats 4000000 in
theorem vc_Mo_becomes_at_k363_k1_0_0 (x1 : Int) (x4 : Int) (x5 : Int) (x7 : Int) (x8 : Int) (x9 : Int) (now_0 : Int → Int) (r_0 : Int) (r_1 : Int) (all_1 : Int → Int) (now_1 : Int → Int) (latest_1 : Int → Int) (all_0 : Int → Int) (latest_0 : Int → Int) (k1 : 0 ≤ x1 ∧ x1 ≤ 3) (k4 : 0 ≤ x4 ∧ x4 ≤ 47) (k5 : 1 ≤ x5 ∧ x5 ≤ 9) (k7 : 0 ≤ x7 ∧ x7 ≤ 66297) (k8 : 363 ≤ x8 ∧ x8 ≤ 66660) (k9 : 363 ≤ x9 ∧ x9 ≤ 66707) (d3 : x7 + 363 ≤ x8 ∧ x8 ≤ x7 + 363) (f0 : r_0 = ((16709 * x1) + (539 * now_0 (x1)))) (f2 : x9 = x8 + x4) (g4 : x7 = r_1) (f6 : RWS (r_1) (all_1) (now_1) (latest_1)) (fe_0_5_1 : r_0 = r_1) (hE_0_2_1 : ∀ j : Int, 0 ≤ j → (j = x9 → all_0 j = x5) ∧ (j ≠ x9 → all_0 j = all_1 j)) (hE_0_3_1 : ∀ j : Int, now_0 j = now_1 j) (hE_0_4_1 : ∀ j : Int, latest_0 j = latest_1 j) : ROWS (all_0) (now_0) (latest_0) := by
  subst fe_0_5_1
  have e_hE_0_3_1 := funext hE_0_3_1; subst e_hE_0_3_1
  have e_hE_0_4_1 := funext hE_0_4_1; subst e_hE_0_4_1
  first
    | exact (rws_off ‹RWS _ _ _ _› (by assumption) (by omega)).1
def o_Mo_becomes_at_k363_k1_0 : or_T := (28, 11, [(0, (2, 0, 0, [165])), (1, (0, 0, 3, [])), (4, (0, 0, 47, [])), (5, (0, 1, 9, [])), (6, (2, 0, 0, [167])), (7, (0, 0, 66297, [])), (8, (0, 363, 66660, [])), (9, (0, 363, 66707, []))], [(20, [0, 1], [50, 1, 1, 5, 3, 1, 3, 2, 0, 5, 4, 6, 6, 2, 0, 16709, 1, 1, 6, 2, 0, 539, 3, 0, 3, 1, 1]), (100, [6, 9, 5], []), (1, [9, 8, 4], []), (9, [7, 0], [5]), (9, [6, 0], [2]), (20, [0], [60, 1, 3, 199, 5, 2, 3, 4])], [], [], [(20, [0], [60, 0, 3, 198, 2, 3, 4])], [], [(9, 4, 363, 66660), (9, 8, 0, 47), (9, 7, 363, 410), (8, 7, 363, 363)])
theorem oo_Mo_becomes_at_k363_k1_0 {kA : Nat → ClassId} : or_ok PRD kA GG o_Mo_becomes_at_k363_k1_0 := by
  refine or_mk fun A ta ws vs hD hth hl => ?_
  intro t0 r0 t1 k1 t4 k4 t5 k5 t6 r6 t7 k7 t8 k8 t9 k9 d0 d1 d2 d3 f0 ta1 w1 le1 s1 f2 f4 f5 f6
  have s1 : (∀ b j, w_el ws b j = if b = v_ad (n_v vs 6) ∧ j = (v_iv (n_v vs 9)).toNat then v_iv (n_v vs 5) else w_el w1 b j) ∧ ∀ b k, w_fd ws b k = w_fd w1 b k := s1.2
  replace f4 := shm_109 f4
  replace f5 := shm_129 f5
  replace f6 := shm_952 f6
  have ar_0_2_1 : w_ar w1 (n_v vs 0) 2 = w_ar ws (n_v vs 0) 2 := congrArg v_ad (s1.2 _ _).symm
  have ar_0_3_1 : w_ar w1 (n_v vs 0) 3 = w_ar ws (n_v vs 0) 3 := congrArg v_ad (s1.2 _ _).symm
  have cr_0_3 := fdq_141 hD hth r0
  have ar_0_4_1 : w_ar w1 (n_v vs 0) 4 = w_ar ws (n_v vs 0) 4 := congrArg v_ad (s1.2 _ _).symm
  have cr_0_4 := fdq_142 hD hth r0
  have ad_6 : v_ad (n_v vs 6) = w_ar ws (n_v vs 0) 2 := (congrArg v_ad f5).trans ar_0_2_1
  have g4 : v_iv (n_v vs 7) = w_fi w1 (n_v vs 0) 5 := congrArg v_iv f4
  simp only [ar_0_2_1, ar_0_3_1, ar_0_4_1] at f6
  have fe_0_5_1 : w_fi ws (n_v vs 0) 5 = w_fi w1 (n_v vs 0) 5 := congrArg v_iv (s1.2 _ _)
  have hE_0_2_1 : ∀ j : Int, 0 ≤ j → (j = v_iv (n_v vs 9) → w_ei ws (w_ar ws (n_v vs 0) 2) j = v_iv (n_v vs 5)) ∧ (j ≠ v_iv (n_v vs 9) → w_ei ws (w_ar ws (n_v vs 0) 2) j = w_ei w1 (w_ar ws (n_v vs 0) 2) j) := fun j hj => ⟨fun h => by unfold w_ei; rw [s1.1, if_pos ⟨ad_6.symm, by rw [h]⟩], fun h => by unfold w_ei; rw [s1.1, if_neg (fun e => h (by have := e.2; omega))]⟩
  have hE_0_3_1 : ∀ j : Int, w_ei ws (w_ar ws (n_v vs 0) 3) j = w_ei w1 (w_ar ws (n_v vs 0) 3) j := el_kp s1.1 r6 cr_0_3 (by decide)
  have hE_0_4_1 : ∀ j : Int, w_ei ws (w_ar ws (n_v vs 0) 4) j = w_ei w1 (w_ar ws (n_v vs 0) 4) j := el_kp s1.1 r6 cr_0_4 (by decide)
  have nf0 : fc_1 PRD (20, [0], [60, 0, 3, 198, 2, 3, 4]) ws (vs) := ⟨nf_in hl rfl, sgq_1199 (vc_Mo_becomes_at_k363_k1_0_0 (v_iv (n_v vs 1)) (v_iv (n_v vs 4)) (v_iv (n_v vs 5)) (v_iv (n_v vs 7)) (v_iv (n_v vs 8)) (v_iv (n_v vs 9)) (w_ei ws (w_ar ws (n_v vs 0) 3)) (w_fi ws (n_v vs 0) 5) (w_fi w1 (n_v vs 0) 5) (w_ei w1 (w_ar ws (n_v vs 0) 2)) (w_ei w1 (w_ar ws (n_v vs 0) 3)) (w_ei w1 (w_ar ws (n_v vs 0) 4)) (w_ei ws (w_ar ws (n_v vs 0) 2)) (w_ei ws (w_ar ws (n_v vs 0) 4)) k1 k4 k5 k7 k8 k9 d3 (shm_1007 f0) (shm_12 f2) g4 f6 fe_0_5_1 hE_0_2_1 hE_0_3_1 hE_0_4_1)⟩
  refine ⟨(fun _ h => (by cases h)), [], trivial, ?_, (fun _ h => (by cases h))⟩
  rw [List.append_nil]
  exact List.forall_mem_cons.mpr ⟨⟨show (20 : Nat) < 100 from by decide, nf0⟩, (fun _ h => (by cases h))⟩
def n_Mo_becomes_at_k363_k1_an : List an_T := []
def t_Mo_becomes_at_k363_k1_ct : ct_L := [(28, 533, e_Mo_step_at_gx)]
set_option maxRecDepth 100000 in
theorem c_Mo_becomes_at_k363_k1 {l : Launch} {D : va_G} {kA : Nat → ClassId} (h_Mo_step_at_gx : ct_ok PRD l D kA GG y_Mo_step_at_gx z_Mo_step_at_gx e_Mo_step_at_gx) : ct_ok PRD l D kA GG y_Mo_becomes_at_k363_k1 z_Mo_becomes_at_k363_k1 e_Mo_becomes_at_k363_k1 := chk_all_ok (FT := [(16, 13, 2), (391, 13, 5)]) (PT := []) (CT := t_Mo_becomes_at_k363_k1_ct) (KT := []) (NT := []) (AN := n_Mo_becomes_at_k363_k1_an) (OT := [o_Mo_becomes_at_k363_k1_0]) 0 200 (List.forall_mem_cons.mpr ⟨oo_Mo_becomes_at_k363_k1_0, List.forall_mem_nil _⟩) (by decide +kernel) ⟨List.forall_mem_cons.mpr ⟨gf_Mo_16, List.forall_mem_cons.mpr ⟨gf_Mo_391, List.forall_mem_nil _⟩⟩, List.forall_mem_nil _, List.forall_mem_cons.mpr ⟨cl_virtual (y := y_Mo_step_at_gx) (ci := 13) rfl rfl ⟨_, _, rfl⟩ (by decide +kernel) h_Mo_step_at_gx wm_3099 wm_9 wm_3096 wm_3098 wv_14_4 ⟨by decide, by decide, by decide +kernel⟩ (by decide), List.forall_mem_nil _⟩, List.forall_mem_nil _, List.forall_mem_nil _, GG_pl⟩ (by decide +kernel)
set_option maxHeartbeats 4000000 in
theorem vc_Mo_becomes_at_k411_k0_0_0 (all_0 : Int → Int) (now_0 : Int → Int) (latest_0 : Int → Int) (r_0 : Int) (f0 : RWS (r_0) (all_0) (now_0) (latest_0)) : ROWS (all_0) (now_0) (latest_0) := by
  exact ‹RWS _ _ _ _›.1
def o_Mo_becomes_at_k411_k0_0 : or_T := (5, 7, [], [(20, [0], [60, 1, 3, 199, 5, 2, 3, 4])], [], [], [(20, [0], [60, 0, 3, 198, 2, 3, 4])], [], [])
theorem oo_Mo_becomes_at_k411_k0_0 {kA : Nat → ClassId} : or_ok PRD kA GG o_Mo_becomes_at_k411_k0_0 := by
  refine or_mk fun A ta ws vs hD hth hl => ?_
  intro f0
  have nf0 : fc_1 PRD (20, [0], [60, 0, 3, 198, 2, 3, 4]) ws (vs) := ⟨nf_in hl rfl, sgq_1199 (vc_Mo_becomes_at_k411_k0_0_0 (w_ei ws (w_ar ws (n_v vs 0) 2)) (w_ei ws (w_ar ws (n_v vs 0) 3)) (w_ei ws (w_ar ws (n_v vs 0) 4)) (w_fi ws (n_v vs 0) 5) (shm_952 f0))⟩
  refine ⟨(fun _ h => (by cases h)), [], trivial, ?_, (fun _ h => (by cases h))⟩
  rw [List.append_nil]
  exact List.forall_mem_cons.mpr ⟨⟨show (20 : Nat) < 100 from by decide, nf0⟩, (fun _ h => (by cases h))⟩
def n_Mo_becomes_at_k411_k0_an : List an_T := []
def t_Mo_becomes_at_k411_k0_ct : ct_L := []
set_option maxRecDepth 100000 in
theorem c_Mo_becomes_at_k411_k0 {l : Launch} {D : va_G} {kA : Nat → ClassId} : ct_ok PRD l D kA GG y_Mo_becomes_at_k411_k0 z_Mo_becomes_at_k411_k0 e_Mo_becomes_at_k411_k0 := chk_all_ok (FT := [(16, 13, 2), (391, 13, 5)]) (PT := []) (CT := t_Mo_becomes_at_k411_k0_ct) (KT := []) (NT := []) (AN := n_Mo_becomes_at_k411_k0_an) (OT := [o_Mo_becomes_at_k411_k0_0]) 0 200 (List.forall_mem_cons.mpr ⟨oo_Mo_becomes_at_k411_k0_0, List.forall_mem_nil _⟩) (by decide +kernel) ⟨List.forall_mem_cons.mpr ⟨gf_Mo_16, List.forall_mem_cons.mpr ⟨gf_Mo_391, List.forall_mem_nil _⟩⟩, List.forall_mem_nil _, List.forall_mem_nil _, List.forall_mem_nil _, List.forall_mem_nil _, GG_pl⟩ (by decide +kernel)
set_option maxHeartbeats 4000000 in
theorem vc_Mo_becomes_at_k411_k1_0_0 (x1 : Int) (x4 : Int) (x5 : Int) (x7 : Int) (x8 : Int) (x9 : Int) (now_0 : Int → Int) (r_0 : Int) (r_1 : Int) (all_1 : Int → Int) (now_1 : Int → Int) (latest_1 : Int → Int) (all_0 : Int → Int) (latest_0 : Int → Int) (k1 : 0 ≤ x1 ∧ x1 ≤ 3) (k4 : 0 ≤ x4 ∧ x4 ≤ 47) (k5 : 0 ≤ x5 ∧ x5 ≤ 1) (k7 : 0 ≤ x7 ∧ x7 ≤ 66297) (k8 : 411 ≤ x8 ∧ x8 ≤ 66708) (k9 : 411 ≤ x9 ∧ x9 ≤ 66755) (d3 : x7 + 411 ≤ x8 ∧ x8 ≤ x7 + 411) (f0 : r_0 = ((16709 * x1) + (539 * now_0 (x1)))) (f2 : x9 = x8 + x4) (g4 : x7 = r_1) (f6 : RWS (r_1) (all_1) (now_1) (latest_1)) (fe_0_5_1 : r_0 = r_1) (hE_0_2_1 : ∀ j : Int, 0 ≤ j → (j = x9 → all_0 j = x5) ∧ (j ≠ x9 → all_0 j = all_1 j)) (hE_0_3_1 : ∀ j : Int, now_0 j = now_1 j) (hE_0_4_1 : ∀ j : Int, latest_0 j = latest_1 j) : ROWS (all_0) (now_0) (latest_0) := by
  subst fe_0_5_1
  have e_hE_0_3_1 := funext hE_0_3_1; subst e_hE_0_3_1
  have e_hE_0_4_1 := funext hE_0_4_1; subst e_hE_0_4_1
  first
    | exact (rws_off ‹RWS _ _ _ _› (by assumption) (by omega)).1
def o_Mo_becomes_at_k411_k1_0 : or_T := (28, 11, [(0, (2, 0, 0, [165])), (1, (0, 0, 3, [])), (4, (0, 0, 47, [])), (5, (0, 0, 1, [])), (6, (2, 0, 0, [167])), (7, (0, 0, 66297, [])), (8, (0, 411, 66708, [])), (9, (0, 411, 66755, []))], [(20, [0, 1], [50, 1, 1, 5, 3, 1, 3, 2, 0, 5, 4, 6, 6, 2, 0, 16709, 1, 1, 6, 2, 0, 539, 3, 0, 3, 1, 1]), (100, [6, 9, 5], []), (1, [9, 8, 4], []), (9, [7, 0], [5]), (9, [6, 0], [2]), (20, [0], [60, 1, 3, 199, 5, 2, 3, 4])], [], [], [(20, [0], [60, 0, 3, 198, 2, 3, 4])], [], [(9, 4, 411, 66708), (9, 8, 0, 47), (9, 7, 411, 458), (8, 7, 411, 411)])
theorem oo_Mo_becomes_at_k411_k1_0 {kA : Nat → ClassId} : or_ok PRD kA GG o_Mo_becomes_at_k411_k1_0 := by
  refine or_mk fun A ta ws vs hD hth hl => ?_
  intro t0 r0 t1 k1 t4 k4 t5 k5 t6 r6 t7 k7 t8 k8 t9 k9 d0 d1 d2 d3 f0 ta1 w1 le1 s1 f2 f4 f5 f6
  have s1 : (∀ b j, w_el ws b j = if b = v_ad (n_v vs 6) ∧ j = (v_iv (n_v vs 9)).toNat then v_iv (n_v vs 5) else w_el w1 b j) ∧ ∀ b k, w_fd ws b k = w_fd w1 b k := s1.2
  replace f4 := shm_109 f4
  replace f5 := shm_129 f5
  replace f6 := shm_952 f6
  have ar_0_2_1 : w_ar w1 (n_v vs 0) 2 = w_ar ws (n_v vs 0) 2 := congrArg v_ad (s1.2 _ _).symm
  have ar_0_3_1 : w_ar w1 (n_v vs 0) 3 = w_ar ws (n_v vs 0) 3 := congrArg v_ad (s1.2 _ _).symm
  have cr_0_3 := fdq_141 hD hth r0
  have ar_0_4_1 : w_ar w1 (n_v vs 0) 4 = w_ar ws (n_v vs 0) 4 := congrArg v_ad (s1.2 _ _).symm
  have cr_0_4 := fdq_142 hD hth r0
  have ad_6 : v_ad (n_v vs 6) = w_ar ws (n_v vs 0) 2 := (congrArg v_ad f5).trans ar_0_2_1
  have g4 : v_iv (n_v vs 7) = w_fi w1 (n_v vs 0) 5 := congrArg v_iv f4
  simp only [ar_0_2_1, ar_0_3_1, ar_0_4_1] at f6
  have fe_0_5_1 : w_fi ws (n_v vs 0) 5 = w_fi w1 (n_v vs 0) 5 := congrArg v_iv (s1.2 _ _)
  have hE_0_2_1 : ∀ j : Int, 0 ≤ j → (j = v_iv (n_v vs 9) → w_ei ws (w_ar ws (n_v vs 0) 2) j = v_iv (n_v vs 5)) ∧ (j ≠ v_iv (n_v vs 9) → w_ei ws (w_ar ws (n_v vs 0) 2) j = w_ei w1 (w_ar ws (n_v vs 0) 2) j) := fun j hj => ⟨fun h => by unfold w_ei; rw [s1.1, if_pos ⟨ad_6.symm, by rw [h]⟩], fun h => by unfold w_ei; rw [s1.1, if_neg (fun e => h (by have := e.2; omega))]⟩
  have hE_0_3_1 : ∀ j : Int, w_ei ws (w_ar ws (n_v vs 0) 3) j = w_ei w1 (w_ar ws (n_v vs 0) 3) j := el_kp s1.1 r6 cr_0_3 (by decide)
  have hE_0_4_1 : ∀ j : Int, w_ei ws (w_ar ws (n_v vs 0) 4) j = w_ei w1 (w_ar ws (n_v vs 0) 4) j := el_kp s1.1 r6 cr_0_4 (by decide)
  have nf0 : fc_1 PRD (20, [0], [60, 0, 3, 198, 2, 3, 4]) ws (vs) := ⟨nf_in hl rfl, sgq_1199 (vc_Mo_becomes_at_k411_k1_0_0 (v_iv (n_v vs 1)) (v_iv (n_v vs 4)) (v_iv (n_v vs 5)) (v_iv (n_v vs 7)) (v_iv (n_v vs 8)) (v_iv (n_v vs 9)) (w_ei ws (w_ar ws (n_v vs 0) 3)) (w_fi ws (n_v vs 0) 5) (w_fi w1 (n_v vs 0) 5) (w_ei w1 (w_ar ws (n_v vs 0) 2)) (w_ei w1 (w_ar ws (n_v vs 0) 3)) (w_ei w1 (w_ar ws (n_v vs 0) 4)) (w_ei ws (w_ar ws (n_v vs 0) 2)) (w_ei ws (w_ar ws (n_v vs 0) 4)) k1 k4 k5 k7 k8 k9 d3 (shm_1007 f0) (shm_12 f2) g4 f6 fe_0_5_1 hE_0_2_1 hE_0_3_1 hE_0_4_1)⟩
  refine ⟨(fun _ h => (by cases h)), [], trivial, ?_, (fun _ h => (by cases h))⟩
  rw [List.append_nil]
  exact List.forall_mem_cons.mpr ⟨⟨show (20 : Nat) < 100 from by decide, nf0⟩, (fun _ h => (by cases h))⟩
def n_Mo_becomes_at_k411_k1_an : List an_T := []
def t_Mo_becomes_at_k411_k1_ct : ct_L := [(28, 533, e_Mo_step_at_gx)]
set_option maxRecDepth 100000 in
theorem c_Mo_becomes_at_k411_k1 {l : Launch} {D : va_G} {kA : Nat → ClassId} (h_Mo_step_at_gx : ct_ok PRD l D kA GG y_Mo_step_at_gx z_Mo_step_at_gx e_Mo_step_at_gx) : ct_ok PRD l D kA GG y_Mo_becomes_at_k411_k1 z_Mo_becomes_at_k411_k1 e_Mo_becomes_at_k411_k1 := chk_all_ok (FT := [(16, 13, 2), (391, 13, 5)]) (PT := []) (CT := t_Mo_becomes_at_k411_k1_ct) (KT := []) (NT := []) (AN := n_Mo_becomes_at_k411_k1_an) (OT := [o_Mo_becomes_at_k411_k1_0]) 0 200 (List.forall_mem_cons.mpr ⟨oo_Mo_becomes_at_k411_k1_0, List.forall_mem_nil _⟩) (by decide +kernel) ⟨List.forall_mem_cons.mpr ⟨gf_Mo_16, List.forall_mem_cons.mpr ⟨gf_Mo_391, List.forall_mem_nil _⟩⟩, List.forall_mem_nil _, List.forall_mem_cons.mpr ⟨cl_virtual (y := y_Mo_step_at_gx) (ci := 13) rfl rfl ⟨_, _, rfl⟩ (by decide +kernel) h_Mo_step_at_gx wm_3099 wm_9 wm_3096 wm_3098 wv_14_4 ⟨by decide, by decide, by decide +kernel⟩ (by decide), List.forall_mem_nil _⟩, List.forall_mem_nil _, List.forall_mem_nil _, GG_pl⟩ (by decide +kernel)

set_option maxHeartbeats 4000000 in
theorem vc_Mo_bendsBecome_0_0 (x2 : Int) (x3 : Int) (x5 : Int) (x6 : Int) (x7 : Int) (x8 : Int) (wide_0 : Int) (tall_0 : Int) (barredPoint_0 : Int → Int) (costOf_0 : Int → Int) (k2 : 0 ≤ x2 ∧ x2 ≤ 5999) (k3 : 0 ≤ x3 ∧ x3 ≤ 5999) (k5 : 0 ≤ x5 ∧ x5 ≤ 0) (k6 : (-1) ≤ x6 ∧ x6 ≤ (-1)) (k7 : 1000000 ≤ x7 ∧ x7 ≤ 1000000) (k8 : 0 ≤ x8 ∧ x8 ≤ 0) (f0 : GRX (wide_0) (tall_0)) (f1 : RTV (wide_0) (tall_0) (barredPoint_0) (costOf_0) (x3)) (f2 : (0 ≤ x2) ∧ ((x2 + 1) ≤ (wide_0 * tall_0))) (f3 : (0 ≤ x3) ∧ ((x3 + 1) ≤ (wide_0 * tall_0))) (hK_0_140 : ∀ j : Int, 0 ≤ j → j < 24000 → 0 ≤ costOf_0 j ∧ costOf_0 j ≤ 1000000) (hK_0_143 : ∀ j : Int, 0 ≤ j → j < 6000 → 0 ≤ barredPoint_0 j ∧ barredPoint_0 j ≤ 1) (kz_0_146 : (-3999999) ≤ wide_0 ∧ wide_0 ≤ 600000023) (kz_0_147 : (-3999999) ≤ tall_0 ∧ tall_0 ≤ 600000007) : BB1 (wide_0) (tall_0) (barredPoint_0) (costOf_0) (x2) (x6) (x7) (x8) := by
  first
    | assumption
    | exact Or.inl ⟨by omega, by omega⟩
    | (have h := ‹BB1 _ _ _ _ _ _ _ _›; exact h)
    | (have hb : x8 ≤ 1000000 := by
         rcases ‹BB1 _ _ _ _ _ _ _ _› with h | h
         · omega
         · have := h.2.1; omega
       have e1 : x16 = costOf_0 x15 := by assumption
       have e2 : x22 = costOf_0 x21 := by assumption
       have e3 : x15 = x21 := by omega
       rw [e3, ← e2] at e1
       rw [show x24 = x22 + 1 by omega]; exact bb1_take (b := x8) (d := x7) (q := x11) (x := x21) (v := x22) ‹STQ _ _ _ _ _ _› (by omega) (by omega) (by omega) (by omega) (by assumption) (by omega))
  
set_option maxHeartbeats 4000000 in
theorem vc_Mo_bendsBecome_0_1 (x2 : Int) (x3 : Int) (x5 : Int) (x6 : Int) (x7 : Int) (x8 : Int) (wide_0 : Int) (tall_0 : Int) (barredPoint_0 : Int → Int) (costOf_0 : Int → Int) (k2 : 0 ≤ x2 ∧ x2 ≤ 5999) (k3 : 0 ≤ x3 ∧ x3 ≤ 5999) (k5 : 0 ≤ x5 ∧ x5 ≤ 0) (k6 : (-1) ≤ x6 ∧ x6 ≤ (-1)) (k7 : 1000000 ≤ x7 ∧ x7 ≤ 1000000) (k8 : 0 ≤ x8 ∧ x8 ≤ 0) (f0 : GRX (wide_0) (tall_0)) (f1 : RTV (wide_0) (tall_0) (barredPoint_0) (costOf_0) (x3)) (f2 : (0 ≤ x2) ∧ ((x2 + 1) ≤ (wide_0 * tall_0))) (f3 : (0 ≤ x3) ∧ ((x3 + 1) ≤ (wide_0 * tall_0))) (hK_0_140 : ∀ j : Int, 0 ≤ j → j < 24000 → 0 ≤ costOf_0 j ∧ costOf_0 j ≤ 1000000) (hK_0_143 : ∀ j : Int, 0 ≤ j → j < 6000 → 0 ≤ barredPoint_0 j ∧ barredPoint_0 j ≤ 1) (kz_0_146 : (-3999999) ≤ wide_0 ∧ wide_0 ≤ 600000023) (kz_0_147 : (-3999999) ≤ tall_0 ∧ tall_0 ≤ 600000007) : x5 = 0 := by
  first
    | omega
    | (have g := gok_bd ‹GRX _ _›; omega)
    | (have h := bb_next ‹RTV _ _ _ _ _› ‹BB2 _ _ _ _ _ _ _› ‹BB3 _ _ _ _ _ _ _ _ _ _› (by omega) (by omega)
       have h1 := h.1.1
       have h2 := h.2
       omega)
    | (obtain ⟨⟨mf, q, n1, n2, n3, n4⟩, u0, u1⟩ := bb_next ‹RTV _ _ _ _ _› ‹BB2 _ _ _ _ _ _ _› ‹BB3 _ _ _ _ _ _ _ _ _ _› (by omega) (by omega)
       have e := ‹STQ _ _ _ _ _ _›.2.2 q n1 n2
       have i := nb_in n1 (by have g := gok_bd ‹GRX _ _›; omega)
       have g3 := ‹GRX _ _›.2.2
       omega)
def o_Mo_bendsBecome_0 : or_T := (22, 9, [(0, (2, 0, 0, [165])), (2, (0, 0, 5999, [])), (3, (0, 0, 5999, [])), (5, (0, 0, 0, [])), (6, (0, -1, -1, [])), (7, (0, 1000000, 1000000, [])), (8, (0, 0, 0, []))], [(20, [0], [60, 2, 0, 494, 146, 147]), (20, [0, 3], [60, 2, 2, 504, 146, 147, 143, 140]), (20, [2, 0], [50, 2, 0, 1146, 1147, 2, 6, 0, 2, 0, 0, 1, 0, 0, 6, 4, 2, 1, 0, 0, 1, 6, 3, 2, 1, 146, 2, 1, 147]), (20, [3, 0], [50, 2, 0, 1146, 1147, 2, 6, 0, 2, 0, 0, 1, 0, 0, 6, 4, 2, 1, 0, 0, 1, 6, 3, 2, 1, 146, 2, 1, 147])], [], [], [(20, [0, 2, 6, 7, 8], [60, 2, 2, 506, 146, 147, 143, 140]), (20, [5], [50, 0, 0, 1, 2, 1, 0, 0, 0])], [], [])
theorem oo_Mo_bendsBecome_0 {kA : Nat → ClassId} : or_ok PRD kA GG o_Mo_bendsBecome_0 := by
  refine or_mk fun A ta ws vs hD hth hl => ?_
  intro t0 r0 t2 k2 t3 k3 t5 k5 t6 k6 t7 k7 t8 k8 f0 f1 f2 f3
  have cr_0_140 := fdq_174 hD hth r0
  have cr_0_143 := fdq_177 hD hth r0
  have hK_0_140 := elq_101 hD hth cr_0_140
  have hK_0_143 := elq_104 hD hth cr_0_143
  have kz_0_146 := fdq_178 hD hth r0
  have kz_0_147 := fdq_179 hD hth r0
  have nf0 : fc_1 PRD (20, [0, 2, 6, 7, 8], [60, 2, 2, 506, 146, 147, 143, 140]) ws (vs) := ⟨nf_in hl rfl, sgq_1377 (vc_Mo_bendsBecome_0_0 (v_iv (n_v vs 2)) (v_iv (n_v vs 3)) (v_iv (n_v vs 5)) (v_iv (n_v vs 6)) (v_iv (n_v vs 7)) (v_iv (n_v vs 8)) (w_fi ws (n_v vs 0) 146) (w_fi ws (n_v vs 0) 147) (w_ei ws (w_ar ws (n_v vs 0) 143)) (w_ei ws (w_ar ws (n_v vs 0) 140)) k2 k3 k5 k6 k7 k8 (shm_1255 f0) (shm_1376 f1) (shm_1256 f2) (shm_1256 f3) hK_0_140 hK_0_143 kz_0_146 kz_0_147)⟩
  have nf1 : fc_1 PRD (20, [5], [50, 0, 0, 1, 2, 1, 0, 0, 0]) ws (vs) := ⟨nf_in hl rfl, sgq_636 (vc_Mo_bendsBecome_0_1 (v_iv (n_v vs 2)) (v_iv (n_v vs 3)) (v_iv (n_v vs 5)) (v_iv (n_v vs 6)) (v_iv (n_v vs 7)) (v_iv (n_v vs 8)) (w_fi ws (n_v vs 0) 146) (w_fi ws (n_v vs 0) 147) (w_ei ws (w_ar ws (n_v vs 0) 143)) (w_ei ws (w_ar ws (n_v vs 0) 140)) k2 k3 k5 k6 k7 k8 (shm_1255 f0) (shm_1376 f1) (shm_1256 f2) (shm_1256 f3) hK_0_140 hK_0_143 kz_0_146 kz_0_147)⟩
  refine ⟨(fun _ h => (by cases h)), [], trivial, ?_, (fun _ h => (by cases h))⟩
  rw [List.append_nil]
  exact List.forall_mem_cons.mpr ⟨⟨show (20 : Nat) < 100 from by decide, nf0⟩, List.forall_mem_cons.mpr ⟨⟨show (20 : Nat) < 100 from by decide, nf1⟩, (fun _ h => (by cases h))⟩⟩
set_option maxHeartbeats 4000000 in
theorem vc_Mo_bendsBecome_1_r0 (x3 : Int) (x5 : Int) (x6 : Int) (x7 : Int) (x8 : Int) (x9 : Int) (x10 : Int) (x11 : Int) (barredPoint_0 : Int → Int) (wide_0 : Int) (tall_0 : Int) (costOf_0 : Int → Int) (k3 : 0 ≤ x3 ∧ x3 ≤ 5999) (k5 : 0 ≤ x5 ∧ x5 ≤ 0) (k6 : 0 ≤ x6 ∧ x6 ≤ 5999) (k7 : 0 ≤ x7 ∧ x7 ≤ 3) (k8 : 1 ≤ x8 ∧ x8 ≤ 1000001) (k9 : 4 ≤ x9 ∧ x9 ≤ 4) (k10 : 4 ≤ x10 ∧ x10 ≤ 4) (k11 : (-1) ≤ x11 ∧ x11 ≤ 5999) (f0 : STQ (wide_0) (tall_0) (barredPoint_0) (x6) (x7) (x11)) (f1 : ((-1) ≤ x11) ∧ ((x11 + 1) ≤ (wide_0 * tall_0))) (f2 : 0 ≤ x7) (f3 : x10 ≤ x9) (f4 : GRX (wide_0) (tall_0)) (f5 : RTV (wide_0) (tall_0) (barredPoint_0) (costOf_0) (x3)) (f6 : (0 ≤ x3) ∧ ((x3 + 1) ≤ (wide_0 * tall_0))) (f7 : (0 ≤ x6) ∧ ((x6 + 1) ≤ (wide_0 * tall_0))) (f8 : BB1 (wide_0) (tall_0) (barredPoint_0) (costOf_0) (x6) (x7) (x8) (x9)) (f9 : x5 = 0) (hK_0_140 : ∀ j : Int, 0 ≤ j → j < 24000 → 0 ≤ costOf_0 j ∧ costOf_0 j ≤ 1000000) (hK_0_143 : ∀ j : Int, 0 ≤ j → j < 6000 → 0 ≤ barredPoint_0 j ∧ barredPoint_0 j ≤ 1) (kz_0_146 : (-3999999) ≤ wide_0 ∧ wide_0 ≤ 600000023) (kz_0_147 : (-3999999) ≤ tall_0 ∧ tall_0 ≤ 600000007) : 0 ≤ x11 ∧ x11 ≤ 5999 := by
  (have h := bb2_start (t := x8 - 1) ‹RTV _ _ _ _ _› ‹BB1 _ _ _ _ _ _ _ _› (by omega) ‹STQ _ _ _ _ _ _› rfl
   have h1 := h.1
   have g3 := ‹GRX _ _›.2.2
   omega)
def o_Mo_bendsBecome_1 : or_T := (104, 12, [(0, (2, 0, 0, [165])), (3, (0, 0, 5999, [])), (5, (0, 0, 0, [])), (6, (0, 0, 5999, [])), (7, (0, 0, 3, [])), (8, (0, 1, 1000001, [])), (9, (0, 4, 4, [])), (10, (0, 4, 4, [])), (11, (0, -1, 5999, []))], [(20, [0, 6, 7, 11], [60, 2, 1, 505, 146, 147, 143]), (20, [11, 0], [50, 2, 0, 1146, 1147, 2, 6, 0, 2, 0, -1, 1, 0, 0, 6, 4, 2, 1, 0, 0, 1, 6, 3, 2, 1, 146, 2, 1, 147]), (8, [7], [3]), (7, [9, 10], [3]), (20, [0], [60, 2, 0, 494, 146, 147]), (20, [0, 3], [60, 2, 2, 504, 146, 147, 143, 140]), (20, [3, 0], [50, 2, 0, 1146, 1147, 2, 6, 0, 2, 0, 0, 1, 0, 0, 6, 4, 2, 1, 0, 0, 1, 6, 3, 2, 1, 146, 2, 1, 147]), (20, [6, 0], [50, 2, 0, 1146, 1147, 2, 6, 0, 2, 0, 0, 1, 0, 0, 6, 4, 2, 1, 0, 0, 1, 6, 3, 2, 1, 146, 2, 1, 147]), (20, [0, 6, 7, 8, 9], [60, 2, 2, 506, 146, 147, 143, 140]), (20, [5], [50, 0, 0, 1, 2, 1, 0, 0, 0])], [(11, (0, 0, 5999, []))], [], [], [], [])
theorem oo_Mo_bendsBecome_1 {kA : Nat → ClassId} : or_ok PRD kA GG o_Mo_bendsBecome_1 := by
  refine or_mk fun A ta ws vs hD hth hl => ?_
  intro t0 r0 t3 k3 t5 k5 t6 k6 t7 k7 t8 k8 t9 k9 t10 k10 t11 k11 f0 f1 f2 f3 f4 f5 f6 f7 f8 f9
  have cr_0_140 := fdq_174 hD hth r0
  have cr_0_143 := fdq_177 hD hth r0
  have hK_0_140 := elq_101 hD hth cr_0_140
  have hK_0_143 := elq_104 hD hth cr_0_143
  have kz_0_146 := fdq_178 hD hth r0
  have kz_0_147 := fdq_179 hD hth r0
  have hrf0 : 0 ≤ v_iv (n_v vs 11) ∧ v_iv (n_v vs 11) ≤ 5999 := vc_Mo_bendsBecome_1_r0 (v_iv (n_v vs 3)) (v_iv (n_v vs 5)) (v_iv (n_v vs 6)) (v_iv (n_v vs 7)) (v_iv (n_v vs 8)) (v_iv (n_v vs 9)) (v_iv (n_v vs 10)) (v_iv (n_v vs 11)) (w_ei ws (w_ar ws (n_v vs 0) 143)) (w_fi ws (n_v vs 0) 146) (w_fi ws (n_v vs 0) 147) (w_ei ws (w_ar ws (n_v vs 0) 140)) k3 k5 k6 k7 k8 k9 k10 k11 (shm_1257 f0) (shm_1258 f1) (shm_32 f2) (shm_2 f3) (shm_1255 f4) (shm_1376 f5) (shm_1256 f6) (shm_1256 f7) (shm_1377 f8) (shm_636 f9) hK_0_140 hK_0_143 kz_0_146 kz_0_147
  have rf11 : tv_ok ta (0, 0, 5999, []) (n_v vs 11) := tv_in t11 (by first | omega | grind) (by first | omega | grind)
  refine ⟨List.forall_mem_cons.mpr ⟨rf11, (fun _ h => (by cases h))⟩, [], trivial, ?_, (fun _ h => (by cases h))⟩
  rw [List.append_nil]
  exact (fun _ h => (by cases h))
set_option maxHeartbeats 4000000 in
theorem vc_Mo_bendsBecome_2_0 (x3 : Int) (x5 : Int) (x6 : Int) (x7 : Int) (x8 : Int) (x9 : Int) (x10 : Int) (x11 : Int) (x12 : Int) (x13 : Int) (barredPoint_0 : Int → Int) (wide_0 : Int) (tall_0 : Int) (costOf_0 : Int → Int) (gx : Int) (k3 : 0 ≤ x3 ∧ x3 ≤ 5999) (k5 : 0 ≤ x5 ∧ x5 ≤ 0) (k6 : 0 ≤ x6 ∧ x6 ≤ 5999) (k7 : 0 ≤ x7 ∧ x7 ≤ 3) (k8 : 1 ≤ x8 ∧ x8 ≤ 1000001) (k9 : 4 ≤ x9 ∧ x9 ≤ 4) (k10 : 4 ≤ x10 ∧ x10 ≤ 4) (k11 : 0 ≤ x11 ∧ x11 ≤ 5999) (k12 : 1 ≤ x12 ∧ x12 ≤ 1) (k13 : 0 ≤ x13 ∧ x13 ≤ 1000000) (d0 : x8 + (-1) ≤ x13 ∧ x13 ≤ x8 + (-1)) (f0 : x13 = x8 - x12) (f1 : STQ (wide_0) (tall_0) (barredPoint_0) (x6) (x7) (x11)) (f2 : ((-1) ≤ x11) ∧ ((x11 + 1) ≤ (wide_0 * tall_0))) (f3 : 0 ≤ x7) (f4 : x10 ≤ x9) (f5 : GRX (wide_0) (tall_0)) (f6 : RTV (wide_0) (tall_0) (barredPoint_0) (costOf_0) (x3)) (f7 : (0 ≤ x3) ∧ ((x3 + 1) ≤ (wide_0 * tall_0))) (f8 : (0 ≤ x6) ∧ ((x6 + 1) ≤ (wide_0 * tall_0))) (f9 : BB1 (wide_0) (tall_0) (barredPoint_0) (costOf_0) (x6) (x7) (x8) (x9)) (f10 : x5 = 0) (hK_0_140 : ∀ j : Int, 0 ≤ j → j < 24000 → 0 ≤ costOf_0 j ∧ costOf_0 j ≤ 1000000) (hK_0_143 : ∀ j : Int, 0 ≤ j → j < 6000 → 0 ≤ barredPoint_0 j ∧ barredPoint_0 j ≤ 1) (kz_0_146 : (-3999999) ≤ wide_0 ∧ wide_0 ≤ 600000023) (kz_0_147 : (-3999999) ≤ tall_0 ∧ tall_0 ≤ 600000007) (ex2 : gx = 1000000) (ex3 : (-2) ≤ gx ∧ gx ≤ 1000000) : GRX (wide_0) (tall_0) := by
  assumption
set_option maxHeartbeats 4000000 in
theorem vc_Mo_bendsBecome_2_1 (x3 : Int) (x5 : Int) (x6 : Int) (x7 : Int) (x8 : Int) (x9 : Int) (x10 : Int) (x11 : Int) (x12 : Int) (x13 : Int) (barredPoint_0 : Int → Int) (wide_0 : Int) (tall_0 : Int) (costOf_0 : Int → Int) (gx : Int) (k3 : 0 ≤ x3 ∧ x3 ≤ 5999) (k5 : 0 ≤ x5 ∧ x5 ≤ 0) (k6 : 0 ≤ x6 ∧ x6 ≤ 5999) (k7 : 0 ≤ x7 ∧ x7 ≤ 3) (k8 : 1 ≤ x8 ∧ x8 ≤ 1000001) (k9 : 4 ≤ x9 ∧ x9 ≤ 4) (k10 : 4 ≤ x10 ∧ x10 ≤ 4) (k11 : 0 ≤ x11 ∧ x11 ≤ 5999) (k12 : 1 ≤ x12 ∧ x12 ≤ 1) (k13 : 0 ≤ x13 ∧ x13 ≤ 1000000) (d0 : x8 + (-1) ≤ x13 ∧ x13 ≤ x8 + (-1)) (f0 : x13 = x8 - x12) (f1 : STQ (wide_0) (tall_0) (barredPoint_0) (x6) (x7) (x11)) (f2 : ((-1) ≤ x11) ∧ ((x11 + 1) ≤ (wide_0 * tall_0))) (f3 : 0 ≤ x7) (f4 : x10 ≤ x9) (f5 : GRX (wide_0) (tall_0)) (f6 : RTV (wide_0) (tall_0) (barredPoint_0) (costOf_0) (x3)) (f7 : (0 ≤ x3) ∧ ((x3 + 1) ≤ (wide_0 * tall_0))) (f8 : (0 ≤ x6) ∧ ((x6 + 1) ≤ (wide_0 * tall_0))) (f9 : BB1 (wide_0) (tall_0) (barredPoint_0) (costOf_0) (x6) (x7) (x8) (x9)) (f10 : x5 = 0) (hK_0_140 : ∀ j : Int, 0 ≤ j → j < 24000 → 0 ≤ costOf_0 j ∧ costOf_0 j ≤ 1000000) (hK_0_143 : ∀ j : Int, 0 ≤ j → j < 6000 → 0 ≤ barredPoint_0 j ∧ barredPoint_0 j ≤ 1) (kz_0_146 : (-3999999) ≤ wide_0 ∧ wide_0 ≤ 600000023) (kz_0_147 : (-3999999) ≤ tall_0 ∧ tall_0 ≤ 600000007) (ex2 : gx = 1000000) (ex3 : (-2) ≤ gx ∧ gx ≤ 1000000) : RTV (wide_0) (tall_0) (barredPoint_0) (costOf_0) (x3) := by
  assumption
set_option maxHeartbeats 4000000 in
theorem vc_Mo_bendsBecome_2_2 (x3 : Int) (x5 : Int) (x6 : Int) (x7 : Int) (x8 : Int) (x9 : Int) (x10 : Int) (x11 : Int) (x12 : Int) (x13 : Int) (barredPoint_0 : Int → Int) (wide_0 : Int) (tall_0 : Int) (costOf_0 : Int → Int) (gx : Int) (k3 : 0 ≤ x3 ∧ x3 ≤ 5999) (k5 : 0 ≤ x5 ∧ x5 ≤ 0) (k6 : 0 ≤ x6 ∧ x6 ≤ 5999) (k7 : 0 ≤ x7 ∧ x7 ≤ 3) (k8 : 1 ≤ x8 ∧ x8 ≤ 1000001) (k9 : 4 ≤ x9 ∧ x9 ≤ 4) (k10 : 4 ≤ x10 ∧ x10 ≤ 4) (k11 : 0 ≤ x11 ∧ x11 ≤ 5999) (k12 : 1 ≤ x12 ∧ x12 ≤ 1) (k13 : 0 ≤ x13 ∧ x13 ≤ 1000000) (d0 : x8 + (-1) ≤ x13 ∧ x13 ≤ x8 + (-1)) (f0 : x13 = x8 - x12) (f1 : STQ (wide_0) (tall_0) (barredPoint_0) (x6) (x7) (x11)) (f2 : ((-1) ≤ x11) ∧ ((x11 + 1) ≤ (wide_0 * tall_0))) (f3 : 0 ≤ x7) (f4 : x10 ≤ x9) (f5 : GRX (wide_0) (tall_0)) (f6 : RTV (wide_0) (tall_0) (barredPoint_0) (costOf_0) (x3)) (f7 : (0 ≤ x3) ∧ ((x3 + 1) ≤ (wide_0 * tall_0))) (f8 : (0 ≤ x6) ∧ ((x6 + 1) ≤ (wide_0 * tall_0))) (f9 : BB1 (wide_0) (tall_0) (barredPoint_0) (costOf_0) (x6) (x7) (x8) (x9)) (f10 : x5 = 0) (hK_0_140 : ∀ j : Int, 0 ≤ j → j < 24000 → 0 ≤ costOf_0 j ∧ costOf_0 j ≤ 1000000) (hK_0_143 : ∀ j : Int, 0 ≤ j → j < 6000 → 0 ≤ barredPoint_0 j ∧ barredPoint_0 j ≤ 1) (kz_0_146 : (-3999999) ≤ wide_0 ∧ wide_0 ≤ 600000023) (kz_0_147 : (-3999999) ≤ tall_0 ∧ tall_0 ≤ 600000007) (ex2 : gx = 1000000) (ex3 : (-2) ≤ gx ∧ gx ≤ 1000000) : (0 ≤ x3) ∧ ((x3 + 1) ≤ (wide_0 * tall_0)) := by
  first
    | omega
    | (have h := bb2_start (t := x13) ‹RTV _ _ _ _ _› ‹BB1 _ _ _ _ _ _ _ _› (by omega) ‹STQ _ _ _ _ _ _› (by omega)
       have h1 := h.1
       have h2 := h.2.2.2.2
       omega)
    | (have h := bb_next ‹RTV _ _ _ _ _› ‹BB2 _ _ _ _ _ _ _› ‹BB3 _ _ _ _ _ _ _ _ _ _› (by omega) (by omega)
       have h1 := h.1.1
       have h2 := h.2
       omega)
set_option maxHeartbeats 4000000 in
theorem vc_Mo_bendsBecome_2_3 (x3 : Int) (x5 : Int) (x6 : Int) (x7 : Int) (x8 : Int) (x9 : Int) (x10 : Int) (x11 : Int) (x12 : Int) (x13 : Int) (barredPoint_0 : Int → Int) (wide_0 : Int) (tall_0 : Int) (costOf_0 : Int → Int) (gx : Int) (k3 : 0 ≤ x3 ∧ x3 ≤ 5999) (k5 : 0 ≤ x5 ∧ x5 ≤ 0) (k6 : 0 ≤ x6 ∧ x6 ≤ 5999) (k7 : 0 ≤ x7 ∧ x7 ≤ 3) (k8 : 1 ≤ x8 ∧ x8 ≤ 1000001) (k9 : 4 ≤ x9 ∧ x9 ≤ 4) (k10 : 4 ≤ x10 ∧ x10 ≤ 4) (k11 : 0 ≤ x11 ∧ x11 ≤ 5999) (k12 : 1 ≤ x12 ∧ x12 ≤ 1) (k13 : 0 ≤ x13 ∧ x13 ≤ 1000000) (d0 : x8 + (-1) ≤ x13 ∧ x13 ≤ x8 + (-1)) (f0 : x13 = x8 - x12) (f1 : STQ (wide_0) (tall_0) (barredPoint_0) (x6) (x7) (x11)) (f2 : ((-1) ≤ x11) ∧ ((x11 + 1) ≤ (wide_0 * tall_0))) (f3 : 0 ≤ x7) (f4 : x10 ≤ x9) (f5 : GRX (wide_0) (tall_0)) (f6 : RTV (wide_0) (tall_0) (barredPoint_0) (costOf_0) (x3)) (f7 : (0 ≤ x3) ∧ ((x3 + 1) ≤ (wide_0 * tall_0))) (f8 : (0 ≤ x6) ∧ ((x6 + 1) ≤ (wide_0 * tall_0))) (f9 : BB1 (wide_0) (tall_0) (barredPoint_0) (costOf_0) (x6) (x7) (x8) (x9)) (f10 : x5 = 0) (hK_0_140 : ∀ j : Int, 0 ≤ j → j < 24000 → 0 ≤ costOf_0 j ∧ costOf_0 j ≤ 1000000) (hK_0_143 : ∀ j : Int, 0 ≤ j → j < 6000 → 0 ≤ barredPoint_0 j ∧ barredPoint_0 j ≤ 1) (kz_0_146 : (-3999999) ≤ wide_0 ∧ wide_0 ≤ 600000023) (kz_0_147 : (-3999999) ≤ tall_0 ∧ tall_0 ≤ 600000007) (ex2 : gx = 1000000) (ex3 : (-2) ≤ gx ∧ gx ≤ 1000000) : BB2 (wide_0) (tall_0) (barredPoint_0) (costOf_0) (x11) (x7) (x13) := by
  first
    | exact bb2_start ‹RTV _ _ _ _ _› ‹BB1 _ _ _ _ _ _ _ _› (by omega) ‹STQ _ _ _ _ _ _› (by omega)
    | exact bb2_next ‹RTV _ _ _ _ _› ‹BB2 _ _ _ _ _ _ _› ‹BB3 _ _ _ _ _ _ _ _ _ _› (by omega) (by omega) ‹STQ _ _ _ _ _ _›
  
set_option maxHeartbeats 4000000 in
theorem vc_Mo_bendsBecome_2_4 (x3 : Int) (x5 : Int) (x6 : Int) (x7 : Int) (x8 : Int) (x9 : Int) (x10 : Int) (x11 : Int) (x12 : Int) (x13 : Int) (barredPoint_0 : Int → Int) (wide_0 : Int) (tall_0 : Int) (costOf_0 : Int → Int) (gx : Int) (k3 : 0 ≤ x3 ∧ x3 ≤ 5999) (k5 : 0 ≤ x5 ∧ x5 ≤ 0) (k6 : 0 ≤ x6 ∧ x6 ≤ 5999) (k7 : 0 ≤ x7 ∧ x7 ≤ 3) (k8 : 1 ≤ x8 ∧ x8 ≤ 1000001) (k9 : 4 ≤ x9 ∧ x9 ≤ 4) (k10 : 4 ≤ x10 ∧ x10 ≤ 4) (k11 : 0 ≤ x11 ∧ x11 ≤ 5999) (k12 : 1 ≤ x12 ∧ x12 ≤ 1) (k13 : 0 ≤ x13 ∧ x13 ≤ 1000000) (d0 : x8 + (-1) ≤ x13 ∧ x13 ≤ x8 + (-1)) (f0 : x13 = x8 - x12) (f1 : STQ (wide_0) (tall_0) (barredPoint_0) (x6) (x7) (x11)) (f2 : ((-1) ≤ x11) ∧ ((x11 + 1) ≤ (wide_0 * tall_0))) (f3 : 0 ≤ x7) (f4 : x10 ≤ x9) (f5 : GRX (wide_0) (tall_0)) (f6 : RTV (wide_0) (tall_0) (barredPoint_0) (costOf_0) (x3)) (f7 : (0 ≤ x3) ∧ ((x3 + 1) ≤ (wide_0 * tall_0))) (f8 : (0 ≤ x6) ∧ ((x6 + 1) ≤ (wide_0 * tall_0))) (f9 : BB1 (wide_0) (tall_0) (barredPoint_0) (costOf_0) (x6) (x7) (x8) (x9)) (f10 : x5 = 0) (hK_0_140 : ∀ j : Int, 0 ≤ j → j < 24000 → 0 ≤ costOf_0 j ∧ costOf_0 j ≤ 1000000) (hK_0_143 : ∀ j : Int, 0 ≤ j → j < 6000 → 0 ≤ barredPoint_0 j ∧ barredPoint_0 j ≤ 1) (kz_0_146 : (-3999999) ≤ wide_0 ∧ wide_0 ≤ 600000023) (kz_0_147 : (-3999999) ≤ tall_0 ∧ tall_0 ≤ 600000007) (ex2 : gx = 1000000) (ex3 : (-2) ≤ gx ∧ gx ≤ 1000000) : (0 ≤ x11) ∧ ((x11 + 1) ≤ (wide_0 * tall_0)) := by
  first
    | omega
    | (have h := bb2_start (t := x13) ‹RTV _ _ _ _ _› ‹BB1 _ _ _ _ _ _ _ _› (by omega) ‹STQ _ _ _ _ _ _› (by omega)
       have h1 := h.1
       have h2 := h.2.2.2.2
       omega)
    | (have h := bb_next ‹RTV _ _ _ _ _› ‹BB2 _ _ _ _ _ _ _› ‹BB3 _ _ _ _ _ _ _ _ _ _› (by omega) (by omega)
       have h1 := h.1.1
       have h2 := h.2
       omega)
set_option maxHeartbeats 4000000 in
theorem vc_Mo_bendsBecome_2_5 (x3 : Int) (x5 : Int) (x6 : Int) (x7 : Int) (x8 : Int) (x9 : Int) (x10 : Int) (x11 : Int) (x12 : Int) (x13 : Int) (barredPoint_0 : Int → Int) (wide_0 : Int) (tall_0 : Int) (costOf_0 : Int → Int) (gx : Int) (k3 : 0 ≤ x3 ∧ x3 ≤ 5999) (k5 : 0 ≤ x5 ∧ x5 ≤ 0) (k6 : 0 ≤ x6 ∧ x6 ≤ 5999) (k7 : 0 ≤ x7 ∧ x7 ≤ 3) (k8 : 1 ≤ x8 ∧ x8 ≤ 1000001) (k9 : 4 ≤ x9 ∧ x9 ≤ 4) (k10 : 4 ≤ x10 ∧ x10 ≤ 4) (k11 : 0 ≤ x11 ∧ x11 ≤ 5999) (k12 : 1 ≤ x12 ∧ x12 ≤ 1) (k13 : 0 ≤ x13 ∧ x13 ≤ 1000000) (d0 : x8 + (-1) ≤ x13 ∧ x13 ≤ x8 + (-1)) (f0 : x13 = x8 - x12) (f1 : STQ (wide_0) (tall_0) (barredPoint_0) (x6) (x7) (x11)) (f2 : ((-1) ≤ x11) ∧ ((x11 + 1) ≤ (wide_0 * tall_0))) (f3 : 0 ≤ x7) (f4 : x10 ≤ x9) (f5 : GRX (wide_0) (tall_0)) (f6 : RTV (wide_0) (tall_0) (barredPoint_0) (costOf_0) (x3)) (f7 : (0 ≤ x3) ∧ ((x3 + 1) ≤ (wide_0 * tall_0))) (f8 : (0 ≤ x6) ∧ ((x6 + 1) ≤ (wide_0 * tall_0))) (f9 : BB1 (wide_0) (tall_0) (barredPoint_0) (costOf_0) (x6) (x7) (x8) (x9)) (f10 : x5 = 0) (hK_0_140 : ∀ j : Int, 0 ≤ j → j < 24000 → 0 ≤ costOf_0 j ∧ costOf_0 j ≤ 1000000) (hK_0_143 : ∀ j : Int, 0 ≤ j → j < 6000 → 0 ≤ barredPoint_0 j ∧ barredPoint_0 j ≤ 1) (kz_0_146 : (-3999999) ≤ wide_0 ∧ wide_0 ≤ 600000023) (kz_0_147 : (-3999999) ≤ tall_0 ∧ tall_0 ≤ 600000007) (ex2 : gx = 1000000) (ex3 : (-2) ≤ gx ∧ gx ≤ 1000000) : (x5 + x13) ≤ 1000000 := by
  first
    | omega
    | (have h := bb2_start (t := x13) ‹RTV _ _ _ _ _› ‹BB1 _ _ _ _ _ _ _ _› (by omega) ‹STQ _ _ _ _ _ _› (by omega)
       have h1 := h.1
       have h2 := h.2.2.2.2
       omega)
    | (have h := bb_next ‹RTV _ _ _ _ _› ‹BB2 _ _ _ _ _ _ _› ‹BB3 _ _ _ _ _ _ _ _ _ _› (by omega) (by omega)
       have h1 := h.1.1
       have h2 := h.2
       omega)
set_option maxHeartbeats 4000000 in
theorem vc_Mo_bendsBecome_2_6 (x3 : Int) (x5 : Int) (x6 : Int) (x7 : Int) (x8 : Int) (x9 : Int) (x10 : Int) (x11 : Int) (x12 : Int) (x13 : Int) (barredPoint_0 : Int → Int) (wide_0 : Int) (tall_0 : Int) (costOf_0 : Int → Int) (gx : Int) (k3 : 0 ≤ x3 ∧ x3 ≤ 5999) (k5 : 0 ≤ x5 ∧ x5 ≤ 0) (k6 : 0 ≤ x6 ∧ x6 ≤ 5999) (k7 : 0 ≤ x7 ∧ x7 ≤ 3) (k8 : 1 ≤ x8 ∧ x8 ≤ 1000001) (k9 : 4 ≤ x9 ∧ x9 ≤ 4) (k10 : 4 ≤ x10 ∧ x10 ≤ 4) (k11 : 0 ≤ x11 ∧ x11 ≤ 5999) (k12 : 1 ≤ x12 ∧ x12 ≤ 1) (k13 : 0 ≤ x13 ∧ x13 ≤ 1000000) (d0 : x8 + (-1) ≤ x13 ∧ x13 ≤ x8 + (-1)) (f0 : x13 = x8 - x12) (f1 : STQ (wide_0) (tall_0) (barredPoint_0) (x6) (x7) (x11)) (f2 : ((-1) ≤ x11) ∧ ((x11 + 1) ≤ (wide_0 * tall_0))) (f3 : 0 ≤ x7) (f4 : x10 ≤ x9) (f5 : GRX (wide_0) (tall_0)) (f6 : RTV (wide_0) (tall_0) (barredPoint_0) (costOf_0) (x3)) (f7 : (0 ≤ x3) ∧ ((x3 + 1) ≤ (wide_0 * tall_0))) (f8 : (0 ≤ x6) ∧ ((x6 + 1) ≤ (wide_0 * tall_0))) (f9 : BB1 (wide_0) (tall_0) (barredPoint_0) (costOf_0) (x6) (x7) (x8) (x9)) (f10 : x5 = 0) (hK_0_140 : ∀ j : Int, 0 ≤ j → j < 24000 → 0 ≤ costOf_0 j ∧ costOf_0 j ≤ 1000000) (hK_0_143 : ∀ j : Int, 0 ≤ j → j < 6000 → 0 ≤ barredPoint_0 j ∧ barredPoint_0 j ≤ 1) (kz_0_146 : (-3999999) ≤ wide_0 ∧ wide_0 ≤ 600000023) (kz_0_147 : (-3999999) ≤ tall_0 ∧ tall_0 ≤ 600000007) (ex2 : gx = 1000000) (ex3 : (-2) ≤ gx ∧ gx ≤ 1000000) : 0 ≤ x5 := by
  first
    | omega
    | (have h := bb2_start (t := x13) ‹RTV _ _ _ _ _› ‹BB1 _ _ _ _ _ _ _ _› (by omega) ‹STQ _ _ _ _ _ _› (by omega)
       have h1 := h.1
       have h2 := h.2.2.2.2
       omega)
    | (have h := bb_next ‹RTV _ _ _ _ _› ‹BB2 _ _ _ _ _ _ _› ‹BB3 _ _ _ _ _ _ _ _ _ _› (by omega) (by omega)
       have h1 := h.1.1
       have h2 := h.2
       omega)
set_option maxHeartbeats 4000000 in
theorem vc_Mo_bendsBecome_2_7 (x3 : Int) (x5 : Int) (x6 : Int) (x7 : Int) (x8 : Int) (x9 : Int) (x10 : Int) (x11 : Int) (x12 : Int) (x13 : Int) (barredPoint_0 : Int → Int) (wide_0 : Int) (tall_0 : Int) (costOf_0 : Int → Int) (gx : Int) (k3 : 0 ≤ x3 ∧ x3 ≤ 5999) (k5 : 0 ≤ x5 ∧ x5 ≤ 0) (k6 : 0 ≤ x6 ∧ x6 ≤ 5999) (k7 : 0 ≤ x7 ∧ x7 ≤ 3) (k8 : 1 ≤ x8 ∧ x8 ≤ 1000001) (k9 : 4 ≤ x9 ∧ x9 ≤ 4) (k10 : 4 ≤ x10 ∧ x10 ≤ 4) (k11 : 0 ≤ x11 ∧ x11 ≤ 5999) (k12 : 1 ≤ x12 ∧ x12 ≤ 1) (k13 : 0 ≤ x13 ∧ x13 ≤ 1000000) (d0 : x8 + (-1) ≤ x13 ∧ x13 ≤ x8 + (-1)) (f0 : x13 = x8 - x12) (f1 : STQ (wide_0) (tall_0) (barredPoint_0) (x6) (x7) (x11)) (f2 : ((-1) ≤ x11) ∧ ((x11 + 1) ≤ (wide_0 * tall_0))) (f3 : 0 ≤ x7) (f4 : x10 ≤ x9) (f5 : GRX (wide_0) (tall_0)) (f6 : RTV (wide_0) (tall_0) (barredPoint_0) (costOf_0) (x3)) (f7 : (0 ≤ x3) ∧ ((x3 + 1) ≤ (wide_0 * tall_0))) (f8 : (0 ≤ x6) ∧ ((x6 + 1) ≤ (wide_0 * tall_0))) (f9 : BB1 (wide_0) (tall_0) (barredPoint_0) (costOf_0) (x6) (x7) (x8) (x9)) (f10 : x5 = 0) (hK_0_140 : ∀ j : Int, 0 ≤ j → j < 24000 → 0 ≤ costOf_0 j ∧ costOf_0 j ≤ 1000000) (hK_0_143 : ∀ j : Int, 0 ≤ j → j < 6000 → 0 ≤ barredPoint_0 j ∧ barredPoint_0 j ≤ 1) (kz_0_146 : (-3999999) ≤ wide_0 ∧ wide_0 ≤ 600000023) (kz_0_147 : (-3999999) ≤ tall_0 ∧ tall_0 ≤ 600000007) (ex2 : gx = 1000000) (ex3 : (-2) ≤ gx ∧ gx ≤ 1000000) : (0 ≤ x13) ∧ (x13 ≤ gx) := by
  first
    | omega
    | (have h := bb2_start (t := x13) ‹RTV _ _ _ _ _› ‹BB1 _ _ _ _ _ _ _ _› (by omega) ‹STQ _ _ _ _ _ _› (by omega)
       have h1 := h.1
       have h2 := h.2.2.2.2
       omega)
    | (have h := bb_next ‹RTV _ _ _ _ _› ‹BB2 _ _ _ _ _ _ _› ‹BB3 _ _ _ _ _ _ _ _ _ _› (by omega) (by omega)
       have h1 := h.1.1
       have h2 := h.2
       omega)
def o_Mo_bendsBecome_2 : or_T := (112, 14, [(0, (2, 0, 0, [165])), (3, (0, 0, 5999, [])), (5, (0, 0, 0, [])), (6, (0, 0, 5999, [])), (7, (0, 0, 3, [])), (8, (0, 1, 1000001, [])), (9, (0, 4, 4, [])), (10, (0, 4, 4, [])), (11, (0, 0, 5999, [])), (12, (0, 1, 1, [])), (13, (0, 0, 1000000, []))], [(2, [13, 8, 12], []), (20, [0, 6, 7, 11], [60, 2, 1, 505, 146, 147, 143]), (20, [11, 0], [50, 2, 0, 1146, 1147, 2, 6, 0, 2, 0, -1, 1, 0, 0, 6, 4, 2, 1, 0, 0, 1, 6, 3, 2, 1, 146, 2, 1, 147]), (8, [7], [3]), (7, [9, 10], [3]), (20, [0], [60, 2, 0, 494, 146, 147]), (20, [0, 3], [60, 2, 2, 504, 146, 147, 143, 140]), (20, [3, 0], [50, 2, 0, 1146, 1147, 2, 6, 0, 2, 0, 0, 1, 0, 0, 6, 4, 2, 1, 0, 0, 1, 6, 3, 2, 1, 146, 2, 1, 147]), (20, [6, 0], [50, 2, 0, 1146, 1147, 2, 6, 0, 2, 0, 0, 1, 0, 0, 6, 4, 2, 1, 0, 0, 1, 6, 3, 2, 1, 146, 2, 1, 147]), (20, [0, 6, 7, 8, 9], [60, 2, 2, 506, 146, 147, 143, 140]), (20, [5], [50, 0, 0, 1, 2, 1, 0, 0, 0])], [], [(0, -2, 1000000, [])], [(20, [0], [60, 2, 0, 494, 146, 147]), (20, [0, 3], [60, 2, 2, 504, 146, 147, 143, 140]), (20, [3, 0], [50, 2, 0, 1146, 1147, 2, 6, 0, 2, 0, 0, 1, 0, 0, 6, 4, 2, 1, 0, 0, 1, 6, 3, 2, 1, 146, 2, 1, 147]), (20, [0, 11, 7, 13], [60, 2, 2, 507, 146, 147, 143, 140]), (20, [11, 0], [50, 2, 0, 1146, 1147, 2, 6, 0, 2, 0, 0, 1, 0, 0, 6, 4, 2, 1, 0, 0, 1, 6, 3, 2, 1, 146, 2, 1, 147]), (20, [5, 13], [50, 0, 0, 0, 6, 4, 2, 1, 0, 1, 1, 0, 1000000]), (20, [5], [50, 0, 0, 0, 2, 0, 0, 1, 0]), (20, [13, 14], [50, 0, 0, 2, 6, 0, 2, 0, 0, 1, 0, 0, 2, 1, 0, 1, 1])], [], [(13, 8, -1, -1)])
theorem oo_Mo_bendsBecome_2 {kA : Nat → ClassId} : or_ok PRD kA GG o_Mo_bendsBecome_2 := by
  refine or_mk fun A ta ws vs hD hth hl => ?_
  intro t0 r0 t3 k3 t5 k5 t6 k6 t7 k7 t8 k8 t9 k9 t10 k10 t11 k11 t12 k12 t13 k13 d0 f0 f1 f2 f3 f4 f5 f6 f7 f8 f9 f10
  replace f0 := shm_14 f0
  replace f1 := shm_1257 f1
  replace f2 := shm_1258 f2
  replace f3 := shm_32 f3
  replace f4 := shm_2 f4
  replace f5 := shm_1255 f5
  replace f6 := shm_1376 f6
  replace f7 := shm_1256 f7
  replace f8 := shm_1256 f8
  replace f9 := shm_1377 f9
  replace f10 := shm_636 f10
  have cr_0_140 := fdq_174 hD hth r0
  have cr_0_143 := fdq_177 hD hth r0
  have hK_0_140 := elq_101 hD hth cr_0_140
  have hK_0_143 := elq_104 hD hth cr_0_143
  have kz_0_146 := fdq_178 hD hth r0
  have kz_0_147 := fdq_179 hD hth r0
  obtain ⟨x, ex, hx⟩ := iv_ex (ta := ta) (lo := (-2)) (hi := 1000000) (z := 1000000) (by omega) (by omega) (by omega) (by omega)
  have ex2 : v_iv (Value.int x) = 1000000 := ex
  have ex3 : (-2) ≤ v_iv (Value.int x) ∧ v_iv (Value.int x) ≤ 1000000 := tv_rng hx
  have e_0 : n_v (vs ++ [Value.int x]) 0 = n_v vs 0 := n_v_old (by rw [hl]; decide)
  have e_3 : n_v (vs ++ [Value.int x]) 3 = n_v vs 3 := n_v_old (by rw [hl]; decide)
  have e_5 : n_v (vs ++ [Value.int x]) 5 = n_v vs 5 := n_v_old (by rw [hl]; decide)
  have e_7 : n_v (vs ++ [Value.int x]) 7 = n_v vs 7 := n_v_old (by rw [hl]; decide)
  have e_11 : n_v (vs ++ [Value.int x]) 11 = n_v vs 11 := n_v_old (by rw [hl]; decide)
  have e_13 : n_v (vs ++ [Value.int x]) 13 = n_v vs 13 := n_v_old (by rw [hl]; decide)
  have e_14 : n_v (vs ++ [Value.int x]) 14 = Value.int x := n_v_new hl
  have nf0 : fc_1 PRD (20, [0], [60, 2, 0, 494, 146, 147]) ws (vs ++ [Value.int x]) := by
    refine ⟨nf_inA hl rfl, sgq_1255 ?_⟩
    · show GRX (w_fi ws (n_v (vs ++ [Value.int x]) 0) 146) (w_fi ws (n_v (vs ++ [Value.int x]) 0) 147)
      rw [e_0]
      exact vc_Mo_bendsBecome_2_0 (v_iv (n_v vs 3)) (v_iv (n_v vs 5)) (v_iv (n_v vs 6)) (v_iv (n_v vs 7)) (v_iv (n_v vs 8)) (v_iv (n_v vs 9)) (v_iv (n_v vs 10)) (v_iv (n_v vs 11)) (v_iv (n_v vs 12)) (v_iv (n_v vs 13)) (w_ei ws (w_ar ws (n_v vs 0) 143)) (w_fi ws (n_v vs 0) 146) (w_fi ws (n_v vs 0) 147) (w_ei ws (w_ar ws (n_v vs 0) 140)) (v_iv (Value.int x)) k3 k5 k6 k7 k8 k9 k10 k11 k12 k13 d0 f0 f1 f2 f3 f4 f5 f6 f7 f8 f9 f10 hK_0_140 hK_0_143 kz_0_146 kz_0_147 ex2 ex3
  have nf1 : fc_1 PRD (20, [0, 3], [60, 2, 2, 504, 146, 147, 143, 140]) ws (vs ++ [Value.int x]) := by
    refine ⟨nf_inA hl rfl, sgq_1376 ?_⟩
    · show RTV (w_fi ws (n_v (vs ++ [Value.int x]) 0) 146) (w_fi ws (n_v (vs ++ [Value.int x]) 0) 147) (w_ei ws (w_ar ws (n_v (vs ++ [Value.int x]) 0) 143)) (w_ei ws (w_ar ws (n_v (vs ++ [Value.int x]) 0) 140)) (v_iv (n_v (vs ++ [Value.int x]) 3))
      simp only [e_0, e_3]
      exact vc_Mo_bendsBecome_2_1 (v_iv (n_v vs 3)) (v_iv (n_v vs 5)) (v_iv (n_v vs 6)) (v_iv (n_v vs 7)) (v_iv (n_v vs 8)) (v_iv (n_v vs 9)) (v_iv (n_v vs 10)) (v_iv (n_v vs 11)) (v_iv (n_v vs 12)) (v_iv (n_v vs 13)) (w_ei ws (w_ar ws (n_v vs 0) 143)) (w_fi ws (n_v vs 0) 146) (w_fi ws (n_v vs 0) 147) (w_ei ws (w_ar ws (n_v vs 0) 140)) (v_iv (Value.int x)) k3 k5 k6 k7 k8 k9 k10 k11 k12 k13 d0 f0 f1 f2 f3 f4 f5 f6 f7 f8 f9 f10 hK_0_140 hK_0_143 kz_0_146 kz_0_147 ex2 ex3
  have nf2 : fc_1 PRD (20, [3, 0], [50, 2, 0, 1146, 1147, 2, 6, 0, 2, 0, 0, 1, 0, 0, 6, 4, 2, 1, 0, 0, 1, 6, 3, 2, 1, 146, 2, 1, 147]) ws (vs ++ [Value.int x]) := by
    refine ⟨nf_inA hl rfl, sgq_1256 ?_⟩
    · show (0 ≤ v_iv (n_v (vs ++ [Value.int x]) 3)) ∧ ((v_iv (n_v (vs ++ [Value.int x]) 3) + 1) ≤ (w_fi ws (n_v (vs ++ [Value.int x]) 0) 146 * w_fi ws (n_v (vs ++ [Value.int x]) 0) 147))
      simp only [e_0, e_3]
      exact vc_Mo_bendsBecome_2_2 (v_iv (n_v vs 3)) (v_iv (n_v vs 5)) (v_iv (n_v vs 6)) (v_iv (n_v vs 7)) (v_iv (n_v vs 8)) (v_iv (n_v vs 9)) (v_iv (n_v vs 10)) (v_iv (n_v vs 11)) (v_iv (n_v vs 12)) (v_iv (n_v vs 13)) (w_ei ws (w_ar ws (n_v vs 0) 143)) (w_fi ws (n_v vs 0) 146) (w_fi ws (n_v vs 0) 147) (w_ei ws (w_ar ws (n_v vs 0) 140)) (v_iv (Value.int x)) k3 k5 k6 k7 k8 k9 k10 k11 k12 k13 d0 f0 f1 f2 f3 f4 f5 f6 f7 f8 f9 f10 hK_0_140 hK_0_143 kz_0_146 kz_0_147 ex2 ex3
  have nf3 : fc_1 PRD (20, [0, 11, 7, 13], [60, 2, 2, 507, 146, 147, 143, 140]) ws (vs ++ [Value.int x]) := by
    refine ⟨nf_inA hl rfl, sgq_1378 ?_⟩
    · show BB2 (w_fi ws (n_v (vs ++ [Value.int x]) 0) 146) (w_fi ws (n_v (vs ++ [Value.int x]) 0) 147) (w_ei ws (w_ar ws (n_v (vs ++ [Value.int x]) 0) 143)) (w_ei ws (w_ar ws (n_v (vs ++ [Value.int x]) 0) 140)) (v_iv (n_v (vs ++ [Value.int x]) 11)) (v_iv (n_v (vs ++ [Value.int x]) 7)) (v_iv (n_v (vs ++ [Value.int x]) 13))
      simp only [e_0, e_7, e_11, e_13]
      exact vc_Mo_bendsBecome_2_3 (v_iv (n_v vs 3)) (v_iv (n_v vs 5)) (v_iv (n_v vs 6)) (v_iv (n_v vs 7)) (v_iv (n_v vs 8)) (v_iv (n_v vs 9)) (v_iv (n_v vs 10)) (v_iv (n_v vs 11)) (v_iv (n_v vs 12)) (v_iv (n_v vs 13)) (w_ei ws (w_ar ws (n_v vs 0) 143)) (w_fi ws (n_v vs 0) 146) (w_fi ws (n_v vs 0) 147) (w_ei ws (w_ar ws (n_v vs 0) 140)) (v_iv (Value.int x)) k3 k5 k6 k7 k8 k9 k10 k11 k12 k13 d0 f0 f1 f2 f3 f4 f5 f6 f7 f8 f9 f10 hK_0_140 hK_0_143 kz_0_146 kz_0_147 ex2 ex3
  have nf4 : fc_1 PRD (20, [11, 0], [50, 2, 0, 1146, 1147, 2, 6, 0, 2, 0, 0, 1, 0, 0, 6, 4, 2, 1, 0, 0, 1, 6, 3, 2, 1, 146, 2, 1, 147]) ws (vs ++ [Value.int x]) := by
    refine ⟨nf_inA hl rfl, sgq_1256 ?_⟩
    · show (0 ≤ v_iv (n_v (vs ++ [Value.int x]) 11)) ∧ ((v_iv (n_v (vs ++ [Value.int x]) 11) + 1) ≤ (w_fi ws (n_v (vs ++ [Value.int x]) 0) 146 * w_fi ws (n_v (vs ++ [Value.int x]) 0) 147))
      simp only [e_0, e_11]
      exact vc_Mo_bendsBecome_2_4 (v_iv (n_v vs 3)) (v_iv (n_v vs 5)) (v_iv (n_v vs 6)) (v_iv (n_v vs 7)) (v_iv (n_v vs 8)) (v_iv (n_v vs 9)) (v_iv (n_v vs 10)) (v_iv (n_v vs 11)) (v_iv (n_v vs 12)) (v_iv (n_v vs 13)) (w_ei ws (w_ar ws (n_v vs 0) 143)) (w_fi ws (n_v vs 0) 146) (w_fi ws (n_v vs 0) 147) (w_ei ws (w_ar ws (n_v vs 0) 140)) (v_iv (Value.int x)) k3 k5 k6 k7 k8 k9 k10 k11 k12 k13 d0 f0 f1 f2 f3 f4 f5 f6 f7 f8 f9 f10 hK_0_140 hK_0_143 kz_0_146 kz_0_147 ex2 ex3
  have nf5 : fc_1 PRD (20, [5, 13], [50, 0, 0, 0, 6, 4, 2, 1, 0, 1, 1, 0, 1000000]) ws (vs ++ [Value.int x]) := by
    refine ⟨nf_inA hl rfl, sgq_1379 ?_⟩
    · show (v_iv (n_v (vs ++ [Value.int x]) 5) + v_iv (n_v (vs ++ [Value.int x]) 13)) ≤ 1000000
      simp only [e_5, e_13]
      exact vc_Mo_bendsBecome_2_5 (v_iv (n_v vs 3)) (v_iv (n_v vs 5)) (v_iv (n_v vs 6)) (v_iv (n_v vs 7)) (v_iv (n_v vs 8)) (v_iv (n_v vs 9)) (v_iv (n_v vs 10)) (v_iv (n_v vs 11)) (v_iv (n_v vs 12)) (v_iv (n_v vs 13)) (w_ei ws (w_ar ws (n_v vs 0) 143)) (w_fi ws (n_v vs 0) 146) (w_fi ws (n_v vs 0) 147) (w_ei ws (w_ar ws (n_v vs 0) 140)) (v_iv (Value.int x)) k3 k5 k6 k7 k8 k9 k10 k11 k12 k13 d0 f0 f1 f2 f3 f4 f5 f6 f7 f8 f9 f10 hK_0_140 hK_0_143 kz_0_146 kz_0_147 ex2 ex3
  have nf6 : fc_1 PRD (20, [5], [50, 0, 0, 0, 2, 0, 0, 1, 0]) ws (vs ++ [Value.int x]) := by
    refine ⟨nf_inA hl rfl, sgq_709 ?_⟩
    · show 0 ≤ v_iv (n_v (vs ++ [Value.int x]) 5)
      rw [e_5]
      exact vc_Mo_bendsBecome_2_6 (v_iv (n_v vs 3)) (v_iv (n_v vs 5)) (v_iv (n_v vs 6)) (v_iv (n_v vs 7)) (v_iv (n_v vs 8)) (v_iv (n_v vs 9)) (v_iv (n_v vs 10)) (v_iv (n_v vs 11)) (v_iv (n_v vs 12)) (v_iv (n_v vs 13)) (w_ei ws (w_ar ws (n_v vs 0) 143)) (w_fi ws (n_v vs 0) 146) (w_fi ws (n_v vs 0) 147) (w_ei ws (w_ar ws (n_v vs 0) 140)) (v_iv (Value.int x)) k3 k5 k6 k7 k8 k9 k10 k11 k12 k13 d0 f0 f1 f2 f3 f4 f5 f6 f7 f8 f9 f10 hK_0_140 hK_0_143 kz_0_146 kz_0_147 ex2 ex3
  have nf7 : fc_1 PRD (20, [13, 14], [50, 0, 0, 2, 6, 0, 2, 0, 0, 1, 0, 0, 2, 1, 0, 1, 1]) ws (vs ++ [Value.int x]) := by
    refine ⟨nf_inA hl rfl, sgq_384 ?_⟩
    · show (0 ≤ v_iv (n_v (vs ++ [Value.int x]) 13)) ∧ (v_iv (n_v (vs ++ [Value.int x]) 13) ≤ v_iv (n_v (vs ++ [Value.int x]) 14))
      simp only [e_13, e_14]
      exact vc_Mo_bendsBecome_2_7 (v_iv (n_v vs 3)) (v_iv (n_v vs 5)) (v_iv (n_v vs 6)) (v_iv (n_v vs 7)) (v_iv (n_v vs 8)) (v_iv (n_v vs 9)) (v_iv (n_v vs 10)) (v_iv (n_v vs 11)) (v_iv (n_v vs 12)) (v_iv (n_v vs 13)) (w_ei ws (w_ar ws (n_v vs 0) 143)) (w_fi ws (n_v vs 0) 146) (w_fi ws (n_v vs 0) 147) (w_ei ws (w_ar ws (n_v vs 0) 140)) (v_iv (Value.int x)) k3 k5 k6 k7 k8 k9 k10 k11 k12 k13 d0 f0 f1 f2 f3 f4 f5 f6 f7 f8 f9 f10 hK_0_140 hK_0_143 kz_0_146 kz_0_147 ex2 ex3
  exact ⟨(fun _ h => (by cases h)), [Value.int x], ag_one hx, List.forall_mem_cons.mpr ⟨⟨show (20 : Nat) < 100 from by decide, nf0⟩, List.forall_mem_cons.mpr ⟨⟨show (20 : Nat) < 100 from by decide, nf1⟩, List.forall_mem_cons.mpr ⟨⟨show (20 : Nat) < 100 from by decide, nf2⟩, List.forall_mem_cons.mpr ⟨⟨show (20 : Nat) < 100 from by decide, nf3⟩, List.forall_mem_cons.mpr ⟨⟨show (20 : Nat) < 100 from by decide, nf4⟩, List.forall_mem_cons.mpr ⟨⟨show (20 : Nat) < 100 from by decide, nf5⟩, List.forall_mem_cons.mpr ⟨⟨show (20 : Nat) < 100 from by decide, nf6⟩, List.forall_mem_cons.mpr ⟨⟨show (20 : Nat) < 100 from by decide, nf7⟩, (fun _ h => (by cases h))⟩⟩⟩⟩⟩⟩⟩⟩, (fun _ h => (by cases h))⟩
set_option maxHeartbeats 4000000 in
theorem vc_Mo_bendsBecome_3_0 (x3 : Int) (x5 : Int) (x6 : Int) (x7 : Int) (x8 : Int) (x9 : Int) (x10 : Int) (x11 : Int) (x12 : Int) (barredPoint_0 : Int → Int) (wide_0 : Int) (tall_0 : Int) (costOf_0 : Int → Int) (k3 : 0 ≤ x3 ∧ x3 ≤ 5999) (k5 : 0 ≤ x5 ∧ x5 ≤ 0) (k6 : 0 ≤ x6 ∧ x6 ≤ 5999) (k7 : (-1) ≤ x7 ∧ x7 ≤ 2) (k8 : 1 ≤ x8 ∧ x8 ≤ 1000001) (k9 : 0 ≤ x9 ∧ x9 ≤ 3) (k10 : 4 ≤ x10 ∧ x10 ≤ 4) (k11 : (-1) ≤ x11 ∧ x11 ≤ (-1)) (k12 : 1 ≤ x12 ∧ x12 ≤ 4) (d0 : x9 + 1 ≤ x12 ∧ x12 ≤ x9 + 1) (d1 : x9 + (-4294967296) ≤ x7 ∧ x7 ≤ x9 + (-1)) (d2 : x7 + (-4294967296) ≤ x8 ∧ x8 ≤ x7 + 1000001) (d3 : x9 + (-4294967296) ≤ x8 ∧ x8 ≤ x9 + 1000000) (f0 : x12 = x9 + 1) (f1 : x11 < 0) (f2 : STQ (wide_0) (tall_0) (barredPoint_0) (x6) (x9) (x11)) (f3 : ((-1) ≤ x11) ∧ ((x11 + 1) ≤ (wide_0 * tall_0))) (f4 : x9 < x10) (f5 : GRX (wide_0) (tall_0)) (f6 : RTV (wide_0) (tall_0) (barredPoint_0) (costOf_0) (x3)) (f7 : (0 ≤ x3) ∧ ((x3 + 1) ≤ (wide_0 * tall_0))) (f8 : (0 ≤ x6) ∧ ((x6 + 1) ≤ (wide_0 * tall_0))) (f9 : BB1 (wide_0) (tall_0) (barredPoint_0) (costOf_0) (x6) (x7) (x8) (x9)) (f10 : x5 = 0) (hK_0_140 : ∀ j : Int, 0 ≤ j → j < 24000 → 0 ≤ costOf_0 j ∧ costOf_0 j ≤ 1000000) (hK_0_143 : ∀ j : Int, 0 ≤ j → j < 6000 → 0 ≤ barredPoint_0 j ∧ barredPoint_0 j ≤ 1) (kz_0_146 : (-3999999) ≤ wide_0 ∧ wide_0 ≤ 600000023) (kz_0_147 : (-3999999) ≤ tall_0 ∧ tall_0 ≤ 600000007) : BB1 (wide_0) (tall_0) (barredPoint_0) (costOf_0) (x6) (x7) (x8) (x12) := by
  first
    | assumption
    | exact Or.inl ⟨by omega, by omega⟩
    | (have h := ‹BB1 _ _ _ _ _ _ _ _›; exact h)
    | (have hb : x8 ≤ 1000000 := by
         rcases ‹BB1 _ _ _ _ _ _ _ _› with h | h
         · omega
         · have := h.2.1; omega
       have e1 : x16 = costOf_0 x15 := by assumption
       have e2 : x22 = costOf_0 x21 := by assumption
       have e3 : x15 = x21 := by omega
       rw [e3, ← e2] at e1
       rw [show x24 = x22 + 1 by omega]; exact bb1_take (b := x8) (d := x7) (q := x11) (x := x21) (v := x22) ‹STQ _ _ _ _ _ _› (by omega) (by omega) (by omega) (by omega) (by assumption) (by omega))
  
def o_Mo_bendsBecome_3 : or_T := (22, 13, [(0, (2, 0, 0, [165])), (3, (0, 0, 5999, [])), (5, (0, 0, 0, [])), (6, (0, 0, 5999, [])), (7, (0, -1, 2, [])), (8, (0, 1, 1000001, [])), (9, (0, 0, 3, [])), (10, (0, 4, 4, [])), (11, (0, -1, -1, [])), (12, (0, 1, 4, []))], [(6, [12, 9], [1]), (8, [11], [2]), (20, [0, 6, 9, 11], [60, 2, 1, 505, 146, 147, 143]), (20, [11, 0], [50, 2, 0, 1146, 1147, 2, 6, 0, 2, 0, -1, 1, 0, 0, 6, 4, 2, 1, 0, 0, 1, 6, 3, 2, 1, 146, 2, 1, 147]), (7, [9, 10], [2]), (20, [0], [60, 2, 0, 494, 146, 147]), (20, [0, 3], [60, 2, 2, 504, 146, 147, 143, 140]), (20, [3, 0], [50, 2, 0, 1146, 1147, 2, 6, 0, 2, 0, 0, 1, 0, 0, 6, 4, 2, 1, 0, 0, 1, 6, 3, 2, 1, 146, 2, 1, 147]), (20, [6, 0], [50, 2, 0, 1146, 1147, 2, 6, 0, 2, 0, 0, 1, 0, 0, 6, 4, 2, 1, 0, 0, 1, 6, 3, 2, 1, 146, 2, 1, 147]), (20, [0, 6, 7, 8, 9], [60, 2, 2, 506, 146, 147, 143, 140]), (20, [5], [50, 0, 0, 1, 2, 1, 0, 0, 0])], [], [], [(20, [0, 6, 7, 8, 12], [60, 2, 2, 506, 146, 147, 143, 140])], [], [(12, 9, 1, 1), (7, 9, -4294967296, -1), (8, 7, -4294967296, 1000001), (8, 9, -4294967296, 1000000)])
theorem oo_Mo_bendsBecome_3 {kA : Nat → ClassId} : or_ok PRD kA GG o_Mo_bendsBecome_3 := by
  refine or_mk fun A ta ws vs hD hth hl => ?_
  intro t0 r0 t3 k3 t5 k5 t6 k6 t7 k7 t8 k8 t9 k9 t10 k10 t11 k11 t12 k12 d0 d1 d2 d3 f0 f1 f2 f3 f4 f5 f6 f7 f8 f9 f10
  have cr_0_140 := fdq_174 hD hth r0
  have cr_0_143 := fdq_177 hD hth r0
  have hK_0_140 := elq_101 hD hth cr_0_140
  have hK_0_143 := elq_104 hD hth cr_0_143
  have kz_0_146 := fdq_178 hD hth r0
  have kz_0_147 := fdq_179 hD hth r0
  have nf0 : fc_1 PRD (20, [0, 6, 7, 8, 12], [60, 2, 2, 506, 146, 147, 143, 140]) ws (vs) := ⟨nf_in hl rfl, sgq_1377 (vc_Mo_bendsBecome_3_0 (v_iv (n_v vs 3)) (v_iv (n_v vs 5)) (v_iv (n_v vs 6)) (v_iv (n_v vs 7)) (v_iv (n_v vs 8)) (v_iv (n_v vs 9)) (v_iv (n_v vs 10)) (v_iv (n_v vs 11)) (v_iv (n_v vs 12)) (w_ei ws (w_ar ws (n_v vs 0) 143)) (w_fi ws (n_v vs 0) 146) (w_fi ws (n_v vs 0) 147) (w_ei ws (w_ar ws (n_v vs 0) 140)) k3 k5 k6 k7 k8 k9 k10 k11 k12 d0 d1 d2 d3 (shm_4 f0) (shm_39 f1) (shm_1257 f2) (shm_1258 f3) (shm_6 f4) (shm_1255 f5) (shm_1376 f6) (shm_1256 f7) (shm_1256 f8) (shm_1377 f9) (shm_636 f10) hK_0_140 hK_0_143 kz_0_146 kz_0_147)⟩
  refine ⟨(fun _ h => (by cases h)), [], trivial, ?_, (fun _ h => (by cases h))⟩
  rw [List.append_nil]
  exact List.forall_mem_cons.mpr ⟨⟨show (20 : Nat) < 100 from by decide, nf0⟩, (fun _ h => (by cases h))⟩
set_option maxHeartbeats 4000000 in
theorem vc_Mo_bendsBecome_4_0 (x3 : Int) (x5 : Int) (x6 : Int) (x7 : Int) (x8 : Int) (x9 : Int) (x10 : Int) (x11 : Int) (x13 : Int) (x14 : Int) (x15 : Int) (x16 : Int) (x17 : Int) (x18 : Int) (x19 : Int) (costOf_0 : Int → Int) (barredPoint_0 : Int → Int) (wide_0 : Int) (tall_0 : Int) (k3 : 0 ≤ x3 ∧ x3 ≤ 5999) (k5 : 0 ≤ x5 ∧ x5 ≤ 0) (k6 : 0 ≤ x6 ∧ x6 ≤ 5999) (k7 : (-1) ≤ x7 ∧ x7 ≤ 2) (k8 : 1 ≤ x8 ∧ x8 ≤ 1000001) (k9 : 0 ≤ x9 ∧ x9 ≤ 3) (k10 : 4 ≤ x10 ∧ x10 ≤ 4) (k11 : 0 ≤ x11 ∧ x11 ≤ 5999) (k13 : 4 ≤ x13 ∧ x13 ≤ 4) (k14 : 0 ≤ x14 ∧ x14 ≤ 23996) (k15 : 0 ≤ x15 ∧ x15 ≤ 23999) (k16 : 0 ≤ x16 ∧ x16 ≤ 1000000) (k17 : 1 ≤ x17 ∧ x17 ≤ 1) (k18 : 1 ≤ x18 ∧ x18 ≤ 1000001) (k19 : 1 ≤ x19 ∧ x19 ≤ 4) (d0 : x9 + 1 ≤ x19 ∧ x19 ≤ x9 + 1) (d1 : x8 + 0 ≤ x18 ∧ x18 ≤ x8 + 4294967296) (d2 : x16 + 1 ≤ x18 ∧ x18 ≤ x16 + 1) (d3 : x9 + 0 ≤ x15 ∧ x15 ≤ x9 + 23996) (d4 : x14 + 0 ≤ x15 ∧ x15 ≤ x14 + 3) (d5 : x9 + (-4294967296) ≤ x7 ∧ x7 ≤ x9 + (-1)) (d6 : x7 + (-4294967296) ≤ x8 ∧ x8 ≤ x7 + 1000001) (d7 : x9 + (-4294967296) ≤ x8 ∧ x8 ≤ x9 + 1000000) (f0 : x19 = x9 + 1) (f1 : x8 ≤ x18) (f2 : x18 = x16 + x17) (h3 : x16 = costOf_0 (x15)) (f4 : x15 = x14 + x9) (f5 : x14 = 4 * x11) (f7 : 0 ≤ x11) (f8 : STQ (wide_0) (tall_0) (barredPoint_0) (x6) (x9) (x11)) (f9 : ((-1) ≤ x11) ∧ ((x11 + 1) ≤ (wide_0 * tall_0))) (f10 : x9 < x10) (f11 : GRX (wide_0) (tall_0)) (f12 : RTV (wide_0) (tall_0) (barredPoint_0) (costOf_0) (x3)) (f13 : (0 ≤ x3) ∧ ((x3 + 1) ≤ (wide_0 * tall_0))) (f14 : (0 ≤ x6) ∧ ((x6 + 1) ≤ (wide_0 * tall_0))) (f15 : BB1 (wide_0) (tall_0) (barredPoint_0) (costOf_0) (x6) (x7) (x8) (x9)) (f16 : x5 = 0) (hK_0_140 : ∀ j : Int, 0 ≤ j → j < 24000 → 0 ≤ costOf_0 j ∧ costOf_0 j ≤ 1000000) (hK_0_143 : ∀ j : Int, 0 ≤ j → j < 6000 → 0 ≤ barredPoint_0 j ∧ barredPoint_0 j ≤ 1) (kz_0_146 : (-3999999) ≤ wide_0 ∧ wide_0 ≤ 600000023) (kz_0_147 : (-3999999) ≤ tall_0 ∧ tall_0 ≤ 600000007) : BB1 (wide_0) (tall_0) (barredPoint_0) (costOf_0) (x6) (x7) (x8) (x19) := by
  first
    | assumption
    | exact Or.inl ⟨by omega, by omega⟩
    | (have h := ‹BB1 _ _ _ _ _ _ _ _›; exact h)
    | (have hb : x8 ≤ 1000000 := by
         rcases ‹BB1 _ _ _ _ _ _ _ _› with h | h
         · omega
         · have := h.2.1; omega
       have e1 : x16 = costOf_0 x15 := by assumption
       have e2 : x22 = costOf_0 x21 := by assumption
       have e3 : x15 = x21 := by omega
       rw [e3, ← e2] at e1
       rw [show x24 = x22 + 1 by omega]; exact bb1_take (b := x8) (d := x7) (q := x11) (x := x21) (v := x22) ‹STQ _ _ _ _ _ _› (by omega) (by omega) (by omega) (by omega) (by assumption) (by omega))
  
def o_Mo_bendsBecome_4 : or_T := (22, 20, [(0, (2, 0, 0, [165])), (3, (0, 0, 5999, [])), (5, (0, 0, 0, [])), (6, (0, 0, 5999, [])), (7, (0, -1, 2, [])), (8, (0, 1, 1000001, [])), (9, (0, 0, 3, [])), (10, (0, 4, 4, [])), (11, (0, 0, 5999, [])), (13, (0, 4, 4, [])), (14, (0, 0, 23996, [])), (15, (0, 0, 23999, [])), (16, (0, 0, 1000000, [])), (17, (0, 1, 1, [])), (18, (0, 1, 1000001, [])), (19, (0, 1, 4, []))], [(6, [19, 9], [1]), (7, [18, 8], [3]), (1, [18, 16, 17], []), (10, [16, 12, 15], []), (1, [15, 14, 9], []), (3, [14, 13, 11], []), (9, [12, 0], [140]), (8, [11], [3]), (20, [0, 6, 9, 11], [60, 2, 1, 505, 146, 147, 143]), (20, [11, 0], [50, 2, 0, 1146, 1147, 2, 6, 0, 2, 0, -1, 1, 0, 0, 6, 4, 2, 1, 0, 0, 1, 6, 3, 2, 1, 146, 2, 1, 147]), (7, [9, 10], [2]), (20, [0], [60, 2, 0, 494, 146, 147]), (20, [0, 3], [60, 2, 2, 504, 146, 147, 143, 140]), (20, [3, 0], [50, 2, 0, 1146, 1147, 2, 6, 0, 2, 0, 0, 1, 0, 0, 6, 4, 2, 1, 0, 0, 1, 6, 3, 2, 1, 146, 2, 1, 147]), (20, [6, 0], [50, 2, 0, 1146, 1147, 2, 6, 0, 2, 0, 0, 1, 0, 0, 6, 4, 2, 1, 0, 0, 1, 6, 3, 2, 1, 146, 2, 1, 147]), (20, [0, 6, 7, 8, 9], [60, 2, 2, 506, 146, 147, 143, 140]), (20, [5], [50, 0, 0, 1, 2, 1, 0, 0, 0])], [], [], [(20, [0, 6, 7, 8, 19], [60, 2, 2, 506, 146, 147, 143, 140])], [], [(19, 9, 1, 1), (18, 8, 0, 4294967296), (18, 16, 1, 1), (15, 9, 0, 23996), (15, 14, 0, 3), (7, 9, -4294967296, -1), (8, 7, -4294967296, 1000001), (8, 9, -4294967296, 1000000)])
theorem oo_Mo_bendsBecome_4 {kA : Nat → ClassId} : or_ok PRD kA GG o_Mo_bendsBecome_4 := by
  refine or_mk fun A ta ws vs hD hth hl => ?_
  intro t0 r0 t3 k3 t5 k5 t6 k6 t7 k7 t8 k8 t9 k9 t10 k10 t11 k11 t13 k13 t14 k14 t15 k15 t16 k16 t17 k17 t18 k18 t19 k19 d0 d1 d2 d3 d4 d5 d6 d7 f0 f1 f2 f3 f4 f5 f6 f7 f8 f9 f10 f11 f12 f13 f14 f15 f16
  replace f3 := shm_106 f3
  replace f5 := shm_38 f5
  rw [show v_iv (n_v vs 13) = 4 from by omega] at f5
  replace f6 := shm_690 f6
  have cr_0_140 := fdq_174 hD hth r0
  have cr_0_143 := fdq_177 hD hth r0
  have ad_12 : v_ad (n_v vs 12) = w_ar ws (n_v vs 0) 140 := congrArg v_ad f6
  simp only [ad_12] at f3
  have h3 : v_iv (n_v vs 16) = w_ei ws (w_ar ws (n_v vs 0) 140) (v_iv (n_v vs 15)) := f3
  have hK_0_140 := elq_101 hD hth cr_0_140
  have hK_0_143 := elq_104 hD hth cr_0_143
  have kz_0_146 := fdq_178 hD hth r0
  have kz_0_147 := fdq_179 hD hth r0
  have nf0 : fc_1 PRD (20, [0, 6, 7, 8, 19], [60, 2, 2, 506, 146, 147, 143, 140]) ws (vs) := ⟨nf_in hl rfl, sgq_1377 (vc_Mo_bendsBecome_4_0 (v_iv (n_v vs 3)) (v_iv (n_v vs 5)) (v_iv (n_v vs 6)) (v_iv (n_v vs 7)) (v_iv (n_v vs 8)) (v_iv (n_v vs 9)) (v_iv (n_v vs 10)) (v_iv (n_v vs 11)) (v_iv (n_v vs 13)) (v_iv (n_v vs 14)) (v_iv (n_v vs 15)) (v_iv (n_v vs 16)) (v_iv (n_v vs 17)) (v_iv (n_v vs 18)) (v_iv (n_v vs 19)) (w_ei ws (w_ar ws (n_v vs 0) 140)) (w_ei ws (w_ar ws (n_v vs 0) 143)) (w_fi ws (n_v vs 0) 146) (w_fi ws (n_v vs 0) 147) k3 k5 k6 k7 k8 k9 k10 k11 k13 k14 k15 k16 k17 k18 k19 d0 d1 d2 d3 d4 d5 d6 d7 (shm_4 f0) (shm_2 f1) (shm_12 f2) h3 (shm_12 f4) f5 (shm_32 f7) (shm_1257 f8) (shm_1258 f9) (shm_6 f10) (shm_1255 f11) (shm_1376 f12) (shm_1256 f13) (shm_1256 f14) (shm_1377 f15) (shm_636 f16) hK_0_140 hK_0_143 kz_0_146 kz_0_147)⟩
  refine ⟨(fun _ h => (by cases h)), [], trivial, ?_, (fun _ h => (by cases h))⟩
  rw [List.append_nil]
  exact List.forall_mem_cons.mpr ⟨⟨show (20 : Nat) < 100 from by decide, nf0⟩, (fun _ h => (by cases h))⟩
set_option maxHeartbeats 4000000 in
theorem vc_Mo_bendsBecome_5_0 (x3 : Int) (x5 : Int) (x6 : Int) (x7 : Int) (x8 : Int) (x9 : Int) (x10 : Int) (x11 : Int) (x13 : Int) (x14 : Int) (x15 : Int) (x16 : Int) (x17 : Int) (x18 : Int) (x19 : Int) (x20 : Int) (x21 : Int) (x22 : Int) (x23 : Int) (x24 : Int) (x25 : Int) (costOf_0 : Int → Int) (barredPoint_0 : Int → Int) (wide_0 : Int) (tall_0 : Int) (k3 : 0 ≤ x3 ∧ x3 ≤ 5999) (k5 : 0 ≤ x5 ∧ x5 ≤ 0) (k6 : 0 ≤ x6 ∧ x6 ≤ 5999) (k7 : (-1) ≤ x7 ∧ x7 ≤ 2) (k8 : 2 ≤ x8 ∧ x8 ≤ 1000001) (k9 : 0 ≤ x9 ∧ x9 ≤ 3) (k10 : 4 ≤ x10 ∧ x10 ≤ 4) (k11 : 0 ≤ x11 ∧ x11 ≤ 5999) (k13 : 4 ≤ x13 ∧ x13 ≤ 4) (k14 : 0 ≤ x14 ∧ x14 ≤ 23996) (k15 : 0 ≤ x15 ∧ x15 ≤ 23999) (k16 : 0 ≤ x16 ∧ x16 ≤ 999999) (k17 : 1 ≤ x17 ∧ x17 ≤ 1) (k18 : 1 ≤ x18 ∧ x18 ≤ 1000000) (k19 : 4 ≤ x19 ∧ x19 ≤ 4) (k20 : 0 ≤ x20 ∧ x20 ≤ 23996) (k21 : 0 ≤ x21 ∧ x21 ≤ 23999) (k22 : 0 ≤ x22 ∧ x22 ≤ 1000000) (k23 : 1 ≤ x23 ∧ x23 ≤ 1) (k24 : 1 ≤ x24 ∧ x24 ≤ 1000001) (k25 : 1 ≤ x25 ∧ x25 ≤ 4) (d0 : x9 + 1 ≤ x25 ∧ x25 ≤ x9 + 1) (d1 : x22 + 1 ≤ x24 ∧ x24 ≤ x22 + 1) (d2 : x9 + 0 ≤ x21 ∧ x21 ≤ x9 + 23996) (d3 : x20 + 0 ≤ x21 ∧ x21 ≤ x20 + 3) (d4 : x8 + (-4294967296) ≤ x18 ∧ x18 ≤ x8 + (-1)) (d5 : x16 + 1 ≤ x18 ∧ x18 ≤ x16 + 1) (d6 : x9 + 0 ≤ x15 ∧ x15 ≤ x9 + 23996) (d7 : x14 + 0 ≤ x15 ∧ x15 ≤ x14 + 3) (d8 : x9 + (-4294967296) ≤ x7 ∧ x7 ≤ x9 + (-1)) (d9 : x7 + (-4294967296) ≤ x8 ∧ x8 ≤ x7 + 1000001) (d10 : x9 + (-4294967296) ≤ x8 ∧ x8 ≤ x9 + 1000000) (f0 : x25 = x9 + 1) (f1 : x24 = x22 + x23) (h2 : x22 = costOf_0 (x21)) (f3 : x21 = x20 + x9) (f4 : x20 = 4 * x11) (f6 : x18 < x8) (f7 : x18 = x16 + x17) (h8 : x16 = costOf_0 (x15)) (f9 : x15 = x14 + x9) (f10 : x14 = 4 * x11) (f11 : 0 ≤ x11) (f12 : STQ (wide_0) (tall_0) (barredPoint_0) (x6) (x9) (x11)) (f13 : ((-1) ≤ x11) ∧ ((x11 + 1) ≤ (wide_0 * tall_0))) (f14 : x9 < x10) (f15 : GRX (wide_0) (tall_0)) (f16 : RTV (wide_0) (tall_0) (barredPoint_0) (costOf_0) (x3)) (f17 : (0 ≤ x3) ∧ ((x3 + 1) ≤ (wide_0 * tall_0))) (f18 : (0 ≤ x6) ∧ ((x6 + 1) ≤ (wide_0 * tall_0))) (f19 : BB1 (wide_0) (tall_0) (barredPoint_0) (costOf_0) (x6) (x7) (x8) (x9)) (f20 : x5 = 0) (hK_0_140 : ∀ j : Int, 0 ≤ j → j < 24000 → 0 ≤ costOf_0 j ∧ costOf_0 j ≤ 1000000) (hK_0_143 : ∀ j : Int, 0 ≤ j → j < 6000 → 0 ≤ barredPoint_0 j ∧ barredPoint_0 j ≤ 1) (kz_0_146 : (-3999999) ≤ wide_0 ∧ wide_0 ≤ 600000023) (kz_0_147 : (-3999999) ≤ tall_0 ∧ tall_0 ≤ 600000007) : BB1 (wide_0) (tall_0) (barredPoint_0) (costOf_0) (x6) (x9) (x24) (x25) := by
  first
    | assumption
    | exact Or.inl ⟨by omega, by omega⟩
    | (have h := ‹BB1 _ _ _ _ _ _ _ _›; exact h)
    | (have hb : x8 ≤ 1000000 := by
         rcases ‹BB1 _ _ _ _ _ _ _ _› with h | h
         · omega
         · have := h.2.1; omega
       have e1 : x16 = costOf_0 x15 := by assumption
       have e2 : x22 = costOf_0 x21 := by assumption
       have e3 : x15 = x21 := by omega
       rw [e3, ← e2] at e1
       rw [show x24 = x22 + 1 by omega]; exact bb1_take (b := x8) (d := x7) (q := x11) (x := x21) (v := x22) ‹STQ _ _ _ _ _ _› (by omega) (by omega) (by omega) (by omega) (by assumption) (by omega))
  
def o_Mo_bendsBecome_5 : or_T := (22, 26, [(0, (2, 0, 0, [165])), (3, (0, 0, 5999, [])), (5, (0, 0, 0, [])), (6, (0, 0, 5999, [])), (7, (0, -1, 2, [])), (8, (0, 2, 1000001, [])), (9, (0, 0, 3, [])), (10, (0, 4, 4, [])), (11, (0, 0, 5999, [])), (13, (0, 4, 4, [])), (14, (0, 0, 23996, [])), (15, (0, 0, 23999, [])), (16, (0, 0, 999999, [])), (17, (0, 1, 1, [])), (18, (0, 1, 1000000, [])), (19, (0, 4, 4, [])), (20, (0, 0, 23996, [])), (21, (0, 0, 23999, [])), (22, (0, 0, 1000000, [])), (23, (0, 1, 1, [])), (24, (0, 1, 1000001, [])), (25, (0, 1, 4, []))], [(6, [25, 9], [1]), (1, [24, 22, 23], []), (10, [22, 12, 21], []), (1, [21, 20, 9], []), (3, [20, 19, 11], []), (9, [12, 0], [140]), (7, [18, 8], [2]), (1, [18, 16, 17], []), (10, [16, 12, 15], []), (1, [15, 14, 9], []), (3, [14, 13, 11], []), (8, [11], [3]), (20, [0, 6, 9, 11], [60, 2, 1, 505, 146, 147, 143]), (20, [11, 0], [50, 2, 0, 1146, 1147, 2, 6, 0, 2, 0, -1, 1, 0, 0, 6, 4, 2, 1, 0, 0, 1, 6, 3, 2, 1, 146, 2, 1, 147]), (7, [9, 10], [2]), (20, [0], [60, 2, 0, 494, 146, 147]), (20, [0, 3], [60, 2, 2, 504, 146, 147, 143, 140]), (20, [3, 0], [50, 2, 0, 1146, 1147, 2, 6, 0, 2, 0, 0, 1, 0, 0, 6, 4, 2, 1, 0, 0, 1, 6, 3, 2, 1, 146, 2, 1, 147]), (20, [6, 0], [50, 2, 0, 1146, 1147, 2, 6, 0, 2, 0, 0, 1, 0, 0, 6, 4, 2, 1, 0, 0, 1, 6, 3, 2, 1, 146, 2, 1, 147]), (20, [0, 6, 7, 8, 9], [60, 2, 2, 506, 146, 147, 143, 140]), (20, [5], [50, 0, 0, 1, 2, 1, 0, 0, 0])], [], [], [(20, [0, 6, 9, 24, 25], [60, 2, 2, 506, 146, 147, 143, 140])], [], [(25, 9, 1, 1), (24, 22, 1, 1), (21, 9, 0, 23996), (21, 20, 0, 3), (18, 8, -4294967296, -1), (18, 16, 1, 1), (15, 9, 0, 23996), (15, 14, 0, 3), (7, 9, -4294967296, -1), (8, 7, -4294967296, 1000001), (8, 9, -4294967296, 1000000)])
theorem oo_Mo_bendsBecome_5 {kA : Nat → ClassId} : or_ok PRD kA GG o_Mo_bendsBecome_5 := by
  refine or_mk fun A ta ws vs hD hth hl => ?_
  intro t0 r0 t3 k3 t5 k5 t6 k6 t7 k7 t8 k8 t9 k9 t10 k10 t11 k11 t13 k13 t14 k14 t15 k15 t16 k16 t17 k17 t18 k18 t19 k19 t20 k20 t21 k21 t22 k22 t23 k23 t24 k24 t25 k25 d0 d1 d2 d3 d4 d5 d6 d7 d8 d9 d10 f0 f1 f2 f3 f4 f5 f6 f7 f8 f9 f10 f11 f12 f13 f14 f15 f16 f17 f18 f19 f20
  replace f2 := shm_106 f2
  replace f4 := shm_38 f4
  rw [show v_iv (n_v vs 19) = 4 from by omega] at f4
  replace f5 := shm_690 f5
  replace f8 := shm_106 f8
  replace f10 := shm_38 f10
  rw [show v_iv (n_v vs 13) = 4 from by omega] at f10
  have cr_0_140 := fdq_174 hD hth r0
  have cr_0_143 := fdq_177 hD hth r0
  have ad_12 : v_ad (n_v vs 12) = w_ar ws (n_v vs 0) 140 := congrArg v_ad f5
  simp only [ad_12] at f2
  have h2 : v_iv (n_v vs 22) = w_ei ws (w_ar ws (n_v vs 0) 140) (v_iv (n_v vs 21)) := f2
  simp only [ad_12] at f8
  have h8 : v_iv (n_v vs 16) = w_ei ws (w_ar ws (n_v vs 0) 140) (v_iv (n_v vs 15)) := f8
  have hK_0_140 := elq_101 hD hth cr_0_140
  have hK_0_143 := elq_104 hD hth cr_0_143
  have kz_0_146 := fdq_178 hD hth r0
  have kz_0_147 := fdq_179 hD hth r0
  have nf0 : fc_1 PRD (20, [0, 6, 9, 24, 25], [60, 2, 2, 506, 146, 147, 143, 140]) ws (vs) := ⟨nf_in hl rfl, sgq_1377 (vc_Mo_bendsBecome_5_0 (v_iv (n_v vs 3)) (v_iv (n_v vs 5)) (v_iv (n_v vs 6)) (v_iv (n_v vs 7)) (v_iv (n_v vs 8)) (v_iv (n_v vs 9)) (v_iv (n_v vs 10)) (v_iv (n_v vs 11)) (v_iv (n_v vs 13)) (v_iv (n_v vs 14)) (v_iv (n_v vs 15)) (v_iv (n_v vs 16)) (v_iv (n_v vs 17)) (v_iv (n_v vs 18)) (v_iv (n_v vs 19)) (v_iv (n_v vs 20)) (v_iv (n_v vs 21)) (v_iv (n_v vs 22)) (v_iv (n_v vs 23)) (v_iv (n_v vs 24)) (v_iv (n_v vs 25)) (w_ei ws (w_ar ws (n_v vs 0) 140)) (w_ei ws (w_ar ws (n_v vs 0) 143)) (w_fi ws (n_v vs 0) 146) (w_fi ws (n_v vs 0) 147) k3 k5 k6 k7 k8 k9 k10 k11 k13 k14 k15 k16 k17 k18 k19 k20 k21 k22 k23 k24 k25 d0 d1 d2 d3 d4 d5 d6 d7 d8 d9 d10 (shm_4 f0) (shm_12 f1) h2 (shm_12 f3) f4 (shm_6 f6) (shm_12 f7) h8 (shm_12 f9) f10 (shm_32 f11) (shm_1257 f12) (shm_1258 f13) (shm_6 f14) (shm_1255 f15) (shm_1376 f16) (shm_1256 f17) (shm_1256 f18) (shm_1377 f19) (shm_636 f20) hK_0_140 hK_0_143 kz_0_146 kz_0_147)⟩
  refine ⟨(fun _ h => (by cases h)), [], trivial, ?_, (fun _ h => (by cases h))⟩
  rw [List.append_nil]
  exact List.forall_mem_cons.mpr ⟨⟨show (20 : Nat) < 100 from by decide, nf0⟩, (fun _ h => (by cases h))⟩
set_option maxHeartbeats 4000000 in
theorem vc_Mo_bendsBecome_6_0 (x3 : Int) (x5 : Int) (x6 : Int) (x7 : Int) (x9 : Int) (x10 : Int) (x11 : Int) (x12 : Int) (x13 : Int) (wide_0 : Int) (tall_0 : Int) (barredPoint_0 : Int → Int) (costOf_0 : Int → Int) (gx : Int) (k3 : 0 ≤ x3 ∧ x3 ≤ 5999) (k5 : 0 ≤ x5 ∧ x5 ≤ 2147483647) (k6 : 0 ≤ x6 ∧ x6 ≤ 5999) (k7 : 0 ≤ x7 ∧ x7 ≤ 3) (k9 : 0 ≤ x9 ∧ x9 ≤ 1000000) (k10 : (-2) ≤ x10 ∧ x10 ≤ 1000000) (k11 : (-1) ≤ x11 ∧ x11 ≤ (-1)) (k12 : 0 ≤ x12 ∧ x12 ≤ 0) (k13 : 3 ≤ x13 ∧ x13 ≤ 3) (f0 : x6 ≠ x3) (f1 : GRX (wide_0) (tall_0)) (f2 : RTV (wide_0) (tall_0) (barredPoint_0) (costOf_0) (x3)) (f3 : (0 ≤ x3) ∧ ((x3 + 1) ≤ (wide_0 * tall_0))) (f4 : BB2 (wide_0) (tall_0) (barredPoint_0) (costOf_0) (x6) (x7) (x9)) (f5 : (0 ≤ x6) ∧ ((x6 + 1) ≤ (wide_0 * tall_0))) (f6 : (x5 + x9) ≤ 1000000) (f7 : 0 ≤ x5) (f8 : (0 ≤ x9) ∧ (x9 ≤ x10)) (hK_0_140 : ∀ j : Int, 0 ≤ j → j < 24000 → 0 ≤ costOf_0 j ∧ costOf_0 j ≤ 1000000) (hK_0_143 : ∀ j : Int, 0 ≤ j → j < 6000 → 0 ≤ barredPoint_0 j ∧ barredPoint_0 j ≤ 1) (kz_0_146 : (-3999999) ≤ wide_0 ∧ wide_0 ≤ 600000023) (kz_0_147 : (-3999999) ≤ tall_0 ∧ tall_0 ≤ 600000007) (ex2 : gx = 0 + (1 * x10 + 0)) (ex3 : (-2) ≤ gx ∧ gx ≤ 1000000) : GRX (wide_0) (tall_0) := by
  assumption
set_option maxHeartbeats 4000000 in
theorem vc_Mo_bendsBecome_6_1 (x3 : Int) (x5 : Int) (x6 : Int) (x7 : Int) (x9 : Int) (x10 : Int) (x11 : Int) (x12 : Int) (x13 : Int) (wide_0 : Int) (tall_0 : Int) (barredPoint_0 : Int → Int) (costOf_0 : Int → Int) (gx : Int) (k3 : 0 ≤ x3 ∧ x3 ≤ 5999) (k5 : 0 ≤ x5 ∧ x5 ≤ 2147483647) (k6 : 0 ≤ x6 ∧ x6 ≤ 5999) (k7 : 0 ≤ x7 ∧ x7 ≤ 3) (k9 : 0 ≤ x9 ∧ x9 ≤ 1000000) (k10 : (-2) ≤ x10 ∧ x10 ≤ 1000000) (k11 : (-1) ≤ x11 ∧ x11 ≤ (-1)) (k12 : 0 ≤ x12 ∧ x12 ≤ 0) (k13 : 3 ≤ x13 ∧ x13 ≤ 3) (f0 : x6 ≠ x3) (f1 : GRX (wide_0) (tall_0)) (f2 : RTV (wide_0) (tall_0) (barredPoint_0) (costOf_0) (x3)) (f3 : (0 ≤ x3) ∧ ((x3 + 1) ≤ (wide_0 * tall_0))) (f4 : BB2 (wide_0) (tall_0) (barredPoint_0) (costOf_0) (x6) (x7) (x9)) (f5 : (0 ≤ x6) ∧ ((x6 + 1) ≤ (wide_0 * tall_0))) (f6 : (x5 + x9) ≤ 1000000) (f7 : 0 ≤ x5) (f8 : (0 ≤ x9) ∧ (x9 ≤ x10)) (hK_0_140 : ∀ j : Int, 0 ≤ j → j < 24000 → 0 ≤ costOf_0 j ∧ costOf_0 j ≤ 1000000) (hK_0_143 : ∀ j : Int, 0 ≤ j → j < 6000 → 0 ≤ barredPoint_0 j ∧ barredPoint_0 j ≤ 1) (kz_0_146 : (-3999999) ≤ wide_0 ∧ wide_0 ≤ 600000023) (kz_0_147 : (-3999999) ≤ tall_0 ∧ tall_0 ≤ 600000007) (ex2 : gx = 0 + (1 * x10 + 0)) (ex3 : (-2) ≤ gx ∧ gx ≤ 1000000) : RTV (wide_0) (tall_0) (barredPoint_0) (costOf_0) (x3) := by
  assumption
set_option maxHeartbeats 4000000 in
theorem vc_Mo_bendsBecome_6_2 (x3 : Int) (x5 : Int) (x6 : Int) (x7 : Int) (x9 : Int) (x10 : Int) (x11 : Int) (x12 : Int) (x13 : Int) (wide_0 : Int) (tall_0 : Int) (barredPoint_0 : Int → Int) (costOf_0 : Int → Int) (gx : Int) (k3 : 0 ≤ x3 ∧ x3 ≤ 5999) (k5 : 0 ≤ x5 ∧ x5 ≤ 2147483647) (k6 : 0 ≤ x6 ∧ x6 ≤ 5999) (k7 : 0 ≤ x7 ∧ x7 ≤ 3) (k9 : 0 ≤ x9 ∧ x9 ≤ 1000000) (k10 : (-2) ≤ x10 ∧ x10 ≤ 1000000) (k11 : (-1) ≤ x11 ∧ x11 ≤ (-1)) (k12 : 0 ≤ x12 ∧ x12 ≤ 0) (k13 : 3 ≤ x13 ∧ x13 ≤ 3) (f0 : x6 ≠ x3) (f1 : GRX (wide_0) (tall_0)) (f2 : RTV (wide_0) (tall_0) (barredPoint_0) (costOf_0) (x3)) (f3 : (0 ≤ x3) ∧ ((x3 + 1) ≤ (wide_0 * tall_0))) (f4 : BB2 (wide_0) (tall_0) (barredPoint_0) (costOf_0) (x6) (x7) (x9)) (f5 : (0 ≤ x6) ∧ ((x6 + 1) ≤ (wide_0 * tall_0))) (f6 : (x5 + x9) ≤ 1000000) (f7 : 0 ≤ x5) (f8 : (0 ≤ x9) ∧ (x9 ≤ x10)) (hK_0_140 : ∀ j : Int, 0 ≤ j → j < 24000 → 0 ≤ costOf_0 j ∧ costOf_0 j ≤ 1000000) (hK_0_143 : ∀ j : Int, 0 ≤ j → j < 6000 → 0 ≤ barredPoint_0 j ∧ barredPoint_0 j ≤ 1) (kz_0_146 : (-3999999) ≤ wide_0 ∧ wide_0 ≤ 600000023) (kz_0_147 : (-3999999) ≤ tall_0 ∧ tall_0 ≤ 600000007) (ex2 : gx = 0 + (1 * x10 + 0)) (ex3 : (-2) ≤ gx ∧ gx ≤ 1000000) : (0 ≤ x3) ∧ ((x3 + 1) ≤ (wide_0 * tall_0)) := by
  first
    | omega
    | (have h := ‹BB2 _ _ _ _ _ _ _›
       obtain ⟨g, c, hc⟩ := ‹RTV _ _ _ _ _›
       obtain ⟨p0, d0, b0, e, t0, t1⟩ := h
       have w := ((hc (4 * x6 + x7) (by omega) (by omega)).2 (by omega)).2
       rw [e] at w
       rcases w with w | ⟨d_zq, q, w1, w2, w3, w4, w5, w6⟩
       · have := w.2; omega
       · have := cw_bd ((4 * x6 + x7) % 4) d_zq; omega)
set_option maxHeartbeats 4000000 in
theorem vc_Mo_bendsBecome_6_3 (x3 : Int) (x5 : Int) (x6 : Int) (x7 : Int) (x9 : Int) (x10 : Int) (x11 : Int) (x12 : Int) (x13 : Int) (wide_0 : Int) (tall_0 : Int) (barredPoint_0 : Int → Int) (costOf_0 : Int → Int) (gx : Int) (k3 : 0 ≤ x3 ∧ x3 ≤ 5999) (k5 : 0 ≤ x5 ∧ x5 ≤ 2147483647) (k6 : 0 ≤ x6 ∧ x6 ≤ 5999) (k7 : 0 ≤ x7 ∧ x7 ≤ 3) (k9 : 0 ≤ x9 ∧ x9 ≤ 1000000) (k10 : (-2) ≤ x10 ∧ x10 ≤ 1000000) (k11 : (-1) ≤ x11 ∧ x11 ≤ (-1)) (k12 : 0 ≤ x12 ∧ x12 ≤ 0) (k13 : 3 ≤ x13 ∧ x13 ≤ 3) (f0 : x6 ≠ x3) (f1 : GRX (wide_0) (tall_0)) (f2 : RTV (wide_0) (tall_0) (barredPoint_0) (costOf_0) (x3)) (f3 : (0 ≤ x3) ∧ ((x3 + 1) ≤ (wide_0 * tall_0))) (f4 : BB2 (wide_0) (tall_0) (barredPoint_0) (costOf_0) (x6) (x7) (x9)) (f5 : (0 ≤ x6) ∧ ((x6 + 1) ≤ (wide_0 * tall_0))) (f6 : (x5 + x9) ≤ 1000000) (f7 : 0 ≤ x5) (f8 : (0 ≤ x9) ∧ (x9 ≤ x10)) (hK_0_140 : ∀ j : Int, 0 ≤ j → j < 24000 → 0 ≤ costOf_0 j ∧ costOf_0 j ≤ 1000000) (hK_0_143 : ∀ j : Int, 0 ≤ j → j < 6000 → 0 ≤ barredPoint_0 j ∧ barredPoint_0 j ≤ 1) (kz_0_146 : (-3999999) ≤ wide_0 ∧ wide_0 ≤ 600000023) (kz_0_147 : (-3999999) ≤ tall_0 ∧ tall_0 ≤ 600000007) (ex2 : gx = 0 + (1 * x10 + 0)) (ex3 : (-2) ≤ gx ∧ gx ≤ 1000000) : BB2 (wide_0) (tall_0) (barredPoint_0) (costOf_0) (x6) (x7) (x9) := by
  assumption
set_option maxHeartbeats 4000000 in
theorem vc_Mo_bendsBecome_6_4 (x3 : Int) (x5 : Int) (x6 : Int) (x7 : Int) (x9 : Int) (x10 : Int) (x11 : Int) (x12 : Int) (x13 : Int) (wide_0 : Int) (tall_0 : Int) (barredPoint_0 : Int → Int) (costOf_0 : Int → Int) (gx : Int) (k3 : 0 ≤ x3 ∧ x3 ≤ 5999) (k5 : 0 ≤ x5 ∧ x5 ≤ 2147483647) (k6 : 0 ≤ x6 ∧ x6 ≤ 5999) (k7 : 0 ≤ x7 ∧ x7 ≤ 3) (k9 : 0 ≤ x9 ∧ x9 ≤ 1000000) (k10 : (-2) ≤ x10 ∧ x10 ≤ 1000000) (k11 : (-1) ≤ x11 ∧ x11 ≤ (-1)) (k12 : 0 ≤ x12 ∧ x12 ≤ 0) (k13 : 3 ≤ x13 ∧ x13 ≤ 3) (f0 : x6 ≠ x3) (f1 : GRX (wide_0) (tall_0)) (f2 : RTV (wide_0) (tall_0) (barredPoint_0) (costOf_0) (x3)) (f3 : (0 ≤ x3) ∧ ((x3 + 1) ≤ (wide_0 * tall_0))) (f4 : BB2 (wide_0) (tall_0) (barredPoint_0) (costOf_0) (x6) (x7) (x9)) (f5 : (0 ≤ x6) ∧ ((x6 + 1) ≤ (wide_0 * tall_0))) (f6 : (x5 + x9) ≤ 1000000) (f7 : 0 ≤ x5) (f8 : (0 ≤ x9) ∧ (x9 ≤ x10)) (hK_0_140 : ∀ j : Int, 0 ≤ j → j < 24000 → 0 ≤ costOf_0 j ∧ costOf_0 j ≤ 1000000) (hK_0_143 : ∀ j : Int, 0 ≤ j → j < 6000 → 0 ≤ barredPoint_0 j ∧ barredPoint_0 j ≤ 1) (kz_0_146 : (-3999999) ≤ wide_0 ∧ wide_0 ≤ 600000023) (kz_0_147 : (-3999999) ≤ tall_0 ∧ tall_0 ≤ 600000007) (ex2 : gx = 0 + (1 * x10 + 0)) (ex3 : (-2) ≤ gx ∧ gx ≤ 1000000) : (0 ≤ x6) ∧ ((x6 + 1) ≤ (wide_0 * tall_0)) := by
  first
    | omega
    | (have h := ‹BB2 _ _ _ _ _ _ _›
       obtain ⟨g, c, hc⟩ := ‹RTV _ _ _ _ _›
       obtain ⟨p0, d0, b0, e, t0, t1⟩ := h
       have w := ((hc (4 * x6 + x7) (by omega) (by omega)).2 (by omega)).2
       rw [e] at w
       rcases w with w | ⟨d_zq, q, w1, w2, w3, w4, w5, w6⟩
       · have := w.2; omega
       · have := cw_bd ((4 * x6 + x7) % 4) d_zq; omega)
set_option maxHeartbeats 4000000 in
theorem vc_Mo_bendsBecome_6_5 (x3 : Int) (x5 : Int) (x6 : Int) (x7 : Int) (x9 : Int) (x10 : Int) (x11 : Int) (x12 : Int) (x13 : Int) (wide_0 : Int) (tall_0 : Int) (barredPoint_0 : Int → Int) (costOf_0 : Int → Int) (gx : Int) (k3 : 0 ≤ x3 ∧ x3 ≤ 5999) (k5 : 0 ≤ x5 ∧ x5 ≤ 2147483647) (k6 : 0 ≤ x6 ∧ x6 ≤ 5999) (k7 : 0 ≤ x7 ∧ x7 ≤ 3) (k9 : 0 ≤ x9 ∧ x9 ≤ 1000000) (k10 : (-2) ≤ x10 ∧ x10 ≤ 1000000) (k11 : (-1) ≤ x11 ∧ x11 ≤ (-1)) (k12 : 0 ≤ x12 ∧ x12 ≤ 0) (k13 : 3 ≤ x13 ∧ x13 ≤ 3) (f0 : x6 ≠ x3) (f1 : GRX (wide_0) (tall_0)) (f2 : RTV (wide_0) (tall_0) (barredPoint_0) (costOf_0) (x3)) (f3 : (0 ≤ x3) ∧ ((x3 + 1) ≤ (wide_0 * tall_0))) (f4 : BB2 (wide_0) (tall_0) (barredPoint_0) (costOf_0) (x6) (x7) (x9)) (f5 : (0 ≤ x6) ∧ ((x6 + 1) ≤ (wide_0 * tall_0))) (f6 : (x5 + x9) ≤ 1000000) (f7 : 0 ≤ x5) (f8 : (0 ≤ x9) ∧ (x9 ≤ x10)) (hK_0_140 : ∀ j : Int, 0 ≤ j → j < 24000 → 0 ≤ costOf_0 j ∧ costOf_0 j ≤ 1000000) (hK_0_143 : ∀ j : Int, 0 ≤ j → j < 6000 → 0 ≤ barredPoint_0 j ∧ barredPoint_0 j ≤ 1) (kz_0_146 : (-3999999) ≤ wide_0 ∧ wide_0 ≤ 600000023) (kz_0_147 : (-3999999) ≤ tall_0 ∧ tall_0 ≤ 600000007) (ex2 : gx = 0 + (1 * x10 + 0)) (ex3 : (-2) ≤ gx ∧ gx ≤ 1000000) : (x5 + x9) ≤ 1000000 := by
  first
    | omega
    | (have h := ‹BB2 _ _ _ _ _ _ _›
       obtain ⟨g, c, hc⟩ := ‹RTV _ _ _ _ _›
       obtain ⟨p0, d0, b0, e, t0, t1⟩ := h
       have w := ((hc (4 * x6 + x7) (by omega) (by omega)).2 (by omega)).2
       rw [e] at w
       rcases w with w | ⟨d_zq, q, w1, w2, w3, w4, w5, w6⟩
       · have := w.2; omega
       · have := cw_bd ((4 * x6 + x7) % 4) d_zq; omega)
set_option maxHeartbeats 4000000 in
theorem vc_Mo_bendsBecome_6_6 (x3 : Int) (x5 : Int) (x6 : Int) (x7 : Int) (x9 : Int) (x10 : Int) (x11 : Int) (x12 : Int) (x13 : Int) (wide_0 : Int) (tall_0 : Int) (barredPoint_0 : Int → Int) (costOf_0 : Int → Int) (gx : Int) (k3 : 0 ≤ x3 ∧ x3 ≤ 5999) (k5 : 0 ≤ x5 ∧ x5 ≤ 2147483647) (k6 : 0 ≤ x6 ∧ x6 ≤ 5999) (k7 : 0 ≤ x7 ∧ x7 ≤ 3) (k9 : 0 ≤ x9 ∧ x9 ≤ 1000000) (k10 : (-2) ≤ x10 ∧ x10 ≤ 1000000) (k11 : (-1) ≤ x11 ∧ x11 ≤ (-1)) (k12 : 0 ≤ x12 ∧ x12 ≤ 0) (k13 : 3 ≤ x13 ∧ x13 ≤ 3) (f0 : x6 ≠ x3) (f1 : GRX (wide_0) (tall_0)) (f2 : RTV (wide_0) (tall_0) (barredPoint_0) (costOf_0) (x3)) (f3 : (0 ≤ x3) ∧ ((x3 + 1) ≤ (wide_0 * tall_0))) (f4 : BB2 (wide_0) (tall_0) (barredPoint_0) (costOf_0) (x6) (x7) (x9)) (f5 : (0 ≤ x6) ∧ ((x6 + 1) ≤ (wide_0 * tall_0))) (f6 : (x5 + x9) ≤ 1000000) (f7 : 0 ≤ x5) (f8 : (0 ≤ x9) ∧ (x9 ≤ x10)) (hK_0_140 : ∀ j : Int, 0 ≤ j → j < 24000 → 0 ≤ costOf_0 j ∧ costOf_0 j ≤ 1000000) (hK_0_143 : ∀ j : Int, 0 ≤ j → j < 6000 → 0 ≤ barredPoint_0 j ∧ barredPoint_0 j ≤ 1) (kz_0_146 : (-3999999) ≤ wide_0 ∧ wide_0 ≤ 600000023) (kz_0_147 : (-3999999) ≤ tall_0 ∧ tall_0 ≤ 600000007) (ex2 : gx = 0 + (1 * x10 + 0)) (ex3 : (-2) ≤ gx ∧ gx ≤ 1000000) : 0 ≤ x5 := by
  first
    | omega
    | (have h := ‹BB2 _ _ _ _ _ _ _›
       obtain ⟨g, c, hc⟩ := ‹RTV _ _ _ _ _›
       obtain ⟨p0, d0, b0, e, t0, t1⟩ := h
       have w := ((hc (4 * x6 + x7) (by omega) (by omega)).2 (by omega)).2
       rw [e] at w
       rcases w with w | ⟨d_zq, q, w1, w2, w3, w4, w5, w6⟩
       · have := w.2; omega
       · have := cw_bd ((4 * x6 + x7) % 4) d_zq; omega)
set_option maxHeartbeats 4000000 in
theorem vc_Mo_bendsBecome_6_7 (x3 : Int) (x5 : Int) (x6 : Int) (x7 : Int) (x9 : Int) (x10 : Int) (x11 : Int) (x12 : Int) (x13 : Int) (wide_0 : Int) (tall_0 : Int) (barredPoint_0 : Int → Int) (costOf_0 : Int → Int) (gx : Int) (k3 : 0 ≤ x3 ∧ x3 ≤ 5999) (k5 : 0 ≤ x5 ∧ x5 ≤ 2147483647) (k6 : 0 ≤ x6 ∧ x6 ≤ 5999) (k7 : 0 ≤ x7 ∧ x7 ≤ 3) (k9 : 0 ≤ x9 ∧ x9 ≤ 1000000) (k10 : (-2) ≤ x10 ∧ x10 ≤ 1000000) (k11 : (-1) ≤ x11 ∧ x11 ≤ (-1)) (k12 : 0 ≤ x12 ∧ x12 ≤ 0) (k13 : 3 ≤ x13 ∧ x13 ≤ 3) (f0 : x6 ≠ x3) (f1 : GRX (wide_0) (tall_0)) (f2 : RTV (wide_0) (tall_0) (barredPoint_0) (costOf_0) (x3)) (f3 : (0 ≤ x3) ∧ ((x3 + 1) ≤ (wide_0 * tall_0))) (f4 : BB2 (wide_0) (tall_0) (barredPoint_0) (costOf_0) (x6) (x7) (x9)) (f5 : (0 ≤ x6) ∧ ((x6 + 1) ≤ (wide_0 * tall_0))) (f6 : (x5 + x9) ≤ 1000000) (f7 : 0 ≤ x5) (f8 : (0 ≤ x9) ∧ (x9 ≤ x10)) (hK_0_140 : ∀ j : Int, 0 ≤ j → j < 24000 → 0 ≤ costOf_0 j ∧ costOf_0 j ≤ 1000000) (hK_0_143 : ∀ j : Int, 0 ≤ j → j < 6000 → 0 ≤ barredPoint_0 j ∧ barredPoint_0 j ≤ 1) (kz_0_146 : (-3999999) ≤ wide_0 ∧ wide_0 ≤ 600000023) (kz_0_147 : (-3999999) ≤ tall_0 ∧ tall_0 ≤ 600000007) (ex2 : gx = 0 + (1 * x10 + 0)) (ex3 : (-2) ≤ gx ∧ gx ≤ 1000000) : x6 ≠ x3 := by
  first
    | omega
    | (have h := ‹BB2 _ _ _ _ _ _ _›
       obtain ⟨g, c, hc⟩ := ‹RTV _ _ _ _ _›
       obtain ⟨p0, d0, b0, e, t0, t1⟩ := h
       have w := ((hc (4 * x6 + x7) (by omega) (by omega)).2 (by omega)).2
       rw [e] at w
       rcases w with w | ⟨d_zq, q, w1, w2, w3, w4, w5, w6⟩
       · have := w.2; omega
       · have := cw_bd ((4 * x6 + x7) % 4) d_zq; omega)
set_option maxHeartbeats 4000000 in
theorem vc_Mo_bendsBecome_6_8 (x3 : Int) (x5 : Int) (x6 : Int) (x7 : Int) (x9 : Int) (x10 : Int) (x11 : Int) (x12 : Int) (x13 : Int) (wide_0 : Int) (tall_0 : Int) (barredPoint_0 : Int → Int) (costOf_0 : Int → Int) (gx : Int) (k3 : 0 ≤ x3 ∧ x3 ≤ 5999) (k5 : 0 ≤ x5 ∧ x5 ≤ 2147483647) (k6 : 0 ≤ x6 ∧ x6 ≤ 5999) (k7 : 0 ≤ x7 ∧ x7 ≤ 3) (k9 : 0 ≤ x9 ∧ x9 ≤ 1000000) (k10 : (-2) ≤ x10 ∧ x10 ≤ 1000000) (k11 : (-1) ≤ x11 ∧ x11 ≤ (-1)) (k12 : 0 ≤ x12 ∧ x12 ≤ 0) (k13 : 3 ≤ x13 ∧ x13 ≤ 3) (f0 : x6 ≠ x3) (f1 : GRX (wide_0) (tall_0)) (f2 : RTV (wide_0) (tall_0) (barredPoint_0) (costOf_0) (x3)) (f3 : (0 ≤ x3) ∧ ((x3 + 1) ≤ (wide_0 * tall_0))) (f4 : BB2 (wide_0) (tall_0) (barredPoint_0) (costOf_0) (x6) (x7) (x9)) (f5 : (0 ≤ x6) ∧ ((x6 + 1) ≤ (wide_0 * tall_0))) (f6 : (x5 + x9) ≤ 1000000) (f7 : 0 ≤ x5) (f8 : (0 ≤ x9) ∧ (x9 ≤ x10)) (hK_0_140 : ∀ j : Int, 0 ≤ j → j < 24000 → 0 ≤ costOf_0 j ∧ costOf_0 j ≤ 1000000) (hK_0_143 : ∀ j : Int, 0 ≤ j → j < 6000 → 0 ≤ barredPoint_0 j ∧ barredPoint_0 j ≤ 1) (kz_0_146 : (-3999999) ≤ wide_0 ∧ wide_0 ≤ 600000023) (kz_0_147 : (-3999999) ≤ tall_0 ∧ tall_0 ≤ 600000007) (ex2 : gx = 0 + (1 * x10 + 0)) (ex3 : (-2) ≤ gx ∧ gx ≤ 1000000) : BB3 (wide_0) (tall_0) (barredPoint_0) (costOf_0) (x6) (x7) (x9) (x11) (x12) (x13) := by
  first
    | exact bb3_start (by omega) (by omega)
    | exact bb3_skip (w := x15) (x := x14) (v := x14) ‹BB3 _ _ _ _ _ _ _ _ _ _› (by omega) ‹STQ _ _ _ _ _ _› (by omega) (Or.inl (by omega))
    | exact bb3_skip (w := 1) (x := x14) (v := x14) ‹BB3 _ _ _ _ _ _ _ _ _ _› (by omega) ‹STQ _ _ _ _ _ _› (Or.inl ⟨by omega, rfl⟩) (Or.inl (by omega))
    | exact bb3_skip (w := 3) (x := x14) (v := x14) ‹BB3 _ _ _ _ _ _ _ _ _ _› (by omega) ‹STQ _ _ _ _ _ _› (Or.inr ⟨by omega, rfl⟩) (Or.inl (by omega))
    | exact bb3_skip (w := x15) (x := x19) (v := x20) ‹BB3 _ _ _ _ _ _ _ _ _ _› (by omega) ‹STQ _ _ _ _ _ _› (by omega) (Or.inr ⟨by omega, by assumption, by omega⟩)
    | exact bb3_take (q := x14) (x := x19) (v := x20) (w := x15) ‹STQ _ _ _ _ _ _› (by omega) (by omega) (by omega) (by omega) (by assumption) (by omega) (by omega) (by omega) (by omega)
  
set_option maxHeartbeats 4000000 in
theorem vc_Mo_bendsBecome_6_9 (x3 : Int) (x5 : Int) (x6 : Int) (x7 : Int) (x9 : Int) (x10 : Int) (x11 : Int) (x12 : Int) (x13 : Int) (wide_0 : Int) (tall_0 : Int) (barredPoint_0 : Int → Int) (costOf_0 : Int → Int) (gx : Int) (k3 : 0 ≤ x3 ∧ x3 ≤ 5999) (k5 : 0 ≤ x5 ∧ x5 ≤ 2147483647) (k6 : 0 ≤ x6 ∧ x6 ≤ 5999) (k7 : 0 ≤ x7 ∧ x7 ≤ 3) (k9 : 0 ≤ x9 ∧ x9 ≤ 1000000) (k10 : (-2) ≤ x10 ∧ x10 ≤ 1000000) (k11 : (-1) ≤ x11 ∧ x11 ≤ (-1)) (k12 : 0 ≤ x12 ∧ x12 ≤ 0) (k13 : 3 ≤ x13 ∧ x13 ≤ 3) (f0 : x6 ≠ x3) (f1 : GRX (wide_0) (tall_0)) (f2 : RTV (wide_0) (tall_0) (barredPoint_0) (costOf_0) (x3)) (f3 : (0 ≤ x3) ∧ ((x3 + 1) ≤ (wide_0 * tall_0))) (f4 : BB2 (wide_0) (tall_0) (barredPoint_0) (costOf_0) (x6) (x7) (x9)) (f5 : (0 ≤ x6) ∧ ((x6 + 1) ≤ (wide_0 * tall_0))) (f6 : (x5 + x9) ≤ 1000000) (f7 : 0 ≤ x5) (f8 : (0 ≤ x9) ∧ (x9 ≤ x10)) (hK_0_140 : ∀ j : Int, 0 ≤ j → j < 24000 → 0 ≤ costOf_0 j ∧ costOf_0 j ≤ 1000000) (hK_0_143 : ∀ j : Int, 0 ≤ j → j < 6000 → 0 ≤ barredPoint_0 j ∧ barredPoint_0 j ≤ 1) (kz_0_146 : (-3999999) ≤ wide_0 ∧ wide_0 ≤ 600000023) (kz_0_147 : (-3999999) ≤ tall_0 ∧ tall_0 ≤ 600000007) (ex2 : gx = 0 + (1 * x10 + 0)) (ex3 : (-2) ≤ gx ∧ gx ≤ 1000000) : (0 ≤ x9) ∧ (x9 ≤ gx) := by
  first
    | omega
    | (have h := ‹BB2 _ _ _ _ _ _ _›
       obtain ⟨g, c, hc⟩ := ‹RTV _ _ _ _ _›
       obtain ⟨p0, d0, b0, e, t0, t1⟩ := h
       have w := ((hc (4 * x6 + x7) (by omega) (by omega)).2 (by omega)).2
       rw [e] at w
       rcases w with w | ⟨d_zq, q, w1, w2, w3, w4, w5, w6⟩
       · have := w.2; omega
       · have := cw_bd ((4 * x6 + x7) % 4) d_zq; omega)
set_option maxHeartbeats 4000000 in
theorem vc_Mo_bendsBecome_6_10 (x3 : Int) (x5 : Int) (x6 : Int) (x7 : Int) (x9 : Int) (x10 : Int) (x11 : Int) (x12 : Int) (x13 : Int) (wide_0 : Int) (tall_0 : Int) (barredPoint_0 : Int → Int) (costOf_0 : Int → Int) (gx : Int) (k3 : 0 ≤ x3 ∧ x3 ≤ 5999) (k5 : 0 ≤ x5 ∧ x5 ≤ 2147483647) (k6 : 0 ≤ x6 ∧ x6 ≤ 5999) (k7 : 0 ≤ x7 ∧ x7 ≤ 3) (k9 : 0 ≤ x9 ∧ x9 ≤ 1000000) (k10 : (-2) ≤ x10 ∧ x10 ≤ 1000000) (k11 : (-1) ≤ x11 ∧ x11 ≤ (-1)) (k12 : 0 ≤ x12 ∧ x12 ≤ 0) (k13 : 3 ≤ x13 ∧ x13 ≤ 3) (f0 : x6 ≠ x3) (f1 : GRX (wide_0) (tall_0)) (f2 : RTV (wide_0) (tall_0) (barredPoint_0) (costOf_0) (x3)) (f3 : (0 ≤ x3) ∧ ((x3 + 1) ≤ (wide_0 * tall_0))) (f4 : BB2 (wide_0) (tall_0) (barredPoint_0) (costOf_0) (x6) (x7) (x9)) (f5 : (0 ≤ x6) ∧ ((x6 + 1) ≤ (wide_0 * tall_0))) (f6 : (x5 + x9) ≤ 1000000) (f7 : 0 ≤ x5) (f8 : (0 ≤ x9) ∧ (x9 ≤ x10)) (hK_0_140 : ∀ j : Int, 0 ≤ j → j < 24000 → 0 ≤ costOf_0 j ∧ costOf_0 j ≤ 1000000) (hK_0_143 : ∀ j : Int, 0 ≤ j → j < 6000 → 0 ≤ barredPoint_0 j ∧ barredPoint_0 j ≤ 1) (kz_0_146 : (-3999999) ≤ wide_0 ∧ wide_0 ≤ 600000023) (kz_0_147 : (-3999999) ≤ tall_0 ∧ tall_0 ≤ 600000007) (ex2 : gx = 0 + (1 * x10 + 0)) (ex3 : (-2) ≤ gx ∧ gx ≤ 1000000) : (-1) * gx + 0 ≤ (-1) := by
  first
    | omega
    | (have h := ‹BB2 _ _ _ _ _ _ _›
       obtain ⟨g, c, hc⟩ := ‹RTV _ _ _ _ _›
       obtain ⟨p0, d0, b0, e, t0, t1⟩ := h
       have w := ((hc (4 * x6 + x7) (by omega) (by omega)).2 (by omega)).2
       rw [e] at w
       rcases w with w | ⟨d_zq, q, w1, w2, w3, w4, w5, w6⟩
       · have := w.2; omega
       · have := cw_bd ((4 * x6 + x7) % 4) d_zq; omega)
def o_Mo_bendsBecome_6 : or_T := (127, 14, [(0, (2, 0, 0, [165])), (3, (0, 0, 5999, [])), (5, (0, 0, 2147483647, [])), (6, (0, 0, 5999, [])), (7, (0, 0, 3, [])), (9, (0, 0, 1000000, [])), (10, (0, -2, 1000000, [])), (11, (0, -1, -1, [])), (12, (0, 0, 0, [])), (13, (0, 3, 3, []))], [(7, [6, 3], [1]), (20, [0], [60, 2, 0, 494, 146, 147]), (20, [0, 3], [60, 2, 2, 504, 146, 147, 143, 140]), (20, [3, 0], [50, 2, 0, 1146, 1147, 2, 6, 0, 2, 0, 0, 1, 0, 0, 6, 4, 2, 1, 0, 0, 1, 6, 3, 2, 1, 146, 2, 1, 147]), (20, [0, 6, 7, 9], [60, 2, 2, 507, 146, 147, 143, 140]), (20, [6, 0], [50, 2, 0, 1146, 1147, 2, 6, 0, 2, 0, 0, 1, 0, 0, 6, 4, 2, 1, 0, 0, 1, 6, 3, 2, 1, 146, 2, 1, 147]), (20, [5, 9], [50, 0, 0, 0, 6, 4, 2, 1, 0, 1, 1, 0, 1000000]), (20, [5], [50, 0, 0, 0, 2, 0, 0, 1, 0]), (20, [9, 10], [50, 0, 0, 2, 6, 0, 2, 0, 0, 1, 0, 0, 2, 1, 0, 1, 1])], [], [(0, -2, 1000000, [])], [(20, [0], [60, 2, 0, 494, 146, 147]), (20, [0, 3], [60, 2, 2, 504, 146, 147, 143, 140]), (20, [3, 0], [50, 2, 0, 1146, 1147, 2, 6, 0, 2, 0, 0, 1, 0, 0, 6, 4, 2, 1, 0, 0, 1, 6, 3, 2, 1, 146, 2, 1, 147]), (20, [0, 6, 7, 9], [60, 2, 2, 507, 146, 147, 143, 140]), (20, [6, 0], [50, 2, 0, 1146, 1147, 2, 6, 0, 2, 0, 0, 1, 0, 0, 6, 4, 2, 1, 0, 0, 1, 6, 3, 2, 1, 146, 2, 1, 147]), (20, [5, 9], [50, 0, 0, 0, 6, 4, 2, 1, 0, 1, 1, 0, 1000000]), (20, [5], [50, 0, 0, 0, 2, 0, 0, 1, 0]), (20, [6, 3], [50, 0, 0, 7, 2, 1, 0, 1, 1]), (20, [0, 6, 7, 9, 11, 12, 13], [60, 2, 2, 508, 146, 147, 143, 140]), (20, [9, 14], [50, 0, 0, 2, 6, 0, 2, 0, 0, 1, 0, 0, 2, 1, 0, 1, 1]), (23, [14], [-1, -1])], [(14, 10, 0, 0)], [])
theorem oo_Mo_bendsBecome_6 {kA : Nat → ClassId} : or_ok PRD kA GG o_Mo_bendsBecome_6 := by
  refine or_mk fun A ta ws vs hD hth hl => ?_
  intro t0 r0 t3 k3 t5 k5 t6 k6 t7 k7 t9 k9 t10 k10 t11 k11 t12 k12 t13 k13 f0 f1 f2 f3 f4 f5 f6 f7 f8
  replace f0 := shm_40 f0
  replace f1 := shm_1255 f1
  replace f2 := shm_1376 f2
  replace f3 := shm_1256 f3
  replace f4 := shm_1378 f4
  replace f5 := shm_1256 f5
  replace f6 := shm_1379 f6
  replace f7 := shm_709 f7
  replace f8 := shm_384 f8
  have cr_0_140 := fdq_174 hD hth r0
  have cr_0_143 := fdq_177 hD hth r0
  have hK_0_140 := elq_101 hD hth cr_0_140
  have hK_0_143 := elq_104 hD hth cr_0_143
  have kz_0_146 := fdq_178 hD hth r0
  have kz_0_147 := fdq_179 hD hth r0
  obtain ⟨x, ex, hx⟩ := iv_ex (ta := ta) (lo := (-2)) (hi := 1000000) (z := 0 + (1 * v_iv (n_v vs 10) + 0)) (by omega) (by omega) (by omega) (by omega)
  have ex2 : v_iv (Value.int x) = 0 + (1 * v_iv (n_v vs 10) + 0) := ex
  have ex3 : (-2) ≤ v_iv (Value.int x) ∧ v_iv (Value.int x) ≤ 1000000 := tv_rng hx
  have e_0 : n_v (vs ++ [Value.int x]) 0 = n_v vs 0 := n_v_old (by rw [hl]; decide)
  have e_3 : n_v (vs ++ [Value.int x]) 3 = n_v vs 3 := n_v_old (by rw [hl]; decide)
  have e_5 : n_v (vs ++ [Value.int x]) 5 = n_v vs 5 := n_v_old (by rw [hl]; decide)
  have e_6 : n_v (vs ++ [Value.int x]) 6 = n_v vs 6 := n_v_old (by rw [hl]; decide)
  have e_7 : n_v (vs ++ [Value.int x]) 7 = n_v vs 7 := n_v_old (by rw [hl]; decide)
  have e_9 : n_v (vs ++ [Value.int x]) 9 = n_v vs 9 := n_v_old (by rw [hl]; decide)
  have e_11 : n_v (vs ++ [Value.int x]) 11 = n_v vs 11 := n_v_old (by rw [hl]; decide)
  have e_12 : n_v (vs ++ [Value.int x]) 12 = n_v vs 12 := n_v_old (by rw [hl]; decide)
  have e_13 : n_v (vs ++ [Value.int x]) 13 = n_v vs 13 := n_v_old (by rw [hl]; decide)
  have e_14 : n_v (vs ++ [Value.int x]) 14 = Value.int x := n_v_new hl
  have nf0 : fc_1 PRD (20, [0], [60, 2, 0, 494, 146, 147]) ws (vs ++ [Value.int x]) := by
    refine ⟨nf_inA hl rfl, sgq_1255 ?_⟩
    · show GRX (w_fi ws (n_v (vs ++ [Value.int x]) 0) 146) (w_fi ws (n_v (vs ++ [Value.int x]) 0) 147)
      rw [e_0]
      exact vc_Mo_bendsBecome_6_0 (v_iv (n_v vs 3)) (v_iv (n_v vs 5)) (v_iv (n_v vs 6)) (v_iv (n_v vs 7)) (v_iv (n_v vs 9)) (v_iv (n_v vs 10)) (v_iv (n_v vs 11)) (v_iv (n_v vs 12)) (v_iv (n_v vs 13)) (w_fi ws (n_v vs 0) 146) (w_fi ws (n_v vs 0) 147) (w_ei ws (w_ar ws (n_v vs 0) 143)) (w_ei ws (w_ar ws (n_v vs 0) 140)) (v_iv (Value.int x)) k3 k5 k6 k7 k9 k10 k11 k12 k13 f0 f1 f2 f3 f4 f5 f6 f7 f8 hK_0_140 hK_0_143 kz_0_146 kz_0_147 ex2 ex3
  have nf1 : fc_1 PRD (20, [0, 3], [60, 2, 2, 504, 146, 147, 143, 140]) ws (vs ++ [Value.int x]) := by
    refine ⟨nf_inA hl rfl, sgq_1376 ?_⟩
    · show RTV (w_fi ws (n_v (vs ++ [Value.int x]) 0) 146) (w_fi ws (n_v (vs ++ [Value.int x]) 0) 147) (w_ei ws (w_ar ws (n_v (vs ++ [Value.int x]) 0) 143)) (w_ei ws (w_ar ws (n_v (vs ++ [Value.int x]) 0) 140)) (v_iv (n_v (vs ++ [Value.int x]) 3))
      simp only [e_0, e_3]
      exact vc_Mo_bendsBecome_6_1 (v_iv (n_v vs 3)) (v_iv (n_v vs 5)) (v_iv (n_v vs 6)) (v_iv (n_v vs 7)) (v_iv (n_v vs 9)) (v_iv (n_v vs 10)) (v_iv (n_v vs 11)) (v_iv (n_v vs 12)) (v_iv (n_v vs 13)) (w_fi ws (n_v vs 0) 146) (w_fi ws (n_v vs 0) 147) (w_ei ws (w_ar ws (n_v vs 0) 143)) (w_ei ws (w_ar ws (n_v vs 0) 140)) (v_iv (Value.int x)) k3 k5 k6 k7 k9 k10 k11 k12 k13 f0 f1 f2 f3 f4 f5 f6 f7 f8 hK_0_140 hK_0_143 kz_0_146 kz_0_147 ex2 ex3
  have nf2 : fc_1 PRD (20, [3, 0], [50, 2, 0, 1146, 1147, 2, 6, 0, 2, 0, 0, 1, 0, 0, 6, 4, 2, 1, 0, 0, 1, 6, 3, 2, 1, 146, 2, 1, 147]) ws (vs ++ [Value.int x]) := by
    refine ⟨nf_inA hl rfl, sgq_1256 ?_⟩
    · show (0 ≤ v_iv (n_v (vs ++ [Value.int x]) 3)) ∧ ((v_iv (n_v (vs ++ [Value.int x]) 3) + 1) ≤ (w_fi ws (n_v (vs ++ [Value.int x]) 0) 146 * w_fi ws (n_v (vs ++ [Value.int x]) 0) 147))
      simp only [e_0, e_3]
      exact vc_Mo_bendsBecome_6_2 (v_iv (n_v vs 3)) (v_iv (n_v vs 5)) (v_iv (n_v vs 6)) (v_iv (n_v vs 7)) (v_iv (n_v vs 9)) (v_iv (n_v vs 10)) (v_iv (n_v vs 11)) (v_iv (n_v vs 12)) (v_iv (n_v vs 13)) (w_fi ws (n_v vs 0) 146) (w_fi ws (n_v vs 0) 147) (w_ei ws (w_ar ws (n_v vs 0) 143)) (w_ei ws (w_ar ws (n_v vs 0) 140)) (v_iv (Value.int x)) k3 k5 k6 k7 k9 k10 k11 k12 k13 f0 f1 f2 f3 f4 f5 f6 f7 f8 hK_0_140 hK_0_143 kz_0_146 kz_0_147 ex2 ex3
  have nf3 : fc_1 PRD (20, [0, 6, 7, 9], [60, 2, 2, 507, 146, 147, 143, 140]) ws (vs ++ [Value.int x]) := by
    refine ⟨nf_inA hl rfl, sgq_1378 ?_⟩
    · show BB2 (w_fi ws (n_v (vs ++ [Value.int x]) 0) 146) (w_fi ws (n_v (vs ++ [Value.int x]) 0) 147) (w_ei ws (w_ar ws (n_v (vs ++ [Value.int x]) 0) 143)) (w_ei ws (w_ar ws (n_v (vs ++ [Value.int x]) 0) 140)) (v_iv (n_v (vs ++ [Value.int x]) 6)) (v_iv (n_v (vs ++ [Value.int x]) 7)) (v_iv (n_v (vs ++ [Value.int x]) 9))
      simp only [e_0, e_6, e_7, e_9]
      exact vc_Mo_bendsBecome_6_3 (v_iv (n_v vs 3)) (v_iv (n_v vs 5)) (v_iv (n_v vs 6)) (v_iv (n_v vs 7)) (v_iv (n_v vs 9)) (v_iv (n_v vs 10)) (v_iv (n_v vs 11)) (v_iv (n_v vs 12)) (v_iv (n_v vs 13)) (w_fi ws (n_v vs 0) 146) (w_fi ws (n_v vs 0) 147) (w_ei ws (w_ar ws (n_v vs 0) 143)) (w_ei ws (w_ar ws (n_v vs 0) 140)) (v_iv (Value.int x)) k3 k5 k6 k7 k9 k10 k11 k12 k13 f0 f1 f2 f3 f4 f5 f6 f7 f8 hK_0_140 hK_0_143 kz_0_146 kz_0_147 ex2 ex3
  have nf4 : fc_1 PRD (20, [6, 0], [50, 2, 0, 1146, 1147, 2, 6, 0, 2, 0, 0, 1, 0, 0, 6, 4, 2, 1, 0, 0, 1, 6, 3, 2, 1, 146, 2, 1, 147]) ws (vs ++ [Value.int x]) := by
    refine ⟨nf_inA hl rfl, sgq_1256 ?_⟩
    · show (0 ≤ v_iv (n_v (vs ++ [Value.int x]) 6)) ∧ ((v_iv (n_v (vs ++ [Value.int x]) 6) + 1) ≤ (w_fi ws (n_v (vs ++ [Value.int x]) 0) 146 * w_fi ws (n_v (vs ++ [Value.int x]) 0) 147))
      simp only [e_0, e_6]
      exact vc_Mo_bendsBecome_6_4 (v_iv (n_v vs 3)) (v_iv (n_v vs 5)) (v_iv (n_v vs 6)) (v_iv (n_v vs 7)) (v_iv (n_v vs 9)) (v_iv (n_v vs 10)) (v_iv (n_v vs 11)) (v_iv (n_v vs 12)) (v_iv (n_v vs 13)) (w_fi ws (n_v vs 0) 146) (w_fi ws (n_v vs 0) 147) (w_ei ws (w_ar ws (n_v vs 0) 143)) (w_ei ws (w_ar ws (n_v vs 0) 140)) (v_iv (Value.int x)) k3 k5 k6 k7 k9 k10 k11 k12 k13 f0 f1 f2 f3 f4 f5 f6 f7 f8 hK_0_140 hK_0_143 kz_0_146 kz_0_147 ex2 ex3
  have nf5 : fc_1 PRD (20, [5, 9], [50, 0, 0, 0, 6, 4, 2, 1, 0, 1, 1, 0, 1000000]) ws (vs ++ [Value.int x]) := by
    refine ⟨nf_inA hl rfl, sgq_1379 ?_⟩
    · show (v_iv (n_v (vs ++ [Value.int x]) 5) + v_iv (n_v (vs ++ [Value.int x]) 9)) ≤ 1000000
      simp only [e_5, e_9]
      exact vc_Mo_bendsBecome_6_5 (v_iv (n_v vs 3)) (v_iv (n_v vs 5)) (v_iv (n_v vs 6)) (v_iv (n_v vs 7)) (v_iv (n_v vs 9)) (v_iv (n_v vs 10)) (v_iv (n_v vs 11)) (v_iv (n_v vs 12)) (v_iv (n_v vs 13)) (w_fi ws (n_v vs 0) 146) (w_fi ws (n_v vs 0) 147) (w_ei ws (w_ar ws (n_v vs 0) 143)) (w_ei ws (w_ar ws (n_v vs 0) 140)) (v_iv (Value.int x)) k3 k5 k6 k7 k9 k10 k11 k12 k13 f0 f1 f2 f3 f4 f5 f6 f7 f8 hK_0_140 hK_0_143 kz_0_146 kz_0_147 ex2 ex3
  have nf6 : fc_1 PRD (20, [5], [50, 0, 0, 0, 2, 0, 0, 1, 0]) ws (vs ++ [Value.int x]) := by
    refine ⟨nf_inA hl rfl, sgq_709 ?_⟩
    · show 0 ≤ v_iv (n_v (vs ++ [Value.int x]) 5)
      rw [e_5]
      exact vc_Mo_bendsBecome_6_6 (v_iv (n_v vs 3)) (v_iv (n_v vs 5)) (v_iv (n_v vs 6)) (v_iv (n_v vs 7)) (v_iv (n_v vs 9)) (v_iv (n_v vs 10)) (v_iv (n_v vs 11)) (v_iv (n_v vs 12)) (v_iv (n_v vs 13)) (w_fi ws (n_v vs 0) 146) (w_fi ws (n_v vs 0) 147) (w_ei ws (w_ar ws (n_v vs 0) 143)) (w_ei ws (w_ar ws (n_v vs 0) 140)) (v_iv (Value.int x)) k3 k5 k6 k7 k9 k10 k11 k12 k13 f0 f1 f2 f3 f4 f5 f6 f7 f8 hK_0_140 hK_0_143 kz_0_146 kz_0_147 ex2 ex3
  have nf7 : fc_1 PRD (20, [6, 3], [50, 0, 0, 7, 2, 1, 0, 1, 1]) ws (vs ++ [Value.int x]) := by
    refine ⟨nf_inA hl rfl, sgq_419 ?_⟩
    · show v_iv (n_v (vs ++ [Value.int x]) 6) ≠ v_iv (n_v (vs ++ [Value.int x]) 3)
      simp only [e_3, e_6]
      exact vc_Mo_bendsBecome_6_7 (v_iv (n_v vs 3)) (v_iv (n_v vs 5)) (v_iv (n_v vs 6)) (v_iv (n_v vs 7)) (v_iv (n_v vs 9)) (v_iv (n_v vs 10)) (v_iv (n_v vs 11)) (v_iv (n_v vs 12)) (v_iv (n_v vs 13)) (w_fi ws (n_v vs 0) 146) (w_fi ws (n_v vs 0) 147) (w_ei ws (w_ar ws (n_v vs 0) 143)) (w_ei ws (w_ar ws (n_v vs 0) 140)) (v_iv (Value.int x)) k3 k5 k6 k7 k9 k10 k11 k12 k13 f0 f1 f2 f3 f4 f5 f6 f7 f8 hK_0_140 hK_0_143 kz_0_146 kz_0_147 ex2 ex3
  have nf8 : fc_1 PRD (20, [0, 6, 7, 9, 11, 12, 13], [60, 2, 2, 508, 146, 147, 143, 140]) ws (vs ++ [Value.int x]) := by
    refine ⟨nf_inA hl rfl, sgq_1380 ?_⟩
    · show BB3 (w_fi ws (n_v (vs ++ [Value.int x]) 0) 146) (w_fi ws (n_v (vs ++ [Value.int x]) 0) 147) (w_ei ws (w_ar ws (n_v (vs ++ [Value.int x]) 0) 143)) (w_ei ws (w_ar ws (n_v (vs ++ [Value.int x]) 0) 140)) (v_iv (n_v (vs ++ [Value.int x]) 6)) (v_iv (n_v (vs ++ [Value.int x]) 7)) (v_iv (n_v (vs ++ [Value.int x]) 9)) (v_iv (n_v (vs ++ [Value.int x]) 11)) (v_iv (n_v (vs ++ [Value.int x]) 12)) (v_iv (n_v (vs ++ [Value.int x]) 13))
      simp only [e_0, e_6, e_7, e_9, e_11, e_12, e_13]
      exact vc_Mo_bendsBecome_6_8 (v_iv (n_v vs 3)) (v_iv (n_v vs 5)) (v_iv (n_v vs 6)) (v_iv (n_v vs 7)) (v_iv (n_v vs 9)) (v_iv (n_v vs 10)) (v_iv (n_v vs 11)) (v_iv (n_v vs 12)) (v_iv (n_v vs 13)) (w_fi ws (n_v vs 0) 146) (w_fi ws (n_v vs 0) 147) (w_ei ws (w_ar ws (n_v vs 0) 143)) (w_ei ws (w_ar ws (n_v vs 0) 140)) (v_iv (Value.int x)) k3 k5 k6 k7 k9 k10 k11 k12 k13 f0 f1 f2 f3 f4 f5 f6 f7 f8 hK_0_140 hK_0_143 kz_0_146 kz_0_147 ex2 ex3
  have nf9 : fc_1 PRD (20, [9, 14], [50, 0, 0, 2, 6, 0, 2, 0, 0, 1, 0, 0, 2, 1, 0, 1, 1]) ws (vs ++ [Value.int x]) := by
    refine ⟨nf_inA hl rfl, sgq_384 ?_⟩
    · show (0 ≤ v_iv (n_v (vs ++ [Value.int x]) 9)) ∧ (v_iv (n_v (vs ++ [Value.int x]) 9) ≤ v_iv (n_v (vs ++ [Value.int x]) 14))
      simp only [e_9, e_14]
      exact vc_Mo_bendsBecome_6_9 (v_iv (n_v vs 3)) (v_iv (n_v vs 5)) (v_iv (n_v vs 6)) (v_iv (n_v vs 7)) (v_iv (n_v vs 9)) (v_iv (n_v vs 10)) (v_iv (n_v vs 11)) (v_iv (n_v vs 12)) (v_iv (n_v vs 13)) (w_fi ws (n_v vs 0) 146) (w_fi ws (n_v vs 0) 147) (w_ei ws (w_ar ws (n_v vs 0) 143)) (w_ei ws (w_ar ws (n_v vs 0) 140)) (v_iv (Value.int x)) k3 k5 k6 k7 k9 k10 k11 k12 k13 f0 f1 f2 f3 f4 f5 f6 f7 f8 hK_0_140 hK_0_143 kz_0_146 kz_0_147 ex2 ex3
  have nf10 : fc_1 PRD (23, [14], [-1, -1]) ws (vs ++ [Value.int x]) := by
    refine ⟨nf_inA hl rfl, sgq_614 ?_⟩
    · show (-1) * v_iv (n_v (vs ++ [Value.int x]) 14) + 0 ≤ (-1)
      rw [e_14]
      exact vc_Mo_bendsBecome_6_10 (v_iv (n_v vs 3)) (v_iv (n_v vs 5)) (v_iv (n_v vs 6)) (v_iv (n_v vs 7)) (v_iv (n_v vs 9)) (v_iv (n_v vs 10)) (v_iv (n_v vs 11)) (v_iv (n_v vs 12)) (v_iv (n_v vs 13)) (w_fi ws (n_v vs 0) 146) (w_fi ws (n_v vs 0) 147) (w_ei ws (w_ar ws (n_v vs 0) 143)) (w_ei ws (w_ar ws (n_v vs 0) 140)) (v_iv (Value.int x)) k3 k5 k6 k7 k9 k10 k11 k12 k13 f0 f1 f2 f3 f4 f5 f6 f7 f8 hK_0_140 hK_0_143 kz_0_146 kz_0_147 ex2 ex3
  obtain ⟨x0, e0, _, _⟩ := tv_int t10 rfl
  have e1 : v_iv (n_v vs 10) = x0.toInt := by rw [e0]; rfl
  have ho : sy_ofs (vs ++ [Value.int x]) (14, 10, 0, 0) := by
    refine ⟨x, x0, by rw [List.getElem?_append_right (by rw [hl]; decide), hl]; rfl, ?_, ?_, ?_⟩
    · rw [List.getElem?_append_left (by rw [hl]; decide)]; exact n_v_some (by rw [hl]; decide) e0
    · show x0.toInt + 0 ≤ x.toInt; omega
    · show x.toInt ≤ x0.toInt + 0; omega
  exact ⟨(fun _ h => (by cases h)), [Value.int x], ag_one hx, List.forall_mem_cons.mpr ⟨⟨show (20 : Nat) < 100 from by decide, nf0⟩, List.forall_mem_cons.mpr ⟨⟨show (20 : Nat) < 100 from by decide, nf1⟩, List.forall_mem_cons.mpr ⟨⟨show (20 : Nat) < 100 from by decide, nf2⟩, List.forall_mem_cons.mpr ⟨⟨show (20 : Nat) < 100 from by decide, nf3⟩, List.forall_mem_cons.mpr ⟨⟨show (20 : Nat) < 100 from by decide, nf4⟩, List.forall_mem_cons.mpr ⟨⟨show (20 : Nat) < 100 from by decide, nf5⟩, List.forall_mem_cons.mpr ⟨⟨show (20 : Nat) < 100 from by decide, nf6⟩, List.forall_mem_cons.mpr ⟨⟨show (20 : Nat) < 100 from by decide, nf7⟩, List.forall_mem_cons.mpr ⟨⟨show (20 : Nat) < 100 from by decide, nf8⟩, List.forall_mem_cons.mpr ⟨⟨show (20 : Nat) < 100 from by decide, nf9⟩, List.forall_mem_cons.mpr ⟨⟨show (23 : Nat) < 100 from by decide, nf10⟩, (fun _ h => (by cases h))⟩⟩⟩⟩⟩⟩⟩⟩⟩⟩⟩, List.forall_mem_cons.mpr ⟨ho, (fun _ h => (by cases h))⟩⟩
set_option maxHeartbeats 4000000 in
theorem vc_Mo_bendsBecome_7_r0 (x3 : Int) (x5 : Int) (x6 : Int) (x7 : Int) (x9 : Int) (x10 : Int) (x11 : Int) (x12 : Int) (x13 : Int) (x14 : Int) (barredPoint_0 : Int → Int) (wide_0 : Int) (tall_0 : Int) (costOf_0 : Int → Int) (k3 : 0 ≤ x3 ∧ x3 ≤ 5999) (k5 : 0 ≤ x5 ∧ x5 ≤ 2147483647) (k6 : 0 ≤ x6 ∧ x6 ≤ 5999) (k7 : 0 ≤ x7 ∧ x7 ≤ 3) (k9 : 0 ≤ x9 ∧ x9 ≤ 1000000) (k10 : 0 ≤ x10 ∧ x10 ≤ 3) (k11 : 0 ≤ x11 ∧ x11 ≤ 999999) (k12 : (-1) ≤ x12 ∧ x12 ≤ (-1)) (k13 : (-2) ≤ x13 ∧ x13 ≤ 1000000) (k14 : (-1) ≤ x14 ∧ x14 ≤ 5999) (d0 : x7 + 0 ≤ x10 ∧ x10 ≤ x7 + 0) (d1 : x9 + (-4294967296) ≤ x10 ∧ x10 ≤ x9 + 2) (d2 : x9 + (-4294967296) ≤ x11 ∧ x11 ≤ x9 + 0) (f0 : STQ (wide_0) (tall_0) (barredPoint_0) (x6) (x10) (x14)) (f1 : ((-1) ≤ x14) ∧ ((x14 + 1) ≤ (wide_0 * tall_0))) (f2 : x10 = x7) (f3 : x12 < 0) (f4 : GRX (wide_0) (tall_0)) (f5 : RTV (wide_0) (tall_0) (barredPoint_0) (costOf_0) (x3)) (f6 : (0 ≤ x3) ∧ ((x3 + 1) ≤ (wide_0 * tall_0))) (f7 : BB2 (wide_0) (tall_0) (barredPoint_0) (costOf_0) (x6) (x7) (x9)) (f8 : (0 ≤ x6) ∧ ((x6 + 1) ≤ (wide_0 * tall_0))) (f9 : (x5 + x9) ≤ 1000000) (f10 : 0 ≤ x5) (f11 : x6 ≠ x3) (f12 : BB3 (wide_0) (tall_0) (barredPoint_0) (costOf_0) (x6) (x7) (x9) (x10) (x11) (x12)) (f13 : (0 ≤ x9) ∧ (x9 ≤ x13)) (f14 : (-1) * x13 + 0 ≤ (-1)) (hK_0_140 : ∀ j : Int, 0 ≤ j → j < 24000 → 0 ≤ costOf_0 j ∧ costOf_0 j ≤ 1000000) (hK_0_143 : ∀ j : Int, 0 ≤ j → j < 6000 → 0 ≤ barredPoint_0 j ∧ barredPoint_0 j ≤ 1) (kz_0_146 : (-3999999) ≤ wide_0 ∧ wide_0 ≤ 600000023) (kz_0_147 : (-3999999) ≤ tall_0 ∧ tall_0 ≤ 600000007) : 0 ≤ x14 ∧ x14 ≤ 5999 := by
  first
    | omega
    | (have g := gok_bd ‹GRX _ _›; omega)
    | (have h := bb_next ‹RTV _ _ _ _ _› ‹BB2 _ _ _ _ _ _ _› ‹BB3 _ _ _ _ _ _ _ _ _ _› (by omega) (by omega)
       have h1 := h.1.1
       have h2 := h.2
       omega)
    | (obtain ⟨⟨mf, q, n1, n2, n3, n4⟩, u0, u1⟩ := bb_next ‹RTV _ _ _ _ _› ‹BB2 _ _ _ _ _ _ _› ‹BB3 _ _ _ _ _ _ _ _ _ _› (by omega) (by omega)
       have e := ‹STQ _ _ _ _ _ _›.2.2 q n1 n2
       have i := nb_in n1 (by have g := gok_bd ‹GRX _ _›; omega)
       have g3 := ‹GRX _ _›.2.2
       omega)
def o_Mo_bendsBecome_7 : or_T := (272, 15, [(0, (2, 0, 0, [165])), (3, (0, 0, 5999, [])), (5, (0, 0, 2147483647, [])), (6, (0, 0, 5999, [])), (7, (0, 0, 3, [])), (9, (0, 0, 1000000, [])), (10, (0, 0, 3, [])), (11, (0, 0, 999999, [])), (12, (0, -1, -1, [])), (13, (0, -2, 1000000, [])), (14, (0, -1, 5999, []))], [(20, [0, 6, 10, 14], [60, 2, 1, 505, 146, 147, 143]), (20, [14, 0], [50, 2, 0, 1146, 1147, 2, 6, 0, 2, 0, -1, 1, 0, 0, 6, 4, 2, 1, 0, 0, 1, 6, 3, 2, 1, 146, 2, 1, 147]), (7, [10, 7], [0]), (8, [12], [2]), (20, [0], [60, 2, 0, 494, 146, 147]), (20, [0, 3], [60, 2, 2, 504, 146, 147, 143, 140]), (20, [3, 0], [50, 2, 0, 1146, 1147, 2, 6, 0, 2, 0, 0, 1, 0, 0, 6, 4, 2, 1, 0, 0, 1, 6, 3, 2, 1, 146, 2, 1, 147]), (20, [0, 6, 7, 9], [60, 2, 2, 507, 146, 147, 143, 140]), (20, [6, 0], [50, 2, 0, 1146, 1147, 2, 6, 0, 2, 0, 0, 1, 0, 0, 6, 4, 2, 1, 0, 0, 1, 6, 3, 2, 1, 146, 2, 1, 147]), (20, [5, 9], [50, 0, 0, 0, 6, 4, 2, 1, 0, 1, 1, 0, 1000000]), (20, [5], [50, 0, 0, 0, 2, 0, 0, 1, 0]), (20, [6, 3], [50, 0, 0, 7, 2, 1, 0, 1, 1]), (20, [0, 6, 7, 9, 10, 11, 12], [60, 2, 2, 508, 146, 147, 143, 140]), (20, [9, 13], [50, 0, 0, 2, 6, 0, 2, 0, 0, 1, 0, 0, 2, 1, 0, 1, 1]), (23, [13], [-1, -1])], [(14, (0, 0, 5999, []))], [], [], [], [(10, 7, 0, 0), (10, 9, -4294967296, 2), (11, 9, -4294967296, 0)])
theorem oo_Mo_bendsBecome_7 {kA : Nat → ClassId} : or_ok PRD kA GG o_Mo_bendsBecome_7 := by
  refine or_mk fun A ta ws vs hD hth hl => ?_
  intro t0 r0 t3 k3 t5 k5 t6 k6 t7 k7 t9 k9 t10 k10 t11 k11 t12 k12 t13 k13 t14 k14 d0 d1 d2 f0 f1 f2 f3 f4 f5 f6 f7 f8 f9 f10 f11 f12 f13 f14
  have cr_0_140 := fdq_174 hD hth r0
  have cr_0_143 := fdq_177 hD hth r0
  have hK_0_140 := elq_101 hD hth cr_0_140
  have hK_0_143 := elq_104 hD hth cr_0_143
  have kz_0_146 := fdq_178 hD hth r0
  have kz_0_147 := fdq_179 hD hth r0
  have hrf0 : 0 ≤ v_iv (n_v vs 14) ∧ v_iv (n_v vs 14) ≤ 5999 := vc_Mo_bendsBecome_7_r0 (v_iv (n_v vs 3)) (v_iv (n_v vs 5)) (v_iv (n_v vs 6)) (v_iv (n_v vs 7)) (v_iv (n_v vs 9)) (v_iv (n_v vs 10)) (v_iv (n_v vs 11)) (v_iv (n_v vs 12)) (v_iv (n_v vs 13)) (v_iv (n_v vs 14)) (w_ei ws (w_ar ws (n_v vs 0) 143)) (w_fi ws (n_v vs 0) 146) (w_fi ws (n_v vs 0) 147) (w_ei ws (w_ar ws (n_v vs 0) 140)) k3 k5 k6 k7 k9 k10 k11 k12 k13 k14 d0 d1 d2 (shm_1257 f0) (shm_1258 f1) (shm_37 f2) (shm_39 f3) (shm_1255 f4) (shm_1376 f5) (shm_1256 f6) (shm_1378 f7) (shm_1256 f8) (shm_1379 f9) (shm_709 f10) (shm_419 f11) (shm_1380 f12) (shm_384 f13) (shm_614 f14) hK_0_140 hK_0_143 kz_0_146 kz_0_147
  have rf14 : tv_ok ta (0, 0, 5999, []) (n_v vs 14) := tv_in t14 (by first | omega | grind) (by first | omega | grind)
  refine ⟨List.forall_mem_cons.mpr ⟨rf14, (fun _ h => (by cases h))⟩, [], trivial, ?_, (fun _ h => (by cases h))⟩
  rw [List.append_nil]
  exact (fun _ h => (by cases h))
set_option maxHeartbeats 4000000 in
theorem vc_Mo_bendsBecome_8_0 (x3 : Int) (x5 : Int) (x6 : Int) (x7 : Int) (x9 : Int) (x10 : Int) (x11 : Int) (x12 : Int) (x13 : Int) (x14 : Int) (barredPoint_0 : Int → Int) (wide_0 : Int) (tall_0 : Int) (costOf_0 : Int → Int) (gx : Int) (k3 : 0 ≤ x3 ∧ x3 ≤ 5999) (k5 : 0 ≤ x5 ∧ x5 ≤ 2147483647) (k6 : 0 ≤ x6 ∧ x6 ≤ 5999) (k7 : 0 ≤ x7 ∧ x7 ≤ 3) (k9 : 0 ≤ x9 ∧ x9 ≤ 1000000) (k10 : 0 ≤ x10 ∧ x10 ≤ 3) (k11 : 0 ≤ x11 ∧ x11 ≤ 999999) (k12 : (-1) ≤ x12 ∧ x12 ≤ (-1)) (k13 : (-2) ≤ x13 ∧ x13 ≤ 1000000) (k14 : 0 ≤ x14 ∧ x14 ≤ 5999) (d0 : x7 + 0 ≤ x10 ∧ x10 ≤ x7 + 0) (d1 : x9 + (-4294967296) ≤ x10 ∧ x10 ≤ x9 + 2) (d2 : x9 + (-4294967296) ≤ x11 ∧ x11 ≤ x9 + 0) (f0 : STQ (wide_0) (tall_0) (barredPoint_0) (x6) (x10) (x14)) (f1 : ((-1) ≤ x14) ∧ ((x14 + 1) ≤ (wide_0 * tall_0))) (f2 : x10 = x7) (f3 : x12 < 0) (f4 : GRX (wide_0) (tall_0)) (f5 : RTV (wide_0) (tall_0) (barredPoint_0) (costOf_0) (x3)) (f6 : (0 ≤ x3) ∧ ((x3 + 1) ≤ (wide_0 * tall_0))) (f7 : BB2 (wide_0) (tall_0) (barredPoint_0) (costOf_0) (x6) (x7) (x9)) (f8 : (0 ≤ x6) ∧ ((x6 + 1) ≤ (wide_0 * tall_0))) (f9 : (x5 + x9) ≤ 1000000) (f10 : 0 ≤ x5) (f11 : x6 ≠ x3) (f12 : BB3 (wide_0) (tall_0) (barredPoint_0) (costOf_0) (x6) (x7) (x9) (x10) (x11) (x12)) (f13 : (0 ≤ x9) ∧ (x9 ≤ x13)) (f14 : (-1) * x13 + 0 ≤ (-1)) (hK_0_140 : ∀ j : Int, 0 ≤ j → j < 24000 → 0 ≤ costOf_0 j ∧ costOf_0 j ≤ 1000000) (hK_0_143 : ∀ j : Int, 0 ≤ j → j < 6000 → 0 ≤ barredPoint_0 j ∧ barredPoint_0 j ≤ 1) (kz_0_146 : (-3999999) ≤ wide_0 ∧ wide_0 ≤ 600000023) (kz_0_147 : (-3999999) ≤ tall_0 ∧ tall_0 ≤ 600000007) (ex2 : gx = (-1) + (1 * x13 + 0)) (ex3 : (-2) ≤ gx ∧ gx ≤ 1000000) : GRX (wide_0) (tall_0) := by
  assumption
set_option maxHeartbeats 4000000 in
theorem vc_Mo_bendsBecome_8_1 (x3 : Int) (x5 : Int) (x6 : Int) (x7 : Int) (x9 : Int) (x10 : Int) (x11 : Int) (x12 : Int) (x13 : Int) (x14 : Int) (barredPoint_0 : Int → Int) (wide_0 : Int) (tall_0 : Int) (costOf_0 : Int → Int) (gx : Int) (k3 : 0 ≤ x3 ∧ x3 ≤ 5999) (k5 : 0 ≤ x5 ∧ x5 ≤ 2147483647) (k6 : 0 ≤ x6 ∧ x6 ≤ 5999) (k7 : 0 ≤ x7 ∧ x7 ≤ 3) (k9 : 0 ≤ x9 ∧ x9 ≤ 1000000) (k10 : 0 ≤ x10 ∧ x10 ≤ 3) (k11 : 0 ≤ x11 ∧ x11 ≤ 999999) (k12 : (-1) ≤ x12 ∧ x12 ≤ (-1)) (k13 : (-2) ≤ x13 ∧ x13 ≤ 1000000) (k14 : 0 ≤ x14 ∧ x14 ≤ 5999) (d0 : x7 + 0 ≤ x10 ∧ x10 ≤ x7 + 0) (d1 : x9 + (-4294967296) ≤ x10 ∧ x10 ≤ x9 + 2) (d2 : x9 + (-4294967296) ≤ x11 ∧ x11 ≤ x9 + 0) (f0 : STQ (wide_0) (tall_0) (barredPoint_0) (x6) (x10) (x14)) (f1 : ((-1) ≤ x14) ∧ ((x14 + 1) ≤ (wide_0 * tall_0))) (f2 : x10 = x7) (f3 : x12 < 0) (f4 : GRX (wide_0) (tall_0)) (f5 : RTV (wide_0) (tall_0) (barredPoint_0) (costOf_0) (x3)) (f6 : (0 ≤ x3) ∧ ((x3 + 1) ≤ (wide_0 * tall_0))) (f7 : BB2 (wide_0) (tall_0) (barredPoint_0) (costOf_0) (x6) (x7) (x9)) (f8 : (0 ≤ x6) ∧ ((x6 + 1) ≤ (wide_0 * tall_0))) (f9 : (x5 + x9) ≤ 1000000) (f10 : 0 ≤ x5) (f11 : x6 ≠ x3) (f12 : BB3 (wide_0) (tall_0) (barredPoint_0) (costOf_0) (x6) (x7) (x9) (x10) (x11) (x12)) (f13 : (0 ≤ x9) ∧ (x9 ≤ x13)) (f14 : (-1) * x13 + 0 ≤ (-1)) (hK_0_140 : ∀ j : Int, 0 ≤ j → j < 24000 → 0 ≤ costOf_0 j ∧ costOf_0 j ≤ 1000000) (hK_0_143 : ∀ j : Int, 0 ≤ j → j < 6000 → 0 ≤ barredPoint_0 j ∧ barredPoint_0 j ≤ 1) (kz_0_146 : (-3999999) ≤ wide_0 ∧ wide_0 ≤ 600000023) (kz_0_147 : (-3999999) ≤ tall_0 ∧ tall_0 ≤ 600000007) (ex2 : gx = (-1) + (1 * x13 + 0)) (ex3 : (-2) ≤ gx ∧ gx ≤ 1000000) : RTV (wide_0) (tall_0) (barredPoint_0) (costOf_0) (x3) := by
  assumption
set_option maxHeartbeats 4000000 in
theorem vc_Mo_bendsBecome_8_2 (x3 : Int) (x5 : Int) (x6 : Int) (x7 : Int) (x9 : Int) (x10 : Int) (x11 : Int) (x12 : Int) (x13 : Int) (x14 : Int) (barredPoint_0 : Int → Int) (wide_0 : Int) (tall_0 : Int) (costOf_0 : Int → Int) (gx : Int) (k3 : 0 ≤ x3 ∧ x3 ≤ 5999) (k5 : 0 ≤ x5 ∧ x5 ≤ 2147483647) (k6 : 0 ≤ x6 ∧ x6 ≤ 5999) (k7 : 0 ≤ x7 ∧ x7 ≤ 3) (k9 : 0 ≤ x9 ∧ x9 ≤ 1000000) (k10 : 0 ≤ x10 ∧ x10 ≤ 3) (k11 : 0 ≤ x11 ∧ x11 ≤ 999999) (k12 : (-1) ≤ x12 ∧ x12 ≤ (-1)) (k13 : (-2) ≤ x13 ∧ x13 ≤ 1000000) (k14 : 0 ≤ x14 ∧ x14 ≤ 5999) (d0 : x7 + 0 ≤ x10 ∧ x10 ≤ x7 + 0) (d1 : x9 + (-4294967296) ≤ x10 ∧ x10 ≤ x9 + 2) (d2 : x9 + (-4294967296) ≤ x11 ∧ x11 ≤ x9 + 0) (f0 : STQ (wide_0) (tall_0) (barredPoint_0) (x6) (x10) (x14)) (f1 : ((-1) ≤ x14) ∧ ((x14 + 1) ≤ (wide_0 * tall_0))) (f2 : x10 = x7) (f3 : x12 < 0) (f4 : GRX (wide_0) (tall_0)) (f5 : RTV (wide_0) (tall_0) (barredPoint_0) (costOf_0) (x3)) (f6 : (0 ≤ x3) ∧ ((x3 + 1) ≤ (wide_0 * tall_0))) (f7 : BB2 (wide_0) (tall_0) (barredPoint_0) (costOf_0) (x6) (x7) (x9)) (f8 : (0 ≤ x6) ∧ ((x6 + 1) ≤ (wide_0 * tall_0))) (f9 : (x5 + x9) ≤ 1000000) (f10 : 0 ≤ x5) (f11 : x6 ≠ x3) (f12 : BB3 (wide_0) (tall_0) (barredPoint_0) (costOf_0) (x6) (x7) (x9) (x10) (x11) (x12)) (f13 : (0 ≤ x9) ∧ (x9 ≤ x13)) (f14 : (-1) * x13 + 0 ≤ (-1)) (hK_0_140 : ∀ j : Int, 0 ≤ j → j < 24000 → 0 ≤ costOf_0 j ∧ costOf_0 j ≤ 1000000) (hK_0_143 : ∀ j : Int, 0 ≤ j → j < 6000 → 0 ≤ barredPoint_0 j ∧ barredPoint_0 j ≤ 1) (kz_0_146 : (-3999999) ≤ wide_0 ∧ wide_0 ≤ 600000023) (kz_0_147 : (-3999999) ≤ tall_0 ∧ tall_0 ≤ 600000007) (ex2 : gx = (-1) + (1 * x13 + 0)) (ex3 : (-2) ≤ gx ∧ gx ≤ 1000000) : (0 ≤ x3) ∧ ((x3 + 1) ≤ (wide_0 * tall_0)) := by
  first
    | omega
    | (have h := bb2_start (t := x13) ‹RTV _ _ _ _ _› ‹BB1 _ _ _ _ _ _ _ _› (by omega) ‹STQ _ _ _ _ _ _› (by omega)
       have h1 := h.1
       have h2 := h.2.2.2.2
       omega)
    | (have h := bb_next ‹RTV _ _ _ _ _› ‹BB2 _ _ _ _ _ _ _› ‹BB3 _ _ _ _ _ _ _ _ _ _› (by omega) (by omega)
       have h1 := h.1.1
       have h2 := h.2
       omega)
set_option maxHeartbeats 4000000 in
theorem vc_Mo_bendsBecome_8_3 (x3 : Int) (x5 : Int) (x6 : Int) (x7 : Int) (x9 : Int) (x10 : Int) (x11 : Int) (x12 : Int) (x13 : Int) (x14 : Int) (barredPoint_0 : Int → Int) (wide_0 : Int) (tall_0 : Int) (costOf_0 : Int → Int) (gx : Int) (k3 : 0 ≤ x3 ∧ x3 ≤ 5999) (k5 : 0 ≤ x5 ∧ x5 ≤ 2147483647) (k6 : 0 ≤ x6 ∧ x6 ≤ 5999) (k7 : 0 ≤ x7 ∧ x7 ≤ 3) (k9 : 0 ≤ x9 ∧ x9 ≤ 1000000) (k10 : 0 ≤ x10 ∧ x10 ≤ 3) (k11 : 0 ≤ x11 ∧ x11 ≤ 999999) (k12 : (-1) ≤ x12 ∧ x12 ≤ (-1)) (k13 : (-2) ≤ x13 ∧ x13 ≤ 1000000) (k14 : 0 ≤ x14 ∧ x14 ≤ 5999) (d0 : x7 + 0 ≤ x10 ∧ x10 ≤ x7 + 0) (d1 : x9 + (-4294967296) ≤ x10 ∧ x10 ≤ x9 + 2) (d2 : x9 + (-4294967296) ≤ x11 ∧ x11 ≤ x9 + 0) (f0 : STQ (wide_0) (tall_0) (barredPoint_0) (x6) (x10) (x14)) (f1 : ((-1) ≤ x14) ∧ ((x14 + 1) ≤ (wide_0 * tall_0))) (f2 : x10 = x7) (f3 : x12 < 0) (f4 : GRX (wide_0) (tall_0)) (f5 : RTV (wide_0) (tall_0) (barredPoint_0) (costOf_0) (x3)) (f6 : (0 ≤ x3) ∧ ((x3 + 1) ≤ (wide_0 * tall_0))) (f7 : BB2 (wide_0) (tall_0) (barredPoint_0) (costOf_0) (x6) (x7) (x9)) (f8 : (0 ≤ x6) ∧ ((x6 + 1) ≤ (wide_0 * tall_0))) (f9 : (x5 + x9) ≤ 1000000) (f10 : 0 ≤ x5) (f11 : x6 ≠ x3) (f12 : BB3 (wide_0) (tall_0) (barredPoint_0) (costOf_0) (x6) (x7) (x9) (x10) (x11) (x12)) (f13 : (0 ≤ x9) ∧ (x9 ≤ x13)) (f14 : (-1) * x13 + 0 ≤ (-1)) (hK_0_140 : ∀ j : Int, 0 ≤ j → j < 24000 → 0 ≤ costOf_0 j ∧ costOf_0 j ≤ 1000000) (hK_0_143 : ∀ j : Int, 0 ≤ j → j < 6000 → 0 ≤ barredPoint_0 j ∧ barredPoint_0 j ≤ 1) (kz_0_146 : (-3999999) ≤ wide_0 ∧ wide_0 ≤ 600000023) (kz_0_147 : (-3999999) ≤ tall_0 ∧ tall_0 ≤ 600000007) (ex2 : gx = (-1) + (1 * x13 + 0)) (ex3 : (-2) ≤ gx ∧ gx ≤ 1000000) : BB2 (wide_0) (tall_0) (barredPoint_0) (costOf_0) (x14) (x10) (x11) := by
  first
    | exact bb2_start ‹RTV _ _ _ _ _› ‹BB1 _ _ _ _ _ _ _ _› (by omega) ‹STQ _ _ _ _ _ _› (by omega)
    | exact bb2_next ‹RTV _ _ _ _ _› ‹BB2 _ _ _ _ _ _ _› ‹BB3 _ _ _ _ _ _ _ _ _ _› (by omega) (by omega) ‹STQ _ _ _ _ _ _›
  
set_option maxHeartbeats 4000000 in
theorem vc_Mo_bendsBecome_8_4 (x3 : Int) (x5 : Int) (x6 : Int) (x7 : Int) (x9 : Int) (x10 : Int) (x11 : Int) (x12 : Int) (x13 : Int) (x14 : Int) (barredPoint_0 : Int → Int) (wide_0 : Int) (tall_0 : Int) (costOf_0 : Int → Int) (gx : Int) (k3 : 0 ≤ x3 ∧ x3 ≤ 5999) (k5 : 0 ≤ x5 ∧ x5 ≤ 2147483647) (k6 : 0 ≤ x6 ∧ x6 ≤ 5999) (k7 : 0 ≤ x7 ∧ x7 ≤ 3) (k9 : 0 ≤ x9 ∧ x9 ≤ 1000000) (k10 : 0 ≤ x10 ∧ x10 ≤ 3) (k11 : 0 ≤ x11 ∧ x11 ≤ 999999) (k12 : (-1) ≤ x12 ∧ x12 ≤ (-1)) (k13 : (-2) ≤ x13 ∧ x13 ≤ 1000000) (k14 : 0 ≤ x14 ∧ x14 ≤ 5999) (d0 : x7 + 0 ≤ x10 ∧ x10 ≤ x7 + 0) (d1 : x9 + (-4294967296) ≤ x10 ∧ x10 ≤ x9 + 2) (d2 : x9 + (-4294967296) ≤ x11 ∧ x11 ≤ x9 + 0) (f0 : STQ (wide_0) (tall_0) (barredPoint_0) (x6) (x10) (x14)) (f1 : ((-1) ≤ x14) ∧ ((x14 + 1) ≤ (wide_0 * tall_0))) (f2 : x10 = x7) (f3 : x12 < 0) (f4 : GRX (wide_0) (tall_0)) (f5 : RTV (wide_0) (tall_0) (barredPoint_0) (costOf_0) (x3)) (f6 : (0 ≤ x3) ∧ ((x3 + 1) ≤ (wide_0 * tall_0))) (f7 : BB2 (wide_0) (tall_0) (barredPoint_0) (costOf_0) (x6) (x7) (x9)) (f8 : (0 ≤ x6) ∧ ((x6 + 1) ≤ (wide_0 * tall_0))) (f9 : (x5 + x9) ≤ 1000000) (f10 : 0 ≤ x5) (f11 : x6 ≠ x3) (f12 : BB3 (wide_0) (tall_0) (barredPoint_0) (costOf_0) (x6) (x7) (x9) (x10) (x11) (x12)) (f13 : (0 ≤ x9) ∧ (x9 ≤ x13)) (f14 : (-1) * x13 + 0 ≤ (-1)) (hK_0_140 : ∀ j : Int, 0 ≤ j → j < 24000 → 0 ≤ costOf_0 j ∧ costOf_0 j ≤ 1000000) (hK_0_143 : ∀ j : Int, 0 ≤ j → j < 6000 → 0 ≤ barredPoint_0 j ∧ barredPoint_0 j ≤ 1) (kz_0_146 : (-3999999) ≤ wide_0 ∧ wide_0 ≤ 600000023) (kz_0_147 : (-3999999) ≤ tall_0 ∧ tall_0 ≤ 600000007) (ex2 : gx = (-1) + (1 * x13 + 0)) (ex3 : (-2) ≤ gx ∧ gx ≤ 1000000) : (0 ≤ x14) ∧ ((x14 + 1) ≤ (wide_0 * tall_0)) := by
  first
    | omega
    | (have h := bb2_start (t := x13) ‹RTV _ _ _ _ _› ‹BB1 _ _ _ _ _ _ _ _› (by omega) ‹STQ _ _ _ _ _ _› (by omega)
       have h1 := h.1
       have h2 := h.2.2.2.2
       omega)
    | (have h := bb_next ‹RTV _ _ _ _ _› ‹BB2 _ _ _ _ _ _ _› ‹BB3 _ _ _ _ _ _ _ _ _ _› (by omega) (by omega)
       have h1 := h.1.1
       have h2 := h.2
       omega)
set_option maxHeartbeats 4000000 in
theorem vc_Mo_bendsBecome_8_5 (x3 : Int) (x5 : Int) (x6 : Int) (x7 : Int) (x9 : Int) (x10 : Int) (x11 : Int) (x12 : Int) (x13 : Int) (x14 : Int) (barredPoint_0 : Int → Int) (wide_0 : Int) (tall_0 : Int) (costOf_0 : Int → Int) (gx : Int) (k3 : 0 ≤ x3 ∧ x3 ≤ 5999) (k5 : 0 ≤ x5 ∧ x5 ≤ 2147483647) (k6 : 0 ≤ x6 ∧ x6 ≤ 5999) (k7 : 0 ≤ x7 ∧ x7 ≤ 3) (k9 : 0 ≤ x9 ∧ x9 ≤ 1000000) (k10 : 0 ≤ x10 ∧ x10 ≤ 3) (k11 : 0 ≤ x11 ∧ x11 ≤ 999999) (k12 : (-1) ≤ x12 ∧ x12 ≤ (-1)) (k13 : (-2) ≤ x13 ∧ x13 ≤ 1000000) (k14 : 0 ≤ x14 ∧ x14 ≤ 5999) (d0 : x7 + 0 ≤ x10 ∧ x10 ≤ x7 + 0) (d1 : x9 + (-4294967296) ≤ x10 ∧ x10 ≤ x9 + 2) (d2 : x9 + (-4294967296) ≤ x11 ∧ x11 ≤ x9 + 0) (f0 : STQ (wide_0) (tall_0) (barredPoint_0) (x6) (x10) (x14)) (f1 : ((-1) ≤ x14) ∧ ((x14 + 1) ≤ (wide_0 * tall_0))) (f2 : x10 = x7) (f3 : x12 < 0) (f4 : GRX (wide_0) (tall_0)) (f5 : RTV (wide_0) (tall_0) (barredPoint_0) (costOf_0) (x3)) (f6 : (0 ≤ x3) ∧ ((x3 + 1) ≤ (wide_0 * tall_0))) (f7 : BB2 (wide_0) (tall_0) (barredPoint_0) (costOf_0) (x6) (x7) (x9)) (f8 : (0 ≤ x6) ∧ ((x6 + 1) ≤ (wide_0 * tall_0))) (f9 : (x5 + x9) ≤ 1000000) (f10 : 0 ≤ x5) (f11 : x6 ≠ x3) (f12 : BB3 (wide_0) (tall_0) (barredPoint_0) (costOf_0) (x6) (x7) (x9) (x10) (x11) (x12)) (f13 : (0 ≤ x9) ∧ (x9 ≤ x13)) (f14 : (-1) * x13 + 0 ≤ (-1)) (hK_0_140 : ∀ j : Int, 0 ≤ j → j < 24000 → 0 ≤ costOf_0 j ∧ costOf_0 j ≤ 1000000) (hK_0_143 : ∀ j : Int, 0 ≤ j → j < 6000 → 0 ≤ barredPoint_0 j ∧ barredPoint_0 j ≤ 1) (kz_0_146 : (-3999999) ≤ wide_0 ∧ wide_0 ≤ 600000023) (kz_0_147 : (-3999999) ≤ tall_0 ∧ tall_0 ≤ 600000007) (ex2 : gx = (-1) + (1 * x13 + 0)) (ex3 : (-2) ≤ gx ∧ gx ≤ 1000000) : (x5 + x11) ≤ 1000000 := by
  first
    | omega
    | (have h := bb2_start (t := x13) ‹RTV _ _ _ _ _› ‹BB1 _ _ _ _ _ _ _ _› (by omega) ‹STQ _ _ _ _ _ _› (by omega)
       have h1 := h.1
       have h2 := h.2.2.2.2
       omega)
    | (have h := bb_next ‹RTV _ _ _ _ _› ‹BB2 _ _ _ _ _ _ _› ‹BB3 _ _ _ _ _ _ _ _ _ _› (by omega) (by omega)
       have h1 := h.1.1
       have h2 := h.2
       omega)
set_option maxHeartbeats 4000000 in
theorem vc_Mo_bendsBecome_8_6 (x3 : Int) (x5 : Int) (x6 : Int) (x7 : Int) (x9 : Int) (x10 : Int) (x11 : Int) (x12 : Int) (x13 : Int) (x14 : Int) (barredPoint_0 : Int → Int) (wide_0 : Int) (tall_0 : Int) (costOf_0 : Int → Int) (gx : Int) (k3 : 0 ≤ x3 ∧ x3 ≤ 5999) (k5 : 0 ≤ x5 ∧ x5 ≤ 2147483647) (k6 : 0 ≤ x6 ∧ x6 ≤ 5999) (k7 : 0 ≤ x7 ∧ x7 ≤ 3) (k9 : 0 ≤ x9 ∧ x9 ≤ 1000000) (k10 : 0 ≤ x10 ∧ x10 ≤ 3) (k11 : 0 ≤ x11 ∧ x11 ≤ 999999) (k12 : (-1) ≤ x12 ∧ x12 ≤ (-1)) (k13 : (-2) ≤ x13 ∧ x13 ≤ 1000000) (k14 : 0 ≤ x14 ∧ x14 ≤ 5999) (d0 : x7 + 0 ≤ x10 ∧ x10 ≤ x7 + 0) (d1 : x9 + (-4294967296) ≤ x10 ∧ x10 ≤ x9 + 2) (d2 : x9 + (-4294967296) ≤ x11 ∧ x11 ≤ x9 + 0) (f0 : STQ (wide_0) (tall_0) (barredPoint_0) (x6) (x10) (x14)) (f1 : ((-1) ≤ x14) ∧ ((x14 + 1) ≤ (wide_0 * tall_0))) (f2 : x10 = x7) (f3 : x12 < 0) (f4 : GRX (wide_0) (tall_0)) (f5 : RTV (wide_0) (tall_0) (barredPoint_0) (costOf_0) (x3)) (f6 : (0 ≤ x3) ∧ ((x3 + 1) ≤ (wide_0 * tall_0))) (f7 : BB2 (wide_0) (tall_0) (barredPoint_0) (costOf_0) (x6) (x7) (x9)) (f8 : (0 ≤ x6) ∧ ((x6 + 1) ≤ (wide_0 * tall_0))) (f9 : (x5 + x9) ≤ 1000000) (f10 : 0 ≤ x5) (f11 : x6 ≠ x3) (f12 : BB3 (wide_0) (tall_0) (barredPoint_0) (costOf_0) (x6) (x7) (x9) (x10) (x11) (x12)) (f13 : (0 ≤ x9) ∧ (x9 ≤ x13)) (f14 : (-1) * x13 + 0 ≤ (-1)) (hK_0_140 : ∀ j : Int, 0 ≤ j → j < 24000 → 0 ≤ costOf_0 j ∧ costOf_0 j ≤ 1000000) (hK_0_143 : ∀ j : Int, 0 ≤ j → j < 6000 → 0 ≤ barredPoint_0 j ∧ barredPoint_0 j ≤ 1) (kz_0_146 : (-3999999) ≤ wide_0 ∧ wide_0 ≤ 600000023) (kz_0_147 : (-3999999) ≤ tall_0 ∧ tall_0 ≤ 600000007) (ex2 : gx = (-1) + (1 * x13 + 0)) (ex3 : (-2) ≤ gx ∧ gx ≤ 1000000) : 0 ≤ x5 := by
  first
    | omega
    | (have h := bb2_start (t := x13) ‹RTV _ _ _ _ _› ‹BB1 _ _ _ _ _ _ _ _› (by omega) ‹STQ _ _ _ _ _ _› (by omega)
       have h1 := h.1
       have h2 := h.2.2.2.2
       omega)
    | (have h := bb_next ‹RTV _ _ _ _ _› ‹BB2 _ _ _ _ _ _ _› ‹BB3 _ _ _ _ _ _ _ _ _ _› (by omega) (by omega)
       have h1 := h.1.1
       have h2 := h.2
       omega)
set_option maxHeartbeats 4000000 in
theorem vc_Mo_bendsBecome_8_7 (x3 : Int) (x5 : Int) (x6 : Int) (x7 : Int) (x9 : Int) (x10 : Int) (x11 : Int) (x12 : Int) (x13 : Int) (x14 : Int) (barredPoint_0 : Int → Int) (wide_0 : Int) (tall_0 : Int) (costOf_0 : Int → Int) (gx : Int) (k3 : 0 ≤ x3 ∧ x3 ≤ 5999) (k5 : 0 ≤ x5 ∧ x5 ≤ 2147483647) (k6 : 0 ≤ x6 ∧ x6 ≤ 5999) (k7 : 0 ≤ x7 ∧ x7 ≤ 3) (k9 : 0 ≤ x9 ∧ x9 ≤ 1000000) (k10 : 0 ≤ x10 ∧ x10 ≤ 3) (k11 : 0 ≤ x11 ∧ x11 ≤ 999999) (k12 : (-1) ≤ x12 ∧ x12 ≤ (-1)) (k13 : (-2) ≤ x13 ∧ x13 ≤ 1000000) (k14 : 0 ≤ x14 ∧ x14 ≤ 5999) (d0 : x7 + 0 ≤ x10 ∧ x10 ≤ x7 + 0) (d1 : x9 + (-4294967296) ≤ x10 ∧ x10 ≤ x9 + 2) (d2 : x9 + (-4294967296) ≤ x11 ∧ x11 ≤ x9 + 0) (f0 : STQ (wide_0) (tall_0) (barredPoint_0) (x6) (x10) (x14)) (f1 : ((-1) ≤ x14) ∧ ((x14 + 1) ≤ (wide_0 * tall_0))) (f2 : x10 = x7) (f3 : x12 < 0) (f4 : GRX (wide_0) (tall_0)) (f5 : RTV (wide_0) (tall_0) (barredPoint_0) (costOf_0) (x3)) (f6 : (0 ≤ x3) ∧ ((x3 + 1) ≤ (wide_0 * tall_0))) (f7 : BB2 (wide_0) (tall_0) (barredPoint_0) (costOf_0) (x6) (x7) (x9)) (f8 : (0 ≤ x6) ∧ ((x6 + 1) ≤ (wide_0 * tall_0))) (f9 : (x5 + x9) ≤ 1000000) (f10 : 0 ≤ x5) (f11 : x6 ≠ x3) (f12 : BB3 (wide_0) (tall_0) (barredPoint_0) (costOf_0) (x6) (x7) (x9) (x10) (x11) (x12)) (f13 : (0 ≤ x9) ∧ (x9 ≤ x13)) (f14 : (-1) * x13 + 0 ≤ (-1)) (hK_0_140 : ∀ j : Int, 0 ≤ j → j < 24000 → 0 ≤ costOf_0 j ∧ costOf_0 j ≤ 1000000) (hK_0_143 : ∀ j : Int, 0 ≤ j → j < 6000 → 0 ≤ barredPoint_0 j ∧ barredPoint_0 j ≤ 1) (kz_0_146 : (-3999999) ≤ wide_0 ∧ wide_0 ≤ 600000023) (kz_0_147 : (-3999999) ≤ tall_0 ∧ tall_0 ≤ 600000007) (ex2 : gx = (-1) + (1 * x13 + 0)) (ex3 : (-2) ≤ gx ∧ gx ≤ 1000000) : (0 ≤ x11) ∧ (x11 ≤ gx) := by
  first
    | omega
    | (have h := bb2_start (t := x13) ‹RTV _ _ _ _ _› ‹BB1 _ _ _ _ _ _ _ _› (by omega) ‹STQ _ _ _ _ _ _› (by omega)
       have h1 := h.1
       have h2 := h.2.2.2.2
       omega)
    | (have h := bb_next ‹RTV _ _ _ _ _› ‹BB2 _ _ _ _ _ _ _› ‹BB3 _ _ _ _ _ _ _ _ _ _› (by omega) (by omega)
       have h1 := h.1.1
       have h2 := h.2
       omega)
def o_Mo_bendsBecome_8 : or_T := (112, 15, [(0, (2, 0, 0, [165])), (3, (0, 0, 5999, [])), (5, (0, 0, 2147483647, [])), (6, (0, 0, 5999, [])), (7, (0, 0, 3, [])), (9, (0, 0, 1000000, [])), (10, (0, 0, 3, [])), (11, (0, 0, 999999, [])), (12, (0, -1, -1, [])), (13, (0, -2, 1000000, [])), (14, (0, 0, 5999, []))], [(20, [0, 6, 10, 14], [60, 2, 1, 505, 146, 147, 143]), (20, [14, 0], [50, 2, 0, 1146, 1147, 2, 6, 0, 2, 0, -1, 1, 0, 0, 6, 4, 2, 1, 0, 0, 1, 6, 3, 2, 1, 146, 2, 1, 147]), (7, [10, 7], [0]), (8, [12], [2]), (20, [0], [60, 2, 0, 494, 146, 147]), (20, [0, 3], [60, 2, 2, 504, 146, 147, 143, 140]), (20, [3, 0], [50, 2, 0, 1146, 1147, 2, 6, 0, 2, 0, 0, 1, 0, 0, 6, 4, 2, 1, 0, 0, 1, 6, 3, 2, 1, 146, 2, 1, 147]), (20, [0, 6, 7, 9], [60, 2, 2, 507, 146, 147, 143, 140]), (20, [6, 0], [50, 2, 0, 1146, 1147, 2, 6, 0, 2, 0, 0, 1, 0, 0, 6, 4, 2, 1, 0, 0, 1, 6, 3, 2, 1, 146, 2, 1, 147]), (20, [5, 9], [50, 0, 0, 0, 6, 4, 2, 1, 0, 1, 1, 0, 1000000]), (20, [5], [50, 0, 0, 0, 2, 0, 0, 1, 0]), (20, [6, 3], [50, 0, 0, 7, 2, 1, 0, 1, 1]), (20, [0, 6, 7, 9, 10, 11, 12], [60, 2, 2, 508, 146, 147, 143, 140]), (20, [9, 13], [50, 0, 0, 2, 6, 0, 2, 0, 0, 1, 0, 0, 2, 1, 0, 1, 1]), (23, [13], [-1, -1])], [], [(0, -2, 1000000, [])], [(20, [0], [60, 2, 0, 494, 146, 147]), (20, [0, 3], [60, 2, 2, 504, 146, 147, 143, 140]), (20, [3, 0], [50, 2, 0, 1146, 1147, 2, 6, 0, 2, 0, 0, 1, 0, 0, 6, 4, 2, 1, 0, 0, 1, 6, 3, 2, 1, 146, 2, 1, 147]), (20, [0, 14, 10, 11], [60, 2, 2, 507, 146, 147, 143, 140]), (20, [14, 0], [50, 2, 0, 1146, 1147, 2, 6, 0, 2, 0, 0, 1, 0, 0, 6, 4, 2, 1, 0, 0, 1, 6, 3, 2, 1, 146, 2, 1, 147]), (20, [5, 11], [50, 0, 0, 0, 6, 4, 2, 1, 0, 1, 1, 0, 1000000]), (20, [5], [50, 0, 0, 0, 2, 0, 0, 1, 0]), (20, [11, 15], [50, 0, 0, 2, 6, 0, 2, 0, 0, 1, 0, 0, 2, 1, 0, 1, 1])], [(15, 13, -1000000000000, -1)], [(10, 7, 0, 0), (10, 9, -4294967296, 2), (11, 9, -4294967296, 0)])
theorem oo_Mo_bendsBecome_8 {kA : Nat → ClassId} : or_ok PRD kA GG o_Mo_bendsBecome_8 := by
  refine or_mk fun A ta ws vs hD hth hl => ?_
  intro t0 r0 t3 k3 t5 k5 t6 k6 t7 k7 t9 k9 t10 k10 t11 k11 t12 k12 t13 k13 t14 k14 d0 d1 d2 f0 f1 f2 f3 f4 f5 f6 f7 f8 f9 f10 f11 f12 f13 f14
  replace f0 := shm_1257 f0
  replace f1 := shm_1258 f1
  replace f2 := shm_37 f2
  replace f3 := shm_39 f3
  replace f4 := shm_1255 f4
  replace f5 := shm_1376 f5
  replace f6 := shm_1256 f6
  replace f7 := shm_1378 f7
  replace f8 := shm_1256 f8
  replace f9 := shm_1379 f9
  replace f10 := shm_709 f10
  replace f11 := shm_419 f11
  replace f12 := shm_1380 f12
  replace f13 := shm_384 f13
  replace f14 := shm_614 f14
  have cr_0_140 := fdq_174 hD hth r0
  have cr_0_143 := fdq_177 hD hth r0
  have hK_0_140 := elq_101 hD hth cr_0_140
  have hK_0_143 := elq_104 hD hth cr_0_143
  have kz_0_146 := fdq_178 hD hth r0
  have kz_0_147 := fdq_179 hD hth r0
  obtain ⟨x, ex, hx⟩ := iv_ex (ta := ta) (lo := (-2)) (hi := 1000000) (z := (-1) + (1 * v_iv (n_v vs 13) + 0)) (by omega) (by omega) (by omega) (by omega)
  have ex2 : v_iv (Value.int x) = (-1) + (1 * v_iv (n_v vs 13) + 0) := ex
  have ex3 : (-2) ≤ v_iv (Value.int x) ∧ v_iv (Value.int x) ≤ 1000000 := tv_rng hx
  have e_0 : n_v (vs ++ [Value.int x]) 0 = n_v vs 0 := n_v_old (by rw [hl]; decide)
  have e_3 : n_v (vs ++ [Value.int x]) 3 = n_v vs 3 := n_v_old (by rw [hl]; decide)
  have e_5 : n_v (vs ++ [Value.int x]) 5 = n_v vs 5 := n_v_old (by rw [hl]; decide)
  have e_10 : n_v (vs ++ [Value.int x]) 10 = n_v vs 10 := n_v_old (by rw [hl]; decide)
  have e_11 : n_v (vs ++ [Value.int x]) 11 = n_v vs 11 := n_v_old (by rw [hl]; decide)
  have e_14 : n_v (vs ++ [Value.int x]) 14 = n_v vs 14 := n_v_old (by rw [hl]; decide)
  have e_15 : n_v (vs ++ [Value.int x]) 15 = Value.int x := n_v_new hl
  have nf0 : fc_1 PRD (20, [0], [60, 2, 0, 494, 146, 147]) ws (vs ++ [Value.int x]) := by
    refine ⟨nf_inA hl rfl, sgq_1255 ?_⟩
    · show GRX (w_fi ws (n_v (vs ++ [Value.int x]) 0) 146) (w_fi ws (n_v (vs ++ [Value.int x]) 0) 147)
      rw [e_0]
      exact vc_Mo_bendsBecome_8_0 (v_iv (n_v vs 3)) (v_iv (n_v vs 5)) (v_iv (n_v vs 6)) (v_iv (n_v vs 7)) (v_iv (n_v vs 9)) (v_iv (n_v vs 10)) (v_iv (n_v vs 11)) (v_iv (n_v vs 12)) (v_iv (n_v vs 13)) (v_iv (n_v vs 14)) (w_ei ws (w_ar ws (n_v vs 0) 143)) (w_fi ws (n_v vs 0) 146) (w_fi ws (n_v vs 0) 147) (w_ei ws (w_ar ws (n_v vs 0) 140)) (v_iv (Value.int x)) k3 k5 k6 k7 k9 k10 k11 k12 k13 k14 d0 d1 d2 f0 f1 f2 f3 f4 f5 f6 f7 f8 f9 f10 f11 f12 f13 f14 hK_0_140 hK_0_143 kz_0_146 kz_0_147 ex2 ex3
  have nf1 : fc_1 PRD (20, [0, 3], [60, 2, 2, 504, 146, 147, 143, 140]) ws (vs ++ [Value.int x]) := by
    refine ⟨nf_inA hl rfl, sgq_1376 ?_⟩
    · show RTV (w_fi ws (n_v (vs ++ [Value.int x]) 0) 146) (w_fi ws (n_v (vs ++ [Value.int x]) 0) 147) (w_ei ws (w_ar ws (n_v (vs ++ [Value.int x]) 0) 143)) (w_ei ws (w_ar ws (n_v (vs ++ [Value.int x]) 0) 140)) (v_iv (n_v (vs ++ [Value.int x]) 3))
      simp only [e_0, e_3]
      exact vc_Mo_bendsBecome_8_1 (v_iv (n_v vs 3)) (v_iv (n_v vs 5)) (v_iv (n_v vs 6)) (v_iv (n_v vs 7)) (v_iv (n_v vs 9)) (v_iv (n_v vs 10)) (v_iv (n_v vs 11)) (v_iv (n_v vs 12)) (v_iv (n_v vs 13)) (v_iv (n_v vs 14)) (w_ei ws (w_ar ws (n_v vs 0) 143)) (w_fi ws (n_v vs 0) 146) (w_fi ws (n_v vs 0) 147) (w_ei ws (w_ar ws (n_v vs 0) 140)) (v_iv (Value.int x)) k3 k5 k6 k7 k9 k10 k11 k12 k13 k14 d0 d1 d2 f0 f1 f2 f3 f4 f5 f6 f7 f8 f9 f10 f11 f12 f13 f14 hK_0_140 hK_0_143 kz_0_146 kz_0_147 ex2 ex3
  have nf2 : fc_1 PRD (20, [3, 0], [50, 2, 0, 1146, 1147, 2, 6, 0, 2, 0, 0, 1, 0, 0, 6, 4, 2, 1, 0, 0, 1, 6, 3, 2, 1, 146, 2, 1, 147]) ws (vs ++ [Value.int x]) := by
    refine ⟨nf_inA hl rfl, sgq_1256 ?_⟩
    · show (0 ≤ v_iv (n_v (vs ++ [Value.int x]) 3)) ∧ ((v_iv (n_v (vs ++ [Value.int x]) 3) + 1) ≤ (w_fi ws (n_v (vs ++ [Value.int x]) 0) 146 * w_fi ws (n_v (vs ++ [Value.int x]) 0) 147))
      simp only [e_0, e_3]
      exact vc_Mo_bendsBecome_8_2 (v_iv (n_v vs 3)) (v_iv (n_v vs 5)) (v_iv (n_v vs 6)) (v_iv (n_v vs 7)) (v_iv (n_v vs 9)) (v_iv (n_v vs 10)) (v_iv (n_v vs 11)) (v_iv (n_v vs 12)) (v_iv (n_v vs 13)) (v_iv (n_v vs 14)) (w_ei ws (w_ar ws (n_v vs 0) 143)) (w_fi ws (n_v vs 0) 146) (w_fi ws (n_v vs 0) 147) (w_ei ws (w_ar ws (n_v vs 0) 140)) (v_iv (Value.int x)) k3 k5 k6 k7 k9 k10 k11 k12 k13 k14 d0 d1 d2 f0 f1 f2 f3 f4 f5 f6 f7 f8 f9 f10 f11 f12 f13 f14 hK_0_140 hK_0_143 kz_0_146 kz_0_147 ex2 ex3
  have nf3 : fc_1 PRD (20, [0, 14, 10, 11], [60, 2, 2, 507, 146, 147, 143, 140]) ws (vs ++ [Value.int x]) := by
    refine ⟨nf_inA hl rfl, sgq_1378 ?_⟩
    · show BB2 (w_fi ws (n_v (vs ++ [Value.int x]) 0) 146) (w_fi ws (n_v (vs ++ [Value.int x]) 0) 147) (w_ei ws (w_ar ws (n_v (vs ++ [Value.int x]) 0) 143)) (w_ei ws (w_ar ws (n_v (vs ++ [Value.int x]) 0) 140)) (v_iv (n_v (vs ++ [Value.int x]) 14)) (v_iv (n_v (vs ++ [Value.int x]) 10)) (v_iv (n_v (vs ++ [Value.int x]) 11))
      simp only [e_0, e_10, e_11, e_14]
      exact vc_Mo_bendsBecome_8_3 (v_iv (n_v vs 3)) (v_iv (n_v vs 5)) (v_iv (n_v vs 6)) (v_iv (n_v vs 7)) (v_iv (n_v vs 9)) (v_iv (n_v vs 10)) (v_iv (n_v vs 11)) (v_iv (n_v vs 12)) (v_iv (n_v vs 13)) (v_iv (n_v vs 14)) (w_ei ws (w_ar ws (n_v vs 0) 143)) (w_fi ws (n_v vs 0) 146) (w_fi ws (n_v vs 0) 147) (w_ei ws (w_ar ws (n_v vs 0) 140)) (v_iv (Value.int x)) k3 k5 k6 k7 k9 k10 k11 k12 k13 k14 d0 d1 d2 f0 f1 f2 f3 f4 f5 f6 f7 f8 f9 f10 f11 f12 f13 f14 hK_0_140 hK_0_143 kz_0_146 kz_0_147 ex2 ex3
  have nf4 : fc_1 PRD (20, [14, 0], [50, 2, 0, 1146, 1147, 2, 6, 0, 2, 0, 0, 1, 0, 0, 6, 4, 2, 1, 0, 0, 1, 6, 3, 2, 1, 146, 2, 1, 147]) ws (vs ++ [Value.int x]) := by
    refine ⟨nf_inA hl rfl, sgq_1256 ?_⟩
    · show (0 ≤ v_iv (n_v (vs ++ [Value.int x]) 14)) ∧ ((v_iv (n_v (vs ++ [Value.int x]) 14) + 1) ≤ (w_fi ws (n_v (vs ++ [Value.int x]) 0) 146 * w_fi ws (n_v (vs ++ [Value.int x]) 0) 147))
      simp only [e_0, e_14]
      exact vc_Mo_bendsBecome_8_4 (v_iv (n_v vs 3)) (v_iv (n_v vs 5)) (v_iv (n_v vs 6)) (v_iv (n_v vs 7)) (v_iv (n_v vs 9)) (v_iv (n_v vs 10)) (v_iv (n_v vs 11)) (v_iv (n_v vs 12)) (v_iv (n_v vs 13)) (v_iv (n_v vs 14)) (w_ei ws (w_ar ws (n_v vs 0) 143)) (w_fi ws (n_v vs 0) 146) (w_fi ws (n_v vs 0) 147) (w_ei ws (w_ar ws (n_v vs 0) 140)) (v_iv (Value.int x)) k3 k5 k6 k7 k9 k10 k11 k12 k13 k14 d0 d1 d2 f0 f1 f2 f3 f4 f5 f6 f7 f8 f9 f10 f11 f12 f13 f14 hK_0_140 hK_0_143 kz_0_146 kz_0_147 ex2 ex3
  have nf5 : fc_1 PRD (20, [5, 11], [50, 0, 0, 0, 6, 4, 2, 1, 0, 1, 1, 0, 1000000]) ws (vs ++ [Value.int x]) := by
    refine ⟨nf_inA hl rfl, sgq_1379 ?_⟩
    · show (v_iv (n_v (vs ++ [Value.int x]) 5) + v_iv (n_v (vs ++ [Value.int x]) 11)) ≤ 1000000
      simp only [e_5, e_11]
      exact vc_Mo_bendsBecome_8_5 (v_iv (n_v vs 3)) (v_iv (n_v vs 5)) (v_iv (n_v vs 6)) (v_iv (n_v vs 7)) (v_iv (n_v vs 9)) (v_iv (n_v vs 10)) (v_iv (n_v vs 11)) (v_iv (n_v vs 12)) (v_iv (n_v vs 13)) (v_iv (n_v vs 14)) (w_ei ws (w_ar ws (n_v vs 0) 143)) (w_fi ws (n_v vs 0) 146) (w_fi ws (n_v vs 0) 147) (w_ei ws (w_ar ws (n_v vs 0) 140)) (v_iv (Value.int x)) k3 k5 k6 k7 k9 k10 k11 k12 k13 k14 d0 d1 d2 f0 f1 f2 f3 f4 f5 f6 f7 f8 f9 f10 f11 f12 f13 f14 hK_0_140 hK_0_143 kz_0_146 kz_0_147 ex2 ex3
  have nf6 : fc_1 PRD (20, [5], [50, 0, 0, 0, 2, 0, 0, 1, 0]) ws (vs ++ [Value.int x]) := by
    refine ⟨nf_inA hl rfl, sgq_709 ?_⟩
    · show 0 ≤ v_iv (n_v (vs ++ [Value.int x]) 5)
      rw [e_5]
      exact vc_Mo_bendsBecome_8_6 (v_iv (n_v vs 3)) (v_iv (n_v vs 5)) (v_iv (n_v vs 6)) (v_iv (n_v vs 7)) (v_iv (n_v vs 9)) (v_iv (n_v vs 10)) (v_iv (n_v vs 11)) (v_iv (n_v vs 12)) (v_iv (n_v vs 13)) (v_iv (n_v vs 14)) (w_ei ws (w_ar ws (n_v vs 0) 143)) (w_fi ws (n_v vs 0) 146) (w_fi ws (n_v vs 0) 147) (w_ei ws (w_ar ws (n_v vs 0) 140)) (v_iv (Value.int x)) k3 k5 k6 k7 k9 k10 k11 k12 k13 k14 d0 d1 d2 f0 f1 f2 f3 f4 f5 f6 f7 f8 f9 f10 f11 f12 f13 f14 hK_0_140 hK_0_143 kz_0_146 kz_0_147 ex2 ex3
  have nf7 : fc_1 PRD (20, [11, 15], [50, 0, 0, 2, 6, 0, 2, 0, 0, 1, 0, 0, 2, 1, 0, 1, 1]) ws (vs ++ [Value.int x]) := by
    refine ⟨nf_inA hl rfl, sgq_384 ?_⟩
    · show (0 ≤ v_iv (n_v (vs ++ [Value.int x]) 11)) ∧ (v_iv (n_v (vs ++ [Value.int x]) 11) ≤ v_iv (n_v (vs ++ [Value.int x]) 15))
      simp only [e_11, e_15]
      exact vc_Mo_bendsBecome_8_7 (v_iv (n_v vs 3)) (v_iv (n_v vs 5)) (v_iv (n_v vs 6)) (v_iv (n_v vs 7)) (v_iv (n_v vs 9)) (v_iv (n_v vs 10)) (v_iv (n_v vs 11)) (v_iv (n_v vs 12)) (v_iv (n_v vs 13)) (v_iv (n_v vs 14)) (w_ei ws (w_ar ws (n_v vs 0) 143)) (w_fi ws (n_v vs 0) 146) (w_fi ws (n_v vs 0) 147) (w_ei ws (w_ar ws (n_v vs 0) 140)) (v_iv (Value.int x)) k3 k5 k6 k7 k9 k10 k11 k12 k13 k14 d0 d1 d2 f0 f1 f2 f3 f4 f5 f6 f7 f8 f9 f10 f11 f12 f13 f14 hK_0_140 hK_0_143 kz_0_146 kz_0_147 ex2 ex3
  obtain ⟨x0, e0, _, _⟩ := tv_int t13 rfl
  have e1 : v_iv (n_v vs 13) = x0.toInt := by rw [e0]; rfl
  have ho : sy_ofs (vs ++ [Value.int x]) (15, 13, -1000000000000, -1) := by
    refine ⟨x, x0, by rw [List.getElem?_append_right (by rw [hl]; decide), hl]; rfl, ?_, ?_, ?_⟩
    · rw [List.getElem?_append_left (by rw [hl]; decide)]; exact n_v_some (by rw [hl]; decide) e0
    · show x0.toInt + (-1000000000000) ≤ x.toInt; omega
    · show x.toInt ≤ x0.toInt + (-1); omega
  exact ⟨(fun _ h => (by cases h)), [Value.int x], ag_one hx, List.forall_mem_cons.mpr ⟨⟨show (20 : Nat) < 100 from by decide, nf0⟩, List.forall_mem_cons.mpr ⟨⟨show (20 : Nat) < 100 from by decide, nf1⟩, List.forall_mem_cons.mpr ⟨⟨show (20 : Nat) < 100 from by decide, nf2⟩, List.forall_mem_cons.mpr ⟨⟨show (20 : Nat) < 100 from by decide, nf3⟩, List.forall_mem_cons.mpr ⟨⟨show (20 : Nat) < 100 from by decide, nf4⟩, List.forall_mem_cons.mpr ⟨⟨show (20 : Nat) < 100 from by decide, nf5⟩, List.forall_mem_cons.mpr ⟨⟨show (20 : Nat) < 100 from by decide, nf6⟩, List.forall_mem_cons.mpr ⟨⟨show (20 : Nat) < 100 from by decide, nf7⟩, (fun _ h => (by cases h))⟩⟩⟩⟩⟩⟩⟩⟩, List.forall_mem_cons.mpr ⟨ho, (fun _ h => (by cases h))⟩⟩
set_option maxHeartbeats 4000000 in
theorem vc_Mo_bendsBecome_9_r0 (x3 : Int) (x5 : Int) (x6 : Int) (x7 : Int) (x9 : Int) (x10 : Int) (x11 : Int) (x12 : Int) (x13 : Int) (x14 : Int) (wide_0 : Int) (tall_0 : Int) (barredPoint_0 : Int → Int) (costOf_0 : Int → Int) (k3 : 0 ≤ x3 ∧ x3 ≤ 5999) (k5 : 25 ≤ x5 ∧ x5 ≤ 2147483647) (k6 : 0 ≤ x6 ∧ x6 ≤ 5999) (k7 : 0 ≤ x7 ∧ x7 ≤ 3) (k9 : 0 ≤ x9 ∧ x9 ≤ 1000000) (k10 : (-1) ≤ x10 ∧ x10 ≤ 3) (k11 : 0 ≤ x11 ∧ x11 ≤ 999999) (k12 : (-1) ≤ x12 ∧ x12 ≤ (-1)) (k13 : (-2) ≤ x13 ∧ x13 ≤ 1000000) (k14 : 25 ≤ x14 ∧ x14 ≤ 25) (d0 : x9 + (-4294967296) ≤ x10 ∧ x10 ≤ x9 + 2) (d1 : x9 + (-4294967296) ≤ x11 ∧ x11 ≤ x9 + 0) (f0 : x14 ≤ x5) (f1 : x10 ≠ x7) (f2 : x12 < 0) (f3 : GRX (wide_0) (tall_0)) (f4 : RTV (wide_0) (tall_0) (barredPoint_0) (costOf_0) (x3)) (f5 : (0 ≤ x3) ∧ ((x3 + 1) ≤ (wide_0 * tall_0))) (f6 : BB2 (wide_0) (tall_0) (barredPoint_0) (costOf_0) (x6) (x7) (x9)) (f7 : (0 ≤ x6) ∧ ((x6 + 1) ≤ (wide_0 * tall_0))) (f8 : (x5 + x9) ≤ 1000000) (f9 : 0 ≤ x5) (f10 : x6 ≠ x3) (f11 : BB3 (wide_0) (tall_0) (barredPoint_0) (costOf_0) (x6) (x7) (x9) (x10) (x11) (x12)) (f12 : (0 ≤ x9) ∧ (x9 ≤ x13)) (f13 : (-1) * x13 + 0 ≤ (-1)) (hK_0_140 : ∀ j : Int, 0 ≤ j → j < 24000 → 0 ≤ costOf_0 j ∧ costOf_0 j ≤ 1000000) (hK_0_143 : ∀ j : Int, 0 ≤ j → j < 6000 → 0 ≤ barredPoint_0 j ∧ barredPoint_0 j ≤ 1) (kz_0_146 : (-3999999) ≤ wide_0 ∧ wide_0 ≤ 600000023) (kz_0_147 : (-3999999) ≤ tall_0 ∧ tall_0 ≤ 600000007) : 25 ≤ x5 ∧ x5 ≤ 999999 := by
  first
    | omega
    | (have g := gok_bd ‹GRX _ _›; omega)
    | (have h := bb_next ‹RTV _ _ _ _ _› ‹BB2 _ _ _ _ _ _ _› ‹BB3 _ _ _ _ _ _ _ _ _ _› (by omega) (by omega)
       have h1 := h.1.1
       have h2 := h.2
       omega)
    | (obtain ⟨⟨mf, q, n1, n2, n3, n4⟩, u0, u1⟩ := bb_next ‹RTV _ _ _ _ _› ‹BB2 _ _ _ _ _ _ _› ‹BB3 _ _ _ _ _ _ _ _ _ _› (by omega) (by omega)
       have e := ‹STQ _ _ _ _ _ _›.2.2 q n1 n2
       have i := nb_in n1 (by have g := gok_bd ‹GRX _ _›; omega)
       have g3 := ‹GRX _ _›.2.2
       omega)
def o_Mo_bendsBecome_9 : or_T := (253, 15, [(0, (2, 0, 0, [165])), (3, (0, 0, 5999, [])), (5, (0, 25, 2147483647, [])), (6, (0, 0, 5999, [])), (7, (0, 0, 3, [])), (9, (0, 0, 1000000, [])), (10, (0, -1, 3, [])), (11, (0, 0, 999999, [])), (12, (0, -1, -1, [])), (13, (0, -2, 1000000, [])), (14, (0, 25, 25, []))], [(7, [5, 14], [3]), (7, [10, 7], [1]), (8, [12], [2]), (20, [0], [60, 2, 0, 494, 146, 147]), (20, [0, 3], [60, 2, 2, 504, 146, 147, 143, 140]), (20, [3, 0], [50, 2, 0, 1146, 1147, 2, 6, 0, 2, 0, 0, 1, 0, 0, 6, 4, 2, 1, 0, 0, 1, 6, 3, 2, 1, 146, 2, 1, 147]), (20, [0, 6, 7, 9], [60, 2, 2, 507, 146, 147, 143, 140]), (20, [6, 0], [50, 2, 0, 1146, 1147, 2, 6, 0, 2, 0, 0, 1, 0, 0, 6, 4, 2, 1, 0, 0, 1, 6, 3, 2, 1, 146, 2, 1, 147]), (20, [5, 9], [50, 0, 0, 0, 6, 4, 2, 1, 0, 1, 1, 0, 1000000]), (20, [5], [50, 0, 0, 0, 2, 0, 0, 1, 0]), (20, [6, 3], [50, 0, 0, 7, 2, 1, 0, 1, 1]), (20, [0, 6, 7, 9, 10, 11, 12], [60, 2, 2, 508, 146, 147, 143, 140]), (20, [9, 13], [50, 0, 0, 2, 6, 0, 2, 0, 0, 1, 0, 0, 2, 1, 0, 1, 1]), (23, [13], [-1, -1])], [(5, (0, 25, 999999, []))], [], [], [], [(10, 9, -4294967296, 2), (11, 9, -4294967296, 0)])
theorem oo_Mo_bendsBecome_9 {kA : Nat → ClassId} : or_ok PRD kA GG o_Mo_bendsBecome_9 := by
  refine or_mk fun A ta ws vs hD hth hl => ?_
  intro t0 r0 t3 k3 t5 k5 t6 k6 t7 k7 t9 k9 t10 k10 t11 k11 t12 k12 t13 k13 t14 k14 d0 d1 f0 f1 f2 f3 f4 f5 f6 f7 f8 f9 f10 f11 f12 f13
  have cr_0_140 := fdq_174 hD hth r0
  have cr_0_143 := fdq_177 hD hth r0
  have hK_0_140 := elq_101 hD hth cr_0_140
  have hK_0_143 := elq_104 hD hth cr_0_143
  have kz_0_146 := fdq_178 hD hth r0
  have kz_0_147 := fdq_179 hD hth r0
  have hrf0 : 25 ≤ v_iv (n_v vs 5) ∧ v_iv (n_v vs 5) ≤ 999999 := vc_Mo_bendsBecome_9_r0 (v_iv (n_v vs 3)) (v_iv (n_v vs 5)) (v_iv (n_v vs 6)) (v_iv (n_v vs 7)) (v_iv (n_v vs 9)) (v_iv (n_v vs 10)) (v_iv (n_v vs 11)) (v_iv (n_v vs 12)) (v_iv (n_v vs 13)) (v_iv (n_v vs 14)) (w_fi ws (n_v vs 0) 146) (w_fi ws (n_v vs 0) 147) (w_ei ws (w_ar ws (n_v vs 0) 143)) (w_ei ws (w_ar ws (n_v vs 0) 140)) k3 k5 k6 k7 k9 k10 k11 k12 k13 k14 d0 d1 (shm_2 f0) (shm_40 f1) (shm_39 f2) (shm_1255 f3) (shm_1376 f4) (shm_1256 f5) (shm_1378 f6) (shm_1256 f7) (shm_1379 f8) (shm_709 f9) (shm_419 f10) (shm_1380 f11) (shm_384 f12) (shm_614 f13) hK_0_140 hK_0_143 kz_0_146 kz_0_147
  have rf5 : tv_ok ta (0, 25, 999999, []) (n_v vs 5) := tv_in t5 (by first | omega | grind) (by first | omega | grind)
  refine ⟨List.forall_mem_cons.mpr ⟨rf5, (fun _ h => (by cases h))⟩, [], trivial, ?_, (fun _ h => (by cases h))⟩
  rw [List.append_nil]
  exact (fun _ h => (by cases h))
set_option maxHeartbeats 4000000 in
theorem vc_Mo_bendsBecome_10_r0 (x3 : Int) (x5 : Int) (x6 : Int) (x7 : Int) (x9 : Int) (x10 : Int) (x11 : Int) (x12 : Int) (x13 : Int) (x14 : Int) (x15 : Int) (wide_0 : Int) (tall_0 : Int) (barredPoint_0 : Int → Int) (costOf_0 : Int → Int) (k3 : 0 ≤ x3 ∧ x3 ≤ 5999) (k5 : 25 ≤ x5 ∧ x5 ≤ 999999) (k6 : 0 ≤ x6 ∧ x6 ≤ 5999) (k7 : 0 ≤ x7 ∧ x7 ≤ 3) (k9 : 0 ≤ x9 ∧ x9 ≤ 1000000) (k10 : (-1) ≤ x10 ∧ x10 ≤ 3) (k11 : 0 ≤ x11 ∧ x11 ≤ 999999) (k12 : (-1) ≤ x12 ∧ x12 ≤ (-1)) (k13 : (-2) ≤ x13 ∧ x13 ≤ 1000000) (k14 : 25 ≤ x14 ∧ x14 ≤ 25) (k15 : 26 ≤ x15 ∧ x15 ≤ 1000000) (d0 : x5 + 1 ≤ x15 ∧ x15 ≤ x5 + 1) (d1 : x9 + (-4294967296) ≤ x10 ∧ x10 ≤ x9 + 2) (d2 : x9 + (-4294967296) ≤ x11 ∧ x11 ≤ x9 + 0) (f0 : x15 = x5 + 1) (f1 : x14 ≤ x5) (f2 : x10 ≠ x7) (f3 : x12 < 0) (f4 : GRX (wide_0) (tall_0)) (f5 : RTV (wide_0) (tall_0) (barredPoint_0) (costOf_0) (x3)) (f6 : (0 ≤ x3) ∧ ((x3 + 1) ≤ (wide_0 * tall_0))) (f7 : BB2 (wide_0) (tall_0) (barredPoint_0) (costOf_0) (x6) (x7) (x9)) (f8 : (0 ≤ x6) ∧ ((x6 + 1) ≤ (wide_0 * tall_0))) (f9 : (x5 + x9) ≤ 1000000) (f10 : 0 ≤ x5) (f11 : x6 ≠ x3) (f12 : BB3 (wide_0) (tall_0) (barredPoint_0) (costOf_0) (x6) (x7) (x9) (x10) (x11) (x12)) (f13 : (0 ≤ x9) ∧ (x9 ≤ x13)) (f14 : (-1) * x13 + 0 ≤ (-1)) (hK_0_140 : ∀ j : Int, 0 ≤ j → j < 24000 → 0 ≤ costOf_0 j ∧ costOf_0 j ≤ 1000000) (hK_0_143 : ∀ j : Int, 0 ≤ j → j < 6000 → 0 ≤ barredPoint_0 j ∧ barredPoint_0 j ≤ 1) (kz_0_146 : (-3999999) ≤ wide_0 ∧ wide_0 ≤ 600000023) (kz_0_147 : (-3999999) ≤ tall_0 ∧ tall_0 ≤ 600000007) : 0 ≤ x10 ∧ x10 ≤ 3 := by
  first
    | omega
    | (have g := gok_bd ‹GRX _ _›; omega)
    | (have h := bb_next ‹RTV _ _ _ _ _› ‹BB2 _ _ _ _ _ _ _› ‹BB3 _ _ _ _ _ _ _ _ _ _› (by omega) (by omega)
       have h1 := h.1.1
       have h2 := h.2
       omega)
    | (obtain ⟨⟨mf, q, n1, n2, n3, n4⟩, u0, u1⟩ := bb_next ‹RTV _ _ _ _ _› ‹BB2 _ _ _ _ _ _ _› ‹BB3 _ _ _ _ _ _ _ _ _ _› (by omega) (by omega)
       have e := ‹STQ _ _ _ _ _ _›.2.2 q n1 n2
       have i := nb_in n1 (by have g := gok_bd ‹GRX _ _›; omega)
       have g3 := ‹GRX _ _›.2.2
       omega)
def o_Mo_bendsBecome_10 : or_T := (258, 16, [(0, (2, 0, 0, [165])), (3, (0, 0, 5999, [])), (5, (0, 25, 999999, [])), (6, (0, 0, 5999, [])), (7, (0, 0, 3, [])), (9, (0, 0, 1000000, [])), (10, (0, -1, 3, [])), (11, (0, 0, 999999, [])), (12, (0, -1, -1, [])), (13, (0, -2, 1000000, [])), (14, (0, 25, 25, [])), (15, (0, 26, 1000000, []))], [(6, [15, 5], [1]), (7, [5, 14], [3]), (7, [10, 7], [1]), (8, [12], [2]), (20, [0], [60, 2, 0, 494, 146, 147]), (20, [0, 3], [60, 2, 2, 504, 146, 147, 143, 140]), (20, [3, 0], [50, 2, 0, 1146, 1147, 2, 6, 0, 2, 0, 0, 1, 0, 0, 6, 4, 2, 1, 0, 0, 1, 6, 3, 2, 1, 146, 2, 1, 147]), (20, [0, 6, 7, 9], [60, 2, 2, 507, 146, 147, 143, 140]), (20, [6, 0], [50, 2, 0, 1146, 1147, 2, 6, 0, 2, 0, 0, 1, 0, 0, 6, 4, 2, 1, 0, 0, 1, 6, 3, 2, 1, 146, 2, 1, 147]), (20, [5, 9], [50, 0, 0, 0, 6, 4, 2, 1, 0, 1, 1, 0, 1000000]), (20, [5], [50, 0, 0, 0, 2, 0, 0, 1, 0]), (20, [6, 3], [50, 0, 0, 7, 2, 1, 0, 1, 1]), (20, [0, 6, 7, 9, 10, 11, 12], [60, 2, 2, 508, 146, 147, 143, 140]), (20, [9, 13], [50, 0, 0, 2, 6, 0, 2, 0, 0, 1, 0, 0, 2, 1, 0, 1, 1]), (23, [13], [-1, -1])], [(10, (0, 0, 3, []))], [], [], [], [(15, 5, 1, 1), (10, 9, -4294967296, 2), (11, 9, -4294967296, 0)])
theorem oo_Mo_bendsBecome_10 {kA : Nat → ClassId} : or_ok PRD kA GG o_Mo_bendsBecome_10 := by
  refine or_mk fun A ta ws vs hD hth hl => ?_
  intro t0 r0 t3 k3 t5 k5 t6 k6 t7 k7 t9 k9 t10 k10 t11 k11 t12 k12 t13 k13 t14 k14 t15 k15 d0 d1 d2 f0 f1 f2 f3 f4 f5 f6 f7 f8 f9 f10 f11 f12 f13 f14
  have cr_0_140 := fdq_174 hD hth r0
  have cr_0_143 := fdq_177 hD hth r0
  have hK_0_140 := elq_101 hD hth cr_0_140
  have hK_0_143 := elq_104 hD hth cr_0_143
  have kz_0_146 := fdq_178 hD hth r0
  have kz_0_147 := fdq_179 hD hth r0
  have hrf0 : 0 ≤ v_iv (n_v vs 10) ∧ v_iv (n_v vs 10) ≤ 3 := vc_Mo_bendsBecome_10_r0 (v_iv (n_v vs 3)) (v_iv (n_v vs 5)) (v_iv (n_v vs 6)) (v_iv (n_v vs 7)) (v_iv (n_v vs 9)) (v_iv (n_v vs 10)) (v_iv (n_v vs 11)) (v_iv (n_v vs 12)) (v_iv (n_v vs 13)) (v_iv (n_v vs 14)) (v_iv (n_v vs 15)) (w_fi ws (n_v vs 0) 146) (w_fi ws (n_v vs 0) 147) (w_ei ws (w_ar ws (n_v vs 0) 143)) (w_ei ws (w_ar ws (n_v vs 0) 140)) k3 k5 k6 k7 k9 k10 k11 k12 k13 k14 k15 d0 d1 d2 (shm_4 f0) (shm_2 f1) (shm_40 f2) (shm_39 f3) (shm_1255 f4) (shm_1376 f5) (shm_1256 f6) (shm_1378 f7) (shm_1256 f8) (shm_1379 f9) (shm_709 f10) (shm_419 f11) (shm_1380 f12) (shm_384 f13) (shm_614 f14) hK_0_140 hK_0_143 kz_0_146 kz_0_147
  have rf10 : tv_ok ta (0, 0, 3, []) (n_v vs 10) := tv_in t10 (by first | omega | grind) (by first | omega | grind)
  refine ⟨List.forall_mem_cons.mpr ⟨rf10, (fun _ h => (by cases h))⟩, [], trivial, ?_, (fun _ h => (by cases h))⟩
  rw [List.append_nil]
  exact (fun _ h => (by cases h))
set_option maxHeartbeats 4000000 in
theorem vc_Mo_bendsBecome_11_r0 (x3 : Int) (x5 : Int) (x6 : Int) (x7 : Int) (x9 : Int) (x10 : Int) (x11 : Int) (x12 : Int) (x13 : Int) (x14 : Int) (x15 : Int) (x16 : Int) (barredPoint_0 : Int → Int) (wide_0 : Int) (tall_0 : Int) (costOf_0 : Int → Int) (k3 : 0 ≤ x3 ∧ x3 ≤ 5999) (k5 : 25 ≤ x5 ∧ x5 ≤ 999999) (k6 : 0 ≤ x6 ∧ x6 ≤ 5999) (k7 : 0 ≤ x7 ∧ x7 ≤ 3) (k9 : 0 ≤ x9 ∧ x9 ≤ 1000000) (k10 : 0 ≤ x10 ∧ x10 ≤ 3) (k11 : 0 ≤ x11 ∧ x11 ≤ 999999) (k12 : (-1) ≤ x12 ∧ x12 ≤ (-1)) (k13 : (-2) ≤ x13 ∧ x13 ≤ 1000000) (k14 : 25 ≤ x14 ∧ x14 ≤ 25) (k15 : 26 ≤ x15 ∧ x15 ≤ 1000000) (k16 : (-1) ≤ x16 ∧ x16 ≤ 5999) (d0 : x5 + 1 ≤ x15 ∧ x15 ≤ x5 + 1) (d1 : x9 + (-4294967296) ≤ x10 ∧ x10 ≤ x9 + 2) (d2 : x9 + (-4294967296) ≤ x11 ∧ x11 ≤ x9 + 0) (f0 : STQ (wide_0) (tall_0) (barredPoint_0) (x6) (x10) (x16)) (f1 : ((-1) ≤ x16) ∧ ((x16 + 1) ≤ (wide_0 * tall_0))) (f2 : x15 = x5 + 1) (f3 : x14 ≤ x5) (f4 : x10 ≠ x7) (f5 : x12 < 0) (f6 : GRX (wide_0) (tall_0)) (f7 : RTV (wide_0) (tall_0) (barredPoint_0) (costOf_0) (x3)) (f8 : (0 ≤ x3) ∧ ((x3 + 1) ≤ (wide_0 * tall_0))) (f9 : BB2 (wide_0) (tall_0) (barredPoint_0) (costOf_0) (x6) (x7) (x9)) (f10 : (0 ≤ x6) ∧ ((x6 + 1) ≤ (wide_0 * tall_0))) (f11 : (x5 + x9) ≤ 1000000) (f12 : 0 ≤ x5) (f13 : x6 ≠ x3) (f14 : BB3 (wide_0) (tall_0) (barredPoint_0) (costOf_0) (x6) (x7) (x9) (x10) (x11) (x12)) (f15 : (0 ≤ x9) ∧ (x9 ≤ x13)) (f16 : (-1) * x13 + 0 ≤ (-1)) (hK_0_140 : ∀ j : Int, 0 ≤ j → j < 24000 → 0 ≤ costOf_0 j ∧ costOf_0 j ≤ 1000000) (hK_0_143 : ∀ j : Int, 0 ≤ j → j < 6000 → 0 ≤ barredPoint_0 j ∧ barredPoint_0 j ≤ 1) (kz_0_146 : (-3999999) ≤ wide_0 ∧ wide_0 ≤ 600000023) (kz_0_147 : (-3999999) ≤ tall_0 ∧ tall_0 ≤ 600000007) : 0 ≤ x16 ∧ x16 ≤ 5999 := by
  first
    | omega
    | (have g := gok_bd ‹GRX _ _›; omega)
    | (have h := bb_next ‹RTV _ _ _ _ _› ‹BB2 _ _ _ _ _ _ _› ‹BB3 _ _ _ _ _ _ _ _ _ _› (by omega) (by omega)
       have h1 := h.1.1
       have h2 := h.2
       omega)
    | (obtain ⟨⟨mf, q, n1, n2, n3, n4⟩, u0, u1⟩ := bb_next ‹RTV _ _ _ _ _› ‹BB2 _ _ _ _ _ _ _› ‹BB3 _ _ _ _ _ _ _ _ _ _› (by omega) (by omega)
       have e := ‹STQ _ _ _ _ _ _›.2.2 q n1 n2
       have i := nb_in n1 (by have g := gok_bd ‹GRX _ _›; omega)
       have g3 := ‹GRX _ _›.2.2
       omega)
def o_Mo_bendsBecome_11 : or_T := (272, 17, [(0, (2, 0, 0, [165])), (3, (0, 0, 5999, [])), (5, (0, 25, 999999, [])), (6, (0, 0, 5999, [])), (7, (0, 0, 3, [])), (9, (0, 0, 1000000, [])), (10, (0, 0, 3, [])), (11, (0, 0, 999999, [])), (12, (0, -1, -1, [])), (13, (0, -2, 1000000, [])), (14, (0, 25, 25, [])), (15, (0, 26, 1000000, [])), (16, (0, -1, 5999, []))], [(20, [0, 6, 10, 16], [60, 2, 1, 505, 146, 147, 143]), (20, [16, 0], [50, 2, 0, 1146, 1147, 2, 6, 0, 2, 0, -1, 1, 0, 0, 6, 4, 2, 1, 0, 0, 1, 6, 3, 2, 1, 146, 2, 1, 147]), (6, [15, 5], [1]), (7, [5, 14], [3]), (7, [10, 7], [1]), (8, [12], [2]), (20, [0], [60, 2, 0, 494, 146, 147]), (20, [0, 3], [60, 2, 2, 504, 146, 147, 143, 140]), (20, [3, 0], [50, 2, 0, 1146, 1147, 2, 6, 0, 2, 0, 0, 1, 0, 0, 6, 4, 2, 1, 0, 0, 1, 6, 3, 2, 1, 146, 2, 1, 147]), (20, [0, 6, 7, 9], [60, 2, 2, 507, 146, 147, 143, 140]), (20, [6, 0], [50, 2, 0, 1146, 1147, 2, 6, 0, 2, 0, 0, 1, 0, 0, 6, 4, 2, 1, 0, 0, 1, 6, 3, 2, 1, 146, 2, 1, 147]), (20, [5, 9], [50, 0, 0, 0, 6, 4, 2, 1, 0, 1, 1, 0, 1000000]), (20, [5], [50, 0, 0, 0, 2, 0, 0, 1, 0]), (20, [6, 3], [50, 0, 0, 7, 2, 1, 0, 1, 1]), (20, [0, 6, 7, 9, 10, 11, 12], [60, 2, 2, 508, 146, 147, 143, 140]), (20, [9, 13], [50, 0, 0, 2, 6, 0, 2, 0, 0, 1, 0, 0, 2, 1, 0, 1, 1]), (23, [13], [-1, -1])], [(16, (0, 0, 5999, []))], [], [], [], [(15, 5, 1, 1), (10, 9, -4294967296, 2), (11, 9, -4294967296, 0)])
theorem oo_Mo_bendsBecome_11 {kA : Nat → ClassId} : or_ok PRD kA GG o_Mo_bendsBecome_11 := by
  refine or_mk fun A ta ws vs hD hth hl => ?_
  intro t0 r0 t3 k3 t5 k5 t6 k6 t7 k7 t9 k9 t10 k10 t11 k11 t12 k12 t13 k13 t14 k14 t15 k15 t16 k16 d0 d1 d2 f0 f1 f2 f3 f4 f5 f6 f7 f8 f9 f10 f11 f12 f13 f14 f15 f16
  have cr_0_140 := fdq_174 hD hth r0
  have cr_0_143 := fdq_177 hD hth r0
  have hK_0_140 := elq_101 hD hth cr_0_140
  have hK_0_143 := elq_104 hD hth cr_0_143
  have kz_0_146 := fdq_178 hD hth r0
  have kz_0_147 := fdq_179 hD hth r0
  have hrf0 : 0 ≤ v_iv (n_v vs 16) ∧ v_iv (n_v vs 16) ≤ 5999 := vc_Mo_bendsBecome_11_r0 (v_iv (n_v vs 3)) (v_iv (n_v vs 5)) (v_iv (n_v vs 6)) (v_iv (n_v vs 7)) (v_iv (n_v vs 9)) (v_iv (n_v vs 10)) (v_iv (n_v vs 11)) (v_iv (n_v vs 12)) (v_iv (n_v vs 13)) (v_iv (n_v vs 14)) (v_iv (n_v vs 15)) (v_iv (n_v vs 16)) (w_ei ws (w_ar ws (n_v vs 0) 143)) (w_fi ws (n_v vs 0) 146) (w_fi ws (n_v vs 0) 147) (w_ei ws (w_ar ws (n_v vs 0) 140)) k3 k5 k6 k7 k9 k10 k11 k12 k13 k14 k15 k16 d0 d1 d2 (shm_1257 f0) (shm_1258 f1) (shm_4 f2) (shm_2 f3) (shm_40 f4) (shm_39 f5) (shm_1255 f6) (shm_1376 f7) (shm_1256 f8) (shm_1378 f9) (shm_1256 f10) (shm_1379 f11) (shm_709 f12) (shm_419 f13) (shm_1380 f14) (shm_384 f15) (shm_614 f16) hK_0_140 hK_0_143 kz_0_146 kz_0_147
  have rf16 : tv_ok ta (0, 0, 5999, []) (n_v vs 16) := tv_in t16 (by first | omega | grind) (by first | omega | grind)
  refine ⟨List.forall_mem_cons.mpr ⟨rf16, (fun _ h => (by cases h))⟩, [], trivial, ?_, (fun _ h => (by cases h))⟩
  rw [List.append_nil]
  exact (fun _ h => (by cases h))
set_option maxHeartbeats 4000000 in
theorem vc_Mo_bendsBecome_12_0 (x3 : Int) (x5 : Int) (x6 : Int) (x7 : Int) (x9 : Int) (x10 : Int) (x11 : Int) (x12 : Int) (x13 : Int) (x14 : Int) (x15 : Int) (x16 : Int) (barredPoint_0 : Int → Int) (wide_0 : Int) (tall_0 : Int) (costOf_0 : Int → Int) (gx : Int) (k3 : 0 ≤ x3 ∧ x3 ≤ 5999) (k5 : 25 ≤ x5 ∧ x5 ≤ 999999) (k6 : 0 ≤ x6 ∧ x6 ≤ 5999) (k7 : 0 ≤ x7 ∧ x7 ≤ 3) (k9 : 0 ≤ x9 ∧ x9 ≤ 1000000) (k10 : 0 ≤ x10 ∧ x10 ≤ 3) (k11 : 0 ≤ x11 ∧ x11 ≤ 999999) (k12 : (-1) ≤ x12 ∧ x12 ≤ (-1)) (k13 : (-2) ≤ x13 ∧ x13 ≤ 1000000) (k14 : 25 ≤ x14 ∧ x14 ≤ 25) (k15 : 26 ≤ x15 ∧ x15 ≤ 1000000) (k16 : 0 ≤ x16 ∧ x16 ≤ 5999) (d0 : x5 + 1 ≤ x15 ∧ x15 ≤ x5 + 1) (d1 : x9 + (-4294967296) ≤ x10 ∧ x10 ≤ x9 + 2) (d2 : x9 + (-4294967296) ≤ x11 ∧ x11 ≤ x9 + 0) (f0 : STQ (wide_0) (tall_0) (barredPoint_0) (x6) (x10) (x16)) (f1 : ((-1) ≤ x16) ∧ ((x16 + 1) ≤ (wide_0 * tall_0))) (f2 : x15 = x5 + 1) (f3 : x14 ≤ x5) (f4 : x10 ≠ x7) (f5 : x12 < 0) (f6 : GRX (wide_0) (tall_0)) (f7 : RTV (wide_0) (tall_0) (barredPoint_0) (costOf_0) (x3)) (f8 : (0 ≤ x3) ∧ ((x3 + 1) ≤ (wide_0 * tall_0))) (f9 : BB2 (wide_0) (tall_0) (barredPoint_0) (costOf_0) (x6) (x7) (x9)) (f10 : (0 ≤ x6) ∧ ((x6 + 1) ≤ (wide_0 * tall_0))) (f11 : (x5 + x9) ≤ 1000000) (f12 : 0 ≤ x5) (f13 : x6 ≠ x3) (f14 : BB3 (wide_0) (tall_0) (barredPoint_0) (costOf_0) (x6) (x7) (x9) (x10) (x11) (x12)) (f15 : (0 ≤ x9) ∧ (x9 ≤ x13)) (f16 : (-1) * x13 + 0 ≤ (-1)) (hK_0_140 : ∀ j : Int, 0 ≤ j → j < 24000 → 0 ≤ costOf_0 j ∧ costOf_0 j ≤ 1000000) (hK_0_143 : ∀ j : Int, 0 ≤ j → j < 6000 → 0 ≤ barredPoint_0 j ∧ barredPoint_0 j ≤ 1) (kz_0_146 : (-3999999) ≤ wide_0 ∧ wide_0 ≤ 600000023) (kz_0_147 : (-3999999) ≤ tall_0 ∧ tall_0 ≤ 600000007) (ex2 : gx = (-1) + (1 * x13 + 0)) (ex3 : (-2) ≤ gx ∧ gx ≤ 1000000) : GRX (wide_0) (tall_0) := by
  assumption
set_option maxHeartbeats 4000000 in
theorem vc_Mo_bendsBecome_12_1 (x3 : Int) (x5 : Int) (x6 : Int) (x7 : Int) (x9 : Int) (x10 : Int) (x11 : Int) (x12 : Int) (x13 : Int) (x14 : Int) (x15 : Int) (x16 : Int) (barredPoint_0 : Int → Int) (wide_0 : Int) (tall_0 : Int) (costOf_0 : Int → Int) (gx : Int) (k3 : 0 ≤ x3 ∧ x3 ≤ 5999) (k5 : 25 ≤ x5 ∧ x5 ≤ 999999) (k6 : 0 ≤ x6 ∧ x6 ≤ 5999) (k7 : 0 ≤ x7 ∧ x7 ≤ 3) (k9 : 0 ≤ x9 ∧ x9 ≤ 1000000) (k10 : 0 ≤ x10 ∧ x10 ≤ 3) (k11 : 0 ≤ x11 ∧ x11 ≤ 999999) (k12 : (-1) ≤ x12 ∧ x12 ≤ (-1)) (k13 : (-2) ≤ x13 ∧ x13 ≤ 1000000) (k14 : 25 ≤ x14 ∧ x14 ≤ 25) (k15 : 26 ≤ x15 ∧ x15 ≤ 1000000) (k16 : 0 ≤ x16 ∧ x16 ≤ 5999) (d0 : x5 + 1 ≤ x15 ∧ x15 ≤ x5 + 1) (d1 : x9 + (-4294967296) ≤ x10 ∧ x10 ≤ x9 + 2) (d2 : x9 + (-4294967296) ≤ x11 ∧ x11 ≤ x9 + 0) (f0 : STQ (wide_0) (tall_0) (barredPoint_0) (x6) (x10) (x16)) (f1 : ((-1) ≤ x16) ∧ ((x16 + 1) ≤ (wide_0 * tall_0))) (f2 : x15 = x5 + 1) (f3 : x14 ≤ x5) (f4 : x10 ≠ x7) (f5 : x12 < 0) (f6 : GRX (wide_0) (tall_0)) (f7 : RTV (wide_0) (tall_0) (barredPoint_0) (costOf_0) (x3)) (f8 : (0 ≤ x3) ∧ ((x3 + 1) ≤ (wide_0 * tall_0))) (f9 : BB2 (wide_0) (tall_0) (barredPoint_0) (costOf_0) (x6) (x7) (x9)) (f10 : (0 ≤ x6) ∧ ((x6 + 1) ≤ (wide_0 * tall_0))) (f11 : (x5 + x9) ≤ 1000000) (f12 : 0 ≤ x5) (f13 : x6 ≠ x3) (f14 : BB3 (wide_0) (tall_0) (barredPoint_0) (costOf_0) (x6) (x7) (x9) (x10) (x11) (x12)) (f15 : (0 ≤ x9) ∧ (x9 ≤ x13)) (f16 : (-1) * x13 + 0 ≤ (-1)) (hK_0_140 : ∀ j : Int, 0 ≤ j → j < 24000 → 0 ≤ costOf_0 j ∧ costOf_0 j ≤ 1000000) (hK_0_143 : ∀ j : Int, 0 ≤ j → j < 6000 → 0 ≤ barredPoint_0 j ∧ barredPoint_0 j ≤ 1) (kz_0_146 : (-3999999) ≤ wide_0 ∧ wide_0 ≤ 600000023) (kz_0_147 : (-3999999) ≤ tall_0 ∧ tall_0 ≤ 600000007) (ex2 : gx = (-1) + (1 * x13 + 0)) (ex3 : (-2) ≤ gx ∧ gx ≤ 1000000) : RTV (wide_0) (tall_0) (barredPoint_0) (costOf_0) (x3) := by
  assumption
set_option maxHeartbeats 4000000 in
theorem vc_Mo_bendsBecome_12_2 (x3 : Int) (x5 : Int) (x6 : Int) (x7 : Int) (x9 : Int) (x10 : Int) (x11 : Int) (x12 : Int) (x13 : Int) (x14 : Int) (x15 : Int) (x16 : Int) (barredPoint_0 : Int → Int) (wide_0 : Int) (tall_0 : Int) (costOf_0 : Int → Int) (gx : Int) (k3 : 0 ≤ x3 ∧ x3 ≤ 5999) (k5 : 25 ≤ x5 ∧ x5 ≤ 999999) (k6 : 0 ≤ x6 ∧ x6 ≤ 5999) (k7 : 0 ≤ x7 ∧ x7 ≤ 3) (k9 : 0 ≤ x9 ∧ x9 ≤ 1000000) (k10 : 0 ≤ x10 ∧ x10 ≤ 3) (k11 : 0 ≤ x11 ∧ x11 ≤ 999999) (k12 : (-1) ≤ x12 ∧ x12 ≤ (-1)) (k13 : (-2) ≤ x13 ∧ x13 ≤ 1000000) (k14 : 25 ≤ x14 ∧ x14 ≤ 25) (k15 : 26 ≤ x15 ∧ x15 ≤ 1000000) (k16 : 0 ≤ x16 ∧ x16 ≤ 5999) (d0 : x5 + 1 ≤ x15 ∧ x15 ≤ x5 + 1) (d1 : x9 + (-4294967296) ≤ x10 ∧ x10 ≤ x9 + 2) (d2 : x9 + (-4294967296) ≤ x11 ∧ x11 ≤ x9 + 0) (f0 : STQ (wide_0) (tall_0) (barredPoint_0) (x6) (x10) (x16)) (f1 : ((-1) ≤ x16) ∧ ((x16 + 1) ≤ (wide_0 * tall_0))) (f2 : x15 = x5 + 1) (f3 : x14 ≤ x5) (f4 : x10 ≠ x7) (f5 : x12 < 0) (f6 : GRX (wide_0) (tall_0)) (f7 : RTV (wide_0) (tall_0) (barredPoint_0) (costOf_0) (x3)) (f8 : (0 ≤ x3) ∧ ((x3 + 1) ≤ (wide_0 * tall_0))) (f9 : BB2 (wide_0) (tall_0) (barredPoint_0) (costOf_0) (x6) (x7) (x9)) (f10 : (0 ≤ x6) ∧ ((x6 + 1) ≤ (wide_0 * tall_0))) (f11 : (x5 + x9) ≤ 1000000) (f12 : 0 ≤ x5) (f13 : x6 ≠ x3) (f14 : BB3 (wide_0) (tall_0) (barredPoint_0) (costOf_0) (x6) (x7) (x9) (x10) (x11) (x12)) (f15 : (0 ≤ x9) ∧ (x9 ≤ x13)) (f16 : (-1) * x13 + 0 ≤ (-1)) (hK_0_140 : ∀ j : Int, 0 ≤ j → j < 24000 → 0 ≤ costOf_0 j ∧ costOf_0 j ≤ 1000000) (hK_0_143 : ∀ j : Int, 0 ≤ j → j < 6000 → 0 ≤ barredPoint_0 j ∧ barredPoint_0 j ≤ 1) (kz_0_146 : (-3999999) ≤ wide_0 ∧ wide_0 ≤ 600000023) (kz_0_147 : (-3999999) ≤ tall_0 ∧ tall_0 ≤ 600000007) (ex2 : gx = (-1) + (1 * x13 + 0)) (ex3 : (-2) ≤ gx ∧ gx ≤ 1000000) : (0 ≤ x3) ∧ ((x3 + 1) ≤ (wide_0 * tall_0)) := by
  first
    | omega
    | (have h := bb2_start (t := x13) ‹RTV _ _ _ _ _› ‹BB1 _ _ _ _ _ _ _ _› (by omega) ‹STQ _ _ _ _ _ _› (by omega)
       have h1 := h.1
       have h2 := h.2.2.2.2
       omega)
    | (have h := bb_next ‹RTV _ _ _ _ _› ‹BB2 _ _ _ _ _ _ _› ‹BB3 _ _ _ _ _ _ _ _ _ _› (by omega) (by omega)
       have h1 := h.1.1
       have h2 := h.2
       omega)
set_option maxHeartbeats 4000000 in
theorem vc_Mo_bendsBecome_12_3 (x3 : Int) (x5 : Int) (x6 : Int) (x7 : Int) (x9 : Int) (x10 : Int) (x11 : Int) (x12 : Int) (x13 : Int) (x14 : Int) (x15 : Int) (x16 : Int) (barredPoint_0 : Int → Int) (wide_0 : Int) (tall_0 : Int) (costOf_0 : Int → Int) (gx : Int) (k3 : 0 ≤ x3 ∧ x3 ≤ 5999) (k5 : 25 ≤ x5 ∧ x5 ≤ 999999) (k6 : 0 ≤ x6 ∧ x6 ≤ 5999) (k7 : 0 ≤ x7 ∧ x7 ≤ 3) (k9 : 0 ≤ x9 ∧ x9 ≤ 1000000) (k10 : 0 ≤ x10 ∧ x10 ≤ 3) (k11 : 0 ≤ x11 ∧ x11 ≤ 999999) (k12 : (-1) ≤ x12 ∧ x12 ≤ (-1)) (k13 : (-2) ≤ x13 ∧ x13 ≤ 1000000) (k14 : 25 ≤ x14 ∧ x14 ≤ 25) (k15 : 26 ≤ x15 ∧ x15 ≤ 1000000) (k16 : 0 ≤ x16 ∧ x16 ≤ 5999) (d0 : x5 + 1 ≤ x15 ∧ x15 ≤ x5 + 1) (d1 : x9 + (-4294967296) ≤ x10 ∧ x10 ≤ x9 + 2) (d2 : x9 + (-4294967296) ≤ x11 ∧ x11 ≤ x9 + 0) (f0 : STQ (wide_0) (tall_0) (barredPoint_0) (x6) (x10) (x16)) (f1 : ((-1) ≤ x16) ∧ ((x16 + 1) ≤ (wide_0 * tall_0))) (f2 : x15 = x5 + 1) (f3 : x14 ≤ x5) (f4 : x10 ≠ x7) (f5 : x12 < 0) (f6 : GRX (wide_0) (tall_0)) (f7 : RTV (wide_0) (tall_0) (barredPoint_0) (costOf_0) (x3)) (f8 : (0 ≤ x3) ∧ ((x3 + 1) ≤ (wide_0 * tall_0))) (f9 : BB2 (wide_0) (tall_0) (barredPoint_0) (costOf_0) (x6) (x7) (x9)) (f10 : (0 ≤ x6) ∧ ((x6 + 1) ≤ (wide_0 * tall_0))) (f11 : (x5 + x9) ≤ 1000000) (f12 : 0 ≤ x5) (f13 : x6 ≠ x3) (f14 : BB3 (wide_0) (tall_0) (barredPoint_0) (costOf_0) (x6) (x7) (x9) (x10) (x11) (x12)) (f15 : (0 ≤ x9) ∧ (x9 ≤ x13)) (f16 : (-1) * x13 + 0 ≤ (-1)) (hK_0_140 : ∀ j : Int, 0 ≤ j → j < 24000 → 0 ≤ costOf_0 j ∧ costOf_0 j ≤ 1000000) (hK_0_143 : ∀ j : Int, 0 ≤ j → j < 6000 → 0 ≤ barredPoint_0 j ∧ barredPoint_0 j ≤ 1) (kz_0_146 : (-3999999) ≤ wide_0 ∧ wide_0 ≤ 600000023) (kz_0_147 : (-3999999) ≤ tall_0 ∧ tall_0 ≤ 600000007) (ex2 : gx = (-1) + (1 * x13 + 0)) (ex3 : (-2) ≤ gx ∧ gx ≤ 1000000) : BB2 (wide_0) (tall_0) (barredPoint_0) (costOf_0) (x16) (x10) (x11) := by
  first
    | exact bb2_start ‹RTV _ _ _ _ _› ‹BB1 _ _ _ _ _ _ _ _› (by omega) ‹STQ _ _ _ _ _ _› (by omega)
    | exact bb2_next ‹RTV _ _ _ _ _› ‹BB2 _ _ _ _ _ _ _› ‹BB3 _ _ _ _ _ _ _ _ _ _› (by omega) (by omega) ‹STQ _ _ _ _ _ _›
  
set_option maxHeartbeats 4000000 in
theorem vc_Mo_bendsBecome_12_4 (x3 : Int) (x5 : Int) (x6 : Int) (x7 : Int) (x9 : Int) (x10 : Int) (x11 : Int) (x12 : Int) (x13 : Int) (x14 : Int) (x15 : Int) (x16 : Int) (barredPoint_0 : Int → Int) (wide_0 : Int) (tall_0 : Int) (costOf_0 : Int → Int) (gx : Int) (k3 : 0 ≤ x3 ∧ x3 ≤ 5999) (k5 : 25 ≤ x5 ∧ x5 ≤ 999999) (k6 : 0 ≤ x6 ∧ x6 ≤ 5999) (k7 : 0 ≤ x7 ∧ x7 ≤ 3) (k9 : 0 ≤ x9 ∧ x9 ≤ 1000000) (k10 : 0 ≤ x10 ∧ x10 ≤ 3) (k11 : 0 ≤ x11 ∧ x11 ≤ 999999) (k12 : (-1) ≤ x12 ∧ x12 ≤ (-1)) (k13 : (-2) ≤ x13 ∧ x13 ≤ 1000000) (k14 : 25 ≤ x14 ∧ x14 ≤ 25) (k15 : 26 ≤ x15 ∧ x15 ≤ 1000000) (k16 : 0 ≤ x16 ∧ x16 ≤ 5999) (d0 : x5 + 1 ≤ x15 ∧ x15 ≤ x5 + 1) (d1 : x9 + (-4294967296) ≤ x10 ∧ x10 ≤ x9 + 2) (d2 : x9 + (-4294967296) ≤ x11 ∧ x11 ≤ x9 + 0) (f0 : STQ (wide_0) (tall_0) (barredPoint_0) (x6) (x10) (x16)) (f1 : ((-1) ≤ x16) ∧ ((x16 + 1) ≤ (wide_0 * tall_0))) (f2 : x15 = x5 + 1) (f3 : x14 ≤ x5) (f4 : x10 ≠ x7) (f5 : x12 < 0) (f6 : GRX (wide_0) (tall_0)) (f7 : RTV (wide_0) (tall_0) (barredPoint_0) (costOf_0) (x3)) (f8 : (0 ≤ x3) ∧ ((x3 + 1) ≤ (wide_0 * tall_0))) (f9 : BB2 (wide_0) (tall_0) (barredPoint_0) (costOf_0) (x6) (x7) (x9)) (f10 : (0 ≤ x6) ∧ ((x6 + 1) ≤ (wide_0 * tall_0))) (f11 : (x5 + x9) ≤ 1000000) (f12 : 0 ≤ x5) (f13 : x6 ≠ x3) (f14 : BB3 (wide_0) (tall_0) (barredPoint_0) (costOf_0) (x6) (x7) (x9) (x10) (x11) (x12)) (f15 : (0 ≤ x9) ∧ (x9 ≤ x13)) (f16 : (-1) * x13 + 0 ≤ (-1)) (hK_0_140 : ∀ j : Int, 0 ≤ j → j < 24000 → 0 ≤ costOf_0 j ∧ costOf_0 j ≤ 1000000) (hK_0_143 : ∀ j : Int, 0 ≤ j → j < 6000 → 0 ≤ barredPoint_0 j ∧ barredPoint_0 j ≤ 1) (kz_0_146 : (-3999999) ≤ wide_0 ∧ wide_0 ≤ 600000023) (kz_0_147 : (-3999999) ≤ tall_0 ∧ tall_0 ≤ 600000007) (ex2 : gx = (-1) + (1 * x13 + 0)) (ex3 : (-2) ≤ gx ∧ gx ≤ 1000000) : (0 ≤ x16) ∧ ((x16 + 1) ≤ (wide_0 * tall_0)) := by
  first
    | omega
    | (have h := bb2_start (t := x13) ‹RTV _ _ _ _ _› ‹BB1 _ _ _ _ _ _ _ _› (by omega) ‹STQ _ _ _ _ _ _› (by omega)
       have h1 := h.1
       have h2 := h.2.2.2.2
       omega)
    | (have h := bb_next ‹RTV _ _ _ _ _› ‹BB2 _ _ _ _ _ _ _› ‹BB3 _ _ _ _ _ _ _ _ _ _› (by omega) (by omega)
       have h1 := h.1.1
       have h2 := h.2
       omega)
set_option maxHeartbeats 4000000 in
theorem vc_Mo_bendsBecome_12_5 (x3 : Int) (x5 : Int) (x6 : Int) (x7 : Int) (x9 : Int) (x10 : Int) (x11 : Int) (x12 : Int) (x13 : Int) (x14 : Int) (x15 : Int) (x16 : Int) (barredPoint_0 : Int → Int) (wide_0 : Int) (tall_0 : Int) (costOf_0 : Int → Int) (gx : Int) (k3 : 0 ≤ x3 ∧ x3 ≤ 5999) (k5 : 25 ≤ x5 ∧ x5 ≤ 999999) (k6 : 0 ≤ x6 ∧ x6 ≤ 5999) (k7 : 0 ≤ x7 ∧ x7 ≤ 3) (k9 : 0 ≤ x9 ∧ x9 ≤ 1000000) (k10 : 0 ≤ x10 ∧ x10 ≤ 3) (k11 : 0 ≤ x11 ∧ x11 ≤ 999999) (k12 : (-1) ≤ x12 ∧ x12 ≤ (-1)) (k13 : (-2) ≤ x13 ∧ x13 ≤ 1000000) (k14 : 25 ≤ x14 ∧ x14 ≤ 25) (k15 : 26 ≤ x15 ∧ x15 ≤ 1000000) (k16 : 0 ≤ x16 ∧ x16 ≤ 5999) (d0 : x5 + 1 ≤ x15 ∧ x15 ≤ x5 + 1) (d1 : x9 + (-4294967296) ≤ x10 ∧ x10 ≤ x9 + 2) (d2 : x9 + (-4294967296) ≤ x11 ∧ x11 ≤ x9 + 0) (f0 : STQ (wide_0) (tall_0) (barredPoint_0) (x6) (x10) (x16)) (f1 : ((-1) ≤ x16) ∧ ((x16 + 1) ≤ (wide_0 * tall_0))) (f2 : x15 = x5 + 1) (f3 : x14 ≤ x5) (f4 : x10 ≠ x7) (f5 : x12 < 0) (f6 : GRX (wide_0) (tall_0)) (f7 : RTV (wide_0) (tall_0) (barredPoint_0) (costOf_0) (x3)) (f8 : (0 ≤ x3) ∧ ((x3 + 1) ≤ (wide_0 * tall_0))) (f9 : BB2 (wide_0) (tall_0) (barredPoint_0) (costOf_0) (x6) (x7) (x9)) (f10 : (0 ≤ x6) ∧ ((x6 + 1) ≤ (wide_0 * tall_0))) (f11 : (x5 + x9) ≤ 1000000) (f12 : 0 ≤ x5) (f13 : x6 ≠ x3) (f14 : BB3 (wide_0) (tall_0) (barredPoint_0) (costOf_0) (x6) (x7) (x9) (x10) (x11) (x12)) (f15 : (0 ≤ x9) ∧ (x9 ≤ x13)) (f16 : (-1) * x13 + 0 ≤ (-1)) (hK_0_140 : ∀ j : Int, 0 ≤ j → j < 24000 → 0 ≤ costOf_0 j ∧ costOf_0 j ≤ 1000000) (hK_0_143 : ∀ j : Int, 0 ≤ j → j < 6000 → 0 ≤ barredPoint_0 j ∧ barredPoint_0 j ≤ 1) (kz_0_146 : (-3999999) ≤ wide_0 ∧ wide_0 ≤ 600000023) (kz_0_147 : (-3999999) ≤ tall_0 ∧ tall_0 ≤ 600000007) (ex2 : gx = (-1) + (1 * x13 + 0)) (ex3 : (-2) ≤ gx ∧ gx ≤ 1000000) : (x15 + x11) ≤ 1000000 := by
  first
    | omega
    | (have h := bb2_start (t := x13) ‹RTV _ _ _ _ _› ‹BB1 _ _ _ _ _ _ _ _› (by omega) ‹STQ _ _ _ _ _ _› (by omega)
       have h1 := h.1
       have h2 := h.2.2.2.2
       omega)
    | (have h := bb_next ‹RTV _ _ _ _ _› ‹BB2 _ _ _ _ _ _ _› ‹BB3 _ _ _ _ _ _ _ _ _ _› (by omega) (by omega)
       have h1 := h.1.1
       have h2 := h.2
       omega)
set_option maxHeartbeats 4000000 in
theorem vc_Mo_bendsBecome_12_6 (x3 : Int) (x5 : Int) (x6 : Int) (x7 : Int) (x9 : Int) (x10 : Int) (x11 : Int) (x12 : Int) (x13 : Int) (x14 : Int) (x15 : Int) (x16 : Int) (barredPoint_0 : Int → Int) (wide_0 : Int) (tall_0 : Int) (costOf_0 : Int → Int) (gx : Int) (k3 : 0 ≤ x3 ∧ x3 ≤ 5999) (k5 : 25 ≤ x5 ∧ x5 ≤ 999999) (k6 : 0 ≤ x6 ∧ x6 ≤ 5999) (k7 : 0 ≤ x7 ∧ x7 ≤ 3) (k9 : 0 ≤ x9 ∧ x9 ≤ 1000000) (k10 : 0 ≤ x10 ∧ x10 ≤ 3) (k11 : 0 ≤ x11 ∧ x11 ≤ 999999) (k12 : (-1) ≤ x12 ∧ x12 ≤ (-1)) (k13 : (-2) ≤ x13 ∧ x13 ≤ 1000000) (k14 : 25 ≤ x14 ∧ x14 ≤ 25) (k15 : 26 ≤ x15 ∧ x15 ≤ 1000000) (k16 : 0 ≤ x16 ∧ x16 ≤ 5999) (d0 : x5 + 1 ≤ x15 ∧ x15 ≤ x5 + 1) (d1 : x9 + (-4294967296) ≤ x10 ∧ x10 ≤ x9 + 2) (d2 : x9 + (-4294967296) ≤ x11 ∧ x11 ≤ x9 + 0) (f0 : STQ (wide_0) (tall_0) (barredPoint_0) (x6) (x10) (x16)) (f1 : ((-1) ≤ x16) ∧ ((x16 + 1) ≤ (wide_0 * tall_0))) (f2 : x15 = x5 + 1) (f3 : x14 ≤ x5) (f4 : x10 ≠ x7) (f5 : x12 < 0) (f6 : GRX (wide_0) (tall_0)) (f7 : RTV (wide_0) (tall_0) (barredPoint_0) (costOf_0) (x3)) (f8 : (0 ≤ x3) ∧ ((x3 + 1) ≤ (wide_0 * tall_0))) (f9 : BB2 (wide_0) (tall_0) (barredPoint_0) (costOf_0) (x6) (x7) (x9)) (f10 : (0 ≤ x6) ∧ ((x6 + 1) ≤ (wide_0 * tall_0))) (f11 : (x5 + x9) ≤ 1000000) (f12 : 0 ≤ x5) (f13 : x6 ≠ x3) (f14 : BB3 (wide_0) (tall_0) (barredPoint_0) (costOf_0) (x6) (x7) (x9) (x10) (x11) (x12)) (f15 : (0 ≤ x9) ∧ (x9 ≤ x13)) (f16 : (-1) * x13 + 0 ≤ (-1)) (hK_0_140 : ∀ j : Int, 0 ≤ j → j < 24000 → 0 ≤ costOf_0 j ∧ costOf_0 j ≤ 1000000) (hK_0_143 : ∀ j : Int, 0 ≤ j → j < 6000 → 0 ≤ barredPoint_0 j ∧ barredPoint_0 j ≤ 1) (kz_0_146 : (-3999999) ≤ wide_0 ∧ wide_0 ≤ 600000023) (kz_0_147 : (-3999999) ≤ tall_0 ∧ tall_0 ≤ 600000007) (ex2 : gx = (-1) + (1 * x13 + 0)) (ex3 : (-2) ≤ gx ∧ gx ≤ 1000000) : 0 ≤ x15 := by
  first
    | omega
    | (have h := bb2_start (t := x13) ‹RTV _ _ _ _ _› ‹BB1 _ _ _ _ _ _ _ _› (by omega) ‹STQ _ _ _ _ _ _› (by omega)
       have h1 := h.1
       have h2 := h.2.2.2.2
       omega)
    | (have h := bb_next ‹RTV _ _ _ _ _› ‹BB2 _ _ _ _ _ _ _› ‹BB3 _ _ _ _ _ _ _ _ _ _› (by omega) (by omega)
       have h1 := h.1.1
       have h2 := h.2
       omega)
set_option maxHeartbeats 4000000 in
theorem vc_Mo_bendsBecome_12_7 (x3 : Int) (x5 : Int) (x6 : Int) (x7 : Int) (x9 : Int) (x10 : Int) (x11 : Int) (x12 : Int) (x13 : Int) (x14 : Int) (x15 : Int) (x16 : Int) (barredPoint_0 : Int → Int) (wide_0 : Int) (tall_0 : Int) (costOf_0 : Int → Int) (gx : Int) (k3 : 0 ≤ x3 ∧ x3 ≤ 5999) (k5 : 25 ≤ x5 ∧ x5 ≤ 999999) (k6 : 0 ≤ x6 ∧ x6 ≤ 5999) (k7 : 0 ≤ x7 ∧ x7 ≤ 3) (k9 : 0 ≤ x9 ∧ x9 ≤ 1000000) (k10 : 0 ≤ x10 ∧ x10 ≤ 3) (k11 : 0 ≤ x11 ∧ x11 ≤ 999999) (k12 : (-1) ≤ x12 ∧ x12 ≤ (-1)) (k13 : (-2) ≤ x13 ∧ x13 ≤ 1000000) (k14 : 25 ≤ x14 ∧ x14 ≤ 25) (k15 : 26 ≤ x15 ∧ x15 ≤ 1000000) (k16 : 0 ≤ x16 ∧ x16 ≤ 5999) (d0 : x5 + 1 ≤ x15 ∧ x15 ≤ x5 + 1) (d1 : x9 + (-4294967296) ≤ x10 ∧ x10 ≤ x9 + 2) (d2 : x9 + (-4294967296) ≤ x11 ∧ x11 ≤ x9 + 0) (f0 : STQ (wide_0) (tall_0) (barredPoint_0) (x6) (x10) (x16)) (f1 : ((-1) ≤ x16) ∧ ((x16 + 1) ≤ (wide_0 * tall_0))) (f2 : x15 = x5 + 1) (f3 : x14 ≤ x5) (f4 : x10 ≠ x7) (f5 : x12 < 0) (f6 : GRX (wide_0) (tall_0)) (f7 : RTV (wide_0) (tall_0) (barredPoint_0) (costOf_0) (x3)) (f8 : (0 ≤ x3) ∧ ((x3 + 1) ≤ (wide_0 * tall_0))) (f9 : BB2 (wide_0) (tall_0) (barredPoint_0) (costOf_0) (x6) (x7) (x9)) (f10 : (0 ≤ x6) ∧ ((x6 + 1) ≤ (wide_0 * tall_0))) (f11 : (x5 + x9) ≤ 1000000) (f12 : 0 ≤ x5) (f13 : x6 ≠ x3) (f14 : BB3 (wide_0) (tall_0) (barredPoint_0) (costOf_0) (x6) (x7) (x9) (x10) (x11) (x12)) (f15 : (0 ≤ x9) ∧ (x9 ≤ x13)) (f16 : (-1) * x13 + 0 ≤ (-1)) (hK_0_140 : ∀ j : Int, 0 ≤ j → j < 24000 → 0 ≤ costOf_0 j ∧ costOf_0 j ≤ 1000000) (hK_0_143 : ∀ j : Int, 0 ≤ j → j < 6000 → 0 ≤ barredPoint_0 j ∧ barredPoint_0 j ≤ 1) (kz_0_146 : (-3999999) ≤ wide_0 ∧ wide_0 ≤ 600000023) (kz_0_147 : (-3999999) ≤ tall_0 ∧ tall_0 ≤ 600000007) (ex2 : gx = (-1) + (1 * x13 + 0)) (ex3 : (-2) ≤ gx ∧ gx ≤ 1000000) : (0 ≤ x11) ∧ (x11 ≤ gx) := by
  first
    | omega
    | (have h := bb2_start (t := x13) ‹RTV _ _ _ _ _› ‹BB1 _ _ _ _ _ _ _ _› (by omega) ‹STQ _ _ _ _ _ _› (by omega)
       have h1 := h.1
       have h2 := h.2.2.2.2
       omega)
    | (have h := bb_next ‹RTV _ _ _ _ _› ‹BB2 _ _ _ _ _ _ _› ‹BB3 _ _ _ _ _ _ _ _ _ _› (by omega) (by omega)
       have h1 := h.1.1
       have h2 := h.2
       omega)
def o_Mo_bendsBecome_12 : or_T := (112, 17, [(0, (2, 0, 0, [165])), (3, (0, 0, 5999, [])), (5, (0, 25, 999999, [])), (6, (0, 0, 5999, [])), (7, (0, 0, 3, [])), (9, (0, 0, 1000000, [])), (10, (0, 0, 3, [])), (11, (0, 0, 999999, [])), (12, (0, -1, -1, [])), (13, (0, -2, 1000000, [])), (14, (0, 25, 25, [])), (15, (0, 26, 1000000, [])), (16, (0, 0, 5999, []))], [(20, [0, 6, 10, 16], [60, 2, 1, 505, 146, 147, 143]), (20, [16, 0], [50, 2, 0, 1146, 1147, 2, 6, 0, 2, 0, -1, 1, 0, 0, 6, 4, 2, 1, 0, 0, 1, 6, 3, 2, 1, 146, 2, 1, 147]), (6, [15, 5], [1]), (7, [5, 14], [3]), (7, [10, 7], [1]), (8, [12], [2]), (20, [0], [60, 2, 0, 494, 146, 147]), (20, [0, 3], [60, 2, 2, 504, 146, 147, 143, 140]), (20, [3, 0], [50, 2, 0, 1146, 1147, 2, 6, 0, 2, 0, 0, 1, 0, 0, 6, 4, 2, 1, 0, 0, 1, 6, 3, 2, 1, 146, 2, 1, 147]), (20, [0, 6, 7, 9], [60, 2, 2, 507, 146, 147, 143, 140]), (20, [6, 0], [50, 2, 0, 1146, 1147, 2, 6, 0, 2, 0, 0, 1, 0, 0, 6, 4, 2, 1, 0, 0, 1, 6, 3, 2, 1, 146, 2, 1, 147]), (20, [5, 9], [50, 0, 0, 0, 6, 4, 2, 1, 0, 1, 1, 0, 1000000]), (20, [5], [50, 0, 0, 0, 2, 0, 0, 1, 0]), (20, [6, 3], [50, 0, 0, 7, 2, 1, 0, 1, 1]), (20, [0, 6, 7, 9, 10, 11, 12], [60, 2, 2, 508, 146, 147, 143, 140]), (20, [9, 13], [50, 0, 0, 2, 6, 0, 2, 0, 0, 1, 0, 0, 2, 1, 0, 1, 1]), (23, [13], [-1, -1])], [], [(0, -2, 1000000, [])], [(20, [0], [60, 2, 0, 494, 146, 147]), (20, [0, 3], [60, 2, 2, 504, 146, 147, 143, 140]), (20, [3, 0], [50, 2, 0, 1146, 1147, 2, 6, 0, 2, 0, 0, 1, 0, 0, 6, 4, 2, 1, 0, 0, 1, 6, 3, 2, 1, 146, 2, 1, 147]), (20, [0, 16, 10, 11], [60, 2, 2, 507, 146, 147, 143, 140]), (20, [16, 0], [50, 2, 0, 1146, 1147, 2, 6, 0, 2, 0, 0, 1, 0, 0, 6, 4, 2, 1, 0, 0, 1, 6, 3, 2, 1, 146, 2, 1, 147]), (20, [15, 11], [50, 0, 0, 0, 6, 4, 2, 1, 0, 1, 1, 0, 1000000]), (20, [15], [50, 0, 0, 0, 2, 0, 0, 1, 0]), (20, [11, 17], [50, 0, 0, 2, 6, 0, 2, 0, 0, 1, 0, 0, 2, 1, 0, 1, 1])], [(17, 13, -1000000000000, -1)], [(15, 5, 1, 1), (10, 9, -4294967296, 2), (11, 9, -4294967296, 0)])
theorem oo_Mo_bendsBecome_12 {kA : Nat → ClassId} : or_ok PRD kA GG o_Mo_bendsBecome_12 := by
  refine or_mk fun A ta ws vs hD hth hl => ?_
  intro t0 r0 t3 k3 t5 k5 t6 k6 t7 k7 t9 k9 t10 k10 t11 k11 t12 k12 t13 k13 t14 k14 t15 k15 t16 k16 d0 d1 d2 f0 f1 f2 f3 f4 f5 f6 f7 f8 f9 f10 f11 f12 f13 f14 f15 f16
  replace f0 := shm_1257 f0
  replace f1 := shm_1258 f1
  replace f2 := shm_4 f2
  replace f3 := shm_2 f3
  replace f4 := shm_40 f4
  replace f5 := shm_39 f5
  replace f6 := shm_1255 f6
  replace f7 := shm_1376 f7
  replace f8 := shm_1256 f8
  replace f9 := shm_1378 f9
  replace f10 := shm_1256 f10
  replace f11 := shm_1379 f11
  replace f12 := shm_709 f12
  replace f13 := shm_419 f13
  replace f14 := shm_1380 f14
  replace f15 := shm_384 f15
  replace f16 := shm_614 f16
  have cr_0_140 := fdq_174 hD hth r0
  have cr_0_143 := fdq_177 hD hth r0
  have hK_0_140 := elq_101 hD hth cr_0_140
  have hK_0_143 := elq_104 hD hth cr_0_143
  have kz_0_146 := fdq_178 hD hth r0
  have kz_0_147 := fdq_179 hD hth r0
  obtain ⟨x, ex, hx⟩ := iv_ex (ta := ta) (lo := (-2)) (hi := 1000000) (z := (-1) + (1 * v_iv (n_v vs 13) + 0)) (by omega) (by omega) (by omega) (by omega)
  have ex2 : v_iv (Value.int x) = (-1) + (1 * v_iv (n_v vs 13) + 0) := ex
  have ex3 : (-2) ≤ v_iv (Value.int x) ∧ v_iv (Value.int x) ≤ 1000000 := tv_rng hx
  have e_0 : n_v (vs ++ [Value.int x]) 0 = n_v vs 0 := n_v_old (by rw [hl]; decide)
  have e_3 : n_v (vs ++ [Value.int x]) 3 = n_v vs 3 := n_v_old (by rw [hl]; decide)
  have e_10 : n_v (vs ++ [Value.int x]) 10 = n_v vs 10 := n_v_old (by rw [hl]; decide)
  have e_11 : n_v (vs ++ [Value.int x]) 11 = n_v vs 11 := n_v_old (by rw [hl]; decide)
  have e_15 : n_v (vs ++ [Value.int x]) 15 = n_v vs 15 := n_v_old (by rw [hl]; decide)
  have e_16 : n_v (vs ++ [Value.int x]) 16 = n_v vs 16 := n_v_old (by rw [hl]; decide)
  have e_17 : n_v (vs ++ [Value.int x]) 17 = Value.int x := n_v_new hl
  have nf0 : fc_1 PRD (20, [0], [60, 2, 0, 494, 146, 147]) ws (vs ++ [Value.int x]) := by
    refine ⟨nf_inA hl rfl, sgq_1255 ?_⟩
    · show GRX (w_fi ws (n_v (vs ++ [Value.int x]) 0) 146) (w_fi ws (n_v (vs ++ [Value.int x]) 0) 147)
      rw [e_0]
      exact vc_Mo_bendsBecome_12_0 (v_iv (n_v vs 3)) (v_iv (n_v vs 5)) (v_iv (n_v vs 6)) (v_iv (n_v vs 7)) (v_iv (n_v vs 9)) (v_iv (n_v vs 10)) (v_iv (n_v vs 11)) (v_iv (n_v vs 12)) (v_iv (n_v vs 13)) (v_iv (n_v vs 14)) (v_iv (n_v vs 15)) (v_iv (n_v vs 16)) (w_ei ws (w_ar ws (n_v vs 0) 143)) (w_fi ws (n_v vs 0) 146) (w_fi ws (n_v vs 0) 147) (w_ei ws (w_ar ws (n_v vs 0) 140)) (v_iv (Value.int x)) k3 k5 k6 k7 k9 k10 k11 k12 k13 k14 k15 k16 d0 d1 d2 f0 f1 f2 f3 f4 f5 f6 f7 f8 f9 f10 f11 f12 f13 f14 f15 f16 hK_0_140 hK_0_143 kz_0_146 kz_0_147 ex2 ex3
  have nf1 : fc_1 PRD (20, [0, 3], [60, 2, 2, 504, 146, 147, 143, 140]) ws (vs ++ [Value.int x]) := by
    refine ⟨nf_inA hl rfl, sgq_1376 ?_⟩
    · show RTV (w_fi ws (n_v (vs ++ [Value.int x]) 0) 146) (w_fi ws (n_v (vs ++ [Value.int x]) 0) 147) (w_ei ws (w_ar ws (n_v (vs ++ [Value.int x]) 0) 143)) (w_ei ws (w_ar ws (n_v (vs ++ [Value.int x]) 0) 140)) (v_iv (n_v (vs ++ [Value.int x]) 3))
      simp only [e_0, e_3]
      exact vc_Mo_bendsBecome_12_1 (v_iv (n_v vs 3)) (v_iv (n_v vs 5)) (v_iv (n_v vs 6)) (v_iv (n_v vs 7)) (v_iv (n_v vs 9)) (v_iv (n_v vs 10)) (v_iv (n_v vs 11)) (v_iv (n_v vs 12)) (v_iv (n_v vs 13)) (v_iv (n_v vs 14)) (v_iv (n_v vs 15)) (v_iv (n_v vs 16)) (w_ei ws (w_ar ws (n_v vs 0) 143)) (w_fi ws (n_v vs 0) 146) (w_fi ws (n_v vs 0) 147) (w_ei ws (w_ar ws (n_v vs 0) 140)) (v_iv (Value.int x)) k3 k5 k6 k7 k9 k10 k11 k12 k13 k14 k15 k16 d0 d1 d2 f0 f1 f2 f3 f4 f5 f6 f7 f8 f9 f10 f11 f12 f13 f14 f15 f16 hK_0_140 hK_0_143 kz_0_146 kz_0_147 ex2 ex3
  have nf2 : fc_1 PRD (20, [3, 0], [50, 2, 0, 1146, 1147, 2, 6, 0, 2, 0, 0, 1, 0, 0, 6, 4, 2, 1, 0, 0, 1, 6, 3, 2, 1, 146, 2, 1, 147]) ws (vs ++ [Value.int x]) := by
    refine ⟨nf_inA hl rfl, sgq_1256 ?_⟩
    · show (0 ≤ v_iv (n_v (vs ++ [Value.int x]) 3)) ∧ ((v_iv (n_v (vs ++ [Value.int x]) 3) + 1) ≤ (w_fi ws (n_v (vs ++ [Value.int x]) 0) 146 * w_fi ws (n_v (vs ++ [Value.int x]) 0) 147))
      simp only [e_0, e_3]
      exact vc_Mo_bendsBecome_12_2 (v_iv (n_v vs 3)) (v_iv (n_v vs 5)) (v_iv (n_v vs 6)) (v_iv (n_v vs 7)) (v_iv (n_v vs 9)) (v_iv (n_v vs 10)) (v_iv (n_v vs 11)) (v_iv (n_v vs 12)) (v_iv (n_v vs 13)) (v_iv (n_v vs 14)) (v_iv (n_v vs 15)) (v_iv (n_v vs 16)) (w_ei ws (w_ar ws (n_v vs 0) 143)) (w_fi ws (n_v vs 0) 146) (w_fi ws (n_v vs 0) 147) (w_ei ws (w_ar ws (n_v vs 0) 140)) (v_iv (Value.int x)) k3 k5 k6 k7 k9 k10 k11 k12 k13 k14 k15 k16 d0 d1 d2 f0 f1 f2 f3 f4 f5 f6 f7 f8 f9 f10 f11 f12 f13 f14 f15 f16 hK_0_140 hK_0_143 kz_0_146 kz_0_147 ex2 ex3
  have nf3 : fc_1 PRD (20, [0, 16, 10, 11], [60, 2, 2, 507, 146, 147, 143, 140]) ws (vs ++ [Value.int x]) := by
    refine ⟨nf_inA hl rfl, sgq_1378 ?_⟩
    · show BB2 (w_fi ws (n_v (vs ++ [Value.int x]) 0) 146) (w_fi ws (n_v (vs ++ [Value.int x]) 0) 147) (w_ei ws (w_ar ws (n_v (vs ++ [Value.int x]) 0) 143)) (w_ei ws (w_ar ws (n_v (vs ++ [Value.int x]) 0) 140)) (v_iv (n_v (vs ++ [Value.int x]) 16)) (v_iv (n_v (vs ++ [Value.int x]) 10)) (v_iv (n_v (vs ++ [Value.int x]) 11))
      simp only [e_0, e_10, e_11, e_16]
      exact vc_Mo_bendsBecome_12_3 (v_iv (n_v vs 3)) (v_iv (n_v vs 5)) (v_iv (n_v vs 6)) (v_iv (n_v vs 7)) (v_iv (n_v vs 9)) (v_iv (n_v vs 10)) (v_iv (n_v vs 11)) (v_iv (n_v vs 12)) (v_iv (n_v vs 13)) (v_iv (n_v vs 14)) (v_iv (n_v vs 15)) (v_iv (n_v vs 16)) (w_ei ws (w_ar ws (n_v vs 0) 143)) (w_fi ws (n_v vs 0) 146) (w_fi ws (n_v vs 0) 147) (w_ei ws (w_ar ws (n_v vs 0) 140)) (v_iv (Value.int x)) k3 k5 k6 k7 k9 k10 k11 k12 k13 k14 k15 k16 d0 d1 d2 f0 f1 f2 f3 f4 f5 f6 f7 f8 f9 f10 f11 f12 f13 f14 f15 f16 hK_0_140 hK_0_143 kz_0_146 kz_0_147 ex2 ex3
  have nf4 : fc_1 PRD (20, [16, 0], [50, 2, 0, 1146, 1147, 2, 6, 0, 2, 0, 0, 1, 0, 0, 6, 4, 2, 1, 0, 0, 1, 6, 3, 2, 1, 146, 2, 1, 147]) ws (vs ++ [Value.int x]) := by
    refine ⟨nf_inA hl rfl, sgq_1256 ?_⟩
    · show (0 ≤ v_iv (n_v (vs ++ [Value.int x]) 16)) ∧ ((v_iv (n_v (vs ++ [Value.int x]) 16) + 1) ≤ (w_fi ws (n_v (vs ++ [Value.int x]) 0) 146 * w_fi ws (n_v (vs ++ [Value.int x]) 0) 147))
      simp only [e_0, e_16]
      exact vc_Mo_bendsBecome_12_4 (v_iv (n_v vs 3)) (v_iv (n_v vs 5)) (v_iv (n_v vs 6)) (v_iv (n_v vs 7)) (v_iv (n_v vs 9)) (v_iv (n_v vs 10)) (v_iv (n_v vs 11)) (v_iv (n_v vs 12)) (v_iv (n_v vs 13)) (v_iv (n_v vs 14)) (v_iv (n_v vs 15)) (v_iv (n_v vs 16)) (w_ei ws (w_ar ws (n_v vs 0) 143)) (w_fi ws (n_v vs 0) 146) (w_fi ws (n_v vs 0) 147) (w_ei ws (w_ar ws (n_v vs 0) 140)) (v_iv (Value.int x)) k3 k5 k6 k7 k9 k10 k11 k12 k13 k14 k15 k16 d0 d1 d2 f0 f1 f2 f3 f4 f5 f6 f7 f8 f9 f10 f11 f12 f13 f14 f15 f16 hK_0_140 hK_0_143 kz_0_146 kz_0_147 ex2 ex3
  have nf5 : fc_1 PRD (20, [15, 11], [50, 0, 0, 0, 6, 4, 2, 1, 0, 1, 1, 0, 1000000]) ws (vs ++ [Value.int x]) := by
    refine ⟨nf_inA hl rfl, sgq_1379 ?_⟩
    · show (v_iv (n_v (vs ++ [Value.int x]) 15) + v_iv (n_v (vs ++ [Value.int x]) 11)) ≤ 1000000
      simp only [e_11, e_15]
      exact vc_Mo_bendsBecome_12_5 (v_iv (n_v vs 3)) (v_iv (n_v vs 5)) (v_iv (n_v vs 6)) (v_iv (n_v vs 7)) (v_iv (n_v vs 9)) (v_iv (n_v vs 10)) (v_iv (n_v vs 11)) (v_iv (n_v vs 12)) (v_iv (n_v vs 13)) (v_iv (n_v vs 14)) (v_iv (n_v vs 15)) (v_iv (n_v vs 16)) (w_ei ws (w_ar ws (n_v vs 0) 143)) (w_fi ws (n_v vs 0) 146) (w_fi ws (n_v vs 0) 147) (w_ei ws (w_ar ws (n_v vs 0) 140)) (v_iv (Value.int x)) k3 k5 k6 k7 k9 k10 k11 k12 k13 k14 k15 k16 d0 d1 d2 f0 f1 f2 f3 f4 f5 f6 f7 f8 f9 f10 f11 f12 f13 f14 f15 f16 hK_0_140 hK_0_143 kz_0_146 kz_0_147 ex2 ex3
  have nf6 : fc_1 PRD (20, [15], [50, 0, 0, 0, 2, 0, 0, 1, 0]) ws (vs ++ [Value.int x]) := by
    refine ⟨nf_inA hl rfl, sgq_709 ?_⟩
    · show 0 ≤ v_iv (n_v (vs ++ [Value.int x]) 15)
      rw [e_15]
      exact vc_Mo_bendsBecome_12_6 (v_iv (n_v vs 3)) (v_iv (n_v vs 5)) (v_iv (n_v vs 6)) (v_iv (n_v vs 7)) (v_iv (n_v vs 9)) (v_iv (n_v vs 10)) (v_iv (n_v vs 11)) (v_iv (n_v vs 12)) (v_iv (n_v vs 13)) (v_iv (n_v vs 14)) (v_iv (n_v vs 15)) (v_iv (n_v vs 16)) (w_ei ws (w_ar ws (n_v vs 0) 143)) (w_fi ws (n_v vs 0) 146) (w_fi ws (n_v vs 0) 147) (w_ei ws (w_ar ws (n_v vs 0) 140)) (v_iv (Value.int x)) k3 k5 k6 k7 k9 k10 k11 k12 k13 k14 k15 k16 d0 d1 d2 f0 f1 f2 f3 f4 f5 f6 f7 f8 f9 f10 f11 f12 f13 f14 f15 f16 hK_0_140 hK_0_143 kz_0_146 kz_0_147 ex2 ex3
  have nf7 : fc_1 PRD (20, [11, 17], [50, 0, 0, 2, 6, 0, 2, 0, 0, 1, 0, 0, 2, 1, 0, 1, 1]) ws (vs ++ [Value.int x]) := by
    refine ⟨nf_inA hl rfl, sgq_384 ?_⟩
    · show (0 ≤ v_iv (n_v (vs ++ [Value.int x]) 11)) ∧ (v_iv (n_v (vs ++ [Value.int x]) 11) ≤ v_iv (n_v (vs ++ [Value.int x]) 17))
      simp only [e_11, e_17]
      exact vc_Mo_bendsBecome_12_7 (v_iv (n_v vs 3)) (v_iv (n_v vs 5)) (v_iv (n_v vs 6)) (v_iv (n_v vs 7)) (v_iv (n_v vs 9)) (v_iv (n_v vs 10)) (v_iv (n_v vs 11)) (v_iv (n_v vs 12)) (v_iv (n_v vs 13)) (v_iv (n_v vs 14)) (v_iv (n_v vs 15)) (v_iv (n_v vs 16)) (w_ei ws (w_ar ws (n_v vs 0) 143)) (w_fi ws (n_v vs 0) 146) (w_fi ws (n_v vs 0) 147) (w_ei ws (w_ar ws (n_v vs 0) 140)) (v_iv (Value.int x)) k3 k5 k6 k7 k9 k10 k11 k12 k13 k14 k15 k16 d0 d1 d2 f0 f1 f2 f3 f4 f5 f6 f7 f8 f9 f10 f11 f12 f13 f14 f15 f16 hK_0_140 hK_0_143 kz_0_146 kz_0_147 ex2 ex3
  obtain ⟨x0, e0, _, _⟩ := tv_int t13 rfl
  have e1 : v_iv (n_v vs 13) = x0.toInt := by rw [e0]; rfl
  have ho : sy_ofs (vs ++ [Value.int x]) (17, 13, -1000000000000, -1) := by
    refine ⟨x, x0, by rw [List.getElem?_append_right (by rw [hl]; decide), hl]; rfl, ?_, ?_, ?_⟩
    · rw [List.getElem?_append_left (by rw [hl]; decide)]; exact n_v_some (by rw [hl]; decide) e0
    · show x0.toInt + (-1000000000000) ≤ x.toInt; omega
    · show x.toInt ≤ x0.toInt + (-1); omega
  exact ⟨(fun _ h => (by cases h)), [Value.int x], ag_one hx, List.forall_mem_cons.mpr ⟨⟨show (20 : Nat) < 100 from by decide, nf0⟩, List.forall_mem_cons.mpr ⟨⟨show (20 : Nat) < 100 from by decide, nf1⟩, List.forall_mem_cons.mpr ⟨⟨show (20 : Nat) < 100 from by decide, nf2⟩, List.forall_mem_cons.mpr ⟨⟨show (20 : Nat) < 100 from by decide, nf3⟩, List.forall_mem_cons.mpr ⟨⟨show (20 : Nat) < 100 from by decide, nf4⟩, List.forall_mem_cons.mpr ⟨⟨show (20 : Nat) < 100 from by decide, nf5⟩, List.forall_mem_cons.mpr ⟨⟨show (20 : Nat) < 100 from by decide, nf6⟩, List.forall_mem_cons.mpr ⟨⟨show (20 : Nat) < 100 from by decide, nf7⟩, (fun _ h => (by cases h))⟩⟩⟩⟩⟩⟩⟩⟩, List.forall_mem_cons.mpr ⟨ho, (fun _ h => (by cases h))⟩⟩
set_option maxHeartbeats 4000000 in
theorem vc_Mo_bendsBecome_13_r0 (x3 : Int) (x5 : Int) (x6 : Int) (x7 : Int) (x9 : Int) (x10 : Int) (x11 : Int) (x12 : Int) (x13 : Int) (x14 : Int) (x17 : Int) (wide_0 : Int) (tall_0 : Int) (barredPoint_0 : Int → Int) (costOf_0 : Int → Int) (k3 : 0 ≤ x3 ∧ x3 ≤ 5999) (k5 : 0 ≤ x5 ∧ x5 ≤ 24) (k6 : 0 ≤ x6 ∧ x6 ≤ 5999) (k7 : 0 ≤ x7 ∧ x7 ≤ 3) (k9 : 0 ≤ x9 ∧ x9 ≤ 1000000) (k10 : (-1) ≤ x10 ∧ x10 ≤ 3) (k11 : 0 ≤ x11 ∧ x11 ≤ 999999) (k12 : (-1) ≤ x12 ∧ x12 ≤ (-1)) (k13 : (-2) ≤ x13 ∧ x13 ≤ 1000000) (k14 : 25 ≤ x14 ∧ x14 ≤ 25) (k17 : (-3999999) ≤ x17 ∧ x17 ≤ 600000023) (d0 : x9 + (-4294967296) ≤ x10 ∧ x10 ≤ x9 + 2) (d1 : x9 + (-4294967296) ≤ x11 ∧ x11 ≤ x9 + 0) (g0 : x17 = wide_0) (f1 : x5 < x14) (f2 : x10 ≠ x7) (f3 : x12 < 0) (f4 : GRX (wide_0) (tall_0)) (f5 : RTV (wide_0) (tall_0) (barredPoint_0) (costOf_0) (x3)) (f6 : (0 ≤ x3) ∧ ((x3 + 1) ≤ (wide_0 * tall_0))) (f7 : BB2 (wide_0) (tall_0) (barredPoint_0) (costOf_0) (x6) (x7) (x9)) (f8 : (0 ≤ x6) ∧ ((x6 + 1) ≤ (wide_0 * tall_0))) (f9 : (x5 + x9) ≤ 1000000) (f10 : 0 ≤ x5) (f11 : x6 ≠ x3) (f12 : BB3 (wide_0) (tall_0) (barredPoint_0) (costOf_0) (x6) (x7) (x9) (x10) (x11) (x12)) (f13 : (0 ≤ x9) ∧ (x9 ≤ x13)) (f14 : (-1) * x13 + 0 ≤ (-1)) (hK_0_140 : ∀ j : Int, 0 ≤ j → j < 24000 → 0 ≤ costOf_0 j ∧ costOf_0 j ≤ 1000000) (hK_0_143 : ∀ j : Int, 0 ≤ j → j < 6000 → 0 ≤ barredPoint_0 j ∧ barredPoint_0 j ≤ 1) (kz_0_146 : (-3999999) ≤ wide_0 ∧ wide_0 ≤ 600000023) (kz_0_147 : (-3999999) ≤ tall_0 ∧ tall_0 ≤ 600000007) : 1 ≤ x17 ∧ x17 ≤ 6000 := by
  first
    | omega
    | (have g := gok_bd ‹GRX _ _›; omega)
    | (have h := bb_next ‹RTV _ _ _ _ _› ‹BB2 _ _ _ _ _ _ _› ‹BB3 _ _ _ _ _ _ _ _ _ _› (by omega) (by omega)
       have h1 := h.1.1
       have h2 := h.2
       omega)
    | (obtain ⟨⟨mf, q, n1, n2, n3, n4⟩, u0, u1⟩ := bb_next ‹RTV _ _ _ _ _› ‹BB2 _ _ _ _ _ _ _› ‹BB3 _ _ _ _ _ _ _ _ _ _› (by omega) (by omega)
       have e := ‹STQ _ _ _ _ _ _›.2.2 q n1 n2
       have i := nb_in n1 (by have g := gok_bd ‹GRX _ _›; omega)
       have g3 := ‹GRX _ _›.2.2
       omega)
def o_Mo_bendsBecome_13 : or_T := (231, 18, [(0, (2, 0, 0, [165])), (3, (0, 0, 5999, [])), (5, (0, 0, 24, [])), (6, (0, 0, 5999, [])), (7, (0, 0, 3, [])), (9, (0, 0, 1000000, [])), (10, (0, -1, 3, [])), (11, (0, 0, 999999, [])), (12, (0, -1, -1, [])), (13, (0, -2, 1000000, [])), (14, (0, 25, 25, [])), (17, (0, -3999999, 600000023, []))], [(9, [17, 0], [146]), (7, [5, 14], [2]), (7, [10, 7], [1]), (8, [12], [2]), (20, [0], [60, 2, 0, 494, 146, 147]), (20, [0, 3], [60, 2, 2, 504, 146, 147, 143, 140]), (20, [3, 0], [50, 2, 0, 1146, 1147, 2, 6, 0, 2, 0, 0, 1, 0, 0, 6, 4, 2, 1, 0, 0, 1, 6, 3, 2, 1, 146, 2, 1, 147]), (20, [0, 6, 7, 9], [60, 2, 2, 507, 146, 147, 143, 140]), (20, [6, 0], [50, 2, 0, 1146, 1147, 2, 6, 0, 2, 0, 0, 1, 0, 0, 6, 4, 2, 1, 0, 0, 1, 6, 3, 2, 1, 146, 2, 1, 147]), (20, [5, 9], [50, 0, 0, 0, 6, 4, 2, 1, 0, 1, 1, 0, 1000000]), (20, [5], [50, 0, 0, 0, 2, 0, 0, 1, 0]), (20, [6, 3], [50, 0, 0, 7, 2, 1, 0, 1, 1]), (20, [0, 6, 7, 9, 10, 11, 12], [60, 2, 2, 508, 146, 147, 143, 140]), (20, [9, 13], [50, 0, 0, 2, 6, 0, 2, 0, 0, 1, 0, 0, 2, 1, 0, 1, 1]), (23, [13], [-1, -1])], [(17, (0, 1, 6000, []))], [], [], [], [(10, 9, -4294967296, 2), (11, 9, -4294967296, 0)])
theorem oo_Mo_bendsBecome_13 {kA : Nat → ClassId} : or_ok PRD kA GG o_Mo_bendsBecome_13 := by
  refine or_mk fun A ta ws vs hD hth hl => ?_
  intro t0 r0 t3 k3 t5 k5 t6 k6 t7 k7 t9 k9 t10 k10 t11 k11 t12 k12 t13 k13 t14 k14 t17 k17 d0 d1 f0 f1 f2 f3 f4 f5 f6 f7 f8 f9 f10 f11 f12 f13 f14
  replace f0 := shm_1254 f0
  have cr_0_140 := fdq_174 hD hth r0
  have cr_0_143 := fdq_177 hD hth r0
  have g0 : v_iv (n_v vs 17) = w_fi ws (n_v vs 0) 146 := congrArg v_iv f0
  have hK_0_140 := elq_101 hD hth cr_0_140
  have hK_0_143 := elq_104 hD hth cr_0_143
  have kz_0_146 := fdq_178 hD hth r0
  have kz_0_147 := fdq_179 hD hth r0
  have hrf0 : 1 ≤ v_iv (n_v vs 17) ∧ v_iv (n_v vs 17) ≤ 6000 := vc_Mo_bendsBecome_13_r0 (v_iv (n_v vs 3)) (v_iv (n_v vs 5)) (v_iv (n_v vs 6)) (v_iv (n_v vs 7)) (v_iv (n_v vs 9)) (v_iv (n_v vs 10)) (v_iv (n_v vs 11)) (v_iv (n_v vs 12)) (v_iv (n_v vs 13)) (v_iv (n_v vs 14)) (v_iv (n_v vs 17)) (w_fi ws (n_v vs 0) 146) (w_fi ws (n_v vs 0) 147) (w_ei ws (w_ar ws (n_v vs 0) 143)) (w_ei ws (w_ar ws (n_v vs 0) 140)) k3 k5 k6 k7 k9 k10 k11 k12 k13 k14 k17 d0 d1 g0 (shm_6 f1) (shm_40 f2) (shm_39 f3) (shm_1255 f4) (shm_1376 f5) (shm_1256 f6) (shm_1378 f7) (shm_1256 f8) (shm_1379 f9) (shm_709 f10) (shm_419 f11) (shm_1380 f12) (shm_384 f13) (shm_614 f14) hK_0_140 hK_0_143 kz_0_146 kz_0_147
  have rf17 : tv_ok ta (0, 1, 6000, []) (n_v vs 17) := tv_in t17 (by first | omega | grind) (by first | omega | grind)
  refine ⟨List.forall_mem_cons.mpr ⟨rf17, (fun _ h => (by cases h))⟩, [], trivial, ?_, (fun _ h => (by cases h))⟩
  rw [List.append_nil]
  exact (fun _ h => (by cases h))
set_option maxHeartbeats 4000000 in
theorem vc_Mo_bendsBecome_14_r0 (x3 : Int) (x5 : Int) (x6 : Int) (x7 : Int) (x9 : Int) (x10 : Int) (x11 : Int) (x12 : Int) (x13 : Int) (x14 : Int) (x17 : Int) (x18 : Int) (x22 : Int) (x24 : Int) (wide_0 : Int) (tall_0 : Int) (barredPoint_0 : Int → Int) (costOf_0 : Int → Int) (wide_1 : Int) (tall_1 : Int) (barredPoint_1 : Int → Int) (costOf_1 : Int → Int) (wide_2 : Int) (tall_2 : Int) (barredPoint_2 : Int → Int) (costOf_2 : Int → Int) (turnX_0 : Int → Int) (turnX_1 : Int → Int) (turnX_2 : Int → Int) (x19 : Int) (turnY_0 : Int → Int) (turnY_1 : Int → Int) (x23 : Int) (turnY_2 : Int → Int) (k3 : 0 ≤ x3 ∧ x3 ≤ 5999) (k5 : 0 ≤ x5 ∧ x5 ≤ 24) (k6 : 0 ≤ x6 ∧ x6 ≤ 5999) (k7 : 0 ≤ x7 ∧ x7 ≤ 3) (k9 : 0 ≤ x9 ∧ x9 ≤ 1000000) (k10 : (-1) ≤ x10 ∧ x10 ≤ 3) (k11 : 0 ≤ x11 ∧ x11 ≤ 999999) (k12 : (-1) ≤ x12 ∧ x12 ≤ (-1)) (k13 : (-2) ≤ x13 ∧ x13 ≤ 1000000) (k14 : 25 ≤ x14 ∧ x14 ≤ 25) (k17 : 1 ≤ x17 ∧ x17 ≤ 6000) (k18 : 0 ≤ x18 ∧ x18 ≤ 5999) (k22 : 0 ≤ x22 ∧ x22 ≤ 5999) (k24 : 1 ≤ x24 ∧ x24 ≤ 25) (d0 : x5 + 1 ≤ x24 ∧ x24 ≤ x5 + 1) (d1 : x17 + (-4294967295) ≤ x18 ∧ x18 ≤ x17 + (-1)) (d2 : x9 + (-4294967296) ≤ x10 ∧ x10 ≤ x9 + 2) (d3 : x9 + (-4294967296) ≤ x11 ∧ x11 ≤ x9 + 0) (f0 : x24 = x5 + 1) (f1 : GRX (wide_0) (tall_0)) (f2 : RTV (wide_0) (tall_0) (barredPoint_0) (costOf_0) (x3)) (f3 : (0 ≤ x3) ∧ ((x3 + 1) ≤ (wide_0 * tall_0))) (f4 : BB2 (wide_0) (tall_0) (barredPoint_0) (costOf_0) (x6) (x7) (x9)) (f5 : (0 ≤ x6) ∧ ((x6 + 1) ≤ (wide_0 * tall_0))) (f6 : (x5 + x9) ≤ 1000000) (f7 : 0 ≤ x5) (f8 : x6 ≠ x3) (f9 : BB3 (wide_0) (tall_0) (barredPoint_0) (costOf_0) (x6) (x7) (x9) (x10) (x11) (x12)) (f10 : (0 ≤ x9) ∧ (x9 ≤ x13)) (f11 : (-1) * x13 + 0 ≤ (-1)) (f13 : x22 = Int.tdiv (x6) (x17)) (g14 : x17 = wide_1) (f16 : GRX (wide_1) (tall_1)) (f17 : RTV (wide_1) (tall_1) (barredPoint_1) (costOf_1) (x3)) (f18 : (0 ≤ x3) ∧ ((x3 + 1) ≤ (wide_1 * tall_1))) (f19 : BB2 (wide_1) (tall_1) (barredPoint_1) (costOf_1) (x6) (x7) (x9)) (f20 : (0 ≤ x6) ∧ ((x6 + 1) ≤ (wide_1 * tall_1))) (f21 : (x5 + x9) ≤ 1000000) (f22 : 0 ≤ x5) (f23 : x6 ≠ x3) (f24 : BB3 (wide_1) (tall_1) (barredPoint_1) (costOf_1) (x6) (x7) (x9) (x10) (x11) (x12)) (f25 : (0 ≤ x9) ∧ (x9 ≤ x13)) (f26 : (-1) * x13 + 0 ≤ (-1)) (f28 : x18 = Int.tmod (x6) (x17)) (f30 : x5 < x14) (f31 : x10 ≠ x7) (f32 : x12 < 0) (f33 : GRX (wide_2) (tall_2)) (f34 : RTV (wide_2) (tall_2) (barredPoint_2) (costOf_2) (x3)) (f35 : (0 ≤ x3) ∧ ((x3 + 1) ≤ (wide_2 * tall_2))) (f36 : BB2 (wide_2) (tall_2) (barredPoint_2) (costOf_2) (x6) (x7) (x9)) (f37 : (0 ≤ x6) ∧ ((x6 + 1) ≤ (wide_2 * tall_2))) (f38 : (x5 + x9) ≤ 1000000) (f39 : 0 ≤ x5) (f40 : x6 ≠ x3) (f41 : BB3 (wide_2) (tall_2) (barredPoint_2) (costOf_2) (x6) (x7) (x9) (x10) (x11) (x12)) (f42 : (0 ≤ x9) ∧ (x9 ≤ x13)) (f43 : (-1) * x13 + 0 ≤ (-1)) (fe_0_146_1 : wide_0 = wide_1) (fe_0_147_1 : tall_0 = tall_1) (fe_0_146_2 : wide_1 = wide_2) (fe_0_147_2 : tall_1 = tall_2) (hE_0_140_1 : ∀ j : Int, costOf_0 j = costOf_1 j) (hE_0_140_2 : ∀ j : Int, costOf_1 j = costOf_2 j) (hK_0_140 : ∀ j : Int, 0 ≤ j → j < 24000 → 0 ≤ costOf_0 j ∧ costOf_0 j ≤ 1000000) (hE_0_143_1 : ∀ j : Int, barredPoint_0 j = barredPoint_1 j) (hE_0_143_2 : ∀ j : Int, barredPoint_1 j = barredPoint_2 j) (hK_0_143 : ∀ j : Int, 0 ≤ j → j < 6000 → 0 ≤ barredPoint_0 j ∧ barredPoint_0 j ≤ 1) (hE_0_148_1 : ∀ j : Int, turnX_0 j = turnX_1 j) (hE_0_148_2 : ∀ j : Int, 0 ≤ j → (j = x5 → turnX_1 j = x19) ∧ (j ≠ x5 → turnX_1 j = turnX_2 j)) (hK_0_148 : ∀ j : Int, 0 ≤ j → j < 26 → (-300000011) ≤ turnX_0 j ∧ turnX_0 j ≤ 2005999) (hE_0_149_1 : ∀ j : Int, 0 ≤ j → (j = x5 → turnY_0 j = x23) ∧ (j ≠ x5 → turnY_0 j = turnY_1 j)) (hE_0_149_2 : ∀ j : Int, turnY_1 j = turnY_2 j) (hK_0_149 : ∀ j : Int, 0 ≤ j → j < 26 → (-300000003) ≤ turnY_0 j ∧ turnY_0 j ≤ 2005999) (kz_0_146 : (-3999999) ≤ wide_0 ∧ wide_0 ≤ 600000023) (kz_0_147 : (-3999999) ≤ tall_0 ∧ tall_0 ≤ 600000007) : 0 ≤ x10 ∧ x10 ≤ 3 := by
  subst fe_0_146_1
  subst fe_0_147_1
  subst fe_0_146_2
  subst fe_0_147_2
  have e_hE_0_140_1 := funext hE_0_140_1; subst e_hE_0_140_1
  have e_hE_0_140_2 := funext hE_0_140_2; subst e_hE_0_140_2
  have e_hE_0_143_1 := funext hE_0_143_1; subst e_hE_0_143_1
  have e_hE_0_143_2 := funext hE_0_143_2; subst e_hE_0_143_2
  have e_hE_0_148_1 := funext hE_0_148_1; subst e_hE_0_148_1
  have e_hE_0_149_2 := funext hE_0_149_2; subst e_hE_0_149_2
  first
    | omega
    | (have g := gok_bd ‹GRX _ _›; omega)
    | (have h := bb_next ‹RTV _ _ _ _ _› ‹BB2 _ _ _ _ _ _ _› ‹BB3 _ _ _ _ _ _ _ _ _ _› (by omega) (by omega)
       have h1 := h.1.1
       have h2 := h.2
       omega)
    | (obtain ⟨⟨mf, q, n1, n2, n3, n4⟩, u0, u1⟩ := bb_next ‹RTV _ _ _ _ _› ‹BB2 _ _ _ _ _ _ _› ‹BB3 _ _ _ _ _ _ _ _ _ _› (by omega) (by omega)
       have e := ‹STQ _ _ _ _ _ _›.2.2 q n1 n2
       have i := nb_in n1 (by have g := gok_bd ‹GRX _ _›; omega)
       have g3 := ‹GRX _ _›.2.2
       omega)
def o_Mo_bendsBecome_14 : or_T := (258, 25, [(0, (2, 0, 0, [165])), (3, (0, 0, 5999, [])), (5, (0, 0, 24, [])), (6, (0, 0, 5999, [])), (7, (0, 0, 3, [])), (9, (0, 0, 1000000, [])), (10, (0, -1, 3, [])), (11, (0, 0, 999999, [])), (12, (0, -1, -1, [])), (13, (0, -2, 1000000, [])), (14, (0, 25, 25, [])), (15, (2, 0, 0, [270])), (17, (0, 1, 6000, [])), (18, (0, 0, 5999, [])), (20, (2, 0, 0, [271])), (22, (0, 0, 5999, [])), (24, (0, 1, 25, []))], [(6, [24, 5], [1]), (20, [0], [60, 2, 0, 494, 146, 147]), (20, [0, 3], [60, 2, 2, 504, 146, 147, 143, 140]), (20, [3, 0], [50, 2, 0, 1146, 1147, 2, 6, 0, 2, 0, 0, 1, 0, 0, 6, 4, 2, 1, 0, 0, 1, 6, 3, 2, 1, 146, 2, 1, 147]), (20, [0, 6, 7, 9], [60, 2, 2, 507, 146, 147, 143, 140]), (20, [6, 0], [50, 2, 0, 1146, 1147, 2, 6, 0, 2, 0, 0, 1, 0, 0, 6, 4, 2, 1, 0, 0, 1, 6, 3, 2, 1, 146, 2, 1, 147]), (20, [5, 9], [50, 0, 0, 0, 6, 4, 2, 1, 0, 1, 1, 0, 1000000]), (20, [5], [50, 0, 0, 0, 2, 0, 0, 1, 0]), (20, [6, 3], [50, 0, 0, 7, 2, 1, 0, 1, 1]), (20, [0, 6, 7, 9, 10, 11, 12], [60, 2, 2, 508, 146, 147, 143, 140]), (20, [9, 13], [50, 0, 0, 2, 6, 0, 2, 0, 0, 1, 0, 0, 2, 1, 0, 1, 1]), (23, [13], [-1, -1]), (100, [20, 5, 23], []), (4, [22, 6, 17], []), (9, [17, 0], [146]), (9, [20, 0], [149]), (20, [0], [60, 2, 0, 494, 146, 147]), (20, [0, 3], [60, 2, 2, 504, 146, 147, 143, 140]), (20, [3, 0], [50, 2, 0, 1146, 1147, 2, 6, 0, 2, 0, 0, 1, 0, 0, 6, 4, 2, 1, 0, 0, 1, 6, 3, 2, 1, 146, 2, 1, 147]), (20, [0, 6, 7, 9], [60, 2, 2, 507, 146, 147, 143, 140]), (20, [6, 0], [50, 2, 0, 1146, 1147, 2, 6, 0, 2, 0, 0, 1, 0, 0, 6, 4, 2, 1, 0, 0, 1, 6, 3, 2, 1, 146, 2, 1, 147]), (20, [5, 9], [50, 0, 0, 0, 6, 4, 2, 1, 0, 1, 1, 0, 1000000]), (20, [5], [50, 0, 0, 0, 2, 0, 0, 1, 0]), (20, [6, 3], [50, 0, 0, 7, 2, 1, 0, 1, 1]), (20, [0, 6, 7, 9, 10, 11, 12], [60, 2, 2, 508, 146, 147, 143, 140]), (20, [9, 13], [50, 0, 0, 2, 6, 0, 2, 0, 0, 1, 0, 0, 2, 1, 0, 1, 1]), (23, [13], [-1, -1]), (100, [15, 5, 19], []), (5, [18, 6, 17], []), (9, [15, 0], [148]), (7, [5, 14], [2]), (7, [10, 7], [1]), (8, [12], [2]), (20, [0], [60, 2, 0, 494, 146, 147]), (20, [0, 3], [60, 2, 2, 504, 146, 147, 143, 140]), (20, [3, 0], [50, 2, 0, 1146, 1147, 2, 6, 0, 2, 0, 0, 1, 0, 0, 6, 4, 2, 1, 0, 0, 1, 6, 3, 2, 1, 146, 2, 1, 147]), (20, [0, 6, 7, 9], [60, 2, 2, 507, 146, 147, 143, 140]), (20, [6, 0], [50, 2, 0, 1146, 1147, 2, 6, 0, 2, 0, 0, 1, 0, 0, 6, 4, 2, 1, 0, 0, 1, 6, 3, 2, 1, 146, 2, 1, 147]), (20, [5, 9], [50, 0, 0, 0, 6, 4, 2, 1, 0, 1, 1, 0, 1000000]), (20, [5], [50, 0, 0, 0, 2, 0, 0, 1, 0]), (20, [6, 3], [50, 0, 0, 7, 2, 1, 0, 1, 1]), (20, [0, 6, 7, 9, 10, 11, 12], [60, 2, 2, 508, 146, 147, 143, 140]), (20, [9, 13], [50, 0, 0, 2, 6, 0, 2, 0, 0, 1, 0, 0, 2, 1, 0, 1, 1]), (23, [13], [-1, -1])], [(10, (0, 0, 3, []))], [], [], [], [(24, 5, 1, 1), (18, 17, -4294967295, -1), (10, 9, -4294967296, 2), (11, 9, -4294967296, 0)])
theorem oo_Mo_bendsBecome_14 {kA : Nat → ClassId} : or_ok PRD kA GG o_Mo_bendsBecome_14 := by
  refine or_mk fun A ta ws vs hD hth hl => ?_
  intro t0 r0 t3 k3 t5 k5 t6 k6 t7 k7 t9 k9 t10 k10 t11 k11 t12 k12 t13 k13 t14 k14 t15 r15 t17 k17 t18 k18 t20 r20 t22 k22 t24 k24 d0 d1 d2 d3 f0 f1 f2 f3 f4 f5 f6 f7 f8 f9 f10 f11 ta1 w1 le1 s1 f13 f14 f15 f16 f17 f18 f19 f20 f21 f22 f23 f24 f25 f26 ta2 w2 le2 s2 f28 f29 f30 f31 f32 f33 f34 f35 f36 f37 f38 f39 f40 f41 f42 f43
  have s1 : (∀ b j, w_el ws b j = if b = v_ad (n_v vs 20) ∧ j = (v_iv (n_v vs 5)).toNat then v_iv (n_v vs 23) else w_el w1 b j) ∧ ∀ b k, w_fd ws b k = w_fd w1 b k := s1.2
  replace f13 := shm_34 f13
  replace f14 := shm_1254 f14
  replace f15 := shm_1381 f15
  replace f17 := shm_1376 f17
  replace f19 := shm_1378 f19
  replace f24 := shm_1380 f24
  have s2 : (∀ b j, w_el w1 b j = if b = v_ad (n_v vs 15) ∧ j = (v_iv (n_v vs 5)).toNat then v_iv (n_v vs 19) else w_el w2 b j) ∧ ∀ b k, w_fd w1 b k = w_fd w2 b k := s2.2
  replace f29 := shm_1382 f29
  replace f34 := shm_1376 f34
  replace f36 := shm_1378 f36
  replace f41 := shm_1380 f41
  have ar_0_140_1 : w_ar w1 (n_v vs 0) 140 = w_ar ws (n_v vs 0) 140 := congrArg v_ad (s1.2 _ _).symm
  have ar_0_140_2 : w_ar w2 (n_v vs 0) 140 = w_ar ws (n_v vs 0) 140 := by rw [← ar_0_140_1]; show v_ad (w_fd w2 _ _) = v_ad (w_fd w1 _ _); rw [s2.2]
  have cr_0_140 := fdq_174 hD hth r0
  have ar_0_143_1 : w_ar w1 (n_v vs 0) 143 = w_ar ws (n_v vs 0) 143 := congrArg v_ad (s1.2 _ _).symm
  have ar_0_143_2 : w_ar w2 (n_v vs 0) 143 = w_ar ws (n_v vs 0) 143 := by rw [← ar_0_143_1]; show v_ad (w_fd w2 _ _) = v_ad (w_fd w1 _ _); rw [s2.2]
  have cr_0_143 := fdq_177 hD hth r0
  have ar_0_148_1 : w_ar w1 (n_v vs 0) 148 = w_ar ws (n_v vs 0) 148 := congrArg v_ad (s1.2 _ _).symm
  have ar_0_148_2 : w_ar w2 (n_v vs 0) 148 = w_ar ws (n_v vs 0) 148 := by rw [← ar_0_148_1]; show v_ad (w_fd w2 _ _) = v_ad (w_fd w1 _ _); rw [s2.2]
  have cr_0_148 := fdq_284 hD hth r0
  have ar_0_149_1 : w_ar w1 (n_v vs 0) 149 = w_ar ws (n_v vs 0) 149 := congrArg v_ad (s1.2 _ _).symm
  have cr_0_149 := fdq_285 hD hth r0
  have ad_20 : v_ad (n_v vs 20) = w_ar ws (n_v vs 0) 149 := (congrArg v_ad f15).trans ar_0_149_1
  have ad_15 : v_ad (n_v vs 15) = w_ar ws (n_v vs 0) 148 := (congrArg v_ad f29).trans ar_0_148_2
  have g14 : v_iv (n_v vs 17) = w_fi w1 (n_v vs 0) 146 := congrArg v_iv f14
  simp only [ar_0_140_1, ar_0_143_1, ar_0_140_2, ar_0_143_2] at f17 f19 f24 f34 f36 f41
  have fe_0_146_1 : w_fi ws (n_v vs 0) 146 = w_fi w1 (n_v vs 0) 146 := congrArg v_iv (s1.2 _ _)
  have fe_0_147_1 : w_fi ws (n_v vs 0) 147 = w_fi w1 (n_v vs 0) 147 := congrArg v_iv (s1.2 _ _)
  have fe_0_146_2 : w_fi w1 (n_v vs 0) 146 = w_fi w2 (n_v vs 0) 146 := congrArg v_iv (s2.2 _ _)
  have fe_0_147_2 : w_fi w1 (n_v vs 0) 147 = w_fi w2 (n_v vs 0) 147 := congrArg v_iv (s2.2 _ _)
  have hE_0_140_1 : ∀ j : Int, w_ei ws (w_ar ws (n_v vs 0) 140) j = w_ei w1 (w_ar ws (n_v vs 0) 140) j := el_kp s1.1 r20 cr_0_140 (by decide)
  have hE_0_140_2 : ∀ j : Int, w_ei w1 (w_ar ws (n_v vs 0) 140) j = w_ei w2 (w_ar ws (n_v vs 0) 140) j := el_kp s2.1 r15 cr_0_140 (by decide)
  have hK_0_140 := elq_101 hD hth cr_0_140
  have hE_0_143_1 : ∀ j : Int, w_ei ws (w_ar ws (n_v vs 0) 143) j = w_ei w1 (w_ar ws (n_v vs 0) 143) j := el_kp s1.1 r20 cr_0_143 (by decide)
  have hE_0_143_2 : ∀ j : Int, w_ei w1 (w_ar ws (n_v vs 0) 143) j = w_ei w2 (w_ar ws (n_v vs 0) 143) j := el_kp s2.1 r15 cr_0_143 (by decide)
  have hK_0_143 := elq_104 hD hth cr_0_143
  have hE_0_148_1 : ∀ j : Int, w_ei ws (w_ar ws (n_v vs 0) 148) j = w_ei w1 (w_ar ws (n_v vs 0) 148) j := el_kp s1.1 r20 cr_0_148 (by decide)
  have hE_0_148_2 : ∀ j : Int, 0 ≤ j → (j = v_iv (n_v vs 5) → w_ei w1 (w_ar ws (n_v vs 0) 148) j = v_iv (n_v vs 19)) ∧ (j ≠ v_iv (n_v vs 5) → w_ei w1 (w_ar ws (n_v vs 0) 148) j = w_ei w2 (w_ar ws (n_v vs 0) 148) j) := fun j hj => ⟨fun h => by unfold w_ei; rw [s2.1, if_pos ⟨ad_15.symm, by rw [h]⟩], fun h => by unfold w_ei; rw [s2.1, if_neg (fun e => h (by have := e.2; omega))]⟩
  have hK_0_148 := elq_180 hD hth cr_0_148
  have hE_0_149_1 : ∀ j : Int, 0 ≤ j → (j = v_iv (n_v vs 5) → w_ei ws (w_ar ws (n_v vs 0) 149) j = v_iv (n_v vs 23)) ∧ (j ≠ v_iv (n_v vs 5) → w_ei ws (w_ar ws (n_v vs 0) 149) j = w_ei w1 (w_ar ws (n_v vs 0) 149) j) := fun j hj => ⟨fun h => by unfold w_ei; rw [s1.1, if_pos ⟨ad_20.symm, by rw [h]⟩], fun h => by unfold w_ei; rw [s1.1, if_neg (fun e => h (by have := e.2; omega))]⟩
  have hE_0_149_2 : ∀ j : Int, w_ei w1 (w_ar ws (n_v vs 0) 149) j = w_ei w2 (w_ar ws (n_v vs 0) 149) j := el_kp s2.1 r15 cr_0_149 (by decide)
  have hK_0_149 := elq_181 hD hth cr_0_149
  have kz_0_146 := fdq_178 hD hth r0
  have kz_0_147 := fdq_179 hD hth r0
  have hrf0 : 0 ≤ v_iv (n_v vs 10) ∧ v_iv (n_v vs 10) ≤ 3 := vc_Mo_bendsBecome_14_r0 (v_iv (n_v vs 3)) (v_iv (n_v vs 5)) (v_iv (n_v vs 6)) (v_iv (n_v vs 7)) (v_iv (n_v vs 9)) (v_iv (n_v vs 10)) (v_iv (n_v vs 11)) (v_iv (n_v vs 12)) (v_iv (n_v vs 13)) (v_iv (n_v vs 14)) (v_iv (n_v vs 17)) (v_iv (n_v vs 18)) (v_iv (n_v vs 22)) (v_iv (n_v vs 24)) (w_fi ws (n_v vs 0) 146) (w_fi ws (n_v vs 0) 147) (w_ei ws (w_ar ws (n_v vs 0) 143)) (w_ei ws (w_ar ws (n_v vs 0) 140)) (w_fi w1 (n_v vs 0) 146) (w_fi w1 (n_v vs 0) 147) (w_ei w1 (w_ar ws (n_v vs 0) 143)) (w_ei w1 (w_ar ws (n_v vs 0) 140)) (w_fi w2 (n_v vs 0) 146) (w_fi w2 (n_v vs 0) 147) (w_ei w2 (w_ar ws (n_v vs 0) 143)) (w_ei w2 (w_ar ws (n_v vs 0) 140)) (w_ei ws (w_ar ws (n_v vs 0) 148)) (w_ei w1 (w_ar ws (n_v vs 0) 148)) (w_ei w2 (w_ar ws (n_v vs 0) 148)) (v_iv (n_v vs 19)) (w_ei ws (w_ar ws (n_v vs 0) 149)) (w_ei w1 (w_ar ws (n_v vs 0) 149)) (v_iv (n_v vs 23)) (w_ei w2 (w_ar ws (n_v vs 0) 149)) k3 k5 k6 k7 k9 k10 k11 k12 k13 k14 k17 k18 k22 k24 d0 d1 d2 d3 (shm_4 f0) (shm_1255 f1) (shm_1376 f2) (shm_1256 f3) (shm_1378 f4) (shm_1256 f5) (shm_1379 f6) (shm_709 f7) (shm_419 f8) (shm_1380 f9) (shm_384 f10) (shm_614 f11) f13 g14 (shm_1255 f16) f17 (shm_1256 f18) f19 (shm_1256 f20) (shm_1379 f21) (shm_709 f22) (shm_419 f23) f24 (shm_384 f25) (shm_614 f26) (shm_462 f28) (shm_6 f30) (shm_40 f31) (shm_39 f32) (shm_1255 f33) f34 (shm_1256 f35) f36 (shm_1256 f37) (shm_1379 f38) (shm_709 f39) (shm_419 f40) f41 (shm_384 f42) (shm_614 f43) fe_0_146_1 fe_0_147_1 fe_0_146_2 fe_0_147_2 hE_0_140_1 hE_0_140_2 hK_0_140 hE_0_143_1 hE_0_143_2 hK_0_143 hE_0_148_1 hE_0_148_2 hK_0_148 hE_0_149_1 hE_0_149_2 hK_0_149 kz_0_146 kz_0_147
  have rf10 : tv_ok ta (0, 0, 3, []) (n_v vs 10) := tv_in t10 (by first | omega | grind) (by first | omega | grind)
  refine ⟨List.forall_mem_cons.mpr ⟨rf10, (fun _ h => (by cases h))⟩, [], trivial, ?_, (fun _ h => (by cases h))⟩
  rw [List.append_nil]
  exact (fun _ h => (by cases h))
set_option maxHeartbeats 4000000 in
theorem vc_Mo_bendsBecome_15_r0 (x3 : Int) (x5 : Int) (x6 : Int) (x7 : Int) (x9 : Int) (x10 : Int) (x11 : Int) (x12 : Int) (x13 : Int) (x14 : Int) (x17 : Int) (x18 : Int) (x22 : Int) (x24 : Int) (x25 : Int) (barredPoint_0 : Int → Int) (wide_0 : Int) (tall_0 : Int) (costOf_0 : Int → Int) (wide_1 : Int) (tall_1 : Int) (barredPoint_1 : Int → Int) (costOf_1 : Int → Int) (wide_2 : Int) (tall_2 : Int) (barredPoint_2 : Int → Int) (costOf_2 : Int → Int) (turnX_0 : Int → Int) (turnX_1 : Int → Int) (turnX_2 : Int → Int) (x19 : Int) (turnY_0 : Int → Int) (turnY_1 : Int → Int) (x23 : Int) (turnY_2 : Int → Int) (k3 : 0 ≤ x3 ∧ x3 ≤ 5999) (k5 : 0 ≤ x5 ∧ x5 ≤ 24) (k6 : 0 ≤ x6 ∧ x6 ≤ 5999) (k7 : 0 ≤ x7 ∧ x7 ≤ 3) (k9 : 0 ≤ x9 ∧ x9 ≤ 1000000) (k10 : 0 ≤ x10 ∧ x10 ≤ 3) (k11 : 0 ≤ x11 ∧ x11 ≤ 999999) (k12 : (-1) ≤ x12 ∧ x12 ≤ (-1)) (k13 : (-2) ≤ x13 ∧ x13 ≤ 1000000) (k14 : 25 ≤ x14 ∧ x14 ≤ 25) (k17 : 1 ≤ x17 ∧ x17 ≤ 6000) (k18 : 0 ≤ x18 ∧ x18 ≤ 5999) (k22 : 0 ≤ x22 ∧ x22 ≤ 5999) (k24 : 1 ≤ x24 ∧ x24 ≤ 25) (k25 : (-1) ≤ x25 ∧ x25 ≤ 5999) (d0 : x5 + 1 ≤ x24 ∧ x24 ≤ x5 + 1) (d1 : x17 + (-4294967295) ≤ x18 ∧ x18 ≤ x17 + (-1)) (d2 : x9 + (-4294967296) ≤ x10 ∧ x10 ≤ x9 + 2) (d3 : x9 + (-4294967296) ≤ x11 ∧ x11 ≤ x9 + 0) (f0 : STQ (wide_0) (tall_0) (barredPoint_0) (x6) (x10) (x25)) (f1 : ((-1) ≤ x25) ∧ ((x25 + 1) ≤ (wide_0 * tall_0))) (f2 : x24 = x5 + 1) (f3 : GRX (wide_0) (tall_0)) (f4 : RTV (wide_0) (tall_0) (barredPoint_0) (costOf_0) (x3)) (f5 : (0 ≤ x3) ∧ ((x3 + 1) ≤ (wide_0 * tall_0))) (f6 : BB2 (wide_0) (tall_0) (barredPoint_0) (costOf_0) (x6) (x7) (x9)) (f7 : (0 ≤ x6) ∧ ((x6 + 1) ≤ (wide_0 * tall_0))) (f8 : (x5 + x9) ≤ 1000000) (f9 : 0 ≤ x5) (f10 : x6 ≠ x3) (f11 : BB3 (wide_0) (tall_0) (barredPoint_0) (costOf_0) (x6) (x7) (x9) (x10) (x11) (x12)) (f12 : (0 ≤ x9) ∧ (x9 ≤ x13)) (f13 : (-1) * x13 + 0 ≤ (-1)) (f15 : x22 = Int.tdiv (x6) (x17)) (g16 : x17 = wide_1) (f18 : GRX (wide_1) (tall_1)) (f19 : RTV (wide_1) (tall_1) (barredPoint_1) (costOf_1) (x3)) (f20 : (0 ≤ x3) ∧ ((x3 + 1) ≤ (wide_1 * tall_1))) (f21 : BB2 (wide_1) (tall_1) (barredPoint_1) (costOf_1) (x6) (x7) (x9)) (f22 : (0 ≤ x6) ∧ ((x6 + 1) ≤ (wide_1 * tall_1))) (f23 : (x5 + x9) ≤ 1000000) (f24 : 0 ≤ x5) (f25 : x6 ≠ x3) (f26 : BB3 (wide_1) (tall_1) (barredPoint_1) (costOf_1) (x6) (x7) (x9) (x10) (x11) (x12)) (f27 : (0 ≤ x9) ∧ (x9 ≤ x13)) (f28 : (-1) * x13 + 0 ≤ (-1)) (f30 : x18 = Int.tmod (x6) (x17)) (f32 : x5 < x14) (f33 : x10 ≠ x7) (f34 : x12 < 0) (f35 : GRX (wide_2) (tall_2)) (f36 : RTV (wide_2) (tall_2) (barredPoint_2) (costOf_2) (x3)) (f37 : (0 ≤ x3) ∧ ((x3 + 1) ≤ (wide_2 * tall_2))) (f38 : BB2 (wide_2) (tall_2) (barredPoint_2) (costOf_2) (x6) (x7) (x9)) (f39 : (0 ≤ x6) ∧ ((x6 + 1) ≤ (wide_2 * tall_2))) (f40 : (x5 + x9) ≤ 1000000) (f41 : 0 ≤ x5) (f42 : x6 ≠ x3) (f43 : BB3 (wide_2) (tall_2) (barredPoint_2) (costOf_2) (x6) (x7) (x9) (x10) (x11) (x12)) (f44 : (0 ≤ x9) ∧ (x9 ≤ x13)) (f45 : (-1) * x13 + 0 ≤ (-1)) (fe_0_146_1 : wide_0 = wide_1) (fe_0_147_1 : tall_0 = tall_1) (fe_0_146_2 : wide_1 = wide_2) (fe_0_147_2 : tall_1 = tall_2) (hE_0_140_1 : ∀ j : Int, costOf_0 j = costOf_1 j) (hE_0_140_2 : ∀ j : Int, costOf_1 j = costOf_2 j) (hK_0_140 : ∀ j : Int, 0 ≤ j → j < 24000 → 0 ≤ costOf_0 j ∧ costOf_0 j ≤ 1000000) (hE_0_143_1 : ∀ j : Int, barredPoint_0 j = barredPoint_1 j) (hE_0_143_2 : ∀ j : Int, barredPoint_1 j = barredPoint_2 j) (hK_0_143 : ∀ j : Int, 0 ≤ j → j < 6000 → 0 ≤ barredPoint_0 j ∧ barredPoint_0 j ≤ 1) (hE_0_148_1 : ∀ j : Int, turnX_0 j = turnX_1 j) (hE_0_148_2 : ∀ j : Int, 0 ≤ j → (j = x5 → turnX_1 j = x19) ∧ (j ≠ x5 → turnX_1 j = turnX_2 j)) (hK_0_148 : ∀ j : Int, 0 ≤ j → j < 26 → (-300000011) ≤ turnX_0 j ∧ turnX_0 j ≤ 2005999) (hE_0_149_1 : ∀ j : Int, 0 ≤ j → (j = x5 → turnY_0 j = x23) ∧ (j ≠ x5 → turnY_0 j = turnY_1 j)) (hE_0_149_2 : ∀ j : Int, turnY_1 j = turnY_2 j) (hK_0_149 : ∀ j : Int, 0 ≤ j → j < 26 → (-300000003) ≤ turnY_0 j ∧ turnY_0 j ≤ 2005999) (kz_0_146 : (-3999999) ≤ wide_0 ∧ wide_0 ≤ 600000023) (kz_0_147 : (-3999999) ≤ tall_0 ∧ tall_0 ≤ 600000007) : 0 ≤ x25 ∧ x25 ≤ 5999 := by
  subst fe_0_146_1
  subst fe_0_147_1
  subst fe_0_146_2
  subst fe_0_147_2
  have e_hE_0_140_1 := funext hE_0_140_1; subst e_hE_0_140_1
  have e_hE_0_140_2 := funext hE_0_140_2; subst e_hE_0_140_2
  have e_hE_0_143_1 := funext hE_0_143_1; subst e_hE_0_143_1
  have e_hE_0_143_2 := funext hE_0_143_2; subst e_hE_0_143_2
  have e_hE_0_148_1 := funext hE_0_148_1; subst e_hE_0_148_1
  have e_hE_0_149_2 := funext hE_0_149_2; subst e_hE_0_149_2
  first
    | omega
    | (have g := gok_bd ‹GRX _ _›; omega)
    | (have h := bb_next ‹RTV _ _ _ _ _› ‹BB2 _ _ _ _ _ _ _› ‹BB3 _ _ _ _ _ _ _ _ _ _› (by omega) (by omega)
       have h1 := h.1.1
       have h2 := h.2
       omega)
    | (obtain ⟨⟨mf, q, n1, n2, n3, n4⟩, u0, u1⟩ := bb_next ‹RTV _ _ _ _ _› ‹BB2 _ _ _ _ _ _ _› ‹BB3 _ _ _ _ _ _ _ _ _ _› (by omega) (by omega)
       have e := ‹STQ _ _ _ _ _ _›.2.2 q n1 n2
       have i := nb_in n1 (by have g := gok_bd ‹GRX _ _›; omega)
       have g3 := ‹GRX _ _›.2.2
       omega)
def o_Mo_bendsBecome_15 : or_T := (272, 26, [(0, (2, 0, 0, [165])), (3, (0, 0, 5999, [])), (5, (0, 0, 24, [])), (6, (0, 0, 5999, [])), (7, (0, 0, 3, [])), (9, (0, 0, 1000000, [])), (10, (0, 0, 3, [])), (11, (0, 0, 999999, [])), (12, (0, -1, -1, [])), (13, (0, -2, 1000000, [])), (14, (0, 25, 25, [])), (15, (2, 0, 0, [270])), (17, (0, 1, 6000, [])), (18, (0, 0, 5999, [])), (20, (2, 0, 0, [271])), (22, (0, 0, 5999, [])), (24, (0, 1, 25, [])), (25, (0, -1, 5999, []))], [(20, [0, 6, 10, 25], [60, 2, 1, 505, 146, 147, 143]), (20, [25, 0], [50, 2, 0, 1146, 1147, 2, 6, 0, 2, 0, -1, 1, 0, 0, 6, 4, 2, 1, 0, 0, 1, 6, 3, 2, 1, 146, 2, 1, 147]), (6, [24, 5], [1]), (20, [0], [60, 2, 0, 494, 146, 147]), (20, [0, 3], [60, 2, 2, 504, 146, 147, 143, 140]), (20, [3, 0], [50, 2, 0, 1146, 1147, 2, 6, 0, 2, 0, 0, 1, 0, 0, 6, 4, 2, 1, 0, 0, 1, 6, 3, 2, 1, 146, 2, 1, 147]), (20, [0, 6, 7, 9], [60, 2, 2, 507, 146, 147, 143, 140]), (20, [6, 0], [50, 2, 0, 1146, 1147, 2, 6, 0, 2, 0, 0, 1, 0, 0, 6, 4, 2, 1, 0, 0, 1, 6, 3, 2, 1, 146, 2, 1, 147]), (20, [5, 9], [50, 0, 0, 0, 6, 4, 2, 1, 0, 1, 1, 0, 1000000]), (20, [5], [50, 0, 0, 0, 2, 0, 0, 1, 0]), (20, [6, 3], [50, 0, 0, 7, 2, 1, 0, 1, 1]), (20, [0, 6, 7, 9, 10, 11, 12], [60, 2, 2, 508, 146, 147, 143, 140]), (20, [9, 13], [50, 0, 0, 2, 6, 0, 2, 0, 0, 1, 0, 0, 2, 1, 0, 1, 1]), (23, [13], [-1, -1]), (100, [20, 5, 23], []), (4, [22, 6, 17], []), (9, [17, 0], [146]), (9, [20, 0], [149]), (20, [0], [60, 2, 0, 494, 146, 147]), (20, [0, 3], [60, 2, 2, 504, 146, 147, 143, 140]), (20, [3, 0], [50, 2, 0, 1146, 1147, 2, 6, 0, 2, 0, 0, 1, 0, 0, 6, 4, 2, 1, 0, 0, 1, 6, 3, 2, 1, 146, 2, 1, 147]), (20, [0, 6, 7, 9], [60, 2, 2, 507, 146, 147, 143, 140]), (20, [6, 0], [50, 2, 0, 1146, 1147, 2, 6, 0, 2, 0, 0, 1, 0, 0, 6, 4, 2, 1, 0, 0, 1, 6, 3, 2, 1, 146, 2, 1, 147]), (20, [5, 9], [50, 0, 0, 0, 6, 4, 2, 1, 0, 1, 1, 0, 1000000]), (20, [5], [50, 0, 0, 0, 2, 0, 0, 1, 0]), (20, [6, 3], [50, 0, 0, 7, 2, 1, 0, 1, 1]), (20, [0, 6, 7, 9, 10, 11, 12], [60, 2, 2, 508, 146, 147, 143, 140]), (20, [9, 13], [50, 0, 0, 2, 6, 0, 2, 0, 0, 1, 0, 0, 2, 1, 0, 1, 1]), (23, [13], [-1, -1]), (100, [15, 5, 19], []), (5, [18, 6, 17], []), (9, [15, 0], [148]), (7, [5, 14], [2]), (7, [10, 7], [1]), (8, [12], [2]), (20, [0], [60, 2, 0, 494, 146, 147]), (20, [0, 3], [60, 2, 2, 504, 146, 147, 143, 140]), (20, [3, 0], [50, 2, 0, 1146, 1147, 2, 6, 0, 2, 0, 0, 1, 0, 0, 6, 4, 2, 1, 0, 0, 1, 6, 3, 2, 1, 146, 2, 1, 147]), (20, [0, 6, 7, 9], [60, 2, 2, 507, 146, 147, 143, 140]), (20, [6, 0], [50, 2, 0, 1146, 1147, 2, 6, 0, 2, 0, 0, 1, 0, 0, 6, 4, 2, 1, 0, 0, 1, 6, 3, 2, 1, 146, 2, 1, 147]), (20, [5, 9], [50, 0, 0, 0, 6, 4, 2, 1, 0, 1, 1, 0, 1000000]), (20, [5], [50, 0, 0, 0, 2, 0, 0, 1, 0]), (20, [6, 3], [50, 0, 0, 7, 2, 1, 0, 1, 1]), (20, [0, 6, 7, 9, 10, 11, 12], [60, 2, 2, 508, 146, 147, 143, 140]), (20, [9, 13], [50, 0, 0, 2, 6, 0, 2, 0, 0, 1, 0, 0, 2, 1, 0, 1, 1]), (23, [13], [-1, -1])], [(25, (0, 0, 5999, []))], [], [], [], [(24, 5, 1, 1), (18, 17, -4294967295, -1), (10, 9, -4294967296, 2), (11, 9, -4294967296, 0)])
theorem oo_Mo_bendsBecome_15 {kA : Nat → ClassId} : or_ok PRD kA GG o_Mo_bendsBecome_15 := by
  refine or_mk fun A ta ws vs hD hth hl => ?_
  intro t0 r0 t3 k3 t5 k5 t6 k6 t7 k7 t9 k9 t10 k10 t11 k11 t12 k12 t13 k13 t14 k14 t15 r15 t17 k17 t18 k18 t20 r20 t22 k22 t24 k24 t25 k25 d0 d1 d2 d3 f0 f1 f2 f3 f4 f5 f6 f7 f8 f9 f10 f11 f12 f13 ta1 w1 le1 s1 f15 f16 f17 f18 f19 f20 f21 f22 f23 f24 f25 f26 f27 f28 ta2 w2 le2 s2 f30 f31 f32 f33 f34 f35 f36 f37 f38 f39 f40 f41 f42 f43 f44 f45
  have s1 : (∀ b j, w_el ws b j = if b = v_ad (n_v vs 20) ∧ j = (v_iv (n_v vs 5)).toNat then v_iv (n_v vs 23) else w_el w1 b j) ∧ ∀ b k, w_fd ws b k = w_fd w1 b k := s1.2
  replace f15 := shm_34 f15
  replace f16 := shm_1254 f16
  replace f17 := shm_1381 f17
  replace f19 := shm_1376 f19
  replace f21 := shm_1378 f21
  replace f26 := shm_1380 f26
  have s2 : (∀ b j, w_el w1 b j = if b = v_ad (n_v vs 15) ∧ j = (v_iv (n_v vs 5)).toNat then v_iv (n_v vs 19) else w_el w2 b j) ∧ ∀ b k, w_fd w1 b k = w_fd w2 b k := s2.2
  replace f31 := shm_1382 f31
  replace f36 := shm_1376 f36
  replace f38 := shm_1378 f38
  replace f43 := shm_1380 f43
  have ar_0_140_1 : w_ar w1 (n_v vs 0) 140 = w_ar ws (n_v vs 0) 140 := congrArg v_ad (s1.2 _ _).symm
  have ar_0_140_2 : w_ar w2 (n_v vs 0) 140 = w_ar ws (n_v vs 0) 140 := by rw [← ar_0_140_1]; show v_ad (w_fd w2 _ _) = v_ad (w_fd w1 _ _); rw [s2.2]
  have cr_0_140 := fdq_174 hD hth r0
  have ar_0_143_1 : w_ar w1 (n_v vs 0) 143 = w_ar ws (n_v vs 0) 143 := congrArg v_ad (s1.2 _ _).symm
  have ar_0_143_2 : w_ar w2 (n_v vs 0) 143 = w_ar ws (n_v vs 0) 143 := by rw [← ar_0_143_1]; show v_ad (w_fd w2 _ _) = v_ad (w_fd w1 _ _); rw [s2.2]
  have cr_0_143 := fdq_177 hD hth r0
  have ar_0_148_1 : w_ar w1 (n_v vs 0) 148 = w_ar ws (n_v vs 0) 148 := congrArg v_ad (s1.2 _ _).symm
  have ar_0_148_2 : w_ar w2 (n_v vs 0) 148 = w_ar ws (n_v vs 0) 148 := by rw [← ar_0_148_1]; show v_ad (w_fd w2 _ _) = v_ad (w_fd w1 _ _); rw [s2.2]
  have cr_0_148 := fdq_284 hD hth r0
  have ar_0_149_1 : w_ar w1 (n_v vs 0) 149 = w_ar ws (n_v vs 0) 149 := congrArg v_ad (s1.2 _ _).symm
  have cr_0_149 := fdq_285 hD hth r0
  have ad_20 : v_ad (n_v vs 20) = w_ar ws (n_v vs 0) 149 := (congrArg v_ad f17).trans ar_0_149_1
  have ad_15 : v_ad (n_v vs 15) = w_ar ws (n_v vs 0) 148 := (congrArg v_ad f31).trans ar_0_148_2
  have g16 : v_iv (n_v vs 17) = w_fi w1 (n_v vs 0) 146 := congrArg v_iv f16
  simp only [ar_0_140_1, ar_0_143_1, ar_0_140_2, ar_0_143_2] at f19 f21 f26 f36 f38 f43
  have fe_0_146_1 : w_fi ws (n_v vs 0) 146 = w_fi w1 (n_v vs 0) 146 := congrArg v_iv (s1.2 _ _)
  have fe_0_147_1 : w_fi ws (n_v vs 0) 147 = w_fi w1 (n_v vs 0) 147 := congrArg v_iv (s1.2 _ _)
  have fe_0_146_2 : w_fi w1 (n_v vs 0) 146 = w_fi w2 (n_v vs 0) 146 := congrArg v_iv (s2.2 _ _)
  have fe_0_147_2 : w_fi w1 (n_v vs 0) 147 = w_fi w2 (n_v vs 0) 147 := congrArg v_iv (s2.2 _ _)
  have hE_0_140_1 : ∀ j : Int, w_ei ws (w_ar ws (n_v vs 0) 140) j = w_ei w1 (w_ar ws (n_v vs 0) 140) j := el_kp s1.1 r20 cr_0_140 (by decide)
  have hE_0_140_2 : ∀ j : Int, w_ei w1 (w_ar ws (n_v vs 0) 140) j = w_ei w2 (w_ar ws (n_v vs 0) 140) j := el_kp s2.1 r15 cr_0_140 (by decide)
  have hK_0_140 := elq_101 hD hth cr_0_140
  have hE_0_143_1 : ∀ j : Int, w_ei ws (w_ar ws (n_v vs 0) 143) j = w_ei w1 (w_ar ws (n_v vs 0) 143) j := el_kp s1.1 r20 cr_0_143 (by decide)
  have hE_0_143_2 : ∀ j : Int, w_ei w1 (w_ar ws (n_v vs 0) 143) j = w_ei w2 (w_ar ws (n_v vs 0) 143) j := el_kp s2.1 r15 cr_0_143 (by decide)
  have hK_0_143 := elq_104 hD hth cr_0_143
  have hE_0_148_1 : ∀ j : Int, w_ei ws (w_ar ws (n_v vs 0) 148) j = w_ei w1 (w_ar ws (n_v vs 0) 148) j := el_kp s1.1 r20 cr_0_148 (by decide)
  have hE_0_148_2 : ∀ j : Int, 0 ≤ j → (j = v_iv (n_v vs 5) → w_ei w1 (w_ar ws (n_v vs 0) 148) j = v_iv (n_v vs 19)) ∧ (j ≠ v_iv (n_v vs 5) → w_ei w1 (w_ar ws (n_v vs 0) 148) j = w_ei w2 (w_ar ws (n_v vs 0) 148) j) := fun j hj => ⟨fun h => by unfold w_ei; rw [s2.1, if_pos ⟨ad_15.symm, by rw [h]⟩], fun h => by unfold w_ei; rw [s2.1, if_neg (fun e => h (by have := e.2; omega))]⟩
  have hK_0_148 := elq_180 hD hth cr_0_148
  have hE_0_149_1 : ∀ j : Int, 0 ≤ j → (j = v_iv (n_v vs 5) → w_ei ws (w_ar ws (n_v vs 0) 149) j = v_iv (n_v vs 23)) ∧ (j ≠ v_iv (n_v vs 5) → w_ei ws (w_ar ws (n_v vs 0) 149) j = w_ei w1 (w_ar ws (n_v vs 0) 149) j) := fun j hj => ⟨fun h => by unfold w_ei; rw [s1.1, if_pos ⟨ad_20.symm, by rw [h]⟩], fun h => by unfold w_ei; rw [s1.1, if_neg (fun e => h (by have := e.2; omega))]⟩
  have hE_0_149_2 : ∀ j : Int, w_ei w1 (w_ar ws (n_v vs 0) 149) j = w_ei w2 (w_ar ws (n_v vs 0) 149) j := el_kp s2.1 r15 cr_0_149 (by decide)
  have hK_0_149 := elq_181 hD hth cr_0_149
  have kz_0_146 := fdq_178 hD hth r0
  have kz_0_147 := fdq_179 hD hth r0
  have hrf0 : 0 ≤ v_iv (n_v vs 25) ∧ v_iv (n_v vs 25) ≤ 5999 := vc_Mo_bendsBecome_15_r0 (v_iv (n_v vs 3)) (v_iv (n_v vs 5)) (v_iv (n_v vs 6)) (v_iv (n_v vs 7)) (v_iv (n_v vs 9)) (v_iv (n_v vs 10)) (v_iv (n_v vs 11)) (v_iv (n_v vs 12)) (v_iv (n_v vs 13)) (v_iv (n_v vs 14)) (v_iv (n_v vs 17)) (v_iv (n_v vs 18)) (v_iv (n_v vs 22)) (v_iv (n_v vs 24)) (v_iv (n_v vs 25)) (w_ei ws (w_ar ws (n_v vs 0) 143)) (w_fi ws (n_v vs 0) 146) (w_fi ws (n_v vs 0) 147) (w_ei ws (w_ar ws (n_v vs 0) 140)) (w_fi w1 (n_v vs 0) 146) (w_fi w1 (n_v vs 0) 147) (w_ei w1 (w_ar ws (n_v vs 0) 143)) (w_ei w1 (w_ar ws (n_v vs 0) 140)) (w_fi w2 (n_v vs 0) 146) (w_fi w2 (n_v vs 0) 147) (w_ei w2 (w_ar ws (n_v vs 0) 143)) (w_ei w2 (w_ar ws (n_v vs 0) 140)) (w_ei ws (w_ar ws (n_v vs 0) 148)) (w_ei w1 (w_ar ws (n_v vs 0) 148)) (w_ei w2 (w_ar ws (n_v vs 0) 148)) (v_iv (n_v vs 19)) (w_ei ws (w_ar ws (n_v vs 0) 149)) (w_ei w1 (w_ar ws (n_v vs 0) 149)) (v_iv (n_v vs 23)) (w_ei w2 (w_ar ws (n_v vs 0) 149)) k3 k5 k6 k7 k9 k10 k11 k12 k13 k14 k17 k18 k22 k24 k25 d0 d1 d2 d3 (shm_1257 f0) (shm_1258 f1) (shm_4 f2) (shm_1255 f3) (shm_1376 f4) (shm_1256 f5) (shm_1378 f6) (shm_1256 f7) (shm_1379 f8) (shm_709 f9) (shm_419 f10) (shm_1380 f11) (shm_384 f12) (shm_614 f13) f15 g16 (shm_1255 f18) f19 (shm_1256 f20) f21 (shm_1256 f22) (shm_1379 f23) (shm_709 f24) (shm_419 f25) f26 (shm_384 f27) (shm_614 f28) (shm_462 f30) (shm_6 f32) (shm_40 f33) (shm_39 f34) (shm_1255 f35) f36 (shm_1256 f37) f38 (shm_1256 f39) (shm_1379 f40) (shm_709 f41) (shm_419 f42) f43 (shm_384 f44) (shm_614 f45) fe_0_146_1 fe_0_147_1 fe_0_146_2 fe_0_147_2 hE_0_140_1 hE_0_140_2 hK_0_140 hE_0_143_1 hE_0_143_2 hK_0_143 hE_0_148_1 hE_0_148_2 hK_0_148 hE_0_149_1 hE_0_149_2 hK_0_149 kz_0_146 kz_0_147
  have rf25 : tv_ok ta (0, 0, 5999, []) (n_v vs 25) := tv_in t25 (by first | omega | grind) (by first | omega | grind)
  refine ⟨List.forall_mem_cons.mpr ⟨rf25, (fun _ h => (by cases h))⟩, [], trivial, ?_, (fun _ h => (by cases h))⟩
  rw [List.append_nil]
  exact (fun _ h => (by cases h))
set_option maxHeartbeats 4000000 in
theorem vc_Mo_bendsBecome_16_0 (x3 : Int) (x5 : Int) (x6 : Int) (x7 : Int) (x9 : Int) (x10 : Int) (x11 : Int) (x12 : Int) (x13 : Int) (x14 : Int) (x17 : Int) (x18 : Int) (x22 : Int) (x24 : Int) (x25 : Int) (barredPoint_0 : Int → Int) (wide_0 : Int) (tall_0 : Int) (costOf_0 : Int → Int) (wide_1 : Int) (tall_1 : Int) (barredPoint_1 : Int → Int) (costOf_1 : Int → Int) (wide_2 : Int) (tall_2 : Int) (barredPoint_2 : Int → Int) (costOf_2 : Int → Int) (turnX_0 : Int → Int) (turnX_1 : Int → Int) (turnX_2 : Int → Int) (x19 : Int) (turnY_0 : Int → Int) (turnY_1 : Int → Int) (x23 : Int) (turnY_2 : Int → Int) (gx : Int) (k3 : 0 ≤ x3 ∧ x3 ≤ 5999) (k5 : 0 ≤ x5 ∧ x5 ≤ 24) (k6 : 0 ≤ x6 ∧ x6 ≤ 5999) (k7 : 0 ≤ x7 ∧ x7 ≤ 3) (k9 : 0 ≤ x9 ∧ x9 ≤ 1000000) (k10 : 0 ≤ x10 ∧ x10 ≤ 3) (k11 : 0 ≤ x11 ∧ x11 ≤ 999999) (k12 : (-1) ≤ x12 ∧ x12 ≤ (-1)) (k13 : (-2) ≤ x13 ∧ x13 ≤ 1000000) (k14 : 25 ≤ x14 ∧ x14 ≤ 25) (k17 : 1 ≤ x17 ∧ x17 ≤ 6000) (k18 : 0 ≤ x18 ∧ x18 ≤ 5999) (k22 : 0 ≤ x22 ∧ x22 ≤ 5999) (k24 : 1 ≤ x24 ∧ x24 ≤ 25) (k25 : 0 ≤ x25 ∧ x25 ≤ 5999) (d0 : x5 + 1 ≤ x24 ∧ x24 ≤ x5 + 1) (d1 : x17 + (-4294967295) ≤ x18 ∧ x18 ≤ x17 + (-1)) (d2 : x9 + (-4294967296) ≤ x10 ∧ x10 ≤ x9 + 2) (d3 : x9 + (-4294967296) ≤ x11 ∧ x11 ≤ x9 + 0) (f0 : STQ (wide_0) (tall_0) (barredPoint_0) (x6) (x10) (x25)) (f1 : ((-1) ≤ x25) ∧ ((x25 + 1) ≤ (wide_0 * tall_0))) (f2 : x24 = x5 + 1) (f3 : GRX (wide_0) (tall_0)) (f4 : RTV (wide_0) (tall_0) (barredPoint_0) (costOf_0) (x3)) (f5 : (0 ≤ x3) ∧ ((x3 + 1) ≤ (wide_0 * tall_0))) (f6 : BB2 (wide_0) (tall_0) (barredPoint_0) (costOf_0) (x6) (x7) (x9)) (f7 : (0 ≤ x6) ∧ ((x6 + 1) ≤ (wide_0 * tall_0))) (f8 : (x5 + x9) ≤ 1000000) (f9 : 0 ≤ x5) (f10 : x6 ≠ x3) (f11 : BB3 (wide_0) (tall_0) (barredPoint_0) (costOf_0) (x6) (x7) (x9) (x10) (x11) (x12)) (f12 : (0 ≤ x9) ∧ (x9 ≤ x13)) (f13 : (-1) * x13 + 0 ≤ (-1)) (f15 : x22 = Int.tdiv (x6) (x17)) (g16 : x17 = wide_1) (f18 : GRX (wide_1) (tall_1)) (f19 : RTV (wide_1) (tall_1) (barredPoint_1) (costOf_1) (x3)) (f20 : (0 ≤ x3) ∧ ((x3 + 1) ≤ (wide_1 * tall_1))) (f21 : BB2 (wide_1) (tall_1) (barredPoint_1) (costOf_1) (x6) (x7) (x9)) (f22 : (0 ≤ x6) ∧ ((x6 + 1) ≤ (wide_1 * tall_1))) (f23 : (x5 + x9) ≤ 1000000) (f24 : 0 ≤ x5) (f25 : x6 ≠ x3) (f26 : BB3 (wide_1) (tall_1) (barredPoint_1) (costOf_1) (x6) (x7) (x9) (x10) (x11) (x12)) (f27 : (0 ≤ x9) ∧ (x9 ≤ x13)) (f28 : (-1) * x13 + 0 ≤ (-1)) (f30 : x18 = Int.tmod (x6) (x17)) (f32 : x5 < x14) (f33 : x10 ≠ x7) (f34 : x12 < 0) (f35 : GRX (wide_2) (tall_2)) (f36 : RTV (wide_2) (tall_2) (barredPoint_2) (costOf_2) (x3)) (f37 : (0 ≤ x3) ∧ ((x3 + 1) ≤ (wide_2 * tall_2))) (f38 : BB2 (wide_2) (tall_2) (barredPoint_2) (costOf_2) (x6) (x7) (x9)) (f39 : (0 ≤ x6) ∧ ((x6 + 1) ≤ (wide_2 * tall_2))) (f40 : (x5 + x9) ≤ 1000000) (f41 : 0 ≤ x5) (f42 : x6 ≠ x3) (f43 : BB3 (wide_2) (tall_2) (barredPoint_2) (costOf_2) (x6) (x7) (x9) (x10) (x11) (x12)) (f44 : (0 ≤ x9) ∧ (x9 ≤ x13)) (f45 : (-1) * x13 + 0 ≤ (-1)) (fe_0_146_1 : wide_0 = wide_1) (fe_0_147_1 : tall_0 = tall_1) (fe_0_146_2 : wide_1 = wide_2) (fe_0_147_2 : tall_1 = tall_2) (hE_0_140_1 : ∀ j : Int, costOf_0 j = costOf_1 j) (hE_0_140_2 : ∀ j : Int, costOf_1 j = costOf_2 j) (hK_0_140 : ∀ j : Int, 0 ≤ j → j < 24000 → 0 ≤ costOf_0 j ∧ costOf_0 j ≤ 1000000) (hE_0_143_1 : ∀ j : Int, barredPoint_0 j = barredPoint_1 j) (hE_0_143_2 : ∀ j : Int, barredPoint_1 j = barredPoint_2 j) (hK_0_143 : ∀ j : Int, 0 ≤ j → j < 6000 → 0 ≤ barredPoint_0 j ∧ barredPoint_0 j ≤ 1) (hE_0_148_1 : ∀ j : Int, turnX_0 j = turnX_1 j) (hE_0_148_2 : ∀ j : Int, 0 ≤ j → (j = x5 → turnX_1 j = x19) ∧ (j ≠ x5 → turnX_1 j = turnX_2 j)) (hK_0_148 : ∀ j : Int, 0 ≤ j → j < 26 → (-300000011) ≤ turnX_0 j ∧ turnX_0 j ≤ 2005999) (hE_0_149_1 : ∀ j : Int, 0 ≤ j → (j = x5 → turnY_0 j = x23) ∧ (j ≠ x5 → turnY_0 j = turnY_1 j)) (hE_0_149_2 : ∀ j : Int, turnY_1 j = turnY_2 j) (hK_0_149 : ∀ j : Int, 0 ≤ j → j < 26 → (-300000003) ≤ turnY_0 j ∧ turnY_0 j ≤ 2005999) (kz_0_146 : (-3999999) ≤ wide_0 ∧ wide_0 ≤ 600000023) (kz_0_147 : (-3999999) ≤ tall_0 ∧ tall_0 ≤ 600000007) (ex2 : gx = (-1) + (1 * x13 + 0)) (ex3 : (-2) ≤ gx ∧ gx ≤ 1000000) : GRX (wide_0) (tall_0) := by
  subst fe_0_146_1
  subst fe_0_147_1
  subst fe_0_146_2
  subst fe_0_147_2
  have e_hE_0_140_1 := funext hE_0_140_1; subst e_hE_0_140_1
  have e_hE_0_140_2 := funext hE_0_140_2; subst e_hE_0_140_2
  have e_hE_0_143_1 := funext hE_0_143_1; subst e_hE_0_143_1
  have e_hE_0_143_2 := funext hE_0_143_2; subst e_hE_0_143_2
  have e_hE_0_148_1 := funext hE_0_148_1; subst e_hE_0_148_1
  have e_hE_0_149_2 := funext hE_0_149_2; subst e_hE_0_149_2
  assumption
set_option maxHeartbeats 4000000 in
theorem vc_Mo_bendsBecome_16_1 (x3 : Int) (x5 : Int) (x6 : Int) (x7 : Int) (x9 : Int) (x10 : Int) (x11 : Int) (x12 : Int) (x13 : Int) (x14 : Int) (x17 : Int) (x18 : Int) (x22 : Int) (x24 : Int) (x25 : Int) (barredPoint_0 : Int → Int) (wide_0 : Int) (tall_0 : Int) (costOf_0 : Int → Int) (wide_1 : Int) (tall_1 : Int) (barredPoint_1 : Int → Int) (costOf_1 : Int → Int) (wide_2 : Int) (tall_2 : Int) (barredPoint_2 : Int → Int) (costOf_2 : Int → Int) (turnX_0 : Int → Int) (turnX_1 : Int → Int) (turnX_2 : Int → Int) (x19 : Int) (turnY_0 : Int → Int) (turnY_1 : Int → Int) (x23 : Int) (turnY_2 : Int → Int) (gx : Int) (k3 : 0 ≤ x3 ∧ x3 ≤ 5999) (k5 : 0 ≤ x5 ∧ x5 ≤ 24) (k6 : 0 ≤ x6 ∧ x6 ≤ 5999) (k7 : 0 ≤ x7 ∧ x7 ≤ 3) (k9 : 0 ≤ x9 ∧ x9 ≤ 1000000) (k10 : 0 ≤ x10 ∧ x10 ≤ 3) (k11 : 0 ≤ x11 ∧ x11 ≤ 999999) (k12 : (-1) ≤ x12 ∧ x12 ≤ (-1)) (k13 : (-2) ≤ x13 ∧ x13 ≤ 1000000) (k14 : 25 ≤ x14 ∧ x14 ≤ 25) (k17 : 1 ≤ x17 ∧ x17 ≤ 6000) (k18 : 0 ≤ x18 ∧ x18 ≤ 5999) (k22 : 0 ≤ x22 ∧ x22 ≤ 5999) (k24 : 1 ≤ x24 ∧ x24 ≤ 25) (k25 : 0 ≤ x25 ∧ x25 ≤ 5999) (d0 : x5 + 1 ≤ x24 ∧ x24 ≤ x5 + 1) (d1 : x17 + (-4294967295) ≤ x18 ∧ x18 ≤ x17 + (-1)) (d2 : x9 + (-4294967296) ≤ x10 ∧ x10 ≤ x9 + 2) (d3 : x9 + (-4294967296) ≤ x11 ∧ x11 ≤ x9 + 0) (f0 : STQ (wide_0) (tall_0) (barredPoint_0) (x6) (x10) (x25)) (f1 : ((-1) ≤ x25) ∧ ((x25 + 1) ≤ (wide_0 * tall_0))) (f2 : x24 = x5 + 1) (f3 : GRX (wide_0) (tall_0)) (f4 : RTV (wide_0) (tall_0) (barredPoint_0) (costOf_0) (x3)) (f5 : (0 ≤ x3) ∧ ((x3 + 1) ≤ (wide_0 * tall_0))) (f6 : BB2 (wide_0) (tall_0) (barredPoint_0) (costOf_0) (x6) (x7) (x9)) (f7 : (0 ≤ x6) ∧ ((x6 + 1) ≤ (wide_0 * tall_0))) (f8 : (x5 + x9) ≤ 1000000) (f9 : 0 ≤ x5) (f10 : x6 ≠ x3) (f11 : BB3 (wide_0) (tall_0) (barredPoint_0) (costOf_0) (x6) (x7) (x9) (x10) (x11) (x12)) (f12 : (0 ≤ x9) ∧ (x9 ≤ x13)) (f13 : (-1) * x13 + 0 ≤ (-1)) (f15 : x22 = Int.tdiv (x6) (x17)) (g16 : x17 = wide_1) (f18 : GRX (wide_1) (tall_1)) (f19 : RTV (wide_1) (tall_1) (barredPoint_1) (costOf_1) (x3)) (f20 : (0 ≤ x3) ∧ ((x3 + 1) ≤ (wide_1 * tall_1))) (f21 : BB2 (wide_1) (tall_1) (barredPoint_1) (costOf_1) (x6) (x7) (x9)) (f22 : (0 ≤ x6) ∧ ((x6 + 1) ≤ (wide_1 * tall_1))) (f23 : (x5 + x9) ≤ 1000000) (f24 : 0 ≤ x5) (f25 : x6 ≠ x3) (f26 : BB3 (wide_1) (tall_1) (barredPoint_1) (costOf_1) (x6) (x7) (x9) (x10) (x11) (x12)) (f27 : (0 ≤ x9) ∧ (x9 ≤ x13)) (f28 : (-1) * x13 + 0 ≤ (-1)) (f30 : x18 = Int.tmod (x6) (x17)) (f32 : x5 < x14) (f33 : x10 ≠ x7) (f34 : x12 < 0) (f35 : GRX (wide_2) (tall_2)) (f36 : RTV (wide_2) (tall_2) (barredPoint_2) (costOf_2) (x3)) (f37 : (0 ≤ x3) ∧ ((x3 + 1) ≤ (wide_2 * tall_2))) (f38 : BB2 (wide_2) (tall_2) (barredPoint_2) (costOf_2) (x6) (x7) (x9)) (f39 : (0 ≤ x6) ∧ ((x6 + 1) ≤ (wide_2 * tall_2))) (f40 : (x5 + x9) ≤ 1000000) (f41 : 0 ≤ x5) (f42 : x6 ≠ x3) (f43 : BB3 (wide_2) (tall_2) (barredPoint_2) (costOf_2) (x6) (x7) (x9) (x10) (x11) (x12)) (f44 : (0 ≤ x9) ∧ (x9 ≤ x13)) (f45 : (-1) * x13 + 0 ≤ (-1)) (fe_0_146_1 : wide_0 = wide_1) (fe_0_147_1 : tall_0 = tall_1) (fe_0_146_2 : wide_1 = wide_2) (fe_0_147_2 : tall_1 = tall_2) (hE_0_140_1 : ∀ j : Int, costOf_0 j = costOf_1 j) (hE_0_140_2 : ∀ j : Int, costOf_1 j = costOf_2 j) (hK_0_140 : ∀ j : Int, 0 ≤ j → j < 24000 → 0 ≤ costOf_0 j ∧ costOf_0 j ≤ 1000000) (hE_0_143_1 : ∀ j : Int, barredPoint_0 j = barredPoint_1 j) (hE_0_143_2 : ∀ j : Int, barredPoint_1 j = barredPoint_2 j) (hK_0_143 : ∀ j : Int, 0 ≤ j → j < 6000 → 0 ≤ barredPoint_0 j ∧ barredPoint_0 j ≤ 1) (hE_0_148_1 : ∀ j : Int, turnX_0 j = turnX_1 j) (hE_0_148_2 : ∀ j : Int, 0 ≤ j → (j = x5 → turnX_1 j = x19) ∧ (j ≠ x5 → turnX_1 j = turnX_2 j)) (hK_0_148 : ∀ j : Int, 0 ≤ j → j < 26 → (-300000011) ≤ turnX_0 j ∧ turnX_0 j ≤ 2005999) (hE_0_149_1 : ∀ j : Int, 0 ≤ j → (j = x5 → turnY_0 j = x23) ∧ (j ≠ x5 → turnY_0 j = turnY_1 j)) (hE_0_149_2 : ∀ j : Int, turnY_1 j = turnY_2 j) (hK_0_149 : ∀ j : Int, 0 ≤ j → j < 26 → (-300000003) ≤ turnY_0 j ∧ turnY_0 j ≤ 2005999) (kz_0_146 : (-3999999) ≤ wide_0 ∧ wide_0 ≤ 600000023) (kz_0_147 : (-3999999) ≤ tall_0 ∧ tall_0 ≤ 600000007) (ex2 : gx = (-1) + (1 * x13 + 0)) (ex3 : (-2) ≤ gx ∧ gx ≤ 1000000) : RTV (wide_0) (tall_0) (barredPoint_0) (costOf_0) (x3) := by
  subst fe_0_146_1
  subst fe_0_147_1
  subst fe_0_146_2
  subst fe_0_147_2
  have e_hE_0_140_1 := funext hE_0_140_1; subst e_hE_0_140_1
  have e_hE_0_140_2 := funext hE_0_140_2; subst e_hE_0_140_2
  have e_hE_0_143_1 := funext hE_0_143_1; subst e_hE_0_143_1
  have e_hE_0_143_2 := funext hE_0_143_2; subst e_hE_0_143_2
  have e_hE_0_148_1 := funext hE_0_148_1; subst e_hE_0_148_1
  have e_hE_0_149_2 := funext hE_0_149_2; subst e_hE_0_149_2
  assumption
set_option maxHeartbeats 4000000 in
theorem vc_Mo_bendsBecome_16_2 (x3 : Int) (x5 : Int) (x6 : Int) (x7 : Int) (x9 : Int) (x10 : Int) (x11 : Int) (x12 : Int) (x13 : Int) (x14 : Int) (x17 : Int) (x18 : Int) (x22 : Int) (x24 : Int) (x25 : Int) (barredPoint_0 : Int → Int) (wide_0 : Int) (tall_0 : Int) (costOf_0 : Int → Int) (wide_1 : Int) (tall_1 : Int) (barredPoint_1 : Int → Int) (costOf_1 : Int → Int) (wide_2 : Int) (tall_2 : Int) (barredPoint_2 : Int → Int) (costOf_2 : Int → Int) (turnX_0 : Int → Int) (turnX_1 : Int → Int) (turnX_2 : Int → Int) (x19 : Int) (turnY_0 : Int → Int) (turnY_1 : Int → Int) (x23 : Int) (turnY_2 : Int → Int) (gx : Int) (k3 : 0 ≤ x3 ∧ x3 ≤ 5999) (k5 : 0 ≤ x5 ∧ x5 ≤ 24) (k6 : 0 ≤ x6 ∧ x6 ≤ 5999) (k7 : 0 ≤ x7 ∧ x7 ≤ 3) (k9 : 0 ≤ x9 ∧ x9 ≤ 1000000) (k10 : 0 ≤ x10 ∧ x10 ≤ 3) (k11 : 0 ≤ x11 ∧ x11 ≤ 999999) (k12 : (-1) ≤ x12 ∧ x12 ≤ (-1)) (k13 : (-2) ≤ x13 ∧ x13 ≤ 1000000) (k14 : 25 ≤ x14 ∧ x14 ≤ 25) (k17 : 1 ≤ x17 ∧ x17 ≤ 6000) (k18 : 0 ≤ x18 ∧ x18 ≤ 5999) (k22 : 0 ≤ x22 ∧ x22 ≤ 5999) (k24 : 1 ≤ x24 ∧ x24 ≤ 25) (k25 : 0 ≤ x25 ∧ x25 ≤ 5999) (d0 : x5 + 1 ≤ x24 ∧ x24 ≤ x5 + 1) (d1 : x17 + (-4294967295) ≤ x18 ∧ x18 ≤ x17 + (-1)) (d2 : x9 + (-4294967296) ≤ x10 ∧ x10 ≤ x9 + 2) (d3 : x9 + (-4294967296) ≤ x11 ∧ x11 ≤ x9 + 0) (f0 : STQ (wide_0) (tall_0) (barredPoint_0) (x6) (x10) (x25)) (f1 : ((-1) ≤ x25) ∧ ((x25 + 1) ≤ (wide_0 * tall_0))) (f2 : x24 = x5 + 1) (f3 : GRX (wide_0) (tall_0)) (f4 : RTV (wide_0) (tall_0) (barredPoint_0) (costOf_0) (x3)) (f5 : (0 ≤ x3) ∧ ((x3 + 1) ≤ (wide_0 * tall_0))) (f6 : BB2 (wide_0) (tall_0) (barredPoint_0) (costOf_0) (x6) (x7) (x9)) (f7 : (0 ≤ x6) ∧ ((x6 + 1) ≤ (wide_0 * tall_0))) (f8 : (x5 + x9) ≤ 1000000) (f9 : 0 ≤ x5) (f10 : x6 ≠ x3) (f11 : BB3 (wide_0) (tall_0) (barredPoint_0) (costOf_0) (x6) (x7) (x9) (x10) (x11) (x12)) (f12 : (0 ≤ x9) ∧ (x9 ≤ x13)) (f13 : (-1) * x13 + 0 ≤ (-1)) (f15 : x22 = Int.tdiv (x6) (x17)) (g16 : x17 = wide_1) (f18 : GRX (wide_1) (tall_1)) (f19 : RTV (wide_1) (tall_1) (barredPoint_1) (costOf_1) (x3)) (f20 : (0 ≤ x3) ∧ ((x3 + 1) ≤ (wide_1 * tall_1))) (f21 : BB2 (wide_1) (tall_1) (barredPoint_1) (costOf_1) (x6) (x7) (x9)) (f22 : (0 ≤ x6) ∧ ((x6 + 1) ≤ (wide_1 * tall_1))) (f23 : (x5 + x9) ≤ 1000000) (f24 : 0 ≤ x5) (f25 : x6 ≠ x3) (f26 : BB3 (wide_1) (tall_1) (barredPoint_1) (costOf_1) (x6) (x7) (x9) (x10) (x11) (x12)) (f27 : (0 ≤ x9) ∧ (x9 ≤ x13)) (f28 : (-1) * x13 + 0 ≤ (-1)) (f30 : x18 = Int.tmod (x6) (x17)) (f32 : x5 < x14) (f33 : x10 ≠ x7) (f34 : x12 < 0) (f35 : GRX (wide_2) (tall_2)) (f36 : RTV (wide_2) (tall_2) (barredPoint_2) (costOf_2) (x3)) (f37 : (0 ≤ x3) ∧ ((x3 + 1) ≤ (wide_2 * tall_2))) (f38 : BB2 (wide_2) (tall_2) (barredPoint_2) (costOf_2) (x6) (x7) (x9)) (f39 : (0 ≤ x6) ∧ ((x6 + 1) ≤ (wide_2 * tall_2))) (f40 : (x5 + x9) ≤ 1000000) (f41 : 0 ≤ x5) (f42 : x6 ≠ x3) (f43 : BB3 (wide_2) (tall_2) (barredPoint_2) (costOf_2) (x6) (x7) (x9) (x10) (x11) (x12)) (f44 : (0 ≤ x9) ∧ (x9 ≤ x13)) (f45 : (-1) * x13 + 0 ≤ (-1)) (fe_0_146_1 : wide_0 = wide_1) (fe_0_147_1 : tall_0 = tall_1) (fe_0_146_2 : wide_1 = wide_2) (fe_0_147_2 : tall_1 = tall_2) (hE_0_140_1 : ∀ j : Int, costOf_0 j = costOf_1 j) (hE_0_140_2 : ∀ j : Int, costOf_1 j = costOf_2 j) (hK_0_140 : ∀ j : Int, 0 ≤ j → j < 24000 → 0 ≤ costOf_0 j ∧ costOf_0 j ≤ 1000000) (hE_0_143_1 : ∀ j : Int, barredPoint_0 j = barredPoint_1 j) (hE_0_143_2 : ∀ j : Int, barredPoint_1 j = barredPoint_2 j) (hK_0_143 : ∀ j : Int, 0 ≤ j → j < 6000 → 0 ≤ barredPoint_0 j ∧ barredPoint_0 j ≤ 1) (hE_0_148_1 : ∀ j : Int, turnX_0 j = turnX_1 j) (hE_0_148_2 : ∀ j : Int, 0 ≤ j → (j = x5 → turnX_1 j = x19) ∧ (j ≠ x5 → turnX_1 j = turnX_2 j)) (hK_0_148 : ∀ j : Int, 0 ≤ j → j < 26 → (-300000011) ≤ turnX_0 j ∧ turnX_0 j ≤ 2005999) (hE_0_149_1 : ∀ j : Int, 0 ≤ j → (j = x5 → turnY_0 j = x23) ∧ (j ≠ x5 → turnY_0 j = turnY_1 j)) (hE_0_149_2 : ∀ j : Int, turnY_1 j = turnY_2 j) (hK_0_149 : ∀ j : Int, 0 ≤ j → j < 26 → (-300000003) ≤ turnY_0 j ∧ turnY_0 j ≤ 2005999) (kz_0_146 : (-3999999) ≤ wide_0 ∧ wide_0 ≤ 600000023) (kz_0_147 : (-3999999) ≤ tall_0 ∧ tall_0 ≤ 600000007) (ex2 : gx = (-1) + (1 * x13 + 0)) (ex3 : (-2) ≤ gx ∧ gx ≤ 1000000) : (0 ≤ x3) ∧ ((x3 + 1) ≤ (wide_0 * tall_0)) := by
  subst fe_0_146_1
  subst fe_0_147_1
  subst fe_0_146_2
  subst fe_0_147_2
  have e_hE_0_140_1 := funext hE_0_140_1; subst e_hE_0_140_1
  have e_hE_0_140_2 := funext hE_0_140_2; subst e_hE_0_140_2
  have e_hE_0_143_1 := funext hE_0_143_1; subst e_hE_0_143_1
  have e_hE_0_143_2 := funext hE_0_143_2; subst e_hE_0_143_2
  have e_hE_0_148_1 := funext hE_0_148_1; subst e_hE_0_148_1
  have e_hE_0_149_2 := funext hE_0_149_2; subst e_hE_0_149_2
  first
    | omega
    | (have h := bb2_start (t := x13) ‹RTV _ _ _ _ _› ‹BB1 _ _ _ _ _ _ _ _› (by omega) ‹STQ _ _ _ _ _ _› (by omega)
       have h1 := h.1
       have h2 := h.2.2.2.2
       omega)
    | (have h := bb_next ‹RTV _ _ _ _ _› ‹BB2 _ _ _ _ _ _ _› ‹BB3 _ _ _ _ _ _ _ _ _ _› (by omega) (by omega)
       have h1 := h.1.1
       have h2 := h.2
       omega)
set_option maxHeartbeats 4000000 in
theorem vc_Mo_bendsBecome_16_3 (x3 : Int) (x5 : Int) (x6 : Int) (x7 : Int) (x9 : Int) (x10 : Int) (x11 : Int) (x12 : Int) (x13 : Int) (x14 : Int) (x17 : Int) (x18 : Int) (x22 : Int) (x24 : Int) (x25 : Int) (barredPoint_0 : Int → Int) (wide_0 : Int) (tall_0 : Int) (costOf_0 : Int → Int) (wide_1 : Int) (tall_1 : Int) (barredPoint_1 : Int → Int) (costOf_1 : Int → Int) (wide_2 : Int) (tall_2 : Int) (barredPoint_2 : Int → Int) (costOf_2 : Int → Int) (turnX_0 : Int → Int) (turnX_1 : Int → Int) (turnX_2 : Int → Int) (x19 : Int) (turnY_0 : Int → Int) (turnY_1 : Int → Int) (x23 : Int) (turnY_2 : Int → Int) (gx : Int) (k3 : 0 ≤ x3 ∧ x3 ≤ 5999) (k5 : 0 ≤ x5 ∧ x5 ≤ 24) (k6 : 0 ≤ x6 ∧ x6 ≤ 5999) (k7 : 0 ≤ x7 ∧ x7 ≤ 3) (k9 : 0 ≤ x9 ∧ x9 ≤ 1000000) (k10 : 0 ≤ x10 ∧ x10 ≤ 3) (k11 : 0 ≤ x11 ∧ x11 ≤ 999999) (k12 : (-1) ≤ x12 ∧ x12 ≤ (-1)) (k13 : (-2) ≤ x13 ∧ x13 ≤ 1000000) (k14 : 25 ≤ x14 ∧ x14 ≤ 25) (k17 : 1 ≤ x17 ∧ x17 ≤ 6000) (k18 : 0 ≤ x18 ∧ x18 ≤ 5999) (k22 : 0 ≤ x22 ∧ x22 ≤ 5999) (k24 : 1 ≤ x24 ∧ x24 ≤ 25) (k25 : 0 ≤ x25 ∧ x25 ≤ 5999) (d0 : x5 + 1 ≤ x24 ∧ x24 ≤ x5 + 1) (d1 : x17 + (-4294967295) ≤ x18 ∧ x18 ≤ x17 + (-1)) (d2 : x9 + (-4294967296) ≤ x10 ∧ x10 ≤ x9 + 2) (d3 : x9 + (-4294967296) ≤ x11 ∧ x11 ≤ x9 + 0) (f0 : STQ (wide_0) (tall_0) (barredPoint_0) (x6) (x10) (x25)) (f1 : ((-1) ≤ x25) ∧ ((x25 + 1) ≤ (wide_0 * tall_0))) (f2 : x24 = x5 + 1) (f3 : GRX (wide_0) (tall_0)) (f4 : RTV (wide_0) (tall_0) (barredPoint_0) (costOf_0) (x3)) (f5 : (0 ≤ x3) ∧ ((x3 + 1) ≤ (wide_0 * tall_0))) (f6 : BB2 (wide_0) (tall_0) (barredPoint_0) (costOf_0) (x6) (x7) (x9)) (f7 : (0 ≤ x6) ∧ ((x6 + 1) ≤ (wide_0 * tall_0))) (f8 : (x5 + x9) ≤ 1000000) (f9 : 0 ≤ x5) (f10 : x6 ≠ x3) (f11 : BB3 (wide_0) (tall_0) (barredPoint_0) (costOf_0) (x6) (x7) (x9) (x10) (x11) (x12)) (f12 : (0 ≤ x9) ∧ (x9 ≤ x13)) (f13 : (-1) * x13 + 0 ≤ (-1)) (f15 : x22 = Int.tdiv (x6) (x17)) (g16 : x17 = wide_1) (f18 : GRX (wide_1) (tall_1)) (f19 : RTV (wide_1) (tall_1) (barredPoint_1) (costOf_1) (x3)) (f20 : (0 ≤ x3) ∧ ((x3 + 1) ≤ (wide_1 * tall_1))) (f21 : BB2 (wide_1) (tall_1) (barredPoint_1) (costOf_1) (x6) (x7) (x9)) (f22 : (0 ≤ x6) ∧ ((x6 + 1) ≤ (wide_1 * tall_1))) (f23 : (x5 + x9) ≤ 1000000) (f24 : 0 ≤ x5) (f25 : x6 ≠ x3) (f26 : BB3 (wide_1) (tall_1) (barredPoint_1) (costOf_1) (x6) (x7) (x9) (x10) (x11) (x12)) (f27 : (0 ≤ x9) ∧ (x9 ≤ x13)) (f28 : (-1) * x13 + 0 ≤ (-1)) (f30 : x18 = Int.tmod (x6) (x17)) (f32 : x5 < x14) (f33 : x10 ≠ x7) (f34 : x12 < 0) (f35 : GRX (wide_2) (tall_2)) (f36 : RTV (wide_2) (tall_2) (barredPoint_2) (costOf_2) (x3)) (f37 : (0 ≤ x3) ∧ ((x3 + 1) ≤ (wide_2 * tall_2))) (f38 : BB2 (wide_2) (tall_2) (barredPoint_2) (costOf_2) (x6) (x7) (x9)) (f39 : (0 ≤ x6) ∧ ((x6 + 1) ≤ (wide_2 * tall_2))) (f40 : (x5 + x9) ≤ 1000000) (f41 : 0 ≤ x5) (f42 : x6 ≠ x3) (f43 : BB3 (wide_2) (tall_2) (barredPoint_2) (costOf_2) (x6) (x7) (x9) (x10) (x11) (x12)) (f44 : (0 ≤ x9) ∧ (x9 ≤ x13)) (f45 : (-1) * x13 + 0 ≤ (-1)) (fe_0_146_1 : wide_0 = wide_1) (fe_0_147_1 : tall_0 = tall_1) (fe_0_146_2 : wide_1 = wide_2) (fe_0_147_2 : tall_1 = tall_2) (hE_0_140_1 : ∀ j : Int, costOf_0 j = costOf_1 j) (hE_0_140_2 : ∀ j : Int, costOf_1 j = costOf_2 j) (hK_0_140 : ∀ j : Int, 0 ≤ j → j < 24000 → 0 ≤ costOf_0 j ∧ costOf_0 j ≤ 1000000) (hE_0_143_1 : ∀ j : Int, barredPoint_0 j = barredPoint_1 j) (hE_0_143_2 : ∀ j : Int, barredPoint_1 j = barredPoint_2 j) (hK_0_143 : ∀ j : Int, 0 ≤ j → j < 6000 → 0 ≤ barredPoint_0 j ∧ barredPoint_0 j ≤ 1) (hE_0_148_1 : ∀ j : Int, turnX_0 j = turnX_1 j) (hE_0_148_2 : ∀ j : Int, 0 ≤ j → (j = x5 → turnX_1 j = x19) ∧ (j ≠ x5 → turnX_1 j = turnX_2 j)) (hK_0_148 : ∀ j : Int, 0 ≤ j → j < 26 → (-300000011) ≤ turnX_0 j ∧ turnX_0 j ≤ 2005999) (hE_0_149_1 : ∀ j : Int, 0 ≤ j → (j = x5 → turnY_0 j = x23) ∧ (j ≠ x5 → turnY_0 j = turnY_1 j)) (hE_0_149_2 : ∀ j : Int, turnY_1 j = turnY_2 j) (hK_0_149 : ∀ j : Int, 0 ≤ j → j < 26 → (-300000003) ≤ turnY_0 j ∧ turnY_0 j ≤ 2005999) (kz_0_146 : (-3999999) ≤ wide_0 ∧ wide_0 ≤ 600000023) (kz_0_147 : (-3999999) ≤ tall_0 ∧ tall_0 ≤ 600000007) (ex2 : gx = (-1) + (1 * x13 + 0)) (ex3 : (-2) ≤ gx ∧ gx ≤ 1000000) : BB2 (wide_0) (tall_0) (barredPoint_0) (costOf_0) (x25) (x10) (x11) := by
  subst fe_0_146_1
  subst fe_0_147_1
  subst fe_0_146_2
  subst fe_0_147_2
  have e_hE_0_140_1 := funext hE_0_140_1; subst e_hE_0_140_1
  have e_hE_0_140_2 := funext hE_0_140_2; subst e_hE_0_140_2
  have e_hE_0_143_1 := funext hE_0_143_1; subst e_hE_0_143_1
  have e_hE_0_143_2 := funext hE_0_143_2; subst e_hE_0_143_2
  have e_hE_0_148_1 := funext hE_0_148_1; subst e_hE_0_148_1
  have e_hE_0_149_2 := funext hE_0_149_2; subst e_hE_0_149_2
  first
    | exact bb2_start ‹RTV _ _ _ _ _› ‹BB1 _ _ _ _ _ _ _ _› (by omega) ‹STQ _ _ _ _ _ _› (by omega)
    | exact bb2_next ‹RTV _ _ _ _ _› ‹BB2 _ _ _ _ _ _ _› ‹BB3 _ _ _ _ _ _ _ _ _ _› (by omega) (by omega) ‹STQ _ _ _ _ _ _›
  
set_option maxHeartbeats 4000000 in
theorem vc_Mo_bendsBecome_16_4 (x3 : Int) (x5 : Int) (x6 : Int) (x7 : Int) (x9 : Int) (x10 : Int) (x11 : Int) (x12 : Int) (x13 : Int) (x14 : Int) (x17 : Int) (x18 : Int) (x22 : Int) (x24 : Int) (x25 : Int) (barredPoint_0 : Int → Int) (wide_0 : Int) (tall_0 : Int) (costOf_0 : Int → Int) (wide_1 : Int) (tall_1 : Int) (barredPoint_1 : Int → Int) (costOf_1 : Int → Int) (wide_2 : Int) (tall_2 : Int) (barredPoint_2 : Int → Int) (costOf_2 : Int → Int) (turnX_0 : Int → Int) (turnX_1 : Int → Int) (turnX_2 : Int → Int) (x19 : Int) (turnY_0 : Int → Int) (turnY_1 : Int → Int) (x23 : Int) (turnY_2 : Int → Int) (gx : Int) (k3 : 0 ≤ x3 ∧ x3 ≤ 5999) (k5 : 0 ≤ x5 ∧ x5 ≤ 24) (k6 : 0 ≤ x6 ∧ x6 ≤ 5999) (k7 : 0 ≤ x7 ∧ x7 ≤ 3) (k9 : 0 ≤ x9 ∧ x9 ≤ 1000000) (k10 : 0 ≤ x10 ∧ x10 ≤ 3) (k11 : 0 ≤ x11 ∧ x11 ≤ 999999) (k12 : (-1) ≤ x12 ∧ x12 ≤ (-1)) (k13 : (-2) ≤ x13 ∧ x13 ≤ 1000000) (k14 : 25 ≤ x14 ∧ x14 ≤ 25) (k17 : 1 ≤ x17 ∧ x17 ≤ 6000) (k18 : 0 ≤ x18 ∧ x18 ≤ 5999) (k22 : 0 ≤ x22 ∧ x22 ≤ 5999) (k24 : 1 ≤ x24 ∧ x24 ≤ 25) (k25 : 0 ≤ x25 ∧ x25 ≤ 5999) (d0 : x5 + 1 ≤ x24 ∧ x24 ≤ x5 + 1) (d1 : x17 + (-4294967295) ≤ x18 ∧ x18 ≤ x17 + (-1)) (d2 : x9 + (-4294967296) ≤ x10 ∧ x10 ≤ x9 + 2) (d3 : x9 + (-4294967296) ≤ x11 ∧ x11 ≤ x9 + 0) (f0 : STQ (wide_0) (tall_0) (barredPoint_0) (x6) (x10) (x25)) (f1 : ((-1) ≤ x25) ∧ ((x25 + 1) ≤ (wide_0 * tall_0))) (f2 : x24 = x5 + 1) (f3 : GRX (wide_0) (tall_0)) (f4 : RTV (wide_0) (tall_0) (barredPoint_0) (costOf_0) (x3)) (f5 : (0 ≤ x3) ∧ ((x3 + 1) ≤ (wide_0 * tall_0))) (f6 : BB2 (wide_0) (tall_0) (barredPoint_0) (costOf_0) (x6) (x7) (x9)) (f7 : (0 ≤ x6) ∧ ((x6 + 1) ≤ (wide_0 * tall_0))) (f8 : (x5 + x9) ≤ 1000000) (f9 : 0 ≤ x5) (f10 : x6 ≠ x3) (f11 : BB3 (wide_0) (tall_0) (barredPoint_0) (costOf_0) (x6) (x7) (x9) (x10) (x11) (x12)) (f12 : (0 ≤ x9) ∧ (x9 ≤ x13)) (f13 : (-1) * x13 + 0 ≤ (-1)) (f15 : x22 = Int.tdiv (x6) (x17)) (g16 : x17 = wide_1) (f18 : GRX (wide_1) (tall_1)) (f19 : RTV (wide_1) (tall_1) (barredPoint_1) (costOf_1) (x3)) (f20 : (0 ≤ x3) ∧ ((x3 + 1) ≤ (wide_1 * tall_1))) (f21 : BB2 (wide_1) (tall_1) (barredPoint_1) (costOf_1) (x6) (x7) (x9)) (f22 : (0 ≤ x6) ∧ ((x6 + 1) ≤ (wide_1 * tall_1))) (f23 : (x5 + x9) ≤ 1000000) (f24 : 0 ≤ x5) (f25 : x6 ≠ x3) (f26 : BB3 (wide_1) (tall_1) (barredPoint_1) (costOf_1) (x6) (x7) (x9) (x10) (x11) (x12)) (f27 : (0 ≤ x9) ∧ (x9 ≤ x13)) (f28 : (-1) * x13 + 0 ≤ (-1)) (f30 : x18 = Int.tmod (x6) (x17)) (f32 : x5 < x14) (f33 : x10 ≠ x7) (f34 : x12 < 0) (f35 : GRX (wide_2) (tall_2)) (f36 : RTV (wide_2) (tall_2) (barredPoint_2) (costOf_2) (x3)) (f37 : (0 ≤ x3) ∧ ((x3 + 1) ≤ (wide_2 * tall_2))) (f38 : BB2 (wide_2) (tall_2) (barredPoint_2) (costOf_2) (x6) (x7) (x9)) (f39 : (0 ≤ x6) ∧ ((x6 + 1) ≤ (wide_2 * tall_2))) (f40 : (x5 + x9) ≤ 1000000) (f41 : 0 ≤ x5) (f42 : x6 ≠ x3) (f43 : BB3 (wide_2) (tall_2) (barredPoint_2) (costOf_2) (x6) (x7) (x9) (x10) (x11) (x12)) (f44 : (0 ≤ x9) ∧ (x9 ≤ x13)) (f45 : (-1) * x13 + 0 ≤ (-1)) (fe_0_146_1 : wide_0 = wide_1) (fe_0_147_1 : tall_0 = tall_1) (fe_0_146_2 : wide_1 = wide_2) (fe_0_147_2 : tall_1 = tall_2) (hE_0_140_1 : ∀ j : Int, costOf_0 j = costOf_1 j) (hE_0_140_2 : ∀ j : Int, costOf_1 j = costOf_2 j) (hK_0_140 : ∀ j : Int, 0 ≤ j → j < 24000 → 0 ≤ costOf_0 j ∧ costOf_0 j ≤ 1000000) (hE_0_143_1 : ∀ j : Int, barredPoint_0 j = barredPoint_1 j) (hE_0_143_2 : ∀ j : Int, barredPoint_1 j = barredPoint_2 j) (hK_0_143 : ∀ j : Int, 0 ≤ j → j < 6000 → 0 ≤ barredPoint_0 j ∧ barredPoint_0 j ≤ 1) (hE_0_148_1 : ∀ j : Int, turnX_0 j = turnX_1 j) (hE_0_148_2 : ∀ j : Int, 0 ≤ j → (j = x5 → turnX_1 j = x19) ∧ (j ≠ x5 → turnX_1 j = turnX_2 j)) (hK_0_148 : ∀ j : Int, 0 ≤ j → j < 26 → (-300000011) ≤ turnX_0 j ∧ turnX_0 j ≤ 2005999) (hE_0_149_1 : ∀ j : Int, 0 ≤ j → (j = x5 → turnY_0 j = x23) ∧ (j ≠ x5 → turnY_0 j = turnY_1 j)) (hE_0_149_2 : ∀ j : Int, turnY_1 j = turnY_2 j) (hK_0_149 : ∀ j : Int, 0 ≤ j → j < 26 → (-300000003) ≤ turnY_0 j ∧ turnY_0 j ≤ 2005999) (kz_0_146 : (-3999999) ≤ wide_0 ∧ wide_0 ≤ 600000023) (kz_0_147 : (-3999999) ≤ tall_0 ∧ tall_0 ≤ 600000007) (ex2 : gx = (-1) + (1 * x13 + 0)) (ex3 : (-2) ≤ gx ∧ gx ≤ 1000000) : (0 ≤ x25) ∧ ((x25 + 1) ≤ (wide_0 * tall_0)) := by
  subst fe_0_146_1
  subst fe_0_147_1
  subst fe_0_146_2
  subst fe_0_147_2
  have e_hE_0_140_1 := funext hE_0_140_1; subst e_hE_0_140_1
  have e_hE_0_140_2 := funext hE_0_140_2; subst e_hE_0_140_2
  have e_hE_0_143_1 := funext hE_0_143_1; subst e_hE_0_143_1
  have e_hE_0_143_2 := funext hE_0_143_2; subst e_hE_0_143_2
  have e_hE_0_148_1 := funext hE_0_148_1; subst e_hE_0_148_1
  have e_hE_0_149_2 := funext hE_0_149_2; subst e_hE_0_149_2
  first
    | omega
    | (have h := bb2_start (t := x13) ‹RTV _ _ _ _ _› ‹BB1 _ _ _ _ _ _ _ _› (by omega) ‹STQ _ _ _ _ _ _› (by omega)
       have h1 := h.1
       have h2 := h.2.2.2.2
       omega)
    | (have h := bb_next ‹RTV _ _ _ _ _› ‹BB2 _ _ _ _ _ _ _› ‹BB3 _ _ _ _ _ _ _ _ _ _› (by omega) (by omega)
       have h1 := h.1.1
       have h2 := h.2
       omega)
set_option maxHeartbeats 4000000 in
theorem vc_Mo_bendsBecome_16_5 (x3 : Int) (x5 : Int) (x6 : Int) (x7 : Int) (x9 : Int) (x10 : Int) (x11 : Int) (x12 : Int) (x13 : Int) (x14 : Int) (x17 : Int) (x18 : Int) (x22 : Int) (x24 : Int) (x25 : Int) (barredPoint_0 : Int → Int) (wide_0 : Int) (tall_0 : Int) (costOf_0 : Int → Int) (wide_1 : Int) (tall_1 : Int) (barredPoint_1 : Int → Int) (costOf_1 : Int → Int) (wide_2 : Int) (tall_2 : Int) (barredPoint_2 : Int → Int) (costOf_2 : Int → Int) (turnX_0 : Int → Int) (turnX_1 : Int → Int) (turnX_2 : Int → Int) (x19 : Int) (turnY_0 : Int → Int) (turnY_1 : Int → Int) (x23 : Int) (turnY_2 : Int → Int) (gx : Int) (k3 : 0 ≤ x3 ∧ x3 ≤ 5999) (k5 : 0 ≤ x5 ∧ x5 ≤ 24) (k6 : 0 ≤ x6 ∧ x6 ≤ 5999) (k7 : 0 ≤ x7 ∧ x7 ≤ 3) (k9 : 0 ≤ x9 ∧ x9 ≤ 1000000) (k10 : 0 ≤ x10 ∧ x10 ≤ 3) (k11 : 0 ≤ x11 ∧ x11 ≤ 999999) (k12 : (-1) ≤ x12 ∧ x12 ≤ (-1)) (k13 : (-2) ≤ x13 ∧ x13 ≤ 1000000) (k14 : 25 ≤ x14 ∧ x14 ≤ 25) (k17 : 1 ≤ x17 ∧ x17 ≤ 6000) (k18 : 0 ≤ x18 ∧ x18 ≤ 5999) (k22 : 0 ≤ x22 ∧ x22 ≤ 5999) (k24 : 1 ≤ x24 ∧ x24 ≤ 25) (k25 : 0 ≤ x25 ∧ x25 ≤ 5999) (d0 : x5 + 1 ≤ x24 ∧ x24 ≤ x5 + 1) (d1 : x17 + (-4294967295) ≤ x18 ∧ x18 ≤ x17 + (-1)) (d2 : x9 + (-4294967296) ≤ x10 ∧ x10 ≤ x9 + 2) (d3 : x9 + (-4294967296) ≤ x11 ∧ x11 ≤ x9 + 0) (f0 : STQ (wide_0) (tall_0) (barredPoint_0) (x6) (x10) (x25)) (f1 : ((-1) ≤ x25) ∧ ((x25 + 1) ≤ (wide_0 * tall_0))) (f2 : x24 = x5 + 1) (f3 : GRX (wide_0) (tall_0)) (f4 : RTV (wide_0) (tall_0) (barredPoint_0) (costOf_0) (x3)) (f5 : (0 ≤ x3) ∧ ((x3 + 1) ≤ (wide_0 * tall_0))) (f6 : BB2 (wide_0) (tall_0) (barredPoint_0) (costOf_0) (x6) (x7) (x9)) (f7 : (0 ≤ x6) ∧ ((x6 + 1) ≤ (wide_0 * tall_0))) (f8 : (x5 + x9) ≤ 1000000) (f9 : 0 ≤ x5) (f10 : x6 ≠ x3) (f11 : BB3 (wide_0) (tall_0) (barredPoint_0) (costOf_0) (x6) (x7) (x9) (x10) (x11) (x12)) (f12 : (0 ≤ x9) ∧ (x9 ≤ x13)) (f13 : (-1) * x13 + 0 ≤ (-1)) (f15 : x22 = Int.tdiv (x6) (x17)) (g16 : x17 = wide_1) (f18 : GRX (wide_1) (tall_1)) (f19 : RTV (wide_1) (tall_1) (barredPoint_1) (costOf_1) (x3)) (f20 : (0 ≤ x3) ∧ ((x3 + 1) ≤ (wide_1 * tall_1))) (f21 : BB2 (wide_1) (tall_1) (barredPoint_1) (costOf_1) (x6) (x7) (x9)) (f22 : (0 ≤ x6) ∧ ((x6 + 1) ≤ (wide_1 * tall_1))) (f23 : (x5 + x9) ≤ 1000000) (f24 : 0 ≤ x5) (f25 : x6 ≠ x3) (f26 : BB3 (wide_1) (tall_1) (barredPoint_1) (costOf_1) (x6) (x7) (x9) (x10) (x11) (x12)) (f27 : (0 ≤ x9) ∧ (x9 ≤ x13)) (f28 : (-1) * x13 + 0 ≤ (-1)) (f30 : x18 = Int.tmod (x6) (x17)) (f32 : x5 < x14) (f33 : x10 ≠ x7) (f34 : x12 < 0) (f35 : GRX (wide_2) (tall_2)) (f36 : RTV (wide_2) (tall_2) (barredPoint_2) (costOf_2) (x3)) (f37 : (0 ≤ x3) ∧ ((x3 + 1) ≤ (wide_2 * tall_2))) (f38 : BB2 (wide_2) (tall_2) (barredPoint_2) (costOf_2) (x6) (x7) (x9)) (f39 : (0 ≤ x6) ∧ ((x6 + 1) ≤ (wide_2 * tall_2))) (f40 : (x5 + x9) ≤ 1000000) (f41 : 0 ≤ x5) (f42 : x6 ≠ x3) (f43 : BB3 (wide_2) (tall_2) (barredPoint_2) (costOf_2) (x6) (x7) (x9) (x10) (x11) (x12)) (f44 : (0 ≤ x9) ∧ (x9 ≤ x13)) (f45 : (-1) * x13 + 0 ≤ (-1)) (fe_0_146_1 : wide_0 = wide_1) (fe_0_147_1 : tall_0 = tall_1) (fe_0_146_2 : wide_1 = wide_2) (fe_0_147_2 : tall_1 = tall_2) (hE_0_140_1 : ∀ j : Int, costOf_0 j = costOf_1 j) (hE_0_140_2 : ∀ j : Int, costOf_1 j = costOf_2 j) (hK_0_140 : ∀ j : Int, 0 ≤ j → j < 24000 → 0 ≤ costOf_0 j ∧ costOf_0 j ≤ 1000000) (hE_0_143_1 : ∀ j : Int, barredPoint_0 j = barredPoint_1 j) (hE_0_143_2 : ∀ j : Int, barredPoint_1 j = barredPoint_2 j) (hK_0_143 : ∀ j : Int, 0 ≤ j → j < 6000 → 0 ≤ barredPoint_0 j ∧ barredPoint_0 j ≤ 1) (hE_0_148_1 : ∀ j : Int, turnX_0 j = turnX_1 j) (hE_0_148_2 : ∀ j : Int, 0 ≤ j → (j = x5 → turnX_1 j = x19) ∧ (j ≠ x5 → turnX_1 j = turnX_2 j)) (hK_0_148 : ∀ j : Int, 0 ≤ j → j < 26 → (-300000011) ≤ turnX_0 j ∧ turnX_0 j ≤ 2005999) (hE_0_149_1 : ∀ j : Int, 0 ≤ j → (j = x5 → turnY_0 j = x23) ∧ (j ≠ x5 → turnY_0 j = turnY_1 j)) (hE_0_149_2 : ∀ j : Int, turnY_1 j = turnY_2 j) (hK_0_149 : ∀ j : Int, 0 ≤ j → j < 26 → (-300000003) ≤ turnY_0 j ∧ turnY_0 j ≤ 2005999) (kz_0_146 : (-3999999) ≤ wide_0 ∧ wide_0 ≤ 600000023) (kz_0_147 : (-3999999) ≤ tall_0 ∧ tall_0 ≤ 600000007) (ex2 : gx = (-1) + (1 * x13 + 0)) (ex3 : (-2) ≤ gx ∧ gx ≤ 1000000) : (x24 + x11) ≤ 1000000 := by
  subst fe_0_146_1
  subst fe_0_147_1
  subst fe_0_146_2
  subst fe_0_147_2
  have e_hE_0_140_1 := funext hE_0_140_1; subst e_hE_0_140_1
  have e_hE_0_140_2 := funext hE_0_140_2; subst e_hE_0_140_2
  have e_hE_0_143_1 := funext hE_0_143_1; subst e_hE_0_143_1
  have e_hE_0_143_2 := funext hE_0_143_2; subst e_hE_0_143_2
  have e_hE_0_148_1 := funext hE_0_148_1; subst e_hE_0_148_1
  have e_hE_0_149_2 := funext hE_0_149_2; subst e_hE_0_149_2
  first
    | omega
    | (have h := bb2_start (t := x13) ‹RTV _ _ _ _ _› ‹BB1 _ _ _ _ _ _ _ _› (by omega) ‹STQ _ _ _ _ _ _› (by omega)
       have h1 := h.1
       have h2 := h.2.2.2.2
       omega)
    | (have h := bb_next ‹RTV _ _ _ _ _› ‹BB2 _ _ _ _ _ _ _› ‹BB3 _ _ _ _ _ _ _ _ _ _› (by omega) (by omega)
       have h1 := h.1.1
       have h2 := h.2
       omega)
set_option maxHeartbeats 4000000 in
theorem vc_Mo_bendsBecome_16_6 (x3 : Int) (x5 : Int) (x6 : Int) (x7 : Int) (x9 : Int) (x10 : Int) (x11 : Int) (x12 : Int) (x13 : Int) (x14 : Int) (x17 : Int) (x18 : Int) (x22 : Int) (x24 : Int) (x25 : Int) (barredPoint_0 : Int → Int) (wide_0 : Int) (tall_0 : Int) (costOf_0 : Int → Int) (wide_1 : Int) (tall_1 : Int) (barredPoint_1 : Int → Int) (costOf_1 : Int → Int) (wide_2 : Int) (tall_2 : Int) (barredPoint_2 : Int → Int) (costOf_2 : Int → Int) (turnX_0 : Int → Int) (turnX_1 : Int → Int) (turnX_2 : Int → Int) (x19 : Int) (turnY_0 : Int → Int) (turnY_1 : Int → Int) (x23 : Int) (turnY_2 : Int → Int) (gx : Int) (k3 : 0 ≤ x3 ∧ x3 ≤ 5999) (k5 : 0 ≤ x5 ∧ x5 ≤ 24) (k6 : 0 ≤ x6 ∧ x6 ≤ 5999) (k7 : 0 ≤ x7 ∧ x7 ≤ 3) (k9 : 0 ≤ x9 ∧ x9 ≤ 1000000) (k10 : 0 ≤ x10 ∧ x10 ≤ 3) (k11 : 0 ≤ x11 ∧ x11 ≤ 999999) (k12 : (-1) ≤ x12 ∧ x12 ≤ (-1)) (k13 : (-2) ≤ x13 ∧ x13 ≤ 1000000) (k14 : 25 ≤ x14 ∧ x14 ≤ 25) (k17 : 1 ≤ x17 ∧ x17 ≤ 6000) (k18 : 0 ≤ x18 ∧ x18 ≤ 5999) (k22 : 0 ≤ x22 ∧ x22 ≤ 5999) (k24 : 1 ≤ x24 ∧ x24 ≤ 25) (k25 : 0 ≤ x25 ∧ x25 ≤ 5999) (d0 : x5 + 1 ≤ x24 ∧ x24 ≤ x5 + 1) (d1 : x17 + (-4294967295) ≤ x18 ∧ x18 ≤ x17 + (-1)) (d2 : x9 + (-4294967296) ≤ x10 ∧ x10 ≤ x9 + 2) (d3 : x9 + (-4294967296) ≤ x11 ∧ x11 ≤ x9 + 0) (f0 : STQ (wide_0) (tall_0) (barredPoint_0) (x6) (x10) (x25)) (f1 : ((-1) ≤ x25) ∧ ((x25 + 1) ≤ (wide_0 * tall_0))) (f2 : x24 = x5 + 1) (f3 : GRX (wide_0) (tall_0)) (f4 : RTV (wide_0) (tall_0) (barredPoint_0) (costOf_0) (x3)) (f5 : (0 ≤ x3) ∧ ((x3 + 1) ≤ (wide_0 * tall_0))) (f6 : BB2 (wide_0) (tall_0) (barredPoint_0) (costOf_0) (x6) (x7) (x9)) (f7 : (0 ≤ x6) ∧ ((x6 + 1) ≤ (wide_0 * tall_0))) (f8 : (x5 + x9) ≤ 1000000) (f9 : 0 ≤ x5) (f10 : x6 ≠ x3) (f11 : BB3 (wide_0) (tall_0) (barredPoint_0) (costOf_0) (x6) (x7) (x9) (x10) (x11) (x12)) (f12 : (0 ≤ x9) ∧ (x9 ≤ x13)) (f13 : (-1) * x13 + 0 ≤ (-1)) (f15 : x22 = Int.tdiv (x6) (x17)) (g16 : x17 = wide_1) (f18 : GRX (wide_1) (tall_1)) (f19 : RTV (wide_1) (tall_1) (barredPoint_1) (costOf_1) (x3)) (f20 : (0 ≤ x3) ∧ ((x3 + 1) ≤ (wide_1 * tall_1))) (f21 : BB2 (wide_1) (tall_1) (barredPoint_1) (costOf_1) (x6) (x7) (x9)) (f22 : (0 ≤ x6) ∧ ((x6 + 1) ≤ (wide_1 * tall_1))) (f23 : (x5 + x9) ≤ 1000000) (f24 : 0 ≤ x5) (f25 : x6 ≠ x3) (f26 : BB3 (wide_1) (tall_1) (barredPoint_1) (costOf_1) (x6) (x7) (x9) (x10) (x11) (x12)) (f27 : (0 ≤ x9) ∧ (x9 ≤ x13)) (f28 : (-1) * x13 + 0 ≤ (-1)) (f30 : x18 = Int.tmod (x6) (x17)) (f32 : x5 < x14) (f33 : x10 ≠ x7) (f34 : x12 < 0) (f35 : GRX (wide_2) (tall_2)) (f36 : RTV (wide_2) (tall_2) (barredPoint_2) (costOf_2) (x3)) (f37 : (0 ≤ x3) ∧ ((x3 + 1) ≤ (wide_2 * tall_2))) (f38 : BB2 (wide_2) (tall_2) (barredPoint_2) (costOf_2) (x6) (x7) (x9)) (f39 : (0 ≤ x6) ∧ ((x6 + 1) ≤ (wide_2 * tall_2))) (f40 : (x5 + x9) ≤ 1000000) (f41 : 0 ≤ x5) (f42 : x6 ≠ x3) (f43 : BB3 (wide_2) (tall_2) (barredPoint_2) (costOf_2) (x6) (x7) (x9) (x10) (x11) (x12)) (f44 : (0 ≤ x9) ∧ (x9 ≤ x13)) (f45 : (-1) * x13 + 0 ≤ (-1)) (fe_0_146_1 : wide_0 = wide_1) (fe_0_147_1 : tall_0 = tall_1) (fe_0_146_2 : wide_1 = wide_2) (fe_0_147_2 : tall_1 = tall_2) (hE_0_140_1 : ∀ j : Int, costOf_0 j = costOf_1 j) (hE_0_140_2 : ∀ j : Int, costOf_1 j = costOf_2 j) (hK_0_140 : ∀ j : Int, 0 ≤ j → j < 24000 → 0 ≤ costOf_0 j ∧ costOf_0 j ≤ 1000000) (hE_0_143_1 : ∀ j : Int, barredPoint_0 j = barredPoint_1 j) (hE_0_143_2 : ∀ j : Int, barredPoint_1 j = barredPoint_2 j) (hK_0_143 : ∀ j : Int, 0 ≤ j → j < 6000 → 0 ≤ barredPoint_0 j ∧ barredPoint_0 j ≤ 1) (hE_0_148_1 : ∀ j : Int, turnX_0 j = turnX_1 j) (hE_0_148_2 : ∀ j : Int, 0 ≤ j → (j = x5 → turnX_1 j = x19) ∧ (j ≠ x5 → turnX_1 j = turnX_2 j)) (hK_0_148 : ∀ j : Int, 0 ≤ j → j < 26 → (-300000011) ≤ turnX_0 j ∧ turnX_0 j ≤ 2005999) (hE_0_149_1 : ∀ j : Int, 0 ≤ j → (j = x5 → turnY_0 j = x23) ∧ (j ≠ x5 → turnY_0 j = turnY_1 j)) (hE_0_149_2 : ∀ j : Int, turnY_1 j = turnY_2 j) (hK_0_149 : ∀ j : Int, 0 ≤ j → j < 26 → (-300000003) ≤ turnY_0 j ∧ turnY_0 j ≤ 2005999) (kz_0_146 : (-3999999) ≤ wide_0 ∧ wide_0 ≤ 600000023) (kz_0_147 : (-3999999) ≤ tall_0 ∧ tall_0 ≤ 600000007) (ex2 : gx = (-1) + (1 * x13 + 0)) (ex3 : (-2) ≤ gx ∧ gx ≤ 1000000) : 0 ≤ x24 := by
  subst fe_0_146_1
  subst fe_0_147_1
  subst fe_0_146_2
  subst fe_0_147_2
  have e_hE_0_140_1 := funext hE_0_140_1; subst e_hE_0_140_1
  have e_hE_0_140_2 := funext hE_0_140_2; subst e_hE_0_140_2
  have e_hE_0_143_1 := funext hE_0_143_1; subst e_hE_0_143_1
  have e_hE_0_143_2 := funext hE_0_143_2; subst e_hE_0_143_2
  have e_hE_0_148_1 := funext hE_0_148_1; subst e_hE_0_148_1
  have e_hE_0_149_2 := funext hE_0_149_2; subst e_hE_0_149_2
  first
    | omega
    | (have h := bb2_start (t := x13) ‹RTV _ _ _ _ _› ‹BB1 _ _ _ _ _ _ _ _› (by omega) ‹STQ _ _ _ _ _ _› (by omega)
       have h1 := h.1
       have h2 := h.2.2.2.2
       omega)
    | (have h := bb_next ‹RTV _ _ _ _ _› ‹BB2 _ _ _ _ _ _ _› ‹BB3 _ _ _ _ _ _ _ _ _ _› (by omega) (by omega)
       have h1 := h.1.1
       have h2 := h.2
       omega)
set_option maxHeartbeats 4000000 in
theorem vc_Mo_bendsBecome_16_7 (x3 : Int) (x5 : Int) (x6 : Int) (x7 : Int) (x9 : Int) (x10 : Int) (x11 : Int) (x12 : Int) (x13 : Int) (x14 : Int) (x17 : Int) (x18 : Int) (x22 : Int) (x24 : Int) (x25 : Int) (barredPoint_0 : Int → Int) (wide_0 : Int) (tall_0 : Int) (costOf_0 : Int → Int) (wide_1 : Int) (tall_1 : Int) (barredPoint_1 : Int → Int) (costOf_1 : Int → Int) (wide_2 : Int) (tall_2 : Int) (barredPoint_2 : Int → Int) (costOf_2 : Int → Int) (turnX_0 : Int → Int) (turnX_1 : Int → Int) (turnX_2 : Int → Int) (x19 : Int) (turnY_0 : Int → Int) (turnY_1 : Int → Int) (x23 : Int) (turnY_2 : Int → Int) (gx : Int) (k3 : 0 ≤ x3 ∧ x3 ≤ 5999) (k5 : 0 ≤ x5 ∧ x5 ≤ 24) (k6 : 0 ≤ x6 ∧ x6 ≤ 5999) (k7 : 0 ≤ x7 ∧ x7 ≤ 3) (k9 : 0 ≤ x9 ∧ x9 ≤ 1000000) (k10 : 0 ≤ x10 ∧ x10 ≤ 3) (k11 : 0 ≤ x11 ∧ x11 ≤ 999999) (k12 : (-1) ≤ x12 ∧ x12 ≤ (-1)) (k13 : (-2) ≤ x13 ∧ x13 ≤ 1000000) (k14 : 25 ≤ x14 ∧ x14 ≤ 25) (k17 : 1 ≤ x17 ∧ x17 ≤ 6000) (k18 : 0 ≤ x18 ∧ x18 ≤ 5999) (k22 : 0 ≤ x22 ∧ x22 ≤ 5999) (k24 : 1 ≤ x24 ∧ x24 ≤ 25) (k25 : 0 ≤ x25 ∧ x25 ≤ 5999) (d0 : x5 + 1 ≤ x24 ∧ x24 ≤ x5 + 1) (d1 : x17 + (-4294967295) ≤ x18 ∧ x18 ≤ x17 + (-1)) (d2 : x9 + (-4294967296) ≤ x10 ∧ x10 ≤ x9 + 2) (d3 : x9 + (-4294967296) ≤ x11 ∧ x11 ≤ x9 + 0) (f0 : STQ (wide_0) (tall_0) (barredPoint_0) (x6) (x10) (x25)) (f1 : ((-1) ≤ x25) ∧ ((x25 + 1) ≤ (wide_0 * tall_0))) (f2 : x24 = x5 + 1) (f3 : GRX (wide_0) (tall_0)) (f4 : RTV (wide_0) (tall_0) (barredPoint_0) (costOf_0) (x3)) (f5 : (0 ≤ x3) ∧ ((x3 + 1) ≤ (wide_0 * tall_0))) (f6 : BB2 (wide_0) (tall_0) (barredPoint_0) (costOf_0) (x6) (x7) (x9)) (f7 : (0 ≤ x6) ∧ ((x6 + 1) ≤ (wide_0 * tall_0))) (f8 : (x5 + x9) ≤ 1000000) (f9 : 0 ≤ x5) (f10 : x6 ≠ x3) (f11 : BB3 (wide_0) (tall_0) (barredPoint_0) (costOf_0) (x6) (x7) (x9) (x10) (x11) (x12)) (f12 : (0 ≤ x9) ∧ (x9 ≤ x13)) (f13 : (-1) * x13 + 0 ≤ (-1)) (f15 : x22 = Int.tdiv (x6) (x17)) (g16 : x17 = wide_1) (f18 : GRX (wide_1) (tall_1)) (f19 : RTV (wide_1) (tall_1) (barredPoint_1) (costOf_1) (x3)) (f20 : (0 ≤ x3) ∧ ((x3 + 1) ≤ (wide_1 * tall_1))) (f21 : BB2 (wide_1) (tall_1) (barredPoint_1) (costOf_1) (x6) (x7) (x9)) (f22 : (0 ≤ x6) ∧ ((x6 + 1) ≤ (wide_1 * tall_1))) (f23 : (x5 + x9) ≤ 1000000) (f24 : 0 ≤ x5) (f25 : x6 ≠ x3) (f26 : BB3 (wide_1) (tall_1) (barredPoint_1) (costOf_1) (x6) (x7) (x9) (x10) (x11) (x12)) (f27 : (0 ≤ x9) ∧ (x9 ≤ x13)) (f28 : (-1) * x13 + 0 ≤ (-1)) (f30 : x18 = Int.tmod (x6) (x17)) (f32 : x5 < x14) (f33 : x10 ≠ x7) (f34 : x12 < 0) (f35 : GRX (wide_2) (tall_2)) (f36 : RTV (wide_2) (tall_2) (barredPoint_2) (costOf_2) (x3)) (f37 : (0 ≤ x3) ∧ ((x3 + 1) ≤ (wide_2 * tall_2))) (f38 : BB2 (wide_2) (tall_2) (barredPoint_2) (costOf_2) (x6) (x7) (x9)) (f39 : (0 ≤ x6) ∧ ((x6 + 1) ≤ (wide_2 * tall_2))) (f40 : (x5 + x9) ≤ 1000000) (f41 : 0 ≤ x5) (f42 : x6 ≠ x3) (f43 : BB3 (wide_2) (tall_2) (barredPoint_2) (costOf_2) (x6) (x7) (x9) (x10) (x11) (x12)) (f44 : (0 ≤ x9) ∧ (x9 ≤ x13)) (f45 : (-1) * x13 + 0 ≤ (-1)) (fe_0_146_1 : wide_0 = wide_1) (fe_0_147_1 : tall_0 = tall_1) (fe_0_146_2 : wide_1 = wide_2) (fe_0_147_2 : tall_1 = tall_2) (hE_0_140_1 : ∀ j : Int, costOf_0 j = costOf_1 j) (hE_0_140_2 : ∀ j : Int, costOf_1 j = costOf_2 j) (hK_0_140 : ∀ j : Int, 0 ≤ j → j < 24000 → 0 ≤ costOf_0 j ∧ costOf_0 j ≤ 1000000) (hE_0_143_1 : ∀ j : Int, barredPoint_0 j = barredPoint_1 j) (hE_0_143_2 : ∀ j : Int, barredPoint_1 j = barredPoint_2 j) (hK_0_143 : ∀ j : Int, 0 ≤ j → j < 6000 → 0 ≤ barredPoint_0 j ∧ barredPoint_0 j ≤ 1) (hE_0_148_1 : ∀ j : Int, turnX_0 j = turnX_1 j) (hE_0_148_2 : ∀ j : Int, 0 ≤ j → (j = x5 → turnX_1 j = x19) ∧ (j ≠ x5 → turnX_1 j = turnX_2 j)) (hK_0_148 : ∀ j : Int, 0 ≤ j → j < 26 → (-300000011) ≤ turnX_0 j ∧ turnX_0 j ≤ 2005999) (hE_0_149_1 : ∀ j : Int, 0 ≤ j → (j = x5 → turnY_0 j = x23) ∧ (j ≠ x5 → turnY_0 j = turnY_1 j)) (hE_0_149_2 : ∀ j : Int, turnY_1 j = turnY_2 j) (hK_0_149 : ∀ j : Int, 0 ≤ j → j < 26 → (-300000003) ≤ turnY_0 j ∧ turnY_0 j ≤ 2005999) (kz_0_146 : (-3999999) ≤ wide_0 ∧ wide_0 ≤ 600000023) (kz_0_147 : (-3999999) ≤ tall_0 ∧ tall_0 ≤ 600000007) (ex2 : gx = (-1) + (1 * x13 + 0)) (ex3 : (-2) ≤ gx ∧ gx ≤ 1000000) : (0 ≤ x11) ∧ (x11 ≤ gx) := by
  subst fe_0_146_1
  subst fe_0_147_1
  subst fe_0_146_2
  subst fe_0_147_2
  have e_hE_0_140_1 := funext hE_0_140_1; subst e_hE_0_140_1
  have e_hE_0_140_2 := funext hE_0_140_2; subst e_hE_0_140_2
  have e_hE_0_143_1 := funext hE_0_143_1; subst e_hE_0_143_1
  have e_hE_0_143_2 := funext hE_0_143_2; subst e_hE_0_143_2
  have e_hE_0_148_1 := funext hE_0_148_1; subst e_hE_0_148_1
  have e_hE_0_149_2 := funext hE_0_149_2; subst e_hE_0_149_2
  first
    | omega
    | (have h := bb2_start (t := x13) ‹RTV _ _ _ _ _› ‹BB1 _ _ _ _ _ _ _ _› (by omega) ‹STQ _ _ _ _ _ _› (by omega)
       have h1 := h.1
       have h2 := h.2.2.2.2
       omega)
    | (have h := bb_next ‹RTV _ _ _ _ _› ‹BB2 _ _ _ _ _ _ _› ‹BB3 _ _ _ _ _ _ _ _ _ _› (by omega) (by omega)
       have h1 := h.1.1
       have h2 := h.2
       omega)
def o_Mo_bendsBecome_16 : or_T := (112, 26, [(0, (2, 0, 0, [165])), (3, (0, 0, 5999, [])), (5, (0, 0, 24, [])), (6, (0, 0, 5999, [])), (7, (0, 0, 3, [])), (9, (0, 0, 1000000, [])), (10, (0, 0, 3, [])), (11, (0, 0, 999999, [])), (12, (0, -1, -1, [])), (13, (0, -2, 1000000, [])), (14, (0, 25, 25, [])), (15, (2, 0, 0, [270])), (17, (0, 1, 6000, [])), (18, (0, 0, 5999, [])), (20, (2, 0, 0, [271])), (22, (0, 0, 5999, [])), (24, (0, 1, 25, [])), (25, (0, 0, 5999, []))], [(20, [0, 6, 10, 25], [60, 2, 1, 505, 146, 147, 143]), (20, [25, 0], [50, 2, 0, 1146, 1147, 2, 6, 0, 2, 0, -1, 1, 0, 0, 6, 4, 2, 1, 0, 0, 1, 6, 3, 2, 1, 146, 2, 1, 147]), (6, [24, 5], [1]), (20, [0], [60, 2, 0, 494, 146, 147]), (20, [0, 3], [60, 2, 2, 504, 146, 147, 143, 140]), (20, [3, 0], [50, 2, 0, 1146, 1147, 2, 6, 0, 2, 0, 0, 1, 0, 0, 6, 4, 2, 1, 0, 0, 1, 6, 3, 2, 1, 146, 2, 1, 147]), (20, [0, 6, 7, 9], [60, 2, 2, 507, 146, 147, 143, 140]), (20, [6, 0], [50, 2, 0, 1146, 1147, 2, 6, 0, 2, 0, 0, 1, 0, 0, 6, 4, 2, 1, 0, 0, 1, 6, 3, 2, 1, 146, 2, 1, 147]), (20, [5, 9], [50, 0, 0, 0, 6, 4, 2, 1, 0, 1, 1, 0, 1000000]), (20, [5], [50, 0, 0, 0, 2, 0, 0, 1, 0]), (20, [6, 3], [50, 0, 0, 7, 2, 1, 0, 1, 1]), (20, [0, 6, 7, 9, 10, 11, 12], [60, 2, 2, 508, 146, 147, 143, 140]), (20, [9, 13], [50, 0, 0, 2, 6, 0, 2, 0, 0, 1, 0, 0, 2, 1, 0, 1, 1]), (23, [13], [-1, -1]), (100, [20, 5, 23], []), (4, [22, 6, 17], []), (9, [17, 0], [146]), (9, [20, 0], [149]), (20, [0], [60, 2, 0, 494, 146, 147]), (20, [0, 3], [60, 2, 2, 504, 146, 147, 143, 140]), (20, [3, 0], [50, 2, 0, 1146, 1147, 2, 6, 0, 2, 0, 0, 1, 0, 0, 6, 4, 2, 1, 0, 0, 1, 6, 3, 2, 1, 146, 2, 1, 147]), (20, [0, 6, 7, 9], [60, 2, 2, 507, 146, 147, 143, 140]), (20, [6, 0], [50, 2, 0, 1146, 1147, 2, 6, 0, 2, 0, 0, 1, 0, 0, 6, 4, 2, 1, 0, 0, 1, 6, 3, 2, 1, 146, 2, 1, 147]), (20, [5, 9], [50, 0, 0, 0, 6, 4, 2, 1, 0, 1, 1, 0, 1000000]), (20, [5], [50, 0, 0, 0, 2, 0, 0, 1, 0]), (20, [6, 3], [50, 0, 0, 7, 2, 1, 0, 1, 1]), (20, [0, 6, 7, 9, 10, 11, 12], [60, 2, 2, 508, 146, 147, 143, 140]), (20, [9, 13], [50, 0, 0, 2, 6, 0, 2, 0, 0, 1, 0, 0, 2, 1, 0, 1, 1]), (23, [13], [-1, -1]), (100, [15, 5, 19], []), (5, [18, 6, 17], []), (9, [15, 0], [148]), (7, [5, 14], [2]), (7, [10, 7], [1]), (8, [12], [2]), (20, [0], [60, 2, 0, 494, 146, 147]), (20, [0, 3], [60, 2, 2, 504, 146, 147, 143, 140]), (20, [3, 0], [50, 2, 0, 1146, 1147, 2, 6, 0, 2, 0, 0, 1, 0, 0, 6, 4, 2, 1, 0, 0, 1, 6, 3, 2, 1, 146, 2, 1, 147]), (20, [0, 6, 7, 9], [60, 2, 2, 507, 146, 147, 143, 140]), (20, [6, 0], [50, 2, 0, 1146, 1147, 2, 6, 0, 2, 0, 0, 1, 0, 0, 6, 4, 2, 1, 0, 0, 1, 6, 3, 2, 1, 146, 2, 1, 147]), (20, [5, 9], [50, 0, 0, 0, 6, 4, 2, 1, 0, 1, 1, 0, 1000000]), (20, [5], [50, 0, 0, 0, 2, 0, 0, 1, 0]), (20, [6, 3], [50, 0, 0, 7, 2, 1, 0, 1, 1]), (20, [0, 6, 7, 9, 10, 11, 12], [60, 2, 2, 508, 146, 147, 143, 140]), (20, [9, 13], [50, 0, 0, 2, 6, 0, 2, 0, 0, 1, 0, 0, 2, 1, 0, 1, 1]), (23, [13], [-1, -1])], [], [(0, -2, 1000000, [])], [(20, [0], [60, 2, 0, 494, 146, 147]), (20, [0, 3], [60, 2, 2, 504, 146, 147, 143, 140]), (20, [3, 0], [50, 2, 0, 1146, 1147, 2, 6, 0, 2, 0, 0, 1, 0, 0, 6, 4, 2, 1, 0, 0, 1, 6, 3, 2, 1, 146, 2, 1, 147]), (20, [0, 25, 10, 11], [60, 2, 2, 507, 146, 147, 143, 140]), (20, [25, 0], [50, 2, 0, 1146, 1147, 2, 6, 0, 2, 0, 0, 1, 0, 0, 6, 4, 2, 1, 0, 0, 1, 6, 3, 2, 1, 146, 2, 1, 147]), (20, [24, 11], [50, 0, 0, 0, 6, 4, 2, 1, 0, 1, 1, 0, 1000000]), (20, [24], [50, 0, 0, 0, 2, 0, 0, 1, 0]), (20, [11, 26], [50, 0, 0, 2, 6, 0, 2, 0, 0, 1, 0, 0, 2, 1, 0, 1, 1])], [(26, 13, -1000000000000, -1)], [(24, 5, 1, 1), (18, 17, -4294967295, -1), (10, 9, -4294967296, 2), (11, 9, -4294967296, 0)])
theorem oo_Mo_bendsBecome_16 {kA : Nat → ClassId} : or_ok PRD kA GG o_Mo_bendsBecome_16 := by
  refine or_mk fun A ta ws vs hD hth hl => ?_
  intro t0 r0 t3 k3 t5 k5 t6 k6 t7 k7 t9 k9 t10 k10 t11 k11 t12 k12 t13 k13 t14 k14 t15 r15 t17 k17 t18 k18 t20 r20 t22 k22 t24 k24 t25 k25 d0 d1 d2 d3 f0 f1 f2 f3 f4 f5 f6 f7 f8 f9 f10 f11 f12 f13 ta1 w1 le1 s1 f15 f16 f17 f18 f19 f20 f21 f22 f23 f24 f25 f26 f27 f28 ta2 w2 le2 s2 f30 f31 f32 f33 f34 f35 f36 f37 f38 f39 f40 f41 f42 f43 f44 f45
  replace f0 := shm_1257 f0
  replace f1 := shm_1258 f1
  replace f2 := shm_4 f2
  replace f3 := shm_1255 f3
  replace f4 := shm_1376 f4
  replace f5 := shm_1256 f5
  replace f6 := shm_1378 f6
  replace f7 := shm_1256 f7
  replace f8 := shm_1379 f8
  replace f9 := shm_709 f9
  replace f10 := shm_419 f10
  replace f11 := shm_1380 f11
  replace f12 := shm_384 f12
  replace f13 := shm_614 f13
  have s1 : (∀ b j, w_el ws b j = if b = v_ad (n_v vs 20) ∧ j = (v_iv (n_v vs 5)).toNat then v_iv (n_v vs 23) else w_el w1 b j) ∧ ∀ b k, w_fd ws b k = w_fd w1 b k := s1.2
  replace f15 := shm_34 f15
  have fq15 : 10 ≤ v_iv (n_v vs 22) → 10 * v_iv (n_v vs 17) ≤ v_iv (n_v vs 6) := dv_ten f15 (by omega) (by omega)
  replace f16 := shm_1254 f16
  replace f17 := shm_1381 f17
  replace f18 := shm_1255 f18
  replace f19 := shm_1376 f19
  replace f20 := shm_1256 f20
  replace f21 := shm_1378 f21
  replace f22 := shm_1256 f22
  replace f23 := shm_1379 f23
  replace f24 := shm_709 f24
  replace f25 := shm_419 f25
  replace f26 := shm_1380 f26
  replace f27 := shm_384 f27
  replace f28 := shm_614 f28
  have s2 : (∀ b j, w_el w1 b j = if b = v_ad (n_v vs 15) ∧ j = (v_iv (n_v vs 5)).toNat then v_iv (n_v vs 19) else w_el w2 b j) ∧ ∀ b k, w_fd w1 b k = w_fd w2 b k := s2.2
  replace f30 := shm_462 f30
  replace f31 := shm_1382 f31
  replace f32 := shm_6 f32
  replace f33 := shm_40 f33
  replace f34 := shm_39 f34
  replace f35 := shm_1255 f35
  replace f36 := shm_1376 f36
  replace f37 := shm_1256 f37
  replace f38 := shm_1378 f38
  replace f39 := shm_1256 f39
  replace f40 := shm_1379 f40
  replace f41 := shm_709 f41
  replace f42 := shm_419 f42
  replace f43 := shm_1380 f43
  replace f44 := shm_384 f44
  replace f45 := shm_614 f45
  have ar_0_140_1 : w_ar w1 (n_v vs 0) 140 = w_ar ws (n_v vs 0) 140 := congrArg v_ad (s1.2 _ _).symm
  have ar_0_140_2 : w_ar w2 (n_v vs 0) 140 = w_ar ws (n_v vs 0) 140 := by rw [← ar_0_140_1]; show v_ad (w_fd w2 _ _) = v_ad (w_fd w1 _ _); rw [s2.2]
  have cr_0_140 := fdq_174 hD hth r0
  have ar_0_143_1 : w_ar w1 (n_v vs 0) 143 = w_ar ws (n_v vs 0) 143 := congrArg v_ad (s1.2 _ _).symm
  have ar_0_143_2 : w_ar w2 (n_v vs 0) 143 = w_ar ws (n_v vs 0) 143 := by rw [← ar_0_143_1]; show v_ad (w_fd w2 _ _) = v_ad (w_fd w1 _ _); rw [s2.2]
  have cr_0_143 := fdq_177 hD hth r0
  have ar_0_148_1 : w_ar w1 (n_v vs 0) 148 = w_ar ws (n_v vs 0) 148 := congrArg v_ad (s1.2 _ _).symm
  have ar_0_148_2 : w_ar w2 (n_v vs 0) 148 = w_ar ws (n_v vs 0) 148 := by rw [← ar_0_148_1]; show v_ad (w_fd w2 _ _) = v_ad (w_fd w1 _ _); rw [s2.2]
  have cr_0_148 := fdq_284 hD hth r0
  have ar_0_149_1 : w_ar w1 (n_v vs 0) 149 = w_ar ws (n_v vs 0) 149 := congrArg v_ad (s1.2 _ _).symm
  have ar_0_149_2 : w_ar w2 (n_v vs 0) 149 = w_ar ws (n_v vs 0) 149 := by rw [← ar_0_149_1]; show v_ad (w_fd w2 _ _) = v_ad (w_fd w1 _ _); rw [s2.2]
  have cr_0_149 := fdq_285 hD hth r0
  have ad_20 : v_ad (n_v vs 20) = w_ar ws (n_v vs 0) 149 := (congrArg v_ad f17).trans ar_0_149_1
  have ad_15 : v_ad (n_v vs 15) = w_ar ws (n_v vs 0) 148 := (congrArg v_ad f31).trans ar_0_148_2
  have g16 : v_iv (n_v vs 17) = w_fi w1 (n_v vs 0) 146 := congrArg v_iv f16
  simp only [ar_0_140_1, ar_0_143_1, ar_0_140_2, ar_0_143_2] at f19 f21 f26 f36 f38 f43
  have fe_0_146_1 : w_fi ws (n_v vs 0) 146 = w_fi w1 (n_v vs 0) 146 := congrArg v_iv (s1.2 _ _)
  have fe_0_147_1 : w_fi ws (n_v vs 0) 147 = w_fi w1 (n_v vs 0) 147 := congrArg v_iv (s1.2 _ _)
  have fe_0_146_2 : w_fi w1 (n_v vs 0) 146 = w_fi w2 (n_v vs 0) 146 := congrArg v_iv (s2.2 _ _)
  have fe_0_147_2 : w_fi w1 (n_v vs 0) 147 = w_fi w2 (n_v vs 0) 147 := congrArg v_iv (s2.2 _ _)
  have hE_0_140_1 : ∀ j : Int, w_ei ws (w_ar ws (n_v vs 0) 140) j = w_ei w1 (w_ar ws (n_v vs 0) 140) j := el_kp s1.1 r20 cr_0_140 (by decide)
  have hE_0_140_2 : ∀ j : Int, w_ei w1 (w_ar ws (n_v vs 0) 140) j = w_ei w2 (w_ar ws (n_v vs 0) 140) j := el_kp s2.1 r15 cr_0_140 (by decide)
  have hK_0_140 := elq_101 hD hth cr_0_140
  have hE_0_143_1 : ∀ j : Int, w_ei ws (w_ar ws (n_v vs 0) 143) j = w_ei w1 (w_ar ws (n_v vs 0) 143) j := el_kp s1.1 r20 cr_0_143 (by decide)
  have hE_0_143_2 : ∀ j : Int, w_ei w1 (w_ar ws (n_v vs 0) 143) j = w_ei w2 (w_ar ws (n_v vs 0) 143) j := el_kp s2.1 r15 cr_0_143 (by decide)
  have hK_0_143 := elq_104 hD hth cr_0_143
  have hE_0_148_1 : ∀ j : Int, w_ei ws (w_ar ws (n_v vs 0) 148) j = w_ei w1 (w_ar ws (n_v vs 0) 148) j := el_kp s1.1 r20 cr_0_148 (by decide)
  have hE_0_148_2 : ∀ j : Int, 0 ≤ j → (j = v_iv (n_v vs 5) → w_ei w1 (w_ar ws (n_v vs 0) 148) j = v_iv (n_v vs 19)) ∧ (j ≠ v_iv (n_v vs 5) → w_ei w1 (w_ar ws (n_v vs 0) 148) j = w_ei w2 (w_ar ws (n_v vs 0) 148) j) := fun j hj => ⟨fun h => by unfold w_ei; rw [s2.1, if_pos ⟨ad_15.symm, by rw [h]⟩], fun h => by unfold w_ei; rw [s2.1, if_neg (fun e => h (by have := e.2; omega))]⟩
  have hK_0_148 := elq_180 hD hth cr_0_148
  have hE_0_149_1 : ∀ j : Int, 0 ≤ j → (j = v_iv (n_v vs 5) → w_ei ws (w_ar ws (n_v vs 0) 149) j = v_iv (n_v vs 23)) ∧ (j ≠ v_iv (n_v vs 5) → w_ei ws (w_ar ws (n_v vs 0) 149) j = w_ei w1 (w_ar ws (n_v vs 0) 149) j) := fun j hj => ⟨fun h => by unfold w_ei; rw [s1.1, if_pos ⟨ad_20.symm, by rw [h]⟩], fun h => by unfold w_ei; rw [s1.1, if_neg (fun e => h (by have := e.2; omega))]⟩
  have hE_0_149_2 : ∀ j : Int, w_ei w1 (w_ar ws (n_v vs 0) 149) j = w_ei w2 (w_ar ws (n_v vs 0) 149) j := el_kp s2.1 r15 cr_0_149 (by decide)
  have hK_0_149 := elq_181 hD hth cr_0_149
  have pe_0_146_147_1 : w_fi ws (n_v vs 0) 146 * w_fi ws (n_v vs 0) 147 = w_fi w1 (n_v vs 0) 146 * w_fi w1 (n_v vs 0) 147 := by rw [fe_0_146_1, fe_0_147_1]
  have pe_0_146_147_2 : w_fi w1 (n_v vs 0) 146 * w_fi w1 (n_v vs 0) 147 = w_fi w2 (n_v vs 0) 146 * w_fi w2 (n_v vs 0) 147 := by rw [fe_0_146_2, fe_0_147_2]
  have kz_0_146 := fdq_178 hD hth r0
  have kz_0_147 := fdq_179 hD hth r0
  obtain ⟨x, ex, hx⟩ := iv_ex (ta := ta) (lo := (-2)) (hi := 1000000) (z := (-1) + (1 * v_iv (n_v vs 13) + 0)) (by omega) (by omega) (by omega) (by omega)
  have ex2 : v_iv (Value.int x) = (-1) + (1 * v_iv (n_v vs 13) + 0) := ex
  have ex3 : (-2) ≤ v_iv (Value.int x) ∧ v_iv (Value.int x) ≤ 1000000 := tv_rng hx
  have e_0 : n_v (vs ++ [Value.int x]) 0 = n_v vs 0 := n_v_old (by rw [hl]; decide)
  have e_3 : n_v (vs ++ [Value.int x]) 3 = n_v vs 3 := n_v_old (by rw [hl]; decide)
  have e_10 : n_v (vs ++ [Value.int x]) 10 = n_v vs 10 := n_v_old (by rw [hl]; decide)
  have e_11 : n_v (vs ++ [Value.int x]) 11 = n_v vs 11 := n_v_old (by rw [hl]; decide)
  have e_24 : n_v (vs ++ [Value.int x]) 24 = n_v vs 24 := n_v_old (by rw [hl]; decide)
  have e_25 : n_v (vs ++ [Value.int x]) 25 = n_v vs 25 := n_v_old (by rw [hl]; decide)
  have e_26 : n_v (vs ++ [Value.int x]) 26 = Value.int x := n_v_new hl
  have nf0 : fc_1 PRD (20, [0], [60, 2, 0, 494, 146, 147]) ws (vs ++ [Value.int x]) := by
    refine ⟨nf_inA hl rfl, sgq_1255 ?_⟩
    · show GRX (w_fi ws (n_v (vs ++ [Value.int x]) 0) 146) (w_fi ws (n_v (vs ++ [Value.int x]) 0) 147)
      rw [e_0]
      exact vc_Mo_bendsBecome_16_0 (v_iv (n_v vs 3)) (v_iv (n_v vs 5)) (v_iv (n_v vs 6)) (v_iv (n_v vs 7)) (v_iv (n_v vs 9)) (v_iv (n_v vs 10)) (v_iv (n_v vs 11)) (v_iv (n_v vs 12)) (v_iv (n_v vs 13)) (v_iv (n_v vs 14)) (v_iv (n_v vs 17)) (v_iv (n_v vs 18)) (v_iv (n_v vs 22)) (v_iv (n_v vs 24)) (v_iv (n_v vs 25)) (w_ei ws (w_ar ws (n_v vs 0) 143)) (w_fi ws (n_v vs 0) 146) (w_fi ws (n_v vs 0) 147) (w_ei ws (w_ar ws (n_v vs 0) 140)) (w_fi w1 (n_v vs 0) 146) (w_fi w1 (n_v vs 0) 147) (w_ei w1 (w_ar ws (n_v vs 0) 143)) (w_ei w1 (w_ar ws (n_v vs 0) 140)) (w_fi w2 (n_v vs 0) 146) (w_fi w2 (n_v vs 0) 147) (w_ei w2 (w_ar ws (n_v vs 0) 143)) (w_ei w2 (w_ar ws (n_v vs 0) 140)) (w_ei ws (w_ar ws (n_v vs 0) 148)) (w_ei w1 (w_ar ws (n_v vs 0) 148)) (w_ei w2 (w_ar ws (n_v vs 0) 148)) (v_iv (n_v vs 19)) (w_ei ws (w_ar ws (n_v vs 0) 149)) (w_ei w1 (w_ar ws (n_v vs 0) 149)) (v_iv (n_v vs 23)) (w_ei w2 (w_ar ws (n_v vs 0) 149)) (v_iv (Value.int x)) k3 k5 k6 k7 k9 k10 k11 k12 k13 k14 k17 k18 k22 k24 k25 d0 d1 d2 d3 f0 f1 f2 f3 f4 f5 f6 f7 f8 f9 f10 f11 f12 f13 f15 g16 f18 f19 f20 f21 f22 f23 f24 f25 f26 f27 f28 f30 f32 f33 f34 f35 f36 f37 f38 f39 f40 f41 f42 f43 f44 f45 fe_0_146_1 fe_0_147_1 fe_0_146_2 fe_0_147_2 hE_0_140_1 hE_0_140_2 hK_0_140 hE_0_143_1 hE_0_143_2 hK_0_143 hE_0_148_1 hE_0_148_2 hK_0_148 hE_0_149_1 hE_0_149_2 hK_0_149 kz_0_146 kz_0_147 ex2 ex3
  have nf1 : fc_1 PRD (20, [0, 3], [60, 2, 2, 504, 146, 147, 143, 140]) ws (vs ++ [Value.int x]) := by
    refine ⟨nf_inA hl rfl, sgq_1376 ?_⟩
    · show RTV (w_fi ws (n_v (vs ++ [Value.int x]) 0) 146) (w_fi ws (n_v (vs ++ [Value.int x]) 0) 147) (w_ei ws (w_ar ws (n_v (vs ++ [Value.int x]) 0) 143)) (w_ei ws (w_ar ws (n_v (vs ++ [Value.int x]) 0) 140)) (v_iv (n_v (vs ++ [Value.int x]) 3))
      simp only [e_0, e_3]
      exact vc_Mo_bendsBecome_16_1 (v_iv (n_v vs 3)) (v_iv (n_v vs 5)) (v_iv (n_v vs 6)) (v_iv (n_v vs 7)) (v_iv (n_v vs 9)) (v_iv (n_v vs 10)) (v_iv (n_v vs 11)) (v_iv (n_v vs 12)) (v_iv (n_v vs 13)) (v_iv (n_v vs 14)) (v_iv (n_v vs 17)) (v_iv (n_v vs 18)) (v_iv (n_v vs 22)) (v_iv (n_v vs 24)) (v_iv (n_v vs 25)) (w_ei ws (w_ar ws (n_v vs 0) 143)) (w_fi ws (n_v vs 0) 146) (w_fi ws (n_v vs 0) 147) (w_ei ws (w_ar ws (n_v vs 0) 140)) (w_fi w1 (n_v vs 0) 146) (w_fi w1 (n_v vs 0) 147) (w_ei w1 (w_ar ws (n_v vs 0) 143)) (w_ei w1 (w_ar ws (n_v vs 0) 140)) (w_fi w2 (n_v vs 0) 146) (w_fi w2 (n_v vs 0) 147) (w_ei w2 (w_ar ws (n_v vs 0) 143)) (w_ei w2 (w_ar ws (n_v vs 0) 140)) (w_ei ws (w_ar ws (n_v vs 0) 148)) (w_ei w1 (w_ar ws (n_v vs 0) 148)) (w_ei w2 (w_ar ws (n_v vs 0) 148)) (v_iv (n_v vs 19)) (w_ei ws (w_ar ws (n_v vs 0) 149)) (w_ei w1 (w_ar ws (n_v vs 0) 149)) (v_iv (n_v vs 23)) (w_ei w2 (w_ar ws (n_v vs 0) 149)) (v_iv (Value.int x)) k3 k5 k6 k7 k9 k10 k11 k12 k13 k14 k17 k18 k22 k24 k25 d0 d1 d2 d3 f0 f1 f2 f3 f4 f5 f6 f7 f8 f9 f10 f11 f12 f13 f15 g16 f18 f19 f20 f21 f22 f23 f24 f25 f26 f27 f28 f30 f32 f33 f34 f35 f36 f37 f38 f39 f40 f41 f42 f43 f44 f45 fe_0_146_1 fe_0_147_1 fe_0_146_2 fe_0_147_2 hE_0_140_1 hE_0_140_2 hK_0_140 hE_0_143_1 hE_0_143_2 hK_0_143 hE_0_148_1 hE_0_148_2 hK_0_148 hE_0_149_1 hE_0_149_2 hK_0_149 kz_0_146 kz_0_147 ex2 ex3
  have nf2 : fc_1 PRD (20, [3, 0], [50, 2, 0, 1146, 1147, 2, 6, 0, 2, 0, 0, 1, 0, 0, 6, 4, 2, 1, 0, 0, 1, 6, 3, 2, 1, 146, 2, 1, 147]) ws (vs ++ [Value.int x]) := by
    refine ⟨nf_inA hl rfl, sgq_1256 ?_⟩
    · show (0 ≤ v_iv (n_v (vs ++ [Value.int x]) 3)) ∧ ((v_iv (n_v (vs ++ [Value.int x]) 3) + 1) ≤ (w_fi ws (n_v (vs ++ [Value.int x]) 0) 146 * w_fi ws (n_v (vs ++ [Value.int x]) 0) 147))
      simp only [e_0, e_3]
      exact vc_Mo_bendsBecome_16_2 (v_iv (n_v vs 3)) (v_iv (n_v vs 5)) (v_iv (n_v vs 6)) (v_iv (n_v vs 7)) (v_iv (n_v vs 9)) (v_iv (n_v vs 10)) (v_iv (n_v vs 11)) (v_iv (n_v vs 12)) (v_iv (n_v vs 13)) (v_iv (n_v vs 14)) (v_iv (n_v vs 17)) (v_iv (n_v vs 18)) (v_iv (n_v vs 22)) (v_iv (n_v vs 24)) (v_iv (n_v vs 25)) (w_ei ws (w_ar ws (n_v vs 0) 143)) (w_fi ws (n_v vs 0) 146) (w_fi ws (n_v vs 0) 147) (w_ei ws (w_ar ws (n_v vs 0) 140)) (w_fi w1 (n_v vs 0) 146) (w_fi w1 (n_v vs 0) 147) (w_ei w1 (w_ar ws (n_v vs 0) 143)) (w_ei w1 (w_ar ws (n_v vs 0) 140)) (w_fi w2 (n_v vs 0) 146) (w_fi w2 (n_v vs 0) 147) (w_ei w2 (w_ar ws (n_v vs 0) 143)) (w_ei w2 (w_ar ws (n_v vs 0) 140)) (w_ei ws (w_ar ws (n_v vs 0) 148)) (w_ei w1 (w_ar ws (n_v vs 0) 148)) (w_ei w2 (w_ar ws (n_v vs 0) 148)) (v_iv (n_v vs 19)) (w_ei ws (w_ar ws (n_v vs 0) 149)) (w_ei w1 (w_ar ws (n_v vs 0) 149)) (v_iv (n_v vs 23)) (w_ei w2 (w_ar ws (n_v vs 0) 149)) (v_iv (Value.int x)) k3 k5 k6 k7 k9 k10 k11 k12 k13 k14 k17 k18 k22 k24 k25 d0 d1 d2 d3 f0 f1 f2 f3 f4 f5 f6 f7 f8 f9 f10 f11 f12 f13 f15 g16 f18 f19 f20 f21 f22 f23 f24 f25 f26 f27 f28 f30 f32 f33 f34 f35 f36 f37 f38 f39 f40 f41 f42 f43 f44 f45 fe_0_146_1 fe_0_147_1 fe_0_146_2 fe_0_147_2 hE_0_140_1 hE_0_140_2 hK_0_140 hE_0_143_1 hE_0_143_2 hK_0_143 hE_0_148_1 hE_0_148_2 hK_0_148 hE_0_149_1 hE_0_149_2 hK_0_149 kz_0_146 kz_0_147 ex2 ex3
  have nf3 : fc_1 PRD (20, [0, 25, 10, 11], [60, 2, 2, 507, 146, 147, 143, 140]) ws (vs ++ [Value.int x]) := by
    refine ⟨nf_inA hl rfl, sgq_1378 ?_⟩
    · show BB2 (w_fi ws (n_v (vs ++ [Value.int x]) 0) 146) (w_fi ws (n_v (vs ++ [Value.int x]) 0) 147) (w_ei ws (w_ar ws (n_v (vs ++ [Value.int x]) 0) 143)) (w_ei ws (w_ar ws (n_v (vs ++ [Value.int x]) 0) 140)) (v_iv (n_v (vs ++ [Value.int x]) 25)) (v_iv (n_v (vs ++ [Value.int x]) 10)) (v_iv (n_v (vs ++ [Value.int x]) 11))
      simp only [e_0, e_10, e_11, e_25]
      exact vc_Mo_bendsBecome_16_3 (v_iv (n_v vs 3)) (v_iv (n_v vs 5)) (v_iv (n_v vs 6)) (v_iv (n_v vs 7)) (v_iv (n_v vs 9)) (v_iv (n_v vs 10)) (v_iv (n_v vs 11)) (v_iv (n_v vs 12)) (v_iv (n_v vs 13)) (v_iv (n_v vs 14)) (v_iv (n_v vs 17)) (v_iv (n_v vs 18)) (v_iv (n_v vs 22)) (v_iv (n_v vs 24)) (v_iv (n_v vs 25)) (w_ei ws (w_ar ws (n_v vs 0) 143)) (w_fi ws (n_v vs 0) 146) (w_fi ws (n_v vs 0) 147) (w_ei ws (w_ar ws (n_v vs 0) 140)) (w_fi w1 (n_v vs 0) 146) (w_fi w1 (n_v vs 0) 147) (w_ei w1 (w_ar ws (n_v vs 0) 143)) (w_ei w1 (w_ar ws (n_v vs 0) 140)) (w_fi w2 (n_v vs 0) 146) (w_fi w2 (n_v vs 0) 147) (w_ei w2 (w_ar ws (n_v vs 0) 143)) (w_ei w2 (w_ar ws (n_v vs 0) 140)) (w_ei ws (w_ar ws (n_v vs 0) 148)) (w_ei w1 (w_ar ws (n_v vs 0) 148)) (w_ei w2 (w_ar ws (n_v vs 0) 148)) (v_iv (n_v vs 19)) (w_ei ws (w_ar ws (n_v vs 0) 149)) (w_ei w1 (w_ar ws (n_v vs 0) 149)) (v_iv (n_v vs 23)) (w_ei w2 (w_ar ws (n_v vs 0) 149)) (v_iv (Value.int x)) k3 k5 k6 k7 k9 k10 k11 k12 k13 k14 k17 k18 k22 k24 k25 d0 d1 d2 d3 f0 f1 f2 f3 f4 f5 f6 f7 f8 f9 f10 f11 f12 f13 f15 g16 f18 f19 f20 f21 f22 f23 f24 f25 f26 f27 f28 f30 f32 f33 f34 f35 f36 f37 f38 f39 f40 f41 f42 f43 f44 f45 fe_0_146_1 fe_0_147_1 fe_0_146_2 fe_0_147_2 hE_0_140_1 hE_0_140_2 hK_0_140 hE_0_143_1 hE_0_143_2 hK_0_143 hE_0_148_1 hE_0_148_2 hK_0_148 hE_0_149_1 hE_0_149_2 hK_0_149 kz_0_146 kz_0_147 ex2 ex3
  have nf4 : fc_1 PRD (20, [25, 0], [50, 2, 0, 1146, 1147, 2, 6, 0, 2, 0, 0, 1, 0, 0, 6, 4, 2, 1, 0, 0, 1, 6, 3, 2, 1, 146, 2, 1, 147]) ws (vs ++ [Value.int x]) := by
    refine ⟨nf_inA hl rfl, sgq_1256 ?_⟩
    · show (0 ≤ v_iv (n_v (vs ++ [Value.int x]) 25)) ∧ ((v_iv (n_v (vs ++ [Value.int x]) 25) + 1) ≤ (w_fi ws (n_v (vs ++ [Value.int x]) 0) 146 * w_fi ws (n_v (vs ++ [Value.int x]) 0) 147))
      simp only [e_0, e_25]
      exact vc_Mo_bendsBecome_16_4 (v_iv (n_v vs 3)) (v_iv (n_v vs 5)) (v_iv (n_v vs 6)) (v_iv (n_v vs 7)) (v_iv (n_v vs 9)) (v_iv (n_v vs 10)) (v_iv (n_v vs 11)) (v_iv (n_v vs 12)) (v_iv (n_v vs 13)) (v_iv (n_v vs 14)) (v_iv (n_v vs 17)) (v_iv (n_v vs 18)) (v_iv (n_v vs 22)) (v_iv (n_v vs 24)) (v_iv (n_v vs 25)) (w_ei ws (w_ar ws (n_v vs 0) 143)) (w_fi ws (n_v vs 0) 146) (w_fi ws (n_v vs 0) 147) (w_ei ws (w_ar ws (n_v vs 0) 140)) (w_fi w1 (n_v vs 0) 146) (w_fi w1 (n_v vs 0) 147) (w_ei w1 (w_ar ws (n_v vs 0) 143)) (w_ei w1 (w_ar ws (n_v vs 0) 140)) (w_fi w2 (n_v vs 0) 146) (w_fi w2 (n_v vs 0) 147) (w_ei w2 (w_ar ws (n_v vs 0) 143)) (w_ei w2 (w_ar ws (n_v vs 0) 140)) (w_ei ws (w_ar ws (n_v vs 0) 148)) (w_ei w1 (w_ar ws (n_v vs 0) 148)) (w_ei w2 (w_ar ws (n_v vs 0) 148)) (v_iv (n_v vs 19)) (w_ei ws (w_ar ws (n_v vs 0) 149)) (w_ei w1 (w_ar ws (n_v vs 0) 149)) (v_iv (n_v vs 23)) (w_ei w2 (w_ar ws (n_v vs 0) 149)) (v_iv (Value.int x)) k3 k5 k6 k7 k9 k10 k11 k12 k13 k14 k17 k18 k22 k24 k25 d0 d1 d2 d3 f0 f1 f2 f3 f4 f5 f6 f7 f8 f9 f10 f11 f12 f13 f15 g16 f18 f19 f20 f21 f22 f23 f24 f25 f26 f27 f28 f30 f32 f33 f34 f35 f36 f37 f38 f39 f40 f41 f42 f43 f44 f45 fe_0_146_1 fe_0_147_1 fe_0_146_2 fe_0_147_2 hE_0_140_1 hE_0_140_2 hK_0_140 hE_0_143_1 hE_0_143_2 hK_0_143 hE_0_148_1 hE_0_148_2 hK_0_148 hE_0_149_1 hE_0_149_2 hK_0_149 kz_0_146 kz_0_147 ex2 ex3
  have nf5 : fc_1 PRD (20, [24, 11], [50, 0, 0, 0, 6, 4, 2, 1, 0, 1, 1, 0, 1000000]) ws (vs ++ [Value.int x]) := by
    refine ⟨nf_inA hl rfl, sgq_1379 ?_⟩
    · show (v_iv (n_v (vs ++ [Value.int x]) 24) + v_iv (n_v (vs ++ [Value.int x]) 11)) ≤ 1000000
      simp only [e_11, e_24]
      exact vc_Mo_bendsBecome_16_5 (v_iv (n_v vs 3)) (v_iv (n_v vs 5)) (v_iv (n_v vs 6)) (v_iv (n_v vs 7)) (v_iv (n_v vs 9)) (v_iv (n_v vs 10)) (v_iv (n_v vs 11)) (v_iv (n_v vs 12)) (v_iv (n_v vs 13)) (v_iv (n_v vs 14)) (v_iv (n_v vs 17)) (v_iv (n_v vs 18)) (v_iv (n_v vs 22)) (v_iv (n_v vs 24)) (v_iv (n_v vs 25)) (w_ei ws (w_ar ws (n_v vs 0) 143)) (w_fi ws (n_v vs 0) 146) (w_fi ws (n_v vs 0) 147) (w_ei ws (w_ar ws (n_v vs 0) 140)) (w_fi w1 (n_v vs 0) 146) (w_fi w1 (n_v vs 0) 147) (w_ei w1 (w_ar ws (n_v vs 0) 143)) (w_ei w1 (w_ar ws (n_v vs 0) 140)) (w_fi w2 (n_v vs 0) 146) (w_fi w2 (n_v vs 0) 147) (w_ei w2 (w_ar ws (n_v vs 0) 143)) (w_ei w2 (w_ar ws (n_v vs 0) 140)) (w_ei ws (w_ar ws (n_v vs 0) 148)) (w_ei w1 (w_ar ws (n_v vs 0) 148)) (w_ei w2 (w_ar ws (n_v vs 0) 148)) (v_iv (n_v vs 19)) (w_ei ws (w_ar ws (n_v vs 0) 149)) (w_ei w1 (w_ar ws (n_v vs 0) 149)) (v_iv (n_v vs 23)) (w_ei w2 (w_ar ws (n_v vs 0) 149)) (v_iv (Value.int x)) k3 k5 k6 k7 k9 k10 k11 k12 k13 k14 k17 k18 k22 k24 k25 d0 d1 d2 d3 f0 f1 f2 f3 f4 f5 f6 f7 f8 f9 f10 f11 f12 f13 f15 g16 f18 f19 f20 f21 f22 f23 f24 f25 f26 f27 f28 f30 f32 f33 f34 f35 f36 f37 f38 f39 f40 f41 f42 f43 f44 f45 fe_0_146_1 fe_0_147_1 fe_0_146_2 fe_0_147_2 hE_0_140_1 hE_0_140_2 hK_0_140 hE_0_143_1 hE_0_143_2 hK_0_143 hE_0_148_1 hE_0_148_2 hK_0_148 hE_0_149_1 hE_0_149_2 hK_0_149 kz_0_146 kz_0_147 ex2 ex3
  have nf6 : fc_1 PRD (20, [24], [50, 0, 0, 0, 2, 0, 0, 1, 0]) ws (vs ++ [Value.int x]) := by
    refine ⟨nf_inA hl rfl, sgq_709 ?_⟩
    · show 0 ≤ v_iv (n_v (vs ++ [Value.int x]) 24)
      rw [e_24]
      exact vc_Mo_bendsBecome_16_6 (v_iv (n_v vs 3)) (v_iv (n_v vs 5)) (v_iv (n_v vs 6)) (v_iv (n_v vs 7)) (v_iv (n_v vs 9)) (v_iv (n_v vs 10)) (v_iv (n_v vs 11)) (v_iv (n_v vs 12)) (v_iv (n_v vs 13)) (v_iv (n_v vs 14)) (v_iv (n_v vs 17)) (v_iv (n_v vs 18)) (v_iv (n_v vs 22)) (v_iv (n_v vs 24)) (v_iv (n_v vs 25)) (w_ei ws (w_ar ws (n_v vs 0) 143)) (w_fi ws (n_v vs 0) 146) (w_fi ws (n_v vs 0) 147) (w_ei ws (w_ar ws (n_v vs 0) 140)) (w_fi w1 (n_v vs 0) 146) (w_fi w1 (n_v vs 0) 147) (w_ei w1 (w_ar ws (n_v vs 0) 143)) (w_ei w1 (w_ar ws (n_v vs 0) 140)) (w_fi w2 (n_v vs 0) 146) (w_fi w2 (n_v vs 0) 147) (w_ei w2 (w_ar ws (n_v vs 0) 143)) (w_ei w2 (w_ar ws (n_v vs 0) 140)) (w_ei ws (w_ar ws (n_v vs 0) 148)) (w_ei w1 (w_ar ws (n_v vs 0) 148)) (w_ei w2 (w_ar ws (n_v vs 0) 148)) (v_iv (n_v vs 19)) (w_ei ws (w_ar ws (n_v vs 0) 149)) (w_ei w1 (w_ar ws (n_v vs 0) 149)) (v_iv (n_v vs 23)) (w_ei w2 (w_ar ws (n_v vs 0) 149)) (v_iv (Value.int x)) k3 k5 k6 k7 k9 k10 k11 k12 k13 k14 k17 k18 k22 k24 k25 d0 d1 d2 d3 f0 f1 f2 f3 f4 f5 f6 f7 f8 f9 f10 f11 f12 f13 f15 g16 f18 f19 f20 f21 f22 f23 f24 f25 f26 f27 f28 f30 f32 f33 f34 f35 f36 f37 f38 f39 f40 f41 f42 f43 f44 f45 fe_0_146_1 fe_0_147_1 fe_0_146_2 fe_0_147_2 hE_0_140_1 hE_0_140_2 hK_0_140 hE_0_143_1 hE_0_143_2 hK_0_143 hE_0_148_1 hE_0_148_2 hK_0_148 hE_0_149_1 hE_0_149_2 hK_0_149 kz_0_146 kz_0_147 ex2 ex3
  have nf7 : fc_1 PRD (20, [11, 26], [50, 0, 0, 2, 6, 0, 2, 0, 0, 1, 0, 0, 2, 1, 0, 1, 1]) ws (vs ++ [Value.int x]) := by
    refine ⟨nf_inA hl rfl, sgq_384 ?_⟩
    · show (0 ≤ v_iv (n_v (vs ++ [Value.int x]) 11)) ∧ (v_iv (n_v (vs ++ [Value.int x]) 11) ≤ v_iv (n_v (vs ++ [Value.int x]) 26))
      simp only [e_11, e_26]
      exact vc_Mo_bendsBecome_16_7 (v_iv (n_v vs 3)) (v_iv (n_v vs 5)) (v_iv (n_v vs 6)) (v_iv (n_v vs 7)) (v_iv (n_v vs 9)) (v_iv (n_v vs 10)) (v_iv (n_v vs 11)) (v_iv (n_v vs 12)) (v_iv (n_v vs 13)) (v_iv (n_v vs 14)) (v_iv (n_v vs 17)) (v_iv (n_v vs 18)) (v_iv (n_v vs 22)) (v_iv (n_v vs 24)) (v_iv (n_v vs 25)) (w_ei ws (w_ar ws (n_v vs 0) 143)) (w_fi ws (n_v vs 0) 146) (w_fi ws (n_v vs 0) 147) (w_ei ws (w_ar ws (n_v vs 0) 140)) (w_fi w1 (n_v vs 0) 146) (w_fi w1 (n_v vs 0) 147) (w_ei w1 (w_ar ws (n_v vs 0) 143)) (w_ei w1 (w_ar ws (n_v vs 0) 140)) (w_fi w2 (n_v vs 0) 146) (w_fi w2 (n_v vs 0) 147) (w_ei w2 (w_ar ws (n_v vs 0) 143)) (w_ei w2 (w_ar ws (n_v vs 0) 140)) (w_ei ws (w_ar ws (n_v vs 0) 148)) (w_ei w1 (w_ar ws (n_v vs 0) 148)) (w_ei w2 (w_ar ws (n_v vs 0) 148)) (v_iv (n_v vs 19)) (w_ei ws (w_ar ws (n_v vs 0) 149)) (w_ei w1 (w_ar ws (n_v vs 0) 149)) (v_iv (n_v vs 23)) (w_ei w2 (w_ar ws (n_v vs 0) 149)) (v_iv (Value.int x)) k3 k5 k6 k7 k9 k10 k11 k12 k13 k14 k17 k18 k22 k24 k25 d0 d1 d2 d3 f0 f1 f2 f3 f4 f5 f6 f7 f8 f9 f10 f11 f12 f13 f15 g16 f18 f19 f20 f21 f22 f23 f24 f25 f26 f27 f28 f30 f32 f33 f34 f35 f36 f37 f38 f39 f40 f41 f42 f43 f44 f45 fe_0_146_1 fe_0_147_1 fe_0_146_2 fe_0_147_2 hE_0_140_1 hE_0_140_2 hK_0_140 hE_0_143_1 hE_0_143_2 hK_0_143 hE_0_148_1 hE_0_148_2 hK_0_148 hE_0_149_1 hE_0_149_2 hK_0_149 kz_0_146 kz_0_147 ex2 ex3
  obtain ⟨x0, e0, _, _⟩ := tv_int t13 rfl
  have e1 : v_iv (n_v vs 13) = x0.toInt := by rw [e0]; rfl
  have ho : sy_ofs (vs ++ [Value.int x]) (26, 13, -1000000000000, -1) := by
    refine ⟨x, x0, by rw [List.getElem?_append_right (by rw [hl]; decide), hl]; rfl, ?_, ?_, ?_⟩
    · rw [List.getElem?_append_left (by rw [hl]; decide)]; exact n_v_some (by rw [hl]; decide) e0
    · show x0.toInt + (-1000000000000) ≤ x.toInt; omega
    · show x.toInt ≤ x0.toInt + (-1); omega
  exact ⟨(fun _ h => (by cases h)), [Value.int x], ag_one hx, List.forall_mem_cons.mpr ⟨⟨show (20 : Nat) < 100 from by decide, nf0⟩, List.forall_mem_cons.mpr ⟨⟨show (20 : Nat) < 100 from by decide, nf1⟩, List.forall_mem_cons.mpr ⟨⟨show (20 : Nat) < 100 from by decide, nf2⟩, List.forall_mem_cons.mpr ⟨⟨show (20 : Nat) < 100 from by decide, nf3⟩, List.forall_mem_cons.mpr ⟨⟨show (20 : Nat) < 100 from by decide, nf4⟩, List.forall_mem_cons.mpr ⟨⟨show (20 : Nat) < 100 from by decide, nf5⟩, List.forall_mem_cons.mpr ⟨⟨show (20 : Nat) < 100 from by decide, nf6⟩, List.forall_mem_cons.mpr ⟨⟨show (20 : Nat) < 100 from by decide, nf7⟩, (fun _ h => (by cases h))⟩⟩⟩⟩⟩⟩⟩⟩, List.forall_mem_cons.mpr ⟨ho, (fun _ h => (by cases h))⟩⟩
set_option maxHeartbeats 4000000 in
theorem vc_Mo_bendsBecome_17_0 (x3 : Int) (x5 : Int) (x6 : Int) (x7 : Int) (x9 : Int) (x10 : Int) (x11 : Int) (x12 : Int) (x13 : Int) (x14 : Int) (x16 : Int) (barredPoint_0 : Int → Int) (wide_0 : Int) (tall_0 : Int) (costOf_0 : Int → Int) (k3 : 0 ≤ x3 ∧ x3 ≤ 5999) (k5 : 0 ≤ x5 ∧ x5 ≤ 2147483647) (k6 : 0 ≤ x6 ∧ x6 ≤ 5999) (k7 : 0 ≤ x7 ∧ x7 ≤ 3) (k9 : 0 ≤ x9 ∧ x9 ≤ 1000000) (k10 : (-1) ≤ x10 ∧ x10 ≤ 3) (k11 : 0 ≤ x11 ∧ x11 ≤ 999999) (k12 : 0 ≤ x12 ∧ x12 ≤ 3) (k13 : (-2) ≤ x13 ∧ x13 ≤ 1000000) (k14 : (-1) ≤ x14 ∧ x14 ≤ (-1)) (k16 : (-1) ≤ x16 ∧ x16 ≤ 2) (d0 : x12 + (-1) ≤ x16 ∧ x16 ≤ x12 + (-1)) (d1 : x9 + (-4294967296) ≤ x10 ∧ x10 ≤ x9 + 2) (d2 : x9 + (-4294967296) ≤ x11 ∧ x11 ≤ x9 + 0) (f0 : x16 = x12 + (-1)) (f1 : x14 < 0) (f2 : x12 ≠ x7) (f3 : STQ (wide_0) (tall_0) (barredPoint_0) (x6) (x12) (x14)) (f4 : ((-1) ≤ x14) ∧ ((x14 + 1) ≤ (wide_0 * tall_0))) (f5 : 0 ≤ x12) (f6 : GRX (wide_0) (tall_0)) (f7 : RTV (wide_0) (tall_0) (barredPoint_0) (costOf_0) (x3)) (f8 : (0 ≤ x3) ∧ ((x3 + 1) ≤ (wide_0 * tall_0))) (f9 : BB2 (wide_0) (tall_0) (barredPoint_0) (costOf_0) (x6) (x7) (x9)) (f10 : (0 ≤ x6) ∧ ((x6 + 1) ≤ (wide_0 * tall_0))) (f11 : (x5 + x9) ≤ 1000000) (f12 : 0 ≤ x5) (f13 : x6 ≠ x3) (f14 : BB3 (wide_0) (tall_0) (barredPoint_0) (costOf_0) (x6) (x7) (x9) (x10) (x11) (x12)) (f15 : (0 ≤ x9) ∧ (x9 ≤ x13)) (f16 : (-1) * x13 + 0 ≤ (-1)) (hK_0_140 : ∀ j : Int, 0 ≤ j → j < 24000 → 0 ≤ costOf_0 j ∧ costOf_0 j ≤ 1000000) (hK_0_143 : ∀ j : Int, 0 ≤ j → j < 6000 → 0 ≤ barredPoint_0 j ∧ barredPoint_0 j ≤ 1) (kz_0_146 : (-3999999) ≤ wide_0 ∧ wide_0 ≤ 600000023) (kz_0_147 : (-3999999) ≤ tall_0 ∧ tall_0 ≤ 600000007) : BB3 (wide_0) (tall_0) (barredPoint_0) (costOf_0) (x6) (x7) (x9) (x10) (x11) (x16) := by
  first
    | exact bb3_start (by omega) (by omega)
    | exact bb3_skip (w := x15) (x := x14) (v := x14) ‹BB3 _ _ _ _ _ _ _ _ _ _› (by omega) ‹STQ _ _ _ _ _ _› (by omega) (Or.inl (by omega))
    | exact bb3_skip (w := 1) (x := x14) (v := x14) ‹BB3 _ _ _ _ _ _ _ _ _ _› (by omega) ‹STQ _ _ _ _ _ _› (Or.inl ⟨by omega, rfl⟩) (Or.inl (by omega))
    | exact bb3_skip (w := 3) (x := x14) (v := x14) ‹BB3 _ _ _ _ _ _ _ _ _ _› (by omega) ‹STQ _ _ _ _ _ _› (Or.inr ⟨by omega, rfl⟩) (Or.inl (by omega))
    | exact bb3_skip (w := x15) (x := x19) (v := x20) ‹BB3 _ _ _ _ _ _ _ _ _ _› (by omega) ‹STQ _ _ _ _ _ _› (by omega) (Or.inr ⟨by omega, by assumption, by omega⟩)
    | exact bb3_take (q := x14) (x := x19) (v := x20) (w := x15) ‹STQ _ _ _ _ _ _› (by omega) (by omega) (by omega) (by omega) (by assumption) (by omega) (by omega) (by omega) (by omega)
  
def o_Mo_bendsBecome_17 : or_T := (127, 17, [(0, (2, 0, 0, [165])), (3, (0, 0, 5999, [])), (5, (0, 0, 2147483647, [])), (6, (0, 0, 5999, [])), (7, (0, 0, 3, [])), (9, (0, 0, 1000000, [])), (10, (0, -1, 3, [])), (11, (0, 0, 999999, [])), (12, (0, 0, 3, [])), (13, (0, -2, 1000000, [])), (14, (0, -1, -1, [])), (16, (0, -1, 2, []))], [(6, [16, 12], [-1]), (8, [14], [2]), (7, [12, 7], [1]), (20, [0, 6, 12, 14], [60, 2, 1, 505, 146, 147, 143]), (20, [14, 0], [50, 2, 0, 1146, 1147, 2, 6, 0, 2, 0, -1, 1, 0, 0, 6, 4, 2, 1, 0, 0, 1, 6, 3, 2, 1, 146, 2, 1, 147]), (8, [12], [3]), (20, [0], [60, 2, 0, 494, 146, 147]), (20, [0, 3], [60, 2, 2, 504, 146, 147, 143, 140]), (20, [3, 0], [50, 2, 0, 1146, 1147, 2, 6, 0, 2, 0, 0, 1, 0, 0, 6, 4, 2, 1, 0, 0, 1, 6, 3, 2, 1, 146, 2, 1, 147]), (20, [0, 6, 7, 9], [60, 2, 2, 507, 146, 147, 143, 140]), (20, [6, 0], [50, 2, 0, 1146, 1147, 2, 6, 0, 2, 0, 0, 1, 0, 0, 6, 4, 2, 1, 0, 0, 1, 6, 3, 2, 1, 146, 2, 1, 147]), (20, [5, 9], [50, 0, 0, 0, 6, 4, 2, 1, 0, 1, 1, 0, 1000000]), (20, [5], [50, 0, 0, 0, 2, 0, 0, 1, 0]), (20, [6, 3], [50, 0, 0, 7, 2, 1, 0, 1, 1]), (20, [0, 6, 7, 9, 10, 11, 12], [60, 2, 2, 508, 146, 147, 143, 140]), (20, [9, 13], [50, 0, 0, 2, 6, 0, 2, 0, 0, 1, 0, 0, 2, 1, 0, 1, 1]), (23, [13], [-1, -1])], [], [], [(20, [0, 6, 7, 9, 10, 11, 16], [60, 2, 2, 508, 146, 147, 143, 140])], [], [(16, 12, -1, -1), (10, 9, -4294967296, 2), (11, 9, -4294967296, 0)])
theorem oo_Mo_bendsBecome_17 {kA : Nat → ClassId} : or_ok PRD kA GG o_Mo_bendsBecome_17 := by
  refine or_mk fun A ta ws vs hD hth hl => ?_
  intro t0 r0 t3 k3 t5 k5 t6 k6 t7 k7 t9 k9 t10 k10 t11 k11 t12 k12 t13 k13 t14 k14 t16 k16 d0 d1 d2 f0 f1 f2 f3 f4 f5 f6 f7 f8 f9 f10 f11 f12 f13 f14 f15 f16
  have cr_0_140 := fdq_174 hD hth r0
  have cr_0_143 := fdq_177 hD hth r0
  have hK_0_140 := elq_101 hD hth cr_0_140
  have hK_0_143 := elq_104 hD hth cr_0_143
  have kz_0_146 := fdq_178 hD hth r0
  have kz_0_147 := fdq_179 hD hth r0
  have nf0 : fc_1 PRD (20, [0, 6, 7, 9, 10, 11, 16], [60, 2, 2, 508, 146, 147, 143, 140]) ws (vs) := ⟨nf_in hl rfl, sgq_1380 (vc_Mo_bendsBecome_17_0 (v_iv (n_v vs 3)) (v_iv (n_v vs 5)) (v_iv (n_v vs 6)) (v_iv (n_v vs 7)) (v_iv (n_v vs 9)) (v_iv (n_v vs 10)) (v_iv (n_v vs 11)) (v_iv (n_v vs 12)) (v_iv (n_v vs 13)) (v_iv (n_v vs 14)) (v_iv (n_v vs 16)) (w_ei ws (w_ar ws (n_v vs 0) 143)) (w_fi ws (n_v vs 0) 146) (w_fi ws (n_v vs 0) 147) (w_ei ws (w_ar ws (n_v vs 0) 140)) k3 k5 k6 k7 k9 k10 k11 k12 k13 k14 k16 d0 d1 d2 (shm_198 f0) (shm_39 f1) (shm_40 f2) (shm_1257 f3) (shm_1258 f4) (shm_32 f5) (shm_1255 f6) (shm_1376 f7) (shm_1256 f8) (shm_1378 f9) (shm_1256 f10) (shm_1379 f11) (shm_709 f12) (shm_419 f13) (shm_1380 f14) (shm_384 f15) (shm_614 f16) hK_0_140 hK_0_143 kz_0_146 kz_0_147)⟩
  refine ⟨(fun _ h => (by cases h)), [], trivial, ?_, (fun _ h => (by cases h))⟩
  rw [List.append_nil]
  exact List.forall_mem_cons.mpr ⟨⟨show (20 : Nat) < 100 from by decide, nf0⟩, (fun _ h => (by cases h))⟩
set_option maxHeartbeats 4000000 in
theorem vc_Mo_bendsBecome_18_0 (x3 : Int) (x5 : Int) (x6 : Int) (x7 : Int) (x9 : Int) (x10 : Int) (x11 : Int) (x12 : Int) (x13 : Int) (x14 : Int) (x15 : Int) (x17 : Int) (x18 : Int) (x19 : Int) (x20 : Int) (x21 : Int) (x22 : Int) (x23 : Int) (costOf_0 : Int → Int) (barredPoint_0 : Int → Int) (wide_0 : Int) (tall_0 : Int) (k3 : 0 ≤ x3 ∧ x3 ≤ 5999) (k5 : 0 ≤ x5 ∧ x5 ≤ 2147483647) (k6 : 0 ≤ x6 ∧ x6 ≤ 5999) (k7 : 0 ≤ x7 ∧ x7 ≤ 3) (k9 : 3 ≤ x9 ∧ x9 ≤ 1000000) (k10 : (-1) ≤ x10 ∧ x10 ≤ 3) (k11 : 0 ≤ x11 ∧ x11 ≤ 999999) (k12 : 0 ≤ x12 ∧ x12 ≤ 3) (k13 : (-2) ≤ x13 ∧ x13 ≤ 1000000) (k14 : 0 ≤ x14 ∧ x14 ≤ 5999) (k15 : 3 ≤ x15 ∧ x15 ≤ 3) (k17 : 4 ≤ x17 ∧ x17 ≤ 4) (k18 : 0 ≤ x18 ∧ x18 ≤ 23996) (k19 : 0 ≤ x19 ∧ x19 ≤ 23999) (k20 : 0 ≤ x20 ∧ x20 ≤ 999997) (k21 : 0 ≤ x21 ∧ x21 ≤ 999997) (k22 : 0 ≤ x22 ∧ x22 ≤ 999997) (k23 : (-1) ≤ x23 ∧ x23 ≤ 2) (d0 : x12 + (-1) ≤ x23 ∧ x23 ≤ x12 + (-1)) (d1 : x9 + (-3) ≤ x22 ∧ x22 ≤ x9 + (-3)) (d2 : x21 + 0 ≤ x20 ∧ x20 ≤ x21 + 0) (d3 : x9 + (-3) ≤ x21 ∧ x21 ≤ x9 + (-3)) (d4 : x12 + 0 ≤ x19 ∧ x19 ≤ x12 + 23996) (d5 : x18 + 0 ≤ x19 ∧ x19 ≤ x18 + 3) (d6 : x9 + (-4294967296) ≤ x11 ∧ x11 ≤ x9 + 0) (f0 : x23 = x12 + (-1)) (f1 : x22 = x9 - x15) (f2 : x20 = x21) (f3 : x21 = x9 - x15) (h4 : x20 = costOf_0 (x19)) (f5 : x19 = x18 + x12) (f6 : x18 = 4 * x14) (f8 : 0 ≤ x14) (f9 : x12 ≠ x7) (f10 : STQ (wide_0) (tall_0) (barredPoint_0) (x6) (x12) (x14)) (f11 : ((-1) ≤ x14) ∧ ((x14 + 1) ≤ (wide_0 * tall_0))) (f12 : 0 ≤ x12) (f13 : GRX (wide_0) (tall_0)) (f14 : RTV (wide_0) (tall_0) (barredPoint_0) (costOf_0) (x3)) (f15 : (0 ≤ x3) ∧ ((x3 + 1) ≤ (wide_0 * tall_0))) (f16 : BB2 (wide_0) (tall_0) (barredPoint_0) (costOf_0) (x6) (x7) (x9)) (f17 : (0 ≤ x6) ∧ ((x6 + 1) ≤ (wide_0 * tall_0))) (f18 : (x5 + x9) ≤ 1000000) (f19 : 0 ≤ x5) (f20 : x6 ≠ x3) (f21 : BB3 (wide_0) (tall_0) (barredPoint_0) (costOf_0) (x6) (x7) (x9) (x10) (x11) (x12)) (f22 : (0 ≤ x9) ∧ (x9 ≤ x13)) (f23 : (-1) * x13 + 0 ≤ (-1)) (hK_0_140 : ∀ j : Int, 0 ≤ j → j < 24000 → 0 ≤ costOf_0 j ∧ costOf_0 j ≤ 1000000) (hK_0_143 : ∀ j : Int, 0 ≤ j → j < 6000 → 0 ≤ barredPoint_0 j ∧ barredPoint_0 j ≤ 1) (kz_0_146 : (-3999999) ≤ wide_0 ∧ wide_0 ≤ 600000023) (kz_0_147 : (-3999999) ≤ tall_0 ∧ tall_0 ≤ 600000007) : BB3 (wide_0) (tall_0) (barredPoint_0) (costOf_0) (x6) (x7) (x9) (x12) (x22) (x23) := by
  first
    | exact bb3_start (by omega) (by omega)
    | exact bb3_skip (w := x15) (x := x14) (v := x14) ‹BB3 _ _ _ _ _ _ _ _ _ _› (by omega) ‹STQ _ _ _ _ _ _› (by omega) (Or.inl (by omega))
    | exact bb3_skip (w := 1) (x := x14) (v := x14) ‹BB3 _ _ _ _ _ _ _ _ _ _› (by omega) ‹STQ _ _ _ _ _ _› (Or.inl ⟨by omega, rfl⟩) (Or.inl (by omega))
    | exact bb3_skip (w := 3) (x := x14) (v := x14) ‹BB3 _ _ _ _ _ _ _ _ _ _› (by omega) ‹STQ _ _ _ _ _ _› (Or.inr ⟨by omega, rfl⟩) (Or.inl (by omega))
    | exact bb3_skip (w := x15) (x := x19) (v := x20) ‹BB3 _ _ _ _ _ _ _ _ _ _› (by omega) ‹STQ _ _ _ _ _ _› (by omega) (Or.inr ⟨by omega, by assumption, by omega⟩)
    | exact bb3_take (q := x14) (x := x19) (v := x20) (w := x15) ‹STQ _ _ _ _ _ _› (by omega) (by omega) (by omega) (by omega) (by assumption) (by omega) (by omega) (by omega) (by omega)
  
def o_Mo_bendsBecome_18 : or_T := (127, 24, [(0, (2, 0, 0, [165])), (3, (0, 0, 5999, [])), (5, (0, 0, 2147483647, [])), (6, (0, 0, 5999, [])), (7, (0, 0, 3, [])), (9, (0, 3, 1000000, [])), (10, (0, -1, 3, [])), (11, (0, 0, 999999, [])), (12, (0, 0, 3, [])), (13, (0, -2, 1000000, [])), (14, (0, 0, 5999, [])), (15, (0, 3, 3, [])), (16, (2, 0, 0, [266])), (17, (0, 4, 4, [])), (18, (0, 0, 23996, [])), (19, (0, 0, 23999, [])), (20, (0, 0, 999997, [])), (21, (0, 0, 999997, [])), (22, (0, 0, 999997, [])), (23, (0, -1, 2, []))], [(6, [23, 12], [-1]), (2, [22, 9, 15], []), (7, [20, 21], [0]), (2, [21, 9, 15], []), (10, [20, 16, 19], []), (1, [19, 18, 12], []), (3, [18, 17, 14], []), (9, [16, 0], [140]), (8, [14], [3]), (7, [12, 7], [1]), (20, [0, 6, 12, 14], [60, 2, 1, 505, 146, 147, 143]), (20, [14, 0], [50, 2, 0, 1146, 1147, 2, 6, 0, 2, 0, -1, 1, 0, 0, 6, 4, 2, 1, 0, 0, 1, 6, 3, 2, 1, 146, 2, 1, 147]), (8, [12], [3]), (20, [0], [60, 2, 0, 494, 146, 147]), (20, [0, 3], [60, 2, 2, 504, 146, 147, 143, 140]), (20, [3, 0], [50, 2, 0, 1146, 1147, 2, 6, 0, 2, 0, 0, 1, 0, 0, 6, 4, 2, 1, 0, 0, 1, 6, 3, 2, 1, 146, 2, 1, 147]), (20, [0, 6, 7, 9], [60, 2, 2, 507, 146, 147, 143, 140]), (20, [6, 0], [50, 2, 0, 1146, 1147, 2, 6, 0, 2, 0, 0, 1, 0, 0, 6, 4, 2, 1, 0, 0, 1, 6, 3, 2, 1, 146, 2, 1, 147]), (20, [5, 9], [50, 0, 0, 0, 6, 4, 2, 1, 0, 1, 1, 0, 1000000]), (20, [5], [50, 0, 0, 0, 2, 0, 0, 1, 0]), (20, [6, 3], [50, 0, 0, 7, 2, 1, 0, 1, 1]), (20, [0, 6, 7, 9, 10, 11, 12], [60, 2, 2, 508, 146, 147, 143, 140]), (20, [9, 13], [50, 0, 0, 2, 6, 0, 2, 0, 0, 1, 0, 0, 2, 1, 0, 1, 1]), (23, [13], [-1, -1])], [], [], [(20, [0, 6, 7, 9, 12, 22, 23], [60, 2, 2, 508, 146, 147, 143, 140])], [], [(23, 12, -1, -1), (22, 9, -3, -3), (20, 21, 0, 0), (21, 9, -3, -3), (19, 12, 0, 23996), (19, 18, 0, 3), (11, 9, -4294967296, 0)])
theorem oo_Mo_bendsBecome_18 {kA : Nat → ClassId} : or_ok PRD kA GG o_Mo_bendsBecome_18 := by
  refine or_mk fun A ta ws vs hD hth hl => ?_
  intro t0 r0 t3 k3 t5 k5 t6 k6 t7 k7 t9 k9 t10 k10 t11 k11 t12 k12 t13 k13 t14 k14 t15 k15 t16 r16 t17 k17 t18 k18 t19 k19 t20 k20 t21 k21 t22 k22 t23 k23 d0 d1 d2 d3 d4 d5 d6 f0 f1 f2 f3 f4 f5 f6 f7 f8 f9 f10 f11 f12 f13 f14 f15 f16 f17 f18 f19 f20 f21 f22 f23
  replace f4 := shm_106 f4
  replace f6 := shm_38 f6
  rw [show v_iv (n_v vs 17) = 4 from by omega] at f6
  replace f7 := shm_690 f7
  have cr_0_140 := fdq_174 hD hth r0
  have cr_0_143 := fdq_177 hD hth r0
  have ad_16 : v_ad (n_v vs 16) = w_ar ws (n_v vs 0) 140 := congrArg v_ad f7
  simp only [ad_16] at f4
  have h4 : v_iv (n_v vs 20) = w_ei ws (w_ar ws (n_v vs 0) 140) (v_iv (n_v vs 19)) := f4
  have hK_0_140 := elq_101 hD hth cr_0_140
  have hK_0_143 := elq_104 hD hth cr_0_143
  have kz_0_146 := fdq_178 hD hth r0
  have kz_0_147 := fdq_179 hD hth r0
  have nf0 : fc_1 PRD (20, [0, 6, 7, 9, 12, 22, 23], [60, 2, 2, 508, 146, 147, 143, 140]) ws (vs) := ⟨nf_in hl rfl, sgq_1380 (vc_Mo_bendsBecome_18_0 (v_iv (n_v vs 3)) (v_iv (n_v vs 5)) (v_iv (n_v vs 6)) (v_iv (n_v vs 7)) (v_iv (n_v vs 9)) (v_iv (n_v vs 10)) (v_iv (n_v vs 11)) (v_iv (n_v vs 12)) (v_iv (n_v vs 13)) (v_iv (n_v vs 14)) (v_iv (n_v vs 15)) (v_iv (n_v vs 17)) (v_iv (n_v vs 18)) (v_iv (n_v vs 19)) (v_iv (n_v vs 20)) (v_iv (n_v vs 21)) (v_iv (n_v vs 22)) (v_iv (n_v vs 23)) (w_ei ws (w_ar ws (n_v vs 0) 140)) (w_ei ws (w_ar ws (n_v vs 0) 143)) (w_fi ws (n_v vs 0) 146) (w_fi ws (n_v vs 0) 147) k3 k5 k6 k7 k9 k10 k11 k12 k13 k14 k15 k17 k18 k19 k20 k21 k22 k23 d0 d1 d2 d3 d4 d5 d6 (shm_198 f0) (shm_14 f1) (shm_37 f2) (shm_14 f3) h4 (shm_12 f5) f6 (shm_32 f8) (shm_40 f9) (shm_1257 f10) (shm_1258 f11) (shm_32 f12) (shm_1255 f13) (shm_1376 f14) (shm_1256 f15) (shm_1378 f16) (shm_1256 f17) (shm_1379 f18) (shm_709 f19) (shm_419 f20) (shm_1380 f21) (shm_384 f22) (shm_614 f23) hK_0_140 hK_0_143 kz_0_146 kz_0_147)⟩
  refine ⟨(fun _ h => (by cases h)), [], trivial, ?_, (fun _ h => (by cases h))⟩
  rw [List.append_nil]
  exact List.forall_mem_cons.mpr ⟨⟨show (20 : Nat) < 100 from by decide, nf0⟩, (fun _ h => (by cases h))⟩
set_option maxHeartbeats 4000000 in
theorem vc_Mo_bendsBecome_19_0 (x3 : Int) (x5 : Int) (x6 : Int) (x7 : Int) (x9 : Int) (x10 : Int) (x11 : Int) (x12 : Int) (x13 : Int) (x14 : Int) (x15 : Int) (x17 : Int) (x18 : Int) (x19 : Int) (x20 : Int) (x21 : Int) (x22 : Int) (costOf_0 : Int → Int) (barredPoint_0 : Int → Int) (wide_0 : Int) (tall_0 : Int) (k3 : 0 ≤ x3 ∧ x3 ≤ 5999) (k5 : 0 ≤ x5 ∧ x5 ≤ 2147483647) (k6 : 0 ≤ x6 ∧ x6 ≤ 5999) (k7 : 0 ≤ x7 ∧ x7 ≤ 3) (k9 : 0 ≤ x9 ∧ x9 ≤ 1000000) (k10 : (-1) ≤ x10 ∧ x10 ≤ 3) (k11 : 0 ≤ x11 ∧ x11 ≤ 999999) (k12 : 0 ≤ x12 ∧ x12 ≤ 3) (k13 : (-2) ≤ x13 ∧ x13 ≤ 1000000) (k14 : 0 ≤ x14 ∧ x14 ≤ 5999) (k15 : 3 ≤ x15 ∧ x15 ≤ 3) (k17 : 4 ≤ x17 ∧ x17 ≤ 4) (k18 : 0 ≤ x18 ∧ x18 ≤ 23996) (k19 : 0 ≤ x19 ∧ x19 ≤ 23999) (k20 : 0 ≤ x20 ∧ x20 ≤ 1000000) (k21 : (-3) ≤ x21 ∧ x21 ≤ 999997) (k22 : (-1) ≤ x22 ∧ x22 ≤ 2) (d0 : x12 + (-1) ≤ x22 ∧ x22 ≤ x12 + (-1)) (d1 : x9 + (-3) ≤ x21 ∧ x21 ≤ x9 + (-3)) (d2 : x12 + 0 ≤ x19 ∧ x19 ≤ x12 + 23996) (d3 : x18 + 0 ≤ x19 ∧ x19 ≤ x18 + 3) (d4 : x9 + (-4294967296) ≤ x10 ∧ x10 ≤ x9 + 2) (d5 : x9 + (-4294967296) ≤ x11 ∧ x11 ≤ x9 + 0) (f0 : x22 = x12 + (-1)) (f1 : x20 ≠ x21) (f2 : x21 = x9 - x15) (h3 : x20 = costOf_0 (x19)) (f4 : x19 = x18 + x12) (f5 : x18 = 4 * x14) (f7 : 0 ≤ x14) (f8 : x12 ≠ x7) (f9 : STQ (wide_0) (tall_0) (barredPoint_0) (x6) (x12) (x14)) (f10 : ((-1) ≤ x14) ∧ ((x14 + 1) ≤ (wide_0 * tall_0))) (f11 : 0 ≤ x12) (f12 : GRX (wide_0) (tall_0)) (f13 : RTV (wide_0) (tall_0) (barredPoint_0) (costOf_0) (x3)) (f14 : (0 ≤ x3) ∧ ((x3 + 1) ≤ (wide_0 * tall_0))) (f15 : BB2 (wide_0) (tall_0) (barredPoint_0) (costOf_0) (x6) (x7) (x9)) (f16 : (0 ≤ x6) ∧ ((x6 + 1) ≤ (wide_0 * tall_0))) (f17 : (x5 + x9) ≤ 1000000) (f18 : 0 ≤ x5) (f19 : x6 ≠ x3) (f20 : BB3 (wide_0) (tall_0) (barredPoint_0) (costOf_0) (x6) (x7) (x9) (x10) (x11) (x12)) (f21 : (0 ≤ x9) ∧ (x9 ≤ x13)) (f22 : (-1) * x13 + 0 ≤ (-1)) (hK_0_140 : ∀ j : Int, 0 ≤ j → j < 24000 → 0 ≤ costOf_0 j ∧ costOf_0 j ≤ 1000000) (hK_0_143 : ∀ j : Int, 0 ≤ j → j < 6000 → 0 ≤ barredPoint_0 j ∧ barredPoint_0 j ≤ 1) (kz_0_146 : (-3999999) ≤ wide_0 ∧ wide_0 ≤ 600000023) (kz_0_147 : (-3999999) ≤ tall_0 ∧ tall_0 ≤ 600000007) : BB3 (wide_0) (tall_0) (barredPoint_0) (costOf_0) (x6) (x7) (x9) (x10) (x11) (x22) := by
  first
    | exact bb3_start (by omega) (by omega)
    | exact bb3_skip (w := x15) (x := x14) (v := x14) ‹BB3 _ _ _ _ _ _ _ _ _ _› (by omega) ‹STQ _ _ _ _ _ _› (by omega) (Or.inl (by omega))
    | exact bb3_skip (w := 1) (x := x14) (v := x14) ‹BB3 _ _ _ _ _ _ _ _ _ _› (by omega) ‹STQ _ _ _ _ _ _› (Or.inl ⟨by omega, rfl⟩) (Or.inl (by omega))
    | exact bb3_skip (w := 3) (x := x14) (v := x14) ‹BB3 _ _ _ _ _ _ _ _ _ _› (by omega) ‹STQ _ _ _ _ _ _› (Or.inr ⟨by omega, rfl⟩) (Or.inl (by omega))
    | exact bb3_skip (w := x15) (x := x19) (v := x20) ‹BB3 _ _ _ _ _ _ _ _ _ _› (by omega) ‹STQ _ _ _ _ _ _› (by omega) (Or.inr ⟨by omega, by assumption, by omega⟩)
    | exact bb3_take (q := x14) (x := x19) (v := x20) (w := x15) ‹STQ _ _ _ _ _ _› (by omega) (by omega) (by omega) (by omega) (by assumption) (by omega) (by omega) (by omega) (by omega)
  
def o_Mo_bendsBecome_19 : or_T := (127, 23, [(0, (2, 0, 0, [165])), (3, (0, 0, 5999, [])), (5, (0, 0, 2147483647, [])), (6, (0, 0, 5999, [])), (7, (0, 0, 3, [])), (9, (0, 0, 1000000, [])), (10, (0, -1, 3, [])), (11, (0, 0, 999999, [])), (12, (0, 0, 3, [])), (13, (0, -2, 1000000, [])), (14, (0, 0, 5999, [])), (15, (0, 3, 3, [])), (16, (2, 0, 0, [266])), (17, (0, 4, 4, [])), (18, (0, 0, 23996, [])), (19, (0, 0, 23999, [])), (20, (0, 0, 1000000, [])), (21, (0, -3, 999997, [])), (22, (0, -1, 2, []))], [(6, [22, 12], [-1]), (7, [20, 21], [1]), (2, [21, 9, 15], []), (10, [20, 16, 19], []), (1, [19, 18, 12], []), (3, [18, 17, 14], []), (9, [16, 0], [140]), (8, [14], [3]), (7, [12, 7], [1]), (20, [0, 6, 12, 14], [60, 2, 1, 505, 146, 147, 143]), (20, [14, 0], [50, 2, 0, 1146, 1147, 2, 6, 0, 2, 0, -1, 1, 0, 0, 6, 4, 2, 1, 0, 0, 1, 6, 3, 2, 1, 146, 2, 1, 147]), (8, [12], [3]), (20, [0], [60, 2, 0, 494, 146, 147]), (20, [0, 3], [60, 2, 2, 504, 146, 147, 143, 140]), (20, [3, 0], [50, 2, 0, 1146, 1147, 2, 6, 0, 2, 0, 0, 1, 0, 0, 6, 4, 2, 1, 0, 0, 1, 6, 3, 2, 1, 146, 2, 1, 147]), (20, [0, 6, 7, 9], [60, 2, 2, 507, 146, 147, 143, 140]), (20, [6, 0], [50, 2, 0, 1146, 1147, 2, 6, 0, 2, 0, 0, 1, 0, 0, 6, 4, 2, 1, 0, 0, 1, 6, 3, 2, 1, 146, 2, 1, 147]), (20, [5, 9], [50, 0, 0, 0, 6, 4, 2, 1, 0, 1, 1, 0, 1000000]), (20, [5], [50, 0, 0, 0, 2, 0, 0, 1, 0]), (20, [6, 3], [50, 0, 0, 7, 2, 1, 0, 1, 1]), (20, [0, 6, 7, 9, 10, 11, 12], [60, 2, 2, 508, 146, 147, 143, 140]), (20, [9, 13], [50, 0, 0, 2, 6, 0, 2, 0, 0, 1, 0, 0, 2, 1, 0, 1, 1]), (23, [13], [-1, -1])], [], [], [(20, [0, 6, 7, 9, 10, 11, 22], [60, 2, 2, 508, 146, 147, 143, 140])], [], [(22, 12, -1, -1), (21, 9, -3, -3), (19, 12, 0, 23996), (19, 18, 0, 3), (10, 9, -4294967296, 2), (11, 9, -4294967296, 0)])
theorem oo_Mo_bendsBecome_19 {kA : Nat → ClassId} : or_ok PRD kA GG o_Mo_bendsBecome_19 := by
  refine or_mk fun A ta ws vs hD hth hl => ?_
  intro t0 r0 t3 k3 t5 k5 t6 k6 t7 k7 t9 k9 t10 k10 t11 k11 t12 k12 t13 k13 t14 k14 t15 k15 t16 r16 t17 k17 t18 k18 t19 k19 t20 k20 t21 k21 t22 k22 d0 d1 d2 d3 d4 d5 f0 f1 f2 f3 f4 f5 f6 f7 f8 f9 f10 f11 f12 f13 f14 f15 f16 f17 f18 f19 f20 f21 f22
  replace f3 := shm_106 f3
  replace f5 := shm_38 f5
  rw [show v_iv (n_v vs 17) = 4 from by omega] at f5
  replace f6 := shm_690 f6
  have cr_0_140 := fdq_174 hD hth r0
  have cr_0_143 := fdq_177 hD hth r0
  have ad_16 : v_ad (n_v vs 16) = w_ar ws (n_v vs 0) 140 := congrArg v_ad f6
  simp only [ad_16] at f3
  have h3 : v_iv (n_v vs 20) = w_ei ws (w_ar ws (n_v vs 0) 140) (v_iv (n_v vs 19)) := f3
  have hK_0_140 := elq_101 hD hth cr_0_140
  have hK_0_143 := elq_104 hD hth cr_0_143
  have kz_0_146 := fdq_178 hD hth r0
  have kz_0_147 := fdq_179 hD hth r0
  have nf0 : fc_1 PRD (20, [0, 6, 7, 9, 10, 11, 22], [60, 2, 2, 508, 146, 147, 143, 140]) ws (vs) := ⟨nf_in hl rfl, sgq_1380 (vc_Mo_bendsBecome_19_0 (v_iv (n_v vs 3)) (v_iv (n_v vs 5)) (v_iv (n_v vs 6)) (v_iv (n_v vs 7)) (v_iv (n_v vs 9)) (v_iv (n_v vs 10)) (v_iv (n_v vs 11)) (v_iv (n_v vs 12)) (v_iv (n_v vs 13)) (v_iv (n_v vs 14)) (v_iv (n_v vs 15)) (v_iv (n_v vs 17)) (v_iv (n_v vs 18)) (v_iv (n_v vs 19)) (v_iv (n_v vs 20)) (v_iv (n_v vs 21)) (v_iv (n_v vs 22)) (w_ei ws (w_ar ws (n_v vs 0) 140)) (w_ei ws (w_ar ws (n_v vs 0) 143)) (w_fi ws (n_v vs 0) 146) (w_fi ws (n_v vs 0) 147) k3 k5 k6 k7 k9 k10 k11 k12 k13 k14 k15 k17 k18 k19 k20 k21 k22 d0 d1 d2 d3 d4 d5 (shm_198 f0) (shm_40 f1) (shm_14 f2) h3 (shm_12 f4) f5 (shm_32 f7) (shm_40 f8) (shm_1257 f9) (shm_1258 f10) (shm_32 f11) (shm_1255 f12) (shm_1376 f13) (shm_1256 f14) (shm_1378 f15) (shm_1256 f16) (shm_1379 f17) (shm_709 f18) (shm_419 f19) (shm_1380 f20) (shm_384 f21) (shm_614 f22) hK_0_140 hK_0_143 kz_0_146 kz_0_147)⟩
  refine ⟨(fun _ h => (by cases h)), [], trivial, ?_, (fun _ h => (by cases h))⟩
  rw [List.append_nil]
  exact List.forall_mem_cons.mpr ⟨⟨show (20 : Nat) < 100 from by decide, nf0⟩, (fun _ h => (by cases h))⟩
set_option maxHeartbeats 4000000 in
theorem vc_Mo_bendsBecome_20_0 (x3 : Int) (x5 : Int) (x6 : Int) (x7 : Int) (x9 : Int) (x10 : Int) (x11 : Int) (x12 : Int) (x13 : Int) (x14 : Int) (x16 : Int) (barredPoint_0 : Int → Int) (wide_0 : Int) (tall_0 : Int) (costOf_0 : Int → Int) (k3 : 0 ≤ x3 ∧ x3 ≤ 5999) (k5 : 0 ≤ x5 ∧ x5 ≤ 2147483647) (k6 : 0 ≤ x6 ∧ x6 ≤ 5999) (k7 : 0 ≤ x7 ∧ x7 ≤ 3) (k9 : 0 ≤ x9 ∧ x9 ≤ 1000000) (k10 : (-1) ≤ x10 ∧ x10 ≤ 3) (k11 : 0 ≤ x11 ∧ x11 ≤ 999999) (k12 : 0 ≤ x12 ∧ x12 ≤ 3) (k13 : (-2) ≤ x13 ∧ x13 ≤ 1000000) (k14 : (-1) ≤ x14 ∧ x14 ≤ (-1)) (k16 : (-1) ≤ x16 ∧ x16 ≤ 2) (d0 : x12 + (-1) ≤ x16 ∧ x16 ≤ x12 + (-1)) (d1 : x7 + (-1) ≤ x16 ∧ x16 ≤ x7 + (-1)) (d2 : x7 + 0 ≤ x12 ∧ x12 ≤ x7 + 0) (d3 : x9 + (-4294967296) ≤ x10 ∧ x10 ≤ x9 + 2) (d4 : x9 + (-4294967296) ≤ x11 ∧ x11 ≤ x9 + 0) (f0 : x16 = x12 + (-1)) (f1 : x14 < 0) (f2 : x12 = x7) (f3 : STQ (wide_0) (tall_0) (barredPoint_0) (x6) (x12) (x14)) (f4 : ((-1) ≤ x14) ∧ ((x14 + 1) ≤ (wide_0 * tall_0))) (f5 : 0 ≤ x12) (f6 : GRX (wide_0) (tall_0)) (f7 : RTV (wide_0) (tall_0) (barredPoint_0) (costOf_0) (x3)) (f8 : (0 ≤ x3) ∧ ((x3 + 1) ≤ (wide_0 * tall_0))) (f9 : BB2 (wide_0) (tall_0) (barredPoint_0) (costOf_0) (x6) (x7) (x9)) (f10 : (0 ≤ x6) ∧ ((x6 + 1) ≤ (wide_0 * tall_0))) (f11 : (x5 + x9) ≤ 1000000) (f12 : 0 ≤ x5) (f13 : x6 ≠ x3) (f14 : BB3 (wide_0) (tall_0) (barredPoint_0) (costOf_0) (x6) (x7) (x9) (x10) (x11) (x12)) (f15 : (0 ≤ x9) ∧ (x9 ≤ x13)) (f16 : (-1) * x13 + 0 ≤ (-1)) (hK_0_140 : ∀ j : Int, 0 ≤ j → j < 24000 → 0 ≤ costOf_0 j ∧ costOf_0 j ≤ 1000000) (hK_0_143 : ∀ j : Int, 0 ≤ j → j < 6000 → 0 ≤ barredPoint_0 j ∧ barredPoint_0 j ≤ 1) (kz_0_146 : (-3999999) ≤ wide_0 ∧ wide_0 ≤ 600000023) (kz_0_147 : (-3999999) ≤ tall_0 ∧ tall_0 ≤ 600000007) : BB3 (wide_0) (tall_0) (barredPoint_0) (costOf_0) (x6) (x7) (x9) (x10) (x11) (x16) := by
  first
    | exact bb3_start (by omega) (by omega)
    | exact bb3_skip (w := x15) (x := x14) (v := x14) ‹BB3 _ _ _ _ _ _ _ _ _ _› (by omega) ‹STQ _ _ _ _ _ _› (by omega) (Or.inl (by omega))
    | exact bb3_skip (w := 1) (x := x14) (v := x14) ‹BB3 _ _ _ _ _ _ _ _ _ _› (by omega) ‹STQ _ _ _ _ _ _› (Or.inl ⟨by omega, rfl⟩) (Or.inl (by omega))
    | exact bb3_skip (w := 3) (x := x14) (v := x14) ‹BB3 _ _ _ _ _ _ _ _ _ _› (by omega) ‹STQ _ _ _ _ _ _› (Or.inr ⟨by omega, rfl⟩) (Or.inl (by omega))
    | exact bb3_skip (w := x15) (x := x19) (v := x20) ‹BB3 _ _ _ _ _ _ _ _ _ _› (by omega) ‹STQ _ _ _ _ _ _› (by omega) (Or.inr ⟨by omega, by assumption, by omega⟩)
    | exact bb3_take (q := x14) (x := x19) (v := x20) (w := x15) ‹STQ _ _ _ _ _ _› (by omega) (by omega) (by omega) (by omega) (by assumption) (by omega) (by omega) (by omega) (by omega)
  
def o_Mo_bendsBecome_20 : or_T := (127, 17, [(0, (2, 0, 0, [165])), (3, (0, 0, 5999, [])), (5, (0, 0, 2147483647, [])), (6, (0, 0, 5999, [])), (7, (0, 0, 3, [])), (9, (0, 0, 1000000, [])), (10, (0, -1, 3, [])), (11, (0, 0, 999999, [])), (12, (0, 0, 3, [])), (13, (0, -2, 1000000, [])), (14, (0, -1, -1, [])), (16, (0, -1, 2, []))], [(6, [16, 12], [-1]), (8, [14], [2]), (7, [12, 7], [0]), (20, [0, 6, 12, 14], [60, 2, 1, 505, 146, 147, 143]), (20, [14, 0], [50, 2, 0, 1146, 1147, 2, 6, 0, 2, 0, -1, 1, 0, 0, 6, 4, 2, 1, 0, 0, 1, 6, 3, 2, 1, 146, 2, 1, 147]), (8, [12], [3]), (20, [0], [60, 2, 0, 494, 146, 147]), (20, [0, 3], [60, 2, 2, 504, 146, 147, 143, 140]), (20, [3, 0], [50, 2, 0, 1146, 1147, 2, 6, 0, 2, 0, 0, 1, 0, 0, 6, 4, 2, 1, 0, 0, 1, 6, 3, 2, 1, 146, 2, 1, 147]), (20, [0, 6, 7, 9], [60, 2, 2, 507, 146, 147, 143, 140]), (20, [6, 0], [50, 2, 0, 1146, 1147, 2, 6, 0, 2, 0, 0, 1, 0, 0, 6, 4, 2, 1, 0, 0, 1, 6, 3, 2, 1, 146, 2, 1, 147]), (20, [5, 9], [50, 0, 0, 0, 6, 4, 2, 1, 0, 1, 1, 0, 1000000]), (20, [5], [50, 0, 0, 0, 2, 0, 0, 1, 0]), (20, [6, 3], [50, 0, 0, 7, 2, 1, 0, 1, 1]), (20, [0, 6, 7, 9, 10, 11, 12], [60, 2, 2, 508, 146, 147, 143, 140]), (20, [9, 13], [50, 0, 0, 2, 6, 0, 2, 0, 0, 1, 0, 0, 2, 1, 0, 1, 1]), (23, [13], [-1, -1])], [], [], [(20, [0, 6, 7, 9, 10, 11, 16], [60, 2, 2, 508, 146, 147, 143, 140])], [], [(16, 12, -1, -1), (16, 7, -1, -1), (12, 7, 0, 0), (10, 9, -4294967296, 2), (11, 9, -4294967296, 0)])
theorem oo_Mo_bendsBecome_20 {kA : Nat → ClassId} : or_ok PRD kA GG o_Mo_bendsBecome_20 := by
  refine or_mk fun A ta ws vs hD hth hl => ?_
  intro t0 r0 t3 k3 t5 k5 t6 k6 t7 k7 t9 k9 t10 k10 t11 k11 t12 k12 t13 k13 t14 k14 t16 k16 d0 d1 d2 d3 d4 f0 f1 f2 f3 f4 f5 f6 f7 f8 f9 f10 f11 f12 f13 f14 f15 f16
  have cr_0_140 := fdq_174 hD hth r0
  have cr_0_143 := fdq_177 hD hth r0
  have hK_0_140 := elq_101 hD hth cr_0_140
  have hK_0_143 := elq_104 hD hth cr_0_143
  have kz_0_146 := fdq_178 hD hth r0
  have kz_0_147 := fdq_179 hD hth r0
  have nf0 : fc_1 PRD (20, [0, 6, 7, 9, 10, 11, 16], [60, 2, 2, 508, 146, 147, 143, 140]) ws (vs) := ⟨nf_in hl rfl, sgq_1380 (vc_Mo_bendsBecome_20_0 (v_iv (n_v vs 3)) (v_iv (n_v vs 5)) (v_iv (n_v vs 6)) (v_iv (n_v vs 7)) (v_iv (n_v vs 9)) (v_iv (n_v vs 10)) (v_iv (n_v vs 11)) (v_iv (n_v vs 12)) (v_iv (n_v vs 13)) (v_iv (n_v vs 14)) (v_iv (n_v vs 16)) (w_ei ws (w_ar ws (n_v vs 0) 143)) (w_fi ws (n_v vs 0) 146) (w_fi ws (n_v vs 0) 147) (w_ei ws (w_ar ws (n_v vs 0) 140)) k3 k5 k6 k7 k9 k10 k11 k12 k13 k14 k16 d0 d1 d2 d3 d4 (shm_198 f0) (shm_39 f1) (shm_37 f2) (shm_1257 f3) (shm_1258 f4) (shm_32 f5) (shm_1255 f6) (shm_1376 f7) (shm_1256 f8) (shm_1378 f9) (shm_1256 f10) (shm_1379 f11) (shm_709 f12) (shm_419 f13) (shm_1380 f14) (shm_384 f15) (shm_614 f16) hK_0_140 hK_0_143 kz_0_146 kz_0_147)⟩
  refine ⟨(fun _ h => (by cases h)), [], trivial, ?_, (fun _ h => (by cases h))⟩
  rw [List.append_nil]
  exact List.forall_mem_cons.mpr ⟨⟨show (20 : Nat) < 100 from by decide, nf0⟩, (fun _ h => (by cases h))⟩
set_option maxHeartbeats 4000000 in
theorem vc_Mo_bendsBecome_21_0 (x3 : Int) (x5 : Int) (x6 : Int) (x7 : Int) (x9 : Int) (x10 : Int) (x11 : Int) (x12 : Int) (x13 : Int) (x14 : Int) (x15 : Int) (x17 : Int) (x18 : Int) (x19 : Int) (x20 : Int) (x21 : Int) (x22 : Int) (x23 : Int) (costOf_0 : Int → Int) (barredPoint_0 : Int → Int) (wide_0 : Int) (tall_0 : Int) (k3 : 0 ≤ x3 ∧ x3 ≤ 5999) (k5 : 0 ≤ x5 ∧ x5 ≤ 2147483647) (k6 : 0 ≤ x6 ∧ x6 ≤ 5999) (k7 : 0 ≤ x7 ∧ x7 ≤ 3) (k9 : 1 ≤ x9 ∧ x9 ≤ 1000000) (k10 : (-1) ≤ x10 ∧ x10 ≤ 3) (k11 : 0 ≤ x11 ∧ x11 ≤ 999999) (k12 : 0 ≤ x12 ∧ x12 ≤ 3) (k13 : (-2) ≤ x13 ∧ x13 ≤ 1000000) (k14 : 0 ≤ x14 ∧ x14 ≤ 5999) (k15 : 1 ≤ x15 ∧ x15 ≤ 1) (k17 : 4 ≤ x17 ∧ x17 ≤ 4) (k18 : 0 ≤ x18 ∧ x18 ≤ 23996) (k19 : 0 ≤ x19 ∧ x19 ≤ 23999) (k20 : 0 ≤ x20 ∧ x20 ≤ 999999) (k21 : 0 ≤ x21 ∧ x21 ≤ 999999) (k22 : 0 ≤ x22 ∧ x22 ≤ 999999) (k23 : (-1) ≤ x23 ∧ x23 ≤ 2) (d0 : x12 + (-1) ≤ x23 ∧ x23 ≤ x12 + (-1)) (d1 : x7 + (-1) ≤ x23 ∧ x23 ≤ x7 + (-1)) (d2 : x9 + (-1) ≤ x22 ∧ x22 ≤ x9 + (-1)) (d3 : x21 + 0 ≤ x20 ∧ x20 ≤ x21 + 0) (d4 : x9 + (-1) ≤ x21 ∧ x21 ≤ x9 + (-1)) (d5 : x12 + 0 ≤ x19 ∧ x19 ≤ x12 + 23996) (d6 : x7 + 0 ≤ x19 ∧ x19 ≤ x7 + 23996) (d7 : x18 + 0 ≤ x19 ∧ x19 ≤ x18 + 3) (d8 : x7 + 0 ≤ x12 ∧ x12 ≤ x7 + 0) (d9 : x9 + (-4294967296) ≤ x11 ∧ x11 ≤ x9 + 0) (f0 : x23 = x12 + (-1)) (f1 : x22 = x9 - x15) (f2 : x20 = x21) (f3 : x21 = x9 - x15) (h4 : x20 = costOf_0 (x19)) (f5 : x19 = x18 + x12) (f6 : x18 = 4 * x14) (f8 : 0 ≤ x14) (f9 : x12 = x7) (f10 : STQ (wide_0) (tall_0) (barredPoint_0) (x6) (x12) (x14)) (f11 : ((-1) ≤ x14) ∧ ((x14 + 1) ≤ (wide_0 * tall_0))) (f12 : 0 ≤ x12) (f13 : GRX (wide_0) (tall_0)) (f14 : RTV (wide_0) (tall_0) (barredPoint_0) (costOf_0) (x3)) (f15 : (0 ≤ x3) ∧ ((x3 + 1) ≤ (wide_0 * tall_0))) (f16 : BB2 (wide_0) (tall_0) (barredPoint_0) (costOf_0) (x6) (x7) (x9)) (f17 : (0 ≤ x6) ∧ ((x6 + 1) ≤ (wide_0 * tall_0))) (f18 : (x5 + x9) ≤ 1000000) (f19 : 0 ≤ x5) (f20 : x6 ≠ x3) (f21 : BB3 (wide_0) (tall_0) (barredPoint_0) (costOf_0) (x6) (x7) (x9) (x10) (x11) (x12)) (f22 : (0 ≤ x9) ∧ (x9 ≤ x13)) (f23 : (-1) * x13 + 0 ≤ (-1)) (hK_0_140 : ∀ j : Int, 0 ≤ j → j < 24000 → 0 ≤ costOf_0 j ∧ costOf_0 j ≤ 1000000) (hK_0_143 : ∀ j : Int, 0 ≤ j → j < 6000 → 0 ≤ barredPoint_0 j ∧ barredPoint_0 j ≤ 1) (kz_0_146 : (-3999999) ≤ wide_0 ∧ wide_0 ≤ 600000023) (kz_0_147 : (-3999999) ≤ tall_0 ∧ tall_0 ≤ 600000007) : BB3 (wide_0) (tall_0) (barredPoint_0) (costOf_0) (x6) (x7) (x9) (x12) (x22) (x23) := by
  first
    | exact bb3_start (by omega) (by omega)
    | exact bb3_skip (w := x15) (x := x14) (v := x14) ‹BB3 _ _ _ _ _ _ _ _ _ _› (by omega) ‹STQ _ _ _ _ _ _› (by omega) (Or.inl (by omega))
    | exact bb3_skip (w := 1) (x := x14) (v := x14) ‹BB3 _ _ _ _ _ _ _ _ _ _› (by omega) ‹STQ _ _ _ _ _ _› (Or.inl ⟨by omega, rfl⟩) (Or.inl (by omega))
    | exact bb3_skip (w := 3) (x := x14) (v := x14) ‹BB3 _ _ _ _ _ _ _ _ _ _› (by omega) ‹STQ _ _ _ _ _ _› (Or.inr ⟨by omega, rfl⟩) (Or.inl (by omega))
    | exact bb3_skip (w := x15) (x := x19) (v := x20) ‹BB3 _ _ _ _ _ _ _ _ _ _› (by omega) ‹STQ _ _ _ _ _ _› (by omega) (Or.inr ⟨by omega, by assumption, by omega⟩)
    | exact bb3_take (q := x14) (x := x19) (v := x20) (w := x15) ‹STQ _ _ _ _ _ _› (by omega) (by omega) (by omega) (by omega) (by assumption) (by omega) (by omega) (by omega) (by omega)
  
def o_Mo_bendsBecome_21 : or_T := (127, 24, [(0, (2, 0, 0, [165])), (3, (0, 0, 5999, [])), (5, (0, 0, 2147483647, [])), (6, (0, 0, 5999, [])), (7, (0, 0, 3, [])), (9, (0, 1, 1000000, [])), (10, (0, -1, 3, [])), (11, (0, 0, 999999, [])), (12, (0, 0, 3, [])), (13, (0, -2, 1000000, [])), (14, (0, 0, 5999, [])), (15, (0, 1, 1, [])), (16, (2, 0, 0, [266])), (17, (0, 4, 4, [])), (18, (0, 0, 23996, [])), (19, (0, 0, 23999, [])), (20, (0, 0, 999999, [])), (21, (0, 0, 999999, [])), (22, (0, 0, 999999, [])), (23, (0, -1, 2, []))], [(6, [23, 12], [-1]), (2, [22, 9, 15], []), (7, [20, 21], [0]), (2, [21, 9, 15], []), (10, [20, 16, 19], []), (1, [19, 18, 12], []), (3, [18, 17, 14], []), (9, [16, 0], [140]), (8, [14], [3]), (7, [12, 7], [0]), (20, [0, 6, 12, 14], [60, 2, 1, 505, 146, 147, 143]), (20, [14, 0], [50, 2, 0, 1146, 1147, 2, 6, 0, 2, 0, -1, 1, 0, 0, 6, 4, 2, 1, 0, 0, 1, 6, 3, 2, 1, 146, 2, 1, 147]), (8, [12], [3]), (20, [0], [60, 2, 0, 494, 146, 147]), (20, [0, 3], [60, 2, 2, 504, 146, 147, 143, 140]), (20, [3, 0], [50, 2, 0, 1146, 1147, 2, 6, 0, 2, 0, 0, 1, 0, 0, 6, 4, 2, 1, 0, 0, 1, 6, 3, 2, 1, 146, 2, 1, 147]), (20, [0, 6, 7, 9], [60, 2, 2, 507, 146, 147, 143, 140]), (20, [6, 0], [50, 2, 0, 1146, 1147, 2, 6, 0, 2, 0, 0, 1, 0, 0, 6, 4, 2, 1, 0, 0, 1, 6, 3, 2, 1, 146, 2, 1, 147]), (20, [5, 9], [50, 0, 0, 0, 6, 4, 2, 1, 0, 1, 1, 0, 1000000]), (20, [5], [50, 0, 0, 0, 2, 0, 0, 1, 0]), (20, [6, 3], [50, 0, 0, 7, 2, 1, 0, 1, 1]), (20, [0, 6, 7, 9, 10, 11, 12], [60, 2, 2, 508, 146, 147, 143, 140]), (20, [9, 13], [50, 0, 0, 2, 6, 0, 2, 0, 0, 1, 0, 0, 2, 1, 0, 1, 1]), (23, [13], [-1, -1])], [], [], [(20, [0, 6, 7, 9, 12, 22, 23], [60, 2, 2, 508, 146, 147, 143, 140])], [], [(23, 12, -1, -1), (23, 7, -1, -1), (22, 9, -1, -1), (20, 21, 0, 0), (21, 9, -1, -1), (19, 12, 0, 23996), (19, 7, 0, 23996), (19, 18, 0, 3), (12, 7, 0, 0), (11, 9, -4294967296, 0)])
theorem oo_Mo_bendsBecome_21 {kA : Nat → ClassId} : or_ok PRD kA GG o_Mo_bendsBecome_21 := by
  refine or_mk fun A ta ws vs hD hth hl => ?_
  intro t0 r0 t3 k3 t5 k5 t6 k6 t7 k7 t9 k9 t10 k10 t11 k11 t12 k12 t13 k13 t14 k14 t15 k15 t16 r16 t17 k17 t18 k18 t19 k19 t20 k20 t21 k21 t22 k22 t23 k23 d0 d1 d2 d3 d4 d5 d6 d7 d8 d9 f0 f1 f2 f3 f4 f5 f6 f7 f8 f9 f10 f11 f12 f13 f14 f15 f16 f17 f18 f19 f20 f21 f22 f23
  replace f4 := shm_106 f4
  replace f6 := shm_38 f6
  rw [show v_iv (n_v vs 17) = 4 from by omega] at f6
  replace f7 := shm_690 f7
  have cr_0_140 := fdq_174 hD hth r0
  have cr_0_143 := fdq_177 hD hth r0
  have ad_16 : v_ad (n_v vs 16) = w_ar ws (n_v vs 0) 140 := congrArg v_ad f7
  simp only [ad_16] at f4
  have h4 : v_iv (n_v vs 20) = w_ei ws (w_ar ws (n_v vs 0) 140) (v_iv (n_v vs 19)) := f4
  have hK_0_140 := elq_101 hD hth cr_0_140
  have hK_0_143 := elq_104 hD hth cr_0_143
  have kz_0_146 := fdq_178 hD hth r0
  have kz_0_147 := fdq_179 hD hth r0
  have nf0 : fc_1 PRD (20, [0, 6, 7, 9, 12, 22, 23], [60, 2, 2, 508, 146, 147, 143, 140]) ws (vs) := ⟨nf_in hl rfl, sgq_1380 (vc_Mo_bendsBecome_21_0 (v_iv (n_v vs 3)) (v_iv (n_v vs 5)) (v_iv (n_v vs 6)) (v_iv (n_v vs 7)) (v_iv (n_v vs 9)) (v_iv (n_v vs 10)) (v_iv (n_v vs 11)) (v_iv (n_v vs 12)) (v_iv (n_v vs 13)) (v_iv (n_v vs 14)) (v_iv (n_v vs 15)) (v_iv (n_v vs 17)) (v_iv (n_v vs 18)) (v_iv (n_v vs 19)) (v_iv (n_v vs 20)) (v_iv (n_v vs 21)) (v_iv (n_v vs 22)) (v_iv (n_v vs 23)) (w_ei ws (w_ar ws (n_v vs 0) 140)) (w_ei ws (w_ar ws (n_v vs 0) 143)) (w_fi ws (n_v vs 0) 146) (w_fi ws (n_v vs 0) 147) k3 k5 k6 k7 k9 k10 k11 k12 k13 k14 k15 k17 k18 k19 k20 k21 k22 k23 d0 d1 d2 d3 d4 d5 d6 d7 d8 d9 (shm_198 f0) (shm_14 f1) (shm_37 f2) (shm_14 f3) h4 (shm_12 f5) f6 (shm_32 f8) (shm_37 f9) (shm_1257 f10) (shm_1258 f11) (shm_32 f12) (shm_1255 f13) (shm_1376 f14) (shm_1256 f15) (shm_1378 f16) (shm_1256 f17) (shm_1379 f18) (shm_709 f19) (shm_419 f20) (shm_1380 f21) (shm_384 f22) (shm_614 f23) hK_0_140 hK_0_143 kz_0_146 kz_0_147)⟩
  refine ⟨(fun _ h => (by cases h)), [], trivial, ?_, (fun _ h => (by cases h))⟩
  rw [List.append_nil]
  exact List.forall_mem_cons.mpr ⟨⟨show (20 : Nat) < 100 from by decide, nf0⟩, (fun _ h => (by cases h))⟩
set_option maxHeartbeats 4000000 in
theorem vc_Mo_bendsBecome_22_0 (x3 : Int) (x5 : Int) (x6 : Int) (x7 : Int) (x9 : Int) (x10 : Int) (x11 : Int) (x12 : Int) (x13 : Int) (x14 : Int) (x15 : Int) (x17 : Int) (x18 : Int) (x19 : Int) (x20 : Int) (x21 : Int) (x22 : Int) (costOf_0 : Int → Int) (barredPoint_0 : Int → Int) (wide_0 : Int) (tall_0 : Int) (k3 : 0 ≤ x3 ∧ x3 ≤ 5999) (k5 : 0 ≤ x5 ∧ x5 ≤ 2147483647) (k6 : 0 ≤ x6 ∧ x6 ≤ 5999) (k7 : 0 ≤ x7 ∧ x7 ≤ 3) (k9 : 0 ≤ x9 ∧ x9 ≤ 1000000) (k10 : (-1) ≤ x10 ∧ x10 ≤ 3) (k11 : 0 ≤ x11 ∧ x11 ≤ 999999) (k12 : 0 ≤ x12 ∧ x12 ≤ 3) (k13 : (-2) ≤ x13 ∧ x13 ≤ 1000000) (k14 : 0 ≤ x14 ∧ x14 ≤ 5999) (k15 : 1 ≤ x15 ∧ x15 ≤ 1) (k17 : 4 ≤ x17 ∧ x17 ≤ 4) (k18 : 0 ≤ x18 ∧ x18 ≤ 23996) (k19 : 0 ≤ x19 ∧ x19 ≤ 23999) (k20 : 0 ≤ x20 ∧ x20 ≤ 1000000) (k21 : (-1) ≤ x21 ∧ x21 ≤ 999999) (k22 : (-1) ≤ x22 ∧ x22 ≤ 2) (d0 : x12 + (-1) ≤ x22 ∧ x22 ≤ x12 + (-1)) (d1 : x7 + (-1) ≤ x22 ∧ x22 ≤ x7 + (-1)) (d2 : x9 + (-1) ≤ x21 ∧ x21 ≤ x9 + (-1)) (d3 : x12 + 0 ≤ x19 ∧ x19 ≤ x12 + 23996) (d4 : x7 + 0 ≤ x19 ∧ x19 ≤ x7 + 23996) (d5 : x18 + 0 ≤ x19 ∧ x19 ≤ x18 + 3) (d6 : x7 + 0 ≤ x12 ∧ x12 ≤ x7 + 0) (d7 : x9 + (-4294967296) ≤ x10 ∧ x10 ≤ x9 + 2) (d8 : x9 + (-4294967296) ≤ x11 ∧ x11 ≤ x9 + 0) (f0 : x22 = x12 + (-1)) (f1 : x20 ≠ x21) (f2 : x21 = x9 - x15) (h3 : x20 = costOf_0 (x19)) (f4 : x19 = x18 + x12) (f5 : x18 = 4 * x14) (f7 : 0 ≤ x14) (f8 : x12 = x7) (f9 : STQ (wide_0) (tall_0) (barredPoint_0) (x6) (x12) (x14)) (f10 : ((-1) ≤ x14) ∧ ((x14 + 1) ≤ (wide_0 * tall_0))) (f11 : 0 ≤ x12) (f12 : GRX (wide_0) (tall_0)) (f13 : RTV (wide_0) (tall_0) (barredPoint_0) (costOf_0) (x3)) (f14 : (0 ≤ x3) ∧ ((x3 + 1) ≤ (wide_0 * tall_0))) (f15 : BB2 (wide_0) (tall_0) (barredPoint_0) (costOf_0) (x6) (x7) (x9)) (f16 : (0 ≤ x6) ∧ ((x6 + 1) ≤ (wide_0 * tall_0))) (f17 : (x5 + x9) ≤ 1000000) (f18 : 0 ≤ x5) (f19 : x6 ≠ x3) (f20 : BB3 (wide_0) (tall_0) (barredPoint_0) (costOf_0) (x6) (x7) (x9) (x10) (x11) (x12)) (f21 : (0 ≤ x9) ∧ (x9 ≤ x13)) (f22 : (-1) * x13 + 0 ≤ (-1)) (hK_0_140 : ∀ j : Int, 0 ≤ j → j < 24000 → 0 ≤ costOf_0 j ∧ costOf_0 j ≤ 1000000) (hK_0_143 : ∀ j : Int, 0 ≤ j → j < 6000 → 0 ≤ barredPoint_0 j ∧ barredPoint_0 j ≤ 1) (kz_0_146 : (-3999999) ≤ wide_0 ∧ wide_0 ≤ 600000023) (kz_0_147 : (-3999999) ≤ tall_0 ∧ tall_0 ≤ 600000007) : BB3 (wide_0) (tall_0) (barredPoint_0) (costOf_0) (x6) (x7) (x9) (x10) (x11) (x22) := by
  first
    | exact bb3_start (by omega) (by omega)
    | exact bb3_skip (w := x15) (x := x14) (v := x14) ‹BB3 _ _ _ _ _ _ _ _ _ _› (by omega) ‹STQ _ _ _ _ _ _› (by omega) (Or.inl (by omega))
    | exact bb3_skip (w := 1) (x := x14) (v := x14) ‹BB3 _ _ _ _ _ _ _ _ _ _› (by omega) ‹STQ _ _ _ _ _ _› (Or.inl ⟨by omega, rfl⟩) (Or.inl (by omega))
    | exact bb3_skip (w := 3) (x := x14) (v := x14) ‹BB3 _ _ _ _ _ _ _ _ _ _› (by omega) ‹STQ _ _ _ _ _ _› (Or.inr ⟨by omega, rfl⟩) (Or.inl (by omega))
    | exact bb3_skip (w := x15) (x := x19) (v := x20) ‹BB3 _ _ _ _ _ _ _ _ _ _› (by omega) ‹STQ _ _ _ _ _ _› (by omega) (Or.inr ⟨by omega, by assumption, by omega⟩)
    | exact bb3_take (q := x14) (x := x19) (v := x20) (w := x15) ‹STQ _ _ _ _ _ _› (by omega) (by omega) (by omega) (by omega) (by assumption) (by omega) (by omega) (by omega) (by omega)
  
def o_Mo_bendsBecome_22 : or_T := (127, 23, [(0, (2, 0, 0, [165])), (3, (0, 0, 5999, [])), (5, (0, 0, 2147483647, [])), (6, (0, 0, 5999, [])), (7, (0, 0, 3, [])), (9, (0, 0, 1000000, [])), (10, (0, -1, 3, [])), (11, (0, 0, 999999, [])), (12, (0, 0, 3, [])), (13, (0, -2, 1000000, [])), (14, (0, 0, 5999, [])), (15, (0, 1, 1, [])), (16, (2, 0, 0, [266])), (17, (0, 4, 4, [])), (18, (0, 0, 23996, [])), (19, (0, 0, 23999, [])), (20, (0, 0, 1000000, [])), (21, (0, -1, 999999, [])), (22, (0, -1, 2, []))], [(6, [22, 12], [-1]), (7, [20, 21], [1]), (2, [21, 9, 15], []), (10, [20, 16, 19], []), (1, [19, 18, 12], []), (3, [18, 17, 14], []), (9, [16, 0], [140]), (8, [14], [3]), (7, [12, 7], [0]), (20, [0, 6, 12, 14], [60, 2, 1, 505, 146, 147, 143]), (20, [14, 0], [50, 2, 0, 1146, 1147, 2, 6, 0, 2, 0, -1, 1, 0, 0, 6, 4, 2, 1, 0, 0, 1, 6, 3, 2, 1, 146, 2, 1, 147]), (8, [12], [3]), (20, [0], [60, 2, 0, 494, 146, 147]), (20, [0, 3], [60, 2, 2, 504, 146, 147, 143, 140]), (20, [3, 0], [50, 2, 0, 1146, 1147, 2, 6, 0, 2, 0, 0, 1, 0, 0, 6, 4, 2, 1, 0, 0, 1, 6, 3, 2, 1, 146, 2, 1, 147]), (20, [0, 6, 7, 9], [60, 2, 2, 507, 146, 147, 143, 140]), (20, [6, 0], [50, 2, 0, 1146, 1147, 2, 6, 0, 2, 0, 0, 1, 0, 0, 6, 4, 2, 1, 0, 0, 1, 6, 3, 2, 1, 146, 2, 1, 147]), (20, [5, 9], [50, 0, 0, 0, 6, 4, 2, 1, 0, 1, 1, 0, 1000000]), (20, [5], [50, 0, 0, 0, 2, 0, 0, 1, 0]), (20, [6, 3], [50, 0, 0, 7, 2, 1, 0, 1, 1]), (20, [0, 6, 7, 9, 10, 11, 12], [60, 2, 2, 508, 146, 147, 143, 140]), (20, [9, 13], [50, 0, 0, 2, 6, 0, 2, 0, 0, 1, 0, 0, 2, 1, 0, 1, 1]), (23, [13], [-1, -1])], [], [], [(20, [0, 6, 7, 9, 10, 11, 22], [60, 2, 2, 508, 146, 147, 143, 140])], [], [(22, 12, -1, -1), (22, 7, -1, -1), (21, 9, -1, -1), (19, 12, 0, 23996), (19, 7, 0, 23996), (19, 18, 0, 3), (12, 7, 0, 0), (10, 9, -4294967296, 2), (11, 9, -4294967296, 0)])
theorem oo_Mo_bendsBecome_22 {kA : Nat → ClassId} : or_ok PRD kA GG o_Mo_bendsBecome_22 := by
  refine or_mk fun A ta ws vs hD hth hl => ?_
  intro t0 r0 t3 k3 t5 k5 t6 k6 t7 k7 t9 k9 t10 k10 t11 k11 t12 k12 t13 k13 t14 k14 t15 k15 t16 r16 t17 k17 t18 k18 t19 k19 t20 k20 t21 k21 t22 k22 d0 d1 d2 d3 d4 d5 d6 d7 d8 f0 f1 f2 f3 f4 f5 f6 f7 f8 f9 f10 f11 f12 f13 f14 f15 f16 f17 f18 f19 f20 f21 f22
  replace f3 := shm_106 f3
  replace f5 := shm_38 f5
  rw [show v_iv (n_v vs 17) = 4 from by omega] at f5
  replace f6 := shm_690 f6
  have cr_0_140 := fdq_174 hD hth r0
  have cr_0_143 := fdq_177 hD hth r0
  have ad_16 : v_ad (n_v vs 16) = w_ar ws (n_v vs 0) 140 := congrArg v_ad f6
  simp only [ad_16] at f3
  have h3 : v_iv (n_v vs 20) = w_ei ws (w_ar ws (n_v vs 0) 140) (v_iv (n_v vs 19)) := f3
  have hK_0_140 := elq_101 hD hth cr_0_140
  have hK_0_143 := elq_104 hD hth cr_0_143
  have kz_0_146 := fdq_178 hD hth r0
  have kz_0_147 := fdq_179 hD hth r0
  have nf0 : fc_1 PRD (20, [0, 6, 7, 9, 10, 11, 22], [60, 2, 2, 508, 146, 147, 143, 140]) ws (vs) := ⟨nf_in hl rfl, sgq_1380 (vc_Mo_bendsBecome_22_0 (v_iv (n_v vs 3)) (v_iv (n_v vs 5)) (v_iv (n_v vs 6)) (v_iv (n_v vs 7)) (v_iv (n_v vs 9)) (v_iv (n_v vs 10)) (v_iv (n_v vs 11)) (v_iv (n_v vs 12)) (v_iv (n_v vs 13)) (v_iv (n_v vs 14)) (v_iv (n_v vs 15)) (v_iv (n_v vs 17)) (v_iv (n_v vs 18)) (v_iv (n_v vs 19)) (v_iv (n_v vs 20)) (v_iv (n_v vs 21)) (v_iv (n_v vs 22)) (w_ei ws (w_ar ws (n_v vs 0) 140)) (w_ei ws (w_ar ws (n_v vs 0) 143)) (w_fi ws (n_v vs 0) 146) (w_fi ws (n_v vs 0) 147) k3 k5 k6 k7 k9 k10 k11 k12 k13 k14 k15 k17 k18 k19 k20 k21 k22 d0 d1 d2 d3 d4 d5 d6 d7 d8 (shm_198 f0) (shm_40 f1) (shm_14 f2) h3 (shm_12 f4) f5 (shm_32 f7) (shm_37 f8) (shm_1257 f9) (shm_1258 f10) (shm_32 f11) (shm_1255 f12) (shm_1376 f13) (shm_1256 f14) (shm_1378 f15) (shm_1256 f16) (shm_1379 f17) (shm_709 f18) (shm_419 f19) (shm_1380 f20) (shm_384 f21) (shm_614 f22) hK_0_140 hK_0_143 kz_0_146 kz_0_147)⟩
  refine ⟨(fun _ h => (by cases h)), [], trivial, ?_, (fun _ h => (by cases h))⟩
  rw [List.append_nil]
  exact List.forall_mem_cons.mpr ⟨⟨show (20 : Nat) < 100 from by decide, nf0⟩, (fun _ h => (by cases h))⟩
def n_Mo_bendsBecome_an : List an_T := [(22, [(0, (2, 0, 0, [165])), (1, (0, 0, 47, [])), (2, (0, 0, 5999, [])), (3, (0, 0, 5999, [])), (4, (0, 1, 1, [])), (5, (0, 0, 0, [])), (6, (0, 0, 5999, [])), (7, (0, (Int.negSucc 0), 3, [])), (8, (0, 1, 1000001, [])), (9, (0, 0, 4, []))], [], (0, 0), [(0, 0, 99978), (1, 9, 4), (0, 0, 100000), (0, 0, 0), (0, 0, 0)], [(2, 6, (Int.negSucc 999999999999), 0), (6, 2, (Int.negSucc 999999999999), 0), (7, 9, (Int.negSucc 999999999999), (Int.negSucc 0)), (8, 7, (Int.negSucc 999999999999), 1000001), (8, 9, (Int.negSucc 999999999999), 1000000)], [], [], 0, [], [(20, [0], [60, 2, 0, 494, 146, 147]), (20, [0, 3], [60, 2, 2, 504, 146, 147, 143, 140]), (20, [3, 0], [50, 2, 0, 1146, 1147, 2, 6, 0, 2, 0, 0, 1, 0, 0, 6, 4, 2, 1, 0, 0, 1, 6, 3, 2, 1, 146, 2, 1, 147]), (20, [6, 0], [50, 2, 0, 1146, 1147, 2, 6, 0, 2, 0, 0, 1, 0, 0, 6, 4, 2, 1, 0, 0, 1, 6, 3, 2, 1, 146, 2, 1, 147]), (20, [0, 6, 7, 8, 9], [60, 2, 2, 506, 146, 147, 143, 140]), (20, [5], [50, 0, 0, 1, 2, 1, 0, 0, 0])]), (112, [(0, (2, 0, 0, [165])), (1, (0, 0, 47, [])), (2, (0, 0, 5999, [])), (3, (0, 0, 5999, [])), (4, (0, 1, 1, [])), (5, (0, 0, 2147483647, [])), (6, (0, 0, 5999, [])), (7, (0, 0, 3, [])), (8, (0, 1, 1000001, [])), (9, (0, 0, 1000000, []))], [], (0, 0), [(0, 0, 99888), (2, 10, (Int.negSucc 1)), (0, 0, 100000), (0, 0, 0), (0, 0, 0)], [(9, 8, (Int.negSucc 999999999999), (Int.negSucc 0))], [], [], 0, [(0, (Int.negSucc 1), 1000000, [])], [(20, [0], [60, 2, 0, 494, 146, 147]), (20, [0, 3], [60, 2, 2, 504, 146, 147, 143, 140]), (20, [3, 0], [50, 2, 0, 1146, 1147, 2, 6, 0, 2, 0, 0, 1, 0, 0, 6, 4, 2, 1, 0, 0, 1, 6, 3, 2, 1, 146, 2, 1, 147]), (20, [0, 6, 7, 9], [60, 2, 2, 507, 146, 147, 143, 140]), (20, [6, 0], [50, 2, 0, 1146, 1147, 2, 6, 0, 2, 0, 0, 1, 0, 0, 6, 4, 2, 1, 0, 0, 1, 6, 3, 2, 1, 146, 2, 1, 147]), (20, [5, 9], [50, 0, 0, 0, 6, 4, 2, 1, 0, 1, 1, 0, 1000000]), (20, [5], [50, 0, 0, 0, 2, 0, 0, 1, 0]), (20, [9, 10], [50, 0, 0, 2, 6, 0, 2, 0, 0, 1, 0, 0, 2, 1, 0, 1, 1])]), (127, [(0, (2, 0, 0, [165])), (1, (0, 0, 47, [])), (2, (0, 0, 5999, [])), (3, (0, 0, 5999, [])), (4, (0, 1, 1, [])), (5, (0, 0, 2147483647, [])), (6, (0, 0, 5999, [])), (7, (0, 0, 3, [])), (8, (0, 1, 1000001, [])), (9, (0, 0, 1000000, [])), (10, (0, (Int.negSucc 0), 3, [])), (11, (0, 0, 999999, [])), (12, (0, (Int.negSucc 0), 3, []))], [], (0, 0), [(0, 0, 99888), (2, 13, (Int.negSucc 1)), (0, 0, 99873), (2, 12, (Int.negSucc 0)), (0, 0, 100000)], [(9, 8, (Int.negSucc 999999999999), (Int.negSucc 0)), (10, 8, (Int.negSucc 999999999999), 1), (10, 9, (Int.negSucc 999999999999), 2), (11, 8, (Int.negSucc 999999999999), (Int.negSucc 0)), (11, 9, (Int.negSucc 999999999999), 0)], [], [], 0, [(0, (Int.negSucc 1), 1000000, [])], [(20, [0], [60, 2, 0, 494, 146, 147]), (20, [0, 3], [60, 2, 2, 504, 146, 147, 143, 140]), (20, [3, 0], [50, 2, 0, 1146, 1147, 2, 6, 0, 2, 0, 0, 1, 0, 0, 6, 4, 2, 1, 0, 0, 1, 6, 3, 2, 1, 146, 2, 1, 147]), (20, [0, 6, 7, 9], [60, 2, 2, 507, 146, 147, 143, 140]), (20, [6, 0], [50, 2, 0, 1146, 1147, 2, 6, 0, 2, 0, 0, 1, 0, 0, 6, 4, 2, 1, 0, 0, 1, 6, 3, 2, 1, 146, 2, 1, 147]), (20, [5, 9], [50, 0, 0, 0, 6, 4, 2, 1, 0, 1, 1, 0, 1000000]), (20, [5], [50, 0, 0, 0, 2, 0, 0, 1, 0]), (20, [6, 3], [50, 0, 0, 7, 2, 1, 0, 1, 1]), (20, [0, 6, 7, 9, 10, 11, 12], [60, 2, 2, 508, 146, 147, 143, 140]), (20, [9, 13], [50, 0, 0, 2, 6, 0, 2, 0, 0, 1, 0, 0, 2, 1, 0, 1, 1]), (23, [13], [(Int.negSucc 0), (Int.negSucc 0)])]), (310, [(0, (2, 0, 0, [165])), (1, (0, 0, 47, [])), (2, (0, 0, 5999, [])), (3, (0, 0, 5999, [])), (4, (0, 0, 1, [])), (5, (0, 0, 24, [])), (6, (0, 0, 5999, [])), (7, (0, (Int.negSucc 0), 3, [])), (8, (0, 0, 191, [])), (9, (0, 0, 24, []))], [], (0, 0), [(0, 0, 99690), (1, 9, 24), (0, 0, 100000), (0, 0, 0), (0, 0, 0)], [(1, 8, (Int.negSucc 999999999999), 0), (4, 7, (Int.negSucc 999999999999), 1), (7, 4, (Int.negSucc 999999999999), 2), (8, 1, (Int.negSucc 999999999999), 144), (9, 5, (Int.negSucc 999999999999), 0)], [], [], 0, [], [])]
def t_Mo_bendsBecome_ct : ct_L := [(1, 1076, e_Mo_stepTo)]
set_option maxRecDepth 100000 in
theorem c_Mo_bendsBecome {l : Launch} {D : va_G} {kA : Nat → ClassId} (h_Mo_stepTo : ct_ok PRD l D kA GG y_Mo_stepTo z_Mo_stepTo e_Mo_stepTo) : ct_ok PRD l D kA GG y_Mo_bendsBecome z_Mo_bendsBecome e_Mo_bendsBecome := chk_all_ok (FT := [(129, 13, 64), (132, 13, 65), (135, 13, 66), (317, 13, 140), (330, 13, 148), (333, 13, 149), (1020, 13, 139), (1037, 13, 144), (1040, 13, 145), (1043, 13, 146)]) (PT := []) (CT := t_Mo_bendsBecome_ct) (KT := [(1, 546, .int (1000000), (0, 1000000, 1000000, []))]) (NT := []) (AN := n_Mo_bendsBecome_an) (OT := [o_Mo_bendsBecome_0, o_Mo_bendsBecome_1, o_Mo_bendsBecome_2, o_Mo_bendsBecome_3, o_Mo_bendsBecome_4, o_Mo_bendsBecome_5, o_Mo_bendsBecome_6, o_Mo_bendsBecome_7, o_Mo_bendsBecome_8, o_Mo_bendsBecome_9, o_Mo_bendsBecome_10, o_Mo_bendsBecome_11, o_Mo_bendsBecome_12, o_Mo_bendsBecome_13, o_Mo_bendsBecome_14, o_Mo_bendsBecome_15, o_Mo_bendsBecome_16, o_Mo_bendsBecome_17, o_Mo_bendsBecome_18, o_Mo_bendsBecome_19, o_Mo_bendsBecome_20, o_Mo_bendsBecome_21, o_Mo_bendsBecome_22]) 5 1084 (List.forall_mem_cons.mpr ⟨oo_Mo_bendsBecome_0, List.forall_mem_cons.mpr ⟨oo_Mo_bendsBecome_1, List.forall_mem_cons.mpr ⟨oo_Mo_bendsBecome_2, List.forall_mem_cons.mpr ⟨oo_Mo_bendsBecome_3, List.forall_mem_cons.mpr ⟨oo_Mo_bendsBecome_4, List.forall_mem_cons.mpr ⟨oo_Mo_bendsBecome_5, List.forall_mem_cons.mpr ⟨oo_Mo_bendsBecome_6, List.forall_mem_cons.mpr ⟨oo_Mo_bendsBecome_7, List.forall_mem_cons.mpr ⟨oo_Mo_bendsBecome_8, List.forall_mem_cons.mpr ⟨oo_Mo_bendsBecome_9, List.forall_mem_cons.mpr ⟨oo_Mo_bendsBecome_10, List.forall_mem_cons.mpr ⟨oo_Mo_bendsBecome_11, List.forall_mem_cons.mpr ⟨oo_Mo_bendsBecome_12, List.forall_mem_cons.mpr ⟨oo_Mo_bendsBecome_13, List.forall_mem_cons.mpr ⟨oo_Mo_bendsBecome_14, List.forall_mem_cons.mpr ⟨oo_Mo_bendsBecome_15, List.forall_mem_cons.mpr ⟨oo_Mo_bendsBecome_16, List.forall_mem_cons.mpr ⟨oo_Mo_bendsBecome_17, List.forall_mem_cons.mpr ⟨oo_Mo_bendsBecome_18, List.forall_mem_cons.mpr ⟨oo_Mo_bendsBecome_19, List.forall_mem_cons.mpr ⟨oo_Mo_bendsBecome_20, List.forall_mem_cons.mpr ⟨oo_Mo_bendsBecome_21, List.forall_mem_cons.mpr ⟨oo_Mo_bendsBecome_22, List.forall_mem_nil _⟩⟩⟩⟩⟩⟩⟩⟩⟩⟩⟩⟩⟩⟩⟩⟩⟩⟩⟩⟩⟩⟩⟩) (by decide +kernel) ⟨List.forall_mem_cons.mpr ⟨gf_Mo_129, List.forall_mem_cons.mpr ⟨gf_Mo_132, List.forall_mem_cons.mpr ⟨gf_Mo_135, List.forall_mem_cons.mpr ⟨gf_Mo_317, List.forall_mem_cons.mpr ⟨gf_Mo_330, List.forall_mem_cons.mpr ⟨gf_Mo_333, List.forall_mem_cons.mpr ⟨gf_Mo_1020, List.forall_mem_cons.mpr ⟨gf_Mo_1037, List.forall_mem_cons.mpr ⟨gf_Mo_1040, List.forall_mem_cons.mpr ⟨gf_Mo_1043, List.forall_mem_nil _⟩⟩⟩⟩⟩⟩⟩⟩⟩⟩, List.forall_mem_nil _, List.forall_mem_cons.mpr ⟨cl_virtual (y := y_Mo_stepTo) (ci := 13) rfl rfl ⟨_, _, rfl⟩ (by decide +kernel) h_Mo_stepTo wm_3714 wm_9 wm_3711 wm_3713 wv_22_6 ⟨by decide, by decide, by decide +kernel⟩ (by decide), List.forall_mem_nil _⟩, List.forall_mem_cons.mpr ⟨kx_Mo_1_546, List.forall_mem_nil _⟩, List.forall_mem_nil _, GG_pl⟩ (by decide +kernel)

set_option maxHeartbeats 4000000 in
theorem vc_Mo_between_0_0 (x1 : Int) (x2 : Int) (x3 : Int) (all_0 : Int → Int) (r_0 : Int) (k1 : 0 ≤ x1 ∧ x1 ≤ 75) (k2 : 0 ≤ x2 ∧ x2 ≤ 75) (k3 : 0 ≤ x3 ∧ x3 ≤ 0) : BTL (r_0) (all_0) (x1) (x2) (x3) := by
  first
    | (intro e a b; exfalso; omega)
    | (have h := ‹BTL _ _ _ _ _›
       intro e a b
       by_cases q : e = x6
       · rw [q]
         first
           | exact fun w => absurd w.1 (fun z => by have := (‹HSP _ _ _ x1 _›).2 z; omega)
           | exact fun w => absurd w.2.1 (fun z => by have := (‹HSP _ _ _ x2 _›).2 z; omega)
           | exact fun w => w.2.2 (by omega)
       · exact h e a (by omega))
def o_Mo_between_0 : or_T := (2, 4, [(1, (0, 0, 75, [])), (2, (0, 0, 75, [])), (3, (0, 0, 0, []))], [], [], [], [(20, [0, 1, 2, 3], [60, 1, 1, 205, 5, 2]), (24, [0, 0], []), (24, [1, 1], []), (24, [2, 2], [])], [], [])
theorem oo_Mo_between_0 {kA : Nat → ClassId} : or_ok PRD kA GG o_Mo_between_0 := by
  refine or_mk fun A ta ws vs hD hth hl => ?_
  intro t1 k1 t2 k2 t3 k3
  have nf0 : fc_1 PRD (20, [0, 1, 2, 3], [60, 1, 1, 205, 5, 2]) ws (vs) := ⟨nf_in hl rfl, sgq_1383 (vc_Mo_between_0_0 (v_iv (n_v vs 1)) (v_iv (n_v vs 2)) (v_iv (n_v vs 3)) (w_ei ws (w_ar ws (n_v vs 0) 2)) (w_fi ws (n_v vs 0) 5) k1 k2 k3)⟩
  have nf1 : fc_1 PRD (24, [0, 0], []) ws (vs) := by
    refine ⟨nf_in hl rfl, sgq_1 ?_⟩
    · show n_v vs 0 = n_v vs 0
      first | rfl | simp only [true_and]
  have nf2 : fc_1 PRD (24, [1, 1], []) ws (vs) := by
    refine ⟨nf_in hl rfl, sgq_1 ?_⟩
    · show n_v vs 1 = n_v vs 1
      first | rfl | simp only [true_and]
  have nf3 : fc_1 PRD (24, [2, 2], []) ws (vs) := by
    refine ⟨nf_in hl rfl, sgq_1 ?_⟩
    · show n_v vs 2 = n_v vs 2
      first | rfl | simp only [true_and]
  refine ⟨(fun _ h => (by cases h)), [], trivial, ?_, (fun _ h => (by cases h))⟩
  rw [List.append_nil]
  exact List.forall_mem_cons.mpr ⟨⟨show (20 : Nat) < 100 from by decide, nf0⟩, List.forall_mem_cons.mpr ⟨⟨show (24 : Nat) < 100 from by decide, nf1⟩, List.forall_mem_cons.mpr ⟨⟨show (24 : Nat) < 100 from by decide, nf2⟩, List.forall_mem_cons.mpr ⟨⟨show (24 : Nat) < 100 from by decide, nf3⟩, (fun _ h => (by cases h))⟩⟩⟩⟩
set_option maxHeartbeats 4000000 in
theorem vc_Mo_between_1_0 (x1 : Int) (x2 : Int) (x6 : Int) (x7 : Int) (x8 : Int) (all_0 : Int → Int) (r_0 : Int) (k1 : 0 ≤ x1 ∧ x1 ≤ 75) (k2 : 0 ≤ x2 ∧ x2 ≤ 75) (k6 : 0 ≤ x6 ∧ x6 ≤ 48) (k7 : 0 ≤ x7 ∧ x7 ≤ 48) (k8 : (-1) ≤ x8 ∧ x8 ≤ (-1)) (d0 : x7 + 0 ≤ x6 ∧ x6 ≤ x7 + 4294967296) (f1 : 1 * x7 + ((-1) * all_0 (r_0 + 1) + 0) ≤ 0) (f2 : (-1) * x7 + (1 * all_0 (r_0 + 1) + 0) ≤ 0) (f3 : BTL (r_0) (all_0) (x1) (x2) (x6)) : BTP (r_0) (all_0) (x1) (x2) (x8) := by
  intro _; have h := ‹BTL _ _ _ _ _›
  intro e a b
  exact h e a (by omega)
def o_Mo_between_1 : or_T := (42, 9, [(1, (0, 0, 75, [])), (2, (0, 0, 75, [])), (6, (0, 0, 48, [])), (7, (0, 0, 48, [])), (8, (0, -1, -1, []))], [(20, [7, 3], [30, 0, 1, 0, 0, -1, 3, 2005001]), (20, [7, 3], [30, 0, -1, 0, 0, 1, 3, 2005001]), (20, [3, 4, 5, 6], [60, 1, 1, 205, 5, 2]), (24, [0, 3], []), (24, [1, 4], []), (24, [2, 5], [])], [], [], [(20, [0, 1, 2, 8], [60, 1, 1, 206, 5, 2])], [], [(6, 7, 0, 4294967296)])
theorem oo_Mo_between_1 {kA : Nat → ClassId} : or_ok PRD kA GG o_Mo_between_1 := by
  refine or_mk fun A ta ws vs hD hth hl => ?_
  intro t1 k1 t2 k2 t6 k6 t7 k7 t8 k8 d0 f1 f2 f3 f4 f5 f6
  replace f1 := shm_130 f1
  replace f2 := shm_131 f2
  replace f3 := shm_1383 f3
  replace f4 := shm_5 f4
  replace f5 := shm_5 f5
  replace f6 := shm_5 f6
  have q3 : n_v vs 3 = n_v vs 0 := f4.symm
  have q4 : n_v vs 4 = n_v vs 1 := f5.symm
  have q5 : n_v vs 5 = n_v vs 2 := f6.symm
  simp only [q3, q4, q5] at f1 f2 f3
  have nf0 : fc_1 PRD (20, [0, 1, 2, 8], [60, 1, 1, 206, 5, 2]) ws (vs) := ⟨nf_in hl rfl, sgq_1384 (vc_Mo_between_1_0 (v_iv (n_v vs 1)) (v_iv (n_v vs 2)) (v_iv (n_v vs 6)) (v_iv (n_v vs 7)) (v_iv (n_v vs 8)) (w_ei ws (w_ar ws (n_v vs 0) 2)) (w_fi ws (n_v vs 0) 5) k1 k2 k6 k7 k8 d0 f1 f2 f3)⟩
  refine ⟨(fun _ h => (by cases h)), [], trivial, ?_, (fun _ h => (by cases h))⟩
  rw [List.append_nil]
  exact List.forall_mem_cons.mpr ⟨⟨show (20 : Nat) < 100 from by decide, nf0⟩, (fun _ h => (by cases h))⟩
set_option maxHeartbeats 4000000 in
theorem vc_Mo_between_2_0 (x1 : Int) (x2 : Int) (x4 : Int) (x5 : Int) (x6 : Int) (x8 : Int) (x10 : Int) (all_0 : Int → Int) (r_0 : Int) (k1 : 0 ≤ x1 ∧ x1 ≤ 23) (k2 : 0 ≤ x2 ∧ x2 ≤ 23) (k4 : 0 ≤ x4 ∧ x4 ≤ 23) (k5 : 0 ≤ x5 ∧ x5 ≤ 23) (k6 : 0 ≤ x6 ∧ x6 ≤ 47) (k8 : 1 ≤ x8 ∧ x8 ≤ 1) (k10 : 1 ≤ x10 ∧ x10 ≤ 48) (d0 : x6 + 1 ≤ x10 ∧ x10 ≤ x6 + 1) (d2 : x5 + 0 ≤ x4 ∧ x4 ≤ x5 + 0) (d4 : x4 + (-4294967296) ≤ x1 ∧ x1 ≤ x4 + 0) (d5 : x5 + (-4294967296) ≤ x2 ∧ x2 ≤ x5 + 0) (d6 : x1 + (-4294967296) ≤ x4 ∧ x4 ≤ x1 + 0) (d7 : x2 + (-4294967296) ≤ x5 ∧ x5 ≤ x2 + 0) (f5 : HSP (r_0) (all_0) (x6) (x1) (x8)) (f9 : BTL (r_0) (all_0) (x1) (x2) (x6)) : BTL (r_0) (all_0) (x1) (x2) (x10) := by
  first
    | (intro e a b; exfalso; omega)
    | (have h := ‹BTL _ _ _ _ _›
       intro e a b
       by_cases q : e = x6
       · rw [q]
         first
           | exact fun w => absurd w.1 (fun z => by have := (‹HSP _ _ _ x1 _›).2 z; omega)
           | exact fun w => absurd w.2.1 (fun z => by have := (‹HSP _ _ _ x2 _›).2 z; omega)
           | exact fun w => w.2.2 (by omega)
       · exact h e a (by omega))
def o_Mo_between_2 : or_T := (2, 11, [(0, (2, 0, 0, [165])), (1, (0, 0, 23, [])), (2, (0, 0, 23, [])), (3, (2, 0, 0, [165])), (4, (0, 0, 23, [])), (5, (0, 0, 23, [])), (6, (0, 0, 47, [])), (7, (0, 1, 48, [])), (8, (0, 1, 1, [])), (9, (0, 1, 1, [])), (10, (0, 1, 48, []))], [(6, [10, 6], [1]), (7, [4, 5], [0]), (8, [9], [1]), (20, [3, 6, 5, 9], [60, 1, 1, 204, 5, 2]), (8, [8], [1]), (20, [3, 6, 4, 8], [60, 1, 1, 204, 5, 2]), (7, [6, 7], [2]), (20, [7, 3], [30, 0, 1, 0, 0, -1, 3, 2005001]), (20, [7, 3], [30, 0, -1, 0, 0, 1, 3, 2005001]), (20, [3, 4, 5, 6], [60, 1, 1, 205, 5, 2]), (24, [0, 3], []), (24, [1, 4], []), (24, [2, 5], [])], [], [], [(20, [3, 4, 5, 10], [60, 1, 1, 205, 5, 2])], [], [(10, 6, 1, 1), (10, 7, -4294967296, 0), (4, 5, 0, 0), (6, 7, -4294967296, -1), (1, 4, -4294967296, 0), (2, 5, -4294967296, 0), (4, 1, -4294967296, 0), (5, 2, -4294967296, 0)])
theorem oo_Mo_between_2 {kA : Nat → ClassId} : or_ok PRD kA GG o_Mo_between_2 := by
  refine or_mk fun A ta ws vs hD hth hl => ?_
  intro t0 r0 t1 k1 t2 k2 t3 r3 t4 k4 t5 k5 t6 k6 t7 k7 t8 k8 t9 k9 t10 k10 d0 d1 d2 d3 d4 d5 d6 d7 f0 f1 f2 f3 f4 f5 f6 f7 f8 f9 f10 f11 f12
  replace f5 := shm_1112 f5
  replace f9 := shm_1383 f9
  replace f10 := shm_5 f10
  replace f11 := shm_5 f11
  replace f12 := shm_5 f12
  have q3 : n_v vs 3 = n_v vs 0 := f10.symm
  have q4 : n_v vs 4 = n_v vs 1 := f11.symm
  have q5 : n_v vs 5 = n_v vs 2 := f12.symm
  simp only [q4, q5, q3] at f5 f9
  have nf0 : fc_1 PRD (20, [3, 4, 5, 10], [60, 1, 1, 205, 5, 2]) ws (vs) := by
    refine ⟨nf_in hl rfl, sgq_1383 ?_⟩
    · show BTL (w_fi ws (n_v vs 3) 5) (w_ei ws (w_ar ws (n_v vs 3) 2)) (v_iv (n_v vs 4)) (v_iv (n_v vs 5)) (v_iv (n_v vs 10))
      simp only [q3, q4, q5]
      exact vc_Mo_between_2_0 (v_iv (n_v vs 1)) (v_iv (n_v vs 2)) (v_iv (n_v vs 4)) (v_iv (n_v vs 5)) (v_iv (n_v vs 6)) (v_iv (n_v vs 8)) (v_iv (n_v vs 10)) (w_ei ws (w_ar ws (n_v vs 0) 2)) (w_fi ws (n_v vs 0) 5) k1 k2 k4 k5 k6 k8 k10 d0 d2 d4 d5 d6 d7 f5 f9
  refine ⟨(fun _ h => (by cases h)), [], trivial, ?_, (fun _ h => (by cases h))⟩
  rw [List.append_nil]
  exact List.forall_mem_cons.mpr ⟨⟨show (20 : Nat) < 100 from by decide, nf0⟩, (fun _ h => (by cases h))⟩
set_option maxHeartbeats 4000000 in
theorem vc_Mo_between_3_0 (x1 : Int) (x2 : Int) (x6 : Int) (all_0 : Int → Int) (r_0 : Int) (k1 : 0 ≤ x1 ∧ x1 ≤ 23) (k2 : 0 ≤ x2 ∧ x2 ≤ 23) (k6 : 0 ≤ x6 ∧ x6 ≤ 47) : BTP (r_0) (all_0) (x1) (x2) (x6) := by
  intro z; exfalso; omega
def o_Mo_between_3 : or_T := (34, 10, [(1, (0, 0, 23, [])), (2, (0, 0, 23, [])), (6, (0, 0, 47, []))], [], [], [], [(20, [0, 1, 2, 6], [60, 1, 1, 206, 5, 2])], [], [])
theorem oo_Mo_between_3 {kA : Nat → ClassId} : or_ok PRD kA GG o_Mo_between_3 := by
  refine or_mk fun A ta ws vs hD hth hl => ?_
  intro t1 k1 t2 k2 t6 k6
  have nf0 : fc_1 PRD (20, [0, 1, 2, 6], [60, 1, 1, 206, 5, 2]) ws (vs) := ⟨nf_in hl rfl, sgq_1384 (vc_Mo_between_3_0 (v_iv (n_v vs 1)) (v_iv (n_v vs 2)) (v_iv (n_v vs 6)) (w_ei ws (w_ar ws (n_v vs 0) 2)) (w_fi ws (n_v vs 0) 5) k1 k2 k6)⟩
  refine ⟨(fun _ h => (by cases h)), [], trivial, ?_, (fun _ h => (by cases h))⟩
  rw [List.append_nil]
  exact List.forall_mem_cons.mpr ⟨⟨show (20 : Nat) < 100 from by decide, nf0⟩, (fun _ h => (by cases h))⟩
set_option maxHeartbeats 4000000 in
theorem vc_Mo_between_4_0 (x1 : Int) (x2 : Int) (x6 : Int) (x9 : Int) (x10 : Int) (all_0 : Int → Int) (r_0 : Int) (k1 : 0 ≤ x1 ∧ x1 ≤ 23) (k2 : 0 ≤ x2 ∧ x2 ≤ 75) (k6 : 0 ≤ x6 ∧ x6 ≤ 47) (k9 : 0 ≤ x9 ∧ x9 ≤ 0) (k10 : 1 ≤ x10 ∧ x10 ≤ 48) (d0 : x6 + 1 ≤ x10 ∧ x10 ≤ x6 + 1) (f2 : HSP (r_0) (all_0) (x6) (x2) (x9)) (f8 : BTL (r_0) (all_0) (x1) (x2) (x6)) : BTL (r_0) (all_0) (x1) (x2) (x10) := by
  first
    | (intro e a b; exfalso; omega)
    | (have h := ‹BTL _ _ _ _ _›
       intro e a b
       by_cases q : e = x6
       · rw [q]
         first
           | exact fun w => absurd w.1 (fun z => by have := (‹HSP _ _ _ x1 _›).2 z; omega)
           | exact fun w => absurd w.2.1 (fun z => by have := (‹HSP _ _ _ x2 _›).2 z; omega)
           | exact fun w => w.2.2 (by omega)
       · exact h e a (by omega))
def o_Mo_between_4 : or_T := (2, 11, [(0, (2, 0, 0, [165])), (1, (0, 0, 23, [])), (2, (0, 0, 75, [])), (3, (2, 0, 0, [165])), (4, (0, 0, 23, [])), (5, (0, 0, 75, [])), (6, (0, 0, 47, [])), (7, (0, 1, 48, [])), (8, (0, 1, 1, [])), (9, (0, 0, 0, [])), (10, (0, 1, 48, []))], [(6, [10, 6], [1]), (8, [9], [0]), (20, [3, 6, 5, 9], [60, 1, 1, 204, 5, 2]), (8, [8], [1]), (20, [3, 6, 4, 8], [60, 1, 1, 204, 5, 2]), (7, [6, 7], [2]), (20, [7, 3], [30, 0, 1, 0, 0, -1, 3, 2005001]), (20, [7, 3], [30, 0, -1, 0, 0, 1, 3, 2005001]), (20, [3, 4, 5, 6], [60, 1, 1, 205, 5, 2]), (24, [0, 3], []), (24, [1, 4], []), (24, [2, 5], [])], [], [], [(20, [3, 4, 5, 10], [60, 1, 1, 205, 5, 2])], [], [(10, 6, 1, 1), (10, 7, -4294967296, 0), (6, 7, -4294967296, -1), (1, 4, -4294967296, 0), (2, 5, -4294967296, 0), (4, 1, -4294967296, 0), (5, 2, -4294967296, 0)])
theorem oo_Mo_between_4 {kA : Nat → ClassId} : or_ok PRD kA GG o_Mo_between_4 := by
  refine or_mk fun A ta ws vs hD hth hl => ?_
  intro t0 r0 t1 k1 t2 k2 t3 r3 t4 k4 t5 k5 t6 k6 t7 k7 t8 k8 t9 k9 t10 k10 d0 d1 d2 d3 d4 d5 d6 f0 f1 f2 f3 f4 f5 f6 f7 f8 f9 f10 f11
  replace f2 := shm_1112 f2
  replace f8 := shm_1383 f8
  replace f9 := shm_5 f9
  replace f10 := shm_5 f10
  replace f11 := shm_5 f11
  have q3 : n_v vs 3 = n_v vs 0 := f9.symm
  have q4 : n_v vs 4 = n_v vs 1 := f10.symm
  have q5 : n_v vs 5 = n_v vs 2 := f11.symm
  simp only [q3, q5, q4] at f2 f8
  have nf0 : fc_1 PRD (20, [3, 4, 5, 10], [60, 1, 1, 205, 5, 2]) ws (vs) := by
    refine ⟨nf_in hl rfl, sgq_1383 ?_⟩
    · show BTL (w_fi ws (n_v vs 3) 5) (w_ei ws (w_ar ws (n_v vs 3) 2)) (v_iv (n_v vs 4)) (v_iv (n_v vs 5)) (v_iv (n_v vs 10))
      simp only [q3, q4, q5]
      exact vc_Mo_between_4_0 (v_iv (n_v vs 1)) (v_iv (n_v vs 2)) (v_iv (n_v vs 6)) (v_iv (n_v vs 9)) (v_iv (n_v vs 10)) (w_ei ws (w_ar ws (n_v vs 0) 2)) (w_fi ws (n_v vs 0) 5) k1 k2 k6 k9 k10 d0 f2 f8
  refine ⟨(fun _ h => (by cases h)), [], trivial, ?_, (fun _ h => (by cases h))⟩
  rw [List.append_nil]
  exact List.forall_mem_cons.mpr ⟨⟨show (20 : Nat) < 100 from by decide, nf0⟩, (fun _ h => (by cases h))⟩
set_option maxHeartbeats 4000000 in
theorem vc_Mo_between_5_0 (x1 : Int) (x2 : Int) (x6 : Int) (x8 : Int) (x9 : Int) (all_0 : Int → Int) (r_0 : Int) (k1 : 0 ≤ x1 ∧ x1 ≤ 75) (k2 : 0 ≤ x2 ∧ x2 ≤ 75) (k6 : 0 ≤ x6 ∧ x6 ≤ 47) (k8 : 0 ≤ x8 ∧ x8 ≤ 0) (k9 : 1 ≤ x9 ∧ x9 ≤ 48) (d0 : x6 + 1 ≤ x9 ∧ x9 ≤ x6 + 1) (f2 : HSP (r_0) (all_0) (x6) (x1) (x8)) (f6 : BTL (r_0) (all_0) (x1) (x2) (x6)) : BTL (r_0) (all_0) (x1) (x2) (x9) := by
  first
    | (intro e a b; exfalso; omega)
    | (have h := ‹BTL _ _ _ _ _›
       intro e a b
       by_cases q : e = x6
       · rw [q]
         first
           | exact fun w => absurd w.1 (fun z => by have := (‹HSP _ _ _ x1 _›).2 z; omega)
           | exact fun w => absurd w.2.1 (fun z => by have := (‹HSP _ _ _ x2 _›).2 z; omega)
           | exact fun w => w.2.2 (by omega)
       · exact h e a (by omega))
def o_Mo_between_5 : or_T := (2, 10, [(1, (0, 0, 75, [])), (2, (0, 0, 75, [])), (6, (0, 0, 47, [])), (8, (0, 0, 0, [])), (9, (0, 1, 48, []))], [(20, [3, 6, 4, 8], [60, 1, 1, 204, 5, 2]), (20, [3, 4, 5, 6], [60, 1, 1, 205, 5, 2]), (24, [0, 3], []), (24, [1, 4], []), (24, [2, 5], [])], [], [], [(20, [3, 4, 5, 9], [60, 1, 1, 205, 5, 2])], [], [(9, 6, 1, 1)])
theorem oo_Mo_between_5 {kA : Nat → ClassId} : or_ok PRD kA GG o_Mo_between_5 := by
  refine or_mk fun A ta ws vs hD hth hl => ?_
  intro t1 k1 t2 k2 t6 k6 t8 k8 t9 k9 d0 f2 f6 f7 f8 f9
  replace f2 := shm_1112 f2
  replace f6 := shm_1383 f6
  replace f7 := shm_5 f7
  replace f8 := shm_5 f8
  replace f9 := shm_5 f9
  have q3 : n_v vs 3 = n_v vs 0 := f7.symm
  have q4 : n_v vs 4 = n_v vs 1 := f8.symm
  have q5 : n_v vs 5 = n_v vs 2 := f9.symm
  simp only [q3, q4, q5] at f2 f6
  have nf0 : fc_1 PRD (20, [3, 4, 5, 9], [60, 1, 1, 205, 5, 2]) ws (vs) := by
    refine ⟨nf_in hl rfl, sgq_1383 ?_⟩
    · show BTL (w_fi ws (n_v vs 3) 5) (w_ei ws (w_ar ws (n_v vs 3) 2)) (v_iv (n_v vs 4)) (v_iv (n_v vs 5)) (v_iv (n_v vs 9))
      simp only [q3, q4, q5]
      exact vc_Mo_between_5_0 (v_iv (n_v vs 1)) (v_iv (n_v vs 2)) (v_iv (n_v vs 6)) (v_iv (n_v vs 8)) (v_iv (n_v vs 9)) (w_ei ws (w_ar ws (n_v vs 0) 2)) (w_fi ws (n_v vs 0) 5) k1 k2 k6 k8 k9 d0 f2 f6
  refine ⟨(fun _ h => (by cases h)), [], trivial, ?_, (fun _ h => (by cases h))⟩
  rw [List.append_nil]
  exact List.forall_mem_cons.mpr ⟨⟨show (20 : Nat) < 100 from by decide, nf0⟩, (fun _ h => (by cases h))⟩
def n_Mo_between_an : List an_T := [(2, [(0, (2, 0, 0, [165])), (1, (0, 0, 75, [])), (2, (0, 0, 75, [])), (3, (0, 0, 48, []))], [], (0, 0), [(0, 0, 99998), (1, 6, 48), (0, 0, 100000)], [(1, 4, (Int.negSucc 999999999999), 0), (2, 5, (Int.negSucc 999999999999), 0), (4, 1, (Int.negSucc 999999999999), 0), (5, 2, (Int.negSucc 999999999999), 0)], [], [(2, 0, 0, [165]), (0, 0, 75, []), (0, 0, 75, [])], 0, [], [(20, [3, 4, 5, 6], [60, 1, 1, 205, 5, 2]), (24, [0, 3], []), (24, [1, 4], []), (24, [2, 5], [])])]
def t_Mo_between_ct : ct_L := [(1, 401, e_Mo_edges), (1, 405, e_Mo_has)]
set_option maxRecDepth 100000 in
theorem c_Mo_between {l : Launch} {D : va_G} {kA : Nat → ClassId} (h_Mo_edges : ct_ok PRD l D kA GG y_Mo_edges z_Mo_edges e_Mo_edges) (h_Mo_has : ct_ok PRD l D kA GG y_Mo_has z_Mo_has e_Mo_has) : ct_ok PRD l D kA GG y_Mo_between z_Mo_between e_Mo_between := chk_all_ok (FT := []) (PT := []) (CT := t_Mo_between_ct) (KT := []) (NT := []) (AN := n_Mo_between_an) (OT := [o_Mo_between_0, o_Mo_between_1, o_Mo_between_2, o_Mo_between_3, o_Mo_between_4, o_Mo_between_5]) 3 200 (List.forall_mem_cons.mpr ⟨oo_Mo_between_0, List.forall_mem_cons.mpr ⟨oo_Mo_between_1, List.forall_mem_cons.mpr ⟨oo_Mo_between_2, List.forall_mem_cons.mpr ⟨oo_Mo_between_3, List.forall_mem_cons.mpr ⟨oo_Mo_between_4, List.forall_mem_cons.mpr ⟨oo_Mo_between_5, List.forall_mem_nil _⟩⟩⟩⟩⟩⟩) (by decide +kernel) ⟨List.forall_mem_nil _, List.forall_mem_nil _, List.forall_mem_cons.mpr ⟨cl_virtual (y := y_Mo_edges) (ci := 13) rfl rfl ⟨_, _, rfl⟩ (by decide +kernel) h_Mo_edges wm_3037 wm_9 wm_3034 wm_3036 wv_13_6 ⟨by decide, by decide, by decide +kernel⟩ (by decide), List.forall_mem_cons.mpr ⟨cl_virtual (y := y_Mo_has) (ci := 13) rfl rfl ⟨_, _, rfl⟩ (by decide +kernel) h_Mo_has wm_3041 wm_9 wm_3038 wm_3040 wv_13_7 ⟨by decide, by decide, by decide +kernel⟩ (by decide), List.forall_mem_nil _⟩⟩, List.forall_mem_nil _, List.forall_mem_nil _, GG_pl⟩ (by decide +kernel)
def o_Mo_ex_0 : or_T := (59, 16, [(0, (2, 0, 0, [165])), (1, (0, 0, 47, [])), (2, (0, 1, 25, [])), (3, (0, 2, 26, [])), (4, (0, 1, 1, [])), (5, (0, 1, 25, [])), (7, (0, 24, 24, [])), (8, (0, 48, 48, [])), (9, (0, 0, 3, [])), (10, (0, 0, 144, [])), (11, (0, 0, 191, [])), (12, (0, 0, 4584, [])), (13, (0, 1, 4609, [])), (14, (0, 1, 1, [])), (15, (0, 0, 4608, []))], [(2, [15, 13, 14], []), (1, [13, 12, 2], []), (3, [12, 7, 11], []), (1, [11, 10, 1], []), (3, [10, 8, 9], []), (9, [9, 0], [139]), (7, [2, 5], [1]), (2, [5, 3, 4], []), (20, [3, 0, 1], [50, 1, 1, 1139, 1064, 1, 2, 1, 0, 4, 14, 3, 1, 64, 4, 7, 6, 2, 0, 48, 2, 1, 139, 1, 2, 0, 2]), (8, [2], [1]), (20, [2, 0, 1], [50, 1, 1, 1139, 1064, 0, 2, 1, 0, 4, 14, 3, 1, 64, 4, 7, 6, 2, 0, 48, 2, 1, 139, 1, 2, 0, 1])], [(15, (0, 0, 4607, []))], [], [], [], [(15, 13, -1, -1), (15, 2, -1, 4583), (15, 12, 0, 24), (13, 2, 0, 4584), (13, 12, 1, 25), (11, 1, 0, 144), (11, 10, 0, 47), (5, 3, -1, -1)])
set_option maxHeartbeats 8000000 in
theorem oo_Mo_ex_0 {kA : Nat → ClassId} : or_ok PRD kA GG o_Mo_ex_0 := by
  refine or_mk fun A ta ws vs hD hth hl => ?_
  intro t0 r0 t1 k1 t2 k2 t3 k3 t4 k4 t5 k5 t7 k7 t8 k8 t9 k9 t10 k10 t11 k11 t12 k12 t13 k13 t14 k14 t15 k15 d0 d1 d2 d3 d4 d5 d6 d7 f0 f1 f2 f3 f4 f5 f6 f7 f8 f9 f10
  replace f0 := shm_14 f0
  replace f1 := shm_12 f1
  replace f2 := shm_38 f2
  rw [show v_iv (n_v vs 7) = 24 from by omega] at f2
  replace f3 := shm_12 f3
  replace f4 := shm_38 f4
  rw [show v_iv (n_v vs 8) = 48 from by omega] at f4
  replace f5 := shm_668 f5
  replace f6 := shm_40 f6
  replace f7 := shm_14 f7
  replace f8 := shm_670 f8
  replace f9 := shm_154 f9
  replace f10 := shm_1385 f10
  have cr_0_64 := fdq_170 hD hth r0
  have g5 : v_iv (n_v vs 9) = w_fi ws (n_v vs 0) 139 := congrArg v_iv f5
  have hK_0_64 := elq_98 hD hth cr_0_64
  have kz_0_139 := fdq_171 hD hth r0
  have rf15 : tv_ok ta (0, 0, 4607, []) (n_v vs 15) := tv_in t15 (by first | omega | grind) (by first | omega | grind)
  refine ⟨List.forall_mem_cons.mpr ⟨rf15, (fun _ h => (by cases h))⟩, [], trivial, ?_, (fun _ h => (by cases h))⟩
  rw [List.append_nil]
  exact (fun _ h => (by cases h))
def o_Mo_ex_1 : or_T := (60, 17, [(0, (2, 0, 0, [165])), (1, (0, 0, 47, [])), (2, (0, 1, 25, [])), (3, (0, 2, 26, [])), (4, (0, 1, 1, [])), (5, (0, 1, 25, [])), (6, (2, 0, 0, [205])), (7, (0, 24, 24, [])), (8, (0, 48, 48, [])), (9, (0, 0, 3, [])), (10, (0, 0, 144, [])), (11, (0, 0, 191, [])), (12, (0, 0, 4584, [])), (13, (0, 1, 4609, [])), (14, (0, 1, 1, [])), (15, (0, 0, 4607, [])), (16, (0, -300000011, 221100000, []))], [(10, [16, 6, 15], []), (2, [15, 13, 14], []), (1, [13, 12, 2], []), (3, [12, 7, 11], []), (1, [11, 10, 1], []), (3, [10, 8, 9], []), (9, [9, 0], [139]), (9, [6, 0], [65]), (7, [2, 5], [1]), (2, [5, 3, 4], []), (20, [3, 0, 1], [50, 1, 1, 1139, 1064, 1, 2, 1, 0, 4, 14, 3, 1, 64, 4, 7, 6, 2, 0, 48, 2, 1, 139, 1, 2, 0, 2]), (8, [2], [1]), (20, [2, 0, 1], [50, 1, 1, 1139, 1064, 0, 2, 1, 0, 4, 14, 3, 1, 64, 4, 7, 6, 2, 0, 48, 2, 1, 139, 1, 2, 0, 1])], [], [], [(20, [2, 16, 0, 1], [50, 2, 2, 2139, 2005, 2062, 2002, 4, 6, 1, 2, 1, 0, 0, 0, 1, 2, 1, 1, 3, 2, 62, 4, 7, 6, 2, 0, 24, 2, 2, 139, 3, 2, 2, 4, 7, 4, 3, 2, 2, 5, 0, 267, 1, 3]), (20, [2, 0, 1, 16], [50, 2, 3, 1139, 1005, 1064, 1062, 1002, 4, 22, 1, 2, 1, 0, 4, 14, 3, 1, 64, 4, 7, 6, 2, 0, 48, 2, 1, 139, 1, 2, 0, 1, 1, 2, 1, 3, 3, 1, 62, 4, 7, 6, 2, 0, 24, 2, 1, 139, 3, 1, 2, 4, 7, 4, 3, 2, 1, 5, 0, 315, 1, 2]), (20, [2, 0, 1, 16], [50, 1, 2, 1139, 1064, 1065, 3, 6, 1, 2, 1, 0, 0, 0, 3, 22, 1, 2, 1, 0, 4, 14, 3, 1, 64, 4, 7, 6, 2, 0, 48, 2, 1, 139, 1, 2, 0, 1, 1, 2, 1, 3, 3, 1, 65, 4, 15, 6, 2, 0, 24, 4, 7, 6, 2, 0, 48, 2, 1, 139, 1, 2, 5, 2, 1, 0, 0, 1])], [], [(15, 13, -1, -1), (15, 2, -1, 4583), (15, 12, 0, 24), (13, 2, 0, 4584), (13, 12, 1, 25), (11, 1, 0, 144), (11, 10, 0, 47), (5, 3, -1, -1)])
set_option maxHeartbeats 8000000 in
theorem oo_Mo_ex_1 {kA : Nat → ClassId} : or_ok PRD kA GG o_Mo_ex_1 := by
  refine or_mk fun A ta ws vs hD hth hl => ?_
  intro t0 r0 t1 k1 t2 k2 t3 k3 t4 k4 t5 k5 t6 r6 t7 k7 t8 k8 t9 k9 t10 k10 t11 k11 t12 k12 t13 k13 t14 k14 t15 k15 t16 k16 d0 d1 d2 d3 d4 d5 d6 d7 f0 f1 f2 f3 f4 f5 f6 f7 f8 f9 f10 f11 f12
  replace f0 := shm_106 f0
  replace f1 := shm_14 f1
  replace f2 := shm_12 f2
  replace f3 := shm_38 f3
  rw [show v_iv (n_v vs 7) = 24 from by omega] at f3
  replace f4 := shm_12 f4
  replace f5 := shm_38 f5
  rw [show v_iv (n_v vs 8) = 48 from by omega] at f5
  replace f6 := shm_668 f6
  replace f7 := shm_1386 f7
  replace f8 := shm_40 f8
  replace f9 := shm_14 f9
  replace f10 := shm_670 f10
  replace f11 := shm_154 f11
  replace f12 := shm_1385 f12
  have cr_0_2 := fdq_12 hD hth r0
  have cr_0_62 := fdq_172 hD hth r0
  have cr_0_64 := fdq_170 hD hth r0
  have cr_0_65 := fdq_286 hD hth r0
  have ad_6 : v_ad (n_v vs 6) = w_ar ws (n_v vs 0) 65 := congrArg v_ad f7
  simp only [ad_6] at f0
  have h0 : v_iv (n_v vs 16) = w_ei ws (w_ar ws (n_v vs 0) 65) (v_iv (n_v vs 15)) := f0
  have g6 : v_iv (n_v vs 9) = w_fi ws (n_v vs 0) 139 := congrArg v_iv f6
  have br_0_65_15_0 : w_ei ws (w_ar ws (n_v vs 0) 65) (v_iv (n_v vs 15)) = w_el ws (w_ar ws (n_v vs 0) 65) (v_iv (n_v vs 15)).toNat := rfl
  have hK_0_62 := elq_99 hD hth cr_0_62
  have hK_0_64 := elq_98 hD hth cr_0_64
  have hK_0_65 := elq_182 hD hth cr_0_65
  have kz_0_139 := fdq_171 hD hth r0
  first | have hP0 : w_ei ws (w_ar ws (n_v vs 0) 2) (((w_fi ws (n_v vs 0) 5 + 315) + v_iv (n_v vs 1))) = w_ei ws (w_ar ws (n_v vs 0) 2) (((w_fi ws (n_v vs 0) 5 + 267) + v_iv (n_v vs 1))) := congrArg _ (show (((w_fi ws (n_v vs 0) 5 + 315) + v_iv (n_v vs 1)) : Int) = ((w_fi ws (n_v vs 0) 5 + 267) + v_iv (n_v vs 1)) from by omega) | (have hN : (((w_fi ws (n_v vs 0) 5 + 315) + v_iv (n_v vs 1)) : Int) ≠ ((w_fi ws (n_v vs 0) 5 + 267) + v_iv (n_v vs 1)) := by omega; clear hN) | have hP0 : (((w_fi ws (n_v vs 0) 5 + 315) + v_iv (n_v vs 1)) : Int) = ((w_fi ws (n_v vs 0) 5 + 267) + v_iv (n_v vs 1)) → w_ei ws (w_ar ws (n_v vs 0) 2) (((w_fi ws (n_v vs 0) 5 + 315) + v_iv (n_v vs 1))) = w_ei ws (w_ar ws (n_v vs 0) 2) (((w_fi ws (n_v vs 0) 5 + 267) + v_iv (n_v vs 1))) := fun h => congrArg _ h
  first | have hP1 : w_ei ws (w_ar ws (n_v vs 0) 62) (((24 * w_fi ws (n_v vs 0) 139) + w_ei ws (w_ar ws (n_v vs 0) 2) (((w_fi ws (n_v vs 0) 5 + 315) + v_iv (n_v vs 1))))) = w_ei ws (w_ar ws (n_v vs 0) 62) (((24 * w_fi ws (n_v vs 0) 139) + w_ei ws (w_ar ws (n_v vs 0) 2) (((w_fi ws (n_v vs 0) 5 + 267) + v_iv (n_v vs 1))))) := congrArg _ (show (((24 * w_fi ws (n_v vs 0) 139) + w_ei ws (w_ar ws (n_v vs 0) 2) (((w_fi ws (n_v vs 0) 5 + 315) + v_iv (n_v vs 1)))) : Int) = ((24 * w_fi ws (n_v vs 0) 139) + w_ei ws (w_ar ws (n_v vs 0) 2) (((w_fi ws (n_v vs 0) 5 + 267) + v_iv (n_v vs 1)))) from by omega) | (have hN : (((24 * w_fi ws (n_v vs 0) 139) + w_ei ws (w_ar ws (n_v vs 0) 2) (((w_fi ws (n_v vs 0) 5 + 315) + v_iv (n_v vs 1)))) : Int) ≠ ((24 * w_fi ws (n_v vs 0) 139) + w_ei ws (w_ar ws (n_v vs 0) 2) (((w_fi ws (n_v vs 0) 5 + 267) + v_iv (n_v vs 1)))) := by omega; clear hN) | have hP1 : (((24 * w_fi ws (n_v vs 0) 139) + w_ei ws (w_ar ws (n_v vs 0) 2) (((w_fi ws (n_v vs 0) 5 + 315) + v_iv (n_v vs 1)))) : Int) = ((24 * w_fi ws (n_v vs 0) 139) + w_ei ws (w_ar ws (n_v vs 0) 2) (((w_fi ws (n_v vs 0) 5 + 267) + v_iv (n_v vs 1)))) → w_ei ws (w_ar ws (n_v vs 0) 62) (((24 * w_fi ws (n_v vs 0) 139) + w_ei ws (w_ar ws (n_v vs 0) 2) (((w_fi ws (n_v vs 0) 5 + 315) + v_iv (n_v vs 1))))) = w_ei ws (w_ar ws (n_v vs 0) 62) (((24 * w_fi ws (n_v vs 0) 139) + w_ei ws (w_ar ws (n_v vs 0) 2) (((w_fi ws (n_v vs 0) 5 + 267) + v_iv (n_v vs 1))))) := fun h => congrArg _ h
  first | have hP2 : w_ei ws (w_ar ws (n_v vs 0) 65) (v_iv (n_v vs 15)) = w_ei ws (w_ar ws (n_v vs 0) 65) (((24 * ((48 * w_fi ws (n_v vs 0) 139) + v_iv (n_v vs 1))) + (v_iv (n_v vs 2) - 1))) := congrArg _ (show (v_iv (n_v vs 15) : Int) = ((24 * ((48 * w_fi ws (n_v vs 0) 139) + v_iv (n_v vs 1))) + (v_iv (n_v vs 2) - 1)) from by omega) | (have hN : (v_iv (n_v vs 15) : Int) ≠ ((24 * ((48 * w_fi ws (n_v vs 0) 139) + v_iv (n_v vs 1))) + (v_iv (n_v vs 2) - 1)) := by omega; clear hN) | have hP2 : (v_iv (n_v vs 15) : Int) = ((24 * ((48 * w_fi ws (n_v vs 0) 139) + v_iv (n_v vs 1))) + (v_iv (n_v vs 2) - 1)) → w_ei ws (w_ar ws (n_v vs 0) 65) (v_iv (n_v vs 15)) = w_ei ws (w_ar ws (n_v vs 0) 65) (((24 * ((48 * w_fi ws (n_v vs 0) 139) + v_iv (n_v vs 1))) + (v_iv (n_v vs 2) - 1))) := fun h => congrArg _ h
  have nf0 : fc_1 PRD (20, [2, 16, 0, 1], [50, 2, 2, 2139, 2005, 2062, 2002, 4, 6, 1, 2, 1, 0, 0, 0, 1, 2, 1, 1, 3, 2, 62, 4, 7, 6, 2, 0, 24, 2, 2, 139, 3, 2, 2, 4, 7, 4, 3, 2, 2, 5, 0, 267, 1, 3]) ws (vs) := by
    refine ⟨nf_in hl rfl, sgq_1387 ?_⟩
    · show (v_iv (n_v vs 2) = 0) → (v_iv (n_v vs 16) = w_ei ws (w_ar ws (n_v vs 0) 62) (((24 * w_fi ws (n_v vs 0) 139) + w_ei ws (w_ar ws (n_v vs 0) 2) (((w_fi ws (n_v vs 0) 5 + 267) + v_iv (n_v vs 1))))))
      first | omega | grind
  have nf1 : fc_1 PRD (20, [2, 0, 1, 16], [50, 2, 3, 1139, 1005, 1064, 1062, 1002, 4, 22, 1, 2, 1, 0, 4, 14, 3, 1, 64, 4, 7, 6, 2, 0, 48, 2, 1, 139, 1, 2, 0, 1, 1, 2, 1, 3, 3, 1, 62, 4, 7, 6, 2, 0, 24, 2, 1, 139, 3, 1, 2, 4, 7, 4, 3, 2, 1, 5, 0, 315, 1, 2]) ws (vs) := by
    refine ⟨nf_in hl rfl, sgq_1388 ?_⟩
    · show (v_iv (n_v vs 2) = (w_ei ws (w_ar ws (n_v vs 0) 64) (((48 * w_fi ws (n_v vs 0) 139) + v_iv (n_v vs 1))) + 1)) → (v_iv (n_v vs 16) = w_ei ws (w_ar ws (n_v vs 0) 62) (((24 * w_fi ws (n_v vs 0) 139) + w_ei ws (w_ar ws (n_v vs 0) 2) (((w_fi ws (n_v vs 0) 5 + 315) + v_iv (n_v vs 1))))))
      first | omega | grind
  have nf2 : fc_1 PRD (20, [2, 0, 1, 16], [50, 1, 2, 1139, 1064, 1065, 3, 6, 1, 2, 1, 0, 0, 0, 3, 22, 1, 2, 1, 0, 4, 14, 3, 1, 64, 4, 7, 6, 2, 0, 48, 2, 1, 139, 1, 2, 0, 1, 1, 2, 1, 3, 3, 1, 65, 4, 15, 6, 2, 0, 24, 4, 7, 6, 2, 0, 48, 2, 1, 139, 1, 2, 5, 2, 1, 0, 0, 1]) ws (vs) := by
    refine ⟨nf_in hl rfl, sgq_1389 ?_⟩
    · show (v_iv (n_v vs 2) = 0) ∨ ((v_iv (n_v vs 2) = (w_ei ws (w_ar ws (n_v vs 0) 64) (((48 * w_fi ws (n_v vs 0) 139) + v_iv (n_v vs 1))) + 1)) ∨ (v_iv (n_v vs 16) = w_ei ws (w_ar ws (n_v vs 0) 65) (((24 * ((48 * w_fi ws (n_v vs 0) 139) + v_iv (n_v vs 1))) + (v_iv (n_v vs 2) - 1)))))
      first | omega | grind
  refine ⟨(fun _ h => (by cases h)), [], trivial, ?_, (fun _ h => (by cases h))⟩
  rw [List.append_nil]
  exact List.forall_mem_cons.mpr ⟨⟨show (20 : Nat) < 100 from by decide, nf0⟩, List.forall_mem_cons.mpr ⟨⟨show (20 : Nat) < 100 from by decide, nf1⟩, List.forall_mem_cons.mpr ⟨⟨show (20 : Nat) < 100 from by decide, nf2⟩, (fun _ h => (by cases h))⟩⟩⟩
def o_Mo_ex_2 : or_T := (60, 8, [(0, (2, 0, 0, [165])), (1, (0, 0, 47, [])), (2, (0, 1, 25, [])), (3, (0, 2, 26, [])), (4, (0, 1, 1, [])), (5, (0, 1, 25, [])), (6, (0, 0, 23, [])), (7, (0, -300000000, 300000000, []))], [(20, [7, 0, 6], [50, 1, 1, 1139, 1062, 1, 2, 1, 0, 3, 1, 62, 4, 7, 6, 2, 0, 24, 2, 1, 139, 1, 2]), (20, [6, 0, 1], [50, 1, 1, 1005, 1002, 1, 2, 1, 0, 3, 1, 2, 4, 7, 4, 3, 2, 1, 5, 0, 315, 1, 2]), (7, [2, 5], [0]), (2, [5, 3, 4], []), (20, [3, 0, 1], [50, 1, 1, 1139, 1064, 1, 2, 1, 0, 4, 14, 3, 1, 64, 4, 7, 6, 2, 0, 48, 2, 1, 139, 1, 2, 0, 2]), (8, [2], [1]), (20, [2, 0, 1], [50, 1, 1, 1139, 1064, 0, 2, 1, 0, 4, 14, 3, 1, 64, 4, 7, 6, 2, 0, 48, 2, 1, 139, 1, 2, 0, 1])], [], [], [(20, [2, 7, 0, 1], [50, 2, 2, 2139, 2005, 2062, 2002, 4, 6, 1, 2, 1, 0, 0, 0, 1, 2, 1, 1, 3, 2, 62, 4, 7, 6, 2, 0, 24, 2, 2, 139, 3, 2, 2, 4, 7, 4, 3, 2, 2, 5, 0, 267, 1, 3]), (20, [2, 0, 1, 7], [50, 2, 3, 1139, 1005, 1064, 1062, 1002, 4, 22, 1, 2, 1, 0, 4, 14, 3, 1, 64, 4, 7, 6, 2, 0, 48, 2, 1, 139, 1, 2, 0, 1, 1, 2, 1, 3, 3, 1, 62, 4, 7, 6, 2, 0, 24, 2, 1, 139, 3, 1, 2, 4, 7, 4, 3, 2, 1, 5, 0, 315, 1, 2]), (20, [2, 0, 1, 7], [50, 1, 2, 1139, 1064, 1065, 3, 6, 1, 2, 1, 0, 0, 0, 3, 22, 1, 2, 1, 0, 4, 14, 3, 1, 64, 4, 7, 6, 2, 0, 48, 2, 1, 139, 1, 2, 0, 1, 1, 2, 1, 3, 3, 1, 65, 4, 15, 6, 2, 0, 24, 4, 7, 6, 2, 0, 48, 2, 1, 139, 1, 2, 5, 2, 1, 0, 0, 1])], [], [(2, 5, 0, 0), (5, 3, -1, -1)])
set_option maxHeartbeats 8000000 in
theorem oo_Mo_ex_2 {kA : Nat → ClassId} : or_ok PRD kA GG o_Mo_ex_2 := by
  refine or_mk fun A ta ws vs hD hth hl => ?_
  intro t0 r0 t1 k1 t2 k2 t3 k3 t4 k4 t5 k5 t6 k6 t7 k7 d0 d1 f0 f1 f2 f3 f4 f5 f6
  replace f0 := shm_685 f0
  replace f1 := shm_591 f1
  replace f2 := shm_37 f2
  replace f3 := shm_14 f3
  replace f4 := shm_670 f4
  replace f5 := shm_154 f5
  replace f6 := shm_1385 f6
  have cr_0_2 := fdq_12 hD hth r0
  have cr_0_62 := fdq_172 hD hth r0
  have cr_0_64 := fdq_170 hD hth r0
  have cr_0_65 := fdq_286 hD hth r0
  have hK_0_62 := elq_99 hD hth cr_0_62
  have hK_0_64 := elq_98 hD hth cr_0_64
  have hK_0_65 := elq_182 hD hth cr_0_65
  have kz_0_139 := fdq_171 hD hth r0
  first | have hP0 : w_ei ws (w_ar ws (n_v vs 0) 2) (((w_fi ws (n_v vs 0) 5 + 267) + v_iv (n_v vs 1))) = w_ei ws (w_ar ws (n_v vs 0) 2) (((w_fi ws (n_v vs 0) 5 + 315) + v_iv (n_v vs 1))) := congrArg _ (show (((w_fi ws (n_v vs 0) 5 + 267) + v_iv (n_v vs 1)) : Int) = ((w_fi ws (n_v vs 0) 5 + 315) + v_iv (n_v vs 1)) from by omega) | (have hN : (((w_fi ws (n_v vs 0) 5 + 267) + v_iv (n_v vs 1)) : Int) ≠ ((w_fi ws (n_v vs 0) 5 + 315) + v_iv (n_v vs 1)) := by omega; clear hN) | have hP0 : (((w_fi ws (n_v vs 0) 5 + 267) + v_iv (n_v vs 1)) : Int) = ((w_fi ws (n_v vs 0) 5 + 315) + v_iv (n_v vs 1)) → w_ei ws (w_ar ws (n_v vs 0) 2) (((w_fi ws (n_v vs 0) 5 + 267) + v_iv (n_v vs 1))) = w_ei ws (w_ar ws (n_v vs 0) 2) (((w_fi ws (n_v vs 0) 5 + 315) + v_iv (n_v vs 1))) := fun h => congrArg _ h
  first | have hP1 : w_ei ws (w_ar ws (n_v vs 0) 62) (((24 * w_fi ws (n_v vs 0) 139) + w_ei ws (w_ar ws (n_v vs 0) 2) (((w_fi ws (n_v vs 0) 5 + 267) + v_iv (n_v vs 1))))) = w_ei ws (w_ar ws (n_v vs 0) 62) (((24 * w_fi ws (n_v vs 0) 139) + v_iv (n_v vs 6))) := congrArg _ (show (((24 * w_fi ws (n_v vs 0) 139) + w_ei ws (w_ar ws (n_v vs 0) 2) (((w_fi ws (n_v vs 0) 5 + 267) + v_iv (n_v vs 1)))) : Int) = ((24 * w_fi ws (n_v vs 0) 139) + v_iv (n_v vs 6)) from by omega) | (have hN : (((24 * w_fi ws (n_v vs 0) 139) + w_ei ws (w_ar ws (n_v vs 0) 2) (((w_fi ws (n_v vs 0) 5 + 267) + v_iv (n_v vs 1)))) : Int) ≠ ((24 * w_fi ws (n_v vs 0) 139) + v_iv (n_v vs 6)) := by omega; clear hN) | have hP1 : (((24 * w_fi ws (n_v vs 0) 139) + w_ei ws (w_ar ws (n_v vs 0) 2) (((w_fi ws (n_v vs 0) 5 + 267) + v_iv (n_v vs 1)))) : Int) = ((24 * w_fi ws (n_v vs 0) 139) + v_iv (n_v vs 6)) → w_ei ws (w_ar ws (n_v vs 0) 62) (((24 * w_fi ws (n_v vs 0) 139) + w_ei ws (w_ar ws (n_v vs 0) 2) (((w_fi ws (n_v vs 0) 5 + 267) + v_iv (n_v vs 1))))) = w_ei ws (w_ar ws (n_v vs 0) 62) (((24 * w_fi ws (n_v vs 0) 139) + v_iv (n_v vs 6))) := fun h => congrArg _ h
  first | have hP2 : w_ei ws (w_ar ws (n_v vs 0) 62) (((24 * w_fi ws (n_v vs 0) 139) + w_ei ws (w_ar ws (n_v vs 0) 2) (((w_fi ws (n_v vs 0) 5 + 315) + v_iv (n_v vs 1))))) = w_ei ws (w_ar ws (n_v vs 0) 62) (((24 * w_fi ws (n_v vs 0) 139) + v_iv (n_v vs 6))) := congrArg _ (show (((24 * w_fi ws (n_v vs 0) 139) + w_ei ws (w_ar ws (n_v vs 0) 2) (((w_fi ws (n_v vs 0) 5 + 315) + v_iv (n_v vs 1)))) : Int) = ((24 * w_fi ws (n_v vs 0) 139) + v_iv (n_v vs 6)) from by omega) | (have hN : (((24 * w_fi ws (n_v vs 0) 139) + w_ei ws (w_ar ws (n_v vs 0) 2) (((w_fi ws (n_v vs 0) 5 + 315) + v_iv (n_v vs 1)))) : Int) ≠ ((24 * w_fi ws (n_v vs 0) 139) + v_iv (n_v vs 6)) := by omega; clear hN) | have hP2 : (((24 * w_fi ws (n_v vs 0) 139) + w_ei ws (w_ar ws (n_v vs 0) 2) (((w_fi ws (n_v vs 0) 5 + 315) + v_iv (n_v vs 1)))) : Int) = ((24 * w_fi ws (n_v vs 0) 139) + v_iv (n_v vs 6)) → w_ei ws (w_ar ws (n_v vs 0) 62) (((24 * w_fi ws (n_v vs 0) 139) + w_ei ws (w_ar ws (n_v vs 0) 2) (((w_fi ws (n_v vs 0) 5 + 315) + v_iv (n_v vs 1))))) = w_ei ws (w_ar ws (n_v vs 0) 62) (((24 * w_fi ws (n_v vs 0) 139) + v_iv (n_v vs 6))) := fun h => congrArg _ h
  first | have hP3 : w_ei ws (w_ar ws (n_v vs 0) 62) (((24 * w_fi ws (n_v vs 0) 139) + w_ei ws (w_ar ws (n_v vs 0) 2) (((w_fi ws (n_v vs 0) 5 + 315) + v_iv (n_v vs 1))))) = w_ei ws (w_ar ws (n_v vs 0) 62) (((24 * w_fi ws (n_v vs 0) 139) + w_ei ws (w_ar ws (n_v vs 0) 2) (((w_fi ws (n_v vs 0) 5 + 267) + v_iv (n_v vs 1))))) := congrArg _ (show (((24 * w_fi ws (n_v vs 0) 139) + w_ei ws (w_ar ws (n_v vs 0) 2) (((w_fi ws (n_v vs 0) 5 + 315) + v_iv (n_v vs 1)))) : Int) = ((24 * w_fi ws (n_v vs 0) 139) + w_ei ws (w_ar ws (n_v vs 0) 2) (((w_fi ws (n_v vs 0) 5 + 267) + v_iv (n_v vs 1)))) from by omega) | (have hN : (((24 * w_fi ws (n_v vs 0) 139) + w_ei ws (w_ar ws (n_v vs 0) 2) (((w_fi ws (n_v vs 0) 5 + 315) + v_iv (n_v vs 1)))) : Int) ≠ ((24 * w_fi ws (n_v vs 0) 139) + w_ei ws (w_ar ws (n_v vs 0) 2) (((w_fi ws (n_v vs 0) 5 + 267) + v_iv (n_v vs 1)))) := by omega; clear hN) | have hP3 : (((24 * w_fi ws (n_v vs 0) 139) + w_ei ws (w_ar ws (n_v vs 0) 2) (((w_fi ws (n_v vs 0) 5 + 315) + v_iv (n_v vs 1)))) : Int) = ((24 * w_fi ws (n_v vs 0) 139) + w_ei ws (w_ar ws (n_v vs 0) 2) (((w_fi ws (n_v vs 0) 5 + 267) + v_iv (n_v vs 1)))) → w_ei ws (w_ar ws (n_v vs 0) 62) (((24 * w_fi ws (n_v vs 0) 139) + w_ei ws (w_ar ws (n_v vs 0) 2) (((w_fi ws (n_v vs 0) 5 + 315) + v_iv (n_v vs 1))))) = w_ei ws (w_ar ws (n_v vs 0) 62) (((24 * w_fi ws (n_v vs 0) 139) + w_ei ws (w_ar ws (n_v vs 0) 2) (((w_fi ws (n_v vs 0) 5 + 267) + v_iv (n_v vs 1))))) := fun h => congrArg _ h
  have nf0 : fc_1 PRD (20, [2, 7, 0, 1], [50, 2, 2, 2139, 2005, 2062, 2002, 4, 6, 1, 2, 1, 0, 0, 0, 1, 2, 1, 1, 3, 2, 62, 4, 7, 6, 2, 0, 24, 2, 2, 139, 3, 2, 2, 4, 7, 4, 3, 2, 2, 5, 0, 267, 1, 3]) ws (vs) := by
    refine ⟨nf_in hl rfl, sgq_1387 ?_⟩
    · show (v_iv (n_v vs 2) = 0) → (v_iv (n_v vs 7) = w_ei ws (w_ar ws (n_v vs 0) 62) (((24 * w_fi ws (n_v vs 0) 139) + w_ei ws (w_ar ws (n_v vs 0) 2) (((w_fi ws (n_v vs 0) 5 + 267) + v_iv (n_v vs 1))))))
      first | omega | grind
  have nf1 : fc_1 PRD (20, [2, 0, 1, 7], [50, 2, 3, 1139, 1005, 1064, 1062, 1002, 4, 22, 1, 2, 1, 0, 4, 14, 3, 1, 64, 4, 7, 6, 2, 0, 48, 2, 1, 139, 1, 2, 0, 1, 1, 2, 1, 3, 3, 1, 62, 4, 7, 6, 2, 0, 24, 2, 1, 139, 3, 1, 2, 4, 7, 4, 3, 2, 1, 5, 0, 315, 1, 2]) ws (vs) := by
    refine ⟨nf_in hl rfl, sgq_1388 ?_⟩
    · show (v_iv (n_v vs 2) = (w_ei ws (w_ar ws (n_v vs 0) 64) (((48 * w_fi ws (n_v vs 0) 139) + v_iv (n_v vs 1))) + 1)) → (v_iv (n_v vs 7) = w_ei ws (w_ar ws (n_v vs 0) 62) (((24 * w_fi ws (n_v vs 0) 139) + w_ei ws (w_ar ws (n_v vs 0) 2) (((w_fi ws (n_v vs 0) 5 + 315) + v_iv (n_v vs 1))))))
      first | omega | grind
  have nf2 : fc_1 PRD (20, [2, 0, 1, 7], [50, 1, 2, 1139, 1064, 1065, 3, 6, 1, 2, 1, 0, 0, 0, 3, 22, 1, 2, 1, 0, 4, 14, 3, 1, 64, 4, 7, 6, 2, 0, 48, 2, 1, 139, 1, 2, 0, 1, 1, 2, 1, 3, 3, 1, 65, 4, 15, 6, 2, 0, 24, 4, 7, 6, 2, 0, 48, 2, 1, 139, 1, 2, 5, 2, 1, 0, 0, 1]) ws (vs) := by
    refine ⟨nf_in hl rfl, sgq_1389 ?_⟩
    · show (v_iv (n_v vs 2) = 0) ∨ ((v_iv (n_v vs 2) = (w_ei ws (w_ar ws (n_v vs 0) 64) (((48 * w_fi ws (n_v vs 0) 139) + v_iv (n_v vs 1))) + 1)) ∨ (v_iv (n_v vs 7) = w_ei ws (w_ar ws (n_v vs 0) 65) (((24 * ((48 * w_fi ws (n_v vs 0) 139) + v_iv (n_v vs 1))) + (v_iv (n_v vs 2) - 1)))))
      first | omega | grind
  refine ⟨(fun _ h => (by cases h)), [], trivial, ?_, (fun _ h => (by cases h))⟩
  rw [List.append_nil]
  exact List.forall_mem_cons.mpr ⟨⟨show (20 : Nat) < 100 from by decide, nf0⟩, List.forall_mem_cons.mpr ⟨⟨show (20 : Nat) < 100 from by decide, nf1⟩, List.forall_mem_cons.mpr ⟨⟨show (20 : Nat) < 100 from by decide, nf2⟩, (fun _ h => (by cases h))⟩⟩⟩
def o_Mo_ex_3 : or_T := (60, 5, [(0, (2, 0, 0, [165])), (1, (0, 0, 47, [])), (2, (0, 0, 0, [])), (3, (0, 0, 23, [])), (4, (0, -300000000, 300000000, []))], [(20, [4, 0, 3], [50, 1, 1, 1139, 1062, 1, 2, 1, 0, 3, 1, 62, 4, 7, 6, 2, 0, 24, 2, 1, 139, 1, 2]), (20, [3, 0, 1], [50, 1, 1, 1005, 1002, 1, 2, 1, 0, 3, 1, 2, 4, 7, 4, 3, 2, 1, 5, 0, 267, 1, 2]), (8, [2], [0]), (20, [2, 0, 1], [50, 1, 1, 1139, 1064, 0, 2, 1, 0, 4, 14, 3, 1, 64, 4, 7, 6, 2, 0, 48, 2, 1, 139, 1, 2, 0, 1])], [], [], [(20, [2, 4, 0, 1], [50, 2, 2, 2139, 2005, 2062, 2002, 4, 6, 1, 2, 1, 0, 0, 0, 1, 2, 1, 1, 3, 2, 62, 4, 7, 6, 2, 0, 24, 2, 2, 139, 3, 2, 2, 4, 7, 4, 3, 2, 2, 5, 0, 267, 1, 3]), (20, [2, 0, 1, 4], [50, 2, 3, 1139, 1005, 1064, 1062, 1002, 4, 22, 1, 2, 1, 0, 4, 14, 3, 1, 64, 4, 7, 6, 2, 0, 48, 2, 1, 139, 1, 2, 0, 1, 1, 2, 1, 3, 3, 1, 62, 4, 7, 6, 2, 0, 24, 2, 1, 139, 3, 1, 2, 4, 7, 4, 3, 2, 1, 5, 0, 315, 1, 2]), (20, [2, 0, 1, 4], [50, 1, 2, 1139, 1064, 1065, 3, 6, 1, 2, 1, 0, 0, 0, 3, 22, 1, 2, 1, 0, 4, 14, 3, 1, 64, 4, 7, 6, 2, 0, 48, 2, 1, 139, 1, 2, 0, 1, 1, 2, 1, 3, 3, 1, 65, 4, 15, 6, 2, 0, 24, 4, 7, 6, 2, 0, 48, 2, 1, 139, 1, 2, 5, 2, 1, 0, 0, 1])], [], [])
set_option maxHeartbeats 8000000 in
theorem oo_Mo_ex_3 {kA : Nat → ClassId} : or_ok PRD kA GG o_Mo_ex_3 := by
  refine or_mk fun A ta ws vs hD hth hl => ?_
  intro t0 r0 t1 k1 t2 k2 t3 k3 t4 k4 f0 f1 f2 f3
  replace f0 := shm_685 f0
  replace f1 := shm_735 f1
  replace f2 := shm_210 f2
  replace f3 := shm_1385 f3
  have cr_0_2 := fdq_12 hD hth r0
  have cr_0_62 := fdq_172 hD hth r0
  have cr_0_64 := fdq_170 hD hth r0
  have cr_0_65 := fdq_286 hD hth r0
  have hK_0_62 := elq_99 hD hth cr_0_62
  have hK_0_64 := elq_98 hD hth cr_0_64
  have hK_0_65 := elq_182 hD hth cr_0_65
  have kz_0_139 := fdq_171 hD hth r0
  first | have hP0 : w_ei ws (w_ar ws (n_v vs 0) 62) (((24 * w_fi ws (n_v vs 0) 139) + w_ei ws (w_ar ws (n_v vs 0) 2) (((w_fi ws (n_v vs 0) 5 + 267) + v_iv (n_v vs 1))))) = w_ei ws (w_ar ws (n_v vs 0) 62) (((24 * w_fi ws (n_v vs 0) 139) + v_iv (n_v vs 3))) := congrArg _ (show (((24 * w_fi ws (n_v vs 0) 139) + w_ei ws (w_ar ws (n_v vs 0) 2) (((w_fi ws (n_v vs 0) 5 + 267) + v_iv (n_v vs 1)))) : Int) = ((24 * w_fi ws (n_v vs 0) 139) + v_iv (n_v vs 3)) from by omega) | (have hN : (((24 * w_fi ws (n_v vs 0) 139) + w_ei ws (w_ar ws (n_v vs 0) 2) (((w_fi ws (n_v vs 0) 5 + 267) + v_iv (n_v vs 1)))) : Int) ≠ ((24 * w_fi ws (n_v vs 0) 139) + v_iv (n_v vs 3)) := by omega; clear hN) | have hP0 : (((24 * w_fi ws (n_v vs 0) 139) + w_ei ws (w_ar ws (n_v vs 0) 2) (((w_fi ws (n_v vs 0) 5 + 267) + v_iv (n_v vs 1)))) : Int) = ((24 * w_fi ws (n_v vs 0) 139) + v_iv (n_v vs 3)) → w_ei ws (w_ar ws (n_v vs 0) 62) (((24 * w_fi ws (n_v vs 0) 139) + w_ei ws (w_ar ws (n_v vs 0) 2) (((w_fi ws (n_v vs 0) 5 + 267) + v_iv (n_v vs 1))))) = w_ei ws (w_ar ws (n_v vs 0) 62) (((24 * w_fi ws (n_v vs 0) 139) + v_iv (n_v vs 3))) := fun h => congrArg _ h
  first | have hP1 : w_ei ws (w_ar ws (n_v vs 0) 2) (((w_fi ws (n_v vs 0) 5 + 315) + v_iv (n_v vs 1))) = w_ei ws (w_ar ws (n_v vs 0) 2) (((w_fi ws (n_v vs 0) 5 + 267) + v_iv (n_v vs 1))) := congrArg _ (show (((w_fi ws (n_v vs 0) 5 + 315) + v_iv (n_v vs 1)) : Int) = ((w_fi ws (n_v vs 0) 5 + 267) + v_iv (n_v vs 1)) from by omega) | (have hN : (((w_fi ws (n_v vs 0) 5 + 315) + v_iv (n_v vs 1)) : Int) ≠ ((w_fi ws (n_v vs 0) 5 + 267) + v_iv (n_v vs 1)) := by omega; clear hN) | have hP1 : (((w_fi ws (n_v vs 0) 5 + 315) + v_iv (n_v vs 1)) : Int) = ((w_fi ws (n_v vs 0) 5 + 267) + v_iv (n_v vs 1)) → w_ei ws (w_ar ws (n_v vs 0) 2) (((w_fi ws (n_v vs 0) 5 + 315) + v_iv (n_v vs 1))) = w_ei ws (w_ar ws (n_v vs 0) 2) (((w_fi ws (n_v vs 0) 5 + 267) + v_iv (n_v vs 1))) := fun h => congrArg _ h
  first | have hP2 : w_ei ws (w_ar ws (n_v vs 0) 62) (((24 * w_fi ws (n_v vs 0) 139) + w_ei ws (w_ar ws (n_v vs 0) 2) (((w_fi ws (n_v vs 0) 5 + 315) + v_iv (n_v vs 1))))) = w_ei ws (w_ar ws (n_v vs 0) 62) (((24 * w_fi ws (n_v vs 0) 139) + v_iv (n_v vs 3))) := congrArg _ (show (((24 * w_fi ws (n_v vs 0) 139) + w_ei ws (w_ar ws (n_v vs 0) 2) (((w_fi ws (n_v vs 0) 5 + 315) + v_iv (n_v vs 1)))) : Int) = ((24 * w_fi ws (n_v vs 0) 139) + v_iv (n_v vs 3)) from by omega) | (have hN : (((24 * w_fi ws (n_v vs 0) 139) + w_ei ws (w_ar ws (n_v vs 0) 2) (((w_fi ws (n_v vs 0) 5 + 315) + v_iv (n_v vs 1)))) : Int) ≠ ((24 * w_fi ws (n_v vs 0) 139) + v_iv (n_v vs 3)) := by omega; clear hN) | have hP2 : (((24 * w_fi ws (n_v vs 0) 139) + w_ei ws (w_ar ws (n_v vs 0) 2) (((w_fi ws (n_v vs 0) 5 + 315) + v_iv (n_v vs 1)))) : Int) = ((24 * w_fi ws (n_v vs 0) 139) + v_iv (n_v vs 3)) → w_ei ws (w_ar ws (n_v vs 0) 62) (((24 * w_fi ws (n_v vs 0) 139) + w_ei ws (w_ar ws (n_v vs 0) 2) (((w_fi ws (n_v vs 0) 5 + 315) + v_iv (n_v vs 1))))) = w_ei ws (w_ar ws (n_v vs 0) 62) (((24 * w_fi ws (n_v vs 0) 139) + v_iv (n_v vs 3))) := fun h => congrArg _ h
  first | have hP3 : w_ei ws (w_ar ws (n_v vs 0) 62) (((24 * w_fi ws (n_v vs 0) 139) + w_ei ws (w_ar ws (n_v vs 0) 2) (((w_fi ws (n_v vs 0) 5 + 315) + v_iv (n_v vs 1))))) = w_ei ws (w_ar ws (n_v vs 0) 62) (((24 * w_fi ws (n_v vs 0) 139) + w_ei ws (w_ar ws (n_v vs 0) 2) (((w_fi ws (n_v vs 0) 5 + 267) + v_iv (n_v vs 1))))) := congrArg _ (show (((24 * w_fi ws (n_v vs 0) 139) + w_ei ws (w_ar ws (n_v vs 0) 2) (((w_fi ws (n_v vs 0) 5 + 315) + v_iv (n_v vs 1)))) : Int) = ((24 * w_fi ws (n_v vs 0) 139) + w_ei ws (w_ar ws (n_v vs 0) 2) (((w_fi ws (n_v vs 0) 5 + 267) + v_iv (n_v vs 1)))) from by omega) | (have hN : (((24 * w_fi ws (n_v vs 0) 139) + w_ei ws (w_ar ws (n_v vs 0) 2) (((w_fi ws (n_v vs 0) 5 + 315) + v_iv (n_v vs 1)))) : Int) ≠ ((24 * w_fi ws (n_v vs 0) 139) + w_ei ws (w_ar ws (n_v vs 0) 2) (((w_fi ws (n_v vs 0) 5 + 267) + v_iv (n_v vs 1)))) := by omega; clear hN) | have hP3 : (((24 * w_fi ws (n_v vs 0) 139) + w_ei ws (w_ar ws (n_v vs 0) 2) (((w_fi ws (n_v vs 0) 5 + 315) + v_iv (n_v vs 1)))) : Int) = ((24 * w_fi ws (n_v vs 0) 139) + w_ei ws (w_ar ws (n_v vs 0) 2) (((w_fi ws (n_v vs 0) 5 + 267) + v_iv (n_v vs 1)))) → w_ei ws (w_ar ws (n_v vs 0) 62) (((24 * w_fi ws (n_v vs 0) 139) + w_ei ws (w_ar ws (n_v vs 0) 2) (((w_fi ws (n_v vs 0) 5 + 315) + v_iv (n_v vs 1))))) = w_ei ws (w_ar ws (n_v vs 0) 62) (((24 * w_fi ws (n_v vs 0) 139) + w_ei ws (w_ar ws (n_v vs 0) 2) (((w_fi ws (n_v vs 0) 5 + 267) + v_iv (n_v vs 1))))) := fun h => congrArg _ h
  have nf0 : fc_1 PRD (20, [2, 4, 0, 1], [50, 2, 2, 2139, 2005, 2062, 2002, 4, 6, 1, 2, 1, 0, 0, 0, 1, 2, 1, 1, 3, 2, 62, 4, 7, 6, 2, 0, 24, 2, 2, 139, 3, 2, 2, 4, 7, 4, 3, 2, 2, 5, 0, 267, 1, 3]) ws (vs) := by
    refine ⟨nf_in hl rfl, sgq_1387 ?_⟩
    · show (v_iv (n_v vs 2) = 0) → (v_iv (n_v vs 4) = w_ei ws (w_ar ws (n_v vs 0) 62) (((24 * w_fi ws (n_v vs 0) 139) + w_ei ws (w_ar ws (n_v vs 0) 2) (((w_fi ws (n_v vs 0) 5 + 267) + v_iv (n_v vs 1))))))
      first | omega | grind
  have nf1 : fc_1 PRD (20, [2, 0, 1, 4], [50, 2, 3, 1139, 1005, 1064, 1062, 1002, 4, 22, 1, 2, 1, 0, 4, 14, 3, 1, 64, 4, 7, 6, 2, 0, 48, 2, 1, 139, 1, 2, 0, 1, 1, 2, 1, 3, 3, 1, 62, 4, 7, 6, 2, 0, 24, 2, 1, 139, 3, 1, 2, 4, 7, 4, 3, 2, 1, 5, 0, 315, 1, 2]) ws (vs) := by
    refine ⟨nf_in hl rfl, sgq_1388 ?_⟩
    · show (v_iv (n_v vs 2) = (w_ei ws (w_ar ws (n_v vs 0) 64) (((48 * w_fi ws (n_v vs 0) 139) + v_iv (n_v vs 1))) + 1)) → (v_iv (n_v vs 4) = w_ei ws (w_ar ws (n_v vs 0) 62) (((24 * w_fi ws (n_v vs 0) 139) + w_ei ws (w_ar ws (n_v vs 0) 2) (((w_fi ws (n_v vs 0) 5 + 315) + v_iv (n_v vs 1))))))
      first | omega | grind
  have nf2 : fc_1 PRD (20, [2, 0, 1, 4], [50, 1, 2, 1139, 1064, 1065, 3, 6, 1, 2, 1, 0, 0, 0, 3, 22, 1, 2, 1, 0, 4, 14, 3, 1, 64, 4, 7, 6, 2, 0, 48, 2, 1, 139, 1, 2, 0, 1, 1, 2, 1, 3, 3, 1, 65, 4, 15, 6, 2, 0, 24, 4, 7, 6, 2, 0, 48, 2, 1, 139, 1, 2, 5, 2, 1, 0, 0, 1]) ws (vs) := by
    refine ⟨nf_in hl rfl, sgq_1389 ?_⟩
    · show (v_iv (n_v vs 2) = 0) ∨ ((v_iv (n_v vs 2) = (w_ei ws (w_ar ws (n_v vs 0) 64) (((48 * w_fi ws (n_v vs 0) 139) + v_iv (n_v vs 1))) + 1)) ∨ (v_iv (n_v vs 4) = w_ei ws (w_ar ws (n_v vs 0) 65) (((24 * ((48 * w_fi ws (n_v vs 0) 139) + v_iv (n_v vs 1))) + (v_iv (n_v vs 2) - 1)))))
      first | omega | grind
  refine ⟨(fun _ h => (by cases h)), [], trivial, ?_, (fun _ h => (by cases h))⟩
  rw [List.append_nil]
  exact List.forall_mem_cons.mpr ⟨⟨show (20 : Nat) < 100 from by decide, nf0⟩, List.forall_mem_cons.mpr ⟨⟨show (20 : Nat) < 100 from by decide, nf1⟩, List.forall_mem_cons.mpr ⟨⟨show (20 : Nat) < 100 from by decide, nf2⟩, (fun _ h => (by cases h))⟩⟩⟩
def n_Mo_ex_an : List an_T := []
def t_Mo_ex_ct : ct_L := [(1, 394, e_Mo_tail), (1, 398, e_Mo_head), (1, 1023, e_Mo_px), (1, 1026, e_Mo_pointsOf)]
set_option maxRecDepth 100000 in
theorem c_Mo_ex {l : Launch} {D : va_G} {kA : Nat → ClassId} (h_Mo_head : ct_ok PRD l D kA GG y_Mo_head z_Mo_head e_Mo_head) (h_Mo_pointsOf : ct_ok PRD l D kA GG y_Mo_pointsOf z_Mo_pointsOf e_Mo_pointsOf) (h_Mo_px : ct_ok PRD l D kA GG y_Mo_px z_Mo_px e_Mo_px) (h_Mo_tail : ct_ok PRD l D kA GG y_Mo_tail z_Mo_tail e_Mo_tail) : ct_ok PRD l D kA GG y_Mo_ex z_Mo_ex e_Mo_ex := chk_all_ok (FT := [(132, 13, 65), (1020, 13, 139)]) (PT := []) (CT := t_Mo_ex_ct) (KT := []) (NT := []) (AN := n_Mo_ex_an) (OT := [o_Mo_ex_0, o_Mo_ex_1, o_Mo_ex_2, o_Mo_ex_3]) 0 200 (List.forall_mem_cons.mpr ⟨oo_Mo_ex_0, List.forall_mem_cons.mpr ⟨oo_Mo_ex_1, List.forall_mem_cons.mpr ⟨oo_Mo_ex_2, List.forall_mem_cons.mpr ⟨oo_Mo_ex_3, List.forall_mem_nil _⟩⟩⟩⟩) (by decide +kernel) ⟨List.forall_mem_cons.mpr ⟨gf_Mo_132, List.forall_mem_cons.mpr ⟨gf_Mo_1020, List.forall_mem_nil _⟩⟩, List.forall_mem_nil _, List.forall_mem_cons.mpr ⟨cl_virtual (y := y_Mo_tail) (ci := 13) rfl rfl ⟨_, _, rfl⟩ (by decide +kernel) h_Mo_tail wm_3045 wm_9 wm_3042 wm_3044 wv_13_8 ⟨by decide, by decide, by decide +kernel⟩ (by decide), List.forall_mem_cons.mpr ⟨cl_virtual (y := y_Mo_head) (ci := 13) rfl rfl ⟨_, _, rfl⟩ (by decide +kernel) h_Mo_head wm_3049 wm_9 wm_3046 wm_3048 wv_13_9 ⟨by decide, by decide, by decide +kernel⟩ (by decide), List.forall_mem_cons.mpr ⟨cl_virtual (y := y_Mo_px) (ci := 13) rfl rfl ⟨_, _, rfl⟩ (by decide +kernel) h_Mo_px wm_3675 wm_9 wm_3672 wm_3674 wv_21_14 ⟨by decide, by decide, by decide +kernel⟩ (by decide), List.forall_mem_cons.mpr ⟨cl_virtual (y := y_Mo_pointsOf) (ci := 13) rfl rfl ⟨_, _, rfl⟩ (by decide +kernel) h_Mo_pointsOf wm_3726 wm_9 wm_3723 wm_3725 wv_22_8 ⟨by decide, by decide, by decide +kernel⟩ (by decide), List.forall_mem_nil _⟩⟩⟩⟩, List.forall_mem_nil _, List.forall_mem_nil _, GG_pl⟩ (by decide +kernel)
def o_Mo_ey_0 : or_T := (59, 16, [(0, (2, 0, 0, [165])), (1, (0, 0, 47, [])), (2, (0, 1, 25, [])), (3, (0, 2, 26, [])), (4, (0, 1, 1, [])), (5, (0, 1, 25, [])), (7, (0, 24, 24, [])), (8, (0, 48, 48, [])), (9, (0, 0, 3, [])), (10, (0, 0, 144, [])), (11, (0, 0, 191, [])), (12, (0, 0, 4584, [])), (13, (0, 1, 4609, [])), (14, (0, 1, 1, [])), (15, (0, 0, 4608, []))], [(2, [15, 13, 14], []), (1, [13, 12, 2], []), (3, [12, 7, 11], []), (1, [11, 10, 1], []), (3, [10, 8, 9], []), (9, [9, 0], [139]), (7, [2, 5], [1]), (2, [5, 3, 4], []), (20, [3, 0, 1], [50, 1, 1, 1139, 1064, 1, 2, 1, 0, 4, 14, 3, 1, 64, 4, 7, 6, 2, 0, 48, 2, 1, 139, 1, 2, 0, 2]), (8, [2], [1]), (20, [2, 0, 1], [50, 1, 1, 1139, 1064, 0, 2, 1, 0, 4, 14, 3, 1, 64, 4, 7, 6, 2, 0, 48, 2, 1, 139, 1, 2, 0, 1])], [(15, (0, 0, 4607, []))], [], [], [], [(15, 13, -1, -1), (15, 2, -1, 4583), (15, 12, 0, 24), (13, 2, 0, 4584), (13, 12, 1, 25), (11, 1, 0, 144), (11, 10, 0, 47), (5, 3, -1, -1)])
set_option maxHeartbeats 8000000 in
theorem oo_Mo_ey_0 {kA : Nat → ClassId} : or_ok PRD kA GG o_Mo_ey_0 := by
  refine or_mk fun A ta ws vs hD hth hl => ?_
  intro t0 r0 t1 k1 t2 k2 t3 k3 t4 k4 t5 k5 t7 k7 t8 k8 t9 k9 t10 k10 t11 k11 t12 k12 t13 k13 t14 k14 t15 k15 d0 d1 d2 d3 d4 d5 d6 d7 f0 f1 f2 f3 f4 f5 f6 f7 f8 f9 f10
  replace f0 := shm_14 f0
  replace f1 := shm_12 f1
  replace f2 := shm_38 f2
  rw [show v_iv (n_v vs 7) = 24 from by omega] at f2
  replace f3 := shm_12 f3
  replace f4 := shm_38 f4
  rw [show v_iv (n_v vs 8) = 48 from by omega] at f4
  replace f5 := shm_668 f5
  replace f6 := shm_40 f6
  replace f7 := shm_14 f7
  replace f8 := shm_670 f8
  replace f9 := shm_154 f9
  replace f10 := shm_1385 f10
  have cr_0_64 := fdq_170 hD hth r0
  have g5 : v_iv (n_v vs 9) = w_fi ws (n_v vs 0) 139 := congrArg v_iv f5
  have hK_0_64 := elq_98 hD hth cr_0_64
  have kz_0_139 := fdq_171 hD hth r0
  have rf15 : tv_ok ta (0, 0, 4607, []) (n_v vs 15) := tv_in t15 (by first | omega | grind) (by first | omega | grind)
  refine ⟨List.forall_mem_cons.mpr ⟨rf15, (fun _ h => (by cases h))⟩, [], trivial, ?_, (fun _ h => (by cases h))⟩
  rw [List.append_nil]
  exact (fun _ h => (by cases h))
def o_Mo_ey_1 : or_T := (60, 17, [(0, (2, 0, 0, [165])), (1, (0, 0, 47, [])), (2, (0, 1, 25, [])), (3, (0, 2, 26, [])), (4, (0, 1, 1, [])), (5, (0, 1, 25, [])), (6, (2, 0, 0, [206])), (7, (0, 24, 24, [])), (8, (0, 48, 48, [])), (9, (0, 0, 3, [])), (10, (0, 0, 144, [])), (11, (0, 0, 191, [])), (12, (0, 0, 4584, [])), (13, (0, 1, 4609, [])), (14, (0, 1, 1, [])), (15, (0, 0, 4607, [])), (16, (0, -900000000, 900000000, []))], [(10, [16, 6, 15], []), (2, [15, 13, 14], []), (1, [13, 12, 2], []), (3, [12, 7, 11], []), (1, [11, 10, 1], []), (3, [10, 8, 9], []), (9, [9, 0], [139]), (9, [6, 0], [66]), (7, [2, 5], [1]), (2, [5, 3, 4], []), (20, [3, 0, 1], [50, 1, 1, 1139, 1064, 1, 2, 1, 0, 4, 14, 3, 1, 64, 4, 7, 6, 2, 0, 48, 2, 1, 139, 1, 2, 0, 2]), (8, [2], [1]), (20, [2, 0, 1], [50, 1, 1, 1139, 1064, 0, 2, 1, 0, 4, 14, 3, 1, 64, 4, 7, 6, 2, 0, 48, 2, 1, 139, 1, 2, 0, 1])], [], [], [(20, [2, 16, 0, 1], [50, 2, 2, 2139, 2005, 2063, 2002, 4, 6, 1, 2, 1, 0, 0, 0, 1, 2, 1, 1, 3, 2, 63, 4, 7, 6, 2, 0, 24, 2, 2, 139, 3, 2, 2, 4, 7, 4, 3, 2, 2, 5, 0, 267, 1, 3]), (20, [2, 0, 1, 16], [50, 2, 3, 1139, 1005, 1064, 1063, 1002, 4, 22, 1, 2, 1, 0, 4, 14, 3, 1, 64, 4, 7, 6, 2, 0, 48, 2, 1, 139, 1, 2, 0, 1, 1, 2, 1, 3, 3, 1, 63, 4, 7, 6, 2, 0, 24, 2, 1, 139, 3, 1, 2, 4, 7, 4, 3, 2, 1, 5, 0, 315, 1, 2]), (20, [2, 0, 1, 16], [50, 1, 2, 1139, 1064, 1066, 3, 6, 1, 2, 1, 0, 0, 0, 3, 22, 1, 2, 1, 0, 4, 14, 3, 1, 64, 4, 7, 6, 2, 0, 48, 2, 1, 139, 1, 2, 0, 1, 1, 2, 1, 3, 3, 1, 66, 4, 15, 6, 2, 0, 24, 4, 7, 6, 2, 0, 48, 2, 1, 139, 1, 2, 5, 2, 1, 0, 0, 1])], [], [(15, 13, -1, -1), (15, 2, -1, 4583), (15, 12, 0, 24), (13, 2, 0, 4584), (13, 12, 1, 25), (11, 1, 0, 144), (11, 10, 0, 47), (5, 3, -1, -1)])
set_option maxHeartbeats 8000000 in
theorem oo_Mo_ey_1 {kA : Nat → ClassId} : or_ok PRD kA GG o_Mo_ey_1 := by
  refine or_mk fun A ta ws vs hD hth hl => ?_
  intro t0 r0 t1 k1 t2 k2 t3 k3 t4 k4 t5 k5 t6 r6 t7 k7 t8 k8 t9 k9 t10 k10 t11 k11 t12 k12 t13 k13 t14 k14 t15 k15 t16 k16 d0 d1 d2 d3 d4 d5 d6 d7 f0 f1 f2 f3 f4 f5 f6 f7 f8 f9 f10 f11 f12
  replace f0 := shm_106 f0
  replace f1 := shm_14 f1
  replace f2 := shm_12 f2
  replace f3 := shm_38 f3
  rw [show v_iv (n_v vs 7) = 24 from by omega] at f3
  replace f4 := shm_12 f4
  replace f5 := shm_38 f5
  rw [show v_iv (n_v vs 8) = 48 from by omega] at f5
  replace f6 := shm_668 f6
  replace f7 := shm_1390 f7
  replace f8 := shm_40 f8
  replace f9 := shm_14 f9
  replace f10 := shm_670 f10
  replace f11 := shm_154 f11
  replace f12 := shm_1385 f12
  have cr_0_2 := fdq_12 hD hth r0
  have cr_0_63 := fdq_173 hD hth r0
  have cr_0_64 := fdq_170 hD hth r0
  have cr_0_66 := fdq_287 hD hth r0
  have ad_6 : v_ad (n_v vs 6) = w_ar ws (n_v vs 0) 66 := congrArg v_ad f7
  simp only [ad_6] at f0
  have h0 : v_iv (n_v vs 16) = w_ei ws (w_ar ws (n_v vs 0) 66) (v_iv (n_v vs 15)) := f0
  have g6 : v_iv (n_v vs 9) = w_fi ws (n_v vs 0) 139 := congrArg v_iv f6
  have br_0_66_15_0 : w_ei ws (w_ar ws (n_v vs 0) 66) (v_iv (n_v vs 15)) = w_el ws (w_ar ws (n_v vs 0) 66) (v_iv (n_v vs 15)).toNat := rfl
  have hK_0_63 := elq_100 hD hth cr_0_63
  have hK_0_64 := elq_98 hD hth cr_0_64
  have hK_0_66 := elq_183 hD hth cr_0_66
  have kz_0_139 := fdq_171 hD hth r0
  first | have hP0 : w_ei ws (w_ar ws (n_v vs 0) 2) (((w_fi ws (n_v vs 0) 5 + 315) + v_iv (n_v vs 1))) = w_ei ws (w_ar ws (n_v vs 0) 2) (((w_fi ws (n_v vs 0) 5 + 267) + v_iv (n_v vs 1))) := congrArg _ (show (((w_fi ws (n_v vs 0) 5 + 315) + v_iv (n_v vs 1)) : Int) = ((w_fi ws (n_v vs 0) 5 + 267) + v_iv (n_v vs 1)) from by omega) | (have hN : (((w_fi ws (n_v vs 0) 5 + 315) + v_iv (n_v vs 1)) : Int) ≠ ((w_fi ws (n_v vs 0) 5 + 267) + v_iv (n_v vs 1)) := by omega; clear hN) | have hP0 : (((w_fi ws (n_v vs 0) 5 + 315) + v_iv (n_v vs 1)) : Int) = ((w_fi ws (n_v vs 0) 5 + 267) + v_iv (n_v vs 1)) → w_ei ws (w_ar ws (n_v vs 0) 2) (((w_fi ws (n_v vs 0) 5 + 315) + v_iv (n_v vs 1))) = w_ei ws (w_ar ws (n_v vs 0) 2) (((w_fi ws (n_v vs 0) 5 + 267) + v_iv (n_v vs 1))) := fun h => congrArg _ h
  first | have hP1 : w_ei ws (w_ar ws (n_v vs 0) 63) (((24 * w_fi ws (n_v vs 0) 139) + w_ei ws (w_ar ws (n_v vs 0) 2) (((w_fi ws (n_v vs 0) 5 + 315) + v_iv (n_v vs 1))))) = w_ei ws (w_ar ws (n_v vs 0) 63) (((24 * w_fi ws (n_v vs 0) 139) + w_ei ws (w_ar ws (n_v vs 0) 2) (((w_fi ws (n_v vs 0) 5 + 267) + v_iv (n_v vs 1))))) := congrArg _ (show (((24 * w_fi ws (n_v vs 0) 139) + w_ei ws (w_ar ws (n_v vs 0) 2) (((w_fi ws (n_v vs 0) 5 + 315) + v_iv (n_v vs 1)))) : Int) = ((24 * w_fi ws (n_v vs 0) 139) + w_ei ws (w_ar ws (n_v vs 0) 2) (((w_fi ws (n_v vs 0) 5 + 267) + v_iv (n_v vs 1)))) from by omega) | (have hN : (((24 * w_fi ws (n_v vs 0) 139) + w_ei ws (w_ar ws (n_v vs 0) 2) (((w_fi ws (n_v vs 0) 5 + 315) + v_iv (n_v vs 1)))) : Int) ≠ ((24 * w_fi ws (n_v vs 0) 139) + w_ei ws (w_ar ws (n_v vs 0) 2) (((w_fi ws (n_v vs 0) 5 + 267) + v_iv (n_v vs 1)))) := by omega; clear hN) | have hP1 : (((24 * w_fi ws (n_v vs 0) 139) + w_ei ws (w_ar ws (n_v vs 0) 2) (((w_fi ws (n_v vs 0) 5 + 315) + v_iv (n_v vs 1)))) : Int) = ((24 * w_fi ws (n_v vs 0) 139) + w_ei ws (w_ar ws (n_v vs 0) 2) (((w_fi ws (n_v vs 0) 5 + 267) + v_iv (n_v vs 1)))) → w_ei ws (w_ar ws (n_v vs 0) 63) (((24 * w_fi ws (n_v vs 0) 139) + w_ei ws (w_ar ws (n_v vs 0) 2) (((w_fi ws (n_v vs 0) 5 + 315) + v_iv (n_v vs 1))))) = w_ei ws (w_ar ws (n_v vs 0) 63) (((24 * w_fi ws (n_v vs 0) 139) + w_ei ws (w_ar ws (n_v vs 0) 2) (((w_fi ws (n_v vs 0) 5 + 267) + v_iv (n_v vs 1))))) := fun h => congrArg _ h
  first | have hP2 : w_ei ws (w_ar ws (n_v vs 0) 66) (v_iv (n_v vs 15)) = w_ei ws (w_ar ws (n_v vs 0) 66) (((24 * ((48 * w_fi ws (n_v vs 0) 139) + v_iv (n_v vs 1))) + (v_iv (n_v vs 2) - 1))) := congrArg _ (show (v_iv (n_v vs 15) : Int) = ((24 * ((48 * w_fi ws (n_v vs 0) 139) + v_iv (n_v vs 1))) + (v_iv (n_v vs 2) - 1)) from by omega) | (have hN : (v_iv (n_v vs 15) : Int) ≠ ((24 * ((48 * w_fi ws (n_v vs 0) 139) + v_iv (n_v vs 1))) + (v_iv (n_v vs 2) - 1)) := by omega; clear hN) | have hP2 : (v_iv (n_v vs 15) : Int) = ((24 * ((48 * w_fi ws (n_v vs 0) 139) + v_iv (n_v vs 1))) + (v_iv (n_v vs 2) - 1)) → w_ei ws (w_ar ws (n_v vs 0) 66) (v_iv (n_v vs 15)) = w_ei ws (w_ar ws (n_v vs 0) 66) (((24 * ((48 * w_fi ws (n_v vs 0) 139) + v_iv (n_v vs 1))) + (v_iv (n_v vs 2) - 1))) := fun h => congrArg _ h
  have nf0 : fc_1 PRD (20, [2, 16, 0, 1], [50, 2, 2, 2139, 2005, 2063, 2002, 4, 6, 1, 2, 1, 0, 0, 0, 1, 2, 1, 1, 3, 2, 63, 4, 7, 6, 2, 0, 24, 2, 2, 139, 3, 2, 2, 4, 7, 4, 3, 2, 2, 5, 0, 267, 1, 3]) ws (vs) := by
    refine ⟨nf_in hl rfl, sgq_1391 ?_⟩
    · show (v_iv (n_v vs 2) = 0) → (v_iv (n_v vs 16) = w_ei ws (w_ar ws (n_v vs 0) 63) (((24 * w_fi ws (n_v vs 0) 139) + w_ei ws (w_ar ws (n_v vs 0) 2) (((w_fi ws (n_v vs 0) 5 + 267) + v_iv (n_v vs 1))))))
      first | omega | grind
  have nf1 : fc_1 PRD (20, [2, 0, 1, 16], [50, 2, 3, 1139, 1005, 1064, 1063, 1002, 4, 22, 1, 2, 1, 0, 4, 14, 3, 1, 64, 4, 7, 6, 2, 0, 48, 2, 1, 139, 1, 2, 0, 1, 1, 2, 1, 3, 3, 1, 63, 4, 7, 6, 2, 0, 24, 2, 1, 139, 3, 1, 2, 4, 7, 4, 3, 2, 1, 5, 0, 315, 1, 2]) ws (vs) := by
    refine ⟨nf_in hl rfl, sgq_1392 ?_⟩
    · show (v_iv (n_v vs 2) = (w_ei ws (w_ar ws (n_v vs 0) 64) (((48 * w_fi ws (n_v vs 0) 139) + v_iv (n_v vs 1))) + 1)) → (v_iv (n_v vs 16) = w_ei ws (w_ar ws (n_v vs 0) 63) (((24 * w_fi ws (n_v vs 0) 139) + w_ei ws (w_ar ws (n_v vs 0) 2) (((w_fi ws (n_v vs 0) 5 + 315) + v_iv (n_v vs 1))))))
      first | omega | grind
  have nf2 : fc_1 PRD (20, [2, 0, 1, 16], [50, 1, 2, 1139, 1064, 1066, 3, 6, 1, 2, 1, 0, 0, 0, 3, 22, 1, 2, 1, 0, 4, 14, 3, 1, 64, 4, 7, 6, 2, 0, 48, 2, 1, 139, 1, 2, 0, 1, 1, 2, 1, 3, 3, 1, 66, 4, 15, 6, 2, 0, 24, 4, 7, 6, 2, 0, 48, 2, 1, 139, 1, 2, 5, 2, 1, 0, 0, 1]) ws (vs) := by
    refine ⟨nf_in hl rfl, sgq_1393 ?_⟩
    · show (v_iv (n_v vs 2) = 0) ∨ ((v_iv (n_v vs 2) = (w_ei ws (w_ar ws (n_v vs 0) 64) (((48 * w_fi ws (n_v vs 0) 139) + v_iv (n_v vs 1))) + 1)) ∨ (v_iv (n_v vs 16) = w_ei ws (w_ar ws (n_v vs 0) 66) (((24 * ((48 * w_fi ws (n_v vs 0) 139) + v_iv (n_v vs 1))) + (v_iv (n_v vs 2) - 1)))))
      first | omega | grind
  refine ⟨(fun _ h => (by cases h)), [], trivial, ?_, (fun _ h => (by cases h))⟩
  rw [List.append_nil]
  exact List.forall_mem_cons.mpr ⟨⟨show (20 : Nat) < 100 from by decide, nf0⟩, List.forall_mem_cons.mpr ⟨⟨show (20 : Nat) < 100 from by decide, nf1⟩, List.forall_mem_cons.mpr ⟨⟨show (20 : Nat) < 100 from by decide, nf2⟩, (fun _ h => (by cases h))⟩⟩⟩
def o_Mo_ey_2 : or_T := (60, 8, [(0, (2, 0, 0, [165])), (1, (0, 0, 47, [])), (2, (0, 1, 25, [])), (3, (0, 2, 26, [])), (4, (0, 1, 1, [])), (5, (0, 1, 25, [])), (6, (0, 0, 23, [])), (7, (0, -300000000, 300000000, []))], [(20, [7, 0, 6], [50, 1, 1, 1139, 1063, 1, 2, 1, 0, 3, 1, 63, 4, 7, 6, 2, 0, 24, 2, 1, 139, 1, 2]), (20, [6, 0, 1], [50, 1, 1, 1005, 1002, 1, 2, 1, 0, 3, 1, 2, 4, 7, 4, 3, 2, 1, 5, 0, 315, 1, 2]), (7, [2, 5], [0]), (2, [5, 3, 4], []), (20, [3, 0, 1], [50, 1, 1, 1139, 1064, 1, 2, 1, 0, 4, 14, 3, 1, 64, 4, 7, 6, 2, 0, 48, 2, 1, 139, 1, 2, 0, 2]), (8, [2], [1]), (20, [2, 0, 1], [50, 1, 1, 1139, 1064, 0, 2, 1, 0, 4, 14, 3, 1, 64, 4, 7, 6, 2, 0, 48, 2, 1, 139, 1, 2, 0, 1])], [], [], [(20, [2, 7, 0, 1], [50, 2, 2, 2139, 2005, 2063, 2002, 4, 6, 1, 2, 1, 0, 0, 0, 1, 2, 1, 1, 3, 2, 63, 4, 7, 6, 2, 0, 24, 2, 2, 139, 3, 2, 2, 4, 7, 4, 3, 2, 2, 5, 0, 267, 1, 3]), (20, [2, 0, 1, 7], [50, 2, 3, 1139, 1005, 1064, 1063, 1002, 4, 22, 1, 2, 1, 0, 4, 14, 3, 1, 64, 4, 7, 6, 2, 0, 48, 2, 1, 139, 1, 2, 0, 1, 1, 2, 1, 3, 3, 1, 63, 4, 7, 6, 2, 0, 24, 2, 1, 139, 3, 1, 2, 4, 7, 4, 3, 2, 1, 5, 0, 315, 1, 2]), (20, [2, 0, 1, 7], [50, 1, 2, 1139, 1064, 1066, 3, 6, 1, 2, 1, 0, 0, 0, 3, 22, 1, 2, 1, 0, 4, 14, 3, 1, 64, 4, 7, 6, 2, 0, 48, 2, 1, 139, 1, 2, 0, 1, 1, 2, 1, 3, 3, 1, 66, 4, 15, 6, 2, 0, 24, 4, 7, 6, 2, 0, 48, 2, 1, 139, 1, 2, 5, 2, 1, 0, 0, 1])], [], [(2, 5, 0, 0), (5, 3, -1, -1)])
set_option maxHeartbeats 8000000 in
theorem oo_Mo_ey_2 {kA : Nat → ClassId} : or_ok PRD kA GG o_Mo_ey_2 := by
  refine or_mk fun A ta ws vs hD hth hl => ?_
  intro t0 r0 t1 k1 t2 k2 t3 k3 t4 k4 t5 k5 t6 k6 t7 k7 d0 d1 f0 f1 f2 f3 f4 f5 f6
  replace f0 := shm_687 f0
  replace f1 := shm_591 f1
  replace f2 := shm_37 f2
  replace f3 := shm_14 f3
  replace f4 := shm_670 f4
  replace f5 := shm_154 f5
  replace f6 := shm_1385 f6
  have cr_0_2 := fdq_12 hD hth r0
  have cr_0_63 := fdq_173 hD hth r0
  have cr_0_64 := fdq_170 hD hth r0
  have cr_0_66 := fdq_287 hD hth r0
  have hK_0_63 := elq_100 hD hth cr_0_63
  have hK_0_64 := elq_98 hD hth cr_0_64
  have hK_0_66 := elq_183 hD hth cr_0_66
  have kz_0_139 := fdq_171 hD hth r0
  first | have hP0 : w_ei ws (w_ar ws (n_v vs 0) 2) (((w_fi ws (n_v vs 0) 5 + 267) + v_iv (n_v vs 1))) = w_ei ws (w_ar ws (n_v vs 0) 2) (((w_fi ws (n_v vs 0) 5 + 315) + v_iv (n_v vs 1))) := congrArg _ (show (((w_fi ws (n_v vs 0) 5 + 267) + v_iv (n_v vs 1)) : Int) = ((w_fi ws (n_v vs 0) 5 + 315) + v_iv (n_v vs 1)) from by omega) | (have hN : (((w_fi ws (n_v vs 0) 5 + 267) + v_iv (n_v vs 1)) : Int) ≠ ((w_fi ws (n_v vs 0) 5 + 315) + v_iv (n_v vs 1)) := by omega; clear hN) | have hP0 : (((w_fi ws (n_v vs 0) 5 + 267) + v_iv (n_v vs 1)) : Int) = ((w_fi ws (n_v vs 0) 5 + 315) + v_iv (n_v vs 1)) → w_ei ws (w_ar ws (n_v vs 0) 2) (((w_fi ws (n_v vs 0) 5 + 267) + v_iv (n_v vs 1))) = w_ei ws (w_ar ws (n_v vs 0) 2) (((w_fi ws (n_v vs 0) 5 + 315) + v_iv (n_v vs 1))) := fun h => congrArg _ h
  first | have hP1 : w_ei ws (w_ar ws (n_v vs 0) 63) (((24 * w_fi ws (n_v vs 0) 139) + w_ei ws (w_ar ws (n_v vs 0) 2) (((w_fi ws (n_v vs 0) 5 + 267) + v_iv (n_v vs 1))))) = w_ei ws (w_ar ws (n_v vs 0) 63) (((24 * w_fi ws (n_v vs 0) 139) + v_iv (n_v vs 6))) := congrArg _ (show (((24 * w_fi ws (n_v vs 0) 139) + w_ei ws (w_ar ws (n_v vs 0) 2) (((w_fi ws (n_v vs 0) 5 + 267) + v_iv (n_v vs 1)))) : Int) = ((24 * w_fi ws (n_v vs 0) 139) + v_iv (n_v vs 6)) from by omega) | (have hN : (((24 * w_fi ws (n_v vs 0) 139) + w_ei ws (w_ar ws (n_v vs 0) 2) (((w_fi ws (n_v vs 0) 5 + 267) + v_iv (n_v vs 1)))) : Int) ≠ ((24 * w_fi ws (n_v vs 0) 139) + v_iv (n_v vs 6)) := by omega; clear hN) | have hP1 : (((24 * w_fi ws (n_v vs 0) 139) + w_ei ws (w_ar ws (n_v vs 0) 2) (((w_fi ws (n_v vs 0) 5 + 267) + v_iv (n_v vs 1)))) : Int) = ((24 * w_fi ws (n_v vs 0) 139) + v_iv (n_v vs 6)) → w_ei ws (w_ar ws (n_v vs 0) 63) (((24 * w_fi ws (n_v vs 0) 139) + w_ei ws (w_ar ws (n_v vs 0) 2) (((w_fi ws (n_v vs 0) 5 + 267) + v_iv (n_v vs 1))))) = w_ei ws (w_ar ws (n_v vs 0) 63) (((24 * w_fi ws (n_v vs 0) 139) + v_iv (n_v vs 6))) := fun h => congrArg _ h
  first | have hP2 : w_ei ws (w_ar ws (n_v vs 0) 63) (((24 * w_fi ws (n_v vs 0) 139) + w_ei ws (w_ar ws (n_v vs 0) 2) (((w_fi ws (n_v vs 0) 5 + 315) + v_iv (n_v vs 1))))) = w_ei ws (w_ar ws (n_v vs 0) 63) (((24 * w_fi ws (n_v vs 0) 139) + v_iv (n_v vs 6))) := congrArg _ (show (((24 * w_fi ws (n_v vs 0) 139) + w_ei ws (w_ar ws (n_v vs 0) 2) (((w_fi ws (n_v vs 0) 5 + 315) + v_iv (n_v vs 1)))) : Int) = ((24 * w_fi ws (n_v vs 0) 139) + v_iv (n_v vs 6)) from by omega) | (have hN : (((24 * w_fi ws (n_v vs 0) 139) + w_ei ws (w_ar ws (n_v vs 0) 2) (((w_fi ws (n_v vs 0) 5 + 315) + v_iv (n_v vs 1)))) : Int) ≠ ((24 * w_fi ws (n_v vs 0) 139) + v_iv (n_v vs 6)) := by omega; clear hN) | have hP2 : (((24 * w_fi ws (n_v vs 0) 139) + w_ei ws (w_ar ws (n_v vs 0) 2) (((w_fi ws (n_v vs 0) 5 + 315) + v_iv (n_v vs 1)))) : Int) = ((24 * w_fi ws (n_v vs 0) 139) + v_iv (n_v vs 6)) → w_ei ws (w_ar ws (n_v vs 0) 63) (((24 * w_fi ws (n_v vs 0) 139) + w_ei ws (w_ar ws (n_v vs 0) 2) (((w_fi ws (n_v vs 0) 5 + 315) + v_iv (n_v vs 1))))) = w_ei ws (w_ar ws (n_v vs 0) 63) (((24 * w_fi ws (n_v vs 0) 139) + v_iv (n_v vs 6))) := fun h => congrArg _ h
  first | have hP3 : w_ei ws (w_ar ws (n_v vs 0) 63) (((24 * w_fi ws (n_v vs 0) 139) + w_ei ws (w_ar ws (n_v vs 0) 2) (((w_fi ws (n_v vs 0) 5 + 315) + v_iv (n_v vs 1))))) = w_ei ws (w_ar ws (n_v vs 0) 63) (((24 * w_fi ws (n_v vs 0) 139) + w_ei ws (w_ar ws (n_v vs 0) 2) (((w_fi ws (n_v vs 0) 5 + 267) + v_iv (n_v vs 1))))) := congrArg _ (show (((24 * w_fi ws (n_v vs 0) 139) + w_ei ws (w_ar ws (n_v vs 0) 2) (((w_fi ws (n_v vs 0) 5 + 315) + v_iv (n_v vs 1)))) : Int) = ((24 * w_fi ws (n_v vs 0) 139) + w_ei ws (w_ar ws (n_v vs 0) 2) (((w_fi ws (n_v vs 0) 5 + 267) + v_iv (n_v vs 1)))) from by omega) | (have hN : (((24 * w_fi ws (n_v vs 0) 139) + w_ei ws (w_ar ws (n_v vs 0) 2) (((w_fi ws (n_v vs 0) 5 + 315) + v_iv (n_v vs 1)))) : Int) ≠ ((24 * w_fi ws (n_v vs 0) 139) + w_ei ws (w_ar ws (n_v vs 0) 2) (((w_fi ws (n_v vs 0) 5 + 267) + v_iv (n_v vs 1)))) := by omega; clear hN) | have hP3 : (((24 * w_fi ws (n_v vs 0) 139) + w_ei ws (w_ar ws (n_v vs 0) 2) (((w_fi ws (n_v vs 0) 5 + 315) + v_iv (n_v vs 1)))) : Int) = ((24 * w_fi ws (n_v vs 0) 139) + w_ei ws (w_ar ws (n_v vs 0) 2) (((w_fi ws (n_v vs 0) 5 + 267) + v_iv (n_v vs 1)))) → w_ei ws (w_ar ws (n_v vs 0) 63) (((24 * w_fi ws (n_v vs 0) 139) + w_ei ws (w_ar ws (n_v vs 0) 2) (((w_fi ws (n_v vs 0) 5 + 315) + v_iv (n_v vs 1))))) = w_ei ws (w_ar ws (n_v vs 0) 63) (((24 * w_fi ws (n_v vs 0) 139) + w_ei ws (w_ar ws (n_v vs 0) 2) (((w_fi ws (n_v vs 0) 5 + 267) + v_iv (n_v vs 1))))) := fun h => congrArg _ h
  have nf0 : fc_1 PRD (20, [2, 7, 0, 1], [50, 2, 2, 2139, 2005, 2063, 2002, 4, 6, 1, 2, 1, 0, 0, 0, 1, 2, 1, 1, 3, 2, 63, 4, 7, 6, 2, 0, 24, 2, 2, 139, 3, 2, 2, 4, 7, 4, 3, 2, 2, 5, 0, 267, 1, 3]) ws (vs) := by
    refine ⟨nf_in hl rfl, sgq_1391 ?_⟩
    · show (v_iv (n_v vs 2) = 0) → (v_iv (n_v vs 7) = w_ei ws (w_ar ws (n_v vs 0) 63) (((24 * w_fi ws (n_v vs 0) 139) + w_ei ws (w_ar ws (n_v vs 0) 2) (((w_fi ws (n_v vs 0) 5 + 267) + v_iv (n_v vs 1))))))
      first | omega | grind
  have nf1 : fc_1 PRD (20, [2, 0, 1, 7], [50, 2, 3, 1139, 1005, 1064, 1063, 1002, 4, 22, 1, 2, 1, 0, 4, 14, 3, 1, 64, 4, 7, 6, 2, 0, 48, 2, 1, 139, 1, 2, 0, 1, 1, 2, 1, 3, 3, 1, 63, 4, 7, 6, 2, 0, 24, 2, 1, 139, 3, 1, 2, 4, 7, 4, 3, 2, 1, 5, 0, 315, 1, 2]) ws (vs) := by
    refine ⟨nf_in hl rfl, sgq_1392 ?_⟩
    · show (v_iv (n_v vs 2) = (w_ei ws (w_ar ws (n_v vs 0) 64) (((48 * w_fi ws (n_v vs 0) 139) + v_iv (n_v vs 1))) + 1)) → (v_iv (n_v vs 7) = w_ei ws (w_ar ws (n_v vs 0) 63) (((24 * w_fi ws (n_v vs 0) 139) + w_ei ws (w_ar ws (n_v vs 0) 2) (((w_fi ws (n_v vs 0) 5 + 315) + v_iv (n_v vs 1))))))
      first | omega | grind
  have nf2 : fc_1 PRD (20, [2, 0, 1, 7], [50, 1, 2, 1139, 1064, 1066, 3, 6, 1, 2, 1, 0, 0, 0, 3, 22, 1, 2, 1, 0, 4, 14, 3, 1, 64, 4, 7, 6, 2, 0, 48, 2, 1, 139, 1, 2, 0, 1, 1, 2, 1, 3, 3, 1, 66, 4, 15, 6, 2, 0, 24, 4, 7, 6, 2, 0, 48, 2, 1, 139, 1, 2, 5, 2, 1, 0, 0, 1]) ws (vs) := by
    refine ⟨nf_in hl rfl, sgq_1393 ?_⟩
    · show (v_iv (n_v vs 2) = 0) ∨ ((v_iv (n_v vs 2) = (w_ei ws (w_ar ws (n_v vs 0) 64) (((48 * w_fi ws (n_v vs 0) 139) + v_iv (n_v vs 1))) + 1)) ∨ (v_iv (n_v vs 7) = w_ei ws (w_ar ws (n_v vs 0) 66) (((24 * ((48 * w_fi ws (n_v vs 0) 139) + v_iv (n_v vs 1))) + (v_iv (n_v vs 2) - 1)))))
      first | omega | grind
  refine ⟨(fun _ h => (by cases h)), [], trivial, ?_, (fun _ h => (by cases h))⟩
  rw [List.append_nil]
  exact List.forall_mem_cons.mpr ⟨⟨show (20 : Nat) < 100 from by decide, nf0⟩, List.forall_mem_cons.mpr ⟨⟨show (20 : Nat) < 100 from by decide, nf1⟩, List.forall_mem_cons.mpr ⟨⟨show (20 : Nat) < 100 from by decide, nf2⟩, (fun _ h => (by cases h))⟩⟩⟩
def o_Mo_ey_3 : or_T := (60, 5, [(0, (2, 0, 0, [165])), (1, (0, 0, 47, [])), (2, (0, 0, 0, [])), (3, (0, 0, 23, [])), (4, (0, -300000000, 300000000, []))], [(20, [4, 0, 3], [50, 1, 1, 1139, 1063, 1, 2, 1, 0, 3, 1, 63, 4, 7, 6, 2, 0, 24, 2, 1, 139, 1, 2]), (20, [3, 0, 1], [50, 1, 1, 1005, 1002, 1, 2, 1, 0, 3, 1, 2, 4, 7, 4, 3, 2, 1, 5, 0, 267, 1, 2]), (8, [2], [0]), (20, [2, 0, 1], [50, 1, 1, 1139, 1064, 0, 2, 1, 0, 4, 14, 3, 1, 64, 4, 7, 6, 2, 0, 48, 2, 1, 139, 1, 2, 0, 1])], [], [], [(20, [2, 4, 0, 1], [50, 2, 2, 2139, 2005, 2063, 2002, 4, 6, 1, 2, 1, 0, 0, 0, 1, 2, 1, 1, 3, 2, 63, 4, 7, 6, 2, 0, 24, 2, 2, 139, 3, 2, 2, 4, 7, 4, 3, 2, 2, 5, 0, 267, 1, 3]), (20, [2, 0, 1, 4], [50, 2, 3, 1139, 1005, 1064, 1063, 1002, 4, 22, 1, 2, 1, 0, 4, 14, 3, 1, 64, 4, 7, 6, 2, 0, 48, 2, 1, 139, 1, 2, 0, 1, 1, 2, 1, 3, 3, 1, 63, 4, 7, 6, 2, 0, 24, 2, 1, 139, 3, 1, 2, 4, 7, 4, 3, 2, 1, 5, 0, 315, 1, 2]), (20, [2, 0, 1, 4], [50, 1, 2, 1139, 1064, 1066, 3, 6, 1, 2, 1, 0, 0, 0, 3, 22, 1, 2, 1, 0, 4, 14, 3, 1, 64, 4, 7, 6, 2, 0, 48, 2, 1, 139, 1, 2, 0, 1, 1, 2, 1, 3, 3, 1, 66, 4, 15, 6, 2, 0, 24, 4, 7, 6, 2, 0, 48, 2, 1, 139, 1, 2, 5, 2, 1, 0, 0, 1])], [], [])
set_option maxHeartbeats 8000000 in
theorem oo_Mo_ey_3 {kA : Nat → ClassId} : or_ok PRD kA GG o_Mo_ey_3 := by
  refine or_mk fun A ta ws vs hD hth hl => ?_
  intro t0 r0 t1 k1 t2 k2 t3 k3 t4 k4 f0 f1 f2 f3
  replace f0 := shm_687 f0
  replace f1 := shm_735 f1
  replace f2 := shm_210 f2
  replace f3 := shm_1385 f3
  have cr_0_2 := fdq_12 hD hth r0
  have cr_0_63 := fdq_173 hD hth r0
  have cr_0_64 := fdq_170 hD hth r0
  have cr_0_66 := fdq_287 hD hth r0
  have hK_0_63 := elq_100 hD hth cr_0_63
  have hK_0_64 := elq_98 hD hth cr_0_64
  have hK_0_66 := elq_183 hD hth cr_0_66
  have kz_0_139 := fdq_171 hD hth r0
  first | have hP0 : w_ei ws (w_ar ws (n_v vs 0) 63) (((24 * w_fi ws (n_v vs 0) 139) + w_ei ws (w_ar ws (n_v vs 0) 2) (((w_fi ws (n_v vs 0) 5 + 267) + v_iv (n_v vs 1))))) = w_ei ws (w_ar ws (n_v vs 0) 63) (((24 * w_fi ws (n_v vs 0) 139) + v_iv (n_v vs 3))) := congrArg _ (show (((24 * w_fi ws (n_v vs 0) 139) + w_ei ws (w_ar ws (n_v vs 0) 2) (((w_fi ws (n_v vs 0) 5 + 267) + v_iv (n_v vs 1)))) : Int) = ((24 * w_fi ws (n_v vs 0) 139) + v_iv (n_v vs 3)) from by omega) | (have hN : (((24 * w_fi ws (n_v vs 0) 139) + w_ei ws (w_ar ws (n_v vs 0) 2) (((w_fi ws (n_v vs 0) 5 + 267) + v_iv (n_v vs 1)))) : Int) ≠ ((24 * w_fi ws (n_v vs 0) 139) + v_iv (n_v vs 3)) := by omega; clear hN) | have hP0 : (((24 * w_fi ws (n_v vs 0) 139) + w_ei ws (w_ar ws (n_v vs 0) 2) (((w_fi ws (n_v vs 0) 5 + 267) + v_iv (n_v vs 1)))) : Int) = ((24 * w_fi ws (n_v vs 0) 139) + v_iv (n_v vs 3)) → w_ei ws (w_ar ws (n_v vs 0) 63) (((24 * w_fi ws (n_v vs 0) 139) + w_ei ws (w_ar ws (n_v vs 0) 2) (((w_fi ws (n_v vs 0) 5 + 267) + v_iv (n_v vs 1))))) = w_ei ws (w_ar ws (n_v vs 0) 63) (((24 * w_fi ws (n_v vs 0) 139) + v_iv (n_v vs 3))) := fun h => congrArg _ h
  first | have hP1 : w_ei ws (w_ar ws (n_v vs 0) 2) (((w_fi ws (n_v vs 0) 5 + 315) + v_iv (n_v vs 1))) = w_ei ws (w_ar ws (n_v vs 0) 2) (((w_fi ws (n_v vs 0) 5 + 267) + v_iv (n_v vs 1))) := congrArg _ (show (((w_fi ws (n_v vs 0) 5 + 315) + v_iv (n_v vs 1)) : Int) = ((w_fi ws (n_v vs 0) 5 + 267) + v_iv (n_v vs 1)) from by omega) | (have hN : (((w_fi ws (n_v vs 0) 5 + 315) + v_iv (n_v vs 1)) : Int) ≠ ((w_fi ws (n_v vs 0) 5 + 267) + v_iv (n_v vs 1)) := by omega; clear hN) | have hP1 : (((w_fi ws (n_v vs 0) 5 + 315) + v_iv (n_v vs 1)) : Int) = ((w_fi ws (n_v vs 0) 5 + 267) + v_iv (n_v vs 1)) → w_ei ws (w_ar ws (n_v vs 0) 2) (((w_fi ws (n_v vs 0) 5 + 315) + v_iv (n_v vs 1))) = w_ei ws (w_ar ws (n_v vs 0) 2) (((w_fi ws (n_v vs 0) 5 + 267) + v_iv (n_v vs 1))) := fun h => congrArg _ h
  first | have hP2 : w_ei ws (w_ar ws (n_v vs 0) 63) (((24 * w_fi ws (n_v vs 0) 139) + w_ei ws (w_ar ws (n_v vs 0) 2) (((w_fi ws (n_v vs 0) 5 + 315) + v_iv (n_v vs 1))))) = w_ei ws (w_ar ws (n_v vs 0) 63) (((24 * w_fi ws (n_v vs 0) 139) + v_iv (n_v vs 3))) := congrArg _ (show (((24 * w_fi ws (n_v vs 0) 139) + w_ei ws (w_ar ws (n_v vs 0) 2) (((w_fi ws (n_v vs 0) 5 + 315) + v_iv (n_v vs 1)))) : Int) = ((24 * w_fi ws (n_v vs 0) 139) + v_iv (n_v vs 3)) from by omega) | (have hN : (((24 * w_fi ws (n_v vs 0) 139) + w_ei ws (w_ar ws (n_v vs 0) 2) (((w_fi ws (n_v vs 0) 5 + 315) + v_iv (n_v vs 1)))) : Int) ≠ ((24 * w_fi ws (n_v vs 0) 139) + v_iv (n_v vs 3)) := by omega; clear hN) | have hP2 : (((24 * w_fi ws (n_v vs 0) 139) + w_ei ws (w_ar ws (n_v vs 0) 2) (((w_fi ws (n_v vs 0) 5 + 315) + v_iv (n_v vs 1)))) : Int) = ((24 * w_fi ws (n_v vs 0) 139) + v_iv (n_v vs 3)) → w_ei ws (w_ar ws (n_v vs 0) 63) (((24 * w_fi ws (n_v vs 0) 139) + w_ei ws (w_ar ws (n_v vs 0) 2) (((w_fi ws (n_v vs 0) 5 + 315) + v_iv (n_v vs 1))))) = w_ei ws (w_ar ws (n_v vs 0) 63) (((24 * w_fi ws (n_v vs 0) 139) + v_iv (n_v vs 3))) := fun h => congrArg _ h
  first | have hP3 : w_ei ws (w_ar ws (n_v vs 0) 63) (((24 * w_fi ws (n_v vs 0) 139) + w_ei ws (w_ar ws (n_v vs 0) 2) (((w_fi ws (n_v vs 0) 5 + 315) + v_iv (n_v vs 1))))) = w_ei ws (w_ar ws (n_v vs 0) 63) (((24 * w_fi ws (n_v vs 0) 139) + w_ei ws (w_ar ws (n_v vs 0) 2) (((w_fi ws (n_v vs 0) 5 + 267) + v_iv (n_v vs 1))))) := congrArg _ (show (((24 * w_fi ws (n_v vs 0) 139) + w_ei ws (w_ar ws (n_v vs 0) 2) (((w_fi ws (n_v vs 0) 5 + 315) + v_iv (n_v vs 1)))) : Int) = ((24 * w_fi ws (n_v vs 0) 139) + w_ei ws (w_ar ws (n_v vs 0) 2) (((w_fi ws (n_v vs 0) 5 + 267) + v_iv (n_v vs 1)))) from by omega) | (have hN : (((24 * w_fi ws (n_v vs 0) 139) + w_ei ws (w_ar ws (n_v vs 0) 2) (((w_fi ws (n_v vs 0) 5 + 315) + v_iv (n_v vs 1)))) : Int) ≠ ((24 * w_fi ws (n_v vs 0) 139) + w_ei ws (w_ar ws (n_v vs 0) 2) (((w_fi ws (n_v vs 0) 5 + 267) + v_iv (n_v vs 1)))) := by omega; clear hN) | have hP3 : (((24 * w_fi ws (n_v vs 0) 139) + w_ei ws (w_ar ws (n_v vs 0) 2) (((w_fi ws (n_v vs 0) 5 + 315) + v_iv (n_v vs 1)))) : Int) = ((24 * w_fi ws (n_v vs 0) 139) + w_ei ws (w_ar ws (n_v vs 0) 2) (((w_fi ws (n_v vs 0) 5 + 267) + v_iv (n_v vs 1)))) → w_ei ws (w_ar ws (n_v vs 0) 63) (((24 * w_fi ws (n_v vs 0) 139) + w_ei ws (w_ar ws (n_v vs 0) 2) (((w_fi ws (n_v vs 0) 5 + 315) + v_iv (n_v vs 1))))) = w_ei ws (w_ar ws (n_v vs 0) 63) (((24 * w_fi ws (n_v vs 0) 139) + w_ei ws (w_ar ws (n_v vs 0) 2) (((w_fi ws (n_v vs 0) 5 + 267) + v_iv (n_v vs 1))))) := fun h => congrArg _ h
  have nf0 : fc_1 PRD (20, [2, 4, 0, 1], [50, 2, 2, 2139, 2005, 2063, 2002, 4, 6, 1, 2, 1, 0, 0, 0, 1, 2, 1, 1, 3, 2, 63, 4, 7, 6, 2, 0, 24, 2, 2, 139, 3, 2, 2, 4, 7, 4, 3, 2, 2, 5, 0, 267, 1, 3]) ws (vs) := by
    refine ⟨nf_in hl rfl, sgq_1391 ?_⟩
    · show (v_iv (n_v vs 2) = 0) → (v_iv (n_v vs 4) = w_ei ws (w_ar ws (n_v vs 0) 63) (((24 * w_fi ws (n_v vs 0) 139) + w_ei ws (w_ar ws (n_v vs 0) 2) (((w_fi ws (n_v vs 0) 5 + 267) + v_iv (n_v vs 1))))))
      first | omega | grind
  have nf1 : fc_1 PRD (20, [2, 0, 1, 4], [50, 2, 3, 1139, 1005, 1064, 1063, 1002, 4, 22, 1, 2, 1, 0, 4, 14, 3, 1, 64, 4, 7, 6, 2, 0, 48, 2, 1, 139, 1, 2, 0, 1, 1, 2, 1, 3, 3, 1, 63, 4, 7, 6, 2, 0, 24, 2, 1, 139, 3, 1, 2, 4, 7, 4, 3, 2, 1, 5, 0, 315, 1, 2]) ws (vs) := by
    refine ⟨nf_in hl rfl, sgq_1392 ?_⟩
    · show (v_iv (n_v vs 2) = (w_ei ws (w_ar ws (n_v vs 0) 64) (((48 * w_fi ws (n_v vs 0) 139) + v_iv (n_v vs 1))) + 1)) → (v_iv (n_v vs 4) = w_ei ws (w_ar ws (n_v vs 0) 63) (((24 * w_fi ws (n_v vs 0) 139) + w_ei ws (w_ar ws (n_v vs 0) 2) (((w_fi ws (n_v vs 0) 5 + 315) + v_iv (n_v vs 1))))))
      first | omega | grind
  have nf2 : fc_1 PRD (20, [2, 0, 1, 4], [50, 1, 2, 1139, 1064, 1066, 3, 6, 1, 2, 1, 0, 0, 0, 3, 22, 1, 2, 1, 0, 4, 14, 3, 1, 64, 4, 7, 6, 2, 0, 48, 2, 1, 139, 1, 2, 0, 1, 1, 2, 1, 3, 3, 1, 66, 4, 15, 6, 2, 0, 24, 4, 7, 6, 2, 0, 48, 2, 1, 139, 1, 2, 5, 2, 1, 0, 0, 1]) ws (vs) := by
    refine ⟨nf_in hl rfl, sgq_1393 ?_⟩
    · show (v_iv (n_v vs 2) = 0) ∨ ((v_iv (n_v vs 2) = (w_ei ws (w_ar ws (n_v vs 0) 64) (((48 * w_fi ws (n_v vs 0) 139) + v_iv (n_v vs 1))) + 1)) ∨ (v_iv (n_v vs 4) = w_ei ws (w_ar ws (n_v vs 0) 66) (((24 * ((48 * w_fi ws (n_v vs 0) 139) + v_iv (n_v vs 1))) + (v_iv (n_v vs 2) - 1)))))
      first | omega | grind
  refine ⟨(fun _ h => (by cases h)), [], trivial, ?_, (fun _ h => (by cases h))⟩
  rw [List.append_nil]
  exact List.forall_mem_cons.mpr ⟨⟨show (20 : Nat) < 100 from by decide, nf0⟩, List.forall_mem_cons.mpr ⟨⟨show (20 : Nat) < 100 from by decide, nf1⟩, List.forall_mem_cons.mpr ⟨⟨show (20 : Nat) < 100 from by decide, nf2⟩, (fun _ h => (by cases h))⟩⟩⟩
def n_Mo_ey_an : List an_T := []
def t_Mo_ey_ct : ct_L := [(1, 394, e_Mo_tail), (1, 398, e_Mo_head), (1, 1026, e_Mo_pointsOf), (1, 1029, e_Mo_py)]
set_option maxRecDepth 100000 in
theorem c_Mo_ey {l : Launch} {D : va_G} {kA : Nat → ClassId} (h_Mo_head : ct_ok PRD l D kA GG y_Mo_head z_Mo_head e_Mo_head) (h_Mo_pointsOf : ct_ok PRD l D kA GG y_Mo_pointsOf z_Mo_pointsOf e_Mo_pointsOf) (h_Mo_py : ct_ok PRD l D kA GG y_Mo_py z_Mo_py e_Mo_py) (h_Mo_tail : ct_ok PRD l D kA GG y_Mo_tail z_Mo_tail e_Mo_tail) : ct_ok PRD l D kA GG y_Mo_ey z_Mo_ey e_Mo_ey := chk_all_ok (FT := [(135, 13, 66), (1020, 13, 139)]) (PT := []) (CT := t_Mo_ey_ct) (KT := []) (NT := []) (AN := n_Mo_ey_an) (OT := [o_Mo_ey_0, o_Mo_ey_1, o_Mo_ey_2, o_Mo_ey_3]) 0 200 (List.forall_mem_cons.mpr ⟨oo_Mo_ey_0, List.forall_mem_cons.mpr ⟨oo_Mo_ey_1, List.forall_mem_cons.mpr ⟨oo_Mo_ey_2, List.forall_mem_cons.mpr ⟨oo_Mo_ey_3, List.forall_mem_nil _⟩⟩⟩⟩) (by decide +kernel) ⟨List.forall_mem_cons.mpr ⟨gf_Mo_135, List.forall_mem_cons.mpr ⟨gf_Mo_1020, List.forall_mem_nil _⟩⟩, List.forall_mem_nil _, List.forall_mem_cons.mpr ⟨cl_virtual (y := y_Mo_tail) (ci := 13) rfl rfl ⟨_, _, rfl⟩ (by decide +kernel) h_Mo_tail wm_3045 wm_9 wm_3042 wm_3044 wv_13_8 ⟨by decide, by decide, by decide +kernel⟩ (by decide), List.forall_mem_cons.mpr ⟨cl_virtual (y := y_Mo_head) (ci := 13) rfl rfl ⟨_, _, rfl⟩ (by decide +kernel) h_Mo_head wm_3049 wm_9 wm_3046 wm_3048 wv_13_9 ⟨by decide, by decide, by decide +kernel⟩ (by decide), List.forall_mem_cons.mpr ⟨cl_virtual (y := y_Mo_pointsOf) (ci := 13) rfl rfl ⟨_, _, rfl⟩ (by decide +kernel) h_Mo_pointsOf wm_3726 wm_9 wm_3723 wm_3725 wv_22_8 ⟨by decide, by decide, by decide +kernel⟩ (by decide), List.forall_mem_cons.mpr ⟨cl_virtual (y := y_Mo_py) (ci := 13) rfl rfl ⟨_, _, rfl⟩ (by decide +kernel) h_Mo_py wm_3679 wm_9 wm_3676 wm_3678 wv_21_15 ⟨by decide, by decide, by decide +kernel⟩ (by decide), List.forall_mem_nil _⟩⟩⟩⟩, List.forall_mem_nil _, List.forall_mem_nil _, GG_pl⟩ (by decide +kernel)
set_option maxHeartbeats 4000000 in
theorem vc_Mo_isDrawn_0_0 (x1 : Int) (x3 : Int) (now_0 : Int → Int) (r_0 : Int) (k1 : (-2147483648) ≤ x1 ∧ x1 ≤ (-1)) (k3 : 0 ≤ x3 ∧ x3 ≤ 0) : (x3 = 1) → ((0 ≤ x1) ∧ ((x1 ≤ 3) ∧ (r_0 = ((16709 * x1) + (539 * now_0 (x1)))))) := by
  omega
def o_Mo_isDrawn_0 : or_T := (17, 4, [(0, (2, 0, 0, [165])), (1, (0, -2147483648, -1, [])), (3, (0, 0, 0, []))], [], [], [], [(20, [3, 1, 0], [50, 1, 1, 2005, 2003, 4, 6, 1, 2, 1, 0, 0, 1, 2, 6, 0, 2, 0, 0, 1, 1, 2, 6, 0, 2, 1, 1, 0, 3, 1, 3, 2, 2, 5, 4, 6, 6, 2, 0, 16709, 1, 1, 6, 2, 0, 539, 3, 2, 3, 1, 1])], [], [])
theorem oo_Mo_isDrawn_0 {kA : Nat → ClassId} : or_ok PRD kA GG o_Mo_isDrawn_0 := by
  refine or_mk fun A ta ws vs hD hth hl => ?_
  intro t0 r0 t1 k1 t3 k3
  have nf0 : fc_1 PRD (20, [3, 1, 0], [50, 1, 1, 2005, 2003, 4, 6, 1, 2, 1, 0, 0, 1, 2, 6, 0, 2, 0, 0, 1, 1, 2, 6, 0, 2, 1, 1, 0, 3, 1, 3, 2, 2, 5, 4, 6, 6, 2, 0, 16709, 1, 1, 6, 2, 0, 539, 3, 2, 3, 1, 1]) ws (vs) := ⟨nf_in hl rfl, sgq_1394 (vc_Mo_isDrawn_0_0 (v_iv (n_v vs 1)) (v_iv (n_v vs 3)) (w_ei ws (w_ar ws (n_v vs 0) 3)) (w_fi ws (n_v vs 0) 5) k1 k3)⟩
  refine ⟨(fun _ h => (by cases h)), [], trivial, ?_, (fun _ h => (by cases h))⟩
  rw [List.append_nil]
  exact List.forall_mem_cons.mpr ⟨⟨show (20 : Nat) < 100 from by decide, nf0⟩, (fun _ h => (by cases h))⟩
set_option maxHeartbeats 4000000 in
theorem vc_Mo_isDrawn_1_0 (x1 : Int) (x3 : Int) (now_0 : Int → Int) (r_0 : Int) (k1 : 4 ≤ x1 ∧ x1 ≤ 2147483647) (k3 : 0 ≤ x3 ∧ x3 ≤ 0) : (x3 = 1) → ((0 ≤ x1) ∧ ((x1 ≤ 3) ∧ (r_0 = ((16709 * x1) + (539 * now_0 (x1)))))) := by
  omega
def o_Mo_isDrawn_1 : or_T := (17, 4, [(0, (2, 0, 0, [165])), (1, (0, 4, 2147483647, [])), (3, (0, 0, 0, []))], [], [], [], [(20, [3, 1, 0], [50, 1, 1, 2005, 2003, 4, 6, 1, 2, 1, 0, 0, 1, 2, 6, 0, 2, 0, 0, 1, 1, 2, 6, 0, 2, 1, 1, 0, 3, 1, 3, 2, 2, 5, 4, 6, 6, 2, 0, 16709, 1, 1, 6, 2, 0, 539, 3, 2, 3, 1, 1])], [], [])
theorem oo_Mo_isDrawn_1 {kA : Nat → ClassId} : or_ok PRD kA GG o_Mo_isDrawn_1 := by
  refine or_mk fun A ta ws vs hD hth hl => ?_
  intro t0 r0 t1 k1 t3 k3
  have nf0 : fc_1 PRD (20, [3, 1, 0], [50, 1, 1, 2005, 2003, 4, 6, 1, 2, 1, 0, 0, 1, 2, 6, 0, 2, 0, 0, 1, 1, 2, 6, 0, 2, 1, 1, 0, 3, 1, 3, 2, 2, 5, 4, 6, 6, 2, 0, 16709, 1, 1, 6, 2, 0, 539, 3, 2, 3, 1, 1]) ws (vs) := ⟨nf_in hl rfl, sgq_1394 (vc_Mo_isDrawn_1_0 (v_iv (n_v vs 1)) (v_iv (n_v vs 3)) (w_ei ws (w_ar ws (n_v vs 0) 3)) (w_fi ws (n_v vs 0) 5) k1 k3)⟩
  refine ⟨(fun _ h => (by cases h)), [], trivial, ?_, (fun _ h => (by cases h))⟩
  rw [List.append_nil]
  exact List.forall_mem_cons.mpr ⟨⟨show (20 : Nat) < 100 from by decide, nf0⟩, (fun _ h => (by cases h))⟩
set_option maxHeartbeats 4000000 in
theorem vc_Mo_isDrawn_2_0 (x1 : Int) (x5 : Int) (now_0 : Int → Int) (r_0 : Int) (now_1 : Int → Int) (r_1 : Int) (k1 : 0 ≤ x1 ∧ x1 ≤ 3) (k5 : 1 ≤ x5 ∧ x5 ≤ 1) (f0 : r_0 = ((16709 * x1) + (539 * now_0 (x1)))) (fe_0_5_1 : r_0 = r_1) (hE_0_3_1 : ∀ j : Int, now_0 j = now_1 j) : (x5 = 1) → ((0 ≤ x1) ∧ ((x1 ≤ 3) ∧ (r_0 = ((16709 * x1) + (539 * now_0 (x1)))))) := by
  subst fe_0_5_1
  have e_hE_0_3_1 := funext hE_0_3_1; subst e_hE_0_3_1
  omega
def o_Mo_isDrawn_2 : or_T := (29, 6, [(1, (0, 0, 3, [])), (5, (0, 1, 1, []))], [(20, [0, 1], [50, 1, 1, 5, 3, 1, 3, 2, 0, 5, 4, 6, 6, 2, 0, 16709, 1, 1, 6, 2, 0, 539, 3, 0, 3, 1, 1]), (101, [0, 1], [139])], [], [], [(20, [5, 1, 0], [50, 1, 1, 2005, 2003, 4, 6, 1, 2, 1, 0, 0, 1, 2, 6, 0, 2, 0, 0, 1, 1, 2, 6, 0, 2, 1, 1, 0, 3, 1, 3, 2, 2, 5, 4, 6, 6, 2, 0, 16709, 1, 1, 6, 2, 0, 539, 3, 2, 3, 1, 1])], [], [])
theorem oo_Mo_isDrawn_2 {kA : Nat → ClassId} : or_ok PRD kA GG o_Mo_isDrawn_2 := by
  refine or_mk fun A ta ws vs hD hth hl => ?_
  intro t1 k1 t5 k5 f0 ta1 w1 le1 s1
  have s1 : (∀ b j, w_el ws b j = w_el w1 b j) ∧ ∀ b j, w_fd ws b j = if b = v_ad (n_v vs 0) ∧ j = 139 then n_v vs 1 else w_fd w1 b j := s1.2
  have fe_0_5_1 : w_fi ws (n_v vs 0) 5 = w_fi w1 (n_v vs 0) 5 := by show v_iv (w_fd _ _ _) = v_iv (w_fd _ _ _); rw [s1.2, if_neg (fun e => absurd e.2 (by decide))]
  have hE_0_3_1 : ∀ j : Int, w_ei ws (w_ar ws (n_v vs 0) 3) j = w_ei w1 (w_ar ws (n_v vs 0) 3) j := fun j => s1.1 _ _
  have nf0 : fc_1 PRD (20, [5, 1, 0], [50, 1, 1, 2005, 2003, 4, 6, 1, 2, 1, 0, 0, 1, 2, 6, 0, 2, 0, 0, 1, 1, 2, 6, 0, 2, 1, 1, 0, 3, 1, 3, 2, 2, 5, 4, 6, 6, 2, 0, 16709, 1, 1, 6, 2, 0, 539, 3, 2, 3, 1, 1]) ws (vs) := ⟨nf_in hl rfl, sgq_1394 (vc_Mo_isDrawn_2_0 (v_iv (n_v vs 1)) (v_iv (n_v vs 5)) (w_ei ws (w_ar ws (n_v vs 0) 3)) (w_fi ws (n_v vs 0) 5) (w_ei w1 (w_ar ws (n_v vs 0) 3)) (w_fi w1 (n_v vs 0) 5) k1 k5 (shm_1007 f0) fe_0_5_1 hE_0_3_1)⟩
  refine ⟨(fun _ h => (by cases h)), [], trivial, ?_, (fun _ h => (by cases h))⟩
  rw [List.append_nil]
  exact List.forall_mem_cons.mpr ⟨⟨show (20 : Nat) < 100 from by decide, nf0⟩, (fun _ h => (by cases h))⟩
set_option maxHeartbeats 4000000 in
theorem vc_Mo_isDrawn_3_0 (x1 : Int) (x5 : Int) (now_0 : Int → Int) (r_0 : Int) (k1 : 0 ≤ x1 ∧ x1 ≤ 3) (k5 : 0 ≤ x5 ∧ x5 ≤ 0) : (x5 = 1) → ((0 ≤ x1) ∧ ((x1 ≤ 3) ∧ (r_0 = ((16709 * x1) + (539 * now_0 (x1)))))) := by
  omega
def o_Mo_isDrawn_3 : or_T := (17, 6, [(1, (0, 0, 3, [])), (5, (0, 0, 0, []))], [], [], [], [(20, [5, 1, 0], [50, 1, 1, 2005, 2003, 4, 6, 1, 2, 1, 0, 0, 1, 2, 6, 0, 2, 0, 0, 1, 1, 2, 6, 0, 2, 1, 1, 0, 3, 1, 3, 2, 2, 5, 4, 6, 6, 2, 0, 16709, 1, 1, 6, 2, 0, 539, 3, 2, 3, 1, 1])], [], [])
theorem oo_Mo_isDrawn_3 {kA : Nat → ClassId} : or_ok PRD kA GG o_Mo_isDrawn_3 := by
  refine or_mk fun A ta ws vs hD hth hl => ?_
  intro t1 k1 t5 k5
  have nf0 : fc_1 PRD (20, [5, 1, 0], [50, 1, 1, 2005, 2003, 4, 6, 1, 2, 1, 0, 0, 1, 2, 6, 0, 2, 0, 0, 1, 1, 2, 6, 0, 2, 1, 1, 0, 3, 1, 3, 2, 2, 5, 4, 6, 6, 2, 0, 16709, 1, 1, 6, 2, 0, 539, 3, 2, 3, 1, 1]) ws (vs) := ⟨nf_in hl rfl, sgq_1394 (vc_Mo_isDrawn_3_0 (v_iv (n_v vs 1)) (v_iv (n_v vs 5)) (w_ei ws (w_ar ws (n_v vs 0) 3)) (w_fi ws (n_v vs 0) 5) k1 k5)⟩
  refine ⟨(fun _ h => (by cases h)), [], trivial, ?_, (fun _ h => (by cases h))⟩
  rw [List.append_nil]
  exact List.forall_mem_cons.mpr ⟨⟨show (20 : Nat) < 100 from by decide, nf0⟩, (fun _ h => (by cases h))⟩
def n_Mo_isDrawn_an : List an_T := []
def t_Mo_isDrawn_ct : ct_L := [(0, 521, e_Mo_isPlace), (1, 527, e_Mo_take)]
set_option maxRecDepth 100000 in
theorem c_Mo_isDrawn {l : Launch} {D : va_G} {kA : Nat → ClassId} (h_Mo_isPlace : ct_ok PRD l D kA GG y_Mo_isPlace z_Mo_isPlace e_Mo_isPlace) (h_Mo_take : ct_ok PRD l D kA GG y_Mo_take z_Mo_take e_Mo_take) : ct_ok PRD l D kA GG y_Mo_isDrawn z_Mo_isDrawn e_Mo_isDrawn := chk_all_ok (FT := [(120, 13, 61)]) (PT := [(1020, 13, 139, .int)]) (CT := t_Mo_isDrawn_ct) (KT := []) (NT := []) (AN := n_Mo_isDrawn_an) (OT := [o_Mo_isDrawn_0, o_Mo_isDrawn_1, o_Mo_isDrawn_2, o_Mo_isDrawn_3]) 0 200 (List.forall_mem_cons.mpr ⟨oo_Mo_isDrawn_0, List.forall_mem_cons.mpr ⟨oo_Mo_isDrawn_1, List.forall_mem_cons.mpr ⟨oo_Mo_isDrawn_2, List.forall_mem_cons.mpr ⟨oo_Mo_isDrawn_3, List.forall_mem_nil _⟩⟩⟩⟩) (by decide +kernel) ⟨List.forall_mem_cons.mpr ⟨gf_Mo_120, List.forall_mem_nil _⟩, List.forall_mem_cons.mpr ⟨pf_Mo_1020, List.forall_mem_nil _⟩, List.forall_mem_cons.mpr ⟨cl_static (y := y_Mo_isPlace) h_Mo_isPlace wm_2978 wm_9 wm_2976 wm_2977 ⟨by decide, by decide, by decide +kernel⟩ (by decide), List.forall_mem_cons.mpr ⟨cl_virtual (y := y_Mo_take) (ci := 13) rfl rfl ⟨_, _, rfl⟩ (by decide +kernel) h_Mo_take wm_3091 wm_9 wm_3088 wm_3090 wv_14_2 ⟨by decide, by decide, by decide +kernel⟩ (by decide), List.forall_mem_nil _⟩⟩, List.forall_mem_nil _, List.forall_mem_nil _, GG_pl⟩ (by decide +kernel)

def o_Mo_next_0 : or_T := (0, 2, [], [], [], [], [(24, [0, 0], [])], [], [])
theorem oo_Mo_next_0 {kA : Nat → ClassId} : or_ok PRD kA GG o_Mo_next_0 := by
  refine or_mk fun A ta ws vs hD hth hl => ?_
  have nf0 : fc_1 PRD (24, [0, 0], []) ws (vs) := by
    refine ⟨nf_in hl rfl, sgq_1 ?_⟩
    · show n_v vs 0 = n_v vs 0
      first | rfl | simp only [true_and]
  refine ⟨(fun _ h => (by cases h)), [], trivial, ?_, (fun _ h => (by cases h))⟩
  rw [List.append_nil]
  exact List.forall_mem_cons.mpr ⟨⟨show (24 : Nat) < 100 from by decide, nf0⟩, (fun _ h => (by cases h))⟩
set_option maxHeartbeats 4000000 in
theorem vc_Mo_next_1_0 (x1 : Int) (x3 : Int) (x9 : Int) (tape_0 : Int → Int) (limit_0 : Int) (pos_1 : Int) (tape_1 : Int → Int) (limit_1 : Int) (pos_0 : Int) (k1 : 0 ≤ x1 ∧ x1 ≤ 2000) (k3 : 0 ≤ x3 ∧ x3 ≤ 1999) (k9 : 1 ≤ x9 ∧ x9 ≤ 2000) (d0 : x3 + 1 ≤ x9 ∧ x9 ≤ x3 + 1) (g7 : x3 = pos_1) (f14 : 1 * x1 + ((-1) * pos_1 + 0) ≤ 0) (fe_0_10_1 : limit_0 = limit_1) (fe_0_11_1 : pos_0 = x9) (hE_0_1_1 : ∀ j : Int, tape_0 j = tape_1 j) (kz_0_10 : 0 ≤ limit_0 ∧ limit_0 ≤ 2000) (kz_0_11 : 0 ≤ pos_0 ∧ pos_0 ≤ 2000) : 1 * x1 + ((-1) * pos_0 + 0) ≤ 0 := by
  subst fe_0_10_1
  have e_hE_0_1_1 := funext hE_0_1_1; subst e_hE_0_1_1
  first | assumption | omega | grind
def o_Mo_next_1 : or_T := (0, 10, [(0, (2, 0, 0, [165])), (1, (0, 0, 2000, [])), (2, (2, 0, 0, [165])), (3, (0, 0, 1999, [])), (4, (0, -1, -1, [])), (5, (0, 32, 32, [])), (6, (0, 10, 10, [])), (7, (0, 10, 10, [])), (8, (0, 1, 1, [])), (9, (0, 1, 2000, []))], [(20, [3, 2, 6], [50, 1, 1, 1010, 1001, 4, 11, 0, 6, 4, 2, 1, 0, 0, 1, 2, 1, 10, 1, 2, 1, 2, 9, 5, 3, 1, 1, 1, 0, 0, 256]), (20, [2, 3, 6], [50, 1, 0, 10, 4, 7, 0, 3, 2, 0, 10, 1, 1, 1, 2, 1, 2, 0, -1]), (20, [3, 2, 4], [50, 1, 1, 1010, 1001, 4, 11, 0, 6, 4, 2, 1, 0, 0, 1, 2, 1, 10, 1, 2, 1, 2, 9, 5, 3, 1, 1, 1, 0, 0, 256]), (20, [2, 3, 4], [50, 1, 0, 10, 4, 7, 0, 3, 2, 0, 10, 1, 1, 1, 2, 1, 2, 0, -1]), (24, [0, 2], []), (101, [2, 9], [11]), (1, [9, 3, 8], []), (9, [3, 2], [11]), (7, [6, 7], [0]), (20, [3, 2, 6], [50, 1, 1, 1010, 1001, 4, 11, 0, 6, 4, 2, 1, 0, 0, 1, 2, 1, 10, 1, 2, 1, 2, 9, 5, 3, 1, 1, 1, 0, 0, 256]), (20, [2, 3, 6], [50, 1, 0, 10, 4, 7, 0, 3, 2, 0, 10, 1, 1, 1, 2, 1, 2, 0, -1]), (7, [4, 5], [1]), (20, [3, 2, 4], [50, 1, 1, 1010, 1001, 4, 11, 0, 6, 4, 2, 1, 0, 0, 1, 2, 1, 10, 1, 2, 1, 2, 9, 5, 3, 1, 1, 1, 0, 0, 256]), (20, [2, 3, 4], [50, 1, 0, 10, 4, 7, 0, 3, 2, 0, 10, 1, 1, 1, 2, 1, 2, 0, -1]), (20, [1, 2], [30, 0, 1, 0, 0, -1, 1, 11])], [], [], [(20, [1, 2], [30, 0, 1, 0, 0, -1, 1, 11])], [], [(9, 3, 1, 1)])
theorem oo_Mo_next_1 {kA : Nat → ClassId} : or_ok PRD kA GG o_Mo_next_1 := by
  refine or_mk fun A ta ws vs hD hth hl => ?_
  intro t0 r0 t1 k1 t2 r2 t3 k3 t4 k4 t5 k5 t6 k6 t7 k7 t8 k8 t9 k9 d0 f0 f1 f2 f3 f4 ta1 w1 le1 s1 f6 f7 f8 f9 f10 f11 f12 f13 f14
  replace f4 := shm_5 f4
  have s1 : (∀ b j, w_el ws b j = w_el w1 b j) ∧ ∀ b j, w_fd ws b j = if b = v_ad (n_v vs 2) ∧ j = 11 then n_v vs 9 else w_fd w1 b j := s1.2
  replace f7 := shm_117 f7
  replace f14 := shm_1395 f14
  have q2 : n_v vs 2 = n_v vs 0 := f4.symm
  rw [q2] at s1
  simp only [q2] at f7 f14
  have g7 : v_iv (n_v vs 3) = w_fi w1 (n_v vs 0) 11 := congrArg v_iv f7
  have fe_0_10_1 : w_fi ws (n_v vs 0) 10 = w_fi w1 (n_v vs 0) 10 := by show v_iv (w_fd _ _ _) = v_iv (w_fd _ _ _); rw [s1.2, if_neg (fun e => absurd e.2 (by decide))]
  have fe_0_11_1 : w_fi ws (n_v vs 0) 11 = v_iv (n_v vs 9) := by show v_iv (w_fd _ _ _) = _; rw [s1.2, if_pos ⟨rfl, rfl⟩]
  have hE_0_1_1 : ∀ j : Int, w_ei ws (w_ar ws (n_v vs 0) 1) j = w_ei w1 (w_ar ws (n_v vs 0) 1) j := fun j => s1.1 _ _
  have kz_0_10 := fdq_50 hD hth r0
  have kz_0_11 := fdq_273 hD hth r0
  have nf0 : fc_1 PRD (20, [1, 2], [30, 0, 1, 0, 0, -1, 1, 11]) ws (vs) := by
    refine ⟨nf_in hl rfl, sgq_1395 ?_⟩
    · show 1 * v_iv (n_v vs 1) + ((-1) * w_fi ws (n_v vs 2) 11 + 0) ≤ 0
      rw [q2]
      exact vc_Mo_next_1_0 (v_iv (n_v vs 1)) (v_iv (n_v vs 3)) (v_iv (n_v vs 9)) (w_ei ws (w_ar ws (n_v vs 0) 1)) (w_fi ws (n_v vs 0) 10) (w_fi w1 (n_v vs 0) 11) (w_ei w1 (w_ar ws (n_v vs 0) 1)) (w_fi w1 (n_v vs 0) 10) (w_fi ws (n_v vs 0) 11) k1 k3 k9 d0 g7 f14 fe_0_10_1 fe_0_11_1 hE_0_1_1 kz_0_10 kz_0_11
  refine ⟨(fun _ h => (by cases h)), [], trivial, ?_, (fun _ h => (by cases h))⟩
  rw [List.append_nil]
  exact List.forall_mem_cons.mpr ⟨⟨show (20 : Nat) < 100 from by decide, nf0⟩, (fun _ h => (by cases h))⟩
set_option maxHeartbeats 4000000 in
theorem vc_Mo_next_2_0 (x1 : Int) (x3 : Int) (x7 : Int) (tape_0 : Int → Int) (limit_0 : Int) (pos_1 : Int) (tape_1 : Int → Int) (limit_1 : Int) (pos_0 : Int) (k1 : 0 ≤ x1 ∧ x1 ≤ 2000) (k3 : 0 ≤ x3 ∧ x3 ≤ 1999) (k7 : 1 ≤ x7 ∧ x7 ≤ 2000) (d0 : x3 + 1 ≤ x7 ∧ x7 ≤ x3 + 1) (g5 : x3 = pos_1) (f9 : 1 * x1 + ((-1) * pos_1 + 0) ≤ 0) (fe_0_10_1 : limit_0 = limit_1) (fe_0_11_1 : pos_0 = x7) (hE_0_1_1 : ∀ j : Int, tape_0 j = tape_1 j) (kz_0_10 : 0 ≤ limit_0 ∧ limit_0 ≤ 2000) (kz_0_11 : 0 ≤ pos_0 ∧ pos_0 ≤ 2000) : 1 * x1 + ((-1) * pos_0 + 0) ≤ 0 := by
  subst fe_0_10_1
  have e_hE_0_1_1 := funext hE_0_1_1; subst e_hE_0_1_1
  first | assumption | omega | grind
def o_Mo_next_2 : or_T := (0, 8, [(0, (2, 0, 0, [165])), (1, (0, 0, 2000, [])), (3, (0, 0, 1999, [])), (7, (0, 1, 2000, []))], [(24, [0, 2], []), (101, [2, 7], [11]), (9, [3, 2], [11]), (20, [1, 2], [30, 0, 1, 0, 0, -1, 1, 11])], [], [], [(20, [1, 2], [30, 0, 1, 0, 0, -1, 1, 11])], [], [(7, 3, 1, 1)])
theorem oo_Mo_next_2 {kA : Nat → ClassId} : or_ok PRD kA GG o_Mo_next_2 := by
  refine or_mk fun A ta ws vs hD hth hl => ?_
  intro t0 r0 t1 k1 t3 k3 t7 k7 d0 f2 ta1 w1 le1 s1 f5 f9
  replace f2 := shm_5 f2
  have s1 : (∀ b j, w_el ws b j = w_el w1 b j) ∧ ∀ b j, w_fd ws b j = if b = v_ad (n_v vs 2) ∧ j = 11 then n_v vs 7 else w_fd w1 b j := s1.2
  replace f5 := shm_117 f5
  replace f9 := shm_1395 f9
  have q2 : n_v vs 2 = n_v vs 0 := f2.symm
  rw [q2] at s1
  simp only [q2] at f5 f9
  have g5 : v_iv (n_v vs 3) = w_fi w1 (n_v vs 0) 11 := congrArg v_iv f5
  have fe_0_10_1 : w_fi ws (n_v vs 0) 10 = w_fi w1 (n_v vs 0) 10 := by show v_iv (w_fd _ _ _) = v_iv (w_fd _ _ _); rw [s1.2, if_neg (fun e => absurd e.2 (by decide))]
  have fe_0_11_1 : w_fi ws (n_v vs 0) 11 = v_iv (n_v vs 7) := by show v_iv (w_fd _ _ _) = _; rw [s1.2, if_pos ⟨rfl, rfl⟩]
  have hE_0_1_1 : ∀ j : Int, w_ei ws (w_ar ws (n_v vs 0) 1) j = w_ei w1 (w_ar ws (n_v vs 0) 1) j := fun j => s1.1 _ _
  have kz_0_10 := fdq_50 hD hth r0
  have kz_0_11 := fdq_273 hD hth r0
  have nf0 : fc_1 PRD (20, [1, 2], [30, 0, 1, 0, 0, -1, 1, 11]) ws (vs) := by
    refine ⟨nf_in hl rfl, sgq_1395 ?_⟩
    · show 1 * v_iv (n_v vs 1) + ((-1) * w_fi ws (n_v vs 2) 11 + 0) ≤ 0
      rw [q2]
      exact vc_Mo_next_2_0 (v_iv (n_v vs 1)) (v_iv (n_v vs 3)) (v_iv (n_v vs 7)) (w_ei ws (w_ar ws (n_v vs 0) 1)) (w_fi ws (n_v vs 0) 10) (w_fi w1 (n_v vs 0) 11) (w_ei w1 (w_ar ws (n_v vs 0) 1)) (w_fi w1 (n_v vs 0) 10) (w_fi ws (n_v vs 0) 11) k1 k3 k7 d0 g5 f9 fe_0_10_1 fe_0_11_1 hE_0_1_1 kz_0_10 kz_0_11
  refine ⟨(fun _ h => (by cases h)), [], trivial, ?_, (fun _ h => (by cases h))⟩
  rw [List.append_nil]
  exact List.forall_mem_cons.mpr ⟨⟨show (20 : Nat) < 100 from by decide, nf0⟩, (fun _ h => (by cases h))⟩
set_option maxHeartbeats 4000000 in
theorem vc_Mo_next_3_0 (x1 : Int) (x3 : Int) (x9 : Int) (tape_0 : Int → Int) (limit_0 : Int) (pos_1 : Int) (tape_1 : Int → Int) (limit_1 : Int) (pos_0 : Int) (k1 : 0 ≤ x1 ∧ x1 ≤ 2000) (k3 : 0 ≤ x3 ∧ x3 ≤ 1999) (k9 : 1 ≤ x9 ∧ x9 ≤ 2000) (d0 : x3 + 1 ≤ x9 ∧ x9 ≤ x3 + 1) (g7 : x3 = pos_1) (f14 : 1 * x1 + ((-1) * pos_1 + 0) ≤ 0) (fe_0_10_1 : limit_0 = limit_1) (fe_0_11_1 : pos_0 = x9) (hE_0_1_1 : ∀ j : Int, tape_0 j = tape_1 j) (kz_0_10 : 0 ≤ limit_0 ∧ limit_0 ≤ 2000) (kz_0_11 : 0 ≤ pos_0 ∧ pos_0 ≤ 2000) : 1 * x1 + ((-1) * pos_0 + 0) ≤ 0 := by
  subst fe_0_10_1
  have e_hE_0_1_1 := funext hE_0_1_1; subst e_hE_0_1_1
  first | assumption | omega | grind
def o_Mo_next_3 : or_T := (0, 10, [(0, (2, 0, 0, [165])), (1, (0, 0, 2000, [])), (2, (2, 0, 0, [165])), (3, (0, 0, 1999, [])), (4, (0, 0, 255, [])), (5, (0, 32, 32, [])), (6, (0, 10, 10, [])), (7, (0, 10, 10, [])), (8, (0, 1, 1, [])), (9, (0, 1, 2000, []))], [(20, [3, 2, 6], [50, 1, 1, 1010, 1001, 4, 11, 0, 6, 4, 2, 1, 0, 0, 1, 2, 1, 10, 1, 2, 1, 2, 9, 5, 3, 1, 1, 1, 0, 0, 256]), (20, [2, 3, 6], [50, 1, 0, 10, 4, 7, 0, 3, 2, 0, 10, 1, 1, 1, 2, 1, 2, 0, -1]), (20, [3, 2, 4], [50, 1, 1, 1010, 1001, 4, 11, 0, 6, 4, 2, 1, 0, 0, 1, 2, 1, 10, 1, 2, 1, 2, 9, 5, 3, 1, 1, 1, 0, 0, 256]), (20, [2, 3, 4], [50, 1, 0, 10, 4, 7, 0, 3, 2, 0, 10, 1, 1, 1, 2, 1, 2, 0, -1]), (24, [0, 2], []), (101, [2, 9], [11]), (1, [9, 3, 8], []), (9, [3, 2], [11]), (7, [6, 7], [0]), (20, [3, 2, 6], [50, 1, 1, 1010, 1001, 4, 11, 0, 6, 4, 2, 1, 0, 0, 1, 2, 1, 10, 1, 2, 1, 2, 9, 5, 3, 1, 1, 1, 0, 0, 256]), (20, [2, 3, 6], [50, 1, 0, 10, 4, 7, 0, 3, 2, 0, 10, 1, 1, 1, 2, 1, 2, 0, -1]), (7, [4, 5], [1]), (20, [3, 2, 4], [50, 1, 1, 1010, 1001, 4, 11, 0, 6, 4, 2, 1, 0, 0, 1, 2, 1, 10, 1, 2, 1, 2, 9, 5, 3, 1, 1, 1, 0, 0, 256]), (20, [2, 3, 4], [50, 1, 0, 10, 4, 7, 0, 3, 2, 0, 10, 1, 1, 1, 2, 1, 2, 0, -1]), (20, [1, 2], [30, 0, 1, 0, 0, -1, 1, 11])], [], [], [(20, [1, 2], [30, 0, 1, 0, 0, -1, 1, 11])], [], [(9, 3, 1, 1)])
theorem oo_Mo_next_3 {kA : Nat → ClassId} : or_ok PRD kA GG o_Mo_next_3 := by
  refine or_mk fun A ta ws vs hD hth hl => ?_
  intro t0 r0 t1 k1 t2 r2 t3 k3 t4 k4 t5 k5 t6 k6 t7 k7 t8 k8 t9 k9 d0 f0 f1 f2 f3 f4 ta1 w1 le1 s1 f6 f7 f8 f9 f10 f11 f12 f13 f14
  replace f4 := shm_5 f4
  have s1 : (∀ b j, w_el ws b j = w_el w1 b j) ∧ ∀ b j, w_fd ws b j = if b = v_ad (n_v vs 2) ∧ j = 11 then n_v vs 9 else w_fd w1 b j := s1.2
  replace f7 := shm_117 f7
  replace f14 := shm_1395 f14
  have q2 : n_v vs 2 = n_v vs 0 := f4.symm
  rw [q2] at s1
  simp only [q2] at f7 f14
  have g7 : v_iv (n_v vs 3) = w_fi w1 (n_v vs 0) 11 := congrArg v_iv f7
  have fe_0_10_1 : w_fi ws (n_v vs 0) 10 = w_fi w1 (n_v vs 0) 10 := by show v_iv (w_fd _ _ _) = v_iv (w_fd _ _ _); rw [s1.2, if_neg (fun e => absurd e.2 (by decide))]
  have fe_0_11_1 : w_fi ws (n_v vs 0) 11 = v_iv (n_v vs 9) := by show v_iv (w_fd _ _ _) = _; rw [s1.2, if_pos ⟨rfl, rfl⟩]
  have hE_0_1_1 : ∀ j : Int, w_ei ws (w_ar ws (n_v vs 0) 1) j = w_ei w1 (w_ar ws (n_v vs 0) 1) j := fun j => s1.1 _ _
  have kz_0_10 := fdq_50 hD hth r0
  have kz_0_11 := fdq_273 hD hth r0
  have nf0 : fc_1 PRD (20, [1, 2], [30, 0, 1, 0, 0, -1, 1, 11]) ws (vs) := by
    refine ⟨nf_in hl rfl, sgq_1395 ?_⟩
    · show 1 * v_iv (n_v vs 1) + ((-1) * w_fi ws (n_v vs 2) 11 + 0) ≤ 0
      rw [q2]
      exact vc_Mo_next_3_0 (v_iv (n_v vs 1)) (v_iv (n_v vs 3)) (v_iv (n_v vs 9)) (w_ei ws (w_ar ws (n_v vs 0) 1)) (w_fi ws (n_v vs 0) 10) (w_fi w1 (n_v vs 0) 11) (w_ei w1 (w_ar ws (n_v vs 0) 1)) (w_fi w1 (n_v vs 0) 10) (w_fi ws (n_v vs 0) 11) k1 k3 k9 d0 g7 f14 fe_0_10_1 fe_0_11_1 hE_0_1_1 kz_0_10 kz_0_11
  refine ⟨(fun _ h => (by cases h)), [], trivial, ?_, (fun _ h => (by cases h))⟩
  rw [List.append_nil]
  exact List.forall_mem_cons.mpr ⟨⟨show (20 : Nat) < 100 from by decide, nf0⟩, (fun _ h => (by cases h))⟩
set_option maxHeartbeats 4000000 in
theorem vc_Mo_next_4_0 (x1 : Int) (x3 : Int) (tape_0 : Int → Int) (limit_0 : Int) (pos_0 : Int) (tape_1 : Int → Int) (limit_1 : Int) (pos_1 : Int) (tape_2 : Int → Int) (limit_2 : Int) (pos_2 : Int) (tape_3 : Int → Int) (limit_3 : Int) (pos_3 : Int) (pos_4 : Int) (pos_5 : Int) (from_0 : Int) (from_1 : Int) (kind_1 : Int) (kind_2 : Int) (from_2 : Int) (from_3 : Int) (limit_4 : Int) (kind_3 : Int) (kind_4 : Int) (tape_4 : Int → Int) (tape_5 : Int → Int) (k1 : 0 ≤ x1 ∧ x1 ≤ 2000) (k3 : 0 ≤ x3 ∧ x3 ≤ 2000) (f2 : 1 * x1 + ((-1) * pos_0 + 0) ≤ 0) (g16 : x3 = pos_3) (fe_0_10_1 : limit_0 = limit_1) (fe_0_11_1 : pos_0 = pos_1) (fe_0_15_1 : from_0 = from_1) (fe_0_10_2 : limit_1 = limit_2) (fe_0_11_2 : pos_1 = pos_2) (fe_0_12_2 : kind_1 = kind_2) (fe_0_15_2 : from_1 = from_2) (fe_0_10_3 : limit_2 = limit_3) (fe_0_11_3 : pos_2 = pos_3) (fe_0_15_3 : from_2 = from_3) (fe_0_10_4 : limit_3 = limit_4) (fe_0_11_4 : pos_3 = pos_4) (fe_0_12_4 : kind_3 = kind_4) (fe_0_15_4 : from_3 = x3) (fe_0_11_5 : pos_4 = pos_5) (hE_0_1_1 : ∀ j : Int, tape_0 j = tape_1 j) (hE_0_1_2 : ∀ j : Int, tape_1 j = tape_2 j) (hE_0_1_3 : ∀ j : Int, tape_2 j = tape_3 j) (hE_0_1_4 : ∀ j : Int, tape_3 j = tape_4 j) (hE_0_1_5 : ∀ j : Int, tape_4 j = tape_5 j) (kz_0_10 : 0 ≤ limit_0 ∧ limit_0 ≤ 2000) (kz_0_11 : 0 ≤ pos_0 ∧ pos_0 ≤ 2000) (kz_0_15 : 0 ≤ from_0 ∧ from_0 ≤ 2000) : 1 * x1 + ((-1) * from_0 + 0) ≤ 0 := by
  subst fe_0_10_1
  subst fe_0_11_1
  subst fe_0_15_1
  subst fe_0_10_2
  subst fe_0_11_2
  subst fe_0_12_2
  subst fe_0_15_2
  subst fe_0_10_3
  subst fe_0_11_3
  subst fe_0_15_3
  subst fe_0_10_4
  subst fe_0_11_4
  subst fe_0_12_4
  subst fe_0_11_5
  have e_hE_0_1_1 := funext hE_0_1_1; subst e_hE_0_1_1
  have e_hE_0_1_2 := funext hE_0_1_2; subst e_hE_0_1_2
  have e_hE_0_1_3 := funext hE_0_1_3; subst e_hE_0_1_3
  have e_hE_0_1_4 := funext hE_0_1_4; subst e_hE_0_1_4
  have e_hE_0_1_5 := funext hE_0_1_5; subst e_hE_0_1_5
  first | assumption | omega | grind
set_option maxHeartbeats 4000000 in
theorem vc_Mo_next_4_1 (x3 : Int) (tape_0 : Int → Int) (limit_0 : Int) (pos_0 : Int) (tape_1 : Int → Int) (limit_1 : Int) (pos_1 : Int) (tape_2 : Int → Int) (limit_2 : Int) (pos_2 : Int) (tape_3 : Int → Int) (limit_3 : Int) (pos_3 : Int) (pos_4 : Int) (pos_5 : Int) (from_0 : Int) (from_1 : Int) (kind_1 : Int) (kind_2 : Int) (from_2 : Int) (from_3 : Int) (limit_4 : Int) (kind_3 : Int) (kind_4 : Int) (tape_4 : Int → Int) (tape_5 : Int → Int) (k3 : 0 ≤ x3 ∧ x3 ≤ 2000) (g16 : x3 = pos_3) (fe_0_10_1 : limit_0 = limit_1) (fe_0_11_1 : pos_0 = pos_1) (fe_0_15_1 : from_0 = from_1) (fe_0_10_2 : limit_1 = limit_2) (fe_0_11_2 : pos_1 = pos_2) (fe_0_12_2 : kind_1 = kind_2) (fe_0_15_2 : from_1 = from_2) (fe_0_10_3 : limit_2 = limit_3) (fe_0_11_3 : pos_2 = pos_3) (fe_0_15_3 : from_2 = from_3) (fe_0_10_4 : limit_3 = limit_4) (fe_0_11_4 : pos_3 = pos_4) (fe_0_12_4 : kind_3 = kind_4) (fe_0_15_4 : from_3 = x3) (fe_0_11_5 : pos_4 = pos_5) (hE_0_1_1 : ∀ j : Int, tape_0 j = tape_1 j) (hE_0_1_2 : ∀ j : Int, tape_1 j = tape_2 j) (hE_0_1_3 : ∀ j : Int, tape_2 j = tape_3 j) (hE_0_1_4 : ∀ j : Int, tape_3 j = tape_4 j) (hE_0_1_5 : ∀ j : Int, tape_4 j = tape_5 j) (kz_0_10 : 0 ≤ limit_0 ∧ limit_0 ≤ 2000) (kz_0_11 : 0 ≤ pos_0 ∧ pos_0 ≤ 2000) (kz_0_15 : 0 ≤ from_0 ∧ from_0 ≤ 2000) : 1 * from_0 + ((-1) * pos_0 + 0) ≤ 0 := by
  subst fe_0_10_1
  subst fe_0_11_1
  subst fe_0_15_1
  subst fe_0_10_2
  subst fe_0_11_2
  subst fe_0_12_2
  subst fe_0_15_2
  subst fe_0_10_3
  subst fe_0_11_3
  subst fe_0_15_3
  subst fe_0_10_4
  subst fe_0_11_4
  subst fe_0_12_4
  subst fe_0_11_5
  have e_hE_0_1_1 := funext hE_0_1_1; subst e_hE_0_1_1
  have e_hE_0_1_2 := funext hE_0_1_2; subst e_hE_0_1_2
  have e_hE_0_1_3 := funext hE_0_1_3; subst e_hE_0_1_3
  have e_hE_0_1_4 := funext hE_0_1_4; subst e_hE_0_1_4
  have e_hE_0_1_5 := funext hE_0_1_5; subst e_hE_0_1_5
  first | assumption | omega | grind
set_option maxHeartbeats 4000000 in
theorem vc_Mo_next_4_2 (x6 : Int) (tape_0 : Int → Int) (limit_0 : Int) (pos_0 : Int) (tape_1 : Int → Int) (limit_1 : Int) (pos_1 : Int) (tape_2 : Int → Int) (limit_2 : Int) (pos_2 : Int) (tape_3 : Int → Int) (limit_3 : Int) (pos_3 : Int) (pos_4 : Int) (pos_5 : Int) (kind_0 : Int) (from_0 : Int) (from_1 : Int) (kind_1 : Int) (kind_2 : Int) (from_2 : Int) (from_3 : Int) (limit_4 : Int) (kind_3 : Int) (kind_4 : Int) (tape_4 : Int → Int) (tape_5 : Int → Int) (k6 : 0 ≤ x6 ∧ x6 ≤ 0) (fe_0_10_1 : limit_0 = limit_1) (fe_0_11_1 : pos_0 = pos_1) (fe_0_12_1 : kind_0 = x6) (fe_0_15_1 : from_0 = from_1) (fe_0_10_2 : limit_1 = limit_2) (fe_0_11_2 : pos_1 = pos_2) (fe_0_12_2 : kind_1 = kind_2) (fe_0_15_2 : from_1 = from_2) (fe_0_10_3 : limit_2 = limit_3) (fe_0_11_3 : pos_2 = pos_3) (fe_0_15_3 : from_2 = from_3) (fe_0_10_4 : limit_3 = limit_4) (fe_0_11_4 : pos_3 = pos_4) (fe_0_12_4 : kind_3 = kind_4) (fe_0_11_5 : pos_4 = pos_5) (hE_0_1_1 : ∀ j : Int, tape_0 j = tape_1 j) (hE_0_1_2 : ∀ j : Int, tape_1 j = tape_2 j) (hE_0_1_3 : ∀ j : Int, tape_2 j = tape_3 j) (hE_0_1_4 : ∀ j : Int, tape_3 j = tape_4 j) (hE_0_1_5 : ∀ j : Int, tape_4 j = tape_5 j) (kz_0_10 : 0 ≤ limit_0 ∧ limit_0 ≤ 2000) (kz_0_11 : 0 ≤ pos_0 ∧ pos_0 ≤ 2000) (kz_0_12 : 0 ≤ kind_0 ∧ kind_0 ≤ 4) (kz_0_15 : 0 ≤ from_0 ∧ from_0 ≤ 2000) : ((kind_0 = 1) → (pos_0 ≤ (from_0 + 8))) ∧ ((kind_0 = 0) ∨ ((from_0 + 1) ≤ pos_0)) := by
  subst fe_0_10_1
  subst fe_0_11_1
  subst fe_0_15_1
  subst fe_0_10_2
  subst fe_0_11_2
  subst fe_0_12_2
  subst fe_0_15_2
  subst fe_0_10_3
  subst fe_0_11_3
  subst fe_0_15_3
  subst fe_0_10_4
  subst fe_0_11_4
  subst fe_0_12_4
  subst fe_0_11_5
  have e_hE_0_1_1 := funext hE_0_1_1; subst e_hE_0_1_1
  have e_hE_0_1_2 := funext hE_0_1_2; subst e_hE_0_1_2
  have e_hE_0_1_3 := funext hE_0_1_3; subst e_hE_0_1_3
  have e_hE_0_1_4 := funext hE_0_1_4; subst e_hE_0_1_4
  have e_hE_0_1_5 := funext hE_0_1_5; subst e_hE_0_1_5
  first | assumption | omega | grind
set_option maxHeartbeats 4000000 in
theorem vc_Mo_next_4_3 (x3 : Int) (tape_0 : Int → Int) (limit_0 : Int) (pos_0 : Int) (tape_1 : Int → Int) (limit_1 : Int) (pos_1 : Int) (tape_2 : Int → Int) (limit_2 : Int) (pos_2 : Int) (tape_3 : Int → Int) (limit_3 : Int) (pos_3 : Int) (pos_4 : Int) (pos_5 : Int) (from_0 : Int) (from_1 : Int) (kind_1 : Int) (kind_2 : Int) (from_2 : Int) (from_3 : Int) (limit_4 : Int) (kind_3 : Int) (kind_4 : Int) (tape_4 : Int → Int) (tape_5 : Int → Int) (k3 : 0 ≤ x3 ∧ x3 ≤ 2000) (g16 : x3 = pos_3) (fe_0_10_1 : limit_0 = limit_1) (fe_0_11_1 : pos_0 = pos_1) (fe_0_15_1 : from_0 = from_1) (fe_0_10_2 : limit_1 = limit_2) (fe_0_11_2 : pos_1 = pos_2) (fe_0_12_2 : kind_1 = kind_2) (fe_0_15_2 : from_1 = from_2) (fe_0_10_3 : limit_2 = limit_3) (fe_0_11_3 : pos_2 = pos_3) (fe_0_15_3 : from_2 = from_3) (fe_0_10_4 : limit_3 = limit_4) (fe_0_11_4 : pos_3 = pos_4) (fe_0_12_4 : kind_3 = kind_4) (fe_0_15_4 : from_3 = x3) (fe_0_11_5 : pos_4 = pos_5) (hE_0_1_1 : ∀ j : Int, tape_0 j = tape_1 j) (hE_0_1_2 : ∀ j : Int, tape_1 j = tape_2 j) (hE_0_1_3 : ∀ j : Int, tape_2 j = tape_3 j) (hE_0_1_4 : ∀ j : Int, tape_3 j = tape_4 j) (hE_0_1_5 : ∀ j : Int, tape_4 j = tape_5 j) (kz_0_10 : 0 ≤ limit_0 ∧ limit_0 ≤ 2000) (kz_0_11 : 0 ≤ pos_0 ∧ pos_0 ≤ 2000) (kz_0_15 : 0 ≤ from_0 ∧ from_0 ≤ 2000) : 1 * from_0 + ((-1) * pos_0 + 0) ≤ 0 := by
  subst fe_0_10_1
  subst fe_0_11_1
  subst fe_0_15_1
  subst fe_0_10_2
  subst fe_0_11_2
  subst fe_0_12_2
  subst fe_0_15_2
  subst fe_0_10_3
  subst fe_0_11_3
  subst fe_0_15_3
  subst fe_0_10_4
  subst fe_0_11_4
  subst fe_0_12_4
  subst fe_0_11_5
  have e_hE_0_1_1 := funext hE_0_1_1; subst e_hE_0_1_1
  have e_hE_0_1_2 := funext hE_0_1_2; subst e_hE_0_1_2
  have e_hE_0_1_3 := funext hE_0_1_3; subst e_hE_0_1_3
  have e_hE_0_1_4 := funext hE_0_1_4; subst e_hE_0_1_4
  have e_hE_0_1_5 := funext hE_0_1_5; subst e_hE_0_1_5
  first | assumption | omega | grind
set_option maxHeartbeats 4000000 in
theorem vc_Mo_next_4_4 (x6 : Int) (tape_0 : Int → Int) (limit_0 : Int) (pos_0 : Int) (tape_1 : Int → Int) (limit_1 : Int) (pos_1 : Int) (tape_2 : Int → Int) (limit_2 : Int) (pos_2 : Int) (tape_3 : Int → Int) (limit_3 : Int) (pos_3 : Int) (pos_4 : Int) (pos_5 : Int) (kind_0 : Int) (from_0 : Int) (from_1 : Int) (kind_1 : Int) (kind_2 : Int) (from_2 : Int) (from_3 : Int) (limit_4 : Int) (kind_3 : Int) (kind_4 : Int) (tape_4 : Int → Int) (tape_5 : Int → Int) (k6 : 0 ≤ x6 ∧ x6 ≤ 0) (fe_0_10_1 : limit_0 = limit_1) (fe_0_11_1 : pos_0 = pos_1) (fe_0_12_1 : kind_0 = x6) (fe_0_15_1 : from_0 = from_1) (fe_0_10_2 : limit_1 = limit_2) (fe_0_11_2 : pos_1 = pos_2) (fe_0_12_2 : kind_1 = kind_2) (fe_0_15_2 : from_1 = from_2) (fe_0_10_3 : limit_2 = limit_3) (fe_0_11_3 : pos_2 = pos_3) (fe_0_15_3 : from_2 = from_3) (fe_0_10_4 : limit_3 = limit_4) (fe_0_11_4 : pos_3 = pos_4) (fe_0_12_4 : kind_3 = kind_4) (fe_0_11_5 : pos_4 = pos_5) (hE_0_1_1 : ∀ j : Int, tape_0 j = tape_1 j) (hE_0_1_2 : ∀ j : Int, tape_1 j = tape_2 j) (hE_0_1_3 : ∀ j : Int, tape_2 j = tape_3 j) (hE_0_1_4 : ∀ j : Int, tape_3 j = tape_4 j) (hE_0_1_5 : ∀ j : Int, tape_4 j = tape_5 j) (kz_0_10 : 0 ≤ limit_0 ∧ limit_0 ≤ 2000) (kz_0_11 : 0 ≤ pos_0 ∧ pos_0 ≤ 2000) (kz_0_12 : 0 ≤ kind_0 ∧ kind_0 ≤ 4) (kz_0_15 : 0 ≤ from_0 ∧ from_0 ≤ 2000) : ((kind_0 = 1) → (pos_0 ≤ (from_0 + 8))) ∧ ((kind_0 = 0) ∨ ((from_0 + 1) ≤ pos_0)) := by
  subst fe_0_10_1
  subst fe_0_11_1
  subst fe_0_15_1
  subst fe_0_10_2
  subst fe_0_11_2
  subst fe_0_12_2
  subst fe_0_15_2
  subst fe_0_10_3
  subst fe_0_11_3
  subst fe_0_15_3
  subst fe_0_10_4
  subst fe_0_11_4
  subst fe_0_12_4
  subst fe_0_11_5
  have e_hE_0_1_1 := funext hE_0_1_1; subst e_hE_0_1_1
  have e_hE_0_1_2 := funext hE_0_1_2; subst e_hE_0_1_2
  have e_hE_0_1_3 := funext hE_0_1_3; subst e_hE_0_1_3
  have e_hE_0_1_4 := funext hE_0_1_4; subst e_hE_0_1_4
  have e_hE_0_1_5 := funext hE_0_1_5; subst e_hE_0_1_5
  first | assumption | omega | grind
set_option maxHeartbeats 4000000 in
theorem vc_Mo_next_4_5 (x1 : Int) (x3 : Int) (tape_0 : Int → Int) (limit_0 : Int) (pos_0 : Int) (tape_1 : Int → Int) (limit_1 : Int) (pos_1 : Int) (tape_2 : Int → Int) (limit_2 : Int) (pos_2 : Int) (tape_3 : Int → Int) (limit_3 : Int) (pos_3 : Int) (pos_4 : Int) (pos_5 : Int) (from_0 : Int) (from_1 : Int) (kind_1 : Int) (kind_2 : Int) (from_2 : Int) (from_3 : Int) (limit_4 : Int) (kind_3 : Int) (kind_4 : Int) (tape_4 : Int → Int) (tape_5 : Int → Int) (k1 : 0 ≤ x1 ∧ x1 ≤ 2000) (k3 : 0 ≤ x3 ∧ x3 ≤ 2000) (f2 : 1 * x1 + ((-1) * pos_0 + 0) ≤ 0) (g16 : x3 = pos_3) (fe_0_10_1 : limit_0 = limit_1) (fe_0_11_1 : pos_0 = pos_1) (fe_0_15_1 : from_0 = from_1) (fe_0_10_2 : limit_1 = limit_2) (fe_0_11_2 : pos_1 = pos_2) (fe_0_12_2 : kind_1 = kind_2) (fe_0_15_2 : from_1 = from_2) (fe_0_10_3 : limit_2 = limit_3) (fe_0_11_3 : pos_2 = pos_3) (fe_0_15_3 : from_2 = from_3) (fe_0_10_4 : limit_3 = limit_4) (fe_0_11_4 : pos_3 = pos_4) (fe_0_12_4 : kind_3 = kind_4) (fe_0_15_4 : from_3 = x3) (fe_0_11_5 : pos_4 = pos_5) (hE_0_1_1 : ∀ j : Int, tape_0 j = tape_1 j) (hE_0_1_2 : ∀ j : Int, tape_1 j = tape_2 j) (hE_0_1_3 : ∀ j : Int, tape_2 j = tape_3 j) (hE_0_1_4 : ∀ j : Int, tape_3 j = tape_4 j) (hE_0_1_5 : ∀ j : Int, tape_4 j = tape_5 j) (kz_0_10 : 0 ≤ limit_0 ∧ limit_0 ≤ 2000) (kz_0_11 : 0 ≤ pos_0 ∧ pos_0 ≤ 2000) (kz_0_15 : 0 ≤ from_0 ∧ from_0 ≤ 2000) : 1 * x1 + ((-1) * from_0 + 0) ≤ 0 := by
  subst fe_0_10_1
  subst fe_0_11_1
  subst fe_0_15_1
  subst fe_0_10_2
  subst fe_0_11_2
  subst fe_0_12_2
  subst fe_0_15_2
  subst fe_0_10_3
  subst fe_0_11_3
  subst fe_0_15_3
  subst fe_0_10_4
  subst fe_0_11_4
  subst fe_0_12_4
  subst fe_0_11_5
  have e_hE_0_1_1 := funext hE_0_1_1; subst e_hE_0_1_1
  have e_hE_0_1_2 := funext hE_0_1_2; subst e_hE_0_1_2
  have e_hE_0_1_3 := funext hE_0_1_3; subst e_hE_0_1_3
  have e_hE_0_1_4 := funext hE_0_1_4; subst e_hE_0_1_4
  have e_hE_0_1_5 := funext hE_0_1_5; subst e_hE_0_1_5
  first | assumption | omega | grind
def o_Mo_next_4 : or_T := (354, 7, [(0, (2, 0, 0, [165])), (1, (0, 0, 2000, [])), (3, (0, 0, 2000, [])), (6, (0, 0, 0, []))], [(20, [1, 2], [30, 0, 1, 0, 0, -1, 1, 11]), (24, [0, 2], []), (101, [2, 6], [12]), (101, [2, 4], [14]), (101, [2, 5], [12]), (9, [3, 2], [11]), (101, [2, 3], [15]), (101, [2, 3], [13])], [], [], [(20, [1, 2], [30, 0, 1, 0, 0, -1, 1, 15]), (20, [2, 2], [30, 0, 1, 1, 15, -1, 1, 11]), (20, [2], [50, 3, 0, 12, 11, 15, 2, 21, 4, 7, 1, 3, 2, 0, 12, 0, 1, 0, 3, 2, 0, 11, 4, 3, 2, 0, 15, 0, 8, 3, 7, 1, 3, 2, 0, 12, 0, 0, 0, 7, 4, 3, 2, 0, 15, 0, 1, 2, 0, 11]), (20, [0, 0], [30, 0, 1, 1, 15, -1, 1, 11]), (20, [0], [50, 3, 0, 12, 11, 15, 2, 21, 4, 7, 1, 3, 2, 0, 12, 0, 1, 0, 3, 2, 0, 11, 4, 3, 2, 0, 15, 0, 8, 3, 7, 1, 3, 2, 0, 12, 0, 0, 0, 7, 4, 3, 2, 0, 15, 0, 1, 2, 0, 11]), (20, [1, 0], [30, 0, 1, 0, 0, -1, 1, 15])], [], [])
theorem oo_Mo_next_4 {kA : Nat → ClassId} : or_ok PRD kA GG o_Mo_next_4 := by
  refine or_mk fun A ta ws vs hD hth hl => ?_
  intro t0 r0 t1 k1 t3 k3 t6 k6 f2 f3 ta1 w1 le1 s1 ta2 w2 le2 s2 ta3 w3 le3 s3 f16 ta4 w4 le4 s4 ta5 w5 le5 s5
  replace f2 := shm_1395 f2
  replace f3 := shm_5 f3
  have s1 : (∀ b j, w_el ws b j = w_el w1 b j) ∧ ∀ b j, w_fd ws b j = if b = v_ad (n_v vs 2) ∧ j = 12 then n_v vs 6 else w_fd w1 b j := s1.2
  have s2 : (∀ b j, w_el w1 b j = w_el w2 b j) ∧ ∀ b j, w_fd w1 b j = if b = v_ad (n_v vs 2) ∧ j = 14 then n_v vs 4 else w_fd w2 b j := s2.2
  have s3 : (∀ b j, w_el w2 b j = w_el w3 b j) ∧ ∀ b j, w_fd w2 b j = if b = v_ad (n_v vs 2) ∧ j = 12 then n_v vs 5 else w_fd w3 b j := s3.2
  replace f16 := shm_117 f16
  have s4 : (∀ b j, w_el w3 b j = w_el w4 b j) ∧ ∀ b j, w_fd w3 b j = if b = v_ad (n_v vs 2) ∧ j = 15 then n_v vs 3 else w_fd w4 b j := s4.2
  have s5 : (∀ b j, w_el w4 b j = w_el w5 b j) ∧ ∀ b j, w_fd w4 b j = if b = v_ad (n_v vs 2) ∧ j = 13 then n_v vs 3 else w_fd w5 b j := s5.2
  have q2 : n_v vs 2 = n_v vs 0 := f3.symm
  simp only [q2] at f2
  rw [q2] at s1
  rw [q2] at s2
  rw [q2] at s3
  simp only [q2] at f16
  rw [q2] at s4
  rw [q2] at s5
  have g16 : v_iv (n_v vs 3) = w_fi w3 (n_v vs 0) 11 := congrArg v_iv f16
  have fe_0_10_1 : w_fi ws (n_v vs 0) 10 = w_fi w1 (n_v vs 0) 10 := by show v_iv (w_fd _ _ _) = v_iv (w_fd _ _ _); rw [s1.2, if_neg (fun e => absurd e.2 (by decide))]
  have fe_0_11_1 : w_fi ws (n_v vs 0) 11 = w_fi w1 (n_v vs 0) 11 := by show v_iv (w_fd _ _ _) = v_iv (w_fd _ _ _); rw [s1.2, if_neg (fun e => absurd e.2 (by decide))]
  have fe_0_12_1 : w_fi ws (n_v vs 0) 12 = v_iv (n_v vs 6) := by show v_iv (w_fd _ _ _) = _; rw [s1.2, if_pos ⟨rfl, rfl⟩]
  have fe_0_15_1 : w_fi ws (n_v vs 0) 15 = w_fi w1 (n_v vs 0) 15 := by show v_iv (w_fd _ _ _) = v_iv (w_fd _ _ _); rw [s1.2, if_neg (fun e => absurd e.2 (by decide))]
  have fe_0_10_2 : w_fi w1 (n_v vs 0) 10 = w_fi w2 (n_v vs 0) 10 := by show v_iv (w_fd _ _ _) = v_iv (w_fd _ _ _); rw [s2.2, if_neg (fun e => absurd e.2 (by decide))]
  have fe_0_11_2 : w_fi w1 (n_v vs 0) 11 = w_fi w2 (n_v vs 0) 11 := by show v_iv (w_fd _ _ _) = v_iv (w_fd _ _ _); rw [s2.2, if_neg (fun e => absurd e.2 (by decide))]
  have fe_0_12_2 : w_fi w1 (n_v vs 0) 12 = w_fi w2 (n_v vs 0) 12 := by show v_iv (w_fd _ _ _) = v_iv (w_fd _ _ _); rw [s2.2, if_neg (fun e => absurd e.2 (by decide))]
  have fe_0_15_2 : w_fi w1 (n_v vs 0) 15 = w_fi w2 (n_v vs 0) 15 := by show v_iv (w_fd _ _ _) = v_iv (w_fd _ _ _); rw [s2.2, if_neg (fun e => absurd e.2 (by decide))]
  have fe_0_10_3 : w_fi w2 (n_v vs 0) 10 = w_fi w3 (n_v vs 0) 10 := by show v_iv (w_fd _ _ _) = v_iv (w_fd _ _ _); rw [s3.2, if_neg (fun e => absurd e.2 (by decide))]
  have fe_0_11_3 : w_fi w2 (n_v vs 0) 11 = w_fi w3 (n_v vs 0) 11 := by show v_iv (w_fd _ _ _) = v_iv (w_fd _ _ _); rw [s3.2, if_neg (fun e => absurd e.2 (by decide))]
  have fe_0_15_3 : w_fi w2 (n_v vs 0) 15 = w_fi w3 (n_v vs 0) 15 := by show v_iv (w_fd _ _ _) = v_iv (w_fd _ _ _); rw [s3.2, if_neg (fun e => absurd e.2 (by decide))]
  have fe_0_10_4 : w_fi w3 (n_v vs 0) 10 = w_fi w4 (n_v vs 0) 10 := by show v_iv (w_fd _ _ _) = v_iv (w_fd _ _ _); rw [s4.2, if_neg (fun e => absurd e.2 (by decide))]
  have fe_0_11_4 : w_fi w3 (n_v vs 0) 11 = w_fi w4 (n_v vs 0) 11 := by show v_iv (w_fd _ _ _) = v_iv (w_fd _ _ _); rw [s4.2, if_neg (fun e => absurd e.2 (by decide))]
  have fe_0_12_4 : w_fi w3 (n_v vs 0) 12 = w_fi w4 (n_v vs 0) 12 := by show v_iv (w_fd _ _ _) = v_iv (w_fd _ _ _); rw [s4.2, if_neg (fun e => absurd e.2 (by decide))]
  have fe_0_15_4 : w_fi w3 (n_v vs 0) 15 = v_iv (n_v vs 3) := by show v_iv (w_fd _ _ _) = _; rw [s4.2, if_pos ⟨rfl, rfl⟩]
  have fe_0_11_5 : w_fi w4 (n_v vs 0) 11 = w_fi w5 (n_v vs 0) 11 := by show v_iv (w_fd _ _ _) = v_iv (w_fd _ _ _); rw [s5.2, if_neg (fun e => absurd e.2 (by decide))]
  have hE_0_1_1 : ∀ j : Int, w_ei ws (w_ar ws (n_v vs 0) 1) j = w_ei w1 (w_ar ws (n_v vs 0) 1) j := fun j => s1.1 _ _
  have hE_0_1_2 : ∀ j : Int, w_ei w1 (w_ar ws (n_v vs 0) 1) j = w_ei w2 (w_ar ws (n_v vs 0) 1) j := fun j => s2.1 _ _
  have hE_0_1_3 : ∀ j : Int, w_ei w2 (w_ar ws (n_v vs 0) 1) j = w_ei w3 (w_ar ws (n_v vs 0) 1) j := fun j => s3.1 _ _
  have hE_0_1_4 : ∀ j : Int, w_ei w3 (w_ar ws (n_v vs 0) 1) j = w_ei w4 (w_ar ws (n_v vs 0) 1) j := fun j => s4.1 _ _
  have hE_0_1_5 : ∀ j : Int, w_ei w4 (w_ar ws (n_v vs 0) 1) j = w_ei w5 (w_ar ws (n_v vs 0) 1) j := fun j => s5.1 _ _
  have kz_0_10 := fdq_50 hD hth r0
  have kz_0_11 := fdq_273 hD hth r0
  have kz_0_12 := fdq_186 hD hth r0
  have kz_0_15 := fdq_274 hD hth r0
  have nf0 : fc_1 PRD (20, [1, 2], [30, 0, 1, 0, 0, -1, 1, 15]) ws (vs) := by
    refine ⟨nf_in hl rfl, sgq_1396 ?_⟩
    · show 1 * v_iv (n_v vs 1) + ((-1) * w_fi ws (n_v vs 2) 15 + 0) ≤ 0
      rw [q2]
      exact vc_Mo_next_4_0 (v_iv (n_v vs 1)) (v_iv (n_v vs 3)) (w_ei ws (w_ar ws (n_v vs 0) 1)) (w_fi ws (n_v vs 0) 10) (w_fi ws (n_v vs 0) 11) (w_ei w1 (w_ar ws (n_v vs 0) 1)) (w_fi w1 (n_v vs 0) 10) (w_fi w1 (n_v vs 0) 11) (w_ei w2 (w_ar ws (n_v vs 0) 1)) (w_fi w2 (n_v vs 0) 10) (w_fi w2 (n_v vs 0) 11) (w_ei w3 (w_ar ws (n_v vs 0) 1)) (w_fi w3 (n_v vs 0) 10) (w_fi w3 (n_v vs 0) 11) (w_fi w4 (n_v vs 0) 11) (w_fi w5 (n_v vs 0) 11) (w_fi ws (n_v vs 0) 15) (w_fi w1 (n_v vs 0) 15) (w_fi w1 (n_v vs 0) 12) (w_fi w2 (n_v vs 0) 12) (w_fi w2 (n_v vs 0) 15) (w_fi w3 (n_v vs 0) 15) (w_fi w4 (n_v vs 0) 10) (w_fi w3 (n_v vs 0) 12) (w_fi w4 (n_v vs 0) 12) (w_ei w4 (w_ar ws (n_v vs 0) 1)) (w_ei w5 (w_ar ws (n_v vs 0) 1)) k1 k3 f2 g16 fe_0_10_1 fe_0_11_1 fe_0_15_1 fe_0_10_2 fe_0_11_2 fe_0_12_2 fe_0_15_2 fe_0_10_3 fe_0_11_3 fe_0_15_3 fe_0_10_4 fe_0_11_4 fe_0_12_4 fe_0_15_4 fe_0_11_5 hE_0_1_1 hE_0_1_2 hE_0_1_3 hE_0_1_4 hE_0_1_5 kz_0_10 kz_0_11 kz_0_15
  have nf1 : fc_1 PRD (20, [2, 2], [30, 0, 1, 1, 15, -1, 1, 11]) ws (vs) := by
    refine ⟨nf_in hl rfl, sgq_1397 ?_⟩
    · show 1 * w_fi ws (n_v vs 2) 15 + ((-1) * w_fi ws (n_v vs 2) 11 + 0) ≤ 0
      rw [q2]
      exact vc_Mo_next_4_1 (v_iv (n_v vs 3)) (w_ei ws (w_ar ws (n_v vs 0) 1)) (w_fi ws (n_v vs 0) 10) (w_fi ws (n_v vs 0) 11) (w_ei w1 (w_ar ws (n_v vs 0) 1)) (w_fi w1 (n_v vs 0) 10) (w_fi w1 (n_v vs 0) 11) (w_ei w2 (w_ar ws (n_v vs 0) 1)) (w_fi w2 (n_v vs 0) 10) (w_fi w2 (n_v vs 0) 11) (w_ei w3 (w_ar ws (n_v vs 0) 1)) (w_fi w3 (n_v vs 0) 10) (w_fi w3 (n_v vs 0) 11) (w_fi w4 (n_v vs 0) 11) (w_fi w5 (n_v vs 0) 11) (w_fi ws (n_v vs 0) 15) (w_fi w1 (n_v vs 0) 15) (w_fi w1 (n_v vs 0) 12) (w_fi w2 (n_v vs 0) 12) (w_fi w2 (n_v vs 0) 15) (w_fi w3 (n_v vs 0) 15) (w_fi w4 (n_v vs 0) 10) (w_fi w3 (n_v vs 0) 12) (w_fi w4 (n_v vs 0) 12) (w_ei w4 (w_ar ws (n_v vs 0) 1)) (w_ei w5 (w_ar ws (n_v vs 0) 1)) k3 g16 fe_0_10_1 fe_0_11_1 fe_0_15_1 fe_0_10_2 fe_0_11_2 fe_0_12_2 fe_0_15_2 fe_0_10_3 fe_0_11_3 fe_0_15_3 fe_0_10_4 fe_0_11_4 fe_0_12_4 fe_0_15_4 fe_0_11_5 hE_0_1_1 hE_0_1_2 hE_0_1_3 hE_0_1_4 hE_0_1_5 kz_0_10 kz_0_11 kz_0_15
  have nf2 : fc_1 PRD (20, [2], [50, 3, 0, 12, 11, 15, 2, 21, 4, 7, 1, 3, 2, 0, 12, 0, 1, 0, 3, 2, 0, 11, 4, 3, 2, 0, 15, 0, 8, 3, 7, 1, 3, 2, 0, 12, 0, 0, 0, 7, 4, 3, 2, 0, 15, 0, 1, 2, 0, 11]) ws (vs) := by
    refine ⟨nf_in hl rfl, sgq_1398 ?_⟩
    · show ((w_fi ws (n_v vs 2) 12 = 1) → (w_fi ws (n_v vs 2) 11 ≤ (w_fi ws (n_v vs 2) 15 + 8))) ∧ ((w_fi ws (n_v vs 2) 12 = 0) ∨ ((w_fi ws (n_v vs 2) 15 + 1) ≤ w_fi ws (n_v vs 2) 11))
      rw [q2]
      exact vc_Mo_next_4_2 (v_iv (n_v vs 6)) (w_ei ws (w_ar ws (n_v vs 0) 1)) (w_fi ws (n_v vs 0) 10) (w_fi ws (n_v vs 0) 11) (w_ei w1 (w_ar ws (n_v vs 0) 1)) (w_fi w1 (n_v vs 0) 10) (w_fi w1 (n_v vs 0) 11) (w_ei w2 (w_ar ws (n_v vs 0) 1)) (w_fi w2 (n_v vs 0) 10) (w_fi w2 (n_v vs 0) 11) (w_ei w3 (w_ar ws (n_v vs 0) 1)) (w_fi w3 (n_v vs 0) 10) (w_fi w3 (n_v vs 0) 11) (w_fi w4 (n_v vs 0) 11) (w_fi w5 (n_v vs 0) 11) (w_fi ws (n_v vs 0) 12) (w_fi ws (n_v vs 0) 15) (w_fi w1 (n_v vs 0) 15) (w_fi w1 (n_v vs 0) 12) (w_fi w2 (n_v vs 0) 12) (w_fi w2 (n_v vs 0) 15) (w_fi w3 (n_v vs 0) 15) (w_fi w4 (n_v vs 0) 10) (w_fi w3 (n_v vs 0) 12) (w_fi w4 (n_v vs 0) 12) (w_ei w4 (w_ar ws (n_v vs 0) 1)) (w_ei w5 (w_ar ws (n_v vs 0) 1)) k6 fe_0_10_1 fe_0_11_1 fe_0_12_1 fe_0_15_1 fe_0_10_2 fe_0_11_2 fe_0_12_2 fe_0_15_2 fe_0_10_3 fe_0_11_3 fe_0_15_3 fe_0_10_4 fe_0_11_4 fe_0_12_4 fe_0_11_5 hE_0_1_1 hE_0_1_2 hE_0_1_3 hE_0_1_4 hE_0_1_5 kz_0_10 kz_0_11 kz_0_12 kz_0_15
  have nf3 : fc_1 PRD (20, [0, 0], [30, 0, 1, 1, 15, -1, 1, 11]) ws (vs) := ⟨nf_in hl rfl, sgq_1397 (vc_Mo_next_4_3 (v_iv (n_v vs 3)) (w_ei ws (w_ar ws (n_v vs 0) 1)) (w_fi ws (n_v vs 0) 10) (w_fi ws (n_v vs 0) 11) (w_ei w1 (w_ar ws (n_v vs 0) 1)) (w_fi w1 (n_v vs 0) 10) (w_fi w1 (n_v vs 0) 11) (w_ei w2 (w_ar ws (n_v vs 0) 1)) (w_fi w2 (n_v vs 0) 10) (w_fi w2 (n_v vs 0) 11) (w_ei w3 (w_ar ws (n_v vs 0) 1)) (w_fi w3 (n_v vs 0) 10) (w_fi w3 (n_v vs 0) 11) (w_fi w4 (n_v vs 0) 11) (w_fi w5 (n_v vs 0) 11) (w_fi ws (n_v vs 0) 15) (w_fi w1 (n_v vs 0) 15) (w_fi w1 (n_v vs 0) 12) (w_fi w2 (n_v vs 0) 12) (w_fi w2 (n_v vs 0) 15) (w_fi w3 (n_v vs 0) 15) (w_fi w4 (n_v vs 0) 10) (w_fi w3 (n_v vs 0) 12) (w_fi w4 (n_v vs 0) 12) (w_ei w4 (w_ar ws (n_v vs 0) 1)) (w_ei w5 (w_ar ws (n_v vs 0) 1)) k3 g16 fe_0_10_1 fe_0_11_1 fe_0_15_1 fe_0_10_2 fe_0_11_2 fe_0_12_2 fe_0_15_2 fe_0_10_3 fe_0_11_3 fe_0_15_3 fe_0_10_4 fe_0_11_4 fe_0_12_4 fe_0_15_4 fe_0_11_5 hE_0_1_1 hE_0_1_2 hE_0_1_3 hE_0_1_4 hE_0_1_5 kz_0_10 kz_0_11 kz_0_15)⟩
  have nf4 : fc_1 PRD (20, [0], [50, 3, 0, 12, 11, 15, 2, 21, 4, 7, 1, 3, 2, 0, 12, 0, 1, 0, 3, 2, 0, 11, 4, 3, 2, 0, 15, 0, 8, 3, 7, 1, 3, 2, 0, 12, 0, 0, 0, 7, 4, 3, 2, 0, 15, 0, 1, 2, 0, 11]) ws (vs) := ⟨nf_in hl rfl, sgq_1398 (vc_Mo_next_4_4 (v_iv (n_v vs 6)) (w_ei ws (w_ar ws (n_v vs 0) 1)) (w_fi ws (n_v vs 0) 10) (w_fi ws (n_v vs 0) 11) (w_ei w1 (w_ar ws (n_v vs 0) 1)) (w_fi w1 (n_v vs 0) 10) (w_fi w1 (n_v vs 0) 11) (w_ei w2 (w_ar ws (n_v vs 0) 1)) (w_fi w2 (n_v vs 0) 10) (w_fi w2 (n_v vs 0) 11) (w_ei w3 (w_ar ws (n_v vs 0) 1)) (w_fi w3 (n_v vs 0) 10) (w_fi w3 (n_v vs 0) 11) (w_fi w4 (n_v vs 0) 11) (w_fi w5 (n_v vs 0) 11) (w_fi ws (n_v vs 0) 12) (w_fi ws (n_v vs 0) 15) (w_fi w1 (n_v vs 0) 15) (w_fi w1 (n_v vs 0) 12) (w_fi w2 (n_v vs 0) 12) (w_fi w2 (n_v vs 0) 15) (w_fi w3 (n_v vs 0) 15) (w_fi w4 (n_v vs 0) 10) (w_fi w3 (n_v vs 0) 12) (w_fi w4 (n_v vs 0) 12) (w_ei w4 (w_ar ws (n_v vs 0) 1)) (w_ei w5 (w_ar ws (n_v vs 0) 1)) k6 fe_0_10_1 fe_0_11_1 fe_0_12_1 fe_0_15_1 fe_0_10_2 fe_0_11_2 fe_0_12_2 fe_0_15_2 fe_0_10_3 fe_0_11_3 fe_0_15_3 fe_0_10_4 fe_0_11_4 fe_0_12_4 fe_0_11_5 hE_0_1_1 hE_0_1_2 hE_0_1_3 hE_0_1_4 hE_0_1_5 kz_0_10 kz_0_11 kz_0_12 kz_0_15)⟩
  have nf5 : fc_1 PRD (20, [1, 0], [30, 0, 1, 0, 0, -1, 1, 15]) ws (vs) := ⟨nf_in hl rfl, sgq_1396 (vc_Mo_next_4_5 (v_iv (n_v vs 1)) (v_iv (n_v vs 3)) (w_ei ws (w_ar ws (n_v vs 0) 1)) (w_fi ws (n_v vs 0) 10) (w_fi ws (n_v vs 0) 11) (w_ei w1 (w_ar ws (n_v vs 0) 1)) (w_fi w1 (n_v vs 0) 10) (w_fi w1 (n_v vs 0) 11) (w_ei w2 (w_ar ws (n_v vs 0) 1)) (w_fi w2 (n_v vs 0) 10) (w_fi w2 (n_v vs 0) 11) (w_ei w3 (w_ar ws (n_v vs 0) 1)) (w_fi w3 (n_v vs 0) 10) (w_fi w3 (n_v vs 0) 11) (w_fi w4 (n_v vs 0) 11) (w_fi w5 (n_v vs 0) 11) (w_fi ws (n_v vs 0) 15) (w_fi w1 (n_v vs 0) 15) (w_fi w1 (n_v vs 0) 12) (w_fi w2 (n_v vs 0) 12) (w_fi w2 (n_v vs 0) 15) (w_fi w3 (n_v vs 0) 15) (w_fi w4 (n_v vs 0) 10) (w_fi w3 (n_v vs 0) 12) (w_fi w4 (n_v vs 0) 12) (w_ei w4 (w_ar ws (n_v vs 0) 1)) (w_ei w5 (w_ar ws (n_v vs 0) 1)) k1 k3 f2 g16 fe_0_10_1 fe_0_11_1 fe_0_15_1 fe_0_10_2 fe_0_11_2 fe_0_12_2 fe_0_15_2 fe_0_10_3 fe_0_11_3 fe_0_15_3 fe_0_10_4 fe_0_11_4 fe_0_12_4 fe_0_15_4 fe_0_11_5 hE_0_1_1 hE_0_1_2 hE_0_1_3 hE_0_1_4 hE_0_1_5 kz_0_10 kz_0_11 kz_0_15)⟩
  refine ⟨(fun _ h => (by cases h)), [], trivial, ?_, (fun _ h => (by cases h))⟩
  rw [List.append_nil]
  exact List.forall_mem_cons.mpr ⟨⟨show (20 : Nat) < 100 from by decide, nf0⟩, List.forall_mem_cons.mpr ⟨⟨show (20 : Nat) < 100 from by decide, nf1⟩, List.forall_mem_cons.mpr ⟨⟨show (20 : Nat) < 100 from by decide, nf2⟩, List.forall_mem_cons.mpr ⟨⟨show (20 : Nat) < 100 from by decide, nf3⟩, List.forall_mem_cons.mpr ⟨⟨show (20 : Nat) < 100 from by decide, nf4⟩, List.forall_mem_cons.mpr ⟨⟨show (20 : Nat) < 100 from by decide, nf5⟩, (fun _ h => (by cases h))⟩⟩⟩⟩⟩⟩
set_option maxHeartbeats 4000000 in
theorem vc_Mo_next_5_0 (x1 : Int) (x3 : Int) (tape_0 : Int → Int) (limit_0 : Int) (pos_0 : Int) (tape_1 : Int → Int) (limit_1 : Int) (pos_1 : Int) (tape_2 : Int → Int) (limit_2 : Int) (pos_2 : Int) (pos_3 : Int) (pos_4 : Int) (from_0 : Int) (from_1 : Int) (from_2 : Int) (limit_3 : Int) (tape_3 : Int → Int) (tape_4 : Int → Int) (k1 : 0 ≤ x1 ∧ x1 ≤ 2000) (k3 : 0 ≤ x3 ∧ x3 ≤ 1999) (f3 : 1 * x1 + ((-1) * pos_0 + 0) ≤ 0) (g12 : x3 = pos_2) (fe_0_10_1 : limit_0 = limit_1) (fe_0_11_1 : pos_0 = pos_1) (fe_0_15_1 : from_0 = from_1) (fe_0_10_2 : limit_1 = limit_2) (fe_0_11_2 : pos_1 = pos_2) (fe_0_15_2 : from_1 = from_2) (fe_0_10_3 : limit_2 = limit_3) (fe_0_11_3 : pos_2 = pos_3) (fe_0_15_3 : from_2 = x3) (fe_0_11_4 : pos_3 = pos_4) (hE_0_1_1 : ∀ j : Int, tape_0 j = tape_1 j) (hE_0_1_2 : ∀ j : Int, tape_1 j = tape_2 j) (hE_0_1_3 : ∀ j : Int, tape_2 j = tape_3 j) (hE_0_1_4 : ∀ j : Int, tape_3 j = tape_4 j) (kz_0_10 : 0 ≤ limit_0 ∧ limit_0 ≤ 2000) (kz_0_11 : 0 ≤ pos_0 ∧ pos_0 ≤ 2000) (kz_0_15 : 0 ≤ from_0 ∧ from_0 ≤ 2000) : 1 * x1 + ((-1) * from_0 + 0) ≤ 0 := by
  subst fe_0_10_1
  subst fe_0_11_1
  subst fe_0_15_1
  subst fe_0_10_2
  subst fe_0_11_2
  subst fe_0_15_2
  subst fe_0_10_3
  subst fe_0_11_3
  subst fe_0_11_4
  have e_hE_0_1_1 := funext hE_0_1_1; subst e_hE_0_1_1
  have e_hE_0_1_2 := funext hE_0_1_2; subst e_hE_0_1_2
  have e_hE_0_1_3 := funext hE_0_1_3; subst e_hE_0_1_3
  have e_hE_0_1_4 := funext hE_0_1_4; subst e_hE_0_1_4
  first | assumption | omega | grind
set_option maxHeartbeats 4000000 in
theorem vc_Mo_next_5_1 (x3 : Int) (tape_0 : Int → Int) (limit_0 : Int) (pos_0 : Int) (tape_1 : Int → Int) (limit_1 : Int) (pos_1 : Int) (tape_2 : Int → Int) (limit_2 : Int) (pos_2 : Int) (pos_3 : Int) (pos_4 : Int) (from_0 : Int) (from_1 : Int) (from_2 : Int) (limit_3 : Int) (tape_3 : Int → Int) (tape_4 : Int → Int) (k3 : 0 ≤ x3 ∧ x3 ≤ 1999) (g12 : x3 = pos_2) (fe_0_10_1 : limit_0 = limit_1) (fe_0_11_1 : pos_0 = pos_1) (fe_0_15_1 : from_0 = from_1) (fe_0_10_2 : limit_1 = limit_2) (fe_0_11_2 : pos_1 = pos_2) (fe_0_15_2 : from_1 = from_2) (fe_0_10_3 : limit_2 = limit_3) (fe_0_11_3 : pos_2 = pos_3) (fe_0_15_3 : from_2 = x3) (fe_0_11_4 : pos_3 = pos_4) (hE_0_1_1 : ∀ j : Int, tape_0 j = tape_1 j) (hE_0_1_2 : ∀ j : Int, tape_1 j = tape_2 j) (hE_0_1_3 : ∀ j : Int, tape_2 j = tape_3 j) (hE_0_1_4 : ∀ j : Int, tape_3 j = tape_4 j) (kz_0_10 : 0 ≤ limit_0 ∧ limit_0 ≤ 2000) (kz_0_11 : 0 ≤ pos_0 ∧ pos_0 ≤ 2000) (kz_0_15 : 0 ≤ from_0 ∧ from_0 ≤ 2000) : pos_0 = from_0 := by
  subst fe_0_10_1
  subst fe_0_11_1
  subst fe_0_15_1
  subst fe_0_10_2
  subst fe_0_11_2
  subst fe_0_15_2
  subst fe_0_10_3
  subst fe_0_11_3
  subst fe_0_11_4
  have e_hE_0_1_1 := funext hE_0_1_1; subst e_hE_0_1_1
  have e_hE_0_1_2 := funext hE_0_1_2; subst e_hE_0_1_2
  have e_hE_0_1_3 := funext hE_0_1_3; subst e_hE_0_1_3
  have e_hE_0_1_4 := funext hE_0_1_4; subst e_hE_0_1_4
  first | assumption | omega | grind
def o_Mo_next_5 : or_T := (277, 8, [(0, (2, 0, 0, [165])), (1, (0, 0, 2000, [])), (2, (2, 0, 0, [165])), (3, (0, 0, 1999, [])), (4, (0, 0, 47, []))], [(8, [4], [3]), (20, [3, 2, 4], [50, 1, 1, 1010, 1001, 4, 11, 0, 6, 4, 2, 1, 0, 0, 1, 2, 1, 10, 1, 2, 1, 2, 9, 5, 3, 1, 1, 1, 0, 0, 256]), (20, [2, 3, 4], [50, 1, 0, 10, 4, 7, 0, 3, 2, 0, 10, 1, 1, 1, 2, 1, 2, 0, -1]), (20, [1, 2], [30, 0, 1, 0, 0, -1, 1, 11]), (24, [0, 2], []), (101, [2, 4], [14]), (20, [3, 2, 4], [50, 1, 1, 1010, 1001, 4, 11, 0, 6, 4, 2, 1, 0, 0, 1, 2, 1, 10, 1, 2, 1, 2, 9, 5, 3, 1, 1, 1, 0, 0, 256]), (20, [2, 3, 4], [50, 1, 0, 10, 4, 7, 0, 3, 2, 0, 10, 1, 1, 1, 2, 1, 2, 0, -1]), (20, [1, 2], [30, 0, 1, 0, 0, -1, 1, 11]), (101, [2, 5], [12]), (20, [3, 2, 4], [50, 1, 1, 1010, 1001, 4, 11, 0, 6, 4, 2, 1, 0, 0, 1, 2, 1, 10, 1, 2, 1, 2, 9, 5, 3, 1, 1, 1, 0, 0, 256]), (20, [2, 3, 4], [50, 1, 0, 10, 4, 7, 0, 3, 2, 0, 10, 1, 1, 1, 2, 1, 2, 0, -1]), (9, [3, 2], [11]), (20, [1, 2], [30, 0, 1, 0, 0, -1, 1, 11]), (101, [2, 3], [15]), (20, [1, 2], [30, 0, 1, 0, 0, -1, 1, 11]), (101, [2, 3], [13]), (20, [1, 2], [30, 0, 1, 0, 0, -1, 1, 11])], [], [], [(20, [1, 2], [30, 0, 1, 0, 0, -1, 1, 15]), (20, [2], [50, 2, 0, 11, 15, 1, 3, 2, 0, 11, 2, 0, 15])], [], [])
theorem oo_Mo_next_5 {kA : Nat → ClassId} : or_ok PRD kA GG o_Mo_next_5 := by
  refine or_mk fun A ta ws vs hD hth hl => ?_
  intro t0 r0 t1 k1 t2 r2 t3 k3 t4 k4 f0 f1 f2 f3 f4 ta1 w1 le1 s1 f6 f7 f8 ta2 w2 le2 s2 f10 f11 f12 f13 ta3 w3 le3 s3 f15 ta4 w4 le4 s4 f17
  replace f3 := shm_1395 f3
  replace f4 := shm_5 f4
  have s1 : (∀ b j, w_el ws b j = w_el w1 b j) ∧ ∀ b j, w_fd ws b j = if b = v_ad (n_v vs 2) ∧ j = 14 then n_v vs 4 else w_fd w1 b j := s1.2
  have s2 : (∀ b j, w_el w1 b j = w_el w2 b j) ∧ ∀ b j, w_fd w1 b j = if b = v_ad (n_v vs 2) ∧ j = 12 then n_v vs 5 else w_fd w2 b j := s2.2
  replace f12 := shm_117 f12
  have s3 : (∀ b j, w_el w2 b j = w_el w3 b j) ∧ ∀ b j, w_fd w2 b j = if b = v_ad (n_v vs 2) ∧ j = 15 then n_v vs 3 else w_fd w3 b j := s3.2
  have s4 : (∀ b j, w_el w3 b j = w_el w4 b j) ∧ ∀ b j, w_fd w3 b j = if b = v_ad (n_v vs 2) ∧ j = 13 then n_v vs 3 else w_fd w4 b j := s4.2
  have q2 : n_v vs 2 = n_v vs 0 := f4.symm
  simp only [q2] at f3
  rw [q2] at s1
  rw [q2] at s2
  simp only [q2] at f12
  rw [q2] at s3
  rw [q2] at s4
  have g12 : v_iv (n_v vs 3) = w_fi w2 (n_v vs 0) 11 := congrArg v_iv f12
  have fe_0_10_1 : w_fi ws (n_v vs 0) 10 = w_fi w1 (n_v vs 0) 10 := by show v_iv (w_fd _ _ _) = v_iv (w_fd _ _ _); rw [s1.2, if_neg (fun e => absurd e.2 (by decide))]
  have fe_0_11_1 : w_fi ws (n_v vs 0) 11 = w_fi w1 (n_v vs 0) 11 := by show v_iv (w_fd _ _ _) = v_iv (w_fd _ _ _); rw [s1.2, if_neg (fun e => absurd e.2 (by decide))]
  have fe_0_15_1 : w_fi ws (n_v vs 0) 15 = w_fi w1 (n_v vs 0) 15 := by show v_iv (w_fd _ _ _) = v_iv (w_fd _ _ _); rw [s1.2, if_neg (fun e => absurd e.2 (by decide))]
  have fe_0_10_2 : w_fi w1 (n_v vs 0) 10 = w_fi w2 (n_v vs 0) 10 := by show v_iv (w_fd _ _ _) = v_iv (w_fd _ _ _); rw [s2.2, if_neg (fun e => absurd e.2 (by decide))]
  have fe_0_11_2 : w_fi w1 (n_v vs 0) 11 = w_fi w2 (n_v vs 0) 11 := by show v_iv (w_fd _ _ _) = v_iv (w_fd _ _ _); rw [s2.2, if_neg (fun e => absurd e.2 (by decide))]
  have fe_0_15_2 : w_fi w1 (n_v vs 0) 15 = w_fi w2 (n_v vs 0) 15 := by show v_iv (w_fd _ _ _) = v_iv (w_fd _ _ _); rw [s2.2, if_neg (fun e => absurd e.2 (by decide))]
  have fe_0_10_3 : w_fi w2 (n_v vs 0) 10 = w_fi w3 (n_v vs 0) 10 := by show v_iv (w_fd _ _ _) = v_iv (w_fd _ _ _); rw [s3.2, if_neg (fun e => absurd e.2 (by decide))]
  have fe_0_11_3 : w_fi w2 (n_v vs 0) 11 = w_fi w3 (n_v vs 0) 11 := by show v_iv (w_fd _ _ _) = v_iv (w_fd _ _ _); rw [s3.2, if_neg (fun e => absurd e.2 (by decide))]
  have fe_0_15_3 : w_fi w2 (n_v vs 0) 15 = v_iv (n_v vs 3) := by show v_iv (w_fd _ _ _) = _; rw [s3.2, if_pos ⟨rfl, rfl⟩]
  have fe_0_11_4 : w_fi w3 (n_v vs 0) 11 = w_fi w4 (n_v vs 0) 11 := by show v_iv (w_fd _ _ _) = v_iv (w_fd _ _ _); rw [s4.2, if_neg (fun e => absurd e.2 (by decide))]
  have hE_0_1_1 : ∀ j : Int, w_ei ws (w_ar ws (n_v vs 0) 1) j = w_ei w1 (w_ar ws (n_v vs 0) 1) j := fun j => s1.1 _ _
  have hE_0_1_2 : ∀ j : Int, w_ei w1 (w_ar ws (n_v vs 0) 1) j = w_ei w2 (w_ar ws (n_v vs 0) 1) j := fun j => s2.1 _ _
  have hE_0_1_3 : ∀ j : Int, w_ei w2 (w_ar ws (n_v vs 0) 1) j = w_ei w3 (w_ar ws (n_v vs 0) 1) j := fun j => s3.1 _ _
  have hE_0_1_4 : ∀ j : Int, w_ei w3 (w_ar ws (n_v vs 0) 1) j = w_ei w4 (w_ar ws (n_v vs 0) 1) j := fun j => s4.1 _ _
  have kz_0_10 := fdq_50 hD hth r0
  have kz_0_11 := fdq_273 hD hth r0
  have kz_0_15 := fdq_274 hD hth r0
  have nf0 : fc_1 PRD (20, [1, 2], [30, 0, 1, 0, 0, -1, 1, 15]) ws (vs) := by
    refine ⟨nf_in hl rfl, sgq_1396 ?_⟩
    · show 1 * v_iv (n_v vs 1) + ((-1) * w_fi ws (n_v vs 2) 15 + 0) ≤ 0
      rw [q2]
      exact vc_Mo_next_5_0 (v_iv (n_v vs 1)) (v_iv (n_v vs 3)) (w_ei ws (w_ar ws (n_v vs 0) 1)) (w_fi ws (n_v vs 0) 10) (w_fi ws (n_v vs 0) 11) (w_ei w1 (w_ar ws (n_v vs 0) 1)) (w_fi w1 (n_v vs 0) 10) (w_fi w1 (n_v vs 0) 11) (w_ei w2 (w_ar ws (n_v vs 0) 1)) (w_fi w2 (n_v vs 0) 10) (w_fi w2 (n_v vs 0) 11) (w_fi w3 (n_v vs 0) 11) (w_fi w4 (n_v vs 0) 11) (w_fi ws (n_v vs 0) 15) (w_fi w1 (n_v vs 0) 15) (w_fi w2 (n_v vs 0) 15) (w_fi w3 (n_v vs 0) 10) (w_ei w3 (w_ar ws (n_v vs 0) 1)) (w_ei w4 (w_ar ws (n_v vs 0) 1)) k1 k3 f3 g12 fe_0_10_1 fe_0_11_1 fe_0_15_1 fe_0_10_2 fe_0_11_2 fe_0_15_2 fe_0_10_3 fe_0_11_3 fe_0_15_3 fe_0_11_4 hE_0_1_1 hE_0_1_2 hE_0_1_3 hE_0_1_4 kz_0_10 kz_0_11 kz_0_15
  have nf1 : fc_1 PRD (20, [2], [50, 2, 0, 11, 15, 1, 3, 2, 0, 11, 2, 0, 15]) ws (vs) := by
    refine ⟨nf_in hl rfl, sgq_1399 ?_⟩
    · show w_fi ws (n_v vs 2) 11 = w_fi ws (n_v vs 2) 15
      rw [q2]
      exact vc_Mo_next_5_1 (v_iv (n_v vs 3)) (w_ei ws (w_ar ws (n_v vs 0) 1)) (w_fi ws (n_v vs 0) 10) (w_fi ws (n_v vs 0) 11) (w_ei w1 (w_ar ws (n_v vs 0) 1)) (w_fi w1 (n_v vs 0) 10) (w_fi w1 (n_v vs 0) 11) (w_ei w2 (w_ar ws (n_v vs 0) 1)) (w_fi w2 (n_v vs 0) 10) (w_fi w2 (n_v vs 0) 11) (w_fi w3 (n_v vs 0) 11) (w_fi w4 (n_v vs 0) 11) (w_fi ws (n_v vs 0) 15) (w_fi w1 (n_v vs 0) 15) (w_fi w2 (n_v vs 0) 15) (w_fi w3 (n_v vs 0) 10) (w_ei w3 (w_ar ws (n_v vs 0) 1)) (w_ei w4 (w_ar ws (n_v vs 0) 1)) k3 g12 fe_0_10_1 fe_0_11_1 fe_0_15_1 fe_0_10_2 fe_0_11_2 fe_0_15_2 fe_0_10_3 fe_0_11_3 fe_0_15_3 fe_0_11_4 hE_0_1_1 hE_0_1_2 hE_0_1_3 hE_0_1_4 kz_0_10 kz_0_11 kz_0_15
  refine ⟨(fun _ h => (by cases h)), [], trivial, ?_, (fun _ h => (by cases h))⟩
  rw [List.append_nil]
  exact List.forall_mem_cons.mpr ⟨⟨show (20 : Nat) < 100 from by decide, nf0⟩, List.forall_mem_cons.mpr ⟨⟨show (20 : Nat) < 100 from by decide, nf1⟩, (fun _ h => (by cases h))⟩⟩
set_option maxHeartbeats 4000000 in
theorem vc_Mo_next_6_0 (x1 : Int) (x3 : Int) (tape_0 : Int → Int) (limit_0 : Int) (pos_0 : Int) (tape_1 : Int → Int) (limit_1 : Int) (pos_1 : Int) (tape_2 : Int → Int) (limit_2 : Int) (pos_2 : Int) (pos_3 : Int) (pos_4 : Int) (from_0 : Int) (from_1 : Int) (from_2 : Int) (limit_3 : Int) (tape_3 : Int → Int) (tape_4 : Int → Int) (k1 : 0 ≤ x1 ∧ x1 ≤ 2000) (k3 : 0 ≤ x3 ∧ x3 ≤ 1999) (f3 : 1 * x1 + ((-1) * pos_0 + 0) ≤ 0) (g12 : x3 = pos_2) (fe_0_10_1 : limit_0 = limit_1) (fe_0_11_1 : pos_0 = pos_1) (fe_0_15_1 : from_0 = from_1) (fe_0_10_2 : limit_1 = limit_2) (fe_0_11_2 : pos_1 = pos_2) (fe_0_15_2 : from_1 = from_2) (fe_0_10_3 : limit_2 = limit_3) (fe_0_11_3 : pos_2 = pos_3) (fe_0_15_3 : from_2 = x3) (fe_0_11_4 : pos_3 = pos_4) (hE_0_1_1 : ∀ j : Int, tape_0 j = tape_1 j) (hE_0_1_2 : ∀ j : Int, tape_1 j = tape_2 j) (hE_0_1_3 : ∀ j : Int, tape_2 j = tape_3 j) (hE_0_1_4 : ∀ j : Int, tape_3 j = tape_4 j) (kz_0_10 : 0 ≤ limit_0 ∧ limit_0 ≤ 2000) (kz_0_11 : 0 ≤ pos_0 ∧ pos_0 ≤ 2000) (kz_0_15 : 0 ≤ from_0 ∧ from_0 ≤ 2000) : 1 * x1 + ((-1) * from_0 + 0) ≤ 0 := by
  subst fe_0_10_1
  subst fe_0_11_1
  subst fe_0_15_1
  subst fe_0_10_2
  subst fe_0_11_2
  subst fe_0_15_2
  subst fe_0_10_3
  subst fe_0_11_3
  subst fe_0_11_4
  have e_hE_0_1_1 := funext hE_0_1_1; subst e_hE_0_1_1
  have e_hE_0_1_2 := funext hE_0_1_2; subst e_hE_0_1_2
  have e_hE_0_1_3 := funext hE_0_1_3; subst e_hE_0_1_3
  have e_hE_0_1_4 := funext hE_0_1_4; subst e_hE_0_1_4
  first | assumption | omega | grind
set_option maxHeartbeats 4000000 in
theorem vc_Mo_next_6_1 (x3 : Int) (tape_0 : Int → Int) (limit_0 : Int) (pos_0 : Int) (tape_1 : Int → Int) (limit_1 : Int) (pos_1 : Int) (tape_2 : Int → Int) (limit_2 : Int) (pos_2 : Int) (pos_3 : Int) (pos_4 : Int) (from_0 : Int) (from_1 : Int) (from_2 : Int) (limit_3 : Int) (tape_3 : Int → Int) (tape_4 : Int → Int) (k3 : 0 ≤ x3 ∧ x3 ≤ 1999) (g12 : x3 = pos_2) (fe_0_10_1 : limit_0 = limit_1) (fe_0_11_1 : pos_0 = pos_1) (fe_0_15_1 : from_0 = from_1) (fe_0_10_2 : limit_1 = limit_2) (fe_0_11_2 : pos_1 = pos_2) (fe_0_15_2 : from_1 = from_2) (fe_0_10_3 : limit_2 = limit_3) (fe_0_11_3 : pos_2 = pos_3) (fe_0_15_3 : from_2 = x3) (fe_0_11_4 : pos_3 = pos_4) (hE_0_1_1 : ∀ j : Int, tape_0 j = tape_1 j) (hE_0_1_2 : ∀ j : Int, tape_1 j = tape_2 j) (hE_0_1_3 : ∀ j : Int, tape_2 j = tape_3 j) (hE_0_1_4 : ∀ j : Int, tape_3 j = tape_4 j) (kz_0_10 : 0 ≤ limit_0 ∧ limit_0 ≤ 2000) (kz_0_11 : 0 ≤ pos_0 ∧ pos_0 ≤ 2000) (kz_0_15 : 0 ≤ from_0 ∧ from_0 ≤ 2000) : pos_0 = from_0 := by
  subst fe_0_10_1
  subst fe_0_11_1
  subst fe_0_15_1
  subst fe_0_10_2
  subst fe_0_11_2
  subst fe_0_15_2
  subst fe_0_10_3
  subst fe_0_11_3
  subst fe_0_11_4
  have e_hE_0_1_1 := funext hE_0_1_1; subst e_hE_0_1_1
  have e_hE_0_1_2 := funext hE_0_1_2; subst e_hE_0_1_2
  have e_hE_0_1_3 := funext hE_0_1_3; subst e_hE_0_1_3
  have e_hE_0_1_4 := funext hE_0_1_4; subst e_hE_0_1_4
  first | assumption | omega | grind
def o_Mo_next_6 : or_T := (277, 8, [(0, (2, 0, 0, [165])), (1, (0, 0, 2000, [])), (2, (2, 0, 0, [165])), (3, (0, 0, 1999, [])), (4, (0, 58, 64, []))], [(8, [4], [3]), (20, [3, 2, 4], [50, 1, 1, 1010, 1001, 4, 11, 0, 6, 4, 2, 1, 0, 0, 1, 2, 1, 10, 1, 2, 1, 2, 9, 5, 3, 1, 1, 1, 0, 0, 256]), (20, [2, 3, 4], [50, 1, 0, 10, 4, 7, 0, 3, 2, 0, 10, 1, 1, 1, 2, 1, 2, 0, -1]), (20, [1, 2], [30, 0, 1, 0, 0, -1, 1, 11]), (24, [0, 2], []), (101, [2, 4], [14]), (20, [3, 2, 4], [50, 1, 1, 1010, 1001, 4, 11, 0, 6, 4, 2, 1, 0, 0, 1, 2, 1, 10, 1, 2, 1, 2, 9, 5, 3, 1, 1, 1, 0, 0, 256]), (20, [2, 3, 4], [50, 1, 0, 10, 4, 7, 0, 3, 2, 0, 10, 1, 1, 1, 2, 1, 2, 0, -1]), (20, [1, 2], [30, 0, 1, 0, 0, -1, 1, 11]), (101, [2, 5], [12]), (20, [3, 2, 4], [50, 1, 1, 1010, 1001, 4, 11, 0, 6, 4, 2, 1, 0, 0, 1, 2, 1, 10, 1, 2, 1, 2, 9, 5, 3, 1, 1, 1, 0, 0, 256]), (20, [2, 3, 4], [50, 1, 0, 10, 4, 7, 0, 3, 2, 0, 10, 1, 1, 1, 2, 1, 2, 0, -1]), (9, [3, 2], [11]), (20, [1, 2], [30, 0, 1, 0, 0, -1, 1, 11]), (101, [2, 3], [15]), (20, [1, 2], [30, 0, 1, 0, 0, -1, 1, 11]), (101, [2, 3], [13]), (20, [1, 2], [30, 0, 1, 0, 0, -1, 1, 11])], [], [], [(20, [1, 2], [30, 0, 1, 0, 0, -1, 1, 15]), (20, [2], [50, 2, 0, 11, 15, 1, 3, 2, 0, 11, 2, 0, 15])], [], [])
theorem oo_Mo_next_6 {kA : Nat → ClassId} : or_ok PRD kA GG o_Mo_next_6 := by
  refine or_mk fun A ta ws vs hD hth hl => ?_
  intro t0 r0 t1 k1 t2 r2 t3 k3 t4 k4 f0 f1 f2 f3 f4 ta1 w1 le1 s1 f6 f7 f8 ta2 w2 le2 s2 f10 f11 f12 f13 ta3 w3 le3 s3 f15 ta4 w4 le4 s4 f17
  replace f3 := shm_1395 f3
  replace f4 := shm_5 f4
  have s1 : (∀ b j, w_el ws b j = w_el w1 b j) ∧ ∀ b j, w_fd ws b j = if b = v_ad (n_v vs 2) ∧ j = 14 then n_v vs 4 else w_fd w1 b j := s1.2
  have s2 : (∀ b j, w_el w1 b j = w_el w2 b j) ∧ ∀ b j, w_fd w1 b j = if b = v_ad (n_v vs 2) ∧ j = 12 then n_v vs 5 else w_fd w2 b j := s2.2
  replace f12 := shm_117 f12
  have s3 : (∀ b j, w_el w2 b j = w_el w3 b j) ∧ ∀ b j, w_fd w2 b j = if b = v_ad (n_v vs 2) ∧ j = 15 then n_v vs 3 else w_fd w3 b j := s3.2
  have s4 : (∀ b j, w_el w3 b j = w_el w4 b j) ∧ ∀ b j, w_fd w3 b j = if b = v_ad (n_v vs 2) ∧ j = 13 then n_v vs 3 else w_fd w4 b j := s4.2
  have q2 : n_v vs 2 = n_v vs 0 := f4.symm
  simp only [q2] at f3
  rw [q2] at s1
  rw [q2] at s2
  simp only [q2] at f12
  rw [q2] at s3
  rw [q2] at s4
  have g12 : v_iv (n_v vs 3) = w_fi w2 (n_v vs 0) 11 := congrArg v_iv f12
  have fe_0_10_1 : w_fi ws (n_v vs 0) 10 = w_fi w1 (n_v vs 0) 10 := by show v_iv (w_fd _ _ _) = v_iv (w_fd _ _ _); rw [s1.2, if_neg (fun e => absurd e.2 (by decide))]
  have fe_0_11_1 : w_fi ws (n_v vs 0) 11 = w_fi w1 (n_v vs 0) 11 := by show v_iv (w_fd _ _ _) = v_iv (w_fd _ _ _); rw [s1.2, if_neg (fun e => absurd e.2 (by decide))]
  have fe_0_15_1 : w_fi ws (n_v vs 0) 15 = w_fi w1 (n_v vs 0) 15 := by show v_iv (w_fd _ _ _) = v_iv (w_fd _ _ _); rw [s1.2, if_neg (fun e => absurd e.2 (by decide))]
  have fe_0_10_2 : w_fi w1 (n_v vs 0) 10 = w_fi w2 (n_v vs 0) 10 := by show v_iv (w_fd _ _ _) = v_iv (w_fd _ _ _); rw [s2.2, if_neg (fun e => absurd e.2 (by decide))]
  have fe_0_11_2 : w_fi w1 (n_v vs 0) 11 = w_fi w2 (n_v vs 0) 11 := by show v_iv (w_fd _ _ _) = v_iv (w_fd _ _ _); rw [s2.2, if_neg (fun e => absurd e.2 (by decide))]
  have fe_0_15_2 : w_fi w1 (n_v vs 0) 15 = w_fi w2 (n_v vs 0) 15 := by show v_iv (w_fd _ _ _) = v_iv (w_fd _ _ _); rw [s2.2, if_neg (fun e => absurd e.2 (by decide))]
  have fe_0_10_3 : w_fi w2 (n_v vs 0) 10 = w_fi w3 (n_v vs 0) 10 := by show v_iv (w_fd _ _ _) = v_iv (w_fd _ _ _); rw [s3.2, if_neg (fun e => absurd e.2 (by decide))]
  have fe_0_11_3 : w_fi w2 (n_v vs 0) 11 = w_fi w3 (n_v vs 0) 11 := by show v_iv (w_fd _ _ _) = v_iv (w_fd _ _ _); rw [s3.2, if_neg (fun e => absurd e.2 (by decide))]
  have fe_0_15_3 : w_fi w2 (n_v vs 0) 15 = v_iv (n_v vs 3) := by show v_iv (w_fd _ _ _) = _; rw [s3.2, if_pos ⟨rfl, rfl⟩]
  have fe_0_11_4 : w_fi w3 (n_v vs 0) 11 = w_fi w4 (n_v vs 0) 11 := by show v_iv (w_fd _ _ _) = v_iv (w_fd _ _ _); rw [s4.2, if_neg (fun e => absurd e.2 (by decide))]
  have hE_0_1_1 : ∀ j : Int, w_ei ws (w_ar ws (n_v vs 0) 1) j = w_ei w1 (w_ar ws (n_v vs 0) 1) j := fun j => s1.1 _ _
  have hE_0_1_2 : ∀ j : Int, w_ei w1 (w_ar ws (n_v vs 0) 1) j = w_ei w2 (w_ar ws (n_v vs 0) 1) j := fun j => s2.1 _ _
  have hE_0_1_3 : ∀ j : Int, w_ei w2 (w_ar ws (n_v vs 0) 1) j = w_ei w3 (w_ar ws (n_v vs 0) 1) j := fun j => s3.1 _ _
  have hE_0_1_4 : ∀ j : Int, w_ei w3 (w_ar ws (n_v vs 0) 1) j = w_ei w4 (w_ar ws (n_v vs 0) 1) j := fun j => s4.1 _ _
  have kz_0_10 := fdq_50 hD hth r0
  have kz_0_11 := fdq_273 hD hth r0
  have kz_0_15 := fdq_274 hD hth r0
  have nf0 : fc_1 PRD (20, [1, 2], [30, 0, 1, 0, 0, -1, 1, 15]) ws (vs) := by
    refine ⟨nf_in hl rfl, sgq_1396 ?_⟩
    · show 1 * v_iv (n_v vs 1) + ((-1) * w_fi ws (n_v vs 2) 15 + 0) ≤ 0
      rw [q2]
      exact vc_Mo_next_6_0 (v_iv (n_v vs 1)) (v_iv (n_v vs 3)) (w_ei ws (w_ar ws (n_v vs 0) 1)) (w_fi ws (n_v vs 0) 10) (w_fi ws (n_v vs 0) 11) (w_ei w1 (w_ar ws (n_v vs 0) 1)) (w_fi w1 (n_v vs 0) 10) (w_fi w1 (n_v vs 0) 11) (w_ei w2 (w_ar ws (n_v vs 0) 1)) (w_fi w2 (n_v vs 0) 10) (w_fi w2 (n_v vs 0) 11) (w_fi w3 (n_v vs 0) 11) (w_fi w4 (n_v vs 0) 11) (w_fi ws (n_v vs 0) 15) (w_fi w1 (n_v vs 0) 15) (w_fi w2 (n_v vs 0) 15) (w_fi w3 (n_v vs 0) 10) (w_ei w3 (w_ar ws (n_v vs 0) 1)) (w_ei w4 (w_ar ws (n_v vs 0) 1)) k1 k3 f3 g12 fe_0_10_1 fe_0_11_1 fe_0_15_1 fe_0_10_2 fe_0_11_2 fe_0_15_2 fe_0_10_3 fe_0_11_3 fe_0_15_3 fe_0_11_4 hE_0_1_1 hE_0_1_2 hE_0_1_3 hE_0_1_4 kz_0_10 kz_0_11 kz_0_15
  have nf1 : fc_1 PRD (20, [2], [50, 2, 0, 11, 15, 1, 3, 2, 0, 11, 2, 0, 15]) ws (vs) := by
    refine ⟨nf_in hl rfl, sgq_1399 ?_⟩
    · show w_fi ws (n_v vs 2) 11 = w_fi ws (n_v vs 2) 15
      rw [q2]
      exact vc_Mo_next_6_1 (v_iv (n_v vs 3)) (w_ei ws (w_ar ws (n_v vs 0) 1)) (w_fi ws (n_v vs 0) 10) (w_fi ws (n_v vs 0) 11) (w_ei w1 (w_ar ws (n_v vs 0) 1)) (w_fi w1 (n_v vs 0) 10) (w_fi w1 (n_v vs 0) 11) (w_ei w2 (w_ar ws (n_v vs 0) 1)) (w_fi w2 (n_v vs 0) 10) (w_fi w2 (n_v vs 0) 11) (w_fi w3 (n_v vs 0) 11) (w_fi w4 (n_v vs 0) 11) (w_fi ws (n_v vs 0) 15) (w_fi w1 (n_v vs 0) 15) (w_fi w2 (n_v vs 0) 15) (w_fi w3 (n_v vs 0) 10) (w_ei w3 (w_ar ws (n_v vs 0) 1)) (w_ei w4 (w_ar ws (n_v vs 0) 1)) k3 g12 fe_0_10_1 fe_0_11_1 fe_0_15_1 fe_0_10_2 fe_0_11_2 fe_0_15_2 fe_0_10_3 fe_0_11_3 fe_0_15_3 fe_0_11_4 hE_0_1_1 hE_0_1_2 hE_0_1_3 hE_0_1_4 kz_0_10 kz_0_11 kz_0_15
  refine ⟨(fun _ h => (by cases h)), [], trivial, ?_, (fun _ h => (by cases h))⟩
  rw [List.append_nil]
  exact List.forall_mem_cons.mpr ⟨⟨show (20 : Nat) < 100 from by decide, nf0⟩, List.forall_mem_cons.mpr ⟨⟨show (20 : Nat) < 100 from by decide, nf1⟩, (fun _ h => (by cases h))⟩⟩
set_option maxHeartbeats 4000000 in
theorem vc_Mo_next_7_0 (x1 : Int) (x3 : Int) (tape_0 : Int → Int) (limit_0 : Int) (pos_0 : Int) (tape_1 : Int → Int) (limit_1 : Int) (pos_1 : Int) (tape_2 : Int → Int) (limit_2 : Int) (pos_2 : Int) (tape_3 : Int → Int) (limit_3 : Int) (pos_3 : Int) (pos_4 : Int) (pos_5 : Int) (from_0 : Int) (from_1 : Int) (from_2 : Int) (from_3 : Int) (limit_4 : Int) (tape_4 : Int → Int) (tape_5 : Int → Int) (k1 : 0 ≤ x1 ∧ x1 ≤ 2000) (k3 : 0 ≤ x3 ∧ x3 ≤ 1999) (f2 : 1 * x1 + ((-1) * pos_0 + 0) ≤ 0) (g16 : x3 = pos_3) (fe_0_10_1 : limit_0 = limit_1) (fe_0_11_1 : pos_0 = pos_1) (fe_0_15_1 : from_0 = from_1) (fe_0_10_2 : limit_1 = limit_2) (fe_0_11_2 : pos_1 = pos_2) (fe_0_15_2 : from_1 = from_2) (fe_0_10_3 : limit_2 = limit_3) (fe_0_11_3 : pos_2 = pos_3) (fe_0_15_3 : from_2 = from_3) (fe_0_10_4 : limit_3 = limit_4) (fe_0_11_4 : pos_3 = pos_4) (fe_0_15_4 : from_3 = x3) (fe_0_11_5 : pos_4 = pos_5) (hE_0_1_1 : ∀ j : Int, tape_0 j = tape_1 j) (hE_0_1_2 : ∀ j : Int, tape_1 j = tape_2 j) (hE_0_1_3 : ∀ j : Int, tape_2 j = tape_3 j) (hE_0_1_4 : ∀ j : Int, tape_3 j = tape_4 j) (hE_0_1_5 : ∀ j : Int, tape_4 j = tape_5 j) (kz_0_10 : 0 ≤ limit_0 ∧ limit_0 ≤ 2000) (kz_0_11 : 0 ≤ pos_0 ∧ pos_0 ≤ 2000) (kz_0_15 : 0 ≤ from_0 ∧ from_0 ≤ 2000) : 1 * x1 + ((-1) * from_0 + 0) ≤ 0 := by
  subst fe_0_10_1
  subst fe_0_11_1
  subst fe_0_15_1
  subst fe_0_10_2
  subst fe_0_11_2
  subst fe_0_15_2
  subst fe_0_10_3
  subst fe_0_11_3
  subst fe_0_15_3
  subst fe_0_10_4
  subst fe_0_11_4
  subst fe_0_11_5
  have e_hE_0_1_1 := funext hE_0_1_1; subst e_hE_0_1_1
  have e_hE_0_1_2 := funext hE_0_1_2; subst e_hE_0_1_2
  have e_hE_0_1_3 := funext hE_0_1_3; subst e_hE_0_1_3
  have e_hE_0_1_4 := funext hE_0_1_4; subst e_hE_0_1_4
  have e_hE_0_1_5 := funext hE_0_1_5; subst e_hE_0_1_5
  first | assumption | omega | grind
set_option maxHeartbeats 4000000 in
theorem vc_Mo_next_7_1 (x3 : Int) (x4 : Int) (tape_0 : Int → Int) (limit_0 : Int) (pos_0 : Int) (tape_1 : Int → Int) (limit_1 : Int) (pos_1 : Int) (tape_2 : Int → Int) (limit_2 : Int) (pos_2 : Int) (tape_3 : Int → Int) (limit_3 : Int) (pos_3 : Int) (pos_4 : Int) (pos_5 : Int) (from_0 : Int) (from_1 : Int) (from_2 : Int) (from_3 : Int) (limit_4 : Int) (tape_4 : Int → Int) (tape_5 : Int → Int) (k3 : 0 ≤ x3 ∧ x3 ≤ 1999) (k4 : 48 ≤ x4 ∧ x4 ≤ 57) (f0 : ((x3 + 1) ≤ limit_0) → (x4 = (tape_0 (x3) % 256))) (f1 : (limit_0 ≤ x3) → (x4 = (-1))) (g16 : x3 = pos_3) (fe_0_10_1 : limit_0 = limit_1) (fe_0_11_1 : pos_0 = pos_1) (fe_0_15_1 : from_0 = from_1) (fe_0_10_2 : limit_1 = limit_2) (fe_0_11_2 : pos_1 = pos_2) (fe_0_15_2 : from_1 = from_2) (fe_0_10_3 : limit_2 = limit_3) (fe_0_11_3 : pos_2 = pos_3) (fe_0_15_3 : from_2 = from_3) (fe_0_10_4 : limit_3 = limit_4) (fe_0_11_4 : pos_3 = pos_4) (fe_0_15_4 : from_3 = x3) (fe_0_11_5 : pos_4 = pos_5) (hE_0_1_1 : ∀ j : Int, tape_0 j = tape_1 j) (hE_0_1_2 : ∀ j : Int, tape_1 j = tape_2 j) (hE_0_1_3 : ∀ j : Int, tape_2 j = tape_3 j) (hE_0_1_4 : ∀ j : Int, tape_3 j = tape_4 j) (hE_0_1_5 : ∀ j : Int, tape_4 j = tape_5 j) (kz_0_10 : 0 ≤ limit_0 ∧ limit_0 ≤ 2000) (kz_0_11 : 0 ≤ pos_0 ∧ pos_0 ≤ 2000) (kz_0_15 : 0 ≤ from_0 ∧ from_0 ≤ 2000) : (from_0 ≤ pos_0) ∧ (((from_0 + 1) ≤ pos_0) ∨ ((pos_0 = from_0) ∧ (((from_0 + 1) ≤ limit_0) ∧ ((48 ≤ (tape_0 (from_0) % 256)) ∧ ((tape_0 (from_0) % 256) ≤ 57))))) := by
  subst fe_0_10_1
  subst fe_0_11_1
  subst fe_0_15_1
  subst fe_0_10_2
  subst fe_0_11_2
  subst fe_0_15_2
  subst fe_0_10_3
  subst fe_0_11_3
  subst fe_0_15_3
  subst fe_0_10_4
  subst fe_0_11_4
  subst fe_0_11_5
  have e_hE_0_1_1 := funext hE_0_1_1; subst e_hE_0_1_1
  have e_hE_0_1_2 := funext hE_0_1_2; subst e_hE_0_1_2
  have e_hE_0_1_3 := funext hE_0_1_3; subst e_hE_0_1_3
  have e_hE_0_1_4 := funext hE_0_1_4; subst e_hE_0_1_4
  have e_hE_0_1_5 := funext hE_0_1_5; subst e_hE_0_1_5
  first | assumption | omega | grind
def o_Mo_next_7 : or_T := (185, 9, [(0, (2, 0, 0, [165])), (1, (0, 0, 2000, [])), (3, (0, 0, 1999, [])), (4, (0, 48, 57, []))], [(20, [3, 2, 4], [50, 1, 1, 1010, 1001, 4, 11, 0, 6, 4, 2, 1, 0, 0, 1, 2, 1, 10, 1, 2, 1, 2, 9, 5, 3, 1, 1, 1, 0, 0, 256]), (20, [2, 3, 4], [50, 1, 0, 10, 4, 7, 0, 3, 2, 0, 10, 1, 1, 1, 2, 1, 2, 0, -1]), (20, [1, 2], [30, 0, 1, 0, 0, -1, 1, 11]), (24, [0, 2], []), (101, [2, 8], [14]), (101, [2, 4], [14]), (101, [2, 5], [12]), (9, [3, 2], [11]), (101, [2, 3], [15]), (101, [2, 3], [13])], [], [], [(20, [1, 2], [30, 0, 1, 0, 0, -1, 1, 15]), (20, [2], [50, 3, 1, 15, 11, 10, 1, 2, 8, 0, 3, 2, 0, 15, 2, 0, 11, 3, 12, 0, 7, 4, 3, 2, 0, 15, 0, 1, 2, 0, 11, 2, 8, 1, 3, 2, 0, 11, 2, 0, 15, 2, 12, 0, 7, 4, 3, 2, 0, 15, 0, 1, 2, 0, 10, 2, 14, 0, 2, 0, 48, 9, 6, 3, 0, 1, 2, 0, 15, 0, 256, 0, 10, 9, 6, 3, 0, 1, 2, 0, 15, 0, 256, 0, 57])], [], [])
theorem oo_Mo_next_7 {kA : Nat → ClassId} : or_ok PRD kA GG o_Mo_next_7 := by
  refine or_mk fun A ta ws vs hD hth hl => ?_
  intro t0 r0 t1 k1 t3 k3 t4 k4 f0 f1 f2 f3 ta1 w1 le1 s1 ta2 w2 le2 s2 ta3 w3 le3 s3 f16 ta4 w4 le4 s4 ta5 w5 le5 s5
  replace f0 := shm_535 f0
  replace f1 := shm_536 f1
  replace f2 := shm_1395 f2
  replace f3 := shm_5 f3
  have s1 : (∀ b j, w_el ws b j = w_el w1 b j) ∧ ∀ b j, w_fd ws b j = if b = v_ad (n_v vs 2) ∧ j = 14 then n_v vs 8 else w_fd w1 b j := s1.2
  have s2 : (∀ b j, w_el w1 b j = w_el w2 b j) ∧ ∀ b j, w_fd w1 b j = if b = v_ad (n_v vs 2) ∧ j = 14 then n_v vs 4 else w_fd w2 b j := s2.2
  have s3 : (∀ b j, w_el w2 b j = w_el w3 b j) ∧ ∀ b j, w_fd w2 b j = if b = v_ad (n_v vs 2) ∧ j = 12 then n_v vs 5 else w_fd w3 b j := s3.2
  replace f16 := shm_117 f16
  have s4 : (∀ b j, w_el w3 b j = w_el w4 b j) ∧ ∀ b j, w_fd w3 b j = if b = v_ad (n_v vs 2) ∧ j = 15 then n_v vs 3 else w_fd w4 b j := s4.2
  have s5 : (∀ b j, w_el w4 b j = w_el w5 b j) ∧ ∀ b j, w_fd w4 b j = if b = v_ad (n_v vs 2) ∧ j = 13 then n_v vs 3 else w_fd w5 b j := s5.2
  have q2 : n_v vs 2 = n_v vs 0 := f3.symm
  simp only [q2] at f0 f1 f2
  rw [q2] at s1
  rw [q2] at s2
  rw [q2] at s3
  simp only [q2] at f16
  rw [q2] at s4
  rw [q2] at s5
  have g16 : v_iv (n_v vs 3) = w_fi w3 (n_v vs 0) 11 := congrArg v_iv f16
  have fe_0_10_1 : w_fi ws (n_v vs 0) 10 = w_fi w1 (n_v vs 0) 10 := by show v_iv (w_fd _ _ _) = v_iv (w_fd _ _ _); rw [s1.2, if_neg (fun e => absurd e.2 (by decide))]
  have fe_0_11_1 : w_fi ws (n_v vs 0) 11 = w_fi w1 (n_v vs 0) 11 := by show v_iv (w_fd _ _ _) = v_iv (w_fd _ _ _); rw [s1.2, if_neg (fun e => absurd e.2 (by decide))]
  have fe_0_15_1 : w_fi ws (n_v vs 0) 15 = w_fi w1 (n_v vs 0) 15 := by show v_iv (w_fd _ _ _) = v_iv (w_fd _ _ _); rw [s1.2, if_neg (fun e => absurd e.2 (by decide))]
  have fe_0_10_2 : w_fi w1 (n_v vs 0) 10 = w_fi w2 (n_v vs 0) 10 := by show v_iv (w_fd _ _ _) = v_iv (w_fd _ _ _); rw [s2.2, if_neg (fun e => absurd e.2 (by decide))]
  have fe_0_11_2 : w_fi w1 (n_v vs 0) 11 = w_fi w2 (n_v vs 0) 11 := by show v_iv (w_fd _ _ _) = v_iv (w_fd _ _ _); rw [s2.2, if_neg (fun e => absurd e.2 (by decide))]
  have fe_0_15_2 : w_fi w1 (n_v vs 0) 15 = w_fi w2 (n_v vs 0) 15 := by show v_iv (w_fd _ _ _) = v_iv (w_fd _ _ _); rw [s2.2, if_neg (fun e => absurd e.2 (by decide))]
  have fe_0_10_3 : w_fi w2 (n_v vs 0) 10 = w_fi w3 (n_v vs 0) 10 := by show v_iv (w_fd _ _ _) = v_iv (w_fd _ _ _); rw [s3.2, if_neg (fun e => absurd e.2 (by decide))]
  have fe_0_11_3 : w_fi w2 (n_v vs 0) 11 = w_fi w3 (n_v vs 0) 11 := by show v_iv (w_fd _ _ _) = v_iv (w_fd _ _ _); rw [s3.2, if_neg (fun e => absurd e.2 (by decide))]
  have fe_0_15_3 : w_fi w2 (n_v vs 0) 15 = w_fi w3 (n_v vs 0) 15 := by show v_iv (w_fd _ _ _) = v_iv (w_fd _ _ _); rw [s3.2, if_neg (fun e => absurd e.2 (by decide))]
  have fe_0_10_4 : w_fi w3 (n_v vs 0) 10 = w_fi w4 (n_v vs 0) 10 := by show v_iv (w_fd _ _ _) = v_iv (w_fd _ _ _); rw [s4.2, if_neg (fun e => absurd e.2 (by decide))]
  have fe_0_11_4 : w_fi w3 (n_v vs 0) 11 = w_fi w4 (n_v vs 0) 11 := by show v_iv (w_fd _ _ _) = v_iv (w_fd _ _ _); rw [s4.2, if_neg (fun e => absurd e.2 (by decide))]
  have fe_0_15_4 : w_fi w3 (n_v vs 0) 15 = v_iv (n_v vs 3) := by show v_iv (w_fd _ _ _) = _; rw [s4.2, if_pos ⟨rfl, rfl⟩]
  have fe_0_11_5 : w_fi w4 (n_v vs 0) 11 = w_fi w5 (n_v vs 0) 11 := by show v_iv (w_fd _ _ _) = v_iv (w_fd _ _ _); rw [s5.2, if_neg (fun e => absurd e.2 (by decide))]
  have hE_0_1_1 : ∀ j : Int, w_ei ws (w_ar ws (n_v vs 0) 1) j = w_ei w1 (w_ar ws (n_v vs 0) 1) j := fun j => s1.1 _ _
  have hE_0_1_2 : ∀ j : Int, w_ei w1 (w_ar ws (n_v vs 0) 1) j = w_ei w2 (w_ar ws (n_v vs 0) 1) j := fun j => s2.1 _ _
  have hE_0_1_3 : ∀ j : Int, w_ei w2 (w_ar ws (n_v vs 0) 1) j = w_ei w3 (w_ar ws (n_v vs 0) 1) j := fun j => s3.1 _ _
  have hE_0_1_4 : ∀ j : Int, w_ei w3 (w_ar ws (n_v vs 0) 1) j = w_ei w4 (w_ar ws (n_v vs 0) 1) j := fun j => s4.1 _ _
  have hE_0_1_5 : ∀ j : Int, w_ei w4 (w_ar ws (n_v vs 0) 1) j = w_ei w5 (w_ar ws (n_v vs 0) 1) j := fun j => s5.1 _ _
  have kz_0_10 := fdq_50 hD hth r0
  have kz_0_11 := fdq_273 hD hth r0
  have kz_0_15 := fdq_274 hD hth r0
  have nf0 : fc_1 PRD (20, [1, 2], [30, 0, 1, 0, 0, -1, 1, 15]) ws (vs) := by
    refine ⟨nf_in hl rfl, sgq_1396 ?_⟩
    · show 1 * v_iv (n_v vs 1) + ((-1) * w_fi ws (n_v vs 2) 15 + 0) ≤ 0
      rw [q2]
      exact vc_Mo_next_7_0 (v_iv (n_v vs 1)) (v_iv (n_v vs 3)) (w_ei ws (w_ar ws (n_v vs 0) 1)) (w_fi ws (n_v vs 0) 10) (w_fi ws (n_v vs 0) 11) (w_ei w1 (w_ar ws (n_v vs 0) 1)) (w_fi w1 (n_v vs 0) 10) (w_fi w1 (n_v vs 0) 11) (w_ei w2 (w_ar ws (n_v vs 0) 1)) (w_fi w2 (n_v vs 0) 10) (w_fi w2 (n_v vs 0) 11) (w_ei w3 (w_ar ws (n_v vs 0) 1)) (w_fi w3 (n_v vs 0) 10) (w_fi w3 (n_v vs 0) 11) (w_fi w4 (n_v vs 0) 11) (w_fi w5 (n_v vs 0) 11) (w_fi ws (n_v vs 0) 15) (w_fi w1 (n_v vs 0) 15) (w_fi w2 (n_v vs 0) 15) (w_fi w3 (n_v vs 0) 15) (w_fi w4 (n_v vs 0) 10) (w_ei w4 (w_ar ws (n_v vs 0) 1)) (w_ei w5 (w_ar ws (n_v vs 0) 1)) k1 k3 f2 g16 fe_0_10_1 fe_0_11_1 fe_0_15_1 fe_0_10_2 fe_0_11_2 fe_0_15_2 fe_0_10_3 fe_0_11_3 fe_0_15_3 fe_0_10_4 fe_0_11_4 fe_0_15_4 fe_0_11_5 hE_0_1_1 hE_0_1_2 hE_0_1_3 hE_0_1_4 hE_0_1_5 kz_0_10 kz_0_11 kz_0_15
  have nf1 : fc_1 PRD (20, [2], [50, 3, 1, 15, 11, 10, 1, 2, 8, 0, 3, 2, 0, 15, 2, 0, 11, 3, 12, 0, 7, 4, 3, 2, 0, 15, 0, 1, 2, 0, 11, 2, 8, 1, 3, 2, 0, 11, 2, 0, 15, 2, 12, 0, 7, 4, 3, 2, 0, 15, 0, 1, 2, 0, 10, 2, 14, 0, 2, 0, 48, 9, 6, 3, 0, 1, 2, 0, 15, 0, 256, 0, 10, 9, 6, 3, 0, 1, 2, 0, 15, 0, 256, 0, 57]) ws (vs) := by
    refine ⟨nf_in hl rfl, sgq_1400 ?_⟩
    · show (w_fi ws (n_v vs 2) 15 ≤ w_fi ws (n_v vs 2) 11) ∧ (((w_fi ws (n_v vs 2) 15 + 1) ≤ w_fi ws (n_v vs 2) 11) ∨ ((w_fi ws (n_v vs 2) 11 = w_fi ws (n_v vs 2) 15) ∧ (((w_fi ws (n_v vs 2) 15 + 1) ≤ w_fi ws (n_v vs 2) 10) ∧ ((48 ≤ (w_ei ws (w_ar ws (n_v vs 2) 1) (w_fi ws (n_v vs 2) 15) % 256)) ∧ ((w_ei ws (w_ar ws (n_v vs 2) 1) (w_fi ws (n_v vs 2) 15) % 256) ≤ 57)))))
      rw [q2]
      exact vc_Mo_next_7_1 (v_iv (n_v vs 3)) (v_iv (n_v vs 4)) (w_ei ws (w_ar ws (n_v vs 0) 1)) (w_fi ws (n_v vs 0) 10) (w_fi ws (n_v vs 0) 11) (w_ei w1 (w_ar ws (n_v vs 0) 1)) (w_fi w1 (n_v vs 0) 10) (w_fi w1 (n_v vs 0) 11) (w_ei w2 (w_ar ws (n_v vs 0) 1)) (w_fi w2 (n_v vs 0) 10) (w_fi w2 (n_v vs 0) 11) (w_ei w3 (w_ar ws (n_v vs 0) 1)) (w_fi w3 (n_v vs 0) 10) (w_fi w3 (n_v vs 0) 11) (w_fi w4 (n_v vs 0) 11) (w_fi w5 (n_v vs 0) 11) (w_fi ws (n_v vs 0) 15) (w_fi w1 (n_v vs 0) 15) (w_fi w2 (n_v vs 0) 15) (w_fi w3 (n_v vs 0) 15) (w_fi w4 (n_v vs 0) 10) (w_ei w4 (w_ar ws (n_v vs 0) 1)) (w_ei w5 (w_ar ws (n_v vs 0) 1)) k3 k4 f0 f1 g16 fe_0_10_1 fe_0_11_1 fe_0_15_1 fe_0_10_2 fe_0_11_2 fe_0_15_2 fe_0_10_3 fe_0_11_3 fe_0_15_3 fe_0_10_4 fe_0_11_4 fe_0_15_4 fe_0_11_5 hE_0_1_1 hE_0_1_2 hE_0_1_3 hE_0_1_4 hE_0_1_5 kz_0_10 kz_0_11 kz_0_15
  refine ⟨(fun _ h => (by cases h)), [], trivial, ?_, (fun _ h => (by cases h))⟩
  rw [List.append_nil]
  exact List.forall_mem_cons.mpr ⟨⟨show (20 : Nat) < 100 from by decide, nf0⟩, List.forall_mem_cons.mpr ⟨⟨show (20 : Nat) < 100 from by decide, nf1⟩, (fun _ h => (by cases h))⟩⟩
set_option maxHeartbeats 4000000 in
theorem vc_Mo_next_8_0 (x1 : Int) (x3 : Int) (tape_0 : Int → Int) (limit_0 : Int) (pos_0 : Int) (tape_1 : Int → Int) (limit_1 : Int) (pos_1 : Int) (tape_2 : Int → Int) (limit_2 : Int) (pos_2 : Int) (pos_3 : Int) (pos_4 : Int) (from_0 : Int) (from_1 : Int) (from_2 : Int) (limit_3 : Int) (tape_3 : Int → Int) (tape_4 : Int → Int) (k1 : 0 ≤ x1 ∧ x1 ≤ 2000) (k3 : 0 ≤ x3 ∧ x3 ≤ 1999) (f3 : 1 * x1 + ((-1) * pos_0 + 0) ≤ 0) (g12 : x3 = pos_2) (fe_0_10_1 : limit_0 = limit_1) (fe_0_11_1 : pos_0 = pos_1) (fe_0_15_1 : from_0 = from_1) (fe_0_10_2 : limit_1 = limit_2) (fe_0_11_2 : pos_1 = pos_2) (fe_0_15_2 : from_1 = from_2) (fe_0_10_3 : limit_2 = limit_3) (fe_0_11_3 : pos_2 = pos_3) (fe_0_15_3 : from_2 = x3) (fe_0_11_4 : pos_3 = pos_4) (hE_0_1_1 : ∀ j : Int, tape_0 j = tape_1 j) (hE_0_1_2 : ∀ j : Int, tape_1 j = tape_2 j) (hE_0_1_3 : ∀ j : Int, tape_2 j = tape_3 j) (hE_0_1_4 : ∀ j : Int, tape_3 j = tape_4 j) (kz_0_10 : 0 ≤ limit_0 ∧ limit_0 ≤ 2000) (kz_0_11 : 0 ≤ pos_0 ∧ pos_0 ≤ 2000) (kz_0_15 : 0 ≤ from_0 ∧ from_0 ≤ 2000) : 1 * x1 + ((-1) * from_0 + 0) ≤ 0 := by
  subst fe_0_10_1
  subst fe_0_11_1
  subst fe_0_15_1
  subst fe_0_10_2
  subst fe_0_11_2
  subst fe_0_15_2
  subst fe_0_10_3
  subst fe_0_11_3
  subst fe_0_11_4
  have e_hE_0_1_1 := funext hE_0_1_1; subst e_hE_0_1_1
  have e_hE_0_1_2 := funext hE_0_1_2; subst e_hE_0_1_2
  have e_hE_0_1_3 := funext hE_0_1_3; subst e_hE_0_1_3
  have e_hE_0_1_4 := funext hE_0_1_4; subst e_hE_0_1_4
  first | assumption | omega | grind
set_option maxHeartbeats 4000000 in
theorem vc_Mo_next_8_1 (x3 : Int) (tape_0 : Int → Int) (limit_0 : Int) (pos_0 : Int) (tape_1 : Int → Int) (limit_1 : Int) (pos_1 : Int) (tape_2 : Int → Int) (limit_2 : Int) (pos_2 : Int) (pos_3 : Int) (pos_4 : Int) (from_0 : Int) (from_1 : Int) (from_2 : Int) (limit_3 : Int) (tape_3 : Int → Int) (tape_4 : Int → Int) (k3 : 0 ≤ x3 ∧ x3 ≤ 1999) (g12 : x3 = pos_2) (fe_0_10_1 : limit_0 = limit_1) (fe_0_11_1 : pos_0 = pos_1) (fe_0_15_1 : from_0 = from_1) (fe_0_10_2 : limit_1 = limit_2) (fe_0_11_2 : pos_1 = pos_2) (fe_0_15_2 : from_1 = from_2) (fe_0_10_3 : limit_2 = limit_3) (fe_0_11_3 : pos_2 = pos_3) (fe_0_15_3 : from_2 = x3) (fe_0_11_4 : pos_3 = pos_4) (hE_0_1_1 : ∀ j : Int, tape_0 j = tape_1 j) (hE_0_1_2 : ∀ j : Int, tape_1 j = tape_2 j) (hE_0_1_3 : ∀ j : Int, tape_2 j = tape_3 j) (hE_0_1_4 : ∀ j : Int, tape_3 j = tape_4 j) (kz_0_10 : 0 ≤ limit_0 ∧ limit_0 ≤ 2000) (kz_0_11 : 0 ≤ pos_0 ∧ pos_0 ≤ 2000) (kz_0_15 : 0 ≤ from_0 ∧ from_0 ≤ 2000) : pos_0 = from_0 := by
  subst fe_0_10_1
  subst fe_0_11_1
  subst fe_0_15_1
  subst fe_0_10_2
  subst fe_0_11_2
  subst fe_0_15_2
  subst fe_0_10_3
  subst fe_0_11_3
  subst fe_0_11_4
  have e_hE_0_1_1 := funext hE_0_1_1; subst e_hE_0_1_1
  have e_hE_0_1_2 := funext hE_0_1_2; subst e_hE_0_1_2
  have e_hE_0_1_3 := funext hE_0_1_3; subst e_hE_0_1_3
  have e_hE_0_1_4 := funext hE_0_1_4; subst e_hE_0_1_4
  first | assumption | omega | grind
def o_Mo_next_8 : or_T := (277, 8, [(0, (2, 0, 0, [165])), (1, (0, 0, 2000, [])), (2, (2, 0, 0, [165])), (3, (0, 0, 1999, [])), (4, (0, 91, 96, []))], [(8, [4], [3]), (20, [3, 2, 4], [50, 1, 1, 1010, 1001, 4, 11, 0, 6, 4, 2, 1, 0, 0, 1, 2, 1, 10, 1, 2, 1, 2, 9, 5, 3, 1, 1, 1, 0, 0, 256]), (20, [2, 3, 4], [50, 1, 0, 10, 4, 7, 0, 3, 2, 0, 10, 1, 1, 1, 2, 1, 2, 0, -1]), (20, [1, 2], [30, 0, 1, 0, 0, -1, 1, 11]), (24, [0, 2], []), (101, [2, 4], [14]), (20, [3, 2, 4], [50, 1, 1, 1010, 1001, 4, 11, 0, 6, 4, 2, 1, 0, 0, 1, 2, 1, 10, 1, 2, 1, 2, 9, 5, 3, 1, 1, 1, 0, 0, 256]), (20, [2, 3, 4], [50, 1, 0, 10, 4, 7, 0, 3, 2, 0, 10, 1, 1, 1, 2, 1, 2, 0, -1]), (20, [1, 2], [30, 0, 1, 0, 0, -1, 1, 11]), (101, [2, 5], [12]), (20, [3, 2, 4], [50, 1, 1, 1010, 1001, 4, 11, 0, 6, 4, 2, 1, 0, 0, 1, 2, 1, 10, 1, 2, 1, 2, 9, 5, 3, 1, 1, 1, 0, 0, 256]), (20, [2, 3, 4], [50, 1, 0, 10, 4, 7, 0, 3, 2, 0, 10, 1, 1, 1, 2, 1, 2, 0, -1]), (9, [3, 2], [11]), (20, [1, 2], [30, 0, 1, 0, 0, -1, 1, 11]), (101, [2, 3], [15]), (20, [1, 2], [30, 0, 1, 0, 0, -1, 1, 11]), (101, [2, 3], [13]), (20, [1, 2], [30, 0, 1, 0, 0, -1, 1, 11])], [], [], [(20, [1, 2], [30, 0, 1, 0, 0, -1, 1, 15]), (20, [2], [50, 2, 0, 11, 15, 1, 3, 2, 0, 11, 2, 0, 15])], [], [])
theorem oo_Mo_next_8 {kA : Nat → ClassId} : or_ok PRD kA GG o_Mo_next_8 := by
  refine or_mk fun A ta ws vs hD hth hl => ?_
  intro t0 r0 t1 k1 t2 r2 t3 k3 t4 k4 f0 f1 f2 f3 f4 ta1 w1 le1 s1 f6 f7 f8 ta2 w2 le2 s2 f10 f11 f12 f13 ta3 w3 le3 s3 f15 ta4 w4 le4 s4 f17
  replace f3 := shm_1395 f3
  replace f4 := shm_5 f4
  have s1 : (∀ b j, w_el ws b j = w_el w1 b j) ∧ ∀ b j, w_fd ws b j = if b = v_ad (n_v vs 2) ∧ j = 14 then n_v vs 4 else w_fd w1 b j := s1.2
  have s2 : (∀ b j, w_el w1 b j = w_el w2 b j) ∧ ∀ b j, w_fd w1 b j = if b = v_ad (n_v vs 2) ∧ j = 12 then n_v vs 5 else w_fd w2 b j := s2.2
  replace f12 := shm_117 f12
  have s3 : (∀ b j, w_el w2 b j = w_el w3 b j) ∧ ∀ b j, w_fd w2 b j = if b = v_ad (n_v vs 2) ∧ j = 15 then n_v vs 3 else w_fd w3 b j := s3.2
  have s4 : (∀ b j, w_el w3 b j = w_el w4 b j) ∧ ∀ b j, w_fd w3 b j = if b = v_ad (n_v vs 2) ∧ j = 13 then n_v vs 3 else w_fd w4 b j := s4.2
  have q2 : n_v vs 2 = n_v vs 0 := f4.symm
  simp only [q2] at f3
  rw [q2] at s1
  rw [q2] at s2
  simp only [q2] at f12
  rw [q2] at s3
  rw [q2] at s4
  have g12 : v_iv (n_v vs 3) = w_fi w2 (n_v vs 0) 11 := congrArg v_iv f12
  have fe_0_10_1 : w_fi ws (n_v vs 0) 10 = w_fi w1 (n_v vs 0) 10 := by show v_iv (w_fd _ _ _) = v_iv (w_fd _ _ _); rw [s1.2, if_neg (fun e => absurd e.2 (by decide))]
  have fe_0_11_1 : w_fi ws (n_v vs 0) 11 = w_fi w1 (n_v vs 0) 11 := by show v_iv (w_fd _ _ _) = v_iv (w_fd _ _ _); rw [s1.2, if_neg (fun e => absurd e.2 (by decide))]
  have fe_0_15_1 : w_fi ws (n_v vs 0) 15 = w_fi w1 (n_v vs 0) 15 := by show v_iv (w_fd _ _ _) = v_iv (w_fd _ _ _); rw [s1.2, if_neg (fun e => absurd e.2 (by decide))]
  have fe_0_10_2 : w_fi w1 (n_v vs 0) 10 = w_fi w2 (n_v vs 0) 10 := by show v_iv (w_fd _ _ _) = v_iv (w_fd _ _ _); rw [s2.2, if_neg (fun e => absurd e.2 (by decide))]
  have fe_0_11_2 : w_fi w1 (n_v vs 0) 11 = w_fi w2 (n_v vs 0) 11 := by show v_iv (w_fd _ _ _) = v_iv (w_fd _ _ _); rw [s2.2, if_neg (fun e => absurd e.2 (by decide))]
  have fe_0_15_2 : w_fi w1 (n_v vs 0) 15 = w_fi w2 (n_v vs 0) 15 := by show v_iv (w_fd _ _ _) = v_iv (w_fd _ _ _); rw [s2.2, if_neg (fun e => absurd e.2 (by decide))]
  have fe_0_10_3 : w_fi w2 (n_v vs 0) 10 = w_fi w3 (n_v vs 0) 10 := by show v_iv (w_fd _ _ _) = v_iv (w_fd _ _ _); rw [s3.2, if_neg (fun e => absurd e.2 (by decide))]
  have fe_0_11_3 : w_fi w2 (n_v vs 0) 11 = w_fi w3 (n_v vs 0) 11 := by show v_iv (w_fd _ _ _) = v_iv (w_fd _ _ _); rw [s3.2, if_neg (fun e => absurd e.2 (by decide))]
  have fe_0_15_3 : w_fi w2 (n_v vs 0) 15 = v_iv (n_v vs 3) := by show v_iv (w_fd _ _ _) = _; rw [s3.2, if_pos ⟨rfl, rfl⟩]
  have fe_0_11_4 : w_fi w3 (n_v vs 0) 11 = w_fi w4 (n_v vs 0) 11 := by show v_iv (w_fd _ _ _) = v_iv (w_fd _ _ _); rw [s4.2, if_neg (fun e => absurd e.2 (by decide))]
  have hE_0_1_1 : ∀ j : Int, w_ei ws (w_ar ws (n_v vs 0) 1) j = w_ei w1 (w_ar ws (n_v vs 0) 1) j := fun j => s1.1 _ _
  have hE_0_1_2 : ∀ j : Int, w_ei w1 (w_ar ws (n_v vs 0) 1) j = w_ei w2 (w_ar ws (n_v vs 0) 1) j := fun j => s2.1 _ _
  have hE_0_1_3 : ∀ j : Int, w_ei w2 (w_ar ws (n_v vs 0) 1) j = w_ei w3 (w_ar ws (n_v vs 0) 1) j := fun j => s3.1 _ _
  have hE_0_1_4 : ∀ j : Int, w_ei w3 (w_ar ws (n_v vs 0) 1) j = w_ei w4 (w_ar ws (n_v vs 0) 1) j := fun j => s4.1 _ _
  have kz_0_10 := fdq_50 hD hth r0
  have kz_0_11 := fdq_273 hD hth r0
  have kz_0_15 := fdq_274 hD hth r0
  have nf0 : fc_1 PRD (20, [1, 2], [30, 0, 1, 0, 0, -1, 1, 15]) ws (vs) := by
    refine ⟨nf_in hl rfl, sgq_1396 ?_⟩
    · show 1 * v_iv (n_v vs 1) + ((-1) * w_fi ws (n_v vs 2) 15 + 0) ≤ 0
      rw [q2]
      exact vc_Mo_next_8_0 (v_iv (n_v vs 1)) (v_iv (n_v vs 3)) (w_ei ws (w_ar ws (n_v vs 0) 1)) (w_fi ws (n_v vs 0) 10) (w_fi ws (n_v vs 0) 11) (w_ei w1 (w_ar ws (n_v vs 0) 1)) (w_fi w1 (n_v vs 0) 10) (w_fi w1 (n_v vs 0) 11) (w_ei w2 (w_ar ws (n_v vs 0) 1)) (w_fi w2 (n_v vs 0) 10) (w_fi w2 (n_v vs 0) 11) (w_fi w3 (n_v vs 0) 11) (w_fi w4 (n_v vs 0) 11) (w_fi ws (n_v vs 0) 15) (w_fi w1 (n_v vs 0) 15) (w_fi w2 (n_v vs 0) 15) (w_fi w3 (n_v vs 0) 10) (w_ei w3 (w_ar ws (n_v vs 0) 1)) (w_ei w4 (w_ar ws (n_v vs 0) 1)) k1 k3 f3 g12 fe_0_10_1 fe_0_11_1 fe_0_15_1 fe_0_10_2 fe_0_11_2 fe_0_15_2 fe_0_10_3 fe_0_11_3 fe_0_15_3 fe_0_11_4 hE_0_1_1 hE_0_1_2 hE_0_1_3 hE_0_1_4 kz_0_10 kz_0_11 kz_0_15
  have nf1 : fc_1 PRD (20, [2], [50, 2, 0, 11, 15, 1, 3, 2, 0, 11, 2, 0, 15]) ws (vs) := by
    refine ⟨nf_in hl rfl, sgq_1399 ?_⟩
    · show w_fi ws (n_v vs 2) 11 = w_fi ws (n_v vs 2) 15
      rw [q2]
      exact vc_Mo_next_8_1 (v_iv (n_v vs 3)) (w_ei ws (w_ar ws (n_v vs 0) 1)) (w_fi ws (n_v vs 0) 10) (w_fi ws (n_v vs 0) 11) (w_ei w1 (w_ar ws (n_v vs 0) 1)) (w_fi w1 (n_v vs 0) 10) (w_fi w1 (n_v vs 0) 11) (w_ei w2 (w_ar ws (n_v vs 0) 1)) (w_fi w2 (n_v vs 0) 10) (w_fi w2 (n_v vs 0) 11) (w_fi w3 (n_v vs 0) 11) (w_fi w4 (n_v vs 0) 11) (w_fi ws (n_v vs 0) 15) (w_fi w1 (n_v vs 0) 15) (w_fi w2 (n_v vs 0) 15) (w_fi w3 (n_v vs 0) 10) (w_ei w3 (w_ar ws (n_v vs 0) 1)) (w_ei w4 (w_ar ws (n_v vs 0) 1)) k3 g12 fe_0_10_1 fe_0_11_1 fe_0_15_1 fe_0_10_2 fe_0_11_2 fe_0_15_2 fe_0_10_3 fe_0_11_3 fe_0_15_3 fe_0_11_4 hE_0_1_1 hE_0_1_2 hE_0_1_3 hE_0_1_4 kz_0_10 kz_0_11 kz_0_15
  refine ⟨(fun _ h => (by cases h)), [], trivial, ?_, (fun _ h => (by cases h))⟩
  rw [List.append_nil]
  exact List.forall_mem_cons.mpr ⟨⟨show (20 : Nat) < 100 from by decide, nf0⟩, List.forall_mem_cons.mpr ⟨⟨show (20 : Nat) < 100 from by decide, nf1⟩, (fun _ h => (by cases h))⟩⟩
set_option maxHeartbeats 4000000 in
theorem vc_Mo_next_9_0 (x1 : Int) (x3 : Int) (tape_0 : Int → Int) (limit_0 : Int) (pos_0 : Int) (tape_1 : Int → Int) (limit_1 : Int) (pos_1 : Int) (tape_2 : Int → Int) (limit_2 : Int) (pos_2 : Int) (pos_3 : Int) (pos_4 : Int) (from_0 : Int) (from_1 : Int) (from_2 : Int) (limit_3 : Int) (tape_3 : Int → Int) (tape_4 : Int → Int) (k1 : 0 ≤ x1 ∧ x1 ≤ 2000) (k3 : 0 ≤ x3 ∧ x3 ≤ 1999) (f3 : 1 * x1 + ((-1) * pos_0 + 0) ≤ 0) (g12 : x3 = pos_2) (fe_0_10_1 : limit_0 = limit_1) (fe_0_11_1 : pos_0 = pos_1) (fe_0_15_1 : from_0 = from_1) (fe_0_10_2 : limit_1 = limit_2) (fe_0_11_2 : pos_1 = pos_2) (fe_0_15_2 : from_1 = from_2) (fe_0_10_3 : limit_2 = limit_3) (fe_0_11_3 : pos_2 = pos_3) (fe_0_15_3 : from_2 = x3) (fe_0_11_4 : pos_3 = pos_4) (hE_0_1_1 : ∀ j : Int, tape_0 j = tape_1 j) (hE_0_1_2 : ∀ j : Int, tape_1 j = tape_2 j) (hE_0_1_3 : ∀ j : Int, tape_2 j = tape_3 j) (hE_0_1_4 : ∀ j : Int, tape_3 j = tape_4 j) (kz_0_10 : 0 ≤ limit_0 ∧ limit_0 ≤ 2000) (kz_0_11 : 0 ≤ pos_0 ∧ pos_0 ≤ 2000) (kz_0_15 : 0 ≤ from_0 ∧ from_0 ≤ 2000) : 1 * x1 + ((-1) * from_0 + 0) ≤ 0 := by
  subst fe_0_10_1
  subst fe_0_11_1
  subst fe_0_15_1
  subst fe_0_10_2
  subst fe_0_11_2
  subst fe_0_15_2
  subst fe_0_10_3
  subst fe_0_11_3
  subst fe_0_11_4
  have e_hE_0_1_1 := funext hE_0_1_1; subst e_hE_0_1_1
  have e_hE_0_1_2 := funext hE_0_1_2; subst e_hE_0_1_2
  have e_hE_0_1_3 := funext hE_0_1_3; subst e_hE_0_1_3
  have e_hE_0_1_4 := funext hE_0_1_4; subst e_hE_0_1_4
  first | assumption | omega | grind
set_option maxHeartbeats 4000000 in
theorem vc_Mo_next_9_1 (x3 : Int) (x4 : Int) (tape_0 : Int → Int) (limit_0 : Int) (pos_0 : Int) (tape_1 : Int → Int) (limit_1 : Int) (pos_1 : Int) (tape_2 : Int → Int) (limit_2 : Int) (pos_2 : Int) (pos_3 : Int) (pos_4 : Int) (from_0 : Int) (from_1 : Int) (from_2 : Int) (limit_3 : Int) (tape_3 : Int → Int) (tape_4 : Int → Int) (k3 : 0 ≤ x3 ∧ x3 ≤ 1999) (k4 : 65 ≤ x4 ∧ x4 ≤ 90) (f1 : ((x3 + 1) ≤ limit_0) → (x4 = (tape_0 (x3) % 256))) (f2 : (limit_0 ≤ x3) → (x4 = (-1))) (g12 : x3 = pos_2) (fe_0_10_1 : limit_0 = limit_1) (fe_0_11_1 : pos_0 = pos_1) (fe_0_15_1 : from_0 = from_1) (fe_0_10_2 : limit_1 = limit_2) (fe_0_11_2 : pos_1 = pos_2) (fe_0_15_2 : from_1 = from_2) (fe_0_10_3 : limit_2 = limit_3) (fe_0_11_3 : pos_2 = pos_3) (fe_0_15_3 : from_2 = x3) (fe_0_11_4 : pos_3 = pos_4) (hE_0_1_1 : ∀ j : Int, tape_0 j = tape_1 j) (hE_0_1_2 : ∀ j : Int, tape_1 j = tape_2 j) (hE_0_1_3 : ∀ j : Int, tape_2 j = tape_3 j) (hE_0_1_4 : ∀ j : Int, tape_3 j = tape_4 j) (kz_0_10 : 0 ≤ limit_0 ∧ limit_0 ≤ 2000) (kz_0_11 : 0 ≤ pos_0 ∧ pos_0 ≤ 2000) (kz_0_15 : 0 ≤ from_0 ∧ from_0 ≤ 2000) : (from_0 ≤ pos_0) ∧ (((from_0 + 1) ≤ pos_0) ∨ ((pos_0 = from_0) ∧ (((from_0 + 1) ≤ limit_0) ∧ (((65 ≤ (tape_0 (from_0) % 256)) ∧ ((tape_0 (from_0) % 256) ≤ 90)) ∨ ((97 ≤ (tape_0 (from_0) % 256)) ∧ ((tape_0 (from_0) % 256) ≤ 122)))))) := by
  subst fe_0_10_1
  subst fe_0_11_1
  subst fe_0_15_1
  subst fe_0_10_2
  subst fe_0_11_2
  subst fe_0_15_2
  subst fe_0_10_3
  subst fe_0_11_3
  subst fe_0_11_4
  have e_hE_0_1_1 := funext hE_0_1_1; subst e_hE_0_1_1
  have e_hE_0_1_2 := funext hE_0_1_2; subst e_hE_0_1_2
  have e_hE_0_1_3 := funext hE_0_1_3; subst e_hE_0_1_3
  have e_hE_0_1_4 := funext hE_0_1_4; subst e_hE_0_1_4
  first | assumption | omega | grind
def o_Mo_next_9 : or_T := (93, 7, [(0, (2, 0, 0, [165])), (1, (0, 0, 2000, [])), (2, (2, 0, 0, [165])), (3, (0, 0, 1999, [])), (4, (0, 65, 90, []))], [(8, [4], [3]), (20, [3, 2, 4], [50, 1, 1, 1010, 1001, 4, 11, 0, 6, 4, 2, 1, 0, 0, 1, 2, 1, 10, 1, 2, 1, 2, 9, 5, 3, 1, 1, 1, 0, 0, 256]), (20, [2, 3, 4], [50, 1, 0, 10, 4, 7, 0, 3, 2, 0, 10, 1, 1, 1, 2, 1, 2, 0, -1]), (20, [1, 2], [30, 0, 1, 0, 0, -1, 1, 11]), (24, [0, 2], []), (101, [2, 4], [14]), (20, [3, 2, 4], [50, 1, 1, 1010, 1001, 4, 11, 0, 6, 4, 2, 1, 0, 0, 1, 2, 1, 10, 1, 2, 1, 2, 9, 5, 3, 1, 1, 1, 0, 0, 256]), (20, [2, 3, 4], [50, 1, 0, 10, 4, 7, 0, 3, 2, 0, 10, 1, 1, 1, 2, 1, 2, 0, -1]), (20, [1, 2], [30, 0, 1, 0, 0, -1, 1, 11]), (101, [2, 5], [12]), (20, [3, 2, 4], [50, 1, 1, 1010, 1001, 4, 11, 0, 6, 4, 2, 1, 0, 0, 1, 2, 1, 10, 1, 2, 1, 2, 9, 5, 3, 1, 1, 1, 0, 0, 256]), (20, [2, 3, 4], [50, 1, 0, 10, 4, 7, 0, 3, 2, 0, 10, 1, 1, 1, 2, 1, 2, 0, -1]), (9, [3, 2], [11]), (20, [1, 2], [30, 0, 1, 0, 0, -1, 1, 11]), (101, [2, 3], [15]), (20, [1, 2], [30, 0, 1, 0, 0, -1, 1, 11]), (101, [2, 3], [13]), (20, [1, 2], [30, 0, 1, 0, 0, -1, 1, 11])], [], [], [(20, [1, 2], [30, 0, 1, 0, 0, -1, 1, 15]), (20, [2], [50, 3, 1, 15, 11, 10, 1, 2, 8, 0, 3, 2, 0, 15, 2, 0, 11, 3, 12, 0, 7, 4, 3, 2, 0, 15, 0, 1, 2, 0, 11, 2, 8, 1, 3, 2, 0, 11, 2, 0, 15, 2, 12, 0, 7, 4, 3, 2, 0, 15, 0, 1, 2, 0, 10, 3, 30, 2, 14, 0, 2, 0, 65, 9, 6, 3, 0, 1, 2, 0, 15, 0, 256, 0, 10, 9, 6, 3, 0, 1, 2, 0, 15, 0, 256, 0, 90, 2, 14, 0, 2, 0, 97, 9, 6, 3, 0, 1, 2, 0, 15, 0, 256, 0, 10, 9, 6, 3, 0, 1, 2, 0, 15, 0, 256, 0, 122])], [], [])
theorem oo_Mo_next_9 {kA : Nat → ClassId} : or_ok PRD kA GG o_Mo_next_9 := by
  refine or_mk fun A ta ws vs hD hth hl => ?_
  intro t0 r0 t1 k1 t2 r2 t3 k3 t4 k4 f0 f1 f2 f3 f4 ta1 w1 le1 s1 f6 f7 f8 ta2 w2 le2 s2 f10 f11 f12 f13 ta3 w3 le3 s3 f15 ta4 w4 le4 s4 f17
  replace f1 := shm_535 f1
  replace f2 := shm_536 f2
  replace f3 := shm_1395 f3
  replace f4 := shm_5 f4
  have s1 : (∀ b j, w_el ws b j = w_el w1 b j) ∧ ∀ b j, w_fd ws b j = if b = v_ad (n_v vs 2) ∧ j = 14 then n_v vs 4 else w_fd w1 b j := s1.2
  have s2 : (∀ b j, w_el w1 b j = w_el w2 b j) ∧ ∀ b j, w_fd w1 b j = if b = v_ad (n_v vs 2) ∧ j = 12 then n_v vs 5 else w_fd w2 b j := s2.2
  replace f12 := shm_117 f12
  have s3 : (∀ b j, w_el w2 b j = w_el w3 b j) ∧ ∀ b j, w_fd w2 b j = if b = v_ad (n_v vs 2) ∧ j = 15 then n_v vs 3 else w_fd w3 b j := s3.2
  have s4 : (∀ b j, w_el w3 b j = w_el w4 b j) ∧ ∀ b j, w_fd w3 b j = if b = v_ad (n_v vs 2) ∧ j = 13 then n_v vs 3 else w_fd w4 b j := s4.2
  have q2 : n_v vs 2 = n_v vs 0 := f4.symm
  simp only [q2] at f1 f2 f3
  rw [q2] at s1
  rw [q2] at s2
  simp only [q2] at f12
  rw [q2] at s3
  rw [q2] at s4
  have g12 : v_iv (n_v vs 3) = w_fi w2 (n_v vs 0) 11 := congrArg v_iv f12
  have fe_0_10_1 : w_fi ws (n_v vs 0) 10 = w_fi w1 (n_v vs 0) 10 := by show v_iv (w_fd _ _ _) = v_iv (w_fd _ _ _); rw [s1.2, if_neg (fun e => absurd e.2 (by decide))]
  have fe_0_11_1 : w_fi ws (n_v vs 0) 11 = w_fi w1 (n_v vs 0) 11 := by show v_iv (w_fd _ _ _) = v_iv (w_fd _ _ _); rw [s1.2, if_neg (fun e => absurd e.2 (by decide))]
  have fe_0_15_1 : w_fi ws (n_v vs 0) 15 = w_fi w1 (n_v vs 0) 15 := by show v_iv (w_fd _ _ _) = v_iv (w_fd _ _ _); rw [s1.2, if_neg (fun e => absurd e.2 (by decide))]
  have fe_0_10_2 : w_fi w1 (n_v vs 0) 10 = w_fi w2 (n_v vs 0) 10 := by show v_iv (w_fd _ _ _) = v_iv (w_fd _ _ _); rw [s2.2, if_neg (fun e => absurd e.2 (by decide))]
  have fe_0_11_2 : w_fi w1 (n_v vs 0) 11 = w_fi w2 (n_v vs 0) 11 := by show v_iv (w_fd _ _ _) = v_iv (w_fd _ _ _); rw [s2.2, if_neg (fun e => absurd e.2 (by decide))]
  have fe_0_15_2 : w_fi w1 (n_v vs 0) 15 = w_fi w2 (n_v vs 0) 15 := by show v_iv (w_fd _ _ _) = v_iv (w_fd _ _ _); rw [s2.2, if_neg (fun e => absurd e.2 (by decide))]
  have fe_0_10_3 : w_fi w2 (n_v vs 0) 10 = w_fi w3 (n_v vs 0) 10 := by show v_iv (w_fd _ _ _) = v_iv (w_fd _ _ _); rw [s3.2, if_neg (fun e => absurd e.2 (by decide))]
  have fe_0_11_3 : w_fi w2 (n_v vs 0) 11 = w_fi w3 (n_v vs 0) 11 := by show v_iv (w_fd _ _ _) = v_iv (w_fd _ _ _); rw [s3.2, if_neg (fun e => absurd e.2 (by decide))]
  have fe_0_15_3 : w_fi w2 (n_v vs 0) 15 = v_iv (n_v vs 3) := by show v_iv (w_fd _ _ _) = _; rw [s3.2, if_pos ⟨rfl, rfl⟩]
  have fe_0_11_4 : w_fi w3 (n_v vs 0) 11 = w_fi w4 (n_v vs 0) 11 := by show v_iv (w_fd _ _ _) = v_iv (w_fd _ _ _); rw [s4.2, if_neg (fun e => absurd e.2 (by decide))]
  have hE_0_1_1 : ∀ j : Int, w_ei ws (w_ar ws (n_v vs 0) 1) j = w_ei w1 (w_ar ws (n_v vs 0) 1) j := fun j => s1.1 _ _
  have hE_0_1_2 : ∀ j : Int, w_ei w1 (w_ar ws (n_v vs 0) 1) j = w_ei w2 (w_ar ws (n_v vs 0) 1) j := fun j => s2.1 _ _
  have hE_0_1_3 : ∀ j : Int, w_ei w2 (w_ar ws (n_v vs 0) 1) j = w_ei w3 (w_ar ws (n_v vs 0) 1) j := fun j => s3.1 _ _
  have hE_0_1_4 : ∀ j : Int, w_ei w3 (w_ar ws (n_v vs 0) 1) j = w_ei w4 (w_ar ws (n_v vs 0) 1) j := fun j => s4.1 _ _
  have kz_0_10 := fdq_50 hD hth r0
  have kz_0_11 := fdq_273 hD hth r0
  have kz_0_15 := fdq_274 hD hth r0
  have nf0 : fc_1 PRD (20, [1, 2], [30, 0, 1, 0, 0, -1, 1, 15]) ws (vs) := by
    refine ⟨nf_in hl rfl, sgq_1396 ?_⟩
    · show 1 * v_iv (n_v vs 1) + ((-1) * w_fi ws (n_v vs 2) 15 + 0) ≤ 0
      rw [q2]
      exact vc_Mo_next_9_0 (v_iv (n_v vs 1)) (v_iv (n_v vs 3)) (w_ei ws (w_ar ws (n_v vs 0) 1)) (w_fi ws (n_v vs 0) 10) (w_fi ws (n_v vs 0) 11) (w_ei w1 (w_ar ws (n_v vs 0) 1)) (w_fi w1 (n_v vs 0) 10) (w_fi w1 (n_v vs 0) 11) (w_ei w2 (w_ar ws (n_v vs 0) 1)) (w_fi w2 (n_v vs 0) 10) (w_fi w2 (n_v vs 0) 11) (w_fi w3 (n_v vs 0) 11) (w_fi w4 (n_v vs 0) 11) (w_fi ws (n_v vs 0) 15) (w_fi w1 (n_v vs 0) 15) (w_fi w2 (n_v vs 0) 15) (w_fi w3 (n_v vs 0) 10) (w_ei w3 (w_ar ws (n_v vs 0) 1)) (w_ei w4 (w_ar ws (n_v vs 0) 1)) k1 k3 f3 g12 fe_0_10_1 fe_0_11_1 fe_0_15_1 fe_0_10_2 fe_0_11_2 fe_0_15_2 fe_0_10_3 fe_0_11_3 fe_0_15_3 fe_0_11_4 hE_0_1_1 hE_0_1_2 hE_0_1_3 hE_0_1_4 kz_0_10 kz_0_11 kz_0_15
  have nf1 : fc_1 PRD (20, [2], [50, 3, 1, 15, 11, 10, 1, 2, 8, 0, 3, 2, 0, 15, 2, 0, 11, 3, 12, 0, 7, 4, 3, 2, 0, 15, 0, 1, 2, 0, 11, 2, 8, 1, 3, 2, 0, 11, 2, 0, 15, 2, 12, 0, 7, 4, 3, 2, 0, 15, 0, 1, 2, 0, 10, 3, 30, 2, 14, 0, 2, 0, 65, 9, 6, 3, 0, 1, 2, 0, 15, 0, 256, 0, 10, 9, 6, 3, 0, 1, 2, 0, 15, 0, 256, 0, 90, 2, 14, 0, 2, 0, 97, 9, 6, 3, 0, 1, 2, 0, 15, 0, 256, 0, 10, 9, 6, 3, 0, 1, 2, 0, 15, 0, 256, 0, 122]) ws (vs) := by
    refine ⟨nf_in hl rfl, sgq_1401 ?_⟩
    · show (w_fi ws (n_v vs 2) 15 ≤ w_fi ws (n_v vs 2) 11) ∧ (((w_fi ws (n_v vs 2) 15 + 1) ≤ w_fi ws (n_v vs 2) 11) ∨ ((w_fi ws (n_v vs 2) 11 = w_fi ws (n_v vs 2) 15) ∧ (((w_fi ws (n_v vs 2) 15 + 1) ≤ w_fi ws (n_v vs 2) 10) ∧ (((65 ≤ (w_ei ws (w_ar ws (n_v vs 2) 1) (w_fi ws (n_v vs 2) 15) % 256)) ∧ ((w_ei ws (w_ar ws (n_v vs 2) 1) (w_fi ws (n_v vs 2) 15) % 256) ≤ 90)) ∨ ((97 ≤ (w_ei ws (w_ar ws (n_v vs 2) 1) (w_fi ws (n_v vs 2) 15) % 256)) ∧ ((w_ei ws (w_ar ws (n_v vs 2) 1) (w_fi ws (n_v vs 2) 15) % 256) ≤ 122))))))
      rw [q2]
      exact vc_Mo_next_9_1 (v_iv (n_v vs 3)) (v_iv (n_v vs 4)) (w_ei ws (w_ar ws (n_v vs 0) 1)) (w_fi ws (n_v vs 0) 10) (w_fi ws (n_v vs 0) 11) (w_ei w1 (w_ar ws (n_v vs 0) 1)) (w_fi w1 (n_v vs 0) 10) (w_fi w1 (n_v vs 0) 11) (w_ei w2 (w_ar ws (n_v vs 0) 1)) (w_fi w2 (n_v vs 0) 10) (w_fi w2 (n_v vs 0) 11) (w_fi w3 (n_v vs 0) 11) (w_fi w4 (n_v vs 0) 11) (w_fi ws (n_v vs 0) 15) (w_fi w1 (n_v vs 0) 15) (w_fi w2 (n_v vs 0) 15) (w_fi w3 (n_v vs 0) 10) (w_ei w3 (w_ar ws (n_v vs 0) 1)) (w_ei w4 (w_ar ws (n_v vs 0) 1)) k3 k4 f1 f2 g12 fe_0_10_1 fe_0_11_1 fe_0_15_1 fe_0_10_2 fe_0_11_2 fe_0_15_2 fe_0_10_3 fe_0_11_3 fe_0_15_3 fe_0_11_4 hE_0_1_1 hE_0_1_2 hE_0_1_3 hE_0_1_4 kz_0_10 kz_0_11 kz_0_15
  refine ⟨(fun _ h => (by cases h)), [], trivial, ?_, (fun _ h => (by cases h))⟩
  rw [List.append_nil]
  exact List.forall_mem_cons.mpr ⟨⟨show (20 : Nat) < 100 from by decide, nf0⟩, List.forall_mem_cons.mpr ⟨⟨show (20 : Nat) < 100 from by decide, nf1⟩, (fun _ h => (by cases h))⟩⟩
set_option maxHeartbeats 4000000 in
theorem vc_Mo_next_10_0 (x1 : Int) (x3 : Int) (tape_0 : Int → Int) (limit_0 : Int) (pos_0 : Int) (tape_1 : Int → Int) (limit_1 : Int) (pos_1 : Int) (tape_2 : Int → Int) (limit_2 : Int) (pos_2 : Int) (pos_3 : Int) (pos_4 : Int) (from_0 : Int) (from_1 : Int) (from_2 : Int) (limit_3 : Int) (tape_3 : Int → Int) (tape_4 : Int → Int) (k1 : 0 ≤ x1 ∧ x1 ≤ 2000) (k3 : 0 ≤ x3 ∧ x3 ≤ 1999) (f3 : 1 * x1 + ((-1) * pos_0 + 0) ≤ 0) (g12 : x3 = pos_2) (fe_0_10_1 : limit_0 = limit_1) (fe_0_11_1 : pos_0 = pos_1) (fe_0_15_1 : from_0 = from_1) (fe_0_10_2 : limit_1 = limit_2) (fe_0_11_2 : pos_1 = pos_2) (fe_0_15_2 : from_1 = from_2) (fe_0_10_3 : limit_2 = limit_3) (fe_0_11_3 : pos_2 = pos_3) (fe_0_15_3 : from_2 = x3) (fe_0_11_4 : pos_3 = pos_4) (hE_0_1_1 : ∀ j : Int, tape_0 j = tape_1 j) (hE_0_1_2 : ∀ j : Int, tape_1 j = tape_2 j) (hE_0_1_3 : ∀ j : Int, tape_2 j = tape_3 j) (hE_0_1_4 : ∀ j : Int, tape_3 j = tape_4 j) (kz_0_10 : 0 ≤ limit_0 ∧ limit_0 ≤ 2000) (kz_0_11 : 0 ≤ pos_0 ∧ pos_0 ≤ 2000) (kz_0_15 : 0 ≤ from_0 ∧ from_0 ≤ 2000) : 1 * x1 + ((-1) * from_0 + 0) ≤ 0 := by
  subst fe_0_10_1
  subst fe_0_11_1
  subst fe_0_15_1
  subst fe_0_10_2
  subst fe_0_11_2
  subst fe_0_15_2
  subst fe_0_10_3
  subst fe_0_11_3
  subst fe_0_11_4
  have e_hE_0_1_1 := funext hE_0_1_1; subst e_hE_0_1_1
  have e_hE_0_1_2 := funext hE_0_1_2; subst e_hE_0_1_2
  have e_hE_0_1_3 := funext hE_0_1_3; subst e_hE_0_1_3
  have e_hE_0_1_4 := funext hE_0_1_4; subst e_hE_0_1_4
  first | assumption | omega | grind
set_option maxHeartbeats 4000000 in
theorem vc_Mo_next_10_1 (x3 : Int) (tape_0 : Int → Int) (limit_0 : Int) (pos_0 : Int) (tape_1 : Int → Int) (limit_1 : Int) (pos_1 : Int) (tape_2 : Int → Int) (limit_2 : Int) (pos_2 : Int) (pos_3 : Int) (pos_4 : Int) (from_0 : Int) (from_1 : Int) (from_2 : Int) (limit_3 : Int) (tape_3 : Int → Int) (tape_4 : Int → Int) (k3 : 0 ≤ x3 ∧ x3 ≤ 1999) (g12 : x3 = pos_2) (fe_0_10_1 : limit_0 = limit_1) (fe_0_11_1 : pos_0 = pos_1) (fe_0_15_1 : from_0 = from_1) (fe_0_10_2 : limit_1 = limit_2) (fe_0_11_2 : pos_1 = pos_2) (fe_0_15_2 : from_1 = from_2) (fe_0_10_3 : limit_2 = limit_3) (fe_0_11_3 : pos_2 = pos_3) (fe_0_15_3 : from_2 = x3) (fe_0_11_4 : pos_3 = pos_4) (hE_0_1_1 : ∀ j : Int, tape_0 j = tape_1 j) (hE_0_1_2 : ∀ j : Int, tape_1 j = tape_2 j) (hE_0_1_3 : ∀ j : Int, tape_2 j = tape_3 j) (hE_0_1_4 : ∀ j : Int, tape_3 j = tape_4 j) (kz_0_10 : 0 ≤ limit_0 ∧ limit_0 ≤ 2000) (kz_0_11 : 0 ≤ pos_0 ∧ pos_0 ≤ 2000) (kz_0_15 : 0 ≤ from_0 ∧ from_0 ≤ 2000) : pos_0 = from_0 := by
  subst fe_0_10_1
  subst fe_0_11_1
  subst fe_0_15_1
  subst fe_0_10_2
  subst fe_0_11_2
  subst fe_0_15_2
  subst fe_0_10_3
  subst fe_0_11_3
  subst fe_0_11_4
  have e_hE_0_1_1 := funext hE_0_1_1; subst e_hE_0_1_1
  have e_hE_0_1_2 := funext hE_0_1_2; subst e_hE_0_1_2
  have e_hE_0_1_3 := funext hE_0_1_3; subst e_hE_0_1_3
  have e_hE_0_1_4 := funext hE_0_1_4; subst e_hE_0_1_4
  first | assumption | omega | grind
def o_Mo_next_10 : or_T := (277, 8, [(0, (2, 0, 0, [165])), (1, (0, 0, 2000, [])), (2, (2, 0, 0, [165])), (3, (0, 0, 1999, [])), (4, (0, 123, 255, []))], [(8, [4], [3]), (20, [3, 2, 4], [50, 1, 1, 1010, 1001, 4, 11, 0, 6, 4, 2, 1, 0, 0, 1, 2, 1, 10, 1, 2, 1, 2, 9, 5, 3, 1, 1, 1, 0, 0, 256]), (20, [2, 3, 4], [50, 1, 0, 10, 4, 7, 0, 3, 2, 0, 10, 1, 1, 1, 2, 1, 2, 0, -1]), (20, [1, 2], [30, 0, 1, 0, 0, -1, 1, 11]), (24, [0, 2], []), (101, [2, 4], [14]), (20, [3, 2, 4], [50, 1, 1, 1010, 1001, 4, 11, 0, 6, 4, 2, 1, 0, 0, 1, 2, 1, 10, 1, 2, 1, 2, 9, 5, 3, 1, 1, 1, 0, 0, 256]), (20, [2, 3, 4], [50, 1, 0, 10, 4, 7, 0, 3, 2, 0, 10, 1, 1, 1, 2, 1, 2, 0, -1]), (20, [1, 2], [30, 0, 1, 0, 0, -1, 1, 11]), (101, [2, 5], [12]), (20, [3, 2, 4], [50, 1, 1, 1010, 1001, 4, 11, 0, 6, 4, 2, 1, 0, 0, 1, 2, 1, 10, 1, 2, 1, 2, 9, 5, 3, 1, 1, 1, 0, 0, 256]), (20, [2, 3, 4], [50, 1, 0, 10, 4, 7, 0, 3, 2, 0, 10, 1, 1, 1, 2, 1, 2, 0, -1]), (9, [3, 2], [11]), (20, [1, 2], [30, 0, 1, 0, 0, -1, 1, 11]), (101, [2, 3], [15]), (20, [1, 2], [30, 0, 1, 0, 0, -1, 1, 11]), (101, [2, 3], [13]), (20, [1, 2], [30, 0, 1, 0, 0, -1, 1, 11])], [], [], [(20, [1, 2], [30, 0, 1, 0, 0, -1, 1, 15]), (20, [2], [50, 2, 0, 11, 15, 1, 3, 2, 0, 11, 2, 0, 15])], [], [])
theorem oo_Mo_next_10 {kA : Nat → ClassId} : or_ok PRD kA GG o_Mo_next_10 := by
  refine or_mk fun A ta ws vs hD hth hl => ?_
  intro t0 r0 t1 k1 t2 r2 t3 k3 t4 k4 f0 f1 f2 f3 f4 ta1 w1 le1 s1 f6 f7 f8 ta2 w2 le2 s2 f10 f11 f12 f13 ta3 w3 le3 s3 f15 ta4 w4 le4 s4 f17
  replace f3 := shm_1395 f3
  replace f4 := shm_5 f4
  have s1 : (∀ b j, w_el ws b j = w_el w1 b j) ∧ ∀ b j, w_fd ws b j = if b = v_ad (n_v vs 2) ∧ j = 14 then n_v vs 4 else w_fd w1 b j := s1.2
  have s2 : (∀ b j, w_el w1 b j = w_el w2 b j) ∧ ∀ b j, w_fd w1 b j = if b = v_ad (n_v vs 2) ∧ j = 12 then n_v vs 5 else w_fd w2 b j := s2.2
  replace f12 := shm_117 f12
  have s3 : (∀ b j, w_el w2 b j = w_el w3 b j) ∧ ∀ b j, w_fd w2 b j = if b = v_ad (n_v vs 2) ∧ j = 15 then n_v vs 3 else w_fd w3 b j := s3.2
  have s4 : (∀ b j, w_el w3 b j = w_el w4 b j) ∧ ∀ b j, w_fd w3 b j = if b = v_ad (n_v vs 2) ∧ j = 13 then n_v vs 3 else w_fd w4 b j := s4.2
  have q2 : n_v vs 2 = n_v vs 0 := f4.symm
  simp only [q2] at f3
  rw [q2] at s1
  rw [q2] at s2
  simp only [q2] at f12
  rw [q2] at s3
  rw [q2] at s4
  have g12 : v_iv (n_v vs 3) = w_fi w2 (n_v vs 0) 11 := congrArg v_iv f12
  have fe_0_10_1 : w_fi ws (n_v vs 0) 10 = w_fi w1 (n_v vs 0) 10 := by show v_iv (w_fd _ _ _) = v_iv (w_fd _ _ _); rw [s1.2, if_neg (fun e => absurd e.2 (by decide))]
  have fe_0_11_1 : w_fi ws (n_v vs 0) 11 = w_fi w1 (n_v vs 0) 11 := by show v_iv (w_fd _ _ _) = v_iv (w_fd _ _ _); rw [s1.2, if_neg (fun e => absurd e.2 (by decide))]
  have fe_0_15_1 : w_fi ws (n_v vs 0) 15 = w_fi w1 (n_v vs 0) 15 := by show v_iv (w_fd _ _ _) = v_iv (w_fd _ _ _); rw [s1.2, if_neg (fun e => absurd e.2 (by decide))]
  have fe_0_10_2 : w_fi w1 (n_v vs 0) 10 = w_fi w2 (n_v vs 0) 10 := by show v_iv (w_fd _ _ _) = v_iv (w_fd _ _ _); rw [s2.2, if_neg (fun e => absurd e.2 (by decide))]
  have fe_0_11_2 : w_fi w1 (n_v vs 0) 11 = w_fi w2 (n_v vs 0) 11 := by show v_iv (w_fd _ _ _) = v_iv (w_fd _ _ _); rw [s2.2, if_neg (fun e => absurd e.2 (by decide))]
  have fe_0_15_2 : w_fi w1 (n_v vs 0) 15 = w_fi w2 (n_v vs 0) 15 := by show v_iv (w_fd _ _ _) = v_iv (w_fd _ _ _); rw [s2.2, if_neg (fun e => absurd e.2 (by decide))]
  have fe_0_10_3 : w_fi w2 (n_v vs 0) 10 = w_fi w3 (n_v vs 0) 10 := by show v_iv (w_fd _ _ _) = v_iv (w_fd _ _ _); rw [s3.2, if_neg (fun e => absurd e.2 (by decide))]
  have fe_0_11_3 : w_fi w2 (n_v vs 0) 11 = w_fi w3 (n_v vs 0) 11 := by show v_iv (w_fd _ _ _) = v_iv (w_fd _ _ _); rw [s3.2, if_neg (fun e => absurd e.2 (by decide))]
  have fe_0_15_3 : w_fi w2 (n_v vs 0) 15 = v_iv (n_v vs 3) := by show v_iv (w_fd _ _ _) = _; rw [s3.2, if_pos ⟨rfl, rfl⟩]
  have fe_0_11_4 : w_fi w3 (n_v vs 0) 11 = w_fi w4 (n_v vs 0) 11 := by show v_iv (w_fd _ _ _) = v_iv (w_fd _ _ _); rw [s4.2, if_neg (fun e => absurd e.2 (by decide))]
  have hE_0_1_1 : ∀ j : Int, w_ei ws (w_ar ws (n_v vs 0) 1) j = w_ei w1 (w_ar ws (n_v vs 0) 1) j := fun j => s1.1 _ _
  have hE_0_1_2 : ∀ j : Int, w_ei w1 (w_ar ws (n_v vs 0) 1) j = w_ei w2 (w_ar ws (n_v vs 0) 1) j := fun j => s2.1 _ _
  have hE_0_1_3 : ∀ j : Int, w_ei w2 (w_ar ws (n_v vs 0) 1) j = w_ei w3 (w_ar ws (n_v vs 0) 1) j := fun j => s3.1 _ _
  have hE_0_1_4 : ∀ j : Int, w_ei w3 (w_ar ws (n_v vs 0) 1) j = w_ei w4 (w_ar ws (n_v vs 0) 1) j := fun j => s4.1 _ _
  have kz_0_10 := fdq_50 hD hth r0
  have kz_0_11 := fdq_273 hD hth r0
  have kz_0_15 := fdq_274 hD hth r0
  have nf0 : fc_1 PRD (20, [1, 2], [30, 0, 1, 0, 0, -1, 1, 15]) ws (vs) := by
    refine ⟨nf_in hl rfl, sgq_1396 ?_⟩
    · show 1 * v_iv (n_v vs 1) + ((-1) * w_fi ws (n_v vs 2) 15 + 0) ≤ 0
      rw [q2]
      exact vc_Mo_next_10_0 (v_iv (n_v vs 1)) (v_iv (n_v vs 3)) (w_ei ws (w_ar ws (n_v vs 0) 1)) (w_fi ws (n_v vs 0) 10) (w_fi ws (n_v vs 0) 11) (w_ei w1 (w_ar ws (n_v vs 0) 1)) (w_fi w1 (n_v vs 0) 10) (w_fi w1 (n_v vs 0) 11) (w_ei w2 (w_ar ws (n_v vs 0) 1)) (w_fi w2 (n_v vs 0) 10) (w_fi w2 (n_v vs 0) 11) (w_fi w3 (n_v vs 0) 11) (w_fi w4 (n_v vs 0) 11) (w_fi ws (n_v vs 0) 15) (w_fi w1 (n_v vs 0) 15) (w_fi w2 (n_v vs 0) 15) (w_fi w3 (n_v vs 0) 10) (w_ei w3 (w_ar ws (n_v vs 0) 1)) (w_ei w4 (w_ar ws (n_v vs 0) 1)) k1 k3 f3 g12 fe_0_10_1 fe_0_11_1 fe_0_15_1 fe_0_10_2 fe_0_11_2 fe_0_15_2 fe_0_10_3 fe_0_11_3 fe_0_15_3 fe_0_11_4 hE_0_1_1 hE_0_1_2 hE_0_1_3 hE_0_1_4 kz_0_10 kz_0_11 kz_0_15
  have nf1 : fc_1 PRD (20, [2], [50, 2, 0, 11, 15, 1, 3, 2, 0, 11, 2, 0, 15]) ws (vs) := by
    refine ⟨nf_in hl rfl, sgq_1399 ?_⟩
    · show w_fi ws (n_v vs 2) 11 = w_fi ws (n_v vs 2) 15
      rw [q2]
      exact vc_Mo_next_10_1 (v_iv (n_v vs 3)) (w_ei ws (w_ar ws (n_v vs 0) 1)) (w_fi ws (n_v vs 0) 10) (w_fi ws (n_v vs 0) 11) (w_ei w1 (w_ar ws (n_v vs 0) 1)) (w_fi w1 (n_v vs 0) 10) (w_fi w1 (n_v vs 0) 11) (w_ei w2 (w_ar ws (n_v vs 0) 1)) (w_fi w2 (n_v vs 0) 10) (w_fi w2 (n_v vs 0) 11) (w_fi w3 (n_v vs 0) 11) (w_fi w4 (n_v vs 0) 11) (w_fi ws (n_v vs 0) 15) (w_fi w1 (n_v vs 0) 15) (w_fi w2 (n_v vs 0) 15) (w_fi w3 (n_v vs 0) 10) (w_ei w3 (w_ar ws (n_v vs 0) 1)) (w_ei w4 (w_ar ws (n_v vs 0) 1)) k3 g12 fe_0_10_1 fe_0_11_1 fe_0_15_1 fe_0_10_2 fe_0_11_2 fe_0_15_2 fe_0_10_3 fe_0_11_3 fe_0_15_3 fe_0_11_4 hE_0_1_1 hE_0_1_2 hE_0_1_3 hE_0_1_4 kz_0_10 kz_0_11 kz_0_15
  refine ⟨(fun _ h => (by cases h)), [], trivial, ?_, (fun _ h => (by cases h))⟩
  rw [List.append_nil]
  exact List.forall_mem_cons.mpr ⟨⟨show (20 : Nat) < 100 from by decide, nf0⟩, List.forall_mem_cons.mpr ⟨⟨show (20 : Nat) < 100 from by decide, nf1⟩, (fun _ h => (by cases h))⟩⟩
set_option maxHeartbeats 4000000 in
theorem vc_Mo_next_11_0 (x1 : Int) (x3 : Int) (tape_0 : Int → Int) (limit_0 : Int) (pos_0 : Int) (tape_1 : Int → Int) (limit_1 : Int) (pos_1 : Int) (tape_2 : Int → Int) (limit_2 : Int) (pos_2 : Int) (pos_3 : Int) (pos_4 : Int) (from_0 : Int) (from_1 : Int) (from_2 : Int) (limit_3 : Int) (tape_3 : Int → Int) (tape_4 : Int → Int) (k1 : 0 ≤ x1 ∧ x1 ≤ 2000) (k3 : 0 ≤ x3 ∧ x3 ≤ 1999) (f3 : 1 * x1 + ((-1) * pos_0 + 0) ≤ 0) (g12 : x3 = pos_2) (fe_0_10_1 : limit_0 = limit_1) (fe_0_11_1 : pos_0 = pos_1) (fe_0_15_1 : from_0 = from_1) (fe_0_10_2 : limit_1 = limit_2) (fe_0_11_2 : pos_1 = pos_2) (fe_0_15_2 : from_1 = from_2) (fe_0_10_3 : limit_2 = limit_3) (fe_0_11_3 : pos_2 = pos_3) (fe_0_15_3 : from_2 = x3) (fe_0_11_4 : pos_3 = pos_4) (hE_0_1_1 : ∀ j : Int, tape_0 j = tape_1 j) (hE_0_1_2 : ∀ j : Int, tape_1 j = tape_2 j) (hE_0_1_3 : ∀ j : Int, tape_2 j = tape_3 j) (hE_0_1_4 : ∀ j : Int, tape_3 j = tape_4 j) (kz_0_10 : 0 ≤ limit_0 ∧ limit_0 ≤ 2000) (kz_0_11 : 0 ≤ pos_0 ∧ pos_0 ≤ 2000) (kz_0_15 : 0 ≤ from_0 ∧ from_0 ≤ 2000) : 1 * x1 + ((-1) * from_0 + 0) ≤ 0 := by
  subst fe_0_10_1
  subst fe_0_11_1
  subst fe_0_15_1
  subst fe_0_10_2
  subst fe_0_11_2
  subst fe_0_15_2
  subst fe_0_10_3
  subst fe_0_11_3
  subst fe_0_11_4
  have e_hE_0_1_1 := funext hE_0_1_1; subst e_hE_0_1_1
  have e_hE_0_1_2 := funext hE_0_1_2; subst e_hE_0_1_2
  have e_hE_0_1_3 := funext hE_0_1_3; subst e_hE_0_1_3
  have e_hE_0_1_4 := funext hE_0_1_4; subst e_hE_0_1_4
  first | assumption | omega | grind
set_option maxHeartbeats 4000000 in
theorem vc_Mo_next_11_1 (x3 : Int) (x4 : Int) (tape_0 : Int → Int) (limit_0 : Int) (pos_0 : Int) (tape_1 : Int → Int) (limit_1 : Int) (pos_1 : Int) (tape_2 : Int → Int) (limit_2 : Int) (pos_2 : Int) (pos_3 : Int) (pos_4 : Int) (from_0 : Int) (from_1 : Int) (from_2 : Int) (limit_3 : Int) (tape_3 : Int → Int) (tape_4 : Int → Int) (k3 : 0 ≤ x3 ∧ x3 ≤ 1999) (k4 : 97 ≤ x4 ∧ x4 ≤ 122) (f1 : ((x3 + 1) ≤ limit_0) → (x4 = (tape_0 (x3) % 256))) (f2 : (limit_0 ≤ x3) → (x4 = (-1))) (g12 : x3 = pos_2) (fe_0_10_1 : limit_0 = limit_1) (fe_0_11_1 : pos_0 = pos_1) (fe_0_15_1 : from_0 = from_1) (fe_0_10_2 : limit_1 = limit_2) (fe_0_11_2 : pos_1 = pos_2) (fe_0_15_2 : from_1 = from_2) (fe_0_10_3 : limit_2 = limit_3) (fe_0_11_3 : pos_2 = pos_3) (fe_0_15_3 : from_2 = x3) (fe_0_11_4 : pos_3 = pos_4) (hE_0_1_1 : ∀ j : Int, tape_0 j = tape_1 j) (hE_0_1_2 : ∀ j : Int, tape_1 j = tape_2 j) (hE_0_1_3 : ∀ j : Int, tape_2 j = tape_3 j) (hE_0_1_4 : ∀ j : Int, tape_3 j = tape_4 j) (kz_0_10 : 0 ≤ limit_0 ∧ limit_0 ≤ 2000) (kz_0_11 : 0 ≤ pos_0 ∧ pos_0 ≤ 2000) (kz_0_15 : 0 ≤ from_0 ∧ from_0 ≤ 2000) : (from_0 ≤ pos_0) ∧ (((from_0 + 1) ≤ pos_0) ∨ ((pos_0 = from_0) ∧ (((from_0 + 1) ≤ limit_0) ∧ (((65 ≤ (tape_0 (from_0) % 256)) ∧ ((tape_0 (from_0) % 256) ≤ 90)) ∨ ((97 ≤ (tape_0 (from_0) % 256)) ∧ ((tape_0 (from_0) % 256) ≤ 122)))))) := by
  subst fe_0_10_1
  subst fe_0_11_1
  subst fe_0_15_1
  subst fe_0_10_2
  subst fe_0_11_2
  subst fe_0_15_2
  subst fe_0_10_3
  subst fe_0_11_3
  subst fe_0_11_4
  have e_hE_0_1_1 := funext hE_0_1_1; subst e_hE_0_1_1
  have e_hE_0_1_2 := funext hE_0_1_2; subst e_hE_0_1_2
  have e_hE_0_1_3 := funext hE_0_1_3; subst e_hE_0_1_3
  have e_hE_0_1_4 := funext hE_0_1_4; subst e_hE_0_1_4
  first | assumption | omega | grind
def o_Mo_next_11 : or_T := (93, 7, [(0, (2, 0, 0, [165])), (1, (0, 0, 2000, [])), (2, (2, 0, 0, [165])), (3, (0, 0, 1999, [])), (4, (0, 97, 122, []))], [(8, [4], [3]), (20, [3, 2, 4], [50, 1, 1, 1010, 1001, 4, 11, 0, 6, 4, 2, 1, 0, 0, 1, 2, 1, 10, 1, 2, 1, 2, 9, 5, 3, 1, 1, 1, 0, 0, 256]), (20, [2, 3, 4], [50, 1, 0, 10, 4, 7, 0, 3, 2, 0, 10, 1, 1, 1, 2, 1, 2, 0, -1]), (20, [1, 2], [30, 0, 1, 0, 0, -1, 1, 11]), (24, [0, 2], []), (101, [2, 4], [14]), (20, [3, 2, 4], [50, 1, 1, 1010, 1001, 4, 11, 0, 6, 4, 2, 1, 0, 0, 1, 2, 1, 10, 1, 2, 1, 2, 9, 5, 3, 1, 1, 1, 0, 0, 256]), (20, [2, 3, 4], [50, 1, 0, 10, 4, 7, 0, 3, 2, 0, 10, 1, 1, 1, 2, 1, 2, 0, -1]), (20, [1, 2], [30, 0, 1, 0, 0, -1, 1, 11]), (101, [2, 5], [12]), (20, [3, 2, 4], [50, 1, 1, 1010, 1001, 4, 11, 0, 6, 4, 2, 1, 0, 0, 1, 2, 1, 10, 1, 2, 1, 2, 9, 5, 3, 1, 1, 1, 0, 0, 256]), (20, [2, 3, 4], [50, 1, 0, 10, 4, 7, 0, 3, 2, 0, 10, 1, 1, 1, 2, 1, 2, 0, -1]), (9, [3, 2], [11]), (20, [1, 2], [30, 0, 1, 0, 0, -1, 1, 11]), (101, [2, 3], [15]), (20, [1, 2], [30, 0, 1, 0, 0, -1, 1, 11]), (101, [2, 3], [13]), (20, [1, 2], [30, 0, 1, 0, 0, -1, 1, 11])], [], [], [(20, [1, 2], [30, 0, 1, 0, 0, -1, 1, 15]), (20, [2], [50, 3, 1, 15, 11, 10, 1, 2, 8, 0, 3, 2, 0, 15, 2, 0, 11, 3, 12, 0, 7, 4, 3, 2, 0, 15, 0, 1, 2, 0, 11, 2, 8, 1, 3, 2, 0, 11, 2, 0, 15, 2, 12, 0, 7, 4, 3, 2, 0, 15, 0, 1, 2, 0, 10, 3, 30, 2, 14, 0, 2, 0, 65, 9, 6, 3, 0, 1, 2, 0, 15, 0, 256, 0, 10, 9, 6, 3, 0, 1, 2, 0, 15, 0, 256, 0, 90, 2, 14, 0, 2, 0, 97, 9, 6, 3, 0, 1, 2, 0, 15, 0, 256, 0, 10, 9, 6, 3, 0, 1, 2, 0, 15, 0, 256, 0, 122])], [], [])
theorem oo_Mo_next_11 {kA : Nat → ClassId} : or_ok PRD kA GG o_Mo_next_11 := by
  refine or_mk fun A ta ws vs hD hth hl => ?_
  intro t0 r0 t1 k1 t2 r2 t3 k3 t4 k4 f0 f1 f2 f3 f4 ta1 w1 le1 s1 f6 f7 f8 ta2 w2 le2 s2 f10 f11 f12 f13 ta3 w3 le3 s3 f15 ta4 w4 le4 s4 f17
  replace f1 := shm_535 f1
  replace f2 := shm_536 f2
  replace f3 := shm_1395 f3
  replace f4 := shm_5 f4
  have s1 : (∀ b j, w_el ws b j = w_el w1 b j) ∧ ∀ b j, w_fd ws b j = if b = v_ad (n_v vs 2) ∧ j = 14 then n_v vs 4 else w_fd w1 b j := s1.2
  have s2 : (∀ b j, w_el w1 b j = w_el w2 b j) ∧ ∀ b j, w_fd w1 b j = if b = v_ad (n_v vs 2) ∧ j = 12 then n_v vs 5 else w_fd w2 b j := s2.2
  replace f12 := shm_117 f12
  have s3 : (∀ b j, w_el w2 b j = w_el w3 b j) ∧ ∀ b j, w_fd w2 b j = if b = v_ad (n_v vs 2) ∧ j = 15 then n_v vs 3 else w_fd w3 b j := s3.2
  have s4 : (∀ b j, w_el w3 b j = w_el w4 b j) ∧ ∀ b j, w_fd w3 b j = if b = v_ad (n_v vs 2) ∧ j = 13 then n_v vs 3 else w_fd w4 b j := s4.2
  have q2 : n_v vs 2 = n_v vs 0 := f4.symm
  simp only [q2] at f1 f2 f3
  rw [q2] at s1
  rw [q2] at s2
  simp only [q2] at f12
  rw [q2] at s3
  rw [q2] at s4
  have g12 : v_iv (n_v vs 3) = w_fi w2 (n_v vs 0) 11 := congrArg v_iv f12
  have fe_0_10_1 : w_fi ws (n_v vs 0) 10 = w_fi w1 (n_v vs 0) 10 := by show v_iv (w_fd _ _ _) = v_iv (w_fd _ _ _); rw [s1.2, if_neg (fun e => absurd e.2 (by decide))]
  have fe_0_11_1 : w_fi ws (n_v vs 0) 11 = w_fi w1 (n_v vs 0) 11 := by show v_iv (w_fd _ _ _) = v_iv (w_fd _ _ _); rw [s1.2, if_neg (fun e => absurd e.2 (by decide))]
  have fe_0_15_1 : w_fi ws (n_v vs 0) 15 = w_fi w1 (n_v vs 0) 15 := by show v_iv (w_fd _ _ _) = v_iv (w_fd _ _ _); rw [s1.2, if_neg (fun e => absurd e.2 (by decide))]
  have fe_0_10_2 : w_fi w1 (n_v vs 0) 10 = w_fi w2 (n_v vs 0) 10 := by show v_iv (w_fd _ _ _) = v_iv (w_fd _ _ _); rw [s2.2, if_neg (fun e => absurd e.2 (by decide))]
  have fe_0_11_2 : w_fi w1 (n_v vs 0) 11 = w_fi w2 (n_v vs 0) 11 := by show v_iv (w_fd _ _ _) = v_iv (w_fd _ _ _); rw [s2.2, if_neg (fun e => absurd e.2 (by decide))]
  have fe_0_15_2 : w_fi w1 (n_v vs 0) 15 = w_fi w2 (n_v vs 0) 15 := by show v_iv (w_fd _ _ _) = v_iv (w_fd _ _ _); rw [s2.2, if_neg (fun e => absurd e.2 (by decide))]
  have fe_0_10_3 : w_fi w2 (n_v vs 0) 10 = w_fi w3 (n_v vs 0) 10 := by show v_iv (w_fd _ _ _) = v_iv (w_fd _ _ _); rw [s3.2, if_neg (fun e => absurd e.2 (by decide))]
  have fe_0_11_3 : w_fi w2 (n_v vs 0) 11 = w_fi w3 (n_v vs 0) 11 := by show v_iv (w_fd _ _ _) = v_iv (w_fd _ _ _); rw [s3.2, if_neg (fun e => absurd e.2 (by decide))]
  have fe_0_15_3 : w_fi w2 (n_v vs 0) 15 = v_iv (n_v vs 3) := by show v_iv (w_fd _ _ _) = _; rw [s3.2, if_pos ⟨rfl, rfl⟩]
  have fe_0_11_4 : w_fi w3 (n_v vs 0) 11 = w_fi w4 (n_v vs 0) 11 := by show v_iv (w_fd _ _ _) = v_iv (w_fd _ _ _); rw [s4.2, if_neg (fun e => absurd e.2 (by decide))]
  have hE_0_1_1 : ∀ j : Int, w_ei ws (w_ar ws (n_v vs 0) 1) j = w_ei w1 (w_ar ws (n_v vs 0) 1) j := fun j => s1.1 _ _
  have hE_0_1_2 : ∀ j : Int, w_ei w1 (w_ar ws (n_v vs 0) 1) j = w_ei w2 (w_ar ws (n_v vs 0) 1) j := fun j => s2.1 _ _
  have hE_0_1_3 : ∀ j : Int, w_ei w2 (w_ar ws (n_v vs 0) 1) j = w_ei w3 (w_ar ws (n_v vs 0) 1) j := fun j => s3.1 _ _
  have hE_0_1_4 : ∀ j : Int, w_ei w3 (w_ar ws (n_v vs 0) 1) j = w_ei w4 (w_ar ws (n_v vs 0) 1) j := fun j => s4.1 _ _
  have kz_0_10 := fdq_50 hD hth r0
  have kz_0_11 := fdq_273 hD hth r0
  have kz_0_15 := fdq_274 hD hth r0
  have nf0 : fc_1 PRD (20, [1, 2], [30, 0, 1, 0, 0, -1, 1, 15]) ws (vs) := by
    refine ⟨nf_in hl rfl, sgq_1396 ?_⟩
    · show 1 * v_iv (n_v vs 1) + ((-1) * w_fi ws (n_v vs 2) 15 + 0) ≤ 0
      rw [q2]
      exact vc_Mo_next_11_0 (v_iv (n_v vs 1)) (v_iv (n_v vs 3)) (w_ei ws (w_ar ws (n_v vs 0) 1)) (w_fi ws (n_v vs 0) 10) (w_fi ws (n_v vs 0) 11) (w_ei w1 (w_ar ws (n_v vs 0) 1)) (w_fi w1 (n_v vs 0) 10) (w_fi w1 (n_v vs 0) 11) (w_ei w2 (w_ar ws (n_v vs 0) 1)) (w_fi w2 (n_v vs 0) 10) (w_fi w2 (n_v vs 0) 11) (w_fi w3 (n_v vs 0) 11) (w_fi w4 (n_v vs 0) 11) (w_fi ws (n_v vs 0) 15) (w_fi w1 (n_v vs 0) 15) (w_fi w2 (n_v vs 0) 15) (w_fi w3 (n_v vs 0) 10) (w_ei w3 (w_ar ws (n_v vs 0) 1)) (w_ei w4 (w_ar ws (n_v vs 0) 1)) k1 k3 f3 g12 fe_0_10_1 fe_0_11_1 fe_0_15_1 fe_0_10_2 fe_0_11_2 fe_0_15_2 fe_0_10_3 fe_0_11_3 fe_0_15_3 fe_0_11_4 hE_0_1_1 hE_0_1_2 hE_0_1_3 hE_0_1_4 kz_0_10 kz_0_11 kz_0_15
  have nf1 : fc_1 PRD (20, [2], [50, 3, 1, 15, 11, 10, 1, 2, 8, 0, 3, 2, 0, 15, 2, 0, 11, 3, 12, 0, 7, 4, 3, 2, 0, 15, 0, 1, 2, 0, 11, 2, 8, 1, 3, 2, 0, 11, 2, 0, 15, 2, 12, 0, 7, 4, 3, 2, 0, 15, 0, 1, 2, 0, 10, 3, 30, 2, 14, 0, 2, 0, 65, 9, 6, 3, 0, 1, 2, 0, 15, 0, 256, 0, 10, 9, 6, 3, 0, 1, 2, 0, 15, 0, 256, 0, 90, 2, 14, 0, 2, 0, 97, 9, 6, 3, 0, 1, 2, 0, 15, 0, 256, 0, 10, 9, 6, 3, 0, 1, 2, 0, 15, 0, 256, 0, 122]) ws (vs) := by
    refine ⟨nf_in hl rfl, sgq_1401 ?_⟩
    · show (w_fi ws (n_v vs 2) 15 ≤ w_fi ws (n_v vs 2) 11) ∧ (((w_fi ws (n_v vs 2) 15 + 1) ≤ w_fi ws (n_v vs 2) 11) ∨ ((w_fi ws (n_v vs 2) 11 = w_fi ws (n_v vs 2) 15) ∧ (((w_fi ws (n_v vs 2) 15 + 1) ≤ w_fi ws (n_v vs 2) 10) ∧ (((65 ≤ (w_ei ws (w_ar ws (n_v vs 2) 1) (w_fi ws (n_v vs 2) 15) % 256)) ∧ ((w_ei ws (w_ar ws (n_v vs 2) 1) (w_fi ws (n_v vs 2) 15) % 256) ≤ 90)) ∨ ((97 ≤ (w_ei ws (w_ar ws (n_v vs 2) 1) (w_fi ws (n_v vs 2) 15) % 256)) ∧ ((w_ei ws (w_ar ws (n_v vs 2) 1) (w_fi ws (n_v vs 2) 15) % 256) ≤ 122))))))
      rw [q2]
      exact vc_Mo_next_11_1 (v_iv (n_v vs 3)) (v_iv (n_v vs 4)) (w_ei ws (w_ar ws (n_v vs 0) 1)) (w_fi ws (n_v vs 0) 10) (w_fi ws (n_v vs 0) 11) (w_ei w1 (w_ar ws (n_v vs 0) 1)) (w_fi w1 (n_v vs 0) 10) (w_fi w1 (n_v vs 0) 11) (w_ei w2 (w_ar ws (n_v vs 0) 1)) (w_fi w2 (n_v vs 0) 10) (w_fi w2 (n_v vs 0) 11) (w_fi w3 (n_v vs 0) 11) (w_fi w4 (n_v vs 0) 11) (w_fi ws (n_v vs 0) 15) (w_fi w1 (n_v vs 0) 15) (w_fi w2 (n_v vs 0) 15) (w_fi w3 (n_v vs 0) 10) (w_ei w3 (w_ar ws (n_v vs 0) 1)) (w_ei w4 (w_ar ws (n_v vs 0) 1)) k3 k4 f1 f2 g12 fe_0_10_1 fe_0_11_1 fe_0_15_1 fe_0_10_2 fe_0_11_2 fe_0_15_2 fe_0_10_3 fe_0_11_3 fe_0_15_3 fe_0_11_4 hE_0_1_1 hE_0_1_2 hE_0_1_3 hE_0_1_4 kz_0_10 kz_0_11 kz_0_15
  refine ⟨(fun _ h => (by cases h)), [], trivial, ?_, (fun _ h => (by cases h))⟩
  rw [List.append_nil]
  exact List.forall_mem_cons.mpr ⟨⟨show (20 : Nat) < 100 from by decide, nf0⟩, List.forall_mem_cons.mpr ⟨⟨show (20 : Nat) < 100 from by decide, nf1⟩, (fun _ h => (by cases h))⟩⟩
set_option maxHeartbeats 4000000 in
theorem vc_Mo_next_12_0 (x4 : Int) (x5 : Int) (tape_0 : Int → Int) (limit_0 : Int) (pos_0 : Int) (from_0 : Int) (k4 : 0 ≤ x4 ∧ x4 ≤ 2000) (k5 : (-1) ≤ x5 ∧ x5 ≤ (-1)) (g3 : x4 = pos_0) (f6 : ((x4 + 1) ≤ limit_0) → (x5 = (tape_0 (x4) % 256))) (f7 : (limit_0 ≤ x4) → (x5 = (-1))) (f9 : (from_0 ≤ pos_0) ∧ (((from_0 + 1) ≤ pos_0) ∨ ((pos_0 = from_0) ∧ (((from_0 + 1) ≤ limit_0) ∧ (((65 ≤ (tape_0 (from_0) % 256)) ∧ ((tape_0 (from_0) % 256) ≤ 90)) ∨ ((97 ≤ (tape_0 (from_0) % 256)) ∧ ((tape_0 (from_0) % 256) ≤ 122))))))) (kz_0_10 : 0 ≤ limit_0 ∧ limit_0 ≤ 2000) (kz_0_11 : 0 ≤ pos_0 ∧ pos_0 ≤ 2000) (kz_0_15 : 0 ≤ from_0 ∧ from_0 ≤ 2000) : (from_0 + 1) ≤ pos_0 := by
  first | assumption | omega | grind
def o_Mo_next_12 : or_T := (147, 11, [(0, (2, 0, 0, [165])), (1, (0, 0, 2000, [])), (2, (2, 0, 0, [165])), (4, (0, 0, 2000, [])), (5, (0, -1, -1, [])), (7, (0, -1, -1, [])), (9, (0, -1, -1, [])), (10, (0, 95, 95, []))], [(7, [9, 10], [1]), (20, [4, 2, 9], [50, 1, 1, 1010, 1001, 4, 11, 0, 6, 4, 2, 1, 0, 0, 1, 2, 1, 10, 1, 2, 1, 2, 9, 5, 3, 1, 1, 1, 0, 0, 256]), (20, [2, 4, 9], [50, 1, 0, 10, 4, 7, 0, 3, 2, 0, 10, 1, 1, 1, 2, 1, 2, 0, -1]), (9, [4, 2], [11]), (20, [4, 2, 7], [50, 1, 1, 1010, 1001, 4, 11, 0, 6, 4, 2, 1, 0, 0, 1, 2, 1, 10, 1, 2, 1, 2, 9, 5, 3, 1, 1, 1, 0, 0, 256]), (20, [2, 4, 7], [50, 1, 0, 10, 4, 7, 0, 3, 2, 0, 10, 1, 1, 1, 2, 1, 2, 0, -1]), (20, [4, 2, 5], [50, 1, 1, 1010, 1001, 4, 11, 0, 6, 4, 2, 1, 0, 0, 1, 2, 1, 10, 1, 2, 1, 2, 9, 5, 3, 1, 1, 1, 0, 0, 256]), (20, [2, 4, 5], [50, 1, 0, 10, 4, 7, 0, 3, 2, 0, 10, 1, 1, 1, 2, 1, 2, 0, -1]), (20, [1, 2], [30, 0, 1, 0, 0, -1, 1, 15]), (20, [2], [50, 3, 1, 15, 11, 10, 1, 2, 8, 0, 3, 2, 0, 15, 2, 0, 11, 3, 12, 0, 7, 4, 3, 2, 0, 15, 0, 1, 2, 0, 11, 2, 8, 1, 3, 2, 0, 11, 2, 0, 15, 2, 12, 0, 7, 4, 3, 2, 0, 15, 0, 1, 2, 0, 10, 3, 30, 2, 14, 0, 2, 0, 65, 9, 6, 3, 0, 1, 2, 0, 15, 0, 256, 0, 10, 9, 6, 3, 0, 1, 2, 0, 15, 0, 256, 0, 90, 2, 14, 0, 2, 0, 97, 9, 6, 3, 0, 1, 2, 0, 15, 0, 256, 0, 10, 9, 6, 3, 0, 1, 2, 0, 15, 0, 256, 0, 122]), (24, [0, 2], [])], [], [], [(20, [2], [50, 2, 0, 15, 11, 0, 7, 4, 3, 2, 0, 15, 0, 1, 2, 0, 11])], [], [])
theorem oo_Mo_next_12 {kA : Nat → ClassId} : or_ok PRD kA GG o_Mo_next_12 := by
  refine or_mk fun A ta ws vs hD hth hl => ?_
  intro t0 r0 t1 k1 t2 r2 t4 k4 t5 k5 t7 k7 t9 k9 t10 k10 f0 f1 f2 f3 f4 f5 f6 f7 f8 f9 f10
  replace f3 := shm_117 f3
  replace f6 := shm_535 f6
  replace f7 := shm_536 f7
  replace f9 := shm_1401 f9
  replace f10 := shm_5 f10
  have q2 : n_v vs 2 = n_v vs 0 := f10.symm
  simp only [q2] at f3 f6 f7 f9
  have g3 : v_iv (n_v vs 4) = w_fi ws (n_v vs 0) 11 := congrArg v_iv f3
  have kz_0_10 := fdq_50 hD hth r0
  have kz_0_11 := fdq_273 hD hth r0
  have kz_0_15 := fdq_274 hD hth r0
  have nf0 : fc_1 PRD (20, [2], [50, 2, 0, 15, 11, 0, 7, 4, 3, 2, 0, 15, 0, 1, 2, 0, 11]) ws (vs) := by
    refine ⟨nf_in hl rfl, sgq_1402 ?_⟩
    · show (w_fi ws (n_v vs 2) 15 + 1) ≤ w_fi ws (n_v vs 2) 11
      rw [q2]
      exact vc_Mo_next_12_0 (v_iv (n_v vs 4)) (v_iv (n_v vs 5)) (w_ei ws (w_ar ws (n_v vs 0) 1)) (w_fi ws (n_v vs 0) 10) (w_fi ws (n_v vs 0) 11) (w_fi ws (n_v vs 0) 15) k4 k5 g3 f6 f7 f9 kz_0_10 kz_0_11 kz_0_15
  refine ⟨(fun _ h => (by cases h)), [], trivial, ?_, (fun _ h => (by cases h))⟩
  rw [List.append_nil]
  exact List.forall_mem_cons.mpr ⟨⟨show (20 : Nat) < 100 from by decide, nf0⟩, (fun _ h => (by cases h))⟩
set_option maxHeartbeats 4000000 in
theorem vc_Mo_next_13_0 (x4 : Int) (x5 : Int) (tape_0 : Int → Int) (limit_0 : Int) (pos_0 : Int) (from_0 : Int) (k4 : 0 ≤ x4 ∧ x4 ≤ 1999) (k5 : (-1) ≤ x5 ∧ x5 ≤ (-1)) (g3 : x4 = pos_0) (f6 : ((x4 + 1) ≤ limit_0) → (x5 = (tape_0 (x4) % 256))) (f7 : (limit_0 ≤ x4) → (x5 = (-1))) (f9 : (from_0 ≤ pos_0) ∧ (((from_0 + 1) ≤ pos_0) ∨ ((pos_0 = from_0) ∧ (((from_0 + 1) ≤ limit_0) ∧ (((65 ≤ (tape_0 (from_0) % 256)) ∧ ((tape_0 (from_0) % 256) ≤ 90)) ∨ ((97 ≤ (tape_0 (from_0) % 256)) ∧ ((tape_0 (from_0) % 256) ≤ 122))))))) (kz_0_10 : 0 ≤ limit_0 ∧ limit_0 ≤ 2000) (kz_0_11 : 0 ≤ pos_0 ∧ pos_0 ≤ 2000) (kz_0_15 : 0 ≤ from_0 ∧ from_0 ≤ 2000) : (from_0 + 1) ≤ pos_0 := by
  first | assumption | omega | grind
def o_Mo_next_13 : or_T := (147, 11, [(0, (2, 0, 0, [165])), (1, (0, 0, 2000, [])), (2, (2, 0, 0, [165])), (4, (0, 0, 1999, [])), (5, (0, -1, -1, [])), (7, (0, -1, -1, [])), (9, (0, 0, 255, [])), (10, (0, 95, 95, []))], [(7, [9, 10], [1]), (20, [4, 2, 9], [50, 1, 1, 1010, 1001, 4, 11, 0, 6, 4, 2, 1, 0, 0, 1, 2, 1, 10, 1, 2, 1, 2, 9, 5, 3, 1, 1, 1, 0, 0, 256]), (20, [2, 4, 9], [50, 1, 0, 10, 4, 7, 0, 3, 2, 0, 10, 1, 1, 1, 2, 1, 2, 0, -1]), (9, [4, 2], [11]), (20, [4, 2, 7], [50, 1, 1, 1010, 1001, 4, 11, 0, 6, 4, 2, 1, 0, 0, 1, 2, 1, 10, 1, 2, 1, 2, 9, 5, 3, 1, 1, 1, 0, 0, 256]), (20, [2, 4, 7], [50, 1, 0, 10, 4, 7, 0, 3, 2, 0, 10, 1, 1, 1, 2, 1, 2, 0, -1]), (20, [4, 2, 5], [50, 1, 1, 1010, 1001, 4, 11, 0, 6, 4, 2, 1, 0, 0, 1, 2, 1, 10, 1, 2, 1, 2, 9, 5, 3, 1, 1, 1, 0, 0, 256]), (20, [2, 4, 5], [50, 1, 0, 10, 4, 7, 0, 3, 2, 0, 10, 1, 1, 1, 2, 1, 2, 0, -1]), (20, [1, 2], [30, 0, 1, 0, 0, -1, 1, 15]), (20, [2], [50, 3, 1, 15, 11, 10, 1, 2, 8, 0, 3, 2, 0, 15, 2, 0, 11, 3, 12, 0, 7, 4, 3, 2, 0, 15, 0, 1, 2, 0, 11, 2, 8, 1, 3, 2, 0, 11, 2, 0, 15, 2, 12, 0, 7, 4, 3, 2, 0, 15, 0, 1, 2, 0, 10, 3, 30, 2, 14, 0, 2, 0, 65, 9, 6, 3, 0, 1, 2, 0, 15, 0, 256, 0, 10, 9, 6, 3, 0, 1, 2, 0, 15, 0, 256, 0, 90, 2, 14, 0, 2, 0, 97, 9, 6, 3, 0, 1, 2, 0, 15, 0, 256, 0, 10, 9, 6, 3, 0, 1, 2, 0, 15, 0, 256, 0, 122]), (24, [0, 2], [])], [], [], [(20, [2], [50, 2, 0, 15, 11, 0, 7, 4, 3, 2, 0, 15, 0, 1, 2, 0, 11])], [], [])
theorem oo_Mo_next_13 {kA : Nat → ClassId} : or_ok PRD kA GG o_Mo_next_13 := by
  refine or_mk fun A ta ws vs hD hth hl => ?_
  intro t0 r0 t1 k1 t2 r2 t4 k4 t5 k5 t7 k7 t9 k9 t10 k10 f0 f1 f2 f3 f4 f5 f6 f7 f8 f9 f10
  replace f3 := shm_117 f3
  replace f6 := shm_535 f6
  replace f7 := shm_536 f7
  replace f9 := shm_1401 f9
  replace f10 := shm_5 f10
  have q2 : n_v vs 2 = n_v vs 0 := f10.symm
  simp only [q2] at f3 f6 f7 f9
  have g3 : v_iv (n_v vs 4) = w_fi ws (n_v vs 0) 11 := congrArg v_iv f3
  have kz_0_10 := fdq_50 hD hth r0
  have kz_0_11 := fdq_273 hD hth r0
  have kz_0_15 := fdq_274 hD hth r0
  have nf0 : fc_1 PRD (20, [2], [50, 2, 0, 15, 11, 0, 7, 4, 3, 2, 0, 15, 0, 1, 2, 0, 11]) ws (vs) := by
    refine ⟨nf_in hl rfl, sgq_1402 ?_⟩
    · show (w_fi ws (n_v vs 2) 15 + 1) ≤ w_fi ws (n_v vs 2) 11
      rw [q2]
      exact vc_Mo_next_13_0 (v_iv (n_v vs 4)) (v_iv (n_v vs 5)) (w_ei ws (w_ar ws (n_v vs 0) 1)) (w_fi ws (n_v vs 0) 10) (w_fi ws (n_v vs 0) 11) (w_fi ws (n_v vs 0) 15) k4 k5 g3 f6 f7 f9 kz_0_10 kz_0_11 kz_0_15
  refine ⟨(fun _ h => (by cases h)), [], trivial, ?_, (fun _ h => (by cases h))⟩
  rw [List.append_nil]
  exact List.forall_mem_cons.mpr ⟨⟨show (20 : Nat) < 100 from by decide, nf0⟩, (fun _ h => (by cases h))⟩
set_option maxHeartbeats 4000000 in
theorem vc_Mo_next_14_0 (x4 : Int) (x5 : Int) (tape_0 : Int → Int) (limit_0 : Int) (pos_0 : Int) (from_0 : Int) (k4 : 0 ≤ x4 ∧ x4 ≤ 1999) (k5 : (-1) ≤ x5 ∧ x5 ≤ (-1)) (g3 : x4 = pos_0) (f6 : ((x4 + 1) ≤ limit_0) → (x5 = (tape_0 (x4) % 256))) (f7 : (limit_0 ≤ x4) → (x5 = (-1))) (f9 : (from_0 ≤ pos_0) ∧ (((from_0 + 1) ≤ pos_0) ∨ ((pos_0 = from_0) ∧ (((from_0 + 1) ≤ limit_0) ∧ (((65 ≤ (tape_0 (from_0) % 256)) ∧ ((tape_0 (from_0) % 256) ≤ 90)) ∨ ((97 ≤ (tape_0 (from_0) % 256)) ∧ ((tape_0 (from_0) % 256) ≤ 122))))))) (kz_0_10 : 0 ≤ limit_0 ∧ limit_0 ≤ 2000) (kz_0_11 : 0 ≤ pos_0 ∧ pos_0 ≤ 2000) (kz_0_15 : 0 ≤ from_0 ∧ from_0 ≤ 2000) : (from_0 + 1) ≤ pos_0 := by
  first | assumption | omega | grind
def o_Mo_next_14 : or_T := (147, 11, [(0, (2, 0, 0, [165])), (1, (0, 0, 2000, [])), (2, (2, 0, 0, [165])), (4, (0, 0, 1999, [])), (5, (0, -1, -1, [])), (7, (0, 0, 47, [])), (9, (0, -1, -1, [])), (10, (0, 95, 95, []))], [(7, [9, 10], [1]), (20, [4, 2, 9], [50, 1, 1, 1010, 1001, 4, 11, 0, 6, 4, 2, 1, 0, 0, 1, 2, 1, 10, 1, 2, 1, 2, 9, 5, 3, 1, 1, 1, 0, 0, 256]), (20, [2, 4, 9], [50, 1, 0, 10, 4, 7, 0, 3, 2, 0, 10, 1, 1, 1, 2, 1, 2, 0, -1]), (9, [4, 2], [11]), (20, [4, 2, 7], [50, 1, 1, 1010, 1001, 4, 11, 0, 6, 4, 2, 1, 0, 0, 1, 2, 1, 10, 1, 2, 1, 2, 9, 5, 3, 1, 1, 1, 0, 0, 256]), (20, [2, 4, 7], [50, 1, 0, 10, 4, 7, 0, 3, 2, 0, 10, 1, 1, 1, 2, 1, 2, 0, -1]), (20, [4, 2, 5], [50, 1, 1, 1010, 1001, 4, 11, 0, 6, 4, 2, 1, 0, 0, 1, 2, 1, 10, 1, 2, 1, 2, 9, 5, 3, 1, 1, 1, 0, 0, 256]), (20, [2, 4, 5], [50, 1, 0, 10, 4, 7, 0, 3, 2, 0, 10, 1, 1, 1, 2, 1, 2, 0, -1]), (20, [1, 2], [30, 0, 1, 0, 0, -1, 1, 15]), (20, [2], [50, 3, 1, 15, 11, 10, 1, 2, 8, 0, 3, 2, 0, 15, 2, 0, 11, 3, 12, 0, 7, 4, 3, 2, 0, 15, 0, 1, 2, 0, 11, 2, 8, 1, 3, 2, 0, 11, 2, 0, 15, 2, 12, 0, 7, 4, 3, 2, 0, 15, 0, 1, 2, 0, 10, 3, 30, 2, 14, 0, 2, 0, 65, 9, 6, 3, 0, 1, 2, 0, 15, 0, 256, 0, 10, 9, 6, 3, 0, 1, 2, 0, 15, 0, 256, 0, 90, 2, 14, 0, 2, 0, 97, 9, 6, 3, 0, 1, 2, 0, 15, 0, 256, 0, 10, 9, 6, 3, 0, 1, 2, 0, 15, 0, 256, 0, 122]), (24, [0, 2], [])], [], [], [(20, [2], [50, 2, 0, 15, 11, 0, 7, 4, 3, 2, 0, 15, 0, 1, 2, 0, 11])], [], [])
theorem oo_Mo_next_14 {kA : Nat → ClassId} : or_ok PRD kA GG o_Mo_next_14 := by
  refine or_mk fun A ta ws vs hD hth hl => ?_
  intro t0 r0 t1 k1 t2 r2 t4 k4 t5 k5 t7 k7 t9 k9 t10 k10 f0 f1 f2 f3 f4 f5 f6 f7 f8 f9 f10
  replace f3 := shm_117 f3
  replace f6 := shm_535 f6
  replace f7 := shm_536 f7
  replace f9 := shm_1401 f9
  replace f10 := shm_5 f10
  have q2 : n_v vs 2 = n_v vs 0 := f10.symm
  simp only [q2] at f3 f6 f7 f9
  have g3 : v_iv (n_v vs 4) = w_fi ws (n_v vs 0) 11 := congrArg v_iv f3
  have kz_0_10 := fdq_50 hD hth r0
  have kz_0_11 := fdq_273 hD hth r0
  have kz_0_15 := fdq_274 hD hth r0
  have nf0 : fc_1 PRD (20, [2], [50, 2, 0, 15, 11, 0, 7, 4, 3, 2, 0, 15, 0, 1, 2, 0, 11]) ws (vs) := by
    refine ⟨nf_in hl rfl, sgq_1402 ?_⟩
    · show (w_fi ws (n_v vs 2) 15 + 1) ≤ w_fi ws (n_v vs 2) 11
      rw [q2]
      exact vc_Mo_next_14_0 (v_iv (n_v vs 4)) (v_iv (n_v vs 5)) (w_ei ws (w_ar ws (n_v vs 0) 1)) (w_fi ws (n_v vs 0) 10) (w_fi ws (n_v vs 0) 11) (w_fi ws (n_v vs 0) 15) k4 k5 g3 f6 f7 f9 kz_0_10 kz_0_11 kz_0_15
  refine ⟨(fun _ h => (by cases h)), [], trivial, ?_, (fun _ h => (by cases h))⟩
  rw [List.append_nil]
  exact List.forall_mem_cons.mpr ⟨⟨show (20 : Nat) < 100 from by decide, nf0⟩, (fun _ h => (by cases h))⟩
set_option maxHeartbeats 4000000 in
theorem vc_Mo_next_15_0 (x4 : Int) (x5 : Int) (tape_0 : Int → Int) (limit_0 : Int) (pos_0 : Int) (from_0 : Int) (k4 : 0 ≤ x4 ∧ x4 ≤ 1999) (k5 : (-1) ≤ x5 ∧ x5 ≤ (-1)) (g3 : x4 = pos_0) (f6 : ((x4 + 1) ≤ limit_0) → (x5 = (tape_0 (x4) % 256))) (f7 : (limit_0 ≤ x4) → (x5 = (-1))) (f9 : (from_0 ≤ pos_0) ∧ (((from_0 + 1) ≤ pos_0) ∨ ((pos_0 = from_0) ∧ (((from_0 + 1) ≤ limit_0) ∧ (((65 ≤ (tape_0 (from_0) % 256)) ∧ ((tape_0 (from_0) % 256) ≤ 90)) ∨ ((97 ≤ (tape_0 (from_0) % 256)) ∧ ((tape_0 (from_0) % 256) ≤ 122))))))) (kz_0_10 : 0 ≤ limit_0 ∧ limit_0 ≤ 2000) (kz_0_11 : 0 ≤ pos_0 ∧ pos_0 ≤ 2000) (kz_0_15 : 0 ≤ from_0 ∧ from_0 ≤ 2000) : (from_0 + 1) ≤ pos_0 := by
  first | assumption | omega | grind
def o_Mo_next_15 : or_T := (147, 11, [(0, (2, 0, 0, [165])), (1, (0, 0, 2000, [])), (2, (2, 0, 0, [165])), (4, (0, 0, 1999, [])), (5, (0, -1, -1, [])), (7, (0, 0, 47, [])), (9, (0, 0, 255, [])), (10, (0, 95, 95, []))], [(7, [9, 10], [1]), (20, [4, 2, 9], [50, 1, 1, 1010, 1001, 4, 11, 0, 6, 4, 2, 1, 0, 0, 1, 2, 1, 10, 1, 2, 1, 2, 9, 5, 3, 1, 1, 1, 0, 0, 256]), (20, [2, 4, 9], [50, 1, 0, 10, 4, 7, 0, 3, 2, 0, 10, 1, 1, 1, 2, 1, 2, 0, -1]), (9, [4, 2], [11]), (20, [4, 2, 7], [50, 1, 1, 1010, 1001, 4, 11, 0, 6, 4, 2, 1, 0, 0, 1, 2, 1, 10, 1, 2, 1, 2, 9, 5, 3, 1, 1, 1, 0, 0, 256]), (20, [2, 4, 7], [50, 1, 0, 10, 4, 7, 0, 3, 2, 0, 10, 1, 1, 1, 2, 1, 2, 0, -1]), (20, [4, 2, 5], [50, 1, 1, 1010, 1001, 4, 11, 0, 6, 4, 2, 1, 0, 0, 1, 2, 1, 10, 1, 2, 1, 2, 9, 5, 3, 1, 1, 1, 0, 0, 256]), (20, [2, 4, 5], [50, 1, 0, 10, 4, 7, 0, 3, 2, 0, 10, 1, 1, 1, 2, 1, 2, 0, -1]), (20, [1, 2], [30, 0, 1, 0, 0, -1, 1, 15]), (20, [2], [50, 3, 1, 15, 11, 10, 1, 2, 8, 0, 3, 2, 0, 15, 2, 0, 11, 3, 12, 0, 7, 4, 3, 2, 0, 15, 0, 1, 2, 0, 11, 2, 8, 1, 3, 2, 0, 11, 2, 0, 15, 2, 12, 0, 7, 4, 3, 2, 0, 15, 0, 1, 2, 0, 10, 3, 30, 2, 14, 0, 2, 0, 65, 9, 6, 3, 0, 1, 2, 0, 15, 0, 256, 0, 10, 9, 6, 3, 0, 1, 2, 0, 15, 0, 256, 0, 90, 2, 14, 0, 2, 0, 97, 9, 6, 3, 0, 1, 2, 0, 15, 0, 256, 0, 10, 9, 6, 3, 0, 1, 2, 0, 15, 0, 256, 0, 122]), (24, [0, 2], [])], [], [], [(20, [2], [50, 2, 0, 15, 11, 0, 7, 4, 3, 2, 0, 15, 0, 1, 2, 0, 11])], [], [])
theorem oo_Mo_next_15 {kA : Nat → ClassId} : or_ok PRD kA GG o_Mo_next_15 := by
  refine or_mk fun A ta ws vs hD hth hl => ?_
  intro t0 r0 t1 k1 t2 r2 t4 k4 t5 k5 t7 k7 t9 k9 t10 k10 f0 f1 f2 f3 f4 f5 f6 f7 f8 f9 f10
  replace f3 := shm_117 f3
  replace f6 := shm_535 f6
  replace f7 := shm_536 f7
  replace f9 := shm_1401 f9
  replace f10 := shm_5 f10
  have q2 : n_v vs 2 = n_v vs 0 := f10.symm
  simp only [q2] at f3 f6 f7 f9
  have g3 : v_iv (n_v vs 4) = w_fi ws (n_v vs 0) 11 := congrArg v_iv f3
  have kz_0_10 := fdq_50 hD hth r0
  have kz_0_11 := fdq_273 hD hth r0
  have kz_0_15 := fdq_274 hD hth r0
  have nf0 : fc_1 PRD (20, [2], [50, 2, 0, 15, 11, 0, 7, 4, 3, 2, 0, 15, 0, 1, 2, 0, 11]) ws (vs) := by
    refine ⟨nf_in hl rfl, sgq_1402 ?_⟩
    · show (w_fi ws (n_v vs 2) 15 + 1) ≤ w_fi ws (n_v vs 2) 11
      rw [q2]
      exact vc_Mo_next_15_0 (v_iv (n_v vs 4)) (v_iv (n_v vs 5)) (w_ei ws (w_ar ws (n_v vs 0) 1)) (w_fi ws (n_v vs 0) 10) (w_fi ws (n_v vs 0) 11) (w_fi ws (n_v vs 0) 15) k4 k5 g3 f6 f7 f9 kz_0_10 kz_0_11 kz_0_15
  refine ⟨(fun _ h => (by cases h)), [], trivial, ?_, (fun _ h => (by cases h))⟩
  rw [List.append_nil]
  exact List.forall_mem_cons.mpr ⟨⟨show (20 : Nat) < 100 from by decide, nf0⟩, (fun _ h => (by cases h))⟩
set_option maxHeartbeats 4000000 in
theorem vc_Mo_next_16_0 (x4 : Int) (x5 : Int) (tape_0 : Int → Int) (limit_0 : Int) (pos_0 : Int) (from_0 : Int) (k4 : 0 ≤ x4 ∧ x4 ≤ 1999) (k5 : (-1) ≤ x5 ∧ x5 ≤ (-1)) (g3 : x4 = pos_0) (f6 : ((x4 + 1) ≤ limit_0) → (x5 = (tape_0 (x4) % 256))) (f7 : (limit_0 ≤ x4) → (x5 = (-1))) (f9 : (from_0 ≤ pos_0) ∧ (((from_0 + 1) ≤ pos_0) ∨ ((pos_0 = from_0) ∧ (((from_0 + 1) ≤ limit_0) ∧ (((65 ≤ (tape_0 (from_0) % 256)) ∧ ((tape_0 (from_0) % 256) ≤ 90)) ∨ ((97 ≤ (tape_0 (from_0) % 256)) ∧ ((tape_0 (from_0) % 256) ≤ 122))))))) (kz_0_10 : 0 ≤ limit_0 ∧ limit_0 ≤ 2000) (kz_0_11 : 0 ≤ pos_0 ∧ pos_0 ≤ 2000) (kz_0_15 : 0 ≤ from_0 ∧ from_0 ≤ 2000) : (from_0 + 1) ≤ pos_0 := by
  first | assumption | omega | grind
def o_Mo_next_16 : or_T := (147, 11, [(0, (2, 0, 0, [165])), (1, (0, 0, 2000, [])), (2, (2, 0, 0, [165])), (4, (0, 0, 1999, [])), (5, (0, -1, -1, [])), (7, (0, 58, 255, [])), (9, (0, -1, -1, [])), (10, (0, 95, 95, []))], [(7, [9, 10], [1]), (20, [4, 2, 9], [50, 1, 1, 1010, 1001, 4, 11, 0, 6, 4, 2, 1, 0, 0, 1, 2, 1, 10, 1, 2, 1, 2, 9, 5, 3, 1, 1, 1, 0, 0, 256]), (20, [2, 4, 9], [50, 1, 0, 10, 4, 7, 0, 3, 2, 0, 10, 1, 1, 1, 2, 1, 2, 0, -1]), (9, [4, 2], [11]), (20, [4, 2, 7], [50, 1, 1, 1010, 1001, 4, 11, 0, 6, 4, 2, 1, 0, 0, 1, 2, 1, 10, 1, 2, 1, 2, 9, 5, 3, 1, 1, 1, 0, 0, 256]), (20, [2, 4, 7], [50, 1, 0, 10, 4, 7, 0, 3, 2, 0, 10, 1, 1, 1, 2, 1, 2, 0, -1]), (20, [4, 2, 5], [50, 1, 1, 1010, 1001, 4, 11, 0, 6, 4, 2, 1, 0, 0, 1, 2, 1, 10, 1, 2, 1, 2, 9, 5, 3, 1, 1, 1, 0, 0, 256]), (20, [2, 4, 5], [50, 1, 0, 10, 4, 7, 0, 3, 2, 0, 10, 1, 1, 1, 2, 1, 2, 0, -1]), (20, [1, 2], [30, 0, 1, 0, 0, -1, 1, 15]), (20, [2], [50, 3, 1, 15, 11, 10, 1, 2, 8, 0, 3, 2, 0, 15, 2, 0, 11, 3, 12, 0, 7, 4, 3, 2, 0, 15, 0, 1, 2, 0, 11, 2, 8, 1, 3, 2, 0, 11, 2, 0, 15, 2, 12, 0, 7, 4, 3, 2, 0, 15, 0, 1, 2, 0, 10, 3, 30, 2, 14, 0, 2, 0, 65, 9, 6, 3, 0, 1, 2, 0, 15, 0, 256, 0, 10, 9, 6, 3, 0, 1, 2, 0, 15, 0, 256, 0, 90, 2, 14, 0, 2, 0, 97, 9, 6, 3, 0, 1, 2, 0, 15, 0, 256, 0, 10, 9, 6, 3, 0, 1, 2, 0, 15, 0, 256, 0, 122]), (24, [0, 2], [])], [], [], [(20, [2], [50, 2, 0, 15, 11, 0, 7, 4, 3, 2, 0, 15, 0, 1, 2, 0, 11])], [], [])
theorem oo_Mo_next_16 {kA : Nat → ClassId} : or_ok PRD kA GG o_Mo_next_16 := by
  refine or_mk fun A ta ws vs hD hth hl => ?_
  intro t0 r0 t1 k1 t2 r2 t4 k4 t5 k5 t7 k7 t9 k9 t10 k10 f0 f1 f2 f3 f4 f5 f6 f7 f8 f9 f10
  replace f3 := shm_117 f3
  replace f6 := shm_535 f6
  replace f7 := shm_536 f7
  replace f9 := shm_1401 f9
  replace f10 := shm_5 f10
  have q2 : n_v vs 2 = n_v vs 0 := f10.symm
  simp only [q2] at f3 f6 f7 f9
  have g3 : v_iv (n_v vs 4) = w_fi ws (n_v vs 0) 11 := congrArg v_iv f3
  have kz_0_10 := fdq_50 hD hth r0
  have kz_0_11 := fdq_273 hD hth r0
  have kz_0_15 := fdq_274 hD hth r0
  have nf0 : fc_1 PRD (20, [2], [50, 2, 0, 15, 11, 0, 7, 4, 3, 2, 0, 15, 0, 1, 2, 0, 11]) ws (vs) := by
    refine ⟨nf_in hl rfl, sgq_1402 ?_⟩
    · show (w_fi ws (n_v vs 2) 15 + 1) ≤ w_fi ws (n_v vs 2) 11
      rw [q2]
      exact vc_Mo_next_16_0 (v_iv (n_v vs 4)) (v_iv (n_v vs 5)) (w_ei ws (w_ar ws (n_v vs 0) 1)) (w_fi ws (n_v vs 0) 10) (w_fi ws (n_v vs 0) 11) (w_fi ws (n_v vs 0) 15) k4 k5 g3 f6 f7 f9 kz_0_10 kz_0_11 kz_0_15
  refine ⟨(fun _ h => (by cases h)), [], trivial, ?_, (fun _ h => (by cases h))⟩
  rw [List.append_nil]
  exact List.forall_mem_cons.mpr ⟨⟨show (20 : Nat) < 100 from by decide, nf0⟩, (fun _ h => (by cases h))⟩
set_option maxHeartbeats 4000000 in
theorem vc_Mo_next_17_0 (x4 : Int) (x5 : Int) (tape_0 : Int → Int) (limit_0 : Int) (pos_0 : Int) (from_0 : Int) (k4 : 0 ≤ x4 ∧ x4 ≤ 1999) (k5 : (-1) ≤ x5 ∧ x5 ≤ (-1)) (g3 : x4 = pos_0) (f6 : ((x4 + 1) ≤ limit_0) → (x5 = (tape_0 (x4) % 256))) (f7 : (limit_0 ≤ x4) → (x5 = (-1))) (f9 : (from_0 ≤ pos_0) ∧ (((from_0 + 1) ≤ pos_0) ∨ ((pos_0 = from_0) ∧ (((from_0 + 1) ≤ limit_0) ∧ (((65 ≤ (tape_0 (from_0) % 256)) ∧ ((tape_0 (from_0) % 256) ≤ 90)) ∨ ((97 ≤ (tape_0 (from_0) % 256)) ∧ ((tape_0 (from_0) % 256) ≤ 122))))))) (kz_0_10 : 0 ≤ limit_0 ∧ limit_0 ≤ 2000) (kz_0_11 : 0 ≤ pos_0 ∧ pos_0 ≤ 2000) (kz_0_15 : 0 ≤ from_0 ∧ from_0 ≤ 2000) : (from_0 + 1) ≤ pos_0 := by
  first | assumption | omega | grind
def o_Mo_next_17 : or_T := (147, 11, [(0, (2, 0, 0, [165])), (1, (0, 0, 2000, [])), (2, (2, 0, 0, [165])), (4, (0, 0, 1999, [])), (5, (0, -1, -1, [])), (7, (0, 58, 255, [])), (9, (0, 0, 255, [])), (10, (0, 95, 95, []))], [(7, [9, 10], [1]), (20, [4, 2, 9], [50, 1, 1, 1010, 1001, 4, 11, 0, 6, 4, 2, 1, 0, 0, 1, 2, 1, 10, 1, 2, 1, 2, 9, 5, 3, 1, 1, 1, 0, 0, 256]), (20, [2, 4, 9], [50, 1, 0, 10, 4, 7, 0, 3, 2, 0, 10, 1, 1, 1, 2, 1, 2, 0, -1]), (9, [4, 2], [11]), (20, [4, 2, 7], [50, 1, 1, 1010, 1001, 4, 11, 0, 6, 4, 2, 1, 0, 0, 1, 2, 1, 10, 1, 2, 1, 2, 9, 5, 3, 1, 1, 1, 0, 0, 256]), (20, [2, 4, 7], [50, 1, 0, 10, 4, 7, 0, 3, 2, 0, 10, 1, 1, 1, 2, 1, 2, 0, -1]), (20, [4, 2, 5], [50, 1, 1, 1010, 1001, 4, 11, 0, 6, 4, 2, 1, 0, 0, 1, 2, 1, 10, 1, 2, 1, 2, 9, 5, 3, 1, 1, 1, 0, 0, 256]), (20, [2, 4, 5], [50, 1, 0, 10, 4, 7, 0, 3, 2, 0, 10, 1, 1, 1, 2, 1, 2, 0, -1]), (20, [1, 2], [30, 0, 1, 0, 0, -1, 1, 15]), (20, [2], [50, 3, 1, 15, 11, 10, 1, 2, 8, 0, 3, 2, 0, 15, 2, 0, 11, 3, 12, 0, 7, 4, 3, 2, 0, 15, 0, 1, 2, 0, 11, 2, 8, 1, 3, 2, 0, 11, 2, 0, 15, 2, 12, 0, 7, 4, 3, 2, 0, 15, 0, 1, 2, 0, 10, 3, 30, 2, 14, 0, 2, 0, 65, 9, 6, 3, 0, 1, 2, 0, 15, 0, 256, 0, 10, 9, 6, 3, 0, 1, 2, 0, 15, 0, 256, 0, 90, 2, 14, 0, 2, 0, 97, 9, 6, 3, 0, 1, 2, 0, 15, 0, 256, 0, 10, 9, 6, 3, 0, 1, 2, 0, 15, 0, 256, 0, 122]), (24, [0, 2], [])], [], [], [(20, [2], [50, 2, 0, 15, 11, 0, 7, 4, 3, 2, 0, 15, 0, 1, 2, 0, 11])], [], [])
theorem oo_Mo_next_17 {kA : Nat → ClassId} : or_ok PRD kA GG o_Mo_next_17 := by
  refine or_mk fun A ta ws vs hD hth hl => ?_
  intro t0 r0 t1 k1 t2 r2 t4 k4 t5 k5 t7 k7 t9 k9 t10 k10 f0 f1 f2 f3 f4 f5 f6 f7 f8 f9 f10
  replace f3 := shm_117 f3
  replace f6 := shm_535 f6
  replace f7 := shm_536 f7
  replace f9 := shm_1401 f9
  replace f10 := shm_5 f10
  have q2 : n_v vs 2 = n_v vs 0 := f10.symm
  simp only [q2] at f3 f6 f7 f9
  have g3 : v_iv (n_v vs 4) = w_fi ws (n_v vs 0) 11 := congrArg v_iv f3
  have kz_0_10 := fdq_50 hD hth r0
  have kz_0_11 := fdq_273 hD hth r0
  have kz_0_15 := fdq_274 hD hth r0
  have nf0 : fc_1 PRD (20, [2], [50, 2, 0, 15, 11, 0, 7, 4, 3, 2, 0, 15, 0, 1, 2, 0, 11]) ws (vs) := by
    refine ⟨nf_in hl rfl, sgq_1402 ?_⟩
    · show (w_fi ws (n_v vs 2) 15 + 1) ≤ w_fi ws (n_v vs 2) 11
      rw [q2]
      exact vc_Mo_next_17_0 (v_iv (n_v vs 4)) (v_iv (n_v vs 5)) (w_ei ws (w_ar ws (n_v vs 0) 1)) (w_fi ws (n_v vs 0) 10) (w_fi ws (n_v vs 0) 11) (w_fi ws (n_v vs 0) 15) k4 k5 g3 f6 f7 f9 kz_0_10 kz_0_11 kz_0_15
  refine ⟨(fun _ h => (by cases h)), [], trivial, ?_, (fun _ h => (by cases h))⟩
  rw [List.append_nil]
  exact List.forall_mem_cons.mpr ⟨⟨show (20 : Nat) < 100 from by decide, nf0⟩, (fun _ h => (by cases h))⟩
set_option maxHeartbeats 4000000 in
theorem vc_Mo_next_18_0 (x4 : Int) (x5 : Int) (x7 : Int) (tape_0 : Int → Int) (limit_0 : Int) (pos_0 : Int) (from_0 : Int) (k4 : 0 ≤ x4 ∧ x4 ≤ 1999) (k5 : 0 ≤ x5 ∧ x5 ≤ 64) (k7 : (-1) ≤ x7 ∧ x7 ≤ (-1)) (g3 : x4 = pos_0) (f4 : ((x4 + 1) ≤ limit_0) → (x7 = (tape_0 (x4) % 256))) (f5 : (limit_0 ≤ x4) → (x7 = (-1))) (f6 : ((x4 + 1) ≤ limit_0) → (x5 = (tape_0 (x4) % 256))) (f7 : (limit_0 ≤ x4) → (x5 = (-1))) (f9 : (from_0 ≤ pos_0) ∧ (((from_0 + 1) ≤ pos_0) ∨ ((pos_0 = from_0) ∧ (((from_0 + 1) ≤ limit_0) ∧ (((65 ≤ (tape_0 (from_0) % 256)) ∧ ((tape_0 (from_0) % 256) ≤ 90)) ∨ ((97 ≤ (tape_0 (from_0) % 256)) ∧ ((tape_0 (from_0) % 256) ≤ 122))))))) (kz_0_10 : 0 ≤ limit_0 ∧ limit_0 ≤ 2000) (kz_0_11 : 0 ≤ pos_0 ∧ pos_0 ≤ 2000) (kz_0_15 : 0 ≤ from_0 ∧ from_0 ≤ 2000) : (from_0 + 1) ≤ pos_0 := by
  first | assumption | omega | grind
def o_Mo_next_18 : or_T := (147, 11, [(0, (2, 0, 0, [165])), (1, (0, 0, 2000, [])), (2, (2, 0, 0, [165])), (4, (0, 0, 1999, [])), (5, (0, 0, 64, [])), (7, (0, -1, -1, [])), (9, (0, -1, -1, [])), (10, (0, 95, 95, []))], [(7, [9, 10], [1]), (20, [4, 2, 9], [50, 1, 1, 1010, 1001, 4, 11, 0, 6, 4, 2, 1, 0, 0, 1, 2, 1, 10, 1, 2, 1, 2, 9, 5, 3, 1, 1, 1, 0, 0, 256]), (20, [2, 4, 9], [50, 1, 0, 10, 4, 7, 0, 3, 2, 0, 10, 1, 1, 1, 2, 1, 2, 0, -1]), (9, [4, 2], [11]), (20, [4, 2, 7], [50, 1, 1, 1010, 1001, 4, 11, 0, 6, 4, 2, 1, 0, 0, 1, 2, 1, 10, 1, 2, 1, 2, 9, 5, 3, 1, 1, 1, 0, 0, 256]), (20, [2, 4, 7], [50, 1, 0, 10, 4, 7, 0, 3, 2, 0, 10, 1, 1, 1, 2, 1, 2, 0, -1]), (20, [4, 2, 5], [50, 1, 1, 1010, 1001, 4, 11, 0, 6, 4, 2, 1, 0, 0, 1, 2, 1, 10, 1, 2, 1, 2, 9, 5, 3, 1, 1, 1, 0, 0, 256]), (20, [2, 4, 5], [50, 1, 0, 10, 4, 7, 0, 3, 2, 0, 10, 1, 1, 1, 2, 1, 2, 0, -1]), (20, [1, 2], [30, 0, 1, 0, 0, -1, 1, 15]), (20, [2], [50, 3, 1, 15, 11, 10, 1, 2, 8, 0, 3, 2, 0, 15, 2, 0, 11, 3, 12, 0, 7, 4, 3, 2, 0, 15, 0, 1, 2, 0, 11, 2, 8, 1, 3, 2, 0, 11, 2, 0, 15, 2, 12, 0, 7, 4, 3, 2, 0, 15, 0, 1, 2, 0, 10, 3, 30, 2, 14, 0, 2, 0, 65, 9, 6, 3, 0, 1, 2, 0, 15, 0, 256, 0, 10, 9, 6, 3, 0, 1, 2, 0, 15, 0, 256, 0, 90, 2, 14, 0, 2, 0, 97, 9, 6, 3, 0, 1, 2, 0, 15, 0, 256, 0, 10, 9, 6, 3, 0, 1, 2, 0, 15, 0, 256, 0, 122]), (24, [0, 2], [])], [], [], [(20, [2], [50, 2, 0, 15, 11, 0, 7, 4, 3, 2, 0, 15, 0, 1, 2, 0, 11])], [], [])
theorem oo_Mo_next_18 {kA : Nat → ClassId} : or_ok PRD kA GG o_Mo_next_18 := by
  refine or_mk fun A ta ws vs hD hth hl => ?_
  intro t0 r0 t1 k1 t2 r2 t4 k4 t5 k5 t7 k7 t9 k9 t10 k10 f0 f1 f2 f3 f4 f5 f6 f7 f8 f9 f10
  replace f3 := shm_117 f3
  replace f4 := shm_535 f4
  replace f5 := shm_536 f5
  replace f6 := shm_535 f6
  replace f7 := shm_536 f7
  replace f9 := shm_1401 f9
  replace f10 := shm_5 f10
  have q2 : n_v vs 2 = n_v vs 0 := f10.symm
  simp only [q2] at f3 f4 f5 f6 f7 f9
  have g3 : v_iv (n_v vs 4) = w_fi ws (n_v vs 0) 11 := congrArg v_iv f3
  have kz_0_10 := fdq_50 hD hth r0
  have kz_0_11 := fdq_273 hD hth r0
  have kz_0_15 := fdq_274 hD hth r0
  have nf0 : fc_1 PRD (20, [2], [50, 2, 0, 15, 11, 0, 7, 4, 3, 2, 0, 15, 0, 1, 2, 0, 11]) ws (vs) := by
    refine ⟨nf_in hl rfl, sgq_1402 ?_⟩
    · show (w_fi ws (n_v vs 2) 15 + 1) ≤ w_fi ws (n_v vs 2) 11
      rw [q2]
      exact vc_Mo_next_18_0 (v_iv (n_v vs 4)) (v_iv (n_v vs 5)) (v_iv (n_v vs 7)) (w_ei ws (w_ar ws (n_v vs 0) 1)) (w_fi ws (n_v vs 0) 10) (w_fi ws (n_v vs 0) 11) (w_fi ws (n_v vs 0) 15) k4 k5 k7 g3 f4 f5 f6 f7 f9 kz_0_10 kz_0_11 kz_0_15
  refine ⟨(fun _ h => (by cases h)), [], trivial, ?_, (fun _ h => (by cases h))⟩
  rw [List.append_nil]
  exact List.forall_mem_cons.mpr ⟨⟨show (20 : Nat) < 100 from by decide, nf0⟩, (fun _ h => (by cases h))⟩
set_option maxHeartbeats 4000000 in
theorem vc_Mo_next_19_0 (x4 : Int) (x5 : Int) (x7 : Int) (tape_0 : Int → Int) (limit_0 : Int) (pos_0 : Int) (from_0 : Int) (k4 : 0 ≤ x4 ∧ x4 ≤ 1999) (k5 : 0 ≤ x5 ∧ x5 ≤ 64) (k7 : (-1) ≤ x7 ∧ x7 ≤ (-1)) (g3 : x4 = pos_0) (f4 : ((x4 + 1) ≤ limit_0) → (x7 = (tape_0 (x4) % 256))) (f5 : (limit_0 ≤ x4) → (x7 = (-1))) (f6 : ((x4 + 1) ≤ limit_0) → (x5 = (tape_0 (x4) % 256))) (f7 : (limit_0 ≤ x4) → (x5 = (-1))) (f9 : (from_0 ≤ pos_0) ∧ (((from_0 + 1) ≤ pos_0) ∨ ((pos_0 = from_0) ∧ (((from_0 + 1) ≤ limit_0) ∧ (((65 ≤ (tape_0 (from_0) % 256)) ∧ ((tape_0 (from_0) % 256) ≤ 90)) ∨ ((97 ≤ (tape_0 (from_0) % 256)) ∧ ((tape_0 (from_0) % 256) ≤ 122))))))) (kz_0_10 : 0 ≤ limit_0 ∧ limit_0 ≤ 2000) (kz_0_11 : 0 ≤ pos_0 ∧ pos_0 ≤ 2000) (kz_0_15 : 0 ≤ from_0 ∧ from_0 ≤ 2000) : (from_0 + 1) ≤ pos_0 := by
  first | assumption | omega | grind
def o_Mo_next_19 : or_T := (147, 11, [(0, (2, 0, 0, [165])), (1, (0, 0, 2000, [])), (2, (2, 0, 0, [165])), (4, (0, 0, 1999, [])), (5, (0, 0, 64, [])), (7, (0, -1, -1, [])), (9, (0, 0, 255, [])), (10, (0, 95, 95, []))], [(7, [9, 10], [1]), (20, [4, 2, 9], [50, 1, 1, 1010, 1001, 4, 11, 0, 6, 4, 2, 1, 0, 0, 1, 2, 1, 10, 1, 2, 1, 2, 9, 5, 3, 1, 1, 1, 0, 0, 256]), (20, [2, 4, 9], [50, 1, 0, 10, 4, 7, 0, 3, 2, 0, 10, 1, 1, 1, 2, 1, 2, 0, -1]), (9, [4, 2], [11]), (20, [4, 2, 7], [50, 1, 1, 1010, 1001, 4, 11, 0, 6, 4, 2, 1, 0, 0, 1, 2, 1, 10, 1, 2, 1, 2, 9, 5, 3, 1, 1, 1, 0, 0, 256]), (20, [2, 4, 7], [50, 1, 0, 10, 4, 7, 0, 3, 2, 0, 10, 1, 1, 1, 2, 1, 2, 0, -1]), (20, [4, 2, 5], [50, 1, 1, 1010, 1001, 4, 11, 0, 6, 4, 2, 1, 0, 0, 1, 2, 1, 10, 1, 2, 1, 2, 9, 5, 3, 1, 1, 1, 0, 0, 256]), (20, [2, 4, 5], [50, 1, 0, 10, 4, 7, 0, 3, 2, 0, 10, 1, 1, 1, 2, 1, 2, 0, -1]), (20, [1, 2], [30, 0, 1, 0, 0, -1, 1, 15]), (20, [2], [50, 3, 1, 15, 11, 10, 1, 2, 8, 0, 3, 2, 0, 15, 2, 0, 11, 3, 12, 0, 7, 4, 3, 2, 0, 15, 0, 1, 2, 0, 11, 2, 8, 1, 3, 2, 0, 11, 2, 0, 15, 2, 12, 0, 7, 4, 3, 2, 0, 15, 0, 1, 2, 0, 10, 3, 30, 2, 14, 0, 2, 0, 65, 9, 6, 3, 0, 1, 2, 0, 15, 0, 256, 0, 10, 9, 6, 3, 0, 1, 2, 0, 15, 0, 256, 0, 90, 2, 14, 0, 2, 0, 97, 9, 6, 3, 0, 1, 2, 0, 15, 0, 256, 0, 10, 9, 6, 3, 0, 1, 2, 0, 15, 0, 256, 0, 122]), (24, [0, 2], [])], [], [], [(20, [2], [50, 2, 0, 15, 11, 0, 7, 4, 3, 2, 0, 15, 0, 1, 2, 0, 11])], [], [])
theorem oo_Mo_next_19 {kA : Nat → ClassId} : or_ok PRD kA GG o_Mo_next_19 := by
  refine or_mk fun A ta ws vs hD hth hl => ?_
  intro t0 r0 t1 k1 t2 r2 t4 k4 t5 k5 t7 k7 t9 k9 t10 k10 f0 f1 f2 f3 f4 f5 f6 f7 f8 f9 f10
  replace f3 := shm_117 f3
  replace f4 := shm_535 f4
  replace f5 := shm_536 f5
  replace f6 := shm_535 f6
  replace f7 := shm_536 f7
  replace f9 := shm_1401 f9
  replace f10 := shm_5 f10
  have q2 : n_v vs 2 = n_v vs 0 := f10.symm
  simp only [q2] at f3 f4 f5 f6 f7 f9
  have g3 : v_iv (n_v vs 4) = w_fi ws (n_v vs 0) 11 := congrArg v_iv f3
  have kz_0_10 := fdq_50 hD hth r0
  have kz_0_11 := fdq_273 hD hth r0
  have kz_0_15 := fdq_274 hD hth r0
  have nf0 : fc_1 PRD (20, [2], [50, 2, 0, 15, 11, 0, 7, 4, 3, 2, 0, 15, 0, 1, 2, 0, 11]) ws (vs) := by
    refine ⟨nf_in hl rfl, sgq_1402 ?_⟩
    · show (w_fi ws (n_v vs 2) 15 + 1) ≤ w_fi ws (n_v vs 2) 11
      rw [q2]
      exact vc_Mo_next_19_0 (v_iv (n_v vs 4)) (v_iv (n_v vs 5)) (v_iv (n_v vs 7)) (w_ei ws (w_ar ws (n_v vs 0) 1)) (w_fi ws (n_v vs 0) 10) (w_fi ws (n_v vs 0) 11) (w_fi ws (n_v vs 0) 15) k4 k5 k7 g3 f4 f5 f6 f7 f9 kz_0_10 kz_0_11 kz_0_15
  refine ⟨(fun _ h => (by cases h)), [], trivial, ?_, (fun _ h => (by cases h))⟩
  rw [List.append_nil]
  exact List.forall_mem_cons.mpr ⟨⟨show (20 : Nat) < 100 from by decide, nf0⟩, (fun _ h => (by cases h))⟩
set_option maxHeartbeats 4000000 in
theorem vc_Mo_next_20_0 (x4 : Int) (x5 : Int) (x7 : Int) (x9 : Int) (tape_0 : Int → Int) (limit_0 : Int) (pos_0 : Int) (from_0 : Int) (k4 : 0 ≤ x4 ∧ x4 ≤ 1999) (k5 : 0 ≤ x5 ∧ x5 ≤ 64) (k7 : 0 ≤ x7 ∧ x7 ≤ 47) (k9 : (-1) ≤ x9 ∧ x9 ≤ (-1)) (f1 : ((x4 + 1) ≤ limit_0) → (x9 = (tape_0 (x4) % 256))) (f2 : (limit_0 ≤ x4) → (x9 = (-1))) (g3 : x4 = pos_0) (f4 : ((x4 + 1) ≤ limit_0) → (x7 = (tape_0 (x4) % 256))) (f5 : (limit_0 ≤ x4) → (x7 = (-1))) (f6 : ((x4 + 1) ≤ limit_0) → (x5 = (tape_0 (x4) % 256))) (f7 : (limit_0 ≤ x4) → (x5 = (-1))) (f9 : (from_0 ≤ pos_0) ∧ (((from_0 + 1) ≤ pos_0) ∨ ((pos_0 = from_0) ∧ (((from_0 + 1) ≤ limit_0) ∧ (((65 ≤ (tape_0 (from_0) % 256)) ∧ ((tape_0 (from_0) % 256) ≤ 90)) ∨ ((97 ≤ (tape_0 (from_0) % 256)) ∧ ((tape_0 (from_0) % 256) ≤ 122))))))) (kz_0_10 : 0 ≤ limit_0 ∧ limit_0 ≤ 2000) (kz_0_11 : 0 ≤ pos_0 ∧ pos_0 ≤ 2000) (kz_0_15 : 0 ≤ from_0 ∧ from_0 ≤ 2000) : (from_0 + 1) ≤ pos_0 := by
  first | assumption | omega | grind
def o_Mo_next_20 : or_T := (147, 11, [(0, (2, 0, 0, [165])), (1, (0, 0, 2000, [])), (2, (2, 0, 0, [165])), (4, (0, 0, 1999, [])), (5, (0, 0, 64, [])), (7, (0, 0, 47, [])), (9, (0, -1, -1, [])), (10, (0, 95, 95, []))], [(7, [9, 10], [1]), (20, [4, 2, 9], [50, 1, 1, 1010, 1001, 4, 11, 0, 6, 4, 2, 1, 0, 0, 1, 2, 1, 10, 1, 2, 1, 2, 9, 5, 3, 1, 1, 1, 0, 0, 256]), (20, [2, 4, 9], [50, 1, 0, 10, 4, 7, 0, 3, 2, 0, 10, 1, 1, 1, 2, 1, 2, 0, -1]), (9, [4, 2], [11]), (20, [4, 2, 7], [50, 1, 1, 1010, 1001, 4, 11, 0, 6, 4, 2, 1, 0, 0, 1, 2, 1, 10, 1, 2, 1, 2, 9, 5, 3, 1, 1, 1, 0, 0, 256]), (20, [2, 4, 7], [50, 1, 0, 10, 4, 7, 0, 3, 2, 0, 10, 1, 1, 1, 2, 1, 2, 0, -1]), (20, [4, 2, 5], [50, 1, 1, 1010, 1001, 4, 11, 0, 6, 4, 2, 1, 0, 0, 1, 2, 1, 10, 1, 2, 1, 2, 9, 5, 3, 1, 1, 1, 0, 0, 256]), (20, [2, 4, 5], [50, 1, 0, 10, 4, 7, 0, 3, 2, 0, 10, 1, 1, 1, 2, 1, 2, 0, -1]), (20, [1, 2], [30, 0, 1, 0, 0, -1, 1, 15]), (20, [2], [50, 3, 1, 15, 11, 10, 1, 2, 8, 0, 3, 2, 0, 15, 2, 0, 11, 3, 12, 0, 7, 4, 3, 2, 0, 15, 0, 1, 2, 0, 11, 2, 8, 1, 3, 2, 0, 11, 2, 0, 15, 2, 12, 0, 7, 4, 3, 2, 0, 15, 0, 1, 2, 0, 10, 3, 30, 2, 14, 0, 2, 0, 65, 9, 6, 3, 0, 1, 2, 0, 15, 0, 256, 0, 10, 9, 6, 3, 0, 1, 2, 0, 15, 0, 256, 0, 90, 2, 14, 0, 2, 0, 97, 9, 6, 3, 0, 1, 2, 0, 15, 0, 256, 0, 10, 9, 6, 3, 0, 1, 2, 0, 15, 0, 256, 0, 122]), (24, [0, 2], [])], [], [], [(20, [2], [50, 2, 0, 15, 11, 0, 7, 4, 3, 2, 0, 15, 0, 1, 2, 0, 11])], [], [])
theorem oo_Mo_next_20 {kA : Nat → ClassId} : or_ok PRD kA GG o_Mo_next_20 := by
  refine or_mk fun A ta ws vs hD hth hl => ?_
  intro t0 r0 t1 k1 t2 r2 t4 k4 t5 k5 t7 k7 t9 k9 t10 k10 f0 f1 f2 f3 f4 f5 f6 f7 f8 f9 f10
  replace f1 := shm_535 f1
  replace f2 := shm_536 f2
  replace f3 := shm_117 f3
  replace f4 := shm_535 f4
  replace f5 := shm_536 f5
  replace f6 := shm_535 f6
  replace f7 := shm_536 f7
  replace f9 := shm_1401 f9
  replace f10 := shm_5 f10
  have q2 : n_v vs 2 = n_v vs 0 := f10.symm
  simp only [q2] at f1 f2 f3 f4 f5 f6 f7 f9
  have g3 : v_iv (n_v vs 4) = w_fi ws (n_v vs 0) 11 := congrArg v_iv f3
  have kz_0_10 := fdq_50 hD hth r0
  have kz_0_11 := fdq_273 hD hth r0
  have kz_0_15 := fdq_274 hD hth r0
  have nf0 : fc_1 PRD (20, [2], [50, 2, 0, 15, 11, 0, 7, 4, 3, 2, 0, 15, 0, 1, 2, 0, 11]) ws (vs) := by
    refine ⟨nf_in hl rfl, sgq_1402 ?_⟩
    · show (w_fi ws (n_v vs 2) 15 + 1) ≤ w_fi ws (n_v vs 2) 11
      rw [q2]
      exact vc_Mo_next_20_0 (v_iv (n_v vs 4)) (v_iv (n_v vs 5)) (v_iv (n_v vs 7)) (v_iv (n_v vs 9)) (w_ei ws (w_ar ws (n_v vs 0) 1)) (w_fi ws (n_v vs 0) 10) (w_fi ws (n_v vs 0) 11) (w_fi ws (n_v vs 0) 15) k4 k5 k7 k9 f1 f2 g3 f4 f5 f6 f7 f9 kz_0_10 kz_0_11 kz_0_15
  refine ⟨(fun _ h => (by cases h)), [], trivial, ?_, (fun _ h => (by cases h))⟩
  rw [List.append_nil]
  exact List.forall_mem_cons.mpr ⟨⟨show (20 : Nat) < 100 from by decide, nf0⟩, (fun _ h => (by cases h))⟩
set_option maxHeartbeats 4000000 in
theorem vc_Mo_next_21_0 (x4 : Int) (x7 : Int) (tape_0 : Int → Int) (limit_0 : Int) (pos_0 : Int) (from_0 : Int) (k4 : 0 ≤ x4 ∧ x4 ≤ 1999) (k7 : 0 ≤ x7 ∧ x7 ≤ 47) (g3 : x4 = pos_0) (f4 : ((x4 + 1) ≤ limit_0) → (x7 = (tape_0 (x4) % 256))) (f9 : (from_0 ≤ pos_0) ∧ (((from_0 + 1) ≤ pos_0) ∨ ((pos_0 = from_0) ∧ (((from_0 + 1) ≤ limit_0) ∧ (((65 ≤ (tape_0 (from_0) % 256)) ∧ ((tape_0 (from_0) % 256) ≤ 90)) ∨ ((97 ≤ (tape_0 (from_0) % 256)) ∧ ((tape_0 (from_0) % 256) ≤ 122))))))) (kz_0_10 : 0 ≤ limit_0 ∧ limit_0 ≤ 2000) (kz_0_11 : 0 ≤ pos_0 ∧ pos_0 ≤ 2000) (kz_0_15 : 0 ≤ from_0 ∧ from_0 ≤ 2000) : (from_0 + 1) ≤ pos_0 := by
  first | assumption | omega | grind
def o_Mo_next_21 : or_T := (147, 11, [(0, (2, 0, 0, [165])), (1, (0, 0, 2000, [])), (2, (2, 0, 0, [165])), (4, (0, 0, 1999, [])), (5, (0, 0, 64, [])), (7, (0, 0, 47, [])), (9, (0, 0, 255, [])), (10, (0, 95, 95, []))], [(7, [9, 10], [1]), (20, [4, 2, 9], [50, 1, 1, 1010, 1001, 4, 11, 0, 6, 4, 2, 1, 0, 0, 1, 2, 1, 10, 1, 2, 1, 2, 9, 5, 3, 1, 1, 1, 0, 0, 256]), (20, [2, 4, 9], [50, 1, 0, 10, 4, 7, 0, 3, 2, 0, 10, 1, 1, 1, 2, 1, 2, 0, -1]), (9, [4, 2], [11]), (20, [4, 2, 7], [50, 1, 1, 1010, 1001, 4, 11, 0, 6, 4, 2, 1, 0, 0, 1, 2, 1, 10, 1, 2, 1, 2, 9, 5, 3, 1, 1, 1, 0, 0, 256]), (20, [2, 4, 7], [50, 1, 0, 10, 4, 7, 0, 3, 2, 0, 10, 1, 1, 1, 2, 1, 2, 0, -1]), (20, [4, 2, 5], [50, 1, 1, 1010, 1001, 4, 11, 0, 6, 4, 2, 1, 0, 0, 1, 2, 1, 10, 1, 2, 1, 2, 9, 5, 3, 1, 1, 1, 0, 0, 256]), (20, [2, 4, 5], [50, 1, 0, 10, 4, 7, 0, 3, 2, 0, 10, 1, 1, 1, 2, 1, 2, 0, -1]), (20, [1, 2], [30, 0, 1, 0, 0, -1, 1, 15]), (20, [2], [50, 3, 1, 15, 11, 10, 1, 2, 8, 0, 3, 2, 0, 15, 2, 0, 11, 3, 12, 0, 7, 4, 3, 2, 0, 15, 0, 1, 2, 0, 11, 2, 8, 1, 3, 2, 0, 11, 2, 0, 15, 2, 12, 0, 7, 4, 3, 2, 0, 15, 0, 1, 2, 0, 10, 3, 30, 2, 14, 0, 2, 0, 65, 9, 6, 3, 0, 1, 2, 0, 15, 0, 256, 0, 10, 9, 6, 3, 0, 1, 2, 0, 15, 0, 256, 0, 90, 2, 14, 0, 2, 0, 97, 9, 6, 3, 0, 1, 2, 0, 15, 0, 256, 0, 10, 9, 6, 3, 0, 1, 2, 0, 15, 0, 256, 0, 122]), (24, [0, 2], [])], [], [], [(20, [2], [50, 2, 0, 15, 11, 0, 7, 4, 3, 2, 0, 15, 0, 1, 2, 0, 11])], [], [])
theorem oo_Mo_next_21 {kA : Nat → ClassId} : or_ok PRD kA GG o_Mo_next_21 := by
  refine or_mk fun A ta ws vs hD hth hl => ?_
  intro t0 r0 t1 k1 t2 r2 t4 k4 t5 k5 t7 k7 t9 k9 t10 k10 f0 f1 f2 f3 f4 f5 f6 f7 f8 f9 f10
  replace f3 := shm_117 f3
  replace f4 := shm_535 f4
  replace f9 := shm_1401 f9
  replace f10 := shm_5 f10
  have q2 : n_v vs 2 = n_v vs 0 := f10.symm
  simp only [q2] at f3 f4 f9
  have g3 : v_iv (n_v vs 4) = w_fi ws (n_v vs 0) 11 := congrArg v_iv f3
  have kz_0_10 := fdq_50 hD hth r0
  have kz_0_11 := fdq_273 hD hth r0
  have kz_0_15 := fdq_274 hD hth r0
  have nf0 : fc_1 PRD (20, [2], [50, 2, 0, 15, 11, 0, 7, 4, 3, 2, 0, 15, 0, 1, 2, 0, 11]) ws (vs) := by
    refine ⟨nf_in hl rfl, sgq_1402 ?_⟩
    · show (w_fi ws (n_v vs 2) 15 + 1) ≤ w_fi ws (n_v vs 2) 11
      rw [q2]
      exact vc_Mo_next_21_0 (v_iv (n_v vs 4)) (v_iv (n_v vs 7)) (w_ei ws (w_ar ws (n_v vs 0) 1)) (w_fi ws (n_v vs 0) 10) (w_fi ws (n_v vs 0) 11) (w_fi ws (n_v vs 0) 15) k4 k7 g3 f4 f9 kz_0_10 kz_0_11 kz_0_15
  refine ⟨(fun _ h => (by cases h)), [], trivial, ?_, (fun _ h => (by cases h))⟩
  rw [List.append_nil]
  exact List.forall_mem_cons.mpr ⟨⟨show (20 : Nat) < 100 from by decide, nf0⟩, (fun _ h => (by cases h))⟩
set_option maxHeartbeats 4000000 in
theorem vc_Mo_next_22_0 (x4 : Int) (x5 : Int) (x7 : Int) (x9 : Int) (tape_0 : Int → Int) (limit_0 : Int) (pos_0 : Int) (from_0 : Int) (k4 : 0 ≤ x4 ∧ x4 ≤ 1999) (k5 : 0 ≤ x5 ∧ x5 ≤ 64) (k7 : 58 ≤ x7 ∧ x7 ≤ 255) (k9 : (-1) ≤ x9 ∧ x9 ≤ (-1)) (f1 : ((x4 + 1) ≤ limit_0) → (x9 = (tape_0 (x4) % 256))) (f2 : (limit_0 ≤ x4) → (x9 = (-1))) (g3 : x4 = pos_0) (f4 : ((x4 + 1) ≤ limit_0) → (x7 = (tape_0 (x4) % 256))) (f5 : (limit_0 ≤ x4) → (x7 = (-1))) (f6 : ((x4 + 1) ≤ limit_0) → (x5 = (tape_0 (x4) % 256))) (f7 : (limit_0 ≤ x4) → (x5 = (-1))) (f9 : (from_0 ≤ pos_0) ∧ (((from_0 + 1) ≤ pos_0) ∨ ((pos_0 = from_0) ∧ (((from_0 + 1) ≤ limit_0) ∧ (((65 ≤ (tape_0 (from_0) % 256)) ∧ ((tape_0 (from_0) % 256) ≤ 90)) ∨ ((97 ≤ (tape_0 (from_0) % 256)) ∧ ((tape_0 (from_0) % 256) ≤ 122))))))) (kz_0_10 : 0 ≤ limit_0 ∧ limit_0 ≤ 2000) (kz_0_11 : 0 ≤ pos_0 ∧ pos_0 ≤ 2000) (kz_0_15 : 0 ≤ from_0 ∧ from_0 ≤ 2000) : (from_0 + 1) ≤ pos_0 := by
  first | assumption | omega | grind
def o_Mo_next_22 : or_T := (147, 11, [(0, (2, 0, 0, [165])), (1, (0, 0, 2000, [])), (2, (2, 0, 0, [165])), (4, (0, 0, 1999, [])), (5, (0, 0, 64, [])), (7, (0, 58, 255, [])), (9, (0, -1, -1, [])), (10, (0, 95, 95, []))], [(7, [9, 10], [1]), (20, [4, 2, 9], [50, 1, 1, 1010, 1001, 4, 11, 0, 6, 4, 2, 1, 0, 0, 1, 2, 1, 10, 1, 2, 1, 2, 9, 5, 3, 1, 1, 1, 0, 0, 256]), (20, [2, 4, 9], [50, 1, 0, 10, 4, 7, 0, 3, 2, 0, 10, 1, 1, 1, 2, 1, 2, 0, -1]), (9, [4, 2], [11]), (20, [4, 2, 7], [50, 1, 1, 1010, 1001, 4, 11, 0, 6, 4, 2, 1, 0, 0, 1, 2, 1, 10, 1, 2, 1, 2, 9, 5, 3, 1, 1, 1, 0, 0, 256]), (20, [2, 4, 7], [50, 1, 0, 10, 4, 7, 0, 3, 2, 0, 10, 1, 1, 1, 2, 1, 2, 0, -1]), (20, [4, 2, 5], [50, 1, 1, 1010, 1001, 4, 11, 0, 6, 4, 2, 1, 0, 0, 1, 2, 1, 10, 1, 2, 1, 2, 9, 5, 3, 1, 1, 1, 0, 0, 256]), (20, [2, 4, 5], [50, 1, 0, 10, 4, 7, 0, 3, 2, 0, 10, 1, 1, 1, 2, 1, 2, 0, -1]), (20, [1, 2], [30, 0, 1, 0, 0, -1, 1, 15]), (20, [2], [50, 3, 1, 15, 11, 10, 1, 2, 8, 0, 3, 2, 0, 15, 2, 0, 11, 3, 12, 0, 7, 4, 3, 2, 0, 15, 0, 1, 2, 0, 11, 2, 8, 1, 3, 2, 0, 11, 2, 0, 15, 2, 12, 0, 7, 4, 3, 2, 0, 15, 0, 1, 2, 0, 10, 3, 30, 2, 14, 0, 2, 0, 65, 9, 6, 3, 0, 1, 2, 0, 15, 0, 256, 0, 10, 9, 6, 3, 0, 1, 2, 0, 15, 0, 256, 0, 90, 2, 14, 0, 2, 0, 97, 9, 6, 3, 0, 1, 2, 0, 15, 0, 256, 0, 10, 9, 6, 3, 0, 1, 2, 0, 15, 0, 256, 0, 122]), (24, [0, 2], [])], [], [], [(20, [2], [50, 2, 0, 15, 11, 0, 7, 4, 3, 2, 0, 15, 0, 1, 2, 0, 11])], [], [])
theorem oo_Mo_next_22 {kA : Nat → ClassId} : or_ok PRD kA GG o_Mo_next_22 := by
  refine or_mk fun A ta ws vs hD hth hl => ?_
  intro t0 r0 t1 k1 t2 r2 t4 k4 t5 k5 t7 k7 t9 k9 t10 k10 f0 f1 f2 f3 f4 f5 f6 f7 f8 f9 f10
  replace f1 := shm_535 f1
  replace f2 := shm_536 f2
  replace f3 := shm_117 f3
  replace f4 := shm_535 f4
  replace f5 := shm_536 f5
  replace f6 := shm_535 f6
  replace f7 := shm_536 f7
  replace f9 := shm_1401 f9
  replace f10 := shm_5 f10
  have q2 : n_v vs 2 = n_v vs 0 := f10.symm
  simp only [q2] at f1 f2 f3 f4 f5 f6 f7 f9
  have g3 : v_iv (n_v vs 4) = w_fi ws (n_v vs 0) 11 := congrArg v_iv f3
  have kz_0_10 := fdq_50 hD hth r0
  have kz_0_11 := fdq_273 hD hth r0
  have kz_0_15 := fdq_274 hD hth r0
  have nf0 : fc_1 PRD (20, [2], [50, 2, 0, 15, 11, 0, 7, 4, 3, 2, 0, 15, 0, 1, 2, 0, 11]) ws (vs) := by
    refine ⟨nf_in hl rfl, sgq_1402 ?_⟩
    · show (w_fi ws (n_v vs 2) 15 + 1) ≤ w_fi ws (n_v vs 2) 11
      rw [q2]
      exact vc_Mo_next_22_0 (v_iv (n_v vs 4)) (v_iv (n_v vs 5)) (v_iv (n_v vs 7)) (v_iv (n_v vs 9)) (w_ei ws (w_ar ws (n_v vs 0) 1)) (w_fi ws (n_v vs 0) 10) (w_fi ws (n_v vs 0) 11) (w_fi ws (n_v vs 0) 15) k4 k5 k7 k9 f1 f2 g3 f4 f5 f6 f7 f9 kz_0_10 kz_0_11 kz_0_15
  refine ⟨(fun _ h => (by cases h)), [], trivial, ?_, (fun _ h => (by cases h))⟩
  rw [List.append_nil]
  exact List.forall_mem_cons.mpr ⟨⟨show (20 : Nat) < 100 from by decide, nf0⟩, (fun _ h => (by cases h))⟩
set_option maxHeartbeats 4000000 in
theorem vc_Mo_next_23_0 (x4 : Int) (x5 : Int) (tape_0 : Int → Int) (limit_0 : Int) (pos_0 : Int) (from_0 : Int) (k4 : 0 ≤ x4 ∧ x4 ≤ 1999) (k5 : 0 ≤ x5 ∧ x5 ≤ 64) (g3 : x4 = pos_0) (f6 : ((x4 + 1) ≤ limit_0) → (x5 = (tape_0 (x4) % 256))) (f9 : (from_0 ≤ pos_0) ∧ (((from_0 + 1) ≤ pos_0) ∨ ((pos_0 = from_0) ∧ (((from_0 + 1) ≤ limit_0) ∧ (((65 ≤ (tape_0 (from_0) % 256)) ∧ ((tape_0 (from_0) % 256) ≤ 90)) ∨ ((97 ≤ (tape_0 (from_0) % 256)) ∧ ((tape_0 (from_0) % 256) ≤ 122))))))) (kz_0_10 : 0 ≤ limit_0 ∧ limit_0 ≤ 2000) (kz_0_11 : 0 ≤ pos_0 ∧ pos_0 ≤ 2000) (kz_0_15 : 0 ≤ from_0 ∧ from_0 ≤ 2000) : (from_0 + 1) ≤ pos_0 := by
  first | assumption | omega | grind
def o_Mo_next_23 : or_T := (147, 11, [(0, (2, 0, 0, [165])), (1, (0, 0, 2000, [])), (2, (2, 0, 0, [165])), (4, (0, 0, 1999, [])), (5, (0, 0, 64, [])), (7, (0, 58, 255, [])), (9, (0, 0, 255, [])), (10, (0, 95, 95, []))], [(7, [9, 10], [1]), (20, [4, 2, 9], [50, 1, 1, 1010, 1001, 4, 11, 0, 6, 4, 2, 1, 0, 0, 1, 2, 1, 10, 1, 2, 1, 2, 9, 5, 3, 1, 1, 1, 0, 0, 256]), (20, [2, 4, 9], [50, 1, 0, 10, 4, 7, 0, 3, 2, 0, 10, 1, 1, 1, 2, 1, 2, 0, -1]), (9, [4, 2], [11]), (20, [4, 2, 7], [50, 1, 1, 1010, 1001, 4, 11, 0, 6, 4, 2, 1, 0, 0, 1, 2, 1, 10, 1, 2, 1, 2, 9, 5, 3, 1, 1, 1, 0, 0, 256]), (20, [2, 4, 7], [50, 1, 0, 10, 4, 7, 0, 3, 2, 0, 10, 1, 1, 1, 2, 1, 2, 0, -1]), (20, [4, 2, 5], [50, 1, 1, 1010, 1001, 4, 11, 0, 6, 4, 2, 1, 0, 0, 1, 2, 1, 10, 1, 2, 1, 2, 9, 5, 3, 1, 1, 1, 0, 0, 256]), (20, [2, 4, 5], [50, 1, 0, 10, 4, 7, 0, 3, 2, 0, 10, 1, 1, 1, 2, 1, 2, 0, -1]), (20, [1, 2], [30, 0, 1, 0, 0, -1, 1, 15]), (20, [2], [50, 3, 1, 15, 11, 10, 1, 2, 8, 0, 3, 2, 0, 15, 2, 0, 11, 3, 12, 0, 7, 4, 3, 2, 0, 15, 0, 1, 2, 0, 11, 2, 8, 1, 3, 2, 0, 11, 2, 0, 15, 2, 12, 0, 7, 4, 3, 2, 0, 15, 0, 1, 2, 0, 10, 3, 30, 2, 14, 0, 2, 0, 65, 9, 6, 3, 0, 1, 2, 0, 15, 0, 256, 0, 10, 9, 6, 3, 0, 1, 2, 0, 15, 0, 256, 0, 90, 2, 14, 0, 2, 0, 97, 9, 6, 3, 0, 1, 2, 0, 15, 0, 256, 0, 10, 9, 6, 3, 0, 1, 2, 0, 15, 0, 256, 0, 122]), (24, [0, 2], [])], [], [], [(20, [2], [50, 2, 0, 15, 11, 0, 7, 4, 3, 2, 0, 15, 0, 1, 2, 0, 11])], [], [])
theorem oo_Mo_next_23 {kA : Nat → ClassId} : or_ok PRD kA GG o_Mo_next_23 := by
  refine or_mk fun A ta ws vs hD hth hl => ?_
  intro t0 r0 t1 k1 t2 r2 t4 k4 t5 k5 t7 k7 t9 k9 t10 k10 f0 f1 f2 f3 f4 f5 f6 f7 f8 f9 f10
  replace f3 := shm_117 f3
  replace f6 := shm_535 f6
  replace f9 := shm_1401 f9
  replace f10 := shm_5 f10
  have q2 : n_v vs 2 = n_v vs 0 := f10.symm
  simp only [q2] at f3 f6 f9
  have g3 : v_iv (n_v vs 4) = w_fi ws (n_v vs 0) 11 := congrArg v_iv f3
  have kz_0_10 := fdq_50 hD hth r0
  have kz_0_11 := fdq_273 hD hth r0
  have kz_0_15 := fdq_274 hD hth r0
  have nf0 : fc_1 PRD (20, [2], [50, 2, 0, 15, 11, 0, 7, 4, 3, 2, 0, 15, 0, 1, 2, 0, 11]) ws (vs) := by
    refine ⟨nf_in hl rfl, sgq_1402 ?_⟩
    · show (w_fi ws (n_v vs 2) 15 + 1) ≤ w_fi ws (n_v vs 2) 11
      rw [q2]
      exact vc_Mo_next_23_0 (v_iv (n_v vs 4)) (v_iv (n_v vs 5)) (w_ei ws (w_ar ws (n_v vs 0) 1)) (w_fi ws (n_v vs 0) 10) (w_fi ws (n_v vs 0) 11) (w_fi ws (n_v vs 0) 15) k4 k5 g3 f6 f9 kz_0_10 kz_0_11 kz_0_15
  refine ⟨(fun _ h => (by cases h)), [], trivial, ?_, (fun _ h => (by cases h))⟩
  rw [List.append_nil]
  exact List.forall_mem_cons.mpr ⟨⟨show (20 : Nat) < 100 from by decide, nf0⟩, (fun _ h => (by cases h))⟩
set_option maxHeartbeats 4000000 in
theorem vc_Mo_next_24_0 (x4 : Int) (x5 : Int) (x7 : Int) (tape_0 : Int → Int) (limit_0 : Int) (pos_0 : Int) (from_0 : Int) (k4 : 0 ≤ x4 ∧ x4 ≤ 1999) (k5 : 91 ≤ x5 ∧ x5 ≤ 96) (k7 : (-1) ≤ x7 ∧ x7 ≤ (-1)) (g3 : x4 = pos_0) (f4 : ((x4 + 1) ≤ limit_0) → (x7 = (tape_0 (x4) % 256))) (f5 : (limit_0 ≤ x4) → (x7 = (-1))) (f6 : ((x4 + 1) ≤ limit_0) → (x5 = (tape_0 (x4) % 256))) (f7 : (limit_0 ≤ x4) → (x5 = (-1))) (f9 : (from_0 ≤ pos_0) ∧ (((from_0 + 1) ≤ pos_0) ∨ ((pos_0 = from_0) ∧ (((from_0 + 1) ≤ limit_0) ∧ (((65 ≤ (tape_0 (from_0) % 256)) ∧ ((tape_0 (from_0) % 256) ≤ 90)) ∨ ((97 ≤ (tape_0 (from_0) % 256)) ∧ ((tape_0 (from_0) % 256) ≤ 122))))))) (kz_0_10 : 0 ≤ limit_0 ∧ limit_0 ≤ 2000) (kz_0_11 : 0 ≤ pos_0 ∧ pos_0 ≤ 2000) (kz_0_15 : 0 ≤ from_0 ∧ from_0 ≤ 2000) : (from_0 + 1) ≤ pos_0 := by
  first | assumption | omega | grind
def o_Mo_next_24 : or_T := (147, 11, [(0, (2, 0, 0, [165])), (1, (0, 0, 2000, [])), (2, (2, 0, 0, [165])), (4, (0, 0, 1999, [])), (5, (0, 91, 96, [])), (7, (0, -1, -1, [])), (9, (0, -1, -1, [])), (10, (0, 95, 95, []))], [(7, [9, 10], [1]), (20, [4, 2, 9], [50, 1, 1, 1010, 1001, 4, 11, 0, 6, 4, 2, 1, 0, 0, 1, 2, 1, 10, 1, 2, 1, 2, 9, 5, 3, 1, 1, 1, 0, 0, 256]), (20, [2, 4, 9], [50, 1, 0, 10, 4, 7, 0, 3, 2, 0, 10, 1, 1, 1, 2, 1, 2, 0, -1]), (9, [4, 2], [11]), (20, [4, 2, 7], [50, 1, 1, 1010, 1001, 4, 11, 0, 6, 4, 2, 1, 0, 0, 1, 2, 1, 10, 1, 2, 1, 2, 9, 5, 3, 1, 1, 1, 0, 0, 256]), (20, [2, 4, 7], [50, 1, 0, 10, 4, 7, 0, 3, 2, 0, 10, 1, 1, 1, 2, 1, 2, 0, -1]), (20, [4, 2, 5], [50, 1, 1, 1010, 1001, 4, 11, 0, 6, 4, 2, 1, 0, 0, 1, 2, 1, 10, 1, 2, 1, 2, 9, 5, 3, 1, 1, 1, 0, 0, 256]), (20, [2, 4, 5], [50, 1, 0, 10, 4, 7, 0, 3, 2, 0, 10, 1, 1, 1, 2, 1, 2, 0, -1]), (20, [1, 2], [30, 0, 1, 0, 0, -1, 1, 15]), (20, [2], [50, 3, 1, 15, 11, 10, 1, 2, 8, 0, 3, 2, 0, 15, 2, 0, 11, 3, 12, 0, 7, 4, 3, 2, 0, 15, 0, 1, 2, 0, 11, 2, 8, 1, 3, 2, 0, 11, 2, 0, 15, 2, 12, 0, 7, 4, 3, 2, 0, 15, 0, 1, 2, 0, 10, 3, 30, 2, 14, 0, 2, 0, 65, 9, 6, 3, 0, 1, 2, 0, 15, 0, 256, 0, 10, 9, 6, 3, 0, 1, 2, 0, 15, 0, 256, 0, 90, 2, 14, 0, 2, 0, 97, 9, 6, 3, 0, 1, 2, 0, 15, 0, 256, 0, 10, 9, 6, 3, 0, 1, 2, 0, 15, 0, 256, 0, 122]), (24, [0, 2], [])], [], [], [(20, [2], [50, 2, 0, 15, 11, 0, 7, 4, 3, 2, 0, 15, 0, 1, 2, 0, 11])], [], [])
theorem oo_Mo_next_24 {kA : Nat → ClassId} : or_ok PRD kA GG o_Mo_next_24 := by
  refine or_mk fun A ta ws vs hD hth hl => ?_
  intro t0 r0 t1 k1 t2 r2 t4 k4 t5 k5 t7 k7 t9 k9 t10 k10 f0 f1 f2 f3 f4 f5 f6 f7 f8 f9 f10
  replace f3 := shm_117 f3
  replace f4 := shm_535 f4
  replace f5 := shm_536 f5
  replace f6 := shm_535 f6
  replace f7 := shm_536 f7
  replace f9 := shm_1401 f9
  replace f10 := shm_5 f10
  have q2 : n_v vs 2 = n_v vs 0 := f10.symm
  simp only [q2] at f3 f4 f5 f6 f7 f9
  have g3 : v_iv (n_v vs 4) = w_fi ws (n_v vs 0) 11 := congrArg v_iv f3
  have kz_0_10 := fdq_50 hD hth r0
  have kz_0_11 := fdq_273 hD hth r0
  have kz_0_15 := fdq_274 hD hth r0
  have nf0 : fc_1 PRD (20, [2], [50, 2, 0, 15, 11, 0, 7, 4, 3, 2, 0, 15, 0, 1, 2, 0, 11]) ws (vs) := by
    refine ⟨nf_in hl rfl, sgq_1402 ?_⟩
    · show (w_fi ws (n_v vs 2) 15 + 1) ≤ w_fi ws (n_v vs 2) 11
      rw [q2]
      exact vc_Mo_next_24_0 (v_iv (n_v vs 4)) (v_iv (n_v vs 5)) (v_iv (n_v vs 7)) (w_ei ws (w_ar ws (n_v vs 0) 1)) (w_fi ws (n_v vs 0) 10) (w_fi ws (n_v vs 0) 11) (w_fi ws (n_v vs 0) 15) k4 k5 k7 g3 f4 f5 f6 f7 f9 kz_0_10 kz_0_11 kz_0_15
  refine ⟨(fun _ h => (by cases h)), [], trivial, ?_, (fun _ h => (by cases h))⟩
  rw [List.append_nil]
  exact List.forall_mem_cons.mpr ⟨⟨show (20 : Nat) < 100 from by decide, nf0⟩, (fun _ h => (by cases h))⟩
set_option maxHeartbeats 4000000 in
theorem vc_Mo_next_25_0 (x4 : Int) (x5 : Int) (x7 : Int) (tape_0 : Int → Int) (limit_0 : Int) (pos_0 : Int) (from_0 : Int) (k4 : 0 ≤ x4 ∧ x4 ≤ 1999) (k5 : 91 ≤ x5 ∧ x5 ≤ 96) (k7 : (-1) ≤ x7 ∧ x7 ≤ (-1)) (g3 : x4 = pos_0) (f4 : ((x4 + 1) ≤ limit_0) → (x7 = (tape_0 (x4) % 256))) (f5 : (limit_0 ≤ x4) → (x7 = (-1))) (f6 : ((x4 + 1) ≤ limit_0) → (x5 = (tape_0 (x4) % 256))) (f7 : (limit_0 ≤ x4) → (x5 = (-1))) (f9 : (from_0 ≤ pos_0) ∧ (((from_0 + 1) ≤ pos_0) ∨ ((pos_0 = from_0) ∧ (((from_0 + 1) ≤ limit_0) ∧ (((65 ≤ (tape_0 (from_0) % 256)) ∧ ((tape_0 (from_0) % 256) ≤ 90)) ∨ ((97 ≤ (tape_0 (from_0) % 256)) ∧ ((tape_0 (from_0) % 256) ≤ 122))))))) (kz_0_10 : 0 ≤ limit_0 ∧ limit_0 ≤ 2000) (kz_0_11 : 0 ≤ pos_0 ∧ pos_0 ≤ 2000) (kz_0_15 : 0 ≤ from_0 ∧ from_0 ≤ 2000) : (from_0 + 1) ≤ pos_0 := by
  first | assumption | omega | grind
def o_Mo_next_25 : or_T := (147, 11, [(0, (2, 0, 0, [165])), (1, (0, 0, 2000, [])), (2, (2, 0, 0, [165])), (4, (0, 0, 1999, [])), (5, (0, 91, 96, [])), (7, (0, -1, -1, [])), (9, (0, 0, 255, [])), (10, (0, 95, 95, []))], [(7, [9, 10], [1]), (20, [4, 2, 9], [50, 1, 1, 1010, 1001, 4, 11, 0, 6, 4, 2, 1, 0, 0, 1, 2, 1, 10, 1, 2, 1, 2, 9, 5, 3, 1, 1, 1, 0, 0, 256]), (20, [2, 4, 9], [50, 1, 0, 10, 4, 7, 0, 3, 2, 0, 10, 1, 1, 1, 2, 1, 2, 0, -1]), (9, [4, 2], [11]), (20, [4, 2, 7], [50, 1, 1, 1010, 1001, 4, 11, 0, 6, 4, 2, 1, 0, 0, 1, 2, 1, 10, 1, 2, 1, 2, 9, 5, 3, 1, 1, 1, 0, 0, 256]), (20, [2, 4, 7], [50, 1, 0, 10, 4, 7, 0, 3, 2, 0, 10, 1, 1, 1, 2, 1, 2, 0, -1]), (20, [4, 2, 5], [50, 1, 1, 1010, 1001, 4, 11, 0, 6, 4, 2, 1, 0, 0, 1, 2, 1, 10, 1, 2, 1, 2, 9, 5, 3, 1, 1, 1, 0, 0, 256]), (20, [2, 4, 5], [50, 1, 0, 10, 4, 7, 0, 3, 2, 0, 10, 1, 1, 1, 2, 1, 2, 0, -1]), (20, [1, 2], [30, 0, 1, 0, 0, -1, 1, 15]), (20, [2], [50, 3, 1, 15, 11, 10, 1, 2, 8, 0, 3, 2, 0, 15, 2, 0, 11, 3, 12, 0, 7, 4, 3, 2, 0, 15, 0, 1, 2, 0, 11, 2, 8, 1, 3, 2, 0, 11, 2, 0, 15, 2, 12, 0, 7, 4, 3, 2, 0, 15, 0, 1, 2, 0, 10, 3, 30, 2, 14, 0, 2, 0, 65, 9, 6, 3, 0, 1, 2, 0, 15, 0, 256, 0, 10, 9, 6, 3, 0, 1, 2, 0, 15, 0, 256, 0, 90, 2, 14, 0, 2, 0, 97, 9, 6, 3, 0, 1, 2, 0, 15, 0, 256, 0, 10, 9, 6, 3, 0, 1, 2, 0, 15, 0, 256, 0, 122]), (24, [0, 2], [])], [], [], [(20, [2], [50, 2, 0, 15, 11, 0, 7, 4, 3, 2, 0, 15, 0, 1, 2, 0, 11])], [], [])
theorem oo_Mo_next_25 {kA : Nat → ClassId} : or_ok PRD kA GG o_Mo_next_25 := by
  refine or_mk fun A ta ws vs hD hth hl => ?_
  intro t0 r0 t1 k1 t2 r2 t4 k4 t5 k5 t7 k7 t9 k9 t10 k10 f0 f1 f2 f3 f4 f5 f6 f7 f8 f9 f10
  replace f3 := shm_117 f3
  replace f4 := shm_535 f4
  replace f5 := shm_536 f5
  replace f6 := shm_535 f6
  replace f7 := shm_536 f7
  replace f9 := shm_1401 f9
  replace f10 := shm_5 f10
  have q2 : n_v vs 2 = n_v vs 0 := f10.symm
  simp only [q2] at f3 f4 f5 f6 f7 f9
  have g3 : v_iv (n_v vs 4) = w_fi ws (n_v vs 0) 11 := congrArg v_iv f3
  have kz_0_10 := fdq_50 hD hth r0
  have kz_0_11 := fdq_273 hD hth r0
  have kz_0_15 := fdq_274 hD hth r0
  have nf0 : fc_1 PRD (20, [2], [50, 2, 0, 15, 11, 0, 7, 4, 3, 2, 0, 15, 0, 1, 2, 0, 11]) ws (vs) := by
    refine ⟨nf_in hl rfl, sgq_1402 ?_⟩
    · show (w_fi ws (n_v vs 2) 15 + 1) ≤ w_fi ws (n_v vs 2) 11
      rw [q2]
      exact vc_Mo_next_25_0 (v_iv (n_v vs 4)) (v_iv (n_v vs 5)) (v_iv (n_v vs 7)) (w_ei ws (w_ar ws (n_v vs 0) 1)) (w_fi ws (n_v vs 0) 10) (w_fi ws (n_v vs 0) 11) (w_fi ws (n_v vs 0) 15) k4 k5 k7 g3 f4 f5 f6 f7 f9 kz_0_10 kz_0_11 kz_0_15
  refine ⟨(fun _ h => (by cases h)), [], trivial, ?_, (fun _ h => (by cases h))⟩
  rw [List.append_nil]
  exact List.forall_mem_cons.mpr ⟨⟨show (20 : Nat) < 100 from by decide, nf0⟩, (fun _ h => (by cases h))⟩
set_option maxHeartbeats 4000000 in
theorem vc_Mo_next_26_0 (x4 : Int) (x5 : Int) (x7 : Int) (tape_0 : Int → Int) (limit_0 : Int) (pos_0 : Int) (from_0 : Int) (k4 : 0 ≤ x4 ∧ x4 ≤ 1999) (k5 : 91 ≤ x5 ∧ x5 ≤ 96) (k7 : 0 ≤ x7 ∧ x7 ≤ 47) (g3 : x4 = pos_0) (f4 : ((x4 + 1) ≤ limit_0) → (x7 = (tape_0 (x4) % 256))) (f5 : (limit_0 ≤ x4) → (x7 = (-1))) (f6 : ((x4 + 1) ≤ limit_0) → (x5 = (tape_0 (x4) % 256))) (f7 : (limit_0 ≤ x4) → (x5 = (-1))) (f9 : (from_0 ≤ pos_0) ∧ (((from_0 + 1) ≤ pos_0) ∨ ((pos_0 = from_0) ∧ (((from_0 + 1) ≤ limit_0) ∧ (((65 ≤ (tape_0 (from_0) % 256)) ∧ ((tape_0 (from_0) % 256) ≤ 90)) ∨ ((97 ≤ (tape_0 (from_0) % 256)) ∧ ((tape_0 (from_0) % 256) ≤ 122))))))) (kz_0_10 : 0 ≤ limit_0 ∧ limit_0 ≤ 2000) (kz_0_11 : 0 ≤ pos_0 ∧ pos_0 ≤ 2000) (kz_0_15 : 0 ≤ from_0 ∧ from_0 ≤ 2000) : (from_0 + 1) ≤ pos_0 := by
  first | assumption | omega | grind
def o_Mo_next_26 : or_T := (147, 11, [(0, (2, 0, 0, [165])), (1, (0, 0, 2000, [])), (2, (2, 0, 0, [165])), (4, (0, 0, 1999, [])), (5, (0, 91, 96, [])), (7, (0, 0, 47, [])), (9, (0, -1, -1, [])), (10, (0, 95, 95, []))], [(7, [9, 10], [1]), (20, [4, 2, 9], [50, 1, 1, 1010, 1001, 4, 11, 0, 6, 4, 2, 1, 0, 0, 1, 2, 1, 10, 1, 2, 1, 2, 9, 5, 3, 1, 1, 1, 0, 0, 256]), (20, [2, 4, 9], [50, 1, 0, 10, 4, 7, 0, 3, 2, 0, 10, 1, 1, 1, 2, 1, 2, 0, -1]), (9, [4, 2], [11]), (20, [4, 2, 7], [50, 1, 1, 1010, 1001, 4, 11, 0, 6, 4, 2, 1, 0, 0, 1, 2, 1, 10, 1, 2, 1, 2, 9, 5, 3, 1, 1, 1, 0, 0, 256]), (20, [2, 4, 7], [50, 1, 0, 10, 4, 7, 0, 3, 2, 0, 10, 1, 1, 1, 2, 1, 2, 0, -1]), (20, [4, 2, 5], [50, 1, 1, 1010, 1001, 4, 11, 0, 6, 4, 2, 1, 0, 0, 1, 2, 1, 10, 1, 2, 1, 2, 9, 5, 3, 1, 1, 1, 0, 0, 256]), (20, [2, 4, 5], [50, 1, 0, 10, 4, 7, 0, 3, 2, 0, 10, 1, 1, 1, 2, 1, 2, 0, -1]), (20, [1, 2], [30, 0, 1, 0, 0, -1, 1, 15]), (20, [2], [50, 3, 1, 15, 11, 10, 1, 2, 8, 0, 3, 2, 0, 15, 2, 0, 11, 3, 12, 0, 7, 4, 3, 2, 0, 15, 0, 1, 2, 0, 11, 2, 8, 1, 3, 2, 0, 11, 2, 0, 15, 2, 12, 0, 7, 4, 3, 2, 0, 15, 0, 1, 2, 0, 10, 3, 30, 2, 14, 0, 2, 0, 65, 9, 6, 3, 0, 1, 2, 0, 15, 0, 256, 0, 10, 9, 6, 3, 0, 1, 2, 0, 15, 0, 256, 0, 90, 2, 14, 0, 2, 0, 97, 9, 6, 3, 0, 1, 2, 0, 15, 0, 256, 0, 10, 9, 6, 3, 0, 1, 2, 0, 15, 0, 256, 0, 122]), (24, [0, 2], [])], [], [], [(20, [2], [50, 2, 0, 15, 11, 0, 7, 4, 3, 2, 0, 15, 0, 1, 2, 0, 11])], [], [])
theorem oo_Mo_next_26 {kA : Nat → ClassId} : or_ok PRD kA GG o_Mo_next_26 := by
  refine or_mk fun A ta ws vs hD hth hl => ?_
  intro t0 r0 t1 k1 t2 r2 t4 k4 t5 k5 t7 k7 t9 k9 t10 k10 f0 f1 f2 f3 f4 f5 f6 f7 f8 f9 f10
  replace f3 := shm_117 f3
  replace f4 := shm_535 f4
  replace f5 := shm_536 f5
  replace f6 := shm_535 f6
  replace f7 := shm_536 f7
  replace f9 := shm_1401 f9
  replace f10 := shm_5 f10
  have q2 : n_v vs 2 = n_v vs 0 := f10.symm
  simp only [q2] at f3 f4 f5 f6 f7 f9
  have g3 : v_iv (n_v vs 4) = w_fi ws (n_v vs 0) 11 := congrArg v_iv f3
  have kz_0_10 := fdq_50 hD hth r0
  have kz_0_11 := fdq_273 hD hth r0
  have kz_0_15 := fdq_274 hD hth r0
  have nf0 : fc_1 PRD (20, [2], [50, 2, 0, 15, 11, 0, 7, 4, 3, 2, 0, 15, 0, 1, 2, 0, 11]) ws (vs) := by
    refine ⟨nf_in hl rfl, sgq_1402 ?_⟩
    · show (w_fi ws (n_v vs 2) 15 + 1) ≤ w_fi ws (n_v vs 2) 11
      rw [q2]
      exact vc_Mo_next_26_0 (v_iv (n_v vs 4)) (v_iv (n_v vs 5)) (v_iv (n_v vs 7)) (w_ei ws (w_ar ws (n_v vs 0) 1)) (w_fi ws (n_v vs 0) 10) (w_fi ws (n_v vs 0) 11) (w_fi ws (n_v vs 0) 15) k4 k5 k7 g3 f4 f5 f6 f7 f9 kz_0_10 kz_0_11 kz_0_15
  refine ⟨(fun _ h => (by cases h)), [], trivial, ?_, (fun _ h => (by cases h))⟩
  rw [List.append_nil]
  exact List.forall_mem_cons.mpr ⟨⟨show (20 : Nat) < 100 from by decide, nf0⟩, (fun _ h => (by cases h))⟩
set_option maxHeartbeats 4000000 in
theorem vc_Mo_next_27_0 (x4 : Int) (x5 : Int) (x7 : Int) (tape_0 : Int → Int) (limit_0 : Int) (pos_0 : Int) (from_0 : Int) (k4 : 0 ≤ x4 ∧ x4 ≤ 1999) (k5 : 91 ≤ x5 ∧ x5 ≤ 96) (k7 : 0 ≤ x7 ∧ x7 ≤ 47) (g3 : x4 = pos_0) (f4 : ((x4 + 1) ≤ limit_0) → (x7 = (tape_0 (x4) % 256))) (f5 : (limit_0 ≤ x4) → (x7 = (-1))) (f6 : ((x4 + 1) ≤ limit_0) → (x5 = (tape_0 (x4) % 256))) (f7 : (limit_0 ≤ x4) → (x5 = (-1))) (f9 : (from_0 ≤ pos_0) ∧ (((from_0 + 1) ≤ pos_0) ∨ ((pos_0 = from_0) ∧ (((from_0 + 1) ≤ limit_0) ∧ (((65 ≤ (tape_0 (from_0) % 256)) ∧ ((tape_0 (from_0) % 256) ≤ 90)) ∨ ((97 ≤ (tape_0 (from_0) % 256)) ∧ ((tape_0 (from_0) % 256) ≤ 122))))))) (kz_0_10 : 0 ≤ limit_0 ∧ limit_0 ≤ 2000) (kz_0_11 : 0 ≤ pos_0 ∧ pos_0 ≤ 2000) (kz_0_15 : 0 ≤ from_0 ∧ from_0 ≤ 2000) : (from_0 + 1) ≤ pos_0 := by
  first | assumption | omega | grind
def o_Mo_next_27 : or_T := (147, 11, [(0, (2, 0, 0, [165])), (1, (0, 0, 2000, [])), (2, (2, 0, 0, [165])), (4, (0, 0, 1999, [])), (5, (0, 91, 96, [])), (7, (0, 0, 47, [])), (9, (0, 0, 255, [])), (10, (0, 95, 95, []))], [(7, [9, 10], [1]), (20, [4, 2, 9], [50, 1, 1, 1010, 1001, 4, 11, 0, 6, 4, 2, 1, 0, 0, 1, 2, 1, 10, 1, 2, 1, 2, 9, 5, 3, 1, 1, 1, 0, 0, 256]), (20, [2, 4, 9], [50, 1, 0, 10, 4, 7, 0, 3, 2, 0, 10, 1, 1, 1, 2, 1, 2, 0, -1]), (9, [4, 2], [11]), (20, [4, 2, 7], [50, 1, 1, 1010, 1001, 4, 11, 0, 6, 4, 2, 1, 0, 0, 1, 2, 1, 10, 1, 2, 1, 2, 9, 5, 3, 1, 1, 1, 0, 0, 256]), (20, [2, 4, 7], [50, 1, 0, 10, 4, 7, 0, 3, 2, 0, 10, 1, 1, 1, 2, 1, 2, 0, -1]), (20, [4, 2, 5], [50, 1, 1, 1010, 1001, 4, 11, 0, 6, 4, 2, 1, 0, 0, 1, 2, 1, 10, 1, 2, 1, 2, 9, 5, 3, 1, 1, 1, 0, 0, 256]), (20, [2, 4, 5], [50, 1, 0, 10, 4, 7, 0, 3, 2, 0, 10, 1, 1, 1, 2, 1, 2, 0, -1]), (20, [1, 2], [30, 0, 1, 0, 0, -1, 1, 15]), (20, [2], [50, 3, 1, 15, 11, 10, 1, 2, 8, 0, 3, 2, 0, 15, 2, 0, 11, 3, 12, 0, 7, 4, 3, 2, 0, 15, 0, 1, 2, 0, 11, 2, 8, 1, 3, 2, 0, 11, 2, 0, 15, 2, 12, 0, 7, 4, 3, 2, 0, 15, 0, 1, 2, 0, 10, 3, 30, 2, 14, 0, 2, 0, 65, 9, 6, 3, 0, 1, 2, 0, 15, 0, 256, 0, 10, 9, 6, 3, 0, 1, 2, 0, 15, 0, 256, 0, 90, 2, 14, 0, 2, 0, 97, 9, 6, 3, 0, 1, 2, 0, 15, 0, 256, 0, 10, 9, 6, 3, 0, 1, 2, 0, 15, 0, 256, 0, 122]), (24, [0, 2], [])], [], [], [(20, [2], [50, 2, 0, 15, 11, 0, 7, 4, 3, 2, 0, 15, 0, 1, 2, 0, 11])], [], [])
theorem oo_Mo_next_27 {kA : Nat → ClassId} : or_ok PRD kA GG o_Mo_next_27 := by
  refine or_mk fun A ta ws vs hD hth hl => ?_
  intro t0 r0 t1 k1 t2 r2 t4 k4 t5 k5 t7 k7 t9 k9 t10 k10 f0 f1 f2 f3 f4 f5 f6 f7 f8 f9 f10
  replace f3 := shm_117 f3
  replace f4 := shm_535 f4
  replace f5 := shm_536 f5
  replace f6 := shm_535 f6
  replace f7 := shm_536 f7
  replace f9 := shm_1401 f9
  replace f10 := shm_5 f10
  have q2 : n_v vs 2 = n_v vs 0 := f10.symm
  simp only [q2] at f3 f4 f5 f6 f7 f9
  have g3 : v_iv (n_v vs 4) = w_fi ws (n_v vs 0) 11 := congrArg v_iv f3
  have kz_0_10 := fdq_50 hD hth r0
  have kz_0_11 := fdq_273 hD hth r0
  have kz_0_15 := fdq_274 hD hth r0
  have nf0 : fc_1 PRD (20, [2], [50, 2, 0, 15, 11, 0, 7, 4, 3, 2, 0, 15, 0, 1, 2, 0, 11]) ws (vs) := by
    refine ⟨nf_in hl rfl, sgq_1402 ?_⟩
    · show (w_fi ws (n_v vs 2) 15 + 1) ≤ w_fi ws (n_v vs 2) 11
      rw [q2]
      exact vc_Mo_next_27_0 (v_iv (n_v vs 4)) (v_iv (n_v vs 5)) (v_iv (n_v vs 7)) (w_ei ws (w_ar ws (n_v vs 0) 1)) (w_fi ws (n_v vs 0) 10) (w_fi ws (n_v vs 0) 11) (w_fi ws (n_v vs 0) 15) k4 k5 k7 g3 f4 f5 f6 f7 f9 kz_0_10 kz_0_11 kz_0_15
  refine ⟨(fun _ h => (by cases h)), [], trivial, ?_, (fun _ h => (by cases h))⟩
  rw [List.append_nil]
  exact List.forall_mem_cons.mpr ⟨⟨show (20 : Nat) < 100 from by decide, nf0⟩, (fun _ h => (by cases h))⟩
set_option maxHeartbeats 4000000 in
theorem vc_Mo_next_28_0 (x4 : Int) (x5 : Int) (x7 : Int) (x9 : Int) (tape_0 : Int → Int) (limit_0 : Int) (pos_0 : Int) (from_0 : Int) (k4 : 0 ≤ x4 ∧ x4 ≤ 1999) (k5 : 91 ≤ x5 ∧ x5 ≤ 96) (k7 : 58 ≤ x7 ∧ x7 ≤ 255) (k9 : (-1) ≤ x9 ∧ x9 ≤ (-1)) (f1 : ((x4 + 1) ≤ limit_0) → (x9 = (tape_0 (x4) % 256))) (f2 : (limit_0 ≤ x4) → (x9 = (-1))) (g3 : x4 = pos_0) (f4 : ((x4 + 1) ≤ limit_0) → (x7 = (tape_0 (x4) % 256))) (f5 : (limit_0 ≤ x4) → (x7 = (-1))) (f6 : ((x4 + 1) ≤ limit_0) → (x5 = (tape_0 (x4) % 256))) (f7 : (limit_0 ≤ x4) → (x5 = (-1))) (f9 : (from_0 ≤ pos_0) ∧ (((from_0 + 1) ≤ pos_0) ∨ ((pos_0 = from_0) ∧ (((from_0 + 1) ≤ limit_0) ∧ (((65 ≤ (tape_0 (from_0) % 256)) ∧ ((tape_0 (from_0) % 256) ≤ 90)) ∨ ((97 ≤ (tape_0 (from_0) % 256)) ∧ ((tape_0 (from_0) % 256) ≤ 122))))))) (kz_0_10 : 0 ≤ limit_0 ∧ limit_0 ≤ 2000) (kz_0_11 : 0 ≤ pos_0 ∧ pos_0 ≤ 2000) (kz_0_15 : 0 ≤ from_0 ∧ from_0 ≤ 2000) : (from_0 + 1) ≤ pos_0 := by
  first | assumption | omega | grind
def o_Mo_next_28 : or_T := (147, 11, [(0, (2, 0, 0, [165])), (1, (0, 0, 2000, [])), (2, (2, 0, 0, [165])), (4, (0, 0, 1999, [])), (5, (0, 91, 96, [])), (7, (0, 58, 255, [])), (9, (0, -1, -1, [])), (10, (0, 95, 95, []))], [(7, [9, 10], [1]), (20, [4, 2, 9], [50, 1, 1, 1010, 1001, 4, 11, 0, 6, 4, 2, 1, 0, 0, 1, 2, 1, 10, 1, 2, 1, 2, 9, 5, 3, 1, 1, 1, 0, 0, 256]), (20, [2, 4, 9], [50, 1, 0, 10, 4, 7, 0, 3, 2, 0, 10, 1, 1, 1, 2, 1, 2, 0, -1]), (9, [4, 2], [11]), (20, [4, 2, 7], [50, 1, 1, 1010, 1001, 4, 11, 0, 6, 4, 2, 1, 0, 0, 1, 2, 1, 10, 1, 2, 1, 2, 9, 5, 3, 1, 1, 1, 0, 0, 256]), (20, [2, 4, 7], [50, 1, 0, 10, 4, 7, 0, 3, 2, 0, 10, 1, 1, 1, 2, 1, 2, 0, -1]), (20, [4, 2, 5], [50, 1, 1, 1010, 1001, 4, 11, 0, 6, 4, 2, 1, 0, 0, 1, 2, 1, 10, 1, 2, 1, 2, 9, 5, 3, 1, 1, 1, 0, 0, 256]), (20, [2, 4, 5], [50, 1, 0, 10, 4, 7, 0, 3, 2, 0, 10, 1, 1, 1, 2, 1, 2, 0, -1]), (20, [1, 2], [30, 0, 1, 0, 0, -1, 1, 15]), (20, [2], [50, 3, 1, 15, 11, 10, 1, 2, 8, 0, 3, 2, 0, 15, 2, 0, 11, 3, 12, 0, 7, 4, 3, 2, 0, 15, 0, 1, 2, 0, 11, 2, 8, 1, 3, 2, 0, 11, 2, 0, 15, 2, 12, 0, 7, 4, 3, 2, 0, 15, 0, 1, 2, 0, 10, 3, 30, 2, 14, 0, 2, 0, 65, 9, 6, 3, 0, 1, 2, 0, 15, 0, 256, 0, 10, 9, 6, 3, 0, 1, 2, 0, 15, 0, 256, 0, 90, 2, 14, 0, 2, 0, 97, 9, 6, 3, 0, 1, 2, 0, 15, 0, 256, 0, 10, 9, 6, 3, 0, 1, 2, 0, 15, 0, 256, 0, 122]), (24, [0, 2], [])], [], [], [(20, [2], [50, 2, 0, 15, 11, 0, 7, 4, 3, 2, 0, 15, 0, 1, 2, 0, 11])], [], [])
theorem oo_Mo_next_28 {kA : Nat → ClassId} : or_ok PRD kA GG o_Mo_next_28 := by
  refine or_mk fun A ta ws vs hD hth hl => ?_
  intro t0 r0 t1 k1 t2 r2 t4 k4 t5 k5 t7 k7 t9 k9 t10 k10 f0 f1 f2 f3 f4 f5 f6 f7 f8 f9 f10
  replace f1 := shm_535 f1
  replace f2 := shm_536 f2
  replace f3 := shm_117 f3
  replace f4 := shm_535 f4
  replace f5 := shm_536 f5
  replace f6 := shm_535 f6
  replace f7 := shm_536 f7
  replace f9 := shm_1401 f9
  replace f10 := shm_5 f10
  have q2 : n_v vs 2 = n_v vs 0 := f10.symm
  simp only [q2] at f1 f2 f3 f4 f5 f6 f7 f9
  have g3 : v_iv (n_v vs 4) = w_fi ws (n_v vs 0) 11 := congrArg v_iv f3
  have kz_0_10 := fdq_50 hD hth r0
  have kz_0_11 := fdq_273 hD hth r0
  have kz_0_15 := fdq_274 hD hth r0
  have nf0 : fc_1 PRD (20, [2], [50, 2, 0, 15, 11, 0, 7, 4, 3, 2, 0, 15, 0, 1, 2, 0, 11]) ws (vs) := by
    refine ⟨nf_in hl rfl, sgq_1402 ?_⟩
    · show (w_fi ws (n_v vs 2) 15 + 1) ≤ w_fi ws (n_v vs 2) 11
      rw [q2]
      exact vc_Mo_next_28_0 (v_iv (n_v vs 4)) (v_iv (n_v vs 5)) (v_iv (n_v vs 7)) (v_iv (n_v vs 9)) (w_ei ws (w_ar ws (n_v vs 0) 1)) (w_fi ws (n_v vs 0) 10) (w_fi ws (n_v vs 0) 11) (w_fi ws (n_v vs 0) 15) k4 k5 k7 k9 f1 f2 g3 f4 f5 f6 f7 f9 kz_0_10 kz_0_11 kz_0_15
  refine ⟨(fun _ h => (by cases h)), [], trivial, ?_, (fun _ h => (by cases h))⟩
  rw [List.append_nil]
  exact List.forall_mem_cons.mpr ⟨⟨show (20 : Nat) < 100 from by decide, nf0⟩, (fun _ h => (by cases h))⟩
set_option maxHeartbeats 4000000 in
theorem vc_Mo_next_29_0 (x4 : Int) (x5 : Int) (tape_0 : Int → Int) (limit_0 : Int) (pos_0 : Int) (from_0 : Int) (k4 : 0 ≤ x4 ∧ x4 ≤ 1999) (k5 : 91 ≤ x5 ∧ x5 ≤ 96) (g3 : x4 = pos_0) (f6 : ((x4 + 1) ≤ limit_0) → (x5 = (tape_0 (x4) % 256))) (f9 : (from_0 ≤ pos_0) ∧ (((from_0 + 1) ≤ pos_0) ∨ ((pos_0 = from_0) ∧ (((from_0 + 1) ≤ limit_0) ∧ (((65 ≤ (tape_0 (from_0) % 256)) ∧ ((tape_0 (from_0) % 256) ≤ 90)) ∨ ((97 ≤ (tape_0 (from_0) % 256)) ∧ ((tape_0 (from_0) % 256) ≤ 122))))))) (kz_0_10 : 0 ≤ limit_0 ∧ limit_0 ≤ 2000) (kz_0_11 : 0 ≤ pos_0 ∧ pos_0 ≤ 2000) (kz_0_15 : 0 ≤ from_0 ∧ from_0 ≤ 2000) : (from_0 + 1) ≤ pos_0 := by
  first | assumption | omega | grind
def o_Mo_next_29 : or_T := (147, 11, [(0, (2, 0, 0, [165])), (1, (0, 0, 2000, [])), (2, (2, 0, 0, [165])), (4, (0, 0, 1999, [])), (5, (0, 91, 96, [])), (7, (0, 58, 255, [])), (9, (0, 0, 255, [])), (10, (0, 95, 95, []))], [(7, [9, 10], [1]), (20, [4, 2, 9], [50, 1, 1, 1010, 1001, 4, 11, 0, 6, 4, 2, 1, 0, 0, 1, 2, 1, 10, 1, 2, 1, 2, 9, 5, 3, 1, 1, 1, 0, 0, 256]), (20, [2, 4, 9], [50, 1, 0, 10, 4, 7, 0, 3, 2, 0, 10, 1, 1, 1, 2, 1, 2, 0, -1]), (9, [4, 2], [11]), (20, [4, 2, 7], [50, 1, 1, 1010, 1001, 4, 11, 0, 6, 4, 2, 1, 0, 0, 1, 2, 1, 10, 1, 2, 1, 2, 9, 5, 3, 1, 1, 1, 0, 0, 256]), (20, [2, 4, 7], [50, 1, 0, 10, 4, 7, 0, 3, 2, 0, 10, 1, 1, 1, 2, 1, 2, 0, -1]), (20, [4, 2, 5], [50, 1, 1, 1010, 1001, 4, 11, 0, 6, 4, 2, 1, 0, 0, 1, 2, 1, 10, 1, 2, 1, 2, 9, 5, 3, 1, 1, 1, 0, 0, 256]), (20, [2, 4, 5], [50, 1, 0, 10, 4, 7, 0, 3, 2, 0, 10, 1, 1, 1, 2, 1, 2, 0, -1]), (20, [1, 2], [30, 0, 1, 0, 0, -1, 1, 15]), (20, [2], [50, 3, 1, 15, 11, 10, 1, 2, 8, 0, 3, 2, 0, 15, 2, 0, 11, 3, 12, 0, 7, 4, 3, 2, 0, 15, 0, 1, 2, 0, 11, 2, 8, 1, 3, 2, 0, 11, 2, 0, 15, 2, 12, 0, 7, 4, 3, 2, 0, 15, 0, 1, 2, 0, 10, 3, 30, 2, 14, 0, 2, 0, 65, 9, 6, 3, 0, 1, 2, 0, 15, 0, 256, 0, 10, 9, 6, 3, 0, 1, 2, 0, 15, 0, 256, 0, 90, 2, 14, 0, 2, 0, 97, 9, 6, 3, 0, 1, 2, 0, 15, 0, 256, 0, 10, 9, 6, 3, 0, 1, 2, 0, 15, 0, 256, 0, 122]), (24, [0, 2], [])], [], [], [(20, [2], [50, 2, 0, 15, 11, 0, 7, 4, 3, 2, 0, 15, 0, 1, 2, 0, 11])], [], [])
theorem oo_Mo_next_29 {kA : Nat → ClassId} : or_ok PRD kA GG o_Mo_next_29 := by
  refine or_mk fun A ta ws vs hD hth hl => ?_
  intro t0 r0 t1 k1 t2 r2 t4 k4 t5 k5 t7 k7 t9 k9 t10 k10 f0 f1 f2 f3 f4 f5 f6 f7 f8 f9 f10
  replace f3 := shm_117 f3
  replace f6 := shm_535 f6
  replace f9 := shm_1401 f9
  replace f10 := shm_5 f10
  have q2 : n_v vs 2 = n_v vs 0 := f10.symm
  simp only [q2] at f3 f6 f9
  have g3 : v_iv (n_v vs 4) = w_fi ws (n_v vs 0) 11 := congrArg v_iv f3
  have kz_0_10 := fdq_50 hD hth r0
  have kz_0_11 := fdq_273 hD hth r0
  have kz_0_15 := fdq_274 hD hth r0
  have nf0 : fc_1 PRD (20, [2], [50, 2, 0, 15, 11, 0, 7, 4, 3, 2, 0, 15, 0, 1, 2, 0, 11]) ws (vs) := by
    refine ⟨nf_in hl rfl, sgq_1402 ?_⟩
    · show (w_fi ws (n_v vs 2) 15 + 1) ≤ w_fi ws (n_v vs 2) 11
      rw [q2]
      exact vc_Mo_next_29_0 (v_iv (n_v vs 4)) (v_iv (n_v vs 5)) (w_ei ws (w_ar ws (n_v vs 0) 1)) (w_fi ws (n_v vs 0) 10) (w_fi ws (n_v vs 0) 11) (w_fi ws (n_v vs 0) 15) k4 k5 g3 f6 f9 kz_0_10 kz_0_11 kz_0_15
  refine ⟨(fun _ h => (by cases h)), [], trivial, ?_, (fun _ h => (by cases h))⟩
  rw [List.append_nil]
  exact List.forall_mem_cons.mpr ⟨⟨show (20 : Nat) < 100 from by decide, nf0⟩, (fun _ h => (by cases h))⟩
set_option maxHeartbeats 4000000 in
theorem vc_Mo_next_30_0 (x4 : Int) (x5 : Int) (x7 : Int) (tape_0 : Int → Int) (limit_0 : Int) (pos_0 : Int) (from_0 : Int) (k4 : 0 ≤ x4 ∧ x4 ≤ 1999) (k5 : 123 ≤ x5 ∧ x5 ≤ 255) (k7 : (-1) ≤ x7 ∧ x7 ≤ (-1)) (g3 : x4 = pos_0) (f4 : ((x4 + 1) ≤ limit_0) → (x7 = (tape_0 (x4) % 256))) (f5 : (limit_0 ≤ x4) → (x7 = (-1))) (f6 : ((x4 + 1) ≤ limit_0) → (x5 = (tape_0 (x4) % 256))) (f7 : (limit_0 ≤ x4) → (x5 = (-1))) (f9 : (from_0 ≤ pos_0) ∧ (((from_0 + 1) ≤ pos_0) ∨ ((pos_0 = from_0) ∧ (((from_0 + 1) ≤ limit_0) ∧ (((65 ≤ (tape_0 (from_0) % 256)) ∧ ((tape_0 (from_0) % 256) ≤ 90)) ∨ ((97 ≤ (tape_0 (from_0) % 256)) ∧ ((tape_0 (from_0) % 256) ≤ 122))))))) (kz_0_10 : 0 ≤ limit_0 ∧ limit_0 ≤ 2000) (kz_0_11 : 0 ≤ pos_0 ∧ pos_0 ≤ 2000) (kz_0_15 : 0 ≤ from_0 ∧ from_0 ≤ 2000) : (from_0 + 1) ≤ pos_0 := by
  first | assumption | omega | grind
def o_Mo_next_30 : or_T := (147, 11, [(0, (2, 0, 0, [165])), (1, (0, 0, 2000, [])), (2, (2, 0, 0, [165])), (4, (0, 0, 1999, [])), (5, (0, 123, 255, [])), (7, (0, -1, -1, [])), (9, (0, -1, -1, [])), (10, (0, 95, 95, []))], [(7, [9, 10], [1]), (20, [4, 2, 9], [50, 1, 1, 1010, 1001, 4, 11, 0, 6, 4, 2, 1, 0, 0, 1, 2, 1, 10, 1, 2, 1, 2, 9, 5, 3, 1, 1, 1, 0, 0, 256]), (20, [2, 4, 9], [50, 1, 0, 10, 4, 7, 0, 3, 2, 0, 10, 1, 1, 1, 2, 1, 2, 0, -1]), (9, [4, 2], [11]), (20, [4, 2, 7], [50, 1, 1, 1010, 1001, 4, 11, 0, 6, 4, 2, 1, 0, 0, 1, 2, 1, 10, 1, 2, 1, 2, 9, 5, 3, 1, 1, 1, 0, 0, 256]), (20, [2, 4, 7], [50, 1, 0, 10, 4, 7, 0, 3, 2, 0, 10, 1, 1, 1, 2, 1, 2, 0, -1]), (20, [4, 2, 5], [50, 1, 1, 1010, 1001, 4, 11, 0, 6, 4, 2, 1, 0, 0, 1, 2, 1, 10, 1, 2, 1, 2, 9, 5, 3, 1, 1, 1, 0, 0, 256]), (20, [2, 4, 5], [50, 1, 0, 10, 4, 7, 0, 3, 2, 0, 10, 1, 1, 1, 2, 1, 2, 0, -1]), (20, [1, 2], [30, 0, 1, 0, 0, -1, 1, 15]), (20, [2], [50, 3, 1, 15, 11, 10, 1, 2, 8, 0, 3, 2, 0, 15, 2, 0, 11, 3, 12, 0, 7, 4, 3, 2, 0, 15, 0, 1, 2, 0, 11, 2, 8, 1, 3, 2, 0, 11, 2, 0, 15, 2, 12, 0, 7, 4, 3, 2, 0, 15, 0, 1, 2, 0, 10, 3, 30, 2, 14, 0, 2, 0, 65, 9, 6, 3, 0, 1, 2, 0, 15, 0, 256, 0, 10, 9, 6, 3, 0, 1, 2, 0, 15, 0, 256, 0, 90, 2, 14, 0, 2, 0, 97, 9, 6, 3, 0, 1, 2, 0, 15, 0, 256, 0, 10, 9, 6, 3, 0, 1, 2, 0, 15, 0, 256, 0, 122]), (24, [0, 2], [])], [], [], [(20, [2], [50, 2, 0, 15, 11, 0, 7, 4, 3, 2, 0, 15, 0, 1, 2, 0, 11])], [], [])
theorem oo_Mo_next_30 {kA : Nat → ClassId} : or_ok PRD kA GG o_Mo_next_30 := by
  refine or_mk fun A ta ws vs hD hth hl => ?_
  intro t0 r0 t1 k1 t2 r2 t4 k4 t5 k5 t7 k7 t9 k9 t10 k10 f0 f1 f2 f3 f4 f5 f6 f7 f8 f9 f10
  replace f3 := shm_117 f3
  replace f4 := shm_535 f4
  replace f5 := shm_536 f5
  replace f6 := shm_535 f6
  replace f7 := shm_536 f7
  replace f9 := shm_1401 f9
  replace f10 := shm_5 f10
  have q2 : n_v vs 2 = n_v vs 0 := f10.symm
  simp only [q2] at f3 f4 f5 f6 f7 f9
  have g3 : v_iv (n_v vs 4) = w_fi ws (n_v vs 0) 11 := congrArg v_iv f3
  have kz_0_10 := fdq_50 hD hth r0
  have kz_0_11 := fdq_273 hD hth r0
  have kz_0_15 := fdq_274 hD hth r0
  have nf0 : fc_1 PRD (20, [2], [50, 2, 0, 15, 11, 0, 7, 4, 3, 2, 0, 15, 0, 1, 2, 0, 11]) ws (vs) := by
    refine ⟨nf_in hl rfl, sgq_1402 ?_⟩
    · show (w_fi ws (n_v vs 2) 15 + 1) ≤ w_fi ws (n_v vs 2) 11
      rw [q2]
      exact vc_Mo_next_30_0 (v_iv (n_v vs 4)) (v_iv (n_v vs 5)) (v_iv (n_v vs 7)) (w_ei ws (w_ar ws (n_v vs 0) 1)) (w_fi ws (n_v vs 0) 10) (w_fi ws (n_v vs 0) 11) (w_fi ws (n_v vs 0) 15) k4 k5 k7 g3 f4 f5 f6 f7 f9 kz_0_10 kz_0_11 kz_0_15
  refine ⟨(fun _ h => (by cases h)), [], trivial, ?_, (fun _ h => (by cases h))⟩
  rw [List.append_nil]
  exact List.forall_mem_cons.mpr ⟨⟨show (20 : Nat) < 100 from by decide, nf0⟩, (fun _ h => (by cases h))⟩
set_option maxHeartbeats 4000000 in
theorem vc_Mo_next_31_0 (x4 : Int) (x5 : Int) (x7 : Int) (tape_0 : Int → Int) (limit_0 : Int) (pos_0 : Int) (from_0 : Int) (k4 : 0 ≤ x4 ∧ x4 ≤ 1999) (k5 : 123 ≤ x5 ∧ x5 ≤ 255) (k7 : (-1) ≤ x7 ∧ x7 ≤ (-1)) (g3 : x4 = pos_0) (f4 : ((x4 + 1) ≤ limit_0) → (x7 = (tape_0 (x4) % 256))) (f5 : (limit_0 ≤ x4) → (x7 = (-1))) (f6 : ((x4 + 1) ≤ limit_0) → (x5 = (tape_0 (x4) % 256))) (f7 : (limit_0 ≤ x4) → (x5 = (-1))) (f9 : (from_0 ≤ pos_0) ∧ (((from_0 + 1) ≤ pos_0) ∨ ((pos_0 = from_0) ∧ (((from_0 + 1) ≤ limit_0) ∧ (((65 ≤ (tape_0 (from_0) % 256)) ∧ ((tape_0 (from_0) % 256) ≤ 90)) ∨ ((97 ≤ (tape_0 (from_0) % 256)) ∧ ((tape_0 (from_0) % 256) ≤ 122))))))) (kz_0_10 : 0 ≤ limit_0 ∧ limit_0 ≤ 2000) (kz_0_11 : 0 ≤ pos_0 ∧ pos_0 ≤ 2000) (kz_0_15 : 0 ≤ from_0 ∧ from_0 ≤ 2000) : (from_0 + 1) ≤ pos_0 := by
  first | assumption | omega | grind
def o_Mo_next_31 : or_T := (147, 11, [(0, (2, 0, 0, [165])), (1, (0, 0, 2000, [])), (2, (2, 0, 0, [165])), (4, (0, 0, 1999, [])), (5, (0, 123, 255, [])), (7, (0, -1, -1, [])), (9, (0, 0, 255, [])), (10, (0, 95, 95, []))], [(7, [9, 10], [1]), (20, [4, 2, 9], [50, 1, 1, 1010, 1001, 4, 11, 0, 6, 4, 2, 1, 0, 0, 1, 2, 1, 10, 1, 2, 1, 2, 9, 5, 3, 1, 1, 1, 0, 0, 256]), (20, [2, 4, 9], [50, 1, 0, 10, 4, 7, 0, 3, 2, 0, 10, 1, 1, 1, 2, 1, 2, 0, -1]), (9, [4, 2], [11]), (20, [4, 2, 7], [50, 1, 1, 1010, 1001, 4, 11, 0, 6, 4, 2, 1, 0, 0, 1, 2, 1, 10, 1, 2, 1, 2, 9, 5, 3, 1, 1, 1, 0, 0, 256]), (20, [2, 4, 7], [50, 1, 0, 10, 4, 7, 0, 3, 2, 0, 10, 1, 1, 1, 2, 1, 2, 0, -1]), (20, [4, 2, 5], [50, 1, 1, 1010, 1001, 4, 11, 0, 6, 4, 2, 1, 0, 0, 1, 2, 1, 10, 1, 2, 1, 2, 9, 5, 3, 1, 1, 1, 0, 0, 256]), (20, [2, 4, 5], [50, 1, 0, 10, 4, 7, 0, 3, 2, 0, 10, 1, 1, 1, 2, 1, 2, 0, -1]), (20, [1, 2], [30, 0, 1, 0, 0, -1, 1, 15]), (20, [2], [50, 3, 1, 15, 11, 10, 1, 2, 8, 0, 3, 2, 0, 15, 2, 0, 11, 3, 12, 0, 7, 4, 3, 2, 0, 15, 0, 1, 2, 0, 11, 2, 8, 1, 3, 2, 0, 11, 2, 0, 15, 2, 12, 0, 7, 4, 3, 2, 0, 15, 0, 1, 2, 0, 10, 3, 30, 2, 14, 0, 2, 0, 65, 9, 6, 3, 0, 1, 2, 0, 15, 0, 256, 0, 10, 9, 6, 3, 0, 1, 2, 0, 15, 0, 256, 0, 90, 2, 14, 0, 2, 0, 97, 9, 6, 3, 0, 1, 2, 0, 15, 0, 256, 0, 10, 9, 6, 3, 0, 1, 2, 0, 15, 0, 256, 0, 122]), (24, [0, 2], [])], [], [], [(20, [2], [50, 2, 0, 15, 11, 0, 7, 4, 3, 2, 0, 15, 0, 1, 2, 0, 11])], [], [])
theorem oo_Mo_next_31 {kA : Nat → ClassId} : or_ok PRD kA GG o_Mo_next_31 := by
  refine or_mk fun A ta ws vs hD hth hl => ?_
  intro t0 r0 t1 k1 t2 r2 t4 k4 t5 k5 t7 k7 t9 k9 t10 k10 f0 f1 f2 f3 f4 f5 f6 f7 f8 f9 f10
  replace f3 := shm_117 f3
  replace f4 := shm_535 f4
  replace f5 := shm_536 f5
  replace f6 := shm_535 f6
  replace f7 := shm_536 f7
  replace f9 := shm_1401 f9
  replace f10 := shm_5 f10
  have q2 : n_v vs 2 = n_v vs 0 := f10.symm
  simp only [q2] at f3 f4 f5 f6 f7 f9
  have g3 : v_iv (n_v vs 4) = w_fi ws (n_v vs 0) 11 := congrArg v_iv f3
  have kz_0_10 := fdq_50 hD hth r0
  have kz_0_11 := fdq_273 hD hth r0
  have kz_0_15 := fdq_274 hD hth r0
  have nf0 : fc_1 PRD (20, [2], [50, 2, 0, 15, 11, 0, 7, 4, 3, 2, 0, 15, 0, 1, 2, 0, 11]) ws (vs) := by
    refine ⟨nf_in hl rfl, sgq_1402 ?_⟩
    · show (w_fi ws (n_v vs 2) 15 + 1) ≤ w_fi ws (n_v vs 2) 11
      rw [q2]
      exact vc_Mo_next_31_0 (v_iv (n_v vs 4)) (v_iv (n_v vs 5)) (v_iv (n_v vs 7)) (w_ei ws (w_ar ws (n_v vs 0) 1)) (w_fi ws (n_v vs 0) 10) (w_fi ws (n_v vs 0) 11) (w_fi ws (n_v vs 0) 15) k4 k5 k7 g3 f4 f5 f6 f7 f9 kz_0_10 kz_0_11 kz_0_15
  refine ⟨(fun _ h => (by cases h)), [], trivial, ?_, (fun _ h => (by cases h))⟩
  rw [List.append_nil]
  exact List.forall_mem_cons.mpr ⟨⟨show (20 : Nat) < 100 from by decide, nf0⟩, (fun _ h => (by cases h))⟩
set_option maxHeartbeats 4000000 in
theorem vc_Mo_next_32_0 (x4 : Int) (x5 : Int) (x7 : Int) (tape_0 : Int → Int) (limit_0 : Int) (pos_0 : Int) (from_0 : Int) (k4 : 0 ≤ x4 ∧ x4 ≤ 1999) (k5 : 123 ≤ x5 ∧ x5 ≤ 255) (k7 : 0 ≤ x7 ∧ x7 ≤ 47) (g3 : x4 = pos_0) (f4 : ((x4 + 1) ≤ limit_0) → (x7 = (tape_0 (x4) % 256))) (f5 : (limit_0 ≤ x4) → (x7 = (-1))) (f6 : ((x4 + 1) ≤ limit_0) → (x5 = (tape_0 (x4) % 256))) (f7 : (limit_0 ≤ x4) → (x5 = (-1))) (f9 : (from_0 ≤ pos_0) ∧ (((from_0 + 1) ≤ pos_0) ∨ ((pos_0 = from_0) ∧ (((from_0 + 1) ≤ limit_0) ∧ (((65 ≤ (tape_0 (from_0) % 256)) ∧ ((tape_0 (from_0) % 256) ≤ 90)) ∨ ((97 ≤ (tape_0 (from_0) % 256)) ∧ ((tape_0 (from_0) % 256) ≤ 122))))))) (kz_0_10 : 0 ≤ limit_0 ∧ limit_0 ≤ 2000) (kz_0_11 : 0 ≤ pos_0 ∧ pos_0 ≤ 2000) (kz_0_15 : 0 ≤ from_0 ∧ from_0 ≤ 2000) : (from_0 + 1) ≤ pos_0 := by
  first | assumption | omega | grind
def o_Mo_next_32 : or_T := (147, 11, [(0, (2, 0, 0, [165])), (1, (0, 0, 2000, [])), (2, (2, 0, 0, [165])), (4, (0, 0, 1999, [])), (5, (0, 123, 255, [])), (7, (0, 0, 47, [])), (9, (0, -1, -1, [])), (10, (0, 95, 95, []))], [(7, [9, 10], [1]), (20, [4, 2, 9], [50, 1, 1, 1010, 1001, 4, 11, 0, 6, 4, 2, 1, 0, 0, 1, 2, 1, 10, 1, 2, 1, 2, 9, 5, 3, 1, 1, 1, 0, 0, 256]), (20, [2, 4, 9], [50, 1, 0, 10, 4, 7, 0, 3, 2, 0, 10, 1, 1, 1, 2, 1, 2, 0, -1]), (9, [4, 2], [11]), (20, [4, 2, 7], [50, 1, 1, 1010, 1001, 4, 11, 0, 6, 4, 2, 1, 0, 0, 1, 2, 1, 10, 1, 2, 1, 2, 9, 5, 3, 1, 1, 1, 0, 0, 256]), (20, [2, 4, 7], [50, 1, 0, 10, 4, 7, 0, 3, 2, 0, 10, 1, 1, 1, 2, 1, 2, 0, -1]), (20, [4, 2, 5], [50, 1, 1, 1010, 1001, 4, 11, 0, 6, 4, 2, 1, 0, 0, 1, 2, 1, 10, 1, 2, 1, 2, 9, 5, 3, 1, 1, 1, 0, 0, 256]), (20, [2, 4, 5], [50, 1, 0, 10, 4, 7, 0, 3, 2, 0, 10, 1, 1, 1, 2, 1, 2, 0, -1]), (20, [1, 2], [30, 0, 1, 0, 0, -1, 1, 15]), (20, [2], [50, 3, 1, 15, 11, 10, 1, 2, 8, 0, 3, 2, 0, 15, 2, 0, 11, 3, 12, 0, 7, 4, 3, 2, 0, 15, 0, 1, 2, 0, 11, 2, 8, 1, 3, 2, 0, 11, 2, 0, 15, 2, 12, 0, 7, 4, 3, 2, 0, 15, 0, 1, 2, 0, 10, 3, 30, 2, 14, 0, 2, 0, 65, 9, 6, 3, 0, 1, 2, 0, 15, 0, 256, 0, 10, 9, 6, 3, 0, 1, 2, 0, 15, 0, 256, 0, 90, 2, 14, 0, 2, 0, 97, 9, 6, 3, 0, 1, 2, 0, 15, 0, 256, 0, 10, 9, 6, 3, 0, 1, 2, 0, 15, 0, 256, 0, 122]), (24, [0, 2], [])], [], [], [(20, [2], [50, 2, 0, 15, 11, 0, 7, 4, 3, 2, 0, 15, 0, 1, 2, 0, 11])], [], [])
theorem oo_Mo_next_32 {kA : Nat → ClassId} : or_ok PRD kA GG o_Mo_next_32 := by
  refine or_mk fun A ta ws vs hD hth hl => ?_
  intro t0 r0 t1 k1 t2 r2 t4 k4 t5 k5 t7 k7 t9 k9 t10 k10 f0 f1 f2 f3 f4 f5 f6 f7 f8 f9 f10
  replace f3 := shm_117 f3
  replace f4 := shm_535 f4
  replace f5 := shm_536 f5
  replace f6 := shm_535 f6
  replace f7 := shm_536 f7
  replace f9 := shm_1401 f9
  replace f10 := shm_5 f10
  have q2 : n_v vs 2 = n_v vs 0 := f10.symm
  simp only [q2] at f3 f4 f5 f6 f7 f9
  have g3 : v_iv (n_v vs 4) = w_fi ws (n_v vs 0) 11 := congrArg v_iv f3
  have kz_0_10 := fdq_50 hD hth r0
  have kz_0_11 := fdq_273 hD hth r0
  have kz_0_15 := fdq_274 hD hth r0
  have nf0 : fc_1 PRD (20, [2], [50, 2, 0, 15, 11, 0, 7, 4, 3, 2, 0, 15, 0, 1, 2, 0, 11]) ws (vs) := by
    refine ⟨nf_in hl rfl, sgq_1402 ?_⟩
    · show (w_fi ws (n_v vs 2) 15 + 1) ≤ w_fi ws (n_v vs 2) 11
      rw [q2]
      exact vc_Mo_next_32_0 (v_iv (n_v vs 4)) (v_iv (n_v vs 5)) (v_iv (n_v vs 7)) (w_ei ws (w_ar ws (n_v vs 0) 1)) (w_fi ws (n_v vs 0) 10) (w_fi ws (n_v vs 0) 11) (w_fi ws (n_v vs 0) 15) k4 k5 k7 g3 f4 f5 f6 f7 f9 kz_0_10 kz_0_11 kz_0_15
  refine ⟨(fun _ h => (by cases h)), [], trivial, ?_, (fun _ h => (by cases h))⟩
  rw [List.append_nil]
  exact List.forall_mem_cons.mpr ⟨⟨show (20 : Nat) < 100 from by decide, nf0⟩, (fun _ h => (by cases h))⟩
set_option maxHeartbeats 4000000 in
theorem vc_Mo_next_33_0 (x4 : Int) (x5 : Int) (x7 : Int) (tape_0 : Int → Int) (limit_0 : Int) (pos_0 : Int) (from_0 : Int) (k4 : 0 ≤ x4 ∧ x4 ≤ 1999) (k5 : 123 ≤ x5 ∧ x5 ≤ 255) (k7 : 0 ≤ x7 ∧ x7 ≤ 47) (g3 : x4 = pos_0) (f4 : ((x4 + 1) ≤ limit_0) → (x7 = (tape_0 (x4) % 256))) (f5 : (limit_0 ≤ x4) → (x7 = (-1))) (f6 : ((x4 + 1) ≤ limit_0) → (x5 = (tape_0 (x4) % 256))) (f7 : (limit_0 ≤ x4) → (x5 = (-1))) (f9 : (from_0 ≤ pos_0) ∧ (((from_0 + 1) ≤ pos_0) ∨ ((pos_0 = from_0) ∧ (((from_0 + 1) ≤ limit_0) ∧ (((65 ≤ (tape_0 (from_0) % 256)) ∧ ((tape_0 (from_0) % 256) ≤ 90)) ∨ ((97 ≤ (tape_0 (from_0) % 256)) ∧ ((tape_0 (from_0) % 256) ≤ 122))))))) (kz_0_10 : 0 ≤ limit_0 ∧ limit_0 ≤ 2000) (kz_0_11 : 0 ≤ pos_0 ∧ pos_0 ≤ 2000) (kz_0_15 : 0 ≤ from_0 ∧ from_0 ≤ 2000) : (from_0 + 1) ≤ pos_0 := by
  first | assumption | omega | grind
def o_Mo_next_33 : or_T := (147, 11, [(0, (2, 0, 0, [165])), (1, (0, 0, 2000, [])), (2, (2, 0, 0, [165])), (4, (0, 0, 1999, [])), (5, (0, 123, 255, [])), (7, (0, 0, 47, [])), (9, (0, 0, 255, [])), (10, (0, 95, 95, []))], [(7, [9, 10], [1]), (20, [4, 2, 9], [50, 1, 1, 1010, 1001, 4, 11, 0, 6, 4, 2, 1, 0, 0, 1, 2, 1, 10, 1, 2, 1, 2, 9, 5, 3, 1, 1, 1, 0, 0, 256]), (20, [2, 4, 9], [50, 1, 0, 10, 4, 7, 0, 3, 2, 0, 10, 1, 1, 1, 2, 1, 2, 0, -1]), (9, [4, 2], [11]), (20, [4, 2, 7], [50, 1, 1, 1010, 1001, 4, 11, 0, 6, 4, 2, 1, 0, 0, 1, 2, 1, 10, 1, 2, 1, 2, 9, 5, 3, 1, 1, 1, 0, 0, 256]), (20, [2, 4, 7], [50, 1, 0, 10, 4, 7, 0, 3, 2, 0, 10, 1, 1, 1, 2, 1, 2, 0, -1]), (20, [4, 2, 5], [50, 1, 1, 1010, 1001, 4, 11, 0, 6, 4, 2, 1, 0, 0, 1, 2, 1, 10, 1, 2, 1, 2, 9, 5, 3, 1, 1, 1, 0, 0, 256]), (20, [2, 4, 5], [50, 1, 0, 10, 4, 7, 0, 3, 2, 0, 10, 1, 1, 1, 2, 1, 2, 0, -1]), (20, [1, 2], [30, 0, 1, 0, 0, -1, 1, 15]), (20, [2], [50, 3, 1, 15, 11, 10, 1, 2, 8, 0, 3, 2, 0, 15, 2, 0, 11, 3, 12, 0, 7, 4, 3, 2, 0, 15, 0, 1, 2, 0, 11, 2, 8, 1, 3, 2, 0, 11, 2, 0, 15, 2, 12, 0, 7, 4, 3, 2, 0, 15, 0, 1, 2, 0, 10, 3, 30, 2, 14, 0, 2, 0, 65, 9, 6, 3, 0, 1, 2, 0, 15, 0, 256, 0, 10, 9, 6, 3, 0, 1, 2, 0, 15, 0, 256, 0, 90, 2, 14, 0, 2, 0, 97, 9, 6, 3, 0, 1, 2, 0, 15, 0, 256, 0, 10, 9, 6, 3, 0, 1, 2, 0, 15, 0, 256, 0, 122]), (24, [0, 2], [])], [], [], [(20, [2], [50, 2, 0, 15, 11, 0, 7, 4, 3, 2, 0, 15, 0, 1, 2, 0, 11])], [], [])
theorem oo_Mo_next_33 {kA : Nat → ClassId} : or_ok PRD kA GG o_Mo_next_33 := by
  refine or_mk fun A ta ws vs hD hth hl => ?_
  intro t0 r0 t1 k1 t2 r2 t4 k4 t5 k5 t7 k7 t9 k9 t10 k10 f0 f1 f2 f3 f4 f5 f6 f7 f8 f9 f10
  replace f3 := shm_117 f3
  replace f4 := shm_535 f4
  replace f5 := shm_536 f5
  replace f6 := shm_535 f6
  replace f7 := shm_536 f7
  replace f9 := shm_1401 f9
  replace f10 := shm_5 f10
  have q2 : n_v vs 2 = n_v vs 0 := f10.symm
  simp only [q2] at f3 f4 f5 f6 f7 f9
  have g3 : v_iv (n_v vs 4) = w_fi ws (n_v vs 0) 11 := congrArg v_iv f3
  have kz_0_10 := fdq_50 hD hth r0
  have kz_0_11 := fdq_273 hD hth r0
  have kz_0_15 := fdq_274 hD hth r0
  have nf0 : fc_1 PRD (20, [2], [50, 2, 0, 15, 11, 0, 7, 4, 3, 2, 0, 15, 0, 1, 2, 0, 11]) ws (vs) := by
    refine ⟨nf_in hl rfl, sgq_1402 ?_⟩
    · show (w_fi ws (n_v vs 2) 15 + 1) ≤ w_fi ws (n_v vs 2) 11
      rw [q2]
      exact vc_Mo_next_33_0 (v_iv (n_v vs 4)) (v_iv (n_v vs 5)) (v_iv (n_v vs 7)) (w_ei ws (w_ar ws (n_v vs 0) 1)) (w_fi ws (n_v vs 0) 10) (w_fi ws (n_v vs 0) 11) (w_fi ws (n_v vs 0) 15) k4 k5 k7 g3 f4 f5 f6 f7 f9 kz_0_10 kz_0_11 kz_0_15
  refine ⟨(fun _ h => (by cases h)), [], trivial, ?_, (fun _ h => (by cases h))⟩
  rw [List.append_nil]
  exact List.forall_mem_cons.mpr ⟨⟨show (20 : Nat) < 100 from by decide, nf0⟩, (fun _ h => (by cases h))⟩
set_option maxHeartbeats 4000000 in
theorem vc_Mo_next_34_0 (x4 : Int) (x5 : Int) (x7 : Int) (x9 : Int) (tape_0 : Int → Int) (limit_0 : Int) (pos_0 : Int) (from_0 : Int) (k4 : 0 ≤ x4 ∧ x4 ≤ 1999) (k5 : 123 ≤ x5 ∧ x5 ≤ 255) (k7 : 58 ≤ x7 ∧ x7 ≤ 255) (k9 : (-1) ≤ x9 ∧ x9 ≤ (-1)) (f1 : ((x4 + 1) ≤ limit_0) → (x9 = (tape_0 (x4) % 256))) (f2 : (limit_0 ≤ x4) → (x9 = (-1))) (g3 : x4 = pos_0) (f4 : ((x4 + 1) ≤ limit_0) → (x7 = (tape_0 (x4) % 256))) (f5 : (limit_0 ≤ x4) → (x7 = (-1))) (f6 : ((x4 + 1) ≤ limit_0) → (x5 = (tape_0 (x4) % 256))) (f7 : (limit_0 ≤ x4) → (x5 = (-1))) (f9 : (from_0 ≤ pos_0) ∧ (((from_0 + 1) ≤ pos_0) ∨ ((pos_0 = from_0) ∧ (((from_0 + 1) ≤ limit_0) ∧ (((65 ≤ (tape_0 (from_0) % 256)) ∧ ((tape_0 (from_0) % 256) ≤ 90)) ∨ ((97 ≤ (tape_0 (from_0) % 256)) ∧ ((tape_0 (from_0) % 256) ≤ 122))))))) (kz_0_10 : 0 ≤ limit_0 ∧ limit_0 ≤ 2000) (kz_0_11 : 0 ≤ pos_0 ∧ pos_0 ≤ 2000) (kz_0_15 : 0 ≤ from_0 ∧ from_0 ≤ 2000) : (from_0 + 1) ≤ pos_0 := by
  first | assumption | omega | grind
def o_Mo_next_34 : or_T := (147, 11, [(0, (2, 0, 0, [165])), (1, (0, 0, 2000, [])), (2, (2, 0, 0, [165])), (4, (0, 0, 1999, [])), (5, (0, 123, 255, [])), (7, (0, 58, 255, [])), (9, (0, -1, -1, [])), (10, (0, 95, 95, []))], [(7, [9, 10], [1]), (20, [4, 2, 9], [50, 1, 1, 1010, 1001, 4, 11, 0, 6, 4, 2, 1, 0, 0, 1, 2, 1, 10, 1, 2, 1, 2, 9, 5, 3, 1, 1, 1, 0, 0, 256]), (20, [2, 4, 9], [50, 1, 0, 10, 4, 7, 0, 3, 2, 0, 10, 1, 1, 1, 2, 1, 2, 0, -1]), (9, [4, 2], [11]), (20, [4, 2, 7], [50, 1, 1, 1010, 1001, 4, 11, 0, 6, 4, 2, 1, 0, 0, 1, 2, 1, 10, 1, 2, 1, 2, 9, 5, 3, 1, 1, 1, 0, 0, 256]), (20, [2, 4, 7], [50, 1, 0, 10, 4, 7, 0, 3, 2, 0, 10, 1, 1, 1, 2, 1, 2, 0, -1]), (20, [4, 2, 5], [50, 1, 1, 1010, 1001, 4, 11, 0, 6, 4, 2, 1, 0, 0, 1, 2, 1, 10, 1, 2, 1, 2, 9, 5, 3, 1, 1, 1, 0, 0, 256]), (20, [2, 4, 5], [50, 1, 0, 10, 4, 7, 0, 3, 2, 0, 10, 1, 1, 1, 2, 1, 2, 0, -1]), (20, [1, 2], [30, 0, 1, 0, 0, -1, 1, 15]), (20, [2], [50, 3, 1, 15, 11, 10, 1, 2, 8, 0, 3, 2, 0, 15, 2, 0, 11, 3, 12, 0, 7, 4, 3, 2, 0, 15, 0, 1, 2, 0, 11, 2, 8, 1, 3, 2, 0, 11, 2, 0, 15, 2, 12, 0, 7, 4, 3, 2, 0, 15, 0, 1, 2, 0, 10, 3, 30, 2, 14, 0, 2, 0, 65, 9, 6, 3, 0, 1, 2, 0, 15, 0, 256, 0, 10, 9, 6, 3, 0, 1, 2, 0, 15, 0, 256, 0, 90, 2, 14, 0, 2, 0, 97, 9, 6, 3, 0, 1, 2, 0, 15, 0, 256, 0, 10, 9, 6, 3, 0, 1, 2, 0, 15, 0, 256, 0, 122]), (24, [0, 2], [])], [], [], [(20, [2], [50, 2, 0, 15, 11, 0, 7, 4, 3, 2, 0, 15, 0, 1, 2, 0, 11])], [], [])
theorem oo_Mo_next_34 {kA : Nat → ClassId} : or_ok PRD kA GG o_Mo_next_34 := by
  refine or_mk fun A ta ws vs hD hth hl => ?_
  intro t0 r0 t1 k1 t2 r2 t4 k4 t5 k5 t7 k7 t9 k9 t10 k10 f0 f1 f2 f3 f4 f5 f6 f7 f8 f9 f10
  replace f1 := shm_535 f1
  replace f2 := shm_536 f2
  replace f3 := shm_117 f3
  replace f4 := shm_535 f4
  replace f5 := shm_536 f5
  replace f6 := shm_535 f6
  replace f7 := shm_536 f7
  replace f9 := shm_1401 f9
  replace f10 := shm_5 f10
  have q2 : n_v vs 2 = n_v vs 0 := f10.symm
  simp only [q2] at f1 f2 f3 f4 f5 f6 f7 f9
  have g3 : v_iv (n_v vs 4) = w_fi ws (n_v vs 0) 11 := congrArg v_iv f3
  have kz_0_10 := fdq_50 hD hth r0
  have kz_0_11 := fdq_273 hD hth r0
  have kz_0_15 := fdq_274 hD hth r0
  have nf0 : fc_1 PRD (20, [2], [50, 2, 0, 15, 11, 0, 7, 4, 3, 2, 0, 15, 0, 1, 2, 0, 11]) ws (vs) := by
    refine ⟨nf_in hl rfl, sgq_1402 ?_⟩
    · show (w_fi ws (n_v vs 2) 15 + 1) ≤ w_fi ws (n_v vs 2) 11
      rw [q2]
      exact vc_Mo_next_34_0 (v_iv (n_v vs 4)) (v_iv (n_v vs 5)) (v_iv (n_v vs 7)) (v_iv (n_v vs 9)) (w_ei ws (w_ar ws (n_v vs 0) 1)) (w_fi ws (n_v vs 0) 10) (w_fi ws (n_v vs 0) 11) (w_fi ws (n_v vs 0) 15) k4 k5 k7 k9 f1 f2 g3 f4 f5 f6 f7 f9 kz_0_10 kz_0_11 kz_0_15
  refine ⟨(fun _ h => (by cases h)), [], trivial, ?_, (fun _ h => (by cases h))⟩
  rw [List.append_nil]
  exact List.forall_mem_cons.mpr ⟨⟨show (20 : Nat) < 100 from by decide, nf0⟩, (fun _ h => (by cases h))⟩
set_option maxHeartbeats 4000000 in
theorem vc_Mo_next_35_0 (x4 : Int) (x5 : Int) (tape_0 : Int → Int) (limit_0 : Int) (pos_0 : Int) (from_0 : Int) (k4 : 0 ≤ x4 ∧ x4 ≤ 1999) (k5 : 123 ≤ x5 ∧ x5 ≤ 255) (g3 : x4 = pos_0) (f6 : ((x4 + 1) ≤ limit_0) → (x5 = (tape_0 (x4) % 256))) (f9 : (from_0 ≤ pos_0) ∧ (((from_0 + 1) ≤ pos_0) ∨ ((pos_0 = from_0) ∧ (((from_0 + 1) ≤ limit_0) ∧ (((65 ≤ (tape_0 (from_0) % 256)) ∧ ((tape_0 (from_0) % 256) ≤ 90)) ∨ ((97 ≤ (tape_0 (from_0) % 256)) ∧ ((tape_0 (from_0) % 256) ≤ 122))))))) (kz_0_10 : 0 ≤ limit_0 ∧ limit_0 ≤ 2000) (kz_0_11 : 0 ≤ pos_0 ∧ pos_0 ≤ 2000) (kz_0_15 : 0 ≤ from_0 ∧ from_0 ≤ 2000) : (from_0 + 1) ≤ pos_0 := by
  first | assumption | omega | grind
def o_Mo_next_35 : or_T := (147, 11, [(0, (2, 0, 0, [165])), (1, (0, 0, 2000, [])), (2, (2, 0, 0, [165])), (4, (0, 0, 1999, [])), (5, (0, 123, 255, [])), (7, (0, 58, 255, [])), (9, (0, 0, 255, [])), (10, (0, 95, 95, []))], [(7, [9, 10], [1]), (20, [4, 2, 9], [50, 1, 1, 1010, 1001, 4, 11, 0, 6, 4, 2, 1, 0, 0, 1, 2, 1, 10, 1, 2, 1, 2, 9, 5, 3, 1, 1, 1, 0, 0, 256]), (20, [2, 4, 9], [50, 1, 0, 10, 4, 7, 0, 3, 2, 0, 10, 1, 1, 1, 2, 1, 2, 0, -1]), (9, [4, 2], [11]), (20, [4, 2, 7], [50, 1, 1, 1010, 1001, 4, 11, 0, 6, 4, 2, 1, 0, 0, 1, 2, 1, 10, 1, 2, 1, 2, 9, 5, 3, 1, 1, 1, 0, 0, 256]), (20, [2, 4, 7], [50, 1, 0, 10, 4, 7, 0, 3, 2, 0, 10, 1, 1, 1, 2, 1, 2, 0, -1]), (20, [4, 2, 5], [50, 1, 1, 1010, 1001, 4, 11, 0, 6, 4, 2, 1, 0, 0, 1, 2, 1, 10, 1, 2, 1, 2, 9, 5, 3, 1, 1, 1, 0, 0, 256]), (20, [2, 4, 5], [50, 1, 0, 10, 4, 7, 0, 3, 2, 0, 10, 1, 1, 1, 2, 1, 2, 0, -1]), (20, [1, 2], [30, 0, 1, 0, 0, -1, 1, 15]), (20, [2], [50, 3, 1, 15, 11, 10, 1, 2, 8, 0, 3, 2, 0, 15, 2, 0, 11, 3, 12, 0, 7, 4, 3, 2, 0, 15, 0, 1, 2, 0, 11, 2, 8, 1, 3, 2, 0, 11, 2, 0, 15, 2, 12, 0, 7, 4, 3, 2, 0, 15, 0, 1, 2, 0, 10, 3, 30, 2, 14, 0, 2, 0, 65, 9, 6, 3, 0, 1, 2, 0, 15, 0, 256, 0, 10, 9, 6, 3, 0, 1, 2, 0, 15, 0, 256, 0, 90, 2, 14, 0, 2, 0, 97, 9, 6, 3, 0, 1, 2, 0, 15, 0, 256, 0, 10, 9, 6, 3, 0, 1, 2, 0, 15, 0, 256, 0, 122]), (24, [0, 2], [])], [], [], [(20, [2], [50, 2, 0, 15, 11, 0, 7, 4, 3, 2, 0, 15, 0, 1, 2, 0, 11])], [], [])
theorem oo_Mo_next_35 {kA : Nat → ClassId} : or_ok PRD kA GG o_Mo_next_35 := by
  refine or_mk fun A ta ws vs hD hth hl => ?_
  intro t0 r0 t1 k1 t2 r2 t4 k4 t5 k5 t7 k7 t9 k9 t10 k10 f0 f1 f2 f3 f4 f5 f6 f7 f8 f9 f10
  replace f3 := shm_117 f3
  replace f6 := shm_535 f6
  replace f9 := shm_1401 f9
  replace f10 := shm_5 f10
  have q2 : n_v vs 2 = n_v vs 0 := f10.symm
  simp only [q2] at f3 f6 f9
  have g3 : v_iv (n_v vs 4) = w_fi ws (n_v vs 0) 11 := congrArg v_iv f3
  have kz_0_10 := fdq_50 hD hth r0
  have kz_0_11 := fdq_273 hD hth r0
  have kz_0_15 := fdq_274 hD hth r0
  have nf0 : fc_1 PRD (20, [2], [50, 2, 0, 15, 11, 0, 7, 4, 3, 2, 0, 15, 0, 1, 2, 0, 11]) ws (vs) := by
    refine ⟨nf_in hl rfl, sgq_1402 ?_⟩
    · show (w_fi ws (n_v vs 2) 15 + 1) ≤ w_fi ws (n_v vs 2) 11
      rw [q2]
      exact vc_Mo_next_35_0 (v_iv (n_v vs 4)) (v_iv (n_v vs 5)) (w_ei ws (w_ar ws (n_v vs 0) 1)) (w_fi ws (n_v vs 0) 10) (w_fi ws (n_v vs 0) 11) (w_fi ws (n_v vs 0) 15) k4 k5 g3 f6 f9 kz_0_10 kz_0_11 kz_0_15
  refine ⟨(fun _ h => (by cases h)), [], trivial, ?_, (fun _ h => (by cases h))⟩
  rw [List.append_nil]
  exact List.forall_mem_cons.mpr ⟨⟨show (20 : Nat) < 100 from by decide, nf0⟩, (fun _ h => (by cases h))⟩
set_option maxHeartbeats 4000000 in
theorem vc_Mo_next_36_0 (x4 : Int) (x6 : Int) (from_0 : Int) (pos_1 : Int) (from_1 : Int) (tape_1 : Int → Int) (limit_1 : Int) (limit_0 : Int) (pos_0 : Int) (tape_0 : Int → Int) (k4 : 0 ≤ x4 ∧ x4 ≤ 1999) (k6 : 1 ≤ x6 ∧ x6 ≤ 2000) (d0 : x4 + 1 ≤ x6 ∧ x6 ≤ x4 + 1) (g4 : x4 = pos_1) (f6 : (from_1 ≤ pos_1) ∧ (((from_1 + 1) ≤ pos_1) ∨ ((pos_1 = from_1) ∧ (((from_1 + 1) ≤ limit_1) ∧ (((65 ≤ (tape_1 (from_1) % 256)) ∧ ((tape_1 (from_1) % 256) ≤ 90)) ∨ ((97 ≤ (tape_1 (from_1) % 256)) ∧ ((tape_1 (from_1) % 256) ≤ 122))))))) (fe_0_10_1 : limit_0 = limit_1) (fe_0_11_1 : pos_0 = x6) (fe_0_15_1 : from_0 = from_1) (hE_0_1_1 : ∀ j : Int, tape_0 j = tape_1 j) (kz_0_10 : 0 ≤ limit_0 ∧ limit_0 ≤ 2000) (kz_0_11 : 0 ≤ pos_0 ∧ pos_0 ≤ 2000) (kz_0_15 : 0 ≤ from_0 ∧ from_0 ≤ 2000) : (from_0 ≤ pos_0) ∧ (((from_0 + 1) ≤ pos_0) ∨ ((pos_0 = from_0) ∧ (((from_0 + 1) ≤ limit_0) ∧ (((65 ≤ (tape_0 (from_0) % 256)) ∧ ((tape_0 (from_0) % 256) ≤ 90)) ∨ ((97 ≤ (tape_0 (from_0) % 256)) ∧ ((tape_0 (from_0) % 256) ≤ 122)))))) := by
  subst fe_0_10_1
  subst fe_0_15_1
  have e_hE_0_1_1 := funext hE_0_1_1; subst e_hE_0_1_1
  first | assumption | omega | grind
def o_Mo_next_36 : or_T := (93, 7, [(0, (2, 0, 0, [165])), (1, (0, 0, 2000, [])), (2, (2, 0, 0, [165])), (4, (0, 0, 1999, [])), (5, (0, 1, 1, [])), (6, (0, 1, 2000, []))], [(20, [1, 2], [30, 0, 1, 0, 0, -1, 1, 15]), (24, [0, 2], []), (101, [2, 6], [11]), (1, [6, 4, 5], []), (9, [4, 2], [11]), (20, [1, 2], [30, 0, 1, 0, 0, -1, 1, 15]), (20, [2], [50, 3, 1, 15, 11, 10, 1, 2, 8, 0, 3, 2, 0, 15, 2, 0, 11, 3, 12, 0, 7, 4, 3, 2, 0, 15, 0, 1, 2, 0, 11, 2, 8, 1, 3, 2, 0, 11, 2, 0, 15, 2, 12, 0, 7, 4, 3, 2, 0, 15, 0, 1, 2, 0, 10, 3, 30, 2, 14, 0, 2, 0, 65, 9, 6, 3, 0, 1, 2, 0, 15, 0, 256, 0, 10, 9, 6, 3, 0, 1, 2, 0, 15, 0, 256, 0, 90, 2, 14, 0, 2, 0, 97, 9, 6, 3, 0, 1, 2, 0, 15, 0, 256, 0, 10, 9, 6, 3, 0, 1, 2, 0, 15, 0, 256, 0, 122])], [], [], [(20, [2], [50, 3, 1, 15, 11, 10, 1, 2, 8, 0, 3, 2, 0, 15, 2, 0, 11, 3, 12, 0, 7, 4, 3, 2, 0, 15, 0, 1, 2, 0, 11, 2, 8, 1, 3, 2, 0, 11, 2, 0, 15, 2, 12, 0, 7, 4, 3, 2, 0, 15, 0, 1, 2, 0, 10, 3, 30, 2, 14, 0, 2, 0, 65, 9, 6, 3, 0, 1, 2, 0, 15, 0, 256, 0, 10, 9, 6, 3, 0, 1, 2, 0, 15, 0, 256, 0, 90, 2, 14, 0, 2, 0, 97, 9, 6, 3, 0, 1, 2, 0, 15, 0, 256, 0, 10, 9, 6, 3, 0, 1, 2, 0, 15, 0, 256, 0, 122])], [], [(6, 4, 1, 1)])
theorem oo_Mo_next_36 {kA : Nat → ClassId} : or_ok PRD kA GG o_Mo_next_36 := by
  refine or_mk fun A ta ws vs hD hth hl => ?_
  intro t0 r0 t1 k1 t2 r2 t4 k4 t5 k5 t6 k6 d0 f0 f1 ta1 w1 le1 s1 f3 f4 f5 f6
  replace f1 := shm_5 f1
  have s1 : (∀ b j, w_el ws b j = w_el w1 b j) ∧ ∀ b j, w_fd ws b j = if b = v_ad (n_v vs 2) ∧ j = 11 then n_v vs 6 else w_fd w1 b j := s1.2
  replace f4 := shm_117 f4
  replace f6 := shm_1401 f6
  have q2 : n_v vs 2 = n_v vs 0 := f1.symm
  rw [q2] at s1
  simp only [q2] at f4 f6
  have ar_0_1_1 : w_ar w1 (n_v vs 0) 1 = w_ar ws (n_v vs 0) 1 := by show v_ad (w_fd w1 _ _) = v_ad (w_fd ws _ _); rw [s1.2, if_neg (fun e => absurd e.2 (by decide))]
  have g4 : v_iv (n_v vs 4) = w_fi w1 (n_v vs 0) 11 := congrArg v_iv f4
  simp only [ar_0_1_1] at f6
  have fe_0_10_1 : w_fi ws (n_v vs 0) 10 = w_fi w1 (n_v vs 0) 10 := by show v_iv (w_fd _ _ _) = v_iv (w_fd _ _ _); rw [s1.2, if_neg (fun e => absurd e.2 (by decide))]
  have fe_0_11_1 : w_fi ws (n_v vs 0) 11 = v_iv (n_v vs 6) := by show v_iv (w_fd _ _ _) = _; rw [s1.2, if_pos ⟨rfl, rfl⟩]
  have fe_0_15_1 : w_fi ws (n_v vs 0) 15 = w_fi w1 (n_v vs 0) 15 := by show v_iv (w_fd _ _ _) = v_iv (w_fd _ _ _); rw [s1.2, if_neg (fun e => absurd e.2 (by decide))]
  have hE_0_1_1 : ∀ j : Int, w_ei ws (w_ar ws (n_v vs 0) 1) j = w_ei w1 (w_ar ws (n_v vs 0) 1) j := fun j => s1.1 _ _
  have kz_0_10 := fdq_50 hD hth r0
  have kz_0_11 := fdq_273 hD hth r0
  have kz_0_15 := fdq_274 hD hth r0
  have nf0 : fc_1 PRD (20, [2], [50, 3, 1, 15, 11, 10, 1, 2, 8, 0, 3, 2, 0, 15, 2, 0, 11, 3, 12, 0, 7, 4, 3, 2, 0, 15, 0, 1, 2, 0, 11, 2, 8, 1, 3, 2, 0, 11, 2, 0, 15, 2, 12, 0, 7, 4, 3, 2, 0, 15, 0, 1, 2, 0, 10, 3, 30, 2, 14, 0, 2, 0, 65, 9, 6, 3, 0, 1, 2, 0, 15, 0, 256, 0, 10, 9, 6, 3, 0, 1, 2, 0, 15, 0, 256, 0, 90, 2, 14, 0, 2, 0, 97, 9, 6, 3, 0, 1, 2, 0, 15, 0, 256, 0, 10, 9, 6, 3, 0, 1, 2, 0, 15, 0, 256, 0, 122]) ws (vs) := by
    refine ⟨nf_in hl rfl, sgq_1401 ?_⟩
    · show (w_fi ws (n_v vs 2) 15 ≤ w_fi ws (n_v vs 2) 11) ∧ (((w_fi ws (n_v vs 2) 15 + 1) ≤ w_fi ws (n_v vs 2) 11) ∨ ((w_fi ws (n_v vs 2) 11 = w_fi ws (n_v vs 2) 15) ∧ (((w_fi ws (n_v vs 2) 15 + 1) ≤ w_fi ws (n_v vs 2) 10) ∧ (((65 ≤ (w_ei ws (w_ar ws (n_v vs 2) 1) (w_fi ws (n_v vs 2) 15) % 256)) ∧ ((w_ei ws (w_ar ws (n_v vs 2) 1) (w_fi ws (n_v vs 2) 15) % 256) ≤ 90)) ∨ ((97 ≤ (w_ei ws (w_ar ws (n_v vs 2) 1) (w_fi ws (n_v vs 2) 15) % 256)) ∧ ((w_ei ws (w_ar ws (n_v vs 2) 1) (w_fi ws (n_v vs 2) 15) % 256) ≤ 122))))))
      rw [q2]
      exact vc_Mo_next_36_0 (v_iv (n_v vs 4)) (v_iv (n_v vs 6)) (w_fi ws (n_v vs 0) 15) (w_fi w1 (n_v vs 0) 11) (w_fi w1 (n_v vs 0) 15) (w_ei w1 (w_ar ws (n_v vs 0) 1)) (w_fi w1 (n_v vs 0) 10) (w_fi ws (n_v vs 0) 10) (w_fi ws (n_v vs 0) 11) (w_ei ws (w_ar ws (n_v vs 0) 1)) k4 k6 d0 g4 f6 fe_0_10_1 fe_0_11_1 fe_0_15_1 hE_0_1_1 kz_0_10 kz_0_11 kz_0_15
  refine ⟨(fun _ h => (by cases h)), [], trivial, ?_, (fun _ h => (by cases h))⟩
  rw [List.append_nil]
  exact List.forall_mem_cons.mpr ⟨⟨show (20 : Nat) < 100 from by decide, nf0⟩, (fun _ h => (by cases h))⟩
set_option maxHeartbeats 4000000 in
theorem vc_Mo_next_37_0 (x4 : Int) (x5 : Int) (x6 : Int) (from_0 : Int) (pos_0 : Int) (from_1 : Int) (pos_1 : Int) (k4 : 9 ≤ x4 ∧ x4 ≤ 2000) (k5 : 0 ≤ x5 ∧ x5 ≤ 2000) (k6 : 9 ≤ x6 ∧ x6 ≤ 2000) (f5 : x6 = x4 - x5) (g6 : x5 = from_1) (g7 : x4 = pos_1) (fe_0_11_1 : pos_0 = pos_1) (fe_0_15_1 : from_0 = from_1) (kz_0_11 : 0 ≤ pos_0 ∧ pos_0 ≤ 2000) (kz_0_15 : 0 ≤ from_0 ∧ from_0 ≤ 2000) : 1 * from_0 + ((-1) * pos_0 + 0) ≤ 0 := by
  subst fe_0_11_1
  subst fe_0_15_1
  first | assumption | omega | grind
set_option maxHeartbeats 4000000 in
theorem vc_Mo_next_37_1 (x4 : Int) (x5 : Int) (x6 : Int) (x8 : Int) (from_0 : Int) (pos_0 : Int) (from_1 : Int) (pos_1 : Int) (kind_0 : Int) (k4 : 9 ≤ x4 ∧ x4 ≤ 2000) (k5 : 0 ≤ x5 ∧ x5 ≤ 2000) (k6 : 9 ≤ x6 ∧ x6 ≤ 2000) (k8 : 4 ≤ x8 ∧ x8 ≤ 4) (f5 : x6 = x4 - x5) (g6 : x5 = from_1) (g7 : x4 = pos_1) (fe_0_11_1 : pos_0 = pos_1) (fe_0_12_1 : kind_0 = x8) (fe_0_15_1 : from_0 = from_1) (kz_0_11 : 0 ≤ pos_0 ∧ pos_0 ≤ 2000) (kz_0_12 : 0 ≤ kind_0 ∧ kind_0 ≤ 4) (kz_0_15 : 0 ≤ from_0 ∧ from_0 ≤ 2000) : ((kind_0 = 1) → (pos_0 ≤ (from_0 + 8))) ∧ ((kind_0 = 0) ∨ ((from_0 + 1) ≤ pos_0)) := by
  subst fe_0_11_1
  subst fe_0_15_1
  first | assumption | omega | grind
set_option maxHeartbeats 4000000 in
theorem vc_Mo_next_37_2 (x4 : Int) (x5 : Int) (x6 : Int) (from_0 : Int) (pos_0 : Int) (from_1 : Int) (pos_1 : Int) (k4 : 9 ≤ x4 ∧ x4 ≤ 2000) (k5 : 0 ≤ x5 ∧ x5 ≤ 2000) (k6 : 9 ≤ x6 ∧ x6 ≤ 2000) (f5 : x6 = x4 - x5) (g6 : x5 = from_1) (g7 : x4 = pos_1) (fe_0_11_1 : pos_0 = pos_1) (fe_0_15_1 : from_0 = from_1) (kz_0_11 : 0 ≤ pos_0 ∧ pos_0 ≤ 2000) (kz_0_15 : 0 ≤ from_0 ∧ from_0 ≤ 2000) : 1 * from_0 + ((-1) * pos_0 + 0) ≤ 0 := by
  subst fe_0_11_1
  subst fe_0_15_1
  first | assumption | omega | grind
set_option maxHeartbeats 4000000 in
theorem vc_Mo_next_37_3 (x4 : Int) (x5 : Int) (x6 : Int) (x8 : Int) (from_0 : Int) (pos_0 : Int) (from_1 : Int) (pos_1 : Int) (kind_0 : Int) (k4 : 9 ≤ x4 ∧ x4 ≤ 2000) (k5 : 0 ≤ x5 ∧ x5 ≤ 2000) (k6 : 9 ≤ x6 ∧ x6 ≤ 2000) (k8 : 4 ≤ x8 ∧ x8 ≤ 4) (f5 : x6 = x4 - x5) (g6 : x5 = from_1) (g7 : x4 = pos_1) (fe_0_11_1 : pos_0 = pos_1) (fe_0_12_1 : kind_0 = x8) (fe_0_15_1 : from_0 = from_1) (kz_0_11 : 0 ≤ pos_0 ∧ pos_0 ≤ 2000) (kz_0_12 : 0 ≤ kind_0 ∧ kind_0 ≤ 4) (kz_0_15 : 0 ≤ from_0 ∧ from_0 ≤ 2000) : ((kind_0 = 1) → (pos_0 ≤ (from_0 + 8))) ∧ ((kind_0 = 0) ∨ ((from_0 + 1) ≤ pos_0)) := by
  subst fe_0_11_1
  subst fe_0_15_1
  first | assumption | omega | grind
set_option maxHeartbeats 4000000 in
theorem vc_Mo_next_37_4 (x1 : Int) (from_0 : Int) (pos_0 : Int) (from_1 : Int) (pos_1 : Int) (k1 : 0 ≤ x1 ∧ x1 ≤ 2000) (f8 : 1 * x1 + ((-1) * from_1 + 0) ≤ 0) (fe_0_11_1 : pos_0 = pos_1) (fe_0_15_1 : from_0 = from_1) (kz_0_11 : 0 ≤ pos_0 ∧ pos_0 ≤ 2000) (kz_0_15 : 0 ≤ from_0 ∧ from_0 ≤ 2000) : 1 * x1 + ((-1) * from_0 + 0) ≤ 0 := by
  subst fe_0_11_1
  subst fe_0_15_1
  first | assumption | omega | grind
def o_Mo_next_37 : or_T := (354, 9, [(0, (2, 0, 0, [165])), (1, (0, 0, 2000, [])), (2, (2, 0, 0, [165])), (4, (0, 9, 2000, [])), (5, (0, 0, 2000, [])), (6, (0, 9, 2000, [])), (7, (0, 8, 8, [])), (8, (0, 4, 4, []))], [(20, [1, 2], [30, 0, 1, 0, 0, -1, 1, 15]), (20, [2], [50, 2, 0, 15, 11, 0, 7, 4, 3, 2, 0, 15, 0, 1, 2, 0, 11]), (24, [0, 2], []), (101, [2, 8], [12]), (7, [6, 7], [4]), (2, [6, 4, 5], []), (9, [5, 2], [15]), (9, [4, 2], [11]), (20, [1, 2], [30, 0, 1, 0, 0, -1, 1, 15]), (20, [2], [50, 2, 0, 15, 11, 0, 7, 4, 3, 2, 0, 15, 0, 1, 2, 0, 11])], [], [], [(20, [2, 2], [30, 0, 1, 1, 15, -1, 1, 11]), (20, [2], [50, 3, 0, 12, 11, 15, 2, 21, 4, 7, 1, 3, 2, 0, 12, 0, 1, 0, 3, 2, 0, 11, 4, 3, 2, 0, 15, 0, 8, 3, 7, 1, 3, 2, 0, 12, 0, 0, 0, 7, 4, 3, 2, 0, 15, 0, 1, 2, 0, 11]), (20, [0, 0], [30, 0, 1, 1, 15, -1, 1, 11]), (20, [0], [50, 3, 0, 12, 11, 15, 2, 21, 4, 7, 1, 3, 2, 0, 12, 0, 1, 0, 3, 2, 0, 11, 4, 3, 2, 0, 15, 0, 8, 3, 7, 1, 3, 2, 0, 12, 0, 0, 0, 7, 4, 3, 2, 0, 15, 0, 1, 2, 0, 11]), (20, [1, 0], [30, 0, 1, 0, 0, -1, 1, 15])], [], [(6, 4, -2000, 0)])
theorem oo_Mo_next_37 {kA : Nat → ClassId} : or_ok PRD kA GG o_Mo_next_37 := by
  refine or_mk fun A ta ws vs hD hth hl => ?_
  intro t0 r0 t1 k1 t2 r2 t4 k4 t5 k5 t6 k6 t7 k7 t8 k8 d0 f0 f1 f2 ta1 w1 le1 s1 f4 f5 f6 f7 f8 f9
  replace f2 := shm_5 f2
  have s1 : (∀ b j, w_el ws b j = w_el w1 b j) ∧ ∀ b j, w_fd ws b j = if b = v_ad (n_v vs 2) ∧ j = 12 then n_v vs 8 else w_fd w1 b j := s1.2
  replace f5 := shm_14 f5
  replace f6 := shm_189 f6
  replace f7 := shm_117 f7
  replace f8 := shm_1396 f8
  have q2 : n_v vs 2 = n_v vs 0 := f2.symm
  rw [q2] at s1
  simp only [q2] at f6 f7 f8
  have g6 : v_iv (n_v vs 5) = w_fi w1 (n_v vs 0) 15 := congrArg v_iv f6
  have g7 : v_iv (n_v vs 4) = w_fi w1 (n_v vs 0) 11 := congrArg v_iv f7
  have fe_0_11_1 : w_fi ws (n_v vs 0) 11 = w_fi w1 (n_v vs 0) 11 := by show v_iv (w_fd _ _ _) = v_iv (w_fd _ _ _); rw [s1.2, if_neg (fun e => absurd e.2 (by decide))]
  have fe_0_12_1 : w_fi ws (n_v vs 0) 12 = v_iv (n_v vs 8) := by show v_iv (w_fd _ _ _) = _; rw [s1.2, if_pos ⟨rfl, rfl⟩]
  have fe_0_15_1 : w_fi ws (n_v vs 0) 15 = w_fi w1 (n_v vs 0) 15 := by show v_iv (w_fd _ _ _) = v_iv (w_fd _ _ _); rw [s1.2, if_neg (fun e => absurd e.2 (by decide))]
  have kz_0_11 := fdq_273 hD hth r0
  have kz_0_12 := fdq_186 hD hth r0
  have kz_0_15 := fdq_274 hD hth r0
  have nf0 : fc_1 PRD (20, [2, 2], [30, 0, 1, 1, 15, -1, 1, 11]) ws (vs) := by
    refine ⟨nf_in hl rfl, sgq_1397 ?_⟩
    · show 1 * w_fi ws (n_v vs 2) 15 + ((-1) * w_fi ws (n_v vs 2) 11 + 0) ≤ 0
      rw [q2]
      exact vc_Mo_next_37_0 (v_iv (n_v vs 4)) (v_iv (n_v vs 5)) (v_iv (n_v vs 6)) (w_fi ws (n_v vs 0) 15) (w_fi ws (n_v vs 0) 11) (w_fi w1 (n_v vs 0) 15) (w_fi w1 (n_v vs 0) 11) k4 k5 k6 f5 g6 g7 fe_0_11_1 fe_0_15_1 kz_0_11 kz_0_15
  have nf1 : fc_1 PRD (20, [2], [50, 3, 0, 12, 11, 15, 2, 21, 4, 7, 1, 3, 2, 0, 12, 0, 1, 0, 3, 2, 0, 11, 4, 3, 2, 0, 15, 0, 8, 3, 7, 1, 3, 2, 0, 12, 0, 0, 0, 7, 4, 3, 2, 0, 15, 0, 1, 2, 0, 11]) ws (vs) := by
    refine ⟨nf_in hl rfl, sgq_1398 ?_⟩
    · show ((w_fi ws (n_v vs 2) 12 = 1) → (w_fi ws (n_v vs 2) 11 ≤ (w_fi ws (n_v vs 2) 15 + 8))) ∧ ((w_fi ws (n_v vs 2) 12 = 0) ∨ ((w_fi ws (n_v vs 2) 15 + 1) ≤ w_fi ws (n_v vs 2) 11))
      rw [q2]
      exact vc_Mo_next_37_1 (v_iv (n_v vs 4)) (v_iv (n_v vs 5)) (v_iv (n_v vs 6)) (v_iv (n_v vs 8)) (w_fi ws (n_v vs 0) 15) (w_fi ws (n_v vs 0) 11) (w_fi w1 (n_v vs 0) 15) (w_fi w1 (n_v vs 0) 11) (w_fi ws (n_v vs 0) 12) k4 k5 k6 k8 f5 g6 g7 fe_0_11_1 fe_0_12_1 fe_0_15_1 kz_0_11 kz_0_12 kz_0_15
  have nf2 : fc_1 PRD (20, [0, 0], [30, 0, 1, 1, 15, -1, 1, 11]) ws (vs) := ⟨nf_in hl rfl, sgq_1397 (vc_Mo_next_37_2 (v_iv (n_v vs 4)) (v_iv (n_v vs 5)) (v_iv (n_v vs 6)) (w_fi ws (n_v vs 0) 15) (w_fi ws (n_v vs 0) 11) (w_fi w1 (n_v vs 0) 15) (w_fi w1 (n_v vs 0) 11) k4 k5 k6 f5 g6 g7 fe_0_11_1 fe_0_15_1 kz_0_11 kz_0_15)⟩
  have nf3 : fc_1 PRD (20, [0], [50, 3, 0, 12, 11, 15, 2, 21, 4, 7, 1, 3, 2, 0, 12, 0, 1, 0, 3, 2, 0, 11, 4, 3, 2, 0, 15, 0, 8, 3, 7, 1, 3, 2, 0, 12, 0, 0, 0, 7, 4, 3, 2, 0, 15, 0, 1, 2, 0, 11]) ws (vs) := ⟨nf_in hl rfl, sgq_1398 (vc_Mo_next_37_3 (v_iv (n_v vs 4)) (v_iv (n_v vs 5)) (v_iv (n_v vs 6)) (v_iv (n_v vs 8)) (w_fi ws (n_v vs 0) 15) (w_fi ws (n_v vs 0) 11) (w_fi w1 (n_v vs 0) 15) (w_fi w1 (n_v vs 0) 11) (w_fi ws (n_v vs 0) 12) k4 k5 k6 k8 f5 g6 g7 fe_0_11_1 fe_0_12_1 fe_0_15_1 kz_0_11 kz_0_12 kz_0_15)⟩
  have nf4 : fc_1 PRD (20, [1, 0], [30, 0, 1, 0, 0, -1, 1, 15]) ws (vs) := ⟨nf_in hl rfl, sgq_1396 (vc_Mo_next_37_4 (v_iv (n_v vs 1)) (w_fi ws (n_v vs 0) 15) (w_fi ws (n_v vs 0) 11) (w_fi w1 (n_v vs 0) 15) (w_fi w1 (n_v vs 0) 11) k1 f8 fe_0_11_1 fe_0_15_1 kz_0_11 kz_0_15)⟩
  refine ⟨(fun _ h => (by cases h)), [], trivial, ?_, (fun _ h => (by cases h))⟩
  rw [List.append_nil]
  exact List.forall_mem_cons.mpr ⟨⟨show (20 : Nat) < 100 from by decide, nf0⟩, List.forall_mem_cons.mpr ⟨⟨show (20 : Nat) < 100 from by decide, nf1⟩, List.forall_mem_cons.mpr ⟨⟨show (20 : Nat) < 100 from by decide, nf2⟩, List.forall_mem_cons.mpr ⟨⟨show (20 : Nat) < 100 from by decide, nf3⟩, List.forall_mem_cons.mpr ⟨⟨show (20 : Nat) < 100 from by decide, nf4⟩, (fun _ h => (by cases h))⟩⟩⟩⟩⟩

set_option maxHeartbeats 4000000 in
theorem vc_Mo_next_38_0 (x4 : Int) (x5 : Int) (x6 : Int) (from_0 : Int) (pos_0 : Int) (from_1 : Int) (pos_1 : Int) (k4 : 0 ≤ x4 ∧ x4 ≤ 2000) (k5 : 0 ≤ x5 ∧ x5 ≤ 2000) (k6 : (-2000) ≤ x6 ∧ x6 ≤ 8) (f1 : (from_0 + 1) ≤ pos_0) (f5 : x6 = x4 - x5) (g6 : x5 = from_1) (g7 : x4 = pos_1) (fe_0_11_1 : pos_0 = pos_1) (fe_0_15_1 : from_0 = from_1) (kz_0_11 : 0 ≤ pos_0 ∧ pos_0 ≤ 2000) (kz_0_15 : 0 ≤ from_0 ∧ from_0 ≤ 2000) : 1 * from_0 + ((-1) * pos_0 + 0) ≤ 0 := by
  subst fe_0_11_1
  subst fe_0_15_1
  first | assumption | omega | grind
set_option maxHeartbeats 4000000 in
theorem vc_Mo_next_38_1 (x4 : Int) (x5 : Int) (x6 : Int) (from_0 : Int) (pos_0 : Int) (from_1 : Int) (pos_1 : Int) (kind_0 : Int) (k4 : 0 ≤ x4 ∧ x4 ≤ 2000) (k5 : 0 ≤ x5 ∧ x5 ≤ 2000) (k6 : (-2000) ≤ x6 ∧ x6 ≤ 8) (f1 : (from_0 + 1) ≤ pos_0) (f5 : x6 = x4 - x5) (g6 : x5 = from_1) (g7 : x4 = pos_1) (fe_0_11_1 : pos_0 = pos_1) (fe_0_15_1 : from_0 = from_1) (kz_0_11 : 0 ≤ pos_0 ∧ pos_0 ≤ 2000) (kz_0_12 : 0 ≤ kind_0 ∧ kind_0 ≤ 4) (kz_0_15 : 0 ≤ from_0 ∧ from_0 ≤ 2000) : ((kind_0 = 1) → (pos_0 ≤ (from_0 + 8))) ∧ ((kind_0 = 0) ∨ ((from_0 + 1) ≤ pos_0)) := by
  subst fe_0_11_1
  subst fe_0_15_1
  first | assumption | omega | grind
set_option maxHeartbeats 4000000 in
theorem vc_Mo_next_38_2 (x4 : Int) (x5 : Int) (x6 : Int) (from_0 : Int) (pos_0 : Int) (from_1 : Int) (pos_1 : Int) (k4 : 0 ≤ x4 ∧ x4 ≤ 2000) (k5 : 0 ≤ x5 ∧ x5 ≤ 2000) (k6 : (-2000) ≤ x6 ∧ x6 ≤ 8) (f1 : (from_0 + 1) ≤ pos_0) (f5 : x6 = x4 - x5) (g6 : x5 = from_1) (g7 : x4 = pos_1) (fe_0_11_1 : pos_0 = pos_1) (fe_0_15_1 : from_0 = from_1) (kz_0_11 : 0 ≤ pos_0 ∧ pos_0 ≤ 2000) (kz_0_15 : 0 ≤ from_0 ∧ from_0 ≤ 2000) : 1 * from_0 + ((-1) * pos_0 + 0) ≤ 0 := by
  subst fe_0_11_1
  subst fe_0_15_1
  first | assumption | omega | grind
set_option maxHeartbeats 4000000 in
theorem vc_Mo_next_38_3 (x4 : Int) (x5 : Int) (x6 : Int) (from_0 : Int) (pos_0 : Int) (from_1 : Int) (pos_1 : Int) (kind_0 : Int) (k4 : 0 ≤ x4 ∧ x4 ≤ 2000) (k5 : 0 ≤ x5 ∧ x5 ≤ 2000) (k6 : (-2000) ≤ x6 ∧ x6 ≤ 8) (f1 : (from_0 + 1) ≤ pos_0) (f5 : x6 = x4 - x5) (g6 : x5 = from_1) (g7 : x4 = pos_1) (fe_0_11_1 : pos_0 = pos_1) (fe_0_15_1 : from_0 = from_1) (kz_0_11 : 0 ≤ pos_0 ∧ pos_0 ≤ 2000) (kz_0_12 : 0 ≤ kind_0 ∧ kind_0 ≤ 4) (kz_0_15 : 0 ≤ from_0 ∧ from_0 ≤ 2000) : ((kind_0 = 1) → (pos_0 ≤ (from_0 + 8))) ∧ ((kind_0 = 0) ∨ ((from_0 + 1) ≤ pos_0)) := by
  subst fe_0_11_1
  subst fe_0_15_1
  first | assumption | omega | grind
set_option maxHeartbeats 4000000 in
theorem vc_Mo_next_38_4 (x1 : Int) (from_0 : Int) (pos_0 : Int) (from_1 : Int) (pos_1 : Int) (k1 : 0 ≤ x1 ∧ x1 ≤ 2000) (f8 : 1 * x1 + ((-1) * from_1 + 0) ≤ 0) (fe_0_11_1 : pos_0 = pos_1) (fe_0_15_1 : from_0 = from_1) (kz_0_11 : 0 ≤ pos_0 ∧ pos_0 ≤ 2000) (kz_0_15 : 0 ≤ from_0 ∧ from_0 ≤ 2000) : 1 * x1 + ((-1) * from_0 + 0) ≤ 0 := by
  subst fe_0_11_1
  subst fe_0_15_1
  first | assumption | omega | grind
def o_Mo_next_38 : or_T := (354, 9, [(0, (2, 0, 0, [165])), (1, (0, 0, 2000, [])), (2, (2, 0, 0, [165])), (4, (0, 0, 2000, [])), (5, (0, 0, 2000, [])), (6, (0, -2000, 8, [])), (7, (0, 8, 8, [])), (8, (0, 1, 1, []))], [(20, [1, 2], [30, 0, 1, 0, 0, -1, 1, 15]), (20, [2], [50, 2, 0, 15, 11, 0, 7, 4, 3, 2, 0, 15, 0, 1, 2, 0, 11]), (24, [0, 2], []), (101, [2, 8], [12]), (7, [6, 7], [5]), (2, [6, 4, 5], []), (9, [5, 2], [15]), (9, [4, 2], [11]), (20, [1, 2], [30, 0, 1, 0, 0, -1, 1, 15]), (20, [2], [50, 2, 0, 15, 11, 0, 7, 4, 3, 2, 0, 15, 0, 1, 2, 0, 11])], [], [], [(20, [2, 2], [30, 0, 1, 1, 15, -1, 1, 11]), (20, [2], [50, 3, 0, 12, 11, 15, 2, 21, 4, 7, 1, 3, 2, 0, 12, 0, 1, 0, 3, 2, 0, 11, 4, 3, 2, 0, 15, 0, 8, 3, 7, 1, 3, 2, 0, 12, 0, 0, 0, 7, 4, 3, 2, 0, 15, 0, 1, 2, 0, 11]), (20, [0, 0], [30, 0, 1, 1, 15, -1, 1, 11]), (20, [0], [50, 3, 0, 12, 11, 15, 2, 21, 4, 7, 1, 3, 2, 0, 12, 0, 1, 0, 3, 2, 0, 11, 4, 3, 2, 0, 15, 0, 8, 3, 7, 1, 3, 2, 0, 12, 0, 0, 0, 7, 4, 3, 2, 0, 15, 0, 1, 2, 0, 11]), (20, [1, 0], [30, 0, 1, 0, 0, -1, 1, 15])], [], [(6, 4, -2000, 0)])
theorem oo_Mo_next_38 {kA : Nat → ClassId} : or_ok PRD kA GG o_Mo_next_38 := by
  refine or_mk fun A ta ws vs hD hth hl => ?_
  intro t0 r0 t1 k1 t2 r2 t4 k4 t5 k5 t6 k6 t7 k7 t8 k8 d0 f0 f1 f2 ta1 w1 le1 s1 f4 f5 f6 f7 f8 f9
  replace f1 := shm_1402 f1
  replace f2 := shm_5 f2
  have s1 : (∀ b j, w_el ws b j = w_el w1 b j) ∧ ∀ b j, w_fd ws b j = if b = v_ad (n_v vs 2) ∧ j = 12 then n_v vs 8 else w_fd w1 b j := s1.2
  replace f5 := shm_14 f5
  replace f6 := shm_189 f6
  replace f7 := shm_117 f7
  replace f8 := shm_1396 f8
  have q2 : n_v vs 2 = n_v vs 0 := f2.symm
  simp only [q2] at f1
  rw [q2] at s1
  simp only [q2] at f6 f7 f8
  have g6 : v_iv (n_v vs 5) = w_fi w1 (n_v vs 0) 15 := congrArg v_iv f6
  have g7 : v_iv (n_v vs 4) = w_fi w1 (n_v vs 0) 11 := congrArg v_iv f7
  have fe_0_11_1 : w_fi ws (n_v vs 0) 11 = w_fi w1 (n_v vs 0) 11 := by show v_iv (w_fd _ _ _) = v_iv (w_fd _ _ _); rw [s1.2, if_neg (fun e => absurd e.2 (by decide))]
  have fe_0_15_1 : w_fi ws (n_v vs 0) 15 = w_fi w1 (n_v vs 0) 15 := by show v_iv (w_fd _ _ _) = v_iv (w_fd _ _ _); rw [s1.2, if_neg (fun e => absurd e.2 (by decide))]
  have kz_0_11 := fdq_273 hD hth r0
  have kz_0_12 := fdq_186 hD hth r0
  have kz_0_15 := fdq_274 hD hth r0
  have nf0 : fc_1 PRD (20, [2, 2], [30, 0, 1, 1, 15, -1, 1, 11]) ws (vs) := by
    refine ⟨nf_in hl rfl, sgq_1397 ?_⟩
    · show 1 * w_fi ws (n_v vs 2) 15 + ((-1) * w_fi ws (n_v vs 2) 11 + 0) ≤ 0
      rw [q2]
      exact vc_Mo_next_38_0 (v_iv (n_v vs 4)) (v_iv (n_v vs 5)) (v_iv (n_v vs 6)) (w_fi ws (n_v vs 0) 15) (w_fi ws (n_v vs 0) 11) (w_fi w1 (n_v vs 0) 15) (w_fi w1 (n_v vs 0) 11) k4 k5 k6 f1 f5 g6 g7 fe_0_11_1 fe_0_15_1 kz_0_11 kz_0_15
  have nf1 : fc_1 PRD (20, [2], [50, 3, 0, 12, 11, 15, 2, 21, 4, 7, 1, 3, 2, 0, 12, 0, 1, 0, 3, 2, 0, 11, 4, 3, 2, 0, 15, 0, 8, 3, 7, 1, 3, 2, 0, 12, 0, 0, 0, 7, 4, 3, 2, 0, 15, 0, 1, 2, 0, 11]) ws (vs) := by
    refine ⟨nf_in hl rfl, sgq_1398 ?_⟩
    · show ((w_fi ws (n_v vs 2) 12 = 1) → (w_fi ws (n_v vs 2) 11 ≤ (w_fi ws (n_v vs 2) 15 + 8))) ∧ ((w_fi ws (n_v vs 2) 12 = 0) ∨ ((w_fi ws (n_v vs 2) 15 + 1) ≤ w_fi ws (n_v vs 2) 11))
      rw [q2]
      exact vc_Mo_next_38_1 (v_iv (n_v vs 4)) (v_iv (n_v vs 5)) (v_iv (n_v vs 6)) (w_fi ws (n_v vs 0) 15) (w_fi ws (n_v vs 0) 11) (w_fi w1 (n_v vs 0) 15) (w_fi w1 (n_v vs 0) 11) (w_fi ws (n_v vs 0) 12) k4 k5 k6 f1 f5 g6 g7 fe_0_11_1 fe_0_15_1 kz_0_11 kz_0_12 kz_0_15
  have nf2 : fc_1 PRD (20, [0, 0], [30, 0, 1, 1, 15, -1, 1, 11]) ws (vs) := ⟨nf_in hl rfl, sgq_1397 (vc_Mo_next_38_2 (v_iv (n_v vs 4)) (v_iv (n_v vs 5)) (v_iv (n_v vs 6)) (w_fi ws (n_v vs 0) 15) (w_fi ws (n_v vs 0) 11) (w_fi w1 (n_v vs 0) 15) (w_fi w1 (n_v vs 0) 11) k4 k5 k6 f1 f5 g6 g7 fe_0_11_1 fe_0_15_1 kz_0_11 kz_0_15)⟩
  have nf3 : fc_1 PRD (20, [0], [50, 3, 0, 12, 11, 15, 2, 21, 4, 7, 1, 3, 2, 0, 12, 0, 1, 0, 3, 2, 0, 11, 4, 3, 2, 0, 15, 0, 8, 3, 7, 1, 3, 2, 0, 12, 0, 0, 0, 7, 4, 3, 2, 0, 15, 0, 1, 2, 0, 11]) ws (vs) := ⟨nf_in hl rfl, sgq_1398 (vc_Mo_next_38_3 (v_iv (n_v vs 4)) (v_iv (n_v vs 5)) (v_iv (n_v vs 6)) (w_fi ws (n_v vs 0) 15) (w_fi ws (n_v vs 0) 11) (w_fi w1 (n_v vs 0) 15) (w_fi w1 (n_v vs 0) 11) (w_fi ws (n_v vs 0) 12) k4 k5 k6 f1 f5 g6 g7 fe_0_11_1 fe_0_15_1 kz_0_11 kz_0_12 kz_0_15)⟩
  have nf4 : fc_1 PRD (20, [1, 0], [30, 0, 1, 0, 0, -1, 1, 15]) ws (vs) := ⟨nf_in hl rfl, sgq_1396 (vc_Mo_next_38_4 (v_iv (n_v vs 1)) (w_fi ws (n_v vs 0) 15) (w_fi ws (n_v vs 0) 11) (w_fi w1 (n_v vs 0) 15) (w_fi w1 (n_v vs 0) 11) k1 f8 fe_0_11_1 fe_0_15_1 kz_0_11 kz_0_15)⟩
  refine ⟨(fun _ h => (by cases h)), [], trivial, ?_, (fun _ h => (by cases h))⟩
  rw [List.append_nil]
  exact List.forall_mem_cons.mpr ⟨⟨show (20 : Nat) < 100 from by decide, nf0⟩, List.forall_mem_cons.mpr ⟨⟨show (20 : Nat) < 100 from by decide, nf1⟩, List.forall_mem_cons.mpr ⟨⟨show (20 : Nat) < 100 from by decide, nf2⟩, List.forall_mem_cons.mpr ⟨⟨show (20 : Nat) < 100 from by decide, nf3⟩, List.forall_mem_cons.mpr ⟨⟨show (20 : Nat) < 100 from by decide, nf4⟩, (fun _ h => (by cases h))⟩⟩⟩⟩⟩
set_option maxHeartbeats 4000000 in
theorem vc_Mo_next_39_0 (x5 : Int) (x6 : Int) (tape_0 : Int → Int) (limit_0 : Int) (pos_0 : Int) (from_0 : Int) (k5 : 0 ≤ x5 ∧ x5 ≤ 2000) (k6 : (-1) ≤ x6 ∧ x6 ≤ (-1)) (f0 : ((x5 + 1) ≤ limit_0) → (x6 = (tape_0 (x5) % 256))) (f1 : (limit_0 ≤ x5) → (x6 = (-1))) (g2 : x5 = pos_0) (f4 : (from_0 ≤ pos_0) ∧ (((from_0 + 1) ≤ pos_0) ∨ ((pos_0 = from_0) ∧ (((from_0 + 1) ≤ limit_0) ∧ ((48 ≤ (tape_0 (from_0) % 256)) ∧ ((tape_0 (from_0) % 256) ≤ 57)))))) (kz_0_10 : 0 ≤ limit_0 ∧ limit_0 ≤ 2000) (kz_0_11 : 0 ≤ pos_0 ∧ pos_0 ≤ 2000) (kz_0_15 : 0 ≤ from_0 ∧ from_0 ≤ 2000) : (from_0 + 1) ≤ pos_0 := by
  first | assumption | omega | grind
def o_Mo_next_39 : or_T := (252, 8, [(0, (2, 0, 0, [165])), (1, (0, 0, 2000, [])), (2, (2, 0, 0, [165])), (5, (0, 0, 2000, [])), (6, (0, -1, -1, []))], [(20, [5, 2, 6], [50, 1, 1, 1010, 1001, 4, 11, 0, 6, 4, 2, 1, 0, 0, 1, 2, 1, 10, 1, 2, 1, 2, 9, 5, 3, 1, 1, 1, 0, 0, 256]), (20, [2, 5, 6], [50, 1, 0, 10, 4, 7, 0, 3, 2, 0, 10, 1, 1, 1, 2, 1, 2, 0, -1]), (9, [5, 2], [11]), (20, [1, 2], [30, 0, 1, 0, 0, -1, 1, 15]), (20, [2], [50, 3, 1, 15, 11, 10, 1, 2, 8, 0, 3, 2, 0, 15, 2, 0, 11, 3, 12, 0, 7, 4, 3, 2, 0, 15, 0, 1, 2, 0, 11, 2, 8, 1, 3, 2, 0, 11, 2, 0, 15, 2, 12, 0, 7, 4, 3, 2, 0, 15, 0, 1, 2, 0, 10, 2, 14, 0, 2, 0, 48, 9, 6, 3, 0, 1, 2, 0, 15, 0, 256, 0, 10, 9, 6, 3, 0, 1, 2, 0, 15, 0, 256, 0, 57]), (24, [0, 2], [])], [], [], [(20, [2], [50, 2, 0, 15, 11, 0, 7, 4, 3, 2, 0, 15, 0, 1, 2, 0, 11])], [], [])
theorem oo_Mo_next_39 {kA : Nat → ClassId} : or_ok PRD kA GG o_Mo_next_39 := by
  refine or_mk fun A ta ws vs hD hth hl => ?_
  intro t0 r0 t1 k1 t2 r2 t5 k5 t6 k6 f0 f1 f2 f3 f4 f5
  replace f0 := shm_535 f0
  replace f1 := shm_536 f1
  replace f2 := shm_117 f2
  replace f4 := shm_1400 f4
  replace f5 := shm_5 f5
  have q2 : n_v vs 2 = n_v vs 0 := f5.symm
  simp only [q2] at f0 f1 f2 f4
  have g2 : v_iv (n_v vs 5) = w_fi ws (n_v vs 0) 11 := congrArg v_iv f2
  have kz_0_10 := fdq_50 hD hth r0
  have kz_0_11 := fdq_273 hD hth r0
  have kz_0_15 := fdq_274 hD hth r0
  have nf0 : fc_1 PRD (20, [2], [50, 2, 0, 15, 11, 0, 7, 4, 3, 2, 0, 15, 0, 1, 2, 0, 11]) ws (vs) := by
    refine ⟨nf_in hl rfl, sgq_1402 ?_⟩
    · show (w_fi ws (n_v vs 2) 15 + 1) ≤ w_fi ws (n_v vs 2) 11
      rw [q2]
      exact vc_Mo_next_39_0 (v_iv (n_v vs 5)) (v_iv (n_v vs 6)) (w_ei ws (w_ar ws (n_v vs 0) 1)) (w_fi ws (n_v vs 0) 10) (w_fi ws (n_v vs 0) 11) (w_fi ws (n_v vs 0) 15) k5 k6 f0 f1 g2 f4 kz_0_10 kz_0_11 kz_0_15
  refine ⟨(fun _ h => (by cases h)), [], trivial, ?_, (fun _ h => (by cases h))⟩
  rw [List.append_nil]
  exact List.forall_mem_cons.mpr ⟨⟨show (20 : Nat) < 100 from by decide, nf0⟩, (fun _ h => (by cases h))⟩
set_option maxHeartbeats 4000000 in
theorem vc_Mo_next_40_0 (x5 : Int) (x6 : Int) (tape_0 : Int → Int) (limit_0 : Int) (pos_0 : Int) (from_0 : Int) (k5 : 0 ≤ x5 ∧ x5 ≤ 1999) (k6 : 0 ≤ x6 ∧ x6 ≤ 47) (f0 : ((x5 + 1) ≤ limit_0) → (x6 = (tape_0 (x5) % 256))) (g2 : x5 = pos_0) (f4 : (from_0 ≤ pos_0) ∧ (((from_0 + 1) ≤ pos_0) ∨ ((pos_0 = from_0) ∧ (((from_0 + 1) ≤ limit_0) ∧ ((48 ≤ (tape_0 (from_0) % 256)) ∧ ((tape_0 (from_0) % 256) ≤ 57)))))) (kz_0_10 : 0 ≤ limit_0 ∧ limit_0 ≤ 2000) (kz_0_11 : 0 ≤ pos_0 ∧ pos_0 ≤ 2000) (kz_0_15 : 0 ≤ from_0 ∧ from_0 ≤ 2000) : (from_0 + 1) ≤ pos_0 := by
  first | assumption | omega | grind
def o_Mo_next_40 : or_T := (252, 8, [(0, (2, 0, 0, [165])), (1, (0, 0, 2000, [])), (2, (2, 0, 0, [165])), (5, (0, 0, 1999, [])), (6, (0, 0, 47, []))], [(20, [5, 2, 6], [50, 1, 1, 1010, 1001, 4, 11, 0, 6, 4, 2, 1, 0, 0, 1, 2, 1, 10, 1, 2, 1, 2, 9, 5, 3, 1, 1, 1, 0, 0, 256]), (20, [2, 5, 6], [50, 1, 0, 10, 4, 7, 0, 3, 2, 0, 10, 1, 1, 1, 2, 1, 2, 0, -1]), (9, [5, 2], [11]), (20, [1, 2], [30, 0, 1, 0, 0, -1, 1, 15]), (20, [2], [50, 3, 1, 15, 11, 10, 1, 2, 8, 0, 3, 2, 0, 15, 2, 0, 11, 3, 12, 0, 7, 4, 3, 2, 0, 15, 0, 1, 2, 0, 11, 2, 8, 1, 3, 2, 0, 11, 2, 0, 15, 2, 12, 0, 7, 4, 3, 2, 0, 15, 0, 1, 2, 0, 10, 2, 14, 0, 2, 0, 48, 9, 6, 3, 0, 1, 2, 0, 15, 0, 256, 0, 10, 9, 6, 3, 0, 1, 2, 0, 15, 0, 256, 0, 57]), (24, [0, 2], [])], [], [], [(20, [2], [50, 2, 0, 15, 11, 0, 7, 4, 3, 2, 0, 15, 0, 1, 2, 0, 11])], [], [])
theorem oo_Mo_next_40 {kA : Nat → ClassId} : or_ok PRD kA GG o_Mo_next_40 := by
  refine or_mk fun A ta ws vs hD hth hl => ?_
  intro t0 r0 t1 k1 t2 r2 t5 k5 t6 k6 f0 f1 f2 f3 f4 f5
  replace f0 := shm_535 f0
  replace f2 := shm_117 f2
  replace f4 := shm_1400 f4
  replace f5 := shm_5 f5
  have q2 : n_v vs 2 = n_v vs 0 := f5.symm
  simp only [q2] at f0 f2 f4
  have g2 : v_iv (n_v vs 5) = w_fi ws (n_v vs 0) 11 := congrArg v_iv f2
  have kz_0_10 := fdq_50 hD hth r0
  have kz_0_11 := fdq_273 hD hth r0
  have kz_0_15 := fdq_274 hD hth r0
  have nf0 : fc_1 PRD (20, [2], [50, 2, 0, 15, 11, 0, 7, 4, 3, 2, 0, 15, 0, 1, 2, 0, 11]) ws (vs) := by
    refine ⟨nf_in hl rfl, sgq_1402 ?_⟩
    · show (w_fi ws (n_v vs 2) 15 + 1) ≤ w_fi ws (n_v vs 2) 11
      rw [q2]
      exact vc_Mo_next_40_0 (v_iv (n_v vs 5)) (v_iv (n_v vs 6)) (w_ei ws (w_ar ws (n_v vs 0) 1)) (w_fi ws (n_v vs 0) 10) (w_fi ws (n_v vs 0) 11) (w_fi ws (n_v vs 0) 15) k5 k6 f0 g2 f4 kz_0_10 kz_0_11 kz_0_15
  refine ⟨(fun _ h => (by cases h)), [], trivial, ?_, (fun _ h => (by cases h))⟩
  rw [List.append_nil]
  exact List.forall_mem_cons.mpr ⟨⟨show (20 : Nat) < 100 from by decide, nf0⟩, (fun _ h => (by cases h))⟩
set_option maxHeartbeats 4000000 in
theorem vc_Mo_next_41_0 (x5 : Int) (x6 : Int) (tape_0 : Int → Int) (limit_0 : Int) (pos_0 : Int) (from_0 : Int) (k5 : 0 ≤ x5 ∧ x5 ≤ 1999) (k6 : 58 ≤ x6 ∧ x6 ≤ 255) (f0 : ((x5 + 1) ≤ limit_0) → (x6 = (tape_0 (x5) % 256))) (g2 : x5 = pos_0) (f4 : (from_0 ≤ pos_0) ∧ (((from_0 + 1) ≤ pos_0) ∨ ((pos_0 = from_0) ∧ (((from_0 + 1) ≤ limit_0) ∧ ((48 ≤ (tape_0 (from_0) % 256)) ∧ ((tape_0 (from_0) % 256) ≤ 57)))))) (kz_0_10 : 0 ≤ limit_0 ∧ limit_0 ≤ 2000) (kz_0_11 : 0 ≤ pos_0 ∧ pos_0 ≤ 2000) (kz_0_15 : 0 ≤ from_0 ∧ from_0 ≤ 2000) : (from_0 + 1) ≤ pos_0 := by
  first | assumption | omega | grind
def o_Mo_next_41 : or_T := (252, 8, [(0, (2, 0, 0, [165])), (1, (0, 0, 2000, [])), (2, (2, 0, 0, [165])), (5, (0, 0, 1999, [])), (6, (0, 58, 255, []))], [(20, [5, 2, 6], [50, 1, 1, 1010, 1001, 4, 11, 0, 6, 4, 2, 1, 0, 0, 1, 2, 1, 10, 1, 2, 1, 2, 9, 5, 3, 1, 1, 1, 0, 0, 256]), (20, [2, 5, 6], [50, 1, 0, 10, 4, 7, 0, 3, 2, 0, 10, 1, 1, 1, 2, 1, 2, 0, -1]), (9, [5, 2], [11]), (20, [1, 2], [30, 0, 1, 0, 0, -1, 1, 15]), (20, [2], [50, 3, 1, 15, 11, 10, 1, 2, 8, 0, 3, 2, 0, 15, 2, 0, 11, 3, 12, 0, 7, 4, 3, 2, 0, 15, 0, 1, 2, 0, 11, 2, 8, 1, 3, 2, 0, 11, 2, 0, 15, 2, 12, 0, 7, 4, 3, 2, 0, 15, 0, 1, 2, 0, 10, 2, 14, 0, 2, 0, 48, 9, 6, 3, 0, 1, 2, 0, 15, 0, 256, 0, 10, 9, 6, 3, 0, 1, 2, 0, 15, 0, 256, 0, 57]), (24, [0, 2], [])], [], [], [(20, [2], [50, 2, 0, 15, 11, 0, 7, 4, 3, 2, 0, 15, 0, 1, 2, 0, 11])], [], [])
theorem oo_Mo_next_41 {kA : Nat → ClassId} : or_ok PRD kA GG o_Mo_next_41 := by
  refine or_mk fun A ta ws vs hD hth hl => ?_
  intro t0 r0 t1 k1 t2 r2 t5 k5 t6 k6 f0 f1 f2 f3 f4 f5
  replace f0 := shm_535 f0
  replace f2 := shm_117 f2
  replace f4 := shm_1400 f4
  replace f5 := shm_5 f5
  have q2 : n_v vs 2 = n_v vs 0 := f5.symm
  simp only [q2] at f0 f2 f4
  have g2 : v_iv (n_v vs 5) = w_fi ws (n_v vs 0) 11 := congrArg v_iv f2
  have kz_0_10 := fdq_50 hD hth r0
  have kz_0_11 := fdq_273 hD hth r0
  have kz_0_15 := fdq_274 hD hth r0
  have nf0 : fc_1 PRD (20, [2], [50, 2, 0, 15, 11, 0, 7, 4, 3, 2, 0, 15, 0, 1, 2, 0, 11]) ws (vs) := by
    refine ⟨nf_in hl rfl, sgq_1402 ?_⟩
    · show (w_fi ws (n_v vs 2) 15 + 1) ≤ w_fi ws (n_v vs 2) 11
      rw [q2]
      exact vc_Mo_next_41_0 (v_iv (n_v vs 5)) (v_iv (n_v vs 6)) (w_ei ws (w_ar ws (n_v vs 0) 1)) (w_fi ws (n_v vs 0) 10) (w_fi ws (n_v vs 0) 11) (w_fi ws (n_v vs 0) 15) k5 k6 f0 g2 f4 kz_0_10 kz_0_11 kz_0_15
  refine ⟨(fun _ h => (by cases h)), [], trivial, ?_, (fun _ h => (by cases h))⟩
  rw [List.append_nil]
  exact List.forall_mem_cons.mpr ⟨⟨show (20 : Nat) < 100 from by decide, nf0⟩, (fun _ h => (by cases h))⟩
set_option maxHeartbeats 4000000 in
theorem vc_Mo_next_42_0 (x5 : Int) (x16 : Int) (tape_0 : Int → Int) (limit_0 : Int) (from_0 : Int) (pos_1 : Int) (tape_1 : Int → Int) (limit_1 : Int) (from_1 : Int) (tape_2 : Int → Int) (limit_2 : Int) (from_2 : Int) (pos_2 : Int) (pos_0 : Int) (k5 : 0 ≤ x5 ∧ x5 ≤ 1999) (k16 : 1 ≤ x16 ∧ x16 ≤ 2000) (d0 : x5 + 1 ≤ x16 ∧ x16 ≤ x5 + 1) (g8 : x5 = pos_1) (f14 : (from_1 ≤ pos_1) ∧ (((from_1 + 1) ≤ pos_1) ∨ ((pos_1 = from_1) ∧ (((from_1 + 1) ≤ limit_1) ∧ ((48 ≤ (tape_1 (from_1) % 256)) ∧ ((tape_1 (from_1) % 256) ≤ 57)))))) (fe_0_10_1 : limit_0 = limit_1) (fe_0_11_1 : pos_0 = x16) (fe_0_15_1 : from_0 = from_1) (fe_0_10_2 : limit_1 = limit_2) (fe_0_11_2 : pos_1 = pos_2) (fe_0_15_2 : from_1 = from_2) (hE_0_1_1 : ∀ j : Int, tape_0 j = tape_1 j) (hE_0_1_2 : ∀ j : Int, tape_1 j = tape_2 j) (kz_0_10 : 0 ≤ limit_0 ∧ limit_0 ≤ 2000) (kz_0_11 : 0 ≤ pos_0 ∧ pos_0 ≤ 2000) (kz_0_15 : 0 ≤ from_0 ∧ from_0 ≤ 2000) : (from_0 ≤ pos_0) ∧ (((from_0 + 1) ≤ pos_0) ∨ ((pos_0 = from_0) ∧ (((from_0 + 1) ≤ limit_0) ∧ ((48 ≤ (tape_0 (from_0) % 256)) ∧ ((tape_0 (from_0) % 256) ≤ 57))))) := by
  subst fe_0_10_1
  subst fe_0_15_1
  subst fe_0_10_2
  subst fe_0_11_2
  subst fe_0_15_2
  have e_hE_0_1_1 := funext hE_0_1_1; subst e_hE_0_1_1
  have e_hE_0_1_2 := funext hE_0_1_2; subst e_hE_0_1_2
  first | assumption | omega | grind
def o_Mo_next_42 : or_T := (185, 17, [(0, (2, 0, 0, [165])), (1, (0, 0, 2000, [])), (2, (2, 0, 0, [165])), (5, (0, 0, 1999, [])), (6, (0, 48, 57, [])), (11, (0, -1, -1, [])), (15, (0, 1, 1, [])), (16, (0, 1, 2000, []))], [(20, [5, 2, 11], [50, 1, 1, 1010, 1001, 4, 11, 0, 6, 4, 2, 1, 0, 0, 1, 2, 1, 10, 1, 2, 1, 2, 9, 5, 3, 1, 1, 1, 0, 0, 256]), (20, [2, 5, 11], [50, 1, 0, 10, 4, 7, 0, 3, 2, 0, 10, 1, 1, 1, 2, 1, 2, 0, -1]), (20, [5, 2, 6], [50, 1, 1, 1010, 1001, 4, 11, 0, 6, 4, 2, 1, 0, 0, 1, 2, 1, 10, 1, 2, 1, 2, 9, 5, 3, 1, 1, 1, 0, 0, 256]), (20, [2, 5, 6], [50, 1, 0, 10, 4, 7, 0, 3, 2, 0, 10, 1, 1, 1, 2, 1, 2, 0, -1]), (20, [1, 2], [30, 0, 1, 0, 0, -1, 1, 15]), (24, [0, 2], []), (101, [2, 16], [11]), (1, [16, 5, 15], []), (9, [5, 2], [11]), (20, [5, 2, 11], [50, 1, 1, 1010, 1001, 4, 11, 0, 6, 4, 2, 1, 0, 0, 1, 2, 1, 10, 1, 2, 1, 2, 9, 5, 3, 1, 1, 1, 0, 0, 256]), (20, [2, 5, 11], [50, 1, 0, 10, 4, 7, 0, 3, 2, 0, 10, 1, 1, 1, 2, 1, 2, 0, -1]), (20, [5, 2, 6], [50, 1, 1, 1010, 1001, 4, 11, 0, 6, 4, 2, 1, 0, 0, 1, 2, 1, 10, 1, 2, 1, 2, 9, 5, 3, 1, 1, 1, 0, 0, 256]), (20, [2, 5, 6], [50, 1, 0, 10, 4, 7, 0, 3, 2, 0, 10, 1, 1, 1, 2, 1, 2, 0, -1]), (20, [1, 2], [30, 0, 1, 0, 0, -1, 1, 15]), (20, [2], [50, 3, 1, 15, 11, 10, 1, 2, 8, 0, 3, 2, 0, 15, 2, 0, 11, 3, 12, 0, 7, 4, 3, 2, 0, 15, 0, 1, 2, 0, 11, 2, 8, 1, 3, 2, 0, 11, 2, 0, 15, 2, 12, 0, 7, 4, 3, 2, 0, 15, 0, 1, 2, 0, 10, 2, 14, 0, 2, 0, 48, 9, 6, 3, 0, 1, 2, 0, 15, 0, 256, 0, 10, 9, 6, 3, 0, 1, 2, 0, 15, 0, 256, 0, 57]), (101, [2, 14], [14]), (20, [5, 2, 11], [50, 1, 1, 1010, 1001, 4, 11, 0, 6, 4, 2, 1, 0, 0, 1, 2, 1, 10, 1, 2, 1, 2, 9, 5, 3, 1, 1, 1, 0, 0, 256]), (20, [2, 5, 11], [50, 1, 0, 10, 4, 7, 0, 3, 2, 0, 10, 1, 1, 1, 2, 1, 2, 0, -1]), (20, [5, 2, 6], [50, 1, 1, 1010, 1001, 4, 11, 0, 6, 4, 2, 1, 0, 0, 1, 2, 1, 10, 1, 2, 1, 2, 9, 5, 3, 1, 1, 1, 0, 0, 256]), (20, [2, 5, 6], [50, 1, 0, 10, 4, 7, 0, 3, 2, 0, 10, 1, 1, 1, 2, 1, 2, 0, -1]), (20, [1, 2], [30, 0, 1, 0, 0, -1, 1, 15]), (20, [2], [50, 3, 1, 15, 11, 10, 1, 2, 8, 0, 3, 2, 0, 15, 2, 0, 11, 3, 12, 0, 7, 4, 3, 2, 0, 15, 0, 1, 2, 0, 11, 2, 8, 1, 3, 2, 0, 11, 2, 0, 15, 2, 12, 0, 7, 4, 3, 2, 0, 15, 0, 1, 2, 0, 10, 2, 14, 0, 2, 0, 48, 9, 6, 3, 0, 1, 2, 0, 15, 0, 256, 0, 10, 9, 6, 3, 0, 1, 2, 0, 15, 0, 256, 0, 57])], [], [], [(20, [2], [50, 3, 1, 15, 11, 10, 1, 2, 8, 0, 3, 2, 0, 15, 2, 0, 11, 3, 12, 0, 7, 4, 3, 2, 0, 15, 0, 1, 2, 0, 11, 2, 8, 1, 3, 2, 0, 11, 2, 0, 15, 2, 12, 0, 7, 4, 3, 2, 0, 15, 0, 1, 2, 0, 10, 2, 14, 0, 2, 0, 48, 9, 6, 3, 0, 1, 2, 0, 15, 0, 256, 0, 10, 9, 6, 3, 0, 1, 2, 0, 15, 0, 256, 0, 57])], [], [(16, 5, 1, 1)])
theorem oo_Mo_next_42 {kA : Nat → ClassId} : or_ok PRD kA GG o_Mo_next_42 := by
  refine or_mk fun A ta ws vs hD hth hl => ?_
  intro t0 r0 t1 k1 t2 r2 t5 k5 t6 k6 t11 k11 t15 k15 t16 k16 d0 f0 f1 f2 f3 f4 f5 ta1 w1 le1 s1 f7 f8 f9 f10 f11 f12 f13 f14 ta2 w2 le2 s2 f16 f17 f18 f19 f20 f21
  replace f5 := shm_5 f5
  have s1 : (∀ b j, w_el ws b j = w_el w1 b j) ∧ ∀ b j, w_fd ws b j = if b = v_ad (n_v vs 2) ∧ j = 11 then n_v vs 16 else w_fd w1 b j := s1.2
  replace f8 := shm_117 f8
  replace f14 := shm_1400 f14
  have s2 : (∀ b j, w_el w1 b j = w_el w2 b j) ∧ ∀ b j, w_fd w1 b j = if b = v_ad (n_v vs 2) ∧ j = 14 then n_v vs 14 else w_fd w2 b j := s2.2
  have q2 : n_v vs 2 = n_v vs 0 := f5.symm
  rw [q2] at s1
  simp only [q2] at f8 f14
  rw [q2] at s2
  have ar_0_1_1 : w_ar w1 (n_v vs 0) 1 = w_ar ws (n_v vs 0) 1 := by show v_ad (w_fd w1 _ _) = v_ad (w_fd ws _ _); rw [s1.2, if_neg (fun e => absurd e.2 (by decide))]
  have ar_0_1_2 : w_ar w2 (n_v vs 0) 1 = w_ar ws (n_v vs 0) 1 := by rw [← ar_0_1_1]; show v_ad (w_fd w2 _ _) = v_ad (w_fd w1 _ _); rw [s2.2, if_neg (fun e => absurd e.2 (by decide))]
  have g8 : v_iv (n_v vs 5) = w_fi w1 (n_v vs 0) 11 := congrArg v_iv f8
  simp only [ar_0_1_1, ar_0_1_2] at f14
  have fe_0_10_1 : w_fi ws (n_v vs 0) 10 = w_fi w1 (n_v vs 0) 10 := by show v_iv (w_fd _ _ _) = v_iv (w_fd _ _ _); rw [s1.2, if_neg (fun e => absurd e.2 (by decide))]
  have fe_0_11_1 : w_fi ws (n_v vs 0) 11 = v_iv (n_v vs 16) := by show v_iv (w_fd _ _ _) = _; rw [s1.2, if_pos ⟨rfl, rfl⟩]
  have fe_0_15_1 : w_fi ws (n_v vs 0) 15 = w_fi w1 (n_v vs 0) 15 := by show v_iv (w_fd _ _ _) = v_iv (w_fd _ _ _); rw [s1.2, if_neg (fun e => absurd e.2 (by decide))]
  have fe_0_10_2 : w_fi w1 (n_v vs 0) 10 = w_fi w2 (n_v vs 0) 10 := by show v_iv (w_fd _ _ _) = v_iv (w_fd _ _ _); rw [s2.2, if_neg (fun e => absurd e.2 (by decide))]
  have fe_0_11_2 : w_fi w1 (n_v vs 0) 11 = w_fi w2 (n_v vs 0) 11 := by show v_iv (w_fd _ _ _) = v_iv (w_fd _ _ _); rw [s2.2, if_neg (fun e => absurd e.2 (by decide))]
  have fe_0_15_2 : w_fi w1 (n_v vs 0) 15 = w_fi w2 (n_v vs 0) 15 := by show v_iv (w_fd _ _ _) = v_iv (w_fd _ _ _); rw [s2.2, if_neg (fun e => absurd e.2 (by decide))]
  have hE_0_1_1 : ∀ j : Int, w_ei ws (w_ar ws (n_v vs 0) 1) j = w_ei w1 (w_ar ws (n_v vs 0) 1) j := fun j => s1.1 _ _
  have hE_0_1_2 : ∀ j : Int, w_ei w1 (w_ar ws (n_v vs 0) 1) j = w_ei w2 (w_ar ws (n_v vs 0) 1) j := fun j => s2.1 _ _
  have kz_0_10 := fdq_50 hD hth r0
  have kz_0_11 := fdq_273 hD hth r0
  have kz_0_15 := fdq_274 hD hth r0
  have nf0 : fc_1 PRD (20, [2], [50, 3, 1, 15, 11, 10, 1, 2, 8, 0, 3, 2, 0, 15, 2, 0, 11, 3, 12, 0, 7, 4, 3, 2, 0, 15, 0, 1, 2, 0, 11, 2, 8, 1, 3, 2, 0, 11, 2, 0, 15, 2, 12, 0, 7, 4, 3, 2, 0, 15, 0, 1, 2, 0, 10, 2, 14, 0, 2, 0, 48, 9, 6, 3, 0, 1, 2, 0, 15, 0, 256, 0, 10, 9, 6, 3, 0, 1, 2, 0, 15, 0, 256, 0, 57]) ws (vs) := by
    refine ⟨nf_in hl rfl, sgq_1400 ?_⟩
    · show (w_fi ws (n_v vs 2) 15 ≤ w_fi ws (n_v vs 2) 11) ∧ (((w_fi ws (n_v vs 2) 15 + 1) ≤ w_fi ws (n_v vs 2) 11) ∨ ((w_fi ws (n_v vs 2) 11 = w_fi ws (n_v vs 2) 15) ∧ (((w_fi ws (n_v vs 2) 15 + 1) ≤ w_fi ws (n_v vs 2) 10) ∧ ((48 ≤ (w_ei ws (w_ar ws (n_v vs 2) 1) (w_fi ws (n_v vs 2) 15) % 256)) ∧ ((w_ei ws (w_ar ws (n_v vs 2) 1) (w_fi ws (n_v vs 2) 15) % 256) ≤ 57)))))
      rw [q2]
      exact vc_Mo_next_42_0 (v_iv (n_v vs 5)) (v_iv (n_v vs 16)) (w_ei ws (w_ar ws (n_v vs 0) 1)) (w_fi ws (n_v vs 0) 10) (w_fi ws (n_v vs 0) 15) (w_fi w1 (n_v vs 0) 11) (w_ei w1 (w_ar ws (n_v vs 0) 1)) (w_fi w1 (n_v vs 0) 10) (w_fi w1 (n_v vs 0) 15) (w_ei w2 (w_ar ws (n_v vs 0) 1)) (w_fi w2 (n_v vs 0) 10) (w_fi w2 (n_v vs 0) 15) (w_fi w2 (n_v vs 0) 11) (w_fi ws (n_v vs 0) 11) k5 k16 d0 g8 f14 fe_0_10_1 fe_0_11_1 fe_0_15_1 fe_0_10_2 fe_0_11_2 fe_0_15_2 hE_0_1_1 hE_0_1_2 kz_0_10 kz_0_11 kz_0_15
  refine ⟨(fun _ h => (by cases h)), [], trivial, ?_, (fun _ h => (by cases h))⟩
  rw [List.append_nil]
  exact List.forall_mem_cons.mpr ⟨⟨show (20 : Nat) < 100 from by decide, nf0⟩, (fun _ h => (by cases h))⟩
set_option maxHeartbeats 4000000 in
theorem vc_Mo_next_43_0 (x5 : Int) (x16 : Int) (tape_0 : Int → Int) (limit_0 : Int) (from_0 : Int) (pos_1 : Int) (tape_1 : Int → Int) (limit_1 : Int) (from_1 : Int) (tape_2 : Int → Int) (limit_2 : Int) (from_2 : Int) (pos_2 : Int) (pos_0 : Int) (k5 : 0 ≤ x5 ∧ x5 ≤ 1999) (k16 : 1 ≤ x16 ∧ x16 ≤ 2000) (d0 : x5 + 1 ≤ x16 ∧ x16 ≤ x5 + 1) (g8 : x5 = pos_1) (f14 : (from_1 ≤ pos_1) ∧ (((from_1 + 1) ≤ pos_1) ∨ ((pos_1 = from_1) ∧ (((from_1 + 1) ≤ limit_1) ∧ ((48 ≤ (tape_1 (from_1) % 256)) ∧ ((tape_1 (from_1) % 256) ≤ 57)))))) (fe_0_10_1 : limit_0 = limit_1) (fe_0_11_1 : pos_0 = x16) (fe_0_15_1 : from_0 = from_1) (fe_0_10_2 : limit_1 = limit_2) (fe_0_11_2 : pos_1 = pos_2) (fe_0_15_2 : from_1 = from_2) (hE_0_1_1 : ∀ j : Int, tape_0 j = tape_1 j) (hE_0_1_2 : ∀ j : Int, tape_1 j = tape_2 j) (kz_0_10 : 0 ≤ limit_0 ∧ limit_0 ≤ 2000) (kz_0_11 : 0 ≤ pos_0 ∧ pos_0 ≤ 2000) (kz_0_15 : 0 ≤ from_0 ∧ from_0 ≤ 2000) : (from_0 ≤ pos_0) ∧ (((from_0 + 1) ≤ pos_0) ∨ ((pos_0 = from_0) ∧ (((from_0 + 1) ≤ limit_0) ∧ ((48 ≤ (tape_0 (from_0) % 256)) ∧ ((tape_0 (from_0) % 256) ≤ 57))))) := by
  subst fe_0_10_1
  subst fe_0_15_1
  subst fe_0_10_2
  subst fe_0_11_2
  subst fe_0_15_2
  have e_hE_0_1_1 := funext hE_0_1_1; subst e_hE_0_1_1
  have e_hE_0_1_2 := funext hE_0_1_2; subst e_hE_0_1_2
  first | assumption | omega | grind
def o_Mo_next_43 : or_T := (185, 17, [(0, (2, 0, 0, [165])), (1, (0, 0, 2000, [])), (2, (2, 0, 0, [165])), (5, (0, 0, 1999, [])), (6, (0, 48, 57, [])), (11, (0, 0, 255, [])), (15, (0, 1, 1, [])), (16, (0, 1, 2000, []))], [(20, [5, 2, 11], [50, 1, 1, 1010, 1001, 4, 11, 0, 6, 4, 2, 1, 0, 0, 1, 2, 1, 10, 1, 2, 1, 2, 9, 5, 3, 1, 1, 1, 0, 0, 256]), (20, [2, 5, 11], [50, 1, 0, 10, 4, 7, 0, 3, 2, 0, 10, 1, 1, 1, 2, 1, 2, 0, -1]), (20, [5, 2, 6], [50, 1, 1, 1010, 1001, 4, 11, 0, 6, 4, 2, 1, 0, 0, 1, 2, 1, 10, 1, 2, 1, 2, 9, 5, 3, 1, 1, 1, 0, 0, 256]), (20, [2, 5, 6], [50, 1, 0, 10, 4, 7, 0, 3, 2, 0, 10, 1, 1, 1, 2, 1, 2, 0, -1]), (20, [1, 2], [30, 0, 1, 0, 0, -1, 1, 15]), (24, [0, 2], []), (101, [2, 16], [11]), (1, [16, 5, 15], []), (9, [5, 2], [11]), (20, [5, 2, 11], [50, 1, 1, 1010, 1001, 4, 11, 0, 6, 4, 2, 1, 0, 0, 1, 2, 1, 10, 1, 2, 1, 2, 9, 5, 3, 1, 1, 1, 0, 0, 256]), (20, [2, 5, 11], [50, 1, 0, 10, 4, 7, 0, 3, 2, 0, 10, 1, 1, 1, 2, 1, 2, 0, -1]), (20, [5, 2, 6], [50, 1, 1, 1010, 1001, 4, 11, 0, 6, 4, 2, 1, 0, 0, 1, 2, 1, 10, 1, 2, 1, 2, 9, 5, 3, 1, 1, 1, 0, 0, 256]), (20, [2, 5, 6], [50, 1, 0, 10, 4, 7, 0, 3, 2, 0, 10, 1, 1, 1, 2, 1, 2, 0, -1]), (20, [1, 2], [30, 0, 1, 0, 0, -1, 1, 15]), (20, [2], [50, 3, 1, 15, 11, 10, 1, 2, 8, 0, 3, 2, 0, 15, 2, 0, 11, 3, 12, 0, 7, 4, 3, 2, 0, 15, 0, 1, 2, 0, 11, 2, 8, 1, 3, 2, 0, 11, 2, 0, 15, 2, 12, 0, 7, 4, 3, 2, 0, 15, 0, 1, 2, 0, 10, 2, 14, 0, 2, 0, 48, 9, 6, 3, 0, 1, 2, 0, 15, 0, 256, 0, 10, 9, 6, 3, 0, 1, 2, 0, 15, 0, 256, 0, 57]), (101, [2, 14], [14]), (20, [5, 2, 11], [50, 1, 1, 1010, 1001, 4, 11, 0, 6, 4, 2, 1, 0, 0, 1, 2, 1, 10, 1, 2, 1, 2, 9, 5, 3, 1, 1, 1, 0, 0, 256]), (20, [2, 5, 11], [50, 1, 0, 10, 4, 7, 0, 3, 2, 0, 10, 1, 1, 1, 2, 1, 2, 0, -1]), (20, [5, 2, 6], [50, 1, 1, 1010, 1001, 4, 11, 0, 6, 4, 2, 1, 0, 0, 1, 2, 1, 10, 1, 2, 1, 2, 9, 5, 3, 1, 1, 1, 0, 0, 256]), (20, [2, 5, 6], [50, 1, 0, 10, 4, 7, 0, 3, 2, 0, 10, 1, 1, 1, 2, 1, 2, 0, -1]), (20, [1, 2], [30, 0, 1, 0, 0, -1, 1, 15]), (20, [2], [50, 3, 1, 15, 11, 10, 1, 2, 8, 0, 3, 2, 0, 15, 2, 0, 11, 3, 12, 0, 7, 4, 3, 2, 0, 15, 0, 1, 2, 0, 11, 2, 8, 1, 3, 2, 0, 11, 2, 0, 15, 2, 12, 0, 7, 4, 3, 2, 0, 15, 0, 1, 2, 0, 10, 2, 14, 0, 2, 0, 48, 9, 6, 3, 0, 1, 2, 0, 15, 0, 256, 0, 10, 9, 6, 3, 0, 1, 2, 0, 15, 0, 256, 0, 57])], [], [], [(20, [2], [50, 3, 1, 15, 11, 10, 1, 2, 8, 0, 3, 2, 0, 15, 2, 0, 11, 3, 12, 0, 7, 4, 3, 2, 0, 15, 0, 1, 2, 0, 11, 2, 8, 1, 3, 2, 0, 11, 2, 0, 15, 2, 12, 0, 7, 4, 3, 2, 0, 15, 0, 1, 2, 0, 10, 2, 14, 0, 2, 0, 48, 9, 6, 3, 0, 1, 2, 0, 15, 0, 256, 0, 10, 9, 6, 3, 0, 1, 2, 0, 15, 0, 256, 0, 57])], [], [(16, 5, 1, 1)])
theorem oo_Mo_next_43 {kA : Nat → ClassId} : or_ok PRD kA GG o_Mo_next_43 := by
  refine or_mk fun A ta ws vs hD hth hl => ?_
  intro t0 r0 t1 k1 t2 r2 t5 k5 t6 k6 t11 k11 t15 k15 t16 k16 d0 f0 f1 f2 f3 f4 f5 ta1 w1 le1 s1 f7 f8 f9 f10 f11 f12 f13 f14 ta2 w2 le2 s2 f16 f17 f18 f19 f20 f21
  replace f5 := shm_5 f5
  have s1 : (∀ b j, w_el ws b j = w_el w1 b j) ∧ ∀ b j, w_fd ws b j = if b = v_ad (n_v vs 2) ∧ j = 11 then n_v vs 16 else w_fd w1 b j := s1.2
  replace f8 := shm_117 f8
  replace f14 := shm_1400 f14
  have s2 : (∀ b j, w_el w1 b j = w_el w2 b j) ∧ ∀ b j, w_fd w1 b j = if b = v_ad (n_v vs 2) ∧ j = 14 then n_v vs 14 else w_fd w2 b j := s2.2
  have q2 : n_v vs 2 = n_v vs 0 := f5.symm
  rw [q2] at s1
  simp only [q2] at f8 f14
  rw [q2] at s2
  have ar_0_1_1 : w_ar w1 (n_v vs 0) 1 = w_ar ws (n_v vs 0) 1 := by show v_ad (w_fd w1 _ _) = v_ad (w_fd ws _ _); rw [s1.2, if_neg (fun e => absurd e.2 (by decide))]
  have ar_0_1_2 : w_ar w2 (n_v vs 0) 1 = w_ar ws (n_v vs 0) 1 := by rw [← ar_0_1_1]; show v_ad (w_fd w2 _ _) = v_ad (w_fd w1 _ _); rw [s2.2, if_neg (fun e => absurd e.2 (by decide))]
  have g8 : v_iv (n_v vs 5) = w_fi w1 (n_v vs 0) 11 := congrArg v_iv f8
  simp only [ar_0_1_1, ar_0_1_2] at f14
  have fe_0_10_1 : w_fi ws (n_v vs 0) 10 = w_fi w1 (n_v vs 0) 10 := by show v_iv (w_fd _ _ _) = v_iv (w_fd _ _ _); rw [s1.2, if_neg (fun e => absurd e.2 (by decide))]
  have fe_0_11_1 : w_fi ws (n_v vs 0) 11 = v_iv (n_v vs 16) := by show v_iv (w_fd _ _ _) = _; rw [s1.2, if_pos ⟨rfl, rfl⟩]
  have fe_0_15_1 : w_fi ws (n_v vs 0) 15 = w_fi w1 (n_v vs 0) 15 := by show v_iv (w_fd _ _ _) = v_iv (w_fd _ _ _); rw [s1.2, if_neg (fun e => absurd e.2 (by decide))]
  have fe_0_10_2 : w_fi w1 (n_v vs 0) 10 = w_fi w2 (n_v vs 0) 10 := by show v_iv (w_fd _ _ _) = v_iv (w_fd _ _ _); rw [s2.2, if_neg (fun e => absurd e.2 (by decide))]
  have fe_0_11_2 : w_fi w1 (n_v vs 0) 11 = w_fi w2 (n_v vs 0) 11 := by show v_iv (w_fd _ _ _) = v_iv (w_fd _ _ _); rw [s2.2, if_neg (fun e => absurd e.2 (by decide))]
  have fe_0_15_2 : w_fi w1 (n_v vs 0) 15 = w_fi w2 (n_v vs 0) 15 := by show v_iv (w_fd _ _ _) = v_iv (w_fd _ _ _); rw [s2.2, if_neg (fun e => absurd e.2 (by decide))]
  have hE_0_1_1 : ∀ j : Int, w_ei ws (w_ar ws (n_v vs 0) 1) j = w_ei w1 (w_ar ws (n_v vs 0) 1) j := fun j => s1.1 _ _
  have hE_0_1_2 : ∀ j : Int, w_ei w1 (w_ar ws (n_v vs 0) 1) j = w_ei w2 (w_ar ws (n_v vs 0) 1) j := fun j => s2.1 _ _
  have kz_0_10 := fdq_50 hD hth r0
  have kz_0_11 := fdq_273 hD hth r0
  have kz_0_15 := fdq_274 hD hth r0
  have nf0 : fc_1 PRD (20, [2], [50, 3, 1, 15, 11, 10, 1, 2, 8, 0, 3, 2, 0, 15, 2, 0, 11, 3, 12, 0, 7, 4, 3, 2, 0, 15, 0, 1, 2, 0, 11, 2, 8, 1, 3, 2, 0, 11, 2, 0, 15, 2, 12, 0, 7, 4, 3, 2, 0, 15, 0, 1, 2, 0, 10, 2, 14, 0, 2, 0, 48, 9, 6, 3, 0, 1, 2, 0, 15, 0, 256, 0, 10, 9, 6, 3, 0, 1, 2, 0, 15, 0, 256, 0, 57]) ws (vs) := by
    refine ⟨nf_in hl rfl, sgq_1400 ?_⟩
    · show (w_fi ws (n_v vs 2) 15 ≤ w_fi ws (n_v vs 2) 11) ∧ (((w_fi ws (n_v vs 2) 15 + 1) ≤ w_fi ws (n_v vs 2) 11) ∨ ((w_fi ws (n_v vs 2) 11 = w_fi ws (n_v vs 2) 15) ∧ (((w_fi ws (n_v vs 2) 15 + 1) ≤ w_fi ws (n_v vs 2) 10) ∧ ((48 ≤ (w_ei ws (w_ar ws (n_v vs 2) 1) (w_fi ws (n_v vs 2) 15) % 256)) ∧ ((w_ei ws (w_ar ws (n_v vs 2) 1) (w_fi ws (n_v vs 2) 15) % 256) ≤ 57)))))
      rw [q2]
      exact vc_Mo_next_43_0 (v_iv (n_v vs 5)) (v_iv (n_v vs 16)) (w_ei ws (w_ar ws (n_v vs 0) 1)) (w_fi ws (n_v vs 0) 10) (w_fi ws (n_v vs 0) 15) (w_fi w1 (n_v vs 0) 11) (w_ei w1 (w_ar ws (n_v vs 0) 1)) (w_fi w1 (n_v vs 0) 10) (w_fi w1 (n_v vs 0) 15) (w_ei w2 (w_ar ws (n_v vs 0) 1)) (w_fi w2 (n_v vs 0) 10) (w_fi w2 (n_v vs 0) 15) (w_fi w2 (n_v vs 0) 11) (w_fi ws (n_v vs 0) 11) k5 k16 d0 g8 f14 fe_0_10_1 fe_0_11_1 fe_0_15_1 fe_0_10_2 fe_0_11_2 fe_0_15_2 hE_0_1_1 hE_0_1_2 kz_0_10 kz_0_11 kz_0_15
  refine ⟨(fun _ h => (by cases h)), [], trivial, ?_, (fun _ h => (by cases h))⟩
  rw [List.append_nil]
  exact List.forall_mem_cons.mpr ⟨⟨show (20 : Nat) < 100 from by decide, nf0⟩, (fun _ h => (by cases h))⟩
set_option maxHeartbeats 4000000 in
theorem vc_Mo_next_44_0 (x5 : Int) (x10 : Int) (tape_0 : Int → Int) (limit_0 : Int) (from_0 : Int) (pos_1 : Int) (tape_1 : Int → Int) (limit_1 : Int) (from_1 : Int) (tape_2 : Int → Int) (limit_2 : Int) (from_2 : Int) (pos_2 : Int) (pos_0 : Int) (k5 : 0 ≤ x5 ∧ x5 ≤ 1999) (k10 : 1 ≤ x10 ∧ x10 ≤ 2000) (d0 : x5 + 1 ≤ x10 ∧ x10 ≤ x5 + 1) (g6 : x5 = pos_1) (f10 : (from_1 ≤ pos_1) ∧ (((from_1 + 1) ≤ pos_1) ∨ ((pos_1 = from_1) ∧ (((from_1 + 1) ≤ limit_1) ∧ ((48 ≤ (tape_1 (from_1) % 256)) ∧ ((tape_1 (from_1) % 256) ≤ 57)))))) (fe_0_10_1 : limit_0 = limit_1) (fe_0_11_1 : pos_0 = x10) (fe_0_15_1 : from_0 = from_1) (fe_0_10_2 : limit_1 = limit_2) (fe_0_11_2 : pos_1 = pos_2) (fe_0_15_2 : from_1 = from_2) (hE_0_1_1 : ∀ j : Int, tape_0 j = tape_1 j) (hE_0_1_2 : ∀ j : Int, tape_1 j = tape_2 j) (kz_0_10 : 0 ≤ limit_0 ∧ limit_0 ≤ 2000) (kz_0_11 : 0 ≤ pos_0 ∧ pos_0 ≤ 2000) (kz_0_15 : 0 ≤ from_0 ∧ from_0 ≤ 2000) : (from_0 ≤ pos_0) ∧ (((from_0 + 1) ≤ pos_0) ∨ ((pos_0 = from_0) ∧ (((from_0 + 1) ≤ limit_0) ∧ ((48 ≤ (tape_0 (from_0) % 256)) ∧ ((tape_0 (from_0) % 256) ≤ 57))))) := by
  subst fe_0_10_1
  subst fe_0_15_1
  subst fe_0_10_2
  subst fe_0_11_2
  subst fe_0_15_2
  have e_hE_0_1_1 := funext hE_0_1_1; subst e_hE_0_1_1
  have e_hE_0_1_2 := funext hE_0_1_2; subst e_hE_0_1_2
  first | assumption | omega | grind
def o_Mo_next_44 : or_T := (185, 11, [(0, (2, 0, 0, [165])), (5, (0, 0, 1999, [])), (10, (0, 1, 2000, []))], [(24, [0, 2], []), (101, [2, 10], [11]), (9, [5, 2], [11]), (20, [2], [50, 3, 1, 15, 11, 10, 1, 2, 8, 0, 3, 2, 0, 15, 2, 0, 11, 3, 12, 0, 7, 4, 3, 2, 0, 15, 0, 1, 2, 0, 11, 2, 8, 1, 3, 2, 0, 11, 2, 0, 15, 2, 12, 0, 7, 4, 3, 2, 0, 15, 0, 1, 2, 0, 10, 2, 14, 0, 2, 0, 48, 9, 6, 3, 0, 1, 2, 0, 15, 0, 256, 0, 10, 9, 6, 3, 0, 1, 2, 0, 15, 0, 256, 0, 57]), (101, [2, 4], [14])], [], [], [(20, [2], [50, 3, 1, 15, 11, 10, 1, 2, 8, 0, 3, 2, 0, 15, 2, 0, 11, 3, 12, 0, 7, 4, 3, 2, 0, 15, 0, 1, 2, 0, 11, 2, 8, 1, 3, 2, 0, 11, 2, 0, 15, 2, 12, 0, 7, 4, 3, 2, 0, 15, 0, 1, 2, 0, 10, 2, 14, 0, 2, 0, 48, 9, 6, 3, 0, 1, 2, 0, 15, 0, 256, 0, 10, 9, 6, 3, 0, 1, 2, 0, 15, 0, 256, 0, 57])], [], [(10, 5, 1, 1)])
theorem oo_Mo_next_44 {kA : Nat → ClassId} : or_ok PRD kA GG o_Mo_next_44 := by
  refine or_mk fun A ta ws vs hD hth hl => ?_
  intro t0 r0 t5 k5 t10 k10 d0 f3 ta1 w1 le1 s1 f6 f10 ta2 w2 le2 s2
  replace f3 := shm_5 f3
  have s1 : (∀ b j, w_el ws b j = w_el w1 b j) ∧ ∀ b j, w_fd ws b j = if b = v_ad (n_v vs 2) ∧ j = 11 then n_v vs 10 else w_fd w1 b j := s1.2
  replace f6 := shm_117 f6
  replace f10 := shm_1400 f10
  have s2 : (∀ b j, w_el w1 b j = w_el w2 b j) ∧ ∀ b j, w_fd w1 b j = if b = v_ad (n_v vs 2) ∧ j = 14 then n_v vs 4 else w_fd w2 b j := s2.2
  have q2 : n_v vs 2 = n_v vs 0 := f3.symm
  rw [q2] at s1
  simp only [q2] at f6 f10
  rw [q2] at s2
  have ar_0_1_1 : w_ar w1 (n_v vs 0) 1 = w_ar ws (n_v vs 0) 1 := by show v_ad (w_fd w1 _ _) = v_ad (w_fd ws _ _); rw [s1.2, if_neg (fun e => absurd e.2 (by decide))]
  have ar_0_1_2 : w_ar w2 (n_v vs 0) 1 = w_ar ws (n_v vs 0) 1 := by rw [← ar_0_1_1]; show v_ad (w_fd w2 _ _) = v_ad (w_fd w1 _ _); rw [s2.2, if_neg (fun e => absurd e.2 (by decide))]
  have g6 : v_iv (n_v vs 5) = w_fi w1 (n_v vs 0) 11 := congrArg v_iv f6
  simp only [ar_0_1_1, ar_0_1_2] at f10
  have fe_0_10_1 : w_fi ws (n_v vs 0) 10 = w_fi w1 (n_v vs 0) 10 := by show v_iv (w_fd _ _ _) = v_iv (w_fd _ _ _); rw [s1.2, if_neg (fun e => absurd e.2 (by decide))]
  have fe_0_11_1 : w_fi ws (n_v vs 0) 11 = v_iv (n_v vs 10) := by show v_iv (w_fd _ _ _) = _; rw [s1.2, if_pos ⟨rfl, rfl⟩]
  have fe_0_15_1 : w_fi ws (n_v vs 0) 15 = w_fi w1 (n_v vs 0) 15 := by show v_iv (w_fd _ _ _) = v_iv (w_fd _ _ _); rw [s1.2, if_neg (fun e => absurd e.2 (by decide))]
  have fe_0_10_2 : w_fi w1 (n_v vs 0) 10 = w_fi w2 (n_v vs 0) 10 := by show v_iv (w_fd _ _ _) = v_iv (w_fd _ _ _); rw [s2.2, if_neg (fun e => absurd e.2 (by decide))]
  have fe_0_11_2 : w_fi w1 (n_v vs 0) 11 = w_fi w2 (n_v vs 0) 11 := by show v_iv (w_fd _ _ _) = v_iv (w_fd _ _ _); rw [s2.2, if_neg (fun e => absurd e.2 (by decide))]
  have fe_0_15_2 : w_fi w1 (n_v vs 0) 15 = w_fi w2 (n_v vs 0) 15 := by show v_iv (w_fd _ _ _) = v_iv (w_fd _ _ _); rw [s2.2, if_neg (fun e => absurd e.2 (by decide))]
  have hE_0_1_1 : ∀ j : Int, w_ei ws (w_ar ws (n_v vs 0) 1) j = w_ei w1 (w_ar ws (n_v vs 0) 1) j := fun j => s1.1 _ _
  have hE_0_1_2 : ∀ j : Int, w_ei w1 (w_ar ws (n_v vs 0) 1) j = w_ei w2 (w_ar ws (n_v vs 0) 1) j := fun j => s2.1 _ _
  have kz_0_10 := fdq_50 hD hth r0
  have kz_0_11 := fdq_273 hD hth r0
  have kz_0_15 := fdq_274 hD hth r0
  have nf0 : fc_1 PRD (20, [2], [50, 3, 1, 15, 11, 10, 1, 2, 8, 0, 3, 2, 0, 15, 2, 0, 11, 3, 12, 0, 7, 4, 3, 2, 0, 15, 0, 1, 2, 0, 11, 2, 8, 1, 3, 2, 0, 11, 2, 0, 15, 2, 12, 0, 7, 4, 3, 2, 0, 15, 0, 1, 2, 0, 10, 2, 14, 0, 2, 0, 48, 9, 6, 3, 0, 1, 2, 0, 15, 0, 256, 0, 10, 9, 6, 3, 0, 1, 2, 0, 15, 0, 256, 0, 57]) ws (vs) := by
    refine ⟨nf_in hl rfl, sgq_1400 ?_⟩
    · show (w_fi ws (n_v vs 2) 15 ≤ w_fi ws (n_v vs 2) 11) ∧ (((w_fi ws (n_v vs 2) 15 + 1) ≤ w_fi ws (n_v vs 2) 11) ∨ ((w_fi ws (n_v vs 2) 11 = w_fi ws (n_v vs 2) 15) ∧ (((w_fi ws (n_v vs 2) 15 + 1) ≤ w_fi ws (n_v vs 2) 10) ∧ ((48 ≤ (w_ei ws (w_ar ws (n_v vs 2) 1) (w_fi ws (n_v vs 2) 15) % 256)) ∧ ((w_ei ws (w_ar ws (n_v vs 2) 1) (w_fi ws (n_v vs 2) 15) % 256) ≤ 57)))))
      rw [q2]
      exact vc_Mo_next_44_0 (v_iv (n_v vs 5)) (v_iv (n_v vs 10)) (w_ei ws (w_ar ws (n_v vs 0) 1)) (w_fi ws (n_v vs 0) 10) (w_fi ws (n_v vs 0) 15) (w_fi w1 (n_v vs 0) 11) (w_ei w1 (w_ar ws (n_v vs 0) 1)) (w_fi w1 (n_v vs 0) 10) (w_fi w1 (n_v vs 0) 15) (w_ei w2 (w_ar ws (n_v vs 0) 1)) (w_fi w2 (n_v vs 0) 10) (w_fi w2 (n_v vs 0) 15) (w_fi w2 (n_v vs 0) 11) (w_fi ws (n_v vs 0) 11) k5 k10 d0 g6 f10 fe_0_10_1 fe_0_11_1 fe_0_15_1 fe_0_10_2 fe_0_11_2 fe_0_15_2 hE_0_1_1 hE_0_1_2 kz_0_10 kz_0_11 kz_0_15
  refine ⟨(fun _ h => (by cases h)), [], trivial, ?_, (fun _ h => (by cases h))⟩
  rw [List.append_nil]
  exact List.forall_mem_cons.mpr ⟨⟨show (20 : Nat) < 100 from by decide, nf0⟩, (fun _ h => (by cases h))⟩
set_option maxHeartbeats 4000000 in
theorem vc_Mo_next_45_0 (x5 : Int) (x6 : Int) (x7 : Int) (from_0 : Int) (pos_0 : Int) (from_1 : Int) (pos_1 : Int) (k5 : 4 ≤ x5 ∧ x5 ≤ 2000) (k6 : 0 ≤ x6 ∧ x6 ≤ 2000) (k7 : 4 ≤ x7 ∧ x7 ≤ 2000) (f5 : x7 = x5 - x6) (g6 : x6 = from_1) (g7 : x5 = pos_1) (fe_0_11_1 : pos_0 = pos_1) (fe_0_15_1 : from_0 = from_1) (kz_0_11 : 0 ≤ pos_0 ∧ pos_0 ≤ 2000) (kz_0_15 : 0 ≤ from_0 ∧ from_0 ≤ 2000) : 1 * from_0 + ((-1) * pos_0 + 0) ≤ 0 := by
  subst fe_0_11_1
  subst fe_0_15_1
  first | assumption | omega | grind
set_option maxHeartbeats 4000000 in
theorem vc_Mo_next_45_1 (x5 : Int) (x6 : Int) (x7 : Int) (x9 : Int) (from_0 : Int) (pos_0 : Int) (from_1 : Int) (pos_1 : Int) (kind_0 : Int) (k5 : 4 ≤ x5 ∧ x5 ≤ 2000) (k6 : 0 ≤ x6 ∧ x6 ≤ 2000) (k7 : 4 ≤ x7 ∧ x7 ≤ 2000) (k9 : 4 ≤ x9 ∧ x9 ≤ 4) (f5 : x7 = x5 - x6) (g6 : x6 = from_1) (g7 : x5 = pos_1) (fe_0_11_1 : pos_0 = pos_1) (fe_0_12_1 : kind_0 = x9) (fe_0_15_1 : from_0 = from_1) (kz_0_11 : 0 ≤ pos_0 ∧ pos_0 ≤ 2000) (kz_0_12 : 0 ≤ kind_0 ∧ kind_0 ≤ 4) (kz_0_15 : 0 ≤ from_0 ∧ from_0 ≤ 2000) : ((kind_0 = 1) → (pos_0 ≤ (from_0 + 8))) ∧ ((kind_0 = 0) ∨ ((from_0 + 1) ≤ pos_0)) := by
  subst fe_0_11_1
  subst fe_0_15_1
  first | assumption | omega | grind
set_option maxHeartbeats 4000000 in
theorem vc_Mo_next_45_2 (x5 : Int) (x6 : Int) (x7 : Int) (from_0 : Int) (pos_0 : Int) (from_1 : Int) (pos_1 : Int) (k5 : 4 ≤ x5 ∧ x5 ≤ 2000) (k6 : 0 ≤ x6 ∧ x6 ≤ 2000) (k7 : 4 ≤ x7 ∧ x7 ≤ 2000) (f5 : x7 = x5 - x6) (g6 : x6 = from_1) (g7 : x5 = pos_1) (fe_0_11_1 : pos_0 = pos_1) (fe_0_15_1 : from_0 = from_1) (kz_0_11 : 0 ≤ pos_0 ∧ pos_0 ≤ 2000) (kz_0_15 : 0 ≤ from_0 ∧ from_0 ≤ 2000) : 1 * from_0 + ((-1) * pos_0 + 0) ≤ 0 := by
  subst fe_0_11_1
  subst fe_0_15_1
  first | assumption | omega | grind
set_option maxHeartbeats 4000000 in
theorem vc_Mo_next_45_3 (x5 : Int) (x6 : Int) (x7 : Int) (x9 : Int) (from_0 : Int) (pos_0 : Int) (from_1 : Int) (pos_1 : Int) (kind_0 : Int) (k5 : 4 ≤ x5 ∧ x5 ≤ 2000) (k6 : 0 ≤ x6 ∧ x6 ≤ 2000) (k7 : 4 ≤ x7 ∧ x7 ≤ 2000) (k9 : 4 ≤ x9 ∧ x9 ≤ 4) (f5 : x7 = x5 - x6) (g6 : x6 = from_1) (g7 : x5 = pos_1) (fe_0_11_1 : pos_0 = pos_1) (fe_0_12_1 : kind_0 = x9) (fe_0_15_1 : from_0 = from_1) (kz_0_11 : 0 ≤ pos_0 ∧ pos_0 ≤ 2000) (kz_0_12 : 0 ≤ kind_0 ∧ kind_0 ≤ 4) (kz_0_15 : 0 ≤ from_0 ∧ from_0 ≤ 2000) : ((kind_0 = 1) → (pos_0 ≤ (from_0 + 8))) ∧ ((kind_0 = 0) ∨ ((from_0 + 1) ≤ pos_0)) := by
  subst fe_0_11_1
  subst fe_0_15_1
  first | assumption | omega | grind
set_option maxHeartbeats 4000000 in
theorem vc_Mo_next_45_4 (x1 : Int) (from_0 : Int) (pos_0 : Int) (from_1 : Int) (pos_1 : Int) (k1 : 0 ≤ x1 ∧ x1 ≤ 2000) (f8 : 1 * x1 + ((-1) * from_1 + 0) ≤ 0) (fe_0_11_1 : pos_0 = pos_1) (fe_0_15_1 : from_0 = from_1) (kz_0_11 : 0 ≤ pos_0 ∧ pos_0 ≤ 2000) (kz_0_15 : 0 ≤ from_0 ∧ from_0 ≤ 2000) : 1 * x1 + ((-1) * from_0 + 0) ≤ 0 := by
  subst fe_0_11_1
  subst fe_0_15_1
  first | assumption | omega | grind
def o_Mo_next_45 : or_T := (354, 10, [(0, (2, 0, 0, [165])), (1, (0, 0, 2000, [])), (2, (2, 0, 0, [165])), (5, (0, 4, 2000, [])), (6, (0, 0, 2000, [])), (7, (0, 4, 2000, [])), (8, (0, 3, 3, [])), (9, (0, 4, 4, []))], [(20, [1, 2], [30, 0, 1, 0, 0, -1, 1, 15]), (20, [2], [50, 2, 0, 15, 11, 0, 7, 4, 3, 2, 0, 15, 0, 1, 2, 0, 11]), (24, [0, 2], []), (101, [2, 9], [12]), (7, [7, 8], [4]), (2, [7, 5, 6], []), (9, [6, 2], [15]), (9, [5, 2], [11]), (20, [1, 2], [30, 0, 1, 0, 0, -1, 1, 15]), (20, [2], [50, 2, 0, 15, 11, 0, 7, 4, 3, 2, 0, 15, 0, 1, 2, 0, 11])], [], [], [(20, [2, 2], [30, 0, 1, 1, 15, -1, 1, 11]), (20, [2], [50, 3, 0, 12, 11, 15, 2, 21, 4, 7, 1, 3, 2, 0, 12, 0, 1, 0, 3, 2, 0, 11, 4, 3, 2, 0, 15, 0, 8, 3, 7, 1, 3, 2, 0, 12, 0, 0, 0, 7, 4, 3, 2, 0, 15, 0, 1, 2, 0, 11]), (20, [0, 0], [30, 0, 1, 1, 15, -1, 1, 11]), (20, [0], [50, 3, 0, 12, 11, 15, 2, 21, 4, 7, 1, 3, 2, 0, 12, 0, 1, 0, 3, 2, 0, 11, 4, 3, 2, 0, 15, 0, 8, 3, 7, 1, 3, 2, 0, 12, 0, 0, 0, 7, 4, 3, 2, 0, 15, 0, 1, 2, 0, 11]), (20, [1, 0], [30, 0, 1, 0, 0, -1, 1, 15])], [], [(7, 5, -2000, 0)])
theorem oo_Mo_next_45 {kA : Nat → ClassId} : or_ok PRD kA GG o_Mo_next_45 := by
  refine or_mk fun A ta ws vs hD hth hl => ?_
  intro t0 r0 t1 k1 t2 r2 t5 k5 t6 k6 t7 k7 t8 k8 t9 k9 d0 f0 f1 f2 ta1 w1 le1 s1 f4 f5 f6 f7 f8 f9
  replace f2 := shm_5 f2
  have s1 : (∀ b j, w_el ws b j = w_el w1 b j) ∧ ∀ b j, w_fd ws b j = if b = v_ad (n_v vs 2) ∧ j = 12 then n_v vs 9 else w_fd w1 b j := s1.2
  replace f5 := shm_14 f5
  replace f6 := shm_189 f6
  replace f7 := shm_117 f7
  replace f8 := shm_1396 f8
  have q2 : n_v vs 2 = n_v vs 0 := f2.symm
  rw [q2] at s1
  simp only [q2] at f6 f7 f8
  have g6 : v_iv (n_v vs 6) = w_fi w1 (n_v vs 0) 15 := congrArg v_iv f6
  have g7 : v_iv (n_v vs 5) = w_fi w1 (n_v vs 0) 11 := congrArg v_iv f7
  have fe_0_11_1 : w_fi ws (n_v vs 0) 11 = w_fi w1 (n_v vs 0) 11 := by show v_iv (w_fd _ _ _) = v_iv (w_fd _ _ _); rw [s1.2, if_neg (fun e => absurd e.2 (by decide))]
  have fe_0_12_1 : w_fi ws (n_v vs 0) 12 = v_iv (n_v vs 9) := by show v_iv (w_fd _ _ _) = _; rw [s1.2, if_pos ⟨rfl, rfl⟩]
  have fe_0_15_1 : w_fi ws (n_v vs 0) 15 = w_fi w1 (n_v vs 0) 15 := by show v_iv (w_fd _ _ _) = v_iv (w_fd _ _ _); rw [s1.2, if_neg (fun e => absurd e.2 (by decide))]
  have kz_0_11 := fdq_273 hD hth r0
  have kz_0_12 := fdq_186 hD hth r0
  have kz_0_15 := fdq_274 hD hth r0
  have nf0 : fc_1 PRD (20, [2, 2], [30, 0, 1, 1, 15, -1, 1, 11]) ws (vs) := by
    refine ⟨nf_in hl rfl, sgq_1397 ?_⟩
    · show 1 * w_fi ws (n_v vs 2) 15 + ((-1) * w_fi ws (n_v vs 2) 11 + 0) ≤ 0
      rw [q2]
      exact vc_Mo_next_45_0 (v_iv (n_v vs 5)) (v_iv (n_v vs 6)) (v_iv (n_v vs 7)) (w_fi ws (n_v vs 0) 15) (w_fi ws (n_v vs 0) 11) (w_fi w1 (n_v vs 0) 15) (w_fi w1 (n_v vs 0) 11) k5 k6 k7 f5 g6 g7 fe_0_11_1 fe_0_15_1 kz_0_11 kz_0_15
  have nf1 : fc_1 PRD (20, [2], [50, 3, 0, 12, 11, 15, 2, 21, 4, 7, 1, 3, 2, 0, 12, 0, 1, 0, 3, 2, 0, 11, 4, 3, 2, 0, 15, 0, 8, 3, 7, 1, 3, 2, 0, 12, 0, 0, 0, 7, 4, 3, 2, 0, 15, 0, 1, 2, 0, 11]) ws (vs) := by
    refine ⟨nf_in hl rfl, sgq_1398 ?_⟩
    · show ((w_fi ws (n_v vs 2) 12 = 1) → (w_fi ws (n_v vs 2) 11 ≤ (w_fi ws (n_v vs 2) 15 + 8))) ∧ ((w_fi ws (n_v vs 2) 12 = 0) ∨ ((w_fi ws (n_v vs 2) 15 + 1) ≤ w_fi ws (n_v vs 2) 11))
      rw [q2]
      exact vc_Mo_next_45_1 (v_iv (n_v vs 5)) (v_iv (n_v vs 6)) (v_iv (n_v vs 7)) (v_iv (n_v vs 9)) (w_fi ws (n_v vs 0) 15) (w_fi ws (n_v vs 0) 11) (w_fi w1 (n_v vs 0) 15) (w_fi w1 (n_v vs 0) 11) (w_fi ws (n_v vs 0) 12) k5 k6 k7 k9 f5 g6 g7 fe_0_11_1 fe_0_12_1 fe_0_15_1 kz_0_11 kz_0_12 kz_0_15
  have nf2 : fc_1 PRD (20, [0, 0], [30, 0, 1, 1, 15, -1, 1, 11]) ws (vs) := ⟨nf_in hl rfl, sgq_1397 (vc_Mo_next_45_2 (v_iv (n_v vs 5)) (v_iv (n_v vs 6)) (v_iv (n_v vs 7)) (w_fi ws (n_v vs 0) 15) (w_fi ws (n_v vs 0) 11) (w_fi w1 (n_v vs 0) 15) (w_fi w1 (n_v vs 0) 11) k5 k6 k7 f5 g6 g7 fe_0_11_1 fe_0_15_1 kz_0_11 kz_0_15)⟩
  have nf3 : fc_1 PRD (20, [0], [50, 3, 0, 12, 11, 15, 2, 21, 4, 7, 1, 3, 2, 0, 12, 0, 1, 0, 3, 2, 0, 11, 4, 3, 2, 0, 15, 0, 8, 3, 7, 1, 3, 2, 0, 12, 0, 0, 0, 7, 4, 3, 2, 0, 15, 0, 1, 2, 0, 11]) ws (vs) := ⟨nf_in hl rfl, sgq_1398 (vc_Mo_next_45_3 (v_iv (n_v vs 5)) (v_iv (n_v vs 6)) (v_iv (n_v vs 7)) (v_iv (n_v vs 9)) (w_fi ws (n_v vs 0) 15) (w_fi ws (n_v vs 0) 11) (w_fi w1 (n_v vs 0) 15) (w_fi w1 (n_v vs 0) 11) (w_fi ws (n_v vs 0) 12) k5 k6 k7 k9 f5 g6 g7 fe_0_11_1 fe_0_12_1 fe_0_15_1 kz_0_11 kz_0_12 kz_0_15)⟩
  have nf4 : fc_1 PRD (20, [1, 0], [30, 0, 1, 0, 0, -1, 1, 15]) ws (vs) := ⟨nf_in hl rfl, sgq_1396 (vc_Mo_next_45_4 (v_iv (n_v vs 1)) (w_fi ws (n_v vs 0) 15) (w_fi ws (n_v vs 0) 11) (w_fi w1 (n_v vs 0) 15) (w_fi w1 (n_v vs 0) 11) k1 f8 fe_0_11_1 fe_0_15_1 kz_0_11 kz_0_15)⟩
  refine ⟨(fun _ h => (by cases h)), [], trivial, ?_, (fun _ h => (by cases h))⟩
  rw [List.append_nil]
  exact List.forall_mem_cons.mpr ⟨⟨show (20 : Nat) < 100 from by decide, nf0⟩, List.forall_mem_cons.mpr ⟨⟨show (20 : Nat) < 100 from by decide, nf1⟩, List.forall_mem_cons.mpr ⟨⟨show (20 : Nat) < 100 from by decide, nf2⟩, List.forall_mem_cons.mpr ⟨⟨show (20 : Nat) < 100 from by decide, nf3⟩, List.forall_mem_cons.mpr ⟨⟨show (20 : Nat) < 100 from by decide, nf4⟩, (fun _ h => (by cases h))⟩⟩⟩⟩⟩
set_option maxHeartbeats 4000000 in
theorem vc_Mo_next_46_0 (x5 : Int) (x6 : Int) (x7 : Int) (from_0 : Int) (pos_0 : Int) (from_1 : Int) (pos_1 : Int) (k5 : 0 ≤ x5 ∧ x5 ≤ 2000) (k6 : 0 ≤ x6 ∧ x6 ≤ 2000) (k7 : (-2000) ≤ x7 ∧ x7 ≤ 3) (f1 : (from_0 + 1) ≤ pos_0) (f5 : x7 = x5 - x6) (g6 : x6 = from_1) (g7 : x5 = pos_1) (fe_0_11_1 : pos_0 = pos_1) (fe_0_15_1 : from_0 = from_1) (kz_0_11 : 0 ≤ pos_0 ∧ pos_0 ≤ 2000) (kz_0_15 : 0 ≤ from_0 ∧ from_0 ≤ 2000) : 1 * from_0 + ((-1) * pos_0 + 0) ≤ 0 := by
  subst fe_0_11_1
  subst fe_0_15_1
  first | assumption | omega | grind
set_option maxHeartbeats 4000000 in
theorem vc_Mo_next_46_1 (x5 : Int) (x6 : Int) (x7 : Int) (x9 : Int) (from_0 : Int) (pos_0 : Int) (from_1 : Int) (pos_1 : Int) (kind_0 : Int) (k5 : 0 ≤ x5 ∧ x5 ≤ 2000) (k6 : 0 ≤ x6 ∧ x6 ≤ 2000) (k7 : (-2000) ≤ x7 ∧ x7 ≤ 3) (k9 : 2 ≤ x9 ∧ x9 ≤ 2) (f1 : (from_0 + 1) ≤ pos_0) (f5 : x7 = x5 - x6) (g6 : x6 = from_1) (g7 : x5 = pos_1) (fe_0_11_1 : pos_0 = pos_1) (fe_0_12_1 : kind_0 = x9) (fe_0_15_1 : from_0 = from_1) (kz_0_11 : 0 ≤ pos_0 ∧ pos_0 ≤ 2000) (kz_0_12 : 0 ≤ kind_0 ∧ kind_0 ≤ 4) (kz_0_15 : 0 ≤ from_0 ∧ from_0 ≤ 2000) : ((kind_0 = 1) → (pos_0 ≤ (from_0 + 8))) ∧ ((kind_0 = 0) ∨ ((from_0 + 1) ≤ pos_0)) := by
  subst fe_0_11_1
  subst fe_0_15_1
  first | assumption | omega | grind
set_option maxHeartbeats 4000000 in
theorem vc_Mo_next_46_2 (x5 : Int) (x6 : Int) (x7 : Int) (from_0 : Int) (pos_0 : Int) (from_1 : Int) (pos_1 : Int) (k5 : 0 ≤ x5 ∧ x5 ≤ 2000) (k6 : 0 ≤ x6 ∧ x6 ≤ 2000) (k7 : (-2000) ≤ x7 ∧ x7 ≤ 3) (f1 : (from_0 + 1) ≤ pos_0) (f5 : x7 = x5 - x6) (g6 : x6 = from_1) (g7 : x5 = pos_1) (fe_0_11_1 : pos_0 = pos_1) (fe_0_15_1 : from_0 = from_1) (kz_0_11 : 0 ≤ pos_0 ∧ pos_0 ≤ 2000) (kz_0_15 : 0 ≤ from_0 ∧ from_0 ≤ 2000) : 1 * from_0 + ((-1) * pos_0 + 0) ≤ 0 := by
  subst fe_0_11_1
  subst fe_0_15_1
  first | assumption | omega | grind
set_option maxHeartbeats 4000000 in
theorem vc_Mo_next_46_3 (x5 : Int) (x6 : Int) (x7 : Int) (x9 : Int) (from_0 : Int) (pos_0 : Int) (from_1 : Int) (pos_1 : Int) (kind_0 : Int) (k5 : 0 ≤ x5 ∧ x5 ≤ 2000) (k6 : 0 ≤ x6 ∧ x6 ≤ 2000) (k7 : (-2000) ≤ x7 ∧ x7 ≤ 3) (k9 : 2 ≤ x9 ∧ x9 ≤ 2) (f1 : (from_0 + 1) ≤ pos_0) (f5 : x7 = x5 - x6) (g6 : x6 = from_1) (g7 : x5 = pos_1) (fe_0_11_1 : pos_0 = pos_1) (fe_0_12_1 : kind_0 = x9) (fe_0_15_1 : from_0 = from_1) (kz_0_11 : 0 ≤ pos_0 ∧ pos_0 ≤ 2000) (kz_0_12 : 0 ≤ kind_0 ∧ kind_0 ≤ 4) (kz_0_15 : 0 ≤ from_0 ∧ from_0 ≤ 2000) : ((kind_0 = 1) → (pos_0 ≤ (from_0 + 8))) ∧ ((kind_0 = 0) ∨ ((from_0 + 1) ≤ pos_0)) := by
  subst fe_0_11_1
  subst fe_0_15_1
  first | assumption | omega | grind
set_option maxHeartbeats 4000000 in
theorem vc_Mo_next_46_4 (x1 : Int) (from_0 : Int) (pos_0 : Int) (from_1 : Int) (pos_1 : Int) (k1 : 0 ≤ x1 ∧ x1 ≤ 2000) (f8 : 1 * x1 + ((-1) * from_1 + 0) ≤ 0) (fe_0_11_1 : pos_0 = pos_1) (fe_0_15_1 : from_0 = from_1) (kz_0_11 : 0 ≤ pos_0 ∧ pos_0 ≤ 2000) (kz_0_15 : 0 ≤ from_0 ∧ from_0 ≤ 2000) : 1 * x1 + ((-1) * from_0 + 0) ≤ 0 := by
  subst fe_0_11_1
  subst fe_0_15_1
  first | assumption | omega | grind
def o_Mo_next_46 : or_T := (354, 10, [(0, (2, 0, 0, [165])), (1, (0, 0, 2000, [])), (2, (2, 0, 0, [165])), (5, (0, 0, 2000, [])), (6, (0, 0, 2000, [])), (7, (0, -2000, 3, [])), (8, (0, 3, 3, [])), (9, (0, 2, 2, []))], [(20, [1, 2], [30, 0, 1, 0, 0, -1, 1, 15]), (20, [2], [50, 2, 0, 15, 11, 0, 7, 4, 3, 2, 0, 15, 0, 1, 2, 0, 11]), (24, [0, 2], []), (101, [2, 9], [12]), (7, [7, 8], [5]), (2, [7, 5, 6], []), (9, [6, 2], [15]), (9, [5, 2], [11]), (20, [1, 2], [30, 0, 1, 0, 0, -1, 1, 15]), (20, [2], [50, 2, 0, 15, 11, 0, 7, 4, 3, 2, 0, 15, 0, 1, 2, 0, 11])], [], [], [(20, [2, 2], [30, 0, 1, 1, 15, -1, 1, 11]), (20, [2], [50, 3, 0, 12, 11, 15, 2, 21, 4, 7, 1, 3, 2, 0, 12, 0, 1, 0, 3, 2, 0, 11, 4, 3, 2, 0, 15, 0, 8, 3, 7, 1, 3, 2, 0, 12, 0, 0, 0, 7, 4, 3, 2, 0, 15, 0, 1, 2, 0, 11]), (20, [0, 0], [30, 0, 1, 1, 15, -1, 1, 11]), (20, [0], [50, 3, 0, 12, 11, 15, 2, 21, 4, 7, 1, 3, 2, 0, 12, 0, 1, 0, 3, 2, 0, 11, 4, 3, 2, 0, 15, 0, 8, 3, 7, 1, 3, 2, 0, 12, 0, 0, 0, 7, 4, 3, 2, 0, 15, 0, 1, 2, 0, 11]), (20, [1, 0], [30, 0, 1, 0, 0, -1, 1, 15])], [], [(7, 5, -2000, 0)])
theorem oo_Mo_next_46 {kA : Nat → ClassId} : or_ok PRD kA GG o_Mo_next_46 := by
  refine or_mk fun A ta ws vs hD hth hl => ?_
  intro t0 r0 t1 k1 t2 r2 t5 k5 t6 k6 t7 k7 t8 k8 t9 k9 d0 f0 f1 f2 ta1 w1 le1 s1 f4 f5 f6 f7 f8 f9
  replace f1 := shm_1402 f1
  replace f2 := shm_5 f2
  have s1 : (∀ b j, w_el ws b j = w_el w1 b j) ∧ ∀ b j, w_fd ws b j = if b = v_ad (n_v vs 2) ∧ j = 12 then n_v vs 9 else w_fd w1 b j := s1.2
  replace f5 := shm_14 f5
  replace f6 := shm_189 f6
  replace f7 := shm_117 f7
  replace f8 := shm_1396 f8
  have q2 : n_v vs 2 = n_v vs 0 := f2.symm
  simp only [q2] at f1
  rw [q2] at s1
  simp only [q2] at f6 f7 f8
  have g6 : v_iv (n_v vs 6) = w_fi w1 (n_v vs 0) 15 := congrArg v_iv f6
  have g7 : v_iv (n_v vs 5) = w_fi w1 (n_v vs 0) 11 := congrArg v_iv f7
  have fe_0_11_1 : w_fi ws (n_v vs 0) 11 = w_fi w1 (n_v vs 0) 11 := by show v_iv (w_fd _ _ _) = v_iv (w_fd _ _ _); rw [s1.2, if_neg (fun e => absurd e.2 (by decide))]
  have fe_0_12_1 : w_fi ws (n_v vs 0) 12 = v_iv (n_v vs 9) := by show v_iv (w_fd _ _ _) = _; rw [s1.2, if_pos ⟨rfl, rfl⟩]
  have fe_0_15_1 : w_fi ws (n_v vs 0) 15 = w_fi w1 (n_v vs 0) 15 := by show v_iv (w_fd _ _ _) = v_iv (w_fd _ _ _); rw [s1.2, if_neg (fun e => absurd e.2 (by decide))]
  have kz_0_11 := fdq_273 hD hth r0
  have kz_0_12 := fdq_186 hD hth r0
  have kz_0_15 := fdq_274 hD hth r0
  have nf0 : fc_1 PRD (20, [2, 2], [30, 0, 1, 1, 15, -1, 1, 11]) ws (vs) := by
    refine ⟨nf_in hl rfl, sgq_1397 ?_⟩
    · show 1 * w_fi ws (n_v vs 2) 15 + ((-1) * w_fi ws (n_v vs 2) 11 + 0) ≤ 0
      rw [q2]
      exact vc_Mo_next_46_0 (v_iv (n_v vs 5)) (v_iv (n_v vs 6)) (v_iv (n_v vs 7)) (w_fi ws (n_v vs 0) 15) (w_fi ws (n_v vs 0) 11) (w_fi w1 (n_v vs 0) 15) (w_fi w1 (n_v vs 0) 11) k5 k6 k7 f1 f5 g6 g7 fe_0_11_1 fe_0_15_1 kz_0_11 kz_0_15
  have nf1 : fc_1 PRD (20, [2], [50, 3, 0, 12, 11, 15, 2, 21, 4, 7, 1, 3, 2, 0, 12, 0, 1, 0, 3, 2, 0, 11, 4, 3, 2, 0, 15, 0, 8, 3, 7, 1, 3, 2, 0, 12, 0, 0, 0, 7, 4, 3, 2, 0, 15, 0, 1, 2, 0, 11]) ws (vs) := by
    refine ⟨nf_in hl rfl, sgq_1398 ?_⟩
    · show ((w_fi ws (n_v vs 2) 12 = 1) → (w_fi ws (n_v vs 2) 11 ≤ (w_fi ws (n_v vs 2) 15 + 8))) ∧ ((w_fi ws (n_v vs 2) 12 = 0) ∨ ((w_fi ws (n_v vs 2) 15 + 1) ≤ w_fi ws (n_v vs 2) 11))
      rw [q2]
      exact vc_Mo_next_46_1 (v_iv (n_v vs 5)) (v_iv (n_v vs 6)) (v_iv (n_v vs 7)) (v_iv (n_v vs 9)) (w_fi ws (n_v vs 0) 15) (w_fi ws (n_v vs 0) 11) (w_fi w1 (n_v vs 0) 15) (w_fi w1 (n_v vs 0) 11) (w_fi ws (n_v vs 0) 12) k5 k6 k7 k9 f1 f5 g6 g7 fe_0_11_1 fe_0_12_1 fe_0_15_1 kz_0_11 kz_0_12 kz_0_15
  have nf2 : fc_1 PRD (20, [0, 0], [30, 0, 1, 1, 15, -1, 1, 11]) ws (vs) := ⟨nf_in hl rfl, sgq_1397 (vc_Mo_next_46_2 (v_iv (n_v vs 5)) (v_iv (n_v vs 6)) (v_iv (n_v vs 7)) (w_fi ws (n_v vs 0) 15) (w_fi ws (n_v vs 0) 11) (w_fi w1 (n_v vs 0) 15) (w_fi w1 (n_v vs 0) 11) k5 k6 k7 f1 f5 g6 g7 fe_0_11_1 fe_0_15_1 kz_0_11 kz_0_15)⟩
  have nf3 : fc_1 PRD (20, [0], [50, 3, 0, 12, 11, 15, 2, 21, 4, 7, 1, 3, 2, 0, 12, 0, 1, 0, 3, 2, 0, 11, 4, 3, 2, 0, 15, 0, 8, 3, 7, 1, 3, 2, 0, 12, 0, 0, 0, 7, 4, 3, 2, 0, 15, 0, 1, 2, 0, 11]) ws (vs) := ⟨nf_in hl rfl, sgq_1398 (vc_Mo_next_46_3 (v_iv (n_v vs 5)) (v_iv (n_v vs 6)) (v_iv (n_v vs 7)) (v_iv (n_v vs 9)) (w_fi ws (n_v vs 0) 15) (w_fi ws (n_v vs 0) 11) (w_fi w1 (n_v vs 0) 15) (w_fi w1 (n_v vs 0) 11) (w_fi ws (n_v vs 0) 12) k5 k6 k7 k9 f1 f5 g6 g7 fe_0_11_1 fe_0_12_1 fe_0_15_1 kz_0_11 kz_0_12 kz_0_15)⟩
  have nf4 : fc_1 PRD (20, [1, 0], [30, 0, 1, 0, 0, -1, 1, 15]) ws (vs) := ⟨nf_in hl rfl, sgq_1396 (vc_Mo_next_46_4 (v_iv (n_v vs 1)) (w_fi ws (n_v vs 0) 15) (w_fi ws (n_v vs 0) 11) (w_fi w1 (n_v vs 0) 15) (w_fi w1 (n_v vs 0) 11) k1 f8 fe_0_11_1 fe_0_15_1 kz_0_11 kz_0_15)⟩
  refine ⟨(fun _ h => (by cases h)), [], trivial, ?_, (fun _ h => (by cases h))⟩
  rw [List.append_nil]
  exact List.forall_mem_cons.mpr ⟨⟨show (20 : Nat) < 100 from by decide, nf0⟩, List.forall_mem_cons.mpr ⟨⟨show (20 : Nat) < 100 from by decide, nf1⟩, List.forall_mem_cons.mpr ⟨⟨show (20 : Nat) < 100 from by decide, nf2⟩, List.forall_mem_cons.mpr ⟨⟨show (20 : Nat) < 100 from by decide, nf3⟩, List.forall_mem_cons.mpr ⟨⟨show (20 : Nat) < 100 from by decide, nf4⟩, (fun _ h => (by cases h))⟩⟩⟩⟩⟩
set_option maxHeartbeats 4000000 in
theorem vc_Mo_next_47_0 (x9 : Int) (x12 : Int) (from_0 : Int) (pos_1 : Int) (from_1 : Int) (from_2 : Int) (pos_2 : Int) (pos_0 : Int) (kind_0 : Int) (kind_1 : Int) (k9 : 0 ≤ x9 ∧ x9 ≤ 1999) (k12 : 1 ≤ x12 ∧ x12 ≤ 2000) (d0 : x9 + 1 ≤ x12 ∧ x12 ≤ x9 + 1) (g4 : x9 = pos_1) (f6 : pos_1 = from_1) (fe_0_11_1 : pos_0 = x12) (fe_0_12_1 : kind_0 = kind_1) (fe_0_15_1 : from_0 = from_1) (fe_0_11_2 : pos_1 = pos_2) (fe_0_15_2 : from_1 = from_2) (kz_0_11 : 0 ≤ pos_0 ∧ pos_0 ≤ 2000) (kz_0_12 : 0 ≤ kind_0 ∧ kind_0 ≤ 4) (kz_0_15 : 0 ≤ from_0 ∧ from_0 ≤ 2000) : 1 * from_0 + ((-1) * pos_0 + 0) ≤ 0 := by
  subst fe_0_12_1
  subst fe_0_15_1
  subst fe_0_11_2
  subst fe_0_15_2
  first | assumption | omega | grind
set_option maxHeartbeats 4000000 in
theorem vc_Mo_next_47_1 (x9 : Int) (x10 : Int) (x12 : Int) (from_0 : Int) (pos_1 : Int) (from_1 : Int) (from_2 : Int) (pos_2 : Int) (pos_0 : Int) (kind_0 : Int) (kind_1 : Int) (k9 : 0 ≤ x9 ∧ x9 ≤ 1999) (k10 : 4 ≤ x10 ∧ x10 ≤ 4) (k12 : 1 ≤ x12 ∧ x12 ≤ 2000) (d0 : x9 + 1 ≤ x12 ∧ x12 ≤ x9 + 1) (g4 : x9 = pos_1) (f6 : pos_1 = from_1) (fe_0_11_1 : pos_0 = x12) (fe_0_12_1 : kind_0 = kind_1) (fe_0_15_1 : from_0 = from_1) (fe_0_11_2 : pos_1 = pos_2) (fe_0_12_2 : kind_1 = x10) (fe_0_15_2 : from_1 = from_2) (kz_0_11 : 0 ≤ pos_0 ∧ pos_0 ≤ 2000) (kz_0_12 : 0 ≤ kind_0 ∧ kind_0 ≤ 4) (kz_0_15 : 0 ≤ from_0 ∧ from_0 ≤ 2000) : ((kind_0 = 1) → (pos_0 ≤ (from_0 + 8))) ∧ ((kind_0 = 0) ∨ ((from_0 + 1) ≤ pos_0)) := by
  subst fe_0_12_1
  subst fe_0_15_1
  subst fe_0_11_2
  subst fe_0_15_2
  first | assumption | omega | grind
set_option maxHeartbeats 4000000 in
theorem vc_Mo_next_47_2 (x9 : Int) (x12 : Int) (from_0 : Int) (pos_1 : Int) (from_1 : Int) (from_2 : Int) (pos_2 : Int) (pos_0 : Int) (kind_0 : Int) (kind_1 : Int) (k9 : 0 ≤ x9 ∧ x9 ≤ 1999) (k12 : 1 ≤ x12 ∧ x12 ≤ 2000) (d0 : x9 + 1 ≤ x12 ∧ x12 ≤ x9 + 1) (g4 : x9 = pos_1) (f6 : pos_1 = from_1) (fe_0_11_1 : pos_0 = x12) (fe_0_12_1 : kind_0 = kind_1) (fe_0_15_1 : from_0 = from_1) (fe_0_11_2 : pos_1 = pos_2) (fe_0_15_2 : from_1 = from_2) (kz_0_11 : 0 ≤ pos_0 ∧ pos_0 ≤ 2000) (kz_0_12 : 0 ≤ kind_0 ∧ kind_0 ≤ 4) (kz_0_15 : 0 ≤ from_0 ∧ from_0 ≤ 2000) : 1 * from_0 + ((-1) * pos_0 + 0) ≤ 0 := by
  subst fe_0_12_1
  subst fe_0_15_1
  subst fe_0_11_2
  subst fe_0_15_2
  first | assumption | omega | grind
set_option maxHeartbeats 4000000 in
theorem vc_Mo_next_47_3 (x9 : Int) (x10 : Int) (x12 : Int) (from_0 : Int) (pos_1 : Int) (from_1 : Int) (from_2 : Int) (pos_2 : Int) (pos_0 : Int) (kind_0 : Int) (kind_1 : Int) (k9 : 0 ≤ x9 ∧ x9 ≤ 1999) (k10 : 4 ≤ x10 ∧ x10 ≤ 4) (k12 : 1 ≤ x12 ∧ x12 ≤ 2000) (d0 : x9 + 1 ≤ x12 ∧ x12 ≤ x9 + 1) (g4 : x9 = pos_1) (f6 : pos_1 = from_1) (fe_0_11_1 : pos_0 = x12) (fe_0_12_1 : kind_0 = kind_1) (fe_0_15_1 : from_0 = from_1) (fe_0_11_2 : pos_1 = pos_2) (fe_0_12_2 : kind_1 = x10) (fe_0_15_2 : from_1 = from_2) (kz_0_11 : 0 ≤ pos_0 ∧ pos_0 ≤ 2000) (kz_0_12 : 0 ≤ kind_0 ∧ kind_0 ≤ 4) (kz_0_15 : 0 ≤ from_0 ∧ from_0 ≤ 2000) : ((kind_0 = 1) → (pos_0 ≤ (from_0 + 8))) ∧ ((kind_0 = 0) ∨ ((from_0 + 1) ≤ pos_0)) := by
  subst fe_0_12_1
  subst fe_0_15_1
  subst fe_0_11_2
  subst fe_0_15_2
  first | assumption | omega | grind
set_option maxHeartbeats 4000000 in
theorem vc_Mo_next_47_4 (x1 : Int) (from_0 : Int) (pos_1 : Int) (from_1 : Int) (from_2 : Int) (pos_2 : Int) (kind_0 : Int) (kind_1 : Int) (k1 : 0 ≤ x1 ∧ x1 ≤ 2000) (f8 : 1 * x1 + ((-1) * from_2 + 0) ≤ 0) (fe_0_12_1 : kind_0 = kind_1) (fe_0_15_1 : from_0 = from_1) (fe_0_11_2 : pos_1 = pos_2) (fe_0_15_2 : from_1 = from_2) (kz_0_12 : 0 ≤ kind_0 ∧ kind_0 ≤ 4) (kz_0_15 : 0 ≤ from_0 ∧ from_0 ≤ 2000) : 1 * x1 + ((-1) * from_0 + 0) ≤ 0 := by
  subst fe_0_12_1
  subst fe_0_15_1
  subst fe_0_11_2
  subst fe_0_15_2
  first | assumption | omega | grind
def o_Mo_next_47 : or_T := (354, 13, [(0, (2, 0, 0, [165])), (1, (0, 0, 2000, [])), (2, (2, 0, 0, [165])), (9, (0, 0, 1999, [])), (10, (0, 4, 4, [])), (11, (0, 1, 1, [])), (12, (0, 1, 2000, []))], [(20, [1, 2], [30, 0, 1, 0, 0, -1, 1, 15]), (24, [0, 2], []), (101, [2, 12], [11]), (1, [12, 9, 11], []), (9, [9, 2], [11]), (20, [1, 2], [30, 0, 1, 0, 0, -1, 1, 15]), (20, [2], [50, 2, 0, 11, 15, 1, 3, 2, 0, 11, 2, 0, 15]), (101, [2, 10], [12]), (20, [1, 2], [30, 0, 1, 0, 0, -1, 1, 15]), (20, [2], [50, 2, 0, 11, 15, 1, 3, 2, 0, 11, 2, 0, 15])], [], [], [(20, [2, 2], [30, 0, 1, 1, 15, -1, 1, 11]), (20, [2], [50, 3, 0, 12, 11, 15, 2, 21, 4, 7, 1, 3, 2, 0, 12, 0, 1, 0, 3, 2, 0, 11, 4, 3, 2, 0, 15, 0, 8, 3, 7, 1, 3, 2, 0, 12, 0, 0, 0, 7, 4, 3, 2, 0, 15, 0, 1, 2, 0, 11]), (20, [0, 0], [30, 0, 1, 1, 15, -1, 1, 11]), (20, [0], [50, 3, 0, 12, 11, 15, 2, 21, 4, 7, 1, 3, 2, 0, 12, 0, 1, 0, 3, 2, 0, 11, 4, 3, 2, 0, 15, 0, 8, 3, 7, 1, 3, 2, 0, 12, 0, 0, 0, 7, 4, 3, 2, 0, 15, 0, 1, 2, 0, 11]), (20, [1, 0], [30, 0, 1, 0, 0, -1, 1, 15])], [], [(12, 9, 1, 1)])
theorem oo_Mo_next_47 {kA : Nat → ClassId} : or_ok PRD kA GG o_Mo_next_47 := by
  refine or_mk fun A ta ws vs hD hth hl => ?_
  intro t0 r0 t1 k1 t2 r2 t9 k9 t10 k10 t11 k11 t12 k12 d0 f0 f1 ta1 w1 le1 s1 f3 f4 f5 f6 ta2 w2 le2 s2 f8 f9
  replace f1 := shm_5 f1
  have s1 : (∀ b j, w_el ws b j = w_el w1 b j) ∧ ∀ b j, w_fd ws b j = if b = v_ad (n_v vs 2) ∧ j = 11 then n_v vs 12 else w_fd w1 b j := s1.2
  replace f4 := shm_117 f4
  replace f6 := shm_1399 f6
  have s2 : (∀ b j, w_el w1 b j = w_el w2 b j) ∧ ∀ b j, w_fd w1 b j = if b = v_ad (n_v vs 2) ∧ j = 12 then n_v vs 10 else w_fd w2 b j := s2.2
  replace f8 := shm_1396 f8
  have q2 : n_v vs 2 = n_v vs 0 := f1.symm
  rw [q2] at s1
  simp only [q2] at f4 f6
  rw [q2] at s2
  simp only [q2] at f8
  have g4 : v_iv (n_v vs 9) = w_fi w1 (n_v vs 0) 11 := congrArg v_iv f4
  have fe_0_11_1 : w_fi ws (n_v vs 0) 11 = v_iv (n_v vs 12) := by show v_iv (w_fd _ _ _) = _; rw [s1.2, if_pos ⟨rfl, rfl⟩]
  have fe_0_12_1 : w_fi ws (n_v vs 0) 12 = w_fi w1 (n_v vs 0) 12 := by show v_iv (w_fd _ _ _) = v_iv (w_fd _ _ _); rw [s1.2, if_neg (fun e => absurd e.2 (by decide))]
  have fe_0_15_1 : w_fi ws (n_v vs 0) 15 = w_fi w1 (n_v vs 0) 15 := by show v_iv (w_fd _ _ _) = v_iv (w_fd _ _ _); rw [s1.2, if_neg (fun e => absurd e.2 (by decide))]
  have fe_0_11_2 : w_fi w1 (n_v vs 0) 11 = w_fi w2 (n_v vs 0) 11 := by show v_iv (w_fd _ _ _) = v_iv (w_fd _ _ _); rw [s2.2, if_neg (fun e => absurd e.2 (by decide))]
  have fe_0_12_2 : w_fi w1 (n_v vs 0) 12 = v_iv (n_v vs 10) := by show v_iv (w_fd _ _ _) = _; rw [s2.2, if_pos ⟨rfl, rfl⟩]
  have fe_0_15_2 : w_fi w1 (n_v vs 0) 15 = w_fi w2 (n_v vs 0) 15 := by show v_iv (w_fd _ _ _) = v_iv (w_fd _ _ _); rw [s2.2, if_neg (fun e => absurd e.2 (by decide))]
  have kz_0_11 := fdq_273 hD hth r0
  have kz_0_12 := fdq_186 hD hth r0
  have kz_0_15 := fdq_274 hD hth r0
  have nf0 : fc_1 PRD (20, [2, 2], [30, 0, 1, 1, 15, -1, 1, 11]) ws (vs) := by
    refine ⟨nf_in hl rfl, sgq_1397 ?_⟩
    · show 1 * w_fi ws (n_v vs 2) 15 + ((-1) * w_fi ws (n_v vs 2) 11 + 0) ≤ 0
      rw [q2]
      exact vc_Mo_next_47_0 (v_iv (n_v vs 9)) (v_iv (n_v vs 12)) (w_fi ws (n_v vs 0) 15) (w_fi w1 (n_v vs 0) 11) (w_fi w1 (n_v vs 0) 15) (w_fi w2 (n_v vs 0) 15) (w_fi w2 (n_v vs 0) 11) (w_fi ws (n_v vs 0) 11) (w_fi ws (n_v vs 0) 12) (w_fi w1 (n_v vs 0) 12) k9 k12 d0 g4 f6 fe_0_11_1 fe_0_12_1 fe_0_15_1 fe_0_11_2 fe_0_15_2 kz_0_11 kz_0_12 kz_0_15
  have nf1 : fc_1 PRD (20, [2], [50, 3, 0, 12, 11, 15, 2, 21, 4, 7, 1, 3, 2, 0, 12, 0, 1, 0, 3, 2, 0, 11, 4, 3, 2, 0, 15, 0, 8, 3, 7, 1, 3, 2, 0, 12, 0, 0, 0, 7, 4, 3, 2, 0, 15, 0, 1, 2, 0, 11]) ws (vs) := by
    refine ⟨nf_in hl rfl, sgq_1398 ?_⟩
    · show ((w_fi ws (n_v vs 2) 12 = 1) → (w_fi ws (n_v vs 2) 11 ≤ (w_fi ws (n_v vs 2) 15 + 8))) ∧ ((w_fi ws (n_v vs 2) 12 = 0) ∨ ((w_fi ws (n_v vs 2) 15 + 1) ≤ w_fi ws (n_v vs 2) 11))
      rw [q2]
      exact vc_Mo_next_47_1 (v_iv (n_v vs 9)) (v_iv (n_v vs 10)) (v_iv (n_v vs 12)) (w_fi ws (n_v vs 0) 15) (w_fi w1 (n_v vs 0) 11) (w_fi w1 (n_v vs 0) 15) (w_fi w2 (n_v vs 0) 15) (w_fi w2 (n_v vs 0) 11) (w_fi ws (n_v vs 0) 11) (w_fi ws (n_v vs 0) 12) (w_fi w1 (n_v vs 0) 12) k9 k10 k12 d0 g4 f6 fe_0_11_1 fe_0_12_1 fe_0_15_1 fe_0_11_2 fe_0_12_2 fe_0_15_2 kz_0_11 kz_0_12 kz_0_15
  have nf2 : fc_1 PRD (20, [0, 0], [30, 0, 1, 1, 15, -1, 1, 11]) ws (vs) := ⟨nf_in hl rfl, sgq_1397 (vc_Mo_next_47_2 (v_iv (n_v vs 9)) (v_iv (n_v vs 12)) (w_fi ws (n_v vs 0) 15) (w_fi w1 (n_v vs 0) 11) (w_fi w1 (n_v vs 0) 15) (w_fi w2 (n_v vs 0) 15) (w_fi w2 (n_v vs 0) 11) (w_fi ws (n_v vs 0) 11) (w_fi ws (n_v vs 0) 12) (w_fi w1 (n_v vs 0) 12) k9 k12 d0 g4 f6 fe_0_11_1 fe_0_12_1 fe_0_15_1 fe_0_11_2 fe_0_15_2 kz_0_11 kz_0_12 kz_0_15)⟩
  have nf3 : fc_1 PRD (20, [0], [50, 3, 0, 12, 11, 15, 2, 21, 4, 7, 1, 3, 2, 0, 12, 0, 1, 0, 3, 2, 0, 11, 4, 3, 2, 0, 15, 0, 8, 3, 7, 1, 3, 2, 0, 12, 0, 0, 0, 7, 4, 3, 2, 0, 15, 0, 1, 2, 0, 11]) ws (vs) := ⟨nf_in hl rfl, sgq_1398 (vc_Mo_next_47_3 (v_iv (n_v vs 9)) (v_iv (n_v vs 10)) (v_iv (n_v vs 12)) (w_fi ws (n_v vs 0) 15) (w_fi w1 (n_v vs 0) 11) (w_fi w1 (n_v vs 0) 15) (w_fi w2 (n_v vs 0) 15) (w_fi w2 (n_v vs 0) 11) (w_fi ws (n_v vs 0) 11) (w_fi ws (n_v vs 0) 12) (w_fi w1 (n_v vs 0) 12) k9 k10 k12 d0 g4 f6 fe_0_11_1 fe_0_12_1 fe_0_15_1 fe_0_11_2 fe_0_12_2 fe_0_15_2 kz_0_11 kz_0_12 kz_0_15)⟩
  have nf4 : fc_1 PRD (20, [1, 0], [30, 0, 1, 0, 0, -1, 1, 15]) ws (vs) := ⟨nf_in hl rfl, sgq_1396 (vc_Mo_next_47_4 (v_iv (n_v vs 1)) (w_fi ws (n_v vs 0) 15) (w_fi w1 (n_v vs 0) 11) (w_fi w1 (n_v vs 0) 15) (w_fi w2 (n_v vs 0) 15) (w_fi w2 (n_v vs 0) 11) (w_fi ws (n_v vs 0) 12) (w_fi w1 (n_v vs 0) 12) k1 f8 fe_0_12_1 fe_0_15_1 fe_0_11_2 fe_0_15_2 kz_0_12 kz_0_15)⟩
  refine ⟨(fun _ h => (by cases h)), [], trivial, ?_, (fun _ h => (by cases h))⟩
  rw [List.append_nil]
  exact List.forall_mem_cons.mpr ⟨⟨show (20 : Nat) < 100 from by decide, nf0⟩, List.forall_mem_cons.mpr ⟨⟨show (20 : Nat) < 100 from by decide, nf1⟩, List.forall_mem_cons.mpr ⟨⟨show (20 : Nat) < 100 from by decide, nf2⟩, List.forall_mem_cons.mpr ⟨⟨show (20 : Nat) < 100 from by decide, nf3⟩, List.forall_mem_cons.mpr ⟨⟨show (20 : Nat) < 100 from by decide, nf4⟩, (fun _ h => (by cases h))⟩⟩⟩⟩⟩
set_option maxHeartbeats 4000000 in
theorem vc_Mo_next_48_0 (x9 : Int) (x12 : Int) (from_0 : Int) (pos_1 : Int) (from_1 : Int) (from_2 : Int) (pos_2 : Int) (pos_0 : Int) (kind_0 : Int) (kind_1 : Int) (k9 : 0 ≤ x9 ∧ x9 ≤ 1999) (k12 : 1 ≤ x12 ∧ x12 ≤ 2000) (d0 : x9 + 1 ≤ x12 ∧ x12 ≤ x9 + 1) (g4 : x9 = pos_1) (f6 : pos_1 = from_1) (fe_0_11_1 : pos_0 = x12) (fe_0_12_1 : kind_0 = kind_1) (fe_0_15_1 : from_0 = from_1) (fe_0_11_2 : pos_1 = pos_2) (fe_0_15_2 : from_1 = from_2) (kz_0_11 : 0 ≤ pos_0 ∧ pos_0 ≤ 2000) (kz_0_12 : 0 ≤ kind_0 ∧ kind_0 ≤ 4) (kz_0_15 : 0 ≤ from_0 ∧ from_0 ≤ 2000) : 1 * from_0 + ((-1) * pos_0 + 0) ≤ 0 := by
  subst fe_0_12_1
  subst fe_0_15_1
  subst fe_0_11_2
  subst fe_0_15_2
  first | assumption | omega | grind
set_option maxHeartbeats 4000000 in
theorem vc_Mo_next_48_1 (x9 : Int) (x10 : Int) (x12 : Int) (from_0 : Int) (pos_1 : Int) (from_1 : Int) (from_2 : Int) (pos_2 : Int) (pos_0 : Int) (kind_0 : Int) (kind_1 : Int) (k9 : 0 ≤ x9 ∧ x9 ≤ 1999) (k10 : 3 ≤ x10 ∧ x10 ≤ 3) (k12 : 1 ≤ x12 ∧ x12 ≤ 2000) (d0 : x9 + 1 ≤ x12 ∧ x12 ≤ x9 + 1) (g4 : x9 = pos_1) (f6 : pos_1 = from_1) (fe_0_11_1 : pos_0 = x12) (fe_0_12_1 : kind_0 = kind_1) (fe_0_15_1 : from_0 = from_1) (fe_0_11_2 : pos_1 = pos_2) (fe_0_12_2 : kind_1 = x10) (fe_0_15_2 : from_1 = from_2) (kz_0_11 : 0 ≤ pos_0 ∧ pos_0 ≤ 2000) (kz_0_12 : 0 ≤ kind_0 ∧ kind_0 ≤ 4) (kz_0_15 : 0 ≤ from_0 ∧ from_0 ≤ 2000) : ((kind_0 = 1) → (pos_0 ≤ (from_0 + 8))) ∧ ((kind_0 = 0) ∨ ((from_0 + 1) ≤ pos_0)) := by
  subst fe_0_12_1
  subst fe_0_15_1
  subst fe_0_11_2
  subst fe_0_15_2
  first | assumption | omega | grind
set_option maxHeartbeats 4000000 in
theorem vc_Mo_next_48_2 (x9 : Int) (x12 : Int) (from_0 : Int) (pos_1 : Int) (from_1 : Int) (from_2 : Int) (pos_2 : Int) (pos_0 : Int) (kind_0 : Int) (kind_1 : Int) (k9 : 0 ≤ x9 ∧ x9 ≤ 1999) (k12 : 1 ≤ x12 ∧ x12 ≤ 2000) (d0 : x9 + 1 ≤ x12 ∧ x12 ≤ x9 + 1) (g4 : x9 = pos_1) (f6 : pos_1 = from_1) (fe_0_11_1 : pos_0 = x12) (fe_0_12_1 : kind_0 = kind_1) (fe_0_15_1 : from_0 = from_1) (fe_0_11_2 : pos_1 = pos_2) (fe_0_15_2 : from_1 = from_2) (kz_0_11 : 0 ≤ pos_0 ∧ pos_0 ≤ 2000) (kz_0_12 : 0 ≤ kind_0 ∧ kind_0 ≤ 4) (kz_0_15 : 0 ≤ from_0 ∧ from_0 ≤ 2000) : 1 * from_0 + ((-1) * pos_0 + 0) ≤ 0 := by
  subst fe_0_12_1
  subst fe_0_15_1
  subst fe_0_11_2
  subst fe_0_15_2
  first | assumption | omega | grind
set_option maxHeartbeats 4000000 in
theorem vc_Mo_next_48_3 (x9 : Int) (x10 : Int) (x12 : Int) (from_0 : Int) (pos_1 : Int) (from_1 : Int) (from_2 : Int) (pos_2 : Int) (pos_0 : Int) (kind_0 : Int) (kind_1 : Int) (k9 : 0 ≤ x9 ∧ x9 ≤ 1999) (k10 : 3 ≤ x10 ∧ x10 ≤ 3) (k12 : 1 ≤ x12 ∧ x12 ≤ 2000) (d0 : x9 + 1 ≤ x12 ∧ x12 ≤ x9 + 1) (g4 : x9 = pos_1) (f6 : pos_1 = from_1) (fe_0_11_1 : pos_0 = x12) (fe_0_12_1 : kind_0 = kind_1) (fe_0_15_1 : from_0 = from_1) (fe_0_11_2 : pos_1 = pos_2) (fe_0_12_2 : kind_1 = x10) (fe_0_15_2 : from_1 = from_2) (kz_0_11 : 0 ≤ pos_0 ∧ pos_0 ≤ 2000) (kz_0_12 : 0 ≤ kind_0 ∧ kind_0 ≤ 4) (kz_0_15 : 0 ≤ from_0 ∧ from_0 ≤ 2000) : ((kind_0 = 1) → (pos_0 ≤ (from_0 + 8))) ∧ ((kind_0 = 0) ∨ ((from_0 + 1) ≤ pos_0)) := by
  subst fe_0_12_1
  subst fe_0_15_1
  subst fe_0_11_2
  subst fe_0_15_2
  first | assumption | omega | grind
set_option maxHeartbeats 4000000 in
theorem vc_Mo_next_48_4 (x1 : Int) (from_0 : Int) (pos_1 : Int) (from_1 : Int) (from_2 : Int) (pos_2 : Int) (kind_0 : Int) (kind_1 : Int) (k1 : 0 ≤ x1 ∧ x1 ≤ 2000) (f8 : 1 * x1 + ((-1) * from_2 + 0) ≤ 0) (fe_0_12_1 : kind_0 = kind_1) (fe_0_15_1 : from_0 = from_1) (fe_0_11_2 : pos_1 = pos_2) (fe_0_15_2 : from_1 = from_2) (kz_0_12 : 0 ≤ kind_0 ∧ kind_0 ≤ 4) (kz_0_15 : 0 ≤ from_0 ∧ from_0 ≤ 2000) : 1 * x1 + ((-1) * from_0 + 0) ≤ 0 := by
  subst fe_0_12_1
  subst fe_0_15_1
  subst fe_0_11_2
  subst fe_0_15_2
  first | assumption | omega | grind
def o_Mo_next_48 : or_T := (354, 13, [(0, (2, 0, 0, [165])), (1, (0, 0, 2000, [])), (2, (2, 0, 0, [165])), (9, (0, 0, 1999, [])), (10, (0, 3, 3, [])), (11, (0, 1, 1, [])), (12, (0, 1, 2000, []))], [(20, [1, 2], [30, 0, 1, 0, 0, -1, 1, 15]), (24, [0, 2], []), (101, [2, 12], [11]), (1, [12, 9, 11], []), (9, [9, 2], [11]), (20, [1, 2], [30, 0, 1, 0, 0, -1, 1, 15]), (20, [2], [50, 2, 0, 11, 15, 1, 3, 2, 0, 11, 2, 0, 15]), (101, [2, 10], [12]), (20, [1, 2], [30, 0, 1, 0, 0, -1, 1, 15]), (20, [2], [50, 2, 0, 11, 15, 1, 3, 2, 0, 11, 2, 0, 15])], [], [], [(20, [2, 2], [30, 0, 1, 1, 15, -1, 1, 11]), (20, [2], [50, 3, 0, 12, 11, 15, 2, 21, 4, 7, 1, 3, 2, 0, 12, 0, 1, 0, 3, 2, 0, 11, 4, 3, 2, 0, 15, 0, 8, 3, 7, 1, 3, 2, 0, 12, 0, 0, 0, 7, 4, 3, 2, 0, 15, 0, 1, 2, 0, 11]), (20, [0, 0], [30, 0, 1, 1, 15, -1, 1, 11]), (20, [0], [50, 3, 0, 12, 11, 15, 2, 21, 4, 7, 1, 3, 2, 0, 12, 0, 1, 0, 3, 2, 0, 11, 4, 3, 2, 0, 15, 0, 8, 3, 7, 1, 3, 2, 0, 12, 0, 0, 0, 7, 4, 3, 2, 0, 15, 0, 1, 2, 0, 11]), (20, [1, 0], [30, 0, 1, 0, 0, -1, 1, 15])], [], [(12, 9, 1, 1)])
theorem oo_Mo_next_48 {kA : Nat → ClassId} : or_ok PRD kA GG o_Mo_next_48 := by
  refine or_mk fun A ta ws vs hD hth hl => ?_
  intro t0 r0 t1 k1 t2 r2 t9 k9 t10 k10 t11 k11 t12 k12 d0 f0 f1 ta1 w1 le1 s1 f3 f4 f5 f6 ta2 w2 le2 s2 f8 f9
  replace f1 := shm_5 f1
  have s1 : (∀ b j, w_el ws b j = w_el w1 b j) ∧ ∀ b j, w_fd ws b j = if b = v_ad (n_v vs 2) ∧ j = 11 then n_v vs 12 else w_fd w1 b j := s1.2
  replace f4 := shm_117 f4
  replace f6 := shm_1399 f6
  have s2 : (∀ b j, w_el w1 b j = w_el w2 b j) ∧ ∀ b j, w_fd w1 b j = if b = v_ad (n_v vs 2) ∧ j = 12 then n_v vs 10 else w_fd w2 b j := s2.2
  replace f8 := shm_1396 f8
  have q2 : n_v vs 2 = n_v vs 0 := f1.symm
  rw [q2] at s1
  simp only [q2] at f4 f6
  rw [q2] at s2
  simp only [q2] at f8
  have g4 : v_iv (n_v vs 9) = w_fi w1 (n_v vs 0) 11 := congrArg v_iv f4
  have fe_0_11_1 : w_fi ws (n_v vs 0) 11 = v_iv (n_v vs 12) := by show v_iv (w_fd _ _ _) = _; rw [s1.2, if_pos ⟨rfl, rfl⟩]
  have fe_0_12_1 : w_fi ws (n_v vs 0) 12 = w_fi w1 (n_v vs 0) 12 := by show v_iv (w_fd _ _ _) = v_iv (w_fd _ _ _); rw [s1.2, if_neg (fun e => absurd e.2 (by decide))]
  have fe_0_15_1 : w_fi ws (n_v vs 0) 15 = w_fi w1 (n_v vs 0) 15 := by show v_iv (w_fd _ _ _) = v_iv (w_fd _ _ _); rw [s1.2, if_neg (fun e => absurd e.2 (by decide))]
  have fe_0_11_2 : w_fi w1 (n_v vs 0) 11 = w_fi w2 (n_v vs 0) 11 := by show v_iv (w_fd _ _ _) = v_iv (w_fd _ _ _); rw [s2.2, if_neg (fun e => absurd e.2 (by decide))]
  have fe_0_12_2 : w_fi w1 (n_v vs 0) 12 = v_iv (n_v vs 10) := by show v_iv (w_fd _ _ _) = _; rw [s2.2, if_pos ⟨rfl, rfl⟩]
  have fe_0_15_2 : w_fi w1 (n_v vs 0) 15 = w_fi w2 (n_v vs 0) 15 := by show v_iv (w_fd _ _ _) = v_iv (w_fd _ _ _); rw [s2.2, if_neg (fun e => absurd e.2 (by decide))]
  have kz_0_11 := fdq_273 hD hth r0
  have kz_0_12 := fdq_186 hD hth r0
  have kz_0_15 := fdq_274 hD hth r0
  have nf0 : fc_1 PRD (20, [2, 2], [30, 0, 1, 1, 15, -1, 1, 11]) ws (vs) := by
    refine ⟨nf_in hl rfl, sgq_1397 ?_⟩
    · show 1 * w_fi ws (n_v vs 2) 15 + ((-1) * w_fi ws (n_v vs 2) 11 + 0) ≤ 0
      rw [q2]
      exact vc_Mo_next_48_0 (v_iv (n_v vs 9)) (v_iv (n_v vs 12)) (w_fi ws (n_v vs 0) 15) (w_fi w1 (n_v vs 0) 11) (w_fi w1 (n_v vs 0) 15) (w_fi w2 (n_v vs 0) 15) (w_fi w2 (n_v vs 0) 11) (w_fi ws (n_v vs 0) 11) (w_fi ws (n_v vs 0) 12) (w_fi w1 (n_v vs 0) 12) k9 k12 d0 g4 f6 fe_0_11_1 fe_0_12_1 fe_0_15_1 fe_0_11_2 fe_0_15_2 kz_0_11 kz_0_12 kz_0_15
  have nf1 : fc_1 PRD (20, [2], [50, 3, 0, 12, 11, 15, 2, 21, 4, 7, 1, 3, 2, 0, 12, 0, 1, 0, 3, 2, 0, 11, 4, 3, 2, 0, 15, 0, 8, 3, 7, 1, 3, 2, 0, 12, 0, 0, 0, 7, 4, 3, 2, 0, 15, 0, 1, 2, 0, 11]) ws (vs) := by
    refine ⟨nf_in hl rfl, sgq_1398 ?_⟩
    · show ((w_fi ws (n_v vs 2) 12 = 1) → (w_fi ws (n_v vs 2) 11 ≤ (w_fi ws (n_v vs 2) 15 + 8))) ∧ ((w_fi ws (n_v vs 2) 12 = 0) ∨ ((w_fi ws (n_v vs 2) 15 + 1) ≤ w_fi ws (n_v vs 2) 11))
      rw [q2]
      exact vc_Mo_next_48_1 (v_iv (n_v vs 9)) (v_iv (n_v vs 10)) (v_iv (n_v vs 12)) (w_fi ws (n_v vs 0) 15) (w_fi w1 (n_v vs 0) 11) (w_fi w1 (n_v vs 0) 15) (w_fi w2 (n_v vs 0) 15) (w_fi w2 (n_v vs 0) 11) (w_fi ws (n_v vs 0) 11) (w_fi ws (n_v vs 0) 12) (w_fi w1 (n_v vs 0) 12) k9 k10 k12 d0 g4 f6 fe_0_11_1 fe_0_12_1 fe_0_15_1 fe_0_11_2 fe_0_12_2 fe_0_15_2 kz_0_11 kz_0_12 kz_0_15
  have nf2 : fc_1 PRD (20, [0, 0], [30, 0, 1, 1, 15, -1, 1, 11]) ws (vs) := ⟨nf_in hl rfl, sgq_1397 (vc_Mo_next_48_2 (v_iv (n_v vs 9)) (v_iv (n_v vs 12)) (w_fi ws (n_v vs 0) 15) (w_fi w1 (n_v vs 0) 11) (w_fi w1 (n_v vs 0) 15) (w_fi w2 (n_v vs 0) 15) (w_fi w2 (n_v vs 0) 11) (w_fi ws (n_v vs 0) 11) (w_fi ws (n_v vs 0) 12) (w_fi w1 (n_v vs 0) 12) k9 k12 d0 g4 f6 fe_0_11_1 fe_0_12_1 fe_0_15_1 fe_0_11_2 fe_0_15_2 kz_0_11 kz_0_12 kz_0_15)⟩
  have nf3 : fc_1 PRD (20, [0], [50, 3, 0, 12, 11, 15, 2, 21, 4, 7, 1, 3, 2, 0, 12, 0, 1, 0, 3, 2, 0, 11, 4, 3, 2, 0, 15, 0, 8, 3, 7, 1, 3, 2, 0, 12, 0, 0, 0, 7, 4, 3, 2, 0, 15, 0, 1, 2, 0, 11]) ws (vs) := ⟨nf_in hl rfl, sgq_1398 (vc_Mo_next_48_3 (v_iv (n_v vs 9)) (v_iv (n_v vs 10)) (v_iv (n_v vs 12)) (w_fi ws (n_v vs 0) 15) (w_fi w1 (n_v vs 0) 11) (w_fi w1 (n_v vs 0) 15) (w_fi w2 (n_v vs 0) 15) (w_fi w2 (n_v vs 0) 11) (w_fi ws (n_v vs 0) 11) (w_fi ws (n_v vs 0) 12) (w_fi w1 (n_v vs 0) 12) k9 k10 k12 d0 g4 f6 fe_0_11_1 fe_0_12_1 fe_0_15_1 fe_0_11_2 fe_0_12_2 fe_0_15_2 kz_0_11 kz_0_12 kz_0_15)⟩
  have nf4 : fc_1 PRD (20, [1, 0], [30, 0, 1, 0, 0, -1, 1, 15]) ws (vs) := ⟨nf_in hl rfl, sgq_1396 (vc_Mo_next_48_4 (v_iv (n_v vs 1)) (w_fi ws (n_v vs 0) 15) (w_fi w1 (n_v vs 0) 11) (w_fi w1 (n_v vs 0) 15) (w_fi w2 (n_v vs 0) 15) (w_fi w2 (n_v vs 0) 11) (w_fi ws (n_v vs 0) 12) (w_fi w1 (n_v vs 0) 12) k1 f8 fe_0_12_1 fe_0_15_1 fe_0_11_2 fe_0_15_2 kz_0_12 kz_0_15)⟩
  refine ⟨(fun _ h => (by cases h)), [], trivial, ?_, (fun _ h => (by cases h))⟩
  rw [List.append_nil]
  exact List.forall_mem_cons.mpr ⟨⟨show (20 : Nat) < 100 from by decide, nf0⟩, List.forall_mem_cons.mpr ⟨⟨show (20 : Nat) < 100 from by decide, nf1⟩, List.forall_mem_cons.mpr ⟨⟨show (20 : Nat) < 100 from by decide, nf2⟩, List.forall_mem_cons.mpr ⟨⟨show (20 : Nat) < 100 from by decide, nf3⟩, List.forall_mem_cons.mpr ⟨⟨show (20 : Nat) < 100 from by decide, nf4⟩, (fun _ h => (by cases h))⟩⟩⟩⟩⟩
set_option maxHeartbeats 4000000 in
theorem vc_Mo_next_49_0 (from_0 : Int) (pos_0 : Int) (f1 : 1 * from_0 + ((-1) * pos_0 + 0) ≤ 0) (kz_0_11 : 0 ≤ pos_0 ∧ pos_0 ≤ 2000) (kz_0_15 : 0 ≤ from_0 ∧ from_0 ≤ 2000) : 1 * from_0 + ((-1) * pos_0 + 0) ≤ 0 := by
  first | assumption | omega | grind
set_option maxHeartbeats 4000000 in
theorem vc_Mo_next_49_1 (from_0 : Int) (pos_0 : Int) (kind_0 : Int) (f2 : ((kind_0 = 1) → (pos_0 ≤ (from_0 + 8))) ∧ ((kind_0 = 0) ∨ ((from_0 + 1) ≤ pos_0))) (kz_0_11 : 0 ≤ pos_0 ∧ pos_0 ≤ 2000) (kz_0_12 : 0 ≤ kind_0 ∧ kind_0 ≤ 4) (kz_0_15 : 0 ≤ from_0 ∧ from_0 ≤ 2000) : ((kind_0 = 1) → (pos_0 ≤ (from_0 + 8))) ∧ ((kind_0 = 0) ∨ ((from_0 + 1) ≤ pos_0)) := by
  first | assumption | omega | grind
set_option maxHeartbeats 4000000 in
theorem vc_Mo_next_49_2 (x1 : Int) (from_0 : Int) (k1 : 0 ≤ x1 ∧ x1 ≤ 2000) (f0 : 1 * x1 + ((-1) * from_0 + 0) ≤ 0) (kz_0_15 : 0 ≤ from_0 ∧ from_0 ≤ 2000) : 1 * x1 + ((-1) * from_0 + 0) ≤ 0 := by
  first | assumption | omega | grind
def o_Mo_next_49 : or_T := (354, 9, [(0, (2, 0, 0, [165])), (1, (0, 0, 2000, [])), (2, (2, 0, 0, [165]))], [(20, [1, 2], [30, 0, 1, 0, 0, -1, 1, 15]), (20, [2, 2], [30, 0, 1, 1, 15, -1, 1, 11]), (20, [2], [50, 3, 0, 12, 11, 15, 2, 21, 4, 7, 1, 3, 2, 0, 12, 0, 1, 0, 3, 2, 0, 11, 4, 3, 2, 0, 15, 0, 8, 3, 7, 1, 3, 2, 0, 12, 0, 0, 0, 7, 4, 3, 2, 0, 15, 0, 1, 2, 0, 11]), (24, [0, 2], [])], [], [], [(20, [0, 0], [30, 0, 1, 1, 15, -1, 1, 11]), (20, [0], [50, 3, 0, 12, 11, 15, 2, 21, 4, 7, 1, 3, 2, 0, 12, 0, 1, 0, 3, 2, 0, 11, 4, 3, 2, 0, 15, 0, 8, 3, 7, 1, 3, 2, 0, 12, 0, 0, 0, 7, 4, 3, 2, 0, 15, 0, 1, 2, 0, 11]), (20, [1, 0], [30, 0, 1, 0, 0, -1, 1, 15])], [], [])
theorem oo_Mo_next_49 {kA : Nat → ClassId} : or_ok PRD kA GG o_Mo_next_49 := by
  refine or_mk fun A ta ws vs hD hth hl => ?_
  intro t0 r0 t1 k1 t2 r2 f0 f1 f2 f3
  replace f0 := shm_1396 f0
  replace f1 := shm_1397 f1
  replace f2 := shm_1398 f2
  replace f3 := shm_5 f3
  have q2 : n_v vs 2 = n_v vs 0 := f3.symm
  simp only [q2] at f0 f1 f2
  have kz_0_11 := fdq_273 hD hth r0
  have kz_0_12 := fdq_186 hD hth r0
  have kz_0_15 := fdq_274 hD hth r0
  have nf0 : fc_1 PRD (20, [0, 0], [30, 0, 1, 1, 15, -1, 1, 11]) ws (vs) := ⟨nf_in hl rfl, sgq_1397 (vc_Mo_next_49_0 (w_fi ws (n_v vs 0) 15) (w_fi ws (n_v vs 0) 11) f1 kz_0_11 kz_0_15)⟩
  have nf1 : fc_1 PRD (20, [0], [50, 3, 0, 12, 11, 15, 2, 21, 4, 7, 1, 3, 2, 0, 12, 0, 1, 0, 3, 2, 0, 11, 4, 3, 2, 0, 15, 0, 8, 3, 7, 1, 3, 2, 0, 12, 0, 0, 0, 7, 4, 3, 2, 0, 15, 0, 1, 2, 0, 11]) ws (vs) := ⟨nf_in hl rfl, sgq_1398 (vc_Mo_next_49_1 (w_fi ws (n_v vs 0) 15) (w_fi ws (n_v vs 0) 11) (w_fi ws (n_v vs 0) 12) f2 kz_0_11 kz_0_12 kz_0_15)⟩
  have nf2 : fc_1 PRD (20, [1, 0], [30, 0, 1, 0, 0, -1, 1, 15]) ws (vs) := ⟨nf_in hl rfl, sgq_1396 (vc_Mo_next_49_2 (v_iv (n_v vs 1)) (w_fi ws (n_v vs 0) 15) k1 f0 kz_0_15)⟩
  refine ⟨(fun _ h => (by cases h)), [], trivial, ?_, (fun _ h => (by cases h))⟩
  rw [List.append_nil]
  exact List.forall_mem_cons.mpr ⟨⟨show (20 : Nat) < 100 from by decide, nf0⟩, List.forall_mem_cons.mpr ⟨⟨show (20 : Nat) < 100 from by decide, nf1⟩, List.forall_mem_cons.mpr ⟨⟨show (20 : Nat) < 100 from by decide, nf2⟩, (fun _ h => (by cases h))⟩⟩⟩
def n_Mo_next_an : List an_T := [(0, [(0, (2, 0, 0, [165]))], [], (0, 0), [(0, 0, 100000), (1, 3, 2000), (0, 0, 100000)], [], [((0, 11), (0, 0, 2000, []))], [(2, 0, 0, [165]), (0, 0, 2000, [])], 0, [], [(20, [1, 2], [30, 0, 1, 0, 0, (Int.negSucc 0), 1, 11]), (24, [0, 2], [])]), (39, [(0, (2, 0, 0, [165]))], [], (0, 0), [(0, 0, 99961), (0, 0, 0), (0, 0, 0)], [], [((0, 11), (0, 0, 2000, []))], [(2, 0, 0, [165]), (0, 0, 2000, [])], 0, [], [(20, [1, 2], [30, 0, 1, 0, 0, (Int.negSucc 0), 1, 11]), (24, [0, 2], [])]), (93, [(0, (2, 0, 0, [165])), (1, (0, 65, 122, []))], [], (0, 0), [(0, 0, 99907), (1, 4, 2000), (0, 0, 100000)], [], [((0, 11), (0, 0, 2000, []))], [(2, 0, 0, [165]), (0, 0, 2000, [])], 0, [], [(20, [1, 2], [30, 0, 1, 0, 0, (Int.negSucc 0), 1, 15]), (20, [2], [50, 3, 1, 15, 11, 10, 1, 2, 8, 0, 3, 2, 0, 15, 2, 0, 11, 3, 12, 0, 7, 4, 3, 2, 0, 15, 0, 1, 2, 0, 11, 2, 8, 1, 3, 2, 0, 11, 2, 0, 15, 2, 12, 0, 7, 4, 3, 2, 0, 15, 0, 1, 2, 0, 10, 3, 30, 2, 14, 0, 2, 0, 65, 9, 6, 3, 0, 1, 2, 0, 15, 0, 256, 0, 10, 9, 6, 3, 0, 1, 2, 0, 15, 0, 256, 0, 90, 2, 14, 0, 2, 0, 97, 9, 6, 3, 0, 1, 2, 0, 15, 0, 256, 0, 10, 9, 6, 3, 0, 1, 2, 0, 15, 0, 256, 0, 122]), (24, [0, 2], [])]), (134, [(0, (2, 0, 0, [165])), (1, (0, 65, 122, []))], [], (0, 0), [(0, 0, 99907), (1, 4, 2000), (0, 0, 99866)], [], [((0, 11), (0, 0, 1999, []))], [(2, 0, 0, [165]), (0, 0, 2000, [])], 0, [], [(20, [1, 2], [30, 0, 1, 0, 0, (Int.negSucc 0), 1, 15]), (20, [2], [50, 3, 1, 15, 11, 10, 1, 2, 8, 0, 3, 2, 0, 15, 2, 0, 11, 3, 12, 0, 7, 4, 3, 2, 0, 15, 0, 1, 2, 0, 11, 2, 8, 1, 3, 2, 0, 11, 2, 0, 15, 2, 12, 0, 7, 4, 3, 2, 0, 15, 0, 1, 2, 0, 10, 3, 30, 2, 14, 0, 2, 0, 65, 9, 6, 3, 0, 1, 2, 0, 15, 0, 256, 0, 10, 9, 6, 3, 0, 1, 2, 0, 15, 0, 256, 0, 90, 2, 14, 0, 2, 0, 97, 9, 6, 3, 0, 1, 2, 0, 15, 0, 256, 0, 10, 9, 6, 3, 0, 1, 2, 0, 15, 0, 256, 0, 122]), (24, [0, 2], [])]), (147, [(0, (2, 0, 0, [165])), (1, (0, 65, 122, []))], [], (0, 0), [(0, 0, 99853), (0, 0, 0), (0, 0, 0)], [], [((0, 11), (0, 0, 2000, []))], [(2, 0, 0, [165]), (0, 0, 2000, [])], 0, [], [(20, [1, 2], [30, 0, 1, 0, 0, (Int.negSucc 0), 1, 15]), (20, [2], [50, 2, 0, 15, 11, 0, 7, 4, 3, 2, 0, 15, 0, 1, 2, 0, 11]), (24, [0, 2], [])]), (185, [(0, (2, 0, 0, [165])), (1, (0, 48, 57, []))], [], (0, 0), [(0, 0, 99815), (1, 5, 2000), (0, 0, 100000)], [], [((0, 14), (0, (Int.negSucc 2147483647), 2147483647, [])), ((0, 11), (0, 0, 2000, []))], [(2, 0, 0, [165]), (0, 0, 2000, [])], 0, [], [(20, [1, 2], [30, 0, 1, 0, 0, (Int.negSucc 0), 1, 15]), (20, [2], [50, 3, 1, 15, 11, 10, 1, 2, 8, 0, 3, 2, 0, 15, 2, 0, 11, 3, 12, 0, 7, 4, 3, 2, 0, 15, 0, 1, 2, 0, 11, 2, 8, 1, 3, 2, 0, 11, 2, 0, 15, 2, 12, 0, 7, 4, 3, 2, 0, 15, 0, 1, 2, 0, 10, 2, 14, 0, 2, 0, 48, 9, 6, 3, 0, 1, 2, 0, 15, 0, 256, 0, 10, 9, 6, 3, 0, 1, 2, 0, 15, 0, 256, 0, 57]), (24, [0, 2], [])]), (252, [(0, (2, 0, 0, [165])), (1, (0, 48, 57, []))], [], (0, 0), [(0, 0, 99748), (0, 0, 0), (0, 0, 0)], [], [((0, 14), (0, (Int.negSucc 2147483647), 2147483647, [])), ((0, 11), (0, 0, 2000, []))], [(2, 0, 0, [165]), (0, 0, 2000, [])], 0, [], [(20, [1, 2], [30, 0, 1, 0, 0, (Int.negSucc 0), 1, 15]), (20, [2], [50, 2, 0, 15, 11, 0, 7, 4, 3, 2, 0, 15, 0, 1, 2, 0, 11]), (24, [0, 2], [])]), (277, [(0, (2, 0, 0, [165])), (1, (0, 0, 255, []))], [], (0, 0), [(0, 0, 99723), (0, 0, 0), (0, 0, 0)], [(3, 4, (Int.negSucc 999999999999), 0), (4, 3, (Int.negSucc 999999999999), 0), (6, 7, (Int.negSucc 999999999999), 0), (6, 8, (Int.negSucc 999999999999), 0), (7, 6, (Int.negSucc 999999999999), 0), (7, 8, (Int.negSucc 999999999999), 0), (8, 6, (Int.negSucc 999999999999), 0), (8, 7, (Int.negSucc 999999999999), 0)], [((0, 14), (0, 0, 255, [])), ((0, 12), (0, 4, 4, [])), ((0, 15), (0, 0, 1999, [])), ((0, 13), (0, 0, 1999, [])), ((0, 11), (0, 0, 1999, []))], [(2, 0, 0, [165]), (0, 0, 2000, [])], 0, [], [(20, [1, 2], [30, 0, 1, 0, 0, (Int.negSucc 0), 1, 15]), (20, [2], [50, 2, 0, 11, 15, 1, 3, 2, 0, 11, 2, 0, 15]), (24, [0, 2], [])]), (325, [(0, (2, 0, 0, [165])), (1, (0, 45, 125, []))], [], (0, 0), [(0, 0, 99675), (0, 0, 0), (0, 0, 0)], [(3, 4, (Int.negSucc 999999999999), 0), (4, 3, (Int.negSucc 999999999999), 0), (6, 7, (Int.negSucc 999999999999), 0), (6, 8, (Int.negSucc 999999999999), 0), (7, 6, (Int.negSucc 999999999999), 0), (7, 8, (Int.negSucc 999999999999), 0), (8, 6, (Int.negSucc 999999999999), 0), (8, 7, (Int.negSucc 999999999999), 0)], [((0, 14), (0, 45, 125, [])), ((0, 12), (0, 4, 4, [])), ((0, 15), (0, 0, 1999, [])), ((0, 13), (0, 0, 1999, [])), ((0, 11), (0, 0, 1999, []))], [(2, 0, 0, [165]), (0, 0, 2000, [])], 0, [], [(20, [1, 2], [30, 0, 1, 0, 0, (Int.negSucc 0), 1, 15]), (20, [2], [50, 2, 0, 11, 15, 1, 3, 2, 0, 11, 2, 0, 15]), (24, [0, 2], [])]), (330, [(0, (2, 0, 0, [165])), (1, (0, 0, 255, []))], [(0, 0, 1, [])], (0, 0), [(0, 0, 99670), (0, 0, 0), (0, 0, 0)], [(3, 5, (Int.negSucc 999999999999), 0), (4, 3, (Int.negSucc 999999999999), 0), (4, 5, (Int.negSucc 999999999999), 0), (5, 3, (Int.negSucc 999999999999), 0), (7, 8, (Int.negSucc 999999999999), 0), (7, 9, (Int.negSucc 999999999999), 0), (8, 7, (Int.negSucc 999999999999), 0), (8, 9, (Int.negSucc 999999999999), 0), (9, 7, (Int.negSucc 999999999999), 0), (9, 8, (Int.negSucc 999999999999), 0)], [((0, 14), (0, 0, 255, [])), ((0, 12), (0, 4, 4, [])), ((0, 15), (0, 0, 1999, [])), ((0, 13), (0, 0, 1999, [])), ((0, 11), (0, 0, 1999, []))], [(2, 0, 0, [165]), (0, 0, 2000, [])], 0, [], [(20, [1, 2], [30, 0, 1, 0, 0, (Int.negSucc 0), 1, 15]), (20, [2], [50, 2, 0, 11, 15, 1, 3, 2, 0, 11, 2, 0, 15]), (24, [0, 2], [])]), (354, [(0, (2, 0, 0, [165])), (1, (0, (Int.negSucc 0), 255, []))], [], (0, 0), [(0, 0, 99646), (0, 0, 0), (0, 0, 0)], [(3, 4, (Int.negSucc 999999999999), 252), (3, 5, (Int.negSucc 999999999999), 2147483770), (3, 8, (Int.negSucc 999999999999), 254), (4, 3, (Int.negSucc 999999999999), 4), (4, 8, (Int.negSucc 999999999999), 3), (5, 3, (Int.negSucc 999999999999), 2147483599)], [((0, 12), (0, 0, 4, [])), ((0, 14), (0, (Int.negSucc 2147483647), 2147483647, [])), ((0, 15), (0, 0, 2000, [])), ((0, 13), (0, 0, 2000, [])), ((0, 11), (0, 0, 2000, []))], [(2, 0, 0, [165]), (0, 0, 2000, [])], 0, [], [(20, [1, 2], [30, 0, 1, 0, 0, (Int.negSucc 0), 1, 15]), (20, [2, 2], [30, 0, 1, 1, 15, (Int.negSucc 0), 1, 11]), (20, [2], [50, 3, 0, 12, 11, 15, 2, 21, 4, 7, 1, 3, 2, 0, 12, 0, 1, 0, 3, 2, 0, 11, 4, 3, 2, 0, 15, 0, 8, 3, 7, 1, 3, 2, 0, 12, 0, 0, 0, 7, 4, 3, 2, 0, 15, 0, 1, 2, 0, 11]), (24, [0, 2], [])])]
def t_Mo_next_ct : ct_L := [(0, 440, e_Mo_isLetter), (0, 444, e_Mo_isDigit), (1, 425, e_Mo_byteAt)]
