section

set_option maxHeartbeats 4000000 in
theorem vc_Mo_bendsBecome_22_0 (x3 : Int) (x5 : Int) (x6 : Int) (x7 : Int) (x9 : Int) (x10 : Int) (x11 : Int) (x12 : Int) (x13 : Int) (x14 : Int) (x15 : Int) (x17 : Int) (x18 : Int) (x19 : Int) (x20 : Int) (x21 : Int) (x22 : Int) (costOf_0 : Int → Int) (barredPoint_0 : Int → Int) (wide_0 : Int) (tall_0 : Int) (k3 : 0 ≤ x3 ∧ x3 ≤ 5999) (k5 : 0 ≤ x5 ∧ x5 ≤ 2147483647) (k6 : 0 ≤ x6 ∧ x6 ≤ 5999) (k7 : 0 ≤ x7 ∧ x7 ≤ 3) (k9 : 0 ≤ x9 ∧ x9 ≤ 1000000) (k10 : (-1) ≤ x10 ∧ x10 ≤ 3) (k11 : 0 ≤ x11 ∧ x11 ≤ 999999) (k12 : 0 ≤ x12 ∧ x12 ≤ 3) (k13 : (-2) ≤ x13 ∧ x13 ≤ 1000000) (k14 : 0 ≤ x14 ∧ x14 ≤ 5999) (k15 : 1 ≤ x15 ∧ x15 ≤ 1) (k17 : 4 ≤ x17 ∧ x17 ≤ 4) (k18 : 0 ≤ x18 ∧ x18 ≤ 23996) (k19 : 0 ≤ x19 ∧ x19 ≤ 23999) (k20 : 0 ≤ x20 ∧ x20 ≤ 1000000) (k21 : (-1) ≤ x21 ∧ x21 ≤ 999999) (k22 : (-1) ≤ x22 ∧ x22 ≤ 2) (d0 : x12 + (-1) ≤ x22 ∧ x22 ≤ x12 + (-1)) (d1 : x7 + (-1) ≤ x22 ∧ x22 ≤ x7 + (-1)) (d2 : x9 + (-1) ≤ x21 ∧ x21 ≤ x9 + (-1)) (d3 : x12 + 0 ≤ x19 ∧ x19 ≤ x12 + 23996) (d4 : x7 + 0 ≤ x19 ∧ x19 ≤ x7 + 23996) (d5 : x18 + 0 ≤ x19 ∧ x19 ≤ x18 + 3) (d6 : x7 + 0 ≤ x12 ∧ x12 ≤ x7 + 0) (d7 : x9 + (-4294967296) ≤ x10 ∧ x10 ≤ x9 + 2) (d8 : x9 + (-4294967296) ≤ x11 ∧ x11 ≤ x9 + 0) (f0 : x22 = x12 + (-1)) (f1 : x20 ≠ x21) (f2 : x21 = x9 - x15) (h3 : x20 = costOf_0 (x19)) (f4 : x19 = x18 + x12) (f5 : x18 = 4 * x14) (f7 : 0 ≤ x14) (f8 : x12 = x7) (f9 : STQ (wide_0) (tall_0) (barredPoint_0) (x6) (x12) (x14)) (f10 : ((-1) ≤ x14) ∧ ((x14 + 1) ≤ (wide_0 * tall_0))) (f11 : 0 ≤ x12) (f12 : GRX (wide_0) (tall_0)) (f13 : RTV (wide_0) (tall_0) (barredPoint_0) (costOf_0) (x3)) (f14 : (0 ≤ x3) ∧ ((x3 + 1) ≤ (wide_0 * tall_0))) (f15 : BB2 (wide_0) (tall_0) (barredPoint_0) (costOf_0) (x6) (x7) (x9)) (f16 : (0 ≤ x6) ∧ ((x6 + 1) ≤ (wide_0 * tall_0))) (f17 : (x5 + x9) ≤ 1000000) (f18 : 0 ≤ x5) (f19 : x6 ≠ x3) (f20 : BB3 (wide_0) (tall_0) (barredPoint_0) (costOf_0) (x6) (x7) (x9) (x10) (x11) (x12)) (f21 : (0 ≤ x9) ∧ (x9 ≤ x13)) (f22 : (-1) * x13 + 0 ≤ (-1)) (hK_0_140 : ∀ j : Int, 0 ≤ j → j < 24000 → 0 ≤ costOf_0 j ∧ costOf_0 j ≤ 1000000) (hK_0_143 : ∀ j : Int, 0 ≤ j → j < 6000 → 0 ≤ barredPoint_0 j ∧ barredPoint_0 j ≤ 1) (kz_0_146 : (-3999999) ≤ wide_0 ∧ wide_0 ≤ 600000023) (kz_0_147 : (-3999999) ≤ tall_0 ∧ tall_0 ≤ 600000007) : BB3 (wide_0) (tall_0) (barredPoint_0) (costOf_0) (x6) (x7) (x9) (x10) (x11) (x22) := by
  first
    | exact bb3_start (by omega) (by omega)
    | exact bb3_skip (w := x15) (x := x14) (v := x14) ‹BB3 _ _ _ _ _ _ _ _ _ _› (by omega) ‹STQ _ _ _ _ _ _› (by omega) (Or.inl (by omega))
    | exact bb3_skip (w := 1) (x := x14) (v := x14) ‹BB3 _ _ _ _ _ _ _ _ _ _› (by omega) ‹STQ _ _ _ _ _ _› (Or.inl ⟨by omega, rfl⟩) (Or.inl (by omega))
    | exact bb3_skip (w := 3) (x := x14) (v := x14) ‹BB3 _ _ _ _ _ _ _ _ _ _› (by omega) ‹STQ _ _ _ _ _ _› (Or.inr ⟨by omega, rfl⟩) (Or.inl (by omega))
    | exact bb3_skip (w := x15) (x := x19) (v := x20) ‹BB3 _ _ _ _ _ _ _ _ _ _› (by omega) ‹STQ _ _ _ _ _ _› (by omega) (Or.inr ⟨by omega, by assumption, by omega⟩)
    | exact bb3_take (q := x14) (x := x19) (v := x20) (w := x15) ‹STQ _ _ _ _ _ _› (by omega) (by omega) (by omega) (by omega) (by assumption) (by omega) (by omega) (by omega) (by omega)
  
def o_Mo_bendsBecome_22 : or_T := (127, 23, [(0, (2, 0, 0, [165])), (3, (0, 0, 5999, [])), (5, (0, 0, 2147483647, [])), (6, (0, 0, 5999, [])), (7, (0, 0, 3, [])), (9, (0, 0, 1000000, [])), (10, (0, -1, 3, [])), (11, (0, 0, 999999, [])), (12, (0, 0, 3, [])), (13, (0, -2, 1000000, [])), (14, (0, 0, 5999, [])), (15, (0, 1, 1, [])), (16, (2, 0, 0, [266])), (17, (0, 4, 4, [])), (18, (0, 0, 23996, [])), (19, (0, 0, 23999, [])), (20, (0, 0, 1000000, [])), (21, (0, -1, 999999, [])), (22, (0, -1, 2, []))], [(6, [22, 12], [-1]), (7, [20, 21], [1]), (2, [21, 9, 15], []), (10, [20, 16, 19], []), (1, [19, 18, 12], []), (3, [18, 17, 14], []), (9, [16, 0], [140]), (8, [14], [3]), (7, [12, 7], [0]), (20, [0, 6, 12, 14], [60, 2, 1, 505, 146, 147, 143]), (20, [14, 0], [50, 2, 0, 1146, 1147, 2, 6, 0, 2, 0, -1, 1, 0, 0, 6, 4, 2, 1, 0, 0, 1, 6, 3, 2, 1, 146, 2, 1, 147]), (8, [12], [3]), (20, [0], [60, 2, 0, 494, 146, 147]), (20, [0, 3], [60, 2, 2, 504, 146, 147, 143, 140]), (20, [3, 0], [50, 2, 0, 1146, 1147, 2, 6, 0, 2, 0, 0, 1, 0, 0, 6, 4, 2, 1, 0, 0, 1, 6, 3, 2, 1, 146, 2, 1, 147]), (20, [0, 6, 7, 9], [60, 2, 2, 507, 146, 147, 143, 140]), (20, [6, 0], [50, 2, 0, 1146, 1147, 2, 6, 0, 2, 0, 0, 1, 0, 0, 6, 4, 2, 1, 0, 0, 1, 6, 3, 2, 1, 146, 2, 1, 147]), (20, [5, 9], [50, 0, 0, 0, 6, 4, 2, 1, 0, 1, 1, 0, 1000000]), (20, [5], [50, 0, 0, 0, 2, 0, 0, 1, 0]), (20, [6, 3], [50, 0, 0, 7, 2, 1, 0, 1, 1]), (20, [0, 6, 7, 9, 10, 11, 12], [60, 2, 2, 508, 146, 147, 143, 140]), (20, [9, 13], [50, 0, 0, 2, 6, 0, 2, 0, 0, 1, 0, 0, 2, 1, 0, 1, 1]), (23, [13], [-1, -1])], [], [], [(20, [0, 6, 7, 9, 10, 11, 22], [60, 2, 2, 508, 146, 147, 143, 140])], [], [(22, 12, -1, -1), (22, 7, -1, -1), (21, 9, -1, -1), (19, 12, 0, 23996), (19, 7, 0, 23996), (19, 18, 0, 3), (12, 7, 0, 0), (10, 9, -4294967296, 2), (11, 9, -4294967296, 0)])
theorem oo_Mo_bendsBecome_22 {kA : Nat → ClassId} : or_ok PRD kA GG o_Mo_bendsBecome_22 := by
  refine or_mk fun A ta ws vs hD hth hl => ?_
  intro t0 r0 t3 k3 t5 k5 t6 k6 t7 k7 t9 k9 t10 k10 t11 k11 t12 k12 t13 k13 t14 k14 t15 k15 t16 r16 t17 k17 t18 k18 t19 k19 t20 k20 t21 k21 t22 k22 d0 d1 d2 d3 d4 d5 d6 d7 d8 f0 f1 f2 f3 f4 f5 f6 f7 f8 f9 f10 f11 f12 f13 f14 f15 f16 f17 f18 f19 f20 f21 f22
  replace f3 := shm_107 f3
  replace f5 := shm_38 f5
  rw [show v_iv (n_v vs 17) = 4 from by omega] at f5
  replace f6 := shm_703 f6
  have cr_0_140 := fdq_175 hD hth r0
  have cr_0_143 := fdq_178 hD hth r0
  have ad_16 : v_ad (n_v vs 16) = w_ar ws (n_v vs 0) 140 := congrArg v_ad f6
  simp only [ad_16] at f3
  have h3 : v_iv (n_v vs 20) = w_ei ws (w_ar ws (n_v vs 0) 140) (v_iv (n_v vs 19)) := f3
  have hK_0_140 := elq_104 hD hth cr_0_140
  have hK_0_143 := elq_107 hD hth cr_0_143
  have kz_0_146 := fdq_179 hD hth r0
  have kz_0_147 := fdq_180 hD hth r0
  have nf0 : fc_1 PRD (20, [0, 6, 7, 9, 10, 11, 22], [60, 2, 2, 508, 146, 147, 143, 140]) ws (vs) := ⟨nf_in hl rfl, sgq_1415 (vc_Mo_bendsBecome_22_0 (v_iv (n_v vs 3)) (v_iv (n_v vs 5)) (v_iv (n_v vs 6)) (v_iv (n_v vs 7)) (v_iv (n_v vs 9)) (v_iv (n_v vs 10)) (v_iv (n_v vs 11)) (v_iv (n_v vs 12)) (v_iv (n_v vs 13)) (v_iv (n_v vs 14)) (v_iv (n_v vs 15)) (v_iv (n_v vs 17)) (v_iv (n_v vs 18)) (v_iv (n_v vs 19)) (v_iv (n_v vs 20)) (v_iv (n_v vs 21)) (v_iv (n_v vs 22)) (w_ei ws (w_ar ws (n_v vs 0) 140)) (w_ei ws (w_ar ws (n_v vs 0) 143)) (w_fi ws (n_v vs 0) 146) (w_fi ws (n_v vs 0) 147) k3 k5 k6 k7 k9 k10 k11 k12 k13 k14 k15 k17 k18 k19 k20 k21 k22 d0 d1 d2 d3 d4 d5 d6 d7 d8 (shm_186 f0) (shm_40 f1) (shm_14 f2) h3 (shm_12 f4) f5 (shm_32 f7) (shm_37 f8) (shm_1291 f9) (shm_1292 f10) (shm_32 f11) (shm_1289 f12) (shm_1411 f13) (shm_1290 f14) (shm_1413 f15) (shm_1290 f16) (shm_1414 f17) (shm_722 f18) (shm_406 f19) (shm_1415 f20) (shm_366 f21) (shm_626 f22) hK_0_140 hK_0_143 kz_0_146 kz_0_147)⟩
  refine ⟨(fun _ h => (by cases h)), [], trivial, ?_, (fun _ h => (by cases h))⟩
  rw [List.append_nil]
  exact List.forall_mem_cons.mpr ⟨⟨show (20 : Nat) < 100 from by decide, nf0⟩, (fun _ h => (by cases h))⟩
def n_Mo_bendsBecome_an : List an_T := [(22, [(0, (2, 0, 0, [165])), (1, (0, 0, 47, [])), (2, (0, 0, 5999, [])), (3, (0, 0, 5999, [])), (4, (0, 1, 1, [])), (5, (0, 0, 0, [])), (6, (0, 0, 5999, [])), (7, (0, (Int.negSucc 0), 3, [])), (8, (0, 1, 1000001, [])), (9, (0, 0, 4, []))], [], (0, 0), [(0, 0, 99978), (1, 9, 4), (0, 0, 100000), (0, 0, 0), (0, 0, 0)], [(2, 6, (Int.negSucc 999999999999), 0), (6, 2, (Int.negSucc 999999999999), 0), (7, 9, (Int.negSucc 999999999999), (Int.negSucc 0)), (8, 7, (Int.negSucc 999999999999), 1000001), (8, 9, (Int.negSucc 999999999999), 1000000)], [], [], 0, [], [(20, [0], [60, 2, 0, 494, 146, 147]), (20, [0, 3], [60, 2, 2, 504, 146, 147, 143, 140]), (20, [3, 0], [50, 2, 0, 1146, 1147, 2, 6, 0, 2, 0, 0, 1, 0, 0, 6, 4, 2, 1, 0, 0, 1, 6, 3, 2, 1, 146, 2, 1, 147]), (20, [6, 0], [50, 2, 0, 1146, 1147, 2, 6, 0, 2, 0, 0, 1, 0, 0, 6, 4, 2, 1, 0, 0, 1, 6, 3, 2, 1, 146, 2, 1, 147]), (20, [0, 6, 7, 8, 9], [60, 2, 2, 506, 146, 147, 143, 140]), (20, [5], [50, 0, 0, 1, 2, 1, 0, 0, 0])]), (112, [(0, (2, 0, 0, [165])), (1, (0, 0, 47, [])), (2, (0, 0, 5999, [])), (3, (0, 0, 5999, [])), (4, (0, 1, 1, [])), (5, (0, 0, 2147483647, [])), (6, (0, 0, 5999, [])), (7, (0, 0, 3, [])), (8, (0, 1, 1000001, [])), (9, (0, 0, 1000000, []))], [], (0, 0), [(0, 0, 99888), (2, 10, (Int.negSucc 1)), (0, 0, 100000), (0, 0, 0), (0, 0, 0)], [(9, 8, (Int.negSucc 999999999999), (Int.negSucc 0))], [], [], 0, [(0, (Int.negSucc 1), 1000000, [])], [(20, [0], [60, 2, 0, 494, 146, 147]), (20, [0, 3], [60, 2, 2, 504, 146, 147, 143, 140]), (20, [3, 0], [50, 2, 0, 1146, 1147, 2, 6, 0, 2, 0, 0, 1, 0, 0, 6, 4, 2, 1, 0, 0, 1, 6, 3, 2, 1, 146, 2, 1, 147]), (20, [0, 6, 7, 9], [60, 2, 2, 507, 146, 147, 143, 140]), (20, [6, 0], [50, 2, 0, 1146, 1147, 2, 6, 0, 2, 0, 0, 1, 0, 0, 6, 4, 2, 1, 0, 0, 1, 6, 3, 2, 1, 146, 2, 1, 147]), (20, [5, 9], [50, 0, 0, 0, 6, 4, 2, 1, 0, 1, 1, 0, 1000000]), (20, [5], [50, 0, 0, 0, 2, 0, 0, 1, 0]), (20, [9, 10], [50, 0, 0, 2, 6, 0, 2, 0, 0, 1, 0, 0, 2, 1, 0, 1, 1])]), (127, [(0, (2, 0, 0, [165])), (1, (0, 0, 47, [])), (2, (0, 0, 5999, [])), (3, (0, 0, 5999, [])), (4, (0, 1, 1, [])), (5, (0, 0, 2147483647, [])), (6, (0, 0, 5999, [])), (7, (0, 0, 3, [])), (8, (0, 1, 1000001, [])), (9, (0, 0, 1000000, [])), (10, (0, (Int.negSucc 0), 3, [])), (11, (0, 0, 999999, [])), (12, (0, (Int.negSucc 0), 3, []))], [], (0, 0), [(0, 0, 99888), (2, 13, (Int.negSucc 1)), (0, 0, 99873), (2, 12, (Int.negSucc 0)), (0, 0, 100000)], [(9, 8, (Int.negSucc 999999999999), (Int.negSucc 0)), (10, 8, (Int.negSucc 999999999999), 1), (10, 9, (Int.negSucc 999999999999), 2), (11, 8, (Int.negSucc 999999999999), (Int.negSucc 0)), (11, 9, (Int.negSucc 999999999999), 0)], [], [], 0, [(0, (Int.negSucc 1), 1000000, [])], [(20, [0], [60, 2, 0, 494, 146, 147]), (20, [0, 3], [60, 2, 2, 504, 146, 147, 143, 140]), (20, [3, 0], [50, 2, 0, 1146, 1147, 2, 6, 0, 2, 0, 0, 1, 0, 0, 6, 4, 2, 1, 0, 0, 1, 6, 3, 2, 1, 146, 2, 1, 147]), (20, [0, 6, 7, 9], [60, 2, 2, 507, 146, 147, 143, 140]), (20, [6, 0], [50, 2, 0, 1146, 1147, 2, 6, 0, 2, 0, 0, 1, 0, 0, 6, 4, 2, 1, 0, 0, 1, 6, 3, 2, 1, 146, 2, 1, 147]), (20, [5, 9], [50, 0, 0, 0, 6, 4, 2, 1, 0, 1, 1, 0, 1000000]), (20, [5], [50, 0, 0, 0, 2, 0, 0, 1, 0]), (20, [6, 3], [50, 0, 0, 7, 2, 1, 0, 1, 1]), (20, [0, 6, 7, 9, 10, 11, 12], [60, 2, 2, 508, 146, 147, 143, 140]), (20, [9, 13], [50, 0, 0, 2, 6, 0, 2, 0, 0, 1, 0, 0, 2, 1, 0, 1, 1]), (23, [13], [(Int.negSucc 0), (Int.negSucc 0)])]), (310, [(0, (2, 0, 0, [165])), (1, (0, 0, 47, [])), (2, (0, 0, 5999, [])), (3, (0, 0, 5999, [])), (4, (0, 0, 1, [])), (5, (0, 0, 24, [])), (6, (0, 0, 5999, [])), (7, (0, (Int.negSucc 0), 3, [])), (8, (0, 0, 191, [])), (9, (0, 0, 24, []))], [], (0, 0), [(0, 0, 99690), (1, 9, 24), (0, 0, 100000), (0, 0, 0), (0, 0, 0)], [(1, 8, (Int.negSucc 999999999999), 0), (4, 7, (Int.negSucc 999999999999), 1), (7, 4, (Int.negSucc 999999999999), 2), (8, 1, (Int.negSucc 999999999999), 144), (9, 5, (Int.negSucc 999999999999), 0)], [], [], 0, [], [])]
def t_Mo_bendsBecome_ct : ct_L := [(1, 1076, e_Mo_stepTo)]
set_option maxRecDepth 100000 in
theorem c_Mo_bendsBecome {l : Launch} {D : va_G} {kA : Nat → ClassId} (h_Mo_stepTo : ct_ok PRD l D kA GG y_Mo_stepTo z_Mo_stepTo e_Mo_stepTo) : ct_ok PRD l D kA GG y_Mo_bendsBecome z_Mo_bendsBecome e_Mo_bendsBecome := chk_all_ok (FT := [(129, 13, 64), (132, 13, 65), (135, 13, 66), (317, 13, 140), (330, 13, 148), (333, 13, 149), (1020, 13, 139), (1037, 13, 144), (1040, 13, 145), (1043, 13, 146)]) (PT := []) (CT := t_Mo_bendsBecome_ct) (KT := [(1, 546, .int (1000000), (0, 1000000, 1000000, []))]) (NT := []) (AN := n_Mo_bendsBecome_an) (OT := [o_Mo_bendsBecome_0, o_Mo_bendsBecome_1, o_Mo_bendsBecome_2, o_Mo_bendsBecome_3, o_Mo_bendsBecome_4, o_Mo_bendsBecome_5, o_Mo_bendsBecome_6, o_Mo_bendsBecome_7, o_Mo_bendsBecome_8, o_Mo_bendsBecome_9, o_Mo_bendsBecome_10, o_Mo_bendsBecome_11, o_Mo_bendsBecome_12, o_Mo_bendsBecome_13, o_Mo_bendsBecome_14, o_Mo_bendsBecome_15, o_Mo_bendsBecome_16, o_Mo_bendsBecome_17, o_Mo_bendsBecome_18, o_Mo_bendsBecome_19, o_Mo_bendsBecome_20, o_Mo_bendsBecome_21, o_Mo_bendsBecome_22]) 5 1084 (List.forall_mem_cons.mpr ⟨oo_Mo_bendsBecome_0, List.forall_mem_cons.mpr ⟨oo_Mo_bendsBecome_1, List.forall_mem_cons.mpr ⟨oo_Mo_bendsBecome_2, List.forall_mem_cons.mpr ⟨oo_Mo_bendsBecome_3, List.forall_mem_cons.mpr ⟨oo_Mo_bendsBecome_4, List.forall_mem_cons.mpr ⟨oo_Mo_bendsBecome_5, List.forall_mem_cons.mpr ⟨oo_Mo_bendsBecome_6, List.forall_mem_cons.mpr ⟨oo_Mo_bendsBecome_7, List.forall_mem_cons.mpr ⟨oo_Mo_bendsBecome_8, List.forall_mem_cons.mpr ⟨oo_Mo_bendsBecome_9, List.forall_mem_cons.mpr ⟨oo_Mo_bendsBecome_10, List.forall_mem_cons.mpr ⟨oo_Mo_bendsBecome_11, List.forall_mem_cons.mpr ⟨oo_Mo_bendsBecome_12, List.forall_mem_cons.mpr ⟨oo_Mo_bendsBecome_13, List.forall_mem_cons.mpr ⟨oo_Mo_bendsBecome_14, List.forall_mem_cons.mpr ⟨oo_Mo_bendsBecome_15, List.forall_mem_cons.mpr ⟨oo_Mo_bendsBecome_16, List.forall_mem_cons.mpr ⟨oo_Mo_bendsBecome_17, List.forall_mem_cons.mpr ⟨oo_Mo_bendsBecome_18, List.forall_mem_cons.mpr ⟨oo_Mo_bendsBecome_19, List.forall_mem_cons.mpr ⟨oo_Mo_bendsBecome_20, List.forall_mem_cons.mpr ⟨oo_Mo_bendsBecome_21, List.forall_mem_cons.mpr ⟨oo_Mo_bendsBecome_22, List.forall_mem_nil _⟩⟩⟩⟩⟩⟩⟩⟩⟩⟩⟩⟩⟩⟩⟩⟩⟩⟩⟩⟩⟩⟩⟩) (by decide +kernel) ⟨List.forall_mem_cons.mpr ⟨gf_Mo_129, List.forall_mem_cons.mpr ⟨gf_Mo_132, List.forall_mem_cons.mpr ⟨gf_Mo_135, List.forall_mem_cons.mpr ⟨gf_Mo_317, List.forall_mem_cons.mpr ⟨gf_Mo_330, List.forall_mem_cons.mpr ⟨gf_Mo_333, List.forall_mem_cons.mpr ⟨gf_Mo_1020, List.forall_mem_cons.mpr ⟨gf_Mo_1037, List.forall_mem_cons.mpr ⟨gf_Mo_1040, List.forall_mem_cons.mpr ⟨gf_Mo_1043, List.forall_mem_nil _⟩⟩⟩⟩⟩⟩⟩⟩⟩⟩, List.forall_mem_nil _, List.forall_mem_cons.mpr ⟨cl_virtual (y := y_Mo_stepTo) (ci := 13) rfl rfl ⟨_, _, rfl⟩ (by decide +kernel) h_Mo_stepTo wm_3714 wm_9 wm_3711 wm_3713 wv_22_6 ⟨by decide, by decide, by decide +kernel⟩ (by decide), List.forall_mem_nil _⟩, List.forall_mem_cons.mpr ⟨kx_Mo_1_546, List.forall_mem_nil _⟩, List.forall_mem_nil _, GG_pl⟩ (by decide +kernel)

set_option maxHeartbeats 4000000 in
theorem vc_Mo_between_0_0 (x1 : Int) (x2 : Int) (x3 : Int) (all_0 : Int → Int) (r_0 : Int) (k1 : 0 ≤ x1 ∧ x1 ≤ 75) (k2 : 0 ≤ x2 ∧ x2 ≤ 75) (k3 : 0 ≤ x3 ∧ x3 ≤ 0) : BTL (r_0) (all_0) (x1) (x2) (x3) := by
  first
    | (intro e a b; exfalso; omega)
    | (have h := ‹BTL _ _ _ _ _›
       intro e a b
       by_cases q : e = x6
       · rw [q]
         first
           | exact fun w => absurd w.1 (fun z => by have := (‹HSP _ _ _ x1 _›).2 z; omega)
           | exact fun w => absurd w.2.1 (fun z => by have := (‹HSP _ _ _ x2 _›).2 z; omega)
           | exact fun w => w.2.2 (by omega)
       · exact h e a (by omega))
def o_Mo_between_0 : or_T := (2, 4, [(1, (0, 0, 75, [])), (2, (0, 0, 75, [])), (3, (0, 0, 0, []))], [], [], [], [(20, [0, 1, 2, 3], [60, 1, 1, 205, 5, 2]), (24, [0, 0], []), (24, [1, 1], []), (24, [2, 2], [])], [], [])
theorem oo_Mo_between_0 {kA : Nat → ClassId} : or_ok PRD kA GG o_Mo_between_0 := by
  refine or_mk fun A ta ws vs hD hth hl => ?_
  intro t1 k1 t2 k2 t3 k3
  have nf0 : fc_1 PRD (20, [0, 1, 2, 3], [60, 1, 1, 205, 5, 2]) ws (vs) := ⟨nf_in hl rfl, sgq_1418 (vc_Mo_between_0_0 (v_iv (n_v vs 1)) (v_iv (n_v vs 2)) (v_iv (n_v vs 3)) (w_ei ws (w_ar ws (n_v vs 0) 2)) (w_fi ws (n_v vs 0) 5) k1 k2 k3)⟩
  have nf1 : fc_1 PRD (24, [0, 0], []) ws (vs) := by
    refine ⟨nf_in hl rfl, sgq_1 ?_⟩
    · show n_v vs 0 = n_v vs 0
      first | rfl | simp only [true_and]
  have nf2 : fc_1 PRD (24, [1, 1], []) ws (vs) := by
    refine ⟨nf_in hl rfl, sgq_1 ?_⟩
    · show n_v vs 1 = n_v vs 1
      first | rfl | simp only [true_and]
  have nf3 : fc_1 PRD (24, [2, 2], []) ws (vs) := by
    refine ⟨nf_in hl rfl, sgq_1 ?_⟩
    · show n_v vs 2 = n_v vs 2
      first | rfl | simp only [true_and]
  refine ⟨(fun _ h => (by cases h)), [], trivial, ?_, (fun _ h => (by cases h))⟩
  rw [List.append_nil]
  exact List.forall_mem_cons.mpr ⟨⟨show (20 : Nat) < 100 from by decide, nf0⟩, List.forall_mem_cons.mpr ⟨⟨show (24 : Nat) < 100 from by decide, nf1⟩, List.forall_mem_cons.mpr ⟨⟨show (24 : Nat) < 100 from by decide, nf2⟩, List.forall_mem_cons.mpr ⟨⟨show (24 : Nat) < 100 from by decide, nf3⟩, (fun _ h => (by cases h))⟩⟩⟩⟩
set_option maxHeartbeats 4000000 in
theorem vc_Mo_between_1_0 (x1 : Int) (x2 : Int) (x6 : Int) (x7 : Int) (x8 : Int) (all_0 : Int → Int) (r_0 : Int) (k1 : 0 ≤ x1 ∧ x1 ≤ 75) (k2 : 0 ≤ x2 ∧ x2 ≤ 75) (k6 : 0 ≤ x6 ∧ x6 ≤ 48) (k7 : 0 ≤ x7 ∧ x7 ≤ 48) (k8 : (-1) ≤ x8 ∧ x8 ≤ (-1)) (d0 : x7 + 0 ≤ x6 ∧ x6 ≤ x7 + 4294967296) (f1 : 1 * x7 + ((-1) * all_0 (r_0 + 1) + 0) ≤ 0) (f2 : (-1) * x7 + (1 * all_0 (r_0 + 1) + 0) ≤ 0) (f3 : BTL (r_0) (all_0) (x1) (x2) (x6)) : BTP (r_0) (all_0) (x1) (x2) (x8) := by
  intro _; have h := ‹BTL _ _ _ _ _›
  intro e a b
  exact h e a (by omega)
set_option maxHeartbeats 4000000 in
theorem vc_Mo_between_1_1 (x1 : Int) (x2 : Int) (x6 : Int) (x7 : Int) (x8 : Int) (all_0 : Int → Int) (r_0 : Int) (k1 : 0 ≤ x1 ∧ x1 ≤ 75) (k2 : 0 ≤ x2 ∧ x2 ≤ 75) (k6 : 0 ≤ x6 ∧ x6 ≤ 48) (k7 : 0 ≤ x7 ∧ x7 ≤ 48) (k8 : (-1) ≤ x8 ∧ x8 ≤ (-1)) (d0 : x7 + 0 ≤ x6 ∧ x6 ≤ x7 + 4294967296) (f1 : 1 * x7 + ((-1) * all_0 (r_0 + 1) + 0) ≤ 0) (f2 : (-1) * x7 + (1 * all_0 (r_0 + 1) + 0) ≤ 0) (f3 : BTL (r_0) (all_0) (x1) (x2) (x6)) : BT2 (r_0) (all_0) (x1) (x2) (x8) := by
  refine ⟨fun z => by omega, fun _ => ?_⟩
  have h := ‹BTL _ _ _ _ _›
  intro e a b
  exact h e a (by omega)
def o_Mo_between_1 : or_T := (42, 9, [(1, (0, 0, 75, [])), (2, (0, 0, 75, [])), (6, (0, 0, 48, [])), (7, (0, 0, 48, [])), (8, (0, -1, -1, []))], [(20, [7, 3], [30, 0, 1, 0, 0, -1, 3, 2005001]), (20, [7, 3], [30, 0, -1, 0, 0, 1, 3, 2005001]), (20, [3, 4, 5, 6], [60, 1, 1, 205, 5, 2]), (24, [0, 3], []), (24, [1, 4], []), (24, [2, 5], [])], [], [], [(20, [0, 1, 2, 8], [60, 1, 1, 206, 5, 2]), (20, [0, 1, 2, 8], [60, 1, 1, 1034, 5, 2])], [], [(6, 7, 0, 4294967296)])
theorem oo_Mo_between_1 {kA : Nat → ClassId} : or_ok PRD kA GG o_Mo_between_1 := by
  refine or_mk fun A ta ws vs hD hth hl => ?_
  intro t1 k1 t2 k2 t6 k6 t7 k7 t8 k8 d0 f1 f2 f3 f4 f5 f6
  replace f1 := shm_121 f1
  replace f2 := shm_122 f2
  replace f3 := shm_1418 f3
  replace f4 := shm_5 f4
  replace f5 := shm_5 f5
  replace f6 := shm_5 f6
  have q3 : n_v vs 3 = n_v vs 0 := f4.symm
  have q4 : n_v vs 4 = n_v vs 1 := f5.symm
  have q5 : n_v vs 5 = n_v vs 2 := f6.symm
  simp only [q3, q4, q5] at f1 f2 f3
  have nf0 : fc_1 PRD (20, [0, 1, 2, 8], [60, 1, 1, 206, 5, 2]) ws (vs) := ⟨nf_in hl rfl, sgq_1419 (vc_Mo_between_1_0 (v_iv (n_v vs 1)) (v_iv (n_v vs 2)) (v_iv (n_v vs 6)) (v_iv (n_v vs 7)) (v_iv (n_v vs 8)) (w_ei ws (w_ar ws (n_v vs 0) 2)) (w_fi ws (n_v vs 0) 5) k1 k2 k6 k7 k8 d0 f1 f2 f3)⟩
  have nf1 : fc_1 PRD (20, [0, 1, 2, 8], [60, 1, 1, 1034, 5, 2]) ws (vs) := ⟨nf_in hl rfl, sgq_1420 (vc_Mo_between_1_1 (v_iv (n_v vs 1)) (v_iv (n_v vs 2)) (v_iv (n_v vs 6)) (v_iv (n_v vs 7)) (v_iv (n_v vs 8)) (w_ei ws (w_ar ws (n_v vs 0) 2)) (w_fi ws (n_v vs 0) 5) k1 k2 k6 k7 k8 d0 f1 f2 f3)⟩
  refine ⟨(fun _ h => (by cases h)), [], trivial, ?_, (fun _ h => (by cases h))⟩
  rw [List.append_nil]
  exact List.forall_mem_cons.mpr ⟨⟨show (20 : Nat) < 100 from by decide, nf0⟩, List.forall_mem_cons.mpr ⟨⟨show (20 : Nat) < 100 from by decide, nf1⟩, (fun _ h => (by cases h))⟩⟩
set_option maxHeartbeats 4000000 in
theorem vc_Mo_between_2_0 (x1 : Int) (x2 : Int) (x4 : Int) (x5 : Int) (x6 : Int) (x8 : Int) (x10 : Int) (all_0 : Int → Int) (r_0 : Int) (k1 : 0 ≤ x1 ∧ x1 ≤ 23) (k2 : 0 ≤ x2 ∧ x2 ≤ 23) (k4 : 0 ≤ x4 ∧ x4 ≤ 23) (k5 : 0 ≤ x5 ∧ x5 ≤ 23) (k6 : 0 ≤ x6 ∧ x6 ≤ 47) (k8 : 1 ≤ x8 ∧ x8 ≤ 1) (k10 : 1 ≤ x10 ∧ x10 ≤ 48) (d0 : x6 + 1 ≤ x10 ∧ x10 ≤ x6 + 1) (d2 : x5 + 0 ≤ x4 ∧ x4 ≤ x5 + 0) (d4 : x4 + (-4294967296) ≤ x1 ∧ x1 ≤ x4 + 0) (d5 : x5 + (-4294967296) ≤ x2 ∧ x2 ≤ x5 + 0) (d6 : x1 + (-4294967296) ≤ x4 ∧ x4 ≤ x1 + 0) (d7 : x2 + (-4294967296) ≤ x5 ∧ x5 ≤ x2 + 0) (f5 : HSP (r_0) (all_0) (x6) (x1) (x8)) (f9 : BTL (r_0) (all_0) (x1) (x2) (x6)) : BTL (r_0) (all_0) (x1) (x2) (x10) := by
  first
    | (intro e a b; exfalso; omega)
    | (have h := ‹BTL _ _ _ _ _›
       intro e a b
       by_cases q : e = x6
       · rw [q]
         first
           | exact fun w => absurd w.1 (fun z => by have := (‹HSP _ _ _ x1 _›).2 z; omega)
           | exact fun w => absurd w.2.1 (fun z => by have := (‹HSP _ _ _ x2 _›).2 z; omega)
           | exact fun w => w.2.2 (by omega)
       · exact h e a (by omega))
def o_Mo_between_2 : or_T := (2, 11, [(0, (2, 0, 0, [165])), (1, (0, 0, 23, [])), (2, (0, 0, 23, [])), (3, (2, 0, 0, [165])), (4, (0, 0, 23, [])), (5, (0, 0, 23, [])), (6, (0, 0, 47, [])), (7, (0, 1, 48, [])), (8, (0, 1, 1, [])), (9, (0, 1, 1, [])), (10, (0, 1, 48, []))], [(6, [10, 6], [1]), (7, [4, 5], [0]), (8, [9], [1]), (20, [3, 6, 5, 9], [60, 1, 1, 204, 5, 2]), (8, [8], [1]), (20, [3, 6, 4, 8], [60, 1, 1, 204, 5, 2]), (7, [6, 7], [2]), (20, [7, 3], [30, 0, 1, 0, 0, -1, 3, 2005001]), (20, [7, 3], [30, 0, -1, 0, 0, 1, 3, 2005001]), (20, [3, 4, 5, 6], [60, 1, 1, 205, 5, 2]), (24, [0, 3], []), (24, [1, 4], []), (24, [2, 5], [])], [], [], [(20, [3, 4, 5, 10], [60, 1, 1, 205, 5, 2])], [], [(10, 6, 1, 1), (10, 7, -4294967296, 0), (4, 5, 0, 0), (6, 7, -4294967296, -1), (1, 4, -4294967296, 0), (2, 5, -4294967296, 0), (4, 1, -4294967296, 0), (5, 2, -4294967296, 0)])
theorem oo_Mo_between_2 {kA : Nat → ClassId} : or_ok PRD kA GG o_Mo_between_2 := by
  refine or_mk fun A ta ws vs hD hth hl => ?_
  intro t0 r0 t1 k1 t2 k2 t3 r3 t4 k4 t5 k5 t6 k6 t7 k7 t8 k8 t9 k9 t10 k10 d0 d1 d2 d3 d4 d5 d6 d7 f0 f1 f2 f3 f4 f5 f6 f7 f8 f9 f10 f11 f12
  replace f5 := shm_1143 f5
  replace f9 := shm_1418 f9
  replace f10 := shm_5 f10
  replace f11 := shm_5 f11
  replace f12 := shm_5 f12
  have q3 : n_v vs 3 = n_v vs 0 := f10.symm
  have q4 : n_v vs 4 = n_v vs 1 := f11.symm
  have q5 : n_v vs 5 = n_v vs 2 := f12.symm
  simp only [q4, q5, q3] at f5 f9
  have nf0 : fc_1 PRD (20, [3, 4, 5, 10], [60, 1, 1, 205, 5, 2]) ws (vs) := by
    refine ⟨nf_in hl rfl, sgq_1418 ?_⟩
    · show BTL (w_fi ws (n_v vs 3) 5) (w_ei ws (w_ar ws (n_v vs 3) 2)) (v_iv (n_v vs 4)) (v_iv (n_v vs 5)) (v_iv (n_v vs 10))
      simp only [q3, q4, q5]
      exact vc_Mo_between_2_0 (v_iv (n_v vs 1)) (v_iv (n_v vs 2)) (v_iv (n_v vs 4)) (v_iv (n_v vs 5)) (v_iv (n_v vs 6)) (v_iv (n_v vs 8)) (v_iv (n_v vs 10)) (w_ei ws (w_ar ws (n_v vs 0) 2)) (w_fi ws (n_v vs 0) 5) k1 k2 k4 k5 k6 k8 k10 d0 d2 d4 d5 d6 d7 f5 f9
  refine ⟨(fun _ h => (by cases h)), [], trivial, ?_, (fun _ h => (by cases h))⟩
  rw [List.append_nil]
  exact List.forall_mem_cons.mpr ⟨⟨show (20 : Nat) < 100 from by decide, nf0⟩, (fun _ h => (by cases h))⟩
set_option maxHeartbeats 4000000 in
theorem vc_Mo_between_3_0 (x1 : Int) (x2 : Int) (x6 : Int) (all_0 : Int → Int) (r_0 : Int) (k1 : 0 ≤ x1 ∧ x1 ≤ 23) (k2 : 0 ≤ x2 ∧ x2 ≤ 23) (k6 : 0 ≤ x6 ∧ x6 ≤ 47) : BTP (r_0) (all_0) (x1) (x2) (x6) := by
  intro z; exfalso; omega
set_option maxHeartbeats 4000000 in
theorem vc_Mo_between_3_1 (x1 : Int) (x2 : Int) (x6 : Int) (x7 : Int) (x8 : Int) (x9 : Int) (all_0 : Int → Int) (r_0 : Int) (k1 : 0 ≤ x1 ∧ x1 ≤ 23) (k2 : 0 ≤ x2 ∧ x2 ≤ 23) (k6 : 0 ≤ x6 ∧ x6 ≤ 47) (k7 : 1 ≤ x7 ∧ x7 ≤ 48) (k8 : 1 ≤ x8 ∧ x8 ≤ 1) (k9 : 1 ≤ x9 ∧ x9 ≤ 1) (d0 : x7 + (-4294967296) ≤ x6 ∧ x6 ≤ x7 + (-1)) (f1 : x9 ≠ 0) (f2 : HSP (r_0) (all_0) (x6) (x2) (x9)) (f3 : x8 ≠ 0) (f4 : HSP (r_0) (all_0) (x6) (x1) (x8)) (f6 : 1 * x7 + ((-1) * all_0 (r_0 + 1) + 0) ≤ 0) (f7 : (-1) * x7 + (1 * all_0 (r_0 + 1) + 0) ≤ 0) : BT2 (r_0) (all_0) (x1) (x2) (x6) := by
  exact ⟨fun _ => ⟨by omega, by first | exact (‹HSP _ _ _ x1 _›).1 (by omega) | (have h := (‹HSP _ _ _ x1 _›); exact h.1 (by omega)), by first | exact (‹HSP _ _ _ x2 _›).1 (by omega) | skip⟩, fun z => by omega⟩
def o_Mo_between_3 : or_T := (34, 10, [(1, (0, 0, 23, [])), (2, (0, 0, 23, [])), (6, (0, 0, 47, [])), (7, (0, 1, 48, [])), (8, (0, 1, 1, [])), (9, (0, 1, 1, []))], [(8, [9], [1]), (20, [3, 6, 5, 9], [60, 1, 1, 204, 5, 2]), (8, [8], [1]), (20, [3, 6, 4, 8], [60, 1, 1, 204, 5, 2]), (20, [7, 3], [30, 0, 1, 0, 0, -1, 3, 2005001]), (20, [7, 3], [30, 0, -1, 0, 0, 1, 3, 2005001]), (24, [0, 3], []), (24, [1, 4], []), (24, [2, 5], [])], [], [], [(20, [0, 1, 2, 6], [60, 1, 1, 206, 5, 2]), (20, [0, 1, 2, 6], [60, 1, 1, 1034, 5, 2])], [], [(6, 7, -4294967296, -1)])
theorem oo_Mo_between_3 {kA : Nat → ClassId} : or_ok PRD kA GG o_Mo_between_3 := by
  refine or_mk fun A ta ws vs hD hth hl => ?_
  intro t1 k1 t2 k2 t6 k6 t7 k7 t8 k8 t9 k9 d0 f1 f2 f3 f4 f6 f7 f9 f10 f11
  replace f2 := shm_1143 f2
  replace f4 := shm_1143 f4
  replace f6 := shm_121 f6
  replace f7 := shm_122 f7
  replace f9 := shm_5 f9
  replace f10 := shm_5 f10
  replace f11 := shm_5 f11
  have q3 : n_v vs 3 = n_v vs 0 := f9.symm
  have q4 : n_v vs 4 = n_v vs 1 := f10.symm
  have q5 : n_v vs 5 = n_v vs 2 := f11.symm
  simp only [q4, q5, q3] at f2 f4 f6 f7
  have nf0 : fc_1 PRD (20, [0, 1, 2, 6], [60, 1, 1, 206, 5, 2]) ws (vs) := ⟨nf_in hl rfl, sgq_1419 (vc_Mo_between_3_0 (v_iv (n_v vs 1)) (v_iv (n_v vs 2)) (v_iv (n_v vs 6)) (w_ei ws (w_ar ws (n_v vs 0) 2)) (w_fi ws (n_v vs 0) 5) k1 k2 k6)⟩
  have nf1 : fc_1 PRD (20, [0, 1, 2, 6], [60, 1, 1, 1034, 5, 2]) ws (vs) := ⟨nf_in hl rfl, sgq_1420 (vc_Mo_between_3_1 (v_iv (n_v vs 1)) (v_iv (n_v vs 2)) (v_iv (n_v vs 6)) (v_iv (n_v vs 7)) (v_iv (n_v vs 8)) (v_iv (n_v vs 9)) (w_ei ws (w_ar ws (n_v vs 0) 2)) (w_fi ws (n_v vs 0) 5) k1 k2 k6 k7 k8 k9 d0 (shm_142 f1) f2 (shm_142 f3) f4 f6 f7)⟩
  refine ⟨(fun _ h => (by cases h)), [], trivial, ?_, (fun _ h => (by cases h))⟩
  rw [List.append_nil]
  exact List.forall_mem_cons.mpr ⟨⟨show (20 : Nat) < 100 from by decide, nf0⟩, List.forall_mem_cons.mpr ⟨⟨show (20 : Nat) < 100 from by decide, nf1⟩, (fun _ h => (by cases h))⟩⟩
set_option maxHeartbeats 4000000 in
theorem vc_Mo_between_4_0 (x1 : Int) (x2 : Int) (x6 : Int) (x9 : Int) (x10 : Int) (all_0 : Int → Int) (r_0 : Int) (k1 : 0 ≤ x1 ∧ x1 ≤ 23) (k2 : 0 ≤ x2 ∧ x2 ≤ 75) (k6 : 0 ≤ x6 ∧ x6 ≤ 47) (k9 : 0 ≤ x9 ∧ x9 ≤ 0) (k10 : 1 ≤ x10 ∧ x10 ≤ 48) (d0 : x6 + 1 ≤ x10 ∧ x10 ≤ x6 + 1) (f2 : HSP (r_0) (all_0) (x6) (x2) (x9)) (f8 : BTL (r_0) (all_0) (x1) (x2) (x6)) : BTL (r_0) (all_0) (x1) (x2) (x10) := by
  first
    | (intro e a b; exfalso; omega)
    | (have h := ‹BTL _ _ _ _ _›
       intro e a b
       by_cases q : e = x6
       · rw [q]
         first
           | exact fun w => absurd w.1 (fun z => by have := (‹HSP _ _ _ x1 _›).2 z; omega)
           | exact fun w => absurd w.2.1 (fun z => by have := (‹HSP _ _ _ x2 _›).2 z; omega)
           | exact fun w => w.2.2 (by omega)
       · exact h e a (by omega))
def o_Mo_between_4 : or_T := (2, 11, [(0, (2, 0, 0, [165])), (1, (0, 0, 23, [])), (2, (0, 0, 75, [])), (3, (2, 0, 0, [165])), (4, (0, 0, 23, [])), (5, (0, 0, 75, [])), (6, (0, 0, 47, [])), (7, (0, 1, 48, [])), (8, (0, 1, 1, [])), (9, (0, 0, 0, [])), (10, (0, 1, 48, []))], [(6, [10, 6], [1]), (8, [9], [0]), (20, [3, 6, 5, 9], [60, 1, 1, 204, 5, 2]), (8, [8], [1]), (20, [3, 6, 4, 8], [60, 1, 1, 204, 5, 2]), (7, [6, 7], [2]), (20, [7, 3], [30, 0, 1, 0, 0, -1, 3, 2005001]), (20, [7, 3], [30, 0, -1, 0, 0, 1, 3, 2005001]), (20, [3, 4, 5, 6], [60, 1, 1, 205, 5, 2]), (24, [0, 3], []), (24, [1, 4], []), (24, [2, 5], [])], [], [], [(20, [3, 4, 5, 10], [60, 1, 1, 205, 5, 2])], [], [(10, 6, 1, 1), (10, 7, -4294967296, 0), (6, 7, -4294967296, -1), (1, 4, -4294967296, 0), (2, 5, -4294967296, 0), (4, 1, -4294967296, 0), (5, 2, -4294967296, 0)])
theorem oo_Mo_between_4 {kA : Nat → ClassId} : or_ok PRD kA GG o_Mo_between_4 := by
  refine or_mk fun A ta ws vs hD hth hl => ?_
  intro t0 r0 t1 k1 t2 k2 t3 r3 t4 k4 t5 k5 t6 k6 t7 k7 t8 k8 t9 k9 t10 k10 d0 d1 d2 d3 d4 d5 d6 f0 f1 f2 f3 f4 f5 f6 f7 f8 f9 f10 f11
  replace f2 := shm_1143 f2
  replace f8 := shm_1418 f8
  replace f9 := shm_5 f9
  replace f10 := shm_5 f10
  replace f11 := shm_5 f11
  have q3 : n_v vs 3 = n_v vs 0 := f9.symm
  have q4 : n_v vs 4 = n_v vs 1 := f10.symm
  have q5 : n_v vs 5 = n_v vs 2 := f11.symm
  simp only [q3, q5, q4] at f2 f8
  have nf0 : fc_1 PRD (20, [3, 4, 5, 10], [60, 1, 1, 205, 5, 2]) ws (vs) := by
    refine ⟨nf_in hl rfl, sgq_1418 ?_⟩
    · show BTL (w_fi ws (n_v vs 3) 5) (w_ei ws (w_ar ws (n_v vs 3) 2)) (v_iv (n_v vs 4)) (v_iv (n_v vs 5)) (v_iv (n_v vs 10))
      simp only [q3, q4, q5]
      exact vc_Mo_between_4_0 (v_iv (n_v vs 1)) (v_iv (n_v vs 2)) (v_iv (n_v vs 6)) (v_iv (n_v vs 9)) (v_iv (n_v vs 10)) (w_ei ws (w_ar ws (n_v vs 0) 2)) (w_fi ws (n_v vs 0) 5) k1 k2 k6 k9 k10 d0 f2 f8
  refine ⟨(fun _ h => (by cases h)), [], trivial, ?_, (fun _ h => (by cases h))⟩
  rw [List.append_nil]
  exact List.forall_mem_cons.mpr ⟨⟨show (20 : Nat) < 100 from by decide, nf0⟩, (fun _ h => (by cases h))⟩
set_option maxHeartbeats 4000000 in
theorem vc_Mo_between_5_0 (x1 : Int) (x2 : Int) (x6 : Int) (x8 : Int) (x9 : Int) (all_0 : Int → Int) (r_0 : Int) (k1 : 0 ≤ x1 ∧ x1 ≤ 75) (k2 : 0 ≤ x2 ∧ x2 ≤ 75) (k6 : 0 ≤ x6 ∧ x6 ≤ 47) (k8 : 0 ≤ x8 ∧ x8 ≤ 0) (k9 : 1 ≤ x9 ∧ x9 ≤ 48) (d0 : x6 + 1 ≤ x9 ∧ x9 ≤ x6 + 1) (f2 : HSP (r_0) (all_0) (x6) (x1) (x8)) (f6 : BTL (r_0) (all_0) (x1) (x2) (x6)) : BTL (r_0) (all_0) (x1) (x2) (x9) := by
  first
    | (intro e a b; exfalso; omega)
    | (have h := ‹BTL _ _ _ _ _›
       intro e a b
       by_cases q : e = x6
       · rw [q]
         first
           | exact fun w => absurd w.1 (fun z => by have := (‹HSP _ _ _ x1 _›).2 z; omega)
           | exact fun w => absurd w.2.1 (fun z => by have := (‹HSP _ _ _ x2 _›).2 z; omega)
           | exact fun w => w.2.2 (by omega)
       · exact h e a (by omega))
def o_Mo_between_5 : or_T := (2, 10, [(1, (0, 0, 75, [])), (2, (0, 0, 75, [])), (6, (0, 0, 47, [])), (8, (0, 0, 0, [])), (9, (0, 1, 48, []))], [(20, [3, 6, 4, 8], [60, 1, 1, 204, 5, 2]), (20, [3, 4, 5, 6], [60, 1, 1, 205, 5, 2]), (24, [0, 3], []), (24, [1, 4], []), (24, [2, 5], [])], [], [], [(20, [3, 4, 5, 9], [60, 1, 1, 205, 5, 2])], [], [(9, 6, 1, 1)])
theorem oo_Mo_between_5 {kA : Nat → ClassId} : or_ok PRD kA GG o_Mo_between_5 := by
  refine or_mk fun A ta ws vs hD hth hl => ?_
  intro t1 k1 t2 k2 t6 k6 t8 k8 t9 k9 d0 f2 f6 f7 f8 f9
  replace f2 := shm_1143 f2
  replace f6 := shm_1418 f6
  replace f7 := shm_5 f7
  replace f8 := shm_5 f8
  replace f9 := shm_5 f9
  have q3 : n_v vs 3 = n_v vs 0 := f7.symm
  have q4 : n_v vs 4 = n_v vs 1 := f8.symm
  have q5 : n_v vs 5 = n_v vs 2 := f9.symm
  simp only [q3, q4, q5] at f2 f6
  have nf0 : fc_1 PRD (20, [3, 4, 5, 9], [60, 1, 1, 205, 5, 2]) ws (vs) := by
    refine ⟨nf_in hl rfl, sgq_1418 ?_⟩
    · show BTL (w_fi ws (n_v vs 3) 5) (w_ei ws (w_ar ws (n_v vs 3) 2)) (v_iv (n_v vs 4)) (v_iv (n_v vs 5)) (v_iv (n_v vs 9))
      simp only [q3, q4, q5]
      exact vc_Mo_between_5_0 (v_iv (n_v vs 1)) (v_iv (n_v vs 2)) (v_iv (n_v vs 6)) (v_iv (n_v vs 8)) (v_iv (n_v vs 9)) (w_ei ws (w_ar ws (n_v vs 0) 2)) (w_fi ws (n_v vs 0) 5) k1 k2 k6 k8 k9 d0 f2 f6
  refine ⟨(fun _ h => (by cases h)), [], trivial, ?_, (fun _ h => (by cases h))⟩
  rw [List.append_nil]
  exact List.forall_mem_cons.mpr ⟨⟨show (20 : Nat) < 100 from by decide, nf0⟩, (fun _ h => (by cases h))⟩
def n_Mo_between_an : List an_T := [(2, [(0, (2, 0, 0, [165])), (1, (0, 0, 75, [])), (2, (0, 0, 75, [])), (3, (0, 0, 48, []))], [], (0, 0), [(0, 0, 99998), (1, 6, 48), (0, 0, 100000)], [(1, 4, (Int.negSucc 999999999999), 0), (2, 5, (Int.negSucc 999999999999), 0), (4, 1, (Int.negSucc 999999999999), 0), (5, 2, (Int.negSucc 999999999999), 0)], [], [(2, 0, 0, [165]), (0, 0, 75, []), (0, 0, 75, [])], 0, [], [(20, [3, 4, 5, 6], [60, 1, 1, 205, 5, 2]), (24, [0, 3], []), (24, [1, 4], []), (24, [2, 5], [])])]
def t_Mo_between_ct : ct_L := [(1, 401, e_Mo_edges), (1, 405, e_Mo_has)]
set_option maxRecDepth 100000 in
theorem c_Mo_between {l : Launch} {D : va_G} {kA : Nat → ClassId} (h_Mo_edges : ct_ok PRD l D kA GG y_Mo_edges z_Mo_edges e_Mo_edges) (h_Mo_has : ct_ok PRD l D kA GG y_Mo_has z_Mo_has e_Mo_has) : ct_ok PRD l D kA GG y_Mo_between z_Mo_between e_Mo_between := chk_all_ok (FT := []) (PT := []) (CT := t_Mo_between_ct) (KT := []) (NT := []) (AN := n_Mo_between_an) (OT := [o_Mo_between_0, o_Mo_between_1, o_Mo_between_2, o_Mo_between_3, o_Mo_between_4, o_Mo_between_5]) 3 200 (List.forall_mem_cons.mpr ⟨oo_Mo_between_0, List.forall_mem_cons.mpr ⟨oo_Mo_between_1, List.forall_mem_cons.mpr ⟨oo_Mo_between_2, List.forall_mem_cons.mpr ⟨oo_Mo_between_3, List.forall_mem_cons.mpr ⟨oo_Mo_between_4, List.forall_mem_cons.mpr ⟨oo_Mo_between_5, List.forall_mem_nil _⟩⟩⟩⟩⟩⟩) (by decide +kernel) ⟨List.forall_mem_nil _, List.forall_mem_nil _, List.forall_mem_cons.mpr ⟨cl_virtual (y := y_Mo_edges) (ci := 13) rfl rfl ⟨_, _, rfl⟩ (by decide +kernel) h_Mo_edges wm_3037 wm_9 wm_3034 wm_3036 wv_13_6 ⟨by decide, by decide, by decide +kernel⟩ (by decide), List.forall_mem_cons.mpr ⟨cl_virtual (y := y_Mo_has) (ci := 13) rfl rfl ⟨_, _, rfl⟩ (by decide +kernel) h_Mo_has wm_3041 wm_9 wm_3038 wm_3040 wv_13_7 ⟨by decide, by decide, by decide +kernel⟩ (by decide), List.forall_mem_nil _⟩⟩, List.forall_mem_nil _, List.forall_mem_nil _, GG_pl⟩ (by decide +kernel)
def o_Mo_ex_0 : or_T := (59, 16, [(0, (2, 0, 0, [165])), (1, (0, 0, 47, [])), (2, (0, 1, 25, [])), (3, (0, 2, 26, [])), (4, (0, 1, 1, [])), (5, (0, 1, 25, [])), (7, (0, 24, 24, [])), (8, (0, 48, 48, [])), (9, (0, 0, 3, [])), (10, (0, 0, 144, [])), (11, (0, 0, 191, [])), (12, (0, 0, 4584, [])), (13, (0, 1, 4609, [])), (14, (0, 1, 1, [])), (15, (0, 0, 4608, []))], [(2, [15, 13, 14], []), (1, [13, 12, 2], []), (3, [12, 7, 11], []), (1, [11, 10, 1], []), (3, [10, 8, 9], []), (9, [9, 0], [139]), (7, [2, 5], [1]), (2, [5, 3, 4], []), (20, [3, 0, 1], [50, 1, 1, 1139, 1064, 1, 2, 1, 0, 4, 14, 3, 1, 64, 4, 7, 6, 2, 0, 48, 2, 1, 139, 1, 2, 0, 2]), (8, [2], [1]), (20, [2, 0, 1], [50, 1, 1, 1139, 1064, 0, 2, 1, 0, 4, 14, 3, 1, 64, 4, 7, 6, 2, 0, 48, 2, 1, 139, 1, 2, 0, 1])], [(15, (0, 0, 4607, []))], [], [], [], [(15, 13, -1, -1), (15, 2, -1, 4583), (15, 12, 0, 24), (13, 2, 0, 4584), (13, 12, 1, 25), (11, 1, 0, 144), (11, 10, 0, 47), (5, 3, -1, -1)])
set_option maxHeartbeats 8000000 in
theorem oo_Mo_ex_0 {kA : Nat → ClassId} : or_ok PRD kA GG o_Mo_ex_0 := by
  refine or_mk fun A ta ws vs hD hth hl => ?_
  intro t0 r0 t1 k1 t2 k2 t3 k3 t4 k4 t5 k5 t7 k7 t8 k8 t9 k9 t10 k10 t11 k11 t12 k12 t13 k13 t14 k14 t15 k15 d0 d1 d2 d3 d4 d5 d6 d7 f0 f1 f2 f3 f4 f5 f6 f7 f8 f9 f10
  replace f0 := shm_14 f0
  replace f1 := shm_12 f1
  replace f2 := shm_38 f2
  rw [show v_iv (n_v vs 7) = 24 from by omega] at f2
  replace f3 := shm_12 f3
  replace f4 := shm_38 f4
  rw [show v_iv (n_v vs 8) = 48 from by omega] at f4
  replace f5 := shm_681 f5
  replace f6 := shm_40 f6
  replace f7 := shm_14 f7
  replace f8 := shm_683 f8
  replace f9 := shm_142 f9
  replace f10 := shm_1421 f10
  have cr_0_64 := fdq_171 hD hth r0
  have g5 : v_iv (n_v vs 9) = w_fi ws (n_v vs 0) 139 := congrArg v_iv f5
  have hK_0_64 := elq_101 hD hth cr_0_64
  have kz_0_139 := fdq_172 hD hth r0
  have rf15 : tv_ok ta (0, 0, 4607, []) (n_v vs 15) := tv_in t15 (by first | omega | grind) (by first | omega | grind)
  refine ⟨List.forall_mem_cons.mpr ⟨rf15, (fun _ h => (by cases h))⟩, [], trivial, ?_, (fun _ h => (by cases h))⟩
  rw [List.append_nil]
  exact (fun _ h => (by cases h))
def o_Mo_ex_1 : or_T := (60, 17, [(0, (2, 0, 0, [165])), (1, (0, 0, 47, [])), (2, (0, 1, 25, [])), (3, (0, 2, 26, [])), (4, (0, 1, 1, [])), (5, (0, 1, 25, [])), (6, (2, 0, 0, [205])), (7, (0, 24, 24, [])), (8, (0, 48, 48, [])), (9, (0, 0, 3, [])), (10, (0, 0, 144, [])), (11, (0, 0, 191, [])), (12, (0, 0, 4584, [])), (13, (0, 1, 4609, [])), (14, (0, 1, 1, [])), (15, (0, 0, 4607, [])), (16, (0, -300000011, 221100000, []))], [(10, [16, 6, 15], []), (2, [15, 13, 14], []), (1, [13, 12, 2], []), (3, [12, 7, 11], []), (1, [11, 10, 1], []), (3, [10, 8, 9], []), (9, [9, 0], [139]), (9, [6, 0], [65]), (7, [2, 5], [1]), (2, [5, 3, 4], []), (20, [3, 0, 1], [50, 1, 1, 1139, 1064, 1, 2, 1, 0, 4, 14, 3, 1, 64, 4, 7, 6, 2, 0, 48, 2, 1, 139, 1, 2, 0, 2]), (8, [2], [1]), (20, [2, 0, 1], [50, 1, 1, 1139, 1064, 0, 2, 1, 0, 4, 14, 3, 1, 64, 4, 7, 6, 2, 0, 48, 2, 1, 139, 1, 2, 0, 1])], [], [], [(20, [2, 16, 0, 1], [50, 2, 2, 2139, 2005, 2062, 2002, 4, 6, 1, 2, 1, 0, 0, 0, 1, 2, 1, 1, 3, 2, 62, 4, 7, 6, 2, 0, 24, 2, 2, 139, 3, 2, 2, 4, 7, 4, 3, 2, 2, 5, 0, 267, 1, 3]), (20, [2, 0, 1, 16], [50, 2, 3, 1139, 1005, 1064, 1062, 1002, 4, 22, 1, 2, 1, 0, 4, 14, 3, 1, 64, 4, 7, 6, 2, 0, 48, 2, 1, 139, 1, 2, 0, 1, 1, 2, 1, 3, 3, 1, 62, 4, 7, 6, 2, 0, 24, 2, 1, 139, 3, 1, 2, 4, 7, 4, 3, 2, 1, 5, 0, 315, 1, 2]), (20, [2, 0, 1, 16], [50, 1, 2, 1139, 1064, 1065, 3, 6, 1, 2, 1, 0, 0, 0, 3, 22, 1, 2, 1, 0, 4, 14, 3, 1, 64, 4, 7, 6, 2, 0, 48, 2, 1, 139, 1, 2, 0, 1, 1, 2, 1, 3, 3, 1, 65, 4, 15, 6, 2, 0, 24, 4, 7, 6, 2, 0, 48, 2, 1, 139, 1, 2, 5, 2, 1, 0, 0, 1])], [], [(15, 13, -1, -1), (15, 2, -1, 4583), (15, 12, 0, 24), (13, 2, 0, 4584), (13, 12, 1, 25), (11, 1, 0, 144), (11, 10, 0, 47), (5, 3, -1, -1)])
set_option maxHeartbeats 8000000 in
theorem oo_Mo_ex_1 {kA : Nat → ClassId} : or_ok PRD kA GG o_Mo_ex_1 := by
  refine or_mk fun A ta ws vs hD hth hl => ?_
  intro t0 r0 t1 k1 t2 k2 t3 k3 t4 k4 t5 k5 t6 r6 t7 k7 t8 k8 t9 k9 t10 k10 t11 k11 t12 k12 t13 k13 t14 k14 t15 k15 t16 k16 d0 d1 d2 d3 d4 d5 d6 d7 f0 f1 f2 f3 f4 f5 f6 f7 f8 f9 f10 f11 f12
  replace f0 := shm_107 f0
  replace f1 := shm_14 f1
  replace f2 := shm_12 f2
  replace f3 := shm_38 f3
  rw [show v_iv (n_v vs 7) = 24 from by omega] at f3
  replace f4 := shm_12 f4
  replace f5 := shm_38 f5
  rw [show v_iv (n_v vs 8) = 48 from by omega] at f5
  replace f6 := shm_681 f6
  replace f7 := shm_1422 f7
  replace f8 := shm_40 f8
  replace f9 := shm_14 f9
  replace f10 := shm_683 f10
  replace f11 := shm_142 f11
  replace f12 := shm_1421 f12
  have cr_0_2 := fdq_10 hD hth r0
  have cr_0_62 := fdq_173 hD hth r0
  have cr_0_64 := fdq_171 hD hth r0
  have cr_0_65 := fdq_292 hD hth r0
  have ad_6 : v_ad (n_v vs 6) = w_ar ws (n_v vs 0) 65 := congrArg v_ad f7
  simp only [ad_6] at f0
  have h0 : v_iv (n_v vs 16) = w_ei ws (w_ar ws (n_v vs 0) 65) (v_iv (n_v vs 15)) := f0
  have g6 : v_iv (n_v vs 9) = w_fi ws (n_v vs 0) 139 := congrArg v_iv f6
  have br_0_65_15_0 : w_ei ws (w_ar ws (n_v vs 0) 65) (v_iv (n_v vs 15)) = w_el ws (w_ar ws (n_v vs 0) 65) (v_iv (n_v vs 15)).toNat := rfl
  have hK_0_62 := elq_102 hD hth cr_0_62
  have hK_0_64 := elq_101 hD hth cr_0_64
  have hK_0_65 := elq_184 hD hth cr_0_65
  have kz_0_139 := fdq_172 hD hth r0
  first | have hP0 : w_ei ws (w_ar ws (n_v vs 0) 2) (((w_fi ws (n_v vs 0) 5 + 315) + v_iv (n_v vs 1))) = w_ei ws (w_ar ws (n_v vs 0) 2) (((w_fi ws (n_v vs 0) 5 + 267) + v_iv (n_v vs 1))) := congrArg _ (show (((w_fi ws (n_v vs 0) 5 + 315) + v_iv (n_v vs 1)) : Int) = ((w_fi ws (n_v vs 0) 5 + 267) + v_iv (n_v vs 1)) from by omega) | (have hN : (((w_fi ws (n_v vs 0) 5 + 315) + v_iv (n_v vs 1)) : Int) ≠ ((w_fi ws (n_v vs 0) 5 + 267) + v_iv (n_v vs 1)) := by omega; clear hN) | have hP0 : (((w_fi ws (n_v vs 0) 5 + 315) + v_iv (n_v vs 1)) : Int) = ((w_fi ws (n_v vs 0) 5 + 267) + v_iv (n_v vs 1)) → w_ei ws (w_ar ws (n_v vs 0) 2) (((w_fi ws (n_v vs 0) 5 + 315) + v_iv (n_v vs 1))) = w_ei ws (w_ar ws (n_v vs 0) 2) (((w_fi ws (n_v vs 0) 5 + 267) + v_iv (n_v vs 1))) := fun h => congrArg _ h
  first | have hP1 : w_ei ws (w_ar ws (n_v vs 0) 62) (((24 * w_fi ws (n_v vs 0) 139) + w_ei ws (w_ar ws (n_v vs 0) 2) (((w_fi ws (n_v vs 0) 5 + 315) + v_iv (n_v vs 1))))) = w_ei ws (w_ar ws (n_v vs 0) 62) (((24 * w_fi ws (n_v vs 0) 139) + w_ei ws (w_ar ws (n_v vs 0) 2) (((w_fi ws (n_v vs 0) 5 + 267) + v_iv (n_v vs 1))))) := congrArg _ (show (((24 * w_fi ws (n_v vs 0) 139) + w_ei ws (w_ar ws (n_v vs 0) 2) (((w_fi ws (n_v vs 0) 5 + 315) + v_iv (n_v vs 1)))) : Int) = ((24 * w_fi ws (n_v vs 0) 139) + w_ei ws (w_ar ws (n_v vs 0) 2) (((w_fi ws (n_v vs 0) 5 + 267) + v_iv (n_v vs 1)))) from by omega) | (have hN : (((24 * w_fi ws (n_v vs 0) 139) + w_ei ws (w_ar ws (n_v vs 0) 2) (((w_fi ws (n_v vs 0) 5 + 315) + v_iv (n_v vs 1)))) : Int) ≠ ((24 * w_fi ws (n_v vs 0) 139) + w_ei ws (w_ar ws (n_v vs 0) 2) (((w_fi ws (n_v vs 0) 5 + 267) + v_iv (n_v vs 1)))) := by omega; clear hN) | have hP1 : (((24 * w_fi ws (n_v vs 0) 139) + w_ei ws (w_ar ws (n_v vs 0) 2) (((w_fi ws (n_v vs 0) 5 + 315) + v_iv (n_v vs 1)))) : Int) = ((24 * w_fi ws (n_v vs 0) 139) + w_ei ws (w_ar ws (n_v vs 0) 2) (((w_fi ws (n_v vs 0) 5 + 267) + v_iv (n_v vs 1)))) → w_ei ws (w_ar ws (n_v vs 0) 62) (((24 * w_fi ws (n_v vs 0) 139) + w_ei ws (w_ar ws (n_v vs 0) 2) (((w_fi ws (n_v vs 0) 5 + 315) + v_iv (n_v vs 1))))) = w_ei ws (w_ar ws (n_v vs 0) 62) (((24 * w_fi ws (n_v vs 0) 139) + w_ei ws (w_ar ws (n_v vs 0) 2) (((w_fi ws (n_v vs 0) 5 + 267) + v_iv (n_v vs 1))))) := fun h => congrArg _ h
  first | have hP2 : w_ei ws (w_ar ws (n_v vs 0) 65) (v_iv (n_v vs 15)) = w_ei ws (w_ar ws (n_v vs 0) 65) (((24 * ((48 * w_fi ws (n_v vs 0) 139) + v_iv (n_v vs 1))) + (v_iv (n_v vs 2) - 1))) := congrArg _ (show (v_iv (n_v vs 15) : Int) = ((24 * ((48 * w_fi ws (n_v vs 0) 139) + v_iv (n_v vs 1))) + (v_iv (n_v vs 2) - 1)) from by omega) | (have hN : (v_iv (n_v vs 15) : Int) ≠ ((24 * ((48 * w_fi ws (n_v vs 0) 139) + v_iv (n_v vs 1))) + (v_iv (n_v vs 2) - 1)) := by omega; clear hN) | have hP2 : (v_iv (n_v vs 15) : Int) = ((24 * ((48 * w_fi ws (n_v vs 0) 139) + v_iv (n_v vs 1))) + (v_iv (n_v vs 2) - 1)) → w_ei ws (w_ar ws (n_v vs 0) 65) (v_iv (n_v vs 15)) = w_ei ws (w_ar ws (n_v vs 0) 65) (((24 * ((48 * w_fi ws (n_v vs 0) 139) + v_iv (n_v vs 1))) + (v_iv (n_v vs 2) - 1))) := fun h => congrArg _ h
  have nf0 : fc_1 PRD (20, [2, 16, 0, 1], [50, 2, 2, 2139, 2005, 2062, 2002, 4, 6, 1, 2, 1, 0, 0, 0, 1, 2, 1, 1, 3, 2, 62, 4, 7, 6, 2, 0, 24, 2, 2, 139, 3, 2, 2, 4, 7, 4, 3, 2, 2, 5, 0, 267, 1, 3]) ws (vs) := by
    refine ⟨nf_in hl rfl, sgq_1423 ?_⟩
    · show (v_iv (n_v vs 2) = 0) → (v_iv (n_v vs 16) = w_ei ws (w_ar ws (n_v vs 0) 62) (((24 * w_fi ws (n_v vs 0) 139) + w_ei ws (w_ar ws (n_v vs 0) 2) (((w_fi ws (n_v vs 0) 5 + 267) + v_iv (n_v vs 1))))))
      first | omega | grind
  have nf1 : fc_1 PRD (20, [2, 0, 1, 16], [50, 2, 3, 1139, 1005, 1064, 1062, 1002, 4, 22, 1, 2, 1, 0, 4, 14, 3, 1, 64, 4, 7, 6, 2, 0, 48, 2, 1, 139, 1, 2, 0, 1, 1, 2, 1, 3, 3, 1, 62, 4, 7, 6, 2, 0, 24, 2, 1, 139, 3, 1, 2, 4, 7, 4, 3, 2, 1, 5, 0, 315, 1, 2]) ws (vs) := by
    refine ⟨nf_in hl rfl, sgq_1424 ?_⟩
    · show (v_iv (n_v vs 2) = (w_ei ws (w_ar ws (n_v vs 0) 64) (((48 * w_fi ws (n_v vs 0) 139) + v_iv (n_v vs 1))) + 1)) → (v_iv (n_v vs 16) = w_ei ws (w_ar ws (n_v vs 0) 62) (((24 * w_fi ws (n_v vs 0) 139) + w_ei ws (w_ar ws (n_v vs 0) 2) (((w_fi ws (n_v vs 0) 5 + 315) + v_iv (n_v vs 1))))))
      first | omega | grind
  have nf2 : fc_1 PRD (20, [2, 0, 1, 16], [50, 1, 2, 1139, 1064, 1065, 3, 6, 1, 2, 1, 0, 0, 0, 3, 22, 1, 2, 1, 0, 4, 14, 3, 1, 64, 4, 7, 6, 2, 0, 48, 2, 1, 139, 1, 2, 0, 1, 1, 2, 1, 3, 3, 1, 65, 4, 15, 6, 2, 0, 24, 4, 7, 6, 2, 0, 48, 2, 1, 139, 1, 2, 5, 2, 1, 0, 0, 1]) ws (vs) := by
    refine ⟨nf_in hl rfl, sgq_1425 ?_⟩
    · show (v_iv (n_v vs 2) = 0) ∨ ((v_iv (n_v vs 2) = (w_ei ws (w_ar ws (n_v vs 0) 64) (((48 * w_fi ws (n_v vs 0) 139) + v_iv (n_v vs 1))) + 1)) ∨ (v_iv (n_v vs 16) = w_ei ws (w_ar ws (n_v vs 0) 65) (((24 * ((48 * w_fi ws (n_v vs 0) 139) + v_iv (n_v vs 1))) + (v_iv (n_v vs 2) - 1)))))
      first | omega | grind
  refine ⟨(fun _ h => (by cases h)), [], trivial, ?_, (fun _ h => (by cases h))⟩
  rw [List.append_nil]
  exact List.forall_mem_cons.mpr ⟨⟨show (20 : Nat) < 100 from by decide, nf0⟩, List.forall_mem_cons.mpr ⟨⟨show (20 : Nat) < 100 from by decide, nf1⟩, List.forall_mem_cons.mpr ⟨⟨show (20 : Nat) < 100 from by decide, nf2⟩, (fun _ h => (by cases h))⟩⟩⟩
def o_Mo_ex_2 : or_T := (60, 8, [(0, (2, 0, 0, [165])), (1, (0, 0, 47, [])), (2, (0, 1, 25, [])), (3, (0, 2, 26, [])), (4, (0, 1, 1, [])), (5, (0, 1, 25, [])), (6, (0, 0, 23, [])), (7, (0, -300000000, 300000000, []))], [(20, [7, 0, 6], [50, 1, 1, 1139, 1062, 1, 2, 1, 0, 3, 1, 62, 4, 7, 6, 2, 0, 24, 2, 1, 139, 1, 2]), (20, [6, 0, 1], [50, 1, 1, 1005, 1002, 1, 2, 1, 0, 3, 1, 2, 4, 7, 4, 3, 2, 1, 5, 0, 315, 1, 2]), (7, [2, 5], [0]), (2, [5, 3, 4], []), (20, [3, 0, 1], [50, 1, 1, 1139, 1064, 1, 2, 1, 0, 4, 14, 3, 1, 64, 4, 7, 6, 2, 0, 48, 2, 1, 139, 1, 2, 0, 2]), (8, [2], [1]), (20, [2, 0, 1], [50, 1, 1, 1139, 1064, 0, 2, 1, 0, 4, 14, 3, 1, 64, 4, 7, 6, 2, 0, 48, 2, 1, 139, 1, 2, 0, 1])], [], [], [(20, [2, 7, 0, 1], [50, 2, 2, 2139, 2005, 2062, 2002, 4, 6, 1, 2, 1, 0, 0, 0, 1, 2, 1, 1, 3, 2, 62, 4, 7, 6, 2, 0, 24, 2, 2, 139, 3, 2, 2, 4, 7, 4, 3, 2, 2, 5, 0, 267, 1, 3]), (20, [2, 0, 1, 7], [50, 2, 3, 1139, 1005, 1064, 1062, 1002, 4, 22, 1, 2, 1, 0, 4, 14, 3, 1, 64, 4, 7, 6, 2, 0, 48, 2, 1, 139, 1, 2, 0, 1, 1, 2, 1, 3, 3, 1, 62, 4, 7, 6, 2, 0, 24, 2, 1, 139, 3, 1, 2, 4, 7, 4, 3, 2, 1, 5, 0, 315, 1, 2]), (20, [2, 0, 1, 7], [50, 1, 2, 1139, 1064, 1065, 3, 6, 1, 2, 1, 0, 0, 0, 3, 22, 1, 2, 1, 0, 4, 14, 3, 1, 64, 4, 7, 6, 2, 0, 48, 2, 1, 139, 1, 2, 0, 1, 1, 2, 1, 3, 3, 1, 65, 4, 15, 6, 2, 0, 24, 4, 7, 6, 2, 0, 48, 2, 1, 139, 1, 2, 5, 2, 1, 0, 0, 1])], [], [(2, 5, 0, 0), (5, 3, -1, -1)])
set_option maxHeartbeats 8000000 in
theorem oo_Mo_ex_2 {kA : Nat → ClassId} : or_ok PRD kA GG o_Mo_ex_2 := by
  refine or_mk fun A ta ws vs hD hth hl => ?_
  intro t0 r0 t1 k1 t2 k2 t3 k3 t4 k4 t5 k5 t6 k6 t7 k7 d0 d1 f0 f1 f2 f3 f4 f5 f6
  replace f0 := shm_698 f0
  replace f1 := shm_603 f1
  replace f2 := shm_37 f2
  replace f3 := shm_14 f3
  replace f4 := shm_683 f4
  replace f5 := shm_142 f5
  replace f6 := shm_1421 f6
  have cr_0_2 := fdq_10 hD hth r0
  have cr_0_62 := fdq_173 hD hth r0
  have cr_0_64 := fdq_171 hD hth r0
  have cr_0_65 := fdq_292 hD hth r0
  have hK_0_62 := elq_102 hD hth cr_0_62
  have hK_0_64 := elq_101 hD hth cr_0_64
  have hK_0_65 := elq_184 hD hth cr_0_65
  have kz_0_139 := fdq_172 hD hth r0
  first | have hP0 : w_ei ws (w_ar ws (n_v vs 0) 2) (((w_fi ws (n_v vs 0) 5 + 267) + v_iv (n_v vs 1))) = w_ei ws (w_ar ws (n_v vs 0) 2) (((w_fi ws (n_v vs 0) 5 + 315) + v_iv (n_v vs 1))) := congrArg _ (show (((w_fi ws (n_v vs 0) 5 + 267) + v_iv (n_v vs 1)) : Int) = ((w_fi ws (n_v vs 0) 5 + 315) + v_iv (n_v vs 1)) from by omega) | (have hN : (((w_fi ws (n_v vs 0) 5 + 267) + v_iv (n_v vs 1)) : Int) ≠ ((w_fi ws (n_v vs 0) 5 + 315) + v_iv (n_v vs 1)) := by omega; clear hN) | have hP0 : (((w_fi ws (n_v vs 0) 5 + 267) + v_iv (n_v vs 1)) : Int) = ((w_fi ws (n_v vs 0) 5 + 315) + v_iv (n_v vs 1)) → w_ei ws (w_ar ws (n_v vs 0) 2) (((w_fi ws (n_v vs 0) 5 + 267) + v_iv (n_v vs 1))) = w_ei ws (w_ar ws (n_v vs 0) 2) (((w_fi ws (n_v vs 0) 5 + 315) + v_iv (n_v vs 1))) := fun h => congrArg _ h
  first | have hP1 : w_ei ws (w_ar ws (n_v vs 0) 62) (((24 * w_fi ws (n_v vs 0) 139) + w_ei ws (w_ar ws (n_v vs 0) 2) (((w_fi ws (n_v vs 0) 5 + 267) + v_iv (n_v vs 1))))) = w_ei ws (w_ar ws (n_v vs 0) 62) (((24 * w_fi ws (n_v vs 0) 139) + v_iv (n_v vs 6))) := congrArg _ (show (((24 * w_fi ws (n_v vs 0) 139) + w_ei ws (w_ar ws (n_v vs 0) 2) (((w_fi ws (n_v vs 0) 5 + 267) + v_iv (n_v vs 1)))) : Int) = ((24 * w_fi ws (n_v vs 0) 139) + v_iv (n_v vs 6)) from by omega) | (have hN : (((24 * w_fi ws (n_v vs 0) 139) + w_ei ws (w_ar ws (n_v vs 0) 2) (((w_fi ws (n_v vs 0) 5 + 267) + v_iv (n_v vs 1)))) : Int) ≠ ((24 * w_fi ws (n_v vs 0) 139) + v_iv (n_v vs 6)) := by omega; clear hN) | have hP1 : (((24 * w_fi ws (n_v vs 0) 139) + w_ei ws (w_ar ws (n_v vs 0) 2) (((w_fi ws (n_v vs 0) 5 + 267) + v_iv (n_v vs 1)))) : Int) = ((24 * w_fi ws (n_v vs 0) 139) + v_iv (n_v vs 6)) → w_ei ws (w_ar ws (n_v vs 0) 62) (((24 * w_fi ws (n_v vs 0) 139) + w_ei ws (w_ar ws (n_v vs 0) 2) (((w_fi ws (n_v vs 0) 5 + 267) + v_iv (n_v vs 1))))) = w_ei ws (w_ar ws (n_v vs 0) 62) (((24 * w_fi ws (n_v vs 0) 139) + v_iv (n_v vs 6))) := fun h => congrArg _ h
  first | have hP2 : w_ei ws (w_ar ws (n_v vs 0) 62) (((24 * w_fi ws (n_v vs 0) 139) + w_ei ws (w_ar ws (n_v vs 0) 2) (((w_fi ws (n_v vs 0) 5 + 315) + v_iv (n_v vs 1))))) = w_ei ws (w_ar ws (n_v vs 0) 62) (((24 * w_fi ws (n_v vs 0) 139) + v_iv (n_v vs 6))) := congrArg _ (show (((24 * w_fi ws (n_v vs 0) 139) + w_ei ws (w_ar ws (n_v vs 0) 2) (((w_fi ws (n_v vs 0) 5 + 315) + v_iv (n_v vs 1)))) : Int) = ((24 * w_fi ws (n_v vs 0) 139) + v_iv (n_v vs 6)) from by omega) | (have hN : (((24 * w_fi ws (n_v vs 0) 139) + w_ei ws (w_ar ws (n_v vs 0) 2) (((w_fi ws (n_v vs 0) 5 + 315) + v_iv (n_v vs 1)))) : Int) ≠ ((24 * w_fi ws (n_v vs 0) 139) + v_iv (n_v vs 6)) := by omega; clear hN) | have hP2 : (((24 * w_fi ws (n_v vs 0) 139) + w_ei ws (w_ar ws (n_v vs 0) 2) (((w_fi ws (n_v vs 0) 5 + 315) + v_iv (n_v vs 1)))) : Int) = ((24 * w_fi ws (n_v vs 0) 139) + v_iv (n_v vs 6)) → w_ei ws (w_ar ws (n_v vs 0) 62) (((24 * w_fi ws (n_v vs 0) 139) + w_ei ws (w_ar ws (n_v vs 0) 2) (((w_fi ws (n_v vs 0) 5 + 315) + v_iv (n_v vs 1))))) = w_ei ws (w_ar ws (n_v vs 0) 62) (((24 * w_fi ws (n_v vs 0) 139) + v_iv (n_v vs 6))) := fun h => congrArg _ h
  first | have hP3 : w_ei ws (w_ar ws (n_v vs 0) 62) (((24 * w_fi ws (n_v vs 0) 139) + w_ei ws (w_ar ws (n_v vs 0) 2) (((w_fi ws (n_v vs 0) 5 + 315) + v_iv (n_v vs 1))))) = w_ei ws (w_ar ws (n_v vs 0) 62) (((24 * w_fi ws (n_v vs 0) 139) + w_ei ws (w_ar ws (n_v vs 0) 2) (((w_fi ws (n_v vs 0) 5 + 267) + v_iv (n_v vs 1))))) := congrArg _ (show (((24 * w_fi ws (n_v vs 0) 139) + w_ei ws (w_ar ws (n_v vs 0) 2) (((w_fi ws (n_v vs 0) 5 + 315) + v_iv (n_v vs 1)))) : Int) = ((24 * w_fi ws (n_v vs 0) 139) + w_ei ws (w_ar ws (n_v vs 0) 2) (((w_fi ws (n_v vs 0) 5 + 267) + v_iv (n_v vs 1)))) from by omega) | (have hN : (((24 * w_fi ws (n_v vs 0) 139) + w_ei ws (w_ar ws (n_v vs 0) 2) (((w_fi ws (n_v vs 0) 5 + 315) + v_iv (n_v vs 1)))) : Int) ≠ ((24 * w_fi ws (n_v vs 0) 139) + w_ei ws (w_ar ws (n_v vs 0) 2) (((w_fi ws (n_v vs 0) 5 + 267) + v_iv (n_v vs 1)))) := by omega; clear hN) | have hP3 : (((24 * w_fi ws (n_v vs 0) 139) + w_ei ws (w_ar ws (n_v vs 0) 2) (((w_fi ws (n_v vs 0) 5 + 315) + v_iv (n_v vs 1)))) : Int) = ((24 * w_fi ws (n_v vs 0) 139) + w_ei ws (w_ar ws (n_v vs 0) 2) (((w_fi ws (n_v vs 0) 5 + 267) + v_iv (n_v vs 1)))) → w_ei ws (w_ar ws (n_v vs 0) 62) (((24 * w_fi ws (n_v vs 0) 139) + w_ei ws (w_ar ws (n_v vs 0) 2) (((w_fi ws (n_v vs 0) 5 + 315) + v_iv (n_v vs 1))))) = w_ei ws (w_ar ws (n_v vs 0) 62) (((24 * w_fi ws (n_v vs 0) 139) + w_ei ws (w_ar ws (n_v vs 0) 2) (((w_fi ws (n_v vs 0) 5 + 267) + v_iv (n_v vs 1))))) := fun h => congrArg _ h
  have nf0 : fc_1 PRD (20, [2, 7, 0, 1], [50, 2, 2, 2139, 2005, 2062, 2002, 4, 6, 1, 2, 1, 0, 0, 0, 1, 2, 1, 1, 3, 2, 62, 4, 7, 6, 2, 0, 24, 2, 2, 139, 3, 2, 2, 4, 7, 4, 3, 2, 2, 5, 0, 267, 1, 3]) ws (vs) := by
    refine ⟨nf_in hl rfl, sgq_1423 ?_⟩
    · show (v_iv (n_v vs 2) = 0) → (v_iv (n_v vs 7) = w_ei ws (w_ar ws (n_v vs 0) 62) (((24 * w_fi ws (n_v vs 0) 139) + w_ei ws (w_ar ws (n_v vs 0) 2) (((w_fi ws (n_v vs 0) 5 + 267) + v_iv (n_v vs 1))))))
      first | omega | grind
  have nf1 : fc_1 PRD (20, [2, 0, 1, 7], [50, 2, 3, 1139, 1005, 1064, 1062, 1002, 4, 22, 1, 2, 1, 0, 4, 14, 3, 1, 64, 4, 7, 6, 2, 0, 48, 2, 1, 139, 1, 2, 0, 1, 1, 2, 1, 3, 3, 1, 62, 4, 7, 6, 2, 0, 24, 2, 1, 139, 3, 1, 2, 4, 7, 4, 3, 2, 1, 5, 0, 315, 1, 2]) ws (vs) := by
    refine ⟨nf_in hl rfl, sgq_1424 ?_⟩
    · show (v_iv (n_v vs 2) = (w_ei ws (w_ar ws (n_v vs 0) 64) (((48 * w_fi ws (n_v vs 0) 139) + v_iv (n_v vs 1))) + 1)) → (v_iv (n_v vs 7) = w_ei ws (w_ar ws (n_v vs 0) 62) (((24 * w_fi ws (n_v vs 0) 139) + w_ei ws (w_ar ws (n_v vs 0) 2) (((w_fi ws (n_v vs 0) 5 + 315) + v_iv (n_v vs 1))))))
      first | omega | grind
  have nf2 : fc_1 PRD (20, [2, 0, 1, 7], [50, 1, 2, 1139, 1064, 1065, 3, 6, 1, 2, 1, 0, 0, 0, 3, 22, 1, 2, 1, 0, 4, 14, 3, 1, 64, 4, 7, 6, 2, 0, 48, 2, 1, 139, 1, 2, 0, 1, 1, 2, 1, 3, 3, 1, 65, 4, 15, 6, 2, 0, 24, 4, 7, 6, 2, 0, 48, 2, 1, 139, 1, 2, 5, 2, 1, 0, 0, 1]) ws (vs) := by
    refine ⟨nf_in hl rfl, sgq_1425 ?_⟩
    · show (v_iv (n_v vs 2) = 0) ∨ ((v_iv (n_v vs 2) = (w_ei ws (w_ar ws (n_v vs 0) 64) (((48 * w_fi ws (n_v vs 0) 139) + v_iv (n_v vs 1))) + 1)) ∨ (v_iv (n_v vs 7) = w_ei ws (w_ar ws (n_v vs 0) 65) (((24 * ((48 * w_fi ws (n_v vs 0) 139) + v_iv (n_v vs 1))) + (v_iv (n_v vs 2) - 1)))))
      first | omega | grind
  refine ⟨(fun _ h => (by cases h)), [], trivial, ?_, (fun _ h => (by cases h))⟩
  rw [List.append_nil]
  exact List.forall_mem_cons.mpr ⟨⟨show (20 : Nat) < 100 from by decide, nf0⟩, List.forall_mem_cons.mpr ⟨⟨show (20 : Nat) < 100 from by decide, nf1⟩, List.forall_mem_cons.mpr ⟨⟨show (20 : Nat) < 100 from by decide, nf2⟩, (fun _ h => (by cases h))⟩⟩⟩
def o_Mo_ex_3 : or_T := (60, 5, [(0, (2, 0, 0, [165])), (1, (0, 0, 47, [])), (2, (0, 0, 0, [])), (3, (0, 0, 23, [])), (4, (0, -300000000, 300000000, []))], [(20, [4, 0, 3], [50, 1, 1, 1139, 1062, 1, 2, 1, 0, 3, 1, 62, 4, 7, 6, 2, 0, 24, 2, 1, 139, 1, 2]), (20, [3, 0, 1], [50, 1, 1, 1005, 1002, 1, 2, 1, 0, 3, 1, 2, 4, 7, 4, 3, 2, 1, 5, 0, 267, 1, 2]), (8, [2], [0]), (20, [2, 0, 1], [50, 1, 1, 1139, 1064, 0, 2, 1, 0, 4, 14, 3, 1, 64, 4, 7, 6, 2, 0, 48, 2, 1, 139, 1, 2, 0, 1])], [], [], [(20, [2, 4, 0, 1], [50, 2, 2, 2139, 2005, 2062, 2002, 4, 6, 1, 2, 1, 0, 0, 0, 1, 2, 1, 1, 3, 2, 62, 4, 7, 6, 2, 0, 24, 2, 2, 139, 3, 2, 2, 4, 7, 4, 3, 2, 2, 5, 0, 267, 1, 3]), (20, [2, 0, 1, 4], [50, 2, 3, 1139, 1005, 1064, 1062, 1002, 4, 22, 1, 2, 1, 0, 4, 14, 3, 1, 64, 4, 7, 6, 2, 0, 48, 2, 1, 139, 1, 2, 0, 1, 1, 2, 1, 3, 3, 1, 62, 4, 7, 6, 2, 0, 24, 2, 1, 139, 3, 1, 2, 4, 7, 4, 3, 2, 1, 5, 0, 315, 1, 2]), (20, [2, 0, 1, 4], [50, 1, 2, 1139, 1064, 1065, 3, 6, 1, 2, 1, 0, 0, 0, 3, 22, 1, 2, 1, 0, 4, 14, 3, 1, 64, 4, 7, 6, 2, 0, 48, 2, 1, 139, 1, 2, 0, 1, 1, 2, 1, 3, 3, 1, 65, 4, 15, 6, 2, 0, 24, 4, 7, 6, 2, 0, 48, 2, 1, 139, 1, 2, 5, 2, 1, 0, 0, 1])], [], [])
set_option maxHeartbeats 8000000 in
theorem oo_Mo_ex_3 {kA : Nat → ClassId} : or_ok PRD kA GG o_Mo_ex_3 := by
  refine or_mk fun A ta ws vs hD hth hl => ?_
  intro t0 r0 t1 k1 t2 k2 t3 k3 t4 k4 f0 f1 f2 f3
  replace f0 := shm_698 f0
  replace f1 := shm_749 f1
  replace f2 := shm_192 f2
  replace f3 := shm_1421 f3
  have cr_0_2 := fdq_10 hD hth r0
  have cr_0_62 := fdq_173 hD hth r0
  have cr_0_64 := fdq_171 hD hth r0
  have cr_0_65 := fdq_292 hD hth r0
  have hK_0_62 := elq_102 hD hth cr_0_62
  have hK_0_64 := elq_101 hD hth cr_0_64
  have hK_0_65 := elq_184 hD hth cr_0_65
  have kz_0_139 := fdq_172 hD hth r0
  first | have hP0 : w_ei ws (w_ar ws (n_v vs 0) 62) (((24 * w_fi ws (n_v vs 0) 139) + w_ei ws (w_ar ws (n_v vs 0) 2) (((w_fi ws (n_v vs 0) 5 + 267) + v_iv (n_v vs 1))))) = w_ei ws (w_ar ws (n_v vs 0) 62) (((24 * w_fi ws (n_v vs 0) 139) + v_iv (n_v vs 3))) := congrArg _ (show (((24 * w_fi ws (n_v vs 0) 139) + w_ei ws (w_ar ws (n_v vs 0) 2) (((w_fi ws (n_v vs 0) 5 + 267) + v_iv (n_v vs 1)))) : Int) = ((24 * w_fi ws (n_v vs 0) 139) + v_iv (n_v vs 3)) from by omega) | (have hN : (((24 * w_fi ws (n_v vs 0) 139) + w_ei ws (w_ar ws (n_v vs 0) 2) (((w_fi ws (n_v vs 0) 5 + 267) + v_iv (n_v vs 1)))) : Int) ≠ ((24 * w_fi ws (n_v vs 0) 139) + v_iv (n_v vs 3)) := by omega; clear hN) | have hP0 : (((24 * w_fi ws (n_v vs 0) 139) + w_ei ws (w_ar ws (n_v vs 0) 2) (((w_fi ws (n_v vs 0) 5 + 267) + v_iv (n_v vs 1)))) : Int) = ((24 * w_fi ws (n_v vs 0) 139) + v_iv (n_v vs 3)) → w_ei ws (w_ar ws (n_v vs 0) 62) (((24 * w_fi ws (n_v vs 0) 139) + w_ei ws (w_ar ws (n_v vs 0) 2) (((w_fi ws (n_v vs 0) 5 + 267) + v_iv (n_v vs 1))))) = w_ei ws (w_ar ws (n_v vs 0) 62) (((24 * w_fi ws (n_v vs 0) 139) + v_iv (n_v vs 3))) := fun h => congrArg _ h
  first | have hP1 : w_ei ws (w_ar ws (n_v vs 0) 2) (((w_fi ws (n_v vs 0) 5 + 315) + v_iv (n_v vs 1))) = w_ei ws (w_ar ws (n_v vs 0) 2) (((w_fi ws (n_v vs 0) 5 + 267) + v_iv (n_v vs 1))) := congrArg _ (show (((w_fi ws (n_v vs 0) 5 + 315) + v_iv (n_v vs 1)) : Int) = ((w_fi ws (n_v vs 0) 5 + 267) + v_iv (n_v vs 1)) from by omega) | (have hN : (((w_fi ws (n_v vs 0) 5 + 315) + v_iv (n_v vs 1)) : Int) ≠ ((w_fi ws (n_v vs 0) 5 + 267) + v_iv (n_v vs 1)) := by omega; clear hN) | have hP1 : (((w_fi ws (n_v vs 0) 5 + 315) + v_iv (n_v vs 1)) : Int) = ((w_fi ws (n_v vs 0) 5 + 267) + v_iv (n_v vs 1)) → w_ei ws (w_ar ws (n_v vs 0) 2) (((w_fi ws (n_v vs 0) 5 + 315) + v_iv (n_v vs 1))) = w_ei ws (w_ar ws (n_v vs 0) 2) (((w_fi ws (n_v vs 0) 5 + 267) + v_iv (n_v vs 1))) := fun h => congrArg _ h
  first | have hP2 : w_ei ws (w_ar ws (n_v vs 0) 62) (((24 * w_fi ws (n_v vs 0) 139) + w_ei ws (w_ar ws (n_v vs 0) 2) (((w_fi ws (n_v vs 0) 5 + 315) + v_iv (n_v vs 1))))) = w_ei ws (w_ar ws (n_v vs 0) 62) (((24 * w_fi ws (n_v vs 0) 139) + v_iv (n_v vs 3))) := congrArg _ (show (((24 * w_fi ws (n_v vs 0) 139) + w_ei ws (w_ar ws (n_v vs 0) 2) (((w_fi ws (n_v vs 0) 5 + 315) + v_iv (n_v vs 1)))) : Int) = ((24 * w_fi ws (n_v vs 0) 139) + v_iv (n_v vs 3)) from by omega) | (have hN : (((24 * w_fi ws (n_v vs 0) 139) + w_ei ws (w_ar ws (n_v vs 0) 2) (((w_fi ws (n_v vs 0) 5 + 315) + v_iv (n_v vs 1)))) : Int) ≠ ((24 * w_fi ws (n_v vs 0) 139) + v_iv (n_v vs 3)) := by omega; clear hN) | have hP2 : (((24 * w_fi ws (n_v vs 0) 139) + w_ei ws (w_ar ws (n_v vs 0) 2) (((w_fi ws (n_v vs 0) 5 + 315) + v_iv (n_v vs 1)))) : Int) = ((24 * w_fi ws (n_v vs 0) 139) + v_iv (n_v vs 3)) → w_ei ws (w_ar ws (n_v vs 0) 62) (((24 * w_fi ws (n_v vs 0) 139) + w_ei ws (w_ar ws (n_v vs 0) 2) (((w_fi ws (n_v vs 0) 5 + 315) + v_iv (n_v vs 1))))) = w_ei ws (w_ar ws (n_v vs 0) 62) (((24 * w_fi ws (n_v vs 0) 139) + v_iv (n_v vs 3))) := fun h => congrArg _ h
  first | have hP3 : w_ei ws (w_ar ws (n_v vs 0) 62) (((24 * w_fi ws (n_v vs 0) 139) + w_ei ws (w_ar ws (n_v vs 0) 2) (((w_fi ws (n_v vs 0) 5 + 315) + v_iv (n_v vs 1))))) = w_ei ws (w_ar ws (n_v vs 0) 62) (((24 * w_fi ws (n_v vs 0) 139) + w_ei ws (w_ar ws (n_v vs 0) 2) (((w_fi ws (n_v vs 0) 5 + 267) + v_iv (n_v vs 1))))) := congrArg _ (show (((24 * w_fi ws (n_v vs 0) 139) + w_ei ws (w_ar ws (n_v vs 0) 2) (((w_fi ws (n_v vs 0) 5 + 315) + v_iv (n_v vs 1)))) : Int) = ((24 * w_fi ws (n_v vs 0) 139) + w_ei ws (w_ar ws (n_v vs 0) 2) (((w_fi ws (n_v vs 0) 5 + 267) + v_iv (n_v vs 1)))) from by omega) | (have hN : (((24 * w_fi ws (n_v vs 0) 139) + w_ei ws (w_ar ws (n_v vs 0) 2) (((w_fi ws (n_v vs 0) 5 + 315) + v_iv (n_v vs 1)))) : Int) ≠ ((24 * w_fi ws (n_v vs 0) 139) + w_ei ws (w_ar ws (n_v vs 0) 2) (((w_fi ws (n_v vs 0) 5 + 267) + v_iv (n_v vs 1)))) := by omega; clear hN) | have hP3 : (((24 * w_fi ws (n_v vs 0) 139) + w_ei ws (w_ar ws (n_v vs 0) 2) (((w_fi ws (n_v vs 0) 5 + 315) + v_iv (n_v vs 1)))) : Int) = ((24 * w_fi ws (n_v vs 0) 139) + w_ei ws (w_ar ws (n_v vs 0) 2) (((w_fi ws (n_v vs 0) 5 + 267) + v_iv (n_v vs 1)))) → w_ei ws (w_ar ws (n_v vs 0) 62) (((24 * w_fi ws (n_v vs 0) 139) + w_ei ws (w_ar ws (n_v vs 0) 2) (((w_fi ws (n_v vs 0) 5 + 315) + v_iv (n_v vs 1))))) = w_ei ws (w_ar ws (n_v vs 0) 62) (((24 * w_fi ws (n_v vs 0) 139) + w_ei ws (w_ar ws (n_v vs 0) 2) (((w_fi ws (n_v vs 0) 5 + 267) + v_iv (n_v vs 1))))) := fun h => congrArg _ h
  have nf0 : fc_1 PRD (20, [2, 4, 0, 1], [50, 2, 2, 2139, 2005, 2062, 2002, 4, 6, 1, 2, 1, 0, 0, 0, 1, 2, 1, 1, 3, 2, 62, 4, 7, 6, 2, 0, 24, 2, 2, 139, 3, 2, 2, 4, 7, 4, 3, 2, 2, 5, 0, 267, 1, 3]) ws (vs) := by
    refine ⟨nf_in hl rfl, sgq_1423 ?_⟩
    · show (v_iv (n_v vs 2) = 0) → (v_iv (n_v vs 4) = w_ei ws (w_ar ws (n_v vs 0) 62) (((24 * w_fi ws (n_v vs 0) 139) + w_ei ws (w_ar ws (n_v vs 0) 2) (((w_fi ws (n_v vs 0) 5 + 267) + v_iv (n_v vs 1))))))
      first | omega | grind
  have nf1 : fc_1 PRD (20, [2, 0, 1, 4], [50, 2, 3, 1139, 1005, 1064, 1062, 1002, 4, 22, 1, 2, 1, 0, 4, 14, 3, 1, 64, 4, 7, 6, 2, 0, 48, 2, 1, 139, 1, 2, 0, 1, 1, 2, 1, 3, 3, 1, 62, 4, 7, 6, 2, 0, 24, 2, 1, 139, 3, 1, 2, 4, 7, 4, 3, 2, 1, 5, 0, 315, 1, 2]) ws (vs) := by
    refine ⟨nf_in hl rfl, sgq_1424 ?_⟩
    · show (v_iv (n_v vs 2) = (w_ei ws (w_ar ws (n_v vs 0) 64) (((48 * w_fi ws (n_v vs 0) 139) + v_iv (n_v vs 1))) + 1)) → (v_iv (n_v vs 4) = w_ei ws (w_ar ws (n_v vs 0) 62) (((24 * w_fi ws (n_v vs 0) 139) + w_ei ws (w_ar ws (n_v vs 0) 2) (((w_fi ws (n_v vs 0) 5 + 315) + v_iv (n_v vs 1))))))
      first | omega | grind
  have nf2 : fc_1 PRD (20, [2, 0, 1, 4], [50, 1, 2, 1139, 1064, 1065, 3, 6, 1, 2, 1, 0, 0, 0, 3, 22, 1, 2, 1, 0, 4, 14, 3, 1, 64, 4, 7, 6, 2, 0, 48, 2, 1, 139, 1, 2, 0, 1, 1, 2, 1, 3, 3, 1, 65, 4, 15, 6, 2, 0, 24, 4, 7, 6, 2, 0, 48, 2, 1, 139, 1, 2, 5, 2, 1, 0, 0, 1]) ws (vs) := by
    refine ⟨nf_in hl rfl, sgq_1425 ?_⟩
    · show (v_iv (n_v vs 2) = 0) ∨ ((v_iv (n_v vs 2) = (w_ei ws (w_ar ws (n_v vs 0) 64) (((48 * w_fi ws (n_v vs 0) 139) + v_iv (n_v vs 1))) + 1)) ∨ (v_iv (n_v vs 4) = w_ei ws (w_ar ws (n_v vs 0) 65) (((24 * ((48 * w_fi ws (n_v vs 0) 139) + v_iv (n_v vs 1))) + (v_iv (n_v vs 2) - 1)))))
      first | omega | grind
  refine ⟨(fun _ h => (by cases h)), [], trivial, ?_, (fun _ h => (by cases h))⟩
  rw [List.append_nil]
  exact List.forall_mem_cons.mpr ⟨⟨show (20 : Nat) < 100 from by decide, nf0⟩, List.forall_mem_cons.mpr ⟨⟨show (20 : Nat) < 100 from by decide, nf1⟩, List.forall_mem_cons.mpr ⟨⟨show (20 : Nat) < 100 from by decide, nf2⟩, (fun _ h => (by cases h))⟩⟩⟩
def n_Mo_ex_an : List an_T := []
def t_Mo_ex_ct : ct_L := [(1, 394, e_Mo_tail), (1, 398, e_Mo_head), (1, 1023, e_Mo_px), (1, 1026, e_Mo_pointsOf)]
set_option maxRecDepth 100000 in
theorem c_Mo_ex {l : Launch} {D : va_G} {kA : Nat → ClassId} (h_Mo_head : ct_ok PRD l D kA GG y_Mo_head z_Mo_head e_Mo_head) (h_Mo_pointsOf : ct_ok PRD l D kA GG y_Mo_pointsOf z_Mo_pointsOf e_Mo_pointsOf) (h_Mo_px : ct_ok PRD l D kA GG y_Mo_px z_Mo_px e_Mo_px) (h_Mo_tail : ct_ok PRD l D kA GG y_Mo_tail z_Mo_tail e_Mo_tail) : ct_ok PRD l D kA GG y_Mo_ex z_Mo_ex e_Mo_ex := chk_all_ok (FT := [(132, 13, 65), (1020, 13, 139)]) (PT := []) (CT := t_Mo_ex_ct) (KT := []) (NT := []) (AN := n_Mo_ex_an) (OT := [o_Mo_ex_0, o_Mo_ex_1, o_Mo_ex_2, o_Mo_ex_3]) 0 200 (List.forall_mem_cons.mpr ⟨oo_Mo_ex_0, List.forall_mem_cons.mpr ⟨oo_Mo_ex_1, List.forall_mem_cons.mpr ⟨oo_Mo_ex_2, List.forall_mem_cons.mpr ⟨oo_Mo_ex_3, List.forall_mem_nil _⟩⟩⟩⟩) (by decide +kernel) ⟨List.forall_mem_cons.mpr ⟨gf_Mo_132, List.forall_mem_cons.mpr ⟨gf_Mo_1020, List.forall_mem_nil _⟩⟩, List.forall_mem_nil _, List.forall_mem_cons.mpr ⟨cl_virtual (y := y_Mo_tail) (ci := 13) rfl rfl ⟨_, _, rfl⟩ (by decide +kernel) h_Mo_tail wm_3045 wm_9 wm_3042 wm_3044 wv_13_8 ⟨by decide, by decide, by decide +kernel⟩ (by decide), List.forall_mem_cons.mpr ⟨cl_virtual (y := y_Mo_head) (ci := 13) rfl rfl ⟨_, _, rfl⟩ (by decide +kernel) h_Mo_head wm_3049 wm_9 wm_3046 wm_3048 wv_13_9 ⟨by decide, by decide, by decide +kernel⟩ (by decide), List.forall_mem_cons.mpr ⟨cl_virtual (y := y_Mo_px) (ci := 13) rfl rfl ⟨_, _, rfl⟩ (by decide +kernel) h_Mo_px wm_3675 wm_9 wm_3672 wm_3674 wv_21_14 ⟨by decide, by decide, by decide +kernel⟩ (by decide), List.forall_mem_cons.mpr ⟨cl_virtual (y := y_Mo_pointsOf) (ci := 13) rfl rfl ⟨_, _, rfl⟩ (by decide +kernel) h_Mo_pointsOf wm_3726 wm_9 wm_3723 wm_3725 wv_22_8 ⟨by decide, by decide, by decide +kernel⟩ (by decide), List.forall_mem_nil _⟩⟩⟩⟩, List.forall_mem_nil _, List.forall_mem_nil _, GG_pl⟩ (by decide +kernel)
def o_Mo_ey_0 : or_T := (59, 16, [(0, (2, 0, 0, [165])), (1, (0, 0, 47, [])), (2, (0, 1, 25, [])), (3, (0, 2, 26, [])), (4, (0, 1, 1, [])), (5, (0, 1, 25, [])), (7, (0, 24, 24, [])), (8, (0, 48, 48, [])), (9, (0, 0, 3, [])), (10, (0, 0, 144, [])), (11, (0, 0, 191, [])), (12, (0, 0, 4584, [])), (13, (0, 1, 4609, [])), (14, (0, 1, 1, [])), (15, (0, 0, 4608, []))], [(2, [15, 13, 14], []), (1, [13, 12, 2], []), (3, [12, 7, 11], []), (1, [11, 10, 1], []), (3, [10, 8, 9], []), (9, [9, 0], [139]), (7, [2, 5], [1]), (2, [5, 3, 4], []), (20, [3, 0, 1], [50, 1, 1, 1139, 1064, 1, 2, 1, 0, 4, 14, 3, 1, 64, 4, 7, 6, 2, 0, 48, 2, 1, 139, 1, 2, 0, 2]), (8, [2], [1]), (20, [2, 0, 1], [50, 1, 1, 1139, 1064, 0, 2, 1, 0, 4, 14, 3, 1, 64, 4, 7, 6, 2, 0, 48, 2, 1, 139, 1, 2, 0, 1])], [(15, (0, 0, 4607, []))], [], [], [], [(15, 13, -1, -1), (15, 2, -1, 4583), (15, 12, 0, 24), (13, 2, 0, 4584), (13, 12, 1, 25), (11, 1, 0, 144), (11, 10, 0, 47), (5, 3, -1, -1)])
set_option maxHeartbeats 8000000 in
theorem oo_Mo_ey_0 {kA : Nat → ClassId} : or_ok PRD kA GG o_Mo_ey_0 := by
  refine or_mk fun A ta ws vs hD hth hl => ?_
  intro t0 r0 t1 k1 t2 k2 t3 k3 t4 k4 t5 k5 t7 k7 t8 k8 t9 k9 t10 k10 t11 k11 t12 k12 t13 k13 t14 k14 t15 k15 d0 d1 d2 d3 d4 d5 d6 d7 f0 f1 f2 f3 f4 f5 f6 f7 f8 f9 f10
  replace f0 := shm_14 f0
  replace f1 := shm_12 f1
  replace f2 := shm_38 f2
  rw [show v_iv (n_v vs 7) = 24 from by omega] at f2
  replace f3 := shm_12 f3
  replace f4 := shm_38 f4
  rw [show v_iv (n_v vs 8) = 48 from by omega] at f4
  replace f5 := shm_681 f5
  replace f6 := shm_40 f6
  replace f7 := shm_14 f7
  replace f8 := shm_683 f8
  replace f9 := shm_142 f9
  replace f10 := shm_1421 f10
  have cr_0_64 := fdq_171 hD hth r0
  have g5 : v_iv (n_v vs 9) = w_fi ws (n_v vs 0) 139 := congrArg v_iv f5
  have hK_0_64 := elq_101 hD hth cr_0_64
  have kz_0_139 := fdq_172 hD hth r0
  have rf15 : tv_ok ta (0, 0, 4607, []) (n_v vs 15) := tv_in t15 (by first | omega | grind) (by first | omega | grind)
  refine ⟨List.forall_mem_cons.mpr ⟨rf15, (fun _ h => (by cases h))⟩, [], trivial, ?_, (fun _ h => (by cases h))⟩
  rw [List.append_nil]
  exact (fun _ h => (by cases h))
def o_Mo_ey_1 : or_T := (60, 17, [(0, (2, 0, 0, [165])), (1, (0, 0, 47, [])), (2, (0, 1, 25, [])), (3, (0, 2, 26, [])), (4, (0, 1, 1, [])), (5, (0, 1, 25, [])), (6, (2, 0, 0, [206])), (7, (0, 24, 24, [])), (8, (0, 48, 48, [])), (9, (0, 0, 3, [])), (10, (0, 0, 144, [])), (11, (0, 0, 191, [])), (12, (0, 0, 4584, [])), (13, (0, 1, 4609, [])), (14, (0, 1, 1, [])), (15, (0, 0, 4607, [])), (16, (0, -900000000, 900000000, []))], [(10, [16, 6, 15], []), (2, [15, 13, 14], []), (1, [13, 12, 2], []), (3, [12, 7, 11], []), (1, [11, 10, 1], []), (3, [10, 8, 9], []), (9, [9, 0], [139]), (9, [6, 0], [66]), (7, [2, 5], [1]), (2, [5, 3, 4], []), (20, [3, 0, 1], [50, 1, 1, 1139, 1064, 1, 2, 1, 0, 4, 14, 3, 1, 64, 4, 7, 6, 2, 0, 48, 2, 1, 139, 1, 2, 0, 2]), (8, [2], [1]), (20, [2, 0, 1], [50, 1, 1, 1139, 1064, 0, 2, 1, 0, 4, 14, 3, 1, 64, 4, 7, 6, 2, 0, 48, 2, 1, 139, 1, 2, 0, 1])], [], [], [(20, [2, 16, 0, 1], [50, 2, 2, 2139, 2005, 2063, 2002, 4, 6, 1, 2, 1, 0, 0, 0, 1, 2, 1, 1, 3, 2, 63, 4, 7, 6, 2, 0, 24, 2, 2, 139, 3, 2, 2, 4, 7, 4, 3, 2, 2, 5, 0, 267, 1, 3]), (20, [2, 0, 1, 16], [50, 2, 3, 1139, 1005, 1064, 1063, 1002, 4, 22, 1, 2, 1, 0, 4, 14, 3, 1, 64, 4, 7, 6, 2, 0, 48, 2, 1, 139, 1, 2, 0, 1, 1, 2, 1, 3, 3, 1, 63, 4, 7, 6, 2, 0, 24, 2, 1, 139, 3, 1, 2, 4, 7, 4, 3, 2, 1, 5, 0, 315, 1, 2]), (20, [2, 0, 1, 16], [50, 1, 2, 1139, 1064, 1066, 3, 6, 1, 2, 1, 0, 0, 0, 3, 22, 1, 2, 1, 0, 4, 14, 3, 1, 64, 4, 7, 6, 2, 0, 48, 2, 1, 139, 1, 2, 0, 1, 1, 2, 1, 3, 3, 1, 66, 4, 15, 6, 2, 0, 24, 4, 7, 6, 2, 0, 48, 2, 1, 139, 1, 2, 5, 2, 1, 0, 0, 1])], [], [(15, 13, -1, -1), (15, 2, -1, 4583), (15, 12, 0, 24), (13, 2, 0, 4584), (13, 12, 1, 25), (11, 1, 0, 144), (11, 10, 0, 47), (5, 3, -1, -1)])
set_option maxHeartbeats 8000000 in
theorem oo_Mo_ey_1 {kA : Nat → ClassId} : or_ok PRD kA GG o_Mo_ey_1 := by
  refine or_mk fun A ta ws vs hD hth hl => ?_
  intro t0 r0 t1 k1 t2 k2 t3 k3 t4 k4 t5 k5 t6 r6 t7 k7 t8 k8 t9 k9 t10 k10 t11 k11 t12 k12 t13 k13 t14 k14 t15 k15 t16 k16 d0 d1 d2 d3 d4 d5 d6 d7 f0 f1 f2 f3 f4 f5 f6 f7 f8 f9 f10 f11 f12
  replace f0 := shm_107 f0
  replace f1 := shm_14 f1
  replace f2 := shm_12 f2
  replace f3 := shm_38 f3
  rw [show v_iv (n_v vs 7) = 24 from by omega] at f3
  replace f4 := shm_12 f4
  replace f5 := shm_38 f5
  rw [show v_iv (n_v vs 8) = 48 from by omega] at f5
  replace f6 := shm_681 f6
  replace f7 := shm_1426 f7
  replace f8 := shm_40 f8
  replace f9 := shm_14 f9
  replace f10 := shm_683 f10
  replace f11 := shm_142 f11
  replace f12 := shm_1421 f12
  have cr_0_2 := fdq_10 hD hth r0
  have cr_0_63 := fdq_174 hD hth r0
  have cr_0_64 := fdq_171 hD hth r0
  have cr_0_66 := fdq_293 hD hth r0
  have ad_6 : v_ad (n_v vs 6) = w_ar ws (n_v vs 0) 66 := congrArg v_ad f7
  simp only [ad_6] at f0
  have h0 : v_iv (n_v vs 16) = w_ei ws (w_ar ws (n_v vs 0) 66) (v_iv (n_v vs 15)) := f0
  have g6 : v_iv (n_v vs 9) = w_fi ws (n_v vs 0) 139 := congrArg v_iv f6
  have br_0_66_15_0 : w_ei ws (w_ar ws (n_v vs 0) 66) (v_iv (n_v vs 15)) = w_el ws (w_ar ws (n_v vs 0) 66) (v_iv (n_v vs 15)).toNat := rfl
  have hK_0_63 := elq_103 hD hth cr_0_63
  have hK_0_64 := elq_101 hD hth cr_0_64
  have hK_0_66 := elq_185 hD hth cr_0_66
  have kz_0_139 := fdq_172 hD hth r0
  first | have hP0 : w_ei ws (w_ar ws (n_v vs 0) 2) (((w_fi ws (n_v vs 0) 5 + 315) + v_iv (n_v vs 1))) = w_ei ws (w_ar ws (n_v vs 0) 2) (((w_fi ws (n_v vs 0) 5 + 267) + v_iv (n_v vs 1))) := congrArg _ (show (((w_fi ws (n_v vs 0) 5 + 315) + v_iv (n_v vs 1)) : Int) = ((w_fi ws (n_v vs 0) 5 + 267) + v_iv (n_v vs 1)) from by omega) | (have hN : (((w_fi ws (n_v vs 0) 5 + 315) + v_iv (n_v vs 1)) : Int) ≠ ((w_fi ws (n_v vs 0) 5 + 267) + v_iv (n_v vs 1)) := by omega; clear hN) | have hP0 : (((w_fi ws (n_v vs 0) 5 + 315) + v_iv (n_v vs 1)) : Int) = ((w_fi ws (n_v vs 0) 5 + 267) + v_iv (n_v vs 1)) → w_ei ws (w_ar ws (n_v vs 0) 2) (((w_fi ws (n_v vs 0) 5 + 315) + v_iv (n_v vs 1))) = w_ei ws (w_ar ws (n_v vs 0) 2) (((w_fi ws (n_v vs 0) 5 + 267) + v_iv (n_v vs 1))) := fun h => congrArg _ h
  first | have hP1 : w_ei ws (w_ar ws (n_v vs 0) 63) (((24 * w_fi ws (n_v vs 0) 139) + w_ei ws (w_ar ws (n_v vs 0) 2) (((w_fi ws (n_v vs 0) 5 + 315) + v_iv (n_v vs 1))))) = w_ei ws (w_ar ws (n_v vs 0) 63) (((24 * w_fi ws (n_v vs 0) 139) + w_ei ws (w_ar ws (n_v vs 0) 2) (((w_fi ws (n_v vs 0) 5 + 267) + v_iv (n_v vs 1))))) := congrArg _ (show (((24 * w_fi ws (n_v vs 0) 139) + w_ei ws (w_ar ws (n_v vs 0) 2) (((w_fi ws (n_v vs 0) 5 + 315) + v_iv (n_v vs 1)))) : Int) = ((24 * w_fi ws (n_v vs 0) 139) + w_ei ws (w_ar ws (n_v vs 0) 2) (((w_fi ws (n_v vs 0) 5 + 267) + v_iv (n_v vs 1)))) from by omega) | (have hN : (((24 * w_fi ws (n_v vs 0) 139) + w_ei ws (w_ar ws (n_v vs 0) 2) (((w_fi ws (n_v vs 0) 5 + 315) + v_iv (n_v vs 1)))) : Int) ≠ ((24 * w_fi ws (n_v vs 0) 139) + w_ei ws (w_ar ws (n_v vs 0) 2) (((w_fi ws (n_v vs 0) 5 + 267) + v_iv (n_v vs 1)))) := by omega; clear hN) | have hP1 : (((24 * w_fi ws (n_v vs 0) 139) + w_ei ws (w_ar ws (n_v vs 0) 2) (((w_fi ws (n_v vs 0) 5 + 315) + v_iv (n_v vs 1)))) : Int) = ((24 * w_fi ws (n_v vs 0) 139) + w_ei ws (w_ar ws (n_v vs 0) 2) (((w_fi ws (n_v vs 0) 5 + 267) + v_iv (n_v vs 1)))) → w_ei ws (w_ar ws (n_v vs 0) 63) (((24 * w_fi ws (n_v vs 0) 139) + w_ei ws (w_ar ws (n_v vs 0) 2) (((w_fi ws (n_v vs 0) 5 + 315) + v_iv (n_v vs 1))))) = w_ei ws (w_ar ws (n_v vs 0) 63) (((24 * w_fi ws (n_v vs 0) 139) + w_ei ws (w_ar ws (n_v vs 0) 2) (((w_fi ws (n_v vs 0) 5 + 267) + v_iv (n_v vs 1))))) := fun h => congrArg _ h
  first | have hP2 : w_ei ws (w_ar ws (n_v vs 0) 66) (v_iv (n_v vs 15)) = w_ei ws (w_ar ws (n_v vs 0) 66) (((24 * ((48 * w_fi ws (n_v vs 0) 139) + v_iv (n_v vs 1))) + (v_iv (n_v vs 2) - 1))) := congrArg _ (show (v_iv (n_v vs 15) : Int) = ((24 * ((48 * w_fi ws (n_v vs 0) 139) + v_iv (n_v vs 1))) + (v_iv (n_v vs 2) - 1)) from by omega) | (have hN : (v_iv (n_v vs 15) : Int) ≠ ((24 * ((48 * w_fi ws (n_v vs 0) 139) + v_iv (n_v vs 1))) + (v_iv (n_v vs 2) - 1)) := by omega; clear hN) | have hP2 : (v_iv (n_v vs 15) : Int) = ((24 * ((48 * w_fi ws (n_v vs 0) 139) + v_iv (n_v vs 1))) + (v_iv (n_v vs 2) - 1)) → w_ei ws (w_ar ws (n_v vs 0) 66) (v_iv (n_v vs 15)) = w_ei ws (w_ar ws (n_v vs 0) 66) (((24 * ((48 * w_fi ws (n_v vs 0) 139) + v_iv (n_v vs 1))) + (v_iv (n_v vs 2) - 1))) := fun h => congrArg _ h
  have nf0 : fc_1 PRD (20, [2, 16, 0, 1], [50, 2, 2, 2139, 2005, 2063, 2002, 4, 6, 1, 2, 1, 0, 0, 0, 1, 2, 1, 1, 3, 2, 63, 4, 7, 6, 2, 0, 24, 2, 2, 139, 3, 2, 2, 4, 7, 4, 3, 2, 2, 5, 0, 267, 1, 3]) ws (vs) := by
    refine ⟨nf_in hl rfl, sgq_1427 ?_⟩
    · show (v_iv (n_v vs 2) = 0) → (v_iv (n_v vs 16) = w_ei ws (w_ar ws (n_v vs 0) 63) (((24 * w_fi ws (n_v vs 0) 139) + w_ei ws (w_ar ws (n_v vs 0) 2) (((w_fi ws (n_v vs 0) 5 + 267) + v_iv (n_v vs 1))))))
      first | omega | grind
  have nf1 : fc_1 PRD (20, [2, 0, 1, 16], [50, 2, 3, 1139, 1005, 1064, 1063, 1002, 4, 22, 1, 2, 1, 0, 4, 14, 3, 1, 64, 4, 7, 6, 2, 0, 48, 2, 1, 139, 1, 2, 0, 1, 1, 2, 1, 3, 3, 1, 63, 4, 7, 6, 2, 0, 24, 2, 1, 139, 3, 1, 2, 4, 7, 4, 3, 2, 1, 5, 0, 315, 1, 2]) ws (vs) := by
    refine ⟨nf_in hl rfl, sgq_1428 ?_⟩
    · show (v_iv (n_v vs 2) = (w_ei ws (w_ar ws (n_v vs 0) 64) (((48 * w_fi ws (n_v vs 0) 139) + v_iv (n_v vs 1))) + 1)) → (v_iv (n_v vs 16) = w_ei ws (w_ar ws (n_v vs 0) 63) (((24 * w_fi ws (n_v vs 0) 139) + w_ei ws (w_ar ws (n_v vs 0) 2) (((w_fi ws (n_v vs 0) 5 + 315) + v_iv (n_v vs 1))))))
      first | omega | grind
  have nf2 : fc_1 PRD (20, [2, 0, 1, 16], [50, 1, 2, 1139, 1064, 1066, 3, 6, 1, 2, 1, 0, 0, 0, 3, 22, 1, 2, 1, 0, 4, 14, 3, 1, 64, 4, 7, 6, 2, 0, 48, 2, 1, 139, 1, 2, 0, 1, 1, 2, 1, 3, 3, 1, 66, 4, 15, 6, 2, 0, 24, 4, 7, 6, 2, 0, 48, 2, 1, 139, 1, 2, 5, 2, 1, 0, 0, 1]) ws (vs) := by
    refine ⟨nf_in hl rfl, sgq_1429 ?_⟩
    · show (v_iv (n_v vs 2) = 0) ∨ ((v_iv (n_v vs 2) = (w_ei ws (w_ar ws (n_v vs 0) 64) (((48 * w_fi ws (n_v vs 0) 139) + v_iv (n_v vs 1))) + 1)) ∨ (v_iv (n_v vs 16) = w_ei ws (w_ar ws (n_v vs 0) 66) (((24 * ((48 * w_fi ws (n_v vs 0) 139) + v_iv (n_v vs 1))) + (v_iv (n_v vs 2) - 1)))))
      first | omega | grind
  refine ⟨(fun _ h => (by cases h)), [], trivial, ?_, (fun _ h => (by cases h))⟩
  rw [List.append_nil]
  exact List.forall_mem_cons.mpr ⟨⟨show (20 : Nat) < 100 from by decide, nf0⟩, List.forall_mem_cons.mpr ⟨⟨show (20 : Nat) < 100 from by decide, nf1⟩, List.forall_mem_cons.mpr ⟨⟨show (20 : Nat) < 100 from by decide, nf2⟩, (fun _ h => (by cases h))⟩⟩⟩
def o_Mo_ey_2 : or_T := (60, 8, [(0, (2, 0, 0, [165])), (1, (0, 0, 47, [])), (2, (0, 1, 25, [])), (3, (0, 2, 26, [])), (4, (0, 1, 1, [])), (5, (0, 1, 25, [])), (6, (0, 0, 23, [])), (7, (0, -300000000, 300000000, []))], [(20, [7, 0, 6], [50, 1, 1, 1139, 1063, 1, 2, 1, 0, 3, 1, 63, 4, 7, 6, 2, 0, 24, 2, 1, 139, 1, 2]), (20, [6, 0, 1], [50, 1, 1, 1005, 1002, 1, 2, 1, 0, 3, 1, 2, 4, 7, 4, 3, 2, 1, 5, 0, 315, 1, 2]), (7, [2, 5], [0]), (2, [5, 3, 4], []), (20, [3, 0, 1], [50, 1, 1, 1139, 1064, 1, 2, 1, 0, 4, 14, 3, 1, 64, 4, 7, 6, 2, 0, 48, 2, 1, 139, 1, 2, 0, 2]), (8, [2], [1]), (20, [2, 0, 1], [50, 1, 1, 1139, 1064, 0, 2, 1, 0, 4, 14, 3, 1, 64, 4, 7, 6, 2, 0, 48, 2, 1, 139, 1, 2, 0, 1])], [], [], [(20, [2, 7, 0, 1], [50, 2, 2, 2139, 2005, 2063, 2002, 4, 6, 1, 2, 1, 0, 0, 0, 1, 2, 1, 1, 3, 2, 63, 4, 7, 6, 2, 0, 24, 2, 2, 139, 3, 2, 2, 4, 7, 4, 3, 2, 2, 5, 0, 267, 1, 3]), (20, [2, 0, 1, 7], [50, 2, 3, 1139, 1005, 1064, 1063, 1002, 4, 22, 1, 2, 1, 0, 4, 14, 3, 1, 64, 4, 7, 6, 2, 0, 48, 2, 1, 139, 1, 2, 0, 1, 1, 2, 1, 3, 3, 1, 63, 4, 7, 6, 2, 0, 24, 2, 1, 139, 3, 1, 2, 4, 7, 4, 3, 2, 1, 5, 0, 315, 1, 2]), (20, [2, 0, 1, 7], [50, 1, 2, 1139, 1064, 1066, 3, 6, 1, 2, 1, 0, 0, 0, 3, 22, 1, 2, 1, 0, 4, 14, 3, 1, 64, 4, 7, 6, 2, 0, 48, 2, 1, 139, 1, 2, 0, 1, 1, 2, 1, 3, 3, 1, 66, 4, 15, 6, 2, 0, 24, 4, 7, 6, 2, 0, 48, 2, 1, 139, 1, 2, 5, 2, 1, 0, 0, 1])], [], [(2, 5, 0, 0), (5, 3, -1, -1)])
set_option maxHeartbeats 8000000 in
theorem oo_Mo_ey_2 {kA : Nat → ClassId} : or_ok PRD kA GG o_Mo_ey_2 := by
  refine or_mk fun A ta ws vs hD hth hl => ?_
  intro t0 r0 t1 k1 t2 k2 t3 k3 t4 k4 t5 k5 t6 k6 t7 k7 d0 d1 f0 f1 f2 f3 f4 f5 f6
  replace f0 := shm_700 f0
  replace f1 := shm_603 f1
  replace f2 := shm_37 f2
  replace f3 := shm_14 f3
  replace f4 := shm_683 f4
  replace f5 := shm_142 f5
  replace f6 := shm_1421 f6
  have cr_0_2 := fdq_10 hD hth r0
  have cr_0_63 := fdq_174 hD hth r0
  have cr_0_64 := fdq_171 hD hth r0
  have cr_0_66 := fdq_293 hD hth r0
  have hK_0_63 := elq_103 hD hth cr_0_63
  have hK_0_64 := elq_101 hD hth cr_0_64
  have hK_0_66 := elq_185 hD hth cr_0_66
  have kz_0_139 := fdq_172 hD hth r0
  first | have hP0 : w_ei ws (w_ar ws (n_v vs 0) 2) (((w_fi ws (n_v vs 0) 5 + 267) + v_iv (n_v vs 1))) = w_ei ws (w_ar ws (n_v vs 0) 2) (((w_fi ws (n_v vs 0) 5 + 315) + v_iv (n_v vs 1))) := congrArg _ (show (((w_fi ws (n_v vs 0) 5 + 267) + v_iv (n_v vs 1)) : Int) = ((w_fi ws (n_v vs 0) 5 + 315) + v_iv (n_v vs 1)) from by omega) | (have hN : (((w_fi ws (n_v vs 0) 5 + 267) + v_iv (n_v vs 1)) : Int) ≠ ((w_fi ws (n_v vs 0) 5 + 315) + v_iv (n_v vs 1)) := by omega; clear hN) | have hP0 : (((w_fi ws (n_v vs 0) 5 + 267) + v_iv (n_v vs 1)) : Int) = ((w_fi ws (n_v vs 0) 5 + 315) + v_iv (n_v vs 1)) → w_ei ws (w_ar ws (n_v vs 0) 2) (((w_fi ws (n_v vs 0) 5 + 267) + v_iv (n_v vs 1))) = w_ei ws (w_ar ws (n_v vs 0) 2) (((w_fi ws (n_v vs 0) 5 + 315) + v_iv (n_v vs 1))) := fun h => congrArg _ h
  first | have hP1 : w_ei ws (w_ar ws (n_v vs 0) 63) (((24 * w_fi ws (n_v vs 0) 139) + w_ei ws (w_ar ws (n_v vs 0) 2) (((w_fi ws (n_v vs 0) 5 + 267) + v_iv (n_v vs 1))))) = w_ei ws (w_ar ws (n_v vs 0) 63) (((24 * w_fi ws (n_v vs 0) 139) + v_iv (n_v vs 6))) := congrArg _ (show (((24 * w_fi ws (n_v vs 0) 139) + w_ei ws (w_ar ws (n_v vs 0) 2) (((w_fi ws (n_v vs 0) 5 + 267) + v_iv (n_v vs 1)))) : Int) = ((24 * w_fi ws (n_v vs 0) 139) + v_iv (n_v vs 6)) from by omega) | (have hN : (((24 * w_fi ws (n_v vs 0) 139) + w_ei ws (w_ar ws (n_v vs 0) 2) (((w_fi ws (n_v vs 0) 5 + 267) + v_iv (n_v vs 1)))) : Int) ≠ ((24 * w_fi ws (n_v vs 0) 139) + v_iv (n_v vs 6)) := by omega; clear hN) | have hP1 : (((24 * w_fi ws (n_v vs 0) 139) + w_ei ws (w_ar ws (n_v vs 0) 2) (((w_fi ws (n_v vs 0) 5 + 267) + v_iv (n_v vs 1)))) : Int) = ((24 * w_fi ws (n_v vs 0) 139) + v_iv (n_v vs 6)) → w_ei ws (w_ar ws (n_v vs 0) 63) (((24 * w_fi ws (n_v vs 0) 139) + w_ei ws (w_ar ws (n_v vs 0) 2) (((w_fi ws (n_v vs 0) 5 + 267) + v_iv (n_v vs 1))))) = w_ei ws (w_ar ws (n_v vs 0) 63) (((24 * w_fi ws (n_v vs 0) 139) + v_iv (n_v vs 6))) := fun h => congrArg _ h
  first | have hP2 : w_ei ws (w_ar ws (n_v vs 0) 63) (((24 * w_fi ws (n_v vs 0) 139) + w_ei ws (w_ar ws (n_v vs 0) 2) (((w_fi ws (n_v vs 0) 5 + 315) + v_iv (n_v vs 1))))) = w_ei ws (w_ar ws (n_v vs 0) 63) (((24 * w_fi ws (n_v vs 0) 139) + v_iv (n_v vs 6))) := congrArg _ (show (((24 * w_fi ws (n_v vs 0) 139) + w_ei ws (w_ar ws (n_v vs 0) 2) (((w_fi ws (n_v vs 0) 5 + 315) + v_iv (n_v vs 1)))) : Int) = ((24 * w_fi ws (n_v vs 0) 139) + v_iv (n_v vs 6)) from by omega) | (have hN : (((24 * w_fi ws (n_v vs 0) 139) + w_ei ws (w_ar ws (n_v vs 0) 2) (((w_fi ws (n_v vs 0) 5 + 315) + v_iv (n_v vs 1)))) : Int) ≠ ((24 * w_fi ws (n_v vs 0) 139) + v_iv (n_v vs 6)) := by omega; clear hN) | have hP2 : (((24 * w_fi ws (n_v vs 0) 139) + w_ei ws (w_ar ws (n_v vs 0) 2) (((w_fi ws (n_v vs 0) 5 + 315) + v_iv (n_v vs 1)))) : Int) = ((24 * w_fi ws (n_v vs 0) 139) + v_iv (n_v vs 6)) → w_ei ws (w_ar ws (n_v vs 0) 63) (((24 * w_fi ws (n_v vs 0) 139) + w_ei ws (w_ar ws (n_v vs 0) 2) (((w_fi ws (n_v vs 0) 5 + 315) + v_iv (n_v vs 1))))) = w_ei ws (w_ar ws (n_v vs 0) 63) (((24 * w_fi ws (n_v vs 0) 139) + v_iv (n_v vs 6))) := fun h => congrArg _ h
  first | have hP3 : w_ei ws (w_ar ws (n_v vs 0) 63) (((24 * w_fi ws (n_v vs 0) 139) + w_ei ws (w_ar ws (n_v vs 0) 2) (((w_fi ws (n_v vs 0) 5 + 315) + v_iv (n_v vs 1))))) = w_ei ws (w_ar ws (n_v vs 0) 63) (((24 * w_fi ws (n_v vs 0) 139) + w_ei ws (w_ar ws (n_v vs 0) 2) (((w_fi ws (n_v vs 0) 5 + 267) + v_iv (n_v vs 1))))) := congrArg _ (show (((24 * w_fi ws (n_v vs 0) 139) + w_ei ws (w_ar ws (n_v vs 0) 2) (((w_fi ws (n_v vs 0) 5 + 315) + v_iv (n_v vs 1)))) : Int) = ((24 * w_fi ws (n_v vs 0) 139) + w_ei ws (w_ar ws (n_v vs 0) 2) (((w_fi ws (n_v vs 0) 5 + 267) + v_iv (n_v vs 1)))) from by omega) | (have hN : (((24 * w_fi ws (n_v vs 0) 139) + w_ei ws (w_ar ws (n_v vs 0) 2) (((w_fi ws (n_v vs 0) 5 + 315) + v_iv (n_v vs 1)))) : Int) ≠ ((24 * w_fi ws (n_v vs 0) 139) + w_ei ws (w_ar ws (n_v vs 0) 2) (((w_fi ws (n_v vs 0) 5 + 267) + v_iv (n_v vs 1)))) := by omega; clear hN) | have hP3 : (((24 * w_fi ws (n_v vs 0) 139) + w_ei ws (w_ar ws (n_v vs 0) 2) (((w_fi ws (n_v vs 0) 5 + 315) + v_iv (n_v vs 1)))) : Int) = ((24 * w_fi ws (n_v vs 0) 139) + w_ei ws (w_ar ws (n_v vs 0) 2) (((w_fi ws (n_v vs 0) 5 + 267) + v_iv (n_v vs 1)))) → w_ei ws (w_ar ws (n_v vs 0) 63) (((24 * w_fi ws (n_v vs 0) 139) + w_ei ws (w_ar ws (n_v vs 0) 2) (((w_fi ws (n_v vs 0) 5 + 315) + v_iv (n_v vs 1))))) = w_ei ws (w_ar ws (n_v vs 0) 63) (((24 * w_fi ws (n_v vs 0) 139) + w_ei ws (w_ar ws (n_v vs 0) 2) (((w_fi ws (n_v vs 0) 5 + 267) + v_iv (n_v vs 1))))) := fun h => congrArg _ h
  have nf0 : fc_1 PRD (20, [2, 7, 0, 1], [50, 2, 2, 2139, 2005, 2063, 2002, 4, 6, 1, 2, 1, 0, 0, 0, 1, 2, 1, 1, 3, 2, 63, 4, 7, 6, 2, 0, 24, 2, 2, 139, 3, 2, 2, 4, 7, 4, 3, 2, 2, 5, 0, 267, 1, 3]) ws (vs) := by
    refine ⟨nf_in hl rfl, sgq_1427 ?_⟩
    · show (v_iv (n_v vs 2) = 0) → (v_iv (n_v vs 7) = w_ei ws (w_ar ws (n_v vs 0) 63) (((24 * w_fi ws (n_v vs 0) 139) + w_ei ws (w_ar ws (n_v vs 0) 2) (((w_fi ws (n_v vs 0) 5 + 267) + v_iv (n_v vs 1))))))
      first | omega | grind
  have nf1 : fc_1 PRD (20, [2, 0, 1, 7], [50, 2, 3, 1139, 1005, 1064, 1063, 1002, 4, 22, 1, 2, 1, 0, 4, 14, 3, 1, 64, 4, 7, 6, 2, 0, 48, 2, 1, 139, 1, 2, 0, 1, 1, 2, 1, 3, 3, 1, 63, 4, 7, 6, 2, 0, 24, 2, 1, 139, 3, 1, 2, 4, 7, 4, 3, 2, 1, 5, 0, 315, 1, 2]) ws (vs) := by
    refine ⟨nf_in hl rfl, sgq_1428 ?_⟩
    · show (v_iv (n_v vs 2) = (w_ei ws (w_ar ws (n_v vs 0) 64) (((48 * w_fi ws (n_v vs 0) 139) + v_iv (n_v vs 1))) + 1)) → (v_iv (n_v vs 7) = w_ei ws (w_ar ws (n_v vs 0) 63) (((24 * w_fi ws (n_v vs 0) 139) + w_ei ws (w_ar ws (n_v vs 0) 2) (((w_fi ws (n_v vs 0) 5 + 315) + v_iv (n_v vs 1))))))
      first | omega | grind
  have nf2 : fc_1 PRD (20, [2, 0, 1, 7], [50, 1, 2, 1139, 1064, 1066, 3, 6, 1, 2, 1, 0, 0, 0, 3, 22, 1, 2, 1, 0, 4, 14, 3, 1, 64, 4, 7, 6, 2, 0, 48, 2, 1, 139, 1, 2, 0, 1, 1, 2, 1, 3, 3, 1, 66, 4, 15, 6, 2, 0, 24, 4, 7, 6, 2, 0, 48, 2, 1, 139, 1, 2, 5, 2, 1, 0, 0, 1]) ws (vs) := by
    refine ⟨nf_in hl rfl, sgq_1429 ?_⟩
    · show (v_iv (n_v vs 2) = 0) ∨ ((v_iv (n_v vs 2) = (w_ei ws (w_ar ws (n_v vs 0) 64) (((48 * w_fi ws (n_v vs 0) 139) + v_iv (n_v vs 1))) + 1)) ∨ (v_iv (n_v vs 7) = w_ei ws (w_ar ws (n_v vs 0) 66) (((24 * ((48 * w_fi ws (n_v vs 0) 139) + v_iv (n_v vs 1))) + (v_iv (n_v vs 2) - 1)))))
      first | omega | grind
  refine ⟨(fun _ h => (by cases h)), [], trivial, ?_, (fun _ h => (by cases h))⟩
  rw [List.append_nil]
  exact List.forall_mem_cons.mpr ⟨⟨show (20 : Nat) < 100 from by decide, nf0⟩, List.forall_mem_cons.mpr ⟨⟨show (20 : Nat) < 100 from by decide, nf1⟩, List.forall_mem_cons.mpr ⟨⟨show (20 : Nat) < 100 from by decide, nf2⟩, (fun _ h => (by cases h))⟩⟩⟩
def o_Mo_ey_3 : or_T := (60, 5, [(0, (2, 0, 0, [165])), (1, (0, 0, 47, [])), (2, (0, 0, 0, [])), (3, (0, 0, 23, [])), (4, (0, -300000000, 300000000, []))], [(20, [4, 0, 3], [50, 1, 1, 1139, 1063, 1, 2, 1, 0, 3, 1, 63, 4, 7, 6, 2, 0, 24, 2, 1, 139, 1, 2]), (20, [3, 0, 1], [50, 1, 1, 1005, 1002, 1, 2, 1, 0, 3, 1, 2, 4, 7, 4, 3, 2, 1, 5, 0, 267, 1, 2]), (8, [2], [0]), (20, [2, 0, 1], [50, 1, 1, 1139, 1064, 0, 2, 1, 0, 4, 14, 3, 1, 64, 4, 7, 6, 2, 0, 48, 2, 1, 139, 1, 2, 0, 1])], [], [], [(20, [2, 4, 0, 1], [50, 2, 2, 2139, 2005, 2063, 2002, 4, 6, 1, 2, 1, 0, 0, 0, 1, 2, 1, 1, 3, 2, 63, 4, 7, 6, 2, 0, 24, 2, 2, 139, 3, 2, 2, 4, 7, 4, 3, 2, 2, 5, 0, 267, 1, 3]), (20, [2, 0, 1, 4], [50, 2, 3, 1139, 1005, 1064, 1063, 1002, 4, 22, 1, 2, 1, 0, 4, 14, 3, 1, 64, 4, 7, 6, 2, 0, 48, 2, 1, 139, 1, 2, 0, 1, 1, 2, 1, 3, 3, 1, 63, 4, 7, 6, 2, 0, 24, 2, 1, 139, 3, 1, 2, 4, 7, 4, 3, 2, 1, 5, 0, 315, 1, 2]), (20, [2, 0, 1, 4], [50, 1, 2, 1139, 1064, 1066, 3, 6, 1, 2, 1, 0, 0, 0, 3, 22, 1, 2, 1, 0, 4, 14, 3, 1, 64, 4, 7, 6, 2, 0, 48, 2, 1, 139, 1, 2, 0, 1, 1, 2, 1, 3, 3, 1, 66, 4, 15, 6, 2, 0, 24, 4, 7, 6, 2, 0, 48, 2, 1, 139, 1, 2, 5, 2, 1, 0, 0, 1])], [], [])
set_option maxHeartbeats 8000000 in
theorem oo_Mo_ey_3 {kA : Nat → ClassId} : or_ok PRD kA GG o_Mo_ey_3 := by
  refine or_mk fun A ta ws vs hD hth hl => ?_
  intro t0 r0 t1 k1 t2 k2 t3 k3 t4 k4 f0 f1 f2 f3
  replace f0 := shm_700 f0
  replace f1 := shm_749 f1
  replace f2 := shm_192 f2
  replace f3 := shm_1421 f3
  have cr_0_2 := fdq_10 hD hth r0
  have cr_0_63 := fdq_174 hD hth r0
  have cr_0_64 := fdq_171 hD hth r0
  have cr_0_66 := fdq_293 hD hth r0
  have hK_0_63 := elq_103 hD hth cr_0_63
  have hK_0_64 := elq_101 hD hth cr_0_64
  have hK_0_66 := elq_185 hD hth cr_0_66
  have kz_0_139 := fdq_172 hD hth r0
  first | have hP0 : w_ei ws (w_ar ws (n_v vs 0) 63) (((24 * w_fi ws (n_v vs 0) 139) + w_ei ws (w_ar ws (n_v vs 0) 2) (((w_fi ws (n_v vs 0) 5 + 267) + v_iv (n_v vs 1))))) = w_ei ws (w_ar ws (n_v vs 0) 63) (((24 * w_fi ws (n_v vs 0) 139) + v_iv (n_v vs 3))) := congrArg _ (show (((24 * w_fi ws (n_v vs 0) 139) + w_ei ws (w_ar ws (n_v vs 0) 2) (((w_fi ws (n_v vs 0) 5 + 267) + v_iv (n_v vs 1)))) : Int) = ((24 * w_fi ws (n_v vs 0) 139) + v_iv (n_v vs 3)) from by omega) | (have hN : (((24 * w_fi ws (n_v vs 0) 139) + w_ei ws (w_ar ws (n_v vs 0) 2) (((w_fi ws (n_v vs 0) 5 + 267) + v_iv (n_v vs 1)))) : Int) ≠ ((24 * w_fi ws (n_v vs 0) 139) + v_iv (n_v vs 3)) := by omega; clear hN) | have hP0 : (((24 * w_fi ws (n_v vs 0) 139) + w_ei ws (w_ar ws (n_v vs 0) 2) (((w_fi ws (n_v vs 0) 5 + 267) + v_iv (n_v vs 1)))) : Int) = ((24 * w_fi ws (n_v vs 0) 139) + v_iv (n_v vs 3)) → w_ei ws (w_ar ws (n_v vs 0) 63) (((24 * w_fi ws (n_v vs 0) 139) + w_ei ws (w_ar ws (n_v vs 0) 2) (((w_fi ws (n_v vs 0) 5 + 267) + v_iv (n_v vs 1))))) = w_ei ws (w_ar ws (n_v vs 0) 63) (((24 * w_fi ws (n_v vs 0) 139) + v_iv (n_v vs 3))) := fun h => congrArg _ h
  first | have hP1 : w_ei ws (w_ar ws (n_v vs 0) 2) (((w_fi ws (n_v vs 0) 5 + 315) + v_iv (n_v vs 1))) = w_ei ws (w_ar ws (n_v vs 0) 2) (((w_fi ws (n_v vs 0) 5 + 267) + v_iv (n_v vs 1))) := congrArg _ (show (((w_fi ws (n_v vs 0) 5 + 315) + v_iv (n_v vs 1)) : Int) = ((w_fi ws (n_v vs 0) 5 + 267) + v_iv (n_v vs 1)) from by omega) | (have hN : (((w_fi ws (n_v vs 0) 5 + 315) + v_iv (n_v vs 1)) : Int) ≠ ((w_fi ws (n_v vs 0) 5 + 267) + v_iv (n_v vs 1)) := by omega; clear hN) | have hP1 : (((w_fi ws (n_v vs 0) 5 + 315) + v_iv (n_v vs 1)) : Int) = ((w_fi ws (n_v vs 0) 5 + 267) + v_iv (n_v vs 1)) → w_ei ws (w_ar ws (n_v vs 0) 2) (((w_fi ws (n_v vs 0) 5 + 315) + v_iv (n_v vs 1))) = w_ei ws (w_ar ws (n_v vs 0) 2) (((w_fi ws (n_v vs 0) 5 + 267) + v_iv (n_v vs 1))) := fun h => congrArg _ h
  first | have hP2 : w_ei ws (w_ar ws (n_v vs 0) 63) (((24 * w_fi ws (n_v vs 0) 139) + w_ei ws (w_ar ws (n_v vs 0) 2) (((w_fi ws (n_v vs 0) 5 + 315) + v_iv (n_v vs 1))))) = w_ei ws (w_ar ws (n_v vs 0) 63) (((24 * w_fi ws (n_v vs 0) 139) + v_iv (n_v vs 3))) := congrArg _ (show (((24 * w_fi ws (n_v vs 0) 139) + w_ei ws (w_ar ws (n_v vs 0) 2) (((w_fi ws (n_v vs 0) 5 + 315) + v_iv (n_v vs 1)))) : Int) = ((24 * w_fi ws (n_v vs 0) 139) + v_iv (n_v vs 3)) from by omega) | (have hN : (((24 * w_fi ws (n_v vs 0) 139) + w_ei ws (w_ar ws (n_v vs 0) 2) (((w_fi ws (n_v vs 0) 5 + 315) + v_iv (n_v vs 1)))) : Int) ≠ ((24 * w_fi ws (n_v vs 0) 139) + v_iv (n_v vs 3)) := by omega; clear hN) | have hP2 : (((24 * w_fi ws (n_v vs 0) 139) + w_ei ws (w_ar ws (n_v vs 0) 2) (((w_fi ws (n_v vs 0) 5 + 315) + v_iv (n_v vs 1)))) : Int) = ((24 * w_fi ws (n_v vs 0) 139) + v_iv (n_v vs 3)) → w_ei ws (w_ar ws (n_v vs 0) 63) (((24 * w_fi ws (n_v vs 0) 139) + w_ei ws (w_ar ws (n_v vs 0) 2) (((w_fi ws (n_v vs 0) 5 + 315) + v_iv (n_v vs 1))))) = w_ei ws (w_ar ws (n_v vs 0) 63) (((24 * w_fi ws (n_v vs 0) 139) + v_iv (n_v vs 3))) := fun h => congrArg _ h
  first | have hP3 : w_ei ws (w_ar ws (n_v vs 0) 63) (((24 * w_fi ws (n_v vs 0) 139) + w_ei ws (w_ar ws (n_v vs 0) 2) (((w_fi ws (n_v vs 0) 5 + 315) + v_iv (n_v vs 1))))) = w_ei ws (w_ar ws (n_v vs 0) 63) (((24 * w_fi ws (n_v vs 0) 139) + w_ei ws (w_ar ws (n_v vs 0) 2) (((w_fi ws (n_v vs 0) 5 + 267) + v_iv (n_v vs 1))))) := congrArg _ (show (((24 * w_fi ws (n_v vs 0) 139) + w_ei ws (w_ar ws (n_v vs 0) 2) (((w_fi ws (n_v vs 0) 5 + 315) + v_iv (n_v vs 1)))) : Int) = ((24 * w_fi ws (n_v vs 0) 139) + w_ei ws (w_ar ws (n_v vs 0) 2) (((w_fi ws (n_v vs 0) 5 + 267) + v_iv (n_v vs 1)))) from by omega) | (have hN : (((24 * w_fi ws (n_v vs 0) 139) + w_ei ws (w_ar ws (n_v vs 0) 2) (((w_fi ws (n_v vs 0) 5 + 315) + v_iv (n_v vs 1)))) : Int) ≠ ((24 * w_fi ws (n_v vs 0) 139) + w_ei ws (w_ar ws (n_v vs 0) 2) (((w_fi ws (n_v vs 0) 5 + 267) + v_iv (n_v vs 1)))) := by omega; clear hN) | have hP3 : (((24 * w_fi ws (n_v vs 0) 139) + w_ei ws (w_ar ws (n_v vs 0) 2) (((w_fi ws (n_v vs 0) 5 + 315) + v_iv (n_v vs 1)))) : Int) = ((24 * w_fi ws (n_v vs 0) 139) + w_ei ws (w_ar ws (n_v vs 0) 2) (((w_fi ws (n_v vs 0) 5 + 267) + v_iv (n_v vs 1)))) → w_ei ws (w_ar ws (n_v vs 0) 63) (((24 * w_fi ws (n_v vs 0) 139) + w_ei ws (w_ar ws (n_v vs 0) 2) (((w_fi ws (n_v vs 0) 5 + 315) + v_iv (n_v vs 1))))) = w_ei ws (w_ar ws (n_v vs 0) 63) (((24 * w_fi ws (n_v vs 0) 139) + w_ei ws (w_ar ws (n_v vs 0) 2) (((w_fi ws (n_v vs 0) 5 + 267) + v_iv (n_v vs 1))))) := fun h => congrArg _ h
  have nf0 : fc_1 PRD (20, [2, 4, 0, 1], [50, 2, 2, 2139, 2005, 2063, 2002, 4, 6, 1, 2, 1, 0, 0, 0, 1, 2, 1, 1, 3, 2, 63, 4, 7, 6, 2, 0, 24, 2, 2, 139, 3, 2, 2, 4, 7, 4, 3, 2, 2, 5, 0, 267, 1, 3]) ws (vs) := by
    refine ⟨nf_in hl rfl, sgq_1427 ?_⟩
    · show (v_iv (n_v vs 2) = 0) → (v_iv (n_v vs 4) = w_ei ws (w_ar ws (n_v vs 0) 63) (((24 * w_fi ws (n_v vs 0) 139) + w_ei ws (w_ar ws (n_v vs 0) 2) (((w_fi ws (n_v vs 0) 5 + 267) + v_iv (n_v vs 1))))))
      first | omega | grind
  have nf1 : fc_1 PRD (20, [2, 0, 1, 4], [50, 2, 3, 1139, 1005, 1064, 1063, 1002, 4, 22, 1, 2, 1, 0, 4, 14, 3, 1, 64, 4, 7, 6, 2, 0, 48, 2, 1, 139, 1, 2, 0, 1, 1, 2, 1, 3, 3, 1, 63, 4, 7, 6, 2, 0, 24, 2, 1, 139, 3, 1, 2, 4, 7, 4, 3, 2, 1, 5, 0, 315, 1, 2]) ws (vs) := by
    refine ⟨nf_in hl rfl, sgq_1428 ?_⟩
    · show (v_iv (n_v vs 2) = (w_ei ws (w_ar ws (n_v vs 0) 64) (((48 * w_fi ws (n_v vs 0) 139) + v_iv (n_v vs 1))) + 1)) → (v_iv (n_v vs 4) = w_ei ws (w_ar ws (n_v vs 0) 63) (((24 * w_fi ws (n_v vs 0) 139) + w_ei ws (w_ar ws (n_v vs 0) 2) (((w_fi ws (n_v vs 0) 5 + 315) + v_iv (n_v vs 1))))))
      first | omega | grind
  have nf2 : fc_1 PRD (20, [2, 0, 1, 4], [50, 1, 2, 1139, 1064, 1066, 3, 6, 1, 2, 1, 0, 0, 0, 3, 22, 1, 2, 1, 0, 4, 14, 3, 1, 64, 4, 7, 6, 2, 0, 48, 2, 1, 139, 1, 2, 0, 1, 1, 2, 1, 3, 3, 1, 66, 4, 15, 6, 2, 0, 24, 4, 7, 6, 2, 0, 48, 2, 1, 139, 1, 2, 5, 2, 1, 0, 0, 1]) ws (vs) := by
    refine ⟨nf_in hl rfl, sgq_1429 ?_⟩
    · show (v_iv (n_v vs 2) = 0) ∨ ((v_iv (n_v vs 2) = (w_ei ws (w_ar ws (n_v vs 0) 64) (((48 * w_fi ws (n_v vs 0) 139) + v_iv (n_v vs 1))) + 1)) ∨ (v_iv (n_v vs 4) = w_ei ws (w_ar ws (n_v vs 0) 66) (((24 * ((48 * w_fi ws (n_v vs 0) 139) + v_iv (n_v vs 1))) + (v_iv (n_v vs 2) - 1)))))
      first | omega | grind
  refine ⟨(fun _ h => (by cases h)), [], trivial, ?_, (fun _ h => (by cases h))⟩
  rw [List.append_nil]
  exact List.forall_mem_cons.mpr ⟨⟨show (20 : Nat) < 100 from by decide, nf0⟩, List.forall_mem_cons.mpr ⟨⟨show (20 : Nat) < 100 from by decide, nf1⟩, List.forall_mem_cons.mpr ⟨⟨show (20 : Nat) < 100 from by decide, nf2⟩, (fun _ h => (by cases h))⟩⟩⟩
def n_Mo_ey_an : List an_T := []
def t_Mo_ey_ct : ct_L := [(1, 394, e_Mo_tail), (1, 398, e_Mo_head), (1, 1026, e_Mo_pointsOf), (1, 1029, e_Mo_py)]
set_option maxRecDepth 100000 in
theorem c_Mo_ey {l : Launch} {D : va_G} {kA : Nat → ClassId} (h_Mo_head : ct_ok PRD l D kA GG y_Mo_head z_Mo_head e_Mo_head) (h_Mo_pointsOf : ct_ok PRD l D kA GG y_Mo_pointsOf z_Mo_pointsOf e_Mo_pointsOf) (h_Mo_py : ct_ok PRD l D kA GG y_Mo_py z_Mo_py e_Mo_py) (h_Mo_tail : ct_ok PRD l D kA GG y_Mo_tail z_Mo_tail e_Mo_tail) : ct_ok PRD l D kA GG y_Mo_ey z_Mo_ey e_Mo_ey := chk_all_ok (FT := [(135, 13, 66), (1020, 13, 139)]) (PT := []) (CT := t_Mo_ey_ct) (KT := []) (NT := []) (AN := n_Mo_ey_an) (OT := [o_Mo_ey_0, o_Mo_ey_1, o_Mo_ey_2, o_Mo_ey_3]) 0 200 (List.forall_mem_cons.mpr ⟨oo_Mo_ey_0, List.forall_mem_cons.mpr ⟨oo_Mo_ey_1, List.forall_mem_cons.mpr ⟨oo_Mo_ey_2, List.forall_mem_cons.mpr ⟨oo_Mo_ey_3, List.forall_mem_nil _⟩⟩⟩⟩) (by decide +kernel) ⟨List.forall_mem_cons.mpr ⟨gf_Mo_135, List.forall_mem_cons.mpr ⟨gf_Mo_1020, List.forall_mem_nil _⟩⟩, List.forall_mem_nil _, List.forall_mem_cons.mpr ⟨cl_virtual (y := y_Mo_tail) (ci := 13) rfl rfl ⟨_, _, rfl⟩ (by decide +kernel) h_Mo_tail wm_3045 wm_9 wm_3042 wm_3044 wv_13_8 ⟨by decide, by decide, by decide +kernel⟩ (by decide), List.forall_mem_cons.mpr ⟨cl_virtual (y := y_Mo_head) (ci := 13) rfl rfl ⟨_, _, rfl⟩ (by decide +kernel) h_Mo_head wm_3049 wm_9 wm_3046 wm_3048 wv_13_9 ⟨by decide, by decide, by decide +kernel⟩ (by decide), List.forall_mem_cons.mpr ⟨cl_virtual (y := y_Mo_pointsOf) (ci := 13) rfl rfl ⟨_, _, rfl⟩ (by decide +kernel) h_Mo_pointsOf wm_3726 wm_9 wm_3723 wm_3725 wv_22_8 ⟨by decide, by decide, by decide +kernel⟩ (by decide), List.forall_mem_cons.mpr ⟨cl_virtual (y := y_Mo_py) (ci := 13) rfl rfl ⟨_, _, rfl⟩ (by decide +kernel) h_Mo_py wm_3679 wm_9 wm_3676 wm_3678 wv_21_15 ⟨by decide, by decide, by decide +kernel⟩ (by decide), List.forall_mem_nil _⟩⟩⟩⟩, List.forall_mem_nil _, List.forall_mem_nil _, GG_pl⟩ (by decide +kernel)
set_option maxHeartbeats 4000000 in
theorem vc_Mo_isDrawn_0_0 (x1 : Int) (x3 : Int) (now_0 : Int → Int) (r_0 : Int) (k1 : (-2147483648) ≤ x1 ∧ x1 ≤ (-1)) (k3 : 0 ≤ x3 ∧ x3 ≤ 0) : (x3 = 1) → ((0 ≤ x1) ∧ ((x1 ≤ 3) ∧ (r_0 = ((16709 * x1) + (539 * now_0 (x1)))))) := by
  omega
def o_Mo_isDrawn_0 : or_T := (17, 4, [(0, (2, 0, 0, [165])), (1, (0, -2147483648, -1, [])), (3, (0, 0, 0, []))], [], [], [], [(20, [3, 1, 0], [50, 1, 1, 2005, 2003, 4, 6, 1, 2, 1, 0, 0, 1, 2, 6, 0, 2, 0, 0, 1, 1, 2, 6, 0, 2, 1, 1, 0, 3, 1, 3, 2, 2, 5, 4, 6, 6, 2, 0, 16709, 1, 1, 6, 2, 0, 539, 3, 2, 3, 1, 1])], [], [])
theorem oo_Mo_isDrawn_0 {kA : Nat → ClassId} : or_ok PRD kA GG o_Mo_isDrawn_0 := by
  refine or_mk fun A ta ws vs hD hth hl => ?_
  intro t0 r0 t1 k1 t3 k3
  have nf0 : fc_1 PRD (20, [3, 1, 0], [50, 1, 1, 2005, 2003, 4, 6, 1, 2, 1, 0, 0, 1, 2, 6, 0, 2, 0, 0, 1, 1, 2, 6, 0, 2, 1, 1, 0, 3, 1, 3, 2, 2, 5, 4, 6, 6, 2, 0, 16709, 1, 1, 6, 2, 0, 539, 3, 2, 3, 1, 1]) ws (vs) := ⟨nf_in hl rfl, sgq_1430 (vc_Mo_isDrawn_0_0 (v_iv (n_v vs 1)) (v_iv (n_v vs 3)) (w_ei ws (w_ar ws (n_v vs 0) 3)) (w_fi ws (n_v vs 0) 5) k1 k3)⟩
  refine ⟨(fun _ h => (by cases h)), [], trivial, ?_, (fun _ h => (by cases h))⟩
  rw [List.append_nil]
  exact List.forall_mem_cons.mpr ⟨⟨show (20 : Nat) < 100 from by decide, nf0⟩, (fun _ h => (by cases h))⟩
set_option maxHeartbeats 4000000 in
theorem vc_Mo_isDrawn_1_0 (x1 : Int) (x3 : Int) (now_0 : Int → Int) (r_0 : Int) (k1 : 4 ≤ x1 ∧ x1 ≤ 2147483647) (k3 : 0 ≤ x3 ∧ x3 ≤ 0) : (x3 = 1) → ((0 ≤ x1) ∧ ((x1 ≤ 3) ∧ (r_0 = ((16709 * x1) + (539 * now_0 (x1)))))) := by
  omega
def o_Mo_isDrawn_1 : or_T := (17, 4, [(0, (2, 0, 0, [165])), (1, (0, 4, 2147483647, [])), (3, (0, 0, 0, []))], [], [], [], [(20, [3, 1, 0], [50, 1, 1, 2005, 2003, 4, 6, 1, 2, 1, 0, 0, 1, 2, 6, 0, 2, 0, 0, 1, 1, 2, 6, 0, 2, 1, 1, 0, 3, 1, 3, 2, 2, 5, 4, 6, 6, 2, 0, 16709, 1, 1, 6, 2, 0, 539, 3, 2, 3, 1, 1])], [], [])
theorem oo_Mo_isDrawn_1 {kA : Nat → ClassId} : or_ok PRD kA GG o_Mo_isDrawn_1 := by
  refine or_mk fun A ta ws vs hD hth hl => ?_
  intro t0 r0 t1 k1 t3 k3
  have nf0 : fc_1 PRD (20, [3, 1, 0], [50, 1, 1, 2005, 2003, 4, 6, 1, 2, 1, 0, 0, 1, 2, 6, 0, 2, 0, 0, 1, 1, 2, 6, 0, 2, 1, 1, 0, 3, 1, 3, 2, 2, 5, 4, 6, 6, 2, 0, 16709, 1, 1, 6, 2, 0, 539, 3, 2, 3, 1, 1]) ws (vs) := ⟨nf_in hl rfl, sgq_1430 (vc_Mo_isDrawn_1_0 (v_iv (n_v vs 1)) (v_iv (n_v vs 3)) (w_ei ws (w_ar ws (n_v vs 0) 3)) (w_fi ws (n_v vs 0) 5) k1 k3)⟩
  refine ⟨(fun _ h => (by cases h)), [], trivial, ?_, (fun _ h => (by cases h))⟩
  rw [List.append_nil]
  exact List.forall_mem_cons.mpr ⟨⟨show (20 : Nat) < 100 from by decide, nf0⟩, (fun _ h => (by cases h))⟩
set_option maxHeartbeats 4000000 in
theorem vc_Mo_isDrawn_2_0 (x1 : Int) (x5 : Int) (now_0 : Int → Int) (r_0 : Int) (now_1 : Int → Int) (r_1 : Int) (k1 : 0 ≤ x1 ∧ x1 ≤ 3) (k5 : 1 ≤ x5 ∧ x5 ≤ 1) (f0 : r_0 = ((16709 * x1) + (539 * now_0 (x1)))) (fe_0_5_1 : r_0 = r_1) (hE_0_3_1 : ∀ j : Int, now_0 j = now_1 j) : (x5 = 1) → ((0 ≤ x1) ∧ ((x1 ≤ 3) ∧ (r_0 = ((16709 * x1) + (539 * now_0 (x1)))))) := by
  subst fe_0_5_1
  have e_hE_0_3_1 := funext hE_0_3_1; subst e_hE_0_3_1
  omega
def o_Mo_isDrawn_2 : or_T := (29, 6, [(1, (0, 0, 3, [])), (5, (0, 1, 1, []))], [(20, [0, 1], [50, 1, 1, 5, 3, 1, 3, 2, 0, 5, 4, 6, 6, 2, 0, 16709, 1, 1, 6, 2, 0, 539, 3, 0, 3, 1, 1]), (101, [0, 1], [139])], [], [], [(20, [5, 1, 0], [50, 1, 1, 2005, 2003, 4, 6, 1, 2, 1, 0, 0, 1, 2, 6, 0, 2, 0, 0, 1, 1, 2, 6, 0, 2, 1, 1, 0, 3, 1, 3, 2, 2, 5, 4, 6, 6, 2, 0, 16709, 1, 1, 6, 2, 0, 539, 3, 2, 3, 1, 1])], [], [])
theorem oo_Mo_isDrawn_2 {kA : Nat → ClassId} : or_ok PRD kA GG o_Mo_isDrawn_2 := by
  refine or_mk fun A ta ws vs hD hth hl => ?_
  intro t1 k1 t5 k5 f0 ta1 w1 le1 s1
  have s1 : (∀ b j, w_el ws b j = w_el w1 b j) ∧ ∀ b j, w_fd ws b j = if b = v_ad (n_v vs 0) ∧ j = 139 then n_v vs 1 else w_fd w1 b j := s1.2
  have fe_0_5_1 : w_fi ws (n_v vs 0) 5 = w_fi w1 (n_v vs 0) 5 := by show v_iv (w_fd _ _ _) = v_iv (w_fd _ _ _); rw [s1.2, if_neg (fun e => absurd e.2 (by decide))]
  have hE_0_3_1 : ∀ j : Int, w_ei ws (w_ar ws (n_v vs 0) 3) j = w_ei w1 (w_ar ws (n_v vs 0) 3) j := fun j => s1.1 _ _
  have nf0 : fc_1 PRD (20, [5, 1, 0], [50, 1, 1, 2005, 2003, 4, 6, 1, 2, 1, 0, 0, 1, 2, 6, 0, 2, 0, 0, 1, 1, 2, 6, 0, 2, 1, 1, 0, 3, 1, 3, 2, 2, 5, 4, 6, 6, 2, 0, 16709, 1, 1, 6, 2, 0, 539, 3, 2, 3, 1, 1]) ws (vs) := ⟨nf_in hl rfl, sgq_1430 (vc_Mo_isDrawn_2_0 (v_iv (n_v vs 1)) (v_iv (n_v vs 5)) (w_ei ws (w_ar ws (n_v vs 0) 3)) (w_fi ws (n_v vs 0) 5) (w_ei w1 (w_ar ws (n_v vs 0) 3)) (w_fi w1 (n_v vs 0) 5) k1 k5 (shm_1037 f0) fe_0_5_1 hE_0_3_1)⟩
  refine ⟨(fun _ h => (by cases h)), [], trivial, ?_, (fun _ h => (by cases h))⟩
  rw [List.append_nil]
  exact List.forall_mem_cons.mpr ⟨⟨show (20 : Nat) < 100 from by decide, nf0⟩, (fun _ h => (by cases h))⟩
set_option maxHeartbeats 4000000 in
theorem vc_Mo_isDrawn_3_0 (x1 : Int) (x5 : Int) (now_0 : Int → Int) (r_0 : Int) (k1 : 0 ≤ x1 ∧ x1 ≤ 3) (k5 : 0 ≤ x5 ∧ x5 ≤ 0) : (x5 = 1) → ((0 ≤ x1) ∧ ((x1 ≤ 3) ∧ (r_0 = ((16709 * x1) + (539 * now_0 (x1)))))) := by
  omega
def o_Mo_isDrawn_3 : or_T := (17, 6, [(1, (0, 0, 3, [])), (5, (0, 0, 0, []))], [], [], [], [(20, [5, 1, 0], [50, 1, 1, 2005, 2003, 4, 6, 1, 2, 1, 0, 0, 1, 2, 6, 0, 2, 0, 0, 1, 1, 2, 6, 0, 2, 1, 1, 0, 3, 1, 3, 2, 2, 5, 4, 6, 6, 2, 0, 16709, 1, 1, 6, 2, 0, 539, 3, 2, 3, 1, 1])], [], [])
theorem oo_Mo_isDrawn_3 {kA : Nat → ClassId} : or_ok PRD kA GG o_Mo_isDrawn_3 := by
  refine or_mk fun A ta ws vs hD hth hl => ?_
  intro t1 k1 t5 k5
  have nf0 : fc_1 PRD (20, [5, 1, 0], [50, 1, 1, 2005, 2003, 4, 6, 1, 2, 1, 0, 0, 1, 2, 6, 0, 2, 0, 0, 1, 1, 2, 6, 0, 2, 1, 1, 0, 3, 1, 3, 2, 2, 5, 4, 6, 6, 2, 0, 16709, 1, 1, 6, 2, 0, 539, 3, 2, 3, 1, 1]) ws (vs) := ⟨nf_in hl rfl, sgq_1430 (vc_Mo_isDrawn_3_0 (v_iv (n_v vs 1)) (v_iv (n_v vs 5)) (w_ei ws (w_ar ws (n_v vs 0) 3)) (w_fi ws (n_v vs 0) 5) k1 k5)⟩
  refine ⟨(fun _ h => (by cases h)), [], trivial, ?_, (fun _ h => (by cases h))⟩
  rw [List.append_nil]
  exact List.forall_mem_cons.mpr ⟨⟨show (20 : Nat) < 100 from by decide, nf0⟩, (fun _ h => (by cases h))⟩
def n_Mo_isDrawn_an : List an_T := []
def t_Mo_isDrawn_ct : ct_L := [(0, 521, e_Mo_isPlace), (1, 527, e_Mo_take)]
set_option maxRecDepth 100000 in
theorem c_Mo_isDrawn {l : Launch} {D : va_G} {kA : Nat → ClassId} (h_Mo_isPlace : ct_ok PRD l D kA GG y_Mo_isPlace z_Mo_isPlace e_Mo_isPlace) (h_Mo_take : ct_ok PRD l D kA GG y_Mo_take z_Mo_take e_Mo_take) : ct_ok PRD l D kA GG y_Mo_isDrawn z_Mo_isDrawn e_Mo_isDrawn := chk_all_ok (FT := [(120, 13, 61)]) (PT := [(1020, 13, 139, .int)]) (CT := t_Mo_isDrawn_ct) (KT := []) (NT := []) (AN := n_Mo_isDrawn_an) (OT := [o_Mo_isDrawn_0, o_Mo_isDrawn_1, o_Mo_isDrawn_2, o_Mo_isDrawn_3]) 0 200 (List.forall_mem_cons.mpr ⟨oo_Mo_isDrawn_0, List.forall_mem_cons.mpr ⟨oo_Mo_isDrawn_1, List.forall_mem_cons.mpr ⟨oo_Mo_isDrawn_2, List.forall_mem_cons.mpr ⟨oo_Mo_isDrawn_3, List.forall_mem_nil _⟩⟩⟩⟩) (by decide +kernel) ⟨List.forall_mem_cons.mpr ⟨gf_Mo_120, List.forall_mem_nil _⟩, List.forall_mem_cons.mpr ⟨pf_Mo_1020, List.forall_mem_nil _⟩, List.forall_mem_cons.mpr ⟨cl_static (y := y_Mo_isPlace) h_Mo_isPlace wm_2978 wm_9 wm_2976 wm_2977 ⟨by decide, by decide, by decide +kernel⟩ (by decide), List.forall_mem_cons.mpr ⟨cl_virtual (y := y_Mo_take) (ci := 13) rfl rfl ⟨_, _, rfl⟩ (by decide +kernel) h_Mo_take wm_3091 wm_9 wm_3088 wm_3090 wv_14_2 ⟨by decide, by decide, by decide +kernel⟩ (by decide), List.forall_mem_nil _⟩⟩, List.forall_mem_nil _, List.forall_mem_nil _, GG_pl⟩ (by decide +kernel)

set_option maxHeartbeats 4000000 in
theorem vc_Mo_next_0_0 (x1 : Int) (pos_0 : Int) (limit_0 : Int) (tape_0 : Int → Int) (k1 : 0 ≤ x1 ∧ x1 ≤ 2000) (f1 : x1 = pos_0) (f2 : ZLM (limit_0) (pos_0)) (kz_0_10 : 0 ≤ limit_0 ∧ limit_0 ≤ 2000) (kz_0_11 : 0 ≤ pos_0 ∧ pos_0 ≤ 2000) : ZX0 (limit_0) (pos_0) (tape_0) (x1) := by
  first
    | (have hl : pos_0 ≤ limit_0 := ‹ZLM _ _›; exact zx0_start (by omega) (by omega) (by omega))
    | (have hl : x3 ≤ limit_0 := ‹ZLM _ _›; exact zx0_start (by omega) (by omega) (by omega))
    | (have hl : x1 ≤ limit_0 := ‹ZLM _ _›; exact zx0_start (by omega) (by omega) (by omega))
    | exact zx0_step (by assumption) ‹ZX0 _ _ _ _› (by omega) (by omega) (by omega)
def o_Mo_next_0 : or_T := (0, 2, [(0, (2, 0, 0, [165])), (1, (0, 0, 2000, []))], [(20, [1, 0], [50, 1, 0, 1011, 1, 2, 1, 0, 2, 1, 11]), (20, [0], [60, 2, 0, 947, 10, 11])], [], [], [(20, [0, 1], [60, 2, 1, 949, 10, 11, 1]), (24, [0, 0], [])], [], [])
theorem oo_Mo_next_0 {kA : Nat → ClassId} : or_ok PRD kA GG o_Mo_next_0 := by
  refine or_mk fun A ta ws vs hD hth hl => ?_
  intro t0 r0 t1 k1 f1 f2
  have kz_0_10 := fdq_43 hD hth r0
  have kz_0_11 := fdq_237 hD hth r0
  have nf0 : fc_1 PRD (20, [0, 1], [60, 2, 1, 949, 10, 11, 1]) ws (vs) := ⟨nf_in hl rfl, sgq_1434 (vc_Mo_next_0_0 (v_iv (n_v vs 1)) (w_fi ws (n_v vs 0) 11) (w_fi ws (n_v vs 0) 10) (w_ei ws (w_ar ws (n_v vs 0) 1)) k1 (shm_1432 f1) (shm_1433 f2) kz_0_10 kz_0_11)⟩
  have nf1 : fc_1 PRD (24, [0, 0], []) ws (vs) := by
    refine ⟨nf_in hl rfl, sgq_1 ?_⟩
    · show n_v vs 0 = n_v vs 0
      first | rfl | simp only [true_and]
  refine ⟨(fun _ h => (by cases h)), [], trivial, ?_, (fun _ h => (by cases h))⟩
  rw [List.append_nil]
  exact List.forall_mem_cons.mpr ⟨⟨show (20 : Nat) < 100 from by decide, nf0⟩, List.forall_mem_cons.mpr ⟨⟨show (24 : Nat) < 100 from by decide, nf1⟩, (fun _ h => (by cases h))⟩⟩
set_option maxHeartbeats 4000000 in
theorem vc_Mo_next_1_0 (x1 : Int) (x3 : Int) (x4 : Int) (tape_0 : Int → Int) (limit_0 : Int) (pos_0 : Int) (k1 : 0 ≤ x1 ∧ x1 ≤ 2000) (k3 : 0 ≤ x3 ∧ x3 ≤ 2000) (k4 : (-1) ≤ x4 ∧ x4 ≤ (-1)) (g3 : x3 = pos_0) (f5 : ((x3 + 1) ≤ limit_0) → (x4 = (tape_0 (x3) % 256))) (f6 : (limit_0 ≤ x3) → (x4 = (-1))) (f8 : ZX0 (limit_0) (pos_0) (tape_0) (x1)) (kz_0_10 : 0 ≤ limit_0 ∧ limit_0 ≤ 2000) (kz_0_11 : 0 ≤ pos_0 ∧ pos_0 ≤ 2000) : ZX1 (limit_0) (pos_0) (tape_0) (x1) := by
  first | subst g3 | skip
  exact zx1_mk ‹ZX0 _ _ _ _› (fun q => by omega) (fun q => by omega)
def o_Mo_next_1 : or_T := (39, 8, [(0, (2, 0, 0, [165])), (1, (0, 0, 2000, [])), (2, (2, 0, 0, [165])), (3, (0, 0, 2000, [])), (4, (0, -1, -1, [])), (5, (0, 32, 32, [])), (6, (0, -1, -1, [])), (7, (0, 10, 10, []))], [(7, [6, 7], [1]), (20, [3, 2, 6], [50, 1, 1, 1010, 1001, 4, 11, 0, 6, 4, 2, 1, 0, 0, 1, 2, 1, 10, 1, 2, 1, 2, 9, 5, 3, 1, 1, 1, 0, 0, 256]), (20, [2, 3, 6], [50, 1, 0, 10, 4, 7, 0, 3, 2, 0, 10, 1, 1, 1, 2, 1, 2, 0, -1]), (9, [3, 2], [11]), (7, [4, 5], [1]), (20, [3, 2, 4], [50, 1, 1, 1010, 1001, 4, 11, 0, 6, 4, 2, 1, 0, 0, 1, 2, 1, 10, 1, 2, 1, 2, 9, 5, 3, 1, 1, 1, 0, 0, 256]), (20, [2, 3, 4], [50, 1, 0, 10, 4, 7, 0, 3, 2, 0, 10, 1, 1, 1, 2, 1, 2, 0, -1]), (20, [1, 2], [30, 0, 1, 0, 0, -1, 1, 11]), (20, [2, 1], [60, 2, 1, 949, 10, 11, 1]), (24, [0, 2], [])], [], [], [(20, [2, 1], [60, 2, 1, 950, 10, 11, 1])], [], [])
theorem oo_Mo_next_1 {kA : Nat → ClassId} : or_ok PRD kA GG o_Mo_next_1 := by
  refine or_mk fun A ta ws vs hD hth hl => ?_
  intro t0 r0 t1 k1 t2 r2 t3 k3 t4 k4 t5 k5 t6 k6 t7 k7 f0 f1 f2 f3 f4 f5 f6 f7 f8 f9
  replace f3 := shm_116 f3
  replace f5 := shm_541 f5
  replace f6 := shm_542 f6
  replace f8 := shm_1434 f8
  replace f9 := shm_5 f9
  have q2 : n_v vs 2 = n_v vs 0 := f9.symm
  simp only [q2] at f3 f5 f6 f8
  have g3 : v_iv (n_v vs 3) = w_fi ws (n_v vs 0) 11 := congrArg v_iv f3
  have kz_0_10 := fdq_43 hD hth r0
  have kz_0_11 := fdq_237 hD hth r0
  have nf0 : fc_1 PRD (20, [2, 1], [60, 2, 1, 950, 10, 11, 1]) ws (vs) := by
    refine ⟨nf_in hl rfl, sgq_1435 ?_⟩
    · show ZX1 (w_fi ws (n_v vs 2) 10) (w_fi ws (n_v vs 2) 11) (w_ei ws (w_ar ws (n_v vs 2) 1)) (v_iv (n_v vs 1))
      rw [q2]
      exact vc_Mo_next_1_0 (v_iv (n_v vs 1)) (v_iv (n_v vs 3)) (v_iv (n_v vs 4)) (w_ei ws (w_ar ws (n_v vs 0) 1)) (w_fi ws (n_v vs 0) 10) (w_fi ws (n_v vs 0) 11) k1 k3 k4 g3 f5 f6 f8 kz_0_10 kz_0_11
  refine ⟨(fun _ h => (by cases h)), [], trivial, ?_, (fun _ h => (by cases h))⟩
  rw [List.append_nil]
  exact List.forall_mem_cons.mpr ⟨⟨show (20 : Nat) < 100 from by decide, nf0⟩, (fun _ h => (by cases h))⟩
set_option maxHeartbeats 4000000 in
theorem vc_Mo_next_2_0 (x1 : Int) (x3 : Int) (x4 : Int) (tape_0 : Int → Int) (limit_0 : Int) (pos_0 : Int) (k1 : 0 ≤ x1 ∧ x1 ≤ 2000) (k3 : 0 ≤ x3 ∧ x3 ≤ 1999) (k4 : (-1) ≤ x4 ∧ x4 ≤ (-1)) (g3 : x3 = pos_0) (f5 : ((x3 + 1) ≤ limit_0) → (x4 = (tape_0 (x3) % 256))) (f6 : (limit_0 ≤ x3) → (x4 = (-1))) (f8 : ZX0 (limit_0) (pos_0) (tape_0) (x1)) (kz_0_10 : 0 ≤ limit_0 ∧ limit_0 ≤ 2000) (kz_0_11 : 0 ≤ pos_0 ∧ pos_0 ≤ 2000) : ZX1 (limit_0) (pos_0) (tape_0) (x1) := by
  first | subst g3 | skip
  exact zx1_mk ‹ZX0 _ _ _ _› (fun q => by omega) (fun q => by omega)
def o_Mo_next_2 : or_T := (39, 8, [(0, (2, 0, 0, [165])), (1, (0, 0, 2000, [])), (2, (2, 0, 0, [165])), (3, (0, 0, 1999, [])), (4, (0, -1, -1, [])), (5, (0, 32, 32, [])), (6, (0, 0, 255, [])), (7, (0, 10, 10, []))], [(7, [6, 7], [1]), (20, [3, 2, 6], [50, 1, 1, 1010, 1001, 4, 11, 0, 6, 4, 2, 1, 0, 0, 1, 2, 1, 10, 1, 2, 1, 2, 9, 5, 3, 1, 1, 1, 0, 0, 256]), (20, [2, 3, 6], [50, 1, 0, 10, 4, 7, 0, 3, 2, 0, 10, 1, 1, 1, 2, 1, 2, 0, -1]), (9, [3, 2], [11]), (7, [4, 5], [1]), (20, [3, 2, 4], [50, 1, 1, 1010, 1001, 4, 11, 0, 6, 4, 2, 1, 0, 0, 1, 2, 1, 10, 1, 2, 1, 2, 9, 5, 3, 1, 1, 1, 0, 0, 256]), (20, [2, 3, 4], [50, 1, 0, 10, 4, 7, 0, 3, 2, 0, 10, 1, 1, 1, 2, 1, 2, 0, -1]), (20, [1, 2], [30, 0, 1, 0, 0, -1, 1, 11]), (20, [2, 1], [60, 2, 1, 949, 10, 11, 1]), (24, [0, 2], [])], [], [], [(20, [2, 1], [60, 2, 1, 950, 10, 11, 1])], [], [])
theorem oo_Mo_next_2 {kA : Nat → ClassId} : or_ok PRD kA GG o_Mo_next_2 := by
  refine or_mk fun A ta ws vs hD hth hl => ?_
  intro t0 r0 t1 k1 t2 r2 t3 k3 t4 k4 t5 k5 t6 k6 t7 k7 f0 f1 f2 f3 f4 f5 f6 f7 f8 f9
  replace f3 := shm_116 f3
  replace f5 := shm_541 f5
  replace f6 := shm_542 f6
  replace f8 := shm_1434 f8
  replace f9 := shm_5 f9
  have q2 : n_v vs 2 = n_v vs 0 := f9.symm
  simp only [q2] at f3 f5 f6 f8
  have g3 : v_iv (n_v vs 3) = w_fi ws (n_v vs 0) 11 := congrArg v_iv f3
  have kz_0_10 := fdq_43 hD hth r0
  have kz_0_11 := fdq_237 hD hth r0
  have nf0 : fc_1 PRD (20, [2, 1], [60, 2, 1, 950, 10, 11, 1]) ws (vs) := by
    refine ⟨nf_in hl rfl, sgq_1435 ?_⟩
    · show ZX1 (w_fi ws (n_v vs 2) 10) (w_fi ws (n_v vs 2) 11) (w_ei ws (w_ar ws (n_v vs 2) 1)) (v_iv (n_v vs 1))
      rw [q2]
      exact vc_Mo_next_2_0 (v_iv (n_v vs 1)) (v_iv (n_v vs 3)) (v_iv (n_v vs 4)) (w_ei ws (w_ar ws (n_v vs 0) 1)) (w_fi ws (n_v vs 0) 10) (w_fi ws (n_v vs 0) 11) k1 k3 k4 g3 f5 f6 f8 kz_0_10 kz_0_11
  refine ⟨(fun _ h => (by cases h)), [], trivial, ?_, (fun _ h => (by cases h))⟩
  rw [List.append_nil]
  exact List.forall_mem_cons.mpr ⟨⟨show (20 : Nat) < 100 from by decide, nf0⟩, (fun _ h => (by cases h))⟩
set_option maxHeartbeats 4000000 in
theorem vc_Mo_next_3_0 (x1 : Int) (x3 : Int) (x4 : Int) (x6 : Int) (x9 : Int) (pos_0 : Int) (tape_0 : Int → Int) (limit_0 : Int) (pos_1 : Int) (tape_1 : Int → Int) (limit_1 : Int) (k1 : 0 ≤ x1 ∧ x1 ≤ 2000) (k3 : 0 ≤ x3 ∧ x3 ≤ 1999) (k4 : (-1) ≤ x4 ∧ x4 ≤ (-1)) (k6 : 10 ≤ x6 ∧ x6 ≤ 10) (k9 : 1 ≤ x9 ∧ x9 ≤ 2000) (d0 : x3 + 1 ≤ x9 ∧ x9 ≤ x3 + 1) (g0 : x9 = pos_0) (f1 : ((x3 + 1) ≤ limit_0) → (x6 = (tape_0 (x3) % 256))) (f2 : (limit_0 ≤ x3) → (x6 = (-1))) (f3 : ((x3 + 1) ≤ limit_0) → (x4 = (tape_0 (x3) % 256))) (f4 : (limit_0 ≤ x3) → (x4 = (-1))) (g8 : x3 = pos_1) (f10 : ((x3 + 1) ≤ limit_1) → (x6 = (tape_1 (x3) % 256))) (f11 : (limit_1 ≤ x3) → (x6 = (-1))) (f13 : ((x3 + 1) ≤ limit_1) → (x4 = (tape_1 (x3) % 256))) (f14 : (limit_1 ≤ x3) → (x4 = (-1))) (f15 : 1 * x1 + ((-1) * pos_1 + 0) ≤ 0) (fe_0_10_1 : limit_0 = limit_1) (hE_0_1_1 : ∀ j : Int, tape_0 j = tape_1 j) (hK_0_1 : ∀ j : Int, 0 ≤ j → j < 2000 → (-128) ≤ tape_0 j ∧ tape_0 j ≤ 127) (kz_0_10 : 0 ≤ limit_0 ∧ limit_0 ≤ 2000) (kz_0_11 : 0 ≤ pos_0 ∧ pos_0 ≤ 2000) : 1 * x1 + ((-1) * pos_0 + 0) ≤ 0 := by
  subst fe_0_10_1
  have e_hE_0_1_1 := funext hE_0_1_1; subst e_hE_0_1_1
  first | with_reducible assumption | ((try and_intros) <;> first | with_reducible assumption | (clear hE_0_1_1 hK_0_1 f1 f2 f3 f4 f10 f11 f13 f14; omega)) | ((first | have f1_b := f1 (by clear hE_0_1_1 hK_0_1 f1 f2 f3 f4 f10 f11 f13 f14; omega) | skip); (first | have f2_b := f2 (by clear hE_0_1_1 hK_0_1 f1 f2 f3 f4 f10 f11 f13 f14; omega) | skip); (first | have f3_b := f3 (by clear hE_0_1_1 hK_0_1 f1 f2 f3 f4 f10 f11 f13 f14; omega) | skip); (first | have f4_b := f4 (by clear hE_0_1_1 hK_0_1 f1 f2 f3 f4 f10 f11 f13 f14; omega) | skip); (first | have f10_b := f10 (by clear hE_0_1_1 hK_0_1 f1 f2 f3 f4 f10 f11 f13 f14; omega) | skip); (first | have f11_b := f11 (by clear hE_0_1_1 hK_0_1 f1 f2 f3 f4 f10 f11 f13 f14; omega) | skip); (first | have f13_b := f13 (by clear hE_0_1_1 hK_0_1 f1 f2 f3 f4 f10 f11 f13 f14; omega) | skip); (first | have f14_b := f14 (by clear hE_0_1_1 hK_0_1 f1 f2 f3 f4 f10 f11 f13 f14; omega) | skip); (first | have f1_d := f1 (by with_reducible assumption) | skip); (first | have f2_d := f2 (by with_reducible assumption) | skip); (first | have f3_d := f3 (by with_reducible assumption) | skip); (first | have f4_d := f4 (by with_reducible assumption) | skip); (first | have f10_d := f10 (by with_reducible assumption) | skip); (first | have f11_d := f11 (by with_reducible assumption) | skip); (first | have f13_d := f13 (by with_reducible assumption) | skip); (first | have f14_d := f14 (by with_reducible assumption) | skip); (try and_intros) <;> first | with_reducible assumption | (clear hE_0_1_1 hK_0_1 f1 f2 f3 f4 f10 f11 f13 f14; omega)) | omega
set_option maxHeartbeats 4000000 in
theorem vc_Mo_next_3_1 (x1 : Int) (x3 : Int) (x4 : Int) (x6 : Int) (x9 : Int) (pos_0 : Int) (tape_0 : Int → Int) (limit_0 : Int) (pos_1 : Int) (tape_1 : Int → Int) (limit_1 : Int) (k1 : 0 ≤ x1 ∧ x1 ≤ 2000) (k3 : 0 ≤ x3 ∧ x3 ≤ 1999) (k4 : (-1) ≤ x4 ∧ x4 ≤ (-1)) (k6 : 10 ≤ x6 ∧ x6 ≤ 10) (k9 : 1 ≤ x9 ∧ x9 ≤ 2000) (d0 : x3 + 1 ≤ x9 ∧ x9 ≤ x3 + 1) (g0 : x9 = pos_0) (g8 : x3 = pos_1) (f10 : ((x3 + 1) ≤ limit_1) → (x6 = (tape_1 (x3) % 256))) (f11 : (limit_1 ≤ x3) → (x6 = (-1))) (f13 : ((x3 + 1) ≤ limit_1) → (x4 = (tape_1 (x3) % 256))) (f14 : (limit_1 ≤ x3) → (x4 = (-1))) (f16 : ZX0 (limit_1) (pos_1) (tape_1) (x1)) (fe_0_10_1 : limit_0 = limit_1) (hE_0_1_1 : ∀ j : Int, tape_0 j = tape_1 j) (hK_0_1 : ∀ j : Int, 0 ≤ j → j < 2000 → (-128) ≤ tape_0 j ∧ tape_0 j ≤ 127) (kz_0_10 : 0 ≤ limit_0 ∧ limit_0 ≤ 2000) (kz_0_11 : 0 ≤ pos_0 ∧ pos_0 ≤ 2000) : ZX0 (limit_0) (pos_0) (tape_0) (x1) := by
  subst fe_0_10_1
  have e_hE_0_1_1 := funext hE_0_1_1; subst e_hE_0_1_1
  first | subst g0 | skip
  first | subst g8 | skip
  first
    | (have hl : pos_0 ≤ limit_0 := ‹ZLM _ _›; exact zx0_start (by omega) (by omega) (by omega))
    | (have hl : x3 ≤ limit_0 := ‹ZLM _ _›; exact zx0_start (by omega) (by omega) (by omega))
    | (have hl : x1 ≤ limit_0 := ‹ZLM _ _›; exact zx0_start (by omega) (by omega) (by omega))
    | exact zx0_step (by assumption) ‹ZX0 _ _ _ _› (by omega) (by omega) (by omega)
def o_Mo_next_3 : or_T := (0, 10, [(0, (2, 0, 0, [165])), (1, (0, 0, 2000, [])), (2, (2, 0, 0, [165])), (3, (0, 0, 1999, [])), (4, (0, -1, -1, [])), (5, (0, 32, 32, [])), (6, (0, 10, 10, [])), (7, (0, 10, 10, [])), (8, (0, 1, 1, [])), (9, (0, 1, 2000, []))], [(9, [9, 2], [11]), (20, [3, 2, 6], [50, 1, 1, 1010, 1001, 4, 11, 0, 6, 4, 2, 1, 0, 0, 1, 2, 1, 10, 1, 2, 1, 2, 9, 5, 3, 1, 1, 1, 0, 0, 256]), (20, [2, 3, 6], [50, 1, 0, 10, 4, 7, 0, 3, 2, 0, 10, 1, 1, 1, 2, 1, 2, 0, -1]), (20, [3, 2, 4], [50, 1, 1, 1010, 1001, 4, 11, 0, 6, 4, 2, 1, 0, 0, 1, 2, 1, 10, 1, 2, 1, 2, 9, 5, 3, 1, 1, 1, 0, 0, 256]), (20, [2, 3, 4], [50, 1, 0, 10, 4, 7, 0, 3, 2, 0, 10, 1, 1, 1, 2, 1, 2, 0, -1]), (24, [0, 2], []), (101, [2, 9], [11]), (1, [9, 3, 8], []), (9, [3, 2], [11]), (7, [6, 7], [0]), (20, [3, 2, 6], [50, 1, 1, 1010, 1001, 4, 11, 0, 6, 4, 2, 1, 0, 0, 1, 2, 1, 10, 1, 2, 1, 2, 9, 5, 3, 1, 1, 1, 0, 0, 256]), (20, [2, 3, 6], [50, 1, 0, 10, 4, 7, 0, 3, 2, 0, 10, 1, 1, 1, 2, 1, 2, 0, -1]), (7, [4, 5], [1]), (20, [3, 2, 4], [50, 1, 1, 1010, 1001, 4, 11, 0, 6, 4, 2, 1, 0, 0, 1, 2, 1, 10, 1, 2, 1, 2, 9, 5, 3, 1, 1, 1, 0, 0, 256]), (20, [2, 3, 4], [50, 1, 0, 10, 4, 7, 0, 3, 2, 0, 10, 1, 1, 1, 2, 1, 2, 0, -1]), (20, [1, 2], [30, 0, 1, 0, 0, -1, 1, 11]), (20, [2, 1], [60, 2, 1, 949, 10, 11, 1])], [], [], [(20, [1, 2], [30, 0, 1, 0, 0, -1, 1, 11]), (20, [2, 1], [60, 2, 1, 949, 10, 11, 1])], [], [(9, 3, 1, 1)])
theorem oo_Mo_next_3 {kA : Nat → ClassId} : or_ok PRD kA GG o_Mo_next_3 := by
  refine or_mk fun A ta ws vs hD hth hl => ?_
  intro t0 r0 t1 k1 t2 r2 t3 k3 t4 k4 t5 k5 t6 k6 t7 k7 t8 k8 t9 k9 d0 f0 f1 f2 f3 f4 f5 ta1 w1 le1 s1 f7 f8 f9 f10 f11 f12 f13 f14 f15 f16
  replace f0 := shm_116 f0
  replace f1 := shm_541 f1
  replace f2 := shm_542 f2
  replace f3 := shm_541 f3
  replace f4 := shm_542 f4
  replace f5 := shm_5 f5
  have s1 : (∀ b j, w_el ws b j = w_el w1 b j) ∧ ∀ b j, w_fd ws b j = if b = v_ad (n_v vs 2) ∧ j = 11 then n_v vs 9 else w_fd w1 b j := s1.2
  replace f8 := shm_116 f8
  replace f10 := shm_541 f10
  replace f11 := shm_542 f11
  replace f13 := shm_541 f13
  replace f14 := shm_542 f14
  replace f15 := shm_1431 f15
  replace f16 := shm_1434 f16
  have q2 : n_v vs 2 = n_v vs 0 := f5.symm
  simp only [q2] at f0 f1 f2 f3 f4
  rw [q2] at s1
  simp only [q2] at f8 f10 f11 f13 f14 f15 f16
  have ar_0_1_1 : w_ar w1 (n_v vs 0) 1 = w_ar ws (n_v vs 0) 1 := by show v_ad (w_fd w1 _ _) = v_ad (w_fd ws _ _); rw [s1.2, if_neg (fun e => absurd e.2 (by decide))]
  have cr_0_1 := fdq_39 hD hth r0
  have g0 : v_iv (n_v vs 9) = w_fi ws (n_v vs 0) 11 := congrArg v_iv f0
  have g8 : v_iv (n_v vs 3) = w_fi w1 (n_v vs 0) 11 := congrArg v_iv f8
  simp only [ar_0_1_1] at f10 f13 f16
  have fe_0_10_1 : w_fi ws (n_v vs 0) 10 = w_fi w1 (n_v vs 0) 10 := by show v_iv (w_fd _ _ _) = v_iv (w_fd _ _ _); rw [s1.2, if_neg (fun e => absurd e.2 (by decide))]
  have hE_0_1_1 : ∀ j : Int, w_ei ws (w_ar ws (n_v vs 0) 1) j = w_ei w1 (w_ar ws (n_v vs 0) 1) j := fun j => s1.1 _ _
  have hK_0_1 := elq_7 hD hth cr_0_1
  have kz_0_10 := fdq_43 hD hth r0
  have kz_0_11 := fdq_237 hD hth r0
  have nf0 : fc_1 PRD (20, [1, 2], [30, 0, 1, 0, 0, -1, 1, 11]) ws (vs) := by
    refine ⟨nf_in hl rfl, sgq_1431 ?_⟩
    · show 1 * v_iv (n_v vs 1) + ((-1) * w_fi ws (n_v vs 2) 11 + 0) ≤ 0
      rw [q2]
      exact vc_Mo_next_3_0 (v_iv (n_v vs 1)) (v_iv (n_v vs 3)) (v_iv (n_v vs 4)) (v_iv (n_v vs 6)) (v_iv (n_v vs 9)) (w_fi ws (n_v vs 0) 11) (w_ei ws (w_ar ws (n_v vs 0) 1)) (w_fi ws (n_v vs 0) 10) (w_fi w1 (n_v vs 0) 11) (w_ei w1 (w_ar ws (n_v vs 0) 1)) (w_fi w1 (n_v vs 0) 10) k1 k3 k4 k6 k9 d0 g0 f1 f2 f3 f4 g8 f10 f11 f13 f14 f15 fe_0_10_1 hE_0_1_1 hK_0_1 kz_0_10 kz_0_11
  have nf1 : fc_1 PRD (20, [2, 1], [60, 2, 1, 949, 10, 11, 1]) ws (vs) := by
    refine ⟨nf_in hl rfl, sgq_1434 ?_⟩
    · show ZX0 (w_fi ws (n_v vs 2) 10) (w_fi ws (n_v vs 2) 11) (w_ei ws (w_ar ws (n_v vs 2) 1)) (v_iv (n_v vs 1))
      rw [q2]
      exact vc_Mo_next_3_1 (v_iv (n_v vs 1)) (v_iv (n_v vs 3)) (v_iv (n_v vs 4)) (v_iv (n_v vs 6)) (v_iv (n_v vs 9)) (w_fi ws (n_v vs 0) 11) (w_ei ws (w_ar ws (n_v vs 0) 1)) (w_fi ws (n_v vs 0) 10) (w_fi w1 (n_v vs 0) 11) (w_ei w1 (w_ar ws (n_v vs 0) 1)) (w_fi w1 (n_v vs 0) 10) k1 k3 k4 k6 k9 d0 g0 g8 f10 f11 f13 f14 f16 fe_0_10_1 hE_0_1_1 hK_0_1 kz_0_10 kz_0_11
  refine ⟨(fun _ h => (by cases h)), [], trivial, ?_, (fun _ h => (by cases h))⟩
  rw [List.append_nil]
  exact List.forall_mem_cons.mpr ⟨⟨show (20 : Nat) < 100 from by decide, nf0⟩, List.forall_mem_cons.mpr ⟨⟨show (20 : Nat) < 100 from by decide, nf1⟩, (fun _ h => (by cases h))⟩⟩
set_option maxHeartbeats 4000000 in
theorem vc_Mo_next_4_0 (x1 : Int) (x3 : Int) (x4 : Int) (x7 : Int) (pos_0 : Int) (tape_0 : Int → Int) (limit_0 : Int) (pos_1 : Int) (tape_1 : Int → Int) (limit_1 : Int) (k1 : 0 ≤ x1 ∧ x1 ≤ 2000) (k3 : 0 ≤ x3 ∧ x3 ≤ 1999) (k4 : 32 ≤ x4 ∧ x4 ≤ 32) (k7 : 1 ≤ x7 ∧ x7 ≤ 2000) (d0 : x3 + 1 ≤ x7 ∧ x7 ≤ x3 + 1) (g0 : x7 = pos_0) (f1 : ((x3 + 1) ≤ limit_0) → (x4 = (tape_0 (x3) % 256))) (f2 : (limit_0 ≤ x3) → (x4 = (-1))) (g6 : x3 = pos_1) (f8 : ((x3 + 1) ≤ limit_1) → (x4 = (tape_1 (x3) % 256))) (f9 : (limit_1 ≤ x3) → (x4 = (-1))) (f10 : 1 * x1 + ((-1) * pos_1 + 0) ≤ 0) (fe_0_10_1 : limit_0 = limit_1) (hE_0_1_1 : ∀ j : Int, tape_0 j = tape_1 j) (hK_0_1 : ∀ j : Int, 0 ≤ j → j < 2000 → (-128) ≤ tape_0 j ∧ tape_0 j ≤ 127) (kz_0_10 : 0 ≤ limit_0 ∧ limit_0 ≤ 2000) (kz_0_11 : 0 ≤ pos_0 ∧ pos_0 ≤ 2000) : 1 * x1 + ((-1) * pos_0 + 0) ≤ 0 := by
  subst fe_0_10_1
  have e_hE_0_1_1 := funext hE_0_1_1; subst e_hE_0_1_1
  first | with_reducible assumption | ((try and_intros) <;> first | with_reducible assumption | (clear hE_0_1_1 hK_0_1 f1 f2 f8 f9; omega)) | ((first | have f1_b := f1 (by clear hE_0_1_1 hK_0_1 f1 f2 f8 f9; omega) | skip); (first | have f2_b := f2 (by clear hE_0_1_1 hK_0_1 f1 f2 f8 f9; omega) | skip); (first | have f8_b := f8 (by clear hE_0_1_1 hK_0_1 f1 f2 f8 f9; omega) | skip); (first | have f9_b := f9 (by clear hE_0_1_1 hK_0_1 f1 f2 f8 f9; omega) | skip); (first | have f1_d := f1 (by with_reducible assumption) | skip); (first | have f2_d := f2 (by with_reducible assumption) | skip); (first | have f8_d := f8 (by with_reducible assumption) | skip); (first | have f9_d := f9 (by with_reducible assumption) | skip); (try and_intros) <;> first | with_reducible assumption | (clear hE_0_1_1 hK_0_1 f1 f2 f8 f9; omega)) | omega
set_option maxHeartbeats 4000000 in
theorem vc_Mo_next_4_1 (x1 : Int) (x3 : Int) (x4 : Int) (x7 : Int) (pos_0 : Int) (tape_0 : Int → Int) (limit_0 : Int) (pos_1 : Int) (tape_1 : Int → Int) (limit_1 : Int) (k1 : 0 ≤ x1 ∧ x1 ≤ 2000) (k3 : 0 ≤ x3 ∧ x3 ≤ 1999) (k4 : 32 ≤ x4 ∧ x4 ≤ 32) (k7 : 1 ≤ x7 ∧ x7 ≤ 2000) (d0 : x3 + 1 ≤ x7 ∧ x7 ≤ x3 + 1) (g0 : x7 = pos_0) (g6 : x3 = pos_1) (f8 : ((x3 + 1) ≤ limit_1) → (x4 = (tape_1 (x3) % 256))) (f9 : (limit_1 ≤ x3) → (x4 = (-1))) (f11 : ZX0 (limit_1) (pos_1) (tape_1) (x1)) (fe_0_10_1 : limit_0 = limit_1) (hE_0_1_1 : ∀ j : Int, tape_0 j = tape_1 j) (hK_0_1 : ∀ j : Int, 0 ≤ j → j < 2000 → (-128) ≤ tape_0 j ∧ tape_0 j ≤ 127) (kz_0_10 : 0 ≤ limit_0 ∧ limit_0 ≤ 2000) (kz_0_11 : 0 ≤ pos_0 ∧ pos_0 ≤ 2000) : ZX0 (limit_0) (pos_0) (tape_0) (x1) := by
  subst fe_0_10_1
  have e_hE_0_1_1 := funext hE_0_1_1; subst e_hE_0_1_1
  first | subst g0 | skip
  first | subst g6 | skip
  first
    | (have hl : pos_0 ≤ limit_0 := ‹ZLM _ _›; exact zx0_start (by omega) (by omega) (by omega))
    | (have hl : x3 ≤ limit_0 := ‹ZLM _ _›; exact zx0_start (by omega) (by omega) (by omega))
    | (have hl : x1 ≤ limit_0 := ‹ZLM _ _›; exact zx0_start (by omega) (by omega) (by omega))
    | exact zx0_step (by assumption) ‹ZX0 _ _ _ _› (by omega) (by omega) (by omega)
def o_Mo_next_4 : or_T := (0, 8, [(0, (2, 0, 0, [165])), (1, (0, 0, 2000, [])), (3, (0, 0, 1999, [])), (4, (0, 32, 32, [])), (7, (0, 1, 2000, []))], [(9, [7, 2], [11]), (20, [3, 2, 4], [50, 1, 1, 1010, 1001, 4, 11, 0, 6, 4, 2, 1, 0, 0, 1, 2, 1, 10, 1, 2, 1, 2, 9, 5, 3, 1, 1, 1, 0, 0, 256]), (20, [2, 3, 4], [50, 1, 0, 10, 4, 7, 0, 3, 2, 0, 10, 1, 1, 1, 2, 1, 2, 0, -1]), (24, [0, 2], []), (101, [2, 7], [11]), (9, [3, 2], [11]), (20, [3, 2, 4], [50, 1, 1, 1010, 1001, 4, 11, 0, 6, 4, 2, 1, 0, 0, 1, 2, 1, 10, 1, 2, 1, 2, 9, 5, 3, 1, 1, 1, 0, 0, 256]), (20, [2, 3, 4], [50, 1, 0, 10, 4, 7, 0, 3, 2, 0, 10, 1, 1, 1, 2, 1, 2, 0, -1]), (20, [1, 2], [30, 0, 1, 0, 0, -1, 1, 11]), (20, [2, 1], [60, 2, 1, 949, 10, 11, 1])], [], [], [(20, [1, 2], [30, 0, 1, 0, 0, -1, 1, 11]), (20, [2, 1], [60, 2, 1, 949, 10, 11, 1])], [], [(7, 3, 1, 1)])
theorem oo_Mo_next_4 {kA : Nat → ClassId} : or_ok PRD kA GG o_Mo_next_4 := by
  refine or_mk fun A ta ws vs hD hth hl => ?_
  intro t0 r0 t1 k1 t3 k3 t4 k4 t7 k7 d0 f0 f1 f2 f3 ta1 w1 le1 s1 f6 f8 f9 f10 f11
  replace f0 := shm_116 f0
  replace f1 := shm_541 f1
  replace f2 := shm_542 f2
  replace f3 := shm_5 f3
  have s1 : (∀ b j, w_el ws b j = w_el w1 b j) ∧ ∀ b j, w_fd ws b j = if b = v_ad (n_v vs 2) ∧ j = 11 then n_v vs 7 else w_fd w1 b j := s1.2
  replace f6 := shm_116 f6
  replace f8 := shm_541 f8
  replace f9 := shm_542 f9
  replace f10 := shm_1431 f10
  replace f11 := shm_1434 f11
  have q2 : n_v vs 2 = n_v vs 0 := f3.symm
  simp only [q2] at f0 f1 f2
  rw [q2] at s1
  simp only [q2] at f6 f8 f9 f10 f11
  have ar_0_1_1 : w_ar w1 (n_v vs 0) 1 = w_ar ws (n_v vs 0) 1 := by show v_ad (w_fd w1 _ _) = v_ad (w_fd ws _ _); rw [s1.2, if_neg (fun e => absurd e.2 (by decide))]
  have cr_0_1 := fdq_39 hD hth r0
  have g0 : v_iv (n_v vs 7) = w_fi ws (n_v vs 0) 11 := congrArg v_iv f0
  have g6 : v_iv (n_v vs 3) = w_fi w1 (n_v vs 0) 11 := congrArg v_iv f6
  simp only [ar_0_1_1] at f8 f11
  have fe_0_10_1 : w_fi ws (n_v vs 0) 10 = w_fi w1 (n_v vs 0) 10 := by show v_iv (w_fd _ _ _) = v_iv (w_fd _ _ _); rw [s1.2, if_neg (fun e => absurd e.2 (by decide))]
  have hE_0_1_1 : ∀ j : Int, w_ei ws (w_ar ws (n_v vs 0) 1) j = w_ei w1 (w_ar ws (n_v vs 0) 1) j := fun j => s1.1 _ _
  have hK_0_1 := elq_7 hD hth cr_0_1
  have kz_0_10 := fdq_43 hD hth r0
  have kz_0_11 := fdq_237 hD hth r0
  have nf0 : fc_1 PRD (20, [1, 2], [30, 0, 1, 0, 0, -1, 1, 11]) ws (vs) := by
    refine ⟨nf_in hl rfl, sgq_1431 ?_⟩
    · show 1 * v_iv (n_v vs 1) + ((-1) * w_fi ws (n_v vs 2) 11 + 0) ≤ 0
      rw [q2]
      exact vc_Mo_next_4_0 (v_iv (n_v vs 1)) (v_iv (n_v vs 3)) (v_iv (n_v vs 4)) (v_iv (n_v vs 7)) (w_fi ws (n_v vs 0) 11) (w_ei ws (w_ar ws (n_v vs 0) 1)) (w_fi ws (n_v vs 0) 10) (w_fi w1 (n_v vs 0) 11) (w_ei w1 (w_ar ws (n_v vs 0) 1)) (w_fi w1 (n_v vs 0) 10) k1 k3 k4 k7 d0 g0 f1 f2 g6 f8 f9 f10 fe_0_10_1 hE_0_1_1 hK_0_1 kz_0_10 kz_0_11
  have nf1 : fc_1 PRD (20, [2, 1], [60, 2, 1, 949, 10, 11, 1]) ws (vs) := by
    refine ⟨nf_in hl rfl, sgq_1434 ?_⟩
    · show ZX0 (w_fi ws (n_v vs 2) 10) (w_fi ws (n_v vs 2) 11) (w_ei ws (w_ar ws (n_v vs 2) 1)) (v_iv (n_v vs 1))
      rw [q2]
      exact vc_Mo_next_4_1 (v_iv (n_v vs 1)) (v_iv (n_v vs 3)) (v_iv (n_v vs 4)) (v_iv (n_v vs 7)) (w_fi ws (n_v vs 0) 11) (w_ei ws (w_ar ws (n_v vs 0) 1)) (w_fi ws (n_v vs 0) 10) (w_fi w1 (n_v vs 0) 11) (w_ei w1 (w_ar ws (n_v vs 0) 1)) (w_fi w1 (n_v vs 0) 10) k1 k3 k4 k7 d0 g0 g6 f8 f9 f11 fe_0_10_1 hE_0_1_1 hK_0_1 kz_0_10 kz_0_11
  refine ⟨(fun _ h => (by cases h)), [], trivial, ?_, (fun _ h => (by cases h))⟩
  rw [List.append_nil]
  exact List.forall_mem_cons.mpr ⟨⟨show (20 : Nat) < 100 from by decide, nf0⟩, List.forall_mem_cons.mpr ⟨⟨show (20 : Nat) < 100 from by decide, nf1⟩, (fun _ h => (by cases h))⟩⟩
set_option maxHeartbeats 4000000 in
theorem vc_Mo_next_5_0 (x1 : Int) (x3 : Int) (x4 : Int) (x5 : Int) (x6 : Int) (tape_0 : Int → Int) (limit_0 : Int) (pos_0 : Int) (k1 : 0 ≤ x1 ∧ x1 ≤ 2000) (k3 : 0 ≤ x3 ∧ x3 ≤ 1999) (k4 : 0 ≤ x4 ∧ x4 ≤ 255) (k5 : 32 ≤ x5 ∧ x5 ≤ 32) (k6 : (-1) ≤ x6 ∧ x6 ≤ (-1)) (f1 : ((x3 + 1) ≤ limit_0) → (x6 = (tape_0 (x3) % 256))) (f2 : (limit_0 ≤ x3) → (x6 = (-1))) (g3 : x3 = pos_0) (f4 : x4 ≠ x5) (f5 : ((x3 + 1) ≤ limit_0) → (x4 = (tape_0 (x3) % 256))) (f6 : (limit_0 ≤ x3) → (x4 = (-1))) (f8 : ZX0 (limit_0) (pos_0) (tape_0) (x1)) (kz_0_10 : 0 ≤ limit_0 ∧ limit_0 ≤ 2000) (kz_0_11 : 0 ≤ pos_0 ∧ pos_0 ≤ 2000) : ZX1 (limit_0) (pos_0) (tape_0) (x1) := by
  first | subst g3 | skip
  exact zx1_mk ‹ZX0 _ _ _ _› (fun q => by omega) (fun q => by omega)
def o_Mo_next_5 : or_T := (39, 8, [(0, (2, 0, 0, [165])), (1, (0, 0, 2000, [])), (2, (2, 0, 0, [165])), (3, (0, 0, 1999, [])), (4, (0, 0, 255, [])), (5, (0, 32, 32, [])), (6, (0, -1, -1, [])), (7, (0, 10, 10, []))], [(7, [6, 7], [1]), (20, [3, 2, 6], [50, 1, 1, 1010, 1001, 4, 11, 0, 6, 4, 2, 1, 0, 0, 1, 2, 1, 10, 1, 2, 1, 2, 9, 5, 3, 1, 1, 1, 0, 0, 256]), (20, [2, 3, 6], [50, 1, 0, 10, 4, 7, 0, 3, 2, 0, 10, 1, 1, 1, 2, 1, 2, 0, -1]), (9, [3, 2], [11]), (7, [4, 5], [1]), (20, [3, 2, 4], [50, 1, 1, 1010, 1001, 4, 11, 0, 6, 4, 2, 1, 0, 0, 1, 2, 1, 10, 1, 2, 1, 2, 9, 5, 3, 1, 1, 1, 0, 0, 256]), (20, [2, 3, 4], [50, 1, 0, 10, 4, 7, 0, 3, 2, 0, 10, 1, 1, 1, 2, 1, 2, 0, -1]), (20, [1, 2], [30, 0, 1, 0, 0, -1, 1, 11]), (20, [2, 1], [60, 2, 1, 949, 10, 11, 1]), (24, [0, 2], [])], [], [], [(20, [2, 1], [60, 2, 1, 950, 10, 11, 1])], [], [])
theorem oo_Mo_next_5 {kA : Nat → ClassId} : or_ok PRD kA GG o_Mo_next_5 := by
  refine or_mk fun A ta ws vs hD hth hl => ?_
  intro t0 r0 t1 k1 t2 r2 t3 k3 t4 k4 t5 k5 t6 k6 t7 k7 f0 f1 f2 f3 f4 f5 f6 f7 f8 f9
  replace f1 := shm_541 f1
  replace f2 := shm_542 f2
  replace f3 := shm_116 f3
  replace f4 := shm_40 f4
  replace f5 := shm_541 f5
  replace f6 := shm_542 f6
  replace f8 := shm_1434 f8
  replace f9 := shm_5 f9
  have q2 : n_v vs 2 = n_v vs 0 := f9.symm
  simp only [q2] at f1 f2 f3 f5 f6 f8
  have g3 : v_iv (n_v vs 3) = w_fi ws (n_v vs 0) 11 := congrArg v_iv f3
  have kz_0_10 := fdq_43 hD hth r0
  have kz_0_11 := fdq_237 hD hth r0
  have nf0 : fc_1 PRD (20, [2, 1], [60, 2, 1, 950, 10, 11, 1]) ws (vs) := by
    refine ⟨nf_in hl rfl, sgq_1435 ?_⟩
    · show ZX1 (w_fi ws (n_v vs 2) 10) (w_fi ws (n_v vs 2) 11) (w_ei ws (w_ar ws (n_v vs 2) 1)) (v_iv (n_v vs 1))
      rw [q2]
      exact vc_Mo_next_5_0 (v_iv (n_v vs 1)) (v_iv (n_v vs 3)) (v_iv (n_v vs 4)) (v_iv (n_v vs 5)) (v_iv (n_v vs 6)) (w_ei ws (w_ar ws (n_v vs 0) 1)) (w_fi ws (n_v vs 0) 10) (w_fi ws (n_v vs 0) 11) k1 k3 k4 k5 k6 f1 f2 g3 f4 f5 f6 f8 kz_0_10 kz_0_11
  refine ⟨(fun _ h => (by cases h)), [], trivial, ?_, (fun _ h => (by cases h))⟩
  rw [List.append_nil]
  exact List.forall_mem_cons.mpr ⟨⟨show (20 : Nat) < 100 from by decide, nf0⟩, (fun _ h => (by cases h))⟩
set_option maxHeartbeats 4000000 in
theorem vc_Mo_next_6_0 (x1 : Int) (x3 : Int) (x4 : Int) (x5 : Int) (x6 : Int) (x7 : Int) (tape_0 : Int → Int) (limit_0 : Int) (pos_0 : Int) (k1 : 0 ≤ x1 ∧ x1 ≤ 2000) (k3 : 0 ≤ x3 ∧ x3 ≤ 1999) (k4 : 0 ≤ x4 ∧ x4 ≤ 255) (k5 : 32 ≤ x5 ∧ x5 ≤ 32) (k6 : 0 ≤ x6 ∧ x6 ≤ 255) (k7 : 10 ≤ x7 ∧ x7 ≤ 10) (f0 : x6 ≠ x7) (f1 : ((x3 + 1) ≤ limit_0) → (x6 = (tape_0 (x3) % 256))) (f2 : (limit_0 ≤ x3) → (x6 = (-1))) (g3 : x3 = pos_0) (f4 : x4 ≠ x5) (f5 : ((x3 + 1) ≤ limit_0) → (x4 = (tape_0 (x3) % 256))) (f6 : (limit_0 ≤ x3) → (x4 = (-1))) (f8 : ZX0 (limit_0) (pos_0) (tape_0) (x1)) (kz_0_10 : 0 ≤ limit_0 ∧ limit_0 ≤ 2000) (kz_0_11 : 0 ≤ pos_0 ∧ pos_0 ≤ 2000) : ZX1 (limit_0) (pos_0) (tape_0) (x1) := by
  first | subst g3 | skip
  exact zx1_mk ‹ZX0 _ _ _ _› (fun q => by omega) (fun q => by omega)
def o_Mo_next_6 : or_T := (39, 8, [(0, (2, 0, 0, [165])), (1, (0, 0, 2000, [])), (2, (2, 0, 0, [165])), (3, (0, 0, 1999, [])), (4, (0, 0, 255, [])), (5, (0, 32, 32, [])), (6, (0, 0, 255, [])), (7, (0, 10, 10, []))], [(7, [6, 7], [1]), (20, [3, 2, 6], [50, 1, 1, 1010, 1001, 4, 11, 0, 6, 4, 2, 1, 0, 0, 1, 2, 1, 10, 1, 2, 1, 2, 9, 5, 3, 1, 1, 1, 0, 0, 256]), (20, [2, 3, 6], [50, 1, 0, 10, 4, 7, 0, 3, 2, 0, 10, 1, 1, 1, 2, 1, 2, 0, -1]), (9, [3, 2], [11]), (7, [4, 5], [1]), (20, [3, 2, 4], [50, 1, 1, 1010, 1001, 4, 11, 0, 6, 4, 2, 1, 0, 0, 1, 2, 1, 10, 1, 2, 1, 2, 9, 5, 3, 1, 1, 1, 0, 0, 256]), (20, [2, 3, 4], [50, 1, 0, 10, 4, 7, 0, 3, 2, 0, 10, 1, 1, 1, 2, 1, 2, 0, -1]), (20, [1, 2], [30, 0, 1, 0, 0, -1, 1, 11]), (20, [2, 1], [60, 2, 1, 949, 10, 11, 1]), (24, [0, 2], [])], [], [], [(20, [2, 1], [60, 2, 1, 950, 10, 11, 1])], [], [])
theorem oo_Mo_next_6 {kA : Nat → ClassId} : or_ok PRD kA GG o_Mo_next_6 := by
  refine or_mk fun A ta ws vs hD hth hl => ?_
  intro t0 r0 t1 k1 t2 r2 t3 k3 t4 k4 t5 k5 t6 k6 t7 k7 f0 f1 f2 f3 f4 f5 f6 f7 f8 f9
  replace f0 := shm_40 f0
  replace f1 := shm_541 f1
  replace f2 := shm_542 f2
  replace f3 := shm_116 f3
  replace f4 := shm_40 f4
  replace f5 := shm_541 f5
  replace f6 := shm_542 f6
  replace f8 := shm_1434 f8
  replace f9 := shm_5 f9
  have q2 : n_v vs 2 = n_v vs 0 := f9.symm
  simp only [q2] at f1 f2 f3 f5 f6 f8
  have g3 : v_iv (n_v vs 3) = w_fi ws (n_v vs 0) 11 := congrArg v_iv f3
  have kz_0_10 := fdq_43 hD hth r0
  have kz_0_11 := fdq_237 hD hth r0
  have nf0 : fc_1 PRD (20, [2, 1], [60, 2, 1, 950, 10, 11, 1]) ws (vs) := by
    refine ⟨nf_in hl rfl, sgq_1435 ?_⟩
    · show ZX1 (w_fi ws (n_v vs 2) 10) (w_fi ws (n_v vs 2) 11) (w_ei ws (w_ar ws (n_v vs 2) 1)) (v_iv (n_v vs 1))
      rw [q2]
      exact vc_Mo_next_6_0 (v_iv (n_v vs 1)) (v_iv (n_v vs 3)) (v_iv (n_v vs 4)) (v_iv (n_v vs 5)) (v_iv (n_v vs 6)) (v_iv (n_v vs 7)) (w_ei ws (w_ar ws (n_v vs 0) 1)) (w_fi ws (n_v vs 0) 10) (w_fi ws (n_v vs 0) 11) k1 k3 k4 k5 k6 k7 f0 f1 f2 g3 f4 f5 f6 f8 kz_0_10 kz_0_11
  refine ⟨(fun _ h => (by cases h)), [], trivial, ?_, (fun _ h => (by cases h))⟩
  rw [List.append_nil]
  exact List.forall_mem_cons.mpr ⟨⟨show (20 : Nat) < 100 from by decide, nf0⟩, (fun _ h => (by cases h))⟩
set_option maxHeartbeats 4000000 in
theorem vc_Mo_next_7_0 (x1 : Int) (x3 : Int) (x4 : Int) (x6 : Int) (x9 : Int) (pos_0 : Int) (tape_0 : Int → Int) (limit_0 : Int) (pos_1 : Int) (tape_1 : Int → Int) (limit_1 : Int) (k1 : 0 ≤ x1 ∧ x1 ≤ 2000) (k3 : 0 ≤ x3 ∧ x3 ≤ 1999) (k4 : 0 ≤ x4 ∧ x4 ≤ 255) (k6 : 10 ≤ x6 ∧ x6 ≤ 10) (k9 : 1 ≤ x9 ∧ x9 ≤ 2000) (d0 : x3 + 1 ≤ x9 ∧ x9 ≤ x3 + 1) (g0 : x9 = pos_0) (f1 : ((x3 + 1) ≤ limit_0) → (x6 = (tape_0 (x3) % 256))) (f2 : (limit_0 ≤ x3) → (x6 = (-1))) (f3 : ((x3 + 1) ≤ limit_0) → (x4 = (tape_0 (x3) % 256))) (f4 : (limit_0 ≤ x3) → (x4 = (-1))) (g8 : x3 = pos_1) (f10 : ((x3 + 1) ≤ limit_1) → (x6 = (tape_1 (x3) % 256))) (f11 : (limit_1 ≤ x3) → (x6 = (-1))) (f13 : ((x3 + 1) ≤ limit_1) → (x4 = (tape_1 (x3) % 256))) (f14 : (limit_1 ≤ x3) → (x4 = (-1))) (f15 : 1 * x1 + ((-1) * pos_1 + 0) ≤ 0) (fe_0_10_1 : limit_0 = limit_1) (hE_0_1_1 : ∀ j : Int, tape_0 j = tape_1 j) (hK_0_1 : ∀ j : Int, 0 ≤ j → j < 2000 → (-128) ≤ tape_0 j ∧ tape_0 j ≤ 127) (kz_0_10 : 0 ≤ limit_0 ∧ limit_0 ≤ 2000) (kz_0_11 : 0 ≤ pos_0 ∧ pos_0 ≤ 2000) : 1 * x1 + ((-1) * pos_0 + 0) ≤ 0 := by
  subst fe_0_10_1
  have e_hE_0_1_1 := funext hE_0_1_1; subst e_hE_0_1_1
  first | with_reducible assumption | ((try and_intros) <;> first | with_reducible assumption | (clear hE_0_1_1 hK_0_1 f1 f2 f3 f4 f10 f11 f13 f14; omega)) | ((first | have f1_b := f1 (by clear hE_0_1_1 hK_0_1 f1 f2 f3 f4 f10 f11 f13 f14; omega) | skip); (first | have f2_b := f2 (by clear hE_0_1_1 hK_0_1 f1 f2 f3 f4 f10 f11 f13 f14; omega) | skip); (first | have f3_b := f3 (by clear hE_0_1_1 hK_0_1 f1 f2 f3 f4 f10 f11 f13 f14; omega) | skip); (first | have f4_b := f4 (by clear hE_0_1_1 hK_0_1 f1 f2 f3 f4 f10 f11 f13 f14; omega) | skip); (first | have f10_b := f10 (by clear hE_0_1_1 hK_0_1 f1 f2 f3 f4 f10 f11 f13 f14; omega) | skip); (first | have f11_b := f11 (by clear hE_0_1_1 hK_0_1 f1 f2 f3 f4 f10 f11 f13 f14; omega) | skip); (first | have f13_b := f13 (by clear hE_0_1_1 hK_0_1 f1 f2 f3 f4 f10 f11 f13 f14; omega) | skip); (first | have f14_b := f14 (by clear hE_0_1_1 hK_0_1 f1 f2 f3 f4 f10 f11 f13 f14; omega) | skip); (first | have f1_d := f1 (by with_reducible assumption) | skip); (first | have f2_d := f2 (by with_reducible assumption) | skip); (first | have f3_d := f3 (by with_reducible assumption) | skip); (first | have f4_d := f4 (by with_reducible assumption) | skip); (first | have f10_d := f10 (by with_reducible assumption) | skip); (first | have f11_d := f11 (by with_reducible assumption) | skip); (first | have f13_d := f13 (by with_reducible assumption) | skip); (first | have f14_d := f14 (by with_reducible assumption) | skip); (try and_intros) <;> first | with_reducible assumption | (clear hE_0_1_1 hK_0_1 f1 f2 f3 f4 f10 f11 f13 f14; omega)) | omega
set_option maxHeartbeats 4000000 in
theorem vc_Mo_next_7_1 (x1 : Int) (x3 : Int) (x4 : Int) (x6 : Int) (x9 : Int) (pos_0 : Int) (tape_0 : Int → Int) (limit_0 : Int) (pos_1 : Int) (tape_1 : Int → Int) (limit_1 : Int) (k1 : 0 ≤ x1 ∧ x1 ≤ 2000) (k3 : 0 ≤ x3 ∧ x3 ≤ 1999) (k4 : 0 ≤ x4 ∧ x4 ≤ 255) (k6 : 10 ≤ x6 ∧ x6 ≤ 10) (k9 : 1 ≤ x9 ∧ x9 ≤ 2000) (d0 : x3 + 1 ≤ x9 ∧ x9 ≤ x3 + 1) (g0 : x9 = pos_0) (g8 : x3 = pos_1) (f10 : ((x3 + 1) ≤ limit_1) → (x6 = (tape_1 (x3) % 256))) (f13 : ((x3 + 1) ≤ limit_1) → (x4 = (tape_1 (x3) % 256))) (f14 : (limit_1 ≤ x3) → (x4 = (-1))) (f16 : ZX0 (limit_1) (pos_1) (tape_1) (x1)) (fe_0_10_1 : limit_0 = limit_1) (hE_0_1_1 : ∀ j : Int, tape_0 j = tape_1 j) (hK_0_1 : ∀ j : Int, 0 ≤ j → j < 2000 → (-128) ≤ tape_0 j ∧ tape_0 j ≤ 127) (kz_0_10 : 0 ≤ limit_0 ∧ limit_0 ≤ 2000) (kz_0_11 : 0 ≤ pos_0 ∧ pos_0 ≤ 2000) : ZX0 (limit_0) (pos_0) (tape_0) (x1) := by
  subst fe_0_10_1
  have e_hE_0_1_1 := funext hE_0_1_1; subst e_hE_0_1_1
  first | subst g0 | skip
  first | subst g8 | skip
  first
    | (have hl : pos_0 ≤ limit_0 := ‹ZLM _ _›; exact zx0_start (by omega) (by omega) (by omega))
    | (have hl : x3 ≤ limit_0 := ‹ZLM _ _›; exact zx0_start (by omega) (by omega) (by omega))
    | (have hl : x1 ≤ limit_0 := ‹ZLM _ _›; exact zx0_start (by omega) (by omega) (by omega))
    | exact zx0_step (by assumption) ‹ZX0 _ _ _ _› (by omega) (by omega) (by omega)
def o_Mo_next_7 : or_T := (0, 10, [(0, (2, 0, 0, [165])), (1, (0, 0, 2000, [])), (2, (2, 0, 0, [165])), (3, (0, 0, 1999, [])), (4, (0, 0, 255, [])), (5, (0, 32, 32, [])), (6, (0, 10, 10, [])), (7, (0, 10, 10, [])), (8, (0, 1, 1, [])), (9, (0, 1, 2000, []))], [(9, [9, 2], [11]), (20, [3, 2, 6], [50, 1, 1, 1010, 1001, 4, 11, 0, 6, 4, 2, 1, 0, 0, 1, 2, 1, 10, 1, 2, 1, 2, 9, 5, 3, 1, 1, 1, 0, 0, 256]), (20, [2, 3, 6], [50, 1, 0, 10, 4, 7, 0, 3, 2, 0, 10, 1, 1, 1, 2, 1, 2, 0, -1]), (20, [3, 2, 4], [50, 1, 1, 1010, 1001, 4, 11, 0, 6, 4, 2, 1, 0, 0, 1, 2, 1, 10, 1, 2, 1, 2, 9, 5, 3, 1, 1, 1, 0, 0, 256]), (20, [2, 3, 4], [50, 1, 0, 10, 4, 7, 0, 3, 2, 0, 10, 1, 1, 1, 2, 1, 2, 0, -1]), (24, [0, 2], []), (101, [2, 9], [11]), (1, [9, 3, 8], []), (9, [3, 2], [11]), (7, [6, 7], [0]), (20, [3, 2, 6], [50, 1, 1, 1010, 1001, 4, 11, 0, 6, 4, 2, 1, 0, 0, 1, 2, 1, 10, 1, 2, 1, 2, 9, 5, 3, 1, 1, 1, 0, 0, 256]), (20, [2, 3, 6], [50, 1, 0, 10, 4, 7, 0, 3, 2, 0, 10, 1, 1, 1, 2, 1, 2, 0, -1]), (7, [4, 5], [1]), (20, [3, 2, 4], [50, 1, 1, 1010, 1001, 4, 11, 0, 6, 4, 2, 1, 0, 0, 1, 2, 1, 10, 1, 2, 1, 2, 9, 5, 3, 1, 1, 1, 0, 0, 256]), (20, [2, 3, 4], [50, 1, 0, 10, 4, 7, 0, 3, 2, 0, 10, 1, 1, 1, 2, 1, 2, 0, -1]), (20, [1, 2], [30, 0, 1, 0, 0, -1, 1, 11]), (20, [2, 1], [60, 2, 1, 949, 10, 11, 1])], [], [], [(20, [1, 2], [30, 0, 1, 0, 0, -1, 1, 11]), (20, [2, 1], [60, 2, 1, 949, 10, 11, 1])], [], [(9, 3, 1, 1)])
theorem oo_Mo_next_7 {kA : Nat → ClassId} : or_ok PRD kA GG o_Mo_next_7 := by
  refine or_mk fun A ta ws vs hD hth hl => ?_
  intro t0 r0 t1 k1 t2 r2 t3 k3 t4 k4 t5 k5 t6 k6 t7 k7 t8 k8 t9 k9 d0 f0 f1 f2 f3 f4 f5 ta1 w1 le1 s1 f7 f8 f9 f10 f11 f12 f13 f14 f15 f16
  replace f0 := shm_116 f0
  replace f1 := shm_541 f1
  replace f2 := shm_542 f2
  replace f3 := shm_541 f3
  replace f4 := shm_542 f4
  replace f5 := shm_5 f5
  have s1 : (∀ b j, w_el ws b j = w_el w1 b j) ∧ ∀ b j, w_fd ws b j = if b = v_ad (n_v vs 2) ∧ j = 11 then n_v vs 9 else w_fd w1 b j := s1.2
  replace f8 := shm_116 f8
  replace f10 := shm_541 f10
  replace f11 := shm_542 f11
  replace f13 := shm_541 f13
  replace f14 := shm_542 f14
  replace f15 := shm_1431 f15
  replace f16 := shm_1434 f16
  have q2 : n_v vs 2 = n_v vs 0 := f5.symm
  simp only [q2] at f0 f1 f2 f3 f4
  rw [q2] at s1
  simp only [q2] at f8 f10 f11 f13 f14 f15 f16
  have ar_0_1_1 : w_ar w1 (n_v vs 0) 1 = w_ar ws (n_v vs 0) 1 := by show v_ad (w_fd w1 _ _) = v_ad (w_fd ws _ _); rw [s1.2, if_neg (fun e => absurd e.2 (by decide))]
  have cr_0_1 := fdq_39 hD hth r0
  have g0 : v_iv (n_v vs 9) = w_fi ws (n_v vs 0) 11 := congrArg v_iv f0
  have g8 : v_iv (n_v vs 3) = w_fi w1 (n_v vs 0) 11 := congrArg v_iv f8
  simp only [ar_0_1_1] at f10 f13 f16
  have fe_0_10_1 : w_fi ws (n_v vs 0) 10 = w_fi w1 (n_v vs 0) 10 := by show v_iv (w_fd _ _ _) = v_iv (w_fd _ _ _); rw [s1.2, if_neg (fun e => absurd e.2 (by decide))]
  have hE_0_1_1 : ∀ j : Int, w_ei ws (w_ar ws (n_v vs 0) 1) j = w_ei w1 (w_ar ws (n_v vs 0) 1) j := fun j => s1.1 _ _
  have hK_0_1 := elq_7 hD hth cr_0_1
  have kz_0_10 := fdq_43 hD hth r0
  have kz_0_11 := fdq_237 hD hth r0
  have nf0 : fc_1 PRD (20, [1, 2], [30, 0, 1, 0, 0, -1, 1, 11]) ws (vs) := by
    refine ⟨nf_in hl rfl, sgq_1431 ?_⟩
    · show 1 * v_iv (n_v vs 1) + ((-1) * w_fi ws (n_v vs 2) 11 + 0) ≤ 0
      rw [q2]
      exact vc_Mo_next_7_0 (v_iv (n_v vs 1)) (v_iv (n_v vs 3)) (v_iv (n_v vs 4)) (v_iv (n_v vs 6)) (v_iv (n_v vs 9)) (w_fi ws (n_v vs 0) 11) (w_ei ws (w_ar ws (n_v vs 0) 1)) (w_fi ws (n_v vs 0) 10) (w_fi w1 (n_v vs 0) 11) (w_ei w1 (w_ar ws (n_v vs 0) 1)) (w_fi w1 (n_v vs 0) 10) k1 k3 k4 k6 k9 d0 g0 f1 f2 f3 f4 g8 f10 f11 f13 f14 f15 fe_0_10_1 hE_0_1_1 hK_0_1 kz_0_10 kz_0_11
  have nf1 : fc_1 PRD (20, [2, 1], [60, 2, 1, 949, 10, 11, 1]) ws (vs) := by
    refine ⟨nf_in hl rfl, sgq_1434 ?_⟩
    · show ZX0 (w_fi ws (n_v vs 2) 10) (w_fi ws (n_v vs 2) 11) (w_ei ws (w_ar ws (n_v vs 2) 1)) (v_iv (n_v vs 1))
      rw [q2]
      exact vc_Mo_next_7_1 (v_iv (n_v vs 1)) (v_iv (n_v vs 3)) (v_iv (n_v vs 4)) (v_iv (n_v vs 6)) (v_iv (n_v vs 9)) (w_fi ws (n_v vs 0) 11) (w_ei ws (w_ar ws (n_v vs 0) 1)) (w_fi ws (n_v vs 0) 10) (w_fi w1 (n_v vs 0) 11) (w_ei w1 (w_ar ws (n_v vs 0) 1)) (w_fi w1 (n_v vs 0) 10) k1 k3 k4 k6 k9 d0 g0 g8 f10 f13 f14 f16 fe_0_10_1 hE_0_1_1 hK_0_1 kz_0_10 kz_0_11
  refine ⟨(fun _ h => (by cases h)), [], trivial, ?_, (fun _ h => (by cases h))⟩
  rw [List.append_nil]
  exact List.forall_mem_cons.mpr ⟨⟨show (20 : Nat) < 100 from by decide, nf0⟩, List.forall_mem_cons.mpr ⟨⟨show (20 : Nat) < 100 from by decide, nf1⟩, (fun _ h => (by cases h))⟩⟩
set_option maxHeartbeats 4000000 in
theorem vc_Mo_next_8_0 (x1 : Int) (x3 : Int) (x4 : Int) (value_0 : Int) (from_0 : Int) (place_0 : Int) (pos_0 : Int) (tape_0 : Int → Int) (limit_0 : Int) (tape_1 : Int → Int) (limit_1 : Int) (pos_1 : Int) (tape_2 : Int → Int) (limit_2 : Int) (pos_2 : Int) (tape_3 : Int → Int) (limit_3 : Int) (pos_3 : Int) (pos_4 : Int) (tape_4 : Int → Int) (limit_4 : Int) (pos_5 : Int) (tape_5 : Int → Int) (limit_5 : Int) (place_1 : Int) (value_1 : Int) (from_1 : Int) (kind_1 : Int) (kind_2 : Int) (place_2 : Int) (from_2 : Int) (place_3 : Int) (value_2 : Int) (value_3 : Int) (from_3 : Int) (kind_3 : Int) (kind_4 : Int) (place_4 : Int) (value_4 : Int) (k1 : 0 ≤ x1 ∧ x1 ≤ 2000) (k3 : 0 ≤ x3 ∧ x3 ≤ 2000) (k4 : (-1) ≤ x4 ∧ x4 ≤ (-1)) (g2 : x3 = from_0) (g3 : x3 = place_0) (g4 : x3 = pos_0) (f5 : ((x3 + 1) ≤ limit_0) → (x4 = (tape_0 (x3) % 256))) (f6 : (limit_0 ≤ x3) → (x4 = (-1))) (f7 : 1 * x1 + ((-1) * pos_0 + 0) ≤ 0) (f12 : ((x3 + 1) ≤ limit_1) → (x4 = (tape_1 (x3) % 256))) (f13 : (limit_1 ≤ x3) → (x4 = (-1))) (f17 : ((x3 + 1) ≤ limit_2) → (x4 = (tape_2 (x3) % 256))) (f18 : (limit_2 ≤ x3) → (x4 = (-1))) (f22 : ((x3 + 1) ≤ limit_3) → (x4 = (tape_3 (x3) % 256))) (f23 : (limit_3 ≤ x3) → (x4 = (-1))) (fe_0_10_1 : limit_0 = limit_1) (fe_0_11_1 : pos_0 = pos_1) (fe_0_13_1 : place_0 = place_1) (fe_0_14_1 : value_0 = value_1) (fe_0_15_1 : from_0 = from_1) (fe_0_10_2 : limit_1 = limit_2) (fe_0_11_2 : pos_1 = pos_2) (fe_0_12_2 : kind_1 = kind_2) (fe_0_13_2 : place_1 = place_2) (fe_0_15_2 : from_1 = from_2) (fe_0_10_3 : limit_2 = limit_3) (fe_0_11_3 : pos_2 = pos_3) (fe_0_13_3 : place_2 = place_3) (fe_0_14_3 : value_2 = value_3) (fe_0_15_3 : from_2 = from_3) (fe_0_10_4 : limit_3 = limit_4) (fe_0_11_4 : pos_3 = pos_4) (fe_0_12_4 : kind_3 = kind_4) (fe_0_13_4 : place_3 = place_4) (fe_0_14_4 : value_3 = value_4) (fe_0_10_5 : limit_4 = limit_5) (fe_0_11_5 : pos_4 = pos_5) (hE_0_1_1 : ∀ j : Int, tape_0 j = tape_1 j) (hE_0_1_2 : ∀ j : Int, tape_1 j = tape_2 j) (hE_0_1_3 : ∀ j : Int, tape_2 j = tape_3 j) (hE_0_1_4 : ∀ j : Int, tape_3 j = tape_4 j) (hE_0_1_5 : ∀ j : Int, tape_4 j = tape_5 j) (hK_0_1 : ∀ j : Int, 0 ≤ j → j < 2000 → (-128) ≤ tape_0 j ∧ tape_0 j ≤ 127) (kz_0_10 : 0 ≤ limit_0 ∧ limit_0 ≤ 2000) (kz_0_11 : 0 ≤ pos_0 ∧ pos_0 ≤ 2000) (kz_0_13 : 0 ≤ place_0 ∧ place_0 ≤ 2000) (kz_0_14 : (-49) ≤ value_0 ∧ value_0 ≤ 1048575) (kz_0_15 : 0 ≤ from_0 ∧ from_0 ≤ 2000) : 1 * x1 + ((-1) * from_0 + 0) ≤ 0 := by
  subst fe_0_10_1
  subst fe_0_11_1
  subst fe_0_13_1
  subst fe_0_14_1
  subst fe_0_15_1
  subst fe_0_10_2
  subst fe_0_11_2
  subst fe_0_12_2
  subst fe_0_13_2
  subst fe_0_15_2
  subst fe_0_10_3
  subst fe_0_11_3
  subst fe_0_13_3
  subst fe_0_14_3
  subst fe_0_15_3
  subst fe_0_10_4
  subst fe_0_11_4
  subst fe_0_12_4
  subst fe_0_13_4
  subst fe_0_14_4
  subst fe_0_10_5
  subst fe_0_11_5
  have e_hE_0_1_1 := funext hE_0_1_1; subst e_hE_0_1_1
  have e_hE_0_1_2 := funext hE_0_1_2; subst e_hE_0_1_2
  have e_hE_0_1_3 := funext hE_0_1_3; subst e_hE_0_1_3
  have e_hE_0_1_4 := funext hE_0_1_4; subst e_hE_0_1_4
  have e_hE_0_1_5 := funext hE_0_1_5; subst e_hE_0_1_5
  first | with_reducible assumption | ((try and_intros) <;> first | with_reducible assumption | (clear hE_0_1_1 hE_0_1_2 hE_0_1_3 hE_0_1_4 hE_0_1_5 hK_0_1 f5 f6 f12 f13 f17 f18 f22 f23; omega)) | ((first | have f5_b := f5 (by clear hE_0_1_1 hE_0_1_2 hE_0_1_3 hE_0_1_4 hE_0_1_5 hK_0_1 f5 f6 f12 f13 f17 f18 f22 f23; omega) | skip); (first | have f6_b := f6 (by clear hE_0_1_1 hE_0_1_2 hE_0_1_3 hE_0_1_4 hE_0_1_5 hK_0_1 f5 f6 f12 f13 f17 f18 f22 f23; omega) | skip); (first | have f12_b := f12 (by clear hE_0_1_1 hE_0_1_2 hE_0_1_3 hE_0_1_4 hE_0_1_5 hK_0_1 f5 f6 f12 f13 f17 f18 f22 f23; omega) | skip); (first | have f13_b := f13 (by clear hE_0_1_1 hE_0_1_2 hE_0_1_3 hE_0_1_4 hE_0_1_5 hK_0_1 f5 f6 f12 f13 f17 f18 f22 f23; omega) | skip); (first | have f17_b := f17 (by clear hE_0_1_1 hE_0_1_2 hE_0_1_3 hE_0_1_4 hE_0_1_5 hK_0_1 f5 f6 f12 f13 f17 f18 f22 f23; omega) | skip); (first | have f18_b := f18 (by clear hE_0_1_1 hE_0_1_2 hE_0_1_3 hE_0_1_4 hE_0_1_5 hK_0_1 f5 f6 f12 f13 f17 f18 f22 f23; omega) | skip); (first | have f22_b := f22 (by clear hE_0_1_1 hE_0_1_2 hE_0_1_3 hE_0_1_4 hE_0_1_5 hK_0_1 f5 f6 f12 f13 f17 f18 f22 f23; omega) | skip); (first | have f23_b := f23 (by clear hE_0_1_1 hE_0_1_2 hE_0_1_3 hE_0_1_4 hE_0_1_5 hK_0_1 f5 f6 f12 f13 f17 f18 f22 f23; omega) | skip); (first | have f5_d := f5 (by with_reducible assumption) | skip); (first | have f6_d := f6 (by with_reducible assumption) | skip); (first | have f12_d := f12 (by with_reducible assumption) | skip); (first | have f13_d := f13 (by with_reducible assumption) | skip); (first | have f17_d := f17 (by with_reducible assumption) | skip); (first | have f18_d := f18 (by with_reducible assumption) | skip); (first | have f22_d := f22 (by with_reducible assumption) | skip); (first | have f23_d := f23 (by with_reducible assumption) | skip); (try and_intros) <;> first | with_reducible assumption | (clear hE_0_1_1 hE_0_1_2 hE_0_1_3 hE_0_1_4 hE_0_1_5 hK_0_1 f5 f6 f12 f13 f17 f18 f22 f23; omega)) | omega
set_option maxHeartbeats 4000000 in
theorem vc_Mo_next_8_1 (x3 : Int) (x4 : Int) (value_0 : Int) (from_0 : Int) (place_0 : Int) (pos_0 : Int) (tape_0 : Int → Int) (limit_0 : Int) (tape_1 : Int → Int) (limit_1 : Int) (pos_1 : Int) (tape_2 : Int → Int) (limit_2 : Int) (pos_2 : Int) (tape_3 : Int → Int) (limit_3 : Int) (pos_3 : Int) (pos_4 : Int) (tape_4 : Int → Int) (limit_4 : Int) (pos_5 : Int) (tape_5 : Int → Int) (limit_5 : Int) (place_1 : Int) (value_1 : Int) (from_1 : Int) (kind_1 : Int) (kind_2 : Int) (place_2 : Int) (from_2 : Int) (place_3 : Int) (value_2 : Int) (value_3 : Int) (from_3 : Int) (kind_3 : Int) (kind_4 : Int) (place_4 : Int) (value_4 : Int) (k3 : 0 ≤ x3 ∧ x3 ≤ 2000) (k4 : (-1) ≤ x4 ∧ x4 ≤ (-1)) (g2 : x3 = from_0) (g3 : x3 = place_0) (g4 : x3 = pos_0) (f5 : ((x3 + 1) ≤ limit_0) → (x4 = (tape_0 (x3) % 256))) (f6 : (limit_0 ≤ x3) → (x4 = (-1))) (f12 : ((x3 + 1) ≤ limit_1) → (x4 = (tape_1 (x3) % 256))) (f13 : (limit_1 ≤ x3) → (x4 = (-1))) (f17 : ((x3 + 1) ≤ limit_2) → (x4 = (tape_2 (x3) % 256))) (f18 : (limit_2 ≤ x3) → (x4 = (-1))) (f22 : ((x3 + 1) ≤ limit_3) → (x4 = (tape_3 (x3) % 256))) (f23 : (limit_3 ≤ x3) → (x4 = (-1))) (fe_0_10_1 : limit_0 = limit_1) (fe_0_11_1 : pos_0 = pos_1) (fe_0_13_1 : place_0 = place_1) (fe_0_14_1 : value_0 = value_1) (fe_0_15_1 : from_0 = from_1) (fe_0_10_2 : limit_1 = limit_2) (fe_0_11_2 : pos_1 = pos_2) (fe_0_12_2 : kind_1 = kind_2) (fe_0_13_2 : place_1 = place_2) (fe_0_15_2 : from_1 = from_2) (fe_0_10_3 : limit_2 = limit_3) (fe_0_11_3 : pos_2 = pos_3) (fe_0_13_3 : place_2 = place_3) (fe_0_14_3 : value_2 = value_3) (fe_0_15_3 : from_2 = from_3) (fe_0_10_4 : limit_3 = limit_4) (fe_0_11_4 : pos_3 = pos_4) (fe_0_12_4 : kind_3 = kind_4) (fe_0_13_4 : place_3 = place_4) (fe_0_14_4 : value_3 = value_4) (fe_0_10_5 : limit_4 = limit_5) (fe_0_11_5 : pos_4 = pos_5) (hE_0_1_1 : ∀ j : Int, tape_0 j = tape_1 j) (hE_0_1_2 : ∀ j : Int, tape_1 j = tape_2 j) (hE_0_1_3 : ∀ j : Int, tape_2 j = tape_3 j) (hE_0_1_4 : ∀ j : Int, tape_3 j = tape_4 j) (hE_0_1_5 : ∀ j : Int, tape_4 j = tape_5 j) (hK_0_1 : ∀ j : Int, 0 ≤ j → j < 2000 → (-128) ≤ tape_0 j ∧ tape_0 j ≤ 127) (kz_0_10 : 0 ≤ limit_0 ∧ limit_0 ≤ 2000) (kz_0_11 : 0 ≤ pos_0 ∧ pos_0 ≤ 2000) (kz_0_13 : 0 ≤ place_0 ∧ place_0 ≤ 2000) (kz_0_14 : (-49) ≤ value_0 ∧ value_0 ≤ 1048575) (kz_0_15 : 0 ≤ from_0 ∧ from_0 ≤ 2000) : 1 * from_0 + ((-1) * pos_0 + 0) ≤ 0 := by
  subst fe_0_10_1
  subst fe_0_11_1
  subst fe_0_13_1
  subst fe_0_14_1
  subst fe_0_15_1
  subst fe_0_10_2
  subst fe_0_11_2
  subst fe_0_12_2
  subst fe_0_13_2
  subst fe_0_15_2
  subst fe_0_10_3
  subst fe_0_11_3
  subst fe_0_13_3
  subst fe_0_14_3
  subst fe_0_15_3
  subst fe_0_10_4
  subst fe_0_11_4
  subst fe_0_12_4
  subst fe_0_13_4
  subst fe_0_14_4
  subst fe_0_10_5
  subst fe_0_11_5
  have e_hE_0_1_1 := funext hE_0_1_1; subst e_hE_0_1_1
  have e_hE_0_1_2 := funext hE_0_1_2; subst e_hE_0_1_2
  have e_hE_0_1_3 := funext hE_0_1_3; subst e_hE_0_1_3
  have e_hE_0_1_4 := funext hE_0_1_4; subst e_hE_0_1_4
  have e_hE_0_1_5 := funext hE_0_1_5; subst e_hE_0_1_5
  first | with_reducible assumption | ((try and_intros) <;> first | with_reducible assumption | (clear hE_0_1_1 hE_0_1_2 hE_0_1_3 hE_0_1_4 hE_0_1_5 hK_0_1 f5 f6 f12 f13 f17 f18 f22 f23; omega)) | ((first | have f5_b := f5 (by clear hE_0_1_1 hE_0_1_2 hE_0_1_3 hE_0_1_4 hE_0_1_5 hK_0_1 f5 f6 f12 f13 f17 f18 f22 f23; omega) | skip); (first | have f6_b := f6 (by clear hE_0_1_1 hE_0_1_2 hE_0_1_3 hE_0_1_4 hE_0_1_5 hK_0_1 f5 f6 f12 f13 f17 f18 f22 f23; omega) | skip); (first | have f12_b := f12 (by clear hE_0_1_1 hE_0_1_2 hE_0_1_3 hE_0_1_4 hE_0_1_5 hK_0_1 f5 f6 f12 f13 f17 f18 f22 f23; omega) | skip); (first | have f13_b := f13 (by clear hE_0_1_1 hE_0_1_2 hE_0_1_3 hE_0_1_4 hE_0_1_5 hK_0_1 f5 f6 f12 f13 f17 f18 f22 f23; omega) | skip); (first | have f17_b := f17 (by clear hE_0_1_1 hE_0_1_2 hE_0_1_3 hE_0_1_4 hE_0_1_5 hK_0_1 f5 f6 f12 f13 f17 f18 f22 f23; omega) | skip); (first | have f18_b := f18 (by clear hE_0_1_1 hE_0_1_2 hE_0_1_3 hE_0_1_4 hE_0_1_5 hK_0_1 f5 f6 f12 f13 f17 f18 f22 f23; omega) | skip); (first | have f22_b := f22 (by clear hE_0_1_1 hE_0_1_2 hE_0_1_3 hE_0_1_4 hE_0_1_5 hK_0_1 f5 f6 f12 f13 f17 f18 f22 f23; omega) | skip); (first | have f23_b := f23 (by clear hE_0_1_1 hE_0_1_2 hE_0_1_3 hE_0_1_4 hE_0_1_5 hK_0_1 f5 f6 f12 f13 f17 f18 f22 f23; omega) | skip); (first | have f5_d := f5 (by with_reducible assumption) | skip); (first | have f6_d := f6 (by with_reducible assumption) | skip); (first | have f12_d := f12 (by with_reducible assumption) | skip); (first | have f13_d := f13 (by with_reducible assumption) | skip); (first | have f17_d := f17 (by with_reducible assumption) | skip); (first | have f18_d := f18 (by with_reducible assumption) | skip); (first | have f22_d := f22 (by with_reducible assumption) | skip); (first | have f23_d := f23 (by with_reducible assumption) | skip); (try and_intros) <;> first | with_reducible assumption | (clear hE_0_1_1 hE_0_1_2 hE_0_1_3 hE_0_1_4 hE_0_1_5 hK_0_1 f5 f6 f12 f13 f17 f18 f22 f23; omega)) | omega
set_option maxHeartbeats 4000000 in
theorem vc_Mo_next_8_2 (x3 : Int) (x4 : Int) (x6 : Int) (kind_0 : Int) (value_0 : Int) (from_0 : Int) (place_0 : Int) (pos_0 : Int) (tape_0 : Int → Int) (limit_0 : Int) (tape_1 : Int → Int) (limit_1 : Int) (pos_1 : Int) (tape_2 : Int → Int) (limit_2 : Int) (pos_2 : Int) (tape_3 : Int → Int) (limit_3 : Int) (pos_3 : Int) (pos_4 : Int) (tape_4 : Int → Int) (limit_4 : Int) (pos_5 : Int) (tape_5 : Int → Int) (limit_5 : Int) (place_1 : Int) (value_1 : Int) (from_1 : Int) (kind_1 : Int) (kind_2 : Int) (place_2 : Int) (from_2 : Int) (place_3 : Int) (value_2 : Int) (value_3 : Int) (from_3 : Int) (kind_3 : Int) (kind_4 : Int) (place_4 : Int) (value_4 : Int) (k3 : 0 ≤ x3 ∧ x3 ≤ 2000) (k4 : (-1) ≤ x4 ∧ x4 ≤ (-1)) (k6 : 0 ≤ x6 ∧ x6 ≤ 0) (g0 : x6 = kind_0) (f5 : ((x3 + 1) ≤ limit_0) → (x4 = (tape_0 (x3) % 256))) (f6 : (limit_0 ≤ x3) → (x4 = (-1))) (f12 : ((x3 + 1) ≤ limit_1) → (x4 = (tape_1 (x3) % 256))) (f13 : (limit_1 ≤ x3) → (x4 = (-1))) (f17 : ((x3 + 1) ≤ limit_2) → (x4 = (tape_2 (x3) % 256))) (f18 : (limit_2 ≤ x3) → (x4 = (-1))) (f22 : ((x3 + 1) ≤ limit_3) → (x4 = (tape_3 (x3) % 256))) (f23 : (limit_3 ≤ x3) → (x4 = (-1))) (fe_0_10_1 : limit_0 = limit_1) (fe_0_11_1 : pos_0 = pos_1) (fe_0_13_1 : place_0 = place_1) (fe_0_14_1 : value_0 = value_1) (fe_0_15_1 : from_0 = from_1) (fe_0_10_2 : limit_1 = limit_2) (fe_0_11_2 : pos_1 = pos_2) (fe_0_12_2 : kind_1 = kind_2) (fe_0_13_2 : place_1 = place_2) (fe_0_15_2 : from_1 = from_2) (fe_0_10_3 : limit_2 = limit_3) (fe_0_11_3 : pos_2 = pos_3) (fe_0_13_3 : place_2 = place_3) (fe_0_14_3 : value_2 = value_3) (fe_0_15_3 : from_2 = from_3) (fe_0_10_4 : limit_3 = limit_4) (fe_0_11_4 : pos_3 = pos_4) (fe_0_12_4 : kind_3 = kind_4) (fe_0_13_4 : place_3 = place_4) (fe_0_14_4 : value_3 = value_4) (fe_0_10_5 : limit_4 = limit_5) (fe_0_11_5 : pos_4 = pos_5) (hE_0_1_1 : ∀ j : Int, tape_0 j = tape_1 j) (hE_0_1_2 : ∀ j : Int, tape_1 j = tape_2 j) (hE_0_1_3 : ∀ j : Int, tape_2 j = tape_3 j) (hE_0_1_4 : ∀ j : Int, tape_3 j = tape_4 j) (hE_0_1_5 : ∀ j : Int, tape_4 j = tape_5 j) (hK_0_1 : ∀ j : Int, 0 ≤ j → j < 2000 → (-128) ≤ tape_0 j ∧ tape_0 j ≤ 127) (kz_0_10 : 0 ≤ limit_0 ∧ limit_0 ≤ 2000) (kz_0_11 : 0 ≤ pos_0 ∧ pos_0 ≤ 2000) (kz_0_12 : 0 ≤ kind_0 ∧ kind_0 ≤ 4) (kz_0_13 : 0 ≤ place_0 ∧ place_0 ≤ 2000) (kz_0_14 : (-49) ≤ value_0 ∧ value_0 ≤ 1048575) (kz_0_15 : 0 ≤ from_0 ∧ from_0 ≤ 2000) : ((kind_0 = 1) → (pos_0 ≤ (from_0 + 8))) ∧ ((kind_0 = 0) ∨ ((from_0 + 1) ≤ pos_0)) := by
  subst fe_0_10_1
  subst fe_0_11_1
  subst fe_0_13_1
  subst fe_0_14_1
  subst fe_0_15_1
  subst fe_0_10_2
  subst fe_0_11_2
  subst fe_0_12_2
  subst fe_0_13_2
  subst fe_0_15_2
  subst fe_0_10_3
  subst fe_0_11_3
  subst fe_0_13_3
  subst fe_0_14_3
  subst fe_0_15_3
  subst fe_0_10_4
  subst fe_0_11_4
  subst fe_0_12_4
  subst fe_0_13_4
  subst fe_0_14_4
  subst fe_0_10_5
  subst fe_0_11_5
  have e_hE_0_1_1 := funext hE_0_1_1; subst e_hE_0_1_1
  have e_hE_0_1_2 := funext hE_0_1_2; subst e_hE_0_1_2
  have e_hE_0_1_3 := funext hE_0_1_3; subst e_hE_0_1_3
  have e_hE_0_1_4 := funext hE_0_1_4; subst e_hE_0_1_4
  have e_hE_0_1_5 := funext hE_0_1_5; subst e_hE_0_1_5
  first | with_reducible assumption | ((try and_intros) <;> first | with_reducible assumption | (clear hE_0_1_1 hE_0_1_2 hE_0_1_3 hE_0_1_4 hE_0_1_5 hK_0_1 f5 f6 f12 f13 f17 f18 f22 f23; omega)) | ((first | have f5_b := f5 (by clear hE_0_1_1 hE_0_1_2 hE_0_1_3 hE_0_1_4 hE_0_1_5 hK_0_1 f5 f6 f12 f13 f17 f18 f22 f23; omega) | skip); (first | have f6_b := f6 (by clear hE_0_1_1 hE_0_1_2 hE_0_1_3 hE_0_1_4 hE_0_1_5 hK_0_1 f5 f6 f12 f13 f17 f18 f22 f23; omega) | skip); (first | have f12_b := f12 (by clear hE_0_1_1 hE_0_1_2 hE_0_1_3 hE_0_1_4 hE_0_1_5 hK_0_1 f5 f6 f12 f13 f17 f18 f22 f23; omega) | skip); (first | have f13_b := f13 (by clear hE_0_1_1 hE_0_1_2 hE_0_1_3 hE_0_1_4 hE_0_1_5 hK_0_1 f5 f6 f12 f13 f17 f18 f22 f23; omega) | skip); (first | have f17_b := f17 (by clear hE_0_1_1 hE_0_1_2 hE_0_1_3 hE_0_1_4 hE_0_1_5 hK_0_1 f5 f6 f12 f13 f17 f18 f22 f23; omega) | skip); (first | have f18_b := f18 (by clear hE_0_1_1 hE_0_1_2 hE_0_1_3 hE_0_1_4 hE_0_1_5 hK_0_1 f5 f6 f12 f13 f17 f18 f22 f23; omega) | skip); (first | have f22_b := f22 (by clear hE_0_1_1 hE_0_1_2 hE_0_1_3 hE_0_1_4 hE_0_1_5 hK_0_1 f5 f6 f12 f13 f17 f18 f22 f23; omega) | skip); (first | have f23_b := f23 (by clear hE_0_1_1 hE_0_1_2 hE_0_1_3 hE_0_1_4 hE_0_1_5 hK_0_1 f5 f6 f12 f13 f17 f18 f22 f23; omega) | skip); (first | have f5_d := f5 (by with_reducible assumption) | skip); (first | have f6_d := f6 (by with_reducible assumption) | skip); (first | have f12_d := f12 (by with_reducible assumption) | skip); (first | have f13_d := f13 (by with_reducible assumption) | skip); (first | have f17_d := f17 (by with_reducible assumption) | skip); (first | have f18_d := f18 (by with_reducible assumption) | skip); (first | have f22_d := f22 (by with_reducible assumption) | skip); (first | have f23_d := f23 (by with_reducible assumption) | skip); (try and_intros) <;> first | with_reducible assumption | (clear hE_0_1_1 hE_0_1_2 hE_0_1_3 hE_0_1_4 hE_0_1_5 hK_0_1 f5 f6 f12 f13 f17 f18 f22 f23; omega)) | omega
set_option maxHeartbeats 4000000 in
theorem vc_Mo_next_8_3 (x1 : Int) (x3 : Int) (x4 : Int) (x6 : Int) (kind_0 : Int) (value_0 : Int) (from_0 : Int) (place_0 : Int) (pos_0 : Int) (tape_0 : Int → Int) (limit_0 : Int) (tape_1 : Int → Int) (limit_1 : Int) (pos_1 : Int) (tape_2 : Int → Int) (limit_2 : Int) (pos_2 : Int) (tape_3 : Int → Int) (limit_3 : Int) (pos_3 : Int) (pos_4 : Int) (tape_4 : Int → Int) (limit_4 : Int) (pos_5 : Int) (tape_5 : Int → Int) (limit_5 : Int) (place_1 : Int) (value_1 : Int) (from_1 : Int) (kind_1 : Int) (kind_2 : Int) (place_2 : Int) (from_2 : Int) (place_3 : Int) (value_2 : Int) (value_3 : Int) (from_3 : Int) (kind_3 : Int) (kind_4 : Int) (place_4 : Int) (value_4 : Int) (k1 : 0 ≤ x1 ∧ x1 ≤ 2000) (k3 : 0 ≤ x3 ∧ x3 ≤ 2000) (k4 : (-1) ≤ x4 ∧ x4 ≤ (-1)) (k6 : 0 ≤ x6 ∧ x6 ≤ 0) (g0 : x6 = kind_0) (g1 : x4 = value_0) (g2 : x3 = from_0) (g3 : x3 = place_0) (g4 : x3 = pos_0) (f22 : ((x3 + 1) ≤ limit_3) → (x4 = (tape_3 (x3) % 256))) (f31 : ZX1 (limit_5) (pos_5) (tape_5) (x1)) (fe_0_10_1 : limit_0 = limit_1) (fe_0_11_1 : pos_0 = pos_1) (fe_0_13_1 : place_0 = place_1) (fe_0_14_1 : value_0 = value_1) (fe_0_15_1 : from_0 = from_1) (fe_0_10_2 : limit_1 = limit_2) (fe_0_11_2 : pos_1 = pos_2) (fe_0_12_2 : kind_1 = kind_2) (fe_0_13_2 : place_1 = place_2) (fe_0_15_2 : from_1 = from_2) (fe_0_10_3 : limit_2 = limit_3) (fe_0_11_3 : pos_2 = pos_3) (fe_0_13_3 : place_2 = place_3) (fe_0_14_3 : value_2 = value_3) (fe_0_15_3 : from_2 = from_3) (fe_0_10_4 : limit_3 = limit_4) (fe_0_11_4 : pos_3 = pos_4) (fe_0_12_4 : kind_3 = kind_4) (fe_0_13_4 : place_3 = place_4) (fe_0_14_4 : value_3 = value_4) (fe_0_10_5 : limit_4 = limit_5) (fe_0_11_5 : pos_4 = pos_5) (fe_0_13_5 : place_4 = x3) (hE_0_1_1 : ∀ j : Int, tape_0 j = tape_1 j) (hE_0_1_2 : ∀ j : Int, tape_1 j = tape_2 j) (hE_0_1_3 : ∀ j : Int, tape_2 j = tape_3 j) (hE_0_1_4 : ∀ j : Int, tape_3 j = tape_4 j) (hE_0_1_5 : ∀ j : Int, tape_4 j = tape_5 j) (kz_0_10 : 0 ≤ limit_0 ∧ limit_0 ≤ 2000) (kz_0_11 : 0 ≤ pos_0 ∧ pos_0 ≤ 2000) (kz_0_12 : 0 ≤ kind_0 ∧ kind_0 ≤ 4) (kz_0_13 : 0 ≤ place_0 ∧ place_0 ≤ 2000) (kz_0_14 : (-49) ≤ value_0 ∧ value_0 ≤ 1048575) (kz_0_15 : 0 ≤ from_0 ∧ from_0 ≤ 2000) : TKR (limit_0) (pos_0) (kind_0) (place_0) (value_0) (from_0) (tape_0) (x1) := by
  subst fe_0_10_1
  subst fe_0_11_1
  subst fe_0_13_1
  subst fe_0_14_1
  subst fe_0_15_1
  subst fe_0_10_2
  subst fe_0_11_2
  subst fe_0_12_2
  subst fe_0_13_2
  subst fe_0_15_2
  subst fe_0_10_3
  subst fe_0_11_3
  subst fe_0_13_3
  subst fe_0_14_3
  subst fe_0_15_3
  subst fe_0_10_4
  subst fe_0_11_4
  subst fe_0_12_4
  subst fe_0_13_4
  subst fe_0_14_4
  subst fe_0_10_5
  subst fe_0_11_5
  have e_hE_0_1_1 := funext hE_0_1_1; subst e_hE_0_1_1
  have e_hE_0_1_2 := funext hE_0_1_2; subst e_hE_0_1_2
  have e_hE_0_1_3 := funext hE_0_1_3; subst e_hE_0_1_3
  have e_hE_0_1_4 := funext hE_0_1_4; subst e_hE_0_1_4
  have e_hE_0_1_5 := funext hE_0_1_5; subst e_hE_0_1_5
  first | subst g0 | skip
  first | subst g1 | skip
  first | subst g2 | skip
  first | subst g3 | skip
  first | subst g4 | skip
  first
    | assumption
    | exact tkr_end ‹ZX1 _ _ _ _› (by omega) (by omega) (by omega) (by omega)
    | (have e := (‹ZXM _ _ _ _ _ _›).1.1.1; exact tkr_name ‹ZXM _ _ _ _ _ _› (by omega))
    | (have e := (‹ZXE _ _ _ _ _ _ _›).1.1.1; exact tkr_num ‹ZXE _ _ _ _ _ _ _› (by omega))
    | exact tkr_sign (by assumption) ‹ZXS1 _ _ _ _ _ _ _›.1 (by omega) (by omega) (Or.inl ⟨by omega, ‹ZXS1 _ _ _ _ _ _ _›.2⟩)
    | exact tkr_sign (by assumption) ‹ZXS _ _ _ _ _ _ _› (by omega) (by omega) (Or.inr ⟨by omega, by unfold ZSG; omega⟩)
set_option maxHeartbeats 4000000 in
theorem vc_Mo_next_8_4 (x3 : Int) (x4 : Int) (value_0 : Int) (from_0 : Int) (place_0 : Int) (pos_0 : Int) (tape_0 : Int → Int) (limit_0 : Int) (tape_1 : Int → Int) (limit_1 : Int) (pos_1 : Int) (tape_2 : Int → Int) (limit_2 : Int) (pos_2 : Int) (tape_3 : Int → Int) (limit_3 : Int) (pos_3 : Int) (pos_4 : Int) (tape_4 : Int → Int) (limit_4 : Int) (pos_5 : Int) (tape_5 : Int → Int) (limit_5 : Int) (place_1 : Int) (value_1 : Int) (from_1 : Int) (kind_1 : Int) (kind_2 : Int) (place_2 : Int) (from_2 : Int) (place_3 : Int) (value_2 : Int) (value_3 : Int) (from_3 : Int) (kind_3 : Int) (kind_4 : Int) (place_4 : Int) (value_4 : Int) (k3 : 0 ≤ x3 ∧ x3 ≤ 2000) (k4 : (-1) ≤ x4 ∧ x4 ≤ (-1)) (g2 : x3 = from_0) (g3 : x3 = place_0) (g4 : x3 = pos_0) (f5 : ((x3 + 1) ≤ limit_0) → (x4 = (tape_0 (x3) % 256))) (f6 : (limit_0 ≤ x3) → (x4 = (-1))) (f12 : ((x3 + 1) ≤ limit_1) → (x4 = (tape_1 (x3) % 256))) (f13 : (limit_1 ≤ x3) → (x4 = (-1))) (f17 : ((x3 + 1) ≤ limit_2) → (x4 = (tape_2 (x3) % 256))) (f18 : (limit_2 ≤ x3) → (x4 = (-1))) (f22 : ((x3 + 1) ≤ limit_3) → (x4 = (tape_3 (x3) % 256))) (f23 : (limit_3 ≤ x3) → (x4 = (-1))) (fe_0_10_1 : limit_0 = limit_1) (fe_0_11_1 : pos_0 = pos_1) (fe_0_13_1 : place_0 = place_1) (fe_0_14_1 : value_0 = value_1) (fe_0_15_1 : from_0 = from_1) (fe_0_10_2 : limit_1 = limit_2) (fe_0_11_2 : pos_1 = pos_2) (fe_0_12_2 : kind_1 = kind_2) (fe_0_13_2 : place_1 = place_2) (fe_0_15_2 : from_1 = from_2) (fe_0_10_3 : limit_2 = limit_3) (fe_0_11_3 : pos_2 = pos_3) (fe_0_13_3 : place_2 = place_3) (fe_0_14_3 : value_2 = value_3) (fe_0_15_3 : from_2 = from_3) (fe_0_10_4 : limit_3 = limit_4) (fe_0_11_4 : pos_3 = pos_4) (fe_0_12_4 : kind_3 = kind_4) (fe_0_13_4 : place_3 = place_4) (fe_0_14_4 : value_3 = value_4) (fe_0_10_5 : limit_4 = limit_5) (fe_0_11_5 : pos_4 = pos_5) (hE_0_1_1 : ∀ j : Int, tape_0 j = tape_1 j) (hE_0_1_2 : ∀ j : Int, tape_1 j = tape_2 j) (hE_0_1_3 : ∀ j : Int, tape_2 j = tape_3 j) (hE_0_1_4 : ∀ j : Int, tape_3 j = tape_4 j) (hE_0_1_5 : ∀ j : Int, tape_4 j = tape_5 j) (hK_0_1 : ∀ j : Int, 0 ≤ j → j < 2000 → (-128) ≤ tape_0 j ∧ tape_0 j ≤ 127) (kz_0_10 : 0 ≤ limit_0 ∧ limit_0 ≤ 2000) (kz_0_11 : 0 ≤ pos_0 ∧ pos_0 ≤ 2000) (kz_0_13 : 0 ≤ place_0 ∧ place_0 ≤ 2000) (kz_0_14 : (-49) ≤ value_0 ∧ value_0 ≤ 1048575) (kz_0_15 : 0 ≤ from_0 ∧ from_0 ≤ 2000) : 1 * from_0 + ((-1) * pos_0 + 0) ≤ 0 := by
  subst fe_0_10_1
  subst fe_0_11_1
  subst fe_0_13_1
  subst fe_0_14_1
  subst fe_0_15_1
  subst fe_0_10_2
  subst fe_0_11_2
  subst fe_0_12_2
  subst fe_0_13_2
  subst fe_0_15_2
  subst fe_0_10_3
  subst fe_0_11_3
  subst fe_0_13_3
  subst fe_0_14_3
  subst fe_0_15_3
  subst fe_0_10_4
  subst fe_0_11_4
  subst fe_0_12_4
  subst fe_0_13_4
  subst fe_0_14_4
  subst fe_0_10_5
  subst fe_0_11_5
  have e_hE_0_1_1 := funext hE_0_1_1; subst e_hE_0_1_1
  have e_hE_0_1_2 := funext hE_0_1_2; subst e_hE_0_1_2
  have e_hE_0_1_3 := funext hE_0_1_3; subst e_hE_0_1_3
  have e_hE_0_1_4 := funext hE_0_1_4; subst e_hE_0_1_4
  have e_hE_0_1_5 := funext hE_0_1_5; subst e_hE_0_1_5
  first | with_reducible assumption | ((try and_intros) <;> first | with_reducible assumption | (clear hE_0_1_1 hE_0_1_2 hE_0_1_3 hE_0_1_4 hE_0_1_5 hK_0_1 f5 f6 f12 f13 f17 f18 f22 f23; omega)) | ((first | have f5_b := f5 (by clear hE_0_1_1 hE_0_1_2 hE_0_1_3 hE_0_1_4 hE_0_1_5 hK_0_1 f5 f6 f12 f13 f17 f18 f22 f23; omega) | skip); (first | have f6_b := f6 (by clear hE_0_1_1 hE_0_1_2 hE_0_1_3 hE_0_1_4 hE_0_1_5 hK_0_1 f5 f6 f12 f13 f17 f18 f22 f23; omega) | skip); (first | have f12_b := f12 (by clear hE_0_1_1 hE_0_1_2 hE_0_1_3 hE_0_1_4 hE_0_1_5 hK_0_1 f5 f6 f12 f13 f17 f18 f22 f23; omega) | skip); (first | have f13_b := f13 (by clear hE_0_1_1 hE_0_1_2 hE_0_1_3 hE_0_1_4 hE_0_1_5 hK_0_1 f5 f6 f12 f13 f17 f18 f22 f23; omega) | skip); (first | have f17_b := f17 (by clear hE_0_1_1 hE_0_1_2 hE_0_1_3 hE_0_1_4 hE_0_1_5 hK_0_1 f5 f6 f12 f13 f17 f18 f22 f23; omega) | skip); (first | have f18_b := f18 (by clear hE_0_1_1 hE_0_1_2 hE_0_1_3 hE_0_1_4 hE_0_1_5 hK_0_1 f5 f6 f12 f13 f17 f18 f22 f23; omega) | skip); (first | have f22_b := f22 (by clear hE_0_1_1 hE_0_1_2 hE_0_1_3 hE_0_1_4 hE_0_1_5 hK_0_1 f5 f6 f12 f13 f17 f18 f22 f23; omega) | skip); (first | have f23_b := f23 (by clear hE_0_1_1 hE_0_1_2 hE_0_1_3 hE_0_1_4 hE_0_1_5 hK_0_1 f5 f6 f12 f13 f17 f18 f22 f23; omega) | skip); (first | have f5_d := f5 (by with_reducible assumption) | skip); (first | have f6_d := f6 (by with_reducible assumption) | skip); (first | have f12_d := f12 (by with_reducible assumption) | skip); (first | have f13_d := f13 (by with_reducible assumption) | skip); (first | have f17_d := f17 (by with_reducible assumption) | skip); (first | have f18_d := f18 (by with_reducible assumption) | skip); (first | have f22_d := f22 (by with_reducible assumption) | skip); (first | have f23_d := f23 (by with_reducible assumption) | skip); (try and_intros) <;> first | with_reducible assumption | (clear hE_0_1_1 hE_0_1_2 hE_0_1_3 hE_0_1_4 hE_0_1_5 hK_0_1 f5 f6 f12 f13 f17 f18 f22 f23; omega)) | omega
set_option maxHeartbeats 4000000 in
theorem vc_Mo_next_8_5 (x3 : Int) (x4 : Int) (x6 : Int) (kind_0 : Int) (value_0 : Int) (from_0 : Int) (place_0 : Int) (pos_0 : Int) (tape_0 : Int → Int) (limit_0 : Int) (tape_1 : Int → Int) (limit_1 : Int) (pos_1 : Int) (tape_2 : Int → Int) (limit_2 : Int) (pos_2 : Int) (tape_3 : Int → Int) (limit_3 : Int) (pos_3 : Int) (pos_4 : Int) (tape_4 : Int → Int) (limit_4 : Int) (pos_5 : Int) (tape_5 : Int → Int) (limit_5 : Int) (place_1 : Int) (value_1 : Int) (from_1 : Int) (kind_1 : Int) (kind_2 : Int) (place_2 : Int) (from_2 : Int) (place_3 : Int) (value_2 : Int) (value_3 : Int) (from_3 : Int) (kind_3 : Int) (kind_4 : Int) (place_4 : Int) (value_4 : Int) (k3 : 0 ≤ x3 ∧ x3 ≤ 2000) (k4 : (-1) ≤ x4 ∧ x4 ≤ (-1)) (k6 : 0 ≤ x6 ∧ x6 ≤ 0) (g0 : x6 = kind_0) (f5 : ((x3 + 1) ≤ limit_0) → (x4 = (tape_0 (x3) % 256))) (f6 : (limit_0 ≤ x3) → (x4 = (-1))) (f12 : ((x3 + 1) ≤ limit_1) → (x4 = (tape_1 (x3) % 256))) (f13 : (limit_1 ≤ x3) → (x4 = (-1))) (f17 : ((x3 + 1) ≤ limit_2) → (x4 = (tape_2 (x3) % 256))) (f18 : (limit_2 ≤ x3) → (x4 = (-1))) (f22 : ((x3 + 1) ≤ limit_3) → (x4 = (tape_3 (x3) % 256))) (f23 : (limit_3 ≤ x3) → (x4 = (-1))) (fe_0_10_1 : limit_0 = limit_1) (fe_0_11_1 : pos_0 = pos_1) (fe_0_13_1 : place_0 = place_1) (fe_0_14_1 : value_0 = value_1) (fe_0_15_1 : from_0 = from_1) (fe_0_10_2 : limit_1 = limit_2) (fe_0_11_2 : pos_1 = pos_2) (fe_0_12_2 : kind_1 = kind_2) (fe_0_13_2 : place_1 = place_2) (fe_0_15_2 : from_1 = from_2) (fe_0_10_3 : limit_2 = limit_3) (fe_0_11_3 : pos_2 = pos_3) (fe_0_13_3 : place_2 = place_3) (fe_0_14_3 : value_2 = value_3) (fe_0_15_3 : from_2 = from_3) (fe_0_10_4 : limit_3 = limit_4) (fe_0_11_4 : pos_3 = pos_4) (fe_0_12_4 : kind_3 = kind_4) (fe_0_13_4 : place_3 = place_4) (fe_0_14_4 : value_3 = value_4) (fe_0_10_5 : limit_4 = limit_5) (fe_0_11_5 : pos_4 = pos_5) (hE_0_1_1 : ∀ j : Int, tape_0 j = tape_1 j) (hE_0_1_2 : ∀ j : Int, tape_1 j = tape_2 j) (hE_0_1_3 : ∀ j : Int, tape_2 j = tape_3 j) (hE_0_1_4 : ∀ j : Int, tape_3 j = tape_4 j) (hE_0_1_5 : ∀ j : Int, tape_4 j = tape_5 j) (hK_0_1 : ∀ j : Int, 0 ≤ j → j < 2000 → (-128) ≤ tape_0 j ∧ tape_0 j ≤ 127) (kz_0_10 : 0 ≤ limit_0 ∧ limit_0 ≤ 2000) (kz_0_11 : 0 ≤ pos_0 ∧ pos_0 ≤ 2000) (kz_0_12 : 0 ≤ kind_0 ∧ kind_0 ≤ 4) (kz_0_13 : 0 ≤ place_0 ∧ place_0 ≤ 2000) (kz_0_14 : (-49) ≤ value_0 ∧ value_0 ≤ 1048575) (kz_0_15 : 0 ≤ from_0 ∧ from_0 ≤ 2000) : ((kind_0 = 1) → (pos_0 ≤ (from_0 + 8))) ∧ ((kind_0 = 0) ∨ ((from_0 + 1) ≤ pos_0)) := by
  subst fe_0_10_1
  subst fe_0_11_1
  subst fe_0_13_1
  subst fe_0_14_1
  subst fe_0_15_1
  subst fe_0_10_2
  subst fe_0_11_2
  subst fe_0_12_2
  subst fe_0_13_2
  subst fe_0_15_2
  subst fe_0_10_3
  subst fe_0_11_3
  subst fe_0_13_3
  subst fe_0_14_3
  subst fe_0_15_3
  subst fe_0_10_4
  subst fe_0_11_4
  subst fe_0_12_4
  subst fe_0_13_4
  subst fe_0_14_4
  subst fe_0_10_5
  subst fe_0_11_5
  have e_hE_0_1_1 := funext hE_0_1_1; subst e_hE_0_1_1
  have e_hE_0_1_2 := funext hE_0_1_2; subst e_hE_0_1_2
  have e_hE_0_1_3 := funext hE_0_1_3; subst e_hE_0_1_3
  have e_hE_0_1_4 := funext hE_0_1_4; subst e_hE_0_1_4
  have e_hE_0_1_5 := funext hE_0_1_5; subst e_hE_0_1_5
  first | with_reducible assumption | ((try and_intros) <;> first | with_reducible assumption | (clear hE_0_1_1 hE_0_1_2 hE_0_1_3 hE_0_1_4 hE_0_1_5 hK_0_1 f5 f6 f12 f13 f17 f18 f22 f23; omega)) | ((first | have f5_b := f5 (by clear hE_0_1_1 hE_0_1_2 hE_0_1_3 hE_0_1_4 hE_0_1_5 hK_0_1 f5 f6 f12 f13 f17 f18 f22 f23; omega) | skip); (first | have f6_b := f6 (by clear hE_0_1_1 hE_0_1_2 hE_0_1_3 hE_0_1_4 hE_0_1_5 hK_0_1 f5 f6 f12 f13 f17 f18 f22 f23; omega) | skip); (first | have f12_b := f12 (by clear hE_0_1_1 hE_0_1_2 hE_0_1_3 hE_0_1_4 hE_0_1_5 hK_0_1 f5 f6 f12 f13 f17 f18 f22 f23; omega) | skip); (first | have f13_b := f13 (by clear hE_0_1_1 hE_0_1_2 hE_0_1_3 hE_0_1_4 hE_0_1_5 hK_0_1 f5 f6 f12 f13 f17 f18 f22 f23; omega) | skip); (first | have f17_b := f17 (by clear hE_0_1_1 hE_0_1_2 hE_0_1_3 hE_0_1_4 hE_0_1_5 hK_0_1 f5 f6 f12 f13 f17 f18 f22 f23; omega) | skip); (first | have f18_b := f18 (by clear hE_0_1_1 hE_0_1_2 hE_0_1_3 hE_0_1_4 hE_0_1_5 hK_0_1 f5 f6 f12 f13 f17 f18 f22 f23; omega) | skip); (first | have f22_b := f22 (by clear hE_0_1_1 hE_0_1_2 hE_0_1_3 hE_0_1_4 hE_0_1_5 hK_0_1 f5 f6 f12 f13 f17 f18 f22 f23; omega) | skip); (first | have f23_b := f23 (by clear hE_0_1_1 hE_0_1_2 hE_0_1_3 hE_0_1_4 hE_0_1_5 hK_0_1 f5 f6 f12 f13 f17 f18 f22 f23; omega) | skip); (first | have f5_d := f5 (by with_reducible assumption) | skip); (first | have f6_d := f6 (by with_reducible assumption) | skip); (first | have f12_d := f12 (by with_reducible assumption) | skip); (first | have f13_d := f13 (by with_reducible assumption) | skip); (first | have f17_d := f17 (by with_reducible assumption) | skip); (first | have f18_d := f18 (by with_reducible assumption) | skip); (first | have f22_d := f22 (by with_reducible assumption) | skip); (first | have f23_d := f23 (by with_reducible assumption) | skip); (try and_intros) <;> first | with_reducible assumption | (clear hE_0_1_1 hE_0_1_2 hE_0_1_3 hE_0_1_4 hE_0_1_5 hK_0_1 f5 f6 f12 f13 f17 f18 f22 f23; omega)) | omega
set_option maxHeartbeats 4000000 in
theorem vc_Mo_next_8_6 (x1 : Int) (x3 : Int) (x4 : Int) (value_0 : Int) (from_0 : Int) (place_0 : Int) (pos_0 : Int) (tape_0 : Int → Int) (limit_0 : Int) (tape_1 : Int → Int) (limit_1 : Int) (pos_1 : Int) (tape_2 : Int → Int) (limit_2 : Int) (pos_2 : Int) (tape_3 : Int → Int) (limit_3 : Int) (pos_3 : Int) (pos_4 : Int) (tape_4 : Int → Int) (limit_4 : Int) (pos_5 : Int) (tape_5 : Int → Int) (limit_5 : Int) (place_1 : Int) (value_1 : Int) (from_1 : Int) (kind_1 : Int) (kind_2 : Int) (place_2 : Int) (from_2 : Int) (place_3 : Int) (value_2 : Int) (value_3 : Int) (from_3 : Int) (kind_3 : Int) (kind_4 : Int) (place_4 : Int) (value_4 : Int) (k1 : 0 ≤ x1 ∧ x1 ≤ 2000) (k3 : 0 ≤ x3 ∧ x3 ≤ 2000) (k4 : (-1) ≤ x4 ∧ x4 ≤ (-1)) (g2 : x3 = from_0) (g3 : x3 = place_0) (g4 : x3 = pos_0) (f5 : ((x3 + 1) ≤ limit_0) → (x4 = (tape_0 (x3) % 256))) (f6 : (limit_0 ≤ x3) → (x4 = (-1))) (f7 : 1 * x1 + ((-1) * pos_0 + 0) ≤ 0) (f12 : ((x3 + 1) ≤ limit_1) → (x4 = (tape_1 (x3) % 256))) (f13 : (limit_1 ≤ x3) → (x4 = (-1))) (f17 : ((x3 + 1) ≤ limit_2) → (x4 = (tape_2 (x3) % 256))) (f18 : (limit_2 ≤ x3) → (x4 = (-1))) (f22 : ((x3 + 1) ≤ limit_3) → (x4 = (tape_3 (x3) % 256))) (f23 : (limit_3 ≤ x3) → (x4 = (-1))) (fe_0_10_1 : limit_0 = limit_1) (fe_0_11_1 : pos_0 = pos_1) (fe_0_13_1 : place_0 = place_1) (fe_0_14_1 : value_0 = value_1) (fe_0_15_1 : from_0 = from_1) (fe_0_10_2 : limit_1 = limit_2) (fe_0_11_2 : pos_1 = pos_2) (fe_0_12_2 : kind_1 = kind_2) (fe_0_13_2 : place_1 = place_2) (fe_0_15_2 : from_1 = from_2) (fe_0_10_3 : limit_2 = limit_3) (fe_0_11_3 : pos_2 = pos_3) (fe_0_13_3 : place_2 = place_3) (fe_0_14_3 : value_2 = value_3) (fe_0_15_3 : from_2 = from_3) (fe_0_10_4 : limit_3 = limit_4) (fe_0_11_4 : pos_3 = pos_4) (fe_0_12_4 : kind_3 = kind_4) (fe_0_13_4 : place_3 = place_4) (fe_0_14_4 : value_3 = value_4) (fe_0_10_5 : limit_4 = limit_5) (fe_0_11_5 : pos_4 = pos_5) (hE_0_1_1 : ∀ j : Int, tape_0 j = tape_1 j) (hE_0_1_2 : ∀ j : Int, tape_1 j = tape_2 j) (hE_0_1_3 : ∀ j : Int, tape_2 j = tape_3 j) (hE_0_1_4 : ∀ j : Int, tape_3 j = tape_4 j) (hE_0_1_5 : ∀ j : Int, tape_4 j = tape_5 j) (hK_0_1 : ∀ j : Int, 0 ≤ j → j < 2000 → (-128) ≤ tape_0 j ∧ tape_0 j ≤ 127) (kz_0_10 : 0 ≤ limit_0 ∧ limit_0 ≤ 2000) (kz_0_11 : 0 ≤ pos_0 ∧ pos_0 ≤ 2000) (kz_0_13 : 0 ≤ place_0 ∧ place_0 ≤ 2000) (kz_0_14 : (-49) ≤ value_0 ∧ value_0 ≤ 1048575) (kz_0_15 : 0 ≤ from_0 ∧ from_0 ≤ 2000) : 1 * x1 + ((-1) * from_0 + 0) ≤ 0 := by
  subst fe_0_10_1
  subst fe_0_11_1
  subst fe_0_13_1
  subst fe_0_14_1
  subst fe_0_15_1
  subst fe_0_10_2
  subst fe_0_11_2
  subst fe_0_12_2
  subst fe_0_13_2
  subst fe_0_15_2
  subst fe_0_10_3
  subst fe_0_11_3
  subst fe_0_13_3
  subst fe_0_14_3
  subst fe_0_15_3
  subst fe_0_10_4
  subst fe_0_11_4
  subst fe_0_12_4
  subst fe_0_13_4
  subst fe_0_14_4
  subst fe_0_10_5
  subst fe_0_11_5
  have e_hE_0_1_1 := funext hE_0_1_1; subst e_hE_0_1_1
  have e_hE_0_1_2 := funext hE_0_1_2; subst e_hE_0_1_2
  have e_hE_0_1_3 := funext hE_0_1_3; subst e_hE_0_1_3
  have e_hE_0_1_4 := funext hE_0_1_4; subst e_hE_0_1_4
  have e_hE_0_1_5 := funext hE_0_1_5; subst e_hE_0_1_5
  first | with_reducible assumption | ((try and_intros) <;> first | with_reducible assumption | (clear hE_0_1_1 hE_0_1_2 hE_0_1_3 hE_0_1_4 hE_0_1_5 hK_0_1 f5 f6 f12 f13 f17 f18 f22 f23; omega)) | ((first | have f5_b := f5 (by clear hE_0_1_1 hE_0_1_2 hE_0_1_3 hE_0_1_4 hE_0_1_5 hK_0_1 f5 f6 f12 f13 f17 f18 f22 f23; omega) | skip); (first | have f6_b := f6 (by clear hE_0_1_1 hE_0_1_2 hE_0_1_3 hE_0_1_4 hE_0_1_5 hK_0_1 f5 f6 f12 f13 f17 f18 f22 f23; omega) | skip); (first | have f12_b := f12 (by clear hE_0_1_1 hE_0_1_2 hE_0_1_3 hE_0_1_4 hE_0_1_5 hK_0_1 f5 f6 f12 f13 f17 f18 f22 f23; omega) | skip); (first | have f13_b := f13 (by clear hE_0_1_1 hE_0_1_2 hE_0_1_3 hE_0_1_4 hE_0_1_5 hK_0_1 f5 f6 f12 f13 f17 f18 f22 f23; omega) | skip); (first | have f17_b := f17 (by clear hE_0_1_1 hE_0_1_2 hE_0_1_3 hE_0_1_4 hE_0_1_5 hK_0_1 f5 f6 f12 f13 f17 f18 f22 f23; omega) | skip); (first | have f18_b := f18 (by clear hE_0_1_1 hE_0_1_2 hE_0_1_3 hE_0_1_4 hE_0_1_5 hK_0_1 f5 f6 f12 f13 f17 f18 f22 f23; omega) | skip); (first | have f22_b := f22 (by clear hE_0_1_1 hE_0_1_2 hE_0_1_3 hE_0_1_4 hE_0_1_5 hK_0_1 f5 f6 f12 f13 f17 f18 f22 f23; omega) | skip); (first | have f23_b := f23 (by clear hE_0_1_1 hE_0_1_2 hE_0_1_3 hE_0_1_4 hE_0_1_5 hK_0_1 f5 f6 f12 f13 f17 f18 f22 f23; omega) | skip); (first | have f5_d := f5 (by with_reducible assumption) | skip); (first | have f6_d := f6 (by with_reducible assumption) | skip); (first | have f12_d := f12 (by with_reducible assumption) | skip); (first | have f13_d := f13 (by with_reducible assumption) | skip); (first | have f17_d := f17 (by with_reducible assumption) | skip); (first | have f18_d := f18 (by with_reducible assumption) | skip); (first | have f22_d := f22 (by with_reducible assumption) | skip); (first | have f23_d := f23 (by with_reducible assumption) | skip); (try and_intros) <;> first | with_reducible assumption | (clear hE_0_1_1 hE_0_1_2 hE_0_1_3 hE_0_1_4 hE_0_1_5 hK_0_1 f5 f6 f12 f13 f17 f18 f22 f23; omega)) | omega
set_option maxHeartbeats 4000000 in
theorem vc_Mo_next_8_7 (x1 : Int) (x3 : Int) (x4 : Int) (x6 : Int) (kind_0 : Int) (value_0 : Int) (from_0 : Int) (place_0 : Int) (pos_0 : Int) (tape_0 : Int → Int) (limit_0 : Int) (tape_1 : Int → Int) (limit_1 : Int) (pos_1 : Int) (tape_2 : Int → Int) (limit_2 : Int) (pos_2 : Int) (tape_3 : Int → Int) (limit_3 : Int) (pos_3 : Int) (pos_4 : Int) (tape_4 : Int → Int) (limit_4 : Int) (pos_5 : Int) (tape_5 : Int → Int) (limit_5 : Int) (place_1 : Int) (value_1 : Int) (from_1 : Int) (kind_1 : Int) (kind_2 : Int) (place_2 : Int) (from_2 : Int) (place_3 : Int) (value_2 : Int) (value_3 : Int) (from_3 : Int) (kind_3 : Int) (kind_4 : Int) (place_4 : Int) (value_4 : Int) (k1 : 0 ≤ x1 ∧ x1 ≤ 2000) (k3 : 0 ≤ x3 ∧ x3 ≤ 2000) (k4 : (-1) ≤ x4 ∧ x4 ≤ (-1)) (k6 : 0 ≤ x6 ∧ x6 ≤ 0) (g0 : x6 = kind_0) (g1 : x4 = value_0) (g2 : x3 = from_0) (g3 : x3 = place_0) (g4 : x3 = pos_0) (f22 : ((x3 + 1) ≤ limit_3) → (x4 = (tape_3 (x3) % 256))) (f31 : ZX1 (limit_5) (pos_5) (tape_5) (x1)) (fe_0_10_1 : limit_0 = limit_1) (fe_0_11_1 : pos_0 = pos_1) (fe_0_13_1 : place_0 = place_1) (fe_0_14_1 : value_0 = value_1) (fe_0_15_1 : from_0 = from_1) (fe_0_10_2 : limit_1 = limit_2) (fe_0_11_2 : pos_1 = pos_2) (fe_0_12_2 : kind_1 = kind_2) (fe_0_13_2 : place_1 = place_2) (fe_0_15_2 : from_1 = from_2) (fe_0_10_3 : limit_2 = limit_3) (fe_0_11_3 : pos_2 = pos_3) (fe_0_13_3 : place_2 = place_3) (fe_0_14_3 : value_2 = value_3) (fe_0_15_3 : from_2 = from_3) (fe_0_10_4 : limit_3 = limit_4) (fe_0_11_4 : pos_3 = pos_4) (fe_0_12_4 : kind_3 = kind_4) (fe_0_13_4 : place_3 = place_4) (fe_0_14_4 : value_3 = value_4) (fe_0_10_5 : limit_4 = limit_5) (fe_0_11_5 : pos_4 = pos_5) (fe_0_13_5 : place_4 = x3) (hE_0_1_1 : ∀ j : Int, tape_0 j = tape_1 j) (hE_0_1_2 : ∀ j : Int, tape_1 j = tape_2 j) (hE_0_1_3 : ∀ j : Int, tape_2 j = tape_3 j) (hE_0_1_4 : ∀ j : Int, tape_3 j = tape_4 j) (hE_0_1_5 : ∀ j : Int, tape_4 j = tape_5 j) (kz_0_10 : 0 ≤ limit_0 ∧ limit_0 ≤ 2000) (kz_0_11 : 0 ≤ pos_0 ∧ pos_0 ≤ 2000) (kz_0_12 : 0 ≤ kind_0 ∧ kind_0 ≤ 4) (kz_0_13 : 0 ≤ place_0 ∧ place_0 ≤ 2000) (kz_0_14 : (-49) ≤ value_0 ∧ value_0 ≤ 1048575) (kz_0_15 : 0 ≤ from_0 ∧ from_0 ≤ 2000) : TKR (limit_0) (pos_0) (kind_0) (place_0) (value_0) (from_0) (tape_0) (x1) := by
  subst fe_0_10_1
  subst fe_0_11_1
  subst fe_0_13_1
  subst fe_0_14_1
  subst fe_0_15_1
  subst fe_0_10_2
  subst fe_0_11_2
  subst fe_0_12_2
  subst fe_0_13_2
  subst fe_0_15_2
  subst fe_0_10_3
  subst fe_0_11_3
  subst fe_0_13_3
  subst fe_0_14_3
  subst fe_0_15_3
  subst fe_0_10_4
  subst fe_0_11_4
  subst fe_0_12_4
  subst fe_0_13_4
  subst fe_0_14_4
  subst fe_0_10_5
  subst fe_0_11_5
  have e_hE_0_1_1 := funext hE_0_1_1; subst e_hE_0_1_1
  have e_hE_0_1_2 := funext hE_0_1_2; subst e_hE_0_1_2
  have e_hE_0_1_3 := funext hE_0_1_3; subst e_hE_0_1_3
  have e_hE_0_1_4 := funext hE_0_1_4; subst e_hE_0_1_4
  have e_hE_0_1_5 := funext hE_0_1_5; subst e_hE_0_1_5
  first | subst g0 | skip
  first | subst g1 | skip
  first | subst g2 | skip
  first | subst g3 | skip
  first | subst g4 | skip
  first
    | assumption
    | exact tkr_end ‹ZX1 _ _ _ _› (by omega) (by omega) (by omega) (by omega)
    | (have e := (‹ZXM _ _ _ _ _ _›).1.1.1; exact tkr_name ‹ZXM _ _ _ _ _ _› (by omega))
    | (have e := (‹ZXE _ _ _ _ _ _ _›).1.1.1; exact tkr_num ‹ZXE _ _ _ _ _ _ _› (by omega))
    | exact tkr_sign (by assumption) ‹ZXS1 _ _ _ _ _ _ _›.1 (by omega) (by omega) (Or.inl ⟨by omega, ‹ZXS1 _ _ _ _ _ _ _›.2⟩)
    | exact tkr_sign (by assumption) ‹ZXS _ _ _ _ _ _ _› (by omega) (by omega) (Or.inr ⟨by omega, by unfold ZSG; omega⟩)
def o_Mo_next_8 : or_T := (354, 7, [(0, (2, 0, 0, [165])), (1, (0, 0, 2000, [])), (3, (0, 0, 2000, [])), (4, (0, -1, -1, [])), (6, (0, 0, 0, []))], [(9, [6, 2], [12]), (9, [4, 2], [14]), (9, [3, 2], [15]), (9, [3, 2], [13]), (9, [3, 2], [11]), (20, [3, 2, 4], [50, 1, 1, 1010, 1001, 4, 11, 0, 6, 4, 2, 1, 0, 0, 1, 2, 1, 10, 1, 2, 1, 2, 9, 5, 3, 1, 1, 1, 0, 0, 256]), (20, [2, 3, 4], [50, 1, 0, 10, 4, 7, 0, 3, 2, 0, 10, 1, 1, 1, 2, 1, 2, 0, -1]), (20, [1, 2], [30, 0, 1, 0, 0, -1, 1, 11]), (24, [0, 2], []), (101, [2, 6], [12]), (20, [3, 2, 4], [50, 1, 1, 1010, 1001, 4, 11, 0, 6, 4, 2, 1, 0, 0, 1, 2, 1, 10, 1, 2, 1, 2, 9, 5, 3, 1, 1, 1, 0, 0, 256]), (20, [2, 3, 4], [50, 1, 0, 10, 4, 7, 0, 3, 2, 0, 10, 1, 1, 1, 2, 1, 2, 0, -1]), (101, [2, 4], [14]), (20, [3, 2, 4], [50, 1, 1, 1010, 1001, 4, 11, 0, 6, 4, 2, 1, 0, 0, 1, 2, 1, 10, 1, 2, 1, 2, 9, 5, 3, 1, 1, 1, 0, 0, 256]), (20, [2, 3, 4], [50, 1, 0, 10, 4, 7, 0, 3, 2, 0, 10, 1, 1, 1, 2, 1, 2, 0, -1]), (101, [2, 5], [12]), (20, [3, 2, 4], [50, 1, 1, 1010, 1001, 4, 11, 0, 6, 4, 2, 1, 0, 0, 1, 2, 1, 10, 1, 2, 1, 2, 9, 5, 3, 1, 1, 1, 0, 0, 256]), (20, [2, 3, 4], [50, 1, 0, 10, 4, 7, 0, 3, 2, 0, 10, 1, 1, 1, 2, 1, 2, 0, -1]), (101, [2, 3], [15]), (101, [2, 3], [13]), (20, [2, 1], [60, 2, 1, 950, 10, 11, 1])], [], [], [(20, [1, 2], [30, 0, 1, 0, 0, -1, 1, 15]), (20, [2, 2], [30, 0, 1, 1, 15, -1, 1, 11]), (20, [2], [50, 3, 0, 12, 11, 15, 2, 21, 4, 7, 1, 3, 2, 0, 12, 0, 1, 0, 3, 2, 0, 11, 4, 3, 2, 0, 15, 0, 8, 3, 7, 1, 3, 2, 0, 12, 0, 0, 0, 7, 4, 3, 2, 0, 15, 0, 1, 2, 0, 11]), (20, [2, 1], [60, 6, 1, 948, 10, 11, 12, 13, 14, 15, 1]), (20, [0, 0], [30, 0, 1, 1, 15, -1, 1, 11]), (20, [0], [50, 3, 0, 12, 11, 15, 2, 21, 4, 7, 1, 3, 2, 0, 12, 0, 1, 0, 3, 2, 0, 11, 4, 3, 2, 0, 15, 0, 8, 3, 7, 1, 3, 2, 0, 12, 0, 0, 0, 7, 4, 3, 2, 0, 15, 0, 1, 2, 0, 11]), (20, [1, 0], [30, 0, 1, 0, 0, -1, 1, 15]), (20, [0, 1], [60, 6, 1, 948, 10, 11, 12, 13, 14, 15, 1])], [], [])
theorem oo_Mo_next_8 {kA : Nat → ClassId} : or_ok PRD kA GG o_Mo_next_8 := by
  refine or_mk fun A ta ws vs hD hth hl => ?_
  intro t0 r0 t1 k1 t3 k3 t4 k4 t6 k6 f0 f1 f2 f3 f4 f5 f6 f7 f9 ta1 w1 le1 s1 f12 f13 ta2 w2 le2 s2 f17 f18 ta3 w3 le3 s3 f22 f23 ta4 w4 le4 s4 ta5 w5 le5 s5 f31
  replace f0 := shm_103 f0
  replace f1 := shm_115 f1
  replace f2 := shm_177 f2
  replace f3 := shm_361 f3
  replace f4 := shm_116 f4
  replace f5 := shm_541 f5
  replace f6 := shm_542 f6
  replace f7 := shm_1431 f7
  replace f9 := shm_5 f9
  have s1 : (∀ b j, w_el ws b j = w_el w1 b j) ∧ ∀ b j, w_fd ws b j = if b = v_ad (n_v vs 2) ∧ j = 12 then n_v vs 6 else w_fd w1 b j := s1.2
  replace f12 := shm_541 f12
  replace f13 := shm_542 f13
  have s2 : (∀ b j, w_el w1 b j = w_el w2 b j) ∧ ∀ b j, w_fd w1 b j = if b = v_ad (n_v vs 2) ∧ j = 14 then n_v vs 4 else w_fd w2 b j := s2.2
  replace f17 := shm_541 f17
  replace f18 := shm_542 f18
  have s3 : (∀ b j, w_el w2 b j = w_el w3 b j) ∧ ∀ b j, w_fd w2 b j = if b = v_ad (n_v vs 2) ∧ j = 12 then n_v vs 5 else w_fd w3 b j := s3.2
  replace f22 := shm_541 f22
  replace f23 := shm_542 f23
  have s4 : (∀ b j, w_el w3 b j = w_el w4 b j) ∧ ∀ b j, w_fd w3 b j = if b = v_ad (n_v vs 2) ∧ j = 15 then n_v vs 3 else w_fd w4 b j := s4.2
  have s5 : (∀ b j, w_el w4 b j = w_el w5 b j) ∧ ∀ b j, w_fd w4 b j = if b = v_ad (n_v vs 2) ∧ j = 13 then n_v vs 3 else w_fd w5 b j := s5.2
  replace f31 := shm_1435 f31
  have q2 : n_v vs 2 = n_v vs 0 := f9.symm
  simp only [q2] at f0 f1 f2 f3 f4 f5 f6 f7
  rw [q2] at s1
  simp only [q2] at f12 f13
  rw [q2] at s2
  simp only [q2] at f17 f18
  rw [q2] at s3
  simp only [q2] at f22 f23
  rw [q2] at s4
  rw [q2] at s5
  simp only [q2] at f31
  have ar_0_1_1 : w_ar w1 (n_v vs 0) 1 = w_ar ws (n_v vs 0) 1 := by show v_ad (w_fd w1 _ _) = v_ad (w_fd ws _ _); rw [s1.2, if_neg (fun e => absurd e.2 (by decide))]
  have ar_0_1_2 : w_ar w2 (n_v vs 0) 1 = w_ar ws (n_v vs 0) 1 := by rw [← ar_0_1_1]; show v_ad (w_fd w2 _ _) = v_ad (w_fd w1 _ _); rw [s2.2, if_neg (fun e => absurd e.2 (by decide))]
  have ar_0_1_3 : w_ar w3 (n_v vs 0) 1 = w_ar ws (n_v vs 0) 1 := by rw [← ar_0_1_2]; show v_ad (w_fd w3 _ _) = v_ad (w_fd w2 _ _); rw [s3.2, if_neg (fun e => absurd e.2 (by decide))]
  have ar_0_1_4 : w_ar w4 (n_v vs 0) 1 = w_ar ws (n_v vs 0) 1 := by rw [← ar_0_1_3]; show v_ad (w_fd w4 _ _) = v_ad (w_fd w3 _ _); rw [s4.2, if_neg (fun e => absurd e.2 (by decide))]
  have ar_0_1_5 : w_ar w5 (n_v vs 0) 1 = w_ar ws (n_v vs 0) 1 := by rw [← ar_0_1_4]; show v_ad (w_fd w5 _ _) = v_ad (w_fd w4 _ _); rw [s5.2, if_neg (fun e => absurd e.2 (by decide))]
  have cr_0_1 := fdq_39 hD hth r0
  have g0 : v_iv (n_v vs 6) = w_fi ws (n_v vs 0) 12 := congrArg v_iv f0
  have g1 : v_iv (n_v vs 4) = w_fi ws (n_v vs 0) 14 := congrArg v_iv f1
  have g2 : v_iv (n_v vs 3) = w_fi ws (n_v vs 0) 15 := congrArg v_iv f2
  have g3 : v_iv (n_v vs 3) = w_fi ws (n_v vs 0) 13 := congrArg v_iv f3
  have g4 : v_iv (n_v vs 3) = w_fi ws (n_v vs 0) 11 := congrArg v_iv f4
  simp only [ar_0_1_1, ar_0_1_2, ar_0_1_3, ar_0_1_4, ar_0_1_5] at f12 f17 f22 f31
  have fe_0_10_1 : w_fi ws (n_v vs 0) 10 = w_fi w1 (n_v vs 0) 10 := by show v_iv (w_fd _ _ _) = v_iv (w_fd _ _ _); rw [s1.2, if_neg (fun e => absurd e.2 (by decide))]
  have fe_0_11_1 : w_fi ws (n_v vs 0) 11 = w_fi w1 (n_v vs 0) 11 := by show v_iv (w_fd _ _ _) = v_iv (w_fd _ _ _); rw [s1.2, if_neg (fun e => absurd e.2 (by decide))]
  have fe_0_13_1 : w_fi ws (n_v vs 0) 13 = w_fi w1 (n_v vs 0) 13 := by show v_iv (w_fd _ _ _) = v_iv (w_fd _ _ _); rw [s1.2, if_neg (fun e => absurd e.2 (by decide))]
  have fe_0_14_1 : w_fi ws (n_v vs 0) 14 = w_fi w1 (n_v vs 0) 14 := by show v_iv (w_fd _ _ _) = v_iv (w_fd _ _ _); rw [s1.2, if_neg (fun e => absurd e.2 (by decide))]
  have fe_0_15_1 : w_fi ws (n_v vs 0) 15 = w_fi w1 (n_v vs 0) 15 := by show v_iv (w_fd _ _ _) = v_iv (w_fd _ _ _); rw [s1.2, if_neg (fun e => absurd e.2 (by decide))]
  have fe_0_10_2 : w_fi w1 (n_v vs 0) 10 = w_fi w2 (n_v vs 0) 10 := by show v_iv (w_fd _ _ _) = v_iv (w_fd _ _ _); rw [s2.2, if_neg (fun e => absurd e.2 (by decide))]
  have fe_0_11_2 : w_fi w1 (n_v vs 0) 11 = w_fi w2 (n_v vs 0) 11 := by show v_iv (w_fd _ _ _) = v_iv (w_fd _ _ _); rw [s2.2, if_neg (fun e => absurd e.2 (by decide))]
  have fe_0_12_2 : w_fi w1 (n_v vs 0) 12 = w_fi w2 (n_v vs 0) 12 := by show v_iv (w_fd _ _ _) = v_iv (w_fd _ _ _); rw [s2.2, if_neg (fun e => absurd e.2 (by decide))]
  have fe_0_13_2 : w_fi w1 (n_v vs 0) 13 = w_fi w2 (n_v vs 0) 13 := by show v_iv (w_fd _ _ _) = v_iv (w_fd _ _ _); rw [s2.2, if_neg (fun e => absurd e.2 (by decide))]
  have fe_0_15_2 : w_fi w1 (n_v vs 0) 15 = w_fi w2 (n_v vs 0) 15 := by show v_iv (w_fd _ _ _) = v_iv (w_fd _ _ _); rw [s2.2, if_neg (fun e => absurd e.2 (by decide))]
  have fe_0_10_3 : w_fi w2 (n_v vs 0) 10 = w_fi w3 (n_v vs 0) 10 := by show v_iv (w_fd _ _ _) = v_iv (w_fd _ _ _); rw [s3.2, if_neg (fun e => absurd e.2 (by decide))]
  have fe_0_11_3 : w_fi w2 (n_v vs 0) 11 = w_fi w3 (n_v vs 0) 11 := by show v_iv (w_fd _ _ _) = v_iv (w_fd _ _ _); rw [s3.2, if_neg (fun e => absurd e.2 (by decide))]
  have fe_0_13_3 : w_fi w2 (n_v vs 0) 13 = w_fi w3 (n_v vs 0) 13 := by show v_iv (w_fd _ _ _) = v_iv (w_fd _ _ _); rw [s3.2, if_neg (fun e => absurd e.2 (by decide))]
  have fe_0_14_3 : w_fi w2 (n_v vs 0) 14 = w_fi w3 (n_v vs 0) 14 := by show v_iv (w_fd _ _ _) = v_iv (w_fd _ _ _); rw [s3.2, if_neg (fun e => absurd e.2 (by decide))]
  have fe_0_15_3 : w_fi w2 (n_v vs 0) 15 = w_fi w3 (n_v vs 0) 15 := by show v_iv (w_fd _ _ _) = v_iv (w_fd _ _ _); rw [s3.2, if_neg (fun e => absurd e.2 (by decide))]
  have fe_0_10_4 : w_fi w3 (n_v vs 0) 10 = w_fi w4 (n_v vs 0) 10 := by show v_iv (w_fd _ _ _) = v_iv (w_fd _ _ _); rw [s4.2, if_neg (fun e => absurd e.2 (by decide))]
  have fe_0_11_4 : w_fi w3 (n_v vs 0) 11 = w_fi w4 (n_v vs 0) 11 := by show v_iv (w_fd _ _ _) = v_iv (w_fd _ _ _); rw [s4.2, if_neg (fun e => absurd e.2 (by decide))]
  have fe_0_12_4 : w_fi w3 (n_v vs 0) 12 = w_fi w4 (n_v vs 0) 12 := by show v_iv (w_fd _ _ _) = v_iv (w_fd _ _ _); rw [s4.2, if_neg (fun e => absurd e.2 (by decide))]
  have fe_0_13_4 : w_fi w3 (n_v vs 0) 13 = w_fi w4 (n_v vs 0) 13 := by show v_iv (w_fd _ _ _) = v_iv (w_fd _ _ _); rw [s4.2, if_neg (fun e => absurd e.2 (by decide))]
  have fe_0_14_4 : w_fi w3 (n_v vs 0) 14 = w_fi w4 (n_v vs 0) 14 := by show v_iv (w_fd _ _ _) = v_iv (w_fd _ _ _); rw [s4.2, if_neg (fun e => absurd e.2 (by decide))]
  have fe_0_10_5 : w_fi w4 (n_v vs 0) 10 = w_fi w5 (n_v vs 0) 10 := by show v_iv (w_fd _ _ _) = v_iv (w_fd _ _ _); rw [s5.2, if_neg (fun e => absurd e.2 (by decide))]
  have fe_0_11_5 : w_fi w4 (n_v vs 0) 11 = w_fi w5 (n_v vs 0) 11 := by show v_iv (w_fd _ _ _) = v_iv (w_fd _ _ _); rw [s5.2, if_neg (fun e => absurd e.2 (by decide))]
  have fe_0_13_5 : w_fi w4 (n_v vs 0) 13 = v_iv (n_v vs 3) := by show v_iv (w_fd _ _ _) = _; rw [s5.2, if_pos ⟨rfl, rfl⟩]
  have hE_0_1_1 : ∀ j : Int, w_ei ws (w_ar ws (n_v vs 0) 1) j = w_ei w1 (w_ar ws (n_v vs 0) 1) j := fun j => s1.1 _ _
  have hE_0_1_2 : ∀ j : Int, w_ei w1 (w_ar ws (n_v vs 0) 1) j = w_ei w2 (w_ar ws (n_v vs 0) 1) j := fun j => s2.1 _ _
  have hE_0_1_3 : ∀ j : Int, w_ei w2 (w_ar ws (n_v vs 0) 1) j = w_ei w3 (w_ar ws (n_v vs 0) 1) j := fun j => s3.1 _ _
  have hE_0_1_4 : ∀ j : Int, w_ei w3 (w_ar ws (n_v vs 0) 1) j = w_ei w4 (w_ar ws (n_v vs 0) 1) j := fun j => s4.1 _ _
  have hE_0_1_5 : ∀ j : Int, w_ei w4 (w_ar ws (n_v vs 0) 1) j = w_ei w5 (w_ar ws (n_v vs 0) 1) j := fun j => s5.1 _ _
  have hK_0_1 := elq_7 hD hth cr_0_1
  have kz_0_10 := fdq_43 hD hth r0
  have kz_0_11 := fdq_237 hD hth r0
  have kz_0_12 := fdq_187 hD hth r0
  have kz_0_13 := fdq_238 hD hth r0
  have kz_0_14 := fdq_188 hD hth r0
  have kz_0_15 := fdq_239 hD hth r0
  have nf0 : fc_1 PRD (20, [1, 2], [30, 0, 1, 0, 0, -1, 1, 15]) ws (vs) := by
    refine ⟨nf_in hl rfl, sgq_1436 ?_⟩
    · show 1 * v_iv (n_v vs 1) + ((-1) * w_fi ws (n_v vs 2) 15 + 0) ≤ 0
      rw [q2]
      exact vc_Mo_next_8_0 (v_iv (n_v vs 1)) (v_iv (n_v vs 3)) (v_iv (n_v vs 4)) (w_fi ws (n_v vs 0) 14) (w_fi ws (n_v vs 0) 15) (w_fi ws (n_v vs 0) 13) (w_fi ws (n_v vs 0) 11) (w_ei ws (w_ar ws (n_v vs 0) 1)) (w_fi ws (n_v vs 0) 10) (w_ei w1 (w_ar ws (n_v vs 0) 1)) (w_fi w1 (n_v vs 0) 10) (w_fi w1 (n_v vs 0) 11) (w_ei w2 (w_ar ws (n_v vs 0) 1)) (w_fi w2 (n_v vs 0) 10) (w_fi w2 (n_v vs 0) 11) (w_ei w3 (w_ar ws (n_v vs 0) 1)) (w_fi w3 (n_v vs 0) 10) (w_fi w3 (n_v vs 0) 11) (w_fi w4 (n_v vs 0) 11) (w_ei w4 (w_ar ws (n_v vs 0) 1)) (w_fi w4 (n_v vs 0) 10) (w_fi w5 (n_v vs 0) 11) (w_ei w5 (w_ar ws (n_v vs 0) 1)) (w_fi w5 (n_v vs 0) 10) (w_fi w1 (n_v vs 0) 13) (w_fi w1 (n_v vs 0) 14) (w_fi w1 (n_v vs 0) 15) (w_fi w1 (n_v vs 0) 12) (w_fi w2 (n_v vs 0) 12) (w_fi w2 (n_v vs 0) 13) (w_fi w2 (n_v vs 0) 15) (w_fi w3 (n_v vs 0) 13) (w_fi w2 (n_v vs 0) 14) (w_fi w3 (n_v vs 0) 14) (w_fi w3 (n_v vs 0) 15) (w_fi w3 (n_v vs 0) 12) (w_fi w4 (n_v vs 0) 12) (w_fi w4 (n_v vs 0) 13) (w_fi w4 (n_v vs 0) 14) k1 k3 k4 g2 g3 g4 f5 f6 f7 f12 f13 f17 f18 f22 f23 fe_0_10_1 fe_0_11_1 fe_0_13_1 fe_0_14_1 fe_0_15_1 fe_0_10_2 fe_0_11_2 fe_0_12_2 fe_0_13_2 fe_0_15_2 fe_0_10_3 fe_0_11_3 fe_0_13_3 fe_0_14_3 fe_0_15_3 fe_0_10_4 fe_0_11_4 fe_0_12_4 fe_0_13_4 fe_0_14_4 fe_0_10_5 fe_0_11_5 hE_0_1_1 hE_0_1_2 hE_0_1_3 hE_0_1_4 hE_0_1_5 hK_0_1 kz_0_10 kz_0_11 kz_0_13 kz_0_14 kz_0_15
  have nf1 : fc_1 PRD (20, [2, 2], [30, 0, 1, 1, 15, -1, 1, 11]) ws (vs) := by
    refine ⟨nf_in hl rfl, sgq_1437 ?_⟩
    · show 1 * w_fi ws (n_v vs 2) 15 + ((-1) * w_fi ws (n_v vs 2) 11 + 0) ≤ 0
      rw [q2]
      exact vc_Mo_next_8_1 (v_iv (n_v vs 3)) (v_iv (n_v vs 4)) (w_fi ws (n_v vs 0) 14) (w_fi ws (n_v vs 0) 15) (w_fi ws (n_v vs 0) 13) (w_fi ws (n_v vs 0) 11) (w_ei ws (w_ar ws (n_v vs 0) 1)) (w_fi ws (n_v vs 0) 10) (w_ei w1 (w_ar ws (n_v vs 0) 1)) (w_fi w1 (n_v vs 0) 10) (w_fi w1 (n_v vs 0) 11) (w_ei w2 (w_ar ws (n_v vs 0) 1)) (w_fi w2 (n_v vs 0) 10) (w_fi w2 (n_v vs 0) 11) (w_ei w3 (w_ar ws (n_v vs 0) 1)) (w_fi w3 (n_v vs 0) 10) (w_fi w3 (n_v vs 0) 11) (w_fi w4 (n_v vs 0) 11) (w_ei w4 (w_ar ws (n_v vs 0) 1)) (w_fi w4 (n_v vs 0) 10) (w_fi w5 (n_v vs 0) 11) (w_ei w5 (w_ar ws (n_v vs 0) 1)) (w_fi w5 (n_v vs 0) 10) (w_fi w1 (n_v vs 0) 13) (w_fi w1 (n_v vs 0) 14) (w_fi w1 (n_v vs 0) 15) (w_fi w1 (n_v vs 0) 12) (w_fi w2 (n_v vs 0) 12) (w_fi w2 (n_v vs 0) 13) (w_fi w2 (n_v vs 0) 15) (w_fi w3 (n_v vs 0) 13) (w_fi w2 (n_v vs 0) 14) (w_fi w3 (n_v vs 0) 14) (w_fi w3 (n_v vs 0) 15) (w_fi w3 (n_v vs 0) 12) (w_fi w4 (n_v vs 0) 12) (w_fi w4 (n_v vs 0) 13) (w_fi w4 (n_v vs 0) 14) k3 k4 g2 g3 g4 f5 f6 f12 f13 f17 f18 f22 f23 fe_0_10_1 fe_0_11_1 fe_0_13_1 fe_0_14_1 fe_0_15_1 fe_0_10_2 fe_0_11_2 fe_0_12_2 fe_0_13_2 fe_0_15_2 fe_0_10_3 fe_0_11_3 fe_0_13_3 fe_0_14_3 fe_0_15_3 fe_0_10_4 fe_0_11_4 fe_0_12_4 fe_0_13_4 fe_0_14_4 fe_0_10_5 fe_0_11_5 hE_0_1_1 hE_0_1_2 hE_0_1_3 hE_0_1_4 hE_0_1_5 hK_0_1 kz_0_10 kz_0_11 kz_0_13 kz_0_14 kz_0_15
  have nf2 : fc_1 PRD (20, [2], [50, 3, 0, 12, 11, 15, 2, 21, 4, 7, 1, 3, 2, 0, 12, 0, 1, 0, 3, 2, 0, 11, 4, 3, 2, 0, 15, 0, 8, 3, 7, 1, 3, 2, 0, 12, 0, 0, 0, 7, 4, 3, 2, 0, 15, 0, 1, 2, 0, 11]) ws (vs) := by
    refine ⟨nf_in hl rfl, sgq_1438 ?_⟩
    · show ((w_fi ws (n_v vs 2) 12 = 1) → (w_fi ws (n_v vs 2) 11 ≤ (w_fi ws (n_v vs 2) 15 + 8))) ∧ ((w_fi ws (n_v vs 2) 12 = 0) ∨ ((w_fi ws (n_v vs 2) 15 + 1) ≤ w_fi ws (n_v vs 2) 11))
      rw [q2]
      exact vc_Mo_next_8_2 (v_iv (n_v vs 3)) (v_iv (n_v vs 4)) (v_iv (n_v vs 6)) (w_fi ws (n_v vs 0) 12) (w_fi ws (n_v vs 0) 14) (w_fi ws (n_v vs 0) 15) (w_fi ws (n_v vs 0) 13) (w_fi ws (n_v vs 0) 11) (w_ei ws (w_ar ws (n_v vs 0) 1)) (w_fi ws (n_v vs 0) 10) (w_ei w1 (w_ar ws (n_v vs 0) 1)) (w_fi w1 (n_v vs 0) 10) (w_fi w1 (n_v vs 0) 11) (w_ei w2 (w_ar ws (n_v vs 0) 1)) (w_fi w2 (n_v vs 0) 10) (w_fi w2 (n_v vs 0) 11) (w_ei w3 (w_ar ws (n_v vs 0) 1)) (w_fi w3 (n_v vs 0) 10) (w_fi w3 (n_v vs 0) 11) (w_fi w4 (n_v vs 0) 11) (w_ei w4 (w_ar ws (n_v vs 0) 1)) (w_fi w4 (n_v vs 0) 10) (w_fi w5 (n_v vs 0) 11) (w_ei w5 (w_ar ws (n_v vs 0) 1)) (w_fi w5 (n_v vs 0) 10) (w_fi w1 (n_v vs 0) 13) (w_fi w1 (n_v vs 0) 14) (w_fi w1 (n_v vs 0) 15) (w_fi w1 (n_v vs 0) 12) (w_fi w2 (n_v vs 0) 12) (w_fi w2 (n_v vs 0) 13) (w_fi w2 (n_v vs 0) 15) (w_fi w3 (n_v vs 0) 13) (w_fi w2 (n_v vs 0) 14) (w_fi w3 (n_v vs 0) 14) (w_fi w3 (n_v vs 0) 15) (w_fi w3 (n_v vs 0) 12) (w_fi w4 (n_v vs 0) 12) (w_fi w4 (n_v vs 0) 13) (w_fi w4 (n_v vs 0) 14) k3 k4 k6 g0 f5 f6 f12 f13 f17 f18 f22 f23 fe_0_10_1 fe_0_11_1 fe_0_13_1 fe_0_14_1 fe_0_15_1 fe_0_10_2 fe_0_11_2 fe_0_12_2 fe_0_13_2 fe_0_15_2 fe_0_10_3 fe_0_11_3 fe_0_13_3 fe_0_14_3 fe_0_15_3 fe_0_10_4 fe_0_11_4 fe_0_12_4 fe_0_13_4 fe_0_14_4 fe_0_10_5 fe_0_11_5 hE_0_1_1 hE_0_1_2 hE_0_1_3 hE_0_1_4 hE_0_1_5 hK_0_1 kz_0_10 kz_0_11 kz_0_12 kz_0_13 kz_0_14 kz_0_15
  have nf3 : fc_1 PRD (20, [2, 1], [60, 6, 1, 948, 10, 11, 12, 13, 14, 15, 1]) ws (vs) := by
    refine ⟨nf_in hl rfl, sgq_1439 ?_⟩
    · show TKR (w_fi ws (n_v vs 2) 10) (w_fi ws (n_v vs 2) 11) (w_fi ws (n_v vs 2) 12) (w_fi ws (n_v vs 2) 13) (w_fi ws (n_v vs 2) 14) (w_fi ws (n_v vs 2) 15) (w_ei ws (w_ar ws (n_v vs 2) 1)) (v_iv (n_v vs 1))
      rw [q2]
      exact vc_Mo_next_8_3 (v_iv (n_v vs 1)) (v_iv (n_v vs 3)) (v_iv (n_v vs 4)) (v_iv (n_v vs 6)) (w_fi ws (n_v vs 0) 12) (w_fi ws (n_v vs 0) 14) (w_fi ws (n_v vs 0) 15) (w_fi ws (n_v vs 0) 13) (w_fi ws (n_v vs 0) 11) (w_ei ws (w_ar ws (n_v vs 0) 1)) (w_fi ws (n_v vs 0) 10) (w_ei w1 (w_ar ws (n_v vs 0) 1)) (w_fi w1 (n_v vs 0) 10) (w_fi w1 (n_v vs 0) 11) (w_ei w2 (w_ar ws (n_v vs 0) 1)) (w_fi w2 (n_v vs 0) 10) (w_fi w2 (n_v vs 0) 11) (w_ei w3 (w_ar ws (n_v vs 0) 1)) (w_fi w3 (n_v vs 0) 10) (w_fi w3 (n_v vs 0) 11) (w_fi w4 (n_v vs 0) 11) (w_ei w4 (w_ar ws (n_v vs 0) 1)) (w_fi w4 (n_v vs 0) 10) (w_fi w5 (n_v vs 0) 11) (w_ei w5 (w_ar ws (n_v vs 0) 1)) (w_fi w5 (n_v vs 0) 10) (w_fi w1 (n_v vs 0) 13) (w_fi w1 (n_v vs 0) 14) (w_fi w1 (n_v vs 0) 15) (w_fi w1 (n_v vs 0) 12) (w_fi w2 (n_v vs 0) 12) (w_fi w2 (n_v vs 0) 13) (w_fi w2 (n_v vs 0) 15) (w_fi w3 (n_v vs 0) 13) (w_fi w2 (n_v vs 0) 14) (w_fi w3 (n_v vs 0) 14) (w_fi w3 (n_v vs 0) 15) (w_fi w3 (n_v vs 0) 12) (w_fi w4 (n_v vs 0) 12) (w_fi w4 (n_v vs 0) 13) (w_fi w4 (n_v vs 0) 14) k1 k3 k4 k6 g0 g1 g2 g3 g4 f22 f31 fe_0_10_1 fe_0_11_1 fe_0_13_1 fe_0_14_1 fe_0_15_1 fe_0_10_2 fe_0_11_2 fe_0_12_2 fe_0_13_2 fe_0_15_2 fe_0_10_3 fe_0_11_3 fe_0_13_3 fe_0_14_3 fe_0_15_3 fe_0_10_4 fe_0_11_4 fe_0_12_4 fe_0_13_4 fe_0_14_4 fe_0_10_5 fe_0_11_5 fe_0_13_5 hE_0_1_1 hE_0_1_2 hE_0_1_3 hE_0_1_4 hE_0_1_5 kz_0_10 kz_0_11 kz_0_12 kz_0_13 kz_0_14 kz_0_15
  have nf4 : fc_1 PRD (20, [0, 0], [30, 0, 1, 1, 15, -1, 1, 11]) ws (vs) := ⟨nf_in hl rfl, sgq_1437 (vc_Mo_next_8_4 (v_iv (n_v vs 3)) (v_iv (n_v vs 4)) (w_fi ws (n_v vs 0) 14) (w_fi ws (n_v vs 0) 15) (w_fi ws (n_v vs 0) 13) (w_fi ws (n_v vs 0) 11) (w_ei ws (w_ar ws (n_v vs 0) 1)) (w_fi ws (n_v vs 0) 10) (w_ei w1 (w_ar ws (n_v vs 0) 1)) (w_fi w1 (n_v vs 0) 10) (w_fi w1 (n_v vs 0) 11) (w_ei w2 (w_ar ws (n_v vs 0) 1)) (w_fi w2 (n_v vs 0) 10) (w_fi w2 (n_v vs 0) 11) (w_ei w3 (w_ar ws (n_v vs 0) 1)) (w_fi w3 (n_v vs 0) 10) (w_fi w3 (n_v vs 0) 11) (w_fi w4 (n_v vs 0) 11) (w_ei w4 (w_ar ws (n_v vs 0) 1)) (w_fi w4 (n_v vs 0) 10) (w_fi w5 (n_v vs 0) 11) (w_ei w5 (w_ar ws (n_v vs 0) 1)) (w_fi w5 (n_v vs 0) 10) (w_fi w1 (n_v vs 0) 13) (w_fi w1 (n_v vs 0) 14) (w_fi w1 (n_v vs 0) 15) (w_fi w1 (n_v vs 0) 12) (w_fi w2 (n_v vs 0) 12) (w_fi w2 (n_v vs 0) 13) (w_fi w2 (n_v vs 0) 15) (w_fi w3 (n_v vs 0) 13) (w_fi w2 (n_v vs 0) 14) (w_fi w3 (n_v vs 0) 14) (w_fi w3 (n_v vs 0) 15) (w_fi w3 (n_v vs 0) 12) (w_fi w4 (n_v vs 0) 12) (w_fi w4 (n_v vs 0) 13) (w_fi w4 (n_v vs 0) 14) k3 k4 g2 g3 g4 f5 f6 f12 f13 f17 f18 f22 f23 fe_0_10_1 fe_0_11_1 fe_0_13_1 fe_0_14_1 fe_0_15_1 fe_0_10_2 fe_0_11_2 fe_0_12_2 fe_0_13_2 fe_0_15_2 fe_0_10_3 fe_0_11_3 fe_0_13_3 fe_0_14_3 fe_0_15_3 fe_0_10_4 fe_0_11_4 fe_0_12_4 fe_0_13_4 fe_0_14_4 fe_0_10_5 fe_0_11_5 hE_0_1_1 hE_0_1_2 hE_0_1_3 hE_0_1_4 hE_0_1_5 hK_0_1 kz_0_10 kz_0_11 kz_0_13 kz_0_14 kz_0_15)⟩
  have nf5 : fc_1 PRD (20, [0], [50, 3, 0, 12, 11, 15, 2, 21, 4, 7, 1, 3, 2, 0, 12, 0, 1, 0, 3, 2, 0, 11, 4, 3, 2, 0, 15, 0, 8, 3, 7, 1, 3, 2, 0, 12, 0, 0, 0, 7, 4, 3, 2, 0, 15, 0, 1, 2, 0, 11]) ws (vs) := ⟨nf_in hl rfl, sgq_1438 (vc_Mo_next_8_5 (v_iv (n_v vs 3)) (v_iv (n_v vs 4)) (v_iv (n_v vs 6)) (w_fi ws (n_v vs 0) 12) (w_fi ws (n_v vs 0) 14) (w_fi ws (n_v vs 0) 15) (w_fi ws (n_v vs 0) 13) (w_fi ws (n_v vs 0) 11) (w_ei ws (w_ar ws (n_v vs 0) 1)) (w_fi ws (n_v vs 0) 10) (w_ei w1 (w_ar ws (n_v vs 0) 1)) (w_fi w1 (n_v vs 0) 10) (w_fi w1 (n_v vs 0) 11) (w_ei w2 (w_ar ws (n_v vs 0) 1)) (w_fi w2 (n_v vs 0) 10) (w_fi w2 (n_v vs 0) 11) (w_ei w3 (w_ar ws (n_v vs 0) 1)) (w_fi w3 (n_v vs 0) 10) (w_fi w3 (n_v vs 0) 11) (w_fi w4 (n_v vs 0) 11) (w_ei w4 (w_ar ws (n_v vs 0) 1)) (w_fi w4 (n_v vs 0) 10) (w_fi w5 (n_v vs 0) 11) (w_ei w5 (w_ar ws (n_v vs 0) 1)) (w_fi w5 (n_v vs 0) 10) (w_fi w1 (n_v vs 0) 13) (w_fi w1 (n_v vs 0) 14) (w_fi w1 (n_v vs 0) 15) (w_fi w1 (n_v vs 0) 12) (w_fi w2 (n_v vs 0) 12) (w_fi w2 (n_v vs 0) 13) (w_fi w2 (n_v vs 0) 15) (w_fi w3 (n_v vs 0) 13) (w_fi w2 (n_v vs 0) 14) (w_fi w3 (n_v vs 0) 14) (w_fi w3 (n_v vs 0) 15) (w_fi w3 (n_v vs 0) 12) (w_fi w4 (n_v vs 0) 12) (w_fi w4 (n_v vs 0) 13) (w_fi w4 (n_v vs 0) 14) k3 k4 k6 g0 f5 f6 f12 f13 f17 f18 f22 f23 fe_0_10_1 fe_0_11_1 fe_0_13_1 fe_0_14_1 fe_0_15_1 fe_0_10_2 fe_0_11_2 fe_0_12_2 fe_0_13_2 fe_0_15_2 fe_0_10_3 fe_0_11_3 fe_0_13_3 fe_0_14_3 fe_0_15_3 fe_0_10_4 fe_0_11_4 fe_0_12_4 fe_0_13_4 fe_0_14_4 fe_0_10_5 fe_0_11_5 hE_0_1_1 hE_0_1_2 hE_0_1_3 hE_0_1_4 hE_0_1_5 hK_0_1 kz_0_10 kz_0_11 kz_0_12 kz_0_13 kz_0_14 kz_0_15)⟩
  have nf6 : fc_1 PRD (20, [1, 0], [30, 0, 1, 0, 0, -1, 1, 15]) ws (vs) := ⟨nf_in hl rfl, sgq_1436 (vc_Mo_next_8_6 (v_iv (n_v vs 1)) (v_iv (n_v vs 3)) (v_iv (n_v vs 4)) (w_fi ws (n_v vs 0) 14) (w_fi ws (n_v vs 0) 15) (w_fi ws (n_v vs 0) 13) (w_fi ws (n_v vs 0) 11) (w_ei ws (w_ar ws (n_v vs 0) 1)) (w_fi ws (n_v vs 0) 10) (w_ei w1 (w_ar ws (n_v vs 0) 1)) (w_fi w1 (n_v vs 0) 10) (w_fi w1 (n_v vs 0) 11) (w_ei w2 (w_ar ws (n_v vs 0) 1)) (w_fi w2 (n_v vs 0) 10) (w_fi w2 (n_v vs 0) 11) (w_ei w3 (w_ar ws (n_v vs 0) 1)) (w_fi w3 (n_v vs 0) 10) (w_fi w3 (n_v vs 0) 11) (w_fi w4 (n_v vs 0) 11) (w_ei w4 (w_ar ws (n_v vs 0) 1)) (w_fi w4 (n_v vs 0) 10) (w_fi w5 (n_v vs 0) 11) (w_ei w5 (w_ar ws (n_v vs 0) 1)) (w_fi w5 (n_v vs 0) 10) (w_fi w1 (n_v vs 0) 13) (w_fi w1 (n_v vs 0) 14) (w_fi w1 (n_v vs 0) 15) (w_fi w1 (n_v vs 0) 12) (w_fi w2 (n_v vs 0) 12) (w_fi w2 (n_v vs 0) 13) (w_fi w2 (n_v vs 0) 15) (w_fi w3 (n_v vs 0) 13) (w_fi w2 (n_v vs 0) 14) (w_fi w3 (n_v vs 0) 14) (w_fi w3 (n_v vs 0) 15) (w_fi w3 (n_v vs 0) 12) (w_fi w4 (n_v vs 0) 12) (w_fi w4 (n_v vs 0) 13) (w_fi w4 (n_v vs 0) 14) k1 k3 k4 g2 g3 g4 f5 f6 f7 f12 f13 f17 f18 f22 f23 fe_0_10_1 fe_0_11_1 fe_0_13_1 fe_0_14_1 fe_0_15_1 fe_0_10_2 fe_0_11_2 fe_0_12_2 fe_0_13_2 fe_0_15_2 fe_0_10_3 fe_0_11_3 fe_0_13_3 fe_0_14_3 fe_0_15_3 fe_0_10_4 fe_0_11_4 fe_0_12_4 fe_0_13_4 fe_0_14_4 fe_0_10_5 fe_0_11_5 hE_0_1_1 hE_0_1_2 hE_0_1_3 hE_0_1_4 hE_0_1_5 hK_0_1 kz_0_10 kz_0_11 kz_0_13 kz_0_14 kz_0_15)⟩
  have nf7 : fc_1 PRD (20, [0, 1], [60, 6, 1, 948, 10, 11, 12, 13, 14, 15, 1]) ws (vs) := ⟨nf_in hl rfl, sgq_1439 (vc_Mo_next_8_7 (v_iv (n_v vs 1)) (v_iv (n_v vs 3)) (v_iv (n_v vs 4)) (v_iv (n_v vs 6)) (w_fi ws (n_v vs 0) 12) (w_fi ws (n_v vs 0) 14) (w_fi ws (n_v vs 0) 15) (w_fi ws (n_v vs 0) 13) (w_fi ws (n_v vs 0) 11) (w_ei ws (w_ar ws (n_v vs 0) 1)) (w_fi ws (n_v vs 0) 10) (w_ei w1 (w_ar ws (n_v vs 0) 1)) (w_fi w1 (n_v vs 0) 10) (w_fi w1 (n_v vs 0) 11) (w_ei w2 (w_ar ws (n_v vs 0) 1)) (w_fi w2 (n_v vs 0) 10) (w_fi w2 (n_v vs 0) 11) (w_ei w3 (w_ar ws (n_v vs 0) 1)) (w_fi w3 (n_v vs 0) 10) (w_fi w3 (n_v vs 0) 11) (w_fi w4 (n_v vs 0) 11) (w_ei w4 (w_ar ws (n_v vs 0) 1)) (w_fi w4 (n_v vs 0) 10) (w_fi w5 (n_v vs 0) 11) (w_ei w5 (w_ar ws (n_v vs 0) 1)) (w_fi w5 (n_v vs 0) 10) (w_fi w1 (n_v vs 0) 13) (w_fi w1 (n_v vs 0) 14) (w_fi w1 (n_v vs 0) 15) (w_fi w1 (n_v vs 0) 12) (w_fi w2 (n_v vs 0) 12) (w_fi w2 (n_v vs 0) 13) (w_fi w2 (n_v vs 0) 15) (w_fi w3 (n_v vs 0) 13) (w_fi w2 (n_v vs 0) 14) (w_fi w3 (n_v vs 0) 14) (w_fi w3 (n_v vs 0) 15) (w_fi w3 (n_v vs 0) 12) (w_fi w4 (n_v vs 0) 12) (w_fi w4 (n_v vs 0) 13) (w_fi w4 (n_v vs 0) 14) k1 k3 k4 k6 g0 g1 g2 g3 g4 f22 f31 fe_0_10_1 fe_0_11_1 fe_0_13_1 fe_0_14_1 fe_0_15_1 fe_0_10_2 fe_0_11_2 fe_0_12_2 fe_0_13_2 fe_0_15_2 fe_0_10_3 fe_0_11_3 fe_0_13_3 fe_0_14_3 fe_0_15_3 fe_0_10_4 fe_0_11_4 fe_0_12_4 fe_0_13_4 fe_0_14_4 fe_0_10_5 fe_0_11_5 fe_0_13_5 hE_0_1_1 hE_0_1_2 hE_0_1_3 hE_0_1_4 hE_0_1_5 kz_0_10 kz_0_11 kz_0_12 kz_0_13 kz_0_14 kz_0_15)⟩
  refine ⟨(fun _ h => (by cases h)), [], trivial, ?_, (fun _ h => (by cases h))⟩
  rw [List.append_nil]
  exact List.forall_mem_cons.mpr ⟨⟨show (20 : Nat) < 100 from by decide, nf0⟩, List.forall_mem_cons.mpr ⟨⟨show (20 : Nat) < 100 from by decide, nf1⟩, List.forall_mem_cons.mpr ⟨⟨show (20 : Nat) < 100 from by decide, nf2⟩, List.forall_mem_cons.mpr ⟨⟨show (20 : Nat) < 100 from by decide, nf3⟩, List.forall_mem_cons.mpr ⟨⟨show (20 : Nat) < 100 from by decide, nf4⟩, List.forall_mem_cons.mpr ⟨⟨show (20 : Nat) < 100 from by decide, nf5⟩, List.forall_mem_cons.mpr ⟨⟨show (20 : Nat) < 100 from by decide, nf6⟩, List.forall_mem_cons.mpr ⟨⟨show (20 : Nat) < 100 from by decide, nf7⟩, (fun _ h => (by cases h))⟩⟩⟩⟩⟩⟩⟩⟩
set_option maxHeartbeats 4000000 in
theorem vc_Mo_next_9_0 (x1 : Int) (x3 : Int) (x4 : Int) (from_0 : Int) (place_0 : Int) (pos_0 : Int) (tape_0 : Int → Int) (limit_0 : Int) (tape_1 : Int → Int) (limit_1 : Int) (pos_1 : Int) (tape_2 : Int → Int) (limit_2 : Int) (pos_2 : Int) (pos_3 : Int) (tape_3 : Int → Int) (limit_3 : Int) (pos_4 : Int) (tape_4 : Int → Int) (limit_4 : Int) (place_1 : Int) (from_1 : Int) (place_2 : Int) (value_1 : Int) (value_2 : Int) (from_2 : Int) (place_3 : Int) (value_3 : Int) (k1 : 0 ≤ x1 ∧ x1 ≤ 2000) (k3 : 0 ≤ x3 ∧ x3 ≤ 1999) (k4 : 0 ≤ x4 ∧ x4 ≤ 47) (g1 : x3 = from_0) (g2 : x3 = place_0) (g3 : x3 = pos_0) (f5 : ((x3 + 1) ≤ limit_0) → (x4 = (tape_0 (x3) % 256))) (f6 : (limit_0 ≤ x3) → (x4 = (-1))) (f7 : 1 * x1 + ((-1) * pos_0 + 0) ≤ 0) (f11 : ((x3 + 1) ≤ limit_1) → (x4 = (tape_1 (x3) % 256))) (f12 : (limit_1 ≤ x3) → (x4 = (-1))) (f16 : ((x3 + 1) ≤ limit_2) → (x4 = (tape_2 (x3) % 256))) (f17 : (limit_2 ≤ x3) → (x4 = (-1))) (fe_0_10_1 : limit_0 = limit_1) (fe_0_11_1 : pos_0 = pos_1) (fe_0_13_1 : place_0 = place_1) (fe_0_15_1 : from_0 = from_1) (fe_0_10_2 : limit_1 = limit_2) (fe_0_11_2 : pos_1 = pos_2) (fe_0_13_2 : place_1 = place_2) (fe_0_14_2 : value_1 = value_2) (fe_0_15_2 : from_1 = from_2) (fe_0_10_3 : limit_2 = limit_3) (fe_0_11_3 : pos_2 = pos_3) (fe_0_13_3 : place_2 = place_3) (fe_0_14_3 : value_2 = value_3) (fe_0_10_4 : limit_3 = limit_4) (fe_0_11_4 : pos_3 = pos_4) (hE_0_1_1 : ∀ j : Int, tape_0 j = tape_1 j) (hE_0_1_2 : ∀ j : Int, tape_1 j = tape_2 j) (hE_0_1_3 : ∀ j : Int, tape_2 j = tape_3 j) (hE_0_1_4 : ∀ j : Int, tape_3 j = tape_4 j) (hK_0_1 : ∀ j : Int, 0 ≤ j → j < 2000 → (-128) ≤ tape_0 j ∧ tape_0 j ≤ 127) (kz_0_10 : 0 ≤ limit_0 ∧ limit_0 ≤ 2000) (kz_0_11 : 0 ≤ pos_0 ∧ pos_0 ≤ 2000) (kz_0_13 : 0 ≤ place_0 ∧ place_0 ≤ 2000) (kz_0_15 : 0 ≤ from_0 ∧ from_0 ≤ 2000) : 1 * x1 + ((-1) * from_0 + 0) ≤ 0 := by
  subst fe_0_10_1
  subst fe_0_11_1
  subst fe_0_13_1
  subst fe_0_15_1
  subst fe_0_10_2
  subst fe_0_11_2
  subst fe_0_13_2
  subst fe_0_14_2
  subst fe_0_15_2
  subst fe_0_10_3
  subst fe_0_11_3
  subst fe_0_13_3
  subst fe_0_14_3
  subst fe_0_10_4
  subst fe_0_11_4
  have e_hE_0_1_1 := funext hE_0_1_1; subst e_hE_0_1_1
  have e_hE_0_1_2 := funext hE_0_1_2; subst e_hE_0_1_2
  have e_hE_0_1_3 := funext hE_0_1_3; subst e_hE_0_1_3
  have e_hE_0_1_4 := funext hE_0_1_4; subst e_hE_0_1_4
  first | with_reducible assumption | ((try and_intros) <;> first | with_reducible assumption | (clear hE_0_1_1 hE_0_1_2 hE_0_1_3 hE_0_1_4 hK_0_1 f5 f6 f11 f12 f16 f17; omega)) | ((first | have f5_b := f5 (by clear hE_0_1_1 hE_0_1_2 hE_0_1_3 hE_0_1_4 hK_0_1 f5 f6 f11 f12 f16 f17; omega) | skip); (first | have f6_b := f6 (by clear hE_0_1_1 hE_0_1_2 hE_0_1_3 hE_0_1_4 hK_0_1 f5 f6 f11 f12 f16 f17; omega) | skip); (first | have f11_b := f11 (by clear hE_0_1_1 hE_0_1_2 hE_0_1_3 hE_0_1_4 hK_0_1 f5 f6 f11 f12 f16 f17; omega) | skip); (first | have f12_b := f12 (by clear hE_0_1_1 hE_0_1_2 hE_0_1_3 hE_0_1_4 hK_0_1 f5 f6 f11 f12 f16 f17; omega) | skip); (first | have f16_b := f16 (by clear hE_0_1_1 hE_0_1_2 hE_0_1_3 hE_0_1_4 hK_0_1 f5 f6 f11 f12 f16 f17; omega) | skip); (first | have f17_b := f17 (by clear hE_0_1_1 hE_0_1_2 hE_0_1_3 hE_0_1_4 hK_0_1 f5 f6 f11 f12 f16 f17; omega) | skip); (first | have f5_d := f5 (by with_reducible assumption) | skip); (first | have f6_d := f6 (by with_reducible assumption) | skip); (first | have f11_d := f11 (by with_reducible assumption) | skip); (first | have f12_d := f12 (by with_reducible assumption) | skip); (first | have f16_d := f16 (by with_reducible assumption) | skip); (first | have f17_d := f17 (by with_reducible assumption) | skip); (try and_intros) <;> first | with_reducible assumption | (clear hE_0_1_1 hE_0_1_2 hE_0_1_3 hE_0_1_4 hK_0_1 f5 f6 f11 f12 f16 f17; omega)) | omega
set_option maxHeartbeats 4000000 in
theorem vc_Mo_next_9_1 (x3 : Int) (x4 : Int) (from_0 : Int) (place_0 : Int) (pos_0 : Int) (tape_0 : Int → Int) (limit_0 : Int) (tape_1 : Int → Int) (limit_1 : Int) (pos_1 : Int) (tape_2 : Int → Int) (limit_2 : Int) (pos_2 : Int) (pos_3 : Int) (tape_3 : Int → Int) (limit_3 : Int) (pos_4 : Int) (tape_4 : Int → Int) (limit_4 : Int) (place_1 : Int) (from_1 : Int) (place_2 : Int) (value_1 : Int) (value_2 : Int) (from_2 : Int) (place_3 : Int) (value_3 : Int) (k3 : 0 ≤ x3 ∧ x3 ≤ 1999) (k4 : 0 ≤ x4 ∧ x4 ≤ 47) (g1 : x3 = from_0) (g2 : x3 = place_0) (g3 : x3 = pos_0) (f5 : ((x3 + 1) ≤ limit_0) → (x4 = (tape_0 (x3) % 256))) (f6 : (limit_0 ≤ x3) → (x4 = (-1))) (f11 : ((x3 + 1) ≤ limit_1) → (x4 = (tape_1 (x3) % 256))) (f12 : (limit_1 ≤ x3) → (x4 = (-1))) (f16 : ((x3 + 1) ≤ limit_2) → (x4 = (tape_2 (x3) % 256))) (f17 : (limit_2 ≤ x3) → (x4 = (-1))) (fe_0_10_1 : limit_0 = limit_1) (fe_0_11_1 : pos_0 = pos_1) (fe_0_13_1 : place_0 = place_1) (fe_0_15_1 : from_0 = from_1) (fe_0_10_2 : limit_1 = limit_2) (fe_0_11_2 : pos_1 = pos_2) (fe_0_13_2 : place_1 = place_2) (fe_0_14_2 : value_1 = value_2) (fe_0_15_2 : from_1 = from_2) (fe_0_10_3 : limit_2 = limit_3) (fe_0_11_3 : pos_2 = pos_3) (fe_0_13_3 : place_2 = place_3) (fe_0_14_3 : value_2 = value_3) (fe_0_10_4 : limit_3 = limit_4) (fe_0_11_4 : pos_3 = pos_4) (hE_0_1_1 : ∀ j : Int, tape_0 j = tape_1 j) (hE_0_1_2 : ∀ j : Int, tape_1 j = tape_2 j) (hE_0_1_3 : ∀ j : Int, tape_2 j = tape_3 j) (hE_0_1_4 : ∀ j : Int, tape_3 j = tape_4 j) (hK_0_1 : ∀ j : Int, 0 ≤ j → j < 2000 → (-128) ≤ tape_0 j ∧ tape_0 j ≤ 127) (kz_0_10 : 0 ≤ limit_0 ∧ limit_0 ≤ 2000) (kz_0_11 : 0 ≤ pos_0 ∧ pos_0 ≤ 2000) (kz_0_13 : 0 ≤ place_0 ∧ place_0 ≤ 2000) (kz_0_15 : 0 ≤ from_0 ∧ from_0 ≤ 2000) : pos_0 = from_0 := by
  subst fe_0_10_1
  subst fe_0_11_1
  subst fe_0_13_1
  subst fe_0_15_1
  subst fe_0_10_2
  subst fe_0_11_2
  subst fe_0_13_2
  subst fe_0_14_2
  subst fe_0_15_2
  subst fe_0_10_3
  subst fe_0_11_3
  subst fe_0_13_3
  subst fe_0_14_3
  subst fe_0_10_4
  subst fe_0_11_4
  have e_hE_0_1_1 := funext hE_0_1_1; subst e_hE_0_1_1
  have e_hE_0_1_2 := funext hE_0_1_2; subst e_hE_0_1_2
  have e_hE_0_1_3 := funext hE_0_1_3; subst e_hE_0_1_3
  have e_hE_0_1_4 := funext hE_0_1_4; subst e_hE_0_1_4
  first | with_reducible assumption | ((try and_intros) <;> first | with_reducible assumption | (clear hE_0_1_1 hE_0_1_2 hE_0_1_3 hE_0_1_4 hK_0_1 f5 f6 f11 f12 f16 f17; omega)) | ((first | have f5_b := f5 (by clear hE_0_1_1 hE_0_1_2 hE_0_1_3 hE_0_1_4 hK_0_1 f5 f6 f11 f12 f16 f17; omega) | skip); (first | have f6_b := f6 (by clear hE_0_1_1 hE_0_1_2 hE_0_1_3 hE_0_1_4 hK_0_1 f5 f6 f11 f12 f16 f17; omega) | skip); (first | have f11_b := f11 (by clear hE_0_1_1 hE_0_1_2 hE_0_1_3 hE_0_1_4 hK_0_1 f5 f6 f11 f12 f16 f17; omega) | skip); (first | have f12_b := f12 (by clear hE_0_1_1 hE_0_1_2 hE_0_1_3 hE_0_1_4 hK_0_1 f5 f6 f11 f12 f16 f17; omega) | skip); (first | have f16_b := f16 (by clear hE_0_1_1 hE_0_1_2 hE_0_1_3 hE_0_1_4 hK_0_1 f5 f6 f11 f12 f16 f17; omega) | skip); (first | have f17_b := f17 (by clear hE_0_1_1 hE_0_1_2 hE_0_1_3 hE_0_1_4 hK_0_1 f5 f6 f11 f12 f16 f17; omega) | skip); (first | have f5_d := f5 (by with_reducible assumption) | skip); (first | have f6_d := f6 (by with_reducible assumption) | skip); (first | have f11_d := f11 (by with_reducible assumption) | skip); (first | have f12_d := f12 (by with_reducible assumption) | skip); (first | have f16_d := f16 (by with_reducible assumption) | skip); (first | have f17_d := f17 (by with_reducible assumption) | skip); (try and_intros) <;> first | with_reducible assumption | (clear hE_0_1_1 hE_0_1_2 hE_0_1_3 hE_0_1_4 hK_0_1 f5 f6 f11 f12 f16 f17; omega)) | omega
set_option maxHeartbeats 4000000 in
theorem vc_Mo_next_9_2 (x1 : Int) (x3 : Int) (x4 : Int) (value_0 : Int) (from_0 : Int) (place_0 : Int) (pos_0 : Int) (tape_0 : Int → Int) (limit_0 : Int) (tape_1 : Int → Int) (limit_1 : Int) (pos_1 : Int) (tape_2 : Int → Int) (limit_2 : Int) (pos_2 : Int) (pos_3 : Int) (tape_3 : Int → Int) (limit_3 : Int) (pos_4 : Int) (tape_4 : Int → Int) (limit_4 : Int) (place_1 : Int) (from_1 : Int) (place_2 : Int) (value_1 : Int) (value_2 : Int) (from_2 : Int) (place_3 : Int) (value_3 : Int) (k1 : 0 ≤ x1 ∧ x1 ≤ 2000) (k3 : 0 ≤ x3 ∧ x3 ≤ 1999) (k4 : 0 ≤ x4 ∧ x4 ≤ 47) (g0 : x4 = value_0) (g1 : x3 = from_0) (g2 : x3 = place_0) (g3 : x3 = pos_0) (f11 : ((x3 + 1) ≤ limit_1) → (x4 = (tape_1 (x3) % 256))) (f16 : ((x3 + 1) ≤ limit_2) → (x4 = (tape_2 (x3) % 256))) (f17 : (limit_2 ≤ x3) → (x4 = (-1))) (f25 : ZX1 (limit_4) (pos_4) (tape_4) (x1)) (fe_0_10_1 : limit_0 = limit_1) (fe_0_11_1 : pos_0 = pos_1) (fe_0_13_1 : place_0 = place_1) (fe_0_15_1 : from_0 = from_1) (fe_0_10_2 : limit_1 = limit_2) (fe_0_11_2 : pos_1 = pos_2) (fe_0_13_2 : place_1 = place_2) (fe_0_14_2 : value_1 = value_2) (fe_0_15_2 : from_1 = from_2) (fe_0_10_3 : limit_2 = limit_3) (fe_0_11_3 : pos_2 = pos_3) (fe_0_13_3 : place_2 = place_3) (fe_0_14_3 : value_2 = value_3) (fe_0_10_4 : limit_3 = limit_4) (fe_0_11_4 : pos_3 = pos_4) (fe_0_13_4 : place_3 = x3) (hE_0_1_1 : ∀ j : Int, tape_0 j = tape_1 j) (hE_0_1_2 : ∀ j : Int, tape_1 j = tape_2 j) (hE_0_1_3 : ∀ j : Int, tape_2 j = tape_3 j) (hE_0_1_4 : ∀ j : Int, tape_3 j = tape_4 j) (kz_0_10 : 0 ≤ limit_0 ∧ limit_0 ≤ 2000) (kz_0_11 : 0 ≤ pos_0 ∧ pos_0 ≤ 2000) (kz_0_13 : 0 ≤ place_0 ∧ place_0 ≤ 2000) (kz_0_14 : (-49) ≤ value_0 ∧ value_0 ≤ 1048575) (kz_0_15 : 0 ≤ from_0 ∧ from_0 ≤ 2000) : ZXS (limit_0) (pos_0) (place_0) (from_0) (tape_0) (x1) (x4) := by
  subst fe_0_10_1
  subst fe_0_11_1
  subst fe_0_13_1
  subst fe_0_15_1
  subst fe_0_10_2
  subst fe_0_11_2
  subst fe_0_13_2
  subst fe_0_14_2
  subst fe_0_15_2
  subst fe_0_10_3
  subst fe_0_11_3
  subst fe_0_13_3
  subst fe_0_14_3
  subst fe_0_10_4
  subst fe_0_11_4
  have e_hE_0_1_1 := funext hE_0_1_1; subst e_hE_0_1_1
  have e_hE_0_1_2 := funext hE_0_1_2; subst e_hE_0_1_2
  have e_hE_0_1_3 := funext hE_0_1_3; subst e_hE_0_1_3
  have e_hE_0_1_4 := funext hE_0_1_4; subst e_hE_0_1_4
  first | subst g0 | skip
  first | subst g1 | skip
  first | subst g2 | skip
  first | subst g3 | skip
  exact zxs_mk ‹ZX1 _ _ _ _› (by omega) (by omega) (by omega) (by omega) (by omega) (by omega)
def o_Mo_next_9 : or_T := (277, 8, [(0, (2, 0, 0, [165])), (1, (0, 0, 2000, [])), (2, (2, 0, 0, [165])), (3, (0, 0, 1999, [])), (4, (0, 0, 47, []))], [(9, [4, 2], [14]), (9, [3, 2], [15]), (9, [3, 2], [13]), (9, [3, 2], [11]), (8, [4], [3]), (20, [3, 2, 4], [50, 1, 1, 1010, 1001, 4, 11, 0, 6, 4, 2, 1, 0, 0, 1, 2, 1, 10, 1, 2, 1, 2, 9, 5, 3, 1, 1, 1, 0, 0, 256]), (20, [2, 3, 4], [50, 1, 0, 10, 4, 7, 0, 3, 2, 0, 10, 1, 1, 1, 2, 1, 2, 0, -1]), (20, [1, 2], [30, 0, 1, 0, 0, -1, 1, 11]), (20, [2, 1], [60, 2, 1, 950, 10, 11, 1]), (24, [0, 2], []), (101, [2, 4], [14]), (20, [3, 2, 4], [50, 1, 1, 1010, 1001, 4, 11, 0, 6, 4, 2, 1, 0, 0, 1, 2, 1, 10, 1, 2, 1, 2, 9, 5, 3, 1, 1, 1, 0, 0, 256]), (20, [2, 3, 4], [50, 1, 0, 10, 4, 7, 0, 3, 2, 0, 10, 1, 1, 1, 2, 1, 2, 0, -1]), (20, [1, 2], [30, 0, 1, 0, 0, -1, 1, 11]), (20, [2, 1], [60, 2, 1, 950, 10, 11, 1]), (101, [2, 5], [12]), (20, [3, 2, 4], [50, 1, 1, 1010, 1001, 4, 11, 0, 6, 4, 2, 1, 0, 0, 1, 2, 1, 10, 1, 2, 1, 2, 9, 5, 3, 1, 1, 1, 0, 0, 256]), (20, [2, 3, 4], [50, 1, 0, 10, 4, 7, 0, 3, 2, 0, 10, 1, 1, 1, 2, 1, 2, 0, -1]), (20, [1, 2], [30, 0, 1, 0, 0, -1, 1, 11]), (20, [2, 1], [60, 2, 1, 950, 10, 11, 1]), (101, [2, 3], [15]), (20, [1, 2], [30, 0, 1, 0, 0, -1, 1, 11]), (20, [2, 1], [60, 2, 1, 950, 10, 11, 1]), (101, [2, 3], [13]), (20, [1, 2], [30, 0, 1, 0, 0, -1, 1, 11]), (20, [2, 1], [60, 2, 1, 950, 10, 11, 1])], [], [], [(20, [1, 2], [30, 0, 1, 0, 0, -1, 1, 15]), (20, [2], [50, 2, 0, 11, 15, 1, 3, 2, 0, 11, 2, 0, 15]), (20, [2, 1, 4], [60, 4, 1, 956, 10, 11, 13, 15, 1])], [], [])
theorem oo_Mo_next_9 {kA : Nat → ClassId} : or_ok PRD kA GG o_Mo_next_9 := by
  refine or_mk fun A ta ws vs hD hth hl => ?_
  intro t0 r0 t1 k1 t2 r2 t3 k3 t4 k4 f0 f1 f2 f3 f4 f5 f6 f7 f8 f9 ta1 w1 le1 s1 f11 f12 f13 f14 ta2 w2 le2 s2 f16 f17 f18 f19 ta3 w3 le3 s3 f21 f22 ta4 w4 le4 s4 f24 f25
  replace f0 := shm_115 f0
  replace f1 := shm_177 f1
  replace f2 := shm_361 f2
  replace f3 := shm_116 f3
  replace f5 := shm_541 f5
  replace f6 := shm_542 f6
  replace f7 := shm_1431 f7
  replace f9 := shm_5 f9
  have s1 : (∀ b j, w_el ws b j = w_el w1 b j) ∧ ∀ b j, w_fd ws b j = if b = v_ad (n_v vs 2) ∧ j = 14 then n_v vs 4 else w_fd w1 b j := s1.2
  replace f11 := shm_541 f11
  replace f12 := shm_542 f12
  have s2 : (∀ b j, w_el w1 b j = w_el w2 b j) ∧ ∀ b j, w_fd w1 b j = if b = v_ad (n_v vs 2) ∧ j = 12 then n_v vs 5 else w_fd w2 b j := s2.2
  replace f16 := shm_541 f16
  replace f17 := shm_542 f17
  have s3 : (∀ b j, w_el w2 b j = w_el w3 b j) ∧ ∀ b j, w_fd w2 b j = if b = v_ad (n_v vs 2) ∧ j = 15 then n_v vs 3 else w_fd w3 b j := s3.2
  have s4 : (∀ b j, w_el w3 b j = w_el w4 b j) ∧ ∀ b j, w_fd w3 b j = if b = v_ad (n_v vs 2) ∧ j = 13 then n_v vs 3 else w_fd w4 b j := s4.2
  replace f25 := shm_1435 f25
  have q2 : n_v vs 2 = n_v vs 0 := f9.symm
  simp only [q2] at f0 f1 f2 f3 f5 f6 f7
  rw [q2] at s1
  simp only [q2] at f11 f12
  rw [q2] at s2
  simp only [q2] at f16 f17
  rw [q2] at s3
  rw [q2] at s4
  simp only [q2] at f25
  have ar_0_1_1 : w_ar w1 (n_v vs 0) 1 = w_ar ws (n_v vs 0) 1 := by show v_ad (w_fd w1 _ _) = v_ad (w_fd ws _ _); rw [s1.2, if_neg (fun e => absurd e.2 (by decide))]
  have ar_0_1_2 : w_ar w2 (n_v vs 0) 1 = w_ar ws (n_v vs 0) 1 := by rw [← ar_0_1_1]; show v_ad (w_fd w2 _ _) = v_ad (w_fd w1 _ _); rw [s2.2, if_neg (fun e => absurd e.2 (by decide))]
  have ar_0_1_3 : w_ar w3 (n_v vs 0) 1 = w_ar ws (n_v vs 0) 1 := by rw [← ar_0_1_2]; show v_ad (w_fd w3 _ _) = v_ad (w_fd w2 _ _); rw [s3.2, if_neg (fun e => absurd e.2 (by decide))]
  have ar_0_1_4 : w_ar w4 (n_v vs 0) 1 = w_ar ws (n_v vs 0) 1 := by rw [← ar_0_1_3]; show v_ad (w_fd w4 _ _) = v_ad (w_fd w3 _ _); rw [s4.2, if_neg (fun e => absurd e.2 (by decide))]
  have cr_0_1 := fdq_39 hD hth r0
  have g0 : v_iv (n_v vs 4) = w_fi ws (n_v vs 0) 14 := congrArg v_iv f0
  have g1 : v_iv (n_v vs 3) = w_fi ws (n_v vs 0) 15 := congrArg v_iv f1
  have g2 : v_iv (n_v vs 3) = w_fi ws (n_v vs 0) 13 := congrArg v_iv f2
  have g3 : v_iv (n_v vs 3) = w_fi ws (n_v vs 0) 11 := congrArg v_iv f3
  simp only [ar_0_1_1, ar_0_1_2, ar_0_1_3, ar_0_1_4] at f11 f16 f25
  have fe_0_10_1 : w_fi ws (n_v vs 0) 10 = w_fi w1 (n_v vs 0) 10 := by show v_iv (w_fd _ _ _) = v_iv (w_fd _ _ _); rw [s1.2, if_neg (fun e => absurd e.2 (by decide))]
  have fe_0_11_1 : w_fi ws (n_v vs 0) 11 = w_fi w1 (n_v vs 0) 11 := by show v_iv (w_fd _ _ _) = v_iv (w_fd _ _ _); rw [s1.2, if_neg (fun e => absurd e.2 (by decide))]
  have fe_0_13_1 : w_fi ws (n_v vs 0) 13 = w_fi w1 (n_v vs 0) 13 := by show v_iv (w_fd _ _ _) = v_iv (w_fd _ _ _); rw [s1.2, if_neg (fun e => absurd e.2 (by decide))]
  have fe_0_15_1 : w_fi ws (n_v vs 0) 15 = w_fi w1 (n_v vs 0) 15 := by show v_iv (w_fd _ _ _) = v_iv (w_fd _ _ _); rw [s1.2, if_neg (fun e => absurd e.2 (by decide))]
  have fe_0_10_2 : w_fi w1 (n_v vs 0) 10 = w_fi w2 (n_v vs 0) 10 := by show v_iv (w_fd _ _ _) = v_iv (w_fd _ _ _); rw [s2.2, if_neg (fun e => absurd e.2 (by decide))]
  have fe_0_11_2 : w_fi w1 (n_v vs 0) 11 = w_fi w2 (n_v vs 0) 11 := by show v_iv (w_fd _ _ _) = v_iv (w_fd _ _ _); rw [s2.2, if_neg (fun e => absurd e.2 (by decide))]
  have fe_0_13_2 : w_fi w1 (n_v vs 0) 13 = w_fi w2 (n_v vs 0) 13 := by show v_iv (w_fd _ _ _) = v_iv (w_fd _ _ _); rw [s2.2, if_neg (fun e => absurd e.2 (by decide))]
  have fe_0_14_2 : w_fi w1 (n_v vs 0) 14 = w_fi w2 (n_v vs 0) 14 := by show v_iv (w_fd _ _ _) = v_iv (w_fd _ _ _); rw [s2.2, if_neg (fun e => absurd e.2 (by decide))]
  have fe_0_15_2 : w_fi w1 (n_v vs 0) 15 = w_fi w2 (n_v vs 0) 15 := by show v_iv (w_fd _ _ _) = v_iv (w_fd _ _ _); rw [s2.2, if_neg (fun e => absurd e.2 (by decide))]
  have fe_0_10_3 : w_fi w2 (n_v vs 0) 10 = w_fi w3 (n_v vs 0) 10 := by show v_iv (w_fd _ _ _) = v_iv (w_fd _ _ _); rw [s3.2, if_neg (fun e => absurd e.2 (by decide))]
  have fe_0_11_3 : w_fi w2 (n_v vs 0) 11 = w_fi w3 (n_v vs 0) 11 := by show v_iv (w_fd _ _ _) = v_iv (w_fd _ _ _); rw [s3.2, if_neg (fun e => absurd e.2 (by decide))]
  have fe_0_13_3 : w_fi w2 (n_v vs 0) 13 = w_fi w3 (n_v vs 0) 13 := by show v_iv (w_fd _ _ _) = v_iv (w_fd _ _ _); rw [s3.2, if_neg (fun e => absurd e.2 (by decide))]
  have fe_0_14_3 : w_fi w2 (n_v vs 0) 14 = w_fi w3 (n_v vs 0) 14 := by show v_iv (w_fd _ _ _) = v_iv (w_fd _ _ _); rw [s3.2, if_neg (fun e => absurd e.2 (by decide))]
  have fe_0_10_4 : w_fi w3 (n_v vs 0) 10 = w_fi w4 (n_v vs 0) 10 := by show v_iv (w_fd _ _ _) = v_iv (w_fd _ _ _); rw [s4.2, if_neg (fun e => absurd e.2 (by decide))]
  have fe_0_11_4 : w_fi w3 (n_v vs 0) 11 = w_fi w4 (n_v vs 0) 11 := by show v_iv (w_fd _ _ _) = v_iv (w_fd _ _ _); rw [s4.2, if_neg (fun e => absurd e.2 (by decide))]
  have fe_0_13_4 : w_fi w3 (n_v vs 0) 13 = v_iv (n_v vs 3) := by show v_iv (w_fd _ _ _) = _; rw [s4.2, if_pos ⟨rfl, rfl⟩]
  have hE_0_1_1 : ∀ j : Int, w_ei ws (w_ar ws (n_v vs 0) 1) j = w_ei w1 (w_ar ws (n_v vs 0) 1) j := fun j => s1.1 _ _
  have hE_0_1_2 : ∀ j : Int, w_ei w1 (w_ar ws (n_v vs 0) 1) j = w_ei w2 (w_ar ws (n_v vs 0) 1) j := fun j => s2.1 _ _
  have hE_0_1_3 : ∀ j : Int, w_ei w2 (w_ar ws (n_v vs 0) 1) j = w_ei w3 (w_ar ws (n_v vs 0) 1) j := fun j => s3.1 _ _
  have hE_0_1_4 : ∀ j : Int, w_ei w3 (w_ar ws (n_v vs 0) 1) j = w_ei w4 (w_ar ws (n_v vs 0) 1) j := fun j => s4.1 _ _
  have hK_0_1 := elq_7 hD hth cr_0_1
  have kz_0_10 := fdq_43 hD hth r0
  have kz_0_11 := fdq_237 hD hth r0
  have kz_0_13 := fdq_238 hD hth r0
  have kz_0_14 := fdq_188 hD hth r0
  have kz_0_15 := fdq_239 hD hth r0
  have nf0 : fc_1 PRD (20, [1, 2], [30, 0, 1, 0, 0, -1, 1, 15]) ws (vs) := by
    refine ⟨nf_in hl rfl, sgq_1436 ?_⟩
    · show 1 * v_iv (n_v vs 1) + ((-1) * w_fi ws (n_v vs 2) 15 + 0) ≤ 0
      rw [q2]
      exact vc_Mo_next_9_0 (v_iv (n_v vs 1)) (v_iv (n_v vs 3)) (v_iv (n_v vs 4)) (w_fi ws (n_v vs 0) 15) (w_fi ws (n_v vs 0) 13) (w_fi ws (n_v vs 0) 11) (w_ei ws (w_ar ws (n_v vs 0) 1)) (w_fi ws (n_v vs 0) 10) (w_ei w1 (w_ar ws (n_v vs 0) 1)) (w_fi w1 (n_v vs 0) 10) (w_fi w1 (n_v vs 0) 11) (w_ei w2 (w_ar ws (n_v vs 0) 1)) (w_fi w2 (n_v vs 0) 10) (w_fi w2 (n_v vs 0) 11) (w_fi w3 (n_v vs 0) 11) (w_ei w3 (w_ar ws (n_v vs 0) 1)) (w_fi w3 (n_v vs 0) 10) (w_fi w4 (n_v vs 0) 11) (w_ei w4 (w_ar ws (n_v vs 0) 1)) (w_fi w4 (n_v vs 0) 10) (w_fi w1 (n_v vs 0) 13) (w_fi w1 (n_v vs 0) 15) (w_fi w2 (n_v vs 0) 13) (w_fi w1 (n_v vs 0) 14) (w_fi w2 (n_v vs 0) 14) (w_fi w2 (n_v vs 0) 15) (w_fi w3 (n_v vs 0) 13) (w_fi w3 (n_v vs 0) 14) k1 k3 k4 g1 g2 g3 f5 f6 f7 f11 f12 f16 f17 fe_0_10_1 fe_0_11_1 fe_0_13_1 fe_0_15_1 fe_0_10_2 fe_0_11_2 fe_0_13_2 fe_0_14_2 fe_0_15_2 fe_0_10_3 fe_0_11_3 fe_0_13_3 fe_0_14_3 fe_0_10_4 fe_0_11_4 hE_0_1_1 hE_0_1_2 hE_0_1_3 hE_0_1_4 hK_0_1 kz_0_10 kz_0_11 kz_0_13 kz_0_15
  have nf1 : fc_1 PRD (20, [2], [50, 2, 0, 11, 15, 1, 3, 2, 0, 11, 2, 0, 15]) ws (vs) := by
    refine ⟨nf_in hl rfl, sgq_1440 ?_⟩
    · show w_fi ws (n_v vs 2) 11 = w_fi ws (n_v vs 2) 15
      rw [q2]
      exact vc_Mo_next_9_1 (v_iv (n_v vs 3)) (v_iv (n_v vs 4)) (w_fi ws (n_v vs 0) 15) (w_fi ws (n_v vs 0) 13) (w_fi ws (n_v vs 0) 11) (w_ei ws (w_ar ws (n_v vs 0) 1)) (w_fi ws (n_v vs 0) 10) (w_ei w1 (w_ar ws (n_v vs 0) 1)) (w_fi w1 (n_v vs 0) 10) (w_fi w1 (n_v vs 0) 11) (w_ei w2 (w_ar ws (n_v vs 0) 1)) (w_fi w2 (n_v vs 0) 10) (w_fi w2 (n_v vs 0) 11) (w_fi w3 (n_v vs 0) 11) (w_ei w3 (w_ar ws (n_v vs 0) 1)) (w_fi w3 (n_v vs 0) 10) (w_fi w4 (n_v vs 0) 11) (w_ei w4 (w_ar ws (n_v vs 0) 1)) (w_fi w4 (n_v vs 0) 10) (w_fi w1 (n_v vs 0) 13) (w_fi w1 (n_v vs 0) 15) (w_fi w2 (n_v vs 0) 13) (w_fi w1 (n_v vs 0) 14) (w_fi w2 (n_v vs 0) 14) (w_fi w2 (n_v vs 0) 15) (w_fi w3 (n_v vs 0) 13) (w_fi w3 (n_v vs 0) 14) k3 k4 g1 g2 g3 f5 f6 f11 f12 f16 f17 fe_0_10_1 fe_0_11_1 fe_0_13_1 fe_0_15_1 fe_0_10_2 fe_0_11_2 fe_0_13_2 fe_0_14_2 fe_0_15_2 fe_0_10_3 fe_0_11_3 fe_0_13_3 fe_0_14_3 fe_0_10_4 fe_0_11_4 hE_0_1_1 hE_0_1_2 hE_0_1_3 hE_0_1_4 hK_0_1 kz_0_10 kz_0_11 kz_0_13 kz_0_15
  have nf2 : fc_1 PRD (20, [2, 1, 4], [60, 4, 1, 956, 10, 11, 13, 15, 1]) ws (vs) := by
    refine ⟨nf_in hl rfl, sgq_1441 ?_⟩
    · show ZXS (w_fi ws (n_v vs 2) 10) (w_fi ws (n_v vs 2) 11) (w_fi ws (n_v vs 2) 13) (w_fi ws (n_v vs 2) 15) (w_ei ws (w_ar ws (n_v vs 2) 1)) (v_iv (n_v vs 1)) (v_iv (n_v vs 4))
      rw [q2]
      exact vc_Mo_next_9_2 (v_iv (n_v vs 1)) (v_iv (n_v vs 3)) (v_iv (n_v vs 4)) (w_fi ws (n_v vs 0) 14) (w_fi ws (n_v vs 0) 15) (w_fi ws (n_v vs 0) 13) (w_fi ws (n_v vs 0) 11) (w_ei ws (w_ar ws (n_v vs 0) 1)) (w_fi ws (n_v vs 0) 10) (w_ei w1 (w_ar ws (n_v vs 0) 1)) (w_fi w1 (n_v vs 0) 10) (w_fi w1 (n_v vs 0) 11) (w_ei w2 (w_ar ws (n_v vs 0) 1)) (w_fi w2 (n_v vs 0) 10) (w_fi w2 (n_v vs 0) 11) (w_fi w3 (n_v vs 0) 11) (w_ei w3 (w_ar ws (n_v vs 0) 1)) (w_fi w3 (n_v vs 0) 10) (w_fi w4 (n_v vs 0) 11) (w_ei w4 (w_ar ws (n_v vs 0) 1)) (w_fi w4 (n_v vs 0) 10) (w_fi w1 (n_v vs 0) 13) (w_fi w1 (n_v vs 0) 15) (w_fi w2 (n_v vs 0) 13) (w_fi w1 (n_v vs 0) 14) (w_fi w2 (n_v vs 0) 14) (w_fi w2 (n_v vs 0) 15) (w_fi w3 (n_v vs 0) 13) (w_fi w3 (n_v vs 0) 14) k1 k3 k4 g0 g1 g2 g3 f11 f16 f17 f25 fe_0_10_1 fe_0_11_1 fe_0_13_1 fe_0_15_1 fe_0_10_2 fe_0_11_2 fe_0_13_2 fe_0_14_2 fe_0_15_2 fe_0_10_3 fe_0_11_3 fe_0_13_3 fe_0_14_3 fe_0_10_4 fe_0_11_4 fe_0_13_4 hE_0_1_1 hE_0_1_2 hE_0_1_3 hE_0_1_4 kz_0_10 kz_0_11 kz_0_13 kz_0_14 kz_0_15
  refine ⟨(fun _ h => (by cases h)), [], trivial, ?_, (fun _ h => (by cases h))⟩
  rw [List.append_nil]
  exact List.forall_mem_cons.mpr ⟨⟨show (20 : Nat) < 100 from by decide, nf0⟩, List.forall_mem_cons.mpr ⟨⟨show (20 : Nat) < 100 from by decide, nf1⟩, List.forall_mem_cons.mpr ⟨⟨show (20 : Nat) < 100 from by decide, nf2⟩, (fun _ h => (by cases h))⟩⟩⟩
set_option maxHeartbeats 4000000 in
theorem vc_Mo_next_10_0 (x1 : Int) (x3 : Int) (x4 : Int) (from_0 : Int) (place_0 : Int) (pos_0 : Int) (tape_0 : Int → Int) (limit_0 : Int) (tape_1 : Int → Int) (limit_1 : Int) (pos_1 : Int) (tape_2 : Int → Int) (limit_2 : Int) (pos_2 : Int) (pos_3 : Int) (tape_3 : Int → Int) (limit_3 : Int) (pos_4 : Int) (tape_4 : Int → Int) (limit_4 : Int) (place_1 : Int) (from_1 : Int) (place_2 : Int) (value_1 : Int) (value_2 : Int) (from_2 : Int) (place_3 : Int) (value_3 : Int) (k1 : 0 ≤ x1 ∧ x1 ≤ 2000) (k3 : 0 ≤ x3 ∧ x3 ≤ 1999) (k4 : 58 ≤ x4 ∧ x4 ≤ 64) (g1 : x3 = from_0) (g2 : x3 = place_0) (g3 : x3 = pos_0) (f5 : ((x3 + 1) ≤ limit_0) → (x4 = (tape_0 (x3) % 256))) (f6 : (limit_0 ≤ x3) → (x4 = (-1))) (f7 : 1 * x1 + ((-1) * pos_0 + 0) ≤ 0) (f11 : ((x3 + 1) ≤ limit_1) → (x4 = (tape_1 (x3) % 256))) (f12 : (limit_1 ≤ x3) → (x4 = (-1))) (f16 : ((x3 + 1) ≤ limit_2) → (x4 = (tape_2 (x3) % 256))) (f17 : (limit_2 ≤ x3) → (x4 = (-1))) (fe_0_10_1 : limit_0 = limit_1) (fe_0_11_1 : pos_0 = pos_1) (fe_0_13_1 : place_0 = place_1) (fe_0_15_1 : from_0 = from_1) (fe_0_10_2 : limit_1 = limit_2) (fe_0_11_2 : pos_1 = pos_2) (fe_0_13_2 : place_1 = place_2) (fe_0_14_2 : value_1 = value_2) (fe_0_15_2 : from_1 = from_2) (fe_0_10_3 : limit_2 = limit_3) (fe_0_11_3 : pos_2 = pos_3) (fe_0_13_3 : place_2 = place_3) (fe_0_14_3 : value_2 = value_3) (fe_0_10_4 : limit_3 = limit_4) (fe_0_11_4 : pos_3 = pos_4) (hE_0_1_1 : ∀ j : Int, tape_0 j = tape_1 j) (hE_0_1_2 : ∀ j : Int, tape_1 j = tape_2 j) (hE_0_1_3 : ∀ j : Int, tape_2 j = tape_3 j) (hE_0_1_4 : ∀ j : Int, tape_3 j = tape_4 j) (hK_0_1 : ∀ j : Int, 0 ≤ j → j < 2000 → (-128) ≤ tape_0 j ∧ tape_0 j ≤ 127) (kz_0_10 : 0 ≤ limit_0 ∧ limit_0 ≤ 2000) (kz_0_11 : 0 ≤ pos_0 ∧ pos_0 ≤ 2000) (kz_0_13 : 0 ≤ place_0 ∧ place_0 ≤ 2000) (kz_0_15 : 0 ≤ from_0 ∧ from_0 ≤ 2000) : 1 * x1 + ((-1) * from_0 + 0) ≤ 0 := by
  subst fe_0_10_1
  subst fe_0_11_1
  subst fe_0_13_1
  subst fe_0_15_1
  subst fe_0_10_2
  subst fe_0_11_2
  subst fe_0_13_2
  subst fe_0_14_2
  subst fe_0_15_2
  subst fe_0_10_3
  subst fe_0_11_3
  subst fe_0_13_3
  subst fe_0_14_3
  subst fe_0_10_4
  subst fe_0_11_4
  have e_hE_0_1_1 := funext hE_0_1_1; subst e_hE_0_1_1
  have e_hE_0_1_2 := funext hE_0_1_2; subst e_hE_0_1_2
  have e_hE_0_1_3 := funext hE_0_1_3; subst e_hE_0_1_3
  have e_hE_0_1_4 := funext hE_0_1_4; subst e_hE_0_1_4
  first | with_reducible assumption | ((try and_intros) <;> first | with_reducible assumption | (clear hE_0_1_1 hE_0_1_2 hE_0_1_3 hE_0_1_4 hK_0_1 f5 f6 f11 f12 f16 f17; omega)) | ((first | have f5_b := f5 (by clear hE_0_1_1 hE_0_1_2 hE_0_1_3 hE_0_1_4 hK_0_1 f5 f6 f11 f12 f16 f17; omega) | skip); (first | have f6_b := f6 (by clear hE_0_1_1 hE_0_1_2 hE_0_1_3 hE_0_1_4 hK_0_1 f5 f6 f11 f12 f16 f17; omega) | skip); (first | have f11_b := f11 (by clear hE_0_1_1 hE_0_1_2 hE_0_1_3 hE_0_1_4 hK_0_1 f5 f6 f11 f12 f16 f17; omega) | skip); (first | have f12_b := f12 (by clear hE_0_1_1 hE_0_1_2 hE_0_1_3 hE_0_1_4 hK_0_1 f5 f6 f11 f12 f16 f17; omega) | skip); (first | have f16_b := f16 (by clear hE_0_1_1 hE_0_1_2 hE_0_1_3 hE_0_1_4 hK_0_1 f5 f6 f11 f12 f16 f17; omega) | skip); (first | have f17_b := f17 (by clear hE_0_1_1 hE_0_1_2 hE_0_1_3 hE_0_1_4 hK_0_1 f5 f6 f11 f12 f16 f17; omega) | skip); (first | have f5_d := f5 (by with_reducible assumption) | skip); (first | have f6_d := f6 (by with_reducible assumption) | skip); (first | have f11_d := f11 (by with_reducible assumption) | skip); (first | have f12_d := f12 (by with_reducible assumption) | skip); (first | have f16_d := f16 (by with_reducible assumption) | skip); (first | have f17_d := f17 (by with_reducible assumption) | skip); (try and_intros) <;> first | with_reducible assumption | (clear hE_0_1_1 hE_0_1_2 hE_0_1_3 hE_0_1_4 hK_0_1 f5 f6 f11 f12 f16 f17; omega)) | omega
set_option maxHeartbeats 4000000 in
theorem vc_Mo_next_10_1 (x3 : Int) (x4 : Int) (from_0 : Int) (place_0 : Int) (pos_0 : Int) (tape_0 : Int → Int) (limit_0 : Int) (tape_1 : Int → Int) (limit_1 : Int) (pos_1 : Int) (tape_2 : Int → Int) (limit_2 : Int) (pos_2 : Int) (pos_3 : Int) (tape_3 : Int → Int) (limit_3 : Int) (pos_4 : Int) (tape_4 : Int → Int) (limit_4 : Int) (place_1 : Int) (from_1 : Int) (place_2 : Int) (value_1 : Int) (value_2 : Int) (from_2 : Int) (place_3 : Int) (value_3 : Int) (k3 : 0 ≤ x3 ∧ x3 ≤ 1999) (k4 : 58 ≤ x4 ∧ x4 ≤ 64) (g1 : x3 = from_0) (g2 : x3 = place_0) (g3 : x3 = pos_0) (f5 : ((x3 + 1) ≤ limit_0) → (x4 = (tape_0 (x3) % 256))) (f6 : (limit_0 ≤ x3) → (x4 = (-1))) (f11 : ((x3 + 1) ≤ limit_1) → (x4 = (tape_1 (x3) % 256))) (f12 : (limit_1 ≤ x3) → (x4 = (-1))) (f16 : ((x3 + 1) ≤ limit_2) → (x4 = (tape_2 (x3) % 256))) (f17 : (limit_2 ≤ x3) → (x4 = (-1))) (fe_0_10_1 : limit_0 = limit_1) (fe_0_11_1 : pos_0 = pos_1) (fe_0_13_1 : place_0 = place_1) (fe_0_15_1 : from_0 = from_1) (fe_0_10_2 : limit_1 = limit_2) (fe_0_11_2 : pos_1 = pos_2) (fe_0_13_2 : place_1 = place_2) (fe_0_14_2 : value_1 = value_2) (fe_0_15_2 : from_1 = from_2) (fe_0_10_3 : limit_2 = limit_3) (fe_0_11_3 : pos_2 = pos_3) (fe_0_13_3 : place_2 = place_3) (fe_0_14_3 : value_2 = value_3) (fe_0_10_4 : limit_3 = limit_4) (fe_0_11_4 : pos_3 = pos_4) (hE_0_1_1 : ∀ j : Int, tape_0 j = tape_1 j) (hE_0_1_2 : ∀ j : Int, tape_1 j = tape_2 j) (hE_0_1_3 : ∀ j : Int, tape_2 j = tape_3 j) (hE_0_1_4 : ∀ j : Int, tape_3 j = tape_4 j) (hK_0_1 : ∀ j : Int, 0 ≤ j → j < 2000 → (-128) ≤ tape_0 j ∧ tape_0 j ≤ 127) (kz_0_10 : 0 ≤ limit_0 ∧ limit_0 ≤ 2000) (kz_0_11 : 0 ≤ pos_0 ∧ pos_0 ≤ 2000) (kz_0_13 : 0 ≤ place_0 ∧ place_0 ≤ 2000) (kz_0_15 : 0 ≤ from_0 ∧ from_0 ≤ 2000) : pos_0 = from_0 := by
  subst fe_0_10_1
  subst fe_0_11_1
  subst fe_0_13_1
  subst fe_0_15_1
  subst fe_0_10_2
  subst fe_0_11_2
  subst fe_0_13_2
  subst fe_0_14_2
  subst fe_0_15_2
  subst fe_0_10_3
  subst fe_0_11_3
  subst fe_0_13_3
  subst fe_0_14_3
  subst fe_0_10_4
  subst fe_0_11_4
  have e_hE_0_1_1 := funext hE_0_1_1; subst e_hE_0_1_1
  have e_hE_0_1_2 := funext hE_0_1_2; subst e_hE_0_1_2
  have e_hE_0_1_3 := funext hE_0_1_3; subst e_hE_0_1_3
  have e_hE_0_1_4 := funext hE_0_1_4; subst e_hE_0_1_4
  first | with_reducible assumption | ((try and_intros) <;> first | with_reducible assumption | (clear hE_0_1_1 hE_0_1_2 hE_0_1_3 hE_0_1_4 hK_0_1 f5 f6 f11 f12 f16 f17; omega)) | ((first | have f5_b := f5 (by clear hE_0_1_1 hE_0_1_2 hE_0_1_3 hE_0_1_4 hK_0_1 f5 f6 f11 f12 f16 f17; omega) | skip); (first | have f6_b := f6 (by clear hE_0_1_1 hE_0_1_2 hE_0_1_3 hE_0_1_4 hK_0_1 f5 f6 f11 f12 f16 f17; omega) | skip); (first | have f11_b := f11 (by clear hE_0_1_1 hE_0_1_2 hE_0_1_3 hE_0_1_4 hK_0_1 f5 f6 f11 f12 f16 f17; omega) | skip); (first | have f12_b := f12 (by clear hE_0_1_1 hE_0_1_2 hE_0_1_3 hE_0_1_4 hK_0_1 f5 f6 f11 f12 f16 f17; omega) | skip); (first | have f16_b := f16 (by clear hE_0_1_1 hE_0_1_2 hE_0_1_3 hE_0_1_4 hK_0_1 f5 f6 f11 f12 f16 f17; omega) | skip); (first | have f17_b := f17 (by clear hE_0_1_1 hE_0_1_2 hE_0_1_3 hE_0_1_4 hK_0_1 f5 f6 f11 f12 f16 f17; omega) | skip); (first | have f5_d := f5 (by with_reducible assumption) | skip); (first | have f6_d := f6 (by with_reducible assumption) | skip); (first | have f11_d := f11 (by with_reducible assumption) | skip); (first | have f12_d := f12 (by with_reducible assumption) | skip); (first | have f16_d := f16 (by with_reducible assumption) | skip); (first | have f17_d := f17 (by with_reducible assumption) | skip); (try and_intros) <;> first | with_reducible assumption | (clear hE_0_1_1 hE_0_1_2 hE_0_1_3 hE_0_1_4 hK_0_1 f5 f6 f11 f12 f16 f17; omega)) | omega
set_option maxHeartbeats 4000000 in
theorem vc_Mo_next_10_2 (x1 : Int) (x3 : Int) (x4 : Int) (value_0 : Int) (from_0 : Int) (place_0 : Int) (pos_0 : Int) (tape_0 : Int → Int) (limit_0 : Int) (tape_1 : Int → Int) (limit_1 : Int) (pos_1 : Int) (tape_2 : Int → Int) (limit_2 : Int) (pos_2 : Int) (pos_3 : Int) (tape_3 : Int → Int) (limit_3 : Int) (pos_4 : Int) (tape_4 : Int → Int) (limit_4 : Int) (place_1 : Int) (from_1 : Int) (place_2 : Int) (value_1 : Int) (value_2 : Int) (from_2 : Int) (place_3 : Int) (value_3 : Int) (k1 : 0 ≤ x1 ∧ x1 ≤ 2000) (k3 : 0 ≤ x3 ∧ x3 ≤ 1999) (k4 : 58 ≤ x4 ∧ x4 ≤ 64) (g0 : x4 = value_0) (g1 : x3 = from_0) (g2 : x3 = place_0) (g3 : x3 = pos_0) (f11 : ((x3 + 1) ≤ limit_1) → (x4 = (tape_1 (x3) % 256))) (f16 : ((x3 + 1) ≤ limit_2) → (x4 = (tape_2 (x3) % 256))) (f17 : (limit_2 ≤ x3) → (x4 = (-1))) (f25 : ZX1 (limit_4) (pos_4) (tape_4) (x1)) (fe_0_10_1 : limit_0 = limit_1) (fe_0_11_1 : pos_0 = pos_1) (fe_0_13_1 : place_0 = place_1) (fe_0_15_1 : from_0 = from_1) (fe_0_10_2 : limit_1 = limit_2) (fe_0_11_2 : pos_1 = pos_2) (fe_0_13_2 : place_1 = place_2) (fe_0_14_2 : value_1 = value_2) (fe_0_15_2 : from_1 = from_2) (fe_0_10_3 : limit_2 = limit_3) (fe_0_11_3 : pos_2 = pos_3) (fe_0_13_3 : place_2 = place_3) (fe_0_14_3 : value_2 = value_3) (fe_0_10_4 : limit_3 = limit_4) (fe_0_11_4 : pos_3 = pos_4) (fe_0_13_4 : place_3 = x3) (hE_0_1_1 : ∀ j : Int, tape_0 j = tape_1 j) (hE_0_1_2 : ∀ j : Int, tape_1 j = tape_2 j) (hE_0_1_3 : ∀ j : Int, tape_2 j = tape_3 j) (hE_0_1_4 : ∀ j : Int, tape_3 j = tape_4 j) (kz_0_10 : 0 ≤ limit_0 ∧ limit_0 ≤ 2000) (kz_0_11 : 0 ≤ pos_0 ∧ pos_0 ≤ 2000) (kz_0_13 : 0 ≤ place_0 ∧ place_0 ≤ 2000) (kz_0_14 : (-49) ≤ value_0 ∧ value_0 ≤ 1048575) (kz_0_15 : 0 ≤ from_0 ∧ from_0 ≤ 2000) : ZXS (limit_0) (pos_0) (place_0) (from_0) (tape_0) (x1) (x4) := by
  subst fe_0_10_1
  subst fe_0_11_1
  subst fe_0_13_1
  subst fe_0_15_1
  subst fe_0_10_2
  subst fe_0_11_2
  subst fe_0_13_2
  subst fe_0_14_2
  subst fe_0_15_2
  subst fe_0_10_3
  subst fe_0_11_3
  subst fe_0_13_3
  subst fe_0_14_3
  subst fe_0_10_4
  subst fe_0_11_4
  have e_hE_0_1_1 := funext hE_0_1_1; subst e_hE_0_1_1
  have e_hE_0_1_2 := funext hE_0_1_2; subst e_hE_0_1_2
  have e_hE_0_1_3 := funext hE_0_1_3; subst e_hE_0_1_3
  have e_hE_0_1_4 := funext hE_0_1_4; subst e_hE_0_1_4
  first | subst g0 | skip
  first | subst g1 | skip
  first | subst g2 | skip
  first | subst g3 | skip
  exact zxs_mk ‹ZX1 _ _ _ _› (by omega) (by omega) (by omega) (by omega) (by omega) (by omega)
def o_Mo_next_10 : or_T := (277, 8, [(0, (2, 0, 0, [165])), (1, (0, 0, 2000, [])), (2, (2, 0, 0, [165])), (3, (0, 0, 1999, [])), (4, (0, 58, 64, []))], [(9, [4, 2], [14]), (9, [3, 2], [15]), (9, [3, 2], [13]), (9, [3, 2], [11]), (8, [4], [3]), (20, [3, 2, 4], [50, 1, 1, 1010, 1001, 4, 11, 0, 6, 4, 2, 1, 0, 0, 1, 2, 1, 10, 1, 2, 1, 2, 9, 5, 3, 1, 1, 1, 0, 0, 256]), (20, [2, 3, 4], [50, 1, 0, 10, 4, 7, 0, 3, 2, 0, 10, 1, 1, 1, 2, 1, 2, 0, -1]), (20, [1, 2], [30, 0, 1, 0, 0, -1, 1, 11]), (20, [2, 1], [60, 2, 1, 950, 10, 11, 1]), (24, [0, 2], []), (101, [2, 4], [14]), (20, [3, 2, 4], [50, 1, 1, 1010, 1001, 4, 11, 0, 6, 4, 2, 1, 0, 0, 1, 2, 1, 10, 1, 2, 1, 2, 9, 5, 3, 1, 1, 1, 0, 0, 256]), (20, [2, 3, 4], [50, 1, 0, 10, 4, 7, 0, 3, 2, 0, 10, 1, 1, 1, 2, 1, 2, 0, -1]), (20, [1, 2], [30, 0, 1, 0, 0, -1, 1, 11]), (20, [2, 1], [60, 2, 1, 950, 10, 11, 1]), (101, [2, 5], [12]), (20, [3, 2, 4], [50, 1, 1, 1010, 1001, 4, 11, 0, 6, 4, 2, 1, 0, 0, 1, 2, 1, 10, 1, 2, 1, 2, 9, 5, 3, 1, 1, 1, 0, 0, 256]), (20, [2, 3, 4], [50, 1, 0, 10, 4, 7, 0, 3, 2, 0, 10, 1, 1, 1, 2, 1, 2, 0, -1]), (20, [1, 2], [30, 0, 1, 0, 0, -1, 1, 11]), (20, [2, 1], [60, 2, 1, 950, 10, 11, 1]), (101, [2, 3], [15]), (20, [1, 2], [30, 0, 1, 0, 0, -1, 1, 11]), (20, [2, 1], [60, 2, 1, 950, 10, 11, 1]), (101, [2, 3], [13]), (20, [1, 2], [30, 0, 1, 0, 0, -1, 1, 11]), (20, [2, 1], [60, 2, 1, 950, 10, 11, 1])], [], [], [(20, [1, 2], [30, 0, 1, 0, 0, -1, 1, 15]), (20, [2], [50, 2, 0, 11, 15, 1, 3, 2, 0, 11, 2, 0, 15]), (20, [2, 1, 4], [60, 4, 1, 956, 10, 11, 13, 15, 1])], [], [])
theorem oo_Mo_next_10 {kA : Nat → ClassId} : or_ok PRD kA GG o_Mo_next_10 := by
  refine or_mk fun A ta ws vs hD hth hl => ?_
  intro t0 r0 t1 k1 t2 r2 t3 k3 t4 k4 f0 f1 f2 f3 f4 f5 f6 f7 f8 f9 ta1 w1 le1 s1 f11 f12 f13 f14 ta2 w2 le2 s2 f16 f17 f18 f19 ta3 w3 le3 s3 f21 f22 ta4 w4 le4 s4 f24 f25
  replace f0 := shm_115 f0
  replace f1 := shm_177 f1
  replace f2 := shm_361 f2
  replace f3 := shm_116 f3
  replace f5 := shm_541 f5
  replace f6 := shm_542 f6
  replace f7 := shm_1431 f7
  replace f9 := shm_5 f9
  have s1 : (∀ b j, w_el ws b j = w_el w1 b j) ∧ ∀ b j, w_fd ws b j = if b = v_ad (n_v vs 2) ∧ j = 14 then n_v vs 4 else w_fd w1 b j := s1.2
  replace f11 := shm_541 f11
  replace f12 := shm_542 f12
  have s2 : (∀ b j, w_el w1 b j = w_el w2 b j) ∧ ∀ b j, w_fd w1 b j = if b = v_ad (n_v vs 2) ∧ j = 12 then n_v vs 5 else w_fd w2 b j := s2.2
  replace f16 := shm_541 f16
  replace f17 := shm_542 f17
  have s3 : (∀ b j, w_el w2 b j = w_el w3 b j) ∧ ∀ b j, w_fd w2 b j = if b = v_ad (n_v vs 2) ∧ j = 15 then n_v vs 3 else w_fd w3 b j := s3.2
  have s4 : (∀ b j, w_el w3 b j = w_el w4 b j) ∧ ∀ b j, w_fd w3 b j = if b = v_ad (n_v vs 2) ∧ j = 13 then n_v vs 3 else w_fd w4 b j := s4.2
  replace f25 := shm_1435 f25
  have q2 : n_v vs 2 = n_v vs 0 := f9.symm
  simp only [q2] at f0 f1 f2 f3 f5 f6 f7
  rw [q2] at s1
  simp only [q2] at f11 f12
  rw [q2] at s2
  simp only [q2] at f16 f17
  rw [q2] at s3
  rw [q2] at s4
  simp only [q2] at f25
  have ar_0_1_1 : w_ar w1 (n_v vs 0) 1 = w_ar ws (n_v vs 0) 1 := by show v_ad (w_fd w1 _ _) = v_ad (w_fd ws _ _); rw [s1.2, if_neg (fun e => absurd e.2 (by decide))]
  have ar_0_1_2 : w_ar w2 (n_v vs 0) 1 = w_ar ws (n_v vs 0) 1 := by rw [← ar_0_1_1]; show v_ad (w_fd w2 _ _) = v_ad (w_fd w1 _ _); rw [s2.2, if_neg (fun e => absurd e.2 (by decide))]
  have ar_0_1_3 : w_ar w3 (n_v vs 0) 1 = w_ar ws (n_v vs 0) 1 := by rw [← ar_0_1_2]; show v_ad (w_fd w3 _ _) = v_ad (w_fd w2 _ _); rw [s3.2, if_neg (fun e => absurd e.2 (by decide))]
  have ar_0_1_4 : w_ar w4 (n_v vs 0) 1 = w_ar ws (n_v vs 0) 1 := by rw [← ar_0_1_3]; show v_ad (w_fd w4 _ _) = v_ad (w_fd w3 _ _); rw [s4.2, if_neg (fun e => absurd e.2 (by decide))]
  have cr_0_1 := fdq_39 hD hth r0
  have g0 : v_iv (n_v vs 4) = w_fi ws (n_v vs 0) 14 := congrArg v_iv f0
  have g1 : v_iv (n_v vs 3) = w_fi ws (n_v vs 0) 15 := congrArg v_iv f1
  have g2 : v_iv (n_v vs 3) = w_fi ws (n_v vs 0) 13 := congrArg v_iv f2
  have g3 : v_iv (n_v vs 3) = w_fi ws (n_v vs 0) 11 := congrArg v_iv f3
  simp only [ar_0_1_1, ar_0_1_2, ar_0_1_3, ar_0_1_4] at f11 f16 f25
  have fe_0_10_1 : w_fi ws (n_v vs 0) 10 = w_fi w1 (n_v vs 0) 10 := by show v_iv (w_fd _ _ _) = v_iv (w_fd _ _ _); rw [s1.2, if_neg (fun e => absurd e.2 (by decide))]
  have fe_0_11_1 : w_fi ws (n_v vs 0) 11 = w_fi w1 (n_v vs 0) 11 := by show v_iv (w_fd _ _ _) = v_iv (w_fd _ _ _); rw [s1.2, if_neg (fun e => absurd e.2 (by decide))]
  have fe_0_13_1 : w_fi ws (n_v vs 0) 13 = w_fi w1 (n_v vs 0) 13 := by show v_iv (w_fd _ _ _) = v_iv (w_fd _ _ _); rw [s1.2, if_neg (fun e => absurd e.2 (by decide))]
  have fe_0_15_1 : w_fi ws (n_v vs 0) 15 = w_fi w1 (n_v vs 0) 15 := by show v_iv (w_fd _ _ _) = v_iv (w_fd _ _ _); rw [s1.2, if_neg (fun e => absurd e.2 (by decide))]
  have fe_0_10_2 : w_fi w1 (n_v vs 0) 10 = w_fi w2 (n_v vs 0) 10 := by show v_iv (w_fd _ _ _) = v_iv (w_fd _ _ _); rw [s2.2, if_neg (fun e => absurd e.2 (by decide))]
  have fe_0_11_2 : w_fi w1 (n_v vs 0) 11 = w_fi w2 (n_v vs 0) 11 := by show v_iv (w_fd _ _ _) = v_iv (w_fd _ _ _); rw [s2.2, if_neg (fun e => absurd e.2 (by decide))]
  have fe_0_13_2 : w_fi w1 (n_v vs 0) 13 = w_fi w2 (n_v vs 0) 13 := by show v_iv (w_fd _ _ _) = v_iv (w_fd _ _ _); rw [s2.2, if_neg (fun e => absurd e.2 (by decide))]
  have fe_0_14_2 : w_fi w1 (n_v vs 0) 14 = w_fi w2 (n_v vs 0) 14 := by show v_iv (w_fd _ _ _) = v_iv (w_fd _ _ _); rw [s2.2, if_neg (fun e => absurd e.2 (by decide))]
  have fe_0_15_2 : w_fi w1 (n_v vs 0) 15 = w_fi w2 (n_v vs 0) 15 := by show v_iv (w_fd _ _ _) = v_iv (w_fd _ _ _); rw [s2.2, if_neg (fun e => absurd e.2 (by decide))]
  have fe_0_10_3 : w_fi w2 (n_v vs 0) 10 = w_fi w3 (n_v vs 0) 10 := by show v_iv (w_fd _ _ _) = v_iv (w_fd _ _ _); rw [s3.2, if_neg (fun e => absurd e.2 (by decide))]
  have fe_0_11_3 : w_fi w2 (n_v vs 0) 11 = w_fi w3 (n_v vs 0) 11 := by show v_iv (w_fd _ _ _) = v_iv (w_fd _ _ _); rw [s3.2, if_neg (fun e => absurd e.2 (by decide))]
  have fe_0_13_3 : w_fi w2 (n_v vs 0) 13 = w_fi w3 (n_v vs 0) 13 := by show v_iv (w_fd _ _ _) = v_iv (w_fd _ _ _); rw [s3.2, if_neg (fun e => absurd e.2 (by decide))]
  have fe_0_14_3 : w_fi w2 (n_v vs 0) 14 = w_fi w3 (n_v vs 0) 14 := by show v_iv (w_fd _ _ _) = v_iv (w_fd _ _ _); rw [s3.2, if_neg (fun e => absurd e.2 (by decide))]
  have fe_0_10_4 : w_fi w3 (n_v vs 0) 10 = w_fi w4 (n_v vs 0) 10 := by show v_iv (w_fd _ _ _) = v_iv (w_fd _ _ _); rw [s4.2, if_neg (fun e => absurd e.2 (by decide))]
  have fe_0_11_4 : w_fi w3 (n_v vs 0) 11 = w_fi w4 (n_v vs 0) 11 := by show v_iv (w_fd _ _ _) = v_iv (w_fd _ _ _); rw [s4.2, if_neg (fun e => absurd e.2 (by decide))]
  have fe_0_13_4 : w_fi w3 (n_v vs 0) 13 = v_iv (n_v vs 3) := by show v_iv (w_fd _ _ _) = _; rw [s4.2, if_pos ⟨rfl, rfl⟩]
  have hE_0_1_1 : ∀ j : Int, w_ei ws (w_ar ws (n_v vs 0) 1) j = w_ei w1 (w_ar ws (n_v vs 0) 1) j := fun j => s1.1 _ _
  have hE_0_1_2 : ∀ j : Int, w_ei w1 (w_ar ws (n_v vs 0) 1) j = w_ei w2 (w_ar ws (n_v vs 0) 1) j := fun j => s2.1 _ _
  have hE_0_1_3 : ∀ j : Int, w_ei w2 (w_ar ws (n_v vs 0) 1) j = w_ei w3 (w_ar ws (n_v vs 0) 1) j := fun j => s3.1 _ _
  have hE_0_1_4 : ∀ j : Int, w_ei w3 (w_ar ws (n_v vs 0) 1) j = w_ei w4 (w_ar ws (n_v vs 0) 1) j := fun j => s4.1 _ _
  have hK_0_1 := elq_7 hD hth cr_0_1
  have kz_0_10 := fdq_43 hD hth r0
  have kz_0_11 := fdq_237 hD hth r0
  have kz_0_13 := fdq_238 hD hth r0
  have kz_0_14 := fdq_188 hD hth r0
  have kz_0_15 := fdq_239 hD hth r0
  have nf0 : fc_1 PRD (20, [1, 2], [30, 0, 1, 0, 0, -1, 1, 15]) ws (vs) := by
    refine ⟨nf_in hl rfl, sgq_1436 ?_⟩
    · show 1 * v_iv (n_v vs 1) + ((-1) * w_fi ws (n_v vs 2) 15 + 0) ≤ 0
      rw [q2]
      exact vc_Mo_next_10_0 (v_iv (n_v vs 1)) (v_iv (n_v vs 3)) (v_iv (n_v vs 4)) (w_fi ws (n_v vs 0) 15) (w_fi ws (n_v vs 0) 13) (w_fi ws (n_v vs 0) 11) (w_ei ws (w_ar ws (n_v vs 0) 1)) (w_fi ws (n_v vs 0) 10) (w_ei w1 (w_ar ws (n_v vs 0) 1)) (w_fi w1 (n_v vs 0) 10) (w_fi w1 (n_v vs 0) 11) (w_ei w2 (w_ar ws (n_v vs 0) 1)) (w_fi w2 (n_v vs 0) 10) (w_fi w2 (n_v vs 0) 11) (w_fi w3 (n_v vs 0) 11) (w_ei w3 (w_ar ws (n_v vs 0) 1)) (w_fi w3 (n_v vs 0) 10) (w_fi w4 (n_v vs 0) 11) (w_ei w4 (w_ar ws (n_v vs 0) 1)) (w_fi w4 (n_v vs 0) 10) (w_fi w1 (n_v vs 0) 13) (w_fi w1 (n_v vs 0) 15) (w_fi w2 (n_v vs 0) 13) (w_fi w1 (n_v vs 0) 14) (w_fi w2 (n_v vs 0) 14) (w_fi w2 (n_v vs 0) 15) (w_fi w3 (n_v vs 0) 13) (w_fi w3 (n_v vs 0) 14) k1 k3 k4 g1 g2 g3 f5 f6 f7 f11 f12 f16 f17 fe_0_10_1 fe_0_11_1 fe_0_13_1 fe_0_15_1 fe_0_10_2 fe_0_11_2 fe_0_13_2 fe_0_14_2 fe_0_15_2 fe_0_10_3 fe_0_11_3 fe_0_13_3 fe_0_14_3 fe_0_10_4 fe_0_11_4 hE_0_1_1 hE_0_1_2 hE_0_1_3 hE_0_1_4 hK_0_1 kz_0_10 kz_0_11 kz_0_13 kz_0_15
  have nf1 : fc_1 PRD (20, [2], [50, 2, 0, 11, 15, 1, 3, 2, 0, 11, 2, 0, 15]) ws (vs) := by
    refine ⟨nf_in hl rfl, sgq_1440 ?_⟩
    · show w_fi ws (n_v vs 2) 11 = w_fi ws (n_v vs 2) 15
      rw [q2]
      exact vc_Mo_next_10_1 (v_iv (n_v vs 3)) (v_iv (n_v vs 4)) (w_fi ws (n_v vs 0) 15) (w_fi ws (n_v vs 0) 13) (w_fi ws (n_v vs 0) 11) (w_ei ws (w_ar ws (n_v vs 0) 1)) (w_fi ws (n_v vs 0) 10) (w_ei w1 (w_ar ws (n_v vs 0) 1)) (w_fi w1 (n_v vs 0) 10) (w_fi w1 (n_v vs 0) 11) (w_ei w2 (w_ar ws (n_v vs 0) 1)) (w_fi w2 (n_v vs 0) 10) (w_fi w2 (n_v vs 0) 11) (w_fi w3 (n_v vs 0) 11) (w_ei w3 (w_ar ws (n_v vs 0) 1)) (w_fi w3 (n_v vs 0) 10) (w_fi w4 (n_v vs 0) 11) (w_ei w4 (w_ar ws (n_v vs 0) 1)) (w_fi w4 (n_v vs 0) 10) (w_fi w1 (n_v vs 0) 13) (w_fi w1 (n_v vs 0) 15) (w_fi w2 (n_v vs 0) 13) (w_fi w1 (n_v vs 0) 14) (w_fi w2 (n_v vs 0) 14) (w_fi w2 (n_v vs 0) 15) (w_fi w3 (n_v vs 0) 13) (w_fi w3 (n_v vs 0) 14) k3 k4 g1 g2 g3 f5 f6 f11 f12 f16 f17 fe_0_10_1 fe_0_11_1 fe_0_13_1 fe_0_15_1 fe_0_10_2 fe_0_11_2 fe_0_13_2 fe_0_14_2 fe_0_15_2 fe_0_10_3 fe_0_11_3 fe_0_13_3 fe_0_14_3 fe_0_10_4 fe_0_11_4 hE_0_1_1 hE_0_1_2 hE_0_1_3 hE_0_1_4 hK_0_1 kz_0_10 kz_0_11 kz_0_13 kz_0_15
  have nf2 : fc_1 PRD (20, [2, 1, 4], [60, 4, 1, 956, 10, 11, 13, 15, 1]) ws (vs) := by
    refine ⟨nf_in hl rfl, sgq_1441 ?_⟩
    · show ZXS (w_fi ws (n_v vs 2) 10) (w_fi ws (n_v vs 2) 11) (w_fi ws (n_v vs 2) 13) (w_fi ws (n_v vs 2) 15) (w_ei ws (w_ar ws (n_v vs 2) 1)) (v_iv (n_v vs 1)) (v_iv (n_v vs 4))
      rw [q2]
      exact vc_Mo_next_10_2 (v_iv (n_v vs 1)) (v_iv (n_v vs 3)) (v_iv (n_v vs 4)) (w_fi ws (n_v vs 0) 14) (w_fi ws (n_v vs 0) 15) (w_fi ws (n_v vs 0) 13) (w_fi ws (n_v vs 0) 11) (w_ei ws (w_ar ws (n_v vs 0) 1)) (w_fi ws (n_v vs 0) 10) (w_ei w1 (w_ar ws (n_v vs 0) 1)) (w_fi w1 (n_v vs 0) 10) (w_fi w1 (n_v vs 0) 11) (w_ei w2 (w_ar ws (n_v vs 0) 1)) (w_fi w2 (n_v vs 0) 10) (w_fi w2 (n_v vs 0) 11) (w_fi w3 (n_v vs 0) 11) (w_ei w3 (w_ar ws (n_v vs 0) 1)) (w_fi w3 (n_v vs 0) 10) (w_fi w4 (n_v vs 0) 11) (w_ei w4 (w_ar ws (n_v vs 0) 1)) (w_fi w4 (n_v vs 0) 10) (w_fi w1 (n_v vs 0) 13) (w_fi w1 (n_v vs 0) 15) (w_fi w2 (n_v vs 0) 13) (w_fi w1 (n_v vs 0) 14) (w_fi w2 (n_v vs 0) 14) (w_fi w2 (n_v vs 0) 15) (w_fi w3 (n_v vs 0) 13) (w_fi w3 (n_v vs 0) 14) k1 k3 k4 g0 g1 g2 g3 f11 f16 f17 f25 fe_0_10_1 fe_0_11_1 fe_0_13_1 fe_0_15_1 fe_0_10_2 fe_0_11_2 fe_0_13_2 fe_0_14_2 fe_0_15_2 fe_0_10_3 fe_0_11_3 fe_0_13_3 fe_0_14_3 fe_0_10_4 fe_0_11_4 fe_0_13_4 hE_0_1_1 hE_0_1_2 hE_0_1_3 hE_0_1_4 kz_0_10 kz_0_11 kz_0_13 kz_0_14 kz_0_15
  refine ⟨(fun _ h => (by cases h)), [], trivial, ?_, (fun _ h => (by cases h))⟩
  rw [List.append_nil]
  exact List.forall_mem_cons.mpr ⟨⟨show (20 : Nat) < 100 from by decide, nf0⟩, List.forall_mem_cons.mpr ⟨⟨show (20 : Nat) < 100 from by decide, nf1⟩, List.forall_mem_cons.mpr ⟨⟨show (20 : Nat) < 100 from by decide, nf2⟩, (fun _ h => (by cases h))⟩⟩⟩
set_option maxHeartbeats 4000000 in
theorem vc_Mo_next_11_0 (x1 : Int) (x3 : Int) (x4 : Int) (from_0 : Int) (place_0 : Int) (pos_0 : Int) (tape_0 : Int → Int) (limit_0 : Int) (tape_1 : Int → Int) (limit_1 : Int) (pos_1 : Int) (tape_2 : Int → Int) (limit_2 : Int) (pos_2 : Int) (tape_3 : Int → Int) (limit_3 : Int) (pos_3 : Int) (pos_4 : Int) (tape_4 : Int → Int) (limit_4 : Int) (pos_5 : Int) (tape_5 : Int → Int) (limit_5 : Int) (place_1 : Int) (from_1 : Int) (place_2 : Int) (from_2 : Int) (place_3 : Int) (value_2 : Int) (value_3 : Int) (from_3 : Int) (place_4 : Int) (value_4 : Int) (k1 : 0 ≤ x1 ∧ x1 ≤ 2000) (k3 : 0 ≤ x3 ∧ x3 ≤ 1999) (k4 : 48 ≤ x4 ∧ x4 ≤ 57) (g1 : x3 = from_0) (g2 : x3 = place_0) (g3 : x3 = pos_0) (f4 : ((x3 + 1) ≤ limit_0) → (x4 = (tape_0 (x3) % 256))) (f5 : (limit_0 ≤ x3) → (x4 = (-1))) (f6 : 1 * x1 + ((-1) * pos_0 + 0) ≤ 0) (f11 : ((x3 + 1) ≤ limit_1) → (x4 = (tape_1 (x3) % 256))) (f12 : (limit_1 ≤ x3) → (x4 = (-1))) (f16 : ((x3 + 1) ≤ limit_2) → (x4 = (tape_2 (x3) % 256))) (f17 : (limit_2 ≤ x3) → (x4 = (-1))) (f21 : ((x3 + 1) ≤ limit_3) → (x4 = (tape_3 (x3) % 256))) (f22 : (limit_3 ≤ x3) → (x4 = (-1))) (fe_0_10_1 : limit_0 = limit_1) (fe_0_11_1 : pos_0 = pos_1) (fe_0_13_1 : place_0 = place_1) (fe_0_15_1 : from_0 = from_1) (fe_0_10_2 : limit_1 = limit_2) (fe_0_11_2 : pos_1 = pos_2) (fe_0_13_2 : place_1 = place_2) (fe_0_15_2 : from_1 = from_2) (fe_0_10_3 : limit_2 = limit_3) (fe_0_11_3 : pos_2 = pos_3) (fe_0_13_3 : place_2 = place_3) (fe_0_14_3 : value_2 = value_3) (fe_0_15_3 : from_2 = from_3) (fe_0_10_4 : limit_3 = limit_4) (fe_0_11_4 : pos_3 = pos_4) (fe_0_13_4 : place_3 = place_4) (fe_0_14_4 : value_3 = value_4) (fe_0_10_5 : limit_4 = limit_5) (fe_0_11_5 : pos_4 = pos_5) (hE_0_1_1 : ∀ j : Int, tape_0 j = tape_1 j) (hE_0_1_2 : ∀ j : Int, tape_1 j = tape_2 j) (hE_0_1_3 : ∀ j : Int, tape_2 j = tape_3 j) (hE_0_1_4 : ∀ j : Int, tape_3 j = tape_4 j) (hE_0_1_5 : ∀ j : Int, tape_4 j = tape_5 j) (hK_0_1 : ∀ j : Int, 0 ≤ j → j < 2000 → (-128) ≤ tape_0 j ∧ tape_0 j ≤ 127) (kz_0_10 : 0 ≤ limit_0 ∧ limit_0 ≤ 2000) (kz_0_11 : 0 ≤ pos_0 ∧ pos_0 ≤ 2000) (kz_0_13 : 0 ≤ place_0 ∧ place_0 ≤ 2000) (kz_0_15 : 0 ≤ from_0 ∧ from_0 ≤ 2000) : 1 * x1 + ((-1) * from_0 + 0) ≤ 0 := by
  subst fe_0_10_1
  subst fe_0_11_1
  subst fe_0_13_1
  subst fe_0_15_1
  subst fe_0_10_2
  subst fe_0_11_2
  subst fe_0_13_2
  subst fe_0_15_2
  subst fe_0_10_3
  subst fe_0_11_3
  subst fe_0_13_3
  subst fe_0_14_3
  subst fe_0_15_3
  subst fe_0_10_4
  subst fe_0_11_4
  subst fe_0_13_4
  subst fe_0_14_4
  subst fe_0_10_5
  subst fe_0_11_5
  have e_hE_0_1_1 := funext hE_0_1_1; subst e_hE_0_1_1
  have e_hE_0_1_2 := funext hE_0_1_2; subst e_hE_0_1_2
  have e_hE_0_1_3 := funext hE_0_1_3; subst e_hE_0_1_3
  have e_hE_0_1_4 := funext hE_0_1_4; subst e_hE_0_1_4
  have e_hE_0_1_5 := funext hE_0_1_5; subst e_hE_0_1_5
  first | with_reducible assumption | ((try and_intros) <;> first | with_reducible assumption | (clear hE_0_1_1 hE_0_1_2 hE_0_1_3 hE_0_1_4 hE_0_1_5 hK_0_1 f4 f5 f11 f12 f16 f17 f21 f22; omega)) | ((first | have f4_b := f4 (by clear hE_0_1_1 hE_0_1_2 hE_0_1_3 hE_0_1_4 hE_0_1_5 hK_0_1 f4 f5 f11 f12 f16 f17 f21 f22; omega) | skip); (first | have f5_b := f5 (by clear hE_0_1_1 hE_0_1_2 hE_0_1_3 hE_0_1_4 hE_0_1_5 hK_0_1 f4 f5 f11 f12 f16 f17 f21 f22; omega) | skip); (first | have f11_b := f11 (by clear hE_0_1_1 hE_0_1_2 hE_0_1_3 hE_0_1_4 hE_0_1_5 hK_0_1 f4 f5 f11 f12 f16 f17 f21 f22; omega) | skip); (first | have f12_b := f12 (by clear hE_0_1_1 hE_0_1_2 hE_0_1_3 hE_0_1_4 hE_0_1_5 hK_0_1 f4 f5 f11 f12 f16 f17 f21 f22; omega) | skip); (first | have f16_b := f16 (by clear hE_0_1_1 hE_0_1_2 hE_0_1_3 hE_0_1_4 hE_0_1_5 hK_0_1 f4 f5 f11 f12 f16 f17 f21 f22; omega) | skip); (first | have f17_b := f17 (by clear hE_0_1_1 hE_0_1_2 hE_0_1_3 hE_0_1_4 hE_0_1_5 hK_0_1 f4 f5 f11 f12 f16 f17 f21 f22; omega) | skip); (first | have f21_b := f21 (by clear hE_0_1_1 hE_0_1_2 hE_0_1_3 hE_0_1_4 hE_0_1_5 hK_0_1 f4 f5 f11 f12 f16 f17 f21 f22; omega) | skip); (first | have f22_b := f22 (by clear hE_0_1_1 hE_0_1_2 hE_0_1_3 hE_0_1_4 hE_0_1_5 hK_0_1 f4 f5 f11 f12 f16 f17 f21 f22; omega) | skip); (first | have f4_d := f4 (by with_reducible assumption) | skip); (first | have f5_d := f5 (by with_reducible assumption) | skip); (first | have f11_d := f11 (by with_reducible assumption) | skip); (first | have f12_d := f12 (by with_reducible assumption) | skip); (first | have f16_d := f16 (by with_reducible assumption) | skip); (first | have f17_d := f17 (by with_reducible assumption) | skip); (first | have f21_d := f21 (by with_reducible assumption) | skip); (first | have f22_d := f22 (by with_reducible assumption) | skip); (try and_intros) <;> first | with_reducible assumption | (clear hE_0_1_1 hE_0_1_2 hE_0_1_3 hE_0_1_4 hE_0_1_5 hK_0_1 f4 f5 f11 f12 f16 f17 f21 f22; omega)) | omega
set_option maxHeartbeats 4000000 in
theorem vc_Mo_next_11_1 (x1 : Int) (x3 : Int) (x4 : Int) (x8 : Int) (value_0 : Int) (from_0 : Int) (place_0 : Int) (pos_0 : Int) (tape_0 : Int → Int) (limit_0 : Int) (tape_1 : Int → Int) (limit_1 : Int) (pos_1 : Int) (tape_2 : Int → Int) (limit_2 : Int) (pos_2 : Int) (tape_3 : Int → Int) (limit_3 : Int) (pos_3 : Int) (pos_4 : Int) (tape_4 : Int → Int) (limit_4 : Int) (pos_5 : Int) (tape_5 : Int → Int) (limit_5 : Int) (place_1 : Int) (from_1 : Int) (place_2 : Int) (value_1 : Int) (from_2 : Int) (place_3 : Int) (value_2 : Int) (value_3 : Int) (from_3 : Int) (place_4 : Int) (value_4 : Int) (value_5 : Int) (from_4 : Int) (from_5 : Int) (k1 : 0 ≤ x1 ∧ x1 ≤ 2000) (k3 : 0 ≤ x3 ∧ x3 ≤ 1999) (k4 : 48 ≤ x4 ∧ x4 ≤ 57) (k8 : 0 ≤ x8 ∧ x8 ≤ 0) (g0 : x8 = value_0) (g1 : x3 = from_0) (g2 : x3 = place_0) (g3 : x3 = pos_0) (f4 : ((x3 + 1) ≤ limit_0) → (x4 = (tape_0 (x3) % 256))) (f5 : (limit_0 ≤ x3) → (x4 = (-1))) (f6 : 1 * x1 + ((-1) * pos_0 + 0) ≤ 0) (f7 : ZX1 (limit_0) (pos_0) (tape_0) (x1)) (f10 : 0 ≤ x4) (f11 : ((x3 + 1) ≤ limit_1) → (x4 = (tape_1 (x3) % 256))) (f12 : (limit_1 ≤ x3) → (x4 = (-1))) (f13 : 1 * x1 + ((-1) * pos_1 + 0) ≤ 0) (f14 : ZX1 (limit_1) (pos_1) (tape_1) (x1)) (f16 : ((x3 + 1) ≤ limit_2) → (x4 = (tape_2 (x3) % 256))) (f17 : (limit_2 ≤ x3) → (x4 = (-1))) (f18 : 1 * x1 + ((-1) * pos_2 + 0) ≤ 0) (f19 : ZX1 (limit_2) (pos_2) (tape_2) (x1)) (f21 : ((x3 + 1) ≤ limit_3) → (x4 = (tape_3 (x3) % 256))) (f22 : (limit_3 ≤ x3) → (x4 = (-1))) (f23 : 1 * x1 + ((-1) * pos_3 + 0) ≤ 0) (f24 : ZX1 (limit_3) (pos_3) (tape_3) (x1)) (f26 : 1 * x1 + ((-1) * pos_4 + 0) ≤ 0) (f27 : ZX1 (limit_4) (pos_4) (tape_4) (x1)) (f29 : 1 * x1 + ((-1) * pos_5 + 0) ≤ 0) (f30 : ZX1 (limit_5) (pos_5) (tape_5) (x1)) (fe_0_10_1 : limit_0 = limit_1) (fe_0_11_1 : pos_0 = pos_1) (fe_0_13_1 : place_0 = place_1) (fe_0_14_1 : value_0 = x8) (fe_0_15_1 : from_0 = from_1) (fe_0_10_2 : limit_1 = limit_2) (fe_0_11_2 : pos_1 = pos_2) (fe_0_13_2 : place_1 = place_2) (fe_0_14_2 : value_1 = x4) (fe_0_15_2 : from_1 = from_2) (fe_0_10_3 : limit_2 = limit_3) (fe_0_11_3 : pos_2 = pos_3) (fe_0_13_3 : place_2 = place_3) (fe_0_14_3 : value_2 = value_3) (fe_0_15_3 : from_2 = from_3) (fe_0_10_4 : limit_3 = limit_4) (fe_0_11_4 : pos_3 = pos_4) (fe_0_13_4 : place_3 = place_4) (fe_0_14_4 : value_3 = value_4) (fe_0_15_4 : from_3 = x3) (fe_0_10_5 : limit_4 = limit_5) (fe_0_11_5 : pos_4 = pos_5) (fe_0_13_5 : place_4 = x3) (fe_0_14_5 : value_4 = value_5) (fe_0_15_5 : from_4 = from_5) (hE_0_1_1 : ∀ j : Int, tape_0 j = tape_1 j) (hE_0_1_2 : ∀ j : Int, tape_1 j = tape_2 j) (hE_0_1_3 : ∀ j : Int, tape_2 j = tape_3 j) (hE_0_1_4 : ∀ j : Int, tape_3 j = tape_4 j) (hE_0_1_5 : ∀ j : Int, tape_4 j = tape_5 j) (hK_0_1 : ∀ j : Int, 0 ≤ j → j < 2000 → (-128) ≤ tape_0 j ∧ tape_0 j ≤ 127) (kz_0_10 : 0 ≤ limit_0 ∧ limit_0 ≤ 2000) (kz_0_11 : 0 ≤ pos_0 ∧ pos_0 ≤ 2000) (kz_0_13 : 0 ≤ place_0 ∧ place_0 ≤ 2000) (kz_0_14 : (-49) ≤ value_0 ∧ value_0 ≤ 1048575) (kz_0_15 : 0 ≤ from_0 ∧ from_0 ≤ 2000) : (from_0 ≤ pos_0) ∧ (((from_0 + 1) ≤ pos_0) ∨ ((pos_0 = from_0) ∧ (((from_0 + 1) ≤ limit_0) ∧ ((48 ≤ (tape_0 (from_0) % 256)) ∧ ((tape_0 (from_0) % 256) ≤ 57))))) := by
  have e : tape_0 from_0 = tape_0 x3 := by rw [g1]
  omega
set_option maxHeartbeats 4000000 in
theorem vc_Mo_next_11_2 (x1 : Int) (x3 : Int) (x4 : Int) (x8 : Int) (value_0 : Int) (from_0 : Int) (place_0 : Int) (pos_0 : Int) (tape_0 : Int → Int) (limit_0 : Int) (tape_1 : Int → Int) (limit_1 : Int) (pos_1 : Int) (tape_2 : Int → Int) (limit_2 : Int) (pos_2 : Int) (tape_3 : Int → Int) (limit_3 : Int) (pos_3 : Int) (pos_4 : Int) (tape_4 : Int → Int) (limit_4 : Int) (pos_5 : Int) (tape_5 : Int → Int) (limit_5 : Int) (place_1 : Int) (from_1 : Int) (place_2 : Int) (value_1 : Int) (from_2 : Int) (place_3 : Int) (value_2 : Int) (value_3 : Int) (from_3 : Int) (place_4 : Int) (value_4 : Int) (k1 : 0 ≤ x1 ∧ x1 ≤ 2000) (k3 : 0 ≤ x3 ∧ x3 ≤ 1999) (k4 : 48 ≤ x4 ∧ x4 ≤ 57) (k8 : 0 ≤ x8 ∧ x8 ≤ 0) (g0 : x8 = value_0) (g1 : x3 = from_0) (g2 : x3 = place_0) (g3 : x3 = pos_0) (f11 : ((x3 + 1) ≤ limit_1) → (x4 = (tape_1 (x3) % 256))) (f16 : ((x3 + 1) ≤ limit_2) → (x4 = (tape_2 (x3) % 256))) (f21 : ((x3 + 1) ≤ limit_3) → (x4 = (tape_3 (x3) % 256))) (f22 : (limit_3 ≤ x3) → (x4 = (-1))) (f30 : ZX1 (limit_5) (pos_5) (tape_5) (x1)) (fe_0_10_1 : limit_0 = limit_1) (fe_0_11_1 : pos_0 = pos_1) (fe_0_13_1 : place_0 = place_1) (fe_0_15_1 : from_0 = from_1) (fe_0_10_2 : limit_1 = limit_2) (fe_0_11_2 : pos_1 = pos_2) (fe_0_13_2 : place_1 = place_2) (fe_0_14_2 : value_1 = x4) (fe_0_15_2 : from_1 = from_2) (fe_0_10_3 : limit_2 = limit_3) (fe_0_11_3 : pos_2 = pos_3) (fe_0_13_3 : place_2 = place_3) (fe_0_14_3 : value_2 = value_3) (fe_0_15_3 : from_2 = from_3) (fe_0_10_4 : limit_3 = limit_4) (fe_0_11_4 : pos_3 = pos_4) (fe_0_13_4 : place_3 = place_4) (fe_0_14_4 : value_3 = value_4) (fe_0_10_5 : limit_4 = limit_5) (fe_0_11_5 : pos_4 = pos_5) (fe_0_13_5 : place_4 = x3) (hE_0_1_1 : ∀ j : Int, tape_0 j = tape_1 j) (hE_0_1_2 : ∀ j : Int, tape_1 j = tape_2 j) (hE_0_1_3 : ∀ j : Int, tape_2 j = tape_3 j) (hE_0_1_4 : ∀ j : Int, tape_3 j = tape_4 j) (hE_0_1_5 : ∀ j : Int, tape_4 j = tape_5 j) (hK_0_1 : ∀ j : Int, 0 ≤ j → j < 2000 → (-128) ≤ tape_0 j ∧ tape_0 j ≤ 127) (kz_0_10 : 0 ≤ limit_0 ∧ limit_0 ≤ 2000) (kz_0_11 : 0 ≤ pos_0 ∧ pos_0 ≤ 2000) (kz_0_13 : 0 ≤ place_0 ∧ place_0 ≤ 2000) (kz_0_14 : (-49) ≤ value_0 ∧ value_0 ≤ 1048575) (kz_0_15 : 0 ≤ from_0 ∧ from_0 ≤ 2000) : ZXD (limit_0) (pos_0) (place_0) (value_0) (from_0) (tape_0) (x1) := by
  subst fe_0_10_1
  subst fe_0_11_1
  subst fe_0_13_1
  subst fe_0_15_1
  subst fe_0_10_2
  subst fe_0_11_2
  subst fe_0_13_2
  subst fe_0_15_2
  subst fe_0_10_3
  subst fe_0_11_3
  subst fe_0_13_3
  subst fe_0_14_3
  subst fe_0_15_3
  subst fe_0_10_4
  subst fe_0_11_4
  subst fe_0_13_4
  subst fe_0_14_4
  subst fe_0_10_5
  subst fe_0_11_5
  have e_hE_0_1_1 := funext hE_0_1_1; subst e_hE_0_1_1
  have e_hE_0_1_2 := funext hE_0_1_2; subst e_hE_0_1_2
  have e_hE_0_1_3 := funext hE_0_1_3; subst e_hE_0_1_3
  have e_hE_0_1_4 := funext hE_0_1_4; subst e_hE_0_1_4
  have e_hE_0_1_5 := funext hE_0_1_5; subst e_hE_0_1_5
  first | subst g0 | skip
  first | subst g1 | skip
  first | subst g2 | skip
  first | subst g3 | skip
  first
    | exact zxd_start (by assumption) ‹ZX1 _ _ _ _› (by omega) (by omega) (by omega) (by omega) (by omega)
    | exact zxd_step (c := tape_0 x5 % 256) (by assumption) ‹ZXD _ _ _ _ _ _ _› (by omega) rfl (by omega) (by omega) (fun q => by omega) (fun q => by omega)
    | exact zxd_step (c := tape_0 x4 % 256) (by assumption) ‹ZXD _ _ _ _ _ _ _› (by omega) rfl (by omega) (by omega) (fun q => by omega) (fun q => by omega)
def o_Mo_next_11 : or_T := (185, 9, [(0, (2, 0, 0, [165])), (1, (0, 0, 2000, [])), (3, (0, 0, 1999, [])), (4, (0, 48, 57, [])), (8, (0, 0, 0, []))], [(9, [8, 2], [14]), (9, [3, 2], [15]), (9, [3, 2], [13]), (9, [3, 2], [11]), (20, [3, 2, 4], [50, 1, 1, 1010, 1001, 4, 11, 0, 6, 4, 2, 1, 0, 0, 1, 2, 1, 10, 1, 2, 1, 2, 9, 5, 3, 1, 1, 1, 0, 0, 256]), (20, [2, 3, 4], [50, 1, 0, 10, 4, 7, 0, 3, 2, 0, 10, 1, 1, 1, 2, 1, 2, 0, -1]), (20, [1, 2], [30, 0, 1, 0, 0, -1, 1, 11]), (20, [2, 1], [60, 2, 1, 950, 10, 11, 1]), (24, [0, 2], []), (101, [2, 8], [14]), (8, [4], [3]), (20, [3, 2, 4], [50, 1, 1, 1010, 1001, 4, 11, 0, 6, 4, 2, 1, 0, 0, 1, 2, 1, 10, 1, 2, 1, 2, 9, 5, 3, 1, 1, 1, 0, 0, 256]), (20, [2, 3, 4], [50, 1, 0, 10, 4, 7, 0, 3, 2, 0, 10, 1, 1, 1, 2, 1, 2, 0, -1]), (20, [1, 2], [30, 0, 1, 0, 0, -1, 1, 11]), (20, [2, 1], [60, 2, 1, 950, 10, 11, 1]), (101, [2, 4], [14]), (20, [3, 2, 4], [50, 1, 1, 1010, 1001, 4, 11, 0, 6, 4, 2, 1, 0, 0, 1, 2, 1, 10, 1, 2, 1, 2, 9, 5, 3, 1, 1, 1, 0, 0, 256]), (20, [2, 3, 4], [50, 1, 0, 10, 4, 7, 0, 3, 2, 0, 10, 1, 1, 1, 2, 1, 2, 0, -1]), (20, [1, 2], [30, 0, 1, 0, 0, -1, 1, 11]), (20, [2, 1], [60, 2, 1, 950, 10, 11, 1]), (101, [2, 5], [12]), (20, [3, 2, 4], [50, 1, 1, 1010, 1001, 4, 11, 0, 6, 4, 2, 1, 0, 0, 1, 2, 1, 10, 1, 2, 1, 2, 9, 5, 3, 1, 1, 1, 0, 0, 256]), (20, [2, 3, 4], [50, 1, 0, 10, 4, 7, 0, 3, 2, 0, 10, 1, 1, 1, 2, 1, 2, 0, -1]), (20, [1, 2], [30, 0, 1, 0, 0, -1, 1, 11]), (20, [2, 1], [60, 2, 1, 950, 10, 11, 1]), (101, [2, 3], [15]), (20, [1, 2], [30, 0, 1, 0, 0, -1, 1, 11]), (20, [2, 1], [60, 2, 1, 950, 10, 11, 1]), (101, [2, 3], [13]), (20, [1, 2], [30, 0, 1, 0, 0, -1, 1, 11]), (20, [2, 1], [60, 2, 1, 950, 10, 11, 1])], [], [], [(20, [1, 2], [30, 0, 1, 0, 0, -1, 1, 15]), (20, [2], [50, 3, 1, 15, 11, 10, 1, 2, 8, 0, 3, 2, 0, 15, 2, 0, 11, 3, 12, 0, 7, 4, 3, 2, 0, 15, 0, 1, 2, 0, 11, 2, 8, 1, 3, 2, 0, 11, 2, 0, 15, 2, 12, 0, 7, 4, 3, 2, 0, 15, 0, 1, 2, 0, 10, 2, 14, 0, 2, 0, 48, 9, 6, 3, 0, 1, 2, 0, 15, 0, 256, 0, 10, 9, 6, 3, 0, 1, 2, 0, 15, 0, 256, 0, 57]), (20, [2, 1], [60, 5, 1, 954, 10, 11, 13, 14, 15, 1])], [], [])
theorem oo_Mo_next_11 {kA : Nat → ClassId} : or_ok PRD kA GG o_Mo_next_11 := by
  refine or_mk fun A ta ws vs hD hth hl => ?_
  intro t0 r0 t1 k1 t3 k3 t4 k4 t8 k8 f0 f1 f2 f3 f4 f5 f6 f7 f8 ta1 w1 le1 s1 f10 f11 f12 f13 f14 ta2 w2 le2 s2 f16 f17 f18 f19 ta3 w3 le3 s3 f21 f22 f23 f24 ta4 w4 le4 s4 f26 f27 ta5 w5 le5 s5 f29 f30
  replace f0 := shm_115 f0
  replace f1 := shm_177 f1
  replace f2 := shm_361 f2
  replace f3 := shm_116 f3
  replace f4 := shm_541 f4
  replace f5 := shm_542 f5
  replace f6 := shm_1431 f6
  replace f7 := shm_1435 f7
  replace f8 := shm_5 f8
  have s1 : (∀ b j, w_el ws b j = w_el w1 b j) ∧ ∀ b j, w_fd ws b j = if b = v_ad (n_v vs 2) ∧ j = 14 then n_v vs 8 else w_fd w1 b j := s1.2
  replace f10 := shm_32 f10
  replace f11 := shm_541 f11
  replace f12 := shm_542 f12
  replace f13 := shm_1431 f13
  replace f14 := shm_1435 f14
  have s2 : (∀ b j, w_el w1 b j = w_el w2 b j) ∧ ∀ b j, w_fd w1 b j = if b = v_ad (n_v vs 2) ∧ j = 14 then n_v vs 4 else w_fd w2 b j := s2.2
  replace f16 := shm_541 f16
  replace f17 := shm_542 f17
  replace f18 := shm_1431 f18
  replace f19 := shm_1435 f19
  have s3 : (∀ b j, w_el w2 b j = w_el w3 b j) ∧ ∀ b j, w_fd w2 b j = if b = v_ad (n_v vs 2) ∧ j = 12 then n_v vs 5 else w_fd w3 b j := s3.2
  replace f21 := shm_541 f21
  replace f22 := shm_542 f22
  replace f23 := shm_1431 f23
  replace f24 := shm_1435 f24
  have s4 : (∀ b j, w_el w3 b j = w_el w4 b j) ∧ ∀ b j, w_fd w3 b j = if b = v_ad (n_v vs 2) ∧ j = 15 then n_v vs 3 else w_fd w4 b j := s4.2
  replace f26 := shm_1431 f26
  replace f27 := shm_1435 f27
  have s5 : (∀ b j, w_el w4 b j = w_el w5 b j) ∧ ∀ b j, w_fd w4 b j = if b = v_ad (n_v vs 2) ∧ j = 13 then n_v vs 3 else w_fd w5 b j := s5.2
  replace f29 := shm_1431 f29
  replace f30 := shm_1435 f30
  have q2 : n_v vs 2 = n_v vs 0 := f8.symm
  simp only [q2] at f0 f1 f2 f3 f4 f5 f6 f7
  rw [q2] at s1
  simp only [q2] at f11 f12 f13 f14
  rw [q2] at s2
  simp only [q2] at f16 f17 f18 f19
  rw [q2] at s3
  simp only [q2] at f21 f22 f23 f24
  rw [q2] at s4
  simp only [q2] at f26 f27
  rw [q2] at s5
  simp only [q2] at f29 f30
  have ar_0_1_1 : w_ar w1 (n_v vs 0) 1 = w_ar ws (n_v vs 0) 1 := by show v_ad (w_fd w1 _ _) = v_ad (w_fd ws _ _); rw [s1.2, if_neg (fun e => absurd e.2 (by decide))]
  have ar_0_1_2 : w_ar w2 (n_v vs 0) 1 = w_ar ws (n_v vs 0) 1 := by rw [← ar_0_1_1]; show v_ad (w_fd w2 _ _) = v_ad (w_fd w1 _ _); rw [s2.2, if_neg (fun e => absurd e.2 (by decide))]
  have ar_0_1_3 : w_ar w3 (n_v vs 0) 1 = w_ar ws (n_v vs 0) 1 := by rw [← ar_0_1_2]; show v_ad (w_fd w3 _ _) = v_ad (w_fd w2 _ _); rw [s3.2, if_neg (fun e => absurd e.2 (by decide))]
  have ar_0_1_4 : w_ar w4 (n_v vs 0) 1 = w_ar ws (n_v vs 0) 1 := by rw [← ar_0_1_3]; show v_ad (w_fd w4 _ _) = v_ad (w_fd w3 _ _); rw [s4.2, if_neg (fun e => absurd e.2 (by decide))]
  have ar_0_1_5 : w_ar w5 (n_v vs 0) 1 = w_ar ws (n_v vs 0) 1 := by rw [← ar_0_1_4]; show v_ad (w_fd w5 _ _) = v_ad (w_fd w4 _ _); rw [s5.2, if_neg (fun e => absurd e.2 (by decide))]
  have cr_0_1 := fdq_39 hD hth r0
  have g0 : v_iv (n_v vs 8) = w_fi ws (n_v vs 0) 14 := congrArg v_iv f0
  have g1 : v_iv (n_v vs 3) = w_fi ws (n_v vs 0) 15 := congrArg v_iv f1
  have g2 : v_iv (n_v vs 3) = w_fi ws (n_v vs 0) 13 := congrArg v_iv f2
  have g3 : v_iv (n_v vs 3) = w_fi ws (n_v vs 0) 11 := congrArg v_iv f3
  simp only [ar_0_1_1, ar_0_1_2, ar_0_1_3, ar_0_1_4, ar_0_1_5] at f11 f14 f16 f19 f21 f24 f27 f30
  have fe_0_10_1 : w_fi ws (n_v vs 0) 10 = w_fi w1 (n_v vs 0) 10 := by show v_iv (w_fd _ _ _) = v_iv (w_fd _ _ _); rw [s1.2, if_neg (fun e => absurd e.2 (by decide))]
  have fe_0_11_1 : w_fi ws (n_v vs 0) 11 = w_fi w1 (n_v vs 0) 11 := by show v_iv (w_fd _ _ _) = v_iv (w_fd _ _ _); rw [s1.2, if_neg (fun e => absurd e.2 (by decide))]
  have fe_0_13_1 : w_fi ws (n_v vs 0) 13 = w_fi w1 (n_v vs 0) 13 := by show v_iv (w_fd _ _ _) = v_iv (w_fd _ _ _); rw [s1.2, if_neg (fun e => absurd e.2 (by decide))]
  have fe_0_14_1 : w_fi ws (n_v vs 0) 14 = v_iv (n_v vs 8) := by show v_iv (w_fd _ _ _) = _; rw [s1.2, if_pos ⟨rfl, rfl⟩]
  have fe_0_15_1 : w_fi ws (n_v vs 0) 15 = w_fi w1 (n_v vs 0) 15 := by show v_iv (w_fd _ _ _) = v_iv (w_fd _ _ _); rw [s1.2, if_neg (fun e => absurd e.2 (by decide))]
  have fe_0_10_2 : w_fi w1 (n_v vs 0) 10 = w_fi w2 (n_v vs 0) 10 := by show v_iv (w_fd _ _ _) = v_iv (w_fd _ _ _); rw [s2.2, if_neg (fun e => absurd e.2 (by decide))]
  have fe_0_11_2 : w_fi w1 (n_v vs 0) 11 = w_fi w2 (n_v vs 0) 11 := by show v_iv (w_fd _ _ _) = v_iv (w_fd _ _ _); rw [s2.2, if_neg (fun e => absurd e.2 (by decide))]
  have fe_0_13_2 : w_fi w1 (n_v vs 0) 13 = w_fi w2 (n_v vs 0) 13 := by show v_iv (w_fd _ _ _) = v_iv (w_fd _ _ _); rw [s2.2, if_neg (fun e => absurd e.2 (by decide))]
  have fe_0_14_2 : w_fi w1 (n_v vs 0) 14 = v_iv (n_v vs 4) := by show v_iv (w_fd _ _ _) = _; rw [s2.2, if_pos ⟨rfl, rfl⟩]
  have fe_0_15_2 : w_fi w1 (n_v vs 0) 15 = w_fi w2 (n_v vs 0) 15 := by show v_iv (w_fd _ _ _) = v_iv (w_fd _ _ _); rw [s2.2, if_neg (fun e => absurd e.2 (by decide))]
  have fe_0_10_3 : w_fi w2 (n_v vs 0) 10 = w_fi w3 (n_v vs 0) 10 := by show v_iv (w_fd _ _ _) = v_iv (w_fd _ _ _); rw [s3.2, if_neg (fun e => absurd e.2 (by decide))]
  have fe_0_11_3 : w_fi w2 (n_v vs 0) 11 = w_fi w3 (n_v vs 0) 11 := by show v_iv (w_fd _ _ _) = v_iv (w_fd _ _ _); rw [s3.2, if_neg (fun e => absurd e.2 (by decide))]
  have fe_0_13_3 : w_fi w2 (n_v vs 0) 13 = w_fi w3 (n_v vs 0) 13 := by show v_iv (w_fd _ _ _) = v_iv (w_fd _ _ _); rw [s3.2, if_neg (fun e => absurd e.2 (by decide))]
  have fe_0_14_3 : w_fi w2 (n_v vs 0) 14 = w_fi w3 (n_v vs 0) 14 := by show v_iv (w_fd _ _ _) = v_iv (w_fd _ _ _); rw [s3.2, if_neg (fun e => absurd e.2 (by decide))]
  have fe_0_15_3 : w_fi w2 (n_v vs 0) 15 = w_fi w3 (n_v vs 0) 15 := by show v_iv (w_fd _ _ _) = v_iv (w_fd _ _ _); rw [s3.2, if_neg (fun e => absurd e.2 (by decide))]
  have fe_0_10_4 : w_fi w3 (n_v vs 0) 10 = w_fi w4 (n_v vs 0) 10 := by show v_iv (w_fd _ _ _) = v_iv (w_fd _ _ _); rw [s4.2, if_neg (fun e => absurd e.2 (by decide))]
  have fe_0_11_4 : w_fi w3 (n_v vs 0) 11 = w_fi w4 (n_v vs 0) 11 := by show v_iv (w_fd _ _ _) = v_iv (w_fd _ _ _); rw [s4.2, if_neg (fun e => absurd e.2 (by decide))]
  have fe_0_13_4 : w_fi w3 (n_v vs 0) 13 = w_fi w4 (n_v vs 0) 13 := by show v_iv (w_fd _ _ _) = v_iv (w_fd _ _ _); rw [s4.2, if_neg (fun e => absurd e.2 (by decide))]
  have fe_0_14_4 : w_fi w3 (n_v vs 0) 14 = w_fi w4 (n_v vs 0) 14 := by show v_iv (w_fd _ _ _) = v_iv (w_fd _ _ _); rw [s4.2, if_neg (fun e => absurd e.2 (by decide))]
  have fe_0_15_4 : w_fi w3 (n_v vs 0) 15 = v_iv (n_v vs 3) := by show v_iv (w_fd _ _ _) = _; rw [s4.2, if_pos ⟨rfl, rfl⟩]
  have fe_0_10_5 : w_fi w4 (n_v vs 0) 10 = w_fi w5 (n_v vs 0) 10 := by show v_iv (w_fd _ _ _) = v_iv (w_fd _ _ _); rw [s5.2, if_neg (fun e => absurd e.2 (by decide))]
  have fe_0_11_5 : w_fi w4 (n_v vs 0) 11 = w_fi w5 (n_v vs 0) 11 := by show v_iv (w_fd _ _ _) = v_iv (w_fd _ _ _); rw [s5.2, if_neg (fun e => absurd e.2 (by decide))]
  have fe_0_13_5 : w_fi w4 (n_v vs 0) 13 = v_iv (n_v vs 3) := by show v_iv (w_fd _ _ _) = _; rw [s5.2, if_pos ⟨rfl, rfl⟩]
  have fe_0_14_5 : w_fi w4 (n_v vs 0) 14 = w_fi w5 (n_v vs 0) 14 := by show v_iv (w_fd _ _ _) = v_iv (w_fd _ _ _); rw [s5.2, if_neg (fun e => absurd e.2 (by decide))]
  have fe_0_15_5 : w_fi w4 (n_v vs 0) 15 = w_fi w5 (n_v vs 0) 15 := by show v_iv (w_fd _ _ _) = v_iv (w_fd _ _ _); rw [s5.2, if_neg (fun e => absurd e.2 (by decide))]
  have hE_0_1_1 : ∀ j : Int, w_ei ws (w_ar ws (n_v vs 0) 1) j = w_ei w1 (w_ar ws (n_v vs 0) 1) j := fun j => s1.1 _ _
  have hE_0_1_2 : ∀ j : Int, w_ei w1 (w_ar ws (n_v vs 0) 1) j = w_ei w2 (w_ar ws (n_v vs 0) 1) j := fun j => s2.1 _ _
  have hE_0_1_3 : ∀ j : Int, w_ei w2 (w_ar ws (n_v vs 0) 1) j = w_ei w3 (w_ar ws (n_v vs 0) 1) j := fun j => s3.1 _ _
  have hE_0_1_4 : ∀ j : Int, w_ei w3 (w_ar ws (n_v vs 0) 1) j = w_ei w4 (w_ar ws (n_v vs 0) 1) j := fun j => s4.1 _ _
  have hE_0_1_5 : ∀ j : Int, w_ei w4 (w_ar ws (n_v vs 0) 1) j = w_ei w5 (w_ar ws (n_v vs 0) 1) j := fun j => s5.1 _ _
  have hK_0_1 := elq_7 hD hth cr_0_1
  have kz_0_10 := fdq_43 hD hth r0
  have kz_0_11 := fdq_237 hD hth r0
  have kz_0_13 := fdq_238 hD hth r0
  have kz_0_14 := fdq_188 hD hth r0
  have kz_0_15 := fdq_239 hD hth r0
  have nf0 : fc_1 PRD (20, [1, 2], [30, 0, 1, 0, 0, -1, 1, 15]) ws (vs) := by
    refine ⟨nf_in hl rfl, sgq_1436 ?_⟩
    · show 1 * v_iv (n_v vs 1) + ((-1) * w_fi ws (n_v vs 2) 15 + 0) ≤ 0
      rw [q2]
      exact vc_Mo_next_11_0 (v_iv (n_v vs 1)) (v_iv (n_v vs 3)) (v_iv (n_v vs 4)) (w_fi ws (n_v vs 0) 15) (w_fi ws (n_v vs 0) 13) (w_fi ws (n_v vs 0) 11) (w_ei ws (w_ar ws (n_v vs 0) 1)) (w_fi ws (n_v vs 0) 10) (w_ei w1 (w_ar ws (n_v vs 0) 1)) (w_fi w1 (n_v vs 0) 10) (w_fi w1 (n_v vs 0) 11) (w_ei w2 (w_ar ws (n_v vs 0) 1)) (w_fi w2 (n_v vs 0) 10) (w_fi w2 (n_v vs 0) 11) (w_ei w3 (w_ar ws (n_v vs 0) 1)) (w_fi w3 (n_v vs 0) 10) (w_fi w3 (n_v vs 0) 11) (w_fi w4 (n_v vs 0) 11) (w_ei w4 (w_ar ws (n_v vs 0) 1)) (w_fi w4 (n_v vs 0) 10) (w_fi w5 (n_v vs 0) 11) (w_ei w5 (w_ar ws (n_v vs 0) 1)) (w_fi w5 (n_v vs 0) 10) (w_fi w1 (n_v vs 0) 13) (w_fi w1 (n_v vs 0) 15) (w_fi w2 (n_v vs 0) 13) (w_fi w2 (n_v vs 0) 15) (w_fi w3 (n_v vs 0) 13) (w_fi w2 (n_v vs 0) 14) (w_fi w3 (n_v vs 0) 14) (w_fi w3 (n_v vs 0) 15) (w_fi w4 (n_v vs 0) 13) (w_fi w4 (n_v vs 0) 14) k1 k3 k4 g1 g2 g3 f4 f5 f6 f11 f12 f16 f17 f21 f22 fe_0_10_1 fe_0_11_1 fe_0_13_1 fe_0_15_1 fe_0_10_2 fe_0_11_2 fe_0_13_2 fe_0_15_2 fe_0_10_3 fe_0_11_3 fe_0_13_3 fe_0_14_3 fe_0_15_3 fe_0_10_4 fe_0_11_4 fe_0_13_4 fe_0_14_4 fe_0_10_5 fe_0_11_5 hE_0_1_1 hE_0_1_2 hE_0_1_3 hE_0_1_4 hE_0_1_5 hK_0_1 kz_0_10 kz_0_11 kz_0_13 kz_0_15
  have nf1 : fc_1 PRD (20, [2], [50, 3, 1, 15, 11, 10, 1, 2, 8, 0, 3, 2, 0, 15, 2, 0, 11, 3, 12, 0, 7, 4, 3, 2, 0, 15, 0, 1, 2, 0, 11, 2, 8, 1, 3, 2, 0, 11, 2, 0, 15, 2, 12, 0, 7, 4, 3, 2, 0, 15, 0, 1, 2, 0, 10, 2, 14, 0, 2, 0, 48, 9, 6, 3, 0, 1, 2, 0, 15, 0, 256, 0, 10, 9, 6, 3, 0, 1, 2, 0, 15, 0, 256, 0, 57]) ws (vs) := by
    refine ⟨nf_in hl rfl, sgq_1442 ?_⟩
    · show (w_fi ws (n_v vs 2) 15 ≤ w_fi ws (n_v vs 2) 11) ∧ (((w_fi ws (n_v vs 2) 15 + 1) ≤ w_fi ws (n_v vs 2) 11) ∨ ((w_fi ws (n_v vs 2) 11 = w_fi ws (n_v vs 2) 15) ∧ (((w_fi ws (n_v vs 2) 15 + 1) ≤ w_fi ws (n_v vs 2) 10) ∧ ((48 ≤ (w_ei ws (w_ar ws (n_v vs 2) 1) (w_fi ws (n_v vs 2) 15) % 256)) ∧ ((w_ei ws (w_ar ws (n_v vs 2) 1) (w_fi ws (n_v vs 2) 15) % 256) ≤ 57)))))
      rw [q2]
      exact vc_Mo_next_11_1 (v_iv (n_v vs 1)) (v_iv (n_v vs 3)) (v_iv (n_v vs 4)) (v_iv (n_v vs 8)) (w_fi ws (n_v vs 0) 14) (w_fi ws (n_v vs 0) 15) (w_fi ws (n_v vs 0) 13) (w_fi ws (n_v vs 0) 11) (w_ei ws (w_ar ws (n_v vs 0) 1)) (w_fi ws (n_v vs 0) 10) (w_ei w1 (w_ar ws (n_v vs 0) 1)) (w_fi w1 (n_v vs 0) 10) (w_fi w1 (n_v vs 0) 11) (w_ei w2 (w_ar ws (n_v vs 0) 1)) (w_fi w2 (n_v vs 0) 10) (w_fi w2 (n_v vs 0) 11) (w_ei w3 (w_ar ws (n_v vs 0) 1)) (w_fi w3 (n_v vs 0) 10) (w_fi w3 (n_v vs 0) 11) (w_fi w4 (n_v vs 0) 11) (w_ei w4 (w_ar ws (n_v vs 0) 1)) (w_fi w4 (n_v vs 0) 10) (w_fi w5 (n_v vs 0) 11) (w_ei w5 (w_ar ws (n_v vs 0) 1)) (w_fi w5 (n_v vs 0) 10) (w_fi w1 (n_v vs 0) 13) (w_fi w1 (n_v vs 0) 15) (w_fi w2 (n_v vs 0) 13) (w_fi w1 (n_v vs 0) 14) (w_fi w2 (n_v vs 0) 15) (w_fi w3 (n_v vs 0) 13) (w_fi w2 (n_v vs 0) 14) (w_fi w3 (n_v vs 0) 14) (w_fi w3 (n_v vs 0) 15) (w_fi w4 (n_v vs 0) 13) (w_fi w4 (n_v vs 0) 14) (w_fi w5 (n_v vs 0) 14) (w_fi w4 (n_v vs 0) 15) (w_fi w5 (n_v vs 0) 15) k1 k3 k4 k8 g0 g1 g2 g3 f4 f5 f6 f7 f10 f11 f12 f13 f14 f16 f17 f18 f19 f21 f22 f23 f24 f26 f27 f29 f30 fe_0_10_1 fe_0_11_1 fe_0_13_1 fe_0_14_1 fe_0_15_1 fe_0_10_2 fe_0_11_2 fe_0_13_2 fe_0_14_2 fe_0_15_2 fe_0_10_3 fe_0_11_3 fe_0_13_3 fe_0_14_3 fe_0_15_3 fe_0_10_4 fe_0_11_4 fe_0_13_4 fe_0_14_4 fe_0_15_4 fe_0_10_5 fe_0_11_5 fe_0_13_5 fe_0_14_5 fe_0_15_5 hE_0_1_1 hE_0_1_2 hE_0_1_3 hE_0_1_4 hE_0_1_5 hK_0_1 kz_0_10 kz_0_11 kz_0_13 kz_0_14 kz_0_15
  have nf2 : fc_1 PRD (20, [2, 1], [60, 5, 1, 954, 10, 11, 13, 14, 15, 1]) ws (vs) := by
    refine ⟨nf_in hl rfl, sgq_1443 ?_⟩
    · show ZXD (w_fi ws (n_v vs 2) 10) (w_fi ws (n_v vs 2) 11) (w_fi ws (n_v vs 2) 13) (w_fi ws (n_v vs 2) 14) (w_fi ws (n_v vs 2) 15) (w_ei ws (w_ar ws (n_v vs 2) 1)) (v_iv (n_v vs 1))
      rw [q2]
      exact vc_Mo_next_11_2 (v_iv (n_v vs 1)) (v_iv (n_v vs 3)) (v_iv (n_v vs 4)) (v_iv (n_v vs 8)) (w_fi ws (n_v vs 0) 14) (w_fi ws (n_v vs 0) 15) (w_fi ws (n_v vs 0) 13) (w_fi ws (n_v vs 0) 11) (w_ei ws (w_ar ws (n_v vs 0) 1)) (w_fi ws (n_v vs 0) 10) (w_ei w1 (w_ar ws (n_v vs 0) 1)) (w_fi w1 (n_v vs 0) 10) (w_fi w1 (n_v vs 0) 11) (w_ei w2 (w_ar ws (n_v vs 0) 1)) (w_fi w2 (n_v vs 0) 10) (w_fi w2 (n_v vs 0) 11) (w_ei w3 (w_ar ws (n_v vs 0) 1)) (w_fi w3 (n_v vs 0) 10) (w_fi w3 (n_v vs 0) 11) (w_fi w4 (n_v vs 0) 11) (w_ei w4 (w_ar ws (n_v vs 0) 1)) (w_fi w4 (n_v vs 0) 10) (w_fi w5 (n_v vs 0) 11) (w_ei w5 (w_ar ws (n_v vs 0) 1)) (w_fi w5 (n_v vs 0) 10) (w_fi w1 (n_v vs 0) 13) (w_fi w1 (n_v vs 0) 15) (w_fi w2 (n_v vs 0) 13) (w_fi w1 (n_v vs 0) 14) (w_fi w2 (n_v vs 0) 15) (w_fi w3 (n_v vs 0) 13) (w_fi w2 (n_v vs 0) 14) (w_fi w3 (n_v vs 0) 14) (w_fi w3 (n_v vs 0) 15) (w_fi w4 (n_v vs 0) 13) (w_fi w4 (n_v vs 0) 14) k1 k3 k4 k8 g0 g1 g2 g3 f11 f16 f21 f22 f30 fe_0_10_1 fe_0_11_1 fe_0_13_1 fe_0_15_1 fe_0_10_2 fe_0_11_2 fe_0_13_2 fe_0_14_2 fe_0_15_2 fe_0_10_3 fe_0_11_3 fe_0_13_3 fe_0_14_3 fe_0_15_3 fe_0_10_4 fe_0_11_4 fe_0_13_4 fe_0_14_4 fe_0_10_5 fe_0_11_5 fe_0_13_5 hE_0_1_1 hE_0_1_2 hE_0_1_3 hE_0_1_4 hE_0_1_5 hK_0_1 kz_0_10 kz_0_11 kz_0_13 kz_0_14 kz_0_15
  refine ⟨(fun _ h => (by cases h)), [], trivial, ?_, (fun _ h => (by cases h))⟩
  rw [List.append_nil]
  exact List.forall_mem_cons.mpr ⟨⟨show (20 : Nat) < 100 from by decide, nf0⟩, List.forall_mem_cons.mpr ⟨⟨show (20 : Nat) < 100 from by decide, nf1⟩, List.forall_mem_cons.mpr ⟨⟨show (20 : Nat) < 100 from by decide, nf2⟩, (fun _ h => (by cases h))⟩⟩⟩
set_option maxHeartbeats 4000000 in
theorem vc_Mo_next_12_0 (x1 : Int) (x3 : Int) (x4 : Int) (from_0 : Int) (place_0 : Int) (pos_0 : Int) (tape_0 : Int → Int) (limit_0 : Int) (tape_1 : Int → Int) (limit_1 : Int) (pos_1 : Int) (tape_2 : Int → Int) (limit_2 : Int) (pos_2 : Int) (pos_3 : Int) (tape_3 : Int → Int) (limit_3 : Int) (pos_4 : Int) (tape_4 : Int → Int) (limit_4 : Int) (place_1 : Int) (from_1 : Int) (place_2 : Int) (value_1 : Int) (value_2 : Int) (from_2 : Int) (place_3 : Int) (value_3 : Int) (k1 : 0 ≤ x1 ∧ x1 ≤ 2000) (k3 : 0 ≤ x3 ∧ x3 ≤ 1999) (k4 : 91 ≤ x4 ∧ x4 ≤ 96) (g1 : x3 = from_0) (g2 : x3 = place_0) (g3 : x3 = pos_0) (f5 : ((x3 + 1) ≤ limit_0) → (x4 = (tape_0 (x3) % 256))) (f6 : (limit_0 ≤ x3) → (x4 = (-1))) (f7 : 1 * x1 + ((-1) * pos_0 + 0) ≤ 0) (f11 : ((x3 + 1) ≤ limit_1) → (x4 = (tape_1 (x3) % 256))) (f12 : (limit_1 ≤ x3) → (x4 = (-1))) (f16 : ((x3 + 1) ≤ limit_2) → (x4 = (tape_2 (x3) % 256))) (f17 : (limit_2 ≤ x3) → (x4 = (-1))) (fe_0_10_1 : limit_0 = limit_1) (fe_0_11_1 : pos_0 = pos_1) (fe_0_13_1 : place_0 = place_1) (fe_0_15_1 : from_0 = from_1) (fe_0_10_2 : limit_1 = limit_2) (fe_0_11_2 : pos_1 = pos_2) (fe_0_13_2 : place_1 = place_2) (fe_0_14_2 : value_1 = value_2) (fe_0_15_2 : from_1 = from_2) (fe_0_10_3 : limit_2 = limit_3) (fe_0_11_3 : pos_2 = pos_3) (fe_0_13_3 : place_2 = place_3) (fe_0_14_3 : value_2 = value_3) (fe_0_10_4 : limit_3 = limit_4) (fe_0_11_4 : pos_3 = pos_4) (hE_0_1_1 : ∀ j : Int, tape_0 j = tape_1 j) (hE_0_1_2 : ∀ j : Int, tape_1 j = tape_2 j) (hE_0_1_3 : ∀ j : Int, tape_2 j = tape_3 j) (hE_0_1_4 : ∀ j : Int, tape_3 j = tape_4 j) (hK_0_1 : ∀ j : Int, 0 ≤ j → j < 2000 → (-128) ≤ tape_0 j ∧ tape_0 j ≤ 127) (kz_0_10 : 0 ≤ limit_0 ∧ limit_0 ≤ 2000) (kz_0_11 : 0 ≤ pos_0 ∧ pos_0 ≤ 2000) (kz_0_13 : 0 ≤ place_0 ∧ place_0 ≤ 2000) (kz_0_15 : 0 ≤ from_0 ∧ from_0 ≤ 2000) : 1 * x1 + ((-1) * from_0 + 0) ≤ 0 := by
  subst fe_0_10_1
  subst fe_0_11_1
  subst fe_0_13_1
  subst fe_0_15_1
  subst fe_0_10_2
  subst fe_0_11_2
  subst fe_0_13_2
  subst fe_0_14_2
  subst fe_0_15_2
  subst fe_0_10_3
  subst fe_0_11_3
  subst fe_0_13_3
  subst fe_0_14_3
  subst fe_0_10_4
  subst fe_0_11_4
  have e_hE_0_1_1 := funext hE_0_1_1; subst e_hE_0_1_1
  have e_hE_0_1_2 := funext hE_0_1_2; subst e_hE_0_1_2
  have e_hE_0_1_3 := funext hE_0_1_3; subst e_hE_0_1_3
  have e_hE_0_1_4 := funext hE_0_1_4; subst e_hE_0_1_4
  first | with_reducible assumption | ((try and_intros) <;> first | with_reducible assumption | (clear hE_0_1_1 hE_0_1_2 hE_0_1_3 hE_0_1_4 hK_0_1 f5 f6 f11 f12 f16 f17; omega)) | ((first | have f5_b := f5 (by clear hE_0_1_1 hE_0_1_2 hE_0_1_3 hE_0_1_4 hK_0_1 f5 f6 f11 f12 f16 f17; omega) | skip); (first | have f6_b := f6 (by clear hE_0_1_1 hE_0_1_2 hE_0_1_3 hE_0_1_4 hK_0_1 f5 f6 f11 f12 f16 f17; omega) | skip); (first | have f11_b := f11 (by clear hE_0_1_1 hE_0_1_2 hE_0_1_3 hE_0_1_4 hK_0_1 f5 f6 f11 f12 f16 f17; omega) | skip); (first | have f12_b := f12 (by clear hE_0_1_1 hE_0_1_2 hE_0_1_3 hE_0_1_4 hK_0_1 f5 f6 f11 f12 f16 f17; omega) | skip); (first | have f16_b := f16 (by clear hE_0_1_1 hE_0_1_2 hE_0_1_3 hE_0_1_4 hK_0_1 f5 f6 f11 f12 f16 f17; omega) | skip); (first | have f17_b := f17 (by clear hE_0_1_1 hE_0_1_2 hE_0_1_3 hE_0_1_4 hK_0_1 f5 f6 f11 f12 f16 f17; omega) | skip); (first | have f5_d := f5 (by with_reducible assumption) | skip); (first | have f6_d := f6 (by with_reducible assumption) | skip); (first | have f11_d := f11 (by with_reducible assumption) | skip); (first | have f12_d := f12 (by with_reducible assumption) | skip); (first | have f16_d := f16 (by with_reducible assumption) | skip); (first | have f17_d := f17 (by with_reducible assumption) | skip); (try and_intros) <;> first | with_reducible assumption | (clear hE_0_1_1 hE_0_1_2 hE_0_1_3 hE_0_1_4 hK_0_1 f5 f6 f11 f12 f16 f17; omega)) | omega
set_option maxHeartbeats 4000000 in
theorem vc_Mo_next_12_1 (x3 : Int) (x4 : Int) (from_0 : Int) (place_0 : Int) (pos_0 : Int) (tape_0 : Int → Int) (limit_0 : Int) (tape_1 : Int → Int) (limit_1 : Int) (pos_1 : Int) (tape_2 : Int → Int) (limit_2 : Int) (pos_2 : Int) (pos_3 : Int) (tape_3 : Int → Int) (limit_3 : Int) (pos_4 : Int) (tape_4 : Int → Int) (limit_4 : Int) (place_1 : Int) (from_1 : Int) (place_2 : Int) (value_1 : Int) (value_2 : Int) (from_2 : Int) (place_3 : Int) (value_3 : Int) (k3 : 0 ≤ x3 ∧ x3 ≤ 1999) (k4 : 91 ≤ x4 ∧ x4 ≤ 96) (g1 : x3 = from_0) (g2 : x3 = place_0) (g3 : x3 = pos_0) (f5 : ((x3 + 1) ≤ limit_0) → (x4 = (tape_0 (x3) % 256))) (f6 : (limit_0 ≤ x3) → (x4 = (-1))) (f11 : ((x3 + 1) ≤ limit_1) → (x4 = (tape_1 (x3) % 256))) (f12 : (limit_1 ≤ x3) → (x4 = (-1))) (f16 : ((x3 + 1) ≤ limit_2) → (x4 = (tape_2 (x3) % 256))) (f17 : (limit_2 ≤ x3) → (x4 = (-1))) (fe_0_10_1 : limit_0 = limit_1) (fe_0_11_1 : pos_0 = pos_1) (fe_0_13_1 : place_0 = place_1) (fe_0_15_1 : from_0 = from_1) (fe_0_10_2 : limit_1 = limit_2) (fe_0_11_2 : pos_1 = pos_2) (fe_0_13_2 : place_1 = place_2) (fe_0_14_2 : value_1 = value_2) (fe_0_15_2 : from_1 = from_2) (fe_0_10_3 : limit_2 = limit_3) (fe_0_11_3 : pos_2 = pos_3) (fe_0_13_3 : place_2 = place_3) (fe_0_14_3 : value_2 = value_3) (fe_0_10_4 : limit_3 = limit_4) (fe_0_11_4 : pos_3 = pos_4) (hE_0_1_1 : ∀ j : Int, tape_0 j = tape_1 j) (hE_0_1_2 : ∀ j : Int, tape_1 j = tape_2 j) (hE_0_1_3 : ∀ j : Int, tape_2 j = tape_3 j) (hE_0_1_4 : ∀ j : Int, tape_3 j = tape_4 j) (hK_0_1 : ∀ j : Int, 0 ≤ j → j < 2000 → (-128) ≤ tape_0 j ∧ tape_0 j ≤ 127) (kz_0_10 : 0 ≤ limit_0 ∧ limit_0 ≤ 2000) (kz_0_11 : 0 ≤ pos_0 ∧ pos_0 ≤ 2000) (kz_0_13 : 0 ≤ place_0 ∧ place_0 ≤ 2000) (kz_0_15 : 0 ≤ from_0 ∧ from_0 ≤ 2000) : pos_0 = from_0 := by
  subst fe_0_10_1
  subst fe_0_11_1
  subst fe_0_13_1
  subst fe_0_15_1
  subst fe_0_10_2
  subst fe_0_11_2
  subst fe_0_13_2
  subst fe_0_14_2
  subst fe_0_15_2
  subst fe_0_10_3
  subst fe_0_11_3
  subst fe_0_13_3
  subst fe_0_14_3
  subst fe_0_10_4
  subst fe_0_11_4
  have e_hE_0_1_1 := funext hE_0_1_1; subst e_hE_0_1_1
  have e_hE_0_1_2 := funext hE_0_1_2; subst e_hE_0_1_2
  have e_hE_0_1_3 := funext hE_0_1_3; subst e_hE_0_1_3
  have e_hE_0_1_4 := funext hE_0_1_4; subst e_hE_0_1_4
  first | with_reducible assumption | ((try and_intros) <;> first | with_reducible assumption | (clear hE_0_1_1 hE_0_1_2 hE_0_1_3 hE_0_1_4 hK_0_1 f5 f6 f11 f12 f16 f17; omega)) | ((first | have f5_b := f5 (by clear hE_0_1_1 hE_0_1_2 hE_0_1_3 hE_0_1_4 hK_0_1 f5 f6 f11 f12 f16 f17; omega) | skip); (first | have f6_b := f6 (by clear hE_0_1_1 hE_0_1_2 hE_0_1_3 hE_0_1_4 hK_0_1 f5 f6 f11 f12 f16 f17; omega) | skip); (first | have f11_b := f11 (by clear hE_0_1_1 hE_0_1_2 hE_0_1_3 hE_0_1_4 hK_0_1 f5 f6 f11 f12 f16 f17; omega) | skip); (first | have f12_b := f12 (by clear hE_0_1_1 hE_0_1_2 hE_0_1_3 hE_0_1_4 hK_0_1 f5 f6 f11 f12 f16 f17; omega) | skip); (first | have f16_b := f16 (by clear hE_0_1_1 hE_0_1_2 hE_0_1_3 hE_0_1_4 hK_0_1 f5 f6 f11 f12 f16 f17; omega) | skip); (first | have f17_b := f17 (by clear hE_0_1_1 hE_0_1_2 hE_0_1_3 hE_0_1_4 hK_0_1 f5 f6 f11 f12 f16 f17; omega) | skip); (first | have f5_d := f5 (by with_reducible assumption) | skip); (first | have f6_d := f6 (by with_reducible assumption) | skip); (first | have f11_d := f11 (by with_reducible assumption) | skip); (first | have f12_d := f12 (by with_reducible assumption) | skip); (first | have f16_d := f16 (by with_reducible assumption) | skip); (first | have f17_d := f17 (by with_reducible assumption) | skip); (try and_intros) <;> first | with_reducible assumption | (clear hE_0_1_1 hE_0_1_2 hE_0_1_3 hE_0_1_4 hK_0_1 f5 f6 f11 f12 f16 f17; omega)) | omega
set_option maxHeartbeats 4000000 in
theorem vc_Mo_next_12_2 (x1 : Int) (x3 : Int) (x4 : Int) (value_0 : Int) (from_0 : Int) (place_0 : Int) (pos_0 : Int) (tape_0 : Int → Int) (limit_0 : Int) (tape_1 : Int → Int) (limit_1 : Int) (pos_1 : Int) (tape_2 : Int → Int) (limit_2 : Int) (pos_2 : Int) (pos_3 : Int) (tape_3 : Int → Int) (limit_3 : Int) (pos_4 : Int) (tape_4 : Int → Int) (limit_4 : Int) (place_1 : Int) (from_1 : Int) (place_2 : Int) (value_1 : Int) (value_2 : Int) (from_2 : Int) (place_3 : Int) (value_3 : Int) (k1 : 0 ≤ x1 ∧ x1 ≤ 2000) (k3 : 0 ≤ x3 ∧ x3 ≤ 1999) (k4 : 91 ≤ x4 ∧ x4 ≤ 96) (g0 : x4 = value_0) (g1 : x3 = from_0) (g2 : x3 = place_0) (g3 : x3 = pos_0) (f11 : ((x3 + 1) ≤ limit_1) → (x4 = (tape_1 (x3) % 256))) (f16 : ((x3 + 1) ≤ limit_2) → (x4 = (tape_2 (x3) % 256))) (f17 : (limit_2 ≤ x3) → (x4 = (-1))) (f25 : ZX1 (limit_4) (pos_4) (tape_4) (x1)) (fe_0_10_1 : limit_0 = limit_1) (fe_0_11_1 : pos_0 = pos_1) (fe_0_13_1 : place_0 = place_1) (fe_0_15_1 : from_0 = from_1) (fe_0_10_2 : limit_1 = limit_2) (fe_0_11_2 : pos_1 = pos_2) (fe_0_13_2 : place_1 = place_2) (fe_0_14_2 : value_1 = value_2) (fe_0_15_2 : from_1 = from_2) (fe_0_10_3 : limit_2 = limit_3) (fe_0_11_3 : pos_2 = pos_3) (fe_0_13_3 : place_2 = place_3) (fe_0_14_3 : value_2 = value_3) (fe_0_10_4 : limit_3 = limit_4) (fe_0_11_4 : pos_3 = pos_4) (fe_0_13_4 : place_3 = x3) (hE_0_1_1 : ∀ j : Int, tape_0 j = tape_1 j) (hE_0_1_2 : ∀ j : Int, tape_1 j = tape_2 j) (hE_0_1_3 : ∀ j : Int, tape_2 j = tape_3 j) (hE_0_1_4 : ∀ j : Int, tape_3 j = tape_4 j) (kz_0_10 : 0 ≤ limit_0 ∧ limit_0 ≤ 2000) (kz_0_11 : 0 ≤ pos_0 ∧ pos_0 ≤ 2000) (kz_0_13 : 0 ≤ place_0 ∧ place_0 ≤ 2000) (kz_0_14 : (-49) ≤ value_0 ∧ value_0 ≤ 1048575) (kz_0_15 : 0 ≤ from_0 ∧ from_0 ≤ 2000) : ZXS (limit_0) (pos_0) (place_0) (from_0) (tape_0) (x1) (x4) := by
  subst fe_0_10_1
  subst fe_0_11_1
  subst fe_0_13_1
  subst fe_0_15_1
  subst fe_0_10_2
  subst fe_0_11_2
  subst fe_0_13_2
  subst fe_0_14_2
  subst fe_0_15_2
  subst fe_0_10_3
  subst fe_0_11_3
  subst fe_0_13_3
  subst fe_0_14_3
  subst fe_0_10_4
  subst fe_0_11_4
  have e_hE_0_1_1 := funext hE_0_1_1; subst e_hE_0_1_1
  have e_hE_0_1_2 := funext hE_0_1_2; subst e_hE_0_1_2
  have e_hE_0_1_3 := funext hE_0_1_3; subst e_hE_0_1_3
  have e_hE_0_1_4 := funext hE_0_1_4; subst e_hE_0_1_4
  first | subst g0 | skip
  first | subst g1 | skip
  first | subst g2 | skip
  first | subst g3 | skip
  exact zxs_mk ‹ZX1 _ _ _ _› (by omega) (by omega) (by omega) (by omega) (by omega) (by omega)
def o_Mo_next_12 : or_T := (277, 8, [(0, (2, 0, 0, [165])), (1, (0, 0, 2000, [])), (2, (2, 0, 0, [165])), (3, (0, 0, 1999, [])), (4, (0, 91, 96, []))], [(9, [4, 2], [14]), (9, [3, 2], [15]), (9, [3, 2], [13]), (9, [3, 2], [11]), (8, [4], [3]), (20, [3, 2, 4], [50, 1, 1, 1010, 1001, 4, 11, 0, 6, 4, 2, 1, 0, 0, 1, 2, 1, 10, 1, 2, 1, 2, 9, 5, 3, 1, 1, 1, 0, 0, 256]), (20, [2, 3, 4], [50, 1, 0, 10, 4, 7, 0, 3, 2, 0, 10, 1, 1, 1, 2, 1, 2, 0, -1]), (20, [1, 2], [30, 0, 1, 0, 0, -1, 1, 11]), (20, [2, 1], [60, 2, 1, 950, 10, 11, 1]), (24, [0, 2], []), (101, [2, 4], [14]), (20, [3, 2, 4], [50, 1, 1, 1010, 1001, 4, 11, 0, 6, 4, 2, 1, 0, 0, 1, 2, 1, 10, 1, 2, 1, 2, 9, 5, 3, 1, 1, 1, 0, 0, 256]), (20, [2, 3, 4], [50, 1, 0, 10, 4, 7, 0, 3, 2, 0, 10, 1, 1, 1, 2, 1, 2, 0, -1]), (20, [1, 2], [30, 0, 1, 0, 0, -1, 1, 11]), (20, [2, 1], [60, 2, 1, 950, 10, 11, 1]), (101, [2, 5], [12]), (20, [3, 2, 4], [50, 1, 1, 1010, 1001, 4, 11, 0, 6, 4, 2, 1, 0, 0, 1, 2, 1, 10, 1, 2, 1, 2, 9, 5, 3, 1, 1, 1, 0, 0, 256]), (20, [2, 3, 4], [50, 1, 0, 10, 4, 7, 0, 3, 2, 0, 10, 1, 1, 1, 2, 1, 2, 0, -1]), (20, [1, 2], [30, 0, 1, 0, 0, -1, 1, 11]), (20, [2, 1], [60, 2, 1, 950, 10, 11, 1]), (101, [2, 3], [15]), (20, [1, 2], [30, 0, 1, 0, 0, -1, 1, 11]), (20, [2, 1], [60, 2, 1, 950, 10, 11, 1]), (101, [2, 3], [13]), (20, [1, 2], [30, 0, 1, 0, 0, -1, 1, 11]), (20, [2, 1], [60, 2, 1, 950, 10, 11, 1])], [], [], [(20, [1, 2], [30, 0, 1, 0, 0, -1, 1, 15]), (20, [2], [50, 2, 0, 11, 15, 1, 3, 2, 0, 11, 2, 0, 15]), (20, [2, 1, 4], [60, 4, 1, 956, 10, 11, 13, 15, 1])], [], [])
theorem oo_Mo_next_12 {kA : Nat → ClassId} : or_ok PRD kA GG o_Mo_next_12 := by
  refine or_mk fun A ta ws vs hD hth hl => ?_
  intro t0 r0 t1 k1 t2 r2 t3 k3 t4 k4 f0 f1 f2 f3 f4 f5 f6 f7 f8 f9 ta1 w1 le1 s1 f11 f12 f13 f14 ta2 w2 le2 s2 f16 f17 f18 f19 ta3 w3 le3 s3 f21 f22 ta4 w4 le4 s4 f24 f25
  replace f0 := shm_115 f0
  replace f1 := shm_177 f1
  replace f2 := shm_361 f2
  replace f3 := shm_116 f3
  replace f5 := shm_541 f5
  replace f6 := shm_542 f6
  replace f7 := shm_1431 f7
  replace f9 := shm_5 f9
  have s1 : (∀ b j, w_el ws b j = w_el w1 b j) ∧ ∀ b j, w_fd ws b j = if b = v_ad (n_v vs 2) ∧ j = 14 then n_v vs 4 else w_fd w1 b j := s1.2
  replace f11 := shm_541 f11
  replace f12 := shm_542 f12
  have s2 : (∀ b j, w_el w1 b j = w_el w2 b j) ∧ ∀ b j, w_fd w1 b j = if b = v_ad (n_v vs 2) ∧ j = 12 then n_v vs 5 else w_fd w2 b j := s2.2
  replace f16 := shm_541 f16
  replace f17 := shm_542 f17
  have s3 : (∀ b j, w_el w2 b j = w_el w3 b j) ∧ ∀ b j, w_fd w2 b j = if b = v_ad (n_v vs 2) ∧ j = 15 then n_v vs 3 else w_fd w3 b j := s3.2
  have s4 : (∀ b j, w_el w3 b j = w_el w4 b j) ∧ ∀ b j, w_fd w3 b j = if b = v_ad (n_v vs 2) ∧ j = 13 then n_v vs 3 else w_fd w4 b j := s4.2
  replace f25 := shm_1435 f25
  have q2 : n_v vs 2 = n_v vs 0 := f9.symm
  simp only [q2] at f0 f1 f2 f3 f5 f6 f7
  rw [q2] at s1
  simp only [q2] at f11 f12
  rw [q2] at s2
  simp only [q2] at f16 f17
  rw [q2] at s3
  rw [q2] at s4
  simp only [q2] at f25
  have ar_0_1_1 : w_ar w1 (n_v vs 0) 1 = w_ar ws (n_v vs 0) 1 := by show v_ad (w_fd w1 _ _) = v_ad (w_fd ws _ _); rw [s1.2, if_neg (fun e => absurd e.2 (by decide))]
  have ar_0_1_2 : w_ar w2 (n_v vs 0) 1 = w_ar ws (n_v vs 0) 1 := by rw [← ar_0_1_1]; show v_ad (w_fd w2 _ _) = v_ad (w_fd w1 _ _); rw [s2.2, if_neg (fun e => absurd e.2 (by decide))]
  have ar_0_1_3 : w_ar w3 (n_v vs 0) 1 = w_ar ws (n_v vs 0) 1 := by rw [← ar_0_1_2]; show v_ad (w_fd w3 _ _) = v_ad (w_fd w2 _ _); rw [s3.2, if_neg (fun e => absurd e.2 (by decide))]
  have ar_0_1_4 : w_ar w4 (n_v vs 0) 1 = w_ar ws (n_v vs 0) 1 := by rw [← ar_0_1_3]; show v_ad (w_fd w4 _ _) = v_ad (w_fd w3 _ _); rw [s4.2, if_neg (fun e => absurd e.2 (by decide))]
  have cr_0_1 := fdq_39 hD hth r0
  have g0 : v_iv (n_v vs 4) = w_fi ws (n_v vs 0) 14 := congrArg v_iv f0
  have g1 : v_iv (n_v vs 3) = w_fi ws (n_v vs 0) 15 := congrArg v_iv f1
  have g2 : v_iv (n_v vs 3) = w_fi ws (n_v vs 0) 13 := congrArg v_iv f2
  have g3 : v_iv (n_v vs 3) = w_fi ws (n_v vs 0) 11 := congrArg v_iv f3
  simp only [ar_0_1_1, ar_0_1_2, ar_0_1_3, ar_0_1_4] at f11 f16 f25
  have fe_0_10_1 : w_fi ws (n_v vs 0) 10 = w_fi w1 (n_v vs 0) 10 := by show v_iv (w_fd _ _ _) = v_iv (w_fd _ _ _); rw [s1.2, if_neg (fun e => absurd e.2 (by decide))]
  have fe_0_11_1 : w_fi ws (n_v vs 0) 11 = w_fi w1 (n_v vs 0) 11 := by show v_iv (w_fd _ _ _) = v_iv (w_fd _ _ _); rw [s1.2, if_neg (fun e => absurd e.2 (by decide))]
  have fe_0_13_1 : w_fi ws (n_v vs 0) 13 = w_fi w1 (n_v vs 0) 13 := by show v_iv (w_fd _ _ _) = v_iv (w_fd _ _ _); rw [s1.2, if_neg (fun e => absurd e.2 (by decide))]
  have fe_0_15_1 : w_fi ws (n_v vs 0) 15 = w_fi w1 (n_v vs 0) 15 := by show v_iv (w_fd _ _ _) = v_iv (w_fd _ _ _); rw [s1.2, if_neg (fun e => absurd e.2 (by decide))]
  have fe_0_10_2 : w_fi w1 (n_v vs 0) 10 = w_fi w2 (n_v vs 0) 10 := by show v_iv (w_fd _ _ _) = v_iv (w_fd _ _ _); rw [s2.2, if_neg (fun e => absurd e.2 (by decide))]
  have fe_0_11_2 : w_fi w1 (n_v vs 0) 11 = w_fi w2 (n_v vs 0) 11 := by show v_iv (w_fd _ _ _) = v_iv (w_fd _ _ _); rw [s2.2, if_neg (fun e => absurd e.2 (by decide))]
  have fe_0_13_2 : w_fi w1 (n_v vs 0) 13 = w_fi w2 (n_v vs 0) 13 := by show v_iv (w_fd _ _ _) = v_iv (w_fd _ _ _); rw [s2.2, if_neg (fun e => absurd e.2 (by decide))]
  have fe_0_14_2 : w_fi w1 (n_v vs 0) 14 = w_fi w2 (n_v vs 0) 14 := by show v_iv (w_fd _ _ _) = v_iv (w_fd _ _ _); rw [s2.2, if_neg (fun e => absurd e.2 (by decide))]
  have fe_0_15_2 : w_fi w1 (n_v vs 0) 15 = w_fi w2 (n_v vs 0) 15 := by show v_iv (w_fd _ _ _) = v_iv (w_fd _ _ _); rw [s2.2, if_neg (fun e => absurd e.2 (by decide))]
  have fe_0_10_3 : w_fi w2 (n_v vs 0) 10 = w_fi w3 (n_v vs 0) 10 := by show v_iv (w_fd _ _ _) = v_iv (w_fd _ _ _); rw [s3.2, if_neg (fun e => absurd e.2 (by decide))]
  have fe_0_11_3 : w_fi w2 (n_v vs 0) 11 = w_fi w3 (n_v vs 0) 11 := by show v_iv (w_fd _ _ _) = v_iv (w_fd _ _ _); rw [s3.2, if_neg (fun e => absurd e.2 (by decide))]
  have fe_0_13_3 : w_fi w2 (n_v vs 0) 13 = w_fi w3 (n_v vs 0) 13 := by show v_iv (w_fd _ _ _) = v_iv (w_fd _ _ _); rw [s3.2, if_neg (fun e => absurd e.2 (by decide))]
  have fe_0_14_3 : w_fi w2 (n_v vs 0) 14 = w_fi w3 (n_v vs 0) 14 := by show v_iv (w_fd _ _ _) = v_iv (w_fd _ _ _); rw [s3.2, if_neg (fun e => absurd e.2 (by decide))]
  have fe_0_10_4 : w_fi w3 (n_v vs 0) 10 = w_fi w4 (n_v vs 0) 10 := by show v_iv (w_fd _ _ _) = v_iv (w_fd _ _ _); rw [s4.2, if_neg (fun e => absurd e.2 (by decide))]
  have fe_0_11_4 : w_fi w3 (n_v vs 0) 11 = w_fi w4 (n_v vs 0) 11 := by show v_iv (w_fd _ _ _) = v_iv (w_fd _ _ _); rw [s4.2, if_neg (fun e => absurd e.2 (by decide))]
  have fe_0_13_4 : w_fi w3 (n_v vs 0) 13 = v_iv (n_v vs 3) := by show v_iv (w_fd _ _ _) = _; rw [s4.2, if_pos ⟨rfl, rfl⟩]
  have hE_0_1_1 : ∀ j : Int, w_ei ws (w_ar ws (n_v vs 0) 1) j = w_ei w1 (w_ar ws (n_v vs 0) 1) j := fun j => s1.1 _ _
  have hE_0_1_2 : ∀ j : Int, w_ei w1 (w_ar ws (n_v vs 0) 1) j = w_ei w2 (w_ar ws (n_v vs 0) 1) j := fun j => s2.1 _ _
  have hE_0_1_3 : ∀ j : Int, w_ei w2 (w_ar ws (n_v vs 0) 1) j = w_ei w3 (w_ar ws (n_v vs 0) 1) j := fun j => s3.1 _ _
  have hE_0_1_4 : ∀ j : Int, w_ei w3 (w_ar ws (n_v vs 0) 1) j = w_ei w4 (w_ar ws (n_v vs 0) 1) j := fun j => s4.1 _ _
  have hK_0_1 := elq_7 hD hth cr_0_1
  have kz_0_10 := fdq_43 hD hth r0
  have kz_0_11 := fdq_237 hD hth r0
  have kz_0_13 := fdq_238 hD hth r0
  have kz_0_14 := fdq_188 hD hth r0
  have kz_0_15 := fdq_239 hD hth r0
  have nf0 : fc_1 PRD (20, [1, 2], [30, 0, 1, 0, 0, -1, 1, 15]) ws (vs) := by
    refine ⟨nf_in hl rfl, sgq_1436 ?_⟩
    · show 1 * v_iv (n_v vs 1) + ((-1) * w_fi ws (n_v vs 2) 15 + 0) ≤ 0
      rw [q2]
      exact vc_Mo_next_12_0 (v_iv (n_v vs 1)) (v_iv (n_v vs 3)) (v_iv (n_v vs 4)) (w_fi ws (n_v vs 0) 15) (w_fi ws (n_v vs 0) 13) (w_fi ws (n_v vs 0) 11) (w_ei ws (w_ar ws (n_v vs 0) 1)) (w_fi ws (n_v vs 0) 10) (w_ei w1 (w_ar ws (n_v vs 0) 1)) (w_fi w1 (n_v vs 0) 10) (w_fi w1 (n_v vs 0) 11) (w_ei w2 (w_ar ws (n_v vs 0) 1)) (w_fi w2 (n_v vs 0) 10) (w_fi w2 (n_v vs 0) 11) (w_fi w3 (n_v vs 0) 11) (w_ei w3 (w_ar ws (n_v vs 0) 1)) (w_fi w3 (n_v vs 0) 10) (w_fi w4 (n_v vs 0) 11) (w_ei w4 (w_ar ws (n_v vs 0) 1)) (w_fi w4 (n_v vs 0) 10) (w_fi w1 (n_v vs 0) 13) (w_fi w1 (n_v vs 0) 15) (w_fi w2 (n_v vs 0) 13) (w_fi w1 (n_v vs 0) 14) (w_fi w2 (n_v vs 0) 14) (w_fi w2 (n_v vs 0) 15) (w_fi w3 (n_v vs 0) 13) (w_fi w3 (n_v vs 0) 14) k1 k3 k4 g1 g2 g3 f5 f6 f7 f11 f12 f16 f17 fe_0_10_1 fe_0_11_1 fe_0_13_1 fe_0_15_1 fe_0_10_2 fe_0_11_2 fe_0_13_2 fe_0_14_2 fe_0_15_2 fe_0_10_3 fe_0_11_3 fe_0_13_3 fe_0_14_3 fe_0_10_4 fe_0_11_4 hE_0_1_1 hE_0_1_2 hE_0_1_3 hE_0_1_4 hK_0_1 kz_0_10 kz_0_11 kz_0_13 kz_0_15
  have nf1 : fc_1 PRD (20, [2], [50, 2, 0, 11, 15, 1, 3, 2, 0, 11, 2, 0, 15]) ws (vs) := by
    refine ⟨nf_in hl rfl, sgq_1440 ?_⟩
    · show w_fi ws (n_v vs 2) 11 = w_fi ws (n_v vs 2) 15
      rw [q2]
      exact vc_Mo_next_12_1 (v_iv (n_v vs 3)) (v_iv (n_v vs 4)) (w_fi ws (n_v vs 0) 15) (w_fi ws (n_v vs 0) 13) (w_fi ws (n_v vs 0) 11) (w_ei ws (w_ar ws (n_v vs 0) 1)) (w_fi ws (n_v vs 0) 10) (w_ei w1 (w_ar ws (n_v vs 0) 1)) (w_fi w1 (n_v vs 0) 10) (w_fi w1 (n_v vs 0) 11) (w_ei w2 (w_ar ws (n_v vs 0) 1)) (w_fi w2 (n_v vs 0) 10) (w_fi w2 (n_v vs 0) 11) (w_fi w3 (n_v vs 0) 11) (w_ei w3 (w_ar ws (n_v vs 0) 1)) (w_fi w3 (n_v vs 0) 10) (w_fi w4 (n_v vs 0) 11) (w_ei w4 (w_ar ws (n_v vs 0) 1)) (w_fi w4 (n_v vs 0) 10) (w_fi w1 (n_v vs 0) 13) (w_fi w1 (n_v vs 0) 15) (w_fi w2 (n_v vs 0) 13) (w_fi w1 (n_v vs 0) 14) (w_fi w2 (n_v vs 0) 14) (w_fi w2 (n_v vs 0) 15) (w_fi w3 (n_v vs 0) 13) (w_fi w3 (n_v vs 0) 14) k3 k4 g1 g2 g3 f5 f6 f11 f12 f16 f17 fe_0_10_1 fe_0_11_1 fe_0_13_1 fe_0_15_1 fe_0_10_2 fe_0_11_2 fe_0_13_2 fe_0_14_2 fe_0_15_2 fe_0_10_3 fe_0_11_3 fe_0_13_3 fe_0_14_3 fe_0_10_4 fe_0_11_4 hE_0_1_1 hE_0_1_2 hE_0_1_3 hE_0_1_4 hK_0_1 kz_0_10 kz_0_11 kz_0_13 kz_0_15
  have nf2 : fc_1 PRD (20, [2, 1, 4], [60, 4, 1, 956, 10, 11, 13, 15, 1]) ws (vs) := by
    refine ⟨nf_in hl rfl, sgq_1441 ?_⟩
    · show ZXS (w_fi ws (n_v vs 2) 10) (w_fi ws (n_v vs 2) 11) (w_fi ws (n_v vs 2) 13) (w_fi ws (n_v vs 2) 15) (w_ei ws (w_ar ws (n_v vs 2) 1)) (v_iv (n_v vs 1)) (v_iv (n_v vs 4))
      rw [q2]
      exact vc_Mo_next_12_2 (v_iv (n_v vs 1)) (v_iv (n_v vs 3)) (v_iv (n_v vs 4)) (w_fi ws (n_v vs 0) 14) (w_fi ws (n_v vs 0) 15) (w_fi ws (n_v vs 0) 13) (w_fi ws (n_v vs 0) 11) (w_ei ws (w_ar ws (n_v vs 0) 1)) (w_fi ws (n_v vs 0) 10) (w_ei w1 (w_ar ws (n_v vs 0) 1)) (w_fi w1 (n_v vs 0) 10) (w_fi w1 (n_v vs 0) 11) (w_ei w2 (w_ar ws (n_v vs 0) 1)) (w_fi w2 (n_v vs 0) 10) (w_fi w2 (n_v vs 0) 11) (w_fi w3 (n_v vs 0) 11) (w_ei w3 (w_ar ws (n_v vs 0) 1)) (w_fi w3 (n_v vs 0) 10) (w_fi w4 (n_v vs 0) 11) (w_ei w4 (w_ar ws (n_v vs 0) 1)) (w_fi w4 (n_v vs 0) 10) (w_fi w1 (n_v vs 0) 13) (w_fi w1 (n_v vs 0) 15) (w_fi w2 (n_v vs 0) 13) (w_fi w1 (n_v vs 0) 14) (w_fi w2 (n_v vs 0) 14) (w_fi w2 (n_v vs 0) 15) (w_fi w3 (n_v vs 0) 13) (w_fi w3 (n_v vs 0) 14) k1 k3 k4 g0 g1 g2 g3 f11 f16 f17 f25 fe_0_10_1 fe_0_11_1 fe_0_13_1 fe_0_15_1 fe_0_10_2 fe_0_11_2 fe_0_13_2 fe_0_14_2 fe_0_15_2 fe_0_10_3 fe_0_11_3 fe_0_13_3 fe_0_14_3 fe_0_10_4 fe_0_11_4 fe_0_13_4 hE_0_1_1 hE_0_1_2 hE_0_1_3 hE_0_1_4 kz_0_10 kz_0_11 kz_0_13 kz_0_14 kz_0_15
  refine ⟨(fun _ h => (by cases h)), [], trivial, ?_, (fun _ h => (by cases h))⟩
  rw [List.append_nil]
  exact List.forall_mem_cons.mpr ⟨⟨show (20 : Nat) < 100 from by decide, nf0⟩, List.forall_mem_cons.mpr ⟨⟨show (20 : Nat) < 100 from by decide, nf1⟩, List.forall_mem_cons.mpr ⟨⟨show (20 : Nat) < 100 from by decide, nf2⟩, (fun _ h => (by cases h))⟩⟩⟩
set_option maxHeartbeats 4000000 in
theorem vc_Mo_next_13_0 (x1 : Int) (x3 : Int) (x4 : Int) (from_0 : Int) (place_0 : Int) (pos_0 : Int) (tape_0 : Int → Int) (limit_0 : Int) (tape_1 : Int → Int) (limit_1 : Int) (pos_1 : Int) (tape_2 : Int → Int) (limit_2 : Int) (pos_2 : Int) (pos_3 : Int) (tape_3 : Int → Int) (limit_3 : Int) (pos_4 : Int) (tape_4 : Int → Int) (limit_4 : Int) (place_1 : Int) (from_1 : Int) (place_2 : Int) (value_1 : Int) (value_2 : Int) (from_2 : Int) (place_3 : Int) (value_3 : Int) (k1 : 0 ≤ x1 ∧ x1 ≤ 2000) (k3 : 0 ≤ x3 ∧ x3 ≤ 1999) (k4 : 65 ≤ x4 ∧ x4 ≤ 90) (g1 : x3 = from_0) (g2 : x3 = place_0) (g3 : x3 = pos_0) (f5 : ((x3 + 1) ≤ limit_0) → (x4 = (tape_0 (x3) % 256))) (f6 : (limit_0 ≤ x3) → (x4 = (-1))) (f7 : 1 * x1 + ((-1) * pos_0 + 0) ≤ 0) (f11 : ((x3 + 1) ≤ limit_1) → (x4 = (tape_1 (x3) % 256))) (f12 : (limit_1 ≤ x3) → (x4 = (-1))) (f16 : ((x3 + 1) ≤ limit_2) → (x4 = (tape_2 (x3) % 256))) (f17 : (limit_2 ≤ x3) → (x4 = (-1))) (fe_0_10_1 : limit_0 = limit_1) (fe_0_11_1 : pos_0 = pos_1) (fe_0_13_1 : place_0 = place_1) (fe_0_15_1 : from_0 = from_1) (fe_0_10_2 : limit_1 = limit_2) (fe_0_11_2 : pos_1 = pos_2) (fe_0_13_2 : place_1 = place_2) (fe_0_14_2 : value_1 = value_2) (fe_0_15_2 : from_1 = from_2) (fe_0_10_3 : limit_2 = limit_3) (fe_0_11_3 : pos_2 = pos_3) (fe_0_13_3 : place_2 = place_3) (fe_0_14_3 : value_2 = value_3) (fe_0_10_4 : limit_3 = limit_4) (fe_0_11_4 : pos_3 = pos_4) (hE_0_1_1 : ∀ j : Int, tape_0 j = tape_1 j) (hE_0_1_2 : ∀ j : Int, tape_1 j = tape_2 j) (hE_0_1_3 : ∀ j : Int, tape_2 j = tape_3 j) (hE_0_1_4 : ∀ j : Int, tape_3 j = tape_4 j) (hK_0_1 : ∀ j : Int, 0 ≤ j → j < 2000 → (-128) ≤ tape_0 j ∧ tape_0 j ≤ 127) (kz_0_10 : 0 ≤ limit_0 ∧ limit_0 ≤ 2000) (kz_0_11 : 0 ≤ pos_0 ∧ pos_0 ≤ 2000) (kz_0_13 : 0 ≤ place_0 ∧ place_0 ≤ 2000) (kz_0_15 : 0 ≤ from_0 ∧ from_0 ≤ 2000) : 1 * x1 + ((-1) * from_0 + 0) ≤ 0 := by
  subst fe_0_10_1
  subst fe_0_11_1
  subst fe_0_13_1
  subst fe_0_15_1
  subst fe_0_10_2
  subst fe_0_11_2
  subst fe_0_13_2
  subst fe_0_14_2
  subst fe_0_15_2
  subst fe_0_10_3
  subst fe_0_11_3
  subst fe_0_13_3
  subst fe_0_14_3
  subst fe_0_10_4
  subst fe_0_11_4
  have e_hE_0_1_1 := funext hE_0_1_1; subst e_hE_0_1_1
  have e_hE_0_1_2 := funext hE_0_1_2; subst e_hE_0_1_2
  have e_hE_0_1_3 := funext hE_0_1_3; subst e_hE_0_1_3
  have e_hE_0_1_4 := funext hE_0_1_4; subst e_hE_0_1_4
  first | with_reducible assumption | ((try and_intros) <;> first | with_reducible assumption | (clear hE_0_1_1 hE_0_1_2 hE_0_1_3 hE_0_1_4 hK_0_1 f5 f6 f11 f12 f16 f17; omega)) | ((first | have f5_b := f5 (by clear hE_0_1_1 hE_0_1_2 hE_0_1_3 hE_0_1_4 hK_0_1 f5 f6 f11 f12 f16 f17; omega) | skip); (first | have f6_b := f6 (by clear hE_0_1_1 hE_0_1_2 hE_0_1_3 hE_0_1_4 hK_0_1 f5 f6 f11 f12 f16 f17; omega) | skip); (first | have f11_b := f11 (by clear hE_0_1_1 hE_0_1_2 hE_0_1_3 hE_0_1_4 hK_0_1 f5 f6 f11 f12 f16 f17; omega) | skip); (first | have f12_b := f12 (by clear hE_0_1_1 hE_0_1_2 hE_0_1_3 hE_0_1_4 hK_0_1 f5 f6 f11 f12 f16 f17; omega) | skip); (first | have f16_b := f16 (by clear hE_0_1_1 hE_0_1_2 hE_0_1_3 hE_0_1_4 hK_0_1 f5 f6 f11 f12 f16 f17; omega) | skip); (first | have f17_b := f17 (by clear hE_0_1_1 hE_0_1_2 hE_0_1_3 hE_0_1_4 hK_0_1 f5 f6 f11 f12 f16 f17; omega) | skip); (first | have f5_d := f5 (by with_reducible assumption) | skip); (first | have f6_d := f6 (by with_reducible assumption) | skip); (first | have f11_d := f11 (by with_reducible assumption) | skip); (first | have f12_d := f12 (by with_reducible assumption) | skip); (first | have f16_d := f16 (by with_reducible assumption) | skip); (first | have f17_d := f17 (by with_reducible assumption) | skip); (try and_intros) <;> first | with_reducible assumption | (clear hE_0_1_1 hE_0_1_2 hE_0_1_3 hE_0_1_4 hK_0_1 f5 f6 f11 f12 f16 f17; omega)) | omega
set_option maxHeartbeats 4000000 in
theorem vc_Mo_next_13_1 (x1 : Int) (x3 : Int) (x4 : Int) (value_0 : Int) (from_0 : Int) (place_0 : Int) (pos_0 : Int) (tape_0 : Int → Int) (limit_0 : Int) (tape_1 : Int → Int) (limit_1 : Int) (pos_1 : Int) (tape_2 : Int → Int) (limit_2 : Int) (pos_2 : Int) (pos_3 : Int) (tape_3 : Int → Int) (limit_3 : Int) (pos_4 : Int) (tape_4 : Int → Int) (limit_4 : Int) (place_1 : Int) (from_1 : Int) (place_2 : Int) (value_1 : Int) (value_2 : Int) (from_2 : Int) (place_3 : Int) (value_3 : Int) (value_4 : Int) (from_3 : Int) (from_4 : Int) (k1 : 0 ≤ x1 ∧ x1 ≤ 2000) (k3 : 0 ≤ x3 ∧ x3 ≤ 1999) (k4 : 65 ≤ x4 ∧ x4 ≤ 90) (g0 : x4 = value_0) (g1 : x3 = from_0) (g2 : x3 = place_0) (g3 : x3 = pos_0) (f4 : 0 ≤ x4) (f5 : ((x3 + 1) ≤ limit_0) → (x4 = (tape_0 (x3) % 256))) (f6 : (limit_0 ≤ x3) → (x4 = (-1))) (f7 : 1 * x1 + ((-1) * pos_0 + 0) ≤ 0) (f8 : ZX1 (limit_0) (pos_0) (tape_0) (x1)) (f11 : ((x3 + 1) ≤ limit_1) → (x4 = (tape_1 (x3) % 256))) (f12 : (limit_1 ≤ x3) → (x4 = (-1))) (f13 : 1 * x1 + ((-1) * pos_1 + 0) ≤ 0) (f14 : ZX1 (limit_1) (pos_1) (tape_1) (x1)) (f16 : ((x3 + 1) ≤ limit_2) → (x4 = (tape_2 (x3) % 256))) (f17 : (limit_2 ≤ x3) → (x4 = (-1))) (f18 : 1 * x1 + ((-1) * pos_2 + 0) ≤ 0) (f19 : ZX1 (limit_2) (pos_2) (tape_2) (x1)) (f21 : 1 * x1 + ((-1) * pos_3 + 0) ≤ 0) (f22 : ZX1 (limit_3) (pos_3) (tape_3) (x1)) (f24 : 1 * x1 + ((-1) * pos_4 + 0) ≤ 0) (f25 : ZX1 (limit_4) (pos_4) (tape_4) (x1)) (fe_0_10_1 : limit_0 = limit_1) (fe_0_11_1 : pos_0 = pos_1) (fe_0_13_1 : place_0 = place_1) (fe_0_14_1 : value_0 = x4) (fe_0_15_1 : from_0 = from_1) (fe_0_10_2 : limit_1 = limit_2) (fe_0_11_2 : pos_1 = pos_2) (fe_0_13_2 : place_1 = place_2) (fe_0_14_2 : value_1 = value_2) (fe_0_15_2 : from_1 = from_2) (fe_0_10_3 : limit_2 = limit_3) (fe_0_11_3 : pos_2 = pos_3) (fe_0_13_3 : place_2 = place_3) (fe_0_14_3 : value_2 = value_3) (fe_0_15_3 : from_2 = x3) (fe_0_10_4 : limit_3 = limit_4) (fe_0_11_4 : pos_3 = pos_4) (fe_0_13_4 : place_3 = x3) (fe_0_14_4 : value_3 = value_4) (fe_0_15_4 : from_3 = from_4) (hE_0_1_1 : ∀ j : Int, tape_0 j = tape_1 j) (hE_0_1_2 : ∀ j : Int, tape_1 j = tape_2 j) (hE_0_1_3 : ∀ j : Int, tape_2 j = tape_3 j) (hE_0_1_4 : ∀ j : Int, tape_3 j = tape_4 j) (hK_0_1 : ∀ j : Int, 0 ≤ j → j < 2000 → (-128) ≤ tape_0 j ∧ tape_0 j ≤ 127) (kz_0_10 : 0 ≤ limit_0 ∧ limit_0 ≤ 2000) (kz_0_11 : 0 ≤ pos_0 ∧ pos_0 ≤ 2000) (kz_0_13 : 0 ≤ place_0 ∧ place_0 ≤ 2000) (kz_0_14 : (-49) ≤ value_0 ∧ value_0 ≤ 1048575) (kz_0_15 : 0 ≤ from_0 ∧ from_0 ≤ 2000) : (from_0 ≤ pos_0) ∧ (((from_0 + 1) ≤ pos_0) ∨ ((pos_0 = from_0) ∧ (((from_0 + 1) ≤ limit_0) ∧ (((65 ≤ (tape_0 (from_0) % 256)) ∧ ((tape_0 (from_0) % 256) ≤ 90)) ∨ ((97 ≤ (tape_0 (from_0) % 256)) ∧ ((tape_0 (from_0) % 256) ≤ 122)))))) := by
  have e : tape_0 from_0 = tape_0 x3 := by rw [g1]
  omega
set_option maxHeartbeats 4000000 in
theorem vc_Mo_next_13_2 (x1 : Int) (x3 : Int) (x4 : Int) (value_0 : Int) (from_0 : Int) (place_0 : Int) (pos_0 : Int) (tape_0 : Int → Int) (limit_0 : Int) (tape_1 : Int → Int) (limit_1 : Int) (pos_1 : Int) (tape_2 : Int → Int) (limit_2 : Int) (pos_2 : Int) (pos_3 : Int) (tape_3 : Int → Int) (limit_3 : Int) (pos_4 : Int) (tape_4 : Int → Int) (limit_4 : Int) (place_1 : Int) (from_1 : Int) (place_2 : Int) (value_1 : Int) (value_2 : Int) (from_2 : Int) (place_3 : Int) (value_3 : Int) (k1 : 0 ≤ x1 ∧ x1 ≤ 2000) (k3 : 0 ≤ x3 ∧ x3 ≤ 1999) (k4 : 65 ≤ x4 ∧ x4 ≤ 90) (g0 : x4 = value_0) (g1 : x3 = from_0) (g2 : x3 = place_0) (g3 : x3 = pos_0) (f11 : ((x3 + 1) ≤ limit_1) → (x4 = (tape_1 (x3) % 256))) (f16 : ((x3 + 1) ≤ limit_2) → (x4 = (tape_2 (x3) % 256))) (f17 : (limit_2 ≤ x3) → (x4 = (-1))) (f25 : ZX1 (limit_4) (pos_4) (tape_4) (x1)) (fe_0_10_1 : limit_0 = limit_1) (fe_0_11_1 : pos_0 = pos_1) (fe_0_13_1 : place_0 = place_1) (fe_0_15_1 : from_0 = from_1) (fe_0_10_2 : limit_1 = limit_2) (fe_0_11_2 : pos_1 = pos_2) (fe_0_13_2 : place_1 = place_2) (fe_0_14_2 : value_1 = value_2) (fe_0_15_2 : from_1 = from_2) (fe_0_10_3 : limit_2 = limit_3) (fe_0_11_3 : pos_2 = pos_3) (fe_0_13_3 : place_2 = place_3) (fe_0_14_3 : value_2 = value_3) (fe_0_10_4 : limit_3 = limit_4) (fe_0_11_4 : pos_3 = pos_4) (fe_0_13_4 : place_3 = x3) (hE_0_1_1 : ∀ j : Int, tape_0 j = tape_1 j) (hE_0_1_2 : ∀ j : Int, tape_1 j = tape_2 j) (hE_0_1_3 : ∀ j : Int, tape_2 j = tape_3 j) (hE_0_1_4 : ∀ j : Int, tape_3 j = tape_4 j) (hK_0_1 : ∀ j : Int, 0 ≤ j → j < 2000 → (-128) ≤ tape_0 j ∧ tape_0 j ≤ 127) (kz_0_10 : 0 ≤ limit_0 ∧ limit_0 ≤ 2000) (kz_0_11 : 0 ≤ pos_0 ∧ pos_0 ≤ 2000) (kz_0_13 : 0 ≤ place_0 ∧ place_0 ≤ 2000) (kz_0_14 : (-49) ≤ value_0 ∧ value_0 ≤ 1048575) (kz_0_15 : 0 ≤ from_0 ∧ from_0 ≤ 2000) : ZXL (limit_0) (pos_0) (place_0) (from_0) (tape_0) (x1) := by
  subst fe_0_10_1
  subst fe_0_11_1
  subst fe_0_13_1
  subst fe_0_15_1
  subst fe_0_10_2
  subst fe_0_11_2
  subst fe_0_13_2
  subst fe_0_14_2
  subst fe_0_15_2
  subst fe_0_10_3
  subst fe_0_11_3
  subst fe_0_13_3
  subst fe_0_14_3
  subst fe_0_10_4
  subst fe_0_11_4
  have e_hE_0_1_1 := funext hE_0_1_1; subst e_hE_0_1_1
  have e_hE_0_1_2 := funext hE_0_1_2; subst e_hE_0_1_2
  have e_hE_0_1_3 := funext hE_0_1_3; subst e_hE_0_1_3
  have e_hE_0_1_4 := funext hE_0_1_4; subst e_hE_0_1_4
  first | subst g0 | skip
  first | subst g1 | skip
  first | subst g2 | skip
  first | subst g3 | skip
  first
    | exact zxl_start (by assumption) ‹ZX1 _ _ _ _› (by omega) (by omega) (by omega) (by omega)
    | exact zxl_step ‹ZXN _ _ _ _ _ _› (by omega)
def o_Mo_next_13 : or_T := (93, 7, [(0, (2, 0, 0, [165])), (1, (0, 0, 2000, [])), (2, (2, 0, 0, [165])), (3, (0, 0, 1999, [])), (4, (0, 65, 90, []))], [(9, [4, 2], [14]), (9, [3, 2], [15]), (9, [3, 2], [13]), (9, [3, 2], [11]), (8, [4], [3]), (20, [3, 2, 4], [50, 1, 1, 1010, 1001, 4, 11, 0, 6, 4, 2, 1, 0, 0, 1, 2, 1, 10, 1, 2, 1, 2, 9, 5, 3, 1, 1, 1, 0, 0, 256]), (20, [2, 3, 4], [50, 1, 0, 10, 4, 7, 0, 3, 2, 0, 10, 1, 1, 1, 2, 1, 2, 0, -1]), (20, [1, 2], [30, 0, 1, 0, 0, -1, 1, 11]), (20, [2, 1], [60, 2, 1, 950, 10, 11, 1]), (24, [0, 2], []), (101, [2, 4], [14]), (20, [3, 2, 4], [50, 1, 1, 1010, 1001, 4, 11, 0, 6, 4, 2, 1, 0, 0, 1, 2, 1, 10, 1, 2, 1, 2, 9, 5, 3, 1, 1, 1, 0, 0, 256]), (20, [2, 3, 4], [50, 1, 0, 10, 4, 7, 0, 3, 2, 0, 10, 1, 1, 1, 2, 1, 2, 0, -1]), (20, [1, 2], [30, 0, 1, 0, 0, -1, 1, 11]), (20, [2, 1], [60, 2, 1, 950, 10, 11, 1]), (101, [2, 5], [12]), (20, [3, 2, 4], [50, 1, 1, 1010, 1001, 4, 11, 0, 6, 4, 2, 1, 0, 0, 1, 2, 1, 10, 1, 2, 1, 2, 9, 5, 3, 1, 1, 1, 0, 0, 256]), (20, [2, 3, 4], [50, 1, 0, 10, 4, 7, 0, 3, 2, 0, 10, 1, 1, 1, 2, 1, 2, 0, -1]), (20, [1, 2], [30, 0, 1, 0, 0, -1, 1, 11]), (20, [2, 1], [60, 2, 1, 950, 10, 11, 1]), (101, [2, 3], [15]), (20, [1, 2], [30, 0, 1, 0, 0, -1, 1, 11]), (20, [2, 1], [60, 2, 1, 950, 10, 11, 1]), (101, [2, 3], [13]), (20, [1, 2], [30, 0, 1, 0, 0, -1, 1, 11]), (20, [2, 1], [60, 2, 1, 950, 10, 11, 1])], [], [], [(20, [1, 2], [30, 0, 1, 0, 0, -1, 1, 15]), (20, [2], [50, 3, 1, 15, 11, 10, 1, 2, 8, 0, 3, 2, 0, 15, 2, 0, 11, 3, 12, 0, 7, 4, 3, 2, 0, 15, 0, 1, 2, 0, 11, 2, 8, 1, 3, 2, 0, 11, 2, 0, 15, 2, 12, 0, 7, 4, 3, 2, 0, 15, 0, 1, 2, 0, 10, 3, 30, 2, 14, 0, 2, 0, 65, 9, 6, 3, 0, 1, 2, 0, 15, 0, 256, 0, 10, 9, 6, 3, 0, 1, 2, 0, 15, 0, 256, 0, 90, 2, 14, 0, 2, 0, 97, 9, 6, 3, 0, 1, 2, 0, 15, 0, 256, 0, 10, 9, 6, 3, 0, 1, 2, 0, 15, 0, 256, 0, 122]), (20, [2, 1], [60, 4, 1, 951, 10, 11, 13, 15, 1])], [], [])
theorem oo_Mo_next_13 {kA : Nat → ClassId} : or_ok PRD kA GG o_Mo_next_13 := by
  refine or_mk fun A ta ws vs hD hth hl => ?_
  intro t0 r0 t1 k1 t2 r2 t3 k3 t4 k4 f0 f1 f2 f3 f4 f5 f6 f7 f8 f9 ta1 w1 le1 s1 f11 f12 f13 f14 ta2 w2 le2 s2 f16 f17 f18 f19 ta3 w3 le3 s3 f21 f22 ta4 w4 le4 s4 f24 f25
  replace f0 := shm_115 f0
  replace f1 := shm_177 f1
  replace f2 := shm_361 f2
  replace f3 := shm_116 f3
  replace f4 := shm_32 f4
  replace f5 := shm_541 f5
  replace f6 := shm_542 f6
  replace f7 := shm_1431 f7
  replace f8 := shm_1435 f8
  replace f9 := shm_5 f9
  have s1 : (∀ b j, w_el ws b j = w_el w1 b j) ∧ ∀ b j, w_fd ws b j = if b = v_ad (n_v vs 2) ∧ j = 14 then n_v vs 4 else w_fd w1 b j := s1.2
  replace f11 := shm_541 f11
  replace f12 := shm_542 f12
  replace f13 := shm_1431 f13
  replace f14 := shm_1435 f14
  have s2 : (∀ b j, w_el w1 b j = w_el w2 b j) ∧ ∀ b j, w_fd w1 b j = if b = v_ad (n_v vs 2) ∧ j = 12 then n_v vs 5 else w_fd w2 b j := s2.2
  replace f16 := shm_541 f16
  replace f17 := shm_542 f17
  replace f18 := shm_1431 f18
  replace f19 := shm_1435 f19
  have s3 : (∀ b j, w_el w2 b j = w_el w3 b j) ∧ ∀ b j, w_fd w2 b j = if b = v_ad (n_v vs 2) ∧ j = 15 then n_v vs 3 else w_fd w3 b j := s3.2
  replace f21 := shm_1431 f21
  replace f22 := shm_1435 f22
  have s4 : (∀ b j, w_el w3 b j = w_el w4 b j) ∧ ∀ b j, w_fd w3 b j = if b = v_ad (n_v vs 2) ∧ j = 13 then n_v vs 3 else w_fd w4 b j := s4.2
  replace f24 := shm_1431 f24
  replace f25 := shm_1435 f25
  have q2 : n_v vs 2 = n_v vs 0 := f9.symm
  simp only [q2] at f0 f1 f2 f3 f5 f6 f7 f8
  rw [q2] at s1
  simp only [q2] at f11 f12 f13 f14
  rw [q2] at s2
  simp only [q2] at f16 f17 f18 f19
  rw [q2] at s3
  simp only [q2] at f21 f22
  rw [q2] at s4
  simp only [q2] at f24 f25
  have ar_0_1_1 : w_ar w1 (n_v vs 0) 1 = w_ar ws (n_v vs 0) 1 := by show v_ad (w_fd w1 _ _) = v_ad (w_fd ws _ _); rw [s1.2, if_neg (fun e => absurd e.2 (by decide))]
  have ar_0_1_2 : w_ar w2 (n_v vs 0) 1 = w_ar ws (n_v vs 0) 1 := by rw [← ar_0_1_1]; show v_ad (w_fd w2 _ _) = v_ad (w_fd w1 _ _); rw [s2.2, if_neg (fun e => absurd e.2 (by decide))]
  have ar_0_1_3 : w_ar w3 (n_v vs 0) 1 = w_ar ws (n_v vs 0) 1 := by rw [← ar_0_1_2]; show v_ad (w_fd w3 _ _) = v_ad (w_fd w2 _ _); rw [s3.2, if_neg (fun e => absurd e.2 (by decide))]
  have ar_0_1_4 : w_ar w4 (n_v vs 0) 1 = w_ar ws (n_v vs 0) 1 := by rw [← ar_0_1_3]; show v_ad (w_fd w4 _ _) = v_ad (w_fd w3 _ _); rw [s4.2, if_neg (fun e => absurd e.2 (by decide))]
  have cr_0_1 := fdq_39 hD hth r0
  have g0 : v_iv (n_v vs 4) = w_fi ws (n_v vs 0) 14 := congrArg v_iv f0
  have g1 : v_iv (n_v vs 3) = w_fi ws (n_v vs 0) 15 := congrArg v_iv f1
  have g2 : v_iv (n_v vs 3) = w_fi ws (n_v vs 0) 13 := congrArg v_iv f2
  have g3 : v_iv (n_v vs 3) = w_fi ws (n_v vs 0) 11 := congrArg v_iv f3
  simp only [ar_0_1_1, ar_0_1_2, ar_0_1_3, ar_0_1_4] at f11 f14 f16 f19 f22 f25
  have fe_0_10_1 : w_fi ws (n_v vs 0) 10 = w_fi w1 (n_v vs 0) 10 := by show v_iv (w_fd _ _ _) = v_iv (w_fd _ _ _); rw [s1.2, if_neg (fun e => absurd e.2 (by decide))]
  have fe_0_11_1 : w_fi ws (n_v vs 0) 11 = w_fi w1 (n_v vs 0) 11 := by show v_iv (w_fd _ _ _) = v_iv (w_fd _ _ _); rw [s1.2, if_neg (fun e => absurd e.2 (by decide))]
  have fe_0_13_1 : w_fi ws (n_v vs 0) 13 = w_fi w1 (n_v vs 0) 13 := by show v_iv (w_fd _ _ _) = v_iv (w_fd _ _ _); rw [s1.2, if_neg (fun e => absurd e.2 (by decide))]
  have fe_0_14_1 : w_fi ws (n_v vs 0) 14 = v_iv (n_v vs 4) := by show v_iv (w_fd _ _ _) = _; rw [s1.2, if_pos ⟨rfl, rfl⟩]
  have fe_0_15_1 : w_fi ws (n_v vs 0) 15 = w_fi w1 (n_v vs 0) 15 := by show v_iv (w_fd _ _ _) = v_iv (w_fd _ _ _); rw [s1.2, if_neg (fun e => absurd e.2 (by decide))]
  have fe_0_10_2 : w_fi w1 (n_v vs 0) 10 = w_fi w2 (n_v vs 0) 10 := by show v_iv (w_fd _ _ _) = v_iv (w_fd _ _ _); rw [s2.2, if_neg (fun e => absurd e.2 (by decide))]
  have fe_0_11_2 : w_fi w1 (n_v vs 0) 11 = w_fi w2 (n_v vs 0) 11 := by show v_iv (w_fd _ _ _) = v_iv (w_fd _ _ _); rw [s2.2, if_neg (fun e => absurd e.2 (by decide))]
  have fe_0_13_2 : w_fi w1 (n_v vs 0) 13 = w_fi w2 (n_v vs 0) 13 := by show v_iv (w_fd _ _ _) = v_iv (w_fd _ _ _); rw [s2.2, if_neg (fun e => absurd e.2 (by decide))]
  have fe_0_14_2 : w_fi w1 (n_v vs 0) 14 = w_fi w2 (n_v vs 0) 14 := by show v_iv (w_fd _ _ _) = v_iv (w_fd _ _ _); rw [s2.2, if_neg (fun e => absurd e.2 (by decide))]
  have fe_0_15_2 : w_fi w1 (n_v vs 0) 15 = w_fi w2 (n_v vs 0) 15 := by show v_iv (w_fd _ _ _) = v_iv (w_fd _ _ _); rw [s2.2, if_neg (fun e => absurd e.2 (by decide))]
  have fe_0_10_3 : w_fi w2 (n_v vs 0) 10 = w_fi w3 (n_v vs 0) 10 := by show v_iv (w_fd _ _ _) = v_iv (w_fd _ _ _); rw [s3.2, if_neg (fun e => absurd e.2 (by decide))]
  have fe_0_11_3 : w_fi w2 (n_v vs 0) 11 = w_fi w3 (n_v vs 0) 11 := by show v_iv (w_fd _ _ _) = v_iv (w_fd _ _ _); rw [s3.2, if_neg (fun e => absurd e.2 (by decide))]
  have fe_0_13_3 : w_fi w2 (n_v vs 0) 13 = w_fi w3 (n_v vs 0) 13 := by show v_iv (w_fd _ _ _) = v_iv (w_fd _ _ _); rw [s3.2, if_neg (fun e => absurd e.2 (by decide))]
  have fe_0_14_3 : w_fi w2 (n_v vs 0) 14 = w_fi w3 (n_v vs 0) 14 := by show v_iv (w_fd _ _ _) = v_iv (w_fd _ _ _); rw [s3.2, if_neg (fun e => absurd e.2 (by decide))]
  have fe_0_15_3 : w_fi w2 (n_v vs 0) 15 = v_iv (n_v vs 3) := by show v_iv (w_fd _ _ _) = _; rw [s3.2, if_pos ⟨rfl, rfl⟩]
  have fe_0_10_4 : w_fi w3 (n_v vs 0) 10 = w_fi w4 (n_v vs 0) 10 := by show v_iv (w_fd _ _ _) = v_iv (w_fd _ _ _); rw [s4.2, if_neg (fun e => absurd e.2 (by decide))]
  have fe_0_11_4 : w_fi w3 (n_v vs 0) 11 = w_fi w4 (n_v vs 0) 11 := by show v_iv (w_fd _ _ _) = v_iv (w_fd _ _ _); rw [s4.2, if_neg (fun e => absurd e.2 (by decide))]
  have fe_0_13_4 : w_fi w3 (n_v vs 0) 13 = v_iv (n_v vs 3) := by show v_iv (w_fd _ _ _) = _; rw [s4.2, if_pos ⟨rfl, rfl⟩]
  have fe_0_14_4 : w_fi w3 (n_v vs 0) 14 = w_fi w4 (n_v vs 0) 14 := by show v_iv (w_fd _ _ _) = v_iv (w_fd _ _ _); rw [s4.2, if_neg (fun e => absurd e.2 (by decide))]
  have fe_0_15_4 : w_fi w3 (n_v vs 0) 15 = w_fi w4 (n_v vs 0) 15 := by show v_iv (w_fd _ _ _) = v_iv (w_fd _ _ _); rw [s4.2, if_neg (fun e => absurd e.2 (by decide))]
  have hE_0_1_1 : ∀ j : Int, w_ei ws (w_ar ws (n_v vs 0) 1) j = w_ei w1 (w_ar ws (n_v vs 0) 1) j := fun j => s1.1 _ _
  have hE_0_1_2 : ∀ j : Int, w_ei w1 (w_ar ws (n_v vs 0) 1) j = w_ei w2 (w_ar ws (n_v vs 0) 1) j := fun j => s2.1 _ _
  have hE_0_1_3 : ∀ j : Int, w_ei w2 (w_ar ws (n_v vs 0) 1) j = w_ei w3 (w_ar ws (n_v vs 0) 1) j := fun j => s3.1 _ _
  have hE_0_1_4 : ∀ j : Int, w_ei w3 (w_ar ws (n_v vs 0) 1) j = w_ei w4 (w_ar ws (n_v vs 0) 1) j := fun j => s4.1 _ _
  have hK_0_1 := elq_7 hD hth cr_0_1
  have kz_0_10 := fdq_43 hD hth r0
  have kz_0_11 := fdq_237 hD hth r0
  have kz_0_13 := fdq_238 hD hth r0
  have kz_0_14 := fdq_188 hD hth r0
  have kz_0_15 := fdq_239 hD hth r0
  have nf0 : fc_1 PRD (20, [1, 2], [30, 0, 1, 0, 0, -1, 1, 15]) ws (vs) := by
    refine ⟨nf_in hl rfl, sgq_1436 ?_⟩
    · show 1 * v_iv (n_v vs 1) + ((-1) * w_fi ws (n_v vs 2) 15 + 0) ≤ 0
      rw [q2]
      exact vc_Mo_next_13_0 (v_iv (n_v vs 1)) (v_iv (n_v vs 3)) (v_iv (n_v vs 4)) (w_fi ws (n_v vs 0) 15) (w_fi ws (n_v vs 0) 13) (w_fi ws (n_v vs 0) 11) (w_ei ws (w_ar ws (n_v vs 0) 1)) (w_fi ws (n_v vs 0) 10) (w_ei w1 (w_ar ws (n_v vs 0) 1)) (w_fi w1 (n_v vs 0) 10) (w_fi w1 (n_v vs 0) 11) (w_ei w2 (w_ar ws (n_v vs 0) 1)) (w_fi w2 (n_v vs 0) 10) (w_fi w2 (n_v vs 0) 11) (w_fi w3 (n_v vs 0) 11) (w_ei w3 (w_ar ws (n_v vs 0) 1)) (w_fi w3 (n_v vs 0) 10) (w_fi w4 (n_v vs 0) 11) (w_ei w4 (w_ar ws (n_v vs 0) 1)) (w_fi w4 (n_v vs 0) 10) (w_fi w1 (n_v vs 0) 13) (w_fi w1 (n_v vs 0) 15) (w_fi w2 (n_v vs 0) 13) (w_fi w1 (n_v vs 0) 14) (w_fi w2 (n_v vs 0) 14) (w_fi w2 (n_v vs 0) 15) (w_fi w3 (n_v vs 0) 13) (w_fi w3 (n_v vs 0) 14) k1 k3 k4 g1 g2 g3 f5 f6 f7 f11 f12 f16 f17 fe_0_10_1 fe_0_11_1 fe_0_13_1 fe_0_15_1 fe_0_10_2 fe_0_11_2 fe_0_13_2 fe_0_14_2 fe_0_15_2 fe_0_10_3 fe_0_11_3 fe_0_13_3 fe_0_14_3 fe_0_10_4 fe_0_11_4 hE_0_1_1 hE_0_1_2 hE_0_1_3 hE_0_1_4 hK_0_1 kz_0_10 kz_0_11 kz_0_13 kz_0_15
  have nf1 : fc_1 PRD (20, [2], [50, 3, 1, 15, 11, 10, 1, 2, 8, 0, 3, 2, 0, 15, 2, 0, 11, 3, 12, 0, 7, 4, 3, 2, 0, 15, 0, 1, 2, 0, 11, 2, 8, 1, 3, 2, 0, 11, 2, 0, 15, 2, 12, 0, 7, 4, 3, 2, 0, 15, 0, 1, 2, 0, 10, 3, 30, 2, 14, 0, 2, 0, 65, 9, 6, 3, 0, 1, 2, 0, 15, 0, 256, 0, 10, 9, 6, 3, 0, 1, 2, 0, 15, 0, 256, 0, 90, 2, 14, 0, 2, 0, 97, 9, 6, 3, 0, 1, 2, 0, 15, 0, 256, 0, 10, 9, 6, 3, 0, 1, 2, 0, 15, 0, 256, 0, 122]) ws (vs) := by
    refine ⟨nf_in hl rfl, sgq_1444 ?_⟩
    · show (w_fi ws (n_v vs 2) 15 ≤ w_fi ws (n_v vs 2) 11) ∧ (((w_fi ws (n_v vs 2) 15 + 1) ≤ w_fi ws (n_v vs 2) 11) ∨ ((w_fi ws (n_v vs 2) 11 = w_fi ws (n_v vs 2) 15) ∧ (((w_fi ws (n_v vs 2) 15 + 1) ≤ w_fi ws (n_v vs 2) 10) ∧ (((65 ≤ (w_ei ws (w_ar ws (n_v vs 2) 1) (w_fi ws (n_v vs 2) 15) % 256)) ∧ ((w_ei ws (w_ar ws (n_v vs 2) 1) (w_fi ws (n_v vs 2) 15) % 256) ≤ 90)) ∨ ((97 ≤ (w_ei ws (w_ar ws (n_v vs 2) 1) (w_fi ws (n_v vs 2) 15) % 256)) ∧ ((w_ei ws (w_ar ws (n_v vs 2) 1) (w_fi ws (n_v vs 2) 15) % 256) ≤ 122))))))
      rw [q2]
      exact vc_Mo_next_13_1 (v_iv (n_v vs 1)) (v_iv (n_v vs 3)) (v_iv (n_v vs 4)) (w_fi ws (n_v vs 0) 14) (w_fi ws (n_v vs 0) 15) (w_fi ws (n_v vs 0) 13) (w_fi ws (n_v vs 0) 11) (w_ei ws (w_ar ws (n_v vs 0) 1)) (w_fi ws (n_v vs 0) 10) (w_ei w1 (w_ar ws (n_v vs 0) 1)) (w_fi w1 (n_v vs 0) 10) (w_fi w1 (n_v vs 0) 11) (w_ei w2 (w_ar ws (n_v vs 0) 1)) (w_fi w2 (n_v vs 0) 10) (w_fi w2 (n_v vs 0) 11) (w_fi w3 (n_v vs 0) 11) (w_ei w3 (w_ar ws (n_v vs 0) 1)) (w_fi w3 (n_v vs 0) 10) (w_fi w4 (n_v vs 0) 11) (w_ei w4 (w_ar ws (n_v vs 0) 1)) (w_fi w4 (n_v vs 0) 10) (w_fi w1 (n_v vs 0) 13) (w_fi w1 (n_v vs 0) 15) (w_fi w2 (n_v vs 0) 13) (w_fi w1 (n_v vs 0) 14) (w_fi w2 (n_v vs 0) 14) (w_fi w2 (n_v vs 0) 15) (w_fi w3 (n_v vs 0) 13) (w_fi w3 (n_v vs 0) 14) (w_fi w4 (n_v vs 0) 14) (w_fi w3 (n_v vs 0) 15) (w_fi w4 (n_v vs 0) 15) k1 k3 k4 g0 g1 g2 g3 f4 f5 f6 f7 f8 f11 f12 f13 f14 f16 f17 f18 f19 f21 f22 f24 f25 fe_0_10_1 fe_0_11_1 fe_0_13_1 fe_0_14_1 fe_0_15_1 fe_0_10_2 fe_0_11_2 fe_0_13_2 fe_0_14_2 fe_0_15_2 fe_0_10_3 fe_0_11_3 fe_0_13_3 fe_0_14_3 fe_0_15_3 fe_0_10_4 fe_0_11_4 fe_0_13_4 fe_0_14_4 fe_0_15_4 hE_0_1_1 hE_0_1_2 hE_0_1_3 hE_0_1_4 hK_0_1 kz_0_10 kz_0_11 kz_0_13 kz_0_14 kz_0_15
  have nf2 : fc_1 PRD (20, [2, 1], [60, 4, 1, 951, 10, 11, 13, 15, 1]) ws (vs) := by
    refine ⟨nf_in hl rfl, sgq_1445 ?_⟩
    · show ZXL (w_fi ws (n_v vs 2) 10) (w_fi ws (n_v vs 2) 11) (w_fi ws (n_v vs 2) 13) (w_fi ws (n_v vs 2) 15) (w_ei ws (w_ar ws (n_v vs 2) 1)) (v_iv (n_v vs 1))
      rw [q2]
      exact vc_Mo_next_13_2 (v_iv (n_v vs 1)) (v_iv (n_v vs 3)) (v_iv (n_v vs 4)) (w_fi ws (n_v vs 0) 14) (w_fi ws (n_v vs 0) 15) (w_fi ws (n_v vs 0) 13) (w_fi ws (n_v vs 0) 11) (w_ei ws (w_ar ws (n_v vs 0) 1)) (w_fi ws (n_v vs 0) 10) (w_ei w1 (w_ar ws (n_v vs 0) 1)) (w_fi w1 (n_v vs 0) 10) (w_fi w1 (n_v vs 0) 11) (w_ei w2 (w_ar ws (n_v vs 0) 1)) (w_fi w2 (n_v vs 0) 10) (w_fi w2 (n_v vs 0) 11) (w_fi w3 (n_v vs 0) 11) (w_ei w3 (w_ar ws (n_v vs 0) 1)) (w_fi w3 (n_v vs 0) 10) (w_fi w4 (n_v vs 0) 11) (w_ei w4 (w_ar ws (n_v vs 0) 1)) (w_fi w4 (n_v vs 0) 10) (w_fi w1 (n_v vs 0) 13) (w_fi w1 (n_v vs 0) 15) (w_fi w2 (n_v vs 0) 13) (w_fi w1 (n_v vs 0) 14) (w_fi w2 (n_v vs 0) 14) (w_fi w2 (n_v vs 0) 15) (w_fi w3 (n_v vs 0) 13) (w_fi w3 (n_v vs 0) 14) k1 k3 k4 g0 g1 g2 g3 f11 f16 f17 f25 fe_0_10_1 fe_0_11_1 fe_0_13_1 fe_0_15_1 fe_0_10_2 fe_0_11_2 fe_0_13_2 fe_0_14_2 fe_0_15_2 fe_0_10_3 fe_0_11_3 fe_0_13_3 fe_0_14_3 fe_0_10_4 fe_0_11_4 fe_0_13_4 hE_0_1_1 hE_0_1_2 hE_0_1_3 hE_0_1_4 hK_0_1 kz_0_10 kz_0_11 kz_0_13 kz_0_14 kz_0_15
  refine ⟨(fun _ h => (by cases h)), [], trivial, ?_, (fun _ h => (by cases h))⟩
  rw [List.append_nil]
  exact List.forall_mem_cons.mpr ⟨⟨show (20 : Nat) < 100 from by decide, nf0⟩, List.forall_mem_cons.mpr ⟨⟨show (20 : Nat) < 100 from by decide, nf1⟩, List.forall_mem_cons.mpr ⟨⟨show (20 : Nat) < 100 from by decide, nf2⟩, (fun _ h => (by cases h))⟩⟩⟩
set_option maxHeartbeats 4000000 in
theorem vc_Mo_next_14_0 (x1 : Int) (x3 : Int) (x4 : Int) (from_0 : Int) (place_0 : Int) (pos_0 : Int) (tape_0 : Int → Int) (limit_0 : Int) (tape_1 : Int → Int) (limit_1 : Int) (pos_1 : Int) (tape_2 : Int → Int) (limit_2 : Int) (pos_2 : Int) (pos_3 : Int) (tape_3 : Int → Int) (limit_3 : Int) (pos_4 : Int) (tape_4 : Int → Int) (limit_4 : Int) (place_1 : Int) (from_1 : Int) (place_2 : Int) (value_1 : Int) (value_2 : Int) (from_2 : Int) (place_3 : Int) (value_3 : Int) (k1 : 0 ≤ x1 ∧ x1 ≤ 2000) (k3 : 0 ≤ x3 ∧ x3 ≤ 1999) (k4 : 123 ≤ x4 ∧ x4 ≤ 255) (g1 : x3 = from_0) (g2 : x3 = place_0) (g3 : x3 = pos_0) (f5 : ((x3 + 1) ≤ limit_0) → (x4 = (tape_0 (x3) % 256))) (f6 : (limit_0 ≤ x3) → (x4 = (-1))) (f7 : 1 * x1 + ((-1) * pos_0 + 0) ≤ 0) (f11 : ((x3 + 1) ≤ limit_1) → (x4 = (tape_1 (x3) % 256))) (f12 : (limit_1 ≤ x3) → (x4 = (-1))) (f16 : ((x3 + 1) ≤ limit_2) → (x4 = (tape_2 (x3) % 256))) (f17 : (limit_2 ≤ x3) → (x4 = (-1))) (fe_0_10_1 : limit_0 = limit_1) (fe_0_11_1 : pos_0 = pos_1) (fe_0_13_1 : place_0 = place_1) (fe_0_15_1 : from_0 = from_1) (fe_0_10_2 : limit_1 = limit_2) (fe_0_11_2 : pos_1 = pos_2) (fe_0_13_2 : place_1 = place_2) (fe_0_14_2 : value_1 = value_2) (fe_0_15_2 : from_1 = from_2) (fe_0_10_3 : limit_2 = limit_3) (fe_0_11_3 : pos_2 = pos_3) (fe_0_13_3 : place_2 = place_3) (fe_0_14_3 : value_2 = value_3) (fe_0_10_4 : limit_3 = limit_4) (fe_0_11_4 : pos_3 = pos_4) (hE_0_1_1 : ∀ j : Int, tape_0 j = tape_1 j) (hE_0_1_2 : ∀ j : Int, tape_1 j = tape_2 j) (hE_0_1_3 : ∀ j : Int, tape_2 j = tape_3 j) (hE_0_1_4 : ∀ j : Int, tape_3 j = tape_4 j) (hK_0_1 : ∀ j : Int, 0 ≤ j → j < 2000 → (-128) ≤ tape_0 j ∧ tape_0 j ≤ 127) (kz_0_10 : 0 ≤ limit_0 ∧ limit_0 ≤ 2000) (kz_0_11 : 0 ≤ pos_0 ∧ pos_0 ≤ 2000) (kz_0_13 : 0 ≤ place_0 ∧ place_0 ≤ 2000) (kz_0_15 : 0 ≤ from_0 ∧ from_0 ≤ 2000) : 1 * x1 + ((-1) * from_0 + 0) ≤ 0 := by
  subst fe_0_10_1
  subst fe_0_11_1
  subst fe_0_13_1
  subst fe_0_15_1
  subst fe_0_10_2
  subst fe_0_11_2
  subst fe_0_13_2
  subst fe_0_14_2
  subst fe_0_15_2
  subst fe_0_10_3
  subst fe_0_11_3
  subst fe_0_13_3
  subst fe_0_14_3
  subst fe_0_10_4
  subst fe_0_11_4
  have e_hE_0_1_1 := funext hE_0_1_1; subst e_hE_0_1_1
  have e_hE_0_1_2 := funext hE_0_1_2; subst e_hE_0_1_2
  have e_hE_0_1_3 := funext hE_0_1_3; subst e_hE_0_1_3
  have e_hE_0_1_4 := funext hE_0_1_4; subst e_hE_0_1_4
  first | with_reducible assumption | ((try and_intros) <;> first | with_reducible assumption | (clear hE_0_1_1 hE_0_1_2 hE_0_1_3 hE_0_1_4 hK_0_1 f5 f6 f11 f12 f16 f17; omega)) | ((first | have f5_b := f5 (by clear hE_0_1_1 hE_0_1_2 hE_0_1_3 hE_0_1_4 hK_0_1 f5 f6 f11 f12 f16 f17; omega) | skip); (first | have f6_b := f6 (by clear hE_0_1_1 hE_0_1_2 hE_0_1_3 hE_0_1_4 hK_0_1 f5 f6 f11 f12 f16 f17; omega) | skip); (first | have f11_b := f11 (by clear hE_0_1_1 hE_0_1_2 hE_0_1_3 hE_0_1_4 hK_0_1 f5 f6 f11 f12 f16 f17; omega) | skip); (first | have f12_b := f12 (by clear hE_0_1_1 hE_0_1_2 hE_0_1_3 hE_0_1_4 hK_0_1 f5 f6 f11 f12 f16 f17; omega) | skip); (first | have f16_b := f16 (by clear hE_0_1_1 hE_0_1_2 hE_0_1_3 hE_0_1_4 hK_0_1 f5 f6 f11 f12 f16 f17; omega) | skip); (first | have f17_b := f17 (by clear hE_0_1_1 hE_0_1_2 hE_0_1_3 hE_0_1_4 hK_0_1 f5 f6 f11 f12 f16 f17; omega) | skip); (first | have f5_d := f5 (by with_reducible assumption) | skip); (first | have f6_d := f6 (by with_reducible assumption) | skip); (first | have f11_d := f11 (by with_reducible assumption) | skip); (first | have f12_d := f12 (by with_reducible assumption) | skip); (first | have f16_d := f16 (by with_reducible assumption) | skip); (first | have f17_d := f17 (by with_reducible assumption) | skip); (try and_intros) <;> first | with_reducible assumption | (clear hE_0_1_1 hE_0_1_2 hE_0_1_3 hE_0_1_4 hK_0_1 f5 f6 f11 f12 f16 f17; omega)) | omega
set_option maxHeartbeats 4000000 in
theorem vc_Mo_next_14_1 (x3 : Int) (x4 : Int) (from_0 : Int) (place_0 : Int) (pos_0 : Int) (tape_0 : Int → Int) (limit_0 : Int) (tape_1 : Int → Int) (limit_1 : Int) (pos_1 : Int) (tape_2 : Int → Int) (limit_2 : Int) (pos_2 : Int) (pos_3 : Int) (tape_3 : Int → Int) (limit_3 : Int) (pos_4 : Int) (tape_4 : Int → Int) (limit_4 : Int) (place_1 : Int) (from_1 : Int) (place_2 : Int) (value_1 : Int) (value_2 : Int) (from_2 : Int) (place_3 : Int) (value_3 : Int) (k3 : 0 ≤ x3 ∧ x3 ≤ 1999) (k4 : 123 ≤ x4 ∧ x4 ≤ 255) (g1 : x3 = from_0) (g2 : x3 = place_0) (g3 : x3 = pos_0) (f5 : ((x3 + 1) ≤ limit_0) → (x4 = (tape_0 (x3) % 256))) (f6 : (limit_0 ≤ x3) → (x4 = (-1))) (f11 : ((x3 + 1) ≤ limit_1) → (x4 = (tape_1 (x3) % 256))) (f12 : (limit_1 ≤ x3) → (x4 = (-1))) (f16 : ((x3 + 1) ≤ limit_2) → (x4 = (tape_2 (x3) % 256))) (f17 : (limit_2 ≤ x3) → (x4 = (-1))) (fe_0_10_1 : limit_0 = limit_1) (fe_0_11_1 : pos_0 = pos_1) (fe_0_13_1 : place_0 = place_1) (fe_0_15_1 : from_0 = from_1) (fe_0_10_2 : limit_1 = limit_2) (fe_0_11_2 : pos_1 = pos_2) (fe_0_13_2 : place_1 = place_2) (fe_0_14_2 : value_1 = value_2) (fe_0_15_2 : from_1 = from_2) (fe_0_10_3 : limit_2 = limit_3) (fe_0_11_3 : pos_2 = pos_3) (fe_0_13_3 : place_2 = place_3) (fe_0_14_3 : value_2 = value_3) (fe_0_10_4 : limit_3 = limit_4) (fe_0_11_4 : pos_3 = pos_4) (hE_0_1_1 : ∀ j : Int, tape_0 j = tape_1 j) (hE_0_1_2 : ∀ j : Int, tape_1 j = tape_2 j) (hE_0_1_3 : ∀ j : Int, tape_2 j = tape_3 j) (hE_0_1_4 : ∀ j : Int, tape_3 j = tape_4 j) (hK_0_1 : ∀ j : Int, 0 ≤ j → j < 2000 → (-128) ≤ tape_0 j ∧ tape_0 j ≤ 127) (kz_0_10 : 0 ≤ limit_0 ∧ limit_0 ≤ 2000) (kz_0_11 : 0 ≤ pos_0 ∧ pos_0 ≤ 2000) (kz_0_13 : 0 ≤ place_0 ∧ place_0 ≤ 2000) (kz_0_15 : 0 ≤ from_0 ∧ from_0 ≤ 2000) : pos_0 = from_0 := by
  subst fe_0_10_1
  subst fe_0_11_1
  subst fe_0_13_1
  subst fe_0_15_1
  subst fe_0_10_2
  subst fe_0_11_2
  subst fe_0_13_2
  subst fe_0_14_2
  subst fe_0_15_2
  subst fe_0_10_3
  subst fe_0_11_3
  subst fe_0_13_3
  subst fe_0_14_3
  subst fe_0_10_4
  subst fe_0_11_4
  have e_hE_0_1_1 := funext hE_0_1_1; subst e_hE_0_1_1
  have e_hE_0_1_2 := funext hE_0_1_2; subst e_hE_0_1_2
  have e_hE_0_1_3 := funext hE_0_1_3; subst e_hE_0_1_3
  have e_hE_0_1_4 := funext hE_0_1_4; subst e_hE_0_1_4
  first | with_reducible assumption | ((try and_intros) <;> first | with_reducible assumption | (clear hE_0_1_1 hE_0_1_2 hE_0_1_3 hE_0_1_4 hK_0_1 f5 f6 f11 f12 f16 f17; omega)) | ((first | have f5_b := f5 (by clear hE_0_1_1 hE_0_1_2 hE_0_1_3 hE_0_1_4 hK_0_1 f5 f6 f11 f12 f16 f17; omega) | skip); (first | have f6_b := f6 (by clear hE_0_1_1 hE_0_1_2 hE_0_1_3 hE_0_1_4 hK_0_1 f5 f6 f11 f12 f16 f17; omega) | skip); (first | have f11_b := f11 (by clear hE_0_1_1 hE_0_1_2 hE_0_1_3 hE_0_1_4 hK_0_1 f5 f6 f11 f12 f16 f17; omega) | skip); (first | have f12_b := f12 (by clear hE_0_1_1 hE_0_1_2 hE_0_1_3 hE_0_1_4 hK_0_1 f5 f6 f11 f12 f16 f17; omega) | skip); (first | have f16_b := f16 (by clear hE_0_1_1 hE_0_1_2 hE_0_1_3 hE_0_1_4 hK_0_1 f5 f6 f11 f12 f16 f17; omega) | skip); (first | have f17_b := f17 (by clear hE_0_1_1 hE_0_1_2 hE_0_1_3 hE_0_1_4 hK_0_1 f5 f6 f11 f12 f16 f17; omega) | skip); (first | have f5_d := f5 (by with_reducible assumption) | skip); (first | have f6_d := f6 (by with_reducible assumption) | skip); (first | have f11_d := f11 (by with_reducible assumption) | skip); (first | have f12_d := f12 (by with_reducible assumption) | skip); (first | have f16_d := f16 (by with_reducible assumption) | skip); (first | have f17_d := f17 (by with_reducible assumption) | skip); (try and_intros) <;> first | with_reducible assumption | (clear hE_0_1_1 hE_0_1_2 hE_0_1_3 hE_0_1_4 hK_0_1 f5 f6 f11 f12 f16 f17; omega)) | omega
set_option maxHeartbeats 4000000 in
theorem vc_Mo_next_14_2 (x1 : Int) (x3 : Int) (x4 : Int) (value_0 : Int) (from_0 : Int) (place_0 : Int) (pos_0 : Int) (tape_0 : Int → Int) (limit_0 : Int) (tape_1 : Int → Int) (limit_1 : Int) (pos_1 : Int) (tape_2 : Int → Int) (limit_2 : Int) (pos_2 : Int) (pos_3 : Int) (tape_3 : Int → Int) (limit_3 : Int) (pos_4 : Int) (tape_4 : Int → Int) (limit_4 : Int) (place_1 : Int) (from_1 : Int) (place_2 : Int) (value_1 : Int) (value_2 : Int) (from_2 : Int) (place_3 : Int) (value_3 : Int) (k1 : 0 ≤ x1 ∧ x1 ≤ 2000) (k3 : 0 ≤ x3 ∧ x3 ≤ 1999) (k4 : 123 ≤ x4 ∧ x4 ≤ 255) (g0 : x4 = value_0) (g1 : x3 = from_0) (g2 : x3 = place_0) (g3 : x3 = pos_0) (f11 : ((x3 + 1) ≤ limit_1) → (x4 = (tape_1 (x3) % 256))) (f16 : ((x3 + 1) ≤ limit_2) → (x4 = (tape_2 (x3) % 256))) (f17 : (limit_2 ≤ x3) → (x4 = (-1))) (f25 : ZX1 (limit_4) (pos_4) (tape_4) (x1)) (fe_0_10_1 : limit_0 = limit_1) (fe_0_11_1 : pos_0 = pos_1) (fe_0_13_1 : place_0 = place_1) (fe_0_15_1 : from_0 = from_1) (fe_0_10_2 : limit_1 = limit_2) (fe_0_11_2 : pos_1 = pos_2) (fe_0_13_2 : place_1 = place_2) (fe_0_14_2 : value_1 = value_2) (fe_0_15_2 : from_1 = from_2) (fe_0_10_3 : limit_2 = limit_3) (fe_0_11_3 : pos_2 = pos_3) (fe_0_13_3 : place_2 = place_3) (fe_0_14_3 : value_2 = value_3) (fe_0_10_4 : limit_3 = limit_4) (fe_0_11_4 : pos_3 = pos_4) (fe_0_13_4 : place_3 = x3) (hE_0_1_1 : ∀ j : Int, tape_0 j = tape_1 j) (hE_0_1_2 : ∀ j : Int, tape_1 j = tape_2 j) (hE_0_1_3 : ∀ j : Int, tape_2 j = tape_3 j) (hE_0_1_4 : ∀ j : Int, tape_3 j = tape_4 j) (kz_0_10 : 0 ≤ limit_0 ∧ limit_0 ≤ 2000) (kz_0_11 : 0 ≤ pos_0 ∧ pos_0 ≤ 2000) (kz_0_13 : 0 ≤ place_0 ∧ place_0 ≤ 2000) (kz_0_14 : (-49) ≤ value_0 ∧ value_0 ≤ 1048575) (kz_0_15 : 0 ≤ from_0 ∧ from_0 ≤ 2000) : ZXS (limit_0) (pos_0) (place_0) (from_0) (tape_0) (x1) (x4) := by
  subst fe_0_10_1
  subst fe_0_11_1
  subst fe_0_13_1
  subst fe_0_15_1
  subst fe_0_10_2
  subst fe_0_11_2
  subst fe_0_13_2
  subst fe_0_14_2
  subst fe_0_15_2
  subst fe_0_10_3
  subst fe_0_11_3
  subst fe_0_13_3
  subst fe_0_14_3
  subst fe_0_10_4
  subst fe_0_11_4
  have e_hE_0_1_1 := funext hE_0_1_1; subst e_hE_0_1_1
  have e_hE_0_1_2 := funext hE_0_1_2; subst e_hE_0_1_2
  have e_hE_0_1_3 := funext hE_0_1_3; subst e_hE_0_1_3
  have e_hE_0_1_4 := funext hE_0_1_4; subst e_hE_0_1_4
  first | subst g0 | skip
  first | subst g1 | skip
  first | subst g2 | skip
  first | subst g3 | skip
  exact zxs_mk ‹ZX1 _ _ _ _› (by omega) (by omega) (by omega) (by omega) (by omega) (by omega)
def o_Mo_next_14 : or_T := (277, 8, [(0, (2, 0, 0, [165])), (1, (0, 0, 2000, [])), (2, (2, 0, 0, [165])), (3, (0, 0, 1999, [])), (4, (0, 123, 255, []))], [(9, [4, 2], [14]), (9, [3, 2], [15]), (9, [3, 2], [13]), (9, [3, 2], [11]), (8, [4], [3]), (20, [3, 2, 4], [50, 1, 1, 1010, 1001, 4, 11, 0, 6, 4, 2, 1, 0, 0, 1, 2, 1, 10, 1, 2, 1, 2, 9, 5, 3, 1, 1, 1, 0, 0, 256]), (20, [2, 3, 4], [50, 1, 0, 10, 4, 7, 0, 3, 2, 0, 10, 1, 1, 1, 2, 1, 2, 0, -1]), (20, [1, 2], [30, 0, 1, 0, 0, -1, 1, 11]), (20, [2, 1], [60, 2, 1, 950, 10, 11, 1]), (24, [0, 2], []), (101, [2, 4], [14]), (20, [3, 2, 4], [50, 1, 1, 1010, 1001, 4, 11, 0, 6, 4, 2, 1, 0, 0, 1, 2, 1, 10, 1, 2, 1, 2, 9, 5, 3, 1, 1, 1, 0, 0, 256]), (20, [2, 3, 4], [50, 1, 0, 10, 4, 7, 0, 3, 2, 0, 10, 1, 1, 1, 2, 1, 2, 0, -1]), (20, [1, 2], [30, 0, 1, 0, 0, -1, 1, 11]), (20, [2, 1], [60, 2, 1, 950, 10, 11, 1]), (101, [2, 5], [12]), (20, [3, 2, 4], [50, 1, 1, 1010, 1001, 4, 11, 0, 6, 4, 2, 1, 0, 0, 1, 2, 1, 10, 1, 2, 1, 2, 9, 5, 3, 1, 1, 1, 0, 0, 256]), (20, [2, 3, 4], [50, 1, 0, 10, 4, 7, 0, 3, 2, 0, 10, 1, 1, 1, 2, 1, 2, 0, -1]), (20, [1, 2], [30, 0, 1, 0, 0, -1, 1, 11]), (20, [2, 1], [60, 2, 1, 950, 10, 11, 1]), (101, [2, 3], [15]), (20, [1, 2], [30, 0, 1, 0, 0, -1, 1, 11]), (20, [2, 1], [60, 2, 1, 950, 10, 11, 1]), (101, [2, 3], [13]), (20, [1, 2], [30, 0, 1, 0, 0, -1, 1, 11]), (20, [2, 1], [60, 2, 1, 950, 10, 11, 1])], [], [], [(20, [1, 2], [30, 0, 1, 0, 0, -1, 1, 15]), (20, [2], [50, 2, 0, 11, 15, 1, 3, 2, 0, 11, 2, 0, 15]), (20, [2, 1, 4], [60, 4, 1, 956, 10, 11, 13, 15, 1])], [], [])
theorem oo_Mo_next_14 {kA : Nat → ClassId} : or_ok PRD kA GG o_Mo_next_14 := by
  refine or_mk fun A ta ws vs hD hth hl => ?_
  intro t0 r0 t1 k1 t2 r2 t3 k3 t4 k4 f0 f1 f2 f3 f4 f5 f6 f7 f8 f9 ta1 w1 le1 s1 f11 f12 f13 f14 ta2 w2 le2 s2 f16 f17 f18 f19 ta3 w3 le3 s3 f21 f22 ta4 w4 le4 s4 f24 f25
  replace f0 := shm_115 f0
  replace f1 := shm_177 f1
  replace f2 := shm_361 f2
  replace f3 := shm_116 f3
  replace f5 := shm_541 f5
  replace f6 := shm_542 f6
  replace f7 := shm_1431 f7
  replace f9 := shm_5 f9
  have s1 : (∀ b j, w_el ws b j = w_el w1 b j) ∧ ∀ b j, w_fd ws b j = if b = v_ad (n_v vs 2) ∧ j = 14 then n_v vs 4 else w_fd w1 b j := s1.2
  replace f11 := shm_541 f11
  replace f12 := shm_542 f12
  have s2 : (∀ b j, w_el w1 b j = w_el w2 b j) ∧ ∀ b j, w_fd w1 b j = if b = v_ad (n_v vs 2) ∧ j = 12 then n_v vs 5 else w_fd w2 b j := s2.2
  replace f16 := shm_541 f16
  replace f17 := shm_542 f17
  have s3 : (∀ b j, w_el w2 b j = w_el w3 b j) ∧ ∀ b j, w_fd w2 b j = if b = v_ad (n_v vs 2) ∧ j = 15 then n_v vs 3 else w_fd w3 b j := s3.2
  have s4 : (∀ b j, w_el w3 b j = w_el w4 b j) ∧ ∀ b j, w_fd w3 b j = if b = v_ad (n_v vs 2) ∧ j = 13 then n_v vs 3 else w_fd w4 b j := s4.2
  replace f25 := shm_1435 f25
  have q2 : n_v vs 2 = n_v vs 0 := f9.symm
  simp only [q2] at f0 f1 f2 f3 f5 f6 f7
  rw [q2] at s1
  simp only [q2] at f11 f12
  rw [q2] at s2
  simp only [q2] at f16 f17
  rw [q2] at s3
  rw [q2] at s4
  simp only [q2] at f25
  have ar_0_1_1 : w_ar w1 (n_v vs 0) 1 = w_ar ws (n_v vs 0) 1 := by show v_ad (w_fd w1 _ _) = v_ad (w_fd ws _ _); rw [s1.2, if_neg (fun e => absurd e.2 (by decide))]
  have ar_0_1_2 : w_ar w2 (n_v vs 0) 1 = w_ar ws (n_v vs 0) 1 := by rw [← ar_0_1_1]; show v_ad (w_fd w2 _ _) = v_ad (w_fd w1 _ _); rw [s2.2, if_neg (fun e => absurd e.2 (by decide))]
  have ar_0_1_3 : w_ar w3 (n_v vs 0) 1 = w_ar ws (n_v vs 0) 1 := by rw [← ar_0_1_2]; show v_ad (w_fd w3 _ _) = v_ad (w_fd w2 _ _); rw [s3.2, if_neg (fun e => absurd e.2 (by decide))]
  have ar_0_1_4 : w_ar w4 (n_v vs 0) 1 = w_ar ws (n_v vs 0) 1 := by rw [← ar_0_1_3]; show v_ad (w_fd w4 _ _) = v_ad (w_fd w3 _ _); rw [s4.2, if_neg (fun e => absurd e.2 (by decide))]
  have cr_0_1 := fdq_39 hD hth r0
  have g0 : v_iv (n_v vs 4) = w_fi ws (n_v vs 0) 14 := congrArg v_iv f0
  have g1 : v_iv (n_v vs 3) = w_fi ws (n_v vs 0) 15 := congrArg v_iv f1
  have g2 : v_iv (n_v vs 3) = w_fi ws (n_v vs 0) 13 := congrArg v_iv f2
  have g3 : v_iv (n_v vs 3) = w_fi ws (n_v vs 0) 11 := congrArg v_iv f3
  simp only [ar_0_1_1, ar_0_1_2, ar_0_1_3, ar_0_1_4] at f11 f16 f25
  have fe_0_10_1 : w_fi ws (n_v vs 0) 10 = w_fi w1 (n_v vs 0) 10 := by show v_iv (w_fd _ _ _) = v_iv (w_fd _ _ _); rw [s1.2, if_neg (fun e => absurd e.2 (by decide))]
  have fe_0_11_1 : w_fi ws (n_v vs 0) 11 = w_fi w1 (n_v vs 0) 11 := by show v_iv (w_fd _ _ _) = v_iv (w_fd _ _ _); rw [s1.2, if_neg (fun e => absurd e.2 (by decide))]
  have fe_0_13_1 : w_fi ws (n_v vs 0) 13 = w_fi w1 (n_v vs 0) 13 := by show v_iv (w_fd _ _ _) = v_iv (w_fd _ _ _); rw [s1.2, if_neg (fun e => absurd e.2 (by decide))]
  have fe_0_15_1 : w_fi ws (n_v vs 0) 15 = w_fi w1 (n_v vs 0) 15 := by show v_iv (w_fd _ _ _) = v_iv (w_fd _ _ _); rw [s1.2, if_neg (fun e => absurd e.2 (by decide))]
  have fe_0_10_2 : w_fi w1 (n_v vs 0) 10 = w_fi w2 (n_v vs 0) 10 := by show v_iv (w_fd _ _ _) = v_iv (w_fd _ _ _); rw [s2.2, if_neg (fun e => absurd e.2 (by decide))]
  have fe_0_11_2 : w_fi w1 (n_v vs 0) 11 = w_fi w2 (n_v vs 0) 11 := by show v_iv (w_fd _ _ _) = v_iv (w_fd _ _ _); rw [s2.2, if_neg (fun e => absurd e.2 (by decide))]
  have fe_0_13_2 : w_fi w1 (n_v vs 0) 13 = w_fi w2 (n_v vs 0) 13 := by show v_iv (w_fd _ _ _) = v_iv (w_fd _ _ _); rw [s2.2, if_neg (fun e => absurd e.2 (by decide))]
  have fe_0_14_2 : w_fi w1 (n_v vs 0) 14 = w_fi w2 (n_v vs 0) 14 := by show v_iv (w_fd _ _ _) = v_iv (w_fd _ _ _); rw [s2.2, if_neg (fun e => absurd e.2 (by decide))]
  have fe_0_15_2 : w_fi w1 (n_v vs 0) 15 = w_fi w2 (n_v vs 0) 15 := by show v_iv (w_fd _ _ _) = v_iv (w_fd _ _ _); rw [s2.2, if_neg (fun e => absurd e.2 (by decide))]
  have fe_0_10_3 : w_fi w2 (n_v vs 0) 10 = w_fi w3 (n_v vs 0) 10 := by show v_iv (w_fd _ _ _) = v_iv (w_fd _ _ _); rw [s3.2, if_neg (fun e => absurd e.2 (by decide))]
  have fe_0_11_3 : w_fi w2 (n_v vs 0) 11 = w_fi w3 (n_v vs 0) 11 := by show v_iv (w_fd _ _ _) = v_iv (w_fd _ _ _); rw [s3.2, if_neg (fun e => absurd e.2 (by decide))]
  have fe_0_13_3 : w_fi w2 (n_v vs 0) 13 = w_fi w3 (n_v vs 0) 13 := by show v_iv (w_fd _ _ _) = v_iv (w_fd _ _ _); rw [s3.2, if_neg (fun e => absurd e.2 (by decide))]
  have fe_0_14_3 : w_fi w2 (n_v vs 0) 14 = w_fi w3 (n_v vs 0) 14 := by show v_iv (w_fd _ _ _) = v_iv (w_fd _ _ _); rw [s3.2, if_neg (fun e => absurd e.2 (by decide))]
  have fe_0_10_4 : w_fi w3 (n_v vs 0) 10 = w_fi w4 (n_v vs 0) 10 := by show v_iv (w_fd _ _ _) = v_iv (w_fd _ _ _); rw [s4.2, if_neg (fun e => absurd e.2 (by decide))]
  have fe_0_11_4 : w_fi w3 (n_v vs 0) 11 = w_fi w4 (n_v vs 0) 11 := by show v_iv (w_fd _ _ _) = v_iv (w_fd _ _ _); rw [s4.2, if_neg (fun e => absurd e.2 (by decide))]
  have fe_0_13_4 : w_fi w3 (n_v vs 0) 13 = v_iv (n_v vs 3) := by show v_iv (w_fd _ _ _) = _; rw [s4.2, if_pos ⟨rfl, rfl⟩]
  have hE_0_1_1 : ∀ j : Int, w_ei ws (w_ar ws (n_v vs 0) 1) j = w_ei w1 (w_ar ws (n_v vs 0) 1) j := fun j => s1.1 _ _
  have hE_0_1_2 : ∀ j : Int, w_ei w1 (w_ar ws (n_v vs 0) 1) j = w_ei w2 (w_ar ws (n_v vs 0) 1) j := fun j => s2.1 _ _
  have hE_0_1_3 : ∀ j : Int, w_ei w2 (w_ar ws (n_v vs 0) 1) j = w_ei w3 (w_ar ws (n_v vs 0) 1) j := fun j => s3.1 _ _
  have hE_0_1_4 : ∀ j : Int, w_ei w3 (w_ar ws (n_v vs 0) 1) j = w_ei w4 (w_ar ws (n_v vs 0) 1) j := fun j => s4.1 _ _
  have hK_0_1 := elq_7 hD hth cr_0_1
  have kz_0_10 := fdq_43 hD hth r0
  have kz_0_11 := fdq_237 hD hth r0
  have kz_0_13 := fdq_238 hD hth r0
  have kz_0_14 := fdq_188 hD hth r0
  have kz_0_15 := fdq_239 hD hth r0
  have nf0 : fc_1 PRD (20, [1, 2], [30, 0, 1, 0, 0, -1, 1, 15]) ws (vs) := by
    refine ⟨nf_in hl rfl, sgq_1436 ?_⟩
    · show 1 * v_iv (n_v vs 1) + ((-1) * w_fi ws (n_v vs 2) 15 + 0) ≤ 0
      rw [q2]
      exact vc_Mo_next_14_0 (v_iv (n_v vs 1)) (v_iv (n_v vs 3)) (v_iv (n_v vs 4)) (w_fi ws (n_v vs 0) 15) (w_fi ws (n_v vs 0) 13) (w_fi ws (n_v vs 0) 11) (w_ei ws (w_ar ws (n_v vs 0) 1)) (w_fi ws (n_v vs 0) 10) (w_ei w1 (w_ar ws (n_v vs 0) 1)) (w_fi w1 (n_v vs 0) 10) (w_fi w1 (n_v vs 0) 11) (w_ei w2 (w_ar ws (n_v vs 0) 1)) (w_fi w2 (n_v vs 0) 10) (w_fi w2 (n_v vs 0) 11) (w_fi w3 (n_v vs 0) 11) (w_ei w3 (w_ar ws (n_v vs 0) 1)) (w_fi w3 (n_v vs 0) 10) (w_fi w4 (n_v vs 0) 11) (w_ei w4 (w_ar ws (n_v vs 0) 1)) (w_fi w4 (n_v vs 0) 10) (w_fi w1 (n_v vs 0) 13) (w_fi w1 (n_v vs 0) 15) (w_fi w2 (n_v vs 0) 13) (w_fi w1 (n_v vs 0) 14) (w_fi w2 (n_v vs 0) 14) (w_fi w2 (n_v vs 0) 15) (w_fi w3 (n_v vs 0) 13) (w_fi w3 (n_v vs 0) 14) k1 k3 k4 g1 g2 g3 f5 f6 f7 f11 f12 f16 f17 fe_0_10_1 fe_0_11_1 fe_0_13_1 fe_0_15_1 fe_0_10_2 fe_0_11_2 fe_0_13_2 fe_0_14_2 fe_0_15_2 fe_0_10_3 fe_0_11_3 fe_0_13_3 fe_0_14_3 fe_0_10_4 fe_0_11_4 hE_0_1_1 hE_0_1_2 hE_0_1_3 hE_0_1_4 hK_0_1 kz_0_10 kz_0_11 kz_0_13 kz_0_15
  have nf1 : fc_1 PRD (20, [2], [50, 2, 0, 11, 15, 1, 3, 2, 0, 11, 2, 0, 15]) ws (vs) := by
    refine ⟨nf_in hl rfl, sgq_1440 ?_⟩
    · show w_fi ws (n_v vs 2) 11 = w_fi ws (n_v vs 2) 15
      rw [q2]
      exact vc_Mo_next_14_1 (v_iv (n_v vs 3)) (v_iv (n_v vs 4)) (w_fi ws (n_v vs 0) 15) (w_fi ws (n_v vs 0) 13) (w_fi ws (n_v vs 0) 11) (w_ei ws (w_ar ws (n_v vs 0) 1)) (w_fi ws (n_v vs 0) 10) (w_ei w1 (w_ar ws (n_v vs 0) 1)) (w_fi w1 (n_v vs 0) 10) (w_fi w1 (n_v vs 0) 11) (w_ei w2 (w_ar ws (n_v vs 0) 1)) (w_fi w2 (n_v vs 0) 10) (w_fi w2 (n_v vs 0) 11) (w_fi w3 (n_v vs 0) 11) (w_ei w3 (w_ar ws (n_v vs 0) 1)) (w_fi w3 (n_v vs 0) 10) (w_fi w4 (n_v vs 0) 11) (w_ei w4 (w_ar ws (n_v vs 0) 1)) (w_fi w4 (n_v vs 0) 10) (w_fi w1 (n_v vs 0) 13) (w_fi w1 (n_v vs 0) 15) (w_fi w2 (n_v vs 0) 13) (w_fi w1 (n_v vs 0) 14) (w_fi w2 (n_v vs 0) 14) (w_fi w2 (n_v vs 0) 15) (w_fi w3 (n_v vs 0) 13) (w_fi w3 (n_v vs 0) 14) k3 k4 g1 g2 g3 f5 f6 f11 f12 f16 f17 fe_0_10_1 fe_0_11_1 fe_0_13_1 fe_0_15_1 fe_0_10_2 fe_0_11_2 fe_0_13_2 fe_0_14_2 fe_0_15_2 fe_0_10_3 fe_0_11_3 fe_0_13_3 fe_0_14_3 fe_0_10_4 fe_0_11_4 hE_0_1_1 hE_0_1_2 hE_0_1_3 hE_0_1_4 hK_0_1 kz_0_10 kz_0_11 kz_0_13 kz_0_15
  have nf2 : fc_1 PRD (20, [2, 1, 4], [60, 4, 1, 956, 10, 11, 13, 15, 1]) ws (vs) := by
    refine ⟨nf_in hl rfl, sgq_1441 ?_⟩
    · show ZXS (w_fi ws (n_v vs 2) 10) (w_fi ws (n_v vs 2) 11) (w_fi ws (n_v vs 2) 13) (w_fi ws (n_v vs 2) 15) (w_ei ws (w_ar ws (n_v vs 2) 1)) (v_iv (n_v vs 1)) (v_iv (n_v vs 4))
      rw [q2]
      exact vc_Mo_next_14_2 (v_iv (n_v vs 1)) (v_iv (n_v vs 3)) (v_iv (n_v vs 4)) (w_fi ws (n_v vs 0) 14) (w_fi ws (n_v vs 0) 15) (w_fi ws (n_v vs 0) 13) (w_fi ws (n_v vs 0) 11) (w_ei ws (w_ar ws (n_v vs 0) 1)) (w_fi ws (n_v vs 0) 10) (w_ei w1 (w_ar ws (n_v vs 0) 1)) (w_fi w1 (n_v vs 0) 10) (w_fi w1 (n_v vs 0) 11) (w_ei w2 (w_ar ws (n_v vs 0) 1)) (w_fi w2 (n_v vs 0) 10) (w_fi w2 (n_v vs 0) 11) (w_fi w3 (n_v vs 0) 11) (w_ei w3 (w_ar ws (n_v vs 0) 1)) (w_fi w3 (n_v vs 0) 10) (w_fi w4 (n_v vs 0) 11) (w_ei w4 (w_ar ws (n_v vs 0) 1)) (w_fi w4 (n_v vs 0) 10) (w_fi w1 (n_v vs 0) 13) (w_fi w1 (n_v vs 0) 15) (w_fi w2 (n_v vs 0) 13) (w_fi w1 (n_v vs 0) 14) (w_fi w2 (n_v vs 0) 14) (w_fi w2 (n_v vs 0) 15) (w_fi w3 (n_v vs 0) 13) (w_fi w3 (n_v vs 0) 14) k1 k3 k4 g0 g1 g2 g3 f11 f16 f17 f25 fe_0_10_1 fe_0_11_1 fe_0_13_1 fe_0_15_1 fe_0_10_2 fe_0_11_2 fe_0_13_2 fe_0_14_2 fe_0_15_2 fe_0_10_3 fe_0_11_3 fe_0_13_3 fe_0_14_3 fe_0_10_4 fe_0_11_4 fe_0_13_4 hE_0_1_1 hE_0_1_2 hE_0_1_3 hE_0_1_4 kz_0_10 kz_0_11 kz_0_13 kz_0_14 kz_0_15
  refine ⟨(fun _ h => (by cases h)), [], trivial, ?_, (fun _ h => (by cases h))⟩
  rw [List.append_nil]
  exact List.forall_mem_cons.mpr ⟨⟨show (20 : Nat) < 100 from by decide, nf0⟩, List.forall_mem_cons.mpr ⟨⟨show (20 : Nat) < 100 from by decide, nf1⟩, List.forall_mem_cons.mpr ⟨⟨show (20 : Nat) < 100 from by decide, nf2⟩, (fun _ h => (by cases h))⟩⟩⟩
set_option maxHeartbeats 4000000 in
theorem vc_Mo_next_15_0 (x1 : Int) (x3 : Int) (x4 : Int) (from_0 : Int) (place_0 : Int) (pos_0 : Int) (tape_0 : Int → Int) (limit_0 : Int) (tape_1 : Int → Int) (limit_1 : Int) (pos_1 : Int) (tape_2 : Int → Int) (limit_2 : Int) (pos_2 : Int) (pos_3 : Int) (tape_3 : Int → Int) (limit_3 : Int) (pos_4 : Int) (tape_4 : Int → Int) (limit_4 : Int) (place_1 : Int) (from_1 : Int) (place_2 : Int) (value_1 : Int) (value_2 : Int) (from_2 : Int) (place_3 : Int) (value_3 : Int) (k1 : 0 ≤ x1 ∧ x1 ≤ 2000) (k3 : 0 ≤ x3 ∧ x3 ≤ 1999) (k4 : 97 ≤ x4 ∧ x4 ≤ 122) (g1 : x3 = from_0) (g2 : x3 = place_0) (g3 : x3 = pos_0) (f5 : ((x3 + 1) ≤ limit_0) → (x4 = (tape_0 (x3) % 256))) (f6 : (limit_0 ≤ x3) → (x4 = (-1))) (f7 : 1 * x1 + ((-1) * pos_0 + 0) ≤ 0) (f11 : ((x3 + 1) ≤ limit_1) → (x4 = (tape_1 (x3) % 256))) (f12 : (limit_1 ≤ x3) → (x4 = (-1))) (f16 : ((x3 + 1) ≤ limit_2) → (x4 = (tape_2 (x3) % 256))) (f17 : (limit_2 ≤ x3) → (x4 = (-1))) (fe_0_10_1 : limit_0 = limit_1) (fe_0_11_1 : pos_0 = pos_1) (fe_0_13_1 : place_0 = place_1) (fe_0_15_1 : from_0 = from_1) (fe_0_10_2 : limit_1 = limit_2) (fe_0_11_2 : pos_1 = pos_2) (fe_0_13_2 : place_1 = place_2) (fe_0_14_2 : value_1 = value_2) (fe_0_15_2 : from_1 = from_2) (fe_0_10_3 : limit_2 = limit_3) (fe_0_11_3 : pos_2 = pos_3) (fe_0_13_3 : place_2 = place_3) (fe_0_14_3 : value_2 = value_3) (fe_0_10_4 : limit_3 = limit_4) (fe_0_11_4 : pos_3 = pos_4) (hE_0_1_1 : ∀ j : Int, tape_0 j = tape_1 j) (hE_0_1_2 : ∀ j : Int, tape_1 j = tape_2 j) (hE_0_1_3 : ∀ j : Int, tape_2 j = tape_3 j) (hE_0_1_4 : ∀ j : Int, tape_3 j = tape_4 j) (hK_0_1 : ∀ j : Int, 0 ≤ j → j < 2000 → (-128) ≤ tape_0 j ∧ tape_0 j ≤ 127) (kz_0_10 : 0 ≤ limit_0 ∧ limit_0 ≤ 2000) (kz_0_11 : 0 ≤ pos_0 ∧ pos_0 ≤ 2000) (kz_0_13 : 0 ≤ place_0 ∧ place_0 ≤ 2000) (kz_0_15 : 0 ≤ from_0 ∧ from_0 ≤ 2000) : 1 * x1 + ((-1) * from_0 + 0) ≤ 0 := by
  subst fe_0_10_1
  subst fe_0_11_1
  subst fe_0_13_1
  subst fe_0_15_1
  subst fe_0_10_2
  subst fe_0_11_2
  subst fe_0_13_2
  subst fe_0_14_2
  subst fe_0_15_2
  subst fe_0_10_3
  subst fe_0_11_3
  subst fe_0_13_3
  subst fe_0_14_3
  subst fe_0_10_4
  subst fe_0_11_4
  have e_hE_0_1_1 := funext hE_0_1_1; subst e_hE_0_1_1
  have e_hE_0_1_2 := funext hE_0_1_2; subst e_hE_0_1_2
  have e_hE_0_1_3 := funext hE_0_1_3; subst e_hE_0_1_3
  have e_hE_0_1_4 := funext hE_0_1_4; subst e_hE_0_1_4
  first | with_reducible assumption | ((try and_intros) <;> first | with_reducible assumption | (clear hE_0_1_1 hE_0_1_2 hE_0_1_3 hE_0_1_4 hK_0_1 f5 f6 f11 f12 f16 f17; omega)) | ((first | have f5_b := f5 (by clear hE_0_1_1 hE_0_1_2 hE_0_1_3 hE_0_1_4 hK_0_1 f5 f6 f11 f12 f16 f17; omega) | skip); (first | have f6_b := f6 (by clear hE_0_1_1 hE_0_1_2 hE_0_1_3 hE_0_1_4 hK_0_1 f5 f6 f11 f12 f16 f17; omega) | skip); (first | have f11_b := f11 (by clear hE_0_1_1 hE_0_1_2 hE_0_1_3 hE_0_1_4 hK_0_1 f5 f6 f11 f12 f16 f17; omega) | skip); (first | have f12_b := f12 (by clear hE_0_1_1 hE_0_1_2 hE_0_1_3 hE_0_1_4 hK_0_1 f5 f6 f11 f12 f16 f17; omega) | skip); (first | have f16_b := f16 (by clear hE_0_1_1 hE_0_1_2 hE_0_1_3 hE_0_1_4 hK_0_1 f5 f6 f11 f12 f16 f17; omega) | skip); (first | have f17_b := f17 (by clear hE_0_1_1 hE_0_1_2 hE_0_1_3 hE_0_1_4 hK_0_1 f5 f6 f11 f12 f16 f17; omega) | skip); (first | have f5_d := f5 (by with_reducible assumption) | skip); (first | have f6_d := f6 (by with_reducible assumption) | skip); (first | have f11_d := f11 (by with_reducible assumption) | skip); (first | have f12_d := f12 (by with_reducible assumption) | skip); (first | have f16_d := f16 (by with_reducible assumption) | skip); (first | have f17_d := f17 (by with_reducible assumption) | skip); (try and_intros) <;> first | with_reducible assumption | (clear hE_0_1_1 hE_0_1_2 hE_0_1_3 hE_0_1_4 hK_0_1 f5 f6 f11 f12 f16 f17; omega)) | omega
set_option maxHeartbeats 4000000 in
theorem vc_Mo_next_15_1 (x1 : Int) (x3 : Int) (x4 : Int) (value_0 : Int) (from_0 : Int) (place_0 : Int) (pos_0 : Int) (tape_0 : Int → Int) (limit_0 : Int) (tape_1 : Int → Int) (limit_1 : Int) (pos_1 : Int) (tape_2 : Int → Int) (limit_2 : Int) (pos_2 : Int) (pos_3 : Int) (tape_3 : Int → Int) (limit_3 : Int) (pos_4 : Int) (tape_4 : Int → Int) (limit_4 : Int) (place_1 : Int) (from_1 : Int) (place_2 : Int) (value_1 : Int) (value_2 : Int) (from_2 : Int) (place_3 : Int) (value_3 : Int) (value_4 : Int) (from_3 : Int) (from_4 : Int) (k1 : 0 ≤ x1 ∧ x1 ≤ 2000) (k3 : 0 ≤ x3 ∧ x3 ≤ 1999) (k4 : 97 ≤ x4 ∧ x4 ≤ 122) (g0 : x4 = value_0) (g1 : x3 = from_0) (g2 : x3 = place_0) (g3 : x3 = pos_0) (f4 : 0 ≤ x4) (f5 : ((x3 + 1) ≤ limit_0) → (x4 = (tape_0 (x3) % 256))) (f6 : (limit_0 ≤ x3) → (x4 = (-1))) (f7 : 1 * x1 + ((-1) * pos_0 + 0) ≤ 0) (f8 : ZX1 (limit_0) (pos_0) (tape_0) (x1)) (f11 : ((x3 + 1) ≤ limit_1) → (x4 = (tape_1 (x3) % 256))) (f12 : (limit_1 ≤ x3) → (x4 = (-1))) (f13 : 1 * x1 + ((-1) * pos_1 + 0) ≤ 0) (f14 : ZX1 (limit_1) (pos_1) (tape_1) (x1)) (f16 : ((x3 + 1) ≤ limit_2) → (x4 = (tape_2 (x3) % 256))) (f17 : (limit_2 ≤ x3) → (x4 = (-1))) (f18 : 1 * x1 + ((-1) * pos_2 + 0) ≤ 0) (f19 : ZX1 (limit_2) (pos_2) (tape_2) (x1)) (f21 : 1 * x1 + ((-1) * pos_3 + 0) ≤ 0) (f22 : ZX1 (limit_3) (pos_3) (tape_3) (x1)) (f24 : 1 * x1 + ((-1) * pos_4 + 0) ≤ 0) (f25 : ZX1 (limit_4) (pos_4) (tape_4) (x1)) (fe_0_10_1 : limit_0 = limit_1) (fe_0_11_1 : pos_0 = pos_1) (fe_0_13_1 : place_0 = place_1) (fe_0_14_1 : value_0 = x4) (fe_0_15_1 : from_0 = from_1) (fe_0_10_2 : limit_1 = limit_2) (fe_0_11_2 : pos_1 = pos_2) (fe_0_13_2 : place_1 = place_2) (fe_0_14_2 : value_1 = value_2) (fe_0_15_2 : from_1 = from_2) (fe_0_10_3 : limit_2 = limit_3) (fe_0_11_3 : pos_2 = pos_3) (fe_0_13_3 : place_2 = place_3) (fe_0_14_3 : value_2 = value_3) (fe_0_15_3 : from_2 = x3) (fe_0_10_4 : limit_3 = limit_4) (fe_0_11_4 : pos_3 = pos_4) (fe_0_13_4 : place_3 = x3) (fe_0_14_4 : value_3 = value_4) (fe_0_15_4 : from_3 = from_4) (hE_0_1_1 : ∀ j : Int, tape_0 j = tape_1 j) (hE_0_1_2 : ∀ j : Int, tape_1 j = tape_2 j) (hE_0_1_3 : ∀ j : Int, tape_2 j = tape_3 j) (hE_0_1_4 : ∀ j : Int, tape_3 j = tape_4 j) (hK_0_1 : ∀ j : Int, 0 ≤ j → j < 2000 → (-128) ≤ tape_0 j ∧ tape_0 j ≤ 127) (kz_0_10 : 0 ≤ limit_0 ∧ limit_0 ≤ 2000) (kz_0_11 : 0 ≤ pos_0 ∧ pos_0 ≤ 2000) (kz_0_13 : 0 ≤ place_0 ∧ place_0 ≤ 2000) (kz_0_14 : (-49) ≤ value_0 ∧ value_0 ≤ 1048575) (kz_0_15 : 0 ≤ from_0 ∧ from_0 ≤ 2000) : (from_0 ≤ pos_0) ∧ (((from_0 + 1) ≤ pos_0) ∨ ((pos_0 = from_0) ∧ (((from_0 + 1) ≤ limit_0) ∧ (((65 ≤ (tape_0 (from_0) % 256)) ∧ ((tape_0 (from_0) % 256) ≤ 90)) ∨ ((97 ≤ (tape_0 (from_0) % 256)) ∧ ((tape_0 (from_0) % 256) ≤ 122)))))) := by
  have e : tape_0 from_0 = tape_0 x3 := by rw [g1]
  omega
set_option maxHeartbeats 4000000 in
theorem vc_Mo_next_15_2 (x1 : Int) (x3 : Int) (x4 : Int) (value_0 : Int) (from_0 : Int) (place_0 : Int) (pos_0 : Int) (tape_0 : Int → Int) (limit_0 : Int) (tape_1 : Int → Int) (limit_1 : Int) (pos_1 : Int) (tape_2 : Int → Int) (limit_2 : Int) (pos_2 : Int) (pos_3 : Int) (tape_3 : Int → Int) (limit_3 : Int) (pos_4 : Int) (tape_4 : Int → Int) (limit_4 : Int) (place_1 : Int) (from_1 : Int) (place_2 : Int) (value_1 : Int) (value_2 : Int) (from_2 : Int) (place_3 : Int) (value_3 : Int) (k1 : 0 ≤ x1 ∧ x1 ≤ 2000) (k3 : 0 ≤ x3 ∧ x3 ≤ 1999) (k4 : 97 ≤ x4 ∧ x4 ≤ 122) (g0 : x4 = value_0) (g1 : x3 = from_0) (g2 : x3 = place_0) (g3 : x3 = pos_0) (f11 : ((x3 + 1) ≤ limit_1) → (x4 = (tape_1 (x3) % 256))) (f16 : ((x3 + 1) ≤ limit_2) → (x4 = (tape_2 (x3) % 256))) (f17 : (limit_2 ≤ x3) → (x4 = (-1))) (f25 : ZX1 (limit_4) (pos_4) (tape_4) (x1)) (fe_0_10_1 : limit_0 = limit_1) (fe_0_11_1 : pos_0 = pos_1) (fe_0_13_1 : place_0 = place_1) (fe_0_15_1 : from_0 = from_1) (fe_0_10_2 : limit_1 = limit_2) (fe_0_11_2 : pos_1 = pos_2) (fe_0_13_2 : place_1 = place_2) (fe_0_14_2 : value_1 = value_2) (fe_0_15_2 : from_1 = from_2) (fe_0_10_3 : limit_2 = limit_3) (fe_0_11_3 : pos_2 = pos_3) (fe_0_13_3 : place_2 = place_3) (fe_0_14_3 : value_2 = value_3) (fe_0_10_4 : limit_3 = limit_4) (fe_0_11_4 : pos_3 = pos_4) (fe_0_13_4 : place_3 = x3) (hE_0_1_1 : ∀ j : Int, tape_0 j = tape_1 j) (hE_0_1_2 : ∀ j : Int, tape_1 j = tape_2 j) (hE_0_1_3 : ∀ j : Int, tape_2 j = tape_3 j) (hE_0_1_4 : ∀ j : Int, tape_3 j = tape_4 j) (hK_0_1 : ∀ j : Int, 0 ≤ j → j < 2000 → (-128) ≤ tape_0 j ∧ tape_0 j ≤ 127) (kz_0_10 : 0 ≤ limit_0 ∧ limit_0 ≤ 2000) (kz_0_11 : 0 ≤ pos_0 ∧ pos_0 ≤ 2000) (kz_0_13 : 0 ≤ place_0 ∧ place_0 ≤ 2000) (kz_0_14 : (-49) ≤ value_0 ∧ value_0 ≤ 1048575) (kz_0_15 : 0 ≤ from_0 ∧ from_0 ≤ 2000) : ZXL (limit_0) (pos_0) (place_0) (from_0) (tape_0) (x1) := by
  subst fe_0_10_1
  subst fe_0_11_1
  subst fe_0_13_1
  subst fe_0_15_1
  subst fe_0_10_2
  subst fe_0_11_2
  subst fe_0_13_2
  subst fe_0_14_2
  subst fe_0_15_2
  subst fe_0_10_3
  subst fe_0_11_3
  subst fe_0_13_3
  subst fe_0_14_3
  subst fe_0_10_4
  subst fe_0_11_4
  have e_hE_0_1_1 := funext hE_0_1_1; subst e_hE_0_1_1
  have e_hE_0_1_2 := funext hE_0_1_2; subst e_hE_0_1_2
  have e_hE_0_1_3 := funext hE_0_1_3; subst e_hE_0_1_3
  have e_hE_0_1_4 := funext hE_0_1_4; subst e_hE_0_1_4
  first | subst g0 | skip
  first | subst g1 | skip
  first | subst g2 | skip
  first | subst g3 | skip
  first
    | exact zxl_start (by assumption) ‹ZX1 _ _ _ _› (by omega) (by omega) (by omega) (by omega)
    | exact zxl_step ‹ZXN _ _ _ _ _ _› (by omega)
def o_Mo_next_15 : or_T := (93, 7, [(0, (2, 0, 0, [165])), (1, (0, 0, 2000, [])), (2, (2, 0, 0, [165])), (3, (0, 0, 1999, [])), (4, (0, 97, 122, []))], [(9, [4, 2], [14]), (9, [3, 2], [15]), (9, [3, 2], [13]), (9, [3, 2], [11]), (8, [4], [3]), (20, [3, 2, 4], [50, 1, 1, 1010, 1001, 4, 11, 0, 6, 4, 2, 1, 0, 0, 1, 2, 1, 10, 1, 2, 1, 2, 9, 5, 3, 1, 1, 1, 0, 0, 256]), (20, [2, 3, 4], [50, 1, 0, 10, 4, 7, 0, 3, 2, 0, 10, 1, 1, 1, 2, 1, 2, 0, -1]), (20, [1, 2], [30, 0, 1, 0, 0, -1, 1, 11]), (20, [2, 1], [60, 2, 1, 950, 10, 11, 1]), (24, [0, 2], []), (101, [2, 4], [14]), (20, [3, 2, 4], [50, 1, 1, 1010, 1001, 4, 11, 0, 6, 4, 2, 1, 0, 0, 1, 2, 1, 10, 1, 2, 1, 2, 9, 5, 3, 1, 1, 1, 0, 0, 256]), (20, [2, 3, 4], [50, 1, 0, 10, 4, 7, 0, 3, 2, 0, 10, 1, 1, 1, 2, 1, 2, 0, -1]), (20, [1, 2], [30, 0, 1, 0, 0, -1, 1, 11]), (20, [2, 1], [60, 2, 1, 950, 10, 11, 1]), (101, [2, 5], [12]), (20, [3, 2, 4], [50, 1, 1, 1010, 1001, 4, 11, 0, 6, 4, 2, 1, 0, 0, 1, 2, 1, 10, 1, 2, 1, 2, 9, 5, 3, 1, 1, 1, 0, 0, 256]), (20, [2, 3, 4], [50, 1, 0, 10, 4, 7, 0, 3, 2, 0, 10, 1, 1, 1, 2, 1, 2, 0, -1]), (20, [1, 2], [30, 0, 1, 0, 0, -1, 1, 11]), (20, [2, 1], [60, 2, 1, 950, 10, 11, 1]), (101, [2, 3], [15]), (20, [1, 2], [30, 0, 1, 0, 0, -1, 1, 11]), (20, [2, 1], [60, 2, 1, 950, 10, 11, 1]), (101, [2, 3], [13]), (20, [1, 2], [30, 0, 1, 0, 0, -1, 1, 11]), (20, [2, 1], [60, 2, 1, 950, 10, 11, 1])], [], [], [(20, [1, 2], [30, 0, 1, 0, 0, -1, 1, 15]), (20, [2], [50, 3, 1, 15, 11, 10, 1, 2, 8, 0, 3, 2, 0, 15, 2, 0, 11, 3, 12, 0, 7, 4, 3, 2, 0, 15, 0, 1, 2, 0, 11, 2, 8, 1, 3, 2, 0, 11, 2, 0, 15, 2, 12, 0, 7, 4, 3, 2, 0, 15, 0, 1, 2, 0, 10, 3, 30, 2, 14, 0, 2, 0, 65, 9, 6, 3, 0, 1, 2, 0, 15, 0, 256, 0, 10, 9, 6, 3, 0, 1, 2, 0, 15, 0, 256, 0, 90, 2, 14, 0, 2, 0, 97, 9, 6, 3, 0, 1, 2, 0, 15, 0, 256, 0, 10, 9, 6, 3, 0, 1, 2, 0, 15, 0, 256, 0, 122]), (20, [2, 1], [60, 4, 1, 951, 10, 11, 13, 15, 1])], [], [])
theorem oo_Mo_next_15 {kA : Nat → ClassId} : or_ok PRD kA GG o_Mo_next_15 := by
  refine or_mk fun A ta ws vs hD hth hl => ?_
  intro t0 r0 t1 k1 t2 r2 t3 k3 t4 k4 f0 f1 f2 f3 f4 f5 f6 f7 f8 f9 ta1 w1 le1 s1 f11 f12 f13 f14 ta2 w2 le2 s2 f16 f17 f18 f19 ta3 w3 le3 s3 f21 f22 ta4 w4 le4 s4 f24 f25
  replace f0 := shm_115 f0
  replace f1 := shm_177 f1
  replace f2 := shm_361 f2
  replace f3 := shm_116 f3
  replace f4 := shm_32 f4
  replace f5 := shm_541 f5
  replace f6 := shm_542 f6
  replace f7 := shm_1431 f7
  replace f8 := shm_1435 f8
  replace f9 := shm_5 f9
  have s1 : (∀ b j, w_el ws b j = w_el w1 b j) ∧ ∀ b j, w_fd ws b j = if b = v_ad (n_v vs 2) ∧ j = 14 then n_v vs 4 else w_fd w1 b j := s1.2
  replace f11 := shm_541 f11
  replace f12 := shm_542 f12
  replace f13 := shm_1431 f13
  replace f14 := shm_1435 f14
  have s2 : (∀ b j, w_el w1 b j = w_el w2 b j) ∧ ∀ b j, w_fd w1 b j = if b = v_ad (n_v vs 2) ∧ j = 12 then n_v vs 5 else w_fd w2 b j := s2.2
  replace f16 := shm_541 f16
  replace f17 := shm_542 f17
  replace f18 := shm_1431 f18
  replace f19 := shm_1435 f19
  have s3 : (∀ b j, w_el w2 b j = w_el w3 b j) ∧ ∀ b j, w_fd w2 b j = if b = v_ad (n_v vs 2) ∧ j = 15 then n_v vs 3 else w_fd w3 b j := s3.2
  replace f21 := shm_1431 f21
  replace f22 := shm_1435 f22
  have s4 : (∀ b j, w_el w3 b j = w_el w4 b j) ∧ ∀ b j, w_fd w3 b j = if b = v_ad (n_v vs 2) ∧ j = 13 then n_v vs 3 else w_fd w4 b j := s4.2
  replace f24 := shm_1431 f24
  replace f25 := shm_1435 f25
  have q2 : n_v vs 2 = n_v vs 0 := f9.symm
  simp only [q2] at f0 f1 f2 f3 f5 f6 f7 f8
  rw [q2] at s1
  simp only [q2] at f11 f12 f13 f14
  rw [q2] at s2
  simp only [q2] at f16 f17 f18 f19
  rw [q2] at s3
  simp only [q2] at f21 f22
  rw [q2] at s4
  simp only [q2] at f24 f25
  have ar_0_1_1 : w_ar w1 (n_v vs 0) 1 = w_ar ws (n_v vs 0) 1 := by show v_ad (w_fd w1 _ _) = v_ad (w_fd ws _ _); rw [s1.2, if_neg (fun e => absurd e.2 (by decide))]
  have ar_0_1_2 : w_ar w2 (n_v vs 0) 1 = w_ar ws (n_v vs 0) 1 := by rw [← ar_0_1_1]; show v_ad (w_fd w2 _ _) = v_ad (w_fd w1 _ _); rw [s2.2, if_neg (fun e => absurd e.2 (by decide))]
  have ar_0_1_3 : w_ar w3 (n_v vs 0) 1 = w_ar ws (n_v vs 0) 1 := by rw [← ar_0_1_2]; show v_ad (w_fd w3 _ _) = v_ad (w_fd w2 _ _); rw [s3.2, if_neg (fun e => absurd e.2 (by decide))]
  have ar_0_1_4 : w_ar w4 (n_v vs 0) 1 = w_ar ws (n_v vs 0) 1 := by rw [← ar_0_1_3]; show v_ad (w_fd w4 _ _) = v_ad (w_fd w3 _ _); rw [s4.2, if_neg (fun e => absurd e.2 (by decide))]
  have cr_0_1 := fdq_39 hD hth r0
  have g0 : v_iv (n_v vs 4) = w_fi ws (n_v vs 0) 14 := congrArg v_iv f0
  have g1 : v_iv (n_v vs 3) = w_fi ws (n_v vs 0) 15 := congrArg v_iv f1
  have g2 : v_iv (n_v vs 3) = w_fi ws (n_v vs 0) 13 := congrArg v_iv f2
  have g3 : v_iv (n_v vs 3) = w_fi ws (n_v vs 0) 11 := congrArg v_iv f3
  simp only [ar_0_1_1, ar_0_1_2, ar_0_1_3, ar_0_1_4] at f11 f14 f16 f19 f22 f25
  have fe_0_10_1 : w_fi ws (n_v vs 0) 10 = w_fi w1 (n_v vs 0) 10 := by show v_iv (w_fd _ _ _) = v_iv (w_fd _ _ _); rw [s1.2, if_neg (fun e => absurd e.2 (by decide))]
  have fe_0_11_1 : w_fi ws (n_v vs 0) 11 = w_fi w1 (n_v vs 0) 11 := by show v_iv (w_fd _ _ _) = v_iv (w_fd _ _ _); rw [s1.2, if_neg (fun e => absurd e.2 (by decide))]
  have fe_0_13_1 : w_fi ws (n_v vs 0) 13 = w_fi w1 (n_v vs 0) 13 := by show v_iv (w_fd _ _ _) = v_iv (w_fd _ _ _); rw [s1.2, if_neg (fun e => absurd e.2 (by decide))]
  have fe_0_14_1 : w_fi ws (n_v vs 0) 14 = v_iv (n_v vs 4) := by show v_iv (w_fd _ _ _) = _; rw [s1.2, if_pos ⟨rfl, rfl⟩]
  have fe_0_15_1 : w_fi ws (n_v vs 0) 15 = w_fi w1 (n_v vs 0) 15 := by show v_iv (w_fd _ _ _) = v_iv (w_fd _ _ _); rw [s1.2, if_neg (fun e => absurd e.2 (by decide))]
  have fe_0_10_2 : w_fi w1 (n_v vs 0) 10 = w_fi w2 (n_v vs 0) 10 := by show v_iv (w_fd _ _ _) = v_iv (w_fd _ _ _); rw [s2.2, if_neg (fun e => absurd e.2 (by decide))]
  have fe_0_11_2 : w_fi w1 (n_v vs 0) 11 = w_fi w2 (n_v vs 0) 11 := by show v_iv (w_fd _ _ _) = v_iv (w_fd _ _ _); rw [s2.2, if_neg (fun e => absurd e.2 (by decide))]
  have fe_0_13_2 : w_fi w1 (n_v vs 0) 13 = w_fi w2 (n_v vs 0) 13 := by show v_iv (w_fd _ _ _) = v_iv (w_fd _ _ _); rw [s2.2, if_neg (fun e => absurd e.2 (by decide))]
  have fe_0_14_2 : w_fi w1 (n_v vs 0) 14 = w_fi w2 (n_v vs 0) 14 := by show v_iv (w_fd _ _ _) = v_iv (w_fd _ _ _); rw [s2.2, if_neg (fun e => absurd e.2 (by decide))]
  have fe_0_15_2 : w_fi w1 (n_v vs 0) 15 = w_fi w2 (n_v vs 0) 15 := by show v_iv (w_fd _ _ _) = v_iv (w_fd _ _ _); rw [s2.2, if_neg (fun e => absurd e.2 (by decide))]
  have fe_0_10_3 : w_fi w2 (n_v vs 0) 10 = w_fi w3 (n_v vs 0) 10 := by show v_iv (w_fd _ _ _) = v_iv (w_fd _ _ _); rw [s3.2, if_neg (fun e => absurd e.2 (by decide))]
  have fe_0_11_3 : w_fi w2 (n_v vs 0) 11 = w_fi w3 (n_v vs 0) 11 := by show v_iv (w_fd _ _ _) = v_iv (w_fd _ _ _); rw [s3.2, if_neg (fun e => absurd e.2 (by decide))]
  have fe_0_13_3 : w_fi w2 (n_v vs 0) 13 = w_fi w3 (n_v vs 0) 13 := by show v_iv (w_fd _ _ _) = v_iv (w_fd _ _ _); rw [s3.2, if_neg (fun e => absurd e.2 (by decide))]
  have fe_0_14_3 : w_fi w2 (n_v vs 0) 14 = w_fi w3 (n_v vs 0) 14 := by show v_iv (w_fd _ _ _) = v_iv (w_fd _ _ _); rw [s3.2, if_neg (fun e => absurd e.2 (by decide))]
  have fe_0_15_3 : w_fi w2 (n_v vs 0) 15 = v_iv (n_v vs 3) := by show v_iv (w_fd _ _ _) = _; rw [s3.2, if_pos ⟨rfl, rfl⟩]
  have fe_0_10_4 : w_fi w3 (n_v vs 0) 10 = w_fi w4 (n_v vs 0) 10 := by show v_iv (w_fd _ _ _) = v_iv (w_fd _ _ _); rw [s4.2, if_neg (fun e => absurd e.2 (by decide))]
  have fe_0_11_4 : w_fi w3 (n_v vs 0) 11 = w_fi w4 (n_v vs 0) 11 := by show v_iv (w_fd _ _ _) = v_iv (w_fd _ _ _); rw [s4.2, if_neg (fun e => absurd e.2 (by decide))]
  have fe_0_13_4 : w_fi w3 (n_v vs 0) 13 = v_iv (n_v vs 3) := by show v_iv (w_fd _ _ _) = _; rw [s4.2, if_pos ⟨rfl, rfl⟩]
  have fe_0_14_4 : w_fi w3 (n_v vs 0) 14 = w_fi w4 (n_v vs 0) 14 := by show v_iv (w_fd _ _ _) = v_iv (w_fd _ _ _); rw [s4.2, if_neg (fun e => absurd e.2 (by decide))]
  have fe_0_15_4 : w_fi w3 (n_v vs 0) 15 = w_fi w4 (n_v vs 0) 15 := by show v_iv (w_fd _ _ _) = v_iv (w_fd _ _ _); rw [s4.2, if_neg (fun e => absurd e.2 (by decide))]
  have hE_0_1_1 : ∀ j : Int, w_ei ws (w_ar ws (n_v vs 0) 1) j = w_ei w1 (w_ar ws (n_v vs 0) 1) j := fun j => s1.1 _ _
  have hE_0_1_2 : ∀ j : Int, w_ei w1 (w_ar ws (n_v vs 0) 1) j = w_ei w2 (w_ar ws (n_v vs 0) 1) j := fun j => s2.1 _ _
  have hE_0_1_3 : ∀ j : Int, w_ei w2 (w_ar ws (n_v vs 0) 1) j = w_ei w3 (w_ar ws (n_v vs 0) 1) j := fun j => s3.1 _ _
  have hE_0_1_4 : ∀ j : Int, w_ei w3 (w_ar ws (n_v vs 0) 1) j = w_ei w4 (w_ar ws (n_v vs 0) 1) j := fun j => s4.1 _ _
  have hK_0_1 := elq_7 hD hth cr_0_1
  have kz_0_10 := fdq_43 hD hth r0
  have kz_0_11 := fdq_237 hD hth r0
  have kz_0_13 := fdq_238 hD hth r0
  have kz_0_14 := fdq_188 hD hth r0
  have kz_0_15 := fdq_239 hD hth r0
  have nf0 : fc_1 PRD (20, [1, 2], [30, 0, 1, 0, 0, -1, 1, 15]) ws (vs) := by
    refine ⟨nf_in hl rfl, sgq_1436 ?_⟩
    · show 1 * v_iv (n_v vs 1) + ((-1) * w_fi ws (n_v vs 2) 15 + 0) ≤ 0
      rw [q2]
      exact vc_Mo_next_15_0 (v_iv (n_v vs 1)) (v_iv (n_v vs 3)) (v_iv (n_v vs 4)) (w_fi ws (n_v vs 0) 15) (w_fi ws (n_v vs 0) 13) (w_fi ws (n_v vs 0) 11) (w_ei ws (w_ar ws (n_v vs 0) 1)) (w_fi ws (n_v vs 0) 10) (w_ei w1 (w_ar ws (n_v vs 0) 1)) (w_fi w1 (n_v vs 0) 10) (w_fi w1 (n_v vs 0) 11) (w_ei w2 (w_ar ws (n_v vs 0) 1)) (w_fi w2 (n_v vs 0) 10) (w_fi w2 (n_v vs 0) 11) (w_fi w3 (n_v vs 0) 11) (w_ei w3 (w_ar ws (n_v vs 0) 1)) (w_fi w3 (n_v vs 0) 10) (w_fi w4 (n_v vs 0) 11) (w_ei w4 (w_ar ws (n_v vs 0) 1)) (w_fi w4 (n_v vs 0) 10) (w_fi w1 (n_v vs 0) 13) (w_fi w1 (n_v vs 0) 15) (w_fi w2 (n_v vs 0) 13) (w_fi w1 (n_v vs 0) 14) (w_fi w2 (n_v vs 0) 14) (w_fi w2 (n_v vs 0) 15) (w_fi w3 (n_v vs 0) 13) (w_fi w3 (n_v vs 0) 14) k1 k3 k4 g1 g2 g3 f5 f6 f7 f11 f12 f16 f17 fe_0_10_1 fe_0_11_1 fe_0_13_1 fe_0_15_1 fe_0_10_2 fe_0_11_2 fe_0_13_2 fe_0_14_2 fe_0_15_2 fe_0_10_3 fe_0_11_3 fe_0_13_3 fe_0_14_3 fe_0_10_4 fe_0_11_4 hE_0_1_1 hE_0_1_2 hE_0_1_3 hE_0_1_4 hK_0_1 kz_0_10 kz_0_11 kz_0_13 kz_0_15
  have nf1 : fc_1 PRD (20, [2], [50, 3, 1, 15, 11, 10, 1, 2, 8, 0, 3, 2, 0, 15, 2, 0, 11, 3, 12, 0, 7, 4, 3, 2, 0, 15, 0, 1, 2, 0, 11, 2, 8, 1, 3, 2, 0, 11, 2, 0, 15, 2, 12, 0, 7, 4, 3, 2, 0, 15, 0, 1, 2, 0, 10, 3, 30, 2, 14, 0, 2, 0, 65, 9, 6, 3, 0, 1, 2, 0, 15, 0, 256, 0, 10, 9, 6, 3, 0, 1, 2, 0, 15, 0, 256, 0, 90, 2, 14, 0, 2, 0, 97, 9, 6, 3, 0, 1, 2, 0, 15, 0, 256, 0, 10, 9, 6, 3, 0, 1, 2, 0, 15, 0, 256, 0, 122]) ws (vs) := by
    refine ⟨nf_in hl rfl, sgq_1444 ?_⟩
    · show (w_fi ws (n_v vs 2) 15 ≤ w_fi ws (n_v vs 2) 11) ∧ (((w_fi ws (n_v vs 2) 15 + 1) ≤ w_fi ws (n_v vs 2) 11) ∨ ((w_fi ws (n_v vs 2) 11 = w_fi ws (n_v vs 2) 15) ∧ (((w_fi ws (n_v vs 2) 15 + 1) ≤ w_fi ws (n_v vs 2) 10) ∧ (((65 ≤ (w_ei ws (w_ar ws (n_v vs 2) 1) (w_fi ws (n_v vs 2) 15) % 256)) ∧ ((w_ei ws (w_ar ws (n_v vs 2) 1) (w_fi ws (n_v vs 2) 15) % 256) ≤ 90)) ∨ ((97 ≤ (w_ei ws (w_ar ws (n_v vs 2) 1) (w_fi ws (n_v vs 2) 15) % 256)) ∧ ((w_ei ws (w_ar ws (n_v vs 2) 1) (w_fi ws (n_v vs 2) 15) % 256) ≤ 122))))))
      rw [q2]
      exact vc_Mo_next_15_1 (v_iv (n_v vs 1)) (v_iv (n_v vs 3)) (v_iv (n_v vs 4)) (w_fi ws (n_v vs 0) 14) (w_fi ws (n_v vs 0) 15) (w_fi ws (n_v vs 0) 13) (w_fi ws (n_v vs 0) 11) (w_ei ws (w_ar ws (n_v vs 0) 1)) (w_fi ws (n_v vs 0) 10) (w_ei w1 (w_ar ws (n_v vs 0) 1)) (w_fi w1 (n_v vs 0) 10) (w_fi w1 (n_v vs 0) 11) (w_ei w2 (w_ar ws (n_v vs 0) 1)) (w_fi w2 (n_v vs 0) 10) (w_fi w2 (n_v vs 0) 11) (w_fi w3 (n_v vs 0) 11) (w_ei w3 (w_ar ws (n_v vs 0) 1)) (w_fi w3 (n_v vs 0) 10) (w_fi w4 (n_v vs 0) 11) (w_ei w4 (w_ar ws (n_v vs 0) 1)) (w_fi w4 (n_v vs 0) 10) (w_fi w1 (n_v vs 0) 13) (w_fi w1 (n_v vs 0) 15) (w_fi w2 (n_v vs 0) 13) (w_fi w1 (n_v vs 0) 14) (w_fi w2 (n_v vs 0) 14) (w_fi w2 (n_v vs 0) 15) (w_fi w3 (n_v vs 0) 13) (w_fi w3 (n_v vs 0) 14) (w_fi w4 (n_v vs 0) 14) (w_fi w3 (n_v vs 0) 15) (w_fi w4 (n_v vs 0) 15) k1 k3 k4 g0 g1 g2 g3 f4 f5 f6 f7 f8 f11 f12 f13 f14 f16 f17 f18 f19 f21 f22 f24 f25 fe_0_10_1 fe_0_11_1 fe_0_13_1 fe_0_14_1 fe_0_15_1 fe_0_10_2 fe_0_11_2 fe_0_13_2 fe_0_14_2 fe_0_15_2 fe_0_10_3 fe_0_11_3 fe_0_13_3 fe_0_14_3 fe_0_15_3 fe_0_10_4 fe_0_11_4 fe_0_13_4 fe_0_14_4 fe_0_15_4 hE_0_1_1 hE_0_1_2 hE_0_1_3 hE_0_1_4 hK_0_1 kz_0_10 kz_0_11 kz_0_13 kz_0_14 kz_0_15
  have nf2 : fc_1 PRD (20, [2, 1], [60, 4, 1, 951, 10, 11, 13, 15, 1]) ws (vs) := by
    refine ⟨nf_in hl rfl, sgq_1445 ?_⟩
    · show ZXL (w_fi ws (n_v vs 2) 10) (w_fi ws (n_v vs 2) 11) (w_fi ws (n_v vs 2) 13) (w_fi ws (n_v vs 2) 15) (w_ei ws (w_ar ws (n_v vs 2) 1)) (v_iv (n_v vs 1))
      rw [q2]
      exact vc_Mo_next_15_2 (v_iv (n_v vs 1)) (v_iv (n_v vs 3)) (v_iv (n_v vs 4)) (w_fi ws (n_v vs 0) 14) (w_fi ws (n_v vs 0) 15) (w_fi ws (n_v vs 0) 13) (w_fi ws (n_v vs 0) 11) (w_ei ws (w_ar ws (n_v vs 0) 1)) (w_fi ws (n_v vs 0) 10) (w_ei w1 (w_ar ws (n_v vs 0) 1)) (w_fi w1 (n_v vs 0) 10) (w_fi w1 (n_v vs 0) 11) (w_ei w2 (w_ar ws (n_v vs 0) 1)) (w_fi w2 (n_v vs 0) 10) (w_fi w2 (n_v vs 0) 11) (w_fi w3 (n_v vs 0) 11) (w_ei w3 (w_ar ws (n_v vs 0) 1)) (w_fi w3 (n_v vs 0) 10) (w_fi w4 (n_v vs 0) 11) (w_ei w4 (w_ar ws (n_v vs 0) 1)) (w_fi w4 (n_v vs 0) 10) (w_fi w1 (n_v vs 0) 13) (w_fi w1 (n_v vs 0) 15) (w_fi w2 (n_v vs 0) 13) (w_fi w1 (n_v vs 0) 14) (w_fi w2 (n_v vs 0) 14) (w_fi w2 (n_v vs 0) 15) (w_fi w3 (n_v vs 0) 13) (w_fi w3 (n_v vs 0) 14) k1 k3 k4 g0 g1 g2 g3 f11 f16 f17 f25 fe_0_10_1 fe_0_11_1 fe_0_13_1 fe_0_15_1 fe_0_10_2 fe_0_11_2 fe_0_13_2 fe_0_14_2 fe_0_15_2 fe_0_10_3 fe_0_11_3 fe_0_13_3 fe_0_14_3 fe_0_10_4 fe_0_11_4 fe_0_13_4 hE_0_1_1 hE_0_1_2 hE_0_1_3 hE_0_1_4 hK_0_1 kz_0_10 kz_0_11 kz_0_13 kz_0_14 kz_0_15
  refine ⟨(fun _ h => (by cases h)), [], trivial, ?_, (fun _ h => (by cases h))⟩
  rw [List.append_nil]
  exact List.forall_mem_cons.mpr ⟨⟨show (20 : Nat) < 100 from by decide, nf0⟩, List.forall_mem_cons.mpr ⟨⟨show (20 : Nat) < 100 from by decide, nf1⟩, List.forall_mem_cons.mpr ⟨⟨show (20 : Nat) < 100 from by decide, nf2⟩, (fun _ h => (by cases h))⟩⟩⟩
set_option maxHeartbeats 4000000 in
theorem vc_Mo_next_16_0 (x4 : Int) (x5 : Int) (x7 : Int) (x9 : Int) (tape_0 : Int → Int) (limit_0 : Int) (pos_0 : Int) (from_0 : Int) (k4 : 0 ≤ x4 ∧ x4 ≤ 2000) (k5 : (-1) ≤ x5 ∧ x5 ≤ (-1)) (k7 : (-1) ≤ x7 ∧ x7 ≤ (-1)) (k9 : (-1) ≤ x9 ∧ x9 ≤ (-1)) (f1 : ((x4 + 1) ≤ limit_0) → (x9 = (tape_0 (x4) % 256))) (f2 : (limit_0 ≤ x4) → (x9 = (-1))) (g3 : x4 = pos_0) (f4 : ((x4 + 1) ≤ limit_0) → (x7 = (tape_0 (x4) % 256))) (f5 : (limit_0 ≤ x4) → (x7 = (-1))) (f6 : ((x4 + 1) ≤ limit_0) → (x5 = (tape_0 (x4) % 256))) (f7 : (limit_0 ≤ x4) → (x5 = (-1))) (f9 : (from_0 ≤ pos_0) ∧ (((from_0 + 1) ≤ pos_0) ∨ ((pos_0 = from_0) ∧ (((from_0 + 1) ≤ limit_0) ∧ (((65 ≤ (tape_0 (from_0) % 256)) ∧ ((tape_0 (from_0) % 256) ≤ 90)) ∨ ((97 ≤ (tape_0 (from_0) % 256)) ∧ ((tape_0 (from_0) % 256) ≤ 122))))))) (hK_0_1 : ∀ j : Int, 0 ≤ j → j < 2000 → (-128) ≤ tape_0 j ∧ tape_0 j ≤ 127) (kz_0_10 : 0 ≤ limit_0 ∧ limit_0 ≤ 2000) (kz_0_11 : 0 ≤ pos_0 ∧ pos_0 ≤ 2000) (kz_0_15 : 0 ≤ from_0 ∧ from_0 ≤ 2000) : (from_0 + 1) ≤ pos_0 := by
  first | with_reducible assumption | ((have f9_c0 := f9.1); (have f9_c1 := f9.2); (try and_intros) <;> first | with_reducible assumption | (clear f9_c1 f9 hK_0_1 f1 f2 f4 f5 f6 f7; omega)) | ((have f9_c0 := f9.1); (have f9_c1 := f9.2); (first | have f1_b := f1 (by clear f9_c1 f9 hK_0_1 f1 f2 f4 f5 f6 f7; omega) | skip); (first | have f2_b := f2 (by clear f9_c1 f9 hK_0_1 f1 f2 f4 f5 f6 f7; omega) | skip); (first | have f4_b := f4 (by clear f9_c1 f9 hK_0_1 f1 f2 f4 f5 f6 f7; omega) | skip); (first | have f5_b := f5 (by clear f9_c1 f9 hK_0_1 f1 f2 f4 f5 f6 f7; omega) | skip); (first | have f6_b := f6 (by clear f9_c1 f9 hK_0_1 f1 f2 f4 f5 f6 f7; omega) | skip); (first | have f7_b := f7 (by clear f9_c1 f9 hK_0_1 f1 f2 f4 f5 f6 f7; omega) | skip); (first | have f1_d := f1 (by with_reducible assumption) | skip); (first | have f2_d := f2 (by with_reducible assumption) | skip); (first | have f4_d := f4 (by with_reducible assumption) | skip); (first | have f5_d := f5 (by with_reducible assumption) | skip); (first | have f6_d := f6 (by with_reducible assumption) | skip); (first | have f7_d := f7 (by with_reducible assumption) | skip); (try and_intros) <;> first | with_reducible assumption | (clear f9_c1 f9 hK_0_1 f1 f2 f4 f5 f6 f7; omega)) | omega
set_option maxHeartbeats 4000000 in
theorem vc_Mo_next_16_1 (x1 : Int) (x4 : Int) (x5 : Int) (tape_0 : Int → Int) (limit_0 : Int) (pos_0 : Int) (from_0 : Int) (place_0 : Int) (k1 : 0 ≤ x1 ∧ x1 ≤ 2000) (k4 : 0 ≤ x4 ∧ x4 ≤ 2000) (k5 : (-1) ≤ x5 ∧ x5 ≤ (-1)) (g3 : x4 = pos_0) (f6 : ((x4 + 1) ≤ limit_0) → (x5 = (tape_0 (x4) % 256))) (f7 : (limit_0 ≤ x4) → (x5 = (-1))) (f9 : (from_0 ≤ pos_0) ∧ (((from_0 + 1) ≤ pos_0) ∨ ((pos_0 = from_0) ∧ (((from_0 + 1) ≤ limit_0) ∧ (((65 ≤ (tape_0 (from_0) % 256)) ∧ ((tape_0 (from_0) % 256) ≤ 90)) ∨ ((97 ≤ (tape_0 (from_0) % 256)) ∧ ((tape_0 (from_0) % 256) ≤ 122))))))) (f10 : ZXL (limit_0) (pos_0) (place_0) (from_0) (tape_0) (x1)) (kz_0_10 : 0 ≤ limit_0 ∧ limit_0 ≤ 2000) (kz_0_11 : 0 ≤ pos_0 ∧ pos_0 ≤ 2000) (kz_0_13 : 0 ≤ place_0 ∧ place_0 ≤ 2000) (kz_0_15 : 0 ≤ from_0 ∧ from_0 ≤ 2000) : ZXM (limit_0) (pos_0) (place_0) (from_0) (tape_0) (x1) := by
  first | subst g3 | skip
  exact zxm_mk ‹ZXL _ _ _ _ _ _› (fun q => by omega)
def o_Mo_next_16 : or_T := (147, 11, [(0, (2, 0, 0, [165])), (1, (0, 0, 2000, [])), (2, (2, 0, 0, [165])), (4, (0, 0, 2000, [])), (5, (0, -1, -1, [])), (7, (0, -1, -1, [])), (9, (0, -1, -1, [])), (10, (0, 95, 95, []))], [(7, [9, 10], [1]), (20, [4, 2, 9], [50, 1, 1, 1010, 1001, 4, 11, 0, 6, 4, 2, 1, 0, 0, 1, 2, 1, 10, 1, 2, 1, 2, 9, 5, 3, 1, 1, 1, 0, 0, 256]), (20, [2, 4, 9], [50, 1, 0, 10, 4, 7, 0, 3, 2, 0, 10, 1, 1, 1, 2, 1, 2, 0, -1]), (9, [4, 2], [11]), (20, [4, 2, 7], [50, 1, 1, 1010, 1001, 4, 11, 0, 6, 4, 2, 1, 0, 0, 1, 2, 1, 10, 1, 2, 1, 2, 9, 5, 3, 1, 1, 1, 0, 0, 256]), (20, [2, 4, 7], [50, 1, 0, 10, 4, 7, 0, 3, 2, 0, 10, 1, 1, 1, 2, 1, 2, 0, -1]), (20, [4, 2, 5], [50, 1, 1, 1010, 1001, 4, 11, 0, 6, 4, 2, 1, 0, 0, 1, 2, 1, 10, 1, 2, 1, 2, 9, 5, 3, 1, 1, 1, 0, 0, 256]), (20, [2, 4, 5], [50, 1, 0, 10, 4, 7, 0, 3, 2, 0, 10, 1, 1, 1, 2, 1, 2, 0, -1]), (20, [1, 2], [30, 0, 1, 0, 0, -1, 1, 15]), (20, [2], [50, 3, 1, 15, 11, 10, 1, 2, 8, 0, 3, 2, 0, 15, 2, 0, 11, 3, 12, 0, 7, 4, 3, 2, 0, 15, 0, 1, 2, 0, 11, 2, 8, 1, 3, 2, 0, 11, 2, 0, 15, 2, 12, 0, 7, 4, 3, 2, 0, 15, 0, 1, 2, 0, 10, 3, 30, 2, 14, 0, 2, 0, 65, 9, 6, 3, 0, 1, 2, 0, 15, 0, 256, 0, 10, 9, 6, 3, 0, 1, 2, 0, 15, 0, 256, 0, 90, 2, 14, 0, 2, 0, 97, 9, 6, 3, 0, 1, 2, 0, 15, 0, 256, 0, 10, 9, 6, 3, 0, 1, 2, 0, 15, 0, 256, 0, 122]), (20, [2, 1], [60, 4, 1, 951, 10, 11, 13, 15, 1]), (24, [0, 2], [])], [], [], [(20, [2], [50, 2, 0, 15, 11, 0, 7, 4, 3, 2, 0, 15, 0, 1, 2, 0, 11]), (20, [2, 1], [60, 4, 1, 953, 10, 11, 13, 15, 1])], [], [])
theorem oo_Mo_next_16 {kA : Nat → ClassId} : or_ok PRD kA GG o_Mo_next_16 := by
  refine or_mk fun A ta ws vs hD hth hl => ?_
  intro t0 r0 t1 k1 t2 r2 t4 k4 t5 k5 t7 k7 t9 k9 t10 k10 f0 f1 f2 f3 f4 f5 f6 f7 f8 f9 f10 f11
  replace f1 := shm_541 f1
  replace f2 := shm_542 f2
  replace f3 := shm_116 f3
  replace f4 := shm_541 f4
  replace f5 := shm_542 f5
  replace f6 := shm_541 f6
  replace f7 := shm_542 f7
  replace f9 := shm_1444 f9
  replace f10 := shm_1445 f10
  replace f11 := shm_5 f11
  have q2 : n_v vs 2 = n_v vs 0 := f11.symm
  simp only [q2] at f1 f2 f3 f4 f5 f6 f7 f9 f10
  have cr_0_1 := fdq_39 hD hth r0
  have g3 : v_iv (n_v vs 4) = w_fi ws (n_v vs 0) 11 := congrArg v_iv f3
  have hK_0_1 := elq_7 hD hth cr_0_1
  have kz_0_10 := fdq_43 hD hth r0
  have kz_0_11 := fdq_237 hD hth r0
  have kz_0_13 := fdq_238 hD hth r0
  have kz_0_15 := fdq_239 hD hth r0
  have nf0 : fc_1 PRD (20, [2], [50, 2, 0, 15, 11, 0, 7, 4, 3, 2, 0, 15, 0, 1, 2, 0, 11]) ws (vs) := by
    refine ⟨nf_in hl rfl, sgq_1446 ?_⟩
    · show (w_fi ws (n_v vs 2) 15 + 1) ≤ w_fi ws (n_v vs 2) 11
      rw [q2]
      exact vc_Mo_next_16_0 (v_iv (n_v vs 4)) (v_iv (n_v vs 5)) (v_iv (n_v vs 7)) (v_iv (n_v vs 9)) (w_ei ws (w_ar ws (n_v vs 0) 1)) (w_fi ws (n_v vs 0) 10) (w_fi ws (n_v vs 0) 11) (w_fi ws (n_v vs 0) 15) k4 k5 k7 k9 f1 f2 g3 f4 f5 f6 f7 f9 hK_0_1 kz_0_10 kz_0_11 kz_0_15
  have nf1 : fc_1 PRD (20, [2, 1], [60, 4, 1, 953, 10, 11, 13, 15, 1]) ws (vs) := by
    refine ⟨nf_in hl rfl, sgq_1447 ?_⟩
    · show ZXM (w_fi ws (n_v vs 2) 10) (w_fi ws (n_v vs 2) 11) (w_fi ws (n_v vs 2) 13) (w_fi ws (n_v vs 2) 15) (w_ei ws (w_ar ws (n_v vs 2) 1)) (v_iv (n_v vs 1))
      rw [q2]
      exact vc_Mo_next_16_1 (v_iv (n_v vs 1)) (v_iv (n_v vs 4)) (v_iv (n_v vs 5)) (w_ei ws (w_ar ws (n_v vs 0) 1)) (w_fi ws (n_v vs 0) 10) (w_fi ws (n_v vs 0) 11) (w_fi ws (n_v vs 0) 15) (w_fi ws (n_v vs 0) 13) k1 k4 k5 g3 f6 f7 f9 f10 kz_0_10 kz_0_11 kz_0_13 kz_0_15
  refine ⟨(fun _ h => (by cases h)), [], trivial, ?_, (fun _ h => (by cases h))⟩
  rw [List.append_nil]
  exact List.forall_mem_cons.mpr ⟨⟨show (20 : Nat) < 100 from by decide, nf0⟩, List.forall_mem_cons.mpr ⟨⟨show (20 : Nat) < 100 from by decide, nf1⟩, (fun _ h => (by cases h))⟩⟩
set_option maxHeartbeats 4000000 in
theorem vc_Mo_next_17_0 (x4 : Int) (x5 : Int) (x7 : Int) (x9 : Int) (tape_0 : Int → Int) (limit_0 : Int) (pos_0 : Int) (from_0 : Int) (k4 : 0 ≤ x4 ∧ x4 ≤ 1999) (k5 : (-1) ≤ x5 ∧ x5 ≤ (-1)) (k7 : (-1) ≤ x7 ∧ x7 ≤ (-1)) (k9 : 0 ≤ x9 ∧ x9 ≤ 255) (f1 : ((x4 + 1) ≤ limit_0) → (x9 = (tape_0 (x4) % 256))) (f2 : (limit_0 ≤ x4) → (x9 = (-1))) (g3 : x4 = pos_0) (f4 : ((x4 + 1) ≤ limit_0) → (x7 = (tape_0 (x4) % 256))) (f5 : (limit_0 ≤ x4) → (x7 = (-1))) (f6 : ((x4 + 1) ≤ limit_0) → (x5 = (tape_0 (x4) % 256))) (f7 : (limit_0 ≤ x4) → (x5 = (-1))) (f9 : (from_0 ≤ pos_0) ∧ (((from_0 + 1) ≤ pos_0) ∨ ((pos_0 = from_0) ∧ (((from_0 + 1) ≤ limit_0) ∧ (((65 ≤ (tape_0 (from_0) % 256)) ∧ ((tape_0 (from_0) % 256) ≤ 90)) ∨ ((97 ≤ (tape_0 (from_0) % 256)) ∧ ((tape_0 (from_0) % 256) ≤ 122))))))) (hK_0_1 : ∀ j : Int, 0 ≤ j → j < 2000 → (-128) ≤ tape_0 j ∧ tape_0 j ≤ 127) (kz_0_10 : 0 ≤ limit_0 ∧ limit_0 ≤ 2000) (kz_0_11 : 0 ≤ pos_0 ∧ pos_0 ≤ 2000) (kz_0_15 : 0 ≤ from_0 ∧ from_0 ≤ 2000) : (from_0 + 1) ≤ pos_0 := by
  first | with_reducible assumption | ((have f9_c0 := f9.1); (have f9_c1 := f9.2); (try and_intros) <;> first | with_reducible assumption | (clear f9_c1 f9 hK_0_1 f1 f2 f4 f5 f6 f7; omega)) | ((have f9_c0 := f9.1); (have f9_c1 := f9.2); (first | have f1_b := f1 (by clear f9_c1 f9 hK_0_1 f1 f2 f4 f5 f6 f7; omega) | skip); (first | have f2_b := f2 (by clear f9_c1 f9 hK_0_1 f1 f2 f4 f5 f6 f7; omega) | skip); (first | have f4_b := f4 (by clear f9_c1 f9 hK_0_1 f1 f2 f4 f5 f6 f7; omega) | skip); (first | have f5_b := f5 (by clear f9_c1 f9 hK_0_1 f1 f2 f4 f5 f6 f7; omega) | skip); (first | have f6_b := f6 (by clear f9_c1 f9 hK_0_1 f1 f2 f4 f5 f6 f7; omega) | skip); (first | have f7_b := f7 (by clear f9_c1 f9 hK_0_1 f1 f2 f4 f5 f6 f7; omega) | skip); (first | have f1_d := f1 (by with_reducible assumption) | skip); (first | have f2_d := f2 (by with_reducible assumption) | skip); (first | have f4_d := f4 (by with_reducible assumption) | skip); (first | have f5_d := f5 (by with_reducible assumption) | skip); (first | have f6_d := f6 (by with_reducible assumption) | skip); (first | have f7_d := f7 (by with_reducible assumption) | skip); (try and_intros) <;> first | with_reducible assumption | (clear f9_c1 f9 hK_0_1 f1 f2 f4 f5 f6 f7; omega)) | omega
set_option maxHeartbeats 4000000 in
theorem vc_Mo_next_17_1 (x1 : Int) (x4 : Int) (x5 : Int) (tape_0 : Int → Int) (limit_0 : Int) (pos_0 : Int) (from_0 : Int) (place_0 : Int) (k1 : 0 ≤ x1 ∧ x1 ≤ 2000) (k4 : 0 ≤ x4 ∧ x4 ≤ 1999) (k5 : (-1) ≤ x5 ∧ x5 ≤ (-1)) (g3 : x4 = pos_0) (f6 : ((x4 + 1) ≤ limit_0) → (x5 = (tape_0 (x4) % 256))) (f7 : (limit_0 ≤ x4) → (x5 = (-1))) (f9 : (from_0 ≤ pos_0) ∧ (((from_0 + 1) ≤ pos_0) ∨ ((pos_0 = from_0) ∧ (((from_0 + 1) ≤ limit_0) ∧ (((65 ≤ (tape_0 (from_0) % 256)) ∧ ((tape_0 (from_0) % 256) ≤ 90)) ∨ ((97 ≤ (tape_0 (from_0) % 256)) ∧ ((tape_0 (from_0) % 256) ≤ 122))))))) (f10 : ZXL (limit_0) (pos_0) (place_0) (from_0) (tape_0) (x1)) (kz_0_10 : 0 ≤ limit_0 ∧ limit_0 ≤ 2000) (kz_0_11 : 0 ≤ pos_0 ∧ pos_0 ≤ 2000) (kz_0_13 : 0 ≤ place_0 ∧ place_0 ≤ 2000) (kz_0_15 : 0 ≤ from_0 ∧ from_0 ≤ 2000) : ZXM (limit_0) (pos_0) (place_0) (from_0) (tape_0) (x1) := by
  first | subst g3 | skip
  exact zxm_mk ‹ZXL _ _ _ _ _ _› (fun q => by omega)
def o_Mo_next_17 : or_T := (147, 11, [(0, (2, 0, 0, [165])), (1, (0, 0, 2000, [])), (2, (2, 0, 0, [165])), (4, (0, 0, 1999, [])), (5, (0, -1, -1, [])), (7, (0, -1, -1, [])), (9, (0, 0, 255, [])), (10, (0, 95, 95, []))], [(7, [9, 10], [1]), (20, [4, 2, 9], [50, 1, 1, 1010, 1001, 4, 11, 0, 6, 4, 2, 1, 0, 0, 1, 2, 1, 10, 1, 2, 1, 2, 9, 5, 3, 1, 1, 1, 0, 0, 256]), (20, [2, 4, 9], [50, 1, 0, 10, 4, 7, 0, 3, 2, 0, 10, 1, 1, 1, 2, 1, 2, 0, -1]), (9, [4, 2], [11]), (20, [4, 2, 7], [50, 1, 1, 1010, 1001, 4, 11, 0, 6, 4, 2, 1, 0, 0, 1, 2, 1, 10, 1, 2, 1, 2, 9, 5, 3, 1, 1, 1, 0, 0, 256]), (20, [2, 4, 7], [50, 1, 0, 10, 4, 7, 0, 3, 2, 0, 10, 1, 1, 1, 2, 1, 2, 0, -1]), (20, [4, 2, 5], [50, 1, 1, 1010, 1001, 4, 11, 0, 6, 4, 2, 1, 0, 0, 1, 2, 1, 10, 1, 2, 1, 2, 9, 5, 3, 1, 1, 1, 0, 0, 256]), (20, [2, 4, 5], [50, 1, 0, 10, 4, 7, 0, 3, 2, 0, 10, 1, 1, 1, 2, 1, 2, 0, -1]), (20, [1, 2], [30, 0, 1, 0, 0, -1, 1, 15]), (20, [2], [50, 3, 1, 15, 11, 10, 1, 2, 8, 0, 3, 2, 0, 15, 2, 0, 11, 3, 12, 0, 7, 4, 3, 2, 0, 15, 0, 1, 2, 0, 11, 2, 8, 1, 3, 2, 0, 11, 2, 0, 15, 2, 12, 0, 7, 4, 3, 2, 0, 15, 0, 1, 2, 0, 10, 3, 30, 2, 14, 0, 2, 0, 65, 9, 6, 3, 0, 1, 2, 0, 15, 0, 256, 0, 10, 9, 6, 3, 0, 1, 2, 0, 15, 0, 256, 0, 90, 2, 14, 0, 2, 0, 97, 9, 6, 3, 0, 1, 2, 0, 15, 0, 256, 0, 10, 9, 6, 3, 0, 1, 2, 0, 15, 0, 256, 0, 122]), (20, [2, 1], [60, 4, 1, 951, 10, 11, 13, 15, 1]), (24, [0, 2], [])], [], [], [(20, [2], [50, 2, 0, 15, 11, 0, 7, 4, 3, 2, 0, 15, 0, 1, 2, 0, 11]), (20, [2, 1], [60, 4, 1, 953, 10, 11, 13, 15, 1])], [], [])
theorem oo_Mo_next_17 {kA : Nat → ClassId} : or_ok PRD kA GG o_Mo_next_17 := by
  refine or_mk fun A ta ws vs hD hth hl => ?_
  intro t0 r0 t1 k1 t2 r2 t4 k4 t5 k5 t7 k7 t9 k9 t10 k10 f0 f1 f2 f3 f4 f5 f6 f7 f8 f9 f10 f11
  replace f1 := shm_541 f1
  replace f2 := shm_542 f2
  replace f3 := shm_116 f3
  replace f4 := shm_541 f4
  replace f5 := shm_542 f5
  replace f6 := shm_541 f6
  replace f7 := shm_542 f7
  replace f9 := shm_1444 f9
  replace f10 := shm_1445 f10
  replace f11 := shm_5 f11
  have q2 : n_v vs 2 = n_v vs 0 := f11.symm
  simp only [q2] at f1 f2 f3 f4 f5 f6 f7 f9 f10
  have cr_0_1 := fdq_39 hD hth r0
  have g3 : v_iv (n_v vs 4) = w_fi ws (n_v vs 0) 11 := congrArg v_iv f3
  have hK_0_1 := elq_7 hD hth cr_0_1
  have kz_0_10 := fdq_43 hD hth r0
  have kz_0_11 := fdq_237 hD hth r0
  have kz_0_13 := fdq_238 hD hth r0
  have kz_0_15 := fdq_239 hD hth r0
  have nf0 : fc_1 PRD (20, [2], [50, 2, 0, 15, 11, 0, 7, 4, 3, 2, 0, 15, 0, 1, 2, 0, 11]) ws (vs) := by
    refine ⟨nf_in hl rfl, sgq_1446 ?_⟩
    · show (w_fi ws (n_v vs 2) 15 + 1) ≤ w_fi ws (n_v vs 2) 11
      rw [q2]
      exact vc_Mo_next_17_0 (v_iv (n_v vs 4)) (v_iv (n_v vs 5)) (v_iv (n_v vs 7)) (v_iv (n_v vs 9)) (w_ei ws (w_ar ws (n_v vs 0) 1)) (w_fi ws (n_v vs 0) 10) (w_fi ws (n_v vs 0) 11) (w_fi ws (n_v vs 0) 15) k4 k5 k7 k9 f1 f2 g3 f4 f5 f6 f7 f9 hK_0_1 kz_0_10 kz_0_11 kz_0_15
  have nf1 : fc_1 PRD (20, [2, 1], [60, 4, 1, 953, 10, 11, 13, 15, 1]) ws (vs) := by
    refine ⟨nf_in hl rfl, sgq_1447 ?_⟩
    · show ZXM (w_fi ws (n_v vs 2) 10) (w_fi ws (n_v vs 2) 11) (w_fi ws (n_v vs 2) 13) (w_fi ws (n_v vs 2) 15) (w_ei ws (w_ar ws (n_v vs 2) 1)) (v_iv (n_v vs 1))
      rw [q2]
      exact vc_Mo_next_17_1 (v_iv (n_v vs 1)) (v_iv (n_v vs 4)) (v_iv (n_v vs 5)) (w_ei ws (w_ar ws (n_v vs 0) 1)) (w_fi ws (n_v vs 0) 10) (w_fi ws (n_v vs 0) 11) (w_fi ws (n_v vs 0) 15) (w_fi ws (n_v vs 0) 13) k1 k4 k5 g3 f6 f7 f9 f10 kz_0_10 kz_0_11 kz_0_13 kz_0_15
  refine ⟨(fun _ h => (by cases h)), [], trivial, ?_, (fun _ h => (by cases h))⟩
  rw [List.append_nil]
  exact List.forall_mem_cons.mpr ⟨⟨show (20 : Nat) < 100 from by decide, nf0⟩, List.forall_mem_cons.mpr ⟨⟨show (20 : Nat) < 100 from by decide, nf1⟩, (fun _ h => (by cases h))⟩⟩
set_option maxHeartbeats 4000000 in
theorem vc_Mo_next_18_0 (x1 : Int) (x4 : Int) (x5 : Int) (x7 : Int) (x9 : Int) (tape_0 : Int → Int) (limit_0 : Int) (pos_0 : Int) (from_0 : Int) (place_0 : Int) (k1 : 0 ≤ x1 ∧ x1 ≤ 2000) (k4 : 0 ≤ x4 ∧ x4 ≤ 1999) (k5 : (-1) ≤ x5 ∧ x5 ≤ (-1)) (k7 : (-1) ≤ x7 ∧ x7 ≤ (-1)) (k9 : 95 ≤ x9 ∧ x9 ≤ 95) (f2 : (limit_0 ≤ x4) → (x9 = (-1))) (g3 : x4 = pos_0) (f4 : ((x4 + 1) ≤ limit_0) → (x7 = (tape_0 (x4) % 256))) (f5 : (limit_0 ≤ x4) → (x7 = (-1))) (f6 : ((x4 + 1) ≤ limit_0) → (x5 = (tape_0 (x4) % 256))) (f7 : (limit_0 ≤ x4) → (x5 = (-1))) (f9 : (from_0 ≤ pos_0) ∧ (((from_0 + 1) ≤ pos_0) ∨ ((pos_0 = from_0) ∧ (((from_0 + 1) ≤ limit_0) ∧ (((65 ≤ (tape_0 (from_0) % 256)) ∧ ((tape_0 (from_0) % 256) ≤ 90)) ∨ ((97 ≤ (tape_0 (from_0) % 256)) ∧ ((tape_0 (from_0) % 256) ≤ 122))))))) (f10 : ZXL (limit_0) (pos_0) (place_0) (from_0) (tape_0) (x1)) (hK_0_1 : ∀ j : Int, 0 ≤ j → j < 2000 → (-128) ≤ tape_0 j ∧ tape_0 j ≤ 127) (kz_0_10 : 0 ≤ limit_0 ∧ limit_0 ≤ 2000) (kz_0_11 : 0 ≤ pos_0 ∧ pos_0 ≤ 2000) (kz_0_13 : 0 ≤ place_0 ∧ place_0 ≤ 2000) (kz_0_15 : 0 ≤ from_0 ∧ from_0 ≤ 2000) : ZXN (limit_0) (pos_0) (place_0) (from_0) (tape_0) (x1) := by
  first | subst g3 | skip
  exact zxn_mk (by assumption) ‹ZXL _ _ _ _ _ _› (by omega) (by omega)
def o_Mo_next_18 : or_T := (134, 11, [(0, (2, 0, 0, [165])), (1, (0, 0, 2000, [])), (2, (2, 0, 0, [165])), (4, (0, 0, 1999, [])), (5, (0, -1, -1, [])), (7, (0, -1, -1, [])), (9, (0, 95, 95, [])), (10, (0, 95, 95, []))], [(7, [9, 10], [0]), (20, [4, 2, 9], [50, 1, 1, 1010, 1001, 4, 11, 0, 6, 4, 2, 1, 0, 0, 1, 2, 1, 10, 1, 2, 1, 2, 9, 5, 3, 1, 1, 1, 0, 0, 256]), (20, [2, 4, 9], [50, 1, 0, 10, 4, 7, 0, 3, 2, 0, 10, 1, 1, 1, 2, 1, 2, 0, -1]), (9, [4, 2], [11]), (20, [4, 2, 7], [50, 1, 1, 1010, 1001, 4, 11, 0, 6, 4, 2, 1, 0, 0, 1, 2, 1, 10, 1, 2, 1, 2, 9, 5, 3, 1, 1, 1, 0, 0, 256]), (20, [2, 4, 7], [50, 1, 0, 10, 4, 7, 0, 3, 2, 0, 10, 1, 1, 1, 2, 1, 2, 0, -1]), (20, [4, 2, 5], [50, 1, 1, 1010, 1001, 4, 11, 0, 6, 4, 2, 1, 0, 0, 1, 2, 1, 10, 1, 2, 1, 2, 9, 5, 3, 1, 1, 1, 0, 0, 256]), (20, [2, 4, 5], [50, 1, 0, 10, 4, 7, 0, 3, 2, 0, 10, 1, 1, 1, 2, 1, 2, 0, -1]), (20, [1, 2], [30, 0, 1, 0, 0, -1, 1, 15]), (20, [2], [50, 3, 1, 15, 11, 10, 1, 2, 8, 0, 3, 2, 0, 15, 2, 0, 11, 3, 12, 0, 7, 4, 3, 2, 0, 15, 0, 1, 2, 0, 11, 2, 8, 1, 3, 2, 0, 11, 2, 0, 15, 2, 12, 0, 7, 4, 3, 2, 0, 15, 0, 1, 2, 0, 10, 3, 30, 2, 14, 0, 2, 0, 65, 9, 6, 3, 0, 1, 2, 0, 15, 0, 256, 0, 10, 9, 6, 3, 0, 1, 2, 0, 15, 0, 256, 0, 90, 2, 14, 0, 2, 0, 97, 9, 6, 3, 0, 1, 2, 0, 15, 0, 256, 0, 10, 9, 6, 3, 0, 1, 2, 0, 15, 0, 256, 0, 122]), (20, [2, 1], [60, 4, 1, 951, 10, 11, 13, 15, 1]), (24, [0, 2], [])], [], [], [(20, [2, 1], [60, 4, 1, 952, 10, 11, 13, 15, 1])], [], [])
theorem oo_Mo_next_18 {kA : Nat → ClassId} : or_ok PRD kA GG o_Mo_next_18 := by
  refine or_mk fun A ta ws vs hD hth hl => ?_
  intro t0 r0 t1 k1 t2 r2 t4 k4 t5 k5 t7 k7 t9 k9 t10 k10 f0 f1 f2 f3 f4 f5 f6 f7 f8 f9 f10 f11
  replace f2 := shm_542 f2
  replace f3 := shm_116 f3
  replace f4 := shm_541 f4
  replace f5 := shm_542 f5
  replace f6 := shm_541 f6
  replace f7 := shm_542 f7
  replace f9 := shm_1444 f9
  replace f10 := shm_1445 f10
  replace f11 := shm_5 f11
  have q2 : n_v vs 2 = n_v vs 0 := f11.symm
  simp only [q2] at f2 f3 f4 f5 f6 f7 f9 f10
  have cr_0_1 := fdq_39 hD hth r0
  have g3 : v_iv (n_v vs 4) = w_fi ws (n_v vs 0) 11 := congrArg v_iv f3
  have hK_0_1 := elq_7 hD hth cr_0_1
  have kz_0_10 := fdq_43 hD hth r0
  have kz_0_11 := fdq_237 hD hth r0
  have kz_0_13 := fdq_238 hD hth r0
  have kz_0_15 := fdq_239 hD hth r0
  have nf0 : fc_1 PRD (20, [2, 1], [60, 4, 1, 952, 10, 11, 13, 15, 1]) ws (vs) := by
    refine ⟨nf_in hl rfl, sgq_1448 ?_⟩
    · show ZXN (w_fi ws (n_v vs 2) 10) (w_fi ws (n_v vs 2) 11) (w_fi ws (n_v vs 2) 13) (w_fi ws (n_v vs 2) 15) (w_ei ws (w_ar ws (n_v vs 2) 1)) (v_iv (n_v vs 1))
      rw [q2]
      exact vc_Mo_next_18_0 (v_iv (n_v vs 1)) (v_iv (n_v vs 4)) (v_iv (n_v vs 5)) (v_iv (n_v vs 7)) (v_iv (n_v vs 9)) (w_ei ws (w_ar ws (n_v vs 0) 1)) (w_fi ws (n_v vs 0) 10) (w_fi ws (n_v vs 0) 11) (w_fi ws (n_v vs 0) 15) (w_fi ws (n_v vs 0) 13) k1 k4 k5 k7 k9 f2 g3 f4 f5 f6 f7 f9 f10 hK_0_1 kz_0_10 kz_0_11 kz_0_13 kz_0_15
  refine ⟨(fun _ h => (by cases h)), [], trivial, ?_, (fun _ h => (by cases h))⟩
  rw [List.append_nil]
  exact List.forall_mem_cons.mpr ⟨⟨show (20 : Nat) < 100 from by decide, nf0⟩, (fun _ h => (by cases h))⟩
set_option maxHeartbeats 4000000 in
theorem vc_Mo_next_19_0 (x4 : Int) (x5 : Int) (x7 : Int) (x9 : Int) (tape_0 : Int → Int) (limit_0 : Int) (pos_0 : Int) (from_0 : Int) (k4 : 0 ≤ x4 ∧ x4 ≤ 1999) (k5 : (-1) ≤ x5 ∧ x5 ≤ (-1)) (k7 : 0 ≤ x7 ∧ x7 ≤ 47) (k9 : (-1) ≤ x9 ∧ x9 ≤ (-1)) (f1 : ((x4 + 1) ≤ limit_0) → (x9 = (tape_0 (x4) % 256))) (f2 : (limit_0 ≤ x4) → (x9 = (-1))) (g3 : x4 = pos_0) (f4 : ((x4 + 1) ≤ limit_0) → (x7 = (tape_0 (x4) % 256))) (f5 : (limit_0 ≤ x4) → (x7 = (-1))) (f6 : ((x4 + 1) ≤ limit_0) → (x5 = (tape_0 (x4) % 256))) (f7 : (limit_0 ≤ x4) → (x5 = (-1))) (f9 : (from_0 ≤ pos_0) ∧ (((from_0 + 1) ≤ pos_0) ∨ ((pos_0 = from_0) ∧ (((from_0 + 1) ≤ limit_0) ∧ (((65 ≤ (tape_0 (from_0) % 256)) ∧ ((tape_0 (from_0) % 256) ≤ 90)) ∨ ((97 ≤ (tape_0 (from_0) % 256)) ∧ ((tape_0 (from_0) % 256) ≤ 122))))))) (hK_0_1 : ∀ j : Int, 0 ≤ j → j < 2000 → (-128) ≤ tape_0 j ∧ tape_0 j ≤ 127) (kz_0_10 : 0 ≤ limit_0 ∧ limit_0 ≤ 2000) (kz_0_11 : 0 ≤ pos_0 ∧ pos_0 ≤ 2000) (kz_0_15 : 0 ≤ from_0 ∧ from_0 ≤ 2000) : (from_0 + 1) ≤ pos_0 := by
  first | with_reducible assumption | ((have f9_c0 := f9.1); (have f9_c1 := f9.2); (try and_intros) <;> first | with_reducible assumption | (clear f9_c1 f9 hK_0_1 f1 f2 f4 f5 f6 f7; omega)) | ((have f9_c0 := f9.1); (have f9_c1 := f9.2); (first | have f1_b := f1 (by clear f9_c1 f9 hK_0_1 f1 f2 f4 f5 f6 f7; omega) | skip); (first | have f2_b := f2 (by clear f9_c1 f9 hK_0_1 f1 f2 f4 f5 f6 f7; omega) | skip); (first | have f4_b := f4 (by clear f9_c1 f9 hK_0_1 f1 f2 f4 f5 f6 f7; omega) | skip); (first | have f5_b := f5 (by clear f9_c1 f9 hK_0_1 f1 f2 f4 f5 f6 f7; omega) | skip); (first | have f6_b := f6 (by clear f9_c1 f9 hK_0_1 f1 f2 f4 f5 f6 f7; omega) | skip); (first | have f7_b := f7 (by clear f9_c1 f9 hK_0_1 f1 f2 f4 f5 f6 f7; omega) | skip); (first | have f1_d := f1 (by with_reducible assumption) | skip); (first | have f2_d := f2 (by with_reducible assumption) | skip); (first | have f4_d := f4 (by with_reducible assumption) | skip); (first | have f5_d := f5 (by with_reducible assumption) | skip); (first | have f6_d := f6 (by with_reducible assumption) | skip); (first | have f7_d := f7 (by with_reducible assumption) | skip); (try and_intros) <;> first | with_reducible assumption | (clear f9_c1 f9 hK_0_1 f1 f2 f4 f5 f6 f7; omega)) | omega
set_option maxHeartbeats 4000000 in
theorem vc_Mo_next_19_1 (x1 : Int) (x4 : Int) (x5 : Int) (tape_0 : Int → Int) (limit_0 : Int) (pos_0 : Int) (from_0 : Int) (place_0 : Int) (k1 : 0 ≤ x1 ∧ x1 ≤ 2000) (k4 : 0 ≤ x4 ∧ x4 ≤ 1999) (k5 : (-1) ≤ x5 ∧ x5 ≤ (-1)) (g3 : x4 = pos_0) (f6 : ((x4 + 1) ≤ limit_0) → (x5 = (tape_0 (x4) % 256))) (f7 : (limit_0 ≤ x4) → (x5 = (-1))) (f9 : (from_0 ≤ pos_0) ∧ (((from_0 + 1) ≤ pos_0) ∨ ((pos_0 = from_0) ∧ (((from_0 + 1) ≤ limit_0) ∧ (((65 ≤ (tape_0 (from_0) % 256)) ∧ ((tape_0 (from_0) % 256) ≤ 90)) ∨ ((97 ≤ (tape_0 (from_0) % 256)) ∧ ((tape_0 (from_0) % 256) ≤ 122))))))) (f10 : ZXL (limit_0) (pos_0) (place_0) (from_0) (tape_0) (x1)) (kz_0_10 : 0 ≤ limit_0 ∧ limit_0 ≤ 2000) (kz_0_11 : 0 ≤ pos_0 ∧ pos_0 ≤ 2000) (kz_0_13 : 0 ≤ place_0 ∧ place_0 ≤ 2000) (kz_0_15 : 0 ≤ from_0 ∧ from_0 ≤ 2000) : ZXM (limit_0) (pos_0) (place_0) (from_0) (tape_0) (x1) := by
  first | subst g3 | skip
  exact zxm_mk ‹ZXL _ _ _ _ _ _› (fun q => by omega)
def o_Mo_next_19 : or_T := (147, 11, [(0, (2, 0, 0, [165])), (1, (0, 0, 2000, [])), (2, (2, 0, 0, [165])), (4, (0, 0, 1999, [])), (5, (0, -1, -1, [])), (7, (0, 0, 47, [])), (9, (0, -1, -1, [])), (10, (0, 95, 95, []))], [(7, [9, 10], [1]), (20, [4, 2, 9], [50, 1, 1, 1010, 1001, 4, 11, 0, 6, 4, 2, 1, 0, 0, 1, 2, 1, 10, 1, 2, 1, 2, 9, 5, 3, 1, 1, 1, 0, 0, 256]), (20, [2, 4, 9], [50, 1, 0, 10, 4, 7, 0, 3, 2, 0, 10, 1, 1, 1, 2, 1, 2, 0, -1]), (9, [4, 2], [11]), (20, [4, 2, 7], [50, 1, 1, 1010, 1001, 4, 11, 0, 6, 4, 2, 1, 0, 0, 1, 2, 1, 10, 1, 2, 1, 2, 9, 5, 3, 1, 1, 1, 0, 0, 256]), (20, [2, 4, 7], [50, 1, 0, 10, 4, 7, 0, 3, 2, 0, 10, 1, 1, 1, 2, 1, 2, 0, -1]), (20, [4, 2, 5], [50, 1, 1, 1010, 1001, 4, 11, 0, 6, 4, 2, 1, 0, 0, 1, 2, 1, 10, 1, 2, 1, 2, 9, 5, 3, 1, 1, 1, 0, 0, 256]), (20, [2, 4, 5], [50, 1, 0, 10, 4, 7, 0, 3, 2, 0, 10, 1, 1, 1, 2, 1, 2, 0, -1]), (20, [1, 2], [30, 0, 1, 0, 0, -1, 1, 15]), (20, [2], [50, 3, 1, 15, 11, 10, 1, 2, 8, 0, 3, 2, 0, 15, 2, 0, 11, 3, 12, 0, 7, 4, 3, 2, 0, 15, 0, 1, 2, 0, 11, 2, 8, 1, 3, 2, 0, 11, 2, 0, 15, 2, 12, 0, 7, 4, 3, 2, 0, 15, 0, 1, 2, 0, 10, 3, 30, 2, 14, 0, 2, 0, 65, 9, 6, 3, 0, 1, 2, 0, 15, 0, 256, 0, 10, 9, 6, 3, 0, 1, 2, 0, 15, 0, 256, 0, 90, 2, 14, 0, 2, 0, 97, 9, 6, 3, 0, 1, 2, 0, 15, 0, 256, 0, 10, 9, 6, 3, 0, 1, 2, 0, 15, 0, 256, 0, 122]), (20, [2, 1], [60, 4, 1, 951, 10, 11, 13, 15, 1]), (24, [0, 2], [])], [], [], [(20, [2], [50, 2, 0, 15, 11, 0, 7, 4, 3, 2, 0, 15, 0, 1, 2, 0, 11]), (20, [2, 1], [60, 4, 1, 953, 10, 11, 13, 15, 1])], [], [])
theorem oo_Mo_next_19 {kA : Nat → ClassId} : or_ok PRD kA GG o_Mo_next_19 := by
  refine or_mk fun A ta ws vs hD hth hl => ?_
  intro t0 r0 t1 k1 t2 r2 t4 k4 t5 k5 t7 k7 t9 k9 t10 k10 f0 f1 f2 f3 f4 f5 f6 f7 f8 f9 f10 f11
  replace f1 := shm_541 f1
  replace f2 := shm_542 f2
  replace f3 := shm_116 f3
  replace f4 := shm_541 f4
  replace f5 := shm_542 f5
  replace f6 := shm_541 f6
  replace f7 := shm_542 f7
  replace f9 := shm_1444 f9
  replace f10 := shm_1445 f10
  replace f11 := shm_5 f11
  have q2 : n_v vs 2 = n_v vs 0 := f11.symm
  simp only [q2] at f1 f2 f3 f4 f5 f6 f7 f9 f10
  have cr_0_1 := fdq_39 hD hth r0
  have g3 : v_iv (n_v vs 4) = w_fi ws (n_v vs 0) 11 := congrArg v_iv f3
  have hK_0_1 := elq_7 hD hth cr_0_1
  have kz_0_10 := fdq_43 hD hth r0
  have kz_0_11 := fdq_237 hD hth r0
  have kz_0_13 := fdq_238 hD hth r0
  have kz_0_15 := fdq_239 hD hth r0
  have nf0 : fc_1 PRD (20, [2], [50, 2, 0, 15, 11, 0, 7, 4, 3, 2, 0, 15, 0, 1, 2, 0, 11]) ws (vs) := by
    refine ⟨nf_in hl rfl, sgq_1446 ?_⟩
    · show (w_fi ws (n_v vs 2) 15 + 1) ≤ w_fi ws (n_v vs 2) 11
      rw [q2]
      exact vc_Mo_next_19_0 (v_iv (n_v vs 4)) (v_iv (n_v vs 5)) (v_iv (n_v vs 7)) (v_iv (n_v vs 9)) (w_ei ws (w_ar ws (n_v vs 0) 1)) (w_fi ws (n_v vs 0) 10) (w_fi ws (n_v vs 0) 11) (w_fi ws (n_v vs 0) 15) k4 k5 k7 k9 f1 f2 g3 f4 f5 f6 f7 f9 hK_0_1 kz_0_10 kz_0_11 kz_0_15
  have nf1 : fc_1 PRD (20, [2, 1], [60, 4, 1, 953, 10, 11, 13, 15, 1]) ws (vs) := by
    refine ⟨nf_in hl rfl, sgq_1447 ?_⟩
    · show ZXM (w_fi ws (n_v vs 2) 10) (w_fi ws (n_v vs 2) 11) (w_fi ws (n_v vs 2) 13) (w_fi ws (n_v vs 2) 15) (w_ei ws (w_ar ws (n_v vs 2) 1)) (v_iv (n_v vs 1))
      rw [q2]
      exact vc_Mo_next_19_1 (v_iv (n_v vs 1)) (v_iv (n_v vs 4)) (v_iv (n_v vs 5)) (w_ei ws (w_ar ws (n_v vs 0) 1)) (w_fi ws (n_v vs 0) 10) (w_fi ws (n_v vs 0) 11) (w_fi ws (n_v vs 0) 15) (w_fi ws (n_v vs 0) 13) k1 k4 k5 g3 f6 f7 f9 f10 kz_0_10 kz_0_11 kz_0_13 kz_0_15
  refine ⟨(fun _ h => (by cases h)), [], trivial, ?_, (fun _ h => (by cases h))⟩
  rw [List.append_nil]
  exact List.forall_mem_cons.mpr ⟨⟨show (20 : Nat) < 100 from by decide, nf0⟩, List.forall_mem_cons.mpr ⟨⟨show (20 : Nat) < 100 from by decide, nf1⟩, (fun _ h => (by cases h))⟩⟩
set_option maxHeartbeats 4000000 in
theorem vc_Mo_next_20_0 (x4 : Int) (x5 : Int) (x7 : Int) (x9 : Int) (tape_0 : Int → Int) (limit_0 : Int) (pos_0 : Int) (from_0 : Int) (k4 : 0 ≤ x4 ∧ x4 ≤ 1999) (k5 : (-1) ≤ x5 ∧ x5 ≤ (-1)) (k7 : 0 ≤ x7 ∧ x7 ≤ 47) (k9 : 0 ≤ x9 ∧ x9 ≤ 255) (f1 : ((x4 + 1) ≤ limit_0) → (x9 = (tape_0 (x4) % 256))) (f2 : (limit_0 ≤ x4) → (x9 = (-1))) (g3 : x4 = pos_0) (f4 : ((x4 + 1) ≤ limit_0) → (x7 = (tape_0 (x4) % 256))) (f5 : (limit_0 ≤ x4) → (x7 = (-1))) (f6 : ((x4 + 1) ≤ limit_0) → (x5 = (tape_0 (x4) % 256))) (f7 : (limit_0 ≤ x4) → (x5 = (-1))) (f9 : (from_0 ≤ pos_0) ∧ (((from_0 + 1) ≤ pos_0) ∨ ((pos_0 = from_0) ∧ (((from_0 + 1) ≤ limit_0) ∧ (((65 ≤ (tape_0 (from_0) % 256)) ∧ ((tape_0 (from_0) % 256) ≤ 90)) ∨ ((97 ≤ (tape_0 (from_0) % 256)) ∧ ((tape_0 (from_0) % 256) ≤ 122))))))) (hK_0_1 : ∀ j : Int, 0 ≤ j → j < 2000 → (-128) ≤ tape_0 j ∧ tape_0 j ≤ 127) (kz_0_10 : 0 ≤ limit_0 ∧ limit_0 ≤ 2000) (kz_0_11 : 0 ≤ pos_0 ∧ pos_0 ≤ 2000) (kz_0_15 : 0 ≤ from_0 ∧ from_0 ≤ 2000) : (from_0 + 1) ≤ pos_0 := by
  first | with_reducible assumption | ((have f9_c0 := f9.1); (have f9_c1 := f9.2); (try and_intros) <;> first | with_reducible assumption | (clear f9_c1 f9 hK_0_1 f1 f2 f4 f5 f6 f7; omega)) | ((have f9_c0 := f9.1); (have f9_c1 := f9.2); (first | have f1_b := f1 (by clear f9_c1 f9 hK_0_1 f1 f2 f4 f5 f6 f7; omega) | skip); (first | have f2_b := f2 (by clear f9_c1 f9 hK_0_1 f1 f2 f4 f5 f6 f7; omega) | skip); (first | have f4_b := f4 (by clear f9_c1 f9 hK_0_1 f1 f2 f4 f5 f6 f7; omega) | skip); (first | have f5_b := f5 (by clear f9_c1 f9 hK_0_1 f1 f2 f4 f5 f6 f7; omega) | skip); (first | have f6_b := f6 (by clear f9_c1 f9 hK_0_1 f1 f2 f4 f5 f6 f7; omega) | skip); (first | have f7_b := f7 (by clear f9_c1 f9 hK_0_1 f1 f2 f4 f5 f6 f7; omega) | skip); (first | have f1_d := f1 (by with_reducible assumption) | skip); (first | have f2_d := f2 (by with_reducible assumption) | skip); (first | have f4_d := f4 (by with_reducible assumption) | skip); (first | have f5_d := f5 (by with_reducible assumption) | skip); (first | have f6_d := f6 (by with_reducible assumption) | skip); (first | have f7_d := f7 (by with_reducible assumption) | skip); (try and_intros) <;> first | with_reducible assumption | (clear f9_c1 f9 hK_0_1 f1 f2 f4 f5 f6 f7; omega)) | omega
set_option maxHeartbeats 4000000 in
theorem vc_Mo_next_20_1 (x1 : Int) (x4 : Int) (x5 : Int) (tape_0 : Int → Int) (limit_0 : Int) (pos_0 : Int) (from_0 : Int) (place_0 : Int) (k1 : 0 ≤ x1 ∧ x1 ≤ 2000) (k4 : 0 ≤ x4 ∧ x4 ≤ 1999) (k5 : (-1) ≤ x5 ∧ x5 ≤ (-1)) (g3 : x4 = pos_0) (f6 : ((x4 + 1) ≤ limit_0) → (x5 = (tape_0 (x4) % 256))) (f7 : (limit_0 ≤ x4) → (x5 = (-1))) (f9 : (from_0 ≤ pos_0) ∧ (((from_0 + 1) ≤ pos_0) ∨ ((pos_0 = from_0) ∧ (((from_0 + 1) ≤ limit_0) ∧ (((65 ≤ (tape_0 (from_0) % 256)) ∧ ((tape_0 (from_0) % 256) ≤ 90)) ∨ ((97 ≤ (tape_0 (from_0) % 256)) ∧ ((tape_0 (from_0) % 256) ≤ 122))))))) (f10 : ZXL (limit_0) (pos_0) (place_0) (from_0) (tape_0) (x1)) (kz_0_10 : 0 ≤ limit_0 ∧ limit_0 ≤ 2000) (kz_0_11 : 0 ≤ pos_0 ∧ pos_0 ≤ 2000) (kz_0_13 : 0 ≤ place_0 ∧ place_0 ≤ 2000) (kz_0_15 : 0 ≤ from_0 ∧ from_0 ≤ 2000) : ZXM (limit_0) (pos_0) (place_0) (from_0) (tape_0) (x1) := by
  first | subst g3 | skip
  exact zxm_mk ‹ZXL _ _ _ _ _ _› (fun q => by omega)
def o_Mo_next_20 : or_T := (147, 11, [(0, (2, 0, 0, [165])), (1, (0, 0, 2000, [])), (2, (2, 0, 0, [165])), (4, (0, 0, 1999, [])), (5, (0, -1, -1, [])), (7, (0, 0, 47, [])), (9, (0, 0, 255, [])), (10, (0, 95, 95, []))], [(7, [9, 10], [1]), (20, [4, 2, 9], [50, 1, 1, 1010, 1001, 4, 11, 0, 6, 4, 2, 1, 0, 0, 1, 2, 1, 10, 1, 2, 1, 2, 9, 5, 3, 1, 1, 1, 0, 0, 256]), (20, [2, 4, 9], [50, 1, 0, 10, 4, 7, 0, 3, 2, 0, 10, 1, 1, 1, 2, 1, 2, 0, -1]), (9, [4, 2], [11]), (20, [4, 2, 7], [50, 1, 1, 1010, 1001, 4, 11, 0, 6, 4, 2, 1, 0, 0, 1, 2, 1, 10, 1, 2, 1, 2, 9, 5, 3, 1, 1, 1, 0, 0, 256]), (20, [2, 4, 7], [50, 1, 0, 10, 4, 7, 0, 3, 2, 0, 10, 1, 1, 1, 2, 1, 2, 0, -1]), (20, [4, 2, 5], [50, 1, 1, 1010, 1001, 4, 11, 0, 6, 4, 2, 1, 0, 0, 1, 2, 1, 10, 1, 2, 1, 2, 9, 5, 3, 1, 1, 1, 0, 0, 256]), (20, [2, 4, 5], [50, 1, 0, 10, 4, 7, 0, 3, 2, 0, 10, 1, 1, 1, 2, 1, 2, 0, -1]), (20, [1, 2], [30, 0, 1, 0, 0, -1, 1, 15]), (20, [2], [50, 3, 1, 15, 11, 10, 1, 2, 8, 0, 3, 2, 0, 15, 2, 0, 11, 3, 12, 0, 7, 4, 3, 2, 0, 15, 0, 1, 2, 0, 11, 2, 8, 1, 3, 2, 0, 11, 2, 0, 15, 2, 12, 0, 7, 4, 3, 2, 0, 15, 0, 1, 2, 0, 10, 3, 30, 2, 14, 0, 2, 0, 65, 9, 6, 3, 0, 1, 2, 0, 15, 0, 256, 0, 10, 9, 6, 3, 0, 1, 2, 0, 15, 0, 256, 0, 90, 2, 14, 0, 2, 0, 97, 9, 6, 3, 0, 1, 2, 0, 15, 0, 256, 0, 10, 9, 6, 3, 0, 1, 2, 0, 15, 0, 256, 0, 122]), (20, [2, 1], [60, 4, 1, 951, 10, 11, 13, 15, 1]), (24, [0, 2], [])], [], [], [(20, [2], [50, 2, 0, 15, 11, 0, 7, 4, 3, 2, 0, 15, 0, 1, 2, 0, 11]), (20, [2, 1], [60, 4, 1, 953, 10, 11, 13, 15, 1])], [], [])
theorem oo_Mo_next_20 {kA : Nat → ClassId} : or_ok PRD kA GG o_Mo_next_20 := by
  refine or_mk fun A ta ws vs hD hth hl => ?_
  intro t0 r0 t1 k1 t2 r2 t4 k4 t5 k5 t7 k7 t9 k9 t10 k10 f0 f1 f2 f3 f4 f5 f6 f7 f8 f9 f10 f11
  replace f1 := shm_541 f1
  replace f2 := shm_542 f2
  replace f3 := shm_116 f3
  replace f4 := shm_541 f4
  replace f5 := shm_542 f5
  replace f6 := shm_541 f6
  replace f7 := shm_542 f7
  replace f9 := shm_1444 f9
  replace f10 := shm_1445 f10
  replace f11 := shm_5 f11
  have q2 : n_v vs 2 = n_v vs 0 := f11.symm
  simp only [q2] at f1 f2 f3 f4 f5 f6 f7 f9 f10
  have cr_0_1 := fdq_39 hD hth r0
  have g3 : v_iv (n_v vs 4) = w_fi ws (n_v vs 0) 11 := congrArg v_iv f3
  have hK_0_1 := elq_7 hD hth cr_0_1
  have kz_0_10 := fdq_43 hD hth r0
  have kz_0_11 := fdq_237 hD hth r0
  have kz_0_13 := fdq_238 hD hth r0
  have kz_0_15 := fdq_239 hD hth r0
  have nf0 : fc_1 PRD (20, [2], [50, 2, 0, 15, 11, 0, 7, 4, 3, 2, 0, 15, 0, 1, 2, 0, 11]) ws (vs) := by
    refine ⟨nf_in hl rfl, sgq_1446 ?_⟩
    · show (w_fi ws (n_v vs 2) 15 + 1) ≤ w_fi ws (n_v vs 2) 11
      rw [q2]
      exact vc_Mo_next_20_0 (v_iv (n_v vs 4)) (v_iv (n_v vs 5)) (v_iv (n_v vs 7)) (v_iv (n_v vs 9)) (w_ei ws (w_ar ws (n_v vs 0) 1)) (w_fi ws (n_v vs 0) 10) (w_fi ws (n_v vs 0) 11) (w_fi ws (n_v vs 0) 15) k4 k5 k7 k9 f1 f2 g3 f4 f5 f6 f7 f9 hK_0_1 kz_0_10 kz_0_11 kz_0_15
  have nf1 : fc_1 PRD (20, [2, 1], [60, 4, 1, 953, 10, 11, 13, 15, 1]) ws (vs) := by
    refine ⟨nf_in hl rfl, sgq_1447 ?_⟩
    · show ZXM (w_fi ws (n_v vs 2) 10) (w_fi ws (n_v vs 2) 11) (w_fi ws (n_v vs 2) 13) (w_fi ws (n_v vs 2) 15) (w_ei ws (w_ar ws (n_v vs 2) 1)) (v_iv (n_v vs 1))
      rw [q2]
      exact vc_Mo_next_20_1 (v_iv (n_v vs 1)) (v_iv (n_v vs 4)) (v_iv (n_v vs 5)) (w_ei ws (w_ar ws (n_v vs 0) 1)) (w_fi ws (n_v vs 0) 10) (w_fi ws (n_v vs 0) 11) (w_fi ws (n_v vs 0) 15) (w_fi ws (n_v vs 0) 13) k1 k4 k5 g3 f6 f7 f9 f10 kz_0_10 kz_0_11 kz_0_13 kz_0_15
  refine ⟨(fun _ h => (by cases h)), [], trivial, ?_, (fun _ h => (by cases h))⟩
  rw [List.append_nil]
  exact List.forall_mem_cons.mpr ⟨⟨show (20 : Nat) < 100 from by decide, nf0⟩, List.forall_mem_cons.mpr ⟨⟨show (20 : Nat) < 100 from by decide, nf1⟩, (fun _ h => (by cases h))⟩⟩
set_option maxHeartbeats 4000000 in
theorem vc_Mo_next_21_0 (x1 : Int) (x4 : Int) (x5 : Int) (x7 : Int) (tape_0 : Int → Int) (limit_0 : Int) (pos_0 : Int) (from_0 : Int) (place_0 : Int) (k1 : 0 ≤ x1 ∧ x1 ≤ 2000) (k4 : 0 ≤ x4 ∧ x4 ≤ 1999) (k5 : (-1) ≤ x5 ∧ x5 ≤ (-1)) (k7 : 0 ≤ x7 ∧ x7 ≤ 47) (g3 : x4 = pos_0) (f5 : (limit_0 ≤ x4) → (x7 = (-1))) (f6 : ((x4 + 1) ≤ limit_0) → (x5 = (tape_0 (x4) % 256))) (f7 : (limit_0 ≤ x4) → (x5 = (-1))) (f9 : (from_0 ≤ pos_0) ∧ (((from_0 + 1) ≤ pos_0) ∨ ((pos_0 = from_0) ∧ (((from_0 + 1) ≤ limit_0) ∧ (((65 ≤ (tape_0 (from_0) % 256)) ∧ ((tape_0 (from_0) % 256) ≤ 90)) ∨ ((97 ≤ (tape_0 (from_0) % 256)) ∧ ((tape_0 (from_0) % 256) ≤ 122))))))) (f10 : ZXL (limit_0) (pos_0) (place_0) (from_0) (tape_0) (x1)) (hK_0_1 : ∀ j : Int, 0 ≤ j → j < 2000 → (-128) ≤ tape_0 j ∧ tape_0 j ≤ 127) (kz_0_10 : 0 ≤ limit_0 ∧ limit_0 ≤ 2000) (kz_0_11 : 0 ≤ pos_0 ∧ pos_0 ≤ 2000) (kz_0_13 : 0 ≤ place_0 ∧ place_0 ≤ 2000) (kz_0_15 : 0 ≤ from_0 ∧ from_0 ≤ 2000) : ZXN (limit_0) (pos_0) (place_0) (from_0) (tape_0) (x1) := by
  first | subst g3 | skip
  exact zxn_mk (by assumption) ‹ZXL _ _ _ _ _ _› (by omega) (by omega)
def o_Mo_next_21 : or_T := (134, 11, [(0, (2, 0, 0, [165])), (1, (0, 0, 2000, [])), (2, (2, 0, 0, [165])), (4, (0, 0, 1999, [])), (5, (0, -1, -1, [])), (7, (0, 0, 47, [])), (9, (0, 95, 95, [])), (10, (0, 95, 95, []))], [(7, [9, 10], [0]), (20, [4, 2, 9], [50, 1, 1, 1010, 1001, 4, 11, 0, 6, 4, 2, 1, 0, 0, 1, 2, 1, 10, 1, 2, 1, 2, 9, 5, 3, 1, 1, 1, 0, 0, 256]), (20, [2, 4, 9], [50, 1, 0, 10, 4, 7, 0, 3, 2, 0, 10, 1, 1, 1, 2, 1, 2, 0, -1]), (9, [4, 2], [11]), (20, [4, 2, 7], [50, 1, 1, 1010, 1001, 4, 11, 0, 6, 4, 2, 1, 0, 0, 1, 2, 1, 10, 1, 2, 1, 2, 9, 5, 3, 1, 1, 1, 0, 0, 256]), (20, [2, 4, 7], [50, 1, 0, 10, 4, 7, 0, 3, 2, 0, 10, 1, 1, 1, 2, 1, 2, 0, -1]), (20, [4, 2, 5], [50, 1, 1, 1010, 1001, 4, 11, 0, 6, 4, 2, 1, 0, 0, 1, 2, 1, 10, 1, 2, 1, 2, 9, 5, 3, 1, 1, 1, 0, 0, 256]), (20, [2, 4, 5], [50, 1, 0, 10, 4, 7, 0, 3, 2, 0, 10, 1, 1, 1, 2, 1, 2, 0, -1]), (20, [1, 2], [30, 0, 1, 0, 0, -1, 1, 15]), (20, [2], [50, 3, 1, 15, 11, 10, 1, 2, 8, 0, 3, 2, 0, 15, 2, 0, 11, 3, 12, 0, 7, 4, 3, 2, 0, 15, 0, 1, 2, 0, 11, 2, 8, 1, 3, 2, 0, 11, 2, 0, 15, 2, 12, 0, 7, 4, 3, 2, 0, 15, 0, 1, 2, 0, 10, 3, 30, 2, 14, 0, 2, 0, 65, 9, 6, 3, 0, 1, 2, 0, 15, 0, 256, 0, 10, 9, 6, 3, 0, 1, 2, 0, 15, 0, 256, 0, 90, 2, 14, 0, 2, 0, 97, 9, 6, 3, 0, 1, 2, 0, 15, 0, 256, 0, 10, 9, 6, 3, 0, 1, 2, 0, 15, 0, 256, 0, 122]), (20, [2, 1], [60, 4, 1, 951, 10, 11, 13, 15, 1]), (24, [0, 2], [])], [], [], [(20, [2, 1], [60, 4, 1, 952, 10, 11, 13, 15, 1])], [], [])
theorem oo_Mo_next_21 {kA : Nat → ClassId} : or_ok PRD kA GG o_Mo_next_21 := by
  refine or_mk fun A ta ws vs hD hth hl => ?_
  intro t0 r0 t1 k1 t2 r2 t4 k4 t5 k5 t7 k7 t9 k9 t10 k10 f0 f1 f2 f3 f4 f5 f6 f7 f8 f9 f10 f11
  replace f3 := shm_116 f3
  replace f5 := shm_542 f5
  replace f6 := shm_541 f6
  replace f7 := shm_542 f7
  replace f9 := shm_1444 f9
  replace f10 := shm_1445 f10
  replace f11 := shm_5 f11
  have q2 : n_v vs 2 = n_v vs 0 := f11.symm
  simp only [q2] at f3 f5 f6 f7 f9 f10
  have cr_0_1 := fdq_39 hD hth r0
  have g3 : v_iv (n_v vs 4) = w_fi ws (n_v vs 0) 11 := congrArg v_iv f3
  have hK_0_1 := elq_7 hD hth cr_0_1
  have kz_0_10 := fdq_43 hD hth r0
  have kz_0_11 := fdq_237 hD hth r0
  have kz_0_13 := fdq_238 hD hth r0
  have kz_0_15 := fdq_239 hD hth r0
  have nf0 : fc_1 PRD (20, [2, 1], [60, 4, 1, 952, 10, 11, 13, 15, 1]) ws (vs) := by
    refine ⟨nf_in hl rfl, sgq_1448 ?_⟩
    · show ZXN (w_fi ws (n_v vs 2) 10) (w_fi ws (n_v vs 2) 11) (w_fi ws (n_v vs 2) 13) (w_fi ws (n_v vs 2) 15) (w_ei ws (w_ar ws (n_v vs 2) 1)) (v_iv (n_v vs 1))
      rw [q2]
      exact vc_Mo_next_21_0 (v_iv (n_v vs 1)) (v_iv (n_v vs 4)) (v_iv (n_v vs 5)) (v_iv (n_v vs 7)) (w_ei ws (w_ar ws (n_v vs 0) 1)) (w_fi ws (n_v vs 0) 10) (w_fi ws (n_v vs 0) 11) (w_fi ws (n_v vs 0) 15) (w_fi ws (n_v vs 0) 13) k1 k4 k5 k7 g3 f5 f6 f7 f9 f10 hK_0_1 kz_0_10 kz_0_11 kz_0_13 kz_0_15
  refine ⟨(fun _ h => (by cases h)), [], trivial, ?_, (fun _ h => (by cases h))⟩
  rw [List.append_nil]
  exact List.forall_mem_cons.mpr ⟨⟨show (20 : Nat) < 100 from by decide, nf0⟩, (fun _ h => (by cases h))⟩
set_option maxHeartbeats 4000000 in
theorem vc_Mo_next_22_0 (x4 : Int) (x5 : Int) (x7 : Int) (x9 : Int) (tape_0 : Int → Int) (limit_0 : Int) (pos_0 : Int) (from_0 : Int) (k4 : 0 ≤ x4 ∧ x4 ≤ 1999) (k5 : (-1) ≤ x5 ∧ x5 ≤ (-1)) (k7 : 58 ≤ x7 ∧ x7 ≤ 255) (k9 : (-1) ≤ x9 ∧ x9 ≤ (-1)) (f1 : ((x4 + 1) ≤ limit_0) → (x9 = (tape_0 (x4) % 256))) (f2 : (limit_0 ≤ x4) → (x9 = (-1))) (g3 : x4 = pos_0) (f4 : ((x4 + 1) ≤ limit_0) → (x7 = (tape_0 (x4) % 256))) (f5 : (limit_0 ≤ x4) → (x7 = (-1))) (f6 : ((x4 + 1) ≤ limit_0) → (x5 = (tape_0 (x4) % 256))) (f7 : (limit_0 ≤ x4) → (x5 = (-1))) (f9 : (from_0 ≤ pos_0) ∧ (((from_0 + 1) ≤ pos_0) ∨ ((pos_0 = from_0) ∧ (((from_0 + 1) ≤ limit_0) ∧ (((65 ≤ (tape_0 (from_0) % 256)) ∧ ((tape_0 (from_0) % 256) ≤ 90)) ∨ ((97 ≤ (tape_0 (from_0) % 256)) ∧ ((tape_0 (from_0) % 256) ≤ 122))))))) (hK_0_1 : ∀ j : Int, 0 ≤ j → j < 2000 → (-128) ≤ tape_0 j ∧ tape_0 j ≤ 127) (kz_0_10 : 0 ≤ limit_0 ∧ limit_0 ≤ 2000) (kz_0_11 : 0 ≤ pos_0 ∧ pos_0 ≤ 2000) (kz_0_15 : 0 ≤ from_0 ∧ from_0 ≤ 2000) : (from_0 + 1) ≤ pos_0 := by
  first | with_reducible assumption | ((have f9_c0 := f9.1); (have f9_c1 := f9.2); (try and_intros) <;> first | with_reducible assumption | (clear f9_c1 f9 hK_0_1 f1 f2 f4 f5 f6 f7; omega)) | ((have f9_c0 := f9.1); (have f9_c1 := f9.2); (first | have f1_b := f1 (by clear f9_c1 f9 hK_0_1 f1 f2 f4 f5 f6 f7; omega) | skip); (first | have f2_b := f2 (by clear f9_c1 f9 hK_0_1 f1 f2 f4 f5 f6 f7; omega) | skip); (first | have f4_b := f4 (by clear f9_c1 f9 hK_0_1 f1 f2 f4 f5 f6 f7; omega) | skip); (first | have f5_b := f5 (by clear f9_c1 f9 hK_0_1 f1 f2 f4 f5 f6 f7; omega) | skip); (first | have f6_b := f6 (by clear f9_c1 f9 hK_0_1 f1 f2 f4 f5 f6 f7; omega) | skip); (first | have f7_b := f7 (by clear f9_c1 f9 hK_0_1 f1 f2 f4 f5 f6 f7; omega) | skip); (first | have f1_d := f1 (by with_reducible assumption) | skip); (first | have f2_d := f2 (by with_reducible assumption) | skip); (first | have f4_d := f4 (by with_reducible assumption) | skip); (first | have f5_d := f5 (by with_reducible assumption) | skip); (first | have f6_d := f6 (by with_reducible assumption) | skip); (first | have f7_d := f7 (by with_reducible assumption) | skip); (try and_intros) <;> first | with_reducible assumption | (clear f9_c1 f9 hK_0_1 f1 f2 f4 f5 f6 f7; omega)) | omega
set_option maxHeartbeats 4000000 in
theorem vc_Mo_next_22_1 (x1 : Int) (x4 : Int) (x5 : Int) (tape_0 : Int → Int) (limit_0 : Int) (pos_0 : Int) (from_0 : Int) (place_0 : Int) (k1 : 0 ≤ x1 ∧ x1 ≤ 2000) (k4 : 0 ≤ x4 ∧ x4 ≤ 1999) (k5 : (-1) ≤ x5 ∧ x5 ≤ (-1)) (g3 : x4 = pos_0) (f6 : ((x4 + 1) ≤ limit_0) → (x5 = (tape_0 (x4) % 256))) (f7 : (limit_0 ≤ x4) → (x5 = (-1))) (f9 : (from_0 ≤ pos_0) ∧ (((from_0 + 1) ≤ pos_0) ∨ ((pos_0 = from_0) ∧ (((from_0 + 1) ≤ limit_0) ∧ (((65 ≤ (tape_0 (from_0) % 256)) ∧ ((tape_0 (from_0) % 256) ≤ 90)) ∨ ((97 ≤ (tape_0 (from_0) % 256)) ∧ ((tape_0 (from_0) % 256) ≤ 122))))))) (f10 : ZXL (limit_0) (pos_0) (place_0) (from_0) (tape_0) (x1)) (kz_0_10 : 0 ≤ limit_0 ∧ limit_0 ≤ 2000) (kz_0_11 : 0 ≤ pos_0 ∧ pos_0 ≤ 2000) (kz_0_13 : 0 ≤ place_0 ∧ place_0 ≤ 2000) (kz_0_15 : 0 ≤ from_0 ∧ from_0 ≤ 2000) : ZXM (limit_0) (pos_0) (place_0) (from_0) (tape_0) (x1) := by
  first | subst g3 | skip
  exact zxm_mk ‹ZXL _ _ _ _ _ _› (fun q => by omega)
def o_Mo_next_22 : or_T := (147, 11, [(0, (2, 0, 0, [165])), (1, (0, 0, 2000, [])), (2, (2, 0, 0, [165])), (4, (0, 0, 1999, [])), (5, (0, -1, -1, [])), (7, (0, 58, 255, [])), (9, (0, -1, -1, [])), (10, (0, 95, 95, []))], [(7, [9, 10], [1]), (20, [4, 2, 9], [50, 1, 1, 1010, 1001, 4, 11, 0, 6, 4, 2, 1, 0, 0, 1, 2, 1, 10, 1, 2, 1, 2, 9, 5, 3, 1, 1, 1, 0, 0, 256]), (20, [2, 4, 9], [50, 1, 0, 10, 4, 7, 0, 3, 2, 0, 10, 1, 1, 1, 2, 1, 2, 0, -1]), (9, [4, 2], [11]), (20, [4, 2, 7], [50, 1, 1, 1010, 1001, 4, 11, 0, 6, 4, 2, 1, 0, 0, 1, 2, 1, 10, 1, 2, 1, 2, 9, 5, 3, 1, 1, 1, 0, 0, 256]), (20, [2, 4, 7], [50, 1, 0, 10, 4, 7, 0, 3, 2, 0, 10, 1, 1, 1, 2, 1, 2, 0, -1]), (20, [4, 2, 5], [50, 1, 1, 1010, 1001, 4, 11, 0, 6, 4, 2, 1, 0, 0, 1, 2, 1, 10, 1, 2, 1, 2, 9, 5, 3, 1, 1, 1, 0, 0, 256]), (20, [2, 4, 5], [50, 1, 0, 10, 4, 7, 0, 3, 2, 0, 10, 1, 1, 1, 2, 1, 2, 0, -1]), (20, [1, 2], [30, 0, 1, 0, 0, -1, 1, 15]), (20, [2], [50, 3, 1, 15, 11, 10, 1, 2, 8, 0, 3, 2, 0, 15, 2, 0, 11, 3, 12, 0, 7, 4, 3, 2, 0, 15, 0, 1, 2, 0, 11, 2, 8, 1, 3, 2, 0, 11, 2, 0, 15, 2, 12, 0, 7, 4, 3, 2, 0, 15, 0, 1, 2, 0, 10, 3, 30, 2, 14, 0, 2, 0, 65, 9, 6, 3, 0, 1, 2, 0, 15, 0, 256, 0, 10, 9, 6, 3, 0, 1, 2, 0, 15, 0, 256, 0, 90, 2, 14, 0, 2, 0, 97, 9, 6, 3, 0, 1, 2, 0, 15, 0, 256, 0, 10, 9, 6, 3, 0, 1, 2, 0, 15, 0, 256, 0, 122]), (20, [2, 1], [60, 4, 1, 951, 10, 11, 13, 15, 1]), (24, [0, 2], [])], [], [], [(20, [2], [50, 2, 0, 15, 11, 0, 7, 4, 3, 2, 0, 15, 0, 1, 2, 0, 11]), (20, [2, 1], [60, 4, 1, 953, 10, 11, 13, 15, 1])], [], [])
theorem oo_Mo_next_22 {kA : Nat → ClassId} : or_ok PRD kA GG o_Mo_next_22 := by
  refine or_mk fun A ta ws vs hD hth hl => ?_
  intro t0 r0 t1 k1 t2 r2 t4 k4 t5 k5 t7 k7 t9 k9 t10 k10 f0 f1 f2 f3 f4 f5 f6 f7 f8 f9 f10 f11
  replace f1 := shm_541 f1
  replace f2 := shm_542 f2
  replace f3 := shm_116 f3
  replace f4 := shm_541 f4
  replace f5 := shm_542 f5
  replace f6 := shm_541 f6
  replace f7 := shm_542 f7
  replace f9 := shm_1444 f9
  replace f10 := shm_1445 f10
  replace f11 := shm_5 f11
  have q2 : n_v vs 2 = n_v vs 0 := f11.symm
  simp only [q2] at f1 f2 f3 f4 f5 f6 f7 f9 f10
  have cr_0_1 := fdq_39 hD hth r0
  have g3 : v_iv (n_v vs 4) = w_fi ws (n_v vs 0) 11 := congrArg v_iv f3
  have hK_0_1 := elq_7 hD hth cr_0_1
  have kz_0_10 := fdq_43 hD hth r0
  have kz_0_11 := fdq_237 hD hth r0
  have kz_0_13 := fdq_238 hD hth r0
  have kz_0_15 := fdq_239 hD hth r0
  have nf0 : fc_1 PRD (20, [2], [50, 2, 0, 15, 11, 0, 7, 4, 3, 2, 0, 15, 0, 1, 2, 0, 11]) ws (vs) := by
    refine ⟨nf_in hl rfl, sgq_1446 ?_⟩
    · show (w_fi ws (n_v vs 2) 15 + 1) ≤ w_fi ws (n_v vs 2) 11
      rw [q2]
      exact vc_Mo_next_22_0 (v_iv (n_v vs 4)) (v_iv (n_v vs 5)) (v_iv (n_v vs 7)) (v_iv (n_v vs 9)) (w_ei ws (w_ar ws (n_v vs 0) 1)) (w_fi ws (n_v vs 0) 10) (w_fi ws (n_v vs 0) 11) (w_fi ws (n_v vs 0) 15) k4 k5 k7 k9 f1 f2 g3 f4 f5 f6 f7 f9 hK_0_1 kz_0_10 kz_0_11 kz_0_15
  have nf1 : fc_1 PRD (20, [2, 1], [60, 4, 1, 953, 10, 11, 13, 15, 1]) ws (vs) := by
    refine ⟨nf_in hl rfl, sgq_1447 ?_⟩
    · show ZXM (w_fi ws (n_v vs 2) 10) (w_fi ws (n_v vs 2) 11) (w_fi ws (n_v vs 2) 13) (w_fi ws (n_v vs 2) 15) (w_ei ws (w_ar ws (n_v vs 2) 1)) (v_iv (n_v vs 1))
      rw [q2]
      exact vc_Mo_next_22_1 (v_iv (n_v vs 1)) (v_iv (n_v vs 4)) (v_iv (n_v vs 5)) (w_ei ws (w_ar ws (n_v vs 0) 1)) (w_fi ws (n_v vs 0) 10) (w_fi ws (n_v vs 0) 11) (w_fi ws (n_v vs 0) 15) (w_fi ws (n_v vs 0) 13) k1 k4 k5 g3 f6 f7 f9 f10 kz_0_10 kz_0_11 kz_0_13 kz_0_15
  refine ⟨(fun _ h => (by cases h)), [], trivial, ?_, (fun _ h => (by cases h))⟩
  rw [List.append_nil]
  exact List.forall_mem_cons.mpr ⟨⟨show (20 : Nat) < 100 from by decide, nf0⟩, List.forall_mem_cons.mpr ⟨⟨show (20 : Nat) < 100 from by decide, nf1⟩, (fun _ h => (by cases h))⟩⟩
set_option maxHeartbeats 4000000 in
theorem vc_Mo_next_23_0 (x4 : Int) (x5 : Int) (x7 : Int) (x9 : Int) (tape_0 : Int → Int) (limit_0 : Int) (pos_0 : Int) (from_0 : Int) (k4 : 0 ≤ x4 ∧ x4 ≤ 1999) (k5 : (-1) ≤ x5 ∧ x5 ≤ (-1)) (k7 : 58 ≤ x7 ∧ x7 ≤ 255) (k9 : 0 ≤ x9 ∧ x9 ≤ 255) (f1 : ((x4 + 1) ≤ limit_0) → (x9 = (tape_0 (x4) % 256))) (f2 : (limit_0 ≤ x4) → (x9 = (-1))) (g3 : x4 = pos_0) (f4 : ((x4 + 1) ≤ limit_0) → (x7 = (tape_0 (x4) % 256))) (f5 : (limit_0 ≤ x4) → (x7 = (-1))) (f6 : ((x4 + 1) ≤ limit_0) → (x5 = (tape_0 (x4) % 256))) (f7 : (limit_0 ≤ x4) → (x5 = (-1))) (f9 : (from_0 ≤ pos_0) ∧ (((from_0 + 1) ≤ pos_0) ∨ ((pos_0 = from_0) ∧ (((from_0 + 1) ≤ limit_0) ∧ (((65 ≤ (tape_0 (from_0) % 256)) ∧ ((tape_0 (from_0) % 256) ≤ 90)) ∨ ((97 ≤ (tape_0 (from_0) % 256)) ∧ ((tape_0 (from_0) % 256) ≤ 122))))))) (hK_0_1 : ∀ j : Int, 0 ≤ j → j < 2000 → (-128) ≤ tape_0 j ∧ tape_0 j ≤ 127) (kz_0_10 : 0 ≤ limit_0 ∧ limit_0 ≤ 2000) (kz_0_11 : 0 ≤ pos_0 ∧ pos_0 ≤ 2000) (kz_0_15 : 0 ≤ from_0 ∧ from_0 ≤ 2000) : (from_0 + 1) ≤ pos_0 := by
  first | with_reducible assumption | ((have f9_c0 := f9.1); (have f9_c1 := f9.2); (try and_intros) <;> first | with_reducible assumption | (clear f9_c1 f9 hK_0_1 f1 f2 f4 f5 f6 f7; omega)) | ((have f9_c0 := f9.1); (have f9_c1 := f9.2); (first | have f1_b := f1 (by clear f9_c1 f9 hK_0_1 f1 f2 f4 f5 f6 f7; omega) | skip); (first | have f2_b := f2 (by clear f9_c1 f9 hK_0_1 f1 f2 f4 f5 f6 f7; omega) | skip); (first | have f4_b := f4 (by clear f9_c1 f9 hK_0_1 f1 f2 f4 f5 f6 f7; omega) | skip); (first | have f5_b := f5 (by clear f9_c1 f9 hK_0_1 f1 f2 f4 f5 f6 f7; omega) | skip); (first | have f6_b := f6 (by clear f9_c1 f9 hK_0_1 f1 f2 f4 f5 f6 f7; omega) | skip); (first | have f7_b := f7 (by clear f9_c1 f9 hK_0_1 f1 f2 f4 f5 f6 f7; omega) | skip); (first | have f1_d := f1 (by with_reducible assumption) | skip); (first | have f2_d := f2 (by with_reducible assumption) | skip); (first | have f4_d := f4 (by with_reducible assumption) | skip); (first | have f5_d := f5 (by with_reducible assumption) | skip); (first | have f6_d := f6 (by with_reducible assumption) | skip); (first | have f7_d := f7 (by with_reducible assumption) | skip); (try and_intros) <;> first | with_reducible assumption | (clear f9_c1 f9 hK_0_1 f1 f2 f4 f5 f6 f7; omega)) | omega
set_option maxHeartbeats 4000000 in
theorem vc_Mo_next_23_1 (x1 : Int) (x4 : Int) (x5 : Int) (tape_0 : Int → Int) (limit_0 : Int) (pos_0 : Int) (from_0 : Int) (place_0 : Int) (k1 : 0 ≤ x1 ∧ x1 ≤ 2000) (k4 : 0 ≤ x4 ∧ x4 ≤ 1999) (k5 : (-1) ≤ x5 ∧ x5 ≤ (-1)) (g3 : x4 = pos_0) (f6 : ((x4 + 1) ≤ limit_0) → (x5 = (tape_0 (x4) % 256))) (f7 : (limit_0 ≤ x4) → (x5 = (-1))) (f9 : (from_0 ≤ pos_0) ∧ (((from_0 + 1) ≤ pos_0) ∨ ((pos_0 = from_0) ∧ (((from_0 + 1) ≤ limit_0) ∧ (((65 ≤ (tape_0 (from_0) % 256)) ∧ ((tape_0 (from_0) % 256) ≤ 90)) ∨ ((97 ≤ (tape_0 (from_0) % 256)) ∧ ((tape_0 (from_0) % 256) ≤ 122))))))) (f10 : ZXL (limit_0) (pos_0) (place_0) (from_0) (tape_0) (x1)) (kz_0_10 : 0 ≤ limit_0 ∧ limit_0 ≤ 2000) (kz_0_11 : 0 ≤ pos_0 ∧ pos_0 ≤ 2000) (kz_0_13 : 0 ≤ place_0 ∧ place_0 ≤ 2000) (kz_0_15 : 0 ≤ from_0 ∧ from_0 ≤ 2000) : ZXM (limit_0) (pos_0) (place_0) (from_0) (tape_0) (x1) := by
  first | subst g3 | skip
  exact zxm_mk ‹ZXL _ _ _ _ _ _› (fun q => by omega)
def o_Mo_next_23 : or_T := (147, 11, [(0, (2, 0, 0, [165])), (1, (0, 0, 2000, [])), (2, (2, 0, 0, [165])), (4, (0, 0, 1999, [])), (5, (0, -1, -1, [])), (7, (0, 58, 255, [])), (9, (0, 0, 255, [])), (10, (0, 95, 95, []))], [(7, [9, 10], [1]), (20, [4, 2, 9], [50, 1, 1, 1010, 1001, 4, 11, 0, 6, 4, 2, 1, 0, 0, 1, 2, 1, 10, 1, 2, 1, 2, 9, 5, 3, 1, 1, 1, 0, 0, 256]), (20, [2, 4, 9], [50, 1, 0, 10, 4, 7, 0, 3, 2, 0, 10, 1, 1, 1, 2, 1, 2, 0, -1]), (9, [4, 2], [11]), (20, [4, 2, 7], [50, 1, 1, 1010, 1001, 4, 11, 0, 6, 4, 2, 1, 0, 0, 1, 2, 1, 10, 1, 2, 1, 2, 9, 5, 3, 1, 1, 1, 0, 0, 256]), (20, [2, 4, 7], [50, 1, 0, 10, 4, 7, 0, 3, 2, 0, 10, 1, 1, 1, 2, 1, 2, 0, -1]), (20, [4, 2, 5], [50, 1, 1, 1010, 1001, 4, 11, 0, 6, 4, 2, 1, 0, 0, 1, 2, 1, 10, 1, 2, 1, 2, 9, 5, 3, 1, 1, 1, 0, 0, 256]), (20, [2, 4, 5], [50, 1, 0, 10, 4, 7, 0, 3, 2, 0, 10, 1, 1, 1, 2, 1, 2, 0, -1]), (20, [1, 2], [30, 0, 1, 0, 0, -1, 1, 15]), (20, [2], [50, 3, 1, 15, 11, 10, 1, 2, 8, 0, 3, 2, 0, 15, 2, 0, 11, 3, 12, 0, 7, 4, 3, 2, 0, 15, 0, 1, 2, 0, 11, 2, 8, 1, 3, 2, 0, 11, 2, 0, 15, 2, 12, 0, 7, 4, 3, 2, 0, 15, 0, 1, 2, 0, 10, 3, 30, 2, 14, 0, 2, 0, 65, 9, 6, 3, 0, 1, 2, 0, 15, 0, 256, 0, 10, 9, 6, 3, 0, 1, 2, 0, 15, 0, 256, 0, 90, 2, 14, 0, 2, 0, 97, 9, 6, 3, 0, 1, 2, 0, 15, 0, 256, 0, 10, 9, 6, 3, 0, 1, 2, 0, 15, 0, 256, 0, 122]), (20, [2, 1], [60, 4, 1, 951, 10, 11, 13, 15, 1]), (24, [0, 2], [])], [], [], [(20, [2], [50, 2, 0, 15, 11, 0, 7, 4, 3, 2, 0, 15, 0, 1, 2, 0, 11]), (20, [2, 1], [60, 4, 1, 953, 10, 11, 13, 15, 1])], [], [])
theorem oo_Mo_next_23 {kA : Nat → ClassId} : or_ok PRD kA GG o_Mo_next_23 := by
  refine or_mk fun A ta ws vs hD hth hl => ?_
  intro t0 r0 t1 k1 t2 r2 t4 k4 t5 k5 t7 k7 t9 k9 t10 k10 f0 f1 f2 f3 f4 f5 f6 f7 f8 f9 f10 f11
  replace f1 := shm_541 f1
  replace f2 := shm_542 f2
  replace f3 := shm_116 f3
  replace f4 := shm_541 f4
  replace f5 := shm_542 f5
  replace f6 := shm_541 f6
  replace f7 := shm_542 f7
  replace f9 := shm_1444 f9
  replace f10 := shm_1445 f10
  replace f11 := shm_5 f11
  have q2 : n_v vs 2 = n_v vs 0 := f11.symm
  simp only [q2] at f1 f2 f3 f4 f5 f6 f7 f9 f10
  have cr_0_1 := fdq_39 hD hth r0
  have g3 : v_iv (n_v vs 4) = w_fi ws (n_v vs 0) 11 := congrArg v_iv f3
  have hK_0_1 := elq_7 hD hth cr_0_1
  have kz_0_10 := fdq_43 hD hth r0
  have kz_0_11 := fdq_237 hD hth r0
  have kz_0_13 := fdq_238 hD hth r0
  have kz_0_15 := fdq_239 hD hth r0
  have nf0 : fc_1 PRD (20, [2], [50, 2, 0, 15, 11, 0, 7, 4, 3, 2, 0, 15, 0, 1, 2, 0, 11]) ws (vs) := by
    refine ⟨nf_in hl rfl, sgq_1446 ?_⟩
    · show (w_fi ws (n_v vs 2) 15 + 1) ≤ w_fi ws (n_v vs 2) 11
      rw [q2]
      exact vc_Mo_next_23_0 (v_iv (n_v vs 4)) (v_iv (n_v vs 5)) (v_iv (n_v vs 7)) (v_iv (n_v vs 9)) (w_ei ws (w_ar ws (n_v vs 0) 1)) (w_fi ws (n_v vs 0) 10) (w_fi ws (n_v vs 0) 11) (w_fi ws (n_v vs 0) 15) k4 k5 k7 k9 f1 f2 g3 f4 f5 f6 f7 f9 hK_0_1 kz_0_10 kz_0_11 kz_0_15
  have nf1 : fc_1 PRD (20, [2, 1], [60, 4, 1, 953, 10, 11, 13, 15, 1]) ws (vs) := by
    refine ⟨nf_in hl rfl, sgq_1447 ?_⟩
    · show ZXM (w_fi ws (n_v vs 2) 10) (w_fi ws (n_v vs 2) 11) (w_fi ws (n_v vs 2) 13) (w_fi ws (n_v vs 2) 15) (w_ei ws (w_ar ws (n_v vs 2) 1)) (v_iv (n_v vs 1))
      rw [q2]
      exact vc_Mo_next_23_1 (v_iv (n_v vs 1)) (v_iv (n_v vs 4)) (v_iv (n_v vs 5)) (w_ei ws (w_ar ws (n_v vs 0) 1)) (w_fi ws (n_v vs 0) 10) (w_fi ws (n_v vs 0) 11) (w_fi ws (n_v vs 0) 15) (w_fi ws (n_v vs 0) 13) k1 k4 k5 g3 f6 f7 f9 f10 kz_0_10 kz_0_11 kz_0_13 kz_0_15
  refine ⟨(fun _ h => (by cases h)), [], trivial, ?_, (fun _ h => (by cases h))⟩
  rw [List.append_nil]
  exact List.forall_mem_cons.mpr ⟨⟨show (20 : Nat) < 100 from by decide, nf0⟩, List.forall_mem_cons.mpr ⟨⟨show (20 : Nat) < 100 from by decide, nf1⟩, (fun _ h => (by cases h))⟩⟩
set_option maxHeartbeats 4000000 in
theorem vc_Mo_next_24_0 (x1 : Int) (x4 : Int) (x5 : Int) (x7 : Int) (tape_0 : Int → Int) (limit_0 : Int) (pos_0 : Int) (from_0 : Int) (place_0 : Int) (k1 : 0 ≤ x1 ∧ x1 ≤ 2000) (k4 : 0 ≤ x4 ∧ x4 ≤ 1999) (k5 : (-1) ≤ x5 ∧ x5 ≤ (-1)) (k7 : 58 ≤ x7 ∧ x7 ≤ 255) (g3 : x4 = pos_0) (f5 : (limit_0 ≤ x4) → (x7 = (-1))) (f6 : ((x4 + 1) ≤ limit_0) → (x5 = (tape_0 (x4) % 256))) (f7 : (limit_0 ≤ x4) → (x5 = (-1))) (f9 : (from_0 ≤ pos_0) ∧ (((from_0 + 1) ≤ pos_0) ∨ ((pos_0 = from_0) ∧ (((from_0 + 1) ≤ limit_0) ∧ (((65 ≤ (tape_0 (from_0) % 256)) ∧ ((tape_0 (from_0) % 256) ≤ 90)) ∨ ((97 ≤ (tape_0 (from_0) % 256)) ∧ ((tape_0 (from_0) % 256) ≤ 122))))))) (f10 : ZXL (limit_0) (pos_0) (place_0) (from_0) (tape_0) (x1)) (hK_0_1 : ∀ j : Int, 0 ≤ j → j < 2000 → (-128) ≤ tape_0 j ∧ tape_0 j ≤ 127) (kz_0_10 : 0 ≤ limit_0 ∧ limit_0 ≤ 2000) (kz_0_11 : 0 ≤ pos_0 ∧ pos_0 ≤ 2000) (kz_0_13 : 0 ≤ place_0 ∧ place_0 ≤ 2000) (kz_0_15 : 0 ≤ from_0 ∧ from_0 ≤ 2000) : ZXN (limit_0) (pos_0) (place_0) (from_0) (tape_0) (x1) := by
  first | subst g3 | skip
  exact zxn_mk (by assumption) ‹ZXL _ _ _ _ _ _› (by omega) (by omega)
def o_Mo_next_24 : or_T := (134, 11, [(0, (2, 0, 0, [165])), (1, (0, 0, 2000, [])), (2, (2, 0, 0, [165])), (4, (0, 0, 1999, [])), (5, (0, -1, -1, [])), (7, (0, 58, 255, [])), (9, (0, 95, 95, [])), (10, (0, 95, 95, []))], [(7, [9, 10], [0]), (20, [4, 2, 9], [50, 1, 1, 1010, 1001, 4, 11, 0, 6, 4, 2, 1, 0, 0, 1, 2, 1, 10, 1, 2, 1, 2, 9, 5, 3, 1, 1, 1, 0, 0, 256]), (20, [2, 4, 9], [50, 1, 0, 10, 4, 7, 0, 3, 2, 0, 10, 1, 1, 1, 2, 1, 2, 0, -1]), (9, [4, 2], [11]), (20, [4, 2, 7], [50, 1, 1, 1010, 1001, 4, 11, 0, 6, 4, 2, 1, 0, 0, 1, 2, 1, 10, 1, 2, 1, 2, 9, 5, 3, 1, 1, 1, 0, 0, 256]), (20, [2, 4, 7], [50, 1, 0, 10, 4, 7, 0, 3, 2, 0, 10, 1, 1, 1, 2, 1, 2, 0, -1]), (20, [4, 2, 5], [50, 1, 1, 1010, 1001, 4, 11, 0, 6, 4, 2, 1, 0, 0, 1, 2, 1, 10, 1, 2, 1, 2, 9, 5, 3, 1, 1, 1, 0, 0, 256]), (20, [2, 4, 5], [50, 1, 0, 10, 4, 7, 0, 3, 2, 0, 10, 1, 1, 1, 2, 1, 2, 0, -1]), (20, [1, 2], [30, 0, 1, 0, 0, -1, 1, 15]), (20, [2], [50, 3, 1, 15, 11, 10, 1, 2, 8, 0, 3, 2, 0, 15, 2, 0, 11, 3, 12, 0, 7, 4, 3, 2, 0, 15, 0, 1, 2, 0, 11, 2, 8, 1, 3, 2, 0, 11, 2, 0, 15, 2, 12, 0, 7, 4, 3, 2, 0, 15, 0, 1, 2, 0, 10, 3, 30, 2, 14, 0, 2, 0, 65, 9, 6, 3, 0, 1, 2, 0, 15, 0, 256, 0, 10, 9, 6, 3, 0, 1, 2, 0, 15, 0, 256, 0, 90, 2, 14, 0, 2, 0, 97, 9, 6, 3, 0, 1, 2, 0, 15, 0, 256, 0, 10, 9, 6, 3, 0, 1, 2, 0, 15, 0, 256, 0, 122]), (20, [2, 1], [60, 4, 1, 951, 10, 11, 13, 15, 1]), (24, [0, 2], [])], [], [], [(20, [2, 1], [60, 4, 1, 952, 10, 11, 13, 15, 1])], [], [])
theorem oo_Mo_next_24 {kA : Nat → ClassId} : or_ok PRD kA GG o_Mo_next_24 := by
  refine or_mk fun A ta ws vs hD hth hl => ?_
  intro t0 r0 t1 k1 t2 r2 t4 k4 t5 k5 t7 k7 t9 k9 t10 k10 f0 f1 f2 f3 f4 f5 f6 f7 f8 f9 f10 f11
  replace f3 := shm_116 f3
  replace f5 := shm_542 f5
  replace f6 := shm_541 f6
  replace f7 := shm_542 f7
  replace f9 := shm_1444 f9
  replace f10 := shm_1445 f10
  replace f11 := shm_5 f11
  have q2 : n_v vs 2 = n_v vs 0 := f11.symm
  simp only [q2] at f3 f5 f6 f7 f9 f10
  have cr_0_1 := fdq_39 hD hth r0
  have g3 : v_iv (n_v vs 4) = w_fi ws (n_v vs 0) 11 := congrArg v_iv f3
  have hK_0_1 := elq_7 hD hth cr_0_1
  have kz_0_10 := fdq_43 hD hth r0
  have kz_0_11 := fdq_237 hD hth r0
  have kz_0_13 := fdq_238 hD hth r0
  have kz_0_15 := fdq_239 hD hth r0
  have nf0 : fc_1 PRD (20, [2, 1], [60, 4, 1, 952, 10, 11, 13, 15, 1]) ws (vs) := by
    refine ⟨nf_in hl rfl, sgq_1448 ?_⟩
    · show ZXN (w_fi ws (n_v vs 2) 10) (w_fi ws (n_v vs 2) 11) (w_fi ws (n_v vs 2) 13) (w_fi ws (n_v vs 2) 15) (w_ei ws (w_ar ws (n_v vs 2) 1)) (v_iv (n_v vs 1))
      rw [q2]
      exact vc_Mo_next_24_0 (v_iv (n_v vs 1)) (v_iv (n_v vs 4)) (v_iv (n_v vs 5)) (v_iv (n_v vs 7)) (w_ei ws (w_ar ws (n_v vs 0) 1)) (w_fi ws (n_v vs 0) 10) (w_fi ws (n_v vs 0) 11) (w_fi ws (n_v vs 0) 15) (w_fi ws (n_v vs 0) 13) k1 k4 k5 k7 g3 f5 f6 f7 f9 f10 hK_0_1 kz_0_10 kz_0_11 kz_0_13 kz_0_15
  refine ⟨(fun _ h => (by cases h)), [], trivial, ?_, (fun _ h => (by cases h))⟩
  rw [List.append_nil]
  exact List.forall_mem_cons.mpr ⟨⟨show (20 : Nat) < 100 from by decide, nf0⟩, (fun _ h => (by cases h))⟩
set_option maxHeartbeats 4000000 in
theorem vc_Mo_next_25_0 (x1 : Int) (x4 : Int) (x5 : Int) (x7 : Int) (tape_0 : Int → Int) (limit_0 : Int) (pos_0 : Int) (from_0 : Int) (place_0 : Int) (k1 : 0 ≤ x1 ∧ x1 ≤ 2000) (k4 : 0 ≤ x4 ∧ x4 ≤ 1999) (k5 : (-1) ≤ x5 ∧ x5 ≤ (-1)) (k7 : 48 ≤ x7 ∧ x7 ≤ 57) (f1 : (limit_0 ≤ x4) → (x7 = (-1))) (g2 : x4 = pos_0) (f3 : ((x4 + 1) ≤ limit_0) → (x5 = (tape_0 (x4) % 256))) (f4 : (limit_0 ≤ x4) → (x5 = (-1))) (f6 : (from_0 ≤ pos_0) ∧ (((from_0 + 1) ≤ pos_0) ∨ ((pos_0 = from_0) ∧ (((from_0 + 1) ≤ limit_0) ∧ (((65 ≤ (tape_0 (from_0) % 256)) ∧ ((tape_0 (from_0) % 256) ≤ 90)) ∨ ((97 ≤ (tape_0 (from_0) % 256)) ∧ ((tape_0 (from_0) % 256) ≤ 122))))))) (f7 : ZXL (limit_0) (pos_0) (place_0) (from_0) (tape_0) (x1)) (hK_0_1 : ∀ j : Int, 0 ≤ j → j < 2000 → (-128) ≤ tape_0 j ∧ tape_0 j ≤ 127) (kz_0_10 : 0 ≤ limit_0 ∧ limit_0 ≤ 2000) (kz_0_11 : 0 ≤ pos_0 ∧ pos_0 ≤ 2000) (kz_0_13 : 0 ≤ place_0 ∧ place_0 ≤ 2000) (kz_0_15 : 0 ≤ from_0 ∧ from_0 ≤ 2000) : ZXN (limit_0) (pos_0) (place_0) (from_0) (tape_0) (x1) := by
  first | subst g2 | skip
  exact zxn_mk (by assumption) ‹ZXL _ _ _ _ _ _› (by omega) (by omega)
def o_Mo_next_25 : or_T := (134, 9, [(0, (2, 0, 0, [165])), (1, (0, 0, 2000, [])), (2, (2, 0, 0, [165])), (4, (0, 0, 1999, [])), (5, (0, -1, -1, [])), (7, (0, 48, 57, []))], [(20, [4, 2, 7], [50, 1, 1, 1010, 1001, 4, 11, 0, 6, 4, 2, 1, 0, 0, 1, 2, 1, 10, 1, 2, 1, 2, 9, 5, 3, 1, 1, 1, 0, 0, 256]), (20, [2, 4, 7], [50, 1, 0, 10, 4, 7, 0, 3, 2, 0, 10, 1, 1, 1, 2, 1, 2, 0, -1]), (9, [4, 2], [11]), (20, [4, 2, 5], [50, 1, 1, 1010, 1001, 4, 11, 0, 6, 4, 2, 1, 0, 0, 1, 2, 1, 10, 1, 2, 1, 2, 9, 5, 3, 1, 1, 1, 0, 0, 256]), (20, [2, 4, 5], [50, 1, 0, 10, 4, 7, 0, 3, 2, 0, 10, 1, 1, 1, 2, 1, 2, 0, -1]), (20, [1, 2], [30, 0, 1, 0, 0, -1, 1, 15]), (20, [2], [50, 3, 1, 15, 11, 10, 1, 2, 8, 0, 3, 2, 0, 15, 2, 0, 11, 3, 12, 0, 7, 4, 3, 2, 0, 15, 0, 1, 2, 0, 11, 2, 8, 1, 3, 2, 0, 11, 2, 0, 15, 2, 12, 0, 7, 4, 3, 2, 0, 15, 0, 1, 2, 0, 10, 3, 30, 2, 14, 0, 2, 0, 65, 9, 6, 3, 0, 1, 2, 0, 15, 0, 256, 0, 10, 9, 6, 3, 0, 1, 2, 0, 15, 0, 256, 0, 90, 2, 14, 0, 2, 0, 97, 9, 6, 3, 0, 1, 2, 0, 15, 0, 256, 0, 10, 9, 6, 3, 0, 1, 2, 0, 15, 0, 256, 0, 122]), (20, [2, 1], [60, 4, 1, 951, 10, 11, 13, 15, 1]), (24, [0, 2], [])], [], [], [(20, [2, 1], [60, 4, 1, 952, 10, 11, 13, 15, 1])], [], [])
theorem oo_Mo_next_25 {kA : Nat → ClassId} : or_ok PRD kA GG o_Mo_next_25 := by
  refine or_mk fun A ta ws vs hD hth hl => ?_
  intro t0 r0 t1 k1 t2 r2 t4 k4 t5 k5 t7 k7 f0 f1 f2 f3 f4 f5 f6 f7 f8
  replace f1 := shm_542 f1
  replace f2 := shm_116 f2
  replace f3 := shm_541 f3
  replace f4 := shm_542 f4
  replace f6 := shm_1444 f6
  replace f7 := shm_1445 f7
  replace f8 := shm_5 f8
  have q2 : n_v vs 2 = n_v vs 0 := f8.symm
  simp only [q2] at f1 f2 f3 f4 f6 f7
  have cr_0_1 := fdq_39 hD hth r0
  have g2 : v_iv (n_v vs 4) = w_fi ws (n_v vs 0) 11 := congrArg v_iv f2
  have hK_0_1 := elq_7 hD hth cr_0_1
  have kz_0_10 := fdq_43 hD hth r0
  have kz_0_11 := fdq_237 hD hth r0
  have kz_0_13 := fdq_238 hD hth r0
  have kz_0_15 := fdq_239 hD hth r0
  have nf0 : fc_1 PRD (20, [2, 1], [60, 4, 1, 952, 10, 11, 13, 15, 1]) ws (vs) := by
    refine ⟨nf_in hl rfl, sgq_1448 ?_⟩
    · show ZXN (w_fi ws (n_v vs 2) 10) (w_fi ws (n_v vs 2) 11) (w_fi ws (n_v vs 2) 13) (w_fi ws (n_v vs 2) 15) (w_ei ws (w_ar ws (n_v vs 2) 1)) (v_iv (n_v vs 1))
      rw [q2]
      exact vc_Mo_next_25_0 (v_iv (n_v vs 1)) (v_iv (n_v vs 4)) (v_iv (n_v vs 5)) (v_iv (n_v vs 7)) (w_ei ws (w_ar ws (n_v vs 0) 1)) (w_fi ws (n_v vs 0) 10) (w_fi ws (n_v vs 0) 11) (w_fi ws (n_v vs 0) 15) (w_fi ws (n_v vs 0) 13) k1 k4 k5 k7 f1 g2 f3 f4 f6 f7 hK_0_1 kz_0_10 kz_0_11 kz_0_13 kz_0_15
  refine ⟨(fun _ h => (by cases h)), [], trivial, ?_, (fun _ h => (by cases h))⟩
  rw [List.append_nil]
  exact List.forall_mem_cons.mpr ⟨⟨show (20 : Nat) < 100 from by decide, nf0⟩, (fun _ h => (by cases h))⟩

set_option maxHeartbeats 4000000 in
theorem vc_Mo_next_26_0 (x4 : Int) (x5 : Int) (x7 : Int) (x9 : Int) (tape_0 : Int → Int) (limit_0 : Int) (pos_0 : Int) (from_0 : Int) (k4 : 0 ≤ x4 ∧ x4 ≤ 1999) (k5 : 0 ≤ x5 ∧ x5 ≤ 64) (k7 : (-1) ≤ x7 ∧ x7 ≤ (-1)) (k9 : (-1) ≤ x9 ∧ x9 ≤ (-1)) (f1 : ((x4 + 1) ≤ limit_0) → (x9 = (tape_0 (x4) % 256))) (f2 : (limit_0 ≤ x4) → (x9 = (-1))) (g3 : x4 = pos_0) (f4 : ((x4 + 1) ≤ limit_0) → (x7 = (tape_0 (x4) % 256))) (f5 : (limit_0 ≤ x4) → (x7 = (-1))) (f6 : ((x4 + 1) ≤ limit_0) → (x5 = (tape_0 (x4) % 256))) (f7 : (limit_0 ≤ x4) → (x5 = (-1))) (f9 : (from_0 ≤ pos_0) ∧ (((from_0 + 1) ≤ pos_0) ∨ ((pos_0 = from_0) ∧ (((from_0 + 1) ≤ limit_0) ∧ (((65 ≤ (tape_0 (from_0) % 256)) ∧ ((tape_0 (from_0) % 256) ≤ 90)) ∨ ((97 ≤ (tape_0 (from_0) % 256)) ∧ ((tape_0 (from_0) % 256) ≤ 122))))))) (hK_0_1 : ∀ j : Int, 0 ≤ j → j < 2000 → (-128) ≤ tape_0 j ∧ tape_0 j ≤ 127) (kz_0_10 : 0 ≤ limit_0 ∧ limit_0 ≤ 2000) (kz_0_11 : 0 ≤ pos_0 ∧ pos_0 ≤ 2000) (kz_0_15 : 0 ≤ from_0 ∧ from_0 ≤ 2000) : (from_0 + 1) ≤ pos_0 := by
  first | with_reducible assumption | ((have f9_c0 := f9.1); (have f9_c1 := f9.2); (try and_intros) <;> first | with_reducible assumption | (clear f9_c1 f9 hK_0_1 f1 f2 f4 f5 f6 f7; omega)) | ((have f9_c0 := f9.1); (have f9_c1 := f9.2); (first | have f1_b := f1 (by clear f9_c1 f9 hK_0_1 f1 f2 f4 f5 f6 f7; omega) | skip); (first | have f2_b := f2 (by clear f9_c1 f9 hK_0_1 f1 f2 f4 f5 f6 f7; omega) | skip); (first | have f4_b := f4 (by clear f9_c1 f9 hK_0_1 f1 f2 f4 f5 f6 f7; omega) | skip); (first | have f5_b := f5 (by clear f9_c1 f9 hK_0_1 f1 f2 f4 f5 f6 f7; omega) | skip); (first | have f6_b := f6 (by clear f9_c1 f9 hK_0_1 f1 f2 f4 f5 f6 f7; omega) | skip); (first | have f7_b := f7 (by clear f9_c1 f9 hK_0_1 f1 f2 f4 f5 f6 f7; omega) | skip); (first | have f1_d := f1 (by with_reducible assumption) | skip); (first | have f2_d := f2 (by with_reducible assumption) | skip); (first | have f4_d := f4 (by with_reducible assumption) | skip); (first | have f5_d := f5 (by with_reducible assumption) | skip); (first | have f6_d := f6 (by with_reducible assumption) | skip); (first | have f7_d := f7 (by with_reducible assumption) | skip); (try and_intros) <;> first | with_reducible assumption | (clear f9_c1 f9 hK_0_1 f1 f2 f4 f5 f6 f7; omega)) | omega
set_option maxHeartbeats 4000000 in
theorem vc_Mo_next_26_1 (x1 : Int) (x4 : Int) (x5 : Int) (x7 : Int) (tape_0 : Int → Int) (limit_0 : Int) (pos_0 : Int) (from_0 : Int) (place_0 : Int) (k1 : 0 ≤ x1 ∧ x1 ≤ 2000) (k4 : 0 ≤ x4 ∧ x4 ≤ 1999) (k5 : 0 ≤ x5 ∧ x5 ≤ 64) (k7 : (-1) ≤ x7 ∧ x7 ≤ (-1)) (g3 : x4 = pos_0) (f4 : ((x4 + 1) ≤ limit_0) → (x7 = (tape_0 (x4) % 256))) (f5 : (limit_0 ≤ x4) → (x7 = (-1))) (f6 : ((x4 + 1) ≤ limit_0) → (x5 = (tape_0 (x4) % 256))) (f7 : (limit_0 ≤ x4) → (x5 = (-1))) (f9 : (from_0 ≤ pos_0) ∧ (((from_0 + 1) ≤ pos_0) ∨ ((pos_0 = from_0) ∧ (((from_0 + 1) ≤ limit_0) ∧ (((65 ≤ (tape_0 (from_0) % 256)) ∧ ((tape_0 (from_0) % 256) ≤ 90)) ∨ ((97 ≤ (tape_0 (from_0) % 256)) ∧ ((tape_0 (from_0) % 256) ≤ 122))))))) (f10 : ZXL (limit_0) (pos_0) (place_0) (from_0) (tape_0) (x1)) (kz_0_10 : 0 ≤ limit_0 ∧ limit_0 ≤ 2000) (kz_0_11 : 0 ≤ pos_0 ∧ pos_0 ≤ 2000) (kz_0_13 : 0 ≤ place_0 ∧ place_0 ≤ 2000) (kz_0_15 : 0 ≤ from_0 ∧ from_0 ≤ 2000) : ZXM (limit_0) (pos_0) (place_0) (from_0) (tape_0) (x1) := by
  first | subst g3 | skip
  exact zxm_mk ‹ZXL _ _ _ _ _ _› (fun q => by omega)
def o_Mo_next_26 : or_T := (147, 11, [(0, (2, 0, 0, [165])), (1, (0, 0, 2000, [])), (2, (2, 0, 0, [165])), (4, (0, 0, 1999, [])), (5, (0, 0, 64, [])), (7, (0, -1, -1, [])), (9, (0, -1, -1, [])), (10, (0, 95, 95, []))], [(7, [9, 10], [1]), (20, [4, 2, 9], [50, 1, 1, 1010, 1001, 4, 11, 0, 6, 4, 2, 1, 0, 0, 1, 2, 1, 10, 1, 2, 1, 2, 9, 5, 3, 1, 1, 1, 0, 0, 256]), (20, [2, 4, 9], [50, 1, 0, 10, 4, 7, 0, 3, 2, 0, 10, 1, 1, 1, 2, 1, 2, 0, -1]), (9, [4, 2], [11]), (20, [4, 2, 7], [50, 1, 1, 1010, 1001, 4, 11, 0, 6, 4, 2, 1, 0, 0, 1, 2, 1, 10, 1, 2, 1, 2, 9, 5, 3, 1, 1, 1, 0, 0, 256]), (20, [2, 4, 7], [50, 1, 0, 10, 4, 7, 0, 3, 2, 0, 10, 1, 1, 1, 2, 1, 2, 0, -1]), (20, [4, 2, 5], [50, 1, 1, 1010, 1001, 4, 11, 0, 6, 4, 2, 1, 0, 0, 1, 2, 1, 10, 1, 2, 1, 2, 9, 5, 3, 1, 1, 1, 0, 0, 256]), (20, [2, 4, 5], [50, 1, 0, 10, 4, 7, 0, 3, 2, 0, 10, 1, 1, 1, 2, 1, 2, 0, -1]), (20, [1, 2], [30, 0, 1, 0, 0, -1, 1, 15]), (20, [2], [50, 3, 1, 15, 11, 10, 1, 2, 8, 0, 3, 2, 0, 15, 2, 0, 11, 3, 12, 0, 7, 4, 3, 2, 0, 15, 0, 1, 2, 0, 11, 2, 8, 1, 3, 2, 0, 11, 2, 0, 15, 2, 12, 0, 7, 4, 3, 2, 0, 15, 0, 1, 2, 0, 10, 3, 30, 2, 14, 0, 2, 0, 65, 9, 6, 3, 0, 1, 2, 0, 15, 0, 256, 0, 10, 9, 6, 3, 0, 1, 2, 0, 15, 0, 256, 0, 90, 2, 14, 0, 2, 0, 97, 9, 6, 3, 0, 1, 2, 0, 15, 0, 256, 0, 10, 9, 6, 3, 0, 1, 2, 0, 15, 0, 256, 0, 122]), (20, [2, 1], [60, 4, 1, 951, 10, 11, 13, 15, 1]), (24, [0, 2], [])], [], [], [(20, [2], [50, 2, 0, 15, 11, 0, 7, 4, 3, 2, 0, 15, 0, 1, 2, 0, 11]), (20, [2, 1], [60, 4, 1, 953, 10, 11, 13, 15, 1])], [], [])
theorem oo_Mo_next_26 {kA : Nat → ClassId} : or_ok PRD kA GG o_Mo_next_26 := by
  refine or_mk fun A ta ws vs hD hth hl => ?_
  intro t0 r0 t1 k1 t2 r2 t4 k4 t5 k5 t7 k7 t9 k9 t10 k10 f0 f1 f2 f3 f4 f5 f6 f7 f8 f9 f10 f11
  replace f1 := shm_541 f1
  replace f2 := shm_542 f2
  replace f3 := shm_116 f3
  replace f4 := shm_541 f4
  replace f5 := shm_542 f5
  replace f6 := shm_541 f6
  replace f7 := shm_542 f7
  replace f9 := shm_1444 f9
  replace f10 := shm_1445 f10
  replace f11 := shm_5 f11
  have q2 : n_v vs 2 = n_v vs 0 := f11.symm
  simp only [q2] at f1 f2 f3 f4 f5 f6 f7 f9 f10
  have cr_0_1 := fdq_39 hD hth r0
  have g3 : v_iv (n_v vs 4) = w_fi ws (n_v vs 0) 11 := congrArg v_iv f3
  have hK_0_1 := elq_7 hD hth cr_0_1
  have kz_0_10 := fdq_43 hD hth r0
  have kz_0_11 := fdq_237 hD hth r0
  have kz_0_13 := fdq_238 hD hth r0
  have kz_0_15 := fdq_239 hD hth r0
  have nf0 : fc_1 PRD (20, [2], [50, 2, 0, 15, 11, 0, 7, 4, 3, 2, 0, 15, 0, 1, 2, 0, 11]) ws (vs) := by
    refine ⟨nf_in hl rfl, sgq_1446 ?_⟩
    · show (w_fi ws (n_v vs 2) 15 + 1) ≤ w_fi ws (n_v vs 2) 11
      rw [q2]
      exact vc_Mo_next_26_0 (v_iv (n_v vs 4)) (v_iv (n_v vs 5)) (v_iv (n_v vs 7)) (v_iv (n_v vs 9)) (w_ei ws (w_ar ws (n_v vs 0) 1)) (w_fi ws (n_v vs 0) 10) (w_fi ws (n_v vs 0) 11) (w_fi ws (n_v vs 0) 15) k4 k5 k7 k9 f1 f2 g3 f4 f5 f6 f7 f9 hK_0_1 kz_0_10 kz_0_11 kz_0_15
  have nf1 : fc_1 PRD (20, [2, 1], [60, 4, 1, 953, 10, 11, 13, 15, 1]) ws (vs) := by
    refine ⟨nf_in hl rfl, sgq_1447 ?_⟩
    · show ZXM (w_fi ws (n_v vs 2) 10) (w_fi ws (n_v vs 2) 11) (w_fi ws (n_v vs 2) 13) (w_fi ws (n_v vs 2) 15) (w_ei ws (w_ar ws (n_v vs 2) 1)) (v_iv (n_v vs 1))
      rw [q2]
      exact vc_Mo_next_26_1 (v_iv (n_v vs 1)) (v_iv (n_v vs 4)) (v_iv (n_v vs 5)) (v_iv (n_v vs 7)) (w_ei ws (w_ar ws (n_v vs 0) 1)) (w_fi ws (n_v vs 0) 10) (w_fi ws (n_v vs 0) 11) (w_fi ws (n_v vs 0) 15) (w_fi ws (n_v vs 0) 13) k1 k4 k5 k7 g3 f4 f5 f6 f7 f9 f10 kz_0_10 kz_0_11 kz_0_13 kz_0_15
  refine ⟨(fun _ h => (by cases h)), [], trivial, ?_, (fun _ h => (by cases h))⟩
  rw [List.append_nil]
  exact List.forall_mem_cons.mpr ⟨⟨show (20 : Nat) < 100 from by decide, nf0⟩, List.forall_mem_cons.mpr ⟨⟨show (20 : Nat) < 100 from by decide, nf1⟩, (fun _ h => (by cases h))⟩⟩
set_option maxHeartbeats 4000000 in
theorem vc_Mo_next_27_0 (x4 : Int) (x5 : Int) (x7 : Int) (x9 : Int) (tape_0 : Int → Int) (limit_0 : Int) (pos_0 : Int) (from_0 : Int) (k4 : 0 ≤ x4 ∧ x4 ≤ 1999) (k5 : 0 ≤ x5 ∧ x5 ≤ 64) (k7 : (-1) ≤ x7 ∧ x7 ≤ (-1)) (k9 : 0 ≤ x9 ∧ x9 ≤ 255) (f1 : ((x4 + 1) ≤ limit_0) → (x9 = (tape_0 (x4) % 256))) (f2 : (limit_0 ≤ x4) → (x9 = (-1))) (g3 : x4 = pos_0) (f4 : ((x4 + 1) ≤ limit_0) → (x7 = (tape_0 (x4) % 256))) (f5 : (limit_0 ≤ x4) → (x7 = (-1))) (f6 : ((x4 + 1) ≤ limit_0) → (x5 = (tape_0 (x4) % 256))) (f7 : (limit_0 ≤ x4) → (x5 = (-1))) (f9 : (from_0 ≤ pos_0) ∧ (((from_0 + 1) ≤ pos_0) ∨ ((pos_0 = from_0) ∧ (((from_0 + 1) ≤ limit_0) ∧ (((65 ≤ (tape_0 (from_0) % 256)) ∧ ((tape_0 (from_0) % 256) ≤ 90)) ∨ ((97 ≤ (tape_0 (from_0) % 256)) ∧ ((tape_0 (from_0) % 256) ≤ 122))))))) (hK_0_1 : ∀ j : Int, 0 ≤ j → j < 2000 → (-128) ≤ tape_0 j ∧ tape_0 j ≤ 127) (kz_0_10 : 0 ≤ limit_0 ∧ limit_0 ≤ 2000) (kz_0_11 : 0 ≤ pos_0 ∧ pos_0 ≤ 2000) (kz_0_15 : 0 ≤ from_0 ∧ from_0 ≤ 2000) : (from_0 + 1) ≤ pos_0 := by
  first | with_reducible assumption | ((have f9_c0 := f9.1); (have f9_c1 := f9.2); (try and_intros) <;> first | with_reducible assumption | (clear f9_c1 f9 hK_0_1 f1 f2 f4 f5 f6 f7; omega)) | ((have f9_c0 := f9.1); (have f9_c1 := f9.2); (first | have f1_b := f1 (by clear f9_c1 f9 hK_0_1 f1 f2 f4 f5 f6 f7; omega) | skip); (first | have f2_b := f2 (by clear f9_c1 f9 hK_0_1 f1 f2 f4 f5 f6 f7; omega) | skip); (first | have f4_b := f4 (by clear f9_c1 f9 hK_0_1 f1 f2 f4 f5 f6 f7; omega) | skip); (first | have f5_b := f5 (by clear f9_c1 f9 hK_0_1 f1 f2 f4 f5 f6 f7; omega) | skip); (first | have f6_b := f6 (by clear f9_c1 f9 hK_0_1 f1 f2 f4 f5 f6 f7; omega) | skip); (first | have f7_b := f7 (by clear f9_c1 f9 hK_0_1 f1 f2 f4 f5 f6 f7; omega) | skip); (first | have f1_d := f1 (by with_reducible assumption) | skip); (first | have f2_d := f2 (by with_reducible assumption) | skip); (first | have f4_d := f4 (by with_reducible assumption) | skip); (first | have f5_d := f5 (by with_reducible assumption) | skip); (first | have f6_d := f6 (by with_reducible assumption) | skip); (first | have f7_d := f7 (by with_reducible assumption) | skip); (try and_intros) <;> first | with_reducible assumption | (clear f9_c1 f9 hK_0_1 f1 f2 f4 f5 f6 f7; omega)) | omega
set_option maxHeartbeats 4000000 in
theorem vc_Mo_next_27_1 (x1 : Int) (x4 : Int) (x5 : Int) (x7 : Int) (tape_0 : Int → Int) (limit_0 : Int) (pos_0 : Int) (from_0 : Int) (place_0 : Int) (k1 : 0 ≤ x1 ∧ x1 ≤ 2000) (k4 : 0 ≤ x4 ∧ x4 ≤ 1999) (k5 : 0 ≤ x5 ∧ x5 ≤ 64) (k7 : (-1) ≤ x7 ∧ x7 ≤ (-1)) (g3 : x4 = pos_0) (f4 : ((x4 + 1) ≤ limit_0) → (x7 = (tape_0 (x4) % 256))) (f5 : (limit_0 ≤ x4) → (x7 = (-1))) (f6 : ((x4 + 1) ≤ limit_0) → (x5 = (tape_0 (x4) % 256))) (f7 : (limit_0 ≤ x4) → (x5 = (-1))) (f9 : (from_0 ≤ pos_0) ∧ (((from_0 + 1) ≤ pos_0) ∨ ((pos_0 = from_0) ∧ (((from_0 + 1) ≤ limit_0) ∧ (((65 ≤ (tape_0 (from_0) % 256)) ∧ ((tape_0 (from_0) % 256) ≤ 90)) ∨ ((97 ≤ (tape_0 (from_0) % 256)) ∧ ((tape_0 (from_0) % 256) ≤ 122))))))) (f10 : ZXL (limit_0) (pos_0) (place_0) (from_0) (tape_0) (x1)) (kz_0_10 : 0 ≤ limit_0 ∧ limit_0 ≤ 2000) (kz_0_11 : 0 ≤ pos_0 ∧ pos_0 ≤ 2000) (kz_0_13 : 0 ≤ place_0 ∧ place_0 ≤ 2000) (kz_0_15 : 0 ≤ from_0 ∧ from_0 ≤ 2000) : ZXM (limit_0) (pos_0) (place_0) (from_0) (tape_0) (x1) := by
  first | subst g3 | skip
  exact zxm_mk ‹ZXL _ _ _ _ _ _› (fun q => by omega)
def o_Mo_next_27 : or_T := (147, 11, [(0, (2, 0, 0, [165])), (1, (0, 0, 2000, [])), (2, (2, 0, 0, [165])), (4, (0, 0, 1999, [])), (5, (0, 0, 64, [])), (7, (0, -1, -1, [])), (9, (0, 0, 255, [])), (10, (0, 95, 95, []))], [(7, [9, 10], [1]), (20, [4, 2, 9], [50, 1, 1, 1010, 1001, 4, 11, 0, 6, 4, 2, 1, 0, 0, 1, 2, 1, 10, 1, 2, 1, 2, 9, 5, 3, 1, 1, 1, 0, 0, 256]), (20, [2, 4, 9], [50, 1, 0, 10, 4, 7, 0, 3, 2, 0, 10, 1, 1, 1, 2, 1, 2, 0, -1]), (9, [4, 2], [11]), (20, [4, 2, 7], [50, 1, 1, 1010, 1001, 4, 11, 0, 6, 4, 2, 1, 0, 0, 1, 2, 1, 10, 1, 2, 1, 2, 9, 5, 3, 1, 1, 1, 0, 0, 256]), (20, [2, 4, 7], [50, 1, 0, 10, 4, 7, 0, 3, 2, 0, 10, 1, 1, 1, 2, 1, 2, 0, -1]), (20, [4, 2, 5], [50, 1, 1, 1010, 1001, 4, 11, 0, 6, 4, 2, 1, 0, 0, 1, 2, 1, 10, 1, 2, 1, 2, 9, 5, 3, 1, 1, 1, 0, 0, 256]), (20, [2, 4, 5], [50, 1, 0, 10, 4, 7, 0, 3, 2, 0, 10, 1, 1, 1, 2, 1, 2, 0, -1]), (20, [1, 2], [30, 0, 1, 0, 0, -1, 1, 15]), (20, [2], [50, 3, 1, 15, 11, 10, 1, 2, 8, 0, 3, 2, 0, 15, 2, 0, 11, 3, 12, 0, 7, 4, 3, 2, 0, 15, 0, 1, 2, 0, 11, 2, 8, 1, 3, 2, 0, 11, 2, 0, 15, 2, 12, 0, 7, 4, 3, 2, 0, 15, 0, 1, 2, 0, 10, 3, 30, 2, 14, 0, 2, 0, 65, 9, 6, 3, 0, 1, 2, 0, 15, 0, 256, 0, 10, 9, 6, 3, 0, 1, 2, 0, 15, 0, 256, 0, 90, 2, 14, 0, 2, 0, 97, 9, 6, 3, 0, 1, 2, 0, 15, 0, 256, 0, 10, 9, 6, 3, 0, 1, 2, 0, 15, 0, 256, 0, 122]), (20, [2, 1], [60, 4, 1, 951, 10, 11, 13, 15, 1]), (24, [0, 2], [])], [], [], [(20, [2], [50, 2, 0, 15, 11, 0, 7, 4, 3, 2, 0, 15, 0, 1, 2, 0, 11]), (20, [2, 1], [60, 4, 1, 953, 10, 11, 13, 15, 1])], [], [])
theorem oo_Mo_next_27 {kA : Nat → ClassId} : or_ok PRD kA GG o_Mo_next_27 := by
  refine or_mk fun A ta ws vs hD hth hl => ?_
  intro t0 r0 t1 k1 t2 r2 t4 k4 t5 k5 t7 k7 t9 k9 t10 k10 f0 f1 f2 f3 f4 f5 f6 f7 f8 f9 f10 f11
  replace f1 := shm_541 f1
  replace f2 := shm_542 f2
  replace f3 := shm_116 f3
  replace f4 := shm_541 f4
  replace f5 := shm_542 f5
  replace f6 := shm_541 f6
  replace f7 := shm_542 f7
  replace f9 := shm_1444 f9
  replace f10 := shm_1445 f10
  replace f11 := shm_5 f11
  have q2 : n_v vs 2 = n_v vs 0 := f11.symm
  simp only [q2] at f1 f2 f3 f4 f5 f6 f7 f9 f10
  have cr_0_1 := fdq_39 hD hth r0
  have g3 : v_iv (n_v vs 4) = w_fi ws (n_v vs 0) 11 := congrArg v_iv f3
  have hK_0_1 := elq_7 hD hth cr_0_1
  have kz_0_10 := fdq_43 hD hth r0
  have kz_0_11 := fdq_237 hD hth r0
  have kz_0_13 := fdq_238 hD hth r0
  have kz_0_15 := fdq_239 hD hth r0
  have nf0 : fc_1 PRD (20, [2], [50, 2, 0, 15, 11, 0, 7, 4, 3, 2, 0, 15, 0, 1, 2, 0, 11]) ws (vs) := by
    refine ⟨nf_in hl rfl, sgq_1446 ?_⟩
    · show (w_fi ws (n_v vs 2) 15 + 1) ≤ w_fi ws (n_v vs 2) 11
      rw [q2]
      exact vc_Mo_next_27_0 (v_iv (n_v vs 4)) (v_iv (n_v vs 5)) (v_iv (n_v vs 7)) (v_iv (n_v vs 9)) (w_ei ws (w_ar ws (n_v vs 0) 1)) (w_fi ws (n_v vs 0) 10) (w_fi ws (n_v vs 0) 11) (w_fi ws (n_v vs 0) 15) k4 k5 k7 k9 f1 f2 g3 f4 f5 f6 f7 f9 hK_0_1 kz_0_10 kz_0_11 kz_0_15
  have nf1 : fc_1 PRD (20, [2, 1], [60, 4, 1, 953, 10, 11, 13, 15, 1]) ws (vs) := by
    refine ⟨nf_in hl rfl, sgq_1447 ?_⟩
    · show ZXM (w_fi ws (n_v vs 2) 10) (w_fi ws (n_v vs 2) 11) (w_fi ws (n_v vs 2) 13) (w_fi ws (n_v vs 2) 15) (w_ei ws (w_ar ws (n_v vs 2) 1)) (v_iv (n_v vs 1))
      rw [q2]
      exact vc_Mo_next_27_1 (v_iv (n_v vs 1)) (v_iv (n_v vs 4)) (v_iv (n_v vs 5)) (v_iv (n_v vs 7)) (w_ei ws (w_ar ws (n_v vs 0) 1)) (w_fi ws (n_v vs 0) 10) (w_fi ws (n_v vs 0) 11) (w_fi ws (n_v vs 0) 15) (w_fi ws (n_v vs 0) 13) k1 k4 k5 k7 g3 f4 f5 f6 f7 f9 f10 kz_0_10 kz_0_11 kz_0_13 kz_0_15
  refine ⟨(fun _ h => (by cases h)), [], trivial, ?_, (fun _ h => (by cases h))⟩
  rw [List.append_nil]
  exact List.forall_mem_cons.mpr ⟨⟨show (20 : Nat) < 100 from by decide, nf0⟩, List.forall_mem_cons.mpr ⟨⟨show (20 : Nat) < 100 from by decide, nf1⟩, (fun _ h => (by cases h))⟩⟩
set_option maxHeartbeats 4000000 in
theorem vc_Mo_next_28_0 (x1 : Int) (x4 : Int) (x5 : Int) (x7 : Int) (tape_0 : Int → Int) (limit_0 : Int) (pos_0 : Int) (from_0 : Int) (place_0 : Int) (k1 : 0 ≤ x1 ∧ x1 ≤ 2000) (k4 : 0 ≤ x4 ∧ x4 ≤ 1999) (k5 : 0 ≤ x5 ∧ x5 ≤ 64) (k7 : (-1) ≤ x7 ∧ x7 ≤ (-1)) (g3 : x4 = pos_0) (f4 : ((x4 + 1) ≤ limit_0) → (x7 = (tape_0 (x4) % 256))) (f5 : (limit_0 ≤ x4) → (x7 = (-1))) (f6 : ((x4 + 1) ≤ limit_0) → (x5 = (tape_0 (x4) % 256))) (f7 : (limit_0 ≤ x4) → (x5 = (-1))) (f9 : (from_0 ≤ pos_0) ∧ (((from_0 + 1) ≤ pos_0) ∨ ((pos_0 = from_0) ∧ (((from_0 + 1) ≤ limit_0) ∧ (((65 ≤ (tape_0 (from_0) % 256)) ∧ ((tape_0 (from_0) % 256) ≤ 90)) ∨ ((97 ≤ (tape_0 (from_0) % 256)) ∧ ((tape_0 (from_0) % 256) ≤ 122))))))) (f10 : ZXL (limit_0) (pos_0) (place_0) (from_0) (tape_0) (x1)) (hK_0_1 : ∀ j : Int, 0 ≤ j → j < 2000 → (-128) ≤ tape_0 j ∧ tape_0 j ≤ 127) (kz_0_10 : 0 ≤ limit_0 ∧ limit_0 ≤ 2000) (kz_0_11 : 0 ≤ pos_0 ∧ pos_0 ≤ 2000) (kz_0_13 : 0 ≤ place_0 ∧ place_0 ≤ 2000) (kz_0_15 : 0 ≤ from_0 ∧ from_0 ≤ 2000) : ZXN (limit_0) (pos_0) (place_0) (from_0) (tape_0) (x1) := by
  first | subst g3 | skip
  exact zxn_mk (by assumption) ‹ZXL _ _ _ _ _ _› (by omega) (by omega)
def o_Mo_next_28 : or_T := (134, 11, [(0, (2, 0, 0, [165])), (1, (0, 0, 2000, [])), (2, (2, 0, 0, [165])), (4, (0, 0, 1999, [])), (5, (0, 0, 64, [])), (7, (0, -1, -1, [])), (9, (0, 95, 95, [])), (10, (0, 95, 95, []))], [(7, [9, 10], [0]), (20, [4, 2, 9], [50, 1, 1, 1010, 1001, 4, 11, 0, 6, 4, 2, 1, 0, 0, 1, 2, 1, 10, 1, 2, 1, 2, 9, 5, 3, 1, 1, 1, 0, 0, 256]), (20, [2, 4, 9], [50, 1, 0, 10, 4, 7, 0, 3, 2, 0, 10, 1, 1, 1, 2, 1, 2, 0, -1]), (9, [4, 2], [11]), (20, [4, 2, 7], [50, 1, 1, 1010, 1001, 4, 11, 0, 6, 4, 2, 1, 0, 0, 1, 2, 1, 10, 1, 2, 1, 2, 9, 5, 3, 1, 1, 1, 0, 0, 256]), (20, [2, 4, 7], [50, 1, 0, 10, 4, 7, 0, 3, 2, 0, 10, 1, 1, 1, 2, 1, 2, 0, -1]), (20, [4, 2, 5], [50, 1, 1, 1010, 1001, 4, 11, 0, 6, 4, 2, 1, 0, 0, 1, 2, 1, 10, 1, 2, 1, 2, 9, 5, 3, 1, 1, 1, 0, 0, 256]), (20, [2, 4, 5], [50, 1, 0, 10, 4, 7, 0, 3, 2, 0, 10, 1, 1, 1, 2, 1, 2, 0, -1]), (20, [1, 2], [30, 0, 1, 0, 0, -1, 1, 15]), (20, [2], [50, 3, 1, 15, 11, 10, 1, 2, 8, 0, 3, 2, 0, 15, 2, 0, 11, 3, 12, 0, 7, 4, 3, 2, 0, 15, 0, 1, 2, 0, 11, 2, 8, 1, 3, 2, 0, 11, 2, 0, 15, 2, 12, 0, 7, 4, 3, 2, 0, 15, 0, 1, 2, 0, 10, 3, 30, 2, 14, 0, 2, 0, 65, 9, 6, 3, 0, 1, 2, 0, 15, 0, 256, 0, 10, 9, 6, 3, 0, 1, 2, 0, 15, 0, 256, 0, 90, 2, 14, 0, 2, 0, 97, 9, 6, 3, 0, 1, 2, 0, 15, 0, 256, 0, 10, 9, 6, 3, 0, 1, 2, 0, 15, 0, 256, 0, 122]), (20, [2, 1], [60, 4, 1, 951, 10, 11, 13, 15, 1]), (24, [0, 2], [])], [], [], [(20, [2, 1], [60, 4, 1, 952, 10, 11, 13, 15, 1])], [], [])
theorem oo_Mo_next_28 {kA : Nat → ClassId} : or_ok PRD kA GG o_Mo_next_28 := by
  refine or_mk fun A ta ws vs hD hth hl => ?_
  intro t0 r0 t1 k1 t2 r2 t4 k4 t5 k5 t7 k7 t9 k9 t10 k10 f0 f1 f2 f3 f4 f5 f6 f7 f8 f9 f10 f11
  replace f3 := shm_116 f3
  replace f4 := shm_541 f4
  replace f5 := shm_542 f5
  replace f6 := shm_541 f6
  replace f7 := shm_542 f7
  replace f9 := shm_1444 f9
  replace f10 := shm_1445 f10
  replace f11 := shm_5 f11
  have q2 : n_v vs 2 = n_v vs 0 := f11.symm
  simp only [q2] at f3 f4 f5 f6 f7 f9 f10
  have cr_0_1 := fdq_39 hD hth r0
  have g3 : v_iv (n_v vs 4) = w_fi ws (n_v vs 0) 11 := congrArg v_iv f3
  have hK_0_1 := elq_7 hD hth cr_0_1
  have kz_0_10 := fdq_43 hD hth r0
  have kz_0_11 := fdq_237 hD hth r0
  have kz_0_13 := fdq_238 hD hth r0
  have kz_0_15 := fdq_239 hD hth r0
  have nf0 : fc_1 PRD (20, [2, 1], [60, 4, 1, 952, 10, 11, 13, 15, 1]) ws (vs) := by
    refine ⟨nf_in hl rfl, sgq_1448 ?_⟩
    · show ZXN (w_fi ws (n_v vs 2) 10) (w_fi ws (n_v vs 2) 11) (w_fi ws (n_v vs 2) 13) (w_fi ws (n_v vs 2) 15) (w_ei ws (w_ar ws (n_v vs 2) 1)) (v_iv (n_v vs 1))
      rw [q2]
      exact vc_Mo_next_28_0 (v_iv (n_v vs 1)) (v_iv (n_v vs 4)) (v_iv (n_v vs 5)) (v_iv (n_v vs 7)) (w_ei ws (w_ar ws (n_v vs 0) 1)) (w_fi ws (n_v vs 0) 10) (w_fi ws (n_v vs 0) 11) (w_fi ws (n_v vs 0) 15) (w_fi ws (n_v vs 0) 13) k1 k4 k5 k7 g3 f4 f5 f6 f7 f9 f10 hK_0_1 kz_0_10 kz_0_11 kz_0_13 kz_0_15
  refine ⟨(fun _ h => (by cases h)), [], trivial, ?_, (fun _ h => (by cases h))⟩
  rw [List.append_nil]
  exact List.forall_mem_cons.mpr ⟨⟨show (20 : Nat) < 100 from by decide, nf0⟩, (fun _ h => (by cases h))⟩
set_option maxHeartbeats 4000000 in
theorem vc_Mo_next_29_0 (x4 : Int) (x5 : Int) (x7 : Int) (x9 : Int) (tape_0 : Int → Int) (limit_0 : Int) (pos_0 : Int) (from_0 : Int) (k4 : 0 ≤ x4 ∧ x4 ≤ 1999) (k5 : 0 ≤ x5 ∧ x5 ≤ 64) (k7 : 0 ≤ x7 ∧ x7 ≤ 47) (k9 : (-1) ≤ x9 ∧ x9 ≤ (-1)) (f1 : ((x4 + 1) ≤ limit_0) → (x9 = (tape_0 (x4) % 256))) (f2 : (limit_0 ≤ x4) → (x9 = (-1))) (g3 : x4 = pos_0) (f4 : ((x4 + 1) ≤ limit_0) → (x7 = (tape_0 (x4) % 256))) (f5 : (limit_0 ≤ x4) → (x7 = (-1))) (f6 : ((x4 + 1) ≤ limit_0) → (x5 = (tape_0 (x4) % 256))) (f7 : (limit_0 ≤ x4) → (x5 = (-1))) (f9 : (from_0 ≤ pos_0) ∧ (((from_0 + 1) ≤ pos_0) ∨ ((pos_0 = from_0) ∧ (((from_0 + 1) ≤ limit_0) ∧ (((65 ≤ (tape_0 (from_0) % 256)) ∧ ((tape_0 (from_0) % 256) ≤ 90)) ∨ ((97 ≤ (tape_0 (from_0) % 256)) ∧ ((tape_0 (from_0) % 256) ≤ 122))))))) (hK_0_1 : ∀ j : Int, 0 ≤ j → j < 2000 → (-128) ≤ tape_0 j ∧ tape_0 j ≤ 127) (kz_0_10 : 0 ≤ limit_0 ∧ limit_0 ≤ 2000) (kz_0_11 : 0 ≤ pos_0 ∧ pos_0 ≤ 2000) (kz_0_15 : 0 ≤ from_0 ∧ from_0 ≤ 2000) : (from_0 + 1) ≤ pos_0 := by
  first | with_reducible assumption | ((have f9_c0 := f9.1); (have f9_c1 := f9.2); (try and_intros) <;> first | with_reducible assumption | (clear f9_c1 f9 hK_0_1 f1 f2 f4 f5 f6 f7; omega)) | ((have f9_c0 := f9.1); (have f9_c1 := f9.2); (first | have f1_b := f1 (by clear f9_c1 f9 hK_0_1 f1 f2 f4 f5 f6 f7; omega) | skip); (first | have f2_b := f2 (by clear f9_c1 f9 hK_0_1 f1 f2 f4 f5 f6 f7; omega) | skip); (first | have f4_b := f4 (by clear f9_c1 f9 hK_0_1 f1 f2 f4 f5 f6 f7; omega) | skip); (first | have f5_b := f5 (by clear f9_c1 f9 hK_0_1 f1 f2 f4 f5 f6 f7; omega) | skip); (first | have f6_b := f6 (by clear f9_c1 f9 hK_0_1 f1 f2 f4 f5 f6 f7; omega) | skip); (first | have f7_b := f7 (by clear f9_c1 f9 hK_0_1 f1 f2 f4 f5 f6 f7; omega) | skip); (first | have f1_d := f1 (by with_reducible assumption) | skip); (first | have f2_d := f2 (by with_reducible assumption) | skip); (first | have f4_d := f4 (by with_reducible assumption) | skip); (first | have f5_d := f5 (by with_reducible assumption) | skip); (first | have f6_d := f6 (by with_reducible assumption) | skip); (first | have f7_d := f7 (by with_reducible assumption) | skip); (try and_intros) <;> first | with_reducible assumption | (clear f9_c1 f9 hK_0_1 f1 f2 f4 f5 f6 f7; omega)) | omega
set_option maxHeartbeats 4000000 in
theorem vc_Mo_next_29_1 (x1 : Int) (x4 : Int) (x5 : Int) (x7 : Int) (tape_0 : Int → Int) (limit_0 : Int) (pos_0 : Int) (from_0 : Int) (place_0 : Int) (k1 : 0 ≤ x1 ∧ x1 ≤ 2000) (k4 : 0 ≤ x4 ∧ x4 ≤ 1999) (k5 : 0 ≤ x5 ∧ x5 ≤ 64) (k7 : 0 ≤ x7 ∧ x7 ≤ 47) (g3 : x4 = pos_0) (f4 : ((x4 + 1) ≤ limit_0) → (x7 = (tape_0 (x4) % 256))) (f5 : (limit_0 ≤ x4) → (x7 = (-1))) (f6 : ((x4 + 1) ≤ limit_0) → (x5 = (tape_0 (x4) % 256))) (f7 : (limit_0 ≤ x4) → (x5 = (-1))) (f9 : (from_0 ≤ pos_0) ∧ (((from_0 + 1) ≤ pos_0) ∨ ((pos_0 = from_0) ∧ (((from_0 + 1) ≤ limit_0) ∧ (((65 ≤ (tape_0 (from_0) % 256)) ∧ ((tape_0 (from_0) % 256) ≤ 90)) ∨ ((97 ≤ (tape_0 (from_0) % 256)) ∧ ((tape_0 (from_0) % 256) ≤ 122))))))) (f10 : ZXL (limit_0) (pos_0) (place_0) (from_0) (tape_0) (x1)) (kz_0_10 : 0 ≤ limit_0 ∧ limit_0 ≤ 2000) (kz_0_11 : 0 ≤ pos_0 ∧ pos_0 ≤ 2000) (kz_0_13 : 0 ≤ place_0 ∧ place_0 ≤ 2000) (kz_0_15 : 0 ≤ from_0 ∧ from_0 ≤ 2000) : ZXM (limit_0) (pos_0) (place_0) (from_0) (tape_0) (x1) := by
  first | subst g3 | skip
  exact zxm_mk ‹ZXL _ _ _ _ _ _› (fun q => by omega)
def o_Mo_next_29 : or_T := (147, 11, [(0, (2, 0, 0, [165])), (1, (0, 0, 2000, [])), (2, (2, 0, 0, [165])), (4, (0, 0, 1999, [])), (5, (0, 0, 64, [])), (7, (0, 0, 47, [])), (9, (0, -1, -1, [])), (10, (0, 95, 95, []))], [(7, [9, 10], [1]), (20, [4, 2, 9], [50, 1, 1, 1010, 1001, 4, 11, 0, 6, 4, 2, 1, 0, 0, 1, 2, 1, 10, 1, 2, 1, 2, 9, 5, 3, 1, 1, 1, 0, 0, 256]), (20, [2, 4, 9], [50, 1, 0, 10, 4, 7, 0, 3, 2, 0, 10, 1, 1, 1, 2, 1, 2, 0, -1]), (9, [4, 2], [11]), (20, [4, 2, 7], [50, 1, 1, 1010, 1001, 4, 11, 0, 6, 4, 2, 1, 0, 0, 1, 2, 1, 10, 1, 2, 1, 2, 9, 5, 3, 1, 1, 1, 0, 0, 256]), (20, [2, 4, 7], [50, 1, 0, 10, 4, 7, 0, 3, 2, 0, 10, 1, 1, 1, 2, 1, 2, 0, -1]), (20, [4, 2, 5], [50, 1, 1, 1010, 1001, 4, 11, 0, 6, 4, 2, 1, 0, 0, 1, 2, 1, 10, 1, 2, 1, 2, 9, 5, 3, 1, 1, 1, 0, 0, 256]), (20, [2, 4, 5], [50, 1, 0, 10, 4, 7, 0, 3, 2, 0, 10, 1, 1, 1, 2, 1, 2, 0, -1]), (20, [1, 2], [30, 0, 1, 0, 0, -1, 1, 15]), (20, [2], [50, 3, 1, 15, 11, 10, 1, 2, 8, 0, 3, 2, 0, 15, 2, 0, 11, 3, 12, 0, 7, 4, 3, 2, 0, 15, 0, 1, 2, 0, 11, 2, 8, 1, 3, 2, 0, 11, 2, 0, 15, 2, 12, 0, 7, 4, 3, 2, 0, 15, 0, 1, 2, 0, 10, 3, 30, 2, 14, 0, 2, 0, 65, 9, 6, 3, 0, 1, 2, 0, 15, 0, 256, 0, 10, 9, 6, 3, 0, 1, 2, 0, 15, 0, 256, 0, 90, 2, 14, 0, 2, 0, 97, 9, 6, 3, 0, 1, 2, 0, 15, 0, 256, 0, 10, 9, 6, 3, 0, 1, 2, 0, 15, 0, 256, 0, 122]), (20, [2, 1], [60, 4, 1, 951, 10, 11, 13, 15, 1]), (24, [0, 2], [])], [], [], [(20, [2], [50, 2, 0, 15, 11, 0, 7, 4, 3, 2, 0, 15, 0, 1, 2, 0, 11]), (20, [2, 1], [60, 4, 1, 953, 10, 11, 13, 15, 1])], [], [])
theorem oo_Mo_next_29 {kA : Nat → ClassId} : or_ok PRD kA GG o_Mo_next_29 := by
  refine or_mk fun A ta ws vs hD hth hl => ?_
  intro t0 r0 t1 k1 t2 r2 t4 k4 t5 k5 t7 k7 t9 k9 t10 k10 f0 f1 f2 f3 f4 f5 f6 f7 f8 f9 f10 f11
  replace f1 := shm_541 f1
  replace f2 := shm_542 f2
  replace f3 := shm_116 f3
  replace f4 := shm_541 f4
  replace f5 := shm_542 f5
  replace f6 := shm_541 f6
  replace f7 := shm_542 f7
  replace f9 := shm_1444 f9
  replace f10 := shm_1445 f10
  replace f11 := shm_5 f11
  have q2 : n_v vs 2 = n_v vs 0 := f11.symm
  simp only [q2] at f1 f2 f3 f4 f5 f6 f7 f9 f10
  have cr_0_1 := fdq_39 hD hth r0
  have g3 : v_iv (n_v vs 4) = w_fi ws (n_v vs 0) 11 := congrArg v_iv f3
  have hK_0_1 := elq_7 hD hth cr_0_1
  have kz_0_10 := fdq_43 hD hth r0
  have kz_0_11 := fdq_237 hD hth r0
  have kz_0_13 := fdq_238 hD hth r0
  have kz_0_15 := fdq_239 hD hth r0
  have nf0 : fc_1 PRD (20, [2], [50, 2, 0, 15, 11, 0, 7, 4, 3, 2, 0, 15, 0, 1, 2, 0, 11]) ws (vs) := by
    refine ⟨nf_in hl rfl, sgq_1446 ?_⟩
    · show (w_fi ws (n_v vs 2) 15 + 1) ≤ w_fi ws (n_v vs 2) 11
      rw [q2]
      exact vc_Mo_next_29_0 (v_iv (n_v vs 4)) (v_iv (n_v vs 5)) (v_iv (n_v vs 7)) (v_iv (n_v vs 9)) (w_ei ws (w_ar ws (n_v vs 0) 1)) (w_fi ws (n_v vs 0) 10) (w_fi ws (n_v vs 0) 11) (w_fi ws (n_v vs 0) 15) k4 k5 k7 k9 f1 f2 g3 f4 f5 f6 f7 f9 hK_0_1 kz_0_10 kz_0_11 kz_0_15
  have nf1 : fc_1 PRD (20, [2, 1], [60, 4, 1, 953, 10, 11, 13, 15, 1]) ws (vs) := by
    refine ⟨nf_in hl rfl, sgq_1447 ?_⟩
    · show ZXM (w_fi ws (n_v vs 2) 10) (w_fi ws (n_v vs 2) 11) (w_fi ws (n_v vs 2) 13) (w_fi ws (n_v vs 2) 15) (w_ei ws (w_ar ws (n_v vs 2) 1)) (v_iv (n_v vs 1))
      rw [q2]
      exact vc_Mo_next_29_1 (v_iv (n_v vs 1)) (v_iv (n_v vs 4)) (v_iv (n_v vs 5)) (v_iv (n_v vs 7)) (w_ei ws (w_ar ws (n_v vs 0) 1)) (w_fi ws (n_v vs 0) 10) (w_fi ws (n_v vs 0) 11) (w_fi ws (n_v vs 0) 15) (w_fi ws (n_v vs 0) 13) k1 k4 k5 k7 g3 f4 f5 f6 f7 f9 f10 kz_0_10 kz_0_11 kz_0_13 kz_0_15
  refine ⟨(fun _ h => (by cases h)), [], trivial, ?_, (fun _ h => (by cases h))⟩
  rw [List.append_nil]
  exact List.forall_mem_cons.mpr ⟨⟨show (20 : Nat) < 100 from by decide, nf0⟩, List.forall_mem_cons.mpr ⟨⟨show (20 : Nat) < 100 from by decide, nf1⟩, (fun _ h => (by cases h))⟩⟩
set_option maxHeartbeats 4000000 in
theorem vc_Mo_next_30_0 (x1 : Int) (x4 : Int) (x5 : Int) (x7 : Int) (x9 : Int) (x10 : Int) (tape_0 : Int → Int) (limit_0 : Int) (pos_0 : Int) (from_0 : Int) (place_0 : Int) (k1 : 0 ≤ x1 ∧ x1 ≤ 2000) (k4 : 0 ≤ x4 ∧ x4 ≤ 1999) (k5 : 0 ≤ x5 ∧ x5 ≤ 64) (k7 : 0 ≤ x7 ∧ x7 ≤ 47) (k9 : 0 ≤ x9 ∧ x9 ≤ 255) (k10 : 95 ≤ x10 ∧ x10 ≤ 95) (f0 : x9 ≠ x10) (f1 : ((x4 + 1) ≤ limit_0) → (x9 = (tape_0 (x4) % 256))) (f2 : (limit_0 ≤ x4) → (x9 = (-1))) (g3 : x4 = pos_0) (f4 : ((x4 + 1) ≤ limit_0) → (x7 = (tape_0 (x4) % 256))) (f5 : (limit_0 ≤ x4) → (x7 = (-1))) (f6 : ((x4 + 1) ≤ limit_0) → (x5 = (tape_0 (x4) % 256))) (f7 : (limit_0 ≤ x4) → (x5 = (-1))) (f8 : 1 * x1 + ((-1) * from_0 + 0) ≤ 0) (f9 : (from_0 ≤ pos_0) ∧ (((from_0 + 1) ≤ pos_0) ∨ ((pos_0 = from_0) ∧ (((from_0 + 1) ≤ limit_0) ∧ (((65 ≤ (tape_0 (from_0) % 256)) ∧ ((tape_0 (from_0) % 256) ≤ 90)) ∨ ((97 ≤ (tape_0 (from_0) % 256)) ∧ ((tape_0 (from_0) % 256) ≤ 122))))))) (f10 : ZXL (limit_0) (pos_0) (place_0) (from_0) (tape_0) (x1)) (hK_0_1 : ∀ j : Int, 0 ≤ j → j < 2000 → (-128) ≤ tape_0 j ∧ tape_0 j ≤ 127) (kz_0_10 : 0 ≤ limit_0 ∧ limit_0 ≤ 2000) (kz_0_11 : 0 ≤ pos_0 ∧ pos_0 ≤ 2000) (kz_0_13 : 0 ≤ place_0 ∧ place_0 ≤ 2000) (kz_0_15 : 0 ≤ from_0 ∧ from_0 ≤ 2000) : (from_0 + 1) ≤ pos_0 := by
  by_cases q : from_0 = x4
  · have e : tape_0 from_0 = tape_0 x4 := by rw [q]
    omega
  · omega
set_option maxHeartbeats 4000000 in
theorem vc_Mo_next_30_1 (x1 : Int) (x4 : Int) (x5 : Int) (x7 : Int) (tape_0 : Int → Int) (limit_0 : Int) (pos_0 : Int) (from_0 : Int) (place_0 : Int) (k1 : 0 ≤ x1 ∧ x1 ≤ 2000) (k4 : 0 ≤ x4 ∧ x4 ≤ 1999) (k5 : 0 ≤ x5 ∧ x5 ≤ 64) (k7 : 0 ≤ x7 ∧ x7 ≤ 47) (g3 : x4 = pos_0) (f4 : ((x4 + 1) ≤ limit_0) → (x7 = (tape_0 (x4) % 256))) (f5 : (limit_0 ≤ x4) → (x7 = (-1))) (f6 : ((x4 + 1) ≤ limit_0) → (x5 = (tape_0 (x4) % 256))) (f7 : (limit_0 ≤ x4) → (x5 = (-1))) (f9 : (from_0 ≤ pos_0) ∧ (((from_0 + 1) ≤ pos_0) ∨ ((pos_0 = from_0) ∧ (((from_0 + 1) ≤ limit_0) ∧ (((65 ≤ (tape_0 (from_0) % 256)) ∧ ((tape_0 (from_0) % 256) ≤ 90)) ∨ ((97 ≤ (tape_0 (from_0) % 256)) ∧ ((tape_0 (from_0) % 256) ≤ 122))))))) (f10 : ZXL (limit_0) (pos_0) (place_0) (from_0) (tape_0) (x1)) (kz_0_10 : 0 ≤ limit_0 ∧ limit_0 ≤ 2000) (kz_0_11 : 0 ≤ pos_0 ∧ pos_0 ≤ 2000) (kz_0_13 : 0 ≤ place_0 ∧ place_0 ≤ 2000) (kz_0_15 : 0 ≤ from_0 ∧ from_0 ≤ 2000) : ZXM (limit_0) (pos_0) (place_0) (from_0) (tape_0) (x1) := by
  first | subst g3 | skip
  exact zxm_mk ‹ZXL _ _ _ _ _ _› (fun q => by omega)
def o_Mo_next_30 : or_T := (147, 11, [(0, (2, 0, 0, [165])), (1, (0, 0, 2000, [])), (2, (2, 0, 0, [165])), (4, (0, 0, 1999, [])), (5, (0, 0, 64, [])), (7, (0, 0, 47, [])), (9, (0, 0, 255, [])), (10, (0, 95, 95, []))], [(7, [9, 10], [1]), (20, [4, 2, 9], [50, 1, 1, 1010, 1001, 4, 11, 0, 6, 4, 2, 1, 0, 0, 1, 2, 1, 10, 1, 2, 1, 2, 9, 5, 3, 1, 1, 1, 0, 0, 256]), (20, [2, 4, 9], [50, 1, 0, 10, 4, 7, 0, 3, 2, 0, 10, 1, 1, 1, 2, 1, 2, 0, -1]), (9, [4, 2], [11]), (20, [4, 2, 7], [50, 1, 1, 1010, 1001, 4, 11, 0, 6, 4, 2, 1, 0, 0, 1, 2, 1, 10, 1, 2, 1, 2, 9, 5, 3, 1, 1, 1, 0, 0, 256]), (20, [2, 4, 7], [50, 1, 0, 10, 4, 7, 0, 3, 2, 0, 10, 1, 1, 1, 2, 1, 2, 0, -1]), (20, [4, 2, 5], [50, 1, 1, 1010, 1001, 4, 11, 0, 6, 4, 2, 1, 0, 0, 1, 2, 1, 10, 1, 2, 1, 2, 9, 5, 3, 1, 1, 1, 0, 0, 256]), (20, [2, 4, 5], [50, 1, 0, 10, 4, 7, 0, 3, 2, 0, 10, 1, 1, 1, 2, 1, 2, 0, -1]), (20, [1, 2], [30, 0, 1, 0, 0, -1, 1, 15]), (20, [2], [50, 3, 1, 15, 11, 10, 1, 2, 8, 0, 3, 2, 0, 15, 2, 0, 11, 3, 12, 0, 7, 4, 3, 2, 0, 15, 0, 1, 2, 0, 11, 2, 8, 1, 3, 2, 0, 11, 2, 0, 15, 2, 12, 0, 7, 4, 3, 2, 0, 15, 0, 1, 2, 0, 10, 3, 30, 2, 14, 0, 2, 0, 65, 9, 6, 3, 0, 1, 2, 0, 15, 0, 256, 0, 10, 9, 6, 3, 0, 1, 2, 0, 15, 0, 256, 0, 90, 2, 14, 0, 2, 0, 97, 9, 6, 3, 0, 1, 2, 0, 15, 0, 256, 0, 10, 9, 6, 3, 0, 1, 2, 0, 15, 0, 256, 0, 122]), (20, [2, 1], [60, 4, 1, 951, 10, 11, 13, 15, 1]), (24, [0, 2], [])], [], [], [(20, [2], [50, 2, 0, 15, 11, 0, 7, 4, 3, 2, 0, 15, 0, 1, 2, 0, 11]), (20, [2, 1], [60, 4, 1, 953, 10, 11, 13, 15, 1])], [], [])
theorem oo_Mo_next_30 {kA : Nat → ClassId} : or_ok PRD kA GG o_Mo_next_30 := by
  refine or_mk fun A ta ws vs hD hth hl => ?_
  intro t0 r0 t1 k1 t2 r2 t4 k4 t5 k5 t7 k7 t9 k9 t10 k10 f0 f1 f2 f3 f4 f5 f6 f7 f8 f9 f10 f11
  replace f0 := shm_40 f0
  replace f1 := shm_541 f1
  replace f2 := shm_542 f2
  replace f3 := shm_116 f3
  replace f4 := shm_541 f4
  replace f5 := shm_542 f5
  replace f6 := shm_541 f6
  replace f7 := shm_542 f7
  replace f8 := shm_1436 f8
  replace f9 := shm_1444 f9
  replace f10 := shm_1445 f10
  replace f11 := shm_5 f11
  have q2 : n_v vs 2 = n_v vs 0 := f11.symm
  simp only [q2] at f1 f2 f3 f4 f5 f6 f7 f8 f9 f10
  have cr_0_1 := fdq_39 hD hth r0
  have g3 : v_iv (n_v vs 4) = w_fi ws (n_v vs 0) 11 := congrArg v_iv f3
  have hK_0_1 := elq_7 hD hth cr_0_1
  have kz_0_10 := fdq_43 hD hth r0
  have kz_0_11 := fdq_237 hD hth r0
  have kz_0_13 := fdq_238 hD hth r0
  have kz_0_15 := fdq_239 hD hth r0
  have nf0 : fc_1 PRD (20, [2], [50, 2, 0, 15, 11, 0, 7, 4, 3, 2, 0, 15, 0, 1, 2, 0, 11]) ws (vs) := by
    refine ⟨nf_in hl rfl, sgq_1446 ?_⟩
    · show (w_fi ws (n_v vs 2) 15 + 1) ≤ w_fi ws (n_v vs 2) 11
      rw [q2]
      exact vc_Mo_next_30_0 (v_iv (n_v vs 1)) (v_iv (n_v vs 4)) (v_iv (n_v vs 5)) (v_iv (n_v vs 7)) (v_iv (n_v vs 9)) (v_iv (n_v vs 10)) (w_ei ws (w_ar ws (n_v vs 0) 1)) (w_fi ws (n_v vs 0) 10) (w_fi ws (n_v vs 0) 11) (w_fi ws (n_v vs 0) 15) (w_fi ws (n_v vs 0) 13) k1 k4 k5 k7 k9 k10 f0 f1 f2 g3 f4 f5 f6 f7 f8 f9 f10 hK_0_1 kz_0_10 kz_0_11 kz_0_13 kz_0_15
  have nf1 : fc_1 PRD (20, [2, 1], [60, 4, 1, 953, 10, 11, 13, 15, 1]) ws (vs) := by
    refine ⟨nf_in hl rfl, sgq_1447 ?_⟩
    · show ZXM (w_fi ws (n_v vs 2) 10) (w_fi ws (n_v vs 2) 11) (w_fi ws (n_v vs 2) 13) (w_fi ws (n_v vs 2) 15) (w_ei ws (w_ar ws (n_v vs 2) 1)) (v_iv (n_v vs 1))
      rw [q2]
      exact vc_Mo_next_30_1 (v_iv (n_v vs 1)) (v_iv (n_v vs 4)) (v_iv (n_v vs 5)) (v_iv (n_v vs 7)) (w_ei ws (w_ar ws (n_v vs 0) 1)) (w_fi ws (n_v vs 0) 10) (w_fi ws (n_v vs 0) 11) (w_fi ws (n_v vs 0) 15) (w_fi ws (n_v vs 0) 13) k1 k4 k5 k7 g3 f4 f5 f6 f7 f9 f10 kz_0_10 kz_0_11 kz_0_13 kz_0_15
  refine ⟨(fun _ h => (by cases h)), [], trivial, ?_, (fun _ h => (by cases h))⟩
  rw [List.append_nil]
  exact List.forall_mem_cons.mpr ⟨⟨show (20 : Nat) < 100 from by decide, nf0⟩, List.forall_mem_cons.mpr ⟨⟨show (20 : Nat) < 100 from by decide, nf1⟩, (fun _ h => (by cases h))⟩⟩
set_option maxHeartbeats 4000000 in
theorem vc_Mo_next_31_0 (x1 : Int) (x4 : Int) (x5 : Int) (x7 : Int) (x9 : Int) (tape_0 : Int → Int) (limit_0 : Int) (pos_0 : Int) (from_0 : Int) (place_0 : Int) (k1 : 0 ≤ x1 ∧ x1 ≤ 2000) (k4 : 0 ≤ x4 ∧ x4 ≤ 1999) (k5 : 0 ≤ x5 ∧ x5 ≤ 64) (k7 : 0 ≤ x7 ∧ x7 ≤ 47) (k9 : 95 ≤ x9 ∧ x9 ≤ 95) (f1 : ((x4 + 1) ≤ limit_0) → (x9 = (tape_0 (x4) % 256))) (f2 : (limit_0 ≤ x4) → (x9 = (-1))) (g3 : x4 = pos_0) (f4 : ((x4 + 1) ≤ limit_0) → (x7 = (tape_0 (x4) % 256))) (f5 : (limit_0 ≤ x4) → (x7 = (-1))) (f6 : ((x4 + 1) ≤ limit_0) → (x5 = (tape_0 (x4) % 256))) (f7 : (limit_0 ≤ x4) → (x5 = (-1))) (f9 : (from_0 ≤ pos_0) ∧ (((from_0 + 1) ≤ pos_0) ∨ ((pos_0 = from_0) ∧ (((from_0 + 1) ≤ limit_0) ∧ (((65 ≤ (tape_0 (from_0) % 256)) ∧ ((tape_0 (from_0) % 256) ≤ 90)) ∨ ((97 ≤ (tape_0 (from_0) % 256)) ∧ ((tape_0 (from_0) % 256) ≤ 122))))))) (f10 : ZXL (limit_0) (pos_0) (place_0) (from_0) (tape_0) (x1)) (hK_0_1 : ∀ j : Int, 0 ≤ j → j < 2000 → (-128) ≤ tape_0 j ∧ tape_0 j ≤ 127) (kz_0_10 : 0 ≤ limit_0 ∧ limit_0 ≤ 2000) (kz_0_11 : 0 ≤ pos_0 ∧ pos_0 ≤ 2000) (kz_0_13 : 0 ≤ place_0 ∧ place_0 ≤ 2000) (kz_0_15 : 0 ≤ from_0 ∧ from_0 ≤ 2000) : ZXN (limit_0) (pos_0) (place_0) (from_0) (tape_0) (x1) := by
  first | subst g3 | skip
  exact zxn_mk (by assumption) ‹ZXL _ _ _ _ _ _› (by omega) (by omega)
def o_Mo_next_31 : or_T := (134, 11, [(0, (2, 0, 0, [165])), (1, (0, 0, 2000, [])), (2, (2, 0, 0, [165])), (4, (0, 0, 1999, [])), (5, (0, 0, 64, [])), (7, (0, 0, 47, [])), (9, (0, 95, 95, [])), (10, (0, 95, 95, []))], [(7, [9, 10], [0]), (20, [4, 2, 9], [50, 1, 1, 1010, 1001, 4, 11, 0, 6, 4, 2, 1, 0, 0, 1, 2, 1, 10, 1, 2, 1, 2, 9, 5, 3, 1, 1, 1, 0, 0, 256]), (20, [2, 4, 9], [50, 1, 0, 10, 4, 7, 0, 3, 2, 0, 10, 1, 1, 1, 2, 1, 2, 0, -1]), (9, [4, 2], [11]), (20, [4, 2, 7], [50, 1, 1, 1010, 1001, 4, 11, 0, 6, 4, 2, 1, 0, 0, 1, 2, 1, 10, 1, 2, 1, 2, 9, 5, 3, 1, 1, 1, 0, 0, 256]), (20, [2, 4, 7], [50, 1, 0, 10, 4, 7, 0, 3, 2, 0, 10, 1, 1, 1, 2, 1, 2, 0, -1]), (20, [4, 2, 5], [50, 1, 1, 1010, 1001, 4, 11, 0, 6, 4, 2, 1, 0, 0, 1, 2, 1, 10, 1, 2, 1, 2, 9, 5, 3, 1, 1, 1, 0, 0, 256]), (20, [2, 4, 5], [50, 1, 0, 10, 4, 7, 0, 3, 2, 0, 10, 1, 1, 1, 2, 1, 2, 0, -1]), (20, [1, 2], [30, 0, 1, 0, 0, -1, 1, 15]), (20, [2], [50, 3, 1, 15, 11, 10, 1, 2, 8, 0, 3, 2, 0, 15, 2, 0, 11, 3, 12, 0, 7, 4, 3, 2, 0, 15, 0, 1, 2, 0, 11, 2, 8, 1, 3, 2, 0, 11, 2, 0, 15, 2, 12, 0, 7, 4, 3, 2, 0, 15, 0, 1, 2, 0, 10, 3, 30, 2, 14, 0, 2, 0, 65, 9, 6, 3, 0, 1, 2, 0, 15, 0, 256, 0, 10, 9, 6, 3, 0, 1, 2, 0, 15, 0, 256, 0, 90, 2, 14, 0, 2, 0, 97, 9, 6, 3, 0, 1, 2, 0, 15, 0, 256, 0, 10, 9, 6, 3, 0, 1, 2, 0, 15, 0, 256, 0, 122]), (20, [2, 1], [60, 4, 1, 951, 10, 11, 13, 15, 1]), (24, [0, 2], [])], [], [], [(20, [2, 1], [60, 4, 1, 952, 10, 11, 13, 15, 1])], [], [])
theorem oo_Mo_next_31 {kA : Nat → ClassId} : or_ok PRD kA GG o_Mo_next_31 := by
  refine or_mk fun A ta ws vs hD hth hl => ?_
  intro t0 r0 t1 k1 t2 r2 t4 k4 t5 k5 t7 k7 t9 k9 t10 k10 f0 f1 f2 f3 f4 f5 f6 f7 f8 f9 f10 f11
  replace f1 := shm_541 f1
  replace f2 := shm_542 f2
  replace f3 := shm_116 f3
  replace f4 := shm_541 f4
  replace f5 := shm_542 f5
  replace f6 := shm_541 f6
  replace f7 := shm_542 f7
  replace f9 := shm_1444 f9
  replace f10 := shm_1445 f10
  replace f11 := shm_5 f11
  have q2 : n_v vs 2 = n_v vs 0 := f11.symm
  simp only [q2] at f1 f2 f3 f4 f5 f6 f7 f9 f10
  have cr_0_1 := fdq_39 hD hth r0
  have g3 : v_iv (n_v vs 4) = w_fi ws (n_v vs 0) 11 := congrArg v_iv f3
  have hK_0_1 := elq_7 hD hth cr_0_1
  have kz_0_10 := fdq_43 hD hth r0
  have kz_0_11 := fdq_237 hD hth r0
  have kz_0_13 := fdq_238 hD hth r0
  have kz_0_15 := fdq_239 hD hth r0
  have nf0 : fc_1 PRD (20, [2, 1], [60, 4, 1, 952, 10, 11, 13, 15, 1]) ws (vs) := by
    refine ⟨nf_in hl rfl, sgq_1448 ?_⟩
    · show ZXN (w_fi ws (n_v vs 2) 10) (w_fi ws (n_v vs 2) 11) (w_fi ws (n_v vs 2) 13) (w_fi ws (n_v vs 2) 15) (w_ei ws (w_ar ws (n_v vs 2) 1)) (v_iv (n_v vs 1))
      rw [q2]
      exact vc_Mo_next_31_0 (v_iv (n_v vs 1)) (v_iv (n_v vs 4)) (v_iv (n_v vs 5)) (v_iv (n_v vs 7)) (v_iv (n_v vs 9)) (w_ei ws (w_ar ws (n_v vs 0) 1)) (w_fi ws (n_v vs 0) 10) (w_fi ws (n_v vs 0) 11) (w_fi ws (n_v vs 0) 15) (w_fi ws (n_v vs 0) 13) k1 k4 k5 k7 k9 f1 f2 g3 f4 f5 f6 f7 f9 f10 hK_0_1 kz_0_10 kz_0_11 kz_0_13 kz_0_15
  refine ⟨(fun _ h => (by cases h)), [], trivial, ?_, (fun _ h => (by cases h))⟩
  rw [List.append_nil]
  exact List.forall_mem_cons.mpr ⟨⟨show (20 : Nat) < 100 from by decide, nf0⟩, (fun _ h => (by cases h))⟩
set_option maxHeartbeats 4000000 in
theorem vc_Mo_next_32_0 (x4 : Int) (x5 : Int) (x7 : Int) (x9 : Int) (tape_0 : Int → Int) (limit_0 : Int) (pos_0 : Int) (from_0 : Int) (k4 : 0 ≤ x4 ∧ x4 ≤ 1999) (k5 : 0 ≤ x5 ∧ x5 ≤ 64) (k7 : 58 ≤ x7 ∧ x7 ≤ 255) (k9 : (-1) ≤ x9 ∧ x9 ≤ (-1)) (f1 : ((x4 + 1) ≤ limit_0) → (x9 = (tape_0 (x4) % 256))) (f2 : (limit_0 ≤ x4) → (x9 = (-1))) (g3 : x4 = pos_0) (f4 : ((x4 + 1) ≤ limit_0) → (x7 = (tape_0 (x4) % 256))) (f5 : (limit_0 ≤ x4) → (x7 = (-1))) (f6 : ((x4 + 1) ≤ limit_0) → (x5 = (tape_0 (x4) % 256))) (f7 : (limit_0 ≤ x4) → (x5 = (-1))) (f9 : (from_0 ≤ pos_0) ∧ (((from_0 + 1) ≤ pos_0) ∨ ((pos_0 = from_0) ∧ (((from_0 + 1) ≤ limit_0) ∧ (((65 ≤ (tape_0 (from_0) % 256)) ∧ ((tape_0 (from_0) % 256) ≤ 90)) ∨ ((97 ≤ (tape_0 (from_0) % 256)) ∧ ((tape_0 (from_0) % 256) ≤ 122))))))) (hK_0_1 : ∀ j : Int, 0 ≤ j → j < 2000 → (-128) ≤ tape_0 j ∧ tape_0 j ≤ 127) (kz_0_10 : 0 ≤ limit_0 ∧ limit_0 ≤ 2000) (kz_0_11 : 0 ≤ pos_0 ∧ pos_0 ≤ 2000) (kz_0_15 : 0 ≤ from_0 ∧ from_0 ≤ 2000) : (from_0 + 1) ≤ pos_0 := by
  first | with_reducible assumption | ((have f9_c0 := f9.1); (have f9_c1 := f9.2); (try and_intros) <;> first | with_reducible assumption | (clear f9_c1 f9 hK_0_1 f1 f2 f4 f5 f6 f7; omega)) | ((have f9_c0 := f9.1); (have f9_c1 := f9.2); (first | have f1_b := f1 (by clear f9_c1 f9 hK_0_1 f1 f2 f4 f5 f6 f7; omega) | skip); (first | have f2_b := f2 (by clear f9_c1 f9 hK_0_1 f1 f2 f4 f5 f6 f7; omega) | skip); (first | have f4_b := f4 (by clear f9_c1 f9 hK_0_1 f1 f2 f4 f5 f6 f7; omega) | skip); (first | have f5_b := f5 (by clear f9_c1 f9 hK_0_1 f1 f2 f4 f5 f6 f7; omega) | skip); (first | have f6_b := f6 (by clear f9_c1 f9 hK_0_1 f1 f2 f4 f5 f6 f7; omega) | skip); (first | have f7_b := f7 (by clear f9_c1 f9 hK_0_1 f1 f2 f4 f5 f6 f7; omega) | skip); (first | have f1_d := f1 (by with_reducible assumption) | skip); (first | have f2_d := f2 (by with_reducible assumption) | skip); (first | have f4_d := f4 (by with_reducible assumption) | skip); (first | have f5_d := f5 (by with_reducible assumption) | skip); (first | have f6_d := f6 (by with_reducible assumption) | skip); (first | have f7_d := f7 (by with_reducible assumption) | skip); (try and_intros) <;> first | with_reducible assumption | (clear f9_c1 f9 hK_0_1 f1 f2 f4 f5 f6 f7; omega)) | omega
set_option maxHeartbeats 4000000 in
theorem vc_Mo_next_32_1 (x1 : Int) (x4 : Int) (x5 : Int) (x7 : Int) (tape_0 : Int → Int) (limit_0 : Int) (pos_0 : Int) (from_0 : Int) (place_0 : Int) (k1 : 0 ≤ x1 ∧ x1 ≤ 2000) (k4 : 0 ≤ x4 ∧ x4 ≤ 1999) (k5 : 0 ≤ x5 ∧ x5 ≤ 64) (k7 : 58 ≤ x7 ∧ x7 ≤ 255) (g3 : x4 = pos_0) (f4 : ((x4 + 1) ≤ limit_0) → (x7 = (tape_0 (x4) % 256))) (f5 : (limit_0 ≤ x4) → (x7 = (-1))) (f6 : ((x4 + 1) ≤ limit_0) → (x5 = (tape_0 (x4) % 256))) (f7 : (limit_0 ≤ x4) → (x5 = (-1))) (f9 : (from_0 ≤ pos_0) ∧ (((from_0 + 1) ≤ pos_0) ∨ ((pos_0 = from_0) ∧ (((from_0 + 1) ≤ limit_0) ∧ (((65 ≤ (tape_0 (from_0) % 256)) ∧ ((tape_0 (from_0) % 256) ≤ 90)) ∨ ((97 ≤ (tape_0 (from_0) % 256)) ∧ ((tape_0 (from_0) % 256) ≤ 122))))))) (f10 : ZXL (limit_0) (pos_0) (place_0) (from_0) (tape_0) (x1)) (kz_0_10 : 0 ≤ limit_0 ∧ limit_0 ≤ 2000) (kz_0_11 : 0 ≤ pos_0 ∧ pos_0 ≤ 2000) (kz_0_13 : 0 ≤ place_0 ∧ place_0 ≤ 2000) (kz_0_15 : 0 ≤ from_0 ∧ from_0 ≤ 2000) : ZXM (limit_0) (pos_0) (place_0) (from_0) (tape_0) (x1) := by
  first | subst g3 | skip
  exact zxm_mk ‹ZXL _ _ _ _ _ _› (fun q => by omega)
def o_Mo_next_32 : or_T := (147, 11, [(0, (2, 0, 0, [165])), (1, (0, 0, 2000, [])), (2, (2, 0, 0, [165])), (4, (0, 0, 1999, [])), (5, (0, 0, 64, [])), (7, (0, 58, 255, [])), (9, (0, -1, -1, [])), (10, (0, 95, 95, []))], [(7, [9, 10], [1]), (20, [4, 2, 9], [50, 1, 1, 1010, 1001, 4, 11, 0, 6, 4, 2, 1, 0, 0, 1, 2, 1, 10, 1, 2, 1, 2, 9, 5, 3, 1, 1, 1, 0, 0, 256]), (20, [2, 4, 9], [50, 1, 0, 10, 4, 7, 0, 3, 2, 0, 10, 1, 1, 1, 2, 1, 2, 0, -1]), (9, [4, 2], [11]), (20, [4, 2, 7], [50, 1, 1, 1010, 1001, 4, 11, 0, 6, 4, 2, 1, 0, 0, 1, 2, 1, 10, 1, 2, 1, 2, 9, 5, 3, 1, 1, 1, 0, 0, 256]), (20, [2, 4, 7], [50, 1, 0, 10, 4, 7, 0, 3, 2, 0, 10, 1, 1, 1, 2, 1, 2, 0, -1]), (20, [4, 2, 5], [50, 1, 1, 1010, 1001, 4, 11, 0, 6, 4, 2, 1, 0, 0, 1, 2, 1, 10, 1, 2, 1, 2, 9, 5, 3, 1, 1, 1, 0, 0, 256]), (20, [2, 4, 5], [50, 1, 0, 10, 4, 7, 0, 3, 2, 0, 10, 1, 1, 1, 2, 1, 2, 0, -1]), (20, [1, 2], [30, 0, 1, 0, 0, -1, 1, 15]), (20, [2], [50, 3, 1, 15, 11, 10, 1, 2, 8, 0, 3, 2, 0, 15, 2, 0, 11, 3, 12, 0, 7, 4, 3, 2, 0, 15, 0, 1, 2, 0, 11, 2, 8, 1, 3, 2, 0, 11, 2, 0, 15, 2, 12, 0, 7, 4, 3, 2, 0, 15, 0, 1, 2, 0, 10, 3, 30, 2, 14, 0, 2, 0, 65, 9, 6, 3, 0, 1, 2, 0, 15, 0, 256, 0, 10, 9, 6, 3, 0, 1, 2, 0, 15, 0, 256, 0, 90, 2, 14, 0, 2, 0, 97, 9, 6, 3, 0, 1, 2, 0, 15, 0, 256, 0, 10, 9, 6, 3, 0, 1, 2, 0, 15, 0, 256, 0, 122]), (20, [2, 1], [60, 4, 1, 951, 10, 11, 13, 15, 1]), (24, [0, 2], [])], [], [], [(20, [2], [50, 2, 0, 15, 11, 0, 7, 4, 3, 2, 0, 15, 0, 1, 2, 0, 11]), (20, [2, 1], [60, 4, 1, 953, 10, 11, 13, 15, 1])], [], [])
theorem oo_Mo_next_32 {kA : Nat → ClassId} : or_ok PRD kA GG o_Mo_next_32 := by
  refine or_mk fun A ta ws vs hD hth hl => ?_
  intro t0 r0 t1 k1 t2 r2 t4 k4 t5 k5 t7 k7 t9 k9 t10 k10 f0 f1 f2 f3 f4 f5 f6 f7 f8 f9 f10 f11
  replace f1 := shm_541 f1
  replace f2 := shm_542 f2
  replace f3 := shm_116 f3
  replace f4 := shm_541 f4
  replace f5 := shm_542 f5
  replace f6 := shm_541 f6
  replace f7 := shm_542 f7
  replace f9 := shm_1444 f9
  replace f10 := shm_1445 f10
  replace f11 := shm_5 f11
  have q2 : n_v vs 2 = n_v vs 0 := f11.symm
  simp only [q2] at f1 f2 f3 f4 f5 f6 f7 f9 f10
  have cr_0_1 := fdq_39 hD hth r0
  have g3 : v_iv (n_v vs 4) = w_fi ws (n_v vs 0) 11 := congrArg v_iv f3
  have hK_0_1 := elq_7 hD hth cr_0_1
  have kz_0_10 := fdq_43 hD hth r0
  have kz_0_11 := fdq_237 hD hth r0
  have kz_0_13 := fdq_238 hD hth r0
  have kz_0_15 := fdq_239 hD hth r0
  have nf0 : fc_1 PRD (20, [2], [50, 2, 0, 15, 11, 0, 7, 4, 3, 2, 0, 15, 0, 1, 2, 0, 11]) ws (vs) := by
    refine ⟨nf_in hl rfl, sgq_1446 ?_⟩
    · show (w_fi ws (n_v vs 2) 15 + 1) ≤ w_fi ws (n_v vs 2) 11
      rw [q2]
      exact vc_Mo_next_32_0 (v_iv (n_v vs 4)) (v_iv (n_v vs 5)) (v_iv (n_v vs 7)) (v_iv (n_v vs 9)) (w_ei ws (w_ar ws (n_v vs 0) 1)) (w_fi ws (n_v vs 0) 10) (w_fi ws (n_v vs 0) 11) (w_fi ws (n_v vs 0) 15) k4 k5 k7 k9 f1 f2 g3 f4 f5 f6 f7 f9 hK_0_1 kz_0_10 kz_0_11 kz_0_15
  have nf1 : fc_1 PRD (20, [2, 1], [60, 4, 1, 953, 10, 11, 13, 15, 1]) ws (vs) := by
    refine ⟨nf_in hl rfl, sgq_1447 ?_⟩
    · show ZXM (w_fi ws (n_v vs 2) 10) (w_fi ws (n_v vs 2) 11) (w_fi ws (n_v vs 2) 13) (w_fi ws (n_v vs 2) 15) (w_ei ws (w_ar ws (n_v vs 2) 1)) (v_iv (n_v vs 1))
      rw [q2]
      exact vc_Mo_next_32_1 (v_iv (n_v vs 1)) (v_iv (n_v vs 4)) (v_iv (n_v vs 5)) (v_iv (n_v vs 7)) (w_ei ws (w_ar ws (n_v vs 0) 1)) (w_fi ws (n_v vs 0) 10) (w_fi ws (n_v vs 0) 11) (w_fi ws (n_v vs 0) 15) (w_fi ws (n_v vs 0) 13) k1 k4 k5 k7 g3 f4 f5 f6 f7 f9 f10 kz_0_10 kz_0_11 kz_0_13 kz_0_15
  refine ⟨(fun _ h => (by cases h)), [], trivial, ?_, (fun _ h => (by cases h))⟩
  rw [List.append_nil]
  exact List.forall_mem_cons.mpr ⟨⟨show (20 : Nat) < 100 from by decide, nf0⟩, List.forall_mem_cons.mpr ⟨⟨show (20 : Nat) < 100 from by decide, nf1⟩, (fun _ h => (by cases h))⟩⟩
set_option maxHeartbeats 4000000 in
theorem vc_Mo_next_33_0 (x1 : Int) (x4 : Int) (x5 : Int) (x7 : Int) (x9 : Int) (x10 : Int) (tape_0 : Int → Int) (limit_0 : Int) (pos_0 : Int) (from_0 : Int) (place_0 : Int) (k1 : 0 ≤ x1 ∧ x1 ≤ 2000) (k4 : 0 ≤ x4 ∧ x4 ≤ 1999) (k5 : 0 ≤ x5 ∧ x5 ≤ 64) (k7 : 58 ≤ x7 ∧ x7 ≤ 255) (k9 : 0 ≤ x9 ∧ x9 ≤ 255) (k10 : 95 ≤ x10 ∧ x10 ≤ 95) (f0 : x9 ≠ x10) (f1 : ((x4 + 1) ≤ limit_0) → (x9 = (tape_0 (x4) % 256))) (f2 : (limit_0 ≤ x4) → (x9 = (-1))) (g3 : x4 = pos_0) (f4 : ((x4 + 1) ≤ limit_0) → (x7 = (tape_0 (x4) % 256))) (f5 : (limit_0 ≤ x4) → (x7 = (-1))) (f6 : ((x4 + 1) ≤ limit_0) → (x5 = (tape_0 (x4) % 256))) (f7 : (limit_0 ≤ x4) → (x5 = (-1))) (f8 : 1 * x1 + ((-1) * from_0 + 0) ≤ 0) (f9 : (from_0 ≤ pos_0) ∧ (((from_0 + 1) ≤ pos_0) ∨ ((pos_0 = from_0) ∧ (((from_0 + 1) ≤ limit_0) ∧ (((65 ≤ (tape_0 (from_0) % 256)) ∧ ((tape_0 (from_0) % 256) ≤ 90)) ∨ ((97 ≤ (tape_0 (from_0) % 256)) ∧ ((tape_0 (from_0) % 256) ≤ 122))))))) (f10 : ZXL (limit_0) (pos_0) (place_0) (from_0) (tape_0) (x1)) (hK_0_1 : ∀ j : Int, 0 ≤ j → j < 2000 → (-128) ≤ tape_0 j ∧ tape_0 j ≤ 127) (kz_0_10 : 0 ≤ limit_0 ∧ limit_0 ≤ 2000) (kz_0_11 : 0 ≤ pos_0 ∧ pos_0 ≤ 2000) (kz_0_13 : 0 ≤ place_0 ∧ place_0 ≤ 2000) (kz_0_15 : 0 ≤ from_0 ∧ from_0 ≤ 2000) : (from_0 + 1) ≤ pos_0 := by
  by_cases q : from_0 = x4
  · have e : tape_0 from_0 = tape_0 x4 := by rw [q]
    omega
  · omega
set_option maxHeartbeats 4000000 in
theorem vc_Mo_next_33_1 (x1 : Int) (x4 : Int) (x5 : Int) (x7 : Int) (tape_0 : Int → Int) (limit_0 : Int) (pos_0 : Int) (from_0 : Int) (place_0 : Int) (k1 : 0 ≤ x1 ∧ x1 ≤ 2000) (k4 : 0 ≤ x4 ∧ x4 ≤ 1999) (k5 : 0 ≤ x5 ∧ x5 ≤ 64) (k7 : 58 ≤ x7 ∧ x7 ≤ 255) (g3 : x4 = pos_0) (f4 : ((x4 + 1) ≤ limit_0) → (x7 = (tape_0 (x4) % 256))) (f5 : (limit_0 ≤ x4) → (x7 = (-1))) (f6 : ((x4 + 1) ≤ limit_0) → (x5 = (tape_0 (x4) % 256))) (f7 : (limit_0 ≤ x4) → (x5 = (-1))) (f9 : (from_0 ≤ pos_0) ∧ (((from_0 + 1) ≤ pos_0) ∨ ((pos_0 = from_0) ∧ (((from_0 + 1) ≤ limit_0) ∧ (((65 ≤ (tape_0 (from_0) % 256)) ∧ ((tape_0 (from_0) % 256) ≤ 90)) ∨ ((97 ≤ (tape_0 (from_0) % 256)) ∧ ((tape_0 (from_0) % 256) ≤ 122))))))) (f10 : ZXL (limit_0) (pos_0) (place_0) (from_0) (tape_0) (x1)) (kz_0_10 : 0 ≤ limit_0 ∧ limit_0 ≤ 2000) (kz_0_11 : 0 ≤ pos_0 ∧ pos_0 ≤ 2000) (kz_0_13 : 0 ≤ place_0 ∧ place_0 ≤ 2000) (kz_0_15 : 0 ≤ from_0 ∧ from_0 ≤ 2000) : ZXM (limit_0) (pos_0) (place_0) (from_0) (tape_0) (x1) := by
  first | subst g3 | skip
  exact zxm_mk ‹ZXL _ _ _ _ _ _› (fun q => by omega)
def o_Mo_next_33 : or_T := (147, 11, [(0, (2, 0, 0, [165])), (1, (0, 0, 2000, [])), (2, (2, 0, 0, [165])), (4, (0, 0, 1999, [])), (5, (0, 0, 64, [])), (7, (0, 58, 255, [])), (9, (0, 0, 255, [])), (10, (0, 95, 95, []))], [(7, [9, 10], [1]), (20, [4, 2, 9], [50, 1, 1, 1010, 1001, 4, 11, 0, 6, 4, 2, 1, 0, 0, 1, 2, 1, 10, 1, 2, 1, 2, 9, 5, 3, 1, 1, 1, 0, 0, 256]), (20, [2, 4, 9], [50, 1, 0, 10, 4, 7, 0, 3, 2, 0, 10, 1, 1, 1, 2, 1, 2, 0, -1]), (9, [4, 2], [11]), (20, [4, 2, 7], [50, 1, 1, 1010, 1001, 4, 11, 0, 6, 4, 2, 1, 0, 0, 1, 2, 1, 10, 1, 2, 1, 2, 9, 5, 3, 1, 1, 1, 0, 0, 256]), (20, [2, 4, 7], [50, 1, 0, 10, 4, 7, 0, 3, 2, 0, 10, 1, 1, 1, 2, 1, 2, 0, -1]), (20, [4, 2, 5], [50, 1, 1, 1010, 1001, 4, 11, 0, 6, 4, 2, 1, 0, 0, 1, 2, 1, 10, 1, 2, 1, 2, 9, 5, 3, 1, 1, 1, 0, 0, 256]), (20, [2, 4, 5], [50, 1, 0, 10, 4, 7, 0, 3, 2, 0, 10, 1, 1, 1, 2, 1, 2, 0, -1]), (20, [1, 2], [30, 0, 1, 0, 0, -1, 1, 15]), (20, [2], [50, 3, 1, 15, 11, 10, 1, 2, 8, 0, 3, 2, 0, 15, 2, 0, 11, 3, 12, 0, 7, 4, 3, 2, 0, 15, 0, 1, 2, 0, 11, 2, 8, 1, 3, 2, 0, 11, 2, 0, 15, 2, 12, 0, 7, 4, 3, 2, 0, 15, 0, 1, 2, 0, 10, 3, 30, 2, 14, 0, 2, 0, 65, 9, 6, 3, 0, 1, 2, 0, 15, 0, 256, 0, 10, 9, 6, 3, 0, 1, 2, 0, 15, 0, 256, 0, 90, 2, 14, 0, 2, 0, 97, 9, 6, 3, 0, 1, 2, 0, 15, 0, 256, 0, 10, 9, 6, 3, 0, 1, 2, 0, 15, 0, 256, 0, 122]), (20, [2, 1], [60, 4, 1, 951, 10, 11, 13, 15, 1]), (24, [0, 2], [])], [], [], [(20, [2], [50, 2, 0, 15, 11, 0, 7, 4, 3, 2, 0, 15, 0, 1, 2, 0, 11]), (20, [2, 1], [60, 4, 1, 953, 10, 11, 13, 15, 1])], [], [])
theorem oo_Mo_next_33 {kA : Nat → ClassId} : or_ok PRD kA GG o_Mo_next_33 := by
  refine or_mk fun A ta ws vs hD hth hl => ?_
  intro t0 r0 t1 k1 t2 r2 t4 k4 t5 k5 t7 k7 t9 k9 t10 k10 f0 f1 f2 f3 f4 f5 f6 f7 f8 f9 f10 f11
  replace f0 := shm_40 f0
  replace f1 := shm_541 f1
  replace f2 := shm_542 f2
  replace f3 := shm_116 f3
  replace f4 := shm_541 f4
  replace f5 := shm_542 f5
  replace f6 := shm_541 f6
  replace f7 := shm_542 f7
  replace f8 := shm_1436 f8
  replace f9 := shm_1444 f9
  replace f10 := shm_1445 f10
  replace f11 := shm_5 f11
  have q2 : n_v vs 2 = n_v vs 0 := f11.symm
  simp only [q2] at f1 f2 f3 f4 f5 f6 f7 f8 f9 f10
  have cr_0_1 := fdq_39 hD hth r0
  have g3 : v_iv (n_v vs 4) = w_fi ws (n_v vs 0) 11 := congrArg v_iv f3
  have hK_0_1 := elq_7 hD hth cr_0_1
  have kz_0_10 := fdq_43 hD hth r0
  have kz_0_11 := fdq_237 hD hth r0
  have kz_0_13 := fdq_238 hD hth r0
  have kz_0_15 := fdq_239 hD hth r0
  have nf0 : fc_1 PRD (20, [2], [50, 2, 0, 15, 11, 0, 7, 4, 3, 2, 0, 15, 0, 1, 2, 0, 11]) ws (vs) := by
    refine ⟨nf_in hl rfl, sgq_1446 ?_⟩
    · show (w_fi ws (n_v vs 2) 15 + 1) ≤ w_fi ws (n_v vs 2) 11
      rw [q2]
      exact vc_Mo_next_33_0 (v_iv (n_v vs 1)) (v_iv (n_v vs 4)) (v_iv (n_v vs 5)) (v_iv (n_v vs 7)) (v_iv (n_v vs 9)) (v_iv (n_v vs 10)) (w_ei ws (w_ar ws (n_v vs 0) 1)) (w_fi ws (n_v vs 0) 10) (w_fi ws (n_v vs 0) 11) (w_fi ws (n_v vs 0) 15) (w_fi ws (n_v vs 0) 13) k1 k4 k5 k7 k9 k10 f0 f1 f2 g3 f4 f5 f6 f7 f8 f9 f10 hK_0_1 kz_0_10 kz_0_11 kz_0_13 kz_0_15
  have nf1 : fc_1 PRD (20, [2, 1], [60, 4, 1, 953, 10, 11, 13, 15, 1]) ws (vs) := by
    refine ⟨nf_in hl rfl, sgq_1447 ?_⟩
    · show ZXM (w_fi ws (n_v vs 2) 10) (w_fi ws (n_v vs 2) 11) (w_fi ws (n_v vs 2) 13) (w_fi ws (n_v vs 2) 15) (w_ei ws (w_ar ws (n_v vs 2) 1)) (v_iv (n_v vs 1))
      rw [q2]
      exact vc_Mo_next_33_1 (v_iv (n_v vs 1)) (v_iv (n_v vs 4)) (v_iv (n_v vs 5)) (v_iv (n_v vs 7)) (w_ei ws (w_ar ws (n_v vs 0) 1)) (w_fi ws (n_v vs 0) 10) (w_fi ws (n_v vs 0) 11) (w_fi ws (n_v vs 0) 15) (w_fi ws (n_v vs 0) 13) k1 k4 k5 k7 g3 f4 f5 f6 f7 f9 f10 kz_0_10 kz_0_11 kz_0_13 kz_0_15
  refine ⟨(fun _ h => (by cases h)), [], trivial, ?_, (fun _ h => (by cases h))⟩
  rw [List.append_nil]
  exact List.forall_mem_cons.mpr ⟨⟨show (20 : Nat) < 100 from by decide, nf0⟩, List.forall_mem_cons.mpr ⟨⟨show (20 : Nat) < 100 from by decide, nf1⟩, (fun _ h => (by cases h))⟩⟩
set_option maxHeartbeats 4000000 in
theorem vc_Mo_next_34_0 (x1 : Int) (x4 : Int) (x5 : Int) (x7 : Int) (x9 : Int) (tape_0 : Int → Int) (limit_0 : Int) (pos_0 : Int) (from_0 : Int) (place_0 : Int) (k1 : 0 ≤ x1 ∧ x1 ≤ 2000) (k4 : 0 ≤ x4 ∧ x4 ≤ 1999) (k5 : 0 ≤ x5 ∧ x5 ≤ 64) (k7 : 58 ≤ x7 ∧ x7 ≤ 255) (k9 : 95 ≤ x9 ∧ x9 ≤ 95) (f1 : ((x4 + 1) ≤ limit_0) → (x9 = (tape_0 (x4) % 256))) (f2 : (limit_0 ≤ x4) → (x9 = (-1))) (g3 : x4 = pos_0) (f4 : ((x4 + 1) ≤ limit_0) → (x7 = (tape_0 (x4) % 256))) (f5 : (limit_0 ≤ x4) → (x7 = (-1))) (f6 : ((x4 + 1) ≤ limit_0) → (x5 = (tape_0 (x4) % 256))) (f7 : (limit_0 ≤ x4) → (x5 = (-1))) (f9 : (from_0 ≤ pos_0) ∧ (((from_0 + 1) ≤ pos_0) ∨ ((pos_0 = from_0) ∧ (((from_0 + 1) ≤ limit_0) ∧ (((65 ≤ (tape_0 (from_0) % 256)) ∧ ((tape_0 (from_0) % 256) ≤ 90)) ∨ ((97 ≤ (tape_0 (from_0) % 256)) ∧ ((tape_0 (from_0) % 256) ≤ 122))))))) (f10 : ZXL (limit_0) (pos_0) (place_0) (from_0) (tape_0) (x1)) (hK_0_1 : ∀ j : Int, 0 ≤ j → j < 2000 → (-128) ≤ tape_0 j ∧ tape_0 j ≤ 127) (kz_0_10 : 0 ≤ limit_0 ∧ limit_0 ≤ 2000) (kz_0_11 : 0 ≤ pos_0 ∧ pos_0 ≤ 2000) (kz_0_13 : 0 ≤ place_0 ∧ place_0 ≤ 2000) (kz_0_15 : 0 ≤ from_0 ∧ from_0 ≤ 2000) : ZXN (limit_0) (pos_0) (place_0) (from_0) (tape_0) (x1) := by
  first | subst g3 | skip
  exact zxn_mk (by assumption) ‹ZXL _ _ _ _ _ _› (by omega) (by omega)
def o_Mo_next_34 : or_T := (134, 11, [(0, (2, 0, 0, [165])), (1, (0, 0, 2000, [])), (2, (2, 0, 0, [165])), (4, (0, 0, 1999, [])), (5, (0, 0, 64, [])), (7, (0, 58, 255, [])), (9, (0, 95, 95, [])), (10, (0, 95, 95, []))], [(7, [9, 10], [0]), (20, [4, 2, 9], [50, 1, 1, 1010, 1001, 4, 11, 0, 6, 4, 2, 1, 0, 0, 1, 2, 1, 10, 1, 2, 1, 2, 9, 5, 3, 1, 1, 1, 0, 0, 256]), (20, [2, 4, 9], [50, 1, 0, 10, 4, 7, 0, 3, 2, 0, 10, 1, 1, 1, 2, 1, 2, 0, -1]), (9, [4, 2], [11]), (20, [4, 2, 7], [50, 1, 1, 1010, 1001, 4, 11, 0, 6, 4, 2, 1, 0, 0, 1, 2, 1, 10, 1, 2, 1, 2, 9, 5, 3, 1, 1, 1, 0, 0, 256]), (20, [2, 4, 7], [50, 1, 0, 10, 4, 7, 0, 3, 2, 0, 10, 1, 1, 1, 2, 1, 2, 0, -1]), (20, [4, 2, 5], [50, 1, 1, 1010, 1001, 4, 11, 0, 6, 4, 2, 1, 0, 0, 1, 2, 1, 10, 1, 2, 1, 2, 9, 5, 3, 1, 1, 1, 0, 0, 256]), (20, [2, 4, 5], [50, 1, 0, 10, 4, 7, 0, 3, 2, 0, 10, 1, 1, 1, 2, 1, 2, 0, -1]), (20, [1, 2], [30, 0, 1, 0, 0, -1, 1, 15]), (20, [2], [50, 3, 1, 15, 11, 10, 1, 2, 8, 0, 3, 2, 0, 15, 2, 0, 11, 3, 12, 0, 7, 4, 3, 2, 0, 15, 0, 1, 2, 0, 11, 2, 8, 1, 3, 2, 0, 11, 2, 0, 15, 2, 12, 0, 7, 4, 3, 2, 0, 15, 0, 1, 2, 0, 10, 3, 30, 2, 14, 0, 2, 0, 65, 9, 6, 3, 0, 1, 2, 0, 15, 0, 256, 0, 10, 9, 6, 3, 0, 1, 2, 0, 15, 0, 256, 0, 90, 2, 14, 0, 2, 0, 97, 9, 6, 3, 0, 1, 2, 0, 15, 0, 256, 0, 10, 9, 6, 3, 0, 1, 2, 0, 15, 0, 256, 0, 122]), (20, [2, 1], [60, 4, 1, 951, 10, 11, 13, 15, 1]), (24, [0, 2], [])], [], [], [(20, [2, 1], [60, 4, 1, 952, 10, 11, 13, 15, 1])], [], [])
theorem oo_Mo_next_34 {kA : Nat → ClassId} : or_ok PRD kA GG o_Mo_next_34 := by
  refine or_mk fun A ta ws vs hD hth hl => ?_
  intro t0 r0 t1 k1 t2 r2 t4 k4 t5 k5 t7 k7 t9 k9 t10 k10 f0 f1 f2 f3 f4 f5 f6 f7 f8 f9 f10 f11
  replace f1 := shm_541 f1
  replace f2 := shm_542 f2
  replace f3 := shm_116 f3
  replace f4 := shm_541 f4
  replace f5 := shm_542 f5
  replace f6 := shm_541 f6
  replace f7 := shm_542 f7
  replace f9 := shm_1444 f9
  replace f10 := shm_1445 f10
  replace f11 := shm_5 f11
  have q2 : n_v vs 2 = n_v vs 0 := f11.symm
  simp only [q2] at f1 f2 f3 f4 f5 f6 f7 f9 f10
  have cr_0_1 := fdq_39 hD hth r0
  have g3 : v_iv (n_v vs 4) = w_fi ws (n_v vs 0) 11 := congrArg v_iv f3
  have hK_0_1 := elq_7 hD hth cr_0_1
  have kz_0_10 := fdq_43 hD hth r0
  have kz_0_11 := fdq_237 hD hth r0
  have kz_0_13 := fdq_238 hD hth r0
  have kz_0_15 := fdq_239 hD hth r0
  have nf0 : fc_1 PRD (20, [2, 1], [60, 4, 1, 952, 10, 11, 13, 15, 1]) ws (vs) := by
    refine ⟨nf_in hl rfl, sgq_1448 ?_⟩
    · show ZXN (w_fi ws (n_v vs 2) 10) (w_fi ws (n_v vs 2) 11) (w_fi ws (n_v vs 2) 13) (w_fi ws (n_v vs 2) 15) (w_ei ws (w_ar ws (n_v vs 2) 1)) (v_iv (n_v vs 1))
      rw [q2]
      exact vc_Mo_next_34_0 (v_iv (n_v vs 1)) (v_iv (n_v vs 4)) (v_iv (n_v vs 5)) (v_iv (n_v vs 7)) (v_iv (n_v vs 9)) (w_ei ws (w_ar ws (n_v vs 0) 1)) (w_fi ws (n_v vs 0) 10) (w_fi ws (n_v vs 0) 11) (w_fi ws (n_v vs 0) 15) (w_fi ws (n_v vs 0) 13) k1 k4 k5 k7 k9 f1 f2 g3 f4 f5 f6 f7 f9 f10 hK_0_1 kz_0_10 kz_0_11 kz_0_13 kz_0_15
  refine ⟨(fun _ h => (by cases h)), [], trivial, ?_, (fun _ h => (by cases h))⟩
  rw [List.append_nil]
  exact List.forall_mem_cons.mpr ⟨⟨show (20 : Nat) < 100 from by decide, nf0⟩, (fun _ h => (by cases h))⟩
set_option maxHeartbeats 4000000 in
theorem vc_Mo_next_35_0 (x1 : Int) (x4 : Int) (x5 : Int) (x7 : Int) (tape_0 : Int → Int) (limit_0 : Int) (pos_0 : Int) (from_0 : Int) (place_0 : Int) (k1 : 0 ≤ x1 ∧ x1 ≤ 2000) (k4 : 0 ≤ x4 ∧ x4 ≤ 1999) (k5 : 0 ≤ x5 ∧ x5 ≤ 64) (k7 : 48 ≤ x7 ∧ x7 ≤ 57) (f0 : ((x4 + 1) ≤ limit_0) → (x7 = (tape_0 (x4) % 256))) (f1 : (limit_0 ≤ x4) → (x7 = (-1))) (g2 : x4 = pos_0) (f3 : ((x4 + 1) ≤ limit_0) → (x5 = (tape_0 (x4) % 256))) (f4 : (limit_0 ≤ x4) → (x5 = (-1))) (f6 : (from_0 ≤ pos_0) ∧ (((from_0 + 1) ≤ pos_0) ∨ ((pos_0 = from_0) ∧ (((from_0 + 1) ≤ limit_0) ∧ (((65 ≤ (tape_0 (from_0) % 256)) ∧ ((tape_0 (from_0) % 256) ≤ 90)) ∨ ((97 ≤ (tape_0 (from_0) % 256)) ∧ ((tape_0 (from_0) % 256) ≤ 122))))))) (f7 : ZXL (limit_0) (pos_0) (place_0) (from_0) (tape_0) (x1)) (hK_0_1 : ∀ j : Int, 0 ≤ j → j < 2000 → (-128) ≤ tape_0 j ∧ tape_0 j ≤ 127) (kz_0_10 : 0 ≤ limit_0 ∧ limit_0 ≤ 2000) (kz_0_11 : 0 ≤ pos_0 ∧ pos_0 ≤ 2000) (kz_0_13 : 0 ≤ place_0 ∧ place_0 ≤ 2000) (kz_0_15 : 0 ≤ from_0 ∧ from_0 ≤ 2000) : ZXN (limit_0) (pos_0) (place_0) (from_0) (tape_0) (x1) := by
  first | subst g2 | skip
  exact zxn_mk (by assumption) ‹ZXL _ _ _ _ _ _› (by omega) (by omega)
def o_Mo_next_35 : or_T := (134, 9, [(0, (2, 0, 0, [165])), (1, (0, 0, 2000, [])), (2, (2, 0, 0, [165])), (4, (0, 0, 1999, [])), (5, (0, 0, 64, [])), (7, (0, 48, 57, []))], [(20, [4, 2, 7], [50, 1, 1, 1010, 1001, 4, 11, 0, 6, 4, 2, 1, 0, 0, 1, 2, 1, 10, 1, 2, 1, 2, 9, 5, 3, 1, 1, 1, 0, 0, 256]), (20, [2, 4, 7], [50, 1, 0, 10, 4, 7, 0, 3, 2, 0, 10, 1, 1, 1, 2, 1, 2, 0, -1]), (9, [4, 2], [11]), (20, [4, 2, 5], [50, 1, 1, 1010, 1001, 4, 11, 0, 6, 4, 2, 1, 0, 0, 1, 2, 1, 10, 1, 2, 1, 2, 9, 5, 3, 1, 1, 1, 0, 0, 256]), (20, [2, 4, 5], [50, 1, 0, 10, 4, 7, 0, 3, 2, 0, 10, 1, 1, 1, 2, 1, 2, 0, -1]), (20, [1, 2], [30, 0, 1, 0, 0, -1, 1, 15]), (20, [2], [50, 3, 1, 15, 11, 10, 1, 2, 8, 0, 3, 2, 0, 15, 2, 0, 11, 3, 12, 0, 7, 4, 3, 2, 0, 15, 0, 1, 2, 0, 11, 2, 8, 1, 3, 2, 0, 11, 2, 0, 15, 2, 12, 0, 7, 4, 3, 2, 0, 15, 0, 1, 2, 0, 10, 3, 30, 2, 14, 0, 2, 0, 65, 9, 6, 3, 0, 1, 2, 0, 15, 0, 256, 0, 10, 9, 6, 3, 0, 1, 2, 0, 15, 0, 256, 0, 90, 2, 14, 0, 2, 0, 97, 9, 6, 3, 0, 1, 2, 0, 15, 0, 256, 0, 10, 9, 6, 3, 0, 1, 2, 0, 15, 0, 256, 0, 122]), (20, [2, 1], [60, 4, 1, 951, 10, 11, 13, 15, 1]), (24, [0, 2], [])], [], [], [(20, [2, 1], [60, 4, 1, 952, 10, 11, 13, 15, 1])], [], [])
theorem oo_Mo_next_35 {kA : Nat → ClassId} : or_ok PRD kA GG o_Mo_next_35 := by
  refine or_mk fun A ta ws vs hD hth hl => ?_
  intro t0 r0 t1 k1 t2 r2 t4 k4 t5 k5 t7 k7 f0 f1 f2 f3 f4 f5 f6 f7 f8
  replace f0 := shm_541 f0
  replace f1 := shm_542 f1
  replace f2 := shm_116 f2
  replace f3 := shm_541 f3
  replace f4 := shm_542 f4
  replace f6 := shm_1444 f6
  replace f7 := shm_1445 f7
  replace f8 := shm_5 f8
  have q2 : n_v vs 2 = n_v vs 0 := f8.symm
  simp only [q2] at f0 f1 f2 f3 f4 f6 f7
  have cr_0_1 := fdq_39 hD hth r0
  have g2 : v_iv (n_v vs 4) = w_fi ws (n_v vs 0) 11 := congrArg v_iv f2
  have hK_0_1 := elq_7 hD hth cr_0_1
  have kz_0_10 := fdq_43 hD hth r0
  have kz_0_11 := fdq_237 hD hth r0
  have kz_0_13 := fdq_238 hD hth r0
  have kz_0_15 := fdq_239 hD hth r0
  have nf0 : fc_1 PRD (20, [2, 1], [60, 4, 1, 952, 10, 11, 13, 15, 1]) ws (vs) := by
    refine ⟨nf_in hl rfl, sgq_1448 ?_⟩
    · show ZXN (w_fi ws (n_v vs 2) 10) (w_fi ws (n_v vs 2) 11) (w_fi ws (n_v vs 2) 13) (w_fi ws (n_v vs 2) 15) (w_ei ws (w_ar ws (n_v vs 2) 1)) (v_iv (n_v vs 1))
      rw [q2]
      exact vc_Mo_next_35_0 (v_iv (n_v vs 1)) (v_iv (n_v vs 4)) (v_iv (n_v vs 5)) (v_iv (n_v vs 7)) (w_ei ws (w_ar ws (n_v vs 0) 1)) (w_fi ws (n_v vs 0) 10) (w_fi ws (n_v vs 0) 11) (w_fi ws (n_v vs 0) 15) (w_fi ws (n_v vs 0) 13) k1 k4 k5 k7 f0 f1 g2 f3 f4 f6 f7 hK_0_1 kz_0_10 kz_0_11 kz_0_13 kz_0_15
  refine ⟨(fun _ h => (by cases h)), [], trivial, ?_, (fun _ h => (by cases h))⟩
  rw [List.append_nil]
  exact List.forall_mem_cons.mpr ⟨⟨show (20 : Nat) < 100 from by decide, nf0⟩, (fun _ h => (by cases h))⟩
set_option maxHeartbeats 4000000 in
theorem vc_Mo_next_36_0 (x4 : Int) (x5 : Int) (x7 : Int) (x9 : Int) (tape_0 : Int → Int) (limit_0 : Int) (pos_0 : Int) (from_0 : Int) (k4 : 0 ≤ x4 ∧ x4 ≤ 1999) (k5 : 91 ≤ x5 ∧ x5 ≤ 96) (k7 : (-1) ≤ x7 ∧ x7 ≤ (-1)) (k9 : (-1) ≤ x9 ∧ x9 ≤ (-1)) (f1 : ((x4 + 1) ≤ limit_0) → (x9 = (tape_0 (x4) % 256))) (f2 : (limit_0 ≤ x4) → (x9 = (-1))) (g3 : x4 = pos_0) (f4 : ((x4 + 1) ≤ limit_0) → (x7 = (tape_0 (x4) % 256))) (f5 : (limit_0 ≤ x4) → (x7 = (-1))) (f6 : ((x4 + 1) ≤ limit_0) → (x5 = (tape_0 (x4) % 256))) (f7 : (limit_0 ≤ x4) → (x5 = (-1))) (f9 : (from_0 ≤ pos_0) ∧ (((from_0 + 1) ≤ pos_0) ∨ ((pos_0 = from_0) ∧ (((from_0 + 1) ≤ limit_0) ∧ (((65 ≤ (tape_0 (from_0) % 256)) ∧ ((tape_0 (from_0) % 256) ≤ 90)) ∨ ((97 ≤ (tape_0 (from_0) % 256)) ∧ ((tape_0 (from_0) % 256) ≤ 122))))))) (hK_0_1 : ∀ j : Int, 0 ≤ j → j < 2000 → (-128) ≤ tape_0 j ∧ tape_0 j ≤ 127) (kz_0_10 : 0 ≤ limit_0 ∧ limit_0 ≤ 2000) (kz_0_11 : 0 ≤ pos_0 ∧ pos_0 ≤ 2000) (kz_0_15 : 0 ≤ from_0 ∧ from_0 ≤ 2000) : (from_0 + 1) ≤ pos_0 := by
  first | with_reducible assumption | ((have f9_c0 := f9.1); (have f9_c1 := f9.2); (try and_intros) <;> first | with_reducible assumption | (clear f9_c1 f9 hK_0_1 f1 f2 f4 f5 f6 f7; omega)) | ((have f9_c0 := f9.1); (have f9_c1 := f9.2); (first | have f1_b := f1 (by clear f9_c1 f9 hK_0_1 f1 f2 f4 f5 f6 f7; omega) | skip); (first | have f2_b := f2 (by clear f9_c1 f9 hK_0_1 f1 f2 f4 f5 f6 f7; omega) | skip); (first | have f4_b := f4 (by clear f9_c1 f9 hK_0_1 f1 f2 f4 f5 f6 f7; omega) | skip); (first | have f5_b := f5 (by clear f9_c1 f9 hK_0_1 f1 f2 f4 f5 f6 f7; omega) | skip); (first | have f6_b := f6 (by clear f9_c1 f9 hK_0_1 f1 f2 f4 f5 f6 f7; omega) | skip); (first | have f7_b := f7 (by clear f9_c1 f9 hK_0_1 f1 f2 f4 f5 f6 f7; omega) | skip); (first | have f1_d := f1 (by with_reducible assumption) | skip); (first | have f2_d := f2 (by with_reducible assumption) | skip); (first | have f4_d := f4 (by with_reducible assumption) | skip); (first | have f5_d := f5 (by with_reducible assumption) | skip); (first | have f6_d := f6 (by with_reducible assumption) | skip); (first | have f7_d := f7 (by with_reducible assumption) | skip); (try and_intros) <;> first | with_reducible assumption | (clear f9_c1 f9 hK_0_1 f1 f2 f4 f5 f6 f7; omega)) | omega
set_option maxHeartbeats 4000000 in
theorem vc_Mo_next_36_1 (x1 : Int) (x4 : Int) (x5 : Int) (x7 : Int) (tape_0 : Int → Int) (limit_0 : Int) (pos_0 : Int) (from_0 : Int) (place_0 : Int) (k1 : 0 ≤ x1 ∧ x1 ≤ 2000) (k4 : 0 ≤ x4 ∧ x4 ≤ 1999) (k5 : 91 ≤ x5 ∧ x5 ≤ 96) (k7 : (-1) ≤ x7 ∧ x7 ≤ (-1)) (g3 : x4 = pos_0) (f4 : ((x4 + 1) ≤ limit_0) → (x7 = (tape_0 (x4) % 256))) (f5 : (limit_0 ≤ x4) → (x7 = (-1))) (f6 : ((x4 + 1) ≤ limit_0) → (x5 = (tape_0 (x4) % 256))) (f7 : (limit_0 ≤ x4) → (x5 = (-1))) (f9 : (from_0 ≤ pos_0) ∧ (((from_0 + 1) ≤ pos_0) ∨ ((pos_0 = from_0) ∧ (((from_0 + 1) ≤ limit_0) ∧ (((65 ≤ (tape_0 (from_0) % 256)) ∧ ((tape_0 (from_0) % 256) ≤ 90)) ∨ ((97 ≤ (tape_0 (from_0) % 256)) ∧ ((tape_0 (from_0) % 256) ≤ 122))))))) (f10 : ZXL (limit_0) (pos_0) (place_0) (from_0) (tape_0) (x1)) (kz_0_10 : 0 ≤ limit_0 ∧ limit_0 ≤ 2000) (kz_0_11 : 0 ≤ pos_0 ∧ pos_0 ≤ 2000) (kz_0_13 : 0 ≤ place_0 ∧ place_0 ≤ 2000) (kz_0_15 : 0 ≤ from_0 ∧ from_0 ≤ 2000) : ZXM (limit_0) (pos_0) (place_0) (from_0) (tape_0) (x1) := by
  first | subst g3 | skip
  exact zxm_mk ‹ZXL _ _ _ _ _ _› (fun q => by omega)
def o_Mo_next_36 : or_T := (147, 11, [(0, (2, 0, 0, [165])), (1, (0, 0, 2000, [])), (2, (2, 0, 0, [165])), (4, (0, 0, 1999, [])), (5, (0, 91, 96, [])), (7, (0, -1, -1, [])), (9, (0, -1, -1, [])), (10, (0, 95, 95, []))], [(7, [9, 10], [1]), (20, [4, 2, 9], [50, 1, 1, 1010, 1001, 4, 11, 0, 6, 4, 2, 1, 0, 0, 1, 2, 1, 10, 1, 2, 1, 2, 9, 5, 3, 1, 1, 1, 0, 0, 256]), (20, [2, 4, 9], [50, 1, 0, 10, 4, 7, 0, 3, 2, 0, 10, 1, 1, 1, 2, 1, 2, 0, -1]), (9, [4, 2], [11]), (20, [4, 2, 7], [50, 1, 1, 1010, 1001, 4, 11, 0, 6, 4, 2, 1, 0, 0, 1, 2, 1, 10, 1, 2, 1, 2, 9, 5, 3, 1, 1, 1, 0, 0, 256]), (20, [2, 4, 7], [50, 1, 0, 10, 4, 7, 0, 3, 2, 0, 10, 1, 1, 1, 2, 1, 2, 0, -1]), (20, [4, 2, 5], [50, 1, 1, 1010, 1001, 4, 11, 0, 6, 4, 2, 1, 0, 0, 1, 2, 1, 10, 1, 2, 1, 2, 9, 5, 3, 1, 1, 1, 0, 0, 256]), (20, [2, 4, 5], [50, 1, 0, 10, 4, 7, 0, 3, 2, 0, 10, 1, 1, 1, 2, 1, 2, 0, -1]), (20, [1, 2], [30, 0, 1, 0, 0, -1, 1, 15]), (20, [2], [50, 3, 1, 15, 11, 10, 1, 2, 8, 0, 3, 2, 0, 15, 2, 0, 11, 3, 12, 0, 7, 4, 3, 2, 0, 15, 0, 1, 2, 0, 11, 2, 8, 1, 3, 2, 0, 11, 2, 0, 15, 2, 12, 0, 7, 4, 3, 2, 0, 15, 0, 1, 2, 0, 10, 3, 30, 2, 14, 0, 2, 0, 65, 9, 6, 3, 0, 1, 2, 0, 15, 0, 256, 0, 10, 9, 6, 3, 0, 1, 2, 0, 15, 0, 256, 0, 90, 2, 14, 0, 2, 0, 97, 9, 6, 3, 0, 1, 2, 0, 15, 0, 256, 0, 10, 9, 6, 3, 0, 1, 2, 0, 15, 0, 256, 0, 122]), (20, [2, 1], [60, 4, 1, 951, 10, 11, 13, 15, 1]), (24, [0, 2], [])], [], [], [(20, [2], [50, 2, 0, 15, 11, 0, 7, 4, 3, 2, 0, 15, 0, 1, 2, 0, 11]), (20, [2, 1], [60, 4, 1, 953, 10, 11, 13, 15, 1])], [], [])
theorem oo_Mo_next_36 {kA : Nat → ClassId} : or_ok PRD kA GG o_Mo_next_36 := by
  refine or_mk fun A ta ws vs hD hth hl => ?_
  intro t0 r0 t1 k1 t2 r2 t4 k4 t5 k5 t7 k7 t9 k9 t10 k10 f0 f1 f2 f3 f4 f5 f6 f7 f8 f9 f10 f11
  replace f1 := shm_541 f1
  replace f2 := shm_542 f2
  replace f3 := shm_116 f3
  replace f4 := shm_541 f4
  replace f5 := shm_542 f5
  replace f6 := shm_541 f6
  replace f7 := shm_542 f7
  replace f9 := shm_1444 f9
  replace f10 := shm_1445 f10
  replace f11 := shm_5 f11
  have q2 : n_v vs 2 = n_v vs 0 := f11.symm
  simp only [q2] at f1 f2 f3 f4 f5 f6 f7 f9 f10
  have cr_0_1 := fdq_39 hD hth r0
  have g3 : v_iv (n_v vs 4) = w_fi ws (n_v vs 0) 11 := congrArg v_iv f3
  have hK_0_1 := elq_7 hD hth cr_0_1
  have kz_0_10 := fdq_43 hD hth r0
  have kz_0_11 := fdq_237 hD hth r0
  have kz_0_13 := fdq_238 hD hth r0
  have kz_0_15 := fdq_239 hD hth r0
  have nf0 : fc_1 PRD (20, [2], [50, 2, 0, 15, 11, 0, 7, 4, 3, 2, 0, 15, 0, 1, 2, 0, 11]) ws (vs) := by
    refine ⟨nf_in hl rfl, sgq_1446 ?_⟩
    · show (w_fi ws (n_v vs 2) 15 + 1) ≤ w_fi ws (n_v vs 2) 11
      rw [q2]
      exact vc_Mo_next_36_0 (v_iv (n_v vs 4)) (v_iv (n_v vs 5)) (v_iv (n_v vs 7)) (v_iv (n_v vs 9)) (w_ei ws (w_ar ws (n_v vs 0) 1)) (w_fi ws (n_v vs 0) 10) (w_fi ws (n_v vs 0) 11) (w_fi ws (n_v vs 0) 15) k4 k5 k7 k9 f1 f2 g3 f4 f5 f6 f7 f9 hK_0_1 kz_0_10 kz_0_11 kz_0_15
  have nf1 : fc_1 PRD (20, [2, 1], [60, 4, 1, 953, 10, 11, 13, 15, 1]) ws (vs) := by
    refine ⟨nf_in hl rfl, sgq_1447 ?_⟩
    · show ZXM (w_fi ws (n_v vs 2) 10) (w_fi ws (n_v vs 2) 11) (w_fi ws (n_v vs 2) 13) (w_fi ws (n_v vs 2) 15) (w_ei ws (w_ar ws (n_v vs 2) 1)) (v_iv (n_v vs 1))
      rw [q2]
      exact vc_Mo_next_36_1 (v_iv (n_v vs 1)) (v_iv (n_v vs 4)) (v_iv (n_v vs 5)) (v_iv (n_v vs 7)) (w_ei ws (w_ar ws (n_v vs 0) 1)) (w_fi ws (n_v vs 0) 10) (w_fi ws (n_v vs 0) 11) (w_fi ws (n_v vs 0) 15) (w_fi ws (n_v vs 0) 13) k1 k4 k5 k7 g3 f4 f5 f6 f7 f9 f10 kz_0_10 kz_0_11 kz_0_13 kz_0_15
  refine ⟨(fun _ h => (by cases h)), [], trivial, ?_, (fun _ h => (by cases h))⟩
  rw [List.append_nil]
  exact List.forall_mem_cons.mpr ⟨⟨show (20 : Nat) < 100 from by decide, nf0⟩, List.forall_mem_cons.mpr ⟨⟨show (20 : Nat) < 100 from by decide, nf1⟩, (fun _ h => (by cases h))⟩⟩
set_option maxHeartbeats 4000000 in
theorem vc_Mo_next_37_0 (x4 : Int) (x5 : Int) (x7 : Int) (x9 : Int) (tape_0 : Int → Int) (limit_0 : Int) (pos_0 : Int) (from_0 : Int) (k4 : 0 ≤ x4 ∧ x4 ≤ 1999) (k5 : 91 ≤ x5 ∧ x5 ≤ 96) (k7 : (-1) ≤ x7 ∧ x7 ≤ (-1)) (k9 : 0 ≤ x9 ∧ x9 ≤ 255) (f1 : ((x4 + 1) ≤ limit_0) → (x9 = (tape_0 (x4) % 256))) (f2 : (limit_0 ≤ x4) → (x9 = (-1))) (g3 : x4 = pos_0) (f4 : ((x4 + 1) ≤ limit_0) → (x7 = (tape_0 (x4) % 256))) (f5 : (limit_0 ≤ x4) → (x7 = (-1))) (f6 : ((x4 + 1) ≤ limit_0) → (x5 = (tape_0 (x4) % 256))) (f7 : (limit_0 ≤ x4) → (x5 = (-1))) (f9 : (from_0 ≤ pos_0) ∧ (((from_0 + 1) ≤ pos_0) ∨ ((pos_0 = from_0) ∧ (((from_0 + 1) ≤ limit_0) ∧ (((65 ≤ (tape_0 (from_0) % 256)) ∧ ((tape_0 (from_0) % 256) ≤ 90)) ∨ ((97 ≤ (tape_0 (from_0) % 256)) ∧ ((tape_0 (from_0) % 256) ≤ 122))))))) (hK_0_1 : ∀ j : Int, 0 ≤ j → j < 2000 → (-128) ≤ tape_0 j ∧ tape_0 j ≤ 127) (kz_0_10 : 0 ≤ limit_0 ∧ limit_0 ≤ 2000) (kz_0_11 : 0 ≤ pos_0 ∧ pos_0 ≤ 2000) (kz_0_15 : 0 ≤ from_0 ∧ from_0 ≤ 2000) : (from_0 + 1) ≤ pos_0 := by
  first | with_reducible assumption | ((have f9_c0 := f9.1); (have f9_c1 := f9.2); (try and_intros) <;> first | with_reducible assumption | (clear f9_c1 f9 hK_0_1 f1 f2 f4 f5 f6 f7; omega)) | ((have f9_c0 := f9.1); (have f9_c1 := f9.2); (first | have f1_b := f1 (by clear f9_c1 f9 hK_0_1 f1 f2 f4 f5 f6 f7; omega) | skip); (first | have f2_b := f2 (by clear f9_c1 f9 hK_0_1 f1 f2 f4 f5 f6 f7; omega) | skip); (first | have f4_b := f4 (by clear f9_c1 f9 hK_0_1 f1 f2 f4 f5 f6 f7; omega) | skip); (first | have f5_b := f5 (by clear f9_c1 f9 hK_0_1 f1 f2 f4 f5 f6 f7; omega) | skip); (first | have f6_b := f6 (by clear f9_c1 f9 hK_0_1 f1 f2 f4 f5 f6 f7; omega) | skip); (first | have f7_b := f7 (by clear f9_c1 f9 hK_0_1 f1 f2 f4 f5 f6 f7; omega) | skip); (first | have f1_d := f1 (by with_reducible assumption) | skip); (first | have f2_d := f2 (by with_reducible assumption) | skip); (first | have f4_d := f4 (by with_reducible assumption) | skip); (first | have f5_d := f5 (by with_reducible assumption) | skip); (first | have f6_d := f6 (by with_reducible assumption) | skip); (first | have f7_d := f7 (by with_reducible assumption) | skip); (try and_intros) <;> first | with_reducible assumption | (clear f9_c1 f9 hK_0_1 f1 f2 f4 f5 f6 f7; omega)) | omega
set_option maxHeartbeats 4000000 in
theorem vc_Mo_next_37_1 (x1 : Int) (x4 : Int) (x5 : Int) (x7 : Int) (tape_0 : Int → Int) (limit_0 : Int) (pos_0 : Int) (from_0 : Int) (place_0 : Int) (k1 : 0 ≤ x1 ∧ x1 ≤ 2000) (k4 : 0 ≤ x4 ∧ x4 ≤ 1999) (k5 : 91 ≤ x5 ∧ x5 ≤ 96) (k7 : (-1) ≤ x7 ∧ x7 ≤ (-1)) (g3 : x4 = pos_0) (f4 : ((x4 + 1) ≤ limit_0) → (x7 = (tape_0 (x4) % 256))) (f5 : (limit_0 ≤ x4) → (x7 = (-1))) (f6 : ((x4 + 1) ≤ limit_0) → (x5 = (tape_0 (x4) % 256))) (f7 : (limit_0 ≤ x4) → (x5 = (-1))) (f9 : (from_0 ≤ pos_0) ∧ (((from_0 + 1) ≤ pos_0) ∨ ((pos_0 = from_0) ∧ (((from_0 + 1) ≤ limit_0) ∧ (((65 ≤ (tape_0 (from_0) % 256)) ∧ ((tape_0 (from_0) % 256) ≤ 90)) ∨ ((97 ≤ (tape_0 (from_0) % 256)) ∧ ((tape_0 (from_0) % 256) ≤ 122))))))) (f10 : ZXL (limit_0) (pos_0) (place_0) (from_0) (tape_0) (x1)) (kz_0_10 : 0 ≤ limit_0 ∧ limit_0 ≤ 2000) (kz_0_11 : 0 ≤ pos_0 ∧ pos_0 ≤ 2000) (kz_0_13 : 0 ≤ place_0 ∧ place_0 ≤ 2000) (kz_0_15 : 0 ≤ from_0 ∧ from_0 ≤ 2000) : ZXM (limit_0) (pos_0) (place_0) (from_0) (tape_0) (x1) := by
  first | subst g3 | skip
  exact zxm_mk ‹ZXL _ _ _ _ _ _› (fun q => by omega)
def o_Mo_next_37 : or_T := (147, 11, [(0, (2, 0, 0, [165])), (1, (0, 0, 2000, [])), (2, (2, 0, 0, [165])), (4, (0, 0, 1999, [])), (5, (0, 91, 96, [])), (7, (0, -1, -1, [])), (9, (0, 0, 255, [])), (10, (0, 95, 95, []))], [(7, [9, 10], [1]), (20, [4, 2, 9], [50, 1, 1, 1010, 1001, 4, 11, 0, 6, 4, 2, 1, 0, 0, 1, 2, 1, 10, 1, 2, 1, 2, 9, 5, 3, 1, 1, 1, 0, 0, 256]), (20, [2, 4, 9], [50, 1, 0, 10, 4, 7, 0, 3, 2, 0, 10, 1, 1, 1, 2, 1, 2, 0, -1]), (9, [4, 2], [11]), (20, [4, 2, 7], [50, 1, 1, 1010, 1001, 4, 11, 0, 6, 4, 2, 1, 0, 0, 1, 2, 1, 10, 1, 2, 1, 2, 9, 5, 3, 1, 1, 1, 0, 0, 256]), (20, [2, 4, 7], [50, 1, 0, 10, 4, 7, 0, 3, 2, 0, 10, 1, 1, 1, 2, 1, 2, 0, -1]), (20, [4, 2, 5], [50, 1, 1, 1010, 1001, 4, 11, 0, 6, 4, 2, 1, 0, 0, 1, 2, 1, 10, 1, 2, 1, 2, 9, 5, 3, 1, 1, 1, 0, 0, 256]), (20, [2, 4, 5], [50, 1, 0, 10, 4, 7, 0, 3, 2, 0, 10, 1, 1, 1, 2, 1, 2, 0, -1]), (20, [1, 2], [30, 0, 1, 0, 0, -1, 1, 15]), (20, [2], [50, 3, 1, 15, 11, 10, 1, 2, 8, 0, 3, 2, 0, 15, 2, 0, 11, 3, 12, 0, 7, 4, 3, 2, 0, 15, 0, 1, 2, 0, 11, 2, 8, 1, 3, 2, 0, 11, 2, 0, 15, 2, 12, 0, 7, 4, 3, 2, 0, 15, 0, 1, 2, 0, 10, 3, 30, 2, 14, 0, 2, 0, 65, 9, 6, 3, 0, 1, 2, 0, 15, 0, 256, 0, 10, 9, 6, 3, 0, 1, 2, 0, 15, 0, 256, 0, 90, 2, 14, 0, 2, 0, 97, 9, 6, 3, 0, 1, 2, 0, 15, 0, 256, 0, 10, 9, 6, 3, 0, 1, 2, 0, 15, 0, 256, 0, 122]), (20, [2, 1], [60, 4, 1, 951, 10, 11, 13, 15, 1]), (24, [0, 2], [])], [], [], [(20, [2], [50, 2, 0, 15, 11, 0, 7, 4, 3, 2, 0, 15, 0, 1, 2, 0, 11]), (20, [2, 1], [60, 4, 1, 953, 10, 11, 13, 15, 1])], [], [])
theorem oo_Mo_next_37 {kA : Nat → ClassId} : or_ok PRD kA GG o_Mo_next_37 := by
  refine or_mk fun A ta ws vs hD hth hl => ?_
  intro t0 r0 t1 k1 t2 r2 t4 k4 t5 k5 t7 k7 t9 k9 t10 k10 f0 f1 f2 f3 f4 f5 f6 f7 f8 f9 f10 f11
  replace f1 := shm_541 f1
  replace f2 := shm_542 f2
  replace f3 := shm_116 f3
  replace f4 := shm_541 f4
  replace f5 := shm_542 f5
  replace f6 := shm_541 f6
  replace f7 := shm_542 f7
  replace f9 := shm_1444 f9
  replace f10 := shm_1445 f10
  replace f11 := shm_5 f11
  have q2 : n_v vs 2 = n_v vs 0 := f11.symm
  simp only [q2] at f1 f2 f3 f4 f5 f6 f7 f9 f10
  have cr_0_1 := fdq_39 hD hth r0
  have g3 : v_iv (n_v vs 4) = w_fi ws (n_v vs 0) 11 := congrArg v_iv f3
  have hK_0_1 := elq_7 hD hth cr_0_1
  have kz_0_10 := fdq_43 hD hth r0
  have kz_0_11 := fdq_237 hD hth r0
  have kz_0_13 := fdq_238 hD hth r0
  have kz_0_15 := fdq_239 hD hth r0
  have nf0 : fc_1 PRD (20, [2], [50, 2, 0, 15, 11, 0, 7, 4, 3, 2, 0, 15, 0, 1, 2, 0, 11]) ws (vs) := by
    refine ⟨nf_in hl rfl, sgq_1446 ?_⟩
    · show (w_fi ws (n_v vs 2) 15 + 1) ≤ w_fi ws (n_v vs 2) 11
      rw [q2]
      exact vc_Mo_next_37_0 (v_iv (n_v vs 4)) (v_iv (n_v vs 5)) (v_iv (n_v vs 7)) (v_iv (n_v vs 9)) (w_ei ws (w_ar ws (n_v vs 0) 1)) (w_fi ws (n_v vs 0) 10) (w_fi ws (n_v vs 0) 11) (w_fi ws (n_v vs 0) 15) k4 k5 k7 k9 f1 f2 g3 f4 f5 f6 f7 f9 hK_0_1 kz_0_10 kz_0_11 kz_0_15
  have nf1 : fc_1 PRD (20, [2, 1], [60, 4, 1, 953, 10, 11, 13, 15, 1]) ws (vs) := by
    refine ⟨nf_in hl rfl, sgq_1447 ?_⟩
    · show ZXM (w_fi ws (n_v vs 2) 10) (w_fi ws (n_v vs 2) 11) (w_fi ws (n_v vs 2) 13) (w_fi ws (n_v vs 2) 15) (w_ei ws (w_ar ws (n_v vs 2) 1)) (v_iv (n_v vs 1))
      rw [q2]
      exact vc_Mo_next_37_1 (v_iv (n_v vs 1)) (v_iv (n_v vs 4)) (v_iv (n_v vs 5)) (v_iv (n_v vs 7)) (w_ei ws (w_ar ws (n_v vs 0) 1)) (w_fi ws (n_v vs 0) 10) (w_fi ws (n_v vs 0) 11) (w_fi ws (n_v vs 0) 15) (w_fi ws (n_v vs 0) 13) k1 k4 k5 k7 g3 f4 f5 f6 f7 f9 f10 kz_0_10 kz_0_11 kz_0_13 kz_0_15
  refine ⟨(fun _ h => (by cases h)), [], trivial, ?_, (fun _ h => (by cases h))⟩
  rw [List.append_nil]
  exact List.forall_mem_cons.mpr ⟨⟨show (20 : Nat) < 100 from by decide, nf0⟩, List.forall_mem_cons.mpr ⟨⟨show (20 : Nat) < 100 from by decide, nf1⟩, (fun _ h => (by cases h))⟩⟩
set_option maxHeartbeats 4000000 in
theorem vc_Mo_next_38_0 (x1 : Int) (x4 : Int) (x5 : Int) (x7 : Int) (tape_0 : Int → Int) (limit_0 : Int) (pos_0 : Int) (from_0 : Int) (place_0 : Int) (k1 : 0 ≤ x1 ∧ x1 ≤ 2000) (k4 : 0 ≤ x4 ∧ x4 ≤ 1999) (k5 : 91 ≤ x5 ∧ x5 ≤ 96) (k7 : (-1) ≤ x7 ∧ x7 ≤ (-1)) (g3 : x4 = pos_0) (f4 : ((x4 + 1) ≤ limit_0) → (x7 = (tape_0 (x4) % 256))) (f5 : (limit_0 ≤ x4) → (x7 = (-1))) (f6 : ((x4 + 1) ≤ limit_0) → (x5 = (tape_0 (x4) % 256))) (f7 : (limit_0 ≤ x4) → (x5 = (-1))) (f9 : (from_0 ≤ pos_0) ∧ (((from_0 + 1) ≤ pos_0) ∨ ((pos_0 = from_0) ∧ (((from_0 + 1) ≤ limit_0) ∧ (((65 ≤ (tape_0 (from_0) % 256)) ∧ ((tape_0 (from_0) % 256) ≤ 90)) ∨ ((97 ≤ (tape_0 (from_0) % 256)) ∧ ((tape_0 (from_0) % 256) ≤ 122))))))) (f10 : ZXL (limit_0) (pos_0) (place_0) (from_0) (tape_0) (x1)) (hK_0_1 : ∀ j : Int, 0 ≤ j → j < 2000 → (-128) ≤ tape_0 j ∧ tape_0 j ≤ 127) (kz_0_10 : 0 ≤ limit_0 ∧ limit_0 ≤ 2000) (kz_0_11 : 0 ≤ pos_0 ∧ pos_0 ≤ 2000) (kz_0_13 : 0 ≤ place_0 ∧ place_0 ≤ 2000) (kz_0_15 : 0 ≤ from_0 ∧ from_0 ≤ 2000) : ZXN (limit_0) (pos_0) (place_0) (from_0) (tape_0) (x1) := by
  first | subst g3 | skip
  exact zxn_mk (by assumption) ‹ZXL _ _ _ _ _ _› (by omega) (by omega)
def o_Mo_next_38 : or_T := (134, 11, [(0, (2, 0, 0, [165])), (1, (0, 0, 2000, [])), (2, (2, 0, 0, [165])), (4, (0, 0, 1999, [])), (5, (0, 91, 96, [])), (7, (0, -1, -1, [])), (9, (0, 95, 95, [])), (10, (0, 95, 95, []))], [(7, [9, 10], [0]), (20, [4, 2, 9], [50, 1, 1, 1010, 1001, 4, 11, 0, 6, 4, 2, 1, 0, 0, 1, 2, 1, 10, 1, 2, 1, 2, 9, 5, 3, 1, 1, 1, 0, 0, 256]), (20, [2, 4, 9], [50, 1, 0, 10, 4, 7, 0, 3, 2, 0, 10, 1, 1, 1, 2, 1, 2, 0, -1]), (9, [4, 2], [11]), (20, [4, 2, 7], [50, 1, 1, 1010, 1001, 4, 11, 0, 6, 4, 2, 1, 0, 0, 1, 2, 1, 10, 1, 2, 1, 2, 9, 5, 3, 1, 1, 1, 0, 0, 256]), (20, [2, 4, 7], [50, 1, 0, 10, 4, 7, 0, 3, 2, 0, 10, 1, 1, 1, 2, 1, 2, 0, -1]), (20, [4, 2, 5], [50, 1, 1, 1010, 1001, 4, 11, 0, 6, 4, 2, 1, 0, 0, 1, 2, 1, 10, 1, 2, 1, 2, 9, 5, 3, 1, 1, 1, 0, 0, 256]), (20, [2, 4, 5], [50, 1, 0, 10, 4, 7, 0, 3, 2, 0, 10, 1, 1, 1, 2, 1, 2, 0, -1]), (20, [1, 2], [30, 0, 1, 0, 0, -1, 1, 15]), (20, [2], [50, 3, 1, 15, 11, 10, 1, 2, 8, 0, 3, 2, 0, 15, 2, 0, 11, 3, 12, 0, 7, 4, 3, 2, 0, 15, 0, 1, 2, 0, 11, 2, 8, 1, 3, 2, 0, 11, 2, 0, 15, 2, 12, 0, 7, 4, 3, 2, 0, 15, 0, 1, 2, 0, 10, 3, 30, 2, 14, 0, 2, 0, 65, 9, 6, 3, 0, 1, 2, 0, 15, 0, 256, 0, 10, 9, 6, 3, 0, 1, 2, 0, 15, 0, 256, 0, 90, 2, 14, 0, 2, 0, 97, 9, 6, 3, 0, 1, 2, 0, 15, 0, 256, 0, 10, 9, 6, 3, 0, 1, 2, 0, 15, 0, 256, 0, 122]), (20, [2, 1], [60, 4, 1, 951, 10, 11, 13, 15, 1]), (24, [0, 2], [])], [], [], [(20, [2, 1], [60, 4, 1, 952, 10, 11, 13, 15, 1])], [], [])
theorem oo_Mo_next_38 {kA : Nat → ClassId} : or_ok PRD kA GG o_Mo_next_38 := by
  refine or_mk fun A ta ws vs hD hth hl => ?_
  intro t0 r0 t1 k1 t2 r2 t4 k4 t5 k5 t7 k7 t9 k9 t10 k10 f0 f1 f2 f3 f4 f5 f6 f7 f8 f9 f10 f11
  replace f3 := shm_116 f3
  replace f4 := shm_541 f4
  replace f5 := shm_542 f5
  replace f6 := shm_541 f6
  replace f7 := shm_542 f7
  replace f9 := shm_1444 f9
  replace f10 := shm_1445 f10
  replace f11 := shm_5 f11
  have q2 : n_v vs 2 = n_v vs 0 := f11.symm
  simp only [q2] at f3 f4 f5 f6 f7 f9 f10
  have cr_0_1 := fdq_39 hD hth r0
  have g3 : v_iv (n_v vs 4) = w_fi ws (n_v vs 0) 11 := congrArg v_iv f3
  have hK_0_1 := elq_7 hD hth cr_0_1
  have kz_0_10 := fdq_43 hD hth r0
  have kz_0_11 := fdq_237 hD hth r0
  have kz_0_13 := fdq_238 hD hth r0
  have kz_0_15 := fdq_239 hD hth r0
  have nf0 : fc_1 PRD (20, [2, 1], [60, 4, 1, 952, 10, 11, 13, 15, 1]) ws (vs) := by
    refine ⟨nf_in hl rfl, sgq_1448 ?_⟩
    · show ZXN (w_fi ws (n_v vs 2) 10) (w_fi ws (n_v vs 2) 11) (w_fi ws (n_v vs 2) 13) (w_fi ws (n_v vs 2) 15) (w_ei ws (w_ar ws (n_v vs 2) 1)) (v_iv (n_v vs 1))
      rw [q2]
      exact vc_Mo_next_38_0 (v_iv (n_v vs 1)) (v_iv (n_v vs 4)) (v_iv (n_v vs 5)) (v_iv (n_v vs 7)) (w_ei ws (w_ar ws (n_v vs 0) 1)) (w_fi ws (n_v vs 0) 10) (w_fi ws (n_v vs 0) 11) (w_fi ws (n_v vs 0) 15) (w_fi ws (n_v vs 0) 13) k1 k4 k5 k7 g3 f4 f5 f6 f7 f9 f10 hK_0_1 kz_0_10 kz_0_11 kz_0_13 kz_0_15
  refine ⟨(fun _ h => (by cases h)), [], trivial, ?_, (fun _ h => (by cases h))⟩
  rw [List.append_nil]
  exact List.forall_mem_cons.mpr ⟨⟨show (20 : Nat) < 100 from by decide, nf0⟩, (fun _ h => (by cases h))⟩
set_option maxHeartbeats 4000000 in
theorem vc_Mo_next_39_0 (x4 : Int) (x5 : Int) (x7 : Int) (x9 : Int) (tape_0 : Int → Int) (limit_0 : Int) (pos_0 : Int) (from_0 : Int) (k4 : 0 ≤ x4 ∧ x4 ≤ 1999) (k5 : 91 ≤ x5 ∧ x5 ≤ 96) (k7 : 0 ≤ x7 ∧ x7 ≤ 47) (k9 : (-1) ≤ x9 ∧ x9 ≤ (-1)) (f1 : ((x4 + 1) ≤ limit_0) → (x9 = (tape_0 (x4) % 256))) (f2 : (limit_0 ≤ x4) → (x9 = (-1))) (g3 : x4 = pos_0) (f4 : ((x4 + 1) ≤ limit_0) → (x7 = (tape_0 (x4) % 256))) (f5 : (limit_0 ≤ x4) → (x7 = (-1))) (f6 : ((x4 + 1) ≤ limit_0) → (x5 = (tape_0 (x4) % 256))) (f7 : (limit_0 ≤ x4) → (x5 = (-1))) (f9 : (from_0 ≤ pos_0) ∧ (((from_0 + 1) ≤ pos_0) ∨ ((pos_0 = from_0) ∧ (((from_0 + 1) ≤ limit_0) ∧ (((65 ≤ (tape_0 (from_0) % 256)) ∧ ((tape_0 (from_0) % 256) ≤ 90)) ∨ ((97 ≤ (tape_0 (from_0) % 256)) ∧ ((tape_0 (from_0) % 256) ≤ 122))))))) (hK_0_1 : ∀ j : Int, 0 ≤ j → j < 2000 → (-128) ≤ tape_0 j ∧ tape_0 j ≤ 127) (kz_0_10 : 0 ≤ limit_0 ∧ limit_0 ≤ 2000) (kz_0_11 : 0 ≤ pos_0 ∧ pos_0 ≤ 2000) (kz_0_15 : 0 ≤ from_0 ∧ from_0 ≤ 2000) : (from_0 + 1) ≤ pos_0 := by
  first | with_reducible assumption | ((have f9_c0 := f9.1); (have f9_c1 := f9.2); (try and_intros) <;> first | with_reducible assumption | (clear f9_c1 f9 hK_0_1 f1 f2 f4 f5 f6 f7; omega)) | ((have f9_c0 := f9.1); (have f9_c1 := f9.2); (first | have f1_b := f1 (by clear f9_c1 f9 hK_0_1 f1 f2 f4 f5 f6 f7; omega) | skip); (first | have f2_b := f2 (by clear f9_c1 f9 hK_0_1 f1 f2 f4 f5 f6 f7; omega) | skip); (first | have f4_b := f4 (by clear f9_c1 f9 hK_0_1 f1 f2 f4 f5 f6 f7; omega) | skip); (first | have f5_b := f5 (by clear f9_c1 f9 hK_0_1 f1 f2 f4 f5 f6 f7; omega) | skip); (first | have f6_b := f6 (by clear f9_c1 f9 hK_0_1 f1 f2 f4 f5 f6 f7; omega) | skip); (first | have f7_b := f7 (by clear f9_c1 f9 hK_0_1 f1 f2 f4 f5 f6 f7; omega) | skip); (first | have f1_d := f1 (by with_reducible assumption) | skip); (first | have f2_d := f2 (by with_reducible assumption) | skip); (first | have f4_d := f4 (by with_reducible assumption) | skip); (first | have f5_d := f5 (by with_reducible assumption) | skip); (first | have f6_d := f6 (by with_reducible assumption) | skip); (first | have f7_d := f7 (by with_reducible assumption) | skip); (try and_intros) <;> first | with_reducible assumption | (clear f9_c1 f9 hK_0_1 f1 f2 f4 f5 f6 f7; omega)) | omega
set_option maxHeartbeats 4000000 in
theorem vc_Mo_next_39_1 (x1 : Int) (x4 : Int) (x5 : Int) (x7 : Int) (tape_0 : Int → Int) (limit_0 : Int) (pos_0 : Int) (from_0 : Int) (place_0 : Int) (k1 : 0 ≤ x1 ∧ x1 ≤ 2000) (k4 : 0 ≤ x4 ∧ x4 ≤ 1999) (k5 : 91 ≤ x5 ∧ x5 ≤ 96) (k7 : 0 ≤ x7 ∧ x7 ≤ 47) (g3 : x4 = pos_0) (f4 : ((x4 + 1) ≤ limit_0) → (x7 = (tape_0 (x4) % 256))) (f5 : (limit_0 ≤ x4) → (x7 = (-1))) (f6 : ((x4 + 1) ≤ limit_0) → (x5 = (tape_0 (x4) % 256))) (f7 : (limit_0 ≤ x4) → (x5 = (-1))) (f9 : (from_0 ≤ pos_0) ∧ (((from_0 + 1) ≤ pos_0) ∨ ((pos_0 = from_0) ∧ (((from_0 + 1) ≤ limit_0) ∧ (((65 ≤ (tape_0 (from_0) % 256)) ∧ ((tape_0 (from_0) % 256) ≤ 90)) ∨ ((97 ≤ (tape_0 (from_0) % 256)) ∧ ((tape_0 (from_0) % 256) ≤ 122))))))) (f10 : ZXL (limit_0) (pos_0) (place_0) (from_0) (tape_0) (x1)) (kz_0_10 : 0 ≤ limit_0 ∧ limit_0 ≤ 2000) (kz_0_11 : 0 ≤ pos_0 ∧ pos_0 ≤ 2000) (kz_0_13 : 0 ≤ place_0 ∧ place_0 ≤ 2000) (kz_0_15 : 0 ≤ from_0 ∧ from_0 ≤ 2000) : ZXM (limit_0) (pos_0) (place_0) (from_0) (tape_0) (x1) := by
  first | subst g3 | skip
  exact zxm_mk ‹ZXL _ _ _ _ _ _› (fun q => by omega)
def o_Mo_next_39 : or_T := (147, 11, [(0, (2, 0, 0, [165])), (1, (0, 0, 2000, [])), (2, (2, 0, 0, [165])), (4, (0, 0, 1999, [])), (5, (0, 91, 96, [])), (7, (0, 0, 47, [])), (9, (0, -1, -1, [])), (10, (0, 95, 95, []))], [(7, [9, 10], [1]), (20, [4, 2, 9], [50, 1, 1, 1010, 1001, 4, 11, 0, 6, 4, 2, 1, 0, 0, 1, 2, 1, 10, 1, 2, 1, 2, 9, 5, 3, 1, 1, 1, 0, 0, 256]), (20, [2, 4, 9], [50, 1, 0, 10, 4, 7, 0, 3, 2, 0, 10, 1, 1, 1, 2, 1, 2, 0, -1]), (9, [4, 2], [11]), (20, [4, 2, 7], [50, 1, 1, 1010, 1001, 4, 11, 0, 6, 4, 2, 1, 0, 0, 1, 2, 1, 10, 1, 2, 1, 2, 9, 5, 3, 1, 1, 1, 0, 0, 256]), (20, [2, 4, 7], [50, 1, 0, 10, 4, 7, 0, 3, 2, 0, 10, 1, 1, 1, 2, 1, 2, 0, -1]), (20, [4, 2, 5], [50, 1, 1, 1010, 1001, 4, 11, 0, 6, 4, 2, 1, 0, 0, 1, 2, 1, 10, 1, 2, 1, 2, 9, 5, 3, 1, 1, 1, 0, 0, 256]), (20, [2, 4, 5], [50, 1, 0, 10, 4, 7, 0, 3, 2, 0, 10, 1, 1, 1, 2, 1, 2, 0, -1]), (20, [1, 2], [30, 0, 1, 0, 0, -1, 1, 15]), (20, [2], [50, 3, 1, 15, 11, 10, 1, 2, 8, 0, 3, 2, 0, 15, 2, 0, 11, 3, 12, 0, 7, 4, 3, 2, 0, 15, 0, 1, 2, 0, 11, 2, 8, 1, 3, 2, 0, 11, 2, 0, 15, 2, 12, 0, 7, 4, 3, 2, 0, 15, 0, 1, 2, 0, 10, 3, 30, 2, 14, 0, 2, 0, 65, 9, 6, 3, 0, 1, 2, 0, 15, 0, 256, 0, 10, 9, 6, 3, 0, 1, 2, 0, 15, 0, 256, 0, 90, 2, 14, 0, 2, 0, 97, 9, 6, 3, 0, 1, 2, 0, 15, 0, 256, 0, 10, 9, 6, 3, 0, 1, 2, 0, 15, 0, 256, 0, 122]), (20, [2, 1], [60, 4, 1, 951, 10, 11, 13, 15, 1]), (24, [0, 2], [])], [], [], [(20, [2], [50, 2, 0, 15, 11, 0, 7, 4, 3, 2, 0, 15, 0, 1, 2, 0, 11]), (20, [2, 1], [60, 4, 1, 953, 10, 11, 13, 15, 1])], [], [])
theorem oo_Mo_next_39 {kA : Nat → ClassId} : or_ok PRD kA GG o_Mo_next_39 := by
  refine or_mk fun A ta ws vs hD hth hl => ?_
  intro t0 r0 t1 k1 t2 r2 t4 k4 t5 k5 t7 k7 t9 k9 t10 k10 f0 f1 f2 f3 f4 f5 f6 f7 f8 f9 f10 f11
  replace f1 := shm_541 f1
  replace f2 := shm_542 f2
  replace f3 := shm_116 f3
  replace f4 := shm_541 f4
  replace f5 := shm_542 f5
  replace f6 := shm_541 f6
  replace f7 := shm_542 f7
  replace f9 := shm_1444 f9
  replace f10 := shm_1445 f10
  replace f11 := shm_5 f11
  have q2 : n_v vs 2 = n_v vs 0 := f11.symm
  simp only [q2] at f1 f2 f3 f4 f5 f6 f7 f9 f10
  have cr_0_1 := fdq_39 hD hth r0
  have g3 : v_iv (n_v vs 4) = w_fi ws (n_v vs 0) 11 := congrArg v_iv f3
  have hK_0_1 := elq_7 hD hth cr_0_1
  have kz_0_10 := fdq_43 hD hth r0
  have kz_0_11 := fdq_237 hD hth r0
  have kz_0_13 := fdq_238 hD hth r0
  have kz_0_15 := fdq_239 hD hth r0
  have nf0 : fc_1 PRD (20, [2], [50, 2, 0, 15, 11, 0, 7, 4, 3, 2, 0, 15, 0, 1, 2, 0, 11]) ws (vs) := by
    refine ⟨nf_in hl rfl, sgq_1446 ?_⟩
    · show (w_fi ws (n_v vs 2) 15 + 1) ≤ w_fi ws (n_v vs 2) 11
      rw [q2]
      exact vc_Mo_next_39_0 (v_iv (n_v vs 4)) (v_iv (n_v vs 5)) (v_iv (n_v vs 7)) (v_iv (n_v vs 9)) (w_ei ws (w_ar ws (n_v vs 0) 1)) (w_fi ws (n_v vs 0) 10) (w_fi ws (n_v vs 0) 11) (w_fi ws (n_v vs 0) 15) k4 k5 k7 k9 f1 f2 g3 f4 f5 f6 f7 f9 hK_0_1 kz_0_10 kz_0_11 kz_0_15
  have nf1 : fc_1 PRD (20, [2, 1], [60, 4, 1, 953, 10, 11, 13, 15, 1]) ws (vs) := by
    refine ⟨nf_in hl rfl, sgq_1447 ?_⟩
    · show ZXM (w_fi ws (n_v vs 2) 10) (w_fi ws (n_v vs 2) 11) (w_fi ws (n_v vs 2) 13) (w_fi ws (n_v vs 2) 15) (w_ei ws (w_ar ws (n_v vs 2) 1)) (v_iv (n_v vs 1))
      rw [q2]
      exact vc_Mo_next_39_1 (v_iv (n_v vs 1)) (v_iv (n_v vs 4)) (v_iv (n_v vs 5)) (v_iv (n_v vs 7)) (w_ei ws (w_ar ws (n_v vs 0) 1)) (w_fi ws (n_v vs 0) 10) (w_fi ws (n_v vs 0) 11) (w_fi ws (n_v vs 0) 15) (w_fi ws (n_v vs 0) 13) k1 k4 k5 k7 g3 f4 f5 f6 f7 f9 f10 kz_0_10 kz_0_11 kz_0_13 kz_0_15
  refine ⟨(fun _ h => (by cases h)), [], trivial, ?_, (fun _ h => (by cases h))⟩
  rw [List.append_nil]
  exact List.forall_mem_cons.mpr ⟨⟨show (20 : Nat) < 100 from by decide, nf0⟩, List.forall_mem_cons.mpr ⟨⟨show (20 : Nat) < 100 from by decide, nf1⟩, (fun _ h => (by cases h))⟩⟩
set_option maxHeartbeats 4000000 in
theorem vc_Mo_next_40_0 (x4 : Int) (x5 : Int) (x7 : Int) (x9 : Int) (tape_0 : Int → Int) (limit_0 : Int) (pos_0 : Int) (from_0 : Int) (k4 : 0 ≤ x4 ∧ x4 ≤ 1999) (k5 : 91 ≤ x5 ∧ x5 ≤ 96) (k7 : 0 ≤ x7 ∧ x7 ≤ 47) (k9 : 0 ≤ x9 ∧ x9 ≤ 255) (f1 : ((x4 + 1) ≤ limit_0) → (x9 = (tape_0 (x4) % 256))) (f2 : (limit_0 ≤ x4) → (x9 = (-1))) (g3 : x4 = pos_0) (f4 : ((x4 + 1) ≤ limit_0) → (x7 = (tape_0 (x4) % 256))) (f5 : (limit_0 ≤ x4) → (x7 = (-1))) (f6 : ((x4 + 1) ≤ limit_0) → (x5 = (tape_0 (x4) % 256))) (f7 : (limit_0 ≤ x4) → (x5 = (-1))) (f9 : (from_0 ≤ pos_0) ∧ (((from_0 + 1) ≤ pos_0) ∨ ((pos_0 = from_0) ∧ (((from_0 + 1) ≤ limit_0) ∧ (((65 ≤ (tape_0 (from_0) % 256)) ∧ ((tape_0 (from_0) % 256) ≤ 90)) ∨ ((97 ≤ (tape_0 (from_0) % 256)) ∧ ((tape_0 (from_0) % 256) ≤ 122))))))) (hK_0_1 : ∀ j : Int, 0 ≤ j → j < 2000 → (-128) ≤ tape_0 j ∧ tape_0 j ≤ 127) (kz_0_10 : 0 ≤ limit_0 ∧ limit_0 ≤ 2000) (kz_0_11 : 0 ≤ pos_0 ∧ pos_0 ≤ 2000) (kz_0_15 : 0 ≤ from_0 ∧ from_0 ≤ 2000) : (from_0 + 1) ≤ pos_0 := by
  first | with_reducible assumption | ((have f9_c0 := f9.1); (have f9_c1 := f9.2); (try and_intros) <;> first | with_reducible assumption | (clear f9_c1 f9 hK_0_1 f1 f2 f4 f5 f6 f7; omega)) | ((have f9_c0 := f9.1); (have f9_c1 := f9.2); (first | have f1_b := f1 (by clear f9_c1 f9 hK_0_1 f1 f2 f4 f5 f6 f7; omega) | skip); (first | have f2_b := f2 (by clear f9_c1 f9 hK_0_1 f1 f2 f4 f5 f6 f7; omega) | skip); (first | have f4_b := f4 (by clear f9_c1 f9 hK_0_1 f1 f2 f4 f5 f6 f7; omega) | skip); (first | have f5_b := f5 (by clear f9_c1 f9 hK_0_1 f1 f2 f4 f5 f6 f7; omega) | skip); (first | have f6_b := f6 (by clear f9_c1 f9 hK_0_1 f1 f2 f4 f5 f6 f7; omega) | skip); (first | have f7_b := f7 (by clear f9_c1 f9 hK_0_1 f1 f2 f4 f5 f6 f7; omega) | skip); (first | have f1_d := f1 (by with_reducible assumption) | skip); (first | have f2_d := f2 (by with_reducible assumption) | skip); (first | have f4_d := f4 (by with_reducible assumption) | skip); (first | have f5_d := f5 (by with_reducible assumption) | skip); (first | have f6_d := f6 (by with_reducible assumption) | skip); (first | have f7_d := f7 (by with_reducible assumption) | skip); (try and_intros) <;> first | with_reducible assumption | (clear f9_c1 f9 hK_0_1 f1 f2 f4 f5 f6 f7; omega)) | omega
set_option maxHeartbeats 4000000 in
theorem vc_Mo_next_40_1 (x1 : Int) (x4 : Int) (x5 : Int) (x7 : Int) (tape_0 : Int → Int) (limit_0 : Int) (pos_0 : Int) (from_0 : Int) (place_0 : Int) (k1 : 0 ≤ x1 ∧ x1 ≤ 2000) (k4 : 0 ≤ x4 ∧ x4 ≤ 1999) (k5 : 91 ≤ x5 ∧ x5 ≤ 96) (k7 : 0 ≤ x7 ∧ x7 ≤ 47) (g3 : x4 = pos_0) (f4 : ((x4 + 1) ≤ limit_0) → (x7 = (tape_0 (x4) % 256))) (f5 : (limit_0 ≤ x4) → (x7 = (-1))) (f6 : ((x4 + 1) ≤ limit_0) → (x5 = (tape_0 (x4) % 256))) (f7 : (limit_0 ≤ x4) → (x5 = (-1))) (f9 : (from_0 ≤ pos_0) ∧ (((from_0 + 1) ≤ pos_0) ∨ ((pos_0 = from_0) ∧ (((from_0 + 1) ≤ limit_0) ∧ (((65 ≤ (tape_0 (from_0) % 256)) ∧ ((tape_0 (from_0) % 256) ≤ 90)) ∨ ((97 ≤ (tape_0 (from_0) % 256)) ∧ ((tape_0 (from_0) % 256) ≤ 122))))))) (f10 : ZXL (limit_0) (pos_0) (place_0) (from_0) (tape_0) (x1)) (kz_0_10 : 0 ≤ limit_0 ∧ limit_0 ≤ 2000) (kz_0_11 : 0 ≤ pos_0 ∧ pos_0 ≤ 2000) (kz_0_13 : 0 ≤ place_0 ∧ place_0 ≤ 2000) (kz_0_15 : 0 ≤ from_0 ∧ from_0 ≤ 2000) : ZXM (limit_0) (pos_0) (place_0) (from_0) (tape_0) (x1) := by
  first | subst g3 | skip
  exact zxm_mk ‹ZXL _ _ _ _ _ _› (fun q => by omega)
def o_Mo_next_40 : or_T := (147, 11, [(0, (2, 0, 0, [165])), (1, (0, 0, 2000, [])), (2, (2, 0, 0, [165])), (4, (0, 0, 1999, [])), (5, (0, 91, 96, [])), (7, (0, 0, 47, [])), (9, (0, 0, 255, [])), (10, (0, 95, 95, []))], [(7, [9, 10], [1]), (20, [4, 2, 9], [50, 1, 1, 1010, 1001, 4, 11, 0, 6, 4, 2, 1, 0, 0, 1, 2, 1, 10, 1, 2, 1, 2, 9, 5, 3, 1, 1, 1, 0, 0, 256]), (20, [2, 4, 9], [50, 1, 0, 10, 4, 7, 0, 3, 2, 0, 10, 1, 1, 1, 2, 1, 2, 0, -1]), (9, [4, 2], [11]), (20, [4, 2, 7], [50, 1, 1, 1010, 1001, 4, 11, 0, 6, 4, 2, 1, 0, 0, 1, 2, 1, 10, 1, 2, 1, 2, 9, 5, 3, 1, 1, 1, 0, 0, 256]), (20, [2, 4, 7], [50, 1, 0, 10, 4, 7, 0, 3, 2, 0, 10, 1, 1, 1, 2, 1, 2, 0, -1]), (20, [4, 2, 5], [50, 1, 1, 1010, 1001, 4, 11, 0, 6, 4, 2, 1, 0, 0, 1, 2, 1, 10, 1, 2, 1, 2, 9, 5, 3, 1, 1, 1, 0, 0, 256]), (20, [2, 4, 5], [50, 1, 0, 10, 4, 7, 0, 3, 2, 0, 10, 1, 1, 1, 2, 1, 2, 0, -1]), (20, [1, 2], [30, 0, 1, 0, 0, -1, 1, 15]), (20, [2], [50, 3, 1, 15, 11, 10, 1, 2, 8, 0, 3, 2, 0, 15, 2, 0, 11, 3, 12, 0, 7, 4, 3, 2, 0, 15, 0, 1, 2, 0, 11, 2, 8, 1, 3, 2, 0, 11, 2, 0, 15, 2, 12, 0, 7, 4, 3, 2, 0, 15, 0, 1, 2, 0, 10, 3, 30, 2, 14, 0, 2, 0, 65, 9, 6, 3, 0, 1, 2, 0, 15, 0, 256, 0, 10, 9, 6, 3, 0, 1, 2, 0, 15, 0, 256, 0, 90, 2, 14, 0, 2, 0, 97, 9, 6, 3, 0, 1, 2, 0, 15, 0, 256, 0, 10, 9, 6, 3, 0, 1, 2, 0, 15, 0, 256, 0, 122]), (20, [2, 1], [60, 4, 1, 951, 10, 11, 13, 15, 1]), (24, [0, 2], [])], [], [], [(20, [2], [50, 2, 0, 15, 11, 0, 7, 4, 3, 2, 0, 15, 0, 1, 2, 0, 11]), (20, [2, 1], [60, 4, 1, 953, 10, 11, 13, 15, 1])], [], [])
theorem oo_Mo_next_40 {kA : Nat → ClassId} : or_ok PRD kA GG o_Mo_next_40 := by
  refine or_mk fun A ta ws vs hD hth hl => ?_
  intro t0 r0 t1 k1 t2 r2 t4 k4 t5 k5 t7 k7 t9 k9 t10 k10 f0 f1 f2 f3 f4 f5 f6 f7 f8 f9 f10 f11
  replace f1 := shm_541 f1
  replace f2 := shm_542 f2
  replace f3 := shm_116 f3
  replace f4 := shm_541 f4
  replace f5 := shm_542 f5
  replace f6 := shm_541 f6
  replace f7 := shm_542 f7
  replace f9 := shm_1444 f9
  replace f10 := shm_1445 f10
  replace f11 := shm_5 f11
  have q2 : n_v vs 2 = n_v vs 0 := f11.symm
  simp only [q2] at f1 f2 f3 f4 f5 f6 f7 f9 f10
  have cr_0_1 := fdq_39 hD hth r0
  have g3 : v_iv (n_v vs 4) = w_fi ws (n_v vs 0) 11 := congrArg v_iv f3
  have hK_0_1 := elq_7 hD hth cr_0_1
  have kz_0_10 := fdq_43 hD hth r0
  have kz_0_11 := fdq_237 hD hth r0
  have kz_0_13 := fdq_238 hD hth r0
  have kz_0_15 := fdq_239 hD hth r0
  have nf0 : fc_1 PRD (20, [2], [50, 2, 0, 15, 11, 0, 7, 4, 3, 2, 0, 15, 0, 1, 2, 0, 11]) ws (vs) := by
    refine ⟨nf_in hl rfl, sgq_1446 ?_⟩
    · show (w_fi ws (n_v vs 2) 15 + 1) ≤ w_fi ws (n_v vs 2) 11
      rw [q2]
      exact vc_Mo_next_40_0 (v_iv (n_v vs 4)) (v_iv (n_v vs 5)) (v_iv (n_v vs 7)) (v_iv (n_v vs 9)) (w_ei ws (w_ar ws (n_v vs 0) 1)) (w_fi ws (n_v vs 0) 10) (w_fi ws (n_v vs 0) 11) (w_fi ws (n_v vs 0) 15) k4 k5 k7 k9 f1 f2 g3 f4 f5 f6 f7 f9 hK_0_1 kz_0_10 kz_0_11 kz_0_15
  have nf1 : fc_1 PRD (20, [2, 1], [60, 4, 1, 953, 10, 11, 13, 15, 1]) ws (vs) := by
    refine ⟨nf_in hl rfl, sgq_1447 ?_⟩
    · show ZXM (w_fi ws (n_v vs 2) 10) (w_fi ws (n_v vs 2) 11) (w_fi ws (n_v vs 2) 13) (w_fi ws (n_v vs 2) 15) (w_ei ws (w_ar ws (n_v vs 2) 1)) (v_iv (n_v vs 1))
      rw [q2]
      exact vc_Mo_next_40_1 (v_iv (n_v vs 1)) (v_iv (n_v vs 4)) (v_iv (n_v vs 5)) (v_iv (n_v vs 7)) (w_ei ws (w_ar ws (n_v vs 0) 1)) (w_fi ws (n_v vs 0) 10) (w_fi ws (n_v vs 0) 11) (w_fi ws (n_v vs 0) 15) (w_fi ws (n_v vs 0) 13) k1 k4 k5 k7 g3 f4 f5 f6 f7 f9 f10 kz_0_10 kz_0_11 kz_0_13 kz_0_15
  refine ⟨(fun _ h => (by cases h)), [], trivial, ?_, (fun _ h => (by cases h))⟩
  rw [List.append_nil]
  exact List.forall_mem_cons.mpr ⟨⟨show (20 : Nat) < 100 from by decide, nf0⟩, List.forall_mem_cons.mpr ⟨⟨show (20 : Nat) < 100 from by decide, nf1⟩, (fun _ h => (by cases h))⟩⟩
set_option maxHeartbeats 4000000 in
theorem vc_Mo_next_41_0 (x1 : Int) (x4 : Int) (x5 : Int) (x7 : Int) (tape_0 : Int → Int) (limit_0 : Int) (pos_0 : Int) (from_0 : Int) (place_0 : Int) (k1 : 0 ≤ x1 ∧ x1 ≤ 2000) (k4 : 0 ≤ x4 ∧ x4 ≤ 1999) (k5 : 91 ≤ x5 ∧ x5 ≤ 96) (k7 : 0 ≤ x7 ∧ x7 ≤ 47) (g3 : x4 = pos_0) (f4 : ((x4 + 1) ≤ limit_0) → (x7 = (tape_0 (x4) % 256))) (f5 : (limit_0 ≤ x4) → (x7 = (-1))) (f6 : ((x4 + 1) ≤ limit_0) → (x5 = (tape_0 (x4) % 256))) (f7 : (limit_0 ≤ x4) → (x5 = (-1))) (f9 : (from_0 ≤ pos_0) ∧ (((from_0 + 1) ≤ pos_0) ∨ ((pos_0 = from_0) ∧ (((from_0 + 1) ≤ limit_0) ∧ (((65 ≤ (tape_0 (from_0) % 256)) ∧ ((tape_0 (from_0) % 256) ≤ 90)) ∨ ((97 ≤ (tape_0 (from_0) % 256)) ∧ ((tape_0 (from_0) % 256) ≤ 122))))))) (f10 : ZXL (limit_0) (pos_0) (place_0) (from_0) (tape_0) (x1)) (hK_0_1 : ∀ j : Int, 0 ≤ j → j < 2000 → (-128) ≤ tape_0 j ∧ tape_0 j ≤ 127) (kz_0_10 : 0 ≤ limit_0 ∧ limit_0 ≤ 2000) (kz_0_11 : 0 ≤ pos_0 ∧ pos_0 ≤ 2000) (kz_0_13 : 0 ≤ place_0 ∧ place_0 ≤ 2000) (kz_0_15 : 0 ≤ from_0 ∧ from_0 ≤ 2000) : ZXN (limit_0) (pos_0) (place_0) (from_0) (tape_0) (x1) := by
  first | subst g3 | skip
  exact zxn_mk (by assumption) ‹ZXL _ _ _ _ _ _› (by omega) (by omega)
def o_Mo_next_41 : or_T := (134, 11, [(0, (2, 0, 0, [165])), (1, (0, 0, 2000, [])), (2, (2, 0, 0, [165])), (4, (0, 0, 1999, [])), (5, (0, 91, 96, [])), (7, (0, 0, 47, [])), (9, (0, 95, 95, [])), (10, (0, 95, 95, []))], [(7, [9, 10], [0]), (20, [4, 2, 9], [50, 1, 1, 1010, 1001, 4, 11, 0, 6, 4, 2, 1, 0, 0, 1, 2, 1, 10, 1, 2, 1, 2, 9, 5, 3, 1, 1, 1, 0, 0, 256]), (20, [2, 4, 9], [50, 1, 0, 10, 4, 7, 0, 3, 2, 0, 10, 1, 1, 1, 2, 1, 2, 0, -1]), (9, [4, 2], [11]), (20, [4, 2, 7], [50, 1, 1, 1010, 1001, 4, 11, 0, 6, 4, 2, 1, 0, 0, 1, 2, 1, 10, 1, 2, 1, 2, 9, 5, 3, 1, 1, 1, 0, 0, 256]), (20, [2, 4, 7], [50, 1, 0, 10, 4, 7, 0, 3, 2, 0, 10, 1, 1, 1, 2, 1, 2, 0, -1]), (20, [4, 2, 5], [50, 1, 1, 1010, 1001, 4, 11, 0, 6, 4, 2, 1, 0, 0, 1, 2, 1, 10, 1, 2, 1, 2, 9, 5, 3, 1, 1, 1, 0, 0, 256]), (20, [2, 4, 5], [50, 1, 0, 10, 4, 7, 0, 3, 2, 0, 10, 1, 1, 1, 2, 1, 2, 0, -1]), (20, [1, 2], [30, 0, 1, 0, 0, -1, 1, 15]), (20, [2], [50, 3, 1, 15, 11, 10, 1, 2, 8, 0, 3, 2, 0, 15, 2, 0, 11, 3, 12, 0, 7, 4, 3, 2, 0, 15, 0, 1, 2, 0, 11, 2, 8, 1, 3, 2, 0, 11, 2, 0, 15, 2, 12, 0, 7, 4, 3, 2, 0, 15, 0, 1, 2, 0, 10, 3, 30, 2, 14, 0, 2, 0, 65, 9, 6, 3, 0, 1, 2, 0, 15, 0, 256, 0, 10, 9, 6, 3, 0, 1, 2, 0, 15, 0, 256, 0, 90, 2, 14, 0, 2, 0, 97, 9, 6, 3, 0, 1, 2, 0, 15, 0, 256, 0, 10, 9, 6, 3, 0, 1, 2, 0, 15, 0, 256, 0, 122]), (20, [2, 1], [60, 4, 1, 951, 10, 11, 13, 15, 1]), (24, [0, 2], [])], [], [], [(20, [2, 1], [60, 4, 1, 952, 10, 11, 13, 15, 1])], [], [])
theorem oo_Mo_next_41 {kA : Nat → ClassId} : or_ok PRD kA GG o_Mo_next_41 := by
  refine or_mk fun A ta ws vs hD hth hl => ?_
  intro t0 r0 t1 k1 t2 r2 t4 k4 t5 k5 t7 k7 t9 k9 t10 k10 f0 f1 f2 f3 f4 f5 f6 f7 f8 f9 f10 f11
  replace f3 := shm_116 f3
  replace f4 := shm_541 f4
  replace f5 := shm_542 f5
  replace f6 := shm_541 f6
  replace f7 := shm_542 f7
  replace f9 := shm_1444 f9
  replace f10 := shm_1445 f10
  replace f11 := shm_5 f11
  have q2 : n_v vs 2 = n_v vs 0 := f11.symm
  simp only [q2] at f3 f4 f5 f6 f7 f9 f10
  have cr_0_1 := fdq_39 hD hth r0
  have g3 : v_iv (n_v vs 4) = w_fi ws (n_v vs 0) 11 := congrArg v_iv f3
  have hK_0_1 := elq_7 hD hth cr_0_1
  have kz_0_10 := fdq_43 hD hth r0
  have kz_0_11 := fdq_237 hD hth r0
  have kz_0_13 := fdq_238 hD hth r0
  have kz_0_15 := fdq_239 hD hth r0
  have nf0 : fc_1 PRD (20, [2, 1], [60, 4, 1, 952, 10, 11, 13, 15, 1]) ws (vs) := by
    refine ⟨nf_in hl rfl, sgq_1448 ?_⟩
    · show ZXN (w_fi ws (n_v vs 2) 10) (w_fi ws (n_v vs 2) 11) (w_fi ws (n_v vs 2) 13) (w_fi ws (n_v vs 2) 15) (w_ei ws (w_ar ws (n_v vs 2) 1)) (v_iv (n_v vs 1))
      rw [q2]
      exact vc_Mo_next_41_0 (v_iv (n_v vs 1)) (v_iv (n_v vs 4)) (v_iv (n_v vs 5)) (v_iv (n_v vs 7)) (w_ei ws (w_ar ws (n_v vs 0) 1)) (w_fi ws (n_v vs 0) 10) (w_fi ws (n_v vs 0) 11) (w_fi ws (n_v vs 0) 15) (w_fi ws (n_v vs 0) 13) k1 k4 k5 k7 g3 f4 f5 f6 f7 f9 f10 hK_0_1 kz_0_10 kz_0_11 kz_0_13 kz_0_15
  refine ⟨(fun _ h => (by cases h)), [], trivial, ?_, (fun _ h => (by cases h))⟩
  rw [List.append_nil]
  exact List.forall_mem_cons.mpr ⟨⟨show (20 : Nat) < 100 from by decide, nf0⟩, (fun _ h => (by cases h))⟩
set_option maxHeartbeats 4000000 in
theorem vc_Mo_next_42_0 (x4 : Int) (x5 : Int) (x7 : Int) (x9 : Int) (tape_0 : Int → Int) (limit_0 : Int) (pos_0 : Int) (from_0 : Int) (k4 : 0 ≤ x4 ∧ x4 ≤ 1999) (k5 : 91 ≤ x5 ∧ x5 ≤ 96) (k7 : 58 ≤ x7 ∧ x7 ≤ 255) (k9 : (-1) ≤ x9 ∧ x9 ≤ (-1)) (f1 : ((x4 + 1) ≤ limit_0) → (x9 = (tape_0 (x4) % 256))) (f2 : (limit_0 ≤ x4) → (x9 = (-1))) (g3 : x4 = pos_0) (f4 : ((x4 + 1) ≤ limit_0) → (x7 = (tape_0 (x4) % 256))) (f5 : (limit_0 ≤ x4) → (x7 = (-1))) (f6 : ((x4 + 1) ≤ limit_0) → (x5 = (tape_0 (x4) % 256))) (f7 : (limit_0 ≤ x4) → (x5 = (-1))) (f9 : (from_0 ≤ pos_0) ∧ (((from_0 + 1) ≤ pos_0) ∨ ((pos_0 = from_0) ∧ (((from_0 + 1) ≤ limit_0) ∧ (((65 ≤ (tape_0 (from_0) % 256)) ∧ ((tape_0 (from_0) % 256) ≤ 90)) ∨ ((97 ≤ (tape_0 (from_0) % 256)) ∧ ((tape_0 (from_0) % 256) ≤ 122))))))) (hK_0_1 : ∀ j : Int, 0 ≤ j → j < 2000 → (-128) ≤ tape_0 j ∧ tape_0 j ≤ 127) (kz_0_10 : 0 ≤ limit_0 ∧ limit_0 ≤ 2000) (kz_0_11 : 0 ≤ pos_0 ∧ pos_0 ≤ 2000) (kz_0_15 : 0 ≤ from_0 ∧ from_0 ≤ 2000) : (from_0 + 1) ≤ pos_0 := by
  first | with_reducible assumption | ((have f9_c0 := f9.1); (have f9_c1 := f9.2); (try and_intros) <;> first | with_reducible assumption | (clear f9_c1 f9 hK_0_1 f1 f2 f4 f5 f6 f7; omega)) | ((have f9_c0 := f9.1); (have f9_c1 := f9.2); (first | have f1_b := f1 (by clear f9_c1 f9 hK_0_1 f1 f2 f4 f5 f6 f7; omega) | skip); (first | have f2_b := f2 (by clear f9_c1 f9 hK_0_1 f1 f2 f4 f5 f6 f7; omega) | skip); (first | have f4_b := f4 (by clear f9_c1 f9 hK_0_1 f1 f2 f4 f5 f6 f7; omega) | skip); (first | have f5_b := f5 (by clear f9_c1 f9 hK_0_1 f1 f2 f4 f5 f6 f7; omega) | skip); (first | have f6_b := f6 (by clear f9_c1 f9 hK_0_1 f1 f2 f4 f5 f6 f7; omega) | skip); (first | have f7_b := f7 (by clear f9_c1 f9 hK_0_1 f1 f2 f4 f5 f6 f7; omega) | skip); (first | have f1_d := f1 (by with_reducible assumption) | skip); (first | have f2_d := f2 (by with_reducible assumption) | skip); (first | have f4_d := f4 (by with_reducible assumption) | skip); (first | have f5_d := f5 (by with_reducible assumption) | skip); (first | have f6_d := f6 (by with_reducible assumption) | skip); (first | have f7_d := f7 (by with_reducible assumption) | skip); (try and_intros) <;> first | with_reducible assumption | (clear f9_c1 f9 hK_0_1 f1 f2 f4 f5 f6 f7; omega)) | omega
set_option maxHeartbeats 4000000 in
theorem vc_Mo_next_42_1 (x1 : Int) (x4 : Int) (x5 : Int) (x7 : Int) (x9 : Int) (tape_0 : Int → Int) (limit_0 : Int) (pos_0 : Int) (from_0 : Int) (place_0 : Int) (k1 : 0 ≤ x1 ∧ x1 ≤ 2000) (k4 : 0 ≤ x4 ∧ x4 ≤ 1999) (k5 : 91 ≤ x5 ∧ x5 ≤ 96) (k7 : 58 ≤ x7 ∧ x7 ≤ 255) (k9 : (-1) ≤ x9 ∧ x9 ≤ (-1)) (f1 : ((x4 + 1) ≤ limit_0) → (x9 = (tape_0 (x4) % 256))) (f2 : (limit_0 ≤ x4) → (x9 = (-1))) (g3 : x4 = pos_0) (f4 : ((x4 + 1) ≤ limit_0) → (x7 = (tape_0 (x4) % 256))) (f5 : (limit_0 ≤ x4) → (x7 = (-1))) (f6 : ((x4 + 1) ≤ limit_0) → (x5 = (tape_0 (x4) % 256))) (f7 : (limit_0 ≤ x4) → (x5 = (-1))) (f9 : (from_0 ≤ pos_0) ∧ (((from_0 + 1) ≤ pos_0) ∨ ((pos_0 = from_0) ∧ (((from_0 + 1) ≤ limit_0) ∧ (((65 ≤ (tape_0 (from_0) % 256)) ∧ ((tape_0 (from_0) % 256) ≤ 90)) ∨ ((97 ≤ (tape_0 (from_0) % 256)) ∧ ((tape_0 (from_0) % 256) ≤ 122))))))) (f10 : ZXL (limit_0) (pos_0) (place_0) (from_0) (tape_0) (x1)) (kz_0_10 : 0 ≤ limit_0 ∧ limit_0 ≤ 2000) (kz_0_11 : 0 ≤ pos_0 ∧ pos_0 ≤ 2000) (kz_0_13 : 0 ≤ place_0 ∧ place_0 ≤ 2000) (kz_0_15 : 0 ≤ from_0 ∧ from_0 ≤ 2000) : ZXM (limit_0) (pos_0) (place_0) (from_0) (tape_0) (x1) := by
  first | subst g3 | skip
  exact zxm_mk ‹ZXL _ _ _ _ _ _› (fun q => by omega)
def o_Mo_next_42 : or_T := (147, 11, [(0, (2, 0, 0, [165])), (1, (0, 0, 2000, [])), (2, (2, 0, 0, [165])), (4, (0, 0, 1999, [])), (5, (0, 91, 96, [])), (7, (0, 58, 255, [])), (9, (0, -1, -1, [])), (10, (0, 95, 95, []))], [(7, [9, 10], [1]), (20, [4, 2, 9], [50, 1, 1, 1010, 1001, 4, 11, 0, 6, 4, 2, 1, 0, 0, 1, 2, 1, 10, 1, 2, 1, 2, 9, 5, 3, 1, 1, 1, 0, 0, 256]), (20, [2, 4, 9], [50, 1, 0, 10, 4, 7, 0, 3, 2, 0, 10, 1, 1, 1, 2, 1, 2, 0, -1]), (9, [4, 2], [11]), (20, [4, 2, 7], [50, 1, 1, 1010, 1001, 4, 11, 0, 6, 4, 2, 1, 0, 0, 1, 2, 1, 10, 1, 2, 1, 2, 9, 5, 3, 1, 1, 1, 0, 0, 256]), (20, [2, 4, 7], [50, 1, 0, 10, 4, 7, 0, 3, 2, 0, 10, 1, 1, 1, 2, 1, 2, 0, -1]), (20, [4, 2, 5], [50, 1, 1, 1010, 1001, 4, 11, 0, 6, 4, 2, 1, 0, 0, 1, 2, 1, 10, 1, 2, 1, 2, 9, 5, 3, 1, 1, 1, 0, 0, 256]), (20, [2, 4, 5], [50, 1, 0, 10, 4, 7, 0, 3, 2, 0, 10, 1, 1, 1, 2, 1, 2, 0, -1]), (20, [1, 2], [30, 0, 1, 0, 0, -1, 1, 15]), (20, [2], [50, 3, 1, 15, 11, 10, 1, 2, 8, 0, 3, 2, 0, 15, 2, 0, 11, 3, 12, 0, 7, 4, 3, 2, 0, 15, 0, 1, 2, 0, 11, 2, 8, 1, 3, 2, 0, 11, 2, 0, 15, 2, 12, 0, 7, 4, 3, 2, 0, 15, 0, 1, 2, 0, 10, 3, 30, 2, 14, 0, 2, 0, 65, 9, 6, 3, 0, 1, 2, 0, 15, 0, 256, 0, 10, 9, 6, 3, 0, 1, 2, 0, 15, 0, 256, 0, 90, 2, 14, 0, 2, 0, 97, 9, 6, 3, 0, 1, 2, 0, 15, 0, 256, 0, 10, 9, 6, 3, 0, 1, 2, 0, 15, 0, 256, 0, 122]), (20, [2, 1], [60, 4, 1, 951, 10, 11, 13, 15, 1]), (24, [0, 2], [])], [], [], [(20, [2], [50, 2, 0, 15, 11, 0, 7, 4, 3, 2, 0, 15, 0, 1, 2, 0, 11]), (20, [2, 1], [60, 4, 1, 953, 10, 11, 13, 15, 1])], [], [])
theorem oo_Mo_next_42 {kA : Nat → ClassId} : or_ok PRD kA GG o_Mo_next_42 := by
  refine or_mk fun A ta ws vs hD hth hl => ?_
  intro t0 r0 t1 k1 t2 r2 t4 k4 t5 k5 t7 k7 t9 k9 t10 k10 f0 f1 f2 f3 f4 f5 f6 f7 f8 f9 f10 f11
  replace f1 := shm_541 f1
  replace f2 := shm_542 f2
  replace f3 := shm_116 f3
  replace f4 := shm_541 f4
  replace f5 := shm_542 f5
  replace f6 := shm_541 f6
  replace f7 := shm_542 f7
  replace f9 := shm_1444 f9
  replace f10 := shm_1445 f10
  replace f11 := shm_5 f11
  have q2 : n_v vs 2 = n_v vs 0 := f11.symm
  simp only [q2] at f1 f2 f3 f4 f5 f6 f7 f9 f10
  have cr_0_1 := fdq_39 hD hth r0
  have g3 : v_iv (n_v vs 4) = w_fi ws (n_v vs 0) 11 := congrArg v_iv f3
  have hK_0_1 := elq_7 hD hth cr_0_1
  have kz_0_10 := fdq_43 hD hth r0
  have kz_0_11 := fdq_237 hD hth r0
  have kz_0_13 := fdq_238 hD hth r0
  have kz_0_15 := fdq_239 hD hth r0
  have nf0 : fc_1 PRD (20, [2], [50, 2, 0, 15, 11, 0, 7, 4, 3, 2, 0, 15, 0, 1, 2, 0, 11]) ws (vs) := by
    refine ⟨nf_in hl rfl, sgq_1446 ?_⟩
    · show (w_fi ws (n_v vs 2) 15 + 1) ≤ w_fi ws (n_v vs 2) 11
      rw [q2]
      exact vc_Mo_next_42_0 (v_iv (n_v vs 4)) (v_iv (n_v vs 5)) (v_iv (n_v vs 7)) (v_iv (n_v vs 9)) (w_ei ws (w_ar ws (n_v vs 0) 1)) (w_fi ws (n_v vs 0) 10) (w_fi ws (n_v vs 0) 11) (w_fi ws (n_v vs 0) 15) k4 k5 k7 k9 f1 f2 g3 f4 f5 f6 f7 f9 hK_0_1 kz_0_10 kz_0_11 kz_0_15
  have nf1 : fc_1 PRD (20, [2, 1], [60, 4, 1, 953, 10, 11, 13, 15, 1]) ws (vs) := by
    refine ⟨nf_in hl rfl, sgq_1447 ?_⟩
    · show ZXM (w_fi ws (n_v vs 2) 10) (w_fi ws (n_v vs 2) 11) (w_fi ws (n_v vs 2) 13) (w_fi ws (n_v vs 2) 15) (w_ei ws (w_ar ws (n_v vs 2) 1)) (v_iv (n_v vs 1))
      rw [q2]
      exact vc_Mo_next_42_1 (v_iv (n_v vs 1)) (v_iv (n_v vs 4)) (v_iv (n_v vs 5)) (v_iv (n_v vs 7)) (v_iv (n_v vs 9)) (w_ei ws (w_ar ws (n_v vs 0) 1)) (w_fi ws (n_v vs 0) 10) (w_fi ws (n_v vs 0) 11) (w_fi ws (n_v vs 0) 15) (w_fi ws (n_v vs 0) 13) k1 k4 k5 k7 k9 f1 f2 g3 f4 f5 f6 f7 f9 f10 kz_0_10 kz_0_11 kz_0_13 kz_0_15
  refine ⟨(fun _ h => (by cases h)), [], trivial, ?_, (fun _ h => (by cases h))⟩
  rw [List.append_nil]
  exact List.forall_mem_cons.mpr ⟨⟨show (20 : Nat) < 100 from by decide, nf0⟩, List.forall_mem_cons.mpr ⟨⟨show (20 : Nat) < 100 from by decide, nf1⟩, (fun _ h => (by cases h))⟩⟩
set_option maxHeartbeats 4000000 in
theorem vc_Mo_next_43_0 (x1 : Int) (x4 : Int) (x5 : Int) (x7 : Int) (x9 : Int) (x10 : Int) (tape_0 : Int → Int) (limit_0 : Int) (pos_0 : Int) (from_0 : Int) (place_0 : Int) (k1 : 0 ≤ x1 ∧ x1 ≤ 2000) (k4 : 0 ≤ x4 ∧ x4 ≤ 1999) (k5 : 91 ≤ x5 ∧ x5 ≤ 96) (k7 : 58 ≤ x7 ∧ x7 ≤ 255) (k9 : 0 ≤ x9 ∧ x9 ≤ 255) (k10 : 95 ≤ x10 ∧ x10 ≤ 95) (f0 : x9 ≠ x10) (f1 : ((x4 + 1) ≤ limit_0) → (x9 = (tape_0 (x4) % 256))) (f2 : (limit_0 ≤ x4) → (x9 = (-1))) (g3 : x4 = pos_0) (f4 : ((x4 + 1) ≤ limit_0) → (x7 = (tape_0 (x4) % 256))) (f5 : (limit_0 ≤ x4) → (x7 = (-1))) (f6 : ((x4 + 1) ≤ limit_0) → (x5 = (tape_0 (x4) % 256))) (f7 : (limit_0 ≤ x4) → (x5 = (-1))) (f8 : 1 * x1 + ((-1) * from_0 + 0) ≤ 0) (f9 : (from_0 ≤ pos_0) ∧ (((from_0 + 1) ≤ pos_0) ∨ ((pos_0 = from_0) ∧ (((from_0 + 1) ≤ limit_0) ∧ (((65 ≤ (tape_0 (from_0) % 256)) ∧ ((tape_0 (from_0) % 256) ≤ 90)) ∨ ((97 ≤ (tape_0 (from_0) % 256)) ∧ ((tape_0 (from_0) % 256) ≤ 122))))))) (f10 : ZXL (limit_0) (pos_0) (place_0) (from_0) (tape_0) (x1)) (hK_0_1 : ∀ j : Int, 0 ≤ j → j < 2000 → (-128) ≤ tape_0 j ∧ tape_0 j ≤ 127) (kz_0_10 : 0 ≤ limit_0 ∧ limit_0 ≤ 2000) (kz_0_11 : 0 ≤ pos_0 ∧ pos_0 ≤ 2000) (kz_0_13 : 0 ≤ place_0 ∧ place_0 ≤ 2000) (kz_0_15 : 0 ≤ from_0 ∧ from_0 ≤ 2000) : (from_0 + 1) ≤ pos_0 := by
  by_cases q : from_0 = x4
  · have e : tape_0 from_0 = tape_0 x4 := by rw [q]
    omega
  · omega
set_option maxHeartbeats 4000000 in
theorem vc_Mo_next_43_1 (x1 : Int) (x4 : Int) (x5 : Int) (x7 : Int) (x9 : Int) (x10 : Int) (tape_0 : Int → Int) (limit_0 : Int) (pos_0 : Int) (from_0 : Int) (place_0 : Int) (k1 : 0 ≤ x1 ∧ x1 ≤ 2000) (k4 : 0 ≤ x4 ∧ x4 ≤ 1999) (k5 : 91 ≤ x5 ∧ x5 ≤ 96) (k7 : 58 ≤ x7 ∧ x7 ≤ 255) (k9 : 0 ≤ x9 ∧ x9 ≤ 255) (k10 : 95 ≤ x10 ∧ x10 ≤ 95) (f0 : x9 ≠ x10) (f1 : ((x4 + 1) ≤ limit_0) → (x9 = (tape_0 (x4) % 256))) (f2 : (limit_0 ≤ x4) → (x9 = (-1))) (g3 : x4 = pos_0) (f4 : ((x4 + 1) ≤ limit_0) → (x7 = (tape_0 (x4) % 256))) (f5 : (limit_0 ≤ x4) → (x7 = (-1))) (f6 : ((x4 + 1) ≤ limit_0) → (x5 = (tape_0 (x4) % 256))) (f7 : (limit_0 ≤ x4) → (x5 = (-1))) (f9 : (from_0 ≤ pos_0) ∧ (((from_0 + 1) ≤ pos_0) ∨ ((pos_0 = from_0) ∧ (((from_0 + 1) ≤ limit_0) ∧ (((65 ≤ (tape_0 (from_0) % 256)) ∧ ((tape_0 (from_0) % 256) ≤ 90)) ∨ ((97 ≤ (tape_0 (from_0) % 256)) ∧ ((tape_0 (from_0) % 256) ≤ 122))))))) (f10 : ZXL (limit_0) (pos_0) (place_0) (from_0) (tape_0) (x1)) (kz_0_10 : 0 ≤ limit_0 ∧ limit_0 ≤ 2000) (kz_0_11 : 0 ≤ pos_0 ∧ pos_0 ≤ 2000) (kz_0_13 : 0 ≤ place_0 ∧ place_0 ≤ 2000) (kz_0_15 : 0 ≤ from_0 ∧ from_0 ≤ 2000) : ZXM (limit_0) (pos_0) (place_0) (from_0) (tape_0) (x1) := by
  first | subst g3 | skip
  exact zxm_mk ‹ZXL _ _ _ _ _ _› (fun q => by omega)
def o_Mo_next_43 : or_T := (147, 11, [(0, (2, 0, 0, [165])), (1, (0, 0, 2000, [])), (2, (2, 0, 0, [165])), (4, (0, 0, 1999, [])), (5, (0, 91, 96, [])), (7, (0, 58, 255, [])), (9, (0, 0, 255, [])), (10, (0, 95, 95, []))], [(7, [9, 10], [1]), (20, [4, 2, 9], [50, 1, 1, 1010, 1001, 4, 11, 0, 6, 4, 2, 1, 0, 0, 1, 2, 1, 10, 1, 2, 1, 2, 9, 5, 3, 1, 1, 1, 0, 0, 256]), (20, [2, 4, 9], [50, 1, 0, 10, 4, 7, 0, 3, 2, 0, 10, 1, 1, 1, 2, 1, 2, 0, -1]), (9, [4, 2], [11]), (20, [4, 2, 7], [50, 1, 1, 1010, 1001, 4, 11, 0, 6, 4, 2, 1, 0, 0, 1, 2, 1, 10, 1, 2, 1, 2, 9, 5, 3, 1, 1, 1, 0, 0, 256]), (20, [2, 4, 7], [50, 1, 0, 10, 4, 7, 0, 3, 2, 0, 10, 1, 1, 1, 2, 1, 2, 0, -1]), (20, [4, 2, 5], [50, 1, 1, 1010, 1001, 4, 11, 0, 6, 4, 2, 1, 0, 0, 1, 2, 1, 10, 1, 2, 1, 2, 9, 5, 3, 1, 1, 1, 0, 0, 256]), (20, [2, 4, 5], [50, 1, 0, 10, 4, 7, 0, 3, 2, 0, 10, 1, 1, 1, 2, 1, 2, 0, -1]), (20, [1, 2], [30, 0, 1, 0, 0, -1, 1, 15]), (20, [2], [50, 3, 1, 15, 11, 10, 1, 2, 8, 0, 3, 2, 0, 15, 2, 0, 11, 3, 12, 0, 7, 4, 3, 2, 0, 15, 0, 1, 2, 0, 11, 2, 8, 1, 3, 2, 0, 11, 2, 0, 15, 2, 12, 0, 7, 4, 3, 2, 0, 15, 0, 1, 2, 0, 10, 3, 30, 2, 14, 0, 2, 0, 65, 9, 6, 3, 0, 1, 2, 0, 15, 0, 256, 0, 10, 9, 6, 3, 0, 1, 2, 0, 15, 0, 256, 0, 90, 2, 14, 0, 2, 0, 97, 9, 6, 3, 0, 1, 2, 0, 15, 0, 256, 0, 10, 9, 6, 3, 0, 1, 2, 0, 15, 0, 256, 0, 122]), (20, [2, 1], [60, 4, 1, 951, 10, 11, 13, 15, 1]), (24, [0, 2], [])], [], [], [(20, [2], [50, 2, 0, 15, 11, 0, 7, 4, 3, 2, 0, 15, 0, 1, 2, 0, 11]), (20, [2, 1], [60, 4, 1, 953, 10, 11, 13, 15, 1])], [], [])
theorem oo_Mo_next_43 {kA : Nat → ClassId} : or_ok PRD kA GG o_Mo_next_43 := by
  refine or_mk fun A ta ws vs hD hth hl => ?_
  intro t0 r0 t1 k1 t2 r2 t4 k4 t5 k5 t7 k7 t9 k9 t10 k10 f0 f1 f2 f3 f4 f5 f6 f7 f8 f9 f10 f11
  replace f0 := shm_40 f0
  replace f1 := shm_541 f1
  replace f2 := shm_542 f2
  replace f3 := shm_116 f3
  replace f4 := shm_541 f4
  replace f5 := shm_542 f5
  replace f6 := shm_541 f6
  replace f7 := shm_542 f7
  replace f8 := shm_1436 f8
  replace f9 := shm_1444 f9
  replace f10 := shm_1445 f10
  replace f11 := shm_5 f11
  have q2 : n_v vs 2 = n_v vs 0 := f11.symm
  simp only [q2] at f1 f2 f3 f4 f5 f6 f7 f8 f9 f10
  have cr_0_1 := fdq_39 hD hth r0
  have g3 : v_iv (n_v vs 4) = w_fi ws (n_v vs 0) 11 := congrArg v_iv f3
  have hK_0_1 := elq_7 hD hth cr_0_1
  have kz_0_10 := fdq_43 hD hth r0
  have kz_0_11 := fdq_237 hD hth r0
  have kz_0_13 := fdq_238 hD hth r0
  have kz_0_15 := fdq_239 hD hth r0
  have nf0 : fc_1 PRD (20, [2], [50, 2, 0, 15, 11, 0, 7, 4, 3, 2, 0, 15, 0, 1, 2, 0, 11]) ws (vs) := by
    refine ⟨nf_in hl rfl, sgq_1446 ?_⟩
    · show (w_fi ws (n_v vs 2) 15 + 1) ≤ w_fi ws (n_v vs 2) 11
      rw [q2]
      exact vc_Mo_next_43_0 (v_iv (n_v vs 1)) (v_iv (n_v vs 4)) (v_iv (n_v vs 5)) (v_iv (n_v vs 7)) (v_iv (n_v vs 9)) (v_iv (n_v vs 10)) (w_ei ws (w_ar ws (n_v vs 0) 1)) (w_fi ws (n_v vs 0) 10) (w_fi ws (n_v vs 0) 11) (w_fi ws (n_v vs 0) 15) (w_fi ws (n_v vs 0) 13) k1 k4 k5 k7 k9 k10 f0 f1 f2 g3 f4 f5 f6 f7 f8 f9 f10 hK_0_1 kz_0_10 kz_0_11 kz_0_13 kz_0_15
  have nf1 : fc_1 PRD (20, [2, 1], [60, 4, 1, 953, 10, 11, 13, 15, 1]) ws (vs) := by
    refine ⟨nf_in hl rfl, sgq_1447 ?_⟩
    · show ZXM (w_fi ws (n_v vs 2) 10) (w_fi ws (n_v vs 2) 11) (w_fi ws (n_v vs 2) 13) (w_fi ws (n_v vs 2) 15) (w_ei ws (w_ar ws (n_v vs 2) 1)) (v_iv (n_v vs 1))
      rw [q2]
      exact vc_Mo_next_43_1 (v_iv (n_v vs 1)) (v_iv (n_v vs 4)) (v_iv (n_v vs 5)) (v_iv (n_v vs 7)) (v_iv (n_v vs 9)) (v_iv (n_v vs 10)) (w_ei ws (w_ar ws (n_v vs 0) 1)) (w_fi ws (n_v vs 0) 10) (w_fi ws (n_v vs 0) 11) (w_fi ws (n_v vs 0) 15) (w_fi ws (n_v vs 0) 13) k1 k4 k5 k7 k9 k10 f0 f1 f2 g3 f4 f5 f6 f7 f9 f10 kz_0_10 kz_0_11 kz_0_13 kz_0_15
  refine ⟨(fun _ h => (by cases h)), [], trivial, ?_, (fun _ h => (by cases h))⟩
  rw [List.append_nil]
  exact List.forall_mem_cons.mpr ⟨⟨show (20 : Nat) < 100 from by decide, nf0⟩, List.forall_mem_cons.mpr ⟨⟨show (20 : Nat) < 100 from by decide, nf1⟩, (fun _ h => (by cases h))⟩⟩
set_option maxHeartbeats 4000000 in
theorem vc_Mo_next_44_0 (x1 : Int) (x4 : Int) (x5 : Int) (x7 : Int) (x9 : Int) (tape_0 : Int → Int) (limit_0 : Int) (pos_0 : Int) (from_0 : Int) (place_0 : Int) (k1 : 0 ≤ x1 ∧ x1 ≤ 2000) (k4 : 0 ≤ x4 ∧ x4 ≤ 1999) (k5 : 91 ≤ x5 ∧ x5 ≤ 96) (k7 : 58 ≤ x7 ∧ x7 ≤ 255) (k9 : 95 ≤ x9 ∧ x9 ≤ 95) (f1 : ((x4 + 1) ≤ limit_0) → (x9 = (tape_0 (x4) % 256))) (f2 : (limit_0 ≤ x4) → (x9 = (-1))) (g3 : x4 = pos_0) (f4 : ((x4 + 1) ≤ limit_0) → (x7 = (tape_0 (x4) % 256))) (f5 : (limit_0 ≤ x4) → (x7 = (-1))) (f6 : ((x4 + 1) ≤ limit_0) → (x5 = (tape_0 (x4) % 256))) (f7 : (limit_0 ≤ x4) → (x5 = (-1))) (f9 : (from_0 ≤ pos_0) ∧ (((from_0 + 1) ≤ pos_0) ∨ ((pos_0 = from_0) ∧ (((from_0 + 1) ≤ limit_0) ∧ (((65 ≤ (tape_0 (from_0) % 256)) ∧ ((tape_0 (from_0) % 256) ≤ 90)) ∨ ((97 ≤ (tape_0 (from_0) % 256)) ∧ ((tape_0 (from_0) % 256) ≤ 122))))))) (f10 : ZXL (limit_0) (pos_0) (place_0) (from_0) (tape_0) (x1)) (hK_0_1 : ∀ j : Int, 0 ≤ j → j < 2000 → (-128) ≤ tape_0 j ∧ tape_0 j ≤ 127) (kz_0_10 : 0 ≤ limit_0 ∧ limit_0 ≤ 2000) (kz_0_11 : 0 ≤ pos_0 ∧ pos_0 ≤ 2000) (kz_0_13 : 0 ≤ place_0 ∧ place_0 ≤ 2000) (kz_0_15 : 0 ≤ from_0 ∧ from_0 ≤ 2000) : ZXN (limit_0) (pos_0) (place_0) (from_0) (tape_0) (x1) := by
  first | subst g3 | skip
  exact zxn_mk (by assumption) ‹ZXL _ _ _ _ _ _› (by omega) (by omega)
def o_Mo_next_44 : or_T := (134, 11, [(0, (2, 0, 0, [165])), (1, (0, 0, 2000, [])), (2, (2, 0, 0, [165])), (4, (0, 0, 1999, [])), (5, (0, 91, 96, [])), (7, (0, 58, 255, [])), (9, (0, 95, 95, [])), (10, (0, 95, 95, []))], [(7, [9, 10], [0]), (20, [4, 2, 9], [50, 1, 1, 1010, 1001, 4, 11, 0, 6, 4, 2, 1, 0, 0, 1, 2, 1, 10, 1, 2, 1, 2, 9, 5, 3, 1, 1, 1, 0, 0, 256]), (20, [2, 4, 9], [50, 1, 0, 10, 4, 7, 0, 3, 2, 0, 10, 1, 1, 1, 2, 1, 2, 0, -1]), (9, [4, 2], [11]), (20, [4, 2, 7], [50, 1, 1, 1010, 1001, 4, 11, 0, 6, 4, 2, 1, 0, 0, 1, 2, 1, 10, 1, 2, 1, 2, 9, 5, 3, 1, 1, 1, 0, 0, 256]), (20, [2, 4, 7], [50, 1, 0, 10, 4, 7, 0, 3, 2, 0, 10, 1, 1, 1, 2, 1, 2, 0, -1]), (20, [4, 2, 5], [50, 1, 1, 1010, 1001, 4, 11, 0, 6, 4, 2, 1, 0, 0, 1, 2, 1, 10, 1, 2, 1, 2, 9, 5, 3, 1, 1, 1, 0, 0, 256]), (20, [2, 4, 5], [50, 1, 0, 10, 4, 7, 0, 3, 2, 0, 10, 1, 1, 1, 2, 1, 2, 0, -1]), (20, [1, 2], [30, 0, 1, 0, 0, -1, 1, 15]), (20, [2], [50, 3, 1, 15, 11, 10, 1, 2, 8, 0, 3, 2, 0, 15, 2, 0, 11, 3, 12, 0, 7, 4, 3, 2, 0, 15, 0, 1, 2, 0, 11, 2, 8, 1, 3, 2, 0, 11, 2, 0, 15, 2, 12, 0, 7, 4, 3, 2, 0, 15, 0, 1, 2, 0, 10, 3, 30, 2, 14, 0, 2, 0, 65, 9, 6, 3, 0, 1, 2, 0, 15, 0, 256, 0, 10, 9, 6, 3, 0, 1, 2, 0, 15, 0, 256, 0, 90, 2, 14, 0, 2, 0, 97, 9, 6, 3, 0, 1, 2, 0, 15, 0, 256, 0, 10, 9, 6, 3, 0, 1, 2, 0, 15, 0, 256, 0, 122]), (20, [2, 1], [60, 4, 1, 951, 10, 11, 13, 15, 1]), (24, [0, 2], [])], [], [], [(20, [2, 1], [60, 4, 1, 952, 10, 11, 13, 15, 1])], [], [])
theorem oo_Mo_next_44 {kA : Nat → ClassId} : or_ok PRD kA GG o_Mo_next_44 := by
  refine or_mk fun A ta ws vs hD hth hl => ?_
  intro t0 r0 t1 k1 t2 r2 t4 k4 t5 k5 t7 k7 t9 k9 t10 k10 f0 f1 f2 f3 f4 f5 f6 f7 f8 f9 f10 f11
  replace f1 := shm_541 f1
  replace f2 := shm_542 f2
  replace f3 := shm_116 f3
  replace f4 := shm_541 f4
  replace f5 := shm_542 f5
  replace f6 := shm_541 f6
  replace f7 := shm_542 f7
  replace f9 := shm_1444 f9
  replace f10 := shm_1445 f10
  replace f11 := shm_5 f11
  have q2 : n_v vs 2 = n_v vs 0 := f11.symm
  simp only [q2] at f1 f2 f3 f4 f5 f6 f7 f9 f10
  have cr_0_1 := fdq_39 hD hth r0
  have g3 : v_iv (n_v vs 4) = w_fi ws (n_v vs 0) 11 := congrArg v_iv f3
  have hK_0_1 := elq_7 hD hth cr_0_1
  have kz_0_10 := fdq_43 hD hth r0
  have kz_0_11 := fdq_237 hD hth r0
  have kz_0_13 := fdq_238 hD hth r0
  have kz_0_15 := fdq_239 hD hth r0
  have nf0 : fc_1 PRD (20, [2, 1], [60, 4, 1, 952, 10, 11, 13, 15, 1]) ws (vs) := by
    refine ⟨nf_in hl rfl, sgq_1448 ?_⟩
    · show ZXN (w_fi ws (n_v vs 2) 10) (w_fi ws (n_v vs 2) 11) (w_fi ws (n_v vs 2) 13) (w_fi ws (n_v vs 2) 15) (w_ei ws (w_ar ws (n_v vs 2) 1)) (v_iv (n_v vs 1))
      rw [q2]
      exact vc_Mo_next_44_0 (v_iv (n_v vs 1)) (v_iv (n_v vs 4)) (v_iv (n_v vs 5)) (v_iv (n_v vs 7)) (v_iv (n_v vs 9)) (w_ei ws (w_ar ws (n_v vs 0) 1)) (w_fi ws (n_v vs 0) 10) (w_fi ws (n_v vs 0) 11) (w_fi ws (n_v vs 0) 15) (w_fi ws (n_v vs 0) 13) k1 k4 k5 k7 k9 f1 f2 g3 f4 f5 f6 f7 f9 f10 hK_0_1 kz_0_10 kz_0_11 kz_0_13 kz_0_15
  refine ⟨(fun _ h => (by cases h)), [], trivial, ?_, (fun _ h => (by cases h))⟩
  rw [List.append_nil]
  exact List.forall_mem_cons.mpr ⟨⟨show (20 : Nat) < 100 from by decide, nf0⟩, (fun _ h => (by cases h))⟩
set_option maxHeartbeats 4000000 in
theorem vc_Mo_next_45_0 (x1 : Int) (x4 : Int) (x5 : Int) (x7 : Int) (tape_0 : Int → Int) (limit_0 : Int) (pos_0 : Int) (from_0 : Int) (place_0 : Int) (k1 : 0 ≤ x1 ∧ x1 ≤ 2000) (k4 : 0 ≤ x4 ∧ x4 ≤ 1999) (k5 : 91 ≤ x5 ∧ x5 ≤ 96) (k7 : 48 ≤ x7 ∧ x7 ≤ 57) (f0 : ((x4 + 1) ≤ limit_0) → (x7 = (tape_0 (x4) % 256))) (f1 : (limit_0 ≤ x4) → (x7 = (-1))) (g2 : x4 = pos_0) (f3 : ((x4 + 1) ≤ limit_0) → (x5 = (tape_0 (x4) % 256))) (f4 : (limit_0 ≤ x4) → (x5 = (-1))) (f6 : (from_0 ≤ pos_0) ∧ (((from_0 + 1) ≤ pos_0) ∨ ((pos_0 = from_0) ∧ (((from_0 + 1) ≤ limit_0) ∧ (((65 ≤ (tape_0 (from_0) % 256)) ∧ ((tape_0 (from_0) % 256) ≤ 90)) ∨ ((97 ≤ (tape_0 (from_0) % 256)) ∧ ((tape_0 (from_0) % 256) ≤ 122))))))) (f7 : ZXL (limit_0) (pos_0) (place_0) (from_0) (tape_0) (x1)) (hK_0_1 : ∀ j : Int, 0 ≤ j → j < 2000 → (-128) ≤ tape_0 j ∧ tape_0 j ≤ 127) (kz_0_10 : 0 ≤ limit_0 ∧ limit_0 ≤ 2000) (kz_0_11 : 0 ≤ pos_0 ∧ pos_0 ≤ 2000) (kz_0_13 : 0 ≤ place_0 ∧ place_0 ≤ 2000) (kz_0_15 : 0 ≤ from_0 ∧ from_0 ≤ 2000) : ZXN (limit_0) (pos_0) (place_0) (from_0) (tape_0) (x1) := by
  first | subst g2 | skip
  exact zxn_mk (by assumption) ‹ZXL _ _ _ _ _ _› (by omega) (by omega)
def o_Mo_next_45 : or_T := (134, 9, [(0, (2, 0, 0, [165])), (1, (0, 0, 2000, [])), (2, (2, 0, 0, [165])), (4, (0, 0, 1999, [])), (5, (0, 91, 96, [])), (7, (0, 48, 57, []))], [(20, [4, 2, 7], [50, 1, 1, 1010, 1001, 4, 11, 0, 6, 4, 2, 1, 0, 0, 1, 2, 1, 10, 1, 2, 1, 2, 9, 5, 3, 1, 1, 1, 0, 0, 256]), (20, [2, 4, 7], [50, 1, 0, 10, 4, 7, 0, 3, 2, 0, 10, 1, 1, 1, 2, 1, 2, 0, -1]), (9, [4, 2], [11]), (20, [4, 2, 5], [50, 1, 1, 1010, 1001, 4, 11, 0, 6, 4, 2, 1, 0, 0, 1, 2, 1, 10, 1, 2, 1, 2, 9, 5, 3, 1, 1, 1, 0, 0, 256]), (20, [2, 4, 5], [50, 1, 0, 10, 4, 7, 0, 3, 2, 0, 10, 1, 1, 1, 2, 1, 2, 0, -1]), (20, [1, 2], [30, 0, 1, 0, 0, -1, 1, 15]), (20, [2], [50, 3, 1, 15, 11, 10, 1, 2, 8, 0, 3, 2, 0, 15, 2, 0, 11, 3, 12, 0, 7, 4, 3, 2, 0, 15, 0, 1, 2, 0, 11, 2, 8, 1, 3, 2, 0, 11, 2, 0, 15, 2, 12, 0, 7, 4, 3, 2, 0, 15, 0, 1, 2, 0, 10, 3, 30, 2, 14, 0, 2, 0, 65, 9, 6, 3, 0, 1, 2, 0, 15, 0, 256, 0, 10, 9, 6, 3, 0, 1, 2, 0, 15, 0, 256, 0, 90, 2, 14, 0, 2, 0, 97, 9, 6, 3, 0, 1, 2, 0, 15, 0, 256, 0, 10, 9, 6, 3, 0, 1, 2, 0, 15, 0, 256, 0, 122]), (20, [2, 1], [60, 4, 1, 951, 10, 11, 13, 15, 1]), (24, [0, 2], [])], [], [], [(20, [2, 1], [60, 4, 1, 952, 10, 11, 13, 15, 1])], [], [])
theorem oo_Mo_next_45 {kA : Nat → ClassId} : or_ok PRD kA GG o_Mo_next_45 := by
  refine or_mk fun A ta ws vs hD hth hl => ?_
  intro t0 r0 t1 k1 t2 r2 t4 k4 t5 k5 t7 k7 f0 f1 f2 f3 f4 f5 f6 f7 f8
  replace f0 := shm_541 f0
  replace f1 := shm_542 f1
  replace f2 := shm_116 f2
  replace f3 := shm_541 f3
  replace f4 := shm_542 f4
  replace f6 := shm_1444 f6
  replace f7 := shm_1445 f7
  replace f8 := shm_5 f8
  have q2 : n_v vs 2 = n_v vs 0 := f8.symm
  simp only [q2] at f0 f1 f2 f3 f4 f6 f7
  have cr_0_1 := fdq_39 hD hth r0
  have g2 : v_iv (n_v vs 4) = w_fi ws (n_v vs 0) 11 := congrArg v_iv f2
  have hK_0_1 := elq_7 hD hth cr_0_1
  have kz_0_10 := fdq_43 hD hth r0
  have kz_0_11 := fdq_237 hD hth r0
  have kz_0_13 := fdq_238 hD hth r0
  have kz_0_15 := fdq_239 hD hth r0
  have nf0 : fc_1 PRD (20, [2, 1], [60, 4, 1, 952, 10, 11, 13, 15, 1]) ws (vs) := by
    refine ⟨nf_in hl rfl, sgq_1448 ?_⟩
    · show ZXN (w_fi ws (n_v vs 2) 10) (w_fi ws (n_v vs 2) 11) (w_fi ws (n_v vs 2) 13) (w_fi ws (n_v vs 2) 15) (w_ei ws (w_ar ws (n_v vs 2) 1)) (v_iv (n_v vs 1))
      rw [q2]
      exact vc_Mo_next_45_0 (v_iv (n_v vs 1)) (v_iv (n_v vs 4)) (v_iv (n_v vs 5)) (v_iv (n_v vs 7)) (w_ei ws (w_ar ws (n_v vs 0) 1)) (w_fi ws (n_v vs 0) 10) (w_fi ws (n_v vs 0) 11) (w_fi ws (n_v vs 0) 15) (w_fi ws (n_v vs 0) 13) k1 k4 k5 k7 f0 f1 g2 f3 f4 f6 f7 hK_0_1 kz_0_10 kz_0_11 kz_0_13 kz_0_15
  refine ⟨(fun _ h => (by cases h)), [], trivial, ?_, (fun _ h => (by cases h))⟩
  rw [List.append_nil]
  exact List.forall_mem_cons.mpr ⟨⟨show (20 : Nat) < 100 from by decide, nf0⟩, (fun _ h => (by cases h))⟩
set_option maxHeartbeats 4000000 in
theorem vc_Mo_next_46_0 (x1 : Int) (x4 : Int) (x5 : Int) (tape_0 : Int → Int) (limit_0 : Int) (pos_0 : Int) (from_0 : Int) (place_0 : Int) (k1 : 0 ≤ x1 ∧ x1 ≤ 2000) (k4 : 0 ≤ x4 ∧ x4 ≤ 1999) (k5 : 65 ≤ x5 ∧ x5 ≤ 90) (f0 : ((x4 + 1) ≤ limit_0) → (x5 = (tape_0 (x4) % 256))) (f1 : (limit_0 ≤ x4) → (x5 = (-1))) (g2 : x4 = pos_0) (f4 : (from_0 ≤ pos_0) ∧ (((from_0 + 1) ≤ pos_0) ∨ ((pos_0 = from_0) ∧ (((from_0 + 1) ≤ limit_0) ∧ (((65 ≤ (tape_0 (from_0) % 256)) ∧ ((tape_0 (from_0) % 256) ≤ 90)) ∨ ((97 ≤ (tape_0 (from_0) % 256)) ∧ ((tape_0 (from_0) % 256) ≤ 122))))))) (f5 : ZXL (limit_0) (pos_0) (place_0) (from_0) (tape_0) (x1)) (hK_0_1 : ∀ j : Int, 0 ≤ j → j < 2000 → (-128) ≤ tape_0 j ∧ tape_0 j ≤ 127) (kz_0_10 : 0 ≤ limit_0 ∧ limit_0 ≤ 2000) (kz_0_11 : 0 ≤ pos_0 ∧ pos_0 ≤ 2000) (kz_0_13 : 0 ≤ place_0 ∧ place_0 ≤ 2000) (kz_0_15 : 0 ≤ from_0 ∧ from_0 ≤ 2000) : ZXN (limit_0) (pos_0) (place_0) (from_0) (tape_0) (x1) := by
  first | subst g2 | skip
  exact zxn_mk (by assumption) ‹ZXL _ _ _ _ _ _› (by omega) (by omega)
def o_Mo_next_46 : or_T := (134, 7, [(0, (2, 0, 0, [165])), (1, (0, 0, 2000, [])), (2, (2, 0, 0, [165])), (4, (0, 0, 1999, [])), (5, (0, 65, 90, []))], [(20, [4, 2, 5], [50, 1, 1, 1010, 1001, 4, 11, 0, 6, 4, 2, 1, 0, 0, 1, 2, 1, 10, 1, 2, 1, 2, 9, 5, 3, 1, 1, 1, 0, 0, 256]), (20, [2, 4, 5], [50, 1, 0, 10, 4, 7, 0, 3, 2, 0, 10, 1, 1, 1, 2, 1, 2, 0, -1]), (9, [4, 2], [11]), (20, [1, 2], [30, 0, 1, 0, 0, -1, 1, 15]), (20, [2], [50, 3, 1, 15, 11, 10, 1, 2, 8, 0, 3, 2, 0, 15, 2, 0, 11, 3, 12, 0, 7, 4, 3, 2, 0, 15, 0, 1, 2, 0, 11, 2, 8, 1, 3, 2, 0, 11, 2, 0, 15, 2, 12, 0, 7, 4, 3, 2, 0, 15, 0, 1, 2, 0, 10, 3, 30, 2, 14, 0, 2, 0, 65, 9, 6, 3, 0, 1, 2, 0, 15, 0, 256, 0, 10, 9, 6, 3, 0, 1, 2, 0, 15, 0, 256, 0, 90, 2, 14, 0, 2, 0, 97, 9, 6, 3, 0, 1, 2, 0, 15, 0, 256, 0, 10, 9, 6, 3, 0, 1, 2, 0, 15, 0, 256, 0, 122]), (20, [2, 1], [60, 4, 1, 951, 10, 11, 13, 15, 1]), (24, [0, 2], [])], [], [], [(20, [2, 1], [60, 4, 1, 952, 10, 11, 13, 15, 1])], [], [])
theorem oo_Mo_next_46 {kA : Nat → ClassId} : or_ok PRD kA GG o_Mo_next_46 := by
  refine or_mk fun A ta ws vs hD hth hl => ?_
  intro t0 r0 t1 k1 t2 r2 t4 k4 t5 k5 f0 f1 f2 f3 f4 f5 f6
  replace f0 := shm_541 f0
  replace f1 := shm_542 f1
  replace f2 := shm_116 f2
  replace f4 := shm_1444 f4
  replace f5 := shm_1445 f5
  replace f6 := shm_5 f6
  have q2 : n_v vs 2 = n_v vs 0 := f6.symm
  simp only [q2] at f0 f1 f2 f4 f5
  have cr_0_1 := fdq_39 hD hth r0
  have g2 : v_iv (n_v vs 4) = w_fi ws (n_v vs 0) 11 := congrArg v_iv f2
  have hK_0_1 := elq_7 hD hth cr_0_1
  have kz_0_10 := fdq_43 hD hth r0
  have kz_0_11 := fdq_237 hD hth r0
  have kz_0_13 := fdq_238 hD hth r0
  have kz_0_15 := fdq_239 hD hth r0
  have nf0 : fc_1 PRD (20, [2, 1], [60, 4, 1, 952, 10, 11, 13, 15, 1]) ws (vs) := by
    refine ⟨nf_in hl rfl, sgq_1448 ?_⟩
    · show ZXN (w_fi ws (n_v vs 2) 10) (w_fi ws (n_v vs 2) 11) (w_fi ws (n_v vs 2) 13) (w_fi ws (n_v vs 2) 15) (w_ei ws (w_ar ws (n_v vs 2) 1)) (v_iv (n_v vs 1))
      rw [q2]
      exact vc_Mo_next_46_0 (v_iv (n_v vs 1)) (v_iv (n_v vs 4)) (v_iv (n_v vs 5)) (w_ei ws (w_ar ws (n_v vs 0) 1)) (w_fi ws (n_v vs 0) 10) (w_fi ws (n_v vs 0) 11) (w_fi ws (n_v vs 0) 15) (w_fi ws (n_v vs 0) 13) k1 k4 k5 f0 f1 g2 f4 f5 hK_0_1 kz_0_10 kz_0_11 kz_0_13 kz_0_15
  refine ⟨(fun _ h => (by cases h)), [], trivial, ?_, (fun _ h => (by cases h))⟩
  rw [List.append_nil]
  exact List.forall_mem_cons.mpr ⟨⟨show (20 : Nat) < 100 from by decide, nf0⟩, (fun _ h => (by cases h))⟩
set_option maxHeartbeats 4000000 in
theorem vc_Mo_next_47_0 (x4 : Int) (x5 : Int) (x7 : Int) (x9 : Int) (tape_0 : Int → Int) (limit_0 : Int) (pos_0 : Int) (from_0 : Int) (k4 : 0 ≤ x4 ∧ x4 ≤ 1999) (k5 : 123 ≤ x5 ∧ x5 ≤ 255) (k7 : (-1) ≤ x7 ∧ x7 ≤ (-1)) (k9 : (-1) ≤ x9 ∧ x9 ≤ (-1)) (f1 : ((x4 + 1) ≤ limit_0) → (x9 = (tape_0 (x4) % 256))) (f2 : (limit_0 ≤ x4) → (x9 = (-1))) (g3 : x4 = pos_0) (f4 : ((x4 + 1) ≤ limit_0) → (x7 = (tape_0 (x4) % 256))) (f5 : (limit_0 ≤ x4) → (x7 = (-1))) (f6 : ((x4 + 1) ≤ limit_0) → (x5 = (tape_0 (x4) % 256))) (f7 : (limit_0 ≤ x4) → (x5 = (-1))) (f9 : (from_0 ≤ pos_0) ∧ (((from_0 + 1) ≤ pos_0) ∨ ((pos_0 = from_0) ∧ (((from_0 + 1) ≤ limit_0) ∧ (((65 ≤ (tape_0 (from_0) % 256)) ∧ ((tape_0 (from_0) % 256) ≤ 90)) ∨ ((97 ≤ (tape_0 (from_0) % 256)) ∧ ((tape_0 (from_0) % 256) ≤ 122))))))) (hK_0_1 : ∀ j : Int, 0 ≤ j → j < 2000 → (-128) ≤ tape_0 j ∧ tape_0 j ≤ 127) (kz_0_10 : 0 ≤ limit_0 ∧ limit_0 ≤ 2000) (kz_0_11 : 0 ≤ pos_0 ∧ pos_0 ≤ 2000) (kz_0_15 : 0 ≤ from_0 ∧ from_0 ≤ 2000) : (from_0 + 1) ≤ pos_0 := by
  first | with_reducible assumption | ((have f9_c0 := f9.1); (have f9_c1 := f9.2); (try and_intros) <;> first | with_reducible assumption | (clear f9_c1 f9 hK_0_1 f1 f2 f4 f5 f6 f7; omega)) | ((have f9_c0 := f9.1); (have f9_c1 := f9.2); (first | have f1_b := f1 (by clear f9_c1 f9 hK_0_1 f1 f2 f4 f5 f6 f7; omega) | skip); (first | have f2_b := f2 (by clear f9_c1 f9 hK_0_1 f1 f2 f4 f5 f6 f7; omega) | skip); (first | have f4_b := f4 (by clear f9_c1 f9 hK_0_1 f1 f2 f4 f5 f6 f7; omega) | skip); (first | have f5_b := f5 (by clear f9_c1 f9 hK_0_1 f1 f2 f4 f5 f6 f7; omega) | skip); (first | have f6_b := f6 (by clear f9_c1 f9 hK_0_1 f1 f2 f4 f5 f6 f7; omega) | skip); (first | have f7_b := f7 (by clear f9_c1 f9 hK_0_1 f1 f2 f4 f5 f6 f7; omega) | skip); (first | have f1_d := f1 (by with_reducible assumption) | skip); (first | have f2_d := f2 (by with_reducible assumption) | skip); (first | have f4_d := f4 (by with_reducible assumption) | skip); (first | have f5_d := f5 (by with_reducible assumption) | skip); (first | have f6_d := f6 (by with_reducible assumption) | skip); (first | have f7_d := f7 (by with_reducible assumption) | skip); (try and_intros) <;> first | with_reducible assumption | (clear f9_c1 f9 hK_0_1 f1 f2 f4 f5 f6 f7; omega)) | omega
set_option maxHeartbeats 4000000 in
theorem vc_Mo_next_47_1 (x1 : Int) (x4 : Int) (x5 : Int) (tape_0 : Int → Int) (limit_0 : Int) (pos_0 : Int) (from_0 : Int) (place_0 : Int) (k1 : 0 ≤ x1 ∧ x1 ≤ 2000) (k4 : 0 ≤ x4 ∧ x4 ≤ 1999) (k5 : 123 ≤ x5 ∧ x5 ≤ 255) (g3 : x4 = pos_0) (f6 : ((x4 + 1) ≤ limit_0) → (x5 = (tape_0 (x4) % 256))) (f7 : (limit_0 ≤ x4) → (x5 = (-1))) (f9 : (from_0 ≤ pos_0) ∧ (((from_0 + 1) ≤ pos_0) ∨ ((pos_0 = from_0) ∧ (((from_0 + 1) ≤ limit_0) ∧ (((65 ≤ (tape_0 (from_0) % 256)) ∧ ((tape_0 (from_0) % 256) ≤ 90)) ∨ ((97 ≤ (tape_0 (from_0) % 256)) ∧ ((tape_0 (from_0) % 256) ≤ 122))))))) (f10 : ZXL (limit_0) (pos_0) (place_0) (from_0) (tape_0) (x1)) (kz_0_10 : 0 ≤ limit_0 ∧ limit_0 ≤ 2000) (kz_0_11 : 0 ≤ pos_0 ∧ pos_0 ≤ 2000) (kz_0_13 : 0 ≤ place_0 ∧ place_0 ≤ 2000) (kz_0_15 : 0 ≤ from_0 ∧ from_0 ≤ 2000) : ZXM (limit_0) (pos_0) (place_0) (from_0) (tape_0) (x1) := by
  first | subst g3 | skip
  exact zxm_mk ‹ZXL _ _ _ _ _ _› (fun q => by omega)
def o_Mo_next_47 : or_T := (147, 11, [(0, (2, 0, 0, [165])), (1, (0, 0, 2000, [])), (2, (2, 0, 0, [165])), (4, (0, 0, 1999, [])), (5, (0, 123, 255, [])), (7, (0, -1, -1, [])), (9, (0, -1, -1, [])), (10, (0, 95, 95, []))], [(7, [9, 10], [1]), (20, [4, 2, 9], [50, 1, 1, 1010, 1001, 4, 11, 0, 6, 4, 2, 1, 0, 0, 1, 2, 1, 10, 1, 2, 1, 2, 9, 5, 3, 1, 1, 1, 0, 0, 256]), (20, [2, 4, 9], [50, 1, 0, 10, 4, 7, 0, 3, 2, 0, 10, 1, 1, 1, 2, 1, 2, 0, -1]), (9, [4, 2], [11]), (20, [4, 2, 7], [50, 1, 1, 1010, 1001, 4, 11, 0, 6, 4, 2, 1, 0, 0, 1, 2, 1, 10, 1, 2, 1, 2, 9, 5, 3, 1, 1, 1, 0, 0, 256]), (20, [2, 4, 7], [50, 1, 0, 10, 4, 7, 0, 3, 2, 0, 10, 1, 1, 1, 2, 1, 2, 0, -1]), (20, [4, 2, 5], [50, 1, 1, 1010, 1001, 4, 11, 0, 6, 4, 2, 1, 0, 0, 1, 2, 1, 10, 1, 2, 1, 2, 9, 5, 3, 1, 1, 1, 0, 0, 256]), (20, [2, 4, 5], [50, 1, 0, 10, 4, 7, 0, 3, 2, 0, 10, 1, 1, 1, 2, 1, 2, 0, -1]), (20, [1, 2], [30, 0, 1, 0, 0, -1, 1, 15]), (20, [2], [50, 3, 1, 15, 11, 10, 1, 2, 8, 0, 3, 2, 0, 15, 2, 0, 11, 3, 12, 0, 7, 4, 3, 2, 0, 15, 0, 1, 2, 0, 11, 2, 8, 1, 3, 2, 0, 11, 2, 0, 15, 2, 12, 0, 7, 4, 3, 2, 0, 15, 0, 1, 2, 0, 10, 3, 30, 2, 14, 0, 2, 0, 65, 9, 6, 3, 0, 1, 2, 0, 15, 0, 256, 0, 10, 9, 6, 3, 0, 1, 2, 0, 15, 0, 256, 0, 90, 2, 14, 0, 2, 0, 97, 9, 6, 3, 0, 1, 2, 0, 15, 0, 256, 0, 10, 9, 6, 3, 0, 1, 2, 0, 15, 0, 256, 0, 122]), (20, [2, 1], [60, 4, 1, 951, 10, 11, 13, 15, 1]), (24, [0, 2], [])], [], [], [(20, [2], [50, 2, 0, 15, 11, 0, 7, 4, 3, 2, 0, 15, 0, 1, 2, 0, 11]), (20, [2, 1], [60, 4, 1, 953, 10, 11, 13, 15, 1])], [], [])
theorem oo_Mo_next_47 {kA : Nat → ClassId} : or_ok PRD kA GG o_Mo_next_47 := by
  refine or_mk fun A ta ws vs hD hth hl => ?_
  intro t0 r0 t1 k1 t2 r2 t4 k4 t5 k5 t7 k7 t9 k9 t10 k10 f0 f1 f2 f3 f4 f5 f6 f7 f8 f9 f10 f11
  replace f1 := shm_541 f1
  replace f2 := shm_542 f2
  replace f3 := shm_116 f3
  replace f4 := shm_541 f4
  replace f5 := shm_542 f5
  replace f6 := shm_541 f6
  replace f7 := shm_542 f7
  replace f9 := shm_1444 f9
  replace f10 := shm_1445 f10
  replace f11 := shm_5 f11
  have q2 : n_v vs 2 = n_v vs 0 := f11.symm
  simp only [q2] at f1 f2 f3 f4 f5 f6 f7 f9 f10
  have cr_0_1 := fdq_39 hD hth r0
  have g3 : v_iv (n_v vs 4) = w_fi ws (n_v vs 0) 11 := congrArg v_iv f3
  have hK_0_1 := elq_7 hD hth cr_0_1
  have kz_0_10 := fdq_43 hD hth r0
  have kz_0_11 := fdq_237 hD hth r0
  have kz_0_13 := fdq_238 hD hth r0
  have kz_0_15 := fdq_239 hD hth r0
  have nf0 : fc_1 PRD (20, [2], [50, 2, 0, 15, 11, 0, 7, 4, 3, 2, 0, 15, 0, 1, 2, 0, 11]) ws (vs) := by
    refine ⟨nf_in hl rfl, sgq_1446 ?_⟩
    · show (w_fi ws (n_v vs 2) 15 + 1) ≤ w_fi ws (n_v vs 2) 11
      rw [q2]
      exact vc_Mo_next_47_0 (v_iv (n_v vs 4)) (v_iv (n_v vs 5)) (v_iv (n_v vs 7)) (v_iv (n_v vs 9)) (w_ei ws (w_ar ws (n_v vs 0) 1)) (w_fi ws (n_v vs 0) 10) (w_fi ws (n_v vs 0) 11) (w_fi ws (n_v vs 0) 15) k4 k5 k7 k9 f1 f2 g3 f4 f5 f6 f7 f9 hK_0_1 kz_0_10 kz_0_11 kz_0_15
  have nf1 : fc_1 PRD (20, [2, 1], [60, 4, 1, 953, 10, 11, 13, 15, 1]) ws (vs) := by
    refine ⟨nf_in hl rfl, sgq_1447 ?_⟩
    · show ZXM (w_fi ws (n_v vs 2) 10) (w_fi ws (n_v vs 2) 11) (w_fi ws (n_v vs 2) 13) (w_fi ws (n_v vs 2) 15) (w_ei ws (w_ar ws (n_v vs 2) 1)) (v_iv (n_v vs 1))
      rw [q2]
      exact vc_Mo_next_47_1 (v_iv (n_v vs 1)) (v_iv (n_v vs 4)) (v_iv (n_v vs 5)) (w_ei ws (w_ar ws (n_v vs 0) 1)) (w_fi ws (n_v vs 0) 10) (w_fi ws (n_v vs 0) 11) (w_fi ws (n_v vs 0) 15) (w_fi ws (n_v vs 0) 13) k1 k4 k5 g3 f6 f7 f9 f10 kz_0_10 kz_0_11 kz_0_13 kz_0_15
  refine ⟨(fun _ h => (by cases h)), [], trivial, ?_, (fun _ h => (by cases h))⟩
  rw [List.append_nil]
  exact List.forall_mem_cons.mpr ⟨⟨show (20 : Nat) < 100 from by decide, nf0⟩, List.forall_mem_cons.mpr ⟨⟨show (20 : Nat) < 100 from by decide, nf1⟩, (fun _ h => (by cases h))⟩⟩
set_option maxHeartbeats 4000000 in
theorem vc_Mo_next_48_0 (x4 : Int) (x5 : Int) (x7 : Int) (x9 : Int) (tape_0 : Int → Int) (limit_0 : Int) (pos_0 : Int) (from_0 : Int) (k4 : 0 ≤ x4 ∧ x4 ≤ 1999) (k5 : 123 ≤ x5 ∧ x5 ≤ 255) (k7 : (-1) ≤ x7 ∧ x7 ≤ (-1)) (k9 : 0 ≤ x9 ∧ x9 ≤ 255) (f1 : ((x4 + 1) ≤ limit_0) → (x9 = (tape_0 (x4) % 256))) (f2 : (limit_0 ≤ x4) → (x9 = (-1))) (g3 : x4 = pos_0) (f4 : ((x4 + 1) ≤ limit_0) → (x7 = (tape_0 (x4) % 256))) (f5 : (limit_0 ≤ x4) → (x7 = (-1))) (f6 : ((x4 + 1) ≤ limit_0) → (x5 = (tape_0 (x4) % 256))) (f7 : (limit_0 ≤ x4) → (x5 = (-1))) (f9 : (from_0 ≤ pos_0) ∧ (((from_0 + 1) ≤ pos_0) ∨ ((pos_0 = from_0) ∧ (((from_0 + 1) ≤ limit_0) ∧ (((65 ≤ (tape_0 (from_0) % 256)) ∧ ((tape_0 (from_0) % 256) ≤ 90)) ∨ ((97 ≤ (tape_0 (from_0) % 256)) ∧ ((tape_0 (from_0) % 256) ≤ 122))))))) (hK_0_1 : ∀ j : Int, 0 ≤ j → j < 2000 → (-128) ≤ tape_0 j ∧ tape_0 j ≤ 127) (kz_0_10 : 0 ≤ limit_0 ∧ limit_0 ≤ 2000) (kz_0_11 : 0 ≤ pos_0 ∧ pos_0 ≤ 2000) (kz_0_15 : 0 ≤ from_0 ∧ from_0 ≤ 2000) : (from_0 + 1) ≤ pos_0 := by
  first | with_reducible assumption | ((have f9_c0 := f9.1); (have f9_c1 := f9.2); (try and_intros) <;> first | with_reducible assumption | (clear f9_c1 f9 hK_0_1 f1 f2 f4 f5 f6 f7; omega)) | ((have f9_c0 := f9.1); (have f9_c1 := f9.2); (first | have f1_b := f1 (by clear f9_c1 f9 hK_0_1 f1 f2 f4 f5 f6 f7; omega) | skip); (first | have f2_b := f2 (by clear f9_c1 f9 hK_0_1 f1 f2 f4 f5 f6 f7; omega) | skip); (first | have f4_b := f4 (by clear f9_c1 f9 hK_0_1 f1 f2 f4 f5 f6 f7; omega) | skip); (first | have f5_b := f5 (by clear f9_c1 f9 hK_0_1 f1 f2 f4 f5 f6 f7; omega) | skip); (first | have f6_b := f6 (by clear f9_c1 f9 hK_0_1 f1 f2 f4 f5 f6 f7; omega) | skip); (first | have f7_b := f7 (by clear f9_c1 f9 hK_0_1 f1 f2 f4 f5 f6 f7; omega) | skip); (first | have f1_d := f1 (by with_reducible assumption) | skip); (first | have f2_d := f2 (by with_reducible assumption) | skip); (first | have f4_d := f4 (by with_reducible assumption) | skip); (first | have f5_d := f5 (by with_reducible assumption) | skip); (first | have f6_d := f6 (by with_reducible assumption) | skip); (first | have f7_d := f7 (by with_reducible assumption) | skip); (try and_intros) <;> first | with_reducible assumption | (clear f9_c1 f9 hK_0_1 f1 f2 f4 f5 f6 f7; omega)) | omega
set_option maxHeartbeats 4000000 in
theorem vc_Mo_next_48_1 (x1 : Int) (x4 : Int) (x5 : Int) (tape_0 : Int → Int) (limit_0 : Int) (pos_0 : Int) (from_0 : Int) (place_0 : Int) (k1 : 0 ≤ x1 ∧ x1 ≤ 2000) (k4 : 0 ≤ x4 ∧ x4 ≤ 1999) (k5 : 123 ≤ x5 ∧ x5 ≤ 255) (g3 : x4 = pos_0) (f6 : ((x4 + 1) ≤ limit_0) → (x5 = (tape_0 (x4) % 256))) (f7 : (limit_0 ≤ x4) → (x5 = (-1))) (f9 : (from_0 ≤ pos_0) ∧ (((from_0 + 1) ≤ pos_0) ∨ ((pos_0 = from_0) ∧ (((from_0 + 1) ≤ limit_0) ∧ (((65 ≤ (tape_0 (from_0) % 256)) ∧ ((tape_0 (from_0) % 256) ≤ 90)) ∨ ((97 ≤ (tape_0 (from_0) % 256)) ∧ ((tape_0 (from_0) % 256) ≤ 122))))))) (f10 : ZXL (limit_0) (pos_0) (place_0) (from_0) (tape_0) (x1)) (kz_0_10 : 0 ≤ limit_0 ∧ limit_0 ≤ 2000) (kz_0_11 : 0 ≤ pos_0 ∧ pos_0 ≤ 2000) (kz_0_13 : 0 ≤ place_0 ∧ place_0 ≤ 2000) (kz_0_15 : 0 ≤ from_0 ∧ from_0 ≤ 2000) : ZXM (limit_0) (pos_0) (place_0) (from_0) (tape_0) (x1) := by
  first | subst g3 | skip
  exact zxm_mk ‹ZXL _ _ _ _ _ _› (fun q => by omega)
def o_Mo_next_48 : or_T := (147, 11, [(0, (2, 0, 0, [165])), (1, (0, 0, 2000, [])), (2, (2, 0, 0, [165])), (4, (0, 0, 1999, [])), (5, (0, 123, 255, [])), (7, (0, -1, -1, [])), (9, (0, 0, 255, [])), (10, (0, 95, 95, []))], [(7, [9, 10], [1]), (20, [4, 2, 9], [50, 1, 1, 1010, 1001, 4, 11, 0, 6, 4, 2, 1, 0, 0, 1, 2, 1, 10, 1, 2, 1, 2, 9, 5, 3, 1, 1, 1, 0, 0, 256]), (20, [2, 4, 9], [50, 1, 0, 10, 4, 7, 0, 3, 2, 0, 10, 1, 1, 1, 2, 1, 2, 0, -1]), (9, [4, 2], [11]), (20, [4, 2, 7], [50, 1, 1, 1010, 1001, 4, 11, 0, 6, 4, 2, 1, 0, 0, 1, 2, 1, 10, 1, 2, 1, 2, 9, 5, 3, 1, 1, 1, 0, 0, 256]), (20, [2, 4, 7], [50, 1, 0, 10, 4, 7, 0, 3, 2, 0, 10, 1, 1, 1, 2, 1, 2, 0, -1]), (20, [4, 2, 5], [50, 1, 1, 1010, 1001, 4, 11, 0, 6, 4, 2, 1, 0, 0, 1, 2, 1, 10, 1, 2, 1, 2, 9, 5, 3, 1, 1, 1, 0, 0, 256]), (20, [2, 4, 5], [50, 1, 0, 10, 4, 7, 0, 3, 2, 0, 10, 1, 1, 1, 2, 1, 2, 0, -1]), (20, [1, 2], [30, 0, 1, 0, 0, -1, 1, 15]), (20, [2], [50, 3, 1, 15, 11, 10, 1, 2, 8, 0, 3, 2, 0, 15, 2, 0, 11, 3, 12, 0, 7, 4, 3, 2, 0, 15, 0, 1, 2, 0, 11, 2, 8, 1, 3, 2, 0, 11, 2, 0, 15, 2, 12, 0, 7, 4, 3, 2, 0, 15, 0, 1, 2, 0, 10, 3, 30, 2, 14, 0, 2, 0, 65, 9, 6, 3, 0, 1, 2, 0, 15, 0, 256, 0, 10, 9, 6, 3, 0, 1, 2, 0, 15, 0, 256, 0, 90, 2, 14, 0, 2, 0, 97, 9, 6, 3, 0, 1, 2, 0, 15, 0, 256, 0, 10, 9, 6, 3, 0, 1, 2, 0, 15, 0, 256, 0, 122]), (20, [2, 1], [60, 4, 1, 951, 10, 11, 13, 15, 1]), (24, [0, 2], [])], [], [], [(20, [2], [50, 2, 0, 15, 11, 0, 7, 4, 3, 2, 0, 15, 0, 1, 2, 0, 11]), (20, [2, 1], [60, 4, 1, 953, 10, 11, 13, 15, 1])], [], [])
theorem oo_Mo_next_48 {kA : Nat → ClassId} : or_ok PRD kA GG o_Mo_next_48 := by
  refine or_mk fun A ta ws vs hD hth hl => ?_
  intro t0 r0 t1 k1 t2 r2 t4 k4 t5 k5 t7 k7 t9 k9 t10 k10 f0 f1 f2 f3 f4 f5 f6 f7 f8 f9 f10 f11
  replace f1 := shm_541 f1
  replace f2 := shm_542 f2
  replace f3 := shm_116 f3
  replace f4 := shm_541 f4
  replace f5 := shm_542 f5
  replace f6 := shm_541 f6
  replace f7 := shm_542 f7
  replace f9 := shm_1444 f9
  replace f10 := shm_1445 f10
  replace f11 := shm_5 f11
  have q2 : n_v vs 2 = n_v vs 0 := f11.symm
  simp only [q2] at f1 f2 f3 f4 f5 f6 f7 f9 f10
  have cr_0_1 := fdq_39 hD hth r0
  have g3 : v_iv (n_v vs 4) = w_fi ws (n_v vs 0) 11 := congrArg v_iv f3
  have hK_0_1 := elq_7 hD hth cr_0_1
  have kz_0_10 := fdq_43 hD hth r0
  have kz_0_11 := fdq_237 hD hth r0
  have kz_0_13 := fdq_238 hD hth r0
  have kz_0_15 := fdq_239 hD hth r0
  have nf0 : fc_1 PRD (20, [2], [50, 2, 0, 15, 11, 0, 7, 4, 3, 2, 0, 15, 0, 1, 2, 0, 11]) ws (vs) := by
    refine ⟨nf_in hl rfl, sgq_1446 ?_⟩
    · show (w_fi ws (n_v vs 2) 15 + 1) ≤ w_fi ws (n_v vs 2) 11
      rw [q2]
      exact vc_Mo_next_48_0 (v_iv (n_v vs 4)) (v_iv (n_v vs 5)) (v_iv (n_v vs 7)) (v_iv (n_v vs 9)) (w_ei ws (w_ar ws (n_v vs 0) 1)) (w_fi ws (n_v vs 0) 10) (w_fi ws (n_v vs 0) 11) (w_fi ws (n_v vs 0) 15) k4 k5 k7 k9 f1 f2 g3 f4 f5 f6 f7 f9 hK_0_1 kz_0_10 kz_0_11 kz_0_15
  have nf1 : fc_1 PRD (20, [2, 1], [60, 4, 1, 953, 10, 11, 13, 15, 1]) ws (vs) := by
    refine ⟨nf_in hl rfl, sgq_1447 ?_⟩
    · show ZXM (w_fi ws (n_v vs 2) 10) (w_fi ws (n_v vs 2) 11) (w_fi ws (n_v vs 2) 13) (w_fi ws (n_v vs 2) 15) (w_ei ws (w_ar ws (n_v vs 2) 1)) (v_iv (n_v vs 1))
      rw [q2]
      exact vc_Mo_next_48_1 (v_iv (n_v vs 1)) (v_iv (n_v vs 4)) (v_iv (n_v vs 5)) (w_ei ws (w_ar ws (n_v vs 0) 1)) (w_fi ws (n_v vs 0) 10) (w_fi ws (n_v vs 0) 11) (w_fi ws (n_v vs 0) 15) (w_fi ws (n_v vs 0) 13) k1 k4 k5 g3 f6 f7 f9 f10 kz_0_10 kz_0_11 kz_0_13 kz_0_15
  refine ⟨(fun _ h => (by cases h)), [], trivial, ?_, (fun _ h => (by cases h))⟩
  rw [List.append_nil]
  exact List.forall_mem_cons.mpr ⟨⟨show (20 : Nat) < 100 from by decide, nf0⟩, List.forall_mem_cons.mpr ⟨⟨show (20 : Nat) < 100 from by decide, nf1⟩, (fun _ h => (by cases h))⟩⟩
set_option maxHeartbeats 4000000 in
theorem vc_Mo_next_49_0 (x1 : Int) (x4 : Int) (x5 : Int) (x7 : Int) (tape_0 : Int → Int) (limit_0 : Int) (pos_0 : Int) (from_0 : Int) (place_0 : Int) (k1 : 0 ≤ x1 ∧ x1 ≤ 2000) (k4 : 0 ≤ x4 ∧ x4 ≤ 1999) (k5 : 123 ≤ x5 ∧ x5 ≤ 255) (k7 : (-1) ≤ x7 ∧ x7 ≤ (-1)) (g3 : x4 = pos_0) (f4 : ((x4 + 1) ≤ limit_0) → (x7 = (tape_0 (x4) % 256))) (f5 : (limit_0 ≤ x4) → (x7 = (-1))) (f6 : ((x4 + 1) ≤ limit_0) → (x5 = (tape_0 (x4) % 256))) (f7 : (limit_0 ≤ x4) → (x5 = (-1))) (f9 : (from_0 ≤ pos_0) ∧ (((from_0 + 1) ≤ pos_0) ∨ ((pos_0 = from_0) ∧ (((from_0 + 1) ≤ limit_0) ∧ (((65 ≤ (tape_0 (from_0) % 256)) ∧ ((tape_0 (from_0) % 256) ≤ 90)) ∨ ((97 ≤ (tape_0 (from_0) % 256)) ∧ ((tape_0 (from_0) % 256) ≤ 122))))))) (f10 : ZXL (limit_0) (pos_0) (place_0) (from_0) (tape_0) (x1)) (hK_0_1 : ∀ j : Int, 0 ≤ j → j < 2000 → (-128) ≤ tape_0 j ∧ tape_0 j ≤ 127) (kz_0_10 : 0 ≤ limit_0 ∧ limit_0 ≤ 2000) (kz_0_11 : 0 ≤ pos_0 ∧ pos_0 ≤ 2000) (kz_0_13 : 0 ≤ place_0 ∧ place_0 ≤ 2000) (kz_0_15 : 0 ≤ from_0 ∧ from_0 ≤ 2000) : ZXN (limit_0) (pos_0) (place_0) (from_0) (tape_0) (x1) := by
  first | subst g3 | skip
  exact zxn_mk (by assumption) ‹ZXL _ _ _ _ _ _› (by omega) (by omega)
def o_Mo_next_49 : or_T := (134, 11, [(0, (2, 0, 0, [165])), (1, (0, 0, 2000, [])), (2, (2, 0, 0, [165])), (4, (0, 0, 1999, [])), (5, (0, 123, 255, [])), (7, (0, -1, -1, [])), (9, (0, 95, 95, [])), (10, (0, 95, 95, []))], [(7, [9, 10], [0]), (20, [4, 2, 9], [50, 1, 1, 1010, 1001, 4, 11, 0, 6, 4, 2, 1, 0, 0, 1, 2, 1, 10, 1, 2, 1, 2, 9, 5, 3, 1, 1, 1, 0, 0, 256]), (20, [2, 4, 9], [50, 1, 0, 10, 4, 7, 0, 3, 2, 0, 10, 1, 1, 1, 2, 1, 2, 0, -1]), (9, [4, 2], [11]), (20, [4, 2, 7], [50, 1, 1, 1010, 1001, 4, 11, 0, 6, 4, 2, 1, 0, 0, 1, 2, 1, 10, 1, 2, 1, 2, 9, 5, 3, 1, 1, 1, 0, 0, 256]), (20, [2, 4, 7], [50, 1, 0, 10, 4, 7, 0, 3, 2, 0, 10, 1, 1, 1, 2, 1, 2, 0, -1]), (20, [4, 2, 5], [50, 1, 1, 1010, 1001, 4, 11, 0, 6, 4, 2, 1, 0, 0, 1, 2, 1, 10, 1, 2, 1, 2, 9, 5, 3, 1, 1, 1, 0, 0, 256]), (20, [2, 4, 5], [50, 1, 0, 10, 4, 7, 0, 3, 2, 0, 10, 1, 1, 1, 2, 1, 2, 0, -1]), (20, [1, 2], [30, 0, 1, 0, 0, -1, 1, 15]), (20, [2], [50, 3, 1, 15, 11, 10, 1, 2, 8, 0, 3, 2, 0, 15, 2, 0, 11, 3, 12, 0, 7, 4, 3, 2, 0, 15, 0, 1, 2, 0, 11, 2, 8, 1, 3, 2, 0, 11, 2, 0, 15, 2, 12, 0, 7, 4, 3, 2, 0, 15, 0, 1, 2, 0, 10, 3, 30, 2, 14, 0, 2, 0, 65, 9, 6, 3, 0, 1, 2, 0, 15, 0, 256, 0, 10, 9, 6, 3, 0, 1, 2, 0, 15, 0, 256, 0, 90, 2, 14, 0, 2, 0, 97, 9, 6, 3, 0, 1, 2, 0, 15, 0, 256, 0, 10, 9, 6, 3, 0, 1, 2, 0, 15, 0, 256, 0, 122]), (20, [2, 1], [60, 4, 1, 951, 10, 11, 13, 15, 1]), (24, [0, 2], [])], [], [], [(20, [2, 1], [60, 4, 1, 952, 10, 11, 13, 15, 1])], [], [])
theorem oo_Mo_next_49 {kA : Nat → ClassId} : or_ok PRD kA GG o_Mo_next_49 := by
  refine or_mk fun A ta ws vs hD hth hl => ?_
  intro t0 r0 t1 k1 t2 r2 t4 k4 t5 k5 t7 k7 t9 k9 t10 k10 f0 f1 f2 f3 f4 f5 f6 f7 f8 f9 f10 f11
  replace f3 := shm_116 f3
  replace f4 := shm_541 f4
  replace f5 := shm_542 f5
  replace f6 := shm_541 f6
  replace f7 := shm_542 f7
  replace f9 := shm_1444 f9
  replace f10 := shm_1445 f10
  replace f11 := shm_5 f11
  have q2 : n_v vs 2 = n_v vs 0 := f11.symm
  simp only [q2] at f3 f4 f5 f6 f7 f9 f10
  have cr_0_1 := fdq_39 hD hth r0
  have g3 : v_iv (n_v vs 4) = w_fi ws (n_v vs 0) 11 := congrArg v_iv f3
  have hK_0_1 := elq_7 hD hth cr_0_1
  have kz_0_10 := fdq_43 hD hth r0
  have kz_0_11 := fdq_237 hD hth r0
  have kz_0_13 := fdq_238 hD hth r0
  have kz_0_15 := fdq_239 hD hth r0
  have nf0 : fc_1 PRD (20, [2, 1], [60, 4, 1, 952, 10, 11, 13, 15, 1]) ws (vs) := by
    refine ⟨nf_in hl rfl, sgq_1448 ?_⟩
    · show ZXN (w_fi ws (n_v vs 2) 10) (w_fi ws (n_v vs 2) 11) (w_fi ws (n_v vs 2) 13) (w_fi ws (n_v vs 2) 15) (w_ei ws (w_ar ws (n_v vs 2) 1)) (v_iv (n_v vs 1))
      rw [q2]
      exact vc_Mo_next_49_0 (v_iv (n_v vs 1)) (v_iv (n_v vs 4)) (v_iv (n_v vs 5)) (v_iv (n_v vs 7)) (w_ei ws (w_ar ws (n_v vs 0) 1)) (w_fi ws (n_v vs 0) 10) (w_fi ws (n_v vs 0) 11) (w_fi ws (n_v vs 0) 15) (w_fi ws (n_v vs 0) 13) k1 k4 k5 k7 g3 f4 f5 f6 f7 f9 f10 hK_0_1 kz_0_10 kz_0_11 kz_0_13 kz_0_15
  refine ⟨(fun _ h => (by cases h)), [], trivial, ?_, (fun _ h => (by cases h))⟩
  rw [List.append_nil]
  exact List.forall_mem_cons.mpr ⟨⟨show (20 : Nat) < 100 from by decide, nf0⟩, (fun _ h => (by cases h))⟩
set_option maxHeartbeats 4000000 in
theorem vc_Mo_next_50_0 (x4 : Int) (x5 : Int) (x7 : Int) (x9 : Int) (tape_0 : Int → Int) (limit_0 : Int) (pos_0 : Int) (from_0 : Int) (k4 : 0 ≤ x4 ∧ x4 ≤ 1999) (k5 : 123 ≤ x5 ∧ x5 ≤ 255) (k7 : 0 ≤ x7 ∧ x7 ≤ 47) (k9 : (-1) ≤ x9 ∧ x9 ≤ (-1)) (f1 : ((x4 + 1) ≤ limit_0) → (x9 = (tape_0 (x4) % 256))) (f2 : (limit_0 ≤ x4) → (x9 = (-1))) (g3 : x4 = pos_0) (f4 : ((x4 + 1) ≤ limit_0) → (x7 = (tape_0 (x4) % 256))) (f5 : (limit_0 ≤ x4) → (x7 = (-1))) (f6 : ((x4 + 1) ≤ limit_0) → (x5 = (tape_0 (x4) % 256))) (f7 : (limit_0 ≤ x4) → (x5 = (-1))) (f9 : (from_0 ≤ pos_0) ∧ (((from_0 + 1) ≤ pos_0) ∨ ((pos_0 = from_0) ∧ (((from_0 + 1) ≤ limit_0) ∧ (((65 ≤ (tape_0 (from_0) % 256)) ∧ ((tape_0 (from_0) % 256) ≤ 90)) ∨ ((97 ≤ (tape_0 (from_0) % 256)) ∧ ((tape_0 (from_0) % 256) ≤ 122))))))) (hK_0_1 : ∀ j : Int, 0 ≤ j → j < 2000 → (-128) ≤ tape_0 j ∧ tape_0 j ≤ 127) (kz_0_10 : 0 ≤ limit_0 ∧ limit_0 ≤ 2000) (kz_0_11 : 0 ≤ pos_0 ∧ pos_0 ≤ 2000) (kz_0_15 : 0 ≤ from_0 ∧ from_0 ≤ 2000) : (from_0 + 1) ≤ pos_0 := by
  first | with_reducible assumption | ((have f9_c0 := f9.1); (have f9_c1 := f9.2); (try and_intros) <;> first | with_reducible assumption | (clear f9_c1 f9 hK_0_1 f1 f2 f4 f5 f6 f7; omega)) | ((have f9_c0 := f9.1); (have f9_c1 := f9.2); (first | have f1_b := f1 (by clear f9_c1 f9 hK_0_1 f1 f2 f4 f5 f6 f7; omega) | skip); (first | have f2_b := f2 (by clear f9_c1 f9 hK_0_1 f1 f2 f4 f5 f6 f7; omega) | skip); (first | have f4_b := f4 (by clear f9_c1 f9 hK_0_1 f1 f2 f4 f5 f6 f7; omega) | skip); (first | have f5_b := f5 (by clear f9_c1 f9 hK_0_1 f1 f2 f4 f5 f6 f7; omega) | skip); (first | have f6_b := f6 (by clear f9_c1 f9 hK_0_1 f1 f2 f4 f5 f6 f7; omega) | skip); (first | have f7_b := f7 (by clear f9_c1 f9 hK_0_1 f1 f2 f4 f5 f6 f7; omega) | skip); (first | have f1_d := f1 (by with_reducible assumption) | skip); (first | have f2_d := f2 (by with_reducible assumption) | skip); (first | have f4_d := f4 (by with_reducible assumption) | skip); (first | have f5_d := f5 (by with_reducible assumption) | skip); (first | have f6_d := f6 (by with_reducible assumption) | skip); (first | have f7_d := f7 (by with_reducible assumption) | skip); (try and_intros) <;> first | with_reducible assumption | (clear f9_c1 f9 hK_0_1 f1 f2 f4 f5 f6 f7; omega)) | omega
set_option maxHeartbeats 4000000 in
theorem vc_Mo_next_50_1 (x1 : Int) (x4 : Int) (x5 : Int) (tape_0 : Int → Int) (limit_0 : Int) (pos_0 : Int) (from_0 : Int) (place_0 : Int) (k1 : 0 ≤ x1 ∧ x1 ≤ 2000) (k4 : 0 ≤ x4 ∧ x4 ≤ 1999) (k5 : 123 ≤ x5 ∧ x5 ≤ 255) (g3 : x4 = pos_0) (f6 : ((x4 + 1) ≤ limit_0) → (x5 = (tape_0 (x4) % 256))) (f7 : (limit_0 ≤ x4) → (x5 = (-1))) (f9 : (from_0 ≤ pos_0) ∧ (((from_0 + 1) ≤ pos_0) ∨ ((pos_0 = from_0) ∧ (((from_0 + 1) ≤ limit_0) ∧ (((65 ≤ (tape_0 (from_0) % 256)) ∧ ((tape_0 (from_0) % 256) ≤ 90)) ∨ ((97 ≤ (tape_0 (from_0) % 256)) ∧ ((tape_0 (from_0) % 256) ≤ 122))))))) (f10 : ZXL (limit_0) (pos_0) (place_0) (from_0) (tape_0) (x1)) (kz_0_10 : 0 ≤ limit_0 ∧ limit_0 ≤ 2000) (kz_0_11 : 0 ≤ pos_0 ∧ pos_0 ≤ 2000) (kz_0_13 : 0 ≤ place_0 ∧ place_0 ≤ 2000) (kz_0_15 : 0 ≤ from_0 ∧ from_0 ≤ 2000) : ZXM (limit_0) (pos_0) (place_0) (from_0) (tape_0) (x1) := by
  first | subst g3 | skip
  exact zxm_mk ‹ZXL _ _ _ _ _ _› (fun q => by omega)
def o_Mo_next_50 : or_T := (147, 11, [(0, (2, 0, 0, [165])), (1, (0, 0, 2000, [])), (2, (2, 0, 0, [165])), (4, (0, 0, 1999, [])), (5, (0, 123, 255, [])), (7, (0, 0, 47, [])), (9, (0, -1, -1, [])), (10, (0, 95, 95, []))], [(7, [9, 10], [1]), (20, [4, 2, 9], [50, 1, 1, 1010, 1001, 4, 11, 0, 6, 4, 2, 1, 0, 0, 1, 2, 1, 10, 1, 2, 1, 2, 9, 5, 3, 1, 1, 1, 0, 0, 256]), (20, [2, 4, 9], [50, 1, 0, 10, 4, 7, 0, 3, 2, 0, 10, 1, 1, 1, 2, 1, 2, 0, -1]), (9, [4, 2], [11]), (20, [4, 2, 7], [50, 1, 1, 1010, 1001, 4, 11, 0, 6, 4, 2, 1, 0, 0, 1, 2, 1, 10, 1, 2, 1, 2, 9, 5, 3, 1, 1, 1, 0, 0, 256]), (20, [2, 4, 7], [50, 1, 0, 10, 4, 7, 0, 3, 2, 0, 10, 1, 1, 1, 2, 1, 2, 0, -1]), (20, [4, 2, 5], [50, 1, 1, 1010, 1001, 4, 11, 0, 6, 4, 2, 1, 0, 0, 1, 2, 1, 10, 1, 2, 1, 2, 9, 5, 3, 1, 1, 1, 0, 0, 256]), (20, [2, 4, 5], [50, 1, 0, 10, 4, 7, 0, 3, 2, 0, 10, 1, 1, 1, 2, 1, 2, 0, -1]), (20, [1, 2], [30, 0, 1, 0, 0, -1, 1, 15]), (20, [2], [50, 3, 1, 15, 11, 10, 1, 2, 8, 0, 3, 2, 0, 15, 2, 0, 11, 3, 12, 0, 7, 4, 3, 2, 0, 15, 0, 1, 2, 0, 11, 2, 8, 1, 3, 2, 0, 11, 2, 0, 15, 2, 12, 0, 7, 4, 3, 2, 0, 15, 0, 1, 2, 0, 10, 3, 30, 2, 14, 0, 2, 0, 65, 9, 6, 3, 0, 1, 2, 0, 15, 0, 256, 0, 10, 9, 6, 3, 0, 1, 2, 0, 15, 0, 256, 0, 90, 2, 14, 0, 2, 0, 97, 9, 6, 3, 0, 1, 2, 0, 15, 0, 256, 0, 10, 9, 6, 3, 0, 1, 2, 0, 15, 0, 256, 0, 122]), (20, [2, 1], [60, 4, 1, 951, 10, 11, 13, 15, 1]), (24, [0, 2], [])], [], [], [(20, [2], [50, 2, 0, 15, 11, 0, 7, 4, 3, 2, 0, 15, 0, 1, 2, 0, 11]), (20, [2, 1], [60, 4, 1, 953, 10, 11, 13, 15, 1])], [], [])
theorem oo_Mo_next_50 {kA : Nat → ClassId} : or_ok PRD kA GG o_Mo_next_50 := by
  refine or_mk fun A ta ws vs hD hth hl => ?_
  intro t0 r0 t1 k1 t2 r2 t4 k4 t5 k5 t7 k7 t9 k9 t10 k10 f0 f1 f2 f3 f4 f5 f6 f7 f8 f9 f10 f11
  replace f1 := shm_541 f1
  replace f2 := shm_542 f2
  replace f3 := shm_116 f3
  replace f4 := shm_541 f4
  replace f5 := shm_542 f5
  replace f6 := shm_541 f6
  replace f7 := shm_542 f7
  replace f9 := shm_1444 f9
  replace f10 := shm_1445 f10
  replace f11 := shm_5 f11
  have q2 : n_v vs 2 = n_v vs 0 := f11.symm
  simp only [q2] at f1 f2 f3 f4 f5 f6 f7 f9 f10
  have cr_0_1 := fdq_39 hD hth r0
  have g3 : v_iv (n_v vs 4) = w_fi ws (n_v vs 0) 11 := congrArg v_iv f3
  have hK_0_1 := elq_7 hD hth cr_0_1
  have kz_0_10 := fdq_43 hD hth r0
  have kz_0_11 := fdq_237 hD hth r0
  have kz_0_13 := fdq_238 hD hth r0
  have kz_0_15 := fdq_239 hD hth r0
  have nf0 : fc_1 PRD (20, [2], [50, 2, 0, 15, 11, 0, 7, 4, 3, 2, 0, 15, 0, 1, 2, 0, 11]) ws (vs) := by
    refine ⟨nf_in hl rfl, sgq_1446 ?_⟩
    · show (w_fi ws (n_v vs 2) 15 + 1) ≤ w_fi ws (n_v vs 2) 11
      rw [q2]
      exact vc_Mo_next_50_0 (v_iv (n_v vs 4)) (v_iv (n_v vs 5)) (v_iv (n_v vs 7)) (v_iv (n_v vs 9)) (w_ei ws (w_ar ws (n_v vs 0) 1)) (w_fi ws (n_v vs 0) 10) (w_fi ws (n_v vs 0) 11) (w_fi ws (n_v vs 0) 15) k4 k5 k7 k9 f1 f2 g3 f4 f5 f6 f7 f9 hK_0_1 kz_0_10 kz_0_11 kz_0_15
  have nf1 : fc_1 PRD (20, [2, 1], [60, 4, 1, 953, 10, 11, 13, 15, 1]) ws (vs) := by
    refine ⟨nf_in hl rfl, sgq_1447 ?_⟩
    · show ZXM (w_fi ws (n_v vs 2) 10) (w_fi ws (n_v vs 2) 11) (w_fi ws (n_v vs 2) 13) (w_fi ws (n_v vs 2) 15) (w_ei ws (w_ar ws (n_v vs 2) 1)) (v_iv (n_v vs 1))
      rw [q2]
      exact vc_Mo_next_50_1 (v_iv (n_v vs 1)) (v_iv (n_v vs 4)) (v_iv (n_v vs 5)) (w_ei ws (w_ar ws (n_v vs 0) 1)) (w_fi ws (n_v vs 0) 10) (w_fi ws (n_v vs 0) 11) (w_fi ws (n_v vs 0) 15) (w_fi ws (n_v vs 0) 13) k1 k4 k5 g3 f6 f7 f9 f10 kz_0_10 kz_0_11 kz_0_13 kz_0_15
  refine ⟨(fun _ h => (by cases h)), [], trivial, ?_, (fun _ h => (by cases h))⟩
  rw [List.append_nil]
  exact List.forall_mem_cons.mpr ⟨⟨show (20 : Nat) < 100 from by decide, nf0⟩, List.forall_mem_cons.mpr ⟨⟨show (20 : Nat) < 100 from by decide, nf1⟩, (fun _ h => (by cases h))⟩⟩
set_option maxHeartbeats 4000000 in
theorem vc_Mo_next_51_0 (x4 : Int) (x5 : Int) (x7 : Int) (x9 : Int) (tape_0 : Int → Int) (limit_0 : Int) (pos_0 : Int) (from_0 : Int) (k4 : 0 ≤ x4 ∧ x4 ≤ 1999) (k5 : 123 ≤ x5 ∧ x5 ≤ 255) (k7 : 0 ≤ x7 ∧ x7 ≤ 47) (k9 : 0 ≤ x9 ∧ x9 ≤ 255) (f1 : ((x4 + 1) ≤ limit_0) → (x9 = (tape_0 (x4) % 256))) (f2 : (limit_0 ≤ x4) → (x9 = (-1))) (g3 : x4 = pos_0) (f4 : ((x4 + 1) ≤ limit_0) → (x7 = (tape_0 (x4) % 256))) (f5 : (limit_0 ≤ x4) → (x7 = (-1))) (f6 : ((x4 + 1) ≤ limit_0) → (x5 = (tape_0 (x4) % 256))) (f7 : (limit_0 ≤ x4) → (x5 = (-1))) (f9 : (from_0 ≤ pos_0) ∧ (((from_0 + 1) ≤ pos_0) ∨ ((pos_0 = from_0) ∧ (((from_0 + 1) ≤ limit_0) ∧ (((65 ≤ (tape_0 (from_0) % 256)) ∧ ((tape_0 (from_0) % 256) ≤ 90)) ∨ ((97 ≤ (tape_0 (from_0) % 256)) ∧ ((tape_0 (from_0) % 256) ≤ 122))))))) (hK_0_1 : ∀ j : Int, 0 ≤ j → j < 2000 → (-128) ≤ tape_0 j ∧ tape_0 j ≤ 127) (kz_0_10 : 0 ≤ limit_0 ∧ limit_0 ≤ 2000) (kz_0_11 : 0 ≤ pos_0 ∧ pos_0 ≤ 2000) (kz_0_15 : 0 ≤ from_0 ∧ from_0 ≤ 2000) : (from_0 + 1) ≤ pos_0 := by
  first | with_reducible assumption | ((have f9_c0 := f9.1); (have f9_c1 := f9.2); (try and_intros) <;> first | with_reducible assumption | (clear f9_c1 f9 hK_0_1 f1 f2 f4 f5 f6 f7; omega)) | ((have f9_c0 := f9.1); (have f9_c1 := f9.2); (first | have f1_b := f1 (by clear f9_c1 f9 hK_0_1 f1 f2 f4 f5 f6 f7; omega) | skip); (first | have f2_b := f2 (by clear f9_c1 f9 hK_0_1 f1 f2 f4 f5 f6 f7; omega) | skip); (first | have f4_b := f4 (by clear f9_c1 f9 hK_0_1 f1 f2 f4 f5 f6 f7; omega) | skip); (first | have f5_b := f5 (by clear f9_c1 f9 hK_0_1 f1 f2 f4 f5 f6 f7; omega) | skip); (first | have f6_b := f6 (by clear f9_c1 f9 hK_0_1 f1 f2 f4 f5 f6 f7; omega) | skip); (first | have f7_b := f7 (by clear f9_c1 f9 hK_0_1 f1 f2 f4 f5 f6 f7; omega) | skip); (first | have f1_d := f1 (by with_reducible assumption) | skip); (first | have f2_d := f2 (by with_reducible assumption) | skip); (first | have f4_d := f4 (by with_reducible assumption) | skip); (first | have f5_d := f5 (by with_reducible assumption) | skip); (first | have f6_d := f6 (by with_reducible assumption) | skip); (first | have f7_d := f7 (by with_reducible assumption) | skip); (try and_intros) <;> first | with_reducible assumption | (clear f9_c1 f9 hK_0_1 f1 f2 f4 f5 f6 f7; omega)) | omega
set_option maxHeartbeats 4000000 in
theorem vc_Mo_next_51_1 (x1 : Int) (x4 : Int) (x5 : Int) (tape_0 : Int → Int) (limit_0 : Int) (pos_0 : Int) (from_0 : Int) (place_0 : Int) (k1 : 0 ≤ x1 ∧ x1 ≤ 2000) (k4 : 0 ≤ x4 ∧ x4 ≤ 1999) (k5 : 123 ≤ x5 ∧ x5 ≤ 255) (g3 : x4 = pos_0) (f6 : ((x4 + 1) ≤ limit_0) → (x5 = (tape_0 (x4) % 256))) (f7 : (limit_0 ≤ x4) → (x5 = (-1))) (f9 : (from_0 ≤ pos_0) ∧ (((from_0 + 1) ≤ pos_0) ∨ ((pos_0 = from_0) ∧ (((from_0 + 1) ≤ limit_0) ∧ (((65 ≤ (tape_0 (from_0) % 256)) ∧ ((tape_0 (from_0) % 256) ≤ 90)) ∨ ((97 ≤ (tape_0 (from_0) % 256)) ∧ ((tape_0 (from_0) % 256) ≤ 122))))))) (f10 : ZXL (limit_0) (pos_0) (place_0) (from_0) (tape_0) (x1)) (kz_0_10 : 0 ≤ limit_0 ∧ limit_0 ≤ 2000) (kz_0_11 : 0 ≤ pos_0 ∧ pos_0 ≤ 2000) (kz_0_13 : 0 ≤ place_0 ∧ place_0 ≤ 2000) (kz_0_15 : 0 ≤ from_0 ∧ from_0 ≤ 2000) : ZXM (limit_0) (pos_0) (place_0) (from_0) (tape_0) (x1) := by
  first | subst g3 | skip
  exact zxm_mk ‹ZXL _ _ _ _ _ _› (fun q => by omega)
def o_Mo_next_51 : or_T := (147, 11, [(0, (2, 0, 0, [165])), (1, (0, 0, 2000, [])), (2, (2, 0, 0, [165])), (4, (0, 0, 1999, [])), (5, (0, 123, 255, [])), (7, (0, 0, 47, [])), (9, (0, 0, 255, [])), (10, (0, 95, 95, []))], [(7, [9, 10], [1]), (20, [4, 2, 9], [50, 1, 1, 1010, 1001, 4, 11, 0, 6, 4, 2, 1, 0, 0, 1, 2, 1, 10, 1, 2, 1, 2, 9, 5, 3, 1, 1, 1, 0, 0, 256]), (20, [2, 4, 9], [50, 1, 0, 10, 4, 7, 0, 3, 2, 0, 10, 1, 1, 1, 2, 1, 2, 0, -1]), (9, [4, 2], [11]), (20, [4, 2, 7], [50, 1, 1, 1010, 1001, 4, 11, 0, 6, 4, 2, 1, 0, 0, 1, 2, 1, 10, 1, 2, 1, 2, 9, 5, 3, 1, 1, 1, 0, 0, 256]), (20, [2, 4, 7], [50, 1, 0, 10, 4, 7, 0, 3, 2, 0, 10, 1, 1, 1, 2, 1, 2, 0, -1]), (20, [4, 2, 5], [50, 1, 1, 1010, 1001, 4, 11, 0, 6, 4, 2, 1, 0, 0, 1, 2, 1, 10, 1, 2, 1, 2, 9, 5, 3, 1, 1, 1, 0, 0, 256]), (20, [2, 4, 5], [50, 1, 0, 10, 4, 7, 0, 3, 2, 0, 10, 1, 1, 1, 2, 1, 2, 0, -1]), (20, [1, 2], [30, 0, 1, 0, 0, -1, 1, 15]), (20, [2], [50, 3, 1, 15, 11, 10, 1, 2, 8, 0, 3, 2, 0, 15, 2, 0, 11, 3, 12, 0, 7, 4, 3, 2, 0, 15, 0, 1, 2, 0, 11, 2, 8, 1, 3, 2, 0, 11, 2, 0, 15, 2, 12, 0, 7, 4, 3, 2, 0, 15, 0, 1, 2, 0, 10, 3, 30, 2, 14, 0, 2, 0, 65, 9, 6, 3, 0, 1, 2, 0, 15, 0, 256, 0, 10, 9, 6, 3, 0, 1, 2, 0, 15, 0, 256, 0, 90, 2, 14, 0, 2, 0, 97, 9, 6, 3, 0, 1, 2, 0, 15, 0, 256, 0, 10, 9, 6, 3, 0, 1, 2, 0, 15, 0, 256, 0, 122]), (20, [2, 1], [60, 4, 1, 951, 10, 11, 13, 15, 1]), (24, [0, 2], [])], [], [], [(20, [2], [50, 2, 0, 15, 11, 0, 7, 4, 3, 2, 0, 15, 0, 1, 2, 0, 11]), (20, [2, 1], [60, 4, 1, 953, 10, 11, 13, 15, 1])], [], [])
theorem oo_Mo_next_51 {kA : Nat → ClassId} : or_ok PRD kA GG o_Mo_next_51 := by
  refine or_mk fun A ta ws vs hD hth hl => ?_
  intro t0 r0 t1 k1 t2 r2 t4 k4 t5 k5 t7 k7 t9 k9 t10 k10 f0 f1 f2 f3 f4 f5 f6 f7 f8 f9 f10 f11
  replace f1 := shm_541 f1
  replace f2 := shm_542 f2
  replace f3 := shm_116 f3
  replace f4 := shm_541 f4
  replace f5 := shm_542 f5
  replace f6 := shm_541 f6
  replace f7 := shm_542 f7
  replace f9 := shm_1444 f9
  replace f10 := shm_1445 f10
  replace f11 := shm_5 f11
  have q2 : n_v vs 2 = n_v vs 0 := f11.symm
  simp only [q2] at f1 f2 f3 f4 f5 f6 f7 f9 f10
  have cr_0_1 := fdq_39 hD hth r0
  have g3 : v_iv (n_v vs 4) = w_fi ws (n_v vs 0) 11 := congrArg v_iv f3
  have hK_0_1 := elq_7 hD hth cr_0_1
  have kz_0_10 := fdq_43 hD hth r0
  have kz_0_11 := fdq_237 hD hth r0
  have kz_0_13 := fdq_238 hD hth r0
  have kz_0_15 := fdq_239 hD hth r0
  have nf0 : fc_1 PRD (20, [2], [50, 2, 0, 15, 11, 0, 7, 4, 3, 2, 0, 15, 0, 1, 2, 0, 11]) ws (vs) := by
    refine ⟨nf_in hl rfl, sgq_1446 ?_⟩
    · show (w_fi ws (n_v vs 2) 15 + 1) ≤ w_fi ws (n_v vs 2) 11
      rw [q2]
      exact vc_Mo_next_51_0 (v_iv (n_v vs 4)) (v_iv (n_v vs 5)) (v_iv (n_v vs 7)) (v_iv (n_v vs 9)) (w_ei ws (w_ar ws (n_v vs 0) 1)) (w_fi ws (n_v vs 0) 10) (w_fi ws (n_v vs 0) 11) (w_fi ws (n_v vs 0) 15) k4 k5 k7 k9 f1 f2 g3 f4 f5 f6 f7 f9 hK_0_1 kz_0_10 kz_0_11 kz_0_15
  have nf1 : fc_1 PRD (20, [2, 1], [60, 4, 1, 953, 10, 11, 13, 15, 1]) ws (vs) := by
    refine ⟨nf_in hl rfl, sgq_1447 ?_⟩
    · show ZXM (w_fi ws (n_v vs 2) 10) (w_fi ws (n_v vs 2) 11) (w_fi ws (n_v vs 2) 13) (w_fi ws (n_v vs 2) 15) (w_ei ws (w_ar ws (n_v vs 2) 1)) (v_iv (n_v vs 1))
      rw [q2]
      exact vc_Mo_next_51_1 (v_iv (n_v vs 1)) (v_iv (n_v vs 4)) (v_iv (n_v vs 5)) (w_ei ws (w_ar ws (n_v vs 0) 1)) (w_fi ws (n_v vs 0) 10) (w_fi ws (n_v vs 0) 11) (w_fi ws (n_v vs 0) 15) (w_fi ws (n_v vs 0) 13) k1 k4 k5 g3 f6 f7 f9 f10 kz_0_10 kz_0_11 kz_0_13 kz_0_15
  refine ⟨(fun _ h => (by cases h)), [], trivial, ?_, (fun _ h => (by cases h))⟩
  rw [List.append_nil]
  exact List.forall_mem_cons.mpr ⟨⟨show (20 : Nat) < 100 from by decide, nf0⟩, List.forall_mem_cons.mpr ⟨⟨show (20 : Nat) < 100 from by decide, nf1⟩, (fun _ h => (by cases h))⟩⟩
set_option maxHeartbeats 4000000 in
theorem vc_Mo_next_52_0 (x1 : Int) (x4 : Int) (x5 : Int) (x7 : Int) (tape_0 : Int → Int) (limit_0 : Int) (pos_0 : Int) (from_0 : Int) (place_0 : Int) (k1 : 0 ≤ x1 ∧ x1 ≤ 2000) (k4 : 0 ≤ x4 ∧ x4 ≤ 1999) (k5 : 123 ≤ x5 ∧ x5 ≤ 255) (k7 : 0 ≤ x7 ∧ x7 ≤ 47) (g3 : x4 = pos_0) (f4 : ((x4 + 1) ≤ limit_0) → (x7 = (tape_0 (x4) % 256))) (f5 : (limit_0 ≤ x4) → (x7 = (-1))) (f6 : ((x4 + 1) ≤ limit_0) → (x5 = (tape_0 (x4) % 256))) (f7 : (limit_0 ≤ x4) → (x5 = (-1))) (f9 : (from_0 ≤ pos_0) ∧ (((from_0 + 1) ≤ pos_0) ∨ ((pos_0 = from_0) ∧ (((from_0 + 1) ≤ limit_0) ∧ (((65 ≤ (tape_0 (from_0) % 256)) ∧ ((tape_0 (from_0) % 256) ≤ 90)) ∨ ((97 ≤ (tape_0 (from_0) % 256)) ∧ ((tape_0 (from_0) % 256) ≤ 122))))))) (f10 : ZXL (limit_0) (pos_0) (place_0) (from_0) (tape_0) (x1)) (hK_0_1 : ∀ j : Int, 0 ≤ j → j < 2000 → (-128) ≤ tape_0 j ∧ tape_0 j ≤ 127) (kz_0_10 : 0 ≤ limit_0 ∧ limit_0 ≤ 2000) (kz_0_11 : 0 ≤ pos_0 ∧ pos_0 ≤ 2000) (kz_0_13 : 0 ≤ place_0 ∧ place_0 ≤ 2000) (kz_0_15 : 0 ≤ from_0 ∧ from_0 ≤ 2000) : ZXN (limit_0) (pos_0) (place_0) (from_0) (tape_0) (x1) := by
  first | subst g3 | skip
  exact zxn_mk (by assumption) ‹ZXL _ _ _ _ _ _› (by omega) (by omega)
def o_Mo_next_52 : or_T := (134, 11, [(0, (2, 0, 0, [165])), (1, (0, 0, 2000, [])), (2, (2, 0, 0, [165])), (4, (0, 0, 1999, [])), (5, (0, 123, 255, [])), (7, (0, 0, 47, [])), (9, (0, 95, 95, [])), (10, (0, 95, 95, []))], [(7, [9, 10], [0]), (20, [4, 2, 9], [50, 1, 1, 1010, 1001, 4, 11, 0, 6, 4, 2, 1, 0, 0, 1, 2, 1, 10, 1, 2, 1, 2, 9, 5, 3, 1, 1, 1, 0, 0, 256]), (20, [2, 4, 9], [50, 1, 0, 10, 4, 7, 0, 3, 2, 0, 10, 1, 1, 1, 2, 1, 2, 0, -1]), (9, [4, 2], [11]), (20, [4, 2, 7], [50, 1, 1, 1010, 1001, 4, 11, 0, 6, 4, 2, 1, 0, 0, 1, 2, 1, 10, 1, 2, 1, 2, 9, 5, 3, 1, 1, 1, 0, 0, 256]), (20, [2, 4, 7], [50, 1, 0, 10, 4, 7, 0, 3, 2, 0, 10, 1, 1, 1, 2, 1, 2, 0, -1]), (20, [4, 2, 5], [50, 1, 1, 1010, 1001, 4, 11, 0, 6, 4, 2, 1, 0, 0, 1, 2, 1, 10, 1, 2, 1, 2, 9, 5, 3, 1, 1, 1, 0, 0, 256]), (20, [2, 4, 5], [50, 1, 0, 10, 4, 7, 0, 3, 2, 0, 10, 1, 1, 1, 2, 1, 2, 0, -1]), (20, [1, 2], [30, 0, 1, 0, 0, -1, 1, 15]), (20, [2], [50, 3, 1, 15, 11, 10, 1, 2, 8, 0, 3, 2, 0, 15, 2, 0, 11, 3, 12, 0, 7, 4, 3, 2, 0, 15, 0, 1, 2, 0, 11, 2, 8, 1, 3, 2, 0, 11, 2, 0, 15, 2, 12, 0, 7, 4, 3, 2, 0, 15, 0, 1, 2, 0, 10, 3, 30, 2, 14, 0, 2, 0, 65, 9, 6, 3, 0, 1, 2, 0, 15, 0, 256, 0, 10, 9, 6, 3, 0, 1, 2, 0, 15, 0, 256, 0, 90, 2, 14, 0, 2, 0, 97, 9, 6, 3, 0, 1, 2, 0, 15, 0, 256, 0, 10, 9, 6, 3, 0, 1, 2, 0, 15, 0, 256, 0, 122]), (20, [2, 1], [60, 4, 1, 951, 10, 11, 13, 15, 1]), (24, [0, 2], [])], [], [], [(20, [2, 1], [60, 4, 1, 952, 10, 11, 13, 15, 1])], [], [])
theorem oo_Mo_next_52 {kA : Nat → ClassId} : or_ok PRD kA GG o_Mo_next_52 := by
  refine or_mk fun A ta ws vs hD hth hl => ?_
  intro t0 r0 t1 k1 t2 r2 t4 k4 t5 k5 t7 k7 t9 k9 t10 k10 f0 f1 f2 f3 f4 f5 f6 f7 f8 f9 f10 f11
  replace f3 := shm_116 f3
  replace f4 := shm_541 f4
  replace f5 := shm_542 f5
  replace f6 := shm_541 f6
  replace f7 := shm_542 f7
  replace f9 := shm_1444 f9
  replace f10 := shm_1445 f10
  replace f11 := shm_5 f11
  have q2 : n_v vs 2 = n_v vs 0 := f11.symm
  simp only [q2] at f3 f4 f5 f6 f7 f9 f10
  have cr_0_1 := fdq_39 hD hth r0
  have g3 : v_iv (n_v vs 4) = w_fi ws (n_v vs 0) 11 := congrArg v_iv f3
  have hK_0_1 := elq_7 hD hth cr_0_1
  have kz_0_10 := fdq_43 hD hth r0
  have kz_0_11 := fdq_237 hD hth r0
  have kz_0_13 := fdq_238 hD hth r0
  have kz_0_15 := fdq_239 hD hth r0
  have nf0 : fc_1 PRD (20, [2, 1], [60, 4, 1, 952, 10, 11, 13, 15, 1]) ws (vs) := by
    refine ⟨nf_in hl rfl, sgq_1448 ?_⟩
    · show ZXN (w_fi ws (n_v vs 2) 10) (w_fi ws (n_v vs 2) 11) (w_fi ws (n_v vs 2) 13) (w_fi ws (n_v vs 2) 15) (w_ei ws (w_ar ws (n_v vs 2) 1)) (v_iv (n_v vs 1))
      rw [q2]
      exact vc_Mo_next_52_0 (v_iv (n_v vs 1)) (v_iv (n_v vs 4)) (v_iv (n_v vs 5)) (v_iv (n_v vs 7)) (w_ei ws (w_ar ws (n_v vs 0) 1)) (w_fi ws (n_v vs 0) 10) (w_fi ws (n_v vs 0) 11) (w_fi ws (n_v vs 0) 15) (w_fi ws (n_v vs 0) 13) k1 k4 k5 k7 g3 f4 f5 f6 f7 f9 f10 hK_0_1 kz_0_10 kz_0_11 kz_0_13 kz_0_15
  refine ⟨(fun _ h => (by cases h)), [], trivial, ?_, (fun _ h => (by cases h))⟩
  rw [List.append_nil]
  exact List.forall_mem_cons.mpr ⟨⟨show (20 : Nat) < 100 from by decide, nf0⟩, (fun _ h => (by cases h))⟩
set_option maxHeartbeats 4000000 in
theorem vc_Mo_next_53_0 (x4 : Int) (x5 : Int) (x7 : Int) (x9 : Int) (tape_0 : Int → Int) (limit_0 : Int) (pos_0 : Int) (from_0 : Int) (k4 : 0 ≤ x4 ∧ x4 ≤ 1999) (k5 : 123 ≤ x5 ∧ x5 ≤ 255) (k7 : 58 ≤ x7 ∧ x7 ≤ 255) (k9 : (-1) ≤ x9 ∧ x9 ≤ (-1)) (f1 : ((x4 + 1) ≤ limit_0) → (x9 = (tape_0 (x4) % 256))) (f2 : (limit_0 ≤ x4) → (x9 = (-1))) (g3 : x4 = pos_0) (f4 : ((x4 + 1) ≤ limit_0) → (x7 = (tape_0 (x4) % 256))) (f5 : (limit_0 ≤ x4) → (x7 = (-1))) (f6 : ((x4 + 1) ≤ limit_0) → (x5 = (tape_0 (x4) % 256))) (f7 : (limit_0 ≤ x4) → (x5 = (-1))) (f9 : (from_0 ≤ pos_0) ∧ (((from_0 + 1) ≤ pos_0) ∨ ((pos_0 = from_0) ∧ (((from_0 + 1) ≤ limit_0) ∧ (((65 ≤ (tape_0 (from_0) % 256)) ∧ ((tape_0 (from_0) % 256) ≤ 90)) ∨ ((97 ≤ (tape_0 (from_0) % 256)) ∧ ((tape_0 (from_0) % 256) ≤ 122))))))) (hK_0_1 : ∀ j : Int, 0 ≤ j → j < 2000 → (-128) ≤ tape_0 j ∧ tape_0 j ≤ 127) (kz_0_10 : 0 ≤ limit_0 ∧ limit_0 ≤ 2000) (kz_0_11 : 0 ≤ pos_0 ∧ pos_0 ≤ 2000) (kz_0_15 : 0 ≤ from_0 ∧ from_0 ≤ 2000) : (from_0 + 1) ≤ pos_0 := by
  first | with_reducible assumption | ((have f9_c0 := f9.1); (have f9_c1 := f9.2); (try and_intros) <;> first | with_reducible assumption | (clear f9_c1 f9 hK_0_1 f1 f2 f4 f5 f6 f7; omega)) | ((have f9_c0 := f9.1); (have f9_c1 := f9.2); (first | have f1_b := f1 (by clear f9_c1 f9 hK_0_1 f1 f2 f4 f5 f6 f7; omega) | skip); (first | have f2_b := f2 (by clear f9_c1 f9 hK_0_1 f1 f2 f4 f5 f6 f7; omega) | skip); (first | have f4_b := f4 (by clear f9_c1 f9 hK_0_1 f1 f2 f4 f5 f6 f7; omega) | skip); (first | have f5_b := f5 (by clear f9_c1 f9 hK_0_1 f1 f2 f4 f5 f6 f7; omega) | skip); (first | have f6_b := f6 (by clear f9_c1 f9 hK_0_1 f1 f2 f4 f5 f6 f7; omega) | skip); (first | have f7_b := f7 (by clear f9_c1 f9 hK_0_1 f1 f2 f4 f5 f6 f7; omega) | skip); (first | have f1_d := f1 (by with_reducible assumption) | skip); (first | have f2_d := f2 (by with_reducible assumption) | skip); (first | have f4_d := f4 (by with_reducible assumption) | skip); (first | have f5_d := f5 (by with_reducible assumption) | skip); (first | have f6_d := f6 (by with_reducible assumption) | skip); (first | have f7_d := f7 (by with_reducible assumption) | skip); (try and_intros) <;> first | with_reducible assumption | (clear f9_c1 f9 hK_0_1 f1 f2 f4 f5 f6 f7; omega)) | omega
set_option maxHeartbeats 4000000 in
theorem vc_Mo_next_53_1 (x1 : Int) (x4 : Int) (x5 : Int) (tape_0 : Int → Int) (limit_0 : Int) (pos_0 : Int) (from_0 : Int) (place_0 : Int) (k1 : 0 ≤ x1 ∧ x1 ≤ 2000) (k4 : 0 ≤ x4 ∧ x4 ≤ 1999) (k5 : 123 ≤ x5 ∧ x5 ≤ 255) (g3 : x4 = pos_0) (f6 : ((x4 + 1) ≤ limit_0) → (x5 = (tape_0 (x4) % 256))) (f7 : (limit_0 ≤ x4) → (x5 = (-1))) (f9 : (from_0 ≤ pos_0) ∧ (((from_0 + 1) ≤ pos_0) ∨ ((pos_0 = from_0) ∧ (((from_0 + 1) ≤ limit_0) ∧ (((65 ≤ (tape_0 (from_0) % 256)) ∧ ((tape_0 (from_0) % 256) ≤ 90)) ∨ ((97 ≤ (tape_0 (from_0) % 256)) ∧ ((tape_0 (from_0) % 256) ≤ 122))))))) (f10 : ZXL (limit_0) (pos_0) (place_0) (from_0) (tape_0) (x1)) (kz_0_10 : 0 ≤ limit_0 ∧ limit_0 ≤ 2000) (kz_0_11 : 0 ≤ pos_0 ∧ pos_0 ≤ 2000) (kz_0_13 : 0 ≤ place_0 ∧ place_0 ≤ 2000) (kz_0_15 : 0 ≤ from_0 ∧ from_0 ≤ 2000) : ZXM (limit_0) (pos_0) (place_0) (from_0) (tape_0) (x1) := by
  first | subst g3 | skip
  exact zxm_mk ‹ZXL _ _ _ _ _ _› (fun q => by omega)
def o_Mo_next_53 : or_T := (147, 11, [(0, (2, 0, 0, [165])), (1, (0, 0, 2000, [])), (2, (2, 0, 0, [165])), (4, (0, 0, 1999, [])), (5, (0, 123, 255, [])), (7, (0, 58, 255, [])), (9, (0, -1, -1, [])), (10, (0, 95, 95, []))], [(7, [9, 10], [1]), (20, [4, 2, 9], [50, 1, 1, 1010, 1001, 4, 11, 0, 6, 4, 2, 1, 0, 0, 1, 2, 1, 10, 1, 2, 1, 2, 9, 5, 3, 1, 1, 1, 0, 0, 256]), (20, [2, 4, 9], [50, 1, 0, 10, 4, 7, 0, 3, 2, 0, 10, 1, 1, 1, 2, 1, 2, 0, -1]), (9, [4, 2], [11]), (20, [4, 2, 7], [50, 1, 1, 1010, 1001, 4, 11, 0, 6, 4, 2, 1, 0, 0, 1, 2, 1, 10, 1, 2, 1, 2, 9, 5, 3, 1, 1, 1, 0, 0, 256]), (20, [2, 4, 7], [50, 1, 0, 10, 4, 7, 0, 3, 2, 0, 10, 1, 1, 1, 2, 1, 2, 0, -1]), (20, [4, 2, 5], [50, 1, 1, 1010, 1001, 4, 11, 0, 6, 4, 2, 1, 0, 0, 1, 2, 1, 10, 1, 2, 1, 2, 9, 5, 3, 1, 1, 1, 0, 0, 256]), (20, [2, 4, 5], [50, 1, 0, 10, 4, 7, 0, 3, 2, 0, 10, 1, 1, 1, 2, 1, 2, 0, -1]), (20, [1, 2], [30, 0, 1, 0, 0, -1, 1, 15]), (20, [2], [50, 3, 1, 15, 11, 10, 1, 2, 8, 0, 3, 2, 0, 15, 2, 0, 11, 3, 12, 0, 7, 4, 3, 2, 0, 15, 0, 1, 2, 0, 11, 2, 8, 1, 3, 2, 0, 11, 2, 0, 15, 2, 12, 0, 7, 4, 3, 2, 0, 15, 0, 1, 2, 0, 10, 3, 30, 2, 14, 0, 2, 0, 65, 9, 6, 3, 0, 1, 2, 0, 15, 0, 256, 0, 10, 9, 6, 3, 0, 1, 2, 0, 15, 0, 256, 0, 90, 2, 14, 0, 2, 0, 97, 9, 6, 3, 0, 1, 2, 0, 15, 0, 256, 0, 10, 9, 6, 3, 0, 1, 2, 0, 15, 0, 256, 0, 122]), (20, [2, 1], [60, 4, 1, 951, 10, 11, 13, 15, 1]), (24, [0, 2], [])], [], [], [(20, [2], [50, 2, 0, 15, 11, 0, 7, 4, 3, 2, 0, 15, 0, 1, 2, 0, 11]), (20, [2, 1], [60, 4, 1, 953, 10, 11, 13, 15, 1])], [], [])
theorem oo_Mo_next_53 {kA : Nat → ClassId} : or_ok PRD kA GG o_Mo_next_53 := by
  refine or_mk fun A ta ws vs hD hth hl => ?_
  intro t0 r0 t1 k1 t2 r2 t4 k4 t5 k5 t7 k7 t9 k9 t10 k10 f0 f1 f2 f3 f4 f5 f6 f7 f8 f9 f10 f11
  replace f1 := shm_541 f1
  replace f2 := shm_542 f2
  replace f3 := shm_116 f3
  replace f4 := shm_541 f4
  replace f5 := shm_542 f5
  replace f6 := shm_541 f6
  replace f7 := shm_542 f7
  replace f9 := shm_1444 f9
  replace f10 := shm_1445 f10
  replace f11 := shm_5 f11
  have q2 : n_v vs 2 = n_v vs 0 := f11.symm
  simp only [q2] at f1 f2 f3 f4 f5 f6 f7 f9 f10
  have cr_0_1 := fdq_39 hD hth r0
  have g3 : v_iv (n_v vs 4) = w_fi ws (n_v vs 0) 11 := congrArg v_iv f3
  have hK_0_1 := elq_7 hD hth cr_0_1
  have kz_0_10 := fdq_43 hD hth r0
  have kz_0_11 := fdq_237 hD hth r0
  have kz_0_13 := fdq_238 hD hth r0
  have kz_0_15 := fdq_239 hD hth r0
  have nf0 : fc_1 PRD (20, [2], [50, 2, 0, 15, 11, 0, 7, 4, 3, 2, 0, 15, 0, 1, 2, 0, 11]) ws (vs) := by
    refine ⟨nf_in hl rfl, sgq_1446 ?_⟩
    · show (w_fi ws (n_v vs 2) 15 + 1) ≤ w_fi ws (n_v vs 2) 11
      rw [q2]
      exact vc_Mo_next_53_0 (v_iv (n_v vs 4)) (v_iv (n_v vs 5)) (v_iv (n_v vs 7)) (v_iv (n_v vs 9)) (w_ei ws (w_ar ws (n_v vs 0) 1)) (w_fi ws (n_v vs 0) 10) (w_fi ws (n_v vs 0) 11) (w_fi ws (n_v vs 0) 15) k4 k5 k7 k9 f1 f2 g3 f4 f5 f6 f7 f9 hK_0_1 kz_0_10 kz_0_11 kz_0_15
  have nf1 : fc_1 PRD (20, [2, 1], [60, 4, 1, 953, 10, 11, 13, 15, 1]) ws (vs) := by
    refine ⟨nf_in hl rfl, sgq_1447 ?_⟩
    · show ZXM (w_fi ws (n_v vs 2) 10) (w_fi ws (n_v vs 2) 11) (w_fi ws (n_v vs 2) 13) (w_fi ws (n_v vs 2) 15) (w_ei ws (w_ar ws (n_v vs 2) 1)) (v_iv (n_v vs 1))
      rw [q2]
      exact vc_Mo_next_53_1 (v_iv (n_v vs 1)) (v_iv (n_v vs 4)) (v_iv (n_v vs 5)) (w_ei ws (w_ar ws (n_v vs 0) 1)) (w_fi ws (n_v vs 0) 10) (w_fi ws (n_v vs 0) 11) (w_fi ws (n_v vs 0) 15) (w_fi ws (n_v vs 0) 13) k1 k4 k5 g3 f6 f7 f9 f10 kz_0_10 kz_0_11 kz_0_13 kz_0_15
  refine ⟨(fun _ h => (by cases h)), [], trivial, ?_, (fun _ h => (by cases h))⟩
  rw [List.append_nil]
  exact List.forall_mem_cons.mpr ⟨⟨show (20 : Nat) < 100 from by decide, nf0⟩, List.forall_mem_cons.mpr ⟨⟨show (20 : Nat) < 100 from by decide, nf1⟩, (fun _ h => (by cases h))⟩⟩
set_option maxHeartbeats 4000000 in
theorem vc_Mo_next_54_0 (x1 : Int) (x4 : Int) (x5 : Int) (x7 : Int) (x9 : Int) (x10 : Int) (tape_0 : Int → Int) (limit_0 : Int) (pos_0 : Int) (from_0 : Int) (place_0 : Int) (k1 : 0 ≤ x1 ∧ x1 ≤ 2000) (k4 : 0 ≤ x4 ∧ x4 ≤ 1999) (k5 : 123 ≤ x5 ∧ x5 ≤ 255) (k7 : 58 ≤ x7 ∧ x7 ≤ 255) (k9 : 0 ≤ x9 ∧ x9 ≤ 255) (k10 : 95 ≤ x10 ∧ x10 ≤ 95) (f0 : x9 ≠ x10) (f1 : ((x4 + 1) ≤ limit_0) → (x9 = (tape_0 (x4) % 256))) (f2 : (limit_0 ≤ x4) → (x9 = (-1))) (g3 : x4 = pos_0) (f4 : ((x4 + 1) ≤ limit_0) → (x7 = (tape_0 (x4) % 256))) (f5 : (limit_0 ≤ x4) → (x7 = (-1))) (f6 : ((x4 + 1) ≤ limit_0) → (x5 = (tape_0 (x4) % 256))) (f7 : (limit_0 ≤ x4) → (x5 = (-1))) (f8 : 1 * x1 + ((-1) * from_0 + 0) ≤ 0) (f9 : (from_0 ≤ pos_0) ∧ (((from_0 + 1) ≤ pos_0) ∨ ((pos_0 = from_0) ∧ (((from_0 + 1) ≤ limit_0) ∧ (((65 ≤ (tape_0 (from_0) % 256)) ∧ ((tape_0 (from_0) % 256) ≤ 90)) ∨ ((97 ≤ (tape_0 (from_0) % 256)) ∧ ((tape_0 (from_0) % 256) ≤ 122))))))) (f10 : ZXL (limit_0) (pos_0) (place_0) (from_0) (tape_0) (x1)) (hK_0_1 : ∀ j : Int, 0 ≤ j → j < 2000 → (-128) ≤ tape_0 j ∧ tape_0 j ≤ 127) (kz_0_10 : 0 ≤ limit_0 ∧ limit_0 ≤ 2000) (kz_0_11 : 0 ≤ pos_0 ∧ pos_0 ≤ 2000) (kz_0_13 : 0 ≤ place_0 ∧ place_0 ≤ 2000) (kz_0_15 : 0 ≤ from_0 ∧ from_0 ≤ 2000) : (from_0 + 1) ≤ pos_0 := by
  by_cases q : from_0 = x4
  · have e : tape_0 from_0 = tape_0 x4 := by rw [q]
    omega
  · omega
set_option maxHeartbeats 4000000 in
theorem vc_Mo_next_54_1 (x1 : Int) (x4 : Int) (x5 : Int) (tape_0 : Int → Int) (limit_0 : Int) (pos_0 : Int) (from_0 : Int) (place_0 : Int) (k1 : 0 ≤ x1 ∧ x1 ≤ 2000) (k4 : 0 ≤ x4 ∧ x4 ≤ 1999) (k5 : 123 ≤ x5 ∧ x5 ≤ 255) (g3 : x4 = pos_0) (f6 : ((x4 + 1) ≤ limit_0) → (x5 = (tape_0 (x4) % 256))) (f7 : (limit_0 ≤ x4) → (x5 = (-1))) (f9 : (from_0 ≤ pos_0) ∧ (((from_0 + 1) ≤ pos_0) ∨ ((pos_0 = from_0) ∧ (((from_0 + 1) ≤ limit_0) ∧ (((65 ≤ (tape_0 (from_0) % 256)) ∧ ((tape_0 (from_0) % 256) ≤ 90)) ∨ ((97 ≤ (tape_0 (from_0) % 256)) ∧ ((tape_0 (from_0) % 256) ≤ 122))))))) (f10 : ZXL (limit_0) (pos_0) (place_0) (from_0) (tape_0) (x1)) (kz_0_10 : 0 ≤ limit_0 ∧ limit_0 ≤ 2000) (kz_0_11 : 0 ≤ pos_0 ∧ pos_0 ≤ 2000) (kz_0_13 : 0 ≤ place_0 ∧ place_0 ≤ 2000) (kz_0_15 : 0 ≤ from_0 ∧ from_0 ≤ 2000) : ZXM (limit_0) (pos_0) (place_0) (from_0) (tape_0) (x1) := by
  first | subst g3 | skip
  exact zxm_mk ‹ZXL _ _ _ _ _ _› (fun q => by omega)
def o_Mo_next_54 : or_T := (147, 11, [(0, (2, 0, 0, [165])), (1, (0, 0, 2000, [])), (2, (2, 0, 0, [165])), (4, (0, 0, 1999, [])), (5, (0, 123, 255, [])), (7, (0, 58, 255, [])), (9, (0, 0, 255, [])), (10, (0, 95, 95, []))], [(7, [9, 10], [1]), (20, [4, 2, 9], [50, 1, 1, 1010, 1001, 4, 11, 0, 6, 4, 2, 1, 0, 0, 1, 2, 1, 10, 1, 2, 1, 2, 9, 5, 3, 1, 1, 1, 0, 0, 256]), (20, [2, 4, 9], [50, 1, 0, 10, 4, 7, 0, 3, 2, 0, 10, 1, 1, 1, 2, 1, 2, 0, -1]), (9, [4, 2], [11]), (20, [4, 2, 7], [50, 1, 1, 1010, 1001, 4, 11, 0, 6, 4, 2, 1, 0, 0, 1, 2, 1, 10, 1, 2, 1, 2, 9, 5, 3, 1, 1, 1, 0, 0, 256]), (20, [2, 4, 7], [50, 1, 0, 10, 4, 7, 0, 3, 2, 0, 10, 1, 1, 1, 2, 1, 2, 0, -1]), (20, [4, 2, 5], [50, 1, 1, 1010, 1001, 4, 11, 0, 6, 4, 2, 1, 0, 0, 1, 2, 1, 10, 1, 2, 1, 2, 9, 5, 3, 1, 1, 1, 0, 0, 256]), (20, [2, 4, 5], [50, 1, 0, 10, 4, 7, 0, 3, 2, 0, 10, 1, 1, 1, 2, 1, 2, 0, -1]), (20, [1, 2], [30, 0, 1, 0, 0, -1, 1, 15]), (20, [2], [50, 3, 1, 15, 11, 10, 1, 2, 8, 0, 3, 2, 0, 15, 2, 0, 11, 3, 12, 0, 7, 4, 3, 2, 0, 15, 0, 1, 2, 0, 11, 2, 8, 1, 3, 2, 0, 11, 2, 0, 15, 2, 12, 0, 7, 4, 3, 2, 0, 15, 0, 1, 2, 0, 10, 3, 30, 2, 14, 0, 2, 0, 65, 9, 6, 3, 0, 1, 2, 0, 15, 0, 256, 0, 10, 9, 6, 3, 0, 1, 2, 0, 15, 0, 256, 0, 90, 2, 14, 0, 2, 0, 97, 9, 6, 3, 0, 1, 2, 0, 15, 0, 256, 0, 10, 9, 6, 3, 0, 1, 2, 0, 15, 0, 256, 0, 122]), (20, [2, 1], [60, 4, 1, 951, 10, 11, 13, 15, 1]), (24, [0, 2], [])], [], [], [(20, [2], [50, 2, 0, 15, 11, 0, 7, 4, 3, 2, 0, 15, 0, 1, 2, 0, 11]), (20, [2, 1], [60, 4, 1, 953, 10, 11, 13, 15, 1])], [], [])
theorem oo_Mo_next_54 {kA : Nat → ClassId} : or_ok PRD kA GG o_Mo_next_54 := by
  refine or_mk fun A ta ws vs hD hth hl => ?_
  intro t0 r0 t1 k1 t2 r2 t4 k4 t5 k5 t7 k7 t9 k9 t10 k10 f0 f1 f2 f3 f4 f5 f6 f7 f8 f9 f10 f11
  replace f0 := shm_40 f0
  replace f1 := shm_541 f1
  replace f2 := shm_542 f2
  replace f3 := shm_116 f3
  replace f4 := shm_541 f4
  replace f5 := shm_542 f5
  replace f6 := shm_541 f6
  replace f7 := shm_542 f7
  replace f8 := shm_1436 f8
  replace f9 := shm_1444 f9
  replace f10 := shm_1445 f10
  replace f11 := shm_5 f11
  have q2 : n_v vs 2 = n_v vs 0 := f11.symm
  simp only [q2] at f1 f2 f3 f4 f5 f6 f7 f8 f9 f10
  have cr_0_1 := fdq_39 hD hth r0
  have g3 : v_iv (n_v vs 4) = w_fi ws (n_v vs 0) 11 := congrArg v_iv f3
  have hK_0_1 := elq_7 hD hth cr_0_1
  have kz_0_10 := fdq_43 hD hth r0
  have kz_0_11 := fdq_237 hD hth r0
  have kz_0_13 := fdq_238 hD hth r0
  have kz_0_15 := fdq_239 hD hth r0
  have nf0 : fc_1 PRD (20, [2], [50, 2, 0, 15, 11, 0, 7, 4, 3, 2, 0, 15, 0, 1, 2, 0, 11]) ws (vs) := by
    refine ⟨nf_in hl rfl, sgq_1446 ?_⟩
    · show (w_fi ws (n_v vs 2) 15 + 1) ≤ w_fi ws (n_v vs 2) 11
      rw [q2]
      exact vc_Mo_next_54_0 (v_iv (n_v vs 1)) (v_iv (n_v vs 4)) (v_iv (n_v vs 5)) (v_iv (n_v vs 7)) (v_iv (n_v vs 9)) (v_iv (n_v vs 10)) (w_ei ws (w_ar ws (n_v vs 0) 1)) (w_fi ws (n_v vs 0) 10) (w_fi ws (n_v vs 0) 11) (w_fi ws (n_v vs 0) 15) (w_fi ws (n_v vs 0) 13) k1 k4 k5 k7 k9 k10 f0 f1 f2 g3 f4 f5 f6 f7 f8 f9 f10 hK_0_1 kz_0_10 kz_0_11 kz_0_13 kz_0_15
  have nf1 : fc_1 PRD (20, [2, 1], [60, 4, 1, 953, 10, 11, 13, 15, 1]) ws (vs) := by
    refine ⟨nf_in hl rfl, sgq_1447 ?_⟩
    · show ZXM (w_fi ws (n_v vs 2) 10) (w_fi ws (n_v vs 2) 11) (w_fi ws (n_v vs 2) 13) (w_fi ws (n_v vs 2) 15) (w_ei ws (w_ar ws (n_v vs 2) 1)) (v_iv (n_v vs 1))
      rw [q2]
      exact vc_Mo_next_54_1 (v_iv (n_v vs 1)) (v_iv (n_v vs 4)) (v_iv (n_v vs 5)) (w_ei ws (w_ar ws (n_v vs 0) 1)) (w_fi ws (n_v vs 0) 10) (w_fi ws (n_v vs 0) 11) (w_fi ws (n_v vs 0) 15) (w_fi ws (n_v vs 0) 13) k1 k4 k5 g3 f6 f7 f9 f10 kz_0_10 kz_0_11 kz_0_13 kz_0_15
  refine ⟨(fun _ h => (by cases h)), [], trivial, ?_, (fun _ h => (by cases h))⟩
  rw [List.append_nil]
  exact List.forall_mem_cons.mpr ⟨⟨show (20 : Nat) < 100 from by decide, nf0⟩, List.forall_mem_cons.mpr ⟨⟨show (20 : Nat) < 100 from by decide, nf1⟩, (fun _ h => (by cases h))⟩⟩
set_option maxHeartbeats 4000000 in
theorem vc_Mo_next_55_0 (x1 : Int) (x4 : Int) (x5 : Int) (x7 : Int) (x9 : Int) (tape_0 : Int → Int) (limit_0 : Int) (pos_0 : Int) (from_0 : Int) (place_0 : Int) (k1 : 0 ≤ x1 ∧ x1 ≤ 2000) (k4 : 0 ≤ x4 ∧ x4 ≤ 1999) (k5 : 123 ≤ x5 ∧ x5 ≤ 255) (k7 : 58 ≤ x7 ∧ x7 ≤ 255) (k9 : 95 ≤ x9 ∧ x9 ≤ 95) (f1 : ((x4 + 1) ≤ limit_0) → (x9 = (tape_0 (x4) % 256))) (f2 : (limit_0 ≤ x4) → (x9 = (-1))) (g3 : x4 = pos_0) (f4 : ((x4 + 1) ≤ limit_0) → (x7 = (tape_0 (x4) % 256))) (f5 : (limit_0 ≤ x4) → (x7 = (-1))) (f6 : ((x4 + 1) ≤ limit_0) → (x5 = (tape_0 (x4) % 256))) (f7 : (limit_0 ≤ x4) → (x5 = (-1))) (f9 : (from_0 ≤ pos_0) ∧ (((from_0 + 1) ≤ pos_0) ∨ ((pos_0 = from_0) ∧ (((from_0 + 1) ≤ limit_0) ∧ (((65 ≤ (tape_0 (from_0) % 256)) ∧ ((tape_0 (from_0) % 256) ≤ 90)) ∨ ((97 ≤ (tape_0 (from_0) % 256)) ∧ ((tape_0 (from_0) % 256) ≤ 122))))))) (f10 : ZXL (limit_0) (pos_0) (place_0) (from_0) (tape_0) (x1)) (hK_0_1 : ∀ j : Int, 0 ≤ j → j < 2000 → (-128) ≤ tape_0 j ∧ tape_0 j ≤ 127) (kz_0_10 : 0 ≤ limit_0 ∧ limit_0 ≤ 2000) (kz_0_11 : 0 ≤ pos_0 ∧ pos_0 ≤ 2000) (kz_0_13 : 0 ≤ place_0 ∧ place_0 ≤ 2000) (kz_0_15 : 0 ≤ from_0 ∧ from_0 ≤ 2000) : ZXN (limit_0) (pos_0) (place_0) (from_0) (tape_0) (x1) := by
  first | subst g3 | skip
  exact zxn_mk (by assumption) ‹ZXL _ _ _ _ _ _› (by omega) (by omega)
def o_Mo_next_55 : or_T := (134, 11, [(0, (2, 0, 0, [165])), (1, (0, 0, 2000, [])), (2, (2, 0, 0, [165])), (4, (0, 0, 1999, [])), (5, (0, 123, 255, [])), (7, (0, 58, 255, [])), (9, (0, 95, 95, [])), (10, (0, 95, 95, []))], [(7, [9, 10], [0]), (20, [4, 2, 9], [50, 1, 1, 1010, 1001, 4, 11, 0, 6, 4, 2, 1, 0, 0, 1, 2, 1, 10, 1, 2, 1, 2, 9, 5, 3, 1, 1, 1, 0, 0, 256]), (20, [2, 4, 9], [50, 1, 0, 10, 4, 7, 0, 3, 2, 0, 10, 1, 1, 1, 2, 1, 2, 0, -1]), (9, [4, 2], [11]), (20, [4, 2, 7], [50, 1, 1, 1010, 1001, 4, 11, 0, 6, 4, 2, 1, 0, 0, 1, 2, 1, 10, 1, 2, 1, 2, 9, 5, 3, 1, 1, 1, 0, 0, 256]), (20, [2, 4, 7], [50, 1, 0, 10, 4, 7, 0, 3, 2, 0, 10, 1, 1, 1, 2, 1, 2, 0, -1]), (20, [4, 2, 5], [50, 1, 1, 1010, 1001, 4, 11, 0, 6, 4, 2, 1, 0, 0, 1, 2, 1, 10, 1, 2, 1, 2, 9, 5, 3, 1, 1, 1, 0, 0, 256]), (20, [2, 4, 5], [50, 1, 0, 10, 4, 7, 0, 3, 2, 0, 10, 1, 1, 1, 2, 1, 2, 0, -1]), (20, [1, 2], [30, 0, 1, 0, 0, -1, 1, 15]), (20, [2], [50, 3, 1, 15, 11, 10, 1, 2, 8, 0, 3, 2, 0, 15, 2, 0, 11, 3, 12, 0, 7, 4, 3, 2, 0, 15, 0, 1, 2, 0, 11, 2, 8, 1, 3, 2, 0, 11, 2, 0, 15, 2, 12, 0, 7, 4, 3, 2, 0, 15, 0, 1, 2, 0, 10, 3, 30, 2, 14, 0, 2, 0, 65, 9, 6, 3, 0, 1, 2, 0, 15, 0, 256, 0, 10, 9, 6, 3, 0, 1, 2, 0, 15, 0, 256, 0, 90, 2, 14, 0, 2, 0, 97, 9, 6, 3, 0, 1, 2, 0, 15, 0, 256, 0, 10, 9, 6, 3, 0, 1, 2, 0, 15, 0, 256, 0, 122]), (20, [2, 1], [60, 4, 1, 951, 10, 11, 13, 15, 1]), (24, [0, 2], [])], [], [], [(20, [2, 1], [60, 4, 1, 952, 10, 11, 13, 15, 1])], [], [])
theorem oo_Mo_next_55 {kA : Nat → ClassId} : or_ok PRD kA GG o_Mo_next_55 := by
  refine or_mk fun A ta ws vs hD hth hl => ?_
  intro t0 r0 t1 k1 t2 r2 t4 k4 t5 k5 t7 k7 t9 k9 t10 k10 f0 f1 f2 f3 f4 f5 f6 f7 f8 f9 f10 f11
  replace f1 := shm_541 f1
  replace f2 := shm_542 f2
  replace f3 := shm_116 f3
  replace f4 := shm_541 f4
  replace f5 := shm_542 f5
  replace f6 := shm_541 f6
  replace f7 := shm_542 f7
  replace f9 := shm_1444 f9
  replace f10 := shm_1445 f10
  replace f11 := shm_5 f11
  have q2 : n_v vs 2 = n_v vs 0 := f11.symm
  simp only [q2] at f1 f2 f3 f4 f5 f6 f7 f9 f10
  have cr_0_1 := fdq_39 hD hth r0
  have g3 : v_iv (n_v vs 4) = w_fi ws (n_v vs 0) 11 := congrArg v_iv f3
  have hK_0_1 := elq_7 hD hth cr_0_1
  have kz_0_10 := fdq_43 hD hth r0
  have kz_0_11 := fdq_237 hD hth r0
  have kz_0_13 := fdq_238 hD hth r0
  have kz_0_15 := fdq_239 hD hth r0
  have nf0 : fc_1 PRD (20, [2, 1], [60, 4, 1, 952, 10, 11, 13, 15, 1]) ws (vs) := by
    refine ⟨nf_in hl rfl, sgq_1448 ?_⟩
    · show ZXN (w_fi ws (n_v vs 2) 10) (w_fi ws (n_v vs 2) 11) (w_fi ws (n_v vs 2) 13) (w_fi ws (n_v vs 2) 15) (w_ei ws (w_ar ws (n_v vs 2) 1)) (v_iv (n_v vs 1))
      rw [q2]
      exact vc_Mo_next_55_0 (v_iv (n_v vs 1)) (v_iv (n_v vs 4)) (v_iv (n_v vs 5)) (v_iv (n_v vs 7)) (v_iv (n_v vs 9)) (w_ei ws (w_ar ws (n_v vs 0) 1)) (w_fi ws (n_v vs 0) 10) (w_fi ws (n_v vs 0) 11) (w_fi ws (n_v vs 0) 15) (w_fi ws (n_v vs 0) 13) k1 k4 k5 k7 k9 f1 f2 g3 f4 f5 f6 f7 f9 f10 hK_0_1 kz_0_10 kz_0_11 kz_0_13 kz_0_15
  refine ⟨(fun _ h => (by cases h)), [], trivial, ?_, (fun _ h => (by cases h))⟩
  rw [List.append_nil]
  exact List.forall_mem_cons.mpr ⟨⟨show (20 : Nat) < 100 from by decide, nf0⟩, (fun _ h => (by cases h))⟩
set_option maxHeartbeats 4000000 in
theorem vc_Mo_next_56_0 (x1 : Int) (x4 : Int) (x5 : Int) (x7 : Int) (tape_0 : Int → Int) (limit_0 : Int) (pos_0 : Int) (from_0 : Int) (place_0 : Int) (k1 : 0 ≤ x1 ∧ x1 ≤ 2000) (k4 : 0 ≤ x4 ∧ x4 ≤ 1999) (k5 : 123 ≤ x5 ∧ x5 ≤ 255) (k7 : 48 ≤ x7 ∧ x7 ≤ 57) (f0 : ((x4 + 1) ≤ limit_0) → (x7 = (tape_0 (x4) % 256))) (f1 : (limit_0 ≤ x4) → (x7 = (-1))) (g2 : x4 = pos_0) (f3 : ((x4 + 1) ≤ limit_0) → (x5 = (tape_0 (x4) % 256))) (f4 : (limit_0 ≤ x4) → (x5 = (-1))) (f6 : (from_0 ≤ pos_0) ∧ (((from_0 + 1) ≤ pos_0) ∨ ((pos_0 = from_0) ∧ (((from_0 + 1) ≤ limit_0) ∧ (((65 ≤ (tape_0 (from_0) % 256)) ∧ ((tape_0 (from_0) % 256) ≤ 90)) ∨ ((97 ≤ (tape_0 (from_0) % 256)) ∧ ((tape_0 (from_0) % 256) ≤ 122))))))) (f7 : ZXL (limit_0) (pos_0) (place_0) (from_0) (tape_0) (x1)) (hK_0_1 : ∀ j : Int, 0 ≤ j → j < 2000 → (-128) ≤ tape_0 j ∧ tape_0 j ≤ 127) (kz_0_10 : 0 ≤ limit_0 ∧ limit_0 ≤ 2000) (kz_0_11 : 0 ≤ pos_0 ∧ pos_0 ≤ 2000) (kz_0_13 : 0 ≤ place_0 ∧ place_0 ≤ 2000) (kz_0_15 : 0 ≤ from_0 ∧ from_0 ≤ 2000) : ZXN (limit_0) (pos_0) (place_0) (from_0) (tape_0) (x1) := by
  first | subst g2 | skip
  exact zxn_mk (by assumption) ‹ZXL _ _ _ _ _ _› (by omega) (by omega)
def o_Mo_next_56 : or_T := (134, 9, [(0, (2, 0, 0, [165])), (1, (0, 0, 2000, [])), (2, (2, 0, 0, [165])), (4, (0, 0, 1999, [])), (5, (0, 123, 255, [])), (7, (0, 48, 57, []))], [(20, [4, 2, 7], [50, 1, 1, 1010, 1001, 4, 11, 0, 6, 4, 2, 1, 0, 0, 1, 2, 1, 10, 1, 2, 1, 2, 9, 5, 3, 1, 1, 1, 0, 0, 256]), (20, [2, 4, 7], [50, 1, 0, 10, 4, 7, 0, 3, 2, 0, 10, 1, 1, 1, 2, 1, 2, 0, -1]), (9, [4, 2], [11]), (20, [4, 2, 5], [50, 1, 1, 1010, 1001, 4, 11, 0, 6, 4, 2, 1, 0, 0, 1, 2, 1, 10, 1, 2, 1, 2, 9, 5, 3, 1, 1, 1, 0, 0, 256]), (20, [2, 4, 5], [50, 1, 0, 10, 4, 7, 0, 3, 2, 0, 10, 1, 1, 1, 2, 1, 2, 0, -1]), (20, [1, 2], [30, 0, 1, 0, 0, -1, 1, 15]), (20, [2], [50, 3, 1, 15, 11, 10, 1, 2, 8, 0, 3, 2, 0, 15, 2, 0, 11, 3, 12, 0, 7, 4, 3, 2, 0, 15, 0, 1, 2, 0, 11, 2, 8, 1, 3, 2, 0, 11, 2, 0, 15, 2, 12, 0, 7, 4, 3, 2, 0, 15, 0, 1, 2, 0, 10, 3, 30, 2, 14, 0, 2, 0, 65, 9, 6, 3, 0, 1, 2, 0, 15, 0, 256, 0, 10, 9, 6, 3, 0, 1, 2, 0, 15, 0, 256, 0, 90, 2, 14, 0, 2, 0, 97, 9, 6, 3, 0, 1, 2, 0, 15, 0, 256, 0, 10, 9, 6, 3, 0, 1, 2, 0, 15, 0, 256, 0, 122]), (20, [2, 1], [60, 4, 1, 951, 10, 11, 13, 15, 1]), (24, [0, 2], [])], [], [], [(20, [2, 1], [60, 4, 1, 952, 10, 11, 13, 15, 1])], [], [])
theorem oo_Mo_next_56 {kA : Nat → ClassId} : or_ok PRD kA GG o_Mo_next_56 := by
  refine or_mk fun A ta ws vs hD hth hl => ?_
  intro t0 r0 t1 k1 t2 r2 t4 k4 t5 k5 t7 k7 f0 f1 f2 f3 f4 f5 f6 f7 f8
  replace f0 := shm_541 f0
  replace f1 := shm_542 f1
  replace f2 := shm_116 f2
  replace f3 := shm_541 f3
  replace f4 := shm_542 f4
  replace f6 := shm_1444 f6
  replace f7 := shm_1445 f7
  replace f8 := shm_5 f8
  have q2 : n_v vs 2 = n_v vs 0 := f8.symm
  simp only [q2] at f0 f1 f2 f3 f4 f6 f7
  have cr_0_1 := fdq_39 hD hth r0
  have g2 : v_iv (n_v vs 4) = w_fi ws (n_v vs 0) 11 := congrArg v_iv f2
  have hK_0_1 := elq_7 hD hth cr_0_1
  have kz_0_10 := fdq_43 hD hth r0
  have kz_0_11 := fdq_237 hD hth r0
  have kz_0_13 := fdq_238 hD hth r0
  have kz_0_15 := fdq_239 hD hth r0
  have nf0 : fc_1 PRD (20, [2, 1], [60, 4, 1, 952, 10, 11, 13, 15, 1]) ws (vs) := by
    refine ⟨nf_in hl rfl, sgq_1448 ?_⟩
    · show ZXN (w_fi ws (n_v vs 2) 10) (w_fi ws (n_v vs 2) 11) (w_fi ws (n_v vs 2) 13) (w_fi ws (n_v vs 2) 15) (w_ei ws (w_ar ws (n_v vs 2) 1)) (v_iv (n_v vs 1))
      rw [q2]
      exact vc_Mo_next_56_0 (v_iv (n_v vs 1)) (v_iv (n_v vs 4)) (v_iv (n_v vs 5)) (v_iv (n_v vs 7)) (w_ei ws (w_ar ws (n_v vs 0) 1)) (w_fi ws (n_v vs 0) 10) (w_fi ws (n_v vs 0) 11) (w_fi ws (n_v vs 0) 15) (w_fi ws (n_v vs 0) 13) k1 k4 k5 k7 f0 f1 g2 f3 f4 f6 f7 hK_0_1 kz_0_10 kz_0_11 kz_0_13 kz_0_15
  refine ⟨(fun _ h => (by cases h)), [], trivial, ?_, (fun _ h => (by cases h))⟩
  rw [List.append_nil]
  exact List.forall_mem_cons.mpr ⟨⟨show (20 : Nat) < 100 from by decide, nf0⟩, (fun _ h => (by cases h))⟩
set_option maxHeartbeats 4000000 in
theorem vc_Mo_next_57_0 (x1 : Int) (x4 : Int) (x5 : Int) (tape_0 : Int → Int) (limit_0 : Int) (pos_0 : Int) (from_0 : Int) (place_0 : Int) (k1 : 0 ≤ x1 ∧ x1 ≤ 2000) (k4 : 0 ≤ x4 ∧ x4 ≤ 1999) (k5 : 97 ≤ x5 ∧ x5 ≤ 122) (f0 : ((x4 + 1) ≤ limit_0) → (x5 = (tape_0 (x4) % 256))) (f1 : (limit_0 ≤ x4) → (x5 = (-1))) (g2 : x4 = pos_0) (f4 : (from_0 ≤ pos_0) ∧ (((from_0 + 1) ≤ pos_0) ∨ ((pos_0 = from_0) ∧ (((from_0 + 1) ≤ limit_0) ∧ (((65 ≤ (tape_0 (from_0) % 256)) ∧ ((tape_0 (from_0) % 256) ≤ 90)) ∨ ((97 ≤ (tape_0 (from_0) % 256)) ∧ ((tape_0 (from_0) % 256) ≤ 122))))))) (f5 : ZXL (limit_0) (pos_0) (place_0) (from_0) (tape_0) (x1)) (hK_0_1 : ∀ j : Int, 0 ≤ j → j < 2000 → (-128) ≤ tape_0 j ∧ tape_0 j ≤ 127) (kz_0_10 : 0 ≤ limit_0 ∧ limit_0 ≤ 2000) (kz_0_11 : 0 ≤ pos_0 ∧ pos_0 ≤ 2000) (kz_0_13 : 0 ≤ place_0 ∧ place_0 ≤ 2000) (kz_0_15 : 0 ≤ from_0 ∧ from_0 ≤ 2000) : ZXN (limit_0) (pos_0) (place_0) (from_0) (tape_0) (x1) := by
  first | subst g2 | skip
  exact zxn_mk (by assumption) ‹ZXL _ _ _ _ _ _› (by omega) (by omega)
def o_Mo_next_57 : or_T := (134, 7, [(0, (2, 0, 0, [165])), (1, (0, 0, 2000, [])), (2, (2, 0, 0, [165])), (4, (0, 0, 1999, [])), (5, (0, 97, 122, []))], [(20, [4, 2, 5], [50, 1, 1, 1010, 1001, 4, 11, 0, 6, 4, 2, 1, 0, 0, 1, 2, 1, 10, 1, 2, 1, 2, 9, 5, 3, 1, 1, 1, 0, 0, 256]), (20, [2, 4, 5], [50, 1, 0, 10, 4, 7, 0, 3, 2, 0, 10, 1, 1, 1, 2, 1, 2, 0, -1]), (9, [4, 2], [11]), (20, [1, 2], [30, 0, 1, 0, 0, -1, 1, 15]), (20, [2], [50, 3, 1, 15, 11, 10, 1, 2, 8, 0, 3, 2, 0, 15, 2, 0, 11, 3, 12, 0, 7, 4, 3, 2, 0, 15, 0, 1, 2, 0, 11, 2, 8, 1, 3, 2, 0, 11, 2, 0, 15, 2, 12, 0, 7, 4, 3, 2, 0, 15, 0, 1, 2, 0, 10, 3, 30, 2, 14, 0, 2, 0, 65, 9, 6, 3, 0, 1, 2, 0, 15, 0, 256, 0, 10, 9, 6, 3, 0, 1, 2, 0, 15, 0, 256, 0, 90, 2, 14, 0, 2, 0, 97, 9, 6, 3, 0, 1, 2, 0, 15, 0, 256, 0, 10, 9, 6, 3, 0, 1, 2, 0, 15, 0, 256, 0, 122]), (20, [2, 1], [60, 4, 1, 951, 10, 11, 13, 15, 1]), (24, [0, 2], [])], [], [], [(20, [2, 1], [60, 4, 1, 952, 10, 11, 13, 15, 1])], [], [])
theorem oo_Mo_next_57 {kA : Nat → ClassId} : or_ok PRD kA GG o_Mo_next_57 := by
  refine or_mk fun A ta ws vs hD hth hl => ?_
  intro t0 r0 t1 k1 t2 r2 t4 k4 t5 k5 f0 f1 f2 f3 f4 f5 f6
  replace f0 := shm_541 f0
  replace f1 := shm_542 f1
  replace f2 := shm_116 f2
  replace f4 := shm_1444 f4
  replace f5 := shm_1445 f5
  replace f6 := shm_5 f6
  have q2 : n_v vs 2 = n_v vs 0 := f6.symm
  simp only [q2] at f0 f1 f2 f4 f5
  have cr_0_1 := fdq_39 hD hth r0
  have g2 : v_iv (n_v vs 4) = w_fi ws (n_v vs 0) 11 := congrArg v_iv f2
  have hK_0_1 := elq_7 hD hth cr_0_1
  have kz_0_10 := fdq_43 hD hth r0
  have kz_0_11 := fdq_237 hD hth r0
  have kz_0_13 := fdq_238 hD hth r0
  have kz_0_15 := fdq_239 hD hth r0
  have nf0 : fc_1 PRD (20, [2, 1], [60, 4, 1, 952, 10, 11, 13, 15, 1]) ws (vs) := by
    refine ⟨nf_in hl rfl, sgq_1448 ?_⟩
    · show ZXN (w_fi ws (n_v vs 2) 10) (w_fi ws (n_v vs 2) 11) (w_fi ws (n_v vs 2) 13) (w_fi ws (n_v vs 2) 15) (w_ei ws (w_ar ws (n_v vs 2) 1)) (v_iv (n_v vs 1))
      rw [q2]
      exact vc_Mo_next_57_0 (v_iv (n_v vs 1)) (v_iv (n_v vs 4)) (v_iv (n_v vs 5)) (w_ei ws (w_ar ws (n_v vs 0) 1)) (w_fi ws (n_v vs 0) 10) (w_fi ws (n_v vs 0) 11) (w_fi ws (n_v vs 0) 15) (w_fi ws (n_v vs 0) 13) k1 k4 k5 f0 f1 g2 f4 f5 hK_0_1 kz_0_10 kz_0_11 kz_0_13 kz_0_15
  refine ⟨(fun _ h => (by cases h)), [], trivial, ?_, (fun _ h => (by cases h))⟩
  rw [List.append_nil]
  exact List.forall_mem_cons.mpr ⟨⟨show (20 : Nat) < 100 from by decide, nf0⟩, (fun _ h => (by cases h))⟩
set_option maxHeartbeats 4000000 in
theorem vc_Mo_next_58_0 (x4 : Int) (x6 : Int) (pos_0 : Int) (from_0 : Int) (pos_1 : Int) (from_1 : Int) (tape_1 : Int → Int) (limit_1 : Int) (place_1 : Int) (limit_0 : Int) (place_0 : Int) (tape_0 : Int → Int) (k4 : 0 ≤ x4 ∧ x4 ≤ 1999) (k6 : 1 ≤ x6 ∧ x6 ≤ 2000) (d0 : x4 + 1 ≤ x6 ∧ x6 ≤ x4 + 1) (g0 : x6 = pos_0) (g5 : x4 = pos_1) (f7 : (from_1 ≤ pos_1) ∧ (((from_1 + 1) ≤ pos_1) ∨ ((pos_1 = from_1) ∧ (((from_1 + 1) ≤ limit_1) ∧ (((65 ≤ (tape_1 (from_1) % 256)) ∧ ((tape_1 (from_1) % 256) ≤ 90)) ∨ ((97 ≤ (tape_1 (from_1) % 256)) ∧ ((tape_1 (from_1) % 256) ≤ 122))))))) (fe_0_10_1 : limit_0 = limit_1) (fe_0_13_1 : place_0 = place_1) (fe_0_15_1 : from_0 = from_1) (hE_0_1_1 : ∀ j : Int, tape_0 j = tape_1 j) (hK_0_1 : ∀ j : Int, 0 ≤ j → j < 2000 → (-128) ≤ tape_0 j ∧ tape_0 j ≤ 127) (kz_0_10 : 0 ≤ limit_0 ∧ limit_0 ≤ 2000) (kz_0_11 : 0 ≤ pos_0 ∧ pos_0 ≤ 2000) (kz_0_13 : 0 ≤ place_0 ∧ place_0 ≤ 2000) (kz_0_15 : 0 ≤ from_0 ∧ from_0 ≤ 2000) : (from_0 ≤ pos_0) ∧ (((from_0 + 1) ≤ pos_0) ∨ ((pos_0 = from_0) ∧ (((from_0 + 1) ≤ limit_0) ∧ (((65 ≤ (tape_0 (from_0) % 256)) ∧ ((tape_0 (from_0) % 256) ≤ 90)) ∨ ((97 ≤ (tape_0 (from_0) % 256)) ∧ ((tape_0 (from_0) % 256) ≤ 122)))))) := by
  subst fe_0_10_1
  subst fe_0_13_1
  subst fe_0_15_1
  have e_hE_0_1_1 := funext hE_0_1_1; subst e_hE_0_1_1
  first | with_reducible assumption | ((have f7_c0 := f7.1); (have f7_c1 := f7.2); (try and_intros) <;> first | with_reducible assumption | (clear f7_c1 f7 hE_0_1_1 hK_0_1; omega)) | omega
set_option maxHeartbeats 4000000 in
theorem vc_Mo_next_58_1 (x1 : Int) (x4 : Int) (x6 : Int) (pos_0 : Int) (from_0 : Int) (pos_1 : Int) (from_1 : Int) (tape_1 : Int → Int) (limit_1 : Int) (place_1 : Int) (limit_0 : Int) (place_0 : Int) (tape_0 : Int → Int) (k1 : 0 ≤ x1 ∧ x1 ≤ 2000) (k4 : 0 ≤ x4 ∧ x4 ≤ 1999) (k6 : 1 ≤ x6 ∧ x6 ≤ 2000) (d0 : x4 + 1 ≤ x6 ∧ x6 ≤ x4 + 1) (g0 : x6 = pos_0) (g5 : x4 = pos_1) (f8 : ZXN (limit_1) (pos_1) (place_1) (from_1) (tape_1) (x1)) (fe_0_10_1 : limit_0 = limit_1) (fe_0_13_1 : place_0 = place_1) (fe_0_15_1 : from_0 = from_1) (hE_0_1_1 : ∀ j : Int, tape_0 j = tape_1 j) (kz_0_10 : 0 ≤ limit_0 ∧ limit_0 ≤ 2000) (kz_0_11 : 0 ≤ pos_0 ∧ pos_0 ≤ 2000) (kz_0_13 : 0 ≤ place_0 ∧ place_0 ≤ 2000) (kz_0_15 : 0 ≤ from_0 ∧ from_0 ≤ 2000) : ZXL (limit_0) (pos_0) (place_0) (from_0) (tape_0) (x1) := by
  subst fe_0_10_1
  subst fe_0_13_1
  subst fe_0_15_1
  have e_hE_0_1_1 := funext hE_0_1_1; subst e_hE_0_1_1
  first | subst g0 | skip
  first | subst g5 | skip
  first
    | exact zxl_start (by assumption) ‹ZX1 _ _ _ _› (by omega) (by omega) (by omega) (by omega)
    | exact zxl_step ‹ZXN _ _ _ _ _ _› (by omega)
def o_Mo_next_58 : or_T := (93, 7, [(0, (2, 0, 0, [165])), (1, (0, 0, 2000, [])), (2, (2, 0, 0, [165])), (4, (0, 0, 1999, [])), (5, (0, 1, 1, [])), (6, (0, 1, 2000, []))], [(9, [6, 2], [11]), (20, [1, 2], [30, 0, 1, 0, 0, -1, 1, 15]), (24, [0, 2], []), (101, [2, 6], [11]), (1, [6, 4, 5], []), (9, [4, 2], [11]), (20, [1, 2], [30, 0, 1, 0, 0, -1, 1, 15]), (20, [2], [50, 3, 1, 15, 11, 10, 1, 2, 8, 0, 3, 2, 0, 15, 2, 0, 11, 3, 12, 0, 7, 4, 3, 2, 0, 15, 0, 1, 2, 0, 11, 2, 8, 1, 3, 2, 0, 11, 2, 0, 15, 2, 12, 0, 7, 4, 3, 2, 0, 15, 0, 1, 2, 0, 10, 3, 30, 2, 14, 0, 2, 0, 65, 9, 6, 3, 0, 1, 2, 0, 15, 0, 256, 0, 10, 9, 6, 3, 0, 1, 2, 0, 15, 0, 256, 0, 90, 2, 14, 0, 2, 0, 97, 9, 6, 3, 0, 1, 2, 0, 15, 0, 256, 0, 10, 9, 6, 3, 0, 1, 2, 0, 15, 0, 256, 0, 122]), (20, [2, 1], [60, 4, 1, 952, 10, 11, 13, 15, 1])], [], [], [(20, [2], [50, 3, 1, 15, 11, 10, 1, 2, 8, 0, 3, 2, 0, 15, 2, 0, 11, 3, 12, 0, 7, 4, 3, 2, 0, 15, 0, 1, 2, 0, 11, 2, 8, 1, 3, 2, 0, 11, 2, 0, 15, 2, 12, 0, 7, 4, 3, 2, 0, 15, 0, 1, 2, 0, 10, 3, 30, 2, 14, 0, 2, 0, 65, 9, 6, 3, 0, 1, 2, 0, 15, 0, 256, 0, 10, 9, 6, 3, 0, 1, 2, 0, 15, 0, 256, 0, 90, 2, 14, 0, 2, 0, 97, 9, 6, 3, 0, 1, 2, 0, 15, 0, 256, 0, 10, 9, 6, 3, 0, 1, 2, 0, 15, 0, 256, 0, 122]), (20, [2, 1], [60, 4, 1, 951, 10, 11, 13, 15, 1])], [], [(6, 4, 1, 1)])
theorem oo_Mo_next_58 {kA : Nat → ClassId} : or_ok PRD kA GG o_Mo_next_58 := by
  refine or_mk fun A ta ws vs hD hth hl => ?_
  intro t0 r0 t1 k1 t2 r2 t4 k4 t5 k5 t6 k6 d0 f0 f1 f2 ta1 w1 le1 s1 f4 f5 f6 f7 f8
  replace f0 := shm_116 f0
  replace f2 := shm_5 f2
  have s1 : (∀ b j, w_el ws b j = w_el w1 b j) ∧ ∀ b j, w_fd ws b j = if b = v_ad (n_v vs 2) ∧ j = 11 then n_v vs 6 else w_fd w1 b j := s1.2
  replace f5 := shm_116 f5
  replace f7 := shm_1444 f7
  replace f8 := shm_1448 f8
  have q2 : n_v vs 2 = n_v vs 0 := f2.symm
  simp only [q2] at f0
  rw [q2] at s1
  simp only [q2] at f5 f7 f8
  have ar_0_1_1 : w_ar w1 (n_v vs 0) 1 = w_ar ws (n_v vs 0) 1 := by show v_ad (w_fd w1 _ _) = v_ad (w_fd ws _ _); rw [s1.2, if_neg (fun e => absurd e.2 (by decide))]
  have cr_0_1 := fdq_39 hD hth r0
  have g0 : v_iv (n_v vs 6) = w_fi ws (n_v vs 0) 11 := congrArg v_iv f0
  have g5 : v_iv (n_v vs 4) = w_fi w1 (n_v vs 0) 11 := congrArg v_iv f5
  simp only [ar_0_1_1] at f7 f8
  have fe_0_10_1 : w_fi ws (n_v vs 0) 10 = w_fi w1 (n_v vs 0) 10 := by show v_iv (w_fd _ _ _) = v_iv (w_fd _ _ _); rw [s1.2, if_neg (fun e => absurd e.2 (by decide))]
  have fe_0_13_1 : w_fi ws (n_v vs 0) 13 = w_fi w1 (n_v vs 0) 13 := by show v_iv (w_fd _ _ _) = v_iv (w_fd _ _ _); rw [s1.2, if_neg (fun e => absurd e.2 (by decide))]
  have fe_0_15_1 : w_fi ws (n_v vs 0) 15 = w_fi w1 (n_v vs 0) 15 := by show v_iv (w_fd _ _ _) = v_iv (w_fd _ _ _); rw [s1.2, if_neg (fun e => absurd e.2 (by decide))]
  have hE_0_1_1 : ∀ j : Int, w_ei ws (w_ar ws (n_v vs 0) 1) j = w_ei w1 (w_ar ws (n_v vs 0) 1) j := fun j => s1.1 _ _
  have hK_0_1 := elq_7 hD hth cr_0_1
  have kz_0_10 := fdq_43 hD hth r0
  have kz_0_11 := fdq_237 hD hth r0
  have kz_0_13 := fdq_238 hD hth r0
  have kz_0_15 := fdq_239 hD hth r0
  have nf0 : fc_1 PRD (20, [2], [50, 3, 1, 15, 11, 10, 1, 2, 8, 0, 3, 2, 0, 15, 2, 0, 11, 3, 12, 0, 7, 4, 3, 2, 0, 15, 0, 1, 2, 0, 11, 2, 8, 1, 3, 2, 0, 11, 2, 0, 15, 2, 12, 0, 7, 4, 3, 2, 0, 15, 0, 1, 2, 0, 10, 3, 30, 2, 14, 0, 2, 0, 65, 9, 6, 3, 0, 1, 2, 0, 15, 0, 256, 0, 10, 9, 6, 3, 0, 1, 2, 0, 15, 0, 256, 0, 90, 2, 14, 0, 2, 0, 97, 9, 6, 3, 0, 1, 2, 0, 15, 0, 256, 0, 10, 9, 6, 3, 0, 1, 2, 0, 15, 0, 256, 0, 122]) ws (vs) := by
    refine ⟨nf_in hl rfl, sgq_1444 ?_⟩
    · show (w_fi ws (n_v vs 2) 15 ≤ w_fi ws (n_v vs 2) 11) ∧ (((w_fi ws (n_v vs 2) 15 + 1) ≤ w_fi ws (n_v vs 2) 11) ∨ ((w_fi ws (n_v vs 2) 11 = w_fi ws (n_v vs 2) 15) ∧ (((w_fi ws (n_v vs 2) 15 + 1) ≤ w_fi ws (n_v vs 2) 10) ∧ (((65 ≤ (w_ei ws (w_ar ws (n_v vs 2) 1) (w_fi ws (n_v vs 2) 15) % 256)) ∧ ((w_ei ws (w_ar ws (n_v vs 2) 1) (w_fi ws (n_v vs 2) 15) % 256) ≤ 90)) ∨ ((97 ≤ (w_ei ws (w_ar ws (n_v vs 2) 1) (w_fi ws (n_v vs 2) 15) % 256)) ∧ ((w_ei ws (w_ar ws (n_v vs 2) 1) (w_fi ws (n_v vs 2) 15) % 256) ≤ 122))))))
      rw [q2]
      exact vc_Mo_next_58_0 (v_iv (n_v vs 4)) (v_iv (n_v vs 6)) (w_fi ws (n_v vs 0) 11) (w_fi ws (n_v vs 0) 15) (w_fi w1 (n_v vs 0) 11) (w_fi w1 (n_v vs 0) 15) (w_ei w1 (w_ar ws (n_v vs 0) 1)) (w_fi w1 (n_v vs 0) 10) (w_fi w1 (n_v vs 0) 13) (w_fi ws (n_v vs 0) 10) (w_fi ws (n_v vs 0) 13) (w_ei ws (w_ar ws (n_v vs 0) 1)) k4 k6 d0 g0 g5 f7 fe_0_10_1 fe_0_13_1 fe_0_15_1 hE_0_1_1 hK_0_1 kz_0_10 kz_0_11 kz_0_13 kz_0_15
  have nf1 : fc_1 PRD (20, [2, 1], [60, 4, 1, 951, 10, 11, 13, 15, 1]) ws (vs) := by
    refine ⟨nf_in hl rfl, sgq_1445 ?_⟩
    · show ZXL (w_fi ws (n_v vs 2) 10) (w_fi ws (n_v vs 2) 11) (w_fi ws (n_v vs 2) 13) (w_fi ws (n_v vs 2) 15) (w_ei ws (w_ar ws (n_v vs 2) 1)) (v_iv (n_v vs 1))
      rw [q2]
      exact vc_Mo_next_58_1 (v_iv (n_v vs 1)) (v_iv (n_v vs 4)) (v_iv (n_v vs 6)) (w_fi ws (n_v vs 0) 11) (w_fi ws (n_v vs 0) 15) (w_fi w1 (n_v vs 0) 11) (w_fi w1 (n_v vs 0) 15) (w_ei w1 (w_ar ws (n_v vs 0) 1)) (w_fi w1 (n_v vs 0) 10) (w_fi w1 (n_v vs 0) 13) (w_fi ws (n_v vs 0) 10) (w_fi ws (n_v vs 0) 13) (w_ei ws (w_ar ws (n_v vs 0) 1)) k1 k4 k6 d0 g0 g5 f8 fe_0_10_1 fe_0_13_1 fe_0_15_1 hE_0_1_1 kz_0_10 kz_0_11 kz_0_13 kz_0_15
  refine ⟨(fun _ h => (by cases h)), [], trivial, ?_, (fun _ h => (by cases h))⟩
  rw [List.append_nil]
  exact List.forall_mem_cons.mpr ⟨⟨show (20 : Nat) < 100 from by decide, nf0⟩, List.forall_mem_cons.mpr ⟨⟨show (20 : Nat) < 100 from by decide, nf1⟩, (fun _ h => (by cases h))⟩⟩
set_option maxHeartbeats 4000000 in
theorem vc_Mo_next_59_0 (x4 : Int) (x5 : Int) (x6 : Int) (from_0 : Int) (pos_0 : Int) (tape_0 : Int → Int) (limit_0 : Int) (place_0 : Int) (from_1 : Int) (pos_1 : Int) (tape_1 : Int → Int) (limit_1 : Int) (place_1 : Int) (k4 : 9 ≤ x4 ∧ x4 ≤ 2000) (k5 : 0 ≤ x5 ∧ x5 ≤ 2000) (k6 : 9 ≤ x6 ∧ x6 ≤ 2000) (g1 : x5 = from_0) (g2 : x4 = pos_0) (f9 : x6 = x4 - x5) (fe_0_10_1 : limit_0 = limit_1) (fe_0_11_1 : pos_0 = pos_1) (fe_0_13_1 : place_0 = place_1) (fe_0_15_1 : from_0 = from_1) (hE_0_1_1 : ∀ j : Int, tape_0 j = tape_1 j) (hK_0_1 : ∀ j : Int, 0 ≤ j → j < 2000 → (-128) ≤ tape_0 j ∧ tape_0 j ≤ 127) (kz_0_10 : 0 ≤ limit_0 ∧ limit_0 ≤ 2000) (kz_0_11 : 0 ≤ pos_0 ∧ pos_0 ≤ 2000) (kz_0_13 : 0 ≤ place_0 ∧ place_0 ≤ 2000) (kz_0_15 : 0 ≤ from_0 ∧ from_0 ≤ 2000) : 1 * from_0 + ((-1) * pos_0 + 0) ≤ 0 := by
  subst fe_0_10_1
  subst fe_0_11_1
  subst fe_0_13_1
  subst fe_0_15_1
  have e_hE_0_1_1 := funext hE_0_1_1; subst e_hE_0_1_1
  first | with_reducible assumption | ((try and_intros) <;> first | with_reducible assumption | (clear hE_0_1_1 hK_0_1; omega)) | omega
set_option maxHeartbeats 4000000 in
theorem vc_Mo_next_59_1 (x4 : Int) (x5 : Int) (x6 : Int) (x8 : Int) (kind_0 : Int) (from_0 : Int) (pos_0 : Int) (tape_0 : Int → Int) (limit_0 : Int) (place_0 : Int) (from_1 : Int) (pos_1 : Int) (tape_1 : Int → Int) (limit_1 : Int) (place_1 : Int) (k4 : 9 ≤ x4 ∧ x4 ≤ 2000) (k5 : 0 ≤ x5 ∧ x5 ≤ 2000) (k6 : 9 ≤ x6 ∧ x6 ≤ 2000) (k8 : 4 ≤ x8 ∧ x8 ≤ 4) (g0 : x8 = kind_0) (g1 : x5 = from_0) (g2 : x4 = pos_0) (f9 : x6 = x4 - x5) (fe_0_10_1 : limit_0 = limit_1) (fe_0_11_1 : pos_0 = pos_1) (fe_0_13_1 : place_0 = place_1) (fe_0_15_1 : from_0 = from_1) (hE_0_1_1 : ∀ j : Int, tape_0 j = tape_1 j) (hK_0_1 : ∀ j : Int, 0 ≤ j → j < 2000 → (-128) ≤ tape_0 j ∧ tape_0 j ≤ 127) (kz_0_10 : 0 ≤ limit_0 ∧ limit_0 ≤ 2000) (kz_0_11 : 0 ≤ pos_0 ∧ pos_0 ≤ 2000) (kz_0_12 : 0 ≤ kind_0 ∧ kind_0 ≤ 4) (kz_0_13 : 0 ≤ place_0 ∧ place_0 ≤ 2000) (kz_0_15 : 0 ≤ from_0 ∧ from_0 ≤ 2000) : ((kind_0 = 1) → (pos_0 ≤ (from_0 + 8))) ∧ ((kind_0 = 0) ∨ ((from_0 + 1) ≤ pos_0)) := by
  subst fe_0_10_1
  subst fe_0_11_1
  subst fe_0_13_1
  subst fe_0_15_1
  have e_hE_0_1_1 := funext hE_0_1_1; subst e_hE_0_1_1
  first | with_reducible assumption | ((try and_intros) <;> first | with_reducible assumption | (clear hE_0_1_1 hK_0_1; omega)) | omega
set_option maxHeartbeats 4000000 in
theorem vc_Mo_next_59_2 (x1 : Int) (x4 : Int) (x5 : Int) (x6 : Int) (x7 : Int) (x8 : Int) (kind_0 : Int) (from_0 : Int) (pos_0 : Int) (tape_0 : Int → Int) (limit_0 : Int) (place_0 : Int) (from_1 : Int) (pos_1 : Int) (tape_1 : Int → Int) (limit_1 : Int) (place_1 : Int) (value_0 : Int) (k1 : 0 ≤ x1 ∧ x1 ≤ 2000) (k4 : 9 ≤ x4 ∧ x4 ≤ 2000) (k5 : 0 ≤ x5 ∧ x5 ≤ 2000) (k6 : 9 ≤ x6 ∧ x6 ≤ 2000) (k7 : 8 ≤ x7 ∧ x7 ≤ 8) (k8 : 4 ≤ x8 ∧ x8 ≤ 4) (g0 : x8 = kind_0) (g1 : x5 = from_0) (g2 : x4 = pos_0) (f8 : x7 < x6) (f9 : x6 = x4 - x5) (f12 : ZXM (limit_1) (pos_1) (place_1) (from_1) (tape_1) (x1)) (fe_0_10_1 : limit_0 = limit_1) (fe_0_11_1 : pos_0 = pos_1) (fe_0_13_1 : place_0 = place_1) (fe_0_15_1 : from_0 = from_1) (hE_0_1_1 : ∀ j : Int, tape_0 j = tape_1 j) (kz_0_10 : 0 ≤ limit_0 ∧ limit_0 ≤ 2000) (kz_0_11 : 0 ≤ pos_0 ∧ pos_0 ≤ 2000) (kz_0_12 : 0 ≤ kind_0 ∧ kind_0 ≤ 4) (kz_0_13 : 0 ≤ place_0 ∧ place_0 ≤ 2000) (kz_0_14 : (-49) ≤ value_0 ∧ value_0 ≤ 1048575) (kz_0_15 : 0 ≤ from_0 ∧ from_0 ≤ 2000) : TKR (limit_0) (pos_0) (kind_0) (place_0) (value_0) (from_0) (tape_0) (x1) := by
  subst fe_0_10_1
  subst fe_0_11_1
  subst fe_0_13_1
  subst fe_0_15_1
  have e_hE_0_1_1 := funext hE_0_1_1; subst e_hE_0_1_1
  first | subst g0 | skip
  first | subst g1 | skip
  first | subst g2 | skip
  first
    | assumption
    | exact tkr_end ‹ZX1 _ _ _ _› (by omega) (by omega) (by omega) (by omega)
    | (have e := (‹ZXM _ _ _ _ _ _›).1.1.1; exact tkr_name ‹ZXM _ _ _ _ _ _› (by omega))
    | (have e := (‹ZXE _ _ _ _ _ _ _›).1.1.1; exact tkr_num ‹ZXE _ _ _ _ _ _ _› (by omega))
    | exact tkr_sign (by assumption) ‹ZXS1 _ _ _ _ _ _ _›.1 (by omega) (by omega) (Or.inl ⟨by omega, ‹ZXS1 _ _ _ _ _ _ _›.2⟩)
    | exact tkr_sign (by assumption) ‹ZXS _ _ _ _ _ _ _› (by omega) (by omega) (Or.inr ⟨by omega, by unfold ZSG; omega⟩)
set_option maxHeartbeats 4000000 in
theorem vc_Mo_next_59_3 (x4 : Int) (x5 : Int) (x6 : Int) (from_0 : Int) (pos_0 : Int) (tape_0 : Int → Int) (limit_0 : Int) (place_0 : Int) (from_1 : Int) (pos_1 : Int) (tape_1 : Int → Int) (limit_1 : Int) (place_1 : Int) (k4 : 9 ≤ x4 ∧ x4 ≤ 2000) (k5 : 0 ≤ x5 ∧ x5 ≤ 2000) (k6 : 9 ≤ x6 ∧ x6 ≤ 2000) (g1 : x5 = from_0) (g2 : x4 = pos_0) (f9 : x6 = x4 - x5) (fe_0_10_1 : limit_0 = limit_1) (fe_0_11_1 : pos_0 = pos_1) (fe_0_13_1 : place_0 = place_1) (fe_0_15_1 : from_0 = from_1) (hE_0_1_1 : ∀ j : Int, tape_0 j = tape_1 j) (hK_0_1 : ∀ j : Int, 0 ≤ j → j < 2000 → (-128) ≤ tape_0 j ∧ tape_0 j ≤ 127) (kz_0_10 : 0 ≤ limit_0 ∧ limit_0 ≤ 2000) (kz_0_11 : 0 ≤ pos_0 ∧ pos_0 ≤ 2000) (kz_0_13 : 0 ≤ place_0 ∧ place_0 ≤ 2000) (kz_0_15 : 0 ≤ from_0 ∧ from_0 ≤ 2000) : 1 * from_0 + ((-1) * pos_0 + 0) ≤ 0 := by
  subst fe_0_10_1
  subst fe_0_11_1
  subst fe_0_13_1
  subst fe_0_15_1
  have e_hE_0_1_1 := funext hE_0_1_1; subst e_hE_0_1_1
  first | with_reducible assumption | ((try and_intros) <;> first | with_reducible assumption | (clear hE_0_1_1 hK_0_1; omega)) | omega
set_option maxHeartbeats 4000000 in
theorem vc_Mo_next_59_4 (x4 : Int) (x5 : Int) (x6 : Int) (x8 : Int) (kind_0 : Int) (from_0 : Int) (pos_0 : Int) (tape_0 : Int → Int) (limit_0 : Int) (place_0 : Int) (from_1 : Int) (pos_1 : Int) (tape_1 : Int → Int) (limit_1 : Int) (place_1 : Int) (k4 : 9 ≤ x4 ∧ x4 ≤ 2000) (k5 : 0 ≤ x5 ∧ x5 ≤ 2000) (k6 : 9 ≤ x6 ∧ x6 ≤ 2000) (k8 : 4 ≤ x8 ∧ x8 ≤ 4) (g0 : x8 = kind_0) (g1 : x5 = from_0) (g2 : x4 = pos_0) (f9 : x6 = x4 - x5) (fe_0_10_1 : limit_0 = limit_1) (fe_0_11_1 : pos_0 = pos_1) (fe_0_13_1 : place_0 = place_1) (fe_0_15_1 : from_0 = from_1) (hE_0_1_1 : ∀ j : Int, tape_0 j = tape_1 j) (hK_0_1 : ∀ j : Int, 0 ≤ j → j < 2000 → (-128) ≤ tape_0 j ∧ tape_0 j ≤ 127) (kz_0_10 : 0 ≤ limit_0 ∧ limit_0 ≤ 2000) (kz_0_11 : 0 ≤ pos_0 ∧ pos_0 ≤ 2000) (kz_0_12 : 0 ≤ kind_0 ∧ kind_0 ≤ 4) (kz_0_13 : 0 ≤ place_0 ∧ place_0 ≤ 2000) (kz_0_15 : 0 ≤ from_0 ∧ from_0 ≤ 2000) : ((kind_0 = 1) → (pos_0 ≤ (from_0 + 8))) ∧ ((kind_0 = 0) ∨ ((from_0 + 1) ≤ pos_0)) := by
  subst fe_0_10_1
  subst fe_0_11_1
  subst fe_0_13_1
  subst fe_0_15_1
  have e_hE_0_1_1 := funext hE_0_1_1; subst e_hE_0_1_1
  first | with_reducible assumption | ((try and_intros) <;> first | with_reducible assumption | (clear hE_0_1_1 hK_0_1; omega)) | omega
set_option maxHeartbeats 4000000 in
theorem vc_Mo_next_59_5 (x1 : Int) (from_0 : Int) (pos_0 : Int) (tape_0 : Int → Int) (limit_0 : Int) (place_0 : Int) (from_1 : Int) (pos_1 : Int) (tape_1 : Int → Int) (limit_1 : Int) (place_1 : Int) (k1 : 0 ≤ x1 ∧ x1 ≤ 2000) (f10 : 1 * x1 + ((-1) * from_1 + 0) ≤ 0) (fe_0_10_1 : limit_0 = limit_1) (fe_0_11_1 : pos_0 = pos_1) (fe_0_13_1 : place_0 = place_1) (fe_0_15_1 : from_0 = from_1) (hE_0_1_1 : ∀ j : Int, tape_0 j = tape_1 j) (hK_0_1 : ∀ j : Int, 0 ≤ j → j < 2000 → (-128) ≤ tape_0 j ∧ tape_0 j ≤ 127) (kz_0_10 : 0 ≤ limit_0 ∧ limit_0 ≤ 2000) (kz_0_11 : 0 ≤ pos_0 ∧ pos_0 ≤ 2000) (kz_0_13 : 0 ≤ place_0 ∧ place_0 ≤ 2000) (kz_0_15 : 0 ≤ from_0 ∧ from_0 ≤ 2000) : 1 * x1 + ((-1) * from_0 + 0) ≤ 0 := by
  subst fe_0_10_1
  subst fe_0_11_1
  subst fe_0_13_1
  subst fe_0_15_1
  have e_hE_0_1_1 := funext hE_0_1_1; subst e_hE_0_1_1
  first | with_reducible assumption | ((try and_intros) <;> first | with_reducible assumption | (clear hE_0_1_1 hK_0_1; omega)) | omega
set_option maxHeartbeats 4000000 in
theorem vc_Mo_next_59_6 (x1 : Int) (x4 : Int) (x5 : Int) (x6 : Int) (x7 : Int) (x8 : Int) (kind_0 : Int) (from_0 : Int) (pos_0 : Int) (tape_0 : Int → Int) (limit_0 : Int) (place_0 : Int) (from_1 : Int) (pos_1 : Int) (tape_1 : Int → Int) (limit_1 : Int) (place_1 : Int) (value_0 : Int) (k1 : 0 ≤ x1 ∧ x1 ≤ 2000) (k4 : 9 ≤ x4 ∧ x4 ≤ 2000) (k5 : 0 ≤ x5 ∧ x5 ≤ 2000) (k6 : 9 ≤ x6 ∧ x6 ≤ 2000) (k7 : 8 ≤ x7 ∧ x7 ≤ 8) (k8 : 4 ≤ x8 ∧ x8 ≤ 4) (g0 : x8 = kind_0) (g1 : x5 = from_0) (g2 : x4 = pos_0) (f8 : x7 < x6) (f9 : x6 = x4 - x5) (f12 : ZXM (limit_1) (pos_1) (place_1) (from_1) (tape_1) (x1)) (fe_0_10_1 : limit_0 = limit_1) (fe_0_11_1 : pos_0 = pos_1) (fe_0_13_1 : place_0 = place_1) (fe_0_15_1 : from_0 = from_1) (hE_0_1_1 : ∀ j : Int, tape_0 j = tape_1 j) (kz_0_10 : 0 ≤ limit_0 ∧ limit_0 ≤ 2000) (kz_0_11 : 0 ≤ pos_0 ∧ pos_0 ≤ 2000) (kz_0_12 : 0 ≤ kind_0 ∧ kind_0 ≤ 4) (kz_0_13 : 0 ≤ place_0 ∧ place_0 ≤ 2000) (kz_0_14 : (-49) ≤ value_0 ∧ value_0 ≤ 1048575) (kz_0_15 : 0 ≤ from_0 ∧ from_0 ≤ 2000) : TKR (limit_0) (pos_0) (kind_0) (place_0) (value_0) (from_0) (tape_0) (x1) := by
  subst fe_0_10_1
  subst fe_0_11_1
  subst fe_0_13_1
  subst fe_0_15_1
  have e_hE_0_1_1 := funext hE_0_1_1; subst e_hE_0_1_1
  first | subst g0 | skip
  first | subst g1 | skip
  first | subst g2 | skip
  first
    | assumption
    | exact tkr_end ‹ZX1 _ _ _ _› (by omega) (by omega) (by omega) (by omega)
    | (have e := (‹ZXM _ _ _ _ _ _›).1.1.1; exact tkr_name ‹ZXM _ _ _ _ _ _› (by omega))
    | (have e := (‹ZXE _ _ _ _ _ _ _›).1.1.1; exact tkr_num ‹ZXE _ _ _ _ _ _ _› (by omega))
    | exact tkr_sign (by assumption) ‹ZXS1 _ _ _ _ _ _ _›.1 (by omega) (by omega) (Or.inl ⟨by omega, ‹ZXS1 _ _ _ _ _ _ _›.2⟩)
    | exact tkr_sign (by assumption) ‹ZXS _ _ _ _ _ _ _› (by omega) (by omega) (Or.inr ⟨by omega, by unfold ZSG; omega⟩)
def o_Mo_next_59 : or_T := (354, 9, [(0, (2, 0, 0, [165])), (1, (0, 0, 2000, [])), (2, (2, 0, 0, [165])), (4, (0, 9, 2000, [])), (5, (0, 0, 2000, [])), (6, (0, 9, 2000, [])), (7, (0, 8, 8, [])), (8, (0, 4, 4, []))], [(9, [8, 2], [12]), (9, [5, 2], [15]), (9, [4, 2], [11]), (20, [1, 2], [30, 0, 1, 0, 0, -1, 1, 15]), (20, [2], [50, 2, 0, 15, 11, 0, 7, 4, 3, 2, 0, 15, 0, 1, 2, 0, 11]), (20, [2, 1], [60, 4, 1, 953, 10, 11, 13, 15, 1]), (24, [0, 2], []), (101, [2, 8], [12]), (7, [6, 7], [4]), (2, [6, 4, 5], []), (20, [1, 2], [30, 0, 1, 0, 0, -1, 1, 15]), (20, [2], [50, 2, 0, 15, 11, 0, 7, 4, 3, 2, 0, 15, 0, 1, 2, 0, 11]), (20, [2, 1], [60, 4, 1, 953, 10, 11, 13, 15, 1])], [], [], [(20, [2, 2], [30, 0, 1, 1, 15, -1, 1, 11]), (20, [2], [50, 3, 0, 12, 11, 15, 2, 21, 4, 7, 1, 3, 2, 0, 12, 0, 1, 0, 3, 2, 0, 11, 4, 3, 2, 0, 15, 0, 8, 3, 7, 1, 3, 2, 0, 12, 0, 0, 0, 7, 4, 3, 2, 0, 15, 0, 1, 2, 0, 11]), (20, [2, 1], [60, 6, 1, 948, 10, 11, 12, 13, 14, 15, 1]), (20, [0, 0], [30, 0, 1, 1, 15, -1, 1, 11]), (20, [0], [50, 3, 0, 12, 11, 15, 2, 21, 4, 7, 1, 3, 2, 0, 12, 0, 1, 0, 3, 2, 0, 11, 4, 3, 2, 0, 15, 0, 8, 3, 7, 1, 3, 2, 0, 12, 0, 0, 0, 7, 4, 3, 2, 0, 15, 0, 1, 2, 0, 11]), (20, [1, 0], [30, 0, 1, 0, 0, -1, 1, 15]), (20, [0, 1], [60, 6, 1, 948, 10, 11, 12, 13, 14, 15, 1])], [], [(6, 4, -2000, 0)])
theorem oo_Mo_next_59 {kA : Nat → ClassId} : or_ok PRD kA GG o_Mo_next_59 := by
  refine or_mk fun A ta ws vs hD hth hl => ?_
  intro t0 r0 t1 k1 t2 r2 t4 k4 t5 k5 t6 k6 t7 k7 t8 k8 d0 f0 f1 f2 f3 f4 f5 f6 ta1 w1 le1 s1 f8 f9 f10 f11 f12
  replace f0 := shm_103 f0
  replace f1 := shm_177 f1
  replace f2 := shm_116 f2
  replace f6 := shm_5 f6
  have s1 : (∀ b j, w_el ws b j = w_el w1 b j) ∧ ∀ b j, w_fd ws b j = if b = v_ad (n_v vs 2) ∧ j = 12 then n_v vs 8 else w_fd w1 b j := s1.2
  replace f8 := shm_21 f8
  replace f9 := shm_14 f9
  replace f10 := shm_1436 f10
  replace f12 := shm_1447 f12
  have q2 : n_v vs 2 = n_v vs 0 := f6.symm
  simp only [q2] at f0 f1 f2
  rw [q2] at s1
  simp only [q2] at f10 f12
  have ar_0_1_1 : w_ar w1 (n_v vs 0) 1 = w_ar ws (n_v vs 0) 1 := by show v_ad (w_fd w1 _ _) = v_ad (w_fd ws _ _); rw [s1.2, if_neg (fun e => absurd e.2 (by decide))]
  have cr_0_1 := fdq_39 hD hth r0
  have g0 : v_iv (n_v vs 8) = w_fi ws (n_v vs 0) 12 := congrArg v_iv f0
  have g1 : v_iv (n_v vs 5) = w_fi ws (n_v vs 0) 15 := congrArg v_iv f1
  have g2 : v_iv (n_v vs 4) = w_fi ws (n_v vs 0) 11 := congrArg v_iv f2
  simp only [ar_0_1_1] at f12
  have fe_0_10_1 : w_fi ws (n_v vs 0) 10 = w_fi w1 (n_v vs 0) 10 := by show v_iv (w_fd _ _ _) = v_iv (w_fd _ _ _); rw [s1.2, if_neg (fun e => absurd e.2 (by decide))]
  have fe_0_11_1 : w_fi ws (n_v vs 0) 11 = w_fi w1 (n_v vs 0) 11 := by show v_iv (w_fd _ _ _) = v_iv (w_fd _ _ _); rw [s1.2, if_neg (fun e => absurd e.2 (by decide))]
  have fe_0_13_1 : w_fi ws (n_v vs 0) 13 = w_fi w1 (n_v vs 0) 13 := by show v_iv (w_fd _ _ _) = v_iv (w_fd _ _ _); rw [s1.2, if_neg (fun e => absurd e.2 (by decide))]
  have fe_0_15_1 : w_fi ws (n_v vs 0) 15 = w_fi w1 (n_v vs 0) 15 := by show v_iv (w_fd _ _ _) = v_iv (w_fd _ _ _); rw [s1.2, if_neg (fun e => absurd e.2 (by decide))]
  have hE_0_1_1 : ∀ j : Int, w_ei ws (w_ar ws (n_v vs 0) 1) j = w_ei w1 (w_ar ws (n_v vs 0) 1) j := fun j => s1.1 _ _
  have hK_0_1 := elq_7 hD hth cr_0_1
  have kz_0_10 := fdq_43 hD hth r0
  have kz_0_11 := fdq_237 hD hth r0
  have kz_0_12 := fdq_187 hD hth r0
  have kz_0_13 := fdq_238 hD hth r0
  have kz_0_14 := fdq_188 hD hth r0
  have kz_0_15 := fdq_239 hD hth r0
  have nf0 : fc_1 PRD (20, [2, 2], [30, 0, 1, 1, 15, -1, 1, 11]) ws (vs) := by
    refine ⟨nf_in hl rfl, sgq_1437 ?_⟩
    · show 1 * w_fi ws (n_v vs 2) 15 + ((-1) * w_fi ws (n_v vs 2) 11 + 0) ≤ 0
      rw [q2]
      exact vc_Mo_next_59_0 (v_iv (n_v vs 4)) (v_iv (n_v vs 5)) (v_iv (n_v vs 6)) (w_fi ws (n_v vs 0) 15) (w_fi ws (n_v vs 0) 11) (w_ei ws (w_ar ws (n_v vs 0) 1)) (w_fi ws (n_v vs 0) 10) (w_fi ws (n_v vs 0) 13) (w_fi w1 (n_v vs 0) 15) (w_fi w1 (n_v vs 0) 11) (w_ei w1 (w_ar ws (n_v vs 0) 1)) (w_fi w1 (n_v vs 0) 10) (w_fi w1 (n_v vs 0) 13) k4 k5 k6 g1 g2 f9 fe_0_10_1 fe_0_11_1 fe_0_13_1 fe_0_15_1 hE_0_1_1 hK_0_1 kz_0_10 kz_0_11 kz_0_13 kz_0_15
  have nf1 : fc_1 PRD (20, [2], [50, 3, 0, 12, 11, 15, 2, 21, 4, 7, 1, 3, 2, 0, 12, 0, 1, 0, 3, 2, 0, 11, 4, 3, 2, 0, 15, 0, 8, 3, 7, 1, 3, 2, 0, 12, 0, 0, 0, 7, 4, 3, 2, 0, 15, 0, 1, 2, 0, 11]) ws (vs) := by
    refine ⟨nf_in hl rfl, sgq_1438 ?_⟩
    · show ((w_fi ws (n_v vs 2) 12 = 1) → (w_fi ws (n_v vs 2) 11 ≤ (w_fi ws (n_v vs 2) 15 + 8))) ∧ ((w_fi ws (n_v vs 2) 12 = 0) ∨ ((w_fi ws (n_v vs 2) 15 + 1) ≤ w_fi ws (n_v vs 2) 11))
      rw [q2]
      exact vc_Mo_next_59_1 (v_iv (n_v vs 4)) (v_iv (n_v vs 5)) (v_iv (n_v vs 6)) (v_iv (n_v vs 8)) (w_fi ws (n_v vs 0) 12) (w_fi ws (n_v vs 0) 15) (w_fi ws (n_v vs 0) 11) (w_ei ws (w_ar ws (n_v vs 0) 1)) (w_fi ws (n_v vs 0) 10) (w_fi ws (n_v vs 0) 13) (w_fi w1 (n_v vs 0) 15) (w_fi w1 (n_v vs 0) 11) (w_ei w1 (w_ar ws (n_v vs 0) 1)) (w_fi w1 (n_v vs 0) 10) (w_fi w1 (n_v vs 0) 13) k4 k5 k6 k8 g0 g1 g2 f9 fe_0_10_1 fe_0_11_1 fe_0_13_1 fe_0_15_1 hE_0_1_1 hK_0_1 kz_0_10 kz_0_11 kz_0_12 kz_0_13 kz_0_15
  have nf2 : fc_1 PRD (20, [2, 1], [60, 6, 1, 948, 10, 11, 12, 13, 14, 15, 1]) ws (vs) := by
    refine ⟨nf_in hl rfl, sgq_1439 ?_⟩
    · show TKR (w_fi ws (n_v vs 2) 10) (w_fi ws (n_v vs 2) 11) (w_fi ws (n_v vs 2) 12) (w_fi ws (n_v vs 2) 13) (w_fi ws (n_v vs 2) 14) (w_fi ws (n_v vs 2) 15) (w_ei ws (w_ar ws (n_v vs 2) 1)) (v_iv (n_v vs 1))
      rw [q2]
      exact vc_Mo_next_59_2 (v_iv (n_v vs 1)) (v_iv (n_v vs 4)) (v_iv (n_v vs 5)) (v_iv (n_v vs 6)) (v_iv (n_v vs 7)) (v_iv (n_v vs 8)) (w_fi ws (n_v vs 0) 12) (w_fi ws (n_v vs 0) 15) (w_fi ws (n_v vs 0) 11) (w_ei ws (w_ar ws (n_v vs 0) 1)) (w_fi ws (n_v vs 0) 10) (w_fi ws (n_v vs 0) 13) (w_fi w1 (n_v vs 0) 15) (w_fi w1 (n_v vs 0) 11) (w_ei w1 (w_ar ws (n_v vs 0) 1)) (w_fi w1 (n_v vs 0) 10) (w_fi w1 (n_v vs 0) 13) (w_fi ws (n_v vs 0) 14) k1 k4 k5 k6 k7 k8 g0 g1 g2 f8 f9 f12 fe_0_10_1 fe_0_11_1 fe_0_13_1 fe_0_15_1 hE_0_1_1 kz_0_10 kz_0_11 kz_0_12 kz_0_13 kz_0_14 kz_0_15
  have nf3 : fc_1 PRD (20, [0, 0], [30, 0, 1, 1, 15, -1, 1, 11]) ws (vs) := ⟨nf_in hl rfl, sgq_1437 (vc_Mo_next_59_3 (v_iv (n_v vs 4)) (v_iv (n_v vs 5)) (v_iv (n_v vs 6)) (w_fi ws (n_v vs 0) 15) (w_fi ws (n_v vs 0) 11) (w_ei ws (w_ar ws (n_v vs 0) 1)) (w_fi ws (n_v vs 0) 10) (w_fi ws (n_v vs 0) 13) (w_fi w1 (n_v vs 0) 15) (w_fi w1 (n_v vs 0) 11) (w_ei w1 (w_ar ws (n_v vs 0) 1)) (w_fi w1 (n_v vs 0) 10) (w_fi w1 (n_v vs 0) 13) k4 k5 k6 g1 g2 f9 fe_0_10_1 fe_0_11_1 fe_0_13_1 fe_0_15_1 hE_0_1_1 hK_0_1 kz_0_10 kz_0_11 kz_0_13 kz_0_15)⟩
  have nf4 : fc_1 PRD (20, [0], [50, 3, 0, 12, 11, 15, 2, 21, 4, 7, 1, 3, 2, 0, 12, 0, 1, 0, 3, 2, 0, 11, 4, 3, 2, 0, 15, 0, 8, 3, 7, 1, 3, 2, 0, 12, 0, 0, 0, 7, 4, 3, 2, 0, 15, 0, 1, 2, 0, 11]) ws (vs) := ⟨nf_in hl rfl, sgq_1438 (vc_Mo_next_59_4 (v_iv (n_v vs 4)) (v_iv (n_v vs 5)) (v_iv (n_v vs 6)) (v_iv (n_v vs 8)) (w_fi ws (n_v vs 0) 12) (w_fi ws (n_v vs 0) 15) (w_fi ws (n_v vs 0) 11) (w_ei ws (w_ar ws (n_v vs 0) 1)) (w_fi ws (n_v vs 0) 10) (w_fi ws (n_v vs 0) 13) (w_fi w1 (n_v vs 0) 15) (w_fi w1 (n_v vs 0) 11) (w_ei w1 (w_ar ws (n_v vs 0) 1)) (w_fi w1 (n_v vs 0) 10) (w_fi w1 (n_v vs 0) 13) k4 k5 k6 k8 g0 g1 g2 f9 fe_0_10_1 fe_0_11_1 fe_0_13_1 fe_0_15_1 hE_0_1_1 hK_0_1 kz_0_10 kz_0_11 kz_0_12 kz_0_13 kz_0_15)⟩
  have nf5 : fc_1 PRD (20, [1, 0], [30, 0, 1, 0, 0, -1, 1, 15]) ws (vs) := ⟨nf_in hl rfl, sgq_1436 (vc_Mo_next_59_5 (v_iv (n_v vs 1)) (w_fi ws (n_v vs 0) 15) (w_fi ws (n_v vs 0) 11) (w_ei ws (w_ar ws (n_v vs 0) 1)) (w_fi ws (n_v vs 0) 10) (w_fi ws (n_v vs 0) 13) (w_fi w1 (n_v vs 0) 15) (w_fi w1 (n_v vs 0) 11) (w_ei w1 (w_ar ws (n_v vs 0) 1)) (w_fi w1 (n_v vs 0) 10) (w_fi w1 (n_v vs 0) 13) k1 f10 fe_0_10_1 fe_0_11_1 fe_0_13_1 fe_0_15_1 hE_0_1_1 hK_0_1 kz_0_10 kz_0_11 kz_0_13 kz_0_15)⟩
  have nf6 : fc_1 PRD (20, [0, 1], [60, 6, 1, 948, 10, 11, 12, 13, 14, 15, 1]) ws (vs) := ⟨nf_in hl rfl, sgq_1439 (vc_Mo_next_59_6 (v_iv (n_v vs 1)) (v_iv (n_v vs 4)) (v_iv (n_v vs 5)) (v_iv (n_v vs 6)) (v_iv (n_v vs 7)) (v_iv (n_v vs 8)) (w_fi ws (n_v vs 0) 12) (w_fi ws (n_v vs 0) 15) (w_fi ws (n_v vs 0) 11) (w_ei ws (w_ar ws (n_v vs 0) 1)) (w_fi ws (n_v vs 0) 10) (w_fi ws (n_v vs 0) 13) (w_fi w1 (n_v vs 0) 15) (w_fi w1 (n_v vs 0) 11) (w_ei w1 (w_ar ws (n_v vs 0) 1)) (w_fi w1 (n_v vs 0) 10) (w_fi w1 (n_v vs 0) 13) (w_fi ws (n_v vs 0) 14) k1 k4 k5 k6 k7 k8 g0 g1 g2 f8 f9 f12 fe_0_10_1 fe_0_11_1 fe_0_13_1 fe_0_15_1 hE_0_1_1 kz_0_10 kz_0_11 kz_0_12 kz_0_13 kz_0_14 kz_0_15)⟩
  refine ⟨(fun _ h => (by cases h)), [], trivial, ?_, (fun _ h => (by cases h))⟩
  rw [List.append_nil]
  exact List.forall_mem_cons.mpr ⟨⟨show (20 : Nat) < 100 from by decide, nf0⟩, List.forall_mem_cons.mpr ⟨⟨show (20 : Nat) < 100 from by decide, nf1⟩, List.forall_mem_cons.mpr ⟨⟨show (20 : Nat) < 100 from by decide, nf2⟩, List.forall_mem_cons.mpr ⟨⟨show (20 : Nat) < 100 from by decide, nf3⟩, List.forall_mem_cons.mpr ⟨⟨show (20 : Nat) < 100 from by decide, nf4⟩, List.forall_mem_cons.mpr ⟨⟨show (20 : Nat) < 100 from by decide, nf5⟩, List.forall_mem_cons.mpr ⟨⟨show (20 : Nat) < 100 from by decide, nf6⟩, (fun _ h => (by cases h))⟩⟩⟩⟩⟩⟩⟩
set_option maxHeartbeats 4000000 in
theorem vc_Mo_next_60_0 (x4 : Int) (x5 : Int) (x6 : Int) (from_0 : Int) (pos_0 : Int) (tape_0 : Int → Int) (limit_0 : Int) (place_0 : Int) (from_1 : Int) (pos_1 : Int) (tape_1 : Int → Int) (limit_1 : Int) (place_1 : Int) (k4 : 0 ≤ x4 ∧ x4 ≤ 2000) (k5 : 0 ≤ x5 ∧ x5 ≤ 2000) (k6 : (-2000) ≤ x6 ∧ x6 ≤ 8) (g1 : x5 = from_0) (g2 : x4 = pos_0) (f4 : (from_0 + 1) ≤ pos_0) (f9 : x6 = x4 - x5) (fe_0_10_1 : limit_0 = limit_1) (fe_0_11_1 : pos_0 = pos_1) (fe_0_13_1 : place_0 = place_1) (fe_0_15_1 : from_0 = from_1) (hE_0_1_1 : ∀ j : Int, tape_0 j = tape_1 j) (hK_0_1 : ∀ j : Int, 0 ≤ j → j < 2000 → (-128) ≤ tape_0 j ∧ tape_0 j ≤ 127) (kz_0_10 : 0 ≤ limit_0 ∧ limit_0 ≤ 2000) (kz_0_11 : 0 ≤ pos_0 ∧ pos_0 ≤ 2000) (kz_0_13 : 0 ≤ place_0 ∧ place_0 ≤ 2000) (kz_0_15 : 0 ≤ from_0 ∧ from_0 ≤ 2000) : 1 * from_0 + ((-1) * pos_0 + 0) ≤ 0 := by
  subst fe_0_10_1
  subst fe_0_11_1
  subst fe_0_13_1
  subst fe_0_15_1
  have e_hE_0_1_1 := funext hE_0_1_1; subst e_hE_0_1_1
  first | with_reducible assumption | ((try and_intros) <;> first | with_reducible assumption | (clear hE_0_1_1 hK_0_1; omega)) | omega
set_option maxHeartbeats 4000000 in
theorem vc_Mo_next_60_1 (x4 : Int) (x5 : Int) (x6 : Int) (kind_0 : Int) (from_0 : Int) (pos_0 : Int) (tape_0 : Int → Int) (limit_0 : Int) (place_0 : Int) (from_1 : Int) (pos_1 : Int) (tape_1 : Int → Int) (limit_1 : Int) (place_1 : Int) (k4 : 0 ≤ x4 ∧ x4 ≤ 2000) (k5 : 0 ≤ x5 ∧ x5 ≤ 2000) (k6 : (-2000) ≤ x6 ∧ x6 ≤ 8) (g1 : x5 = from_0) (g2 : x4 = pos_0) (f4 : (from_0 + 1) ≤ pos_0) (f9 : x6 = x4 - x5) (fe_0_10_1 : limit_0 = limit_1) (fe_0_11_1 : pos_0 = pos_1) (fe_0_13_1 : place_0 = place_1) (fe_0_15_1 : from_0 = from_1) (hE_0_1_1 : ∀ j : Int, tape_0 j = tape_1 j) (hK_0_1 : ∀ j : Int, 0 ≤ j → j < 2000 → (-128) ≤ tape_0 j ∧ tape_0 j ≤ 127) (kz_0_10 : 0 ≤ limit_0 ∧ limit_0 ≤ 2000) (kz_0_11 : 0 ≤ pos_0 ∧ pos_0 ≤ 2000) (kz_0_12 : 0 ≤ kind_0 ∧ kind_0 ≤ 4) (kz_0_13 : 0 ≤ place_0 ∧ place_0 ≤ 2000) (kz_0_15 : 0 ≤ from_0 ∧ from_0 ≤ 2000) : ((kind_0 = 1) → (pos_0 ≤ (from_0 + 8))) ∧ ((kind_0 = 0) ∨ ((from_0 + 1) ≤ pos_0)) := by
  subst fe_0_10_1
  subst fe_0_11_1
  subst fe_0_13_1
  subst fe_0_15_1
  have e_hE_0_1_1 := funext hE_0_1_1; subst e_hE_0_1_1
  first | with_reducible assumption | ((try and_intros) <;> first | with_reducible assumption | (clear hE_0_1_1 hK_0_1; omega)) | omega
set_option maxHeartbeats 4000000 in
theorem vc_Mo_next_60_2 (x1 : Int) (x4 : Int) (x5 : Int) (x6 : Int) (x7 : Int) (x8 : Int) (kind_0 : Int) (from_0 : Int) (pos_0 : Int) (tape_0 : Int → Int) (limit_0 : Int) (place_0 : Int) (from_1 : Int) (pos_1 : Int) (tape_1 : Int → Int) (limit_1 : Int) (place_1 : Int) (value_0 : Int) (k1 : 0 ≤ x1 ∧ x1 ≤ 2000) (k4 : 0 ≤ x4 ∧ x4 ≤ 2000) (k5 : 0 ≤ x5 ∧ x5 ≤ 2000) (k6 : (-2000) ≤ x6 ∧ x6 ≤ 8) (k7 : 8 ≤ x7 ∧ x7 ≤ 8) (k8 : 1 ≤ x8 ∧ x8 ≤ 1) (g0 : x8 = kind_0) (g1 : x5 = from_0) (g2 : x4 = pos_0) (f8 : x6 ≤ x7) (f9 : x6 = x4 - x5) (f12 : ZXM (limit_1) (pos_1) (place_1) (from_1) (tape_1) (x1)) (fe_0_10_1 : limit_0 = limit_1) (fe_0_11_1 : pos_0 = pos_1) (fe_0_13_1 : place_0 = place_1) (fe_0_15_1 : from_0 = from_1) (hE_0_1_1 : ∀ j : Int, tape_0 j = tape_1 j) (kz_0_10 : 0 ≤ limit_0 ∧ limit_0 ≤ 2000) (kz_0_11 : 0 ≤ pos_0 ∧ pos_0 ≤ 2000) (kz_0_12 : 0 ≤ kind_0 ∧ kind_0 ≤ 4) (kz_0_13 : 0 ≤ place_0 ∧ place_0 ≤ 2000) (kz_0_14 : (-49) ≤ value_0 ∧ value_0 ≤ 1048575) (kz_0_15 : 0 ≤ from_0 ∧ from_0 ≤ 2000) : TKR (limit_0) (pos_0) (kind_0) (place_0) (value_0) (from_0) (tape_0) (x1) := by
  subst fe_0_10_1
  subst fe_0_11_1
  subst fe_0_13_1
  subst fe_0_15_1
  have e_hE_0_1_1 := funext hE_0_1_1; subst e_hE_0_1_1
  first | subst g0 | skip
  first | subst g1 | skip
  first | subst g2 | skip
  first
    | assumption
    | exact tkr_end ‹ZX1 _ _ _ _› (by omega) (by omega) (by omega) (by omega)
    | (have e := (‹ZXM _ _ _ _ _ _›).1.1.1; exact tkr_name ‹ZXM _ _ _ _ _ _› (by omega))
    | (have e := (‹ZXE _ _ _ _ _ _ _›).1.1.1; exact tkr_num ‹ZXE _ _ _ _ _ _ _› (by omega))
    | exact tkr_sign (by assumption) ‹ZXS1 _ _ _ _ _ _ _›.1 (by omega) (by omega) (Or.inl ⟨by omega, ‹ZXS1 _ _ _ _ _ _ _›.2⟩)
    | exact tkr_sign (by assumption) ‹ZXS _ _ _ _ _ _ _› (by omega) (by omega) (Or.inr ⟨by omega, by unfold ZSG; omega⟩)
set_option maxHeartbeats 4000000 in
theorem vc_Mo_next_60_3 (x4 : Int) (x5 : Int) (x6 : Int) (from_0 : Int) (pos_0 : Int) (tape_0 : Int → Int) (limit_0 : Int) (place_0 : Int) (from_1 : Int) (pos_1 : Int) (tape_1 : Int → Int) (limit_1 : Int) (place_1 : Int) (k4 : 0 ≤ x4 ∧ x4 ≤ 2000) (k5 : 0 ≤ x5 ∧ x5 ≤ 2000) (k6 : (-2000) ≤ x6 ∧ x6 ≤ 8) (g1 : x5 = from_0) (g2 : x4 = pos_0) (f4 : (from_0 + 1) ≤ pos_0) (f9 : x6 = x4 - x5) (fe_0_10_1 : limit_0 = limit_1) (fe_0_11_1 : pos_0 = pos_1) (fe_0_13_1 : place_0 = place_1) (fe_0_15_1 : from_0 = from_1) (hE_0_1_1 : ∀ j : Int, tape_0 j = tape_1 j) (hK_0_1 : ∀ j : Int, 0 ≤ j → j < 2000 → (-128) ≤ tape_0 j ∧ tape_0 j ≤ 127) (kz_0_10 : 0 ≤ limit_0 ∧ limit_0 ≤ 2000) (kz_0_11 : 0 ≤ pos_0 ∧ pos_0 ≤ 2000) (kz_0_13 : 0 ≤ place_0 ∧ place_0 ≤ 2000) (kz_0_15 : 0 ≤ from_0 ∧ from_0 ≤ 2000) : 1 * from_0 + ((-1) * pos_0 + 0) ≤ 0 := by
  subst fe_0_10_1
  subst fe_0_11_1
  subst fe_0_13_1
  subst fe_0_15_1
  have e_hE_0_1_1 := funext hE_0_1_1; subst e_hE_0_1_1
  first | with_reducible assumption | ((try and_intros) <;> first | with_reducible assumption | (clear hE_0_1_1 hK_0_1; omega)) | omega
set_option maxHeartbeats 4000000 in
theorem vc_Mo_next_60_4 (x4 : Int) (x5 : Int) (x6 : Int) (kind_0 : Int) (from_0 : Int) (pos_0 : Int) (tape_0 : Int → Int) (limit_0 : Int) (place_0 : Int) (from_1 : Int) (pos_1 : Int) (tape_1 : Int → Int) (limit_1 : Int) (place_1 : Int) (k4 : 0 ≤ x4 ∧ x4 ≤ 2000) (k5 : 0 ≤ x5 ∧ x5 ≤ 2000) (k6 : (-2000) ≤ x6 ∧ x6 ≤ 8) (g1 : x5 = from_0) (g2 : x4 = pos_0) (f4 : (from_0 + 1) ≤ pos_0) (f9 : x6 = x4 - x5) (fe_0_10_1 : limit_0 = limit_1) (fe_0_11_1 : pos_0 = pos_1) (fe_0_13_1 : place_0 = place_1) (fe_0_15_1 : from_0 = from_1) (hE_0_1_1 : ∀ j : Int, tape_0 j = tape_1 j) (hK_0_1 : ∀ j : Int, 0 ≤ j → j < 2000 → (-128) ≤ tape_0 j ∧ tape_0 j ≤ 127) (kz_0_10 : 0 ≤ limit_0 ∧ limit_0 ≤ 2000) (kz_0_11 : 0 ≤ pos_0 ∧ pos_0 ≤ 2000) (kz_0_12 : 0 ≤ kind_0 ∧ kind_0 ≤ 4) (kz_0_13 : 0 ≤ place_0 ∧ place_0 ≤ 2000) (kz_0_15 : 0 ≤ from_0 ∧ from_0 ≤ 2000) : ((kind_0 = 1) → (pos_0 ≤ (from_0 + 8))) ∧ ((kind_0 = 0) ∨ ((from_0 + 1) ≤ pos_0)) := by
  subst fe_0_10_1
  subst fe_0_11_1
  subst fe_0_13_1
  subst fe_0_15_1
  have e_hE_0_1_1 := funext hE_0_1_1; subst e_hE_0_1_1
  first | with_reducible assumption | ((try and_intros) <;> first | with_reducible assumption | (clear hE_0_1_1 hK_0_1; omega)) | omega
set_option maxHeartbeats 4000000 in
theorem vc_Mo_next_60_5 (x1 : Int) (from_0 : Int) (pos_0 : Int) (tape_0 : Int → Int) (limit_0 : Int) (place_0 : Int) (from_1 : Int) (pos_1 : Int) (tape_1 : Int → Int) (limit_1 : Int) (place_1 : Int) (k1 : 0 ≤ x1 ∧ x1 ≤ 2000) (f10 : 1 * x1 + ((-1) * from_1 + 0) ≤ 0) (fe_0_10_1 : limit_0 = limit_1) (fe_0_11_1 : pos_0 = pos_1) (fe_0_13_1 : place_0 = place_1) (fe_0_15_1 : from_0 = from_1) (hE_0_1_1 : ∀ j : Int, tape_0 j = tape_1 j) (hK_0_1 : ∀ j : Int, 0 ≤ j → j < 2000 → (-128) ≤ tape_0 j ∧ tape_0 j ≤ 127) (kz_0_10 : 0 ≤ limit_0 ∧ limit_0 ≤ 2000) (kz_0_11 : 0 ≤ pos_0 ∧ pos_0 ≤ 2000) (kz_0_13 : 0 ≤ place_0 ∧ place_0 ≤ 2000) (kz_0_15 : 0 ≤ from_0 ∧ from_0 ≤ 2000) : 1 * x1 + ((-1) * from_0 + 0) ≤ 0 := by
  subst fe_0_10_1
  subst fe_0_11_1
  subst fe_0_13_1
  subst fe_0_15_1
  have e_hE_0_1_1 := funext hE_0_1_1; subst e_hE_0_1_1
  first | with_reducible assumption | ((try and_intros) <;> first | with_reducible assumption | (clear hE_0_1_1 hK_0_1; omega)) | omega
set_option maxHeartbeats 4000000 in
theorem vc_Mo_next_60_6 (x1 : Int) (x4 : Int) (x5 : Int) (x6 : Int) (x7 : Int) (x8 : Int) (kind_0 : Int) (from_0 : Int) (pos_0 : Int) (tape_0 : Int → Int) (limit_0 : Int) (place_0 : Int) (from_1 : Int) (pos_1 : Int) (tape_1 : Int → Int) (limit_1 : Int) (place_1 : Int) (value_0 : Int) (k1 : 0 ≤ x1 ∧ x1 ≤ 2000) (k4 : 0 ≤ x4 ∧ x4 ≤ 2000) (k5 : 0 ≤ x5 ∧ x5 ≤ 2000) (k6 : (-2000) ≤ x6 ∧ x6 ≤ 8) (k7 : 8 ≤ x7 ∧ x7 ≤ 8) (k8 : 1 ≤ x8 ∧ x8 ≤ 1) (g0 : x8 = kind_0) (g1 : x5 = from_0) (g2 : x4 = pos_0) (f8 : x6 ≤ x7) (f9 : x6 = x4 - x5) (f12 : ZXM (limit_1) (pos_1) (place_1) (from_1) (tape_1) (x1)) (fe_0_10_1 : limit_0 = limit_1) (fe_0_11_1 : pos_0 = pos_1) (fe_0_13_1 : place_0 = place_1) (fe_0_15_1 : from_0 = from_1) (hE_0_1_1 : ∀ j : Int, tape_0 j = tape_1 j) (kz_0_10 : 0 ≤ limit_0 ∧ limit_0 ≤ 2000) (kz_0_11 : 0 ≤ pos_0 ∧ pos_0 ≤ 2000) (kz_0_12 : 0 ≤ kind_0 ∧ kind_0 ≤ 4) (kz_0_13 : 0 ≤ place_0 ∧ place_0 ≤ 2000) (kz_0_14 : (-49) ≤ value_0 ∧ value_0 ≤ 1048575) (kz_0_15 : 0 ≤ from_0 ∧ from_0 ≤ 2000) : TKR (limit_0) (pos_0) (kind_0) (place_0) (value_0) (from_0) (tape_0) (x1) := by
  subst fe_0_10_1
  subst fe_0_11_1
  subst fe_0_13_1
  subst fe_0_15_1
  have e_hE_0_1_1 := funext hE_0_1_1; subst e_hE_0_1_1
  first | subst g0 | skip
  first | subst g1 | skip
  first | subst g2 | skip
  first
    | assumption
    | exact tkr_end ‹ZX1 _ _ _ _› (by omega) (by omega) (by omega) (by omega)
    | (have e := (‹ZXM _ _ _ _ _ _›).1.1.1; exact tkr_name ‹ZXM _ _ _ _ _ _› (by omega))
    | (have e := (‹ZXE _ _ _ _ _ _ _›).1.1.1; exact tkr_num ‹ZXE _ _ _ _ _ _ _› (by omega))
    | exact tkr_sign (by assumption) ‹ZXS1 _ _ _ _ _ _ _›.1 (by omega) (by omega) (Or.inl ⟨by omega, ‹ZXS1 _ _ _ _ _ _ _›.2⟩)
    | exact tkr_sign (by assumption) ‹ZXS _ _ _ _ _ _ _› (by omega) (by omega) (Or.inr ⟨by omega, by unfold ZSG; omega⟩)
def o_Mo_next_60 : or_T := (354, 9, [(0, (2, 0, 0, [165])), (1, (0, 0, 2000, [])), (2, (2, 0, 0, [165])), (4, (0, 0, 2000, [])), (5, (0, 0, 2000, [])), (6, (0, -2000, 8, [])), (7, (0, 8, 8, [])), (8, (0, 1, 1, []))], [(9, [8, 2], [12]), (9, [5, 2], [15]), (9, [4, 2], [11]), (20, [1, 2], [30, 0, 1, 0, 0, -1, 1, 15]), (20, [2], [50, 2, 0, 15, 11, 0, 7, 4, 3, 2, 0, 15, 0, 1, 2, 0, 11]), (20, [2, 1], [60, 4, 1, 953, 10, 11, 13, 15, 1]), (24, [0, 2], []), (101, [2, 8], [12]), (7, [6, 7], [5]), (2, [6, 4, 5], []), (20, [1, 2], [30, 0, 1, 0, 0, -1, 1, 15]), (20, [2], [50, 2, 0, 15, 11, 0, 7, 4, 3, 2, 0, 15, 0, 1, 2, 0, 11]), (20, [2, 1], [60, 4, 1, 953, 10, 11, 13, 15, 1])], [], [], [(20, [2, 2], [30, 0, 1, 1, 15, -1, 1, 11]), (20, [2], [50, 3, 0, 12, 11, 15, 2, 21, 4, 7, 1, 3, 2, 0, 12, 0, 1, 0, 3, 2, 0, 11, 4, 3, 2, 0, 15, 0, 8, 3, 7, 1, 3, 2, 0, 12, 0, 0, 0, 7, 4, 3, 2, 0, 15, 0, 1, 2, 0, 11]), (20, [2, 1], [60, 6, 1, 948, 10, 11, 12, 13, 14, 15, 1]), (20, [0, 0], [30, 0, 1, 1, 15, -1, 1, 11]), (20, [0], [50, 3, 0, 12, 11, 15, 2, 21, 4, 7, 1, 3, 2, 0, 12, 0, 1, 0, 3, 2, 0, 11, 4, 3, 2, 0, 15, 0, 8, 3, 7, 1, 3, 2, 0, 12, 0, 0, 0, 7, 4, 3, 2, 0, 15, 0, 1, 2, 0, 11]), (20, [1, 0], [30, 0, 1, 0, 0, -1, 1, 15]), (20, [0, 1], [60, 6, 1, 948, 10, 11, 12, 13, 14, 15, 1])], [], [(6, 4, -2000, 0)])
theorem oo_Mo_next_60 {kA : Nat → ClassId} : or_ok PRD kA GG o_Mo_next_60 := by
  refine or_mk fun A ta ws vs hD hth hl => ?_
  intro t0 r0 t1 k1 t2 r2 t4 k4 t5 k5 t6 k6 t7 k7 t8 k8 d0 f0 f1 f2 f3 f4 f5 f6 ta1 w1 le1 s1 f8 f9 f10 f11 f12
  replace f0 := shm_103 f0
  replace f1 := shm_177 f1
  replace f2 := shm_116 f2
  replace f4 := shm_1446 f4
  replace f6 := shm_5 f6
  have s1 : (∀ b j, w_el ws b j = w_el w1 b j) ∧ ∀ b j, w_fd ws b j = if b = v_ad (n_v vs 2) ∧ j = 12 then n_v vs 8 else w_fd w1 b j := s1.2
  replace f8 := shm_24 f8
  replace f9 := shm_14 f9
  replace f10 := shm_1436 f10
  replace f12 := shm_1447 f12
  have q2 : n_v vs 2 = n_v vs 0 := f6.symm
  simp only [q2] at f0 f1 f2 f4
  rw [q2] at s1
  simp only [q2] at f10 f12
  have ar_0_1_1 : w_ar w1 (n_v vs 0) 1 = w_ar ws (n_v vs 0) 1 := by show v_ad (w_fd w1 _ _) = v_ad (w_fd ws _ _); rw [s1.2, if_neg (fun e => absurd e.2 (by decide))]
  have cr_0_1 := fdq_39 hD hth r0
  have g0 : v_iv (n_v vs 8) = w_fi ws (n_v vs 0) 12 := congrArg v_iv f0
  have g1 : v_iv (n_v vs 5) = w_fi ws (n_v vs 0) 15 := congrArg v_iv f1
  have g2 : v_iv (n_v vs 4) = w_fi ws (n_v vs 0) 11 := congrArg v_iv f2
  simp only [ar_0_1_1] at f12
  have fe_0_10_1 : w_fi ws (n_v vs 0) 10 = w_fi w1 (n_v vs 0) 10 := by show v_iv (w_fd _ _ _) = v_iv (w_fd _ _ _); rw [s1.2, if_neg (fun e => absurd e.2 (by decide))]
  have fe_0_11_1 : w_fi ws (n_v vs 0) 11 = w_fi w1 (n_v vs 0) 11 := by show v_iv (w_fd _ _ _) = v_iv (w_fd _ _ _); rw [s1.2, if_neg (fun e => absurd e.2 (by decide))]
  have fe_0_13_1 : w_fi ws (n_v vs 0) 13 = w_fi w1 (n_v vs 0) 13 := by show v_iv (w_fd _ _ _) = v_iv (w_fd _ _ _); rw [s1.2, if_neg (fun e => absurd e.2 (by decide))]
  have fe_0_15_1 : w_fi ws (n_v vs 0) 15 = w_fi w1 (n_v vs 0) 15 := by show v_iv (w_fd _ _ _) = v_iv (w_fd _ _ _); rw [s1.2, if_neg (fun e => absurd e.2 (by decide))]
  have hE_0_1_1 : ∀ j : Int, w_ei ws (w_ar ws (n_v vs 0) 1) j = w_ei w1 (w_ar ws (n_v vs 0) 1) j := fun j => s1.1 _ _
  have hK_0_1 := elq_7 hD hth cr_0_1
  have kz_0_10 := fdq_43 hD hth r0
  have kz_0_11 := fdq_237 hD hth r0
  have kz_0_12 := fdq_187 hD hth r0
  have kz_0_13 := fdq_238 hD hth r0
  have kz_0_14 := fdq_188 hD hth r0
  have kz_0_15 := fdq_239 hD hth r0
  have nf0 : fc_1 PRD (20, [2, 2], [30, 0, 1, 1, 15, -1, 1, 11]) ws (vs) := by
    refine ⟨nf_in hl rfl, sgq_1437 ?_⟩
    · show 1 * w_fi ws (n_v vs 2) 15 + ((-1) * w_fi ws (n_v vs 2) 11 + 0) ≤ 0
      rw [q2]
      exact vc_Mo_next_60_0 (v_iv (n_v vs 4)) (v_iv (n_v vs 5)) (v_iv (n_v vs 6)) (w_fi ws (n_v vs 0) 15) (w_fi ws (n_v vs 0) 11) (w_ei ws (w_ar ws (n_v vs 0) 1)) (w_fi ws (n_v vs 0) 10) (w_fi ws (n_v vs 0) 13) (w_fi w1 (n_v vs 0) 15) (w_fi w1 (n_v vs 0) 11) (w_ei w1 (w_ar ws (n_v vs 0) 1)) (w_fi w1 (n_v vs 0) 10) (w_fi w1 (n_v vs 0) 13) k4 k5 k6 g1 g2 f4 f9 fe_0_10_1 fe_0_11_1 fe_0_13_1 fe_0_15_1 hE_0_1_1 hK_0_1 kz_0_10 kz_0_11 kz_0_13 kz_0_15
  have nf1 : fc_1 PRD (20, [2], [50, 3, 0, 12, 11, 15, 2, 21, 4, 7, 1, 3, 2, 0, 12, 0, 1, 0, 3, 2, 0, 11, 4, 3, 2, 0, 15, 0, 8, 3, 7, 1, 3, 2, 0, 12, 0, 0, 0, 7, 4, 3, 2, 0, 15, 0, 1, 2, 0, 11]) ws (vs) := by
    refine ⟨nf_in hl rfl, sgq_1438 ?_⟩
    · show ((w_fi ws (n_v vs 2) 12 = 1) → (w_fi ws (n_v vs 2) 11 ≤ (w_fi ws (n_v vs 2) 15 + 8))) ∧ ((w_fi ws (n_v vs 2) 12 = 0) ∨ ((w_fi ws (n_v vs 2) 15 + 1) ≤ w_fi ws (n_v vs 2) 11))
      rw [q2]
      exact vc_Mo_next_60_1 (v_iv (n_v vs 4)) (v_iv (n_v vs 5)) (v_iv (n_v vs 6)) (w_fi ws (n_v vs 0) 12) (w_fi ws (n_v vs 0) 15) (w_fi ws (n_v vs 0) 11) (w_ei ws (w_ar ws (n_v vs 0) 1)) (w_fi ws (n_v vs 0) 10) (w_fi ws (n_v vs 0) 13) (w_fi w1 (n_v vs 0) 15) (w_fi w1 (n_v vs 0) 11) (w_ei w1 (w_ar ws (n_v vs 0) 1)) (w_fi w1 (n_v vs 0) 10) (w_fi w1 (n_v vs 0) 13) k4 k5 k6 g1 g2 f4 f9 fe_0_10_1 fe_0_11_1 fe_0_13_1 fe_0_15_1 hE_0_1_1 hK_0_1 kz_0_10 kz_0_11 kz_0_12 kz_0_13 kz_0_15
  have nf2 : fc_1 PRD (20, [2, 1], [60, 6, 1, 948, 10, 11, 12, 13, 14, 15, 1]) ws (vs) := by
    refine ⟨nf_in hl rfl, sgq_1439 ?_⟩
    · show TKR (w_fi ws (n_v vs 2) 10) (w_fi ws (n_v vs 2) 11) (w_fi ws (n_v vs 2) 12) (w_fi ws (n_v vs 2) 13) (w_fi ws (n_v vs 2) 14) (w_fi ws (n_v vs 2) 15) (w_ei ws (w_ar ws (n_v vs 2) 1)) (v_iv (n_v vs 1))
      rw [q2]
      exact vc_Mo_next_60_2 (v_iv (n_v vs 1)) (v_iv (n_v vs 4)) (v_iv (n_v vs 5)) (v_iv (n_v vs 6)) (v_iv (n_v vs 7)) (v_iv (n_v vs 8)) (w_fi ws (n_v vs 0) 12) (w_fi ws (n_v vs 0) 15) (w_fi ws (n_v vs 0) 11) (w_ei ws (w_ar ws (n_v vs 0) 1)) (w_fi ws (n_v vs 0) 10) (w_fi ws (n_v vs 0) 13) (w_fi w1 (n_v vs 0) 15) (w_fi w1 (n_v vs 0) 11) (w_ei w1 (w_ar ws (n_v vs 0) 1)) (w_fi w1 (n_v vs 0) 10) (w_fi w1 (n_v vs 0) 13) (w_fi ws (n_v vs 0) 14) k1 k4 k5 k6 k7 k8 g0 g1 g2 f8 f9 f12 fe_0_10_1 fe_0_11_1 fe_0_13_1 fe_0_15_1 hE_0_1_1 kz_0_10 kz_0_11 kz_0_12 kz_0_13 kz_0_14 kz_0_15
  have nf3 : fc_1 PRD (20, [0, 0], [30, 0, 1, 1, 15, -1, 1, 11]) ws (vs) := ⟨nf_in hl rfl, sgq_1437 (vc_Mo_next_60_3 (v_iv (n_v vs 4)) (v_iv (n_v vs 5)) (v_iv (n_v vs 6)) (w_fi ws (n_v vs 0) 15) (w_fi ws (n_v vs 0) 11) (w_ei ws (w_ar ws (n_v vs 0) 1)) (w_fi ws (n_v vs 0) 10) (w_fi ws (n_v vs 0) 13) (w_fi w1 (n_v vs 0) 15) (w_fi w1 (n_v vs 0) 11) (w_ei w1 (w_ar ws (n_v vs 0) 1)) (w_fi w1 (n_v vs 0) 10) (w_fi w1 (n_v vs 0) 13) k4 k5 k6 g1 g2 f4 f9 fe_0_10_1 fe_0_11_1 fe_0_13_1 fe_0_15_1 hE_0_1_1 hK_0_1 kz_0_10 kz_0_11 kz_0_13 kz_0_15)⟩
  have nf4 : fc_1 PRD (20, [0], [50, 3, 0, 12, 11, 15, 2, 21, 4, 7, 1, 3, 2, 0, 12, 0, 1, 0, 3, 2, 0, 11, 4, 3, 2, 0, 15, 0, 8, 3, 7, 1, 3, 2, 0, 12, 0, 0, 0, 7, 4, 3, 2, 0, 15, 0, 1, 2, 0, 11]) ws (vs) := ⟨nf_in hl rfl, sgq_1438 (vc_Mo_next_60_4 (v_iv (n_v vs 4)) (v_iv (n_v vs 5)) (v_iv (n_v vs 6)) (w_fi ws (n_v vs 0) 12) (w_fi ws (n_v vs 0) 15) (w_fi ws (n_v vs 0) 11) (w_ei ws (w_ar ws (n_v vs 0) 1)) (w_fi ws (n_v vs 0) 10) (w_fi ws (n_v vs 0) 13) (w_fi w1 (n_v vs 0) 15) (w_fi w1 (n_v vs 0) 11) (w_ei w1 (w_ar ws (n_v vs 0) 1)) (w_fi w1 (n_v vs 0) 10) (w_fi w1 (n_v vs 0) 13) k4 k5 k6 g1 g2 f4 f9 fe_0_10_1 fe_0_11_1 fe_0_13_1 fe_0_15_1 hE_0_1_1 hK_0_1 kz_0_10 kz_0_11 kz_0_12 kz_0_13 kz_0_15)⟩
  have nf5 : fc_1 PRD (20, [1, 0], [30, 0, 1, 0, 0, -1, 1, 15]) ws (vs) := ⟨nf_in hl rfl, sgq_1436 (vc_Mo_next_60_5 (v_iv (n_v vs 1)) (w_fi ws (n_v vs 0) 15) (w_fi ws (n_v vs 0) 11) (w_ei ws (w_ar ws (n_v vs 0) 1)) (w_fi ws (n_v vs 0) 10) (w_fi ws (n_v vs 0) 13) (w_fi w1 (n_v vs 0) 15) (w_fi w1 (n_v vs 0) 11) (w_ei w1 (w_ar ws (n_v vs 0) 1)) (w_fi w1 (n_v vs 0) 10) (w_fi w1 (n_v vs 0) 13) k1 f10 fe_0_10_1 fe_0_11_1 fe_0_13_1 fe_0_15_1 hE_0_1_1 hK_0_1 kz_0_10 kz_0_11 kz_0_13 kz_0_15)⟩
  have nf6 : fc_1 PRD (20, [0, 1], [60, 6, 1, 948, 10, 11, 12, 13, 14, 15, 1]) ws (vs) := ⟨nf_in hl rfl, sgq_1439 (vc_Mo_next_60_6 (v_iv (n_v vs 1)) (v_iv (n_v vs 4)) (v_iv (n_v vs 5)) (v_iv (n_v vs 6)) (v_iv (n_v vs 7)) (v_iv (n_v vs 8)) (w_fi ws (n_v vs 0) 12) (w_fi ws (n_v vs 0) 15) (w_fi ws (n_v vs 0) 11) (w_ei ws (w_ar ws (n_v vs 0) 1)) (w_fi ws (n_v vs 0) 10) (w_fi ws (n_v vs 0) 13) (w_fi w1 (n_v vs 0) 15) (w_fi w1 (n_v vs 0) 11) (w_ei w1 (w_ar ws (n_v vs 0) 1)) (w_fi w1 (n_v vs 0) 10) (w_fi w1 (n_v vs 0) 13) (w_fi ws (n_v vs 0) 14) k1 k4 k5 k6 k7 k8 g0 g1 g2 f8 f9 f12 fe_0_10_1 fe_0_11_1 fe_0_13_1 fe_0_15_1 hE_0_1_1 kz_0_10 kz_0_11 kz_0_12 kz_0_13 kz_0_14 kz_0_15)⟩
  refine ⟨(fun _ h => (by cases h)), [], trivial, ?_, (fun _ h => (by cases h))⟩
  rw [List.append_nil]
  exact List.forall_mem_cons.mpr ⟨⟨show (20 : Nat) < 100 from by decide, nf0⟩, List.forall_mem_cons.mpr ⟨⟨show (20 : Nat) < 100 from by decide, nf1⟩, List.forall_mem_cons.mpr ⟨⟨show (20 : Nat) < 100 from by decide, nf2⟩, List.forall_mem_cons.mpr ⟨⟨show (20 : Nat) < 100 from by decide, nf3⟩, List.forall_mem_cons.mpr ⟨⟨show (20 : Nat) < 100 from by decide, nf4⟩, List.forall_mem_cons.mpr ⟨⟨show (20 : Nat) < 100 from by decide, nf5⟩, List.forall_mem_cons.mpr ⟨⟨show (20 : Nat) < 100 from by decide, nf6⟩, (fun _ h => (by cases h))⟩⟩⟩⟩⟩⟩⟩
set_option maxHeartbeats 4000000 in
theorem vc_Mo_next_61_0 (x5 : Int) (x6 : Int) (tape_0 : Int → Int) (limit_0 : Int) (pos_0 : Int) (from_0 : Int) (k5 : 0 ≤ x5 ∧ x5 ≤ 2000) (k6 : (-1) ≤ x6 ∧ x6 ≤ (-1)) (f1 : ((x5 + 1) ≤ limit_0) → (x6 = (tape_0 (x5) % 256))) (f2 : (limit_0 ≤ x5) → (x6 = (-1))) (g3 : x5 = pos_0) (f5 : (from_0 ≤ pos_0) ∧ (((from_0 + 1) ≤ pos_0) ∨ ((pos_0 = from_0) ∧ (((from_0 + 1) ≤ limit_0) ∧ ((48 ≤ (tape_0 (from_0) % 256)) ∧ ((tape_0 (from_0) % 256) ≤ 57)))))) (hK_0_1 : ∀ j : Int, 0 ≤ j → j < 2000 → (-128) ≤ tape_0 j ∧ tape_0 j ≤ 127) (kz_0_10 : 0 ≤ limit_0 ∧ limit_0 ≤ 2000) (kz_0_11 : 0 ≤ pos_0 ∧ pos_0 ≤ 2000) (kz_0_15 : 0 ≤ from_0 ∧ from_0 ≤ 2000) : (from_0 + 1) ≤ pos_0 := by
  first | with_reducible assumption | ((have f5_c0 := f5.1); (have f5_c1 := f5.2); (try and_intros) <;> first | with_reducible assumption | (clear f5_c1 f5 hK_0_1 f1 f2; omega)) | ((have f5_c0 := f5.1); (have f5_c1 := f5.2); (first | have f1_b := f1 (by clear f5_c1 f5 hK_0_1 f1 f2; omega) | skip); (first | have f2_b := f2 (by clear f5_c1 f5 hK_0_1 f1 f2; omega) | skip); (first | have f1_d := f1 (by with_reducible assumption) | skip); (first | have f2_d := f2 (by with_reducible assumption) | skip); (try and_intros) <;> first | with_reducible assumption | (clear f5_c1 f5 hK_0_1 f1 f2; omega)) | omega
set_option maxHeartbeats 4000000 in
theorem vc_Mo_next_61_1 (x1 : Int) (x4 : Int) (x5 : Int) (x6 : Int) (value_0 : Int) (tape_0 : Int → Int) (limit_0 : Int) (pos_0 : Int) (from_0 : Int) (place_0 : Int) (k1 : 0 ≤ x1 ∧ x1 ≤ 2000) (k4 : (-49) ≤ x4 ∧ x4 ≤ 1048575) (k5 : 0 ≤ x5 ∧ x5 ≤ 2000) (k6 : (-1) ≤ x6 ∧ x6 ≤ (-1)) (g0 : x4 = value_0) (f1 : ((x5 + 1) ≤ limit_0) → (x6 = (tape_0 (x5) % 256))) (f2 : (limit_0 ≤ x5) → (x6 = (-1))) (g3 : x5 = pos_0) (f5 : (from_0 ≤ pos_0) ∧ (((from_0 + 1) ≤ pos_0) ∨ ((pos_0 = from_0) ∧ (((from_0 + 1) ≤ limit_0) ∧ ((48 ≤ (tape_0 (from_0) % 256)) ∧ ((tape_0 (from_0) % 256) ≤ 57)))))) (f6 : ZXD (limit_0) (pos_0) (place_0) (value_0) (from_0) (tape_0) (x1)) (kz_0_10 : 0 ≤ limit_0 ∧ limit_0 ≤ 2000) (kz_0_11 : 0 ≤ pos_0 ∧ pos_0 ≤ 2000) (kz_0_13 : 0 ≤ place_0 ∧ place_0 ≤ 2000) (kz_0_14 : (-49) ≤ value_0 ∧ value_0 ≤ 1048575) (kz_0_15 : 0 ≤ from_0 ∧ from_0 ≤ 2000) : ZXE (limit_0) (pos_0) (place_0) (value_0) (from_0) (tape_0) (x1) := by
  first | subst g0 | skip
  first | subst g3 | skip
  exact zxe_mk ‹ZXD _ _ _ _ _ _ _› (fun q => by omega)
def o_Mo_next_61 : or_T := (252, 8, [(0, (2, 0, 0, [165])), (1, (0, 0, 2000, [])), (2, (2, 0, 0, [165])), (4, (0, -49, 1048575, [])), (5, (0, 0, 2000, [])), (6, (0, -1, -1, []))], [(9, [4, 2], [14]), (20, [5, 2, 6], [50, 1, 1, 1010, 1001, 4, 11, 0, 6, 4, 2, 1, 0, 0, 1, 2, 1, 10, 1, 2, 1, 2, 9, 5, 3, 1, 1, 1, 0, 0, 256]), (20, [2, 5, 6], [50, 1, 0, 10, 4, 7, 0, 3, 2, 0, 10, 1, 1, 1, 2, 1, 2, 0, -1]), (9, [5, 2], [11]), (20, [1, 2], [30, 0, 1, 0, 0, -1, 1, 15]), (20, [2], [50, 3, 1, 15, 11, 10, 1, 2, 8, 0, 3, 2, 0, 15, 2, 0, 11, 3, 12, 0, 7, 4, 3, 2, 0, 15, 0, 1, 2, 0, 11, 2, 8, 1, 3, 2, 0, 11, 2, 0, 15, 2, 12, 0, 7, 4, 3, 2, 0, 15, 0, 1, 2, 0, 10, 2, 14, 0, 2, 0, 48, 9, 6, 3, 0, 1, 2, 0, 15, 0, 256, 0, 10, 9, 6, 3, 0, 1, 2, 0, 15, 0, 256, 0, 57]), (20, [2, 1], [60, 5, 1, 954, 10, 11, 13, 14, 15, 1]), (24, [0, 2], [])], [], [], [(20, [2], [50, 2, 0, 15, 11, 0, 7, 4, 3, 2, 0, 15, 0, 1, 2, 0, 11]), (20, [2, 1], [60, 5, 1, 955, 10, 11, 13, 14, 15, 1])], [], [])
theorem oo_Mo_next_61 {kA : Nat → ClassId} : or_ok PRD kA GG o_Mo_next_61 := by
  refine or_mk fun A ta ws vs hD hth hl => ?_
  intro t0 r0 t1 k1 t2 r2 t4 k4 t5 k5 t6 k6 f0 f1 f2 f3 f4 f5 f6 f7
  replace f0 := shm_115 f0
  replace f1 := shm_541 f1
  replace f2 := shm_542 f2
  replace f3 := shm_116 f3
  replace f5 := shm_1442 f5
  replace f6 := shm_1443 f6
  replace f7 := shm_5 f7
  have q2 : n_v vs 2 = n_v vs 0 := f7.symm
  simp only [q2] at f0 f1 f2 f3 f5 f6
  have cr_0_1 := fdq_39 hD hth r0
  have g0 : v_iv (n_v vs 4) = w_fi ws (n_v vs 0) 14 := congrArg v_iv f0
  have g3 : v_iv (n_v vs 5) = w_fi ws (n_v vs 0) 11 := congrArg v_iv f3
  have hK_0_1 := elq_7 hD hth cr_0_1
  have kz_0_10 := fdq_43 hD hth r0
  have kz_0_11 := fdq_237 hD hth r0
  have kz_0_13 := fdq_238 hD hth r0
  have kz_0_14 := fdq_188 hD hth r0
  have kz_0_15 := fdq_239 hD hth r0
  have nf0 : fc_1 PRD (20, [2], [50, 2, 0, 15, 11, 0, 7, 4, 3, 2, 0, 15, 0, 1, 2, 0, 11]) ws (vs) := by
    refine ⟨nf_in hl rfl, sgq_1446 ?_⟩
    · show (w_fi ws (n_v vs 2) 15 + 1) ≤ w_fi ws (n_v vs 2) 11
      rw [q2]
      exact vc_Mo_next_61_0 (v_iv (n_v vs 5)) (v_iv (n_v vs 6)) (w_ei ws (w_ar ws (n_v vs 0) 1)) (w_fi ws (n_v vs 0) 10) (w_fi ws (n_v vs 0) 11) (w_fi ws (n_v vs 0) 15) k5 k6 f1 f2 g3 f5 hK_0_1 kz_0_10 kz_0_11 kz_0_15
  have nf1 : fc_1 PRD (20, [2, 1], [60, 5, 1, 955, 10, 11, 13, 14, 15, 1]) ws (vs) := by
    refine ⟨nf_in hl rfl, sgq_1449 ?_⟩
    · show ZXE (w_fi ws (n_v vs 2) 10) (w_fi ws (n_v vs 2) 11) (w_fi ws (n_v vs 2) 13) (w_fi ws (n_v vs 2) 14) (w_fi ws (n_v vs 2) 15) (w_ei ws (w_ar ws (n_v vs 2) 1)) (v_iv (n_v vs 1))
      rw [q2]
      exact vc_Mo_next_61_1 (v_iv (n_v vs 1)) (v_iv (n_v vs 4)) (v_iv (n_v vs 5)) (v_iv (n_v vs 6)) (w_fi ws (n_v vs 0) 14) (w_ei ws (w_ar ws (n_v vs 0) 1)) (w_fi ws (n_v vs 0) 10) (w_fi ws (n_v vs 0) 11) (w_fi ws (n_v vs 0) 15) (w_fi ws (n_v vs 0) 13) k1 k4 k5 k6 g0 f1 f2 g3 f5 f6 kz_0_10 kz_0_11 kz_0_13 kz_0_14 kz_0_15
  refine ⟨(fun _ h => (by cases h)), [], trivial, ?_, (fun _ h => (by cases h))⟩
  rw [List.append_nil]
  exact List.forall_mem_cons.mpr ⟨⟨show (20 : Nat) < 100 from by decide, nf0⟩, List.forall_mem_cons.mpr ⟨⟨show (20 : Nat) < 100 from by decide, nf1⟩, (fun _ h => (by cases h))⟩⟩
set_option maxHeartbeats 4000000 in
theorem vc_Mo_next_62_0 (x1 : Int) (x4 : Int) (x5 : Int) (x6 : Int) (value_0 : Int) (tape_0 : Int → Int) (limit_0 : Int) (pos_0 : Int) (from_0 : Int) (place_0 : Int) (k1 : 0 ≤ x1 ∧ x1 ≤ 2000) (k4 : (-49) ≤ x4 ∧ x4 ≤ 1048575) (k5 : 0 ≤ x5 ∧ x5 ≤ 1999) (k6 : 0 ≤ x6 ∧ x6 ≤ 47) (g0 : x4 = value_0) (f1 : ((x5 + 1) ≤ limit_0) → (x6 = (tape_0 (x5) % 256))) (f2 : (limit_0 ≤ x5) → (x6 = (-1))) (g3 : x5 = pos_0) (f4 : 1 * x1 + ((-1) * from_0 + 0) ≤ 0) (f5 : (from_0 ≤ pos_0) ∧ (((from_0 + 1) ≤ pos_0) ∨ ((pos_0 = from_0) ∧ (((from_0 + 1) ≤ limit_0) ∧ ((48 ≤ (tape_0 (from_0) % 256)) ∧ ((tape_0 (from_0) % 256) ≤ 57)))))) (f6 : ZXD (limit_0) (pos_0) (place_0) (value_0) (from_0) (tape_0) (x1)) (hK_0_1 : ∀ j : Int, 0 ≤ j → j < 2000 → (-128) ≤ tape_0 j ∧ tape_0 j ≤ 127) (kz_0_10 : 0 ≤ limit_0 ∧ limit_0 ≤ 2000) (kz_0_11 : 0 ≤ pos_0 ∧ pos_0 ≤ 2000) (kz_0_13 : 0 ≤ place_0 ∧ place_0 ≤ 2000) (kz_0_14 : (-49) ≤ value_0 ∧ value_0 ≤ 1048575) (kz_0_15 : 0 ≤ from_0 ∧ from_0 ≤ 2000) : (from_0 + 1) ≤ pos_0 := by
  by_cases q : from_0 = x5
  · have e : tape_0 from_0 = tape_0 x5 := by rw [q]
    omega
  · omega
set_option maxHeartbeats 4000000 in
theorem vc_Mo_next_62_1 (x1 : Int) (x4 : Int) (x5 : Int) (x6 : Int) (value_0 : Int) (tape_0 : Int → Int) (limit_0 : Int) (pos_0 : Int) (from_0 : Int) (place_0 : Int) (k1 : 0 ≤ x1 ∧ x1 ≤ 2000) (k4 : (-49) ≤ x4 ∧ x4 ≤ 1048575) (k5 : 0 ≤ x5 ∧ x5 ≤ 1999) (k6 : 0 ≤ x6 ∧ x6 ≤ 47) (g0 : x4 = value_0) (f1 : ((x5 + 1) ≤ limit_0) → (x6 = (tape_0 (x5) % 256))) (f2 : (limit_0 ≤ x5) → (x6 = (-1))) (g3 : x5 = pos_0) (f5 : (from_0 ≤ pos_0) ∧ (((from_0 + 1) ≤ pos_0) ∨ ((pos_0 = from_0) ∧ (((from_0 + 1) ≤ limit_0) ∧ ((48 ≤ (tape_0 (from_0) % 256)) ∧ ((tape_0 (from_0) % 256) ≤ 57)))))) (f6 : ZXD (limit_0) (pos_0) (place_0) (value_0) (from_0) (tape_0) (x1)) (kz_0_10 : 0 ≤ limit_0 ∧ limit_0 ≤ 2000) (kz_0_11 : 0 ≤ pos_0 ∧ pos_0 ≤ 2000) (kz_0_13 : 0 ≤ place_0 ∧ place_0 ≤ 2000) (kz_0_14 : (-49) ≤ value_0 ∧ value_0 ≤ 1048575) (kz_0_15 : 0 ≤ from_0 ∧ from_0 ≤ 2000) : ZXE (limit_0) (pos_0) (place_0) (value_0) (from_0) (tape_0) (x1) := by
  first | subst g0 | skip
  first | subst g3 | skip
  exact zxe_mk ‹ZXD _ _ _ _ _ _ _› (fun q => by omega)
def o_Mo_next_62 : or_T := (252, 8, [(0, (2, 0, 0, [165])), (1, (0, 0, 2000, [])), (2, (2, 0, 0, [165])), (4, (0, -49, 1048575, [])), (5, (0, 0, 1999, [])), (6, (0, 0, 47, []))], [(9, [4, 2], [14]), (20, [5, 2, 6], [50, 1, 1, 1010, 1001, 4, 11, 0, 6, 4, 2, 1, 0, 0, 1, 2, 1, 10, 1, 2, 1, 2, 9, 5, 3, 1, 1, 1, 0, 0, 256]), (20, [2, 5, 6], [50, 1, 0, 10, 4, 7, 0, 3, 2, 0, 10, 1, 1, 1, 2, 1, 2, 0, -1]), (9, [5, 2], [11]), (20, [1, 2], [30, 0, 1, 0, 0, -1, 1, 15]), (20, [2], [50, 3, 1, 15, 11, 10, 1, 2, 8, 0, 3, 2, 0, 15, 2, 0, 11, 3, 12, 0, 7, 4, 3, 2, 0, 15, 0, 1, 2, 0, 11, 2, 8, 1, 3, 2, 0, 11, 2, 0, 15, 2, 12, 0, 7, 4, 3, 2, 0, 15, 0, 1, 2, 0, 10, 2, 14, 0, 2, 0, 48, 9, 6, 3, 0, 1, 2, 0, 15, 0, 256, 0, 10, 9, 6, 3, 0, 1, 2, 0, 15, 0, 256, 0, 57]), (20, [2, 1], [60, 5, 1, 954, 10, 11, 13, 14, 15, 1]), (24, [0, 2], [])], [], [], [(20, [2], [50, 2, 0, 15, 11, 0, 7, 4, 3, 2, 0, 15, 0, 1, 2, 0, 11]), (20, [2, 1], [60, 5, 1, 955, 10, 11, 13, 14, 15, 1])], [], [])
theorem oo_Mo_next_62 {kA : Nat → ClassId} : or_ok PRD kA GG o_Mo_next_62 := by
  refine or_mk fun A ta ws vs hD hth hl => ?_
  intro t0 r0 t1 k1 t2 r2 t4 k4 t5 k5 t6 k6 f0 f1 f2 f3 f4 f5 f6 f7
  replace f0 := shm_115 f0
  replace f1 := shm_541 f1
  replace f2 := shm_542 f2
  replace f3 := shm_116 f3
  replace f4 := shm_1436 f4
  replace f5 := shm_1442 f5
  replace f6 := shm_1443 f6
  replace f7 := shm_5 f7
  have q2 : n_v vs 2 = n_v vs 0 := f7.symm
  simp only [q2] at f0 f1 f2 f3 f4 f5 f6
  have cr_0_1 := fdq_39 hD hth r0
  have g0 : v_iv (n_v vs 4) = w_fi ws (n_v vs 0) 14 := congrArg v_iv f0
  have g3 : v_iv (n_v vs 5) = w_fi ws (n_v vs 0) 11 := congrArg v_iv f3
  have hK_0_1 := elq_7 hD hth cr_0_1
  have kz_0_10 := fdq_43 hD hth r0
  have kz_0_11 := fdq_237 hD hth r0
  have kz_0_13 := fdq_238 hD hth r0
  have kz_0_14 := fdq_188 hD hth r0
  have kz_0_15 := fdq_239 hD hth r0
  have nf0 : fc_1 PRD (20, [2], [50, 2, 0, 15, 11, 0, 7, 4, 3, 2, 0, 15, 0, 1, 2, 0, 11]) ws (vs) := by
    refine ⟨nf_in hl rfl, sgq_1446 ?_⟩
    · show (w_fi ws (n_v vs 2) 15 + 1) ≤ w_fi ws (n_v vs 2) 11
      rw [q2]
      exact vc_Mo_next_62_0 (v_iv (n_v vs 1)) (v_iv (n_v vs 4)) (v_iv (n_v vs 5)) (v_iv (n_v vs 6)) (w_fi ws (n_v vs 0) 14) (w_ei ws (w_ar ws (n_v vs 0) 1)) (w_fi ws (n_v vs 0) 10) (w_fi ws (n_v vs 0) 11) (w_fi ws (n_v vs 0) 15) (w_fi ws (n_v vs 0) 13) k1 k4 k5 k6 g0 f1 f2 g3 f4 f5 f6 hK_0_1 kz_0_10 kz_0_11 kz_0_13 kz_0_14 kz_0_15
  have nf1 : fc_1 PRD (20, [2, 1], [60, 5, 1, 955, 10, 11, 13, 14, 15, 1]) ws (vs) := by
    refine ⟨nf_in hl rfl, sgq_1449 ?_⟩
    · show ZXE (w_fi ws (n_v vs 2) 10) (w_fi ws (n_v vs 2) 11) (w_fi ws (n_v vs 2) 13) (w_fi ws (n_v vs 2) 14) (w_fi ws (n_v vs 2) 15) (w_ei ws (w_ar ws (n_v vs 2) 1)) (v_iv (n_v vs 1))
      rw [q2]
      exact vc_Mo_next_62_1 (v_iv (n_v vs 1)) (v_iv (n_v vs 4)) (v_iv (n_v vs 5)) (v_iv (n_v vs 6)) (w_fi ws (n_v vs 0) 14) (w_ei ws (w_ar ws (n_v vs 0) 1)) (w_fi ws (n_v vs 0) 10) (w_fi ws (n_v vs 0) 11) (w_fi ws (n_v vs 0) 15) (w_fi ws (n_v vs 0) 13) k1 k4 k5 k6 g0 f1 f2 g3 f5 f6 kz_0_10 kz_0_11 kz_0_13 kz_0_14 kz_0_15
  refine ⟨(fun _ h => (by cases h)), [], trivial, ?_, (fun _ h => (by cases h))⟩
  rw [List.append_nil]
  exact List.forall_mem_cons.mpr ⟨⟨show (20 : Nat) < 100 from by decide, nf0⟩, List.forall_mem_cons.mpr ⟨⟨show (20 : Nat) < 100 from by decide, nf1⟩, (fun _ h => (by cases h))⟩⟩
set_option maxHeartbeats 4000000 in
theorem vc_Mo_next_63_0 (x1 : Int) (x4 : Int) (x5 : Int) (x6 : Int) (value_0 : Int) (tape_0 : Int → Int) (limit_0 : Int) (pos_0 : Int) (from_0 : Int) (place_0 : Int) (k1 : 0 ≤ x1 ∧ x1 ≤ 2000) (k4 : (-49) ≤ x4 ∧ x4 ≤ 1048575) (k5 : 0 ≤ x5 ∧ x5 ≤ 1999) (k6 : 58 ≤ x6 ∧ x6 ≤ 255) (g0 : x4 = value_0) (f1 : ((x5 + 1) ≤ limit_0) → (x6 = (tape_0 (x5) % 256))) (f2 : (limit_0 ≤ x5) → (x6 = (-1))) (g3 : x5 = pos_0) (f4 : 1 * x1 + ((-1) * from_0 + 0) ≤ 0) (f5 : (from_0 ≤ pos_0) ∧ (((from_0 + 1) ≤ pos_0) ∨ ((pos_0 = from_0) ∧ (((from_0 + 1) ≤ limit_0) ∧ ((48 ≤ (tape_0 (from_0) % 256)) ∧ ((tape_0 (from_0) % 256) ≤ 57)))))) (f6 : ZXD (limit_0) (pos_0) (place_0) (value_0) (from_0) (tape_0) (x1)) (hK_0_1 : ∀ j : Int, 0 ≤ j → j < 2000 → (-128) ≤ tape_0 j ∧ tape_0 j ≤ 127) (kz_0_10 : 0 ≤ limit_0 ∧ limit_0 ≤ 2000) (kz_0_11 : 0 ≤ pos_0 ∧ pos_0 ≤ 2000) (kz_0_13 : 0 ≤ place_0 ∧ place_0 ≤ 2000) (kz_0_14 : (-49) ≤ value_0 ∧ value_0 ≤ 1048575) (kz_0_15 : 0 ≤ from_0 ∧ from_0 ≤ 2000) : (from_0 + 1) ≤ pos_0 := by
  by_cases q : from_0 = x5
  · have e : tape_0 from_0 = tape_0 x5 := by rw [q]
    omega
  · omega
set_option maxHeartbeats 4000000 in
theorem vc_Mo_next_63_1 (x1 : Int) (x4 : Int) (x5 : Int) (x6 : Int) (value_0 : Int) (tape_0 : Int → Int) (limit_0 : Int) (pos_0 : Int) (from_0 : Int) (place_0 : Int) (k1 : 0 ≤ x1 ∧ x1 ≤ 2000) (k4 : (-49) ≤ x4 ∧ x4 ≤ 1048575) (k5 : 0 ≤ x5 ∧ x5 ≤ 1999) (k6 : 58 ≤ x6 ∧ x6 ≤ 255) (g0 : x4 = value_0) (f1 : ((x5 + 1) ≤ limit_0) → (x6 = (tape_0 (x5) % 256))) (f2 : (limit_0 ≤ x5) → (x6 = (-1))) (g3 : x5 = pos_0) (f5 : (from_0 ≤ pos_0) ∧ (((from_0 + 1) ≤ pos_0) ∨ ((pos_0 = from_0) ∧ (((from_0 + 1) ≤ limit_0) ∧ ((48 ≤ (tape_0 (from_0) % 256)) ∧ ((tape_0 (from_0) % 256) ≤ 57)))))) (f6 : ZXD (limit_0) (pos_0) (place_0) (value_0) (from_0) (tape_0) (x1)) (kz_0_10 : 0 ≤ limit_0 ∧ limit_0 ≤ 2000) (kz_0_11 : 0 ≤ pos_0 ∧ pos_0 ≤ 2000) (kz_0_13 : 0 ≤ place_0 ∧ place_0 ≤ 2000) (kz_0_14 : (-49) ≤ value_0 ∧ value_0 ≤ 1048575) (kz_0_15 : 0 ≤ from_0 ∧ from_0 ≤ 2000) : ZXE (limit_0) (pos_0) (place_0) (value_0) (from_0) (tape_0) (x1) := by
  first | subst g0 | skip
  first | subst g3 | skip
  exact zxe_mk ‹ZXD _ _ _ _ _ _ _› (fun q => by omega)
def o_Mo_next_63 : or_T := (252, 8, [(0, (2, 0, 0, [165])), (1, (0, 0, 2000, [])), (2, (2, 0, 0, [165])), (4, (0, -49, 1048575, [])), (5, (0, 0, 1999, [])), (6, (0, 58, 255, []))], [(9, [4, 2], [14]), (20, [5, 2, 6], [50, 1, 1, 1010, 1001, 4, 11, 0, 6, 4, 2, 1, 0, 0, 1, 2, 1, 10, 1, 2, 1, 2, 9, 5, 3, 1, 1, 1, 0, 0, 256]), (20, [2, 5, 6], [50, 1, 0, 10, 4, 7, 0, 3, 2, 0, 10, 1, 1, 1, 2, 1, 2, 0, -1]), (9, [5, 2], [11]), (20, [1, 2], [30, 0, 1, 0, 0, -1, 1, 15]), (20, [2], [50, 3, 1, 15, 11, 10, 1, 2, 8, 0, 3, 2, 0, 15, 2, 0, 11, 3, 12, 0, 7, 4, 3, 2, 0, 15, 0, 1, 2, 0, 11, 2, 8, 1, 3, 2, 0, 11, 2, 0, 15, 2, 12, 0, 7, 4, 3, 2, 0, 15, 0, 1, 2, 0, 10, 2, 14, 0, 2, 0, 48, 9, 6, 3, 0, 1, 2, 0, 15, 0, 256, 0, 10, 9, 6, 3, 0, 1, 2, 0, 15, 0, 256, 0, 57]), (20, [2, 1], [60, 5, 1, 954, 10, 11, 13, 14, 15, 1]), (24, [0, 2], [])], [], [], [(20, [2], [50, 2, 0, 15, 11, 0, 7, 4, 3, 2, 0, 15, 0, 1, 2, 0, 11]), (20, [2, 1], [60, 5, 1, 955, 10, 11, 13, 14, 15, 1])], [], [])
theorem oo_Mo_next_63 {kA : Nat → ClassId} : or_ok PRD kA GG o_Mo_next_63 := by
  refine or_mk fun A ta ws vs hD hth hl => ?_
  intro t0 r0 t1 k1 t2 r2 t4 k4 t5 k5 t6 k6 f0 f1 f2 f3 f4 f5 f6 f7
  replace f0 := shm_115 f0
  replace f1 := shm_541 f1
  replace f2 := shm_542 f2
  replace f3 := shm_116 f3
  replace f4 := shm_1436 f4
  replace f5 := shm_1442 f5
  replace f6 := shm_1443 f6
  replace f7 := shm_5 f7
  have q2 : n_v vs 2 = n_v vs 0 := f7.symm
  simp only [q2] at f0 f1 f2 f3 f4 f5 f6
  have cr_0_1 := fdq_39 hD hth r0
  have g0 : v_iv (n_v vs 4) = w_fi ws (n_v vs 0) 14 := congrArg v_iv f0
  have g3 : v_iv (n_v vs 5) = w_fi ws (n_v vs 0) 11 := congrArg v_iv f3
  have hK_0_1 := elq_7 hD hth cr_0_1
  have kz_0_10 := fdq_43 hD hth r0
  have kz_0_11 := fdq_237 hD hth r0
  have kz_0_13 := fdq_238 hD hth r0
  have kz_0_14 := fdq_188 hD hth r0
  have kz_0_15 := fdq_239 hD hth r0
  have nf0 : fc_1 PRD (20, [2], [50, 2, 0, 15, 11, 0, 7, 4, 3, 2, 0, 15, 0, 1, 2, 0, 11]) ws (vs) := by
    refine ⟨nf_in hl rfl, sgq_1446 ?_⟩
    · show (w_fi ws (n_v vs 2) 15 + 1) ≤ w_fi ws (n_v vs 2) 11
      rw [q2]
      exact vc_Mo_next_63_0 (v_iv (n_v vs 1)) (v_iv (n_v vs 4)) (v_iv (n_v vs 5)) (v_iv (n_v vs 6)) (w_fi ws (n_v vs 0) 14) (w_ei ws (w_ar ws (n_v vs 0) 1)) (w_fi ws (n_v vs 0) 10) (w_fi ws (n_v vs 0) 11) (w_fi ws (n_v vs 0) 15) (w_fi ws (n_v vs 0) 13) k1 k4 k5 k6 g0 f1 f2 g3 f4 f5 f6 hK_0_1 kz_0_10 kz_0_11 kz_0_13 kz_0_14 kz_0_15
  have nf1 : fc_1 PRD (20, [2, 1], [60, 5, 1, 955, 10, 11, 13, 14, 15, 1]) ws (vs) := by
    refine ⟨nf_in hl rfl, sgq_1449 ?_⟩
    · show ZXE (w_fi ws (n_v vs 2) 10) (w_fi ws (n_v vs 2) 11) (w_fi ws (n_v vs 2) 13) (w_fi ws (n_v vs 2) 14) (w_fi ws (n_v vs 2) 15) (w_ei ws (w_ar ws (n_v vs 2) 1)) (v_iv (n_v vs 1))
      rw [q2]
      exact vc_Mo_next_63_1 (v_iv (n_v vs 1)) (v_iv (n_v vs 4)) (v_iv (n_v vs 5)) (v_iv (n_v vs 6)) (w_fi ws (n_v vs 0) 14) (w_ei ws (w_ar ws (n_v vs 0) 1)) (w_fi ws (n_v vs 0) 10) (w_fi ws (n_v vs 0) 11) (w_fi ws (n_v vs 0) 15) (w_fi ws (n_v vs 0) 13) k1 k4 k5 k6 g0 f1 f2 g3 f5 f6 kz_0_10 kz_0_11 kz_0_13 kz_0_14 kz_0_15
  refine ⟨(fun _ h => (by cases h)), [], trivial, ?_, (fun _ h => (by cases h))⟩
  rw [List.append_nil]
  exact List.forall_mem_cons.mpr ⟨⟨show (20 : Nat) < 100 from by decide, nf0⟩, List.forall_mem_cons.mpr ⟨⟨show (20 : Nat) < 100 from by decide, nf1⟩, (fun _ h => (by cases h))⟩⟩
set_option maxHeartbeats 4000000 in
theorem vc_Mo_next_64_0 (x4 : Int) (x5 : Int) (x6 : Int) (value_0 : Int) (tape_0 : Int → Int) (limit_0 : Int) (pos_0 : Int) (from_0 : Int) (k4 : (-49) ≤ x4 ∧ x4 ≤ 1048575) (k5 : 0 ≤ x5 ∧ x5 ≤ 1999) (k6 : 48 ≤ x6 ∧ x6 ≤ 57) (g0 : x4 = value_0) (f1 : ((x5 + 1) ≤ limit_0) → (x6 = (tape_0 (x5) % 256))) (f2 : (limit_0 ≤ x5) → (x6 = (-1))) (f5 : (from_0 ≤ pos_0) ∧ (((from_0 + 1) ≤ pos_0) ∨ ((pos_0 = from_0) ∧ (((from_0 + 1) ≤ limit_0) ∧ ((48 ≤ (tape_0 (from_0) % 256)) ∧ ((tape_0 (from_0) % 256) ≤ 57)))))) (hK_0_1 : ∀ j : Int, 0 ≤ j → j < 2000 → (-128) ≤ tape_0 j ∧ tape_0 j ≤ 127) (kz_0_10 : 0 ≤ limit_0 ∧ limit_0 ≤ 2000) (kz_0_11 : 0 ≤ pos_0 ∧ pos_0 ≤ 2000) (kz_0_14 : (-49) ≤ value_0 ∧ value_0 ≤ 1048575) (kz_0_15 : 0 ≤ from_0 ∧ from_0 ≤ 2000) : x4 = value_0 := by
  first | with_reducible assumption | ((have f5_c0 := f5.1); (have f5_c1 := f5.2); (try and_intros) <;> first | with_reducible assumption | (clear f5_c1 f5 hK_0_1 f1 f2; omega)) | ((have f5_c0 := f5.1); (have f5_c1 := f5.2); (first | have f1_b := f1 (by clear f5_c1 f5 hK_0_1 f1 f2; omega) | skip); (first | have f2_b := f2 (by clear f5_c1 f5 hK_0_1 f1 f2; omega) | skip); (first | have f1_d := f1 (by with_reducible assumption) | skip); (first | have f2_d := f2 (by with_reducible assumption) | skip); (try and_intros) <;> first | with_reducible assumption | (clear f5_c1 f5 hK_0_1 f1 f2; omega)) | omega
def o_Mo_next_64 : or_T := (204, 8, [(0, (2, 0, 0, [165])), (4, (0, -49, 1048575, [])), (5, (0, 0, 1999, [])), (6, (0, 48, 57, []))], [(9, [4, 2], [14]), (20, [5, 2, 6], [50, 1, 1, 1010, 1001, 4, 11, 0, 6, 4, 2, 1, 0, 0, 1, 2, 1, 10, 1, 2, 1, 2, 9, 5, 3, 1, 1, 1, 0, 0, 256]), (20, [2, 5, 6], [50, 1, 0, 10, 4, 7, 0, 3, 2, 0, 10, 1, 1, 1, 2, 1, 2, 0, -1]), (20, [2], [50, 3, 1, 15, 11, 10, 1, 2, 8, 0, 3, 2, 0, 15, 2, 0, 11, 3, 12, 0, 7, 4, 3, 2, 0, 15, 0, 1, 2, 0, 11, 2, 8, 1, 3, 2, 0, 11, 2, 0, 15, 2, 12, 0, 7, 4, 3, 2, 0, 15, 0, 1, 2, 0, 10, 2, 14, 0, 2, 0, 48, 9, 6, 3, 0, 1, 2, 0, 15, 0, 256, 0, 10, 9, 6, 3, 0, 1, 2, 0, 15, 0, 256, 0, 57]), (24, [0, 2], [])], [], [], [(20, [4, 2], [50, 1, 0, 1014, 1, 2, 1, 0, 2, 1, 14])], [], [])
theorem oo_Mo_next_64 {kA : Nat → ClassId} : or_ok PRD kA GG o_Mo_next_64 := by
  refine or_mk fun A ta ws vs hD hth hl => ?_
  intro t0 r0 t4 k4 t5 k5 t6 k6 f0 f1 f2 f5 f7
  replace f0 := shm_115 f0
  replace f1 := shm_541 f1
  replace f2 := shm_542 f2
  replace f5 := shm_1442 f5
  replace f7 := shm_5 f7
  have q2 : n_v vs 2 = n_v vs 0 := f7.symm
  simp only [q2] at f0 f1 f2 f5
  have cr_0_1 := fdq_39 hD hth r0
  have g0 : v_iv (n_v vs 4) = w_fi ws (n_v vs 0) 14 := congrArg v_iv f0
  have hK_0_1 := elq_7 hD hth cr_0_1
  have kz_0_10 := fdq_43 hD hth r0
  have kz_0_11 := fdq_237 hD hth r0
  have kz_0_14 := fdq_188 hD hth r0
  have kz_0_15 := fdq_239 hD hth r0
  have nf0 : fc_1 PRD (20, [4, 2], [50, 1, 0, 1014, 1, 2, 1, 0, 2, 1, 14]) ws (vs) := by
    refine ⟨nf_in hl rfl, sgq_1450 ?_⟩
    · show v_iv (n_v vs 4) = w_fi ws (n_v vs 2) 14
      rw [q2]
      exact vc_Mo_next_64_0 (v_iv (n_v vs 4)) (v_iv (n_v vs 5)) (v_iv (n_v vs 6)) (w_fi ws (n_v vs 0) 14) (w_ei ws (w_ar ws (n_v vs 0) 1)) (w_fi ws (n_v vs 0) 10) (w_fi ws (n_v vs 0) 11) (w_fi ws (n_v vs 0) 15) k4 k5 k6 g0 f1 f2 f5 hK_0_1 kz_0_10 kz_0_11 kz_0_14 kz_0_15
  refine ⟨(fun _ h => (by cases h)), [], trivial, ?_, (fun _ h => (by cases h))⟩
  rw [List.append_nil]
  exact List.forall_mem_cons.mpr ⟨⟨show (20 : Nat) < 100 from by decide, nf0⟩, (fun _ h => (by cases h))⟩
set_option maxHeartbeats 4000000 in
theorem vc_Mo_next_65_r0 (x1 : Int) (x4 : Int) (value_0 : Int) (tape_0 : Int → Int) (limit_0 : Int) (pos_0 : Int) (from_0 : Int) (place_0 : Int) (k1 : 0 ≤ x1 ∧ x1 ≤ 2000) (k4 : (-49) ≤ x4 ∧ x4 ≤ 99999) (g0 : x4 = value_0) (f8 : ZXD (limit_0) (pos_0) (place_0) (value_0) (from_0) (tape_0) (x1)) (kz_0_10 : 0 ≤ limit_0 ∧ limit_0 ≤ 2000) (kz_0_11 : 0 ≤ pos_0 ∧ pos_0 ≤ 2000) (kz_0_13 : 0 ≤ place_0 ∧ place_0 ≤ 2000) (kz_0_14 : (-49) ≤ value_0 ∧ value_0 ≤ 1048575) (kz_0_15 : 0 ≤ from_0 ∧ from_0 ≤ 2000) : 0 ≤ x4 ∧ x4 ≤ 99999 := by
  have h := (‹ZXD _ _ _ _ _ _ _›).2.2.1
  omega
def o_Mo_next_65 : or_T := (223, 10, [(0, (2, 0, 0, [165])), (1, (0, 0, 2000, [])), (2, (2, 0, 0, [165])), (4, (0, -49, 99999, [])), (5, (0, 0, 1999, [])), (6, (0, 48, 57, [])), (8, (0, 99999, 99999, []))], [(9, [4, 2], [14]), (7, [4, 8], [5]), (20, [4, 2], [50, 1, 0, 1014, 1, 2, 1, 0, 2, 1, 14]), (20, [5, 2, 6], [50, 1, 1, 1010, 1001, 4, 11, 0, 6, 4, 2, 1, 0, 0, 1, 2, 1, 10, 1, 2, 1, 2, 9, 5, 3, 1, 1, 1, 0, 0, 256]), (20, [2, 5, 6], [50, 1, 0, 10, 4, 7, 0, 3, 2, 0, 10, 1, 1, 1, 2, 1, 2, 0, -1]), (9, [5, 2], [11]), (20, [1, 2], [30, 0, 1, 0, 0, -1, 1, 15]), (20, [2], [50, 3, 1, 15, 11, 10, 1, 2, 8, 0, 3, 2, 0, 15, 2, 0, 11, 3, 12, 0, 7, 4, 3, 2, 0, 15, 0, 1, 2, 0, 11, 2, 8, 1, 3, 2, 0, 11, 2, 0, 15, 2, 12, 0, 7, 4, 3, 2, 0, 15, 0, 1, 2, 0, 10, 2, 14, 0, 2, 0, 48, 9, 6, 3, 0, 1, 2, 0, 15, 0, 256, 0, 10, 9, 6, 3, 0, 1, 2, 0, 15, 0, 256, 0, 57]), (20, [2, 1], [60, 5, 1, 954, 10, 11, 13, 14, 15, 1]), (24, [0, 2], [])], [(4, (0, 0, 99999, []))], [], [], [], [])
theorem oo_Mo_next_65 {kA : Nat → ClassId} : or_ok PRD kA GG o_Mo_next_65 := by
  refine or_mk fun A ta ws vs hD hth hl => ?_
  intro t0 r0 t1 k1 t2 r2 t4 k4 t5 k5 t6 k6 t8 k8 f0 f1 f2 f3 f4 f5 f6 f7 f8 f9
  replace f0 := shm_115 f0
  replace f8 := shm_1443 f8
  replace f9 := shm_5 f9
  have q2 : n_v vs 2 = n_v vs 0 := f9.symm
  simp only [q2] at f0 f8
  have g0 : v_iv (n_v vs 4) = w_fi ws (n_v vs 0) 14 := congrArg v_iv f0
  have kz_0_10 := fdq_43 hD hth r0
  have kz_0_11 := fdq_237 hD hth r0
  have kz_0_13 := fdq_238 hD hth r0
  have kz_0_14 := fdq_188 hD hth r0
  have kz_0_15 := fdq_239 hD hth r0
  have hrf0 : 0 ≤ v_iv (n_v vs 4) ∧ v_iv (n_v vs 4) ≤ 99999 := vc_Mo_next_65_r0 (v_iv (n_v vs 1)) (v_iv (n_v vs 4)) (w_fi ws (n_v vs 0) 14) (w_ei ws (w_ar ws (n_v vs 0) 1)) (w_fi ws (n_v vs 0) 10) (w_fi ws (n_v vs 0) 11) (w_fi ws (n_v vs 0) 15) (w_fi ws (n_v vs 0) 13) k1 k4 g0 f8 kz_0_10 kz_0_11 kz_0_13 kz_0_14 kz_0_15
  have rf4 : tv_ok ta (0, 0, 99999, []) (n_v vs 4) := tv_in t4 (by first | omega | grind) (by first | omega | grind)
  refine ⟨List.forall_mem_cons.mpr ⟨rf4, (fun _ h => (by cases h))⟩, [], trivial, ?_, (fun _ h => (by cases h))⟩
  rw [List.append_nil]
  exact (fun _ h => (by cases h))
set_option maxHeartbeats 4000000 in
theorem vc_Mo_next_66_0 (x5 : Int) (x6 : Int) (x11 : Int) (x16 : Int) (pos_0 : Int) (value_0 : Int) (tape_0 : Int → Int) (limit_0 : Int) (from_0 : Int) (pos_1 : Int) (tape_1 : Int → Int) (limit_1 : Int) (from_1 : Int) (tape_2 : Int → Int) (limit_2 : Int) (from_2 : Int) (pos_2 : Int) (place_2 : Int) (place_0 : Int) (place_1 : Int) (value_1 : Int) (k5 : 0 ≤ x5 ∧ x5 ≤ 1999) (k6 : 48 ≤ x6 ∧ x6 ≤ 57) (k11 : (-1) ≤ x11 ∧ x11 ≤ (-1)) (k16 : 1 ≤ x16 ∧ x16 ≤ 2000) (d0 : x5 + 1 ≤ x16 ∧ x16 ≤ x5 + 1) (g0 : x16 = pos_0) (f2 : ((x5 + 1) ≤ limit_0) → (x11 = (tape_0 (x5) % 256))) (f3 : (limit_0 ≤ x5) → (x11 = (-1))) (f4 : ((x5 + 1) ≤ limit_0) → (x6 = (tape_0 (x5) % 256))) (f5 : (limit_0 ≤ x5) → (x6 = (-1))) (g10 : x5 = pos_1) (f11 : ((x5 + 1) ≤ limit_1) → (x11 = (tape_1 (x5) % 256))) (f12 : (limit_1 ≤ x5) → (x11 = (-1))) (f13 : ((x5 + 1) ≤ limit_1) → (x6 = (tape_1 (x5) % 256))) (f14 : (limit_1 ≤ x5) → (x6 = (-1))) (f16 : (from_1 ≤ pos_1) ∧ (((from_1 + 1) ≤ pos_1) ∨ ((pos_1 = from_1) ∧ (((from_1 + 1) ≤ limit_1) ∧ ((48 ≤ (tape_1 (from_1) % 256)) ∧ ((tape_1 (from_1) % 256) ≤ 57)))))) (f20 : ((x5 + 1) ≤ limit_2) → (x11 = (tape_2 (x5) % 256))) (f21 : (limit_2 ≤ x5) → (x11 = (-1))) (f26 : ((x5 + 1) ≤ limit_2) → (x6 = (tape_2 (x5) % 256))) (f27 : (limit_2 ≤ x5) → (x6 = (-1))) (f29 : (from_2 ≤ pos_2) ∧ (((from_2 + 1) ≤ pos_2) ∨ ((pos_2 = from_2) ∧ (((from_2 + 1) ≤ limit_2) ∧ ((48 ≤ (tape_2 (from_2) % 256)) ∧ ((tape_2 (from_2) % 256) ≤ 57)))))) (fe_0_10_1 : limit_0 = limit_1) (fe_0_13_1 : place_0 = place_1) (fe_0_14_1 : value_0 = value_1) (fe_0_15_1 : from_0 = from_1) (fe_0_10_2 : limit_1 = limit_2) (fe_0_11_2 : pos_1 = pos_2) (fe_0_13_2 : place_1 = place_2) (fe_0_15_2 : from_1 = from_2) (hE_0_1_1 : ∀ j : Int, tape_0 j = tape_1 j) (hE_0_1_2 : ∀ j : Int, tape_1 j = tape_2 j) (hK_0_1 : ∀ j : Int, 0 ≤ j → j < 2000 → (-128) ≤ tape_0 j ∧ tape_0 j ≤ 127) (kz_0_10 : 0 ≤ limit_0 ∧ limit_0 ≤ 2000) (kz_0_11 : 0 ≤ pos_0 ∧ pos_0 ≤ 2000) (kz_0_13 : 0 ≤ place_0 ∧ place_0 ≤ 2000) (kz_0_14 : (-49) ≤ value_0 ∧ value_0 ≤ 1048575) (kz_0_15 : 0 ≤ from_0 ∧ from_0 ≤ 2000) : (from_0 ≤ pos_0) ∧ (((from_0 + 1) ≤ pos_0) ∨ ((pos_0 = from_0) ∧ (((from_0 + 1) ≤ limit_0) ∧ ((48 ≤ (tape_0 (from_0) % 256)) ∧ ((tape_0 (from_0) % 256) ≤ 57))))) := by
  subst fe_0_10_1
  subst fe_0_13_1
  subst fe_0_14_1
  subst fe_0_15_1
  subst fe_0_10_2
  subst fe_0_11_2
  subst fe_0_13_2
  subst fe_0_15_2
  have e_hE_0_1_1 := funext hE_0_1_1; subst e_hE_0_1_1
  have e_hE_0_1_2 := funext hE_0_1_2; subst e_hE_0_1_2
  first | with_reducible assumption | ((have f16_c0 := f16.1); (have f16_c1 := f16.2); (have f29_c0 := f29.1); (have f29_c1 := f29.2); (try and_intros) <;> first | with_reducible assumption | (clear f16_c1 f16 f29_c1 f29 hE_0_1_1 hE_0_1_2 hK_0_1 f2 f3 f4 f5 f11 f12 f13 f14 f20 f21 f26 f27; omega)) | ((have f16_c0 := f16.1); (have f16_c1 := f16.2); (have f29_c0 := f29.1); (have f29_c1 := f29.2); (first | have f2_b := f2 (by clear f16_c1 f16 f29_c1 f29 hE_0_1_1 hE_0_1_2 hK_0_1 f2 f3 f4 f5 f11 f12 f13 f14 f20 f21 f26 f27; omega) | skip); (first | have f3_b := f3 (by clear f16_c1 f16 f29_c1 f29 hE_0_1_1 hE_0_1_2 hK_0_1 f2 f3 f4 f5 f11 f12 f13 f14 f20 f21 f26 f27; omega) | skip); (first | have f4_b := f4 (by clear f16_c1 f16 f29_c1 f29 hE_0_1_1 hE_0_1_2 hK_0_1 f2 f3 f4 f5 f11 f12 f13 f14 f20 f21 f26 f27; omega) | skip); (first | have f5_b := f5 (by clear f16_c1 f16 f29_c1 f29 hE_0_1_1 hE_0_1_2 hK_0_1 f2 f3 f4 f5 f11 f12 f13 f14 f20 f21 f26 f27; omega) | skip); (first | have f11_b := f11 (by clear f16_c1 f16 f29_c1 f29 hE_0_1_1 hE_0_1_2 hK_0_1 f2 f3 f4 f5 f11 f12 f13 f14 f20 f21 f26 f27; omega) | skip); (first | have f12_b := f12 (by clear f16_c1 f16 f29_c1 f29 hE_0_1_1 hE_0_1_2 hK_0_1 f2 f3 f4 f5 f11 f12 f13 f14 f20 f21 f26 f27; omega) | skip); (first | have f13_b := f13 (by clear f16_c1 f16 f29_c1 f29 hE_0_1_1 hE_0_1_2 hK_0_1 f2 f3 f4 f5 f11 f12 f13 f14 f20 f21 f26 f27; omega) | skip); (first | have f14_b := f14 (by clear f16_c1 f16 f29_c1 f29 hE_0_1_1 hE_0_1_2 hK_0_1 f2 f3 f4 f5 f11 f12 f13 f14 f20 f21 f26 f27; omega) | skip); (first | have f20_b := f20 (by clear f16_c1 f16 f29_c1 f29 hE_0_1_1 hE_0_1_2 hK_0_1 f2 f3 f4 f5 f11 f12 f13 f14 f20 f21 f26 f27; omega) | skip); (first | have f21_b := f21 (by clear f16_c1 f16 f29_c1 f29 hE_0_1_1 hE_0_1_2 hK_0_1 f2 f3 f4 f5 f11 f12 f13 f14 f20 f21 f26 f27; omega) | skip); (first | have f26_b := f26 (by clear f16_c1 f16 f29_c1 f29 hE_0_1_1 hE_0_1_2 hK_0_1 f2 f3 f4 f5 f11 f12 f13 f14 f20 f21 f26 f27; omega) | skip); (first | have f27_b := f27 (by clear f16_c1 f16 f29_c1 f29 hE_0_1_1 hE_0_1_2 hK_0_1 f2 f3 f4 f5 f11 f12 f13 f14 f20 f21 f26 f27; omega) | skip); (first | have f2_d := f2 (by with_reducible assumption) | skip); (first | have f3_d := f3 (by with_reducible assumption) | skip); (first | have f4_d := f4 (by with_reducible assumption) | skip); (first | have f5_d := f5 (by with_reducible assumption) | skip); (first | have f11_d := f11 (by with_reducible assumption) | skip); (first | have f12_d := f12 (by with_reducible assumption) | skip); (first | have f13_d := f13 (by with_reducible assumption) | skip); (first | have f14_d := f14 (by with_reducible assumption) | skip); (first | have f20_d := f20 (by with_reducible assumption) | skip); (first | have f21_d := f21 (by with_reducible assumption) | skip); (first | have f26_d := f26 (by with_reducible assumption) | skip); (first | have f27_d := f27 (by with_reducible assumption) | skip); (try and_intros) <;> first | with_reducible assumption | (clear f16_c1 f16 f29_c1 f29 hE_0_1_1 hE_0_1_2 hK_0_1 f2 f3 f4 f5 f11 f12 f13 f14 f20 f21 f26 f27; omega)) | omega
set_option maxHeartbeats 4000000 in
theorem vc_Mo_next_66_1 (x1 : Int) (x4 : Int) (x5 : Int) (x6 : Int) (x10 : Int) (x11 : Int) (x14 : Int) (x16 : Int) (pos_0 : Int) (value_0 : Int) (tape_0 : Int → Int) (limit_0 : Int) (from_0 : Int) (pos_1 : Int) (tape_1 : Int → Int) (limit_1 : Int) (from_1 : Int) (tape_2 : Int → Int) (limit_2 : Int) (value_2 : Int) (from_2 : Int) (pos_2 : Int) (place_2 : Int) (place_0 : Int) (place_1 : Int) (value_1 : Int) (k1 : 0 ≤ x1 ∧ x1 ≤ 2000) (k4 : 0 ≤ x4 ∧ x4 ≤ 99999) (k5 : 0 ≤ x5 ∧ x5 ≤ 1999) (k6 : 48 ≤ x6 ∧ x6 ≤ 57) (k10 : 0 ≤ x10 ∧ x10 ≤ 999990) (k11 : (-1) ≤ x11 ∧ x11 ≤ (-1)) (k14 : (-49) ≤ x14 ∧ x14 ≤ 999941) (k16 : 1 ≤ x16 ∧ x16 ≤ 2000) (d0 : x5 + 1 ≤ x16 ∧ x16 ≤ x5 + 1) (d2 : x10 + (-49) ≤ x14 ∧ x14 ≤ x10 + (-49)) (g0 : x16 = pos_0) (g1 : x14 = value_0) (g10 : x5 = pos_1) (f11 : ((x5 + 1) ≤ limit_1) → (x11 = (tape_1 (x5) % 256))) (f13 : ((x5 + 1) ≤ limit_1) → (x6 = (tape_1 (x5) % 256))) (f16 : (from_1 ≤ pos_1) ∧ (((from_1 + 1) ≤ pos_1) ∨ ((pos_1 = from_1) ∧ (((from_1 + 1) ≤ limit_1) ∧ ((48 ≤ (tape_1 (from_1) % 256)) ∧ ((tape_1 (from_1) % 256) ≤ 57)))))) (f20 : ((x5 + 1) ≤ limit_2) → (x11 = (tape_2 (x5) % 256))) (f22 : x10 = 10 * x4) (g23 : x4 = value_2) (f26 : ((x5 + 1) ≤ limit_2) → (x6 = (tape_2 (x5) % 256))) (f27 : (limit_2 ≤ x5) → (x6 = (-1))) (f29 : (from_2 ≤ pos_2) ∧ (((from_2 + 1) ≤ pos_2) ∨ ((pos_2 = from_2) ∧ (((from_2 + 1) ≤ limit_2) ∧ ((48 ≤ (tape_2 (from_2) % 256)) ∧ ((tape_2 (from_2) % 256) ≤ 57)))))) (f30 : ZXD (limit_2) (pos_2) (place_2) (value_2) (from_2) (tape_2) (x1)) (fe_0_10_1 : limit_0 = limit_1) (fe_0_13_1 : place_0 = place_1) (fe_0_14_1 : value_0 = value_1) (fe_0_15_1 : from_0 = from_1) (fe_0_10_2 : limit_1 = limit_2) (fe_0_11_2 : pos_1 = pos_2) (fe_0_13_2 : place_1 = place_2) (fe_0_15_2 : from_1 = from_2) (hE_0_1_1 : ∀ j : Int, tape_0 j = tape_1 j) (hE_0_1_2 : ∀ j : Int, tape_1 j = tape_2 j) (hK_0_1 : ∀ j : Int, 0 ≤ j → j < 2000 → (-128) ≤ tape_0 j ∧ tape_0 j ≤ 127) (kz_0_10 : 0 ≤ limit_0 ∧ limit_0 ≤ 2000) (kz_0_11 : 0 ≤ pos_0 ∧ pos_0 ≤ 2000) (kz_0_13 : 0 ≤ place_0 ∧ place_0 ≤ 2000) (kz_0_14 : (-49) ≤ value_0 ∧ value_0 ≤ 1048575) (kz_0_15 : 0 ≤ from_0 ∧ from_0 ≤ 2000) : ZXD (limit_0) (pos_0) (place_0) (value_0) (from_0) (tape_0) (x1) := by
  subst fe_0_10_1
  subst fe_0_13_1
  subst fe_0_14_1
  subst fe_0_15_1
  subst fe_0_10_2
  subst fe_0_11_2
  subst fe_0_13_2
  subst fe_0_15_2
  have e_hE_0_1_1 := funext hE_0_1_1; subst e_hE_0_1_1
  have e_hE_0_1_2 := funext hE_0_1_2; subst e_hE_0_1_2
  first | subst g0 | skip
  first | subst g1 | skip
  first | subst g10 | skip
  first | subst g23 | skip
  first
    | exact zxd_start (by assumption) ‹ZX1 _ _ _ _› (by omega) (by omega) (by omega) (by omega) (by omega)
    | exact zxd_step (c := tape_0 x5 % 256) (by assumption) ‹ZXD _ _ _ _ _ _ _› (by omega) rfl (by omega) (by omega) (fun q => by omega) (fun q => by omega)
    | exact zxd_step (c := tape_0 x4 % 256) (by assumption) ‹ZXD _ _ _ _ _ _ _› (by omega) rfl (by omega) (by omega) (fun q => by omega) (fun q => by omega)
def o_Mo_next_66 : or_T := (185, 17, [(0, (2, 0, 0, [165])), (1, (0, 0, 2000, [])), (2, (2, 0, 0, [165])), (4, (0, 0, 99999, [])), (5, (0, 0, 1999, [])), (6, (0, 48, 57, [])), (8, (0, 99999, 99999, [])), (9, (0, 10, 10, [])), (10, (0, 0, 999990, [])), (11, (0, -1, -1, [])), (12, (0, -1, 999989, [])), (13, (0, 48, 48, [])), (14, (0, -49, 999941, [])), (15, (0, 1, 1, [])), (16, (0, 1, 2000, []))], [(9, [16, 2], [11]), (9, [14, 2], [14]), (20, [5, 2, 11], [50, 1, 1, 1010, 1001, 4, 11, 0, 6, 4, 2, 1, 0, 0, 1, 2, 1, 10, 1, 2, 1, 2, 9, 5, 3, 1, 1, 1, 0, 0, 256]), (20, [2, 5, 11], [50, 1, 0, 10, 4, 7, 0, 3, 2, 0, 10, 1, 1, 1, 2, 1, 2, 0, -1]), (20, [5, 2, 6], [50, 1, 1, 1010, 1001, 4, 11, 0, 6, 4, 2, 1, 0, 0, 1, 2, 1, 10, 1, 2, 1, 2, 9, 5, 3, 1, 1, 1, 0, 0, 256]), (20, [2, 5, 6], [50, 1, 0, 10, 4, 7, 0, 3, 2, 0, 10, 1, 1, 1, 2, 1, 2, 0, -1]), (20, [1, 2], [30, 0, 1, 0, 0, -1, 1, 15]), (24, [0, 2], []), (101, [2, 16], [11]), (1, [16, 5, 15], []), (9, [5, 2], [11]), (20, [5, 2, 11], [50, 1, 1, 1010, 1001, 4, 11, 0, 6, 4, 2, 1, 0, 0, 1, 2, 1, 10, 1, 2, 1, 2, 9, 5, 3, 1, 1, 1, 0, 0, 256]), (20, [2, 5, 11], [50, 1, 0, 10, 4, 7, 0, 3, 2, 0, 10, 1, 1, 1, 2, 1, 2, 0, -1]), (20, [5, 2, 6], [50, 1, 1, 1010, 1001, 4, 11, 0, 6, 4, 2, 1, 0, 0, 1, 2, 1, 10, 1, 2, 1, 2, 9, 5, 3, 1, 1, 1, 0, 0, 256]), (20, [2, 5, 6], [50, 1, 0, 10, 4, 7, 0, 3, 2, 0, 10, 1, 1, 1, 2, 1, 2, 0, -1]), (20, [1, 2], [30, 0, 1, 0, 0, -1, 1, 15]), (20, [2], [50, 3, 1, 15, 11, 10, 1, 2, 8, 0, 3, 2, 0, 15, 2, 0, 11, 3, 12, 0, 7, 4, 3, 2, 0, 15, 0, 1, 2, 0, 11, 2, 8, 1, 3, 2, 0, 11, 2, 0, 15, 2, 12, 0, 7, 4, 3, 2, 0, 15, 0, 1, 2, 0, 10, 2, 14, 0, 2, 0, 48, 9, 6, 3, 0, 1, 2, 0, 15, 0, 256, 0, 10, 9, 6, 3, 0, 1, 2, 0, 15, 0, 256, 0, 57]), (101, [2, 14], [14]), (2, [14, 12, 13], []), (1, [12, 10, 11], []), (20, [5, 2, 11], [50, 1, 1, 1010, 1001, 4, 11, 0, 6, 4, 2, 1, 0, 0, 1, 2, 1, 10, 1, 2, 1, 2, 9, 5, 3, 1, 1, 1, 0, 0, 256]), (20, [2, 5, 11], [50, 1, 0, 10, 4, 7, 0, 3, 2, 0, 10, 1, 1, 1, 2, 1, 2, 0, -1]), (3, [10, 9, 4], []), (9, [4, 2], [14]), (7, [4, 8], [5]), (20, [4, 2], [50, 1, 0, 1014, 1, 2, 1, 0, 2, 1, 14]), (20, [5, 2, 6], [50, 1, 1, 1010, 1001, 4, 11, 0, 6, 4, 2, 1, 0, 0, 1, 2, 1, 10, 1, 2, 1, 2, 9, 5, 3, 1, 1, 1, 0, 0, 256]), (20, [2, 5, 6], [50, 1, 0, 10, 4, 7, 0, 3, 2, 0, 10, 1, 1, 1, 2, 1, 2, 0, -1]), (20, [1, 2], [30, 0, 1, 0, 0, -1, 1, 15]), (20, [2], [50, 3, 1, 15, 11, 10, 1, 2, 8, 0, 3, 2, 0, 15, 2, 0, 11, 3, 12, 0, 7, 4, 3, 2, 0, 15, 0, 1, 2, 0, 11, 2, 8, 1, 3, 2, 0, 11, 2, 0, 15, 2, 12, 0, 7, 4, 3, 2, 0, 15, 0, 1, 2, 0, 10, 2, 14, 0, 2, 0, 48, 9, 6, 3, 0, 1, 2, 0, 15, 0, 256, 0, 10, 9, 6, 3, 0, 1, 2, 0, 15, 0, 256, 0, 57]), (20, [2, 1], [60, 5, 1, 954, 10, 11, 13, 14, 15, 1])], [], [], [(20, [2], [50, 3, 1, 15, 11, 10, 1, 2, 8, 0, 3, 2, 0, 15, 2, 0, 11, 3, 12, 0, 7, 4, 3, 2, 0, 15, 0, 1, 2, 0, 11, 2, 8, 1, 3, 2, 0, 11, 2, 0, 15, 2, 12, 0, 7, 4, 3, 2, 0, 15, 0, 1, 2, 0, 10, 2, 14, 0, 2, 0, 48, 9, 6, 3, 0, 1, 2, 0, 15, 0, 256, 0, 10, 9, 6, 3, 0, 1, 2, 0, 15, 0, 256, 0, 57]), (20, [2, 1], [60, 5, 1, 954, 10, 11, 13, 14, 15, 1])], [], [(16, 5, 1, 1), (14, 12, -48, -48), (14, 10, -49, -49), (12, 10, -1, -1)])
theorem oo_Mo_next_66 {kA : Nat → ClassId} : or_ok PRD kA GG o_Mo_next_66 := by
  refine or_mk fun A ta ws vs hD hth hl => ?_
  intro t0 r0 t1 k1 t2 r2 t4 k4 t5 k5 t6 k6 t8 k8 t9 k9 t10 k10 t11 k11 t12 k12 t13 k13 t14 k14 t15 k15 t16 k16 d0 d1 d2 d3 f0 f1 f2 f3 f4 f5 f6 f7 ta1 w1 le1 s1 f9 f10 f11 f12 f13 f14 f15 f16 ta2 w2 le2 s2 f18 f19 f20 f21 f22 f23 f24 f25 f26 f27 f28 f29 f30
  replace f0 := shm_116 f0
  replace f1 := shm_115 f1
  replace f2 := shm_541 f2
  replace f3 := shm_542 f3
  replace f4 := shm_541 f4
  replace f5 := shm_542 f5
  replace f7 := shm_5 f7
  have s1 : (∀ b j, w_el ws b j = w_el w1 b j) ∧ ∀ b j, w_fd ws b j = if b = v_ad (n_v vs 2) ∧ j = 11 then n_v vs 16 else w_fd w1 b j := s1.2
  replace f10 := shm_116 f10
  replace f11 := shm_541 f11
  replace f12 := shm_542 f12
  replace f13 := shm_541 f13
  replace f14 := shm_542 f14
  replace f16 := shm_1442 f16
  have s2 : (∀ b j, w_el w1 b j = w_el w2 b j) ∧ ∀ b j, w_fd w1 b j = if b = v_ad (n_v vs 2) ∧ j = 14 then n_v vs 14 else w_fd w2 b j := s2.2
  replace f20 := shm_541 f20
  replace f21 := shm_542 f21
  replace f22 := shm_38 f22
  rw [show v_iv (n_v vs 9) = 10 from by omega] at f22
  replace f23 := shm_115 f23
  replace f26 := shm_541 f26
  replace f27 := shm_542 f27
  replace f29 := shm_1442 f29
  replace f30 := shm_1443 f30
  have q2 : n_v vs 2 = n_v vs 0 := f7.symm
  simp only [q2] at f0 f1 f2 f3 f4 f5
  rw [q2] at s1
  simp only [q2] at f10 f11 f12 f13 f14 f16
  rw [q2] at s2
  simp only [q2] at f20 f21 f23 f26 f27 f29 f30
  have ar_0_1_1 : w_ar w1 (n_v vs 0) 1 = w_ar ws (n_v vs 0) 1 := by show v_ad (w_fd w1 _ _) = v_ad (w_fd ws _ _); rw [s1.2, if_neg (fun e => absurd e.2 (by decide))]
  have ar_0_1_2 : w_ar w2 (n_v vs 0) 1 = w_ar ws (n_v vs 0) 1 := by rw [← ar_0_1_1]; show v_ad (w_fd w2 _ _) = v_ad (w_fd w1 _ _); rw [s2.2, if_neg (fun e => absurd e.2 (by decide))]
  have cr_0_1 := fdq_39 hD hth r0
  have g0 : v_iv (n_v vs 16) = w_fi ws (n_v vs 0) 11 := congrArg v_iv f0
  have g1 : v_iv (n_v vs 14) = w_fi ws (n_v vs 0) 14 := congrArg v_iv f1
  have g10 : v_iv (n_v vs 5) = w_fi w1 (n_v vs 0) 11 := congrArg v_iv f10
  simp only [ar_0_1_1, ar_0_1_2] at f11 f13 f16 f20
  have g23 : v_iv (n_v vs 4) = w_fi w2 (n_v vs 0) 14 := congrArg v_iv f23
  simp only [ar_0_1_2] at f26 f29 f30
  have fe_0_10_1 : w_fi ws (n_v vs 0) 10 = w_fi w1 (n_v vs 0) 10 := by show v_iv (w_fd _ _ _) = v_iv (w_fd _ _ _); rw [s1.2, if_neg (fun e => absurd e.2 (by decide))]
  have fe_0_13_1 : w_fi ws (n_v vs 0) 13 = w_fi w1 (n_v vs 0) 13 := by show v_iv (w_fd _ _ _) = v_iv (w_fd _ _ _); rw [s1.2, if_neg (fun e => absurd e.2 (by decide))]
  have fe_0_14_1 : w_fi ws (n_v vs 0) 14 = w_fi w1 (n_v vs 0) 14 := by show v_iv (w_fd _ _ _) = v_iv (w_fd _ _ _); rw [s1.2, if_neg (fun e => absurd e.2 (by decide))]
  have fe_0_15_1 : w_fi ws (n_v vs 0) 15 = w_fi w1 (n_v vs 0) 15 := by show v_iv (w_fd _ _ _) = v_iv (w_fd _ _ _); rw [s1.2, if_neg (fun e => absurd e.2 (by decide))]
  have fe_0_10_2 : w_fi w1 (n_v vs 0) 10 = w_fi w2 (n_v vs 0) 10 := by show v_iv (w_fd _ _ _) = v_iv (w_fd _ _ _); rw [s2.2, if_neg (fun e => absurd e.2 (by decide))]
  have fe_0_11_2 : w_fi w1 (n_v vs 0) 11 = w_fi w2 (n_v vs 0) 11 := by show v_iv (w_fd _ _ _) = v_iv (w_fd _ _ _); rw [s2.2, if_neg (fun e => absurd e.2 (by decide))]
  have fe_0_13_2 : w_fi w1 (n_v vs 0) 13 = w_fi w2 (n_v vs 0) 13 := by show v_iv (w_fd _ _ _) = v_iv (w_fd _ _ _); rw [s2.2, if_neg (fun e => absurd e.2 (by decide))]
  have fe_0_15_2 : w_fi w1 (n_v vs 0) 15 = w_fi w2 (n_v vs 0) 15 := by show v_iv (w_fd _ _ _) = v_iv (w_fd _ _ _); rw [s2.2, if_neg (fun e => absurd e.2 (by decide))]
  have hE_0_1_1 : ∀ j : Int, w_ei ws (w_ar ws (n_v vs 0) 1) j = w_ei w1 (w_ar ws (n_v vs 0) 1) j := fun j => s1.1 _ _
  have hE_0_1_2 : ∀ j : Int, w_ei w1 (w_ar ws (n_v vs 0) 1) j = w_ei w2 (w_ar ws (n_v vs 0) 1) j := fun j => s2.1 _ _
  have hK_0_1 := elq_7 hD hth cr_0_1
  have kz_0_10 := fdq_43 hD hth r0
  have kz_0_11 := fdq_237 hD hth r0
  have kz_0_13 := fdq_238 hD hth r0
  have kz_0_14 := fdq_188 hD hth r0
  have kz_0_15 := fdq_239 hD hth r0
  have nf0 : fc_1 PRD (20, [2], [50, 3, 1, 15, 11, 10, 1, 2, 8, 0, 3, 2, 0, 15, 2, 0, 11, 3, 12, 0, 7, 4, 3, 2, 0, 15, 0, 1, 2, 0, 11, 2, 8, 1, 3, 2, 0, 11, 2, 0, 15, 2, 12, 0, 7, 4, 3, 2, 0, 15, 0, 1, 2, 0, 10, 2, 14, 0, 2, 0, 48, 9, 6, 3, 0, 1, 2, 0, 15, 0, 256, 0, 10, 9, 6, 3, 0, 1, 2, 0, 15, 0, 256, 0, 57]) ws (vs) := by
    refine ⟨nf_in hl rfl, sgq_1442 ?_⟩
    · show (w_fi ws (n_v vs 2) 15 ≤ w_fi ws (n_v vs 2) 11) ∧ (((w_fi ws (n_v vs 2) 15 + 1) ≤ w_fi ws (n_v vs 2) 11) ∨ ((w_fi ws (n_v vs 2) 11 = w_fi ws (n_v vs 2) 15) ∧ (((w_fi ws (n_v vs 2) 15 + 1) ≤ w_fi ws (n_v vs 2) 10) ∧ ((48 ≤ (w_ei ws (w_ar ws (n_v vs 2) 1) (w_fi ws (n_v vs 2) 15) % 256)) ∧ ((w_ei ws (w_ar ws (n_v vs 2) 1) (w_fi ws (n_v vs 2) 15) % 256) ≤ 57)))))
      rw [q2]
      exact vc_Mo_next_66_0 (v_iv (n_v vs 5)) (v_iv (n_v vs 6)) (v_iv (n_v vs 11)) (v_iv (n_v vs 16)) (w_fi ws (n_v vs 0) 11) (w_fi ws (n_v vs 0) 14) (w_ei ws (w_ar ws (n_v vs 0) 1)) (w_fi ws (n_v vs 0) 10) (w_fi ws (n_v vs 0) 15) (w_fi w1 (n_v vs 0) 11) (w_ei w1 (w_ar ws (n_v vs 0) 1)) (w_fi w1 (n_v vs 0) 10) (w_fi w1 (n_v vs 0) 15) (w_ei w2 (w_ar ws (n_v vs 0) 1)) (w_fi w2 (n_v vs 0) 10) (w_fi w2 (n_v vs 0) 15) (w_fi w2 (n_v vs 0) 11) (w_fi w2 (n_v vs 0) 13) (w_fi ws (n_v vs 0) 13) (w_fi w1 (n_v vs 0) 13) (w_fi w1 (n_v vs 0) 14) k5 k6 k11 k16 d0 g0 f2 f3 f4 f5 g10 f11 f12 f13 f14 f16 f20 f21 f26 f27 f29 fe_0_10_1 fe_0_13_1 fe_0_14_1 fe_0_15_1 fe_0_10_2 fe_0_11_2 fe_0_13_2 fe_0_15_2 hE_0_1_1 hE_0_1_2 hK_0_1 kz_0_10 kz_0_11 kz_0_13 kz_0_14 kz_0_15
  have nf1 : fc_1 PRD (20, [2, 1], [60, 5, 1, 954, 10, 11, 13, 14, 15, 1]) ws (vs) := by
    refine ⟨nf_in hl rfl, sgq_1443 ?_⟩
    · show ZXD (w_fi ws (n_v vs 2) 10) (w_fi ws (n_v vs 2) 11) (w_fi ws (n_v vs 2) 13) (w_fi ws (n_v vs 2) 14) (w_fi ws (n_v vs 2) 15) (w_ei ws (w_ar ws (n_v vs 2) 1)) (v_iv (n_v vs 1))
      rw [q2]
      exact vc_Mo_next_66_1 (v_iv (n_v vs 1)) (v_iv (n_v vs 4)) (v_iv (n_v vs 5)) (v_iv (n_v vs 6)) (v_iv (n_v vs 10)) (v_iv (n_v vs 11)) (v_iv (n_v vs 14)) (v_iv (n_v vs 16)) (w_fi ws (n_v vs 0) 11) (w_fi ws (n_v vs 0) 14) (w_ei ws (w_ar ws (n_v vs 0) 1)) (w_fi ws (n_v vs 0) 10) (w_fi ws (n_v vs 0) 15) (w_fi w1 (n_v vs 0) 11) (w_ei w1 (w_ar ws (n_v vs 0) 1)) (w_fi w1 (n_v vs 0) 10) (w_fi w1 (n_v vs 0) 15) (w_ei w2 (w_ar ws (n_v vs 0) 1)) (w_fi w2 (n_v vs 0) 10) (w_fi w2 (n_v vs 0) 14) (w_fi w2 (n_v vs 0) 15) (w_fi w2 (n_v vs 0) 11) (w_fi w2 (n_v vs 0) 13) (w_fi ws (n_v vs 0) 13) (w_fi w1 (n_v vs 0) 13) (w_fi w1 (n_v vs 0) 14) k1 k4 k5 k6 k10 k11 k14 k16 d0 d2 g0 g1 g10 f11 f13 f16 f20 f22 g23 f26 f27 f29 f30 fe_0_10_1 fe_0_13_1 fe_0_14_1 fe_0_15_1 fe_0_10_2 fe_0_11_2 fe_0_13_2 fe_0_15_2 hE_0_1_1 hE_0_1_2 hK_0_1 kz_0_10 kz_0_11 kz_0_13 kz_0_14 kz_0_15
  refine ⟨(fun _ h => (by cases h)), [], trivial, ?_, (fun _ h => (by cases h))⟩
  rw [List.append_nil]
  exact List.forall_mem_cons.mpr ⟨⟨show (20 : Nat) < 100 from by decide, nf0⟩, List.forall_mem_cons.mpr ⟨⟨show (20 : Nat) < 100 from by decide, nf1⟩, (fun _ h => (by cases h))⟩⟩

set_option maxHeartbeats 4000000 in
theorem vc_Mo_next_67_0 (x5 : Int) (x6 : Int) (x11 : Int) (x16 : Int) (pos_0 : Int) (value_0 : Int) (tape_0 : Int → Int) (limit_0 : Int) (from_0 : Int) (pos_1 : Int) (tape_1 : Int → Int) (limit_1 : Int) (from_1 : Int) (tape_2 : Int → Int) (limit_2 : Int) (from_2 : Int) (pos_2 : Int) (place_2 : Int) (place_0 : Int) (place_1 : Int) (value_1 : Int) (k5 : 0 ≤ x5 ∧ x5 ≤ 1999) (k6 : 48 ≤ x6 ∧ x6 ≤ 57) (k11 : 0 ≤ x11 ∧ x11 ≤ 255) (k16 : 1 ≤ x16 ∧ x16 ≤ 2000) (d0 : x5 + 1 ≤ x16 ∧ x16 ≤ x5 + 1) (g0 : x16 = pos_0) (f2 : ((x5 + 1) ≤ limit_0) → (x11 = (tape_0 (x5) % 256))) (f3 : (limit_0 ≤ x5) → (x11 = (-1))) (f4 : ((x5 + 1) ≤ limit_0) → (x6 = (tape_0 (x5) % 256))) (f5 : (limit_0 ≤ x5) → (x6 = (-1))) (g10 : x5 = pos_1) (f11 : ((x5 + 1) ≤ limit_1) → (x11 = (tape_1 (x5) % 256))) (f12 : (limit_1 ≤ x5) → (x11 = (-1))) (f13 : ((x5 + 1) ≤ limit_1) → (x6 = (tape_1 (x5) % 256))) (f14 : (limit_1 ≤ x5) → (x6 = (-1))) (f16 : (from_1 ≤ pos_1) ∧ (((from_1 + 1) ≤ pos_1) ∨ ((pos_1 = from_1) ∧ (((from_1 + 1) ≤ limit_1) ∧ ((48 ≤ (tape_1 (from_1) % 256)) ∧ ((tape_1 (from_1) % 256) ≤ 57)))))) (f20 : ((x5 + 1) ≤ limit_2) → (x11 = (tape_2 (x5) % 256))) (f21 : (limit_2 ≤ x5) → (x11 = (-1))) (f26 : ((x5 + 1) ≤ limit_2) → (x6 = (tape_2 (x5) % 256))) (f27 : (limit_2 ≤ x5) → (x6 = (-1))) (f29 : (from_2 ≤ pos_2) ∧ (((from_2 + 1) ≤ pos_2) ∨ ((pos_2 = from_2) ∧ (((from_2 + 1) ≤ limit_2) ∧ ((48 ≤ (tape_2 (from_2) % 256)) ∧ ((tape_2 (from_2) % 256) ≤ 57)))))) (fe_0_10_1 : limit_0 = limit_1) (fe_0_13_1 : place_0 = place_1) (fe_0_14_1 : value_0 = value_1) (fe_0_15_1 : from_0 = from_1) (fe_0_10_2 : limit_1 = limit_2) (fe_0_11_2 : pos_1 = pos_2) (fe_0_13_2 : place_1 = place_2) (fe_0_15_2 : from_1 = from_2) (hE_0_1_1 : ∀ j : Int, tape_0 j = tape_1 j) (hE_0_1_2 : ∀ j : Int, tape_1 j = tape_2 j) (hK_0_1 : ∀ j : Int, 0 ≤ j → j < 2000 → (-128) ≤ tape_0 j ∧ tape_0 j ≤ 127) (kz_0_10 : 0 ≤ limit_0 ∧ limit_0 ≤ 2000) (kz_0_11 : 0 ≤ pos_0 ∧ pos_0 ≤ 2000) (kz_0_13 : 0 ≤ place_0 ∧ place_0 ≤ 2000) (kz_0_14 : (-49) ≤ value_0 ∧ value_0 ≤ 1048575) (kz_0_15 : 0 ≤ from_0 ∧ from_0 ≤ 2000) : (from_0 ≤ pos_0) ∧ (((from_0 + 1) ≤ pos_0) ∨ ((pos_0 = from_0) ∧ (((from_0 + 1) ≤ limit_0) ∧ ((48 ≤ (tape_0 (from_0) % 256)) ∧ ((tape_0 (from_0) % 256) ≤ 57))))) := by
  subst fe_0_10_1
  subst fe_0_13_1
  subst fe_0_14_1
  subst fe_0_15_1
  subst fe_0_10_2
  subst fe_0_11_2
  subst fe_0_13_2
  subst fe_0_15_2
  have e_hE_0_1_1 := funext hE_0_1_1; subst e_hE_0_1_1
  have e_hE_0_1_2 := funext hE_0_1_2; subst e_hE_0_1_2
  first | with_reducible assumption | ((have f16_c0 := f16.1); (have f16_c1 := f16.2); (have f29_c0 := f29.1); (have f29_c1 := f29.2); (try and_intros) <;> first | with_reducible assumption | (clear f16_c1 f16 f29_c1 f29 hE_0_1_1 hE_0_1_2 hK_0_1 f2 f3 f4 f5 f11 f12 f13 f14 f20 f21 f26 f27; omega)) | ((have f16_c0 := f16.1); (have f16_c1 := f16.2); (have f29_c0 := f29.1); (have f29_c1 := f29.2); (first | have f2_b := f2 (by clear f16_c1 f16 f29_c1 f29 hE_0_1_1 hE_0_1_2 hK_0_1 f2 f3 f4 f5 f11 f12 f13 f14 f20 f21 f26 f27; omega) | skip); (first | have f3_b := f3 (by clear f16_c1 f16 f29_c1 f29 hE_0_1_1 hE_0_1_2 hK_0_1 f2 f3 f4 f5 f11 f12 f13 f14 f20 f21 f26 f27; omega) | skip); (first | have f4_b := f4 (by clear f16_c1 f16 f29_c1 f29 hE_0_1_1 hE_0_1_2 hK_0_1 f2 f3 f4 f5 f11 f12 f13 f14 f20 f21 f26 f27; omega) | skip); (first | have f5_b := f5 (by clear f16_c1 f16 f29_c1 f29 hE_0_1_1 hE_0_1_2 hK_0_1 f2 f3 f4 f5 f11 f12 f13 f14 f20 f21 f26 f27; omega) | skip); (first | have f11_b := f11 (by clear f16_c1 f16 f29_c1 f29 hE_0_1_1 hE_0_1_2 hK_0_1 f2 f3 f4 f5 f11 f12 f13 f14 f20 f21 f26 f27; omega) | skip); (first | have f12_b := f12 (by clear f16_c1 f16 f29_c1 f29 hE_0_1_1 hE_0_1_2 hK_0_1 f2 f3 f4 f5 f11 f12 f13 f14 f20 f21 f26 f27; omega) | skip); (first | have f13_b := f13 (by clear f16_c1 f16 f29_c1 f29 hE_0_1_1 hE_0_1_2 hK_0_1 f2 f3 f4 f5 f11 f12 f13 f14 f20 f21 f26 f27; omega) | skip); (first | have f14_b := f14 (by clear f16_c1 f16 f29_c1 f29 hE_0_1_1 hE_0_1_2 hK_0_1 f2 f3 f4 f5 f11 f12 f13 f14 f20 f21 f26 f27; omega) | skip); (first | have f20_b := f20 (by clear f16_c1 f16 f29_c1 f29 hE_0_1_1 hE_0_1_2 hK_0_1 f2 f3 f4 f5 f11 f12 f13 f14 f20 f21 f26 f27; omega) | skip); (first | have f21_b := f21 (by clear f16_c1 f16 f29_c1 f29 hE_0_1_1 hE_0_1_2 hK_0_1 f2 f3 f4 f5 f11 f12 f13 f14 f20 f21 f26 f27; omega) | skip); (first | have f26_b := f26 (by clear f16_c1 f16 f29_c1 f29 hE_0_1_1 hE_0_1_2 hK_0_1 f2 f3 f4 f5 f11 f12 f13 f14 f20 f21 f26 f27; omega) | skip); (first | have f27_b := f27 (by clear f16_c1 f16 f29_c1 f29 hE_0_1_1 hE_0_1_2 hK_0_1 f2 f3 f4 f5 f11 f12 f13 f14 f20 f21 f26 f27; omega) | skip); (first | have f2_d := f2 (by with_reducible assumption) | skip); (first | have f3_d := f3 (by with_reducible assumption) | skip); (first | have f4_d := f4 (by with_reducible assumption) | skip); (first | have f5_d := f5 (by with_reducible assumption) | skip); (first | have f11_d := f11 (by with_reducible assumption) | skip); (first | have f12_d := f12 (by with_reducible assumption) | skip); (first | have f13_d := f13 (by with_reducible assumption) | skip); (first | have f14_d := f14 (by with_reducible assumption) | skip); (first | have f20_d := f20 (by with_reducible assumption) | skip); (first | have f21_d := f21 (by with_reducible assumption) | skip); (first | have f26_d := f26 (by with_reducible assumption) | skip); (first | have f27_d := f27 (by with_reducible assumption) | skip); (try and_intros) <;> first | with_reducible assumption | (clear f16_c1 f16 f29_c1 f29 hE_0_1_1 hE_0_1_2 hK_0_1 f2 f3 f4 f5 f11 f12 f13 f14 f20 f21 f26 f27; omega)) | omega
set_option maxHeartbeats 4000000 in
theorem vc_Mo_next_67_1 (x1 : Int) (x4 : Int) (x5 : Int) (x6 : Int) (x10 : Int) (x11 : Int) (x12 : Int) (x14 : Int) (x16 : Int) (pos_0 : Int) (value_0 : Int) (tape_0 : Int → Int) (limit_0 : Int) (from_0 : Int) (pos_1 : Int) (tape_1 : Int → Int) (limit_1 : Int) (from_1 : Int) (tape_2 : Int → Int) (limit_2 : Int) (value_2 : Int) (from_2 : Int) (pos_2 : Int) (place_2 : Int) (place_0 : Int) (place_1 : Int) (value_1 : Int) (k1 : 0 ≤ x1 ∧ x1 ≤ 2000) (k4 : 0 ≤ x4 ∧ x4 ≤ 99999) (k5 : 0 ≤ x5 ∧ x5 ≤ 1999) (k6 : 48 ≤ x6 ∧ x6 ≤ 57) (k10 : 0 ≤ x10 ∧ x10 ≤ 999990) (k11 : 0 ≤ x11 ∧ x11 ≤ 255) (k12 : 0 ≤ x12 ∧ x12 ≤ 1000245) (k14 : (-48) ≤ x14 ∧ x14 ≤ 1000197) (k16 : 1 ≤ x16 ∧ x16 ≤ 2000) (d0 : x5 + 1 ≤ x16 ∧ x16 ≤ x5 + 1) (d1 : x12 + (-48) ≤ x14 ∧ x14 ≤ x12 + (-48)) (g0 : x16 = pos_0) (g1 : x14 = value_0) (g10 : x5 = pos_1) (f11 : ((x5 + 1) ≤ limit_1) → (x11 = (tape_1 (x5) % 256))) (f13 : ((x5 + 1) ≤ limit_1) → (x6 = (tape_1 (x5) % 256))) (f16 : (from_1 ≤ pos_1) ∧ (((from_1 + 1) ≤ pos_1) ∨ ((pos_1 = from_1) ∧ (((from_1 + 1) ≤ limit_1) ∧ ((48 ≤ (tape_1 (from_1) % 256)) ∧ ((tape_1 (from_1) % 256) ≤ 57)))))) (f19 : x12 = x10 + x11) (f20 : ((x5 + 1) ≤ limit_2) → (x11 = (tape_2 (x5) % 256))) (f22 : x10 = 10 * x4) (g23 : x4 = value_2) (f26 : ((x5 + 1) ≤ limit_2) → (x6 = (tape_2 (x5) % 256))) (f27 : (limit_2 ≤ x5) → (x6 = (-1))) (f29 : (from_2 ≤ pos_2) ∧ (((from_2 + 1) ≤ pos_2) ∨ ((pos_2 = from_2) ∧ (((from_2 + 1) ≤ limit_2) ∧ ((48 ≤ (tape_2 (from_2) % 256)) ∧ ((tape_2 (from_2) % 256) ≤ 57)))))) (f30 : ZXD (limit_2) (pos_2) (place_2) (value_2) (from_2) (tape_2) (x1)) (fe_0_10_1 : limit_0 = limit_1) (fe_0_13_1 : place_0 = place_1) (fe_0_14_1 : value_0 = value_1) (fe_0_15_1 : from_0 = from_1) (fe_0_10_2 : limit_1 = limit_2) (fe_0_11_2 : pos_1 = pos_2) (fe_0_13_2 : place_1 = place_2) (fe_0_15_2 : from_1 = from_2) (hE_0_1_1 : ∀ j : Int, tape_0 j = tape_1 j) (hE_0_1_2 : ∀ j : Int, tape_1 j = tape_2 j) (hK_0_1 : ∀ j : Int, 0 ≤ j → j < 2000 → (-128) ≤ tape_0 j ∧ tape_0 j ≤ 127) (kz_0_10 : 0 ≤ limit_0 ∧ limit_0 ≤ 2000) (kz_0_11 : 0 ≤ pos_0 ∧ pos_0 ≤ 2000) (kz_0_13 : 0 ≤ place_0 ∧ place_0 ≤ 2000) (kz_0_14 : (-49) ≤ value_0 ∧ value_0 ≤ 1048575) (kz_0_15 : 0 ≤ from_0 ∧ from_0 ≤ 2000) : ZXD (limit_0) (pos_0) (place_0) (value_0) (from_0) (tape_0) (x1) := by
  subst fe_0_10_1
  subst fe_0_13_1
  subst fe_0_14_1
  subst fe_0_15_1
  subst fe_0_10_2
  subst fe_0_11_2
  subst fe_0_13_2
  subst fe_0_15_2
  have e_hE_0_1_1 := funext hE_0_1_1; subst e_hE_0_1_1
  have e_hE_0_1_2 := funext hE_0_1_2; subst e_hE_0_1_2
  first | subst g0 | skip
  first | subst g1 | skip
  first | subst g10 | skip
  first | subst g23 | skip
  first
    | exact zxd_start (by assumption) ‹ZX1 _ _ _ _› (by omega) (by omega) (by omega) (by omega) (by omega)
    | exact zxd_step (c := tape_0 x5 % 256) (by assumption) ‹ZXD _ _ _ _ _ _ _› (by omega) rfl (by omega) (by omega) (fun q => by omega) (fun q => by omega)
    | exact zxd_step (c := tape_0 x4 % 256) (by assumption) ‹ZXD _ _ _ _ _ _ _› (by omega) rfl (by omega) (by omega) (fun q => by omega) (fun q => by omega)
def o_Mo_next_67 : or_T := (185, 17, [(0, (2, 0, 0, [165])), (1, (0, 0, 2000, [])), (2, (2, 0, 0, [165])), (4, (0, 0, 99999, [])), (5, (0, 0, 1999, [])), (6, (0, 48, 57, [])), (8, (0, 99999, 99999, [])), (9, (0, 10, 10, [])), (10, (0, 0, 999990, [])), (11, (0, 0, 255, [])), (12, (0, 0, 1000245, [])), (13, (0, 48, 48, [])), (14, (0, -48, 1000197, [])), (15, (0, 1, 1, [])), (16, (0, 1, 2000, []))], [(9, [16, 2], [11]), (9, [14, 2], [14]), (20, [5, 2, 11], [50, 1, 1, 1010, 1001, 4, 11, 0, 6, 4, 2, 1, 0, 0, 1, 2, 1, 10, 1, 2, 1, 2, 9, 5, 3, 1, 1, 1, 0, 0, 256]), (20, [2, 5, 11], [50, 1, 0, 10, 4, 7, 0, 3, 2, 0, 10, 1, 1, 1, 2, 1, 2, 0, -1]), (20, [5, 2, 6], [50, 1, 1, 1010, 1001, 4, 11, 0, 6, 4, 2, 1, 0, 0, 1, 2, 1, 10, 1, 2, 1, 2, 9, 5, 3, 1, 1, 1, 0, 0, 256]), (20, [2, 5, 6], [50, 1, 0, 10, 4, 7, 0, 3, 2, 0, 10, 1, 1, 1, 2, 1, 2, 0, -1]), (20, [1, 2], [30, 0, 1, 0, 0, -1, 1, 15]), (24, [0, 2], []), (101, [2, 16], [11]), (1, [16, 5, 15], []), (9, [5, 2], [11]), (20, [5, 2, 11], [50, 1, 1, 1010, 1001, 4, 11, 0, 6, 4, 2, 1, 0, 0, 1, 2, 1, 10, 1, 2, 1, 2, 9, 5, 3, 1, 1, 1, 0, 0, 256]), (20, [2, 5, 11], [50, 1, 0, 10, 4, 7, 0, 3, 2, 0, 10, 1, 1, 1, 2, 1, 2, 0, -1]), (20, [5, 2, 6], [50, 1, 1, 1010, 1001, 4, 11, 0, 6, 4, 2, 1, 0, 0, 1, 2, 1, 10, 1, 2, 1, 2, 9, 5, 3, 1, 1, 1, 0, 0, 256]), (20, [2, 5, 6], [50, 1, 0, 10, 4, 7, 0, 3, 2, 0, 10, 1, 1, 1, 2, 1, 2, 0, -1]), (20, [1, 2], [30, 0, 1, 0, 0, -1, 1, 15]), (20, [2], [50, 3, 1, 15, 11, 10, 1, 2, 8, 0, 3, 2, 0, 15, 2, 0, 11, 3, 12, 0, 7, 4, 3, 2, 0, 15, 0, 1, 2, 0, 11, 2, 8, 1, 3, 2, 0, 11, 2, 0, 15, 2, 12, 0, 7, 4, 3, 2, 0, 15, 0, 1, 2, 0, 10, 2, 14, 0, 2, 0, 48, 9, 6, 3, 0, 1, 2, 0, 15, 0, 256, 0, 10, 9, 6, 3, 0, 1, 2, 0, 15, 0, 256, 0, 57]), (101, [2, 14], [14]), (2, [14, 12, 13], []), (1, [12, 10, 11], []), (20, [5, 2, 11], [50, 1, 1, 1010, 1001, 4, 11, 0, 6, 4, 2, 1, 0, 0, 1, 2, 1, 10, 1, 2, 1, 2, 9, 5, 3, 1, 1, 1, 0, 0, 256]), (20, [2, 5, 11], [50, 1, 0, 10, 4, 7, 0, 3, 2, 0, 10, 1, 1, 1, 2, 1, 2, 0, -1]), (3, [10, 9, 4], []), (9, [4, 2], [14]), (7, [4, 8], [5]), (20, [4, 2], [50, 1, 0, 1014, 1, 2, 1, 0, 2, 1, 14]), (20, [5, 2, 6], [50, 1, 1, 1010, 1001, 4, 11, 0, 6, 4, 2, 1, 0, 0, 1, 2, 1, 10, 1, 2, 1, 2, 9, 5, 3, 1, 1, 1, 0, 0, 256]), (20, [2, 5, 6], [50, 1, 0, 10, 4, 7, 0, 3, 2, 0, 10, 1, 1, 1, 2, 1, 2, 0, -1]), (20, [1, 2], [30, 0, 1, 0, 0, -1, 1, 15]), (20, [2], [50, 3, 1, 15, 11, 10, 1, 2, 8, 0, 3, 2, 0, 15, 2, 0, 11, 3, 12, 0, 7, 4, 3, 2, 0, 15, 0, 1, 2, 0, 11, 2, 8, 1, 3, 2, 0, 11, 2, 0, 15, 2, 12, 0, 7, 4, 3, 2, 0, 15, 0, 1, 2, 0, 10, 2, 14, 0, 2, 0, 48, 9, 6, 3, 0, 1, 2, 0, 15, 0, 256, 0, 10, 9, 6, 3, 0, 1, 2, 0, 15, 0, 256, 0, 57]), (20, [2, 1], [60, 5, 1, 954, 10, 11, 13, 14, 15, 1])], [], [], [(20, [2], [50, 3, 1, 15, 11, 10, 1, 2, 8, 0, 3, 2, 0, 15, 2, 0, 11, 3, 12, 0, 7, 4, 3, 2, 0, 15, 0, 1, 2, 0, 11, 2, 8, 1, 3, 2, 0, 11, 2, 0, 15, 2, 12, 0, 7, 4, 3, 2, 0, 15, 0, 1, 2, 0, 10, 2, 14, 0, 2, 0, 48, 9, 6, 3, 0, 1, 2, 0, 15, 0, 256, 0, 10, 9, 6, 3, 0, 1, 2, 0, 15, 0, 256, 0, 57]), (20, [2, 1], [60, 5, 1, 954, 10, 11, 13, 14, 15, 1])], [], [(16, 5, 1, 1), (14, 12, -48, -48), (14, 11, -48, 999942), (14, 10, -48, 207), (12, 11, 0, 999990), (12, 10, 0, 255)])
theorem oo_Mo_next_67 {kA : Nat → ClassId} : or_ok PRD kA GG o_Mo_next_67 := by
  refine or_mk fun A ta ws vs hD hth hl => ?_
  intro t0 r0 t1 k1 t2 r2 t4 k4 t5 k5 t6 k6 t8 k8 t9 k9 t10 k10 t11 k11 t12 k12 t13 k13 t14 k14 t15 k15 t16 k16 d0 d1 d2 d3 d4 d5 f0 f1 f2 f3 f4 f5 f6 f7 ta1 w1 le1 s1 f9 f10 f11 f12 f13 f14 f15 f16 ta2 w2 le2 s2 f18 f19 f20 f21 f22 f23 f24 f25 f26 f27 f28 f29 f30
  replace f0 := shm_116 f0
  replace f1 := shm_115 f1
  replace f2 := shm_541 f2
  replace f3 := shm_542 f3
  replace f4 := shm_541 f4
  replace f5 := shm_542 f5
  replace f7 := shm_5 f7
  have s1 : (∀ b j, w_el ws b j = w_el w1 b j) ∧ ∀ b j, w_fd ws b j = if b = v_ad (n_v vs 2) ∧ j = 11 then n_v vs 16 else w_fd w1 b j := s1.2
  replace f10 := shm_116 f10
  replace f11 := shm_541 f11
  replace f12 := shm_542 f12
  replace f13 := shm_541 f13
  replace f14 := shm_542 f14
  replace f16 := shm_1442 f16
  have s2 : (∀ b j, w_el w1 b j = w_el w2 b j) ∧ ∀ b j, w_fd w1 b j = if b = v_ad (n_v vs 2) ∧ j = 14 then n_v vs 14 else w_fd w2 b j := s2.2
  replace f19 := shm_12 f19
  replace f20 := shm_541 f20
  replace f21 := shm_542 f21
  replace f22 := shm_38 f22
  rw [show v_iv (n_v vs 9) = 10 from by omega] at f22
  replace f23 := shm_115 f23
  replace f26 := shm_541 f26
  replace f27 := shm_542 f27
  replace f29 := shm_1442 f29
  replace f30 := shm_1443 f30
  have q2 : n_v vs 2 = n_v vs 0 := f7.symm
  simp only [q2] at f0 f1 f2 f3 f4 f5
  rw [q2] at s1
  simp only [q2] at f10 f11 f12 f13 f14 f16
  rw [q2] at s2
  simp only [q2] at f20 f21 f23 f26 f27 f29 f30
  have ar_0_1_1 : w_ar w1 (n_v vs 0) 1 = w_ar ws (n_v vs 0) 1 := by show v_ad (w_fd w1 _ _) = v_ad (w_fd ws _ _); rw [s1.2, if_neg (fun e => absurd e.2 (by decide))]
  have ar_0_1_2 : w_ar w2 (n_v vs 0) 1 = w_ar ws (n_v vs 0) 1 := by rw [← ar_0_1_1]; show v_ad (w_fd w2 _ _) = v_ad (w_fd w1 _ _); rw [s2.2, if_neg (fun e => absurd e.2 (by decide))]
  have cr_0_1 := fdq_39 hD hth r0
  have g0 : v_iv (n_v vs 16) = w_fi ws (n_v vs 0) 11 := congrArg v_iv f0
  have g1 : v_iv (n_v vs 14) = w_fi ws (n_v vs 0) 14 := congrArg v_iv f1
  have g10 : v_iv (n_v vs 5) = w_fi w1 (n_v vs 0) 11 := congrArg v_iv f10
  simp only [ar_0_1_1, ar_0_1_2] at f11 f13 f16 f20
  have g23 : v_iv (n_v vs 4) = w_fi w2 (n_v vs 0) 14 := congrArg v_iv f23
  simp only [ar_0_1_2] at f26 f29 f30
  have fe_0_10_1 : w_fi ws (n_v vs 0) 10 = w_fi w1 (n_v vs 0) 10 := by show v_iv (w_fd _ _ _) = v_iv (w_fd _ _ _); rw [s1.2, if_neg (fun e => absurd e.2 (by decide))]
  have fe_0_13_1 : w_fi ws (n_v vs 0) 13 = w_fi w1 (n_v vs 0) 13 := by show v_iv (w_fd _ _ _) = v_iv (w_fd _ _ _); rw [s1.2, if_neg (fun e => absurd e.2 (by decide))]
  have fe_0_14_1 : w_fi ws (n_v vs 0) 14 = w_fi w1 (n_v vs 0) 14 := by show v_iv (w_fd _ _ _) = v_iv (w_fd _ _ _); rw [s1.2, if_neg (fun e => absurd e.2 (by decide))]
  have fe_0_15_1 : w_fi ws (n_v vs 0) 15 = w_fi w1 (n_v vs 0) 15 := by show v_iv (w_fd _ _ _) = v_iv (w_fd _ _ _); rw [s1.2, if_neg (fun e => absurd e.2 (by decide))]
  have fe_0_10_2 : w_fi w1 (n_v vs 0) 10 = w_fi w2 (n_v vs 0) 10 := by show v_iv (w_fd _ _ _) = v_iv (w_fd _ _ _); rw [s2.2, if_neg (fun e => absurd e.2 (by decide))]
  have fe_0_11_2 : w_fi w1 (n_v vs 0) 11 = w_fi w2 (n_v vs 0) 11 := by show v_iv (w_fd _ _ _) = v_iv (w_fd _ _ _); rw [s2.2, if_neg (fun e => absurd e.2 (by decide))]
  have fe_0_13_2 : w_fi w1 (n_v vs 0) 13 = w_fi w2 (n_v vs 0) 13 := by show v_iv (w_fd _ _ _) = v_iv (w_fd _ _ _); rw [s2.2, if_neg (fun e => absurd e.2 (by decide))]
  have fe_0_15_2 : w_fi w1 (n_v vs 0) 15 = w_fi w2 (n_v vs 0) 15 := by show v_iv (w_fd _ _ _) = v_iv (w_fd _ _ _); rw [s2.2, if_neg (fun e => absurd e.2 (by decide))]
  have hE_0_1_1 : ∀ j : Int, w_ei ws (w_ar ws (n_v vs 0) 1) j = w_ei w1 (w_ar ws (n_v vs 0) 1) j := fun j => s1.1 _ _
  have hE_0_1_2 : ∀ j : Int, w_ei w1 (w_ar ws (n_v vs 0) 1) j = w_ei w2 (w_ar ws (n_v vs 0) 1) j := fun j => s2.1 _ _
  have hK_0_1 := elq_7 hD hth cr_0_1
  have kz_0_10 := fdq_43 hD hth r0
  have kz_0_11 := fdq_237 hD hth r0
  have kz_0_13 := fdq_238 hD hth r0
  have kz_0_14 := fdq_188 hD hth r0
  have kz_0_15 := fdq_239 hD hth r0
  have nf0 : fc_1 PRD (20, [2], [50, 3, 1, 15, 11, 10, 1, 2, 8, 0, 3, 2, 0, 15, 2, 0, 11, 3, 12, 0, 7, 4, 3, 2, 0, 15, 0, 1, 2, 0, 11, 2, 8, 1, 3, 2, 0, 11, 2, 0, 15, 2, 12, 0, 7, 4, 3, 2, 0, 15, 0, 1, 2, 0, 10, 2, 14, 0, 2, 0, 48, 9, 6, 3, 0, 1, 2, 0, 15, 0, 256, 0, 10, 9, 6, 3, 0, 1, 2, 0, 15, 0, 256, 0, 57]) ws (vs) := by
    refine ⟨nf_in hl rfl, sgq_1442 ?_⟩
    · show (w_fi ws (n_v vs 2) 15 ≤ w_fi ws (n_v vs 2) 11) ∧ (((w_fi ws (n_v vs 2) 15 + 1) ≤ w_fi ws (n_v vs 2) 11) ∨ ((w_fi ws (n_v vs 2) 11 = w_fi ws (n_v vs 2) 15) ∧ (((w_fi ws (n_v vs 2) 15 + 1) ≤ w_fi ws (n_v vs 2) 10) ∧ ((48 ≤ (w_ei ws (w_ar ws (n_v vs 2) 1) (w_fi ws (n_v vs 2) 15) % 256)) ∧ ((w_ei ws (w_ar ws (n_v vs 2) 1) (w_fi ws (n_v vs 2) 15) % 256) ≤ 57)))))
      rw [q2]
      exact vc_Mo_next_67_0 (v_iv (n_v vs 5)) (v_iv (n_v vs 6)) (v_iv (n_v vs 11)) (v_iv (n_v vs 16)) (w_fi ws (n_v vs 0) 11) (w_fi ws (n_v vs 0) 14) (w_ei ws (w_ar ws (n_v vs 0) 1)) (w_fi ws (n_v vs 0) 10) (w_fi ws (n_v vs 0) 15) (w_fi w1 (n_v vs 0) 11) (w_ei w1 (w_ar ws (n_v vs 0) 1)) (w_fi w1 (n_v vs 0) 10) (w_fi w1 (n_v vs 0) 15) (w_ei w2 (w_ar ws (n_v vs 0) 1)) (w_fi w2 (n_v vs 0) 10) (w_fi w2 (n_v vs 0) 15) (w_fi w2 (n_v vs 0) 11) (w_fi w2 (n_v vs 0) 13) (w_fi ws (n_v vs 0) 13) (w_fi w1 (n_v vs 0) 13) (w_fi w1 (n_v vs 0) 14) k5 k6 k11 k16 d0 g0 f2 f3 f4 f5 g10 f11 f12 f13 f14 f16 f20 f21 f26 f27 f29 fe_0_10_1 fe_0_13_1 fe_0_14_1 fe_0_15_1 fe_0_10_2 fe_0_11_2 fe_0_13_2 fe_0_15_2 hE_0_1_1 hE_0_1_2 hK_0_1 kz_0_10 kz_0_11 kz_0_13 kz_0_14 kz_0_15
  have nf1 : fc_1 PRD (20, [2, 1], [60, 5, 1, 954, 10, 11, 13, 14, 15, 1]) ws (vs) := by
    refine ⟨nf_in hl rfl, sgq_1443 ?_⟩
    · show ZXD (w_fi ws (n_v vs 2) 10) (w_fi ws (n_v vs 2) 11) (w_fi ws (n_v vs 2) 13) (w_fi ws (n_v vs 2) 14) (w_fi ws (n_v vs 2) 15) (w_ei ws (w_ar ws (n_v vs 2) 1)) (v_iv (n_v vs 1))
      rw [q2]
      exact vc_Mo_next_67_1 (v_iv (n_v vs 1)) (v_iv (n_v vs 4)) (v_iv (n_v vs 5)) (v_iv (n_v vs 6)) (v_iv (n_v vs 10)) (v_iv (n_v vs 11)) (v_iv (n_v vs 12)) (v_iv (n_v vs 14)) (v_iv (n_v vs 16)) (w_fi ws (n_v vs 0) 11) (w_fi ws (n_v vs 0) 14) (w_ei ws (w_ar ws (n_v vs 0) 1)) (w_fi ws (n_v vs 0) 10) (w_fi ws (n_v vs 0) 15) (w_fi w1 (n_v vs 0) 11) (w_ei w1 (w_ar ws (n_v vs 0) 1)) (w_fi w1 (n_v vs 0) 10) (w_fi w1 (n_v vs 0) 15) (w_ei w2 (w_ar ws (n_v vs 0) 1)) (w_fi w2 (n_v vs 0) 10) (w_fi w2 (n_v vs 0) 14) (w_fi w2 (n_v vs 0) 15) (w_fi w2 (n_v vs 0) 11) (w_fi w2 (n_v vs 0) 13) (w_fi ws (n_v vs 0) 13) (w_fi w1 (n_v vs 0) 13) (w_fi w1 (n_v vs 0) 14) k1 k4 k5 k6 k10 k11 k12 k14 k16 d0 d1 g0 g1 g10 f11 f13 f16 f19 f20 f22 g23 f26 f27 f29 f30 fe_0_10_1 fe_0_13_1 fe_0_14_1 fe_0_15_1 fe_0_10_2 fe_0_11_2 fe_0_13_2 fe_0_15_2 hE_0_1_1 hE_0_1_2 hK_0_1 kz_0_10 kz_0_11 kz_0_13 kz_0_14 kz_0_15
  refine ⟨(fun _ h => (by cases h)), [], trivial, ?_, (fun _ h => (by cases h))⟩
  rw [List.append_nil]
  exact List.forall_mem_cons.mpr ⟨⟨show (20 : Nat) < 100 from by decide, nf0⟩, List.forall_mem_cons.mpr ⟨⟨show (20 : Nat) < 100 from by decide, nf1⟩, (fun _ h => (by cases h))⟩⟩
set_option maxHeartbeats 4000000 in
theorem vc_Mo_next_68_0 (x5 : Int) (x6 : Int) (x10 : Int) (pos_0 : Int) (value_0 : Int) (tape_0 : Int → Int) (limit_0 : Int) (from_0 : Int) (pos_1 : Int) (tape_1 : Int → Int) (limit_1 : Int) (from_1 : Int) (tape_2 : Int → Int) (limit_2 : Int) (from_2 : Int) (pos_2 : Int) (place_2 : Int) (place_0 : Int) (place_1 : Int) (value_1 : Int) (k5 : 0 ≤ x5 ∧ x5 ≤ 1999) (k6 : 48 ≤ x6 ∧ x6 ≤ 57) (k10 : 1 ≤ x10 ∧ x10 ≤ 2000) (d0 : x5 + 1 ≤ x10 ∧ x10 ≤ x5 + 1) (g0 : x10 = pos_0) (f2 : ((x5 + 1) ≤ limit_0) → (x6 = (tape_0 (x5) % 256))) (f3 : (limit_0 ≤ x5) → (x6 = (-1))) (g8 : x5 = pos_1) (f9 : ((x5 + 1) ≤ limit_1) → (x6 = (tape_1 (x5) % 256))) (f10 : (limit_1 ≤ x5) → (x6 = (-1))) (f12 : (from_1 ≤ pos_1) ∧ (((from_1 + 1) ≤ pos_1) ∨ ((pos_1 = from_1) ∧ (((from_1 + 1) ≤ limit_1) ∧ ((48 ≤ (tape_1 (from_1) % 256)) ∧ ((tape_1 (from_1) % 256) ≤ 57)))))) (f16 : ((x5 + 1) ≤ limit_2) → (x6 = (tape_2 (x5) % 256))) (f17 : (limit_2 ≤ x5) → (x6 = (-1))) (f19 : (from_2 ≤ pos_2) ∧ (((from_2 + 1) ≤ pos_2) ∨ ((pos_2 = from_2) ∧ (((from_2 + 1) ≤ limit_2) ∧ ((48 ≤ (tape_2 (from_2) % 256)) ∧ ((tape_2 (from_2) % 256) ≤ 57)))))) (fe_0_10_1 : limit_0 = limit_1) (fe_0_13_1 : place_0 = place_1) (fe_0_14_1 : value_0 = value_1) (fe_0_15_1 : from_0 = from_1) (fe_0_10_2 : limit_1 = limit_2) (fe_0_11_2 : pos_1 = pos_2) (fe_0_13_2 : place_1 = place_2) (fe_0_15_2 : from_1 = from_2) (hE_0_1_1 : ∀ j : Int, tape_0 j = tape_1 j) (hE_0_1_2 : ∀ j : Int, tape_1 j = tape_2 j) (hK_0_1 : ∀ j : Int, 0 ≤ j → j < 2000 → (-128) ≤ tape_0 j ∧ tape_0 j ≤ 127) (kz_0_10 : 0 ≤ limit_0 ∧ limit_0 ≤ 2000) (kz_0_11 : 0 ≤ pos_0 ∧ pos_0 ≤ 2000) (kz_0_13 : 0 ≤ place_0 ∧ place_0 ≤ 2000) (kz_0_14 : (-49) ≤ value_0 ∧ value_0 ≤ 1048575) (kz_0_15 : 0 ≤ from_0 ∧ from_0 ≤ 2000) : (from_0 ≤ pos_0) ∧ (((from_0 + 1) ≤ pos_0) ∨ ((pos_0 = from_0) ∧ (((from_0 + 1) ≤ limit_0) ∧ ((48 ≤ (tape_0 (from_0) % 256)) ∧ ((tape_0 (from_0) % 256) ≤ 57))))) := by
  subst fe_0_10_1
  subst fe_0_13_1
  subst fe_0_14_1
  subst fe_0_15_1
  subst fe_0_10_2
  subst fe_0_11_2
  subst fe_0_13_2
  subst fe_0_15_2
  have e_hE_0_1_1 := funext hE_0_1_1; subst e_hE_0_1_1
  have e_hE_0_1_2 := funext hE_0_1_2; subst e_hE_0_1_2
  first | with_reducible assumption | ((have f12_c0 := f12.1); (have f12_c1 := f12.2); (have f19_c0 := f19.1); (have f19_c1 := f19.2); (try and_intros) <;> first | with_reducible assumption | (clear f12_c1 f12 f19_c1 f19 hE_0_1_1 hE_0_1_2 hK_0_1 f2 f3 f9 f10 f16 f17; omega)) | ((have f12_c0 := f12.1); (have f12_c1 := f12.2); (have f19_c0 := f19.1); (have f19_c1 := f19.2); (first | have f2_b := f2 (by clear f12_c1 f12 f19_c1 f19 hE_0_1_1 hE_0_1_2 hK_0_1 f2 f3 f9 f10 f16 f17; omega) | skip); (first | have f3_b := f3 (by clear f12_c1 f12 f19_c1 f19 hE_0_1_1 hE_0_1_2 hK_0_1 f2 f3 f9 f10 f16 f17; omega) | skip); (first | have f9_b := f9 (by clear f12_c1 f12 f19_c1 f19 hE_0_1_1 hE_0_1_2 hK_0_1 f2 f3 f9 f10 f16 f17; omega) | skip); (first | have f10_b := f10 (by clear f12_c1 f12 f19_c1 f19 hE_0_1_1 hE_0_1_2 hK_0_1 f2 f3 f9 f10 f16 f17; omega) | skip); (first | have f16_b := f16 (by clear f12_c1 f12 f19_c1 f19 hE_0_1_1 hE_0_1_2 hK_0_1 f2 f3 f9 f10 f16 f17; omega) | skip); (first | have f17_b := f17 (by clear f12_c1 f12 f19_c1 f19 hE_0_1_1 hE_0_1_2 hK_0_1 f2 f3 f9 f10 f16 f17; omega) | skip); (first | have f2_d := f2 (by with_reducible assumption) | skip); (first | have f3_d := f3 (by with_reducible assumption) | skip); (first | have f9_d := f9 (by with_reducible assumption) | skip); (first | have f10_d := f10 (by with_reducible assumption) | skip); (first | have f16_d := f16 (by with_reducible assumption) | skip); (first | have f17_d := f17 (by with_reducible assumption) | skip); (try and_intros) <;> first | with_reducible assumption | (clear f12_c1 f12 f19_c1 f19 hE_0_1_1 hE_0_1_2 hK_0_1 f2 f3 f9 f10 f16 f17; omega)) | omega
set_option maxHeartbeats 4000000 in
theorem vc_Mo_next_68_1 (x1 : Int) (x4 : Int) (x5 : Int) (x6 : Int) (x10 : Int) (pos_0 : Int) (value_0 : Int) (tape_0 : Int → Int) (limit_0 : Int) (from_0 : Int) (pos_1 : Int) (tape_1 : Int → Int) (limit_1 : Int) (from_1 : Int) (value_2 : Int) (tape_2 : Int → Int) (limit_2 : Int) (from_2 : Int) (pos_2 : Int) (place_2 : Int) (place_0 : Int) (place_1 : Int) (value_1 : Int) (k1 : 0 ≤ x1 ∧ x1 ≤ 2000) (k4 : 100000 ≤ x4 ∧ x4 ≤ 1048575) (k5 : 0 ≤ x5 ∧ x5 ≤ 1999) (k6 : 48 ≤ x6 ∧ x6 ≤ 57) (k10 : 1 ≤ x10 ∧ x10 ≤ 2000) (d0 : x5 + 1 ≤ x10 ∧ x10 ≤ x5 + 1) (g0 : x10 = pos_0) (g1 : x4 = value_0) (g8 : x5 = pos_1) (f9 : ((x5 + 1) ≤ limit_1) → (x6 = (tape_1 (x5) % 256))) (f12 : (from_1 ≤ pos_1) ∧ (((from_1 + 1) ≤ pos_1) ∨ ((pos_1 = from_1) ∧ (((from_1 + 1) ≤ limit_1) ∧ ((48 ≤ (tape_1 (from_1) % 256)) ∧ ((tape_1 (from_1) % 256) ≤ 57)))))) (f15 : x4 = value_2) (f16 : ((x5 + 1) ≤ limit_2) → (x6 = (tape_2 (x5) % 256))) (f17 : (limit_2 ≤ x5) → (x6 = (-1))) (f19 : (from_2 ≤ pos_2) ∧ (((from_2 + 1) ≤ pos_2) ∨ ((pos_2 = from_2) ∧ (((from_2 + 1) ≤ limit_2) ∧ ((48 ≤ (tape_2 (from_2) % 256)) ∧ ((tape_2 (from_2) % 256) ≤ 57)))))) (f20 : ZXD (limit_2) (pos_2) (place_2) (value_2) (from_2) (tape_2) (x1)) (fe_0_10_1 : limit_0 = limit_1) (fe_0_13_1 : place_0 = place_1) (fe_0_14_1 : value_0 = value_1) (fe_0_15_1 : from_0 = from_1) (fe_0_10_2 : limit_1 = limit_2) (fe_0_11_2 : pos_1 = pos_2) (fe_0_13_2 : place_1 = place_2) (fe_0_15_2 : from_1 = from_2) (hE_0_1_1 : ∀ j : Int, tape_0 j = tape_1 j) (hE_0_1_2 : ∀ j : Int, tape_1 j = tape_2 j) (hK_0_1 : ∀ j : Int, 0 ≤ j → j < 2000 → (-128) ≤ tape_0 j ∧ tape_0 j ≤ 127) (kz_0_10 : 0 ≤ limit_0 ∧ limit_0 ≤ 2000) (kz_0_11 : 0 ≤ pos_0 ∧ pos_0 ≤ 2000) (kz_0_13 : 0 ≤ place_0 ∧ place_0 ≤ 2000) (kz_0_14 : (-49) ≤ value_0 ∧ value_0 ≤ 1048575) (kz_0_15 : 0 ≤ from_0 ∧ from_0 ≤ 2000) : ZXD (limit_0) (pos_0) (place_0) (value_0) (from_0) (tape_0) (x1) := by
  subst fe_0_10_1
  subst fe_0_13_1
  subst fe_0_14_1
  subst fe_0_15_1
  subst fe_0_10_2
  subst fe_0_11_2
  subst fe_0_13_2
  subst fe_0_15_2
  have e_hE_0_1_1 := funext hE_0_1_1; subst e_hE_0_1_1
  have e_hE_0_1_2 := funext hE_0_1_2; subst e_hE_0_1_2
  first | subst g0 | skip
  first | subst g1 | skip
  first | subst g8 | skip
  first
    | exact zxd_start (by assumption) ‹ZX1 _ _ _ _› (by omega) (by omega) (by omega) (by omega) (by omega)
    | exact zxd_step (c := tape_0 x5 % 256) (by assumption) ‹ZXD _ _ _ _ _ _ _› (by omega) rfl (by omega) (by omega) (fun q => by omega) (fun q => by omega)
    | exact zxd_step (c := tape_0 x4 % 256) (by assumption) ‹ZXD _ _ _ _ _ _ _› (by omega) rfl (by omega) (by omega) (fun q => by omega) (fun q => by omega)
def o_Mo_next_68 : or_T := (185, 11, [(0, (2, 0, 0, [165])), (1, (0, 0, 2000, [])), (4, (0, 100000, 1048575, [])), (5, (0, 0, 1999, [])), (6, (0, 48, 57, [])), (10, (0, 1, 2000, []))], [(9, [10, 2], [11]), (9, [4, 2], [14]), (20, [5, 2, 6], [50, 1, 1, 1010, 1001, 4, 11, 0, 6, 4, 2, 1, 0, 0, 1, 2, 1, 10, 1, 2, 1, 2, 9, 5, 3, 1, 1, 1, 0, 0, 256]), (20, [2, 5, 6], [50, 1, 0, 10, 4, 7, 0, 3, 2, 0, 10, 1, 1, 1, 2, 1, 2, 0, -1]), (24, [0, 2], []), (101, [2, 10], [11]), (9, [5, 2], [11]), (20, [5, 2, 6], [50, 1, 1, 1010, 1001, 4, 11, 0, 6, 4, 2, 1, 0, 0, 1, 2, 1, 10, 1, 2, 1, 2, 9, 5, 3, 1, 1, 1, 0, 0, 256]), (20, [2, 5, 6], [50, 1, 0, 10, 4, 7, 0, 3, 2, 0, 10, 1, 1, 1, 2, 1, 2, 0, -1]), (20, [2], [50, 3, 1, 15, 11, 10, 1, 2, 8, 0, 3, 2, 0, 15, 2, 0, 11, 3, 12, 0, 7, 4, 3, 2, 0, 15, 0, 1, 2, 0, 11, 2, 8, 1, 3, 2, 0, 11, 2, 0, 15, 2, 12, 0, 7, 4, 3, 2, 0, 15, 0, 1, 2, 0, 10, 2, 14, 0, 2, 0, 48, 9, 6, 3, 0, 1, 2, 0, 15, 0, 256, 0, 10, 9, 6, 3, 0, 1, 2, 0, 15, 0, 256, 0, 57]), (101, [2, 4], [14]), (20, [4, 2], [50, 1, 0, 1014, 1, 2, 1, 0, 2, 1, 14]), (20, [5, 2, 6], [50, 1, 1, 1010, 1001, 4, 11, 0, 6, 4, 2, 1, 0, 0, 1, 2, 1, 10, 1, 2, 1, 2, 9, 5, 3, 1, 1, 1, 0, 0, 256]), (20, [2, 5, 6], [50, 1, 0, 10, 4, 7, 0, 3, 2, 0, 10, 1, 1, 1, 2, 1, 2, 0, -1]), (20, [2], [50, 3, 1, 15, 11, 10, 1, 2, 8, 0, 3, 2, 0, 15, 2, 0, 11, 3, 12, 0, 7, 4, 3, 2, 0, 15, 0, 1, 2, 0, 11, 2, 8, 1, 3, 2, 0, 11, 2, 0, 15, 2, 12, 0, 7, 4, 3, 2, 0, 15, 0, 1, 2, 0, 10, 2, 14, 0, 2, 0, 48, 9, 6, 3, 0, 1, 2, 0, 15, 0, 256, 0, 10, 9, 6, 3, 0, 1, 2, 0, 15, 0, 256, 0, 57]), (20, [2, 1], [60, 5, 1, 954, 10, 11, 13, 14, 15, 1])], [], [], [(20, [2], [50, 3, 1, 15, 11, 10, 1, 2, 8, 0, 3, 2, 0, 15, 2, 0, 11, 3, 12, 0, 7, 4, 3, 2, 0, 15, 0, 1, 2, 0, 11, 2, 8, 1, 3, 2, 0, 11, 2, 0, 15, 2, 12, 0, 7, 4, 3, 2, 0, 15, 0, 1, 2, 0, 10, 2, 14, 0, 2, 0, 48, 9, 6, 3, 0, 1, 2, 0, 15, 0, 256, 0, 10, 9, 6, 3, 0, 1, 2, 0, 15, 0, 256, 0, 57]), (20, [2, 1], [60, 5, 1, 954, 10, 11, 13, 14, 15, 1])], [], [(10, 5, 1, 1)])
theorem oo_Mo_next_68 {kA : Nat → ClassId} : or_ok PRD kA GG o_Mo_next_68 := by
  refine or_mk fun A ta ws vs hD hth hl => ?_
  intro t0 r0 t1 k1 t4 k4 t5 k5 t6 k6 t10 k10 d0 f0 f1 f2 f3 f5 ta1 w1 le1 s1 f8 f9 f10 f12 ta2 w2 le2 s2 f15 f16 f17 f19 f20
  replace f0 := shm_116 f0
  replace f1 := shm_115 f1
  replace f2 := shm_541 f2
  replace f3 := shm_542 f3
  replace f5 := shm_5 f5
  have s1 : (∀ b j, w_el ws b j = w_el w1 b j) ∧ ∀ b j, w_fd ws b j = if b = v_ad (n_v vs 2) ∧ j = 11 then n_v vs 10 else w_fd w1 b j := s1.2
  replace f8 := shm_116 f8
  replace f9 := shm_541 f9
  replace f10 := shm_542 f10
  replace f12 := shm_1442 f12
  have s2 : (∀ b j, w_el w1 b j = w_el w2 b j) ∧ ∀ b j, w_fd w1 b j = if b = v_ad (n_v vs 2) ∧ j = 14 then n_v vs 4 else w_fd w2 b j := s2.2
  replace f15 := shm_1450 f15
  replace f16 := shm_541 f16
  replace f17 := shm_542 f17
  replace f19 := shm_1442 f19
  replace f20 := shm_1443 f20
  have q2 : n_v vs 2 = n_v vs 0 := f5.symm
  simp only [q2] at f0 f1 f2 f3
  rw [q2] at s1
  simp only [q2] at f8 f9 f10 f12
  rw [q2] at s2
  simp only [q2] at f15 f16 f17 f19 f20
  have ar_0_1_1 : w_ar w1 (n_v vs 0) 1 = w_ar ws (n_v vs 0) 1 := by show v_ad (w_fd w1 _ _) = v_ad (w_fd ws _ _); rw [s1.2, if_neg (fun e => absurd e.2 (by decide))]
  have ar_0_1_2 : w_ar w2 (n_v vs 0) 1 = w_ar ws (n_v vs 0) 1 := by rw [← ar_0_1_1]; show v_ad (w_fd w2 _ _) = v_ad (w_fd w1 _ _); rw [s2.2, if_neg (fun e => absurd e.2 (by decide))]
  have cr_0_1 := fdq_39 hD hth r0
  have g0 : v_iv (n_v vs 10) = w_fi ws (n_v vs 0) 11 := congrArg v_iv f0
  have g1 : v_iv (n_v vs 4) = w_fi ws (n_v vs 0) 14 := congrArg v_iv f1
  have g8 : v_iv (n_v vs 5) = w_fi w1 (n_v vs 0) 11 := congrArg v_iv f8
  simp only [ar_0_1_1, ar_0_1_2] at f9 f12 f16 f19 f20
  have fe_0_10_1 : w_fi ws (n_v vs 0) 10 = w_fi w1 (n_v vs 0) 10 := by show v_iv (w_fd _ _ _) = v_iv (w_fd _ _ _); rw [s1.2, if_neg (fun e => absurd e.2 (by decide))]
  have fe_0_13_1 : w_fi ws (n_v vs 0) 13 = w_fi w1 (n_v vs 0) 13 := by show v_iv (w_fd _ _ _) = v_iv (w_fd _ _ _); rw [s1.2, if_neg (fun e => absurd e.2 (by decide))]
  have fe_0_14_1 : w_fi ws (n_v vs 0) 14 = w_fi w1 (n_v vs 0) 14 := by show v_iv (w_fd _ _ _) = v_iv (w_fd _ _ _); rw [s1.2, if_neg (fun e => absurd e.2 (by decide))]
  have fe_0_15_1 : w_fi ws (n_v vs 0) 15 = w_fi w1 (n_v vs 0) 15 := by show v_iv (w_fd _ _ _) = v_iv (w_fd _ _ _); rw [s1.2, if_neg (fun e => absurd e.2 (by decide))]
  have fe_0_10_2 : w_fi w1 (n_v vs 0) 10 = w_fi w2 (n_v vs 0) 10 := by show v_iv (w_fd _ _ _) = v_iv (w_fd _ _ _); rw [s2.2, if_neg (fun e => absurd e.2 (by decide))]
  have fe_0_11_2 : w_fi w1 (n_v vs 0) 11 = w_fi w2 (n_v vs 0) 11 := by show v_iv (w_fd _ _ _) = v_iv (w_fd _ _ _); rw [s2.2, if_neg (fun e => absurd e.2 (by decide))]
  have fe_0_13_2 : w_fi w1 (n_v vs 0) 13 = w_fi w2 (n_v vs 0) 13 := by show v_iv (w_fd _ _ _) = v_iv (w_fd _ _ _); rw [s2.2, if_neg (fun e => absurd e.2 (by decide))]
  have fe_0_15_2 : w_fi w1 (n_v vs 0) 15 = w_fi w2 (n_v vs 0) 15 := by show v_iv (w_fd _ _ _) = v_iv (w_fd _ _ _); rw [s2.2, if_neg (fun e => absurd e.2 (by decide))]
  have hE_0_1_1 : ∀ j : Int, w_ei ws (w_ar ws (n_v vs 0) 1) j = w_ei w1 (w_ar ws (n_v vs 0) 1) j := fun j => s1.1 _ _
  have hE_0_1_2 : ∀ j : Int, w_ei w1 (w_ar ws (n_v vs 0) 1) j = w_ei w2 (w_ar ws (n_v vs 0) 1) j := fun j => s2.1 _ _
  have hK_0_1 := elq_7 hD hth cr_0_1
  have kz_0_10 := fdq_43 hD hth r0
  have kz_0_11 := fdq_237 hD hth r0
  have kz_0_13 := fdq_238 hD hth r0
  have kz_0_14 := fdq_188 hD hth r0
  have kz_0_15 := fdq_239 hD hth r0
  have nf0 : fc_1 PRD (20, [2], [50, 3, 1, 15, 11, 10, 1, 2, 8, 0, 3, 2, 0, 15, 2, 0, 11, 3, 12, 0, 7, 4, 3, 2, 0, 15, 0, 1, 2, 0, 11, 2, 8, 1, 3, 2, 0, 11, 2, 0, 15, 2, 12, 0, 7, 4, 3, 2, 0, 15, 0, 1, 2, 0, 10, 2, 14, 0, 2, 0, 48, 9, 6, 3, 0, 1, 2, 0, 15, 0, 256, 0, 10, 9, 6, 3, 0, 1, 2, 0, 15, 0, 256, 0, 57]) ws (vs) := by
    refine ⟨nf_in hl rfl, sgq_1442 ?_⟩
    · show (w_fi ws (n_v vs 2) 15 ≤ w_fi ws (n_v vs 2) 11) ∧ (((w_fi ws (n_v vs 2) 15 + 1) ≤ w_fi ws (n_v vs 2) 11) ∨ ((w_fi ws (n_v vs 2) 11 = w_fi ws (n_v vs 2) 15) ∧ (((w_fi ws (n_v vs 2) 15 + 1) ≤ w_fi ws (n_v vs 2) 10) ∧ ((48 ≤ (w_ei ws (w_ar ws (n_v vs 2) 1) (w_fi ws (n_v vs 2) 15) % 256)) ∧ ((w_ei ws (w_ar ws (n_v vs 2) 1) (w_fi ws (n_v vs 2) 15) % 256) ≤ 57)))))
      rw [q2]
      exact vc_Mo_next_68_0 (v_iv (n_v vs 5)) (v_iv (n_v vs 6)) (v_iv (n_v vs 10)) (w_fi ws (n_v vs 0) 11) (w_fi ws (n_v vs 0) 14) (w_ei ws (w_ar ws (n_v vs 0) 1)) (w_fi ws (n_v vs 0) 10) (w_fi ws (n_v vs 0) 15) (w_fi w1 (n_v vs 0) 11) (w_ei w1 (w_ar ws (n_v vs 0) 1)) (w_fi w1 (n_v vs 0) 10) (w_fi w1 (n_v vs 0) 15) (w_ei w2 (w_ar ws (n_v vs 0) 1)) (w_fi w2 (n_v vs 0) 10) (w_fi w2 (n_v vs 0) 15) (w_fi w2 (n_v vs 0) 11) (w_fi w2 (n_v vs 0) 13) (w_fi ws (n_v vs 0) 13) (w_fi w1 (n_v vs 0) 13) (w_fi w1 (n_v vs 0) 14) k5 k6 k10 d0 g0 f2 f3 g8 f9 f10 f12 f16 f17 f19 fe_0_10_1 fe_0_13_1 fe_0_14_1 fe_0_15_1 fe_0_10_2 fe_0_11_2 fe_0_13_2 fe_0_15_2 hE_0_1_1 hE_0_1_2 hK_0_1 kz_0_10 kz_0_11 kz_0_13 kz_0_14 kz_0_15
  have nf1 : fc_1 PRD (20, [2, 1], [60, 5, 1, 954, 10, 11, 13, 14, 15, 1]) ws (vs) := by
    refine ⟨nf_in hl rfl, sgq_1443 ?_⟩
    · show ZXD (w_fi ws (n_v vs 2) 10) (w_fi ws (n_v vs 2) 11) (w_fi ws (n_v vs 2) 13) (w_fi ws (n_v vs 2) 14) (w_fi ws (n_v vs 2) 15) (w_ei ws (w_ar ws (n_v vs 2) 1)) (v_iv (n_v vs 1))
      rw [q2]
      exact vc_Mo_next_68_1 (v_iv (n_v vs 1)) (v_iv (n_v vs 4)) (v_iv (n_v vs 5)) (v_iv (n_v vs 6)) (v_iv (n_v vs 10)) (w_fi ws (n_v vs 0) 11) (w_fi ws (n_v vs 0) 14) (w_ei ws (w_ar ws (n_v vs 0) 1)) (w_fi ws (n_v vs 0) 10) (w_fi ws (n_v vs 0) 15) (w_fi w1 (n_v vs 0) 11) (w_ei w1 (w_ar ws (n_v vs 0) 1)) (w_fi w1 (n_v vs 0) 10) (w_fi w1 (n_v vs 0) 15) (w_fi w2 (n_v vs 0) 14) (w_ei w2 (w_ar ws (n_v vs 0) 1)) (w_fi w2 (n_v vs 0) 10) (w_fi w2 (n_v vs 0) 15) (w_fi w2 (n_v vs 0) 11) (w_fi w2 (n_v vs 0) 13) (w_fi ws (n_v vs 0) 13) (w_fi w1 (n_v vs 0) 13) (w_fi w1 (n_v vs 0) 14) k1 k4 k5 k6 k10 d0 g0 g1 g8 f9 f12 f15 f16 f17 f19 f20 fe_0_10_1 fe_0_13_1 fe_0_14_1 fe_0_15_1 fe_0_10_2 fe_0_11_2 fe_0_13_2 fe_0_15_2 hE_0_1_1 hE_0_1_2 hK_0_1 kz_0_10 kz_0_11 kz_0_13 kz_0_14 kz_0_15
  refine ⟨(fun _ h => (by cases h)), [], trivial, ?_, (fun _ h => (by cases h))⟩
  rw [List.append_nil]
  exact List.forall_mem_cons.mpr ⟨⟨show (20 : Nat) < 100 from by decide, nf0⟩, List.forall_mem_cons.mpr ⟨⟨show (20 : Nat) < 100 from by decide, nf1⟩, (fun _ h => (by cases h))⟩⟩
set_option maxHeartbeats 4000000 in
theorem vc_Mo_next_69_0 (x5 : Int) (x6 : Int) (x7 : Int) (from_0 : Int) (value_0 : Int) (pos_0 : Int) (tape_0 : Int → Int) (limit_0 : Int) (place_0 : Int) (from_1 : Int) (pos_1 : Int) (tape_1 : Int → Int) (limit_1 : Int) (place_1 : Int) (value_1 : Int) (k5 : 4 ≤ x5 ∧ x5 ≤ 2000) (k6 : 0 ≤ x6 ∧ x6 ≤ 2000) (k7 : 4 ≤ x7 ∧ x7 ≤ 2000) (g1 : x6 = from_0) (g3 : x5 = pos_0) (f10 : x7 = x5 - x6) (fe_0_10_1 : limit_0 = limit_1) (fe_0_11_1 : pos_0 = pos_1) (fe_0_13_1 : place_0 = place_1) (fe_0_14_1 : value_0 = value_1) (fe_0_15_1 : from_0 = from_1) (hE_0_1_1 : ∀ j : Int, tape_0 j = tape_1 j) (hK_0_1 : ∀ j : Int, 0 ≤ j → j < 2000 → (-128) ≤ tape_0 j ∧ tape_0 j ≤ 127) (kz_0_10 : 0 ≤ limit_0 ∧ limit_0 ≤ 2000) (kz_0_11 : 0 ≤ pos_0 ∧ pos_0 ≤ 2000) (kz_0_13 : 0 ≤ place_0 ∧ place_0 ≤ 2000) (kz_0_14 : (-49) ≤ value_0 ∧ value_0 ≤ 1048575) (kz_0_15 : 0 ≤ from_0 ∧ from_0 ≤ 2000) : 1 * from_0 + ((-1) * pos_0 + 0) ≤ 0 := by
  subst fe_0_10_1
  subst fe_0_11_1
  subst fe_0_13_1
  subst fe_0_14_1
  subst fe_0_15_1
  have e_hE_0_1_1 := funext hE_0_1_1; subst e_hE_0_1_1
  first | with_reducible assumption | ((try and_intros) <;> first | with_reducible assumption | (clear hE_0_1_1 hK_0_1; omega)) | omega
set_option maxHeartbeats 4000000 in
theorem vc_Mo_next_69_1 (x5 : Int) (x6 : Int) (x7 : Int) (x9 : Int) (kind_0 : Int) (from_0 : Int) (value_0 : Int) (pos_0 : Int) (tape_0 : Int → Int) (limit_0 : Int) (place_0 : Int) (from_1 : Int) (pos_1 : Int) (tape_1 : Int → Int) (limit_1 : Int) (place_1 : Int) (value_1 : Int) (k5 : 4 ≤ x5 ∧ x5 ≤ 2000) (k6 : 0 ≤ x6 ∧ x6 ≤ 2000) (k7 : 4 ≤ x7 ∧ x7 ≤ 2000) (k9 : 4 ≤ x9 ∧ x9 ≤ 4) (g0 : x9 = kind_0) (g1 : x6 = from_0) (g3 : x5 = pos_0) (f10 : x7 = x5 - x6) (fe_0_10_1 : limit_0 = limit_1) (fe_0_11_1 : pos_0 = pos_1) (fe_0_13_1 : place_0 = place_1) (fe_0_14_1 : value_0 = value_1) (fe_0_15_1 : from_0 = from_1) (hE_0_1_1 : ∀ j : Int, tape_0 j = tape_1 j) (hK_0_1 : ∀ j : Int, 0 ≤ j → j < 2000 → (-128) ≤ tape_0 j ∧ tape_0 j ≤ 127) (kz_0_10 : 0 ≤ limit_0 ∧ limit_0 ≤ 2000) (kz_0_11 : 0 ≤ pos_0 ∧ pos_0 ≤ 2000) (kz_0_12 : 0 ≤ kind_0 ∧ kind_0 ≤ 4) (kz_0_13 : 0 ≤ place_0 ∧ place_0 ≤ 2000) (kz_0_14 : (-49) ≤ value_0 ∧ value_0 ≤ 1048575) (kz_0_15 : 0 ≤ from_0 ∧ from_0 ≤ 2000) : ((kind_0 = 1) → (pos_0 ≤ (from_0 + 8))) ∧ ((kind_0 = 0) ∨ ((from_0 + 1) ≤ pos_0)) := by
  subst fe_0_10_1
  subst fe_0_11_1
  subst fe_0_13_1
  subst fe_0_14_1
  subst fe_0_15_1
  have e_hE_0_1_1 := funext hE_0_1_1; subst e_hE_0_1_1
  first | with_reducible assumption | ((try and_intros) <;> first | with_reducible assumption | (clear hE_0_1_1 hK_0_1; omega)) | omega
set_option maxHeartbeats 4000000 in
theorem vc_Mo_next_69_2 (x1 : Int) (x4 : Int) (x5 : Int) (x6 : Int) (x7 : Int) (x8 : Int) (x9 : Int) (kind_0 : Int) (from_0 : Int) (value_0 : Int) (pos_0 : Int) (tape_0 : Int → Int) (limit_0 : Int) (place_0 : Int) (from_1 : Int) (pos_1 : Int) (tape_1 : Int → Int) (limit_1 : Int) (place_1 : Int) (value_1 : Int) (k1 : 0 ≤ x1 ∧ x1 ≤ 2000) (k4 : (-49) ≤ x4 ∧ x4 ≤ 1048575) (k5 : 4 ≤ x5 ∧ x5 ≤ 2000) (k6 : 0 ≤ x6 ∧ x6 ≤ 2000) (k7 : 4 ≤ x7 ∧ x7 ≤ 2000) (k8 : 3 ≤ x8 ∧ x8 ≤ 3) (k9 : 4 ≤ x9 ∧ x9 ≤ 4) (g0 : x9 = kind_0) (g1 : x6 = from_0) (g2 : x4 = value_0) (g3 : x5 = pos_0) (f9 : x8 < x7) (f10 : x7 = x5 - x6) (f13 : ZXE (limit_1) (pos_1) (place_1) (value_1) (from_1) (tape_1) (x1)) (fe_0_10_1 : limit_0 = limit_1) (fe_0_11_1 : pos_0 = pos_1) (fe_0_13_1 : place_0 = place_1) (fe_0_14_1 : value_0 = value_1) (fe_0_15_1 : from_0 = from_1) (hE_0_1_1 : ∀ j : Int, tape_0 j = tape_1 j) (kz_0_10 : 0 ≤ limit_0 ∧ limit_0 ≤ 2000) (kz_0_11 : 0 ≤ pos_0 ∧ pos_0 ≤ 2000) (kz_0_12 : 0 ≤ kind_0 ∧ kind_0 ≤ 4) (kz_0_13 : 0 ≤ place_0 ∧ place_0 ≤ 2000) (kz_0_14 : (-49) ≤ value_0 ∧ value_0 ≤ 1048575) (kz_0_15 : 0 ≤ from_0 ∧ from_0 ≤ 2000) : TKR (limit_0) (pos_0) (kind_0) (place_0) (value_0) (from_0) (tape_0) (x1) := by
  subst fe_0_10_1
  subst fe_0_11_1
  subst fe_0_13_1
  subst fe_0_14_1
  subst fe_0_15_1
  have e_hE_0_1_1 := funext hE_0_1_1; subst e_hE_0_1_1
  first | subst g0 | skip
  first | subst g1 | skip
  first | subst g2 | skip
  first | subst g3 | skip
  first
    | assumption
    | exact tkr_end ‹ZX1 _ _ _ _› (by omega) (by omega) (by omega) (by omega)
    | (have e := (‹ZXM _ _ _ _ _ _›).1.1.1; exact tkr_name ‹ZXM _ _ _ _ _ _› (by omega))
    | (have e := (‹ZXE _ _ _ _ _ _ _›).1.1.1; exact tkr_num ‹ZXE _ _ _ _ _ _ _› (by omega))
    | exact tkr_sign (by assumption) ‹ZXS1 _ _ _ _ _ _ _›.1 (by omega) (by omega) (Or.inl ⟨by omega, ‹ZXS1 _ _ _ _ _ _ _›.2⟩)
    | exact tkr_sign (by assumption) ‹ZXS _ _ _ _ _ _ _› (by omega) (by omega) (Or.inr ⟨by omega, by unfold ZSG; omega⟩)
set_option maxHeartbeats 4000000 in
theorem vc_Mo_next_69_3 (x5 : Int) (x6 : Int) (x7 : Int) (from_0 : Int) (value_0 : Int) (pos_0 : Int) (tape_0 : Int → Int) (limit_0 : Int) (place_0 : Int) (from_1 : Int) (pos_1 : Int) (tape_1 : Int → Int) (limit_1 : Int) (place_1 : Int) (value_1 : Int) (k5 : 4 ≤ x5 ∧ x5 ≤ 2000) (k6 : 0 ≤ x6 ∧ x6 ≤ 2000) (k7 : 4 ≤ x7 ∧ x7 ≤ 2000) (g1 : x6 = from_0) (g3 : x5 = pos_0) (f10 : x7 = x5 - x6) (fe_0_10_1 : limit_0 = limit_1) (fe_0_11_1 : pos_0 = pos_1) (fe_0_13_1 : place_0 = place_1) (fe_0_14_1 : value_0 = value_1) (fe_0_15_1 : from_0 = from_1) (hE_0_1_1 : ∀ j : Int, tape_0 j = tape_1 j) (hK_0_1 : ∀ j : Int, 0 ≤ j → j < 2000 → (-128) ≤ tape_0 j ∧ tape_0 j ≤ 127) (kz_0_10 : 0 ≤ limit_0 ∧ limit_0 ≤ 2000) (kz_0_11 : 0 ≤ pos_0 ∧ pos_0 ≤ 2000) (kz_0_13 : 0 ≤ place_0 ∧ place_0 ≤ 2000) (kz_0_14 : (-49) ≤ value_0 ∧ value_0 ≤ 1048575) (kz_0_15 : 0 ≤ from_0 ∧ from_0 ≤ 2000) : 1 * from_0 + ((-1) * pos_0 + 0) ≤ 0 := by
  subst fe_0_10_1
  subst fe_0_11_1
  subst fe_0_13_1
  subst fe_0_14_1
  subst fe_0_15_1
  have e_hE_0_1_1 := funext hE_0_1_1; subst e_hE_0_1_1
  first | with_reducible assumption | ((try and_intros) <;> first | with_reducible assumption | (clear hE_0_1_1 hK_0_1; omega)) | omega
set_option maxHeartbeats 4000000 in
theorem vc_Mo_next_69_4 (x5 : Int) (x6 : Int) (x7 : Int) (x9 : Int) (kind_0 : Int) (from_0 : Int) (value_0 : Int) (pos_0 : Int) (tape_0 : Int → Int) (limit_0 : Int) (place_0 : Int) (from_1 : Int) (pos_1 : Int) (tape_1 : Int → Int) (limit_1 : Int) (place_1 : Int) (value_1 : Int) (k5 : 4 ≤ x5 ∧ x5 ≤ 2000) (k6 : 0 ≤ x6 ∧ x6 ≤ 2000) (k7 : 4 ≤ x7 ∧ x7 ≤ 2000) (k9 : 4 ≤ x9 ∧ x9 ≤ 4) (g0 : x9 = kind_0) (g1 : x6 = from_0) (g3 : x5 = pos_0) (f10 : x7 = x5 - x6) (fe_0_10_1 : limit_0 = limit_1) (fe_0_11_1 : pos_0 = pos_1) (fe_0_13_1 : place_0 = place_1) (fe_0_14_1 : value_0 = value_1) (fe_0_15_1 : from_0 = from_1) (hE_0_1_1 : ∀ j : Int, tape_0 j = tape_1 j) (hK_0_1 : ∀ j : Int, 0 ≤ j → j < 2000 → (-128) ≤ tape_0 j ∧ tape_0 j ≤ 127) (kz_0_10 : 0 ≤ limit_0 ∧ limit_0 ≤ 2000) (kz_0_11 : 0 ≤ pos_0 ∧ pos_0 ≤ 2000) (kz_0_12 : 0 ≤ kind_0 ∧ kind_0 ≤ 4) (kz_0_13 : 0 ≤ place_0 ∧ place_0 ≤ 2000) (kz_0_14 : (-49) ≤ value_0 ∧ value_0 ≤ 1048575) (kz_0_15 : 0 ≤ from_0 ∧ from_0 ≤ 2000) : ((kind_0 = 1) → (pos_0 ≤ (from_0 + 8))) ∧ ((kind_0 = 0) ∨ ((from_0 + 1) ≤ pos_0)) := by
  subst fe_0_10_1
  subst fe_0_11_1
  subst fe_0_13_1
  subst fe_0_14_1
  subst fe_0_15_1
  have e_hE_0_1_1 := funext hE_0_1_1; subst e_hE_0_1_1
  first | with_reducible assumption | ((try and_intros) <;> first | with_reducible assumption | (clear hE_0_1_1 hK_0_1; omega)) | omega
set_option maxHeartbeats 4000000 in
theorem vc_Mo_next_69_5 (x1 : Int) (from_0 : Int) (value_0 : Int) (pos_0 : Int) (tape_0 : Int → Int) (limit_0 : Int) (place_0 : Int) (from_1 : Int) (pos_1 : Int) (tape_1 : Int → Int) (limit_1 : Int) (place_1 : Int) (value_1 : Int) (k1 : 0 ≤ x1 ∧ x1 ≤ 2000) (f11 : 1 * x1 + ((-1) * from_1 + 0) ≤ 0) (fe_0_10_1 : limit_0 = limit_1) (fe_0_11_1 : pos_0 = pos_1) (fe_0_13_1 : place_0 = place_1) (fe_0_14_1 : value_0 = value_1) (fe_0_15_1 : from_0 = from_1) (hE_0_1_1 : ∀ j : Int, tape_0 j = tape_1 j) (hK_0_1 : ∀ j : Int, 0 ≤ j → j < 2000 → (-128) ≤ tape_0 j ∧ tape_0 j ≤ 127) (kz_0_10 : 0 ≤ limit_0 ∧ limit_0 ≤ 2000) (kz_0_11 : 0 ≤ pos_0 ∧ pos_0 ≤ 2000) (kz_0_13 : 0 ≤ place_0 ∧ place_0 ≤ 2000) (kz_0_14 : (-49) ≤ value_0 ∧ value_0 ≤ 1048575) (kz_0_15 : 0 ≤ from_0 ∧ from_0 ≤ 2000) : 1 * x1 + ((-1) * from_0 + 0) ≤ 0 := by
  subst fe_0_10_1
  subst fe_0_11_1
  subst fe_0_13_1
  subst fe_0_14_1
  subst fe_0_15_1
  have e_hE_0_1_1 := funext hE_0_1_1; subst e_hE_0_1_1
  first | with_reducible assumption | ((try and_intros) <;> first | with_reducible assumption | (clear hE_0_1_1 hK_0_1; omega)) | omega
set_option maxHeartbeats 4000000 in
theorem vc_Mo_next_69_6 (x1 : Int) (x4 : Int) (x5 : Int) (x6 : Int) (x7 : Int) (x8 : Int) (x9 : Int) (kind_0 : Int) (from_0 : Int) (value_0 : Int) (pos_0 : Int) (tape_0 : Int → Int) (limit_0 : Int) (place_0 : Int) (from_1 : Int) (pos_1 : Int) (tape_1 : Int → Int) (limit_1 : Int) (place_1 : Int) (value_1 : Int) (k1 : 0 ≤ x1 ∧ x1 ≤ 2000) (k4 : (-49) ≤ x4 ∧ x4 ≤ 1048575) (k5 : 4 ≤ x5 ∧ x5 ≤ 2000) (k6 : 0 ≤ x6 ∧ x6 ≤ 2000) (k7 : 4 ≤ x7 ∧ x7 ≤ 2000) (k8 : 3 ≤ x8 ∧ x8 ≤ 3) (k9 : 4 ≤ x9 ∧ x9 ≤ 4) (g0 : x9 = kind_0) (g1 : x6 = from_0) (g2 : x4 = value_0) (g3 : x5 = pos_0) (f9 : x8 < x7) (f10 : x7 = x5 - x6) (f13 : ZXE (limit_1) (pos_1) (place_1) (value_1) (from_1) (tape_1) (x1)) (fe_0_10_1 : limit_0 = limit_1) (fe_0_11_1 : pos_0 = pos_1) (fe_0_13_1 : place_0 = place_1) (fe_0_14_1 : value_0 = value_1) (fe_0_15_1 : from_0 = from_1) (hE_0_1_1 : ∀ j : Int, tape_0 j = tape_1 j) (kz_0_10 : 0 ≤ limit_0 ∧ limit_0 ≤ 2000) (kz_0_11 : 0 ≤ pos_0 ∧ pos_0 ≤ 2000) (kz_0_12 : 0 ≤ kind_0 ∧ kind_0 ≤ 4) (kz_0_13 : 0 ≤ place_0 ∧ place_0 ≤ 2000) (kz_0_14 : (-49) ≤ value_0 ∧ value_0 ≤ 1048575) (kz_0_15 : 0 ≤ from_0 ∧ from_0 ≤ 2000) : TKR (limit_0) (pos_0) (kind_0) (place_0) (value_0) (from_0) (tape_0) (x1) := by
  subst fe_0_10_1
  subst fe_0_11_1
  subst fe_0_13_1
  subst fe_0_14_1
  subst fe_0_15_1
  have e_hE_0_1_1 := funext hE_0_1_1; subst e_hE_0_1_1
  first | subst g0 | skip
  first | subst g1 | skip
  first | subst g2 | skip
  first | subst g3 | skip
  first
    | assumption
    | exact tkr_end ‹ZX1 _ _ _ _› (by omega) (by omega) (by omega) (by omega)
    | (have e := (‹ZXM _ _ _ _ _ _›).1.1.1; exact tkr_name ‹ZXM _ _ _ _ _ _› (by omega))
    | (have e := (‹ZXE _ _ _ _ _ _ _›).1.1.1; exact tkr_num ‹ZXE _ _ _ _ _ _ _› (by omega))
    | exact tkr_sign (by assumption) ‹ZXS1 _ _ _ _ _ _ _›.1 (by omega) (by omega) (Or.inl ⟨by omega, ‹ZXS1 _ _ _ _ _ _ _›.2⟩)
    | exact tkr_sign (by assumption) ‹ZXS _ _ _ _ _ _ _› (by omega) (by omega) (Or.inr ⟨by omega, by unfold ZSG; omega⟩)
def o_Mo_next_69 : or_T := (354, 10, [(0, (2, 0, 0, [165])), (1, (0, 0, 2000, [])), (2, (2, 0, 0, [165])), (4, (0, -49, 1048575, [])), (5, (0, 4, 2000, [])), (6, (0, 0, 2000, [])), (7, (0, 4, 2000, [])), (8, (0, 3, 3, [])), (9, (0, 4, 4, []))], [(9, [9, 2], [12]), (9, [6, 2], [15]), (9, [4, 2], [14]), (9, [5, 2], [11]), (20, [1, 2], [30, 0, 1, 0, 0, -1, 1, 15]), (20, [2], [50, 2, 0, 15, 11, 0, 7, 4, 3, 2, 0, 15, 0, 1, 2, 0, 11]), (20, [2, 1], [60, 5, 1, 955, 10, 11, 13, 14, 15, 1]), (24, [0, 2], []), (101, [2, 9], [12]), (7, [7, 8], [4]), (2, [7, 5, 6], []), (20, [1, 2], [30, 0, 1, 0, 0, -1, 1, 15]), (20, [2], [50, 2, 0, 15, 11, 0, 7, 4, 3, 2, 0, 15, 0, 1, 2, 0, 11]), (20, [2, 1], [60, 5, 1, 955, 10, 11, 13, 14, 15, 1])], [], [], [(20, [2, 2], [30, 0, 1, 1, 15, -1, 1, 11]), (20, [2], [50, 3, 0, 12, 11, 15, 2, 21, 4, 7, 1, 3, 2, 0, 12, 0, 1, 0, 3, 2, 0, 11, 4, 3, 2, 0, 15, 0, 8, 3, 7, 1, 3, 2, 0, 12, 0, 0, 0, 7, 4, 3, 2, 0, 15, 0, 1, 2, 0, 11]), (20, [2, 1], [60, 6, 1, 948, 10, 11, 12, 13, 14, 15, 1]), (20, [0, 0], [30, 0, 1, 1, 15, -1, 1, 11]), (20, [0], [50, 3, 0, 12, 11, 15, 2, 21, 4, 7, 1, 3, 2, 0, 12, 0, 1, 0, 3, 2, 0, 11, 4, 3, 2, 0, 15, 0, 8, 3, 7, 1, 3, 2, 0, 12, 0, 0, 0, 7, 4, 3, 2, 0, 15, 0, 1, 2, 0, 11]), (20, [1, 0], [30, 0, 1, 0, 0, -1, 1, 15]), (20, [0, 1], [60, 6, 1, 948, 10, 11, 12, 13, 14, 15, 1])], [], [(7, 5, -2000, 0)])
theorem oo_Mo_next_69 {kA : Nat → ClassId} : or_ok PRD kA GG o_Mo_next_69 := by
  refine or_mk fun A ta ws vs hD hth hl => ?_
  intro t0 r0 t1 k1 t2 r2 t4 k4 t5 k5 t6 k6 t7 k7 t8 k8 t9 k9 d0 f0 f1 f2 f3 f4 f5 f6 f7 ta1 w1 le1 s1 f9 f10 f11 f12 f13
  replace f0 := shm_103 f0
  replace f1 := shm_177 f1
  replace f2 := shm_115 f2
  replace f3 := shm_116 f3
  replace f7 := shm_5 f7
  have s1 : (∀ b j, w_el ws b j = w_el w1 b j) ∧ ∀ b j, w_fd ws b j = if b = v_ad (n_v vs 2) ∧ j = 12 then n_v vs 9 else w_fd w1 b j := s1.2
  replace f9 := shm_21 f9
  replace f10 := shm_14 f10
  replace f11 := shm_1436 f11
  replace f13 := shm_1449 f13
  have q2 : n_v vs 2 = n_v vs 0 := f7.symm
  simp only [q2] at f0 f1 f2 f3
  rw [q2] at s1
  simp only [q2] at f11 f13
  have ar_0_1_1 : w_ar w1 (n_v vs 0) 1 = w_ar ws (n_v vs 0) 1 := by show v_ad (w_fd w1 _ _) = v_ad (w_fd ws _ _); rw [s1.2, if_neg (fun e => absurd e.2 (by decide))]
  have cr_0_1 := fdq_39 hD hth r0
  have g0 : v_iv (n_v vs 9) = w_fi ws (n_v vs 0) 12 := congrArg v_iv f0
  have g1 : v_iv (n_v vs 6) = w_fi ws (n_v vs 0) 15 := congrArg v_iv f1
  have g2 : v_iv (n_v vs 4) = w_fi ws (n_v vs 0) 14 := congrArg v_iv f2
  have g3 : v_iv (n_v vs 5) = w_fi ws (n_v vs 0) 11 := congrArg v_iv f3
  simp only [ar_0_1_1] at f13
  have fe_0_10_1 : w_fi ws (n_v vs 0) 10 = w_fi w1 (n_v vs 0) 10 := by show v_iv (w_fd _ _ _) = v_iv (w_fd _ _ _); rw [s1.2, if_neg (fun e => absurd e.2 (by decide))]
  have fe_0_11_1 : w_fi ws (n_v vs 0) 11 = w_fi w1 (n_v vs 0) 11 := by show v_iv (w_fd _ _ _) = v_iv (w_fd _ _ _); rw [s1.2, if_neg (fun e => absurd e.2 (by decide))]
  have fe_0_13_1 : w_fi ws (n_v vs 0) 13 = w_fi w1 (n_v vs 0) 13 := by show v_iv (w_fd _ _ _) = v_iv (w_fd _ _ _); rw [s1.2, if_neg (fun e => absurd e.2 (by decide))]
  have fe_0_14_1 : w_fi ws (n_v vs 0) 14 = w_fi w1 (n_v vs 0) 14 := by show v_iv (w_fd _ _ _) = v_iv (w_fd _ _ _); rw [s1.2, if_neg (fun e => absurd e.2 (by decide))]
  have fe_0_15_1 : w_fi ws (n_v vs 0) 15 = w_fi w1 (n_v vs 0) 15 := by show v_iv (w_fd _ _ _) = v_iv (w_fd _ _ _); rw [s1.2, if_neg (fun e => absurd e.2 (by decide))]
  have hE_0_1_1 : ∀ j : Int, w_ei ws (w_ar ws (n_v vs 0) 1) j = w_ei w1 (w_ar ws (n_v vs 0) 1) j := fun j => s1.1 _ _
  have hK_0_1 := elq_7 hD hth cr_0_1
  have kz_0_10 := fdq_43 hD hth r0
  have kz_0_11 := fdq_237 hD hth r0
  have kz_0_12 := fdq_187 hD hth r0
  have kz_0_13 := fdq_238 hD hth r0
  have kz_0_14 := fdq_188 hD hth r0
  have kz_0_15 := fdq_239 hD hth r0
  have nf0 : fc_1 PRD (20, [2, 2], [30, 0, 1, 1, 15, -1, 1, 11]) ws (vs) := by
    refine ⟨nf_in hl rfl, sgq_1437 ?_⟩
    · show 1 * w_fi ws (n_v vs 2) 15 + ((-1) * w_fi ws (n_v vs 2) 11 + 0) ≤ 0
      rw [q2]
      exact vc_Mo_next_69_0 (v_iv (n_v vs 5)) (v_iv (n_v vs 6)) (v_iv (n_v vs 7)) (w_fi ws (n_v vs 0) 15) (w_fi ws (n_v vs 0) 14) (w_fi ws (n_v vs 0) 11) (w_ei ws (w_ar ws (n_v vs 0) 1)) (w_fi ws (n_v vs 0) 10) (w_fi ws (n_v vs 0) 13) (w_fi w1 (n_v vs 0) 15) (w_fi w1 (n_v vs 0) 11) (w_ei w1 (w_ar ws (n_v vs 0) 1)) (w_fi w1 (n_v vs 0) 10) (w_fi w1 (n_v vs 0) 13) (w_fi w1 (n_v vs 0) 14) k5 k6 k7 g1 g3 f10 fe_0_10_1 fe_0_11_1 fe_0_13_1 fe_0_14_1 fe_0_15_1 hE_0_1_1 hK_0_1 kz_0_10 kz_0_11 kz_0_13 kz_0_14 kz_0_15
  have nf1 : fc_1 PRD (20, [2], [50, 3, 0, 12, 11, 15, 2, 21, 4, 7, 1, 3, 2, 0, 12, 0, 1, 0, 3, 2, 0, 11, 4, 3, 2, 0, 15, 0, 8, 3, 7, 1, 3, 2, 0, 12, 0, 0, 0, 7, 4, 3, 2, 0, 15, 0, 1, 2, 0, 11]) ws (vs) := by
    refine ⟨nf_in hl rfl, sgq_1438 ?_⟩
    · show ((w_fi ws (n_v vs 2) 12 = 1) → (w_fi ws (n_v vs 2) 11 ≤ (w_fi ws (n_v vs 2) 15 + 8))) ∧ ((w_fi ws (n_v vs 2) 12 = 0) ∨ ((w_fi ws (n_v vs 2) 15 + 1) ≤ w_fi ws (n_v vs 2) 11))
      rw [q2]
      exact vc_Mo_next_69_1 (v_iv (n_v vs 5)) (v_iv (n_v vs 6)) (v_iv (n_v vs 7)) (v_iv (n_v vs 9)) (w_fi ws (n_v vs 0) 12) (w_fi ws (n_v vs 0) 15) (w_fi ws (n_v vs 0) 14) (w_fi ws (n_v vs 0) 11) (w_ei ws (w_ar ws (n_v vs 0) 1)) (w_fi ws (n_v vs 0) 10) (w_fi ws (n_v vs 0) 13) (w_fi w1 (n_v vs 0) 15) (w_fi w1 (n_v vs 0) 11) (w_ei w1 (w_ar ws (n_v vs 0) 1)) (w_fi w1 (n_v vs 0) 10) (w_fi w1 (n_v vs 0) 13) (w_fi w1 (n_v vs 0) 14) k5 k6 k7 k9 g0 g1 g3 f10 fe_0_10_1 fe_0_11_1 fe_0_13_1 fe_0_14_1 fe_0_15_1 hE_0_1_1 hK_0_1 kz_0_10 kz_0_11 kz_0_12 kz_0_13 kz_0_14 kz_0_15
  have nf2 : fc_1 PRD (20, [2, 1], [60, 6, 1, 948, 10, 11, 12, 13, 14, 15, 1]) ws (vs) := by
    refine ⟨nf_in hl rfl, sgq_1439 ?_⟩
    · show TKR (w_fi ws (n_v vs 2) 10) (w_fi ws (n_v vs 2) 11) (w_fi ws (n_v vs 2) 12) (w_fi ws (n_v vs 2) 13) (w_fi ws (n_v vs 2) 14) (w_fi ws (n_v vs 2) 15) (w_ei ws (w_ar ws (n_v vs 2) 1)) (v_iv (n_v vs 1))
      rw [q2]
      exact vc_Mo_next_69_2 (v_iv (n_v vs 1)) (v_iv (n_v vs 4)) (v_iv (n_v vs 5)) (v_iv (n_v vs 6)) (v_iv (n_v vs 7)) (v_iv (n_v vs 8)) (v_iv (n_v vs 9)) (w_fi ws (n_v vs 0) 12) (w_fi ws (n_v vs 0) 15) (w_fi ws (n_v vs 0) 14) (w_fi ws (n_v vs 0) 11) (w_ei ws (w_ar ws (n_v vs 0) 1)) (w_fi ws (n_v vs 0) 10) (w_fi ws (n_v vs 0) 13) (w_fi w1 (n_v vs 0) 15) (w_fi w1 (n_v vs 0) 11) (w_ei w1 (w_ar ws (n_v vs 0) 1)) (w_fi w1 (n_v vs 0) 10) (w_fi w1 (n_v vs 0) 13) (w_fi w1 (n_v vs 0) 14) k1 k4 k5 k6 k7 k8 k9 g0 g1 g2 g3 f9 f10 f13 fe_0_10_1 fe_0_11_1 fe_0_13_1 fe_0_14_1 fe_0_15_1 hE_0_1_1 kz_0_10 kz_0_11 kz_0_12 kz_0_13 kz_0_14 kz_0_15
  have nf3 : fc_1 PRD (20, [0, 0], [30, 0, 1, 1, 15, -1, 1, 11]) ws (vs) := ⟨nf_in hl rfl, sgq_1437 (vc_Mo_next_69_3 (v_iv (n_v vs 5)) (v_iv (n_v vs 6)) (v_iv (n_v vs 7)) (w_fi ws (n_v vs 0) 15) (w_fi ws (n_v vs 0) 14) (w_fi ws (n_v vs 0) 11) (w_ei ws (w_ar ws (n_v vs 0) 1)) (w_fi ws (n_v vs 0) 10) (w_fi ws (n_v vs 0) 13) (w_fi w1 (n_v vs 0) 15) (w_fi w1 (n_v vs 0) 11) (w_ei w1 (w_ar ws (n_v vs 0) 1)) (w_fi w1 (n_v vs 0) 10) (w_fi w1 (n_v vs 0) 13) (w_fi w1 (n_v vs 0) 14) k5 k6 k7 g1 g3 f10 fe_0_10_1 fe_0_11_1 fe_0_13_1 fe_0_14_1 fe_0_15_1 hE_0_1_1 hK_0_1 kz_0_10 kz_0_11 kz_0_13 kz_0_14 kz_0_15)⟩
  have nf4 : fc_1 PRD (20, [0], [50, 3, 0, 12, 11, 15, 2, 21, 4, 7, 1, 3, 2, 0, 12, 0, 1, 0, 3, 2, 0, 11, 4, 3, 2, 0, 15, 0, 8, 3, 7, 1, 3, 2, 0, 12, 0, 0, 0, 7, 4, 3, 2, 0, 15, 0, 1, 2, 0, 11]) ws (vs) := ⟨nf_in hl rfl, sgq_1438 (vc_Mo_next_69_4 (v_iv (n_v vs 5)) (v_iv (n_v vs 6)) (v_iv (n_v vs 7)) (v_iv (n_v vs 9)) (w_fi ws (n_v vs 0) 12) (w_fi ws (n_v vs 0) 15) (w_fi ws (n_v vs 0) 14) (w_fi ws (n_v vs 0) 11) (w_ei ws (w_ar ws (n_v vs 0) 1)) (w_fi ws (n_v vs 0) 10) (w_fi ws (n_v vs 0) 13) (w_fi w1 (n_v vs 0) 15) (w_fi w1 (n_v vs 0) 11) (w_ei w1 (w_ar ws (n_v vs 0) 1)) (w_fi w1 (n_v vs 0) 10) (w_fi w1 (n_v vs 0) 13) (w_fi w1 (n_v vs 0) 14) k5 k6 k7 k9 g0 g1 g3 f10 fe_0_10_1 fe_0_11_1 fe_0_13_1 fe_0_14_1 fe_0_15_1 hE_0_1_1 hK_0_1 kz_0_10 kz_0_11 kz_0_12 kz_0_13 kz_0_14 kz_0_15)⟩
  have nf5 : fc_1 PRD (20, [1, 0], [30, 0, 1, 0, 0, -1, 1, 15]) ws (vs) := ⟨nf_in hl rfl, sgq_1436 (vc_Mo_next_69_5 (v_iv (n_v vs 1)) (w_fi ws (n_v vs 0) 15) (w_fi ws (n_v vs 0) 14) (w_fi ws (n_v vs 0) 11) (w_ei ws (w_ar ws (n_v vs 0) 1)) (w_fi ws (n_v vs 0) 10) (w_fi ws (n_v vs 0) 13) (w_fi w1 (n_v vs 0) 15) (w_fi w1 (n_v vs 0) 11) (w_ei w1 (w_ar ws (n_v vs 0) 1)) (w_fi w1 (n_v vs 0) 10) (w_fi w1 (n_v vs 0) 13) (w_fi w1 (n_v vs 0) 14) k1 f11 fe_0_10_1 fe_0_11_1 fe_0_13_1 fe_0_14_1 fe_0_15_1 hE_0_1_1 hK_0_1 kz_0_10 kz_0_11 kz_0_13 kz_0_14 kz_0_15)⟩
  have nf6 : fc_1 PRD (20, [0, 1], [60, 6, 1, 948, 10, 11, 12, 13, 14, 15, 1]) ws (vs) := ⟨nf_in hl rfl, sgq_1439 (vc_Mo_next_69_6 (v_iv (n_v vs 1)) (v_iv (n_v vs 4)) (v_iv (n_v vs 5)) (v_iv (n_v vs 6)) (v_iv (n_v vs 7)) (v_iv (n_v vs 8)) (v_iv (n_v vs 9)) (w_fi ws (n_v vs 0) 12) (w_fi ws (n_v vs 0) 15) (w_fi ws (n_v vs 0) 14) (w_fi ws (n_v vs 0) 11) (w_ei ws (w_ar ws (n_v vs 0) 1)) (w_fi ws (n_v vs 0) 10) (w_fi ws (n_v vs 0) 13) (w_fi w1 (n_v vs 0) 15) (w_fi w1 (n_v vs 0) 11) (w_ei w1 (w_ar ws (n_v vs 0) 1)) (w_fi w1 (n_v vs 0) 10) (w_fi w1 (n_v vs 0) 13) (w_fi w1 (n_v vs 0) 14) k1 k4 k5 k6 k7 k8 k9 g0 g1 g2 g3 f9 f10 f13 fe_0_10_1 fe_0_11_1 fe_0_13_1 fe_0_14_1 fe_0_15_1 hE_0_1_1 kz_0_10 kz_0_11 kz_0_12 kz_0_13 kz_0_14 kz_0_15)⟩
  refine ⟨(fun _ h => (by cases h)), [], trivial, ?_, (fun _ h => (by cases h))⟩
  rw [List.append_nil]
  exact List.forall_mem_cons.mpr ⟨⟨show (20 : Nat) < 100 from by decide, nf0⟩, List.forall_mem_cons.mpr ⟨⟨show (20 : Nat) < 100 from by decide, nf1⟩, List.forall_mem_cons.mpr ⟨⟨show (20 : Nat) < 100 from by decide, nf2⟩, List.forall_mem_cons.mpr ⟨⟨show (20 : Nat) < 100 from by decide, nf3⟩, List.forall_mem_cons.mpr ⟨⟨show (20 : Nat) < 100 from by decide, nf4⟩, List.forall_mem_cons.mpr ⟨⟨show (20 : Nat) < 100 from by decide, nf5⟩, List.forall_mem_cons.mpr ⟨⟨show (20 : Nat) < 100 from by decide, nf6⟩, (fun _ h => (by cases h))⟩⟩⟩⟩⟩⟩⟩
set_option maxHeartbeats 4000000 in
theorem vc_Mo_next_70_0 (x5 : Int) (x6 : Int) (x7 : Int) (from_0 : Int) (value_0 : Int) (pos_0 : Int) (tape_0 : Int → Int) (limit_0 : Int) (place_0 : Int) (from_1 : Int) (pos_1 : Int) (tape_1 : Int → Int) (limit_1 : Int) (place_1 : Int) (value_1 : Int) (k5 : 0 ≤ x5 ∧ x5 ≤ 2000) (k6 : 0 ≤ x6 ∧ x6 ≤ 2000) (k7 : (-2000) ≤ x7 ∧ x7 ≤ 3) (g1 : x6 = from_0) (g3 : x5 = pos_0) (f5 : (from_0 + 1) ≤ pos_0) (f10 : x7 = x5 - x6) (fe_0_10_1 : limit_0 = limit_1) (fe_0_11_1 : pos_0 = pos_1) (fe_0_13_1 : place_0 = place_1) (fe_0_14_1 : value_0 = value_1) (fe_0_15_1 : from_0 = from_1) (hE_0_1_1 : ∀ j : Int, tape_0 j = tape_1 j) (hK_0_1 : ∀ j : Int, 0 ≤ j → j < 2000 → (-128) ≤ tape_0 j ∧ tape_0 j ≤ 127) (kz_0_10 : 0 ≤ limit_0 ∧ limit_0 ≤ 2000) (kz_0_11 : 0 ≤ pos_0 ∧ pos_0 ≤ 2000) (kz_0_13 : 0 ≤ place_0 ∧ place_0 ≤ 2000) (kz_0_14 : (-49) ≤ value_0 ∧ value_0 ≤ 1048575) (kz_0_15 : 0 ≤ from_0 ∧ from_0 ≤ 2000) : 1 * from_0 + ((-1) * pos_0 + 0) ≤ 0 := by
  subst fe_0_10_1
  subst fe_0_11_1
  subst fe_0_13_1
  subst fe_0_14_1
  subst fe_0_15_1
  have e_hE_0_1_1 := funext hE_0_1_1; subst e_hE_0_1_1
  first | with_reducible assumption | ((try and_intros) <;> first | with_reducible assumption | (clear hE_0_1_1 hK_0_1; omega)) | omega
set_option maxHeartbeats 4000000 in
theorem vc_Mo_next_70_1 (x5 : Int) (x6 : Int) (x7 : Int) (x9 : Int) (kind_0 : Int) (from_0 : Int) (value_0 : Int) (pos_0 : Int) (tape_0 : Int → Int) (limit_0 : Int) (place_0 : Int) (from_1 : Int) (pos_1 : Int) (tape_1 : Int → Int) (limit_1 : Int) (place_1 : Int) (value_1 : Int) (k5 : 0 ≤ x5 ∧ x5 ≤ 2000) (k6 : 0 ≤ x6 ∧ x6 ≤ 2000) (k7 : (-2000) ≤ x7 ∧ x7 ≤ 3) (k9 : 2 ≤ x9 ∧ x9 ≤ 2) (g0 : x9 = kind_0) (g1 : x6 = from_0) (g3 : x5 = pos_0) (f5 : (from_0 + 1) ≤ pos_0) (f10 : x7 = x5 - x6) (fe_0_10_1 : limit_0 = limit_1) (fe_0_11_1 : pos_0 = pos_1) (fe_0_13_1 : place_0 = place_1) (fe_0_14_1 : value_0 = value_1) (fe_0_15_1 : from_0 = from_1) (hE_0_1_1 : ∀ j : Int, tape_0 j = tape_1 j) (hK_0_1 : ∀ j : Int, 0 ≤ j → j < 2000 → (-128) ≤ tape_0 j ∧ tape_0 j ≤ 127) (kz_0_10 : 0 ≤ limit_0 ∧ limit_0 ≤ 2000) (kz_0_11 : 0 ≤ pos_0 ∧ pos_0 ≤ 2000) (kz_0_12 : 0 ≤ kind_0 ∧ kind_0 ≤ 4) (kz_0_13 : 0 ≤ place_0 ∧ place_0 ≤ 2000) (kz_0_14 : (-49) ≤ value_0 ∧ value_0 ≤ 1048575) (kz_0_15 : 0 ≤ from_0 ∧ from_0 ≤ 2000) : ((kind_0 = 1) → (pos_0 ≤ (from_0 + 8))) ∧ ((kind_0 = 0) ∨ ((from_0 + 1) ≤ pos_0)) := by
  subst fe_0_10_1
  subst fe_0_11_1
  subst fe_0_13_1
  subst fe_0_14_1
  subst fe_0_15_1
  have e_hE_0_1_1 := funext hE_0_1_1; subst e_hE_0_1_1
  first | with_reducible assumption | ((try and_intros) <;> first | with_reducible assumption | (clear hE_0_1_1 hK_0_1; omega)) | omega
set_option maxHeartbeats 4000000 in
theorem vc_Mo_next_70_2 (x1 : Int) (x4 : Int) (x5 : Int) (x6 : Int) (x7 : Int) (x9 : Int) (kind_0 : Int) (from_0 : Int) (value_0 : Int) (pos_0 : Int) (tape_0 : Int → Int) (limit_0 : Int) (place_0 : Int) (from_1 : Int) (pos_1 : Int) (tape_1 : Int → Int) (limit_1 : Int) (place_1 : Int) (value_1 : Int) (k1 : 0 ≤ x1 ∧ x1 ≤ 2000) (k4 : (-49) ≤ x4 ∧ x4 ≤ 1048575) (k5 : 0 ≤ x5 ∧ x5 ≤ 2000) (k6 : 0 ≤ x6 ∧ x6 ≤ 2000) (k7 : (-2000) ≤ x7 ∧ x7 ≤ 3) (k9 : 2 ≤ x9 ∧ x9 ≤ 2) (g0 : x9 = kind_0) (g1 : x6 = from_0) (g2 : x4 = value_0) (g3 : x5 = pos_0) (f5 : (from_0 + 1) ≤ pos_0) (f10 : x7 = x5 - x6) (f13 : ZXE (limit_1) (pos_1) (place_1) (value_1) (from_1) (tape_1) (x1)) (fe_0_10_1 : limit_0 = limit_1) (fe_0_11_1 : pos_0 = pos_1) (fe_0_13_1 : place_0 = place_1) (fe_0_14_1 : value_0 = value_1) (fe_0_15_1 : from_0 = from_1) (hE_0_1_1 : ∀ j : Int, tape_0 j = tape_1 j) (kz_0_10 : 0 ≤ limit_0 ∧ limit_0 ≤ 2000) (kz_0_11 : 0 ≤ pos_0 ∧ pos_0 ≤ 2000) (kz_0_12 : 0 ≤ kind_0 ∧ kind_0 ≤ 4) (kz_0_13 : 0 ≤ place_0 ∧ place_0 ≤ 2000) (kz_0_14 : (-49) ≤ value_0 ∧ value_0 ≤ 1048575) (kz_0_15 : 0 ≤ from_0 ∧ from_0 ≤ 2000) : TKR (limit_0) (pos_0) (kind_0) (place_0) (value_0) (from_0) (tape_0) (x1) := by
  subst fe_0_10_1
  subst fe_0_11_1
  subst fe_0_13_1
  subst fe_0_14_1
  subst fe_0_15_1
  have e_hE_0_1_1 := funext hE_0_1_1; subst e_hE_0_1_1
  first | subst g0 | skip
  first | subst g1 | skip
  first | subst g2 | skip
  first | subst g3 | skip
  first
    | assumption
    | exact tkr_end ‹ZX1 _ _ _ _› (by omega) (by omega) (by omega) (by omega)
    | (have e := (‹ZXM _ _ _ _ _ _›).1.1.1; exact tkr_name ‹ZXM _ _ _ _ _ _› (by omega))
    | (have e := (‹ZXE _ _ _ _ _ _ _›).1.1.1; exact tkr_num ‹ZXE _ _ _ _ _ _ _› (by omega))
    | exact tkr_sign (by assumption) ‹ZXS1 _ _ _ _ _ _ _›.1 (by omega) (by omega) (Or.inl ⟨by omega, ‹ZXS1 _ _ _ _ _ _ _›.2⟩)
    | exact tkr_sign (by assumption) ‹ZXS _ _ _ _ _ _ _› (by omega) (by omega) (Or.inr ⟨by omega, by unfold ZSG; omega⟩)
set_option maxHeartbeats 4000000 in
theorem vc_Mo_next_70_3 (x5 : Int) (x6 : Int) (x7 : Int) (from_0 : Int) (value_0 : Int) (pos_0 : Int) (tape_0 : Int → Int) (limit_0 : Int) (place_0 : Int) (from_1 : Int) (pos_1 : Int) (tape_1 : Int → Int) (limit_1 : Int) (place_1 : Int) (value_1 : Int) (k5 : 0 ≤ x5 ∧ x5 ≤ 2000) (k6 : 0 ≤ x6 ∧ x6 ≤ 2000) (k7 : (-2000) ≤ x7 ∧ x7 ≤ 3) (g1 : x6 = from_0) (g3 : x5 = pos_0) (f5 : (from_0 + 1) ≤ pos_0) (f10 : x7 = x5 - x6) (fe_0_10_1 : limit_0 = limit_1) (fe_0_11_1 : pos_0 = pos_1) (fe_0_13_1 : place_0 = place_1) (fe_0_14_1 : value_0 = value_1) (fe_0_15_1 : from_0 = from_1) (hE_0_1_1 : ∀ j : Int, tape_0 j = tape_1 j) (hK_0_1 : ∀ j : Int, 0 ≤ j → j < 2000 → (-128) ≤ tape_0 j ∧ tape_0 j ≤ 127) (kz_0_10 : 0 ≤ limit_0 ∧ limit_0 ≤ 2000) (kz_0_11 : 0 ≤ pos_0 ∧ pos_0 ≤ 2000) (kz_0_13 : 0 ≤ place_0 ∧ place_0 ≤ 2000) (kz_0_14 : (-49) ≤ value_0 ∧ value_0 ≤ 1048575) (kz_0_15 : 0 ≤ from_0 ∧ from_0 ≤ 2000) : 1 * from_0 + ((-1) * pos_0 + 0) ≤ 0 := by
  subst fe_0_10_1
  subst fe_0_11_1
  subst fe_0_13_1
  subst fe_0_14_1
  subst fe_0_15_1
  have e_hE_0_1_1 := funext hE_0_1_1; subst e_hE_0_1_1
  first | with_reducible assumption | ((try and_intros) <;> first | with_reducible assumption | (clear hE_0_1_1 hK_0_1; omega)) | omega
set_option maxHeartbeats 4000000 in
theorem vc_Mo_next_70_4 (x5 : Int) (x6 : Int) (x7 : Int) (x9 : Int) (kind_0 : Int) (from_0 : Int) (value_0 : Int) (pos_0 : Int) (tape_0 : Int → Int) (limit_0 : Int) (place_0 : Int) (from_1 : Int) (pos_1 : Int) (tape_1 : Int → Int) (limit_1 : Int) (place_1 : Int) (value_1 : Int) (k5 : 0 ≤ x5 ∧ x5 ≤ 2000) (k6 : 0 ≤ x6 ∧ x6 ≤ 2000) (k7 : (-2000) ≤ x7 ∧ x7 ≤ 3) (k9 : 2 ≤ x9 ∧ x9 ≤ 2) (g0 : x9 = kind_0) (g1 : x6 = from_0) (g3 : x5 = pos_0) (f5 : (from_0 + 1) ≤ pos_0) (f10 : x7 = x5 - x6) (fe_0_10_1 : limit_0 = limit_1) (fe_0_11_1 : pos_0 = pos_1) (fe_0_13_1 : place_0 = place_1) (fe_0_14_1 : value_0 = value_1) (fe_0_15_1 : from_0 = from_1) (hE_0_1_1 : ∀ j : Int, tape_0 j = tape_1 j) (hK_0_1 : ∀ j : Int, 0 ≤ j → j < 2000 → (-128) ≤ tape_0 j ∧ tape_0 j ≤ 127) (kz_0_10 : 0 ≤ limit_0 ∧ limit_0 ≤ 2000) (kz_0_11 : 0 ≤ pos_0 ∧ pos_0 ≤ 2000) (kz_0_12 : 0 ≤ kind_0 ∧ kind_0 ≤ 4) (kz_0_13 : 0 ≤ place_0 ∧ place_0 ≤ 2000) (kz_0_14 : (-49) ≤ value_0 ∧ value_0 ≤ 1048575) (kz_0_15 : 0 ≤ from_0 ∧ from_0 ≤ 2000) : ((kind_0 = 1) → (pos_0 ≤ (from_0 + 8))) ∧ ((kind_0 = 0) ∨ ((from_0 + 1) ≤ pos_0)) := by
  subst fe_0_10_1
  subst fe_0_11_1
  subst fe_0_13_1
  subst fe_0_14_1
  subst fe_0_15_1
  have e_hE_0_1_1 := funext hE_0_1_1; subst e_hE_0_1_1
  first | with_reducible assumption | ((try and_intros) <;> first | with_reducible assumption | (clear hE_0_1_1 hK_0_1; omega)) | omega
set_option maxHeartbeats 4000000 in
theorem vc_Mo_next_70_5 (x1 : Int) (from_0 : Int) (value_0 : Int) (pos_0 : Int) (tape_0 : Int → Int) (limit_0 : Int) (place_0 : Int) (from_1 : Int) (pos_1 : Int) (tape_1 : Int → Int) (limit_1 : Int) (place_1 : Int) (value_1 : Int) (k1 : 0 ≤ x1 ∧ x1 ≤ 2000) (f11 : 1 * x1 + ((-1) * from_1 + 0) ≤ 0) (fe_0_10_1 : limit_0 = limit_1) (fe_0_11_1 : pos_0 = pos_1) (fe_0_13_1 : place_0 = place_1) (fe_0_14_1 : value_0 = value_1) (fe_0_15_1 : from_0 = from_1) (hE_0_1_1 : ∀ j : Int, tape_0 j = tape_1 j) (hK_0_1 : ∀ j : Int, 0 ≤ j → j < 2000 → (-128) ≤ tape_0 j ∧ tape_0 j ≤ 127) (kz_0_10 : 0 ≤ limit_0 ∧ limit_0 ≤ 2000) (kz_0_11 : 0 ≤ pos_0 ∧ pos_0 ≤ 2000) (kz_0_13 : 0 ≤ place_0 ∧ place_0 ≤ 2000) (kz_0_14 : (-49) ≤ value_0 ∧ value_0 ≤ 1048575) (kz_0_15 : 0 ≤ from_0 ∧ from_0 ≤ 2000) : 1 * x1 + ((-1) * from_0 + 0) ≤ 0 := by
  subst fe_0_10_1
  subst fe_0_11_1
  subst fe_0_13_1
  subst fe_0_14_1
  subst fe_0_15_1
  have e_hE_0_1_1 := funext hE_0_1_1; subst e_hE_0_1_1
  first | with_reducible assumption | ((try and_intros) <;> first | with_reducible assumption | (clear hE_0_1_1 hK_0_1; omega)) | omega
end
section

set_option maxHeartbeats 4000000 in
theorem vc_Mo_next_70_6 (x1 : Int) (x4 : Int) (x5 : Int) (x6 : Int) (x7 : Int) (x9 : Int) (kind_0 : Int) (from_0 : Int) (value_0 : Int) (pos_0 : Int) (tape_0 : Int → Int) (limit_0 : Int) (place_0 : Int) (from_1 : Int) (pos_1 : Int) (tape_1 : Int → Int) (limit_1 : Int) (place_1 : Int) (value_1 : Int) (k1 : 0 ≤ x1 ∧ x1 ≤ 2000) (k4 : (-49) ≤ x4 ∧ x4 ≤ 1048575) (k5 : 0 ≤ x5 ∧ x5 ≤ 2000) (k6 : 0 ≤ x6 ∧ x6 ≤ 2000) (k7 : (-2000) ≤ x7 ∧ x7 ≤ 3) (k9 : 2 ≤ x9 ∧ x9 ≤ 2) (g0 : x9 = kind_0) (g1 : x6 = from_0) (g2 : x4 = value_0) (g3 : x5 = pos_0) (f5 : (from_0 + 1) ≤ pos_0) (f10 : x7 = x5 - x6) (f13 : ZXE (limit_1) (pos_1) (place_1) (value_1) (from_1) (tape_1) (x1)) (fe_0_10_1 : limit_0 = limit_1) (fe_0_11_1 : pos_0 = pos_1) (fe_0_13_1 : place_0 = place_1) (fe_0_14_1 : value_0 = value_1) (fe_0_15_1 : from_0 = from_1) (hE_0_1_1 : ∀ j : Int, tape_0 j = tape_1 j) (kz_0_10 : 0 ≤ limit_0 ∧ limit_0 ≤ 2000) (kz_0_11 : 0 ≤ pos_0 ∧ pos_0 ≤ 2000) (kz_0_12 : 0 ≤ kind_0 ∧ kind_0 ≤ 4) (kz_0_13 : 0 ≤ place_0 ∧ place_0 ≤ 2000) (kz_0_14 : (-49) ≤ value_0 ∧ value_0 ≤ 1048575) (kz_0_15 : 0 ≤ from_0 ∧ from_0 ≤ 2000) : TKR (limit_0) (pos_0) (kind_0) (place_0) (value_0) (from_0) (tape_0) (x1) := by
  subst fe_0_10_1
  subst fe_0_11_1
  subst fe_0_13_1
  subst fe_0_14_1
  subst fe_0_15_1
  have e_hE_0_1_1 := funext hE_0_1_1; subst e_hE_0_1_1
  first | subst g0 | skip
  first | subst g1 | skip
  first | subst g2 | skip
  first | subst g3 | skip
  first
    | assumption
    | exact tkr_end ‹ZX1 _ _ _ _› (by omega) (by omega) (by omega) (by omega)
    | (have e := (‹ZXM _ _ _ _ _ _›).1.1.1; exact tkr_name ‹ZXM _ _ _ _ _ _› (by omega))
    | (have e := (‹ZXE _ _ _ _ _ _ _›).1.1.1; exact tkr_num ‹ZXE _ _ _ _ _ _ _› (by omega))
    | exact tkr_sign (by assumption) ‹ZXS1 _ _ _ _ _ _ _›.1 (by omega) (by omega) (Or.inl ⟨by omega, ‹ZXS1 _ _ _ _ _ _ _›.2⟩)
    | exact tkr_sign (by assumption) ‹ZXS _ _ _ _ _ _ _› (by omega) (by omega) (Or.inr ⟨by omega, by unfold ZSG; omega⟩)
def o_Mo_next_70 : or_T := (354, 10, [(0, (2, 0, 0, [165])), (1, (0, 0, 2000, [])), (2, (2, 0, 0, [165])), (4, (0, -49, 1048575, [])), (5, (0, 0, 2000, [])), (6, (0, 0, 2000, [])), (7, (0, -2000, 3, [])), (8, (0, 3, 3, [])), (9, (0, 2, 2, []))], [(9, [9, 2], [12]), (9, [6, 2], [15]), (9, [4, 2], [14]), (9, [5, 2], [11]), (20, [1, 2], [30, 0, 1, 0, 0, -1, 1, 15]), (20, [2], [50, 2, 0, 15, 11, 0, 7, 4, 3, 2, 0, 15, 0, 1, 2, 0, 11]), (20, [2, 1], [60, 5, 1, 955, 10, 11, 13, 14, 15, 1]), (24, [0, 2], []), (101, [2, 9], [12]), (7, [7, 8], [5]), (2, [7, 5, 6], []), (20, [1, 2], [30, 0, 1, 0, 0, -1, 1, 15]), (20, [2], [50, 2, 0, 15, 11, 0, 7, 4, 3, 2, 0, 15, 0, 1, 2, 0, 11]), (20, [2, 1], [60, 5, 1, 955, 10, 11, 13, 14, 15, 1])], [], [], [(20, [2, 2], [30, 0, 1, 1, 15, -1, 1, 11]), (20, [2], [50, 3, 0, 12, 11, 15, 2, 21, 4, 7, 1, 3, 2, 0, 12, 0, 1, 0, 3, 2, 0, 11, 4, 3, 2, 0, 15, 0, 8, 3, 7, 1, 3, 2, 0, 12, 0, 0, 0, 7, 4, 3, 2, 0, 15, 0, 1, 2, 0, 11]), (20, [2, 1], [60, 6, 1, 948, 10, 11, 12, 13, 14, 15, 1]), (20, [0, 0], [30, 0, 1, 1, 15, -1, 1, 11]), (20, [0], [50, 3, 0, 12, 11, 15, 2, 21, 4, 7, 1, 3, 2, 0, 12, 0, 1, 0, 3, 2, 0, 11, 4, 3, 2, 0, 15, 0, 8, 3, 7, 1, 3, 2, 0, 12, 0, 0, 0, 7, 4, 3, 2, 0, 15, 0, 1, 2, 0, 11]), (20, [1, 0], [30, 0, 1, 0, 0, -1, 1, 15]), (20, [0, 1], [60, 6, 1, 948, 10, 11, 12, 13, 14, 15, 1])], [], [(7, 5, -2000, 0)])
theorem oo_Mo_next_70 {kA : Nat → ClassId} : or_ok PRD kA GG o_Mo_next_70 := by
  refine or_mk fun A ta ws vs hD hth hl => ?_
  intro t0 r0 t1 k1 t2 r2 t4 k4 t5 k5 t6 k6 t7 k7 t8 k8 t9 k9 d0 f0 f1 f2 f3 f4 f5 f6 f7 ta1 w1 le1 s1 f9 f10 f11 f12 f13
  replace f0 := shm_103 f0
  replace f1 := shm_177 f1
  replace f2 := shm_115 f2
  replace f3 := shm_116 f3
  replace f5 := shm_1446 f5
  replace f7 := shm_5 f7
  have s1 : (∀ b j, w_el ws b j = w_el w1 b j) ∧ ∀ b j, w_fd ws b j = if b = v_ad (n_v vs 2) ∧ j = 12 then n_v vs 9 else w_fd w1 b j := s1.2
  replace f10 := shm_14 f10
  replace f11 := shm_1436 f11
  replace f13 := shm_1449 f13
  have q2 : n_v vs 2 = n_v vs 0 := f7.symm
  simp only [q2] at f0 f1 f2 f3 f5
  rw [q2] at s1
  simp only [q2] at f11 f13
  have ar_0_1_1 : w_ar w1 (n_v vs 0) 1 = w_ar ws (n_v vs 0) 1 := by show v_ad (w_fd w1 _ _) = v_ad (w_fd ws _ _); rw [s1.2, if_neg (fun e => absurd e.2 (by decide))]
  have cr_0_1 := fdq_39 hD hth r0
  have g0 : v_iv (n_v vs 9) = w_fi ws (n_v vs 0) 12 := congrArg v_iv f0
  have g1 : v_iv (n_v vs 6) = w_fi ws (n_v vs 0) 15 := congrArg v_iv f1
  have g2 : v_iv (n_v vs 4) = w_fi ws (n_v vs 0) 14 := congrArg v_iv f2
  have g3 : v_iv (n_v vs 5) = w_fi ws (n_v vs 0) 11 := congrArg v_iv f3
  simp only [ar_0_1_1] at f13
  have fe_0_10_1 : w_fi ws (n_v vs 0) 10 = w_fi w1 (n_v vs 0) 10 := by show v_iv (w_fd _ _ _) = v_iv (w_fd _ _ _); rw [s1.2, if_neg (fun e => absurd e.2 (by decide))]
  have fe_0_11_1 : w_fi ws (n_v vs 0) 11 = w_fi w1 (n_v vs 0) 11 := by show v_iv (w_fd _ _ _) = v_iv (w_fd _ _ _); rw [s1.2, if_neg (fun e => absurd e.2 (by decide))]
  have fe_0_13_1 : w_fi ws (n_v vs 0) 13 = w_fi w1 (n_v vs 0) 13 := by show v_iv (w_fd _ _ _) = v_iv (w_fd _ _ _); rw [s1.2, if_neg (fun e => absurd e.2 (by decide))]
  have fe_0_14_1 : w_fi ws (n_v vs 0) 14 = w_fi w1 (n_v vs 0) 14 := by show v_iv (w_fd _ _ _) = v_iv (w_fd _ _ _); rw [s1.2, if_neg (fun e => absurd e.2 (by decide))]
  have fe_0_15_1 : w_fi ws (n_v vs 0) 15 = w_fi w1 (n_v vs 0) 15 := by show v_iv (w_fd _ _ _) = v_iv (w_fd _ _ _); rw [s1.2, if_neg (fun e => absurd e.2 (by decide))]
  have hE_0_1_1 : ∀ j : Int, w_ei ws (w_ar ws (n_v vs 0) 1) j = w_ei w1 (w_ar ws (n_v vs 0) 1) j := fun j => s1.1 _ _
  have hK_0_1 := elq_7 hD hth cr_0_1
  have kz_0_10 := fdq_43 hD hth r0
  have kz_0_11 := fdq_237 hD hth r0
  have kz_0_12 := fdq_187 hD hth r0
  have kz_0_13 := fdq_238 hD hth r0
  have kz_0_14 := fdq_188 hD hth r0
  have kz_0_15 := fdq_239 hD hth r0
  have nf0 : fc_1 PRD (20, [2, 2], [30, 0, 1, 1, 15, -1, 1, 11]) ws (vs) := by
    refine ⟨nf_in hl rfl, sgq_1437 ?_⟩
    · show 1 * w_fi ws (n_v vs 2) 15 + ((-1) * w_fi ws (n_v vs 2) 11 + 0) ≤ 0
      rw [q2]
      exact vc_Mo_next_70_0 (v_iv (n_v vs 5)) (v_iv (n_v vs 6)) (v_iv (n_v vs 7)) (w_fi ws (n_v vs 0) 15) (w_fi ws (n_v vs 0) 14) (w_fi ws (n_v vs 0) 11) (w_ei ws (w_ar ws (n_v vs 0) 1)) (w_fi ws (n_v vs 0) 10) (w_fi ws (n_v vs 0) 13) (w_fi w1 (n_v vs 0) 15) (w_fi w1 (n_v vs 0) 11) (w_ei w1 (w_ar ws (n_v vs 0) 1)) (w_fi w1 (n_v vs 0) 10) (w_fi w1 (n_v vs 0) 13) (w_fi w1 (n_v vs 0) 14) k5 k6 k7 g1 g3 f5 f10 fe_0_10_1 fe_0_11_1 fe_0_13_1 fe_0_14_1 fe_0_15_1 hE_0_1_1 hK_0_1 kz_0_10 kz_0_11 kz_0_13 kz_0_14 kz_0_15
  have nf1 : fc_1 PRD (20, [2], [50, 3, 0, 12, 11, 15, 2, 21, 4, 7, 1, 3, 2, 0, 12, 0, 1, 0, 3, 2, 0, 11, 4, 3, 2, 0, 15, 0, 8, 3, 7, 1, 3, 2, 0, 12, 0, 0, 0, 7, 4, 3, 2, 0, 15, 0, 1, 2, 0, 11]) ws (vs) := by
    refine ⟨nf_in hl rfl, sgq_1438 ?_⟩
    · show ((w_fi ws (n_v vs 2) 12 = 1) → (w_fi ws (n_v vs 2) 11 ≤ (w_fi ws (n_v vs 2) 15 + 8))) ∧ ((w_fi ws (n_v vs 2) 12 = 0) ∨ ((w_fi ws (n_v vs 2) 15 + 1) ≤ w_fi ws (n_v vs 2) 11))
      rw [q2]
      exact vc_Mo_next_70_1 (v_iv (n_v vs 5)) (v_iv (n_v vs 6)) (v_iv (n_v vs 7)) (v_iv (n_v vs 9)) (w_fi ws (n_v vs 0) 12) (w_fi ws (n_v vs 0) 15) (w_fi ws (n_v vs 0) 14) (w_fi ws (n_v vs 0) 11) (w_ei ws (w_ar ws (n_v vs 0) 1)) (w_fi ws (n_v vs 0) 10) (w_fi ws (n_v vs 0) 13) (w_fi w1 (n_v vs 0) 15) (w_fi w1 (n_v vs 0) 11) (w_ei w1 (w_ar ws (n_v vs 0) 1)) (w_fi w1 (n_v vs 0) 10) (w_fi w1 (n_v vs 0) 13) (w_fi w1 (n_v vs 0) 14) k5 k6 k7 k9 g0 g1 g3 f5 f10 fe_0_10_1 fe_0_11_1 fe_0_13_1 fe_0_14_1 fe_0_15_1 hE_0_1_1 hK_0_1 kz_0_10 kz_0_11 kz_0_12 kz_0_13 kz_0_14 kz_0_15
  have nf2 : fc_1 PRD (20, [2, 1], [60, 6, 1, 948, 10, 11, 12, 13, 14, 15, 1]) ws (vs) := by
    refine ⟨nf_in hl rfl, sgq_1439 ?_⟩
    · show TKR (w_fi ws (n_v vs 2) 10) (w_fi ws (n_v vs 2) 11) (w_fi ws (n_v vs 2) 12) (w_fi ws (n_v vs 2) 13) (w_fi ws (n_v vs 2) 14) (w_fi ws (n_v vs 2) 15) (w_ei ws (w_ar ws (n_v vs 2) 1)) (v_iv (n_v vs 1))
      rw [q2]
      exact vc_Mo_next_70_2 (v_iv (n_v vs 1)) (v_iv (n_v vs 4)) (v_iv (n_v vs 5)) (v_iv (n_v vs 6)) (v_iv (n_v vs 7)) (v_iv (n_v vs 9)) (w_fi ws (n_v vs 0) 12) (w_fi ws (n_v vs 0) 15) (w_fi ws (n_v vs 0) 14) (w_fi ws (n_v vs 0) 11) (w_ei ws (w_ar ws (n_v vs 0) 1)) (w_fi ws (n_v vs 0) 10) (w_fi ws (n_v vs 0) 13) (w_fi w1 (n_v vs 0) 15) (w_fi w1 (n_v vs 0) 11) (w_ei w1 (w_ar ws (n_v vs 0) 1)) (w_fi w1 (n_v vs 0) 10) (w_fi w1 (n_v vs 0) 13) (w_fi w1 (n_v vs 0) 14) k1 k4 k5 k6 k7 k9 g0 g1 g2 g3 f5 f10 f13 fe_0_10_1 fe_0_11_1 fe_0_13_1 fe_0_14_1 fe_0_15_1 hE_0_1_1 kz_0_10 kz_0_11 kz_0_12 kz_0_13 kz_0_14 kz_0_15
  have nf3 : fc_1 PRD (20, [0, 0], [30, 0, 1, 1, 15, -1, 1, 11]) ws (vs) := ⟨nf_in hl rfl, sgq_1437 (vc_Mo_next_70_3 (v_iv (n_v vs 5)) (v_iv (n_v vs 6)) (v_iv (n_v vs 7)) (w_fi ws (n_v vs 0) 15) (w_fi ws (n_v vs 0) 14) (w_fi ws (n_v vs 0) 11) (w_ei ws (w_ar ws (n_v vs 0) 1)) (w_fi ws (n_v vs 0) 10) (w_fi ws (n_v vs 0) 13) (w_fi w1 (n_v vs 0) 15) (w_fi w1 (n_v vs 0) 11) (w_ei w1 (w_ar ws (n_v vs 0) 1)) (w_fi w1 (n_v vs 0) 10) (w_fi w1 (n_v vs 0) 13) (w_fi w1 (n_v vs 0) 14) k5 k6 k7 g1 g3 f5 f10 fe_0_10_1 fe_0_11_1 fe_0_13_1 fe_0_14_1 fe_0_15_1 hE_0_1_1 hK_0_1 kz_0_10 kz_0_11 kz_0_13 kz_0_14 kz_0_15)⟩
  have nf4 : fc_1 PRD (20, [0], [50, 3, 0, 12, 11, 15, 2, 21, 4, 7, 1, 3, 2, 0, 12, 0, 1, 0, 3, 2, 0, 11, 4, 3, 2, 0, 15, 0, 8, 3, 7, 1, 3, 2, 0, 12, 0, 0, 0, 7, 4, 3, 2, 0, 15, 0, 1, 2, 0, 11]) ws (vs) := ⟨nf_in hl rfl, sgq_1438 (vc_Mo_next_70_4 (v_iv (n_v vs 5)) (v_iv (n_v vs 6)) (v_iv (n_v vs 7)) (v_iv (n_v vs 9)) (w_fi ws (n_v vs 0) 12) (w_fi ws (n_v vs 0) 15) (w_fi ws (n_v vs 0) 14) (w_fi ws (n_v vs 0) 11) (w_ei ws (w_ar ws (n_v vs 0) 1)) (w_fi ws (n_v vs 0) 10) (w_fi ws (n_v vs 0) 13) (w_fi w1 (n_v vs 0) 15) (w_fi w1 (n_v vs 0) 11) (w_ei w1 (w_ar ws (n_v vs 0) 1)) (w_fi w1 (n_v vs 0) 10) (w_fi w1 (n_v vs 0) 13) (w_fi w1 (n_v vs 0) 14) k5 k6 k7 k9 g0 g1 g3 f5 f10 fe_0_10_1 fe_0_11_1 fe_0_13_1 fe_0_14_1 fe_0_15_1 hE_0_1_1 hK_0_1 kz_0_10 kz_0_11 kz_0_12 kz_0_13 kz_0_14 kz_0_15)⟩
  have nf5 : fc_1 PRD (20, [1, 0], [30, 0, 1, 0, 0, -1, 1, 15]) ws (vs) := ⟨nf_in hl rfl, sgq_1436 (vc_Mo_next_70_5 (v_iv (n_v vs 1)) (w_fi ws (n_v vs 0) 15) (w_fi ws (n_v vs 0) 14) (w_fi ws (n_v vs 0) 11) (w_ei ws (w_ar ws (n_v vs 0) 1)) (w_fi ws (n_v vs 0) 10) (w_fi ws (n_v vs 0) 13) (w_fi w1 (n_v vs 0) 15) (w_fi w1 (n_v vs 0) 11) (w_ei w1 (w_ar ws (n_v vs 0) 1)) (w_fi w1 (n_v vs 0) 10) (w_fi w1 (n_v vs 0) 13) (w_fi w1 (n_v vs 0) 14) k1 f11 fe_0_10_1 fe_0_11_1 fe_0_13_1 fe_0_14_1 fe_0_15_1 hE_0_1_1 hK_0_1 kz_0_10 kz_0_11 kz_0_13 kz_0_14 kz_0_15)⟩
  have nf6 : fc_1 PRD (20, [0, 1], [60, 6, 1, 948, 10, 11, 12, 13, 14, 15, 1]) ws (vs) := ⟨nf_in hl rfl, sgq_1439 (vc_Mo_next_70_6 (v_iv (n_v vs 1)) (v_iv (n_v vs 4)) (v_iv (n_v vs 5)) (v_iv (n_v vs 6)) (v_iv (n_v vs 7)) (v_iv (n_v vs 9)) (w_fi ws (n_v vs 0) 12) (w_fi ws (n_v vs 0) 15) (w_fi ws (n_v vs 0) 14) (w_fi ws (n_v vs 0) 11) (w_ei ws (w_ar ws (n_v vs 0) 1)) (w_fi ws (n_v vs 0) 10) (w_fi ws (n_v vs 0) 13) (w_fi w1 (n_v vs 0) 15) (w_fi w1 (n_v vs 0) 11) (w_ei w1 (w_ar ws (n_v vs 0) 1)) (w_fi w1 (n_v vs 0) 10) (w_fi w1 (n_v vs 0) 13) (w_fi w1 (n_v vs 0) 14) k1 k4 k5 k6 k7 k9 g0 g1 g2 g3 f5 f10 f13 fe_0_10_1 fe_0_11_1 fe_0_13_1 fe_0_14_1 fe_0_15_1 hE_0_1_1 kz_0_10 kz_0_11 kz_0_12 kz_0_13 kz_0_14 kz_0_15)⟩
  refine ⟨(fun _ h => (by cases h)), [], trivial, ?_, (fun _ h => (by cases h))⟩
  rw [List.append_nil]
  exact List.forall_mem_cons.mpr ⟨⟨show (20 : Nat) < 100 from by decide, nf0⟩, List.forall_mem_cons.mpr ⟨⟨show (20 : Nat) < 100 from by decide, nf1⟩, List.forall_mem_cons.mpr ⟨⟨show (20 : Nat) < 100 from by decide, nf2⟩, List.forall_mem_cons.mpr ⟨⟨show (20 : Nat) < 100 from by decide, nf3⟩, List.forall_mem_cons.mpr ⟨⟨show (20 : Nat) < 100 from by decide, nf4⟩, List.forall_mem_cons.mpr ⟨⟨show (20 : Nat) < 100 from by decide, nf5⟩, List.forall_mem_cons.mpr ⟨⟨show (20 : Nat) < 100 from by decide, nf6⟩, (fun _ h => (by cases h))⟩⟩⟩⟩⟩⟩⟩
set_option maxHeartbeats 4000000 in
theorem vc_Mo_next_71_0 (x1 : Int) (x3 : Int) (x6 : Int) (x7 : Int) (x8 : Int) (from_0 : Int) (place_0 : Int) (pos_0 : Int) (tape_0 : Int → Int) (limit_0 : Int) (k1 : 0 ≤ x1 ∧ x1 ≤ 2000) (k3 : 123 ≤ x3 ∧ x3 ≤ 123) (k6 : 0 ≤ x6 ∧ x6 ≤ 1999) (k7 : 0 ≤ x7 ∧ x7 ≤ 1999) (k8 : 0 ≤ x8 ∧ x8 ≤ 1999) (g0 : x6 = from_0) (g1 : x7 = place_0) (g2 : x8 = pos_0) (f6 : ZXS (limit_0) (pos_0) (place_0) (from_0) (tape_0) (x1) (x3)) (kz_0_10 : 0 ≤ limit_0 ∧ limit_0 ≤ 2000) (kz_0_11 : 0 ≤ pos_0 ∧ pos_0 ≤ 2000) (kz_0_13 : 0 ≤ place_0 ∧ place_0 ≤ 2000) (kz_0_15 : 0 ≤ from_0 ∧ from_0 ≤ 2000) : ZXS1 (limit_0) (pos_0) (place_0) (from_0) (tape_0) (x1) (x3) := by
  first | subst g0 | skip
  first | subst g1 | skip
  first | subst g2 | skip
  exact ⟨‹ZXS _ _ _ _ _ _ _›, by unfold ZSG; omega⟩
def o_Mo_next_71 : or_T := (325, 10, [(0, (2, 0, 0, [165])), (1, (0, 0, 2000, [])), (3, (0, 123, 123, [])), (6, (0, 0, 1999, [])), (7, (0, 0, 1999, [])), (8, (0, 0, 1999, []))], [(9, [6, 2], [15]), (9, [7, 2], [13]), (9, [8, 2], [11]), (20, [2, 1, 3], [60, 4, 1, 956, 10, 11, 13, 15, 1]), (24, [0, 2], [])], [], [], [(20, [2, 1, 3], [60, 4, 1, 957, 10, 11, 13, 15, 1])], [], [])
theorem oo_Mo_next_71 {kA : Nat → ClassId} : or_ok PRD kA GG o_Mo_next_71 := by
  refine or_mk fun A ta ws vs hD hth hl => ?_
  intro t0 r0 t1 k1 t3 k3 t6 k6 t7 k7 t8 k8 f0 f1 f2 f6 f7
  replace f0 := shm_177 f0
  replace f1 := shm_361 f1
  replace f2 := shm_116 f2
  replace f6 := shm_1441 f6
  replace f7 := shm_5 f7
  have q2 : n_v vs 2 = n_v vs 0 := f7.symm
  simp only [q2] at f0 f1 f2 f6
  have g0 : v_iv (n_v vs 6) = w_fi ws (n_v vs 0) 15 := congrArg v_iv f0
  have g1 : v_iv (n_v vs 7) = w_fi ws (n_v vs 0) 13 := congrArg v_iv f1
  have g2 : v_iv (n_v vs 8) = w_fi ws (n_v vs 0) 11 := congrArg v_iv f2
  have kz_0_10 := fdq_43 hD hth r0
  have kz_0_11 := fdq_237 hD hth r0
  have kz_0_13 := fdq_238 hD hth r0
  have kz_0_15 := fdq_239 hD hth r0
  have nf0 : fc_1 PRD (20, [2, 1, 3], [60, 4, 1, 957, 10, 11, 13, 15, 1]) ws (vs) := by
    refine ⟨nf_in hl rfl, sgq_1451 ?_⟩
    · show ZXS1 (w_fi ws (n_v vs 2) 10) (w_fi ws (n_v vs 2) 11) (w_fi ws (n_v vs 2) 13) (w_fi ws (n_v vs 2) 15) (w_ei ws (w_ar ws (n_v vs 2) 1)) (v_iv (n_v vs 1)) (v_iv (n_v vs 3))
      rw [q2]
      exact vc_Mo_next_71_0 (v_iv (n_v vs 1)) (v_iv (n_v vs 3)) (v_iv (n_v vs 6)) (v_iv (n_v vs 7)) (v_iv (n_v vs 8)) (w_fi ws (n_v vs 0) 15) (w_fi ws (n_v vs 0) 13) (w_fi ws (n_v vs 0) 11) (w_ei ws (w_ar ws (n_v vs 0) 1)) (w_fi ws (n_v vs 0) 10) k1 k3 k6 k7 k8 g0 g1 g2 f6 kz_0_10 kz_0_11 kz_0_13 kz_0_15
  refine ⟨(fun _ h => (by cases h)), [], trivial, ?_, (fun _ h => (by cases h))⟩
  rw [List.append_nil]
  exact List.forall_mem_cons.mpr ⟨⟨show (20 : Nat) < 100 from by decide, nf0⟩, (fun _ h => (by cases h))⟩
set_option maxHeartbeats 4000000 in
theorem vc_Mo_next_72_0 (x1 : Int) (x3 : Int) (x6 : Int) (x7 : Int) (x8 : Int) (from_0 : Int) (place_0 : Int) (pos_0 : Int) (tape_0 : Int → Int) (limit_0 : Int) (k1 : 0 ≤ x1 ∧ x1 ≤ 2000) (k3 : 125 ≤ x3 ∧ x3 ≤ 125) (k6 : 0 ≤ x6 ∧ x6 ≤ 1999) (k7 : 0 ≤ x7 ∧ x7 ≤ 1999) (k8 : 0 ≤ x8 ∧ x8 ≤ 1999) (g0 : x6 = from_0) (g1 : x7 = place_0) (g2 : x8 = pos_0) (f7 : ZXS (limit_0) (pos_0) (place_0) (from_0) (tape_0) (x1) (x3)) (kz_0_10 : 0 ≤ limit_0 ∧ limit_0 ≤ 2000) (kz_0_11 : 0 ≤ pos_0 ∧ pos_0 ≤ 2000) (kz_0_13 : 0 ≤ place_0 ∧ place_0 ≤ 2000) (kz_0_15 : 0 ≤ from_0 ∧ from_0 ≤ 2000) : ZXS1 (limit_0) (pos_0) (place_0) (from_0) (tape_0) (x1) (x3) := by
  first | subst g0 | skip
  first | subst g1 | skip
  first | subst g2 | skip
  exact ⟨‹ZXS _ _ _ _ _ _ _›, by unfold ZSG; omega⟩
def o_Mo_next_72 : or_T := (325, 11, [(0, (2, 0, 0, [165])), (1, (0, 0, 2000, [])), (3, (0, 125, 125, [])), (6, (0, 0, 1999, [])), (7, (0, 0, 1999, [])), (8, (0, 0, 1999, []))], [(9, [6, 2], [15]), (9, [7, 2], [13]), (9, [8, 2], [11]), (20, [2, 1, 3], [60, 4, 1, 956, 10, 11, 13, 15, 1]), (24, [0, 2], [])], [], [], [(20, [2, 1, 3], [60, 4, 1, 957, 10, 11, 13, 15, 1])], [], [])
theorem oo_Mo_next_72 {kA : Nat → ClassId} : or_ok PRD kA GG o_Mo_next_72 := by
  refine or_mk fun A ta ws vs hD hth hl => ?_
  intro t0 r0 t1 k1 t3 k3 t6 k6 t7 k7 t8 k8 f0 f1 f2 f7 f8
  replace f0 := shm_177 f0
  replace f1 := shm_361 f1
  replace f2 := shm_116 f2
  replace f7 := shm_1441 f7
  replace f8 := shm_5 f8
  have q2 : n_v vs 2 = n_v vs 0 := f8.symm
  simp only [q2] at f0 f1 f2 f7
  have g0 : v_iv (n_v vs 6) = w_fi ws (n_v vs 0) 15 := congrArg v_iv f0
  have g1 : v_iv (n_v vs 7) = w_fi ws (n_v vs 0) 13 := congrArg v_iv f1
  have g2 : v_iv (n_v vs 8) = w_fi ws (n_v vs 0) 11 := congrArg v_iv f2
  have kz_0_10 := fdq_43 hD hth r0
  have kz_0_11 := fdq_237 hD hth r0
  have kz_0_13 := fdq_238 hD hth r0
  have kz_0_15 := fdq_239 hD hth r0
  have nf0 : fc_1 PRD (20, [2, 1, 3], [60, 4, 1, 957, 10, 11, 13, 15, 1]) ws (vs) := by
    refine ⟨nf_in hl rfl, sgq_1451 ?_⟩
    · show ZXS1 (w_fi ws (n_v vs 2) 10) (w_fi ws (n_v vs 2) 11) (w_fi ws (n_v vs 2) 13) (w_fi ws (n_v vs 2) 15) (w_ei ws (w_ar ws (n_v vs 2) 1)) (v_iv (n_v vs 1)) (v_iv (n_v vs 3))
      rw [q2]
      exact vc_Mo_next_72_0 (v_iv (n_v vs 1)) (v_iv (n_v vs 3)) (v_iv (n_v vs 6)) (v_iv (n_v vs 7)) (v_iv (n_v vs 8)) (w_fi ws (n_v vs 0) 15) (w_fi ws (n_v vs 0) 13) (w_fi ws (n_v vs 0) 11) (w_ei ws (w_ar ws (n_v vs 0) 1)) (w_fi ws (n_v vs 0) 10) k1 k3 k6 k7 k8 g0 g1 g2 f7 kz_0_10 kz_0_11 kz_0_13 kz_0_15
  refine ⟨(fun _ h => (by cases h)), [], trivial, ?_, (fun _ h => (by cases h))⟩
  rw [List.append_nil]
  exact List.forall_mem_cons.mpr ⟨⟨show (20 : Nat) < 100 from by decide, nf0⟩, (fun _ h => (by cases h))⟩
set_option maxHeartbeats 4000000 in
theorem vc_Mo_next_73_0 (x1 : Int) (x3 : Int) (x6 : Int) (x7 : Int) (x8 : Int) (from_0 : Int) (place_0 : Int) (pos_0 : Int) (tape_0 : Int → Int) (limit_0 : Int) (k1 : 0 ≤ x1 ∧ x1 ≤ 2000) (k3 : 91 ≤ x3 ∧ x3 ≤ 91) (k6 : 0 ≤ x6 ∧ x6 ≤ 1999) (k7 : 0 ≤ x7 ∧ x7 ≤ 1999) (k8 : 0 ≤ x8 ∧ x8 ≤ 1999) (g0 : x6 = from_0) (g1 : x7 = place_0) (g2 : x8 = pos_0) (f8 : ZXS (limit_0) (pos_0) (place_0) (from_0) (tape_0) (x1) (x3)) (kz_0_10 : 0 ≤ limit_0 ∧ limit_0 ≤ 2000) (kz_0_11 : 0 ≤ pos_0 ∧ pos_0 ≤ 2000) (kz_0_13 : 0 ≤ place_0 ∧ place_0 ≤ 2000) (kz_0_15 : 0 ≤ from_0 ∧ from_0 ≤ 2000) : ZXS1 (limit_0) (pos_0) (place_0) (from_0) (tape_0) (x1) (x3) := by
  first | subst g0 | skip
  first | subst g1 | skip
  first | subst g2 | skip
  exact ⟨‹ZXS _ _ _ _ _ _ _›, by unfold ZSG; omega⟩
def o_Mo_next_73 : or_T := (325, 12, [(0, (2, 0, 0, [165])), (1, (0, 0, 2000, [])), (3, (0, 91, 91, [])), (6, (0, 0, 1999, [])), (7, (0, 0, 1999, [])), (8, (0, 0, 1999, []))], [(9, [6, 2], [15]), (9, [7, 2], [13]), (9, [8, 2], [11]), (20, [2, 1, 3], [60, 4, 1, 956, 10, 11, 13, 15, 1]), (24, [0, 2], [])], [], [], [(20, [2, 1, 3], [60, 4, 1, 957, 10, 11, 13, 15, 1])], [], [])
theorem oo_Mo_next_73 {kA : Nat → ClassId} : or_ok PRD kA GG o_Mo_next_73 := by
  refine or_mk fun A ta ws vs hD hth hl => ?_
  intro t0 r0 t1 k1 t3 k3 t6 k6 t7 k7 t8 k8 f0 f1 f2 f8 f9
  replace f0 := shm_177 f0
  replace f1 := shm_361 f1
  replace f2 := shm_116 f2
  replace f8 := shm_1441 f8
  replace f9 := shm_5 f9
  have q2 : n_v vs 2 = n_v vs 0 := f9.symm
  simp only [q2] at f0 f1 f2 f8
  have g0 : v_iv (n_v vs 6) = w_fi ws (n_v vs 0) 15 := congrArg v_iv f0
  have g1 : v_iv (n_v vs 7) = w_fi ws (n_v vs 0) 13 := congrArg v_iv f1
  have g2 : v_iv (n_v vs 8) = w_fi ws (n_v vs 0) 11 := congrArg v_iv f2
  have kz_0_10 := fdq_43 hD hth r0
  have kz_0_11 := fdq_237 hD hth r0
  have kz_0_13 := fdq_238 hD hth r0
  have kz_0_15 := fdq_239 hD hth r0
  have nf0 : fc_1 PRD (20, [2, 1, 3], [60, 4, 1, 957, 10, 11, 13, 15, 1]) ws (vs) := by
    refine ⟨nf_in hl rfl, sgq_1451 ?_⟩
    · show ZXS1 (w_fi ws (n_v vs 2) 10) (w_fi ws (n_v vs 2) 11) (w_fi ws (n_v vs 2) 13) (w_fi ws (n_v vs 2) 15) (w_ei ws (w_ar ws (n_v vs 2) 1)) (v_iv (n_v vs 1)) (v_iv (n_v vs 3))
      rw [q2]
      exact vc_Mo_next_73_0 (v_iv (n_v vs 1)) (v_iv (n_v vs 3)) (v_iv (n_v vs 6)) (v_iv (n_v vs 7)) (v_iv (n_v vs 8)) (w_fi ws (n_v vs 0) 15) (w_fi ws (n_v vs 0) 13) (w_fi ws (n_v vs 0) 11) (w_ei ws (w_ar ws (n_v vs 0) 1)) (w_fi ws (n_v vs 0) 10) k1 k3 k6 k7 k8 g0 g1 g2 f8 kz_0_10 kz_0_11 kz_0_13 kz_0_15
  refine ⟨(fun _ h => (by cases h)), [], trivial, ?_, (fun _ h => (by cases h))⟩
  rw [List.append_nil]
  exact List.forall_mem_cons.mpr ⟨⟨show (20 : Nat) < 100 from by decide, nf0⟩, (fun _ h => (by cases h))⟩
set_option maxHeartbeats 4000000 in
theorem vc_Mo_next_74_0 (x1 : Int) (x3 : Int) (x6 : Int) (x7 : Int) (x8 : Int) (from_0 : Int) (place_0 : Int) (pos_0 : Int) (tape_0 : Int → Int) (limit_0 : Int) (k1 : 0 ≤ x1 ∧ x1 ≤ 2000) (k3 : 93 ≤ x3 ∧ x3 ≤ 93) (k6 : 0 ≤ x6 ∧ x6 ≤ 1999) (k7 : 0 ≤ x7 ∧ x7 ≤ 1999) (k8 : 0 ≤ x8 ∧ x8 ≤ 1999) (g0 : x6 = from_0) (g1 : x7 = place_0) (g2 : x8 = pos_0) (f9 : ZXS (limit_0) (pos_0) (place_0) (from_0) (tape_0) (x1) (x3)) (kz_0_10 : 0 ≤ limit_0 ∧ limit_0 ≤ 2000) (kz_0_11 : 0 ≤ pos_0 ∧ pos_0 ≤ 2000) (kz_0_13 : 0 ≤ place_0 ∧ place_0 ≤ 2000) (kz_0_15 : 0 ≤ from_0 ∧ from_0 ≤ 2000) : ZXS1 (limit_0) (pos_0) (place_0) (from_0) (tape_0) (x1) (x3) := by
  first | subst g0 | skip
  first | subst g1 | skip
  first | subst g2 | skip
  exact ⟨‹ZXS _ _ _ _ _ _ _›, by unfold ZSG; omega⟩
def o_Mo_next_74 : or_T := (325, 13, [(0, (2, 0, 0, [165])), (1, (0, 0, 2000, [])), (3, (0, 93, 93, [])), (6, (0, 0, 1999, [])), (7, (0, 0, 1999, [])), (8, (0, 0, 1999, []))], [(9, [6, 2], [15]), (9, [7, 2], [13]), (9, [8, 2], [11]), (20, [2, 1, 3], [60, 4, 1, 956, 10, 11, 13, 15, 1]), (24, [0, 2], [])], [], [], [(20, [2, 1, 3], [60, 4, 1, 957, 10, 11, 13, 15, 1])], [], [])
theorem oo_Mo_next_74 {kA : Nat → ClassId} : or_ok PRD kA GG o_Mo_next_74 := by
  refine or_mk fun A ta ws vs hD hth hl => ?_
  intro t0 r0 t1 k1 t3 k3 t6 k6 t7 k7 t8 k8 f0 f1 f2 f9 f10
  replace f0 := shm_177 f0
  replace f1 := shm_361 f1
  replace f2 := shm_116 f2
  replace f9 := shm_1441 f9
  replace f10 := shm_5 f10
  have q2 : n_v vs 2 = n_v vs 0 := f10.symm
  simp only [q2] at f0 f1 f2 f9
  have g0 : v_iv (n_v vs 6) = w_fi ws (n_v vs 0) 15 := congrArg v_iv f0
  have g1 : v_iv (n_v vs 7) = w_fi ws (n_v vs 0) 13 := congrArg v_iv f1
  have g2 : v_iv (n_v vs 8) = w_fi ws (n_v vs 0) 11 := congrArg v_iv f2
  have kz_0_10 := fdq_43 hD hth r0
  have kz_0_11 := fdq_237 hD hth r0
  have kz_0_13 := fdq_238 hD hth r0
  have kz_0_15 := fdq_239 hD hth r0
  have nf0 : fc_1 PRD (20, [2, 1, 3], [60, 4, 1, 957, 10, 11, 13, 15, 1]) ws (vs) := by
    refine ⟨nf_in hl rfl, sgq_1451 ?_⟩
    · show ZXS1 (w_fi ws (n_v vs 2) 10) (w_fi ws (n_v vs 2) 11) (w_fi ws (n_v vs 2) 13) (w_fi ws (n_v vs 2) 15) (w_ei ws (w_ar ws (n_v vs 2) 1)) (v_iv (n_v vs 1)) (v_iv (n_v vs 3))
      rw [q2]
      exact vc_Mo_next_74_0 (v_iv (n_v vs 1)) (v_iv (n_v vs 3)) (v_iv (n_v vs 6)) (v_iv (n_v vs 7)) (v_iv (n_v vs 8)) (w_fi ws (n_v vs 0) 15) (w_fi ws (n_v vs 0) 13) (w_fi ws (n_v vs 0) 11) (w_ei ws (w_ar ws (n_v vs 0) 1)) (w_fi ws (n_v vs 0) 10) k1 k3 k6 k7 k8 g0 g1 g2 f9 kz_0_10 kz_0_11 kz_0_13 kz_0_15
  refine ⟨(fun _ h => (by cases h)), [], trivial, ?_, (fun _ h => (by cases h))⟩
  rw [List.append_nil]
  exact List.forall_mem_cons.mpr ⟨⟨show (20 : Nat) < 100 from by decide, nf0⟩, (fun _ h => (by cases h))⟩
set_option maxHeartbeats 4000000 in
theorem vc_Mo_next_75_0 (x1 : Int) (x3 : Int) (x6 : Int) (x7 : Int) (x8 : Int) (from_0 : Int) (place_0 : Int) (pos_0 : Int) (tape_0 : Int → Int) (limit_0 : Int) (k1 : 0 ≤ x1 ∧ x1 ≤ 2000) (k3 : 59 ≤ x3 ∧ x3 ≤ 59) (k6 : 0 ≤ x6 ∧ x6 ≤ 1999) (k7 : 0 ≤ x7 ∧ x7 ≤ 1999) (k8 : 0 ≤ x8 ∧ x8 ≤ 1999) (g0 : x6 = from_0) (g1 : x7 = place_0) (g2 : x8 = pos_0) (f10 : ZXS (limit_0) (pos_0) (place_0) (from_0) (tape_0) (x1) (x3)) (kz_0_10 : 0 ≤ limit_0 ∧ limit_0 ≤ 2000) (kz_0_11 : 0 ≤ pos_0 ∧ pos_0 ≤ 2000) (kz_0_13 : 0 ≤ place_0 ∧ place_0 ≤ 2000) (kz_0_15 : 0 ≤ from_0 ∧ from_0 ≤ 2000) : ZXS1 (limit_0) (pos_0) (place_0) (from_0) (tape_0) (x1) (x3) := by
  first | subst g0 | skip
  first | subst g1 | skip
  first | subst g2 | skip
  exact ⟨‹ZXS _ _ _ _ _ _ _›, by unfold ZSG; omega⟩
def o_Mo_next_75 : or_T := (325, 14, [(0, (2, 0, 0, [165])), (1, (0, 0, 2000, [])), (3, (0, 59, 59, [])), (6, (0, 0, 1999, [])), (7, (0, 0, 1999, [])), (8, (0, 0, 1999, []))], [(9, [6, 2], [15]), (9, [7, 2], [13]), (9, [8, 2], [11]), (20, [2, 1, 3], [60, 4, 1, 956, 10, 11, 13, 15, 1]), (24, [0, 2], [])], [], [], [(20, [2, 1, 3], [60, 4, 1, 957, 10, 11, 13, 15, 1])], [], [])
theorem oo_Mo_next_75 {kA : Nat → ClassId} : or_ok PRD kA GG o_Mo_next_75 := by
  refine or_mk fun A ta ws vs hD hth hl => ?_
  intro t0 r0 t1 k1 t3 k3 t6 k6 t7 k7 t8 k8 f0 f1 f2 f10 f11
  replace f0 := shm_177 f0
  replace f1 := shm_361 f1
  replace f2 := shm_116 f2
  replace f10 := shm_1441 f10
  replace f11 := shm_5 f11
  have q2 : n_v vs 2 = n_v vs 0 := f11.symm
  simp only [q2] at f0 f1 f2 f10
  have g0 : v_iv (n_v vs 6) = w_fi ws (n_v vs 0) 15 := congrArg v_iv f0
  have g1 : v_iv (n_v vs 7) = w_fi ws (n_v vs 0) 13 := congrArg v_iv f1
  have g2 : v_iv (n_v vs 8) = w_fi ws (n_v vs 0) 11 := congrArg v_iv f2
  have kz_0_10 := fdq_43 hD hth r0
  have kz_0_11 := fdq_237 hD hth r0
  have kz_0_13 := fdq_238 hD hth r0
  have kz_0_15 := fdq_239 hD hth r0
  have nf0 : fc_1 PRD (20, [2, 1, 3], [60, 4, 1, 957, 10, 11, 13, 15, 1]) ws (vs) := by
    refine ⟨nf_in hl rfl, sgq_1451 ?_⟩
    · show ZXS1 (w_fi ws (n_v vs 2) 10) (w_fi ws (n_v vs 2) 11) (w_fi ws (n_v vs 2) 13) (w_fi ws (n_v vs 2) 15) (w_ei ws (w_ar ws (n_v vs 2) 1)) (v_iv (n_v vs 1)) (v_iv (n_v vs 3))
      rw [q2]
      exact vc_Mo_next_75_0 (v_iv (n_v vs 1)) (v_iv (n_v vs 3)) (v_iv (n_v vs 6)) (v_iv (n_v vs 7)) (v_iv (n_v vs 8)) (w_fi ws (n_v vs 0) 15) (w_fi ws (n_v vs 0) 13) (w_fi ws (n_v vs 0) 11) (w_ei ws (w_ar ws (n_v vs 0) 1)) (w_fi ws (n_v vs 0) 10) k1 k3 k6 k7 k8 g0 g1 g2 f10 kz_0_10 kz_0_11 kz_0_13 kz_0_15
  refine ⟨(fun _ h => (by cases h)), [], trivial, ?_, (fun _ h => (by cases h))⟩
  rw [List.append_nil]
  exact List.forall_mem_cons.mpr ⟨⟨show (20 : Nat) < 100 from by decide, nf0⟩, (fun _ h => (by cases h))⟩
set_option maxHeartbeats 4000000 in
theorem vc_Mo_next_76_0 (x1 : Int) (x3 : Int) (x6 : Int) (x7 : Int) (x8 : Int) (from_0 : Int) (place_0 : Int) (pos_0 : Int) (tape_0 : Int → Int) (limit_0 : Int) (k1 : 0 ≤ x1 ∧ x1 ≤ 2000) (k3 : 61 ≤ x3 ∧ x3 ≤ 61) (k6 : 0 ≤ x6 ∧ x6 ≤ 1999) (k7 : 0 ≤ x7 ∧ x7 ≤ 1999) (k8 : 0 ≤ x8 ∧ x8 ≤ 1999) (g0 : x6 = from_0) (g1 : x7 = place_0) (g2 : x8 = pos_0) (f11 : ZXS (limit_0) (pos_0) (place_0) (from_0) (tape_0) (x1) (x3)) (kz_0_10 : 0 ≤ limit_0 ∧ limit_0 ≤ 2000) (kz_0_11 : 0 ≤ pos_0 ∧ pos_0 ≤ 2000) (kz_0_13 : 0 ≤ place_0 ∧ place_0 ≤ 2000) (kz_0_15 : 0 ≤ from_0 ∧ from_0 ≤ 2000) : ZXS1 (limit_0) (pos_0) (place_0) (from_0) (tape_0) (x1) (x3) := by
  first | subst g0 | skip
  first | subst g1 | skip
  first | subst g2 | skip
  exact ⟨‹ZXS _ _ _ _ _ _ _›, by unfold ZSG; omega⟩
def o_Mo_next_76 : or_T := (325, 15, [(0, (2, 0, 0, [165])), (1, (0, 0, 2000, [])), (3, (0, 61, 61, [])), (6, (0, 0, 1999, [])), (7, (0, 0, 1999, [])), (8, (0, 0, 1999, []))], [(9, [6, 2], [15]), (9, [7, 2], [13]), (9, [8, 2], [11]), (20, [2, 1, 3], [60, 4, 1, 956, 10, 11, 13, 15, 1]), (24, [0, 2], [])], [], [], [(20, [2, 1, 3], [60, 4, 1, 957, 10, 11, 13, 15, 1])], [], [])
theorem oo_Mo_next_76 {kA : Nat → ClassId} : or_ok PRD kA GG o_Mo_next_76 := by
  refine or_mk fun A ta ws vs hD hth hl => ?_
  intro t0 r0 t1 k1 t3 k3 t6 k6 t7 k7 t8 k8 f0 f1 f2 f11 f12
  replace f0 := shm_177 f0
  replace f1 := shm_361 f1
  replace f2 := shm_116 f2
  replace f11 := shm_1441 f11
  replace f12 := shm_5 f12
  have q2 : n_v vs 2 = n_v vs 0 := f12.symm
  simp only [q2] at f0 f1 f2 f11
  have g0 : v_iv (n_v vs 6) = w_fi ws (n_v vs 0) 15 := congrArg v_iv f0
  have g1 : v_iv (n_v vs 7) = w_fi ws (n_v vs 0) 13 := congrArg v_iv f1
  have g2 : v_iv (n_v vs 8) = w_fi ws (n_v vs 0) 11 := congrArg v_iv f2
  have kz_0_10 := fdq_43 hD hth r0
  have kz_0_11 := fdq_237 hD hth r0
  have kz_0_13 := fdq_238 hD hth r0
  have kz_0_15 := fdq_239 hD hth r0
  have nf0 : fc_1 PRD (20, [2, 1, 3], [60, 4, 1, 957, 10, 11, 13, 15, 1]) ws (vs) := by
    refine ⟨nf_in hl rfl, sgq_1451 ?_⟩
    · show ZXS1 (w_fi ws (n_v vs 2) 10) (w_fi ws (n_v vs 2) 11) (w_fi ws (n_v vs 2) 13) (w_fi ws (n_v vs 2) 15) (w_ei ws (w_ar ws (n_v vs 2) 1)) (v_iv (n_v vs 1)) (v_iv (n_v vs 3))
      rw [q2]
      exact vc_Mo_next_76_0 (v_iv (n_v vs 1)) (v_iv (n_v vs 3)) (v_iv (n_v vs 6)) (v_iv (n_v vs 7)) (v_iv (n_v vs 8)) (w_fi ws (n_v vs 0) 15) (w_fi ws (n_v vs 0) 13) (w_fi ws (n_v vs 0) 11) (w_ei ws (w_ar ws (n_v vs 0) 1)) (w_fi ws (n_v vs 0) 10) k1 k3 k6 k7 k8 g0 g1 g2 f11 kz_0_10 kz_0_11 kz_0_13 kz_0_15
  refine ⟨(fun _ h => (by cases h)), [], trivial, ?_, (fun _ h => (by cases h))⟩
  rw [List.append_nil]
  exact List.forall_mem_cons.mpr ⟨⟨show (20 : Nat) < 100 from by decide, nf0⟩, (fun _ h => (by cases h))⟩
set_option maxHeartbeats 4000000 in
theorem vc_Mo_next_77_0 (x1 : Int) (x3 : Int) (x6 : Int) (x7 : Int) (x8 : Int) (from_0 : Int) (place_0 : Int) (pos_0 : Int) (tape_0 : Int → Int) (limit_0 : Int) (k1 : 0 ≤ x1 ∧ x1 ≤ 2000) (k3 : 45 ≤ x3 ∧ x3 ≤ 45) (k6 : 0 ≤ x6 ∧ x6 ≤ 1999) (k7 : 0 ≤ x7 ∧ x7 ≤ 1999) (k8 : 0 ≤ x8 ∧ x8 ≤ 1999) (g0 : x6 = from_0) (g1 : x7 = place_0) (g2 : x8 = pos_0) (f12 : ZXS (limit_0) (pos_0) (place_0) (from_0) (tape_0) (x1) (x3)) (kz_0_10 : 0 ≤ limit_0 ∧ limit_0 ≤ 2000) (kz_0_11 : 0 ≤ pos_0 ∧ pos_0 ≤ 2000) (kz_0_13 : 0 ≤ place_0 ∧ place_0 ≤ 2000) (kz_0_15 : 0 ≤ from_0 ∧ from_0 ≤ 2000) : ZXS1 (limit_0) (pos_0) (place_0) (from_0) (tape_0) (x1) (x3) := by
  first | subst g0 | skip
  first | subst g1 | skip
  first | subst g2 | skip
  exact ⟨‹ZXS _ _ _ _ _ _ _›, by unfold ZSG; omega⟩
def o_Mo_next_77 : or_T := (325, 16, [(0, (2, 0, 0, [165])), (1, (0, 0, 2000, [])), (3, (0, 45, 45, [])), (6, (0, 0, 1999, [])), (7, (0, 0, 1999, [])), (8, (0, 0, 1999, []))], [(9, [6, 2], [15]), (9, [7, 2], [13]), (9, [8, 2], [11]), (20, [2, 1, 3], [60, 4, 1, 956, 10, 11, 13, 15, 1]), (24, [0, 2], [])], [], [], [(20, [2, 1, 3], [60, 4, 1, 957, 10, 11, 13, 15, 1])], [], [])
theorem oo_Mo_next_77 {kA : Nat → ClassId} : or_ok PRD kA GG o_Mo_next_77 := by
  refine or_mk fun A ta ws vs hD hth hl => ?_
  intro t0 r0 t1 k1 t3 k3 t6 k6 t7 k7 t8 k8 f0 f1 f2 f12 f13
  replace f0 := shm_177 f0
  replace f1 := shm_361 f1
  replace f2 := shm_116 f2
  replace f12 := shm_1441 f12
  replace f13 := shm_5 f13
  have q2 : n_v vs 2 = n_v vs 0 := f13.symm
  simp only [q2] at f0 f1 f2 f12
  have g0 : v_iv (n_v vs 6) = w_fi ws (n_v vs 0) 15 := congrArg v_iv f0
  have g1 : v_iv (n_v vs 7) = w_fi ws (n_v vs 0) 13 := congrArg v_iv f1
  have g2 : v_iv (n_v vs 8) = w_fi ws (n_v vs 0) 11 := congrArg v_iv f2
  have kz_0_10 := fdq_43 hD hth r0
  have kz_0_11 := fdq_237 hD hth r0
  have kz_0_13 := fdq_238 hD hth r0
  have kz_0_15 := fdq_239 hD hth r0
  have nf0 : fc_1 PRD (20, [2, 1, 3], [60, 4, 1, 957, 10, 11, 13, 15, 1]) ws (vs) := by
    refine ⟨nf_in hl rfl, sgq_1451 ?_⟩
    · show ZXS1 (w_fi ws (n_v vs 2) 10) (w_fi ws (n_v vs 2) 11) (w_fi ws (n_v vs 2) 13) (w_fi ws (n_v vs 2) 15) (w_ei ws (w_ar ws (n_v vs 2) 1)) (v_iv (n_v vs 1)) (v_iv (n_v vs 3))
      rw [q2]
      exact vc_Mo_next_77_0 (v_iv (n_v vs 1)) (v_iv (n_v vs 3)) (v_iv (n_v vs 6)) (v_iv (n_v vs 7)) (v_iv (n_v vs 8)) (w_fi ws (n_v vs 0) 15) (w_fi ws (n_v vs 0) 13) (w_fi ws (n_v vs 0) 11) (w_ei ws (w_ar ws (n_v vs 0) 1)) (w_fi ws (n_v vs 0) 10) k1 k3 k6 k7 k8 g0 g1 g2 f12 kz_0_10 kz_0_11 kz_0_13 kz_0_15
  refine ⟨(fun _ h => (by cases h)), [], trivial, ?_, (fun _ h => (by cases h))⟩
  rw [List.append_nil]
  exact List.forall_mem_cons.mpr ⟨⟨show (20 : Nat) < 100 from by decide, nf0⟩, (fun _ h => (by cases h))⟩
set_option maxHeartbeats 4000000 in
theorem vc_Mo_next_78_0 (x6 : Int) (x8 : Int) (x20 : Int) (pos_0 : Int) (kind_0 : Int) (value_0 : Int) (from_0 : Int) (place_0 : Int) (pos_1 : Int) (from_1 : Int) (tape_1 : Int → Int) (limit_1 : Int) (place_1 : Int) (from_2 : Int) (pos_2 : Int) (tape_2 : Int → Int) (limit_2 : Int) (place_2 : Int) (limit_0 : Int) (kind_1 : Int) (value_1 : Int) (tape_0 : Int → Int) (k6 : 0 ≤ x6 ∧ x6 ≤ 1999) (k8 : 0 ≤ x8 ∧ x8 ≤ 1999) (k20 : 1 ≤ x20 ∧ x20 ≤ 2000) (d0 : x8 + 1 ≤ x20 ∧ x20 ≤ x8 + 1) (d1 : x6 + (-4294967296) ≤ x20 ∧ x20 ≤ x6 + 1) (d6 : x8 + (-4294967296) ≤ x6 ∧ x6 ≤ x8 + 0) (g0 : x20 = pos_0) (g3 : x6 = from_0) (fe_0_10_1 : limit_0 = limit_1) (fe_0_12_1 : kind_0 = kind_1) (fe_0_13_1 : place_0 = place_1) (fe_0_14_1 : value_0 = value_1) (fe_0_15_1 : from_0 = from_1) (fe_0_10_2 : limit_1 = limit_2) (fe_0_11_2 : pos_1 = pos_2) (fe_0_13_2 : place_1 = place_2) (fe_0_15_2 : from_1 = from_2) (hE_0_1_1 : ∀ j : Int, tape_0 j = tape_1 j) (hE_0_1_2 : ∀ j : Int, tape_1 j = tape_2 j) (hK_0_1 : ∀ j : Int, 0 ≤ j → j < 2000 → (-128) ≤ tape_0 j ∧ tape_0 j ≤ 127) (kz_0_10 : 0 ≤ limit_0 ∧ limit_0 ≤ 2000) (kz_0_11 : 0 ≤ pos_0 ∧ pos_0 ≤ 2000) (kz_0_12 : 0 ≤ kind_0 ∧ kind_0 ≤ 4) (kz_0_13 : 0 ≤ place_0 ∧ place_0 ≤ 2000) (kz_0_14 : (-49) ≤ value_0 ∧ value_0 ≤ 1048575) (kz_0_15 : 0 ≤ from_0 ∧ from_0 ≤ 2000) : 1 * from_0 + ((-1) * pos_0 + 0) ≤ 0 := by
  subst fe_0_10_1
  subst fe_0_12_1
  subst fe_0_13_1
  subst fe_0_14_1
  subst fe_0_15_1
  subst fe_0_10_2
  subst fe_0_11_2
  subst fe_0_13_2
  subst fe_0_15_2
  have e_hE_0_1_1 := funext hE_0_1_1; subst e_hE_0_1_1
  have e_hE_0_1_2 := funext hE_0_1_2; subst e_hE_0_1_2
  first | with_reducible assumption | ((try and_intros) <;> first | with_reducible assumption | (clear hE_0_1_1 hE_0_1_2 hK_0_1; omega)) | omega
set_option maxHeartbeats 4000000 in
theorem vc_Mo_next_78_1 (x6 : Int) (x8 : Int) (x18 : Int) (x20 : Int) (pos_0 : Int) (kind_0 : Int) (value_0 : Int) (from_0 : Int) (place_0 : Int) (pos_1 : Int) (from_1 : Int) (tape_1 : Int → Int) (limit_1 : Int) (place_1 : Int) (from_2 : Int) (pos_2 : Int) (tape_2 : Int → Int) (limit_2 : Int) (place_2 : Int) (limit_0 : Int) (kind_1 : Int) (value_1 : Int) (tape_0 : Int → Int) (k6 : 0 ≤ x6 ∧ x6 ≤ 1999) (k8 : 0 ≤ x8 ∧ x8 ≤ 1999) (k18 : 4 ≤ x18 ∧ x18 ≤ 4) (k20 : 1 ≤ x20 ∧ x20 ≤ 2000) (d0 : x8 + 1 ≤ x20 ∧ x20 ≤ x8 + 1) (d1 : x6 + (-4294967296) ≤ x20 ∧ x20 ≤ x6 + 1) (d6 : x8 + (-4294967296) ≤ x6 ∧ x6 ≤ x8 + 0) (g0 : x20 = pos_0) (g1 : x18 = kind_0) (g3 : x6 = from_0) (fe_0_10_1 : limit_0 = limit_1) (fe_0_12_1 : kind_0 = kind_1) (fe_0_13_1 : place_0 = place_1) (fe_0_14_1 : value_0 = value_1) (fe_0_15_1 : from_0 = from_1) (fe_0_10_2 : limit_1 = limit_2) (fe_0_11_2 : pos_1 = pos_2) (fe_0_13_2 : place_1 = place_2) (fe_0_15_2 : from_1 = from_2) (hE_0_1_1 : ∀ j : Int, tape_0 j = tape_1 j) (hE_0_1_2 : ∀ j : Int, tape_1 j = tape_2 j) (hK_0_1 : ∀ j : Int, 0 ≤ j → j < 2000 → (-128) ≤ tape_0 j ∧ tape_0 j ≤ 127) (kz_0_10 : 0 ≤ limit_0 ∧ limit_0 ≤ 2000) (kz_0_11 : 0 ≤ pos_0 ∧ pos_0 ≤ 2000) (kz_0_12 : 0 ≤ kind_0 ∧ kind_0 ≤ 4) (kz_0_13 : 0 ≤ place_0 ∧ place_0 ≤ 2000) (kz_0_14 : (-49) ≤ value_0 ∧ value_0 ≤ 1048575) (kz_0_15 : 0 ≤ from_0 ∧ from_0 ≤ 2000) : ((kind_0 = 1) → (pos_0 ≤ (from_0 + 8))) ∧ ((kind_0 = 0) ∨ ((from_0 + 1) ≤ pos_0)) := by
  subst fe_0_10_1
  subst fe_0_12_1
  subst fe_0_13_1
  subst fe_0_14_1
  subst fe_0_15_1
  subst fe_0_10_2
  subst fe_0_11_2
  subst fe_0_13_2
  subst fe_0_15_2
  have e_hE_0_1_1 := funext hE_0_1_1; subst e_hE_0_1_1
  have e_hE_0_1_2 := funext hE_0_1_2; subst e_hE_0_1_2
  first | with_reducible assumption | ((try and_intros) <;> first | with_reducible assumption | (clear hE_0_1_1 hE_0_1_2 hK_0_1; omega)) | omega
set_option maxHeartbeats 4000000 in
theorem vc_Mo_next_78_2 (x1 : Int) (x3 : Int) (x4 : Int) (x6 : Int) (x7 : Int) (x8 : Int) (x9 : Int) (x10 : Int) (x11 : Int) (x12 : Int) (x13 : Int) (x14 : Int) (x15 : Int) (x16 : Int) (x18 : Int) (x20 : Int) (pos_0 : Int) (kind_0 : Int) (value_0 : Int) (from_0 : Int) (place_0 : Int) (pos_1 : Int) (from_1 : Int) (tape_1 : Int → Int) (limit_1 : Int) (place_1 : Int) (from_2 : Int) (pos_2 : Int) (tape_2 : Int → Int) (limit_2 : Int) (place_2 : Int) (limit_0 : Int) (kind_1 : Int) (value_1 : Int) (tape_0 : Int → Int) (k1 : 0 ≤ x1 ∧ x1 ≤ 2000) (k3 : 0 ≤ x3 ∧ x3 ≤ 255) (k4 : 0 ≤ x4 ∧ x4 ≤ 255) (k6 : 0 ≤ x6 ∧ x6 ≤ 1999) (k7 : 0 ≤ x7 ∧ x7 ≤ 1999) (k8 : 0 ≤ x8 ∧ x8 ≤ 1999) (k9 : 123 ≤ x9 ∧ x9 ≤ 123) (k10 : 125 ≤ x10 ∧ x10 ≤ 125) (k11 : 91 ≤ x11 ∧ x11 ≤ 91) (k12 : 93 ≤ x12 ∧ x12 ≤ 93) (k13 : 59 ≤ x13 ∧ x13 ≤ 59) (k14 : 61 ≤ x14 ∧ x14 ≤ 61) (k15 : 45 ≤ x15 ∧ x15 ≤ 45) (k16 : 62 ≤ x16 ∧ x16 ≤ 62) (k18 : 4 ≤ x18 ∧ x18 ≤ 4) (k20 : 1 ≤ x20 ∧ x20 ≤ 2000) (d0 : x8 + 1 ≤ x20 ∧ x20 ≤ x8 + 1) (d3 : x4 + (-4294967296) ≤ x3 ∧ x3 ≤ x4 + 0) (d4 : x3 + (-4294967296) ≤ x4 ∧ x4 ≤ x3 + 0) (g0 : x20 = pos_0) (g1 : x18 = kind_0) (g2 : x4 = value_0) (g3 : x6 = from_0) (g4 : x7 = place_0) (g9 : x8 = pos_1) (f14 : x3 ≠ x16) (f15 : x3 ≠ x15) (f16 : x3 ≠ x14) (f17 : x3 ≠ x13) (f18 : x3 ≠ x12) (f19 : x3 ≠ x11) (f20 : x3 ≠ x10) (f21 : x3 ≠ x9) (f24 : ZXS (limit_2) (pos_2) (place_2) (from_2) (tape_2) (x1) (x3)) (fe_0_10_1 : limit_0 = limit_1) (fe_0_12_1 : kind_0 = kind_1) (fe_0_13_1 : place_0 = place_1) (fe_0_14_1 : value_0 = value_1) (fe_0_15_1 : from_0 = from_1) (fe_0_10_2 : limit_1 = limit_2) (fe_0_11_2 : pos_1 = pos_2) (fe_0_13_2 : place_1 = place_2) (fe_0_15_2 : from_1 = from_2) (hE_0_1_1 : ∀ j : Int, tape_0 j = tape_1 j) (hE_0_1_2 : ∀ j : Int, tape_1 j = tape_2 j) (hK_0_1 : ∀ j : Int, 0 ≤ j → j < 2000 → (-128) ≤ tape_0 j ∧ tape_0 j ≤ 127) (kz_0_10 : 0 ≤ limit_0 ∧ limit_0 ≤ 2000) (kz_0_11 : 0 ≤ pos_0 ∧ pos_0 ≤ 2000) (kz_0_12 : 0 ≤ kind_0 ∧ kind_0 ≤ 4) (kz_0_13 : 0 ≤ place_0 ∧ place_0 ≤ 2000) (kz_0_14 : (-49) ≤ value_0 ∧ value_0 ≤ 1048575) (kz_0_15 : 0 ≤ from_0 ∧ from_0 ≤ 2000) : TKR (limit_0) (pos_0) (kind_0) (place_0) (value_0) (from_0) (tape_0) (x1) := by
  subst fe_0_10_1
  subst fe_0_12_1
  subst fe_0_13_1
  subst fe_0_14_1
  subst fe_0_15_1
  subst fe_0_10_2
  subst fe_0_11_2
  subst fe_0_13_2
  subst fe_0_15_2
  have e_hE_0_1_1 := funext hE_0_1_1; subst e_hE_0_1_1
  have e_hE_0_1_2 := funext hE_0_1_2; subst e_hE_0_1_2
  first | subst g0 | skip
  first | subst g1 | skip
  first | subst g2 | skip
  first | subst g3 | skip
  first | subst g4 | skip
  first | subst g9 | skip
  first
    | assumption
    | exact tkr_end ‹ZX1 _ _ _ _› (by omega) (by omega) (by omega) (by omega)
    | (have e := (‹ZXM _ _ _ _ _ _›).1.1.1; exact tkr_name ‹ZXM _ _ _ _ _ _› (by omega))
    | (have e := (‹ZXE _ _ _ _ _ _ _›).1.1.1; exact tkr_num ‹ZXE _ _ _ _ _ _ _› (by omega))
    | exact tkr_sign (by assumption) ‹ZXS1 _ _ _ _ _ _ _›.1 (by omega) (by omega) (Or.inl ⟨by omega, ‹ZXS1 _ _ _ _ _ _ _›.2⟩)
    | exact tkr_sign (by assumption) ‹ZXS _ _ _ _ _ _ _› (by omega) (by omega) (Or.inr ⟨by omega, by unfold ZSG; omega⟩)
set_option maxHeartbeats 4000000 in
theorem vc_Mo_next_78_3 (x6 : Int) (x8 : Int) (x20 : Int) (pos_0 : Int) (kind_0 : Int) (value_0 : Int) (from_0 : Int) (place_0 : Int) (pos_1 : Int) (from_1 : Int) (tape_1 : Int → Int) (limit_1 : Int) (place_1 : Int) (from_2 : Int) (pos_2 : Int) (tape_2 : Int → Int) (limit_2 : Int) (place_2 : Int) (limit_0 : Int) (kind_1 : Int) (value_1 : Int) (tape_0 : Int → Int) (k6 : 0 ≤ x6 ∧ x6 ≤ 1999) (k8 : 0 ≤ x8 ∧ x8 ≤ 1999) (k20 : 1 ≤ x20 ∧ x20 ≤ 2000) (d0 : x8 + 1 ≤ x20 ∧ x20 ≤ x8 + 1) (d1 : x6 + (-4294967296) ≤ x20 ∧ x20 ≤ x6 + 1) (d6 : x8 + (-4294967296) ≤ x6 ∧ x6 ≤ x8 + 0) (g0 : x20 = pos_0) (g3 : x6 = from_0) (fe_0_10_1 : limit_0 = limit_1) (fe_0_12_1 : kind_0 = kind_1) (fe_0_13_1 : place_0 = place_1) (fe_0_14_1 : value_0 = value_1) (fe_0_15_1 : from_0 = from_1) (fe_0_10_2 : limit_1 = limit_2) (fe_0_11_2 : pos_1 = pos_2) (fe_0_13_2 : place_1 = place_2) (fe_0_15_2 : from_1 = from_2) (hE_0_1_1 : ∀ j : Int, tape_0 j = tape_1 j) (hE_0_1_2 : ∀ j : Int, tape_1 j = tape_2 j) (hK_0_1 : ∀ j : Int, 0 ≤ j → j < 2000 → (-128) ≤ tape_0 j ∧ tape_0 j ≤ 127) (kz_0_10 : 0 ≤ limit_0 ∧ limit_0 ≤ 2000) (kz_0_11 : 0 ≤ pos_0 ∧ pos_0 ≤ 2000) (kz_0_12 : 0 ≤ kind_0 ∧ kind_0 ≤ 4) (kz_0_13 : 0 ≤ place_0 ∧ place_0 ≤ 2000) (kz_0_14 : (-49) ≤ value_0 ∧ value_0 ≤ 1048575) (kz_0_15 : 0 ≤ from_0 ∧ from_0 ≤ 2000) : 1 * from_0 + ((-1) * pos_0 + 0) ≤ 0 := by
  subst fe_0_10_1
  subst fe_0_12_1
  subst fe_0_13_1
  subst fe_0_14_1
  subst fe_0_15_1
  subst fe_0_10_2
  subst fe_0_11_2
  subst fe_0_13_2
  subst fe_0_15_2
  have e_hE_0_1_1 := funext hE_0_1_1; subst e_hE_0_1_1
  have e_hE_0_1_2 := funext hE_0_1_2; subst e_hE_0_1_2
  first | with_reducible assumption | ((try and_intros) <;> first | with_reducible assumption | (clear hE_0_1_1 hE_0_1_2 hK_0_1; omega)) | omega
set_option maxHeartbeats 4000000 in
theorem vc_Mo_next_78_4 (x6 : Int) (x8 : Int) (x18 : Int) (x20 : Int) (pos_0 : Int) (kind_0 : Int) (value_0 : Int) (from_0 : Int) (place_0 : Int) (pos_1 : Int) (from_1 : Int) (tape_1 : Int → Int) (limit_1 : Int) (place_1 : Int) (from_2 : Int) (pos_2 : Int) (tape_2 : Int → Int) (limit_2 : Int) (place_2 : Int) (limit_0 : Int) (kind_1 : Int) (value_1 : Int) (tape_0 : Int → Int) (k6 : 0 ≤ x6 ∧ x6 ≤ 1999) (k8 : 0 ≤ x8 ∧ x8 ≤ 1999) (k18 : 4 ≤ x18 ∧ x18 ≤ 4) (k20 : 1 ≤ x20 ∧ x20 ≤ 2000) (d0 : x8 + 1 ≤ x20 ∧ x20 ≤ x8 + 1) (d1 : x6 + (-4294967296) ≤ x20 ∧ x20 ≤ x6 + 1) (d6 : x8 + (-4294967296) ≤ x6 ∧ x6 ≤ x8 + 0) (g0 : x20 = pos_0) (g1 : x18 = kind_0) (g3 : x6 = from_0) (fe_0_10_1 : limit_0 = limit_1) (fe_0_12_1 : kind_0 = kind_1) (fe_0_13_1 : place_0 = place_1) (fe_0_14_1 : value_0 = value_1) (fe_0_15_1 : from_0 = from_1) (fe_0_10_2 : limit_1 = limit_2) (fe_0_11_2 : pos_1 = pos_2) (fe_0_13_2 : place_1 = place_2) (fe_0_15_2 : from_1 = from_2) (hE_0_1_1 : ∀ j : Int, tape_0 j = tape_1 j) (hE_0_1_2 : ∀ j : Int, tape_1 j = tape_2 j) (hK_0_1 : ∀ j : Int, 0 ≤ j → j < 2000 → (-128) ≤ tape_0 j ∧ tape_0 j ≤ 127) (kz_0_10 : 0 ≤ limit_0 ∧ limit_0 ≤ 2000) (kz_0_11 : 0 ≤ pos_0 ∧ pos_0 ≤ 2000) (kz_0_12 : 0 ≤ kind_0 ∧ kind_0 ≤ 4) (kz_0_13 : 0 ≤ place_0 ∧ place_0 ≤ 2000) (kz_0_14 : (-49) ≤ value_0 ∧ value_0 ≤ 1048575) (kz_0_15 : 0 ≤ from_0 ∧ from_0 ≤ 2000) : ((kind_0 = 1) → (pos_0 ≤ (from_0 + 8))) ∧ ((kind_0 = 0) ∨ ((from_0 + 1) ≤ pos_0)) := by
  subst fe_0_10_1
  subst fe_0_12_1
  subst fe_0_13_1
  subst fe_0_14_1
  subst fe_0_15_1
  subst fe_0_10_2
  subst fe_0_11_2
  subst fe_0_13_2
  subst fe_0_15_2
  have e_hE_0_1_1 := funext hE_0_1_1; subst e_hE_0_1_1
  have e_hE_0_1_2 := funext hE_0_1_2; subst e_hE_0_1_2
  first | with_reducible assumption | ((try and_intros) <;> first | with_reducible assumption | (clear hE_0_1_1 hE_0_1_2 hK_0_1; omega)) | omega
set_option maxHeartbeats 4000000 in
theorem vc_Mo_next_78_5 (x1 : Int) (kind_0 : Int) (value_0 : Int) (from_0 : Int) (place_0 : Int) (pos_1 : Int) (from_1 : Int) (tape_1 : Int → Int) (limit_1 : Int) (place_1 : Int) (from_2 : Int) (pos_2 : Int) (tape_2 : Int → Int) (limit_2 : Int) (place_2 : Int) (limit_0 : Int) (kind_1 : Int) (value_1 : Int) (tape_0 : Int → Int) (k1 : 0 ≤ x1 ∧ x1 ≤ 2000) (f22 : 1 * x1 + ((-1) * from_2 + 0) ≤ 0) (fe_0_10_1 : limit_0 = limit_1) (fe_0_12_1 : kind_0 = kind_1) (fe_0_13_1 : place_0 = place_1) (fe_0_14_1 : value_0 = value_1) (fe_0_15_1 : from_0 = from_1) (fe_0_10_2 : limit_1 = limit_2) (fe_0_11_2 : pos_1 = pos_2) (fe_0_13_2 : place_1 = place_2) (fe_0_15_2 : from_1 = from_2) (hE_0_1_1 : ∀ j : Int, tape_0 j = tape_1 j) (hE_0_1_2 : ∀ j : Int, tape_1 j = tape_2 j) (hK_0_1 : ∀ j : Int, 0 ≤ j → j < 2000 → (-128) ≤ tape_0 j ∧ tape_0 j ≤ 127) (kz_0_10 : 0 ≤ limit_0 ∧ limit_0 ≤ 2000) (kz_0_12 : 0 ≤ kind_0 ∧ kind_0 ≤ 4) (kz_0_13 : 0 ≤ place_0 ∧ place_0 ≤ 2000) (kz_0_14 : (-49) ≤ value_0 ∧ value_0 ≤ 1048575) (kz_0_15 : 0 ≤ from_0 ∧ from_0 ≤ 2000) : 1 * x1 + ((-1) * from_0 + 0) ≤ 0 := by
  subst fe_0_10_1
  subst fe_0_12_1
  subst fe_0_13_1
  subst fe_0_14_1
  subst fe_0_15_1
  subst fe_0_10_2
  subst fe_0_11_2
  subst fe_0_13_2
  subst fe_0_15_2
  have e_hE_0_1_1 := funext hE_0_1_1; subst e_hE_0_1_1
  have e_hE_0_1_2 := funext hE_0_1_2; subst e_hE_0_1_2
  first | with_reducible assumption | ((try and_intros) <;> first | with_reducible assumption | (clear hE_0_1_1 hE_0_1_2 hK_0_1; omega)) | omega
set_option maxHeartbeats 4000000 in
theorem vc_Mo_next_78_6 (x1 : Int) (x3 : Int) (x4 : Int) (x6 : Int) (x7 : Int) (x8 : Int) (x9 : Int) (x10 : Int) (x11 : Int) (x12 : Int) (x13 : Int) (x14 : Int) (x15 : Int) (x16 : Int) (x18 : Int) (x20 : Int) (pos_0 : Int) (kind_0 : Int) (value_0 : Int) (from_0 : Int) (place_0 : Int) (pos_1 : Int) (from_1 : Int) (tape_1 : Int → Int) (limit_1 : Int) (place_1 : Int) (from_2 : Int) (pos_2 : Int) (tape_2 : Int → Int) (limit_2 : Int) (place_2 : Int) (limit_0 : Int) (kind_1 : Int) (value_1 : Int) (tape_0 : Int → Int) (k1 : 0 ≤ x1 ∧ x1 ≤ 2000) (k3 : 0 ≤ x3 ∧ x3 ≤ 255) (k4 : 0 ≤ x4 ∧ x4 ≤ 255) (k6 : 0 ≤ x6 ∧ x6 ≤ 1999) (k7 : 0 ≤ x7 ∧ x7 ≤ 1999) (k8 : 0 ≤ x8 ∧ x8 ≤ 1999) (k9 : 123 ≤ x9 ∧ x9 ≤ 123) (k10 : 125 ≤ x10 ∧ x10 ≤ 125) (k11 : 91 ≤ x11 ∧ x11 ≤ 91) (k12 : 93 ≤ x12 ∧ x12 ≤ 93) (k13 : 59 ≤ x13 ∧ x13 ≤ 59) (k14 : 61 ≤ x14 ∧ x14 ≤ 61) (k15 : 45 ≤ x15 ∧ x15 ≤ 45) (k16 : 62 ≤ x16 ∧ x16 ≤ 62) (k18 : 4 ≤ x18 ∧ x18 ≤ 4) (k20 : 1 ≤ x20 ∧ x20 ≤ 2000) (d0 : x8 + 1 ≤ x20 ∧ x20 ≤ x8 + 1) (d3 : x4 + (-4294967296) ≤ x3 ∧ x3 ≤ x4 + 0) (d4 : x3 + (-4294967296) ≤ x4 ∧ x4 ≤ x3 + 0) (g0 : x20 = pos_0) (g1 : x18 = kind_0) (g2 : x4 = value_0) (g3 : x6 = from_0) (g4 : x7 = place_0) (g9 : x8 = pos_1) (f14 : x3 ≠ x16) (f15 : x3 ≠ x15) (f16 : x3 ≠ x14) (f17 : x3 ≠ x13) (f18 : x3 ≠ x12) (f19 : x3 ≠ x11) (f20 : x3 ≠ x10) (f21 : x3 ≠ x9) (f24 : ZXS (limit_2) (pos_2) (place_2) (from_2) (tape_2) (x1) (x3)) (fe_0_10_1 : limit_0 = limit_1) (fe_0_12_1 : kind_0 = kind_1) (fe_0_13_1 : place_0 = place_1) (fe_0_14_1 : value_0 = value_1) (fe_0_15_1 : from_0 = from_1) (fe_0_10_2 : limit_1 = limit_2) (fe_0_11_2 : pos_1 = pos_2) (fe_0_13_2 : place_1 = place_2) (fe_0_15_2 : from_1 = from_2) (hE_0_1_1 : ∀ j : Int, tape_0 j = tape_1 j) (hE_0_1_2 : ∀ j : Int, tape_1 j = tape_2 j) (hK_0_1 : ∀ j : Int, 0 ≤ j → j < 2000 → (-128) ≤ tape_0 j ∧ tape_0 j ≤ 127) (kz_0_10 : 0 ≤ limit_0 ∧ limit_0 ≤ 2000) (kz_0_11 : 0 ≤ pos_0 ∧ pos_0 ≤ 2000) (kz_0_12 : 0 ≤ kind_0 ∧ kind_0 ≤ 4) (kz_0_13 : 0 ≤ place_0 ∧ place_0 ≤ 2000) (kz_0_14 : (-49) ≤ value_0 ∧ value_0 ≤ 1048575) (kz_0_15 : 0 ≤ from_0 ∧ from_0 ≤ 2000) : TKR (limit_0) (pos_0) (kind_0) (place_0) (value_0) (from_0) (tape_0) (x1) := by
  subst fe_0_10_1
  subst fe_0_12_1
  subst fe_0_13_1
  subst fe_0_14_1
  subst fe_0_15_1
  subst fe_0_10_2
  subst fe_0_11_2
  subst fe_0_13_2
  subst fe_0_15_2
  have e_hE_0_1_1 := funext hE_0_1_1; subst e_hE_0_1_1
  have e_hE_0_1_2 := funext hE_0_1_2; subst e_hE_0_1_2
  first | subst g0 | skip
  first | subst g1 | skip
  first | subst g2 | skip
  first | subst g3 | skip
  first | subst g4 | skip
  first | subst g9 | skip
  first
    | assumption
    | exact tkr_end ‹ZX1 _ _ _ _› (by omega) (by omega) (by omega) (by omega)
    | (have e := (‹ZXM _ _ _ _ _ _›).1.1.1; exact tkr_name ‹ZXM _ _ _ _ _ _› (by omega))
    | (have e := (‹ZXE _ _ _ _ _ _ _›).1.1.1; exact tkr_num ‹ZXE _ _ _ _ _ _ _› (by omega))
    | exact tkr_sign (by assumption) ‹ZXS1 _ _ _ _ _ _ _›.1 (by omega) (by omega) (Or.inl ⟨by omega, ‹ZXS1 _ _ _ _ _ _ _›.2⟩)
    | exact tkr_sign (by assumption) ‹ZXS _ _ _ _ _ _ _› (by omega) (by omega) (Or.inr ⟨by omega, by unfold ZSG; omega⟩)
def o_Mo_next_78 : or_T := (354, 21, [(0, (2, 0, 0, [165])), (1, (0, 0, 2000, [])), (3, (0, 0, 255, [])), (4, (0, 0, 255, [])), (6, (0, 0, 1999, [])), (7, (0, 0, 1999, [])), (8, (0, 0, 1999, [])), (9, (0, 123, 123, [])), (10, (0, 125, 125, [])), (11, (0, 91, 91, [])), (12, (0, 93, 93, [])), (13, (0, 59, 59, [])), (14, (0, 61, 61, [])), (15, (0, 45, 45, [])), (16, (0, 62, 62, [])), (18, (0, 4, 4, [])), (20, (0, 1, 2000, []))], [(9, [20, 2], [11]), (9, [18, 2], [12]), (9, [4, 2], [14]), (9, [6, 2], [15]), (9, [7, 2], [13]), (24, [0, 2], []), (101, [2, 20], [11]), (9, [8, 2], [11]), (101, [2, 18], [12]), (7, [3, 16], [1]), (7, [3, 15], [1]), (7, [3, 14], [1]), (7, [3, 13], [1]), (7, [3, 12], [1]), (7, [3, 11], [1]), (7, [3, 10], [1]), (7, [3, 9], [1]), (20, [1, 2], [30, 0, 1, 0, 0, -1, 1, 15]), (20, [2, 1, 3], [60, 4, 1, 956, 10, 11, 13, 15, 1])], [], [], [(20, [2, 2], [30, 0, 1, 1, 15, -1, 1, 11]), (20, [2], [50, 3, 0, 12, 11, 15, 2, 21, 4, 7, 1, 3, 2, 0, 12, 0, 1, 0, 3, 2, 0, 11, 4, 3, 2, 0, 15, 0, 8, 3, 7, 1, 3, 2, 0, 12, 0, 0, 0, 7, 4, 3, 2, 0, 15, 0, 1, 2, 0, 11]), (20, [2, 1], [60, 6, 1, 948, 10, 11, 12, 13, 14, 15, 1]), (20, [0, 0], [30, 0, 1, 1, 15, -1, 1, 11]), (20, [0], [50, 3, 0, 12, 11, 15, 2, 21, 4, 7, 1, 3, 2, 0, 12, 0, 1, 0, 3, 2, 0, 11, 4, 3, 2, 0, 15, 0, 8, 3, 7, 1, 3, 2, 0, 12, 0, 0, 0, 7, 4, 3, 2, 0, 15, 0, 1, 2, 0, 11]), (20, [1, 0], [30, 0, 1, 0, 0, -1, 1, 15]), (20, [0, 1], [60, 6, 1, 948, 10, 11, 12, 13, 14, 15, 1])], [], [(20, 8, 1, 1), (20, 6, -4294967296, 1), (3, 4, -4294967296, 0), (4, 3, -4294967296, 0), (6, 8, -4294967296, 0)])
theorem oo_Mo_next_78 {kA : Nat → ClassId} : or_ok PRD kA GG o_Mo_next_78 := by
  refine or_mk fun A ta ws vs hD hth hl => ?_
  intro t0 r0 t1 k1 t3 k3 t4 k4 t6 k6 t7 k7 t8 k8 t9 k9 t10 k10 t11 k11 t12 k12 t13 k13 t14 k14 t15 k15 t16 k16 t18 k18 t20 k20 d0 d1 d3 d4 d6 f0 f1 f2 f3 f4 f6 ta1 w1 le1 s1 f9 ta2 w2 le2 s2 f14 f15 f16 f17 f18 f19 f20 f21 f22 f24
  replace f0 := shm_116 f0
  replace f1 := shm_103 f1
  replace f2 := shm_115 f2
  replace f3 := shm_177 f3
  replace f4 := shm_361 f4
  replace f6 := shm_5 f6
  have s1 : (∀ b j, w_el ws b j = w_el w1 b j) ∧ ∀ b j, w_fd ws b j = if b = v_ad (n_v vs 2) ∧ j = 11 then n_v vs 20 else w_fd w1 b j := s1.2
  replace f9 := shm_116 f9
  have s2 : (∀ b j, w_el w1 b j = w_el w2 b j) ∧ ∀ b j, w_fd w1 b j = if b = v_ad (n_v vs 2) ∧ j = 12 then n_v vs 18 else w_fd w2 b j := s2.2
  replace f14 := shm_40 f14
  replace f15 := shm_40 f15
  replace f16 := shm_40 f16
  replace f17 := shm_40 f17
  replace f18 := shm_40 f18
  replace f19 := shm_40 f19
  replace f20 := shm_40 f20
  replace f21 := shm_40 f21
  replace f22 := shm_1436 f22
  replace f24 := shm_1441 f24
  have q2 : n_v vs 2 = n_v vs 0 := f6.symm
  simp only [q2] at f0 f1 f2 f3 f4
  rw [q2] at s1
  simp only [q2] at f9
  rw [q2] at s2
  simp only [q2] at f22 f24
  have ar_0_1_1 : w_ar w1 (n_v vs 0) 1 = w_ar ws (n_v vs 0) 1 := by show v_ad (w_fd w1 _ _) = v_ad (w_fd ws _ _); rw [s1.2, if_neg (fun e => absurd e.2 (by decide))]
  have ar_0_1_2 : w_ar w2 (n_v vs 0) 1 = w_ar ws (n_v vs 0) 1 := by rw [← ar_0_1_1]; show v_ad (w_fd w2 _ _) = v_ad (w_fd w1 _ _); rw [s2.2, if_neg (fun e => absurd e.2 (by decide))]
  have cr_0_1 := fdq_39 hD hth r0
  have g0 : v_iv (n_v vs 20) = w_fi ws (n_v vs 0) 11 := congrArg v_iv f0
  have g1 : v_iv (n_v vs 18) = w_fi ws (n_v vs 0) 12 := congrArg v_iv f1
  have g2 : v_iv (n_v vs 4) = w_fi ws (n_v vs 0) 14 := congrArg v_iv f2
  have g3 : v_iv (n_v vs 6) = w_fi ws (n_v vs 0) 15 := congrArg v_iv f3
  have g4 : v_iv (n_v vs 7) = w_fi ws (n_v vs 0) 13 := congrArg v_iv f4
  have g9 : v_iv (n_v vs 8) = w_fi w1 (n_v vs 0) 11 := congrArg v_iv f9
  simp only [ar_0_1_1, ar_0_1_2] at f24
  have fe_0_10_1 : w_fi ws (n_v vs 0) 10 = w_fi w1 (n_v vs 0) 10 := by show v_iv (w_fd _ _ _) = v_iv (w_fd _ _ _); rw [s1.2, if_neg (fun e => absurd e.2 (by decide))]
  have fe_0_12_1 : w_fi ws (n_v vs 0) 12 = w_fi w1 (n_v vs 0) 12 := by show v_iv (w_fd _ _ _) = v_iv (w_fd _ _ _); rw [s1.2, if_neg (fun e => absurd e.2 (by decide))]
  have fe_0_13_1 : w_fi ws (n_v vs 0) 13 = w_fi w1 (n_v vs 0) 13 := by show v_iv (w_fd _ _ _) = v_iv (w_fd _ _ _); rw [s1.2, if_neg (fun e => absurd e.2 (by decide))]
  have fe_0_14_1 : w_fi ws (n_v vs 0) 14 = w_fi w1 (n_v vs 0) 14 := by show v_iv (w_fd _ _ _) = v_iv (w_fd _ _ _); rw [s1.2, if_neg (fun e => absurd e.2 (by decide))]
  have fe_0_15_1 : w_fi ws (n_v vs 0) 15 = w_fi w1 (n_v vs 0) 15 := by show v_iv (w_fd _ _ _) = v_iv (w_fd _ _ _); rw [s1.2, if_neg (fun e => absurd e.2 (by decide))]
  have fe_0_10_2 : w_fi w1 (n_v vs 0) 10 = w_fi w2 (n_v vs 0) 10 := by show v_iv (w_fd _ _ _) = v_iv (w_fd _ _ _); rw [s2.2, if_neg (fun e => absurd e.2 (by decide))]
  have fe_0_11_2 : w_fi w1 (n_v vs 0) 11 = w_fi w2 (n_v vs 0) 11 := by show v_iv (w_fd _ _ _) = v_iv (w_fd _ _ _); rw [s2.2, if_neg (fun e => absurd e.2 (by decide))]
  have fe_0_13_2 : w_fi w1 (n_v vs 0) 13 = w_fi w2 (n_v vs 0) 13 := by show v_iv (w_fd _ _ _) = v_iv (w_fd _ _ _); rw [s2.2, if_neg (fun e => absurd e.2 (by decide))]
  have fe_0_15_2 : w_fi w1 (n_v vs 0) 15 = w_fi w2 (n_v vs 0) 15 := by show v_iv (w_fd _ _ _) = v_iv (w_fd _ _ _); rw [s2.2, if_neg (fun e => absurd e.2 (by decide))]
  have hE_0_1_1 : ∀ j : Int, w_ei ws (w_ar ws (n_v vs 0) 1) j = w_ei w1 (w_ar ws (n_v vs 0) 1) j := fun j => s1.1 _ _
  have hE_0_1_2 : ∀ j : Int, w_ei w1 (w_ar ws (n_v vs 0) 1) j = w_ei w2 (w_ar ws (n_v vs 0) 1) j := fun j => s2.1 _ _
  have hK_0_1 := elq_7 hD hth cr_0_1
  have kz_0_10 := fdq_43 hD hth r0
  have kz_0_11 := fdq_237 hD hth r0
  have kz_0_12 := fdq_187 hD hth r0
  have kz_0_13 := fdq_238 hD hth r0
  have kz_0_14 := fdq_188 hD hth r0
  have kz_0_15 := fdq_239 hD hth r0
  have nf0 : fc_1 PRD (20, [2, 2], [30, 0, 1, 1, 15, -1, 1, 11]) ws (vs) := by
    refine ⟨nf_in hl rfl, sgq_1437 ?_⟩
    · show 1 * w_fi ws (n_v vs 2) 15 + ((-1) * w_fi ws (n_v vs 2) 11 + 0) ≤ 0
      rw [q2]
      exact vc_Mo_next_78_0 (v_iv (n_v vs 6)) (v_iv (n_v vs 8)) (v_iv (n_v vs 20)) (w_fi ws (n_v vs 0) 11) (w_fi ws (n_v vs 0) 12) (w_fi ws (n_v vs 0) 14) (w_fi ws (n_v vs 0) 15) (w_fi ws (n_v vs 0) 13) (w_fi w1 (n_v vs 0) 11) (w_fi w1 (n_v vs 0) 15) (w_ei w1 (w_ar ws (n_v vs 0) 1)) (w_fi w1 (n_v vs 0) 10) (w_fi w1 (n_v vs 0) 13) (w_fi w2 (n_v vs 0) 15) (w_fi w2 (n_v vs 0) 11) (w_ei w2 (w_ar ws (n_v vs 0) 1)) (w_fi w2 (n_v vs 0) 10) (w_fi w2 (n_v vs 0) 13) (w_fi ws (n_v vs 0) 10) (w_fi w1 (n_v vs 0) 12) (w_fi w1 (n_v vs 0) 14) (w_ei ws (w_ar ws (n_v vs 0) 1)) k6 k8 k20 d0 d1 d6 g0 g3 fe_0_10_1 fe_0_12_1 fe_0_13_1 fe_0_14_1 fe_0_15_1 fe_0_10_2 fe_0_11_2 fe_0_13_2 fe_0_15_2 hE_0_1_1 hE_0_1_2 hK_0_1 kz_0_10 kz_0_11 kz_0_12 kz_0_13 kz_0_14 kz_0_15
  have nf1 : fc_1 PRD (20, [2], [50, 3, 0, 12, 11, 15, 2, 21, 4, 7, 1, 3, 2, 0, 12, 0, 1, 0, 3, 2, 0, 11, 4, 3, 2, 0, 15, 0, 8, 3, 7, 1, 3, 2, 0, 12, 0, 0, 0, 7, 4, 3, 2, 0, 15, 0, 1, 2, 0, 11]) ws (vs) := by
    refine ⟨nf_in hl rfl, sgq_1438 ?_⟩
    · show ((w_fi ws (n_v vs 2) 12 = 1) → (w_fi ws (n_v vs 2) 11 ≤ (w_fi ws (n_v vs 2) 15 + 8))) ∧ ((w_fi ws (n_v vs 2) 12 = 0) ∨ ((w_fi ws (n_v vs 2) 15 + 1) ≤ w_fi ws (n_v vs 2) 11))
      rw [q2]
      exact vc_Mo_next_78_1 (v_iv (n_v vs 6)) (v_iv (n_v vs 8)) (v_iv (n_v vs 18)) (v_iv (n_v vs 20)) (w_fi ws (n_v vs 0) 11) (w_fi ws (n_v vs 0) 12) (w_fi ws (n_v vs 0) 14) (w_fi ws (n_v vs 0) 15) (w_fi ws (n_v vs 0) 13) (w_fi w1 (n_v vs 0) 11) (w_fi w1 (n_v vs 0) 15) (w_ei w1 (w_ar ws (n_v vs 0) 1)) (w_fi w1 (n_v vs 0) 10) (w_fi w1 (n_v vs 0) 13) (w_fi w2 (n_v vs 0) 15) (w_fi w2 (n_v vs 0) 11) (w_ei w2 (w_ar ws (n_v vs 0) 1)) (w_fi w2 (n_v vs 0) 10) (w_fi w2 (n_v vs 0) 13) (w_fi ws (n_v vs 0) 10) (w_fi w1 (n_v vs 0) 12) (w_fi w1 (n_v vs 0) 14) (w_ei ws (w_ar ws (n_v vs 0) 1)) k6 k8 k18 k20 d0 d1 d6 g0 g1 g3 fe_0_10_1 fe_0_12_1 fe_0_13_1 fe_0_14_1 fe_0_15_1 fe_0_10_2 fe_0_11_2 fe_0_13_2 fe_0_15_2 hE_0_1_1 hE_0_1_2 hK_0_1 kz_0_10 kz_0_11 kz_0_12 kz_0_13 kz_0_14 kz_0_15
  have nf2 : fc_1 PRD (20, [2, 1], [60, 6, 1, 948, 10, 11, 12, 13, 14, 15, 1]) ws (vs) := by
    refine ⟨nf_in hl rfl, sgq_1439 ?_⟩
    · show TKR (w_fi ws (n_v vs 2) 10) (w_fi ws (n_v vs 2) 11) (w_fi ws (n_v vs 2) 12) (w_fi ws (n_v vs 2) 13) (w_fi ws (n_v vs 2) 14) (w_fi ws (n_v vs 2) 15) (w_ei ws (w_ar ws (n_v vs 2) 1)) (v_iv (n_v vs 1))
      rw [q2]
      exact vc_Mo_next_78_2 (v_iv (n_v vs 1)) (v_iv (n_v vs 3)) (v_iv (n_v vs 4)) (v_iv (n_v vs 6)) (v_iv (n_v vs 7)) (v_iv (n_v vs 8)) (v_iv (n_v vs 9)) (v_iv (n_v vs 10)) (v_iv (n_v vs 11)) (v_iv (n_v vs 12)) (v_iv (n_v vs 13)) (v_iv (n_v vs 14)) (v_iv (n_v vs 15)) (v_iv (n_v vs 16)) (v_iv (n_v vs 18)) (v_iv (n_v vs 20)) (w_fi ws (n_v vs 0) 11) (w_fi ws (n_v vs 0) 12) (w_fi ws (n_v vs 0) 14) (w_fi ws (n_v vs 0) 15) (w_fi ws (n_v vs 0) 13) (w_fi w1 (n_v vs 0) 11) (w_fi w1 (n_v vs 0) 15) (w_ei w1 (w_ar ws (n_v vs 0) 1)) (w_fi w1 (n_v vs 0) 10) (w_fi w1 (n_v vs 0) 13) (w_fi w2 (n_v vs 0) 15) (w_fi w2 (n_v vs 0) 11) (w_ei w2 (w_ar ws (n_v vs 0) 1)) (w_fi w2 (n_v vs 0) 10) (w_fi w2 (n_v vs 0) 13) (w_fi ws (n_v vs 0) 10) (w_fi w1 (n_v vs 0) 12) (w_fi w1 (n_v vs 0) 14) (w_ei ws (w_ar ws (n_v vs 0) 1)) k1 k3 k4 k6 k7 k8 k9 k10 k11 k12 k13 k14 k15 k16 k18 k20 d0 d3 d4 g0 g1 g2 g3 g4 g9 f14 f15 f16 f17 f18 f19 f20 f21 f24 fe_0_10_1 fe_0_12_1 fe_0_13_1 fe_0_14_1 fe_0_15_1 fe_0_10_2 fe_0_11_2 fe_0_13_2 fe_0_15_2 hE_0_1_1 hE_0_1_2 hK_0_1 kz_0_10 kz_0_11 kz_0_12 kz_0_13 kz_0_14 kz_0_15
  have nf3 : fc_1 PRD (20, [0, 0], [30, 0, 1, 1, 15, -1, 1, 11]) ws (vs) := ⟨nf_in hl rfl, sgq_1437 (vc_Mo_next_78_3 (v_iv (n_v vs 6)) (v_iv (n_v vs 8)) (v_iv (n_v vs 20)) (w_fi ws (n_v vs 0) 11) (w_fi ws (n_v vs 0) 12) (w_fi ws (n_v vs 0) 14) (w_fi ws (n_v vs 0) 15) (w_fi ws (n_v vs 0) 13) (w_fi w1 (n_v vs 0) 11) (w_fi w1 (n_v vs 0) 15) (w_ei w1 (w_ar ws (n_v vs 0) 1)) (w_fi w1 (n_v vs 0) 10) (w_fi w1 (n_v vs 0) 13) (w_fi w2 (n_v vs 0) 15) (w_fi w2 (n_v vs 0) 11) (w_ei w2 (w_ar ws (n_v vs 0) 1)) (w_fi w2 (n_v vs 0) 10) (w_fi w2 (n_v vs 0) 13) (w_fi ws (n_v vs 0) 10) (w_fi w1 (n_v vs 0) 12) (w_fi w1 (n_v vs 0) 14) (w_ei ws (w_ar ws (n_v vs 0) 1)) k6 k8 k20 d0 d1 d6 g0 g3 fe_0_10_1 fe_0_12_1 fe_0_13_1 fe_0_14_1 fe_0_15_1 fe_0_10_2 fe_0_11_2 fe_0_13_2 fe_0_15_2 hE_0_1_1 hE_0_1_2 hK_0_1 kz_0_10 kz_0_11 kz_0_12 kz_0_13 kz_0_14 kz_0_15)⟩
  have nf4 : fc_1 PRD (20, [0], [50, 3, 0, 12, 11, 15, 2, 21, 4, 7, 1, 3, 2, 0, 12, 0, 1, 0, 3, 2, 0, 11, 4, 3, 2, 0, 15, 0, 8, 3, 7, 1, 3, 2, 0, 12, 0, 0, 0, 7, 4, 3, 2, 0, 15, 0, 1, 2, 0, 11]) ws (vs) := ⟨nf_in hl rfl, sgq_1438 (vc_Mo_next_78_4 (v_iv (n_v vs 6)) (v_iv (n_v vs 8)) (v_iv (n_v vs 18)) (v_iv (n_v vs 20)) (w_fi ws (n_v vs 0) 11) (w_fi ws (n_v vs 0) 12) (w_fi ws (n_v vs 0) 14) (w_fi ws (n_v vs 0) 15) (w_fi ws (n_v vs 0) 13) (w_fi w1 (n_v vs 0) 11) (w_fi w1 (n_v vs 0) 15) (w_ei w1 (w_ar ws (n_v vs 0) 1)) (w_fi w1 (n_v vs 0) 10) (w_fi w1 (n_v vs 0) 13) (w_fi w2 (n_v vs 0) 15) (w_fi w2 (n_v vs 0) 11) (w_ei w2 (w_ar ws (n_v vs 0) 1)) (w_fi w2 (n_v vs 0) 10) (w_fi w2 (n_v vs 0) 13) (w_fi ws (n_v vs 0) 10) (w_fi w1 (n_v vs 0) 12) (w_fi w1 (n_v vs 0) 14) (w_ei ws (w_ar ws (n_v vs 0) 1)) k6 k8 k18 k20 d0 d1 d6 g0 g1 g3 fe_0_10_1 fe_0_12_1 fe_0_13_1 fe_0_14_1 fe_0_15_1 fe_0_10_2 fe_0_11_2 fe_0_13_2 fe_0_15_2 hE_0_1_1 hE_0_1_2 hK_0_1 kz_0_10 kz_0_11 kz_0_12 kz_0_13 kz_0_14 kz_0_15)⟩
  have nf5 : fc_1 PRD (20, [1, 0], [30, 0, 1, 0, 0, -1, 1, 15]) ws (vs) := ⟨nf_in hl rfl, sgq_1436 (vc_Mo_next_78_5 (v_iv (n_v vs 1)) (w_fi ws (n_v vs 0) 12) (w_fi ws (n_v vs 0) 14) (w_fi ws (n_v vs 0) 15) (w_fi ws (n_v vs 0) 13) (w_fi w1 (n_v vs 0) 11) (w_fi w1 (n_v vs 0) 15) (w_ei w1 (w_ar ws (n_v vs 0) 1)) (w_fi w1 (n_v vs 0) 10) (w_fi w1 (n_v vs 0) 13) (w_fi w2 (n_v vs 0) 15) (w_fi w2 (n_v vs 0) 11) (w_ei w2 (w_ar ws (n_v vs 0) 1)) (w_fi w2 (n_v vs 0) 10) (w_fi w2 (n_v vs 0) 13) (w_fi ws (n_v vs 0) 10) (w_fi w1 (n_v vs 0) 12) (w_fi w1 (n_v vs 0) 14) (w_ei ws (w_ar ws (n_v vs 0) 1)) k1 f22 fe_0_10_1 fe_0_12_1 fe_0_13_1 fe_0_14_1 fe_0_15_1 fe_0_10_2 fe_0_11_2 fe_0_13_2 fe_0_15_2 hE_0_1_1 hE_0_1_2 hK_0_1 kz_0_10 kz_0_12 kz_0_13 kz_0_14 kz_0_15)⟩
  have nf6 : fc_1 PRD (20, [0, 1], [60, 6, 1, 948, 10, 11, 12, 13, 14, 15, 1]) ws (vs) := ⟨nf_in hl rfl, sgq_1439 (vc_Mo_next_78_6 (v_iv (n_v vs 1)) (v_iv (n_v vs 3)) (v_iv (n_v vs 4)) (v_iv (n_v vs 6)) (v_iv (n_v vs 7)) (v_iv (n_v vs 8)) (v_iv (n_v vs 9)) (v_iv (n_v vs 10)) (v_iv (n_v vs 11)) (v_iv (n_v vs 12)) (v_iv (n_v vs 13)) (v_iv (n_v vs 14)) (v_iv (n_v vs 15)) (v_iv (n_v vs 16)) (v_iv (n_v vs 18)) (v_iv (n_v vs 20)) (w_fi ws (n_v vs 0) 11) (w_fi ws (n_v vs 0) 12) (w_fi ws (n_v vs 0) 14) (w_fi ws (n_v vs 0) 15) (w_fi ws (n_v vs 0) 13) (w_fi w1 (n_v vs 0) 11) (w_fi w1 (n_v vs 0) 15) (w_ei w1 (w_ar ws (n_v vs 0) 1)) (w_fi w1 (n_v vs 0) 10) (w_fi w1 (n_v vs 0) 13) (w_fi w2 (n_v vs 0) 15) (w_fi w2 (n_v vs 0) 11) (w_ei w2 (w_ar ws (n_v vs 0) 1)) (w_fi w2 (n_v vs 0) 10) (w_fi w2 (n_v vs 0) 13) (w_fi ws (n_v vs 0) 10) (w_fi w1 (n_v vs 0) 12) (w_fi w1 (n_v vs 0) 14) (w_ei ws (w_ar ws (n_v vs 0) 1)) k1 k3 k4 k6 k7 k8 k9 k10 k11 k12 k13 k14 k15 k16 k18 k20 d0 d3 d4 g0 g1 g2 g3 g4 g9 f14 f15 f16 f17 f18 f19 f20 f21 f24 fe_0_10_1 fe_0_12_1 fe_0_13_1 fe_0_14_1 fe_0_15_1 fe_0_10_2 fe_0_11_2 fe_0_13_2 fe_0_15_2 hE_0_1_1 hE_0_1_2 hK_0_1 kz_0_10 kz_0_11 kz_0_12 kz_0_13 kz_0_14 kz_0_15)⟩
  refine ⟨(fun _ h => (by cases h)), [], trivial, ?_, (fun _ h => (by cases h))⟩
  rw [List.append_nil]
  exact List.forall_mem_cons.mpr ⟨⟨show (20 : Nat) < 100 from by decide, nf0⟩, List.forall_mem_cons.mpr ⟨⟨show (20 : Nat) < 100 from by decide, nf1⟩, List.forall_mem_cons.mpr ⟨⟨show (20 : Nat) < 100 from by decide, nf2⟩, List.forall_mem_cons.mpr ⟨⟨show (20 : Nat) < 100 from by decide, nf3⟩, List.forall_mem_cons.mpr ⟨⟨show (20 : Nat) < 100 from by decide, nf4⟩, List.forall_mem_cons.mpr ⟨⟨show (20 : Nat) < 100 from by decide, nf5⟩, List.forall_mem_cons.mpr ⟨⟨show (20 : Nat) < 100 from by decide, nf6⟩, (fun _ h => (by cases h))⟩⟩⟩⟩⟩⟩⟩
set_option maxHeartbeats 4000000 in
theorem vc_Mo_next_79_0 (x1 : Int) (x3 : Int) (x6 : Int) (x7 : Int) (x8 : Int) (from_0 : Int) (place_0 : Int) (pos_0 : Int) (tape_0 : Int → Int) (limit_0 : Int) (k1 : 0 ≤ x1 ∧ x1 ≤ 2000) (k3 : 62 ≤ x3 ∧ x3 ≤ 62) (k6 : 0 ≤ x6 ∧ x6 ≤ 1999) (k7 : 0 ≤ x7 ∧ x7 ≤ 1999) (k8 : 0 ≤ x8 ∧ x8 ≤ 1999) (g0 : x6 = from_0) (g1 : x7 = place_0) (g2 : x8 = pos_0) (f13 : ZXS (limit_0) (pos_0) (place_0) (from_0) (tape_0) (x1) (x3)) (kz_0_10 : 0 ≤ limit_0 ∧ limit_0 ≤ 2000) (kz_0_11 : 0 ≤ pos_0 ∧ pos_0 ≤ 2000) (kz_0_13 : 0 ≤ place_0 ∧ place_0 ≤ 2000) (kz_0_15 : 0 ≤ from_0 ∧ from_0 ≤ 2000) : ZXS1 (limit_0) (pos_0) (place_0) (from_0) (tape_0) (x1) (x3) := by
  first | subst g0 | skip
  first | subst g1 | skip
  first | subst g2 | skip
  exact ⟨‹ZXS _ _ _ _ _ _ _›, by unfold ZSG; omega⟩
def o_Mo_next_79 : or_T := (325, 17, [(0, (2, 0, 0, [165])), (1, (0, 0, 2000, [])), (3, (0, 62, 62, [])), (6, (0, 0, 1999, [])), (7, (0, 0, 1999, [])), (8, (0, 0, 1999, []))], [(9, [6, 2], [15]), (9, [7, 2], [13]), (9, [8, 2], [11]), (20, [2, 1, 3], [60, 4, 1, 956, 10, 11, 13, 15, 1]), (24, [0, 2], [])], [], [], [(20, [2, 1, 3], [60, 4, 1, 957, 10, 11, 13, 15, 1])], [], [])
theorem oo_Mo_next_79 {kA : Nat → ClassId} : or_ok PRD kA GG o_Mo_next_79 := by
  refine or_mk fun A ta ws vs hD hth hl => ?_
  intro t0 r0 t1 k1 t3 k3 t6 k6 t7 k7 t8 k8 f0 f1 f2 f13 f14
  replace f0 := shm_177 f0
  replace f1 := shm_361 f1
  replace f2 := shm_116 f2
  replace f13 := shm_1441 f13
  replace f14 := shm_5 f14
  have q2 : n_v vs 2 = n_v vs 0 := f14.symm
  simp only [q2] at f0 f1 f2 f13
  have g0 : v_iv (n_v vs 6) = w_fi ws (n_v vs 0) 15 := congrArg v_iv f0
  have g1 : v_iv (n_v vs 7) = w_fi ws (n_v vs 0) 13 := congrArg v_iv f1
  have g2 : v_iv (n_v vs 8) = w_fi ws (n_v vs 0) 11 := congrArg v_iv f2
  have kz_0_10 := fdq_43 hD hth r0
  have kz_0_11 := fdq_237 hD hth r0
  have kz_0_13 := fdq_238 hD hth r0
  have kz_0_15 := fdq_239 hD hth r0
  have nf0 : fc_1 PRD (20, [2, 1, 3], [60, 4, 1, 957, 10, 11, 13, 15, 1]) ws (vs) := by
    refine ⟨nf_in hl rfl, sgq_1451 ?_⟩
    · show ZXS1 (w_fi ws (n_v vs 2) 10) (w_fi ws (n_v vs 2) 11) (w_fi ws (n_v vs 2) 13) (w_fi ws (n_v vs 2) 15) (w_ei ws (w_ar ws (n_v vs 2) 1)) (v_iv (n_v vs 1)) (v_iv (n_v vs 3))
      rw [q2]
      exact vc_Mo_next_79_0 (v_iv (n_v vs 1)) (v_iv (n_v vs 3)) (v_iv (n_v vs 6)) (v_iv (n_v vs 7)) (v_iv (n_v vs 8)) (w_fi ws (n_v vs 0) 15) (w_fi ws (n_v vs 0) 13) (w_fi ws (n_v vs 0) 11) (w_ei ws (w_ar ws (n_v vs 0) 1)) (w_fi ws (n_v vs 0) 10) k1 k3 k6 k7 k8 g0 g1 g2 f13 kz_0_10 kz_0_11 kz_0_13 kz_0_15
  refine ⟨(fun _ h => (by cases h)), [], trivial, ?_, (fun _ h => (by cases h))⟩
  rw [List.append_nil]
  exact List.forall_mem_cons.mpr ⟨⟨show (20 : Nat) < 100 from by decide, nf0⟩, (fun _ h => (by cases h))⟩
set_option maxHeartbeats 4000000 in
theorem vc_Mo_next_80_0 (x6 : Int) (x8 : Int) (x12 : Int) (pos_0 : Int) (kind_0 : Int) (value_0 : Int) (from_0 : Int) (place_0 : Int) (pos_1 : Int) (from_1 : Int) (tape_1 : Int → Int) (limit_1 : Int) (place_1 : Int) (from_2 : Int) (pos_2 : Int) (tape_2 : Int → Int) (limit_2 : Int) (place_2 : Int) (limit_0 : Int) (kind_1 : Int) (value_1 : Int) (tape_0 : Int → Int) (k6 : 0 ≤ x6 ∧ x6 ≤ 1999) (k8 : 0 ≤ x8 ∧ x8 ≤ 1999) (k12 : 1 ≤ x12 ∧ x12 ≤ 2000) (d0 : x8 + 1 ≤ x12 ∧ x12 ≤ x8 + 1) (d1 : x6 + (-4294967296) ≤ x12 ∧ x12 ≤ x6 + 1) (d6 : x8 + (-4294967296) ≤ x6 ∧ x6 ≤ x8 + 0) (g0 : x12 = pos_0) (g3 : x6 = from_0) (fe_0_10_1 : limit_0 = limit_1) (fe_0_12_1 : kind_0 = kind_1) (fe_0_13_1 : place_0 = place_1) (fe_0_14_1 : value_0 = value_1) (fe_0_15_1 : from_0 = from_1) (fe_0_10_2 : limit_1 = limit_2) (fe_0_11_2 : pos_1 = pos_2) (fe_0_13_2 : place_1 = place_2) (fe_0_15_2 : from_1 = from_2) (hE_0_1_1 : ∀ j : Int, tape_0 j = tape_1 j) (hE_0_1_2 : ∀ j : Int, tape_1 j = tape_2 j) (hK_0_1 : ∀ j : Int, 0 ≤ j → j < 2000 → (-128) ≤ tape_0 j ∧ tape_0 j ≤ 127) (kz_0_10 : 0 ≤ limit_0 ∧ limit_0 ≤ 2000) (kz_0_11 : 0 ≤ pos_0 ∧ pos_0 ≤ 2000) (kz_0_12 : 0 ≤ kind_0 ∧ kind_0 ≤ 4) (kz_0_13 : 0 ≤ place_0 ∧ place_0 ≤ 2000) (kz_0_14 : (-49) ≤ value_0 ∧ value_0 ≤ 1048575) (kz_0_15 : 0 ≤ from_0 ∧ from_0 ≤ 2000) : 1 * from_0 + ((-1) * pos_0 + 0) ≤ 0 := by
  subst fe_0_10_1
  subst fe_0_12_1
  subst fe_0_13_1
  subst fe_0_14_1
  subst fe_0_15_1
  subst fe_0_10_2
  subst fe_0_11_2
  subst fe_0_13_2
  subst fe_0_15_2
  have e_hE_0_1_1 := funext hE_0_1_1; subst e_hE_0_1_1
  have e_hE_0_1_2 := funext hE_0_1_2; subst e_hE_0_1_2
  first | with_reducible assumption | ((try and_intros) <;> first | with_reducible assumption | (clear hE_0_1_1 hE_0_1_2 hK_0_1; omega)) | omega
set_option maxHeartbeats 4000000 in
theorem vc_Mo_next_80_1 (x6 : Int) (x8 : Int) (x10 : Int) (x12 : Int) (pos_0 : Int) (kind_0 : Int) (value_0 : Int) (from_0 : Int) (place_0 : Int) (pos_1 : Int) (from_1 : Int) (tape_1 : Int → Int) (limit_1 : Int) (place_1 : Int) (from_2 : Int) (pos_2 : Int) (tape_2 : Int → Int) (limit_2 : Int) (place_2 : Int) (limit_0 : Int) (kind_1 : Int) (value_1 : Int) (tape_0 : Int → Int) (k6 : 0 ≤ x6 ∧ x6 ≤ 1999) (k8 : 0 ≤ x8 ∧ x8 ≤ 1999) (k10 : 3 ≤ x10 ∧ x10 ≤ 3) (k12 : 1 ≤ x12 ∧ x12 ≤ 2000) (d0 : x8 + 1 ≤ x12 ∧ x12 ≤ x8 + 1) (d1 : x6 + (-4294967296) ≤ x12 ∧ x12 ≤ x6 + 1) (d6 : x8 + (-4294967296) ≤ x6 ∧ x6 ≤ x8 + 0) (g0 : x12 = pos_0) (g1 : x10 = kind_0) (g3 : x6 = from_0) (fe_0_10_1 : limit_0 = limit_1) (fe_0_12_1 : kind_0 = kind_1) (fe_0_13_1 : place_0 = place_1) (fe_0_14_1 : value_0 = value_1) (fe_0_15_1 : from_0 = from_1) (fe_0_10_2 : limit_1 = limit_2) (fe_0_11_2 : pos_1 = pos_2) (fe_0_13_2 : place_1 = place_2) (fe_0_15_2 : from_1 = from_2) (hE_0_1_1 : ∀ j : Int, tape_0 j = tape_1 j) (hE_0_1_2 : ∀ j : Int, tape_1 j = tape_2 j) (hK_0_1 : ∀ j : Int, 0 ≤ j → j < 2000 → (-128) ≤ tape_0 j ∧ tape_0 j ≤ 127) (kz_0_10 : 0 ≤ limit_0 ∧ limit_0 ≤ 2000) (kz_0_11 : 0 ≤ pos_0 ∧ pos_0 ≤ 2000) (kz_0_12 : 0 ≤ kind_0 ∧ kind_0 ≤ 4) (kz_0_13 : 0 ≤ place_0 ∧ place_0 ≤ 2000) (kz_0_14 : (-49) ≤ value_0 ∧ value_0 ≤ 1048575) (kz_0_15 : 0 ≤ from_0 ∧ from_0 ≤ 2000) : ((kind_0 = 1) → (pos_0 ≤ (from_0 + 8))) ∧ ((kind_0 = 0) ∨ ((from_0 + 1) ≤ pos_0)) := by
  subst fe_0_10_1
  subst fe_0_12_1
  subst fe_0_13_1
  subst fe_0_14_1
  subst fe_0_15_1
  subst fe_0_10_2
  subst fe_0_11_2
  subst fe_0_13_2
  subst fe_0_15_2
  have e_hE_0_1_1 := funext hE_0_1_1; subst e_hE_0_1_1
  have e_hE_0_1_2 := funext hE_0_1_2; subst e_hE_0_1_2
  first | with_reducible assumption | ((try and_intros) <;> first | with_reducible assumption | (clear hE_0_1_1 hE_0_1_2 hK_0_1; omega)) | omega
set_option maxHeartbeats 4000000 in
theorem vc_Mo_next_80_2 (x1 : Int) (x3 : Int) (x4 : Int) (x6 : Int) (x7 : Int) (x8 : Int) (x10 : Int) (x12 : Int) (pos_0 : Int) (kind_0 : Int) (value_0 : Int) (from_0 : Int) (place_0 : Int) (pos_1 : Int) (from_1 : Int) (tape_1 : Int → Int) (limit_1 : Int) (place_1 : Int) (from_2 : Int) (pos_2 : Int) (tape_2 : Int → Int) (limit_2 : Int) (place_2 : Int) (limit_0 : Int) (kind_1 : Int) (value_1 : Int) (tape_0 : Int → Int) (k1 : 0 ≤ x1 ∧ x1 ≤ 2000) (k3 : 45 ≤ x3 ∧ x3 ≤ 125) (k4 : 45 ≤ x4 ∧ x4 ≤ 125) (k6 : 0 ≤ x6 ∧ x6 ≤ 1999) (k7 : 0 ≤ x7 ∧ x7 ≤ 1999) (k8 : 0 ≤ x8 ∧ x8 ≤ 1999) (k10 : 3 ≤ x10 ∧ x10 ≤ 3) (k12 : 1 ≤ x12 ∧ x12 ≤ 2000) (d0 : x8 + 1 ≤ x12 ∧ x12 ≤ x8 + 1) (d3 : x4 + (-4294967296) ≤ x3 ∧ x3 ≤ x4 + 0) (d4 : x3 + (-4294967296) ≤ x4 ∧ x4 ≤ x3 + 0) (g0 : x12 = pos_0) (g1 : x10 = kind_0) (g2 : x4 = value_0) (g3 : x6 = from_0) (g4 : x7 = place_0) (g9 : x8 = pos_1) (f16 : ZXS1 (limit_2) (pos_2) (place_2) (from_2) (tape_2) (x1) (x3)) (fe_0_10_1 : limit_0 = limit_1) (fe_0_12_1 : kind_0 = kind_1) (fe_0_13_1 : place_0 = place_1) (fe_0_14_1 : value_0 = value_1) (fe_0_15_1 : from_0 = from_1) (fe_0_10_2 : limit_1 = limit_2) (fe_0_11_2 : pos_1 = pos_2) (fe_0_13_2 : place_1 = place_2) (fe_0_15_2 : from_1 = from_2) (hE_0_1_1 : ∀ j : Int, tape_0 j = tape_1 j) (hE_0_1_2 : ∀ j : Int, tape_1 j = tape_2 j) (hK_0_1 : ∀ j : Int, 0 ≤ j → j < 2000 → (-128) ≤ tape_0 j ∧ tape_0 j ≤ 127) (kz_0_10 : 0 ≤ limit_0 ∧ limit_0 ≤ 2000) (kz_0_11 : 0 ≤ pos_0 ∧ pos_0 ≤ 2000) (kz_0_12 : 0 ≤ kind_0 ∧ kind_0 ≤ 4) (kz_0_13 : 0 ≤ place_0 ∧ place_0 ≤ 2000) (kz_0_14 : (-49) ≤ value_0 ∧ value_0 ≤ 1048575) (kz_0_15 : 0 ≤ from_0 ∧ from_0 ≤ 2000) : TKR (limit_0) (pos_0) (kind_0) (place_0) (value_0) (from_0) (tape_0) (x1) := by
  subst fe_0_10_1
  subst fe_0_12_1
  subst fe_0_13_1
  subst fe_0_14_1
  subst fe_0_15_1
  subst fe_0_10_2
  subst fe_0_11_2
  subst fe_0_13_2
  subst fe_0_15_2
  have e_hE_0_1_1 := funext hE_0_1_1; subst e_hE_0_1_1
  have e_hE_0_1_2 := funext hE_0_1_2; subst e_hE_0_1_2
  first | subst g0 | skip
  first | subst g1 | skip
  first | subst g2 | skip
  first | subst g3 | skip
  first | subst g4 | skip
  first | subst g9 | skip
  first
    | assumption
    | exact tkr_end ‹ZX1 _ _ _ _› (by omega) (by omega) (by omega) (by omega)
    | (have e := (‹ZXM _ _ _ _ _ _›).1.1.1; exact tkr_name ‹ZXM _ _ _ _ _ _› (by omega))
    | (have e := (‹ZXE _ _ _ _ _ _ _›).1.1.1; exact tkr_num ‹ZXE _ _ _ _ _ _ _› (by omega))
    | exact tkr_sign (by assumption) ‹ZXS1 _ _ _ _ _ _ _›.1 (by omega) (by omega) (Or.inl ⟨by omega, ‹ZXS1 _ _ _ _ _ _ _›.2⟩)
    | exact tkr_sign (by assumption) ‹ZXS _ _ _ _ _ _ _› (by omega) (by omega) (Or.inr ⟨by omega, by unfold ZSG; omega⟩)
set_option maxHeartbeats 4000000 in
theorem vc_Mo_next_80_3 (x6 : Int) (x8 : Int) (x12 : Int) (pos_0 : Int) (kind_0 : Int) (value_0 : Int) (from_0 : Int) (place_0 : Int) (pos_1 : Int) (from_1 : Int) (tape_1 : Int → Int) (limit_1 : Int) (place_1 : Int) (from_2 : Int) (pos_2 : Int) (tape_2 : Int → Int) (limit_2 : Int) (place_2 : Int) (limit_0 : Int) (kind_1 : Int) (value_1 : Int) (tape_0 : Int → Int) (k6 : 0 ≤ x6 ∧ x6 ≤ 1999) (k8 : 0 ≤ x8 ∧ x8 ≤ 1999) (k12 : 1 ≤ x12 ∧ x12 ≤ 2000) (d0 : x8 + 1 ≤ x12 ∧ x12 ≤ x8 + 1) (d1 : x6 + (-4294967296) ≤ x12 ∧ x12 ≤ x6 + 1) (d6 : x8 + (-4294967296) ≤ x6 ∧ x6 ≤ x8 + 0) (g0 : x12 = pos_0) (g3 : x6 = from_0) (fe_0_10_1 : limit_0 = limit_1) (fe_0_12_1 : kind_0 = kind_1) (fe_0_13_1 : place_0 = place_1) (fe_0_14_1 : value_0 = value_1) (fe_0_15_1 : from_0 = from_1) (fe_0_10_2 : limit_1 = limit_2) (fe_0_11_2 : pos_1 = pos_2) (fe_0_13_2 : place_1 = place_2) (fe_0_15_2 : from_1 = from_2) (hE_0_1_1 : ∀ j : Int, tape_0 j = tape_1 j) (hE_0_1_2 : ∀ j : Int, tape_1 j = tape_2 j) (hK_0_1 : ∀ j : Int, 0 ≤ j → j < 2000 → (-128) ≤ tape_0 j ∧ tape_0 j ≤ 127) (kz_0_10 : 0 ≤ limit_0 ∧ limit_0 ≤ 2000) (kz_0_11 : 0 ≤ pos_0 ∧ pos_0 ≤ 2000) (kz_0_12 : 0 ≤ kind_0 ∧ kind_0 ≤ 4) (kz_0_13 : 0 ≤ place_0 ∧ place_0 ≤ 2000) (kz_0_14 : (-49) ≤ value_0 ∧ value_0 ≤ 1048575) (kz_0_15 : 0 ≤ from_0 ∧ from_0 ≤ 2000) : 1 * from_0 + ((-1) * pos_0 + 0) ≤ 0 := by
  subst fe_0_10_1
  subst fe_0_12_1
  subst fe_0_13_1
  subst fe_0_14_1
  subst fe_0_15_1
  subst fe_0_10_2
  subst fe_0_11_2
  subst fe_0_13_2
  subst fe_0_15_2
  have e_hE_0_1_1 := funext hE_0_1_1; subst e_hE_0_1_1
  have e_hE_0_1_2 := funext hE_0_1_2; subst e_hE_0_1_2
  first | with_reducible assumption | ((try and_intros) <;> first | with_reducible assumption | (clear hE_0_1_1 hE_0_1_2 hK_0_1; omega)) | omega
set_option maxHeartbeats 4000000 in
theorem vc_Mo_next_80_4 (x6 : Int) (x8 : Int) (x10 : Int) (x12 : Int) (pos_0 : Int) (kind_0 : Int) (value_0 : Int) (from_0 : Int) (place_0 : Int) (pos_1 : Int) (from_1 : Int) (tape_1 : Int → Int) (limit_1 : Int) (place_1 : Int) (from_2 : Int) (pos_2 : Int) (tape_2 : Int → Int) (limit_2 : Int) (place_2 : Int) (limit_0 : Int) (kind_1 : Int) (value_1 : Int) (tape_0 : Int → Int) (k6 : 0 ≤ x6 ∧ x6 ≤ 1999) (k8 : 0 ≤ x8 ∧ x8 ≤ 1999) (k10 : 3 ≤ x10 ∧ x10 ≤ 3) (k12 : 1 ≤ x12 ∧ x12 ≤ 2000) (d0 : x8 + 1 ≤ x12 ∧ x12 ≤ x8 + 1) (d1 : x6 + (-4294967296) ≤ x12 ∧ x12 ≤ x6 + 1) (d6 : x8 + (-4294967296) ≤ x6 ∧ x6 ≤ x8 + 0) (g0 : x12 = pos_0) (g1 : x10 = kind_0) (g3 : x6 = from_0) (fe_0_10_1 : limit_0 = limit_1) (fe_0_12_1 : kind_0 = kind_1) (fe_0_13_1 : place_0 = place_1) (fe_0_14_1 : value_0 = value_1) (fe_0_15_1 : from_0 = from_1) (fe_0_10_2 : limit_1 = limit_2) (fe_0_11_2 : pos_1 = pos_2) (fe_0_13_2 : place_1 = place_2) (fe_0_15_2 : from_1 = from_2) (hE_0_1_1 : ∀ j : Int, tape_0 j = tape_1 j) (hE_0_1_2 : ∀ j : Int, tape_1 j = tape_2 j) (hK_0_1 : ∀ j : Int, 0 ≤ j → j < 2000 → (-128) ≤ tape_0 j ∧ tape_0 j ≤ 127) (kz_0_10 : 0 ≤ limit_0 ∧ limit_0 ≤ 2000) (kz_0_11 : 0 ≤ pos_0 ∧ pos_0 ≤ 2000) (kz_0_12 : 0 ≤ kind_0 ∧ kind_0 ≤ 4) (kz_0_13 : 0 ≤ place_0 ∧ place_0 ≤ 2000) (kz_0_14 : (-49) ≤ value_0 ∧ value_0 ≤ 1048575) (kz_0_15 : 0 ≤ from_0 ∧ from_0 ≤ 2000) : ((kind_0 = 1) → (pos_0 ≤ (from_0 + 8))) ∧ ((kind_0 = 0) ∨ ((from_0 + 1) ≤ pos_0)) := by
  subst fe_0_10_1
  subst fe_0_12_1
  subst fe_0_13_1
  subst fe_0_14_1
  subst fe_0_15_1
  subst fe_0_10_2
  subst fe_0_11_2
  subst fe_0_13_2
  subst fe_0_15_2
  have e_hE_0_1_1 := funext hE_0_1_1; subst e_hE_0_1_1
  have e_hE_0_1_2 := funext hE_0_1_2; subst e_hE_0_1_2
  first | with_reducible assumption | ((try and_intros) <;> first | with_reducible assumption | (clear hE_0_1_1 hE_0_1_2 hK_0_1; omega)) | omega
set_option maxHeartbeats 4000000 in
theorem vc_Mo_next_80_5 (x1 : Int) (kind_0 : Int) (value_0 : Int) (from_0 : Int) (place_0 : Int) (pos_1 : Int) (from_1 : Int) (tape_1 : Int → Int) (limit_1 : Int) (place_1 : Int) (from_2 : Int) (pos_2 : Int) (tape_2 : Int → Int) (limit_2 : Int) (place_2 : Int) (limit_0 : Int) (kind_1 : Int) (value_1 : Int) (tape_0 : Int → Int) (k1 : 0 ≤ x1 ∧ x1 ≤ 2000) (f14 : 1 * x1 + ((-1) * from_2 + 0) ≤ 0) (fe_0_10_1 : limit_0 = limit_1) (fe_0_12_1 : kind_0 = kind_1) (fe_0_13_1 : place_0 = place_1) (fe_0_14_1 : value_0 = value_1) (fe_0_15_1 : from_0 = from_1) (fe_0_10_2 : limit_1 = limit_2) (fe_0_11_2 : pos_1 = pos_2) (fe_0_13_2 : place_1 = place_2) (fe_0_15_2 : from_1 = from_2) (hE_0_1_1 : ∀ j : Int, tape_0 j = tape_1 j) (hE_0_1_2 : ∀ j : Int, tape_1 j = tape_2 j) (hK_0_1 : ∀ j : Int, 0 ≤ j → j < 2000 → (-128) ≤ tape_0 j ∧ tape_0 j ≤ 127) (kz_0_10 : 0 ≤ limit_0 ∧ limit_0 ≤ 2000) (kz_0_12 : 0 ≤ kind_0 ∧ kind_0 ≤ 4) (kz_0_13 : 0 ≤ place_0 ∧ place_0 ≤ 2000) (kz_0_14 : (-49) ≤ value_0 ∧ value_0 ≤ 1048575) (kz_0_15 : 0 ≤ from_0 ∧ from_0 ≤ 2000) : 1 * x1 + ((-1) * from_0 + 0) ≤ 0 := by
  subst fe_0_10_1
  subst fe_0_12_1
  subst fe_0_13_1
  subst fe_0_14_1
  subst fe_0_15_1
  subst fe_0_10_2
  subst fe_0_11_2
  subst fe_0_13_2
  subst fe_0_15_2
  have e_hE_0_1_1 := funext hE_0_1_1; subst e_hE_0_1_1
  have e_hE_0_1_2 := funext hE_0_1_2; subst e_hE_0_1_2
  first | with_reducible assumption | ((try and_intros) <;> first | with_reducible assumption | (clear hE_0_1_1 hE_0_1_2 hK_0_1; omega)) | omega
set_option maxHeartbeats 4000000 in
theorem vc_Mo_next_80_6 (x1 : Int) (x3 : Int) (x4 : Int) (x6 : Int) (x7 : Int) (x8 : Int) (x10 : Int) (x12 : Int) (pos_0 : Int) (kind_0 : Int) (value_0 : Int) (from_0 : Int) (place_0 : Int) (pos_1 : Int) (from_1 : Int) (tape_1 : Int → Int) (limit_1 : Int) (place_1 : Int) (from_2 : Int) (pos_2 : Int) (tape_2 : Int → Int) (limit_2 : Int) (place_2 : Int) (limit_0 : Int) (kind_1 : Int) (value_1 : Int) (tape_0 : Int → Int) (k1 : 0 ≤ x1 ∧ x1 ≤ 2000) (k3 : 45 ≤ x3 ∧ x3 ≤ 125) (k4 : 45 ≤ x4 ∧ x4 ≤ 125) (k6 : 0 ≤ x6 ∧ x6 ≤ 1999) (k7 : 0 ≤ x7 ∧ x7 ≤ 1999) (k8 : 0 ≤ x8 ∧ x8 ≤ 1999) (k10 : 3 ≤ x10 ∧ x10 ≤ 3) (k12 : 1 ≤ x12 ∧ x12 ≤ 2000) (d0 : x8 + 1 ≤ x12 ∧ x12 ≤ x8 + 1) (d3 : x4 + (-4294967296) ≤ x3 ∧ x3 ≤ x4 + 0) (d4 : x3 + (-4294967296) ≤ x4 ∧ x4 ≤ x3 + 0) (g0 : x12 = pos_0) (g1 : x10 = kind_0) (g2 : x4 = value_0) (g3 : x6 = from_0) (g4 : x7 = place_0) (g9 : x8 = pos_1) (f16 : ZXS1 (limit_2) (pos_2) (place_2) (from_2) (tape_2) (x1) (x3)) (fe_0_10_1 : limit_0 = limit_1) (fe_0_12_1 : kind_0 = kind_1) (fe_0_13_1 : place_0 = place_1) (fe_0_14_1 : value_0 = value_1) (fe_0_15_1 : from_0 = from_1) (fe_0_10_2 : limit_1 = limit_2) (fe_0_11_2 : pos_1 = pos_2) (fe_0_13_2 : place_1 = place_2) (fe_0_15_2 : from_1 = from_2) (hE_0_1_1 : ∀ j : Int, tape_0 j = tape_1 j) (hE_0_1_2 : ∀ j : Int, tape_1 j = tape_2 j) (hK_0_1 : ∀ j : Int, 0 ≤ j → j < 2000 → (-128) ≤ tape_0 j ∧ tape_0 j ≤ 127) (kz_0_10 : 0 ≤ limit_0 ∧ limit_0 ≤ 2000) (kz_0_11 : 0 ≤ pos_0 ∧ pos_0 ≤ 2000) (kz_0_12 : 0 ≤ kind_0 ∧ kind_0 ≤ 4) (kz_0_13 : 0 ≤ place_0 ∧ place_0 ≤ 2000) (kz_0_14 : (-49) ≤ value_0 ∧ value_0 ≤ 1048575) (kz_0_15 : 0 ≤ from_0 ∧ from_0 ≤ 2000) : TKR (limit_0) (pos_0) (kind_0) (place_0) (value_0) (from_0) (tape_0) (x1) := by
  subst fe_0_10_1
  subst fe_0_12_1
  subst fe_0_13_1
  subst fe_0_14_1
  subst fe_0_15_1
  subst fe_0_10_2
  subst fe_0_11_2
  subst fe_0_13_2
  subst fe_0_15_2
  have e_hE_0_1_1 := funext hE_0_1_1; subst e_hE_0_1_1
  have e_hE_0_1_2 := funext hE_0_1_2; subst e_hE_0_1_2
  first | subst g0 | skip
  first | subst g1 | skip
  first | subst g2 | skip
  first | subst g3 | skip
  first | subst g4 | skip
  first | subst g9 | skip
  first
    | assumption
    | exact tkr_end ‹ZX1 _ _ _ _› (by omega) (by omega) (by omega) (by omega)
    | (have e := (‹ZXM _ _ _ _ _ _›).1.1.1; exact tkr_name ‹ZXM _ _ _ _ _ _› (by omega))
    | (have e := (‹ZXE _ _ _ _ _ _ _›).1.1.1; exact tkr_num ‹ZXE _ _ _ _ _ _ _› (by omega))
    | exact tkr_sign (by assumption) ‹ZXS1 _ _ _ _ _ _ _›.1 (by omega) (by omega) (Or.inl ⟨by omega, ‹ZXS1 _ _ _ _ _ _ _›.2⟩)
    | exact tkr_sign (by assumption) ‹ZXS _ _ _ _ _ _ _› (by omega) (by omega) (Or.inr ⟨by omega, by unfold ZSG; omega⟩)
def o_Mo_next_80 : or_T := (354, 13, [(0, (2, 0, 0, [165])), (1, (0, 0, 2000, [])), (3, (0, 45, 125, [])), (4, (0, 45, 125, [])), (6, (0, 0, 1999, [])), (7, (0, 0, 1999, [])), (8, (0, 0, 1999, [])), (10, (0, 3, 3, [])), (12, (0, 1, 2000, []))], [(9, [12, 2], [11]), (9, [10, 2], [12]), (9, [4, 2], [14]), (9, [6, 2], [15]), (9, [7, 2], [13]), (24, [0, 2], []), (101, [2, 12], [11]), (9, [8, 2], [11]), (101, [2, 10], [12]), (20, [1, 2], [30, 0, 1, 0, 0, -1, 1, 15]), (20, [2, 1, 3], [60, 4, 1, 957, 10, 11, 13, 15, 1])], [], [], [(20, [2, 2], [30, 0, 1, 1, 15, -1, 1, 11]), (20, [2], [50, 3, 0, 12, 11, 15, 2, 21, 4, 7, 1, 3, 2, 0, 12, 0, 1, 0, 3, 2, 0, 11, 4, 3, 2, 0, 15, 0, 8, 3, 7, 1, 3, 2, 0, 12, 0, 0, 0, 7, 4, 3, 2, 0, 15, 0, 1, 2, 0, 11]), (20, [2, 1], [60, 6, 1, 948, 10, 11, 12, 13, 14, 15, 1]), (20, [0, 0], [30, 0, 1, 1, 15, -1, 1, 11]), (20, [0], [50, 3, 0, 12, 11, 15, 2, 21, 4, 7, 1, 3, 2, 0, 12, 0, 1, 0, 3, 2, 0, 11, 4, 3, 2, 0, 15, 0, 8, 3, 7, 1, 3, 2, 0, 12, 0, 0, 0, 7, 4, 3, 2, 0, 15, 0, 1, 2, 0, 11]), (20, [1, 0], [30, 0, 1, 0, 0, -1, 1, 15]), (20, [0, 1], [60, 6, 1, 948, 10, 11, 12, 13, 14, 15, 1])], [], [(12, 8, 1, 1), (12, 6, -4294967296, 1), (3, 4, -4294967296, 0), (4, 3, -4294967296, 0), (6, 8, -4294967296, 0)])
theorem oo_Mo_next_80 {kA : Nat → ClassId} : or_ok PRD kA GG o_Mo_next_80 := by
  refine or_mk fun A ta ws vs hD hth hl => ?_
  intro t0 r0 t1 k1 t3 k3 t4 k4 t6 k6 t7 k7 t8 k8 t10 k10 t12 k12 d0 d1 d3 d4 d6 f0 f1 f2 f3 f4 f6 ta1 w1 le1 s1 f9 ta2 w2 le2 s2 f14 f16
  replace f0 := shm_116 f0
  replace f1 := shm_103 f1
  replace f2 := shm_115 f2
  replace f3 := shm_177 f3
  replace f4 := shm_361 f4
  replace f6 := shm_5 f6
  have s1 : (∀ b j, w_el ws b j = w_el w1 b j) ∧ ∀ b j, w_fd ws b j = if b = v_ad (n_v vs 2) ∧ j = 11 then n_v vs 12 else w_fd w1 b j := s1.2
  replace f9 := shm_116 f9
  have s2 : (∀ b j, w_el w1 b j = w_el w2 b j) ∧ ∀ b j, w_fd w1 b j = if b = v_ad (n_v vs 2) ∧ j = 12 then n_v vs 10 else w_fd w2 b j := s2.2
  replace f14 := shm_1436 f14
  replace f16 := shm_1451 f16
  have q2 : n_v vs 2 = n_v vs 0 := f6.symm
  simp only [q2] at f0 f1 f2 f3 f4
  rw [q2] at s1
  simp only [q2] at f9
  rw [q2] at s2
  simp only [q2] at f14 f16
  have ar_0_1_1 : w_ar w1 (n_v vs 0) 1 = w_ar ws (n_v vs 0) 1 := by show v_ad (w_fd w1 _ _) = v_ad (w_fd ws _ _); rw [s1.2, if_neg (fun e => absurd e.2 (by decide))]
  have ar_0_1_2 : w_ar w2 (n_v vs 0) 1 = w_ar ws (n_v vs 0) 1 := by rw [← ar_0_1_1]; show v_ad (w_fd w2 _ _) = v_ad (w_fd w1 _ _); rw [s2.2, if_neg (fun e => absurd e.2 (by decide))]
  have cr_0_1 := fdq_39 hD hth r0
  have g0 : v_iv (n_v vs 12) = w_fi ws (n_v vs 0) 11 := congrArg v_iv f0
  have g1 : v_iv (n_v vs 10) = w_fi ws (n_v vs 0) 12 := congrArg v_iv f1
  have g2 : v_iv (n_v vs 4) = w_fi ws (n_v vs 0) 14 := congrArg v_iv f2
  have g3 : v_iv (n_v vs 6) = w_fi ws (n_v vs 0) 15 := congrArg v_iv f3
  have g4 : v_iv (n_v vs 7) = w_fi ws (n_v vs 0) 13 := congrArg v_iv f4
  have g9 : v_iv (n_v vs 8) = w_fi w1 (n_v vs 0) 11 := congrArg v_iv f9
  simp only [ar_0_1_1, ar_0_1_2] at f16
  have fe_0_10_1 : w_fi ws (n_v vs 0) 10 = w_fi w1 (n_v vs 0) 10 := by show v_iv (w_fd _ _ _) = v_iv (w_fd _ _ _); rw [s1.2, if_neg (fun e => absurd e.2 (by decide))]
  have fe_0_12_1 : w_fi ws (n_v vs 0) 12 = w_fi w1 (n_v vs 0) 12 := by show v_iv (w_fd _ _ _) = v_iv (w_fd _ _ _); rw [s1.2, if_neg (fun e => absurd e.2 (by decide))]
  have fe_0_13_1 : w_fi ws (n_v vs 0) 13 = w_fi w1 (n_v vs 0) 13 := by show v_iv (w_fd _ _ _) = v_iv (w_fd _ _ _); rw [s1.2, if_neg (fun e => absurd e.2 (by decide))]
  have fe_0_14_1 : w_fi ws (n_v vs 0) 14 = w_fi w1 (n_v vs 0) 14 := by show v_iv (w_fd _ _ _) = v_iv (w_fd _ _ _); rw [s1.2, if_neg (fun e => absurd e.2 (by decide))]
  have fe_0_15_1 : w_fi ws (n_v vs 0) 15 = w_fi w1 (n_v vs 0) 15 := by show v_iv (w_fd _ _ _) = v_iv (w_fd _ _ _); rw [s1.2, if_neg (fun e => absurd e.2 (by decide))]
  have fe_0_10_2 : w_fi w1 (n_v vs 0) 10 = w_fi w2 (n_v vs 0) 10 := by show v_iv (w_fd _ _ _) = v_iv (w_fd _ _ _); rw [s2.2, if_neg (fun e => absurd e.2 (by decide))]
  have fe_0_11_2 : w_fi w1 (n_v vs 0) 11 = w_fi w2 (n_v vs 0) 11 := by show v_iv (w_fd _ _ _) = v_iv (w_fd _ _ _); rw [s2.2, if_neg (fun e => absurd e.2 (by decide))]
  have fe_0_13_2 : w_fi w1 (n_v vs 0) 13 = w_fi w2 (n_v vs 0) 13 := by show v_iv (w_fd _ _ _) = v_iv (w_fd _ _ _); rw [s2.2, if_neg (fun e => absurd e.2 (by decide))]
  have fe_0_15_2 : w_fi w1 (n_v vs 0) 15 = w_fi w2 (n_v vs 0) 15 := by show v_iv (w_fd _ _ _) = v_iv (w_fd _ _ _); rw [s2.2, if_neg (fun e => absurd e.2 (by decide))]
  have hE_0_1_1 : ∀ j : Int, w_ei ws (w_ar ws (n_v vs 0) 1) j = w_ei w1 (w_ar ws (n_v vs 0) 1) j := fun j => s1.1 _ _
  have hE_0_1_2 : ∀ j : Int, w_ei w1 (w_ar ws (n_v vs 0) 1) j = w_ei w2 (w_ar ws (n_v vs 0) 1) j := fun j => s2.1 _ _
  have hK_0_1 := elq_7 hD hth cr_0_1
  have kz_0_10 := fdq_43 hD hth r0
  have kz_0_11 := fdq_237 hD hth r0
  have kz_0_12 := fdq_187 hD hth r0
  have kz_0_13 := fdq_238 hD hth r0
  have kz_0_14 := fdq_188 hD hth r0
  have kz_0_15 := fdq_239 hD hth r0
  have nf0 : fc_1 PRD (20, [2, 2], [30, 0, 1, 1, 15, -1, 1, 11]) ws (vs) := by
    refine ⟨nf_in hl rfl, sgq_1437 ?_⟩
    · show 1 * w_fi ws (n_v vs 2) 15 + ((-1) * w_fi ws (n_v vs 2) 11 + 0) ≤ 0
      rw [q2]
      exact vc_Mo_next_80_0 (v_iv (n_v vs 6)) (v_iv (n_v vs 8)) (v_iv (n_v vs 12)) (w_fi ws (n_v vs 0) 11) (w_fi ws (n_v vs 0) 12) (w_fi ws (n_v vs 0) 14) (w_fi ws (n_v vs 0) 15) (w_fi ws (n_v vs 0) 13) (w_fi w1 (n_v vs 0) 11) (w_fi w1 (n_v vs 0) 15) (w_ei w1 (w_ar ws (n_v vs 0) 1)) (w_fi w1 (n_v vs 0) 10) (w_fi w1 (n_v vs 0) 13) (w_fi w2 (n_v vs 0) 15) (w_fi w2 (n_v vs 0) 11) (w_ei w2 (w_ar ws (n_v vs 0) 1)) (w_fi w2 (n_v vs 0) 10) (w_fi w2 (n_v vs 0) 13) (w_fi ws (n_v vs 0) 10) (w_fi w1 (n_v vs 0) 12) (w_fi w1 (n_v vs 0) 14) (w_ei ws (w_ar ws (n_v vs 0) 1)) k6 k8 k12 d0 d1 d6 g0 g3 fe_0_10_1 fe_0_12_1 fe_0_13_1 fe_0_14_1 fe_0_15_1 fe_0_10_2 fe_0_11_2 fe_0_13_2 fe_0_15_2 hE_0_1_1 hE_0_1_2 hK_0_1 kz_0_10 kz_0_11 kz_0_12 kz_0_13 kz_0_14 kz_0_15
  have nf1 : fc_1 PRD (20, [2], [50, 3, 0, 12, 11, 15, 2, 21, 4, 7, 1, 3, 2, 0, 12, 0, 1, 0, 3, 2, 0, 11, 4, 3, 2, 0, 15, 0, 8, 3, 7, 1, 3, 2, 0, 12, 0, 0, 0, 7, 4, 3, 2, 0, 15, 0, 1, 2, 0, 11]) ws (vs) := by
    refine ⟨nf_in hl rfl, sgq_1438 ?_⟩
    · show ((w_fi ws (n_v vs 2) 12 = 1) → (w_fi ws (n_v vs 2) 11 ≤ (w_fi ws (n_v vs 2) 15 + 8))) ∧ ((w_fi ws (n_v vs 2) 12 = 0) ∨ ((w_fi ws (n_v vs 2) 15 + 1) ≤ w_fi ws (n_v vs 2) 11))
      rw [q2]
      exact vc_Mo_next_80_1 (v_iv (n_v vs 6)) (v_iv (n_v vs 8)) (v_iv (n_v vs 10)) (v_iv (n_v vs 12)) (w_fi ws (n_v vs 0) 11) (w_fi ws (n_v vs 0) 12) (w_fi ws (n_v vs 0) 14) (w_fi ws (n_v vs 0) 15) (w_fi ws (n_v vs 0) 13) (w_fi w1 (n_v vs 0) 11) (w_fi w1 (n_v vs 0) 15) (w_ei w1 (w_ar ws (n_v vs 0) 1)) (w_fi w1 (n_v vs 0) 10) (w_fi w1 (n_v vs 0) 13) (w_fi w2 (n_v vs 0) 15) (w_fi w2 (n_v vs 0) 11) (w_ei w2 (w_ar ws (n_v vs 0) 1)) (w_fi w2 (n_v vs 0) 10) (w_fi w2 (n_v vs 0) 13) (w_fi ws (n_v vs 0) 10) (w_fi w1 (n_v vs 0) 12) (w_fi w1 (n_v vs 0) 14) (w_ei ws (w_ar ws (n_v vs 0) 1)) k6 k8 k10 k12 d0 d1 d6 g0 g1 g3 fe_0_10_1 fe_0_12_1 fe_0_13_1 fe_0_14_1 fe_0_15_1 fe_0_10_2 fe_0_11_2 fe_0_13_2 fe_0_15_2 hE_0_1_1 hE_0_1_2 hK_0_1 kz_0_10 kz_0_11 kz_0_12 kz_0_13 kz_0_14 kz_0_15
  have nf2 : fc_1 PRD (20, [2, 1], [60, 6, 1, 948, 10, 11, 12, 13, 14, 15, 1]) ws (vs) := by
    refine ⟨nf_in hl rfl, sgq_1439 ?_⟩
    · show TKR (w_fi ws (n_v vs 2) 10) (w_fi ws (n_v vs 2) 11) (w_fi ws (n_v vs 2) 12) (w_fi ws (n_v vs 2) 13) (w_fi ws (n_v vs 2) 14) (w_fi ws (n_v vs 2) 15) (w_ei ws (w_ar ws (n_v vs 2) 1)) (v_iv (n_v vs 1))
      rw [q2]
      exact vc_Mo_next_80_2 (v_iv (n_v vs 1)) (v_iv (n_v vs 3)) (v_iv (n_v vs 4)) (v_iv (n_v vs 6)) (v_iv (n_v vs 7)) (v_iv (n_v vs 8)) (v_iv (n_v vs 10)) (v_iv (n_v vs 12)) (w_fi ws (n_v vs 0) 11) (w_fi ws (n_v vs 0) 12) (w_fi ws (n_v vs 0) 14) (w_fi ws (n_v vs 0) 15) (w_fi ws (n_v vs 0) 13) (w_fi w1 (n_v vs 0) 11) (w_fi w1 (n_v vs 0) 15) (w_ei w1 (w_ar ws (n_v vs 0) 1)) (w_fi w1 (n_v vs 0) 10) (w_fi w1 (n_v vs 0) 13) (w_fi w2 (n_v vs 0) 15) (w_fi w2 (n_v vs 0) 11) (w_ei w2 (w_ar ws (n_v vs 0) 1)) (w_fi w2 (n_v vs 0) 10) (w_fi w2 (n_v vs 0) 13) (w_fi ws (n_v vs 0) 10) (w_fi w1 (n_v vs 0) 12) (w_fi w1 (n_v vs 0) 14) (w_ei ws (w_ar ws (n_v vs 0) 1)) k1 k3 k4 k6 k7 k8 k10 k12 d0 d3 d4 g0 g1 g2 g3 g4 g9 f16 fe_0_10_1 fe_0_12_1 fe_0_13_1 fe_0_14_1 fe_0_15_1 fe_0_10_2 fe_0_11_2 fe_0_13_2 fe_0_15_2 hE_0_1_1 hE_0_1_2 hK_0_1 kz_0_10 kz_0_11 kz_0_12 kz_0_13 kz_0_14 kz_0_15
  have nf3 : fc_1 PRD (20, [0, 0], [30, 0, 1, 1, 15, -1, 1, 11]) ws (vs) := ⟨nf_in hl rfl, sgq_1437 (vc_Mo_next_80_3 (v_iv (n_v vs 6)) (v_iv (n_v vs 8)) (v_iv (n_v vs 12)) (w_fi ws (n_v vs 0) 11) (w_fi ws (n_v vs 0) 12) (w_fi ws (n_v vs 0) 14) (w_fi ws (n_v vs 0) 15) (w_fi ws (n_v vs 0) 13) (w_fi w1 (n_v vs 0) 11) (w_fi w1 (n_v vs 0) 15) (w_ei w1 (w_ar ws (n_v vs 0) 1)) (w_fi w1 (n_v vs 0) 10) (w_fi w1 (n_v vs 0) 13) (w_fi w2 (n_v vs 0) 15) (w_fi w2 (n_v vs 0) 11) (w_ei w2 (w_ar ws (n_v vs 0) 1)) (w_fi w2 (n_v vs 0) 10) (w_fi w2 (n_v vs 0) 13) (w_fi ws (n_v vs 0) 10) (w_fi w1 (n_v vs 0) 12) (w_fi w1 (n_v vs 0) 14) (w_ei ws (w_ar ws (n_v vs 0) 1)) k6 k8 k12 d0 d1 d6 g0 g3 fe_0_10_1 fe_0_12_1 fe_0_13_1 fe_0_14_1 fe_0_15_1 fe_0_10_2 fe_0_11_2 fe_0_13_2 fe_0_15_2 hE_0_1_1 hE_0_1_2 hK_0_1 kz_0_10 kz_0_11 kz_0_12 kz_0_13 kz_0_14 kz_0_15)⟩
  have nf4 : fc_1 PRD (20, [0], [50, 3, 0, 12, 11, 15, 2, 21, 4, 7, 1, 3, 2, 0, 12, 0, 1, 0, 3, 2, 0, 11, 4, 3, 2, 0, 15, 0, 8, 3, 7, 1, 3, 2, 0, 12, 0, 0, 0, 7, 4, 3, 2, 0, 15, 0, 1, 2, 0, 11]) ws (vs) := ⟨nf_in hl rfl, sgq_1438 (vc_Mo_next_80_4 (v_iv (n_v vs 6)) (v_iv (n_v vs 8)) (v_iv (n_v vs 10)) (v_iv (n_v vs 12)) (w_fi ws (n_v vs 0) 11) (w_fi ws (n_v vs 0) 12) (w_fi ws (n_v vs 0) 14) (w_fi ws (n_v vs 0) 15) (w_fi ws (n_v vs 0) 13) (w_fi w1 (n_v vs 0) 11) (w_fi w1 (n_v vs 0) 15) (w_ei w1 (w_ar ws (n_v vs 0) 1)) (w_fi w1 (n_v vs 0) 10) (w_fi w1 (n_v vs 0) 13) (w_fi w2 (n_v vs 0) 15) (w_fi w2 (n_v vs 0) 11) (w_ei w2 (w_ar ws (n_v vs 0) 1)) (w_fi w2 (n_v vs 0) 10) (w_fi w2 (n_v vs 0) 13) (w_fi ws (n_v vs 0) 10) (w_fi w1 (n_v vs 0) 12) (w_fi w1 (n_v vs 0) 14) (w_ei ws (w_ar ws (n_v vs 0) 1)) k6 k8 k10 k12 d0 d1 d6 g0 g1 g3 fe_0_10_1 fe_0_12_1 fe_0_13_1 fe_0_14_1 fe_0_15_1 fe_0_10_2 fe_0_11_2 fe_0_13_2 fe_0_15_2 hE_0_1_1 hE_0_1_2 hK_0_1 kz_0_10 kz_0_11 kz_0_12 kz_0_13 kz_0_14 kz_0_15)⟩
  have nf5 : fc_1 PRD (20, [1, 0], [30, 0, 1, 0, 0, -1, 1, 15]) ws (vs) := ⟨nf_in hl rfl, sgq_1436 (vc_Mo_next_80_5 (v_iv (n_v vs 1)) (w_fi ws (n_v vs 0) 12) (w_fi ws (n_v vs 0) 14) (w_fi ws (n_v vs 0) 15) (w_fi ws (n_v vs 0) 13) (w_fi w1 (n_v vs 0) 11) (w_fi w1 (n_v vs 0) 15) (w_ei w1 (w_ar ws (n_v vs 0) 1)) (w_fi w1 (n_v vs 0) 10) (w_fi w1 (n_v vs 0) 13) (w_fi w2 (n_v vs 0) 15) (w_fi w2 (n_v vs 0) 11) (w_ei w2 (w_ar ws (n_v vs 0) 1)) (w_fi w2 (n_v vs 0) 10) (w_fi w2 (n_v vs 0) 13) (w_fi ws (n_v vs 0) 10) (w_fi w1 (n_v vs 0) 12) (w_fi w1 (n_v vs 0) 14) (w_ei ws (w_ar ws (n_v vs 0) 1)) k1 f14 fe_0_10_1 fe_0_12_1 fe_0_13_1 fe_0_14_1 fe_0_15_1 fe_0_10_2 fe_0_11_2 fe_0_13_2 fe_0_15_2 hE_0_1_1 hE_0_1_2 hK_0_1 kz_0_10 kz_0_12 kz_0_13 kz_0_14 kz_0_15)⟩
  have nf6 : fc_1 PRD (20, [0, 1], [60, 6, 1, 948, 10, 11, 12, 13, 14, 15, 1]) ws (vs) := ⟨nf_in hl rfl, sgq_1439 (vc_Mo_next_80_6 (v_iv (n_v vs 1)) (v_iv (n_v vs 3)) (v_iv (n_v vs 4)) (v_iv (n_v vs 6)) (v_iv (n_v vs 7)) (v_iv (n_v vs 8)) (v_iv (n_v vs 10)) (v_iv (n_v vs 12)) (w_fi ws (n_v vs 0) 11) (w_fi ws (n_v vs 0) 12) (w_fi ws (n_v vs 0) 14) (w_fi ws (n_v vs 0) 15) (w_fi ws (n_v vs 0) 13) (w_fi w1 (n_v vs 0) 11) (w_fi w1 (n_v vs 0) 15) (w_ei w1 (w_ar ws (n_v vs 0) 1)) (w_fi w1 (n_v vs 0) 10) (w_fi w1 (n_v vs 0) 13) (w_fi w2 (n_v vs 0) 15) (w_fi w2 (n_v vs 0) 11) (w_ei w2 (w_ar ws (n_v vs 0) 1)) (w_fi w2 (n_v vs 0) 10) (w_fi w2 (n_v vs 0) 13) (w_fi ws (n_v vs 0) 10) (w_fi w1 (n_v vs 0) 12) (w_fi w1 (n_v vs 0) 14) (w_ei ws (w_ar ws (n_v vs 0) 1)) k1 k3 k4 k6 k7 k8 k10 k12 d0 d3 d4 g0 g1 g2 g3 g4 g9 f16 fe_0_10_1 fe_0_12_1 fe_0_13_1 fe_0_14_1 fe_0_15_1 fe_0_10_2 fe_0_11_2 fe_0_13_2 fe_0_15_2 hE_0_1_1 hE_0_1_2 hK_0_1 kz_0_10 kz_0_11 kz_0_12 kz_0_13 kz_0_14 kz_0_15)⟩
  refine ⟨(fun _ h => (by cases h)), [], trivial, ?_, (fun _ h => (by cases h))⟩
  rw [List.append_nil]
  exact List.forall_mem_cons.mpr ⟨⟨show (20 : Nat) < 100 from by decide, nf0⟩, List.forall_mem_cons.mpr ⟨⟨show (20 : Nat) < 100 from by decide, nf1⟩, List.forall_mem_cons.mpr ⟨⟨show (20 : Nat) < 100 from by decide, nf2⟩, List.forall_mem_cons.mpr ⟨⟨show (20 : Nat) < 100 from by decide, nf3⟩, List.forall_mem_cons.mpr ⟨⟨show (20 : Nat) < 100 from by decide, nf4⟩, List.forall_mem_cons.mpr ⟨⟨show (20 : Nat) < 100 from by decide, nf5⟩, List.forall_mem_cons.mpr ⟨⟨show (20 : Nat) < 100 from by decide, nf6⟩, (fun _ h => (by cases h))⟩⟩⟩⟩⟩⟩⟩
set_option maxHeartbeats 4000000 in
theorem vc_Mo_next_81_0 (kind_0 : Int) (from_0 : Int) (pos_0 : Int) (tape_0 : Int → Int) (f6 : 1 * from_0 + ((-1) * pos_0 + 0) ≤ 0) (f7 : ((kind_0 = 1) → (pos_0 ≤ (from_0 + 8))) ∧ ((kind_0 = 0) ∨ ((from_0 + 1) ≤ pos_0))) (hK_0_1 : ∀ j : Int, 0 ≤ j → j < 2000 → (-128) ≤ tape_0 j ∧ tape_0 j ≤ 127) (kz_0_11 : 0 ≤ pos_0 ∧ pos_0 ≤ 2000) (kz_0_12 : 0 ≤ kind_0 ∧ kind_0 ≤ 4) (kz_0_15 : 0 ≤ from_0 ∧ from_0 ≤ 2000) : 1 * from_0 + ((-1) * pos_0 + 0) ≤ 0 := by
  first | with_reducible assumption | ((have f7_c0 := f7.1); (have f7_c1 := f7.2); (try and_intros) <;> first | with_reducible assumption | (clear f7_c0 f7_c1 f7 hK_0_1; omega)) | omega
set_option maxHeartbeats 4000000 in
theorem vc_Mo_next_81_1 (kind_0 : Int) (from_0 : Int) (pos_0 : Int) (tape_0 : Int → Int) (f7 : ((kind_0 = 1) → (pos_0 ≤ (from_0 + 8))) ∧ ((kind_0 = 0) ∨ ((from_0 + 1) ≤ pos_0))) (hK_0_1 : ∀ j : Int, 0 ≤ j → j < 2000 → (-128) ≤ tape_0 j ∧ tape_0 j ≤ 127) (kz_0_11 : 0 ≤ pos_0 ∧ pos_0 ≤ 2000) (kz_0_12 : 0 ≤ kind_0 ∧ kind_0 ≤ 4) (kz_0_15 : 0 ≤ from_0 ∧ from_0 ≤ 2000) : ((kind_0 = 1) → (pos_0 ≤ (from_0 + 8))) ∧ ((kind_0 = 0) ∨ ((from_0 + 1) ≤ pos_0)) := by
  first | with_reducible assumption | ((have f7_c0 := f7.1); (have f7_c1 := f7.2); (try and_intros) <;> first | with_reducible assumption | (clear f7_c0 f7_c1 f7 hK_0_1; omega)) | omega
set_option maxHeartbeats 4000000 in
theorem vc_Mo_next_81_2 (x1 : Int) (kind_0 : Int) (from_0 : Int) (pos_0 : Int) (tape_0 : Int → Int) (k1 : 0 ≤ x1 ∧ x1 ≤ 2000) (f5 : 1 * x1 + ((-1) * from_0 + 0) ≤ 0) (f7 : ((kind_0 = 1) → (pos_0 ≤ (from_0 + 8))) ∧ ((kind_0 = 0) ∨ ((from_0 + 1) ≤ pos_0))) (hK_0_1 : ∀ j : Int, 0 ≤ j → j < 2000 → (-128) ≤ tape_0 j ∧ tape_0 j ≤ 127) (kz_0_11 : 0 ≤ pos_0 ∧ pos_0 ≤ 2000) (kz_0_12 : 0 ≤ kind_0 ∧ kind_0 ≤ 4) (kz_0_15 : 0 ≤ from_0 ∧ from_0 ≤ 2000) : 1 * x1 + ((-1) * from_0 + 0) ≤ 0 := by
  first | with_reducible assumption | ((have f7_c0 := f7.1); (have f7_c1 := f7.2); (try and_intros) <;> first | with_reducible assumption | (clear f7_c0 f7_c1 f7 hK_0_1; omega)) | omega
set_option maxHeartbeats 4000000 in
theorem vc_Mo_next_81_3 (x1 : Int) (x4 : Int) (x5 : Int) (x6 : Int) (x7 : Int) (x8 : Int) (kind_0 : Int) (value_0 : Int) (from_0 : Int) (place_0 : Int) (pos_0 : Int) (tape_0 : Int → Int) (limit_0 : Int) (k1 : 0 ≤ x1 ∧ x1 ≤ 2000) (k4 : 0 ≤ x4 ∧ x4 ≤ 4) (k5 : (-49) ≤ x5 ∧ x5 ≤ 1048575) (k6 : 0 ≤ x6 ∧ x6 ≤ 2000) (k7 : 0 ≤ x7 ∧ x7 ≤ 2000) (k8 : 0 ≤ x8 ∧ x8 ≤ 2000) (g0 : x4 = kind_0) (g1 : x5 = value_0) (g2 : x6 = from_0) (g3 : x7 = place_0) (g4 : x8 = pos_0) (f8 : TKR (limit_0) (pos_0) (kind_0) (place_0) (value_0) (from_0) (tape_0) (x1)) (kz_0_10 : 0 ≤ limit_0 ∧ limit_0 ≤ 2000) (kz_0_11 : 0 ≤ pos_0 ∧ pos_0 ≤ 2000) (kz_0_12 : 0 ≤ kind_0 ∧ kind_0 ≤ 4) (kz_0_13 : 0 ≤ place_0 ∧ place_0 ≤ 2000) (kz_0_14 : (-49) ≤ value_0 ∧ value_0 ≤ 1048575) (kz_0_15 : 0 ≤ from_0 ∧ from_0 ≤ 2000) : TKR (limit_0) (pos_0) (kind_0) (place_0) (value_0) (from_0) (tape_0) (x1) := by
  first | subst g0 | skip
  first | subst g1 | skip
  first | subst g2 | skip
  first | subst g3 | skip
  first | subst g4 | skip
  first
    | assumption
    | exact tkr_end ‹ZX1 _ _ _ _› (by omega) (by omega) (by omega) (by omega)
    | (have e := (‹ZXM _ _ _ _ _ _›).1.1.1; exact tkr_name ‹ZXM _ _ _ _ _ _› (by omega))
    | (have e := (‹ZXE _ _ _ _ _ _ _›).1.1.1; exact tkr_num ‹ZXE _ _ _ _ _ _ _› (by omega))
    | exact tkr_sign (by assumption) ‹ZXS1 _ _ _ _ _ _ _›.1 (by omega) (by omega) (Or.inl ⟨by omega, ‹ZXS1 _ _ _ _ _ _ _›.2⟩)
    | exact tkr_sign (by assumption) ‹ZXS _ _ _ _ _ _ _› (by omega) (by omega) (Or.inr ⟨by omega, by unfold ZSG; omega⟩)
def o_Mo_next_81 : or_T := (354, 9, [(0, (2, 0, 0, [165])), (1, (0, 0, 2000, [])), (2, (2, 0, 0, [165])), (4, (0, 0, 4, [])), (5, (0, -49, 1048575, [])), (6, (0, 0, 2000, [])), (7, (0, 0, 2000, [])), (8, (0, 0, 2000, []))], [(9, [4, 2], [12]), (9, [5, 2], [14]), (9, [6, 2], [15]), (9, [7, 2], [13]), (9, [8, 2], [11]), (20, [1, 2], [30, 0, 1, 0, 0, -1, 1, 15]), (20, [2, 2], [30, 0, 1, 1, 15, -1, 1, 11]), (20, [2], [50, 3, 0, 12, 11, 15, 2, 21, 4, 7, 1, 3, 2, 0, 12, 0, 1, 0, 3, 2, 0, 11, 4, 3, 2, 0, 15, 0, 8, 3, 7, 1, 3, 2, 0, 12, 0, 0, 0, 7, 4, 3, 2, 0, 15, 0, 1, 2, 0, 11]), (20, [2, 1], [60, 6, 1, 948, 10, 11, 12, 13, 14, 15, 1]), (24, [0, 2], [])], [], [], [(20, [0, 0], [30, 0, 1, 1, 15, -1, 1, 11]), (20, [0], [50, 3, 0, 12, 11, 15, 2, 21, 4, 7, 1, 3, 2, 0, 12, 0, 1, 0, 3, 2, 0, 11, 4, 3, 2, 0, 15, 0, 8, 3, 7, 1, 3, 2, 0, 12, 0, 0, 0, 7, 4, 3, 2, 0, 15, 0, 1, 2, 0, 11]), (20, [1, 0], [30, 0, 1, 0, 0, -1, 1, 15]), (20, [0, 1], [60, 6, 1, 948, 10, 11, 12, 13, 14, 15, 1])], [], [(4, 8, -4294967296, 3)])
theorem oo_Mo_next_81 {kA : Nat → ClassId} : or_ok PRD kA GG o_Mo_next_81 := by
  refine or_mk fun A ta ws vs hD hth hl => ?_
  intro t0 r0 t1 k1 t2 r2 t4 k4 t5 k5 t6 k6 t7 k7 t8 k8 d0 f0 f1 f2 f3 f4 f5 f6 f7 f8 f9
  replace f0 := shm_103 f0
  replace f1 := shm_115 f1
  replace f2 := shm_177 f2
  replace f3 := shm_361 f3
  replace f4 := shm_116 f4
  replace f5 := shm_1436 f5
  replace f6 := shm_1437 f6
  replace f7 := shm_1438 f7
  replace f8 := shm_1439 f8
  replace f9 := shm_5 f9
  have q2 : n_v vs 2 = n_v vs 0 := f9.symm
  simp only [q2] at f0 f1 f2 f3 f4 f5 f6 f7 f8
  have cr_0_1 := fdq_39 hD hth r0
  have g0 : v_iv (n_v vs 4) = w_fi ws (n_v vs 0) 12 := congrArg v_iv f0
  have g1 : v_iv (n_v vs 5) = w_fi ws (n_v vs 0) 14 := congrArg v_iv f1
  have g2 : v_iv (n_v vs 6) = w_fi ws (n_v vs 0) 15 := congrArg v_iv f2
  have g3 : v_iv (n_v vs 7) = w_fi ws (n_v vs 0) 13 := congrArg v_iv f3
  have g4 : v_iv (n_v vs 8) = w_fi ws (n_v vs 0) 11 := congrArg v_iv f4
  have hK_0_1 := elq_7 hD hth cr_0_1
  have kz_0_10 := fdq_43 hD hth r0
  have kz_0_11 := fdq_237 hD hth r0
  have kz_0_12 := fdq_187 hD hth r0
  have kz_0_13 := fdq_238 hD hth r0
  have kz_0_14 := fdq_188 hD hth r0
  have kz_0_15 := fdq_239 hD hth r0
  have nf0 : fc_1 PRD (20, [0, 0], [30, 0, 1, 1, 15, -1, 1, 11]) ws (vs) := ⟨nf_in hl rfl, sgq_1437 (vc_Mo_next_81_0 (w_fi ws (n_v vs 0) 12) (w_fi ws (n_v vs 0) 15) (w_fi ws (n_v vs 0) 11) (w_ei ws (w_ar ws (n_v vs 0) 1)) f6 f7 hK_0_1 kz_0_11 kz_0_12 kz_0_15)⟩
  have nf1 : fc_1 PRD (20, [0], [50, 3, 0, 12, 11, 15, 2, 21, 4, 7, 1, 3, 2, 0, 12, 0, 1, 0, 3, 2, 0, 11, 4, 3, 2, 0, 15, 0, 8, 3, 7, 1, 3, 2, 0, 12, 0, 0, 0, 7, 4, 3, 2, 0, 15, 0, 1, 2, 0, 11]) ws (vs) := ⟨nf_in hl rfl, sgq_1438 (vc_Mo_next_81_1 (w_fi ws (n_v vs 0) 12) (w_fi ws (n_v vs 0) 15) (w_fi ws (n_v vs 0) 11) (w_ei ws (w_ar ws (n_v vs 0) 1)) f7 hK_0_1 kz_0_11 kz_0_12 kz_0_15)⟩
  have nf2 : fc_1 PRD (20, [1, 0], [30, 0, 1, 0, 0, -1, 1, 15]) ws (vs) := ⟨nf_in hl rfl, sgq_1436 (vc_Mo_next_81_2 (v_iv (n_v vs 1)) (w_fi ws (n_v vs 0) 12) (w_fi ws (n_v vs 0) 15) (w_fi ws (n_v vs 0) 11) (w_ei ws (w_ar ws (n_v vs 0) 1)) k1 f5 f7 hK_0_1 kz_0_11 kz_0_12 kz_0_15)⟩
  have nf3 : fc_1 PRD (20, [0, 1], [60, 6, 1, 948, 10, 11, 12, 13, 14, 15, 1]) ws (vs) := ⟨nf_in hl rfl, sgq_1439 (vc_Mo_next_81_3 (v_iv (n_v vs 1)) (v_iv (n_v vs 4)) (v_iv (n_v vs 5)) (v_iv (n_v vs 6)) (v_iv (n_v vs 7)) (v_iv (n_v vs 8)) (w_fi ws (n_v vs 0) 12) (w_fi ws (n_v vs 0) 14) (w_fi ws (n_v vs 0) 15) (w_fi ws (n_v vs 0) 13) (w_fi ws (n_v vs 0) 11) (w_ei ws (w_ar ws (n_v vs 0) 1)) (w_fi ws (n_v vs 0) 10) k1 k4 k5 k6 k7 k8 g0 g1 g2 g3 g4 f8 kz_0_10 kz_0_11 kz_0_12 kz_0_13 kz_0_14 kz_0_15)⟩
  refine ⟨(fun _ h => (by cases h)), [], trivial, ?_, (fun _ h => (by cases h))⟩
  rw [List.append_nil]
  exact List.forall_mem_cons.mpr ⟨⟨show (20 : Nat) < 100 from by decide, nf0⟩, List.forall_mem_cons.mpr ⟨⟨show (20 : Nat) < 100 from by decide, nf1⟩, List.forall_mem_cons.mpr ⟨⟨show (20 : Nat) < 100 from by decide, nf2⟩, List.forall_mem_cons.mpr ⟨⟨show (20 : Nat) < 100 from by decide, nf3⟩, (fun _ h => (by cases h))⟩⟩⟩⟩
def n_Mo_next_an : List an_T := [(0, [(0, (2, 0, 0, [165]))], [], (0, 0), [(0, 0, 100000), (1, 3, 2000), (0, 0, 100000)], [], [((0, 11), (0, 0, 2000, []))], [(2, 0, 0, [165]), (0, 0, 2000, [])], 0, [], [(20, [1, 2], [30, 0, 1, 0, 0, (Int.negSucc 0), 1, 11]), (20, [2, 1], [60, 2, 1, 949, 10, 11, 1]), (24, [0, 2], [])]), (39, [(0, (2, 0, 0, [165]))], [], (0, 0), [(0, 0, 99961), (0, 0, 0), (0, 0, 0)], [], [((0, 11), (0, 0, 2000, []))], [(2, 0, 0, [165]), (0, 0, 2000, [])], 0, [], [(20, [1, 2], [30, 0, 1, 0, 0, (Int.negSucc 0), 1, 11]), (20, [2, 1], [60, 2, 1, 950, 10, 11, 1]), (24, [0, 2], [])]), (93, [(0, (2, 0, 0, [165])), (1, (0, 65, 122, []))], [], (0, 0), [(0, 0, 99907), (1, 4, 2000), (0, 0, 100000)], [], [((0, 11), (0, 0, 2000, []))], [(2, 0, 0, [165]), (0, 0, 2000, [])], 0, [], [(20, [1, 2], [30, 0, 1, 0, 0, (Int.negSucc 0), 1, 15]), (20, [2], [50, 3, 1, 15, 11, 10, 1, 2, 8, 0, 3, 2, 0, 15, 2, 0, 11, 3, 12, 0, 7, 4, 3, 2, 0, 15, 0, 1, 2, 0, 11, 2, 8, 1, 3, 2, 0, 11, 2, 0, 15, 2, 12, 0, 7, 4, 3, 2, 0, 15, 0, 1, 2, 0, 10, 3, 30, 2, 14, 0, 2, 0, 65, 9, 6, 3, 0, 1, 2, 0, 15, 0, 256, 0, 10, 9, 6, 3, 0, 1, 2, 0, 15, 0, 256, 0, 90, 2, 14, 0, 2, 0, 97, 9, 6, 3, 0, 1, 2, 0, 15, 0, 256, 0, 10, 9, 6, 3, 0, 1, 2, 0, 15, 0, 256, 0, 122]), (20, [2, 1], [60, 4, 1, 951, 10, 11, 13, 15, 1]), (24, [0, 2], [])]), (134, [(0, (2, 0, 0, [165])), (1, (0, 65, 122, []))], [], (0, 0), [(0, 0, 99907), (1, 4, 2000), (0, 0, 99866)], [], [((0, 11), (0, 0, 1999, []))], [(2, 0, 0, [165]), (0, 0, 2000, [])], 0, [], [(20, [1, 2], [30, 0, 1, 0, 0, (Int.negSucc 0), 1, 15]), (20, [2], [50, 3, 1, 15, 11, 10, 1, 2, 8, 0, 3, 2, 0, 15, 2, 0, 11, 3, 12, 0, 7, 4, 3, 2, 0, 15, 0, 1, 2, 0, 11, 2, 8, 1, 3, 2, 0, 11, 2, 0, 15, 2, 12, 0, 7, 4, 3, 2, 0, 15, 0, 1, 2, 0, 10, 3, 30, 2, 14, 0, 2, 0, 65, 9, 6, 3, 0, 1, 2, 0, 15, 0, 256, 0, 10, 9, 6, 3, 0, 1, 2, 0, 15, 0, 256, 0, 90, 2, 14, 0, 2, 0, 97, 9, 6, 3, 0, 1, 2, 0, 15, 0, 256, 0, 10, 9, 6, 3, 0, 1, 2, 0, 15, 0, 256, 0, 122]), (20, [2, 1], [60, 4, 1, 952, 10, 11, 13, 15, 1]), (24, [0, 2], [])]), (147, [(0, (2, 0, 0, [165])), (1, (0, 65, 122, []))], [], (0, 0), [(0, 0, 99853), (0, 0, 0), (0, 0, 0)], [], [((0, 11), (0, 0, 2000, []))], [(2, 0, 0, [165]), (0, 0, 2000, [])], 0, [], [(20, [1, 2], [30, 0, 1, 0, 0, (Int.negSucc 0), 1, 15]), (20, [2], [50, 2, 0, 15, 11, 0, 7, 4, 3, 2, 0, 15, 0, 1, 2, 0, 11]), (20, [2, 1], [60, 4, 1, 953, 10, 11, 13, 15, 1]), (24, [0, 2], [])]), (185, [(0, (2, 0, 0, [165])), (1, (0, 48, 57, []))], [], (0, 0), [(0, 0, 99815), (1, 5, 2000), (0, 0, 100000)], [], [((0, 14), (0, (Int.negSucc 48), 1048575, [])), ((0, 11), (0, 0, 2000, []))], [(2, 0, 0, [165]), (0, 0, 2000, [])], 0, [], [(20, [1, 2], [30, 0, 1, 0, 0, (Int.negSucc 0), 1, 15]), (20, [2], [50, 3, 1, 15, 11, 10, 1, 2, 8, 0, 3, 2, 0, 15, 2, 0, 11, 3, 12, 0, 7, 4, 3, 2, 0, 15, 0, 1, 2, 0, 11, 2, 8, 1, 3, 2, 0, 11, 2, 0, 15, 2, 12, 0, 7, 4, 3, 2, 0, 15, 0, 1, 2, 0, 10, 2, 14, 0, 2, 0, 48, 9, 6, 3, 0, 1, 2, 0, 15, 0, 256, 0, 10, 9, 6, 3, 0, 1, 2, 0, 15, 0, 256, 0, 57]), (20, [2, 1], [60, 5, 1, 954, 10, 11, 13, 14, 15, 1]), (24, [0, 2], [])]), (252, [(0, (2, 0, 0, [165])), (1, (0, 48, 57, []))], [], (0, 0), [(0, 0, 99748), (0, 0, 0), (0, 0, 0)], [], [((0, 14), (0, (Int.negSucc 48), 1048575, [])), ((0, 11), (0, 0, 2000, []))], [(2, 0, 0, [165]), (0, 0, 2000, [])], 0, [], [(20, [1, 2], [30, 0, 1, 0, 0, (Int.negSucc 0), 1, 15]), (20, [2], [50, 2, 0, 15, 11, 0, 7, 4, 3, 2, 0, 15, 0, 1, 2, 0, 11]), (20, [2, 1], [60, 5, 1, 955, 10, 11, 13, 14, 15, 1]), (24, [0, 2], [])]), (277, [(0, (2, 0, 0, [165])), (1, (0, 0, 255, []))], [], (0, 0), [(0, 0, 99723), (0, 0, 0), (0, 0, 0)], [(3, 4, (Int.negSucc 999999999999), 0), (4, 3, (Int.negSucc 999999999999), 0), (6, 7, (Int.negSucc 999999999999), 0), (6, 8, (Int.negSucc 999999999999), 0), (7, 6, (Int.negSucc 999999999999), 0), (7, 8, (Int.negSucc 999999999999), 0), (8, 6, (Int.negSucc 999999999999), 0), (8, 7, (Int.negSucc 999999999999), 0)], [((0, 14), (0, 0, 255, [])), ((0, 12), (0, 4, 4, [])), ((0, 15), (0, 0, 1999, [])), ((0, 13), (0, 0, 1999, [])), ((0, 11), (0, 0, 1999, []))], [(2, 0, 0, [165]), (0, 0, 2000, [])], 0, [], [(20, [1, 2], [30, 0, 1, 0, 0, (Int.negSucc 0), 1, 15]), (20, [2], [50, 2, 0, 11, 15, 1, 3, 2, 0, 11, 2, 0, 15]), (20, [2, 1, 3], [60, 4, 1, 956, 10, 11, 13, 15, 1]), (24, [0, 2], [])]), (325, [(0, (2, 0, 0, [165])), (1, (0, 45, 125, []))], [], (0, 0), [(0, 0, 99675), (0, 0, 0), (0, 0, 0)], [(3, 4, (Int.negSucc 999999999999), 0), (4, 3, (Int.negSucc 999999999999), 0), (6, 7, (Int.negSucc 999999999999), 0), (6, 8, (Int.negSucc 999999999999), 0), (7, 6, (Int.negSucc 999999999999), 0), (7, 8, (Int.negSucc 999999999999), 0), (8, 6, (Int.negSucc 999999999999), 0), (8, 7, (Int.negSucc 999999999999), 0)], [((0, 14), (0, 45, 125, [])), ((0, 12), (0, 4, 4, [])), ((0, 15), (0, 0, 1999, [])), ((0, 13), (0, 0, 1999, [])), ((0, 11), (0, 0, 1999, []))], [(2, 0, 0, [165]), (0, 0, 2000, [])], 0, [], [(20, [1, 2], [30, 0, 1, 0, 0, (Int.negSucc 0), 1, 15]), (20, [2], [50, 2, 0, 11, 15, 1, 3, 2, 0, 11, 2, 0, 15]), (20, [2, 1, 3], [60, 4, 1, 957, 10, 11, 13, 15, 1]), (24, [0, 2], [])]), (354, [(0, (2, 0, 0, [165])), (1, (0, (Int.negSucc 0), 255, []))], [], (0, 0), [(0, 0, 99646), (0, 0, 0), (0, 0, 0)], [(3, 4, (Int.negSucc 999999999999), 251), (3, 5, (Int.negSucc 999999999999), 171), (3, 8, (Int.negSucc 999999999999), 254), (4, 3, (Int.negSucc 999999999999), 4), (4, 8, (Int.negSucc 999999999999), 3), (5, 3, (Int.negSucc 999999999999), 1048527)], [((0, 12), (0, 0, 4, [])), ((0, 14), (0, (Int.negSucc 48), 1048575, [])), ((0, 15), (0, 0, 2000, [])), ((0, 13), (0, 0, 2000, [])), ((0, 11), (0, 0, 2000, []))], [(2, 0, 0, [165]), (0, 0, 2000, [])], 0, [], [(20, [1, 2], [30, 0, 1, 0, 0, (Int.negSucc 0), 1, 15]), (20, [2, 2], [30, 0, 1, 1, 15, (Int.negSucc 0), 1, 11]), (20, [2], [50, 3, 0, 12, 11, 15, 2, 21, 4, 7, 1, 3, 2, 0, 12, 0, 1, 0, 3, 2, 0, 11, 4, 3, 2, 0, 15, 0, 8, 3, 7, 1, 3, 2, 0, 12, 0, 0, 0, 7, 4, 3, 2, 0, 15, 0, 1, 2, 0, 11]), (20, [2, 1], [60, 6, 1, 948, 10, 11, 12, 13, 14, 15, 1]), (24, [0, 2], [])])]
def t_Mo_next_ct : ct_L := [(0, 440, e_Mo_isLetter), (0, 444, e_Mo_isDigit), (1, 425, e_Mo_byteAt)]
end
