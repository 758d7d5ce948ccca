
set_option maxHeartbeats 4000000 in
theorem vc_Fa_uniteAt_at_Netail_Nehead_Emblock_17_0 (x0 : Int) (x2 : Int) (x8 : Int) (x15 : Int) (x16 : Int) (x29 : Int) (x32 : Int) (x36 : Int) (a5_0 : Int → Int) (a3_0 : Int → Int) (a4_0 : Int → Int) (k0 : 0 ≤ x0 ∧ x0 ≤ 23) (k2 : 1 ≤ x2 ∧ x2 ≤ 72) (k8 : 0 ≤ x8 ∧ x8 ≤ 23) (k16 : 0 ≤ x16 ∧ x16 ≤ 23) (k29 : 0 ≤ x29 ∧ x29 ≤ 71) (k32 : 0 ≤ x32 ∧ x32 ≤ 24) (d4 : x8 + 0 ≤ x16 ∧ x16 ≤ x8 + 0) (d6 : x8 + (-4294967296) ≤ x0 ∧ x0 ≤ x8 + 0) (d9 : x0 + (-4294967296) ≤ x8 ∧ x8 ≤ x0 + 0) (f3 : 1 * x32 + ((-1) * x0 + 0) ≤ 0) (f4 : (-1) * x32 + (1 * x0 + 0) ≤ 0) (f12 : 0 ≤ x29) (f28 : RLO (a5_0) (a3_0) (a4_0) (x2) (x29) (x32)) : UNI (a5_0) (a3_0) (a4_0) (x2) (x0) (x29) := by
  first
    | (have q := (‹RLO _ _ _ _ _ _›); have h1 := uni_back q (by omega); rw [show x0 = x32 by omega]; exact h1)
    | (have q := (‹RLO _ _ _ _ _ _›); have h1 := uni_back q (by omega); rw [show x0 = x36 by omega]; exact h1)
    | (have q := (‹RLO _ _ _ _ _ _›); have h1 := uni_back q (by omega); rw [show x0 = x30 by omega]; exact h1)
set_option maxHeartbeats 4000000 in
theorem vc_Fa_uniteAt_at_Netail_Nehead_Emblock_17_1 (x0 : Int) (x1 : Int) (x2 : Int) (x7 : Int) (x8 : Int) (x9 : Int) (x15 : Int) (x16 : Int) (x22 : Int) (x24 : Int) (x25 : Int) (x26 : Int) (x29 : Int) (x32 : Int) (x34 : Int) (x35 : Int) (x36 : Int) (a5_0 : Int → Int) (a3_0 : Int → Int) (a4_0 : Int → Int) (a6_0 : Int → Int) (k0 : 0 ≤ x0 ∧ x0 ≤ 23) (k1 : 0 ≤ x1 ∧ x1 ≤ 16777215) (k2 : 1 ≤ x2 ∧ x2 ≤ 72) (k7 : 0 ≤ x7 ∧ x7 ≤ 25) (k8 : 0 ≤ x8 ∧ x8 ≤ 23) (k9 : 0 ≤ x9 ∧ x9 ≤ 16777215) (k16 : 0 ≤ x16 ∧ x16 ≤ 23) (k29 : 0 ≤ x29 ∧ x29 ≤ 71) (k32 : 0 ≤ x32 ∧ x32 ≤ 24) (k34 : 0 ≤ x34 ∧ x34 ≤ 25) (k35 : (-2147483648) ≤ x35 ∧ x35 ≤ 2147483647) (d4 : x8 + 0 ≤ x16 ∧ x16 ≤ x8 + 0) (d6 : x8 + (-4294967296) ≤ x0 ∧ x0 ≤ x8 + 0) (d7 : x9 + (-4294967296) ≤ x1 ∧ x1 ≤ x9 + 0) (d9 : x0 + (-4294967296) ≤ x8 ∧ x8 ≤ x0 + 0) (d10 : x1 + (-4294967296) ≤ x9 ∧ x9 ≤ x1 + 0) (f3 : 1 * x32 + ((-1) * x0 + 0) ≤ 0) (f4 : (-1) * x32 + (1 * x0 + 0) ≤ 0) (f6 : 1 * x34 + ((-1) * x7 + 0) ≤ 0) (f7 : (-1) * x34 + (1 * x7 + 0) ≤ 0) (f8 : 1 * x35 + ((-1) * x1 + 0) ≤ 0) (f9 : (-1) * x35 + (1 * x1 + 0) ≤ 0) (f29 : QKO (a5_0) (a3_0) (a4_0) (a6_0) (x34) (x2) (x32) (x35) (x29)) : UN2 (a5_0) (a3_0) (a4_0) (a6_0) (x7) (x2) (x0) (x1) (x29) := by
  first
    | (have h1 := un2_back ‹QKO _ _ _ _ _ _ _ _ _›; rw [show x0 = x32 by omega, show x7 = x34 by omega, show x1 = x35 by omega]; exact h1)
    | (have h1 := un2_back ‹QKO _ _ _ _ _ _ _ _ _›; rw [show x0 = x36 by omega, show x7 = x38 by omega, show x1 = x39 by omega]; exact h1)
    | (have h1 := un2_back ‹QKO _ _ _ _ _ _ _ _ _›; rw [show x0 = x30 by omega, show x7 = x32 by omega, show x1 = x33 by omega]; exact h1)
def o_Fa_uniteAt_at_Netail_Nehead_Emblock_17 : or_T := (6, 37, [(0, (0, 0, 23, [])), (1, (0, 0, 16777215, [])), (2, (0, 1, 72, [])), (3, (2, 0, 0, [80])), (4, (2, 0, 0, [81])), (5, (2, 0, 0, [26])), (6, (2, 0, 0, [82])), (7, (0, 0, 25, [])), (8, (0, 0, 23, [])), (9, (0, 0, 16777215, [])), (10, (0, 1, 72, [])), (11, (2, 0, 0, [80])), (12, (2, 0, 0, [81])), (13, (2, 0, 0, [26])), (14, (0, 0, 71, [])), (15, (0, 0, 71, [])), (16, (0, 0, 23, [])), (22, (0, 0, 23, [])), (24, (0, -1, -1, [])), (25, (0, -1, 71, [])), (26, (0, 0, 71, [])), (27, (0, 0, 71, [])), (28, (0, 0, 71, [])), (29, (0, 0, 71, [])), (30, (2, 0, 0, [80])), (31, (2, 0, 0, [81])), (32, (0, 0, 24, [])), (33, (2, 0, 0, [82])), (34, (0, 0, 25, [])), (35, (0, -2147483648, 2147483647, [])), (36, (0, 1, 72, []))], [(6, [36, 15], [1]), (24, [3, 30], []), (24, [4, 31], []), (23, [32, 8], [0, 1, -1]), (23, [32, 8], [0, -1, 1]), (24, [6, 33], []), (23, [34, 7], [0, 1, -1]), (23, [34, 7], [0, -1, 1]), (23, [35, 9], [0, 1, -1]), (23, [35, 9], [0, -1, 1]), (20, [29, 27], [50, 0, 0, 2, 6, 0, 2, 0, 0, 1, 0, 0, 2, 1, 0, 1, 1]), (20, [32, 8], [50, 0, 0, 1, 2, 1, 0, 1, 1]), (20, [29], [50, 0, 0, 0, 2, 0, 0, 1, 0]), (20, [34, 7], [50, 0, 0, 1, 2, 1, 0, 1, 1]), (20, [35, 9], [50, 0, 0, 1, 2, 1, 0, 1, 1]), (23, [14, 29], [0, -1, 1]), (23, [28, 29], [0, -1, 1]), (20, [29, 14, 28], [50, 0, 0, 3, 6, 1, 2, 1, 0, 1, 1, 1, 2, 1, 0, 1, 2]), (23, [14, 27], [0, 1, -1]), (23, [26, 27], [0, 1, -1]), (20, [27, 14, 26], [50, 0, 0, 3, 6, 1, 2, 1, 0, 1, 1, 1, 2, 1, 0, 1, 2]), (24, [0, 8], []), (24, [1, 9], []), (24, [2, 10], []), (24, [3, 11], []), (24, [4, 12], []), (24, [5, 13], []), (20, [13, 10], [61, 1, 566]), (20, [13, 30, 31, 10, 29, 32], [61, 3, 583]), (20, [13, 30, 31, 33, 34, 10, 32, 35, 29], [61, 4, 592]), (102, [35], [67108864]), (23, [32, 8], [0, 1, -1]), (23, [32, 8], [0, -1, 1]), (23, [34, 7], [0, 1, -1]), (23, [34, 7], [0, -1, 1]), (23, [35, 9], [0, 1, -1]), (23, [35, 9], [0, -1, 1]), (23, [14, 29], [0, -1, 1]), (23, [28, 29], [0, -1, 1]), (23, [14, 27], [0, 1, -1]), (23, [26, 27], [0, 1, -1]), (7, [25, 14], [1]), (7, [14, 24], [1]), (7, [22, 8], [1]), (7, [16, 8], [0]), (7, [15, 10], [2])], [], [], [(20, [13, 11, 12, 10, 8, 29], [61, 3, 584]), (20, [13, 11, 12, 6, 7, 10, 8, 9, 29], [61, 4, 589])], [], [(36, 15, 1, 1), (36, 10, -4294967296, 0), (36, 2, -4294967296, 1), (36, 10, -4294967296, 1), (16, 8, 0, 0), (15, 10, -4294967296, -1), (0, 8, -4294967296, 0), (1, 9, -4294967296, 0), (2, 10, -4294967296, 0), (8, 0, -4294967296, 0), (9, 1, -4294967296, 0), (10, 2, -4294967296, 0), (14, 15, -4294967296, 70), (15, 2, -4294967296, 0), (15, 10, -4294967296, 0)])
theorem oo_Fa_uniteAt_at_Netail_Nehead_Emblock_17 {kA : Nat → ClassId} : or_ok PRD kA GG o_Fa_uniteAt_at_Netail_Nehead_Emblock_17 := by
  refine or_mk fun A ta ws vs hD hth hl => ?_
  intro t0 k0 t1 k1 t2 k2 t3 r3 t4 r4 t5 r5 t6 r6 t7 k7 t8 k8 t9 k9 t10 k10 t11 r11 t12 r12 t13 r13 t14 k14 t15 k15 t16 k16 t22 k22 t24 k24 t25 k25 t26 k26 t27 k27 t28 k28 t29 k29 t30 r30 t31 r31 t32 k32 t33 r33 t34 k34 t35 k35 t36 k36 d0 d1 d2 d3 d4 d5 d6 d7 d8 d9 d10 d11 d12 d13 d14 f0 f1 f2 f3 f4 f5 f6 f7 f8 f9 f10 f11 f12 f13 f14 f15 f16 f17 f18 f19 f20 f21 f22 f23 f24 f25 f26 f27 f28 f29 ta1 w1 le1 s1 f31 f32 f33 f34 f35 f36 f37 f38 f39 f40 f41 f42 f43 f44 f45
  replace f1 := shm_5 f1
  replace f2 := shm_5 f2
  replace f3 := shm_7 f3
  replace f4 := shm_22 f4
  replace f5 := shm_5 f5
  replace f6 := shm_7 f6
  replace f7 := shm_22 f7
  replace f8 := shm_7 f8
  replace f9 := shm_22 f9
  replace f12 := shm_722 f12
  replace f21 := shm_5 f21
  replace f22 := shm_5 f22
  replace f23 := shm_5 f23
  replace f24 := shm_5 f24
  replace f25 := shm_5 f25
  replace f26 := shm_5 f26
  replace f28 := shm_371 f28
  replace f29 := shm_372 f29
  have q30 : n_v vs 30 = n_v vs 3 := f1.symm
  have q31 : n_v vs 31 = n_v vs 4 := f2.symm
  have q33 : n_v vs 33 = n_v vs 6 := f5.symm
  have q8 : n_v vs 8 = n_v vs 0 := f21.symm
  have q9 : n_v vs 9 = n_v vs 1 := f22.symm
  have q10 : n_v vs 10 = n_v vs 2 := f23.symm
  have q11 : n_v vs 11 = n_v vs 3 := f24.symm
  have q12 : n_v vs 12 = n_v vs 4 := f25.symm
  have q13 : n_v vs 13 = n_v vs 5 := f26.symm
  simp only [q8, q9, q10, q13, q30, q31, q33] at f3 f4 f8 f9 f28 f29
  have nf0 : fc_1 PRD (20, [13, 11, 12, 10, 8, 29], [61, 3, 584]) ws (vs) := by
    refine ⟨nf_in hl rfl, sgq_1193 ?_⟩
    · show UNI (w_ei ws (v_ad (n_v vs 13))) (w_ei ws (v_ad (n_v vs 11))) (w_ei ws (v_ad (n_v vs 12))) (v_iv (n_v vs 10)) (v_iv (n_v vs 8)) (v_iv (n_v vs 29))
      simp only [q8, q10, q11, q12, q13]
      exact vc_Fa_uniteAt_at_Netail_Nehead_Emblock_17_0 (v_iv (n_v vs 0)) (v_iv (n_v vs 2)) (v_iv (n_v vs 8)) (v_iv (n_v vs 15)) (v_iv (n_v vs 16)) (v_iv (n_v vs 29)) (v_iv (n_v vs 32)) (v_iv (n_v vs 36)) (w_ei ws (v_ad (n_v vs 5))) (w_ei ws (v_ad (n_v vs 3))) (w_ei ws (v_ad (n_v vs 4))) k0 k2 k8 k16 k29 k32 d4 d6 d9 f3 f4 f12 f28
  have nf1 : fc_1 PRD (20, [13, 11, 12, 6, 7, 10, 8, 9, 29], [61, 4, 589]) ws (vs) := by
    refine ⟨nf_in hl rfl, sgq_1194 ?_⟩
    · show UN2 (w_ei ws (v_ad (n_v vs 13))) (w_ei ws (v_ad (n_v vs 11))) (w_ei ws (v_ad (n_v vs 12))) (w_ei ws (v_ad (n_v vs 6))) (v_iv (n_v vs 7)) (v_iv (n_v vs 10)) (v_iv (n_v vs 8)) (v_iv (n_v vs 9)) (v_iv (n_v vs 29))
      simp only [q8, q9, q10, q11, q12, q13]
      exact vc_Fa_uniteAt_at_Netail_Nehead_Emblock_17_1 (v_iv (n_v vs 0)) (v_iv (n_v vs 1)) (v_iv (n_v vs 2)) (v_iv (n_v vs 7)) (v_iv (n_v vs 8)) (v_iv (n_v vs 9)) (v_iv (n_v vs 15)) (v_iv (n_v vs 16)) (v_iv (n_v vs 22)) (v_iv (n_v vs 24)) (v_iv (n_v vs 25)) (v_iv (n_v vs 26)) (v_iv (n_v vs 29)) (v_iv (n_v vs 32)) (v_iv (n_v vs 34)) (v_iv (n_v vs 35)) (v_iv (n_v vs 36)) (w_ei ws (v_ad (n_v vs 5))) (w_ei ws (v_ad (n_v vs 3))) (w_ei ws (v_ad (n_v vs 4))) (w_ei ws (v_ad (n_v vs 6))) k0 k1 k2 k7 k8 k9 k16 k29 k32 k34 k35 d4 d6 d7 d9 d10 f3 f4 f6 f7 f8 f9 f29
  refine ⟨(fun _ h => (by cases h)), [], trivial, ?_, (fun _ h => (by cases h))⟩
  rw [List.append_nil]
  exact List.forall_mem_cons.mpr ⟨⟨show (20 : Nat) < 100 from by decide, nf0⟩, List.forall_mem_cons.mpr ⟨⟨show (20 : Nat) < 100 from by decide, nf1⟩, (fun _ h => (by cases h))⟩⟩
set_option maxHeartbeats 4000000 in
theorem vc_Fa_uniteAt_at_Netail_Nehead_Emblock_18_r0 (x2 : Int) (x15 : Int) (x16 : Int) (x17 : Int) (x22 : Int) (x25 : Int) (a5_0 : Int → Int) (a4_0 : Int → Int) (a3_0 : Int → Int) (k2 : 1 ≤ x2 ∧ x2 ≤ 72) (k15 : 0 ≤ x15 ∧ x15 ≤ 71) (k16 : 0 ≤ x16 ∧ x16 ≤ 23) (k17 : 0 ≤ x17 ∧ x17 ≤ 23) (k22 : 0 ≤ x22 ∧ x22 ≤ 23) (k25 : (-1) ≤ x25 ∧ x25 ≤ 71) (h0 : x25 = a5_0 (x15)) (h3 : x22 = a4_0 (x15)) (h8 : x17 = a4_0 (x15)) (h10 : x16 = a3_0 (x15)) (f11 : x15 < x2) (f12 : BLQ (a5_0) (x2)) : 0 ≤ x25 ∧ x25 ≤ 71 := by
  first
    | omega
    | (skip; (first | subst h0 | skip); (first | subst h3 | skip); (first | subst h8 | skip); (first | subst h10 | skip); have q := ‹BLQ _ _› x15 (by omega) (by omega); omega)
def o_Fa_uniteAt_at_Netail_Nehead_Emblock_18 : or_T := (90, 26, [(0, (0, 0, 23, [])), (1, (0, 0, 16777215, [])), (2, (0, 1, 72, [])), (3, (2, 0, 0, [80])), (4, (2, 0, 0, [81])), (5, (2, 0, 0, [26])), (6, (2, 0, 0, [82])), (7, (0, 0, 25, [])), (8, (0, 0, 23, [])), (9, (0, 0, 16777215, [])), (10, (0, 1, 72, [])), (11, (2, 0, 0, [80])), (12, (2, 0, 0, [81])), (13, (2, 0, 0, [26])), (14, (0, -1, -1, [])), (15, (0, 0, 71, [])), (16, (0, 0, 23, [])), (17, (0, 0, 23, [])), (18, (0, 0, 16777215, [])), (19, (0, 1, 1, [])), (20, (0, 1, 1, [])), (22, (0, 0, 23, [])), (24, (0, -1, -1, [])), (25, (0, -1, 71, []))], [(10, [25, 13, 15], []), (7, [14, 24], [0]), (7, [22, 8], [1]), (10, [22, 12, 15], []), (8, [20], [1]), (12, [20, 18], [2]), (16, [20, 18, 19], [0]), (16, [18, 9, 17], [4]), (10, [17, 12, 15], []), (7, [16, 8], [0]), (10, [16, 11, 15], []), (7, [15, 10], [2]), (20, [13, 10], [61, 1, 566]), (20, [13, 11, 12, 10, 8, 14], [61, 3, 584]), (20, [13, 11, 12, 6, 7, 10, 8, 9, 14], [61, 4, 589]), (24, [0, 8], []), (24, [1, 9], []), (24, [2, 10], []), (24, [3, 11], []), (24, [4, 12], []), (24, [5, 13], [])], [(25, (0, 0, 71, []))], [], [], [], [(16, 8, 0, 0), (15, 10, -4294967296, -1), (0, 8, -4294967296, 0), (1, 9, -4294967296, 0), (2, 10, -4294967296, 0), (8, 0, -4294967296, 0), (9, 1, -4294967296, 0), (10, 2, -4294967296, 0), (15, 2, -4294967296, 0), (15, 10, -4294967296, 0)])
theorem oo_Fa_uniteAt_at_Netail_Nehead_Emblock_18 {kA : Nat → ClassId} : or_ok PRD kA GG o_Fa_uniteAt_at_Netail_Nehead_Emblock_18 := by
  refine or_mk fun A ta ws vs hD hth hl => ?_
  intro t0 k0 t1 k1 t2 k2 t3 r3 t4 r4 t5 r5 t6 r6 t7 k7 t8 k8 t9 k9 t10 k10 t11 r11 t12 r12 t13 r13 t14 k14 t15 k15 t16 k16 t17 k17 t18 k18 t19 k19 t20 k20 t22 k22 t24 k24 t25 k25 d0 d1 d2 d3 d4 d5 d6 d7 d8 d9 f0 f1 f2 f3 f4 f5 f6 f7 f8 f9 f10 f11 f12 f13 f14 f15 f16 f17 f18 f19 f20
  replace f0 := shm_107 f0
  replace f3 := shm_107 f3
  replace f8 := shm_107 f8
  replace f10 := shm_107 f10
  replace f11 := shm_6 f11
  replace f12 := shm_365 f12
  replace f17 := shm_5 f17
  replace f18 := shm_5 f18
  replace f19 := shm_5 f19
  replace f20 := shm_5 f20
  have q10 : n_v vs 10 = n_v vs 2 := f17.symm
  have q11 : n_v vs 11 = n_v vs 3 := f18.symm
  have q12 : n_v vs 12 = n_v vs 4 := f19.symm
  have q13 : n_v vs 13 = n_v vs 5 := f20.symm
  simp only [q13, q12, q11, q10] at f0 f3 f8 f10 f11 f12
  have h0 : v_iv (n_v vs 25) = w_ei ws (v_ad (n_v vs 5)) (v_iv (n_v vs 15)) := f0
  have h3 : v_iv (n_v vs 22) = w_ei ws (v_ad (n_v vs 4)) (v_iv (n_v vs 15)) := f3
  have h8 : v_iv (n_v vs 17) = w_ei ws (v_ad (n_v vs 4)) (v_iv (n_v vs 15)) := f8
  have h10 : v_iv (n_v vs 16) = w_ei ws (v_ad (n_v vs 3)) (v_iv (n_v vs 15)) := f10
  have hrf0 : 0 ≤ v_iv (n_v vs 25) ∧ v_iv (n_v vs 25) ≤ 71 := vc_Fa_uniteAt_at_Netail_Nehead_Emblock_18_r0 (v_iv (n_v vs 2)) (v_iv (n_v vs 15)) (v_iv (n_v vs 16)) (v_iv (n_v vs 17)) (v_iv (n_v vs 22)) (v_iv (n_v vs 25)) (w_ei ws (v_ad (n_v vs 5))) (w_ei ws (v_ad (n_v vs 4))) (w_ei ws (v_ad (n_v vs 3))) k2 k15 k16 k17 k22 k25 h0 h3 h8 h10 f11 f12
  have rf25 : tv_ok ta (0, 0, 71, []) (n_v vs 25) := tv_in t25 (by first | omega | grind) (by first | omega | grind)
  refine ⟨List.forall_mem_cons.mpr ⟨rf25, (fun _ h => (by cases h))⟩, [], trivial, ?_, (fun _ h => (by cases h))⟩
  rw [List.append_nil]
  exact (fun _ h => (by cases h))
set_option maxHeartbeats 4000000 in
theorem vc_Fa_uniteAt_at_Netail_Nehead_Emblock_19_0 (x0 : Int) (x2 : Int) (x8 : Int) (x14 : Int) (x15 : Int) (x16 : Int) (x25 : Int) (x26 : Int) (a5_0 : Int → Int) (a4_0 : Int → Int) (a3_0 : Int → Int) (k0 : 0 ≤ x0 ∧ x0 ≤ 23) (k2 : 1 ≤ x2 ∧ x2 ≤ 72) (k8 : 0 ≤ x8 ∧ x8 ≤ 23) (k14 : (-1) ≤ x14 ∧ x14 ≤ (-1)) (k15 : 0 ≤ x15 ∧ x15 ≤ 71) (k16 : 0 ≤ x16 ∧ x16 ≤ 23) (k25 : 0 ≤ x25 ∧ x25 ≤ 71) (k26 : 1 ≤ x26 ∧ x26 ≤ 72) (d0 : x15 + 1 ≤ x26 ∧ x26 ≤ x15 + 1) (d4 : x8 + 0 ≤ x16 ∧ x16 ≤ x8 + 0) (d6 : x8 + (-4294967296) ≤ x0 ∧ x0 ≤ x8 + 0) (d9 : x0 + (-4294967296) ≤ x8 ∧ x8 ≤ x0 + 0) (h1 : x25 = a5_0 (x15)) (h11 : x16 = a3_0 (x15)) (f12 : x15 < x2) (f14 : UNI (a5_0) (a3_0) (a4_0) (x2) (x0) (x14)) : UNI (a5_0) (a3_0) (a4_0) (x2) (x0) (x25) := by
  first
    | exact uni_first (e := x15) ‹UNI _ _ _ _ _ _› (by assumption) rfl (by omega) (by omega) (by first | exact Or.inl (by omega) | exact Or.inr (by omega))
set_option maxHeartbeats 4000000 in
theorem vc_Fa_uniteAt_at_Netail_Nehead_Emblock_19_1 (x0 : Int) (x1 : Int) (x2 : Int) (x7 : Int) (x8 : Int) (x14 : Int) (x15 : Int) (x16 : Int) (x17 : Int) (x18 : Int) (x19 : Int) (x20 : Int) (x22 : Int) (x24 : Int) (x25 : Int) (x26 : Int) (a5_0 : Int → Int) (a4_0 : Int → Int) (a3_0 : Int → Int) (a6_0 : Int → Int) (k0 : 0 ≤ x0 ∧ x0 ≤ 23) (k1 : 0 ≤ x1 ∧ x1 ≤ 16777215) (k2 : 1 ≤ x2 ∧ x2 ≤ 72) (k7 : 0 ≤ x7 ∧ x7 ≤ 25) (k8 : 0 ≤ x8 ∧ x8 ≤ 23) (k14 : (-1) ≤ x14 ∧ x14 ≤ (-1)) (k15 : 0 ≤ x15 ∧ x15 ≤ 71) (k16 : 0 ≤ x16 ∧ x16 ≤ 23) (k17 : 0 ≤ x17 ∧ x17 ≤ 23) (k18 : 0 ≤ x18 ∧ x18 ≤ 16777215) (k19 : 1 ≤ x19 ∧ x19 ≤ 1) (k20 : 1 ≤ x20 ∧ x20 ≤ 1) (k25 : 0 ≤ x25 ∧ x25 ≤ 71) (k26 : 1 ≤ x26 ∧ x26 ≤ 72) (d0 : x15 + 1 ≤ x26 ∧ x26 ≤ x15 + 1) (d4 : x8 + 0 ≤ x16 ∧ x16 ≤ x8 + 0) (d6 : x8 + (-4294967296) ≤ x0 ∧ x0 ≤ x8 + 0) (d9 : x0 + (-4294967296) ≤ x8 ∧ x8 ≤ x0 + 0) (h1 : x25 = a5_0 (x15)) (f7 : bvp (x20) = bvp (x18) &&& bvp (x19)) (f8 : bvp (x18) = bvp (x1) >>> (x17).toNat) (h9 : x17 = a4_0 (x15)) (h11 : x16 = a3_0 (x15)) (f12 : x15 < x2) (f15 : UN2 (a5_0) (a3_0) (a4_0) (a6_0) (x7) (x2) (x0) (x1) (x14)) : UN2 (a5_0) (a3_0) (a4_0) (a6_0) (x7) (x2) (x0) (x1) (x25) := by
  first
    | exact un2_first (e := x15) ‹UN2 _ _ _ _ _ _ _ _ _› (by assumption) rfl (by omega) (by omega) (by first | exact Or.inl ⟨by omega, by omega, by rw [← ‹x17 = a4_0 x15›]; exact (bit_one (s := x1) (t := x18) (c := x20) (v := x17) (one := x19) (by assumption) (by assumption) (by omega) (by omega) (by omega) (by omega)).mpr (by omega)⟩ | exact Or.inr ⟨by omega, by omega, by rw [← ‹x19 = a3_0 x15›]; exact (bit_one (s := x1) (t := x20) (c := x22) (v := x19) (one := x21) (by assumption) (by assumption) (by omega) (by omega) (by omega) (by omega)).mpr (by omega)⟩ | exact Or.inr ⟨by omega, by omega, by rw [← ‹x23 = a3_0 x15›]; exact (bit_one (s := x1) (t := x24) (c := x26) (v := x23) (one := x25) (by assumption) (by assumption) (by omega) (by omega) (by omega) (by omega)).mpr (by omega)⟩)
def o_Fa_uniteAt_at_Netail_Nehead_Emblock_19 : or_T := (6, 27, [(0, (0, 0, 23, [])), (1, (0, 0, 16777215, [])), (2, (0, 1, 72, [])), (3, (2, 0, 0, [80])), (4, (2, 0, 0, [81])), (5, (2, 0, 0, [26])), (6, (2, 0, 0, [82])), (7, (0, 0, 25, [])), (8, (0, 0, 23, [])), (9, (0, 0, 16777215, [])), (10, (0, 1, 72, [])), (11, (2, 0, 0, [80])), (12, (2, 0, 0, [81])), (13, (2, 0, 0, [26])), (14, (0, -1, -1, [])), (15, (0, 0, 71, [])), (16, (0, 0, 23, [])), (17, (0, 0, 23, [])), (18, (0, 0, 16777215, [])), (19, (0, 1, 1, [])), (20, (0, 1, 1, [])), (22, (0, 0, 23, [])), (24, (0, -1, -1, [])), (25, (0, 0, 71, [])), (26, (0, 1, 72, []))], [(6, [26, 15], [1]), (10, [25, 13, 15], []), (7, [14, 24], [0]), (7, [22, 8], [1]), (10, [22, 12, 15], []), (8, [20], [1]), (12, [20, 18], [2]), (16, [20, 18, 19], [0]), (16, [18, 9, 17], [4]), (10, [17, 12, 15], []), (7, [16, 8], [0]), (10, [16, 11, 15], []), (7, [15, 10], [2]), (20, [13, 10], [61, 1, 566]), (20, [13, 11, 12, 10, 8, 14], [61, 3, 584]), (20, [13, 11, 12, 6, 7, 10, 8, 9, 14], [61, 4, 589]), (24, [0, 8], []), (24, [1, 9], []), (24, [2, 10], []), (24, [3, 11], []), (24, [4, 12], []), (24, [5, 13], [])], [], [], [(20, [13, 11, 12, 10, 8, 25], [61, 3, 584]), (20, [13, 11, 12, 6, 7, 10, 8, 9, 25], [61, 4, 589])], [], [(26, 15, 1, 1), (26, 10, -4294967296, 0), (26, 2, -4294967296, 1), (26, 10, -4294967296, 1), (16, 8, 0, 0), (15, 10, -4294967296, -1), (0, 8, -4294967296, 0), (1, 9, -4294967296, 0), (2, 10, -4294967296, 0), (8, 0, -4294967296, 0), (9, 1, -4294967296, 0), (10, 2, -4294967296, 0), (15, 2, -4294967296, 0), (15, 10, -4294967296, 0)])
theorem oo_Fa_uniteAt_at_Netail_Nehead_Emblock_19 {kA : Nat → ClassId} : or_ok PRD kA GG o_Fa_uniteAt_at_Netail_Nehead_Emblock_19 := by
  refine or_mk fun A ta ws vs hD hth hl => ?_
  intro t0 k0 t1 k1 t2 k2 t3 r3 t4 r4 t5 r5 t6 r6 t7 k7 t8 k8 t9 k9 t10 k10 t11 r11 t12 r12 t13 r13 t14 k14 t15 k15 t16 k16 t17 k17 t18 k18 t19 k19 t20 k20 t22 k22 t24 k24 t25 k25 t26 k26 d0 d1 d2 d3 d4 d5 d6 d7 d8 d9 d10 d11 d12 d13 f0 f1 f2 f3 f4 f5 f6 f7 f8 f9 f10 f11 f12 f13 f14 f15 f16 f17 f18 f19 f20 f21
  replace f1 := shm_107 f1
  replace f7 := shm_11 f7
  replace f8 := shm_13 f8
  replace f9 := shm_107 f9
  replace f11 := shm_107 f11
  replace f12 := shm_6 f12
  replace f14 := shm_1193 f14
  replace f15 := shm_1194 f15
  replace f16 := shm_5 f16
  replace f17 := shm_5 f17
  replace f18 := shm_5 f18
  replace f19 := shm_5 f19
  replace f20 := shm_5 f20
  replace f21 := shm_5 f21
  have q8 : n_v vs 8 = n_v vs 0 := f16.symm
  have q9 : n_v vs 9 = n_v vs 1 := f17.symm
  have q10 : n_v vs 10 = n_v vs 2 := f18.symm
  have q11 : n_v vs 11 = n_v vs 3 := f19.symm
  have q12 : n_v vs 12 = n_v vs 4 := f20.symm
  have q13 : n_v vs 13 = n_v vs 5 := f21.symm
  simp only [q13, q8, q12, q9, q11, q10] at f1 f8 f9 f11 f12 f14 f15
  have h1 : v_iv (n_v vs 25) = w_ei ws (v_ad (n_v vs 5)) (v_iv (n_v vs 15)) := f1
  have h9 : v_iv (n_v vs 17) = w_ei ws (v_ad (n_v vs 4)) (v_iv (n_v vs 15)) := f9
  have h11 : v_iv (n_v vs 16) = w_ei ws (v_ad (n_v vs 3)) (v_iv (n_v vs 15)) := f11
  have nf0 : fc_1 PRD (20, [13, 11, 12, 10, 8, 25], [61, 3, 584]) ws (vs) := by
    refine ⟨nf_in hl rfl, sgq_1193 ?_⟩
    · show UNI (w_ei ws (v_ad (n_v vs 13))) (w_ei ws (v_ad (n_v vs 11))) (w_ei ws (v_ad (n_v vs 12))) (v_iv (n_v vs 10)) (v_iv (n_v vs 8)) (v_iv (n_v vs 25))
      simp only [q8, q10, q11, q12, q13]
      exact vc_Fa_uniteAt_at_Netail_Nehead_Emblock_19_0 (v_iv (n_v vs 0)) (v_iv (n_v vs 2)) (v_iv (n_v vs 8)) (v_iv (n_v vs 14)) (v_iv (n_v vs 15)) (v_iv (n_v vs 16)) (v_iv (n_v vs 25)) (v_iv (n_v vs 26)) (w_ei ws (v_ad (n_v vs 5))) (w_ei ws (v_ad (n_v vs 4))) (w_ei ws (v_ad (n_v vs 3))) k0 k2 k8 k14 k15 k16 k25 k26 d0 d4 d6 d9 h1 h11 f12 f14
  have nf1 : fc_1 PRD (20, [13, 11, 12, 6, 7, 10, 8, 9, 25], [61, 4, 589]) ws (vs) := by
    refine ⟨nf_in hl rfl, sgq_1194 ?_⟩
    · show UN2 (w_ei ws (v_ad (n_v vs 13))) (w_ei ws (v_ad (n_v vs 11))) (w_ei ws (v_ad (n_v vs 12))) (w_ei ws (v_ad (n_v vs 6))) (v_iv (n_v vs 7)) (v_iv (n_v vs 10)) (v_iv (n_v vs 8)) (v_iv (n_v vs 9)) (v_iv (n_v vs 25))
      simp only [q8, q9, q10, q11, q12, q13]
      exact vc_Fa_uniteAt_at_Netail_Nehead_Emblock_19_1 (v_iv (n_v vs 0)) (v_iv (n_v vs 1)) (v_iv (n_v vs 2)) (v_iv (n_v vs 7)) (v_iv (n_v vs 8)) (v_iv (n_v vs 14)) (v_iv (n_v vs 15)) (v_iv (n_v vs 16)) (v_iv (n_v vs 17)) (v_iv (n_v vs 18)) (v_iv (n_v vs 19)) (v_iv (n_v vs 20)) (v_iv (n_v vs 22)) (v_iv (n_v vs 24)) (v_iv (n_v vs 25)) (v_iv (n_v vs 26)) (w_ei ws (v_ad (n_v vs 5))) (w_ei ws (v_ad (n_v vs 4))) (w_ei ws (v_ad (n_v vs 3))) (w_ei ws (v_ad (n_v vs 6))) k0 k1 k2 k7 k8 k14 k15 k16 k17 k18 k19 k20 k25 k26 d0 d4 d6 d9 h1 f7 f8 h9 h11 f12 f15
  refine ⟨(fun _ h => (by cases h)), [], trivial, ?_, (fun _ h => (by cases h))⟩
  rw [List.append_nil]
  exact List.forall_mem_cons.mpr ⟨⟨show (20 : Nat) < 100 from by decide, nf0⟩, List.forall_mem_cons.mpr ⟨⟨show (20 : Nat) < 100 from by decide, nf1⟩, (fun _ h => (by cases h))⟩⟩
set_option maxHeartbeats 4000000 in
theorem vc_Fa_uniteAt_at_Netail_Nehead_Emblock_20_r0 (x2 : Int) (x15 : Int) (x16 : Int) (x17 : Int) (x22 : Int) (x23 : Int) (x29 : Int) (x30 : Int) (a5_0 : Int → Int) (a3_0 : Int → Int) (a4_0 : Int → Int) (k2 : 1 ≤ x2 ∧ x2 ≤ 72) (k15 : 0 ≤ x15 ∧ x15 ≤ 71) (k16 : 0 ≤ x16 ∧ x16 ≤ 23) (k17 : 0 ≤ x17 ∧ x17 ≤ 23) (k22 : 0 ≤ x22 ∧ x22 ≤ 23) (k23 : 0 ≤ x23 ∧ x23 ≤ 23) (k29 : (-1) ≤ x29 ∧ x29 ≤ 71) (k30 : (-1) ≤ x30 ∧ x30 ≤ 71) (h0 : x30 = a5_0 (x15)) (h2 : x29 = a5_0 (x15)) (h8 : x23 = a3_0 (x15)) (h10 : x22 = a4_0 (x15)) (h15 : x17 = a4_0 (x15)) (h17 : x16 = a3_0 (x15)) (f18 : x15 < x2) (f19 : BLQ (a5_0) (x2)) : 0 ≤ x30 ∧ x30 ≤ 71 := by
  first
    | omega
    | (skip; (first | subst h0 | skip); (first | subst h2 | skip); (first | subst h8 | skip); (first | subst h10 | skip); (first | subst h15 | skip); (first | subst h17 | skip); have q := ‹BLQ _ _› x15 (by omega) (by omega); omega)
def o_Fa_uniteAt_at_Netail_Nehead_Emblock_20 : or_T := (112, 31, [(0, (0, 0, 23, [])), (1, (0, 0, 16777215, [])), (2, (0, 1, 72, [])), (3, (2, 0, 0, [80])), (4, (2, 0, 0, [81])), (5, (2, 0, 0, [26])), (6, (2, 0, 0, [82])), (7, (0, 0, 25, [])), (8, (0, 0, 23, [])), (9, (0, 0, 16777215, [])), (10, (0, 1, 72, [])), (11, (2, 0, 0, [80])), (12, (2, 0, 0, [81])), (13, (2, 0, 0, [26])), (14, (0, 0, 71, [])), (15, (0, 0, 71, [])), (16, (0, 0, 23, [])), (17, (0, 0, 23, [])), (18, (0, 0, 16777215, [])), (19, (0, 1, 1, [])), (20, (0, 1, 1, [])), (22, (0, 0, 23, [])), (23, (0, 0, 23, [])), (24, (0, 0, 16777215, [])), (25, (0, 1, 1, [])), (26, (0, 0, 0, [])), (28, (0, -1, -1, [])), (29, (0, -1, 71, [])), (30, (0, -1, 71, []))], [(10, [30, 13, 15], []), (7, [29, 14], [1]), (10, [29, 13, 15], []), (7, [14, 28], [1]), (8, [26], [0]), (12, [26, 24], [2]), (16, [26, 24, 25], [0]), (16, [24, 9, 23], [4]), (10, [23, 11, 15], []), (7, [22, 8], [0]), (10, [22, 12, 15], []), (8, [20], [1]), (12, [20, 18], [2]), (16, [20, 18, 19], [0]), (16, [18, 9, 17], [4]), (10, [17, 12, 15], []), (7, [16, 8], [0]), (10, [16, 11, 15], []), (7, [15, 10], [2]), (20, [13, 10], [61, 1, 566]), (20, [13, 11, 12, 10, 8, 14], [61, 3, 584]), (20, [13, 11, 12, 6, 7, 10, 8, 9, 14], [61, 4, 589]), (24, [0, 8], []), (24, [1, 9], []), (24, [2, 10], []), (24, [3, 11], []), (24, [4, 12], []), (24, [5, 13], [])], [(30, (0, 0, 71, []))], [], [], [], [(22, 8, 0, 0), (16, 8, 0, 0), (15, 10, -4294967296, -1), (0, 8, -4294967296, 0), (1, 9, -4294967296, 0), (2, 10, -4294967296, 0), (8, 0, -4294967296, 0), (9, 1, -4294967296, 0), (10, 2, -4294967296, 0), (14, 15, -4294967296, 70), (15, 2, -4294967296, 0), (15, 10, -4294967296, 0)])
theorem oo_Fa_uniteAt_at_Netail_Nehead_Emblock_20 {kA : Nat → ClassId} : or_ok PRD kA GG o_Fa_uniteAt_at_Netail_Nehead_Emblock_20 := by
  refine or_mk fun A ta ws vs hD hth hl => ?_
  intro t0 k0 t1 k1 t2 k2 t3 r3 t4 r4 t5 r5 t6 r6 t7 k7 t8 k8 t9 k9 t10 k10 t11 r11 t12 r12 t13 r13 t14 k14 t15 k15 t16 k16 t17 k17 t18 k18 t19 k19 t20 k20 t22 k22 t23 k23 t24 k24 t25 k25 t26 k26 t28 k28 t29 k29 t30 k30 d0 d1 d2 d3 d4 d5 d6 d7 d8 d9 d10 d11 f0 f1 f2 f3 f4 f5 f6 f7 f8 f9 f10 f11 f12 f13 f14 f15 f16 f17 f18 f19 f20 f21 f22 f23 f24 f25 f26 f27
  replace f0 := shm_107 f0
  replace f2 := shm_107 f2
  replace f8 := shm_107 f8
  replace f10 := shm_107 f10
  replace f15 := shm_107 f15
  replace f17 := shm_107 f17
  replace f18 := shm_6 f18
  replace f19 := shm_365 f19
  replace f24 := shm_5 f24
  replace f25 := shm_5 f25
  replace f26 := shm_5 f26
  replace f27 := shm_5 f27
  have q10 : n_v vs 10 = n_v vs 2 := f24.symm
  have q11 : n_v vs 11 = n_v vs 3 := f25.symm
  have q12 : n_v vs 12 = n_v vs 4 := f26.symm
  have q13 : n_v vs 13 = n_v vs 5 := f27.symm
  simp only [q13, q11, q12, q10] at f0 f2 f8 f10 f15 f17 f18 f19
  have h0 : v_iv (n_v vs 30) = w_ei ws (v_ad (n_v vs 5)) (v_iv (n_v vs 15)) := f0
  have h2 : v_iv (n_v vs 29) = w_ei ws (v_ad (n_v vs 5)) (v_iv (n_v vs 15)) := f2
  have h8 : v_iv (n_v vs 23) = w_ei ws (v_ad (n_v vs 3)) (v_iv (n_v vs 15)) := f8
  have h10 : v_iv (n_v vs 22) = w_ei ws (v_ad (n_v vs 4)) (v_iv (n_v vs 15)) := f10
  have h15 : v_iv (n_v vs 17) = w_ei ws (v_ad (n_v vs 4)) (v_iv (n_v vs 15)) := f15
  have h17 : v_iv (n_v vs 16) = w_ei ws (v_ad (n_v vs 3)) (v_iv (n_v vs 15)) := f17
  have hrf0 : 0 ≤ v_iv (n_v vs 30) ∧ v_iv (n_v vs 30) ≤ 71 := vc_Fa_uniteAt_at_Netail_Nehead_Emblock_20_r0 (v_iv (n_v vs 2)) (v_iv (n_v vs 15)) (v_iv (n_v vs 16)) (v_iv (n_v vs 17)) (v_iv (n_v vs 22)) (v_iv (n_v vs 23)) (v_iv (n_v vs 29)) (v_iv (n_v vs 30)) (w_ei ws (v_ad (n_v vs 5))) (w_ei ws (v_ad (n_v vs 3))) (w_ei ws (v_ad (n_v vs 4))) k2 k15 k16 k17 k22 k23 k29 k30 h0 h2 h8 h10 h15 h17 f18 f19
  have rf30 : tv_ok ta (0, 0, 71, []) (n_v vs 30) := tv_in t30 (by first | omega | grind) (by first | omega | grind)
  refine ⟨List.forall_mem_cons.mpr ⟨rf30, (fun _ h => (by cases h))⟩, [], trivial, ?_, (fun _ h => (by cases h))⟩
  rw [List.append_nil]
  exact (fun _ h => (by cases h))
set_option maxHeartbeats 4000000 in
theorem vc_Fa_uniteAt_at_Netail_Nehead_Emblock_21_r0 (x15 : Int) (x16 : Int) (x17 : Int) (x22 : Int) (x23 : Int) (x29 : Int) (x30 : Int) (x32 : Int) (a5_0 : Int → Int) (a3_0 : Int → Int) (a4_0 : Int → Int) (k15 : 0 ≤ x15 ∧ x15 ≤ 71) (k16 : 0 ≤ x16 ∧ x16 ≤ 23) (k17 : 0 ≤ x17 ∧ x17 ≤ 23) (k22 : 0 ≤ x22 ∧ x22 ≤ 23) (k23 : 0 ≤ x23 ∧ x23 ≤ 23) (k29 : (-1) ≤ x29 ∧ x29 ≤ 71) (k30 : 0 ≤ x30 ∧ x30 ≤ 71) (k32 : (-1) ≤ x32 ∧ x32 ≤ 71) (h0 : x32 = a5_0 (x15)) (h4 : x30 = a5_0 (x15)) (h6 : x29 = a5_0 (x15)) (h12 : x23 = a3_0 (x15)) (h14 : x22 = a4_0 (x15)) (h19 : x17 = a4_0 (x15)) (h21 : x16 = a3_0 (x15)) : 0 ≤ x32 ∧ x32 ≤ 71 := by
  first
    | omega
    | (skip; (first | subst h0 | skip); (first | subst h4 | skip); (first | subst h6 | skip); (first | subst h12 | skip); (first | subst h14 | skip); (first | subst h19 | skip); (first | subst h21 | skip); have q := ‹BLQ _ _› x15 (by omega) (by omega); omega)
def o_Fa_uniteAt_at_Netail_Nehead_Emblock_21 : or_T := (124, 33, [(0, (0, 0, 23, [])), (1, (0, 0, 16777215, [])), (2, (0, 1, 72, [])), (3, (2, 0, 0, [80])), (4, (2, 0, 0, [81])), (5, (2, 0, 0, [26])), (6, (2, 0, 0, [82])), (7, (0, 0, 25, [])), (8, (0, 0, 23, [])), (9, (0, 0, 16777215, [])), (10, (0, 1, 72, [])), (11, (2, 0, 0, [80])), (12, (2, 0, 0, [81])), (13, (2, 0, 0, [26])), (14, (0, 0, 71, [])), (15, (0, 0, 71, [])), (16, (0, 0, 23, [])), (17, (0, 0, 23, [])), (18, (0, 0, 16777215, [])), (19, (0, 1, 1, [])), (20, (0, 1, 1, [])), (22, (0, 0, 23, [])), (23, (0, 0, 23, [])), (24, (0, 0, 16777215, [])), (25, (0, 1, 1, [])), (26, (0, 0, 0, [])), (28, (0, -1, -1, [])), (29, (0, -1, 71, [])), (30, (0, 0, 71, [])), (31, (0, 0, 71, [])), (32, (0, -1, 71, []))], [(10, [32, 13, 15], []), (23, [14, 31], [0, 1, -1]), (23, [30, 31], [0, 1, -1]), (20, [31, 14, 30], [50, 0, 0, 3, 6, 1, 2, 1, 0, 1, 1, 1, 2, 1, 0, 1, 2]), (10, [30, 13, 15], []), (7, [29, 14], [1]), (10, [29, 13, 15], []), (7, [14, 28], [1]), (8, [26], [0]), (12, [26, 24], [2]), (16, [26, 24, 25], [0]), (16, [24, 9, 23], [4]), (10, [23, 11, 15], []), (7, [22, 8], [0]), (10, [22, 12, 15], []), (8, [20], [1]), (12, [20, 18], [2]), (16, [20, 18, 19], [0]), (16, [18, 9, 17], [4]), (10, [17, 12, 15], []), (7, [16, 8], [0]), (10, [16, 11, 15], []), (7, [15, 10], [2]), (20, [13, 10], [61, 1, 566]), (20, [13, 11, 12, 10, 8, 14], [61, 3, 584]), (20, [13, 11, 12, 6, 7, 10, 8, 9, 14], [61, 4, 589]), (24, [0, 8], []), (24, [1, 9], []), (24, [2, 10], []), (24, [3, 11], []), (24, [4, 12], []), (24, [5, 13], [])], [(32, (0, 0, 71, []))], [], [], [], [(22, 8, 0, 0), (16, 8, 0, 0), (15, 10, -4294967296, -1), (0, 8, -4294967296, 0), (1, 9, -4294967296, 0), (2, 10, -4294967296, 0), (8, 0, -4294967296, 0), (9, 1, -4294967296, 0), (10, 2, -4294967296, 0), (14, 15, -4294967296, 70), (15, 2, -4294967296, 0), (15, 10, -4294967296, 0)])
theorem oo_Fa_uniteAt_at_Netail_Nehead_Emblock_21 {kA : Nat → ClassId} : or_ok PRD kA GG o_Fa_uniteAt_at_Netail_Nehead_Emblock_21 := by
  refine or_mk fun A ta ws vs hD hth hl => ?_
  intro t0 k0 t1 k1 t2 k2 t3 r3 t4 r4 t5 r5 t6 r6 t7 k7 t8 k8 t9 k9 t10 k10 t11 r11 t12 r12 t13 r13 t14 k14 t15 k15 t16 k16 t17 k17 t18 k18 t19 k19 t20 k20 t22 k22 t23 k23 t24 k24 t25 k25 t26 k26 t28 k28 t29 k29 t30 k30 t31 k31 t32 k32 d0 d1 d2 d3 d4 d5 d6 d7 d8 d9 d10 d11 f0 f1 f2 f3 f4 f5 f6 f7 f8 f9 f10 f11 f12 f13 f14 f15 f16 f17 f18 f19 f20 f21 f22 f23 f24 f25 f26 f27 f28 f29 f30 f31
  replace f0 := shm_107 f0
  replace f4 := shm_107 f4
  replace f6 := shm_107 f6
  replace f12 := shm_107 f12
  replace f14 := shm_107 f14
  replace f19 := shm_107 f19
  replace f21 := shm_107 f21
  replace f29 := shm_5 f29
  replace f30 := shm_5 f30
  replace f31 := shm_5 f31
  have q11 : n_v vs 11 = n_v vs 3 := f29.symm
  have q12 : n_v vs 12 = n_v vs 4 := f30.symm
  have q13 : n_v vs 13 = n_v vs 5 := f31.symm
  simp only [q13, q11, q12] at f0 f4 f6 f12 f14 f19 f21
  have h0 : v_iv (n_v vs 32) = w_ei ws (v_ad (n_v vs 5)) (v_iv (n_v vs 15)) := f0
  have h4 : v_iv (n_v vs 30) = w_ei ws (v_ad (n_v vs 5)) (v_iv (n_v vs 15)) := f4
  have h6 : v_iv (n_v vs 29) = w_ei ws (v_ad (n_v vs 5)) (v_iv (n_v vs 15)) := f6
  have h12 : v_iv (n_v vs 23) = w_ei ws (v_ad (n_v vs 3)) (v_iv (n_v vs 15)) := f12
  have h14 : v_iv (n_v vs 22) = w_ei ws (v_ad (n_v vs 4)) (v_iv (n_v vs 15)) := f14
  have h19 : v_iv (n_v vs 17) = w_ei ws (v_ad (n_v vs 4)) (v_iv (n_v vs 15)) := f19
  have h21 : v_iv (n_v vs 16) = w_ei ws (v_ad (n_v vs 3)) (v_iv (n_v vs 15)) := f21
  have hrf0 : 0 ≤ v_iv (n_v vs 32) ∧ v_iv (n_v vs 32) ≤ 71 := vc_Fa_uniteAt_at_Netail_Nehead_Emblock_21_r0 (v_iv (n_v vs 15)) (v_iv (n_v vs 16)) (v_iv (n_v vs 17)) (v_iv (n_v vs 22)) (v_iv (n_v vs 23)) (v_iv (n_v vs 29)) (v_iv (n_v vs 30)) (v_iv (n_v vs 32)) (w_ei ws (v_ad (n_v vs 5))) (w_ei ws (v_ad (n_v vs 3))) (w_ei ws (v_ad (n_v vs 4))) k15 k16 k17 k22 k23 k29 k30 k32 h0 h4 h6 h12 h14 h19 h21
  have rf32 : tv_ok ta (0, 0, 71, []) (n_v vs 32) := tv_in t32 (by first | omega | grind) (by first | omega | grind)
  refine ⟨List.forall_mem_cons.mpr ⟨rf32, (fun _ h => (by cases h))⟩, [], trivial, ?_, (fun _ h => (by cases h))⟩
  rw [List.append_nil]
  exact (fun _ h => (by cases h))
set_option maxHeartbeats 4000000 in
theorem vc_Fa_uniteAt_at_Netail_Nehead_Emblock_22_2 (x0 : Int) (x8 : Int) (x15 : Int) (x16 : Int) (x17 : Int) (x22 : Int) (x23 : Int) (x29 : Int) (x30 : Int) (x32 : Int) (a5_0 : Int → Int) (a3_0 : Int → Int) (a4_0 : Int → Int) (gu : Int) (k0 : 0 ≤ x0 ∧ x0 ≤ 23) (k8 : 0 ≤ x8 ∧ x8 ≤ 23) (k15 : 0 ≤ x15 ∧ x15 ≤ 71) (k16 : 0 ≤ x16 ∧ x16 ≤ 23) (k17 : 0 ≤ x17 ∧ x17 ≤ 23) (k22 : 0 ≤ x22 ∧ x22 ≤ 23) (k23 : 0 ≤ x23 ∧ x23 ≤ 23) (k29 : (-1) ≤ x29 ∧ x29 ≤ 71) (k30 : 0 ≤ x30 ∧ x30 ≤ 71) (k32 : 0 ≤ x32 ∧ x32 ≤ 71) (d0 : x8 + 0 ≤ x22 ∧ x22 ≤ x8 + 0) (d3 : x8 + (-4294967296) ≤ x0 ∧ x0 ≤ x8 + 0) (d6 : x0 + (-4294967296) ≤ x8 ∧ x8 ≤ x0 + 0) (h3 : x32 = a5_0 (x15)) (h7 : x30 = a5_0 (x15)) (h9 : x29 = a5_0 (x15)) (h15 : x23 = a3_0 (x15)) (h17 : x22 = a4_0 (x15)) (h22 : x17 = a4_0 (x15)) (h24 : x16 = a3_0 (x15)) (eu2 : gu = x0) : 1 * gu + ((-1) * x0 + 0) ≤ 0 := by
  first
    | omega
    | (skip; (first | subst h3 | skip); (first | subst h7 | skip); (first | subst h9 | skip); (first | subst h15 | skip); (first | subst h17 | skip); (first | subst h22 | skip); (first | subst h24 | skip); have q := ‹BLQ _ _› x15 (by omega) (by omega); omega)
set_option maxHeartbeats 4000000 in
theorem vc_Fa_uniteAt_at_Netail_Nehead_Emblock_22_3 (x0 : Int) (x8 : Int) (x15 : Int) (x16 : Int) (x17 : Int) (x22 : Int) (x23 : Int) (x29 : Int) (x30 : Int) (x32 : Int) (a5_0 : Int → Int) (a3_0 : Int → Int) (a4_0 : Int → Int) (gu : Int) (k0 : 0 ≤ x0 ∧ x0 ≤ 23) (k8 : 0 ≤ x8 ∧ x8 ≤ 23) (k15 : 0 ≤ x15 ∧ x15 ≤ 71) (k16 : 0 ≤ x16 ∧ x16 ≤ 23) (k17 : 0 ≤ x17 ∧ x17 ≤ 23) (k22 : 0 ≤ x22 ∧ x22 ≤ 23) (k23 : 0 ≤ x23 ∧ x23 ≤ 23) (k29 : (-1) ≤ x29 ∧ x29 ≤ 71) (k30 : 0 ≤ x30 ∧ x30 ≤ 71) (k32 : 0 ≤ x32 ∧ x32 ≤ 71) (d0 : x8 + 0 ≤ x22 ∧ x22 ≤ x8 + 0) (d3 : x8 + (-4294967296) ≤ x0 ∧ x0 ≤ x8 + 0) (d6 : x0 + (-4294967296) ≤ x8 ∧ x8 ≤ x0 + 0) (h3 : x32 = a5_0 (x15)) (h7 : x30 = a5_0 (x15)) (h9 : x29 = a5_0 (x15)) (h15 : x23 = a3_0 (x15)) (h17 : x22 = a4_0 (x15)) (h22 : x17 = a4_0 (x15)) (h24 : x16 = a3_0 (x15)) (eu2 : gu = x0) : (-1) * gu + (1 * x0 + 0) ≤ 0 := by
  first
    | omega
    | (skip; (first | subst h3 | skip); (first | subst h7 | skip); (first | subst h9 | skip); (first | subst h15 | skip); (first | subst h17 | skip); (first | subst h22 | skip); (first | subst h24 | skip); have q := ‹BLQ _ _› x15 (by omega) (by omega); omega)
set_option maxHeartbeats 4000000 in
theorem vc_Fa_uniteAt_at_Netail_Nehead_Emblock_22_5 (x7 : Int) (x15 : Int) (x16 : Int) (x17 : Int) (x22 : Int) (x23 : Int) (x29 : Int) (x30 : Int) (x32 : Int) (a5_0 : Int → Int) (a3_0 : Int → Int) (a4_0 : Int → Int) (gc : Int) (k7 : 0 ≤ x7 ∧ x7 ≤ 25) (k15 : 0 ≤ x15 ∧ x15 ≤ 71) (k16 : 0 ≤ x16 ∧ x16 ≤ 23) (k17 : 0 ≤ x17 ∧ x17 ≤ 23) (k22 : 0 ≤ x22 ∧ x22 ≤ 23) (k23 : 0 ≤ x23 ∧ x23 ≤ 23) (k29 : (-1) ≤ x29 ∧ x29 ≤ 71) (k30 : 0 ≤ x30 ∧ x30 ≤ 71) (k32 : 0 ≤ x32 ∧ x32 ≤ 71) (h3 : x32 = a5_0 (x15)) (h7 : x30 = a5_0 (x15)) (h9 : x29 = a5_0 (x15)) (h15 : x23 = a3_0 (x15)) (h17 : x22 = a4_0 (x15)) (h22 : x17 = a4_0 (x15)) (h24 : x16 = a3_0 (x15)) (ec2 : gc = x7) : 1 * gc + ((-1) * x7 + 0) ≤ 0 := by
  first
    | omega
    | (skip; (first | subst h3 | skip); (first | subst h7 | skip); (first | subst h9 | skip); (first | subst h15 | skip); (first | subst h17 | skip); (first | subst h22 | skip); (first | subst h24 | skip); have q := ‹BLQ _ _› x15 (by omega) (by omega); omega)
set_option maxHeartbeats 4000000 in
theorem vc_Fa_uniteAt_at_Netail_Nehead_Emblock_22_6 (x7 : Int) (x15 : Int) (x16 : Int) (x17 : Int) (x22 : Int) (x23 : Int) (x29 : Int) (x30 : Int) (x32 : Int) (a5_0 : Int → Int) (a3_0 : Int → Int) (a4_0 : Int → Int) (gc : Int) (k7 : 0 ≤ x7 ∧ x7 ≤ 25) (k15 : 0 ≤ x15 ∧ x15 ≤ 71) (k16 : 0 ≤ x16 ∧ x16 ≤ 23) (k17 : 0 ≤ x17 ∧ x17 ≤ 23) (k22 : 0 ≤ x22 ∧ x22 ≤ 23) (k23 : 0 ≤ x23 ∧ x23 ≤ 23) (k29 : (-1) ≤ x29 ∧ x29 ≤ 71) (k30 : 0 ≤ x30 ∧ x30 ≤ 71) (k32 : 0 ≤ x32 ∧ x32 ≤ 71) (h3 : x32 = a5_0 (x15)) (h7 : x30 = a5_0 (x15)) (h9 : x29 = a5_0 (x15)) (h15 : x23 = a3_0 (x15)) (h17 : x22 = a4_0 (x15)) (h22 : x17 = a4_0 (x15)) (h24 : x16 = a3_0 (x15)) (ec2 : gc = x7) : (-1) * gc + (1 * x7 + 0) ≤ 0 := by
  first
    | omega
    | (skip; (first | subst h3 | skip); (first | subst h7 | skip); (first | subst h9 | skip); (first | subst h15 | skip); (first | subst h17 | skip); (first | subst h22 | skip); (first | subst h24 | skip); have q := ‹BLQ _ _› x15 (by omega) (by omega); omega)
set_option maxHeartbeats 4000000 in
theorem vc_Fa_uniteAt_at_Netail_Nehead_Emblock_22_7 (x1 : Int) (x9 : Int) (x15 : Int) (x16 : Int) (x17 : Int) (x22 : Int) (x23 : Int) (x29 : Int) (x30 : Int) (x32 : Int) (a5_0 : Int → Int) (a3_0 : Int → Int) (a4_0 : Int → Int) (gd : Int) (k1 : 0 ≤ x1 ∧ x1 ≤ 16777215) (k9 : 0 ≤ x9 ∧ x9 ≤ 16777215) (k15 : 0 ≤ x15 ∧ x15 ≤ 71) (k16 : 0 ≤ x16 ∧ x16 ≤ 23) (k17 : 0 ≤ x17 ∧ x17 ≤ 23) (k22 : 0 ≤ x22 ∧ x22 ≤ 23) (k23 : 0 ≤ x23 ∧ x23 ≤ 23) (k29 : (-1) ≤ x29 ∧ x29 ≤ 71) (k30 : 0 ≤ x30 ∧ x30 ≤ 71) (k32 : 0 ≤ x32 ∧ x32 ≤ 71) (d4 : x9 + (-4294967296) ≤ x1 ∧ x1 ≤ x9 + 0) (d7 : x1 + (-4294967296) ≤ x9 ∧ x9 ≤ x1 + 0) (h3 : x32 = a5_0 (x15)) (h7 : x30 = a5_0 (x15)) (h9 : x29 = a5_0 (x15)) (h15 : x23 = a3_0 (x15)) (h17 : x22 = a4_0 (x15)) (h22 : x17 = a4_0 (x15)) (h24 : x16 = a3_0 (x15)) (ed2 : gd = x1) : 1 * gd + ((-1) * x1 + 0) ≤ 0 := by
  first
    | omega
    | (skip; (first | subst h3 | skip); (first | subst h7 | skip); (first | subst h9 | skip); (first | subst h15 | skip); (first | subst h17 | skip); (first | subst h22 | skip); (first | subst h24 | skip); have q := ‹BLQ _ _› x15 (by omega) (by omega); omega)
set_option maxHeartbeats 4000000 in
theorem vc_Fa_uniteAt_at_Netail_Nehead_Emblock_22_8 (x1 : Int) (x9 : Int) (x15 : Int) (x16 : Int) (x17 : Int) (x22 : Int) (x23 : Int) (x29 : Int) (x30 : Int) (x32 : Int) (a5_0 : Int → Int) (a3_0 : Int → Int) (a4_0 : Int → Int) (gd : Int) (k1 : 0 ≤ x1 ∧ x1 ≤ 16777215) (k9 : 0 ≤ x9 ∧ x9 ≤ 16777215) (k15 : 0 ≤ x15 ∧ x15 ≤ 71) (k16 : 0 ≤ x16 ∧ x16 ≤ 23) (k17 : 0 ≤ x17 ∧ x17 ≤ 23) (k22 : 0 ≤ x22 ∧ x22 ≤ 23) (k23 : 0 ≤ x23 ∧ x23 ≤ 23) (k29 : (-1) ≤ x29 ∧ x29 ≤ 71) (k30 : 0 ≤ x30 ∧ x30 ≤ 71) (k32 : 0 ≤ x32 ∧ x32 ≤ 71) (d4 : x9 + (-4294967296) ≤ x1 ∧ x1 ≤ x9 + 0) (d7 : x1 + (-4294967296) ≤ x9 ∧ x9 ≤ x1 + 0) (h3 : x32 = a5_0 (x15)) (h7 : x30 = a5_0 (x15)) (h9 : x29 = a5_0 (x15)) (h15 : x23 = a3_0 (x15)) (h17 : x22 = a4_0 (x15)) (h22 : x17 = a4_0 (x15)) (h24 : x16 = a3_0 (x15)) (ed2 : gd = x1) : (-1) * gd + (1 * x1 + 0) ≤ 0 := by
  first
    | omega
    | (skip; (first | subst h3 | skip); (first | subst h7 | skip); (first | subst h9 | skip); (first | subst h15 | skip); (first | subst h17 | skip); (first | subst h22 | skip); (first | subst h24 | skip); have q := ‹BLQ _ _› x15 (by omega) (by omega); omega)
set_option maxHeartbeats 4000000 in
theorem vc_Fa_uniteAt_at_Netail_Nehead_Emblock_22_9 (x2 : Int) (a5_0 : Int → Int) (k2 : 1 ≤ x2 ∧ x2 ≤ 72) (f26 : BLQ (a5_0) (x2)) : BLQ (a5_0) (x2) := by
  first
    | assumption
  
set_option maxHeartbeats 4000000 in
theorem vc_Fa_uniteAt_at_Netail_Nehead_Emblock_22_10 (x15 : Int) (x16 : Int) (x17 : Int) (x22 : Int) (x23 : Int) (x29 : Int) (x30 : Int) (x31 : Int) (x32 : Int) (x33 : Int) (a5_0 : Int → Int) (a3_0 : Int → Int) (a4_0 : Int → Int) (k15 : 0 ≤ x15 ∧ x15 ≤ 71) (k16 : 0 ≤ x16 ∧ x16 ≤ 23) (k17 : 0 ≤ x17 ∧ x17 ≤ 23) (k22 : 0 ≤ x22 ∧ x22 ≤ 23) (k23 : 0 ≤ x23 ∧ x23 ≤ 23) (k29 : (-1) ≤ x29 ∧ x29 ≤ 71) (k30 : 0 ≤ x30 ∧ x30 ≤ 71) (k31 : 0 ≤ x31 ∧ x31 ≤ 71) (k32 : 0 ≤ x32 ∧ x32 ≤ 71) (k33 : 0 ≤ x33 ∧ x33 ≤ 71) (f1 : (-1) * x32 + (1 * x33 + 0) ≤ 0) (h3 : x32 = a5_0 (x15)) (f5 : 1 * x30 + ((-1) * x31 + 0) ≤ 0) (h7 : x30 = a5_0 (x15)) (h9 : x29 = a5_0 (x15)) (h15 : x23 = a3_0 (x15)) (h17 : x22 = a4_0 (x15)) (h22 : x17 = a4_0 (x15)) (h24 : x16 = a3_0 (x15)) : (0 ≤ x33) ∧ (x33 ≤ x31) := by
  first
    | omega
    | (skip; (first | subst h3 | skip); (first | subst h7 | skip); (first | subst h9 | skip); (first | subst h15 | skip); (first | subst h17 | skip); (first | subst h22 | skip); (first | subst h24 | skip); have q := ‹BLQ _ _› x15 (by omega) (by omega); omega)
set_option maxHeartbeats 4000000 in
theorem vc_Fa_uniteAt_at_Netail_Nehead_Emblock_22_11 (x0 : Int) (x2 : Int) (x8 : Int) (x14 : Int) (x15 : Int) (x16 : Int) (x20 : Int) (x22 : Int) (x28 : Int) (x29 : Int) (x30 : Int) (x31 : Int) (x32 : Int) (x33 : Int) (a5_0 : Int → Int) (a3_0 : Int → Int) (a4_0 : Int → Int) (gu : Int) (k0 : 0 ≤ x0 ∧ x0 ≤ 23) (k2 : 1 ≤ x2 ∧ x2 ≤ 72) (k8 : 0 ≤ x8 ∧ x8 ≤ 23) (k14 : 0 ≤ x14 ∧ x14 ≤ 71) (k15 : 0 ≤ x15 ∧ x15 ≤ 71) (k16 : 0 ≤ x16 ∧ x16 ≤ 23) (k20 : 1 ≤ x20 ∧ x20 ≤ 1) (k22 : 0 ≤ x22 ∧ x22 ≤ 23) (k28 : (-1) ≤ x28 ∧ x28 ≤ (-1)) (k29 : (-1) ≤ x29 ∧ x29 ≤ 71) (k30 : 0 ≤ x30 ∧ x30 ≤ 71) (k31 : 0 ≤ x31 ∧ x31 ≤ 71) (k32 : 0 ≤ x32 ∧ x32 ≤ 71) (k33 : 0 ≤ x33 ∧ x33 ≤ 71) (d0 : x8 + 0 ≤ x22 ∧ x22 ≤ x8 + 0) (d1 : x8 + 0 ≤ x16 ∧ x16 ≤ x8 + 0) (d3 : x8 + (-4294967296) ≤ x0 ∧ x0 ≤ x8 + 0) (d6 : x0 + (-4294967296) ≤ x8 ∧ x8 ≤ x0 + 0) (f0 : (-1) * x14 + (1 * x33 + 0) ≤ 0) (f1 : (-1) * x32 + (1 * x33 + 0) ≤ 0) (f2 : (x33 = x14) ∨ (x33 = x32)) (h3 : x32 = a5_0 (x15)) (f4 : 1 * x14 + ((-1) * x31 + 0) ≤ 0) (f5 : 1 * x30 + ((-1) * x31 + 0) ≤ 0) (f6 : (x31 = x14) ∨ (x31 = x30)) (h7 : x30 = a5_0 (x15)) (f8 : x29 ≠ x14) (h9 : x29 = a5_0 (x15)) (f10 : x14 ≠ x28) (h17 : x22 = a4_0 (x15)) (f18 : x20 ≠ 0) (h24 : x16 = a3_0 (x15)) (f25 : x15 < x2) (f27 : UNI (a5_0) (a3_0) (a4_0) (x2) (x0) (x14)) (eu2 : gu = x0) : RLP (a5_0) (a3_0) (a4_0) (x2) (x31) (x33) (gu) := by
  first
    | (rw [show gu = x0 by omega]; exact uni_rlp (e := x15) ‹UNI _ _ _ _ _ _› (by omega) rfl (by omega) (by omega) (by omega) (by first | exact Or.inl (by omega) | exact Or.inr (by omega)) (by omega) (by omega) (by omega) (by omega) (by omega) (by omega))
  
set_option maxHeartbeats 4000000 in
theorem vc_Fa_uniteAt_at_Netail_Nehead_Emblock_22_12 (x0 : Int) (x1 : Int) (x2 : Int) (x7 : Int) (x8 : Int) (x14 : Int) (x15 : Int) (x16 : Int) (x17 : Int) (x18 : Int) (x19 : Int) (x20 : Int) (x22 : Int) (x23 : Int) (x24 : Int) (x25 : Int) (x26 : Int) (x28 : Int) (x29 : Int) (x30 : Int) (x31 : Int) (x32 : Int) (x33 : Int) (a5_0 : Int → Int) (a3_0 : Int → Int) (a4_0 : Int → Int) (a6_0 : Int → Int) (gu : Int) (gc : Int) (gd : Int) (k0 : 0 ≤ x0 ∧ x0 ≤ 23) (k1 : 0 ≤ x1 ∧ x1 ≤ 16777215) (k2 : 1 ≤ x2 ∧ x2 ≤ 72) (k7 : 0 ≤ x7 ∧ x7 ≤ 25) (k8 : 0 ≤ x8 ∧ x8 ≤ 23) (k14 : 0 ≤ x14 ∧ x14 ≤ 71) (k15 : 0 ≤ x15 ∧ x15 ≤ 71) (k16 : 0 ≤ x16 ∧ x16 ≤ 23) (k17 : 0 ≤ x17 ∧ x17 ≤ 23) (k18 : 0 ≤ x18 ∧ x18 ≤ 16777215) (k19 : 1 ≤ x19 ∧ x19 ≤ 1) (k20 : 1 ≤ x20 ∧ x20 ≤ 1) (k22 : 0 ≤ x22 ∧ x22 ≤ 23) (k23 : 0 ≤ x23 ∧ x23 ≤ 23) (k28 : (-1) ≤ x28 ∧ x28 ≤ (-1)) (k29 : (-1) ≤ x29 ∧ x29 ≤ 71) (k30 : 0 ≤ x30 ∧ x30 ≤ 71) (k31 : 0 ≤ x31 ∧ x31 ≤ 71) (k32 : 0 ≤ x32 ∧ x32 ≤ 71) (k33 : 0 ≤ x33 ∧ x33 ≤ 71) (d0 : x8 + 0 ≤ x22 ∧ x22 ≤ x8 + 0) (d1 : x8 + 0 ≤ x16 ∧ x16 ≤ x8 + 0) (d3 : x8 + (-4294967296) ≤ x0 ∧ x0 ≤ x8 + 0) (d6 : x0 + (-4294967296) ≤ x8 ∧ x8 ≤ x0 + 0) (f0 : (-1) * x14 + (1 * x33 + 0) ≤ 0) (f1 : (-1) * x32 + (1 * x33 + 0) ≤ 0) (f2 : (x33 = x14) ∨ (x33 = x32)) (h3 : x32 = a5_0 (x15)) (f4 : 1 * x14 + ((-1) * x31 + 0) ≤ 0) (f5 : 1 * x30 + ((-1) * x31 + 0) ≤ 0) (f6 : (x31 = x14) ∨ (x31 = x30)) (h7 : x30 = a5_0 (x15)) (f8 : x29 ≠ x14) (h9 : x29 = a5_0 (x15)) (f10 : x14 ≠ x28) (h15 : x23 = a3_0 (x15)) (h17 : x22 = a4_0 (x15)) (f18 : x20 ≠ 0) (f20 : bvp (x20) = bvp (x18) &&& bvp (x19)) (f21 : bvp (x18) = bvp (x1) >>> (x17).toNat) (h22 : x17 = a4_0 (x15)) (h24 : x16 = a3_0 (x15)) (f25 : x15 < x2) (f28 : UN2 (a5_0) (a3_0) (a4_0) (a6_0) (x7) (x2) (x0) (x1) (x14)) (eu2 : gu = x0) (ec2 : gc = x7) (ed2 : gd = x1) : QKP (a5_0) (a3_0) (a4_0) (a6_0) (gc) (x2) (gu) (gd) (x31) (x33) := by
  first
    | (rw [show gu = x0 by omega, show gc = x7 by omega, show gd = x1 by omega]; exact un2_qkp (e := x15) ‹UN2 _ _ _ _ _ _ _ _ _› (by omega) rfl (by omega) (by omega) (by omega) (by first | exact Or.inl ⟨by omega, by omega, by rw [← ‹x17 = a4_0 x15›]; exact (bit_one (s := x1) (t := x18) (c := x20) (v := x17) (one := x19) (by assumption) (by assumption) (by omega) (by omega) (by omega) (by omega)).mpr (by omega)⟩ | exact Or.inr ⟨by omega, by omega, by rw [← ‹x19 = a3_0 x15›]; exact (bit_one (s := x1) (t := x20) (c := x22) (v := x19) (one := x21) (by assumption) (by assumption) (by omega) (by omega) (by omega) (by omega)).mpr (by omega)⟩ | exact Or.inr ⟨by omega, by omega, by rw [← ‹x23 = a3_0 x15›]; exact (bit_one (s := x1) (t := x24) (c := x26) (v := x23) (one := x25) (by assumption) (by assumption) (by omega) (by omega) (by omega) (by omega)).mpr (by omega)⟩) (by omega) (by omega) (by omega) (by omega) (by omega) (by omega))
  
set_option maxHeartbeats 4000000 in
theorem vc_Fa_uniteAt_at_Netail_Nehead_Emblock_22_13 (x0 : Int) (x15 : Int) (x16 : Int) (x17 : Int) (x22 : Int) (x23 : Int) (x29 : Int) (x30 : Int) (x32 : Int) (a5_0 : Int → Int) (a3_0 : Int → Int) (a4_0 : Int → Int) (gu : Int) (k0 : 0 ≤ x0 ∧ x0 ≤ 23) (k15 : 0 ≤ x15 ∧ x15 ≤ 71) (k16 : 0 ≤ x16 ∧ x16 ≤ 23) (k17 : 0 ≤ x17 ∧ x17 ≤ 23) (k22 : 0 ≤ x22 ∧ x22 ≤ 23) (k23 : 0 ≤ x23 ∧ x23 ≤ 23) (k29 : (-1) ≤ x29 ∧ x29 ≤ 71) (k30 : 0 ≤ x30 ∧ x30 ≤ 71) (k32 : 0 ≤ x32 ∧ x32 ≤ 71) (h3 : x32 = a5_0 (x15)) (h7 : x30 = a5_0 (x15)) (h9 : x29 = a5_0 (x15)) (h15 : x23 = a3_0 (x15)) (h17 : x22 = a4_0 (x15)) (h22 : x17 = a4_0 (x15)) (h24 : x16 = a3_0 (x15)) (eu2 : gu = x0) : gu = x0 := by
  first
    | omega
    | (skip; (first | subst h3 | skip); (first | subst h7 | skip); (first | subst h9 | skip); (first | subst h15 | skip); (first | subst h17 | skip); (first | subst h22 | skip); (first | subst h24 | skip); have q := ‹BLQ _ _› x15 (by omega) (by omega); omega)
set_option maxHeartbeats 4000000 in
theorem vc_Fa_uniteAt_at_Netail_Nehead_Emblock_22_14 (x15 : Int) (x16 : Int) (x17 : Int) (x22 : Int) (x23 : Int) (x29 : Int) (x30 : Int) (x32 : Int) (x33 : Int) (a5_0 : Int → Int) (a3_0 : Int → Int) (a4_0 : Int → Int) (k15 : 0 ≤ x15 ∧ x15 ≤ 71) (k16 : 0 ≤ x16 ∧ x16 ≤ 23) (k17 : 0 ≤ x17 ∧ x17 ≤ 23) (k22 : 0 ≤ x22 ∧ x22 ≤ 23) (k23 : 0 ≤ x23 ∧ x23 ≤ 23) (k29 : (-1) ≤ x29 ∧ x29 ≤ 71) (k30 : 0 ≤ x30 ∧ x30 ≤ 71) (k32 : 0 ≤ x32 ∧ x32 ≤ 71) (k33 : 0 ≤ x33 ∧ x33 ≤ 71) (h3 : x32 = a5_0 (x15)) (h7 : x30 = a5_0 (x15)) (h9 : x29 = a5_0 (x15)) (h15 : x23 = a3_0 (x15)) (h17 : x22 = a4_0 (x15)) (h22 : x17 = a4_0 (x15)) (h24 : x16 = a3_0 (x15)) : 0 ≤ x33 := by
  first
    | omega
    | (skip; (first | subst h3 | skip); (first | subst h7 | skip); (first | subst h9 | skip); (first | subst h15 | skip); (first | subst h17 | skip); (first | subst h22 | skip); (first | subst h24 | skip); have q := ‹BLQ _ _› x15 (by omega) (by omega); omega)
set_option maxHeartbeats 4000000 in
theorem vc_Fa_uniteAt_at_Netail_Nehead_Emblock_22_15 (x7 : Int) (x15 : Int) (x16 : Int) (x17 : Int) (x22 : Int) (x23 : Int) (x29 : Int) (x30 : Int) (x32 : Int) (a5_0 : Int → Int) (a3_0 : Int → Int) (a4_0 : Int → Int) (gc : Int) (k7 : 0 ≤ x7 ∧ x7 ≤ 25) (k15 : 0 ≤ x15 ∧ x15 ≤ 71) (k16 : 0 ≤ x16 ∧ x16 ≤ 23) (k17 : 0 ≤ x17 ∧ x17 ≤ 23) (k22 : 0 ≤ x22 ∧ x22 ≤ 23) (k23 : 0 ≤ x23 ∧ x23 ≤ 23) (k29 : (-1) ≤ x29 ∧ x29 ≤ 71) (k30 : 0 ≤ x30 ∧ x30 ≤ 71) (k32 : 0 ≤ x32 ∧ x32 ≤ 71) (h3 : x32 = a5_0 (x15)) (h7 : x30 = a5_0 (x15)) (h9 : x29 = a5_0 (x15)) (h15 : x23 = a3_0 (x15)) (h17 : x22 = a4_0 (x15)) (h22 : x17 = a4_0 (x15)) (h24 : x16 = a3_0 (x15)) (ec2 : gc = x7) : gc = x7 := by
  first
    | omega
    | (skip; (first | subst h3 | skip); (first | subst h7 | skip); (first | subst h9 | skip); (first | subst h15 | skip); (first | subst h17 | skip); (first | subst h22 | skip); (first | subst h24 | skip); have q := ‹BLQ _ _› x15 (by omega) (by omega); omega)
set_option maxHeartbeats 4000000 in
theorem vc_Fa_uniteAt_at_Netail_Nehead_Emblock_22_16 (x1 : Int) (x15 : Int) (x16 : Int) (x17 : Int) (x22 : Int) (x23 : Int) (x29 : Int) (x30 : Int) (x32 : Int) (a5_0 : Int → Int) (a3_0 : Int → Int) (a4_0 : Int → Int) (gd : Int) (k1 : 0 ≤ x1 ∧ x1 ≤ 16777215) (k15 : 0 ≤ x15 ∧ x15 ≤ 71) (k16 : 0 ≤ x16 ∧ x16 ≤ 23) (k17 : 0 ≤ x17 ∧ x17 ≤ 23) (k22 : 0 ≤ x22 ∧ x22 ≤ 23) (k23 : 0 ≤ x23 ∧ x23 ≤ 23) (k29 : (-1) ≤ x29 ∧ x29 ≤ 71) (k30 : 0 ≤ x30 ∧ x30 ≤ 71) (k32 : 0 ≤ x32 ∧ x32 ≤ 71) (h3 : x32 = a5_0 (x15)) (h7 : x30 = a5_0 (x15)) (h9 : x29 = a5_0 (x15)) (h15 : x23 = a3_0 (x15)) (h17 : x22 = a4_0 (x15)) (h22 : x17 = a4_0 (x15)) (h24 : x16 = a3_0 (x15)) (ed2 : gd = x1) : gd = x1 := by
  first
    | omega
    | (skip; (first | subst h3 | skip); (first | subst h7 | skip); (first | subst h9 | skip); (first | subst h15 | skip); (first | subst h17 | skip); (first | subst h22 | skip); (first | subst h24 | skip); have q := ‹BLQ _ _› x15 (by omega) (by omega); omega)
def o_Fa_uniteAt_at_Netail_Nehead_Emblock_22 : or_T := (136, 34, [(0, (0, 0, 23, [])), (1, (0, 0, 16777215, [])), (2, (0, 1, 72, [])), (3, (2, 0, 0, [80])), (4, (2, 0, 0, [81])), (5, (2, 0, 0, [26])), (6, (2, 0, 0, [82])), (7, (0, 0, 25, [])), (8, (0, 0, 23, [])), (9, (0, 0, 16777215, [])), (10, (0, 1, 72, [])), (11, (2, 0, 0, [80])), (12, (2, 0, 0, [81])), (13, (2, 0, 0, [26])), (14, (0, 0, 71, [])), (15, (0, 0, 71, [])), (16, (0, 0, 23, [])), (17, (0, 0, 23, [])), (18, (0, 0, 16777215, [])), (19, (0, 1, 1, [])), (20, (0, 1, 1, [])), (22, (0, 0, 23, [])), (23, (0, 0, 23, [])), (24, (0, 0, 16777215, [])), (25, (0, 1, 1, [])), (26, (0, 0, 0, [])), (28, (0, -1, -1, [])), (29, (0, -1, 71, [])), (30, (0, 0, 71, [])), (31, (0, 0, 71, [])), (32, (0, 0, 71, [])), (33, (0, 0, 71, []))], [(23, [14, 33], [0, -1, 1]), (23, [32, 33], [0, -1, 1]), (20, [33, 14, 32], [50, 0, 0, 3, 6, 1, 2, 1, 0, 1, 1, 1, 2, 1, 0, 1, 2]), (10, [32, 13, 15], []), (23, [14, 31], [0, 1, -1]), (23, [30, 31], [0, 1, -1]), (20, [31, 14, 30], [50, 0, 0, 3, 6, 1, 2, 1, 0, 1, 1, 1, 2, 1, 0, 1, 2]), (10, [30, 13, 15], []), (7, [29, 14], [1]), (10, [29, 13, 15], []), (7, [14, 28], [1]), (8, [26], [0]), (12, [26, 24], [2]), (16, [26, 24, 25], [0]), (16, [24, 9, 23], [4]), (10, [23, 11, 15], []), (7, [22, 8], [0]), (10, [22, 12, 15], []), (8, [20], [1]), (12, [20, 18], [2]), (16, [20, 18, 19], [0]), (16, [18, 9, 17], [4]), (10, [17, 12, 15], []), (7, [16, 8], [0]), (10, [16, 11, 15], []), (7, [15, 10], [2]), (20, [13, 10], [61, 1, 566]), (20, [13, 11, 12, 10, 8, 14], [61, 3, 584]), (20, [13, 11, 12, 6, 7, 10, 8, 9, 14], [61, 4, 589]), (24, [0, 8], []), (24, [1, 9], []), (24, [2, 10], []), (24, [3, 11], []), (24, [4, 12], []), (24, [5, 13], [])], [], [(2, 0, 0, [80]), (2, 0, 0, [81]), (0, 0, 24, []), (2, 0, 0, [82]), (0, 0, 25, []), (0, -2147483648, 2147483647, [])], [(24, [3, 34], []), (24, [4, 35], []), (23, [36, 8], [0, 1, -1]), (23, [36, 8], [0, -1, 1]), (24, [6, 37], []), (23, [38, 7], [0, 1, -1]), (23, [38, 7], [0, -1, 1]), (23, [39, 9], [0, 1, -1]), (23, [39, 9], [0, -1, 1]), (20, [13, 10], [61, 1, 566]), (20, [33, 31], [50, 0, 0, 2, 6, 0, 2, 0, 0, 1, 0, 0, 2, 1, 0, 1, 1]), (20, [13, 34, 35, 10, 31, 33, 36], [61, 3, 581]), (20, [13, 34, 35, 37, 38, 10, 36, 39, 31, 33], [61, 4, 590]), (20, [36, 8], [50, 0, 0, 1, 2, 1, 0, 1, 1]), (20, [33], [50, 0, 0, 0, 2, 0, 0, 1, 0]), (20, [38, 7], [50, 0, 0, 1, 2, 1, 0, 1, 1]), (20, [39, 9], [50, 0, 0, 1, 2, 1, 0, 1, 1])], [], [(22, 8, 0, 0), (16, 8, 0, 0), (15, 10, -4294967296, -1), (0, 8, -4294967296, 0), (1, 9, -4294967296, 0), (2, 10, -4294967296, 0), (8, 0, -4294967296, 0), (9, 1, -4294967296, 0), (10, 2, -4294967296, 0), (14, 15, -4294967296, 70), (15, 2, -4294967296, 0), (15, 10, -4294967296, 0)])
theorem oo_Fa_uniteAt_at_Netail_Nehead_Emblock_22 {kA : Nat → ClassId} : or_ok PRD kA GG o_Fa_uniteAt_at_Netail_Nehead_Emblock_22 := by
  refine or_mk fun A ta ws vs hD hth hl => ?_
  intro t0 k0 t1 k1 t2 k2 t3 r3 t4 r4 t5 r5 t6 r6 t7 k7 t8 k8 t9 k9 t10 k10 t11 r11 t12 r12 t13 r13 t14 k14 t15 k15 t16 k16 t17 k17 t18 k18 t19 k19 t20 k20 t22 k22 t23 k23 t24 k24 t25 k25 t26 k26 t28 k28 t29 k29 t30 k30 t31 k31 t32 k32 t33 k33 d0 d1 d2 d3 d4 d5 d6 d7 d8 d9 d10 d11 f0 f1 f2 f3 f4 f5 f6 f7 f8 f9 f10 f11 f12 f13 f14 f15 f16 f17 f18 f19 f20 f21 f22 f23 f24 f25 f26 f27 f28 f29 f30 f31 f32 f33 f34
  replace f0 := shm_22 f0
  replace f1 := shm_22 f1
  replace f2 := shm_898 f2
  replace f3 := shm_107 f3
  replace f4 := shm_7 f4
  replace f5 := shm_7 f5
  replace f6 := shm_898 f6
  replace f7 := shm_107 f7
  replace f8 := shm_40 f8
  replace f9 := shm_107 f9
  replace f10 := shm_40 f10
  replace f15 := shm_107 f15
  replace f17 := shm_107 f17
  replace f18 := shm_142 f18
  replace f20 := shm_11 f20
  replace f21 := shm_13 f21
  replace f22 := shm_107 f22
  replace f24 := shm_107 f24
  replace f25 := shm_6 f25
  replace f26 := shm_365 f26
  replace f27 := shm_1193 f27
  replace f28 := shm_1194 f28
  replace f29 := shm_5 f29
  replace f30 := shm_5 f30
  replace f31 := shm_5 f31
  replace f32 := shm_5 f32
  replace f33 := shm_5 f33
  replace f34 := shm_5 f34
  have q8 : n_v vs 8 = n_v vs 0 := f29.symm
  have q9 : n_v vs 9 = n_v vs 1 := f30.symm
  have q10 : n_v vs 10 = n_v vs 2 := f31.symm
  have q11 : n_v vs 11 = n_v vs 3 := f32.symm
  have q12 : n_v vs 12 = n_v vs 4 := f33.symm
  have q13 : n_v vs 13 = n_v vs 5 := f34.symm
  simp only [q13, q9, q11, q8, q12, q10] at f3 f7 f9 f15 f17 f21 f22 f24 f25 f26 f27 f28
  have h3 : v_iv (n_v vs 32) = w_ei ws (v_ad (n_v vs 5)) (v_iv (n_v vs 15)) := f3
  have h7 : v_iv (n_v vs 30) = w_ei ws (v_ad (n_v vs 5)) (v_iv (n_v vs 15)) := f7
  have h9 : v_iv (n_v vs 29) = w_ei ws (v_ad (n_v vs 5)) (v_iv (n_v vs 15)) := f9
  have h15 : v_iv (n_v vs 23) = w_ei ws (v_ad (n_v vs 3)) (v_iv (n_v vs 15)) := f15
  have h17 : v_iv (n_v vs 22) = w_ei ws (v_ad (n_v vs 4)) (v_iv (n_v vs 15)) := f17
  have h22 : v_iv (n_v vs 17) = w_ei ws (v_ad (n_v vs 4)) (v_iv (n_v vs 15)) := f22
  have h24 : v_iv (n_v vs 16) = w_ei ws (v_ad (n_v vs 3)) (v_iv (n_v vs 15)) := f24
  obtain ⟨u, eu, hu⟩ := iv_ex (ta := ta) (lo := 0) (hi := 24) (z := v_iv (n_v vs 0)) (by omega) (by omega) (by omega) (by omega)
  have eu2 : v_iv (Value.int u) = v_iv (n_v vs 0) := eu
  have eu3 : 0 ≤ v_iv (Value.int u) ∧ v_iv (Value.int u) ≤ 24 := tv_rng hu
  obtain ⟨c, ec, hc⟩ := iv_ex (ta := ta) (lo := 0) (hi := 25) (z := v_iv (n_v vs 7)) (by omega) (by omega) (by omega) (by omega)
  have ec2 : v_iv (Value.int c) = v_iv (n_v vs 7) := ec
  have ec3 : 0 ≤ v_iv (Value.int c) ∧ v_iv (Value.int c) ≤ 25 := tv_rng hc
  obtain ⟨d, ed, hd⟩ := iv_ex (ta := ta) (lo := (-2147483648)) (hi := 2147483647) (z := v_iv (n_v vs 1)) (by omega) (by omega) (by omega) (by omega)
  have ed2 : v_iv (Value.int d) = v_iv (n_v vs 1) := ed
  have ed3 : (-2147483648) ≤ v_iv (Value.int d) ∧ v_iv (Value.int d) ≤ 2147483647 := tv_rng hd
  have e_3 : n_v (vs ++ [n_v vs 3, n_v vs 4, Value.int u, n_v vs 6, Value.int c, Value.int d]) 3 = n_v vs 3 := n_v_old (by rw [hl]; decide)
  have e_4 : n_v (vs ++ [n_v vs 3, n_v vs 4, Value.int u, n_v vs 6, Value.int c, Value.int d]) 4 = n_v vs 4 := n_v_old (by rw [hl]; decide)
  have e_6 : n_v (vs ++ [n_v vs 3, n_v vs 4, Value.int u, n_v vs 6, Value.int c, Value.int d]) 6 = n_v vs 6 := n_v_old (by rw [hl]; decide)
  have e_7 : n_v (vs ++ [n_v vs 3, n_v vs 4, Value.int u, n_v vs 6, Value.int c, Value.int d]) 7 = n_v vs 7 := n_v_old (by rw [hl]; decide)
  have e_8 : n_v (vs ++ [n_v vs 3, n_v vs 4, Value.int u, n_v vs 6, Value.int c, Value.int d]) 8 = n_v vs 8 := n_v_old (by rw [hl]; decide)
  have e_9 : n_v (vs ++ [n_v vs 3, n_v vs 4, Value.int u, n_v vs 6, Value.int c, Value.int d]) 9 = n_v vs 9 := n_v_old (by rw [hl]; decide)
  have e_10 : n_v (vs ++ [n_v vs 3, n_v vs 4, Value.int u, n_v vs 6, Value.int c, Value.int d]) 10 = n_v vs 10 := n_v_old (by rw [hl]; decide)
  have e_13 : n_v (vs ++ [n_v vs 3, n_v vs 4, Value.int u, n_v vs 6, Value.int c, Value.int d]) 13 = n_v vs 13 := n_v_old (by rw [hl]; decide)
  have e_31 : n_v (vs ++ [n_v vs 3, n_v vs 4, Value.int u, n_v vs 6, Value.int c, Value.int d]) 31 = n_v vs 31 := n_v_old (by rw [hl]; decide)
  have e_33 : n_v (vs ++ [n_v vs 3, n_v vs 4, Value.int u, n_v vs 6, Value.int c, Value.int d]) 33 = n_v vs 33 := n_v_old (by rw [hl]; decide)
  have e_34 : n_v (vs ++ [n_v vs 3, n_v vs 4, Value.int u, n_v vs 6, Value.int c, Value.int d]) 34 = n_v vs 3 := n_v_newk (k := 0) hl rfl
  have e_35 : n_v (vs ++ [n_v vs 3, n_v vs 4, Value.int u, n_v vs 6, Value.int c, Value.int d]) 35 = n_v vs 4 := n_v_newk (k := 1) hl rfl
  have e_36 : n_v (vs ++ [n_v vs 3, n_v vs 4, Value.int u, n_v vs 6, Value.int c, Value.int d]) 36 = Value.int u := n_v_newk (k := 2) hl rfl
  have e_37 : n_v (vs ++ [n_v vs 3, n_v vs 4, Value.int u, n_v vs 6, Value.int c, Value.int d]) 37 = n_v vs 6 := n_v_newk (k := 3) hl rfl
  have e_38 : n_v (vs ++ [n_v vs 3, n_v vs 4, Value.int u, n_v vs 6, Value.int c, Value.int d]) 38 = Value.int c := n_v_newk (k := 4) hl rfl
  have e_39 : n_v (vs ++ [n_v vs 3, n_v vs 4, Value.int u, n_v vs 6, Value.int c, Value.int d]) 39 = Value.int d := n_v_newk (k := 5) hl rfl
  have nf0 : fc_1 PRD (24, [3, 34], []) ws (vs ++ [n_v vs 3, n_v vs 4, Value.int u, n_v vs 6, Value.int c, Value.int d]) := by
    refine ⟨nf_inA hl rfl, sgq_5 ?_⟩
    · show n_v (vs ++ [n_v vs 3, n_v vs 4, Value.int u, n_v vs 6, Value.int c, Value.int d]) 3 = n_v (vs ++ [n_v vs 3, n_v vs 4, Value.int u, n_v vs 6, Value.int c, Value.int d]) 34
      first | rfl | simp only [e_3, e_34, q8, q9, q10, q11, q12, q13]
  have nf1 : fc_1 PRD (24, [4, 35], []) ws (vs ++ [n_v vs 3, n_v vs 4, Value.int u, n_v vs 6, Value.int c, Value.int d]) := by
    refine ⟨nf_inA hl rfl, sgq_5 ?_⟩
    · show n_v (vs ++ [n_v vs 3, n_v vs 4, Value.int u, n_v vs 6, Value.int c, Value.int d]) 4 = n_v (vs ++ [n_v vs 3, n_v vs 4, Value.int u, n_v vs 6, Value.int c, Value.int d]) 35
      first | rfl | simp only [e_4, e_35, q8, q9, q10, q11, q12, q13]
  have nf2 : fc_1 PRD (23, [36, 8], [0, 1, -1]) ws (vs ++ [n_v vs 3, n_v vs 4, Value.int u, n_v vs 6, Value.int c, Value.int d]) := by
    refine ⟨nf_inA hl rfl, sgq_7 ?_⟩
    · show 1 * v_iv (n_v (vs ++ [n_v vs 3, n_v vs 4, Value.int u, n_v vs 6, Value.int c, Value.int d]) 36) + ((-1) * v_iv (n_v (vs ++ [n_v vs 3, n_v vs 4, Value.int u, n_v vs 6, Value.int c, Value.int d]) 8) + 0) ≤ 0
      simp only [e_8, e_36, q8]
      exact vc_Fa_uniteAt_at_Netail_Nehead_Emblock_22_2 (v_iv (n_v vs 0)) (v_iv (n_v vs 8)) (v_iv (n_v vs 15)) (v_iv (n_v vs 16)) (v_iv (n_v vs 17)) (v_iv (n_v vs 22)) (v_iv (n_v vs 23)) (v_iv (n_v vs 29)) (v_iv (n_v vs 30)) (v_iv (n_v vs 32)) (w_ei ws (v_ad (n_v vs 5))) (w_ei ws (v_ad (n_v vs 3))) (w_ei ws (v_ad (n_v vs 4))) (v_iv (Value.int u)) k0 k8 k15 k16 k17 k22 k23 k29 k30 k32 d0 d3 d6 h3 h7 h9 h15 h17 h22 h24 eu2
  have nf3 : fc_1 PRD (23, [36, 8], [0, -1, 1]) ws (vs ++ [n_v vs 3, n_v vs 4, Value.int u, n_v vs 6, Value.int c, Value.int d]) := by
    refine ⟨nf_inA hl rfl, sgq_22 ?_⟩
    · show (-1) * v_iv (n_v (vs ++ [n_v vs 3, n_v vs 4, Value.int u, n_v vs 6, Value.int c, Value.int d]) 36) + (1 * v_iv (n_v (vs ++ [n_v vs 3, n_v vs 4, Value.int u, n_v vs 6, Value.int c, Value.int d]) 8) + 0) ≤ 0
      simp only [e_8, e_36, q8]
      exact vc_Fa_uniteAt_at_Netail_Nehead_Emblock_22_3 (v_iv (n_v vs 0)) (v_iv (n_v vs 8)) (v_iv (n_v vs 15)) (v_iv (n_v vs 16)) (v_iv (n_v vs 17)) (v_iv (n_v vs 22)) (v_iv (n_v vs 23)) (v_iv (n_v vs 29)) (v_iv (n_v vs 30)) (v_iv (n_v vs 32)) (w_ei ws (v_ad (n_v vs 5))) (w_ei ws (v_ad (n_v vs 3))) (w_ei ws (v_ad (n_v vs 4))) (v_iv (Value.int u)) k0 k8 k15 k16 k17 k22 k23 k29 k30 k32 d0 d3 d6 h3 h7 h9 h15 h17 h22 h24 eu2
  have nf4 : fc_1 PRD (24, [6, 37], []) ws (vs ++ [n_v vs 3, n_v vs 4, Value.int u, n_v vs 6, Value.int c, Value.int d]) := by
    refine ⟨nf_inA hl rfl, sgq_5 ?_⟩
    · show n_v (vs ++ [n_v vs 3, n_v vs 4, Value.int u, n_v vs 6, Value.int c, Value.int d]) 6 = n_v (vs ++ [n_v vs 3, n_v vs 4, Value.int u, n_v vs 6, Value.int c, Value.int d]) 37
      first | rfl | simp only [e_6, e_37, q8, q9, q10, q11, q12, q13]
  have nf5 : fc_1 PRD (23, [38, 7], [0, 1, -1]) ws (vs ++ [n_v vs 3, n_v vs 4, Value.int u, n_v vs 6, Value.int c, Value.int d]) := by
    refine ⟨nf_inA hl rfl, sgq_7 ?_⟩
    · show 1 * v_iv (n_v (vs ++ [n_v vs 3, n_v vs 4, Value.int u, n_v vs 6, Value.int c, Value.int d]) 38) + ((-1) * v_iv (n_v (vs ++ [n_v vs 3, n_v vs 4, Value.int u, n_v vs 6, Value.int c, Value.int d]) 7) + 0) ≤ 0
      simp only [e_7, e_38]
      exact vc_Fa_uniteAt_at_Netail_Nehead_Emblock_22_5 (v_iv (n_v vs 7)) (v_iv (n_v vs 15)) (v_iv (n_v vs 16)) (v_iv (n_v vs 17)) (v_iv (n_v vs 22)) (v_iv (n_v vs 23)) (v_iv (n_v vs 29)) (v_iv (n_v vs 30)) (v_iv (n_v vs 32)) (w_ei ws (v_ad (n_v vs 5))) (w_ei ws (v_ad (n_v vs 3))) (w_ei ws (v_ad (n_v vs 4))) (v_iv (Value.int c)) k7 k15 k16 k17 k22 k23 k29 k30 k32 h3 h7 h9 h15 h17 h22 h24 ec2
  have nf6 : fc_1 PRD (23, [38, 7], [0, -1, 1]) ws (vs ++ [n_v vs 3, n_v vs 4, Value.int u, n_v vs 6, Value.int c, Value.int d]) := by
    refine ⟨nf_inA hl rfl, sgq_22 ?_⟩
    · show (-1) * v_iv (n_v (vs ++ [n_v vs 3, n_v vs 4, Value.int u, n_v vs 6, Value.int c, Value.int d]) 38) + (1 * v_iv (n_v (vs ++ [n_v vs 3, n_v vs 4, Value.int u, n_v vs 6, Value.int c, Value.int d]) 7) + 0) ≤ 0
      simp only [e_7, e_38]
      exact vc_Fa_uniteAt_at_Netail_Nehead_Emblock_22_6 (v_iv (n_v vs 7)) (v_iv (n_v vs 15)) (v_iv (n_v vs 16)) (v_iv (n_v vs 17)) (v_iv (n_v vs 22)) (v_iv (n_v vs 23)) (v_iv (n_v vs 29)) (v_iv (n_v vs 30)) (v_iv (n_v vs 32)) (w_ei ws (v_ad (n_v vs 5))) (w_ei ws (v_ad (n_v vs 3))) (w_ei ws (v_ad (n_v vs 4))) (v_iv (Value.int c)) k7 k15 k16 k17 k22 k23 k29 k30 k32 h3 h7 h9 h15 h17 h22 h24 ec2
  have nf7 : fc_1 PRD (23, [39, 9], [0, 1, -1]) ws (vs ++ [n_v vs 3, n_v vs 4, Value.int u, n_v vs 6, Value.int c, Value.int d]) := by
    refine ⟨nf_inA hl rfl, sgq_7 ?_⟩
    · show 1 * v_iv (n_v (vs ++ [n_v vs 3, n_v vs 4, Value.int u, n_v vs 6, Value.int c, Value.int d]) 39) + ((-1) * v_iv (n_v (vs ++ [n_v vs 3, n_v vs 4, Value.int u, n_v vs 6, Value.int c, Value.int d]) 9) + 0) ≤ 0
      simp only [e_9, e_39, q9]
      exact vc_Fa_uniteAt_at_Netail_Nehead_Emblock_22_7 (v_iv (n_v vs 1)) (v_iv (n_v vs 9)) (v_iv (n_v vs 15)) (v_iv (n_v vs 16)) (v_iv (n_v vs 17)) (v_iv (n_v vs 22)) (v_iv (n_v vs 23)) (v_iv (n_v vs 29)) (v_iv (n_v vs 30)) (v_iv (n_v vs 32)) (w_ei ws (v_ad (n_v vs 5))) (w_ei ws (v_ad (n_v vs 3))) (w_ei ws (v_ad (n_v vs 4))) (v_iv (Value.int d)) k1 k9 k15 k16 k17 k22 k23 k29 k30 k32 d4 d7 h3 h7 h9 h15 h17 h22 h24 ed2
  have nf8 : fc_1 PRD (23, [39, 9], [0, -1, 1]) ws (vs ++ [n_v vs 3, n_v vs 4, Value.int u, n_v vs 6, Value.int c, Value.int d]) := by
    refine ⟨nf_inA hl rfl, sgq_22 ?_⟩
    · show (-1) * v_iv (n_v (vs ++ [n_v vs 3, n_v vs 4, Value.int u, n_v vs 6, Value.int c, Value.int d]) 39) + (1 * v_iv (n_v (vs ++ [n_v vs 3, n_v vs 4, Value.int u, n_v vs 6, Value.int c, Value.int d]) 9) + 0) ≤ 0
      simp only [e_9, e_39, q9]
      exact vc_Fa_uniteAt_at_Netail_Nehead_Emblock_22_8 (v_iv (n_v vs 1)) (v_iv (n_v vs 9)) (v_iv (n_v vs 15)) (v_iv (n_v vs 16)) (v_iv (n_v vs 17)) (v_iv (n_v vs 22)) (v_iv (n_v vs 23)) (v_iv (n_v vs 29)) (v_iv (n_v vs 30)) (v_iv (n_v vs 32)) (w_ei ws (v_ad (n_v vs 5))) (w_ei ws (v_ad (n_v vs 3))) (w_ei ws (v_ad (n_v vs 4))) (v_iv (Value.int d)) k1 k9 k15 k16 k17 k22 k23 k29 k30 k32 d4 d7 h3 h7 h9 h15 h17 h22 h24 ed2
  have nf9 : fc_1 PRD (20, [13, 10], [61, 1, 566]) ws (vs ++ [n_v vs 3, n_v vs 4, Value.int u, n_v vs 6, Value.int c, Value.int d]) := by
    refine ⟨nf_inA hl rfl, sgq_365 ?_⟩
    · show BLQ (w_ei ws (v_ad (n_v (vs ++ [n_v vs 3, n_v vs 4, Value.int u, n_v vs 6, Value.int c, Value.int d]) 13))) (v_iv (n_v (vs ++ [n_v vs 3, n_v vs 4, Value.int u, n_v vs 6, Value.int c, Value.int d]) 10))
      simp only [e_10, e_13, q10, q13]
      exact vc_Fa_uniteAt_at_Netail_Nehead_Emblock_22_9 (v_iv (n_v vs 2)) (w_ei ws (v_ad (n_v vs 5))) k2 f26
  have nf10 : fc_1 PRD (20, [33, 31], [50, 0, 0, 2, 6, 0, 2, 0, 0, 1, 0, 0, 2, 1, 0, 1, 1]) ws (vs ++ [n_v vs 3, n_v vs 4, Value.int u, n_v vs 6, Value.int c, Value.int d]) := by
    refine ⟨nf_inA hl rfl, sgq_366 ?_⟩
    · show (0 ≤ v_iv (n_v (vs ++ [n_v vs 3, n_v vs 4, Value.int u, n_v vs 6, Value.int c, Value.int d]) 33)) ∧ (v_iv (n_v (vs ++ [n_v vs 3, n_v vs 4, Value.int u, n_v vs 6, Value.int c, Value.int d]) 33) ≤ v_iv (n_v (vs ++ [n_v vs 3, n_v vs 4, Value.int u, n_v vs 6, Value.int c, Value.int d]) 31))
      simp only [e_31, e_33]
      exact vc_Fa_uniteAt_at_Netail_Nehead_Emblock_22_10 (v_iv (n_v vs 15)) (v_iv (n_v vs 16)) (v_iv (n_v vs 17)) (v_iv (n_v vs 22)) (v_iv (n_v vs 23)) (v_iv (n_v vs 29)) (v_iv (n_v vs 30)) (v_iv (n_v vs 31)) (v_iv (n_v vs 32)) (v_iv (n_v vs 33)) (w_ei ws (v_ad (n_v vs 5))) (w_ei ws (v_ad (n_v vs 3))) (w_ei ws (v_ad (n_v vs 4))) k15 k16 k17 k22 k23 k29 k30 k31 k32 k33 f1 h3 f5 h7 h9 h15 h17 h22 h24
  have nf11 : fc_1 PRD (20, [13, 34, 35, 10, 31, 33, 36], [61, 3, 581]) ws (vs ++ [n_v vs 3, n_v vs 4, Value.int u, n_v vs 6, Value.int c, Value.int d]) := by
    refine ⟨nf_inA hl rfl, sgq_367 ?_⟩
    · show RLP (w_ei ws (v_ad (n_v (vs ++ [n_v vs 3, n_v vs 4, Value.int u, n_v vs 6, Value.int c, Value.int d]) 13))) (w_ei ws (v_ad (n_v (vs ++ [n_v vs 3, n_v vs 4, Value.int u, n_v vs 6, Value.int c, Value.int d]) 34))) (w_ei ws (v_ad (n_v (vs ++ [n_v vs 3, n_v vs 4, Value.int u, n_v vs 6, Value.int c, Value.int d]) 35))) (v_iv (n_v (vs ++ [n_v vs 3, n_v vs 4, Value.int u, n_v vs 6, Value.int c, Value.int d]) 10)) (v_iv (n_v (vs ++ [n_v vs 3, n_v vs 4, Value.int u, n_v vs 6, Value.int c, Value.int d]) 31)) (v_iv (n_v (vs ++ [n_v vs 3, n_v vs 4, Value.int u, n_v vs 6, Value.int c, Value.int d]) 33)) (v_iv (n_v (vs ++ [n_v vs 3, n_v vs 4, Value.int u, n_v vs 6, Value.int c, Value.int d]) 36))
      simp only [e_10, e_13, e_31, e_33, e_34, e_35, e_36, q10, q13]
      exact vc_Fa_uniteAt_at_Netail_Nehead_Emblock_22_11 (v_iv (n_v vs 0)) (v_iv (n_v vs 2)) (v_iv (n_v vs 8)) (v_iv (n_v vs 14)) (v_iv (n_v vs 15)) (v_iv (n_v vs 16)) (v_iv (n_v vs 20)) (v_iv (n_v vs 22)) (v_iv (n_v vs 28)) (v_iv (n_v vs 29)) (v_iv (n_v vs 30)) (v_iv (n_v vs 31)) (v_iv (n_v vs 32)) (v_iv (n_v vs 33)) (w_ei ws (v_ad (n_v vs 5))) (w_ei ws (v_ad (n_v vs 3))) (w_ei ws (v_ad (n_v vs 4))) (v_iv (Value.int u)) k0 k2 k8 k14 k15 k16 k20 k22 k28 k29 k30 k31 k32 k33 d0 d1 d3 d6 f0 f1 f2 h3 f4 f5 f6 h7 f8 h9 f10 h17 f18 h24 f25 f27 eu2
  have nf12 : fc_1 PRD (20, [13, 34, 35, 37, 38, 10, 36, 39, 31, 33], [61, 4, 590]) ws (vs ++ [n_v vs 3, n_v vs 4, Value.int u, n_v vs 6, Value.int c, Value.int d]) := by
    refine ⟨nf_inA hl rfl, sgq_368 ?_⟩
    · show QKP (w_ei ws (v_ad (n_v (vs ++ [n_v vs 3, n_v vs 4, Value.int u, n_v vs 6, Value.int c, Value.int d]) 13))) (w_ei ws (v_ad (n_v (vs ++ [n_v vs 3, n_v vs 4, Value.int u, n_v vs 6, Value.int c, Value.int d]) 34))) (w_ei ws (v_ad (n_v (vs ++ [n_v vs 3, n_v vs 4, Value.int u, n_v vs 6, Value.int c, Value.int d]) 35))) (w_ei ws (v_ad (n_v (vs ++ [n_v vs 3, n_v vs 4, Value.int u, n_v vs 6, Value.int c, Value.int d]) 37))) (v_iv (n_v (vs ++ [n_v vs 3, n_v vs 4, Value.int u, n_v vs 6, Value.int c, Value.int d]) 38)) (v_iv (n_v (vs ++ [n_v vs 3, n_v vs 4, Value.int u, n_v vs 6, Value.int c, Value.int d]) 10)) (v_iv (n_v (vs ++ [n_v vs 3, n_v vs 4, Value.int u, n_v vs 6, Value.int c, Value.int d]) 36)) (v_iv (n_v (vs ++ [n_v vs 3, n_v vs 4, Value.int u, n_v vs 6, Value.int c, Value.int d]) 39)) (v_iv (n_v (vs ++ [n_v vs 3, n_v vs 4, Value.int u, n_v vs 6, Value.int c, Value.int d]) 31)) (v_iv (n_v (vs ++ [n_v vs 3, n_v vs 4, Value.int u, n_v vs 6, Value.int c, Value.int d]) 33))
      simp only [e_10, e_13, e_31, e_33, e_34, e_35, e_36, e_37, e_38, e_39, q10, q13]
      exact vc_Fa_uniteAt_at_Netail_Nehead_Emblock_22_12 (v_iv (n_v vs 0)) (v_iv (n_v vs 1)) (v_iv (n_v vs 2)) (v_iv (n_v vs 7)) (v_iv (n_v vs 8)) (v_iv (n_v vs 14)) (v_iv (n_v vs 15)) (v_iv (n_v vs 16)) (v_iv (n_v vs 17)) (v_iv (n_v vs 18)) (v_iv (n_v vs 19)) (v_iv (n_v vs 20)) (v_iv (n_v vs 22)) (v_iv (n_v vs 23)) (v_iv (n_v vs 24)) (v_iv (n_v vs 25)) (v_iv (n_v vs 26)) (v_iv (n_v vs 28)) (v_iv (n_v vs 29)) (v_iv (n_v vs 30)) (v_iv (n_v vs 31)) (v_iv (n_v vs 32)) (v_iv (n_v vs 33)) (w_ei ws (v_ad (n_v vs 5))) (w_ei ws (v_ad (n_v vs 3))) (w_ei ws (v_ad (n_v vs 4))) (w_ei ws (v_ad (n_v vs 6))) (v_iv (Value.int u)) (v_iv (Value.int c)) (v_iv (Value.int d)) k0 k1 k2 k7 k8 k14 k15 k16 k17 k18 k19 k20 k22 k23 k28 k29 k30 k31 k32 k33 d0 d1 d3 d6 f0 f1 f2 h3 f4 f5 f6 h7 f8 h9 f10 h15 h17 f18 f20 f21 h22 h24 f25 f28 eu2 ec2 ed2
  have nf13 : fc_1 PRD (20, [36, 8], [50, 0, 0, 1, 2, 1, 0, 1, 1]) ws (vs ++ [n_v vs 3, n_v vs 4, Value.int u, n_v vs 6, Value.int c, Value.int d]) := by
    refine ⟨nf_inA hl rfl, sgq_48 ?_⟩
    · show v_iv (n_v (vs ++ [n_v vs 3, n_v vs 4, Value.int u, n_v vs 6, Value.int c, Value.int d]) 36) = v_iv (n_v (vs ++ [n_v vs 3, n_v vs 4, Value.int u, n_v vs 6, Value.int c, Value.int d]) 8)
      simp only [e_8, e_36, q8]
      exact vc_Fa_uniteAt_at_Netail_Nehead_Emblock_22_13 (v_iv (n_v vs 0)) (v_iv (n_v vs 15)) (v_iv (n_v vs 16)) (v_iv (n_v vs 17)) (v_iv (n_v vs 22)) (v_iv (n_v vs 23)) (v_iv (n_v vs 29)) (v_iv (n_v vs 30)) (v_iv (n_v vs 32)) (w_ei ws (v_ad (n_v vs 5))) (w_ei ws (v_ad (n_v vs 3))) (w_ei ws (v_ad (n_v vs 4))) (v_iv (Value.int u)) k0 k15 k16 k17 k22 k23 k29 k30 k32 h3 h7 h9 h15 h17 h22 h24 eu2
  have nf14 : fc_1 PRD (20, [33], [50, 0, 0, 0, 2, 0, 0, 1, 0]) ws (vs ++ [n_v vs 3, n_v vs 4, Value.int u, n_v vs 6, Value.int c, Value.int d]) := by
    refine ⟨nf_inA hl rfl, sgq_722 ?_⟩
    · show 0 ≤ v_iv (n_v (vs ++ [n_v vs 3, n_v vs 4, Value.int u, n_v vs 6, Value.int c, Value.int d]) 33)
      rw [e_33]
      exact vc_Fa_uniteAt_at_Netail_Nehead_Emblock_22_14 (v_iv (n_v vs 15)) (v_iv (n_v vs 16)) (v_iv (n_v vs 17)) (v_iv (n_v vs 22)) (v_iv (n_v vs 23)) (v_iv (n_v vs 29)) (v_iv (n_v vs 30)) (v_iv (n_v vs 32)) (v_iv (n_v vs 33)) (w_ei ws (v_ad (n_v vs 5))) (w_ei ws (v_ad (n_v vs 3))) (w_ei ws (v_ad (n_v vs 4))) k15 k16 k17 k22 k23 k29 k30 k32 k33 h3 h7 h9 h15 h17 h22 h24
  have nf15 : fc_1 PRD (20, [38, 7], [50, 0, 0, 1, 2, 1, 0, 1, 1]) ws (vs ++ [n_v vs 3, n_v vs 4, Value.int u, n_v vs 6, Value.int c, Value.int d]) := by
    refine ⟨nf_inA hl rfl, sgq_48 ?_⟩
    · show v_iv (n_v (vs ++ [n_v vs 3, n_v vs 4, Value.int u, n_v vs 6, Value.int c, Value.int d]) 38) = v_iv (n_v (vs ++ [n_v vs 3, n_v vs 4, Value.int u, n_v vs 6, Value.int c, Value.int d]) 7)
      simp only [e_7, e_38]
      exact vc_Fa_uniteAt_at_Netail_Nehead_Emblock_22_15 (v_iv (n_v vs 7)) (v_iv (n_v vs 15)) (v_iv (n_v vs 16)) (v_iv (n_v vs 17)) (v_iv (n_v vs 22)) (v_iv (n_v vs 23)) (v_iv (n_v vs 29)) (v_iv (n_v vs 30)) (v_iv (n_v vs 32)) (w_ei ws (v_ad (n_v vs 5))) (w_ei ws (v_ad (n_v vs 3))) (w_ei ws (v_ad (n_v vs 4))) (v_iv (Value.int c)) k7 k15 k16 k17 k22 k23 k29 k30 k32 h3 h7 h9 h15 h17 h22 h24 ec2
  have nf16 : fc_1 PRD (20, [39, 9], [50, 0, 0, 1, 2, 1, 0, 1, 1]) ws (vs ++ [n_v vs 3, n_v vs 4, Value.int u, n_v vs 6, Value.int c, Value.int d]) := by
    refine ⟨nf_inA hl rfl, sgq_48 ?_⟩
    · show v_iv (n_v (vs ++ [n_v vs 3, n_v vs 4, Value.int u, n_v vs 6, Value.int c, Value.int d]) 39) = v_iv (n_v (vs ++ [n_v vs 3, n_v vs 4, Value.int u, n_v vs 6, Value.int c, Value.int d]) 9)
      simp only [e_9, e_39, q9]
      exact vc_Fa_uniteAt_at_Netail_Nehead_Emblock_22_16 (v_iv (n_v vs 1)) (v_iv (n_v vs 15)) (v_iv (n_v vs 16)) (v_iv (n_v vs 17)) (v_iv (n_v vs 22)) (v_iv (n_v vs 23)) (v_iv (n_v vs 29)) (v_iv (n_v vs 30)) (v_iv (n_v vs 32)) (w_ei ws (v_ad (n_v vs 5))) (w_ei ws (v_ad (n_v vs 3))) (w_ei ws (v_ad (n_v vs 4))) (v_iv (Value.int d)) k1 k15 k16 k17 k22 k23 k29 k30 k32 h3 h7 h9 h15 h17 h22 h24 ed2
  exact ⟨(fun _ h => (by cases h)), [n_v vs 3, n_v vs 4, Value.int u, n_v vs 6, Value.int c, Value.int d], ag_six t3 t4 hu t6 hc hd, List.forall_mem_cons.mpr ⟨⟨show (24 : Nat) < 100 from by decide, nf0⟩, List.forall_mem_cons.mpr ⟨⟨show (24 : Nat) < 100 from by decide, nf1⟩, List.forall_mem_cons.mpr ⟨⟨show (23 : Nat) < 100 from by decide, nf2⟩, List.forall_mem_cons.mpr ⟨⟨show (23 : Nat) < 100 from by decide, nf3⟩, List.forall_mem_cons.mpr ⟨⟨show (24 : Nat) < 100 from by decide, nf4⟩, List.forall_mem_cons.mpr ⟨⟨show (23 : Nat) < 100 from by decide, nf5⟩, List.forall_mem_cons.mpr ⟨⟨show (23 : Nat) < 100 from by decide, nf6⟩, List.forall_mem_cons.mpr ⟨⟨show (23 : Nat) < 100 from by decide, nf7⟩, List.forall_mem_cons.mpr ⟨⟨show (23 : Nat) < 100 from by decide, nf8⟩, List.forall_mem_cons.mpr ⟨⟨show (20 : Nat) < 100 from by decide, nf9⟩, List.forall_mem_cons.mpr ⟨⟨show (20 : Nat) < 100 from by decide, nf10⟩, List.forall_mem_cons.mpr ⟨⟨show (20 : Nat) < 100 from by decide, nf11⟩, List.forall_mem_cons.mpr ⟨⟨show (20 : Nat) < 100 from by decide, nf12⟩, List.forall_mem_cons.mpr ⟨⟨show (20 : Nat) < 100 from by decide, nf13⟩, List.forall_mem_cons.mpr ⟨⟨show (20 : Nat) < 100 from by decide, nf14⟩, List.forall_mem_cons.mpr ⟨⟨show (20 : Nat) < 100 from by decide, nf15⟩, List.forall_mem_cons.mpr ⟨⟨show (20 : Nat) < 100 from by decide, nf16⟩, (fun _ h => (by cases h))⟩⟩⟩⟩⟩⟩⟩⟩⟩⟩⟩⟩⟩⟩⟩⟩⟩, (fun _ h => (by cases h))⟩
set_option maxHeartbeats 4000000 in
theorem vc_Fa_uniteAt_at_Netail_Nehead_Emblock_23_r0 (x2 : Int) (x15 : Int) (x16 : Int) (x17 : Int) (x22 : Int) (x23 : Int) (x29 : Int) (a5_0 : Int → Int) (a3_0 : Int → Int) (a4_0 : Int → Int) (k2 : 1 ≤ x2 ∧ x2 ≤ 72) (k15 : 0 ≤ x15 ∧ x15 ≤ 71) (k16 : 0 ≤ x16 ∧ x16 ≤ 23) (k17 : 0 ≤ x17 ∧ x17 ≤ 23) (k22 : 0 ≤ x22 ∧ x22 ≤ 23) (k23 : 0 ≤ x23 ∧ x23 ≤ 23) (k29 : (-1) ≤ x29 ∧ x29 ≤ 71) (h0 : x29 = a5_0 (x15)) (h6 : x23 = a3_0 (x15)) (h8 : x22 = a4_0 (x15)) (h13 : x17 = a4_0 (x15)) (h15 : x16 = a3_0 (x15)) (f16 : x15 < x2) (f17 : BLQ (a5_0) (x2)) : 0 ≤ x29 ∧ x29 ≤ 71 := by
  first
    | omega
    | (skip; (first | subst h0 | skip); (first | subst h6 | skip); (first | subst h8 | skip); (first | subst h13 | skip); (first | subst h15 | skip); have q := ‹BLQ _ _› x15 (by omega) (by omega); omega)
def o_Fa_uniteAt_at_Netail_Nehead_Emblock_23 : or_T := (90, 30, [(0, (0, 0, 23, [])), (1, (0, 0, 16777215, [])), (2, (0, 1, 72, [])), (3, (2, 0, 0, [80])), (4, (2, 0, 0, [81])), (5, (2, 0, 0, [26])), (6, (2, 0, 0, [82])), (7, (0, 0, 25, [])), (8, (0, 0, 23, [])), (9, (0, 0, 16777215, [])), (10, (0, 1, 72, [])), (11, (2, 0, 0, [80])), (12, (2, 0, 0, [81])), (13, (2, 0, 0, [26])), (14, (0, -1, -1, [])), (15, (0, 0, 71, [])), (16, (0, 0, 23, [])), (17, (0, 0, 23, [])), (18, (0, 0, 16777215, [])), (19, (0, 1, 1, [])), (20, (0, 1, 1, [])), (22, (0, 0, 23, [])), (23, (0, 0, 23, [])), (24, (0, 0, 16777215, [])), (25, (0, 1, 1, [])), (26, (0, 0, 0, [])), (28, (0, -1, -1, [])), (29, (0, -1, 71, []))], [(10, [29, 13, 15], []), (7, [14, 28], [0]), (8, [26], [0]), (12, [26, 24], [2]), (16, [26, 24, 25], [0]), (16, [24, 9, 23], [4]), (10, [23, 11, 15], []), (7, [22, 8], [0]), (10, [22, 12, 15], []), (8, [20], [1]), (12, [20, 18], [2]), (16, [20, 18, 19], [0]), (16, [18, 9, 17], [4]), (10, [17, 12, 15], []), (7, [16, 8], [0]), (10, [16, 11, 15], []), (7, [15, 10], [2]), (20, [13, 10], [61, 1, 566]), (20, [13, 11, 12, 10, 8, 14], [61, 3, 584]), (20, [13, 11, 12, 6, 7, 10, 8, 9, 14], [61, 4, 589]), (24, [0, 8], []), (24, [1, 9], []), (24, [2, 10], []), (24, [3, 11], []), (24, [4, 12], []), (24, [5, 13], [])], [(29, (0, 0, 71, []))], [], [], [], [(22, 8, 0, 0), (16, 8, 0, 0), (15, 10, -4294967296, -1), (0, 8, -4294967296, 0), (1, 9, -4294967296, 0), (2, 10, -4294967296, 0), (8, 0, -4294967296, 0), (9, 1, -4294967296, 0), (10, 2, -4294967296, 0), (15, 2, -4294967296, 0), (15, 10, -4294967296, 0)])
theorem oo_Fa_uniteAt_at_Netail_Nehead_Emblock_23 {kA : Nat → ClassId} : or_ok PRD kA GG o_Fa_uniteAt_at_Netail_Nehead_Emblock_23 := by
  refine or_mk fun A ta ws vs hD hth hl => ?_
  intro t0 k0 t1 k1 t2 k2 t3 r3 t4 r4 t5 r5 t6 r6 t7 k7 t8 k8 t9 k9 t10 k10 t11 r11 t12 r12 t13 r13 t14 k14 t15 k15 t16 k16 t17 k17 t18 k18 t19 k19 t20 k20 t22 k22 t23 k23 t24 k24 t25 k25 t26 k26 t28 k28 t29 k29 d0 d1 d2 d3 d4 d5 d6 d7 d8 d9 d10 f0 f1 f2 f3 f4 f5 f6 f7 f8 f9 f10 f11 f12 f13 f14 f15 f16 f17 f18 f19 f20 f21 f22 f23 f24 f25
  replace f0 := shm_107 f0
  replace f6 := shm_107 f6
  replace f8 := shm_107 f8
  replace f13 := shm_107 f13
  replace f15 := shm_107 f15
  replace f16 := shm_6 f16
  replace f17 := shm_365 f17
  replace f22 := shm_5 f22
  replace f23 := shm_5 f23
  replace f24 := shm_5 f24
  replace f25 := shm_5 f25
  have q10 : n_v vs 10 = n_v vs 2 := f22.symm
  have q11 : n_v vs 11 = n_v vs 3 := f23.symm
  have q12 : n_v vs 12 = n_v vs 4 := f24.symm
  have q13 : n_v vs 13 = n_v vs 5 := f25.symm
  simp only [q13, q11, q12, q10] at f0 f6 f8 f13 f15 f16 f17
  have h0 : v_iv (n_v vs 29) = w_ei ws (v_ad (n_v vs 5)) (v_iv (n_v vs 15)) := f0
  have h6 : v_iv (n_v vs 23) = w_ei ws (v_ad (n_v vs 3)) (v_iv (n_v vs 15)) := f6
  have h8 : v_iv (n_v vs 22) = w_ei ws (v_ad (n_v vs 4)) (v_iv (n_v vs 15)) := f8
  have h13 : v_iv (n_v vs 17) = w_ei ws (v_ad (n_v vs 4)) (v_iv (n_v vs 15)) := f13
  have h15 : v_iv (n_v vs 16) = w_ei ws (v_ad (n_v vs 3)) (v_iv (n_v vs 15)) := f15
  have hrf0 : 0 ≤ v_iv (n_v vs 29) ∧ v_iv (n_v vs 29) ≤ 71 := vc_Fa_uniteAt_at_Netail_Nehead_Emblock_23_r0 (v_iv (n_v vs 2)) (v_iv (n_v vs 15)) (v_iv (n_v vs 16)) (v_iv (n_v vs 17)) (v_iv (n_v vs 22)) (v_iv (n_v vs 23)) (v_iv (n_v vs 29)) (w_ei ws (v_ad (n_v vs 5))) (w_ei ws (v_ad (n_v vs 3))) (w_ei ws (v_ad (n_v vs 4))) k2 k15 k16 k17 k22 k23 k29 h0 h6 h8 h13 h15 f16 f17
  have rf29 : tv_ok ta (0, 0, 71, []) (n_v vs 29) := tv_in t29 (by first | omega | grind) (by first | omega | grind)
  refine ⟨List.forall_mem_cons.mpr ⟨rf29, (fun _ h => (by cases h))⟩, [], trivial, ?_, (fun _ h => (by cases h))⟩
  rw [List.append_nil]
  exact (fun _ h => (by cases h))
set_option maxHeartbeats 4000000 in
theorem vc_Fa_uniteAt_at_Netail_Nehead_Emblock_24_0 (x0 : Int) (x2 : Int) (x8 : Int) (x14 : Int) (x15 : Int) (x16 : Int) (x22 : Int) (x29 : Int) (x30 : Int) (a5_0 : Int → Int) (a3_0 : Int → Int) (a4_0 : Int → Int) (k0 : 0 ≤ x0 ∧ x0 ≤ 23) (k2 : 1 ≤ x2 ∧ x2 ≤ 72) (k8 : 0 ≤ x8 ∧ x8 ≤ 23) (k14 : (-1) ≤ x14 ∧ x14 ≤ (-1)) (k15 : 0 ≤ x15 ∧ x15 ≤ 71) (k16 : 0 ≤ x16 ∧ x16 ≤ 23) (k22 : 0 ≤ x22 ∧ x22 ≤ 23) (k29 : 0 ≤ x29 ∧ x29 ≤ 71) (k30 : 1 ≤ x30 ∧ x30 ≤ 72) (d0 : x15 + 1 ≤ x30 ∧ x30 ≤ x15 + 1) (d4 : x8 + 0 ≤ x22 ∧ x22 ≤ x8 + 0) (d5 : x8 + 0 ≤ x16 ∧ x16 ≤ x8 + 0) (d7 : x8 + (-4294967296) ≤ x0 ∧ x0 ≤ x8 + 0) (d10 : x0 + (-4294967296) ≤ x8 ∧ x8 ≤ x0 + 0) (h1 : x29 = a5_0 (x15)) (h9 : x22 = a4_0 (x15)) (h16 : x16 = a3_0 (x15)) (f17 : x15 < x2) (f19 : UNI (a5_0) (a3_0) (a4_0) (x2) (x0) (x14)) : UNI (a5_0) (a3_0) (a4_0) (x2) (x0) (x29) := by
  first
    | exact uni_first (e := x15) ‹UNI _ _ _ _ _ _› (by assumption) rfl (by omega) (by omega) (by first | exact Or.inl (by omega) | exact Or.inr (by omega))
set_option maxHeartbeats 4000000 in
theorem vc_Fa_uniteAt_at_Netail_Nehead_Emblock_24_1 (x0 : Int) (x1 : Int) (x2 : Int) (x7 : Int) (x8 : Int) (x14 : Int) (x15 : Int) (x16 : Int) (x17 : Int) (x18 : Int) (x19 : Int) (x20 : Int) (x22 : Int) (x23 : Int) (x24 : Int) (x25 : Int) (x26 : Int) (x29 : Int) (x30 : Int) (a5_0 : Int → Int) (a3_0 : Int → Int) (a4_0 : Int → Int) (a6_0 : Int → Int) (k0 : 0 ≤ x0 ∧ x0 ≤ 23) (k1 : 0 ≤ x1 ∧ x1 ≤ 16777215) (k2 : 1 ≤ x2 ∧ x2 ≤ 72) (k7 : 0 ≤ x7 ∧ x7 ≤ 25) (k8 : 0 ≤ x8 ∧ x8 ≤ 23) (k14 : (-1) ≤ x14 ∧ x14 ≤ (-1)) (k15 : 0 ≤ x15 ∧ x15 ≤ 71) (k16 : 0 ≤ x16 ∧ x16 ≤ 23) (k17 : 0 ≤ x17 ∧ x17 ≤ 23) (k18 : 0 ≤ x18 ∧ x18 ≤ 16777215) (k19 : 1 ≤ x19 ∧ x19 ≤ 1) (k20 : 1 ≤ x20 ∧ x20 ≤ 1) (k22 : 0 ≤ x22 ∧ x22 ≤ 23) (k23 : 0 ≤ x23 ∧ x23 ≤ 23) (k29 : 0 ≤ x29 ∧ x29 ≤ 71) (k30 : 1 ≤ x30 ∧ x30 ≤ 72) (d0 : x15 + 1 ≤ x30 ∧ x30 ≤ x15 + 1) (d4 : x8 + 0 ≤ x22 ∧ x22 ≤ x8 + 0) (d5 : x8 + 0 ≤ x16 ∧ x16 ≤ x8 + 0) (d7 : x8 + (-4294967296) ≤ x0 ∧ x0 ≤ x8 + 0) (d10 : x0 + (-4294967296) ≤ x8 ∧ x8 ≤ x0 + 0) (h1 : x29 = a5_0 (x15)) (h7 : x23 = a3_0 (x15)) (h9 : x22 = a4_0 (x15)) (f12 : bvp (x20) = bvp (x18) &&& bvp (x19)) (f13 : bvp (x18) = bvp (x1) >>> (x17).toNat) (h14 : x17 = a4_0 (x15)) (h16 : x16 = a3_0 (x15)) (f17 : x15 < x2) (f20 : UN2 (a5_0) (a3_0) (a4_0) (a6_0) (x7) (x2) (x0) (x1) (x14)) : UN2 (a5_0) (a3_0) (a4_0) (a6_0) (x7) (x2) (x0) (x1) (x29) := by
  first
    | exact un2_first (e := x15) ‹UN2 _ _ _ _ _ _ _ _ _› (by assumption) rfl (by omega) (by omega) (by first | exact Or.inl ⟨by omega, by omega, by rw [← ‹x17 = a4_0 x15›]; exact (bit_one (s := x1) (t := x18) (c := x20) (v := x17) (one := x19) (by assumption) (by assumption) (by omega) (by omega) (by omega) (by omega)).mpr (by omega)⟩ | exact Or.inr ⟨by omega, by omega, by rw [← ‹x19 = a3_0 x15›]; exact (bit_one (s := x1) (t := x20) (c := x22) (v := x19) (one := x21) (by assumption) (by assumption) (by omega) (by omega) (by omega) (by omega)).mpr (by omega)⟩ | exact Or.inr ⟨by omega, by omega, by rw [← ‹x23 = a3_0 x15›]; exact (bit_one (s := x1) (t := x24) (c := x26) (v := x23) (one := x25) (by assumption) (by assumption) (by omega) (by omega) (by omega) (by omega)).mpr (by omega)⟩)
def o_Fa_uniteAt_at_Netail_Nehead_Emblock_24 : or_T := (6, 31, [(0, (0, 0, 23, [])), (1, (0, 0, 16777215, [])), (2, (0, 1, 72, [])), (3, (2, 0, 0, [80])), (4, (2, 0, 0, [81])), (5, (2, 0, 0, [26])), (6, (2, 0, 0, [82])), (7, (0, 0, 25, [])), (8, (0, 0, 23, [])), (9, (0, 0, 16777215, [])), (10, (0, 1, 72, [])), (11, (2, 0, 0, [80])), (12, (2, 0, 0, [81])), (13, (2, 0, 0, [26])), (14, (0, -1, -1, [])), (15, (0, 0, 71, [])), (16, (0, 0, 23, [])), (17, (0, 0, 23, [])), (18, (0, 0, 16777215, [])), (19, (0, 1, 1, [])), (20, (0, 1, 1, [])), (22, (0, 0, 23, [])), (23, (0, 0, 23, [])), (24, (0, 0, 16777215, [])), (25, (0, 1, 1, [])), (26, (0, 0, 0, [])), (28, (0, -1, -1, [])), (29, (0, 0, 71, [])), (30, (0, 1, 72, []))], [(6, [30, 15], [1]), (10, [29, 13, 15], []), (7, [14, 28], [0]), (8, [26], [0]), (12, [26, 24], [2]), (16, [26, 24, 25], [0]), (16, [24, 9, 23], [4]), (10, [23, 11, 15], []), (7, [22, 8], [0]), (10, [22, 12, 15], []), (8, [20], [1]), (12, [20, 18], [2]), (16, [20, 18, 19], [0]), (16, [18, 9, 17], [4]), (10, [17, 12, 15], []), (7, [16, 8], [0]), (10, [16, 11, 15], []), (7, [15, 10], [2]), (20, [13, 10], [61, 1, 566]), (20, [13, 11, 12, 10, 8, 14], [61, 3, 584]), (20, [13, 11, 12, 6, 7, 10, 8, 9, 14], [61, 4, 589]), (24, [0, 8], []), (24, [1, 9], []), (24, [2, 10], []), (24, [3, 11], []), (24, [4, 12], []), (24, [5, 13], [])], [], [], [(20, [13, 11, 12, 10, 8, 29], [61, 3, 584]), (20, [13, 11, 12, 6, 7, 10, 8, 9, 29], [61, 4, 589])], [], [(30, 15, 1, 1), (30, 10, -4294967296, 0), (30, 2, -4294967296, 1), (30, 10, -4294967296, 1), (22, 8, 0, 0), (16, 8, 0, 0), (15, 10, -4294967296, -1), (0, 8, -4294967296, 0), (1, 9, -4294967296, 0), (2, 10, -4294967296, 0), (8, 0, -4294967296, 0), (9, 1, -4294967296, 0), (10, 2, -4294967296, 0), (15, 2, -4294967296, 0), (15, 10, -4294967296, 0)])
theorem oo_Fa_uniteAt_at_Netail_Nehead_Emblock_24 {kA : Nat → ClassId} : or_ok PRD kA GG o_Fa_uniteAt_at_Netail_Nehead_Emblock_24 := by
  refine or_mk fun A ta ws vs hD hth hl => ?_
  intro t0 k0 t1 k1 t2 k2 t3 r3 t4 r4 t5 r5 t6 r6 t7 k7 t8 k8 t9 k9 t10 k10 t11 r11 t12 r12 t13 r13 t14 k14 t15 k15 t16 k16 t17 k17 t18 k18 t19 k19 t20 k20 t22 k22 t23 k23 t24 k24 t25 k25 t26 k26 t28 k28 t29 k29 t30 k30 d0 d1 d2 d3 d4 d5 d6 d7 d8 d9 d10 d11 d12 d13 d14 f0 f1 f2 f3 f4 f5 f6 f7 f8 f9 f10 f11 f12 f13 f14 f15 f16 f17 f18 f19 f20 f21 f22 f23 f24 f25 f26
  replace f1 := shm_107 f1
  replace f7 := shm_107 f7
  replace f9 := shm_107 f9
  replace f12 := shm_11 f12
  replace f13 := shm_13 f13
  replace f14 := shm_107 f14
  replace f16 := shm_107 f16
  replace f17 := shm_6 f17
  replace f19 := shm_1193 f19
  replace f20 := shm_1194 f20
  replace f21 := shm_5 f21
  replace f22 := shm_5 f22
  replace f23 := shm_5 f23
  replace f24 := shm_5 f24
  replace f25 := shm_5 f25
  replace f26 := shm_5 f26
  have q8 : n_v vs 8 = n_v vs 0 := f21.symm
  have q9 : n_v vs 9 = n_v vs 1 := f22.symm
  have q10 : n_v vs 10 = n_v vs 2 := f23.symm
  have q11 : n_v vs 11 = n_v vs 3 := f24.symm
  have q12 : n_v vs 12 = n_v vs 4 := f25.symm
  have q13 : n_v vs 13 = n_v vs 5 := f26.symm
  simp only [q13, q9, q11, q8, q12, q10] at f1 f7 f9 f13 f14 f16 f17 f19 f20
  have h1 : v_iv (n_v vs 29) = w_ei ws (v_ad (n_v vs 5)) (v_iv (n_v vs 15)) := f1
  have h7 : v_iv (n_v vs 23) = w_ei ws (v_ad (n_v vs 3)) (v_iv (n_v vs 15)) := f7
  have h9 : v_iv (n_v vs 22) = w_ei ws (v_ad (n_v vs 4)) (v_iv (n_v vs 15)) := f9
  have h14 : v_iv (n_v vs 17) = w_ei ws (v_ad (n_v vs 4)) (v_iv (n_v vs 15)) := f14
  have h16 : v_iv (n_v vs 16) = w_ei ws (v_ad (n_v vs 3)) (v_iv (n_v vs 15)) := f16
  have nf0 : fc_1 PRD (20, [13, 11, 12, 10, 8, 29], [61, 3, 584]) ws (vs) := by
    refine ⟨nf_in hl rfl, sgq_1193 ?_⟩
    · show UNI (w_ei ws (v_ad (n_v vs 13))) (w_ei ws (v_ad (n_v vs 11))) (w_ei ws (v_ad (n_v vs 12))) (v_iv (n_v vs 10)) (v_iv (n_v vs 8)) (v_iv (n_v vs 29))
      simp only [q8, q10, q11, q12, q13]
      exact vc_Fa_uniteAt_at_Netail_Nehead_Emblock_24_0 (v_iv (n_v vs 0)) (v_iv (n_v vs 2)) (v_iv (n_v vs 8)) (v_iv (n_v vs 14)) (v_iv (n_v vs 15)) (v_iv (n_v vs 16)) (v_iv (n_v vs 22)) (v_iv (n_v vs 29)) (v_iv (n_v vs 30)) (w_ei ws (v_ad (n_v vs 5))) (w_ei ws (v_ad (n_v vs 3))) (w_ei ws (v_ad (n_v vs 4))) k0 k2 k8 k14 k15 k16 k22 k29 k30 d0 d4 d5 d7 d10 h1 h9 h16 f17 f19
  have nf1 : fc_1 PRD (20, [13, 11, 12, 6, 7, 10, 8, 9, 29], [61, 4, 589]) ws (vs) := by
    refine ⟨nf_in hl rfl, sgq_1194 ?_⟩
    · show UN2 (w_ei ws (v_ad (n_v vs 13))) (w_ei ws (v_ad (n_v vs 11))) (w_ei ws (v_ad (n_v vs 12))) (w_ei ws (v_ad (n_v vs 6))) (v_iv (n_v vs 7)) (v_iv (n_v vs 10)) (v_iv (n_v vs 8)) (v_iv (n_v vs 9)) (v_iv (n_v vs 29))
      simp only [q8, q9, q10, q11, q12, q13]
      exact vc_Fa_uniteAt_at_Netail_Nehead_Emblock_24_1 (v_iv (n_v vs 0)) (v_iv (n_v vs 1)) (v_iv (n_v vs 2)) (v_iv (n_v vs 7)) (v_iv (n_v vs 8)) (v_iv (n_v vs 14)) (v_iv (n_v vs 15)) (v_iv (n_v vs 16)) (v_iv (n_v vs 17)) (v_iv (n_v vs 18)) (v_iv (n_v vs 19)) (v_iv (n_v vs 20)) (v_iv (n_v vs 22)) (v_iv (n_v vs 23)) (v_iv (n_v vs 24)) (v_iv (n_v vs 25)) (v_iv (n_v vs 26)) (v_iv (n_v vs 29)) (v_iv (n_v vs 30)) (w_ei ws (v_ad (n_v vs 5))) (w_ei ws (v_ad (n_v vs 3))) (w_ei ws (v_ad (n_v vs 4))) (w_ei ws (v_ad (n_v vs 6))) k0 k1 k2 k7 k8 k14 k15 k16 k17 k18 k19 k20 k22 k23 k29 k30 d0 d4 d5 d7 d10 h1 h7 h9 f12 f13 h14 h16 f17 f20
  refine ⟨(fun _ h => (by cases h)), [], trivial, ?_, (fun _ h => (by cases h))⟩
  rw [List.append_nil]
  exact List.forall_mem_cons.mpr ⟨⟨show (20 : Nat) < 100 from by decide, nf0⟩, List.forall_mem_cons.mpr ⟨⟨show (20 : Nat) < 100 from by decide, nf1⟩, (fun _ h => (by cases h))⟩⟩
set_option maxHeartbeats 4000000 in
theorem vc_Fa_uniteAt_at_Netail_Nehead_Emblock_25_r0 (x2 : Int) (x15 : Int) (x16 : Int) (x17 : Int) (x22 : Int) (x23 : Int) (x29 : Int) (x30 : Int) (a5_0 : Int → Int) (a3_0 : Int → Int) (a4_0 : Int → Int) (k2 : 1 ≤ x2 ∧ x2 ≤ 72) (k15 : 0 ≤ x15 ∧ x15 ≤ 71) (k16 : 0 ≤ x16 ∧ x16 ≤ 23) (k17 : 0 ≤ x17 ∧ x17 ≤ 23) (k22 : 0 ≤ x22 ∧ x22 ≤ 23) (k23 : 0 ≤ x23 ∧ x23 ≤ 23) (k29 : (-1) ≤ x29 ∧ x29 ≤ 71) (k30 : (-1) ≤ x30 ∧ x30 ≤ 71) (h0 : x30 = a5_0 (x15)) (h2 : x29 = a5_0 (x15)) (h8 : x23 = a3_0 (x15)) (h10 : x22 = a4_0 (x15)) (h15 : x17 = a4_0 (x15)) (h17 : x16 = a3_0 (x15)) (f18 : x15 < x2) (f19 : BLQ (a5_0) (x2)) : 0 ≤ x30 ∧ x30 ≤ 71 := by
  first
    | omega
    | (skip; (first | subst h0 | skip); (first | subst h2 | skip); (first | subst h8 | skip); (first | subst h10 | skip); (first | subst h15 | skip); (first | subst h17 | skip); have q := ‹BLQ _ _› x15 (by omega) (by omega); omega)
def o_Fa_uniteAt_at_Netail_Nehead_Emblock_25 : or_T := (112, 31, [(0, (0, 0, 23, [])), (1, (0, 0, 16777215, [])), (2, (0, 1, 72, [])), (3, (2, 0, 0, [80])), (4, (2, 0, 0, [81])), (5, (2, 0, 0, [26])), (6, (2, 0, 0, [82])), (7, (0, 0, 25, [])), (8, (0, 0, 23, [])), (9, (0, 0, 16777215, [])), (10, (0, 1, 72, [])), (11, (2, 0, 0, [80])), (12, (2, 0, 0, [81])), (13, (2, 0, 0, [26])), (14, (0, 0, 71, [])), (15, (0, 0, 71, [])), (16, (0, 0, 23, [])), (17, (0, 0, 23, [])), (18, (0, 0, 16777215, [])), (19, (0, 1, 1, [])), (20, (0, 1, 1, [])), (22, (0, 0, 23, [])), (23, (0, 0, 23, [])), (24, (0, 0, 16777215, [])), (25, (0, 1, 1, [])), (26, (0, 1, 1, [])), (28, (0, -1, -1, [])), (29, (0, -1, 71, [])), (30, (0, -1, 71, []))], [(10, [30, 13, 15], []), (7, [29, 14], [1]), (10, [29, 13, 15], []), (7, [14, 28], [1]), (8, [26], [1]), (12, [26, 24], [2]), (16, [26, 24, 25], [0]), (16, [24, 9, 23], [4]), (10, [23, 11, 15], []), (7, [22, 8], [0]), (10, [22, 12, 15], []), (8, [20], [1]), (12, [20, 18], [2]), (16, [20, 18, 19], [0]), (16, [18, 9, 17], [4]), (10, [17, 12, 15], []), (7, [16, 8], [0]), (10, [16, 11, 15], []), (7, [15, 10], [2]), (20, [13, 10], [61, 1, 566]), (20, [13, 11, 12, 10, 8, 14], [61, 3, 584]), (20, [13, 11, 12, 6, 7, 10, 8, 9, 14], [61, 4, 589]), (24, [0, 8], []), (24, [1, 9], []), (24, [2, 10], []), (24, [3, 11], []), (24, [4, 12], []), (24, [5, 13], [])], [(30, (0, 0, 71, []))], [], [], [], [(22, 8, 0, 0), (16, 8, 0, 0), (15, 10, -4294967296, -1), (0, 8, -4294967296, 0), (1, 9, -4294967296, 0), (2, 10, -4294967296, 0), (8, 0, -4294967296, 0), (9, 1, -4294967296, 0), (10, 2, -4294967296, 0), (14, 15, -4294967296, 70), (15, 2, -4294967296, 0), (15, 10, -4294967296, 0)])
theorem oo_Fa_uniteAt_at_Netail_Nehead_Emblock_25 {kA : Nat → ClassId} : or_ok PRD kA GG o_Fa_uniteAt_at_Netail_Nehead_Emblock_25 := by
  refine or_mk fun A ta ws vs hD hth hl => ?_
  intro t0 k0 t1 k1 t2 k2 t3 r3 t4 r4 t5 r5 t6 r6 t7 k7 t8 k8 t9 k9 t10 k10 t11 r11 t12 r12 t13 r13 t14 k14 t15 k15 t16 k16 t17 k17 t18 k18 t19 k19 t20 k20 t22 k22 t23 k23 t24 k24 t25 k25 t26 k26 t28 k28 t29 k29 t30 k30 d0 d1 d2 d3 d4 d5 d6 d7 d8 d9 d10 d11 f0 f1 f2 f3 f4 f5 f6 f7 f8 f9 f10 f11 f12 f13 f14 f15 f16 f17 f18 f19 f20 f21 f22 f23 f24 f25 f26 f27
  replace f0 := shm_107 f0
  replace f2 := shm_107 f2
  replace f8 := shm_107 f8
  replace f10 := shm_107 f10
  replace f15 := shm_107 f15
  replace f17 := shm_107 f17
  replace f18 := shm_6 f18
  replace f19 := shm_365 f19
  replace f24 := shm_5 f24
  replace f25 := shm_5 f25
  replace f26 := shm_5 f26
  replace f27 := shm_5 f27
  have q10 : n_v vs 10 = n_v vs 2 := f24.symm
  have q11 : n_v vs 11 = n_v vs 3 := f25.symm
  have q12 : n_v vs 12 = n_v vs 4 := f26.symm
  have q13 : n_v vs 13 = n_v vs 5 := f27.symm
  simp only [q13, q11, q12, q10] at f0 f2 f8 f10 f15 f17 f18 f19
  have h0 : v_iv (n_v vs 30) = w_ei ws (v_ad (n_v vs 5)) (v_iv (n_v vs 15)) := f0
  have h2 : v_iv (n_v vs 29) = w_ei ws (v_ad (n_v vs 5)) (v_iv (n_v vs 15)) := f2
  have h8 : v_iv (n_v vs 23) = w_ei ws (v_ad (n_v vs 3)) (v_iv (n_v vs 15)) := f8
  have h10 : v_iv (n_v vs 22) = w_ei ws (v_ad (n_v vs 4)) (v_iv (n_v vs 15)) := f10
  have h15 : v_iv (n_v vs 17) = w_ei ws (v_ad (n_v vs 4)) (v_iv (n_v vs 15)) := f15
  have h17 : v_iv (n_v vs 16) = w_ei ws (v_ad (n_v vs 3)) (v_iv (n_v vs 15)) := f17
  have hrf0 : 0 ≤ v_iv (n_v vs 30) ∧ v_iv (n_v vs 30) ≤ 71 := vc_Fa_uniteAt_at_Netail_Nehead_Emblock_25_r0 (v_iv (n_v vs 2)) (v_iv (n_v vs 15)) (v_iv (n_v vs 16)) (v_iv (n_v vs 17)) (v_iv (n_v vs 22)) (v_iv (n_v vs 23)) (v_iv (n_v vs 29)) (v_iv (n_v vs 30)) (w_ei ws (v_ad (n_v vs 5))) (w_ei ws (v_ad (n_v vs 3))) (w_ei ws (v_ad (n_v vs 4))) k2 k15 k16 k17 k22 k23 k29 k30 h0 h2 h8 h10 h15 h17 f18 f19
  have rf30 : tv_ok ta (0, 0, 71, []) (n_v vs 30) := tv_in t30 (by first | omega | grind) (by first | omega | grind)
  refine ⟨List.forall_mem_cons.mpr ⟨rf30, (fun _ h => (by cases h))⟩, [], trivial, ?_, (fun _ h => (by cases h))⟩
  rw [List.append_nil]
  exact (fun _ h => (by cases h))
set_option maxHeartbeats 4000000 in
theorem vc_Fa_uniteAt_at_Netail_Nehead_Emblock_26_r0 (x15 : Int) (x16 : Int) (x17 : Int) (x22 : Int) (x23 : Int) (x29 : Int) (x30 : Int) (x32 : Int) (a5_0 : Int → Int) (a3_0 : Int → Int) (a4_0 : Int → Int) (k15 : 0 ≤ x15 ∧ x15 ≤ 71) (k16 : 0 ≤ x16 ∧ x16 ≤ 23) (k17 : 0 ≤ x17 ∧ x17 ≤ 23) (k22 : 0 ≤ x22 ∧ x22 ≤ 23) (k23 : 0 ≤ x23 ∧ x23 ≤ 23) (k29 : (-1) ≤ x29 ∧ x29 ≤ 71) (k30 : 0 ≤ x30 ∧ x30 ≤ 71) (k32 : (-1) ≤ x32 ∧ x32 ≤ 71) (h0 : x32 = a5_0 (x15)) (h4 : x30 = a5_0 (x15)) (h6 : x29 = a5_0 (x15)) (h12 : x23 = a3_0 (x15)) (h14 : x22 = a4_0 (x15)) (h19 : x17 = a4_0 (x15)) (h21 : x16 = a3_0 (x15)) : 0 ≤ x32 ∧ x32 ≤ 71 := by
  first
    | omega
    | (skip; (first | subst h0 | skip); (first | subst h4 | skip); (first | subst h6 | skip); (first | subst h12 | skip); (first | subst h14 | skip); (first | subst h19 | skip); (first | subst h21 | skip); have q := ‹BLQ _ _› x15 (by omega) (by omega); omega)
def o_Fa_uniteAt_at_Netail_Nehead_Emblock_26 : or_T := (124, 33, [(0, (0, 0, 23, [])), (1, (0, 0, 16777215, [])), (2, (0, 1, 72, [])), (3, (2, 0, 0, [80])), (4, (2, 0, 0, [81])), (5, (2, 0, 0, [26])), (6, (2, 0, 0, [82])), (7, (0, 0, 25, [])), (8, (0, 0, 23, [])), (9, (0, 0, 16777215, [])), (10, (0, 1, 72, [])), (11, (2, 0, 0, [80])), (12, (2, 0, 0, [81])), (13, (2, 0, 0, [26])), (14, (0, 0, 71, [])), (15, (0, 0, 71, [])), (16, (0, 0, 23, [])), (17, (0, 0, 23, [])), (18, (0, 0, 16777215, [])), (19, (0, 1, 1, [])), (20, (0, 1, 1, [])), (22, (0, 0, 23, [])), (23, (0, 0, 23, [])), (24, (0, 0, 16777215, [])), (25, (0, 1, 1, [])), (26, (0, 1, 1, [])), (28, (0, -1, -1, [])), (29, (0, -1, 71, [])), (30, (0, 0, 71, [])), (31, (0, 0, 71, [])), (32, (0, -1, 71, []))], [(10, [32, 13, 15], []), (23, [14, 31], [0, 1, -1]), (23, [30, 31], [0, 1, -1]), (20, [31, 14, 30], [50, 0, 0, 3, 6, 1, 2, 1, 0, 1, 1, 1, 2, 1, 0, 1, 2]), (10, [30, 13, 15], []), (7, [29, 14], [1]), (10, [29, 13, 15], []), (7, [14, 28], [1]), (8, [26], [1]), (12, [26, 24], [2]), (16, [26, 24, 25], [0]), (16, [24, 9, 23], [4]), (10, [23, 11, 15], []), (7, [22, 8], [0]), (10, [22, 12, 15], []), (8, [20], [1]), (12, [20, 18], [2]), (16, [20, 18, 19], [0]), (16, [18, 9, 17], [4]), (10, [17, 12, 15], []), (7, [16, 8], [0]), (10, [16, 11, 15], []), (7, [15, 10], [2]), (20, [13, 10], [61, 1, 566]), (20, [13, 11, 12, 10, 8, 14], [61, 3, 584]), (20, [13, 11, 12, 6, 7, 10, 8, 9, 14], [61, 4, 589]), (24, [0, 8], []), (24, [1, 9], []), (24, [2, 10], []), (24, [3, 11], []), (24, [4, 12], []), (24, [5, 13], [])], [(32, (0, 0, 71, []))], [], [], [], [(22, 8, 0, 0), (16, 8, 0, 0), (15, 10, -4294967296, -1), (0, 8, -4294967296, 0), (1, 9, -4294967296, 0), (2, 10, -4294967296, 0), (8, 0, -4294967296, 0), (9, 1, -4294967296, 0), (10, 2, -4294967296, 0), (14, 15, -4294967296, 70), (15, 2, -4294967296, 0), (15, 10, -4294967296, 0)])
theorem oo_Fa_uniteAt_at_Netail_Nehead_Emblock_26 {kA : Nat → ClassId} : or_ok PRD kA GG o_Fa_uniteAt_at_Netail_Nehead_Emblock_26 := by
  refine or_mk fun A ta ws vs hD hth hl => ?_
  intro t0 k0 t1 k1 t2 k2 t3 r3 t4 r4 t5 r5 t6 r6 t7 k7 t8 k8 t9 k9 t10 k10 t11 r11 t12 r12 t13 r13 t14 k14 t15 k15 t16 k16 t17 k17 t18 k18 t19 k19 t20 k20 t22 k22 t23 k23 t24 k24 t25 k25 t26 k26 t28 k28 t29 k29 t30 k30 t31 k31 t32 k32 d0 d1 d2 d3 d4 d5 d6 d7 d8 d9 d10 d11 f0 f1 f2 f3 f4 f5 f6 f7 f8 f9 f10 f11 f12 f13 f14 f15 f16 f17 f18 f19 f20 f21 f22 f23 f24 f25 f26 f27 f28 f29 f30 f31
  replace f0 := shm_107 f0
  replace f4 := shm_107 f4
  replace f6 := shm_107 f6
  replace f12 := shm_107 f12
  replace f14 := shm_107 f14
  replace f19 := shm_107 f19
  replace f21 := shm_107 f21
  replace f29 := shm_5 f29
  replace f30 := shm_5 f30
  replace f31 := shm_5 f31
  have q11 : n_v vs 11 = n_v vs 3 := f29.symm
  have q12 : n_v vs 12 = n_v vs 4 := f30.symm
  have q13 : n_v vs 13 = n_v vs 5 := f31.symm
  simp only [q13, q11, q12] at f0 f4 f6 f12 f14 f19 f21
  have h0 : v_iv (n_v vs 32) = w_ei ws (v_ad (n_v vs 5)) (v_iv (n_v vs 15)) := f0
  have h4 : v_iv (n_v vs 30) = w_ei ws (v_ad (n_v vs 5)) (v_iv (n_v vs 15)) := f4
  have h6 : v_iv (n_v vs 29) = w_ei ws (v_ad (n_v vs 5)) (v_iv (n_v vs 15)) := f6
  have h12 : v_iv (n_v vs 23) = w_ei ws (v_ad (n_v vs 3)) (v_iv (n_v vs 15)) := f12
  have h14 : v_iv (n_v vs 22) = w_ei ws (v_ad (n_v vs 4)) (v_iv (n_v vs 15)) := f14
  have h19 : v_iv (n_v vs 17) = w_ei ws (v_ad (n_v vs 4)) (v_iv (n_v vs 15)) := f19
  have h21 : v_iv (n_v vs 16) = w_ei ws (v_ad (n_v vs 3)) (v_iv (n_v vs 15)) := f21
  have hrf0 : 0 ≤ v_iv (n_v vs 32) ∧ v_iv (n_v vs 32) ≤ 71 := vc_Fa_uniteAt_at_Netail_Nehead_Emblock_26_r0 (v_iv (n_v vs 15)) (v_iv (n_v vs 16)) (v_iv (n_v vs 17)) (v_iv (n_v vs 22)) (v_iv (n_v vs 23)) (v_iv (n_v vs 29)) (v_iv (n_v vs 30)) (v_iv (n_v vs 32)) (w_ei ws (v_ad (n_v vs 5))) (w_ei ws (v_ad (n_v vs 3))) (w_ei ws (v_ad (n_v vs 4))) k15 k16 k17 k22 k23 k29 k30 k32 h0 h4 h6 h12 h14 h19 h21
  have rf32 : tv_ok ta (0, 0, 71, []) (n_v vs 32) := tv_in t32 (by first | omega | grind) (by first | omega | grind)
  refine ⟨List.forall_mem_cons.mpr ⟨rf32, (fun _ h => (by cases h))⟩, [], trivial, ?_, (fun _ h => (by cases h))⟩
  rw [List.append_nil]
  exact (fun _ h => (by cases h))
set_option maxHeartbeats 4000000 in
theorem vc_Fa_uniteAt_at_Netail_Nehead_Emblock_27_2 (x0 : Int) (x8 : Int) (x15 : Int) (x16 : Int) (x17 : Int) (x22 : Int) (x23 : Int) (x29 : Int) (x30 : Int) (x32 : Int) (a5_0 : Int → Int) (a3_0 : Int → Int) (a4_0 : Int → Int) (gu : Int) (k0 : 0 ≤ x0 ∧ x0 ≤ 23) (k8 : 0 ≤ x8 ∧ x8 ≤ 23) (k15 : 0 ≤ x15 ∧ x15 ≤ 71) (k16 : 0 ≤ x16 ∧ x16 ≤ 23) (k17 : 0 ≤ x17 ∧ x17 ≤ 23) (k22 : 0 ≤ x22 ∧ x22 ≤ 23) (k23 : 0 ≤ x23 ∧ x23 ≤ 23) (k29 : (-1) ≤ x29 ∧ x29 ≤ 71) (k30 : 0 ≤ x30 ∧ x30 ≤ 71) (k32 : 0 ≤ x32 ∧ x32 ≤ 71) (d0 : x8 + 0 ≤ x22 ∧ x22 ≤ x8 + 0) (d3 : x8 + (-4294967296) ≤ x0 ∧ x0 ≤ x8 + 0) (d6 : x0 + (-4294967296) ≤ x8 ∧ x8 ≤ x0 + 0) (h3 : x32 = a5_0 (x15)) (h7 : x30 = a5_0 (x15)) (h9 : x29 = a5_0 (x15)) (h15 : x23 = a3_0 (x15)) (h17 : x22 = a4_0 (x15)) (h22 : x17 = a4_0 (x15)) (h24 : x16 = a3_0 (x15)) (eu2 : gu = x0) : 1 * gu + ((-1) * x0 + 0) ≤ 0 := by
  first
    | omega
    | (skip; (first | subst h3 | skip); (first | subst h7 | skip); (first | subst h9 | skip); (first | subst h15 | skip); (first | subst h17 | skip); (first | subst h22 | skip); (first | subst h24 | skip); have q := ‹BLQ _ _› x15 (by omega) (by omega); omega)
set_option maxHeartbeats 4000000 in
theorem vc_Fa_uniteAt_at_Netail_Nehead_Emblock_27_3 (x0 : Int) (x8 : Int) (x15 : Int) (x16 : Int) (x17 : Int) (x22 : Int) (x23 : Int) (x29 : Int) (x30 : Int) (x32 : Int) (a5_0 : Int → Int) (a3_0 : Int → Int) (a4_0 : Int → Int) (gu : Int) (k0 : 0 ≤ x0 ∧ x0 ≤ 23) (k8 : 0 ≤ x8 ∧ x8 ≤ 23) (k15 : 0 ≤ x15 ∧ x15 ≤ 71) (k16 : 0 ≤ x16 ∧ x16 ≤ 23) (k17 : 0 ≤ x17 ∧ x17 ≤ 23) (k22 : 0 ≤ x22 ∧ x22 ≤ 23) (k23 : 0 ≤ x23 ∧ x23 ≤ 23) (k29 : (-1) ≤ x29 ∧ x29 ≤ 71) (k30 : 0 ≤ x30 ∧ x30 ≤ 71) (k32 : 0 ≤ x32 ∧ x32 ≤ 71) (d0 : x8 + 0 ≤ x22 ∧ x22 ≤ x8 + 0) (d3 : x8 + (-4294967296) ≤ x0 ∧ x0 ≤ x8 + 0) (d6 : x0 + (-4294967296) ≤ x8 ∧ x8 ≤ x0 + 0) (h3 : x32 = a5_0 (x15)) (h7 : x30 = a5_0 (x15)) (h9 : x29 = a5_0 (x15)) (h15 : x23 = a3_0 (x15)) (h17 : x22 = a4_0 (x15)) (h22 : x17 = a4_0 (x15)) (h24 : x16 = a3_0 (x15)) (eu2 : gu = x0) : (-1) * gu + (1 * x0 + 0) ≤ 0 := by
  first
    | omega
    | (skip; (first | subst h3 | skip); (first | subst h7 | skip); (first | subst h9 | skip); (first | subst h15 | skip); (first | subst h17 | skip); (first | subst h22 | skip); (first | subst h24 | skip); have q := ‹BLQ _ _› x15 (by omega) (by omega); omega)
set_option maxHeartbeats 4000000 in
theorem vc_Fa_uniteAt_at_Netail_Nehead_Emblock_27_5 (x7 : Int) (x15 : Int) (x16 : Int) (x17 : Int) (x22 : Int) (x23 : Int) (x29 : Int) (x30 : Int) (x32 : Int) (a5_0 : Int → Int) (a3_0 : Int → Int) (a4_0 : Int → Int) (gc : Int) (k7 : 0 ≤ x7 ∧ x7 ≤ 25) (k15 : 0 ≤ x15 ∧ x15 ≤ 71) (k16 : 0 ≤ x16 ∧ x16 ≤ 23) (k17 : 0 ≤ x17 ∧ x17 ≤ 23) (k22 : 0 ≤ x22 ∧ x22 ≤ 23) (k23 : 0 ≤ x23 ∧ x23 ≤ 23) (k29 : (-1) ≤ x29 ∧ x29 ≤ 71) (k30 : 0 ≤ x30 ∧ x30 ≤ 71) (k32 : 0 ≤ x32 ∧ x32 ≤ 71) (h3 : x32 = a5_0 (x15)) (h7 : x30 = a5_0 (x15)) (h9 : x29 = a5_0 (x15)) (h15 : x23 = a3_0 (x15)) (h17 : x22 = a4_0 (x15)) (h22 : x17 = a4_0 (x15)) (h24 : x16 = a3_0 (x15)) (ec2 : gc = x7) : 1 * gc + ((-1) * x7 + 0) ≤ 0 := by
  first
    | omega
    | (skip; (first | subst h3 | skip); (first | subst h7 | skip); (first | subst h9 | skip); (first | subst h15 | skip); (first | subst h17 | skip); (first | subst h22 | skip); (first | subst h24 | skip); have q := ‹BLQ _ _› x15 (by omega) (by omega); omega)
set_option maxHeartbeats 4000000 in
theorem vc_Fa_uniteAt_at_Netail_Nehead_Emblock_27_6 (x7 : Int) (x15 : Int) (x16 : Int) (x17 : Int) (x22 : Int) (x23 : Int) (x29 : Int) (x30 : Int) (x32 : Int) (a5_0 : Int → Int) (a3_0 : Int → Int) (a4_0 : Int → Int) (gc : Int) (k7 : 0 ≤ x7 ∧ x7 ≤ 25) (k15 : 0 ≤ x15 ∧ x15 ≤ 71) (k16 : 0 ≤ x16 ∧ x16 ≤ 23) (k17 : 0 ≤ x17 ∧ x17 ≤ 23) (k22 : 0 ≤ x22 ∧ x22 ≤ 23) (k23 : 0 ≤ x23 ∧ x23 ≤ 23) (k29 : (-1) ≤ x29 ∧ x29 ≤ 71) (k30 : 0 ≤ x30 ∧ x30 ≤ 71) (k32 : 0 ≤ x32 ∧ x32 ≤ 71) (h3 : x32 = a5_0 (x15)) (h7 : x30 = a5_0 (x15)) (h9 : x29 = a5_0 (x15)) (h15 : x23 = a3_0 (x15)) (h17 : x22 = a4_0 (x15)) (h22 : x17 = a4_0 (x15)) (h24 : x16 = a3_0 (x15)) (ec2 : gc = x7) : (-1) * gc + (1 * x7 + 0) ≤ 0 := by
  first
    | omega
    | (skip; (first | subst h3 | skip); (first | subst h7 | skip); (first | subst h9 | skip); (first | subst h15 | skip); (first | subst h17 | skip); (first | subst h22 | skip); (first | subst h24 | skip); have q := ‹BLQ _ _› x15 (by omega) (by omega); omega)
set_option maxHeartbeats 4000000 in
theorem vc_Fa_uniteAt_at_Netail_Nehead_Emblock_27_7 (x1 : Int) (x9 : Int) (x15 : Int) (x16 : Int) (x17 : Int) (x22 : Int) (x23 : Int) (x29 : Int) (x30 : Int) (x32 : Int) (a5_0 : Int → Int) (a3_0 : Int → Int) (a4_0 : Int → Int) (gd : Int) (k1 : 0 ≤ x1 ∧ x1 ≤ 16777215) (k9 : 0 ≤ x9 ∧ x9 ≤ 16777215) (k15 : 0 ≤ x15 ∧ x15 ≤ 71) (k16 : 0 ≤ x16 ∧ x16 ≤ 23) (k17 : 0 ≤ x17 ∧ x17 ≤ 23) (k22 : 0 ≤ x22 ∧ x22 ≤ 23) (k23 : 0 ≤ x23 ∧ x23 ≤ 23) (k29 : (-1) ≤ x29 ∧ x29 ≤ 71) (k30 : 0 ≤ x30 ∧ x30 ≤ 71) (k32 : 0 ≤ x32 ∧ x32 ≤ 71) (d4 : x9 + (-4294967296) ≤ x1 ∧ x1 ≤ x9 + 0) (d7 : x1 + (-4294967296) ≤ x9 ∧ x9 ≤ x1 + 0) (h3 : x32 = a5_0 (x15)) (h7 : x30 = a5_0 (x15)) (h9 : x29 = a5_0 (x15)) (h15 : x23 = a3_0 (x15)) (h17 : x22 = a4_0 (x15)) (h22 : x17 = a4_0 (x15)) (h24 : x16 = a3_0 (x15)) (ed2 : gd = x1) : 1 * gd + ((-1) * x1 + 0) ≤ 0 := by
  first
    | omega
    | (skip; (first | subst h3 | skip); (first | subst h7 | skip); (first | subst h9 | skip); (first | subst h15 | skip); (first | subst h17 | skip); (first | subst h22 | skip); (first | subst h24 | skip); have q := ‹BLQ _ _› x15 (by omega) (by omega); omega)
set_option maxHeartbeats 4000000 in
theorem vc_Fa_uniteAt_at_Netail_Nehead_Emblock_27_8 (x1 : Int) (x9 : Int) (x15 : Int) (x16 : Int) (x17 : Int) (x22 : Int) (x23 : Int) (x29 : Int) (x30 : Int) (x32 : Int) (a5_0 : Int → Int) (a3_0 : Int → Int) (a4_0 : Int → Int) (gd : Int) (k1 : 0 ≤ x1 ∧ x1 ≤ 16777215) (k9 : 0 ≤ x9 ∧ x9 ≤ 16777215) (k15 : 0 ≤ x15 ∧ x15 ≤ 71) (k16 : 0 ≤ x16 ∧ x16 ≤ 23) (k17 : 0 ≤ x17 ∧ x17 ≤ 23) (k22 : 0 ≤ x22 ∧ x22 ≤ 23) (k23 : 0 ≤ x23 ∧ x23 ≤ 23) (k29 : (-1) ≤ x29 ∧ x29 ≤ 71) (k30 : 0 ≤ x30 ∧ x30 ≤ 71) (k32 : 0 ≤ x32 ∧ x32 ≤ 71) (d4 : x9 + (-4294967296) ≤ x1 ∧ x1 ≤ x9 + 0) (d7 : x1 + (-4294967296) ≤ x9 ∧ x9 ≤ x1 + 0) (h3 : x32 = a5_0 (x15)) (h7 : x30 = a5_0 (x15)) (h9 : x29 = a5_0 (x15)) (h15 : x23 = a3_0 (x15)) (h17 : x22 = a4_0 (x15)) (h22 : x17 = a4_0 (x15)) (h24 : x16 = a3_0 (x15)) (ed2 : gd = x1) : (-1) * gd + (1 * x1 + 0) ≤ 0 := by
  first
    | omega
    | (skip; (first | subst h3 | skip); (first | subst h7 | skip); (first | subst h9 | skip); (first | subst h15 | skip); (first | subst h17 | skip); (first | subst h22 | skip); (first | subst h24 | skip); have q := ‹BLQ _ _› x15 (by omega) (by omega); omega)
set_option maxHeartbeats 4000000 in
theorem vc_Fa_uniteAt_at_Netail_Nehead_Emblock_27_9 (x2 : Int) (a5_0 : Int → Int) (k2 : 1 ≤ x2 ∧ x2 ≤ 72) (f26 : BLQ (a5_0) (x2)) : BLQ (a5_0) (x2) := by
  first
    | assumption
  
set_option maxHeartbeats 4000000 in
theorem vc_Fa_uniteAt_at_Netail_Nehead_Emblock_27_10 (x15 : Int) (x16 : Int) (x17 : Int) (x22 : Int) (x23 : Int) (x29 : Int) (x30 : Int) (x31 : Int) (x32 : Int) (x33 : Int) (a5_0 : Int → Int) (a3_0 : Int → Int) (a4_0 : Int → Int) (k15 : 0 ≤ x15 ∧ x15 ≤ 71) (k16 : 0 ≤ x16 ∧ x16 ≤ 23) (k17 : 0 ≤ x17 ∧ x17 ≤ 23) (k22 : 0 ≤ x22 ∧ x22 ≤ 23) (k23 : 0 ≤ x23 ∧ x23 ≤ 23) (k29 : (-1) ≤ x29 ∧ x29 ≤ 71) (k30 : 0 ≤ x30 ∧ x30 ≤ 71) (k31 : 0 ≤ x31 ∧ x31 ≤ 71) (k32 : 0 ≤ x32 ∧ x32 ≤ 71) (k33 : 0 ≤ x33 ∧ x33 ≤ 71) (f1 : (-1) * x32 + (1 * x33 + 0) ≤ 0) (h3 : x32 = a5_0 (x15)) (f5 : 1 * x30 + ((-1) * x31 + 0) ≤ 0) (h7 : x30 = a5_0 (x15)) (h9 : x29 = a5_0 (x15)) (h15 : x23 = a3_0 (x15)) (h17 : x22 = a4_0 (x15)) (h22 : x17 = a4_0 (x15)) (h24 : x16 = a3_0 (x15)) : (0 ≤ x33) ∧ (x33 ≤ x31) := by
  first
    | omega
    | (skip; (first | subst h3 | skip); (first | subst h7 | skip); (first | subst h9 | skip); (first | subst h15 | skip); (first | subst h17 | skip); (first | subst h22 | skip); (first | subst h24 | skip); have q := ‹BLQ _ _› x15 (by omega) (by omega); omega)
set_option maxHeartbeats 4000000 in
theorem vc_Fa_uniteAt_at_Netail_Nehead_Emblock_27_11 (x0 : Int) (x2 : Int) (x8 : Int) (x14 : Int) (x15 : Int) (x16 : Int) (x20 : Int) (x22 : Int) (x26 : Int) (x28 : Int) (x29 : Int) (x30 : Int) (x31 : Int) (x32 : Int) (x33 : Int) (a5_0 : Int → Int) (a3_0 : Int → Int) (a4_0 : Int → Int) (gu : Int) (k0 : 0 ≤ x0 ∧ x0 ≤ 23) (k2 : 1 ≤ x2 ∧ x2 ≤ 72) (k8 : 0 ≤ x8 ∧ x8 ≤ 23) (k14 : 0 ≤ x14 ∧ x14 ≤ 71) (k15 : 0 ≤ x15 ∧ x15 ≤ 71) (k16 : 0 ≤ x16 ∧ x16 ≤ 23) (k20 : 1 ≤ x20 ∧ x20 ≤ 1) (k22 : 0 ≤ x22 ∧ x22 ≤ 23) (k26 : 1 ≤ x26 ∧ x26 ≤ 1) (k28 : (-1) ≤ x28 ∧ x28 ≤ (-1)) (k29 : (-1) ≤ x29 ∧ x29 ≤ 71) (k30 : 0 ≤ x30 ∧ x30 ≤ 71) (k31 : 0 ≤ x31 ∧ x31 ≤ 71) (k32 : 0 ≤ x32 ∧ x32 ≤ 71) (k33 : 0 ≤ x33 ∧ x33 ≤ 71) (d0 : x8 + 0 ≤ x22 ∧ x22 ≤ x8 + 0) (d1 : x8 + 0 ≤ x16 ∧ x16 ≤ x8 + 0) (d3 : x8 + (-4294967296) ≤ x0 ∧ x0 ≤ x8 + 0) (d6 : x0 + (-4294967296) ≤ x8 ∧ x8 ≤ x0 + 0) (f0 : (-1) * x14 + (1 * x33 + 0) ≤ 0) (f1 : (-1) * x32 + (1 * x33 + 0) ≤ 0) (f2 : (x33 = x14) ∨ (x33 = x32)) (h3 : x32 = a5_0 (x15)) (f4 : 1 * x14 + ((-1) * x31 + 0) ≤ 0) (f5 : 1 * x30 + ((-1) * x31 + 0) ≤ 0) (f6 : (x31 = x14) ∨ (x31 = x30)) (h7 : x30 = a5_0 (x15)) (f8 : x29 ≠ x14) (h9 : x29 = a5_0 (x15)) (f10 : x14 ≠ x28) (f11 : x26 ≠ 0) (h17 : x22 = a4_0 (x15)) (f18 : x20 ≠ 0) (h24 : x16 = a3_0 (x15)) (f25 : x15 < x2) (f27 : UNI (a5_0) (a3_0) (a4_0) (x2) (x0) (x14)) (eu2 : gu = x0) : RLP (a5_0) (a3_0) (a4_0) (x2) (x31) (x33) (gu) := by
  first
    | (rw [show gu = x0 by omega]; exact uni_rlp (e := x15) ‹UNI _ _ _ _ _ _› (by omega) rfl (by omega) (by omega) (by omega) (by first | exact Or.inl (by omega) | exact Or.inr (by omega)) (by omega) (by omega) (by omega) (by omega) (by omega) (by omega))
  
set_option maxHeartbeats 4000000 in
theorem vc_Fa_uniteAt_at_Netail_Nehead_Emblock_27_12 (x0 : Int) (x1 : Int) (x2 : Int) (x7 : Int) (x8 : Int) (x14 : Int) (x15 : Int) (x16 : Int) (x17 : Int) (x18 : Int) (x19 : Int) (x20 : Int) (x22 : Int) (x23 : Int) (x24 : Int) (x25 : Int) (x26 : Int) (x28 : Int) (x29 : Int) (x30 : Int) (x31 : Int) (x32 : Int) (x33 : Int) (a5_0 : Int → Int) (a3_0 : Int → Int) (a4_0 : Int → Int) (a6_0 : Int → Int) (gu : Int) (gc : Int) (gd : Int) (k0 : 0 ≤ x0 ∧ x0 ≤ 23) (k1 : 0 ≤ x1 ∧ x1 ≤ 16777215) (k2 : 1 ≤ x2 ∧ x2 ≤ 72) (k7 : 0 ≤ x7 ∧ x7 ≤ 25) (k8 : 0 ≤ x8 ∧ x8 ≤ 23) (k14 : 0 ≤ x14 ∧ x14 ≤ 71) (k15 : 0 ≤ x15 ∧ x15 ≤ 71) (k16 : 0 ≤ x16 ∧ x16 ≤ 23) (k17 : 0 ≤ x17 ∧ x17 ≤ 23) (k18 : 0 ≤ x18 ∧ x18 ≤ 16777215) (k19 : 1 ≤ x19 ∧ x19 ≤ 1) (k20 : 1 ≤ x20 ∧ x20 ≤ 1) (k22 : 0 ≤ x22 ∧ x22 ≤ 23) (k23 : 0 ≤ x23 ∧ x23 ≤ 23) (k26 : 1 ≤ x26 ∧ x26 ≤ 1) (k28 : (-1) ≤ x28 ∧ x28 ≤ (-1)) (k29 : (-1) ≤ x29 ∧ x29 ≤ 71) (k30 : 0 ≤ x30 ∧ x30 ≤ 71) (k31 : 0 ≤ x31 ∧ x31 ≤ 71) (k32 : 0 ≤ x32 ∧ x32 ≤ 71) (k33 : 0 ≤ x33 ∧ x33 ≤ 71) (d0 : x8 + 0 ≤ x22 ∧ x22 ≤ x8 + 0) (d1 : x8 + 0 ≤ x16 ∧ x16 ≤ x8 + 0) (d3 : x8 + (-4294967296) ≤ x0 ∧ x0 ≤ x8 + 0) (d6 : x0 + (-4294967296) ≤ x8 ∧ x8 ≤ x0 + 0) (f0 : (-1) * x14 + (1 * x33 + 0) ≤ 0) (f1 : (-1) * x32 + (1 * x33 + 0) ≤ 0) (f2 : (x33 = x14) ∨ (x33 = x32)) (h3 : x32 = a5_0 (x15)) (f4 : 1 * x14 + ((-1) * x31 + 0) ≤ 0) (f5 : 1 * x30 + ((-1) * x31 + 0) ≤ 0) (f6 : (x31 = x14) ∨ (x31 = x30)) (h7 : x30 = a5_0 (x15)) (f8 : x29 ≠ x14) (h9 : x29 = a5_0 (x15)) (f10 : x14 ≠ x28) (f11 : x26 ≠ 0) (h15 : x23 = a3_0 (x15)) (h17 : x22 = a4_0 (x15)) (f18 : x20 ≠ 0) (f20 : bvp (x20) = bvp (x18) &&& bvp (x19)) (f21 : bvp (x18) = bvp (x1) >>> (x17).toNat) (h22 : x17 = a4_0 (x15)) (h24 : x16 = a3_0 (x15)) (f25 : x15 < x2) (f28 : UN2 (a5_0) (a3_0) (a4_0) (a6_0) (x7) (x2) (x0) (x1) (x14)) (eu2 : gu = x0) (ec2 : gc = x7) (ed2 : gd = x1) : QKP (a5_0) (a3_0) (a4_0) (a6_0) (gc) (x2) (gu) (gd) (x31) (x33) := by
  first
    | (rw [show gu = x0 by omega, show gc = x7 by omega, show gd = x1 by omega]; exact un2_qkp (e := x15) ‹UN2 _ _ _ _ _ _ _ _ _› (by omega) rfl (by omega) (by omega) (by omega) (by first | exact Or.inl ⟨by omega, by omega, by rw [← ‹x17 = a4_0 x15›]; exact (bit_one (s := x1) (t := x18) (c := x20) (v := x17) (one := x19) (by assumption) (by assumption) (by omega) (by omega) (by omega) (by omega)).mpr (by omega)⟩ | exact Or.inr ⟨by omega, by omega, by rw [← ‹x19 = a3_0 x15›]; exact (bit_one (s := x1) (t := x20) (c := x22) (v := x19) (one := x21) (by assumption) (by assumption) (by omega) (by omega) (by omega) (by omega)).mpr (by omega)⟩ | exact Or.inr ⟨by omega, by omega, by rw [← ‹x23 = a3_0 x15›]; exact (bit_one (s := x1) (t := x24) (c := x26) (v := x23) (one := x25) (by assumption) (by assumption) (by omega) (by omega) (by omega) (by omega)).mpr (by omega)⟩) (by omega) (by omega) (by omega) (by omega) (by omega) (by omega))
  
set_option maxHeartbeats 4000000 in
theorem vc_Fa_uniteAt_at_Netail_Nehead_Emblock_27_13 (x0 : Int) (x15 : Int) (x16 : Int) (x17 : Int) (x22 : Int) (x23 : Int) (x29 : Int) (x30 : Int) (x32 : Int) (a5_0 : Int → Int) (a3_0 : Int → Int) (a4_0 : Int → Int) (gu : Int) (k0 : 0 ≤ x0 ∧ x0 ≤ 23) (k15 : 0 ≤ x15 ∧ x15 ≤ 71) (k16 : 0 ≤ x16 ∧ x16 ≤ 23) (k17 : 0 ≤ x17 ∧ x17 ≤ 23) (k22 : 0 ≤ x22 ∧ x22 ≤ 23) (k23 : 0 ≤ x23 ∧ x23 ≤ 23) (k29 : (-1) ≤ x29 ∧ x29 ≤ 71) (k30 : 0 ≤ x30 ∧ x30 ≤ 71) (k32 : 0 ≤ x32 ∧ x32 ≤ 71) (h3 : x32 = a5_0 (x15)) (h7 : x30 = a5_0 (x15)) (h9 : x29 = a5_0 (x15)) (h15 : x23 = a3_0 (x15)) (h17 : x22 = a4_0 (x15)) (h22 : x17 = a4_0 (x15)) (h24 : x16 = a3_0 (x15)) (eu2 : gu = x0) : gu = x0 := by
  first
    | omega
    | (skip; (first | subst h3 | skip); (first | subst h7 | skip); (first | subst h9 | skip); (first | subst h15 | skip); (first | subst h17 | skip); (first | subst h22 | skip); (first | subst h24 | skip); have q := ‹BLQ _ _› x15 (by omega) (by omega); omega)
set_option maxHeartbeats 4000000 in
theorem vc_Fa_uniteAt_at_Netail_Nehead_Emblock_27_14 (x15 : Int) (x16 : Int) (x17 : Int) (x22 : Int) (x23 : Int) (x29 : Int) (x30 : Int) (x32 : Int) (x33 : Int) (a5_0 : Int → Int) (a3_0 : Int → Int) (a4_0 : Int → Int) (k15 : 0 ≤ x15 ∧ x15 ≤ 71) (k16 : 0 ≤ x16 ∧ x16 ≤ 23) (k17 : 0 ≤ x17 ∧ x17 ≤ 23) (k22 : 0 ≤ x22 ∧ x22 ≤ 23) (k23 : 0 ≤ x23 ∧ x23 ≤ 23) (k29 : (-1) ≤ x29 ∧ x29 ≤ 71) (k30 : 0 ≤ x30 ∧ x30 ≤ 71) (k32 : 0 ≤ x32 ∧ x32 ≤ 71) (k33 : 0 ≤ x33 ∧ x33 ≤ 71) (h3 : x32 = a5_0 (x15)) (h7 : x30 = a5_0 (x15)) (h9 : x29 = a5_0 (x15)) (h15 : x23 = a3_0 (x15)) (h17 : x22 = a4_0 (x15)) (h22 : x17 = a4_0 (x15)) (h24 : x16 = a3_0 (x15)) : 0 ≤ x33 := by
  first
    | omega
    | (skip; (first | subst h3 | skip); (first | subst h7 | skip); (first | subst h9 | skip); (first | subst h15 | skip); (first | subst h17 | skip); (first | subst h22 | skip); (first | subst h24 | skip); have q := ‹BLQ _ _› x15 (by omega) (by omega); omega)
set_option maxHeartbeats 4000000 in
theorem vc_Fa_uniteAt_at_Netail_Nehead_Emblock_27_15 (x7 : Int) (x15 : Int) (x16 : Int) (x17 : Int) (x22 : Int) (x23 : Int) (x29 : Int) (x30 : Int) (x32 : Int) (a5_0 : Int → Int) (a3_0 : Int → Int) (a4_0 : Int → Int) (gc : Int) (k7 : 0 ≤ x7 ∧ x7 ≤ 25) (k15 : 0 ≤ x15 ∧ x15 ≤ 71) (k16 : 0 ≤ x16 ∧ x16 ≤ 23) (k17 : 0 ≤ x17 ∧ x17 ≤ 23) (k22 : 0 ≤ x22 ∧ x22 ≤ 23) (k23 : 0 ≤ x23 ∧ x23 ≤ 23) (k29 : (-1) ≤ x29 ∧ x29 ≤ 71) (k30 : 0 ≤ x30 ∧ x30 ≤ 71) (k32 : 0 ≤ x32 ∧ x32 ≤ 71) (h3 : x32 = a5_0 (x15)) (h7 : x30 = a5_0 (x15)) (h9 : x29 = a5_0 (x15)) (h15 : x23 = a3_0 (x15)) (h17 : x22 = a4_0 (x15)) (h22 : x17 = a4_0 (x15)) (h24 : x16 = a3_0 (x15)) (ec2 : gc = x7) : gc = x7 := by
  first
    | omega
    | (skip; (first | subst h3 | skip); (first | subst h7 | skip); (first | subst h9 | skip); (first | subst h15 | skip); (first | subst h17 | skip); (first | subst h22 | skip); (first | subst h24 | skip); have q := ‹BLQ _ _› x15 (by omega) (by omega); omega)
set_option maxHeartbeats 4000000 in
theorem vc_Fa_uniteAt_at_Netail_Nehead_Emblock_27_16 (x1 : Int) (x15 : Int) (x16 : Int) (x17 : Int) (x22 : Int) (x23 : Int) (x29 : Int) (x30 : Int) (x32 : Int) (a5_0 : Int → Int) (a3_0 : Int → Int) (a4_0 : Int → Int) (gd : Int) (k1 : 0 ≤ x1 ∧ x1 ≤ 16777215) (k15 : 0 ≤ x15 ∧ x15 ≤ 71) (k16 : 0 ≤ x16 ∧ x16 ≤ 23) (k17 : 0 ≤ x17 ∧ x17 ≤ 23) (k22 : 0 ≤ x22 ∧ x22 ≤ 23) (k23 : 0 ≤ x23 ∧ x23 ≤ 23) (k29 : (-1) ≤ x29 ∧ x29 ≤ 71) (k30 : 0 ≤ x30 ∧ x30 ≤ 71) (k32 : 0 ≤ x32 ∧ x32 ≤ 71) (h3 : x32 = a5_0 (x15)) (h7 : x30 = a5_0 (x15)) (h9 : x29 = a5_0 (x15)) (h15 : x23 = a3_0 (x15)) (h17 : x22 = a4_0 (x15)) (h22 : x17 = a4_0 (x15)) (h24 : x16 = a3_0 (x15)) (ed2 : gd = x1) : gd = x1 := by
  first
    | omega
    | (skip; (first | subst h3 | skip); (first | subst h7 | skip); (first | subst h9 | skip); (first | subst h15 | skip); (first | subst h17 | skip); (first | subst h22 | skip); (first | subst h24 | skip); have q := ‹BLQ _ _› x15 (by omega) (by omega); omega)
def o_Fa_uniteAt_at_Netail_Nehead_Emblock_27 : or_T := (136, 34, [(0, (0, 0, 23, [])), (1, (0, 0, 16777215, [])), (2, (0, 1, 72, [])), (3, (2, 0, 0, [80])), (4, (2, 0, 0, [81])), (5, (2, 0, 0, [26])), (6, (2, 0, 0, [82])), (7, (0, 0, 25, [])), (8, (0, 0, 23, [])), (9, (0, 0, 16777215, [])), (10, (0, 1, 72, [])), (11, (2, 0, 0, [80])), (12, (2, 0, 0, [81])), (13, (2, 0, 0, [26])), (14, (0, 0, 71, [])), (15, (0, 0, 71, [])), (16, (0, 0, 23, [])), (17, (0, 0, 23, [])), (18, (0, 0, 16777215, [])), (19, (0, 1, 1, [])), (20, (0, 1, 1, [])), (22, (0, 0, 23, [])), (23, (0, 0, 23, [])), (24, (0, 0, 16777215, [])), (25, (0, 1, 1, [])), (26, (0, 1, 1, [])), (28, (0, -1, -1, [])), (29, (0, -1, 71, [])), (30, (0, 0, 71, [])), (31, (0, 0, 71, [])), (32, (0, 0, 71, [])), (33, (0, 0, 71, []))], [(23, [14, 33], [0, -1, 1]), (23, [32, 33], [0, -1, 1]), (20, [33, 14, 32], [50, 0, 0, 3, 6, 1, 2, 1, 0, 1, 1, 1, 2, 1, 0, 1, 2]), (10, [32, 13, 15], []), (23, [14, 31], [0, 1, -1]), (23, [30, 31], [0, 1, -1]), (20, [31, 14, 30], [50, 0, 0, 3, 6, 1, 2, 1, 0, 1, 1, 1, 2, 1, 0, 1, 2]), (10, [30, 13, 15], []), (7, [29, 14], [1]), (10, [29, 13, 15], []), (7, [14, 28], [1]), (8, [26], [1]), (12, [26, 24], [2]), (16, [26, 24, 25], [0]), (16, [24, 9, 23], [4]), (10, [23, 11, 15], []), (7, [22, 8], [0]), (10, [22, 12, 15], []), (8, [20], [1]), (12, [20, 18], [2]), (16, [20, 18, 19], [0]), (16, [18, 9, 17], [4]), (10, [17, 12, 15], []), (7, [16, 8], [0]), (10, [16, 11, 15], []), (7, [15, 10], [2]), (20, [13, 10], [61, 1, 566]), (20, [13, 11, 12, 10, 8, 14], [61, 3, 584]), (20, [13, 11, 12, 6, 7, 10, 8, 9, 14], [61, 4, 589]), (24, [0, 8], []), (24, [1, 9], []), (24, [2, 10], []), (24, [3, 11], []), (24, [4, 12], []), (24, [5, 13], [])], [], [(2, 0, 0, [80]), (2, 0, 0, [81]), (0, 0, 24, []), (2, 0, 0, [82]), (0, 0, 25, []), (0, -2147483648, 2147483647, [])], [(24, [3, 34], []), (24, [4, 35], []), (23, [36, 8], [0, 1, -1]), (23, [36, 8], [0, -1, 1]), (24, [6, 37], []), (23, [38, 7], [0, 1, -1]), (23, [38, 7], [0, -1, 1]), (23, [39, 9], [0, 1, -1]), (23, [39, 9], [0, -1, 1]), (20, [13, 10], [61, 1, 566]), (20, [33, 31], [50, 0, 0, 2, 6, 0, 2, 0, 0, 1, 0, 0, 2, 1, 0, 1, 1]), (20, [13, 34, 35, 10, 31, 33, 36], [61, 3, 581]), (20, [13, 34, 35, 37, 38, 10, 36, 39, 31, 33], [61, 4, 590]), (20, [36, 8], [50, 0, 0, 1, 2, 1, 0, 1, 1]), (20, [33], [50, 0, 0, 0, 2, 0, 0, 1, 0]), (20, [38, 7], [50, 0, 0, 1, 2, 1, 0, 1, 1]), (20, [39, 9], [50, 0, 0, 1, 2, 1, 0, 1, 1])], [], [(22, 8, 0, 0), (16, 8, 0, 0), (15, 10, -4294967296, -1), (0, 8, -4294967296, 0), (1, 9, -4294967296, 0), (2, 10, -4294967296, 0), (8, 0, -4294967296, 0), (9, 1, -4294967296, 0), (10, 2, -4294967296, 0), (14, 15, -4294967296, 70), (15, 2, -4294967296, 0), (15, 10, -4294967296, 0)])
theorem oo_Fa_uniteAt_at_Netail_Nehead_Emblock_27 {kA : Nat → ClassId} : or_ok PRD kA GG o_Fa_uniteAt_at_Netail_Nehead_Emblock_27 := by
  refine or_mk fun A ta ws vs hD hth hl => ?_
  intro t0 k0 t1 k1 t2 k2 t3 r3 t4 r4 t5 r5 t6 r6 t7 k7 t8 k8 t9 k9 t10 k10 t11 r11 t12 r12 t13 r13 t14 k14 t15 k15 t16 k16 t17 k17 t18 k18 t19 k19 t20 k20 t22 k22 t23 k23 t24 k24 t25 k25 t26 k26 t28 k28 t29 k29 t30 k30 t31 k31 t32 k32 t33 k33 d0 d1 d2 d3 d4 d5 d6 d7 d8 d9 d10 d11 f0 f1 f2 f3 f4 f5 f6 f7 f8 f9 f10 f11 f12 f13 f14 f15 f16 f17 f18 f19 f20 f21 f22 f23 f24 f25 f26 f27 f28 f29 f30 f31 f32 f33 f34
  replace f0 := shm_22 f0
  replace f1 := shm_22 f1
  replace f2 := shm_898 f2
  replace f3 := shm_107 f3
  replace f4 := shm_7 f4
  replace f5 := shm_7 f5
  replace f6 := shm_898 f6
  replace f7 := shm_107 f7
  replace f8 := shm_40 f8
  replace f9 := shm_107 f9
  replace f10 := shm_40 f10
  replace f11 := shm_142 f11
  replace f15 := shm_107 f15
  replace f17 := shm_107 f17
  replace f18 := shm_142 f18
  replace f20 := shm_11 f20
  replace f21 := shm_13 f21
  replace f22 := shm_107 f22
  replace f24 := shm_107 f24
  replace f25 := shm_6 f25
  replace f26 := shm_365 f26
  replace f27 := shm_1193 f27
  replace f28 := shm_1194 f28
  replace f29 := shm_5 f29
  replace f30 := shm_5 f30
  replace f31 := shm_5 f31
  replace f32 := shm_5 f32
  replace f33 := shm_5 f33
  replace f34 := shm_5 f34
  have q8 : n_v vs 8 = n_v vs 0 := f29.symm
  have q9 : n_v vs 9 = n_v vs 1 := f30.symm
  have q10 : n_v vs 10 = n_v vs 2 := f31.symm
  have q11 : n_v vs 11 = n_v vs 3 := f32.symm
  have q12 : n_v vs 12 = n_v vs 4 := f33.symm
  have q13 : n_v vs 13 = n_v vs 5 := f34.symm
  simp only [q13, q9, q11, q8, q12, q10] at f3 f7 f9 f15 f17 f21 f22 f24 f25 f26 f27 f28
  have h3 : v_iv (n_v vs 32) = w_ei ws (v_ad (n_v vs 5)) (v_iv (n_v vs 15)) := f3
  have h7 : v_iv (n_v vs 30) = w_ei ws (v_ad (n_v vs 5)) (v_iv (n_v vs 15)) := f7
  have h9 : v_iv (n_v vs 29) = w_ei ws (v_ad (n_v vs 5)) (v_iv (n_v vs 15)) := f9
  have h15 : v_iv (n_v vs 23) = w_ei ws (v_ad (n_v vs 3)) (v_iv (n_v vs 15)) := f15
  have h17 : v_iv (n_v vs 22) = w_ei ws (v_ad (n_v vs 4)) (v_iv (n_v vs 15)) := f17
  have h22 : v_iv (n_v vs 17) = w_ei ws (v_ad (n_v vs 4)) (v_iv (n_v vs 15)) := f22
  have h24 : v_iv (n_v vs 16) = w_ei ws (v_ad (n_v vs 3)) (v_iv (n_v vs 15)) := f24
  obtain ⟨u, eu, hu⟩ := iv_ex (ta := ta) (lo := 0) (hi := 24) (z := v_iv (n_v vs 0)) (by omega) (by omega) (by omega) (by omega)
  have eu2 : v_iv (Value.int u) = v_iv (n_v vs 0) := eu
  have eu3 : 0 ≤ v_iv (Value.int u) ∧ v_iv (Value.int u) ≤ 24 := tv_rng hu
  obtain ⟨c, ec, hc⟩ := iv_ex (ta := ta) (lo := 0) (hi := 25) (z := v_iv (n_v vs 7)) (by omega) (by omega) (by omega) (by omega)
  have ec2 : v_iv (Value.int c) = v_iv (n_v vs 7) := ec
  have ec3 : 0 ≤ v_iv (Value.int c) ∧ v_iv (Value.int c) ≤ 25 := tv_rng hc
  obtain ⟨d, ed, hd⟩ := iv_ex (ta := ta) (lo := (-2147483648)) (hi := 2147483647) (z := v_iv (n_v vs 1)) (by omega) (by omega) (by omega) (by omega)
  have ed2 : v_iv (Value.int d) = v_iv (n_v vs 1) := ed
  have ed3 : (-2147483648) ≤ v_iv (Value.int d) ∧ v_iv (Value.int d) ≤ 2147483647 := tv_rng hd
  have e_3 : n_v (vs ++ [n_v vs 3, n_v vs 4, Value.int u, n_v vs 6, Value.int c, Value.int d]) 3 = n_v vs 3 := n_v_old (by rw [hl]; decide)
  have e_4 : n_v (vs ++ [n_v vs 3, n_v vs 4, Value.int u, n_v vs 6, Value.int c, Value.int d]) 4 = n_v vs 4 := n_v_old (by rw [hl]; decide)
  have e_6 : n_v (vs ++ [n_v vs 3, n_v vs 4, Value.int u, n_v vs 6, Value.int c, Value.int d]) 6 = n_v vs 6 := n_v_old (by rw [hl]; decide)
  have e_7 : n_v (vs ++ [n_v vs 3, n_v vs 4, Value.int u, n_v vs 6, Value.int c, Value.int d]) 7 = n_v vs 7 := n_v_old (by rw [hl]; decide)
  have e_8 : n_v (vs ++ [n_v vs 3, n_v vs 4, Value.int u, n_v vs 6, Value.int c, Value.int d]) 8 = n_v vs 8 := n_v_old (by rw [hl]; decide)
  have e_9 : n_v (vs ++ [n_v vs 3, n_v vs 4, Value.int u, n_v vs 6, Value.int c, Value.int d]) 9 = n_v vs 9 := n_v_old (by rw [hl]; decide)
  have e_10 : n_v (vs ++ [n_v vs 3, n_v vs 4, Value.int u, n_v vs 6, Value.int c, Value.int d]) 10 = n_v vs 10 := n_v_old (by rw [hl]; decide)
  have e_13 : n_v (vs ++ [n_v vs 3, n_v vs 4, Value.int u, n_v vs 6, Value.int c, Value.int d]) 13 = n_v vs 13 := n_v_old (by rw [hl]; decide)
  have e_31 : n_v (vs ++ [n_v vs 3, n_v vs 4, Value.int u, n_v vs 6, Value.int c, Value.int d]) 31 = n_v vs 31 := n_v_old (by rw [hl]; decide)
  have e_33 : n_v (vs ++ [n_v vs 3, n_v vs 4, Value.int u, n_v vs 6, Value.int c, Value.int d]) 33 = n_v vs 33 := n_v_old (by rw [hl]; decide)
  have e_34 : n_v (vs ++ [n_v vs 3, n_v vs 4, Value.int u, n_v vs 6, Value.int c, Value.int d]) 34 = n_v vs 3 := n_v_newk (k := 0) hl rfl
  have e_35 : n_v (vs ++ [n_v vs 3, n_v vs 4, Value.int u, n_v vs 6, Value.int c, Value.int d]) 35 = n_v vs 4 := n_v_newk (k := 1) hl rfl
  have e_36 : n_v (vs ++ [n_v vs 3, n_v vs 4, Value.int u, n_v vs 6, Value.int c, Value.int d]) 36 = Value.int u := n_v_newk (k := 2) hl rfl
  have e_37 : n_v (vs ++ [n_v vs 3, n_v vs 4, Value.int u, n_v vs 6, Value.int c, Value.int d]) 37 = n_v vs 6 := n_v_newk (k := 3) hl rfl
  have e_38 : n_v (vs ++ [n_v vs 3, n_v vs 4, Value.int u, n_v vs 6, Value.int c, Value.int d]) 38 = Value.int c := n_v_newk (k := 4) hl rfl
  have e_39 : n_v (vs ++ [n_v vs 3, n_v vs 4, Value.int u, n_v vs 6, Value.int c, Value.int d]) 39 = Value.int d := n_v_newk (k := 5) hl rfl
  have nf0 : fc_1 PRD (24, [3, 34], []) ws (vs ++ [n_v vs 3, n_v vs 4, Value.int u, n_v vs 6, Value.int c, Value.int d]) := by
    refine ⟨nf_inA hl rfl, sgq_5 ?_⟩
    · show n_v (vs ++ [n_v vs 3, n_v vs 4, Value.int u, n_v vs 6, Value.int c, Value.int d]) 3 = n_v (vs ++ [n_v vs 3, n_v vs 4, Value.int u, n_v vs 6, Value.int c, Value.int d]) 34
      first | rfl | simp only [e_3, e_34, q8, q9, q10, q11, q12, q13]
  have nf1 : fc_1 PRD (24, [4, 35], []) ws (vs ++ [n_v vs 3, n_v vs 4, Value.int u, n_v vs 6, Value.int c, Value.int d]) := by
    refine ⟨nf_inA hl rfl, sgq_5 ?_⟩
    · show n_v (vs ++ [n_v vs 3, n_v vs 4, Value.int u, n_v vs 6, Value.int c, Value.int d]) 4 = n_v (vs ++ [n_v vs 3, n_v vs 4, Value.int u, n_v vs 6, Value.int c, Value.int d]) 35
      first | rfl | simp only [e_4, e_35, q8, q9, q10, q11, q12, q13]
  have nf2 : fc_1 PRD (23, [36, 8], [0, 1, -1]) ws (vs ++ [n_v vs 3, n_v vs 4, Value.int u, n_v vs 6, Value.int c, Value.int d]) := by
    refine ⟨nf_inA hl rfl, sgq_7 ?_⟩
    · show 1 * v_iv (n_v (vs ++ [n_v vs 3, n_v vs 4, Value.int u, n_v vs 6, Value.int c, Value.int d]) 36) + ((-1) * v_iv (n_v (vs ++ [n_v vs 3, n_v vs 4, Value.int u, n_v vs 6, Value.int c, Value.int d]) 8) + 0) ≤ 0
      simp only [e_8, e_36, q8]
      exact vc_Fa_uniteAt_at_Netail_Nehead_Emblock_27_2 (v_iv (n_v vs 0)) (v_iv (n_v vs 8)) (v_iv (n_v vs 15)) (v_iv (n_v vs 16)) (v_iv (n_v vs 17)) (v_iv (n_v vs 22)) (v_iv (n_v vs 23)) (v_iv (n_v vs 29)) (v_iv (n_v vs 30)) (v_iv (n_v vs 32)) (w_ei ws (v_ad (n_v vs 5))) (w_ei ws (v_ad (n_v vs 3))) (w_ei ws (v_ad (n_v vs 4))) (v_iv (Value.int u)) k0 k8 k15 k16 k17 k22 k23 k29 k30 k32 d0 d3 d6 h3 h7 h9 h15 h17 h22 h24 eu2
  have nf3 : fc_1 PRD (23, [36, 8], [0, -1, 1]) ws (vs ++ [n_v vs 3, n_v vs 4, Value.int u, n_v vs 6, Value.int c, Value.int d]) := by
    refine ⟨nf_inA hl rfl, sgq_22 ?_⟩
    · show (-1) * v_iv (n_v (vs ++ [n_v vs 3, n_v vs 4, Value.int u, n_v vs 6, Value.int c, Value.int d]) 36) + (1 * v_iv (n_v (vs ++ [n_v vs 3, n_v vs 4, Value.int u, n_v vs 6, Value.int c, Value.int d]) 8) + 0) ≤ 0
      simp only [e_8, e_36, q8]
      exact vc_Fa_uniteAt_at_Netail_Nehead_Emblock_27_3 (v_iv (n_v vs 0)) (v_iv (n_v vs 8)) (v_iv (n_v vs 15)) (v_iv (n_v vs 16)) (v_iv (n_v vs 17)) (v_iv (n_v vs 22)) (v_iv (n_v vs 23)) (v_iv (n_v vs 29)) (v_iv (n_v vs 30)) (v_iv (n_v vs 32)) (w_ei ws (v_ad (n_v vs 5))) (w_ei ws (v_ad (n_v vs 3))) (w_ei ws (v_ad (n_v vs 4))) (v_iv (Value.int u)) k0 k8 k15 k16 k17 k22 k23 k29 k30 k32 d0 d3 d6 h3 h7 h9 h15 h17 h22 h24 eu2
  have nf4 : fc_1 PRD (24, [6, 37], []) ws (vs ++ [n_v vs 3, n_v vs 4, Value.int u, n_v vs 6, Value.int c, Value.int d]) := by
    refine ⟨nf_inA hl rfl, sgq_5 ?_⟩
    · show n_v (vs ++ [n_v vs 3, n_v vs 4, Value.int u, n_v vs 6, Value.int c, Value.int d]) 6 = n_v (vs ++ [n_v vs 3, n_v vs 4, Value.int u, n_v vs 6, Value.int c, Value.int d]) 37
      first | rfl | simp only [e_6, e_37, q8, q9, q10, q11, q12, q13]
  have nf5 : fc_1 PRD (23, [38, 7], [0, 1, -1]) ws (vs ++ [n_v vs 3, n_v vs 4, Value.int u, n_v vs 6, Value.int c, Value.int d]) := by
    refine ⟨nf_inA hl rfl, sgq_7 ?_⟩
    · show 1 * v_iv (n_v (vs ++ [n_v vs 3, n_v vs 4, Value.int u, n_v vs 6, Value.int c, Value.int d]) 38) + ((-1) * v_iv (n_v (vs ++ [n_v vs 3, n_v vs 4, Value.int u, n_v vs 6, Value.int c, Value.int d]) 7) + 0) ≤ 0
      simp only [e_7, e_38]
      exact vc_Fa_uniteAt_at_Netail_Nehead_Emblock_27_5 (v_iv (n_v vs 7)) (v_iv (n_v vs 15)) (v_iv (n_v vs 16)) (v_iv (n_v vs 17)) (v_iv (n_v vs 22)) (v_iv (n_v vs 23)) (v_iv (n_v vs 29)) (v_iv (n_v vs 30)) (v_iv (n_v vs 32)) (w_ei ws (v_ad (n_v vs 5))) (w_ei ws (v_ad (n_v vs 3))) (w_ei ws (v_ad (n_v vs 4))) (v_iv (Value.int c)) k7 k15 k16 k17 k22 k23 k29 k30 k32 h3 h7 h9 h15 h17 h22 h24 ec2
  have nf6 : fc_1 PRD (23, [38, 7], [0, -1, 1]) ws (vs ++ [n_v vs 3, n_v vs 4, Value.int u, n_v vs 6, Value.int c, Value.int d]) := by
    refine ⟨nf_inA hl rfl, sgq_22 ?_⟩
    · show (-1) * v_iv (n_v (vs ++ [n_v vs 3, n_v vs 4, Value.int u, n_v vs 6, Value.int c, Value.int d]) 38) + (1 * v_iv (n_v (vs ++ [n_v vs 3, n_v vs 4, Value.int u, n_v vs 6, Value.int c, Value.int d]) 7) + 0) ≤ 0
      simp only [e_7, e_38]
      exact vc_Fa_uniteAt_at_Netail_Nehead_Emblock_27_6 (v_iv (n_v vs 7)) (v_iv (n_v vs 15)) (v_iv (n_v vs 16)) (v_iv (n_v vs 17)) (v_iv (n_v vs 22)) (v_iv (n_v vs 23)) (v_iv (n_v vs 29)) (v_iv (n_v vs 30)) (v_iv (n_v vs 32)) (w_ei ws (v_ad (n_v vs 5))) (w_ei ws (v_ad (n_v vs 3))) (w_ei ws (v_ad (n_v vs 4))) (v_iv (Value.int c)) k7 k15 k16 k17 k22 k23 k29 k30 k32 h3 h7 h9 h15 h17 h22 h24 ec2
  have nf7 : fc_1 PRD (23, [39, 9], [0, 1, -1]) ws (vs ++ [n_v vs 3, n_v vs 4, Value.int u, n_v vs 6, Value.int c, Value.int d]) := by
    refine ⟨nf_inA hl rfl, sgq_7 ?_⟩
    · show 1 * v_iv (n_v (vs ++ [n_v vs 3, n_v vs 4, Value.int u, n_v vs 6, Value.int c, Value.int d]) 39) + ((-1) * v_iv (n_v (vs ++ [n_v vs 3, n_v vs 4, Value.int u, n_v vs 6, Value.int c, Value.int d]) 9) + 0) ≤ 0
      simp only [e_9, e_39, q9]
      exact vc_Fa_uniteAt_at_Netail_Nehead_Emblock_27_7 (v_iv (n_v vs 1)) (v_iv (n_v vs 9)) (v_iv (n_v vs 15)) (v_iv (n_v vs 16)) (v_iv (n_v vs 17)) (v_iv (n_v vs 22)) (v_iv (n_v vs 23)) (v_iv (n_v vs 29)) (v_iv (n_v vs 30)) (v_iv (n_v vs 32)) (w_ei ws (v_ad (n_v vs 5))) (w_ei ws (v_ad (n_v vs 3))) (w_ei ws (v_ad (n_v vs 4))) (v_iv (Value.int d)) k1 k9 k15 k16 k17 k22 k23 k29 k30 k32 d4 d7 h3 h7 h9 h15 h17 h22 h24 ed2
  have nf8 : fc_1 PRD (23, [39, 9], [0, -1, 1]) ws (vs ++ [n_v vs 3, n_v vs 4, Value.int u, n_v vs 6, Value.int c, Value.int d]) := by
    refine ⟨nf_inA hl rfl, sgq_22 ?_⟩
    · show (-1) * v_iv (n_v (vs ++ [n_v vs 3, n_v vs 4, Value.int u, n_v vs 6, Value.int c, Value.int d]) 39) + (1 * v_iv (n_v (vs ++ [n_v vs 3, n_v vs 4, Value.int u, n_v vs 6, Value.int c, Value.int d]) 9) + 0) ≤ 0
      simp only [e_9, e_39, q9]
      exact vc_Fa_uniteAt_at_Netail_Nehead_Emblock_27_8 (v_iv (n_v vs 1)) (v_iv (n_v vs 9)) (v_iv (n_v vs 15)) (v_iv (n_v vs 16)) (v_iv (n_v vs 17)) (v_iv (n_v vs 22)) (v_iv (n_v vs 23)) (v_iv (n_v vs 29)) (v_iv (n_v vs 30)) (v_iv (n_v vs 32)) (w_ei ws (v_ad (n_v vs 5))) (w_ei ws (v_ad (n_v vs 3))) (w_ei ws (v_ad (n_v vs 4))) (v_iv (Value.int d)) k1 k9 k15 k16 k17 k22 k23 k29 k30 k32 d4 d7 h3 h7 h9 h15 h17 h22 h24 ed2
  have nf9 : fc_1 PRD (20, [13, 10], [61, 1, 566]) ws (vs ++ [n_v vs 3, n_v vs 4, Value.int u, n_v vs 6, Value.int c, Value.int d]) := by
    refine ⟨nf_inA hl rfl, sgq_365 ?_⟩
    · show BLQ (w_ei ws (v_ad (n_v (vs ++ [n_v vs 3, n_v vs 4, Value.int u, n_v vs 6, Value.int c, Value.int d]) 13))) (v_iv (n_v (vs ++ [n_v vs 3, n_v vs 4, Value.int u, n_v vs 6, Value.int c, Value.int d]) 10))
      simp only [e_10, e_13, q10, q13]
      exact vc_Fa_uniteAt_at_Netail_Nehead_Emblock_27_9 (v_iv (n_v vs 2)) (w_ei ws (v_ad (n_v vs 5))) k2 f26
  have nf10 : fc_1 PRD (20, [33, 31], [50, 0, 0, 2, 6, 0, 2, 0, 0, 1, 0, 0, 2, 1, 0, 1, 1]) ws (vs ++ [n_v vs 3, n_v vs 4, Value.int u, n_v vs 6, Value.int c, Value.int d]) := by
    refine ⟨nf_inA hl rfl, sgq_366 ?_⟩
    · show (0 ≤ v_iv (n_v (vs ++ [n_v vs 3, n_v vs 4, Value.int u, n_v vs 6, Value.int c, Value.int d]) 33)) ∧ (v_iv (n_v (vs ++ [n_v vs 3, n_v vs 4, Value.int u, n_v vs 6, Value.int c, Value.int d]) 33) ≤ v_iv (n_v (vs ++ [n_v vs 3, n_v vs 4, Value.int u, n_v vs 6, Value.int c, Value.int d]) 31))
      simp only [e_31, e_33]
      exact vc_Fa_uniteAt_at_Netail_Nehead_Emblock_27_10 (v_iv (n_v vs 15)) (v_iv (n_v vs 16)) (v_iv (n_v vs 17)) (v_iv (n_v vs 22)) (v_iv (n_v vs 23)) (v_iv (n_v vs 29)) (v_iv (n_v vs 30)) (v_iv (n_v vs 31)) (v_iv (n_v vs 32)) (v_iv (n_v vs 33)) (w_ei ws (v_ad (n_v vs 5))) (w_ei ws (v_ad (n_v vs 3))) (w_ei ws (v_ad (n_v vs 4))) k15 k16 k17 k22 k23 k29 k30 k31 k32 k33 f1 h3 f5 h7 h9 h15 h17 h22 h24
  have nf11 : fc_1 PRD (20, [13, 34, 35, 10, 31, 33, 36], [61, 3, 581]) ws (vs ++ [n_v vs 3, n_v vs 4, Value.int u, n_v vs 6, Value.int c, Value.int d]) := by
    refine ⟨nf_inA hl rfl, sgq_367 ?_⟩
    · show RLP (w_ei ws (v_ad (n_v (vs ++ [n_v vs 3, n_v vs 4, Value.int u, n_v vs 6, Value.int c, Value.int d]) 13))) (w_ei ws (v_ad (n_v (vs ++ [n_v vs 3, n_v vs 4, Value.int u, n_v vs 6, Value.int c, Value.int d]) 34))) (w_ei ws (v_ad (n_v (vs ++ [n_v vs 3, n_v vs 4, Value.int u, n_v vs 6, Value.int c, Value.int d]) 35))) (v_iv (n_v (vs ++ [n_v vs 3, n_v vs 4, Value.int u, n_v vs 6, Value.int c, Value.int d]) 10)) (v_iv (n_v (vs ++ [n_v vs 3, n_v vs 4, Value.int u, n_v vs 6, Value.int c, Value.int d]) 31)) (v_iv (n_v (vs ++ [n_v vs 3, n_v vs 4, Value.int u, n_v vs 6, Value.int c, Value.int d]) 33)) (v_iv (n_v (vs ++ [n_v vs 3, n_v vs 4, Value.int u, n_v vs 6, Value.int c, Value.int d]) 36))
      simp only [e_10, e_13, e_31, e_33, e_34, e_35, e_36, q10, q13]
      exact vc_Fa_uniteAt_at_Netail_Nehead_Emblock_27_11 (v_iv (n_v vs 0)) (v_iv (n_v vs 2)) (v_iv (n_v vs 8)) (v_iv (n_v vs 14)) (v_iv (n_v vs 15)) (v_iv (n_v vs 16)) (v_iv (n_v vs 20)) (v_iv (n_v vs 22)) (v_iv (n_v vs 26)) (v_iv (n_v vs 28)) (v_iv (n_v vs 29)) (v_iv (n_v vs 30)) (v_iv (n_v vs 31)) (v_iv (n_v vs 32)) (v_iv (n_v vs 33)) (w_ei ws (v_ad (n_v vs 5))) (w_ei ws (v_ad (n_v vs 3))) (w_ei ws (v_ad (n_v vs 4))) (v_iv (Value.int u)) k0 k2 k8 k14 k15 k16 k20 k22 k26 k28 k29 k30 k31 k32 k33 d0 d1 d3 d6 f0 f1 f2 h3 f4 f5 f6 h7 f8 h9 f10 f11 h17 f18 h24 f25 f27 eu2
  have nf12 : fc_1 PRD (20, [13, 34, 35, 37, 38, 10, 36, 39, 31, 33], [61, 4, 590]) ws (vs ++ [n_v vs 3, n_v vs 4, Value.int u, n_v vs 6, Value.int c, Value.int d]) := by
    refine ⟨nf_inA hl rfl, sgq_368 ?_⟩
    · show QKP (w_ei ws (v_ad (n_v (vs ++ [n_v vs 3, n_v vs 4, Value.int u, n_v vs 6, Value.int c, Value.int d]) 13))) (w_ei ws (v_ad (n_v (vs ++ [n_v vs 3, n_v vs 4, Value.int u, n_v vs 6, Value.int c, Value.int d]) 34))) (w_ei ws (v_ad (n_v (vs ++ [n_v vs 3, n_v vs 4, Value.int u, n_v vs 6, Value.int c, Value.int d]) 35))) (w_ei ws (v_ad (n_v (vs ++ [n_v vs 3, n_v vs 4, Value.int u, n_v vs 6, Value.int c, Value.int d]) 37))) (v_iv (n_v (vs ++ [n_v vs 3, n_v vs 4, Value.int u, n_v vs 6, Value.int c, Value.int d]) 38)) (v_iv (n_v (vs ++ [n_v vs 3, n_v vs 4, Value.int u, n_v vs 6, Value.int c, Value.int d]) 10)) (v_iv (n_v (vs ++ [n_v vs 3, n_v vs 4, Value.int u, n_v vs 6, Value.int c, Value.int d]) 36)) (v_iv (n_v (vs ++ [n_v vs 3, n_v vs 4, Value.int u, n_v vs 6, Value.int c, Value.int d]) 39)) (v_iv (n_v (vs ++ [n_v vs 3, n_v vs 4, Value.int u, n_v vs 6, Value.int c, Value.int d]) 31)) (v_iv (n_v (vs ++ [n_v vs 3, n_v vs 4, Value.int u, n_v vs 6, Value.int c, Value.int d]) 33))
      simp only [e_10, e_13, e_31, e_33, e_34, e_35, e_36, e_37, e_38, e_39, q10, q13]
      exact vc_Fa_uniteAt_at_Netail_Nehead_Emblock_27_12 (v_iv (n_v vs 0)) (v_iv (n_v vs 1)) (v_iv (n_v vs 2)) (v_iv (n_v vs 7)) (v_iv (n_v vs 8)) (v_iv (n_v vs 14)) (v_iv (n_v vs 15)) (v_iv (n_v vs 16)) (v_iv (n_v vs 17)) (v_iv (n_v vs 18)) (v_iv (n_v vs 19)) (v_iv (n_v vs 20)) (v_iv (n_v vs 22)) (v_iv (n_v vs 23)) (v_iv (n_v vs 24)) (v_iv (n_v vs 25)) (v_iv (n_v vs 26)) (v_iv (n_v vs 28)) (v_iv (n_v vs 29)) (v_iv (n_v vs 30)) (v_iv (n_v vs 31)) (v_iv (n_v vs 32)) (v_iv (n_v vs 33)) (w_ei ws (v_ad (n_v vs 5))) (w_ei ws (v_ad (n_v vs 3))) (w_ei ws (v_ad (n_v vs 4))) (w_ei ws (v_ad (n_v vs 6))) (v_iv (Value.int u)) (v_iv (Value.int c)) (v_iv (Value.int d)) k0 k1 k2 k7 k8 k14 k15 k16 k17 k18 k19 k20 k22 k23 k26 k28 k29 k30 k31 k32 k33 d0 d1 d3 d6 f0 f1 f2 h3 f4 f5 f6 h7 f8 h9 f10 f11 h15 h17 f18 f20 f21 h22 h24 f25 f28 eu2 ec2 ed2
  have nf13 : fc_1 PRD (20, [36, 8], [50, 0, 0, 1, 2, 1, 0, 1, 1]) ws (vs ++ [n_v vs 3, n_v vs 4, Value.int u, n_v vs 6, Value.int c, Value.int d]) := by
    refine ⟨nf_inA hl rfl, sgq_48 ?_⟩
    · show v_iv (n_v (vs ++ [n_v vs 3, n_v vs 4, Value.int u, n_v vs 6, Value.int c, Value.int d]) 36) = v_iv (n_v (vs ++ [n_v vs 3, n_v vs 4, Value.int u, n_v vs 6, Value.int c, Value.int d]) 8)
      simp only [e_8, e_36, q8]
      exact vc_Fa_uniteAt_at_Netail_Nehead_Emblock_27_13 (v_iv (n_v vs 0)) (v_iv (n_v vs 15)) (v_iv (n_v vs 16)) (v_iv (n_v vs 17)) (v_iv (n_v vs 22)) (v_iv (n_v vs 23)) (v_iv (n_v vs 29)) (v_iv (n_v vs 30)) (v_iv (n_v vs 32)) (w_ei ws (v_ad (n_v vs 5))) (w_ei ws (v_ad (n_v vs 3))) (w_ei ws (v_ad (n_v vs 4))) (v_iv (Value.int u)) k0 k15 k16 k17 k22 k23 k29 k30 k32 h3 h7 h9 h15 h17 h22 h24 eu2
  have nf14 : fc_1 PRD (20, [33], [50, 0, 0, 0, 2, 0, 0, 1, 0]) ws (vs ++ [n_v vs 3, n_v vs 4, Value.int u, n_v vs 6, Value.int c, Value.int d]) := by
    refine ⟨nf_inA hl rfl, sgq_722 ?_⟩
    · show 0 ≤ v_iv (n_v (vs ++ [n_v vs 3, n_v vs 4, Value.int u, n_v vs 6, Value.int c, Value.int d]) 33)
      rw [e_33]
      exact vc_Fa_uniteAt_at_Netail_Nehead_Emblock_27_14 (v_iv (n_v vs 15)) (v_iv (n_v vs 16)) (v_iv (n_v vs 17)) (v_iv (n_v vs 22)) (v_iv (n_v vs 23)) (v_iv (n_v vs 29)) (v_iv (n_v vs 30)) (v_iv (n_v vs 32)) (v_iv (n_v vs 33)) (w_ei ws (v_ad (n_v vs 5))) (w_ei ws (v_ad (n_v vs 3))) (w_ei ws (v_ad (n_v vs 4))) k15 k16 k17 k22 k23 k29 k30 k32 k33 h3 h7 h9 h15 h17 h22 h24
  have nf15 : fc_1 PRD (20, [38, 7], [50, 0, 0, 1, 2, 1, 0, 1, 1]) ws (vs ++ [n_v vs 3, n_v vs 4, Value.int u, n_v vs 6, Value.int c, Value.int d]) := by
    refine ⟨nf_inA hl rfl, sgq_48 ?_⟩
    · show v_iv (n_v (vs ++ [n_v vs 3, n_v vs 4, Value.int u, n_v vs 6, Value.int c, Value.int d]) 38) = v_iv (n_v (vs ++ [n_v vs 3, n_v vs 4, Value.int u, n_v vs 6, Value.int c, Value.int d]) 7)
      simp only [e_7, e_38]
      exact vc_Fa_uniteAt_at_Netail_Nehead_Emblock_27_15 (v_iv (n_v vs 7)) (v_iv (n_v vs 15)) (v_iv (n_v vs 16)) (v_iv (n_v vs 17)) (v_iv (n_v vs 22)) (v_iv (n_v vs 23)) (v_iv (n_v vs 29)) (v_iv (n_v vs 30)) (v_iv (n_v vs 32)) (w_ei ws (v_ad (n_v vs 5))) (w_ei ws (v_ad (n_v vs 3))) (w_ei ws (v_ad (n_v vs 4))) (v_iv (Value.int c)) k7 k15 k16 k17 k22 k23 k29 k30 k32 h3 h7 h9 h15 h17 h22 h24 ec2
  have nf16 : fc_1 PRD (20, [39, 9], [50, 0, 0, 1, 2, 1, 0, 1, 1]) ws (vs ++ [n_v vs 3, n_v vs 4, Value.int u, n_v vs 6, Value.int c, Value.int d]) := by
    refine ⟨nf_inA hl rfl, sgq_48 ?_⟩
    · show v_iv (n_v (vs ++ [n_v vs 3, n_v vs 4, Value.int u, n_v vs 6, Value.int c, Value.int d]) 39) = v_iv (n_v (vs ++ [n_v vs 3, n_v vs 4, Value.int u, n_v vs 6, Value.int c, Value.int d]) 9)
      simp only [e_9, e_39, q9]
      exact vc_Fa_uniteAt_at_Netail_Nehead_Emblock_27_16 (v_iv (n_v vs 1)) (v_iv (n_v vs 15)) (v_iv (n_v vs 16)) (v_iv (n_v vs 17)) (v_iv (n_v vs 22)) (v_iv (n_v vs 23)) (v_iv (n_v vs 29)) (v_iv (n_v vs 30)) (v_iv (n_v vs 32)) (w_ei ws (v_ad (n_v vs 5))) (w_ei ws (v_ad (n_v vs 3))) (w_ei ws (v_ad (n_v vs 4))) (v_iv (Value.int d)) k1 k15 k16 k17 k22 k23 k29 k30 k32 h3 h7 h9 h15 h17 h22 h24 ed2
  exact ⟨(fun _ h => (by cases h)), [n_v vs 3, n_v vs 4, Value.int u, n_v vs 6, Value.int c, Value.int d], ag_six t3 t4 hu t6 hc hd, List.forall_mem_cons.mpr ⟨⟨show (24 : Nat) < 100 from by decide, nf0⟩, List.forall_mem_cons.mpr ⟨⟨show (24 : Nat) < 100 from by decide, nf1⟩, List.forall_mem_cons.mpr ⟨⟨show (23 : Nat) < 100 from by decide, nf2⟩, List.forall_mem_cons.mpr ⟨⟨show (23 : Nat) < 100 from by decide, nf3⟩, List.forall_mem_cons.mpr ⟨⟨show (24 : Nat) < 100 from by decide, nf4⟩, List.forall_mem_cons.mpr ⟨⟨show (23 : Nat) < 100 from by decide, nf5⟩, List.forall_mem_cons.mpr ⟨⟨show (23 : Nat) < 100 from by decide, nf6⟩, List.forall_mem_cons.mpr ⟨⟨show (23 : Nat) < 100 from by decide, nf7⟩, List.forall_mem_cons.mpr ⟨⟨show (23 : Nat) < 100 from by decide, nf8⟩, List.forall_mem_cons.mpr ⟨⟨show (20 : Nat) < 100 from by decide, nf9⟩, List.forall_mem_cons.mpr ⟨⟨show (20 : Nat) < 100 from by decide, nf10⟩, List.forall_mem_cons.mpr ⟨⟨show (20 : Nat) < 100 from by decide, nf11⟩, List.forall_mem_cons.mpr ⟨⟨show (20 : Nat) < 100 from by decide, nf12⟩, List.forall_mem_cons.mpr ⟨⟨show (20 : Nat) < 100 from by decide, nf13⟩, List.forall_mem_cons.mpr ⟨⟨show (20 : Nat) < 100 from by decide, nf14⟩, List.forall_mem_cons.mpr ⟨⟨show (20 : Nat) < 100 from by decide, nf15⟩, List.forall_mem_cons.mpr ⟨⟨show (20 : Nat) < 100 from by decide, nf16⟩, (fun _ h => (by cases h))⟩⟩⟩⟩⟩⟩⟩⟩⟩⟩⟩⟩⟩⟩⟩⟩⟩, (fun _ h => (by cases h))⟩

set_option maxHeartbeats 4000000 in
theorem vc_Fa_uniteAt_at_Netail_Nehead_Emblock_28_r0 (x2 : Int) (x15 : Int) (x16 : Int) (x17 : Int) (x22 : Int) (x23 : Int) (x29 : Int) (a5_0 : Int → Int) (a3_0 : Int → Int) (a4_0 : Int → Int) (k2 : 1 ≤ x2 ∧ x2 ≤ 72) (k15 : 0 ≤ x15 ∧ x15 ≤ 71) (k16 : 0 ≤ x16 ∧ x16 ≤ 23) (k17 : 0 ≤ x17 ∧ x17 ≤ 23) (k22 : 0 ≤ x22 ∧ x22 ≤ 23) (k23 : 0 ≤ x23 ∧ x23 ≤ 23) (k29 : (-1) ≤ x29 ∧ x29 ≤ 71) (h0 : x29 = a5_0 (x15)) (h6 : x23 = a3_0 (x15)) (h8 : x22 = a4_0 (x15)) (h13 : x17 = a4_0 (x15)) (h15 : x16 = a3_0 (x15)) (f16 : x15 < x2) (f17 : BLQ (a5_0) (x2)) : 0 ≤ x29 ∧ x29 ≤ 71 := by
  first
    | omega
    | (skip; (first | subst h0 | skip); (first | subst h6 | skip); (first | subst h8 | skip); (first | subst h13 | skip); (first | subst h15 | skip); have q := ‹BLQ _ _› x15 (by omega) (by omega); omega)
def o_Fa_uniteAt_at_Netail_Nehead_Emblock_28 : or_T := (90, 30, [(0, (0, 0, 23, [])), (1, (0, 0, 16777215, [])), (2, (0, 1, 72, [])), (3, (2, 0, 0, [80])), (4, (2, 0, 0, [81])), (5, (2, 0, 0, [26])), (6, (2, 0, 0, [82])), (7, (0, 0, 25, [])), (8, (0, 0, 23, [])), (9, (0, 0, 16777215, [])), (10, (0, 1, 72, [])), (11, (2, 0, 0, [80])), (12, (2, 0, 0, [81])), (13, (2, 0, 0, [26])), (14, (0, -1, -1, [])), (15, (0, 0, 71, [])), (16, (0, 0, 23, [])), (17, (0, 0, 23, [])), (18, (0, 0, 16777215, [])), (19, (0, 1, 1, [])), (20, (0, 1, 1, [])), (22, (0, 0, 23, [])), (23, (0, 0, 23, [])), (24, (0, 0, 16777215, [])), (25, (0, 1, 1, [])), (26, (0, 1, 1, [])), (28, (0, -1, -1, [])), (29, (0, -1, 71, []))], [(10, [29, 13, 15], []), (7, [14, 28], [0]), (8, [26], [1]), (12, [26, 24], [2]), (16, [26, 24, 25], [0]), (16, [24, 9, 23], [4]), (10, [23, 11, 15], []), (7, [22, 8], [0]), (10, [22, 12, 15], []), (8, [20], [1]), (12, [20, 18], [2]), (16, [20, 18, 19], [0]), (16, [18, 9, 17], [4]), (10, [17, 12, 15], []), (7, [16, 8], [0]), (10, [16, 11, 15], []), (7, [15, 10], [2]), (20, [13, 10], [61, 1, 566]), (20, [13, 11, 12, 10, 8, 14], [61, 3, 584]), (20, [13, 11, 12, 6, 7, 10, 8, 9, 14], [61, 4, 589]), (24, [0, 8], []), (24, [1, 9], []), (24, [2, 10], []), (24, [3, 11], []), (24, [4, 12], []), (24, [5, 13], [])], [(29, (0, 0, 71, []))], [], [], [], [(22, 8, 0, 0), (16, 8, 0, 0), (15, 10, -4294967296, -1), (0, 8, -4294967296, 0), (1, 9, -4294967296, 0), (2, 10, -4294967296, 0), (8, 0, -4294967296, 0), (9, 1, -4294967296, 0), (10, 2, -4294967296, 0), (15, 2, -4294967296, 0), (15, 10, -4294967296, 0)])
theorem oo_Fa_uniteAt_at_Netail_Nehead_Emblock_28 {kA : Nat → ClassId} : or_ok PRD kA GG o_Fa_uniteAt_at_Netail_Nehead_Emblock_28 := by
  refine or_mk fun A ta ws vs hD hth hl => ?_
  intro t0 k0 t1 k1 t2 k2 t3 r3 t4 r4 t5 r5 t6 r6 t7 k7 t8 k8 t9 k9 t10 k10 t11 r11 t12 r12 t13 r13 t14 k14 t15 k15 t16 k16 t17 k17 t18 k18 t19 k19 t20 k20 t22 k22 t23 k23 t24 k24 t25 k25 t26 k26 t28 k28 t29 k29 d0 d1 d2 d3 d4 d5 d6 d7 d8 d9 d10 f0 f1 f2 f3 f4 f5 f6 f7 f8 f9 f10 f11 f12 f13 f14 f15 f16 f17 f18 f19 f20 f21 f22 f23 f24 f25
  replace f0 := shm_107 f0
  replace f6 := shm_107 f6
  replace f8 := shm_107 f8
  replace f13 := shm_107 f13
  replace f15 := shm_107 f15
  replace f16 := shm_6 f16
  replace f17 := shm_365 f17
  replace f22 := shm_5 f22
  replace f23 := shm_5 f23
  replace f24 := shm_5 f24
  replace f25 := shm_5 f25
  have q10 : n_v vs 10 = n_v vs 2 := f22.symm
  have q11 : n_v vs 11 = n_v vs 3 := f23.symm
  have q12 : n_v vs 12 = n_v vs 4 := f24.symm
  have q13 : n_v vs 13 = n_v vs 5 := f25.symm
  simp only [q13, q11, q12, q10] at f0 f6 f8 f13 f15 f16 f17
  have h0 : v_iv (n_v vs 29) = w_ei ws (v_ad (n_v vs 5)) (v_iv (n_v vs 15)) := f0
  have h6 : v_iv (n_v vs 23) = w_ei ws (v_ad (n_v vs 3)) (v_iv (n_v vs 15)) := f6
  have h8 : v_iv (n_v vs 22) = w_ei ws (v_ad (n_v vs 4)) (v_iv (n_v vs 15)) := f8
  have h13 : v_iv (n_v vs 17) = w_ei ws (v_ad (n_v vs 4)) (v_iv (n_v vs 15)) := f13
  have h15 : v_iv (n_v vs 16) = w_ei ws (v_ad (n_v vs 3)) (v_iv (n_v vs 15)) := f15
  have hrf0 : 0 ≤ v_iv (n_v vs 29) ∧ v_iv (n_v vs 29) ≤ 71 := vc_Fa_uniteAt_at_Netail_Nehead_Emblock_28_r0 (v_iv (n_v vs 2)) (v_iv (n_v vs 15)) (v_iv (n_v vs 16)) (v_iv (n_v vs 17)) (v_iv (n_v vs 22)) (v_iv (n_v vs 23)) (v_iv (n_v vs 29)) (w_ei ws (v_ad (n_v vs 5))) (w_ei ws (v_ad (n_v vs 3))) (w_ei ws (v_ad (n_v vs 4))) k2 k15 k16 k17 k22 k23 k29 h0 h6 h8 h13 h15 f16 f17
  have rf29 : tv_ok ta (0, 0, 71, []) (n_v vs 29) := tv_in t29 (by first | omega | grind) (by first | omega | grind)
  refine ⟨List.forall_mem_cons.mpr ⟨rf29, (fun _ h => (by cases h))⟩, [], trivial, ?_, (fun _ h => (by cases h))⟩
  rw [List.append_nil]
  exact (fun _ h => (by cases h))
set_option maxHeartbeats 4000000 in
theorem vc_Fa_uniteAt_at_Netail_Nehead_Emblock_29_0 (x0 : Int) (x2 : Int) (x8 : Int) (x14 : Int) (x15 : Int) (x16 : Int) (x22 : Int) (x29 : Int) (x30 : Int) (a5_0 : Int → Int) (a3_0 : Int → Int) (a4_0 : Int → Int) (k0 : 0 ≤ x0 ∧ x0 ≤ 23) (k2 : 1 ≤ x2 ∧ x2 ≤ 72) (k8 : 0 ≤ x8 ∧ x8 ≤ 23) (k14 : (-1) ≤ x14 ∧ x14 ≤ (-1)) (k15 : 0 ≤ x15 ∧ x15 ≤ 71) (k16 : 0 ≤ x16 ∧ x16 ≤ 23) (k22 : 0 ≤ x22 ∧ x22 ≤ 23) (k29 : 0 ≤ x29 ∧ x29 ≤ 71) (k30 : 1 ≤ x30 ∧ x30 ≤ 72) (d0 : x15 + 1 ≤ x30 ∧ x30 ≤ x15 + 1) (d4 : x8 + 0 ≤ x22 ∧ x22 ≤ x8 + 0) (d5 : x8 + 0 ≤ x16 ∧ x16 ≤ x8 + 0) (d7 : x8 + (-4294967296) ≤ x0 ∧ x0 ≤ x8 + 0) (d10 : x0 + (-4294967296) ≤ x8 ∧ x8 ≤ x0 + 0) (h1 : x29 = a5_0 (x15)) (h9 : x22 = a4_0 (x15)) (h16 : x16 = a3_0 (x15)) (f17 : x15 < x2) (f19 : UNI (a5_0) (a3_0) (a4_0) (x2) (x0) (x14)) : UNI (a5_0) (a3_0) (a4_0) (x2) (x0) (x29) := by
  first
    | exact uni_first (e := x15) ‹UNI _ _ _ _ _ _› (by assumption) rfl (by omega) (by omega) (by first | exact Or.inl (by omega) | exact Or.inr (by omega))
set_option maxHeartbeats 4000000 in
theorem vc_Fa_uniteAt_at_Netail_Nehead_Emblock_29_1 (x0 : Int) (x1 : Int) (x2 : Int) (x7 : Int) (x8 : Int) (x14 : Int) (x15 : Int) (x16 : Int) (x17 : Int) (x18 : Int) (x19 : Int) (x20 : Int) (x22 : Int) (x23 : Int) (x24 : Int) (x25 : Int) (x26 : Int) (x29 : Int) (x30 : Int) (a5_0 : Int → Int) (a3_0 : Int → Int) (a4_0 : Int → Int) (a6_0 : Int → Int) (k0 : 0 ≤ x0 ∧ x0 ≤ 23) (k1 : 0 ≤ x1 ∧ x1 ≤ 16777215) (k2 : 1 ≤ x2 ∧ x2 ≤ 72) (k7 : 0 ≤ x7 ∧ x7 ≤ 25) (k8 : 0 ≤ x8 ∧ x8 ≤ 23) (k14 : (-1) ≤ x14 ∧ x14 ≤ (-1)) (k15 : 0 ≤ x15 ∧ x15 ≤ 71) (k16 : 0 ≤ x16 ∧ x16 ≤ 23) (k17 : 0 ≤ x17 ∧ x17 ≤ 23) (k18 : 0 ≤ x18 ∧ x18 ≤ 16777215) (k19 : 1 ≤ x19 ∧ x19 ≤ 1) (k20 : 1 ≤ x20 ∧ x20 ≤ 1) (k22 : 0 ≤ x22 ∧ x22 ≤ 23) (k23 : 0 ≤ x23 ∧ x23 ≤ 23) (k29 : 0 ≤ x29 ∧ x29 ≤ 71) (k30 : 1 ≤ x30 ∧ x30 ≤ 72) (d0 : x15 + 1 ≤ x30 ∧ x30 ≤ x15 + 1) (d4 : x8 + 0 ≤ x22 ∧ x22 ≤ x8 + 0) (d5 : x8 + 0 ≤ x16 ∧ x16 ≤ x8 + 0) (d7 : x8 + (-4294967296) ≤ x0 ∧ x0 ≤ x8 + 0) (d10 : x0 + (-4294967296) ≤ x8 ∧ x8 ≤ x0 + 0) (h1 : x29 = a5_0 (x15)) (h7 : x23 = a3_0 (x15)) (h9 : x22 = a4_0 (x15)) (f12 : bvp (x20) = bvp (x18) &&& bvp (x19)) (f13 : bvp (x18) = bvp (x1) >>> (x17).toNat) (h14 : x17 = a4_0 (x15)) (h16 : x16 = a3_0 (x15)) (f17 : x15 < x2) (f20 : UN2 (a5_0) (a3_0) (a4_0) (a6_0) (x7) (x2) (x0) (x1) (x14)) : UN2 (a5_0) (a3_0) (a4_0) (a6_0) (x7) (x2) (x0) (x1) (x29) := by
  first
    | exact un2_first (e := x15) ‹UN2 _ _ _ _ _ _ _ _ _› (by assumption) rfl (by omega) (by omega) (by first | exact Or.inl ⟨by omega, by omega, by rw [← ‹x17 = a4_0 x15›]; exact (bit_one (s := x1) (t := x18) (c := x20) (v := x17) (one := x19) (by assumption) (by assumption) (by omega) (by omega) (by omega) (by omega)).mpr (by omega)⟩ | exact Or.inr ⟨by omega, by omega, by rw [← ‹x19 = a3_0 x15›]; exact (bit_one (s := x1) (t := x20) (c := x22) (v := x19) (one := x21) (by assumption) (by assumption) (by omega) (by omega) (by omega) (by omega)).mpr (by omega)⟩ | exact Or.inr ⟨by omega, by omega, by rw [← ‹x23 = a3_0 x15›]; exact (bit_one (s := x1) (t := x24) (c := x26) (v := x23) (one := x25) (by assumption) (by assumption) (by omega) (by omega) (by omega) (by omega)).mpr (by omega)⟩)
def o_Fa_uniteAt_at_Netail_Nehead_Emblock_29 : or_T := (6, 31, [(0, (0, 0, 23, [])), (1, (0, 0, 16777215, [])), (2, (0, 1, 72, [])), (3, (2, 0, 0, [80])), (4, (2, 0, 0, [81])), (5, (2, 0, 0, [26])), (6, (2, 0, 0, [82])), (7, (0, 0, 25, [])), (8, (0, 0, 23, [])), (9, (0, 0, 16777215, [])), (10, (0, 1, 72, [])), (11, (2, 0, 0, [80])), (12, (2, 0, 0, [81])), (13, (2, 0, 0, [26])), (14, (0, -1, -1, [])), (15, (0, 0, 71, [])), (16, (0, 0, 23, [])), (17, (0, 0, 23, [])), (18, (0, 0, 16777215, [])), (19, (0, 1, 1, [])), (20, (0, 1, 1, [])), (22, (0, 0, 23, [])), (23, (0, 0, 23, [])), (24, (0, 0, 16777215, [])), (25, (0, 1, 1, [])), (26, (0, 1, 1, [])), (28, (0, -1, -1, [])), (29, (0, 0, 71, [])), (30, (0, 1, 72, []))], [(6, [30, 15], [1]), (10, [29, 13, 15], []), (7, [14, 28], [0]), (8, [26], [1]), (12, [26, 24], [2]), (16, [26, 24, 25], [0]), (16, [24, 9, 23], [4]), (10, [23, 11, 15], []), (7, [22, 8], [0]), (10, [22, 12, 15], []), (8, [20], [1]), (12, [20, 18], [2]), (16, [20, 18, 19], [0]), (16, [18, 9, 17], [4]), (10, [17, 12, 15], []), (7, [16, 8], [0]), (10, [16, 11, 15], []), (7, [15, 10], [2]), (20, [13, 10], [61, 1, 566]), (20, [13, 11, 12, 10, 8, 14], [61, 3, 584]), (20, [13, 11, 12, 6, 7, 10, 8, 9, 14], [61, 4, 589]), (24, [0, 8], []), (24, [1, 9], []), (24, [2, 10], []), (24, [3, 11], []), (24, [4, 12], []), (24, [5, 13], [])], [], [], [(20, [13, 11, 12, 10, 8, 29], [61, 3, 584]), (20, [13, 11, 12, 6, 7, 10, 8, 9, 29], [61, 4, 589])], [], [(30, 15, 1, 1), (30, 10, -4294967296, 0), (30, 2, -4294967296, 1), (30, 10, -4294967296, 1), (22, 8, 0, 0), (16, 8, 0, 0), (15, 10, -4294967296, -1), (0, 8, -4294967296, 0), (1, 9, -4294967296, 0), (2, 10, -4294967296, 0), (8, 0, -4294967296, 0), (9, 1, -4294967296, 0), (10, 2, -4294967296, 0), (15, 2, -4294967296, 0), (15, 10, -4294967296, 0)])
theorem oo_Fa_uniteAt_at_Netail_Nehead_Emblock_29 {kA : Nat → ClassId} : or_ok PRD kA GG o_Fa_uniteAt_at_Netail_Nehead_Emblock_29 := by
  refine or_mk fun A ta ws vs hD hth hl => ?_
  intro t0 k0 t1 k1 t2 k2 t3 r3 t4 r4 t5 r5 t6 r6 t7 k7 t8 k8 t9 k9 t10 k10 t11 r11 t12 r12 t13 r13 t14 k14 t15 k15 t16 k16 t17 k17 t18 k18 t19 k19 t20 k20 t22 k22 t23 k23 t24 k24 t25 k25 t26 k26 t28 k28 t29 k29 t30 k30 d0 d1 d2 d3 d4 d5 d6 d7 d8 d9 d10 d11 d12 d13 d14 f0 f1 f2 f3 f4 f5 f6 f7 f8 f9 f10 f11 f12 f13 f14 f15 f16 f17 f18 f19 f20 f21 f22 f23 f24 f25 f26
  replace f1 := shm_107 f1
  replace f7 := shm_107 f7
  replace f9 := shm_107 f9
  replace f12 := shm_11 f12
  replace f13 := shm_13 f13
  replace f14 := shm_107 f14
  replace f16 := shm_107 f16
  replace f17 := shm_6 f17
  replace f19 := shm_1193 f19
  replace f20 := shm_1194 f20
  replace f21 := shm_5 f21
  replace f22 := shm_5 f22
  replace f23 := shm_5 f23
  replace f24 := shm_5 f24
  replace f25 := shm_5 f25
  replace f26 := shm_5 f26
  have q8 : n_v vs 8 = n_v vs 0 := f21.symm
  have q9 : n_v vs 9 = n_v vs 1 := f22.symm
  have q10 : n_v vs 10 = n_v vs 2 := f23.symm
  have q11 : n_v vs 11 = n_v vs 3 := f24.symm
  have q12 : n_v vs 12 = n_v vs 4 := f25.symm
  have q13 : n_v vs 13 = n_v vs 5 := f26.symm
  simp only [q13, q9, q11, q8, q12, q10] at f1 f7 f9 f13 f14 f16 f17 f19 f20
  have h1 : v_iv (n_v vs 29) = w_ei ws (v_ad (n_v vs 5)) (v_iv (n_v vs 15)) := f1
  have h7 : v_iv (n_v vs 23) = w_ei ws (v_ad (n_v vs 3)) (v_iv (n_v vs 15)) := f7
  have h9 : v_iv (n_v vs 22) = w_ei ws (v_ad (n_v vs 4)) (v_iv (n_v vs 15)) := f9
  have h14 : v_iv (n_v vs 17) = w_ei ws (v_ad (n_v vs 4)) (v_iv (n_v vs 15)) := f14
  have h16 : v_iv (n_v vs 16) = w_ei ws (v_ad (n_v vs 3)) (v_iv (n_v vs 15)) := f16
  have nf0 : fc_1 PRD (20, [13, 11, 12, 10, 8, 29], [61, 3, 584]) ws (vs) := by
    refine ⟨nf_in hl rfl, sgq_1193 ?_⟩
    · show UNI (w_ei ws (v_ad (n_v vs 13))) (w_ei ws (v_ad (n_v vs 11))) (w_ei ws (v_ad (n_v vs 12))) (v_iv (n_v vs 10)) (v_iv (n_v vs 8)) (v_iv (n_v vs 29))
      simp only [q8, q10, q11, q12, q13]
      exact vc_Fa_uniteAt_at_Netail_Nehead_Emblock_29_0 (v_iv (n_v vs 0)) (v_iv (n_v vs 2)) (v_iv (n_v vs 8)) (v_iv (n_v vs 14)) (v_iv (n_v vs 15)) (v_iv (n_v vs 16)) (v_iv (n_v vs 22)) (v_iv (n_v vs 29)) (v_iv (n_v vs 30)) (w_ei ws (v_ad (n_v vs 5))) (w_ei ws (v_ad (n_v vs 3))) (w_ei ws (v_ad (n_v vs 4))) k0 k2 k8 k14 k15 k16 k22 k29 k30 d0 d4 d5 d7 d10 h1 h9 h16 f17 f19
  have nf1 : fc_1 PRD (20, [13, 11, 12, 6, 7, 10, 8, 9, 29], [61, 4, 589]) ws (vs) := by
    refine ⟨nf_in hl rfl, sgq_1194 ?_⟩
    · show UN2 (w_ei ws (v_ad (n_v vs 13))) (w_ei ws (v_ad (n_v vs 11))) (w_ei ws (v_ad (n_v vs 12))) (w_ei ws (v_ad (n_v vs 6))) (v_iv (n_v vs 7)) (v_iv (n_v vs 10)) (v_iv (n_v vs 8)) (v_iv (n_v vs 9)) (v_iv (n_v vs 29))
      simp only [q8, q9, q10, q11, q12, q13]
      exact vc_Fa_uniteAt_at_Netail_Nehead_Emblock_29_1 (v_iv (n_v vs 0)) (v_iv (n_v vs 1)) (v_iv (n_v vs 2)) (v_iv (n_v vs 7)) (v_iv (n_v vs 8)) (v_iv (n_v vs 14)) (v_iv (n_v vs 15)) (v_iv (n_v vs 16)) (v_iv (n_v vs 17)) (v_iv (n_v vs 18)) (v_iv (n_v vs 19)) (v_iv (n_v vs 20)) (v_iv (n_v vs 22)) (v_iv (n_v vs 23)) (v_iv (n_v vs 24)) (v_iv (n_v vs 25)) (v_iv (n_v vs 26)) (v_iv (n_v vs 29)) (v_iv (n_v vs 30)) (w_ei ws (v_ad (n_v vs 5))) (w_ei ws (v_ad (n_v vs 3))) (w_ei ws (v_ad (n_v vs 4))) (w_ei ws (v_ad (n_v vs 6))) k0 k1 k2 k7 k8 k14 k15 k16 k17 k18 k19 k20 k22 k23 k29 k30 d0 d4 d5 d7 d10 h1 h7 h9 f12 f13 h14 h16 f17 f20
  refine ⟨(fun _ h => (by cases h)), [], trivial, ?_, (fun _ h => (by cases h))⟩
  rw [List.append_nil]
  exact List.forall_mem_cons.mpr ⟨⟨show (20 : Nat) < 100 from by decide, nf0⟩, List.forall_mem_cons.mpr ⟨⟨show (20 : Nat) < 100 from by decide, nf1⟩, (fun _ h => (by cases h))⟩⟩
def n_Fa_uniteAt_at_Netail_Nehead_Emblock_an : List an_T := [(6, [(0, (0, 0, 23, [])), (1, (0, 0, 16777215, [])), (2, (0, 0, 72, [])), (3, (2, 0, 0, [80])), (4, (2, 0, 0, [81])), (5, (2, 0, 0, [26])), (6, (0, (Int.negSucc 0), 71, [])), (7, (0, 0, 72, []))], [], (0, 0), [(0, 0, 99994), (1, 15, 72), (0, 0, 100000)], [(0, 8, (Int.negSucc 999999999999), 0), (1, 9, (Int.negSucc 999999999999), 0), (2, 10, (Int.negSucc 999999999999), 0), (8, 0, (Int.negSucc 999999999999), 0), (9, 1, (Int.negSucc 999999999999), 0), (10, 2, (Int.negSucc 999999999999), 0), (14, 2, (Int.negSucc 999999999999), 70), (14, 10, (Int.negSucc 999999999999), 70), (14, 15, (Int.negSucc 999999999999), 70), (15, 2, (Int.negSucc 999999999999), 0), (15, 10, (Int.negSucc 999999999999), 0)], [], [(0, 0, 23, []), (0, 0, 16777215, []), (0, 0, 72, []), (2, 0, 0, [80]), (2, 0, 0, [81]), (2, 0, 0, [26]), (2, 0, 0, [82]), (0, 0, 25, [])], 0, [], [(20, [13, 10], [61, 1, 566]), (20, [13, 11, 12, 10, 8, 14], [61, 3, 584]), (20, [13, 11, 12, 6, 7, 10, 8, 9, 14], [61, 4, 589]), (24, [0, 8], []), (24, [1, 9], []), (24, [2, 10], []), (24, [3, 11], []), (24, [4, 12], []), (24, [5, 13], [])])]
def t_Fa_uniteAt_at_Netail_Nehead_Emblock_ct : ct_L := [(339, 118, e_jMath_max1_v93), (375, 124, e_jMath_min1_v94), (411, 127, e_Fa_relabel_at_Emblock_gn)]
set_option maxRecDepth 100000 in
theorem c_Fa_uniteAt_at_Netail_Nehead_Emblock {l : Launch} {D : va_G} {kA : Nat → ClassId} (h_Fa_relabel_at_Emblock_gn : ct_ok PRD l D kA GG y_Fa_relabel_at_Emblock_gn z_Fa_relabel_at_Emblock_gn e_Fa_relabel_at_Emblock_gn) : ct_ok PRD l D kA GG y_Fa_uniteAt_at_Netail_Nehead_Emblock z_Fa_uniteAt_at_Netail_Nehead_Emblock e_Fa_uniteAt_at_Netail_Nehead_Emblock := chk_all_ok (FT := []) (PT := []) (CT := t_Fa_uniteAt_at_Netail_Nehead_Emblock_ct) (KT := []) (NT := []) (AN := n_Fa_uniteAt_at_Netail_Nehead_Emblock_an) (OT := [o_Fa_uniteAt_at_Netail_Nehead_Emblock_0, o_Fa_uniteAt_at_Netail_Nehead_Emblock_1, o_Fa_uniteAt_at_Netail_Nehead_Emblock_2, o_Fa_uniteAt_at_Netail_Nehead_Emblock_3, o_Fa_uniteAt_at_Netail_Nehead_Emblock_4, o_Fa_uniteAt_at_Netail_Nehead_Emblock_5, o_Fa_uniteAt_at_Netail_Nehead_Emblock_6, o_Fa_uniteAt_at_Netail_Nehead_Emblock_7, o_Fa_uniteAt_at_Netail_Nehead_Emblock_8, o_Fa_uniteAt_at_Netail_Nehead_Emblock_9, o_Fa_uniteAt_at_Netail_Nehead_Emblock_10, o_Fa_uniteAt_at_Netail_Nehead_Emblock_11, o_Fa_uniteAt_at_Netail_Nehead_Emblock_12, o_Fa_uniteAt_at_Netail_Nehead_Emblock_13, o_Fa_uniteAt_at_Netail_Nehead_Emblock_14, o_Fa_uniteAt_at_Netail_Nehead_Emblock_15, o_Fa_uniteAt_at_Netail_Nehead_Emblock_16, o_Fa_uniteAt_at_Netail_Nehead_Emblock_17, o_Fa_uniteAt_at_Netail_Nehead_Emblock_18, o_Fa_uniteAt_at_Netail_Nehead_Emblock_19, o_Fa_uniteAt_at_Netail_Nehead_Emblock_20, o_Fa_uniteAt_at_Netail_Nehead_Emblock_21, o_Fa_uniteAt_at_Netail_Nehead_Emblock_22, o_Fa_uniteAt_at_Netail_Nehead_Emblock_23, o_Fa_uniteAt_at_Netail_Nehead_Emblock_24, o_Fa_uniteAt_at_Netail_Nehead_Emblock_25, o_Fa_uniteAt_at_Netail_Nehead_Emblock_26, o_Fa_uniteAt_at_Netail_Nehead_Emblock_27, o_Fa_uniteAt_at_Netail_Nehead_Emblock_28, o_Fa_uniteAt_at_Netail_Nehead_Emblock_29]) 3 1240 (List.forall_mem_cons.mpr ⟨oo_Fa_uniteAt_at_Netail_Nehead_Emblock_0, List.forall_mem_cons.mpr ⟨oo_Fa_uniteAt_at_Netail_Nehead_Emblock_1, List.forall_mem_cons.mpr ⟨oo_Fa_uniteAt_at_Netail_Nehead_Emblock_2, List.forall_mem_cons.mpr ⟨oo_Fa_uniteAt_at_Netail_Nehead_Emblock_3, List.forall_mem_cons.mpr ⟨oo_Fa_uniteAt_at_Netail_Nehead_Emblock_4, List.forall_mem_cons.mpr ⟨oo_Fa_uniteAt_at_Netail_Nehead_Emblock_5, List.forall_mem_cons.mpr ⟨oo_Fa_uniteAt_at_Netail_Nehead_Emblock_6, List.forall_mem_cons.mpr ⟨oo_Fa_uniteAt_at_Netail_Nehead_Emblock_7, List.forall_mem_cons.mpr ⟨oo_Fa_uniteAt_at_Netail_Nehead_Emblock_8, List.forall_mem_cons.mpr ⟨oo_Fa_uniteAt_at_Netail_Nehead_Emblock_9, List.forall_mem_cons.mpr ⟨oo_Fa_uniteAt_at_Netail_Nehead_Emblock_10, List.forall_mem_cons.mpr ⟨oo_Fa_uniteAt_at_Netail_Nehead_Emblock_11, List.forall_mem_cons.mpr ⟨oo_Fa_uniteAt_at_Netail_Nehead_Emblock_12, List.forall_mem_cons.mpr ⟨oo_Fa_uniteAt_at_Netail_Nehead_Emblock_13, List.forall_mem_cons.mpr ⟨oo_Fa_uniteAt_at_Netail_Nehead_Emblock_14, List.forall_mem_cons.mpr ⟨oo_Fa_uniteAt_at_Netail_Nehead_Emblock_15, List.forall_mem_cons.mpr ⟨oo_Fa_uniteAt_at_Netail_Nehead_Emblock_16, List.forall_mem_cons.mpr ⟨oo_Fa_uniteAt_at_Netail_Nehead_Emblock_17, List.forall_mem_cons.mpr ⟨oo_Fa_uniteAt_at_Netail_Nehead_Emblock_18, List.forall_mem_cons.mpr ⟨oo_Fa_uniteAt_at_Netail_Nehead_Emblock_19, List.forall_mem_cons.mpr ⟨oo_Fa_uniteAt_at_Netail_Nehead_Emblock_20, List.forall_mem_cons.mpr ⟨oo_Fa_uniteAt_at_Netail_Nehead_Emblock_21, List.forall_mem_cons.mpr ⟨oo_Fa_uniteAt_at_Netail_Nehead_Emblock_22, List.forall_mem_cons.mpr ⟨oo_Fa_uniteAt_at_Netail_Nehead_Emblock_23, List.forall_mem_cons.mpr ⟨oo_Fa_uniteAt_at_Netail_Nehead_Emblock_24, List.forall_mem_cons.mpr ⟨oo_Fa_uniteAt_at_Netail_Nehead_Emblock_25, List.forall_mem_cons.mpr ⟨oo_Fa_uniteAt_at_Netail_Nehead_Emblock_26, List.forall_mem_cons.mpr ⟨oo_Fa_uniteAt_at_Netail_Nehead_Emblock_27, List.forall_mem_cons.mpr ⟨oo_Fa_uniteAt_at_Netail_Nehead_Emblock_28, List.forall_mem_cons.mpr ⟨oo_Fa_uniteAt_at_Netail_Nehead_Emblock_29, List.forall_mem_nil _⟩⟩⟩⟩⟩⟩⟩⟩⟩⟩⟩⟩⟩⟩⟩⟩⟩⟩⟩⟩⟩⟩⟩⟩⟩⟩⟩⟩⟩⟩) (by decide +kernel) ⟨List.forall_mem_nil _, List.forall_mem_nil _, List.forall_mem_cons.mpr ⟨cl_static (y := y_jMath_max1) c_jMath_max1_v93 wm_836 wm_10 wm_834 wm_835 ⟨by decide, by decide, by decide +kernel⟩ (by decide), List.forall_mem_cons.mpr ⟨cl_static (y := y_jMath_min1) c_jMath_min1_v94 wm_658 wm_10 wm_837 wm_657 ⟨by decide, by decide, by decide +kernel⟩ (by decide), List.forall_mem_cons.mpr ⟨cl_static (y := y_Fa_relabel_at_Emblock_gn) h_Fa_relabel_at_Emblock_gn wm_840 wm_7 wm_838 wm_839 ⟨by decide, by decide, by decide +kernel⟩ (by decide), List.forall_mem_nil _⟩⟩⟩, List.forall_mem_nil _, List.forall_mem_nil _, GG_pl⟩ (by decide +kernel)

set_option maxHeartbeats 4000000 in
theorem vc_Fa_uniteAt_at_Nptail_Nphead_Emblock_0_0 (x0 : Int) (x2 : Int) (x8 : Int) (a5_0 : Int → Int) (a3_0 : Int → Int) (a4_0 : Int → Int) (k0 : 0 ≤ x0 ∧ x0 ≤ 24) (k2 : 0 ≤ x2 ∧ x2 ≤ 72) (k8 : (-1) ≤ x8 ∧ x8 ≤ (-1)) (f1 : BLZ (a5_0) (a3_0) (a4_0) (x2)) : UNI (a5_0) (a3_0) (a4_0) (x2) (x0) (x8) := by
  first
    | exact uni_start ‹BLZ _ _ _ _› (by omega)
set_option maxHeartbeats 4000000 in
theorem vc_Fa_uniteAt_at_Nptail_Nphead_Emblock_0_1 (x0 : Int) (x1 : Int) (x2 : Int) (x7 : Int) (x8 : Int) (a5_0 : Int → Int) (a3_0 : Int → Int) (a4_0 : Int → Int) (a6_0 : Int → Int) (k0 : 0 ≤ x0 ∧ x0 ≤ 24) (k1 : 0 ≤ x1 ∧ x1 ≤ 33554431) (k2 : 0 ≤ x2 ∧ x2 ≤ 72) (k7 : 0 ≤ x7 ∧ x7 ≤ 25) (k8 : (-1) ≤ x8 ∧ x8 ≤ (-1)) (f2 : BCU (a5_0) (a3_0) (a4_0) (a6_0) (x7) (x2)) (f3 : USD (a3_0) (a4_0) (a6_0) (x7) (x2) (x0) (x1)) : UN2 (a5_0) (a3_0) (a4_0) (a6_0) (x7) (x2) (x0) (x1) (x8) := by
  first
    | exact un2_start ‹BCU _ _ _ _ _ _› ‹USD _ _ _ _ _ _ _› (by omega)
def o_Fa_uniteAt_at_Nptail_Nphead_Emblock_0 : or_T := (6, 10, [(0, (0, 0, 24, [])), (1, (0, 0, 33554431, [])), (2, (0, 0, 72, [])), (7, (0, 0, 25, [])), (8, (0, -1, -1, []))], [(20, [5, 3, 4, 2], [61, 3, 580]), (20, [5, 3, 4, 6, 7, 2], [61, 4, 587]), (20, [3, 4, 6, 7, 2, 0, 1], [61, 3, 588])], [], [], [(20, [5, 3, 4, 2, 0, 8], [61, 3, 584]), (20, [5, 3, 4, 6, 7, 2, 0, 1, 8], [61, 4, 589]), (24, [0, 0], []), (24, [1, 1], []), (24, [2, 2], []), (24, [3, 3], []), (24, [4, 4], []), (24, [5, 5], [])], [], [])
theorem oo_Fa_uniteAt_at_Nptail_Nphead_Emblock_0 {kA : Nat → ClassId} : or_ok PRD kA GG o_Fa_uniteAt_at_Nptail_Nphead_Emblock_0 := by
  refine or_mk fun A ta ws vs hD hth hl => ?_
  intro t0 k0 t1 k1 t2 k2 t7 k7 t8 k8 f1 f2 f3
  have nf0 : fc_1 PRD (20, [5, 3, 4, 2, 0, 8], [61, 3, 584]) ws (vs) := ⟨nf_in hl rfl, sgq_1193 (vc_Fa_uniteAt_at_Nptail_Nphead_Emblock_0_0 (v_iv (n_v vs 0)) (v_iv (n_v vs 2)) (v_iv (n_v vs 8)) (w_ei ws (v_ad (n_v vs 5))) (w_ei ws (v_ad (n_v vs 3))) (w_ei ws (v_ad (n_v vs 4))) k0 k2 k8 (shm_1190 f1))⟩
  have nf1 : fc_1 PRD (20, [5, 3, 4, 6, 7, 2, 0, 1, 8], [61, 4, 589]) ws (vs) := ⟨nf_in hl rfl, sgq_1194 (vc_Fa_uniteAt_at_Nptail_Nphead_Emblock_0_1 (v_iv (n_v vs 0)) (v_iv (n_v vs 1)) (v_iv (n_v vs 2)) (v_iv (n_v vs 7)) (v_iv (n_v vs 8)) (w_ei ws (v_ad (n_v vs 5))) (w_ei ws (v_ad (n_v vs 3))) (w_ei ws (v_ad (n_v vs 4))) (w_ei ws (v_ad (n_v vs 6))) k0 k1 k2 k7 k8 (shm_1191 f2) (shm_1192 f3))⟩
  have nf2 : fc_1 PRD (24, [0, 0], []) ws (vs) := by
    refine ⟨nf_in hl rfl, sgq_1 ?_⟩
    · show n_v vs 0 = n_v vs 0
      first | rfl | simp only [true_and]
  have nf3 : fc_1 PRD (24, [1, 1], []) ws (vs) := by
    refine ⟨nf_in hl rfl, sgq_1 ?_⟩
    · show n_v vs 1 = n_v vs 1
      first | rfl | simp only [true_and]
  have nf4 : fc_1 PRD (24, [2, 2], []) ws (vs) := by
    refine ⟨nf_in hl rfl, sgq_1 ?_⟩
    · show n_v vs 2 = n_v vs 2
      first | rfl | simp only [true_and]
  have nf5 : fc_1 PRD (24, [3, 3], []) ws (vs) := by
    refine ⟨nf_in hl rfl, sgq_1 ?_⟩
    · show n_v vs 3 = n_v vs 3
      first | rfl | simp only [true_and]
  have nf6 : fc_1 PRD (24, [4, 4], []) ws (vs) := by
    refine ⟨nf_in hl rfl, sgq_1 ?_⟩
    · show n_v vs 4 = n_v vs 4
      first | rfl | simp only [true_and]
  have nf7 : fc_1 PRD (24, [5, 5], []) ws (vs) := by
    refine ⟨nf_in hl rfl, sgq_1 ?_⟩
    · show n_v vs 5 = n_v vs 5
      first | rfl | simp only [true_and]
  refine ⟨(fun _ h => (by cases h)), [], trivial, ?_, (fun _ h => (by cases h))⟩
  rw [List.append_nil]
  exact List.forall_mem_cons.mpr ⟨⟨show (20 : Nat) < 100 from by decide, nf0⟩, List.forall_mem_cons.mpr ⟨⟨show (20 : Nat) < 100 from by decide, nf1⟩, List.forall_mem_cons.mpr ⟨⟨show (24 : Nat) < 100 from by decide, nf2⟩, List.forall_mem_cons.mpr ⟨⟨show (24 : Nat) < 100 from by decide, nf3⟩, List.forall_mem_cons.mpr ⟨⟨show (24 : Nat) < 100 from by decide, nf4⟩, List.forall_mem_cons.mpr ⟨⟨show (24 : Nat) < 100 from by decide, nf5⟩, List.forall_mem_cons.mpr ⟨⟨show (24 : Nat) < 100 from by decide, nf6⟩, List.forall_mem_cons.mpr ⟨⟨show (24 : Nat) < 100 from by decide, nf7⟩, (fun _ h => (by cases h))⟩⟩⟩⟩⟩⟩⟩⟩
set_option maxHeartbeats 4000000 in
theorem vc_Fa_uniteAt_at_Nptail_Nphead_Emblock_1_0 (x2 : Int) (a5_0 : Int → Int) (k2 : 0 ≤ x2 ∧ x2 ≤ 72) (f1 : BLQ (a5_0) (x2)) : BLQ (a5_0) (x2) := by
  first
    | assumption
  
set_option maxHeartbeats 4000000 in
theorem vc_Fa_uniteAt_at_Nptail_Nphead_Emblock_1_1 (x0 : Int) (x2 : Int) (x14 : Int) (a5_0 : Int → Int) (a3_0 : Int → Int) (a4_0 : Int → Int) (k0 : 0 ≤ x0 ∧ x0 ≤ 24) (k2 : 0 ≤ x2 ∧ x2 ≤ 72) (k14 : (-1) ≤ x14 ∧ x14 ≤ 71) (f2 : UNI (a5_0) (a3_0) (a4_0) (x2) (x0) (x14)) : BLZ (a5_0) (a3_0) (a4_0) (x2) := by
  first
    | assumption
    | exact (‹UNI _ _ _ _ _ _›).1
set_option maxHeartbeats 4000000 in
theorem vc_Fa_uniteAt_at_Nptail_Nphead_Emblock_1_2 (x0 : Int) (x1 : Int) (x2 : Int) (x7 : Int) (x14 : Int) (a5_0 : Int → Int) (a3_0 : Int → Int) (a4_0 : Int → Int) (a6_0 : Int → Int) (k0 : 0 ≤ x0 ∧ x0 ≤ 24) (k1 : 0 ≤ x1 ∧ x1 ≤ 33554431) (k2 : 0 ≤ x2 ∧ x2 ≤ 72) (k7 : 0 ≤ x7 ∧ x7 ≤ 25) (k14 : (-1) ≤ x14 ∧ x14 ≤ 71) (f3 : UN2 (a5_0) (a3_0) (a4_0) (a6_0) (x7) (x2) (x0) (x1) (x14)) : BCU (a5_0) (a3_0) (a4_0) (a6_0) (x7) (x2) := by
  first
    | assumption
    | exact (‹UN2 _ _ _ _ _ _ _ _ _›).1.1
def o_Fa_uniteAt_at_Nptail_Nphead_Emblock_1 : or_T := (145, 16, [(0, (0, 0, 24, [])), (1, (0, 0, 33554431, [])), (2, (0, 0, 72, [])), (7, (0, 0, 25, [])), (14, (0, -1, 71, []))], [(20, [13, 10], [61, 1, 566]), (20, [13, 11, 12, 10, 8, 14], [61, 3, 584]), (20, [13, 11, 12, 6, 7, 10, 8, 9, 14], [61, 4, 589]), (24, [0, 8], []), (24, [1, 9], []), (24, [2, 10], []), (24, [3, 11], []), (24, [4, 12], []), (24, [5, 13], [])], [], [], [(20, [5, 2], [61, 1, 566]), (20, [5, 3, 4, 2], [61, 3, 580]), (20, [5, 3, 4, 6, 7, 2], [61, 4, 587])], [], [])
theorem oo_Fa_uniteAt_at_Nptail_Nphead_Emblock_1 {kA : Nat → ClassId} : or_ok PRD kA GG o_Fa_uniteAt_at_Nptail_Nphead_Emblock_1 := by
  refine or_mk fun A ta ws vs hD hth hl => ?_
  intro t0 k0 t1 k1 t2 k2 t7 k7 t14 k14 f1 f2 f3 f4 f5 f6 f7 f8 f9
  replace f1 := shm_365 f1
  replace f2 := shm_1193 f2
  replace f3 := shm_1194 f3
  replace f4 := shm_5 f4
  replace f5 := shm_5 f5
  replace f6 := shm_5 f6
  replace f7 := shm_5 f7
  replace f8 := shm_5 f8
  replace f9 := shm_5 f9
  have q8 : n_v vs 8 = n_v vs 0 := f4.symm
  have q9 : n_v vs 9 = n_v vs 1 := f5.symm
  have q10 : n_v vs 10 = n_v vs 2 := f6.symm
  have q11 : n_v vs 11 = n_v vs 3 := f7.symm
  have q12 : n_v vs 12 = n_v vs 4 := f8.symm
  have q13 : n_v vs 13 = n_v vs 5 := f9.symm
  simp only [q10, q13, q8, q11, q12, q9] at f1 f2 f3
  have nf0 : fc_1 PRD (20, [5, 2], [61, 1, 566]) ws (vs) := ⟨nf_in hl rfl, sgq_365 (vc_Fa_uniteAt_at_Nptail_Nphead_Emblock_1_0 (v_iv (n_v vs 2)) (w_ei ws (v_ad (n_v vs 5))) k2 f1)⟩
  have nf1 : fc_1 PRD (20, [5, 3, 4, 2], [61, 3, 580]) ws (vs) := ⟨nf_in hl rfl, sgq_1190 (vc_Fa_uniteAt_at_Nptail_Nphead_Emblock_1_1 (v_iv (n_v vs 0)) (v_iv (n_v vs 2)) (v_iv (n_v vs 14)) (w_ei ws (v_ad (n_v vs 5))) (w_ei ws (v_ad (n_v vs 3))) (w_ei ws (v_ad (n_v vs 4))) k0 k2 k14 f2)⟩
  have nf2 : fc_1 PRD (20, [5, 3, 4, 6, 7, 2], [61, 4, 587]) ws (vs) := ⟨nf_in hl rfl, sgq_1191 (vc_Fa_uniteAt_at_Nptail_Nphead_Emblock_1_2 (v_iv (n_v vs 0)) (v_iv (n_v vs 1)) (v_iv (n_v vs 2)) (v_iv (n_v vs 7)) (v_iv (n_v vs 14)) (w_ei ws (v_ad (n_v vs 5))) (w_ei ws (v_ad (n_v vs 3))) (w_ei ws (v_ad (n_v vs 4))) (w_ei ws (v_ad (n_v vs 6))) k0 k1 k2 k7 k14 f3)⟩
  refine ⟨(fun _ h => (by cases h)), [], trivial, ?_, (fun _ h => (by cases h))⟩
  rw [List.append_nil]
  exact List.forall_mem_cons.mpr ⟨⟨show (20 : Nat) < 100 from by decide, nf0⟩, List.forall_mem_cons.mpr ⟨⟨show (20 : Nat) < 100 from by decide, nf1⟩, List.forall_mem_cons.mpr ⟨⟨show (20 : Nat) < 100 from by decide, nf2⟩, (fun _ h => (by cases h))⟩⟩⟩
set_option maxHeartbeats 4000000 in
theorem vc_Fa_uniteAt_at_Nptail_Nphead_Emblock_2_r0 (x2 : Int) (x15 : Int) (x16 : Int) (x18 : Int) (x19 : Int) (x25 : Int) (x26 : Int) (a5_0 : Int → Int) (a3_0 : Int → Int) (a4_0 : Int → Int) (k2 : 1 ≤ x2 ∧ x2 ≤ 72) (k15 : 0 ≤ x15 ∧ x15 ≤ 71) (k16 : 0 ≤ x16 ∧ x16 ≤ 24) (k18 : 0 ≤ x18 ∧ x18 ≤ 24) (k19 : 0 ≤ x19 ∧ x19 ≤ 24) (k25 : (-1) ≤ x25 ∧ x25 ≤ 71) (k26 : (-1) ≤ x26 ∧ x26 ≤ 71) (h0 : x26 = a5_0 (x15)) (h2 : x25 = a5_0 (x15)) (h8 : x19 = a3_0 (x15)) (h10 : x18 = a4_0 (x15)) (h12 : x16 = a3_0 (x15)) (f13 : x15 < x2) (f14 : BLQ (a5_0) (x2)) : 0 ≤ x26 ∧ x26 ≤ 71 := by
  first
    | omega
    | (skip; (first | subst h0 | skip); (first | subst h2 | skip); (first | subst h8 | skip); (first | subst h10 | skip); (first | subst h12 | skip); have q := ‹BLQ _ _› x15 (by omega) (by omega); omega)
def o_Fa_uniteAt_at_Nptail_Nphead_Emblock_2 : or_T := (112, 27, [(0, (0, 0, 24, [])), (1, (0, 0, 33554431, [])), (2, (0, 1, 72, [])), (3, (2, 0, 0, [140])), (4, (2, 0, 0, [141])), (5, (2, 0, 0, [26])), (6, (2, 0, 0, [142])), (7, (0, 0, 25, [])), (8, (0, 0, 24, [])), (9, (0, 0, 33554431, [])), (10, (0, 1, 72, [])), (11, (2, 0, 0, [140])), (12, (2, 0, 0, [141])), (13, (2, 0, 0, [26])), (14, (0, 0, 71, [])), (15, (0, 0, 71, [])), (16, (0, 0, 24, [])), (18, (0, 0, 24, [])), (19, (0, 0, 24, [])), (20, (0, 0, 33554431, [])), (21, (0, 1, 1, [])), (22, (0, 1, 1, [])), (24, (0, -1, -1, [])), (25, (0, -1, 71, [])), (26, (0, -1, 71, []))], [(10, [26, 13, 15], []), (7, [25, 14], [1]), (10, [25, 13, 15], []), (7, [14, 24], [1]), (8, [22], [1]), (12, [22, 20], [2]), (16, [22, 20, 21], [0]), (16, [20, 9, 19], [4]), (10, [19, 11, 15], []), (7, [18, 8], [0]), (10, [18, 12, 15], []), (7, [16, 8], [1]), (10, [16, 11, 15], []), (7, [15, 10], [2]), (20, [13, 10], [61, 1, 566]), (20, [13, 11, 12, 10, 8, 14], [61, 3, 584]), (20, [13, 11, 12, 6, 7, 10, 8, 9, 14], [61, 4, 589]), (24, [0, 8], []), (24, [1, 9], []), (24, [2, 10], []), (24, [3, 11], []), (24, [4, 12], []), (24, [5, 13], [])], [(26, (0, 0, 71, []))], [], [], [], [(18, 8, 0, 0), (15, 10, -4294967296, -1), (0, 8, -4294967296, 0), (1, 9, -4294967296, 0), (2, 10, -4294967296, 0), (8, 0, -4294967296, 0), (9, 1, -4294967296, 0), (10, 2, -4294967296, 0), (14, 15, -4294967296, 70), (15, 2, -4294967296, 0), (15, 10, -4294967296, 0)])
theorem oo_Fa_uniteAt_at_Nptail_Nphead_Emblock_2 {kA : Nat → ClassId} : or_ok PRD kA GG o_Fa_uniteAt_at_Nptail_Nphead_Emblock_2 := by
  refine or_mk fun A ta ws vs hD hth hl => ?_
  intro t0 k0 t1 k1 t2 k2 t3 r3 t4 r4 t5 r5 t6 r6 t7 k7 t8 k8 t9 k9 t10 k10 t11 r11 t12 r12 t13 r13 t14 k14 t15 k15 t16 k16 t18 k18 t19 k19 t20 k20 t21 k21 t22 k22 t24 k24 t25 k25 t26 k26 d0 d1 d2 d3 d4 d5 d6 d7 d8 d9 d10 f0 f1 f2 f3 f4 f5 f6 f7 f8 f9 f10 f11 f12 f13 f14 f15 f16 f17 f18 f19 f20 f21 f22
  replace f0 := shm_107 f0
  replace f2 := shm_107 f2
  replace f8 := shm_107 f8
  replace f10 := shm_107 f10
  replace f12 := shm_107 f12
  replace f13 := shm_6 f13
  replace f14 := shm_365 f14
  replace f19 := shm_5 f19
  replace f20 := shm_5 f20
  replace f21 := shm_5 f21
  replace f22 := shm_5 f22
  have q10 : n_v vs 10 = n_v vs 2 := f19.symm
  have q11 : n_v vs 11 = n_v vs 3 := f20.symm
  have q12 : n_v vs 12 = n_v vs 4 := f21.symm
  have q13 : n_v vs 13 = n_v vs 5 := f22.symm
  simp only [q13, q11, q12, q10] at f0 f2 f8 f10 f12 f13 f14
  have h0 : v_iv (n_v vs 26) = w_ei ws (v_ad (n_v vs 5)) (v_iv (n_v vs 15)) := f0
  have h2 : v_iv (n_v vs 25) = w_ei ws (v_ad (n_v vs 5)) (v_iv (n_v vs 15)) := f2
  have h8 : v_iv (n_v vs 19) = w_ei ws (v_ad (n_v vs 3)) (v_iv (n_v vs 15)) := f8
  have h10 : v_iv (n_v vs 18) = w_ei ws (v_ad (n_v vs 4)) (v_iv (n_v vs 15)) := f10
  have h12 : v_iv (n_v vs 16) = w_ei ws (v_ad (n_v vs 3)) (v_iv (n_v vs 15)) := f12
  have hrf0 : 0 ≤ v_iv (n_v vs 26) ∧ v_iv (n_v vs 26) ≤ 71 := vc_Fa_uniteAt_at_Nptail_Nphead_Emblock_2_r0 (v_iv (n_v vs 2)) (v_iv (n_v vs 15)) (v_iv (n_v vs 16)) (v_iv (n_v vs 18)) (v_iv (n_v vs 19)) (v_iv (n_v vs 25)) (v_iv (n_v vs 26)) (w_ei ws (v_ad (n_v vs 5))) (w_ei ws (v_ad (n_v vs 3))) (w_ei ws (v_ad (n_v vs 4))) k2 k15 k16 k18 k19 k25 k26 h0 h2 h8 h10 h12 f13 f14
  have rf26 : tv_ok ta (0, 0, 71, []) (n_v vs 26) := tv_in t26 (by first | omega | grind) (by first | omega | grind)
  refine ⟨List.forall_mem_cons.mpr ⟨rf26, (fun _ h => (by cases h))⟩, [], trivial, ?_, (fun _ h => (by cases h))⟩
  rw [List.append_nil]
  exact (fun _ h => (by cases h))
set_option maxHeartbeats 4000000 in
theorem vc_Fa_uniteAt_at_Nptail_Nphead_Emblock_3_r0 (x15 : Int) (x16 : Int) (x18 : Int) (x19 : Int) (x25 : Int) (x26 : Int) (x28 : Int) (a5_0 : Int → Int) (a3_0 : Int → Int) (a4_0 : Int → Int) (k15 : 0 ≤ x15 ∧ x15 ≤ 71) (k16 : 0 ≤ x16 ∧ x16 ≤ 24) (k18 : 0 ≤ x18 ∧ x18 ≤ 24) (k19 : 0 ≤ x19 ∧ x19 ≤ 24) (k25 : (-1) ≤ x25 ∧ x25 ≤ 71) (k26 : 0 ≤ x26 ∧ x26 ≤ 71) (k28 : (-1) ≤ x28 ∧ x28 ≤ 71) (h0 : x28 = a5_0 (x15)) (h4 : x26 = a5_0 (x15)) (h6 : x25 = a5_0 (x15)) (h12 : x19 = a3_0 (x15)) (h14 : x18 = a4_0 (x15)) (h16 : x16 = a3_0 (x15)) : 0 ≤ x28 ∧ x28 ≤ 71 := by
  first
    | omega
    | (skip; (first | subst h0 | skip); (first | subst h4 | skip); (first | subst h6 | skip); (first | subst h12 | skip); (first | subst h14 | skip); (first | subst h16 | skip); have q := ‹BLQ _ _› x15 (by omega) (by omega); omega)
def o_Fa_uniteAt_at_Nptail_Nphead_Emblock_3 : or_T := (124, 29, [(0, (0, 0, 24, [])), (1, (0, 0, 33554431, [])), (2, (0, 1, 72, [])), (3, (2, 0, 0, [140])), (4, (2, 0, 0, [141])), (5, (2, 0, 0, [26])), (6, (2, 0, 0, [142])), (7, (0, 0, 25, [])), (8, (0, 0, 24, [])), (9, (0, 0, 33554431, [])), (10, (0, 1, 72, [])), (11, (2, 0, 0, [140])), (12, (2, 0, 0, [141])), (13, (2, 0, 0, [26])), (14, (0, 0, 71, [])), (15, (0, 0, 71, [])), (16, (0, 0, 24, [])), (18, (0, 0, 24, [])), (19, (0, 0, 24, [])), (20, (0, 0, 33554431, [])), (21, (0, 1, 1, [])), (22, (0, 1, 1, [])), (24, (0, -1, -1, [])), (25, (0, -1, 71, [])), (26, (0, 0, 71, [])), (27, (0, 0, 71, [])), (28, (0, -1, 71, []))], [(10, [28, 13, 15], []), (23, [14, 27], [0, 1, -1]), (23, [26, 27], [0, 1, -1]), (20, [27, 14, 26], [50, 0, 0, 3, 6, 1, 2, 1, 0, 1, 1, 1, 2, 1, 0, 1, 2]), (10, [26, 13, 15], []), (7, [25, 14], [1]), (10, [25, 13, 15], []), (7, [14, 24], [1]), (8, [22], [1]), (12, [22, 20], [2]), (16, [22, 20, 21], [0]), (16, [20, 9, 19], [4]), (10, [19, 11, 15], []), (7, [18, 8], [0]), (10, [18, 12, 15], []), (7, [16, 8], [1]), (10, [16, 11, 15], []), (7, [15, 10], [2]), (20, [13, 10], [61, 1, 566]), (20, [13, 11, 12, 10, 8, 14], [61, 3, 584]), (20, [13, 11, 12, 6, 7, 10, 8, 9, 14], [61, 4, 589]), (24, [0, 8], []), (24, [1, 9], []), (24, [2, 10], []), (24, [3, 11], []), (24, [4, 12], []), (24, [5, 13], [])], [(28, (0, 0, 71, []))], [], [], [], [(18, 8, 0, 0), (15, 10, -4294967296, -1), (0, 8, -4294967296, 0), (1, 9, -4294967296, 0), (2, 10, -4294967296, 0), (8, 0, -4294967296, 0), (9, 1, -4294967296, 0), (10, 2, -4294967296, 0), (14, 15, -4294967296, 70), (15, 2, -4294967296, 0), (15, 10, -4294967296, 0)])
theorem oo_Fa_uniteAt_at_Nptail_Nphead_Emblock_3 {kA : Nat → ClassId} : or_ok PRD kA GG o_Fa_uniteAt_at_Nptail_Nphead_Emblock_3 := by
  refine or_mk fun A ta ws vs hD hth hl => ?_
  intro t0 k0 t1 k1 t2 k2 t3 r3 t4 r4 t5 r5 t6 r6 t7 k7 t8 k8 t9 k9 t10 k10 t11 r11 t12 r12 t13 r13 t14 k14 t15 k15 t16 k16 t18 k18 t19 k19 t20 k20 t21 k21 t22 k22 t24 k24 t25 k25 t26 k26 t27 k27 t28 k28 d0 d1 d2 d3 d4 d5 d6 d7 d8 d9 d10 f0 f1 f2 f3 f4 f5 f6 f7 f8 f9 f10 f11 f12 f13 f14 f15 f16 f17 f18 f19 f20 f21 f22 f23 f24 f25 f26
  replace f0 := shm_107 f0
  replace f4 := shm_107 f4
  replace f6 := shm_107 f6
  replace f12 := shm_107 f12
  replace f14 := shm_107 f14
  replace f16 := shm_107 f16
  replace f24 := shm_5 f24
  replace f25 := shm_5 f25
  replace f26 := shm_5 f26
  have q11 : n_v vs 11 = n_v vs 3 := f24.symm
  have q12 : n_v vs 12 = n_v vs 4 := f25.symm
  have q13 : n_v vs 13 = n_v vs 5 := f26.symm
  simp only [q13, q11, q12] at f0 f4 f6 f12 f14 f16
  have h0 : v_iv (n_v vs 28) = w_ei ws (v_ad (n_v vs 5)) (v_iv (n_v vs 15)) := f0
  have h4 : v_iv (n_v vs 26) = w_ei ws (v_ad (n_v vs 5)) (v_iv (n_v vs 15)) := f4
  have h6 : v_iv (n_v vs 25) = w_ei ws (v_ad (n_v vs 5)) (v_iv (n_v vs 15)) := f6
  have h12 : v_iv (n_v vs 19) = w_ei ws (v_ad (n_v vs 3)) (v_iv (n_v vs 15)) := f12
  have h14 : v_iv (n_v vs 18) = w_ei ws (v_ad (n_v vs 4)) (v_iv (n_v vs 15)) := f14
  have h16 : v_iv (n_v vs 16) = w_ei ws (v_ad (n_v vs 3)) (v_iv (n_v vs 15)) := f16
  have hrf0 : 0 ≤ v_iv (n_v vs 28) ∧ v_iv (n_v vs 28) ≤ 71 := vc_Fa_uniteAt_at_Nptail_Nphead_Emblock_3_r0 (v_iv (n_v vs 15)) (v_iv (n_v vs 16)) (v_iv (n_v vs 18)) (v_iv (n_v vs 19)) (v_iv (n_v vs 25)) (v_iv (n_v vs 26)) (v_iv (n_v vs 28)) (w_ei ws (v_ad (n_v vs 5))) (w_ei ws (v_ad (n_v vs 3))) (w_ei ws (v_ad (n_v vs 4))) k15 k16 k18 k19 k25 k26 k28 h0 h4 h6 h12 h14 h16
  have rf28 : tv_ok ta (0, 0, 71, []) (n_v vs 28) := tv_in t28 (by first | omega | grind) (by first | omega | grind)
  refine ⟨List.forall_mem_cons.mpr ⟨rf28, (fun _ h => (by cases h))⟩, [], trivial, ?_, (fun _ h => (by cases h))⟩
  rw [List.append_nil]
  exact (fun _ h => (by cases h))
set_option maxHeartbeats 4000000 in
theorem vc_Fa_uniteAt_at_Nptail_Nphead_Emblock_4_2 (x0 : Int) (x8 : Int) (x15 : Int) (x16 : Int) (x18 : Int) (x19 : Int) (x25 : Int) (x26 : Int) (x28 : Int) (a5_0 : Int → Int) (a3_0 : Int → Int) (a4_0 : Int → Int) (gu : Int) (k0 : 0 ≤ x0 ∧ x0 ≤ 24) (k8 : 0 ≤ x8 ∧ x8 ≤ 24) (k15 : 0 ≤ x15 ∧ x15 ≤ 71) (k16 : 0 ≤ x16 ∧ x16 ≤ 24) (k18 : 0 ≤ x18 ∧ x18 ≤ 24) (k19 : 0 ≤ x19 ∧ x19 ≤ 24) (k25 : (-1) ≤ x25 ∧ x25 ≤ 71) (k26 : 0 ≤ x26 ∧ x26 ≤ 71) (k28 : 0 ≤ x28 ∧ x28 ≤ 71) (d0 : x8 + 0 ≤ x18 ∧ x18 ≤ x8 + 0) (d2 : x8 + (-4294967296) ≤ x0 ∧ x0 ≤ x8 + 0) (d5 : x0 + (-4294967296) ≤ x8 ∧ x8 ≤ x0 + 0) (h3 : x28 = a5_0 (x15)) (h7 : x26 = a5_0 (x15)) (h9 : x25 = a5_0 (x15)) (h15 : x19 = a3_0 (x15)) (h17 : x18 = a4_0 (x15)) (h19 : x16 = a3_0 (x15)) (eu2 : gu = x0) : 1 * gu + ((-1) * x0 + 0) ≤ 0 := by
  first
    | omega
    | (skip; (first | subst h3 | skip); (first | subst h7 | skip); (first | subst h9 | skip); (first | subst h15 | skip); (first | subst h17 | skip); (first | subst h19 | skip); have q := ‹BLQ _ _› x15 (by omega) (by omega); omega)
set_option maxHeartbeats 4000000 in
theorem vc_Fa_uniteAt_at_Nptail_Nphead_Emblock_4_3 (x0 : Int) (x8 : Int) (x15 : Int) (x16 : Int) (x18 : Int) (x19 : Int) (x25 : Int) (x26 : Int) (x28 : Int) (a5_0 : Int → Int) (a3_0 : Int → Int) (a4_0 : Int → Int) (gu : Int) (k0 : 0 ≤ x0 ∧ x0 ≤ 24) (k8 : 0 ≤ x8 ∧ x8 ≤ 24) (k15 : 0 ≤ x15 ∧ x15 ≤ 71) (k16 : 0 ≤ x16 ∧ x16 ≤ 24) (k18 : 0 ≤ x18 ∧ x18 ≤ 24) (k19 : 0 ≤ x19 ∧ x19 ≤ 24) (k25 : (-1) ≤ x25 ∧ x25 ≤ 71) (k26 : 0 ≤ x26 ∧ x26 ≤ 71) (k28 : 0 ≤ x28 ∧ x28 ≤ 71) (d0 : x8 + 0 ≤ x18 ∧ x18 ≤ x8 + 0) (d2 : x8 + (-4294967296) ≤ x0 ∧ x0 ≤ x8 + 0) (d5 : x0 + (-4294967296) ≤ x8 ∧ x8 ≤ x0 + 0) (h3 : x28 = a5_0 (x15)) (h7 : x26 = a5_0 (x15)) (h9 : x25 = a5_0 (x15)) (h15 : x19 = a3_0 (x15)) (h17 : x18 = a4_0 (x15)) (h19 : x16 = a3_0 (x15)) (eu2 : gu = x0) : (-1) * gu + (1 * x0 + 0) ≤ 0 := by
  first
    | omega
    | (skip; (first | subst h3 | skip); (first | subst h7 | skip); (first | subst h9 | skip); (first | subst h15 | skip); (first | subst h17 | skip); (first | subst h19 | skip); have q := ‹BLQ _ _› x15 (by omega) (by omega); omega)
set_option maxHeartbeats 4000000 in
theorem vc_Fa_uniteAt_at_Nptail_Nphead_Emblock_4_5 (x7 : Int) (x15 : Int) (x16 : Int) (x18 : Int) (x19 : Int) (x25 : Int) (x26 : Int) (x28 : Int) (a5_0 : Int → Int) (a3_0 : Int → Int) (a4_0 : Int → Int) (gc : Int) (k7 : 0 ≤ x7 ∧ x7 ≤ 25) (k15 : 0 ≤ x15 ∧ x15 ≤ 71) (k16 : 0 ≤ x16 ∧ x16 ≤ 24) (k18 : 0 ≤ x18 ∧ x18 ≤ 24) (k19 : 0 ≤ x19 ∧ x19 ≤ 24) (k25 : (-1) ≤ x25 ∧ x25 ≤ 71) (k26 : 0 ≤ x26 ∧ x26 ≤ 71) (k28 : 0 ≤ x28 ∧ x28 ≤ 71) (h3 : x28 = a5_0 (x15)) (h7 : x26 = a5_0 (x15)) (h9 : x25 = a5_0 (x15)) (h15 : x19 = a3_0 (x15)) (h17 : x18 = a4_0 (x15)) (h19 : x16 = a3_0 (x15)) (ec2 : gc = x7) : 1 * gc + ((-1) * x7 + 0) ≤ 0 := by
  first
    | omega
    | (skip; (first | subst h3 | skip); (first | subst h7 | skip); (first | subst h9 | skip); (first | subst h15 | skip); (first | subst h17 | skip); (first | subst h19 | skip); have q := ‹BLQ _ _› x15 (by omega) (by omega); omega)
set_option maxHeartbeats 4000000 in
theorem vc_Fa_uniteAt_at_Nptail_Nphead_Emblock_4_6 (x7 : Int) (x15 : Int) (x16 : Int) (x18 : Int) (x19 : Int) (x25 : Int) (x26 : Int) (x28 : Int) (a5_0 : Int → Int) (a3_0 : Int → Int) (a4_0 : Int → Int) (gc : Int) (k7 : 0 ≤ x7 ∧ x7 ≤ 25) (k15 : 0 ≤ x15 ∧ x15 ≤ 71) (k16 : 0 ≤ x16 ∧ x16 ≤ 24) (k18 : 0 ≤ x18 ∧ x18 ≤ 24) (k19 : 0 ≤ x19 ∧ x19 ≤ 24) (k25 : (-1) ≤ x25 ∧ x25 ≤ 71) (k26 : 0 ≤ x26 ∧ x26 ≤ 71) (k28 : 0 ≤ x28 ∧ x28 ≤ 71) (h3 : x28 = a5_0 (x15)) (h7 : x26 = a5_0 (x15)) (h9 : x25 = a5_0 (x15)) (h15 : x19 = a3_0 (x15)) (h17 : x18 = a4_0 (x15)) (h19 : x16 = a3_0 (x15)) (ec2 : gc = x7) : (-1) * gc + (1 * x7 + 0) ≤ 0 := by
  first
    | omega
    | (skip; (first | subst h3 | skip); (first | subst h7 | skip); (first | subst h9 | skip); (first | subst h15 | skip); (first | subst h17 | skip); (first | subst h19 | skip); have q := ‹BLQ _ _› x15 (by omega) (by omega); omega)
set_option maxHeartbeats 4000000 in
theorem vc_Fa_uniteAt_at_Nptail_Nphead_Emblock_4_7 (x1 : Int) (x9 : Int) (x15 : Int) (x16 : Int) (x18 : Int) (x19 : Int) (x25 : Int) (x26 : Int) (x28 : Int) (a5_0 : Int → Int) (a3_0 : Int → Int) (a4_0 : Int → Int) (gd : Int) (k1 : 0 ≤ x1 ∧ x1 ≤ 33554431) (k9 : 0 ≤ x9 ∧ x9 ≤ 33554431) (k15 : 0 ≤ x15 ∧ x15 ≤ 71) (k16 : 0 ≤ x16 ∧ x16 ≤ 24) (k18 : 0 ≤ x18 ∧ x18 ≤ 24) (k19 : 0 ≤ x19 ∧ x19 ≤ 24) (k25 : (-1) ≤ x25 ∧ x25 ≤ 71) (k26 : 0 ≤ x26 ∧ x26 ≤ 71) (k28 : 0 ≤ x28 ∧ x28 ≤ 71) (d3 : x9 + (-4294967296) ≤ x1 ∧ x1 ≤ x9 + 0) (d6 : x1 + (-4294967296) ≤ x9 ∧ x9 ≤ x1 + 0) (h3 : x28 = a5_0 (x15)) (h7 : x26 = a5_0 (x15)) (h9 : x25 = a5_0 (x15)) (h15 : x19 = a3_0 (x15)) (h17 : x18 = a4_0 (x15)) (h19 : x16 = a3_0 (x15)) (ed2 : gd = x1) : 1 * gd + ((-1) * x1 + 0) ≤ 0 := by
  first
    | omega
    | (skip; (first | subst h3 | skip); (first | subst h7 | skip); (first | subst h9 | skip); (first | subst h15 | skip); (first | subst h17 | skip); (first | subst h19 | skip); have q := ‹BLQ _ _› x15 (by omega) (by omega); omega)
set_option maxHeartbeats 4000000 in
theorem vc_Fa_uniteAt_at_Nptail_Nphead_Emblock_4_8 (x1 : Int) (x9 : Int) (x15 : Int) (x16 : Int) (x18 : Int) (x19 : Int) (x25 : Int) (x26 : Int) (x28 : Int) (a5_0 : Int → Int) (a3_0 : Int → Int) (a4_0 : Int → Int) (gd : Int) (k1 : 0 ≤ x1 ∧ x1 ≤ 33554431) (k9 : 0 ≤ x9 ∧ x9 ≤ 33554431) (k15 : 0 ≤ x15 ∧ x15 ≤ 71) (k16 : 0 ≤ x16 ∧ x16 ≤ 24) (k18 : 0 ≤ x18 ∧ x18 ≤ 24) (k19 : 0 ≤ x19 ∧ x19 ≤ 24) (k25 : (-1) ≤ x25 ∧ x25 ≤ 71) (k26 : 0 ≤ x26 ∧ x26 ≤ 71) (k28 : 0 ≤ x28 ∧ x28 ≤ 71) (d3 : x9 + (-4294967296) ≤ x1 ∧ x1 ≤ x9 + 0) (d6 : x1 + (-4294967296) ≤ x9 ∧ x9 ≤ x1 + 0) (h3 : x28 = a5_0 (x15)) (h7 : x26 = a5_0 (x15)) (h9 : x25 = a5_0 (x15)) (h15 : x19 = a3_0 (x15)) (h17 : x18 = a4_0 (x15)) (h19 : x16 = a3_0 (x15)) (ed2 : gd = x1) : (-1) * gd + (1 * x1 + 0) ≤ 0 := by
  first
    | omega
    | (skip; (first | subst h3 | skip); (first | subst h7 | skip); (first | subst h9 | skip); (first | subst h15 | skip); (first | subst h17 | skip); (first | subst h19 | skip); have q := ‹BLQ _ _› x15 (by omega) (by omega); omega)
set_option maxHeartbeats 4000000 in
theorem vc_Fa_uniteAt_at_Nptail_Nphead_Emblock_4_9 (x2 : Int) (a5_0 : Int → Int) (k2 : 1 ≤ x2 ∧ x2 ≤ 72) (f21 : BLQ (a5_0) (x2)) : BLQ (a5_0) (x2) := by
  first
    | assumption
  
set_option maxHeartbeats 4000000 in
theorem vc_Fa_uniteAt_at_Nptail_Nphead_Emblock_4_10 (x15 : Int) (x16 : Int) (x18 : Int) (x19 : Int) (x25 : Int) (x26 : Int) (x27 : Int) (x28 : Int) (x29 : Int) (a5_0 : Int → Int) (a3_0 : Int → Int) (a4_0 : Int → Int) (k15 : 0 ≤ x15 ∧ x15 ≤ 71) (k16 : 0 ≤ x16 ∧ x16 ≤ 24) (k18 : 0 ≤ x18 ∧ x18 ≤ 24) (k19 : 0 ≤ x19 ∧ x19 ≤ 24) (k25 : (-1) ≤ x25 ∧ x25 ≤ 71) (k26 : 0 ≤ x26 ∧ x26 ≤ 71) (k27 : 0 ≤ x27 ∧ x27 ≤ 71) (k28 : 0 ≤ x28 ∧ x28 ≤ 71) (k29 : 0 ≤ x29 ∧ x29 ≤ 71) (f1 : (-1) * x28 + (1 * x29 + 0) ≤ 0) (h3 : x28 = a5_0 (x15)) (f5 : 1 * x26 + ((-1) * x27 + 0) ≤ 0) (h7 : x26 = a5_0 (x15)) (h9 : x25 = a5_0 (x15)) (h15 : x19 = a3_0 (x15)) (h17 : x18 = a4_0 (x15)) (h19 : x16 = a3_0 (x15)) : (0 ≤ x29) ∧ (x29 ≤ x27) := by
  first
    | omega
    | (skip; (first | subst h3 | skip); (first | subst h7 | skip); (first | subst h9 | skip); (first | subst h15 | skip); (first | subst h17 | skip); (first | subst h19 | skip); have q := ‹BLQ _ _› x15 (by omega) (by omega); omega)
set_option maxHeartbeats 4000000 in
theorem vc_Fa_uniteAt_at_Nptail_Nphead_Emblock_4_11 (x0 : Int) (x2 : Int) (x8 : Int) (x14 : Int) (x15 : Int) (x16 : Int) (x18 : Int) (x22 : Int) (x24 : Int) (x25 : Int) (x26 : Int) (x27 : Int) (x28 : Int) (x29 : Int) (a5_0 : Int → Int) (a3_0 : Int → Int) (a4_0 : Int → Int) (gu : Int) (k0 : 0 ≤ x0 ∧ x0 ≤ 24) (k2 : 1 ≤ x2 ∧ x2 ≤ 72) (k8 : 0 ≤ x8 ∧ x8 ≤ 24) (k14 : 0 ≤ x14 ∧ x14 ≤ 71) (k15 : 0 ≤ x15 ∧ x15 ≤ 71) (k16 : 0 ≤ x16 ∧ x16 ≤ 24) (k18 : 0 ≤ x18 ∧ x18 ≤ 24) (k22 : 1 ≤ x22 ∧ x22 ≤ 1) (k24 : (-1) ≤ x24 ∧ x24 ≤ (-1)) (k25 : (-1) ≤ x25 ∧ x25 ≤ 71) (k26 : 0 ≤ x26 ∧ x26 ≤ 71) (k27 : 0 ≤ x27 ∧ x27 ≤ 71) (k28 : 0 ≤ x28 ∧ x28 ≤ 71) (k29 : 0 ≤ x29 ∧ x29 ≤ 71) (d0 : x8 + 0 ≤ x18 ∧ x18 ≤ x8 + 0) (d2 : x8 + (-4294967296) ≤ x0 ∧ x0 ≤ x8 + 0) (d5 : x0 + (-4294967296) ≤ x8 ∧ x8 ≤ x0 + 0) (f0 : (-1) * x14 + (1 * x29 + 0) ≤ 0) (f1 : (-1) * x28 + (1 * x29 + 0) ≤ 0) (f2 : (x29 = x14) ∨ (x29 = x28)) (h3 : x28 = a5_0 (x15)) (f4 : 1 * x14 + ((-1) * x27 + 0) ≤ 0) (f5 : 1 * x26 + ((-1) * x27 + 0) ≤ 0) (f6 : (x27 = x14) ∨ (x27 = x26)) (h7 : x26 = a5_0 (x15)) (f8 : x25 ≠ x14) (h9 : x25 = a5_0 (x15)) (f10 : x14 ≠ x24) (f11 : x22 ≠ 0) (h17 : x18 = a4_0 (x15)) (f18 : x16 ≠ x0) (f20 : x15 < x2) (f22 : UNI (a5_0) (a3_0) (a4_0) (x2) (x0) (x14)) (eu2 : gu = x0) : RLP (a5_0) (a3_0) (a4_0) (x2) (x27) (x29) (gu) := by
  first
    | (rw [show gu = x0 by omega]; exact uni_rlp (e := x15) ‹UNI _ _ _ _ _ _› (by omega) rfl (by omega) (by omega) (by omega) (by first | exact Or.inl (by omega) | exact Or.inr (by omega)) (by omega) (by omega) (by omega) (by omega) (by omega) (by omega))
  
set_option maxHeartbeats 4000000 in
theorem vc_Fa_uniteAt_at_Nptail_Nphead_Emblock_4_12 (x0 : Int) (x1 : Int) (x2 : Int) (x7 : Int) (x8 : Int) (x14 : Int) (x15 : Int) (x16 : Int) (x18 : Int) (x19 : Int) (x20 : Int) (x21 : Int) (x22 : Int) (x24 : Int) (x25 : Int) (x26 : Int) (x27 : Int) (x28 : Int) (x29 : Int) (a5_0 : Int → Int) (a3_0 : Int → Int) (a4_0 : Int → Int) (a6_0 : Int → Int) (gu : Int) (gc : Int) (gd : Int) (k0 : 0 ≤ x0 ∧ x0 ≤ 24) (k1 : 0 ≤ x1 ∧ x1 ≤ 33554431) (k2 : 1 ≤ x2 ∧ x2 ≤ 72) (k7 : 0 ≤ x7 ∧ x7 ≤ 25) (k8 : 0 ≤ x8 ∧ x8 ≤ 24) (k14 : 0 ≤ x14 ∧ x14 ≤ 71) (k15 : 0 ≤ x15 ∧ x15 ≤ 71) (k16 : 0 ≤ x16 ∧ x16 ≤ 24) (k18 : 0 ≤ x18 ∧ x18 ≤ 24) (k19 : 0 ≤ x19 ∧ x19 ≤ 24) (k20 : 0 ≤ x20 ∧ x20 ≤ 33554431) (k21 : 1 ≤ x21 ∧ x21 ≤ 1) (k22 : 1 ≤ x22 ∧ x22 ≤ 1) (k24 : (-1) ≤ x24 ∧ x24 ≤ (-1)) (k25 : (-1) ≤ x25 ∧ x25 ≤ 71) (k26 : 0 ≤ x26 ∧ x26 ≤ 71) (k27 : 0 ≤ x27 ∧ x27 ≤ 71) (k28 : 0 ≤ x28 ∧ x28 ≤ 71) (k29 : 0 ≤ x29 ∧ x29 ≤ 71) (d0 : x8 + 0 ≤ x18 ∧ x18 ≤ x8 + 0) (d2 : x8 + (-4294967296) ≤ x0 ∧ x0 ≤ x8 + 0) (d5 : x0 + (-4294967296) ≤ x8 ∧ x8 ≤ x0 + 0) (f0 : (-1) * x14 + (1 * x29 + 0) ≤ 0) (f1 : (-1) * x28 + (1 * x29 + 0) ≤ 0) (f2 : (x29 = x14) ∨ (x29 = x28)) (h3 : x28 = a5_0 (x15)) (f4 : 1 * x14 + ((-1) * x27 + 0) ≤ 0) (f5 : 1 * x26 + ((-1) * x27 + 0) ≤ 0) (f6 : (x27 = x14) ∨ (x27 = x26)) (h7 : x26 = a5_0 (x15)) (f8 : x25 ≠ x14) (h9 : x25 = a5_0 (x15)) (f10 : x14 ≠ x24) (f11 : x22 ≠ 0) (f13 : bvp (x22) = bvp (x20) &&& bvp (x21)) (f14 : bvp (x20) = bvp (x1) >>> (x19).toNat) (h15 : x19 = a3_0 (x15)) (h17 : x18 = a4_0 (x15)) (f18 : x16 ≠ x0) (f20 : x15 < x2) (f23 : UN2 (a5_0) (a3_0) (a4_0) (a6_0) (x7) (x2) (x0) (x1) (x14)) (eu2 : gu = x0) (ec2 : gc = x7) (ed2 : gd = x1) : QKP (a5_0) (a3_0) (a4_0) (a6_0) (gc) (x2) (gu) (gd) (x27) (x29) := by
  first
    | (rw [show gu = x0 by omega, show gc = x7 by omega, show gd = x1 by omega]; exact un2_qkp (e := x15) ‹UN2 _ _ _ _ _ _ _ _ _› (by omega) rfl (by omega) (by omega) (by omega) (by first | exact Or.inl ⟨by omega, by omega, by rw [← ‹x17 = a4_0 x15›]; exact (bit_one (s := x1) (t := x18) (c := x20) (v := x17) (one := x19) (by assumption) (by assumption) (by omega) (by omega) (by omega) (by omega)).mpr (by omega)⟩ | exact Or.inr ⟨by omega, by omega, by rw [← ‹x19 = a3_0 x15›]; exact (bit_one (s := x1) (t := x20) (c := x22) (v := x19) (one := x21) (by assumption) (by assumption) (by omega) (by omega) (by omega) (by omega)).mpr (by omega)⟩ | exact Or.inr ⟨by omega, by omega, by rw [← ‹x23 = a3_0 x15›]; exact (bit_one (s := x1) (t := x24) (c := x26) (v := x23) (one := x25) (by assumption) (by assumption) (by omega) (by omega) (by omega) (by omega)).mpr (by omega)⟩) (by omega) (by omega) (by omega) (by omega) (by omega) (by omega))
  
set_option maxHeartbeats 4000000 in
theorem vc_Fa_uniteAt_at_Nptail_Nphead_Emblock_4_13 (x0 : Int) (x15 : Int) (x16 : Int) (x18 : Int) (x19 : Int) (x25 : Int) (x26 : Int) (x28 : Int) (a5_0 : Int → Int) (a3_0 : Int → Int) (a4_0 : Int → Int) (gu : Int) (k0 : 0 ≤ x0 ∧ x0 ≤ 24) (k15 : 0 ≤ x15 ∧ x15 ≤ 71) (k16 : 0 ≤ x16 ∧ x16 ≤ 24) (k18 : 0 ≤ x18 ∧ x18 ≤ 24) (k19 : 0 ≤ x19 ∧ x19 ≤ 24) (k25 : (-1) ≤ x25 ∧ x25 ≤ 71) (k26 : 0 ≤ x26 ∧ x26 ≤ 71) (k28 : 0 ≤ x28 ∧ x28 ≤ 71) (h3 : x28 = a5_0 (x15)) (h7 : x26 = a5_0 (x15)) (h9 : x25 = a5_0 (x15)) (h15 : x19 = a3_0 (x15)) (h17 : x18 = a4_0 (x15)) (h19 : x16 = a3_0 (x15)) (eu2 : gu = x0) : gu = x0 := by
  first
    | omega
    | (skip; (first | subst h3 | skip); (first | subst h7 | skip); (first | subst h9 | skip); (first | subst h15 | skip); (first | subst h17 | skip); (first | subst h19 | skip); have q := ‹BLQ _ _› x15 (by omega) (by omega); omega)
set_option maxHeartbeats 4000000 in
theorem vc_Fa_uniteAt_at_Nptail_Nphead_Emblock_4_14 (x15 : Int) (x16 : Int) (x18 : Int) (x19 : Int) (x25 : Int) (x26 : Int) (x28 : Int) (x29 : Int) (a5_0 : Int → Int) (a3_0 : Int → Int) (a4_0 : Int → Int) (k15 : 0 ≤ x15 ∧ x15 ≤ 71) (k16 : 0 ≤ x16 ∧ x16 ≤ 24) (k18 : 0 ≤ x18 ∧ x18 ≤ 24) (k19 : 0 ≤ x19 ∧ x19 ≤ 24) (k25 : (-1) ≤ x25 ∧ x25 ≤ 71) (k26 : 0 ≤ x26 ∧ x26 ≤ 71) (k28 : 0 ≤ x28 ∧ x28 ≤ 71) (k29 : 0 ≤ x29 ∧ x29 ≤ 71) (h3 : x28 = a5_0 (x15)) (h7 : x26 = a5_0 (x15)) (h9 : x25 = a5_0 (x15)) (h15 : x19 = a3_0 (x15)) (h17 : x18 = a4_0 (x15)) (h19 : x16 = a3_0 (x15)) : 0 ≤ x29 := by
  first
    | omega
    | (skip; (first | subst h3 | skip); (first | subst h7 | skip); (first | subst h9 | skip); (first | subst h15 | skip); (first | subst h17 | skip); (first | subst h19 | skip); have q := ‹BLQ _ _› x15 (by omega) (by omega); omega)
set_option maxHeartbeats 4000000 in
theorem vc_Fa_uniteAt_at_Nptail_Nphead_Emblock_4_15 (x7 : Int) (x15 : Int) (x16 : Int) (x18 : Int) (x19 : Int) (x25 : Int) (x26 : Int) (x28 : Int) (a5_0 : Int → Int) (a3_0 : Int → Int) (a4_0 : Int → Int) (gc : Int) (k7 : 0 ≤ x7 ∧ x7 ≤ 25) (k15 : 0 ≤ x15 ∧ x15 ≤ 71) (k16 : 0 ≤ x16 ∧ x16 ≤ 24) (k18 : 0 ≤ x18 ∧ x18 ≤ 24) (k19 : 0 ≤ x19 ∧ x19 ≤ 24) (k25 : (-1) ≤ x25 ∧ x25 ≤ 71) (k26 : 0 ≤ x26 ∧ x26 ≤ 71) (k28 : 0 ≤ x28 ∧ x28 ≤ 71) (h3 : x28 = a5_0 (x15)) (h7 : x26 = a5_0 (x15)) (h9 : x25 = a5_0 (x15)) (h15 : x19 = a3_0 (x15)) (h17 : x18 = a4_0 (x15)) (h19 : x16 = a3_0 (x15)) (ec2 : gc = x7) : gc = x7 := by
  first
    | omega
    | (skip; (first | subst h3 | skip); (first | subst h7 | skip); (first | subst h9 | skip); (first | subst h15 | skip); (first | subst h17 | skip); (first | subst h19 | skip); have q := ‹BLQ _ _› x15 (by omega) (by omega); omega)
set_option maxHeartbeats 4000000 in
theorem vc_Fa_uniteAt_at_Nptail_Nphead_Emblock_4_16 (x1 : Int) (x15 : Int) (x16 : Int) (x18 : Int) (x19 : Int) (x25 : Int) (x26 : Int) (x28 : Int) (a5_0 : Int → Int) (a3_0 : Int → Int) (a4_0 : Int → Int) (gd : Int) (k1 : 0 ≤ x1 ∧ x1 ≤ 33554431) (k15 : 0 ≤ x15 ∧ x15 ≤ 71) (k16 : 0 ≤ x16 ∧ x16 ≤ 24) (k18 : 0 ≤ x18 ∧ x18 ≤ 24) (k19 : 0 ≤ x19 ∧ x19 ≤ 24) (k25 : (-1) ≤ x25 ∧ x25 ≤ 71) (k26 : 0 ≤ x26 ∧ x26 ≤ 71) (k28 : 0 ≤ x28 ∧ x28 ≤ 71) (h3 : x28 = a5_0 (x15)) (h7 : x26 = a5_0 (x15)) (h9 : x25 = a5_0 (x15)) (h15 : x19 = a3_0 (x15)) (h17 : x18 = a4_0 (x15)) (h19 : x16 = a3_0 (x15)) (ed2 : gd = x1) : gd = x1 := by
  first
    | omega
    | (skip; (first | subst h3 | skip); (first | subst h7 | skip); (first | subst h9 | skip); (first | subst h15 | skip); (first | subst h17 | skip); (first | subst h19 | skip); have q := ‹BLQ _ _› x15 (by omega) (by omega); omega)
def o_Fa_uniteAt_at_Nptail_Nphead_Emblock_4 : or_T := (136, 30, [(0, (0, 0, 24, [])), (1, (0, 0, 33554431, [])), (2, (0, 1, 72, [])), (3, (2, 0, 0, [140])), (4, (2, 0, 0, [141])), (5, (2, 0, 0, [26])), (6, (2, 0, 0, [142])), (7, (0, 0, 25, [])), (8, (0, 0, 24, [])), (9, (0, 0, 33554431, [])), (10, (0, 1, 72, [])), (11, (2, 0, 0, [140])), (12, (2, 0, 0, [141])), (13, (2, 0, 0, [26])), (14, (0, 0, 71, [])), (15, (0, 0, 71, [])), (16, (0, 0, 24, [])), (18, (0, 0, 24, [])), (19, (0, 0, 24, [])), (20, (0, 0, 33554431, [])), (21, (0, 1, 1, [])), (22, (0, 1, 1, [])), (24, (0, -1, -1, [])), (25, (0, -1, 71, [])), (26, (0, 0, 71, [])), (27, (0, 0, 71, [])), (28, (0, 0, 71, [])), (29, (0, 0, 71, []))], [(23, [14, 29], [0, -1, 1]), (23, [28, 29], [0, -1, 1]), (20, [29, 14, 28], [50, 0, 0, 3, 6, 1, 2, 1, 0, 1, 1, 1, 2, 1, 0, 1, 2]), (10, [28, 13, 15], []), (23, [14, 27], [0, 1, -1]), (23, [26, 27], [0, 1, -1]), (20, [27, 14, 26], [50, 0, 0, 3, 6, 1, 2, 1, 0, 1, 1, 1, 2, 1, 0, 1, 2]), (10, [26, 13, 15], []), (7, [25, 14], [1]), (10, [25, 13, 15], []), (7, [14, 24], [1]), (8, [22], [1]), (12, [22, 20], [2]), (16, [22, 20, 21], [0]), (16, [20, 9, 19], [4]), (10, [19, 11, 15], []), (7, [18, 8], [0]), (10, [18, 12, 15], []), (7, [16, 8], [1]), (10, [16, 11, 15], []), (7, [15, 10], [2]), (20, [13, 10], [61, 1, 566]), (20, [13, 11, 12, 10, 8, 14], [61, 3, 584]), (20, [13, 11, 12, 6, 7, 10, 8, 9, 14], [61, 4, 589]), (24, [0, 8], []), (24, [1, 9], []), (24, [2, 10], []), (24, [3, 11], []), (24, [4, 12], []), (24, [5, 13], [])], [], [(2, 0, 0, [140]), (2, 0, 0, [141]), (0, 0, 24, []), (2, 0, 0, [142]), (0, 0, 25, []), (0, -2147483648, 2147483647, [])], [(24, [3, 30], []), (24, [4, 31], []), (23, [32, 8], [0, 1, -1]), (23, [32, 8], [0, -1, 1]), (24, [6, 33], []), (23, [34, 7], [0, 1, -1]), (23, [34, 7], [0, -1, 1]), (23, [35, 9], [0, 1, -1]), (23, [35, 9], [0, -1, 1]), (20, [13, 10], [61, 1, 566]), (20, [29, 27], [50, 0, 0, 2, 6, 0, 2, 0, 0, 1, 0, 0, 2, 1, 0, 1, 1]), (20, [13, 30, 31, 10, 27, 29, 32], [61, 3, 581]), (20, [13, 30, 31, 33, 34, 10, 32, 35, 27, 29], [61, 4, 590]), (20, [32, 8], [50, 0, 0, 1, 2, 1, 0, 1, 1]), (20, [29], [50, 0, 0, 0, 2, 0, 0, 1, 0]), (20, [34, 7], [50, 0, 0, 1, 2, 1, 0, 1, 1]), (20, [35, 9], [50, 0, 0, 1, 2, 1, 0, 1, 1])], [], [(18, 8, 0, 0), (15, 10, -4294967296, -1), (0, 8, -4294967296, 0), (1, 9, -4294967296, 0), (2, 10, -4294967296, 0), (8, 0, -4294967296, 0), (9, 1, -4294967296, 0), (10, 2, -4294967296, 0), (14, 15, -4294967296, 70), (15, 2, -4294967296, 0), (15, 10, -4294967296, 0)])
theorem oo_Fa_uniteAt_at_Nptail_Nphead_Emblock_4 {kA : Nat → ClassId} : or_ok PRD kA GG o_Fa_uniteAt_at_Nptail_Nphead_Emblock_4 := by
  refine or_mk fun A ta ws vs hD hth hl => ?_
  intro t0 k0 t1 k1 t2 k2 t3 r3 t4 r4 t5 r5 t6 r6 t7 k7 t8 k8 t9 k9 t10 k10 t11 r11 t12 r12 t13 r13 t14 k14 t15 k15 t16 k16 t18 k18 t19 k19 t20 k20 t21 k21 t22 k22 t24 k24 t25 k25 t26 k26 t27 k27 t28 k28 t29 k29 d0 d1 d2 d3 d4 d5 d6 d7 d8 d9 d10 f0 f1 f2 f3 f4 f5 f6 f7 f8 f9 f10 f11 f12 f13 f14 f15 f16 f17 f18 f19 f20 f21 f22 f23 f24 f25 f26 f27 f28 f29
  replace f0 := shm_22 f0
  replace f1 := shm_22 f1
  replace f2 := shm_898 f2
  replace f3 := shm_107 f3
  replace f4 := shm_7 f4
  replace f5 := shm_7 f5
  replace f6 := shm_898 f6
  replace f7 := shm_107 f7
  replace f8 := shm_40 f8
  replace f9 := shm_107 f9
  replace f10 := shm_40 f10
  replace f11 := shm_142 f11
  replace f13 := shm_11 f13
  replace f14 := shm_13 f14
  replace f15 := shm_107 f15
  replace f17 := shm_107 f17
  replace f18 := shm_40 f18
  replace f19 := shm_107 f19
  replace f20 := shm_6 f20
  replace f21 := shm_365 f21
  replace f22 := shm_1193 f22
  replace f23 := shm_1194 f23
  replace f24 := shm_5 f24
  replace f25 := shm_5 f25
  replace f26 := shm_5 f26
  replace f27 := shm_5 f27
  replace f28 := shm_5 f28
  replace f29 := shm_5 f29
  have q8 : n_v vs 8 = n_v vs 0 := f24.symm
  have q9 : n_v vs 9 = n_v vs 1 := f25.symm
  have q10 : n_v vs 10 = n_v vs 2 := f26.symm
  have q11 : n_v vs 11 = n_v vs 3 := f27.symm
  have q12 : n_v vs 12 = n_v vs 4 := f28.symm
  have q13 : n_v vs 13 = n_v vs 5 := f29.symm
  simp only [q13, q9, q11, q8, q12, q10] at f3 f7 f9 f14 f15 f17 f18 f19 f20 f21 f22 f23
  have h3 : v_iv (n_v vs 28) = w_ei ws (v_ad (n_v vs 5)) (v_iv (n_v vs 15)) := f3
  have h7 : v_iv (n_v vs 26) = w_ei ws (v_ad (n_v vs 5)) (v_iv (n_v vs 15)) := f7
  have h9 : v_iv (n_v vs 25) = w_ei ws (v_ad (n_v vs 5)) (v_iv (n_v vs 15)) := f9
  have h15 : v_iv (n_v vs 19) = w_ei ws (v_ad (n_v vs 3)) (v_iv (n_v vs 15)) := f15
  have h17 : v_iv (n_v vs 18) = w_ei ws (v_ad (n_v vs 4)) (v_iv (n_v vs 15)) := f17
  have h19 : v_iv (n_v vs 16) = w_ei ws (v_ad (n_v vs 3)) (v_iv (n_v vs 15)) := f19
  obtain ⟨u, eu, hu⟩ := iv_ex (ta := ta) (lo := 0) (hi := 24) (z := v_iv (n_v vs 0)) (by omega) (by omega) (by omega) (by omega)
  have eu2 : v_iv (Value.int u) = v_iv (n_v vs 0) := eu
  have eu3 : 0 ≤ v_iv (Value.int u) ∧ v_iv (Value.int u) ≤ 24 := tv_rng hu
  obtain ⟨c, ec, hc⟩ := iv_ex (ta := ta) (lo := 0) (hi := 25) (z := v_iv (n_v vs 7)) (by omega) (by omega) (by omega) (by omega)
  have ec2 : v_iv (Value.int c) = v_iv (n_v vs 7) := ec
  have ec3 : 0 ≤ v_iv (Value.int c) ∧ v_iv (Value.int c) ≤ 25 := tv_rng hc
  obtain ⟨d, ed, hd⟩ := iv_ex (ta := ta) (lo := (-2147483648)) (hi := 2147483647) (z := v_iv (n_v vs 1)) (by omega) (by omega) (by omega) (by omega)
  have ed2 : v_iv (Value.int d) = v_iv (n_v vs 1) := ed
  have ed3 : (-2147483648) ≤ v_iv (Value.int d) ∧ v_iv (Value.int d) ≤ 2147483647 := tv_rng hd
  have e_3 : n_v (vs ++ [n_v vs 3, n_v vs 4, Value.int u, n_v vs 6, Value.int c, Value.int d]) 3 = n_v vs 3 := n_v_old (by rw [hl]; decide)
  have e_4 : n_v (vs ++ [n_v vs 3, n_v vs 4, Value.int u, n_v vs 6, Value.int c, Value.int d]) 4 = n_v vs 4 := n_v_old (by rw [hl]; decide)
  have e_6 : n_v (vs ++ [n_v vs 3, n_v vs 4, Value.int u, n_v vs 6, Value.int c, Value.int d]) 6 = n_v vs 6 := n_v_old (by rw [hl]; decide)
  have e_7 : n_v (vs ++ [n_v vs 3, n_v vs 4, Value.int u, n_v vs 6, Value.int c, Value.int d]) 7 = n_v vs 7 := n_v_old (by rw [hl]; decide)
  have e_8 : n_v (vs ++ [n_v vs 3, n_v vs 4, Value.int u, n_v vs 6, Value.int c, Value.int d]) 8 = n_v vs 8 := n_v_old (by rw [hl]; decide)
  have e_9 : n_v (vs ++ [n_v vs 3, n_v vs 4, Value.int u, n_v vs 6, Value.int c, Value.int d]) 9 = n_v vs 9 := n_v_old (by rw [hl]; decide)
  have e_10 : n_v (vs ++ [n_v vs 3, n_v vs 4, Value.int u, n_v vs 6, Value.int c, Value.int d]) 10 = n_v vs 10 := n_v_old (by rw [hl]; decide)
  have e_13 : n_v (vs ++ [n_v vs 3, n_v vs 4, Value.int u, n_v vs 6, Value.int c, Value.int d]) 13 = n_v vs 13 := n_v_old (by rw [hl]; decide)
  have e_27 : n_v (vs ++ [n_v vs 3, n_v vs 4, Value.int u, n_v vs 6, Value.int c, Value.int d]) 27 = n_v vs 27 := n_v_old (by rw [hl]; decide)
  have e_29 : n_v (vs ++ [n_v vs 3, n_v vs 4, Value.int u, n_v vs 6, Value.int c, Value.int d]) 29 = n_v vs 29 := n_v_old (by rw [hl]; decide)
  have e_30 : n_v (vs ++ [n_v vs 3, n_v vs 4, Value.int u, n_v vs 6, Value.int c, Value.int d]) 30 = n_v vs 3 := n_v_newk (k := 0) hl rfl
  have e_31 : n_v (vs ++ [n_v vs 3, n_v vs 4, Value.int u, n_v vs 6, Value.int c, Value.int d]) 31 = n_v vs 4 := n_v_newk (k := 1) hl rfl
  have e_32 : n_v (vs ++ [n_v vs 3, n_v vs 4, Value.int u, n_v vs 6, Value.int c, Value.int d]) 32 = Value.int u := n_v_newk (k := 2) hl rfl
  have e_33 : n_v (vs ++ [n_v vs 3, n_v vs 4, Value.int u, n_v vs 6, Value.int c, Value.int d]) 33 = n_v vs 6 := n_v_newk (k := 3) hl rfl
  have e_34 : n_v (vs ++ [n_v vs 3, n_v vs 4, Value.int u, n_v vs 6, Value.int c, Value.int d]) 34 = Value.int c := n_v_newk (k := 4) hl rfl
  have e_35 : n_v (vs ++ [n_v vs 3, n_v vs 4, Value.int u, n_v vs 6, Value.int c, Value.int d]) 35 = Value.int d := n_v_newk (k := 5) hl rfl
  have nf0 : fc_1 PRD (24, [3, 30], []) ws (vs ++ [n_v vs 3, n_v vs 4, Value.int u, n_v vs 6, Value.int c, Value.int d]) := by
    refine ⟨nf_inA hl rfl, sgq_5 ?_⟩
    · show n_v (vs ++ [n_v vs 3, n_v vs 4, Value.int u, n_v vs 6, Value.int c, Value.int d]) 3 = n_v (vs ++ [n_v vs 3, n_v vs 4, Value.int u, n_v vs 6, Value.int c, Value.int d]) 30
      first | rfl | simp only [e_3, e_30, q8, q9, q10, q11, q12, q13]
  have nf1 : fc_1 PRD (24, [4, 31], []) ws (vs ++ [n_v vs 3, n_v vs 4, Value.int u, n_v vs 6, Value.int c, Value.int d]) := by
    refine ⟨nf_inA hl rfl, sgq_5 ?_⟩
    · show n_v (vs ++ [n_v vs 3, n_v vs 4, Value.int u, n_v vs 6, Value.int c, Value.int d]) 4 = n_v (vs ++ [n_v vs 3, n_v vs 4, Value.int u, n_v vs 6, Value.int c, Value.int d]) 31
      first | rfl | simp only [e_4, e_31, q8, q9, q10, q11, q12, q13]
  have nf2 : fc_1 PRD (23, [32, 8], [0, 1, -1]) ws (vs ++ [n_v vs 3, n_v vs 4, Value.int u, n_v vs 6, Value.int c, Value.int d]) := by
    refine ⟨nf_inA hl rfl, sgq_7 ?_⟩
    · show 1 * v_iv (n_v (vs ++ [n_v vs 3, n_v vs 4, Value.int u, n_v vs 6, Value.int c, Value.int d]) 32) + ((-1) * v_iv (n_v (vs ++ [n_v vs 3, n_v vs 4, Value.int u, n_v vs 6, Value.int c, Value.int d]) 8) + 0) ≤ 0
      simp only [e_8, e_32, q8]
      exact vc_Fa_uniteAt_at_Nptail_Nphead_Emblock_4_2 (v_iv (n_v vs 0)) (v_iv (n_v vs 8)) (v_iv (n_v vs 15)) (v_iv (n_v vs 16)) (v_iv (n_v vs 18)) (v_iv (n_v vs 19)) (v_iv (n_v vs 25)) (v_iv (n_v vs 26)) (v_iv (n_v vs 28)) (w_ei ws (v_ad (n_v vs 5))) (w_ei ws (v_ad (n_v vs 3))) (w_ei ws (v_ad (n_v vs 4))) (v_iv (Value.int u)) k0 k8 k15 k16 k18 k19 k25 k26 k28 d0 d2 d5 h3 h7 h9 h15 h17 h19 eu2
  have nf3 : fc_1 PRD (23, [32, 8], [0, -1, 1]) ws (vs ++ [n_v vs 3, n_v vs 4, Value.int u, n_v vs 6, Value.int c, Value.int d]) := by
    refine ⟨nf_inA hl rfl, sgq_22 ?_⟩
    · show (-1) * v_iv (n_v (vs ++ [n_v vs 3, n_v vs 4, Value.int u, n_v vs 6, Value.int c, Value.int d]) 32) + (1 * v_iv (n_v (vs ++ [n_v vs 3, n_v vs 4, Value.int u, n_v vs 6, Value.int c, Value.int d]) 8) + 0) ≤ 0
      simp only [e_8, e_32, q8]
      exact vc_Fa_uniteAt_at_Nptail_Nphead_Emblock_4_3 (v_iv (n_v vs 0)) (v_iv (n_v vs 8)) (v_iv (n_v vs 15)) (v_iv (n_v vs 16)) (v_iv (n_v vs 18)) (v_iv (n_v vs 19)) (v_iv (n_v vs 25)) (v_iv (n_v vs 26)) (v_iv (n_v vs 28)) (w_ei ws (v_ad (n_v vs 5))) (w_ei ws (v_ad (n_v vs 3))) (w_ei ws (v_ad (n_v vs 4))) (v_iv (Value.int u)) k0 k8 k15 k16 k18 k19 k25 k26 k28 d0 d2 d5 h3 h7 h9 h15 h17 h19 eu2
  have nf4 : fc_1 PRD (24, [6, 33], []) ws (vs ++ [n_v vs 3, n_v vs 4, Value.int u, n_v vs 6, Value.int c, Value.int d]) := by
    refine ⟨nf_inA hl rfl, sgq_5 ?_⟩
    · show n_v (vs ++ [n_v vs 3, n_v vs 4, Value.int u, n_v vs 6, Value.int c, Value.int d]) 6 = n_v (vs ++ [n_v vs 3, n_v vs 4, Value.int u, n_v vs 6, Value.int c, Value.int d]) 33
      first | rfl | simp only [e_6, e_33, q8, q9, q10, q11, q12, q13]
  have nf5 : fc_1 PRD (23, [34, 7], [0, 1, -1]) ws (vs ++ [n_v vs 3, n_v vs 4, Value.int u, n_v vs 6, Value.int c, Value.int d]) := by
    refine ⟨nf_inA hl rfl, sgq_7 ?_⟩
    · show 1 * v_iv (n_v (vs ++ [n_v vs 3, n_v vs 4, Value.int u, n_v vs 6, Value.int c, Value.int d]) 34) + ((-1) * v_iv (n_v (vs ++ [n_v vs 3, n_v vs 4, Value.int u, n_v vs 6, Value.int c, Value.int d]) 7) + 0) ≤ 0
      simp only [e_7, e_34]
      exact vc_Fa_uniteAt_at_Nptail_Nphead_Emblock_4_5 (v_iv (n_v vs 7)) (v_iv (n_v vs 15)) (v_iv (n_v vs 16)) (v_iv (n_v vs 18)) (v_iv (n_v vs 19)) (v_iv (n_v vs 25)) (v_iv (n_v vs 26)) (v_iv (n_v vs 28)) (w_ei ws (v_ad (n_v vs 5))) (w_ei ws (v_ad (n_v vs 3))) (w_ei ws (v_ad (n_v vs 4))) (v_iv (Value.int c)) k7 k15 k16 k18 k19 k25 k26 k28 h3 h7 h9 h15 h17 h19 ec2
  have nf6 : fc_1 PRD (23, [34, 7], [0, -1, 1]) ws (vs ++ [n_v vs 3, n_v vs 4, Value.int u, n_v vs 6, Value.int c, Value.int d]) := by
    refine ⟨nf_inA hl rfl, sgq_22 ?_⟩
    · show (-1) * v_iv (n_v (vs ++ [n_v vs 3, n_v vs 4, Value.int u, n_v vs 6, Value.int c, Value.int d]) 34) + (1 * v_iv (n_v (vs ++ [n_v vs 3, n_v vs 4, Value.int u, n_v vs 6, Value.int c, Value.int d]) 7) + 0) ≤ 0
      simp only [e_7, e_34]
      exact vc_Fa_uniteAt_at_Nptail_Nphead_Emblock_4_6 (v_iv (n_v vs 7)) (v_iv (n_v vs 15)) (v_iv (n_v vs 16)) (v_iv (n_v vs 18)) (v_iv (n_v vs 19)) (v_iv (n_v vs 25)) (v_iv (n_v vs 26)) (v_iv (n_v vs 28)) (w_ei ws (v_ad (n_v vs 5))) (w_ei ws (v_ad (n_v vs 3))) (w_ei ws (v_ad (n_v vs 4))) (v_iv (Value.int c)) k7 k15 k16 k18 k19 k25 k26 k28 h3 h7 h9 h15 h17 h19 ec2
  have nf7 : fc_1 PRD (23, [35, 9], [0, 1, -1]) ws (vs ++ [n_v vs 3, n_v vs 4, Value.int u, n_v vs 6, Value.int c, Value.int d]) := by
    refine ⟨nf_inA hl rfl, sgq_7 ?_⟩
    · show 1 * v_iv (n_v (vs ++ [n_v vs 3, n_v vs 4, Value.int u, n_v vs 6, Value.int c, Value.int d]) 35) + ((-1) * v_iv (n_v (vs ++ [n_v vs 3, n_v vs 4, Value.int u, n_v vs 6, Value.int c, Value.int d]) 9) + 0) ≤ 0
      simp only [e_9, e_35, q9]
      exact vc_Fa_uniteAt_at_Nptail_Nphead_Emblock_4_7 (v_iv (n_v vs 1)) (v_iv (n_v vs 9)) (v_iv (n_v vs 15)) (v_iv (n_v vs 16)) (v_iv (n_v vs 18)) (v_iv (n_v vs 19)) (v_iv (n_v vs 25)) (v_iv (n_v vs 26)) (v_iv (n_v vs 28)) (w_ei ws (v_ad (n_v vs 5))) (w_ei ws (v_ad (n_v vs 3))) (w_ei ws (v_ad (n_v vs 4))) (v_iv (Value.int d)) k1 k9 k15 k16 k18 k19 k25 k26 k28 d3 d6 h3 h7 h9 h15 h17 h19 ed2
  have nf8 : fc_1 PRD (23, [35, 9], [0, -1, 1]) ws (vs ++ [n_v vs 3, n_v vs 4, Value.int u, n_v vs 6, Value.int c, Value.int d]) := by
    refine ⟨nf_inA hl rfl, sgq_22 ?_⟩
    · show (-1) * v_iv (n_v (vs ++ [n_v vs 3, n_v vs 4, Value.int u, n_v vs 6, Value.int c, Value.int d]) 35) + (1 * v_iv (n_v (vs ++ [n_v vs 3, n_v vs 4, Value.int u, n_v vs 6, Value.int c, Value.int d]) 9) + 0) ≤ 0
      simp only [e_9, e_35, q9]
      exact vc_Fa_uniteAt_at_Nptail_Nphead_Emblock_4_8 (v_iv (n_v vs 1)) (v_iv (n_v vs 9)) (v_iv (n_v vs 15)) (v_iv (n_v vs 16)) (v_iv (n_v vs 18)) (v_iv (n_v vs 19)) (v_iv (n_v vs 25)) (v_iv (n_v vs 26)) (v_iv (n_v vs 28)) (w_ei ws (v_ad (n_v vs 5))) (w_ei ws (v_ad (n_v vs 3))) (w_ei ws (v_ad (n_v vs 4))) (v_iv (Value.int d)) k1 k9 k15 k16 k18 k19 k25 k26 k28 d3 d6 h3 h7 h9 h15 h17 h19 ed2
  have nf9 : fc_1 PRD (20, [13, 10], [61, 1, 566]) ws (vs ++ [n_v vs 3, n_v vs 4, Value.int u, n_v vs 6, Value.int c, Value.int d]) := by
    refine ⟨nf_inA hl rfl, sgq_365 ?_⟩
    · show BLQ (w_ei ws (v_ad (n_v (vs ++ [n_v vs 3, n_v vs 4, Value.int u, n_v vs 6, Value.int c, Value.int d]) 13))) (v_iv (n_v (vs ++ [n_v vs 3, n_v vs 4, Value.int u, n_v vs 6, Value.int c, Value.int d]) 10))
      simp only [e_10, e_13, q10, q13]
      exact vc_Fa_uniteAt_at_Nptail_Nphead_Emblock_4_9 (v_iv (n_v vs 2)) (w_ei ws (v_ad (n_v vs 5))) k2 f21
  have nf10 : fc_1 PRD (20, [29, 27], [50, 0, 0, 2, 6, 0, 2, 0, 0, 1, 0, 0, 2, 1, 0, 1, 1]) ws (vs ++ [n_v vs 3, n_v vs 4, Value.int u, n_v vs 6, Value.int c, Value.int d]) := by
    refine ⟨nf_inA hl rfl, sgq_366 ?_⟩
    · show (0 ≤ v_iv (n_v (vs ++ [n_v vs 3, n_v vs 4, Value.int u, n_v vs 6, Value.int c, Value.int d]) 29)) ∧ (v_iv (n_v (vs ++ [n_v vs 3, n_v vs 4, Value.int u, n_v vs 6, Value.int c, Value.int d]) 29) ≤ v_iv (n_v (vs ++ [n_v vs 3, n_v vs 4, Value.int u, n_v vs 6, Value.int c, Value.int d]) 27))
      simp only [e_27, e_29]
      exact vc_Fa_uniteAt_at_Nptail_Nphead_Emblock_4_10 (v_iv (n_v vs 15)) (v_iv (n_v vs 16)) (v_iv (n_v vs 18)) (v_iv (n_v vs 19)) (v_iv (n_v vs 25)) (v_iv (n_v vs 26)) (v_iv (n_v vs 27)) (v_iv (n_v vs 28)) (v_iv (n_v vs 29)) (w_ei ws (v_ad (n_v vs 5))) (w_ei ws (v_ad (n_v vs 3))) (w_ei ws (v_ad (n_v vs 4))) k15 k16 k18 k19 k25 k26 k27 k28 k29 f1 h3 f5 h7 h9 h15 h17 h19
  have nf11 : fc_1 PRD (20, [13, 30, 31, 10, 27, 29, 32], [61, 3, 581]) ws (vs ++ [n_v vs 3, n_v vs 4, Value.int u, n_v vs 6, Value.int c, Value.int d]) := by
    refine ⟨nf_inA hl rfl, sgq_367 ?_⟩
    · show RLP (w_ei ws (v_ad (n_v (vs ++ [n_v vs 3, n_v vs 4, Value.int u, n_v vs 6, Value.int c, Value.int d]) 13))) (w_ei ws (v_ad (n_v (vs ++ [n_v vs 3, n_v vs 4, Value.int u, n_v vs 6, Value.int c, Value.int d]) 30))) (w_ei ws (v_ad (n_v (vs ++ [n_v vs 3, n_v vs 4, Value.int u, n_v vs 6, Value.int c, Value.int d]) 31))) (v_iv (n_v (vs ++ [n_v vs 3, n_v vs 4, Value.int u, n_v vs 6, Value.int c, Value.int d]) 10)) (v_iv (n_v (vs ++ [n_v vs 3, n_v vs 4, Value.int u, n_v vs 6, Value.int c, Value.int d]) 27)) (v_iv (n_v (vs ++ [n_v vs 3, n_v vs 4, Value.int u, n_v vs 6, Value.int c, Value.int d]) 29)) (v_iv (n_v (vs ++ [n_v vs 3, n_v vs 4, Value.int u, n_v vs 6, Value.int c, Value.int d]) 32))
      simp only [e_10, e_13, e_27, e_29, e_30, e_31, e_32, q10, q13]
      exact vc_Fa_uniteAt_at_Nptail_Nphead_Emblock_4_11 (v_iv (n_v vs 0)) (v_iv (n_v vs 2)) (v_iv (n_v vs 8)) (v_iv (n_v vs 14)) (v_iv (n_v vs 15)) (v_iv (n_v vs 16)) (v_iv (n_v vs 18)) (v_iv (n_v vs 22)) (v_iv (n_v vs 24)) (v_iv (n_v vs 25)) (v_iv (n_v vs 26)) (v_iv (n_v vs 27)) (v_iv (n_v vs 28)) (v_iv (n_v vs 29)) (w_ei ws (v_ad (n_v vs 5))) (w_ei ws (v_ad (n_v vs 3))) (w_ei ws (v_ad (n_v vs 4))) (v_iv (Value.int u)) k0 k2 k8 k14 k15 k16 k18 k22 k24 k25 k26 k27 k28 k29 d0 d2 d5 f0 f1 f2 h3 f4 f5 f6 h7 f8 h9 f10 f11 h17 f18 f20 f22 eu2
  have nf12 : fc_1 PRD (20, [13, 30, 31, 33, 34, 10, 32, 35, 27, 29], [61, 4, 590]) ws (vs ++ [n_v vs 3, n_v vs 4, Value.int u, n_v vs 6, Value.int c, Value.int d]) := by
    refine ⟨nf_inA hl rfl, sgq_368 ?_⟩
    · show QKP (w_ei ws (v_ad (n_v (vs ++ [n_v vs 3, n_v vs 4, Value.int u, n_v vs 6, Value.int c, Value.int d]) 13))) (w_ei ws (v_ad (n_v (vs ++ [n_v vs 3, n_v vs 4, Value.int u, n_v vs 6, Value.int c, Value.int d]) 30))) (w_ei ws (v_ad (n_v (vs ++ [n_v vs 3, n_v vs 4, Value.int u, n_v vs 6, Value.int c, Value.int d]) 31))) (w_ei ws (v_ad (n_v (vs ++ [n_v vs 3, n_v vs 4, Value.int u, n_v vs 6, Value.int c, Value.int d]) 33))) (v_iv (n_v (vs ++ [n_v vs 3, n_v vs 4, Value.int u, n_v vs 6, Value.int c, Value.int d]) 34)) (v_iv (n_v (vs ++ [n_v vs 3, n_v vs 4, Value.int u, n_v vs 6, Value.int c, Value.int d]) 10)) (v_iv (n_v (vs ++ [n_v vs 3, n_v vs 4, Value.int u, n_v vs 6, Value.int c, Value.int d]) 32)) (v_iv (n_v (vs ++ [n_v vs 3, n_v vs 4, Value.int u, n_v vs 6, Value.int c, Value.int d]) 35)) (v_iv (n_v (vs ++ [n_v vs 3, n_v vs 4, Value.int u, n_v vs 6, Value.int c, Value.int d]) 27)) (v_iv (n_v (vs ++ [n_v vs 3, n_v vs 4, Value.int u, n_v vs 6, Value.int c, Value.int d]) 29))
      simp only [e_10, e_13, e_27, e_29, e_30, e_31, e_32, e_33, e_34, e_35, q10, q13]
      exact vc_Fa_uniteAt_at_Nptail_Nphead_Emblock_4_12 (v_iv (n_v vs 0)) (v_iv (n_v vs 1)) (v_iv (n_v vs 2)) (v_iv (n_v vs 7)) (v_iv (n_v vs 8)) (v_iv (n_v vs 14)) (v_iv (n_v vs 15)) (v_iv (n_v vs 16)) (v_iv (n_v vs 18)) (v_iv (n_v vs 19)) (v_iv (n_v vs 20)) (v_iv (n_v vs 21)) (v_iv (n_v vs 22)) (v_iv (n_v vs 24)) (v_iv (n_v vs 25)) (v_iv (n_v vs 26)) (v_iv (n_v vs 27)) (v_iv (n_v vs 28)) (v_iv (n_v vs 29)) (w_ei ws (v_ad (n_v vs 5))) (w_ei ws (v_ad (n_v vs 3))) (w_ei ws (v_ad (n_v vs 4))) (w_ei ws (v_ad (n_v vs 6))) (v_iv (Value.int u)) (v_iv (Value.int c)) (v_iv (Value.int d)) k0 k1 k2 k7 k8 k14 k15 k16 k18 k19 k20 k21 k22 k24 k25 k26 k27 k28 k29 d0 d2 d5 f0 f1 f2 h3 f4 f5 f6 h7 f8 h9 f10 f11 f13 f14 h15 h17 f18 f20 f23 eu2 ec2 ed2
  have nf13 : fc_1 PRD (20, [32, 8], [50, 0, 0, 1, 2, 1, 0, 1, 1]) ws (vs ++ [n_v vs 3, n_v vs 4, Value.int u, n_v vs 6, Value.int c, Value.int d]) := by
    refine ⟨nf_inA hl rfl, sgq_48 ?_⟩
    · show v_iv (n_v (vs ++ [n_v vs 3, n_v vs 4, Value.int u, n_v vs 6, Value.int c, Value.int d]) 32) = v_iv (n_v (vs ++ [n_v vs 3, n_v vs 4, Value.int u, n_v vs 6, Value.int c, Value.int d]) 8)
      simp only [e_8, e_32, q8]
      exact vc_Fa_uniteAt_at_Nptail_Nphead_Emblock_4_13 (v_iv (n_v vs 0)) (v_iv (n_v vs 15)) (v_iv (n_v vs 16)) (v_iv (n_v vs 18)) (v_iv (n_v vs 19)) (v_iv (n_v vs 25)) (v_iv (n_v vs 26)) (v_iv (n_v vs 28)) (w_ei ws (v_ad (n_v vs 5))) (w_ei ws (v_ad (n_v vs 3))) (w_ei ws (v_ad (n_v vs 4))) (v_iv (Value.int u)) k0 k15 k16 k18 k19 k25 k26 k28 h3 h7 h9 h15 h17 h19 eu2
  have nf14 : fc_1 PRD (20, [29], [50, 0, 0, 0, 2, 0, 0, 1, 0]) ws (vs ++ [n_v vs 3, n_v vs 4, Value.int u, n_v vs 6, Value.int c, Value.int d]) := by
    refine ⟨nf_inA hl rfl, sgq_722 ?_⟩
    · show 0 ≤ v_iv (n_v (vs ++ [n_v vs 3, n_v vs 4, Value.int u, n_v vs 6, Value.int c, Value.int d]) 29)
      rw [e_29]
      exact vc_Fa_uniteAt_at_Nptail_Nphead_Emblock_4_14 (v_iv (n_v vs 15)) (v_iv (n_v vs 16)) (v_iv (n_v vs 18)) (v_iv (n_v vs 19)) (v_iv (n_v vs 25)) (v_iv (n_v vs 26)) (v_iv (n_v vs 28)) (v_iv (n_v vs 29)) (w_ei ws (v_ad (n_v vs 5))) (w_ei ws (v_ad (n_v vs 3))) (w_ei ws (v_ad (n_v vs 4))) k15 k16 k18 k19 k25 k26 k28 k29 h3 h7 h9 h15 h17 h19
  have nf15 : fc_1 PRD (20, [34, 7], [50, 0, 0, 1, 2, 1, 0, 1, 1]) ws (vs ++ [n_v vs 3, n_v vs 4, Value.int u, n_v vs 6, Value.int c, Value.int d]) := by
    refine ⟨nf_inA hl rfl, sgq_48 ?_⟩
    · show v_iv (n_v (vs ++ [n_v vs 3, n_v vs 4, Value.int u, n_v vs 6, Value.int c, Value.int d]) 34) = v_iv (n_v (vs ++ [n_v vs 3, n_v vs 4, Value.int u, n_v vs 6, Value.int c, Value.int d]) 7)
      simp only [e_7, e_34]
      exact vc_Fa_uniteAt_at_Nptail_Nphead_Emblock_4_15 (v_iv (n_v vs 7)) (v_iv (n_v vs 15)) (v_iv (n_v vs 16)) (v_iv (n_v vs 18)) (v_iv (n_v vs 19)) (v_iv (n_v vs 25)) (v_iv (n_v vs 26)) (v_iv (n_v vs 28)) (w_ei ws (v_ad (n_v vs 5))) (w_ei ws (v_ad (n_v vs 3))) (w_ei ws (v_ad (n_v vs 4))) (v_iv (Value.int c)) k7 k15 k16 k18 k19 k25 k26 k28 h3 h7 h9 h15 h17 h19 ec2
  have nf16 : fc_1 PRD (20, [35, 9], [50, 0, 0, 1, 2, 1, 0, 1, 1]) ws (vs ++ [n_v vs 3, n_v vs 4, Value.int u, n_v vs 6, Value.int c, Value.int d]) := by
    refine ⟨nf_inA hl rfl, sgq_48 ?_⟩
    · show v_iv (n_v (vs ++ [n_v vs 3, n_v vs 4, Value.int u, n_v vs 6, Value.int c, Value.int d]) 35) = v_iv (n_v (vs ++ [n_v vs 3, n_v vs 4, Value.int u, n_v vs 6, Value.int c, Value.int d]) 9)
      simp only [e_9, e_35, q9]
      exact vc_Fa_uniteAt_at_Nptail_Nphead_Emblock_4_16 (v_iv (n_v vs 1)) (v_iv (n_v vs 15)) (v_iv (n_v vs 16)) (v_iv (n_v vs 18)) (v_iv (n_v vs 19)) (v_iv (n_v vs 25)) (v_iv (n_v vs 26)) (v_iv (n_v vs 28)) (w_ei ws (v_ad (n_v vs 5))) (w_ei ws (v_ad (n_v vs 3))) (w_ei ws (v_ad (n_v vs 4))) (v_iv (Value.int d)) k1 k15 k16 k18 k19 k25 k26 k28 h3 h7 h9 h15 h17 h19 ed2
  exact ⟨(fun _ h => (by cases h)), [n_v vs 3, n_v vs 4, Value.int u, n_v vs 6, Value.int c, Value.int d], ag_six t3 t4 hu t6 hc hd, List.forall_mem_cons.mpr ⟨⟨show (24 : Nat) < 100 from by decide, nf0⟩, List.forall_mem_cons.mpr ⟨⟨show (24 : Nat) < 100 from by decide, nf1⟩, List.forall_mem_cons.mpr ⟨⟨show (23 : Nat) < 100 from by decide, nf2⟩, List.forall_mem_cons.mpr ⟨⟨show (23 : Nat) < 100 from by decide, nf3⟩, List.forall_mem_cons.mpr ⟨⟨show (24 : Nat) < 100 from by decide, nf4⟩, List.forall_mem_cons.mpr ⟨⟨show (23 : Nat) < 100 from by decide, nf5⟩, List.forall_mem_cons.mpr ⟨⟨show (23 : Nat) < 100 from by decide, nf6⟩, List.forall_mem_cons.mpr ⟨⟨show (23 : Nat) < 100 from by decide, nf7⟩, List.forall_mem_cons.mpr ⟨⟨show (23 : Nat) < 100 from by decide, nf8⟩, List.forall_mem_cons.mpr ⟨⟨show (20 : Nat) < 100 from by decide, nf9⟩, List.forall_mem_cons.mpr ⟨⟨show (20 : Nat) < 100 from by decide, nf10⟩, List.forall_mem_cons.mpr ⟨⟨show (20 : Nat) < 100 from by decide, nf11⟩, List.forall_mem_cons.mpr ⟨⟨show (20 : Nat) < 100 from by decide, nf12⟩, List.forall_mem_cons.mpr ⟨⟨show (20 : Nat) < 100 from by decide, nf13⟩, List.forall_mem_cons.mpr ⟨⟨show (20 : Nat) < 100 from by decide, nf14⟩, List.forall_mem_cons.mpr ⟨⟨show (20 : Nat) < 100 from by decide, nf15⟩, List.forall_mem_cons.mpr ⟨⟨show (20 : Nat) < 100 from by decide, nf16⟩, (fun _ h => (by cases h))⟩⟩⟩⟩⟩⟩⟩⟩⟩⟩⟩⟩⟩⟩⟩⟩⟩, (fun _ h => (by cases h))⟩
set_option maxHeartbeats 4000000 in
theorem vc_Fa_uniteAt_at_Nptail_Nphead_Emblock_5_0 (x0 : Int) (x2 : Int) (x8 : Int) (x15 : Int) (x18 : Int) (x29 : Int) (x32 : Int) (x36 : Int) (a5_0 : Int → Int) (a3_0 : Int → Int) (a4_0 : Int → Int) (k0 : 0 ≤ x0 ∧ x0 ≤ 24) (k2 : 1 ≤ x2 ∧ x2 ≤ 72) (k8 : 0 ≤ x8 ∧ x8 ≤ 24) (k18 : 0 ≤ x18 ∧ x18 ≤ 24) (k29 : 0 ≤ x29 ∧ x29 ≤ 71) (k32 : 0 ≤ x32 ∧ x32 ≤ 24) (d4 : x8 + 0 ≤ x18 ∧ x18 ≤ x8 + 0) (d6 : x8 + (-4294967296) ≤ x0 ∧ x0 ≤ x8 + 0) (d9 : x0 + (-4294967296) ≤ x8 ∧ x8 ≤ x0 + 0) (f3 : 1 * x32 + ((-1) * x0 + 0) ≤ 0) (f4 : (-1) * x32 + (1 * x0 + 0) ≤ 0) (f12 : 0 ≤ x29) (f28 : RLO (a5_0) (a3_0) (a4_0) (x2) (x29) (x32)) : UNI (a5_0) (a3_0) (a4_0) (x2) (x0) (x29) := by
  first
    | (have q := (‹RLO _ _ _ _ _ _›); have h1 := uni_back q (by omega); rw [show x0 = x32 by omega]; exact h1)
    | (have q := (‹RLO _ _ _ _ _ _›); have h1 := uni_back q (by omega); rw [show x0 = x36 by omega]; exact h1)
    | (have q := (‹RLO _ _ _ _ _ _›); have h1 := uni_back q (by omega); rw [show x0 = x30 by omega]; exact h1)
set_option maxHeartbeats 4000000 in
theorem vc_Fa_uniteAt_at_Nptail_Nphead_Emblock_5_1 (x0 : Int) (x1 : Int) (x2 : Int) (x7 : Int) (x8 : Int) (x9 : Int) (x15 : Int) (x18 : Int) (x24 : Int) (x25 : Int) (x26 : Int) (x29 : Int) (x32 : Int) (x34 : Int) (x35 : Int) (x36 : Int) (a5_0 : Int → Int) (a3_0 : Int → Int) (a4_0 : Int → Int) (a6_0 : Int → Int) (k0 : 0 ≤ x0 ∧ x0 ≤ 24) (k1 : 0 ≤ x1 ∧ x1 ≤ 33554431) (k2 : 1 ≤ x2 ∧ x2 ≤ 72) (k7 : 0 ≤ x7 ∧ x7 ≤ 25) (k8 : 0 ≤ x8 ∧ x8 ≤ 24) (k9 : 0 ≤ x9 ∧ x9 ≤ 33554431) (k18 : 0 ≤ x18 ∧ x18 ≤ 24) (k29 : 0 ≤ x29 ∧ x29 ≤ 71) (k32 : 0 ≤ x32 ∧ x32 ≤ 24) (k34 : 0 ≤ x34 ∧ x34 ≤ 25) (k35 : (-2147483648) ≤ x35 ∧ x35 ≤ 2147483647) (d4 : x8 + 0 ≤ x18 ∧ x18 ≤ x8 + 0) (d6 : x8 + (-4294967296) ≤ x0 ∧ x0 ≤ x8 + 0) (d7 : x9 + (-4294967296) ≤ x1 ∧ x1 ≤ x9 + 0) (d9 : x0 + (-4294967296) ≤ x8 ∧ x8 ≤ x0 + 0) (d10 : x1 + (-4294967296) ≤ x9 ∧ x9 ≤ x1 + 0) (f3 : 1 * x32 + ((-1) * x0 + 0) ≤ 0) (f4 : (-1) * x32 + (1 * x0 + 0) ≤ 0) (f6 : 1 * x34 + ((-1) * x7 + 0) ≤ 0) (f7 : (-1) * x34 + (1 * x7 + 0) ≤ 0) (f8 : 1 * x35 + ((-1) * x1 + 0) ≤ 0) (f9 : (-1) * x35 + (1 * x1 + 0) ≤ 0) (f29 : QKO (a5_0) (a3_0) (a4_0) (a6_0) (x34) (x2) (x32) (x35) (x29)) : UN2 (a5_0) (a3_0) (a4_0) (a6_0) (x7) (x2) (x0) (x1) (x29) := by
  first
    | (have h1 := un2_back ‹QKO _ _ _ _ _ _ _ _ _›; rw [show x0 = x32 by omega, show x7 = x34 by omega, show x1 = x35 by omega]; exact h1)
    | (have h1 := un2_back ‹QKO _ _ _ _ _ _ _ _ _›; rw [show x0 = x36 by omega, show x7 = x38 by omega, show x1 = x39 by omega]; exact h1)
    | (have h1 := un2_back ‹QKO _ _ _ _ _ _ _ _ _›; rw [show x0 = x30 by omega, show x7 = x32 by omega, show x1 = x33 by omega]; exact h1)
def o_Fa_uniteAt_at_Nptail_Nphead_Emblock_5 : or_T := (6, 37, [(0, (0, 0, 24, [])), (1, (0, 0, 33554431, [])), (2, (0, 1, 72, [])), (3, (2, 0, 0, [140])), (4, (2, 0, 0, [141])), (5, (2, 0, 0, [26])), (6, (2, 0, 0, [142])), (7, (0, 0, 25, [])), (8, (0, 0, 24, [])), (9, (0, 0, 33554431, [])), (10, (0, 1, 72, [])), (11, (2, 0, 0, [140])), (12, (2, 0, 0, [141])), (13, (2, 0, 0, [26])), (14, (0, 0, 71, [])), (15, (0, 0, 71, [])), (16, (0, 0, 24, [])), (18, (0, 0, 24, [])), (24, (0, -1, -1, [])), (25, (0, -1, 71, [])), (26, (0, 0, 71, [])), (27, (0, 0, 71, [])), (28, (0, 0, 71, [])), (29, (0, 0, 71, [])), (30, (2, 0, 0, [140])), (31, (2, 0, 0, [141])), (32, (0, 0, 24, [])), (33, (2, 0, 0, [142])), (34, (0, 0, 25, [])), (35, (0, -2147483648, 2147483647, [])), (36, (0, 1, 72, []))], [(6, [36, 15], [1]), (24, [3, 30], []), (24, [4, 31], []), (23, [32, 8], [0, 1, -1]), (23, [32, 8], [0, -1, 1]), (24, [6, 33], []), (23, [34, 7], [0, 1, -1]), (23, [34, 7], [0, -1, 1]), (23, [35, 9], [0, 1, -1]), (23, [35, 9], [0, -1, 1]), (20, [29, 27], [50, 0, 0, 2, 6, 0, 2, 0, 0, 1, 0, 0, 2, 1, 0, 1, 1]), (20, [32, 8], [50, 0, 0, 1, 2, 1, 0, 1, 1]), (20, [29], [50, 0, 0, 0, 2, 0, 0, 1, 0]), (20, [34, 7], [50, 0, 0, 1, 2, 1, 0, 1, 1]), (20, [35, 9], [50, 0, 0, 1, 2, 1, 0, 1, 1]), (23, [14, 29], [0, -1, 1]), (23, [28, 29], [0, -1, 1]), (20, [29, 14, 28], [50, 0, 0, 3, 6, 1, 2, 1, 0, 1, 1, 1, 2, 1, 0, 1, 2]), (23, [14, 27], [0, 1, -1]), (23, [26, 27], [0, 1, -1]), (20, [27, 14, 26], [50, 0, 0, 3, 6, 1, 2, 1, 0, 1, 1, 1, 2, 1, 0, 1, 2]), (24, [0, 8], []), (24, [1, 9], []), (24, [2, 10], []), (24, [3, 11], []), (24, [4, 12], []), (24, [5, 13], []), (20, [13, 10], [61, 1, 566]), (20, [13, 30, 31, 10, 29, 32], [61, 3, 583]), (20, [13, 30, 31, 33, 34, 10, 32, 35, 29], [61, 4, 592]), (102, [35], [67108864]), (23, [32, 8], [0, 1, -1]), (23, [32, 8], [0, -1, 1]), (23, [34, 7], [0, 1, -1]), (23, [34, 7], [0, -1, 1]), (23, [35, 9], [0, 1, -1]), (23, [35, 9], [0, -1, 1]), (23, [14, 29], [0, -1, 1]), (23, [28, 29], [0, -1, 1]), (23, [14, 27], [0, 1, -1]), (23, [26, 27], [0, 1, -1]), (7, [25, 14], [1]), (7, [14, 24], [1]), (7, [18, 8], [0]), (7, [16, 8], [1]), (7, [15, 10], [2])], [], [], [(20, [13, 11, 12, 10, 8, 29], [61, 3, 584]), (20, [13, 11, 12, 6, 7, 10, 8, 9, 29], [61, 4, 589])], [], [(36, 15, 1, 1), (36, 10, -4294967296, 0), (36, 2, -4294967296, 1), (36, 10, -4294967296, 1), (18, 8, 0, 0), (15, 10, -4294967296, -1), (0, 8, -4294967296, 0), (1, 9, -4294967296, 0), (2, 10, -4294967296, 0), (8, 0, -4294967296, 0), (9, 1, -4294967296, 0), (10, 2, -4294967296, 0), (14, 15, -4294967296, 70), (15, 2, -4294967296, 0), (15, 10, -4294967296, 0)])
theorem oo_Fa_uniteAt_at_Nptail_Nphead_Emblock_5 {kA : Nat → ClassId} : or_ok PRD kA GG o_Fa_uniteAt_at_Nptail_Nphead_Emblock_5 := by
  refine or_mk fun A ta ws vs hD hth hl => ?_
  intro t0 k0 t1 k1 t2 k2 t3 r3 t4 r4 t5 r5 t6 r6 t7 k7 t8 k8 t9 k9 t10 k10 t11 r11 t12 r12 t13 r13 t14 k14 t15 k15 t16 k16 t18 k18 t24 k24 t25 k25 t26 k26 t27 k27 t28 k28 t29 k29 t30 r30 t31 r31 t32 k32 t33 r33 t34 k34 t35 k35 t36 k36 d0 d1 d2 d3 d4 d5 d6 d7 d8 d9 d10 d11 d12 d13 d14 f0 f1 f2 f3 f4 f5 f6 f7 f8 f9 f10 f11 f12 f13 f14 f15 f16 f17 f18 f19 f20 f21 f22 f23 f24 f25 f26 f27 f28 f29 ta1 w1 le1 s1 f31 f32 f33 f34 f35 f36 f37 f38 f39 f40 f41 f42 f43 f44 f45
  replace f1 := shm_5 f1
  replace f2 := shm_5 f2
  replace f3 := shm_7 f3
  replace f4 := shm_22 f4
  replace f5 := shm_5 f5
  replace f6 := shm_7 f6
  replace f7 := shm_22 f7
  replace f8 := shm_7 f8
  replace f9 := shm_22 f9
  replace f12 := shm_722 f12
  replace f21 := shm_5 f21
  replace f22 := shm_5 f22
  replace f23 := shm_5 f23
  replace f24 := shm_5 f24
  replace f25 := shm_5 f25
  replace f26 := shm_5 f26
  replace f28 := shm_371 f28
  replace f29 := shm_372 f29
  have q30 : n_v vs 30 = n_v vs 3 := f1.symm
  have q31 : n_v vs 31 = n_v vs 4 := f2.symm
  have q33 : n_v vs 33 = n_v vs 6 := f5.symm
  have q8 : n_v vs 8 = n_v vs 0 := f21.symm
  have q9 : n_v vs 9 = n_v vs 1 := f22.symm
  have q10 : n_v vs 10 = n_v vs 2 := f23.symm
  have q11 : n_v vs 11 = n_v vs 3 := f24.symm
  have q12 : n_v vs 12 = n_v vs 4 := f25.symm
  have q13 : n_v vs 13 = n_v vs 5 := f26.symm
  simp only [q8, q9, q10, q13, q30, q31, q33] at f3 f4 f8 f9 f28 f29
  have nf0 : fc_1 PRD (20, [13, 11, 12, 10, 8, 29], [61, 3, 584]) ws (vs) := by
    refine ⟨nf_in hl rfl, sgq_1193 ?_⟩
    · show UNI (w_ei ws (v_ad (n_v vs 13))) (w_ei ws (v_ad (n_v vs 11))) (w_ei ws (v_ad (n_v vs 12))) (v_iv (n_v vs 10)) (v_iv (n_v vs 8)) (v_iv (n_v vs 29))
      simp only [q8, q10, q11, q12, q13]
      exact vc_Fa_uniteAt_at_Nptail_Nphead_Emblock_5_0 (v_iv (n_v vs 0)) (v_iv (n_v vs 2)) (v_iv (n_v vs 8)) (v_iv (n_v vs 15)) (v_iv (n_v vs 18)) (v_iv (n_v vs 29)) (v_iv (n_v vs 32)) (v_iv (n_v vs 36)) (w_ei ws (v_ad (n_v vs 5))) (w_ei ws (v_ad (n_v vs 3))) (w_ei ws (v_ad (n_v vs 4))) k0 k2 k8 k18 k29 k32 d4 d6 d9 f3 f4 f12 f28
  have nf1 : fc_1 PRD (20, [13, 11, 12, 6, 7, 10, 8, 9, 29], [61, 4, 589]) ws (vs) := by
    refine ⟨nf_in hl rfl, sgq_1194 ?_⟩
    · show UN2 (w_ei ws (v_ad (n_v vs 13))) (w_ei ws (v_ad (n_v vs 11))) (w_ei ws (v_ad (n_v vs 12))) (w_ei ws (v_ad (n_v vs 6))) (v_iv (n_v vs 7)) (v_iv (n_v vs 10)) (v_iv (n_v vs 8)) (v_iv (n_v vs 9)) (v_iv (n_v vs 29))
      simp only [q8, q9, q10, q11, q12, q13]
      exact vc_Fa_uniteAt_at_Nptail_Nphead_Emblock_5_1 (v_iv (n_v vs 0)) (v_iv (n_v vs 1)) (v_iv (n_v vs 2)) (v_iv (n_v vs 7)) (v_iv (n_v vs 8)) (v_iv (n_v vs 9)) (v_iv (n_v vs 15)) (v_iv (n_v vs 18)) (v_iv (n_v vs 24)) (v_iv (n_v vs 25)) (v_iv (n_v vs 26)) (v_iv (n_v vs 29)) (v_iv (n_v vs 32)) (v_iv (n_v vs 34)) (v_iv (n_v vs 35)) (v_iv (n_v vs 36)) (w_ei ws (v_ad (n_v vs 5))) (w_ei ws (v_ad (n_v vs 3))) (w_ei ws (v_ad (n_v vs 4))) (w_ei ws (v_ad (n_v vs 6))) k0 k1 k2 k7 k8 k9 k18 k29 k32 k34 k35 d4 d6 d7 d9 d10 f3 f4 f6 f7 f8 f9 f29
  refine ⟨(fun _ h => (by cases h)), [], trivial, ?_, (fun _ h => (by cases h))⟩
  rw [List.append_nil]
  exact List.forall_mem_cons.mpr ⟨⟨show (20 : Nat) < 100 from by decide, nf0⟩, List.forall_mem_cons.mpr ⟨⟨show (20 : Nat) < 100 from by decide, nf1⟩, (fun _ h => (by cases h))⟩⟩
set_option maxHeartbeats 4000000 in
theorem vc_Fa_uniteAt_at_Nptail_Nphead_Emblock_6_r0 (x2 : Int) (x15 : Int) (x16 : Int) (x18 : Int) (x19 : Int) (x25 : Int) (a5_0 : Int → Int) (a3_0 : Int → Int) (a4_0 : Int → Int) (k2 : 1 ≤ x2 ∧ x2 ≤ 72) (k15 : 0 ≤ x15 ∧ x15 ≤ 71) (k16 : 0 ≤ x16 ∧ x16 ≤ 24) (k18 : 0 ≤ x18 ∧ x18 ≤ 24) (k19 : 0 ≤ x19 ∧ x19 ≤ 24) (k25 : (-1) ≤ x25 ∧ x25 ≤ 71) (h0 : x25 = a5_0 (x15)) (h6 : x19 = a3_0 (x15)) (h8 : x18 = a4_0 (x15)) (h10 : x16 = a3_0 (x15)) (f11 : x15 < x2) (f12 : BLQ (a5_0) (x2)) : 0 ≤ x25 ∧ x25 ≤ 71 := by
  first
    | omega
    | (skip; (first | subst h0 | skip); (first | subst h6 | skip); (first | subst h8 | skip); (first | subst h10 | skip); have q := ‹BLQ _ _› x15 (by omega) (by omega); omega)
def o_Fa_uniteAt_at_Nptail_Nphead_Emblock_6 : or_T := (90, 26, [(0, (0, 0, 24, [])), (1, (0, 0, 33554431, [])), (2, (0, 1, 72, [])), (3, (2, 0, 0, [140])), (4, (2, 0, 0, [141])), (5, (2, 0, 0, [26])), (6, (2, 0, 0, [142])), (7, (0, 0, 25, [])), (8, (0, 0, 24, [])), (9, (0, 0, 33554431, [])), (10, (0, 1, 72, [])), (11, (2, 0, 0, [140])), (12, (2, 0, 0, [141])), (13, (2, 0, 0, [26])), (14, (0, -1, -1, [])), (15, (0, 0, 71, [])), (16, (0, 0, 24, [])), (18, (0, 0, 24, [])), (19, (0, 0, 24, [])), (20, (0, 0, 33554431, [])), (21, (0, 1, 1, [])), (22, (0, 1, 1, [])), (24, (0, -1, -1, [])), (25, (0, -1, 71, []))], [(10, [25, 13, 15], []), (7, [14, 24], [0]), (8, [22], [1]), (12, [22, 20], [2]), (16, [22, 20, 21], [0]), (16, [20, 9, 19], [4]), (10, [19, 11, 15], []), (7, [18, 8], [0]), (10, [18, 12, 15], []), (7, [16, 8], [1]), (10, [16, 11, 15], []), (7, [15, 10], [2]), (20, [13, 10], [61, 1, 566]), (20, [13, 11, 12, 10, 8, 14], [61, 3, 584]), (20, [13, 11, 12, 6, 7, 10, 8, 9, 14], [61, 4, 589]), (24, [0, 8], []), (24, [1, 9], []), (24, [2, 10], []), (24, [3, 11], []), (24, [4, 12], []), (24, [5, 13], [])], [(25, (0, 0, 71, []))], [], [], [], [(18, 8, 0, 0), (15, 10, -4294967296, -1), (0, 8, -4294967296, 0), (1, 9, -4294967296, 0), (2, 10, -4294967296, 0), (8, 0, -4294967296, 0), (9, 1, -4294967296, 0), (10, 2, -4294967296, 0), (15, 2, -4294967296, 0), (15, 10, -4294967296, 0)])
theorem oo_Fa_uniteAt_at_Nptail_Nphead_Emblock_6 {kA : Nat → ClassId} : or_ok PRD kA GG o_Fa_uniteAt_at_Nptail_Nphead_Emblock_6 := by
  refine or_mk fun A ta ws vs hD hth hl => ?_
  intro t0 k0 t1 k1 t2 k2 t3 r3 t4 r4 t5 r5 t6 r6 t7 k7 t8 k8 t9 k9 t10 k10 t11 r11 t12 r12 t13 r13 t14 k14 t15 k15 t16 k16 t18 k18 t19 k19 t20 k20 t21 k21 t22 k22 t24 k24 t25 k25 d0 d1 d2 d3 d4 d5 d6 d7 d8 d9 f0 f1 f2 f3 f4 f5 f6 f7 f8 f9 f10 f11 f12 f13 f14 f15 f16 f17 f18 f19 f20
  replace f0 := shm_107 f0
  replace f6 := shm_107 f6
  replace f8 := shm_107 f8
  replace f10 := shm_107 f10
  replace f11 := shm_6 f11
  replace f12 := shm_365 f12
  replace f17 := shm_5 f17
  replace f18 := shm_5 f18
  replace f19 := shm_5 f19
  replace f20 := shm_5 f20
  have q10 : n_v vs 10 = n_v vs 2 := f17.symm
  have q11 : n_v vs 11 = n_v vs 3 := f18.symm
  have q12 : n_v vs 12 = n_v vs 4 := f19.symm
  have q13 : n_v vs 13 = n_v vs 5 := f20.symm
  simp only [q13, q11, q12, q10] at f0 f6 f8 f10 f11 f12
  have h0 : v_iv (n_v vs 25) = w_ei ws (v_ad (n_v vs 5)) (v_iv (n_v vs 15)) := f0
  have h6 : v_iv (n_v vs 19) = w_ei ws (v_ad (n_v vs 3)) (v_iv (n_v vs 15)) := f6
  have h8 : v_iv (n_v vs 18) = w_ei ws (v_ad (n_v vs 4)) (v_iv (n_v vs 15)) := f8
  have h10 : v_iv (n_v vs 16) = w_ei ws (v_ad (n_v vs 3)) (v_iv (n_v vs 15)) := f10
  have hrf0 : 0 ≤ v_iv (n_v vs 25) ∧ v_iv (n_v vs 25) ≤ 71 := vc_Fa_uniteAt_at_Nptail_Nphead_Emblock_6_r0 (v_iv (n_v vs 2)) (v_iv (n_v vs 15)) (v_iv (n_v vs 16)) (v_iv (n_v vs 18)) (v_iv (n_v vs 19)) (v_iv (n_v vs 25)) (w_ei ws (v_ad (n_v vs 5))) (w_ei ws (v_ad (n_v vs 3))) (w_ei ws (v_ad (n_v vs 4))) k2 k15 k16 k18 k19 k25 h0 h6 h8 h10 f11 f12
  have rf25 : tv_ok ta (0, 0, 71, []) (n_v vs 25) := tv_in t25 (by first | omega | grind) (by first | omega | grind)
  refine ⟨List.forall_mem_cons.mpr ⟨rf25, (fun _ h => (by cases h))⟩, [], trivial, ?_, (fun _ h => (by cases h))⟩
  rw [List.append_nil]
  exact (fun _ h => (by cases h))
set_option maxHeartbeats 4000000 in
theorem vc_Fa_uniteAt_at_Nptail_Nphead_Emblock_7_0 (x0 : Int) (x2 : Int) (x8 : Int) (x14 : Int) (x15 : Int) (x18 : Int) (x25 : Int) (x26 : Int) (a5_0 : Int → Int) (a3_0 : Int → Int) (a4_0 : Int → Int) (k0 : 0 ≤ x0 ∧ x0 ≤ 24) (k2 : 1 ≤ x2 ∧ x2 ≤ 72) (k8 : 0 ≤ x8 ∧ x8 ≤ 24) (k14 : (-1) ≤ x14 ∧ x14 ≤ (-1)) (k15 : 0 ≤ x15 ∧ x15 ≤ 71) (k18 : 0 ≤ x18 ∧ x18 ≤ 24) (k25 : 0 ≤ x25 ∧ x25 ≤ 71) (k26 : 1 ≤ x26 ∧ x26 ≤ 72) (d0 : x15 + 1 ≤ x26 ∧ x26 ≤ x15 + 1) (d4 : x8 + 0 ≤ x18 ∧ x18 ≤ x8 + 0) (d6 : x8 + (-4294967296) ≤ x0 ∧ x0 ≤ x8 + 0) (d9 : x0 + (-4294967296) ≤ x8 ∧ x8 ≤ x0 + 0) (h1 : x25 = a5_0 (x15)) (h9 : x18 = a4_0 (x15)) (f12 : x15 < x2) (f14 : UNI (a5_0) (a3_0) (a4_0) (x2) (x0) (x14)) : UNI (a5_0) (a3_0) (a4_0) (x2) (x0) (x25) := by
  first
    | exact uni_first (e := x15) ‹UNI _ _ _ _ _ _› (by assumption) rfl (by omega) (by omega) (by first | exact Or.inl (by omega) | exact Or.inr (by omega))
set_option maxHeartbeats 4000000 in
theorem vc_Fa_uniteAt_at_Nptail_Nphead_Emblock_7_1 (x0 : Int) (x1 : Int) (x2 : Int) (x7 : Int) (x8 : Int) (x14 : Int) (x15 : Int) (x16 : Int) (x18 : Int) (x19 : Int) (x20 : Int) (x21 : Int) (x22 : Int) (x24 : Int) (x25 : Int) (x26 : Int) (a5_0 : Int → Int) (a3_0 : Int → Int) (a4_0 : Int → Int) (a6_0 : Int → Int) (k0 : 0 ≤ x0 ∧ x0 ≤ 24) (k1 : 0 ≤ x1 ∧ x1 ≤ 33554431) (k2 : 1 ≤ x2 ∧ x2 ≤ 72) (k7 : 0 ≤ x7 ∧ x7 ≤ 25) (k8 : 0 ≤ x8 ∧ x8 ≤ 24) (k14 : (-1) ≤ x14 ∧ x14 ≤ (-1)) (k15 : 0 ≤ x15 ∧ x15 ≤ 71) (k16 : 0 ≤ x16 ∧ x16 ≤ 24) (k18 : 0 ≤ x18 ∧ x18 ≤ 24) (k19 : 0 ≤ x19 ∧ x19 ≤ 24) (k20 : 0 ≤ x20 ∧ x20 ≤ 33554431) (k21 : 1 ≤ x21 ∧ x21 ≤ 1) (k22 : 1 ≤ x22 ∧ x22 ≤ 1) (k25 : 0 ≤ x25 ∧ x25 ≤ 71) (k26 : 1 ≤ x26 ∧ x26 ≤ 72) (d0 : x15 + 1 ≤ x26 ∧ x26 ≤ x15 + 1) (d4 : x8 + 0 ≤ x18 ∧ x18 ≤ x8 + 0) (d6 : x8 + (-4294967296) ≤ x0 ∧ x0 ≤ x8 + 0) (d9 : x0 + (-4294967296) ≤ x8 ∧ x8 ≤ x0 + 0) (h1 : x25 = a5_0 (x15)) (f5 : bvp (x22) = bvp (x20) &&& bvp (x21)) (f6 : bvp (x20) = bvp (x1) >>> (x19).toNat) (h7 : x19 = a3_0 (x15)) (h9 : x18 = a4_0 (x15)) (h11 : x16 = a3_0 (x15)) (f12 : x15 < x2) (f15 : UN2 (a5_0) (a3_0) (a4_0) (a6_0) (x7) (x2) (x0) (x1) (x14)) : UN2 (a5_0) (a3_0) (a4_0) (a6_0) (x7) (x2) (x0) (x1) (x25) := by
  first
    | exact un2_first (e := x15) ‹UN2 _ _ _ _ _ _ _ _ _› (by assumption) rfl (by omega) (by omega) (by first | exact Or.inl ⟨by omega, by omega, by rw [← ‹x17 = a4_0 x15›]; exact (bit_one (s := x1) (t := x18) (c := x20) (v := x17) (one := x19) (by assumption) (by assumption) (by omega) (by omega) (by omega) (by omega)).mpr (by omega)⟩ | exact Or.inr ⟨by omega, by omega, by rw [← ‹x19 = a3_0 x15›]; exact (bit_one (s := x1) (t := x20) (c := x22) (v := x19) (one := x21) (by assumption) (by assumption) (by omega) (by omega) (by omega) (by omega)).mpr (by omega)⟩ | exact Or.inr ⟨by omega, by omega, by rw [← ‹x23 = a3_0 x15›]; exact (bit_one (s := x1) (t := x24) (c := x26) (v := x23) (one := x25) (by assumption) (by assumption) (by omega) (by omega) (by omega) (by omega)).mpr (by omega)⟩)
def o_Fa_uniteAt_at_Nptail_Nphead_Emblock_7 : or_T := (6, 27, [(0, (0, 0, 24, [])), (1, (0, 0, 33554431, [])), (2, (0, 1, 72, [])), (3, (2, 0, 0, [140])), (4, (2, 0, 0, [141])), (5, (2, 0, 0, [26])), (6, (2, 0, 0, [142])), (7, (0, 0, 25, [])), (8, (0, 0, 24, [])), (9, (0, 0, 33554431, [])), (10, (0, 1, 72, [])), (11, (2, 0, 0, [140])), (12, (2, 0, 0, [141])), (13, (2, 0, 0, [26])), (14, (0, -1, -1, [])), (15, (0, 0, 71, [])), (16, (0, 0, 24, [])), (18, (0, 0, 24, [])), (19, (0, 0, 24, [])), (20, (0, 0, 33554431, [])), (21, (0, 1, 1, [])), (22, (0, 1, 1, [])), (24, (0, -1, -1, [])), (25, (0, 0, 71, [])), (26, (0, 1, 72, []))], [(6, [26, 15], [1]), (10, [25, 13, 15], []), (7, [14, 24], [0]), (8, [22], [1]), (12, [22, 20], [2]), (16, [22, 20, 21], [0]), (16, [20, 9, 19], [4]), (10, [19, 11, 15], []), (7, [18, 8], [0]), (10, [18, 12, 15], []), (7, [16, 8], [1]), (10, [16, 11, 15], []), (7, [15, 10], [2]), (20, [13, 10], [61, 1, 566]), (20, [13, 11, 12, 10, 8, 14], [61, 3, 584]), (20, [13, 11, 12, 6, 7, 10, 8, 9, 14], [61, 4, 589]), (24, [0, 8], []), (24, [1, 9], []), (24, [2, 10], []), (24, [3, 11], []), (24, [4, 12], []), (24, [5, 13], [])], [], [], [(20, [13, 11, 12, 10, 8, 25], [61, 3, 584]), (20, [13, 11, 12, 6, 7, 10, 8, 9, 25], [61, 4, 589])], [], [(26, 15, 1, 1), (26, 10, -4294967296, 0), (26, 2, -4294967296, 1), (26, 10, -4294967296, 1), (18, 8, 0, 0), (15, 10, -4294967296, -1), (0, 8, -4294967296, 0), (1, 9, -4294967296, 0), (2, 10, -4294967296, 0), (8, 0, -4294967296, 0), (9, 1, -4294967296, 0), (10, 2, -4294967296, 0), (15, 2, -4294967296, 0), (15, 10, -4294967296, 0)])
theorem oo_Fa_uniteAt_at_Nptail_Nphead_Emblock_7 {kA : Nat → ClassId} : or_ok PRD kA GG o_Fa_uniteAt_at_Nptail_Nphead_Emblock_7 := by
  refine or_mk fun A ta ws vs hD hth hl => ?_
  intro t0 k0 t1 k1 t2 k2 t3 r3 t4 r4 t5 r5 t6 r6 t7 k7 t8 k8 t9 k9 t10 k10 t11 r11 t12 r12 t13 r13 t14 k14 t15 k15 t16 k16 t18 k18 t19 k19 t20 k20 t21 k21 t22 k22 t24 k24 t25 k25 t26 k26 d0 d1 d2 d3 d4 d5 d6 d7 d8 d9 d10 d11 d12 d13 f0 f1 f2 f3 f4 f5 f6 f7 f8 f9 f10 f11 f12 f13 f14 f15 f16 f17 f18 f19 f20 f21
  replace f1 := shm_107 f1
  replace f5 := shm_11 f5
  replace f6 := shm_13 f6
  replace f7 := shm_107 f7
  replace f9 := shm_107 f9
  replace f11 := shm_107 f11
  replace f12 := shm_6 f12
  replace f14 := shm_1193 f14
  replace f15 := shm_1194 f15
  replace f16 := shm_5 f16
  replace f17 := shm_5 f17
  replace f18 := shm_5 f18
  replace f19 := shm_5 f19
  replace f20 := shm_5 f20
  replace f21 := shm_5 f21
  have q8 : n_v vs 8 = n_v vs 0 := f16.symm
  have q9 : n_v vs 9 = n_v vs 1 := f17.symm
  have q10 : n_v vs 10 = n_v vs 2 := f18.symm
  have q11 : n_v vs 11 = n_v vs 3 := f19.symm
  have q12 : n_v vs 12 = n_v vs 4 := f20.symm
  have q13 : n_v vs 13 = n_v vs 5 := f21.symm
  simp only [q13, q9, q11, q8, q12, q10] at f1 f6 f7 f9 f11 f12 f14 f15
  have h1 : v_iv (n_v vs 25) = w_ei ws (v_ad (n_v vs 5)) (v_iv (n_v vs 15)) := f1
  have h7 : v_iv (n_v vs 19) = w_ei ws (v_ad (n_v vs 3)) (v_iv (n_v vs 15)) := f7
  have h9 : v_iv (n_v vs 18) = w_ei ws (v_ad (n_v vs 4)) (v_iv (n_v vs 15)) := f9
  have h11 : v_iv (n_v vs 16) = w_ei ws (v_ad (n_v vs 3)) (v_iv (n_v vs 15)) := f11
  have nf0 : fc_1 PRD (20, [13, 11, 12, 10, 8, 25], [61, 3, 584]) ws (vs) := by
    refine ⟨nf_in hl rfl, sgq_1193 ?_⟩
    · show UNI (w_ei ws (v_ad (n_v vs 13))) (w_ei ws (v_ad (n_v vs 11))) (w_ei ws (v_ad (n_v vs 12))) (v_iv (n_v vs 10)) (v_iv (n_v vs 8)) (v_iv (n_v vs 25))
      simp only [q8, q10, q11, q12, q13]
      exact vc_Fa_uniteAt_at_Nptail_Nphead_Emblock_7_0 (v_iv (n_v vs 0)) (v_iv (n_v vs 2)) (v_iv (n_v vs 8)) (v_iv (n_v vs 14)) (v_iv (n_v vs 15)) (v_iv (n_v vs 18)) (v_iv (n_v vs 25)) (v_iv (n_v vs 26)) (w_ei ws (v_ad (n_v vs 5))) (w_ei ws (v_ad (n_v vs 3))) (w_ei ws (v_ad (n_v vs 4))) k0 k2 k8 k14 k15 k18 k25 k26 d0 d4 d6 d9 h1 h9 f12 f14
  have nf1 : fc_1 PRD (20, [13, 11, 12, 6, 7, 10, 8, 9, 25], [61, 4, 589]) ws (vs) := by
    refine ⟨nf_in hl rfl, sgq_1194 ?_⟩
    · show UN2 (w_ei ws (v_ad (n_v vs 13))) (w_ei ws (v_ad (n_v vs 11))) (w_ei ws (v_ad (n_v vs 12))) (w_ei ws (v_ad (n_v vs 6))) (v_iv (n_v vs 7)) (v_iv (n_v vs 10)) (v_iv (n_v vs 8)) (v_iv (n_v vs 9)) (v_iv (n_v vs 25))
      simp only [q8, q9, q10, q11, q12, q13]
      exact vc_Fa_uniteAt_at_Nptail_Nphead_Emblock_7_1 (v_iv (n_v vs 0)) (v_iv (n_v vs 1)) (v_iv (n_v vs 2)) (v_iv (n_v vs 7)) (v_iv (n_v vs 8)) (v_iv (n_v vs 14)) (v_iv (n_v vs 15)) (v_iv (n_v vs 16)) (v_iv (n_v vs 18)) (v_iv (n_v vs 19)) (v_iv (n_v vs 20)) (v_iv (n_v vs 21)) (v_iv (n_v vs 22)) (v_iv (n_v vs 24)) (v_iv (n_v vs 25)) (v_iv (n_v vs 26)) (w_ei ws (v_ad (n_v vs 5))) (w_ei ws (v_ad (n_v vs 3))) (w_ei ws (v_ad (n_v vs 4))) (w_ei ws (v_ad (n_v vs 6))) k0 k1 k2 k7 k8 k14 k15 k16 k18 k19 k20 k21 k22 k25 k26 d0 d4 d6 d9 h1 f5 f6 h7 h9 h11 f12 f15
  refine ⟨(fun _ h => (by cases h)), [], trivial, ?_, (fun _ h => (by cases h))⟩
  rw [List.append_nil]
  exact List.forall_mem_cons.mpr ⟨⟨show (20 : Nat) < 100 from by decide, nf0⟩, List.forall_mem_cons.mpr ⟨⟨show (20 : Nat) < 100 from by decide, nf1⟩, (fun _ h => (by cases h))⟩⟩
set_option maxHeartbeats 4000000 in
theorem vc_Fa_uniteAt_at_Nptail_Nphead_Emblock_8_r0 (x2 : Int) (x15 : Int) (x16 : Int) (x17 : Int) (x22 : Int) (x23 : Int) (x29 : Int) (x30 : Int) (a5_0 : Int → Int) (a3_0 : Int → Int) (a4_0 : Int → Int) (k2 : 1 ≤ x2 ∧ x2 ≤ 72) (k15 : 0 ≤ x15 ∧ x15 ≤ 71) (k16 : 0 ≤ x16 ∧ x16 ≤ 24) (k17 : 0 ≤ x17 ∧ x17 ≤ 24) (k22 : 0 ≤ x22 ∧ x22 ≤ 24) (k23 : 0 ≤ x23 ∧ x23 ≤ 24) (k29 : (-1) ≤ x29 ∧ x29 ≤ 71) (k30 : (-1) ≤ x30 ∧ x30 ≤ 71) (h0 : x30 = a5_0 (x15)) (h2 : x29 = a5_0 (x15)) (h8 : x23 = a3_0 (x15)) (h10 : x22 = a4_0 (x15)) (h15 : x17 = a4_0 (x15)) (h17 : x16 = a3_0 (x15)) (f18 : x15 < x2) (f19 : BLQ (a5_0) (x2)) : 0 ≤ x30 ∧ x30 ≤ 71 := by
  first
    | omega
    | (skip; (first | subst h0 | skip); (first | subst h2 | skip); (first | subst h8 | skip); (first | subst h10 | skip); (first | subst h15 | skip); (first | subst h17 | skip); have q := ‹BLQ _ _› x15 (by omega) (by omega); omega)
def o_Fa_uniteAt_at_Nptail_Nphead_Emblock_8 : or_T := (112, 31, [(0, (0, 0, 24, [])), (1, (0, 0, 33554431, [])), (2, (0, 1, 72, [])), (3, (2, 0, 0, [140])), (4, (2, 0, 0, [141])), (5, (2, 0, 0, [26])), (6, (2, 0, 0, [142])), (7, (0, 0, 25, [])), (8, (0, 0, 24, [])), (9, (0, 0, 33554431, [])), (10, (0, 1, 72, [])), (11, (2, 0, 0, [140])), (12, (2, 0, 0, [141])), (13, (2, 0, 0, [26])), (14, (0, 0, 71, [])), (15, (0, 0, 71, [])), (16, (0, 0, 24, [])), (17, (0, 0, 24, [])), (18, (0, 0, 33554431, [])), (19, (0, 1, 1, [])), (20, (0, 0, 0, [])), (22, (0, 0, 24, [])), (23, (0, 0, 24, [])), (24, (0, 0, 33554431, [])), (25, (0, 1, 1, [])), (26, (0, 1, 1, [])), (28, (0, -1, -1, [])), (29, (0, -1, 71, [])), (30, (0, -1, 71, []))], [(10, [30, 13, 15], []), (7, [29, 14], [1]), (10, [29, 13, 15], []), (7, [14, 28], [1]), (8, [26], [1]), (12, [26, 24], [2]), (16, [26, 24, 25], [0]), (16, [24, 9, 23], [4]), (10, [23, 11, 15], []), (7, [22, 8], [0]), (10, [22, 12, 15], []), (8, [20], [0]), (12, [20, 18], [2]), (16, [20, 18, 19], [0]), (16, [18, 9, 17], [4]), (10, [17, 12, 15], []), (7, [16, 8], [0]), (10, [16, 11, 15], []), (7, [15, 10], [2]), (20, [13, 10], [61, 1, 566]), (20, [13, 11, 12, 10, 8, 14], [61, 3, 584]), (20, [13, 11, 12, 6, 7, 10, 8, 9, 14], [61, 4, 589]), (24, [0, 8], []), (24, [1, 9], []), (24, [2, 10], []), (24, [3, 11], []), (24, [4, 12], []), (24, [5, 13], [])], [(30, (0, 0, 71, []))], [], [], [], [(22, 8, 0, 0), (16, 8, 0, 0), (15, 10, -4294967296, -1), (0, 8, -4294967296, 0), (1, 9, -4294967296, 0), (2, 10, -4294967296, 0), (8, 0, -4294967296, 0), (9, 1, -4294967296, 0), (10, 2, -4294967296, 0), (14, 15, -4294967296, 70), (15, 2, -4294967296, 0), (15, 10, -4294967296, 0)])
theorem oo_Fa_uniteAt_at_Nptail_Nphead_Emblock_8 {kA : Nat → ClassId} : or_ok PRD kA GG o_Fa_uniteAt_at_Nptail_Nphead_Emblock_8 := by
  refine or_mk fun A ta ws vs hD hth hl => ?_
  intro t0 k0 t1 k1 t2 k2 t3 r3 t4 r4 t5 r5 t6 r6 t7 k7 t8 k8 t9 k9 t10 k10 t11 r11 t12 r12 t13 r13 t14 k14 t15 k15 t16 k16 t17 k17 t18 k18 t19 k19 t20 k20 t22 k22 t23 k23 t24 k24 t25 k25 t26 k26 t28 k28 t29 k29 t30 k30 d0 d1 d2 d3 d4 d5 d6 d7 d8 d9 d10 d11 f0 f1 f2 f3 f4 f5 f6 f7 f8 f9 f10 f11 f12 f13 f14 f15 f16 f17 f18 f19 f20 f21 f22 f23 f24 f25 f26 f27
  replace f0 := shm_107 f0
  replace f2 := shm_107 f2
  replace f8 := shm_107 f8
  replace f10 := shm_107 f10
  replace f15 := shm_107 f15
  replace f17 := shm_107 f17
  replace f18 := shm_6 f18
  replace f19 := shm_365 f19
  replace f24 := shm_5 f24
  replace f25 := shm_5 f25
  replace f26 := shm_5 f26
  replace f27 := shm_5 f27
  have q10 : n_v vs 10 = n_v vs 2 := f24.symm
  have q11 : n_v vs 11 = n_v vs 3 := f25.symm
  have q12 : n_v vs 12 = n_v vs 4 := f26.symm
  have q13 : n_v vs 13 = n_v vs 5 := f27.symm
  simp only [q13, q11, q12, q10] at f0 f2 f8 f10 f15 f17 f18 f19
  have h0 : v_iv (n_v vs 30) = w_ei ws (v_ad (n_v vs 5)) (v_iv (n_v vs 15)) := f0
  have h2 : v_iv (n_v vs 29) = w_ei ws (v_ad (n_v vs 5)) (v_iv (n_v vs 15)) := f2
  have h8 : v_iv (n_v vs 23) = w_ei ws (v_ad (n_v vs 3)) (v_iv (n_v vs 15)) := f8
  have h10 : v_iv (n_v vs 22) = w_ei ws (v_ad (n_v vs 4)) (v_iv (n_v vs 15)) := f10
  have h15 : v_iv (n_v vs 17) = w_ei ws (v_ad (n_v vs 4)) (v_iv (n_v vs 15)) := f15
  have h17 : v_iv (n_v vs 16) = w_ei ws (v_ad (n_v vs 3)) (v_iv (n_v vs 15)) := f17
  have hrf0 : 0 ≤ v_iv (n_v vs 30) ∧ v_iv (n_v vs 30) ≤ 71 := vc_Fa_uniteAt_at_Nptail_Nphead_Emblock_8_r0 (v_iv (n_v vs 2)) (v_iv (n_v vs 15)) (v_iv (n_v vs 16)) (v_iv (n_v vs 17)) (v_iv (n_v vs 22)) (v_iv (n_v vs 23)) (v_iv (n_v vs 29)) (v_iv (n_v vs 30)) (w_ei ws (v_ad (n_v vs 5))) (w_ei ws (v_ad (n_v vs 3))) (w_ei ws (v_ad (n_v vs 4))) k2 k15 k16 k17 k22 k23 k29 k30 h0 h2 h8 h10 h15 h17 f18 f19
  have rf30 : tv_ok ta (0, 0, 71, []) (n_v vs 30) := tv_in t30 (by first | omega | grind) (by first | omega | grind)
  refine ⟨List.forall_mem_cons.mpr ⟨rf30, (fun _ h => (by cases h))⟩, [], trivial, ?_, (fun _ h => (by cases h))⟩
  rw [List.append_nil]
  exact (fun _ h => (by cases h))
set_option maxHeartbeats 4000000 in
theorem vc_Fa_uniteAt_at_Nptail_Nphead_Emblock_9_r0 (x15 : Int) (x16 : Int) (x17 : Int) (x22 : Int) (x23 : Int) (x29 : Int) (x30 : Int) (x32 : Int) (a5_0 : Int → Int) (a3_0 : Int → Int) (a4_0 : Int → Int) (k15 : 0 ≤ x15 ∧ x15 ≤ 71) (k16 : 0 ≤ x16 ∧ x16 ≤ 24) (k17 : 0 ≤ x17 ∧ x17 ≤ 24) (k22 : 0 ≤ x22 ∧ x22 ≤ 24) (k23 : 0 ≤ x23 ∧ x23 ≤ 24) (k29 : (-1) ≤ x29 ∧ x29 ≤ 71) (k30 : 0 ≤ x30 ∧ x30 ≤ 71) (k32 : (-1) ≤ x32 ∧ x32 ≤ 71) (h0 : x32 = a5_0 (x15)) (h4 : x30 = a5_0 (x15)) (h6 : x29 = a5_0 (x15)) (h12 : x23 = a3_0 (x15)) (h14 : x22 = a4_0 (x15)) (h19 : x17 = a4_0 (x15)) (h21 : x16 = a3_0 (x15)) : 0 ≤ x32 ∧ x32 ≤ 71 := by
  first
    | omega
    | (skip; (first | subst h0 | skip); (first | subst h4 | skip); (first | subst h6 | skip); (first | subst h12 | skip); (first | subst h14 | skip); (first | subst h19 | skip); (first | subst h21 | skip); have q := ‹BLQ _ _› x15 (by omega) (by omega); omega)
def o_Fa_uniteAt_at_Nptail_Nphead_Emblock_9 : or_T := (124, 33, [(0, (0, 0, 24, [])), (1, (0, 0, 33554431, [])), (2, (0, 1, 72, [])), (3, (2, 0, 0, [140])), (4, (2, 0, 0, [141])), (5, (2, 0, 0, [26])), (6, (2, 0, 0, [142])), (7, (0, 0, 25, [])), (8, (0, 0, 24, [])), (9, (0, 0, 33554431, [])), (10, (0, 1, 72, [])), (11, (2, 0, 0, [140])), (12, (2, 0, 0, [141])), (13, (2, 0, 0, [26])), (14, (0, 0, 71, [])), (15, (0, 0, 71, [])), (16, (0, 0, 24, [])), (17, (0, 0, 24, [])), (18, (0, 0, 33554431, [])), (19, (0, 1, 1, [])), (20, (0, 0, 0, [])), (22, (0, 0, 24, [])), (23, (0, 0, 24, [])), (24, (0, 0, 33554431, [])), (25, (0, 1, 1, [])), (26, (0, 1, 1, [])), (28, (0, -1, -1, [])), (29, (0, -1, 71, [])), (30, (0, 0, 71, [])), (31, (0, 0, 71, [])), (32, (0, -1, 71, []))], [(10, [32, 13, 15], []), (23, [14, 31], [0, 1, -1]), (23, [30, 31], [0, 1, -1]), (20, [31, 14, 30], [50, 0, 0, 3, 6, 1, 2, 1, 0, 1, 1, 1, 2, 1, 0, 1, 2]), (10, [30, 13, 15], []), (7, [29, 14], [1]), (10, [29, 13, 15], []), (7, [14, 28], [1]), (8, [26], [1]), (12, [26, 24], [2]), (16, [26, 24, 25], [0]), (16, [24, 9, 23], [4]), (10, [23, 11, 15], []), (7, [22, 8], [0]), (10, [22, 12, 15], []), (8, [20], [0]), (12, [20, 18], [2]), (16, [20, 18, 19], [0]), (16, [18, 9, 17], [4]), (10, [17, 12, 15], []), (7, [16, 8], [0]), (10, [16, 11, 15], []), (7, [15, 10], [2]), (20, [13, 10], [61, 1, 566]), (20, [13, 11, 12, 10, 8, 14], [61, 3, 584]), (20, [13, 11, 12, 6, 7, 10, 8, 9, 14], [61, 4, 589]), (24, [0, 8], []), (24, [1, 9], []), (24, [2, 10], []), (24, [3, 11], []), (24, [4, 12], []), (24, [5, 13], [])], [(32, (0, 0, 71, []))], [], [], [], [(22, 8, 0, 0), (16, 8, 0, 0), (15, 10, -4294967296, -1), (0, 8, -4294967296, 0), (1, 9, -4294967296, 0), (2, 10, -4294967296, 0), (8, 0, -4294967296, 0), (9, 1, -4294967296, 0), (10, 2, -4294967296, 0), (14, 15, -4294967296, 70), (15, 2, -4294967296, 0), (15, 10, -4294967296, 0)])
theorem oo_Fa_uniteAt_at_Nptail_Nphead_Emblock_9 {kA : Nat → ClassId} : or_ok PRD kA GG o_Fa_uniteAt_at_Nptail_Nphead_Emblock_9 := by
  refine or_mk fun A ta ws vs hD hth hl => ?_
  intro t0 k0 t1 k1 t2 k2 t3 r3 t4 r4 t5 r5 t6 r6 t7 k7 t8 k8 t9 k9 t10 k10 t11 r11 t12 r12 t13 r13 t14 k14 t15 k15 t16 k16 t17 k17 t18 k18 t19 k19 t20 k20 t22 k22 t23 k23 t24 k24 t25 k25 t26 k26 t28 k28 t29 k29 t30 k30 t31 k31 t32 k32 d0 d1 d2 d3 d4 d5 d6 d7 d8 d9 d10 d11 f0 f1 f2 f3 f4 f5 f6 f7 f8 f9 f10 f11 f12 f13 f14 f15 f16 f17 f18 f19 f20 f21 f22 f23 f24 f25 f26 f27 f28 f29 f30 f31
  replace f0 := shm_107 f0
  replace f4 := shm_107 f4
  replace f6 := shm_107 f6
  replace f12 := shm_107 f12
  replace f14 := shm_107 f14
  replace f19 := shm_107 f19
  replace f21 := shm_107 f21
  replace f29 := shm_5 f29
  replace f30 := shm_5 f30
  replace f31 := shm_5 f31
  have q11 : n_v vs 11 = n_v vs 3 := f29.symm
  have q12 : n_v vs 12 = n_v vs 4 := f30.symm
  have q13 : n_v vs 13 = n_v vs 5 := f31.symm
  simp only [q13, q11, q12] at f0 f4 f6 f12 f14 f19 f21
  have h0 : v_iv (n_v vs 32) = w_ei ws (v_ad (n_v vs 5)) (v_iv (n_v vs 15)) := f0
  have h4 : v_iv (n_v vs 30) = w_ei ws (v_ad (n_v vs 5)) (v_iv (n_v vs 15)) := f4
  have h6 : v_iv (n_v vs 29) = w_ei ws (v_ad (n_v vs 5)) (v_iv (n_v vs 15)) := f6
  have h12 : v_iv (n_v vs 23) = w_ei ws (v_ad (n_v vs 3)) (v_iv (n_v vs 15)) := f12
  have h14 : v_iv (n_v vs 22) = w_ei ws (v_ad (n_v vs 4)) (v_iv (n_v vs 15)) := f14
  have h19 : v_iv (n_v vs 17) = w_ei ws (v_ad (n_v vs 4)) (v_iv (n_v vs 15)) := f19
  have h21 : v_iv (n_v vs 16) = w_ei ws (v_ad (n_v vs 3)) (v_iv (n_v vs 15)) := f21
  have hrf0 : 0 ≤ v_iv (n_v vs 32) ∧ v_iv (n_v vs 32) ≤ 71 := vc_Fa_uniteAt_at_Nptail_Nphead_Emblock_9_r0 (v_iv (n_v vs 15)) (v_iv (n_v vs 16)) (v_iv (n_v vs 17)) (v_iv (n_v vs 22)) (v_iv (n_v vs 23)) (v_iv (n_v vs 29)) (v_iv (n_v vs 30)) (v_iv (n_v vs 32)) (w_ei ws (v_ad (n_v vs 5))) (w_ei ws (v_ad (n_v vs 3))) (w_ei ws (v_ad (n_v vs 4))) k15 k16 k17 k22 k23 k29 k30 k32 h0 h4 h6 h12 h14 h19 h21
  have rf32 : tv_ok ta (0, 0, 71, []) (n_v vs 32) := tv_in t32 (by first | omega | grind) (by first | omega | grind)
  refine ⟨List.forall_mem_cons.mpr ⟨rf32, (fun _ h => (by cases h))⟩, [], trivial, ?_, (fun _ h => (by cases h))⟩
  rw [List.append_nil]
  exact (fun _ h => (by cases h))
set_option maxHeartbeats 4000000 in
theorem vc_Fa_uniteAt_at_Nptail_Nphead_Emblock_10_2 (x0 : Int) (x8 : Int) (x15 : Int) (x16 : Int) (x17 : Int) (x22 : Int) (x23 : Int) (x29 : Int) (x30 : Int) (x32 : Int) (a5_0 : Int → Int) (a3_0 : Int → Int) (a4_0 : Int → Int) (gu : Int) (k0 : 0 ≤ x0 ∧ x0 ≤ 24) (k8 : 0 ≤ x8 ∧ x8 ≤ 24) (k15 : 0 ≤ x15 ∧ x15 ≤ 71) (k16 : 0 ≤ x16 ∧ x16 ≤ 24) (k17 : 0 ≤ x17 ∧ x17 ≤ 24) (k22 : 0 ≤ x22 ∧ x22 ≤ 24) (k23 : 0 ≤ x23 ∧ x23 ≤ 24) (k29 : (-1) ≤ x29 ∧ x29 ≤ 71) (k30 : 0 ≤ x30 ∧ x30 ≤ 71) (k32 : 0 ≤ x32 ∧ x32 ≤ 71) (d0 : x8 + 0 ≤ x22 ∧ x22 ≤ x8 + 0) (d3 : x8 + (-4294967296) ≤ x0 ∧ x0 ≤ x8 + 0) (d6 : x0 + (-4294967296) ≤ x8 ∧ x8 ≤ x0 + 0) (h3 : x32 = a5_0 (x15)) (h7 : x30 = a5_0 (x15)) (h9 : x29 = a5_0 (x15)) (h15 : x23 = a3_0 (x15)) (h17 : x22 = a4_0 (x15)) (h22 : x17 = a4_0 (x15)) (h24 : x16 = a3_0 (x15)) (eu2 : gu = x0) : 1 * gu + ((-1) * x0 + 0) ≤ 0 := by
  first
    | omega
    | (skip; (first | subst h3 | skip); (first | subst h7 | skip); (first | subst h9 | skip); (first | subst h15 | skip); (first | subst h17 | skip); (first | subst h22 | skip); (first | subst h24 | skip); have q := ‹BLQ _ _› x15 (by omega) (by omega); omega)
set_option maxHeartbeats 4000000 in
theorem vc_Fa_uniteAt_at_Nptail_Nphead_Emblock_10_3 (x0 : Int) (x8 : Int) (x15 : Int) (x16 : Int) (x17 : Int) (x22 : Int) (x23 : Int) (x29 : Int) (x30 : Int) (x32 : Int) (a5_0 : Int → Int) (a3_0 : Int → Int) (a4_0 : Int → Int) (gu : Int) (k0 : 0 ≤ x0 ∧ x0 ≤ 24) (k8 : 0 ≤ x8 ∧ x8 ≤ 24) (k15 : 0 ≤ x15 ∧ x15 ≤ 71) (k16 : 0 ≤ x16 ∧ x16 ≤ 24) (k17 : 0 ≤ x17 ∧ x17 ≤ 24) (k22 : 0 ≤ x22 ∧ x22 ≤ 24) (k23 : 0 ≤ x23 ∧ x23 ≤ 24) (k29 : (-1) ≤ x29 ∧ x29 ≤ 71) (k30 : 0 ≤ x30 ∧ x30 ≤ 71) (k32 : 0 ≤ x32 ∧ x32 ≤ 71) (d0 : x8 + 0 ≤ x22 ∧ x22 ≤ x8 + 0) (d3 : x8 + (-4294967296) ≤ x0 ∧ x0 ≤ x8 + 0) (d6 : x0 + (-4294967296) ≤ x8 ∧ x8 ≤ x0 + 0) (h3 : x32 = a5_0 (x15)) (h7 : x30 = a5_0 (x15)) (h9 : x29 = a5_0 (x15)) (h15 : x23 = a3_0 (x15)) (h17 : x22 = a4_0 (x15)) (h22 : x17 = a4_0 (x15)) (h24 : x16 = a3_0 (x15)) (eu2 : gu = x0) : (-1) * gu + (1 * x0 + 0) ≤ 0 := by
  first
    | omega
    | (skip; (first | subst h3 | skip); (first | subst h7 | skip); (first | subst h9 | skip); (first | subst h15 | skip); (first | subst h17 | skip); (first | subst h22 | skip); (first | subst h24 | skip); have q := ‹BLQ _ _› x15 (by omega) (by omega); omega)
set_option maxHeartbeats 4000000 in
theorem vc_Fa_uniteAt_at_Nptail_Nphead_Emblock_10_5 (x7 : Int) (x15 : Int) (x16 : Int) (x17 : Int) (x22 : Int) (x23 : Int) (x29 : Int) (x30 : Int) (x32 : Int) (a5_0 : Int → Int) (a3_0 : Int → Int) (a4_0 : Int → Int) (gc : Int) (k7 : 0 ≤ x7 ∧ x7 ≤ 25) (k15 : 0 ≤ x15 ∧ x15 ≤ 71) (k16 : 0 ≤ x16 ∧ x16 ≤ 24) (k17 : 0 ≤ x17 ∧ x17 ≤ 24) (k22 : 0 ≤ x22 ∧ x22 ≤ 24) (k23 : 0 ≤ x23 ∧ x23 ≤ 24) (k29 : (-1) ≤ x29 ∧ x29 ≤ 71) (k30 : 0 ≤ x30 ∧ x30 ≤ 71) (k32 : 0 ≤ x32 ∧ x32 ≤ 71) (h3 : x32 = a5_0 (x15)) (h7 : x30 = a5_0 (x15)) (h9 : x29 = a5_0 (x15)) (h15 : x23 = a3_0 (x15)) (h17 : x22 = a4_0 (x15)) (h22 : x17 = a4_0 (x15)) (h24 : x16 = a3_0 (x15)) (ec2 : gc = x7) : 1 * gc + ((-1) * x7 + 0) ≤ 0 := by
  first
    | omega
    | (skip; (first | subst h3 | skip); (first | subst h7 | skip); (first | subst h9 | skip); (first | subst h15 | skip); (first | subst h17 | skip); (first | subst h22 | skip); (first | subst h24 | skip); have q := ‹BLQ _ _› x15 (by omega) (by omega); omega)
set_option maxHeartbeats 4000000 in
theorem vc_Fa_uniteAt_at_Nptail_Nphead_Emblock_10_6 (x7 : Int) (x15 : Int) (x16 : Int) (x17 : Int) (x22 : Int) (x23 : Int) (x29 : Int) (x30 : Int) (x32 : Int) (a5_0 : Int → Int) (a3_0 : Int → Int) (a4_0 : Int → Int) (gc : Int) (k7 : 0 ≤ x7 ∧ x7 ≤ 25) (k15 : 0 ≤ x15 ∧ x15 ≤ 71) (k16 : 0 ≤ x16 ∧ x16 ≤ 24) (k17 : 0 ≤ x17 ∧ x17 ≤ 24) (k22 : 0 ≤ x22 ∧ x22 ≤ 24) (k23 : 0 ≤ x23 ∧ x23 ≤ 24) (k29 : (-1) ≤ x29 ∧ x29 ≤ 71) (k30 : 0 ≤ x30 ∧ x30 ≤ 71) (k32 : 0 ≤ x32 ∧ x32 ≤ 71) (h3 : x32 = a5_0 (x15)) (h7 : x30 = a5_0 (x15)) (h9 : x29 = a5_0 (x15)) (h15 : x23 = a3_0 (x15)) (h17 : x22 = a4_0 (x15)) (h22 : x17 = a4_0 (x15)) (h24 : x16 = a3_0 (x15)) (ec2 : gc = x7) : (-1) * gc + (1 * x7 + 0) ≤ 0 := by
  first
    | omega
    | (skip; (first | subst h3 | skip); (first | subst h7 | skip); (first | subst h9 | skip); (first | subst h15 | skip); (first | subst h17 | skip); (first | subst h22 | skip); (first | subst h24 | skip); have q := ‹BLQ _ _› x15 (by omega) (by omega); omega)
set_option maxHeartbeats 4000000 in
theorem vc_Fa_uniteAt_at_Nptail_Nphead_Emblock_10_7 (x1 : Int) (x9 : Int) (x15 : Int) (x16 : Int) (x17 : Int) (x22 : Int) (x23 : Int) (x29 : Int) (x30 : Int) (x32 : Int) (a5_0 : Int → Int) (a3_0 : Int → Int) (a4_0 : Int → Int) (gd : Int) (k1 : 0 ≤ x1 ∧ x1 ≤ 33554431) (k9 : 0 ≤ x9 ∧ x9 ≤ 33554431) (k15 : 0 ≤ x15 ∧ x15 ≤ 71) (k16 : 0 ≤ x16 ∧ x16 ≤ 24) (k17 : 0 ≤ x17 ∧ x17 ≤ 24) (k22 : 0 ≤ x22 ∧ x22 ≤ 24) (k23 : 0 ≤ x23 ∧ x23 ≤ 24) (k29 : (-1) ≤ x29 ∧ x29 ≤ 71) (k30 : 0 ≤ x30 ∧ x30 ≤ 71) (k32 : 0 ≤ x32 ∧ x32 ≤ 71) (d4 : x9 + (-4294967296) ≤ x1 ∧ x1 ≤ x9 + 0) (d7 : x1 + (-4294967296) ≤ x9 ∧ x9 ≤ x1 + 0) (h3 : x32 = a5_0 (x15)) (h7 : x30 = a5_0 (x15)) (h9 : x29 = a5_0 (x15)) (h15 : x23 = a3_0 (x15)) (h17 : x22 = a4_0 (x15)) (h22 : x17 = a4_0 (x15)) (h24 : x16 = a3_0 (x15)) (ed2 : gd = x1) : 1 * gd + ((-1) * x1 + 0) ≤ 0 := by
  first
    | omega
    | (skip; (first | subst h3 | skip); (first | subst h7 | skip); (first | subst h9 | skip); (first | subst h15 | skip); (first | subst h17 | skip); (first | subst h22 | skip); (first | subst h24 | skip); have q := ‹BLQ _ _› x15 (by omega) (by omega); omega)
set_option maxHeartbeats 4000000 in
theorem vc_Fa_uniteAt_at_Nptail_Nphead_Emblock_10_8 (x1 : Int) (x9 : Int) (x15 : Int) (x16 : Int) (x17 : Int) (x22 : Int) (x23 : Int) (x29 : Int) (x30 : Int) (x32 : Int) (a5_0 : Int → Int) (a3_0 : Int → Int) (a4_0 : Int → Int) (gd : Int) (k1 : 0 ≤ x1 ∧ x1 ≤ 33554431) (k9 : 0 ≤ x9 ∧ x9 ≤ 33554431) (k15 : 0 ≤ x15 ∧ x15 ≤ 71) (k16 : 0 ≤ x16 ∧ x16 ≤ 24) (k17 : 0 ≤ x17 ∧ x17 ≤ 24) (k22 : 0 ≤ x22 ∧ x22 ≤ 24) (k23 : 0 ≤ x23 ∧ x23 ≤ 24) (k29 : (-1) ≤ x29 ∧ x29 ≤ 71) (k30 : 0 ≤ x30 ∧ x30 ≤ 71) (k32 : 0 ≤ x32 ∧ x32 ≤ 71) (d4 : x9 + (-4294967296) ≤ x1 ∧ x1 ≤ x9 + 0) (d7 : x1 + (-4294967296) ≤ x9 ∧ x9 ≤ x1 + 0) (h3 : x32 = a5_0 (x15)) (h7 : x30 = a5_0 (x15)) (h9 : x29 = a5_0 (x15)) (h15 : x23 = a3_0 (x15)) (h17 : x22 = a4_0 (x15)) (h22 : x17 = a4_0 (x15)) (h24 : x16 = a3_0 (x15)) (ed2 : gd = x1) : (-1) * gd + (1 * x1 + 0) ≤ 0 := by
  first
    | omega
    | (skip; (first | subst h3 | skip); (first | subst h7 | skip); (first | subst h9 | skip); (first | subst h15 | skip); (first | subst h17 | skip); (first | subst h22 | skip); (first | subst h24 | skip); have q := ‹BLQ _ _› x15 (by omega) (by omega); omega)
set_option maxHeartbeats 4000000 in
theorem vc_Fa_uniteAt_at_Nptail_Nphead_Emblock_10_9 (x2 : Int) (a5_0 : Int → Int) (k2 : 1 ≤ x2 ∧ x2 ≤ 72) (f26 : BLQ (a5_0) (x2)) : BLQ (a5_0) (x2) := by
  first
    | assumption
  
set_option maxHeartbeats 4000000 in
theorem vc_Fa_uniteAt_at_Nptail_Nphead_Emblock_10_10 (x15 : Int) (x16 : Int) (x17 : Int) (x22 : Int) (x23 : Int) (x29 : Int) (x30 : Int) (x31 : Int) (x32 : Int) (x33 : Int) (a5_0 : Int → Int) (a3_0 : Int → Int) (a4_0 : Int → Int) (k15 : 0 ≤ x15 ∧ x15 ≤ 71) (k16 : 0 ≤ x16 ∧ x16 ≤ 24) (k17 : 0 ≤ x17 ∧ x17 ≤ 24) (k22 : 0 ≤ x22 ∧ x22 ≤ 24) (k23 : 0 ≤ x23 ∧ x23 ≤ 24) (k29 : (-1) ≤ x29 ∧ x29 ≤ 71) (k30 : 0 ≤ x30 ∧ x30 ≤ 71) (k31 : 0 ≤ x31 ∧ x31 ≤ 71) (k32 : 0 ≤ x32 ∧ x32 ≤ 71) (k33 : 0 ≤ x33 ∧ x33 ≤ 71) (f1 : (-1) * x32 + (1 * x33 + 0) ≤ 0) (h3 : x32 = a5_0 (x15)) (f5 : 1 * x30 + ((-1) * x31 + 0) ≤ 0) (h7 : x30 = a5_0 (x15)) (h9 : x29 = a5_0 (x15)) (h15 : x23 = a3_0 (x15)) (h17 : x22 = a4_0 (x15)) (h22 : x17 = a4_0 (x15)) (h24 : x16 = a3_0 (x15)) : (0 ≤ x33) ∧ (x33 ≤ x31) := by
  first
    | omega
    | (skip; (first | subst h3 | skip); (first | subst h7 | skip); (first | subst h9 | skip); (first | subst h15 | skip); (first | subst h17 | skip); (first | subst h22 | skip); (first | subst h24 | skip); have q := ‹BLQ _ _› x15 (by omega) (by omega); omega)
set_option maxHeartbeats 4000000 in
theorem vc_Fa_uniteAt_at_Nptail_Nphead_Emblock_10_11 (x0 : Int) (x2 : Int) (x8 : Int) (x14 : Int) (x15 : Int) (x16 : Int) (x22 : Int) (x26 : Int) (x28 : Int) (x29 : Int) (x30 : Int) (x31 : Int) (x32 : Int) (x33 : Int) (a5_0 : Int → Int) (a3_0 : Int → Int) (a4_0 : Int → Int) (gu : Int) (k0 : 0 ≤ x0 ∧ x0 ≤ 24) (k2 : 1 ≤ x2 ∧ x2 ≤ 72) (k8 : 0 ≤ x8 ∧ x8 ≤ 24) (k14 : 0 ≤ x14 ∧ x14 ≤ 71) (k15 : 0 ≤ x15 ∧ x15 ≤ 71) (k16 : 0 ≤ x16 ∧ x16 ≤ 24) (k22 : 0 ≤ x22 ∧ x22 ≤ 24) (k26 : 1 ≤ x26 ∧ x26 ≤ 1) (k28 : (-1) ≤ x28 ∧ x28 ≤ (-1)) (k29 : (-1) ≤ x29 ∧ x29 ≤ 71) (k30 : 0 ≤ x30 ∧ x30 ≤ 71) (k31 : 0 ≤ x31 ∧ x31 ≤ 71) (k32 : 0 ≤ x32 ∧ x32 ≤ 71) (k33 : 0 ≤ x33 ∧ x33 ≤ 71) (d0 : x8 + 0 ≤ x22 ∧ x22 ≤ x8 + 0) (d1 : x8 + 0 ≤ x16 ∧ x16 ≤ x8 + 0) (d3 : x8 + (-4294967296) ≤ x0 ∧ x0 ≤ x8 + 0) (d6 : x0 + (-4294967296) ≤ x8 ∧ x8 ≤ x0 + 0) (f0 : (-1) * x14 + (1 * x33 + 0) ≤ 0) (f1 : (-1) * x32 + (1 * x33 + 0) ≤ 0) (f2 : (x33 = x14) ∨ (x33 = x32)) (h3 : x32 = a5_0 (x15)) (f4 : 1 * x14 + ((-1) * x31 + 0) ≤ 0) (f5 : 1 * x30 + ((-1) * x31 + 0) ≤ 0) (f6 : (x31 = x14) ∨ (x31 = x30)) (h7 : x30 = a5_0 (x15)) (f8 : x29 ≠ x14) (h9 : x29 = a5_0 (x15)) (f10 : x14 ≠ x28) (f11 : x26 ≠ 0) (h17 : x22 = a4_0 (x15)) (h24 : x16 = a3_0 (x15)) (f25 : x15 < x2) (f27 : UNI (a5_0) (a3_0) (a4_0) (x2) (x0) (x14)) (eu2 : gu = x0) : RLP (a5_0) (a3_0) (a4_0) (x2) (x31) (x33) (gu) := by
  first
    | (rw [show gu = x0 by omega]; exact uni_rlp (e := x15) ‹UNI _ _ _ _ _ _› (by omega) rfl (by omega) (by omega) (by omega) (by first | exact Or.inl (by omega) | exact Or.inr (by omega)) (by omega) (by omega) (by omega) (by omega) (by omega) (by omega))
  
set_option maxHeartbeats 4000000 in
theorem vc_Fa_uniteAt_at_Nptail_Nphead_Emblock_10_12 (x0 : Int) (x1 : Int) (x2 : Int) (x7 : Int) (x8 : Int) (x14 : Int) (x15 : Int) (x16 : Int) (x17 : Int) (x18 : Int) (x19 : Int) (x20 : Int) (x22 : Int) (x23 : Int) (x24 : Int) (x25 : Int) (x26 : Int) (x28 : Int) (x29 : Int) (x30 : Int) (x31 : Int) (x32 : Int) (x33 : Int) (a5_0 : Int → Int) (a3_0 : Int → Int) (a4_0 : Int → Int) (a6_0 : Int → Int) (gu : Int) (gc : Int) (gd : Int) (k0 : 0 ≤ x0 ∧ x0 ≤ 24) (k1 : 0 ≤ x1 ∧ x1 ≤ 33554431) (k2 : 1 ≤ x2 ∧ x2 ≤ 72) (k7 : 0 ≤ x7 ∧ x7 ≤ 25) (k8 : 0 ≤ x8 ∧ x8 ≤ 24) (k14 : 0 ≤ x14 ∧ x14 ≤ 71) (k15 : 0 ≤ x15 ∧ x15 ≤ 71) (k16 : 0 ≤ x16 ∧ x16 ≤ 24) (k22 : 0 ≤ x22 ∧ x22 ≤ 24) (k23 : 0 ≤ x23 ∧ x23 ≤ 24) (k24 : 0 ≤ x24 ∧ x24 ≤ 33554431) (k25 : 1 ≤ x25 ∧ x25 ≤ 1) (k26 : 1 ≤ x26 ∧ x26 ≤ 1) (k28 : (-1) ≤ x28 ∧ x28 ≤ (-1)) (k29 : (-1) ≤ x29 ∧ x29 ≤ 71) (k30 : 0 ≤ x30 ∧ x30 ≤ 71) (k31 : 0 ≤ x31 ∧ x31 ≤ 71) (k32 : 0 ≤ x32 ∧ x32 ≤ 71) (k33 : 0 ≤ x33 ∧ x33 ≤ 71) (d0 : x8 + 0 ≤ x22 ∧ x22 ≤ x8 + 0) (d1 : x8 + 0 ≤ x16 ∧ x16 ≤ x8 + 0) (d3 : x8 + (-4294967296) ≤ x0 ∧ x0 ≤ x8 + 0) (d6 : x0 + (-4294967296) ≤ x8 ∧ x8 ≤ x0 + 0) (f0 : (-1) * x14 + (1 * x33 + 0) ≤ 0) (f1 : (-1) * x32 + (1 * x33 + 0) ≤ 0) (f2 : (x33 = x14) ∨ (x33 = x32)) (h3 : x32 = a5_0 (x15)) (f4 : 1 * x14 + ((-1) * x31 + 0) ≤ 0) (f5 : 1 * x30 + ((-1) * x31 + 0) ≤ 0) (f6 : (x31 = x14) ∨ (x31 = x30)) (h7 : x30 = a5_0 (x15)) (f8 : x29 ≠ x14) (h9 : x29 = a5_0 (x15)) (f10 : x14 ≠ x28) (f11 : x26 ≠ 0) (f13 : bvp (x26) = bvp (x24) &&& bvp (x25)) (f14 : bvp (x24) = bvp (x1) >>> (x23).toNat) (h15 : x23 = a3_0 (x15)) (h17 : x22 = a4_0 (x15)) (h24 : x16 = a3_0 (x15)) (f25 : x15 < x2) (f28 : UN2 (a5_0) (a3_0) (a4_0) (a6_0) (x7) (x2) (x0) (x1) (x14)) (eu2 : gu = x0) (ec2 : gc = x7) (ed2 : gd = x1) : QKP (a5_0) (a3_0) (a4_0) (a6_0) (gc) (x2) (gu) (gd) (x31) (x33) := by
  first
    | (rw [show gu = x0 by omega, show gc = x7 by omega, show gd = x1 by omega]; exact un2_qkp (e := x15) ‹UN2 _ _ _ _ _ _ _ _ _› (by omega) rfl (by omega) (by omega) (by omega) (by first | exact Or.inl ⟨by omega, by omega, by rw [← ‹x17 = a4_0 x15›]; exact (bit_one (s := x1) (t := x18) (c := x20) (v := x17) (one := x19) (by assumption) (by assumption) (by omega) (by omega) (by omega) (by omega)).mpr (by omega)⟩ | exact Or.inr ⟨by omega, by omega, by rw [← ‹x19 = a3_0 x15›]; exact (bit_one (s := x1) (t := x20) (c := x22) (v := x19) (one := x21) (by assumption) (by assumption) (by omega) (by omega) (by omega) (by omega)).mpr (by omega)⟩ | exact Or.inr ⟨by omega, by omega, by rw [← ‹x23 = a3_0 x15›]; exact (bit_one (s := x1) (t := x24) (c := x26) (v := x23) (one := x25) (by assumption) (by assumption) (by omega) (by omega) (by omega) (by omega)).mpr (by omega)⟩) (by omega) (by omega) (by omega) (by omega) (by omega) (by omega))
  
set_option maxHeartbeats 4000000 in
theorem vc_Fa_uniteAt_at_Nptail_Nphead_Emblock_10_13 (x0 : Int) (x15 : Int) (x16 : Int) (x17 : Int) (x22 : Int) (x23 : Int) (x29 : Int) (x30 : Int) (x32 : Int) (a5_0 : Int → Int) (a3_0 : Int → Int) (a4_0 : Int → Int) (gu : Int) (k0 : 0 ≤ x0 ∧ x0 ≤ 24) (k15 : 0 ≤ x15 ∧ x15 ≤ 71) (k16 : 0 ≤ x16 ∧ x16 ≤ 24) (k17 : 0 ≤ x17 ∧ x17 ≤ 24) (k22 : 0 ≤ x22 ∧ x22 ≤ 24) (k23 : 0 ≤ x23 ∧ x23 ≤ 24) (k29 : (-1) ≤ x29 ∧ x29 ≤ 71) (k30 : 0 ≤ x30 ∧ x30 ≤ 71) (k32 : 0 ≤ x32 ∧ x32 ≤ 71) (h3 : x32 = a5_0 (x15)) (h7 : x30 = a5_0 (x15)) (h9 : x29 = a5_0 (x15)) (h15 : x23 = a3_0 (x15)) (h17 : x22 = a4_0 (x15)) (h22 : x17 = a4_0 (x15)) (h24 : x16 = a3_0 (x15)) (eu2 : gu = x0) : gu = x0 := by
  first
    | omega
    | (skip; (first | subst h3 | skip); (first | subst h7 | skip); (first | subst h9 | skip); (first | subst h15 | skip); (first | subst h17 | skip); (first | subst h22 | skip); (first | subst h24 | skip); have q := ‹BLQ _ _› x15 (by omega) (by omega); omega)
set_option maxHeartbeats 4000000 in
theorem vc_Fa_uniteAt_at_Nptail_Nphead_Emblock_10_14 (x15 : Int) (x16 : Int) (x17 : Int) (x22 : Int) (x23 : Int) (x29 : Int) (x30 : Int) (x32 : Int) (x33 : Int) (a5_0 : Int → Int) (a3_0 : Int → Int) (a4_0 : Int → Int) (k15 : 0 ≤ x15 ∧ x15 ≤ 71) (k16 : 0 ≤ x16 ∧ x16 ≤ 24) (k17 : 0 ≤ x17 ∧ x17 ≤ 24) (k22 : 0 ≤ x22 ∧ x22 ≤ 24) (k23 : 0 ≤ x23 ∧ x23 ≤ 24) (k29 : (-1) ≤ x29 ∧ x29 ≤ 71) (k30 : 0 ≤ x30 ∧ x30 ≤ 71) (k32 : 0 ≤ x32 ∧ x32 ≤ 71) (k33 : 0 ≤ x33 ∧ x33 ≤ 71) (h3 : x32 = a5_0 (x15)) (h7 : x30 = a5_0 (x15)) (h9 : x29 = a5_0 (x15)) (h15 : x23 = a3_0 (x15)) (h17 : x22 = a4_0 (x15)) (h22 : x17 = a4_0 (x15)) (h24 : x16 = a3_0 (x15)) : 0 ≤ x33 := by
  first
    | omega
    | (skip; (first | subst h3 | skip); (first | subst h7 | skip); (first | subst h9 | skip); (first | subst h15 | skip); (first | subst h17 | skip); (first | subst h22 | skip); (first | subst h24 | skip); have q := ‹BLQ _ _› x15 (by omega) (by omega); omega)
set_option maxHeartbeats 4000000 in
theorem vc_Fa_uniteAt_at_Nptail_Nphead_Emblock_10_15 (x7 : Int) (x15 : Int) (x16 : Int) (x17 : Int) (x22 : Int) (x23 : Int) (x29 : Int) (x30 : Int) (x32 : Int) (a5_0 : Int → Int) (a3_0 : Int → Int) (a4_0 : Int → Int) (gc : Int) (k7 : 0 ≤ x7 ∧ x7 ≤ 25) (k15 : 0 ≤ x15 ∧ x15 ≤ 71) (k16 : 0 ≤ x16 ∧ x16 ≤ 24) (k17 : 0 ≤ x17 ∧ x17 ≤ 24) (k22 : 0 ≤ x22 ∧ x22 ≤ 24) (k23 : 0 ≤ x23 ∧ x23 ≤ 24) (k29 : (-1) ≤ x29 ∧ x29 ≤ 71) (k30 : 0 ≤ x30 ∧ x30 ≤ 71) (k32 : 0 ≤ x32 ∧ x32 ≤ 71) (h3 : x32 = a5_0 (x15)) (h7 : x30 = a5_0 (x15)) (h9 : x29 = a5_0 (x15)) (h15 : x23 = a3_0 (x15)) (h17 : x22 = a4_0 (x15)) (h22 : x17 = a4_0 (x15)) (h24 : x16 = a3_0 (x15)) (ec2 : gc = x7) : gc = x7 := by
  first
    | omega
    | (skip; (first | subst h3 | skip); (first | subst h7 | skip); (first | subst h9 | skip); (first | subst h15 | skip); (first | subst h17 | skip); (first | subst h22 | skip); (first | subst h24 | skip); have q := ‹BLQ _ _› x15 (by omega) (by omega); omega)
set_option maxHeartbeats 4000000 in
theorem vc_Fa_uniteAt_at_Nptail_Nphead_Emblock_10_16 (x1 : Int) (x15 : Int) (x16 : Int) (x17 : Int) (x22 : Int) (x23 : Int) (x29 : Int) (x30 : Int) (x32 : Int) (a5_0 : Int → Int) (a3_0 : Int → Int) (a4_0 : Int → Int) (gd : Int) (k1 : 0 ≤ x1 ∧ x1 ≤ 33554431) (k15 : 0 ≤ x15 ∧ x15 ≤ 71) (k16 : 0 ≤ x16 ∧ x16 ≤ 24) (k17 : 0 ≤ x17 ∧ x17 ≤ 24) (k22 : 0 ≤ x22 ∧ x22 ≤ 24) (k23 : 0 ≤ x23 ∧ x23 ≤ 24) (k29 : (-1) ≤ x29 ∧ x29 ≤ 71) (k30 : 0 ≤ x30 ∧ x30 ≤ 71) (k32 : 0 ≤ x32 ∧ x32 ≤ 71) (h3 : x32 = a5_0 (x15)) (h7 : x30 = a5_0 (x15)) (h9 : x29 = a5_0 (x15)) (h15 : x23 = a3_0 (x15)) (h17 : x22 = a4_0 (x15)) (h22 : x17 = a4_0 (x15)) (h24 : x16 = a3_0 (x15)) (ed2 : gd = x1) : gd = x1 := by
  first
    | omega
    | (skip; (first | subst h3 | skip); (first | subst h7 | skip); (first | subst h9 | skip); (first | subst h15 | skip); (first | subst h17 | skip); (first | subst h22 | skip); (first | subst h24 | skip); have q := ‹BLQ _ _› x15 (by omega) (by omega); omega)
def o_Fa_uniteAt_at_Nptail_Nphead_Emblock_10 : or_T := (136, 34, [(0, (0, 0, 24, [])), (1, (0, 0, 33554431, [])), (2, (0, 1, 72, [])), (3, (2, 0, 0, [140])), (4, (2, 0, 0, [141])), (5, (2, 0, 0, [26])), (6, (2, 0, 0, [142])), (7, (0, 0, 25, [])), (8, (0, 0, 24, [])), (9, (0, 0, 33554431, [])), (10, (0, 1, 72, [])), (11, (2, 0, 0, [140])), (12, (2, 0, 0, [141])), (13, (2, 0, 0, [26])), (14, (0, 0, 71, [])), (15, (0, 0, 71, [])), (16, (0, 0, 24, [])), (17, (0, 0, 24, [])), (18, (0, 0, 33554431, [])), (19, (0, 1, 1, [])), (20, (0, 0, 0, [])), (22, (0, 0, 24, [])), (23, (0, 0, 24, [])), (24, (0, 0, 33554431, [])), (25, (0, 1, 1, [])), (26, (0, 1, 1, [])), (28, (0, -1, -1, [])), (29, (0, -1, 71, [])), (30, (0, 0, 71, [])), (31, (0, 0, 71, [])), (32, (0, 0, 71, [])), (33, (0, 0, 71, []))], [(23, [14, 33], [0, -1, 1]), (23, [32, 33], [0, -1, 1]), (20, [33, 14, 32], [50, 0, 0, 3, 6, 1, 2, 1, 0, 1, 1, 1, 2, 1, 0, 1, 2]), (10, [32, 13, 15], []), (23, [14, 31], [0, 1, -1]), (23, [30, 31], [0, 1, -1]), (20, [31, 14, 30], [50, 0, 0, 3, 6, 1, 2, 1, 0, 1, 1, 1, 2, 1, 0, 1, 2]), (10, [30, 13, 15], []), (7, [29, 14], [1]), (10, [29, 13, 15], []), (7, [14, 28], [1]), (8, [26], [1]), (12, [26, 24], [2]), (16, [26, 24, 25], [0]), (16, [24, 9, 23], [4]), (10, [23, 11, 15], []), (7, [22, 8], [0]), (10, [22, 12, 15], []), (8, [20], [0]), (12, [20, 18], [2]), (16, [20, 18, 19], [0]), (16, [18, 9, 17], [4]), (10, [17, 12, 15], []), (7, [16, 8], [0]), (10, [16, 11, 15], []), (7, [15, 10], [2]), (20, [13, 10], [61, 1, 566]), (20, [13, 11, 12, 10, 8, 14], [61, 3, 584]), (20, [13, 11, 12, 6, 7, 10, 8, 9, 14], [61, 4, 589]), (24, [0, 8], []), (24, [1, 9], []), (24, [2, 10], []), (24, [3, 11], []), (24, [4, 12], []), (24, [5, 13], [])], [], [(2, 0, 0, [140]), (2, 0, 0, [141]), (0, 0, 24, []), (2, 0, 0, [142]), (0, 0, 25, []), (0, -2147483648, 2147483647, [])], [(24, [3, 34], []), (24, [4, 35], []), (23, [36, 8], [0, 1, -1]), (23, [36, 8], [0, -1, 1]), (24, [6, 37], []), (23, [38, 7], [0, 1, -1]), (23, [38, 7], [0, -1, 1]), (23, [39, 9], [0, 1, -1]), (23, [39, 9], [0, -1, 1]), (20, [13, 10], [61, 1, 566]), (20, [33, 31], [50, 0, 0, 2, 6, 0, 2, 0, 0, 1, 0, 0, 2, 1, 0, 1, 1]), (20, [13, 34, 35, 10, 31, 33, 36], [61, 3, 581]), (20, [13, 34, 35, 37, 38, 10, 36, 39, 31, 33], [61, 4, 590]), (20, [36, 8], [50, 0, 0, 1, 2, 1, 0, 1, 1]), (20, [33], [50, 0, 0, 0, 2, 0, 0, 1, 0]), (20, [38, 7], [50, 0, 0, 1, 2, 1, 0, 1, 1]), (20, [39, 9], [50, 0, 0, 1, 2, 1, 0, 1, 1])], [], [(22, 8, 0, 0), (16, 8, 0, 0), (15, 10, -4294967296, -1), (0, 8, -4294967296, 0), (1, 9, -4294967296, 0), (2, 10, -4294967296, 0), (8, 0, -4294967296, 0), (9, 1, -4294967296, 0), (10, 2, -4294967296, 0), (14, 15, -4294967296, 70), (15, 2, -4294967296, 0), (15, 10, -4294967296, 0)])
theorem oo_Fa_uniteAt_at_Nptail_Nphead_Emblock_10 {kA : Nat → ClassId} : or_ok PRD kA GG o_Fa_uniteAt_at_Nptail_Nphead_Emblock_10 := by
  refine or_mk fun A ta ws vs hD hth hl => ?_
  intro t0 k0 t1 k1 t2 k2 t3 r3 t4 r4 t5 r5 t6 r6 t7 k7 t8 k8 t9 k9 t10 k10 t11 r11 t12 r12 t13 r13 t14 k14 t15 k15 t16 k16 t17 k17 t18 k18 t19 k19 t20 k20 t22 k22 t23 k23 t24 k24 t25 k25 t26 k26 t28 k28 t29 k29 t30 k30 t31 k31 t32 k32 t33 k33 d0 d1 d2 d3 d4 d5 d6 d7 d8 d9 d10 d11 f0 f1 f2 f3 f4 f5 f6 f7 f8 f9 f10 f11 f12 f13 f14 f15 f16 f17 f18 f19 f20 f21 f22 f23 f24 f25 f26 f27 f28 f29 f30 f31 f32 f33 f34
  replace f0 := shm_22 f0
  replace f1 := shm_22 f1
  replace f2 := shm_898 f2
  replace f3 := shm_107 f3
  replace f4 := shm_7 f4
  replace f5 := shm_7 f5
  replace f6 := shm_898 f6
  replace f7 := shm_107 f7
  replace f8 := shm_40 f8
  replace f9 := shm_107 f9
  replace f10 := shm_40 f10
  replace f11 := shm_142 f11
  replace f13 := shm_11 f13
  replace f14 := shm_13 f14
  replace f15 := shm_107 f15
  replace f17 := shm_107 f17
  replace f22 := shm_107 f22
  replace f24 := shm_107 f24
  replace f25 := shm_6 f25
  replace f26 := shm_365 f26
  replace f27 := shm_1193 f27
  replace f28 := shm_1194 f28
  replace f29 := shm_5 f29
  replace f30 := shm_5 f30
  replace f31 := shm_5 f31
  replace f32 := shm_5 f32
  replace f33 := shm_5 f33
  replace f34 := shm_5 f34
  have q8 : n_v vs 8 = n_v vs 0 := f29.symm
  have q9 : n_v vs 9 = n_v vs 1 := f30.symm
  have q10 : n_v vs 10 = n_v vs 2 := f31.symm
  have q11 : n_v vs 11 = n_v vs 3 := f32.symm
  have q12 : n_v vs 12 = n_v vs 4 := f33.symm
  have q13 : n_v vs 13 = n_v vs 5 := f34.symm
  simp only [q13, q9, q11, q8, q12, q10] at f3 f7 f9 f14 f15 f17 f22 f24 f25 f26 f27 f28
  have h3 : v_iv (n_v vs 32) = w_ei ws (v_ad (n_v vs 5)) (v_iv (n_v vs 15)) := f3
  have h7 : v_iv (n_v vs 30) = w_ei ws (v_ad (n_v vs 5)) (v_iv (n_v vs 15)) := f7
  have h9 : v_iv (n_v vs 29) = w_ei ws (v_ad (n_v vs 5)) (v_iv (n_v vs 15)) := f9
  have h15 : v_iv (n_v vs 23) = w_ei ws (v_ad (n_v vs 3)) (v_iv (n_v vs 15)) := f15
  have h17 : v_iv (n_v vs 22) = w_ei ws (v_ad (n_v vs 4)) (v_iv (n_v vs 15)) := f17
  have h22 : v_iv (n_v vs 17) = w_ei ws (v_ad (n_v vs 4)) (v_iv (n_v vs 15)) := f22
  have h24 : v_iv (n_v vs 16) = w_ei ws (v_ad (n_v vs 3)) (v_iv (n_v vs 15)) := f24
  obtain ⟨u, eu, hu⟩ := iv_ex (ta := ta) (lo := 0) (hi := 24) (z := v_iv (n_v vs 0)) (by omega) (by omega) (by omega) (by omega)
  have eu2 : v_iv (Value.int u) = v_iv (n_v vs 0) := eu
  have eu3 : 0 ≤ v_iv (Value.int u) ∧ v_iv (Value.int u) ≤ 24 := tv_rng hu
  obtain ⟨c, ec, hc⟩ := iv_ex (ta := ta) (lo := 0) (hi := 25) (z := v_iv (n_v vs 7)) (by omega) (by omega) (by omega) (by omega)
  have ec2 : v_iv (Value.int c) = v_iv (n_v vs 7) := ec
  have ec3 : 0 ≤ v_iv (Value.int c) ∧ v_iv (Value.int c) ≤ 25 := tv_rng hc
  obtain ⟨d, ed, hd⟩ := iv_ex (ta := ta) (lo := (-2147483648)) (hi := 2147483647) (z := v_iv (n_v vs 1)) (by omega) (by omega) (by omega) (by omega)
  have ed2 : v_iv (Value.int d) = v_iv (n_v vs 1) := ed
  have ed3 : (-2147483648) ≤ v_iv (Value.int d) ∧ v_iv (Value.int d) ≤ 2147483647 := tv_rng hd
  have e_3 : n_v (vs ++ [n_v vs 3, n_v vs 4, Value.int u, n_v vs 6, Value.int c, Value.int d]) 3 = n_v vs 3 := n_v_old (by rw [hl]; decide)
  have e_4 : n_v (vs ++ [n_v vs 3, n_v vs 4, Value.int u, n_v vs 6, Value.int c, Value.int d]) 4 = n_v vs 4 := n_v_old (by rw [hl]; decide)
  have e_6 : n_v (vs ++ [n_v vs 3, n_v vs 4, Value.int u, n_v vs 6, Value.int c, Value.int d]) 6 = n_v vs 6 := n_v_old (by rw [hl]; decide)
  have e_7 : n_v (vs ++ [n_v vs 3, n_v vs 4, Value.int u, n_v vs 6, Value.int c, Value.int d]) 7 = n_v vs 7 := n_v_old (by rw [hl]; decide)
  have e_8 : n_v (vs ++ [n_v vs 3, n_v vs 4, Value.int u, n_v vs 6, Value.int c, Value.int d]) 8 = n_v vs 8 := n_v_old (by rw [hl]; decide)
  have e_9 : n_v (vs ++ [n_v vs 3, n_v vs 4, Value.int u, n_v vs 6, Value.int c, Value.int d]) 9 = n_v vs 9 := n_v_old (by rw [hl]; decide)
  have e_10 : n_v (vs ++ [n_v vs 3, n_v vs 4, Value.int u, n_v vs 6, Value.int c, Value.int d]) 10 = n_v vs 10 := n_v_old (by rw [hl]; decide)
  have e_13 : n_v (vs ++ [n_v vs 3, n_v vs 4, Value.int u, n_v vs 6, Value.int c, Value.int d]) 13 = n_v vs 13 := n_v_old (by rw [hl]; decide)
  have e_31 : n_v (vs ++ [n_v vs 3, n_v vs 4, Value.int u, n_v vs 6, Value.int c, Value.int d]) 31 = n_v vs 31 := n_v_old (by rw [hl]; decide)
  have e_33 : n_v (vs ++ [n_v vs 3, n_v vs 4, Value.int u, n_v vs 6, Value.int c, Value.int d]) 33 = n_v vs 33 := n_v_old (by rw [hl]; decide)
  have e_34 : n_v (vs ++ [n_v vs 3, n_v vs 4, Value.int u, n_v vs 6, Value.int c, Value.int d]) 34 = n_v vs 3 := n_v_newk (k := 0) hl rfl
  have e_35 : n_v (vs ++ [n_v vs 3, n_v vs 4, Value.int u, n_v vs 6, Value.int c, Value.int d]) 35 = n_v vs 4 := n_v_newk (k := 1) hl rfl
  have e_36 : n_v (vs ++ [n_v vs 3, n_v vs 4, Value.int u, n_v vs 6, Value.int c, Value.int d]) 36 = Value.int u := n_v_newk (k := 2) hl rfl
  have e_37 : n_v (vs ++ [n_v vs 3, n_v vs 4, Value.int u, n_v vs 6, Value.int c, Value.int d]) 37 = n_v vs 6 := n_v_newk (k := 3) hl rfl
  have e_38 : n_v (vs ++ [n_v vs 3, n_v vs 4, Value.int u, n_v vs 6, Value.int c, Value.int d]) 38 = Value.int c := n_v_newk (k := 4) hl rfl
  have e_39 : n_v (vs ++ [n_v vs 3, n_v vs 4, Value.int u, n_v vs 6, Value.int c, Value.int d]) 39 = Value.int d := n_v_newk (k := 5) hl rfl
  have nf0 : fc_1 PRD (24, [3, 34], []) ws (vs ++ [n_v vs 3, n_v vs 4, Value.int u, n_v vs 6, Value.int c, Value.int d]) := by
    refine ⟨nf_inA hl rfl, sgq_5 ?_⟩
    · show n_v (vs ++ [n_v vs 3, n_v vs 4, Value.int u, n_v vs 6, Value.int c, Value.int d]) 3 = n_v (vs ++ [n_v vs 3, n_v vs 4, Value.int u, n_v vs 6, Value.int c, Value.int d]) 34
      first | rfl | simp only [e_3, e_34, q8, q9, q10, q11, q12, q13]
  have nf1 : fc_1 PRD (24, [4, 35], []) ws (vs ++ [n_v vs 3, n_v vs 4, Value.int u, n_v vs 6, Value.int c, Value.int d]) := by
    refine ⟨nf_inA hl rfl, sgq_5 ?_⟩
    · show n_v (vs ++ [n_v vs 3, n_v vs 4, Value.int u, n_v vs 6, Value.int c, Value.int d]) 4 = n_v (vs ++ [n_v vs 3, n_v vs 4, Value.int u, n_v vs 6, Value.int c, Value.int d]) 35
      first | rfl | simp only [e_4, e_35, q8, q9, q10, q11, q12, q13]
  have nf2 : fc_1 PRD (23, [36, 8], [0, 1, -1]) ws (vs ++ [n_v vs 3, n_v vs 4, Value.int u, n_v vs 6, Value.int c, Value.int d]) := by
    refine ⟨nf_inA hl rfl, sgq_7 ?_⟩
    · show 1 * v_iv (n_v (vs ++ [n_v vs 3, n_v vs 4, Value.int u, n_v vs 6, Value.int c, Value.int d]) 36) + ((-1) * v_iv (n_v (vs ++ [n_v vs 3, n_v vs 4, Value.int u, n_v vs 6, Value.int c, Value.int d]) 8) + 0) ≤ 0
      simp only [e_8, e_36, q8]
      exact vc_Fa_uniteAt_at_Nptail_Nphead_Emblock_10_2 (v_iv (n_v vs 0)) (v_iv (n_v vs 8)) (v_iv (n_v vs 15)) (v_iv (n_v vs 16)) (v_iv (n_v vs 17)) (v_iv (n_v vs 22)) (v_iv (n_v vs 23)) (v_iv (n_v vs 29)) (v_iv (n_v vs 30)) (v_iv (n_v vs 32)) (w_ei ws (v_ad (n_v vs 5))) (w_ei ws (v_ad (n_v vs 3))) (w_ei ws (v_ad (n_v vs 4))) (v_iv (Value.int u)) k0 k8 k15 k16 k17 k22 k23 k29 k30 k32 d0 d3 d6 h3 h7 h9 h15 h17 h22 h24 eu2
  have nf3 : fc_1 PRD (23, [36, 8], [0, -1, 1]) ws (vs ++ [n_v vs 3, n_v vs 4, Value.int u, n_v vs 6, Value.int c, Value.int d]) := by
    refine ⟨nf_inA hl rfl, sgq_22 ?_⟩
    · show (-1) * v_iv (n_v (vs ++ [n_v vs 3, n_v vs 4, Value.int u, n_v vs 6, Value.int c, Value.int d]) 36) + (1 * v_iv (n_v (vs ++ [n_v vs 3, n_v vs 4, Value.int u, n_v vs 6, Value.int c, Value.int d]) 8) + 0) ≤ 0
      simp only [e_8, e_36, q8]
      exact vc_Fa_uniteAt_at_Nptail_Nphead_Emblock_10_3 (v_iv (n_v vs 0)) (v_iv (n_v vs 8)) (v_iv (n_v vs 15)) (v_iv (n_v vs 16)) (v_iv (n_v vs 17)) (v_iv (n_v vs 22)) (v_iv (n_v vs 23)) (v_iv (n_v vs 29)) (v_iv (n_v vs 30)) (v_iv (n_v vs 32)) (w_ei ws (v_ad (n_v vs 5))) (w_ei ws (v_ad (n_v vs 3))) (w_ei ws (v_ad (n_v vs 4))) (v_iv (Value.int u)) k0 k8 k15 k16 k17 k22 k23 k29 k30 k32 d0 d3 d6 h3 h7 h9 h15 h17 h22 h24 eu2
  have nf4 : fc_1 PRD (24, [6, 37], []) ws (vs ++ [n_v vs 3, n_v vs 4, Value.int u, n_v vs 6, Value.int c, Value.int d]) := by
    refine ⟨nf_inA hl rfl, sgq_5 ?_⟩
    · show n_v (vs ++ [n_v vs 3, n_v vs 4, Value.int u, n_v vs 6, Value.int c, Value.int d]) 6 = n_v (vs ++ [n_v vs 3, n_v vs 4, Value.int u, n_v vs 6, Value.int c, Value.int d]) 37
      first | rfl | simp only [e_6, e_37, q8, q9, q10, q11, q12, q13]
  have nf5 : fc_1 PRD (23, [38, 7], [0, 1, -1]) ws (vs ++ [n_v vs 3, n_v vs 4, Value.int u, n_v vs 6, Value.int c, Value.int d]) := by
    refine ⟨nf_inA hl rfl, sgq_7 ?_⟩
    · show 1 * v_iv (n_v (vs ++ [n_v vs 3, n_v vs 4, Value.int u, n_v vs 6, Value.int c, Value.int d]) 38) + ((-1) * v_iv (n_v (vs ++ [n_v vs 3, n_v vs 4, Value.int u, n_v vs 6, Value.int c, Value.int d]) 7) + 0) ≤ 0
      simp only [e_7, e_38]
      exact vc_Fa_uniteAt_at_Nptail_Nphead_Emblock_10_5 (v_iv (n_v vs 7)) (v_iv (n_v vs 15)) (v_iv (n_v vs 16)) (v_iv (n_v vs 17)) (v_iv (n_v vs 22)) (v_iv (n_v vs 23)) (v_iv (n_v vs 29)) (v_iv (n_v vs 30)) (v_iv (n_v vs 32)) (w_ei ws (v_ad (n_v vs 5))) (w_ei ws (v_ad (n_v vs 3))) (w_ei ws (v_ad (n_v vs 4))) (v_iv (Value.int c)) k7 k15 k16 k17 k22 k23 k29 k30 k32 h3 h7 h9 h15 h17 h22 h24 ec2
  have nf6 : fc_1 PRD (23, [38, 7], [0, -1, 1]) ws (vs ++ [n_v vs 3, n_v vs 4, Value.int u, n_v vs 6, Value.int c, Value.int d]) := by
    refine ⟨nf_inA hl rfl, sgq_22 ?_⟩
    · show (-1) * v_iv (n_v (vs ++ [n_v vs 3, n_v vs 4, Value.int u, n_v vs 6, Value.int c, Value.int d]) 38) + (1 * v_iv (n_v (vs ++ [n_v vs 3, n_v vs 4, Value.int u, n_v vs 6, Value.int c, Value.int d]) 7) + 0) ≤ 0
      simp only [e_7, e_38]
      exact vc_Fa_uniteAt_at_Nptail_Nphead_Emblock_10_6 (v_iv (n_v vs 7)) (v_iv (n_v vs 15)) (v_iv (n_v vs 16)) (v_iv (n_v vs 17)) (v_iv (n_v vs 22)) (v_iv (n_v vs 23)) (v_iv (n_v vs 29)) (v_iv (n_v vs 30)) (v_iv (n_v vs 32)) (w_ei ws (v_ad (n_v vs 5))) (w_ei ws (v_ad (n_v vs 3))) (w_ei ws (v_ad (n_v vs 4))) (v_iv (Value.int c)) k7 k15 k16 k17 k22 k23 k29 k30 k32 h3 h7 h9 h15 h17 h22 h24 ec2
  have nf7 : fc_1 PRD (23, [39, 9], [0, 1, -1]) ws (vs ++ [n_v vs 3, n_v vs 4, Value.int u, n_v vs 6, Value.int c, Value.int d]) := by
    refine ⟨nf_inA hl rfl, sgq_7 ?_⟩
    · show 1 * v_iv (n_v (vs ++ [n_v vs 3, n_v vs 4, Value.int u, n_v vs 6, Value.int c, Value.int d]) 39) + ((-1) * v_iv (n_v (vs ++ [n_v vs 3, n_v vs 4, Value.int u, n_v vs 6, Value.int c, Value.int d]) 9) + 0) ≤ 0
      simp only [e_9, e_39, q9]
      exact vc_Fa_uniteAt_at_Nptail_Nphead_Emblock_10_7 (v_iv (n_v vs 1)) (v_iv (n_v vs 9)) (v_iv (n_v vs 15)) (v_iv (n_v vs 16)) (v_iv (n_v vs 17)) (v_iv (n_v vs 22)) (v_iv (n_v vs 23)) (v_iv (n_v vs 29)) (v_iv (n_v vs 30)) (v_iv (n_v vs 32)) (w_ei ws (v_ad (n_v vs 5))) (w_ei ws (v_ad (n_v vs 3))) (w_ei ws (v_ad (n_v vs 4))) (v_iv (Value.int d)) k1 k9 k15 k16 k17 k22 k23 k29 k30 k32 d4 d7 h3 h7 h9 h15 h17 h22 h24 ed2
  have nf8 : fc_1 PRD (23, [39, 9], [0, -1, 1]) ws (vs ++ [n_v vs 3, n_v vs 4, Value.int u, n_v vs 6, Value.int c, Value.int d]) := by
    refine ⟨nf_inA hl rfl, sgq_22 ?_⟩
    · show (-1) * v_iv (n_v (vs ++ [n_v vs 3, n_v vs 4, Value.int u, n_v vs 6, Value.int c, Value.int d]) 39) + (1 * v_iv (n_v (vs ++ [n_v vs 3, n_v vs 4, Value.int u, n_v vs 6, Value.int c, Value.int d]) 9) + 0) ≤ 0
      simp only [e_9, e_39, q9]
      exact vc_Fa_uniteAt_at_Nptail_Nphead_Emblock_10_8 (v_iv (n_v vs 1)) (v_iv (n_v vs 9)) (v_iv (n_v vs 15)) (v_iv (n_v vs 16)) (v_iv (n_v vs 17)) (v_iv (n_v vs 22)) (v_iv (n_v vs 23)) (v_iv (n_v vs 29)) (v_iv (n_v vs 30)) (v_iv (n_v vs 32)) (w_ei ws (v_ad (n_v vs 5))) (w_ei ws (v_ad (n_v vs 3))) (w_ei ws (v_ad (n_v vs 4))) (v_iv (Value.int d)) k1 k9 k15 k16 k17 k22 k23 k29 k30 k32 d4 d7 h3 h7 h9 h15 h17 h22 h24 ed2
  have nf9 : fc_1 PRD (20, [13, 10], [61, 1, 566]) ws (vs ++ [n_v vs 3, n_v vs 4, Value.int u, n_v vs 6, Value.int c, Value.int d]) := by
    refine ⟨nf_inA hl rfl, sgq_365 ?_⟩
    · show BLQ (w_ei ws (v_ad (n_v (vs ++ [n_v vs 3, n_v vs 4, Value.int u, n_v vs 6, Value.int c, Value.int d]) 13))) (v_iv (n_v (vs ++ [n_v vs 3, n_v vs 4, Value.int u, n_v vs 6, Value.int c, Value.int d]) 10))
      simp only [e_10, e_13, q10, q13]
      exact vc_Fa_uniteAt_at_Nptail_Nphead_Emblock_10_9 (v_iv (n_v vs 2)) (w_ei ws (v_ad (n_v vs 5))) k2 f26
  have nf10 : fc_1 PRD (20, [33, 31], [50, 0, 0, 2, 6, 0, 2, 0, 0, 1, 0, 0, 2, 1, 0, 1, 1]) ws (vs ++ [n_v vs 3, n_v vs 4, Value.int u, n_v vs 6, Value.int c, Value.int d]) := by
    refine ⟨nf_inA hl rfl, sgq_366 ?_⟩
    · show (0 ≤ v_iv (n_v (vs ++ [n_v vs 3, n_v vs 4, Value.int u, n_v vs 6, Value.int c, Value.int d]) 33)) ∧ (v_iv (n_v (vs ++ [n_v vs 3, n_v vs 4, Value.int u, n_v vs 6, Value.int c, Value.int d]) 33) ≤ v_iv (n_v (vs ++ [n_v vs 3, n_v vs 4, Value.int u, n_v vs 6, Value.int c, Value.int d]) 31))
      simp only [e_31, e_33]
      exact vc_Fa_uniteAt_at_Nptail_Nphead_Emblock_10_10 (v_iv (n_v vs 15)) (v_iv (n_v vs 16)) (v_iv (n_v vs 17)) (v_iv (n_v vs 22)) (v_iv (n_v vs 23)) (v_iv (n_v vs 29)) (v_iv (n_v vs 30)) (v_iv (n_v vs 31)) (v_iv (n_v vs 32)) (v_iv (n_v vs 33)) (w_ei ws (v_ad (n_v vs 5))) (w_ei ws (v_ad (n_v vs 3))) (w_ei ws (v_ad (n_v vs 4))) k15 k16 k17 k22 k23 k29 k30 k31 k32 k33 f1 h3 f5 h7 h9 h15 h17 h22 h24
  have nf11 : fc_1 PRD (20, [13, 34, 35, 10, 31, 33, 36], [61, 3, 581]) ws (vs ++ [n_v vs 3, n_v vs 4, Value.int u, n_v vs 6, Value.int c, Value.int d]) := by
    refine ⟨nf_inA hl rfl, sgq_367 ?_⟩
    · show RLP (w_ei ws (v_ad (n_v (vs ++ [n_v vs 3, n_v vs 4, Value.int u, n_v vs 6, Value.int c, Value.int d]) 13))) (w_ei ws (v_ad (n_v (vs ++ [n_v vs 3, n_v vs 4, Value.int u, n_v vs 6, Value.int c, Value.int d]) 34))) (w_ei ws (v_ad (n_v (vs ++ [n_v vs 3, n_v vs 4, Value.int u, n_v vs 6, Value.int c, Value.int d]) 35))) (v_iv (n_v (vs ++ [n_v vs 3, n_v vs 4, Value.int u, n_v vs 6, Value.int c, Value.int d]) 10)) (v_iv (n_v (vs ++ [n_v vs 3, n_v vs 4, Value.int u, n_v vs 6, Value.int c, Value.int d]) 31)) (v_iv (n_v (vs ++ [n_v vs 3, n_v vs 4, Value.int u, n_v vs 6, Value.int c, Value.int d]) 33)) (v_iv (n_v (vs ++ [n_v vs 3, n_v vs 4, Value.int u, n_v vs 6, Value.int c, Value.int d]) 36))
      simp only [e_10, e_13, e_31, e_33, e_34, e_35, e_36, q10, q13]
      exact vc_Fa_uniteAt_at_Nptail_Nphead_Emblock_10_11 (v_iv (n_v vs 0)) (v_iv (n_v vs 2)) (v_iv (n_v vs 8)) (v_iv (n_v vs 14)) (v_iv (n_v vs 15)) (v_iv (n_v vs 16)) (v_iv (n_v vs 22)) (v_iv (n_v vs 26)) (v_iv (n_v vs 28)) (v_iv (n_v vs 29)) (v_iv (n_v vs 30)) (v_iv (n_v vs 31)) (v_iv (n_v vs 32)) (v_iv (n_v vs 33)) (w_ei ws (v_ad (n_v vs 5))) (w_ei ws (v_ad (n_v vs 3))) (w_ei ws (v_ad (n_v vs 4))) (v_iv (Value.int u)) k0 k2 k8 k14 k15 k16 k22 k26 k28 k29 k30 k31 k32 k33 d0 d1 d3 d6 f0 f1 f2 h3 f4 f5 f6 h7 f8 h9 f10 f11 h17 h24 f25 f27 eu2
  have nf12 : fc_1 PRD (20, [13, 34, 35, 37, 38, 10, 36, 39, 31, 33], [61, 4, 590]) ws (vs ++ [n_v vs 3, n_v vs 4, Value.int u, n_v vs 6, Value.int c, Value.int d]) := by
    refine ⟨nf_inA hl rfl, sgq_368 ?_⟩
    · show QKP (w_ei ws (v_ad (n_v (vs ++ [n_v vs 3, n_v vs 4, Value.int u, n_v vs 6, Value.int c, Value.int d]) 13))) (w_ei ws (v_ad (n_v (vs ++ [n_v vs 3, n_v vs 4, Value.int u, n_v vs 6, Value.int c, Value.int d]) 34))) (w_ei ws (v_ad (n_v (vs ++ [n_v vs 3, n_v vs 4, Value.int u, n_v vs 6, Value.int c, Value.int d]) 35))) (w_ei ws (v_ad (n_v (vs ++ [n_v vs 3, n_v vs 4, Value.int u, n_v vs 6, Value.int c, Value.int d]) 37))) (v_iv (n_v (vs ++ [n_v vs 3, n_v vs 4, Value.int u, n_v vs 6, Value.int c, Value.int d]) 38)) (v_iv (n_v (vs ++ [n_v vs 3, n_v vs 4, Value.int u, n_v vs 6, Value.int c, Value.int d]) 10)) (v_iv (n_v (vs ++ [n_v vs 3, n_v vs 4, Value.int u, n_v vs 6, Value.int c, Value.int d]) 36)) (v_iv (n_v (vs ++ [n_v vs 3, n_v vs 4, Value.int u, n_v vs 6, Value.int c, Value.int d]) 39)) (v_iv (n_v (vs ++ [n_v vs 3, n_v vs 4, Value.int u, n_v vs 6, Value.int c, Value.int d]) 31)) (v_iv (n_v (vs ++ [n_v vs 3, n_v vs 4, Value.int u, n_v vs 6, Value.int c, Value.int d]) 33))
      simp only [e_10, e_13, e_31, e_33, e_34, e_35, e_36, e_37, e_38, e_39, q10, q13]
      exact vc_Fa_uniteAt_at_Nptail_Nphead_Emblock_10_12 (v_iv (n_v vs 0)) (v_iv (n_v vs 1)) (v_iv (n_v vs 2)) (v_iv (n_v vs 7)) (v_iv (n_v vs 8)) (v_iv (n_v vs 14)) (v_iv (n_v vs 15)) (v_iv (n_v vs 16)) (v_iv (n_v vs 17)) (v_iv (n_v vs 18)) (v_iv (n_v vs 19)) (v_iv (n_v vs 20)) (v_iv (n_v vs 22)) (v_iv (n_v vs 23)) (v_iv (n_v vs 24)) (v_iv (n_v vs 25)) (v_iv (n_v vs 26)) (v_iv (n_v vs 28)) (v_iv (n_v vs 29)) (v_iv (n_v vs 30)) (v_iv (n_v vs 31)) (v_iv (n_v vs 32)) (v_iv (n_v vs 33)) (w_ei ws (v_ad (n_v vs 5))) (w_ei ws (v_ad (n_v vs 3))) (w_ei ws (v_ad (n_v vs 4))) (w_ei ws (v_ad (n_v vs 6))) (v_iv (Value.int u)) (v_iv (Value.int c)) (v_iv (Value.int d)) k0 k1 k2 k7 k8 k14 k15 k16 k22 k23 k24 k25 k26 k28 k29 k30 k31 k32 k33 d0 d1 d3 d6 f0 f1 f2 h3 f4 f5 f6 h7 f8 h9 f10 f11 f13 f14 h15 h17 h24 f25 f28 eu2 ec2 ed2
  have nf13 : fc_1 PRD (20, [36, 8], [50, 0, 0, 1, 2, 1, 0, 1, 1]) ws (vs ++ [n_v vs 3, n_v vs 4, Value.int u, n_v vs 6, Value.int c, Value.int d]) := by
    refine ⟨nf_inA hl rfl, sgq_48 ?_⟩
    · show v_iv (n_v (vs ++ [n_v vs 3, n_v vs 4, Value.int u, n_v vs 6, Value.int c, Value.int d]) 36) = v_iv (n_v (vs ++ [n_v vs 3, n_v vs 4, Value.int u, n_v vs 6, Value.int c, Value.int d]) 8)
      simp only [e_8, e_36, q8]
      exact vc_Fa_uniteAt_at_Nptail_Nphead_Emblock_10_13 (v_iv (n_v vs 0)) (v_iv (n_v vs 15)) (v_iv (n_v vs 16)) (v_iv (n_v vs 17)) (v_iv (n_v vs 22)) (v_iv (n_v vs 23)) (v_iv (n_v vs 29)) (v_iv (n_v vs 30)) (v_iv (n_v vs 32)) (w_ei ws (v_ad (n_v vs 5))) (w_ei ws (v_ad (n_v vs 3))) (w_ei ws (v_ad (n_v vs 4))) (v_iv (Value.int u)) k0 k15 k16 k17 k22 k23 k29 k30 k32 h3 h7 h9 h15 h17 h22 h24 eu2
  have nf14 : fc_1 PRD (20, [33], [50, 0, 0, 0, 2, 0, 0, 1, 0]) ws (vs ++ [n_v vs 3, n_v vs 4, Value.int u, n_v vs 6, Value.int c, Value.int d]) := by
    refine ⟨nf_inA hl rfl, sgq_722 ?_⟩
    · show 0 ≤ v_iv (n_v (vs ++ [n_v vs 3, n_v vs 4, Value.int u, n_v vs 6, Value.int c, Value.int d]) 33)
      rw [e_33]
      exact vc_Fa_uniteAt_at_Nptail_Nphead_Emblock_10_14 (v_iv (n_v vs 15)) (v_iv (n_v vs 16)) (v_iv (n_v vs 17)) (v_iv (n_v vs 22)) (v_iv (n_v vs 23)) (v_iv (n_v vs 29)) (v_iv (n_v vs 30)) (v_iv (n_v vs 32)) (v_iv (n_v vs 33)) (w_ei ws (v_ad (n_v vs 5))) (w_ei ws (v_ad (n_v vs 3))) (w_ei ws (v_ad (n_v vs 4))) k15 k16 k17 k22 k23 k29 k30 k32 k33 h3 h7 h9 h15 h17 h22 h24
  have nf15 : fc_1 PRD (20, [38, 7], [50, 0, 0, 1, 2, 1, 0, 1, 1]) ws (vs ++ [n_v vs 3, n_v vs 4, Value.int u, n_v vs 6, Value.int c, Value.int d]) := by
    refine ⟨nf_inA hl rfl, sgq_48 ?_⟩
    · show v_iv (n_v (vs ++ [n_v vs 3, n_v vs 4, Value.int u, n_v vs 6, Value.int c, Value.int d]) 38) = v_iv (n_v (vs ++ [n_v vs 3, n_v vs 4, Value.int u, n_v vs 6, Value.int c, Value.int d]) 7)
      simp only [e_7, e_38]
      exact vc_Fa_uniteAt_at_Nptail_Nphead_Emblock_10_15 (v_iv (n_v vs 7)) (v_iv (n_v vs 15)) (v_iv (n_v vs 16)) (v_iv (n_v vs 17)) (v_iv (n_v vs 22)) (v_iv (n_v vs 23)) (v_iv (n_v vs 29)) (v_iv (n_v vs 30)) (v_iv (n_v vs 32)) (w_ei ws (v_ad (n_v vs 5))) (w_ei ws (v_ad (n_v vs 3))) (w_ei ws (v_ad (n_v vs 4))) (v_iv (Value.int c)) k7 k15 k16 k17 k22 k23 k29 k30 k32 h3 h7 h9 h15 h17 h22 h24 ec2
  have nf16 : fc_1 PRD (20, [39, 9], [50, 0, 0, 1, 2, 1, 0, 1, 1]) ws (vs ++ [n_v vs 3, n_v vs 4, Value.int u, n_v vs 6, Value.int c, Value.int d]) := by
    refine ⟨nf_inA hl rfl, sgq_48 ?_⟩
    · show v_iv (n_v (vs ++ [n_v vs 3, n_v vs 4, Value.int u, n_v vs 6, Value.int c, Value.int d]) 39) = v_iv (n_v (vs ++ [n_v vs 3, n_v vs 4, Value.int u, n_v vs 6, Value.int c, Value.int d]) 9)
      simp only [e_9, e_39, q9]
      exact vc_Fa_uniteAt_at_Nptail_Nphead_Emblock_10_16 (v_iv (n_v vs 1)) (v_iv (n_v vs 15)) (v_iv (n_v vs 16)) (v_iv (n_v vs 17)) (v_iv (n_v vs 22)) (v_iv (n_v vs 23)) (v_iv (n_v vs 29)) (v_iv (n_v vs 30)) (v_iv (n_v vs 32)) (w_ei ws (v_ad (n_v vs 5))) (w_ei ws (v_ad (n_v vs 3))) (w_ei ws (v_ad (n_v vs 4))) (v_iv (Value.int d)) k1 k15 k16 k17 k22 k23 k29 k30 k32 h3 h7 h9 h15 h17 h22 h24 ed2
  exact ⟨(fun _ h => (by cases h)), [n_v vs 3, n_v vs 4, Value.int u, n_v vs 6, Value.int c, Value.int d], ag_six t3 t4 hu t6 hc hd, List.forall_mem_cons.mpr ⟨⟨show (24 : Nat) < 100 from by decide, nf0⟩, List.forall_mem_cons.mpr ⟨⟨show (24 : Nat) < 100 from by decide, nf1⟩, List.forall_mem_cons.mpr ⟨⟨show (23 : Nat) < 100 from by decide, nf2⟩, List.forall_mem_cons.mpr ⟨⟨show (23 : Nat) < 100 from by decide, nf3⟩, List.forall_mem_cons.mpr ⟨⟨show (24 : Nat) < 100 from by decide, nf4⟩, List.forall_mem_cons.mpr ⟨⟨show (23 : Nat) < 100 from by decide, nf5⟩, List.forall_mem_cons.mpr ⟨⟨show (23 : Nat) < 100 from by decide, nf6⟩, List.forall_mem_cons.mpr ⟨⟨show (23 : Nat) < 100 from by decide, nf7⟩, List.forall_mem_cons.mpr ⟨⟨show (23 : Nat) < 100 from by decide, nf8⟩, List.forall_mem_cons.mpr ⟨⟨show (20 : Nat) < 100 from by decide, nf9⟩, List.forall_mem_cons.mpr ⟨⟨show (20 : Nat) < 100 from by decide, nf10⟩, List.forall_mem_cons.mpr ⟨⟨show (20 : Nat) < 100 from by decide, nf11⟩, List.forall_mem_cons.mpr ⟨⟨show (20 : Nat) < 100 from by decide, nf12⟩, List.forall_mem_cons.mpr ⟨⟨show (20 : Nat) < 100 from by decide, nf13⟩, List.forall_mem_cons.mpr ⟨⟨show (20 : Nat) < 100 from by decide, nf14⟩, List.forall_mem_cons.mpr ⟨⟨show (20 : Nat) < 100 from by decide, nf15⟩, List.forall_mem_cons.mpr ⟨⟨show (20 : Nat) < 100 from by decide, nf16⟩, (fun _ h => (by cases h))⟩⟩⟩⟩⟩⟩⟩⟩⟩⟩⟩⟩⟩⟩⟩⟩⟩, (fun _ h => (by cases h))⟩
set_option maxHeartbeats 4000000 in
theorem vc_Fa_uniteAt_at_Nptail_Nphead_Emblock_11_0 (x0 : Int) (x2 : Int) (x8 : Int) (x15 : Int) (x22 : Int) (x30 : Int) (x32 : Int) (x33 : Int) (x36 : Int) (a5_0 : Int → Int) (a3_0 : Int → Int) (a4_0 : Int → Int) (k0 : 0 ≤ x0 ∧ x0 ≤ 24) (k2 : 1 ≤ x2 ∧ x2 ≤ 72) (k8 : 0 ≤ x8 ∧ x8 ≤ 24) (k22 : 0 ≤ x22 ∧ x22 ≤ 24) (k33 : 0 ≤ x33 ∧ x33 ≤ 71) (k36 : 0 ≤ x36 ∧ x36 ≤ 24) (d4 : x8 + 0 ≤ x22 ∧ x22 ≤ x8 + 0) (d7 : x8 + (-4294967296) ≤ x0 ∧ x0 ≤ x8 + 0) (d10 : x0 + (-4294967296) ≤ x8 ∧ x8 ≤ x0 + 0) (f3 : 1 * x36 + ((-1) * x0 + 0) ≤ 0) (f4 : (-1) * x36 + (1 * x0 + 0) ≤ 0) (f12 : 0 ≤ x33) (f28 : RLO (a5_0) (a3_0) (a4_0) (x2) (x33) (x36)) : UNI (a5_0) (a3_0) (a4_0) (x2) (x0) (x33) := by
  first
    | (have q := (‹RLO _ _ _ _ _ _›); have h1 := uni_back q (by omega); rw [show x0 = x32 by omega]; exact h1)
    | (have q := (‹RLO _ _ _ _ _ _›); have h1 := uni_back q (by omega); rw [show x0 = x36 by omega]; exact h1)
    | (have q := (‹RLO _ _ _ _ _ _›); have h1 := uni_back q (by omega); rw [show x0 = x30 by omega]; exact h1)
set_option maxHeartbeats 4000000 in
theorem vc_Fa_uniteAt_at_Nptail_Nphead_Emblock_11_1 (x0 : Int) (x1 : Int) (x2 : Int) (x7 : Int) (x8 : Int) (x9 : Int) (x15 : Int) (x22 : Int) (x30 : Int) (x32 : Int) (x33 : Int) (x36 : Int) (x38 : Int) (x39 : Int) (a5_0 : Int → Int) (a3_0 : Int → Int) (a4_0 : Int → Int) (a6_0 : Int → Int) (k0 : 0 ≤ x0 ∧ x0 ≤ 24) (k1 : 0 ≤ x1 ∧ x1 ≤ 33554431) (k2 : 1 ≤ x2 ∧ x2 ≤ 72) (k7 : 0 ≤ x7 ∧ x7 ≤ 25) (k8 : 0 ≤ x8 ∧ x8 ≤ 24) (k9 : 0 ≤ x9 ∧ x9 ≤ 33554431) (k22 : 0 ≤ x22 ∧ x22 ≤ 24) (k33 : 0 ≤ x33 ∧ x33 ≤ 71) (k36 : 0 ≤ x36 ∧ x36 ≤ 24) (k38 : 0 ≤ x38 ∧ x38 ≤ 25) (k39 : (-2147483648) ≤ x39 ∧ x39 ≤ 2147483647) (d4 : x8 + 0 ≤ x22 ∧ x22 ≤ x8 + 0) (d7 : x8 + (-4294967296) ≤ x0 ∧ x0 ≤ x8 + 0) (d8 : x9 + (-4294967296) ≤ x1 ∧ x1 ≤ x9 + 0) (d10 : x0 + (-4294967296) ≤ x8 ∧ x8 ≤ x0 + 0) (d11 : x1 + (-4294967296) ≤ x9 ∧ x9 ≤ x1 + 0) (f3 : 1 * x36 + ((-1) * x0 + 0) ≤ 0) (f4 : (-1) * x36 + (1 * x0 + 0) ≤ 0) (f6 : 1 * x38 + ((-1) * x7 + 0) ≤ 0) (f7 : (-1) * x38 + (1 * x7 + 0) ≤ 0) (f8 : 1 * x39 + ((-1) * x1 + 0) ≤ 0) (f9 : (-1) * x39 + (1 * x1 + 0) ≤ 0) (f29 : QKO (a5_0) (a3_0) (a4_0) (a6_0) (x38) (x2) (x36) (x39) (x33)) : UN2 (a5_0) (a3_0) (a4_0) (a6_0) (x7) (x2) (x0) (x1) (x33) := by
  first
    | (have h1 := un2_back ‹QKO _ _ _ _ _ _ _ _ _›; rw [show x0 = x32 by omega, show x7 = x34 by omega, show x1 = x35 by omega]; exact h1)
    | (have h1 := un2_back ‹QKO _ _ _ _ _ _ _ _ _›; rw [show x0 = x36 by omega, show x7 = x38 by omega, show x1 = x39 by omega]; exact h1)
    | (have h1 := un2_back ‹QKO _ _ _ _ _ _ _ _ _›; rw [show x0 = x30 by omega, show x7 = x32 by omega, show x1 = x33 by omega]; exact h1)
def o_Fa_uniteAt_at_Nptail_Nphead_Emblock_11 : or_T := (6, 41, [(0, (0, 0, 24, [])), (1, (0, 0, 33554431, [])), (2, (0, 1, 72, [])), (7, (0, 0, 25, [])), (8, (0, 0, 24, [])), (9, (0, 0, 33554431, [])), (22, (0, 0, 24, [])), (33, (0, 0, 71, [])), (36, (0, 0, 24, [])), (38, (0, 0, 25, [])), (39, (0, -2147483648, 2147483647, []))], [(24, [3, 34], []), (24, [4, 35], []), (23, [36, 8], [0, 1, -1]), (23, [36, 8], [0, -1, 1]), (24, [6, 37], []), (23, [38, 7], [0, 1, -1]), (23, [38, 7], [0, -1, 1]), (23, [39, 9], [0, 1, -1]), (23, [39, 9], [0, -1, 1]), (20, [33], [50, 0, 0, 0, 2, 0, 0, 1, 0]), (24, [0, 8], []), (24, [1, 9], []), (24, [2, 10], []), (24, [3, 11], []), (24, [4, 12], []), (24, [5, 13], []), (20, [13, 34, 35, 10, 33, 36], [61, 3, 583]), (20, [13, 34, 35, 37, 38, 10, 36, 39, 33], [61, 4, 592])], [], [], [(20, [13, 11, 12, 10, 8, 33], [61, 3, 584]), (20, [13, 11, 12, 6, 7, 10, 8, 9, 33], [61, 4, 589])], [], [(22, 8, 0, 0), (0, 8, -4294967296, 0), (1, 9, -4294967296, 0), (8, 0, -4294967296, 0), (9, 1, -4294967296, 0)])
theorem oo_Fa_uniteAt_at_Nptail_Nphead_Emblock_11 {kA : Nat → ClassId} : or_ok PRD kA GG o_Fa_uniteAt_at_Nptail_Nphead_Emblock_11 := by
  refine or_mk fun A ta ws vs hD hth hl => ?_
  intro t0 k0 t1 k1 t2 k2 t7 k7 t8 k8 t9 k9 t22 k22 t33 k33 t36 k36 t38 k38 t39 k39 d4 d7 d8 d10 d11 f1 f2 f3 f4 f5 f6 f7 f8 f9 f12 f21 f22 f23 f24 f25 f26 f28 f29
  replace f1 := shm_5 f1
  replace f2 := shm_5 f2
  replace f3 := shm_7 f3
  replace f4 := shm_22 f4
  replace f5 := shm_5 f5
  replace f6 := shm_7 f6
  replace f7 := shm_22 f7
  replace f8 := shm_7 f8
  replace f9 := shm_22 f9
  replace f12 := shm_722 f12
  replace f21 := shm_5 f21
  replace f22 := shm_5 f22
  replace f23 := shm_5 f23
  replace f24 := shm_5 f24
  replace f25 := shm_5 f25
  replace f26 := shm_5 f26
  replace f28 := shm_371 f28
  replace f29 := shm_372 f29
  have q34 : n_v vs 34 = n_v vs 3 := f1.symm
  have q35 : n_v vs 35 = n_v vs 4 := f2.symm
  have q37 : n_v vs 37 = n_v vs 6 := f5.symm
  have q8 : n_v vs 8 = n_v vs 0 := f21.symm
  have q9 : n_v vs 9 = n_v vs 1 := f22.symm
  have q10 : n_v vs 10 = n_v vs 2 := f23.symm
  have q11 : n_v vs 11 = n_v vs 3 := f24.symm
  have q12 : n_v vs 12 = n_v vs 4 := f25.symm
  have q13 : n_v vs 13 = n_v vs 5 := f26.symm
  simp only [q8, q9, q10, q13, q34, q35, q37] at f3 f4 f8 f9 f28 f29
  have nf0 : fc_1 PRD (20, [13, 11, 12, 10, 8, 33], [61, 3, 584]) ws (vs) := by
    refine ⟨nf_in hl rfl, sgq_1193 ?_⟩
    · show UNI (w_ei ws (v_ad (n_v vs 13))) (w_ei ws (v_ad (n_v vs 11))) (w_ei ws (v_ad (n_v vs 12))) (v_iv (n_v vs 10)) (v_iv (n_v vs 8)) (v_iv (n_v vs 33))
      simp only [q8, q10, q11, q12, q13]
      exact vc_Fa_uniteAt_at_Nptail_Nphead_Emblock_11_0 (v_iv (n_v vs 0)) (v_iv (n_v vs 2)) (v_iv (n_v vs 8)) (v_iv (n_v vs 15)) (v_iv (n_v vs 22)) (v_iv (n_v vs 30)) (v_iv (n_v vs 32)) (v_iv (n_v vs 33)) (v_iv (n_v vs 36)) (w_ei ws (v_ad (n_v vs 5))) (w_ei ws (v_ad (n_v vs 3))) (w_ei ws (v_ad (n_v vs 4))) k0 k2 k8 k22 k33 k36 d4 d7 d10 f3 f4 f12 f28
  have nf1 : fc_1 PRD (20, [13, 11, 12, 6, 7, 10, 8, 9, 33], [61, 4, 589]) ws (vs) := by
    refine ⟨nf_in hl rfl, sgq_1194 ?_⟩
    · show UN2 (w_ei ws (v_ad (n_v vs 13))) (w_ei ws (v_ad (n_v vs 11))) (w_ei ws (v_ad (n_v vs 12))) (w_ei ws (v_ad (n_v vs 6))) (v_iv (n_v vs 7)) (v_iv (n_v vs 10)) (v_iv (n_v vs 8)) (v_iv (n_v vs 9)) (v_iv (n_v vs 33))
      simp only [q8, q9, q10, q11, q12, q13]
      exact vc_Fa_uniteAt_at_Nptail_Nphead_Emblock_11_1 (v_iv (n_v vs 0)) (v_iv (n_v vs 1)) (v_iv (n_v vs 2)) (v_iv (n_v vs 7)) (v_iv (n_v vs 8)) (v_iv (n_v vs 9)) (v_iv (n_v vs 15)) (v_iv (n_v vs 22)) (v_iv (n_v vs 30)) (v_iv (n_v vs 32)) (v_iv (n_v vs 33)) (v_iv (n_v vs 36)) (v_iv (n_v vs 38)) (v_iv (n_v vs 39)) (w_ei ws (v_ad (n_v vs 5))) (w_ei ws (v_ad (n_v vs 3))) (w_ei ws (v_ad (n_v vs 4))) (w_ei ws (v_ad (n_v vs 6))) k0 k1 k2 k7 k8 k9 k22 k33 k36 k38 k39 d4 d7 d8 d10 d11 f3 f4 f6 f7 f8 f9 f29
  refine ⟨(fun _ h => (by cases h)), [], trivial, ?_, (fun _ h => (by cases h))⟩
  rw [List.append_nil]
  exact List.forall_mem_cons.mpr ⟨⟨show (20 : Nat) < 100 from by decide, nf0⟩, List.forall_mem_cons.mpr ⟨⟨show (20 : Nat) < 100 from by decide, nf1⟩, (fun _ h => (by cases h))⟩⟩
set_option maxHeartbeats 4000000 in
theorem vc_Fa_uniteAt_at_Nptail_Nphead_Emblock_12_r0 (x2 : Int) (x15 : Int) (x16 : Int) (x17 : Int) (x22 : Int) (x23 : Int) (x29 : Int) (a5_0 : Int → Int) (a3_0 : Int → Int) (a4_0 : Int → Int) (k2 : 1 ≤ x2 ∧ x2 ≤ 72) (k15 : 0 ≤ x15 ∧ x15 ≤ 71) (k16 : 0 ≤ x16 ∧ x16 ≤ 24) (k17 : 0 ≤ x17 ∧ x17 ≤ 24) (k22 : 0 ≤ x22 ∧ x22 ≤ 24) (k23 : 0 ≤ x23 ∧ x23 ≤ 24) (k29 : (-1) ≤ x29 ∧ x29 ≤ 71) (h0 : x29 = a5_0 (x15)) (h6 : x23 = a3_0 (x15)) (h8 : x22 = a4_0 (x15)) (h13 : x17 = a4_0 (x15)) (h15 : x16 = a3_0 (x15)) (f16 : x15 < x2) (f17 : BLQ (a5_0) (x2)) : 0 ≤ x29 ∧ x29 ≤ 71 := by
  first
    | omega
    | (skip; (first | subst h0 | skip); (first | subst h6 | skip); (first | subst h8 | skip); (first | subst h13 | skip); (first | subst h15 | skip); have q := ‹BLQ _ _› x15 (by omega) (by omega); omega)
def o_Fa_uniteAt_at_Nptail_Nphead_Emblock_12 : or_T := (90, 30, [(0, (0, 0, 24, [])), (1, (0, 0, 33554431, [])), (2, (0, 1, 72, [])), (3, (2, 0, 0, [140])), (4, (2, 0, 0, [141])), (5, (2, 0, 0, [26])), (6, (2, 0, 0, [142])), (7, (0, 0, 25, [])), (8, (0, 0, 24, [])), (9, (0, 0, 33554431, [])), (10, (0, 1, 72, [])), (11, (2, 0, 0, [140])), (12, (2, 0, 0, [141])), (13, (2, 0, 0, [26])), (14, (0, -1, -1, [])), (15, (0, 0, 71, [])), (16, (0, 0, 24, [])), (17, (0, 0, 24, [])), (18, (0, 0, 33554431, [])), (19, (0, 1, 1, [])), (20, (0, 0, 0, [])), (22, (0, 0, 24, [])), (23, (0, 0, 24, [])), (24, (0, 0, 33554431, [])), (25, (0, 1, 1, [])), (26, (0, 1, 1, [])), (28, (0, -1, -1, [])), (29, (0, -1, 71, []))], [(10, [29, 13, 15], []), (7, [14, 28], [0]), (8, [26], [1]), (12, [26, 24], [2]), (16, [26, 24, 25], [0]), (16, [24, 9, 23], [4]), (10, [23, 11, 15], []), (7, [22, 8], [0]), (10, [22, 12, 15], []), (8, [20], [0]), (12, [20, 18], [2]), (16, [20, 18, 19], [0]), (16, [18, 9, 17], [4]), (10, [17, 12, 15], []), (7, [16, 8], [0]), (10, [16, 11, 15], []), (7, [15, 10], [2]), (20, [13, 10], [61, 1, 566]), (20, [13, 11, 12, 10, 8, 14], [61, 3, 584]), (20, [13, 11, 12, 6, 7, 10, 8, 9, 14], [61, 4, 589]), (24, [0, 8], []), (24, [1, 9], []), (24, [2, 10], []), (24, [3, 11], []), (24, [4, 12], []), (24, [5, 13], [])], [(29, (0, 0, 71, []))], [], [], [], [(22, 8, 0, 0), (16, 8, 0, 0), (15, 10, -4294967296, -1), (0, 8, -4294967296, 0), (1, 9, -4294967296, 0), (2, 10, -4294967296, 0), (8, 0, -4294967296, 0), (9, 1, -4294967296, 0), (10, 2, -4294967296, 0), (15, 2, -4294967296, 0), (15, 10, -4294967296, 0)])
theorem oo_Fa_uniteAt_at_Nptail_Nphead_Emblock_12 {kA : Nat → ClassId} : or_ok PRD kA GG o_Fa_uniteAt_at_Nptail_Nphead_Emblock_12 := by
  refine or_mk fun A ta ws vs hD hth hl => ?_
  intro t0 k0 t1 k1 t2 k2 t3 r3 t4 r4 t5 r5 t6 r6 t7 k7 t8 k8 t9 k9 t10 k10 t11 r11 t12 r12 t13 r13 t14 k14 t15 k15 t16 k16 t17 k17 t18 k18 t19 k19 t20 k20 t22 k22 t23 k23 t24 k24 t25 k25 t26 k26 t28 k28 t29 k29 d0 d1 d2 d3 d4 d5 d6 d7 d8 d9 d10 f0 f1 f2 f3 f4 f5 f6 f7 f8 f9 f10 f11 f12 f13 f14 f15 f16 f17 f18 f19 f20 f21 f22 f23 f24 f25
  replace f0 := shm_107 f0
  replace f6 := shm_107 f6
  replace f8 := shm_107 f8
  replace f13 := shm_107 f13
  replace f15 := shm_107 f15
  replace f16 := shm_6 f16
  replace f17 := shm_365 f17
  replace f22 := shm_5 f22
  replace f23 := shm_5 f23
  replace f24 := shm_5 f24
  replace f25 := shm_5 f25
  have q10 : n_v vs 10 = n_v vs 2 := f22.symm
  have q11 : n_v vs 11 = n_v vs 3 := f23.symm
  have q12 : n_v vs 12 = n_v vs 4 := f24.symm
  have q13 : n_v vs 13 = n_v vs 5 := f25.symm
  simp only [q13, q11, q12, q10] at f0 f6 f8 f13 f15 f16 f17
  have h0 : v_iv (n_v vs 29) = w_ei ws (v_ad (n_v vs 5)) (v_iv (n_v vs 15)) := f0
  have h6 : v_iv (n_v vs 23) = w_ei ws (v_ad (n_v vs 3)) (v_iv (n_v vs 15)) := f6
  have h8 : v_iv (n_v vs 22) = w_ei ws (v_ad (n_v vs 4)) (v_iv (n_v vs 15)) := f8
  have h13 : v_iv (n_v vs 17) = w_ei ws (v_ad (n_v vs 4)) (v_iv (n_v vs 15)) := f13
  have h15 : v_iv (n_v vs 16) = w_ei ws (v_ad (n_v vs 3)) (v_iv (n_v vs 15)) := f15
  have hrf0 : 0 ≤ v_iv (n_v vs 29) ∧ v_iv (n_v vs 29) ≤ 71 := vc_Fa_uniteAt_at_Nptail_Nphead_Emblock_12_r0 (v_iv (n_v vs 2)) (v_iv (n_v vs 15)) (v_iv (n_v vs 16)) (v_iv (n_v vs 17)) (v_iv (n_v vs 22)) (v_iv (n_v vs 23)) (v_iv (n_v vs 29)) (w_ei ws (v_ad (n_v vs 5))) (w_ei ws (v_ad (n_v vs 3))) (w_ei ws (v_ad (n_v vs 4))) k2 k15 k16 k17 k22 k23 k29 h0 h6 h8 h13 h15 f16 f17
  have rf29 : tv_ok ta (0, 0, 71, []) (n_v vs 29) := tv_in t29 (by first | omega | grind) (by first | omega | grind)
  refine ⟨List.forall_mem_cons.mpr ⟨rf29, (fun _ h => (by cases h))⟩, [], trivial, ?_, (fun _ h => (by cases h))⟩
  rw [List.append_nil]
  exact (fun _ h => (by cases h))
set_option maxHeartbeats 4000000 in
theorem vc_Fa_uniteAt_at_Nptail_Nphead_Emblock_13_0 (x0 : Int) (x2 : Int) (x8 : Int) (x14 : Int) (x15 : Int) (x16 : Int) (x22 : Int) (x29 : Int) (x30 : Int) (a5_0 : Int → Int) (a3_0 : Int → Int) (a4_0 : Int → Int) (k0 : 0 ≤ x0 ∧ x0 ≤ 24) (k2 : 1 ≤ x2 ∧ x2 ≤ 72) (k8 : 0 ≤ x8 ∧ x8 ≤ 24) (k14 : (-1) ≤ x14 ∧ x14 ≤ (-1)) (k15 : 0 ≤ x15 ∧ x15 ≤ 71) (k16 : 0 ≤ x16 ∧ x16 ≤ 24) (k22 : 0 ≤ x22 ∧ x22 ≤ 24) (k29 : 0 ≤ x29 ∧ x29 ≤ 71) (k30 : 1 ≤ x30 ∧ x30 ≤ 72) (d0 : x15 + 1 ≤ x30 ∧ x30 ≤ x15 + 1) (d4 : x8 + 0 ≤ x22 ∧ x22 ≤ x8 + 0) (d5 : x8 + 0 ≤ x16 ∧ x16 ≤ x8 + 0) (d7 : x8 + (-4294967296) ≤ x0 ∧ x0 ≤ x8 + 0) (d10 : x0 + (-4294967296) ≤ x8 ∧ x8 ≤ x0 + 0) (h1 : x29 = a5_0 (x15)) (h9 : x22 = a4_0 (x15)) (h16 : x16 = a3_0 (x15)) (f17 : x15 < x2) (f19 : UNI (a5_0) (a3_0) (a4_0) (x2) (x0) (x14)) : UNI (a5_0) (a3_0) (a4_0) (x2) (x0) (x29) := by
  first
    | exact uni_first (e := x15) ‹UNI _ _ _ _ _ _› (by assumption) rfl (by omega) (by omega) (by first | exact Or.inl (by omega) | exact Or.inr (by omega))
set_option maxHeartbeats 4000000 in
theorem vc_Fa_uniteAt_at_Nptail_Nphead_Emblock_13_1 (x0 : Int) (x1 : Int) (x2 : Int) (x7 : Int) (x8 : Int) (x14 : Int) (x15 : Int) (x16 : Int) (x17 : Int) (x18 : Int) (x19 : Int) (x20 : Int) (x22 : Int) (x23 : Int) (x24 : Int) (x25 : Int) (x26 : Int) (x29 : Int) (x30 : Int) (a5_0 : Int → Int) (a3_0 : Int → Int) (a4_0 : Int → Int) (a6_0 : Int → Int) (k0 : 0 ≤ x0 ∧ x0 ≤ 24) (k1 : 0 ≤ x1 ∧ x1 ≤ 33554431) (k2 : 1 ≤ x2 ∧ x2 ≤ 72) (k7 : 0 ≤ x7 ∧ x7 ≤ 25) (k8 : 0 ≤ x8 ∧ x8 ≤ 24) (k14 : (-1) ≤ x14 ∧ x14 ≤ (-1)) (k15 : 0 ≤ x15 ∧ x15 ≤ 71) (k16 : 0 ≤ x16 ∧ x16 ≤ 24) (k22 : 0 ≤ x22 ∧ x22 ≤ 24) (k23 : 0 ≤ x23 ∧ x23 ≤ 24) (k24 : 0 ≤ x24 ∧ x24 ≤ 33554431) (k25 : 1 ≤ x25 ∧ x25 ≤ 1) (k26 : 1 ≤ x26 ∧ x26 ≤ 1) (k29 : 0 ≤ x29 ∧ x29 ≤ 71) (k30 : 1 ≤ x30 ∧ x30 ≤ 72) (d0 : x15 + 1 ≤ x30 ∧ x30 ≤ x15 + 1) (d4 : x8 + 0 ≤ x22 ∧ x22 ≤ x8 + 0) (d5 : x8 + 0 ≤ x16 ∧ x16 ≤ x8 + 0) (d7 : x8 + (-4294967296) ≤ x0 ∧ x0 ≤ x8 + 0) (d10 : x0 + (-4294967296) ≤ x8 ∧ x8 ≤ x0 + 0) (h1 : x29 = a5_0 (x15)) (f5 : bvp (x26) = bvp (x24) &&& bvp (x25)) (f6 : bvp (x24) = bvp (x1) >>> (x23).toNat) (h7 : x23 = a3_0 (x15)) (h9 : x22 = a4_0 (x15)) (h16 : x16 = a3_0 (x15)) (f17 : x15 < x2) (f20 : UN2 (a5_0) (a3_0) (a4_0) (a6_0) (x7) (x2) (x0) (x1) (x14)) : UN2 (a5_0) (a3_0) (a4_0) (a6_0) (x7) (x2) (x0) (x1) (x29) := by
  first
    | exact un2_first (e := x15) ‹UN2 _ _ _ _ _ _ _ _ _› (by assumption) rfl (by omega) (by omega) (by first | exact Or.inl ⟨by omega, by omega, by rw [← ‹x17 = a4_0 x15›]; exact (bit_one (s := x1) (t := x18) (c := x20) (v := x17) (one := x19) (by assumption) (by assumption) (by omega) (by omega) (by omega) (by omega)).mpr (by omega)⟩ | exact Or.inr ⟨by omega, by omega, by rw [← ‹x19 = a3_0 x15›]; exact (bit_one (s := x1) (t := x20) (c := x22) (v := x19) (one := x21) (by assumption) (by assumption) (by omega) (by omega) (by omega) (by omega)).mpr (by omega)⟩ | exact Or.inr ⟨by omega, by omega, by rw [← ‹x23 = a3_0 x15›]; exact (bit_one (s := x1) (t := x24) (c := x26) (v := x23) (one := x25) (by assumption) (by assumption) (by omega) (by omega) (by omega) (by omega)).mpr (by omega)⟩)
def o_Fa_uniteAt_at_Nptail_Nphead_Emblock_13 : or_T := (6, 31, [(0, (0, 0, 24, [])), (1, (0, 0, 33554431, [])), (2, (0, 1, 72, [])), (3, (2, 0, 0, [140])), (4, (2, 0, 0, [141])), (5, (2, 0, 0, [26])), (6, (2, 0, 0, [142])), (7, (0, 0, 25, [])), (8, (0, 0, 24, [])), (9, (0, 0, 33554431, [])), (10, (0, 1, 72, [])), (11, (2, 0, 0, [140])), (12, (2, 0, 0, [141])), (13, (2, 0, 0, [26])), (14, (0, -1, -1, [])), (15, (0, 0, 71, [])), (16, (0, 0, 24, [])), (17, (0, 0, 24, [])), (18, (0, 0, 33554431, [])), (19, (0, 1, 1, [])), (20, (0, 0, 0, [])), (22, (0, 0, 24, [])), (23, (0, 0, 24, [])), (24, (0, 0, 33554431, [])), (25, (0, 1, 1, [])), (26, (0, 1, 1, [])), (28, (0, -1, -1, [])), (29, (0, 0, 71, [])), (30, (0, 1, 72, []))], [(6, [30, 15], [1]), (10, [29, 13, 15], []), (7, [14, 28], [0]), (8, [26], [1]), (12, [26, 24], [2]), (16, [26, 24, 25], [0]), (16, [24, 9, 23], [4]), (10, [23, 11, 15], []), (7, [22, 8], [0]), (10, [22, 12, 15], []), (8, [20], [0]), (12, [20, 18], [2]), (16, [20, 18, 19], [0]), (16, [18, 9, 17], [4]), (10, [17, 12, 15], []), (7, [16, 8], [0]), (10, [16, 11, 15], []), (7, [15, 10], [2]), (20, [13, 10], [61, 1, 566]), (20, [13, 11, 12, 10, 8, 14], [61, 3, 584]), (20, [13, 11, 12, 6, 7, 10, 8, 9, 14], [61, 4, 589]), (24, [0, 8], []), (24, [1, 9], []), (24, [2, 10], []), (24, [3, 11], []), (24, [4, 12], []), (24, [5, 13], [])], [], [], [(20, [13, 11, 12, 10, 8, 29], [61, 3, 584]), (20, [13, 11, 12, 6, 7, 10, 8, 9, 29], [61, 4, 589])], [], [(30, 15, 1, 1), (30, 10, -4294967296, 0), (30, 2, -4294967296, 1), (30, 10, -4294967296, 1), (22, 8, 0, 0), (16, 8, 0, 0), (15, 10, -4294967296, -1), (0, 8, -4294967296, 0), (1, 9, -4294967296, 0), (2, 10, -4294967296, 0), (8, 0, -4294967296, 0), (9, 1, -4294967296, 0), (10, 2, -4294967296, 0), (15, 2, -4294967296, 0), (15, 10, -4294967296, 0)])
theorem oo_Fa_uniteAt_at_Nptail_Nphead_Emblock_13 {kA : Nat → ClassId} : or_ok PRD kA GG o_Fa_uniteAt_at_Nptail_Nphead_Emblock_13 := by
  refine or_mk fun A ta ws vs hD hth hl => ?_
  intro t0 k0 t1 k1 t2 k2 t3 r3 t4 r4 t5 r5 t6 r6 t7 k7 t8 k8 t9 k9 t10 k10 t11 r11 t12 r12 t13 r13 t14 k14 t15 k15 t16 k16 t17 k17 t18 k18 t19 k19 t20 k20 t22 k22 t23 k23 t24 k24 t25 k25 t26 k26 t28 k28 t29 k29 t30 k30 d0 d1 d2 d3 d4 d5 d6 d7 d8 d9 d10 d11 d12 d13 d14 f0 f1 f2 f3 f4 f5 f6 f7 f8 f9 f10 f11 f12 f13 f14 f15 f16 f17 f18 f19 f20 f21 f22 f23 f24 f25 f26
  replace f1 := shm_107 f1
  replace f5 := shm_11 f5
  replace f6 := shm_13 f6
  replace f7 := shm_107 f7
  replace f9 := shm_107 f9
  replace f16 := shm_107 f16
  replace f17 := shm_6 f17
  replace f19 := shm_1193 f19
  replace f20 := shm_1194 f20
  replace f21 := shm_5 f21
  replace f22 := shm_5 f22
  replace f23 := shm_5 f23
  replace f24 := shm_5 f24
  replace f25 := shm_5 f25
  replace f26 := shm_5 f26
  have q8 : n_v vs 8 = n_v vs 0 := f21.symm
  have q9 : n_v vs 9 = n_v vs 1 := f22.symm
  have q10 : n_v vs 10 = n_v vs 2 := f23.symm
  have q11 : n_v vs 11 = n_v vs 3 := f24.symm
  have q12 : n_v vs 12 = n_v vs 4 := f25.symm
  have q13 : n_v vs 13 = n_v vs 5 := f26.symm
  simp only [q13, q9, q11, q8, q12, q10] at f1 f6 f7 f9 f16 f17 f19 f20
  have h1 : v_iv (n_v vs 29) = w_ei ws (v_ad (n_v vs 5)) (v_iv (n_v vs 15)) := f1
  have h7 : v_iv (n_v vs 23) = w_ei ws (v_ad (n_v vs 3)) (v_iv (n_v vs 15)) := f7
  have h9 : v_iv (n_v vs 22) = w_ei ws (v_ad (n_v vs 4)) (v_iv (n_v vs 15)) := f9
  have h16 : v_iv (n_v vs 16) = w_ei ws (v_ad (n_v vs 3)) (v_iv (n_v vs 15)) := f16
  have nf0 : fc_1 PRD (20, [13, 11, 12, 10, 8, 29], [61, 3, 584]) ws (vs) := by
    refine ⟨nf_in hl rfl, sgq_1193 ?_⟩
    · show UNI (w_ei ws (v_ad (n_v vs 13))) (w_ei ws (v_ad (n_v vs 11))) (w_ei ws (v_ad (n_v vs 12))) (v_iv (n_v vs 10)) (v_iv (n_v vs 8)) (v_iv (n_v vs 29))
      simp only [q8, q10, q11, q12, q13]
      exact vc_Fa_uniteAt_at_Nptail_Nphead_Emblock_13_0 (v_iv (n_v vs 0)) (v_iv (n_v vs 2)) (v_iv (n_v vs 8)) (v_iv (n_v vs 14)) (v_iv (n_v vs 15)) (v_iv (n_v vs 16)) (v_iv (n_v vs 22)) (v_iv (n_v vs 29)) (v_iv (n_v vs 30)) (w_ei ws (v_ad (n_v vs 5))) (w_ei ws (v_ad (n_v vs 3))) (w_ei ws (v_ad (n_v vs 4))) k0 k2 k8 k14 k15 k16 k22 k29 k30 d0 d4 d5 d7 d10 h1 h9 h16 f17 f19
  have nf1 : fc_1 PRD (20, [13, 11, 12, 6, 7, 10, 8, 9, 29], [61, 4, 589]) ws (vs) := by
    refine ⟨nf_in hl rfl, sgq_1194 ?_⟩
    · show UN2 (w_ei ws (v_ad (n_v vs 13))) (w_ei ws (v_ad (n_v vs 11))) (w_ei ws (v_ad (n_v vs 12))) (w_ei ws (v_ad (n_v vs 6))) (v_iv (n_v vs 7)) (v_iv (n_v vs 10)) (v_iv (n_v vs 8)) (v_iv (n_v vs 9)) (v_iv (n_v vs 29))
      simp only [q8, q9, q10, q11, q12, q13]
      exact vc_Fa_uniteAt_at_Nptail_Nphead_Emblock_13_1 (v_iv (n_v vs 0)) (v_iv (n_v vs 1)) (v_iv (n_v vs 2)) (v_iv (n_v vs 7)) (v_iv (n_v vs 8)) (v_iv (n_v vs 14)) (v_iv (n_v vs 15)) (v_iv (n_v vs 16)) (v_iv (n_v vs 17)) (v_iv (n_v vs 18)) (v_iv (n_v vs 19)) (v_iv (n_v vs 20)) (v_iv (n_v vs 22)) (v_iv (n_v vs 23)) (v_iv (n_v vs 24)) (v_iv (n_v vs 25)) (v_iv (n_v vs 26)) (v_iv (n_v vs 29)) (v_iv (n_v vs 30)) (w_ei ws (v_ad (n_v vs 5))) (w_ei ws (v_ad (n_v vs 3))) (w_ei ws (v_ad (n_v vs 4))) (w_ei ws (v_ad (n_v vs 6))) k0 k1 k2 k7 k8 k14 k15 k16 k22 k23 k24 k25 k26 k29 k30 d0 d4 d5 d7 d10 h1 f5 f6 h7 h9 h16 f17 f20
  refine ⟨(fun _ h => (by cases h)), [], trivial, ?_, (fun _ h => (by cases h))⟩
  rw [List.append_nil]
  exact List.forall_mem_cons.mpr ⟨⟨show (20 : Nat) < 100 from by decide, nf0⟩, List.forall_mem_cons.mpr ⟨⟨show (20 : Nat) < 100 from by decide, nf1⟩, (fun _ h => (by cases h))⟩⟩
set_option maxHeartbeats 4000000 in
theorem vc_Fa_uniteAt_at_Nptail_Nphead_Emblock_14_r0 (x2 : Int) (x15 : Int) (x16 : Int) (x17 : Int) (x22 : Int) (x25 : Int) (x26 : Int) (a5_0 : Int → Int) (a4_0 : Int → Int) (a3_0 : Int → Int) (k2 : 1 ≤ x2 ∧ x2 ≤ 72) (k15 : 0 ≤ x15 ∧ x15 ≤ 71) (k16 : 0 ≤ x16 ∧ x16 ≤ 24) (k17 : 0 ≤ x17 ∧ x17 ≤ 24) (k22 : 0 ≤ x22 ∧ x22 ≤ 24) (k25 : (-1) ≤ x25 ∧ x25 ≤ 71) (k26 : (-1) ≤ x26 ∧ x26 ≤ 71) (h0 : x26 = a5_0 (x15)) (h2 : x25 = a5_0 (x15)) (h5 : x22 = a4_0 (x15)) (h10 : x17 = a4_0 (x15)) (h12 : x16 = a3_0 (x15)) (f13 : x15 < x2) (f14 : BLQ (a5_0) (x2)) : 0 ≤ x26 ∧ x26 ≤ 71 := by
  first
    | omega
    | (skip; (first | subst h0 | skip); (first | subst h2 | skip); (first | subst h5 | skip); (first | subst h10 | skip); (first | subst h12 | skip); have q := ‹BLQ _ _› x15 (by omega) (by omega); omega)
def o_Fa_uniteAt_at_Nptail_Nphead_Emblock_14 : or_T := (112, 27, [(0, (0, 0, 24, [])), (1, (0, 0, 33554431, [])), (2, (0, 1, 72, [])), (3, (2, 0, 0, [140])), (4, (2, 0, 0, [141])), (5, (2, 0, 0, [26])), (6, (2, 0, 0, [142])), (7, (0, 0, 25, [])), (8, (0, 0, 24, [])), (9, (0, 0, 33554431, [])), (10, (0, 1, 72, [])), (11, (2, 0, 0, [140])), (12, (2, 0, 0, [141])), (13, (2, 0, 0, [26])), (14, (0, 0, 71, [])), (15, (0, 0, 71, [])), (16, (0, 0, 24, [])), (17, (0, 0, 24, [])), (18, (0, 0, 33554431, [])), (19, (0, 1, 1, [])), (20, (0, 1, 1, [])), (22, (0, 0, 24, [])), (24, (0, -1, -1, [])), (25, (0, -1, 71, [])), (26, (0, -1, 71, []))], [(10, [26, 13, 15], []), (7, [25, 14], [1]), (10, [25, 13, 15], []), (7, [14, 24], [1]), (7, [22, 8], [1]), (10, [22, 12, 15], []), (8, [20], [1]), (12, [20, 18], [2]), (16, [20, 18, 19], [0]), (16, [18, 9, 17], [4]), (10, [17, 12, 15], []), (7, [16, 8], [0]), (10, [16, 11, 15], []), (7, [15, 10], [2]), (20, [13, 10], [61, 1, 566]), (20, [13, 11, 12, 10, 8, 14], [61, 3, 584]), (20, [13, 11, 12, 6, 7, 10, 8, 9, 14], [61, 4, 589]), (24, [0, 8], []), (24, [1, 9], []), (24, [2, 10], []), (24, [3, 11], []), (24, [4, 12], []), (24, [5, 13], [])], [(26, (0, 0, 71, []))], [], [], [], [(16, 8, 0, 0), (15, 10, -4294967296, -1), (0, 8, -4294967296, 0), (1, 9, -4294967296, 0), (2, 10, -4294967296, 0), (8, 0, -4294967296, 0), (9, 1, -4294967296, 0), (10, 2, -4294967296, 0), (14, 15, -4294967296, 70), (15, 2, -4294967296, 0), (15, 10, -4294967296, 0)])
theorem oo_Fa_uniteAt_at_Nptail_Nphead_Emblock_14 {kA : Nat → ClassId} : or_ok PRD kA GG o_Fa_uniteAt_at_Nptail_Nphead_Emblock_14 := by
  refine or_mk fun A ta ws vs hD hth hl => ?_
  intro t0 k0 t1 k1 t2 k2 t3 r3 t4 r4 t5 r5 t6 r6 t7 k7 t8 k8 t9 k9 t10 k10 t11 r11 t12 r12 t13 r13 t14 k14 t15 k15 t16 k16 t17 k17 t18 k18 t19 k19 t20 k20 t22 k22 t24 k24 t25 k25 t26 k26 d0 d1 d2 d3 d4 d5 d6 d7 d8 d9 d10 f0 f1 f2 f3 f4 f5 f6 f7 f8 f9 f10 f11 f12 f13 f14 f15 f16 f17 f18 f19 f20 f21 f22
  replace f0 := shm_107 f0
  replace f2 := shm_107 f2
  replace f5 := shm_107 f5
  replace f10 := shm_107 f10
  replace f12 := shm_107 f12
  replace f13 := shm_6 f13
  replace f14 := shm_365 f14
  replace f19 := shm_5 f19
  replace f20 := shm_5 f20
  replace f21 := shm_5 f21
  replace f22 := shm_5 f22
  have q10 : n_v vs 10 = n_v vs 2 := f19.symm
  have q11 : n_v vs 11 = n_v vs 3 := f20.symm
  have q12 : n_v vs 12 = n_v vs 4 := f21.symm
  have q13 : n_v vs 13 = n_v vs 5 := f22.symm
  simp only [q13, q12, q11, q10] at f0 f2 f5 f10 f12 f13 f14
  have h0 : v_iv (n_v vs 26) = w_ei ws (v_ad (n_v vs 5)) (v_iv (n_v vs 15)) := f0
  have h2 : v_iv (n_v vs 25) = w_ei ws (v_ad (n_v vs 5)) (v_iv (n_v vs 15)) := f2
  have h5 : v_iv (n_v vs 22) = w_ei ws (v_ad (n_v vs 4)) (v_iv (n_v vs 15)) := f5
  have h10 : v_iv (n_v vs 17) = w_ei ws (v_ad (n_v vs 4)) (v_iv (n_v vs 15)) := f10
  have h12 : v_iv (n_v vs 16) = w_ei ws (v_ad (n_v vs 3)) (v_iv (n_v vs 15)) := f12
  have hrf0 : 0 ≤ v_iv (n_v vs 26) ∧ v_iv (n_v vs 26) ≤ 71 := vc_Fa_uniteAt_at_Nptail_Nphead_Emblock_14_r0 (v_iv (n_v vs 2)) (v_iv (n_v vs 15)) (v_iv (n_v vs 16)) (v_iv (n_v vs 17)) (v_iv (n_v vs 22)) (v_iv (n_v vs 25)) (v_iv (n_v vs 26)) (w_ei ws (v_ad (n_v vs 5))) (w_ei ws (v_ad (n_v vs 4))) (w_ei ws (v_ad (n_v vs 3))) k2 k15 k16 k17 k22 k25 k26 h0 h2 h5 h10 h12 f13 f14
  have rf26 : tv_ok ta (0, 0, 71, []) (n_v vs 26) := tv_in t26 (by first | omega | grind) (by first | omega | grind)
  refine ⟨List.forall_mem_cons.mpr ⟨rf26, (fun _ h => (by cases h))⟩, [], trivial, ?_, (fun _ h => (by cases h))⟩
  rw [List.append_nil]
  exact (fun _ h => (by cases h))

set_option maxHeartbeats 4000000 in
theorem vc_Fa_uniteAt_at_Nptail_Nphead_Emblock_15_r0 (x15 : Int) (x16 : Int) (x17 : Int) (x22 : Int) (x25 : Int) (x26 : Int) (x28 : Int) (a5_0 : Int → Int) (a4_0 : Int → Int) (a3_0 : Int → Int) (k15 : 0 ≤ x15 ∧ x15 ≤ 71) (k16 : 0 ≤ x16 ∧ x16 ≤ 24) (k17 : 0 ≤ x17 ∧ x17 ≤ 24) (k22 : 0 ≤ x22 ∧ x22 ≤ 24) (k25 : (-1) ≤ x25 ∧ x25 ≤ 71) (k26 : 0 ≤ x26 ∧ x26 ≤ 71) (k28 : (-1) ≤ x28 ∧ x28 ≤ 71) (h0 : x28 = a5_0 (x15)) (h4 : x26 = a5_0 (x15)) (h6 : x25 = a5_0 (x15)) (h9 : x22 = a4_0 (x15)) (h14 : x17 = a4_0 (x15)) (h16 : x16 = a3_0 (x15)) : 0 ≤ x28 ∧ x28 ≤ 71 := by
  first
    | omega
    | (skip; (first | subst h0 | skip); (first | subst h4 | skip); (first | subst h6 | skip); (first | subst h9 | skip); (first | subst h14 | skip); (first | subst h16 | skip); have q := ‹BLQ _ _› x15 (by omega) (by omega); omega)
def o_Fa_uniteAt_at_Nptail_Nphead_Emblock_15 : or_T := (124, 29, [(0, (0, 0, 24, [])), (1, (0, 0, 33554431, [])), (2, (0, 1, 72, [])), (3, (2, 0, 0, [140])), (4, (2, 0, 0, [141])), (5, (2, 0, 0, [26])), (6, (2, 0, 0, [142])), (7, (0, 0, 25, [])), (8, (0, 0, 24, [])), (9, (0, 0, 33554431, [])), (10, (0, 1, 72, [])), (11, (2, 0, 0, [140])), (12, (2, 0, 0, [141])), (13, (2, 0, 0, [26])), (14, (0, 0, 71, [])), (15, (0, 0, 71, [])), (16, (0, 0, 24, [])), (17, (0, 0, 24, [])), (18, (0, 0, 33554431, [])), (19, (0, 1, 1, [])), (20, (0, 1, 1, [])), (22, (0, 0, 24, [])), (24, (0, -1, -1, [])), (25, (0, -1, 71, [])), (26, (0, 0, 71, [])), (27, (0, 0, 71, [])), (28, (0, -1, 71, []))], [(10, [28, 13, 15], []), (23, [14, 27], [0, 1, -1]), (23, [26, 27], [0, 1, -1]), (20, [27, 14, 26], [50, 0, 0, 3, 6, 1, 2, 1, 0, 1, 1, 1, 2, 1, 0, 1, 2]), (10, [26, 13, 15], []), (7, [25, 14], [1]), (10, [25, 13, 15], []), (7, [14, 24], [1]), (7, [22, 8], [1]), (10, [22, 12, 15], []), (8, [20], [1]), (12, [20, 18], [2]), (16, [20, 18, 19], [0]), (16, [18, 9, 17], [4]), (10, [17, 12, 15], []), (7, [16, 8], [0]), (10, [16, 11, 15], []), (7, [15, 10], [2]), (20, [13, 10], [61, 1, 566]), (20, [13, 11, 12, 10, 8, 14], [61, 3, 584]), (20, [13, 11, 12, 6, 7, 10, 8, 9, 14], [61, 4, 589]), (24, [0, 8], []), (24, [1, 9], []), (24, [2, 10], []), (24, [3, 11], []), (24, [4, 12], []), (24, [5, 13], [])], [(28, (0, 0, 71, []))], [], [], [], [(16, 8, 0, 0), (15, 10, -4294967296, -1), (0, 8, -4294967296, 0), (1, 9, -4294967296, 0), (2, 10, -4294967296, 0), (8, 0, -4294967296, 0), (9, 1, -4294967296, 0), (10, 2, -4294967296, 0), (14, 15, -4294967296, 70), (15, 2, -4294967296, 0), (15, 10, -4294967296, 0)])
theorem oo_Fa_uniteAt_at_Nptail_Nphead_Emblock_15 {kA : Nat → ClassId} : or_ok PRD kA GG o_Fa_uniteAt_at_Nptail_Nphead_Emblock_15 := by
  refine or_mk fun A ta ws vs hD hth hl => ?_
  intro t0 k0 t1 k1 t2 k2 t3 r3 t4 r4 t5 r5 t6 r6 t7 k7 t8 k8 t9 k9 t10 k10 t11 r11 t12 r12 t13 r13 t14 k14 t15 k15 t16 k16 t17 k17 t18 k18 t19 k19 t20 k20 t22 k22 t24 k24 t25 k25 t26 k26 t27 k27 t28 k28 d0 d1 d2 d3 d4 d5 d6 d7 d8 d9 d10 f0 f1 f2 f3 f4 f5 f6 f7 f8 f9 f10 f11 f12 f13 f14 f15 f16 f17 f18 f19 f20 f21 f22 f23 f24 f25 f26
  replace f0 := shm_107 f0
  replace f4 := shm_107 f4
  replace f6 := shm_107 f6
  replace f9 := shm_107 f9
  replace f14 := shm_107 f14
  replace f16 := shm_107 f16
  replace f24 := shm_5 f24
  replace f25 := shm_5 f25
  replace f26 := shm_5 f26
  have q11 : n_v vs 11 = n_v vs 3 := f24.symm
  have q12 : n_v vs 12 = n_v vs 4 := f25.symm
  have q13 : n_v vs 13 = n_v vs 5 := f26.symm
  simp only [q13, q12, q11] at f0 f4 f6 f9 f14 f16
  have h0 : v_iv (n_v vs 28) = w_ei ws (v_ad (n_v vs 5)) (v_iv (n_v vs 15)) := f0
  have h4 : v_iv (n_v vs 26) = w_ei ws (v_ad (n_v vs 5)) (v_iv (n_v vs 15)) := f4
  have h6 : v_iv (n_v vs 25) = w_ei ws (v_ad (n_v vs 5)) (v_iv (n_v vs 15)) := f6
  have h9 : v_iv (n_v vs 22) = w_ei ws (v_ad (n_v vs 4)) (v_iv (n_v vs 15)) := f9
  have h14 : v_iv (n_v vs 17) = w_ei ws (v_ad (n_v vs 4)) (v_iv (n_v vs 15)) := f14
  have h16 : v_iv (n_v vs 16) = w_ei ws (v_ad (n_v vs 3)) (v_iv (n_v vs 15)) := f16
  have hrf0 : 0 ≤ v_iv (n_v vs 28) ∧ v_iv (n_v vs 28) ≤ 71 := vc_Fa_uniteAt_at_Nptail_Nphead_Emblock_15_r0 (v_iv (n_v vs 15)) (v_iv (n_v vs 16)) (v_iv (n_v vs 17)) (v_iv (n_v vs 22)) (v_iv (n_v vs 25)) (v_iv (n_v vs 26)) (v_iv (n_v vs 28)) (w_ei ws (v_ad (n_v vs 5))) (w_ei ws (v_ad (n_v vs 4))) (w_ei ws (v_ad (n_v vs 3))) k15 k16 k17 k22 k25 k26 k28 h0 h4 h6 h9 h14 h16
  have rf28 : tv_ok ta (0, 0, 71, []) (n_v vs 28) := tv_in t28 (by first | omega | grind) (by first | omega | grind)
  refine ⟨List.forall_mem_cons.mpr ⟨rf28, (fun _ h => (by cases h))⟩, [], trivial, ?_, (fun _ h => (by cases h))⟩
  rw [List.append_nil]
  exact (fun _ h => (by cases h))
set_option maxHeartbeats 4000000 in
theorem vc_Fa_uniteAt_at_Nptail_Nphead_Emblock_16_2 (x0 : Int) (x8 : Int) (x15 : Int) (x16 : Int) (x17 : Int) (x22 : Int) (x25 : Int) (x26 : Int) (x28 : Int) (a5_0 : Int → Int) (a4_0 : Int → Int) (a3_0 : Int → Int) (gu : Int) (k0 : 0 ≤ x0 ∧ x0 ≤ 24) (k8 : 0 ≤ x8 ∧ x8 ≤ 24) (k15 : 0 ≤ x15 ∧ x15 ≤ 71) (k16 : 0 ≤ x16 ∧ x16 ≤ 24) (k17 : 0 ≤ x17 ∧ x17 ≤ 24) (k22 : 0 ≤ x22 ∧ x22 ≤ 24) (k25 : (-1) ≤ x25 ∧ x25 ≤ 71) (k26 : 0 ≤ x26 ∧ x26 ≤ 71) (k28 : 0 ≤ x28 ∧ x28 ≤ 71) (d0 : x8 + 0 ≤ x16 ∧ x16 ≤ x8 + 0) (d2 : x8 + (-4294967296) ≤ x0 ∧ x0 ≤ x8 + 0) (d5 : x0 + (-4294967296) ≤ x8 ∧ x8 ≤ x0 + 0) (h3 : x28 = a5_0 (x15)) (h7 : x26 = a5_0 (x15)) (h9 : x25 = a5_0 (x15)) (h12 : x22 = a4_0 (x15)) (h17 : x17 = a4_0 (x15)) (h19 : x16 = a3_0 (x15)) (eu2 : gu = x0) : 1 * gu + ((-1) * x0 + 0) ≤ 0 := by
  first
    | omega
    | (skip; (first | subst h3 | skip); (first | subst h7 | skip); (first | subst h9 | skip); (first | subst h12 | skip); (first | subst h17 | skip); (first | subst h19 | skip); have q := ‹BLQ _ _› x15 (by omega) (by omega); omega)
set_option maxHeartbeats 4000000 in
theorem vc_Fa_uniteAt_at_Nptail_Nphead_Emblock_16_3 (x0 : Int) (x8 : Int) (x15 : Int) (x16 : Int) (x17 : Int) (x22 : Int) (x25 : Int) (x26 : Int) (x28 : Int) (a5_0 : Int → Int) (a4_0 : Int → Int) (a3_0 : Int → Int) (gu : Int) (k0 : 0 ≤ x0 ∧ x0 ≤ 24) (k8 : 0 ≤ x8 ∧ x8 ≤ 24) (k15 : 0 ≤ x15 ∧ x15 ≤ 71) (k16 : 0 ≤ x16 ∧ x16 ≤ 24) (k17 : 0 ≤ x17 ∧ x17 ≤ 24) (k22 : 0 ≤ x22 ∧ x22 ≤ 24) (k25 : (-1) ≤ x25 ∧ x25 ≤ 71) (k26 : 0 ≤ x26 ∧ x26 ≤ 71) (k28 : 0 ≤ x28 ∧ x28 ≤ 71) (d0 : x8 + 0 ≤ x16 ∧ x16 ≤ x8 + 0) (d2 : x8 + (-4294967296) ≤ x0 ∧ x0 ≤ x8 + 0) (d5 : x0 + (-4294967296) ≤ x8 ∧ x8 ≤ x0 + 0) (h3 : x28 = a5_0 (x15)) (h7 : x26 = a5_0 (x15)) (h9 : x25 = a5_0 (x15)) (h12 : x22 = a4_0 (x15)) (h17 : x17 = a4_0 (x15)) (h19 : x16 = a3_0 (x15)) (eu2 : gu = x0) : (-1) * gu + (1 * x0 + 0) ≤ 0 := by
  first
    | omega
    | (skip; (first | subst h3 | skip); (first | subst h7 | skip); (first | subst h9 | skip); (first | subst h12 | skip); (first | subst h17 | skip); (first | subst h19 | skip); have q := ‹BLQ _ _› x15 (by omega) (by omega); omega)
set_option maxHeartbeats 4000000 in
theorem vc_Fa_uniteAt_at_Nptail_Nphead_Emblock_16_5 (x7 : Int) (x15 : Int) (x16 : Int) (x17 : Int) (x22 : Int) (x25 : Int) (x26 : Int) (x28 : Int) (a5_0 : Int → Int) (a4_0 : Int → Int) (a3_0 : Int → Int) (gc : Int) (k7 : 0 ≤ x7 ∧ x7 ≤ 25) (k15 : 0 ≤ x15 ∧ x15 ≤ 71) (k16 : 0 ≤ x16 ∧ x16 ≤ 24) (k17 : 0 ≤ x17 ∧ x17 ≤ 24) (k22 : 0 ≤ x22 ∧ x22 ≤ 24) (k25 : (-1) ≤ x25 ∧ x25 ≤ 71) (k26 : 0 ≤ x26 ∧ x26 ≤ 71) (k28 : 0 ≤ x28 ∧ x28 ≤ 71) (h3 : x28 = a5_0 (x15)) (h7 : x26 = a5_0 (x15)) (h9 : x25 = a5_0 (x15)) (h12 : x22 = a4_0 (x15)) (h17 : x17 = a4_0 (x15)) (h19 : x16 = a3_0 (x15)) (ec2 : gc = x7) : 1 * gc + ((-1) * x7 + 0) ≤ 0 := by
  first
    | omega
    | (skip; (first | subst h3 | skip); (first | subst h7 | skip); (first | subst h9 | skip); (first | subst h12 | skip); (first | subst h17 | skip); (first | subst h19 | skip); have q := ‹BLQ _ _› x15 (by omega) (by omega); omega)
set_option maxHeartbeats 4000000 in
theorem vc_Fa_uniteAt_at_Nptail_Nphead_Emblock_16_6 (x7 : Int) (x15 : Int) (x16 : Int) (x17 : Int) (x22 : Int) (x25 : Int) (x26 : Int) (x28 : Int) (a5_0 : Int → Int) (a4_0 : Int → Int) (a3_0 : Int → Int) (gc : Int) (k7 : 0 ≤ x7 ∧ x7 ≤ 25) (k15 : 0 ≤ x15 ∧ x15 ≤ 71) (k16 : 0 ≤ x16 ∧ x16 ≤ 24) (k17 : 0 ≤ x17 ∧ x17 ≤ 24) (k22 : 0 ≤ x22 ∧ x22 ≤ 24) (k25 : (-1) ≤ x25 ∧ x25 ≤ 71) (k26 : 0 ≤ x26 ∧ x26 ≤ 71) (k28 : 0 ≤ x28 ∧ x28 ≤ 71) (h3 : x28 = a5_0 (x15)) (h7 : x26 = a5_0 (x15)) (h9 : x25 = a5_0 (x15)) (h12 : x22 = a4_0 (x15)) (h17 : x17 = a4_0 (x15)) (h19 : x16 = a3_0 (x15)) (ec2 : gc = x7) : (-1) * gc + (1 * x7 + 0) ≤ 0 := by
  first
    | omega
    | (skip; (first | subst h3 | skip); (first | subst h7 | skip); (first | subst h9 | skip); (first | subst h12 | skip); (first | subst h17 | skip); (first | subst h19 | skip); have q := ‹BLQ _ _› x15 (by omega) (by omega); omega)
set_option maxHeartbeats 4000000 in
theorem vc_Fa_uniteAt_at_Nptail_Nphead_Emblock_16_7 (x1 : Int) (x9 : Int) (x15 : Int) (x16 : Int) (x17 : Int) (x22 : Int) (x25 : Int) (x26 : Int) (x28 : Int) (a5_0 : Int → Int) (a4_0 : Int → Int) (a3_0 : Int → Int) (gd : Int) (k1 : 0 ≤ x1 ∧ x1 ≤ 33554431) (k9 : 0 ≤ x9 ∧ x9 ≤ 33554431) (k15 : 0 ≤ x15 ∧ x15 ≤ 71) (k16 : 0 ≤ x16 ∧ x16 ≤ 24) (k17 : 0 ≤ x17 ∧ x17 ≤ 24) (k22 : 0 ≤ x22 ∧ x22 ≤ 24) (k25 : (-1) ≤ x25 ∧ x25 ≤ 71) (k26 : 0 ≤ x26 ∧ x26 ≤ 71) (k28 : 0 ≤ x28 ∧ x28 ≤ 71) (d3 : x9 + (-4294967296) ≤ x1 ∧ x1 ≤ x9 + 0) (d6 : x1 + (-4294967296) ≤ x9 ∧ x9 ≤ x1 + 0) (h3 : x28 = a5_0 (x15)) (h7 : x26 = a5_0 (x15)) (h9 : x25 = a5_0 (x15)) (h12 : x22 = a4_0 (x15)) (h17 : x17 = a4_0 (x15)) (h19 : x16 = a3_0 (x15)) (ed2 : gd = x1) : 1 * gd + ((-1) * x1 + 0) ≤ 0 := by
  first
    | omega
    | (skip; (first | subst h3 | skip); (first | subst h7 | skip); (first | subst h9 | skip); (first | subst h12 | skip); (first | subst h17 | skip); (first | subst h19 | skip); have q := ‹BLQ _ _› x15 (by omega) (by omega); omega)
set_option maxHeartbeats 4000000 in
theorem vc_Fa_uniteAt_at_Nptail_Nphead_Emblock_16_8 (x1 : Int) (x9 : Int) (x15 : Int) (x16 : Int) (x17 : Int) (x22 : Int) (x25 : Int) (x26 : Int) (x28 : Int) (a5_0 : Int → Int) (a4_0 : Int → Int) (a3_0 : Int → Int) (gd : Int) (k1 : 0 ≤ x1 ∧ x1 ≤ 33554431) (k9 : 0 ≤ x9 ∧ x9 ≤ 33554431) (k15 : 0 ≤ x15 ∧ x15 ≤ 71) (k16 : 0 ≤ x16 ∧ x16 ≤ 24) (k17 : 0 ≤ x17 ∧ x17 ≤ 24) (k22 : 0 ≤ x22 ∧ x22 ≤ 24) (k25 : (-1) ≤ x25 ∧ x25 ≤ 71) (k26 : 0 ≤ x26 ∧ x26 ≤ 71) (k28 : 0 ≤ x28 ∧ x28 ≤ 71) (d3 : x9 + (-4294967296) ≤ x1 ∧ x1 ≤ x9 + 0) (d6 : x1 + (-4294967296) ≤ x9 ∧ x9 ≤ x1 + 0) (h3 : x28 = a5_0 (x15)) (h7 : x26 = a5_0 (x15)) (h9 : x25 = a5_0 (x15)) (h12 : x22 = a4_0 (x15)) (h17 : x17 = a4_0 (x15)) (h19 : x16 = a3_0 (x15)) (ed2 : gd = x1) : (-1) * gd + (1 * x1 + 0) ≤ 0 := by
  first
    | omega
    | (skip; (first | subst h3 | skip); (first | subst h7 | skip); (first | subst h9 | skip); (first | subst h12 | skip); (first | subst h17 | skip); (first | subst h19 | skip); have q := ‹BLQ _ _› x15 (by omega) (by omega); omega)
set_option maxHeartbeats 4000000 in
theorem vc_Fa_uniteAt_at_Nptail_Nphead_Emblock_16_9 (x2 : Int) (a5_0 : Int → Int) (k2 : 1 ≤ x2 ∧ x2 ≤ 72) (f21 : BLQ (a5_0) (x2)) : BLQ (a5_0) (x2) := by
  first
    | assumption
  
set_option maxHeartbeats 4000000 in
theorem vc_Fa_uniteAt_at_Nptail_Nphead_Emblock_16_10 (x15 : Int) (x16 : Int) (x17 : Int) (x22 : Int) (x25 : Int) (x26 : Int) (x27 : Int) (x28 : Int) (x29 : Int) (a5_0 : Int → Int) (a4_0 : Int → Int) (a3_0 : Int → Int) (k15 : 0 ≤ x15 ∧ x15 ≤ 71) (k16 : 0 ≤ x16 ∧ x16 ≤ 24) (k17 : 0 ≤ x17 ∧ x17 ≤ 24) (k22 : 0 ≤ x22 ∧ x22 ≤ 24) (k25 : (-1) ≤ x25 ∧ x25 ≤ 71) (k26 : 0 ≤ x26 ∧ x26 ≤ 71) (k27 : 0 ≤ x27 ∧ x27 ≤ 71) (k28 : 0 ≤ x28 ∧ x28 ≤ 71) (k29 : 0 ≤ x29 ∧ x29 ≤ 71) (f1 : (-1) * x28 + (1 * x29 + 0) ≤ 0) (h3 : x28 = a5_0 (x15)) (f5 : 1 * x26 + ((-1) * x27 + 0) ≤ 0) (h7 : x26 = a5_0 (x15)) (h9 : x25 = a5_0 (x15)) (h12 : x22 = a4_0 (x15)) (h17 : x17 = a4_0 (x15)) (h19 : x16 = a3_0 (x15)) : (0 ≤ x29) ∧ (x29 ≤ x27) := by
  first
    | omega
    | (skip; (first | subst h3 | skip); (first | subst h7 | skip); (first | subst h9 | skip); (first | subst h12 | skip); (first | subst h17 | skip); (first | subst h19 | skip); have q := ‹BLQ _ _› x15 (by omega) (by omega); omega)
set_option maxHeartbeats 4000000 in
theorem vc_Fa_uniteAt_at_Nptail_Nphead_Emblock_16_11 (x0 : Int) (x2 : Int) (x8 : Int) (x14 : Int) (x15 : Int) (x16 : Int) (x20 : Int) (x22 : Int) (x24 : Int) (x25 : Int) (x26 : Int) (x27 : Int) (x28 : Int) (x29 : Int) (a5_0 : Int → Int) (a4_0 : Int → Int) (a3_0 : Int → Int) (gu : Int) (k0 : 0 ≤ x0 ∧ x0 ≤ 24) (k2 : 1 ≤ x2 ∧ x2 ≤ 72) (k8 : 0 ≤ x8 ∧ x8 ≤ 24) (k14 : 0 ≤ x14 ∧ x14 ≤ 71) (k15 : 0 ≤ x15 ∧ x15 ≤ 71) (k16 : 0 ≤ x16 ∧ x16 ≤ 24) (k20 : 1 ≤ x20 ∧ x20 ≤ 1) (k22 : 0 ≤ x22 ∧ x22 ≤ 24) (k24 : (-1) ≤ x24 ∧ x24 ≤ (-1)) (k25 : (-1) ≤ x25 ∧ x25 ≤ 71) (k26 : 0 ≤ x26 ∧ x26 ≤ 71) (k27 : 0 ≤ x27 ∧ x27 ≤ 71) (k28 : 0 ≤ x28 ∧ x28 ≤ 71) (k29 : 0 ≤ x29 ∧ x29 ≤ 71) (d0 : x8 + 0 ≤ x16 ∧ x16 ≤ x8 + 0) (d2 : x8 + (-4294967296) ≤ x0 ∧ x0 ≤ x8 + 0) (d5 : x0 + (-4294967296) ≤ x8 ∧ x8 ≤ x0 + 0) (f0 : (-1) * x14 + (1 * x29 + 0) ≤ 0) (f1 : (-1) * x28 + (1 * x29 + 0) ≤ 0) (f2 : (x29 = x14) ∨ (x29 = x28)) (h3 : x28 = a5_0 (x15)) (f4 : 1 * x14 + ((-1) * x27 + 0) ≤ 0) (f5 : 1 * x26 + ((-1) * x27 + 0) ≤ 0) (f6 : (x27 = x14) ∨ (x27 = x26)) (h7 : x26 = a5_0 (x15)) (f8 : x25 ≠ x14) (h9 : x25 = a5_0 (x15)) (f10 : x14 ≠ x24) (f11 : x22 ≠ x0) (f13 : x20 ≠ 0) (h19 : x16 = a3_0 (x15)) (f20 : x15 < x2) (f22 : UNI (a5_0) (a3_0) (a4_0) (x2) (x0) (x14)) (eu2 : gu = x0) : RLP (a5_0) (a3_0) (a4_0) (x2) (x27) (x29) (gu) := by
  first
    | (rw [show gu = x0 by omega]; exact uni_rlp (e := x15) ‹UNI _ _ _ _ _ _› (by omega) rfl (by omega) (by omega) (by omega) (by first | exact Or.inl (by omega) | exact Or.inr (by omega)) (by omega) (by omega) (by omega) (by omega) (by omega) (by omega))
  
set_option maxHeartbeats 4000000 in
theorem vc_Fa_uniteAt_at_Nptail_Nphead_Emblock_16_12 (x0 : Int) (x1 : Int) (x2 : Int) (x7 : Int) (x8 : Int) (x14 : Int) (x15 : Int) (x16 : Int) (x17 : Int) (x18 : Int) (x19 : Int) (x20 : Int) (x22 : Int) (x24 : Int) (x25 : Int) (x26 : Int) (x27 : Int) (x28 : Int) (x29 : Int) (a5_0 : Int → Int) (a4_0 : Int → Int) (a3_0 : Int → Int) (a6_0 : Int → Int) (gu : Int) (gc : Int) (gd : Int) (k0 : 0 ≤ x0 ∧ x0 ≤ 24) (k1 : 0 ≤ x1 ∧ x1 ≤ 33554431) (k2 : 1 ≤ x2 ∧ x2 ≤ 72) (k7 : 0 ≤ x7 ∧ x7 ≤ 25) (k8 : 0 ≤ x8 ∧ x8 ≤ 24) (k14 : 0 ≤ x14 ∧ x14 ≤ 71) (k15 : 0 ≤ x15 ∧ x15 ≤ 71) (k16 : 0 ≤ x16 ∧ x16 ≤ 24) (k17 : 0 ≤ x17 ∧ x17 ≤ 24) (k18 : 0 ≤ x18 ∧ x18 ≤ 33554431) (k19 : 1 ≤ x19 ∧ x19 ≤ 1) (k20 : 1 ≤ x20 ∧ x20 ≤ 1) (k22 : 0 ≤ x22 ∧ x22 ≤ 24) (k24 : (-1) ≤ x24 ∧ x24 ≤ (-1)) (k25 : (-1) ≤ x25 ∧ x25 ≤ 71) (k26 : 0 ≤ x26 ∧ x26 ≤ 71) (k27 : 0 ≤ x27 ∧ x27 ≤ 71) (k28 : 0 ≤ x28 ∧ x28 ≤ 71) (k29 : 0 ≤ x29 ∧ x29 ≤ 71) (d0 : x8 + 0 ≤ x16 ∧ x16 ≤ x8 + 0) (d2 : x8 + (-4294967296) ≤ x0 ∧ x0 ≤ x8 + 0) (d5 : x0 + (-4294967296) ≤ x8 ∧ x8 ≤ x0 + 0) (f0 : (-1) * x14 + (1 * x29 + 0) ≤ 0) (f1 : (-1) * x28 + (1 * x29 + 0) ≤ 0) (f2 : (x29 = x14) ∨ (x29 = x28)) (h3 : x28 = a5_0 (x15)) (f4 : 1 * x14 + ((-1) * x27 + 0) ≤ 0) (f5 : 1 * x26 + ((-1) * x27 + 0) ≤ 0) (f6 : (x27 = x14) ∨ (x27 = x26)) (h7 : x26 = a5_0 (x15)) (f8 : x25 ≠ x14) (h9 : x25 = a5_0 (x15)) (f10 : x14 ≠ x24) (f11 : x22 ≠ x0) (f13 : x20 ≠ 0) (f15 : bvp (x20) = bvp (x18) &&& bvp (x19)) (f16 : bvp (x18) = bvp (x1) >>> (x17).toNat) (h17 : x17 = a4_0 (x15)) (h19 : x16 = a3_0 (x15)) (f20 : x15 < x2) (f23 : UN2 (a5_0) (a3_0) (a4_0) (a6_0) (x7) (x2) (x0) (x1) (x14)) (eu2 : gu = x0) (ec2 : gc = x7) (ed2 : gd = x1) : QKP (a5_0) (a3_0) (a4_0) (a6_0) (gc) (x2) (gu) (gd) (x27) (x29) := by
  first
    | (rw [show gu = x0 by omega, show gc = x7 by omega, show gd = x1 by omega]; exact un2_qkp (e := x15) ‹UN2 _ _ _ _ _ _ _ _ _› (by omega) rfl (by omega) (by omega) (by omega) (by first | exact Or.inl ⟨by omega, by omega, by rw [← ‹x17 = a4_0 x15›]; exact (bit_one (s := x1) (t := x18) (c := x20) (v := x17) (one := x19) (by assumption) (by assumption) (by omega) (by omega) (by omega) (by omega)).mpr (by omega)⟩ | exact Or.inr ⟨by omega, by omega, by rw [← ‹x19 = a3_0 x15›]; exact (bit_one (s := x1) (t := x20) (c := x22) (v := x19) (one := x21) (by assumption) (by assumption) (by omega) (by omega) (by omega) (by omega)).mpr (by omega)⟩ | exact Or.inr ⟨by omega, by omega, by rw [← ‹x23 = a3_0 x15›]; exact (bit_one (s := x1) (t := x24) (c := x26) (v := x23) (one := x25) (by assumption) (by assumption) (by omega) (by omega) (by omega) (by omega)).mpr (by omega)⟩) (by omega) (by omega) (by omega) (by omega) (by omega) (by omega))
  
set_option maxHeartbeats 4000000 in
theorem vc_Fa_uniteAt_at_Nptail_Nphead_Emblock_16_13 (x0 : Int) (x15 : Int) (x16 : Int) (x17 : Int) (x22 : Int) (x25 : Int) (x26 : Int) (x28 : Int) (a5_0 : Int → Int) (a4_0 : Int → Int) (a3_0 : Int → Int) (gu : Int) (k0 : 0 ≤ x0 ∧ x0 ≤ 24) (k15 : 0 ≤ x15 ∧ x15 ≤ 71) (k16 : 0 ≤ x16 ∧ x16 ≤ 24) (k17 : 0 ≤ x17 ∧ x17 ≤ 24) (k22 : 0 ≤ x22 ∧ x22 ≤ 24) (k25 : (-1) ≤ x25 ∧ x25 ≤ 71) (k26 : 0 ≤ x26 ∧ x26 ≤ 71) (k28 : 0 ≤ x28 ∧ x28 ≤ 71) (h3 : x28 = a5_0 (x15)) (h7 : x26 = a5_0 (x15)) (h9 : x25 = a5_0 (x15)) (h12 : x22 = a4_0 (x15)) (h17 : x17 = a4_0 (x15)) (h19 : x16 = a3_0 (x15)) (eu2 : gu = x0) : gu = x0 := by
  first
    | omega
    | (skip; (first | subst h3 | skip); (first | subst h7 | skip); (first | subst h9 | skip); (first | subst h12 | skip); (first | subst h17 | skip); (first | subst h19 | skip); have q := ‹BLQ _ _› x15 (by omega) (by omega); omega)
set_option maxHeartbeats 4000000 in
theorem vc_Fa_uniteAt_at_Nptail_Nphead_Emblock_16_14 (x15 : Int) (x16 : Int) (x17 : Int) (x22 : Int) (x25 : Int) (x26 : Int) (x28 : Int) (x29 : Int) (a5_0 : Int → Int) (a4_0 : Int → Int) (a3_0 : Int → Int) (k15 : 0 ≤ x15 ∧ x15 ≤ 71) (k16 : 0 ≤ x16 ∧ x16 ≤ 24) (k17 : 0 ≤ x17 ∧ x17 ≤ 24) (k22 : 0 ≤ x22 ∧ x22 ≤ 24) (k25 : (-1) ≤ x25 ∧ x25 ≤ 71) (k26 : 0 ≤ x26 ∧ x26 ≤ 71) (k28 : 0 ≤ x28 ∧ x28 ≤ 71) (k29 : 0 ≤ x29 ∧ x29 ≤ 71) (h3 : x28 = a5_0 (x15)) (h7 : x26 = a5_0 (x15)) (h9 : x25 = a5_0 (x15)) (h12 : x22 = a4_0 (x15)) (h17 : x17 = a4_0 (x15)) (h19 : x16 = a3_0 (x15)) : 0 ≤ x29 := by
  first
    | omega
    | (skip; (first | subst h3 | skip); (first | subst h7 | skip); (first | subst h9 | skip); (first | subst h12 | skip); (first | subst h17 | skip); (first | subst h19 | skip); have q := ‹BLQ _ _› x15 (by omega) (by omega); omega)
set_option maxHeartbeats 4000000 in
theorem vc_Fa_uniteAt_at_Nptail_Nphead_Emblock_16_15 (x7 : Int) (x15 : Int) (x16 : Int) (x17 : Int) (x22 : Int) (x25 : Int) (x26 : Int) (x28 : Int) (a5_0 : Int → Int) (a4_0 : Int → Int) (a3_0 : Int → Int) (gc : Int) (k7 : 0 ≤ x7 ∧ x7 ≤ 25) (k15 : 0 ≤ x15 ∧ x15 ≤ 71) (k16 : 0 ≤ x16 ∧ x16 ≤ 24) (k17 : 0 ≤ x17 ∧ x17 ≤ 24) (k22 : 0 ≤ x22 ∧ x22 ≤ 24) (k25 : (-1) ≤ x25 ∧ x25 ≤ 71) (k26 : 0 ≤ x26 ∧ x26 ≤ 71) (k28 : 0 ≤ x28 ∧ x28 ≤ 71) (h3 : x28 = a5_0 (x15)) (h7 : x26 = a5_0 (x15)) (h9 : x25 = a5_0 (x15)) (h12 : x22 = a4_0 (x15)) (h17 : x17 = a4_0 (x15)) (h19 : x16 = a3_0 (x15)) (ec2 : gc = x7) : gc = x7 := by
  first
    | omega
    | (skip; (first | subst h3 | skip); (first | subst h7 | skip); (first | subst h9 | skip); (first | subst h12 | skip); (first | subst h17 | skip); (first | subst h19 | skip); have q := ‹BLQ _ _› x15 (by omega) (by omega); omega)
set_option maxHeartbeats 4000000 in
theorem vc_Fa_uniteAt_at_Nptail_Nphead_Emblock_16_16 (x1 : Int) (x15 : Int) (x16 : Int) (x17 : Int) (x22 : Int) (x25 : Int) (x26 : Int) (x28 : Int) (a5_0 : Int → Int) (a4_0 : Int → Int) (a3_0 : Int → Int) (gd : Int) (k1 : 0 ≤ x1 ∧ x1 ≤ 33554431) (k15 : 0 ≤ x15 ∧ x15 ≤ 71) (k16 : 0 ≤ x16 ∧ x16 ≤ 24) (k17 : 0 ≤ x17 ∧ x17 ≤ 24) (k22 : 0 ≤ x22 ∧ x22 ≤ 24) (k25 : (-1) ≤ x25 ∧ x25 ≤ 71) (k26 : 0 ≤ x26 ∧ x26 ≤ 71) (k28 : 0 ≤ x28 ∧ x28 ≤ 71) (h3 : x28 = a5_0 (x15)) (h7 : x26 = a5_0 (x15)) (h9 : x25 = a5_0 (x15)) (h12 : x22 = a4_0 (x15)) (h17 : x17 = a4_0 (x15)) (h19 : x16 = a3_0 (x15)) (ed2 : gd = x1) : gd = x1 := by
  first
    | omega
    | (skip; (first | subst h3 | skip); (first | subst h7 | skip); (first | subst h9 | skip); (first | subst h12 | skip); (first | subst h17 | skip); (first | subst h19 | skip); have q := ‹BLQ _ _› x15 (by omega) (by omega); omega)
def o_Fa_uniteAt_at_Nptail_Nphead_Emblock_16 : or_T := (136, 30, [(0, (0, 0, 24, [])), (1, (0, 0, 33554431, [])), (2, (0, 1, 72, [])), (3, (2, 0, 0, [140])), (4, (2, 0, 0, [141])), (5, (2, 0, 0, [26])), (6, (2, 0, 0, [142])), (7, (0, 0, 25, [])), (8, (0, 0, 24, [])), (9, (0, 0, 33554431, [])), (10, (0, 1, 72, [])), (11, (2, 0, 0, [140])), (12, (2, 0, 0, [141])), (13, (2, 0, 0, [26])), (14, (0, 0, 71, [])), (15, (0, 0, 71, [])), (16, (0, 0, 24, [])), (17, (0, 0, 24, [])), (18, (0, 0, 33554431, [])), (19, (0, 1, 1, [])), (20, (0, 1, 1, [])), (22, (0, 0, 24, [])), (24, (0, -1, -1, [])), (25, (0, -1, 71, [])), (26, (0, 0, 71, [])), (27, (0, 0, 71, [])), (28, (0, 0, 71, [])), (29, (0, 0, 71, []))], [(23, [14, 29], [0, -1, 1]), (23, [28, 29], [0, -1, 1]), (20, [29, 14, 28], [50, 0, 0, 3, 6, 1, 2, 1, 0, 1, 1, 1, 2, 1, 0, 1, 2]), (10, [28, 13, 15], []), (23, [14, 27], [0, 1, -1]), (23, [26, 27], [0, 1, -1]), (20, [27, 14, 26], [50, 0, 0, 3, 6, 1, 2, 1, 0, 1, 1, 1, 2, 1, 0, 1, 2]), (10, [26, 13, 15], []), (7, [25, 14], [1]), (10, [25, 13, 15], []), (7, [14, 24], [1]), (7, [22, 8], [1]), (10, [22, 12, 15], []), (8, [20], [1]), (12, [20, 18], [2]), (16, [20, 18, 19], [0]), (16, [18, 9, 17], [4]), (10, [17, 12, 15], []), (7, [16, 8], [0]), (10, [16, 11, 15], []), (7, [15, 10], [2]), (20, [13, 10], [61, 1, 566]), (20, [13, 11, 12, 10, 8, 14], [61, 3, 584]), (20, [13, 11, 12, 6, 7, 10, 8, 9, 14], [61, 4, 589]), (24, [0, 8], []), (24, [1, 9], []), (24, [2, 10], []), (24, [3, 11], []), (24, [4, 12], []), (24, [5, 13], [])], [], [(2, 0, 0, [140]), (2, 0, 0, [141]), (0, 0, 24, []), (2, 0, 0, [142]), (0, 0, 25, []), (0, -2147483648, 2147483647, [])], [(24, [3, 30], []), (24, [4, 31], []), (23, [32, 8], [0, 1, -1]), (23, [32, 8], [0, -1, 1]), (24, [6, 33], []), (23, [34, 7], [0, 1, -1]), (23, [34, 7], [0, -1, 1]), (23, [35, 9], [0, 1, -1]), (23, [35, 9], [0, -1, 1]), (20, [13, 10], [61, 1, 566]), (20, [29, 27], [50, 0, 0, 2, 6, 0, 2, 0, 0, 1, 0, 0, 2, 1, 0, 1, 1]), (20, [13, 30, 31, 10, 27, 29, 32], [61, 3, 581]), (20, [13, 30, 31, 33, 34, 10, 32, 35, 27, 29], [61, 4, 590]), (20, [32, 8], [50, 0, 0, 1, 2, 1, 0, 1, 1]), (20, [29], [50, 0, 0, 0, 2, 0, 0, 1, 0]), (20, [34, 7], [50, 0, 0, 1, 2, 1, 0, 1, 1]), (20, [35, 9], [50, 0, 0, 1, 2, 1, 0, 1, 1])], [], [(16, 8, 0, 0), (15, 10, -4294967296, -1), (0, 8, -4294967296, 0), (1, 9, -4294967296, 0), (2, 10, -4294967296, 0), (8, 0, -4294967296, 0), (9, 1, -4294967296, 0), (10, 2, -4294967296, 0), (14, 15, -4294967296, 70), (15, 2, -4294967296, 0), (15, 10, -4294967296, 0)])
theorem oo_Fa_uniteAt_at_Nptail_Nphead_Emblock_16 {kA : Nat → ClassId} : or_ok PRD kA GG o_Fa_uniteAt_at_Nptail_Nphead_Emblock_16 := by
  refine or_mk fun A ta ws vs hD hth hl => ?_
  intro t0 k0 t1 k1 t2 k2 t3 r3 t4 r4 t5 r5 t6 r6 t7 k7 t8 k8 t9 k9 t10 k10 t11 r11 t12 r12 t13 r13 t14 k14 t15 k15 t16 k16 t17 k17 t18 k18 t19 k19 t20 k20 t22 k22 t24 k24 t25 k25 t26 k26 t27 k27 t28 k28 t29 k29 d0 d1 d2 d3 d4 d5 d6 d7 d8 d9 d10 f0 f1 f2 f3 f4 f5 f6 f7 f8 f9 f10 f11 f12 f13 f14 f15 f16 f17 f18 f19 f20 f21 f22 f23 f24 f25 f26 f27 f28 f29
  replace f0 := shm_22 f0
  replace f1 := shm_22 f1
  replace f2 := shm_898 f2
  replace f3 := shm_107 f3
  replace f4 := shm_7 f4
  replace f5 := shm_7 f5
  replace f6 := shm_898 f6
  replace f7 := shm_107 f7
  replace f8 := shm_40 f8
  replace f9 := shm_107 f9
  replace f10 := shm_40 f10
  replace f11 := shm_40 f11
  replace f12 := shm_107 f12
  replace f13 := shm_142 f13
  replace f15 := shm_11 f15
  replace f16 := shm_13 f16
  replace f17 := shm_107 f17
  replace f19 := shm_107 f19
  replace f20 := shm_6 f20
  replace f21 := shm_365 f21
  replace f22 := shm_1193 f22
  replace f23 := shm_1194 f23
  replace f24 := shm_5 f24
  replace f25 := shm_5 f25
  replace f26 := shm_5 f26
  replace f27 := shm_5 f27
  replace f28 := shm_5 f28
  replace f29 := shm_5 f29
  have q8 : n_v vs 8 = n_v vs 0 := f24.symm
  have q9 : n_v vs 9 = n_v vs 1 := f25.symm
  have q10 : n_v vs 10 = n_v vs 2 := f26.symm
  have q11 : n_v vs 11 = n_v vs 3 := f27.symm
  have q12 : n_v vs 12 = n_v vs 4 := f28.symm
  have q13 : n_v vs 13 = n_v vs 5 := f29.symm
  simp only [q13, q8, q12, q9, q11, q10] at f3 f7 f9 f11 f12 f16 f17 f19 f20 f21 f22 f23
  have h3 : v_iv (n_v vs 28) = w_ei ws (v_ad (n_v vs 5)) (v_iv (n_v vs 15)) := f3
  have h7 : v_iv (n_v vs 26) = w_ei ws (v_ad (n_v vs 5)) (v_iv (n_v vs 15)) := f7
  have h9 : v_iv (n_v vs 25) = w_ei ws (v_ad (n_v vs 5)) (v_iv (n_v vs 15)) := f9
  have h12 : v_iv (n_v vs 22) = w_ei ws (v_ad (n_v vs 4)) (v_iv (n_v vs 15)) := f12
  have h17 : v_iv (n_v vs 17) = w_ei ws (v_ad (n_v vs 4)) (v_iv (n_v vs 15)) := f17
  have h19 : v_iv (n_v vs 16) = w_ei ws (v_ad (n_v vs 3)) (v_iv (n_v vs 15)) := f19
  obtain ⟨u, eu, hu⟩ := iv_ex (ta := ta) (lo := 0) (hi := 24) (z := v_iv (n_v vs 0)) (by omega) (by omega) (by omega) (by omega)
  have eu2 : v_iv (Value.int u) = v_iv (n_v vs 0) := eu
  have eu3 : 0 ≤ v_iv (Value.int u) ∧ v_iv (Value.int u) ≤ 24 := tv_rng hu
  obtain ⟨c, ec, hc⟩ := iv_ex (ta := ta) (lo := 0) (hi := 25) (z := v_iv (n_v vs 7)) (by omega) (by omega) (by omega) (by omega)
  have ec2 : v_iv (Value.int c) = v_iv (n_v vs 7) := ec
  have ec3 : 0 ≤ v_iv (Value.int c) ∧ v_iv (Value.int c) ≤ 25 := tv_rng hc
  obtain ⟨d, ed, hd⟩ := iv_ex (ta := ta) (lo := (-2147483648)) (hi := 2147483647) (z := v_iv (n_v vs 1)) (by omega) (by omega) (by omega) (by omega)
  have ed2 : v_iv (Value.int d) = v_iv (n_v vs 1) := ed
  have ed3 : (-2147483648) ≤ v_iv (Value.int d) ∧ v_iv (Value.int d) ≤ 2147483647 := tv_rng hd
  have e_3 : n_v (vs ++ [n_v vs 3, n_v vs 4, Value.int u, n_v vs 6, Value.int c, Value.int d]) 3 = n_v vs 3 := n_v_old (by rw [hl]; decide)
  have e_4 : n_v (vs ++ [n_v vs 3, n_v vs 4, Value.int u, n_v vs 6, Value.int c, Value.int d]) 4 = n_v vs 4 := n_v_old (by rw [hl]; decide)
  have e_6 : n_v (vs ++ [n_v vs 3, n_v vs 4, Value.int u, n_v vs 6, Value.int c, Value.int d]) 6 = n_v vs 6 := n_v_old (by rw [hl]; decide)
  have e_7 : n_v (vs ++ [n_v vs 3, n_v vs 4, Value.int u, n_v vs 6, Value.int c, Value.int d]) 7 = n_v vs 7 := n_v_old (by rw [hl]; decide)
  have e_8 : n_v (vs ++ [n_v vs 3, n_v vs 4, Value.int u, n_v vs 6, Value.int c, Value.int d]) 8 = n_v vs 8 := n_v_old (by rw [hl]; decide)
  have e_9 : n_v (vs ++ [n_v vs 3, n_v vs 4, Value.int u, n_v vs 6, Value.int c, Value.int d]) 9 = n_v vs 9 := n_v_old (by rw [hl]; decide)
  have e_10 : n_v (vs ++ [n_v vs 3, n_v vs 4, Value.int u, n_v vs 6, Value.int c, Value.int d]) 10 = n_v vs 10 := n_v_old (by rw [hl]; decide)
  have e_13 : n_v (vs ++ [n_v vs 3, n_v vs 4, Value.int u, n_v vs 6, Value.int c, Value.int d]) 13 = n_v vs 13 := n_v_old (by rw [hl]; decide)
  have e_27 : n_v (vs ++ [n_v vs 3, n_v vs 4, Value.int u, n_v vs 6, Value.int c, Value.int d]) 27 = n_v vs 27 := n_v_old (by rw [hl]; decide)
  have e_29 : n_v (vs ++ [n_v vs 3, n_v vs 4, Value.int u, n_v vs 6, Value.int c, Value.int d]) 29 = n_v vs 29 := n_v_old (by rw [hl]; decide)
  have e_30 : n_v (vs ++ [n_v vs 3, n_v vs 4, Value.int u, n_v vs 6, Value.int c, Value.int d]) 30 = n_v vs 3 := n_v_newk (k := 0) hl rfl
  have e_31 : n_v (vs ++ [n_v vs 3, n_v vs 4, Value.int u, n_v vs 6, Value.int c, Value.int d]) 31 = n_v vs 4 := n_v_newk (k := 1) hl rfl
  have e_32 : n_v (vs ++ [n_v vs 3, n_v vs 4, Value.int u, n_v vs 6, Value.int c, Value.int d]) 32 = Value.int u := n_v_newk (k := 2) hl rfl
  have e_33 : n_v (vs ++ [n_v vs 3, n_v vs 4, Value.int u, n_v vs 6, Value.int c, Value.int d]) 33 = n_v vs 6 := n_v_newk (k := 3) hl rfl
  have e_34 : n_v (vs ++ [n_v vs 3, n_v vs 4, Value.int u, n_v vs 6, Value.int c, Value.int d]) 34 = Value.int c := n_v_newk (k := 4) hl rfl
  have e_35 : n_v (vs ++ [n_v vs 3, n_v vs 4, Value.int u, n_v vs 6, Value.int c, Value.int d]) 35 = Value.int d := n_v_newk (k := 5) hl rfl
  have nf0 : fc_1 PRD (24, [3, 30], []) ws (vs ++ [n_v vs 3, n_v vs 4, Value.int u, n_v vs 6, Value.int c, Value.int d]) := by
    refine ⟨nf_inA hl rfl, sgq_5 ?_⟩
    · show n_v (vs ++ [n_v vs 3, n_v vs 4, Value.int u, n_v vs 6, Value.int c, Value.int d]) 3 = n_v (vs ++ [n_v vs 3, n_v vs 4, Value.int u, n_v vs 6, Value.int c, Value.int d]) 30
      first | rfl | simp only [e_3, e_30, q8, q9, q10, q11, q12, q13]
  have nf1 : fc_1 PRD (24, [4, 31], []) ws (vs ++ [n_v vs 3, n_v vs 4, Value.int u, n_v vs 6, Value.int c, Value.int d]) := by
    refine ⟨nf_inA hl rfl, sgq_5 ?_⟩
    · show n_v (vs ++ [n_v vs 3, n_v vs 4, Value.int u, n_v vs 6, Value.int c, Value.int d]) 4 = n_v (vs ++ [n_v vs 3, n_v vs 4, Value.int u, n_v vs 6, Value.int c, Value.int d]) 31
      first | rfl | simp only [e_4, e_31, q8, q9, q10, q11, q12, q13]
  have nf2 : fc_1 PRD (23, [32, 8], [0, 1, -1]) ws (vs ++ [n_v vs 3, n_v vs 4, Value.int u, n_v vs 6, Value.int c, Value.int d]) := by
    refine ⟨nf_inA hl rfl, sgq_7 ?_⟩
    · show 1 * v_iv (n_v (vs ++ [n_v vs 3, n_v vs 4, Value.int u, n_v vs 6, Value.int c, Value.int d]) 32) + ((-1) * v_iv (n_v (vs ++ [n_v vs 3, n_v vs 4, Value.int u, n_v vs 6, Value.int c, Value.int d]) 8) + 0) ≤ 0
      simp only [e_8, e_32, q8]
      exact vc_Fa_uniteAt_at_Nptail_Nphead_Emblock_16_2 (v_iv (n_v vs 0)) (v_iv (n_v vs 8)) (v_iv (n_v vs 15)) (v_iv (n_v vs 16)) (v_iv (n_v vs 17)) (v_iv (n_v vs 22)) (v_iv (n_v vs 25)) (v_iv (n_v vs 26)) (v_iv (n_v vs 28)) (w_ei ws (v_ad (n_v vs 5))) (w_ei ws (v_ad (n_v vs 4))) (w_ei ws (v_ad (n_v vs 3))) (v_iv (Value.int u)) k0 k8 k15 k16 k17 k22 k25 k26 k28 d0 d2 d5 h3 h7 h9 h12 h17 h19 eu2
  have nf3 : fc_1 PRD (23, [32, 8], [0, -1, 1]) ws (vs ++ [n_v vs 3, n_v vs 4, Value.int u, n_v vs 6, Value.int c, Value.int d]) := by
    refine ⟨nf_inA hl rfl, sgq_22 ?_⟩
    · show (-1) * v_iv (n_v (vs ++ [n_v vs 3, n_v vs 4, Value.int u, n_v vs 6, Value.int c, Value.int d]) 32) + (1 * v_iv (n_v (vs ++ [n_v vs 3, n_v vs 4, Value.int u, n_v vs 6, Value.int c, Value.int d]) 8) + 0) ≤ 0
      simp only [e_8, e_32, q8]
      exact vc_Fa_uniteAt_at_Nptail_Nphead_Emblock_16_3 (v_iv (n_v vs 0)) (v_iv (n_v vs 8)) (v_iv (n_v vs 15)) (v_iv (n_v vs 16)) (v_iv (n_v vs 17)) (v_iv (n_v vs 22)) (v_iv (n_v vs 25)) (v_iv (n_v vs 26)) (v_iv (n_v vs 28)) (w_ei ws (v_ad (n_v vs 5))) (w_ei ws (v_ad (n_v vs 4))) (w_ei ws (v_ad (n_v vs 3))) (v_iv (Value.int u)) k0 k8 k15 k16 k17 k22 k25 k26 k28 d0 d2 d5 h3 h7 h9 h12 h17 h19 eu2
  have nf4 : fc_1 PRD (24, [6, 33], []) ws (vs ++ [n_v vs 3, n_v vs 4, Value.int u, n_v vs 6, Value.int c, Value.int d]) := by
    refine ⟨nf_inA hl rfl, sgq_5 ?_⟩
    · show n_v (vs ++ [n_v vs 3, n_v vs 4, Value.int u, n_v vs 6, Value.int c, Value.int d]) 6 = n_v (vs ++ [n_v vs 3, n_v vs 4, Value.int u, n_v vs 6, Value.int c, Value.int d]) 33
      first | rfl | simp only [e_6, e_33, q8, q9, q10, q11, q12, q13]
  have nf5 : fc_1 PRD (23, [34, 7], [0, 1, -1]) ws (vs ++ [n_v vs 3, n_v vs 4, Value.int u, n_v vs 6, Value.int c, Value.int d]) := by
    refine ⟨nf_inA hl rfl, sgq_7 ?_⟩
    · show 1 * v_iv (n_v (vs ++ [n_v vs 3, n_v vs 4, Value.int u, n_v vs 6, Value.int c, Value.int d]) 34) + ((-1) * v_iv (n_v (vs ++ [n_v vs 3, n_v vs 4, Value.int u, n_v vs 6, Value.int c, Value.int d]) 7) + 0) ≤ 0
      simp only [e_7, e_34]
      exact vc_Fa_uniteAt_at_Nptail_Nphead_Emblock_16_5 (v_iv (n_v vs 7)) (v_iv (n_v vs 15)) (v_iv (n_v vs 16)) (v_iv (n_v vs 17)) (v_iv (n_v vs 22)) (v_iv (n_v vs 25)) (v_iv (n_v vs 26)) (v_iv (n_v vs 28)) (w_ei ws (v_ad (n_v vs 5))) (w_ei ws (v_ad (n_v vs 4))) (w_ei ws (v_ad (n_v vs 3))) (v_iv (Value.int c)) k7 k15 k16 k17 k22 k25 k26 k28 h3 h7 h9 h12 h17 h19 ec2
  have nf6 : fc_1 PRD (23, [34, 7], [0, -1, 1]) ws (vs ++ [n_v vs 3, n_v vs 4, Value.int u, n_v vs 6, Value.int c, Value.int d]) := by
    refine ⟨nf_inA hl rfl, sgq_22 ?_⟩
    · show (-1) * v_iv (n_v (vs ++ [n_v vs 3, n_v vs 4, Value.int u, n_v vs 6, Value.int c, Value.int d]) 34) + (1 * v_iv (n_v (vs ++ [n_v vs 3, n_v vs 4, Value.int u, n_v vs 6, Value.int c, Value.int d]) 7) + 0) ≤ 0
      simp only [e_7, e_34]
      exact vc_Fa_uniteAt_at_Nptail_Nphead_Emblock_16_6 (v_iv (n_v vs 7)) (v_iv (n_v vs 15)) (v_iv (n_v vs 16)) (v_iv (n_v vs 17)) (v_iv (n_v vs 22)) (v_iv (n_v vs 25)) (v_iv (n_v vs 26)) (v_iv (n_v vs 28)) (w_ei ws (v_ad (n_v vs 5))) (w_ei ws (v_ad (n_v vs 4))) (w_ei ws (v_ad (n_v vs 3))) (v_iv (Value.int c)) k7 k15 k16 k17 k22 k25 k26 k28 h3 h7 h9 h12 h17 h19 ec2
  have nf7 : fc_1 PRD (23, [35, 9], [0, 1, -1]) ws (vs ++ [n_v vs 3, n_v vs 4, Value.int u, n_v vs 6, Value.int c, Value.int d]) := by
    refine ⟨nf_inA hl rfl, sgq_7 ?_⟩
    · show 1 * v_iv (n_v (vs ++ [n_v vs 3, n_v vs 4, Value.int u, n_v vs 6, Value.int c, Value.int d]) 35) + ((-1) * v_iv (n_v (vs ++ [n_v vs 3, n_v vs 4, Value.int u, n_v vs 6, Value.int c, Value.int d]) 9) + 0) ≤ 0
      simp only [e_9, e_35, q9]
      exact vc_Fa_uniteAt_at_Nptail_Nphead_Emblock_16_7 (v_iv (n_v vs 1)) (v_iv (n_v vs 9)) (v_iv (n_v vs 15)) (v_iv (n_v vs 16)) (v_iv (n_v vs 17)) (v_iv (n_v vs 22)) (v_iv (n_v vs 25)) (v_iv (n_v vs 26)) (v_iv (n_v vs 28)) (w_ei ws (v_ad (n_v vs 5))) (w_ei ws (v_ad (n_v vs 4))) (w_ei ws (v_ad (n_v vs 3))) (v_iv (Value.int d)) k1 k9 k15 k16 k17 k22 k25 k26 k28 d3 d6 h3 h7 h9 h12 h17 h19 ed2
  have nf8 : fc_1 PRD (23, [35, 9], [0, -1, 1]) ws (vs ++ [n_v vs 3, n_v vs 4, Value.int u, n_v vs 6, Value.int c, Value.int d]) := by
    refine ⟨nf_inA hl rfl, sgq_22 ?_⟩
    · show (-1) * v_iv (n_v (vs ++ [n_v vs 3, n_v vs 4, Value.int u, n_v vs 6, Value.int c, Value.int d]) 35) + (1 * v_iv (n_v (vs ++ [n_v vs 3, n_v vs 4, Value.int u, n_v vs 6, Value.int c, Value.int d]) 9) + 0) ≤ 0
      simp only [e_9, e_35, q9]
      exact vc_Fa_uniteAt_at_Nptail_Nphead_Emblock_16_8 (v_iv (n_v vs 1)) (v_iv (n_v vs 9)) (v_iv (n_v vs 15)) (v_iv (n_v vs 16)) (v_iv (n_v vs 17)) (v_iv (n_v vs 22)) (v_iv (n_v vs 25)) (v_iv (n_v vs 26)) (v_iv (n_v vs 28)) (w_ei ws (v_ad (n_v vs 5))) (w_ei ws (v_ad (n_v vs 4))) (w_ei ws (v_ad (n_v vs 3))) (v_iv (Value.int d)) k1 k9 k15 k16 k17 k22 k25 k26 k28 d3 d6 h3 h7 h9 h12 h17 h19 ed2
  have nf9 : fc_1 PRD (20, [13, 10], [61, 1, 566]) ws (vs ++ [n_v vs 3, n_v vs 4, Value.int u, n_v vs 6, Value.int c, Value.int d]) := by
    refine ⟨nf_inA hl rfl, sgq_365 ?_⟩
    · show BLQ (w_ei ws (v_ad (n_v (vs ++ [n_v vs 3, n_v vs 4, Value.int u, n_v vs 6, Value.int c, Value.int d]) 13))) (v_iv (n_v (vs ++ [n_v vs 3, n_v vs 4, Value.int u, n_v vs 6, Value.int c, Value.int d]) 10))
      simp only [e_10, e_13, q10, q13]
      exact vc_Fa_uniteAt_at_Nptail_Nphead_Emblock_16_9 (v_iv (n_v vs 2)) (w_ei ws (v_ad (n_v vs 5))) k2 f21
  have nf10 : fc_1 PRD (20, [29, 27], [50, 0, 0, 2, 6, 0, 2, 0, 0, 1, 0, 0, 2, 1, 0, 1, 1]) ws (vs ++ [n_v vs 3, n_v vs 4, Value.int u, n_v vs 6, Value.int c, Value.int d]) := by
    refine ⟨nf_inA hl rfl, sgq_366 ?_⟩
    · show (0 ≤ v_iv (n_v (vs ++ [n_v vs 3, n_v vs 4, Value.int u, n_v vs 6, Value.int c, Value.int d]) 29)) ∧ (v_iv (n_v (vs ++ [n_v vs 3, n_v vs 4, Value.int u, n_v vs 6, Value.int c, Value.int d]) 29) ≤ v_iv (n_v (vs ++ [n_v vs 3, n_v vs 4, Value.int u, n_v vs 6, Value.int c, Value.int d]) 27))
      simp only [e_27, e_29]
      exact vc_Fa_uniteAt_at_Nptail_Nphead_Emblock_16_10 (v_iv (n_v vs 15)) (v_iv (n_v vs 16)) (v_iv (n_v vs 17)) (v_iv (n_v vs 22)) (v_iv (n_v vs 25)) (v_iv (n_v vs 26)) (v_iv (n_v vs 27)) (v_iv (n_v vs 28)) (v_iv (n_v vs 29)) (w_ei ws (v_ad (n_v vs 5))) (w_ei ws (v_ad (n_v vs 4))) (w_ei ws (v_ad (n_v vs 3))) k15 k16 k17 k22 k25 k26 k27 k28 k29 f1 h3 f5 h7 h9 h12 h17 h19
  have nf11 : fc_1 PRD (20, [13, 30, 31, 10, 27, 29, 32], [61, 3, 581]) ws (vs ++ [n_v vs 3, n_v vs 4, Value.int u, n_v vs 6, Value.int c, Value.int d]) := by
    refine ⟨nf_inA hl rfl, sgq_367 ?_⟩
    · show RLP (w_ei ws (v_ad (n_v (vs ++ [n_v vs 3, n_v vs 4, Value.int u, n_v vs 6, Value.int c, Value.int d]) 13))) (w_ei ws (v_ad (n_v (vs ++ [n_v vs 3, n_v vs 4, Value.int u, n_v vs 6, Value.int c, Value.int d]) 30))) (w_ei ws (v_ad (n_v (vs ++ [n_v vs 3, n_v vs 4, Value.int u, n_v vs 6, Value.int c, Value.int d]) 31))) (v_iv (n_v (vs ++ [n_v vs 3, n_v vs 4, Value.int u, n_v vs 6, Value.int c, Value.int d]) 10)) (v_iv (n_v (vs ++ [n_v vs 3, n_v vs 4, Value.int u, n_v vs 6, Value.int c, Value.int d]) 27)) (v_iv (n_v (vs ++ [n_v vs 3, n_v vs 4, Value.int u, n_v vs 6, Value.int c, Value.int d]) 29)) (v_iv (n_v (vs ++ [n_v vs 3, n_v vs 4, Value.int u, n_v vs 6, Value.int c, Value.int d]) 32))
      simp only [e_10, e_13, e_27, e_29, e_30, e_31, e_32, q10, q13]
      exact vc_Fa_uniteAt_at_Nptail_Nphead_Emblock_16_11 (v_iv (n_v vs 0)) (v_iv (n_v vs 2)) (v_iv (n_v vs 8)) (v_iv (n_v vs 14)) (v_iv (n_v vs 15)) (v_iv (n_v vs 16)) (v_iv (n_v vs 20)) (v_iv (n_v vs 22)) (v_iv (n_v vs 24)) (v_iv (n_v vs 25)) (v_iv (n_v vs 26)) (v_iv (n_v vs 27)) (v_iv (n_v vs 28)) (v_iv (n_v vs 29)) (w_ei ws (v_ad (n_v vs 5))) (w_ei ws (v_ad (n_v vs 4))) (w_ei ws (v_ad (n_v vs 3))) (v_iv (Value.int u)) k0 k2 k8 k14 k15 k16 k20 k22 k24 k25 k26 k27 k28 k29 d0 d2 d5 f0 f1 f2 h3 f4 f5 f6 h7 f8 h9 f10 f11 f13 h19 f20 f22 eu2
  have nf12 : fc_1 PRD (20, [13, 30, 31, 33, 34, 10, 32, 35, 27, 29], [61, 4, 590]) ws (vs ++ [n_v vs 3, n_v vs 4, Value.int u, n_v vs 6, Value.int c, Value.int d]) := by
    refine ⟨nf_inA hl rfl, sgq_368 ?_⟩
    · show QKP (w_ei ws (v_ad (n_v (vs ++ [n_v vs 3, n_v vs 4, Value.int u, n_v vs 6, Value.int c, Value.int d]) 13))) (w_ei ws (v_ad (n_v (vs ++ [n_v vs 3, n_v vs 4, Value.int u, n_v vs 6, Value.int c, Value.int d]) 30))) (w_ei ws (v_ad (n_v (vs ++ [n_v vs 3, n_v vs 4, Value.int u, n_v vs 6, Value.int c, Value.int d]) 31))) (w_ei ws (v_ad (n_v (vs ++ [n_v vs 3, n_v vs 4, Value.int u, n_v vs 6, Value.int c, Value.int d]) 33))) (v_iv (n_v (vs ++ [n_v vs 3, n_v vs 4, Value.int u, n_v vs 6, Value.int c, Value.int d]) 34)) (v_iv (n_v (vs ++ [n_v vs 3, n_v vs 4, Value.int u, n_v vs 6, Value.int c, Value.int d]) 10)) (v_iv (n_v (vs ++ [n_v vs 3, n_v vs 4, Value.int u, n_v vs 6, Value.int c, Value.int d]) 32)) (v_iv (n_v (vs ++ [n_v vs 3, n_v vs 4, Value.int u, n_v vs 6, Value.int c, Value.int d]) 35)) (v_iv (n_v (vs ++ [n_v vs 3, n_v vs 4, Value.int u, n_v vs 6, Value.int c, Value.int d]) 27)) (v_iv (n_v (vs ++ [n_v vs 3, n_v vs 4, Value.int u, n_v vs 6, Value.int c, Value.int d]) 29))
      simp only [e_10, e_13, e_27, e_29, e_30, e_31, e_32, e_33, e_34, e_35, q10, q13]
      exact vc_Fa_uniteAt_at_Nptail_Nphead_Emblock_16_12 (v_iv (n_v vs 0)) (v_iv (n_v vs 1)) (v_iv (n_v vs 2)) (v_iv (n_v vs 7)) (v_iv (n_v vs 8)) (v_iv (n_v vs 14)) (v_iv (n_v vs 15)) (v_iv (n_v vs 16)) (v_iv (n_v vs 17)) (v_iv (n_v vs 18)) (v_iv (n_v vs 19)) (v_iv (n_v vs 20)) (v_iv (n_v vs 22)) (v_iv (n_v vs 24)) (v_iv (n_v vs 25)) (v_iv (n_v vs 26)) (v_iv (n_v vs 27)) (v_iv (n_v vs 28)) (v_iv (n_v vs 29)) (w_ei ws (v_ad (n_v vs 5))) (w_ei ws (v_ad (n_v vs 4))) (w_ei ws (v_ad (n_v vs 3))) (w_ei ws (v_ad (n_v vs 6))) (v_iv (Value.int u)) (v_iv (Value.int c)) (v_iv (Value.int d)) k0 k1 k2 k7 k8 k14 k15 k16 k17 k18 k19 k20 k22 k24 k25 k26 k27 k28 k29 d0 d2 d5 f0 f1 f2 h3 f4 f5 f6 h7 f8 h9 f10 f11 f13 f15 f16 h17 h19 f20 f23 eu2 ec2 ed2
  have nf13 : fc_1 PRD (20, [32, 8], [50, 0, 0, 1, 2, 1, 0, 1, 1]) ws (vs ++ [n_v vs 3, n_v vs 4, Value.int u, n_v vs 6, Value.int c, Value.int d]) := by
    refine ⟨nf_inA hl rfl, sgq_48 ?_⟩
    · show v_iv (n_v (vs ++ [n_v vs 3, n_v vs 4, Value.int u, n_v vs 6, Value.int c, Value.int d]) 32) = v_iv (n_v (vs ++ [n_v vs 3, n_v vs 4, Value.int u, n_v vs 6, Value.int c, Value.int d]) 8)
      simp only [e_8, e_32, q8]
      exact vc_Fa_uniteAt_at_Nptail_Nphead_Emblock_16_13 (v_iv (n_v vs 0)) (v_iv (n_v vs 15)) (v_iv (n_v vs 16)) (v_iv (n_v vs 17)) (v_iv (n_v vs 22)) (v_iv (n_v vs 25)) (v_iv (n_v vs 26)) (v_iv (n_v vs 28)) (w_ei ws (v_ad (n_v vs 5))) (w_ei ws (v_ad (n_v vs 4))) (w_ei ws (v_ad (n_v vs 3))) (v_iv (Value.int u)) k0 k15 k16 k17 k22 k25 k26 k28 h3 h7 h9 h12 h17 h19 eu2
  have nf14 : fc_1 PRD (20, [29], [50, 0, 0, 0, 2, 0, 0, 1, 0]) ws (vs ++ [n_v vs 3, n_v vs 4, Value.int u, n_v vs 6, Value.int c, Value.int d]) := by
    refine ⟨nf_inA hl rfl, sgq_722 ?_⟩
    · show 0 ≤ v_iv (n_v (vs ++ [n_v vs 3, n_v vs 4, Value.int u, n_v vs 6, Value.int c, Value.int d]) 29)
      rw [e_29]
      exact vc_Fa_uniteAt_at_Nptail_Nphead_Emblock_16_14 (v_iv (n_v vs 15)) (v_iv (n_v vs 16)) (v_iv (n_v vs 17)) (v_iv (n_v vs 22)) (v_iv (n_v vs 25)) (v_iv (n_v vs 26)) (v_iv (n_v vs 28)) (v_iv (n_v vs 29)) (w_ei ws (v_ad (n_v vs 5))) (w_ei ws (v_ad (n_v vs 4))) (w_ei ws (v_ad (n_v vs 3))) k15 k16 k17 k22 k25 k26 k28 k29 h3 h7 h9 h12 h17 h19
  have nf15 : fc_1 PRD (20, [34, 7], [50, 0, 0, 1, 2, 1, 0, 1, 1]) ws (vs ++ [n_v vs 3, n_v vs 4, Value.int u, n_v vs 6, Value.int c, Value.int d]) := by
    refine ⟨nf_inA hl rfl, sgq_48 ?_⟩
    · show v_iv (n_v (vs ++ [n_v vs 3, n_v vs 4, Value.int u, n_v vs 6, Value.int c, Value.int d]) 34) = v_iv (n_v (vs ++ [n_v vs 3, n_v vs 4, Value.int u, n_v vs 6, Value.int c, Value.int d]) 7)
      simp only [e_7, e_34]
      exact vc_Fa_uniteAt_at_Nptail_Nphead_Emblock_16_15 (v_iv (n_v vs 7)) (v_iv (n_v vs 15)) (v_iv (n_v vs 16)) (v_iv (n_v vs 17)) (v_iv (n_v vs 22)) (v_iv (n_v vs 25)) (v_iv (n_v vs 26)) (v_iv (n_v vs 28)) (w_ei ws (v_ad (n_v vs 5))) (w_ei ws (v_ad (n_v vs 4))) (w_ei ws (v_ad (n_v vs 3))) (v_iv (Value.int c)) k7 k15 k16 k17 k22 k25 k26 k28 h3 h7 h9 h12 h17 h19 ec2
  have nf16 : fc_1 PRD (20, [35, 9], [50, 0, 0, 1, 2, 1, 0, 1, 1]) ws (vs ++ [n_v vs 3, n_v vs 4, Value.int u, n_v vs 6, Value.int c, Value.int d]) := by
    refine ⟨nf_inA hl rfl, sgq_48 ?_⟩
    · show v_iv (n_v (vs ++ [n_v vs 3, n_v vs 4, Value.int u, n_v vs 6, Value.int c, Value.int d]) 35) = v_iv (n_v (vs ++ [n_v vs 3, n_v vs 4, Value.int u, n_v vs 6, Value.int c, Value.int d]) 9)
      simp only [e_9, e_35, q9]
      exact vc_Fa_uniteAt_at_Nptail_Nphead_Emblock_16_16 (v_iv (n_v vs 1)) (v_iv (n_v vs 15)) (v_iv (n_v vs 16)) (v_iv (n_v vs 17)) (v_iv (n_v vs 22)) (v_iv (n_v vs 25)) (v_iv (n_v vs 26)) (v_iv (n_v vs 28)) (w_ei ws (v_ad (n_v vs 5))) (w_ei ws (v_ad (n_v vs 4))) (w_ei ws (v_ad (n_v vs 3))) (v_iv (Value.int d)) k1 k15 k16 k17 k22 k25 k26 k28 h3 h7 h9 h12 h17 h19 ed2
  exact ⟨(fun _ h => (by cases h)), [n_v vs 3, n_v vs 4, Value.int u, n_v vs 6, Value.int c, Value.int d], ag_six t3 t4 hu t6 hc hd, List.forall_mem_cons.mpr ⟨⟨show (24 : Nat) < 100 from by decide, nf0⟩, List.forall_mem_cons.mpr ⟨⟨show (24 : Nat) < 100 from by decide, nf1⟩, List.forall_mem_cons.mpr ⟨⟨show (23 : Nat) < 100 from by decide, nf2⟩, List.forall_mem_cons.mpr ⟨⟨show (23 : Nat) < 100 from by decide, nf3⟩, List.forall_mem_cons.mpr ⟨⟨show (24 : Nat) < 100 from by decide, nf4⟩, List.forall_mem_cons.mpr ⟨⟨show (23 : Nat) < 100 from by decide, nf5⟩, List.forall_mem_cons.mpr ⟨⟨show (23 : Nat) < 100 from by decide, nf6⟩, List.forall_mem_cons.mpr ⟨⟨show (23 : Nat) < 100 from by decide, nf7⟩, List.forall_mem_cons.mpr ⟨⟨show (23 : Nat) < 100 from by decide, nf8⟩, List.forall_mem_cons.mpr ⟨⟨show (20 : Nat) < 100 from by decide, nf9⟩, List.forall_mem_cons.mpr ⟨⟨show (20 : Nat) < 100 from by decide, nf10⟩, List.forall_mem_cons.mpr ⟨⟨show (20 : Nat) < 100 from by decide, nf11⟩, List.forall_mem_cons.mpr ⟨⟨show (20 : Nat) < 100 from by decide, nf12⟩, List.forall_mem_cons.mpr ⟨⟨show (20 : Nat) < 100 from by decide, nf13⟩, List.forall_mem_cons.mpr ⟨⟨show (20 : Nat) < 100 from by decide, nf14⟩, List.forall_mem_cons.mpr ⟨⟨show (20 : Nat) < 100 from by decide, nf15⟩, List.forall_mem_cons.mpr ⟨⟨show (20 : Nat) < 100 from by decide, nf16⟩, (fun _ h => (by cases h))⟩⟩⟩⟩⟩⟩⟩⟩⟩⟩⟩⟩⟩⟩⟩⟩⟩, (fun _ h => (by cases h))⟩
set_option maxHeartbeats 4000000 in
theorem vc_Fa_uniteAt_at_Nptail_Nphead_Emblock_17_0 (x0 : Int) (x2 : Int) (x8 : Int) (x15 : Int) (x16 : Int) (x29 : Int) (x32 : Int) (x36 : Int) (a5_0 : Int → Int) (a3_0 : Int → Int) (a4_0 : Int → Int) (k0 : 0 ≤ x0 ∧ x0 ≤ 24) (k2 : 1 ≤ x2 ∧ x2 ≤ 72) (k8 : 0 ≤ x8 ∧ x8 ≤ 24) (k16 : 0 ≤ x16 ∧ x16 ≤ 24) (k29 : 0 ≤ x29 ∧ x29 ≤ 71) (k32 : 0 ≤ x32 ∧ x32 ≤ 24) (d4 : x8 + 0 ≤ x16 ∧ x16 ≤ x8 + 0) (d6 : x8 + (-4294967296) ≤ x0 ∧ x0 ≤ x8 + 0) (d9 : x0 + (-4294967296) ≤ x8 ∧ x8 ≤ x0 + 0) (f3 : 1 * x32 + ((-1) * x0 + 0) ≤ 0) (f4 : (-1) * x32 + (1 * x0 + 0) ≤ 0) (f12 : 0 ≤ x29) (f28 : RLO (a5_0) (a3_0) (a4_0) (x2) (x29) (x32)) : UNI (a5_0) (a3_0) (a4_0) (x2) (x0) (x29) := by
  first
    | (have q := (‹RLO _ _ _ _ _ _›); have h1 := uni_back q (by omega); rw [show x0 = x32 by omega]; exact h1)
    | (have q := (‹RLO _ _ _ _ _ _›); have h1 := uni_back q (by omega); rw [show x0 = x36 by omega]; exact h1)
    | (have q := (‹RLO _ _ _ _ _ _›); have h1 := uni_back q (by omega); rw [show x0 = x30 by omega]; exact h1)
set_option maxHeartbeats 4000000 in
theorem vc_Fa_uniteAt_at_Nptail_Nphead_Emblock_17_1 (x0 : Int) (x1 : Int) (x2 : Int) (x7 : Int) (x8 : Int) (x9 : Int) (x15 : Int) (x16 : Int) (x22 : Int) (x24 : Int) (x25 : Int) (x26 : Int) (x29 : Int) (x32 : Int) (x34 : Int) (x35 : Int) (x36 : Int) (a5_0 : Int → Int) (a3_0 : Int → Int) (a4_0 : Int → Int) (a6_0 : Int → Int) (k0 : 0 ≤ x0 ∧ x0 ≤ 24) (k1 : 0 ≤ x1 ∧ x1 ≤ 33554431) (k2 : 1 ≤ x2 ∧ x2 ≤ 72) (k7 : 0 ≤ x7 ∧ x7 ≤ 25) (k8 : 0 ≤ x8 ∧ x8 ≤ 24) (k9 : 0 ≤ x9 ∧ x9 ≤ 33554431) (k16 : 0 ≤ x16 ∧ x16 ≤ 24) (k29 : 0 ≤ x29 ∧ x29 ≤ 71) (k32 : 0 ≤ x32 ∧ x32 ≤ 24) (k34 : 0 ≤ x34 ∧ x34 ≤ 25) (k35 : (-2147483648) ≤ x35 ∧ x35 ≤ 2147483647) (d4 : x8 + 0 ≤ x16 ∧ x16 ≤ x8 + 0) (d6 : x8 + (-4294967296) ≤ x0 ∧ x0 ≤ x8 + 0) (d7 : x9 + (-4294967296) ≤ x1 ∧ x1 ≤ x9 + 0) (d9 : x0 + (-4294967296) ≤ x8 ∧ x8 ≤ x0 + 0) (d10 : x1 + (-4294967296) ≤ x9 ∧ x9 ≤ x1 + 0) (f3 : 1 * x32 + ((-1) * x0 + 0) ≤ 0) (f4 : (-1) * x32 + (1 * x0 + 0) ≤ 0) (f6 : 1 * x34 + ((-1) * x7 + 0) ≤ 0) (f7 : (-1) * x34 + (1 * x7 + 0) ≤ 0) (f8 : 1 * x35 + ((-1) * x1 + 0) ≤ 0) (f9 : (-1) * x35 + (1 * x1 + 0) ≤ 0) (f29 : QKO (a5_0) (a3_0) (a4_0) (a6_0) (x34) (x2) (x32) (x35) (x29)) : UN2 (a5_0) (a3_0) (a4_0) (a6_0) (x7) (x2) (x0) (x1) (x29) := by
  first
    | (have h1 := un2_back ‹QKO _ _ _ _ _ _ _ _ _›; rw [show x0 = x32 by omega, show x7 = x34 by omega, show x1 = x35 by omega]; exact h1)
    | (have h1 := un2_back ‹QKO _ _ _ _ _ _ _ _ _›; rw [show x0 = x36 by omega, show x7 = x38 by omega, show x1 = x39 by omega]; exact h1)
    | (have h1 := un2_back ‹QKO _ _ _ _ _ _ _ _ _›; rw [show x0 = x30 by omega, show x7 = x32 by omega, show x1 = x33 by omega]; exact h1)
def o_Fa_uniteAt_at_Nptail_Nphead_Emblock_17 : or_T := (6, 37, [(0, (0, 0, 24, [])), (1, (0, 0, 33554431, [])), (2, (0, 1, 72, [])), (3, (2, 0, 0, [140])), (4, (2, 0, 0, [141])), (5, (2, 0, 0, [26])), (6, (2, 0, 0, [142])), (7, (0, 0, 25, [])), (8, (0, 0, 24, [])), (9, (0, 0, 33554431, [])), (10, (0, 1, 72, [])), (11, (2, 0, 0, [140])), (12, (2, 0, 0, [141])), (13, (2, 0, 0, [26])), (14, (0, 0, 71, [])), (15, (0, 0, 71, [])), (16, (0, 0, 24, [])), (22, (0, 0, 24, [])), (24, (0, -1, -1, [])), (25, (0, -1, 71, [])), (26, (0, 0, 71, [])), (27, (0, 0, 71, [])), (28, (0, 0, 71, [])), (29, (0, 0, 71, [])), (30, (2, 0, 0, [140])), (31, (2, 0, 0, [141])), (32, (0, 0, 24, [])), (33, (2, 0, 0, [142])), (34, (0, 0, 25, [])), (35, (0, -2147483648, 2147483647, [])), (36, (0, 1, 72, []))], [(6, [36, 15], [1]), (24, [3, 30], []), (24, [4, 31], []), (23, [32, 8], [0, 1, -1]), (23, [32, 8], [0, -1, 1]), (24, [6, 33], []), (23, [34, 7], [0, 1, -1]), (23, [34, 7], [0, -1, 1]), (23, [35, 9], [0, 1, -1]), (23, [35, 9], [0, -1, 1]), (20, [29, 27], [50, 0, 0, 2, 6, 0, 2, 0, 0, 1, 0, 0, 2, 1, 0, 1, 1]), (20, [32, 8], [50, 0, 0, 1, 2, 1, 0, 1, 1]), (20, [29], [50, 0, 0, 0, 2, 0, 0, 1, 0]), (20, [34, 7], [50, 0, 0, 1, 2, 1, 0, 1, 1]), (20, [35, 9], [50, 0, 0, 1, 2, 1, 0, 1, 1]), (23, [14, 29], [0, -1, 1]), (23, [28, 29], [0, -1, 1]), (20, [29, 14, 28], [50, 0, 0, 3, 6, 1, 2, 1, 0, 1, 1, 1, 2, 1, 0, 1, 2]), (23, [14, 27], [0, 1, -1]), (23, [26, 27], [0, 1, -1]), (20, [27, 14, 26], [50, 0, 0, 3, 6, 1, 2, 1, 0, 1, 1, 1, 2, 1, 0, 1, 2]), (24, [0, 8], []), (24, [1, 9], []), (24, [2, 10], []), (24, [3, 11], []), (24, [4, 12], []), (24, [5, 13], []), (20, [13, 10], [61, 1, 566]), (20, [13, 30, 31, 10, 29, 32], [61, 3, 583]), (20, [13, 30, 31, 33, 34, 10, 32, 35, 29], [61, 4, 592]), (102, [35], [67108864]), (23, [32, 8], [0, 1, -1]), (23, [32, 8], [0, -1, 1]), (23, [34, 7], [0, 1, -1]), (23, [34, 7], [0, -1, 1]), (23, [35, 9], [0, 1, -1]), (23, [35, 9], [0, -1, 1]), (23, [14, 29], [0, -1, 1]), (23, [28, 29], [0, -1, 1]), (23, [14, 27], [0, 1, -1]), (23, [26, 27], [0, 1, -1]), (7, [25, 14], [1]), (7, [14, 24], [1]), (7, [22, 8], [1]), (7, [16, 8], [0]), (7, [15, 10], [2])], [], [], [(20, [13, 11, 12, 10, 8, 29], [61, 3, 584]), (20, [13, 11, 12, 6, 7, 10, 8, 9, 29], [61, 4, 589])], [], [(36, 15, 1, 1), (36, 10, -4294967296, 0), (36, 2, -4294967296, 1), (36, 10, -4294967296, 1), (16, 8, 0, 0), (15, 10, -4294967296, -1), (0, 8, -4294967296, 0), (1, 9, -4294967296, 0), (2, 10, -4294967296, 0), (8, 0, -4294967296, 0), (9, 1, -4294967296, 0), (10, 2, -4294967296, 0), (14, 15, -4294967296, 70), (15, 2, -4294967296, 0), (15, 10, -4294967296, 0)])
theorem oo_Fa_uniteAt_at_Nptail_Nphead_Emblock_17 {kA : Nat → ClassId} : or_ok PRD kA GG o_Fa_uniteAt_at_Nptail_Nphead_Emblock_17 := by
  refine or_mk fun A ta ws vs hD hth hl => ?_
  intro t0 k0 t1 k1 t2 k2 t3 r3 t4 r4 t5 r5 t6 r6 t7 k7 t8 k8 t9 k9 t10 k10 t11 r11 t12 r12 t13 r13 t14 k14 t15 k15 t16 k16 t22 k22 t24 k24 t25 k25 t26 k26 t27 k27 t28 k28 t29 k29 t30 r30 t31 r31 t32 k32 t33 r33 t34 k34 t35 k35 t36 k36 d0 d1 d2 d3 d4 d5 d6 d7 d8 d9 d10 d11 d12 d13 d14 f0 f1 f2 f3 f4 f5 f6 f7 f8 f9 f10 f11 f12 f13 f14 f15 f16 f17 f18 f19 f20 f21 f22 f23 f24 f25 f26 f27 f28 f29 ta1 w1 le1 s1 f31 f32 f33 f34 f35 f36 f37 f38 f39 f40 f41 f42 f43 f44 f45
  replace f1 := shm_5 f1
  replace f2 := shm_5 f2
  replace f3 := shm_7 f3
  replace f4 := shm_22 f4
  replace f5 := shm_5 f5
  replace f6 := shm_7 f6
  replace f7 := shm_22 f7
  replace f8 := shm_7 f8
  replace f9 := shm_22 f9
  replace f12 := shm_722 f12
  replace f21 := shm_5 f21
  replace f22 := shm_5 f22
  replace f23 := shm_5 f23
  replace f24 := shm_5 f24
  replace f25 := shm_5 f25
  replace f26 := shm_5 f26
  replace f28 := shm_371 f28
  replace f29 := shm_372 f29
  have q30 : n_v vs 30 = n_v vs 3 := f1.symm
  have q31 : n_v vs 31 = n_v vs 4 := f2.symm
  have q33 : n_v vs 33 = n_v vs 6 := f5.symm
  have q8 : n_v vs 8 = n_v vs 0 := f21.symm
  have q9 : n_v vs 9 = n_v vs 1 := f22.symm
  have q10 : n_v vs 10 = n_v vs 2 := f23.symm
  have q11 : n_v vs 11 = n_v vs 3 := f24.symm
  have q12 : n_v vs 12 = n_v vs 4 := f25.symm
  have q13 : n_v vs 13 = n_v vs 5 := f26.symm
  simp only [q8, q9, q10, q13, q30, q31, q33] at f3 f4 f8 f9 f28 f29
  have nf0 : fc_1 PRD (20, [13, 11, 12, 10, 8, 29], [61, 3, 584]) ws (vs) := by
    refine ⟨nf_in hl rfl, sgq_1193 ?_⟩
    · show UNI (w_ei ws (v_ad (n_v vs 13))) (w_ei ws (v_ad (n_v vs 11))) (w_ei ws (v_ad (n_v vs 12))) (v_iv (n_v vs 10)) (v_iv (n_v vs 8)) (v_iv (n_v vs 29))
      simp only [q8, q10, q11, q12, q13]
      exact vc_Fa_uniteAt_at_Nptail_Nphead_Emblock_17_0 (v_iv (n_v vs 0)) (v_iv (n_v vs 2)) (v_iv (n_v vs 8)) (v_iv (n_v vs 15)) (v_iv (n_v vs 16)) (v_iv (n_v vs 29)) (v_iv (n_v vs 32)) (v_iv (n_v vs 36)) (w_ei ws (v_ad (n_v vs 5))) (w_ei ws (v_ad (n_v vs 3))) (w_ei ws (v_ad (n_v vs 4))) k0 k2 k8 k16 k29 k32 d4 d6 d9 f3 f4 f12 f28
  have nf1 : fc_1 PRD (20, [13, 11, 12, 6, 7, 10, 8, 9, 29], [61, 4, 589]) ws (vs) := by
    refine ⟨nf_in hl rfl, sgq_1194 ?_⟩
    · show UN2 (w_ei ws (v_ad (n_v vs 13))) (w_ei ws (v_ad (n_v vs 11))) (w_ei ws (v_ad (n_v vs 12))) (w_ei ws (v_ad (n_v vs 6))) (v_iv (n_v vs 7)) (v_iv (n_v vs 10)) (v_iv (n_v vs 8)) (v_iv (n_v vs 9)) (v_iv (n_v vs 29))
      simp only [q8, q9, q10, q11, q12, q13]
      exact vc_Fa_uniteAt_at_Nptail_Nphead_Emblock_17_1 (v_iv (n_v vs 0)) (v_iv (n_v vs 1)) (v_iv (n_v vs 2)) (v_iv (n_v vs 7)) (v_iv (n_v vs 8)) (v_iv (n_v vs 9)) (v_iv (n_v vs 15)) (v_iv (n_v vs 16)) (v_iv (n_v vs 22)) (v_iv (n_v vs 24)) (v_iv (n_v vs 25)) (v_iv (n_v vs 26)) (v_iv (n_v vs 29)) (v_iv (n_v vs 32)) (v_iv (n_v vs 34)) (v_iv (n_v vs 35)) (v_iv (n_v vs 36)) (w_ei ws (v_ad (n_v vs 5))) (w_ei ws (v_ad (n_v vs 3))) (w_ei ws (v_ad (n_v vs 4))) (w_ei ws (v_ad (n_v vs 6))) k0 k1 k2 k7 k8 k9 k16 k29 k32 k34 k35 d4 d6 d7 d9 d10 f3 f4 f6 f7 f8 f9 f29
  refine ⟨(fun _ h => (by cases h)), [], trivial, ?_, (fun _ h => (by cases h))⟩
  rw [List.append_nil]
  exact List.forall_mem_cons.mpr ⟨⟨show (20 : Nat) < 100 from by decide, nf0⟩, List.forall_mem_cons.mpr ⟨⟨show (20 : Nat) < 100 from by decide, nf1⟩, (fun _ h => (by cases h))⟩⟩
set_option maxHeartbeats 4000000 in
theorem vc_Fa_uniteAt_at_Nptail_Nphead_Emblock_18_r0 (x2 : Int) (x15 : Int) (x16 : Int) (x17 : Int) (x22 : Int) (x25 : Int) (a5_0 : Int → Int) (a4_0 : Int → Int) (a3_0 : Int → Int) (k2 : 1 ≤ x2 ∧ x2 ≤ 72) (k15 : 0 ≤ x15 ∧ x15 ≤ 71) (k16 : 0 ≤ x16 ∧ x16 ≤ 24) (k17 : 0 ≤ x17 ∧ x17 ≤ 24) (k22 : 0 ≤ x22 ∧ x22 ≤ 24) (k25 : (-1) ≤ x25 ∧ x25 ≤ 71) (h0 : x25 = a5_0 (x15)) (h3 : x22 = a4_0 (x15)) (h8 : x17 = a4_0 (x15)) (h10 : x16 = a3_0 (x15)) (f11 : x15 < x2) (f12 : BLQ (a5_0) (x2)) : 0 ≤ x25 ∧ x25 ≤ 71 := by
  first
    | omega
    | (skip; (first | subst h0 | skip); (first | subst h3 | skip); (first | subst h8 | skip); (first | subst h10 | skip); have q := ‹BLQ _ _› x15 (by omega) (by omega); omega)
def o_Fa_uniteAt_at_Nptail_Nphead_Emblock_18 : or_T := (90, 26, [(0, (0, 0, 24, [])), (1, (0, 0, 33554431, [])), (2, (0, 1, 72, [])), (3, (2, 0, 0, [140])), (4, (2, 0, 0, [141])), (5, (2, 0, 0, [26])), (6, (2, 0, 0, [142])), (7, (0, 0, 25, [])), (8, (0, 0, 24, [])), (9, (0, 0, 33554431, [])), (10, (0, 1, 72, [])), (11, (2, 0, 0, [140])), (12, (2, 0, 0, [141])), (13, (2, 0, 0, [26])), (14, (0, -1, -1, [])), (15, (0, 0, 71, [])), (16, (0, 0, 24, [])), (17, (0, 0, 24, [])), (18, (0, 0, 33554431, [])), (19, (0, 1, 1, [])), (20, (0, 1, 1, [])), (22, (0, 0, 24, [])), (24, (0, -1, -1, [])), (25, (0, -1, 71, []))], [(10, [25, 13, 15], []), (7, [14, 24], [0]), (7, [22, 8], [1]), (10, [22, 12, 15], []), (8, [20], [1]), (12, [20, 18], [2]), (16, [20, 18, 19], [0]), (16, [18, 9, 17], [4]), (10, [17, 12, 15], []), (7, [16, 8], [0]), (10, [16, 11, 15], []), (7, [15, 10], [2]), (20, [13, 10], [61, 1, 566]), (20, [13, 11, 12, 10, 8, 14], [61, 3, 584]), (20, [13, 11, 12, 6, 7, 10, 8, 9, 14], [61, 4, 589]), (24, [0, 8], []), (24, [1, 9], []), (24, [2, 10], []), (24, [3, 11], []), (24, [4, 12], []), (24, [5, 13], [])], [(25, (0, 0, 71, []))], [], [], [], [(16, 8, 0, 0), (15, 10, -4294967296, -1), (0, 8, -4294967296, 0), (1, 9, -4294967296, 0), (2, 10, -4294967296, 0), (8, 0, -4294967296, 0), (9, 1, -4294967296, 0), (10, 2, -4294967296, 0), (15, 2, -4294967296, 0), (15, 10, -4294967296, 0)])
theorem oo_Fa_uniteAt_at_Nptail_Nphead_Emblock_18 {kA : Nat → ClassId} : or_ok PRD kA GG o_Fa_uniteAt_at_Nptail_Nphead_Emblock_18 := by
  refine or_mk fun A ta ws vs hD hth hl => ?_
  intro t0 k0 t1 k1 t2 k2 t3 r3 t4 r4 t5 r5 t6 r6 t7 k7 t8 k8 t9 k9 t10 k10 t11 r11 t12 r12 t13 r13 t14 k14 t15 k15 t16 k16 t17 k17 t18 k18 t19 k19 t20 k20 t22 k22 t24 k24 t25 k25 d0 d1 d2 d3 d4 d5 d6 d7 d8 d9 f0 f1 f2 f3 f4 f5 f6 f7 f8 f9 f10 f11 f12 f13 f14 f15 f16 f17 f18 f19 f20
  replace f0 := shm_107 f0
  replace f3 := shm_107 f3
  replace f8 := shm_107 f8
  replace f10 := shm_107 f10
  replace f11 := shm_6 f11
  replace f12 := shm_365 f12
  replace f17 := shm_5 f17
  replace f18 := shm_5 f18
  replace f19 := shm_5 f19
  replace f20 := shm_5 f20
  have q10 : n_v vs 10 = n_v vs 2 := f17.symm
  have q11 : n_v vs 11 = n_v vs 3 := f18.symm
  have q12 : n_v vs 12 = n_v vs 4 := f19.symm
  have q13 : n_v vs 13 = n_v vs 5 := f20.symm
  simp only [q13, q12, q11, q10] at f0 f3 f8 f10 f11 f12
  have h0 : v_iv (n_v vs 25) = w_ei ws (v_ad (n_v vs 5)) (v_iv (n_v vs 15)) := f0
  have h3 : v_iv (n_v vs 22) = w_ei ws (v_ad (n_v vs 4)) (v_iv (n_v vs 15)) := f3
  have h8 : v_iv (n_v vs 17) = w_ei ws (v_ad (n_v vs 4)) (v_iv (n_v vs 15)) := f8
  have h10 : v_iv (n_v vs 16) = w_ei ws (v_ad (n_v vs 3)) (v_iv (n_v vs 15)) := f10
  have hrf0 : 0 ≤ v_iv (n_v vs 25) ∧ v_iv (n_v vs 25) ≤ 71 := vc_Fa_uniteAt_at_Nptail_Nphead_Emblock_18_r0 (v_iv (n_v vs 2)) (v_iv (n_v vs 15)) (v_iv (n_v vs 16)) (v_iv (n_v vs 17)) (v_iv (n_v vs 22)) (v_iv (n_v vs 25)) (w_ei ws (v_ad (n_v vs 5))) (w_ei ws (v_ad (n_v vs 4))) (w_ei ws (v_ad (n_v vs 3))) k2 k15 k16 k17 k22 k25 h0 h3 h8 h10 f11 f12
  have rf25 : tv_ok ta (0, 0, 71, []) (n_v vs 25) := tv_in t25 (by first | omega | grind) (by first | omega | grind)
  refine ⟨List.forall_mem_cons.mpr ⟨rf25, (fun _ h => (by cases h))⟩, [], trivial, ?_, (fun _ h => (by cases h))⟩
  rw [List.append_nil]
  exact (fun _ h => (by cases h))
set_option maxHeartbeats 4000000 in
theorem vc_Fa_uniteAt_at_Nptail_Nphead_Emblock_19_0 (x0 : Int) (x2 : Int) (x8 : Int) (x14 : Int) (x15 : Int) (x16 : Int) (x25 : Int) (x26 : Int) (a5_0 : Int → Int) (a4_0 : Int → Int) (a3_0 : Int → Int) (k0 : 0 ≤ x0 ∧ x0 ≤ 24) (k2 : 1 ≤ x2 ∧ x2 ≤ 72) (k8 : 0 ≤ x8 ∧ x8 ≤ 24) (k14 : (-1) ≤ x14 ∧ x14 ≤ (-1)) (k15 : 0 ≤ x15 ∧ x15 ≤ 71) (k16 : 0 ≤ x16 ∧ x16 ≤ 24) (k25 : 0 ≤ x25 ∧ x25 ≤ 71) (k26 : 1 ≤ x26 ∧ x26 ≤ 72) (d0 : x15 + 1 ≤ x26 ∧ x26 ≤ x15 + 1) (d4 : x8 + 0 ≤ x16 ∧ x16 ≤ x8 + 0) (d6 : x8 + (-4294967296) ≤ x0 ∧ x0 ≤ x8 + 0) (d9 : x0 + (-4294967296) ≤ x8 ∧ x8 ≤ x0 + 0) (h1 : x25 = a5_0 (x15)) (h11 : x16 = a3_0 (x15)) (f12 : x15 < x2) (f14 : UNI (a5_0) (a3_0) (a4_0) (x2) (x0) (x14)) : UNI (a5_0) (a3_0) (a4_0) (x2) (x0) (x25) := by
  first
    | exact uni_first (e := x15) ‹UNI _ _ _ _ _ _› (by assumption) rfl (by omega) (by omega) (by first | exact Or.inl (by omega) | exact Or.inr (by omega))
set_option maxHeartbeats 4000000 in
theorem vc_Fa_uniteAt_at_Nptail_Nphead_Emblock_19_1 (x0 : Int) (x1 : Int) (x2 : Int) (x7 : Int) (x8 : Int) (x14 : Int) (x15 : Int) (x16 : Int) (x17 : Int) (x18 : Int) (x19 : Int) (x20 : Int) (x22 : Int) (x24 : Int) (x25 : Int) (x26 : Int) (a5_0 : Int → Int) (a4_0 : Int → Int) (a3_0 : Int → Int) (a6_0 : Int → Int) (k0 : 0 ≤ x0 ∧ x0 ≤ 24) (k1 : 0 ≤ x1 ∧ x1 ≤ 33554431) (k2 : 1 ≤ x2 ∧ x2 ≤ 72) (k7 : 0 ≤ x7 ∧ x7 ≤ 25) (k8 : 0 ≤ x8 ∧ x8 ≤ 24) (k14 : (-1) ≤ x14 ∧ x14 ≤ (-1)) (k15 : 0 ≤ x15 ∧ x15 ≤ 71) (k16 : 0 ≤ x16 ∧ x16 ≤ 24) (k17 : 0 ≤ x17 ∧ x17 ≤ 24) (k18 : 0 ≤ x18 ∧ x18 ≤ 33554431) (k19 : 1 ≤ x19 ∧ x19 ≤ 1) (k20 : 1 ≤ x20 ∧ x20 ≤ 1) (k25 : 0 ≤ x25 ∧ x25 ≤ 71) (k26 : 1 ≤ x26 ∧ x26 ≤ 72) (d0 : x15 + 1 ≤ x26 ∧ x26 ≤ x15 + 1) (d4 : x8 + 0 ≤ x16 ∧ x16 ≤ x8 + 0) (d6 : x8 + (-4294967296) ≤ x0 ∧ x0 ≤ x8 + 0) (d9 : x0 + (-4294967296) ≤ x8 ∧ x8 ≤ x0 + 0) (h1 : x25 = a5_0 (x15)) (f7 : bvp (x20) = bvp (x18) &&& bvp (x19)) (f8 : bvp (x18) = bvp (x1) >>> (x17).toNat) (h9 : x17 = a4_0 (x15)) (h11 : x16 = a3_0 (x15)) (f12 : x15 < x2) (f15 : UN2 (a5_0) (a3_0) (a4_0) (a6_0) (x7) (x2) (x0) (x1) (x14)) : UN2 (a5_0) (a3_0) (a4_0) (a6_0) (x7) (x2) (x0) (x1) (x25) := by
  first
    | exact un2_first (e := x15) ‹UN2 _ _ _ _ _ _ _ _ _› (by assumption) rfl (by omega) (by omega) (by first | exact Or.inl ⟨by omega, by omega, by rw [← ‹x17 = a4_0 x15›]; exact (bit_one (s := x1) (t := x18) (c := x20) (v := x17) (one := x19) (by assumption) (by assumption) (by omega) (by omega) (by omega) (by omega)).mpr (by omega)⟩ | exact Or.inr ⟨by omega, by omega, by rw [← ‹x19 = a3_0 x15›]; exact (bit_one (s := x1) (t := x20) (c := x22) (v := x19) (one := x21) (by assumption) (by assumption) (by omega) (by omega) (by omega) (by omega)).mpr (by omega)⟩ | exact Or.inr ⟨by omega, by omega, by rw [← ‹x23 = a3_0 x15›]; exact (bit_one (s := x1) (t := x24) (c := x26) (v := x23) (one := x25) (by assumption) (by assumption) (by omega) (by omega) (by omega) (by omega)).mpr (by omega)⟩)
def o_Fa_uniteAt_at_Nptail_Nphead_Emblock_19 : or_T := (6, 27, [(0, (0, 0, 24, [])), (1, (0, 0, 33554431, [])), (2, (0, 1, 72, [])), (3, (2, 0, 0, [140])), (4, (2, 0, 0, [141])), (5, (2, 0, 0, [26])), (6, (2, 0, 0, [142])), (7, (0, 0, 25, [])), (8, (0, 0, 24, [])), (9, (0, 0, 33554431, [])), (10, (0, 1, 72, [])), (11, (2, 0, 0, [140])), (12, (2, 0, 0, [141])), (13, (2, 0, 0, [26])), (14, (0, -1, -1, [])), (15, (0, 0, 71, [])), (16, (0, 0, 24, [])), (17, (0, 0, 24, [])), (18, (0, 0, 33554431, [])), (19, (0, 1, 1, [])), (20, (0, 1, 1, [])), (22, (0, 0, 24, [])), (24, (0, -1, -1, [])), (25, (0, 0, 71, [])), (26, (0, 1, 72, []))], [(6, [26, 15], [1]), (10, [25, 13, 15], []), (7, [14, 24], [0]), (7, [22, 8], [1]), (10, [22, 12, 15], []), (8, [20], [1]), (12, [20, 18], [2]), (16, [20, 18, 19], [0]), (16, [18, 9, 17], [4]), (10, [17, 12, 15], []), (7, [16, 8], [0]), (10, [16, 11, 15], []), (7, [15, 10], [2]), (20, [13, 10], [61, 1, 566]), (20, [13, 11, 12, 10, 8, 14], [61, 3, 584]), (20, [13, 11, 12, 6, 7, 10, 8, 9, 14], [61, 4, 589]), (24, [0, 8], []), (24, [1, 9], []), (24, [2, 10], []), (24, [3, 11], []), (24, [4, 12], []), (24, [5, 13], [])], [], [], [(20, [13, 11, 12, 10, 8, 25], [61, 3, 584]), (20, [13, 11, 12, 6, 7, 10, 8, 9, 25], [61, 4, 589])], [], [(26, 15, 1, 1), (26, 10, -4294967296, 0), (26, 2, -4294967296, 1), (26, 10, -4294967296, 1), (16, 8, 0, 0), (15, 10, -4294967296, -1), (0, 8, -4294967296, 0), (1, 9, -4294967296, 0), (2, 10, -4294967296, 0), (8, 0, -4294967296, 0), (9, 1, -4294967296, 0), (10, 2, -4294967296, 0), (15, 2, -4294967296, 0), (15, 10, -4294967296, 0)])
theorem oo_Fa_uniteAt_at_Nptail_Nphead_Emblock_19 {kA : Nat → ClassId} : or_ok PRD kA GG o_Fa_uniteAt_at_Nptail_Nphead_Emblock_19 := by
  refine or_mk fun A ta ws vs hD hth hl => ?_
  intro t0 k0 t1 k1 t2 k2 t3 r3 t4 r4 t5 r5 t6 r6 t7 k7 t8 k8 t9 k9 t10 k10 t11 r11 t12 r12 t13 r13 t14 k14 t15 k15 t16 k16 t17 k17 t18 k18 t19 k19 t20 k20 t22 k22 t24 k24 t25 k25 t26 k26 d0 d1 d2 d3 d4 d5 d6 d7 d8 d9 d10 d11 d12 d13 f0 f1 f2 f3 f4 f5 f6 f7 f8 f9 f10 f11 f12 f13 f14 f15 f16 f17 f18 f19 f20 f21
  replace f1 := shm_107 f1
  replace f7 := shm_11 f7
  replace f8 := shm_13 f8
  replace f9 := shm_107 f9
  replace f11 := shm_107 f11
  replace f12 := shm_6 f12
  replace f14 := shm_1193 f14
  replace f15 := shm_1194 f15
  replace f16 := shm_5 f16
  replace f17 := shm_5 f17
  replace f18 := shm_5 f18
  replace f19 := shm_5 f19
  replace f20 := shm_5 f20
  replace f21 := shm_5 f21
  have q8 : n_v vs 8 = n_v vs 0 := f16.symm
  have q9 : n_v vs 9 = n_v vs 1 := f17.symm
  have q10 : n_v vs 10 = n_v vs 2 := f18.symm
  have q11 : n_v vs 11 = n_v vs 3 := f19.symm
  have q12 : n_v vs 12 = n_v vs 4 := f20.symm
  have q13 : n_v vs 13 = n_v vs 5 := f21.symm
  simp only [q13, q8, q12, q9, q11, q10] at f1 f8 f9 f11 f12 f14 f15
  have h1 : v_iv (n_v vs 25) = w_ei ws (v_ad (n_v vs 5)) (v_iv (n_v vs 15)) := f1
  have h9 : v_iv (n_v vs 17) = w_ei ws (v_ad (n_v vs 4)) (v_iv (n_v vs 15)) := f9
  have h11 : v_iv (n_v vs 16) = w_ei ws (v_ad (n_v vs 3)) (v_iv (n_v vs 15)) := f11
  have nf0 : fc_1 PRD (20, [13, 11, 12, 10, 8, 25], [61, 3, 584]) ws (vs) := by
    refine ⟨nf_in hl rfl, sgq_1193 ?_⟩
    · show UNI (w_ei ws (v_ad (n_v vs 13))) (w_ei ws (v_ad (n_v vs 11))) (w_ei ws (v_ad (n_v vs 12))) (v_iv (n_v vs 10)) (v_iv (n_v vs 8)) (v_iv (n_v vs 25))
      simp only [q8, q10, q11, q12, q13]
      exact vc_Fa_uniteAt_at_Nptail_Nphead_Emblock_19_0 (v_iv (n_v vs 0)) (v_iv (n_v vs 2)) (v_iv (n_v vs 8)) (v_iv (n_v vs 14)) (v_iv (n_v vs 15)) (v_iv (n_v vs 16)) (v_iv (n_v vs 25)) (v_iv (n_v vs 26)) (w_ei ws (v_ad (n_v vs 5))) (w_ei ws (v_ad (n_v vs 4))) (w_ei ws (v_ad (n_v vs 3))) k0 k2 k8 k14 k15 k16 k25 k26 d0 d4 d6 d9 h1 h11 f12 f14
  have nf1 : fc_1 PRD (20, [13, 11, 12, 6, 7, 10, 8, 9, 25], [61, 4, 589]) ws (vs) := by
    refine ⟨nf_in hl rfl, sgq_1194 ?_⟩
    · show UN2 (w_ei ws (v_ad (n_v vs 13))) (w_ei ws (v_ad (n_v vs 11))) (w_ei ws (v_ad (n_v vs 12))) (w_ei ws (v_ad (n_v vs 6))) (v_iv (n_v vs 7)) (v_iv (n_v vs 10)) (v_iv (n_v vs 8)) (v_iv (n_v vs 9)) (v_iv (n_v vs 25))
      simp only [q8, q9, q10, q11, q12, q13]
      exact vc_Fa_uniteAt_at_Nptail_Nphead_Emblock_19_1 (v_iv (n_v vs 0)) (v_iv (n_v vs 1)) (v_iv (n_v vs 2)) (v_iv (n_v vs 7)) (v_iv (n_v vs 8)) (v_iv (n_v vs 14)) (v_iv (n_v vs 15)) (v_iv (n_v vs 16)) (v_iv (n_v vs 17)) (v_iv (n_v vs 18)) (v_iv (n_v vs 19)) (v_iv (n_v vs 20)) (v_iv (n_v vs 22)) (v_iv (n_v vs 24)) (v_iv (n_v vs 25)) (v_iv (n_v vs 26)) (w_ei ws (v_ad (n_v vs 5))) (w_ei ws (v_ad (n_v vs 4))) (w_ei ws (v_ad (n_v vs 3))) (w_ei ws (v_ad (n_v vs 6))) k0 k1 k2 k7 k8 k14 k15 k16 k17 k18 k19 k20 k25 k26 d0 d4 d6 d9 h1 f7 f8 h9 h11 f12 f15
  refine ⟨(fun _ h => (by cases h)), [], trivial, ?_, (fun _ h => (by cases h))⟩
  rw [List.append_nil]
  exact List.forall_mem_cons.mpr ⟨⟨show (20 : Nat) < 100 from by decide, nf0⟩, List.forall_mem_cons.mpr ⟨⟨show (20 : Nat) < 100 from by decide, nf1⟩, (fun _ h => (by cases h))⟩⟩
set_option maxHeartbeats 4000000 in
theorem vc_Fa_uniteAt_at_Nptail_Nphead_Emblock_20_r0 (x2 : Int) (x15 : Int) (x16 : Int) (x17 : Int) (x22 : Int) (x23 : Int) (x29 : Int) (x30 : Int) (a5_0 : Int → Int) (a3_0 : Int → Int) (a4_0 : Int → Int) (k2 : 1 ≤ x2 ∧ x2 ≤ 72) (k15 : 0 ≤ x15 ∧ x15 ≤ 71) (k16 : 0 ≤ x16 ∧ x16 ≤ 24) (k17 : 0 ≤ x17 ∧ x17 ≤ 24) (k22 : 0 ≤ x22 ∧ x22 ≤ 24) (k23 : 0 ≤ x23 ∧ x23 ≤ 24) (k29 : (-1) ≤ x29 ∧ x29 ≤ 71) (k30 : (-1) ≤ x30 ∧ x30 ≤ 71) (h0 : x30 = a5_0 (x15)) (h2 : x29 = a5_0 (x15)) (h8 : x23 = a3_0 (x15)) (h10 : x22 = a4_0 (x15)) (h15 : x17 = a4_0 (x15)) (h17 : x16 = a3_0 (x15)) (f18 : x15 < x2) (f19 : BLQ (a5_0) (x2)) : 0 ≤ x30 ∧ x30 ≤ 71 := by
  first
    | omega
    | (skip; (first | subst h0 | skip); (first | subst h2 | skip); (first | subst h8 | skip); (first | subst h10 | skip); (first | subst h15 | skip); (first | subst h17 | skip); have q := ‹BLQ _ _› x15 (by omega) (by omega); omega)
def o_Fa_uniteAt_at_Nptail_Nphead_Emblock_20 : or_T := (112, 31, [(0, (0, 0, 24, [])), (1, (0, 0, 33554431, [])), (2, (0, 1, 72, [])), (3, (2, 0, 0, [140])), (4, (2, 0, 0, [141])), (5, (2, 0, 0, [26])), (6, (2, 0, 0, [142])), (7, (0, 0, 25, [])), (8, (0, 0, 24, [])), (9, (0, 0, 33554431, [])), (10, (0, 1, 72, [])), (11, (2, 0, 0, [140])), (12, (2, 0, 0, [141])), (13, (2, 0, 0, [26])), (14, (0, 0, 71, [])), (15, (0, 0, 71, [])), (16, (0, 0, 24, [])), (17, (0, 0, 24, [])), (18, (0, 0, 33554431, [])), (19, (0, 1, 1, [])), (20, (0, 1, 1, [])), (22, (0, 0, 24, [])), (23, (0, 0, 24, [])), (24, (0, 0, 33554431, [])), (25, (0, 1, 1, [])), (26, (0, 0, 0, [])), (28, (0, -1, -1, [])), (29, (0, -1, 71, [])), (30, (0, -1, 71, []))], [(10, [30, 13, 15], []), (7, [29, 14], [1]), (10, [29, 13, 15], []), (7, [14, 28], [1]), (8, [26], [0]), (12, [26, 24], [2]), (16, [26, 24, 25], [0]), (16, [24, 9, 23], [4]), (10, [23, 11, 15], []), (7, [22, 8], [0]), (10, [22, 12, 15], []), (8, [20], [1]), (12, [20, 18], [2]), (16, [20, 18, 19], [0]), (16, [18, 9, 17], [4]), (10, [17, 12, 15], []), (7, [16, 8], [0]), (10, [16, 11, 15], []), (7, [15, 10], [2]), (20, [13, 10], [61, 1, 566]), (20, [13, 11, 12, 10, 8, 14], [61, 3, 584]), (20, [13, 11, 12, 6, 7, 10, 8, 9, 14], [61, 4, 589]), (24, [0, 8], []), (24, [1, 9], []), (24, [2, 10], []), (24, [3, 11], []), (24, [4, 12], []), (24, [5, 13], [])], [(30, (0, 0, 71, []))], [], [], [], [(22, 8, 0, 0), (16, 8, 0, 0), (15, 10, -4294967296, -1), (0, 8, -4294967296, 0), (1, 9, -4294967296, 0), (2, 10, -4294967296, 0), (8, 0, -4294967296, 0), (9, 1, -4294967296, 0), (10, 2, -4294967296, 0), (14, 15, -4294967296, 70), (15, 2, -4294967296, 0), (15, 10, -4294967296, 0)])
theorem oo_Fa_uniteAt_at_Nptail_Nphead_Emblock_20 {kA : Nat → ClassId} : or_ok PRD kA GG o_Fa_uniteAt_at_Nptail_Nphead_Emblock_20 := by
  refine or_mk fun A ta ws vs hD hth hl => ?_
  intro t0 k0 t1 k1 t2 k2 t3 r3 t4 r4 t5 r5 t6 r6 t7 k7 t8 k8 t9 k9 t10 k10 t11 r11 t12 r12 t13 r13 t14 k14 t15 k15 t16 k16 t17 k17 t18 k18 t19 k19 t20 k20 t22 k22 t23 k23 t24 k24 t25 k25 t26 k26 t28 k28 t29 k29 t30 k30 d0 d1 d2 d3 d4 d5 d6 d7 d8 d9 d10 d11 f0 f1 f2 f3 f4 f5 f6 f7 f8 f9 f10 f11 f12 f13 f14 f15 f16 f17 f18 f19 f20 f21 f22 f23 f24 f25 f26 f27
  replace f0 := shm_107 f0
  replace f2 := shm_107 f2
  replace f8 := shm_107 f8
  replace f10 := shm_107 f10
  replace f15 := shm_107 f15
  replace f17 := shm_107 f17
  replace f18 := shm_6 f18
  replace f19 := shm_365 f19
  replace f24 := shm_5 f24
  replace f25 := shm_5 f25
  replace f26 := shm_5 f26
  replace f27 := shm_5 f27
  have q10 : n_v vs 10 = n_v vs 2 := f24.symm
  have q11 : n_v vs 11 = n_v vs 3 := f25.symm
  have q12 : n_v vs 12 = n_v vs 4 := f26.symm
  have q13 : n_v vs 13 = n_v vs 5 := f27.symm
  simp only [q13, q11, q12, q10] at f0 f2 f8 f10 f15 f17 f18 f19
  have h0 : v_iv (n_v vs 30) = w_ei ws (v_ad (n_v vs 5)) (v_iv (n_v vs 15)) := f0
  have h2 : v_iv (n_v vs 29) = w_ei ws (v_ad (n_v vs 5)) (v_iv (n_v vs 15)) := f2
  have h8 : v_iv (n_v vs 23) = w_ei ws (v_ad (n_v vs 3)) (v_iv (n_v vs 15)) := f8
  have h10 : v_iv (n_v vs 22) = w_ei ws (v_ad (n_v vs 4)) (v_iv (n_v vs 15)) := f10
  have h15 : v_iv (n_v vs 17) = w_ei ws (v_ad (n_v vs 4)) (v_iv (n_v vs 15)) := f15
  have h17 : v_iv (n_v vs 16) = w_ei ws (v_ad (n_v vs 3)) (v_iv (n_v vs 15)) := f17
  have hrf0 : 0 ≤ v_iv (n_v vs 30) ∧ v_iv (n_v vs 30) ≤ 71 := vc_Fa_uniteAt_at_Nptail_Nphead_Emblock_20_r0 (v_iv (n_v vs 2)) (v_iv (n_v vs 15)) (v_iv (n_v vs 16)) (v_iv (n_v vs 17)) (v_iv (n_v vs 22)) (v_iv (n_v vs 23)) (v_iv (n_v vs 29)) (v_iv (n_v vs 30)) (w_ei ws (v_ad (n_v vs 5))) (w_ei ws (v_ad (n_v vs 3))) (w_ei ws (v_ad (n_v vs 4))) k2 k15 k16 k17 k22 k23 k29 k30 h0 h2 h8 h10 h15 h17 f18 f19
  have rf30 : tv_ok ta (0, 0, 71, []) (n_v vs 30) := tv_in t30 (by first | omega | grind) (by first | omega | grind)
  refine ⟨List.forall_mem_cons.mpr ⟨rf30, (fun _ h => (by cases h))⟩, [], trivial, ?_, (fun _ h => (by cases h))⟩
  rw [List.append_nil]
  exact (fun _ h => (by cases h))
set_option maxHeartbeats 4000000 in
theorem vc_Fa_uniteAt_at_Nptail_Nphead_Emblock_21_r0 (x15 : Int) (x16 : Int) (x17 : Int) (x22 : Int) (x23 : Int) (x29 : Int) (x30 : Int) (x32 : Int) (a5_0 : Int → Int) (a3_0 : Int → Int) (a4_0 : Int → Int) (k15 : 0 ≤ x15 ∧ x15 ≤ 71) (k16 : 0 ≤ x16 ∧ x16 ≤ 24) (k17 : 0 ≤ x17 ∧ x17 ≤ 24) (k22 : 0 ≤ x22 ∧ x22 ≤ 24) (k23 : 0 ≤ x23 ∧ x23 ≤ 24) (k29 : (-1) ≤ x29 ∧ x29 ≤ 71) (k30 : 0 ≤ x30 ∧ x30 ≤ 71) (k32 : (-1) ≤ x32 ∧ x32 ≤ 71) (h0 : x32 = a5_0 (x15)) (h4 : x30 = a5_0 (x15)) (h6 : x29 = a5_0 (x15)) (h12 : x23 = a3_0 (x15)) (h14 : x22 = a4_0 (x15)) (h19 : x17 = a4_0 (x15)) (h21 : x16 = a3_0 (x15)) : 0 ≤ x32 ∧ x32 ≤ 71 := by
  first
    | omega
    | (skip; (first | subst h0 | skip); (first | subst h4 | skip); (first | subst h6 | skip); (first | subst h12 | skip); (first | subst h14 | skip); (first | subst h19 | skip); (first | subst h21 | skip); have q := ‹BLQ _ _› x15 (by omega) (by omega); omega)
def o_Fa_uniteAt_at_Nptail_Nphead_Emblock_21 : or_T := (124, 33, [(0, (0, 0, 24, [])), (1, (0, 0, 33554431, [])), (2, (0, 1, 72, [])), (3, (2, 0, 0, [140])), (4, (2, 0, 0, [141])), (5, (2, 0, 0, [26])), (6, (2, 0, 0, [142])), (7, (0, 0, 25, [])), (8, (0, 0, 24, [])), (9, (0, 0, 33554431, [])), (10, (0, 1, 72, [])), (11, (2, 0, 0, [140])), (12, (2, 0, 0, [141])), (13, (2, 0, 0, [26])), (14, (0, 0, 71, [])), (15, (0, 0, 71, [])), (16, (0, 0, 24, [])), (17, (0, 0, 24, [])), (18, (0, 0, 33554431, [])), (19, (0, 1, 1, [])), (20, (0, 1, 1, [])), (22, (0, 0, 24, [])), (23, (0, 0, 24, [])), (24, (0, 0, 33554431, [])), (25, (0, 1, 1, [])), (26, (0, 0, 0, [])), (28, (0, -1, -1, [])), (29, (0, -1, 71, [])), (30, (0, 0, 71, [])), (31, (0, 0, 71, [])), (32, (0, -1, 71, []))], [(10, [32, 13, 15], []), (23, [14, 31], [0, 1, -1]), (23, [30, 31], [0, 1, -1]), (20, [31, 14, 30], [50, 0, 0, 3, 6, 1, 2, 1, 0, 1, 1, 1, 2, 1, 0, 1, 2]), (10, [30, 13, 15], []), (7, [29, 14], [1]), (10, [29, 13, 15], []), (7, [14, 28], [1]), (8, [26], [0]), (12, [26, 24], [2]), (16, [26, 24, 25], [0]), (16, [24, 9, 23], [4]), (10, [23, 11, 15], []), (7, [22, 8], [0]), (10, [22, 12, 15], []), (8, [20], [1]), (12, [20, 18], [2]), (16, [20, 18, 19], [0]), (16, [18, 9, 17], [4]), (10, [17, 12, 15], []), (7, [16, 8], [0]), (10, [16, 11, 15], []), (7, [15, 10], [2]), (20, [13, 10], [61, 1, 566]), (20, [13, 11, 12, 10, 8, 14], [61, 3, 584]), (20, [13, 11, 12, 6, 7, 10, 8, 9, 14], [61, 4, 589]), (24, [0, 8], []), (24, [1, 9], []), (24, [2, 10], []), (24, [3, 11], []), (24, [4, 12], []), (24, [5, 13], [])], [(32, (0, 0, 71, []))], [], [], [], [(22, 8, 0, 0), (16, 8, 0, 0), (15, 10, -4294967296, -1), (0, 8, -4294967296, 0), (1, 9, -4294967296, 0), (2, 10, -4294967296, 0), (8, 0, -4294967296, 0), (9, 1, -4294967296, 0), (10, 2, -4294967296, 0), (14, 15, -4294967296, 70), (15, 2, -4294967296, 0), (15, 10, -4294967296, 0)])
theorem oo_Fa_uniteAt_at_Nptail_Nphead_Emblock_21 {kA : Nat → ClassId} : or_ok PRD kA GG o_Fa_uniteAt_at_Nptail_Nphead_Emblock_21 := by
  refine or_mk fun A ta ws vs hD hth hl => ?_
  intro t0 k0 t1 k1 t2 k2 t3 r3 t4 r4 t5 r5 t6 r6 t7 k7 t8 k8 t9 k9 t10 k10 t11 r11 t12 r12 t13 r13 t14 k14 t15 k15 t16 k16 t17 k17 t18 k18 t19 k19 t20 k20 t22 k22 t23 k23 t24 k24 t25 k25 t26 k26 t28 k28 t29 k29 t30 k30 t31 k31 t32 k32 d0 d1 d2 d3 d4 d5 d6 d7 d8 d9 d10 d11 f0 f1 f2 f3 f4 f5 f6 f7 f8 f9 f10 f11 f12 f13 f14 f15 f16 f17 f18 f19 f20 f21 f22 f23 f24 f25 f26 f27 f28 f29 f30 f31
  replace f0 := shm_107 f0
  replace f4 := shm_107 f4
  replace f6 := shm_107 f6
  replace f12 := shm_107 f12
  replace f14 := shm_107 f14
  replace f19 := shm_107 f19
  replace f21 := shm_107 f21
  replace f29 := shm_5 f29
  replace f30 := shm_5 f30
  replace f31 := shm_5 f31
  have q11 : n_v vs 11 = n_v vs 3 := f29.symm
  have q12 : n_v vs 12 = n_v vs 4 := f30.symm
  have q13 : n_v vs 13 = n_v vs 5 := f31.symm
  simp only [q13, q11, q12] at f0 f4 f6 f12 f14 f19 f21
  have h0 : v_iv (n_v vs 32) = w_ei ws (v_ad (n_v vs 5)) (v_iv (n_v vs 15)) := f0
  have h4 : v_iv (n_v vs 30) = w_ei ws (v_ad (n_v vs 5)) (v_iv (n_v vs 15)) := f4
  have h6 : v_iv (n_v vs 29) = w_ei ws (v_ad (n_v vs 5)) (v_iv (n_v vs 15)) := f6
  have h12 : v_iv (n_v vs 23) = w_ei ws (v_ad (n_v vs 3)) (v_iv (n_v vs 15)) := f12
  have h14 : v_iv (n_v vs 22) = w_ei ws (v_ad (n_v vs 4)) (v_iv (n_v vs 15)) := f14
  have h19 : v_iv (n_v vs 17) = w_ei ws (v_ad (n_v vs 4)) (v_iv (n_v vs 15)) := f19
  have h21 : v_iv (n_v vs 16) = w_ei ws (v_ad (n_v vs 3)) (v_iv (n_v vs 15)) := f21
  have hrf0 : 0 ≤ v_iv (n_v vs 32) ∧ v_iv (n_v vs 32) ≤ 71 := vc_Fa_uniteAt_at_Nptail_Nphead_Emblock_21_r0 (v_iv (n_v vs 15)) (v_iv (n_v vs 16)) (v_iv (n_v vs 17)) (v_iv (n_v vs 22)) (v_iv (n_v vs 23)) (v_iv (n_v vs 29)) (v_iv (n_v vs 30)) (v_iv (n_v vs 32)) (w_ei ws (v_ad (n_v vs 5))) (w_ei ws (v_ad (n_v vs 3))) (w_ei ws (v_ad (n_v vs 4))) k15 k16 k17 k22 k23 k29 k30 k32 h0 h4 h6 h12 h14 h19 h21
  have rf32 : tv_ok ta (0, 0, 71, []) (n_v vs 32) := tv_in t32 (by first | omega | grind) (by first | omega | grind)
  refine ⟨List.forall_mem_cons.mpr ⟨rf32, (fun _ h => (by cases h))⟩, [], trivial, ?_, (fun _ h => (by cases h))⟩
  rw [List.append_nil]
  exact (fun _ h => (by cases h))
set_option maxHeartbeats 4000000 in
theorem vc_Fa_uniteAt_at_Nptail_Nphead_Emblock_22_2 (x0 : Int) (x8 : Int) (x15 : Int) (x16 : Int) (x17 : Int) (x22 : Int) (x23 : Int) (x29 : Int) (x30 : Int) (x32 : Int) (a5_0 : Int → Int) (a3_0 : Int → Int) (a4_0 : Int → Int) (gu : Int) (k0 : 0 ≤ x0 ∧ x0 ≤ 24) (k8 : 0 ≤ x8 ∧ x8 ≤ 24) (k15 : 0 ≤ x15 ∧ x15 ≤ 71) (k16 : 0 ≤ x16 ∧ x16 ≤ 24) (k17 : 0 ≤ x17 ∧ x17 ≤ 24) (k22 : 0 ≤ x22 ∧ x22 ≤ 24) (k23 : 0 ≤ x23 ∧ x23 ≤ 24) (k29 : (-1) ≤ x29 ∧ x29 ≤ 71) (k30 : 0 ≤ x30 ∧ x30 ≤ 71) (k32 : 0 ≤ x32 ∧ x32 ≤ 71) (d0 : x8 + 0 ≤ x22 ∧ x22 ≤ x8 + 0) (d3 : x8 + (-4294967296) ≤ x0 ∧ x0 ≤ x8 + 0) (d6 : x0 + (-4294967296) ≤ x8 ∧ x8 ≤ x0 + 0) (h3 : x32 = a5_0 (x15)) (h7 : x30 = a5_0 (x15)) (h9 : x29 = a5_0 (x15)) (h15 : x23 = a3_0 (x15)) (h17 : x22 = a4_0 (x15)) (h22 : x17 = a4_0 (x15)) (h24 : x16 = a3_0 (x15)) (eu2 : gu = x0) : 1 * gu + ((-1) * x0 + 0) ≤ 0 := by
  first
    | omega
    | (skip; (first | subst h3 | skip); (first | subst h7 | skip); (first | subst h9 | skip); (first | subst h15 | skip); (first | subst h17 | skip); (first | subst h22 | skip); (first | subst h24 | skip); have q := ‹BLQ _ _› x15 (by omega) (by omega); omega)
set_option maxHeartbeats 4000000 in
theorem vc_Fa_uniteAt_at_Nptail_Nphead_Emblock_22_3 (x0 : Int) (x8 : Int) (x15 : Int) (x16 : Int) (x17 : Int) (x22 : Int) (x23 : Int) (x29 : Int) (x30 : Int) (x32 : Int) (a5_0 : Int → Int) (a3_0 : Int → Int) (a4_0 : Int → Int) (gu : Int) (k0 : 0 ≤ x0 ∧ x0 ≤ 24) (k8 : 0 ≤ x8 ∧ x8 ≤ 24) (k15 : 0 ≤ x15 ∧ x15 ≤ 71) (k16 : 0 ≤ x16 ∧ x16 ≤ 24) (k17 : 0 ≤ x17 ∧ x17 ≤ 24) (k22 : 0 ≤ x22 ∧ x22 ≤ 24) (k23 : 0 ≤ x23 ∧ x23 ≤ 24) (k29 : (-1) ≤ x29 ∧ x29 ≤ 71) (k30 : 0 ≤ x30 ∧ x30 ≤ 71) (k32 : 0 ≤ x32 ∧ x32 ≤ 71) (d0 : x8 + 0 ≤ x22 ∧ x22 ≤ x8 + 0) (d3 : x8 + (-4294967296) ≤ x0 ∧ x0 ≤ x8 + 0) (d6 : x0 + (-4294967296) ≤ x8 ∧ x8 ≤ x0 + 0) (h3 : x32 = a5_0 (x15)) (h7 : x30 = a5_0 (x15)) (h9 : x29 = a5_0 (x15)) (h15 : x23 = a3_0 (x15)) (h17 : x22 = a4_0 (x15)) (h22 : x17 = a4_0 (x15)) (h24 : x16 = a3_0 (x15)) (eu2 : gu = x0) : (-1) * gu + (1 * x0 + 0) ≤ 0 := by
  first
    | omega
    | (skip; (first | subst h3 | skip); (first | subst h7 | skip); (first | subst h9 | skip); (first | subst h15 | skip); (first | subst h17 | skip); (first | subst h22 | skip); (first | subst h24 | skip); have q := ‹BLQ _ _› x15 (by omega) (by omega); omega)
set_option maxHeartbeats 4000000 in
theorem vc_Fa_uniteAt_at_Nptail_Nphead_Emblock_22_5 (x7 : Int) (x15 : Int) (x16 : Int) (x17 : Int) (x22 : Int) (x23 : Int) (x29 : Int) (x30 : Int) (x32 : Int) (a5_0 : Int → Int) (a3_0 : Int → Int) (a4_0 : Int → Int) (gc : Int) (k7 : 0 ≤ x7 ∧ x7 ≤ 25) (k15 : 0 ≤ x15 ∧ x15 ≤ 71) (k16 : 0 ≤ x16 ∧ x16 ≤ 24) (k17 : 0 ≤ x17 ∧ x17 ≤ 24) (k22 : 0 ≤ x22 ∧ x22 ≤ 24) (k23 : 0 ≤ x23 ∧ x23 ≤ 24) (k29 : (-1) ≤ x29 ∧ x29 ≤ 71) (k30 : 0 ≤ x30 ∧ x30 ≤ 71) (k32 : 0 ≤ x32 ∧ x32 ≤ 71) (h3 : x32 = a5_0 (x15)) (h7 : x30 = a5_0 (x15)) (h9 : x29 = a5_0 (x15)) (h15 : x23 = a3_0 (x15)) (h17 : x22 = a4_0 (x15)) (h22 : x17 = a4_0 (x15)) (h24 : x16 = a3_0 (x15)) (ec2 : gc = x7) : 1 * gc + ((-1) * x7 + 0) ≤ 0 := by
  first
    | omega
    | (skip; (first | subst h3 | skip); (first | subst h7 | skip); (first | subst h9 | skip); (first | subst h15 | skip); (first | subst h17 | skip); (first | subst h22 | skip); (first | subst h24 | skip); have q := ‹BLQ _ _› x15 (by omega) (by omega); omega)
set_option maxHeartbeats 4000000 in
theorem vc_Fa_uniteAt_at_Nptail_Nphead_Emblock_22_6 (x7 : Int) (x15 : Int) (x16 : Int) (x17 : Int) (x22 : Int) (x23 : Int) (x29 : Int) (x30 : Int) (x32 : Int) (a5_0 : Int → Int) (a3_0 : Int → Int) (a4_0 : Int → Int) (gc : Int) (k7 : 0 ≤ x7 ∧ x7 ≤ 25) (k15 : 0 ≤ x15 ∧ x15 ≤ 71) (k16 : 0 ≤ x16 ∧ x16 ≤ 24) (k17 : 0 ≤ x17 ∧ x17 ≤ 24) (k22 : 0 ≤ x22 ∧ x22 ≤ 24) (k23 : 0 ≤ x23 ∧ x23 ≤ 24) (k29 : (-1) ≤ x29 ∧ x29 ≤ 71) (k30 : 0 ≤ x30 ∧ x30 ≤ 71) (k32 : 0 ≤ x32 ∧ x32 ≤ 71) (h3 : x32 = a5_0 (x15)) (h7 : x30 = a5_0 (x15)) (h9 : x29 = a5_0 (x15)) (h15 : x23 = a3_0 (x15)) (h17 : x22 = a4_0 (x15)) (h22 : x17 = a4_0 (x15)) (h24 : x16 = a3_0 (x15)) (ec2 : gc = x7) : (-1) * gc + (1 * x7 + 0) ≤ 0 := by
  first
    | omega
    | (skip; (first | subst h3 | skip); (first | subst h7 | skip); (first | subst h9 | skip); (first | subst h15 | skip); (first | subst h17 | skip); (first | subst h22 | skip); (first | subst h24 | skip); have q := ‹BLQ _ _› x15 (by omega) (by omega); omega)
set_option maxHeartbeats 4000000 in
theorem vc_Fa_uniteAt_at_Nptail_Nphead_Emblock_22_7 (x1 : Int) (x9 : Int) (x15 : Int) (x16 : Int) (x17 : Int) (x22 : Int) (x23 : Int) (x29 : Int) (x30 : Int) (x32 : Int) (a5_0 : Int → Int) (a3_0 : Int → Int) (a4_0 : Int → Int) (gd : Int) (k1 : 0 ≤ x1 ∧ x1 ≤ 33554431) (k9 : 0 ≤ x9 ∧ x9 ≤ 33554431) (k15 : 0 ≤ x15 ∧ x15 ≤ 71) (k16 : 0 ≤ x16 ∧ x16 ≤ 24) (k17 : 0 ≤ x17 ∧ x17 ≤ 24) (k22 : 0 ≤ x22 ∧ x22 ≤ 24) (k23 : 0 ≤ x23 ∧ x23 ≤ 24) (k29 : (-1) ≤ x29 ∧ x29 ≤ 71) (k30 : 0 ≤ x30 ∧ x30 ≤ 71) (k32 : 0 ≤ x32 ∧ x32 ≤ 71) (d4 : x9 + (-4294967296) ≤ x1 ∧ x1 ≤ x9 + 0) (d7 : x1 + (-4294967296) ≤ x9 ∧ x9 ≤ x1 + 0) (h3 : x32 = a5_0 (x15)) (h7 : x30 = a5_0 (x15)) (h9 : x29 = a5_0 (x15)) (h15 : x23 = a3_0 (x15)) (h17 : x22 = a4_0 (x15)) (h22 : x17 = a4_0 (x15)) (h24 : x16 = a3_0 (x15)) (ed2 : gd = x1) : 1 * gd + ((-1) * x1 + 0) ≤ 0 := by
  first
    | omega
    | (skip; (first | subst h3 | skip); (first | subst h7 | skip); (first | subst h9 | skip); (first | subst h15 | skip); (first | subst h17 | skip); (first | subst h22 | skip); (first | subst h24 | skip); have q := ‹BLQ _ _› x15 (by omega) (by omega); omega)
set_option maxHeartbeats 4000000 in
theorem vc_Fa_uniteAt_at_Nptail_Nphead_Emblock_22_8 (x1 : Int) (x9 : Int) (x15 : Int) (x16 : Int) (x17 : Int) (x22 : Int) (x23 : Int) (x29 : Int) (x30 : Int) (x32 : Int) (a5_0 : Int → Int) (a3_0 : Int → Int) (a4_0 : Int → Int) (gd : Int) (k1 : 0 ≤ x1 ∧ x1 ≤ 33554431) (k9 : 0 ≤ x9 ∧ x9 ≤ 33554431) (k15 : 0 ≤ x15 ∧ x15 ≤ 71) (k16 : 0 ≤ x16 ∧ x16 ≤ 24) (k17 : 0 ≤ x17 ∧ x17 ≤ 24) (k22 : 0 ≤ x22 ∧ x22 ≤ 24) (k23 : 0 ≤ x23 ∧ x23 ≤ 24) (k29 : (-1) ≤ x29 ∧ x29 ≤ 71) (k30 : 0 ≤ x30 ∧ x30 ≤ 71) (k32 : 0 ≤ x32 ∧ x32 ≤ 71) (d4 : x9 + (-4294967296) ≤ x1 ∧ x1 ≤ x9 + 0) (d7 : x1 + (-4294967296) ≤ x9 ∧ x9 ≤ x1 + 0) (h3 : x32 = a5_0 (x15)) (h7 : x30 = a5_0 (x15)) (h9 : x29 = a5_0 (x15)) (h15 : x23 = a3_0 (x15)) (h17 : x22 = a4_0 (x15)) (h22 : x17 = a4_0 (x15)) (h24 : x16 = a3_0 (x15)) (ed2 : gd = x1) : (-1) * gd + (1 * x1 + 0) ≤ 0 := by
  first
    | omega
    | (skip; (first | subst h3 | skip); (first | subst h7 | skip); (first | subst h9 | skip); (first | subst h15 | skip); (first | subst h17 | skip); (first | subst h22 | skip); (first | subst h24 | skip); have q := ‹BLQ _ _› x15 (by omega) (by omega); omega)
set_option maxHeartbeats 4000000 in
theorem vc_Fa_uniteAt_at_Nptail_Nphead_Emblock_22_9 (x2 : Int) (a5_0 : Int → Int) (k2 : 1 ≤ x2 ∧ x2 ≤ 72) (f26 : BLQ (a5_0) (x2)) : BLQ (a5_0) (x2) := by
  first
    | assumption
  
set_option maxHeartbeats 4000000 in
theorem vc_Fa_uniteAt_at_Nptail_Nphead_Emblock_22_10 (x15 : Int) (x16 : Int) (x17 : Int) (x22 : Int) (x23 : Int) (x29 : Int) (x30 : Int) (x31 : Int) (x32 : Int) (x33 : Int) (a5_0 : Int → Int) (a3_0 : Int → Int) (a4_0 : Int → Int) (k15 : 0 ≤ x15 ∧ x15 ≤ 71) (k16 : 0 ≤ x16 ∧ x16 ≤ 24) (k17 : 0 ≤ x17 ∧ x17 ≤ 24) (k22 : 0 ≤ x22 ∧ x22 ≤ 24) (k23 : 0 ≤ x23 ∧ x23 ≤ 24) (k29 : (-1) ≤ x29 ∧ x29 ≤ 71) (k30 : 0 ≤ x30 ∧ x30 ≤ 71) (k31 : 0 ≤ x31 ∧ x31 ≤ 71) (k32 : 0 ≤ x32 ∧ x32 ≤ 71) (k33 : 0 ≤ x33 ∧ x33 ≤ 71) (f1 : (-1) * x32 + (1 * x33 + 0) ≤ 0) (h3 : x32 = a5_0 (x15)) (f5 : 1 * x30 + ((-1) * x31 + 0) ≤ 0) (h7 : x30 = a5_0 (x15)) (h9 : x29 = a5_0 (x15)) (h15 : x23 = a3_0 (x15)) (h17 : x22 = a4_0 (x15)) (h22 : x17 = a4_0 (x15)) (h24 : x16 = a3_0 (x15)) : (0 ≤ x33) ∧ (x33 ≤ x31) := by
  first
    | omega
    | (skip; (first | subst h3 | skip); (first | subst h7 | skip); (first | subst h9 | skip); (first | subst h15 | skip); (first | subst h17 | skip); (first | subst h22 | skip); (first | subst h24 | skip); have q := ‹BLQ _ _› x15 (by omega) (by omega); omega)
set_option maxHeartbeats 4000000 in
theorem vc_Fa_uniteAt_at_Nptail_Nphead_Emblock_22_11 (x0 : Int) (x2 : Int) (x8 : Int) (x14 : Int) (x15 : Int) (x16 : Int) (x20 : Int) (x22 : Int) (x28 : Int) (x29 : Int) (x30 : Int) (x31 : Int) (x32 : Int) (x33 : Int) (a5_0 : Int → Int) (a3_0 : Int → Int) (a4_0 : Int → Int) (gu : Int) (k0 : 0 ≤ x0 ∧ x0 ≤ 24) (k2 : 1 ≤ x2 ∧ x2 ≤ 72) (k8 : 0 ≤ x8 ∧ x8 ≤ 24) (k14 : 0 ≤ x14 ∧ x14 ≤ 71) (k15 : 0 ≤ x15 ∧ x15 ≤ 71) (k16 : 0 ≤ x16 ∧ x16 ≤ 24) (k20 : 1 ≤ x20 ∧ x20 ≤ 1) (k22 : 0 ≤ x22 ∧ x22 ≤ 24) (k28 : (-1) ≤ x28 ∧ x28 ≤ (-1)) (k29 : (-1) ≤ x29 ∧ x29 ≤ 71) (k30 : 0 ≤ x30 ∧ x30 ≤ 71) (k31 : 0 ≤ x31 ∧ x31 ≤ 71) (k32 : 0 ≤ x32 ∧ x32 ≤ 71) (k33 : 0 ≤ x33 ∧ x33 ≤ 71) (d0 : x8 + 0 ≤ x22 ∧ x22 ≤ x8 + 0) (d1 : x8 + 0 ≤ x16 ∧ x16 ≤ x8 + 0) (d3 : x8 + (-4294967296) ≤ x0 ∧ x0 ≤ x8 + 0) (d6 : x0 + (-4294967296) ≤ x8 ∧ x8 ≤ x0 + 0) (f0 : (-1) * x14 + (1 * x33 + 0) ≤ 0) (f1 : (-1) * x32 + (1 * x33 + 0) ≤ 0) (f2 : (x33 = x14) ∨ (x33 = x32)) (h3 : x32 = a5_0 (x15)) (f4 : 1 * x14 + ((-1) * x31 + 0) ≤ 0) (f5 : 1 * x30 + ((-1) * x31 + 0) ≤ 0) (f6 : (x31 = x14) ∨ (x31 = x30)) (h7 : x30 = a5_0 (x15)) (f8 : x29 ≠ x14) (h9 : x29 = a5_0 (x15)) (f10 : x14 ≠ x28) (h17 : x22 = a4_0 (x15)) (f18 : x20 ≠ 0) (h24 : x16 = a3_0 (x15)) (f25 : x15 < x2) (f27 : UNI (a5_0) (a3_0) (a4_0) (x2) (x0) (x14)) (eu2 : gu = x0) : RLP (a5_0) (a3_0) (a4_0) (x2) (x31) (x33) (gu) := by
  first
    | (rw [show gu = x0 by omega]; exact uni_rlp (e := x15) ‹UNI _ _ _ _ _ _› (by omega) rfl (by omega) (by omega) (by omega) (by first | exact Or.inl (by omega) | exact Or.inr (by omega)) (by omega) (by omega) (by omega) (by omega) (by omega) (by omega))
  
set_option maxHeartbeats 4000000 in
theorem vc_Fa_uniteAt_at_Nptail_Nphead_Emblock_22_12 (x0 : Int) (x1 : Int) (x2 : Int) (x7 : Int) (x8 : Int) (x14 : Int) (x15 : Int) (x16 : Int) (x17 : Int) (x18 : Int) (x19 : Int) (x20 : Int) (x22 : Int) (x23 : Int) (x24 : Int) (x25 : Int) (x26 : Int) (x28 : Int) (x29 : Int) (x30 : Int) (x31 : Int) (x32 : Int) (x33 : Int) (a5_0 : Int → Int) (a3_0 : Int → Int) (a4_0 : Int → Int) (a6_0 : Int → Int) (gu : Int) (gc : Int) (gd : Int) (k0 : 0 ≤ x0 ∧ x0 ≤ 24) (k1 : 0 ≤ x1 ∧ x1 ≤ 33554431) (k2 : 1 ≤ x2 ∧ x2 ≤ 72) (k7 : 0 ≤ x7 ∧ x7 ≤ 25) (k8 : 0 ≤ x8 ∧ x8 ≤ 24) (k14 : 0 ≤ x14 ∧ x14 ≤ 71) (k15 : 0 ≤ x15 ∧ x15 ≤ 71) (k16 : 0 ≤ x16 ∧ x16 ≤ 24) (k17 : 0 ≤ x17 ∧ x17 ≤ 24) (k18 : 0 ≤ x18 ∧ x18 ≤ 33554431) (k19 : 1 ≤ x19 ∧ x19 ≤ 1) (k20 : 1 ≤ x20 ∧ x20 ≤ 1) (k22 : 0 ≤ x22 ∧ x22 ≤ 24) (k23 : 0 ≤ x23 ∧ x23 ≤ 24) (k28 : (-1) ≤ x28 ∧ x28 ≤ (-1)) (k29 : (-1) ≤ x29 ∧ x29 ≤ 71) (k30 : 0 ≤ x30 ∧ x30 ≤ 71) (k31 : 0 ≤ x31 ∧ x31 ≤ 71) (k32 : 0 ≤ x32 ∧ x32 ≤ 71) (k33 : 0 ≤ x33 ∧ x33 ≤ 71) (d0 : x8 + 0 ≤ x22 ∧ x22 ≤ x8 + 0) (d1 : x8 + 0 ≤ x16 ∧ x16 ≤ x8 + 0) (d3 : x8 + (-4294967296) ≤ x0 ∧ x0 ≤ x8 + 0) (d6 : x0 + (-4294967296) ≤ x8 ∧ x8 ≤ x0 + 0) (f0 : (-1) * x14 + (1 * x33 + 0) ≤ 0) (f1 : (-1) * x32 + (1 * x33 + 0) ≤ 0) (f2 : (x33 = x14) ∨ (x33 = x32)) (h3 : x32 = a5_0 (x15)) (f4 : 1 * x14 + ((-1) * x31 + 0) ≤ 0) (f5 : 1 * x30 + ((-1) * x31 + 0) ≤ 0) (f6 : (x31 = x14) ∨ (x31 = x30)) (h7 : x30 = a5_0 (x15)) (f8 : x29 ≠ x14) (h9 : x29 = a5_0 (x15)) (f10 : x14 ≠ x28) (h15 : x23 = a3_0 (x15)) (h17 : x22 = a4_0 (x15)) (f18 : x20 ≠ 0) (f20 : bvp (x20) = bvp (x18) &&& bvp (x19)) (f21 : bvp (x18) = bvp (x1) >>> (x17).toNat) (h22 : x17 = a4_0 (x15)) (h24 : x16 = a3_0 (x15)) (f25 : x15 < x2) (f28 : UN2 (a5_0) (a3_0) (a4_0) (a6_0) (x7) (x2) (x0) (x1) (x14)) (eu2 : gu = x0) (ec2 : gc = x7) (ed2 : gd = x1) : QKP (a5_0) (a3_0) (a4_0) (a6_0) (gc) (x2) (gu) (gd) (x31) (x33) := by
  first
    | (rw [show gu = x0 by omega, show gc = x7 by omega, show gd = x1 by omega]; exact un2_qkp (e := x15) ‹UN2 _ _ _ _ _ _ _ _ _› (by omega) rfl (by omega) (by omega) (by omega) (by first | exact Or.inl ⟨by omega, by omega, by rw [← ‹x17 = a4_0 x15›]; exact (bit_one (s := x1) (t := x18) (c := x20) (v := x17) (one := x19) (by assumption) (by assumption) (by omega) (by omega) (by omega) (by omega)).mpr (by omega)⟩ | exact Or.inr ⟨by omega, by omega, by rw [← ‹x19 = a3_0 x15›]; exact (bit_one (s := x1) (t := x20) (c := x22) (v := x19) (one := x21) (by assumption) (by assumption) (by omega) (by omega) (by omega) (by omega)).mpr (by omega)⟩ | exact Or.inr ⟨by omega, by omega, by rw [← ‹x23 = a3_0 x15›]; exact (bit_one (s := x1) (t := x24) (c := x26) (v := x23) (one := x25) (by assumption) (by assumption) (by omega) (by omega) (by omega) (by omega)).mpr (by omega)⟩) (by omega) (by omega) (by omega) (by omega) (by omega) (by omega))
  
set_option maxHeartbeats 4000000 in
theorem vc_Fa_uniteAt_at_Nptail_Nphead_Emblock_22_13 (x0 : Int) (x15 : Int) (x16 : Int) (x17 : Int) (x22 : Int) (x23 : Int) (x29 : Int) (x30 : Int) (x32 : Int) (a5_0 : Int → Int) (a3_0 : Int → Int) (a4_0 : Int → Int) (gu : Int) (k0 : 0 ≤ x0 ∧ x0 ≤ 24) (k15 : 0 ≤ x15 ∧ x15 ≤ 71) (k16 : 0 ≤ x16 ∧ x16 ≤ 24) (k17 : 0 ≤ x17 ∧ x17 ≤ 24) (k22 : 0 ≤ x22 ∧ x22 ≤ 24) (k23 : 0 ≤ x23 ∧ x23 ≤ 24) (k29 : (-1) ≤ x29 ∧ x29 ≤ 71) (k30 : 0 ≤ x30 ∧ x30 ≤ 71) (k32 : 0 ≤ x32 ∧ x32 ≤ 71) (h3 : x32 = a5_0 (x15)) (h7 : x30 = a5_0 (x15)) (h9 : x29 = a5_0 (x15)) (h15 : x23 = a3_0 (x15)) (h17 : x22 = a4_0 (x15)) (h22 : x17 = a4_0 (x15)) (h24 : x16 = a3_0 (x15)) (eu2 : gu = x0) : gu = x0 := by
  first
    | omega
    | (skip; (first | subst h3 | skip); (first | subst h7 | skip); (first | subst h9 | skip); (first | subst h15 | skip); (first | subst h17 | skip); (first | subst h22 | skip); (first | subst h24 | skip); have q := ‹BLQ _ _› x15 (by omega) (by omega); omega)
set_option maxHeartbeats 4000000 in
theorem vc_Fa_uniteAt_at_Nptail_Nphead_Emblock_22_14 (x15 : Int) (x16 : Int) (x17 : Int) (x22 : Int) (x23 : Int) (x29 : Int) (x30 : Int) (x32 : Int) (x33 : Int) (a5_0 : Int → Int) (a3_0 : Int → Int) (a4_0 : Int → Int) (k15 : 0 ≤ x15 ∧ x15 ≤ 71) (k16 : 0 ≤ x16 ∧ x16 ≤ 24) (k17 : 0 ≤ x17 ∧ x17 ≤ 24) (k22 : 0 ≤ x22 ∧ x22 ≤ 24) (k23 : 0 ≤ x23 ∧ x23 ≤ 24) (k29 : (-1) ≤ x29 ∧ x29 ≤ 71) (k30 : 0 ≤ x30 ∧ x30 ≤ 71) (k32 : 0 ≤ x32 ∧ x32 ≤ 71) (k33 : 0 ≤ x33 ∧ x33 ≤ 71) (h3 : x32 = a5_0 (x15)) (h7 : x30 = a5_0 (x15)) (h9 : x29 = a5_0 (x15)) (h15 : x23 = a3_0 (x15)) (h17 : x22 = a4_0 (x15)) (h22 : x17 = a4_0 (x15)) (h24 : x16 = a3_0 (x15)) : 0 ≤ x33 := by
  first
    | omega
    | (skip; (first | subst h3 | skip); (first | subst h7 | skip); (first | subst h9 | skip); (first | subst h15 | skip); (first | subst h17 | skip); (first | subst h22 | skip); (first | subst h24 | skip); have q := ‹BLQ _ _› x15 (by omega) (by omega); omega)
set_option maxHeartbeats 4000000 in
theorem vc_Fa_uniteAt_at_Nptail_Nphead_Emblock_22_15 (x7 : Int) (x15 : Int) (x16 : Int) (x17 : Int) (x22 : Int) (x23 : Int) (x29 : Int) (x30 : Int) (x32 : Int) (a5_0 : Int → Int) (a3_0 : Int → Int) (a4_0 : Int → Int) (gc : Int) (k7 : 0 ≤ x7 ∧ x7 ≤ 25) (k15 : 0 ≤ x15 ∧ x15 ≤ 71) (k16 : 0 ≤ x16 ∧ x16 ≤ 24) (k17 : 0 ≤ x17 ∧ x17 ≤ 24) (k22 : 0 ≤ x22 ∧ x22 ≤ 24) (k23 : 0 ≤ x23 ∧ x23 ≤ 24) (k29 : (-1) ≤ x29 ∧ x29 ≤ 71) (k30 : 0 ≤ x30 ∧ x30 ≤ 71) (k32 : 0 ≤ x32 ∧ x32 ≤ 71) (h3 : x32 = a5_0 (x15)) (h7 : x30 = a5_0 (x15)) (h9 : x29 = a5_0 (x15)) (h15 : x23 = a3_0 (x15)) (h17 : x22 = a4_0 (x15)) (h22 : x17 = a4_0 (x15)) (h24 : x16 = a3_0 (x15)) (ec2 : gc = x7) : gc = x7 := by
  first
    | omega
    | (skip; (first | subst h3 | skip); (first | subst h7 | skip); (first | subst h9 | skip); (first | subst h15 | skip); (first | subst h17 | skip); (first | subst h22 | skip); (first | subst h24 | skip); have q := ‹BLQ _ _› x15 (by omega) (by omega); omega)
set_option maxHeartbeats 4000000 in
theorem vc_Fa_uniteAt_at_Nptail_Nphead_Emblock_22_16 (x1 : Int) (x15 : Int) (x16 : Int) (x17 : Int) (x22 : Int) (x23 : Int) (x29 : Int) (x30 : Int) (x32 : Int) (a5_0 : Int → Int) (a3_0 : Int → Int) (a4_0 : Int → Int) (gd : Int) (k1 : 0 ≤ x1 ∧ x1 ≤ 33554431) (k15 : 0 ≤ x15 ∧ x15 ≤ 71) (k16 : 0 ≤ x16 ∧ x16 ≤ 24) (k17 : 0 ≤ x17 ∧ x17 ≤ 24) (k22 : 0 ≤ x22 ∧ x22 ≤ 24) (k23 : 0 ≤ x23 ∧ x23 ≤ 24) (k29 : (-1) ≤ x29 ∧ x29 ≤ 71) (k30 : 0 ≤ x30 ∧ x30 ≤ 71) (k32 : 0 ≤ x32 ∧ x32 ≤ 71) (h3 : x32 = a5_0 (x15)) (h7 : x30 = a5_0 (x15)) (h9 : x29 = a5_0 (x15)) (h15 : x23 = a3_0 (x15)) (h17 : x22 = a4_0 (x15)) (h22 : x17 = a4_0 (x15)) (h24 : x16 = a3_0 (x15)) (ed2 : gd = x1) : gd = x1 := by
  first
    | omega
    | (skip; (first | subst h3 | skip); (first | subst h7 | skip); (first | subst h9 | skip); (first | subst h15 | skip); (first | subst h17 | skip); (first | subst h22 | skip); (first | subst h24 | skip); have q := ‹BLQ _ _› x15 (by omega) (by omega); omega)
def o_Fa_uniteAt_at_Nptail_Nphead_Emblock_22 : or_T := (136, 34, [(0, (0, 0, 24, [])), (1, (0, 0, 33554431, [])), (2, (0, 1, 72, [])), (3, (2, 0, 0, [140])), (4, (2, 0, 0, [141])), (5, (2, 0, 0, [26])), (6, (2, 0, 0, [142])), (7, (0, 0, 25, [])), (8, (0, 0, 24, [])), (9, (0, 0, 33554431, [])), (10, (0, 1, 72, [])), (11, (2, 0, 0, [140])), (12, (2, 0, 0, [141])), (13, (2, 0, 0, [26])), (14, (0, 0, 71, [])), (15, (0, 0, 71, [])), (16, (0, 0, 24, [])), (17, (0, 0, 24, [])), (18, (0, 0, 33554431, [])), (19, (0, 1, 1, [])), (20, (0, 1, 1, [])), (22, (0, 0, 24, [])), (23, (0, 0, 24, [])), (24, (0, 0, 33554431, [])), (25, (0, 1, 1, [])), (26, (0, 0, 0, [])), (28, (0, -1, -1, [])), (29, (0, -1, 71, [])), (30, (0, 0, 71, [])), (31, (0, 0, 71, [])), (32, (0, 0, 71, [])), (33, (0, 0, 71, []))], [(23, [14, 33], [0, -1, 1]), (23, [32, 33], [0, -1, 1]), (20, [33, 14, 32], [50, 0, 0, 3, 6, 1, 2, 1, 0, 1, 1, 1, 2, 1, 0, 1, 2]), (10, [32, 13, 15], []), (23, [14, 31], [0, 1, -1]), (23, [30, 31], [0, 1, -1]), (20, [31, 14, 30], [50, 0, 0, 3, 6, 1, 2, 1, 0, 1, 1, 1, 2, 1, 0, 1, 2]), (10, [30, 13, 15], []), (7, [29, 14], [1]), (10, [29, 13, 15], []), (7, [14, 28], [1]), (8, [26], [0]), (12, [26, 24], [2]), (16, [26, 24, 25], [0]), (16, [24, 9, 23], [4]), (10, [23, 11, 15], []), (7, [22, 8], [0]), (10, [22, 12, 15], []), (8, [20], [1]), (12, [20, 18], [2]), (16, [20, 18, 19], [0]), (16, [18, 9, 17], [4]), (10, [17, 12, 15], []), (7, [16, 8], [0]), (10, [16, 11, 15], []), (7, [15, 10], [2]), (20, [13, 10], [61, 1, 566]), (20, [13, 11, 12, 10, 8, 14], [61, 3, 584]), (20, [13, 11, 12, 6, 7, 10, 8, 9, 14], [61, 4, 589]), (24, [0, 8], []), (24, [1, 9], []), (24, [2, 10], []), (24, [3, 11], []), (24, [4, 12], []), (24, [5, 13], [])], [], [(2, 0, 0, [140]), (2, 0, 0, [141]), (0, 0, 24, []), (2, 0, 0, [142]), (0, 0, 25, []), (0, -2147483648, 2147483647, [])], [(24, [3, 34], []), (24, [4, 35], []), (23, [36, 8], [0, 1, -1]), (23, [36, 8], [0, -1, 1]), (24, [6, 37], []), (23, [38, 7], [0, 1, -1]), (23, [38, 7], [0, -1, 1]), (23, [39, 9], [0, 1, -1]), (23, [39, 9], [0, -1, 1]), (20, [13, 10], [61, 1, 566]), (20, [33, 31], [50, 0, 0, 2, 6, 0, 2, 0, 0, 1, 0, 0, 2, 1, 0, 1, 1]), (20, [13, 34, 35, 10, 31, 33, 36], [61, 3, 581]), (20, [13, 34, 35, 37, 38, 10, 36, 39, 31, 33], [61, 4, 590]), (20, [36, 8], [50, 0, 0, 1, 2, 1, 0, 1, 1]), (20, [33], [50, 0, 0, 0, 2, 0, 0, 1, 0]), (20, [38, 7], [50, 0, 0, 1, 2, 1, 0, 1, 1]), (20, [39, 9], [50, 0, 0, 1, 2, 1, 0, 1, 1])], [], [(22, 8, 0, 0), (16, 8, 0, 0), (15, 10, -4294967296, -1), (0, 8, -4294967296, 0), (1, 9, -4294967296, 0), (2, 10, -4294967296, 0), (8, 0, -4294967296, 0), (9, 1, -4294967296, 0), (10, 2, -4294967296, 0), (14, 15, -4294967296, 70), (15, 2, -4294967296, 0), (15, 10, -4294967296, 0)])
theorem oo_Fa_uniteAt_at_Nptail_Nphead_Emblock_22 {kA : Nat → ClassId} : or_ok PRD kA GG o_Fa_uniteAt_at_Nptail_Nphead_Emblock_22 := by
  refine or_mk fun A ta ws vs hD hth hl => ?_
  intro t0 k0 t1 k1 t2 k2 t3 r3 t4 r4 t5 r5 t6 r6 t7 k7 t8 k8 t9 k9 t10 k10 t11 r11 t12 r12 t13 r13 t14 k14 t15 k15 t16 k16 t17 k17 t18 k18 t19 k19 t20 k20 t22 k22 t23 k23 t24 k24 t25 k25 t26 k26 t28 k28 t29 k29 t30 k30 t31 k31 t32 k32 t33 k33 d0 d1 d2 d3 d4 d5 d6 d7 d8 d9 d10 d11 f0 f1 f2 f3 f4 f5 f6 f7 f8 f9 f10 f11 f12 f13 f14 f15 f16 f17 f18 f19 f20 f21 f22 f23 f24 f25 f26 f27 f28 f29 f30 f31 f32 f33 f34
  replace f0 := shm_22 f0
  replace f1 := shm_22 f1
  replace f2 := shm_898 f2
  replace f3 := shm_107 f3
  replace f4 := shm_7 f4
  replace f5 := shm_7 f5
  replace f6 := shm_898 f6
  replace f7 := shm_107 f7
  replace f8 := shm_40 f8
  replace f9 := shm_107 f9
  replace f10 := shm_40 f10
  replace f15 := shm_107 f15
  replace f17 := shm_107 f17
  replace f18 := shm_142 f18
  replace f20 := shm_11 f20
  replace f21 := shm_13 f21
  replace f22 := shm_107 f22
  replace f24 := shm_107 f24
  replace f25 := shm_6 f25
  replace f26 := shm_365 f26
  replace f27 := shm_1193 f27
  replace f28 := shm_1194 f28
  replace f29 := shm_5 f29
  replace f30 := shm_5 f30
  replace f31 := shm_5 f31
  replace f32 := shm_5 f32
  replace f33 := shm_5 f33
  replace f34 := shm_5 f34
  have q8 : n_v vs 8 = n_v vs 0 := f29.symm
  have q9 : n_v vs 9 = n_v vs 1 := f30.symm
  have q10 : n_v vs 10 = n_v vs 2 := f31.symm
  have q11 : n_v vs 11 = n_v vs 3 := f32.symm
  have q12 : n_v vs 12 = n_v vs 4 := f33.symm
  have q13 : n_v vs 13 = n_v vs 5 := f34.symm
  simp only [q13, q9, q11, q8, q12, q10] at f3 f7 f9 f15 f17 f21 f22 f24 f25 f26 f27 f28
  have h3 : v_iv (n_v vs 32) = w_ei ws (v_ad (n_v vs 5)) (v_iv (n_v vs 15)) := f3
  have h7 : v_iv (n_v vs 30) = w_ei ws (v_ad (n_v vs 5)) (v_iv (n_v vs 15)) := f7
  have h9 : v_iv (n_v vs 29) = w_ei ws (v_ad (n_v vs 5)) (v_iv (n_v vs 15)) := f9
  have h15 : v_iv (n_v vs 23) = w_ei ws (v_ad (n_v vs 3)) (v_iv (n_v vs 15)) := f15
  have h17 : v_iv (n_v vs 22) = w_ei ws (v_ad (n_v vs 4)) (v_iv (n_v vs 15)) := f17
  have h22 : v_iv (n_v vs 17) = w_ei ws (v_ad (n_v vs 4)) (v_iv (n_v vs 15)) := f22
  have h24 : v_iv (n_v vs 16) = w_ei ws (v_ad (n_v vs 3)) (v_iv (n_v vs 15)) := f24
  obtain ⟨u, eu, hu⟩ := iv_ex (ta := ta) (lo := 0) (hi := 24) (z := v_iv (n_v vs 0)) (by omega) (by omega) (by omega) (by omega)
  have eu2 : v_iv (Value.int u) = v_iv (n_v vs 0) := eu
  have eu3 : 0 ≤ v_iv (Value.int u) ∧ v_iv (Value.int u) ≤ 24 := tv_rng hu
  obtain ⟨c, ec, hc⟩ := iv_ex (ta := ta) (lo := 0) (hi := 25) (z := v_iv (n_v vs 7)) (by omega) (by omega) (by omega) (by omega)
  have ec2 : v_iv (Value.int c) = v_iv (n_v vs 7) := ec
  have ec3 : 0 ≤ v_iv (Value.int c) ∧ v_iv (Value.int c) ≤ 25 := tv_rng hc
  obtain ⟨d, ed, hd⟩ := iv_ex (ta := ta) (lo := (-2147483648)) (hi := 2147483647) (z := v_iv (n_v vs 1)) (by omega) (by omega) (by omega) (by omega)
  have ed2 : v_iv (Value.int d) = v_iv (n_v vs 1) := ed
  have ed3 : (-2147483648) ≤ v_iv (Value.int d) ∧ v_iv (Value.int d) ≤ 2147483647 := tv_rng hd
  have e_3 : n_v (vs ++ [n_v vs 3, n_v vs 4, Value.int u, n_v vs 6, Value.int c, Value.int d]) 3 = n_v vs 3 := n_v_old (by rw [hl]; decide)
  have e_4 : n_v (vs ++ [n_v vs 3, n_v vs 4, Value.int u, n_v vs 6, Value.int c, Value.int d]) 4 = n_v vs 4 := n_v_old (by rw [hl]; decide)
  have e_6 : n_v (vs ++ [n_v vs 3, n_v vs 4, Value.int u, n_v vs 6, Value.int c, Value.int d]) 6 = n_v vs 6 := n_v_old (by rw [hl]; decide)
  have e_7 : n_v (vs ++ [n_v vs 3, n_v vs 4, Value.int u, n_v vs 6, Value.int c, Value.int d]) 7 = n_v vs 7 := n_v_old (by rw [hl]; decide)
  have e_8 : n_v (vs ++ [n_v vs 3, n_v vs 4, Value.int u, n_v vs 6, Value.int c, Value.int d]) 8 = n_v vs 8 := n_v_old (by rw [hl]; decide)
  have e_9 : n_v (vs ++ [n_v vs 3, n_v vs 4, Value.int u, n_v vs 6, Value.int c, Value.int d]) 9 = n_v vs 9 := n_v_old (by rw [hl]; decide)
  have e_10 : n_v (vs ++ [n_v vs 3, n_v vs 4, Value.int u, n_v vs 6, Value.int c, Value.int d]) 10 = n_v vs 10 := n_v_old (by rw [hl]; decide)
  have e_13 : n_v (vs ++ [n_v vs 3, n_v vs 4, Value.int u, n_v vs 6, Value.int c, Value.int d]) 13 = n_v vs 13 := n_v_old (by rw [hl]; decide)
  have e_31 : n_v (vs ++ [n_v vs 3, n_v vs 4, Value.int u, n_v vs 6, Value.int c, Value.int d]) 31 = n_v vs 31 := n_v_old (by rw [hl]; decide)
  have e_33 : n_v (vs ++ [n_v vs 3, n_v vs 4, Value.int u, n_v vs 6, Value.int c, Value.int d]) 33 = n_v vs 33 := n_v_old (by rw [hl]; decide)
  have e_34 : n_v (vs ++ [n_v vs 3, n_v vs 4, Value.int u, n_v vs 6, Value.int c, Value.int d]) 34 = n_v vs 3 := n_v_newk (k := 0) hl rfl
  have e_35 : n_v (vs ++ [n_v vs 3, n_v vs 4, Value.int u, n_v vs 6, Value.int c, Value.int d]) 35 = n_v vs 4 := n_v_newk (k := 1) hl rfl
  have e_36 : n_v (vs ++ [n_v vs 3, n_v vs 4, Value.int u, n_v vs 6, Value.int c, Value.int d]) 36 = Value.int u := n_v_newk (k := 2) hl rfl
  have e_37 : n_v (vs ++ [n_v vs 3, n_v vs 4, Value.int u, n_v vs 6, Value.int c, Value.int d]) 37 = n_v vs 6 := n_v_newk (k := 3) hl rfl
  have e_38 : n_v (vs ++ [n_v vs 3, n_v vs 4, Value.int u, n_v vs 6, Value.int c, Value.int d]) 38 = Value.int c := n_v_newk (k := 4) hl rfl
  have e_39 : n_v (vs ++ [n_v vs 3, n_v vs 4, Value.int u, n_v vs 6, Value.int c, Value.int d]) 39 = Value.int d := n_v_newk (k := 5) hl rfl
  have nf0 : fc_1 PRD (24, [3, 34], []) ws (vs ++ [n_v vs 3, n_v vs 4, Value.int u, n_v vs 6, Value.int c, Value.int d]) := by
    refine ⟨nf_inA hl rfl, sgq_5 ?_⟩
    · show n_v (vs ++ [n_v vs 3, n_v vs 4, Value.int u, n_v vs 6, Value.int c, Value.int d]) 3 = n_v (vs ++ [n_v vs 3, n_v vs 4, Value.int u, n_v vs 6, Value.int c, Value.int d]) 34
      first | rfl | simp only [e_3, e_34, q8, q9, q10, q11, q12, q13]
  have nf1 : fc_1 PRD (24, [4, 35], []) ws (vs ++ [n_v vs 3, n_v vs 4, Value.int u, n_v vs 6, Value.int c, Value.int d]) := by
    refine ⟨nf_inA hl rfl, sgq_5 ?_⟩
    · show n_v (vs ++ [n_v vs 3, n_v vs 4, Value.int u, n_v vs 6, Value.int c, Value.int d]) 4 = n_v (vs ++ [n_v vs 3, n_v vs 4, Value.int u, n_v vs 6, Value.int c, Value.int d]) 35
      first | rfl | simp only [e_4, e_35, q8, q9, q10, q11, q12, q13]
  have nf2 : fc_1 PRD (23, [36, 8], [0, 1, -1]) ws (vs ++ [n_v vs 3, n_v vs 4, Value.int u, n_v vs 6, Value.int c, Value.int d]) := by
    refine ⟨nf_inA hl rfl, sgq_7 ?_⟩
    · show 1 * v_iv (n_v (vs ++ [n_v vs 3, n_v vs 4, Value.int u, n_v vs 6, Value.int c, Value.int d]) 36) + ((-1) * v_iv (n_v (vs ++ [n_v vs 3, n_v vs 4, Value.int u, n_v vs 6, Value.int c, Value.int d]) 8) + 0) ≤ 0
      simp only [e_8, e_36, q8]
      exact vc_Fa_uniteAt_at_Nptail_Nphead_Emblock_22_2 (v_iv (n_v vs 0)) (v_iv (n_v vs 8)) (v_iv (n_v vs 15)) (v_iv (n_v vs 16)) (v_iv (n_v vs 17)) (v_iv (n_v vs 22)) (v_iv (n_v vs 23)) (v_iv (n_v vs 29)) (v_iv (n_v vs 30)) (v_iv (n_v vs 32)) (w_ei ws (v_ad (n_v vs 5))) (w_ei ws (v_ad (n_v vs 3))) (w_ei ws (v_ad (n_v vs 4))) (v_iv (Value.int u)) k0 k8 k15 k16 k17 k22 k23 k29 k30 k32 d0 d3 d6 h3 h7 h9 h15 h17 h22 h24 eu2
  have nf3 : fc_1 PRD (23, [36, 8], [0, -1, 1]) ws (vs ++ [n_v vs 3, n_v vs 4, Value.int u, n_v vs 6, Value.int c, Value.int d]) := by
    refine ⟨nf_inA hl rfl, sgq_22 ?_⟩
    · show (-1) * v_iv (n_v (vs ++ [n_v vs 3, n_v vs 4, Value.int u, n_v vs 6, Value.int c, Value.int d]) 36) + (1 * v_iv (n_v (vs ++ [n_v vs 3, n_v vs 4, Value.int u, n_v vs 6, Value.int c, Value.int d]) 8) + 0) ≤ 0
      simp only [e_8, e_36, q8]
      exact vc_Fa_uniteAt_at_Nptail_Nphead_Emblock_22_3 (v_iv (n_v vs 0)) (v_iv (n_v vs 8)) (v_iv (n_v vs 15)) (v_iv (n_v vs 16)) (v_iv (n_v vs 17)) (v_iv (n_v vs 22)) (v_iv (n_v vs 23)) (v_iv (n_v vs 29)) (v_iv (n_v vs 30)) (v_iv (n_v vs 32)) (w_ei ws (v_ad (n_v vs 5))) (w_ei ws (v_ad (n_v vs 3))) (w_ei ws (v_ad (n_v vs 4))) (v_iv (Value.int u)) k0 k8 k15 k16 k17 k22 k23 k29 k30 k32 d0 d3 d6 h3 h7 h9 h15 h17 h22 h24 eu2
  have nf4 : fc_1 PRD (24, [6, 37], []) ws (vs ++ [n_v vs 3, n_v vs 4, Value.int u, n_v vs 6, Value.int c, Value.int d]) := by
    refine ⟨nf_inA hl rfl, sgq_5 ?_⟩
    · show n_v (vs ++ [n_v vs 3, n_v vs 4, Value.int u, n_v vs 6, Value.int c, Value.int d]) 6 = n_v (vs ++ [n_v vs 3, n_v vs 4, Value.int u, n_v vs 6, Value.int c, Value.int d]) 37
      first | rfl | simp only [e_6, e_37, q8, q9, q10, q11, q12, q13]
  have nf5 : fc_1 PRD (23, [38, 7], [0, 1, -1]) ws (vs ++ [n_v vs 3, n_v vs 4, Value.int u, n_v vs 6, Value.int c, Value.int d]) := by
    refine ⟨nf_inA hl rfl, sgq_7 ?_⟩
    · show 1 * v_iv (n_v (vs ++ [n_v vs 3, n_v vs 4, Value.int u, n_v vs 6, Value.int c, Value.int d]) 38) + ((-1) * v_iv (n_v (vs ++ [n_v vs 3, n_v vs 4, Value.int u, n_v vs 6, Value.int c, Value.int d]) 7) + 0) ≤ 0
      simp only [e_7, e_38]
      exact vc_Fa_uniteAt_at_Nptail_Nphead_Emblock_22_5 (v_iv (n_v vs 7)) (v_iv (n_v vs 15)) (v_iv (n_v vs 16)) (v_iv (n_v vs 17)) (v_iv (n_v vs 22)) (v_iv (n_v vs 23)) (v_iv (n_v vs 29)) (v_iv (n_v vs 30)) (v_iv (n_v vs 32)) (w_ei ws (v_ad (n_v vs 5))) (w_ei ws (v_ad (n_v vs 3))) (w_ei ws (v_ad (n_v vs 4))) (v_iv (Value.int c)) k7 k15 k16 k17 k22 k23 k29 k30 k32 h3 h7 h9 h15 h17 h22 h24 ec2
  have nf6 : fc_1 PRD (23, [38, 7], [0, -1, 1]) ws (vs ++ [n_v vs 3, n_v vs 4, Value.int u, n_v vs 6, Value.int c, Value.int d]) := by
    refine ⟨nf_inA hl rfl, sgq_22 ?_⟩
    · show (-1) * v_iv (n_v (vs ++ [n_v vs 3, n_v vs 4, Value.int u, n_v vs 6, Value.int c, Value.int d]) 38) + (1 * v_iv (n_v (vs ++ [n_v vs 3, n_v vs 4, Value.int u, n_v vs 6, Value.int c, Value.int d]) 7) + 0) ≤ 0
      simp only [e_7, e_38]
      exact vc_Fa_uniteAt_at_Nptail_Nphead_Emblock_22_6 (v_iv (n_v vs 7)) (v_iv (n_v vs 15)) (v_iv (n_v vs 16)) (v_iv (n_v vs 17)) (v_iv (n_v vs 22)) (v_iv (n_v vs 23)) (v_iv (n_v vs 29)) (v_iv (n_v vs 30)) (v_iv (n_v vs 32)) (w_ei ws (v_ad (n_v vs 5))) (w_ei ws (v_ad (n_v vs 3))) (w_ei ws (v_ad (n_v vs 4))) (v_iv (Value.int c)) k7 k15 k16 k17 k22 k23 k29 k30 k32 h3 h7 h9 h15 h17 h22 h24 ec2
  have nf7 : fc_1 PRD (23, [39, 9], [0, 1, -1]) ws (vs ++ [n_v vs 3, n_v vs 4, Value.int u, n_v vs 6, Value.int c, Value.int d]) := by
    refine ⟨nf_inA hl rfl, sgq_7 ?_⟩
    · show 1 * v_iv (n_v (vs ++ [n_v vs 3, n_v vs 4, Value.int u, n_v vs 6, Value.int c, Value.int d]) 39) + ((-1) * v_iv (n_v (vs ++ [n_v vs 3, n_v vs 4, Value.int u, n_v vs 6, Value.int c, Value.int d]) 9) + 0) ≤ 0
      simp only [e_9, e_39, q9]
      exact vc_Fa_uniteAt_at_Nptail_Nphead_Emblock_22_7 (v_iv (n_v vs 1)) (v_iv (n_v vs 9)) (v_iv (n_v vs 15)) (v_iv (n_v vs 16)) (v_iv (n_v vs 17)) (v_iv (n_v vs 22)) (v_iv (n_v vs 23)) (v_iv (n_v vs 29)) (v_iv (n_v vs 30)) (v_iv (n_v vs 32)) (w_ei ws (v_ad (n_v vs 5))) (w_ei ws (v_ad (n_v vs 3))) (w_ei ws (v_ad (n_v vs 4))) (v_iv (Value.int d)) k1 k9 k15 k16 k17 k22 k23 k29 k30 k32 d4 d7 h3 h7 h9 h15 h17 h22 h24 ed2
  have nf8 : fc_1 PRD (23, [39, 9], [0, -1, 1]) ws (vs ++ [n_v vs 3, n_v vs 4, Value.int u, n_v vs 6, Value.int c, Value.int d]) := by
    refine ⟨nf_inA hl rfl, sgq_22 ?_⟩
    · show (-1) * v_iv (n_v (vs ++ [n_v vs 3, n_v vs 4, Value.int u, n_v vs 6, Value.int c, Value.int d]) 39) + (1 * v_iv (n_v (vs ++ [n_v vs 3, n_v vs 4, Value.int u, n_v vs 6, Value.int c, Value.int d]) 9) + 0) ≤ 0
      simp only [e_9, e_39, q9]
      exact vc_Fa_uniteAt_at_Nptail_Nphead_Emblock_22_8 (v_iv (n_v vs 1)) (v_iv (n_v vs 9)) (v_iv (n_v vs 15)) (v_iv (n_v vs 16)) (v_iv (n_v vs 17)) (v_iv (n_v vs 22)) (v_iv (n_v vs 23)) (v_iv (n_v vs 29)) (v_iv (n_v vs 30)) (v_iv (n_v vs 32)) (w_ei ws (v_ad (n_v vs 5))) (w_ei ws (v_ad (n_v vs 3))) (w_ei ws (v_ad (n_v vs 4))) (v_iv (Value.int d)) k1 k9 k15 k16 k17 k22 k23 k29 k30 k32 d4 d7 h3 h7 h9 h15 h17 h22 h24 ed2
  have nf9 : fc_1 PRD (20, [13, 10], [61, 1, 566]) ws (vs ++ [n_v vs 3, n_v vs 4, Value.int u, n_v vs 6, Value.int c, Value.int d]) := by
    refine ⟨nf_inA hl rfl, sgq_365 ?_⟩
    · show BLQ (w_ei ws (v_ad (n_v (vs ++ [n_v vs 3, n_v vs 4, Value.int u, n_v vs 6, Value.int c, Value.int d]) 13))) (v_iv (n_v (vs ++ [n_v vs 3, n_v vs 4, Value.int u, n_v vs 6, Value.int c, Value.int d]) 10))
      simp only [e_10, e_13, q10, q13]
      exact vc_Fa_uniteAt_at_Nptail_Nphead_Emblock_22_9 (v_iv (n_v vs 2)) (w_ei ws (v_ad (n_v vs 5))) k2 f26
  have nf10 : fc_1 PRD (20, [33, 31], [50, 0, 0, 2, 6, 0, 2, 0, 0, 1, 0, 0, 2, 1, 0, 1, 1]) ws (vs ++ [n_v vs 3, n_v vs 4, Value.int u, n_v vs 6, Value.int c, Value.int d]) := by
    refine ⟨nf_inA hl rfl, sgq_366 ?_⟩
    · show (0 ≤ v_iv (n_v (vs ++ [n_v vs 3, n_v vs 4, Value.int u, n_v vs 6, Value.int c, Value.int d]) 33)) ∧ (v_iv (n_v (vs ++ [n_v vs 3, n_v vs 4, Value.int u, n_v vs 6, Value.int c, Value.int d]) 33) ≤ v_iv (n_v (vs ++ [n_v vs 3, n_v vs 4, Value.int u, n_v vs 6, Value.int c, Value.int d]) 31))
      simp only [e_31, e_33]
      exact vc_Fa_uniteAt_at_Nptail_Nphead_Emblock_22_10 (v_iv (n_v vs 15)) (v_iv (n_v vs 16)) (v_iv (n_v vs 17)) (v_iv (n_v vs 22)) (v_iv (n_v vs 23)) (v_iv (n_v vs 29)) (v_iv (n_v vs 30)) (v_iv (n_v vs 31)) (v_iv (n_v vs 32)) (v_iv (n_v vs 33)) (w_ei ws (v_ad (n_v vs 5))) (w_ei ws (v_ad (n_v vs 3))) (w_ei ws (v_ad (n_v vs 4))) k15 k16 k17 k22 k23 k29 k30 k31 k32 k33 f1 h3 f5 h7 h9 h15 h17 h22 h24
  have nf11 : fc_1 PRD (20, [13, 34, 35, 10, 31, 33, 36], [61, 3, 581]) ws (vs ++ [n_v vs 3, n_v vs 4, Value.int u, n_v vs 6, Value.int c, Value.int d]) := by
    refine ⟨nf_inA hl rfl, sgq_367 ?_⟩
    · show RLP (w_ei ws (v_ad (n_v (vs ++ [n_v vs 3, n_v vs 4, Value.int u, n_v vs 6, Value.int c, Value.int d]) 13))) (w_ei ws (v_ad (n_v (vs ++ [n_v vs 3, n_v vs 4, Value.int u, n_v vs 6, Value.int c, Value.int d]) 34))) (w_ei ws (v_ad (n_v (vs ++ [n_v vs 3, n_v vs 4, Value.int u, n_v vs 6, Value.int c, Value.int d]) 35))) (v_iv (n_v (vs ++ [n_v vs 3, n_v vs 4, Value.int u, n_v vs 6, Value.int c, Value.int d]) 10)) (v_iv (n_v (vs ++ [n_v vs 3, n_v vs 4, Value.int u, n_v vs 6, Value.int c, Value.int d]) 31)) (v_iv (n_v (vs ++ [n_v vs 3, n_v vs 4, Value.int u, n_v vs 6, Value.int c, Value.int d]) 33)) (v_iv (n_v (vs ++ [n_v vs 3, n_v vs 4, Value.int u, n_v vs 6, Value.int c, Value.int d]) 36))
      simp only [e_10, e_13, e_31, e_33, e_34, e_35, e_36, q10, q13]
      exact vc_Fa_uniteAt_at_Nptail_Nphead_Emblock_22_11 (v_iv (n_v vs 0)) (v_iv (n_v vs 2)) (v_iv (n_v vs 8)) (v_iv (n_v vs 14)) (v_iv (n_v vs 15)) (v_iv (n_v vs 16)) (v_iv (n_v vs 20)) (v_iv (n_v vs 22)) (v_iv (n_v vs 28)) (v_iv (n_v vs 29)) (v_iv (n_v vs 30)) (v_iv (n_v vs 31)) (v_iv (n_v vs 32)) (v_iv (n_v vs 33)) (w_ei ws (v_ad (n_v vs 5))) (w_ei ws (v_ad (n_v vs 3))) (w_ei ws (v_ad (n_v vs 4))) (v_iv (Value.int u)) k0 k2 k8 k14 k15 k16 k20 k22 k28 k29 k30 k31 k32 k33 d0 d1 d3 d6 f0 f1 f2 h3 f4 f5 f6 h7 f8 h9 f10 h17 f18 h24 f25 f27 eu2
  have nf12 : fc_1 PRD (20, [13, 34, 35, 37, 38, 10, 36, 39, 31, 33], [61, 4, 590]) ws (vs ++ [n_v vs 3, n_v vs 4, Value.int u, n_v vs 6, Value.int c, Value.int d]) := by
    refine ⟨nf_inA hl rfl, sgq_368 ?_⟩
    · show QKP (w_ei ws (v_ad (n_v (vs ++ [n_v vs 3, n_v vs 4, Value.int u, n_v vs 6, Value.int c, Value.int d]) 13))) (w_ei ws (v_ad (n_v (vs ++ [n_v vs 3, n_v vs 4, Value.int u, n_v vs 6, Value.int c, Value.int d]) 34))) (w_ei ws (v_ad (n_v (vs ++ [n_v vs 3, n_v vs 4, Value.int u, n_v vs 6, Value.int c, Value.int d]) 35))) (w_ei ws (v_ad (n_v (vs ++ [n_v vs 3, n_v vs 4, Value.int u, n_v vs 6, Value.int c, Value.int d]) 37))) (v_iv (n_v (vs ++ [n_v vs 3, n_v vs 4, Value.int u, n_v vs 6, Value.int c, Value.int d]) 38)) (v_iv (n_v (vs ++ [n_v vs 3, n_v vs 4, Value.int u, n_v vs 6, Value.int c, Value.int d]) 10)) (v_iv (n_v (vs ++ [n_v vs 3, n_v vs 4, Value.int u, n_v vs 6, Value.int c, Value.int d]) 36)) (v_iv (n_v (vs ++ [n_v vs 3, n_v vs 4, Value.int u, n_v vs 6, Value.int c, Value.int d]) 39)) (v_iv (n_v (vs ++ [n_v vs 3, n_v vs 4, Value.int u, n_v vs 6, Value.int c, Value.int d]) 31)) (v_iv (n_v (vs ++ [n_v vs 3, n_v vs 4, Value.int u, n_v vs 6, Value.int c, Value.int d]) 33))
      simp only [e_10, e_13, e_31, e_33, e_34, e_35, e_36, e_37, e_38, e_39, q10, q13]
      exact vc_Fa_uniteAt_at_Nptail_Nphead_Emblock_22_12 (v_iv (n_v vs 0)) (v_iv (n_v vs 1)) (v_iv (n_v vs 2)) (v_iv (n_v vs 7)) (v_iv (n_v vs 8)) (v_iv (n_v vs 14)) (v_iv (n_v vs 15)) (v_iv (n_v vs 16)) (v_iv (n_v vs 17)) (v_iv (n_v vs 18)) (v_iv (n_v vs 19)) (v_iv (n_v vs 20)) (v_iv (n_v vs 22)) (v_iv (n_v vs 23)) (v_iv (n_v vs 24)) (v_iv (n_v vs 25)) (v_iv (n_v vs 26)) (v_iv (n_v vs 28)) (v_iv (n_v vs 29)) (v_iv (n_v vs 30)) (v_iv (n_v vs 31)) (v_iv (n_v vs 32)) (v_iv (n_v vs 33)) (w_ei ws (v_ad (n_v vs 5))) (w_ei ws (v_ad (n_v vs 3))) (w_ei ws (v_ad (n_v vs 4))) (w_ei ws (v_ad (n_v vs 6))) (v_iv (Value.int u)) (v_iv (Value.int c)) (v_iv (Value.int d)) k0 k1 k2 k7 k8 k14 k15 k16 k17 k18 k19 k20 k22 k23 k28 k29 k30 k31 k32 k33 d0 d1 d3 d6 f0 f1 f2 h3 f4 f5 f6 h7 f8 h9 f10 h15 h17 f18 f20 f21 h22 h24 f25 f28 eu2 ec2 ed2
  have nf13 : fc_1 PRD (20, [36, 8], [50, 0, 0, 1, 2, 1, 0, 1, 1]) ws (vs ++ [n_v vs 3, n_v vs 4, Value.int u, n_v vs 6, Value.int c, Value.int d]) := by
    refine ⟨nf_inA hl rfl, sgq_48 ?_⟩
    · show v_iv (n_v (vs ++ [n_v vs 3, n_v vs 4, Value.int u, n_v vs 6, Value.int c, Value.int d]) 36) = v_iv (n_v (vs ++ [n_v vs 3, n_v vs 4, Value.int u, n_v vs 6, Value.int c, Value.int d]) 8)
      simp only [e_8, e_36, q8]
      exact vc_Fa_uniteAt_at_Nptail_Nphead_Emblock_22_13 (v_iv (n_v vs 0)) (v_iv (n_v vs 15)) (v_iv (n_v vs 16)) (v_iv (n_v vs 17)) (v_iv (n_v vs 22)) (v_iv (n_v vs 23)) (v_iv (n_v vs 29)) (v_iv (n_v vs 30)) (v_iv (n_v vs 32)) (w_ei ws (v_ad (n_v vs 5))) (w_ei ws (v_ad (n_v vs 3))) (w_ei ws (v_ad (n_v vs 4))) (v_iv (Value.int u)) k0 k15 k16 k17 k22 k23 k29 k30 k32 h3 h7 h9 h15 h17 h22 h24 eu2
  have nf14 : fc_1 PRD (20, [33], [50, 0, 0, 0, 2, 0, 0, 1, 0]) ws (vs ++ [n_v vs 3, n_v vs 4, Value.int u, n_v vs 6, Value.int c, Value.int d]) := by
    refine ⟨nf_inA hl rfl, sgq_722 ?_⟩
    · show 0 ≤ v_iv (n_v (vs ++ [n_v vs 3, n_v vs 4, Value.int u, n_v vs 6, Value.int c, Value.int d]) 33)
      rw [e_33]
      exact vc_Fa_uniteAt_at_Nptail_Nphead_Emblock_22_14 (v_iv (n_v vs 15)) (v_iv (n_v vs 16)) (v_iv (n_v vs 17)) (v_iv (n_v vs 22)) (v_iv (n_v vs 23)) (v_iv (n_v vs 29)) (v_iv (n_v vs 30)) (v_iv (n_v vs 32)) (v_iv (n_v vs 33)) (w_ei ws (v_ad (n_v vs 5))) (w_ei ws (v_ad (n_v vs 3))) (w_ei ws (v_ad (n_v vs 4))) k15 k16 k17 k22 k23 k29 k30 k32 k33 h3 h7 h9 h15 h17 h22 h24
  have nf15 : fc_1 PRD (20, [38, 7], [50, 0, 0, 1, 2, 1, 0, 1, 1]) ws (vs ++ [n_v vs 3, n_v vs 4, Value.int u, n_v vs 6, Value.int c, Value.int d]) := by
    refine ⟨nf_inA hl rfl, sgq_48 ?_⟩
    · show v_iv (n_v (vs ++ [n_v vs 3, n_v vs 4, Value.int u, n_v vs 6, Value.int c, Value.int d]) 38) = v_iv (n_v (vs ++ [n_v vs 3, n_v vs 4, Value.int u, n_v vs 6, Value.int c, Value.int d]) 7)
      simp only [e_7, e_38]
      exact vc_Fa_uniteAt_at_Nptail_Nphead_Emblock_22_15 (v_iv (n_v vs 7)) (v_iv (n_v vs 15)) (v_iv (n_v vs 16)) (v_iv (n_v vs 17)) (v_iv (n_v vs 22)) (v_iv (n_v vs 23)) (v_iv (n_v vs 29)) (v_iv (n_v vs 30)) (v_iv (n_v vs 32)) (w_ei ws (v_ad (n_v vs 5))) (w_ei ws (v_ad (n_v vs 3))) (w_ei ws (v_ad (n_v vs 4))) (v_iv (Value.int c)) k7 k15 k16 k17 k22 k23 k29 k30 k32 h3 h7 h9 h15 h17 h22 h24 ec2
  have nf16 : fc_1 PRD (20, [39, 9], [50, 0, 0, 1, 2, 1, 0, 1, 1]) ws (vs ++ [n_v vs 3, n_v vs 4, Value.int u, n_v vs 6, Value.int c, Value.int d]) := by
    refine ⟨nf_inA hl rfl, sgq_48 ?_⟩
    · show v_iv (n_v (vs ++ [n_v vs 3, n_v vs 4, Value.int u, n_v vs 6, Value.int c, Value.int d]) 39) = v_iv (n_v (vs ++ [n_v vs 3, n_v vs 4, Value.int u, n_v vs 6, Value.int c, Value.int d]) 9)
      simp only [e_9, e_39, q9]
      exact vc_Fa_uniteAt_at_Nptail_Nphead_Emblock_22_16 (v_iv (n_v vs 1)) (v_iv (n_v vs 15)) (v_iv (n_v vs 16)) (v_iv (n_v vs 17)) (v_iv (n_v vs 22)) (v_iv (n_v vs 23)) (v_iv (n_v vs 29)) (v_iv (n_v vs 30)) (v_iv (n_v vs 32)) (w_ei ws (v_ad (n_v vs 5))) (w_ei ws (v_ad (n_v vs 3))) (w_ei ws (v_ad (n_v vs 4))) (v_iv (Value.int d)) k1 k15 k16 k17 k22 k23 k29 k30 k32 h3 h7 h9 h15 h17 h22 h24 ed2
  exact ⟨(fun _ h => (by cases h)), [n_v vs 3, n_v vs 4, Value.int u, n_v vs 6, Value.int c, Value.int d], ag_six t3 t4 hu t6 hc hd, List.forall_mem_cons.mpr ⟨⟨show (24 : Nat) < 100 from by decide, nf0⟩, List.forall_mem_cons.mpr ⟨⟨show (24 : Nat) < 100 from by decide, nf1⟩, List.forall_mem_cons.mpr ⟨⟨show (23 : Nat) < 100 from by decide, nf2⟩, List.forall_mem_cons.mpr ⟨⟨show (23 : Nat) < 100 from by decide, nf3⟩, List.forall_mem_cons.mpr ⟨⟨show (24 : Nat) < 100 from by decide, nf4⟩, List.forall_mem_cons.mpr ⟨⟨show (23 : Nat) < 100 from by decide, nf5⟩, List.forall_mem_cons.mpr ⟨⟨show (23 : Nat) < 100 from by decide, nf6⟩, List.forall_mem_cons.mpr ⟨⟨show (23 : Nat) < 100 from by decide, nf7⟩, List.forall_mem_cons.mpr ⟨⟨show (23 : Nat) < 100 from by decide, nf8⟩, List.forall_mem_cons.mpr ⟨⟨show (20 : Nat) < 100 from by decide, nf9⟩, List.forall_mem_cons.mpr ⟨⟨show (20 : Nat) < 100 from by decide, nf10⟩, List.forall_mem_cons.mpr ⟨⟨show (20 : Nat) < 100 from by decide, nf11⟩, List.forall_mem_cons.mpr ⟨⟨show (20 : Nat) < 100 from by decide, nf12⟩, List.forall_mem_cons.mpr ⟨⟨show (20 : Nat) < 100 from by decide, nf13⟩, List.forall_mem_cons.mpr ⟨⟨show (20 : Nat) < 100 from by decide, nf14⟩, List.forall_mem_cons.mpr ⟨⟨show (20 : Nat) < 100 from by decide, nf15⟩, List.forall_mem_cons.mpr ⟨⟨show (20 : Nat) < 100 from by decide, nf16⟩, (fun _ h => (by cases h))⟩⟩⟩⟩⟩⟩⟩⟩⟩⟩⟩⟩⟩⟩⟩⟩⟩, (fun _ h => (by cases h))⟩
set_option maxHeartbeats 4000000 in
theorem vc_Fa_uniteAt_at_Nptail_Nphead_Emblock_23_r0 (x2 : Int) (x15 : Int) (x16 : Int) (x17 : Int) (x22 : Int) (x23 : Int) (x29 : Int) (a5_0 : Int → Int) (a3_0 : Int → Int) (a4_0 : Int → Int) (k2 : 1 ≤ x2 ∧ x2 ≤ 72) (k15 : 0 ≤ x15 ∧ x15 ≤ 71) (k16 : 0 ≤ x16 ∧ x16 ≤ 24) (k17 : 0 ≤ x17 ∧ x17 ≤ 24) (k22 : 0 ≤ x22 ∧ x22 ≤ 24) (k23 : 0 ≤ x23 ∧ x23 ≤ 24) (k29 : (-1) ≤ x29 ∧ x29 ≤ 71) (h0 : x29 = a5_0 (x15)) (h6 : x23 = a3_0 (x15)) (h8 : x22 = a4_0 (x15)) (h13 : x17 = a4_0 (x15)) (h15 : x16 = a3_0 (x15)) (f16 : x15 < x2) (f17 : BLQ (a5_0) (x2)) : 0 ≤ x29 ∧ x29 ≤ 71 := by
  first
    | omega
    | (skip; (first | subst h0 | skip); (first | subst h6 | skip); (first | subst h8 | skip); (first | subst h13 | skip); (first | subst h15 | skip); have q := ‹BLQ _ _› x15 (by omega) (by omega); omega)
def o_Fa_uniteAt_at_Nptail_Nphead_Emblock_23 : or_T := (90, 30, [(0, (0, 0, 24, [])), (1, (0, 0, 33554431, [])), (2, (0, 1, 72, [])), (3, (2, 0, 0, [140])), (4, (2, 0, 0, [141])), (5, (2, 0, 0, [26])), (6, (2, 0, 0, [142])), (7, (0, 0, 25, [])), (8, (0, 0, 24, [])), (9, (0, 0, 33554431, [])), (10, (0, 1, 72, [])), (11, (2, 0, 0, [140])), (12, (2, 0, 0, [141])), (13, (2, 0, 0, [26])), (14, (0, -1, -1, [])), (15, (0, 0, 71, [])), (16, (0, 0, 24, [])), (17, (0, 0, 24, [])), (18, (0, 0, 33554431, [])), (19, (0, 1, 1, [])), (20, (0, 1, 1, [])), (22, (0, 0, 24, [])), (23, (0, 0, 24, [])), (24, (0, 0, 33554431, [])), (25, (0, 1, 1, [])), (26, (0, 0, 0, [])), (28, (0, -1, -1, [])), (29, (0, -1, 71, []))], [(10, [29, 13, 15], []), (7, [14, 28], [0]), (8, [26], [0]), (12, [26, 24], [2]), (16, [26, 24, 25], [0]), (16, [24, 9, 23], [4]), (10, [23, 11, 15], []), (7, [22, 8], [0]), (10, [22, 12, 15], []), (8, [20], [1]), (12, [20, 18], [2]), (16, [20, 18, 19], [0]), (16, [18, 9, 17], [4]), (10, [17, 12, 15], []), (7, [16, 8], [0]), (10, [16, 11, 15], []), (7, [15, 10], [2]), (20, [13, 10], [61, 1, 566]), (20, [13, 11, 12, 10, 8, 14], [61, 3, 584]), (20, [13, 11, 12, 6, 7, 10, 8, 9, 14], [61, 4, 589]), (24, [0, 8], []), (24, [1, 9], []), (24, [2, 10], []), (24, [3, 11], []), (24, [4, 12], []), (24, [5, 13], [])], [(29, (0, 0, 71, []))], [], [], [], [(22, 8, 0, 0), (16, 8, 0, 0), (15, 10, -4294967296, -1), (0, 8, -4294967296, 0), (1, 9, -4294967296, 0), (2, 10, -4294967296, 0), (8, 0, -4294967296, 0), (9, 1, -4294967296, 0), (10, 2, -4294967296, 0), (15, 2, -4294967296, 0), (15, 10, -4294967296, 0)])
theorem oo_Fa_uniteAt_at_Nptail_Nphead_Emblock_23 {kA : Nat → ClassId} : or_ok PRD kA GG o_Fa_uniteAt_at_Nptail_Nphead_Emblock_23 := by
  refine or_mk fun A ta ws vs hD hth hl => ?_
  intro t0 k0 t1 k1 t2 k2 t3 r3 t4 r4 t5 r5 t6 r6 t7 k7 t8 k8 t9 k9 t10 k10 t11 r11 t12 r12 t13 r13 t14 k14 t15 k15 t16 k16 t17 k17 t18 k18 t19 k19 t20 k20 t22 k22 t23 k23 t24 k24 t25 k25 t26 k26 t28 k28 t29 k29 d0 d1 d2 d3 d4 d5 d6 d7 d8 d9 d10 f0 f1 f2 f3 f4 f5 f6 f7 f8 f9 f10 f11 f12 f13 f14 f15 f16 f17 f18 f19 f20 f21 f22 f23 f24 f25
  replace f0 := shm_107 f0
  replace f6 := shm_107 f6
  replace f8 := shm_107 f8
  replace f13 := shm_107 f13
  replace f15 := shm_107 f15
  replace f16 := shm_6 f16
  replace f17 := shm_365 f17
  replace f22 := shm_5 f22
  replace f23 := shm_5 f23
  replace f24 := shm_5 f24
  replace f25 := shm_5 f25
  have q10 : n_v vs 10 = n_v vs 2 := f22.symm
  have q11 : n_v vs 11 = n_v vs 3 := f23.symm
  have q12 : n_v vs 12 = n_v vs 4 := f24.symm
  have q13 : n_v vs 13 = n_v vs 5 := f25.symm
  simp only [q13, q11, q12, q10] at f0 f6 f8 f13 f15 f16 f17
  have h0 : v_iv (n_v vs 29) = w_ei ws (v_ad (n_v vs 5)) (v_iv (n_v vs 15)) := f0
  have h6 : v_iv (n_v vs 23) = w_ei ws (v_ad (n_v vs 3)) (v_iv (n_v vs 15)) := f6
  have h8 : v_iv (n_v vs 22) = w_ei ws (v_ad (n_v vs 4)) (v_iv (n_v vs 15)) := f8
  have h13 : v_iv (n_v vs 17) = w_ei ws (v_ad (n_v vs 4)) (v_iv (n_v vs 15)) := f13
  have h15 : v_iv (n_v vs 16) = w_ei ws (v_ad (n_v vs 3)) (v_iv (n_v vs 15)) := f15
  have hrf0 : 0 ≤ v_iv (n_v vs 29) ∧ v_iv (n_v vs 29) ≤ 71 := vc_Fa_uniteAt_at_Nptail_Nphead_Emblock_23_r0 (v_iv (n_v vs 2)) (v_iv (n_v vs 15)) (v_iv (n_v vs 16)) (v_iv (n_v vs 17)) (v_iv (n_v vs 22)) (v_iv (n_v vs 23)) (v_iv (n_v vs 29)) (w_ei ws (v_ad (n_v vs 5))) (w_ei ws (v_ad (n_v vs 3))) (w_ei ws (v_ad (n_v vs 4))) k2 k15 k16 k17 k22 k23 k29 h0 h6 h8 h13 h15 f16 f17
  have rf29 : tv_ok ta (0, 0, 71, []) (n_v vs 29) := tv_in t29 (by first | omega | grind) (by first | omega | grind)
  refine ⟨List.forall_mem_cons.mpr ⟨rf29, (fun _ h => (by cases h))⟩, [], trivial, ?_, (fun _ h => (by cases h))⟩
  rw [List.append_nil]
  exact (fun _ h => (by cases h))
set_option maxHeartbeats 4000000 in
theorem vc_Fa_uniteAt_at_Nptail_Nphead_Emblock_24_0 (x0 : Int) (x2 : Int) (x8 : Int) (x14 : Int) (x15 : Int) (x16 : Int) (x22 : Int) (x29 : Int) (x30 : Int) (a5_0 : Int → Int) (a3_0 : Int → Int) (a4_0 : Int → Int) (k0 : 0 ≤ x0 ∧ x0 ≤ 24) (k2 : 1 ≤ x2 ∧ x2 ≤ 72) (k8 : 0 ≤ x8 ∧ x8 ≤ 24) (k14 : (-1) ≤ x14 ∧ x14 ≤ (-1)) (k15 : 0 ≤ x15 ∧ x15 ≤ 71) (k16 : 0 ≤ x16 ∧ x16 ≤ 24) (k22 : 0 ≤ x22 ∧ x22 ≤ 24) (k29 : 0 ≤ x29 ∧ x29 ≤ 71) (k30 : 1 ≤ x30 ∧ x30 ≤ 72) (d0 : x15 + 1 ≤ x30 ∧ x30 ≤ x15 + 1) (d4 : x8 + 0 ≤ x22 ∧ x22 ≤ x8 + 0) (d5 : x8 + 0 ≤ x16 ∧ x16 ≤ x8 + 0) (d7 : x8 + (-4294967296) ≤ x0 ∧ x0 ≤ x8 + 0) (d10 : x0 + (-4294967296) ≤ x8 ∧ x8 ≤ x0 + 0) (h1 : x29 = a5_0 (x15)) (h9 : x22 = a4_0 (x15)) (h16 : x16 = a3_0 (x15)) (f17 : x15 < x2) (f19 : UNI (a5_0) (a3_0) (a4_0) (x2) (x0) (x14)) : UNI (a5_0) (a3_0) (a4_0) (x2) (x0) (x29) := by
  first
    | exact uni_first (e := x15) ‹UNI _ _ _ _ _ _› (by assumption) rfl (by omega) (by omega) (by first | exact Or.inl (by omega) | exact Or.inr (by omega))
set_option maxHeartbeats 4000000 in
theorem vc_Fa_uniteAt_at_Nptail_Nphead_Emblock_24_1 (x0 : Int) (x1 : Int) (x2 : Int) (x7 : Int) (x8 : Int) (x14 : Int) (x15 : Int) (x16 : Int) (x17 : Int) (x18 : Int) (x19 : Int) (x20 : Int) (x22 : Int) (x23 : Int) (x24 : Int) (x25 : Int) (x26 : Int) (x29 : Int) (x30 : Int) (a5_0 : Int → Int) (a3_0 : Int → Int) (a4_0 : Int → Int) (a6_0 : Int → Int) (k0 : 0 ≤ x0 ∧ x0 ≤ 24) (k1 : 0 ≤ x1 ∧ x1 ≤ 33554431) (k2 : 1 ≤ x2 ∧ x2 ≤ 72) (k7 : 0 ≤ x7 ∧ x7 ≤ 25) (k8 : 0 ≤ x8 ∧ x8 ≤ 24) (k14 : (-1) ≤ x14 ∧ x14 ≤ (-1)) (k15 : 0 ≤ x15 ∧ x15 ≤ 71) (k16 : 0 ≤ x16 ∧ x16 ≤ 24) (k17 : 0 ≤ x17 ∧ x17 ≤ 24) (k18 : 0 ≤ x18 ∧ x18 ≤ 33554431) (k19 : 1 ≤ x19 ∧ x19 ≤ 1) (k20 : 1 ≤ x20 ∧ x20 ≤ 1) (k22 : 0 ≤ x22 ∧ x22 ≤ 24) (k23 : 0 ≤ x23 ∧ x23 ≤ 24) (k29 : 0 ≤ x29 ∧ x29 ≤ 71) (k30 : 1 ≤ x30 ∧ x30 ≤ 72) (d0 : x15 + 1 ≤ x30 ∧ x30 ≤ x15 + 1) (d4 : x8 + 0 ≤ x22 ∧ x22 ≤ x8 + 0) (d5 : x8 + 0 ≤ x16 ∧ x16 ≤ x8 + 0) (d7 : x8 + (-4294967296) ≤ x0 ∧ x0 ≤ x8 + 0) (d10 : x0 + (-4294967296) ≤ x8 ∧ x8 ≤ x0 + 0) (h1 : x29 = a5_0 (x15)) (h7 : x23 = a3_0 (x15)) (h9 : x22 = a4_0 (x15)) (f12 : bvp (x20) = bvp (x18) &&& bvp (x19)) (f13 : bvp (x18) = bvp (x1) >>> (x17).toNat) (h14 : x17 = a4_0 (x15)) (h16 : x16 = a3_0 (x15)) (f17 : x15 < x2) (f20 : UN2 (a5_0) (a3_0) (a4_0) (a6_0) (x7) (x2) (x0) (x1) (x14)) : UN2 (a5_0) (a3_0) (a4_0) (a6_0) (x7) (x2) (x0) (x1) (x29) := by
  first
    | exact un2_first (e := x15) ‹UN2 _ _ _ _ _ _ _ _ _› (by assumption) rfl (by omega) (by omega) (by first | exact Or.inl ⟨by omega, by omega, by rw [← ‹x17 = a4_0 x15›]; exact (bit_one (s := x1) (t := x18) (c := x20) (v := x17) (one := x19) (by assumption) (by assumption) (by omega) (by omega) (by omega) (by omega)).mpr (by omega)⟩ | exact Or.inr ⟨by omega, by omega, by rw [← ‹x19 = a3_0 x15›]; exact (bit_one (s := x1) (t := x20) (c := x22) (v := x19) (one := x21) (by assumption) (by assumption) (by omega) (by omega) (by omega) (by omega)).mpr (by omega)⟩ | exact Or.inr ⟨by omega, by omega, by rw [← ‹x23 = a3_0 x15›]; exact (bit_one (s := x1) (t := x24) (c := x26) (v := x23) (one := x25) (by assumption) (by assumption) (by omega) (by omega) (by omega) (by omega)).mpr (by omega)⟩)
def o_Fa_uniteAt_at_Nptail_Nphead_Emblock_24 : or_T := (6, 31, [(0, (0, 0, 24, [])), (1, (0, 0, 33554431, [])), (2, (0, 1, 72, [])), (3, (2, 0, 0, [140])), (4, (2, 0, 0, [141])), (5, (2, 0, 0, [26])), (6, (2, 0, 0, [142])), (7, (0, 0, 25, [])), (8, (0, 0, 24, [])), (9, (0, 0, 33554431, [])), (10, (0, 1, 72, [])), (11, (2, 0, 0, [140])), (12, (2, 0, 0, [141])), (13, (2, 0, 0, [26])), (14, (0, -1, -1, [])), (15, (0, 0, 71, [])), (16, (0, 0, 24, [])), (17, (0, 0, 24, [])), (18, (0, 0, 33554431, [])), (19, (0, 1, 1, [])), (20, (0, 1, 1, [])), (22, (0, 0, 24, [])), (23, (0, 0, 24, [])), (24, (0, 0, 33554431, [])), (25, (0, 1, 1, [])), (26, (0, 0, 0, [])), (28, (0, -1, -1, [])), (29, (0, 0, 71, [])), (30, (0, 1, 72, []))], [(6, [30, 15], [1]), (10, [29, 13, 15], []), (7, [14, 28], [0]), (8, [26], [0]), (12, [26, 24], [2]), (16, [26, 24, 25], [0]), (16, [24, 9, 23], [4]), (10, [23, 11, 15], []), (7, [22, 8], [0]), (10, [22, 12, 15], []), (8, [20], [1]), (12, [20, 18], [2]), (16, [20, 18, 19], [0]), (16, [18, 9, 17], [4]), (10, [17, 12, 15], []), (7, [16, 8], [0]), (10, [16, 11, 15], []), (7, [15, 10], [2]), (20, [13, 10], [61, 1, 566]), (20, [13, 11, 12, 10, 8, 14], [61, 3, 584]), (20, [13, 11, 12, 6, 7, 10, 8, 9, 14], [61, 4, 589]), (24, [0, 8], []), (24, [1, 9], []), (24, [2, 10], []), (24, [3, 11], []), (24, [4, 12], []), (24, [5, 13], [])], [], [], [(20, [13, 11, 12, 10, 8, 29], [61, 3, 584]), (20, [13, 11, 12, 6, 7, 10, 8, 9, 29], [61, 4, 589])], [], [(30, 15, 1, 1), (30, 10, -4294967296, 0), (30, 2, -4294967296, 1), (30, 10, -4294967296, 1), (22, 8, 0, 0), (16, 8, 0, 0), (15, 10, -4294967296, -1), (0, 8, -4294967296, 0), (1, 9, -4294967296, 0), (2, 10, -4294967296, 0), (8, 0, -4294967296, 0), (9, 1, -4294967296, 0), (10, 2, -4294967296, 0), (15, 2, -4294967296, 0), (15, 10, -4294967296, 0)])
theorem oo_Fa_uniteAt_at_Nptail_Nphead_Emblock_24 {kA : Nat → ClassId} : or_ok PRD kA GG o_Fa_uniteAt_at_Nptail_Nphead_Emblock_24 := by
  refine or_mk fun A ta ws vs hD hth hl => ?_
  intro t0 k0 t1 k1 t2 k2 t3 r3 t4 r4 t5 r5 t6 r6 t7 k7 t8 k8 t9 k9 t10 k10 t11 r11 t12 r12 t13 r13 t14 k14 t15 k15 t16 k16 t17 k17 t18 k18 t19 k19 t20 k20 t22 k22 t23 k23 t24 k24 t25 k25 t26 k26 t28 k28 t29 k29 t30 k30 d0 d1 d2 d3 d4 d5 d6 d7 d8 d9 d10 d11 d12 d13 d14 f0 f1 f2 f3 f4 f5 f6 f7 f8 f9 f10 f11 f12 f13 f14 f15 f16 f17 f18 f19 f20 f21 f22 f23 f24 f25 f26
  replace f1 := shm_107 f1
  replace f7 := shm_107 f7
  replace f9 := shm_107 f9
  replace f12 := shm_11 f12
  replace f13 := shm_13 f13
  replace f14 := shm_107 f14
  replace f16 := shm_107 f16
  replace f17 := shm_6 f17
  replace f19 := shm_1193 f19
  replace f20 := shm_1194 f20
  replace f21 := shm_5 f21
  replace f22 := shm_5 f22
  replace f23 := shm_5 f23
  replace f24 := shm_5 f24
  replace f25 := shm_5 f25
  replace f26 := shm_5 f26
  have q8 : n_v vs 8 = n_v vs 0 := f21.symm
  have q9 : n_v vs 9 = n_v vs 1 := f22.symm
  have q10 : n_v vs 10 = n_v vs 2 := f23.symm
  have q11 : n_v vs 11 = n_v vs 3 := f24.symm
  have q12 : n_v vs 12 = n_v vs 4 := f25.symm
  have q13 : n_v vs 13 = n_v vs 5 := f26.symm
  simp only [q13, q9, q11, q8, q12, q10] at f1 f7 f9 f13 f14 f16 f17 f19 f20
  have h1 : v_iv (n_v vs 29) = w_ei ws (v_ad (n_v vs 5)) (v_iv (n_v vs 15)) := f1
  have h7 : v_iv (n_v vs 23) = w_ei ws (v_ad (n_v vs 3)) (v_iv (n_v vs 15)) := f7
  have h9 : v_iv (n_v vs 22) = w_ei ws (v_ad (n_v vs 4)) (v_iv (n_v vs 15)) := f9
  have h14 : v_iv (n_v vs 17) = w_ei ws (v_ad (n_v vs 4)) (v_iv (n_v vs 15)) := f14
  have h16 : v_iv (n_v vs 16) = w_ei ws (v_ad (n_v vs 3)) (v_iv (n_v vs 15)) := f16
  have nf0 : fc_1 PRD (20, [13, 11, 12, 10, 8, 29], [61, 3, 584]) ws (vs) := by
    refine ⟨nf_in hl rfl, sgq_1193 ?_⟩
    · show UNI (w_ei ws (v_ad (n_v vs 13))) (w_ei ws (v_ad (n_v vs 11))) (w_ei ws (v_ad (n_v vs 12))) (v_iv (n_v vs 10)) (v_iv (n_v vs 8)) (v_iv (n_v vs 29))
      simp only [q8, q10, q11, q12, q13]
      exact vc_Fa_uniteAt_at_Nptail_Nphead_Emblock_24_0 (v_iv (n_v vs 0)) (v_iv (n_v vs 2)) (v_iv (n_v vs 8)) (v_iv (n_v vs 14)) (v_iv (n_v vs 15)) (v_iv (n_v vs 16)) (v_iv (n_v vs 22)) (v_iv (n_v vs 29)) (v_iv (n_v vs 30)) (w_ei ws (v_ad (n_v vs 5))) (w_ei ws (v_ad (n_v vs 3))) (w_ei ws (v_ad (n_v vs 4))) k0 k2 k8 k14 k15 k16 k22 k29 k30 d0 d4 d5 d7 d10 h1 h9 h16 f17 f19
  have nf1 : fc_1 PRD (20, [13, 11, 12, 6, 7, 10, 8, 9, 29], [61, 4, 589]) ws (vs) := by
    refine ⟨nf_in hl rfl, sgq_1194 ?_⟩
    · show UN2 (w_ei ws (v_ad (n_v vs 13))) (w_ei ws (v_ad (n_v vs 11))) (w_ei ws (v_ad (n_v vs 12))) (w_ei ws (v_ad (n_v vs 6))) (v_iv (n_v vs 7)) (v_iv (n_v vs 10)) (v_iv (n_v vs 8)) (v_iv (n_v vs 9)) (v_iv (n_v vs 29))
      simp only [q8, q9, q10, q11, q12, q13]
      exact vc_Fa_uniteAt_at_Nptail_Nphead_Emblock_24_1 (v_iv (n_v vs 0)) (v_iv (n_v vs 1)) (v_iv (n_v vs 2)) (v_iv (n_v vs 7)) (v_iv (n_v vs 8)) (v_iv (n_v vs 14)) (v_iv (n_v vs 15)) (v_iv (n_v vs 16)) (v_iv (n_v vs 17)) (v_iv (n_v vs 18)) (v_iv (n_v vs 19)) (v_iv (n_v vs 20)) (v_iv (n_v vs 22)) (v_iv (n_v vs 23)) (v_iv (n_v vs 24)) (v_iv (n_v vs 25)) (v_iv (n_v vs 26)) (v_iv (n_v vs 29)) (v_iv (n_v vs 30)) (w_ei ws (v_ad (n_v vs 5))) (w_ei ws (v_ad (n_v vs 3))) (w_ei ws (v_ad (n_v vs 4))) (w_ei ws (v_ad (n_v vs 6))) k0 k1 k2 k7 k8 k14 k15 k16 k17 k18 k19 k20 k22 k23 k29 k30 d0 d4 d5 d7 d10 h1 h7 h9 f12 f13 h14 h16 f17 f20
  refine ⟨(fun _ h => (by cases h)), [], trivial, ?_, (fun _ h => (by cases h))⟩
  rw [List.append_nil]
  exact List.forall_mem_cons.mpr ⟨⟨show (20 : Nat) < 100 from by decide, nf0⟩, List.forall_mem_cons.mpr ⟨⟨show (20 : Nat) < 100 from by decide, nf1⟩, (fun _ h => (by cases h))⟩⟩
set_option maxHeartbeats 4000000 in
theorem vc_Fa_uniteAt_at_Nptail_Nphead_Emblock_25_r0 (x2 : Int) (x15 : Int) (x16 : Int) (x17 : Int) (x22 : Int) (x23 : Int) (x29 : Int) (x30 : Int) (a5_0 : Int → Int) (a3_0 : Int → Int) (a4_0 : Int → Int) (k2 : 1 ≤ x2 ∧ x2 ≤ 72) (k15 : 0 ≤ x15 ∧ x15 ≤ 71) (k16 : 0 ≤ x16 ∧ x16 ≤ 24) (k17 : 0 ≤ x17 ∧ x17 ≤ 24) (k22 : 0 ≤ x22 ∧ x22 ≤ 24) (k23 : 0 ≤ x23 ∧ x23 ≤ 24) (k29 : (-1) ≤ x29 ∧ x29 ≤ 71) (k30 : (-1) ≤ x30 ∧ x30 ≤ 71) (h0 : x30 = a5_0 (x15)) (h2 : x29 = a5_0 (x15)) (h8 : x23 = a3_0 (x15)) (h10 : x22 = a4_0 (x15)) (h15 : x17 = a4_0 (x15)) (h17 : x16 = a3_0 (x15)) (f18 : x15 < x2) (f19 : BLQ (a5_0) (x2)) : 0 ≤ x30 ∧ x30 ≤ 71 := by
  first
    | omega
    | (skip; (first | subst h0 | skip); (first | subst h2 | skip); (first | subst h8 | skip); (first | subst h10 | skip); (first | subst h15 | skip); (first | subst h17 | skip); have q := ‹BLQ _ _› x15 (by omega) (by omega); omega)
def o_Fa_uniteAt_at_Nptail_Nphead_Emblock_25 : or_T := (112, 31, [(0, (0, 0, 24, [])), (1, (0, 0, 33554431, [])), (2, (0, 1, 72, [])), (3, (2, 0, 0, [140])), (4, (2, 0, 0, [141])), (5, (2, 0, 0, [26])), (6, (2, 0, 0, [142])), (7, (0, 0, 25, [])), (8, (0, 0, 24, [])), (9, (0, 0, 33554431, [])), (10, (0, 1, 72, [])), (11, (2, 0, 0, [140])), (12, (2, 0, 0, [141])), (13, (2, 0, 0, [26])), (14, (0, 0, 71, [])), (15, (0, 0, 71, [])), (16, (0, 0, 24, [])), (17, (0, 0, 24, [])), (18, (0, 0, 33554431, [])), (19, (0, 1, 1, [])), (20, (0, 1, 1, [])), (22, (0, 0, 24, [])), (23, (0, 0, 24, [])), (24, (0, 0, 33554431, [])), (25, (0, 1, 1, [])), (26, (0, 1, 1, [])), (28, (0, -1, -1, [])), (29, (0, -1, 71, [])), (30, (0, -1, 71, []))], [(10, [30, 13, 15], []), (7, [29, 14], [1]), (10, [29, 13, 15], []), (7, [14, 28], [1]), (8, [26], [1]), (12, [26, 24], [2]), (16, [26, 24, 25], [0]), (16, [24, 9, 23], [4]), (10, [23, 11, 15], []), (7, [22, 8], [0]), (10, [22, 12, 15], []), (8, [20], [1]), (12, [20, 18], [2]), (16, [20, 18, 19], [0]), (16, [18, 9, 17], [4]), (10, [17, 12, 15], []), (7, [16, 8], [0]), (10, [16, 11, 15], []), (7, [15, 10], [2]), (20, [13, 10], [61, 1, 566]), (20, [13, 11, 12, 10, 8, 14], [61, 3, 584]), (20, [13, 11, 12, 6, 7, 10, 8, 9, 14], [61, 4, 589]), (24, [0, 8], []), (24, [1, 9], []), (24, [2, 10], []), (24, [3, 11], []), (24, [4, 12], []), (24, [5, 13], [])], [(30, (0, 0, 71, []))], [], [], [], [(22, 8, 0, 0), (16, 8, 0, 0), (15, 10, -4294967296, -1), (0, 8, -4294967296, 0), (1, 9, -4294967296, 0), (2, 10, -4294967296, 0), (8, 0, -4294967296, 0), (9, 1, -4294967296, 0), (10, 2, -4294967296, 0), (14, 15, -4294967296, 70), (15, 2, -4294967296, 0), (15, 10, -4294967296, 0)])
theorem oo_Fa_uniteAt_at_Nptail_Nphead_Emblock_25 {kA : Nat → ClassId} : or_ok PRD kA GG o_Fa_uniteAt_at_Nptail_Nphead_Emblock_25 := by
  refine or_mk fun A ta ws vs hD hth hl => ?_
  intro t0 k0 t1 k1 t2 k2 t3 r3 t4 r4 t5 r5 t6 r6 t7 k7 t8 k8 t9 k9 t10 k10 t11 r11 t12 r12 t13 r13 t14 k14 t15 k15 t16 k16 t17 k17 t18 k18 t19 k19 t20 k20 t22 k22 t23 k23 t24 k24 t25 k25 t26 k26 t28 k28 t29 k29 t30 k30 d0 d1 d2 d3 d4 d5 d6 d7 d8 d9 d10 d11 f0 f1 f2 f3 f4 f5 f6 f7 f8 f9 f10 f11 f12 f13 f14 f15 f16 f17 f18 f19 f20 f21 f22 f23 f24 f25 f26 f27
  replace f0 := shm_107 f0
  replace f2 := shm_107 f2
  replace f8 := shm_107 f8
  replace f10 := shm_107 f10
  replace f15 := shm_107 f15
  replace f17 := shm_107 f17
  replace f18 := shm_6 f18
  replace f19 := shm_365 f19
  replace f24 := shm_5 f24
  replace f25 := shm_5 f25
  replace f26 := shm_5 f26
  replace f27 := shm_5 f27
  have q10 : n_v vs 10 = n_v vs 2 := f24.symm
  have q11 : n_v vs 11 = n_v vs 3 := f25.symm
  have q12 : n_v vs 12 = n_v vs 4 := f26.symm
  have q13 : n_v vs 13 = n_v vs 5 := f27.symm
  simp only [q13, q11, q12, q10] at f0 f2 f8 f10 f15 f17 f18 f19
  have h0 : v_iv (n_v vs 30) = w_ei ws (v_ad (n_v vs 5)) (v_iv (n_v vs 15)) := f0
  have h2 : v_iv (n_v vs 29) = w_ei ws (v_ad (n_v vs 5)) (v_iv (n_v vs 15)) := f2
  have h8 : v_iv (n_v vs 23) = w_ei ws (v_ad (n_v vs 3)) (v_iv (n_v vs 15)) := f8
  have h10 : v_iv (n_v vs 22) = w_ei ws (v_ad (n_v vs 4)) (v_iv (n_v vs 15)) := f10
  have h15 : v_iv (n_v vs 17) = w_ei ws (v_ad (n_v vs 4)) (v_iv (n_v vs 15)) := f15
  have h17 : v_iv (n_v vs 16) = w_ei ws (v_ad (n_v vs 3)) (v_iv (n_v vs 15)) := f17
  have hrf0 : 0 ≤ v_iv (n_v vs 30) ∧ v_iv (n_v vs 30) ≤ 71 := vc_Fa_uniteAt_at_Nptail_Nphead_Emblock_25_r0 (v_iv (n_v vs 2)) (v_iv (n_v vs 15)) (v_iv (n_v vs 16)) (v_iv (n_v vs 17)) (v_iv (n_v vs 22)) (v_iv (n_v vs 23)) (v_iv (n_v vs 29)) (v_iv (n_v vs 30)) (w_ei ws (v_ad (n_v vs 5))) (w_ei ws (v_ad (n_v vs 3))) (w_ei ws (v_ad (n_v vs 4))) k2 k15 k16 k17 k22 k23 k29 k30 h0 h2 h8 h10 h15 h17 f18 f19
  have rf30 : tv_ok ta (0, 0, 71, []) (n_v vs 30) := tv_in t30 (by first | omega | grind) (by first | omega | grind)
  refine ⟨List.forall_mem_cons.mpr ⟨rf30, (fun _ h => (by cases h))⟩, [], trivial, ?_, (fun _ h => (by cases h))⟩
  rw [List.append_nil]
  exact (fun _ h => (by cases h))
set_option maxHeartbeats 4000000 in
theorem vc_Fa_uniteAt_at_Nptail_Nphead_Emblock_26_r0 (x15 : Int) (x16 : Int) (x17 : Int) (x22 : Int) (x23 : Int) (x29 : Int) (x30 : Int) (x32 : Int) (a5_0 : Int → Int) (a3_0 : Int → Int) (a4_0 : Int → Int) (k15 : 0 ≤ x15 ∧ x15 ≤ 71) (k16 : 0 ≤ x16 ∧ x16 ≤ 24) (k17 : 0 ≤ x17 ∧ x17 ≤ 24) (k22 : 0 ≤ x22 ∧ x22 ≤ 24) (k23 : 0 ≤ x23 ∧ x23 ≤ 24) (k29 : (-1) ≤ x29 ∧ x29 ≤ 71) (k30 : 0 ≤ x30 ∧ x30 ≤ 71) (k32 : (-1) ≤ x32 ∧ x32 ≤ 71) (h0 : x32 = a5_0 (x15)) (h4 : x30 = a5_0 (x15)) (h6 : x29 = a5_0 (x15)) (h12 : x23 = a3_0 (x15)) (h14 : x22 = a4_0 (x15)) (h19 : x17 = a4_0 (x15)) (h21 : x16 = a3_0 (x15)) : 0 ≤ x32 ∧ x32 ≤ 71 := by
  first
    | omega
    | (skip; (first | subst h0 | skip); (first | subst h4 | skip); (first | subst h6 | skip); (first | subst h12 | skip); (first | subst h14 | skip); (first | subst h19 | skip); (first | subst h21 | skip); have q := ‹BLQ _ _› x15 (by omega) (by omega); omega)
def o_Fa_uniteAt_at_Nptail_Nphead_Emblock_26 : or_T := (124, 33, [(0, (0, 0, 24, [])), (1, (0, 0, 33554431, [])), (2, (0, 1, 72, [])), (3, (2, 0, 0, [140])), (4, (2, 0, 0, [141])), (5, (2, 0, 0, [26])), (6, (2, 0, 0, [142])), (7, (0, 0, 25, [])), (8, (0, 0, 24, [])), (9, (0, 0, 33554431, [])), (10, (0, 1, 72, [])), (11, (2, 0, 0, [140])), (12, (2, 0, 0, [141])), (13, (2, 0, 0, [26])), (14, (0, 0, 71, [])), (15, (0, 0, 71, [])), (16, (0, 0, 24, [])), (17, (0, 0, 24, [])), (18, (0, 0, 33554431, [])), (19, (0, 1, 1, [])), (20, (0, 1, 1, [])), (22, (0, 0, 24, [])), (23, (0, 0, 24, [])), (24, (0, 0, 33554431, [])), (25, (0, 1, 1, [])), (26, (0, 1, 1, [])), (28, (0, -1, -1, [])), (29, (0, -1, 71, [])), (30, (0, 0, 71, [])), (31, (0, 0, 71, [])), (32, (0, -1, 71, []))], [(10, [32, 13, 15], []), (23, [14, 31], [0, 1, -1]), (23, [30, 31], [0, 1, -1]), (20, [31, 14, 30], [50, 0, 0, 3, 6, 1, 2, 1, 0, 1, 1, 1, 2, 1, 0, 1, 2]), (10, [30, 13, 15], []), (7, [29, 14], [1]), (10, [29, 13, 15], []), (7, [14, 28], [1]), (8, [26], [1]), (12, [26, 24], [2]), (16, [26, 24, 25], [0]), (16, [24, 9, 23], [4]), (10, [23, 11, 15], []), (7, [22, 8], [0]), (10, [22, 12, 15], []), (8, [20], [1]), (12, [20, 18], [2]), (16, [20, 18, 19], [0]), (16, [18, 9, 17], [4]), (10, [17, 12, 15], []), (7, [16, 8], [0]), (10, [16, 11, 15], []), (7, [15, 10], [2]), (20, [13, 10], [61, 1, 566]), (20, [13, 11, 12, 10, 8, 14], [61, 3, 584]), (20, [13, 11, 12, 6, 7, 10, 8, 9, 14], [61, 4, 589]), (24, [0, 8], []), (24, [1, 9], []), (24, [2, 10], []), (24, [3, 11], []), (24, [4, 12], []), (24, [5, 13], [])], [(32, (0, 0, 71, []))], [], [], [], [(22, 8, 0, 0), (16, 8, 0, 0), (15, 10, -4294967296, -1), (0, 8, -4294967296, 0), (1, 9, -4294967296, 0), (2, 10, -4294967296, 0), (8, 0, -4294967296, 0), (9, 1, -4294967296, 0), (10, 2, -4294967296, 0), (14, 15, -4294967296, 70), (15, 2, -4294967296, 0), (15, 10, -4294967296, 0)])
theorem oo_Fa_uniteAt_at_Nptail_Nphead_Emblock_26 {kA : Nat → ClassId} : or_ok PRD kA GG o_Fa_uniteAt_at_Nptail_Nphead_Emblock_26 := by
  refine or_mk fun A ta ws vs hD hth hl => ?_
  intro t0 k0 t1 k1 t2 k2 t3 r3 t4 r4 t5 r5 t6 r6 t7 k7 t8 k8 t9 k9 t10 k10 t11 r11 t12 r12 t13 r13 t14 k14 t15 k15 t16 k16 t17 k17 t18 k18 t19 k19 t20 k20 t22 k22 t23 k23 t24 k24 t25 k25 t26 k26 t28 k28 t29 k29 t30 k30 t31 k31 t32 k32 d0 d1 d2 d3 d4 d5 d6 d7 d8 d9 d10 d11 f0 f1 f2 f3 f4 f5 f6 f7 f8 f9 f10 f11 f12 f13 f14 f15 f16 f17 f18 f19 f20 f21 f22 f23 f24 f25 f26 f27 f28 f29 f30 f31
  replace f0 := shm_107 f0
  replace f4 := shm_107 f4
  replace f6 := shm_107 f6
  replace f12 := shm_107 f12
  replace f14 := shm_107 f14
  replace f19 := shm_107 f19
  replace f21 := shm_107 f21
  replace f29 := shm_5 f29
  replace f30 := shm_5 f30
  replace f31 := shm_5 f31
  have q11 : n_v vs 11 = n_v vs 3 := f29.symm
  have q12 : n_v vs 12 = n_v vs 4 := f30.symm
  have q13 : n_v vs 13 = n_v vs 5 := f31.symm
  simp only [q13, q11, q12] at f0 f4 f6 f12 f14 f19 f21
  have h0 : v_iv (n_v vs 32) = w_ei ws (v_ad (n_v vs 5)) (v_iv (n_v vs 15)) := f0
  have h4 : v_iv (n_v vs 30) = w_ei ws (v_ad (n_v vs 5)) (v_iv (n_v vs 15)) := f4
  have h6 : v_iv (n_v vs 29) = w_ei ws (v_ad (n_v vs 5)) (v_iv (n_v vs 15)) := f6
  have h12 : v_iv (n_v vs 23) = w_ei ws (v_ad (n_v vs 3)) (v_iv (n_v vs 15)) := f12
  have h14 : v_iv (n_v vs 22) = w_ei ws (v_ad (n_v vs 4)) (v_iv (n_v vs 15)) := f14
  have h19 : v_iv (n_v vs 17) = w_ei ws (v_ad (n_v vs 4)) (v_iv (n_v vs 15)) := f19
  have h21 : v_iv (n_v vs 16) = w_ei ws (v_ad (n_v vs 3)) (v_iv (n_v vs 15)) := f21
  have hrf0 : 0 ≤ v_iv (n_v vs 32) ∧ v_iv (n_v vs 32) ≤ 71 := vc_Fa_uniteAt_at_Nptail_Nphead_Emblock_26_r0 (v_iv (n_v vs 15)) (v_iv (n_v vs 16)) (v_iv (n_v vs 17)) (v_iv (n_v vs 22)) (v_iv (n_v vs 23)) (v_iv (n_v vs 29)) (v_iv (n_v vs 30)) (v_iv (n_v vs 32)) (w_ei ws (v_ad (n_v vs 5))) (w_ei ws (v_ad (n_v vs 3))) (w_ei ws (v_ad (n_v vs 4))) k15 k16 k17 k22 k23 k29 k30 k32 h0 h4 h6 h12 h14 h19 h21
  have rf32 : tv_ok ta (0, 0, 71, []) (n_v vs 32) := tv_in t32 (by first | omega | grind) (by first | omega | grind)
  refine ⟨List.forall_mem_cons.mpr ⟨rf32, (fun _ h => (by cases h))⟩, [], trivial, ?_, (fun _ h => (by cases h))⟩
  rw [List.append_nil]
  exact (fun _ h => (by cases h))
set_option maxHeartbeats 4000000 in
theorem vc_Fa_uniteAt_at_Nptail_Nphead_Emblock_27_2 (x0 : Int) (x8 : Int) (x15 : Int) (x16 : Int) (x17 : Int) (x22 : Int) (x23 : Int) (x29 : Int) (x30 : Int) (x32 : Int) (a5_0 : Int → Int) (a3_0 : Int → Int) (a4_0 : Int → Int) (gu : Int) (k0 : 0 ≤ x0 ∧ x0 ≤ 24) (k8 : 0 ≤ x8 ∧ x8 ≤ 24) (k15 : 0 ≤ x15 ∧ x15 ≤ 71) (k16 : 0 ≤ x16 ∧ x16 ≤ 24) (k17 : 0 ≤ x17 ∧ x17 ≤ 24) (k22 : 0 ≤ x22 ∧ x22 ≤ 24) (k23 : 0 ≤ x23 ∧ x23 ≤ 24) (k29 : (-1) ≤ x29 ∧ x29 ≤ 71) (k30 : 0 ≤ x30 ∧ x30 ≤ 71) (k32 : 0 ≤ x32 ∧ x32 ≤ 71) (d0 : x8 + 0 ≤ x22 ∧ x22 ≤ x8 + 0) (d3 : x8 + (-4294967296) ≤ x0 ∧ x0 ≤ x8 + 0) (d6 : x0 + (-4294967296) ≤ x8 ∧ x8 ≤ x0 + 0) (h3 : x32 = a5_0 (x15)) (h7 : x30 = a5_0 (x15)) (h9 : x29 = a5_0 (x15)) (h15 : x23 = a3_0 (x15)) (h17 : x22 = a4_0 (x15)) (h22 : x17 = a4_0 (x15)) (h24 : x16 = a3_0 (x15)) (eu2 : gu = x0) : 1 * gu + ((-1) * x0 + 0) ≤ 0 := by
  first
    | omega
    | (skip; (first | subst h3 | skip); (first | subst h7 | skip); (first | subst h9 | skip); (first | subst h15 | skip); (first | subst h17 | skip); (first | subst h22 | skip); (first | subst h24 | skip); have q := ‹BLQ _ _› x15 (by omega) (by omega); omega)
set_option maxHeartbeats 4000000 in
theorem vc_Fa_uniteAt_at_Nptail_Nphead_Emblock_27_3 (x0 : Int) (x8 : Int) (x15 : Int) (x16 : Int) (x17 : Int) (x22 : Int) (x23 : Int) (x29 : Int) (x30 : Int) (x32 : Int) (a5_0 : Int → Int) (a3_0 : Int → Int) (a4_0 : Int → Int) (gu : Int) (k0 : 0 ≤ x0 ∧ x0 ≤ 24) (k8 : 0 ≤ x8 ∧ x8 ≤ 24) (k15 : 0 ≤ x15 ∧ x15 ≤ 71) (k16 : 0 ≤ x16 ∧ x16 ≤ 24) (k17 : 0 ≤ x17 ∧ x17 ≤ 24) (k22 : 0 ≤ x22 ∧ x22 ≤ 24) (k23 : 0 ≤ x23 ∧ x23 ≤ 24) (k29 : (-1) ≤ x29 ∧ x29 ≤ 71) (k30 : 0 ≤ x30 ∧ x30 ≤ 71) (k32 : 0 ≤ x32 ∧ x32 ≤ 71) (d0 : x8 + 0 ≤ x22 ∧ x22 ≤ x8 + 0) (d3 : x8 + (-4294967296) ≤ x0 ∧ x0 ≤ x8 + 0) (d6 : x0 + (-4294967296) ≤ x8 ∧ x8 ≤ x0 + 0) (h3 : x32 = a5_0 (x15)) (h7 : x30 = a5_0 (x15)) (h9 : x29 = a5_0 (x15)) (h15 : x23 = a3_0 (x15)) (h17 : x22 = a4_0 (x15)) (h22 : x17 = a4_0 (x15)) (h24 : x16 = a3_0 (x15)) (eu2 : gu = x0) : (-1) * gu + (1 * x0 + 0) ≤ 0 := by
  first
    | omega
    | (skip; (first | subst h3 | skip); (first | subst h7 | skip); (first | subst h9 | skip); (first | subst h15 | skip); (first | subst h17 | skip); (first | subst h22 | skip); (first | subst h24 | skip); have q := ‹BLQ _ _› x15 (by omega) (by omega); omega)
set_option maxHeartbeats 4000000 in
theorem vc_Fa_uniteAt_at_Nptail_Nphead_Emblock_27_5 (x7 : Int) (x15 : Int) (x16 : Int) (x17 : Int) (x22 : Int) (x23 : Int) (x29 : Int) (x30 : Int) (x32 : Int) (a5_0 : Int → Int) (a3_0 : Int → Int) (a4_0 : Int → Int) (gc : Int) (k7 : 0 ≤ x7 ∧ x7 ≤ 25) (k15 : 0 ≤ x15 ∧ x15 ≤ 71) (k16 : 0 ≤ x16 ∧ x16 ≤ 24) (k17 : 0 ≤ x17 ∧ x17 ≤ 24) (k22 : 0 ≤ x22 ∧ x22 ≤ 24) (k23 : 0 ≤ x23 ∧ x23 ≤ 24) (k29 : (-1) ≤ x29 ∧ x29 ≤ 71) (k30 : 0 ≤ x30 ∧ x30 ≤ 71) (k32 : 0 ≤ x32 ∧ x32 ≤ 71) (h3 : x32 = a5_0 (x15)) (h7 : x30 = a5_0 (x15)) (h9 : x29 = a5_0 (x15)) (h15 : x23 = a3_0 (x15)) (h17 : x22 = a4_0 (x15)) (h22 : x17 = a4_0 (x15)) (h24 : x16 = a3_0 (x15)) (ec2 : gc = x7) : 1 * gc + ((-1) * x7 + 0) ≤ 0 := by
  first
    | omega
    | (skip; (first | subst h3 | skip); (first | subst h7 | skip); (first | subst h9 | skip); (first | subst h15 | skip); (first | subst h17 | skip); (first | subst h22 | skip); (first | subst h24 | skip); have q := ‹BLQ _ _› x15 (by omega) (by omega); omega)
set_option maxHeartbeats 4000000 in
theorem vc_Fa_uniteAt_at_Nptail_Nphead_Emblock_27_6 (x7 : Int) (x15 : Int) (x16 : Int) (x17 : Int) (x22 : Int) (x23 : Int) (x29 : Int) (x30 : Int) (x32 : Int) (a5_0 : Int → Int) (a3_0 : Int → Int) (a4_0 : Int → Int) (gc : Int) (k7 : 0 ≤ x7 ∧ x7 ≤ 25) (k15 : 0 ≤ x15 ∧ x15 ≤ 71) (k16 : 0 ≤ x16 ∧ x16 ≤ 24) (k17 : 0 ≤ x17 ∧ x17 ≤ 24) (k22 : 0 ≤ x22 ∧ x22 ≤ 24) (k23 : 0 ≤ x23 ∧ x23 ≤ 24) (k29 : (-1) ≤ x29 ∧ x29 ≤ 71) (k30 : 0 ≤ x30 ∧ x30 ≤ 71) (k32 : 0 ≤ x32 ∧ x32 ≤ 71) (h3 : x32 = a5_0 (x15)) (h7 : x30 = a5_0 (x15)) (h9 : x29 = a5_0 (x15)) (h15 : x23 = a3_0 (x15)) (h17 : x22 = a4_0 (x15)) (h22 : x17 = a4_0 (x15)) (h24 : x16 = a3_0 (x15)) (ec2 : gc = x7) : (-1) * gc + (1 * x7 + 0) ≤ 0 := by
  first
    | omega
    | (skip; (first | subst h3 | skip); (first | subst h7 | skip); (first | subst h9 | skip); (first | subst h15 | skip); (first | subst h17 | skip); (first | subst h22 | skip); (first | subst h24 | skip); have q := ‹BLQ _ _› x15 (by omega) (by omega); omega)
set_option maxHeartbeats 4000000 in
theorem vc_Fa_uniteAt_at_Nptail_Nphead_Emblock_27_7 (x1 : Int) (x9 : Int) (x15 : Int) (x16 : Int) (x17 : Int) (x22 : Int) (x23 : Int) (x29 : Int) (x30 : Int) (x32 : Int) (a5_0 : Int → Int) (a3_0 : Int → Int) (a4_0 : Int → Int) (gd : Int) (k1 : 0 ≤ x1 ∧ x1 ≤ 33554431) (k9 : 0 ≤ x9 ∧ x9 ≤ 33554431) (k15 : 0 ≤ x15 ∧ x15 ≤ 71) (k16 : 0 ≤ x16 ∧ x16 ≤ 24) (k17 : 0 ≤ x17 ∧ x17 ≤ 24) (k22 : 0 ≤ x22 ∧ x22 ≤ 24) (k23 : 0 ≤ x23 ∧ x23 ≤ 24) (k29 : (-1) ≤ x29 ∧ x29 ≤ 71) (k30 : 0 ≤ x30 ∧ x30 ≤ 71) (k32 : 0 ≤ x32 ∧ x32 ≤ 71) (d4 : x9 + (-4294967296) ≤ x1 ∧ x1 ≤ x9 + 0) (d7 : x1 + (-4294967296) ≤ x9 ∧ x9 ≤ x1 + 0) (h3 : x32 = a5_0 (x15)) (h7 : x30 = a5_0 (x15)) (h9 : x29 = a5_0 (x15)) (h15 : x23 = a3_0 (x15)) (h17 : x22 = a4_0 (x15)) (h22 : x17 = a4_0 (x15)) (h24 : x16 = a3_0 (x15)) (ed2 : gd = x1) : 1 * gd + ((-1) * x1 + 0) ≤ 0 := by
  first
    | omega
    | (skip; (first | subst h3 | skip); (first | subst h7 | skip); (first | subst h9 | skip); (first | subst h15 | skip); (first | subst h17 | skip); (first | subst h22 | skip); (first | subst h24 | skip); have q := ‹BLQ _ _› x15 (by omega) (by omega); omega)
set_option maxHeartbeats 4000000 in
theorem vc_Fa_uniteAt_at_Nptail_Nphead_Emblock_27_8 (x1 : Int) (x9 : Int) (x15 : Int) (x16 : Int) (x17 : Int) (x22 : Int) (x23 : Int) (x29 : Int) (x30 : Int) (x32 : Int) (a5_0 : Int → Int) (a3_0 : Int → Int) (a4_0 : Int → Int) (gd : Int) (k1 : 0 ≤ x1 ∧ x1 ≤ 33554431) (k9 : 0 ≤ x9 ∧ x9 ≤ 33554431) (k15 : 0 ≤ x15 ∧ x15 ≤ 71) (k16 : 0 ≤ x16 ∧ x16 ≤ 24) (k17 : 0 ≤ x17 ∧ x17 ≤ 24) (k22 : 0 ≤ x22 ∧ x22 ≤ 24) (k23 : 0 ≤ x23 ∧ x23 ≤ 24) (k29 : (-1) ≤ x29 ∧ x29 ≤ 71) (k30 : 0 ≤ x30 ∧ x30 ≤ 71) (k32 : 0 ≤ x32 ∧ x32 ≤ 71) (d4 : x9 + (-4294967296) ≤ x1 ∧ x1 ≤ x9 + 0) (d7 : x1 + (-4294967296) ≤ x9 ∧ x9 ≤ x1 + 0) (h3 : x32 = a5_0 (x15)) (h7 : x30 = a5_0 (x15)) (h9 : x29 = a5_0 (x15)) (h15 : x23 = a3_0 (x15)) (h17 : x22 = a4_0 (x15)) (h22 : x17 = a4_0 (x15)) (h24 : x16 = a3_0 (x15)) (ed2 : gd = x1) : (-1) * gd + (1 * x1 + 0) ≤ 0 := by
  first
    | omega
    | (skip; (first | subst h3 | skip); (first | subst h7 | skip); (first | subst h9 | skip); (first | subst h15 | skip); (first | subst h17 | skip); (first | subst h22 | skip); (first | subst h24 | skip); have q := ‹BLQ _ _› x15 (by omega) (by omega); omega)
set_option maxHeartbeats 4000000 in
theorem vc_Fa_uniteAt_at_Nptail_Nphead_Emblock_27_9 (x2 : Int) (a5_0 : Int → Int) (k2 : 1 ≤ x2 ∧ x2 ≤ 72) (f26 : BLQ (a5_0) (x2)) : BLQ (a5_0) (x2) := by
  first
    | assumption
  
set_option maxHeartbeats 4000000 in
theorem vc_Fa_uniteAt_at_Nptail_Nphead_Emblock_27_10 (x15 : Int) (x16 : Int) (x17 : Int) (x22 : Int) (x23 : Int) (x29 : Int) (x30 : Int) (x31 : Int) (x32 : Int) (x33 : Int) (a5_0 : Int → Int) (a3_0 : Int → Int) (a4_0 : Int → Int) (k15 : 0 ≤ x15 ∧ x15 ≤ 71) (k16 : 0 ≤ x16 ∧ x16 ≤ 24) (k17 : 0 ≤ x17 ∧ x17 ≤ 24) (k22 : 0 ≤ x22 ∧ x22 ≤ 24) (k23 : 0 ≤ x23 ∧ x23 ≤ 24) (k29 : (-1) ≤ x29 ∧ x29 ≤ 71) (k30 : 0 ≤ x30 ∧ x30 ≤ 71) (k31 : 0 ≤ x31 ∧ x31 ≤ 71) (k32 : 0 ≤ x32 ∧ x32 ≤ 71) (k33 : 0 ≤ x33 ∧ x33 ≤ 71) (f1 : (-1) * x32 + (1 * x33 + 0) ≤ 0) (h3 : x32 = a5_0 (x15)) (f5 : 1 * x30 + ((-1) * x31 + 0) ≤ 0) (h7 : x30 = a5_0 (x15)) (h9 : x29 = a5_0 (x15)) (h15 : x23 = a3_0 (x15)) (h17 : x22 = a4_0 (x15)) (h22 : x17 = a4_0 (x15)) (h24 : x16 = a3_0 (x15)) : (0 ≤ x33) ∧ (x33 ≤ x31) := by
  first
    | omega
    | (skip; (first | subst h3 | skip); (first | subst h7 | skip); (first | subst h9 | skip); (first | subst h15 | skip); (first | subst h17 | skip); (first | subst h22 | skip); (first | subst h24 | skip); have q := ‹BLQ _ _› x15 (by omega) (by omega); omega)
set_option maxHeartbeats 4000000 in
theorem vc_Fa_uniteAt_at_Nptail_Nphead_Emblock_27_11 (x0 : Int) (x2 : Int) (x8 : Int) (x14 : Int) (x15 : Int) (x16 : Int) (x20 : Int) (x22 : Int) (x26 : Int) (x28 : Int) (x29 : Int) (x30 : Int) (x31 : Int) (x32 : Int) (x33 : Int) (a5_0 : Int → Int) (a3_0 : Int → Int) (a4_0 : Int → Int) (gu : Int) (k0 : 0 ≤ x0 ∧ x0 ≤ 24) (k2 : 1 ≤ x2 ∧ x2 ≤ 72) (k8 : 0 ≤ x8 ∧ x8 ≤ 24) (k14 : 0 ≤ x14 ∧ x14 ≤ 71) (k15 : 0 ≤ x15 ∧ x15 ≤ 71) (k16 : 0 ≤ x16 ∧ x16 ≤ 24) (k20 : 1 ≤ x20 ∧ x20 ≤ 1) (k22 : 0 ≤ x22 ∧ x22 ≤ 24) (k26 : 1 ≤ x26 ∧ x26 ≤ 1) (k28 : (-1) ≤ x28 ∧ x28 ≤ (-1)) (k29 : (-1) ≤ x29 ∧ x29 ≤ 71) (k30 : 0 ≤ x30 ∧ x30 ≤ 71) (k31 : 0 ≤ x31 ∧ x31 ≤ 71) (k32 : 0 ≤ x32 ∧ x32 ≤ 71) (k33 : 0 ≤ x33 ∧ x33 ≤ 71) (d0 : x8 + 0 ≤ x22 ∧ x22 ≤ x8 + 0) (d1 : x8 + 0 ≤ x16 ∧ x16 ≤ x8 + 0) (d3 : x8 + (-4294967296) ≤ x0 ∧ x0 ≤ x8 + 0) (d6 : x0 + (-4294967296) ≤ x8 ∧ x8 ≤ x0 + 0) (f0 : (-1) * x14 + (1 * x33 + 0) ≤ 0) (f1 : (-1) * x32 + (1 * x33 + 0) ≤ 0) (f2 : (x33 = x14) ∨ (x33 = x32)) (h3 : x32 = a5_0 (x15)) (f4 : 1 * x14 + ((-1) * x31 + 0) ≤ 0) (f5 : 1 * x30 + ((-1) * x31 + 0) ≤ 0) (f6 : (x31 = x14) ∨ (x31 = x30)) (h7 : x30 = a5_0 (x15)) (f8 : x29 ≠ x14) (h9 : x29 = a5_0 (x15)) (f10 : x14 ≠ x28) (f11 : x26 ≠ 0) (h17 : x22 = a4_0 (x15)) (f18 : x20 ≠ 0) (h24 : x16 = a3_0 (x15)) (f25 : x15 < x2) (f27 : UNI (a5_0) (a3_0) (a4_0) (x2) (x0) (x14)) (eu2 : gu = x0) : RLP (a5_0) (a3_0) (a4_0) (x2) (x31) (x33) (gu) := by
  first
    | (rw [show gu = x0 by omega]; exact uni_rlp (e := x15) ‹UNI _ _ _ _ _ _› (by omega) rfl (by omega) (by omega) (by omega) (by first | exact Or.inl (by omega) | exact Or.inr (by omega)) (by omega) (by omega) (by omega) (by omega) (by omega) (by omega))
  
set_option maxHeartbeats 4000000 in
theorem vc_Fa_uniteAt_at_Nptail_Nphead_Emblock_27_12 (x0 : Int) (x1 : Int) (x2 : Int) (x7 : Int) (x8 : Int) (x14 : Int) (x15 : Int) (x16 : Int) (x17 : Int) (x18 : Int) (x19 : Int) (x20 : Int) (x22 : Int) (x23 : Int) (x24 : Int) (x25 : Int) (x26 : Int) (x28 : Int) (x29 : Int) (x30 : Int) (x31 : Int) (x32 : Int) (x33 : Int) (a5_0 : Int → Int) (a3_0 : Int → Int) (a4_0 : Int → Int) (a6_0 : Int → Int) (gu : Int) (gc : Int) (gd : Int) (k0 : 0 ≤ x0 ∧ x0 ≤ 24) (k1 : 0 ≤ x1 ∧ x1 ≤ 33554431) (k2 : 1 ≤ x2 ∧ x2 ≤ 72) (k7 : 0 ≤ x7 ∧ x7 ≤ 25) (k8 : 0 ≤ x8 ∧ x8 ≤ 24) (k14 : 0 ≤ x14 ∧ x14 ≤ 71) (k15 : 0 ≤ x15 ∧ x15 ≤ 71) (k16 : 0 ≤ x16 ∧ x16 ≤ 24) (k17 : 0 ≤ x17 ∧ x17 ≤ 24) (k18 : 0 ≤ x18 ∧ x18 ≤ 33554431) (k19 : 1 ≤ x19 ∧ x19 ≤ 1) (k20 : 1 ≤ x20 ∧ x20 ≤ 1) (k22 : 0 ≤ x22 ∧ x22 ≤ 24) (k23 : 0 ≤ x23 ∧ x23 ≤ 24) (k26 : 1 ≤ x26 ∧ x26 ≤ 1) (k28 : (-1) ≤ x28 ∧ x28 ≤ (-1)) (k29 : (-1) ≤ x29 ∧ x29 ≤ 71) (k30 : 0 ≤ x30 ∧ x30 ≤ 71) (k31 : 0 ≤ x31 ∧ x31 ≤ 71) (k32 : 0 ≤ x32 ∧ x32 ≤ 71) (k33 : 0 ≤ x33 ∧ x33 ≤ 71) (d0 : x8 + 0 ≤ x22 ∧ x22 ≤ x8 + 0) (d1 : x8 + 0 ≤ x16 ∧ x16 ≤ x8 + 0) (d3 : x8 + (-4294967296) ≤ x0 ∧ x0 ≤ x8 + 0) (d6 : x0 + (-4294967296) ≤ x8 ∧ x8 ≤ x0 + 0) (f0 : (-1) * x14 + (1 * x33 + 0) ≤ 0) (f1 : (-1) * x32 + (1 * x33 + 0) ≤ 0) (f2 : (x33 = x14) ∨ (x33 = x32)) (h3 : x32 = a5_0 (x15)) (f4 : 1 * x14 + ((-1) * x31 + 0) ≤ 0) (f5 : 1 * x30 + ((-1) * x31 + 0) ≤ 0) (f6 : (x31 = x14) ∨ (x31 = x30)) (h7 : x30 = a5_0 (x15)) (f8 : x29 ≠ x14) (h9 : x29 = a5_0 (x15)) (f10 : x14 ≠ x28) (f11 : x26 ≠ 0) (h15 : x23 = a3_0 (x15)) (h17 : x22 = a4_0 (x15)) (f18 : x20 ≠ 0) (f20 : bvp (x20) = bvp (x18) &&& bvp (x19)) (f21 : bvp (x18) = bvp (x1) >>> (x17).toNat) (h22 : x17 = a4_0 (x15)) (h24 : x16 = a3_0 (x15)) (f25 : x15 < x2) (f28 : UN2 (a5_0) (a3_0) (a4_0) (a6_0) (x7) (x2) (x0) (x1) (x14)) (eu2 : gu = x0) (ec2 : gc = x7) (ed2 : gd = x1) : QKP (a5_0) (a3_0) (a4_0) (a6_0) (gc) (x2) (gu) (gd) (x31) (x33) := by
  first
    | (rw [show gu = x0 by omega, show gc = x7 by omega, show gd = x1 by omega]; exact un2_qkp (e := x15) ‹UN2 _ _ _ _ _ _ _ _ _› (by omega) rfl (by omega) (by omega) (by omega) (by first | exact Or.inl ⟨by omega, by omega, by rw [← ‹x17 = a4_0 x15›]; exact (bit_one (s := x1) (t := x18) (c := x20) (v := x17) (one := x19) (by assumption) (by assumption) (by omega) (by omega) (by omega) (by omega)).mpr (by omega)⟩ | exact Or.inr ⟨by omega, by omega, by rw [← ‹x19 = a3_0 x15›]; exact (bit_one (s := x1) (t := x20) (c := x22) (v := x19) (one := x21) (by assumption) (by assumption) (by omega) (by omega) (by omega) (by omega)).mpr (by omega)⟩ | exact Or.inr ⟨by omega, by omega, by rw [← ‹x23 = a3_0 x15›]; exact (bit_one (s := x1) (t := x24) (c := x26) (v := x23) (one := x25) (by assumption) (by assumption) (by omega) (by omega) (by omega) (by omega)).mpr (by omega)⟩) (by omega) (by omega) (by omega) (by omega) (by omega) (by omega))
  
set_option maxHeartbeats 4000000 in
theorem vc_Fa_uniteAt_at_Nptail_Nphead_Emblock_27_13 (x0 : Int) (x15 : Int) (x16 : Int) (x17 : Int) (x22 : Int) (x23 : Int) (x29 : Int) (x30 : Int) (x32 : Int) (a5_0 : Int → Int) (a3_0 : Int → Int) (a4_0 : Int → Int) (gu : Int) (k0 : 0 ≤ x0 ∧ x0 ≤ 24) (k15 : 0 ≤ x15 ∧ x15 ≤ 71) (k16 : 0 ≤ x16 ∧ x16 ≤ 24) (k17 : 0 ≤ x17 ∧ x17 ≤ 24) (k22 : 0 ≤ x22 ∧ x22 ≤ 24) (k23 : 0 ≤ x23 ∧ x23 ≤ 24) (k29 : (-1) ≤ x29 ∧ x29 ≤ 71) (k30 : 0 ≤ x30 ∧ x30 ≤ 71) (k32 : 0 ≤ x32 ∧ x32 ≤ 71) (h3 : x32 = a5_0 (x15)) (h7 : x30 = a5_0 (x15)) (h9 : x29 = a5_0 (x15)) (h15 : x23 = a3_0 (x15)) (h17 : x22 = a4_0 (x15)) (h22 : x17 = a4_0 (x15)) (h24 : x16 = a3_0 (x15)) (eu2 : gu = x0) : gu = x0 := by
  first
    | omega
    | (skip; (first | subst h3 | skip); (first | subst h7 | skip); (first | subst h9 | skip); (first | subst h15 | skip); (first | subst h17 | skip); (first | subst h22 | skip); (first | subst h24 | skip); have q := ‹BLQ _ _› x15 (by omega) (by omega); omega)
set_option maxHeartbeats 4000000 in
theorem vc_Fa_uniteAt_at_Nptail_Nphead_Emblock_27_14 (x15 : Int) (x16 : Int) (x17 : Int) (x22 : Int) (x23 : Int) (x29 : Int) (x30 : Int) (x32 : Int) (x33 : Int) (a5_0 : Int → Int) (a3_0 : Int → Int) (a4_0 : Int → Int) (k15 : 0 ≤ x15 ∧ x15 ≤ 71) (k16 : 0 ≤ x16 ∧ x16 ≤ 24) (k17 : 0 ≤ x17 ∧ x17 ≤ 24) (k22 : 0 ≤ x22 ∧ x22 ≤ 24) (k23 : 0 ≤ x23 ∧ x23 ≤ 24) (k29 : (-1) ≤ x29 ∧ x29 ≤ 71) (k30 : 0 ≤ x30 ∧ x30 ≤ 71) (k32 : 0 ≤ x32 ∧ x32 ≤ 71) (k33 : 0 ≤ x33 ∧ x33 ≤ 71) (h3 : x32 = a5_0 (x15)) (h7 : x30 = a5_0 (x15)) (h9 : x29 = a5_0 (x15)) (h15 : x23 = a3_0 (x15)) (h17 : x22 = a4_0 (x15)) (h22 : x17 = a4_0 (x15)) (h24 : x16 = a3_0 (x15)) : 0 ≤ x33 := by
  first
    | omega
    | (skip; (first | subst h3 | skip); (first | subst h7 | skip); (first | subst h9 | skip); (first | subst h15 | skip); (first | subst h17 | skip); (first | subst h22 | skip); (first | subst h24 | skip); have q := ‹BLQ _ _› x15 (by omega) (by omega); omega)
set_option maxHeartbeats 4000000 in
theorem vc_Fa_uniteAt_at_Nptail_Nphead_Emblock_27_15 (x7 : Int) (x15 : Int) (x16 : Int) (x17 : Int) (x22 : Int) (x23 : Int) (x29 : Int) (x30 : Int) (x32 : Int) (a5_0 : Int → Int) (a3_0 : Int → Int) (a4_0 : Int → Int) (gc : Int) (k7 : 0 ≤ x7 ∧ x7 ≤ 25) (k15 : 0 ≤ x15 ∧ x15 ≤ 71) (k16 : 0 ≤ x16 ∧ x16 ≤ 24) (k17 : 0 ≤ x17 ∧ x17 ≤ 24) (k22 : 0 ≤ x22 ∧ x22 ≤ 24) (k23 : 0 ≤ x23 ∧ x23 ≤ 24) (k29 : (-1) ≤ x29 ∧ x29 ≤ 71) (k30 : 0 ≤ x30 ∧ x30 ≤ 71) (k32 : 0 ≤ x32 ∧ x32 ≤ 71) (h3 : x32 = a5_0 (x15)) (h7 : x30 = a5_0 (x15)) (h9 : x29 = a5_0 (x15)) (h15 : x23 = a3_0 (x15)) (h17 : x22 = a4_0 (x15)) (h22 : x17 = a4_0 (x15)) (h24 : x16 = a3_0 (x15)) (ec2 : gc = x7) : gc = x7 := by
  first
    | omega
    | (skip; (first | subst h3 | skip); (first | subst h7 | skip); (first | subst h9 | skip); (first | subst h15 | skip); (first | subst h17 | skip); (first | subst h22 | skip); (first | subst h24 | skip); have q := ‹BLQ _ _› x15 (by omega) (by omega); omega)
set_option maxHeartbeats 4000000 in
theorem vc_Fa_uniteAt_at_Nptail_Nphead_Emblock_27_16 (x1 : Int) (x15 : Int) (x16 : Int) (x17 : Int) (x22 : Int) (x23 : Int) (x29 : Int) (x30 : Int) (x32 : Int) (a5_0 : Int → Int) (a3_0 : Int → Int) (a4_0 : Int → Int) (gd : Int) (k1 : 0 ≤ x1 ∧ x1 ≤ 33554431) (k15 : 0 ≤ x15 ∧ x15 ≤ 71) (k16 : 0 ≤ x16 ∧ x16 ≤ 24) (k17 : 0 ≤ x17 ∧ x17 ≤ 24) (k22 : 0 ≤ x22 ∧ x22 ≤ 24) (k23 : 0 ≤ x23 ∧ x23 ≤ 24) (k29 : (-1) ≤ x29 ∧ x29 ≤ 71) (k30 : 0 ≤ x30 ∧ x30 ≤ 71) (k32 : 0 ≤ x32 ∧ x32 ≤ 71) (h3 : x32 = a5_0 (x15)) (h7 : x30 = a5_0 (x15)) (h9 : x29 = a5_0 (x15)) (h15 : x23 = a3_0 (x15)) (h17 : x22 = a4_0 (x15)) (h22 : x17 = a4_0 (x15)) (h24 : x16 = a3_0 (x15)) (ed2 : gd = x1) : gd = x1 := by
  first
    | omega
    | (skip; (first | subst h3 | skip); (first | subst h7 | skip); (first | subst h9 | skip); (first | subst h15 | skip); (first | subst h17 | skip); (first | subst h22 | skip); (first | subst h24 | skip); have q := ‹BLQ _ _› x15 (by omega) (by omega); omega)
def o_Fa_uniteAt_at_Nptail_Nphead_Emblock_27 : or_T := (136, 34, [(0, (0, 0, 24, [])), (1, (0, 0, 33554431, [])), (2, (0, 1, 72, [])), (3, (2, 0, 0, [140])), (4, (2, 0, 0, [141])), (5, (2, 0, 0, [26])), (6, (2, 0, 0, [142])), (7, (0, 0, 25, [])), (8, (0, 0, 24, [])), (9, (0, 0, 33554431, [])), (10, (0, 1, 72, [])), (11, (2, 0, 0, [140])), (12, (2, 0, 0, [141])), (13, (2, 0, 0, [26])), (14, (0, 0, 71, [])), (15, (0, 0, 71, [])), (16, (0, 0, 24, [])), (17, (0, 0, 24, [])), (18, (0, 0, 33554431, [])), (19, (0, 1, 1, [])), (20, (0, 1, 1, [])), (22, (0, 0, 24, [])), (23, (0, 0, 24, [])), (24, (0, 0, 33554431, [])), (25, (0, 1, 1, [])), (26, (0, 1, 1, [])), (28, (0, -1, -1, [])), (29, (0, -1, 71, [])), (30, (0, 0, 71, [])), (31, (0, 0, 71, [])), (32, (0, 0, 71, [])), (33, (0, 0, 71, []))], [(23, [14, 33], [0, -1, 1]), (23, [32, 33], [0, -1, 1]), (20, [33, 14, 32], [50, 0, 0, 3, 6, 1, 2, 1, 0, 1, 1, 1, 2, 1, 0, 1, 2]), (10, [32, 13, 15], []), (23, [14, 31], [0, 1, -1]), (23, [30, 31], [0, 1, -1]), (20, [31, 14, 30], [50, 0, 0, 3, 6, 1, 2, 1, 0, 1, 1, 1, 2, 1, 0, 1, 2]), (10, [30, 13, 15], []), (7, [29, 14], [1]), (10, [29, 13, 15], []), (7, [14, 28], [1]), (8, [26], [1]), (12, [26, 24], [2]), (16, [26, 24, 25], [0]), (16, [24, 9, 23], [4]), (10, [23, 11, 15], []), (7, [22, 8], [0]), (10, [22, 12, 15], []), (8, [20], [1]), (12, [20, 18], [2]), (16, [20, 18, 19], [0]), (16, [18, 9, 17], [4]), (10, [17, 12, 15], []), (7, [16, 8], [0]), (10, [16, 11, 15], []), (7, [15, 10], [2]), (20, [13, 10], [61, 1, 566]), (20, [13, 11, 12, 10, 8, 14], [61, 3, 584]), (20, [13, 11, 12, 6, 7, 10, 8, 9, 14], [61, 4, 589]), (24, [0, 8], []), (24, [1, 9], []), (24, [2, 10], []), (24, [3, 11], []), (24, [4, 12], []), (24, [5, 13], [])], [], [(2, 0, 0, [140]), (2, 0, 0, [141]), (0, 0, 24, []), (2, 0, 0, [142]), (0, 0, 25, []), (0, -2147483648, 2147483647, [])], [(24, [3, 34], []), (24, [4, 35], []), (23, [36, 8], [0, 1, -1]), (23, [36, 8], [0, -1, 1]), (24, [6, 37], []), (23, [38, 7], [0, 1, -1]), (23, [38, 7], [0, -1, 1]), (23, [39, 9], [0, 1, -1]), (23, [39, 9], [0, -1, 1]), (20, [13, 10], [61, 1, 566]), (20, [33, 31], [50, 0, 0, 2, 6, 0, 2, 0, 0, 1, 0, 0, 2, 1, 0, 1, 1]), (20, [13, 34, 35, 10, 31, 33, 36], [61, 3, 581]), (20, [13, 34, 35, 37, 38, 10, 36, 39, 31, 33], [61, 4, 590]), (20, [36, 8], [50, 0, 0, 1, 2, 1, 0, 1, 1]), (20, [33], [50, 0, 0, 0, 2, 0, 0, 1, 0]), (20, [38, 7], [50, 0, 0, 1, 2, 1, 0, 1, 1]), (20, [39, 9], [50, 0, 0, 1, 2, 1, 0, 1, 1])], [], [(22, 8, 0, 0), (16, 8, 0, 0), (15, 10, -4294967296, -1), (0, 8, -4294967296, 0), (1, 9, -4294967296, 0), (2, 10, -4294967296, 0), (8, 0, -4294967296, 0), (9, 1, -4294967296, 0), (10, 2, -4294967296, 0), (14, 15, -4294967296, 70), (15, 2, -4294967296, 0), (15, 10, -4294967296, 0)])
theorem oo_Fa_uniteAt_at_Nptail_Nphead_Emblock_27 {kA : Nat → ClassId} : or_ok PRD kA GG o_Fa_uniteAt_at_Nptail_Nphead_Emblock_27 := by
  refine or_mk fun A ta ws vs hD hth hl => ?_
  intro t0 k0 t1 k1 t2 k2 t3 r3 t4 r4 t5 r5 t6 r6 t7 k7 t8 k8 t9 k9 t10 k10 t11 r11 t12 r12 t13 r13 t14 k14 t15 k15 t16 k16 t17 k17 t18 k18 t19 k19 t20 k20 t22 k22 t23 k23 t24 k24 t25 k25 t26 k26 t28 k28 t29 k29 t30 k30 t31 k31 t32 k32 t33 k33 d0 d1 d2 d3 d4 d5 d6 d7 d8 d9 d10 d11 f0 f1 f2 f3 f4 f5 f6 f7 f8 f9 f10 f11 f12 f13 f14 f15 f16 f17 f18 f19 f20 f21 f22 f23 f24 f25 f26 f27 f28 f29 f30 f31 f32 f33 f34
  replace f0 := shm_22 f0
  replace f1 := shm_22 f1
  replace f2 := shm_898 f2
  replace f3 := shm_107 f3
  replace f4 := shm_7 f4
  replace f5 := shm_7 f5
  replace f6 := shm_898 f6
  replace f7 := shm_107 f7
  replace f8 := shm_40 f8
  replace f9 := shm_107 f9
  replace f10 := shm_40 f10
  replace f11 := shm_142 f11
  replace f15 := shm_107 f15
  replace f17 := shm_107 f17
  replace f18 := shm_142 f18
  replace f20 := shm_11 f20
  replace f21 := shm_13 f21
  replace f22 := shm_107 f22
  replace f24 := shm_107 f24
  replace f25 := shm_6 f25
  replace f26 := shm_365 f26
  replace f27 := shm_1193 f27
  replace f28 := shm_1194 f28
  replace f29 := shm_5 f29
  replace f30 := shm_5 f30
  replace f31 := shm_5 f31
  replace f32 := shm_5 f32
  replace f33 := shm_5 f33
  replace f34 := shm_5 f34
  have q8 : n_v vs 8 = n_v vs 0 := f29.symm
  have q9 : n_v vs 9 = n_v vs 1 := f30.symm
  have q10 : n_v vs 10 = n_v vs 2 := f31.symm
  have q11 : n_v vs 11 = n_v vs 3 := f32.symm
  have q12 : n_v vs 12 = n_v vs 4 := f33.symm
  have q13 : n_v vs 13 = n_v vs 5 := f34.symm
  simp only [q13, q9, q11, q8, q12, q10] at f3 f7 f9 f15 f17 f21 f22 f24 f25 f26 f27 f28
  have h3 : v_iv (n_v vs 32) = w_ei ws (v_ad (n_v vs 5)) (v_iv (n_v vs 15)) := f3
  have h7 : v_iv (n_v vs 30) = w_ei ws (v_ad (n_v vs 5)) (v_iv (n_v vs 15)) := f7
  have h9 : v_iv (n_v vs 29) = w_ei ws (v_ad (n_v vs 5)) (v_iv (n_v vs 15)) := f9
  have h15 : v_iv (n_v vs 23) = w_ei ws (v_ad (n_v vs 3)) (v_iv (n_v vs 15)) := f15
  have h17 : v_iv (n_v vs 22) = w_ei ws (v_ad (n_v vs 4)) (v_iv (n_v vs 15)) := f17
  have h22 : v_iv (n_v vs 17) = w_ei ws (v_ad (n_v vs 4)) (v_iv (n_v vs 15)) := f22
  have h24 : v_iv (n_v vs 16) = w_ei ws (v_ad (n_v vs 3)) (v_iv (n_v vs 15)) := f24
  obtain ⟨u, eu, hu⟩ := iv_ex (ta := ta) (lo := 0) (hi := 24) (z := v_iv (n_v vs 0)) (by omega) (by omega) (by omega) (by omega)
  have eu2 : v_iv (Value.int u) = v_iv (n_v vs 0) := eu
  have eu3 : 0 ≤ v_iv (Value.int u) ∧ v_iv (Value.int u) ≤ 24 := tv_rng hu
  obtain ⟨c, ec, hc⟩ := iv_ex (ta := ta) (lo := 0) (hi := 25) (z := v_iv (n_v vs 7)) (by omega) (by omega) (by omega) (by omega)
  have ec2 : v_iv (Value.int c) = v_iv (n_v vs 7) := ec
  have ec3 : 0 ≤ v_iv (Value.int c) ∧ v_iv (Value.int c) ≤ 25 := tv_rng hc
  obtain ⟨d, ed, hd⟩ := iv_ex (ta := ta) (lo := (-2147483648)) (hi := 2147483647) (z := v_iv (n_v vs 1)) (by omega) (by omega) (by omega) (by omega)
  have ed2 : v_iv (Value.int d) = v_iv (n_v vs 1) := ed
  have ed3 : (-2147483648) ≤ v_iv (Value.int d) ∧ v_iv (Value.int d) ≤ 2147483647 := tv_rng hd
  have e_3 : n_v (vs ++ [n_v vs 3, n_v vs 4, Value.int u, n_v vs 6, Value.int c, Value.int d]) 3 = n_v vs 3 := n_v_old (by rw [hl]; decide)
  have e_4 : n_v (vs ++ [n_v vs 3, n_v vs 4, Value.int u, n_v vs 6, Value.int c, Value.int d]) 4 = n_v vs 4 := n_v_old (by rw [hl]; decide)
  have e_6 : n_v (vs ++ [n_v vs 3, n_v vs 4, Value.int u, n_v vs 6, Value.int c, Value.int d]) 6 = n_v vs 6 := n_v_old (by rw [hl]; decide)
  have e_7 : n_v (vs ++ [n_v vs 3, n_v vs 4, Value.int u, n_v vs 6, Value.int c, Value.int d]) 7 = n_v vs 7 := n_v_old (by rw [hl]; decide)
  have e_8 : n_v (vs ++ [n_v vs 3, n_v vs 4, Value.int u, n_v vs 6, Value.int c, Value.int d]) 8 = n_v vs 8 := n_v_old (by rw [hl]; decide)
  have e_9 : n_v (vs ++ [n_v vs 3, n_v vs 4, Value.int u, n_v vs 6, Value.int c, Value.int d]) 9 = n_v vs 9 := n_v_old (by rw [hl]; decide)
  have e_10 : n_v (vs ++ [n_v vs 3, n_v vs 4, Value.int u, n_v vs 6, Value.int c, Value.int d]) 10 = n_v vs 10 := n_v_old (by rw [hl]; decide)
  have e_13 : n_v (vs ++ [n_v vs 3, n_v vs 4, Value.int u, n_v vs 6, Value.int c, Value.int d]) 13 = n_v vs 13 := n_v_old (by rw [hl]; decide)
  have e_31 : n_v (vs ++ [n_v vs 3, n_v vs 4, Value.int u, n_v vs 6, Value.int c, Value.int d]) 31 = n_v vs 31 := n_v_old (by rw [hl]; decide)
  have e_33 : n_v (vs ++ [n_v vs 3, n_v vs 4, Value.int u, n_v vs 6, Value.int c, Value.int d]) 33 = n_v vs 33 := n_v_old (by rw [hl]; decide)
  have e_34 : n_v (vs ++ [n_v vs 3, n_v vs 4, Value.int u, n_v vs 6, Value.int c, Value.int d]) 34 = n_v vs 3 := n_v_newk (k := 0) hl rfl
  have e_35 : n_v (vs ++ [n_v vs 3, n_v vs 4, Value.int u, n_v vs 6, Value.int c, Value.int d]) 35 = n_v vs 4 := n_v_newk (k := 1) hl rfl
  have e_36 : n_v (vs ++ [n_v vs 3, n_v vs 4, Value.int u, n_v vs 6, Value.int c, Value.int d]) 36 = Value.int u := n_v_newk (k := 2) hl rfl
  have e_37 : n_v (vs ++ [n_v vs 3, n_v vs 4, Value.int u, n_v vs 6, Value.int c, Value.int d]) 37 = n_v vs 6 := n_v_newk (k := 3) hl rfl
  have e_38 : n_v (vs ++ [n_v vs 3, n_v vs 4, Value.int u, n_v vs 6, Value.int c, Value.int d]) 38 = Value.int c := n_v_newk (k := 4) hl rfl
  have e_39 : n_v (vs ++ [n_v vs 3, n_v vs 4, Value.int u, n_v vs 6, Value.int c, Value.int d]) 39 = Value.int d := n_v_newk (k := 5) hl rfl
  have nf0 : fc_1 PRD (24, [3, 34], []) ws (vs ++ [n_v vs 3, n_v vs 4, Value.int u, n_v vs 6, Value.int c, Value.int d]) := by
    refine ⟨nf_inA hl rfl, sgq_5 ?_⟩
    · show n_v (vs ++ [n_v vs 3, n_v vs 4, Value.int u, n_v vs 6, Value.int c, Value.int d]) 3 = n_v (vs ++ [n_v vs 3, n_v vs 4, Value.int u, n_v vs 6, Value.int c, Value.int d]) 34
      first | rfl | simp only [e_3, e_34, q8, q9, q10, q11, q12, q13]
  have nf1 : fc_1 PRD (24, [4, 35], []) ws (vs ++ [n_v vs 3, n_v vs 4, Value.int u, n_v vs 6, Value.int c, Value.int d]) := by
    refine ⟨nf_inA hl rfl, sgq_5 ?_⟩
    · show n_v (vs ++ [n_v vs 3, n_v vs 4, Value.int u, n_v vs 6, Value.int c, Value.int d]) 4 = n_v (vs ++ [n_v vs 3, n_v vs 4, Value.int u, n_v vs 6, Value.int c, Value.int d]) 35
      first | rfl | simp only [e_4, e_35, q8, q9, q10, q11, q12, q13]
  have nf2 : fc_1 PRD (23, [36, 8], [0, 1, -1]) ws (vs ++ [n_v vs 3, n_v vs 4, Value.int u, n_v vs 6, Value.int c, Value.int d]) := by
    refine ⟨nf_inA hl rfl, sgq_7 ?_⟩
    · show 1 * v_iv (n_v (vs ++ [n_v vs 3, n_v vs 4, Value.int u, n_v vs 6, Value.int c, Value.int d]) 36) + ((-1) * v_iv (n_v (vs ++ [n_v vs 3, n_v vs 4, Value.int u, n_v vs 6, Value.int c, Value.int d]) 8) + 0) ≤ 0
      simp only [e_8, e_36, q8]
      exact vc_Fa_uniteAt_at_Nptail_Nphead_Emblock_27_2 (v_iv (n_v vs 0)) (v_iv (n_v vs 8)) (v_iv (n_v vs 15)) (v_iv (n_v vs 16)) (v_iv (n_v vs 17)) (v_iv (n_v vs 22)) (v_iv (n_v vs 23)) (v_iv (n_v vs 29)) (v_iv (n_v vs 30)) (v_iv (n_v vs 32)) (w_ei ws (v_ad (n_v vs 5))) (w_ei ws (v_ad (n_v vs 3))) (w_ei ws (v_ad (n_v vs 4))) (v_iv (Value.int u)) k0 k8 k15 k16 k17 k22 k23 k29 k30 k32 d0 d3 d6 h3 h7 h9 h15 h17 h22 h24 eu2
  have nf3 : fc_1 PRD (23, [36, 8], [0, -1, 1]) ws (vs ++ [n_v vs 3, n_v vs 4, Value.int u, n_v vs 6, Value.int c, Value.int d]) := by
    refine ⟨nf_inA hl rfl, sgq_22 ?_⟩
    · show (-1) * v_iv (n_v (vs ++ [n_v vs 3, n_v vs 4, Value.int u, n_v vs 6, Value.int c, Value.int d]) 36) + (1 * v_iv (n_v (vs ++ [n_v vs 3, n_v vs 4, Value.int u, n_v vs 6, Value.int c, Value.int d]) 8) + 0) ≤ 0
      simp only [e_8, e_36, q8]
      exact vc_Fa_uniteAt_at_Nptail_Nphead_Emblock_27_3 (v_iv (n_v vs 0)) (v_iv (n_v vs 8)) (v_iv (n_v vs 15)) (v_iv (n_v vs 16)) (v_iv (n_v vs 17)) (v_iv (n_v vs 22)) (v_iv (n_v vs 23)) (v_iv (n_v vs 29)) (v_iv (n_v vs 30)) (v_iv (n_v vs 32)) (w_ei ws (v_ad (n_v vs 5))) (w_ei ws (v_ad (n_v vs 3))) (w_ei ws (v_ad (n_v vs 4))) (v_iv (Value.int u)) k0 k8 k15 k16 k17 k22 k23 k29 k30 k32 d0 d3 d6 h3 h7 h9 h15 h17 h22 h24 eu2
  have nf4 : fc_1 PRD (24, [6, 37], []) ws (vs ++ [n_v vs 3, n_v vs 4, Value.int u, n_v vs 6, Value.int c, Value.int d]) := by
    refine ⟨nf_inA hl rfl, sgq_5 ?_⟩
    · show n_v (vs ++ [n_v vs 3, n_v vs 4, Value.int u, n_v vs 6, Value.int c, Value.int d]) 6 = n_v (vs ++ [n_v vs 3, n_v vs 4, Value.int u, n_v vs 6, Value.int c, Value.int d]) 37
      first | rfl | simp only [e_6, e_37, q8, q9, q10, q11, q12, q13]
  have nf5 : fc_1 PRD (23, [38, 7], [0, 1, -1]) ws (vs ++ [n_v vs 3, n_v vs 4, Value.int u, n_v vs 6, Value.int c, Value.int d]) := by
    refine ⟨nf_inA hl rfl, sgq_7 ?_⟩
    · show 1 * v_iv (n_v (vs ++ [n_v vs 3, n_v vs 4, Value.int u, n_v vs 6, Value.int c, Value.int d]) 38) + ((-1) * v_iv (n_v (vs ++ [n_v vs 3, n_v vs 4, Value.int u, n_v vs 6, Value.int c, Value.int d]) 7) + 0) ≤ 0
      simp only [e_7, e_38]
      exact vc_Fa_uniteAt_at_Nptail_Nphead_Emblock_27_5 (v_iv (n_v vs 7)) (v_iv (n_v vs 15)) (v_iv (n_v vs 16)) (v_iv (n_v vs 17)) (v_iv (n_v vs 22)) (v_iv (n_v vs 23)) (v_iv (n_v vs 29)) (v_iv (n_v vs 30)) (v_iv (n_v vs 32)) (w_ei ws (v_ad (n_v vs 5))) (w_ei ws (v_ad (n_v vs 3))) (w_ei ws (v_ad (n_v vs 4))) (v_iv (Value.int c)) k7 k15 k16 k17 k22 k23 k29 k30 k32 h3 h7 h9 h15 h17 h22 h24 ec2
  have nf6 : fc_1 PRD (23, [38, 7], [0, -1, 1]) ws (vs ++ [n_v vs 3, n_v vs 4, Value.int u, n_v vs 6, Value.int c, Value.int d]) := by
    refine ⟨nf_inA hl rfl, sgq_22 ?_⟩
    · show (-1) * v_iv (n_v (vs ++ [n_v vs 3, n_v vs 4, Value.int u, n_v vs 6, Value.int c, Value.int d]) 38) + (1 * v_iv (n_v (vs ++ [n_v vs 3, n_v vs 4, Value.int u, n_v vs 6, Value.int c, Value.int d]) 7) + 0) ≤ 0
      simp only [e_7, e_38]
      exact vc_Fa_uniteAt_at_Nptail_Nphead_Emblock_27_6 (v_iv (n_v vs 7)) (v_iv (n_v vs 15)) (v_iv (n_v vs 16)) (v_iv (n_v vs 17)) (v_iv (n_v vs 22)) (v_iv (n_v vs 23)) (v_iv (n_v vs 29)) (v_iv (n_v vs 30)) (v_iv (n_v vs 32)) (w_ei ws (v_ad (n_v vs 5))) (w_ei ws (v_ad (n_v vs 3))) (w_ei ws (v_ad (n_v vs 4))) (v_iv (Value.int c)) k7 k15 k16 k17 k22 k23 k29 k30 k32 h3 h7 h9 h15 h17 h22 h24 ec2
  have nf7 : fc_1 PRD (23, [39, 9], [0, 1, -1]) ws (vs ++ [n_v vs 3, n_v vs 4, Value.int u, n_v vs 6, Value.int c, Value.int d]) := by
    refine ⟨nf_inA hl rfl, sgq_7 ?_⟩
    · show 1 * v_iv (n_v (vs ++ [n_v vs 3, n_v vs 4, Value.int u, n_v vs 6, Value.int c, Value.int d]) 39) + ((-1) * v_iv (n_v (vs ++ [n_v vs 3, n_v vs 4, Value.int u, n_v vs 6, Value.int c, Value.int d]) 9) + 0) ≤ 0
      simp only [e_9, e_39, q9]
      exact vc_Fa_uniteAt_at_Nptail_Nphead_Emblock_27_7 (v_iv (n_v vs 1)) (v_iv (n_v vs 9)) (v_iv (n_v vs 15)) (v_iv (n_v vs 16)) (v_iv (n_v vs 17)) (v_iv (n_v vs 22)) (v_iv (n_v vs 23)) (v_iv (n_v vs 29)) (v_iv (n_v vs 30)) (v_iv (n_v vs 32)) (w_ei ws (v_ad (n_v vs 5))) (w_ei ws (v_ad (n_v vs 3))) (w_ei ws (v_ad (n_v vs 4))) (v_iv (Value.int d)) k1 k9 k15 k16 k17 k22 k23 k29 k30 k32 d4 d7 h3 h7 h9 h15 h17 h22 h24 ed2
  have nf8 : fc_1 PRD (23, [39, 9], [0, -1, 1]) ws (vs ++ [n_v vs 3, n_v vs 4, Value.int u, n_v vs 6, Value.int c, Value.int d]) := by
    refine ⟨nf_inA hl rfl, sgq_22 ?_⟩
    · show (-1) * v_iv (n_v (vs ++ [n_v vs 3, n_v vs 4, Value.int u, n_v vs 6, Value.int c, Value.int d]) 39) + (1 * v_iv (n_v (vs ++ [n_v vs 3, n_v vs 4, Value.int u, n_v vs 6, Value.int c, Value.int d]) 9) + 0) ≤ 0
      simp only [e_9, e_39, q9]
      exact vc_Fa_uniteAt_at_Nptail_Nphead_Emblock_27_8 (v_iv (n_v vs 1)) (v_iv (n_v vs 9)) (v_iv (n_v vs 15)) (v_iv (n_v vs 16)) (v_iv (n_v vs 17)) (v_iv (n_v vs 22)) (v_iv (n_v vs 23)) (v_iv (n_v vs 29)) (v_iv (n_v vs 30)) (v_iv (n_v vs 32)) (w_ei ws (v_ad (n_v vs 5))) (w_ei ws (v_ad (n_v vs 3))) (w_ei ws (v_ad (n_v vs 4))) (v_iv (Value.int d)) k1 k9 k15 k16 k17 k22 k23 k29 k30 k32 d4 d7 h3 h7 h9 h15 h17 h22 h24 ed2
  have nf9 : fc_1 PRD (20, [13, 10], [61, 1, 566]) ws (vs ++ [n_v vs 3, n_v vs 4, Value.int u, n_v vs 6, Value.int c, Value.int d]) := by
    refine ⟨nf_inA hl rfl, sgq_365 ?_⟩
    · show BLQ (w_ei ws (v_ad (n_v (vs ++ [n_v vs 3, n_v vs 4, Value.int u, n_v vs 6, Value.int c, Value.int d]) 13))) (v_iv (n_v (vs ++ [n_v vs 3, n_v vs 4, Value.int u, n_v vs 6, Value.int c, Value.int d]) 10))
      simp only [e_10, e_13, q10, q13]
      exact vc_Fa_uniteAt_at_Nptail_Nphead_Emblock_27_9 (v_iv (n_v vs 2)) (w_ei ws (v_ad (n_v vs 5))) k2 f26
  have nf10 : fc_1 PRD (20, [33, 31], [50, 0, 0, 2, 6, 0, 2, 0, 0, 1, 0, 0, 2, 1, 0, 1, 1]) ws (vs ++ [n_v vs 3, n_v vs 4, Value.int u, n_v vs 6, Value.int c, Value.int d]) := by
    refine ⟨nf_inA hl rfl, sgq_366 ?_⟩
    · show (0 ≤ v_iv (n_v (vs ++ [n_v vs 3, n_v vs 4, Value.int u, n_v vs 6, Value.int c, Value.int d]) 33)) ∧ (v_iv (n_v (vs ++ [n_v vs 3, n_v vs 4, Value.int u, n_v vs 6, Value.int c, Value.int d]) 33) ≤ v_iv (n_v (vs ++ [n_v vs 3, n_v vs 4, Value.int u, n_v vs 6, Value.int c, Value.int d]) 31))
      simp only [e_31, e_33]
      exact vc_Fa_uniteAt_at_Nptail_Nphead_Emblock_27_10 (v_iv (n_v vs 15)) (v_iv (n_v vs 16)) (v_iv (n_v vs 17)) (v_iv (n_v vs 22)) (v_iv (n_v vs 23)) (v_iv (n_v vs 29)) (v_iv (n_v vs 30)) (v_iv (n_v vs 31)) (v_iv (n_v vs 32)) (v_iv (n_v vs 33)) (w_ei ws (v_ad (n_v vs 5))) (w_ei ws (v_ad (n_v vs 3))) (w_ei ws (v_ad (n_v vs 4))) k15 k16 k17 k22 k23 k29 k30 k31 k32 k33 f1 h3 f5 h7 h9 h15 h17 h22 h24
  have nf11 : fc_1 PRD (20, [13, 34, 35, 10, 31, 33, 36], [61, 3, 581]) ws (vs ++ [n_v vs 3, n_v vs 4, Value.int u, n_v vs 6, Value.int c, Value.int d]) := by
    refine ⟨nf_inA hl rfl, sgq_367 ?_⟩
    · show RLP (w_ei ws (v_ad (n_v (vs ++ [n_v vs 3, n_v vs 4, Value.int u, n_v vs 6, Value.int c, Value.int d]) 13))) (w_ei ws (v_ad (n_v (vs ++ [n_v vs 3, n_v vs 4, Value.int u, n_v vs 6, Value.int c, Value.int d]) 34))) (w_ei ws (v_ad (n_v (vs ++ [n_v vs 3, n_v vs 4, Value.int u, n_v vs 6, Value.int c, Value.int d]) 35))) (v_iv (n_v (vs ++ [n_v vs 3, n_v vs 4, Value.int u, n_v vs 6, Value.int c, Value.int d]) 10)) (v_iv (n_v (vs ++ [n_v vs 3, n_v vs 4, Value.int u, n_v vs 6, Value.int c, Value.int d]) 31)) (v_iv (n_v (vs ++ [n_v vs 3, n_v vs 4, Value.int u, n_v vs 6, Value.int c, Value.int d]) 33)) (v_iv (n_v (vs ++ [n_v vs 3, n_v vs 4, Value.int u, n_v vs 6, Value.int c, Value.int d]) 36))
      simp only [e_10, e_13, e_31, e_33, e_34, e_35, e_36, q10, q13]
      exact vc_Fa_uniteAt_at_Nptail_Nphead_Emblock_27_11 (v_iv (n_v vs 0)) (v_iv (n_v vs 2)) (v_iv (n_v vs 8)) (v_iv (n_v vs 14)) (v_iv (n_v vs 15)) (v_iv (n_v vs 16)) (v_iv (n_v vs 20)) (v_iv (n_v vs 22)) (v_iv (n_v vs 26)) (v_iv (n_v vs 28)) (v_iv (n_v vs 29)) (v_iv (n_v vs 30)) (v_iv (n_v vs 31)) (v_iv (n_v vs 32)) (v_iv (n_v vs 33)) (w_ei ws (v_ad (n_v vs 5))) (w_ei ws (v_ad (n_v vs 3))) (w_ei ws (v_ad (n_v vs 4))) (v_iv (Value.int u)) k0 k2 k8 k14 k15 k16 k20 k22 k26 k28 k29 k30 k31 k32 k33 d0 d1 d3 d6 f0 f1 f2 h3 f4 f5 f6 h7 f8 h9 f10 f11 h17 f18 h24 f25 f27 eu2
  have nf12 : fc_1 PRD (20, [13, 34, 35, 37, 38, 10, 36, 39, 31, 33], [61, 4, 590]) ws (vs ++ [n_v vs 3, n_v vs 4, Value.int u, n_v vs 6, Value.int c, Value.int d]) := by
    refine ⟨nf_inA hl rfl, sgq_368 ?_⟩
    · show QKP (w_ei ws (v_ad (n_v (vs ++ [n_v vs 3, n_v vs 4, Value.int u, n_v vs 6, Value.int c, Value.int d]) 13))) (w_ei ws (v_ad (n_v (vs ++ [n_v vs 3, n_v vs 4, Value.int u, n_v vs 6, Value.int c, Value.int d]) 34))) (w_ei ws (v_ad (n_v (vs ++ [n_v vs 3, n_v vs 4, Value.int u, n_v vs 6, Value.int c, Value.int d]) 35))) (w_ei ws (v_ad (n_v (vs ++ [n_v vs 3, n_v vs 4, Value.int u, n_v vs 6, Value.int c, Value.int d]) 37))) (v_iv (n_v (vs ++ [n_v vs 3, n_v vs 4, Value.int u, n_v vs 6, Value.int c, Value.int d]) 38)) (v_iv (n_v (vs ++ [n_v vs 3, n_v vs 4, Value.int u, n_v vs 6, Value.int c, Value.int d]) 10)) (v_iv (n_v (vs ++ [n_v vs 3, n_v vs 4, Value.int u, n_v vs 6, Value.int c, Value.int d]) 36)) (v_iv (n_v (vs ++ [n_v vs 3, n_v vs 4, Value.int u, n_v vs 6, Value.int c, Value.int d]) 39)) (v_iv (n_v (vs ++ [n_v vs 3, n_v vs 4, Value.int u, n_v vs 6, Value.int c, Value.int d]) 31)) (v_iv (n_v (vs ++ [n_v vs 3, n_v vs 4, Value.int u, n_v vs 6, Value.int c, Value.int d]) 33))
      simp only [e_10, e_13, e_31, e_33, e_34, e_35, e_36, e_37, e_38, e_39, q10, q13]
      exact vc_Fa_uniteAt_at_Nptail_Nphead_Emblock_27_12 (v_iv (n_v vs 0)) (v_iv (n_v vs 1)) (v_iv (n_v vs 2)) (v_iv (n_v vs 7)) (v_iv (n_v vs 8)) (v_iv (n_v vs 14)) (v_iv (n_v vs 15)) (v_iv (n_v vs 16)) (v_iv (n_v vs 17)) (v_iv (n_v vs 18)) (v_iv (n_v vs 19)) (v_iv (n_v vs 20)) (v_iv (n_v vs 22)) (v_iv (n_v vs 23)) (v_iv (n_v vs 24)) (v_iv (n_v vs 25)) (v_iv (n_v vs 26)) (v_iv (n_v vs 28)) (v_iv (n_v vs 29)) (v_iv (n_v vs 30)) (v_iv (n_v vs 31)) (v_iv (n_v vs 32)) (v_iv (n_v vs 33)) (w_ei ws (v_ad (n_v vs 5))) (w_ei ws (v_ad (n_v vs 3))) (w_ei ws (v_ad (n_v vs 4))) (w_ei ws (v_ad (n_v vs 6))) (v_iv (Value.int u)) (v_iv (Value.int c)) (v_iv (Value.int d)) k0 k1 k2 k7 k8 k14 k15 k16 k17 k18 k19 k20 k22 k23 k26 k28 k29 k30 k31 k32 k33 d0 d1 d3 d6 f0 f1 f2 h3 f4 f5 f6 h7 f8 h9 f10 f11 h15 h17 f18 f20 f21 h22 h24 f25 f28 eu2 ec2 ed2
  have nf13 : fc_1 PRD (20, [36, 8], [50, 0, 0, 1, 2, 1, 0, 1, 1]) ws (vs ++ [n_v vs 3, n_v vs 4, Value.int u, n_v vs 6, Value.int c, Value.int d]) := by
    refine ⟨nf_inA hl rfl, sgq_48 ?_⟩
    · show v_iv (n_v (vs ++ [n_v vs 3, n_v vs 4, Value.int u, n_v vs 6, Value.int c, Value.int d]) 36) = v_iv (n_v (vs ++ [n_v vs 3, n_v vs 4, Value.int u, n_v vs 6, Value.int c, Value.int d]) 8)
      simp only [e_8, e_36, q8]
      exact vc_Fa_uniteAt_at_Nptail_Nphead_Emblock_27_13 (v_iv (n_v vs 0)) (v_iv (n_v vs 15)) (v_iv (n_v vs 16)) (v_iv (n_v vs 17)) (v_iv (n_v vs 22)) (v_iv (n_v vs 23)) (v_iv (n_v vs 29)) (v_iv (n_v vs 30)) (v_iv (n_v vs 32)) (w_ei ws (v_ad (n_v vs 5))) (w_ei ws (v_ad (n_v vs 3))) (w_ei ws (v_ad (n_v vs 4))) (v_iv (Value.int u)) k0 k15 k16 k17 k22 k23 k29 k30 k32 h3 h7 h9 h15 h17 h22 h24 eu2
  have nf14 : fc_1 PRD (20, [33], [50, 0, 0, 0, 2, 0, 0, 1, 0]) ws (vs ++ [n_v vs 3, n_v vs 4, Value.int u, n_v vs 6, Value.int c, Value.int d]) := by
    refine ⟨nf_inA hl rfl, sgq_722 ?_⟩
    · show 0 ≤ v_iv (n_v (vs ++ [n_v vs 3, n_v vs 4, Value.int u, n_v vs 6, Value.int c, Value.int d]) 33)
      rw [e_33]
      exact vc_Fa_uniteAt_at_Nptail_Nphead_Emblock_27_14 (v_iv (n_v vs 15)) (v_iv (n_v vs 16)) (v_iv (n_v vs 17)) (v_iv (n_v vs 22)) (v_iv (n_v vs 23)) (v_iv (n_v vs 29)) (v_iv (n_v vs 30)) (v_iv (n_v vs 32)) (v_iv (n_v vs 33)) (w_ei ws (v_ad (n_v vs 5))) (w_ei ws (v_ad (n_v vs 3))) (w_ei ws (v_ad (n_v vs 4))) k15 k16 k17 k22 k23 k29 k30 k32 k33 h3 h7 h9 h15 h17 h22 h24
  have nf15 : fc_1 PRD (20, [38, 7], [50, 0, 0, 1, 2, 1, 0, 1, 1]) ws (vs ++ [n_v vs 3, n_v vs 4, Value.int u, n_v vs 6, Value.int c, Value.int d]) := by
    refine ⟨nf_inA hl rfl, sgq_48 ?_⟩
    · show v_iv (n_v (vs ++ [n_v vs 3, n_v vs 4, Value.int u, n_v vs 6, Value.int c, Value.int d]) 38) = v_iv (n_v (vs ++ [n_v vs 3, n_v vs 4, Value.int u, n_v vs 6, Value.int c, Value.int d]) 7)
      simp only [e_7, e_38]
      exact vc_Fa_uniteAt_at_Nptail_Nphead_Emblock_27_15 (v_iv (n_v vs 7)) (v_iv (n_v vs 15)) (v_iv (n_v vs 16)) (v_iv (n_v vs 17)) (v_iv (n_v vs 22)) (v_iv (n_v vs 23)) (v_iv (n_v vs 29)) (v_iv (n_v vs 30)) (v_iv (n_v vs 32)) (w_ei ws (v_ad (n_v vs 5))) (w_ei ws (v_ad (n_v vs 3))) (w_ei ws (v_ad (n_v vs 4))) (v_iv (Value.int c)) k7 k15 k16 k17 k22 k23 k29 k30 k32 h3 h7 h9 h15 h17 h22 h24 ec2
  have nf16 : fc_1 PRD (20, [39, 9], [50, 0, 0, 1, 2, 1, 0, 1, 1]) ws (vs ++ [n_v vs 3, n_v vs 4, Value.int u, n_v vs 6, Value.int c, Value.int d]) := by
    refine ⟨nf_inA hl rfl, sgq_48 ?_⟩
    · show v_iv (n_v (vs ++ [n_v vs 3, n_v vs 4, Value.int u, n_v vs 6, Value.int c, Value.int d]) 39) = v_iv (n_v (vs ++ [n_v vs 3, n_v vs 4, Value.int u, n_v vs 6, Value.int c, Value.int d]) 9)
      simp only [e_9, e_39, q9]
      exact vc_Fa_uniteAt_at_Nptail_Nphead_Emblock_27_16 (v_iv (n_v vs 1)) (v_iv (n_v vs 15)) (v_iv (n_v vs 16)) (v_iv (n_v vs 17)) (v_iv (n_v vs 22)) (v_iv (n_v vs 23)) (v_iv (n_v vs 29)) (v_iv (n_v vs 30)) (v_iv (n_v vs 32)) (w_ei ws (v_ad (n_v vs 5))) (w_ei ws (v_ad (n_v vs 3))) (w_ei ws (v_ad (n_v vs 4))) (v_iv (Value.int d)) k1 k15 k16 k17 k22 k23 k29 k30 k32 h3 h7 h9 h15 h17 h22 h24 ed2
  exact ⟨(fun _ h => (by cases h)), [n_v vs 3, n_v vs 4, Value.int u, n_v vs 6, Value.int c, Value.int d], ag_six t3 t4 hu t6 hc hd, List.forall_mem_cons.mpr ⟨⟨show (24 : Nat) < 100 from by decide, nf0⟩, List.forall_mem_cons.mpr ⟨⟨show (24 : Nat) < 100 from by decide, nf1⟩, List.forall_mem_cons.mpr ⟨⟨show (23 : Nat) < 100 from by decide, nf2⟩, List.forall_mem_cons.mpr ⟨⟨show (23 : Nat) < 100 from by decide, nf3⟩, List.forall_mem_cons.mpr ⟨⟨show (24 : Nat) < 100 from by decide, nf4⟩, List.forall_mem_cons.mpr ⟨⟨show (23 : Nat) < 100 from by decide, nf5⟩, List.forall_mem_cons.mpr ⟨⟨show (23 : Nat) < 100 from by decide, nf6⟩, List.forall_mem_cons.mpr ⟨⟨show (23 : Nat) < 100 from by decide, nf7⟩, List.forall_mem_cons.mpr ⟨⟨show (23 : Nat) < 100 from by decide, nf8⟩, List.forall_mem_cons.mpr ⟨⟨show (20 : Nat) < 100 from by decide, nf9⟩, List.forall_mem_cons.mpr ⟨⟨show (20 : Nat) < 100 from by decide, nf10⟩, List.forall_mem_cons.mpr ⟨⟨show (20 : Nat) < 100 from by decide, nf11⟩, List.forall_mem_cons.mpr ⟨⟨show (20 : Nat) < 100 from by decide, nf12⟩, List.forall_mem_cons.mpr ⟨⟨show (20 : Nat) < 100 from by decide, nf13⟩, List.forall_mem_cons.mpr ⟨⟨show (20 : Nat) < 100 from by decide, nf14⟩, List.forall_mem_cons.mpr ⟨⟨show (20 : Nat) < 100 from by decide, nf15⟩, List.forall_mem_cons.mpr ⟨⟨show (20 : Nat) < 100 from by decide, nf16⟩, (fun _ h => (by cases h))⟩⟩⟩⟩⟩⟩⟩⟩⟩⟩⟩⟩⟩⟩⟩⟩⟩, (fun _ h => (by cases h))⟩

set_option maxHeartbeats 4000000 in
theorem vc_Fa_uniteAt_at_Nptail_Nphead_Emblock_28_r0 (x2 : Int) (x15 : Int) (x16 : Int) (x17 : Int) (x22 : Int) (x23 : Int) (x29 : Int) (a5_0 : Int → Int) (a3_0 : Int → Int) (a4_0 : Int → Int) (k2 : 1 ≤ x2 ∧ x2 ≤ 72) (k15 : 0 ≤ x15 ∧ x15 ≤ 71) (k16 : 0 ≤ x16 ∧ x16 ≤ 24) (k17 : 0 ≤ x17 ∧ x17 ≤ 24) (k22 : 0 ≤ x22 ∧ x22 ≤ 24) (k23 : 0 ≤ x23 ∧ x23 ≤ 24) (k29 : (-1) ≤ x29 ∧ x29 ≤ 71) (h0 : x29 = a5_0 (x15)) (h6 : x23 = a3_0 (x15)) (h8 : x22 = a4_0 (x15)) (h13 : x17 = a4_0 (x15)) (h15 : x16 = a3_0 (x15)) (f16 : x15 < x2) (f17 : BLQ (a5_0) (x2)) : 0 ≤ x29 ∧ x29 ≤ 71 := by
  first
    | omega
    | (skip; (first | subst h0 | skip); (first | subst h6 | skip); (first | subst h8 | skip); (first | subst h13 | skip); (first | subst h15 | skip); have q := ‹BLQ _ _› x15 (by omega) (by omega); omega)
def o_Fa_uniteAt_at_Nptail_Nphead_Emblock_28 : or_T := (90, 30, [(0, (0, 0, 24, [])), (1, (0, 0, 33554431, [])), (2, (0, 1, 72, [])), (3, (2, 0, 0, [140])), (4, (2, 0, 0, [141])), (5, (2, 0, 0, [26])), (6, (2, 0, 0, [142])), (7, (0, 0, 25, [])), (8, (0, 0, 24, [])), (9, (0, 0, 33554431, [])), (10, (0, 1, 72, [])), (11, (2, 0, 0, [140])), (12, (2, 0, 0, [141])), (13, (2, 0, 0, [26])), (14, (0, -1, -1, [])), (15, (0, 0, 71, [])), (16, (0, 0, 24, [])), (17, (0, 0, 24, [])), (18, (0, 0, 33554431, [])), (19, (0, 1, 1, [])), (20, (0, 1, 1, [])), (22, (0, 0, 24, [])), (23, (0, 0, 24, [])), (24, (0, 0, 33554431, [])), (25, (0, 1, 1, [])), (26, (0, 1, 1, [])), (28, (0, -1, -1, [])), (29, (0, -1, 71, []))], [(10, [29, 13, 15], []), (7, [14, 28], [0]), (8, [26], [1]), (12, [26, 24], [2]), (16, [26, 24, 25], [0]), (16, [24, 9, 23], [4]), (10, [23, 11, 15], []), (7, [22, 8], [0]), (10, [22, 12, 15], []), (8, [20], [1]), (12, [20, 18], [2]), (16, [20, 18, 19], [0]), (16, [18, 9, 17], [4]), (10, [17, 12, 15], []), (7, [16, 8], [0]), (10, [16, 11, 15], []), (7, [15, 10], [2]), (20, [13, 10], [61, 1, 566]), (20, [13, 11, 12, 10, 8, 14], [61, 3, 584]), (20, [13, 11, 12, 6, 7, 10, 8, 9, 14], [61, 4, 589]), (24, [0, 8], []), (24, [1, 9], []), (24, [2, 10], []), (24, [3, 11], []), (24, [4, 12], []), (24, [5, 13], [])], [(29, (0, 0, 71, []))], [], [], [], [(22, 8, 0, 0), (16, 8, 0, 0), (15, 10, -4294967296, -1), (0, 8, -4294967296, 0), (1, 9, -4294967296, 0), (2, 10, -4294967296, 0), (8, 0, -4294967296, 0), (9, 1, -4294967296, 0), (10, 2, -4294967296, 0), (15, 2, -4294967296, 0), (15, 10, -4294967296, 0)])
theorem oo_Fa_uniteAt_at_Nptail_Nphead_Emblock_28 {kA : Nat → ClassId} : or_ok PRD kA GG o_Fa_uniteAt_at_Nptail_Nphead_Emblock_28 := by
  refine or_mk fun A ta ws vs hD hth hl => ?_
  intro t0 k0 t1 k1 t2 k2 t3 r3 t4 r4 t5 r5 t6 r6 t7 k7 t8 k8 t9 k9 t10 k10 t11 r11 t12 r12 t13 r13 t14 k14 t15 k15 t16 k16 t17 k17 t18 k18 t19 k19 t20 k20 t22 k22 t23 k23 t24 k24 t25 k25 t26 k26 t28 k28 t29 k29 d0 d1 d2 d3 d4 d5 d6 d7 d8 d9 d10 f0 f1 f2 f3 f4 f5 f6 f7 f8 f9 f10 f11 f12 f13 f14 f15 f16 f17 f18 f19 f20 f21 f22 f23 f24 f25
  replace f0 := shm_107 f0
  replace f6 := shm_107 f6
  replace f8 := shm_107 f8
  replace f13 := shm_107 f13
  replace f15 := shm_107 f15
  replace f16 := shm_6 f16
  replace f17 := shm_365 f17
  replace f22 := shm_5 f22
  replace f23 := shm_5 f23
  replace f24 := shm_5 f24
  replace f25 := shm_5 f25
  have q10 : n_v vs 10 = n_v vs 2 := f22.symm
  have q11 : n_v vs 11 = n_v vs 3 := f23.symm
  have q12 : n_v vs 12 = n_v vs 4 := f24.symm
  have q13 : n_v vs 13 = n_v vs 5 := f25.symm
  simp only [q13, q11, q12, q10] at f0 f6 f8 f13 f15 f16 f17
  have h0 : v_iv (n_v vs 29) = w_ei ws (v_ad (n_v vs 5)) (v_iv (n_v vs 15)) := f0
  have h6 : v_iv (n_v vs 23) = w_ei ws (v_ad (n_v vs 3)) (v_iv (n_v vs 15)) := f6
  have h8 : v_iv (n_v vs 22) = w_ei ws (v_ad (n_v vs 4)) (v_iv (n_v vs 15)) := f8
  have h13 : v_iv (n_v vs 17) = w_ei ws (v_ad (n_v vs 4)) (v_iv (n_v vs 15)) := f13
  have h15 : v_iv (n_v vs 16) = w_ei ws (v_ad (n_v vs 3)) (v_iv (n_v vs 15)) := f15
  have hrf0 : 0 ≤ v_iv (n_v vs 29) ∧ v_iv (n_v vs 29) ≤ 71 := vc_Fa_uniteAt_at_Nptail_Nphead_Emblock_28_r0 (v_iv (n_v vs 2)) (v_iv (n_v vs 15)) (v_iv (n_v vs 16)) (v_iv (n_v vs 17)) (v_iv (n_v vs 22)) (v_iv (n_v vs 23)) (v_iv (n_v vs 29)) (w_ei ws (v_ad (n_v vs 5))) (w_ei ws (v_ad (n_v vs 3))) (w_ei ws (v_ad (n_v vs 4))) k2 k15 k16 k17 k22 k23 k29 h0 h6 h8 h13 h15 f16 f17
  have rf29 : tv_ok ta (0, 0, 71, []) (n_v vs 29) := tv_in t29 (by first | omega | grind) (by first | omega | grind)
  refine ⟨List.forall_mem_cons.mpr ⟨rf29, (fun _ h => (by cases h))⟩, [], trivial, ?_, (fun _ h => (by cases h))⟩
  rw [List.append_nil]
  exact (fun _ h => (by cases h))
set_option maxHeartbeats 4000000 in
theorem vc_Fa_uniteAt_at_Nptail_Nphead_Emblock_29_0 (x0 : Int) (x2 : Int) (x8 : Int) (x14 : Int) (x15 : Int) (x16 : Int) (x22 : Int) (x29 : Int) (x30 : Int) (a5_0 : Int → Int) (a3_0 : Int → Int) (a4_0 : Int → Int) (k0 : 0 ≤ x0 ∧ x0 ≤ 24) (k2 : 1 ≤ x2 ∧ x2 ≤ 72) (k8 : 0 ≤ x8 ∧ x8 ≤ 24) (k14 : (-1) ≤ x14 ∧ x14 ≤ (-1)) (k15 : 0 ≤ x15 ∧ x15 ≤ 71) (k16 : 0 ≤ x16 ∧ x16 ≤ 24) (k22 : 0 ≤ x22 ∧ x22 ≤ 24) (k29 : 0 ≤ x29 ∧ x29 ≤ 71) (k30 : 1 ≤ x30 ∧ x30 ≤ 72) (d0 : x15 + 1 ≤ x30 ∧ x30 ≤ x15 + 1) (d4 : x8 + 0 ≤ x22 ∧ x22 ≤ x8 + 0) (d5 : x8 + 0 ≤ x16 ∧ x16 ≤ x8 + 0) (d7 : x8 + (-4294967296) ≤ x0 ∧ x0 ≤ x8 + 0) (d10 : x0 + (-4294967296) ≤ x8 ∧ x8 ≤ x0 + 0) (h1 : x29 = a5_0 (x15)) (h9 : x22 = a4_0 (x15)) (h16 : x16 = a3_0 (x15)) (f17 : x15 < x2) (f19 : UNI (a5_0) (a3_0) (a4_0) (x2) (x0) (x14)) : UNI (a5_0) (a3_0) (a4_0) (x2) (x0) (x29) := by
  first
    | exact uni_first (e := x15) ‹UNI _ _ _ _ _ _› (by assumption) rfl (by omega) (by omega) (by first | exact Or.inl (by omega) | exact Or.inr (by omega))
set_option maxHeartbeats 4000000 in
theorem vc_Fa_uniteAt_at_Nptail_Nphead_Emblock_29_1 (x0 : Int) (x1 : Int) (x2 : Int) (x7 : Int) (x8 : Int) (x14 : Int) (x15 : Int) (x16 : Int) (x17 : Int) (x18 : Int) (x19 : Int) (x20 : Int) (x22 : Int) (x23 : Int) (x24 : Int) (x25 : Int) (x26 : Int) (x29 : Int) (x30 : Int) (a5_0 : Int → Int) (a3_0 : Int → Int) (a4_0 : Int → Int) (a6_0 : Int → Int) (k0 : 0 ≤ x0 ∧ x0 ≤ 24) (k1 : 0 ≤ x1 ∧ x1 ≤ 33554431) (k2 : 1 ≤ x2 ∧ x2 ≤ 72) (k7 : 0 ≤ x7 ∧ x7 ≤ 25) (k8 : 0 ≤ x8 ∧ x8 ≤ 24) (k14 : (-1) ≤ x14 ∧ x14 ≤ (-1)) (k15 : 0 ≤ x15 ∧ x15 ≤ 71) (k16 : 0 ≤ x16 ∧ x16 ≤ 24) (k17 : 0 ≤ x17 ∧ x17 ≤ 24) (k18 : 0 ≤ x18 ∧ x18 ≤ 33554431) (k19 : 1 ≤ x19 ∧ x19 ≤ 1) (k20 : 1 ≤ x20 ∧ x20 ≤ 1) (k22 : 0 ≤ x22 ∧ x22 ≤ 24) (k23 : 0 ≤ x23 ∧ x23 ≤ 24) (k29 : 0 ≤ x29 ∧ x29 ≤ 71) (k30 : 1 ≤ x30 ∧ x30 ≤ 72) (d0 : x15 + 1 ≤ x30 ∧ x30 ≤ x15 + 1) (d4 : x8 + 0 ≤ x22 ∧ x22 ≤ x8 + 0) (d5 : x8 + 0 ≤ x16 ∧ x16 ≤ x8 + 0) (d7 : x8 + (-4294967296) ≤ x0 ∧ x0 ≤ x8 + 0) (d10 : x0 + (-4294967296) ≤ x8 ∧ x8 ≤ x0 + 0) (h1 : x29 = a5_0 (x15)) (h7 : x23 = a3_0 (x15)) (h9 : x22 = a4_0 (x15)) (f12 : bvp (x20) = bvp (x18) &&& bvp (x19)) (f13 : bvp (x18) = bvp (x1) >>> (x17).toNat) (h14 : x17 = a4_0 (x15)) (h16 : x16 = a3_0 (x15)) (f17 : x15 < x2) (f20 : UN2 (a5_0) (a3_0) (a4_0) (a6_0) (x7) (x2) (x0) (x1) (x14)) : UN2 (a5_0) (a3_0) (a4_0) (a6_0) (x7) (x2) (x0) (x1) (x29) := by
  first
    | exact un2_first (e := x15) ‹UN2 _ _ _ _ _ _ _ _ _› (by assumption) rfl (by omega) (by omega) (by first | exact Or.inl ⟨by omega, by omega, by rw [← ‹x17 = a4_0 x15›]; exact (bit_one (s := x1) (t := x18) (c := x20) (v := x17) (one := x19) (by assumption) (by assumption) (by omega) (by omega) (by omega) (by omega)).mpr (by omega)⟩ | exact Or.inr ⟨by omega, by omega, by rw [← ‹x19 = a3_0 x15›]; exact (bit_one (s := x1) (t := x20) (c := x22) (v := x19) (one := x21) (by assumption) (by assumption) (by omega) (by omega) (by omega) (by omega)).mpr (by omega)⟩ | exact Or.inr ⟨by omega, by omega, by rw [← ‹x23 = a3_0 x15›]; exact (bit_one (s := x1) (t := x24) (c := x26) (v := x23) (one := x25) (by assumption) (by assumption) (by omega) (by omega) (by omega) (by omega)).mpr (by omega)⟩)
def o_Fa_uniteAt_at_Nptail_Nphead_Emblock_29 : or_T := (6, 31, [(0, (0, 0, 24, [])), (1, (0, 0, 33554431, [])), (2, (0, 1, 72, [])), (3, (2, 0, 0, [140])), (4, (2, 0, 0, [141])), (5, (2, 0, 0, [26])), (6, (2, 0, 0, [142])), (7, (0, 0, 25, [])), (8, (0, 0, 24, [])), (9, (0, 0, 33554431, [])), (10, (0, 1, 72, [])), (11, (2, 0, 0, [140])), (12, (2, 0, 0, [141])), (13, (2, 0, 0, [26])), (14, (0, -1, -1, [])), (15, (0, 0, 71, [])), (16, (0, 0, 24, [])), (17, (0, 0, 24, [])), (18, (0, 0, 33554431, [])), (19, (0, 1, 1, [])), (20, (0, 1, 1, [])), (22, (0, 0, 24, [])), (23, (0, 0, 24, [])), (24, (0, 0, 33554431, [])), (25, (0, 1, 1, [])), (26, (0, 1, 1, [])), (28, (0, -1, -1, [])), (29, (0, 0, 71, [])), (30, (0, 1, 72, []))], [(6, [30, 15], [1]), (10, [29, 13, 15], []), (7, [14, 28], [0]), (8, [26], [1]), (12, [26, 24], [2]), (16, [26, 24, 25], [0]), (16, [24, 9, 23], [4]), (10, [23, 11, 15], []), (7, [22, 8], [0]), (10, [22, 12, 15], []), (8, [20], [1]), (12, [20, 18], [2]), (16, [20, 18, 19], [0]), (16, [18, 9, 17], [4]), (10, [17, 12, 15], []), (7, [16, 8], [0]), (10, [16, 11, 15], []), (7, [15, 10], [2]), (20, [13, 10], [61, 1, 566]), (20, [13, 11, 12, 10, 8, 14], [61, 3, 584]), (20, [13, 11, 12, 6, 7, 10, 8, 9, 14], [61, 4, 589]), (24, [0, 8], []), (24, [1, 9], []), (24, [2, 10], []), (24, [3, 11], []), (24, [4, 12], []), (24, [5, 13], [])], [], [], [(20, [13, 11, 12, 10, 8, 29], [61, 3, 584]), (20, [13, 11, 12, 6, 7, 10, 8, 9, 29], [61, 4, 589])], [], [(30, 15, 1, 1), (30, 10, -4294967296, 0), (30, 2, -4294967296, 1), (30, 10, -4294967296, 1), (22, 8, 0, 0), (16, 8, 0, 0), (15, 10, -4294967296, -1), (0, 8, -4294967296, 0), (1, 9, -4294967296, 0), (2, 10, -4294967296, 0), (8, 0, -4294967296, 0), (9, 1, -4294967296, 0), (10, 2, -4294967296, 0), (15, 2, -4294967296, 0), (15, 10, -4294967296, 0)])
theorem oo_Fa_uniteAt_at_Nptail_Nphead_Emblock_29 {kA : Nat → ClassId} : or_ok PRD kA GG o_Fa_uniteAt_at_Nptail_Nphead_Emblock_29 := by
  refine or_mk fun A ta ws vs hD hth hl => ?_
  intro t0 k0 t1 k1 t2 k2 t3 r3 t4 r4 t5 r5 t6 r6 t7 k7 t8 k8 t9 k9 t10 k10 t11 r11 t12 r12 t13 r13 t14 k14 t15 k15 t16 k16 t17 k17 t18 k18 t19 k19 t20 k20 t22 k22 t23 k23 t24 k24 t25 k25 t26 k26 t28 k28 t29 k29 t30 k30 d0 d1 d2 d3 d4 d5 d6 d7 d8 d9 d10 d11 d12 d13 d14 f0 f1 f2 f3 f4 f5 f6 f7 f8 f9 f10 f11 f12 f13 f14 f15 f16 f17 f18 f19 f20 f21 f22 f23 f24 f25 f26
  replace f1 := shm_107 f1
  replace f7 := shm_107 f7
  replace f9 := shm_107 f9
  replace f12 := shm_11 f12
  replace f13 := shm_13 f13
  replace f14 := shm_107 f14
  replace f16 := shm_107 f16
  replace f17 := shm_6 f17
  replace f19 := shm_1193 f19
  replace f20 := shm_1194 f20
  replace f21 := shm_5 f21
  replace f22 := shm_5 f22
  replace f23 := shm_5 f23
  replace f24 := shm_5 f24
  replace f25 := shm_5 f25
  replace f26 := shm_5 f26
  have q8 : n_v vs 8 = n_v vs 0 := f21.symm
  have q9 : n_v vs 9 = n_v vs 1 := f22.symm
  have q10 : n_v vs 10 = n_v vs 2 := f23.symm
  have q11 : n_v vs 11 = n_v vs 3 := f24.symm
  have q12 : n_v vs 12 = n_v vs 4 := f25.symm
  have q13 : n_v vs 13 = n_v vs 5 := f26.symm
  simp only [q13, q9, q11, q8, q12, q10] at f1 f7 f9 f13 f14 f16 f17 f19 f20
  have h1 : v_iv (n_v vs 29) = w_ei ws (v_ad (n_v vs 5)) (v_iv (n_v vs 15)) := f1
  have h7 : v_iv (n_v vs 23) = w_ei ws (v_ad (n_v vs 3)) (v_iv (n_v vs 15)) := f7
  have h9 : v_iv (n_v vs 22) = w_ei ws (v_ad (n_v vs 4)) (v_iv (n_v vs 15)) := f9
  have h14 : v_iv (n_v vs 17) = w_ei ws (v_ad (n_v vs 4)) (v_iv (n_v vs 15)) := f14
  have h16 : v_iv (n_v vs 16) = w_ei ws (v_ad (n_v vs 3)) (v_iv (n_v vs 15)) := f16
  have nf0 : fc_1 PRD (20, [13, 11, 12, 10, 8, 29], [61, 3, 584]) ws (vs) := by
    refine ⟨nf_in hl rfl, sgq_1193 ?_⟩
    · show UNI (w_ei ws (v_ad (n_v vs 13))) (w_ei ws (v_ad (n_v vs 11))) (w_ei ws (v_ad (n_v vs 12))) (v_iv (n_v vs 10)) (v_iv (n_v vs 8)) (v_iv (n_v vs 29))
      simp only [q8, q10, q11, q12, q13]
      exact vc_Fa_uniteAt_at_Nptail_Nphead_Emblock_29_0 (v_iv (n_v vs 0)) (v_iv (n_v vs 2)) (v_iv (n_v vs 8)) (v_iv (n_v vs 14)) (v_iv (n_v vs 15)) (v_iv (n_v vs 16)) (v_iv (n_v vs 22)) (v_iv (n_v vs 29)) (v_iv (n_v vs 30)) (w_ei ws (v_ad (n_v vs 5))) (w_ei ws (v_ad (n_v vs 3))) (w_ei ws (v_ad (n_v vs 4))) k0 k2 k8 k14 k15 k16 k22 k29 k30 d0 d4 d5 d7 d10 h1 h9 h16 f17 f19
  have nf1 : fc_1 PRD (20, [13, 11, 12, 6, 7, 10, 8, 9, 29], [61, 4, 589]) ws (vs) := by
    refine ⟨nf_in hl rfl, sgq_1194 ?_⟩
    · show UN2 (w_ei ws (v_ad (n_v vs 13))) (w_ei ws (v_ad (n_v vs 11))) (w_ei ws (v_ad (n_v vs 12))) (w_ei ws (v_ad (n_v vs 6))) (v_iv (n_v vs 7)) (v_iv (n_v vs 10)) (v_iv (n_v vs 8)) (v_iv (n_v vs 9)) (v_iv (n_v vs 29))
      simp only [q8, q9, q10, q11, q12, q13]
      exact vc_Fa_uniteAt_at_Nptail_Nphead_Emblock_29_1 (v_iv (n_v vs 0)) (v_iv (n_v vs 1)) (v_iv (n_v vs 2)) (v_iv (n_v vs 7)) (v_iv (n_v vs 8)) (v_iv (n_v vs 14)) (v_iv (n_v vs 15)) (v_iv (n_v vs 16)) (v_iv (n_v vs 17)) (v_iv (n_v vs 18)) (v_iv (n_v vs 19)) (v_iv (n_v vs 20)) (v_iv (n_v vs 22)) (v_iv (n_v vs 23)) (v_iv (n_v vs 24)) (v_iv (n_v vs 25)) (v_iv (n_v vs 26)) (v_iv (n_v vs 29)) (v_iv (n_v vs 30)) (w_ei ws (v_ad (n_v vs 5))) (w_ei ws (v_ad (n_v vs 3))) (w_ei ws (v_ad (n_v vs 4))) (w_ei ws (v_ad (n_v vs 6))) k0 k1 k2 k7 k8 k14 k15 k16 k17 k18 k19 k20 k22 k23 k29 k30 d0 d4 d5 d7 d10 h1 h7 h9 f12 f13 h14 h16 f17 f20
  refine ⟨(fun _ h => (by cases h)), [], trivial, ?_, (fun _ h => (by cases h))⟩
  rw [List.append_nil]
  exact List.forall_mem_cons.mpr ⟨⟨show (20 : Nat) < 100 from by decide, nf0⟩, List.forall_mem_cons.mpr ⟨⟨show (20 : Nat) < 100 from by decide, nf1⟩, (fun _ h => (by cases h))⟩⟩
def n_Fa_uniteAt_at_Nptail_Nphead_Emblock_an : List an_T := [(6, [(0, (0, 0, 24, [])), (1, (0, 0, 33554431, [])), (2, (0, 0, 72, [])), (3, (2, 0, 0, [140])), (4, (2, 0, 0, [141])), (5, (2, 0, 0, [26])), (6, (0, (Int.negSucc 0), 71, [])), (7, (0, 0, 72, []))], [], (0, 0), [(0, 0, 99994), (1, 15, 72), (0, 0, 100000)], [(0, 8, (Int.negSucc 999999999999), 0), (1, 9, (Int.negSucc 999999999999), 0), (2, 10, (Int.negSucc 999999999999), 0), (8, 0, (Int.negSucc 999999999999), 0), (9, 1, (Int.negSucc 999999999999), 0), (10, 2, (Int.negSucc 999999999999), 0), (14, 2, (Int.negSucc 999999999999), 70), (14, 10, (Int.negSucc 999999999999), 70), (14, 15, (Int.negSucc 999999999999), 70), (15, 2, (Int.negSucc 999999999999), 0), (15, 10, (Int.negSucc 999999999999), 0)], [], [(0, 0, 24, []), (0, 0, 33554431, []), (0, 0, 72, []), (2, 0, 0, [140]), (2, 0, 0, [141]), (2, 0, 0, [26]), (2, 0, 0, [142]), (0, 0, 25, [])], 0, [], [(20, [13, 10], [61, 1, 566]), (20, [13, 11, 12, 10, 8, 14], [61, 3, 584]), (20, [13, 11, 12, 6, 7, 10, 8, 9, 14], [61, 4, 589]), (24, [0, 8], []), (24, [1, 9], []), (24, [2, 10], []), (24, [3, 11], []), (24, [4, 12], []), (24, [5, 13], [])])]
def t_Fa_uniteAt_at_Nptail_Nphead_Emblock_ct : ct_L := [(339, 118, e_jMath_max1_v93), (375, 124, e_jMath_min1_v94), (411, 127, e_Fa_relabel_at_Emblock_gp)]
set_option maxRecDepth 100000 in
theorem c_Fa_uniteAt_at_Nptail_Nphead_Emblock {l : Launch} {D : va_G} {kA : Nat → ClassId} (h_Fa_relabel_at_Emblock_gp : ct_ok PRD l D kA GG y_Fa_relabel_at_Emblock_gp z_Fa_relabel_at_Emblock_gp e_Fa_relabel_at_Emblock_gp) : ct_ok PRD l D kA GG y_Fa_uniteAt_at_Nptail_Nphead_Emblock z_Fa_uniteAt_at_Nptail_Nphead_Emblock e_Fa_uniteAt_at_Nptail_Nphead_Emblock := chk_all_ok (FT := []) (PT := []) (CT := t_Fa_uniteAt_at_Nptail_Nphead_Emblock_ct) (KT := []) (NT := []) (AN := n_Fa_uniteAt_at_Nptail_Nphead_Emblock_an) (OT := [o_Fa_uniteAt_at_Nptail_Nphead_Emblock_0, o_Fa_uniteAt_at_Nptail_Nphead_Emblock_1, o_Fa_uniteAt_at_Nptail_Nphead_Emblock_2, o_Fa_uniteAt_at_Nptail_Nphead_Emblock_3, o_Fa_uniteAt_at_Nptail_Nphead_Emblock_4, o_Fa_uniteAt_at_Nptail_Nphead_Emblock_5, o_Fa_uniteAt_at_Nptail_Nphead_Emblock_6, o_Fa_uniteAt_at_Nptail_Nphead_Emblock_7, o_Fa_uniteAt_at_Nptail_Nphead_Emblock_8, o_Fa_uniteAt_at_Nptail_Nphead_Emblock_9, o_Fa_uniteAt_at_Nptail_Nphead_Emblock_10, o_Fa_uniteAt_at_Nptail_Nphead_Emblock_11, o_Fa_uniteAt_at_Nptail_Nphead_Emblock_12, o_Fa_uniteAt_at_Nptail_Nphead_Emblock_13, o_Fa_uniteAt_at_Nptail_Nphead_Emblock_14, o_Fa_uniteAt_at_Nptail_Nphead_Emblock_15, o_Fa_uniteAt_at_Nptail_Nphead_Emblock_16, o_Fa_uniteAt_at_Nptail_Nphead_Emblock_17, o_Fa_uniteAt_at_Nptail_Nphead_Emblock_18, o_Fa_uniteAt_at_Nptail_Nphead_Emblock_19, o_Fa_uniteAt_at_Nptail_Nphead_Emblock_20, o_Fa_uniteAt_at_Nptail_Nphead_Emblock_21, o_Fa_uniteAt_at_Nptail_Nphead_Emblock_22, o_Fa_uniteAt_at_Nptail_Nphead_Emblock_23, o_Fa_uniteAt_at_Nptail_Nphead_Emblock_24, o_Fa_uniteAt_at_Nptail_Nphead_Emblock_25, o_Fa_uniteAt_at_Nptail_Nphead_Emblock_26, o_Fa_uniteAt_at_Nptail_Nphead_Emblock_27, o_Fa_uniteAt_at_Nptail_Nphead_Emblock_28, o_Fa_uniteAt_at_Nptail_Nphead_Emblock_29]) 3 1240 (List.forall_mem_cons.mpr ⟨oo_Fa_uniteAt_at_Nptail_Nphead_Emblock_0, List.forall_mem_cons.mpr ⟨oo_Fa_uniteAt_at_Nptail_Nphead_Emblock_1, List.forall_mem_cons.mpr ⟨oo_Fa_uniteAt_at_Nptail_Nphead_Emblock_2, List.forall_mem_cons.mpr ⟨oo_Fa_uniteAt_at_Nptail_Nphead_Emblock_3, List.forall_mem_cons.mpr ⟨oo_Fa_uniteAt_at_Nptail_Nphead_Emblock_4, List.forall_mem_cons.mpr ⟨oo_Fa_uniteAt_at_Nptail_Nphead_Emblock_5, List.forall_mem_cons.mpr ⟨oo_Fa_uniteAt_at_Nptail_Nphead_Emblock_6, List.forall_mem_cons.mpr ⟨oo_Fa_uniteAt_at_Nptail_Nphead_Emblock_7, List.forall_mem_cons.mpr ⟨oo_Fa_uniteAt_at_Nptail_Nphead_Emblock_8, List.forall_mem_cons.mpr ⟨oo_Fa_uniteAt_at_Nptail_Nphead_Emblock_9, List.forall_mem_cons.mpr ⟨oo_Fa_uniteAt_at_Nptail_Nphead_Emblock_10, List.forall_mem_cons.mpr ⟨oo_Fa_uniteAt_at_Nptail_Nphead_Emblock_11, List.forall_mem_cons.mpr ⟨oo_Fa_uniteAt_at_Nptail_Nphead_Emblock_12, List.forall_mem_cons.mpr ⟨oo_Fa_uniteAt_at_Nptail_Nphead_Emblock_13, List.forall_mem_cons.mpr ⟨oo_Fa_uniteAt_at_Nptail_Nphead_Emblock_14, List.forall_mem_cons.mpr ⟨oo_Fa_uniteAt_at_Nptail_Nphead_Emblock_15, List.forall_mem_cons.mpr ⟨oo_Fa_uniteAt_at_Nptail_Nphead_Emblock_16, List.forall_mem_cons.mpr ⟨oo_Fa_uniteAt_at_Nptail_Nphead_Emblock_17, List.forall_mem_cons.mpr ⟨oo_Fa_uniteAt_at_Nptail_Nphead_Emblock_18, List.forall_mem_cons.mpr ⟨oo_Fa_uniteAt_at_Nptail_Nphead_Emblock_19, List.forall_mem_cons.mpr ⟨oo_Fa_uniteAt_at_Nptail_Nphead_Emblock_20, List.forall_mem_cons.mpr ⟨oo_Fa_uniteAt_at_Nptail_Nphead_Emblock_21, List.forall_mem_cons.mpr ⟨oo_Fa_uniteAt_at_Nptail_Nphead_Emblock_22, List.forall_mem_cons.mpr ⟨oo_Fa_uniteAt_at_Nptail_Nphead_Emblock_23, List.forall_mem_cons.mpr ⟨oo_Fa_uniteAt_at_Nptail_Nphead_Emblock_24, List.forall_mem_cons.mpr ⟨oo_Fa_uniteAt_at_Nptail_Nphead_Emblock_25, List.forall_mem_cons.mpr ⟨oo_Fa_uniteAt_at_Nptail_Nphead_Emblock_26, List.forall_mem_cons.mpr ⟨oo_Fa_uniteAt_at_Nptail_Nphead_Emblock_27, List.forall_mem_cons.mpr ⟨oo_Fa_uniteAt_at_Nptail_Nphead_Emblock_28, List.forall_mem_cons.mpr ⟨oo_Fa_uniteAt_at_Nptail_Nphead_Emblock_29, List.forall_mem_nil _⟩⟩⟩⟩⟩⟩⟩⟩⟩⟩⟩⟩⟩⟩⟩⟩⟩⟩⟩⟩⟩⟩⟩⟩⟩⟩⟩⟩⟩⟩) (by decide +kernel) ⟨List.forall_mem_nil _, List.forall_mem_nil _, List.forall_mem_cons.mpr ⟨cl_static (y := y_jMath_max1) c_jMath_max1_v93 wm_836 wm_10 wm_834 wm_835 ⟨by decide, by decide, by decide +kernel⟩ (by decide), List.forall_mem_cons.mpr ⟨cl_static (y := y_jMath_min1) c_jMath_min1_v94 wm_658 wm_10 wm_837 wm_657 ⟨by decide, by decide, by decide +kernel⟩ (by decide), List.forall_mem_cons.mpr ⟨cl_static (y := y_Fa_relabel_at_Emblock_gp) h_Fa_relabel_at_Emblock_gp wm_840 wm_7 wm_838 wm_839 ⟨by decide, by decide, by decide +kernel⟩ (by decide), List.forall_mem_nil _⟩⟩⟩, List.forall_mem_nil _, List.forall_mem_nil _, GG_pl⟩ (by decide +kernel)
set_option maxHeartbeats 4000000 in
theorem vc_La_listOrders_0_0 (x1 : Int) (x6 : Int) (a5_0 : Int → Int) (k1 : 1 ≤ x1 ∧ x1 ≤ 6) (k6 : 0 ≤ x6 ∧ x6 ≤ 0) : DGT (a5_0) (x1) (x6) := by
  first
    | exact dgt_zero (by omega)
def o_La_listOrders_0 : or_T := (8, 7, [(1, (0, 1, 6, [])), (6, (0, 0, 0, []))], [], [], [], [(20, [5, 1, 6], [61, 1, 736]), (24, [3, 3], []), (24, [1, 1], []), (24, [2, 2], []), (24, [0, 0], []), (24, [1, 1], []), (24, [2, 2], [])], [], [])
theorem oo_La_listOrders_0 {kA : Nat → ClassId} : or_ok PRD kA GG o_La_listOrders_0 := by
  refine or_mk fun A ta ws vs hD hth hl => ?_
  intro t1 k1 t6 k6
  have nf0 : fc_1 PRD (20, [5, 1, 6], [61, 1, 736]) ws (vs) := ⟨nf_in hl rfl, sgq_1196 (vc_La_listOrders_0_0 (v_iv (n_v vs 1)) (v_iv (n_v vs 6)) (w_ei ws (v_ad (n_v vs 5))) k1 k6)⟩
  have nf1 : fc_1 PRD (24, [3, 3], []) ws (vs) := by
    refine ⟨nf_in hl rfl, sgq_1 ?_⟩
    · show n_v vs 3 = n_v vs 3
      first | rfl | simp only [true_and]
  have nf2 : fc_1 PRD (24, [1, 1], []) ws (vs) := by
    refine ⟨nf_in hl rfl, sgq_1 ?_⟩
    · show n_v vs 1 = n_v vs 1
      first | rfl | simp only [true_and]
  have nf3 : fc_1 PRD (24, [2, 2], []) ws (vs) := by
    refine ⟨nf_in hl rfl, sgq_1 ?_⟩
    · show n_v vs 2 = n_v vs 2
      first | rfl | simp only [true_and]
  have nf4 : fc_1 PRD (24, [0, 0], []) ws (vs) := by
    refine ⟨nf_in hl rfl, sgq_1 ?_⟩
    · show n_v vs 0 = n_v vs 0
      first | rfl | simp only [true_and]
  have nf5 : fc_1 PRD (24, [1, 1], []) ws (vs) := by
    refine ⟨nf_in hl rfl, sgq_1 ?_⟩
    · show n_v vs 1 = n_v vs 1
      first | rfl | simp only [true_and]
  have nf6 : fc_1 PRD (24, [2, 2], []) ws (vs) := by
    refine ⟨nf_in hl rfl, sgq_1 ?_⟩
    · show n_v vs 2 = n_v vs 2
      first | rfl | simp only [true_and]
  refine ⟨(fun _ h => (by cases h)), [], trivial, ?_, (fun _ h => (by cases h))⟩
  rw [List.append_nil]
  exact List.forall_mem_cons.mpr ⟨⟨show (20 : Nat) < 100 from by decide, nf0⟩, List.forall_mem_cons.mpr ⟨⟨show (24 : Nat) < 100 from by decide, nf1⟩, List.forall_mem_cons.mpr ⟨⟨show (24 : Nat) < 100 from by decide, nf2⟩, List.forall_mem_cons.mpr ⟨⟨show (24 : Nat) < 100 from by decide, nf3⟩, List.forall_mem_cons.mpr ⟨⟨show (24 : Nat) < 100 from by decide, nf4⟩, List.forall_mem_cons.mpr ⟨⟨show (24 : Nat) < 100 from by decide, nf5⟩, List.forall_mem_cons.mpr ⟨⟨show (24 : Nat) < 100 from by decide, nf6⟩, (fun _ h => (by cases h))⟩⟩⟩⟩⟩⟩⟩
set_option maxHeartbeats 4000000 in
theorem vc_La_listOrders_1_0 (x1 : Int) (x8 : Int) (a7_0 : Int → Int) (k1 : 1 ≤ x1 ∧ x1 ≤ 6) (k8 : 1 ≤ x8 ∧ x8 ≤ 6) (f1 : x1 ≤ x8) (f2 : DGT (a7_0) (x1) (x8)) : DGS (a7_0) (x1) := by
  first
    | exact dgt_dgs ‹DGT _ _ _› (by omega)
set_option maxHeartbeats 4000000 in
theorem vc_La_listOrders_1_1 (x1 : Int) (x2 : Int) (x5 : Int) (x8 : Int) (a3_0 : Int → Int) (k1 : 1 ≤ x1 ∧ x1 ≤ 6) (k2 : 0 ≤ x2 ∧ x2 ≤ 873) (k5 : 1 ≤ x5 ∧ x5 ≤ 6) (k8 : 1 ≤ x8 ∧ x8 ≤ 6) (d0 : x5 + 0 ≤ x8 ∧ x8 ≤ x5 + 4294967296) (d1 : x5 + (-4294967296) ≤ x1 ∧ x1 ≤ x5 + 0) (d3 : x1 + (-4294967296) ≤ x5 ∧ x5 ≤ x1 + 0) (d5 : x1 + (-4294967296) ≤ x8 ∧ x8 ≤ x1 + 0) (f3 : LOA (a3_0) (x1) (x2)) : LOC (a3_0) (x1) (x2) (x2) := by
  first
    | exact loa_loc ‹LOA _ _ _› (by omega) rfl
set_option maxHeartbeats 4000000 in
theorem vc_La_listOrders_1_2 (x2 : Int) (x10 : Int) (k2 : 0 ≤ x2 ∧ x2 ≤ 873) (k10 : 1 ≤ x10 ∧ x10 ≤ 720) : x2 ≤ (x2 + x10) := by
  first
    | omega
def o_La_listOrders_1 : or_T := (35, 11, [(1, (0, 1, 6, [])), (2, (0, 0, 873, [])), (5, (0, 1, 6, [])), (8, (0, 1, 6, [])), (10, (0, 1, 720, []))], [(7, [8, 5], [3]), (20, [7, 5, 8], [61, 1, 736]), (20, [9, 5, 6], [61, 1, 731]), (24, [3, 9], []), (24, [1, 5], []), (24, [2, 6], [])], [], [], [(20, [7, 5], [61, 1, 735]), (20, [9, 5, 6, 6], [61, 1, 733]), (20, [6, 6, 10], [50, 0, 0, 0, 2, 1, 0, 4, 2, 1, 1, 1, 2])], [], [(8, 5, 0, 4294967296), (1, 5, -4294967296, 0), (5, 1, -4294967296, 0), (8, 1, -4294967296, 0)])
theorem oo_La_listOrders_1 {kA : Nat → ClassId} : or_ok PRD kA GG o_La_listOrders_1 := by
  refine or_mk fun A ta ws vs hD hth hl => ?_
  intro t1 k1 t2 k2 t5 k5 t8 k8 t10 k10 d0 d1 d3 d5 f1 f2 f3 f4 f5 f6
  replace f1 := shm_2 f1
  replace f2 := shm_1196 f2
  replace f3 := shm_1195 f3
  replace f4 := shm_5 f4
  replace f5 := shm_5 f5
  replace f6 := shm_5 f6
  have q9 : n_v vs 9 = n_v vs 3 := f4.symm
  have q5 : n_v vs 5 = n_v vs 1 := f5.symm
  have q6 : n_v vs 6 = n_v vs 2 := f6.symm
  simp only [q5, q9, q6] at f1 f2 f3
  have nf0 : fc_1 PRD (20, [7, 5], [61, 1, 735]) ws (vs) := by
    refine ⟨nf_in hl rfl, sgq_401 ?_⟩
    · show DGS (w_ei ws (v_ad (n_v vs 7))) (v_iv (n_v vs 5))
      rw [q5]
      exact vc_La_listOrders_1_0 (v_iv (n_v vs 1)) (v_iv (n_v vs 8)) (w_ei ws (v_ad (n_v vs 7))) k1 k8 f1 f2
  have nf1 : fc_1 PRD (20, [9, 5, 6, 6], [61, 1, 733]) ws (vs) := by
    refine ⟨nf_in hl rfl, sgq_1198 ?_⟩
    · show LOC (w_ei ws (v_ad (n_v vs 9))) (v_iv (n_v vs 5)) (v_iv (n_v vs 6)) (v_iv (n_v vs 6))
      simp only [q9, q5, q6]
      exact vc_La_listOrders_1_1 (v_iv (n_v vs 1)) (v_iv (n_v vs 2)) (v_iv (n_v vs 5)) (v_iv (n_v vs 8)) (w_ei ws (v_ad (n_v vs 3))) k1 k2 k5 k8 d0 d1 d3 d5 f3
  have nf2 : fc_1 PRD (20, [6, 6, 10], [50, 0, 0, 0, 2, 1, 0, 4, 2, 1, 1, 1, 2]) ws (vs) := by
    refine ⟨nf_in hl rfl, sgq_1199 ?_⟩
    · show v_iv (n_v vs 6) ≤ (v_iv (n_v vs 6) + v_iv (n_v vs 10))
      rw [q6]
      exact vc_La_listOrders_1_2 (v_iv (n_v vs 2)) (v_iv (n_v vs 10)) k2 k10
  refine ⟨(fun _ h => (by cases h)), [], trivial, ?_, (fun _ h => (by cases h))⟩
  rw [List.append_nil]
  exact List.forall_mem_cons.mpr ⟨⟨show (20 : Nat) < 100 from by decide, nf0⟩, List.forall_mem_cons.mpr ⟨⟨show (20 : Nat) < 100 from by decide, nf1⟩, List.forall_mem_cons.mpr ⟨⟨show (20 : Nat) < 100 from by decide, nf2⟩, (fun _ h => (by cases h))⟩⟩⟩
set_option maxHeartbeats 4000000 in
theorem vc_La_listOrders_2_0 (x1 : Int) (x8 : Int) (x10 : Int) (a3_0 : Int → Int) (a7_1 : Int → Int) (a3_1 : Int → Int) (a7_0 : Int → Int) (k1 : 1 ≤ x1 ∧ x1 ≤ 6) (k8 : 0 ≤ x8 ∧ x8 ≤ 5) (k10 : 1 ≤ x10 ∧ x10 ≤ 6) (d0 : x8 + 1 ≤ x10 ∧ x10 ≤ x8 + 1) (f0 : x10 = x8 + 1) (f7 : x8 < x1) (f8 : DGT (a7_1) (x1) (x8)) (hE_3_999_1 : ∀ j : Int, a3_0 j = a3_1 j) (hE_7_999_1 : ∀ j : Int, 0 ≤ j → (j = x8 → a7_0 j = x8) ∧ (j ≠ x8 → a7_0 j = a7_1 j)) : DGT (a7_0) (x1) (x10) := by
  have e_hE_3_999_1 := funext hE_3_999_1; subst e_hE_3_999_1
  first
    | exact dgt_step (k := x8) ‹DGT _ _ _› (by omega) (by omega) (by omega) hE_7_999_1
def o_La_listOrders_2 : or_T := (8, 11, [(1, (0, 1, 6, [])), (3, (2, 0, 0, [75])), (7, (2, 0, 0, [298])), (8, (0, 0, 5, [])), (10, (0, 1, 6, []))], [(6, [10, 8], [1]), (24, [1, 5], []), (100, [7, 8, 8], []), (7, [8, 5], [2]), (20, [7, 5, 8], [61, 1, 736])], [], [], [(20, [7, 5, 10], [61, 1, 736])], [], [(10, 8, 1, 1), (8, 5, -4294967296, -1), (8, 1, -4294967296, 0), (8, 5, -4294967296, 0)])
theorem oo_La_listOrders_2 {kA : Nat → ClassId} : or_ok PRD kA GG o_La_listOrders_2 := by
  refine or_mk fun A ta ws vs hD hth hl => ?_
  intro t1 k1 t3 r3 t7 r7 t8 k8 t10 k10 d0 d4 d9 d10 f0 f3 ta1 w1 le1 s1 f7 f8
  replace f0 := shm_4 f0
  replace f3 := shm_5 f3
  have s1 : (∀ b j, w_el ws b j = if b = v_ad (n_v vs 7) ∧ j = (v_iv (n_v vs 8)).toNat then v_iv (n_v vs 8) else w_el w1 b j) ∧ ∀ b k, w_fd ws b k = w_fd w1 b k := s1.2
  replace f7 := shm_6 f7
  replace f8 := shm_1196 f8
  have q5 : n_v vs 5 = n_v vs 1 := f3.symm
  simp only [q5] at f7 f8
  have cr_3_999 : ta (v_ad (n_v vs 3)) = some 75 := r3
  have ad_7 : v_ad (n_v vs 7) = v_ad (n_v vs 7) := rfl
  have hE_3_999_1 : ∀ j : Int, w_ei ws (v_ad (n_v vs 3)) j = w_ei w1 (v_ad (n_v vs 3)) j := el_kp s1.1 r7 cr_3_999 (by decide)
  have hE_7_999_1 : ∀ j : Int, 0 ≤ j → (j = v_iv (n_v vs 8) → w_ei ws (v_ad (n_v vs 7)) j = v_iv (n_v vs 8)) ∧ (j ≠ v_iv (n_v vs 8) → w_ei ws (v_ad (n_v vs 7)) j = w_ei w1 (v_ad (n_v vs 7)) j) := fun j hj => ⟨fun h => by unfold w_ei; rw [s1.1, if_pos ⟨ad_7.symm, by rw [h]⟩], fun h => by unfold w_ei; rw [s1.1, if_neg (fun e => h (by have := e.2; omega))]⟩
  have nf0 : fc_1 PRD (20, [7, 5, 10], [61, 1, 736]) ws (vs) := by
    refine ⟨nf_in hl rfl, sgq_1196 ?_⟩
    · show DGT (w_ei ws (v_ad (n_v vs 7))) (v_iv (n_v vs 5)) (v_iv (n_v vs 10))
      rw [q5]
      exact vc_La_listOrders_2_0 (v_iv (n_v vs 1)) (v_iv (n_v vs 8)) (v_iv (n_v vs 10)) (w_ei ws (v_ad (n_v vs 3))) (w_ei w1 (v_ad (n_v vs 7))) (w_ei w1 (v_ad (n_v vs 3))) (w_ei ws (v_ad (n_v vs 7))) k1 k8 k10 d0 f0 f7 f8 hE_3_999_1 hE_7_999_1
  refine ⟨(fun _ h => (by cases h)), [], trivial, ?_, (fun _ h => (by cases h))⟩
  rw [List.append_nil]
  exact List.forall_mem_cons.mpr ⟨⟨show (20 : Nat) < 100 from by decide, nf0⟩, (fun _ h => (by cases h))⟩
set_option maxHeartbeats 4000000 in
theorem vc_La_listOrders_3_r0 (x1 : Int) (x2 : Int) (x6 : Int) (x8 : Int) (x9 : Int) (x12 : Int) (a3_0 : Int → Int) (k1 : 1 ≤ x1 ∧ x1 ≤ 6) (k2 : 0 ≤ x2 ∧ x2 ≤ 873) (k6 : 0 ≤ x6 ∧ x6 ≤ 873) (k8 : 1 ≤ x8 ∧ x8 ≤ 720) (k9 : 1 ≤ x9 ∧ x9 ≤ 1593) (k12 : 1 ≤ x12 ∧ x12 ≤ 1593) (d10 : x6 + (-4294967296) ≤ x2 ∧ x2 ≤ x6 + 0) (d13 : x2 + (-4294967296) ≤ x6 ∧ x6 ≤ x2 + 0) (f0 : x12 = x2 + x8) (f4 : LOC (a3_0) (x1) (x2) (x9)) (f5 : TBC (x1) (x8)) : 1 ≤ x12 ∧ x12 ≤ 873 := by
  first
    | (have q := loc_rng ‹LOC _ _ _ _› ‹TBC _ _› rfl; omega)
set_option maxHeartbeats 4000000 in
theorem vc_La_listOrders_3_0 (x1 : Int) (x2 : Int) (x6 : Int) (x8 : Int) (x9 : Int) (x11 : Int) (x12 : Int) (a3_0 : Int → Int) (k1 : 1 ≤ x1 ∧ x1 ≤ 6) (k2 : 0 ≤ x2 ∧ x2 ≤ 873) (k6 : 0 ≤ x6 ∧ x6 ≤ 873) (k8 : 1 ≤ x8 ∧ x8 ≤ 720) (k9 : 1 ≤ x9 ∧ x9 ≤ 1593) (k11 : 1 ≤ x11 ∧ x11 ≤ 1593) (k12 : 1 ≤ x12 ∧ x12 ≤ 1593) (d4 : x11 + 0 ≤ x9 ∧ x9 ≤ x11 + 4294967296) (d10 : x6 + (-4294967296) ≤ x2 ∧ x2 ≤ x6 + 0) (d13 : x2 + (-4294967296) ≤ x6 ∧ x6 ≤ x2 + 0) (f0 : x12 = x2 + x8) (f2 : x11 = x2 + x8) (f4 : LOC (a3_0) (x1) (x2) (x9)) (f5 : TBC (x1) (x8)) (f6 : x9 ≤ (x2 + x8)) : LOP (a3_0) (x1) (x12) := by
  first
    | exact loc_lop ‹LOC _ _ _ _› ‹TBC _ _› (by omega) (by omega) (by omega)
def o_La_listOrders_3 : or_T := (93, 13, [(0, (2, 0, 0, [299])), (1, (0, 1, 6, [])), (2, (0, 0, 873, [])), (3, (2, 0, 0, [75])), (4, (2, 0, 0, [299])), (5, (0, 1, 6, [])), (6, (0, 0, 873, [])), (7, (2, 0, 0, [298])), (8, (0, 1, 720, [])), (9, (0, 1, 1593, [])), (10, (2, 0, 0, [75])), (11, (0, 1, 1593, [])), (12, (0, 1, 1593, []))], [(1, [12, 6, 8], []), (7, [9, 11], [3]), (1, [11, 6, 8], []), (20, [7, 5], [61, 1, 735]), (20, [10, 5, 6, 9], [61, 1, 733]), (20, [5, 8], [61, 0, 684]), (20, [9, 6, 8], [50, 0, 0, 0, 2, 1, 0, 4, 2, 1, 1, 1, 2]), (24, [3, 10], []), (24, [1, 5], []), (24, [2, 6], []), (24, [0, 4], [])], [(12, (0, 1, 873, []))], [], [(20, [3, 1, 12], [61, 1, 732])], [], [(12, 8, 0, 873), (12, 6, 1, 720), (12, 2, -4294967296, 720), (12, 9, -4294967296, 720), (9, 11, 0, 4294967296), (11, 8, 0, 873), (11, 6, 1, 720), (11, 2, -4294967296, 720), (11, 9, -4294967296, 720), (1, 5, -4294967296, 0), (2, 6, -4294967296, 0), (2, 9, -4294967296, 0), (5, 1, -4294967296, 0), (6, 2, -4294967296, 0), (6, 9, -4294967296, 0), (9, 8, -4294967296, 873)])
theorem oo_La_listOrders_3 {kA : Nat → ClassId} : or_ok PRD kA GG o_La_listOrders_3 := by
  refine or_mk fun A ta ws vs hD hth hl => ?_
  intro t0 r0 t1 k1 t2 k2 t3 r3 t4 r4 t5 k5 t6 k6 t7 r7 t8 k8 t9 k9 t10 r10 t11 k11 t12 k12 d0 d1 d2 d3 d4 d5 d6 d7 d8 d9 d10 d11 d12 d13 d14 d15 f0 f1 f2 f3 f4 f5 f6 f7 f8 f9 f10
  replace f0 := shm_12 f0
  replace f2 := shm_12 f2
  replace f4 := shm_1200 f4
  replace f5 := shm_1197 f5
  replace f6 := shm_1118 f6
  replace f7 := shm_5 f7
  replace f8 := shm_5 f8
  replace f9 := shm_5 f9
  have q10 : n_v vs 10 = n_v vs 3 := f7.symm
  have q5 : n_v vs 5 = n_v vs 1 := f8.symm
  have q6 : n_v vs 6 = n_v vs 2 := f9.symm
  simp only [q6, q5, q10] at f0 f2 f4 f5 f6
  have hrf0 : 1 ≤ v_iv (n_v vs 12) ∧ v_iv (n_v vs 12) ≤ 873 := vc_La_listOrders_3_r0 (v_iv (n_v vs 1)) (v_iv (n_v vs 2)) (v_iv (n_v vs 6)) (v_iv (n_v vs 8)) (v_iv (n_v vs 9)) (v_iv (n_v vs 12)) (w_ei ws (v_ad (n_v vs 3))) k1 k2 k6 k8 k9 k12 d10 d13 f0 f4 f5
  have nf0 : fc_1 PRD (20, [3, 1, 12], [61, 1, 732]) ws (vs) := ⟨nf_in hl rfl, sgq_1201 (vc_La_listOrders_3_0 (v_iv (n_v vs 1)) (v_iv (n_v vs 2)) (v_iv (n_v vs 6)) (v_iv (n_v vs 8)) (v_iv (n_v vs 9)) (v_iv (n_v vs 11)) (v_iv (n_v vs 12)) (w_ei ws (v_ad (n_v vs 3))) k1 k2 k6 k8 k9 k11 k12 d4 d10 d13 f0 f2 f4 f5 f6)⟩
  have rf12 : tv_ok ta (0, 1, 873, []) (n_v vs 12) := tv_in t12 (by first | omega | grind) (by first | omega | grind)
  refine ⟨List.forall_mem_cons.mpr ⟨rf12, (fun _ h => (by cases h))⟩, [], trivial, ?_, (fun _ h => (by cases h))⟩
  rw [List.append_nil]
  exact List.forall_mem_cons.mpr ⟨⟨show (20 : Nat) < 100 from by decide, nf0⟩, (fun _ h => (by cases h))⟩
set_option maxHeartbeats 4000000 in
theorem vc_La_listOrders_4_0 (x1 : Int) (x2 : Int) (x6 : Int) (x8 : Int) (x9 : Int) (x11 : Int) (x12 : Int) (a3_0 : Int → Int) (k1 : 1 ≤ x1 ∧ x1 ≤ 6) (k2 : 0 ≤ x2 ∧ x2 ≤ 873) (k6 : 0 ≤ x6 ∧ x6 ≤ 873) (k8 : 1 ≤ x8 ∧ x8 ≤ 720) (k9 : 0 ≤ x9 ∧ x9 ≤ 1592) (k11 : 1 ≤ x11 ∧ x11 ≤ 1593) (k12 : 0 ≤ x12 ∧ x12 ≤ 0) (d0 : x11 + (-4294967296) ≤ x9 ∧ x9 ≤ x11 + (-1)) (d4 : x9 + (-4294967296) ≤ x11 ∧ x11 ≤ x9 + 720) (d6 : x6 + (-4294967296) ≤ x2 ∧ x2 ≤ x6 + 0) (d9 : x2 + (-4294967296) ≤ x6 ∧ x6 ≤ x2 + 0) (f1 : x11 = x2 + x8) (f3 : LOC (a3_0) (x1) (x2) (x9)) (f4 : TBC (x1) (x8)) : LOE (a3_0) (x1) (x2) (x9) (x12) := by
  first
    | exact loc_loe ‹LOC _ _ _ _› ‹TBC _ _› (by omega) (by omega)
set_option maxHeartbeats 4000000 in
theorem vc_La_listOrders_4_1 (x2 : Int) (x6 : Int) (x8 : Int) (x9 : Int) (x11 : Int) (k2 : 0 ≤ x2 ∧ x2 ≤ 873) (k6 : 0 ≤ x6 ∧ x6 ≤ 873) (k8 : 1 ≤ x8 ∧ x8 ≤ 720) (k9 : 0 ≤ x9 ∧ x9 ≤ 1592) (k11 : 1 ≤ x11 ∧ x11 ≤ 1593) (d0 : x11 + (-4294967296) ≤ x9 ∧ x9 ≤ x11 + (-1)) (d4 : x9 + (-4294967296) ≤ x11 ∧ x11 ≤ x9 + 720) (d6 : x6 + (-4294967296) ≤ x2 ∧ x2 ≤ x6 + 0) (d9 : x2 + (-4294967296) ≤ x6 ∧ x6 ≤ x2 + 0) (f1 : x11 = x2 + x8) : (x9 + 1) ≤ (x2 + x8) := by
  first
    | omega
def o_La_listOrders_4 : or_T := (47, 13, [(1, (0, 1, 6, [])), (2, (0, 0, 873, [])), (6, (0, 0, 873, [])), (8, (0, 1, 720, [])), (9, (0, 0, 1592, [])), (11, (0, 1, 1593, [])), (12, (0, 0, 0, []))], [(1, [11, 6, 8], []), (20, [10, 5, 6, 9], [61, 1, 733]), (20, [5, 8], [61, 0, 684]), (24, [3, 10], []), (24, [1, 5], []), (24, [2, 6], [])], [], [], [(20, [10, 5, 6, 9, 12], [61, 1, 734]), (20, [9, 6, 8], [50, 0, 0, 0, 6, 4, 2, 1, 0, 0, 1, 4, 2, 1, 1, 1, 2])], [], [(9, 11, -4294967296, -1), (11, 9, -4294967296, 720), (2, 6, -4294967296, 0), (6, 2, -4294967296, 0)])
theorem oo_La_listOrders_4 {kA : Nat → ClassId} : or_ok PRD kA GG o_La_listOrders_4 := by
  refine or_mk fun A ta ws vs hD hth hl => ?_
  intro t1 k1 t2 k2 t6 k6 t8 k8 t9 k9 t11 k11 t12 k12 d0 d4 d6 d9 f1 f3 f4 f6 f7 f8
  replace f1 := shm_12 f1
  replace f3 := shm_1200 f3
  replace f4 := shm_1197 f4
  replace f6 := shm_5 f6
  replace f7 := shm_5 f7
  replace f8 := shm_5 f8
  have q10 : n_v vs 10 = n_v vs 3 := f6.symm
  have q5 : n_v vs 5 = n_v vs 1 := f7.symm
  have q6 : n_v vs 6 = n_v vs 2 := f8.symm
  simp only [q6, q5, q10] at f1 f3 f4
  have nf0 : fc_1 PRD (20, [10, 5, 6, 9, 12], [61, 1, 734]) ws (vs) := by
    refine ⟨nf_in hl rfl, sgq_1202 ?_⟩
    · show LOE (w_ei ws (v_ad (n_v vs 10))) (v_iv (n_v vs 5)) (v_iv (n_v vs 6)) (v_iv (n_v vs 9)) (v_iv (n_v vs 12))
      simp only [q10, q5, q6]
      exact vc_La_listOrders_4_0 (v_iv (n_v vs 1)) (v_iv (n_v vs 2)) (v_iv (n_v vs 6)) (v_iv (n_v vs 8)) (v_iv (n_v vs 9)) (v_iv (n_v vs 11)) (v_iv (n_v vs 12)) (w_ei ws (v_ad (n_v vs 3))) k1 k2 k6 k8 k9 k11 k12 d0 d4 d6 d9 f1 f3 f4
  have nf1 : fc_1 PRD (20, [9, 6, 8], [50, 0, 0, 0, 6, 4, 2, 1, 0, 0, 1, 4, 2, 1, 1, 1, 2]) ws (vs) := by
    refine ⟨nf_in hl rfl, sgq_1203 ?_⟩
    · show (v_iv (n_v vs 9) + 1) ≤ (v_iv (n_v vs 6) + v_iv (n_v vs 8))
      rw [q6]
      exact vc_La_listOrders_4_1 (v_iv (n_v vs 2)) (v_iv (n_v vs 6)) (v_iv (n_v vs 8)) (v_iv (n_v vs 9)) (v_iv (n_v vs 11)) k2 k6 k8 k9 k11 d0 d4 d6 d9 f1
  refine ⟨(fun _ h => (by cases h)), [], trivial, ?_, (fun _ h => (by cases h))⟩
  rw [List.append_nil]
  exact List.forall_mem_cons.mpr ⟨⟨show (20 : Nat) < 100 from by decide, nf0⟩, List.forall_mem_cons.mpr ⟨⟨show (20 : Nat) < 100 from by decide, nf1⟩, (fun _ h => (by cases h))⟩⟩
set_option maxHeartbeats 4000000 in
theorem vc_La_listOrders_5_0 (x1 : Int) (x2 : Int) (x9 : Int) (x10 : Int) (x12 : Int) (a3_0 : Int → Int) (k1 : 1 ≤ x1 ∧ x1 ≤ 6) (k2 : 0 ≤ x2 ∧ x2 ≤ 873) (k9 : 0 ≤ x9 ∧ x9 ≤ 1592) (k10 : 1 ≤ x10 ∧ x10 ≤ 6) (k12 : 1 ≤ x12 ∧ x12 ≤ 1593) (f0 : x12 = x9 + 1) (f1 : LOE (a3_0) (x1) (x2) (x9) (x10)) (f10 : x1 ≤ x10) : LOC (a3_0) (x1) (x2) (x12) := by
  first
    | exact loe_loc ‹LOE _ _ _ _ _› (by omega) (by omega)
set_option maxHeartbeats 4000000 in
theorem vc_La_listOrders_5_1 (x2 : Int) (x6 : Int) (x8 : Int) (x9 : Int) (x12 : Int) (k2 : 0 ≤ x2 ∧ x2 ≤ 873) (k6 : 0 ≤ x6 ∧ x6 ≤ 873) (k8 : 1 ≤ x8 ∧ x8 ≤ 720) (k9 : 0 ≤ x9 ∧ x9 ≤ 1592) (k12 : 1 ≤ x12 ∧ x12 ≤ 1593) (d0 : x9 + 1 ≤ x12 ∧ x12 ≤ x9 + 1) (d4 : x6 + (-4294967296) ≤ x2 ∧ x2 ≤ x6 + 0) (d7 : x2 + (-4294967296) ≤ x6 ∧ x6 ≤ x2 + 0) (f3 : (x9 + 1) ≤ (x2 + x8)) : x12 ≤ (x2 + x8) := by
  first
    | omega
def o_La_listOrders_5 : or_T := (35, 13, [(1, (0, 1, 6, [])), (2, (0, 0, 873, [])), (6, (0, 0, 873, [])), (8, (0, 1, 720, [])), (9, (0, 0, 1592, [])), (10, (0, 1, 6, [])), (12, (0, 1, 1593, []))], [(6, [12, 9], [1]), (20, [11, 5, 6, 9, 10], [61, 1, 734]), (20, [9, 6, 8], [50, 0, 0, 0, 6, 4, 2, 1, 0, 0, 1, 4, 2, 1, 1, 1, 2]), (24, [3, 11], []), (24, [1, 5], []), (24, [2, 6], []), (102, [11], [509258994083621521567111422102344540262867098416484062659035112338595324940834176545849344]), (7, [10, 5], [3])], [], [], [(20, [11, 5, 6, 12], [61, 1, 733]), (20, [12, 6, 8], [50, 0, 0, 0, 2, 1, 0, 4, 2, 1, 1, 1, 2])], [], [(12, 9, 1, 1), (2, 6, -4294967296, 0), (6, 2, -4294967296, 0)])
theorem oo_La_listOrders_5 {kA : Nat → ClassId} : or_ok PRD kA GG o_La_listOrders_5 := by
  refine or_mk fun A ta ws vs hD hth hl => ?_
  intro t1 k1 t2 k2 t6 k6 t8 k8 t9 k9 t10 k10 t12 k12 d0 d4 d7 f0 f1 f3 f4 f5 f6 ta1 w1 le1 s1 f10
  replace f0 := shm_4 f0
  replace f1 := shm_1202 f1
  replace f3 := shm_1203 f3
  replace f4 := shm_5 f4
  replace f5 := shm_5 f5
  replace f6 := shm_5 f6
  replace f10 := shm_2 f10
  have q11 : n_v vs 11 = n_v vs 3 := f4.symm
  have q5 : n_v vs 5 = n_v vs 1 := f5.symm
  have q6 : n_v vs 6 = n_v vs 2 := f6.symm
  simp only [q11, q5, q6] at f1 f3 f10
  have nf0 : fc_1 PRD (20, [11, 5, 6, 12], [61, 1, 733]) ws (vs) := by
    refine ⟨nf_in hl rfl, sgq_1200 ?_⟩
    · show LOC (w_ei ws (v_ad (n_v vs 11))) (v_iv (n_v vs 5)) (v_iv (n_v vs 6)) (v_iv (n_v vs 12))
      simp only [q11, q5, q6]
      exact vc_La_listOrders_5_0 (v_iv (n_v vs 1)) (v_iv (n_v vs 2)) (v_iv (n_v vs 9)) (v_iv (n_v vs 10)) (v_iv (n_v vs 12)) (w_ei ws (v_ad (n_v vs 3))) k1 k2 k9 k10 k12 f0 f1 f10
  have nf1 : fc_1 PRD (20, [12, 6, 8], [50, 0, 0, 0, 2, 1, 0, 4, 2, 1, 1, 1, 2]) ws (vs) := by
    refine ⟨nf_in hl rfl, sgq_1118 ?_⟩
    · show v_iv (n_v vs 12) ≤ (v_iv (n_v vs 6) + v_iv (n_v vs 8))
      rw [q6]
      exact vc_La_listOrders_5_1 (v_iv (n_v vs 2)) (v_iv (n_v vs 6)) (v_iv (n_v vs 8)) (v_iv (n_v vs 9)) (v_iv (n_v vs 12)) k2 k6 k8 k9 k12 d0 d4 d7 f3
  refine ⟨(fun _ h => (by cases h)), [], trivial, ?_, (fun _ h => (by cases h))⟩
  rw [List.append_nil]
  exact List.forall_mem_cons.mpr ⟨⟨show (20 : Nat) < 100 from by decide, nf0⟩, List.forall_mem_cons.mpr ⟨⟨show (20 : Nat) < 100 from by decide, nf1⟩, (fun _ h => (by cases h))⟩⟩
set_option maxHeartbeats 4000000 in
theorem vc_La_listOrders_6_r0 (x1 : Int) (x2 : Int) (x6 : Int) (x8 : Int) (x9 : Int) (x10 : Int) (a3_0 : Int → Int) (k1 : 1 ≤ x1 ∧ x1 ≤ 6) (k2 : 0 ≤ x2 ∧ x2 ≤ 873) (k6 : 0 ≤ x6 ∧ x6 ≤ 873) (k8 : 1 ≤ x8 ∧ x8 ≤ 720) (k9 : 0 ≤ x9 ∧ x9 ≤ 1592) (k10 : 0 ≤ x10 ∧ x10 ≤ 5) (d2 : x6 + (-4294967296) ≤ x2 ∧ x2 ≤ x6 + 0) (d5 : x2 + (-4294967296) ≤ x6 ∧ x6 ≤ x2 + 0) (f2 : LOE (a3_0) (x1) (x2) (x9) (x10)) (f3 : TBC (x1) (x8)) (f4 : (x9 + 1) ≤ (x2 + x8)) : 0 ≤ x9 ∧ x9 ≤ 872 := by
  first
    | (have q := loe_rng ‹LOE _ _ _ _ _› ‹TBC _ _› rfl; omega)
def o_La_listOrders_6 : or_T := (59, 12, [(0, (2, 0, 0, [299])), (1, (0, 1, 6, [])), (2, (0, 0, 873, [])), (3, (2, 0, 0, [75])), (4, (2, 0, 0, [299])), (5, (0, 1, 6, [])), (6, (0, 0, 873, [])), (7, (2, 0, 0, [298])), (8, (0, 1, 720, [])), (9, (0, 0, 1592, [])), (10, (0, 0, 5, [])), (11, (2, 0, 0, [75]))], [(7, [10, 5], [2]), (20, [7, 5], [61, 1, 735]), (20, [11, 5, 6, 9, 10], [61, 1, 734]), (20, [5, 8], [61, 0, 684]), (20, [9, 6, 8], [50, 0, 0, 0, 6, 4, 2, 1, 0, 0, 1, 4, 2, 1, 1, 1, 2]), (24, [3, 11], []), (24, [1, 5], []), (24, [2, 6], []), (24, [0, 4], [])], [(9, (0, 0, 872, []))], [], [], [], [(10, 5, -4294967296, -1), (1, 5, -4294967296, 0), (2, 6, -4294967296, 0), (2, 9, -4294967296, 0), (5, 1, -4294967296, 0), (6, 2, -4294967296, 0), (6, 9, -4294967296, 0), (9, 8, -4294967296, 872), (10, 1, -4294967296, 0), (10, 5, -4294967296, 0)])
theorem oo_La_listOrders_6 {kA : Nat → ClassId} : or_ok PRD kA GG o_La_listOrders_6 := by
  refine or_mk fun A ta ws vs hD hth hl => ?_
  intro t0 r0 t1 k1 t2 k2 t3 r3 t4 r4 t5 k5 t6 k6 t7 r7 t8 k8 t9 k9 t10 k10 t11 r11 d0 d1 d2 d3 d4 d5 d6 d7 d8 d9 f0 f1 f2 f3 f4 f5 f6 f7 f8
  replace f2 := shm_1202 f2
  replace f3 := shm_1197 f3
  replace f4 := shm_1203 f4
  replace f5 := shm_5 f5
  replace f6 := shm_5 f6
  replace f7 := shm_5 f7
  have q11 : n_v vs 11 = n_v vs 3 := f5.symm
  have q5 : n_v vs 5 = n_v vs 1 := f6.symm
  have q6 : n_v vs 6 = n_v vs 2 := f7.symm
  simp only [q5, q11, q6] at f2 f3 f4
  have hrf0 : 0 ≤ v_iv (n_v vs 9) ∧ v_iv (n_v vs 9) ≤ 872 := vc_La_listOrders_6_r0 (v_iv (n_v vs 1)) (v_iv (n_v vs 2)) (v_iv (n_v vs 6)) (v_iv (n_v vs 8)) (v_iv (n_v vs 9)) (v_iv (n_v vs 10)) (w_ei ws (v_ad (n_v vs 3))) k1 k2 k6 k8 k9 k10 d2 d5 f2 f3 f4
  have rf9 : tv_ok ta (0, 0, 872, []) (n_v vs 9) := tv_in t9 (by first | omega | grind) (by first | omega | grind)
  refine ⟨List.forall_mem_cons.mpr ⟨rf9, (fun _ h => (by cases h))⟩, [], trivial, ?_, (fun _ h => (by cases h))⟩
  rw [List.append_nil]
  exact (fun _ h => (by cases h))
set_option maxHeartbeats 4000000 in
theorem vc_La_listOrders_7_0 (x1 : Int) (x2 : Int) (x9 : Int) (x10 : Int) (x12 : Int) (x13 : Int) (x15 : Int) (x16 : Int) (x17 : Int) (x18 : Int) (a7_0 : Int → Int) (a7_1 : Int → Int) (orders_1 : Int → Int) (orders_0 : Int → Int) (k1 : 1 ≤ x1 ∧ x1 ≤ 6) (k2 : 0 ≤ x2 ∧ x2 ≤ 873) (k9 : 0 ≤ x9 ∧ x9 ≤ 872) (k10 : 0 ≤ x10 ∧ x10 ≤ 5) (k12 : 0 ≤ x12 ∧ x12 ≤ 262143) (k13 : 0 ≤ x13 ∧ x13 ≤ 7) (k15 : 0 ≤ x15 ∧ x15 ≤ 15) (k16 : 0 ≤ x16 ∧ x16 ≤ 229376) (k17 : 0 ≤ x17 ∧ x17 ≤ 262143) (k18 : 1 ≤ x18 ∧ x18 ≤ 6) (d0 : x10 + 1 ≤ x18 ∧ x18 ≤ x10 + 1) (f1 : x18 = x10 + 1) (f11 : bvp (x17) = bvp (x12) ||| bvp (x16)) (f12 : bvp (x16) = bvp (x13) <<< (x15).toNat) (f13 : x15 = 3 * x10) (h14 : x13 = a7_1 (x10)) (h15 : x12 = orders_1 (x9)) (f16 : x10 < x1) (f17 : DGS (a7_1) (x1)) (f18 : LOE (orders_1) (x1) (x2) (x9) (x10)) (hE_0_17_1 : ∀ j : Int, 0 ≤ j → (j = x9 → orders_0 j = x17) ∧ (j ≠ x9 → orders_0 j = orders_1 j)) (hE_7_999_1 : ∀ j : Int, a7_0 j = a7_1 j) : LOE (orders_0) (x1) (x2) (x9) (x18) := by
  have e_hE_7_999_1 := funext hE_7_999_1; subst e_hE_7_999_1
  first
    | exact loe_step (k := x10) (d := x13) (x := x12) (v := x17) (t := x16) (sh := x15) (three := 3) ‹LOE _ _ _ _ _› ‹DGS _ _› (by omega) (by omega) (by omega) (by assumption) (by assumption) (by assumption) (by omega) rfl (by assumption) (by omega) (by omega) hE_0_17_1
def o_La_listOrders_7 : or_T := (47, 19, [(0, (2, 0, 0, [299])), (1, (0, 1, 6, [])), (2, (0, 0, 873, [])), (3, (2, 0, 0, [75])), (7, (2, 0, 0, [298])), (9, (0, 0, 872, [])), (10, (0, 0, 5, [])), (12, (0, 0, 262143, [])), (13, (0, 0, 7, [])), (14, (0, 3, 3, [])), (15, (0, 0, 15, [])), (16, (0, 0, 229376, [])), (17, (0, 0, 262143, [])), (18, (0, 1, 6, []))], [(9, [11, 4], [17]), (6, [18, 10], [1]), (24, [3, 11], []), (24, [1, 5], []), (24, [2, 6], []), (24, [0, 4], []), (100, [11, 9, 17], []), (16, [17, 12, 16], [1]), (16, [16, 13, 15], [3]), (3, [15, 14, 10], []), (10, [13, 7, 10], []), (10, [12, 11, 9], []), (7, [10, 5], [2]), (20, [7, 5], [61, 1, 735]), (20, [11, 5, 6, 9, 10], [61, 1, 734])], [], [], [(20, [11, 5, 6, 9, 18], [61, 1, 734])], [], [(18, 10, 1, 1), (2, 9, -4294967296, 0), (6, 9, -4294967296, 0)])
theorem oo_La_listOrders_7 {kA : Nat → ClassId} : or_ok PRD kA GG o_La_listOrders_7 := by
  refine or_mk fun A ta ws vs hD hth hl => ?_
  intro t0 r0 t1 k1 t2 k2 t3 r3 t7 r7 t9 k9 t10 k10 t12 k12 t13 k13 t14 k14 t15 k15 t16 k16 t17 k17 t18 k18 d0 d7 d10 f0 f1 f5 f6 f7 f8 ta1 w1 le1 s1 f11 f12 f13 f14 f15 f16 f17 f18
  replace f0 := shm_795 f0
  replace f1 := shm_4 f1
  replace f5 := shm_5 f5
  replace f6 := shm_5 f6
  replace f7 := shm_5 f7
  replace f8 := shm_5 f8
  have s1 : (∀ b j, w_el ws b j = if b = v_ad (n_v vs 11) ∧ j = (v_iv (n_v vs 9)).toNat then v_iv (n_v vs 17) else w_el w1 b j) ∧ ∀ b k, w_fd ws b k = w_fd w1 b k := s1.2
  replace f11 := shm_354 f11
  replace f12 := shm_349 f12
  replace f13 := shm_38 f13
  rw [show v_iv (n_v vs 14) = 3 from by omega] at f13
  replace f14 := shm_107 f14
  replace f15 := shm_107 f15
  replace f16 := shm_6 f16
  replace f17 := shm_401 f17
  replace f18 := shm_1202 f18
  have q11 : n_v vs 11 = n_v vs 3 := f5.symm
  have q5 : n_v vs 5 = n_v vs 1 := f6.symm
  have q6 : n_v vs 6 = n_v vs 2 := f7.symm
  have q4 : n_v vs 4 = n_v vs 0 := f8.symm
  simp only [q11, q4] at f0
  rw [q11] at s1
  simp only [q11, q5, q6] at f15 f16 f17 f18
  have cr_7_999 : ta (v_ad (n_v vs 7)) = some 298 := r7
  have ad_3 : v_ad (n_v vs 3) = w_ar ws (n_v vs 0) 17 := congrArg v_ad f0
  have h14 : v_iv (n_v vs 13) = w_ei w1 (v_ad (n_v vs 7)) (v_iv (n_v vs 10)) := f14
  simp only [ad_3] at f15
  have h15 : v_iv (n_v vs 12) = w_ei w1 (w_ar ws (n_v vs 0) 17) (v_iv (n_v vs 9)) := f15
  simp only [ad_3] at f18
  have hE_0_17_1 : ∀ j : Int, 0 ≤ j → (j = v_iv (n_v vs 9) → w_ei ws (w_ar ws (n_v vs 0) 17) j = v_iv (n_v vs 17)) ∧ (j ≠ v_iv (n_v vs 9) → w_ei ws (w_ar ws (n_v vs 0) 17) j = w_ei w1 (w_ar ws (n_v vs 0) 17) j) := fun j hj => ⟨fun h => by unfold w_ei; rw [s1.1, if_pos ⟨ad_3.symm, by rw [h]⟩], fun h => by unfold w_ei; rw [s1.1, if_neg (fun e => h (by have := e.2; omega))]⟩
  have hE_7_999_1 : ∀ j : Int, w_ei ws (v_ad (n_v vs 7)) j = w_ei w1 (v_ad (n_v vs 7)) j := el_kp s1.1 r3 cr_7_999 (by decide)
  have nf0 : fc_1 PRD (20, [11, 5, 6, 9, 18], [61, 1, 734]) ws (vs) := by
    refine ⟨nf_in hl rfl, sgq_1202 ?_⟩
    · show LOE (w_ei ws (v_ad (n_v vs 11))) (v_iv (n_v vs 5)) (v_iv (n_v vs 6)) (v_iv (n_v vs 9)) (v_iv (n_v vs 18))
      simp only [q11, q5, q6, ad_3]
      exact vc_La_listOrders_7_0 (v_iv (n_v vs 1)) (v_iv (n_v vs 2)) (v_iv (n_v vs 9)) (v_iv (n_v vs 10)) (v_iv (n_v vs 12)) (v_iv (n_v vs 13)) (v_iv (n_v vs 15)) (v_iv (n_v vs 16)) (v_iv (n_v vs 17)) (v_iv (n_v vs 18)) (w_ei ws (v_ad (n_v vs 7))) (w_ei w1 (v_ad (n_v vs 7))) (w_ei w1 (w_ar ws (n_v vs 0) 17)) (w_ei ws (w_ar ws (n_v vs 0) 17)) k1 k2 k9 k10 k12 k13 k15 k16 k17 k18 d0 f1 f11 f12 f13 h14 h15 f16 f17 f18 hE_0_17_1 hE_7_999_1
  refine ⟨(fun _ h => (by cases h)), [], trivial, ?_, (fun _ h => (by cases h))⟩
  rw [List.append_nil]
  exact List.forall_mem_cons.mpr ⟨⟨show (20 : Nat) < 100 from by decide, nf0⟩, (fun _ h => (by cases h))⟩
def n_La_listOrders_an : List an_T := [(8, [(0, (2, 0, 0, [299])), (1, (0, 1, 6, [])), (2, (0, 0, 873, [])), (3, (2, 0, 0, [298])), (4, (0, 0, 6, []))], [], (1, 6), [(0, 0, 99992), (1, 8, 6), (0, 0, 100000), (0, 0, 0), (0, 0, 0)], [(1, 5, (Int.negSucc 999999999999), 0), (2, 6, (Int.negSucc 999999999999), 0), (5, 1, (Int.negSucc 999999999999), 0), (6, 2, (Int.negSucc 999999999999), 0), (8, 1, (Int.negSucc 999999999999), 0), (8, 5, (Int.negSucc 999999999999), 0)], [((0, 17), (2, 0, 0, [75]))], [(2, 0, 0, [299]), (0, 1, 6, []), (0, 0, 873, []), (2, 0, 0, [75])], 0, [], [(20, [7, 5, 8], [61, 1, 736]), (20, [9, 5, 6], [61, 1, 731]), (24, [3, 9], []), (24, [1, 5], []), (24, [2, 6], []), (24, [0, 4], []), (24, [1, 5], []), (24, [2, 6], [])]), (35, [(0, (2, 0, 0, [299])), (1, (0, 1, 6, [])), (2, (0, 0, 873, [])), (3, (2, 0, 0, [298])), (4, (0, 1, 720, [])), (5, (0, 0, 1593, []))], [], (1, 6), [(0, 0, 99965), (1, 9, 1593), (0, 0, 100000), (0, 0, 0), (0, 0, 0)], [(1, 5, (Int.negSucc 999999999999), 0), (2, 6, (Int.negSucc 999999999999), 0), (2, 9, (Int.negSucc 999999999999), 0), (5, 1, (Int.negSucc 999999999999), 0), (6, 2, (Int.negSucc 999999999999), 0), (6, 9, (Int.negSucc 999999999999), 0), (9, 8, (Int.negSucc 999999999999), 873)], [((0, 17), (2, 0, 0, [75]))], [(2, 0, 0, [299]), (0, 1, 6, []), (0, 0, 873, []), (2, 0, 0, [75])], 0, [], [(20, [7, 5], [61, 1, 735]), (20, [10, 5, 6, 9], [61, 1, 733]), (20, [5, 8], [61, 0, 684]), (20, [9, 6, 8], [50, 0, 0, 0, 2, 1, 0, 4, 2, 1, 1, 1, 2]), (24, [3, 10], []), (24, [1, 5], []), (24, [2, 6], []), (24, [0, 4], []), (24, [1, 5], []), (24, [2, 6], [])]), (47, [(0, (2, 0, 0, [299])), (1, (0, 1, 6, [])), (2, (0, 0, 873, [])), (3, (2, 0, 0, [298])), (4, (0, 1, 720, [])), (5, (0, 0, 1592, [])), (6, (0, 0, 6, []))], [], (1, 6), [(0, 0, 99965), (1, 9, 1593), (0, 0, 99953), (1, 10, 6), (0, 0, 100000)], [(1, 5, (Int.negSucc 999999999999), 0), (2, 6, (Int.negSucc 999999999999), 0), (2, 9, (Int.negSucc 999999999999), 0), (5, 1, (Int.negSucc 999999999999), 0), (6, 2, (Int.negSucc 999999999999), 0), (6, 9, (Int.negSucc 999999999999), 0), (9, 8, (Int.negSucc 999999999999), 872), (10, 1, (Int.negSucc 999999999999), 0), (10, 5, (Int.negSucc 999999999999), 0)], [((0, 17), (2, 0, 0, [75]))], [(2, 0, 0, [299]), (0, 1, 6, []), (0, 0, 873, []), (2, 0, 0, [75])], 0, [], [(20, [7, 5], [61, 1, 735]), (20, [11, 5, 6, 9, 10], [61, 1, 734]), (20, [5, 8], [61, 0, 684]), (20, [9, 6, 8], [50, 0, 0, 0, 6, 4, 2, 1, 0, 0, 1, 4, 2, 1, 1, 1, 2]), (24, [3, 11], []), (24, [1, 5], []), (24, [2, 6], []), (24, [0, 4], []), (24, [1, 5], []), (24, [2, 6], [])])]
def t_La_listOrders_ct : ct_L := [(0, 89, e_La_nextOrder), (84, 85, e_La_countOrders_at_gx)]
set_option maxRecDepth 100000 in
theorem c_La_listOrders {l : Launch} {D : va_G} {kA : Nat → ClassId} (h_La_countOrders_at_gx : ct_ok PRD l D kA GG y_La_countOrders_at_gx z_La_countOrders_at_gx e_La_countOrders_at_gx) (h_La_nextOrder : ct_ok PRD l D kA GG y_La_nextOrder z_La_nextOrder e_La_nextOrder) : ct_ok PRD l D kA GG y_La_listOrders z_La_listOrders e_La_listOrders := chk_all_ok (FT := [(69, 4, 17)]) (PT := []) (CT := t_La_listOrders_ct) (KT := []) (NT := [(2, 298, .int)]) (AN := n_La_listOrders_an) (OT := [o_La_listOrders_0, o_La_listOrders_1, o_La_listOrders_2, o_La_listOrders_3, o_La_listOrders_4, o_La_listOrders_5, o_La_listOrders_6, o_La_listOrders_7]) 5 216 (List.forall_mem_cons.mpr ⟨oo_La_listOrders_0, List.forall_mem_cons.mpr ⟨oo_La_listOrders_1, List.forall_mem_cons.mpr ⟨oo_La_listOrders_2, List.forall_mem_cons.mpr ⟨oo_La_listOrders_3, List.forall_mem_cons.mpr ⟨oo_La_listOrders_4, List.forall_mem_cons.mpr ⟨oo_La_listOrders_5, List.forall_mem_cons.mpr ⟨oo_La_listOrders_6, List.forall_mem_cons.mpr ⟨oo_La_listOrders_7, List.forall_mem_nil _⟩⟩⟩⟩⟩⟩⟩⟩) (by decide +kernel) ⟨List.forall_mem_cons.mpr ⟨gf_La_69, List.forall_mem_nil _⟩, List.forall_mem_nil _, List.forall_mem_cons.mpr ⟨cl_static (y := y_La_nextOrder) h_La_nextOrder wm_1238 wm_18 wm_1236 wm_1237 ⟨by decide, by decide, by decide +kernel⟩ (by decide), List.forall_mem_cons.mpr ⟨cl_static (y := y_La_countOrders_at_gx) h_La_countOrders_at_gx wm_1233 wm_18 wm_1231 wm_1232 ⟨by decide, by decide, by decide +kernel⟩ (by decide), List.forall_mem_nil _⟩⟩, List.forall_mem_nil _, List.forall_mem_cons.mpr ⟨wm_193, List.forall_mem_nil _⟩, GG_pl⟩ (by decide +kernel)
set_option maxHeartbeats 4000000 in
theorem vc_Ne_load_at_Ne_0_0 (x2 : Int) (nodes_0o1 : Int) (k2 : 0 ≤ x2 ∧ x2 ≤ 24) (g0 : x2 = nodes_0o1) (kz_1_0 : 0 ≤ nodes_0o1 ∧ nodes_0o1 ≤ 24) : x2 = nodes_0o1 := by
  first
    | omega
    | (have q := (‹GKE _ _ _ _›) x4 (by omega) (by omega); omega)
    | (have q := (‹GKE _ _ _ _›) x5 (by omega) (by omega); omega)
    | (have q := (‹GKE _ _ _ _›) x6 (by omega) (by omega); omega)
def o_Ne_load_at_Ne_0 : or_T := (5, 3, [(1, (2, 0, 0, [3])), (2, (0, 0, 24, []))], [(9, [2, 1], [0])], [], [], [(20, [2, 1], [50, 1, 0, 1000, 1, 2, 1, 0, 2, 1, 0])], [], [])
theorem oo_Ne_load_at_Ne_0 {kA : Nat → ClassId} : or_ok PRD kA GG o_Ne_load_at_Ne_0 := by
  refine or_mk fun A ta ws vs hD hth hl => ?_
  intro t1 r1 t2 k2 f0
  replace f0 := shm_163 f0
  have g0 : v_iv (n_v vs 2) = w_fi ws (n_v vs 1) 0 := congrArg v_iv f0
  have kz_1_0 := fdq_21 hD hth r1
  have nf0 : fc_1 PRD (20, [2, 1], [50, 1, 0, 1000, 1, 2, 1, 0, 2, 1, 0]) ws (vs) := ⟨nf_in hl rfl, sgq_836 (vc_Ne_load_at_Ne_0_0 (v_iv (n_v vs 2)) (w_fi ws (n_v vs 1) 0) k2 g0 kz_1_0)⟩
  refine ⟨(fun _ h => (by cases h)), [], trivial, ?_, (fun _ h => (by cases h))⟩
  rw [List.append_nil]
  exact List.forall_mem_cons.mpr ⟨⟨show (20 : Nat) < 100 from by decide, nf0⟩, (fun _ h => (by cases h))⟩
set_option maxHeartbeats 4000000 in
theorem vc_Ne_load_at_Ne_1_0 (x2 : Int) (nodes_0o1 : Int) (nodes_0 : Int) (k2 : 0 ≤ x2 ∧ x2 ≤ 24) (f0 : x2 = nodes_0o1) (f3 : nodes_0 = x2) (kz_0_5 : 0 ≤ nodes_0 ∧ nodes_0 ≤ 24) (kz_1_0 : 0 ≤ nodes_0o1 ∧ nodes_0o1 ≤ 24) : nodes_0 = nodes_0o1 := by
  first
    | omega
    | (have q := (‹GKE _ _ _ _›) x4 (by omega) (by omega); omega)
    | (have q := (‹GKE _ _ _ _›) x5 (by omega) (by omega); omega)
    | (have q := (‹GKE _ _ _ _›) x6 (by omega) (by omega); omega)
set_option maxHeartbeats 4000000 in
theorem vc_Ne_load_at_Ne_1_1 (x3 : Int) (edges_0o1 : Int) (edges_0 : Int) (k3 : 0 ≤ x3 ∧ x3 ≤ 0) (f4 : edges_0 = 0) (kz_0_6 : 0 ≤ edges_0 ∧ edges_0 ≤ 72) (kz_1_1 : 0 ≤ edges_0o1 ∧ edges_0o1 ≤ 48) : (edges_0 = x3) ∧ (x3 ≤ edges_0o1) := by
  first
    | omega
    | (have q := (‹GKE _ _ _ _›) x4 (by omega) (by omega); omega)
    | (have q := (‹GKE _ _ _ _›) x5 (by omega) (by omega); omega)
    | (have q := (‹GKE _ _ _ _›) x6 (by omega) (by omega); omega)
def o_Ne_load_at_Ne_1 : or_T := (10, 4, [(0, (2, 0, 0, [5])), (1, (2, 0, 0, [3])), (2, (0, 0, 24, [])), (3, (0, 0, 0, []))], [(20, [2, 1], [50, 1, 0, 1000, 1, 2, 1, 0, 2, 1, 0]), (20, [0, 2], [50, 1, 0, 5, 1, 3, 2, 0, 5, 1, 1]), (20, [0], [50, 1, 0, 6, 1, 3, 2, 0, 6, 0, 0])], [], [], [(20, [0, 1], [50, 2, 0, 5, 1000, 1, 3, 2, 0, 5, 2, 1, 0]), (20, [0, 3, 1], [50, 2, 0, 6, 2001, 2, 7, 1, 3, 2, 0, 6, 1, 1, 0, 2, 1, 1, 2, 2, 1]), (24, [1, 1], []), (24, [0, 0], []), (24, [1, 1], [])], [], [])
theorem oo_Ne_load_at_Ne_1 {kA : Nat → ClassId} : or_ok PRD kA GG o_Ne_load_at_Ne_1 := by
  refine or_mk fun A ta ws vs hD hth hl => ?_
  intro t0 r0 t1 r1 t2 k2 t3 k3 f0 f3 f4
  have kz_0_5 := fdq_82 hD hth r0
  have kz_0_6 := fdq_59 hD hth r0
  have kz_1_0 := fdq_21 hD hth r1
  have kz_1_1 := fdq_30 hD hth r1
  have nf0 : fc_1 PRD (20, [0, 1], [50, 2, 0, 5, 1000, 1, 3, 2, 0, 5, 2, 1, 0]) ws (vs) := ⟨nf_in hl rfl, sgq_1177 (vc_Ne_load_at_Ne_1_0 (v_iv (n_v vs 2)) (w_fi ws (n_v vs 1) 0) (w_fi ws (n_v vs 0) 5) k2 (shm_836 f0) (shm_881 f3) kz_0_5 kz_1_0)⟩
  have nf1 : fc_1 PRD (20, [0, 3, 1], [50, 2, 0, 6, 2001, 2, 7, 1, 3, 2, 0, 6, 1, 1, 0, 2, 1, 1, 2, 2, 1]) ws (vs) := ⟨nf_in hl rfl, sgq_1204 (vc_Ne_load_at_Ne_1_1 (v_iv (n_v vs 3)) (w_fi ws (n_v vs 1) 1) (w_fi ws (n_v vs 0) 6) k3 (shm_882 f4) kz_0_6 kz_1_1)⟩
  have nf2 : fc_1 PRD (24, [1, 1], []) ws (vs) := by
    refine ⟨nf_in hl rfl, sgq_1 ?_⟩
    · show n_v vs 1 = n_v vs 1
      first | rfl | simp only [true_and]
  have nf3 : fc_1 PRD (24, [0, 0], []) ws (vs) := by
    refine ⟨nf_in hl rfl, sgq_1 ?_⟩
    · show n_v vs 0 = n_v vs 0
      first | rfl | simp only [true_and]
  have nf4 : fc_1 PRD (24, [1, 1], []) ws (vs) := by
    refine ⟨nf_in hl rfl, sgq_1 ?_⟩
    · show n_v vs 1 = n_v vs 1
      first | rfl | simp only [true_and]
  refine ⟨(fun _ h => (by cases h)), [], trivial, ?_, (fun _ h => (by cases h))⟩
  rw [List.append_nil]
  exact List.forall_mem_cons.mpr ⟨⟨show (20 : Nat) < 100 from by decide, nf0⟩, List.forall_mem_cons.mpr ⟨⟨show (20 : Nat) < 100 from by decide, nf1⟩, List.forall_mem_cons.mpr ⟨⟨show (24 : Nat) < 100 from by decide, nf2⟩, List.forall_mem_cons.mpr ⟨⟨show (24 : Nat) < 100 from by decide, nf3⟩, List.forall_mem_cons.mpr ⟨⟨show (24 : Nat) < 100 from by decide, nf4⟩, (fun _ h => (by cases h))⟩⟩⟩⟩⟩
set_option maxHeartbeats 4000000 in
theorem vc_Ne_load_at_Ne_2_0 (x4 : Int) (x5 : Int) (edges_0o1 : Int) (k5 : 0 ≤ x5 ∧ x5 ≤ 48) (g0 : x5 = edges_0o1) (kz_1_1 : 0 ≤ edges_0o1 ∧ edges_0o1 ≤ 48) : x5 = edges_0o1 := by
  first
    | omega
    | (have q := (‹GKE _ _ _ _›) x4 (by omega) (by omega); omega)
    | (have q := (‹GKE _ _ _ _›) x5 (by omega) (by omega); omega)
    | (have q := (‹GKE _ _ _ _›) x6 (by omega) (by omega); omega)
def o_Ne_load_at_Ne_2 : or_T := (15, 6, [(1, (2, 0, 0, [3])), (5, (0, 0, 48, []))], [(9, [5, 3], [1]), (24, [1, 3], [])], [], [], [(20, [5, 3], [50, 1, 0, 1001, 1, 2, 1, 0, 2, 1, 1])], [], [])
theorem oo_Ne_load_at_Ne_2 {kA : Nat → ClassId} : or_ok PRD kA GG o_Ne_load_at_Ne_2 := by
  refine or_mk fun A ta ws vs hD hth hl => ?_
  intro t1 r1 t5 k5 f0 f5
  replace f0 := shm_215 f0
  replace f5 := shm_5 f5
  have q3 : n_v vs 3 = n_v vs 1 := f5.symm
  simp only [q3] at f0
  have g0 : v_iv (n_v vs 5) = w_fi ws (n_v vs 1) 1 := congrArg v_iv f0
  have kz_1_1 := fdq_30 hD hth r1
  have nf0 : fc_1 PRD (20, [5, 3], [50, 1, 0, 1001, 1, 2, 1, 0, 2, 1, 1]) ws (vs) := by
    refine ⟨nf_in hl rfl, sgq_859 ?_⟩
    · show v_iv (n_v vs 5) = w_fi ws (n_v vs 3) 1
      rw [q3]
      exact vc_Ne_load_at_Ne_2_0 (v_iv (n_v vs 4)) (v_iv (n_v vs 5)) (w_fi ws (n_v vs 1) 1) k5 g0 kz_1_1
  refine ⟨(fun _ h => (by cases h)), [], trivial, ?_, (fun _ h => (by cases h))⟩
  rw [List.append_nil]
  exact List.forall_mem_cons.mpr ⟨⟨show (20 : Nat) < 100 from by decide, nf0⟩, (fun _ h => (by cases h))⟩
set_option maxHeartbeats 4000000 in
theorem vc_Ne_load_at_Ne_3_0 (tail_0 : Int → Int) (head_0 : Int → Int) (near_0 : Int → Int) (nodes_0 : Int) (edges_0 : Int) (f3 : NOK (nodes_0) (edges_0) (tail_0) (head_0) (near_0)) (kz_0_5 : 0 ≤ nodes_0 ∧ nodes_0 ≤ 24) (kz_0_6 : 0 ≤ edges_0 ∧ edges_0 ≤ 72) : NOK (nodes_0) (edges_0) (tail_0) (head_0) (near_0) := by
  first
    | assumption
  
set_option maxHeartbeats 4000000 in
theorem vc_Ne_load_at_Ne_3_1 (x4 : Int) (x5 : Int) (nodes_0 : Int) (nodes_0o1 : Int) (f5 : nodes_0 = nodes_0o1) (kz_0_5 : 0 ≤ nodes_0 ∧ nodes_0 ≤ 24) (kz_1_0 : 0 ≤ nodes_0o1 ∧ nodes_0o1 ≤ 24) : nodes_0 = nodes_0o1 := by
  first
    | omega
    | (have q := (‹GKE _ _ _ _›) x4 (by omega) (by omega); omega)
    | (have q := (‹GKE _ _ _ _›) x5 (by omega) (by omega); omega)
    | (have q := (‹GKE _ _ _ _›) x6 (by omega) (by omega); omega)
set_option maxHeartbeats 4000000 in
theorem vc_Ne_load_at_Ne_3_2 (x4 : Int) (x5 : Int) (edges_0o1 : Int) (edges_0 : Int) (k4 : 0 ≤ x4 ∧ x4 ≤ 48) (k5 : 0 ≤ x5 ∧ x5 ≤ 48) (d0 : x5 + 0 ≤ x4 ∧ x4 ≤ x5 + 4294967296) (f1 : x5 = edges_0o1) (f6 : (edges_0 = x4) ∧ (x4 ≤ edges_0o1)) (kz_0_6 : 0 ≤ edges_0 ∧ edges_0 ≤ 72) (kz_1_1 : 0 ≤ edges_0o1 ∧ edges_0o1 ≤ 48) : edges_0 = edges_0o1 := by
  first
    | omega
    | (have q := (‹GKE _ _ _ _›) x4 (by omega) (by omega); omega)
    | (have q := (‹GKE _ _ _ _›) x5 (by omega) (by omega); omega)
    | (have q := (‹GKE _ _ _ _›) x6 (by omega) (by omega); omega)
def o_Ne_load_at_Ne_3 : or_T := (41, 6, [(0, (2, 0, 0, [5])), (1, (2, 0, 0, [3])), (4, (0, 0, 48, [])), (5, (0, 0, 48, []))], [(20, [5, 3], [50, 1, 0, 1001, 1, 2, 1, 0, 2, 1, 1]), (20, [2], [60, 2, 3, 595, 5, 6, 7, 8, 9]), (20, [2, 3], [50, 2, 0, 5, 1000, 1, 3, 2, 0, 5, 2, 1, 0]), (20, [2, 4, 3], [50, 2, 0, 6, 2001, 2, 7, 1, 3, 2, 0, 6, 1, 1, 0, 2, 1, 1, 2, 2, 1]), (24, [1, 3], []), (24, [0, 2], [])], [], [], [(20, [0], [60, 2, 3, 595, 5, 6, 7, 8, 9]), (20, [0, 1], [50, 2, 0, 5, 1000, 1, 3, 2, 0, 5, 2, 1, 0]), (20, [0, 1], [50, 2, 0, 6, 1001, 1, 3, 2, 0, 6, 2, 1, 1])], [], [(4, 5, 0, 4294967296)])
theorem oo_Ne_load_at_Ne_3 {kA : Nat → ClassId} : or_ok PRD kA GG o_Ne_load_at_Ne_3 := by
  refine or_mk fun A ta ws vs hD hth hl => ?_
  intro t0 r0 t1 r1 t4 k4 t5 k5 d0 f1 f3 f5 f6 f7 f8
  replace f1 := shm_859 f1
  replace f3 := shm_408 f3
  replace f5 := shm_1177 f5
  replace f6 := shm_1204 f6
  replace f7 := shm_5 f7
  replace f8 := shm_5 f8
  have q3 : n_v vs 3 = n_v vs 1 := f7.symm
  have q2 : n_v vs 2 = n_v vs 0 := f8.symm
  simp only [q3, q2] at f1 f3 f5 f6
  have kz_0_5 := fdq_82 hD hth r0
  have kz_0_6 := fdq_59 hD hth r0
  have kz_1_0 := fdq_21 hD hth r1
  have kz_1_1 := fdq_30 hD hth r1
  have nf0 : fc_1 PRD (20, [0], [60, 2, 3, 595, 5, 6, 7, 8, 9]) ws (vs) := ⟨nf_in hl rfl, sgq_408 (vc_Ne_load_at_Ne_3_0 (w_ei ws (w_ar ws (n_v vs 0) 7)) (w_ei ws (w_ar ws (n_v vs 0) 8)) (w_ei ws (w_ar ws (n_v vs 0) 9)) (w_fi ws (n_v vs 0) 5) (w_fi ws (n_v vs 0) 6) f3 kz_0_5 kz_0_6)⟩
  have nf1 : fc_1 PRD (20, [0, 1], [50, 2, 0, 5, 1000, 1, 3, 2, 0, 5, 2, 1, 0]) ws (vs) := ⟨nf_in hl rfl, sgq_1177 (vc_Ne_load_at_Ne_3_1 (v_iv (n_v vs 4)) (v_iv (n_v vs 5)) (w_fi ws (n_v vs 0) 5) (w_fi ws (n_v vs 1) 0) f5 kz_0_5 kz_1_0)⟩
  have nf2 : fc_1 PRD (20, [0, 1], [50, 2, 0, 6, 1001, 1, 3, 2, 0, 6, 2, 1, 1]) ws (vs) := ⟨nf_in hl rfl, sgq_1205 (vc_Ne_load_at_Ne_3_2 (v_iv (n_v vs 4)) (v_iv (n_v vs 5)) (w_fi ws (n_v vs 1) 1) (w_fi ws (n_v vs 0) 6) k4 k5 d0 f1 f6 kz_0_6 kz_1_1)⟩
  refine ⟨(fun _ h => (by cases h)), [], trivial, ?_, (fun _ h => (by cases h))⟩
  rw [List.append_nil]
  exact List.forall_mem_cons.mpr ⟨⟨show (20 : Nat) < 100 from by decide, nf0⟩, List.forall_mem_cons.mpr ⟨⟨show (20 : Nat) < 100 from by decide, nf1⟩, List.forall_mem_cons.mpr ⟨⟨show (20 : Nat) < 100 from by decide, nf2⟩, (fun _ h => (by cases h))⟩⟩⟩
set_option maxHeartbeats 4000000 in
theorem vc_Ne_load_at_Ne_4_0 (tail_0 : Int → Int) (head_0 : Int → Int) (near_0 : Int → Int) (nodes_0 : Int) (edges_0 : Int) (f7 : NOK (nodes_0) (edges_0) (tail_0) (head_0) (near_0)) (kz_0_5 : 0 ≤ nodes_0 ∧ nodes_0 ≤ 24) (kz_0_6 : 0 ≤ edges_0 ∧ edges_0 ≤ 72) : NOK (nodes_0) (edges_0) (tail_0) (head_0) (near_0) := by
  first
    | assumption
  
set_option maxHeartbeats 4000000 in
theorem vc_Ne_load_at_Ne_4_1 (x4 : Int) (x5 : Int) (x7 : Int) (head_0o1 : Int → Int) (tail_0o1 : Int → Int) (edges_0o1 : Int) (nodes_0 : Int) (edges_0 : Int) (nodes_0o1 : Int) (gx : Int) (k4 : 0 ≤ x4 ∧ x4 ≤ 47) (k5 : 1 ≤ x5 ∧ x5 ≤ 48) (k7 : 0 ≤ x7 ∧ x7 ≤ 23) (d0 : x5 + (-4294967296) ≤ x4 ∧ x4 ≤ x5 + (-1)) (h2 : x7 = tail_0o1 (x4)) (f5 : x5 = edges_0o1) (f8 : GKE (nodes_0o1) (edges_0o1) (tail_0o1) (head_0o1)) (f9 : nodes_0 = nodes_0o1) (f10 : (edges_0 = x4) ∧ (x4 ≤ edges_0o1)) (kz_0_5 : 0 ≤ nodes_0 ∧ nodes_0 ≤ 24) (kz_0_6 : 0 ≤ edges_0 ∧ edges_0 ≤ 72) (kz_1_0 : 0 ≤ nodes_0o1 ∧ nodes_0o1 ≤ 24) (kz_1_1 : 0 ≤ edges_0o1 ∧ edges_0o1 ≤ 48) (ex2 : gx = edges_0) : (0 ≤ x7) ∧ ((x7 + 1) ≤ nodes_0) := by
  first
    | omega
    | (have q := (‹GKE _ _ _ _›) x4 (by omega) (by omega); omega)
    | (have q := (‹GKE _ _ _ _›) x5 (by omega) (by omega); omega)
    | (have q := (‹GKE _ _ _ _›) x6 (by omega) (by omega); omega)
set_option maxHeartbeats 4000000 in
theorem vc_Ne_load_at_Ne_4_2 (x4 : Int) (x5 : Int) (x9 : Int) (head_0o1 : Int → Int) (tail_0o1 : Int → Int) (edges_0o1 : Int) (nodes_0 : Int) (edges_0 : Int) (nodes_0o1 : Int) (gx : Int) (k4 : 0 ≤ x4 ∧ x4 ≤ 47) (k5 : 1 ≤ x5 ∧ x5 ≤ 48) (k9 : 0 ≤ x9 ∧ x9 ≤ 23) (d0 : x5 + (-4294967296) ≤ x4 ∧ x4 ≤ x5 + (-1)) (h0 : x9 = head_0o1 (x4)) (f5 : x5 = edges_0o1) (f8 : GKE (nodes_0o1) (edges_0o1) (tail_0o1) (head_0o1)) (f9 : nodes_0 = nodes_0o1) (f10 : (edges_0 = x4) ∧ (x4 ≤ edges_0o1)) (kz_0_5 : 0 ≤ nodes_0 ∧ nodes_0 ≤ 24) (kz_0_6 : 0 ≤ edges_0 ∧ edges_0 ≤ 72) (kz_1_0 : 0 ≤ nodes_0o1 ∧ nodes_0o1 ≤ 24) (kz_1_1 : 0 ≤ edges_0o1 ∧ edges_0o1 ≤ 48) (ex2 : gx = edges_0) : (0 ≤ x9) ∧ ((x9 + 1) ≤ nodes_0) := by
  first
    | omega
    | (have q := (‹GKE _ _ _ _›) x4 (by omega) (by omega); omega)
    | (have q := (‹GKE _ _ _ _›) x5 (by omega) (by omega); omega)
    | (have q := (‹GKE _ _ _ _›) x6 (by omega) (by omega); omega)
set_option maxHeartbeats 4000000 in
theorem vc_Ne_load_at_Ne_4_3 (x4 : Int) (x5 : Int) (x7 : Int) (x9 : Int) (head_0o1 : Int → Int) (tail_0o1 : Int → Int) (edges_0o1 : Int) (edges_0 : Int) (nodes_0o1 : Int) (gx : Int) (k4 : 0 ≤ x4 ∧ x4 ≤ 47) (k5 : 1 ≤ x5 ∧ x5 ≤ 48) (k7 : 0 ≤ x7 ∧ x7 ≤ 23) (k9 : 0 ≤ x9 ∧ x9 ≤ 23) (d0 : x5 + (-4294967296) ≤ x4 ∧ x4 ≤ x5 + (-1)) (h0 : x9 = head_0o1 (x4)) (h2 : x7 = tail_0o1 (x4)) (f5 : x5 = edges_0o1) (f8 : GKE (nodes_0o1) (edges_0o1) (tail_0o1) (head_0o1)) (f10 : (edges_0 = x4) ∧ (x4 ≤ edges_0o1)) (kz_0_6 : 0 ≤ edges_0 ∧ edges_0 ≤ 72) (kz_1_0 : 0 ≤ nodes_0o1 ∧ nodes_0o1 ≤ 24) (kz_1_1 : 0 ≤ edges_0o1 ∧ edges_0o1 ≤ 48) (ex2 : gx = edges_0) : x7 ≠ x9 := by
  first
    | omega
    | (have q := (‹GKE _ _ _ _›) x4 (by omega) (by omega); omega)
    | (have q := (‹GKE _ _ _ _›) x5 (by omega) (by omega); omega)
    | (have q := (‹GKE _ _ _ _›) x6 (by omega) (by omega); omega)
set_option maxHeartbeats 4000000 in
theorem vc_Ne_load_at_Ne_4_4 (x4 : Int) (x5 : Int) (edges_0 : Int) (gx : Int) (kz_0_6 : 0 ≤ edges_0 ∧ edges_0 ≤ 72) (ex2 : gx = edges_0) : edges_0 = gx := by
  first
    | omega
    | (have q := (‹GKE _ _ _ _›) x4 (by omega) (by omega); omega)
    | (have q := (‹GKE _ _ _ _›) x5 (by omega) (by omega); omega)
    | (have q := (‹GKE _ _ _ _›) x6 (by omega) (by omega); omega)
set_option maxHeartbeats 4000000 in
theorem vc_Ne_load_at_Ne_4_5 (x4 : Int) (x5 : Int) (edges_0o1 : Int) (edges_0 : Int) (gx : Int) (k4 : 0 ≤ x4 ∧ x4 ≤ 47) (f10 : (edges_0 = x4) ∧ (x4 ≤ edges_0o1)) (kz_0_6 : 0 ≤ edges_0 ∧ edges_0 ≤ 72) (kz_1_1 : 0 ≤ edges_0o1 ∧ edges_0o1 ≤ 48) (ex2 : gx = edges_0) : gx = x4 := by
  first
    | omega
    | (have q := (‹GKE _ _ _ _›) x4 (by omega) (by omega); omega)
    | (have q := (‹GKE _ _ _ _›) x5 (by omega) (by omega); omega)
    | (have q := (‹GKE _ _ _ _›) x6 (by omega) (by omega); omega)
def o_Ne_load_at_Ne_4 : or_T := (31, 10, [(0, (2, 0, 0, [5])), (1, (2, 0, 0, [3])), (4, (0, 0, 47, [])), (5, (0, 1, 48, [])), (7, (0, 0, 23, [])), (9, (0, 0, 23, []))], [(10, [9, 8, 4], []), (9, [8, 3], [8]), (10, [7, 6, 4], []), (9, [6, 3], [7]), (20, [5, 3], [50, 1, 0, 1001, 1, 2, 1, 0, 2, 1, 1]), (20, [2], [60, 2, 3, 595, 5, 6, 7, 8, 9]), (20, [3], [60, 2, 2, 596, 0, 1, 7, 8]), (20, [2, 3], [50, 2, 0, 5, 1000, 1, 3, 2, 0, 5, 2, 1, 0]), (20, [2, 4, 3], [50, 2, 0, 6, 2001, 2, 7, 1, 3, 2, 0, 6, 1, 1, 0, 2, 1, 1, 2, 2, 1]), (24, [1, 3], []), (24, [0, 2], [])], [], [(0, 0, 72, [])], [(20, [2], [60, 2, 3, 595, 5, 6, 7, 8, 9]), (20, [7, 2], [50, 1, 0, 1005, 2, 6, 0, 2, 0, 0, 1, 0, 0, 6, 4, 2, 1, 0, 0, 1, 2, 1, 5]), (20, [9, 2], [50, 1, 0, 1005, 2, 6, 0, 2, 0, 0, 1, 0, 0, 6, 4, 2, 1, 0, 0, 1, 2, 1, 5]), (20, [7, 9], [50, 0, 0, 7, 2, 1, 0, 1, 1]), (20, [2, 10], [50, 1, 0, 6, 1, 3, 2, 0, 6, 1, 1]), (20, [10, 4], [50, 0, 0, 1, 2, 1, 0, 1, 1])], [], [(4, 5, -4294967296, -1)])
theorem oo_Ne_load_at_Ne_4 {kA : Nat → ClassId} : or_ok PRD kA GG o_Ne_load_at_Ne_4 := by
  refine or_mk fun A ta ws vs hD hth hl => ?_
  intro t0 r0 t1 r1 t4 k4 t5 k5 t7 k7 t9 k9 d0 f0 f1 f2 f3 f5 f7 f8 f9 f10 f11 f12
  replace f0 := shm_107 f0
  replace f1 := shm_293 f1
  replace f2 := shm_107 f2
  replace f3 := shm_198 f3
  replace f5 := shm_859 f5
  replace f7 := shm_408 f7
  replace f8 := shm_386 f8
  replace f9 := shm_1177 f9
  replace f10 := shm_1204 f10
  replace f11 := shm_5 f11
  replace f12 := shm_5 f12
  have q3 : n_v vs 3 = n_v vs 1 := f11.symm
  have q2 : n_v vs 2 = n_v vs 0 := f12.symm
  simp only [q3, q2] at f1 f3 f5 f7 f8 f9 f10
  have ad_8 : v_ad (n_v vs 8) = w_ar ws (n_v vs 1) 8 := congrArg v_ad f1
  have ad_6 : v_ad (n_v vs 6) = w_ar ws (n_v vs 1) 7 := congrArg v_ad f3
  simp only [ad_8] at f0
  have h0 : v_iv (n_v vs 9) = w_ei ws (w_ar ws (n_v vs 1) 8) (v_iv (n_v vs 4)) := f0
  simp only [ad_6] at f2
  have h2 : v_iv (n_v vs 7) = w_ei ws (w_ar ws (n_v vs 1) 7) (v_iv (n_v vs 4)) := f2
  have kz_0_5 := fdq_82 hD hth r0
  have kz_0_6 := fdq_59 hD hth r0
  have kz_1_0 := fdq_21 hD hth r1
  have kz_1_1 := fdq_30 hD hth r1
  obtain ⟨x, ex, hx⟩ := iv_ex (ta := ta) (lo := 0) (hi := 72) (z := w_fi ws (n_v vs 0) 6) (by omega) (by omega) (by omega) (by omega)
  have ex2 : v_iv (Value.int x) = w_fi ws (n_v vs 0) 6 := ex
  have ex3 : 0 ≤ v_iv (Value.int x) ∧ v_iv (Value.int x) ≤ 72 := tv_rng hx
  have e_2 : n_v (vs ++ [Value.int x]) 2 = n_v vs 2 := n_v_old (by rw [hl]; decide)
  have e_4 : n_v (vs ++ [Value.int x]) 4 = n_v vs 4 := n_v_old (by rw [hl]; decide)
  have e_7 : n_v (vs ++ [Value.int x]) 7 = n_v vs 7 := n_v_old (by rw [hl]; decide)
  have e_9 : n_v (vs ++ [Value.int x]) 9 = n_v vs 9 := n_v_old (by rw [hl]; decide)
  have e_10 : n_v (vs ++ [Value.int x]) 10 = Value.int x := n_v_new hl
  have nf0 : fc_1 PRD (20, [2], [60, 2, 3, 595, 5, 6, 7, 8, 9]) ws (vs ++ [Value.int x]) := by
    refine ⟨nf_inA hl rfl, sgq_408 ?_⟩
    · show NOK (w_fi ws (n_v (vs ++ [Value.int x]) 2) 5) (w_fi ws (n_v (vs ++ [Value.int x]) 2) 6) (w_ei ws (w_ar ws (n_v (vs ++ [Value.int x]) 2) 7)) (w_ei ws (w_ar ws (n_v (vs ++ [Value.int x]) 2) 8)) (w_ei ws (w_ar ws (n_v (vs ++ [Value.int x]) 2) 9))
      simp only [e_2, q2]
      exact vc_Ne_load_at_Ne_4_0 (w_ei ws (w_ar ws (n_v vs 0) 7)) (w_ei ws (w_ar ws (n_v vs 0) 8)) (w_ei ws (w_ar ws (n_v vs 0) 9)) (w_fi ws (n_v vs 0) 5) (w_fi ws (n_v vs 0) 6) f7 kz_0_5 kz_0_6
  have nf1 : fc_1 PRD (20, [7, 2], [50, 1, 0, 1005, 2, 6, 0, 2, 0, 0, 1, 0, 0, 6, 4, 2, 1, 0, 0, 1, 2, 1, 5]) ws (vs ++ [Value.int x]) := by
    refine ⟨nf_inA hl rfl, sgq_405 ?_⟩
    · show (0 ≤ v_iv (n_v (vs ++ [Value.int x]) 7)) ∧ ((v_iv (n_v (vs ++ [Value.int x]) 7) + 1) ≤ w_fi ws (n_v (vs ++ [Value.int x]) 2) 5)
      simp only [e_2, e_7, q2]
      exact vc_Ne_load_at_Ne_4_1 (v_iv (n_v vs 4)) (v_iv (n_v vs 5)) (v_iv (n_v vs 7)) (w_ei ws (w_ar ws (n_v vs 1) 8)) (w_ei ws (w_ar ws (n_v vs 1) 7)) (w_fi ws (n_v vs 1) 1) (w_fi ws (n_v vs 0) 5) (w_fi ws (n_v vs 0) 6) (w_fi ws (n_v vs 1) 0) (v_iv (Value.int x)) k4 k5 k7 d0 h2 f5 f8 f9 f10 kz_0_5 kz_0_6 kz_1_0 kz_1_1 ex2
  have nf2 : fc_1 PRD (20, [9, 2], [50, 1, 0, 1005, 2, 6, 0, 2, 0, 0, 1, 0, 0, 6, 4, 2, 1, 0, 0, 1, 2, 1, 5]) ws (vs ++ [Value.int x]) := by
    refine ⟨nf_inA hl rfl, sgq_405 ?_⟩
    · show (0 ≤ v_iv (n_v (vs ++ [Value.int x]) 9)) ∧ ((v_iv (n_v (vs ++ [Value.int x]) 9) + 1) ≤ w_fi ws (n_v (vs ++ [Value.int x]) 2) 5)
      simp only [e_2, e_9, q2]
      exact vc_Ne_load_at_Ne_4_2 (v_iv (n_v vs 4)) (v_iv (n_v vs 5)) (v_iv (n_v vs 9)) (w_ei ws (w_ar ws (n_v vs 1) 8)) (w_ei ws (w_ar ws (n_v vs 1) 7)) (w_fi ws (n_v vs 1) 1) (w_fi ws (n_v vs 0) 5) (w_fi ws (n_v vs 0) 6) (w_fi ws (n_v vs 1) 0) (v_iv (Value.int x)) k4 k5 k9 d0 h0 f5 f8 f9 f10 kz_0_5 kz_0_6 kz_1_0 kz_1_1 ex2
  have nf3 : fc_1 PRD (20, [7, 9], [50, 0, 0, 7, 2, 1, 0, 1, 1]) ws (vs ++ [Value.int x]) := by
    refine ⟨nf_inA hl rfl, sgq_406 ?_⟩
    · show v_iv (n_v (vs ++ [Value.int x]) 7) ≠ v_iv (n_v (vs ++ [Value.int x]) 9)
      simp only [e_7, e_9]
      exact vc_Ne_load_at_Ne_4_3 (v_iv (n_v vs 4)) (v_iv (n_v vs 5)) (v_iv (n_v vs 7)) (v_iv (n_v vs 9)) (w_ei ws (w_ar ws (n_v vs 1) 8)) (w_ei ws (w_ar ws (n_v vs 1) 7)) (w_fi ws (n_v vs 1) 1) (w_fi ws (n_v vs 0) 6) (w_fi ws (n_v vs 1) 0) (v_iv (Value.int x)) k4 k5 k7 k9 d0 h0 h2 f5 f8 f10 kz_0_6 kz_1_0 kz_1_1 ex2
  have nf4 : fc_1 PRD (20, [2, 10], [50, 1, 0, 6, 1, 3, 2, 0, 6, 1, 1]) ws (vs ++ [Value.int x]) := by
    refine ⟨nf_inA hl rfl, sgq_407 ?_⟩
    · show w_fi ws (n_v (vs ++ [Value.int x]) 2) 6 = v_iv (n_v (vs ++ [Value.int x]) 10)
      simp only [e_2, e_10, q2]
      exact vc_Ne_load_at_Ne_4_4 (v_iv (n_v vs 4)) (v_iv (n_v vs 5)) (w_fi ws (n_v vs 0) 6) (v_iv (Value.int x)) kz_0_6 ex2
  have nf5 : fc_1 PRD (20, [10, 4], [50, 0, 0, 1, 2, 1, 0, 1, 1]) ws (vs ++ [Value.int x]) := by
    refine ⟨nf_inA hl rfl, sgq_48 ?_⟩
    · show v_iv (n_v (vs ++ [Value.int x]) 10) = v_iv (n_v (vs ++ [Value.int x]) 4)
      simp only [e_4, e_10]
      exact vc_Ne_load_at_Ne_4_5 (v_iv (n_v vs 4)) (v_iv (n_v vs 5)) (w_fi ws (n_v vs 1) 1) (w_fi ws (n_v vs 0) 6) (v_iv (Value.int x)) k4 f10 kz_0_6 kz_1_1 ex2
  exact ⟨(fun _ h => (by cases h)), [Value.int x], ag_one hx, List.forall_mem_cons.mpr ⟨⟨show (20 : Nat) < 100 from by decide, nf0⟩, List.forall_mem_cons.mpr ⟨⟨show (20 : Nat) < 100 from by decide, nf1⟩, List.forall_mem_cons.mpr ⟨⟨show (20 : Nat) < 100 from by decide, nf2⟩, List.forall_mem_cons.mpr ⟨⟨show (20 : Nat) < 100 from by decide, nf3⟩, List.forall_mem_cons.mpr ⟨⟨show (20 : Nat) < 100 from by decide, nf4⟩, List.forall_mem_cons.mpr ⟨⟨show (20 : Nat) < 100 from by decide, nf5⟩, (fun _ h => (by cases h))⟩⟩⟩⟩⟩⟩, (fun _ h => (by cases h))⟩
set_option maxHeartbeats 4000000 in
theorem vc_Ne_load_at_Ne_5_0 (x4 : Int) (x5 : Int) (x10 : Int) (x12 : Int) (edges_0o1 : Int) (edges_0 : Int) (k4 : 0 ≤ x4 ∧ x4 ≤ 47) (k5 : 1 ≤ x5 ∧ x5 ≤ 48) (k10 : 0 ≤ x10 ∧ x10 ≤ 72) (k12 : 1 ≤ x12 ∧ x12 ≤ 48) (d0 : x4 + 1 ≤ x12 ∧ x12 ≤ x4 + 1) (d1 : x5 + (-4294967296) ≤ x12 ∧ x12 ≤ x5 + 0) (d2 : x5 + (-4294967296) ≤ x4 ∧ x4 ≤ x5 + (-1)) (f4 : x10 = x4) (f5 : x5 = edges_0o1) (f11 : (72 ≤ x10) ∨ (edges_0 = (x10 + 1))) (kz_0_6 : 0 ≤ edges_0 ∧ edges_0 ≤ 72) (kz_1_1 : 0 ≤ edges_0o1 ∧ edges_0o1 ≤ 48) : (edges_0 = x12) ∧ (x12 ≤ edges_0o1) := by
  first
    | omega
    | (have q := (‹GKE _ _ _ _›) x4 (by omega) (by omega); omega)
    | (have q := (‹GKE _ _ _ _›) x5 (by omega) (by omega); omega)
    | (have q := (‹GKE _ _ _ _›) x6 (by omega) (by omega); omega)
def o_Ne_load_at_Ne_5 : or_T := (10, 13, [(0, (2, 0, 0, [5])), (1, (2, 0, 0, [3])), (4, (0, 0, 47, [])), (5, (0, 1, 48, [])), (10, (0, 0, 72, [])), (12, (0, 1, 48, []))], [(20, [10, 4], [50, 0, 0, 1, 2, 1, 0, 1, 1]), (20, [5, 3], [50, 1, 0, 1001, 1, 2, 1, 0, 2, 1, 1]), (24, [1, 3], []), (24, [0, 2], []), (20, [10, 2], [50, 1, 0, 1006, 3, 6, 0, 2, 0, 72, 1, 0, 1, 3, 2, 1, 6, 4, 2, 1, 0, 0, 1])], [], [], [(20, [2, 12, 3], [50, 2, 0, 6, 2001, 2, 7, 1, 3, 2, 0, 6, 1, 1, 0, 2, 1, 1, 2, 2, 1])], [], [(12, 4, 1, 1), (12, 5, -4294967296, 0), (4, 5, -4294967296, -1)])
theorem oo_Ne_load_at_Ne_5 {kA : Nat → ClassId} : or_ok PRD kA GG o_Ne_load_at_Ne_5 := by
  refine or_mk fun A ta ws vs hD hth hl => ?_
  intro t0 r0 t1 r1 t4 k4 t5 k5 t10 k10 t12 k12 d0 d1 d2 f4 f5 f8 f9 f11
  replace f4 := shm_48 f4
  replace f5 := shm_859 f5
  replace f8 := shm_5 f8
  replace f9 := shm_5 f9
  replace f11 := shm_409 f11
  have q3 : n_v vs 3 = n_v vs 1 := f8.symm
  have q2 : n_v vs 2 = n_v vs 0 := f9.symm
  simp only [q2, q3] at f5 f11
  have kz_0_6 := fdq_59 hD hth r0
  have kz_1_1 := fdq_30 hD hth r1
  have nf0 : fc_1 PRD (20, [2, 12, 3], [50, 2, 0, 6, 2001, 2, 7, 1, 3, 2, 0, 6, 1, 1, 0, 2, 1, 1, 2, 2, 1]) ws (vs) := by
    refine ⟨nf_in hl rfl, sgq_1204 ?_⟩
    · show (w_fi ws (n_v vs 2) 6 = v_iv (n_v vs 12)) ∧ (v_iv (n_v vs 12) ≤ w_fi ws (n_v vs 3) 1)
      simp only [q3, q2]
      exact vc_Ne_load_at_Ne_5_0 (v_iv (n_v vs 4)) (v_iv (n_v vs 5)) (v_iv (n_v vs 10)) (v_iv (n_v vs 12)) (w_fi ws (n_v vs 1) 1) (w_fi ws (n_v vs 0) 6) k4 k5 k10 k12 d0 d1 d2 f4 f5 f11 kz_0_6 kz_1_1
  refine ⟨(fun _ h => (by cases h)), [], trivial, ?_, (fun _ h => (by cases h))⟩
  rw [List.append_nil]
  exact List.forall_mem_cons.mpr ⟨⟨show (20 : Nat) < 100 from by decide, nf0⟩, (fun _ h => (by cases h))⟩
def n_Ne_load_at_Ne_an : List an_T := [(10, [(0, (2, 0, 0, [5])), (1, (2, 0, 0, [3])), (2, (0, 0, 48, []))], [], (0, 0), [(0, 0, 99990), (1, 4, 48), (0, 0, 100000)], [], [], [(2, 0, 0, [5]), (2, 0, 0, [3])], 0, [], [(20, [2], [60, 2, 3, 595, 5, 6, 7, 8, 9]), (20, [3], [60, 2, 2, 596, 0, 1, 7, 8]), (20, [2, 3], [50, 2, 0, 5, 1000, 1, 3, 2, 0, 5, 2, 1, 0]), (20, [2, 4, 3], [50, 2, 0, 6, 2001, 2, 7, 1, 3, 2, 0, 6, 1, 1, 0, 2, 1, 1, 2, 2, 1]), (24, [1, 3], []), (24, [0, 2], []), (24, [1, 3], [])])]
def t_Ne_load_at_Ne_ct : ct_L := [(19, 73, e_Ne_begin_at_Ne), (97, 80, e_Ne_join_at_Ne_gk)]
set_option maxRecDepth 100000 in
theorem c_Ne_load_at_Ne {l : Launch} {D : va_G} {kA : Nat → ClassId} (h_Ne_begin_at_Ne : ct_ok PRD l D kA GG y_Ne_begin_at_Ne z_Ne_begin_at_Ne e_Ne_begin_at_Ne) (h_Ne_join_at_Ne_gk : ct_ok PRD l D kA GG y_Ne_join_at_Ne_gk z_Ne_join_at_Ne_gk e_Ne_join_at_Ne_gk) : ct_ok PRD l D kA GG y_Ne_load_at_Ne z_Ne_load_at_Ne e_Ne_load_at_Ne := chk_all_ok (FT := [(70, 3, 0), (77, 3, 1), (78, 3, 7), (79, 3, 8)]) (PT := []) (CT := t_Ne_load_at_Ne_ct) (KT := []) (NT := []) (AN := n_Ne_load_at_Ne_an) (OT := [o_Ne_load_at_Ne_0, o_Ne_load_at_Ne_1, o_Ne_load_at_Ne_2, o_Ne_load_at_Ne_3, o_Ne_load_at_Ne_4, o_Ne_load_at_Ne_5]) 3 200 (List.forall_mem_cons.mpr ⟨oo_Ne_load_at_Ne_0, List.forall_mem_cons.mpr ⟨oo_Ne_load_at_Ne_1, List.forall_mem_cons.mpr ⟨oo_Ne_load_at_Ne_2, List.forall_mem_cons.mpr ⟨oo_Ne_load_at_Ne_3, List.forall_mem_cons.mpr ⟨oo_Ne_load_at_Ne_4, List.forall_mem_cons.mpr ⟨oo_Ne_load_at_Ne_5, List.forall_mem_nil _⟩⟩⟩⟩⟩⟩) (by decide +kernel) ⟨List.forall_mem_cons.mpr ⟨gf_Ne_70, List.forall_mem_cons.mpr ⟨gf_Ne_77, List.forall_mem_cons.mpr ⟨gf_Ne_78, List.forall_mem_cons.mpr ⟨gf_Ne_79, List.forall_mem_nil _⟩⟩⟩⟩, List.forall_mem_nil _, List.forall_mem_cons.mpr ⟨cl_virtual (y := y_Ne_begin_at_Ne) (ci := 5) rfl rfl ⟨_, _, rfl⟩ (by decide +kernel) h_Ne_begin_at_Ne wm_1060 wm_6 wm_1057 wm_1058 wm_1059 ⟨by decide, by decide, by decide +kernel⟩ (by decide), List.forall_mem_cons.mpr ⟨cl_virtual (y := y_Ne_join_at_Ne_gk) (ci := 5) rfl rfl ⟨_, _, rfl⟩ (by decide +kernel) h_Ne_join_at_Ne_gk wm_1065 wm_6 wm_1062 wm_1063 wm_1064 ⟨by decide, by decide, by decide +kernel⟩ (by decide), List.forall_mem_nil _⟩⟩, List.forall_mem_nil _, List.forall_mem_nil _, GG_pl⟩ (by decide +kernel)
set_option maxHeartbeats 4000000 in
theorem vc_Ne_load_at_Np_0_0 (x2 : Int) (nodes_0o1 : Int) (k2 : 0 ≤ x2 ∧ x2 ≤ 24) (g0 : x2 = nodes_0o1) (kz_1_0 : 0 ≤ nodes_0o1 ∧ nodes_0o1 ≤ 24) : x2 = nodes_0o1 := by
  first
    | omega
    | (have q := (‹GKE _ _ _ _›) x4 (by omega) (by omega); omega)
    | (have q := (‹GKE _ _ _ _›) x5 (by omega) (by omega); omega)
    | (have q := (‹GKE _ _ _ _›) x6 (by omega) (by omega); omega)
def o_Ne_load_at_Np_0 : or_T := (5, 3, [(1, (2, 0, 0, [3])), (2, (0, 0, 24, []))], [(9, [2, 1], [0])], [], [], [(20, [2, 1], [50, 1, 0, 1000, 1, 2, 1, 0, 2, 1, 0])], [], [])
theorem oo_Ne_load_at_Np_0 {kA : Nat → ClassId} : or_ok PRD kA GG o_Ne_load_at_Np_0 := by
  refine or_mk fun A ta ws vs hD hth hl => ?_
  intro t1 r1 t2 k2 f0
  replace f0 := shm_163 f0
  have g0 : v_iv (n_v vs 2) = w_fi ws (n_v vs 1) 0 := congrArg v_iv f0
  have kz_1_0 := fdq_21 hD hth r1
  have nf0 : fc_1 PRD (20, [2, 1], [50, 1, 0, 1000, 1, 2, 1, 0, 2, 1, 0]) ws (vs) := ⟨nf_in hl rfl, sgq_836 (vc_Ne_load_at_Np_0_0 (v_iv (n_v vs 2)) (w_fi ws (n_v vs 1) 0) k2 g0 kz_1_0)⟩
  refine ⟨(fun _ h => (by cases h)), [], trivial, ?_, (fun _ h => (by cases h))⟩
  rw [List.append_nil]
  exact List.forall_mem_cons.mpr ⟨⟨show (20 : Nat) < 100 from by decide, nf0⟩, (fun _ h => (by cases h))⟩
set_option maxHeartbeats 4000000 in
theorem vc_Ne_load_at_Np_1_0 (x2 : Int) (nodes_0o1 : Int) (nodes_0 : Int) (k2 : 0 ≤ x2 ∧ x2 ≤ 24) (f0 : x2 = nodes_0o1) (f3 : nodes_0 = x2) (kz_0_5 : 0 ≤ nodes_0 ∧ nodes_0 ≤ 25) (kz_1_0 : 0 ≤ nodes_0o1 ∧ nodes_0o1 ≤ 24) : nodes_0 = nodes_0o1 := by
  first
    | omega
    | (have q := (‹GKE _ _ _ _›) x4 (by omega) (by omega); omega)
    | (have q := (‹GKE _ _ _ _›) x5 (by omega) (by omega); omega)
    | (have q := (‹GKE _ _ _ _›) x6 (by omega) (by omega); omega)
set_option maxHeartbeats 4000000 in
theorem vc_Ne_load_at_Np_1_1 (x3 : Int) (edges_0o1 : Int) (edges_0 : Int) (k3 : 0 ≤ x3 ∧ x3 ≤ 0) (f4 : edges_0 = 0) (kz_0_6 : 0 ≤ edges_0 ∧ edges_0 ≤ 72) (kz_1_1 : 0 ≤ edges_0o1 ∧ edges_0o1 ≤ 48) : (edges_0 = x3) ∧ (x3 ≤ edges_0o1) := by
  first
    | omega
    | (have q := (‹GKE _ _ _ _›) x4 (by omega) (by omega); omega)
    | (have q := (‹GKE _ _ _ _›) x5 (by omega) (by omega); omega)
    | (have q := (‹GKE _ _ _ _›) x6 (by omega) (by omega); omega)
def o_Ne_load_at_Np_1 : or_T := (10, 4, [(0, (2, 0, 0, [149])), (1, (2, 0, 0, [3])), (2, (0, 0, 24, [])), (3, (0, 0, 0, []))], [(20, [2, 1], [50, 1, 0, 1000, 1, 2, 1, 0, 2, 1, 0]), (20, [0, 2], [50, 1, 0, 5, 1, 3, 2, 0, 5, 1, 1]), (20, [0], [50, 1, 0, 6, 1, 3, 2, 0, 6, 0, 0])], [], [], [(20, [0, 1], [50, 2, 0, 5, 1000, 1, 3, 2, 0, 5, 2, 1, 0]), (20, [0, 3, 1], [50, 2, 0, 6, 2001, 2, 7, 1, 3, 2, 0, 6, 1, 1, 0, 2, 1, 1, 2, 2, 1]), (24, [1, 1], []), (24, [0, 0], []), (24, [1, 1], [])], [], [])
theorem oo_Ne_load_at_Np_1 {kA : Nat → ClassId} : or_ok PRD kA GG o_Ne_load_at_Np_1 := by
  refine or_mk fun A ta ws vs hD hth hl => ?_
  intro t0 r0 t1 r1 t2 k2 t3 k3 f0 f3 f4
  have kz_0_5 := fdq_85 hD hth r0
  have kz_0_6 := fdq_62 hD hth r0
  have kz_1_0 := fdq_21 hD hth r1
  have kz_1_1 := fdq_30 hD hth r1
  have nf0 : fc_1 PRD (20, [0, 1], [50, 2, 0, 5, 1000, 1, 3, 2, 0, 5, 2, 1, 0]) ws (vs) := ⟨nf_in hl rfl, sgq_1177 (vc_Ne_load_at_Np_1_0 (v_iv (n_v vs 2)) (w_fi ws (n_v vs 1) 0) (w_fi ws (n_v vs 0) 5) k2 (shm_836 f0) (shm_881 f3) kz_0_5 kz_1_0)⟩
  have nf1 : fc_1 PRD (20, [0, 3, 1], [50, 2, 0, 6, 2001, 2, 7, 1, 3, 2, 0, 6, 1, 1, 0, 2, 1, 1, 2, 2, 1]) ws (vs) := ⟨nf_in hl rfl, sgq_1204 (vc_Ne_load_at_Np_1_1 (v_iv (n_v vs 3)) (w_fi ws (n_v vs 1) 1) (w_fi ws (n_v vs 0) 6) k3 (shm_882 f4) kz_0_6 kz_1_1)⟩
  have nf2 : fc_1 PRD (24, [1, 1], []) ws (vs) := by
    refine ⟨nf_in hl rfl, sgq_1 ?_⟩
    · show n_v vs 1 = n_v vs 1
      first | rfl | simp only [true_and]
  have nf3 : fc_1 PRD (24, [0, 0], []) ws (vs) := by
    refine ⟨nf_in hl rfl, sgq_1 ?_⟩
    · show n_v vs 0 = n_v vs 0
      first | rfl | simp only [true_and]
  have nf4 : fc_1 PRD (24, [1, 1], []) ws (vs) := by
    refine ⟨nf_in hl rfl, sgq_1 ?_⟩
    · show n_v vs 1 = n_v vs 1
      first | rfl | simp only [true_and]
  refine ⟨(fun _ h => (by cases h)), [], trivial, ?_, (fun _ h => (by cases h))⟩
  rw [List.append_nil]
  exact List.forall_mem_cons.mpr ⟨⟨show (20 : Nat) < 100 from by decide, nf0⟩, List.forall_mem_cons.mpr ⟨⟨show (20 : Nat) < 100 from by decide, nf1⟩, List.forall_mem_cons.mpr ⟨⟨show (24 : Nat) < 100 from by decide, nf2⟩, List.forall_mem_cons.mpr ⟨⟨show (24 : Nat) < 100 from by decide, nf3⟩, List.forall_mem_cons.mpr ⟨⟨show (24 : Nat) < 100 from by decide, nf4⟩, (fun _ h => (by cases h))⟩⟩⟩⟩⟩
set_option maxHeartbeats 4000000 in
theorem vc_Ne_load_at_Np_2_0 (x4 : Int) (x5 : Int) (edges_0o1 : Int) (k5 : 0 ≤ x5 ∧ x5 ≤ 48) (g0 : x5 = edges_0o1) (kz_1_1 : 0 ≤ edges_0o1 ∧ edges_0o1 ≤ 48) : x5 = edges_0o1 := by
  first
    | omega
    | (have q := (‹GKE _ _ _ _›) x4 (by omega) (by omega); omega)
    | (have q := (‹GKE _ _ _ _›) x5 (by omega) (by omega); omega)
    | (have q := (‹GKE _ _ _ _›) x6 (by omega) (by omega); omega)
def o_Ne_load_at_Np_2 : or_T := (15, 6, [(1, (2, 0, 0, [3])), (5, (0, 0, 48, []))], [(9, [5, 3], [1]), (24, [1, 3], [])], [], [], [(20, [5, 3], [50, 1, 0, 1001, 1, 2, 1, 0, 2, 1, 1])], [], [])
theorem oo_Ne_load_at_Np_2 {kA : Nat → ClassId} : or_ok PRD kA GG o_Ne_load_at_Np_2 := by
  refine or_mk fun A ta ws vs hD hth hl => ?_
  intro t1 r1 t5 k5 f0 f5
  replace f0 := shm_215 f0
  replace f5 := shm_5 f5
  have q3 : n_v vs 3 = n_v vs 1 := f5.symm
  simp only [q3] at f0
  have g0 : v_iv (n_v vs 5) = w_fi ws (n_v vs 1) 1 := congrArg v_iv f0
  have kz_1_1 := fdq_30 hD hth r1
  have nf0 : fc_1 PRD (20, [5, 3], [50, 1, 0, 1001, 1, 2, 1, 0, 2, 1, 1]) ws (vs) := by
    refine ⟨nf_in hl rfl, sgq_859 ?_⟩
    · show v_iv (n_v vs 5) = w_fi ws (n_v vs 3) 1
      rw [q3]
      exact vc_Ne_load_at_Np_2_0 (v_iv (n_v vs 4)) (v_iv (n_v vs 5)) (w_fi ws (n_v vs 1) 1) k5 g0 kz_1_1
  refine ⟨(fun _ h => (by cases h)), [], trivial, ?_, (fun _ h => (by cases h))⟩
  rw [List.append_nil]
  exact List.forall_mem_cons.mpr ⟨⟨show (20 : Nat) < 100 from by decide, nf0⟩, (fun _ h => (by cases h))⟩
set_option maxHeartbeats 4000000 in
theorem vc_Ne_load_at_Np_3_0 (tail_0 : Int → Int) (head_0 : Int → Int) (near_0 : Int → Int) (nodes_0 : Int) (edges_0 : Int) (f3 : NOK (nodes_0) (edges_0) (tail_0) (head_0) (near_0)) (kz_0_5 : 0 ≤ nodes_0 ∧ nodes_0 ≤ 25) (kz_0_6 : 0 ≤ edges_0 ∧ edges_0 ≤ 72) : NOK (nodes_0) (edges_0) (tail_0) (head_0) (near_0) := by
  first
    | assumption
  
set_option maxHeartbeats 4000000 in
theorem vc_Ne_load_at_Np_3_1 (x4 : Int) (x5 : Int) (nodes_0 : Int) (nodes_0o1 : Int) (f5 : nodes_0 = nodes_0o1) (kz_0_5 : 0 ≤ nodes_0 ∧ nodes_0 ≤ 25) (kz_1_0 : 0 ≤ nodes_0o1 ∧ nodes_0o1 ≤ 24) : nodes_0 = nodes_0o1 := by
  first
    | omega
    | (have q := (‹GKE _ _ _ _›) x4 (by omega) (by omega); omega)
    | (have q := (‹GKE _ _ _ _›) x5 (by omega) (by omega); omega)
    | (have q := (‹GKE _ _ _ _›) x6 (by omega) (by omega); omega)
set_option maxHeartbeats 4000000 in
theorem vc_Ne_load_at_Np_3_2 (x4 : Int) (x5 : Int) (edges_0o1 : Int) (edges_0 : Int) (k4 : 0 ≤ x4 ∧ x4 ≤ 48) (k5 : 0 ≤ x5 ∧ x5 ≤ 48) (d0 : x5 + 0 ≤ x4 ∧ x4 ≤ x5 + 4294967296) (f1 : x5 = edges_0o1) (f6 : (edges_0 = x4) ∧ (x4 ≤ edges_0o1)) (kz_0_6 : 0 ≤ edges_0 ∧ edges_0 ≤ 72) (kz_1_1 : 0 ≤ edges_0o1 ∧ edges_0o1 ≤ 48) : edges_0 = edges_0o1 := by
  first
    | omega
    | (have q := (‹GKE _ _ _ _›) x4 (by omega) (by omega); omega)
    | (have q := (‹GKE _ _ _ _›) x5 (by omega) (by omega); omega)
    | (have q := (‹GKE _ _ _ _›) x6 (by omega) (by omega); omega)
def o_Ne_load_at_Np_3 : or_T := (41, 6, [(0, (2, 0, 0, [149])), (1, (2, 0, 0, [3])), (4, (0, 0, 48, [])), (5, (0, 0, 48, []))], [(20, [5, 3], [50, 1, 0, 1001, 1, 2, 1, 0, 2, 1, 1]), (20, [2], [60, 2, 3, 595, 5, 6, 7, 8, 9]), (20, [2, 3], [50, 2, 0, 5, 1000, 1, 3, 2, 0, 5, 2, 1, 0]), (20, [2, 4, 3], [50, 2, 0, 6, 2001, 2, 7, 1, 3, 2, 0, 6, 1, 1, 0, 2, 1, 1, 2, 2, 1]), (24, [1, 3], []), (24, [0, 2], [])], [], [], [(20, [0], [60, 2, 3, 595, 5, 6, 7, 8, 9]), (20, [0, 1], [50, 2, 0, 5, 1000, 1, 3, 2, 0, 5, 2, 1, 0]), (20, [0, 1], [50, 2, 0, 6, 1001, 1, 3, 2, 0, 6, 2, 1, 1])], [], [(4, 5, 0, 4294967296)])
theorem oo_Ne_load_at_Np_3 {kA : Nat → ClassId} : or_ok PRD kA GG o_Ne_load_at_Np_3 := by
  refine or_mk fun A ta ws vs hD hth hl => ?_
  intro t0 r0 t1 r1 t4 k4 t5 k5 d0 f1 f3 f5 f6 f7 f8
  replace f1 := shm_859 f1
  replace f3 := shm_408 f3
  replace f5 := shm_1177 f5
  replace f6 := shm_1204 f6
  replace f7 := shm_5 f7
  replace f8 := shm_5 f8
  have q3 : n_v vs 3 = n_v vs 1 := f7.symm
  have q2 : n_v vs 2 = n_v vs 0 := f8.symm
  simp only [q3, q2] at f1 f3 f5 f6
  have kz_0_5 := fdq_85 hD hth r0
  have kz_0_6 := fdq_62 hD hth r0
  have kz_1_0 := fdq_21 hD hth r1
  have kz_1_1 := fdq_30 hD hth r1
  have nf0 : fc_1 PRD (20, [0], [60, 2, 3, 595, 5, 6, 7, 8, 9]) ws (vs) := ⟨nf_in hl rfl, sgq_408 (vc_Ne_load_at_Np_3_0 (w_ei ws (w_ar ws (n_v vs 0) 7)) (w_ei ws (w_ar ws (n_v vs 0) 8)) (w_ei ws (w_ar ws (n_v vs 0) 9)) (w_fi ws (n_v vs 0) 5) (w_fi ws (n_v vs 0) 6) f3 kz_0_5 kz_0_6)⟩
  have nf1 : fc_1 PRD (20, [0, 1], [50, 2, 0, 5, 1000, 1, 3, 2, 0, 5, 2, 1, 0]) ws (vs) := ⟨nf_in hl rfl, sgq_1177 (vc_Ne_load_at_Np_3_1 (v_iv (n_v vs 4)) (v_iv (n_v vs 5)) (w_fi ws (n_v vs 0) 5) (w_fi ws (n_v vs 1) 0) f5 kz_0_5 kz_1_0)⟩
  have nf2 : fc_1 PRD (20, [0, 1], [50, 2, 0, 6, 1001, 1, 3, 2, 0, 6, 2, 1, 1]) ws (vs) := ⟨nf_in hl rfl, sgq_1205 (vc_Ne_load_at_Np_3_2 (v_iv (n_v vs 4)) (v_iv (n_v vs 5)) (w_fi ws (n_v vs 1) 1) (w_fi ws (n_v vs 0) 6) k4 k5 d0 f1 f6 kz_0_6 kz_1_1)⟩
  refine ⟨(fun _ h => (by cases h)), [], trivial, ?_, (fun _ h => (by cases h))⟩
  rw [List.append_nil]
  exact List.forall_mem_cons.mpr ⟨⟨show (20 : Nat) < 100 from by decide, nf0⟩, List.forall_mem_cons.mpr ⟨⟨show (20 : Nat) < 100 from by decide, nf1⟩, List.forall_mem_cons.mpr ⟨⟨show (20 : Nat) < 100 from by decide, nf2⟩, (fun _ h => (by cases h))⟩⟩⟩
set_option maxHeartbeats 4000000 in
theorem vc_Ne_load_at_Np_4_0 (tail_0 : Int → Int) (head_0 : Int → Int) (near_0 : Int → Int) (nodes_0 : Int) (edges_0 : Int) (f7 : NOK (nodes_0) (edges_0) (tail_0) (head_0) (near_0)) (kz_0_5 : 0 ≤ nodes_0 ∧ nodes_0 ≤ 25) (kz_0_6 : 0 ≤ edges_0 ∧ edges_0 ≤ 72) : NOK (nodes_0) (edges_0) (tail_0) (head_0) (near_0) := by
  first
    | assumption
  
set_option maxHeartbeats 4000000 in
theorem vc_Ne_load_at_Np_4_1 (x4 : Int) (x5 : Int) (x7 : Int) (head_0o1 : Int → Int) (tail_0o1 : Int → Int) (edges_0o1 : Int) (nodes_0 : Int) (edges_0 : Int) (nodes_0o1 : Int) (gx : Int) (k4 : 0 ≤ x4 ∧ x4 ≤ 47) (k5 : 1 ≤ x5 ∧ x5 ≤ 48) (k7 : 0 ≤ x7 ∧ x7 ≤ 23) (d0 : x5 + (-4294967296) ≤ x4 ∧ x4 ≤ x5 + (-1)) (h2 : x7 = tail_0o1 (x4)) (f5 : x5 = edges_0o1) (f8 : GKE (nodes_0o1) (edges_0o1) (tail_0o1) (head_0o1)) (f9 : nodes_0 = nodes_0o1) (f10 : (edges_0 = x4) ∧ (x4 ≤ edges_0o1)) (kz_0_5 : 0 ≤ nodes_0 ∧ nodes_0 ≤ 25) (kz_0_6 : 0 ≤ edges_0 ∧ edges_0 ≤ 72) (kz_1_0 : 0 ≤ nodes_0o1 ∧ nodes_0o1 ≤ 24) (kz_1_1 : 0 ≤ edges_0o1 ∧ edges_0o1 ≤ 48) (ex2 : gx = edges_0) : (0 ≤ x7) ∧ ((x7 + 1) ≤ nodes_0) := by
  first
    | omega
    | (have q := (‹GKE _ _ _ _›) x4 (by omega) (by omega); omega)
    | (have q := (‹GKE _ _ _ _›) x5 (by omega) (by omega); omega)
    | (have q := (‹GKE _ _ _ _›) x6 (by omega) (by omega); omega)
set_option maxHeartbeats 4000000 in
theorem vc_Ne_load_at_Np_4_2 (x4 : Int) (x5 : Int) (x9 : Int) (head_0o1 : Int → Int) (tail_0o1 : Int → Int) (edges_0o1 : Int) (nodes_0 : Int) (edges_0 : Int) (nodes_0o1 : Int) (gx : Int) (k4 : 0 ≤ x4 ∧ x4 ≤ 47) (k5 : 1 ≤ x5 ∧ x5 ≤ 48) (k9 : 0 ≤ x9 ∧ x9 ≤ 23) (d0 : x5 + (-4294967296) ≤ x4 ∧ x4 ≤ x5 + (-1)) (h0 : x9 = head_0o1 (x4)) (f5 : x5 = edges_0o1) (f8 : GKE (nodes_0o1) (edges_0o1) (tail_0o1) (head_0o1)) (f9 : nodes_0 = nodes_0o1) (f10 : (edges_0 = x4) ∧ (x4 ≤ edges_0o1)) (kz_0_5 : 0 ≤ nodes_0 ∧ nodes_0 ≤ 25) (kz_0_6 : 0 ≤ edges_0 ∧ edges_0 ≤ 72) (kz_1_0 : 0 ≤ nodes_0o1 ∧ nodes_0o1 ≤ 24) (kz_1_1 : 0 ≤ edges_0o1 ∧ edges_0o1 ≤ 48) (ex2 : gx = edges_0) : (0 ≤ x9) ∧ ((x9 + 1) ≤ nodes_0) := by
  first
    | omega
    | (have q := (‹GKE _ _ _ _›) x4 (by omega) (by omega); omega)
    | (have q := (‹GKE _ _ _ _›) x5 (by omega) (by omega); omega)
    | (have q := (‹GKE _ _ _ _›) x6 (by omega) (by omega); omega)
set_option maxHeartbeats 4000000 in
theorem vc_Ne_load_at_Np_4_3 (x4 : Int) (x5 : Int) (x7 : Int) (x9 : Int) (head_0o1 : Int → Int) (tail_0o1 : Int → Int) (edges_0o1 : Int) (edges_0 : Int) (nodes_0o1 : Int) (gx : Int) (k4 : 0 ≤ x4 ∧ x4 ≤ 47) (k5 : 1 ≤ x5 ∧ x5 ≤ 48) (k7 : 0 ≤ x7 ∧ x7 ≤ 23) (k9 : 0 ≤ x9 ∧ x9 ≤ 23) (d0 : x5 + (-4294967296) ≤ x4 ∧ x4 ≤ x5 + (-1)) (h0 : x9 = head_0o1 (x4)) (h2 : x7 = tail_0o1 (x4)) (f5 : x5 = edges_0o1) (f8 : GKE (nodes_0o1) (edges_0o1) (tail_0o1) (head_0o1)) (f10 : (edges_0 = x4) ∧ (x4 ≤ edges_0o1)) (kz_0_6 : 0 ≤ edges_0 ∧ edges_0 ≤ 72) (kz_1_0 : 0 ≤ nodes_0o1 ∧ nodes_0o1 ≤ 24) (kz_1_1 : 0 ≤ edges_0o1 ∧ edges_0o1 ≤ 48) (ex2 : gx = edges_0) : x7 ≠ x9 := by
  first
    | omega
    | (have q := (‹GKE _ _ _ _›) x4 (by omega) (by omega); omega)
    | (have q := (‹GKE _ _ _ _›) x5 (by omega) (by omega); omega)
    | (have q := (‹GKE _ _ _ _›) x6 (by omega) (by omega); omega)
set_option maxHeartbeats 4000000 in
theorem vc_Ne_load_at_Np_4_4 (x4 : Int) (x5 : Int) (edges_0 : Int) (gx : Int) (kz_0_6 : 0 ≤ edges_0 ∧ edges_0 ≤ 72) (ex2 : gx = edges_0) : edges_0 = gx := by
  first
    | omega
    | (have q := (‹GKE _ _ _ _›) x4 (by omega) (by omega); omega)
    | (have q := (‹GKE _ _ _ _›) x5 (by omega) (by omega); omega)
    | (have q := (‹GKE _ _ _ _›) x6 (by omega) (by omega); omega)
set_option maxHeartbeats 4000000 in
theorem vc_Ne_load_at_Np_4_5 (x4 : Int) (x5 : Int) (edges_0o1 : Int) (edges_0 : Int) (gx : Int) (k4 : 0 ≤ x4 ∧ x4 ≤ 47) (f10 : (edges_0 = x4) ∧ (x4 ≤ edges_0o1)) (kz_0_6 : 0 ≤ edges_0 ∧ edges_0 ≤ 72) (kz_1_1 : 0 ≤ edges_0o1 ∧ edges_0o1 ≤ 48) (ex2 : gx = edges_0) : gx = x4 := by
  first
    | omega
    | (have q := (‹GKE _ _ _ _›) x4 (by omega) (by omega); omega)
    | (have q := (‹GKE _ _ _ _›) x5 (by omega) (by omega); omega)
    | (have q := (‹GKE _ _ _ _›) x6 (by omega) (by omega); omega)
def o_Ne_load_at_Np_4 : or_T := (31, 10, [(0, (2, 0, 0, [149])), (1, (2, 0, 0, [3])), (4, (0, 0, 47, [])), (5, (0, 1, 48, [])), (7, (0, 0, 23, [])), (9, (0, 0, 23, []))], [(10, [9, 8, 4], []), (9, [8, 3], [8]), (10, [7, 6, 4], []), (9, [6, 3], [7]), (20, [5, 3], [50, 1, 0, 1001, 1, 2, 1, 0, 2, 1, 1]), (20, [2], [60, 2, 3, 595, 5, 6, 7, 8, 9]), (20, [3], [60, 2, 2, 596, 0, 1, 7, 8]), (20, [2, 3], [50, 2, 0, 5, 1000, 1, 3, 2, 0, 5, 2, 1, 0]), (20, [2, 4, 3], [50, 2, 0, 6, 2001, 2, 7, 1, 3, 2, 0, 6, 1, 1, 0, 2, 1, 1, 2, 2, 1]), (24, [1, 3], []), (24, [0, 2], [])], [], [(0, 0, 72, [])], [(20, [2], [60, 2, 3, 595, 5, 6, 7, 8, 9]), (20, [7, 2], [50, 1, 0, 1005, 2, 6, 0, 2, 0, 0, 1, 0, 0, 6, 4, 2, 1, 0, 0, 1, 2, 1, 5]), (20, [9, 2], [50, 1, 0, 1005, 2, 6, 0, 2, 0, 0, 1, 0, 0, 6, 4, 2, 1, 0, 0, 1, 2, 1, 5]), (20, [7, 9], [50, 0, 0, 7, 2, 1, 0, 1, 1]), (20, [2, 10], [50, 1, 0, 6, 1, 3, 2, 0, 6, 1, 1]), (20, [10, 4], [50, 0, 0, 1, 2, 1, 0, 1, 1])], [], [(4, 5, -4294967296, -1)])
theorem oo_Ne_load_at_Np_4 {kA : Nat → ClassId} : or_ok PRD kA GG o_Ne_load_at_Np_4 := by
  refine or_mk fun A ta ws vs hD hth hl => ?_
  intro t0 r0 t1 r1 t4 k4 t5 k5 t7 k7 t9 k9 d0 f0 f1 f2 f3 f5 f7 f8 f9 f10 f11 f12
  replace f0 := shm_107 f0
  replace f1 := shm_293 f1
  replace f2 := shm_107 f2
  replace f3 := shm_198 f3
  replace f5 := shm_859 f5
  replace f7 := shm_408 f7
  replace f8 := shm_386 f8
  replace f9 := shm_1177 f9
  replace f10 := shm_1204 f10
  replace f11 := shm_5 f11
  replace f12 := shm_5 f12
  have q3 : n_v vs 3 = n_v vs 1 := f11.symm
  have q2 : n_v vs 2 = n_v vs 0 := f12.symm
  simp only [q3, q2] at f1 f3 f5 f7 f8 f9 f10
  have ad_8 : v_ad (n_v vs 8) = w_ar ws (n_v vs 1) 8 := congrArg v_ad f1
  have ad_6 : v_ad (n_v vs 6) = w_ar ws (n_v vs 1) 7 := congrArg v_ad f3
  simp only [ad_8] at f0
  have h0 : v_iv (n_v vs 9) = w_ei ws (w_ar ws (n_v vs 1) 8) (v_iv (n_v vs 4)) := f0
  simp only [ad_6] at f2
  have h2 : v_iv (n_v vs 7) = w_ei ws (w_ar ws (n_v vs 1) 7) (v_iv (n_v vs 4)) := f2
  have kz_0_5 := fdq_85 hD hth r0
  have kz_0_6 := fdq_62 hD hth r0
  have kz_1_0 := fdq_21 hD hth r1
  have kz_1_1 := fdq_30 hD hth r1
  obtain ⟨x, ex, hx⟩ := iv_ex (ta := ta) (lo := 0) (hi := 72) (z := w_fi ws (n_v vs 0) 6) (by omega) (by omega) (by omega) (by omega)
  have ex2 : v_iv (Value.int x) = w_fi ws (n_v vs 0) 6 := ex
  have ex3 : 0 ≤ v_iv (Value.int x) ∧ v_iv (Value.int x) ≤ 72 := tv_rng hx
  have e_2 : n_v (vs ++ [Value.int x]) 2 = n_v vs 2 := n_v_old (by rw [hl]; decide)
  have e_4 : n_v (vs ++ [Value.int x]) 4 = n_v vs 4 := n_v_old (by rw [hl]; decide)
  have e_7 : n_v (vs ++ [Value.int x]) 7 = n_v vs 7 := n_v_old (by rw [hl]; decide)
  have e_9 : n_v (vs ++ [Value.int x]) 9 = n_v vs 9 := n_v_old (by rw [hl]; decide)
  have e_10 : n_v (vs ++ [Value.int x]) 10 = Value.int x := n_v_new hl
  have nf0 : fc_1 PRD (20, [2], [60, 2, 3, 595, 5, 6, 7, 8, 9]) ws (vs ++ [Value.int x]) := by
    refine ⟨nf_inA hl rfl, sgq_408 ?_⟩
    · show NOK (w_fi ws (n_v (vs ++ [Value.int x]) 2) 5) (w_fi ws (n_v (vs ++ [Value.int x]) 2) 6) (w_ei ws (w_ar ws (n_v (vs ++ [Value.int x]) 2) 7)) (w_ei ws (w_ar ws (n_v (vs ++ [Value.int x]) 2) 8)) (w_ei ws (w_ar ws (n_v (vs ++ [Value.int x]) 2) 9))
      simp only [e_2, q2]
      exact vc_Ne_load_at_Np_4_0 (w_ei ws (w_ar ws (n_v vs 0) 7)) (w_ei ws (w_ar ws (n_v vs 0) 8)) (w_ei ws (w_ar ws (n_v vs 0) 9)) (w_fi ws (n_v vs 0) 5) (w_fi ws (n_v vs 0) 6) f7 kz_0_5 kz_0_6
  have nf1 : fc_1 PRD (20, [7, 2], [50, 1, 0, 1005, 2, 6, 0, 2, 0, 0, 1, 0, 0, 6, 4, 2, 1, 0, 0, 1, 2, 1, 5]) ws (vs ++ [Value.int x]) := by
    refine ⟨nf_inA hl rfl, sgq_405 ?_⟩
    · show (0 ≤ v_iv (n_v (vs ++ [Value.int x]) 7)) ∧ ((v_iv (n_v (vs ++ [Value.int x]) 7) + 1) ≤ w_fi ws (n_v (vs ++ [Value.int x]) 2) 5)
      simp only [e_2, e_7, q2]
      exact vc_Ne_load_at_Np_4_1 (v_iv (n_v vs 4)) (v_iv (n_v vs 5)) (v_iv (n_v vs 7)) (w_ei ws (w_ar ws (n_v vs 1) 8)) (w_ei ws (w_ar ws (n_v vs 1) 7)) (w_fi ws (n_v vs 1) 1) (w_fi ws (n_v vs 0) 5) (w_fi ws (n_v vs 0) 6) (w_fi ws (n_v vs 1) 0) (v_iv (Value.int x)) k4 k5 k7 d0 h2 f5 f8 f9 f10 kz_0_5 kz_0_6 kz_1_0 kz_1_1 ex2
  have nf2 : fc_1 PRD (20, [9, 2], [50, 1, 0, 1005, 2, 6, 0, 2, 0, 0, 1, 0, 0, 6, 4, 2, 1, 0, 0, 1, 2, 1, 5]) ws (vs ++ [Value.int x]) := by
    refine ⟨nf_inA hl rfl, sgq_405 ?_⟩
    · show (0 ≤ v_iv (n_v (vs ++ [Value.int x]) 9)) ∧ ((v_iv (n_v (vs ++ [Value.int x]) 9) + 1) ≤ w_fi ws (n_v (vs ++ [Value.int x]) 2) 5)
      simp only [e_2, e_9, q2]
      exact vc_Ne_load_at_Np_4_2 (v_iv (n_v vs 4)) (v_iv (n_v vs 5)) (v_iv (n_v vs 9)) (w_ei ws (w_ar ws (n_v vs 1) 8)) (w_ei ws (w_ar ws (n_v vs 1) 7)) (w_fi ws (n_v vs 1) 1) (w_fi ws (n_v vs 0) 5) (w_fi ws (n_v vs 0) 6) (w_fi ws (n_v vs 1) 0) (v_iv (Value.int x)) k4 k5 k9 d0 h0 f5 f8 f9 f10 kz_0_5 kz_0_6 kz_1_0 kz_1_1 ex2
  have nf3 : fc_1 PRD (20, [7, 9], [50, 0, 0, 7, 2, 1, 0, 1, 1]) ws (vs ++ [Value.int x]) := by
    refine ⟨nf_inA hl rfl, sgq_406 ?_⟩
    · show v_iv (n_v (vs ++ [Value.int x]) 7) ≠ v_iv (n_v (vs ++ [Value.int x]) 9)
      simp only [e_7, e_9]
      exact vc_Ne_load_at_Np_4_3 (v_iv (n_v vs 4)) (v_iv (n_v vs 5)) (v_iv (n_v vs 7)) (v_iv (n_v vs 9)) (w_ei ws (w_ar ws (n_v vs 1) 8)) (w_ei ws (w_ar ws (n_v vs 1) 7)) (w_fi ws (n_v vs 1) 1) (w_fi ws (n_v vs 0) 6) (w_fi ws (n_v vs 1) 0) (v_iv (Value.int x)) k4 k5 k7 k9 d0 h0 h2 f5 f8 f10 kz_0_6 kz_1_0 kz_1_1 ex2
  have nf4 : fc_1 PRD (20, [2, 10], [50, 1, 0, 6, 1, 3, 2, 0, 6, 1, 1]) ws (vs ++ [Value.int x]) := by
    refine ⟨nf_inA hl rfl, sgq_407 ?_⟩
    · show w_fi ws (n_v (vs ++ [Value.int x]) 2) 6 = v_iv (n_v (vs ++ [Value.int x]) 10)
      simp only [e_2, e_10, q2]
      exact vc_Ne_load_at_Np_4_4 (v_iv (n_v vs 4)) (v_iv (n_v vs 5)) (w_fi ws (n_v vs 0) 6) (v_iv (Value.int x)) kz_0_6 ex2
  have nf5 : fc_1 PRD (20, [10, 4], [50, 0, 0, 1, 2, 1, 0, 1, 1]) ws (vs ++ [Value.int x]) := by
    refine ⟨nf_inA hl rfl, sgq_48 ?_⟩
    · show v_iv (n_v (vs ++ [Value.int x]) 10) = v_iv (n_v (vs ++ [Value.int x]) 4)
      simp only [e_4, e_10]
      exact vc_Ne_load_at_Np_4_5 (v_iv (n_v vs 4)) (v_iv (n_v vs 5)) (w_fi ws (n_v vs 1) 1) (w_fi ws (n_v vs 0) 6) (v_iv (Value.int x)) k4 f10 kz_0_6 kz_1_1 ex2
  exact ⟨(fun _ h => (by cases h)), [Value.int x], ag_one hx, List.forall_mem_cons.mpr ⟨⟨show (20 : Nat) < 100 from by decide, nf0⟩, List.forall_mem_cons.mpr ⟨⟨show (20 : Nat) < 100 from by decide, nf1⟩, List.forall_mem_cons.mpr ⟨⟨show (20 : Nat) < 100 from by decide, nf2⟩, List.forall_mem_cons.mpr ⟨⟨show (20 : Nat) < 100 from by decide, nf3⟩, List.forall_mem_cons.mpr ⟨⟨show (20 : Nat) < 100 from by decide, nf4⟩, List.forall_mem_cons.mpr ⟨⟨show (20 : Nat) < 100 from by decide, nf5⟩, (fun _ h => (by cases h))⟩⟩⟩⟩⟩⟩, (fun _ h => (by cases h))⟩
set_option maxHeartbeats 4000000 in
theorem vc_Ne_load_at_Np_5_0 (x4 : Int) (x5 : Int) (x10 : Int) (x12 : Int) (edges_0o1 : Int) (edges_0 : Int) (k4 : 0 ≤ x4 ∧ x4 ≤ 47) (k5 : 1 ≤ x5 ∧ x5 ≤ 48) (k10 : 0 ≤ x10 ∧ x10 ≤ 72) (k12 : 1 ≤ x12 ∧ x12 ≤ 48) (d0 : x4 + 1 ≤ x12 ∧ x12 ≤ x4 + 1) (d1 : x5 + (-4294967296) ≤ x12 ∧ x12 ≤ x5 + 0) (d2 : x5 + (-4294967296) ≤ x4 ∧ x4 ≤ x5 + (-1)) (f4 : x10 = x4) (f5 : x5 = edges_0o1) (f11 : (72 ≤ x10) ∨ (edges_0 = (x10 + 1))) (kz_0_6 : 0 ≤ edges_0 ∧ edges_0 ≤ 72) (kz_1_1 : 0 ≤ edges_0o1 ∧ edges_0o1 ≤ 48) : (edges_0 = x12) ∧ (x12 ≤ edges_0o1) := by
  first
    | omega
    | (have q := (‹GKE _ _ _ _›) x4 (by omega) (by omega); omega)
    | (have q := (‹GKE _ _ _ _›) x5 (by omega) (by omega); omega)
    | (have q := (‹GKE _ _ _ _›) x6 (by omega) (by omega); omega)
def o_Ne_load_at_Np_5 : or_T := (10, 13, [(0, (2, 0, 0, [149])), (1, (2, 0, 0, [3])), (4, (0, 0, 47, [])), (5, (0, 1, 48, [])), (10, (0, 0, 72, [])), (12, (0, 1, 48, []))], [(20, [10, 4], [50, 0, 0, 1, 2, 1, 0, 1, 1]), (20, [5, 3], [50, 1, 0, 1001, 1, 2, 1, 0, 2, 1, 1]), (24, [1, 3], []), (24, [0, 2], []), (20, [10, 2], [50, 1, 0, 1006, 3, 6, 0, 2, 0, 72, 1, 0, 1, 3, 2, 1, 6, 4, 2, 1, 0, 0, 1])], [], [], [(20, [2, 12, 3], [50, 2, 0, 6, 2001, 2, 7, 1, 3, 2, 0, 6, 1, 1, 0, 2, 1, 1, 2, 2, 1])], [], [(12, 4, 1, 1), (12, 5, -4294967296, 0), (4, 5, -4294967296, -1)])
theorem oo_Ne_load_at_Np_5 {kA : Nat → ClassId} : or_ok PRD kA GG o_Ne_load_at_Np_5 := by
  refine or_mk fun A ta ws vs hD hth hl => ?_
  intro t0 r0 t1 r1 t4 k4 t5 k5 t10 k10 t12 k12 d0 d1 d2 f4 f5 f8 f9 f11
  replace f4 := shm_48 f4
  replace f5 := shm_859 f5
  replace f8 := shm_5 f8
  replace f9 := shm_5 f9
  replace f11 := shm_409 f11
  have q3 : n_v vs 3 = n_v vs 1 := f8.symm
  have q2 : n_v vs 2 = n_v vs 0 := f9.symm
  simp only [q2, q3] at f5 f11
  have kz_0_6 := fdq_62 hD hth r0
  have kz_1_1 := fdq_30 hD hth r1
  have nf0 : fc_1 PRD (20, [2, 12, 3], [50, 2, 0, 6, 2001, 2, 7, 1, 3, 2, 0, 6, 1, 1, 0, 2, 1, 1, 2, 2, 1]) ws (vs) := by
    refine ⟨nf_in hl rfl, sgq_1204 ?_⟩
    · show (w_fi ws (n_v vs 2) 6 = v_iv (n_v vs 12)) ∧ (v_iv (n_v vs 12) ≤ w_fi ws (n_v vs 3) 1)
      simp only [q3, q2]
      exact vc_Ne_load_at_Np_5_0 (v_iv (n_v vs 4)) (v_iv (n_v vs 5)) (v_iv (n_v vs 10)) (v_iv (n_v vs 12)) (w_fi ws (n_v vs 1) 1) (w_fi ws (n_v vs 0) 6) k4 k5 k10 k12 d0 d1 d2 f4 f5 f11 kz_0_6 kz_1_1
  refine ⟨(fun _ h => (by cases h)), [], trivial, ?_, (fun _ h => (by cases h))⟩
  rw [List.append_nil]
  exact List.forall_mem_cons.mpr ⟨⟨show (20 : Nat) < 100 from by decide, nf0⟩, (fun _ h => (by cases h))⟩
def n_Ne_load_at_Np_an : List an_T := [(10, [(0, (2, 0, 0, [149])), (1, (2, 0, 0, [3])), (2, (0, 0, 48, []))], [], (0, 0), [(0, 0, 99990), (1, 4, 48), (0, 0, 100000)], [], [], [(2, 0, 0, [149]), (2, 0, 0, [3])], 0, [], [(20, [2], [60, 2, 3, 595, 5, 6, 7, 8, 9]), (20, [3], [60, 2, 2, 596, 0, 1, 7, 8]), (20, [2, 3], [50, 2, 0, 5, 1000, 1, 3, 2, 0, 5, 2, 1, 0]), (20, [2, 4, 3], [50, 2, 0, 6, 2001, 2, 7, 1, 3, 2, 0, 6, 1, 1, 0, 2, 1, 1, 2, 2, 1]), (24, [1, 3], []), (24, [0, 2], []), (24, [1, 3], [])])]
def t_Ne_load_at_Np_ct : ct_L := [(19, 73, e_Ne_begin_at_Np), (97, 80, e_Ne_join_at_Np_gk)]
set_option maxRecDepth 100000 in
theorem c_Ne_load_at_Np {l : Launch} {D : va_G} {kA : Nat → ClassId} (h_Ne_begin_at_Np : ct_ok PRD l D kA GG y_Ne_begin_at_Np z_Ne_begin_at_Np e_Ne_begin_at_Np) (h_Ne_join_at_Np_gk : ct_ok PRD l D kA GG y_Ne_join_at_Np_gk z_Ne_join_at_Np_gk e_Ne_join_at_Np_gk) : ct_ok PRD l D kA GG y_Ne_load_at_Np z_Ne_load_at_Np e_Ne_load_at_Np := chk_all_ok (FT := [(70, 3, 0), (77, 3, 1), (78, 3, 7), (79, 3, 8)]) (PT := []) (CT := t_Ne_load_at_Np_ct) (KT := []) (NT := []) (AN := n_Ne_load_at_Np_an) (OT := [o_Ne_load_at_Np_0, o_Ne_load_at_Np_1, o_Ne_load_at_Np_2, o_Ne_load_at_Np_3, o_Ne_load_at_Np_4, o_Ne_load_at_Np_5]) 3 200 (List.forall_mem_cons.mpr ⟨oo_Ne_load_at_Np_0, List.forall_mem_cons.mpr ⟨oo_Ne_load_at_Np_1, List.forall_mem_cons.mpr ⟨oo_Ne_load_at_Np_2, List.forall_mem_cons.mpr ⟨oo_Ne_load_at_Np_3, List.forall_mem_cons.mpr ⟨oo_Ne_load_at_Np_4, List.forall_mem_cons.mpr ⟨oo_Ne_load_at_Np_5, List.forall_mem_nil _⟩⟩⟩⟩⟩⟩) (by decide +kernel) ⟨List.forall_mem_cons.mpr ⟨gf_Ne_70, List.forall_mem_cons.mpr ⟨gf_Ne_77, List.forall_mem_cons.mpr ⟨gf_Ne_78, List.forall_mem_cons.mpr ⟨gf_Ne_79, List.forall_mem_nil _⟩⟩⟩⟩, List.forall_mem_nil _, List.forall_mem_cons.mpr ⟨cl_virtual (y := y_Ne_begin_at_Np) (ci := 5) rfl rfl ⟨_, _, rfl⟩ (by decide +kernel) h_Ne_begin_at_Np wm_1060 wm_6 wm_1057 wm_1058 wm_1059 ⟨by decide, by decide, by decide +kernel⟩ (by decide), List.forall_mem_cons.mpr ⟨cl_virtual (y := y_Ne_join_at_Np_gk) (ci := 5) rfl rfl ⟨_, _, rfl⟩ (by decide +kernel) h_Ne_join_at_Np_gk wm_1065 wm_6 wm_1062 wm_1063 wm_1064 ⟨by decide, by decide, by decide +kernel⟩ (by decide), List.forall_mem_nil _⟩⟩, List.forall_mem_nil _, List.forall_mem_nil _, GG_pl⟩ (by decide +kernel)

set_option maxHeartbeats 4000000 in
theorem vc_Pn_insertWay_0_0 (x4 : Int) (x5 : Int) (lineLength_0 : Int) (k4 : 0 ≤ x4 ∧ x4 ≤ 24) (k5 : 0 ≤ x5 ∧ x5 ≤ 0) (f3 : (x4 + 2) ≤ lineLength_0) (kz_0_3 : 0 ≤ lineLength_0 ∧ lineLength_0 ≤ 24) : (0 ≤ x5) ∧ ((x5 + 1) ≤ lineLength_0) := by
  first
    | omega
  
def o_Pn_insertWay_0 : or_T := (7, 8, [(0, (2, 0, 0, [7])), (4, (0, 0, 24, [])), (5, (0, 0, 0, []))], [(20, [4, 0], [50, 1, 0, 1003, 0, 6, 4, 2, 1, 0, 0, 2, 2, 1, 3])], [], [], [(20, [5, 0], [50, 1, 0, 1003, 2, 6, 0, 2, 0, 0, 1, 0, 0, 6, 4, 2, 1, 0, 0, 1, 2, 1, 3]), (24, [1, 1], []), (24, [0, 0], []), (24, [1, 1], [])], [], [])
theorem oo_Pn_insertWay_0 {kA : Nat → ClassId} : or_ok PRD kA GG o_Pn_insertWay_0 := by
  refine or_mk fun A ta ws vs hD hth hl => ?_
  intro t0 r0 t4 k4 t5 k5 f3
  have kz_0_3 := fdq_13 hD hth r0
  have nf0 : fc_1 PRD (20, [5, 0], [50, 1, 0, 1003, 2, 6, 0, 2, 0, 0, 1, 0, 0, 6, 4, 2, 1, 0, 0, 1, 2, 1, 3]) ws (vs) := ⟨nf_in hl rfl, sgq_1208 (vc_Pn_insertWay_0_0 (v_iv (n_v vs 4)) (v_iv (n_v vs 5)) (w_fi ws (n_v vs 0) 3) k4 k5 (shm_911 f3) kz_0_3)⟩
  have nf1 : fc_1 PRD (24, [1, 1], []) ws (vs) := by
    refine ⟨nf_in hl rfl, sgq_1 ?_⟩
    · show n_v vs 1 = n_v vs 1
      first | rfl | simp only [true_and]
  have nf2 : fc_1 PRD (24, [0, 0], []) ws (vs) := by
    refine ⟨nf_in hl rfl, sgq_1 ?_⟩
    · show n_v vs 0 = n_v vs 0
      first | rfl | simp only [true_and]
  have nf3 : fc_1 PRD (24, [1, 1], []) ws (vs) := by
    refine ⟨nf_in hl rfl, sgq_1 ?_⟩
    · show n_v vs 1 = n_v vs 1
      first | rfl | simp only [true_and]
  refine ⟨(fun _ h => (by cases h)), [], trivial, ?_, (fun _ h => (by cases h))⟩
  rw [List.append_nil]
  exact List.forall_mem_cons.mpr ⟨⟨show (20 : Nat) < 100 from by decide, nf0⟩, List.forall_mem_cons.mpr ⟨⟨show (24 : Nat) < 100 from by decide, nf1⟩, List.forall_mem_cons.mpr ⟨⟨show (24 : Nat) < 100 from by decide, nf2⟩, List.forall_mem_cons.mpr ⟨⟨show (24 : Nat) < 100 from by decide, nf3⟩, (fun _ h => (by cases h))⟩⟩⟩⟩
set_option maxHeartbeats 4000000 in
theorem vc_Pn_insertWay_1_r0 (x1 : Int) (x6 : Int) (x12 : Int) (k1 : 0 ≤ x1 ∧ x1 ≤ 25) (k6 : 0 ≤ x6 ∧ x6 ≤ 25) (k12 : (-2) ≤ x12 ∧ x12 ≤ 23) (d0 : x6 + (-2) ≤ x12 ∧ x12 ≤ x6 + (-2)) (d1 : x1 + (-4294967296) ≤ x12 ∧ x12 ≤ x1 + (-2)) (d3 : x6 + (-4294967296) ≤ x1 ∧ x1 ≤ x6 + 0) (f7 : 3 ≤ x1) : 1 ≤ x12 ∧ x12 ≤ 23 := by
  first
    | omega
  
def o_Pn_insertWay_1 : or_T := (78, 14, [(0, (2, 0, 0, [7])), (1, (0, 0, 25, [])), (2, (0, -2147483648, 2147483647, [])), (3, (0, -2147483648, 2147483647, [])), (4, (0, 0, 24, [])), (5, (2, 0, 0, [7])), (6, (0, 0, 25, [])), (7, (0, 0, 23, [])), (9, (0, 0, 24, [])), (10, (0, 0, 24, [])), (11, (0, 2, 2, [])), (12, (0, -2, 23, []))], [(2, [12, 6, 11], []), (7, [9, 10], [3]), (9, [10, 5], [3]), (20, [5, 2, 3], [60, 1, 1, 900, 3, 2]), (20, [7, 5], [50, 1, 0, 1003, 2, 6, 0, 2, 0, 0, 1, 0, 0, 6, 4, 2, 1, 0, 0, 1, 2, 1, 3]), (20, [4, 5], [50, 1, 0, 1003, 0, 6, 4, 2, 1, 0, 0, 2, 2, 1, 3]), (20, [5, 2, 3, 6], [60, 0, 1, 908, 6]), (20, [6], [50, 0, 0, 0, 2, 0, 3, 1, 0]), (24, [1, 6], []), (24, [0, 5], [])], [(12, (0, 1, 23, []))], [], [], [], [(12, 6, -2, -2), (12, 1, -4294967296, -2), (9, 10, 0, 4294967296), (1, 6, -4294967296, 0), (6, 1, -4294967296, 0), (7, 9, -4294967296, 0)])
theorem oo_Pn_insertWay_1 {kA : Nat → ClassId} : or_ok PRD kA GG o_Pn_insertWay_1 := by
  refine or_mk fun A ta ws vs hD hth hl => ?_
  intro t0 r0 t1 k1 t2 k2 t3 k3 t4 k4 t5 r5 t6 k6 t7 k7 t9 k9 t10 k10 t11 k11 t12 k12 d0 d1 d2 d3 d4 d5 f0 f1 f2 f3 f4 f5 f6 f7 f8 f9
  replace f7 := shm_1207 f7
  replace f8 := shm_5 f8
  have q6 : n_v vs 6 = n_v vs 1 := f8.symm
  simp only [q6] at f7
  have hrf0 : 1 ≤ v_iv (n_v vs 12) ∧ v_iv (n_v vs 12) ≤ 23 := vc_Pn_insertWay_1_r0 (v_iv (n_v vs 1)) (v_iv (n_v vs 6)) (v_iv (n_v vs 12)) k1 k6 k12 d0 d1 d3 f7
  have rf12 : tv_ok ta (0, 1, 23, []) (n_v vs 12) := tv_in t12 (by first | omega | grind) (by first | omega | grind)
  refine ⟨List.forall_mem_cons.mpr ⟨rf12, (fun _ h => (by cases h))⟩, [], trivial, ?_, (fun _ h => (by cases h))⟩
  rw [List.append_nil]
  exact (fun _ h => (by cases h))
set_option maxHeartbeats 4000000 in
theorem vc_Pn_insertWay_2_0 (x10 : Int) (x15 : Int) (level_0 : Int → Int) (k15 : 0 ≤ x15 ∧ x15 ≤ 0) : LVW (level_0) (x15) := by
  first
    | exact lvw_start (by omega)
set_option maxHeartbeats 4000000 in
theorem vc_Pn_insertWay_2_1 (x15 : Int) (k15 : 0 ≤ x15 ∧ x15 ≤ 0) : 0 ≤ x15 := by
  first
    | omega
  
set_option maxHeartbeats 4000000 in
theorem vc_Pn_insertWay_2_2 (x1 : Int) (x2 : Int) (x3 : Int) (x6 : Int) (x10 : Int) (x12 : Int) (x13 : Int) (x14 : Int) (x15 : Int) (way_0 : Int → Int) (level_0 : Int → Int) (k1 : 0 ≤ x1 ∧ x1 ≤ 25) (k2 : (-2147483648) ≤ x2 ∧ x2 ≤ 2147483647) (k3 : (-2147483648) ≤ x3 ∧ x3 ≤ 2147483647) (k6 : 0 ≤ x6 ∧ x6 ≤ 25) (k12 : 1 ≤ x12 ∧ x12 ≤ 23) (k13 : 0 ≤ x13 ∧ x13 ≤ 0) (k14 : 1 ≤ x14 ∧ x14 ≤ 23) (k15 : 0 ≤ x15 ∧ x15 ≤ 0) (d1 : x6 + (-2) ≤ x12 ∧ x12 ≤ x6 + (-2)) (d2 : x1 + (-4294967296) ≤ x12 ∧ x12 ≤ x1 + (-2)) (d4 : x6 + (-4294967296) ≤ x1 ∧ x1 ≤ x6 + 0) (f1 : 1 * x12 + ((-1) * x14 + 0) ≤ 0) (f3 : (x14 = x12) ∨ (x14 = x13)) (f10 : EWY (way_0) (x2) (x3) (x1)) : LVR (level_0) (way_0) (x2) (x3) (x14) (x15) := by
  first
    | exact lvr_start ‹EWY _ _ _ _› (by omega) (by omega)
set_option maxHeartbeats 4000000 in
theorem vc_Pn_insertWay_2_3 (x14 : Int) (k14 : 1 ≤ x14 ∧ x14 ≤ 23) : 1 ≤ x14 := by
  first
    | omega
  
def o_Pn_insertWay_2 : or_T := (119, 16, [(0, (2, 0, 0, [7])), (1, (0, 0, 25, [])), (2, (0, -2147483648, 2147483647, [])), (3, (0, -2147483648, 2147483647, [])), (4, (0, 0, 24, [])), (5, (2, 0, 0, [7])), (6, (0, 0, 25, [])), (7, (0, 0, 23, [])), (8, (0, 0, 23, [])), (9, (0, 0, 24, [])), (10, (0, 0, 24, [])), (11, (0, 2, 2, [])), (12, (0, 1, 23, [])), (13, (0, 0, 0, [])), (14, (0, 1, 23, [])), (15, (0, 0, 0, []))], [(7, [7, 8], [3]), (23, [12, 14], [0, 1, -1]), (23, [13, 14], [0, 1, -1]), (20, [14, 12, 13], [50, 0, 0, 3, 6, 1, 2, 1, 0, 1, 1, 1, 2, 1, 0, 1, 2]), (2, [12, 6, 11], []), (7, [9, 10], [3]), (9, [10, 5], [3]), (20, [5, 2, 3], [60, 1, 1, 900, 3, 2]), (20, [7, 5], [50, 1, 0, 1003, 2, 6, 0, 2, 0, 0, 1, 0, 0, 6, 4, 2, 1, 0, 0, 1, 2, 1, 3]), (20, [4, 5], [50, 1, 0, 1003, 0, 6, 4, 2, 1, 0, 0, 2, 2, 1, 3]), (20, [5, 2, 3, 6], [60, 0, 1, 908, 6]), (20, [6], [50, 0, 0, 0, 2, 0, 3, 1, 0]), (24, [1, 6], []), (24, [0, 5], [])], [], [], [(20, [5, 15], [60, 0, 1, 645, 5]), (20, [15], [50, 0, 0, 0, 2, 0, 0, 1, 0]), (20, [5, 2, 3, 14, 15], [60, 0, 2, 910, 5, 6]), (20, [14], [50, 0, 0, 0, 2, 0, 1, 1, 0])], [], [(7, 8, 0, 4294967296), (12, 6, -2, -2), (12, 1, -4294967296, -2), (9, 10, 0, 4294967296), (1, 6, -4294967296, 0), (6, 1, -4294967296, 0), (7, 9, -4294967296, 0), (8, 9, -4294967296, 0)])
theorem oo_Pn_insertWay_2 {kA : Nat → ClassId} : or_ok PRD kA GG o_Pn_insertWay_2 := by
  refine or_mk fun A ta ws vs hD hth hl => ?_
  intro t0 r0 t1 k1 t2 k2 t3 k3 t4 k4 t5 r5 t6 k6 t7 k7 t8 k8 t9 k9 t10 k10 t11 k11 t12 k12 t13 k13 t14 k14 t15 k15 d0 d1 d2 d3 d4 d5 d6 d7 f0 f1 f2 f3 f4 f5 f6 f7 f8 f9 f10 f11 f12 f13
  replace f1 := shm_7 f1
  replace f3 := shm_898 f3
  replace f10 := shm_1206 f10
  replace f12 := shm_5 f12
  replace f13 := shm_5 f13
  have q6 : n_v vs 6 = n_v vs 1 := f12.symm
  have q5 : n_v vs 5 = n_v vs 0 := f13.symm
  simp only [q6, q5] at f10
  have nf0 : fc_1 PRD (20, [5, 15], [60, 0, 1, 645, 5]) ws (vs) := by
    refine ⟨nf_in hl rfl, sgq_1209 ?_⟩
    · show LVW (w_ei ws (w_ar ws (n_v vs 5) 5)) (v_iv (n_v vs 15))
      rw [q5]
      exact vc_Pn_insertWay_2_0 (v_iv (n_v vs 10)) (v_iv (n_v vs 15)) (w_ei ws (w_ar ws (n_v vs 0) 5)) k15
  have nf1 : fc_1 PRD (20, [15], [50, 0, 0, 0, 2, 0, 0, 1, 0]) ws (vs) := ⟨nf_in hl rfl, sgq_722 (vc_Pn_insertWay_2_1 (v_iv (n_v vs 15)) k15)⟩
  have nf2 : fc_1 PRD (20, [5, 2, 3, 14, 15], [60, 0, 2, 910, 5, 6]) ws (vs) := by
    refine ⟨nf_in hl rfl, sgq_1210 ?_⟩
    · show LVR (w_ei ws (w_ar ws (n_v vs 5) 5)) (w_ei ws (w_ar ws (n_v vs 5) 6)) (v_iv (n_v vs 2)) (v_iv (n_v vs 3)) (v_iv (n_v vs 14)) (v_iv (n_v vs 15))
      rw [q5]
      exact vc_Pn_insertWay_2_2 (v_iv (n_v vs 1)) (v_iv (n_v vs 2)) (v_iv (n_v vs 3)) (v_iv (n_v vs 6)) (v_iv (n_v vs 10)) (v_iv (n_v vs 12)) (v_iv (n_v vs 13)) (v_iv (n_v vs 14)) (v_iv (n_v vs 15)) (w_ei ws (w_ar ws (n_v vs 0) 6)) (w_ei ws (w_ar ws (n_v vs 0) 5)) k1 k2 k3 k6 k12 k13 k14 k15 d1 d2 d4 f1 f3 f10
  have nf3 : fc_1 PRD (20, [14], [50, 0, 0, 0, 2, 0, 1, 1, 0]) ws (vs) := ⟨nf_in hl rfl, sgq_710 (vc_Pn_insertWay_2_3 (v_iv (n_v vs 14)) k14)⟩
  refine ⟨(fun _ h => (by cases h)), [], trivial, ?_, (fun _ h => (by cases h))⟩
  rw [List.append_nil]
  exact List.forall_mem_cons.mpr ⟨⟨show (20 : Nat) < 100 from by decide, nf0⟩, List.forall_mem_cons.mpr ⟨⟨show (20 : Nat) < 100 from by decide, nf1⟩, List.forall_mem_cons.mpr ⟨⟨show (20 : Nat) < 100 from by decide, nf2⟩, List.forall_mem_cons.mpr ⟨⟨show (20 : Nat) < 100 from by decide, nf3⟩, (fun _ h => (by cases h))⟩⟩⟩⟩
set_option maxHeartbeats 4000000 in
theorem vc_Pn_insertWay_3_0 (x14 : Int) (x16 : Int) (k14 : 1 ≤ x14 ∧ x14 ≤ 23) (k16 : 1 ≤ x16 ∧ x16 ≤ 1) : x16 + x14 ≤ 27 := by
  first
    | omega
  
set_option maxHeartbeats 4000000 in
theorem vc_Pn_insertWay_3_1 (x14 : Int) (x17 : Int) (k14 : 1 ≤ x14 ∧ x14 ≤ 23) (k17 : 0 ≤ x17 ∧ x17 ≤ 0) : x17 + x14 ≤ 27 := by
  first
    | omega
  
set_option maxHeartbeats 4000000 in
theorem vc_Pn_insertWay_3_2 (x2 : Int) (gx : Int) (k2 : (-2147483648) ≤ x2 ∧ x2 ≤ 2147483647) (ex2 : gx = x2) : 1 * gx + ((-1) * x2 + 0) ≤ 0 := by
  first
    | omega
  
set_option maxHeartbeats 4000000 in
theorem vc_Pn_insertWay_3_3 (x2 : Int) (gx : Int) (k2 : (-2147483648) ≤ x2 ∧ x2 ≤ 2147483647) (ex2 : gx = x2) : (-1) * gx + (1 * x2 + 0) ≤ 0 := by
  first
    | omega
  
set_option maxHeartbeats 4000000 in
theorem vc_Pn_insertWay_3_4 (x3 : Int) (gy : Int) (k3 : (-2147483648) ≤ x3 ∧ x3 ≤ 2147483647) (ey2 : gy = x3) : 1 * gy + ((-1) * x3 + 0) ≤ 0 := by
  first
    | omega
  
set_option maxHeartbeats 4000000 in
theorem vc_Pn_insertWay_3_5 (x3 : Int) (gy : Int) (k3 : (-2147483648) ≤ x3 ∧ x3 ≤ 2147483647) (ey2 : gy = x3) : (-1) * gy + (1 * x3 + 0) ≤ 0 := by
  first
    | omega
  
set_option maxHeartbeats 4000000 in
theorem vc_Pn_insertWay_3_6 (x1 : Int) (x2 : Int) (x3 : Int) (x6 : Int) (x12 : Int) (x13 : Int) (x14 : Int) (x16 : Int) (x17 : Int) (way_0 : Int → Int) (gx : Int) (gy : Int) (k1 : 0 ≤ x1 ∧ x1 ≤ 25) (k2 : (-2147483648) ≤ x2 ∧ x2 ≤ 2147483647) (k3 : (-2147483648) ≤ x3 ∧ x3 ≤ 2147483647) (k6 : 0 ≤ x6 ∧ x6 ≤ 25) (k12 : 1 ≤ x12 ∧ x12 ≤ 23) (k13 : 0 ≤ x13 ∧ x13 ≤ 0) (k14 : 1 ≤ x14 ∧ x14 ≤ 23) (k16 : 1 ≤ x16 ∧ x16 ≤ 1) (k17 : 0 ≤ x17 ∧ x17 ≤ 0) (d1 : x6 + (-2) ≤ x12 ∧ x12 ≤ x6 + (-2)) (d2 : x1 + (-4294967296) ≤ x12 ∧ x12 ≤ x1 + (-2)) (d4 : x6 + (-4294967296) ≤ x1 ∧ x1 ≤ x6 + 0) (f2 : 1 * x12 + ((-1) * x14 + 0) ≤ 0) (f4 : (x14 = x12) ∨ (x14 = x13)) (f11 : EWY (way_0) (x2) (x3) (x1)) (ex2 : gx = x2) (ey2 : gy = x3) : DW1 (way_0) (way_0) (x16) (x17) (x14) (gx) (gy) := by
  first
    | (exfalso; omega)
    | (rw [show gx = x2 by omega, show gy = x3 by omega]; exact ⟨by omega, by rw [show x14 + 2 = x1 by omega]; assumption⟩)
def o_Pn_insertWay_3 : or_T := (100, 18, [(0, (2, 0, 0, [7])), (1, (0, 0, 25, [])), (2, (0, -2147483648, 2147483647, [])), (3, (0, -2147483648, 2147483647, [])), (4, (0, 0, 24, [])), (5, (2, 0, 0, [7])), (6, (0, 0, 25, [])), (7, (0, 0, 22, [])), (8, (0, 1, 23, [])), (9, (0, 1, 24, [])), (10, (0, 0, 24, [])), (11, (0, 2, 2, [])), (12, (0, 1, 23, [])), (13, (0, 0, 0, [])), (14, (0, 1, 23, [])), (15, (2, 0, 0, [106])), (16, (0, 1, 1, [])), (17, (0, 0, 0, []))], [(9, [15, 5], [6]), (7, [7, 8], [2]), (23, [12, 14], [0, 1, -1]), (23, [13, 14], [0, 1, -1]), (20, [14, 12, 13], [50, 0, 0, 3, 6, 1, 2, 1, 0, 1, 1, 1, 2, 1, 0, 1, 2]), (2, [12, 6, 11], []), (7, [9, 10], [3]), (9, [10, 5], [3]), (20, [5, 2, 3], [60, 1, 1, 900, 3, 2]), (20, [7, 5], [50, 1, 0, 1003, 2, 6, 0, 2, 0, 0, 1, 0, 0, 6, 4, 2, 1, 0, 0, 1, 2, 1, 3]), (20, [4, 5], [50, 1, 0, 1003, 0, 6, 4, 2, 1, 0, 0, 2, 2, 1, 3]), (20, [5, 2, 3, 6], [60, 0, 1, 908, 6]), (20, [6], [50, 0, 0, 0, 2, 0, 3, 1, 0]), (24, [1, 6], []), (24, [0, 5], [])], [], [(0, -2147483648, 2147483647, []), (0, -2147483648, 2147483647, [])], [(21, [16, 14], [27]), (21, [17, 14], [27]), (23, [18, 2], [0, 1, -1]), (23, [18, 2], [0, -1, 1]), (23, [19, 3], [0, 1, -1]), (23, [19, 3], [0, -1, 1]), (20, [15, 15, 16, 17, 14, 18, 19], [61, 2, 920])], [], [(7, 8, -4294967296, -1), (12, 6, -2, -2), (12, 1, -4294967296, -2), (9, 10, 0, 4294967296), (1, 6, -4294967296, 0), (6, 1, -4294967296, 0), (7, 9, -4294967296, 0), (8, 9, -4294967296, 0)])
theorem oo_Pn_insertWay_3 {kA : Nat → ClassId} : or_ok PRD kA GG o_Pn_insertWay_3 := by
  refine or_mk fun A ta ws vs hD hth hl => ?_
  intro t0 r0 t1 k1 t2 k2 t3 k3 t4 k4 t5 r5 t6 k6 t7 k7 t8 k8 t9 k9 t10 k10 t11 k11 t12 k12 t13 k13 t14 k14 t15 r15 t16 k16 t17 k17 d0 d1 d2 d3 d4 d5 d6 d7 f0 f1 f2 f3 f4 f5 f6 f7 f8 f9 f10 f11 f12 f13 f14
  replace f0 := shm_111 f0
  replace f2 := shm_7 f2
  replace f4 := shm_898 f4
  replace f11 := shm_1206 f11
  replace f13 := shm_5 f13
  replace f14 := shm_5 f14
  have q6 : n_v vs 6 = n_v vs 1 := f13.symm
  have q5 : n_v vs 5 = n_v vs 0 := f14.symm
  simp only [q5, q6] at f0 f11
  have ad_15 : v_ad (n_v vs 15) = w_ar ws (n_v vs 0) 6 := congrArg v_ad f0
  obtain ⟨x, ex, hx⟩ := iv_ex (ta := ta) (lo := (-2147483648)) (hi := 2147483647) (z := v_iv (n_v vs 2)) (by omega) (by omega) (by omega) (by omega)
  have ex2 : v_iv (Value.int x) = v_iv (n_v vs 2) := ex
  have ex3 : (-2147483648) ≤ v_iv (Value.int x) ∧ v_iv (Value.int x) ≤ 2147483647 := tv_rng hx
  obtain ⟨y, ey, hy⟩ := iv_ex (ta := ta) (lo := (-2147483648)) (hi := 2147483647) (z := v_iv (n_v vs 3)) (by omega) (by omega) (by omega) (by omega)
  have ey2 : v_iv (Value.int y) = v_iv (n_v vs 3) := ey
  have ey3 : (-2147483648) ≤ v_iv (Value.int y) ∧ v_iv (Value.int y) ≤ 2147483647 := tv_rng hy
  have e_2 : n_v (vs ++ [Value.int x, Value.int y]) 2 = n_v vs 2 := n_v_old (by rw [hl]; decide)
  have e_3 : n_v (vs ++ [Value.int x, Value.int y]) 3 = n_v vs 3 := n_v_old (by rw [hl]; decide)
  have e_14 : n_v (vs ++ [Value.int x, Value.int y]) 14 = n_v vs 14 := n_v_old (by rw [hl]; decide)
  have e_15 : n_v (vs ++ [Value.int x, Value.int y]) 15 = n_v vs 15 := n_v_old (by rw [hl]; decide)
  have e_16 : n_v (vs ++ [Value.int x, Value.int y]) 16 = n_v vs 16 := n_v_old (by rw [hl]; decide)
  have e_17 : n_v (vs ++ [Value.int x, Value.int y]) 17 = n_v vs 17 := n_v_old (by rw [hl]; decide)
  have e_18 : n_v (vs ++ [Value.int x, Value.int y]) 18 = Value.int x := n_v_new0 hl
  have e_19 : n_v (vs ++ [Value.int x, Value.int y]) 19 = Value.int y := n_v_new1 hl
  have nf0 : fc_1 PRD (21, [16, 14], [27]) ws (vs ++ [Value.int x, Value.int y]) := by
    refine ⟨nf_inA hl rfl, sgq_141 ?_⟩
    · show v_iv (n_v (vs ++ [Value.int x, Value.int y]) 16) + v_iv (n_v (vs ++ [Value.int x, Value.int y]) 14) ≤ 27
      simp only [e_14, e_16]
      exact vc_Pn_insertWay_3_0 (v_iv (n_v vs 14)) (v_iv (n_v vs 16)) k14 k16
  have nf1 : fc_1 PRD (21, [17, 14], [27]) ws (vs ++ [Value.int x, Value.int y]) := by
    refine ⟨nf_inA hl rfl, sgq_141 ?_⟩
    · show v_iv (n_v (vs ++ [Value.int x, Value.int y]) 17) + v_iv (n_v (vs ++ [Value.int x, Value.int y]) 14) ≤ 27
      simp only [e_14, e_17]
      exact vc_Pn_insertWay_3_1 (v_iv (n_v vs 14)) (v_iv (n_v vs 17)) k14 k17
  have nf2 : fc_1 PRD (23, [18, 2], [0, 1, -1]) ws (vs ++ [Value.int x, Value.int y]) := by
    refine ⟨nf_inA hl rfl, sgq_7 ?_⟩
    · show 1 * v_iv (n_v (vs ++ [Value.int x, Value.int y]) 18) + ((-1) * v_iv (n_v (vs ++ [Value.int x, Value.int y]) 2) + 0) ≤ 0
      simp only [e_2, e_18]
      exact vc_Pn_insertWay_3_2 (v_iv (n_v vs 2)) (v_iv (Value.int x)) k2 ex2
  have nf3 : fc_1 PRD (23, [18, 2], [0, -1, 1]) ws (vs ++ [Value.int x, Value.int y]) := by
    refine ⟨nf_inA hl rfl, sgq_22 ?_⟩
    · show (-1) * v_iv (n_v (vs ++ [Value.int x, Value.int y]) 18) + (1 * v_iv (n_v (vs ++ [Value.int x, Value.int y]) 2) + 0) ≤ 0
      simp only [e_2, e_18]
      exact vc_Pn_insertWay_3_3 (v_iv (n_v vs 2)) (v_iv (Value.int x)) k2 ex2
  have nf4 : fc_1 PRD (23, [19, 3], [0, 1, -1]) ws (vs ++ [Value.int x, Value.int y]) := by
    refine ⟨nf_inA hl rfl, sgq_7 ?_⟩
    · show 1 * v_iv (n_v (vs ++ [Value.int x, Value.int y]) 19) + ((-1) * v_iv (n_v (vs ++ [Value.int x, Value.int y]) 3) + 0) ≤ 0
      simp only [e_3, e_19]
      exact vc_Pn_insertWay_3_4 (v_iv (n_v vs 3)) (v_iv (Value.int y)) k3 ey2
  have nf5 : fc_1 PRD (23, [19, 3], [0, -1, 1]) ws (vs ++ [Value.int x, Value.int y]) := by
    refine ⟨nf_inA hl rfl, sgq_22 ?_⟩
    · show (-1) * v_iv (n_v (vs ++ [Value.int x, Value.int y]) 19) + (1 * v_iv (n_v (vs ++ [Value.int x, Value.int y]) 3) + 0) ≤ 0
      simp only [e_3, e_19]
      exact vc_Pn_insertWay_3_5 (v_iv (n_v vs 3)) (v_iv (Value.int y)) k3 ey2
  have nf6 : fc_1 PRD (20, [15, 15, 16, 17, 14, 18, 19], [61, 2, 920]) ws (vs ++ [Value.int x, Value.int y]) := by
    refine ⟨nf_inA hl rfl, sgq_1211 ?_⟩
    · show DW1 (w_ei ws (v_ad (n_v (vs ++ [Value.int x, Value.int y]) 15))) (w_ei ws (v_ad (n_v (vs ++ [Value.int x, Value.int y]) 15))) (v_iv (n_v (vs ++ [Value.int x, Value.int y]) 16)) (v_iv (n_v (vs ++ [Value.int x, Value.int y]) 17)) (v_iv (n_v (vs ++ [Value.int x, Value.int y]) 14)) (v_iv (n_v (vs ++ [Value.int x, Value.int y]) 18)) (v_iv (n_v (vs ++ [Value.int x, Value.int y]) 19))
      simp only [e_14, e_15, e_16, e_17, e_18, e_19, ad_15]
      exact vc_Pn_insertWay_3_6 (v_iv (n_v vs 1)) (v_iv (n_v vs 2)) (v_iv (n_v vs 3)) (v_iv (n_v vs 6)) (v_iv (n_v vs 12)) (v_iv (n_v vs 13)) (v_iv (n_v vs 14)) (v_iv (n_v vs 16)) (v_iv (n_v vs 17)) (w_ei ws (w_ar ws (n_v vs 0) 6)) (v_iv (Value.int x)) (v_iv (Value.int y)) k1 k2 k3 k6 k12 k13 k14 k16 k17 d1 d2 d4 f2 f4 f11 ex2 ey2
  exact ⟨(fun _ h => (by cases h)), [Value.int x, Value.int y], ag_two hx hy, List.forall_mem_cons.mpr ⟨⟨show (21 : Nat) < 100 from by decide, nf0⟩, List.forall_mem_cons.mpr ⟨⟨show (21 : Nat) < 100 from by decide, nf1⟩, List.forall_mem_cons.mpr ⟨⟨show (23 : Nat) < 100 from by decide, nf2⟩, List.forall_mem_cons.mpr ⟨⟨show (23 : Nat) < 100 from by decide, nf3⟩, List.forall_mem_cons.mpr ⟨⟨show (23 : Nat) < 100 from by decide, nf4⟩, List.forall_mem_cons.mpr ⟨⟨show (23 : Nat) < 100 from by decide, nf5⟩, List.forall_mem_cons.mpr ⟨⟨show (20 : Nat) < 100 from by decide, nf6⟩, (fun _ h => (by cases h))⟩⟩⟩⟩⟩⟩⟩, (fun _ h => (by cases h))⟩
set_option maxHeartbeats 4000000 in
theorem vc_Pn_insertWay_4_0 (x2 : Int) (x18 : Int) (gx : Int) (k2 : (-2147483648) ≤ x2 ∧ x2 ≤ 2147483647) (k18 : (-2147483648) ≤ x18 ∧ x18 ≤ 2147483647) (f5 : 1 * x18 + ((-1) * x2 + 0) ≤ 0) (f6 : (-1) * x18 + (1 * x2 + 0) ≤ 0) (ex2 : gx = x2) : 1 * gx + ((-1) * x2 + 0) ≤ 0 := by
  first
    | omega
  
set_option maxHeartbeats 4000000 in
theorem vc_Pn_insertWay_4_1 (x2 : Int) (x18 : Int) (gx : Int) (k2 : (-2147483648) ≤ x2 ∧ x2 ≤ 2147483647) (k18 : (-2147483648) ≤ x18 ∧ x18 ≤ 2147483647) (f5 : 1 * x18 + ((-1) * x2 + 0) ≤ 0) (f6 : (-1) * x18 + (1 * x2 + 0) ≤ 0) (ex2 : gx = x2) : (-1) * gx + (1 * x2 + 0) ≤ 0 := by
  first
    | omega
  
set_option maxHeartbeats 4000000 in
theorem vc_Pn_insertWay_4_2 (x3 : Int) (x19 : Int) (gy : Int) (k3 : (-2147483648) ≤ x3 ∧ x3 ≤ 2147483647) (k19 : (-2147483648) ≤ x19 ∧ x19 ≤ 2147483647) (f7 : 1 * x19 + ((-1) * x3 + 0) ≤ 0) (f8 : (-1) * x19 + (1 * x3 + 0) ≤ 0) (ey2 : gy = x3) : 1 * gy + ((-1) * x3 + 0) ≤ 0 := by
  first
    | omega
  
set_option maxHeartbeats 4000000 in
theorem vc_Pn_insertWay_4_3 (x3 : Int) (x19 : Int) (gy : Int) (k3 : (-2147483648) ≤ x3 ∧ x3 ≤ 2147483647) (k19 : (-2147483648) ≤ x19 ∧ x19 ≤ 2147483647) (f7 : 1 * x19 + ((-1) * x3 + 0) ≤ 0) (f8 : (-1) * x19 + (1 * x3 + 0) ≤ 0) (ey2 : gy = x3) : (-1) * gy + (1 * x3 + 0) ≤ 0 := by
  first
    | omega
  
set_option maxHeartbeats 4000000 in
theorem vc_Pn_insertWay_4_4 (x4 : Int) (gu : Int) (k4 : 0 ≤ x4 ∧ x4 ≤ 24) (eu2 : gu = x4) : 1 * gu + ((-1) * x4 + 0) ≤ 0 := by
  first
    | omega
  
set_option maxHeartbeats 4000000 in
theorem vc_Pn_insertWay_4_5 (x4 : Int) (gu : Int) (k4 : 0 ≤ x4 ∧ x4 ≤ 24) (eu2 : gu = x4) : (-1) * gu + (1 * x4 + 0) ≤ 0 := by
  first
    | omega
  
set_option maxHeartbeats 4000000 in
theorem vc_Pn_insertWay_4_6 (x2 : Int) (x3 : Int) (lineLength_0 : Int) (line_0 : Int → Int) (gx : Int) (gy : Int) (k2 : (-2147483648) ≤ x2 ∧ x2 ≤ 2147483647) (k3 : (-2147483648) ≤ x3 ∧ x3 ≤ 2147483647) (f12 : OFL (lineLength_0) (line_0) (x2) (x3)) (kz_0_3 : 0 ≤ lineLength_0 ∧ lineLength_0 ≤ 24) (ex2 : gx = x2) (ey2 : gy = x3) : OFL (lineLength_0) (line_0) (gx) (gy) := by
  first
    | assumption
    | (rw [show gx = x2 by omega, show gy = x3 by omega]; assumption)
set_option maxHeartbeats 4000000 in
theorem vc_Pn_insertWay_4_7 (x2 : Int) (x3 : Int) (x14 : Int) (x16 : Int) (x17 : Int) (x18 : Int) (x19 : Int) (way_0 : Int → Int) (gx : Int) (gy : Int) (k2 : (-2147483648) ≤ x2 ∧ x2 ≤ 2147483647) (k3 : (-2147483648) ≤ x3 ∧ x3 ≤ 2147483647) (k14 : 1 ≤ x14 ∧ x14 ≤ 23) (k16 : 1 ≤ x16 ∧ x16 ≤ 1) (k17 : 0 ≤ x17 ∧ x17 ≤ 0) (k18 : (-2147483648) ≤ x18 ∧ x18 ≤ 2147483647) (k19 : (-2147483648) ≤ x19 ∧ x19 ≤ 2147483647) (f5 : 1 * x18 + ((-1) * x2 + 0) ≤ 0) (f6 : (-1) * x18 + (1 * x2 + 0) ≤ 0) (f7 : 1 * x19 + ((-1) * x3 + 0) ≤ 0) (f8 : (-1) * x19 + (1 * x3 + 0) ≤ 0) (f18 : DW2 (way_0) (way_0) (x16) (x17) (x14) (x18) (x19)) (ex2 : gx = x2) (ey2 : gy = x3) : EWJ (way_0) (gx) (gy) (x14) := by
  first
    | (exfalso; omega)
    | (have h := (‹DW2 _ _ _ _ _ _ _›); rw [show x18 = x2 by omega, show x19 = x3 by omega] at h; rw [show gx = x2 by omega, show gy = x3 by omega]; exact h)
    | (have h := (‹DV2 _ _ _ _ _ _ _›); rw [show x15 = x2 by omega, show x16 = x3 by omega] at h; rw [show gx = x2 by omega, show gy = x3 by omega]; exact h)
set_option maxHeartbeats 4000000 in
theorem vc_Pn_insertWay_4_8 (x7 : Int) (x21 : Int) (lineLength_0 : Int) (k7 : 0 ≤ x7 ∧ x7 ≤ 22) (k21 : 1 ≤ x21 ∧ x21 ≤ 23) (d0 : x7 + 1 ≤ x21 ∧ x21 ≤ x7 + 1) (f13 : (0 ≤ x7) ∧ ((x7 + 1) ≤ lineLength_0)) (kz_0_3 : 0 ≤ lineLength_0 ∧ lineLength_0 ≤ 24) : (0 ≤ x21) ∧ (x21 ≤ lineLength_0) := by
  first
    | omega
  
set_option maxHeartbeats 4000000 in
theorem vc_Pn_insertWay_4_9 (x22 : Int) (k22 : 0 ≤ x22 ∧ x22 ≤ 0) : x22 = 0 := by
  first
    | omega
  
set_option maxHeartbeats 4000000 in
theorem vc_Pn_insertWay_4_10 (x14 : Int) (k14 : 1 ≤ x14 ∧ x14 ≤ 23) : 1 ≤ x14 := by
  first
    | omega
  
set_option maxHeartbeats 4000000 in
theorem vc_Pn_insertWay_4_11 (x4 : Int) (lineLength_0 : Int) (gu : Int) (k4 : 0 ≤ x4 ∧ x4 ≤ 24) (f14 : (x4 + 2) ≤ lineLength_0) (kz_0_3 : 0 ≤ lineLength_0 ∧ lineLength_0 ≤ 24) (eu2 : gu = x4) : (gu + 2) ≤ lineLength_0 := by
  first
    | omega
  
def o_Pn_insertWay_4 : or_T := (110, 23, [(0, (2, 0, 0, [7])), (1, (0, 0, 25, [])), (2, (0, -2147483648, 2147483647, [])), (3, (0, -2147483648, 2147483647, [])), (4, (0, 0, 24, [])), (5, (2, 0, 0, [7])), (6, (0, 0, 25, [])), (7, (0, 0, 22, [])), (8, (0, 1, 23, [])), (9, (0, 1, 24, [])), (10, (0, 0, 24, [])), (11, (0, 2, 2, [])), (12, (0, 1, 23, [])), (13, (0, 0, 0, [])), (14, (0, 1, 23, [])), (15, (2, 0, 0, [106])), (16, (0, 1, 1, [])), (17, (0, 0, 0, [])), (18, (0, -2147483648, 2147483647, [])), (19, (0, -2147483648, 2147483647, [])), (20, (0, 1, 1, [])), (21, (0, 1, 23, [])), (22, (0, 0, 0, []))], [(9, [15, 5], [6]), (9, [10, 5], [3]), (1, [21, 7, 20], []), (21, [16, 14], [27]), (21, [17, 14], [27]), (23, [18, 2], [0, 1, -1]), (23, [18, 2], [0, -1, 1]), (23, [19, 3], [0, 1, -1]), (23, [19, 3], [0, -1, 1]), (23, [12, 14], [0, 1, -1]), (23, [13, 14], [0, 1, -1]), (20, [14, 12, 13], [50, 0, 0, 3, 6, 1, 2, 1, 0, 1, 1, 1, 2, 1, 0, 1, 2]), (20, [5, 2, 3], [60, 1, 1, 900, 3, 2]), (20, [7, 5], [50, 1, 0, 1003, 2, 6, 0, 2, 0, 0, 1, 0, 0, 6, 4, 2, 1, 0, 0, 1, 2, 1, 3]), (20, [4, 5], [50, 1, 0, 1003, 0, 6, 4, 2, 1, 0, 0, 2, 2, 1, 3]), (20, [6], [50, 0, 0, 0, 2, 0, 3, 1, 0]), (24, [1, 6], []), (24, [0, 5], []), (20, [15, 15, 16, 17, 14, 18, 19], [61, 2, 921]), (102, [19], [81129638414606681695789005144064]), (21, [16, 14], [27]), (21, [17, 14], [27]), (23, [18, 2], [0, 1, -1]), (23, [18, 2], [0, -1, 1]), (23, [19, 3], [0, 1, -1]), (23, [19, 3], [0, -1, 1]), (7, [7, 8], [2]), (23, [12, 14], [0, 1, -1]), (23, [13, 14], [0, 1, -1]), (2, [12, 6, 11], []), (7, [9, 10], [3])], [], [(0, -2147483648, 2147483647, []), (0, -2147483648, 2147483647, []), (0, 0, 24, [])], [(23, [23, 2], [0, 1, -1]), (23, [23, 2], [0, -1, 1]), (23, [24, 3], [0, 1, -1]), (23, [24, 3], [0, -1, 1]), (23, [25, 4], [0, 1, -1]), (23, [25, 4], [0, -1, 1]), (20, [5, 23, 24], [60, 1, 1, 900, 3, 2]), (20, [5, 23, 24, 14], [60, 0, 1, 909, 6]), (20, [21, 5], [50, 1, 0, 1003, 2, 6, 0, 2, 0, 0, 1, 0, 0, 2, 1, 0, 2, 1, 3]), (20, [22], [50, 0, 0, 1, 2, 1, 0, 0, 0]), (20, [14], [50, 0, 0, 0, 2, 0, 1, 1, 0]), (20, [25, 5], [50, 1, 0, 1003, 0, 6, 4, 2, 1, 0, 0, 2, 2, 1, 3])], [], [(21, 7, 1, 1), (21, 8, -4294967296, 0), (21, 9, -4294967296, 1), (7, 8, -4294967296, -1), (12, 6, -2, -2), (12, 1, -4294967296, -2), (9, 10, 0, 4294967296), (1, 6, -4294967296, 0), (6, 1, -4294967296, 0), (7, 9, -4294967296, 0), (8, 9, -4294967296, 0)])
theorem oo_Pn_insertWay_4 {kA : Nat → ClassId} : or_ok PRD kA GG o_Pn_insertWay_4 := by
  refine or_mk fun A ta ws vs hD hth hl => ?_
  intro t0 r0 t1 k1 t2 k2 t3 k3 t4 k4 t5 r5 t6 k6 t7 k7 t8 k8 t9 k9 t10 k10 t11 k11 t12 k12 t13 k13 t14 k14 t15 r15 t16 k16 t17 k17 t18 k18 t19 k19 t20 k20 t21 k21 t22 k22 d0 d1 d2 d3 d4 d5 d6 d7 d8 d9 d10 f0 f1 f2 f3 f4 f5 f6 f7 f8 f9 f10 f11 f12 f13 f14 f15 f16 f17 f18 ta1 w1 le1 s1 f20 f21 f22 f23 f24 f25 f26 f27 f28 f29 f30
  replace f0 := shm_111 f0
  replace f5 := shm_7 f5
  replace f6 := shm_22 f6
  replace f7 := shm_7 f7
  replace f8 := shm_22 f8
  replace f12 := shm_908 f12
  replace f13 := shm_1208 f13
  replace f14 := shm_911 f14
  replace f17 := shm_5 f17
  replace f18 := shm_1212 f18
  have q5 : n_v vs 5 = n_v vs 0 := f17.symm
  simp only [q5] at f0 f12 f13 f14
  have ad_15 : v_ad (n_v vs 15) = w_ar ws (n_v vs 0) 6 := congrArg v_ad f0
  simp only [ad_15] at f18
  have kz_0_3 := fdq_13 hD hth r0
  obtain ⟨x, ex, hx⟩ := iv_ex (ta := ta) (lo := (-2147483648)) (hi := 2147483647) (z := v_iv (n_v vs 2)) (by omega) (by omega) (by omega) (by omega)
  have ex2 : v_iv (Value.int x) = v_iv (n_v vs 2) := ex
  have ex3 : (-2147483648) ≤ v_iv (Value.int x) ∧ v_iv (Value.int x) ≤ 2147483647 := tv_rng hx
  obtain ⟨y, ey, hy⟩ := iv_ex (ta := ta) (lo := (-2147483648)) (hi := 2147483647) (z := v_iv (n_v vs 3)) (by omega) (by omega) (by omega) (by omega)
  have ey2 : v_iv (Value.int y) = v_iv (n_v vs 3) := ey
  have ey3 : (-2147483648) ≤ v_iv (Value.int y) ∧ v_iv (Value.int y) ≤ 2147483647 := tv_rng hy
  obtain ⟨u, eu, hu⟩ := iv_ex (ta := ta) (lo := 0) (hi := 24) (z := v_iv (n_v vs 4)) (by omega) (by omega) (by omega) (by omega)
  have eu2 : v_iv (Value.int u) = v_iv (n_v vs 4) := eu
  have eu3 : 0 ≤ v_iv (Value.int u) ∧ v_iv (Value.int u) ≤ 24 := tv_rng hu
  have e_2 : n_v (vs ++ [Value.int x, Value.int y, Value.int u]) 2 = n_v vs 2 := n_v_old (by rw [hl]; decide)
  have e_3 : n_v (vs ++ [Value.int x, Value.int y, Value.int u]) 3 = n_v vs 3 := n_v_old (by rw [hl]; decide)
  have e_4 : n_v (vs ++ [Value.int x, Value.int y, Value.int u]) 4 = n_v vs 4 := n_v_old (by rw [hl]; decide)
  have e_5 : n_v (vs ++ [Value.int x, Value.int y, Value.int u]) 5 = n_v vs 5 := n_v_old (by rw [hl]; decide)
  have e_14 : n_v (vs ++ [Value.int x, Value.int y, Value.int u]) 14 = n_v vs 14 := n_v_old (by rw [hl]; decide)
  have e_21 : n_v (vs ++ [Value.int x, Value.int y, Value.int u]) 21 = n_v vs 21 := n_v_old (by rw [hl]; decide)
  have e_22 : n_v (vs ++ [Value.int x, Value.int y, Value.int u]) 22 = n_v vs 22 := n_v_old (by rw [hl]; decide)
  have e_23 : n_v (vs ++ [Value.int x, Value.int y, Value.int u]) 23 = Value.int x := n_v_newk (k := 0) hl rfl
  have e_24 : n_v (vs ++ [Value.int x, Value.int y, Value.int u]) 24 = Value.int y := n_v_newk (k := 1) hl rfl
  have e_25 : n_v (vs ++ [Value.int x, Value.int y, Value.int u]) 25 = Value.int u := n_v_newk (k := 2) hl rfl
  have nf0 : fc_1 PRD (23, [23, 2], [0, 1, -1]) ws (vs ++ [Value.int x, Value.int y, Value.int u]) := by
    refine ⟨nf_inA hl rfl, sgq_7 ?_⟩
    · show 1 * v_iv (n_v (vs ++ [Value.int x, Value.int y, Value.int u]) 23) + ((-1) * v_iv (n_v (vs ++ [Value.int x, Value.int y, Value.int u]) 2) + 0) ≤ 0
      simp only [e_2, e_23]
      exact vc_Pn_insertWay_4_0 (v_iv (n_v vs 2)) (v_iv (n_v vs 18)) (v_iv (Value.int x)) k2 k18 f5 f6 ex2
  have nf1 : fc_1 PRD (23, [23, 2], [0, -1, 1]) ws (vs ++ [Value.int x, Value.int y, Value.int u]) := by
    refine ⟨nf_inA hl rfl, sgq_22 ?_⟩
    · show (-1) * v_iv (n_v (vs ++ [Value.int x, Value.int y, Value.int u]) 23) + (1 * v_iv (n_v (vs ++ [Value.int x, Value.int y, Value.int u]) 2) + 0) ≤ 0
      simp only [e_2, e_23]
      exact vc_Pn_insertWay_4_1 (v_iv (n_v vs 2)) (v_iv (n_v vs 18)) (v_iv (Value.int x)) k2 k18 f5 f6 ex2
  have nf2 : fc_1 PRD (23, [24, 3], [0, 1, -1]) ws (vs ++ [Value.int x, Value.int y, Value.int u]) := by
    refine ⟨nf_inA hl rfl, sgq_7 ?_⟩
    · show 1 * v_iv (n_v (vs ++ [Value.int x, Value.int y, Value.int u]) 24) + ((-1) * v_iv (n_v (vs ++ [Value.int x, Value.int y, Value.int u]) 3) + 0) ≤ 0
      simp only [e_3, e_24]
      exact vc_Pn_insertWay_4_2 (v_iv (n_v vs 3)) (v_iv (n_v vs 19)) (v_iv (Value.int y)) k3 k19 f7 f8 ey2
  have nf3 : fc_1 PRD (23, [24, 3], [0, -1, 1]) ws (vs ++ [Value.int x, Value.int y, Value.int u]) := by
    refine ⟨nf_inA hl rfl, sgq_22 ?_⟩
    · show (-1) * v_iv (n_v (vs ++ [Value.int x, Value.int y, Value.int u]) 24) + (1 * v_iv (n_v (vs ++ [Value.int x, Value.int y, Value.int u]) 3) + 0) ≤ 0
      simp only [e_3, e_24]
      exact vc_Pn_insertWay_4_3 (v_iv (n_v vs 3)) (v_iv (n_v vs 19)) (v_iv (Value.int y)) k3 k19 f7 f8 ey2
  have nf4 : fc_1 PRD (23, [25, 4], [0, 1, -1]) ws (vs ++ [Value.int x, Value.int y, Value.int u]) := by
    refine ⟨nf_inA hl rfl, sgq_7 ?_⟩
    · show 1 * v_iv (n_v (vs ++ [Value.int x, Value.int y, Value.int u]) 25) + ((-1) * v_iv (n_v (vs ++ [Value.int x, Value.int y, Value.int u]) 4) + 0) ≤ 0
      simp only [e_4, e_25]
      exact vc_Pn_insertWay_4_4 (v_iv (n_v vs 4)) (v_iv (Value.int u)) k4 eu2
  have nf5 : fc_1 PRD (23, [25, 4], [0, -1, 1]) ws (vs ++ [Value.int x, Value.int y, Value.int u]) := by
    refine ⟨nf_inA hl rfl, sgq_22 ?_⟩
    · show (-1) * v_iv (n_v (vs ++ [Value.int x, Value.int y, Value.int u]) 25) + (1 * v_iv (n_v (vs ++ [Value.int x, Value.int y, Value.int u]) 4) + 0) ≤ 0
      simp only [e_4, e_25]
      exact vc_Pn_insertWay_4_5 (v_iv (n_v vs 4)) (v_iv (Value.int u)) k4 eu2
  have nf6 : fc_1 PRD (20, [5, 23, 24], [60, 1, 1, 900, 3, 2]) ws (vs ++ [Value.int x, Value.int y, Value.int u]) := by
    refine ⟨nf_inA hl rfl, sgq_908 ?_⟩
    · show OFL (w_fi ws (n_v (vs ++ [Value.int x, Value.int y, Value.int u]) 5) 3) (w_ei ws (w_ar ws (n_v (vs ++ [Value.int x, Value.int y, Value.int u]) 5) 2)) (v_iv (n_v (vs ++ [Value.int x, Value.int y, Value.int u]) 23)) (v_iv (n_v (vs ++ [Value.int x, Value.int y, Value.int u]) 24))
      simp only [e_5, e_23, e_24, q5]
      exact vc_Pn_insertWay_4_6 (v_iv (n_v vs 2)) (v_iv (n_v vs 3)) (w_fi ws (n_v vs 0) 3) (w_ei ws (w_ar ws (n_v vs 0) 2)) (v_iv (Value.int x)) (v_iv (Value.int y)) k2 k3 f12 kz_0_3 ex2 ey2
  have nf7 : fc_1 PRD (20, [5, 23, 24, 14], [60, 0, 1, 909, 6]) ws (vs ++ [Value.int x, Value.int y, Value.int u]) := by
    refine ⟨nf_inA hl rfl, sgq_909 ?_⟩
    · show EWJ (w_ei ws (w_ar ws (n_v (vs ++ [Value.int x, Value.int y, Value.int u]) 5) 6)) (v_iv (n_v (vs ++ [Value.int x, Value.int y, Value.int u]) 23)) (v_iv (n_v (vs ++ [Value.int x, Value.int y, Value.int u]) 24)) (v_iv (n_v (vs ++ [Value.int x, Value.int y, Value.int u]) 14))
      simp only [e_5, e_14, e_23, e_24, q5]
      exact vc_Pn_insertWay_4_7 (v_iv (n_v vs 2)) (v_iv (n_v vs 3)) (v_iv (n_v vs 14)) (v_iv (n_v vs 16)) (v_iv (n_v vs 17)) (v_iv (n_v vs 18)) (v_iv (n_v vs 19)) (w_ei ws (w_ar ws (n_v vs 0) 6)) (v_iv (Value.int x)) (v_iv (Value.int y)) k2 k3 k14 k16 k17 k18 k19 f5 f6 f7 f8 f18 ex2 ey2
  have nf8 : fc_1 PRD (20, [21, 5], [50, 1, 0, 1003, 2, 6, 0, 2, 0, 0, 1, 0, 0, 2, 1, 0, 2, 1, 3]) ws (vs ++ [Value.int x, Value.int y, Value.int u]) := by
    refine ⟨nf_inA hl rfl, sgq_910 ?_⟩
    · show (0 ≤ v_iv (n_v (vs ++ [Value.int x, Value.int y, Value.int u]) 21)) ∧ (v_iv (n_v (vs ++ [Value.int x, Value.int y, Value.int u]) 21) ≤ w_fi ws (n_v (vs ++ [Value.int x, Value.int y, Value.int u]) 5) 3)
      simp only [e_5, e_21, q5]
      exact vc_Pn_insertWay_4_8 (v_iv (n_v vs 7)) (v_iv (n_v vs 21)) (w_fi ws (n_v vs 0) 3) k7 k21 d0 f13 kz_0_3
  have nf9 : fc_1 PRD (20, [22], [50, 0, 0, 1, 2, 1, 0, 0, 0]) ws (vs ++ [Value.int x, Value.int y, Value.int u]) := by
    refine ⟨nf_inA hl rfl, sgq_649 ?_⟩
    · show v_iv (n_v (vs ++ [Value.int x, Value.int y, Value.int u]) 22) = 0
      rw [e_22]
      exact vc_Pn_insertWay_4_9 (v_iv (n_v vs 22)) k22
  have nf10 : fc_1 PRD (20, [14], [50, 0, 0, 0, 2, 0, 1, 1, 0]) ws (vs ++ [Value.int x, Value.int y, Value.int u]) := by
    refine ⟨nf_inA hl rfl, sgq_710 ?_⟩
    · show 1 ≤ v_iv (n_v (vs ++ [Value.int x, Value.int y, Value.int u]) 14)
      rw [e_14]
      exact vc_Pn_insertWay_4_10 (v_iv (n_v vs 14)) k14
  have nf11 : fc_1 PRD (20, [25, 5], [50, 1, 0, 1003, 0, 6, 4, 2, 1, 0, 0, 2, 2, 1, 3]) ws (vs ++ [Value.int x, Value.int y, Value.int u]) := by
    refine ⟨nf_inA hl rfl, sgq_911 ?_⟩
    · show (v_iv (n_v (vs ++ [Value.int x, Value.int y, Value.int u]) 25) + 2) ≤ w_fi ws (n_v (vs ++ [Value.int x, Value.int y, Value.int u]) 5) 3
      simp only [e_5, e_25, q5]
      exact vc_Pn_insertWay_4_11 (v_iv (n_v vs 4)) (w_fi ws (n_v vs 0) 3) (v_iv (Value.int u)) k4 f14 kz_0_3 eu2
  exact ⟨(fun _ h => (by cases h)), [Value.int x, Value.int y, Value.int u], ag_three hx hy hu, List.forall_mem_cons.mpr ⟨⟨show (23 : Nat) < 100 from by decide, nf0⟩, List.forall_mem_cons.mpr ⟨⟨show (23 : Nat) < 100 from by decide, nf1⟩, List.forall_mem_cons.mpr ⟨⟨show (23 : Nat) < 100 from by decide, nf2⟩, List.forall_mem_cons.mpr ⟨⟨show (23 : Nat) < 100 from by decide, nf3⟩, List.forall_mem_cons.mpr ⟨⟨show (23 : Nat) < 100 from by decide, nf4⟩, List.forall_mem_cons.mpr ⟨⟨show (23 : Nat) < 100 from by decide, nf5⟩, List.forall_mem_cons.mpr ⟨⟨show (20 : Nat) < 100 from by decide, nf6⟩, List.forall_mem_cons.mpr ⟨⟨show (20 : Nat) < 100 from by decide, nf7⟩, List.forall_mem_cons.mpr ⟨⟨show (20 : Nat) < 100 from by decide, nf8⟩, List.forall_mem_cons.mpr ⟨⟨show (20 : Nat) < 100 from by decide, nf9⟩, List.forall_mem_cons.mpr ⟨⟨show (20 : Nat) < 100 from by decide, nf10⟩, List.forall_mem_cons.mpr ⟨⟨show (20 : Nat) < 100 from by decide, nf11⟩, (fun _ h => (by cases h))⟩⟩⟩⟩⟩⟩⟩⟩⟩⟩⟩⟩, (fun _ h => (by cases h))⟩
set_option maxHeartbeats 4000000 in
theorem vc_Pn_insertWay_5_0 (x2 : Int) (x3 : Int) (x18 : Int) (x19 : Int) (x23 : Int) (x24 : Int) (line_0 : Int → Int) (lineLength_0 : Int) (k2 : (-2147483648) ≤ x2 ∧ x2 ≤ 2147483647) (k3 : (-2147483648) ≤ x3 ∧ x3 ≤ 2147483647) (k23 : (-2147483648) ≤ x23 ∧ x23 ≤ 2147483647) (k24 : (-2147483648) ≤ x24 ∧ x24 ≤ 2147483647) (f1 : 1 * x23 + ((-1) * x2 + 0) ≤ 0) (f2 : (-1) * x23 + (1 * x2 + 0) ≤ 0) (f3 : 1 * x24 + ((-1) * x3 + 0) ≤ 0) (f4 : (-1) * x24 + (1 * x3 + 0) ≤ 0) (f23 : OFP (lineLength_0) (line_0) (x23) (x24)) (kz_0_3 : 0 ≤ lineLength_0 ∧ lineLength_0 ≤ 24) : OFP (lineLength_0) (line_0) (x2) (x3) := by
  first
    | assumption
    | (have h := (‹OFP _ _ _ _›); rw [show x23 = x2 by omega, show x24 = x3 by omega] at h; exact h)
    | (have h := (‹OFP _ _ _ _›); rw [show x18 = x2 by omega, show x19 = x3 by omega] at h; exact h)
set_option maxHeartbeats 4000000 in
theorem vc_Pn_insertWay_5_1 (x4 : Int) (x25 : Int) (lineLength_0 : Int) (k4 : 0 ≤ x4 ∧ x4 ≤ 24) (k25 : 0 ≤ x25 ∧ x25 ≤ 24) (f5 : 1 * x25 + ((-1) * x4 + 0) ≤ 0) (f6 : (-1) * x25 + (1 * x4 + 0) ≤ 0) (f24 : (x25 + 3) ≤ lineLength_0) (kz_0_3 : 0 ≤ lineLength_0 ∧ lineLength_0 ≤ 24) : (x4 + 3) ≤ lineLength_0 := by
  first
    | omega
  
def o_Pn_insertWay_5 : or_T := (172, 26, [(0, (2, 0, 0, [7])), (1, (0, 0, 25, [])), (2, (0, -2147483648, 2147483647, [])), (3, (0, -2147483648, 2147483647, [])), (4, (0, 0, 24, [])), (5, (2, 0, 0, [7])), (6, (0, 0, 25, [])), (11, (0, 2, 2, [])), (12, (0, 1, 23, [])), (13, (0, 0, 0, [])), (14, (0, 1, 23, [])), (15, (2, 0, 0, [106])), (16, (0, 1, 1, [])), (17, (0, 0, 0, [])), (18, (0, -2147483648, 2147483647, [])), (19, (0, -2147483648, 2147483647, [])), (22, (0, 0, 0, [])), (23, (0, -2147483648, 2147483647, [])), (24, (0, -2147483648, 2147483647, [])), (25, (0, 0, 24, []))], [(9, [15, 5], [6]), (23, [23, 2], [0, 1, -1]), (23, [23, 2], [0, -1, 1]), (23, [24, 3], [0, 1, -1]), (23, [24, 3], [0, -1, 1]), (23, [25, 4], [0, 1, -1]), (23, [25, 4], [0, -1, 1]), (20, [5, 23, 24, 14], [60, 0, 1, 909, 6]), (20, [22], [50, 0, 0, 1, 2, 1, 0, 0, 0]), (20, [14], [50, 0, 0, 0, 2, 0, 1, 1, 0]), (21, [16, 14], [27]), (21, [17, 14], [27]), (23, [18, 2], [0, 1, -1]), (23, [18, 2], [0, -1, 1]), (23, [19, 3], [0, 1, -1]), (23, [19, 3], [0, -1, 1]), (23, [12, 14], [0, 1, -1]), (23, [13, 14], [0, 1, -1]), (20, [14, 12, 13], [50, 0, 0, 3, 6, 1, 2, 1, 0, 1, 1, 1, 2, 1, 0, 1, 2]), (20, [6], [50, 0, 0, 0, 2, 0, 3, 1, 0]), (24, [1, 6], []), (24, [0, 5], []), (20, [15, 15, 16, 17, 14, 18, 19], [61, 2, 921]), (20, [5, 23, 24], [60, 1, 1, 901, 3, 2]), (20, [25, 5], [50, 1, 0, 1003, 0, 6, 4, 2, 1, 0, 0, 3, 2, 1, 3]), (102, [25], [10141204801825835211973625643008, 7003]), (23, [23, 2], [0, 1, -1]), (23, [23, 2], [0, -1, 1]), (23, [24, 3], [0, 1, -1]), (23, [24, 3], [0, -1, 1]), (23, [25, 4], [0, 1, -1]), (23, [25, 4], [0, -1, 1]), (21, [16, 14], [27]), (21, [17, 14], [27]), (23, [18, 2], [0, 1, -1]), (23, [18, 2], [0, -1, 1]), (23, [19, 3], [0, 1, -1]), (23, [19, 3], [0, -1, 1]), (23, [12, 14], [0, 1, -1]), (23, [13, 14], [0, 1, -1]), (102, [19], [81129638414606681695789005144064]), (21, [16, 14], [27]), (21, [17, 14], [27]), (23, [18, 2], [0, 1, -1]), (23, [18, 2], [0, -1, 1]), (23, [19, 3], [0, 1, -1]), (23, [19, 3], [0, -1, 1]), (23, [12, 14], [0, 1, -1]), (23, [13, 14], [0, 1, -1]), (2, [12, 6, 11], [])], [], [], [(20, [0, 2, 3], [60, 1, 1, 901, 3, 2]), (20, [4, 0], [50, 1, 0, 1003, 0, 6, 4, 2, 1, 0, 0, 3, 2, 1, 3])], [], [(12, 6, -2, -2), (12, 1, -4294967296, -2), (1, 6, -4294967296, 0), (6, 1, -4294967296, 0)])
theorem oo_Pn_insertWay_5 {kA : Nat → ClassId} : or_ok PRD kA GG o_Pn_insertWay_5 := by
  refine or_mk fun A ta ws vs hD hth hl => ?_
  intro t0 r0 t1 k1 t2 k2 t3 k3 t4 k4 t5 r5 t6 k6 t11 k11 t12 k12 t13 k13 t14 k14 t15 r15 t16 k16 t17 k17 t18 k18 t19 k19 t22 k22 t23 k23 t24 k24 t25 k25 d0 d1 d2 d3 f0 f1 f2 f3 f4 f5 f6 f7 f8 f9 f10 f11 f12 f13 f14 f15 f16 f17 f18 f19 f20 f21 f22 f23 f24 ta1 w1 le1 s1 f26 f27 f28 f29 f30 f31 f32 f33 f34 f35 f36 f37 f38 f39 ta2 w2 le2 s2 f41 f42 f43 f44 f45 f46 f47 f48 f49
  replace f21 := shm_5 f21
  replace f23 := shm_912 f23
  replace f24 := shm_913 f24
  have q5 : n_v vs 5 = n_v vs 0 := f21.symm
  simp only [q5] at f23 f24
  have kz_0_3 := fdq_13 hD hth r0
  have nf0 : fc_1 PRD (20, [0, 2, 3], [60, 1, 1, 901, 3, 2]) ws (vs) := ⟨nf_in hl rfl, sgq_912 (vc_Pn_insertWay_5_0 (v_iv (n_v vs 2)) (v_iv (n_v vs 3)) (v_iv (n_v vs 18)) (v_iv (n_v vs 19)) (v_iv (n_v vs 23)) (v_iv (n_v vs 24)) (w_ei ws (w_ar ws (n_v vs 0) 2)) (w_fi ws (n_v vs 0) 3) k2 k3 k23 k24 (shm_7 f1) (shm_22 f2) (shm_7 f3) (shm_22 f4) f23 kz_0_3)⟩
  have nf1 : fc_1 PRD (20, [4, 0], [50, 1, 0, 1003, 0, 6, 4, 2, 1, 0, 0, 3, 2, 1, 3]) ws (vs) := ⟨nf_in hl rfl, sgq_913 (vc_Pn_insertWay_5_1 (v_iv (n_v vs 4)) (v_iv (n_v vs 25)) (w_fi ws (n_v vs 0) 3) k4 k25 (shm_7 f5) (shm_22 f6) f24 kz_0_3)⟩
  refine ⟨(fun _ h => (by cases h)), [], trivial, ?_, (fun _ h => (by cases h))⟩
  rw [List.append_nil]
  exact List.forall_mem_cons.mpr ⟨⟨show (20 : Nat) < 100 from by decide, nf0⟩, List.forall_mem_cons.mpr ⟨⟨show (20 : Nat) < 100 from by decide, nf1⟩, (fun _ h => (by cases h))⟩⟩
set_option maxHeartbeats 4000000 in
theorem vc_Pn_insertWay_6_0 (x1 : Int) (x10 : Int) (x15 : Int) (level_0 : Int → Int) (k1 : 0 ≤ x1 ∧ x1 ≤ 0) (k15 : 0 ≤ x15 ∧ x15 ≤ 0) (f11 : 3 ≤ x1) : LVW (level_0) (x15) := by
  first
    | exact lvw_start (by omega)
set_option maxHeartbeats 4000000 in
theorem vc_Pn_insertWay_6_1 (x1 : Int) (x15 : Int) (k1 : 0 ≤ x1 ∧ x1 ≤ 0) (k15 : 0 ≤ x15 ∧ x15 ≤ 0) (f11 : 3 ≤ x1) : 0 ≤ x15 := by
  first
    | omega
  
set_option maxHeartbeats 4000000 in
theorem vc_Pn_insertWay_6_2 (x1 : Int) (x2 : Int) (x3 : Int) (x10 : Int) (x13 : Int) (x14 : Int) (x15 : Int) (way_0 : Int → Int) (level_0 : Int → Int) (k1 : 0 ≤ x1 ∧ x1 ≤ 0) (k2 : (-2147483648) ≤ x2 ∧ x2 ≤ 2147483647) (k3 : (-2147483648) ≤ x3 ∧ x3 ≤ 2147483647) (k14 : 0 ≤ x14 ∧ x14 ≤ 0) (k15 : 0 ≤ x15 ∧ x15 ≤ 0) (f11 : 3 ≤ x1) : LVR (level_0) (way_0) (x2) (x3) (x14) (x15) := by
  first
    | (exfalso; omega)
set_option maxHeartbeats 4000000 in
theorem vc_Pn_insertWay_6_3 (x1 : Int) (x14 : Int) (k1 : 0 ≤ x1 ∧ x1 ≤ 0) (k14 : 0 ≤ x14 ∧ x14 ≤ 0) (f11 : 3 ≤ x1) : 1 ≤ x14 := by
  first
    | omega
  
def o_Pn_insertWay_6 : or_T := (119, 16, [(0, (2, 0, 0, [7])), (1, (0, 0, 0, [])), (2, (0, -2147483648, 2147483647, [])), (3, (0, -2147483648, 2147483647, [])), (4, (0, 0, 24, [])), (5, (2, 0, 0, [7])), (6, (0, 0, 0, [])), (7, (0, 0, 23, [])), (8, (0, 0, 23, [])), (9, (0, 0, 23, [])), (10, (0, 1, 24, [])), (11, (0, 2, 2, [])), (12, (0, -2, -2, [])), (13, (0, 0, 0, [])), (14, (0, 0, 0, [])), (15, (0, 0, 0, []))], [(7, [7, 8], [3]), (23, [12, 14], [0, 1, -1]), (23, [13, 14], [0, 1, -1]), (2, [12, 6, 11], []), (8, [6], [5]), (7, [9, 10], [2]), (9, [10, 5], [3]), (20, [5, 2, 3], [60, 1, 1, 900, 3, 2]), (20, [7, 5], [50, 1, 0, 1003, 2, 6, 0, 2, 0, 0, 1, 0, 0, 6, 4, 2, 1, 0, 0, 1, 2, 1, 3]), (20, [4, 5], [50, 1, 0, 1003, 0, 6, 4, 2, 1, 0, 0, 2, 2, 1, 3]), (20, [5, 2, 3, 6], [60, 0, 1, 908, 6]), (20, [6], [50, 0, 0, 0, 2, 0, 3, 1, 0]), (24, [1, 6], []), (24, [0, 5], [])], [], [], [(20, [5, 15], [60, 0, 1, 645, 5]), (20, [15], [50, 0, 0, 0, 2, 0, 0, 1, 0]), (20, [5, 2, 3, 14, 15], [60, 0, 2, 910, 5, 6]), (20, [14], [50, 0, 0, 0, 2, 0, 1, 1, 0])], [], [(7, 8, 0, 4294967296), (9, 10, -4294967296, -1), (7, 9, -4294967296, 0), (8, 9, -4294967296, 0)])
theorem oo_Pn_insertWay_6 {kA : Nat → ClassId} : or_ok PRD kA GG o_Pn_insertWay_6 := by
  refine or_mk fun A ta ws vs hD hth hl => ?_
  intro t0 r0 t1 k1 t2 k2 t3 k3 t4 k4 t5 r5 t6 k6 t7 k7 t8 k8 t9 k9 t10 k10 t11 k11 t12 k12 t13 k13 t14 k14 t15 k15 d0 d1 d2 d3 f0 f1 f2 f3 f4 f5 f6 f7 f8 f9 f10 f11 f12 f13
  replace f11 := shm_1207 f11
  replace f12 := shm_5 f12
  replace f13 := shm_5 f13
  have q6 : n_v vs 6 = n_v vs 1 := f12.symm
  have q5 : n_v vs 5 = n_v vs 0 := f13.symm
  simp only [q6] at f11
  have nf0 : fc_1 PRD (20, [5, 15], [60, 0, 1, 645, 5]) ws (vs) := by
    refine ⟨nf_in hl rfl, sgq_1209 ?_⟩
    · show LVW (w_ei ws (w_ar ws (n_v vs 5) 5)) (v_iv (n_v vs 15))
      rw [q5]
      exact vc_Pn_insertWay_6_0 (v_iv (n_v vs 1)) (v_iv (n_v vs 10)) (v_iv (n_v vs 15)) (w_ei ws (w_ar ws (n_v vs 0) 5)) k1 k15 f11
  have nf1 : fc_1 PRD (20, [15], [50, 0, 0, 0, 2, 0, 0, 1, 0]) ws (vs) := ⟨nf_in hl rfl, sgq_722 (vc_Pn_insertWay_6_1 (v_iv (n_v vs 1)) (v_iv (n_v vs 15)) k1 k15 f11)⟩
  have nf2 : fc_1 PRD (20, [5, 2, 3, 14, 15], [60, 0, 2, 910, 5, 6]) ws (vs) := by
    refine ⟨nf_in hl rfl, sgq_1210 ?_⟩
    · show LVR (w_ei ws (w_ar ws (n_v vs 5) 5)) (w_ei ws (w_ar ws (n_v vs 5) 6)) (v_iv (n_v vs 2)) (v_iv (n_v vs 3)) (v_iv (n_v vs 14)) (v_iv (n_v vs 15))
      rw [q5]
      exact vc_Pn_insertWay_6_2 (v_iv (n_v vs 1)) (v_iv (n_v vs 2)) (v_iv (n_v vs 3)) (v_iv (n_v vs 10)) (v_iv (n_v vs 13)) (v_iv (n_v vs 14)) (v_iv (n_v vs 15)) (w_ei ws (w_ar ws (n_v vs 0) 6)) (w_ei ws (w_ar ws (n_v vs 0) 5)) k1 k2 k3 k14 k15 f11
  have nf3 : fc_1 PRD (20, [14], [50, 0, 0, 0, 2, 0, 1, 1, 0]) ws (vs) := ⟨nf_in hl rfl, sgq_710 (vc_Pn_insertWay_6_3 (v_iv (n_v vs 1)) (v_iv (n_v vs 14)) k1 k14 f11)⟩
  refine ⟨(fun _ h => (by cases h)), [], trivial, ?_, (fun _ h => (by cases h))⟩
  rw [List.append_nil]
  exact List.forall_mem_cons.mpr ⟨⟨show (20 : Nat) < 100 from by decide, nf0⟩, List.forall_mem_cons.mpr ⟨⟨show (20 : Nat) < 100 from by decide, nf1⟩, List.forall_mem_cons.mpr ⟨⟨show (20 : Nat) < 100 from by decide, nf2⟩, List.forall_mem_cons.mpr ⟨⟨show (20 : Nat) < 100 from by decide, nf3⟩, (fun _ h => (by cases h))⟩⟩⟩⟩
set_option maxHeartbeats 4000000 in
theorem vc_Pn_insertWay_7_0 (x1 : Int) (x14 : Int) (x16 : Int) (k1 : 0 ≤ x1 ∧ x1 ≤ 0) (k14 : 0 ≤ x14 ∧ x14 ≤ 0) (k16 : 1 ≤ x16 ∧ x16 ≤ 1) (f12 : 3 ≤ x1) : x16 + x14 ≤ 27 := by
  first
    | omega
  
set_option maxHeartbeats 4000000 in
theorem vc_Pn_insertWay_7_1 (x1 : Int) (x14 : Int) (x17 : Int) (k1 : 0 ≤ x1 ∧ x1 ≤ 0) (k14 : 0 ≤ x14 ∧ x14 ≤ 0) (k17 : 0 ≤ x17 ∧ x17 ≤ 0) (f12 : 3 ≤ x1) : x17 + x14 ≤ 27 := by
  first
    | omega
  
set_option maxHeartbeats 4000000 in
theorem vc_Pn_insertWay_7_2 (x1 : Int) (x2 : Int) (gx : Int) (k1 : 0 ≤ x1 ∧ x1 ≤ 0) (k2 : (-2147483648) ≤ x2 ∧ x2 ≤ 2147483647) (f12 : 3 ≤ x1) : 1 * gx + ((-1) * x2 + 0) ≤ 0 := by
  first
    | omega
  
set_option maxHeartbeats 4000000 in
theorem vc_Pn_insertWay_7_3 (x1 : Int) (x2 : Int) (gx : Int) (k1 : 0 ≤ x1 ∧ x1 ≤ 0) (k2 : (-2147483648) ≤ x2 ∧ x2 ≤ 2147483647) (f12 : 3 ≤ x1) : (-1) * gx + (1 * x2 + 0) ≤ 0 := by
  first
    | omega
  
set_option maxHeartbeats 4000000 in
theorem vc_Pn_insertWay_7_4 (x1 : Int) (x3 : Int) (gy : Int) (k1 : 0 ≤ x1 ∧ x1 ≤ 0) (k3 : (-2147483648) ≤ x3 ∧ x3 ≤ 2147483647) (f12 : 3 ≤ x1) : 1 * gy + ((-1) * x3 + 0) ≤ 0 := by
  first
    | omega
  
set_option maxHeartbeats 4000000 in
theorem vc_Pn_insertWay_7_5 (x1 : Int) (x3 : Int) (gy : Int) (k1 : 0 ≤ x1 ∧ x1 ≤ 0) (k3 : (-2147483648) ≤ x3 ∧ x3 ≤ 2147483647) (f12 : 3 ≤ x1) : (-1) * gy + (1 * x3 + 0) ≤ 0 := by
  first
    | omega
  
set_option maxHeartbeats 4000000 in
theorem vc_Pn_insertWay_7_6 (x1 : Int) (x2 : Int) (x3 : Int) (x14 : Int) (x16 : Int) (x17 : Int) (way_0 : Int → Int) (gx : Int) (gy : Int) (k1 : 0 ≤ x1 ∧ x1 ≤ 0) (k14 : 0 ≤ x14 ∧ x14 ≤ 0) (k16 : 1 ≤ x16 ∧ x16 ≤ 1) (k17 : 0 ≤ x17 ∧ x17 ≤ 0) (f12 : 3 ≤ x1) : DW1 (way_0) (way_0) (x16) (x17) (x14) (gx) (gy) := by
  first
    | (exfalso; omega)
    | (rw [show gx = x2 by omega, show gy = x3 by omega]; exact ⟨by omega, by rw [show x14 + 2 = x1 by omega]; assumption⟩)
def o_Pn_insertWay_7 : or_T := (100, 18, [(0, (2, 0, 0, [7])), (1, (0, 0, 0, [])), (2, (0, -2147483648, 2147483647, [])), (3, (0, -2147483648, 2147483647, [])), (4, (0, 0, 24, [])), (5, (2, 0, 0, [7])), (6, (0, 0, 0, [])), (7, (0, 0, 22, [])), (8, (0, 1, 23, [])), (9, (0, 1, 23, [])), (10, (0, 1, 24, [])), (11, (0, 2, 2, [])), (12, (0, -2, -2, [])), (13, (0, 0, 0, [])), (14, (0, 0, 0, [])), (15, (2, 0, 0, [106])), (16, (0, 1, 1, [])), (17, (0, 0, 0, []))], [(9, [15, 5], [6]), (7, [7, 8], [2]), (23, [12, 14], [0, 1, -1]), (23, [13, 14], [0, 1, -1]), (2, [12, 6, 11], []), (8, [6], [5]), (7, [9, 10], [2]), (9, [10, 5], [3]), (20, [5, 2, 3], [60, 1, 1, 900, 3, 2]), (20, [7, 5], [50, 1, 0, 1003, 2, 6, 0, 2, 0, 0, 1, 0, 0, 6, 4, 2, 1, 0, 0, 1, 2, 1, 3]), (20, [4, 5], [50, 1, 0, 1003, 0, 6, 4, 2, 1, 0, 0, 2, 2, 1, 3]), (20, [5, 2, 3, 6], [60, 0, 1, 908, 6]), (20, [6], [50, 0, 0, 0, 2, 0, 3, 1, 0]), (24, [1, 6], []), (24, [0, 5], [])], [], [(0, -2147483648, 2147483647, []), (0, -2147483648, 2147483647, [])], [(21, [16, 14], [27]), (21, [17, 14], [27]), (23, [18, 2], [0, 1, -1]), (23, [18, 2], [0, -1, 1]), (23, [19, 3], [0, 1, -1]), (23, [19, 3], [0, -1, 1]), (20, [15, 15, 16, 17, 14, 18, 19], [61, 2, 920])], [], [(7, 8, -4294967296, -1), (9, 10, -4294967296, -1), (7, 9, -4294967296, 0), (8, 9, -4294967296, 0)])
theorem oo_Pn_insertWay_7 {kA : Nat → ClassId} : or_ok PRD kA GG o_Pn_insertWay_7 := by
  refine or_mk fun A ta ws vs hD hth hl => ?_
  intro t0 r0 t1 k1 t2 k2 t3 k3 t4 k4 t5 r5 t6 k6 t7 k7 t8 k8 t9 k9 t10 k10 t11 k11 t12 k12 t13 k13 t14 k14 t15 r15 t16 k16 t17 k17 d0 d1 d2 d3 f0 f1 f2 f3 f4 f5 f6 f7 f8 f9 f10 f11 f12 f13 f14
  replace f0 := shm_111 f0
  replace f12 := shm_1207 f12
  replace f13 := shm_5 f13
  replace f14 := shm_5 f14
  have q6 : n_v vs 6 = n_v vs 1 := f13.symm
  have q5 : n_v vs 5 = n_v vs 0 := f14.symm
  simp only [q5, q6] at f0 f12
  have ad_15 : v_ad (n_v vs 15) = w_ar ws (n_v vs 0) 6 := congrArg v_ad f0
  obtain ⟨x, ex, hx⟩ := iv_ex (ta := ta) (lo := (-2147483648)) (hi := 2147483647) (z := v_iv (n_v vs 2)) (by omega) (by omega) (by omega) (by omega)
  have ex2 : v_iv (Value.int x) = v_iv (n_v vs 2) := ex
  have ex3 : (-2147483648) ≤ v_iv (Value.int x) ∧ v_iv (Value.int x) ≤ 2147483647 := tv_rng hx
  obtain ⟨y, ey, hy⟩ := iv_ex (ta := ta) (lo := (-2147483648)) (hi := 2147483647) (z := v_iv (n_v vs 3)) (by omega) (by omega) (by omega) (by omega)
  have ey2 : v_iv (Value.int y) = v_iv (n_v vs 3) := ey
  have ey3 : (-2147483648) ≤ v_iv (Value.int y) ∧ v_iv (Value.int y) ≤ 2147483647 := tv_rng hy
  have e_2 : n_v (vs ++ [Value.int x, Value.int y]) 2 = n_v vs 2 := n_v_old (by rw [hl]; decide)
  have e_3 : n_v (vs ++ [Value.int x, Value.int y]) 3 = n_v vs 3 := n_v_old (by rw [hl]; decide)
  have e_14 : n_v (vs ++ [Value.int x, Value.int y]) 14 = n_v vs 14 := n_v_old (by rw [hl]; decide)
  have e_15 : n_v (vs ++ [Value.int x, Value.int y]) 15 = n_v vs 15 := n_v_old (by rw [hl]; decide)
  have e_16 : n_v (vs ++ [Value.int x, Value.int y]) 16 = n_v vs 16 := n_v_old (by rw [hl]; decide)
  have e_17 : n_v (vs ++ [Value.int x, Value.int y]) 17 = n_v vs 17 := n_v_old (by rw [hl]; decide)
  have e_18 : n_v (vs ++ [Value.int x, Value.int y]) 18 = Value.int x := n_v_new0 hl
  have e_19 : n_v (vs ++ [Value.int x, Value.int y]) 19 = Value.int y := n_v_new1 hl
  have nf0 : fc_1 PRD (21, [16, 14], [27]) ws (vs ++ [Value.int x, Value.int y]) := by
    refine ⟨nf_inA hl rfl, sgq_141 ?_⟩
    · show v_iv (n_v (vs ++ [Value.int x, Value.int y]) 16) + v_iv (n_v (vs ++ [Value.int x, Value.int y]) 14) ≤ 27
      simp only [e_14, e_16]
      exact vc_Pn_insertWay_7_0 (v_iv (n_v vs 1)) (v_iv (n_v vs 14)) (v_iv (n_v vs 16)) k1 k14 k16 f12
  have nf1 : fc_1 PRD (21, [17, 14], [27]) ws (vs ++ [Value.int x, Value.int y]) := by
    refine ⟨nf_inA hl rfl, sgq_141 ?_⟩
    · show v_iv (n_v (vs ++ [Value.int x, Value.int y]) 17) + v_iv (n_v (vs ++ [Value.int x, Value.int y]) 14) ≤ 27
      simp only [e_14, e_17]
      exact vc_Pn_insertWay_7_1 (v_iv (n_v vs 1)) (v_iv (n_v vs 14)) (v_iv (n_v vs 17)) k1 k14 k17 f12
  have nf2 : fc_1 PRD (23, [18, 2], [0, 1, -1]) ws (vs ++ [Value.int x, Value.int y]) := by
    refine ⟨nf_inA hl rfl, sgq_7 ?_⟩
    · show 1 * v_iv (n_v (vs ++ [Value.int x, Value.int y]) 18) + ((-1) * v_iv (n_v (vs ++ [Value.int x, Value.int y]) 2) + 0) ≤ 0
      simp only [e_2, e_18]
      exact vc_Pn_insertWay_7_2 (v_iv (n_v vs 1)) (v_iv (n_v vs 2)) (v_iv (Value.int x)) k1 k2 f12
  have nf3 : fc_1 PRD (23, [18, 2], [0, -1, 1]) ws (vs ++ [Value.int x, Value.int y]) := by
    refine ⟨nf_inA hl rfl, sgq_22 ?_⟩
    · show (-1) * v_iv (n_v (vs ++ [Value.int x, Value.int y]) 18) + (1 * v_iv (n_v (vs ++ [Value.int x, Value.int y]) 2) + 0) ≤ 0
      simp only [e_2, e_18]
      exact vc_Pn_insertWay_7_3 (v_iv (n_v vs 1)) (v_iv (n_v vs 2)) (v_iv (Value.int x)) k1 k2 f12
  have nf4 : fc_1 PRD (23, [19, 3], [0, 1, -1]) ws (vs ++ [Value.int x, Value.int y]) := by
    refine ⟨nf_inA hl rfl, sgq_7 ?_⟩
    · show 1 * v_iv (n_v (vs ++ [Value.int x, Value.int y]) 19) + ((-1) * v_iv (n_v (vs ++ [Value.int x, Value.int y]) 3) + 0) ≤ 0
      simp only [e_3, e_19]
      exact vc_Pn_insertWay_7_4 (v_iv (n_v vs 1)) (v_iv (n_v vs 3)) (v_iv (Value.int y)) k1 k3 f12
  have nf5 : fc_1 PRD (23, [19, 3], [0, -1, 1]) ws (vs ++ [Value.int x, Value.int y]) := by
    refine ⟨nf_inA hl rfl, sgq_22 ?_⟩
    · show (-1) * v_iv (n_v (vs ++ [Value.int x, Value.int y]) 19) + (1 * v_iv (n_v (vs ++ [Value.int x, Value.int y]) 3) + 0) ≤ 0
      simp only [e_3, e_19]
      exact vc_Pn_insertWay_7_5 (v_iv (n_v vs 1)) (v_iv (n_v vs 3)) (v_iv (Value.int y)) k1 k3 f12
  have nf6 : fc_1 PRD (20, [15, 15, 16, 17, 14, 18, 19], [61, 2, 920]) ws (vs ++ [Value.int x, Value.int y]) := by
    refine ⟨nf_inA hl rfl, sgq_1211 ?_⟩
    · show DW1 (w_ei ws (v_ad (n_v (vs ++ [Value.int x, Value.int y]) 15))) (w_ei ws (v_ad (n_v (vs ++ [Value.int x, Value.int y]) 15))) (v_iv (n_v (vs ++ [Value.int x, Value.int y]) 16)) (v_iv (n_v (vs ++ [Value.int x, Value.int y]) 17)) (v_iv (n_v (vs ++ [Value.int x, Value.int y]) 14)) (v_iv (n_v (vs ++ [Value.int x, Value.int y]) 18)) (v_iv (n_v (vs ++ [Value.int x, Value.int y]) 19))
      simp only [e_14, e_15, e_16, e_17, e_18, e_19, ad_15]
      exact vc_Pn_insertWay_7_6 (v_iv (n_v vs 1)) (v_iv (n_v vs 2)) (v_iv (n_v vs 3)) (v_iv (n_v vs 14)) (v_iv (n_v vs 16)) (v_iv (n_v vs 17)) (w_ei ws (w_ar ws (n_v vs 0) 6)) (v_iv (Value.int x)) (v_iv (Value.int y)) k1 k14 k16 k17 f12
  exact ⟨(fun _ h => (by cases h)), [Value.int x, Value.int y], ag_two hx hy, List.forall_mem_cons.mpr ⟨⟨show (21 : Nat) < 100 from by decide, nf0⟩, List.forall_mem_cons.mpr ⟨⟨show (21 : Nat) < 100 from by decide, nf1⟩, List.forall_mem_cons.mpr ⟨⟨show (23 : Nat) < 100 from by decide, nf2⟩, List.forall_mem_cons.mpr ⟨⟨show (23 : Nat) < 100 from by decide, nf3⟩, List.forall_mem_cons.mpr ⟨⟨show (23 : Nat) < 100 from by decide, nf4⟩, List.forall_mem_cons.mpr ⟨⟨show (23 : Nat) < 100 from by decide, nf5⟩, List.forall_mem_cons.mpr ⟨⟨show (20 : Nat) < 100 from by decide, nf6⟩, (fun _ h => (by cases h))⟩⟩⟩⟩⟩⟩⟩, (fun _ h => (by cases h))⟩
set_option maxHeartbeats 4000000 in
theorem vc_Pn_insertWay_8_0 (x1 : Int) (x2 : Int) (gx : Int) (k1 : 0 ≤ x1 ∧ x1 ≤ 0) (k2 : (-2147483648) ≤ x2 ∧ x2 ≤ 2147483647) (f14 : 3 ≤ x1) : 1 * gx + ((-1) * x2 + 0) ≤ 0 := by
  first
    | omega
  
set_option maxHeartbeats 4000000 in
theorem vc_Pn_insertWay_8_1 (x1 : Int) (x2 : Int) (gx : Int) (k1 : 0 ≤ x1 ∧ x1 ≤ 0) (k2 : (-2147483648) ≤ x2 ∧ x2 ≤ 2147483647) (f14 : 3 ≤ x1) : (-1) * gx + (1 * x2 + 0) ≤ 0 := by
  first
    | omega
  
set_option maxHeartbeats 4000000 in
theorem vc_Pn_insertWay_8_2 (x1 : Int) (x3 : Int) (gy : Int) (k1 : 0 ≤ x1 ∧ x1 ≤ 0) (k3 : (-2147483648) ≤ x3 ∧ x3 ≤ 2147483647) (f14 : 3 ≤ x1) : 1 * gy + ((-1) * x3 + 0) ≤ 0 := by
  first
    | omega
  
set_option maxHeartbeats 4000000 in
theorem vc_Pn_insertWay_8_3 (x1 : Int) (x3 : Int) (gy : Int) (k1 : 0 ≤ x1 ∧ x1 ≤ 0) (k3 : (-2147483648) ≤ x3 ∧ x3 ≤ 2147483647) (f14 : 3 ≤ x1) : (-1) * gy + (1 * x3 + 0) ≤ 0 := by
  first
    | omega
  
set_option maxHeartbeats 4000000 in
theorem vc_Pn_insertWay_8_4 (x1 : Int) (x4 : Int) (gu : Int) (k1 : 0 ≤ x1 ∧ x1 ≤ 0) (k4 : 0 ≤ x4 ∧ x4 ≤ 24) (f14 : 3 ≤ x1) : 1 * gu + ((-1) * x4 + 0) ≤ 0 := by
  first
    | omega
  
set_option maxHeartbeats 4000000 in
theorem vc_Pn_insertWay_8_5 (x1 : Int) (x4 : Int) (gu : Int) (k1 : 0 ≤ x1 ∧ x1 ≤ 0) (k4 : 0 ≤ x4 ∧ x4 ≤ 24) (f14 : 3 ≤ x1) : (-1) * gu + (1 * x4 + 0) ≤ 0 := by
  first
    | omega
  
set_option maxHeartbeats 4000000 in
theorem vc_Pn_insertWay_8_6 (x2 : Int) (x3 : Int) (lineLength_0 : Int) (line_0 : Int → Int) (gx : Int) (gy : Int) (k2 : (-2147483648) ≤ x2 ∧ x2 ≤ 2147483647) (k3 : (-2147483648) ≤ x3 ∧ x3 ≤ 2147483647) (f11 : OFL (lineLength_0) (line_0) (x2) (x3)) (kz_0_3 : 0 ≤ lineLength_0 ∧ lineLength_0 ≤ 24) (ex2 : gx = x2) (ey2 : gy = x3) : OFL (lineLength_0) (line_0) (gx) (gy) := by
  first
    | assumption
    | (rw [show gx = x2 by omega, show gy = x3 by omega]; assumption)
set_option maxHeartbeats 4000000 in
theorem vc_Pn_insertWay_8_7 (x1 : Int) (x2 : Int) (x3 : Int) (x14 : Int) (x16 : Int) (x18 : Int) (x19 : Int) (way_0 : Int → Int) (gx : Int) (gy : Int) (k1 : 0 ≤ x1 ∧ x1 ≤ 0) (k14 : 0 ≤ x14 ∧ x14 ≤ 0) (f14 : 3 ≤ x1) : EWJ (way_0) (gx) (gy) (x14) := by
  first
    | (exfalso; omega)
    | (have h := (‹DW2 _ _ _ _ _ _ _›); rw [show x18 = x2 by omega, show x19 = x3 by omega] at h; rw [show gx = x2 by omega, show gy = x3 by omega]; exact h)
    | (have h := (‹DV2 _ _ _ _ _ _ _›); rw [show x15 = x2 by omega, show x16 = x3 by omega] at h; rw [show gx = x2 by omega, show gy = x3 by omega]; exact h)
set_option maxHeartbeats 4000000 in
theorem vc_Pn_insertWay_8_8 (x1 : Int) (x21 : Int) (lineLength_0 : Int) (k1 : 0 ≤ x1 ∧ x1 ≤ 0) (k21 : 1 ≤ x21 ∧ x21 ≤ 23) (f14 : 3 ≤ x1) (kz_0_3 : 0 ≤ lineLength_0 ∧ lineLength_0 ≤ 24) : (0 ≤ x21) ∧ (x21 ≤ lineLength_0) := by
  first
    | omega
  
set_option maxHeartbeats 4000000 in
theorem vc_Pn_insertWay_8_9 (x1 : Int) (x22 : Int) (k1 : 0 ≤ x1 ∧ x1 ≤ 0) (k22 : 0 ≤ x22 ∧ x22 ≤ 0) (f14 : 3 ≤ x1) : x22 = 0 := by
  first
    | omega
  
set_option maxHeartbeats 4000000 in
theorem vc_Pn_insertWay_8_10 (x1 : Int) (x14 : Int) (k1 : 0 ≤ x1 ∧ x1 ≤ 0) (k14 : 0 ≤ x14 ∧ x14 ≤ 0) (f14 : 3 ≤ x1) : 1 ≤ x14 := by
  first
    | omega
  
set_option maxHeartbeats 4000000 in
theorem vc_Pn_insertWay_8_11 (x1 : Int) (lineLength_0 : Int) (gu : Int) (k1 : 0 ≤ x1 ∧ x1 ≤ 0) (f14 : 3 ≤ x1) (kz_0_3 : 0 ≤ lineLength_0 ∧ lineLength_0 ≤ 24) : (gu + 2) ≤ lineLength_0 := by
  first
    | omega
  
def o_Pn_insertWay_8 : or_T := (110, 23, [(0, (2, 0, 0, [7])), (1, (0, 0, 0, [])), (2, (0, -2147483648, 2147483647, [])), (3, (0, -2147483648, 2147483647, [])), (4, (0, 0, 24, [])), (5, (2, 0, 0, [7])), (6, (0, 0, 0, [])), (7, (0, 0, 22, [])), (8, (0, 1, 23, [])), (9, (0, 1, 23, [])), (10, (0, 1, 24, [])), (11, (0, 2, 2, [])), (12, (0, -2, -2, [])), (13, (0, 0, 0, [])), (14, (0, 0, 0, [])), (15, (2, 0, 0, [106])), (16, (0, 1, 1, [])), (17, (0, 0, 0, [])), (18, (0, -2147483648, 2147483647, [])), (19, (0, -2147483648, 2147483647, [])), (20, (0, 1, 1, [])), (21, (0, 1, 23, [])), (22, (0, 0, 0, []))], [(9, [15, 5], [6]), (9, [10, 5], [3]), (1, [21, 7, 20], []), (21, [16, 14], [27]), (21, [17, 14], [27]), (23, [18, 2], [0, 1, -1]), (23, [18, 2], [0, -1, 1]), (23, [19, 3], [0, 1, -1]), (23, [19, 3], [0, -1, 1]), (23, [12, 14], [0, 1, -1]), (23, [13, 14], [0, 1, -1]), (20, [5, 2, 3], [60, 1, 1, 900, 3, 2]), (20, [7, 5], [50, 1, 0, 1003, 2, 6, 0, 2, 0, 0, 1, 0, 0, 6, 4, 2, 1, 0, 0, 1, 2, 1, 3]), (20, [4, 5], [50, 1, 0, 1003, 0, 6, 4, 2, 1, 0, 0, 2, 2, 1, 3]), (20, [6], [50, 0, 0, 0, 2, 0, 3, 1, 0]), (24, [1, 6], []), (24, [0, 5], []), (20, [15, 15, 16, 17, 14, 18, 19], [61, 2, 921]), (102, [19], [81129638414606681695789005144064]), (21, [16, 14], [27]), (21, [17, 14], [27]), (23, [18, 2], [0, 1, -1]), (23, [18, 2], [0, -1, 1]), (23, [19, 3], [0, 1, -1]), (23, [19, 3], [0, -1, 1]), (7, [7, 8], [2]), (23, [12, 14], [0, 1, -1]), (23, [13, 14], [0, 1, -1]), (2, [12, 6, 11], []), (8, [6], [5]), (7, [9, 10], [2])], [], [(0, -2147483648, 2147483647, []), (0, -2147483648, 2147483647, []), (0, 0, 24, [])], [(23, [23, 2], [0, 1, -1]), (23, [23, 2], [0, -1, 1]), (23, [24, 3], [0, 1, -1]), (23, [24, 3], [0, -1, 1]), (23, [25, 4], [0, 1, -1]), (23, [25, 4], [0, -1, 1]), (20, [5, 23, 24], [60, 1, 1, 900, 3, 2]), (20, [5, 23, 24, 14], [60, 0, 1, 909, 6]), (20, [21, 5], [50, 1, 0, 1003, 2, 6, 0, 2, 0, 0, 1, 0, 0, 2, 1, 0, 2, 1, 3]), (20, [22], [50, 0, 0, 1, 2, 1, 0, 0, 0]), (20, [14], [50, 0, 0, 0, 2, 0, 1, 1, 0]), (20, [25, 5], [50, 1, 0, 1003, 0, 6, 4, 2, 1, 0, 0, 2, 2, 1, 3])], [], [(21, 7, 1, 1), (21, 8, -4294967296, 0), (21, 9, -4294967296, 1), (7, 8, -4294967296, -1), (9, 10, -4294967296, -1), (7, 9, -4294967296, 0), (8, 9, -4294967296, 0)])
theorem oo_Pn_insertWay_8 {kA : Nat → ClassId} : or_ok PRD kA GG o_Pn_insertWay_8 := by
  refine or_mk fun A ta ws vs hD hth hl => ?_
  intro t0 r0 t1 k1 t2 k2 t3 k3 t4 k4 t5 r5 t6 k6 t7 k7 t8 k8 t9 k9 t10 k10 t11 k11 t12 k12 t13 k13 t14 k14 t15 r15 t16 k16 t17 k17 t18 k18 t19 k19 t20 k20 t21 k21 t22 k22 d0 d1 d2 d3 d4 d5 d6 f0 f1 f2 f3 f4 f5 f6 f7 f8 f9 f10 f11 f12 f13 f14 f15 f16 f17 ta1 w1 le1 s1 f19 f20 f21 f22 f23 f24 f25 f26 f27 f28 f29 f30
  replace f11 := shm_908 f11
  replace f14 := shm_1207 f14
  replace f15 := shm_5 f15
  replace f16 := shm_5 f16
  have q6 : n_v vs 6 = n_v vs 1 := f15.symm
  have q5 : n_v vs 5 = n_v vs 0 := f16.symm
  simp only [q5, q6] at f11 f14
  have kz_0_3 := fdq_13 hD hth r0
  obtain ⟨x, ex, hx⟩ := iv_ex (ta := ta) (lo := (-2147483648)) (hi := 2147483647) (z := v_iv (n_v vs 2)) (by omega) (by omega) (by omega) (by omega)
  have ex2 : v_iv (Value.int x) = v_iv (n_v vs 2) := ex
  have ex3 : (-2147483648) ≤ v_iv (Value.int x) ∧ v_iv (Value.int x) ≤ 2147483647 := tv_rng hx
  obtain ⟨y, ey, hy⟩ := iv_ex (ta := ta) (lo := (-2147483648)) (hi := 2147483647) (z := v_iv (n_v vs 3)) (by omega) (by omega) (by omega) (by omega)
  have ey2 : v_iv (Value.int y) = v_iv (n_v vs 3) := ey
  have ey3 : (-2147483648) ≤ v_iv (Value.int y) ∧ v_iv (Value.int y) ≤ 2147483647 := tv_rng hy
  obtain ⟨u, eu, hu⟩ := iv_ex (ta := ta) (lo := 0) (hi := 24) (z := v_iv (n_v vs 4)) (by omega) (by omega) (by omega) (by omega)
  have eu2 : v_iv (Value.int u) = v_iv (n_v vs 4) := eu
  have eu3 : 0 ≤ v_iv (Value.int u) ∧ v_iv (Value.int u) ≤ 24 := tv_rng hu
  have e_2 : n_v (vs ++ [Value.int x, Value.int y, Value.int u]) 2 = n_v vs 2 := n_v_old (by rw [hl]; decide)
  have e_3 : n_v (vs ++ [Value.int x, Value.int y, Value.int u]) 3 = n_v vs 3 := n_v_old (by rw [hl]; decide)
  have e_4 : n_v (vs ++ [Value.int x, Value.int y, Value.int u]) 4 = n_v vs 4 := n_v_old (by rw [hl]; decide)
  have e_5 : n_v (vs ++ [Value.int x, Value.int y, Value.int u]) 5 = n_v vs 5 := n_v_old (by rw [hl]; decide)
  have e_14 : n_v (vs ++ [Value.int x, Value.int y, Value.int u]) 14 = n_v vs 14 := n_v_old (by rw [hl]; decide)
  have e_21 : n_v (vs ++ [Value.int x, Value.int y, Value.int u]) 21 = n_v vs 21 := n_v_old (by rw [hl]; decide)
  have e_22 : n_v (vs ++ [Value.int x, Value.int y, Value.int u]) 22 = n_v vs 22 := n_v_old (by rw [hl]; decide)
  have e_23 : n_v (vs ++ [Value.int x, Value.int y, Value.int u]) 23 = Value.int x := n_v_newk (k := 0) hl rfl
  have e_24 : n_v (vs ++ [Value.int x, Value.int y, Value.int u]) 24 = Value.int y := n_v_newk (k := 1) hl rfl
  have e_25 : n_v (vs ++ [Value.int x, Value.int y, Value.int u]) 25 = Value.int u := n_v_newk (k := 2) hl rfl
  have nf0 : fc_1 PRD (23, [23, 2], [0, 1, -1]) ws (vs ++ [Value.int x, Value.int y, Value.int u]) := by
    refine ⟨nf_inA hl rfl, sgq_7 ?_⟩
    · show 1 * v_iv (n_v (vs ++ [Value.int x, Value.int y, Value.int u]) 23) + ((-1) * v_iv (n_v (vs ++ [Value.int x, Value.int y, Value.int u]) 2) + 0) ≤ 0
      simp only [e_2, e_23]
      exact vc_Pn_insertWay_8_0 (v_iv (n_v vs 1)) (v_iv (n_v vs 2)) (v_iv (Value.int x)) k1 k2 f14
  have nf1 : fc_1 PRD (23, [23, 2], [0, -1, 1]) ws (vs ++ [Value.int x, Value.int y, Value.int u]) := by
    refine ⟨nf_inA hl rfl, sgq_22 ?_⟩
    · show (-1) * v_iv (n_v (vs ++ [Value.int x, Value.int y, Value.int u]) 23) + (1 * v_iv (n_v (vs ++ [Value.int x, Value.int y, Value.int u]) 2) + 0) ≤ 0
      simp only [e_2, e_23]
      exact vc_Pn_insertWay_8_1 (v_iv (n_v vs 1)) (v_iv (n_v vs 2)) (v_iv (Value.int x)) k1 k2 f14
  have nf2 : fc_1 PRD (23, [24, 3], [0, 1, -1]) ws (vs ++ [Value.int x, Value.int y, Value.int u]) := by
    refine ⟨nf_inA hl rfl, sgq_7 ?_⟩
    · show 1 * v_iv (n_v (vs ++ [Value.int x, Value.int y, Value.int u]) 24) + ((-1) * v_iv (n_v (vs ++ [Value.int x, Value.int y, Value.int u]) 3) + 0) ≤ 0
      simp only [e_3, e_24]
      exact vc_Pn_insertWay_8_2 (v_iv (n_v vs 1)) (v_iv (n_v vs 3)) (v_iv (Value.int y)) k1 k3 f14
  have nf3 : fc_1 PRD (23, [24, 3], [0, -1, 1]) ws (vs ++ [Value.int x, Value.int y, Value.int u]) := by
    refine ⟨nf_inA hl rfl, sgq_22 ?_⟩
    · show (-1) * v_iv (n_v (vs ++ [Value.int x, Value.int y, Value.int u]) 24) + (1 * v_iv (n_v (vs ++ [Value.int x, Value.int y, Value.int u]) 3) + 0) ≤ 0
      simp only [e_3, e_24]
      exact vc_Pn_insertWay_8_3 (v_iv (n_v vs 1)) (v_iv (n_v vs 3)) (v_iv (Value.int y)) k1 k3 f14
  have nf4 : fc_1 PRD (23, [25, 4], [0, 1, -1]) ws (vs ++ [Value.int x, Value.int y, Value.int u]) := by
    refine ⟨nf_inA hl rfl, sgq_7 ?_⟩
    · show 1 * v_iv (n_v (vs ++ [Value.int x, Value.int y, Value.int u]) 25) + ((-1) * v_iv (n_v (vs ++ [Value.int x, Value.int y, Value.int u]) 4) + 0) ≤ 0
      simp only [e_4, e_25]
      exact vc_Pn_insertWay_8_4 (v_iv (n_v vs 1)) (v_iv (n_v vs 4)) (v_iv (Value.int u)) k1 k4 f14
  have nf5 : fc_1 PRD (23, [25, 4], [0, -1, 1]) ws (vs ++ [Value.int x, Value.int y, Value.int u]) := by
    refine ⟨nf_inA hl rfl, sgq_22 ?_⟩
    · show (-1) * v_iv (n_v (vs ++ [Value.int x, Value.int y, Value.int u]) 25) + (1 * v_iv (n_v (vs ++ [Value.int x, Value.int y, Value.int u]) 4) + 0) ≤ 0
      simp only [e_4, e_25]
      exact vc_Pn_insertWay_8_5 (v_iv (n_v vs 1)) (v_iv (n_v vs 4)) (v_iv (Value.int u)) k1 k4 f14
  have nf6 : fc_1 PRD (20, [5, 23, 24], [60, 1, 1, 900, 3, 2]) ws (vs ++ [Value.int x, Value.int y, Value.int u]) := by
    refine ⟨nf_inA hl rfl, sgq_908 ?_⟩
    · show OFL (w_fi ws (n_v (vs ++ [Value.int x, Value.int y, Value.int u]) 5) 3) (w_ei ws (w_ar ws (n_v (vs ++ [Value.int x, Value.int y, Value.int u]) 5) 2)) (v_iv (n_v (vs ++ [Value.int x, Value.int y, Value.int u]) 23)) (v_iv (n_v (vs ++ [Value.int x, Value.int y, Value.int u]) 24))
      simp only [e_5, e_23, e_24, q5]
      exact vc_Pn_insertWay_8_6 (v_iv (n_v vs 2)) (v_iv (n_v vs 3)) (w_fi ws (n_v vs 0) 3) (w_ei ws (w_ar ws (n_v vs 0) 2)) (v_iv (Value.int x)) (v_iv (Value.int y)) k2 k3 f11 kz_0_3 ex2 ey2
  have nf7 : fc_1 PRD (20, [5, 23, 24, 14], [60, 0, 1, 909, 6]) ws (vs ++ [Value.int x, Value.int y, Value.int u]) := by
    refine ⟨nf_inA hl rfl, sgq_909 ?_⟩
    · show EWJ (w_ei ws (w_ar ws (n_v (vs ++ [Value.int x, Value.int y, Value.int u]) 5) 6)) (v_iv (n_v (vs ++ [Value.int x, Value.int y, Value.int u]) 23)) (v_iv (n_v (vs ++ [Value.int x, Value.int y, Value.int u]) 24)) (v_iv (n_v (vs ++ [Value.int x, Value.int y, Value.int u]) 14))
      simp only [e_5, e_14, e_23, e_24, q5]
      exact vc_Pn_insertWay_8_7 (v_iv (n_v vs 1)) (v_iv (n_v vs 2)) (v_iv (n_v vs 3)) (v_iv (n_v vs 14)) (v_iv (n_v vs 16)) (v_iv (n_v vs 18)) (v_iv (n_v vs 19)) (w_ei ws (w_ar ws (n_v vs 0) 6)) (v_iv (Value.int x)) (v_iv (Value.int y)) k1 k14 f14
  have nf8 : fc_1 PRD (20, [21, 5], [50, 1, 0, 1003, 2, 6, 0, 2, 0, 0, 1, 0, 0, 2, 1, 0, 2, 1, 3]) ws (vs ++ [Value.int x, Value.int y, Value.int u]) := by
    refine ⟨nf_inA hl rfl, sgq_910 ?_⟩
    · show (0 ≤ v_iv (n_v (vs ++ [Value.int x, Value.int y, Value.int u]) 21)) ∧ (v_iv (n_v (vs ++ [Value.int x, Value.int y, Value.int u]) 21) ≤ w_fi ws (n_v (vs ++ [Value.int x, Value.int y, Value.int u]) 5) 3)
      simp only [e_5, e_21, q5]
      exact vc_Pn_insertWay_8_8 (v_iv (n_v vs 1)) (v_iv (n_v vs 21)) (w_fi ws (n_v vs 0) 3) k1 k21 f14 kz_0_3
  have nf9 : fc_1 PRD (20, [22], [50, 0, 0, 1, 2, 1, 0, 0, 0]) ws (vs ++ [Value.int x, Value.int y, Value.int u]) := by
    refine ⟨nf_inA hl rfl, sgq_649 ?_⟩
    · show v_iv (n_v (vs ++ [Value.int x, Value.int y, Value.int u]) 22) = 0
      rw [e_22]
      exact vc_Pn_insertWay_8_9 (v_iv (n_v vs 1)) (v_iv (n_v vs 22)) k1 k22 f14
  have nf10 : fc_1 PRD (20, [14], [50, 0, 0, 0, 2, 0, 1, 1, 0]) ws (vs ++ [Value.int x, Value.int y, Value.int u]) := by
    refine ⟨nf_inA hl rfl, sgq_710 ?_⟩
    · show 1 ≤ v_iv (n_v (vs ++ [Value.int x, Value.int y, Value.int u]) 14)
      rw [e_14]
      exact vc_Pn_insertWay_8_10 (v_iv (n_v vs 1)) (v_iv (n_v vs 14)) k1 k14 f14
  have nf11 : fc_1 PRD (20, [25, 5], [50, 1, 0, 1003, 0, 6, 4, 2, 1, 0, 0, 2, 2, 1, 3]) ws (vs ++ [Value.int x, Value.int y, Value.int u]) := by
    refine ⟨nf_inA hl rfl, sgq_911 ?_⟩
    · show (v_iv (n_v (vs ++ [Value.int x, Value.int y, Value.int u]) 25) + 2) ≤ w_fi ws (n_v (vs ++ [Value.int x, Value.int y, Value.int u]) 5) 3
      simp only [e_5, e_25, q5]
      exact vc_Pn_insertWay_8_11 (v_iv (n_v vs 1)) (w_fi ws (n_v vs 0) 3) (v_iv (Value.int u)) k1 f14 kz_0_3
  exact ⟨(fun _ h => (by cases h)), [Value.int x, Value.int y, Value.int u], ag_three hx hy hu, List.forall_mem_cons.mpr ⟨⟨show (23 : Nat) < 100 from by decide, nf0⟩, List.forall_mem_cons.mpr ⟨⟨show (23 : Nat) < 100 from by decide, nf1⟩, List.forall_mem_cons.mpr ⟨⟨show (23 : Nat) < 100 from by decide, nf2⟩, List.forall_mem_cons.mpr ⟨⟨show (23 : Nat) < 100 from by decide, nf3⟩, List.forall_mem_cons.mpr ⟨⟨show (23 : Nat) < 100 from by decide, nf4⟩, List.forall_mem_cons.mpr ⟨⟨show (23 : Nat) < 100 from by decide, nf5⟩, List.forall_mem_cons.mpr ⟨⟨show (20 : Nat) < 100 from by decide, nf6⟩, List.forall_mem_cons.mpr ⟨⟨show (20 : Nat) < 100 from by decide, nf7⟩, List.forall_mem_cons.mpr ⟨⟨show (20 : Nat) < 100 from by decide, nf8⟩, List.forall_mem_cons.mpr ⟨⟨show (20 : Nat) < 100 from by decide, nf9⟩, List.forall_mem_cons.mpr ⟨⟨show (20 : Nat) < 100 from by decide, nf10⟩, List.forall_mem_cons.mpr ⟨⟨show (20 : Nat) < 100 from by decide, nf11⟩, (fun _ h => (by cases h))⟩⟩⟩⟩⟩⟩⟩⟩⟩⟩⟩⟩, (fun _ h => (by cases h))⟩
set_option maxHeartbeats 4000000 in
theorem vc_Pn_insertWay_9_0 (x2 : Int) (x3 : Int) (x14 : Int) (x18 : Int) (x19 : Int) (x23 : Int) (x24 : Int) (line_0 : Int → Int) (lineLength_0 : Int) (k2 : (-2147483648) ≤ x2 ∧ x2 ≤ 2147483647) (k3 : (-2147483648) ≤ x3 ∧ x3 ≤ 2147483647) (k14 : 0 ≤ x14 ∧ x14 ≤ 0) (k23 : (-2147483648) ≤ x23 ∧ x23 ≤ 2147483647) (k24 : (-2147483648) ≤ x24 ∧ x24 ≤ 2147483647) (f9 : 1 ≤ x14) (f22 : OFP (lineLength_0) (line_0) (x23) (x24)) (kz_0_3 : 0 ≤ lineLength_0 ∧ lineLength_0 ≤ 24) : OFP (lineLength_0) (line_0) (x2) (x3) := by
  first
    | assumption
    | (have h := (‹OFP _ _ _ _›); rw [show x23 = x2 by omega, show x24 = x3 by omega] at h; exact h)
    | (have h := (‹OFP _ _ _ _›); rw [show x18 = x2 by omega, show x19 = x3 by omega] at h; exact h)
set_option maxHeartbeats 4000000 in
theorem vc_Pn_insertWay_9_1 (x4 : Int) (x14 : Int) (lineLength_0 : Int) (k4 : 0 ≤ x4 ∧ x4 ≤ 24) (k14 : 0 ≤ x14 ∧ x14 ≤ 0) (f9 : 1 ≤ x14) (kz_0_3 : 0 ≤ lineLength_0 ∧ lineLength_0 ≤ 24) : (x4 + 3) ≤ lineLength_0 := by
  first
    | omega
  
def o_Pn_insertWay_9 : or_T := (172, 26, [(0, (2, 0, 0, [7])), (1, (0, 0, 0, [])), (2, (0, -2147483648, 2147483647, [])), (3, (0, -2147483648, 2147483647, [])), (4, (0, 0, 24, [])), (5, (2, 0, 0, [7])), (6, (0, 0, 0, [])), (11, (0, 2, 2, [])), (12, (0, -2, -2, [])), (13, (0, 0, 0, [])), (14, (0, 0, 0, [])), (15, (2, 0, 0, [106])), (16, (0, 1, 1, [])), (17, (0, 0, 0, [])), (18, (0, -2147483648, 2147483647, [])), (19, (0, -2147483648, 2147483647, [])), (22, (0, 0, 0, [])), (23, (0, -2147483648, 2147483647, [])), (24, (0, -2147483648, 2147483647, [])), (25, (0, 0, 24, []))], [(9, [15, 5], [6]), (23, [23, 2], [0, 1, -1]), (23, [23, 2], [0, -1, 1]), (23, [24, 3], [0, 1, -1]), (23, [24, 3], [0, -1, 1]), (23, [25, 4], [0, 1, -1]), (23, [25, 4], [0, -1, 1]), (20, [5, 23, 24, 14], [60, 0, 1, 909, 6]), (20, [22], [50, 0, 0, 1, 2, 1, 0, 0, 0]), (20, [14], [50, 0, 0, 0, 2, 0, 1, 1, 0]), (21, [16, 14], [27]), (21, [17, 14], [27]), (23, [18, 2], [0, 1, -1]), (23, [18, 2], [0, -1, 1]), (23, [19, 3], [0, 1, -1]), (23, [19, 3], [0, -1, 1]), (23, [12, 14], [0, 1, -1]), (23, [13, 14], [0, 1, -1]), (20, [6], [50, 0, 0, 0, 2, 0, 3, 1, 0]), (24, [1, 6], []), (24, [0, 5], []), (20, [15, 15, 16, 17, 14, 18, 19], [61, 2, 921]), (20, [5, 23, 24], [60, 1, 1, 901, 3, 2]), (20, [25, 5], [50, 1, 0, 1003, 0, 6, 4, 2, 1, 0, 0, 3, 2, 1, 3]), (102, [25], [10141204801825835211973625643008, 7003]), (23, [23, 2], [0, 1, -1]), (23, [23, 2], [0, -1, 1]), (23, [24, 3], [0, 1, -1]), (23, [24, 3], [0, -1, 1]), (23, [25, 4], [0, 1, -1]), (23, [25, 4], [0, -1, 1]), (21, [16, 14], [27]), (21, [17, 14], [27]), (23, [18, 2], [0, 1, -1]), (23, [18, 2], [0, -1, 1]), (23, [19, 3], [0, 1, -1]), (23, [19, 3], [0, -1, 1]), (23, [12, 14], [0, 1, -1]), (23, [13, 14], [0, 1, -1]), (102, [19], [81129638414606681695789005144064]), (21, [16, 14], [27]), (21, [17, 14], [27]), (23, [18, 2], [0, 1, -1]), (23, [18, 2], [0, -1, 1]), (23, [19, 3], [0, 1, -1]), (23, [19, 3], [0, -1, 1]), (23, [12, 14], [0, 1, -1]), (23, [13, 14], [0, 1, -1]), (2, [12, 6, 11], []), (8, [6], [5])], [], [], [(20, [0, 2, 3], [60, 1, 1, 901, 3, 2]), (20, [4, 0], [50, 1, 0, 1003, 0, 6, 4, 2, 1, 0, 0, 3, 2, 1, 3])], [], [])
theorem oo_Pn_insertWay_9 {kA : Nat → ClassId} : or_ok PRD kA GG o_Pn_insertWay_9 := by
  refine or_mk fun A ta ws vs hD hth hl => ?_
  intro t0 r0 t1 k1 t2 k2 t3 k3 t4 k4 t5 r5 t6 k6 t11 k11 t12 k12 t13 k13 t14 k14 t15 r15 t16 k16 t17 k17 t18 k18 t19 k19 t22 k22 t23 k23 t24 k24 t25 k25 f0 f1 f2 f3 f4 f5 f6 f7 f8 f9 f10 f11 f12 f13 f14 f15 f16 f17 f18 f19 f20 f21 f22 f23 ta1 w1 le1 s1 f25 f26 f27 f28 f29 f30 f31 f32 f33 f34 f35 f36 f37 f38 ta2 w2 le2 s2 f40 f41 f42 f43 f44 f45 f46 f47 f48 f49
  replace f20 := shm_5 f20
  replace f22 := shm_912 f22
  have q5 : n_v vs 5 = n_v vs 0 := f20.symm
  simp only [q5] at f22
  have kz_0_3 := fdq_13 hD hth r0
  have nf0 : fc_1 PRD (20, [0, 2, 3], [60, 1, 1, 901, 3, 2]) ws (vs) := ⟨nf_in hl rfl, sgq_912 (vc_Pn_insertWay_9_0 (v_iv (n_v vs 2)) (v_iv (n_v vs 3)) (v_iv (n_v vs 14)) (v_iv (n_v vs 18)) (v_iv (n_v vs 19)) (v_iv (n_v vs 23)) (v_iv (n_v vs 24)) (w_ei ws (w_ar ws (n_v vs 0) 2)) (w_fi ws (n_v vs 0) 3) k2 k3 k14 k23 k24 (shm_710 f9) f22 kz_0_3)⟩
  have nf1 : fc_1 PRD (20, [4, 0], [50, 1, 0, 1003, 0, 6, 4, 2, 1, 0, 0, 3, 2, 1, 3]) ws (vs) := ⟨nf_in hl rfl, sgq_913 (vc_Pn_insertWay_9_1 (v_iv (n_v vs 4)) (v_iv (n_v vs 14)) (w_fi ws (n_v vs 0) 3) k4 k14 (shm_710 f9) kz_0_3)⟩
  refine ⟨(fun _ h => (by cases h)), [], trivial, ?_, (fun _ h => (by cases h))⟩
  rw [List.append_nil]
  exact List.forall_mem_cons.mpr ⟨⟨show (20 : Nat) < 100 from by decide, nf0⟩, List.forall_mem_cons.mpr ⟨⟨show (20 : Nat) < 100 from by decide, nf1⟩, (fun _ h => (by cases h))⟩⟩
set_option maxHeartbeats 4000000 in
theorem vc_Pn_insertWay_10_0 (x9 : Int) (x10 : Int) (x20 : Int) (lineLength_0 : Int) (k9 : 0 ≤ x9 ∧ x9 ≤ 23) (k10 : 1 ≤ x10 ∧ x10 ≤ 24) (k20 : 1 ≤ x20 ∧ x20 ≤ 24) (d0 : x9 + 1 ≤ x20 ∧ x20 ≤ x9 + 1) (d1 : x10 + (-4294967296) ≤ x20 ∧ x20 ≤ x10 + 0) (d5 : x10 + (-4294967296) ≤ x9 ∧ x9 ≤ x10 + (-1)) (g12 : x10 = lineLength_0) (kz_0_3 : 0 ≤ lineLength_0 ∧ lineLength_0 ≤ 24) : (0 ≤ x9) ∧ ((x9 + 1) ≤ lineLength_0) := by
  first
    | omega
  
def o_Pn_insertWay_10 : or_T := (7, 21, [(0, (2, 0, 0, [7])), (1, (0, 1, 25, [])), (2, (0, -2147483648, 2147483647, [])), (3, (0, -2147483648, 2147483647, [])), (4, (0, 0, 24, [])), (5, (2, 0, 0, [7])), (6, (0, 1, 25, [])), (7, (0, 0, 23, [])), (9, (0, 0, 23, [])), (10, (0, 1, 24, [])), (11, (2, 0, 0, [103])), (12, (0, 0, 23, [])), (13, (2, 0, 0, [106])), (14, (0, 0, 0, [])), (15, (0, 0, 23, [])), (16, (0, 0, 23, [])), (17, (0, 1, 1, [])), (18, (0, 0, 24, [])), (19, (0, 0, 23, [])), (20, (0, 1, 24, []))], [(6, [20, 9], [1]), (7, [16, 19], [1]), (10, [19, 13, 18], []), (2, [18, 6, 17], []), (9, [13, 5], [6]), (10, [16, 11, 9], []), (9, [11, 5], [2]), (7, [12, 15], [0]), (10, [15, 13, 14], []), (10, [12, 11, 9], []), (8, [6], [4]), (7, [9, 10], [2]), (9, [10, 5], [3]), (20, [5, 2, 3], [60, 1, 1, 900, 3, 2]), (20, [7, 5], [50, 1, 0, 1003, 2, 6, 0, 2, 0, 0, 1, 0, 0, 6, 4, 2, 1, 0, 0, 1, 2, 1, 3]), (20, [4, 5], [50, 1, 0, 1003, 0, 6, 4, 2, 1, 0, 0, 2, 2, 1, 3]), (20, [5, 2, 3, 6], [60, 0, 1, 908, 6]), (20, [6], [50, 0, 0, 0, 2, 0, 3, 1, 0]), (24, [1, 6], []), (24, [0, 5], [])], [], [], [(20, [9, 5], [50, 1, 0, 1003, 2, 6, 0, 2, 0, 0, 1, 0, 0, 6, 4, 2, 1, 0, 0, 1, 2, 1, 3])], [], [(20, 9, 1, 1), (20, 10, -4294967296, 0), (18, 6, -1, -1), (18, 1, -4294967296, -1), (12, 15, 0, 0), (9, 10, -4294967296, -1), (1, 6, -4294967296, 0), (6, 1, -4294967296, 0), (7, 9, -4294967296, 0)])
theorem oo_Pn_insertWay_10 {kA : Nat → ClassId} : or_ok PRD kA GG o_Pn_insertWay_10 := by
  refine or_mk fun A ta ws vs hD hth hl => ?_
  intro t0 r0 t1 k1 t2 k2 t3 k3 t4 k4 t5 r5 t6 k6 t7 k7 t9 k9 t10 k10 t11 r11 t12 k12 t13 r13 t14 k14 t15 k15 t16 k16 t17 k17 t18 k18 t19 k19 t20 k20 d0 d1 d2 d3 d4 d5 d6 d7 d8 f0 f1 f2 f3 f4 f5 f6 f7 f8 f9 f10 f11 f12 f13 f14 f15 f16 f17 f18 f19
  replace f12 := shm_137 f12
  replace f19 := shm_5 f19
  have q5 : n_v vs 5 = n_v vs 0 := f19.symm
  simp only [q5] at f12
  have g12 : v_iv (n_v vs 10) = w_fi ws (n_v vs 0) 3 := congrArg v_iv f12
  have kz_0_3 := fdq_13 hD hth r0
  have nf0 : fc_1 PRD (20, [9, 5], [50, 1, 0, 1003, 2, 6, 0, 2, 0, 0, 1, 0, 0, 6, 4, 2, 1, 0, 0, 1, 2, 1, 3]) ws (vs) := by
    refine ⟨nf_in hl rfl, sgq_1208 ?_⟩
    · show (0 ≤ v_iv (n_v vs 9)) ∧ ((v_iv (n_v vs 9) + 1) ≤ w_fi ws (n_v vs 5) 3)
      rw [q5]
      exact vc_Pn_insertWay_10_0 (v_iv (n_v vs 9)) (v_iv (n_v vs 10)) (v_iv (n_v vs 20)) (w_fi ws (n_v vs 0) 3) k9 k10 k20 d0 d1 d5 g12 kz_0_3
  refine ⟨(fun _ h => (by cases h)), [], trivial, ?_, (fun _ h => (by cases h))⟩
  rw [List.append_nil]
  exact List.forall_mem_cons.mpr ⟨⟨show (20 : Nat) < 100 from by decide, nf0⟩, (fun _ h => (by cases h))⟩
set_option maxHeartbeats 4000000 in
theorem vc_Pn_insertWay_11_0 (x9 : Int) (x10 : Int) (x20 : Int) (lineLength_0 : Int) (k9 : 0 ≤ x9 ∧ x9 ≤ 23) (k10 : 1 ≤ x10 ∧ x10 ≤ 24) (k20 : 1 ≤ x20 ∧ x20 ≤ 24) (d0 : x9 + 1 ≤ x20 ∧ x20 ≤ x9 + 1) (d1 : x10 + (-4294967296) ≤ x20 ∧ x20 ≤ x10 + 0) (d6 : x10 + (-4294967296) ≤ x9 ∧ x9 ≤ x10 + (-1)) (g12 : x10 = lineLength_0) (kz_0_3 : 0 ≤ lineLength_0 ∧ lineLength_0 ≤ 24) : (0 ≤ x9) ∧ ((x9 + 1) ≤ lineLength_0) := by
  first
    | omega
  
def o_Pn_insertWay_11 : or_T := (7, 21, [(0, (2, 0, 0, [7])), (1, (0, 1, 25, [])), (2, (0, -2147483648, 2147483647, [])), (3, (0, -2147483648, 2147483647, [])), (4, (0, 0, 24, [])), (5, (2, 0, 0, [7])), (6, (0, 1, 25, [])), (7, (0, 0, 23, [])), (9, (0, 0, 23, [])), (10, (0, 1, 24, [])), (11, (2, 0, 0, [103])), (12, (0, 0, 23, [])), (13, (2, 0, 0, [106])), (14, (0, 0, 0, [])), (15, (0, 0, 23, [])), (16, (0, 0, 23, [])), (17, (0, 1, 1, [])), (18, (0, 0, 24, [])), (19, (0, 0, 23, [])), (20, (0, 1, 24, []))], [(6, [20, 9], [1]), (7, [16, 19], [0]), (10, [19, 13, 18], []), (2, [18, 6, 17], []), (9, [13, 5], [6]), (10, [16, 11, 9], []), (9, [11, 5], [2]), (7, [12, 15], [0]), (10, [15, 13, 14], []), (10, [12, 11, 9], []), (8, [6], [4]), (7, [9, 10], [2]), (9, [10, 5], [3]), (20, [5, 2, 3], [60, 1, 1, 900, 3, 2]), (20, [7, 5], [50, 1, 0, 1003, 2, 6, 0, 2, 0, 0, 1, 0, 0, 6, 4, 2, 1, 0, 0, 1, 2, 1, 3]), (20, [4, 5], [50, 1, 0, 1003, 0, 6, 4, 2, 1, 0, 0, 2, 2, 1, 3]), (20, [5, 2, 3, 6], [60, 0, 1, 908, 6]), (20, [6], [50, 0, 0, 0, 2, 0, 3, 1, 0]), (24, [1, 6], []), (24, [0, 5], [])], [], [], [(20, [9, 5], [50, 1, 0, 1003, 2, 6, 0, 2, 0, 0, 1, 0, 0, 6, 4, 2, 1, 0, 0, 1, 2, 1, 3])], [], [(20, 9, 1, 1), (20, 10, -4294967296, 0), (16, 19, 0, 0), (18, 6, -1, -1), (18, 1, -4294967296, -1), (12, 15, 0, 0), (9, 10, -4294967296, -1), (1, 6, -4294967296, 0), (6, 1, -4294967296, 0), (7, 9, -4294967296, 0)])
theorem oo_Pn_insertWay_11 {kA : Nat → ClassId} : or_ok PRD kA GG o_Pn_insertWay_11 := by
  refine or_mk fun A ta ws vs hD hth hl => ?_
  intro t0 r0 t1 k1 t2 k2 t3 k3 t4 k4 t5 r5 t6 k6 t7 k7 t9 k9 t10 k10 t11 r11 t12 k12 t13 r13 t14 k14 t15 k15 t16 k16 t17 k17 t18 k18 t19 k19 t20 k20 d0 d1 d2 d3 d4 d5 d6 d7 d8 d9 f0 f1 f2 f3 f4 f5 f6 f7 f8 f9 f10 f11 f12 f13 f14 f15 f16 f17 f18 f19
  replace f12 := shm_137 f12
  replace f19 := shm_5 f19
  have q5 : n_v vs 5 = n_v vs 0 := f19.symm
  simp only [q5] at f12
  have g12 : v_iv (n_v vs 10) = w_fi ws (n_v vs 0) 3 := congrArg v_iv f12
  have kz_0_3 := fdq_13 hD hth r0
  have nf0 : fc_1 PRD (20, [9, 5], [50, 1, 0, 1003, 2, 6, 0, 2, 0, 0, 1, 0, 0, 6, 4, 2, 1, 0, 0, 1, 2, 1, 3]) ws (vs) := by
    refine ⟨nf_in hl rfl, sgq_1208 ?_⟩
    · show (0 ≤ v_iv (n_v vs 9)) ∧ ((v_iv (n_v vs 9) + 1) ≤ w_fi ws (n_v vs 5) 3)
      rw [q5]
      exact vc_Pn_insertWay_11_0 (v_iv (n_v vs 9)) (v_iv (n_v vs 10)) (v_iv (n_v vs 20)) (w_fi ws (n_v vs 0) 3) k9 k10 k20 d0 d1 d6 g12 kz_0_3
  refine ⟨(fun _ h => (by cases h)), [], trivial, ?_, (fun _ h => (by cases h))⟩
  rw [List.append_nil]
  exact List.forall_mem_cons.mpr ⟨⟨show (20 : Nat) < 100 from by decide, nf0⟩, (fun _ h => (by cases h))⟩
set_option maxHeartbeats 4000000 in
theorem vc_Pn_insertWay_12_0 (x9 : Int) (x10 : Int) (x12 : Int) (k9 : 0 ≤ x9 ∧ x9 ≤ 23) (k10 : 0 ≤ x10 ∧ x10 ≤ 23) (k12 : 0 ≤ x12 ∧ x12 ≤ 0) (d0 : x9 + 0 ≤ x10 ∧ x10 ≤ x9 + 4294967296) (d5 : x9 + (-4294967296) ≤ x10 ∧ x10 ≤ x9 + 0) (f9 : 1 ≤ x9) : x12 + x9 ≤ 26 := by
  first
    | omega
  
set_option maxHeartbeats 4000000 in
theorem vc_Pn_insertWay_12_1 (x9 : Int) (x10 : Int) (x14 : Int) (k9 : 0 ≤ x9 ∧ x9 ≤ 23) (k10 : 0 ≤ x10 ∧ x10 ≤ 23) (k14 : 0 ≤ x14 ∧ x14 ≤ 0) (d0 : x9 + 0 ≤ x10 ∧ x10 ≤ x9 + 4294967296) (d5 : x9 + (-4294967296) ≤ x10 ∧ x10 ≤ x9 + 0) (f9 : 1 ≤ x9) : x14 + x9 ≤ 27 := by
  first
    | omega
  
set_option maxHeartbeats 4000000 in
theorem vc_Pn_insertWay_12_2 (x2 : Int) (gx : Int) (k2 : (-2147483648) ≤ x2 ∧ x2 ≤ 2147483647) (ex2 : gx = x2) : 1 * gx + ((-1) * x2 + 0) ≤ 0 := by
  first
    | omega
  
set_option maxHeartbeats 4000000 in
theorem vc_Pn_insertWay_12_3 (x2 : Int) (gx : Int) (k2 : (-2147483648) ≤ x2 ∧ x2 ≤ 2147483647) (ex2 : gx = x2) : (-1) * gx + (1 * x2 + 0) ≤ 0 := by
  first
    | omega
  
set_option maxHeartbeats 4000000 in
theorem vc_Pn_insertWay_12_4 (x3 : Int) (gy : Int) (k3 : (-2147483648) ≤ x3 ∧ x3 ≤ 2147483647) (ey2 : gy = x3) : 1 * gy + ((-1) * x3 + 0) ≤ 0 := by
  first
    | omega
  
set_option maxHeartbeats 4000000 in
theorem vc_Pn_insertWay_12_5 (x3 : Int) (gy : Int) (k3 : (-2147483648) ≤ x3 ∧ x3 ≤ 2147483647) (ey2 : gy = x3) : (-1) * gy + (1 * x3 + 0) ≤ 0 := by
  first
    | omega
  
set_option maxHeartbeats 4000000 in
theorem vc_Pn_insertWay_12_6 (x2 : Int) (x3 : Int) (x9 : Int) (x10 : Int) (x12 : Int) (x14 : Int) (level_0 : Int → Int) (way_0 : Int → Int) (gx : Int) (gy : Int) (k2 : (-2147483648) ≤ x2 ∧ x2 ≤ 2147483647) (k3 : (-2147483648) ≤ x3 ∧ x3 ≤ 2147483647) (k9 : 0 ≤ x9 ∧ x9 ≤ 23) (k10 : 0 ≤ x10 ∧ x10 ≤ 23) (k12 : 0 ≤ x12 ∧ x12 ≤ 0) (k14 : 0 ≤ x14 ∧ x14 ≤ 0) (d0 : x9 + 0 ≤ x10 ∧ x10 ≤ x9 + 4294967296) (d5 : x9 + (-4294967296) ≤ x10 ∧ x10 ≤ x9 + 0) (f2 : x9 ≤ x10) (f8 : LVR (level_0) (way_0) (x2) (x3) (x9) (x10)) (f9 : 1 ≤ x9) (ex2 : gx = x2) (ey2 : gy = x3) : DV1 (way_0) (level_0) (x12) (x14) (x9) (gx) (gy) := by
  first
    | (rw [show gx = x2 by omega, show gy = x3 by omega]; exact dv1_of ‹LVR _ _ _ _ _ _› (by omega) (by omega) (by omega) (by omega))
  
def o_Pn_insertWay_12 : or_T := (161, 15, [(2, (0, -2147483648, 2147483647, [])), (3, (0, -2147483648, 2147483647, [])), (9, (0, 0, 23, [])), (10, (0, 0, 23, [])), (12, (0, 0, 0, [])), (14, (0, 0, 0, []))], [(9, [13, 5], [6]), (9, [11, 5], [5]), (7, [10, 9], [3]), (20, [5, 2, 3, 9, 10], [60, 0, 2, 910, 5, 6]), (20, [9], [50, 0, 0, 0, 2, 0, 1, 1, 0]), (24, [0, 5], [])], [], [(0, -2147483648, 2147483647, []), (0, -2147483648, 2147483647, [])], [(21, [12, 9], [26]), (21, [14, 9], [27]), (23, [15, 2], [0, 1, -1]), (23, [15, 2], [0, -1, 1]), (23, [16, 3], [0, 1, -1]), (23, [16, 3], [0, -1, 1]), (20, [13, 11, 12, 14, 9, 15, 16], [61, 2, 922])], [], [(10, 9, 0, 4294967296), (10, 9, -4294967296, 0)])
theorem oo_Pn_insertWay_12 {kA : Nat → ClassId} : or_ok PRD kA GG o_Pn_insertWay_12 := by
  refine or_mk fun A ta ws vs hD hth hl => ?_
  intro t2 k2 t3 k3 t9 k9 t10 k10 t12 k12 t14 k14 d0 d5 f0 f1 f2 f8 f9 f10
  replace f0 := shm_111 f0
  replace f1 := shm_110 f1
  replace f2 := shm_2 f2
  replace f8 := shm_1210 f8
  replace f9 := shm_710 f9
  replace f10 := shm_5 f10
  have q5 : n_v vs 5 = n_v vs 0 := f10.symm
  simp only [q5] at f0 f1 f8
  have ad_13 : v_ad (n_v vs 13) = w_ar ws (n_v vs 0) 6 := congrArg v_ad f0
  have ad_11 : v_ad (n_v vs 11) = w_ar ws (n_v vs 0) 5 := congrArg v_ad f1
  obtain ⟨x, ex, hx⟩ := iv_ex (ta := ta) (lo := (-2147483648)) (hi := 2147483647) (z := v_iv (n_v vs 2)) (by omega) (by omega) (by omega) (by omega)
  have ex2 : v_iv (Value.int x) = v_iv (n_v vs 2) := ex
  have ex3 : (-2147483648) ≤ v_iv (Value.int x) ∧ v_iv (Value.int x) ≤ 2147483647 := tv_rng hx
  obtain ⟨y, ey, hy⟩ := iv_ex (ta := ta) (lo := (-2147483648)) (hi := 2147483647) (z := v_iv (n_v vs 3)) (by omega) (by omega) (by omega) (by omega)
  have ey2 : v_iv (Value.int y) = v_iv (n_v vs 3) := ey
  have ey3 : (-2147483648) ≤ v_iv (Value.int y) ∧ v_iv (Value.int y) ≤ 2147483647 := tv_rng hy
  have e_2 : n_v (vs ++ [Value.int x, Value.int y]) 2 = n_v vs 2 := n_v_old (by rw [hl]; decide)
  have e_3 : n_v (vs ++ [Value.int x, Value.int y]) 3 = n_v vs 3 := n_v_old (by rw [hl]; decide)
  have e_9 : n_v (vs ++ [Value.int x, Value.int y]) 9 = n_v vs 9 := n_v_old (by rw [hl]; decide)
  have e_11 : n_v (vs ++ [Value.int x, Value.int y]) 11 = n_v vs 11 := n_v_old (by rw [hl]; decide)
  have e_12 : n_v (vs ++ [Value.int x, Value.int y]) 12 = n_v vs 12 := n_v_old (by rw [hl]; decide)
  have e_13 : n_v (vs ++ [Value.int x, Value.int y]) 13 = n_v vs 13 := n_v_old (by rw [hl]; decide)
  have e_14 : n_v (vs ++ [Value.int x, Value.int y]) 14 = n_v vs 14 := n_v_old (by rw [hl]; decide)
  have e_15 : n_v (vs ++ [Value.int x, Value.int y]) 15 = Value.int x := n_v_new0 hl
  have e_16 : n_v (vs ++ [Value.int x, Value.int y]) 16 = Value.int y := n_v_new1 hl
  have nf0 : fc_1 PRD (21, [12, 9], [26]) ws (vs ++ [Value.int x, Value.int y]) := by
    refine ⟨nf_inA hl rfl, sgq_1213 ?_⟩
    · show v_iv (n_v (vs ++ [Value.int x, Value.int y]) 12) + v_iv (n_v (vs ++ [Value.int x, Value.int y]) 9) ≤ 26
      simp only [e_9, e_12]
      exact vc_Pn_insertWay_12_0 (v_iv (n_v vs 9)) (v_iv (n_v vs 10)) (v_iv (n_v vs 12)) k9 k10 k12 d0 d5 f9
  have nf1 : fc_1 PRD (21, [14, 9], [27]) ws (vs ++ [Value.int x, Value.int y]) := by
    refine ⟨nf_inA hl rfl, sgq_141 ?_⟩
    · show v_iv (n_v (vs ++ [Value.int x, Value.int y]) 14) + v_iv (n_v (vs ++ [Value.int x, Value.int y]) 9) ≤ 27
      simp only [e_9, e_14]
      exact vc_Pn_insertWay_12_1 (v_iv (n_v vs 9)) (v_iv (n_v vs 10)) (v_iv (n_v vs 14)) k9 k10 k14 d0 d5 f9
  have nf2 : fc_1 PRD (23, [15, 2], [0, 1, -1]) ws (vs ++ [Value.int x, Value.int y]) := by
    refine ⟨nf_inA hl rfl, sgq_7 ?_⟩
    · show 1 * v_iv (n_v (vs ++ [Value.int x, Value.int y]) 15) + ((-1) * v_iv (n_v (vs ++ [Value.int x, Value.int y]) 2) + 0) ≤ 0
      simp only [e_2, e_15]
      exact vc_Pn_insertWay_12_2 (v_iv (n_v vs 2)) (v_iv (Value.int x)) k2 ex2
  have nf3 : fc_1 PRD (23, [15, 2], [0, -1, 1]) ws (vs ++ [Value.int x, Value.int y]) := by
    refine ⟨nf_inA hl rfl, sgq_22 ?_⟩
    · show (-1) * v_iv (n_v (vs ++ [Value.int x, Value.int y]) 15) + (1 * v_iv (n_v (vs ++ [Value.int x, Value.int y]) 2) + 0) ≤ 0
      simp only [e_2, e_15]
      exact vc_Pn_insertWay_12_3 (v_iv (n_v vs 2)) (v_iv (Value.int x)) k2 ex2
  have nf4 : fc_1 PRD (23, [16, 3], [0, 1, -1]) ws (vs ++ [Value.int x, Value.int y]) := by
    refine ⟨nf_inA hl rfl, sgq_7 ?_⟩
    · show 1 * v_iv (n_v (vs ++ [Value.int x, Value.int y]) 16) + ((-1) * v_iv (n_v (vs ++ [Value.int x, Value.int y]) 3) + 0) ≤ 0
      simp only [e_3, e_16]
      exact vc_Pn_insertWay_12_4 (v_iv (n_v vs 3)) (v_iv (Value.int y)) k3 ey2
  have nf5 : fc_1 PRD (23, [16, 3], [0, -1, 1]) ws (vs ++ [Value.int x, Value.int y]) := by
    refine ⟨nf_inA hl rfl, sgq_22 ?_⟩
    · show (-1) * v_iv (n_v (vs ++ [Value.int x, Value.int y]) 16) + (1 * v_iv (n_v (vs ++ [Value.int x, Value.int y]) 3) + 0) ≤ 0
      simp only [e_3, e_16]
      exact vc_Pn_insertWay_12_5 (v_iv (n_v vs 3)) (v_iv (Value.int y)) k3 ey2
  have nf6 : fc_1 PRD (20, [13, 11, 12, 14, 9, 15, 16], [61, 2, 922]) ws (vs ++ [Value.int x, Value.int y]) := by
    refine ⟨nf_inA hl rfl, sgq_1214 ?_⟩
    · show DV1 (w_ei ws (v_ad (n_v (vs ++ [Value.int x, Value.int y]) 13))) (w_ei ws (v_ad (n_v (vs ++ [Value.int x, Value.int y]) 11))) (v_iv (n_v (vs ++ [Value.int x, Value.int y]) 12)) (v_iv (n_v (vs ++ [Value.int x, Value.int y]) 14)) (v_iv (n_v (vs ++ [Value.int x, Value.int y]) 9)) (v_iv (n_v (vs ++ [Value.int x, Value.int y]) 15)) (v_iv (n_v (vs ++ [Value.int x, Value.int y]) 16))
      simp only [e_9, e_11, e_12, e_13, e_14, e_15, e_16, ad_11, ad_13]
      exact vc_Pn_insertWay_12_6 (v_iv (n_v vs 2)) (v_iv (n_v vs 3)) (v_iv (n_v vs 9)) (v_iv (n_v vs 10)) (v_iv (n_v vs 12)) (v_iv (n_v vs 14)) (w_ei ws (w_ar ws (n_v vs 0) 5)) (w_ei ws (w_ar ws (n_v vs 0) 6)) (v_iv (Value.int x)) (v_iv (Value.int y)) k2 k3 k9 k10 k12 k14 d0 d5 f2 f8 f9 ex2 ey2
  exact ⟨(fun _ h => (by cases h)), [Value.int x, Value.int y], ag_two hx hy, List.forall_mem_cons.mpr ⟨⟨show (21 : Nat) < 100 from by decide, nf0⟩, List.forall_mem_cons.mpr ⟨⟨show (21 : Nat) < 100 from by decide, nf1⟩, List.forall_mem_cons.mpr ⟨⟨show (23 : Nat) < 100 from by decide, nf2⟩, List.forall_mem_cons.mpr ⟨⟨show (23 : Nat) < 100 from by decide, nf3⟩, List.forall_mem_cons.mpr ⟨⟨show (23 : Nat) < 100 from by decide, nf4⟩, List.forall_mem_cons.mpr ⟨⟨show (23 : Nat) < 100 from by decide, nf5⟩, List.forall_mem_cons.mpr ⟨⟨show (20 : Nat) < 100 from by decide, nf6⟩, (fun _ h => (by cases h))⟩⟩⟩⟩⟩⟩⟩, (fun _ h => (by cases h))⟩
set_option maxHeartbeats 4000000 in
theorem vc_Pn_insertWay_13_0 (x2 : Int) (x15 : Int) (gx : Int) (k2 : (-2147483648) ≤ x2 ∧ x2 ≤ 2147483647) (k15 : (-2147483648) ≤ x15 ∧ x15 ≤ 2147483647) (f4 : 1 * x15 + ((-1) * x2 + 0) ≤ 0) (f5 : (-1) * x15 + (1 * x2 + 0) ≤ 0) (ex2 : gx = x2) : 1 * gx + ((-1) * x2 + 0) ≤ 0 := by
  first
    | omega
  
set_option maxHeartbeats 4000000 in
theorem vc_Pn_insertWay_13_1 (x2 : Int) (x15 : Int) (gx : Int) (k2 : (-2147483648) ≤ x2 ∧ x2 ≤ 2147483647) (k15 : (-2147483648) ≤ x15 ∧ x15 ≤ 2147483647) (f4 : 1 * x15 + ((-1) * x2 + 0) ≤ 0) (f5 : (-1) * x15 + (1 * x2 + 0) ≤ 0) (ex2 : gx = x2) : (-1) * gx + (1 * x2 + 0) ≤ 0 := by
  first
    | omega
  
set_option maxHeartbeats 4000000 in
theorem vc_Pn_insertWay_13_2 (x3 : Int) (x16 : Int) (gy : Int) (k3 : (-2147483648) ≤ x3 ∧ x3 ≤ 2147483647) (k16 : (-2147483648) ≤ x16 ∧ x16 ≤ 2147483647) (f6 : 1 * x16 + ((-1) * x3 + 0) ≤ 0) (f7 : (-1) * x16 + (1 * x3 + 0) ≤ 0) (ey2 : gy = x3) : 1 * gy + ((-1) * x3 + 0) ≤ 0 := by
  first
    | omega
  
set_option maxHeartbeats 4000000 in
theorem vc_Pn_insertWay_13_3 (x3 : Int) (x16 : Int) (gy : Int) (k3 : (-2147483648) ≤ x3 ∧ x3 ≤ 2147483647) (k16 : (-2147483648) ≤ x16 ∧ x16 ≤ 2147483647) (f6 : 1 * x16 + ((-1) * x3 + 0) ≤ 0) (f7 : (-1) * x16 + (1 * x3 + 0) ≤ 0) (ey2 : gy = x3) : (-1) * gy + (1 * x3 + 0) ≤ 0 := by
  first
    | omega
  
set_option maxHeartbeats 4000000 in
theorem vc_Pn_insertWay_13_4 (x4 : Int) (gu : Int) (k4 : 0 ≤ x4 ∧ x4 ≤ 24) (eu2 : gu = x4) : 1 * gu + ((-1) * x4 + 0) ≤ 0 := by
  first
    | omega
  
set_option maxHeartbeats 4000000 in
theorem vc_Pn_insertWay_13_5 (x4 : Int) (gu : Int) (k4 : 0 ≤ x4 ∧ x4 ≤ 24) (eu2 : gu = x4) : (-1) * gu + (1 * x4 + 0) ≤ 0 := by
  first
    | omega
  
set_option maxHeartbeats 4000000 in
theorem vc_Pn_insertWay_13_6 (x2 : Int) (x3 : Int) (line_0 : Int → Int) (lineLength_0 : Int) (gx : Int) (gy : Int) (k2 : (-2147483648) ≤ x2 ∧ x2 ≤ 2147483647) (k3 : (-2147483648) ≤ x3 ∧ x3 ≤ 2147483647) (f8 : OFL (lineLength_0) (line_0) (x2) (x3)) (kz_0_3 : 0 ≤ lineLength_0 ∧ lineLength_0 ≤ 24) (ex2 : gx = x2) (ey2 : gy = x3) : OFL (lineLength_0) (line_0) (gx) (gy) := by
  first
    | assumption
    | (rw [show gx = x2 by omega, show gy = x3 by omega]; assumption)
set_option maxHeartbeats 4000000 in
theorem vc_Pn_insertWay_13_7 (x2 : Int) (x3 : Int) (x9 : Int) (x12 : Int) (x14 : Int) (x15 : Int) (x16 : Int) (level_0 : Int → Int) (way_0 : Int → Int) (gx : Int) (gy : Int) (k2 : (-2147483648) ≤ x2 ∧ x2 ≤ 2147483647) (k3 : (-2147483648) ≤ x3 ∧ x3 ≤ 2147483647) (k9 : 0 ≤ x9 ∧ x9 ≤ 23) (k12 : 0 ≤ x12 ∧ x12 ≤ 0) (k14 : 0 ≤ x14 ∧ x14 ≤ 0) (k15 : (-2147483648) ≤ x15 ∧ x15 ≤ 2147483647) (k16 : (-2147483648) ≤ x16 ∧ x16 ≤ 2147483647) (f4 : 1 * x15 + ((-1) * x2 + 0) ≤ 0) (f5 : (-1) * x15 + (1 * x2 + 0) ≤ 0) (f6 : 1 * x16 + ((-1) * x3 + 0) ≤ 0) (f7 : (-1) * x16 + (1 * x3 + 0) ≤ 0) (f16 : DV2 (way_0) (level_0) (x12) (x14) (x9) (x15) (x16)) (ex2 : gx = x2) (ey2 : gy = x3) : EWJ (way_0) (gx) (gy) (x9) := by
  first
    | (exfalso; omega)
    | (have h := (‹DW2 _ _ _ _ _ _ _›); rw [show x18 = x2 by omega, show x19 = x3 by omega] at h; rw [show gx = x2 by omega, show gy = x3 by omega]; exact h)
    | (have h := (‹DV2 _ _ _ _ _ _ _›); rw [show x15 = x2 by omega, show x16 = x3 by omega] at h; rw [show gx = x2 by omega, show gy = x3 by omega]; exact h)
set_option maxHeartbeats 4000000 in
theorem vc_Pn_insertWay_13_8 (x7 : Int) (lineLength_0 : Int) (k7 : 0 ≤ x7 ∧ x7 ≤ 23) (f9 : (0 ≤ x7) ∧ ((x7 + 1) ≤ lineLength_0)) (kz_0_3 : 0 ≤ lineLength_0 ∧ lineLength_0 ≤ 24) : (0 ≤ x7) ∧ (x7 ≤ lineLength_0) := by
  first
    | omega
  
set_option maxHeartbeats 4000000 in
theorem vc_Pn_insertWay_13_9 (x17 : Int) (k17 : 0 ≤ x17 ∧ x17 ≤ 0) : x17 = 0 := by
  first
    | omega
  
set_option maxHeartbeats 4000000 in
theorem vc_Pn_insertWay_13_10 (x9 : Int) (k9 : 0 ≤ x9 ∧ x9 ≤ 23) (f13 : 1 ≤ x9) : 1 ≤ x9 := by
  first
    | omega
  
set_option maxHeartbeats 4000000 in
theorem vc_Pn_insertWay_13_11 (x4 : Int) (lineLength_0 : Int) (gu : Int) (k4 : 0 ≤ x4 ∧ x4 ≤ 24) (f10 : (x4 + 2) ≤ lineLength_0) (kz_0_3 : 0 ≤ lineLength_0 ∧ lineLength_0 ≤ 24) (eu2 : gu = x4) : (gu + 2) ≤ lineLength_0 := by
  first
    | omega
  
def o_Pn_insertWay_13 : or_T := (169, 18, [(0, (2, 0, 0, [7])), (2, (0, -2147483648, 2147483647, [])), (3, (0, -2147483648, 2147483647, [])), (4, (0, 0, 24, [])), (7, (0, 0, 23, [])), (9, (0, 0, 23, [])), (12, (0, 0, 0, [])), (14, (0, 0, 0, [])), (15, (0, -2147483648, 2147483647, [])), (16, (0, -2147483648, 2147483647, [])), (17, (0, 0, 0, []))], [(9, [13, 5], [6]), (9, [11, 5], [5]), (23, [15, 2], [0, 1, -1]), (23, [15, 2], [0, -1, 1]), (23, [16, 3], [0, 1, -1]), (23, [16, 3], [0, -1, 1]), (20, [5, 2, 3], [60, 1, 1, 900, 3, 2]), (20, [7, 5], [50, 1, 0, 1003, 2, 6, 0, 2, 0, 0, 1, 0, 0, 6, 4, 2, 1, 0, 0, 1, 2, 1, 3]), (20, [4, 5], [50, 1, 0, 1003, 0, 6, 4, 2, 1, 0, 0, 2, 2, 1, 3]), (20, [9], [50, 0, 0, 0, 2, 0, 1, 1, 0]), (24, [0, 5], []), (20, [13, 11, 12, 14, 9, 15, 16], [61, 2, 923])], [], [(0, -2147483648, 2147483647, []), (0, -2147483648, 2147483647, []), (0, 0, 24, [])], [(23, [18, 2], [0, 1, -1]), (23, [18, 2], [0, -1, 1]), (23, [19, 3], [0, 1, -1]), (23, [19, 3], [0, -1, 1]), (23, [20, 4], [0, 1, -1]), (23, [20, 4], [0, -1, 1]), (20, [5, 18, 19], [60, 1, 1, 900, 3, 2]), (20, [5, 18, 19, 9], [60, 0, 1, 909, 6]), (20, [7, 5], [50, 1, 0, 1003, 2, 6, 0, 2, 0, 0, 1, 0, 0, 2, 1, 0, 2, 1, 3]), (20, [17], [50, 0, 0, 1, 2, 1, 0, 0, 0]), (20, [9], [50, 0, 0, 0, 2, 0, 1, 1, 0]), (20, [20, 5], [50, 1, 0, 1003, 0, 6, 4, 2, 1, 0, 0, 2, 2, 1, 3])], [], [])
theorem oo_Pn_insertWay_13 {kA : Nat → ClassId} : or_ok PRD kA GG o_Pn_insertWay_13 := by
  refine or_mk fun A ta ws vs hD hth hl => ?_
  intro t0 r0 t2 k2 t3 k3 t4 k4 t7 k7 t9 k9 t12 k12 t14 k14 t15 k15 t16 k16 t17 k17 f0 f1 f4 f5 f6 f7 f8 f9 f10 f13 f14 f16
  replace f0 := shm_111 f0
  replace f1 := shm_110 f1
  replace f4 := shm_7 f4
  replace f5 := shm_22 f5
  replace f6 := shm_7 f6
  replace f7 := shm_22 f7
  replace f8 := shm_908 f8
  replace f9 := shm_1208 f9
  replace f10 := shm_911 f10
  replace f13 := shm_710 f13
  replace f14 := shm_5 f14
  replace f16 := shm_1215 f16
  have q5 : n_v vs 5 = n_v vs 0 := f14.symm
  simp only [q5] at f0 f1 f8 f9 f10
  have ad_13 : v_ad (n_v vs 13) = w_ar ws (n_v vs 0) 6 := congrArg v_ad f0
  have ad_11 : v_ad (n_v vs 11) = w_ar ws (n_v vs 0) 5 := congrArg v_ad f1
  simp only [ad_11, ad_13] at f16
  have kz_0_3 := fdq_13 hD hth r0
  obtain ⟨x, ex, hx⟩ := iv_ex (ta := ta) (lo := (-2147483648)) (hi := 2147483647) (z := v_iv (n_v vs 2)) (by omega) (by omega) (by omega) (by omega)
  have ex2 : v_iv (Value.int x) = v_iv (n_v vs 2) := ex
  have ex3 : (-2147483648) ≤ v_iv (Value.int x) ∧ v_iv (Value.int x) ≤ 2147483647 := tv_rng hx
  obtain ⟨y, ey, hy⟩ := iv_ex (ta := ta) (lo := (-2147483648)) (hi := 2147483647) (z := v_iv (n_v vs 3)) (by omega) (by omega) (by omega) (by omega)
  have ey2 : v_iv (Value.int y) = v_iv (n_v vs 3) := ey
  have ey3 : (-2147483648) ≤ v_iv (Value.int y) ∧ v_iv (Value.int y) ≤ 2147483647 := tv_rng hy
  obtain ⟨u, eu, hu⟩ := iv_ex (ta := ta) (lo := 0) (hi := 24) (z := v_iv (n_v vs 4)) (by omega) (by omega) (by omega) (by omega)
  have eu2 : v_iv (Value.int u) = v_iv (n_v vs 4) := eu
  have eu3 : 0 ≤ v_iv (Value.int u) ∧ v_iv (Value.int u) ≤ 24 := tv_rng hu
  have e_2 : n_v (vs ++ [Value.int x, Value.int y, Value.int u]) 2 = n_v vs 2 := n_v_old (by rw [hl]; decide)
  have e_3 : n_v (vs ++ [Value.int x, Value.int y, Value.int u]) 3 = n_v vs 3 := n_v_old (by rw [hl]; decide)
  have e_4 : n_v (vs ++ [Value.int x, Value.int y, Value.int u]) 4 = n_v vs 4 := n_v_old (by rw [hl]; decide)
  have e_5 : n_v (vs ++ [Value.int x, Value.int y, Value.int u]) 5 = n_v vs 5 := n_v_old (by rw [hl]; decide)
  have e_7 : n_v (vs ++ [Value.int x, Value.int y, Value.int u]) 7 = n_v vs 7 := n_v_old (by rw [hl]; decide)
  have e_9 : n_v (vs ++ [Value.int x, Value.int y, Value.int u]) 9 = n_v vs 9 := n_v_old (by rw [hl]; decide)
  have e_17 : n_v (vs ++ [Value.int x, Value.int y, Value.int u]) 17 = n_v vs 17 := n_v_old (by rw [hl]; decide)
  have e_18 : n_v (vs ++ [Value.int x, Value.int y, Value.int u]) 18 = Value.int x := n_v_newk (k := 0) hl rfl
  have e_19 : n_v (vs ++ [Value.int x, Value.int y, Value.int u]) 19 = Value.int y := n_v_newk (k := 1) hl rfl
  have e_20 : n_v (vs ++ [Value.int x, Value.int y, Value.int u]) 20 = Value.int u := n_v_newk (k := 2) hl rfl
  have nf0 : fc_1 PRD (23, [18, 2], [0, 1, -1]) ws (vs ++ [Value.int x, Value.int y, Value.int u]) := by
    refine ⟨nf_inA hl rfl, sgq_7 ?_⟩
    · show 1 * v_iv (n_v (vs ++ [Value.int x, Value.int y, Value.int u]) 18) + ((-1) * v_iv (n_v (vs ++ [Value.int x, Value.int y, Value.int u]) 2) + 0) ≤ 0
      simp only [e_2, e_18]
      exact vc_Pn_insertWay_13_0 (v_iv (n_v vs 2)) (v_iv (n_v vs 15)) (v_iv (Value.int x)) k2 k15 f4 f5 ex2
  have nf1 : fc_1 PRD (23, [18, 2], [0, -1, 1]) ws (vs ++ [Value.int x, Value.int y, Value.int u]) := by
    refine ⟨nf_inA hl rfl, sgq_22 ?_⟩
    · show (-1) * v_iv (n_v (vs ++ [Value.int x, Value.int y, Value.int u]) 18) + (1 * v_iv (n_v (vs ++ [Value.int x, Value.int y, Value.int u]) 2) + 0) ≤ 0
      simp only [e_2, e_18]
      exact vc_Pn_insertWay_13_1 (v_iv (n_v vs 2)) (v_iv (n_v vs 15)) (v_iv (Value.int x)) k2 k15 f4 f5 ex2
  have nf2 : fc_1 PRD (23, [19, 3], [0, 1, -1]) ws (vs ++ [Value.int x, Value.int y, Value.int u]) := by
    refine ⟨nf_inA hl rfl, sgq_7 ?_⟩
    · show 1 * v_iv (n_v (vs ++ [Value.int x, Value.int y, Value.int u]) 19) + ((-1) * v_iv (n_v (vs ++ [Value.int x, Value.int y, Value.int u]) 3) + 0) ≤ 0
      simp only [e_3, e_19]
      exact vc_Pn_insertWay_13_2 (v_iv (n_v vs 3)) (v_iv (n_v vs 16)) (v_iv (Value.int y)) k3 k16 f6 f7 ey2
  have nf3 : fc_1 PRD (23, [19, 3], [0, -1, 1]) ws (vs ++ [Value.int x, Value.int y, Value.int u]) := by
    refine ⟨nf_inA hl rfl, sgq_22 ?_⟩
    · show (-1) * v_iv (n_v (vs ++ [Value.int x, Value.int y, Value.int u]) 19) + (1 * v_iv (n_v (vs ++ [Value.int x, Value.int y, Value.int u]) 3) + 0) ≤ 0
      simp only [e_3, e_19]
      exact vc_Pn_insertWay_13_3 (v_iv (n_v vs 3)) (v_iv (n_v vs 16)) (v_iv (Value.int y)) k3 k16 f6 f7 ey2
  have nf4 : fc_1 PRD (23, [20, 4], [0, 1, -1]) ws (vs ++ [Value.int x, Value.int y, Value.int u]) := by
    refine ⟨nf_inA hl rfl, sgq_7 ?_⟩
    · show 1 * v_iv (n_v (vs ++ [Value.int x, Value.int y, Value.int u]) 20) + ((-1) * v_iv (n_v (vs ++ [Value.int x, Value.int y, Value.int u]) 4) + 0) ≤ 0
      simp only [e_4, e_20]
      exact vc_Pn_insertWay_13_4 (v_iv (n_v vs 4)) (v_iv (Value.int u)) k4 eu2
  have nf5 : fc_1 PRD (23, [20, 4], [0, -1, 1]) ws (vs ++ [Value.int x, Value.int y, Value.int u]) := by
    refine ⟨nf_inA hl rfl, sgq_22 ?_⟩
    · show (-1) * v_iv (n_v (vs ++ [Value.int x, Value.int y, Value.int u]) 20) + (1 * v_iv (n_v (vs ++ [Value.int x, Value.int y, Value.int u]) 4) + 0) ≤ 0
      simp only [e_4, e_20]
      exact vc_Pn_insertWay_13_5 (v_iv (n_v vs 4)) (v_iv (Value.int u)) k4 eu2
  have nf6 : fc_1 PRD (20, [5, 18, 19], [60, 1, 1, 900, 3, 2]) ws (vs ++ [Value.int x, Value.int y, Value.int u]) := by
    refine ⟨nf_inA hl rfl, sgq_908 ?_⟩
    · show OFL (w_fi ws (n_v (vs ++ [Value.int x, Value.int y, Value.int u]) 5) 3) (w_ei ws (w_ar ws (n_v (vs ++ [Value.int x, Value.int y, Value.int u]) 5) 2)) (v_iv (n_v (vs ++ [Value.int x, Value.int y, Value.int u]) 18)) (v_iv (n_v (vs ++ [Value.int x, Value.int y, Value.int u]) 19))
      simp only [e_5, e_18, e_19, q5]
      exact vc_Pn_insertWay_13_6 (v_iv (n_v vs 2)) (v_iv (n_v vs 3)) (w_ei ws (w_ar ws (n_v vs 0) 2)) (w_fi ws (n_v vs 0) 3) (v_iv (Value.int x)) (v_iv (Value.int y)) k2 k3 f8 kz_0_3 ex2 ey2
  have nf7 : fc_1 PRD (20, [5, 18, 19, 9], [60, 0, 1, 909, 6]) ws (vs ++ [Value.int x, Value.int y, Value.int u]) := by
    refine ⟨nf_inA hl rfl, sgq_909 ?_⟩
    · show EWJ (w_ei ws (w_ar ws (n_v (vs ++ [Value.int x, Value.int y, Value.int u]) 5) 6)) (v_iv (n_v (vs ++ [Value.int x, Value.int y, Value.int u]) 18)) (v_iv (n_v (vs ++ [Value.int x, Value.int y, Value.int u]) 19)) (v_iv (n_v (vs ++ [Value.int x, Value.int y, Value.int u]) 9))
      simp only [e_5, e_9, e_18, e_19, q5]
      exact vc_Pn_insertWay_13_7 (v_iv (n_v vs 2)) (v_iv (n_v vs 3)) (v_iv (n_v vs 9)) (v_iv (n_v vs 12)) (v_iv (n_v vs 14)) (v_iv (n_v vs 15)) (v_iv (n_v vs 16)) (w_ei ws (w_ar ws (n_v vs 0) 5)) (w_ei ws (w_ar ws (n_v vs 0) 6)) (v_iv (Value.int x)) (v_iv (Value.int y)) k2 k3 k9 k12 k14 k15 k16 f4 f5 f6 f7 f16 ex2 ey2
  have nf8 : fc_1 PRD (20, [7, 5], [50, 1, 0, 1003, 2, 6, 0, 2, 0, 0, 1, 0, 0, 2, 1, 0, 2, 1, 3]) ws (vs ++ [Value.int x, Value.int y, Value.int u]) := by
    refine ⟨nf_inA hl rfl, sgq_910 ?_⟩
    · show (0 ≤ v_iv (n_v (vs ++ [Value.int x, Value.int y, Value.int u]) 7)) ∧ (v_iv (n_v (vs ++ [Value.int x, Value.int y, Value.int u]) 7) ≤ w_fi ws (n_v (vs ++ [Value.int x, Value.int y, Value.int u]) 5) 3)
      simp only [e_5, e_7, q5]
      exact vc_Pn_insertWay_13_8 (v_iv (n_v vs 7)) (w_fi ws (n_v vs 0) 3) k7 f9 kz_0_3
  have nf9 : fc_1 PRD (20, [17], [50, 0, 0, 1, 2, 1, 0, 0, 0]) ws (vs ++ [Value.int x, Value.int y, Value.int u]) := by
    refine ⟨nf_inA hl rfl, sgq_649 ?_⟩
    · show v_iv (n_v (vs ++ [Value.int x, Value.int y, Value.int u]) 17) = 0
      rw [e_17]
      exact vc_Pn_insertWay_13_9 (v_iv (n_v vs 17)) k17
  have nf10 : fc_1 PRD (20, [9], [50, 0, 0, 0, 2, 0, 1, 1, 0]) ws (vs ++ [Value.int x, Value.int y, Value.int u]) := by
    refine ⟨nf_inA hl rfl, sgq_710 ?_⟩
    · show 1 ≤ v_iv (n_v (vs ++ [Value.int x, Value.int y, Value.int u]) 9)
      rw [e_9]
      exact vc_Pn_insertWay_13_10 (v_iv (n_v vs 9)) k9 f13
  have nf11 : fc_1 PRD (20, [20, 5], [50, 1, 0, 1003, 0, 6, 4, 2, 1, 0, 0, 2, 2, 1, 3]) ws (vs ++ [Value.int x, Value.int y, Value.int u]) := by
    refine ⟨nf_inA hl rfl, sgq_911 ?_⟩
    · show (v_iv (n_v (vs ++ [Value.int x, Value.int y, Value.int u]) 20) + 2) ≤ w_fi ws (n_v (vs ++ [Value.int x, Value.int y, Value.int u]) 5) 3
      simp only [e_5, e_20, q5]
      exact vc_Pn_insertWay_13_11 (v_iv (n_v vs 4)) (w_fi ws (n_v vs 0) 3) (v_iv (Value.int u)) k4 f10 kz_0_3 eu2
  exact ⟨(fun _ h => (by cases h)), [Value.int x, Value.int y, Value.int u], ag_three hx hy hu, List.forall_mem_cons.mpr ⟨⟨show (23 : Nat) < 100 from by decide, nf0⟩, List.forall_mem_cons.mpr ⟨⟨show (23 : Nat) < 100 from by decide, nf1⟩, List.forall_mem_cons.mpr ⟨⟨show (23 : Nat) < 100 from by decide, nf2⟩, List.forall_mem_cons.mpr ⟨⟨show (23 : Nat) < 100 from by decide, nf3⟩, List.forall_mem_cons.mpr ⟨⟨show (23 : Nat) < 100 from by decide, nf4⟩, List.forall_mem_cons.mpr ⟨⟨show (23 : Nat) < 100 from by decide, nf5⟩, List.forall_mem_cons.mpr ⟨⟨show (20 : Nat) < 100 from by decide, nf6⟩, List.forall_mem_cons.mpr ⟨⟨show (20 : Nat) < 100 from by decide, nf7⟩, List.forall_mem_cons.mpr ⟨⟨show (20 : Nat) < 100 from by decide, nf8⟩, List.forall_mem_cons.mpr ⟨⟨show (20 : Nat) < 100 from by decide, nf9⟩, List.forall_mem_cons.mpr ⟨⟨show (20 : Nat) < 100 from by decide, nf10⟩, List.forall_mem_cons.mpr ⟨⟨show (20 : Nat) < 100 from by decide, nf11⟩, (fun _ h => (by cases h))⟩⟩⟩⟩⟩⟩⟩⟩⟩⟩⟩⟩, (fun _ h => (by cases h))⟩
set_option maxHeartbeats 4000000 in
theorem vc_Pn_insertWay_14_0 (x2 : Int) (x3 : Int) (x18 : Int) (x19 : Int) (line_0 : Int → Int) (lineLength_0 : Int) (k2 : (-2147483648) ≤ x2 ∧ x2 ≤ 2147483647) (k3 : (-2147483648) ≤ x3 ∧ x3 ≤ 2147483647) (k18 : (-2147483648) ≤ x18 ∧ x18 ≤ 2147483647) (k19 : (-2147483648) ≤ x19 ∧ x19 ≤ 2147483647) (f2 : 1 * x18 + ((-1) * x2 + 0) ≤ 0) (f3 : (-1) * x18 + (1 * x2 + 0) ≤ 0) (f4 : 1 * x19 + ((-1) * x3 + 0) ≤ 0) (f5 : (-1) * x19 + (1 * x3 + 0) ≤ 0) (f23 : OFP (lineLength_0) (line_0) (x18) (x19)) (kz_0_3 : 0 ≤ lineLength_0 ∧ lineLength_0 ≤ 24) : OFP (lineLength_0) (line_0) (x2) (x3) := by
  first
    | assumption
    | (have h := (‹OFP _ _ _ _›); rw [show x23 = x2 by omega, show x24 = x3 by omega] at h; exact h)
    | (have h := (‹OFP _ _ _ _›); rw [show x18 = x2 by omega, show x19 = x3 by omega] at h; exact h)
set_option maxHeartbeats 4000000 in
theorem vc_Pn_insertWay_14_1 (x4 : Int) (x20 : Int) (lineLength_0 : Int) (k4 : 0 ≤ x4 ∧ x4 ≤ 24) (k20 : 0 ≤ x20 ∧ x20 ≤ 24) (f6 : 1 * x20 + ((-1) * x4 + 0) ≤ 0) (f7 : (-1) * x20 + (1 * x4 + 0) ≤ 0) (f24 : (x20 + 3) ≤ lineLength_0) (kz_0_3 : 0 ≤ lineLength_0 ∧ lineLength_0 ≤ 24) : (x4 + 3) ≤ lineLength_0 := by
  first
    | omega
  
def o_Pn_insertWay_14 : or_T := (172, 21, [(0, (2, 0, 0, [7])), (1, (0, 0, 25, [])), (2, (0, -2147483648, 2147483647, [])), (3, (0, -2147483648, 2147483647, [])), (4, (0, 0, 24, [])), (5, (2, 0, 0, [7])), (6, (0, 0, 25, [])), (9, (0, 1, 23, [])), (10, (0, 1, 23, [])), (11, (2, 0, 0, [105])), (12, (0, 0, 0, [])), (13, (2, 0, 0, [106])), (14, (0, 0, 0, [])), (15, (0, -2147483648, 2147483647, [])), (16, (0, -2147483648, 2147483647, [])), (17, (0, 0, 0, [])), (18, (0, -2147483648, 2147483647, [])), (19, (0, -2147483648, 2147483647, [])), (20, (0, 0, 24, []))], [(9, [13, 5], [6]), (9, [11, 5], [5]), (23, [18, 2], [0, 1, -1]), (23, [18, 2], [0, -1, 1]), (23, [19, 3], [0, 1, -1]), (23, [19, 3], [0, -1, 1]), (23, [20, 4], [0, 1, -1]), (23, [20, 4], [0, -1, 1]), (20, [5, 18, 19, 9], [60, 0, 1, 909, 6]), (20, [17], [50, 0, 0, 1, 2, 1, 0, 0, 0]), (20, [9], [50, 0, 0, 0, 2, 0, 1, 1, 0]), (21, [12, 9], [26]), (21, [14, 9], [27]), (23, [15, 2], [0, 1, -1]), (23, [15, 2], [0, -1, 1]), (23, [16, 3], [0, 1, -1]), (23, [16, 3], [0, -1, 1]), (20, [5, 10], [60, 0, 1, 645, 5]), (20, [10], [50, 0, 0, 0, 2, 0, 0, 1, 0]), (20, [9], [50, 0, 0, 0, 2, 0, 1, 1, 0]), (24, [0, 5], []), (24, [1, 6], []), (20, [13, 11, 12, 14, 9, 15, 16], [61, 2, 923]), (20, [5, 18, 19], [60, 1, 1, 901, 3, 2]), (20, [20, 5], [50, 1, 0, 1003, 0, 6, 4, 2, 1, 0, 0, 3, 2, 1, 3]), (102, [20], [10141204801825835211973625643008, 7003]), (23, [18, 2], [0, 1, -1]), (23, [18, 2], [0, -1, 1]), (23, [19, 3], [0, 1, -1]), (23, [19, 3], [0, -1, 1]), (23, [20, 4], [0, 1, -1]), (23, [20, 4], [0, -1, 1]), (21, [12, 9], [26]), (21, [14, 9], [27]), (23, [15, 2], [0, 1, -1]), (23, [15, 2], [0, -1, 1]), (23, [16, 3], [0, 1, -1]), (23, [16, 3], [0, -1, 1]), (102, [16], [81129638414606681695789005144064]), (21, [12, 9], [26]), (21, [14, 9], [27]), (23, [15, 2], [0, 1, -1]), (23, [15, 2], [0, -1, 1]), (23, [16, 3], [0, 1, -1]), (23, [16, 3], [0, -1, 1]), (7, [10, 9], [3])], [], [], [(20, [0, 2, 3], [60, 1, 1, 901, 3, 2]), (20, [4, 0], [50, 1, 0, 1003, 0, 6, 4, 2, 1, 0, 0, 3, 2, 1, 3])], [], [(10, 9, 0, 4294967296), (1, 6, -4294967296, 0), (6, 1, -4294967296, 0), (10, 9, -4294967296, 0)])
theorem oo_Pn_insertWay_14 {kA : Nat → ClassId} : or_ok PRD kA GG o_Pn_insertWay_14 := by
  refine or_mk fun A ta ws vs hD hth hl => ?_
  intro t0 r0 t1 k1 t2 k2 t3 k3 t4 k4 t5 r5 t6 k6 t9 k9 t10 k10 t11 r11 t12 k12 t13 r13 t14 k14 t15 k15 t16 k16 t17 k17 t18 k18 t19 k19 t20 k20 d0 d1 d2 d3 f0 f1 f2 f3 f4 f5 f6 f7 f8 f9 f10 f11 f12 f13 f14 f15 f16 f17 f18 f19 f20 f21 f22 f23 f24 ta1 w1 le1 s1 f26 f27 f28 f29 f30 f31 f32 f33 f34 f35 f36 f37 ta2 w2 le2 s2 f39 f40 f41 f42 f43 f44 f45
  replace f20 := shm_5 f20
  replace f23 := shm_912 f23
  replace f24 := shm_913 f24
  have q5 : n_v vs 5 = n_v vs 0 := f20.symm
  simp only [q5] at f23 f24
  have kz_0_3 := fdq_13 hD hth r0
  have nf0 : fc_1 PRD (20, [0, 2, 3], [60, 1, 1, 901, 3, 2]) ws (vs) := ⟨nf_in hl rfl, sgq_912 (vc_Pn_insertWay_14_0 (v_iv (n_v vs 2)) (v_iv (n_v vs 3)) (v_iv (n_v vs 18)) (v_iv (n_v vs 19)) (w_ei ws (w_ar ws (n_v vs 0) 2)) (w_fi ws (n_v vs 0) 3) k2 k3 k18 k19 (shm_7 f2) (shm_22 f3) (shm_7 f4) (shm_22 f5) f23 kz_0_3)⟩
  have nf1 : fc_1 PRD (20, [4, 0], [50, 1, 0, 1003, 0, 6, 4, 2, 1, 0, 0, 3, 2, 1, 3]) ws (vs) := ⟨nf_in hl rfl, sgq_913 (vc_Pn_insertWay_14_1 (v_iv (n_v vs 4)) (v_iv (n_v vs 20)) (w_fi ws (n_v vs 0) 3) k4 k20 (shm_7 f6) (shm_22 f7) f24 kz_0_3)⟩
  refine ⟨(fun _ h => (by cases h)), [], trivial, ?_, (fun _ h => (by cases h))⟩
  rw [List.append_nil]
  exact List.forall_mem_cons.mpr ⟨⟨show (20 : Nat) < 100 from by decide, nf0⟩, List.forall_mem_cons.mpr ⟨⟨show (20 : Nat) < 100 from by decide, nf1⟩, (fun _ h => (by cases h))⟩⟩
set_option maxHeartbeats 4000000 in
theorem vc_Pn_insertWay_15_0 (x2 : Int) (x3 : Int) (x18 : Int) (x19 : Int) (line_0 : Int → Int) (lineLength_0 : Int) (k2 : (-2147483648) ≤ x2 ∧ x2 ≤ 2147483647) (k3 : (-2147483648) ≤ x3 ∧ x3 ≤ 2147483647) (k18 : (-2147483648) ≤ x18 ∧ x18 ≤ 2147483647) (k19 : (-2147483648) ≤ x19 ∧ x19 ≤ 2147483647) (f2 : 1 * x18 + ((-1) * x2 + 0) ≤ 0) (f3 : (-1) * x18 + (1 * x2 + 0) ≤ 0) (f4 : 1 * x19 + ((-1) * x3 + 0) ≤ 0) (f5 : (-1) * x19 + (1 * x3 + 0) ≤ 0) (f23 : OFP (lineLength_0) (line_0) (x18) (x19)) (kz_0_3 : 0 ≤ lineLength_0 ∧ lineLength_0 ≤ 24) : OFP (lineLength_0) (line_0) (x2) (x3) := by
  first
    | assumption
    | (have h := (‹OFP _ _ _ _›); rw [show x23 = x2 by omega, show x24 = x3 by omega] at h; exact h)
    | (have h := (‹OFP _ _ _ _›); rw [show x18 = x2 by omega, show x19 = x3 by omega] at h; exact h)
set_option maxHeartbeats 4000000 in
theorem vc_Pn_insertWay_15_1 (x4 : Int) (x20 : Int) (lineLength_0 : Int) (k4 : 0 ≤ x4 ∧ x4 ≤ 24) (k20 : 0 ≤ x20 ∧ x20 ≤ 24) (f6 : 1 * x20 + ((-1) * x4 + 0) ≤ 0) (f7 : (-1) * x20 + (1 * x4 + 0) ≤ 0) (f24 : (x20 + 3) ≤ lineLength_0) (kz_0_3 : 0 ≤ lineLength_0 ∧ lineLength_0 ≤ 24) : (x4 + 3) ≤ lineLength_0 := by
  first
    | omega
  
def o_Pn_insertWay_15 : or_T := (172, 21, [(0, (2, 0, 0, [7])), (1, (0, 0, 25, [])), (2, (0, -2147483648, 2147483647, [])), (3, (0, -2147483648, 2147483647, [])), (4, (0, 0, 24, [])), (5, (2, 0, 0, [7])), (6, (0, 0, 25, [])), (9, (0, 0, 23, [])), (10, (0, 0, 23, [])), (11, (2, 0, 0, [105])), (12, (0, 0, 0, [])), (13, (2, 0, 0, [106])), (14, (0, 0, 0, [])), (15, (0, -2147483648, 2147483647, [])), (16, (0, -2147483648, 2147483647, [])), (17, (0, 0, 0, [])), (18, (0, -2147483648, 2147483647, [])), (19, (0, -2147483648, 2147483647, [])), (20, (0, 0, 24, []))], [(9, [13, 5], [6]), (9, [11, 5], [5]), (23, [18, 2], [0, 1, -1]), (23, [18, 2], [0, -1, 1]), (23, [19, 3], [0, 1, -1]), (23, [19, 3], [0, -1, 1]), (23, [20, 4], [0, 1, -1]), (23, [20, 4], [0, -1, 1]), (20, [5, 18, 19, 9], [60, 0, 1, 909, 6]), (20, [17], [50, 0, 0, 1, 2, 1, 0, 0, 0]), (20, [9], [50, 0, 0, 0, 2, 0, 1, 1, 0]), (21, [12, 9], [26]), (21, [14, 9], [27]), (23, [15, 2], [0, 1, -1]), (23, [15, 2], [0, -1, 1]), (23, [16, 3], [0, 1, -1]), (23, [16, 3], [0, -1, 1]), (20, [5, 10], [60, 0, 1, 645, 5]), (20, [10], [50, 0, 0, 0, 2, 0, 0, 1, 0]), (20, [9], [50, 0, 0, 0, 2, 0, 1, 1, 0]), (24, [0, 5], []), (24, [1, 6], []), (20, [13, 11, 12, 14, 9, 15, 16], [61, 2, 923]), (20, [5, 18, 19], [60, 1, 1, 901, 3, 2]), (20, [20, 5], [50, 1, 0, 1003, 0, 6, 4, 2, 1, 0, 0, 3, 2, 1, 3]), (102, [20], [10141204801825835211973625643008, 7003]), (23, [18, 2], [0, 1, -1]), (23, [18, 2], [0, -1, 1]), (23, [19, 3], [0, 1, -1]), (23, [19, 3], [0, -1, 1]), (23, [20, 4], [0, 1, -1]), (23, [20, 4], [0, -1, 1]), (21, [12, 9], [26]), (21, [14, 9], [27]), (23, [15, 2], [0, 1, -1]), (23, [15, 2], [0, -1, 1]), (23, [16, 3], [0, 1, -1]), (23, [16, 3], [0, -1, 1]), (102, [16], [81129638414606681695789005144064]), (21, [12, 9], [26]), (21, [14, 9], [27]), (23, [15, 2], [0, 1, -1]), (23, [15, 2], [0, -1, 1]), (23, [16, 3], [0, 1, -1]), (23, [16, 3], [0, -1, 1]), (7, [10, 9], [3])], [], [], [(20, [0, 2, 3], [60, 1, 1, 901, 3, 2]), (20, [4, 0], [50, 1, 0, 1003, 0, 6, 4, 2, 1, 0, 0, 3, 2, 1, 3])], [], [(10, 9, 0, 4294967296), (1, 6, -4294967296, 0), (1, 9, -4294967296, 24), (6, 1, -4294967296, 0), (6, 9, -4294967296, 24), (10, 9, -4294967296, 0)])
theorem oo_Pn_insertWay_15 {kA : Nat → ClassId} : or_ok PRD kA GG o_Pn_insertWay_15 := by
  refine or_mk fun A ta ws vs hD hth hl => ?_
  intro t0 r0 t1 k1 t2 k2 t3 k3 t4 k4 t5 r5 t6 k6 t9 k9 t10 k10 t11 r11 t12 k12 t13 r13 t14 k14 t15 k15 t16 k16 t17 k17 t18 k18 t19 k19 t20 k20 d0 d1 d2 d3 d4 d5 f0 f1 f2 f3 f4 f5 f6 f7 f8 f9 f10 f11 f12 f13 f14 f15 f16 f17 f18 f19 f20 f21 f22 f23 f24 ta1 w1 le1 s1 f26 f27 f28 f29 f30 f31 f32 f33 f34 f35 f36 f37 ta2 w2 le2 s2 f39 f40 f41 f42 f43 f44 f45
  replace f20 := shm_5 f20
  replace f23 := shm_912 f23
  replace f24 := shm_913 f24
  have q5 : n_v vs 5 = n_v vs 0 := f20.symm
  simp only [q5] at f23 f24
  have kz_0_3 := fdq_13 hD hth r0
  have nf0 : fc_1 PRD (20, [0, 2, 3], [60, 1, 1, 901, 3, 2]) ws (vs) := ⟨nf_in hl rfl, sgq_912 (vc_Pn_insertWay_15_0 (v_iv (n_v vs 2)) (v_iv (n_v vs 3)) (v_iv (n_v vs 18)) (v_iv (n_v vs 19)) (w_ei ws (w_ar ws (n_v vs 0) 2)) (w_fi ws (n_v vs 0) 3) k2 k3 k18 k19 (shm_7 f2) (shm_22 f3) (shm_7 f4) (shm_22 f5) f23 kz_0_3)⟩
  have nf1 : fc_1 PRD (20, [4, 0], [50, 1, 0, 1003, 0, 6, 4, 2, 1, 0, 0, 3, 2, 1, 3]) ws (vs) := ⟨nf_in hl rfl, sgq_913 (vc_Pn_insertWay_15_1 (v_iv (n_v vs 4)) (v_iv (n_v vs 20)) (w_fi ws (n_v vs 0) 3) k4 k20 (shm_7 f6) (shm_22 f7) f24 kz_0_3)⟩
  refine ⟨(fun _ h => (by cases h)), [], trivial, ?_, (fun _ h => (by cases h))⟩
  rw [List.append_nil]
  exact List.forall_mem_cons.mpr ⟨⟨show (20 : Nat) < 100 from by decide, nf0⟩, List.forall_mem_cons.mpr ⟨⟨show (20 : Nat) < 100 from by decide, nf1⟩, (fun _ h => (by cases h))⟩⟩
set_option maxHeartbeats 4000000 in
theorem vc_Pn_insertWay_16_0 (x1 : Int) (x2 : Int) (x3 : Int) (x4 : Int) (x6 : Int) (x7 : Int) (x9 : Int) (x10 : Int) (x13 : Int) (x14 : Int) (x15 : Int) (line_0 : Int → Int) (lineLength_0 : Int) (way_1 : Int → Int) (line_1 : Int → Int) (lineLength_1 : Int) (level_1 : Int → Int) (level_0 : Int → Int) (way_0 : Int → Int) (k1 : 0 ≤ x1 ∧ x1 ≤ 25) (k2 : (-2147483648) ≤ x2 ∧ x2 ≤ 2147483647) (k3 : (-2147483648) ≤ x3 ∧ x3 ≤ 2147483647) (k4 : 0 ≤ x4 ∧ x4 ≤ 24) (k6 : 0 ≤ x6 ∧ x6 ≤ 25) (k7 : 0 ≤ x7 ∧ x7 ≤ 23) (k9 : 1 ≤ x9 ∧ x9 ≤ 23) (k10 : 0 ≤ x10 ∧ x10 ≤ 22) (k13 : 1 ≤ x13 ∧ x13 ≤ 23) (k14 : 0 ≤ x14 ∧ x14 ≤ 23) (k15 : 1 ≤ x15 ∧ x15 ≤ 23) (d0 : x10 + 1 ≤ x15 ∧ x15 ≤ x10 + 1) (d1 : x9 + (-4294967296) ≤ x15 ∧ x15 ≤ x9 + 0) (d2 : x9 + (-4294967296) ≤ x15 ∧ x15 ≤ x9 + 1) (d3 : x9 + (-22) ≤ x13 ∧ x13 ≤ x9 + 0) (d4 : x9 + (-4294967296) ≤ x10 ∧ x10 ≤ x9 + (-1)) (d5 : x6 + (-4294967296) ≤ x1 ∧ x1 ≤ x6 + 0) (d6 : x1 + (-4294967296) ≤ x6 ∧ x6 ≤ x1 + 0) (d7 : x9 + (-4294967296) ≤ x10 ∧ x10 ≤ x9 + 0) (f2 : x15 = x10 + 1) (f3 : OFL (lineLength_0) (line_0) (x2) (x3)) (f4 : (0 ≤ x7) ∧ ((x7 + 1) ≤ lineLength_0)) (f5 : (x4 + 2) ≤ lineLength_0) (f6 : 0 ≤ x10) (f7 : 1 ≤ x9) (h11 : x14 = way_1 (x13)) (f12 : x13 = x9 - x10) (f13 : x10 < x9) (f14 : OFL (lineLength_1) (line_1) (x2) (x3)) (f15 : (0 ≤ x7) ∧ ((x7 + 1) ≤ lineLength_1)) (f16 : (x4 + 2) ≤ lineLength_1) (f17 : LVW (level_1) (x10)) (f18 : 0 ≤ x10) (f19 : LVR (level_1) (way_1) (x2) (x3) (x9) (x10)) (f20 : 1 ≤ x9) (fe_0_3_1 : lineLength_0 = lineLength_1) (hE_0_2_1 : ∀ j : Int, line_0 j = line_1 j) (hK_0_2 : ∀ j : Int, 0 ≤ j → j < 24 → 0 ≤ line_0 j ∧ line_0 j ≤ 23) (hE_0_5_1 : ∀ j : Int, 0 ≤ j → (j = x10 → level_0 j = x14) ∧ (j ≠ x10 → level_0 j = level_1 j)) (hK_0_5 : ∀ j : Int, 0 ≤ j → j < 26 → 0 ≤ level_0 j ∧ level_0 j ≤ 16777215) (hE_0_6_1 : ∀ j : Int, way_0 j = way_1 j) (hK_0_6 : ∀ j : Int, 0 ≤ j → j < 27 → 0 ≤ way_0 j ∧ way_0 j ≤ 23) (kz_0_3 : 0 ≤ lineLength_0 ∧ lineLength_0 ≤ 24) : LVW (level_0) (x15) := by
  subst fe_0_3_1
  have e_hE_0_2_1 := funext hE_0_2_1; subst e_hE_0_2_1
  have e_hE_0_6_1 := funext hE_0_6_1; subst e_hE_0_6_1
  first
    | exact lvw_start (by omega)
    | exact lvw_step (p := x10) ‹LVW _ _› (by assumption) rfl (by omega) (by omega) (by omega)
  
set_option maxHeartbeats 4000000 in
theorem vc_Pn_insertWay_16_1 (x1 : Int) (x2 : Int) (x3 : Int) (x4 : Int) (x6 : Int) (x7 : Int) (x9 : Int) (x10 : Int) (x13 : Int) (x14 : Int) (x15 : Int) (line_0 : Int → Int) (lineLength_0 : Int) (way_1 : Int → Int) (line_1 : Int → Int) (lineLength_1 : Int) (level_1 : Int → Int) (level_0 : Int → Int) (way_0 : Int → Int) (k1 : 0 ≤ x1 ∧ x1 ≤ 25) (k2 : (-2147483648) ≤ x2 ∧ x2 ≤ 2147483647) (k3 : (-2147483648) ≤ x3 ∧ x3 ≤ 2147483647) (k4 : 0 ≤ x4 ∧ x4 ≤ 24) (k6 : 0 ≤ x6 ∧ x6 ≤ 25) (k7 : 0 ≤ x7 ∧ x7 ≤ 23) (k9 : 1 ≤ x9 ∧ x9 ≤ 23) (k10 : 0 ≤ x10 ∧ x10 ≤ 22) (k13 : 1 ≤ x13 ∧ x13 ≤ 23) (k14 : 0 ≤ x14 ∧ x14 ≤ 23) (k15 : 1 ≤ x15 ∧ x15 ≤ 23) (d0 : x10 + 1 ≤ x15 ∧ x15 ≤ x10 + 1) (d1 : x9 + (-4294967296) ≤ x15 ∧ x15 ≤ x9 + 0) (d2 : x9 + (-4294967296) ≤ x15 ∧ x15 ≤ x9 + 1) (d3 : x9 + (-22) ≤ x13 ∧ x13 ≤ x9 + 0) (d4 : x9 + (-4294967296) ≤ x10 ∧ x10 ≤ x9 + (-1)) (d5 : x6 + (-4294967296) ≤ x1 ∧ x1 ≤ x6 + 0) (d6 : x1 + (-4294967296) ≤ x6 ∧ x6 ≤ x1 + 0) (d7 : x9 + (-4294967296) ≤ x10 ∧ x10 ≤ x9 + 0) (f2 : x15 = x10 + 1) (f3 : OFL (lineLength_0) (line_0) (x2) (x3)) (f4 : (0 ≤ x7) ∧ ((x7 + 1) ≤ lineLength_0)) (f5 : (x4 + 2) ≤ lineLength_0) (f6 : 0 ≤ x10) (f7 : 1 ≤ x9) (h11 : x14 = way_1 (x13)) (f12 : x13 = x9 - x10) (f13 : x10 < x9) (f14 : OFL (lineLength_1) (line_1) (x2) (x3)) (f15 : (0 ≤ x7) ∧ ((x7 + 1) ≤ lineLength_1)) (f16 : (x4 + 2) ≤ lineLength_1) (f17 : LVW (level_1) (x10)) (f18 : 0 ≤ x10) (f19 : LVR (level_1) (way_1) (x2) (x3) (x9) (x10)) (f20 : 1 ≤ x9) (fe_0_3_1 : lineLength_0 = lineLength_1) (hE_0_2_1 : ∀ j : Int, line_0 j = line_1 j) (hK_0_2 : ∀ j : Int, 0 ≤ j → j < 24 → 0 ≤ line_0 j ∧ line_0 j ≤ 23) (hE_0_5_1 : ∀ j : Int, 0 ≤ j → (j = x10 → level_0 j = x14) ∧ (j ≠ x10 → level_0 j = level_1 j)) (hK_0_5 : ∀ j : Int, 0 ≤ j → j < 26 → 0 ≤ level_0 j ∧ level_0 j ≤ 16777215) (hE_0_6_1 : ∀ j : Int, way_0 j = way_1 j) (hK_0_6 : ∀ j : Int, 0 ≤ j → j < 27 → 0 ≤ way_0 j ∧ way_0 j ≤ 23) (kz_0_3 : 0 ≤ lineLength_0 ∧ lineLength_0 ≤ 24) : 0 ≤ x15 := by
  subst fe_0_3_1
  have e_hE_0_2_1 := funext hE_0_2_1; subst e_hE_0_2_1
  have e_hE_0_6_1 := funext hE_0_6_1; subst e_hE_0_6_1
  first
    | omega
  
set_option maxHeartbeats 4000000 in
theorem vc_Pn_insertWay_16_2 (x1 : Int) (x2 : Int) (x3 : Int) (x4 : Int) (x6 : Int) (x7 : Int) (x9 : Int) (x10 : Int) (x13 : Int) (x14 : Int) (x15 : Int) (line_0 : Int → Int) (lineLength_0 : Int) (way_1 : Int → Int) (line_1 : Int → Int) (lineLength_1 : Int) (level_1 : Int → Int) (level_0 : Int → Int) (way_0 : Int → Int) (k1 : 0 ≤ x1 ∧ x1 ≤ 25) (k2 : (-2147483648) ≤ x2 ∧ x2 ≤ 2147483647) (k3 : (-2147483648) ≤ x3 ∧ x3 ≤ 2147483647) (k4 : 0 ≤ x4 ∧ x4 ≤ 24) (k6 : 0 ≤ x6 ∧ x6 ≤ 25) (k7 : 0 ≤ x7 ∧ x7 ≤ 23) (k9 : 1 ≤ x9 ∧ x9 ≤ 23) (k10 : 0 ≤ x10 ∧ x10 ≤ 22) (k13 : 1 ≤ x13 ∧ x13 ≤ 23) (k14 : 0 ≤ x14 ∧ x14 ≤ 23) (k15 : 1 ≤ x15 ∧ x15 ≤ 23) (d0 : x10 + 1 ≤ x15 ∧ x15 ≤ x10 + 1) (d1 : x9 + (-4294967296) ≤ x15 ∧ x15 ≤ x9 + 0) (d2 : x9 + (-4294967296) ≤ x15 ∧ x15 ≤ x9 + 1) (d3 : x9 + (-22) ≤ x13 ∧ x13 ≤ x9 + 0) (d4 : x9 + (-4294967296) ≤ x10 ∧ x10 ≤ x9 + (-1)) (d5 : x6 + (-4294967296) ≤ x1 ∧ x1 ≤ x6 + 0) (d6 : x1 + (-4294967296) ≤ x6 ∧ x6 ≤ x1 + 0) (d7 : x9 + (-4294967296) ≤ x10 ∧ x10 ≤ x9 + 0) (f2 : x15 = x10 + 1) (f3 : OFL (lineLength_0) (line_0) (x2) (x3)) (f4 : (0 ≤ x7) ∧ ((x7 + 1) ≤ lineLength_0)) (f5 : (x4 + 2) ≤ lineLength_0) (f6 : 0 ≤ x10) (f7 : 1 ≤ x9) (h11 : x14 = way_1 (x13)) (f12 : x13 = x9 - x10) (f13 : x10 < x9) (f14 : OFL (lineLength_1) (line_1) (x2) (x3)) (f15 : (0 ≤ x7) ∧ ((x7 + 1) ≤ lineLength_1)) (f16 : (x4 + 2) ≤ lineLength_1) (f17 : LVW (level_1) (x10)) (f18 : 0 ≤ x10) (f19 : LVR (level_1) (way_1) (x2) (x3) (x9) (x10)) (f20 : 1 ≤ x9) (fe_0_3_1 : lineLength_0 = lineLength_1) (hE_0_2_1 : ∀ j : Int, line_0 j = line_1 j) (hK_0_2 : ∀ j : Int, 0 ≤ j → j < 24 → 0 ≤ line_0 j ∧ line_0 j ≤ 23) (hE_0_5_1 : ∀ j : Int, 0 ≤ j → (j = x10 → level_0 j = x14) ∧ (j ≠ x10 → level_0 j = level_1 j)) (hK_0_5 : ∀ j : Int, 0 ≤ j → j < 26 → 0 ≤ level_0 j ∧ level_0 j ≤ 16777215) (hE_0_6_1 : ∀ j : Int, way_0 j = way_1 j) (hK_0_6 : ∀ j : Int, 0 ≤ j → j < 27 → 0 ≤ way_0 j ∧ way_0 j ≤ 23) (kz_0_3 : 0 ≤ lineLength_0 ∧ lineLength_0 ≤ 24) : LVR (level_0) (way_0) (x2) (x3) (x9) (x15) := by
  subst fe_0_3_1
  have e_hE_0_2_1 := funext hE_0_2_1; subst e_hE_0_2_1
  have e_hE_0_6_1 := funext hE_0_6_1; subst e_hE_0_6_1
  first
    | (exfalso; omega)
    | exact lvr_start ‹EWY _ _ _ _› (by omega) (by omega)
    | exact lvr_step (p := x10) (x := x14) (i := x13) ‹LVR _ _ _ _ _ _› (by assumption) rfl (by assumption) (by omega) (by omega)
  
def o_Pn_insertWay_16 : or_T := (119, 16, [(0, (2, 0, 0, [7])), (1, (0, 0, 25, [])), (2, (0, -2147483648, 2147483647, [])), (3, (0, -2147483648, 2147483647, [])), (4, (0, 0, 24, [])), (5, (2, 0, 0, [7])), (6, (0, 0, 25, [])), (7, (0, 0, 23, [])), (9, (0, 1, 23, [])), (10, (0, 0, 22, [])), (11, (2, 0, 0, [105])), (12, (2, 0, 0, [106])), (13, (0, 1, 23, [])), (14, (0, 0, 23, [])), (15, (0, 1, 23, []))], [(9, [12, 5], [6]), (9, [11, 5], [5]), (6, [15, 10], [1]), (20, [5, 2, 3], [60, 1, 1, 900, 3, 2]), (20, [7, 5], [50, 1, 0, 1003, 2, 6, 0, 2, 0, 0, 1, 0, 0, 6, 4, 2, 1, 0, 0, 1, 2, 1, 3]), (20, [4, 5], [50, 1, 0, 1003, 0, 6, 4, 2, 1, 0, 0, 2, 2, 1, 3]), (20, [10], [50, 0, 0, 0, 2, 0, 0, 1, 0]), (20, [9], [50, 0, 0, 0, 2, 0, 1, 1, 0]), (24, [0, 5], []), (24, [1, 6], []), (100, [11, 10, 14], []), (10, [14, 12, 13], []), (2, [13, 9, 10], []), (7, [10, 9], [2]), (20, [5, 2, 3], [60, 1, 1, 900, 3, 2]), (20, [7, 5], [50, 1, 0, 1003, 2, 6, 0, 2, 0, 0, 1, 0, 0, 6, 4, 2, 1, 0, 0, 1, 2, 1, 3]), (20, [4, 5], [50, 1, 0, 1003, 0, 6, 4, 2, 1, 0, 0, 2, 2, 1, 3]), (20, [5, 10], [60, 0, 1, 645, 5]), (20, [10], [50, 0, 0, 0, 2, 0, 0, 1, 0]), (20, [5, 2, 3, 9, 10], [60, 0, 2, 910, 5, 6]), (20, [9], [50, 0, 0, 0, 2, 0, 1, 1, 0])], [], [], [(20, [5, 15], [60, 0, 1, 645, 5]), (20, [15], [50, 0, 0, 0, 2, 0, 0, 1, 0]), (20, [5, 2, 3, 9, 15], [60, 0, 2, 910, 5, 6])], [], [(15, 10, 1, 1), (15, 9, -4294967296, 0), (15, 9, -4294967296, 1), (13, 9, -22, 0), (10, 9, -4294967296, -1), (1, 6, -4294967296, 0), (6, 1, -4294967296, 0), (10, 9, -4294967296, 0)])
theorem oo_Pn_insertWay_16 {kA : Nat → ClassId} : or_ok PRD kA GG o_Pn_insertWay_16 := by
  refine or_mk fun A ta ws vs hD hth hl => ?_
  intro t0 r0 t1 k1 t2 k2 t3 k3 t4 k4 t5 r5 t6 k6 t7 k7 t9 k9 t10 k10 t11 r11 t12 r12 t13 k13 t14 k14 t15 k15 d0 d1 d2 d3 d4 d5 d6 d7 f0 f1 f2 f3 f4 f5 f6 f7 f8 f9 ta1 w1 le1 s1 f11 f12 f13 f14 f15 f16 f17 f18 f19 f20
  replace f0 := shm_111 f0
  replace f1 := shm_110 f1
  replace f2 := shm_4 f2
  replace f3 := shm_908 f3
  replace f4 := shm_1208 f4
  replace f5 := shm_911 f5
  replace f6 := shm_722 f6
  replace f7 := shm_710 f7
  replace f8 := shm_5 f8
  have s1 : (∀ b j, w_el ws b j = if b = v_ad (n_v vs 11) ∧ j = (v_iv (n_v vs 10)).toNat then v_iv (n_v vs 14) else w_el w1 b j) ∧ ∀ b k, w_fd ws b k = w_fd w1 b k := s1.2
  replace f11 := shm_107 f11
  replace f12 := shm_14 f12
  replace f13 := shm_6 f13
  replace f14 := shm_908 f14
  replace f15 := shm_1208 f15
  replace f16 := shm_911 f16
  replace f17 := shm_1209 f17
  replace f18 := shm_722 f18
  replace f19 := shm_1210 f19
  replace f20 := shm_710 f20
  have q5 : n_v vs 5 = n_v vs 0 := f8.symm
  simp only [q5] at f0 f1 f3 f4 f5 f14 f15 f16 f17 f19
  have ar_0_2_1 : w_ar w1 (n_v vs 0) 2 = w_ar ws (n_v vs 0) 2 := congrArg v_ad (s1.2 _ _).symm
  have cr_0_2 := fdq_227 hD hth r0
  have ar_0_5_1 : w_ar w1 (n_v vs 0) 5 = w_ar ws (n_v vs 0) 5 := congrArg v_ad (s1.2 _ _).symm
  have cr_0_5 := fdq_279 hD hth r0
  have ar_0_6_1 : w_ar w1 (n_v vs 0) 6 = w_ar ws (n_v vs 0) 6 := congrArg v_ad (s1.2 _ _).symm
  have cr_0_6 := fdq_228 hD hth r0
  have ad_12 : v_ad (n_v vs 12) = w_ar ws (n_v vs 0) 6 := congrArg v_ad f0
  have ad_11 : v_ad (n_v vs 11) = w_ar ws (n_v vs 0) 5 := congrArg v_ad f1
  simp only [ad_12] at f11
  have h11 : v_iv (n_v vs 14) = w_ei w1 (w_ar ws (n_v vs 0) 6) (v_iv (n_v vs 13)) := f11
  simp only [ar_0_2_1, ar_0_5_1, ar_0_6_1] at f14 f17 f19
  have fe_0_3_1 : w_fi ws (n_v vs 0) 3 = w_fi w1 (n_v vs 0) 3 := congrArg v_iv (s1.2 _ _)
  have hE_0_2_1 : ∀ j : Int, w_ei ws (w_ar ws (n_v vs 0) 2) j = w_ei w1 (w_ar ws (n_v vs 0) 2) j := el_kp s1.1 r11 cr_0_2 (by decide)
  have hK_0_2 := elq_140 hD hth cr_0_2
  have hE_0_5_1 : ∀ j : Int, 0 ≤ j → (j = v_iv (n_v vs 10) → w_ei ws (w_ar ws (n_v vs 0) 5) j = v_iv (n_v vs 14)) ∧ (j ≠ v_iv (n_v vs 10) → w_ei ws (w_ar ws (n_v vs 0) 5) j = w_ei w1 (w_ar ws (n_v vs 0) 5) j) := fun j hj => ⟨fun h => by unfold w_ei; rw [s1.1, if_pos ⟨ad_11.symm, by rw [h]⟩], fun h => by unfold w_ei; rw [s1.1, if_neg (fun e => h (by have := e.2; omega))]⟩
  have hK_0_5 := elq_175 hD hth cr_0_5
  have hE_0_6_1 : ∀ j : Int, w_ei ws (w_ar ws (n_v vs 0) 6) j = w_ei w1 (w_ar ws (n_v vs 0) 6) j := el_kp s1.1 r11 cr_0_6 (by decide)
  have hK_0_6 := elq_141 hD hth cr_0_6
  have kz_0_3 := fdq_13 hD hth r0
  have nf0 : fc_1 PRD (20, [5, 15], [60, 0, 1, 645, 5]) ws (vs) := by
    refine ⟨nf_in hl rfl, sgq_1209 ?_⟩
    · show LVW (w_ei ws (w_ar ws (n_v vs 5) 5)) (v_iv (n_v vs 15))
      rw [q5]
      exact vc_Pn_insertWay_16_0 (v_iv (n_v vs 1)) (v_iv (n_v vs 2)) (v_iv (n_v vs 3)) (v_iv (n_v vs 4)) (v_iv (n_v vs 6)) (v_iv (n_v vs 7)) (v_iv (n_v vs 9)) (v_iv (n_v vs 10)) (v_iv (n_v vs 13)) (v_iv (n_v vs 14)) (v_iv (n_v vs 15)) (w_ei ws (w_ar ws (n_v vs 0) 2)) (w_fi ws (n_v vs 0) 3) (w_ei w1 (w_ar ws (n_v vs 0) 6)) (w_ei w1 (w_ar ws (n_v vs 0) 2)) (w_fi w1 (n_v vs 0) 3) (w_ei w1 (w_ar ws (n_v vs 0) 5)) (w_ei ws (w_ar ws (n_v vs 0) 5)) (w_ei ws (w_ar ws (n_v vs 0) 6)) k1 k2 k3 k4 k6 k7 k9 k10 k13 k14 k15 d0 d1 d2 d3 d4 d5 d6 d7 f2 f3 f4 f5 f6 f7 h11 f12 f13 f14 f15 f16 f17 f18 f19 f20 fe_0_3_1 hE_0_2_1 hK_0_2 hE_0_5_1 hK_0_5 hE_0_6_1 hK_0_6 kz_0_3
  have nf1 : fc_1 PRD (20, [15], [50, 0, 0, 0, 2, 0, 0, 1, 0]) ws (vs) := ⟨nf_in hl rfl, sgq_722 (vc_Pn_insertWay_16_1 (v_iv (n_v vs 1)) (v_iv (n_v vs 2)) (v_iv (n_v vs 3)) (v_iv (n_v vs 4)) (v_iv (n_v vs 6)) (v_iv (n_v vs 7)) (v_iv (n_v vs 9)) (v_iv (n_v vs 10)) (v_iv (n_v vs 13)) (v_iv (n_v vs 14)) (v_iv (n_v vs 15)) (w_ei ws (w_ar ws (n_v vs 0) 2)) (w_fi ws (n_v vs 0) 3) (w_ei w1 (w_ar ws (n_v vs 0) 6)) (w_ei w1 (w_ar ws (n_v vs 0) 2)) (w_fi w1 (n_v vs 0) 3) (w_ei w1 (w_ar ws (n_v vs 0) 5)) (w_ei ws (w_ar ws (n_v vs 0) 5)) (w_ei ws (w_ar ws (n_v vs 0) 6)) k1 k2 k3 k4 k6 k7 k9 k10 k13 k14 k15 d0 d1 d2 d3 d4 d5 d6 d7 f2 f3 f4 f5 f6 f7 h11 f12 f13 f14 f15 f16 f17 f18 f19 f20 fe_0_3_1 hE_0_2_1 hK_0_2 hE_0_5_1 hK_0_5 hE_0_6_1 hK_0_6 kz_0_3)⟩
  have nf2 : fc_1 PRD (20, [5, 2, 3, 9, 15], [60, 0, 2, 910, 5, 6]) ws (vs) := by
    refine ⟨nf_in hl rfl, sgq_1210 ?_⟩
    · show LVR (w_ei ws (w_ar ws (n_v vs 5) 5)) (w_ei ws (w_ar ws (n_v vs 5) 6)) (v_iv (n_v vs 2)) (v_iv (n_v vs 3)) (v_iv (n_v vs 9)) (v_iv (n_v vs 15))
      rw [q5]
      exact vc_Pn_insertWay_16_2 (v_iv (n_v vs 1)) (v_iv (n_v vs 2)) (v_iv (n_v vs 3)) (v_iv (n_v vs 4)) (v_iv (n_v vs 6)) (v_iv (n_v vs 7)) (v_iv (n_v vs 9)) (v_iv (n_v vs 10)) (v_iv (n_v vs 13)) (v_iv (n_v vs 14)) (v_iv (n_v vs 15)) (w_ei ws (w_ar ws (n_v vs 0) 2)) (w_fi ws (n_v vs 0) 3) (w_ei w1 (w_ar ws (n_v vs 0) 6)) (w_ei w1 (w_ar ws (n_v vs 0) 2)) (w_fi w1 (n_v vs 0) 3) (w_ei w1 (w_ar ws (n_v vs 0) 5)) (w_ei ws (w_ar ws (n_v vs 0) 5)) (w_ei ws (w_ar ws (n_v vs 0) 6)) k1 k2 k3 k4 k6 k7 k9 k10 k13 k14 k15 d0 d1 d2 d3 d4 d5 d6 d7 f2 f3 f4 f5 f6 f7 h11 f12 f13 f14 f15 f16 f17 f18 f19 f20 fe_0_3_1 hE_0_2_1 hK_0_2 hE_0_5_1 hK_0_5 hE_0_6_1 hK_0_6 kz_0_3
  refine ⟨(fun _ h => (by cases h)), [], trivial, ?_, (fun _ h => (by cases h))⟩
  rw [List.append_nil]
  exact List.forall_mem_cons.mpr ⟨⟨show (20 : Nat) < 100 from by decide, nf0⟩, List.forall_mem_cons.mpr ⟨⟨show (20 : Nat) < 100 from by decide, nf1⟩, List.forall_mem_cons.mpr ⟨⟨show (20 : Nat) < 100 from by decide, nf2⟩, (fun _ h => (by cases h))⟩⟩⟩
def n_Pn_insertWay_an : List an_T := [(7, [(0, (2, 0, 0, [7])), (1, (0, 0, 25, [])), (2, (0, 0, 23, [])), (3, (0, 0, 23, [])), (4, (0, 0, 24, []))], [], (0, 0), [(0, 0, 99993), (1, 9, 24), (0, 0, 100000)], [(1, 6, (Int.negSucc 999999999999), 0), (6, 1, (Int.negSucc 999999999999), 0), (7, 9, (Int.negSucc 999999999999), 0), (8, 9, (Int.negSucc 999999999999), 0)], [], [(2, 0, 0, [7]), (0, 0, 25, []), (0, (Int.negSucc 2147483647), 2147483647, []), (0, (Int.negSucc 2147483647), 2147483647, []), (0, 0, 24, [])], 0, [], [(20, [5, 2, 3], [60, 1, 1, 900, 3, 2]), (20, [7, 5], [50, 1, 0, 1003, 2, 6, 0, 2, 0, 0, 1, 0, 0, 6, 4, 2, 1, 0, 0, 1, 2, 1, 3]), (20, [4, 5], [50, 1, 0, 1003, 0, 6, 4, 2, 1, 0, 0, 2, 2, 1, 3]), (20, [5, 2, 3, 6], [60, 0, 1, 908, 6]), (20, [6], [50, 0, 0, 0, 2, 0, 3, 1, 0]), (24, [1, 6], []), (24, [0, 5], []), (24, [1, 6], [])]), (119, [(0, (2, 0, 0, [7])), (1, (0, 0, 25, [])), (2, (0, 0, 23, [])), (3, (0, 0, 23, [])), (4, (0, 0, 23, [])), (5, (0, 0, 23, []))], [], (0, 0), [(0, 0, 99881), (1, 10, 23), (0, 0, 100000)], [(1, 6, (Int.negSucc 999999999999), 0), (1, 9, (Int.negSucc 999999999999), 24), (6, 1, (Int.negSucc 999999999999), 0), (6, 9, (Int.negSucc 999999999999), 24), (8, 7, (Int.negSucc 999999999999), 0), (10, 9, (Int.negSucc 999999999999), 0)], [], [(2, 0, 0, [7]), (0, 0, 25, []), (0, (Int.negSucc 2147483647), 2147483647, []), (0, (Int.negSucc 2147483647), 2147483647, []), (0, 0, 24, [])], 0, [], [(20, [5, 2, 3], [60, 1, 1, 900, 3, 2]), (20, [7, 5], [50, 1, 0, 1003, 2, 6, 0, 2, 0, 0, 1, 0, 0, 6, 4, 2, 1, 0, 0, 1, 2, 1, 3]), (20, [4, 5], [50, 1, 0, 1003, 0, 6, 4, 2, 1, 0, 0, 2, 2, 1, 3]), (20, [5, 10], [60, 0, 1, 645, 5]), (20, [10], [50, 0, 0, 0, 2, 0, 0, 1, 0]), (20, [5, 2, 3, 9, 10], [60, 0, 2, 910, 5, 6]), (20, [9], [50, 0, 0, 0, 2, 0, 1, 1, 0]), (24, [0, 5], []), (24, [1, 6], [])])]
def t_Pn_insertWay_ct : ct_L := [(237, 92, e_jMath_max1_v100), (237, 92, e_jMath_max1_v99), (303, 171, e_acp_24), (303, 171, e_acp_22), (334, 168, e_Pn_replaceInLine_at_gi), (486, 171, e_acp_20), (486, 171, e_acp_21), (486, 171, e_acp_23), (486, 171, e_acp_25), (486, 171, e_acp_26), (486, 171, e_acp_27), (486, 171, e_acp_28), (486, 171, e_acp_29), (486, 171, e_acp_30), (486, 171, e_acp_31), (511, 168, e_Pn_replaceInLine_at_gi)]
set_option maxRecDepth 100000 in
theorem c_Pn_insertWay {l : Launch} {D : va_G} {kA : Nat → ClassId} (h_Pn_replaceInLine_at_gi : ct_ok PRD l D kA GG y_Pn_replaceInLine_at_gi z_Pn_replaceInLine_at_gi e_Pn_replaceInLine_at_gi) : ct_ok PRD l D kA GG y_Pn_insertWay z_Pn_insertWay e_Pn_insertWay := chk_all_ok (FT := [(22, 7, 2), (25, 7, 3), (32, 7, 5), (35, 7, 6)]) (PT := []) (CT := t_Pn_insertWay_ct) (KT := []) (NT := []) (AN := n_Pn_insertWay_an) (OT := [o_Pn_insertWay_0, o_Pn_insertWay_1, o_Pn_insertWay_2, o_Pn_insertWay_3, o_Pn_insertWay_4, o_Pn_insertWay_5, o_Pn_insertWay_6, o_Pn_insertWay_7, o_Pn_insertWay_8, o_Pn_insertWay_9, o_Pn_insertWay_10, o_Pn_insertWay_11, o_Pn_insertWay_12, o_Pn_insertWay_13, o_Pn_insertWay_14, o_Pn_insertWay_15, o_Pn_insertWay_16]) 3 616 (List.forall_mem_cons.mpr ⟨oo_Pn_insertWay_0, List.forall_mem_cons.mpr ⟨oo_Pn_insertWay_1, List.forall_mem_cons.mpr ⟨oo_Pn_insertWay_2, List.forall_mem_cons.mpr ⟨oo_Pn_insertWay_3, List.forall_mem_cons.mpr ⟨oo_Pn_insertWay_4, List.forall_mem_cons.mpr ⟨oo_Pn_insertWay_5, List.forall_mem_cons.mpr ⟨oo_Pn_insertWay_6, List.forall_mem_cons.mpr ⟨oo_Pn_insertWay_7, List.forall_mem_cons.mpr ⟨oo_Pn_insertWay_8, List.forall_mem_cons.mpr ⟨oo_Pn_insertWay_9, List.forall_mem_cons.mpr ⟨oo_Pn_insertWay_10, List.forall_mem_cons.mpr ⟨oo_Pn_insertWay_11, List.forall_mem_cons.mpr ⟨oo_Pn_insertWay_12, List.forall_mem_cons.mpr ⟨oo_Pn_insertWay_13, List.forall_mem_cons.mpr ⟨oo_Pn_insertWay_14, List.forall_mem_cons.mpr ⟨oo_Pn_insertWay_15, List.forall_mem_cons.mpr ⟨oo_Pn_insertWay_16, List.forall_mem_nil _⟩⟩⟩⟩⟩⟩⟩⟩⟩⟩⟩⟩⟩⟩⟩⟩⟩) (by decide +kernel) ⟨List.forall_mem_cons.mpr ⟨gf_Pn_22, List.forall_mem_cons.mpr ⟨gf_Pn_25, List.forall_mem_cons.mpr ⟨gf_Pn_32, List.forall_mem_cons.mpr ⟨gf_Pn_35, List.forall_mem_nil _⟩⟩⟩⟩, List.forall_mem_nil _, List.forall_mem_cons.mpr ⟨cl_static (y := y_jMath_max1) c_jMath_max1_v100 wm_836 wm_10 wm_1574 wm_835 ⟨by decide, by decide, by decide +kernel⟩ (by decide), List.forall_mem_cons.mpr ⟨cl_static (y := y_jMath_max1) c_jMath_max1_v99 wm_836 wm_10 wm_1574 wm_835 ⟨by decide, by decide, by decide +kernel⟩ (by decide), List.forall_mem_cons.mpr ⟨cl_copyT rfl rfl (Or.inl (by decide)) (fun Dd S D_zq S_zq sp dp n gs a b c d e h => dw1_dw2 (Dd := Dd) (S := S) (D_zq := D_zq) (S_zq := S_zq) (sp := sp) (dp := dp) (n := n) (gs.getD 0 0) (gs.getD 1 0) a b c d e h) wm_1565 wm_750 wm_749 wm_15, List.forall_mem_cons.mpr ⟨cl_copyT rfl rfl (Or.inl (by decide)) (fun Dd S D_zq S_zq sp dp n gs a b c d e h => dw1_dw2 (Dd := Dd) (S := S) (D_zq := D_zq) (S_zq := S_zq) (sp := sp) (dp := dp) (n := n) (gs.getD 0 0) (gs.getD 1 0) a b c d e h) wm_1565 wm_750 wm_749 wm_15, List.forall_mem_cons.mpr ⟨cl_virtual (y := y_Pn_replaceInLine_at_gi) (ci := 7) rfl rfl ⟨_, _, rfl⟩ (by decide +kernel) h_Pn_replaceInLine_at_gi wm_1564 wm_20 wm_1561 wm_1563 wv_6_12 ⟨by decide, by decide, by decide +kernel⟩ (by decide), List.forall_mem_cons.mpr ⟨cl_copyT rfl rfl (Or.inr (fun Dd S sp dp n gs a b c h => dv1_le (Dd := Dd) (S := S) (sp := sp) (dp := dp) (n := n) (gs.getD 0 0) (gs.getD 1 0) a b c h)) (fun Dd S D_zq S_zq sp dp n gs a b c d e h => dv1_dv2 (Dd := Dd) (S := S) (D_zq := D_zq) (S_zq := S_zq) (sp := sp) (dp := dp) (n := n) (gs.getD 0 0) (gs.getD 1 0) a b c d e h) wm_1565 wm_750 wm_749 wm_15, List.forall_mem_cons.mpr ⟨cl_copyT rfl rfl (Or.inr (fun Dd S sp dp n gs a b c h => dv1_le (Dd := Dd) (S := S) (sp := sp) (dp := dp) (n := n) (gs.getD 0 0) (gs.getD 1 0) a b c h)) (fun Dd S D_zq S_zq sp dp n gs a b c d e h => dv1_dv2 (Dd := Dd) (S := S) (D_zq := D_zq) (S_zq := S_zq) (sp := sp) (dp := dp) (n := n) (gs.getD 0 0) (gs.getD 1 0) a b c d e h) wm_1565 wm_750 wm_749 wm_15, List.forall_mem_cons.mpr ⟨cl_copyT rfl rfl (Or.inr (fun Dd S sp dp n gs a b c h => dv1_le (Dd := Dd) (S := S) (sp := sp) (dp := dp) (n := n) (gs.getD 0 0) (gs.getD 1 0) a b c h)) (fun Dd S D_zq S_zq sp dp n gs a b c d e h => dv1_dv2 (Dd := Dd) (S := S) (D_zq := D_zq) (S_zq := S_zq) (sp := sp) (dp := dp) (n := n) (gs.getD 0 0) (gs.getD 1 0) a b c d e h) wm_1565 wm_750 wm_749 wm_15, List.forall_mem_cons.mpr ⟨cl_copyT rfl rfl (Or.inr (fun Dd S sp dp n gs a b c h => dv1_le (Dd := Dd) (S := S) (sp := sp) (dp := dp) (n := n) (gs.getD 0 0) (gs.getD 1 0) a b c h)) (fun Dd S D_zq S_zq sp dp n gs a b c d e h => dv1_dv2 (Dd := Dd) (S := S) (D_zq := D_zq) (S_zq := S_zq) (sp := sp) (dp := dp) (n := n) (gs.getD 0 0) (gs.getD 1 0) a b c d e h) wm_1565 wm_750 wm_749 wm_15, List.forall_mem_cons.mpr ⟨cl_copyT rfl rfl (Or.inr (fun Dd S sp dp n gs a b c h => dv1_le (Dd := Dd) (S := S) (sp := sp) (dp := dp) (n := n) (gs.getD 0 0) (gs.getD 1 0) a b c h)) (fun Dd S D_zq S_zq sp dp n gs a b c d e h => dv1_dv2 (Dd := Dd) (S := S) (D_zq := D_zq) (S_zq := S_zq) (sp := sp) (dp := dp) (n := n) (gs.getD 0 0) (gs.getD 1 0) a b c d e h) wm_1565 wm_750 wm_749 wm_15, List.forall_mem_cons.mpr ⟨cl_copyT rfl rfl (Or.inr (fun Dd S sp dp n gs a b c h => dv1_le (Dd := Dd) (S := S) (sp := sp) (dp := dp) (n := n) (gs.getD 0 0) (gs.getD 1 0) a b c h)) (fun Dd S D_zq S_zq sp dp n gs a b c d e h => dv1_dv2 (Dd := Dd) (S := S) (D_zq := D_zq) (S_zq := S_zq) (sp := sp) (dp := dp) (n := n) (gs.getD 0 0) (gs.getD 1 0) a b c d e h) wm_1565 wm_750 wm_749 wm_15, List.forall_mem_cons.mpr ⟨cl_copyT rfl rfl (Or.inr (fun Dd S sp dp n gs a b c h => dv1_le (Dd := Dd) (S := S) (sp := sp) (dp := dp) (n := n) (gs.getD 0 0) (gs.getD 1 0) a b c h)) (fun Dd S D_zq S_zq sp dp n gs a b c d e h => dv1_dv2 (Dd := Dd) (S := S) (D_zq := D_zq) (S_zq := S_zq) (sp := sp) (dp := dp) (n := n) (gs.getD 0 0) (gs.getD 1 0) a b c d e h) wm_1565 wm_750 wm_749 wm_15, List.forall_mem_cons.mpr ⟨cl_copyT rfl rfl (Or.inr (fun Dd S sp dp n gs a b c h => dv1_le (Dd := Dd) (S := S) (sp := sp) (dp := dp) (n := n) (gs.getD 0 0) (gs.getD 1 0) a b c h)) (fun Dd S D_zq S_zq sp dp n gs a b c d e h => dv1_dv2 (Dd := Dd) (S := S) (D_zq := D_zq) (S_zq := S_zq) (sp := sp) (dp := dp) (n := n) (gs.getD 0 0) (gs.getD 1 0) a b c d e h) wm_1565 wm_750 wm_749 wm_15, List.forall_mem_cons.mpr ⟨cl_copyT rfl rfl (Or.inr (fun Dd S sp dp n gs a b c h => dv1_le (Dd := Dd) (S := S) (sp := sp) (dp := dp) (n := n) (gs.getD 0 0) (gs.getD 1 0) a b c h)) (fun Dd S D_zq S_zq sp dp n gs a b c d e h => dv1_dv2 (Dd := Dd) (S := S) (D_zq := D_zq) (S_zq := S_zq) (sp := sp) (dp := dp) (n := n) (gs.getD 0 0) (gs.getD 1 0) a b c d e h) wm_1565 wm_750 wm_749 wm_15, List.forall_mem_cons.mpr ⟨cl_copyT rfl rfl (Or.inr (fun Dd S sp dp n gs a b c h => dv1_le (Dd := Dd) (S := S) (sp := sp) (dp := dp) (n := n) (gs.getD 0 0) (gs.getD 1 0) a b c h)) (fun Dd S D_zq S_zq sp dp n gs a b c d e h => dv1_dv2 (Dd := Dd) (S := S) (D_zq := D_zq) (S_zq := S_zq) (sp := sp) (dp := dp) (n := n) (gs.getD 0 0) (gs.getD 1 0) a b c d e h) wm_1565 wm_750 wm_749 wm_15, List.forall_mem_cons.mpr ⟨cl_virtual (y := y_Pn_replaceInLine_at_gi) (ci := 7) rfl rfl ⟨_, _, rfl⟩ (by decide +kernel) h_Pn_replaceInLine_at_gi wm_1564 wm_20 wm_1561 wm_1563 wv_6_12 ⟨by decide, by decide, by decide +kernel⟩ (by decide), List.forall_mem_nil _⟩⟩⟩⟩⟩⟩⟩⟩⟩⟩⟩⟩⟩⟩⟩⟩, List.forall_mem_nil _, List.forall_mem_nil _, GG_pl⟩ (by decide +kernel)

set_option maxHeartbeats 4000000 in
theorem vc_Pn_moveFaces_0_r0 (x6 : Int) (x7 : Int) (faceOf_0o2 : Int → Int) (edges_0o1 : Int) (k6 : 0 ≤ x6 ∧ x6 ≤ 0) (k7 : (-1) ≤ x7 ∧ x7 ≤ 143) (f0 : LFA (faceOf_0o2) (x6) (x7)) (f1 : FGE (edges_0o1) (faceOf_0o2)) (kz_1_1 : 0 ≤ edges_0o1 ∧ edges_0o1 ≤ 48) : 0 ≤ x7 ∧ x7 ≤ 143 := by
  first
    | (have q := fge_lfa (an := x7) ‹FGE _ _› (by assumption) (by omega) (by have := (‹FGE _ _›).1; omega); omega)
    | (have q := fge_lfa (an := x12) ‹FGE _ _› (by assumption) (by omega) (by omega); omega)
    | (have q := fge_lfa (an := x13) ‹FGE _ _› (by assumption) (by omega) (by omega); omega)
    | (have q := fge_lfa (an := x12) ‹FGE _ _› (by assumption) (by omega) (by omega)
       have r := ‹FXR _ _ _› x12 (by omega) (by omega)
       omega)
def o_Pn_moveFaces_0 : or_T := (19, 9, [(1, (2, 0, 0, [3])), (2, (2, 0, 0, [5])), (6, (0, 0, 0, [])), (7, (0, -1, 143, []))], [(20, [2, 6, 7], [60, 0, 1, 640, 16]), (20, [2, 1], [60, 1, 1, 639, 1001, 16])], [(7, (0, 0, 143, []))], [], [], [], [])
theorem oo_Pn_moveFaces_0 {kA : Nat → ClassId} : or_ok PRD kA GG o_Pn_moveFaces_0 := by
  refine or_mk fun A ta ws vs hD hth hl => ?_
  intro t1 r1 t2 r2 t6 k6 t7 k7 f0 f1
  have kz_1_1 := fdq_30 hD hth r1
  have hrf0 : 0 ≤ v_iv (n_v vs 7) ∧ v_iv (n_v vs 7) ≤ 143 := vc_Pn_moveFaces_0_r0 (v_iv (n_v vs 6)) (v_iv (n_v vs 7)) (w_ei ws (w_ar ws (n_v vs 2) 16)) (w_fi ws (n_v vs 1) 1) k6 k7 (shm_430 f0) (shm_1216 f1) kz_1_1
  have rf7 : tv_ok ta (0, 0, 143, []) (n_v vs 7) := tv_in t7 (by first | omega | grind) (by first | omega | grind)
  refine ⟨List.forall_mem_cons.mpr ⟨rf7, (fun _ h => (by cases h))⟩, [], trivial, ?_, (fun _ h => (by cases h))⟩
  rw [List.append_nil]
  exact (fun _ h => (by cases h))
set_option maxHeartbeats 4000000 in
theorem vc_Pn_moveFaces_1_2 (x5 : Int) (x7 : Int) (x8 : Int) (x10 : Int) (faceOf_0o2 : Int → Int) (edges_0o1 : Int) (faceOf_1o2 : Int → Int) (edges_1o1 : Int) (faceX_1 : Int → Int) (faceX_0 : Int → Int) (k5 : (-1) ≤ x5 ∧ x5 ≤ (-1)) (k7 : 0 ≤ x7 ∧ x7 ≤ 143) (k8 : 0 ≤ x8 ∧ x8 ≤ 0) (k10 : 0 ≤ x10 ∧ x10 ≤ 0) (hT6 : ∀ j : Int, 0 ≤ j → j < x5 + 145 → (-1) ≤ faceX_1 j ∧ faceX_1 j ≤ (-1)) (fe_1_1_1 : edges_0o1 = edges_1o1) (hE_0_7_1 : ∀ j : Int, 0 ≤ j → (j = x7 → faceX_0 j = x8) ∧ (j ≠ x7 → faceX_0 j = faceX_1 j)) (hE_2_16_1 : ∀ j : Int, faceOf_0o2 j = faceOf_1o2 j) (kz_1_1 : 0 ≤ edges_0o1 ∧ edges_0o1 ≤ 48) : FXQ (faceX_0) (x10) := by
  subst fe_1_1_1
  have e_hE_2_16_1 := funext hE_2_16_1; subst e_hE_2_16_1
  first
    | exact fxq_start (fx := faceX_1) (s := x7) (w := x8) (fun f a b => by have := hT6 f a (by omega); omega) (by assumption) (by omega) (by omega)
def o_Pn_moveFaces_1 : or_T := (26, 11, [(0, (2, 0, 0, [7])), (1, (2, 0, 0, [3])), (2, (2, 0, 0, [5])), (4, (2, 0, 0, [107])), (5, (0, -1, -1, [])), (7, (0, 0, 143, [])), (8, (0, 0, 0, [])), (10, (0, 0, 0, []))], [(100, [4, 7, 8], []), (9, [4, 0], [7]), (20, [4, 5], [8, -1, -1, 145])], [], [], [(24, [1, 1], []), (24, [2, 2], []), (20, [0, 10], [60, 0, 1, 915, 7]), (24, [0, 0], [])], [], [])
theorem oo_Pn_moveFaces_1 {kA : Nat → ClassId} : or_ok PRD kA GG o_Pn_moveFaces_1 := by
  refine or_mk fun A ta ws vs hD hth hl => ?_
  intro t0 r0 t1 r1 t2 r2 t4 r4 t5 k5 t7 k7 t8 k8 t10 k10 ta1 w1 le1 s1 f4 f6
  have s1 : (∀ b j, w_el ws b j = if b = v_ad (n_v vs 4) ∧ j = (v_iv (n_v vs 7)).toNat then v_iv (n_v vs 8) else w_el w1 b j) ∧ ∀ b k, w_fd ws b k = w_fd w1 b k := s1.2
  replace f4 := shm_198 f4
  replace f6 := shm_31 f6
  have ar_0_7_1 : w_ar w1 (n_v vs 0) 7 = w_ar ws (n_v vs 0) 7 := congrArg v_ad (s1.2 _ _).symm
  have cr_2_16 := fdq_91 hD hth r2
  have ad_4 : v_ad (n_v vs 4) = w_ar ws (n_v vs 0) 7 := (congrArg v_ad f4).trans ar_0_7_1
  have hT6 : ∀ j : Int, 0 ≤ j → j < v_iv (n_v vs 5) + 145 → (-1) ≤ w_ei w1 (w_ar ws (n_v vs 0) 7) j ∧ w_ei w1 (w_ar ws (n_v vs 0) 7) j ≤ (-1) := fun j h0 h1 => by have h2 := f6 j.toNat (by omega); rw [ad_4] at h2; exact h2
  have fe_1_1_1 : w_fi ws (n_v vs 1) 1 = w_fi w1 (n_v vs 1) 1 := congrArg v_iv (s1.2 _ _)
  have hE_0_7_1 : ∀ j : Int, 0 ≤ j → (j = v_iv (n_v vs 7) → w_ei ws (w_ar ws (n_v vs 0) 7) j = v_iv (n_v vs 8)) ∧ (j ≠ v_iv (n_v vs 7) → w_ei ws (w_ar ws (n_v vs 0) 7) j = w_ei w1 (w_ar ws (n_v vs 0) 7) j) := fun j hj => ⟨fun h => by unfold w_ei; rw [s1.1, if_pos ⟨ad_4.symm, by rw [h]⟩], fun h => by unfold w_ei; rw [s1.1, if_neg (fun e => h (by have := e.2; omega))]⟩
  have hE_2_16_1 : ∀ j : Int, w_ei ws (w_ar ws (n_v vs 2) 16) j = w_ei w1 (w_ar ws (n_v vs 2) 16) j := el_kp s1.1 r4 cr_2_16 (by decide)
  have kz_1_1 := fdq_30 hD hth r1
  have nf0 : fc_1 PRD (24, [1, 1], []) ws (vs) := by
    refine ⟨nf_in hl rfl, sgq_1 ?_⟩
    · show n_v vs 1 = n_v vs 1
      first | rfl | simp only [true_and]
  have nf1 : fc_1 PRD (24, [2, 2], []) ws (vs) := by
    refine ⟨nf_in hl rfl, sgq_1 ?_⟩
    · show n_v vs 2 = n_v vs 2
      first | rfl | simp only [true_and]
  have nf2 : fc_1 PRD (20, [0, 10], [60, 0, 1, 915, 7]) ws (vs) := ⟨nf_in hl rfl, sgq_1217 (vc_Pn_moveFaces_1_2 (v_iv (n_v vs 5)) (v_iv (n_v vs 7)) (v_iv (n_v vs 8)) (v_iv (n_v vs 10)) (w_ei ws (w_ar ws (n_v vs 2) 16)) (w_fi ws (n_v vs 1) 1) (w_ei w1 (w_ar ws (n_v vs 2) 16)) (w_fi w1 (n_v vs 1) 1) (w_ei w1 (w_ar ws (n_v vs 0) 7)) (w_ei ws (w_ar ws (n_v vs 0) 7)) k5 k7 k8 k10 hT6 fe_1_1_1 hE_0_7_1 hE_2_16_1 kz_1_1)⟩
  have nf3 : fc_1 PRD (24, [0, 0], []) ws (vs) := by
    refine ⟨nf_in hl rfl, sgq_1 ?_⟩
    · show n_v vs 0 = n_v vs 0
      first | rfl | simp only [true_and]
  refine ⟨(fun _ h => (by cases h)), [], trivial, ?_, (fun _ h => (by cases h))⟩
  rw [List.append_nil]
  exact List.forall_mem_cons.mpr ⟨⟨show (24 : Nat) < 100 from by decide, nf0⟩, List.forall_mem_cons.mpr ⟨⟨show (24 : Nat) < 100 from by decide, nf1⟩, List.forall_mem_cons.mpr ⟨⟨show (20 : Nat) < 100 from by decide, nf2⟩, List.forall_mem_cons.mpr ⟨⟨show (24 : Nat) < 100 from by decide, nf3⟩, (fun _ h => (by cases h))⟩⟩⟩⟩
set_option maxHeartbeats 4000000 in
theorem vc_Pn_moveFaces_2_0 (faceOf_0o2 : Int → Int) (edges_0o1 : Int) (f2 : FGE (edges_0o1) (faceOf_0o2)) (kz_1_1 : 0 ≤ edges_0o1 ∧ edges_0o1 ≤ 48) : FGE (edges_0o1) (faceOf_0o2) := by
  first
    | assumption
  
def o_Pn_moveFaces_2 : or_T := (134, 11, [(0, (2, 0, 0, [7])), (1, (2, 0, 0, [3])), (2, (2, 0, 0, [5])), (4, (2, 0, 0, [7])), (5, (2, 0, 0, [3])), (6, (2, 0, 0, [5])), (9, (0, 1, 145, [])), (10, (0, 0, 144, []))], [(7, [9, 10], [4]), (9, [10, 6], [13]), (20, [6, 5], [60, 1, 1, 639, 1001, 16]), (24, [1, 5], []), (24, [2, 6], []), (20, [4, 9], [60, 0, 1, 915, 7]), (24, [0, 4], [])], [], [], [(20, [2, 1], [60, 1, 1, 639, 1001, 16])], [], [(9, 10, 1, 4294967296)])
theorem oo_Pn_moveFaces_2 {kA : Nat → ClassId} : or_ok PRD kA GG o_Pn_moveFaces_2 := by
  refine or_mk fun A ta ws vs hD hth hl => ?_
  intro t0 r0 t1 r1 t2 r2 t4 r4 t5 r5 t6 r6 t9 k9 t10 k10 d0 f0 f1 f2 f3 f4 f5 f6
  replace f2 := shm_1216 f2
  replace f3 := shm_5 f3
  replace f4 := shm_5 f4
  have q5 : n_v vs 5 = n_v vs 1 := f3.symm
  have q6 : n_v vs 6 = n_v vs 2 := f4.symm
  simp only [q6, q5] at f2
  have kz_1_1 := fdq_30 hD hth r1
  have nf0 : fc_1 PRD (20, [2, 1], [60, 1, 1, 639, 1001, 16]) ws (vs) := ⟨nf_in hl rfl, sgq_1216 (vc_Pn_moveFaces_2_0 (w_ei ws (w_ar ws (n_v vs 2) 16)) (w_fi ws (n_v vs 1) 1) f2 kz_1_1)⟩
  refine ⟨(fun _ h => (by cases h)), [], trivial, ?_, (fun _ h => (by cases h))⟩
  rw [List.append_nil]
  exact List.forall_mem_cons.mpr ⟨⟨show (20 : Nat) < 100 from by decide, nf0⟩, (fun _ h => (by cases h))⟩
set_option maxHeartbeats 4000000 in
theorem vc_Pn_moveFaces_3_0 (faceOf_0o2 : Int → Int) (edges_0o1 : Int) (f2 : FGE (edges_0o1) (faceOf_0o2)) (kz_1_1 : 0 ≤ edges_0o1 ∧ edges_0o1 ≤ 48) : FGE (edges_0o1) (faceOf_0o2) := by
  first
    | assumption
  
def o_Pn_moveFaces_3 : or_T := (134, 11, [(0, (2, 0, 0, [7])), (1, (2, 0, 0, [3])), (2, (2, 0, 0, [5])), (4, (2, 0, 0, [7])), (5, (2, 0, 0, [3])), (6, (2, 0, 0, [5])), (9, (0, 0, 144, [])), (10, (0, 0, 144, []))], [(7, [9, 10], [5]), (9, [10, 6], [13]), (20, [6, 5], [60, 1, 1, 639, 1001, 16]), (24, [1, 5], []), (24, [2, 6], []), (20, [4, 9], [60, 0, 1, 915, 7]), (24, [0, 4], [])], [], [], [(20, [2, 1], [60, 1, 1, 639, 1001, 16])], [], [(9, 10, -4294967296, 0)])
theorem oo_Pn_moveFaces_3 {kA : Nat → ClassId} : or_ok PRD kA GG o_Pn_moveFaces_3 := by
  refine or_mk fun A ta ws vs hD hth hl => ?_
  intro t0 r0 t1 r1 t2 r2 t4 r4 t5 r5 t6 r6 t9 k9 t10 k10 d0 f0 f1 f2 f3 f4 f5 f6
  replace f2 := shm_1216 f2
  replace f3 := shm_5 f3
  replace f4 := shm_5 f4
  have q5 : n_v vs 5 = n_v vs 1 := f3.symm
  have q6 : n_v vs 6 = n_v vs 2 := f4.symm
  simp only [q6, q5] at f2
  have kz_1_1 := fdq_30 hD hth r1
  have nf0 : fc_1 PRD (20, [2, 1], [60, 1, 1, 639, 1001, 16]) ws (vs) := ⟨nf_in hl rfl, sgq_1216 (vc_Pn_moveFaces_3_0 (w_ei ws (w_ar ws (n_v vs 2) 16)) (w_fi ws (n_v vs 1) 1) f2 kz_1_1)⟩
  refine ⟨(fun _ h => (by cases h)), [], trivial, ?_, (fun _ h => (by cases h))⟩
  rw [List.append_nil]
  exact List.forall_mem_cons.mpr ⟨⟨show (20 : Nat) < 100 from by decide, nf0⟩, (fun _ h => (by cases h))⟩
set_option maxHeartbeats 4000000 in
theorem vc_Pn_moveFaces_4_0 (x12 : Int) (k12 : 1 ≤ x12 ∧ x12 ≤ 1) : 1 ≤ x12 := by
  first
    | omega
set_option maxHeartbeats 4000000 in
theorem vc_Pn_moveFaces_4_1 (x9 : Int) (x12 : Int) (faceX_0 : Int → Int) (k9 : 0 ≤ x9 ∧ x9 ≤ 144) (k12 : 1 ≤ x12 ∧ x12 ≤ 1) (f5 : FXQ (faceX_0) (x9)) : FXR (faceX_0) (x9) (x12) := by
  first
    | exact fxr_start ‹FXQ _ _› (by omega)
def o_Pn_moveFaces_4 : or_T := (46, 13, [(9, (0, 0, 144, [])), (12, (0, 1, 1, []))], [(20, [4, 9], [60, 0, 1, 915, 7]), (24, [0, 4], [])], [], [], [(20, [12], [50, 0, 0, 0, 2, 0, 1, 1, 0]), (20, [4, 9, 12], [60, 0, 1, 914, 7])], [], [])
theorem oo_Pn_moveFaces_4 {kA : Nat → ClassId} : or_ok PRD kA GG o_Pn_moveFaces_4 := by
  refine or_mk fun A ta ws vs hD hth hl => ?_
  intro t9 k9 t12 k12 f5 f6
  replace f5 := shm_1217 f5
  replace f6 := shm_5 f6
  have q4 : n_v vs 4 = n_v vs 0 := f6.symm
  simp only [q4] at f5
  have nf0 : fc_1 PRD (20, [12], [50, 0, 0, 0, 2, 0, 1, 1, 0]) ws (vs) := ⟨nf_in hl rfl, sgq_710 (vc_Pn_moveFaces_4_0 (v_iv (n_v vs 12)) k12)⟩
  have nf1 : fc_1 PRD (20, [4, 9, 12], [60, 0, 1, 914, 7]) ws (vs) := by
    refine ⟨nf_in hl rfl, sgq_1218 ?_⟩
    · show FXR (w_ei ws (w_ar ws (n_v vs 4) 7)) (v_iv (n_v vs 9)) (v_iv (n_v vs 12))
      rw [q4]
      exact vc_Pn_moveFaces_4_1 (v_iv (n_v vs 9)) (v_iv (n_v vs 12)) (w_ei ws (w_ar ws (n_v vs 0) 7)) k9 k12 f5
  refine ⟨(fun _ h => (by cases h)), [], trivial, ?_, (fun _ h => (by cases h))⟩
  rw [List.append_nil]
  exact List.forall_mem_cons.mpr ⟨⟨show (20 : Nat) < 100 from by decide, nf0⟩, List.forall_mem_cons.mpr ⟨⟨show (20 : Nat) < 100 from by decide, nf1⟩, (fun _ h => (by cases h))⟩⟩
set_option maxHeartbeats 4000000 in
theorem vc_Pn_moveFaces_5_0 (x9 : Int) (x10 : Int) (x12 : Int) (faceX_0 : Int → Int) (k9 : 0 ≤ x9 ∧ x9 ≤ 144) (k10 : 1 ≤ x10 ∧ x10 ≤ 48) (k12 : 1 ≤ x12 ∧ x12 ≤ 145) (f0 : x12 = x9 + 1) (f7 : FXR (faceX_0) (x9) (x10)) : FXQ (faceX_0) (x12) := by
  first
    | exact fxq_next ‹FXR _ _ _› (by omega) (by omega)
def o_Pn_moveFaces_5 : or_T := (26, 13, [(9, (0, 0, 144, [])), (10, (0, 1, 48, [])), (12, (0, 1, 145, []))], [(6, [12, 9], [1]), (20, [4, 9, 10], [60, 0, 1, 914, 7]), (24, [0, 4], [])], [], [], [(20, [4, 12], [60, 0, 1, 915, 7])], [], [])
theorem oo_Pn_moveFaces_5 {kA : Nat → ClassId} : or_ok PRD kA GG o_Pn_moveFaces_5 := by
  refine or_mk fun A ta ws vs hD hth hl => ?_
  intro t9 k9 t10 k10 t12 k12 f0 f7 f8
  replace f0 := shm_4 f0
  replace f7 := shm_1218 f7
  replace f8 := shm_5 f8
  have q4 : n_v vs 4 = n_v vs 0 := f8.symm
  simp only [q4] at f7
  have nf0 : fc_1 PRD (20, [4, 12], [60, 0, 1, 915, 7]) ws (vs) := by
    refine ⟨nf_in hl rfl, sgq_1217 ?_⟩
    · show FXQ (w_ei ws (w_ar ws (n_v vs 4) 7)) (v_iv (n_v vs 12))
      rw [q4]
      exact vc_Pn_moveFaces_5_0 (v_iv (n_v vs 9)) (v_iv (n_v vs 10)) (v_iv (n_v vs 12)) (w_ei ws (w_ar ws (n_v vs 0) 7)) k9 k10 k12 f0 f7
  refine ⟨(fun _ h => (by cases h)), [], trivial, ?_, (fun _ h => (by cases h))⟩
  rw [List.append_nil]
  exact List.forall_mem_cons.mpr ⟨⟨show (20 : Nat) < 100 from by decide, nf0⟩, (fun _ h => (by cases h))⟩
set_option maxHeartbeats 4000000 in
theorem vc_Pn_moveFaces_6_0 (x10 : Int) (x11 : Int) (edges_0o1 : Int) (k10 : 1 ≤ x10 ∧ x10 ≤ 47) (k11 : 2 ≤ x11 ∧ x11 ≤ 48) (d0 : x11 + (-4294967296) ≤ x10 ∧ x10 ≤ x11 + (-1)) (g1 : x11 = edges_0o1) (kz_1_1 : 0 ≤ edges_0o1 ∧ edges_0o1 ≤ 48) : (x10 + 1) ≤ edges_0o1 := by
  first
    | omega
def o_Pn_moveFaces_6 : or_T := (55, 12, [(1, (2, 0, 0, [3])), (10, (0, 1, 47, [])), (11, (0, 2, 48, []))], [(9, [11, 5], [1]), (24, [1, 5], [])], [], [], [(20, [10, 5], [50, 1, 0, 1001, 0, 6, 4, 2, 1, 0, 0, 1, 2, 1, 1])], [], [(10, 11, -4294967296, -1)])
theorem oo_Pn_moveFaces_6 {kA : Nat → ClassId} : or_ok PRD kA GG o_Pn_moveFaces_6 := by
  refine or_mk fun A ta ws vs hD hth hl => ?_
  intro t1 r1 t10 k10 t11 k11 d0 f1 f3
  replace f1 := shm_215 f1
  replace f3 := shm_5 f3
  have q5 : n_v vs 5 = n_v vs 1 := f3.symm
  simp only [q5] at f1
  have g1 : v_iv (n_v vs 11) = w_fi ws (n_v vs 1) 1 := congrArg v_iv f1
  have kz_1_1 := fdq_30 hD hth r1
  have nf0 : fc_1 PRD (20, [10, 5], [50, 1, 0, 1001, 0, 6, 4, 2, 1, 0, 0, 1, 2, 1, 1]) ws (vs) := by
    refine ⟨nf_in hl rfl, sgq_1219 ?_⟩
    · show (v_iv (n_v vs 10) + 1) ≤ w_fi ws (n_v vs 5) 1
      rw [q5]
      exact vc_Pn_moveFaces_6_0 (v_iv (n_v vs 10)) (v_iv (n_v vs 11)) (w_fi ws (n_v vs 1) 1) k10 k11 d0 g1 kz_1_1
  refine ⟨(fun _ h => (by cases h)), [], trivial, ?_, (fun _ h => (by cases h))⟩
  rw [List.append_nil]
  exact List.forall_mem_cons.mpr ⟨⟨show (20 : Nat) < 100 from by decide, nf0⟩, (fun _ h => (by cases h))⟩
set_option maxHeartbeats 4000000 in
theorem vc_Pn_moveFaces_7_r0 (x10 : Int) (x11 : Int) (x12 : Int) (x13 : Int) (faceOf_0o2 : Int → Int) (edges_0o1 : Int) (k10 : 1 ≤ x10 ∧ x10 ≤ 47) (k11 : 2 ≤ x11 ∧ x11 ≤ 48) (k12 : (-1) ≤ x12 ∧ x12 ≤ 143) (d0 : x11 + (-4294967296) ≤ x10 ∧ x10 ≤ x11 + (-1)) (f2 : LFA (faceOf_0o2) (x10) (x12)) (g5 : x11 = edges_0o1) (f6 : FGE (edges_0o1) (faceOf_0o2)) (kz_1_1 : 0 ≤ edges_0o1 ∧ edges_0o1 ≤ 48) : 0 ≤ x12 ∧ x12 ≤ 143 := by
  first
    | (have q := fge_lfa (an := x7) ‹FGE _ _› (by assumption) (by omega) (by have := (‹FGE _ _›).1; omega); omega)
    | (have q := fge_lfa (an := x12) ‹FGE _ _› (by assumption) (by omega) (by omega); omega)
    | (have q := fge_lfa (an := x13) ‹FGE _ _› (by assumption) (by omega) (by omega); omega)
    | (have q := fge_lfa (an := x12) ‹FGE _ _› (by assumption) (by omega) (by omega)
       have r := ‹FXR _ _ _› x12 (by omega) (by omega)
       omega)
def o_Pn_moveFaces_7 : or_T := (79, 15, [(0, (2, 0, 0, [7])), (1, (2, 0, 0, [3])), (2, (2, 0, 0, [5])), (4, (2, 0, 0, [7])), (5, (2, 0, 0, [3])), (6, (2, 0, 0, [5])), (9, (0, 0, 144, [])), (10, (0, 1, 47, [])), (11, (0, 2, 48, [])), (12, (0, -1, 143, [])), (13, (0, -1, 143, [])), (14, (2, 0, 0, [107]))], [(9, [14, 4], [7]), (20, [6, 10, 13], [60, 0, 1, 640, 16]), (20, [6, 10, 12], [60, 0, 1, 640, 16]), (20, [10, 5], [50, 1, 0, 1001, 0, 6, 4, 2, 1, 0, 0, 1, 2, 1, 1]), (7, [10, 11], [2]), (9, [11, 5], [1]), (20, [6, 5], [60, 1, 1, 639, 1001, 16]), (24, [1, 5], []), (24, [2, 6], []), (20, [10], [50, 0, 0, 0, 2, 0, 1, 1, 0]), (20, [4, 9, 10], [60, 0, 1, 914, 7]), (24, [0, 4], [])], [(12, (0, 0, 143, []))], [], [], [], [(10, 11, -4294967296, -1)])
theorem oo_Pn_moveFaces_7 {kA : Nat → ClassId} : or_ok PRD kA GG o_Pn_moveFaces_7 := by
  refine or_mk fun A ta ws vs hD hth hl => ?_
  intro t0 r0 t1 r1 t2 r2 t4 r4 t5 r5 t6 r6 t9 k9 t10 k10 t11 k11 t12 k12 t13 k13 t14 r14 d0 f0 f1 f2 f3 f4 f5 f6 f7 f8 f9 f10 f11
  replace f2 := shm_430 f2
  replace f5 := shm_215 f5
  replace f6 := shm_1216 f6
  replace f7 := shm_5 f7
  replace f8 := shm_5 f8
  have q5 : n_v vs 5 = n_v vs 1 := f7.symm
  have q6 : n_v vs 6 = n_v vs 2 := f8.symm
  simp only [q6, q5] at f2 f5 f6
  have g5 : v_iv (n_v vs 11) = w_fi ws (n_v vs 1) 1 := congrArg v_iv f5
  have kz_1_1 := fdq_30 hD hth r1
  have hrf0 : 0 ≤ v_iv (n_v vs 12) ∧ v_iv (n_v vs 12) ≤ 143 := vc_Pn_moveFaces_7_r0 (v_iv (n_v vs 10)) (v_iv (n_v vs 11)) (v_iv (n_v vs 12)) (v_iv (n_v vs 13)) (w_ei ws (w_ar ws (n_v vs 2) 16)) (w_fi ws (n_v vs 1) 1) k10 k11 k12 d0 f2 g5 f6 kz_1_1
  have rf12 : tv_ok ta (0, 0, 143, []) (n_v vs 12) := tv_in t12 (by first | omega | grind) (by first | omega | grind)
  refine ⟨List.forall_mem_cons.mpr ⟨rf12, (fun _ h => (by cases h))⟩, [], trivial, ?_, (fun _ h => (by cases h))⟩
  rw [List.append_nil]
  exact (fun _ h => (by cases h))
set_option maxHeartbeats 4000000 in
theorem vc_Pn_moveFaces_8_0 (x12 : Int) (x13 : Int) (x17 : Int) (k17 : 2 ≤ x17 ∧ x17 ≤ 48) : 1 ≤ x17 := by
  first
    | omega
set_option maxHeartbeats 4000000 in
theorem vc_Pn_moveFaces_8_1 (x9 : Int) (x10 : Int) (x12 : Int) (x13 : Int) (x17 : Int) (faceX_0 : Int → Int) (k9 : 0 ≤ x9 ∧ x9 ≤ 144) (k10 : 1 ≤ x10 ∧ x10 ≤ 47) (k17 : 2 ≤ x17 ∧ x17 ≤ 48) (f0 : x17 = x10 + 1) (f13 : FXR (faceX_0) (x9) (x10)) : FXR (faceX_0) (x9) (x17) := by
  first
    | exact fxr_next ‹FXR _ _ _› (by omega)
def o_Pn_moveFaces_8 : or_T := (46, 18, [(9, (0, 0, 144, [])), (10, (0, 1, 47, [])), (17, (0, 2, 48, []))], [(6, [17, 10], [1]), (20, [4, 9, 10], [60, 0, 1, 914, 7]), (24, [0, 4], [])], [], [], [(20, [17], [50, 0, 0, 0, 2, 0, 1, 1, 0]), (20, [4, 9, 17], [60, 0, 1, 914, 7])], [], [])
theorem oo_Pn_moveFaces_8 {kA : Nat → ClassId} : or_ok PRD kA GG o_Pn_moveFaces_8 := by
  refine or_mk fun A ta ws vs hD hth hl => ?_
  intro t9 k9 t10 k10 t17 k17 f0 f13 f14
  replace f0 := shm_4 f0
  replace f13 := shm_1218 f13
  replace f14 := shm_5 f14
  have q4 : n_v vs 4 = n_v vs 0 := f14.symm
  simp only [q4] at f13
  have nf0 : fc_1 PRD (20, [17], [50, 0, 0, 0, 2, 0, 1, 1, 0]) ws (vs) := ⟨nf_in hl rfl, sgq_710 (vc_Pn_moveFaces_8_0 (v_iv (n_v vs 12)) (v_iv (n_v vs 13)) (v_iv (n_v vs 17)) k17)⟩
  have nf1 : fc_1 PRD (20, [4, 9, 17], [60, 0, 1, 914, 7]) ws (vs) := by
    refine ⟨nf_in hl rfl, sgq_1218 ?_⟩
    · show FXR (w_ei ws (w_ar ws (n_v vs 4) 7)) (v_iv (n_v vs 9)) (v_iv (n_v vs 17))
      rw [q4]
      exact vc_Pn_moveFaces_8_1 (v_iv (n_v vs 9)) (v_iv (n_v vs 10)) (v_iv (n_v vs 12)) (v_iv (n_v vs 13)) (v_iv (n_v vs 17)) (w_ei ws (w_ar ws (n_v vs 0) 7)) k9 k10 k17 f0 f13
  refine ⟨(fun _ h => (by cases h)), [], trivial, ?_, (fun _ h => (by cases h))⟩
  rw [List.append_nil]
  exact List.forall_mem_cons.mpr ⟨⟨show (20 : Nat) < 100 from by decide, nf0⟩, List.forall_mem_cons.mpr ⟨⟨show (20 : Nat) < 100 from by decide, nf1⟩, (fun _ h => (by cases h))⟩⟩
set_option maxHeartbeats 4000000 in
theorem vc_Pn_moveFaces_9_r0 (x10 : Int) (x11 : Int) (x12 : Int) (x13 : Int) (faceOf_0o2 : Int → Int) (edges_0o1 : Int) (k10 : 1 ≤ x10 ∧ x10 ≤ 47) (k11 : 2 ≤ x11 ∧ x11 ≤ 48) (k13 : (-1) ≤ x13 ∧ x13 ≤ 143) (d0 : x11 + (-4294967296) ≤ x10 ∧ x10 ≤ x11 + (-1)) (f3 : LFA (faceOf_0o2) (x10) (x13)) (g7 : x11 = edges_0o1) (f8 : FGE (edges_0o1) (faceOf_0o2)) (kz_1_1 : 0 ≤ edges_0o1 ∧ edges_0o1 ≤ 48) : 0 ≤ x13 ∧ x13 ≤ 143 := by
  first
    | (have q := fge_lfa (an := x7) ‹FGE _ _› (by assumption) (by omega) (by have := (‹FGE _ _›).1; omega); omega)
    | (have q := fge_lfa (an := x12) ‹FGE _ _› (by assumption) (by omega) (by omega); omega)
    | (have q := fge_lfa (an := x13) ‹FGE _ _› (by assumption) (by omega) (by omega); omega)
    | (have q := fge_lfa (an := x12) ‹FGE _ _› (by assumption) (by omega) (by omega)
       have r := ‹FXR _ _ _› x12 (by omega) (by omega)
       omega)
def o_Pn_moveFaces_9 : or_T := (90, 17, [(0, (2, 0, 0, [7])), (1, (2, 0, 0, [3])), (2, (2, 0, 0, [5])), (4, (2, 0, 0, [7])), (5, (2, 0, 0, [3])), (6, (2, 0, 0, [5])), (9, (0, 0, 144, [])), (10, (0, 1, 47, [])), (11, (0, 2, 48, [])), (12, (0, 0, 143, [])), (13, (0, -1, 143, [])), (14, (2, 0, 0, [107])), (15, (0, 0, 8000, [])), (16, (0, -1, -1, []))], [(9, [14, 4], [7]), (7, [15, 16], [1]), (10, [15, 14, 12], []), (20, [6, 10, 13], [60, 0, 1, 640, 16]), (20, [6, 10, 12], [60, 0, 1, 640, 16]), (20, [10, 5], [50, 1, 0, 1001, 0, 6, 4, 2, 1, 0, 0, 1, 2, 1, 1]), (7, [10, 11], [2]), (9, [11, 5], [1]), (20, [6, 5], [60, 1, 1, 639, 1001, 16]), (24, [1, 5], []), (24, [2, 6], []), (20, [10], [50, 0, 0, 0, 2, 0, 1, 1, 0]), (20, [4, 9, 10], [60, 0, 1, 914, 7]), (24, [0, 4], [])], [(13, (0, 0, 143, []))], [], [], [], [(10, 11, -4294967296, -1)])
theorem oo_Pn_moveFaces_9 {kA : Nat → ClassId} : or_ok PRD kA GG o_Pn_moveFaces_9 := by
  refine or_mk fun A ta ws vs hD hth hl => ?_
  intro t0 r0 t1 r1 t2 r2 t4 r4 t5 r5 t6 r6 t9 k9 t10 k10 t11 k11 t12 k12 t13 k13 t14 r14 t15 k15 t16 k16 d0 f0 f1 f2 f3 f4 f5 f6 f7 f8 f9 f10 f11 f12 f13
  replace f3 := shm_430 f3
  replace f7 := shm_215 f7
  replace f8 := shm_1216 f8
  replace f9 := shm_5 f9
  replace f10 := shm_5 f10
  have q5 : n_v vs 5 = n_v vs 1 := f9.symm
  have q6 : n_v vs 6 = n_v vs 2 := f10.symm
  simp only [q6, q5] at f3 f7 f8
  have g7 : v_iv (n_v vs 11) = w_fi ws (n_v vs 1) 1 := congrArg v_iv f7
  have kz_1_1 := fdq_30 hD hth r1
  have hrf0 : 0 ≤ v_iv (n_v vs 13) ∧ v_iv (n_v vs 13) ≤ 143 := vc_Pn_moveFaces_9_r0 (v_iv (n_v vs 10)) (v_iv (n_v vs 11)) (v_iv (n_v vs 12)) (v_iv (n_v vs 13)) (w_ei ws (w_ar ws (n_v vs 2) 16)) (w_fi ws (n_v vs 1) 1) k10 k11 k13 d0 f3 g7 f8 kz_1_1
  have rf13 : tv_ok ta (0, 0, 143, []) (n_v vs 13) := tv_in t13 (by first | omega | grind) (by first | omega | grind)
  refine ⟨List.forall_mem_cons.mpr ⟨rf13, (fun _ h => (by cases h))⟩, [], trivial, ?_, (fun _ h => (by cases h))⟩
  rw [List.append_nil]
  exact (fun _ h => (by cases h))
set_option maxHeartbeats 4000000 in
theorem vc_Pn_moveFaces_10_0 (x12 : Int) (x13 : Int) (x21 : Int) (k21 : 2 ≤ x21 ∧ x21 ≤ 48) : 1 ≤ x21 := by
  first
    | omega
set_option maxHeartbeats 4000000 in
theorem vc_Pn_moveFaces_10_1 (x9 : Int) (x10 : Int) (x12 : Int) (x13 : Int) (x21 : Int) (faceX_0 : Int → Int) (k9 : 0 ≤ x9 ∧ x9 ≤ 144) (k10 : 1 ≤ x10 ∧ x10 ≤ 47) (k21 : 2 ≤ x21 ∧ x21 ≤ 48) (f0 : x21 = x10 + 1) (f17 : FXR (faceX_0) (x9) (x10)) : FXR (faceX_0) (x9) (x21) := by
  first
    | exact fxr_next ‹FXR _ _ _› (by omega)
def o_Pn_moveFaces_10 : or_T := (46, 22, [(9, (0, 0, 144, [])), (10, (0, 1, 47, [])), (21, (0, 2, 48, []))], [(6, [21, 10], [1]), (20, [4, 9, 10], [60, 0, 1, 914, 7]), (24, [0, 4], [])], [], [], [(20, [21], [50, 0, 0, 0, 2, 0, 1, 1, 0]), (20, [4, 9, 21], [60, 0, 1, 914, 7])], [], [])
theorem oo_Pn_moveFaces_10 {kA : Nat → ClassId} : or_ok PRD kA GG o_Pn_moveFaces_10 := by
  refine or_mk fun A ta ws vs hD hth hl => ?_
  intro t9 k9 t10 k10 t21 k21 f0 f17 f18
  replace f0 := shm_4 f0
  replace f17 := shm_1218 f17
  replace f18 := shm_5 f18
  have q4 : n_v vs 4 = n_v vs 0 := f18.symm
  simp only [q4] at f17
  have nf0 : fc_1 PRD (20, [21], [50, 0, 0, 0, 2, 0, 1, 1, 0]) ws (vs) := ⟨nf_in hl rfl, sgq_710 (vc_Pn_moveFaces_10_0 (v_iv (n_v vs 12)) (v_iv (n_v vs 13)) (v_iv (n_v vs 21)) k21)⟩
  have nf1 : fc_1 PRD (20, [4, 9, 21], [60, 0, 1, 914, 7]) ws (vs) := by
    refine ⟨nf_in hl rfl, sgq_1218 ?_⟩
    · show FXR (w_ei ws (w_ar ws (n_v vs 4) 7)) (v_iv (n_v vs 9)) (v_iv (n_v vs 21))
      rw [q4]
      exact vc_Pn_moveFaces_10_1 (v_iv (n_v vs 9)) (v_iv (n_v vs 10)) (v_iv (n_v vs 12)) (v_iv (n_v vs 13)) (v_iv (n_v vs 21)) (w_ei ws (w_ar ws (n_v vs 0) 7)) k9 k10 k21 f0 f17
  refine ⟨(fun _ h => (by cases h)), [], trivial, ?_, (fun _ h => (by cases h))⟩
  rw [List.append_nil]
  exact List.forall_mem_cons.mpr ⟨⟨show (20 : Nat) < 100 from by decide, nf0⟩, List.forall_mem_cons.mpr ⟨⟨show (20 : Nat) < 100 from by decide, nf1⟩, (fun _ h => (by cases h))⟩⟩
set_option maxHeartbeats 4000000 in
theorem vc_Pn_moveFaces_11_r0 (x9 : Int) (x10 : Int) (x11 : Int) (x12 : Int) (x13 : Int) (x15 : Int) (x21 : Int) (x23 : Int) (faceX_0 : Int → Int) (faceOf_0o2 : Int → Int) (edges_0o1 : Int) (k9 : 0 ≤ x9 ∧ x9 ≤ 144) (k10 : 1 ≤ x10 ∧ x10 ≤ 47) (k11 : 2 ≤ x11 ∧ x11 ≤ 48) (k12 : 0 ≤ x12 ∧ x12 ≤ 143) (k15 : 0 ≤ x15 ∧ x15 ≤ 8000) (k21 : (-1) ≤ x21 ∧ x21 ≤ 8000) (k23 : 0 ≤ x23 ∧ x23 ≤ 8001) (d0 : x21 + 1 ≤ x23 ∧ x23 ≤ x21 + 1) (d3 : x11 + (-4294967296) ≤ x10 ∧ x10 ≤ x11 + (-1)) (h1 : x21 = faceX_0 (x12)) (h8 : x15 = faceX_0 (x12)) (f10 : LFA (faceOf_0o2) (x10) (x12)) (g13 : x11 = edges_0o1) (f14 : FGE (edges_0o1) (faceOf_0o2)) (f18 : FXR (faceX_0) (x9) (x10)) (kz_1_1 : 0 ≤ edges_0o1 ∧ edges_0o1 ≤ 48) : 0 ≤ x23 ∧ x23 ≤ 8000 := by
  first
    | (have q := fge_lfa (an := x7) ‹FGE _ _› (by assumption) (by omega) (by have := (‹FGE _ _›).1; omega); omega)
    | (have q := fge_lfa (an := x12) ‹FGE _ _› (by assumption) (by omega) (by omega); omega)
    | (have q := fge_lfa (an := x13) ‹FGE _ _› (by assumption) (by omega) (by omega); omega)
    | (have q := fge_lfa (an := x12) ‹FGE _ _› (by assumption) (by omega) (by omega)
       have r := ‹FXR _ _ _› x12 (by omega) (by omega)
       omega)
def o_Pn_moveFaces_11 : or_T := (118, 24, [(0, (2, 0, 0, [7])), (1, (2, 0, 0, [3])), (2, (2, 0, 0, [5])), (4, (2, 0, 0, [7])), (5, (2, 0, 0, [3])), (6, (2, 0, 0, [5])), (9, (0, 0, 144, [])), (10, (0, 1, 47, [])), (11, (0, 2, 48, [])), (12, (0, 0, 143, [])), (13, (0, 0, 143, [])), (14, (2, 0, 0, [107])), (15, (0, 0, 8000, [])), (16, (0, -1, -1, [])), (17, (0, -1, 8000, [])), (18, (0, -1, 8000, [])), (19, (0, 1, 1, [])), (20, (0, 0, 8001, [])), (21, (0, -1, 8000, [])), (22, (0, 1, 1, [])), (23, (0, 0, 8001, []))], [(1, [23, 21, 22], []), (10, [21, 14, 12], []), (9, [14, 4], [7]), (7, [17, 20], [2]), (1, [20, 18, 19], []), (10, [18, 14, 12], []), (10, [17, 14, 13], []), (7, [15, 16], [1]), (10, [15, 14, 12], []), (20, [6, 10, 13], [60, 0, 1, 640, 16]), (20, [6, 10, 12], [60, 0, 1, 640, 16]), (20, [10, 5], [50, 1, 0, 1001, 0, 6, 4, 2, 1, 0, 0, 1, 2, 1, 1]), (7, [10, 11], [2]), (9, [11, 5], [1]), (20, [6, 5], [60, 1, 1, 639, 1001, 16]), (24, [1, 5], []), (24, [2, 6], []), (20, [10], [50, 0, 0, 0, 2, 0, 1, 1, 0]), (20, [4, 9, 10], [60, 0, 1, 914, 7]), (24, [0, 4], [])], [(23, (0, 0, 8000, []))], [], [], [], [(23, 21, 1, 1), (17, 20, -4294967296, -1), (20, 18, 1, 1), (10, 11, -4294967296, -1)])
theorem oo_Pn_moveFaces_11 {kA : Nat → ClassId} : or_ok PRD kA GG o_Pn_moveFaces_11 := by
  refine or_mk fun A ta ws vs hD hth hl => ?_
  intro t0 r0 t1 r1 t2 r2 t4 r4 t5 r5 t6 r6 t9 k9 t10 k10 t11 k11 t12 k12 t13 k13 t14 r14 t15 k15 t16 k16 t17 k17 t18 k18 t19 k19 t20 k20 t21 k21 t22 k22 t23 k23 d0 d1 d2 d3 f0 f1 f2 f3 f4 f5 f6 f7 f8 f9 f10 f11 f12 f13 f14 f15 f16 f17 f18 f19
  replace f1 := shm_107 f1
  replace f2 := shm_198 f2
  replace f8 := shm_107 f8
  replace f10 := shm_430 f10
  replace f13 := shm_215 f13
  replace f14 := shm_1216 f14
  replace f15 := shm_5 f15
  replace f16 := shm_5 f16
  replace f18 := shm_1218 f18
  replace f19 := shm_5 f19
  have q5 : n_v vs 5 = n_v vs 1 := f15.symm
  have q6 : n_v vs 6 = n_v vs 2 := f16.symm
  have q4 : n_v vs 4 = n_v vs 0 := f19.symm
  simp only [q4, q6, q5] at f2 f10 f13 f14 f18
  have ad_14 : v_ad (n_v vs 14) = w_ar ws (n_v vs 0) 7 := congrArg v_ad f2
  simp only [ad_14] at f1
  have h1 : v_iv (n_v vs 21) = w_ei ws (w_ar ws (n_v vs 0) 7) (v_iv (n_v vs 12)) := f1
  simp only [ad_14] at f8
  have h8 : v_iv (n_v vs 15) = w_ei ws (w_ar ws (n_v vs 0) 7) (v_iv (n_v vs 12)) := f8
  have g13 : v_iv (n_v vs 11) = w_fi ws (n_v vs 1) 1 := congrArg v_iv f13
  have kz_1_1 := fdq_30 hD hth r1
  have hrf0 : 0 ≤ v_iv (n_v vs 23) ∧ v_iv (n_v vs 23) ≤ 8000 := vc_Pn_moveFaces_11_r0 (v_iv (n_v vs 9)) (v_iv (n_v vs 10)) (v_iv (n_v vs 11)) (v_iv (n_v vs 12)) (v_iv (n_v vs 13)) (v_iv (n_v vs 15)) (v_iv (n_v vs 21)) (v_iv (n_v vs 23)) (w_ei ws (w_ar ws (n_v vs 0) 7)) (w_ei ws (w_ar ws (n_v vs 2) 16)) (w_fi ws (n_v vs 1) 1) k9 k10 k11 k12 k15 k21 k23 d0 d3 h1 h8 f10 g13 f14 f18 kz_1_1
  have rf23 : tv_ok ta (0, 0, 8000, []) (n_v vs 23) := tv_in t23 (by first | omega | grind) (by first | omega | grind)
  refine ⟨List.forall_mem_cons.mpr ⟨rf23, (fun _ h => (by cases h))⟩, [], trivial, ?_, (fun _ h => (by cases h))⟩
  rw [List.append_nil]
  exact (fun _ h => (by cases h))
set_option maxHeartbeats 4000000 in
theorem vc_Pn_moveFaces_12_0 (x12 : Int) (x13 : Int) (x25 : Int) (faceOf_0o2 : Int → Int) (edges_0o1 : Int) (faceOf_1o2 : Int → Int) (edges_1o1 : Int) (k25 : 2 ≤ x25 ∧ x25 ≤ 48) (fe_1_1_1 : edges_0o1 = edges_1o1) (hE_2_16_1 : ∀ j : Int, faceOf_0o2 j = faceOf_1o2 j) (kz_1_1 : 0 ≤ edges_0o1 ∧ edges_0o1 ≤ 48) : 1 ≤ x25 := by
  subst fe_1_1_1
  have e_hE_2_16_1 := funext hE_2_16_1; subst e_hE_2_16_1
  first
    | omega
set_option maxHeartbeats 4000000 in
theorem vc_Pn_moveFaces_12_1 (x9 : Int) (x10 : Int) (x11 : Int) (x12 : Int) (x13 : Int) (x21 : Int) (x23 : Int) (x25 : Int) (faceOf_0o2 : Int → Int) (edges_0o1 : Int) (faceX_1 : Int → Int) (faceOf_1o2 : Int → Int) (edges_1o1 : Int) (faceX_0 : Int → Int) (k9 : 0 ≤ x9 ∧ x9 ≤ 144) (k10 : 1 ≤ x10 ∧ x10 ≤ 47) (k11 : 2 ≤ x11 ∧ x11 ≤ 48) (k12 : 0 ≤ x12 ∧ x12 ≤ 143) (k13 : 0 ≤ x13 ∧ x13 ≤ 143) (k21 : (-1) ≤ x21 ∧ x21 ≤ 8000) (k23 : 0 ≤ x23 ∧ x23 ≤ 8000) (k25 : 2 ≤ x25 ∧ x25 ≤ 48) (d0 : x10 + 1 ≤ x25 ∧ x25 ≤ x10 + 1) (d1 : x11 + (-4294967296) ≤ x25 ∧ x25 ≤ x11 + 0) (d2 : x21 + 1 ≤ x23 ∧ x23 ≤ x21 + 1) (d5 : x11 + (-4294967296) ≤ x10 ∧ x10 ≤ x11 + (-1)) (f0 : x25 = x10 + 1) (h11 : x21 = faceX_1 (x12)) (f20 : LFA (faceOf_1o2) (x10) (x12)) (g23 : x11 = edges_1o1) (f24 : FGE (edges_1o1) (faceOf_1o2)) (f26 : FXR (faceX_1) (x9) (x10)) (fe_1_1_1 : edges_0o1 = edges_1o1) (hE_0_7_1 : ∀ j : Int, 0 ≤ j → (j = x13 → faceX_0 j = x23) ∧ (j ≠ x13 → faceX_0 j = faceX_1 j)) (hE_2_16_1 : ∀ j : Int, faceOf_0o2 j = faceOf_1o2 j) (kz_1_1 : 0 ≤ edges_0o1 ∧ edges_0o1 ≤ 48) : FXR (faceX_0) (x9) (x25) := by
  subst fe_1_1_1
  have e_hE_2_16_1 := funext hE_2_16_1; subst e_hE_2_16_1
  first
    | (have q := fge_lfa (an := x12) ‹FGE _ _› (by assumption) (by omega) (by omega)
       exact fxr_step (l := x12) (a := x21) (s := x13) (w := x23) ‹FXR _ _ _› (by omega) (by omega) (by assumption) (by omega) (by assumption) (by omega))
def o_Pn_moveFaces_12 : or_T := (46, 26, [(0, (2, 0, 0, [7])), (1, (2, 0, 0, [3])), (2, (2, 0, 0, [5])), (9, (0, 0, 144, [])), (10, (0, 1, 47, [])), (11, (0, 2, 48, [])), (12, (0, 0, 143, [])), (13, (0, 0, 143, [])), (14, (2, 0, 0, [107])), (21, (0, -1, 8000, [])), (23, (0, 0, 8000, [])), (25, (0, 2, 48, []))], [(6, [25, 10], [1]), (24, [1, 5], []), (24, [2, 6], []), (24, [0, 4], []), (100, [14, 13, 23], []), (10, [21, 14, 12], []), (9, [14, 4], [7]), (20, [6, 10, 12], [60, 0, 1, 640, 16]), (9, [11, 5], [1]), (20, [6, 5], [60, 1, 1, 639, 1001, 16]), (20, [4, 9, 10], [60, 0, 1, 914, 7])], [], [], [(20, [25], [50, 0, 0, 0, 2, 0, 1, 1, 0]), (20, [4, 9, 25], [60, 0, 1, 914, 7])], [], [(25, 10, 1, 1), (25, 11, -4294967296, 0), (23, 21, 1, 1), (10, 11, -4294967296, -1)])
theorem oo_Pn_moveFaces_12 {kA : Nat → ClassId} : or_ok PRD kA GG o_Pn_moveFaces_12 := by
  refine or_mk fun A ta ws vs hD hth hl => ?_
  intro t0 r0 t1 r1 t2 r2 t9 k9 t10 k10 t11 k11 t12 k12 t13 k13 t14 r14 t21 k21 t23 k23 t25 k25 d0 d1 d2 d5 f0 f5 f6 f8 ta1 w1 le1 s1 f11 f12 f20 f23 f24 f26
  replace f0 := shm_4 f0
  replace f5 := shm_5 f5
  replace f6 := shm_5 f6
  replace f8 := shm_5 f8
  have s1 : (∀ b j, w_el ws b j = if b = v_ad (n_v vs 14) ∧ j = (v_iv (n_v vs 13)).toNat then v_iv (n_v vs 23) else w_el w1 b j) ∧ ∀ b k, w_fd ws b k = w_fd w1 b k := s1.2
  replace f11 := shm_107 f11
  replace f12 := shm_198 f12
  replace f20 := shm_430 f20
  replace f23 := shm_215 f23
  replace f24 := shm_1216 f24
  replace f26 := shm_1218 f26
  have q5 : n_v vs 5 = n_v vs 1 := f5.symm
  have q6 : n_v vs 6 = n_v vs 2 := f6.symm
  have q4 : n_v vs 4 = n_v vs 0 := f8.symm
  simp only [q6, q5, q4] at f12 f20 f23 f24 f26
  have ar_0_7_1 : w_ar w1 (n_v vs 0) 7 = w_ar ws (n_v vs 0) 7 := congrArg v_ad (s1.2 _ _).symm
  have ar_2_16_1 : w_ar w1 (n_v vs 2) 16 = w_ar ws (n_v vs 2) 16 := congrArg v_ad (s1.2 _ _).symm
  have cr_2_16 := fdq_91 hD hth r2
  have ad_14 : v_ad (n_v vs 14) = w_ar ws (n_v vs 0) 7 := (congrArg v_ad f12).trans ar_0_7_1
  simp only [ad_14] at f11
  have h11 : v_iv (n_v vs 21) = w_ei w1 (w_ar ws (n_v vs 0) 7) (v_iv (n_v vs 12)) := f11
  simp only [ar_2_16_1] at f20
  have g23 : v_iv (n_v vs 11) = w_fi w1 (n_v vs 1) 1 := congrArg v_iv f23
  simp only [ar_2_16_1, ar_0_7_1] at f24 f26
  have fe_1_1_1 : w_fi ws (n_v vs 1) 1 = w_fi w1 (n_v vs 1) 1 := congrArg v_iv (s1.2 _ _)
  have hE_0_7_1 : ∀ j : Int, 0 ≤ j → (j = v_iv (n_v vs 13) → w_ei ws (w_ar ws (n_v vs 0) 7) j = v_iv (n_v vs 23)) ∧ (j ≠ v_iv (n_v vs 13) → w_ei ws (w_ar ws (n_v vs 0) 7) j = w_ei w1 (w_ar ws (n_v vs 0) 7) j) := fun j hj => ⟨fun h => by unfold w_ei; rw [s1.1, if_pos ⟨ad_14.symm, by rw [h]⟩], fun h => by unfold w_ei; rw [s1.1, if_neg (fun e => h (by have := e.2; omega))]⟩
  have hE_2_16_1 : ∀ j : Int, w_ei ws (w_ar ws (n_v vs 2) 16) j = w_ei w1 (w_ar ws (n_v vs 2) 16) j := el_kp s1.1 r14 cr_2_16 (by decide)
  have kz_1_1 := fdq_30 hD hth r1
  have nf0 : fc_1 PRD (20, [25], [50, 0, 0, 0, 2, 0, 1, 1, 0]) ws (vs) := ⟨nf_in hl rfl, sgq_710 (vc_Pn_moveFaces_12_0 (v_iv (n_v vs 12)) (v_iv (n_v vs 13)) (v_iv (n_v vs 25)) (w_ei ws (w_ar ws (n_v vs 2) 16)) (w_fi ws (n_v vs 1) 1) (w_ei w1 (w_ar ws (n_v vs 2) 16)) (w_fi w1 (n_v vs 1) 1) k25 fe_1_1_1 hE_2_16_1 kz_1_1)⟩
  have nf1 : fc_1 PRD (20, [4, 9, 25], [60, 0, 1, 914, 7]) ws (vs) := by
    refine ⟨nf_in hl rfl, sgq_1218 ?_⟩
    · show FXR (w_ei ws (w_ar ws (n_v vs 4) 7)) (v_iv (n_v vs 9)) (v_iv (n_v vs 25))
      rw [q4]
      exact vc_Pn_moveFaces_12_1 (v_iv (n_v vs 9)) (v_iv (n_v vs 10)) (v_iv (n_v vs 11)) (v_iv (n_v vs 12)) (v_iv (n_v vs 13)) (v_iv (n_v vs 21)) (v_iv (n_v vs 23)) (v_iv (n_v vs 25)) (w_ei ws (w_ar ws (n_v vs 2) 16)) (w_fi ws (n_v vs 1) 1) (w_ei w1 (w_ar ws (n_v vs 0) 7)) (w_ei w1 (w_ar ws (n_v vs 2) 16)) (w_fi w1 (n_v vs 1) 1) (w_ei ws (w_ar ws (n_v vs 0) 7)) k9 k10 k11 k12 k13 k21 k23 k25 d0 d1 d2 d5 f0 h11 f20 g23 f24 f26 fe_1_1_1 hE_0_7_1 hE_2_16_1 kz_1_1
  refine ⟨(fun _ h => (by cases h)), [], trivial, ?_, (fun _ h => (by cases h))⟩
  rw [List.append_nil]
  exact List.forall_mem_cons.mpr ⟨⟨show (20 : Nat) < 100 from by decide, nf0⟩, List.forall_mem_cons.mpr ⟨⟨show (20 : Nat) < 100 from by decide, nf1⟩, (fun _ h => (by cases h))⟩⟩
def n_Pn_moveFaces_an : List an_T := [(26, [(0, (2, 0, 0, [7])), (1, (2, 0, 0, [3])), (2, (2, 0, 0, [5])), (3, (2, 0, 0, [21])), (4, (0, 0, 1, [])), (5, (0, 0, 145, []))], [], (0, 0), [(0, 0, 99974), (1, 9, 145), (0, 0, 100000), (0, 0, 0), (0, 0, 0)], [], [], [(2, 0, 0, [7]), (2, 0, 0, [3]), (2, 0, 0, [5]), (2, 0, 0, [21])], 0, [], [(20, [6, 5], [60, 1, 1, 639, 1001, 16]), (24, [1, 5], []), (24, [2, 6], []), (20, [4, 9], [60, 0, 1, 915, 7]), (24, [0, 4], [])]), (46, [(0, (2, 0, 0, [7])), (1, (2, 0, 0, [3])), (2, (2, 0, 0, [5])), (3, (2, 0, 0, [21])), (4, (0, 0, 1, [])), (5, (0, 0, 144, [])), (6, (0, 1, 48, []))], [], (0, 0), [(0, 0, 99974), (1, 9, 145), (0, 0, 99954), (1, 10, 48), (0, 0, 100000)], [(8, 10, (Int.negSucc 999999999999), (Int.negSucc 0))], [], [(2, 0, 0, [7]), (2, 0, 0, [3]), (2, 0, 0, [5]), (2, 0, 0, [21])], 0, [], [(20, [6, 5], [60, 1, 1, 639, 1001, 16]), (24, [1, 5], []), (24, [2, 6], []), (20, [10], [50, 0, 0, 0, 2, 0, 1, 1, 0]), (20, [4, 9, 10], [60, 0, 1, 914, 7]), (24, [0, 4], [])])]
def t_Pn_moveFaces_ct : ct_L := [(0, 206, e_Pn_leftFace), (0, 237, e_Pn_rightFace), (18, 231, e_jArr_fill1_v107)]
set_option maxRecDepth 100000 in
theorem c_Pn_moveFaces {l : Launch} {D : va_G} {kA : Nat → ClassId} (h_Pn_leftFace : ct_ok PRD l D kA GG y_Pn_leftFace z_Pn_leftFace e_Pn_leftFace) (h_Pn_rightFace : ct_ok PRD l D kA GG y_Pn_rightFace z_Pn_rightFace e_Pn_rightFace) : ct_ok PRD l D kA GG y_Pn_moveFaces z_Pn_moveFaces e_Pn_moveFaces := chk_all_ok (FT := [(38, 7, 7), (122, 5, 13), (203, 3, 1)]) (PT := []) (CT := t_Pn_moveFaces_ct) (KT := []) (NT := []) (AN := n_Pn_moveFaces_an) (OT := [o_Pn_moveFaces_0, o_Pn_moveFaces_1, o_Pn_moveFaces_2, o_Pn_moveFaces_3, o_Pn_moveFaces_4, o_Pn_moveFaces_5, o_Pn_moveFaces_6, o_Pn_moveFaces_7, o_Pn_moveFaces_8, o_Pn_moveFaces_9, o_Pn_moveFaces_10, o_Pn_moveFaces_11, o_Pn_moveFaces_12]) 5 316 (List.forall_mem_cons.mpr ⟨oo_Pn_moveFaces_0, List.forall_mem_cons.mpr ⟨oo_Pn_moveFaces_1, List.forall_mem_cons.mpr ⟨oo_Pn_moveFaces_2, List.forall_mem_cons.mpr ⟨oo_Pn_moveFaces_3, List.forall_mem_cons.mpr ⟨oo_Pn_moveFaces_4, List.forall_mem_cons.mpr ⟨oo_Pn_moveFaces_5, List.forall_mem_cons.mpr ⟨oo_Pn_moveFaces_6, List.forall_mem_cons.mpr ⟨oo_Pn_moveFaces_7, List.forall_mem_cons.mpr ⟨oo_Pn_moveFaces_8, List.forall_mem_cons.mpr ⟨oo_Pn_moveFaces_9, List.forall_mem_cons.mpr ⟨oo_Pn_moveFaces_10, List.forall_mem_cons.mpr ⟨oo_Pn_moveFaces_11, List.forall_mem_cons.mpr ⟨oo_Pn_moveFaces_12, List.forall_mem_nil _⟩⟩⟩⟩⟩⟩⟩⟩⟩⟩⟩⟩⟩) (by decide +kernel) ⟨List.forall_mem_cons.mpr ⟨gf_Pn_38, List.forall_mem_cons.mpr ⟨gf_Pn_122, List.forall_mem_cons.mpr ⟨gf_Pn_203, List.forall_mem_nil _⟩⟩⟩, List.forall_mem_nil _, List.forall_mem_cons.mpr ⟨cl_static (y := y_Pn_leftFace) h_Pn_leftFace wm_1607 wm_20 wm_1605 wm_1606 ⟨by decide, by decide, by decide +kernel⟩ (by decide), List.forall_mem_cons.mpr ⟨cl_static (y := y_Pn_rightFace) h_Pn_rightFace wm_1604 wm_20 wm_1602 wm_1603 ⟨by decide, by decide, by decide +kernel⟩ (by decide), List.forall_mem_cons.mpr ⟨cl_static (y := y_jArr_fill1) c_jArr_fill1_v107 wm_55 wm_4 wm_1601 wm_54 ⟨by decide, by decide, by decide +kernel⟩ (by decide), List.forall_mem_nil _⟩⟩⟩, List.forall_mem_nil _, List.forall_mem_nil _, GG_pl⟩ (by decide +kernel)
set_option maxHeartbeats 4000000 in
theorem vc_Ro_frame_0_0 (x5 : Int) (x6 : Int) (x7 : Int) (top_0 : Int) (left_0 : Int) (nodes_0o1 : Int) (nodes_1o1 : Int) (nodes_2o1 : Int) (left_1 : Int) (nameLength_0o1 : Int → Int) (nameLength_1o1 : Int → Int) (nameLength_2o1 : Int → Int) (x_0o2 : Int → Int) (x_1o2 : Int → Int) (x_2o2 : Int → Int) (y_0o2 : Int → Int) (y_1o2 : Int → Int) (y_2o2 : Int → Int) (k5 : (-1000000000) ≤ x5 ∧ x5 ≤ (-1000000000)) (k6 : (-1000000000) ≤ x6 ∧ x6 ≤ (-1000000000)) (k7 : 0 ≤ x7 ∧ x7 ≤ 0) (fe_0_2_1 : left_0 = left_1) (fe_1_0_1 : nodes_0o1 = nodes_1o1) (fe_1_0_2 : nodes_1o1 = nodes_2o1) (hE_1_4_1 : ∀ j : Int, nameLength_0o1 j = nameLength_1o1 j) (hE_1_4_2 : ∀ j : Int, nameLength_1o1 j = nameLength_2o1 j) (hE_2_2_1 : ∀ j : Int, x_0o2 j = x_1o2 j) (hE_2_2_2 : ∀ j : Int, x_1o2 j = x_2o2 j) (hE_2_3_1 : ∀ j : Int, y_0o2 j = y_1o2 j) (hE_2_3_2 : ∀ j : Int, y_1o2 j = y_2o2 j) (kz_0_2 : (-40000011) ≤ left_0 ∧ left_0 ≤ 1000000000) (kz_0_3 : (-40000003) ≤ top_0 ∧ top_0 ≤ 1000000000) (kz_1_0 : 0 ≤ nodes_0o1 ∧ nodes_0o1 ≤ 24) : FRB (left_0) (top_0) (nameLength_0o1) (x_0o2) (y_0o2) (x5) (x6) (x7) := by
  subst fe_0_2_1
  subst fe_1_0_1
  subst fe_1_0_2
  have e_hE_1_4_1 := funext hE_1_4_1; subst e_hE_1_4_1
  have e_hE_1_4_2 := funext hE_1_4_2; subst e_hE_1_4_2
  have e_hE_2_2_1 := funext hE_2_2_1; subst e_hE_2_2_1
  have e_hE_2_2_2 := funext hE_2_2_2; subst e_hE_2_2_2
  have e_hE_2_3_1 := funext hE_2_3_1; subst e_hE_2_3_1
  have e_hE_2_3_2 := funext hE_2_3_2; subst e_hE_2_3_2
  first
    | (intro v a b; exfalso; omega)
def o_Ro_frame_0 : or_T := (20, 8, [(0, (2, 0, 0, [9])), (1, (2, 0, 0, [3])), (5, (0, -1000000000, -1000000000, [])), (6, (0, -1000000000, -1000000000, [])), (7, (0, 0, 0, []))], [(101, [0, 4], [3]), (101, [0, 3], [2])], [], [], [(20, [0, 1, 2, 5, 6, 7], [60, 2, 3, 841, 2, 3, 1004, 2002, 2003]), (24, [1, 1], []), (24, [2, 2], []), (24, [0, 0], [])], [], [])
theorem oo_Ro_frame_0 {kA : Nat → ClassId} : or_ok PRD kA GG o_Ro_frame_0 := by
  refine or_mk fun A ta ws vs hD hth hl => ?_
  intro t0 r0 t1 r1 t5 k5 t6 k6 t7 k7 ta1 w1 le1 s1 ta2 w2 le2 s2
  have s1 : (∀ b j, w_el ws b j = w_el w1 b j) ∧ ∀ b j, w_fd ws b j = if b = v_ad (n_v vs 0) ∧ j = 3 then n_v vs 4 else w_fd w1 b j := s1.2
  have s2 : (∀ b j, w_el w1 b j = w_el w2 b j) ∧ ∀ b j, w_fd w1 b j = if b = v_ad (n_v vs 0) ∧ j = 2 then n_v vs 3 else w_fd w2 b j := s2.2
  have fe_0_2_1 : w_fi ws (n_v vs 0) 2 = w_fi w1 (n_v vs 0) 2 := by show v_iv (w_fd _ _ _) = v_iv (w_fd _ _ _); rw [s1.2, if_neg (fun e => absurd e.2 (by decide))]
  have fe_1_0_1 : w_fi ws (n_v vs 1) 0 = w_fi w1 (n_v vs 1) 0 := by show v_iv (w_fd _ _ _) = v_iv (w_fd _ _ _); rw [s1.2, if_neg (fun e => absurd e.2 (by decide))]
  have fe_1_0_2 : w_fi w1 (n_v vs 1) 0 = w_fi w2 (n_v vs 1) 0 := by show v_iv (w_fd _ _ _) = v_iv (w_fd _ _ _); rw [s2.2, if_neg (fun e => absurd e.2 (by decide))]
  have hE_1_4_1 : ∀ j : Int, w_ei ws (w_ar ws (n_v vs 1) 4) j = w_ei w1 (w_ar ws (n_v vs 1) 4) j := fun j => s1.1 _ _
  have hE_1_4_2 : ∀ j : Int, w_ei w1 (w_ar ws (n_v vs 1) 4) j = w_ei w2 (w_ar ws (n_v vs 1) 4) j := fun j => s2.1 _ _
  have hE_2_2_1 : ∀ j : Int, w_ei ws (w_ar ws (n_v vs 2) 2) j = w_ei w1 (w_ar ws (n_v vs 2) 2) j := fun j => s1.1 _ _
  have hE_2_2_2 : ∀ j : Int, w_ei w1 (w_ar ws (n_v vs 2) 2) j = w_ei w2 (w_ar ws (n_v vs 2) 2) j := fun j => s2.1 _ _
  have hE_2_3_1 : ∀ j : Int, w_ei ws (w_ar ws (n_v vs 2) 3) j = w_ei w1 (w_ar ws (n_v vs 2) 3) j := fun j => s1.1 _ _
  have hE_2_3_2 : ∀ j : Int, w_ei w1 (w_ar ws (n_v vs 2) 3) j = w_ei w2 (w_ar ws (n_v vs 2) 3) j := fun j => s2.1 _ _
  have kz_0_2 := fdq_106 hD hth r0
  have kz_0_3 := fdq_107 hD hth r0
  have kz_1_0 := fdq_21 hD hth r1
  have nf0 : fc_1 PRD (20, [0, 1, 2, 5, 6, 7], [60, 2, 3, 841, 2, 3, 1004, 2002, 2003]) ws (vs) := ⟨nf_in hl rfl, sgq_1221 (vc_Ro_frame_0_0 (v_iv (n_v vs 5)) (v_iv (n_v vs 6)) (v_iv (n_v vs 7)) (w_fi ws (n_v vs 0) 3) (w_fi ws (n_v vs 0) 2) (w_fi ws (n_v vs 1) 0) (w_fi w1 (n_v vs 1) 0) (w_fi w2 (n_v vs 1) 0) (w_fi w1 (n_v vs 0) 2) (w_ei ws (w_ar ws (n_v vs 1) 4)) (w_ei w1 (w_ar ws (n_v vs 1) 4)) (w_ei w2 (w_ar ws (n_v vs 1) 4)) (w_ei ws (w_ar ws (n_v vs 2) 2)) (w_ei w1 (w_ar ws (n_v vs 2) 2)) (w_ei w2 (w_ar ws (n_v vs 2) 2)) (w_ei ws (w_ar ws (n_v vs 2) 3)) (w_ei w1 (w_ar ws (n_v vs 2) 3)) (w_ei w2 (w_ar ws (n_v vs 2) 3)) k5 k6 k7 fe_0_2_1 fe_1_0_1 fe_1_0_2 hE_1_4_1 hE_1_4_2 hE_2_2_1 hE_2_2_2 hE_2_3_1 hE_2_3_2 kz_0_2 kz_0_3 kz_1_0)⟩
  have nf1 : fc_1 PRD (24, [1, 1], []) ws (vs) := by
    refine ⟨nf_in hl rfl, sgq_1 ?_⟩
    · show n_v vs 1 = n_v vs 1
      first | rfl | simp only [true_and]
  have nf2 : fc_1 PRD (24, [2, 2], []) ws (vs) := by
    refine ⟨nf_in hl rfl, sgq_1 ?_⟩
    · show n_v vs 2 = n_v vs 2
      first | rfl | simp only [true_and]
  have nf3 : fc_1 PRD (24, [0, 0], []) ws (vs) := by
    refine ⟨nf_in hl rfl, sgq_1 ?_⟩
    · show n_v vs 0 = n_v vs 0
      first | rfl | simp only [true_and]
  refine ⟨(fun _ h => (by cases h)), [], trivial, ?_, (fun _ h => (by cases h))⟩
  rw [List.append_nil]
  exact List.forall_mem_cons.mpr ⟨⟨show (20 : Nat) < 100 from by decide, nf0⟩, List.forall_mem_cons.mpr ⟨⟨show (24 : Nat) < 100 from by decide, nf1⟩, List.forall_mem_cons.mpr ⟨⟨show (24 : Nat) < 100 from by decide, nf2⟩, List.forall_mem_cons.mpr ⟨⟨show (24 : Nat) < 100 from by decide, nf3⟩, (fun _ h => (by cases h))⟩⟩⟩⟩
set_option maxHeartbeats 4000000 in
theorem vc_Ro_frame_1_0 (x18 : Int) (x19 : Int) (x20 : Int) (x22 : Int) (nodes_0o1 : Int) (left_0 : Int) (top_0 : Int) (height_0 : Int) (width_0 : Int) (nameLength_0o1 : Int → Int) (x_0o2 : Int → Int) (y_0o2 : Int → Int) (nameLength_1o1 : Int → Int) (x_1o2 : Int → Int) (y_1o2 : Int → Int) (left_1 : Int) (top_1 : Int) (nodes_1o1 : Int) (nameLength_2o1 : Int → Int) (x_2o2 : Int → Int) (y_2o2 : Int → Int) (left_2 : Int) (top_2 : Int) (nodes_2o1 : Int) (width_1 : Int) (k22 : 0 ≤ x22 ∧ x22 ≤ 0) (fe_0_2_1 : left_0 = left_1) (fe_0_3_1 : top_0 = top_1) (fe_0_4_1 : width_0 = width_1) (fe_1_0_1 : nodes_0o1 = nodes_1o1) (fe_0_2_2 : left_1 = left_2) (fe_0_3_2 : top_1 = top_2) (fe_1_0_2 : nodes_1o1 = nodes_2o1) (hE_1_4_1 : ∀ j : Int, nameLength_0o1 j = nameLength_1o1 j) (hE_1_4_2 : ∀ j : Int, nameLength_1o1 j = nameLength_2o1 j) (hE_2_2_1 : ∀ j : Int, x_0o2 j = x_1o2 j) (hE_2_2_2 : ∀ j : Int, x_1o2 j = x_2o2 j) (hE_2_3_1 : ∀ j : Int, y_0o2 j = y_1o2 j) (hE_2_3_2 : ∀ j : Int, y_1o2 j = y_2o2 j) (kz_0_2 : (-40000011) ≤ left_0 ∧ left_0 ≤ 1000000000) (kz_0_3 : (-40000003) ≤ top_0 ∧ top_0 ≤ 1000000000) (kz_0_4 : (-2147483648) ≤ width_0 ∧ width_0 ≤ 2147483647) (kz_0_5 : (-2147483648) ≤ height_0 ∧ height_0 ≤ 2147483647) (kz_1_0 : 0 ≤ nodes_0o1 ∧ nodes_0o1 ≤ 24) : FRA (left_0) (top_0) (width_0) (height_0) (nodes_0o1) (nameLength_0o1) (x_0o2) (y_0o2) (x22) := by
  subst fe_0_2_1
  subst fe_0_3_1
  subst fe_0_4_1
  subst fe_1_0_1
  subst fe_0_2_2
  subst fe_0_3_2
  subst fe_1_0_2
  have e_hE_1_4_1 := funext hE_1_4_1; subst e_hE_1_4_1
  have e_hE_1_4_2 := funext hE_1_4_2; subst e_hE_1_4_2
  have e_hE_2_2_1 := funext hE_2_2_1; subst e_hE_2_2_1
  have e_hE_2_2_2 := funext hE_2_2_2; subst e_hE_2_2_2
  have e_hE_2_3_1 := funext hE_2_3_1; subst e_hE_2_3_1
  have e_hE_2_3_2 := funext hE_2_3_2; subst e_hE_2_3_2
  first
    | (intro z; exfalso; omega)
def o_Ro_frame_1 : or_T := (178, 23, [(0, (2, 0, 0, [9])), (1, (2, 0, 0, [3])), (2, (2, 0, 0, [0])), (3, (2, 0, 0, [9])), (4, (0, -1000000000, 690000011, [])), (5, (0, -1000000000, 690000003, [])), (6, (0, 0, 24, [])), (7, (0, -40000011, 1000000000, [])), (8, (0, -40000003, 1000000000, [])), (9, (2, 0, 0, [3])), (10, (2, 0, 0, [0])), (11, (0, 0, 24, [])), (12, (0, -2000000000, 730000022, [])), (13, (0, 1, 1, [])), (14, (0, -1999999999, 730000023, [])), (15, (0, -2000000000, 730000006, [])), (16, (0, 1, 1, [])), (17, (0, -1999999999, 730000007, [])), (18, (1, -1999999999, 730000023, [])), (19, (1, -1999999999, 730000007, [])), (20, (1, 6001, 3999999996000000001, [])), (21, (1, 6000, 6000, [])), (22, (0, 0, 0, []))], [(9, [11, 9], [0]), (9, [7, 3], [2]), (9, [8, 3], [3]), (7, [20, 21], [4]), (3, [20, 18, 19], []), (22, [19, 17], []), (9, [17, 3], [5]), (22, [18, 14], []), (9, [14, 3], [4]), (20, [3, 9, 10, 4, 5, 6], [60, 2, 3, 841, 2, 3, 1004, 2002, 2003]), (20, [9], [50, 1, 0, 0, 0, 2, 0, 1, 2, 0, 0]), (24, [1, 9], []), (24, [2, 10], []), (24, [0, 3], []), (101, [3, 17], [5]), (1, [17, 15, 16], []), (2, [15, 5, 8], []), (20, [3, 9, 10, 4, 5, 6], [60, 2, 3, 841, 2, 3, 1004, 2002, 2003]), (20, [9], [50, 1, 0, 0, 0, 2, 0, 1, 2, 0, 0]), (101, [3, 14], [4]), (1, [14, 12, 13], []), (2, [12, 4, 7], []), (7, [6, 11], [3]), (20, [3, 9, 10, 4, 5, 6], [60, 2, 3, 841, 2, 3, 1004, 2002, 2003]), (20, [9], [50, 1, 0, 0, 0, 2, 0, 1, 2, 0, 0])], [], [], [(20, [0, 1, 2, 22], [60, 5, 3, 840, 2, 3, 4, 5, 1000, 1004, 2002, 2003])], [], [(17, 15, 1, 1), (17, 5, -999999999, 40000004), (17, 4, -4294967296, 770000004), (15, 5, -1000000000, 40000003), (15, 4, -4294967296, 770000003), (14, 12, 1, 1), (14, 4, -999999999, 40000012), (14, 5, -4294967296, 770000020), (12, 4, -1000000000, 40000011), (12, 5, -4294967296, 770000019), (6, 11, 0, 4294967296), (4, 5, -4294967296, 730000008), (5, 4, -4294967296, 730000000), (7, 8, -4294967296, 730000000), (8, 7, -4294967296, 730000008)])
theorem oo_Ro_frame_1 {kA : Nat → ClassId} : or_ok PRD kA GG o_Ro_frame_1 := by
  refine or_mk fun A ta ws vs hD hth hl => ?_
  intro t0 r0 t1 r1 t2 r2 t3 r3 t4 k4 t5 k5 t6 k6 t7 k7 t8 k8 t9 r9 t10 r10 t11 k11 t12 k12 t13 k13 t14 k14 t15 k15 t16 k16 t17 k17 t18 k18 t19 k19 t20 k20 t21 k21 t22 k22 d0 d1 d2 d3 d4 d5 d6 d7 d8 d9 d10 d11 d12 d13 d14 f0 f1 f2 f3 f4 f5 f6 f7 f8 f9 f10 f11 f12 f13 ta1 w1 le1 s1 f15 f16 f17 f18 ta2 w2 le2 s2 f20 f21 f22 f23 f24
  replace f13 := shm_5 f13
  have s1 : (∀ b j, w_el ws b j = w_el w1 b j) ∧ ∀ b j, w_fd ws b j = if b = v_ad (n_v vs 3) ∧ j = 5 then n_v vs 17 else w_fd w1 b j := s1.2
  have s2 : (∀ b j, w_el w1 b j = w_el w2 b j) ∧ ∀ b j, w_fd w1 b j = if b = v_ad (n_v vs 3) ∧ j = 4 then n_v vs 14 else w_fd w2 b j := s2.2
  have q3 : n_v vs 3 = n_v vs 0 := f13.symm
  rw [q3] at s1
  rw [q3] at s2
  have fe_0_2_1 : w_fi ws (n_v vs 0) 2 = w_fi w1 (n_v vs 0) 2 := by show v_iv (w_fd _ _ _) = v_iv (w_fd _ _ _); rw [s1.2, if_neg (fun e => absurd e.2 (by decide))]
  have fe_0_3_1 : w_fi ws (n_v vs 0) 3 = w_fi w1 (n_v vs 0) 3 := by show v_iv (w_fd _ _ _) = v_iv (w_fd _ _ _); rw [s1.2, if_neg (fun e => absurd e.2 (by decide))]
  have fe_0_4_1 : w_fi ws (n_v vs 0) 4 = w_fi w1 (n_v vs 0) 4 := by show v_iv (w_fd _ _ _) = v_iv (w_fd _ _ _); rw [s1.2, if_neg (fun e => absurd e.2 (by decide))]
  have fe_1_0_1 : w_fi ws (n_v vs 1) 0 = w_fi w1 (n_v vs 1) 0 := by show v_iv (w_fd _ _ _) = v_iv (w_fd _ _ _); rw [s1.2, if_neg (fun e => absurd e.2 (by decide))]
  have fe_0_2_2 : w_fi w1 (n_v vs 0) 2 = w_fi w2 (n_v vs 0) 2 := by show v_iv (w_fd _ _ _) = v_iv (w_fd _ _ _); rw [s2.2, if_neg (fun e => absurd e.2 (by decide))]
  have fe_0_3_2 : w_fi w1 (n_v vs 0) 3 = w_fi w2 (n_v vs 0) 3 := by show v_iv (w_fd _ _ _) = v_iv (w_fd _ _ _); rw [s2.2, if_neg (fun e => absurd e.2 (by decide))]
  have fe_1_0_2 : w_fi w1 (n_v vs 1) 0 = w_fi w2 (n_v vs 1) 0 := by show v_iv (w_fd _ _ _) = v_iv (w_fd _ _ _); rw [s2.2, if_neg (fun e => absurd e.2 (by decide))]
  have hE_1_4_1 : ∀ j : Int, w_ei ws (w_ar ws (n_v vs 1) 4) j = w_ei w1 (w_ar ws (n_v vs 1) 4) j := fun j => s1.1 _ _
  have hE_1_4_2 : ∀ j : Int, w_ei w1 (w_ar ws (n_v vs 1) 4) j = w_ei w2 (w_ar ws (n_v vs 1) 4) j := fun j => s2.1 _ _
  have hE_2_2_1 : ∀ j : Int, w_ei ws (w_ar ws (n_v vs 2) 2) j = w_ei w1 (w_ar ws (n_v vs 2) 2) j := fun j => s1.1 _ _
  have hE_2_2_2 : ∀ j : Int, w_ei w1 (w_ar ws (n_v vs 2) 2) j = w_ei w2 (w_ar ws (n_v vs 2) 2) j := fun j => s2.1 _ _
  have hE_2_3_1 : ∀ j : Int, w_ei ws (w_ar ws (n_v vs 2) 3) j = w_ei w1 (w_ar ws (n_v vs 2) 3) j := fun j => s1.1 _ _
  have hE_2_3_2 : ∀ j : Int, w_ei w1 (w_ar ws (n_v vs 2) 3) j = w_ei w2 (w_ar ws (n_v vs 2) 3) j := fun j => s2.1 _ _
  have kz_0_2 := fdq_106 hD hth r0
  have kz_0_3 := fdq_107 hD hth r0
  have kz_0_4 := fdq_103 hD hth r0
  have kz_0_5 := fdq_104 hD hth r0
  have kz_1_0 := fdq_21 hD hth r1
  have nf0 : fc_1 PRD (20, [0, 1, 2, 22], [60, 5, 3, 840, 2, 3, 4, 5, 1000, 1004, 2002, 2003]) ws (vs) := ⟨nf_in hl rfl, sgq_1222 (vc_Ro_frame_1_0 (v_iv (n_v vs 18)) (v_iv (n_v vs 19)) (v_iv (n_v vs 20)) (v_iv (n_v vs 22)) (w_fi ws (n_v vs 1) 0) (w_fi ws (n_v vs 0) 2) (w_fi ws (n_v vs 0) 3) (w_fi ws (n_v vs 0) 5) (w_fi ws (n_v vs 0) 4) (w_ei ws (w_ar ws (n_v vs 1) 4)) (w_ei ws (w_ar ws (n_v vs 2) 2)) (w_ei ws (w_ar ws (n_v vs 2) 3)) (w_ei w1 (w_ar ws (n_v vs 1) 4)) (w_ei w1 (w_ar ws (n_v vs 2) 2)) (w_ei w1 (w_ar ws (n_v vs 2) 3)) (w_fi w1 (n_v vs 0) 2) (w_fi w1 (n_v vs 0) 3) (w_fi w1 (n_v vs 1) 0) (w_ei w2 (w_ar ws (n_v vs 1) 4)) (w_ei w2 (w_ar ws (n_v vs 2) 2)) (w_ei w2 (w_ar ws (n_v vs 2) 3)) (w_fi w2 (n_v vs 0) 2) (w_fi w2 (n_v vs 0) 3) (w_fi w2 (n_v vs 1) 0) (w_fi w1 (n_v vs 0) 4) k22 fe_0_2_1 fe_0_3_1 fe_0_4_1 fe_1_0_1 fe_0_2_2 fe_0_3_2 fe_1_0_2 hE_1_4_1 hE_1_4_2 hE_2_2_1 hE_2_2_2 hE_2_3_1 hE_2_3_2 kz_0_2 kz_0_3 kz_0_4 kz_0_5 kz_1_0)⟩
  refine ⟨(fun _ h => (by cases h)), [], trivial, ?_, (fun _ h => (by cases h))⟩
  rw [List.append_nil]
  exact List.forall_mem_cons.mpr ⟨⟨show (20 : Nat) < 100 from by decide, nf0⟩, (fun _ h => (by cases h))⟩
set_option maxHeartbeats 4000000 in
theorem vc_Ro_frame_2_0 (x4 : Int) (x5 : Int) (x6 : Int) (x7 : Int) (x8 : Int) (x11 : Int) (x12 : Int) (x14 : Int) (x15 : Int) (x17 : Int) (x18 : Int) (x19 : Int) (x20 : Int) (x22 : Int) (nodes_0o1 : Int) (left_0 : Int) (top_0 : Int) (height_0 : Int) (width_0 : Int) (nameLength_0o1 : Int → Int) (x_0o2 : Int → Int) (y_0o2 : Int → Int) (nameLength_1o1 : Int → Int) (x_1o2 : Int → Int) (y_1o2 : Int → Int) (left_1 : Int) (top_1 : Int) (nodes_1o1 : Int) (nameLength_2o1 : Int → Int) (x_2o2 : Int → Int) (y_2o2 : Int → Int) (left_2 : Int) (top_2 : Int) (nodes_2o1 : Int) (width_1 : Int) (k4 : (-1000000000) ≤ x4 ∧ x4 ≤ 690000011) (k5 : (-1000000000) ≤ x5 ∧ x5 ≤ 690000003) (k6 : 0 ≤ x6 ∧ x6 ≤ 24) (k7 : (-40000011) ≤ x7 ∧ x7 ≤ 1000000000) (k8 : (-40000003) ≤ x8 ∧ x8 ≤ 1000000000) (k11 : 0 ≤ x11 ∧ x11 ≤ 24) (k12 : (-2000000000) ≤ x12 ∧ x12 ≤ 730000022) (k14 : (-1999999999) ≤ x14 ∧ x14 ≤ 730000023) (k15 : (-2000000000) ≤ x15 ∧ x15 ≤ 730000006) (k17 : (-1999999999) ≤ x17 ∧ x17 ≤ 730000007) (k18 : (-1999999999) ≤ x18 ∧ x18 ≤ 730000023) (k19 : (-1999999999) ≤ x19 ∧ x19 ≤ 730000007) (k20 : (-1460000045269999977) ≤ x20 ∧ x20 ≤ 6000) (k22 : 1 ≤ x22 ∧ x22 ≤ 1) (d0 : x15 + 1 ≤ x17 ∧ x17 ≤ x15 + 1) (d5 : x12 + 1 ≤ x14 ∧ x14 ≤ x12 + 1) (d10 : x11 + 0 ≤ x6 ∧ x6 ≤ x11 + 4294967296) (g0 : x11 = nodes_0o1) (g1 : x7 = left_0) (g2 : x8 = top_0) (f4 : x20 = x18 * x19) (f5 : x19 = x17) (g6 : x17 = height_0) (f7 : x18 = x14) (g8 : x14 = width_0) (f10 : 1 ≤ nodes_0o1) (f16 : x15 = x5 - x8) (f21 : x12 = x4 - x7) (f23 : FRB (left_2) (top_2) (nameLength_2o1) (x_2o2) (y_2o2) (x4) (x5) (x6)) (f24 : 1 ≤ nodes_2o1) (fe_0_2_1 : left_0 = left_1) (fe_0_3_1 : top_0 = top_1) (fe_0_4_1 : width_0 = width_1) (fe_1_0_1 : nodes_0o1 = nodes_1o1) (fe_0_2_2 : left_1 = left_2) (fe_0_3_2 : top_1 = top_2) (fe_1_0_2 : nodes_1o1 = nodes_2o1) (hE_1_4_1 : ∀ j : Int, nameLength_0o1 j = nameLength_1o1 j) (hE_1_4_2 : ∀ j : Int, nameLength_1o1 j = nameLength_2o1 j) (hK_1_4 : ∀ j : Int, 0 ≤ j → j < 24 → 0 ≤ nameLength_0o1 j ∧ nameLength_0o1 j ≤ 8) (hE_2_2_1 : ∀ j : Int, x_0o2 j = x_1o2 j) (hE_2_2_2 : ∀ j : Int, x_1o2 j = x_2o2 j) (hE_2_3_1 : ∀ j : Int, y_0o2 j = y_1o2 j) (hE_2_3_2 : ∀ j : Int, y_1o2 j = y_2o2 j) (kz_0_2 : (-40000011) ≤ left_0 ∧ left_0 ≤ 1000000000) (kz_0_3 : (-40000003) ≤ top_0 ∧ top_0 ≤ 1000000000) (kz_0_4 : (-2147483648) ≤ width_0 ∧ width_0 ≤ 2147483647) (kz_0_5 : (-2147483648) ≤ height_0 ∧ height_0 ≤ 2147483647) (kz_1_0 : 0 ≤ nodes_0o1 ∧ nodes_0o1 ≤ 24) : FRA (left_0) (top_0) (width_0) (height_0) (nodes_0o1) (nameLength_0o1) (x_0o2) (y_0o2) (x22) := by
  subst fe_0_2_1
  subst fe_0_3_1
  subst fe_0_4_1
  subst fe_1_0_1
  subst fe_0_2_2
  subst fe_0_3_2
  subst fe_1_0_2
  have e_hE_1_4_1 := funext hE_1_4_1; subst e_hE_1_4_1
  have e_hE_1_4_2 := funext hE_1_4_2; subst e_hE_1_4_2
  have e_hE_2_2_1 := funext hE_2_2_1; subst e_hE_2_2_1
  have e_hE_2_2_2 := funext hE_2_2_2; subst e_hE_2_2_2
  have e_hE_2_3_1 := funext hE_2_3_1; subst e_hE_2_3_1
  have e_hE_2_3_2 := funext hE_2_3_2; subst e_hE_2_3_2
  first
    | exact fun _ => frm_of (p := x20) (u := x18) (v := x19) ‹FRB _ _ _ _ _ _ _ _› (by omega) (by omega) (fun i a b => (‹∀ j : Int, 0 ≤ j → j < 24 → 0 ≤ nameLength_0o1 j ∧ nameLength_0o1 j ≤ 8› i a (by omega)).1) (by omega) (by omega) (by omega) (by omega) (by assumption) (by omega)
def o_Ro_frame_2 : or_T := (178, 23, [(0, (2, 0, 0, [9])), (1, (2, 0, 0, [3])), (2, (2, 0, 0, [0])), (3, (2, 0, 0, [9])), (4, (0, -1000000000, 690000011, [])), (5, (0, -1000000000, 690000003, [])), (6, (0, 0, 24, [])), (7, (0, -40000011, 1000000000, [])), (8, (0, -40000003, 1000000000, [])), (9, (2, 0, 0, [3])), (10, (2, 0, 0, [0])), (11, (0, 0, 24, [])), (12, (0, -2000000000, 730000022, [])), (13, (0, 1, 1, [])), (14, (0, -1999999999, 730000023, [])), (15, (0, -2000000000, 730000006, [])), (16, (0, 1, 1, [])), (17, (0, -1999999999, 730000007, [])), (18, (1, -1999999999, 730000023, [])), (19, (1, -1999999999, 730000007, [])), (20, (1, -1460000045269999977, 6000, [])), (21, (1, 6000, 6000, [])), (22, (0, 1, 1, []))], [(9, [11, 9], [0]), (9, [7, 3], [2]), (9, [8, 3], [3]), (7, [20, 21], [5]), (3, [20, 18, 19], []), (22, [19, 17], []), (9, [17, 3], [5]), (22, [18, 14], []), (9, [14, 3], [4]), (20, [3, 9, 10, 4, 5, 6], [60, 2, 3, 841, 2, 3, 1004, 2002, 2003]), (20, [9], [50, 1, 0, 0, 0, 2, 0, 1, 2, 0, 0]), (24, [1, 9], []), (24, [2, 10], []), (24, [0, 3], []), (101, [3, 17], [5]), (1, [17, 15, 16], []), (2, [15, 5, 8], []), (20, [3, 9, 10, 4, 5, 6], [60, 2, 3, 841, 2, 3, 1004, 2002, 2003]), (20, [9], [50, 1, 0, 0, 0, 2, 0, 1, 2, 0, 0]), (101, [3, 14], [4]), (1, [14, 12, 13], []), (2, [12, 4, 7], []), (7, [6, 11], [3]), (20, [3, 9, 10, 4, 5, 6], [60, 2, 3, 841, 2, 3, 1004, 2002, 2003]), (20, [9], [50, 1, 0, 0, 0, 2, 0, 1, 2, 0, 0])], [], [], [(20, [0, 1, 2, 22], [60, 5, 3, 840, 2, 3, 4, 5, 1000, 1004, 2002, 2003])], [], [(17, 15, 1, 1), (17, 5, -999999999, 40000004), (17, 4, -4294967296, 770000004), (15, 5, -1000000000, 40000003), (15, 4, -4294967296, 770000003), (14, 12, 1, 1), (14, 4, -999999999, 40000012), (14, 5, -4294967296, 770000020), (12, 4, -1000000000, 40000011), (12, 5, -4294967296, 770000019), (6, 11, 0, 4294967296), (4, 5, -4294967296, 730000008), (5, 4, -4294967296, 730000000), (7, 8, -4294967296, 730000000), (8, 7, -4294967296, 730000008)])
theorem oo_Ro_frame_2 {kA : Nat → ClassId} : or_ok PRD kA GG o_Ro_frame_2 := by
  refine or_mk fun A ta ws vs hD hth hl => ?_
  intro t0 r0 t1 r1 t2 r2 t3 r3 t4 k4 t5 k5 t6 k6 t7 k7 t8 k8 t9 r9 t10 r10 t11 k11 t12 k12 t13 k13 t14 k14 t15 k15 t16 k16 t17 k17 t18 k18 t19 k19 t20 k20 t21 k21 t22 k22 d0 d1 d2 d3 d4 d5 d6 d7 d8 d9 d10 d11 d12 d13 d14 f0 f1 f2 f3 f4 f5 f6 f7 f8 f9 f10 f11 f12 f13 ta1 w1 le1 s1 f15 f16 f17 f18 ta2 w2 le2 s2 f20 f21 f22 f23 f24
  replace f0 := shm_163 f0
  replace f1 := shm_120 f1
  replace f2 := shm_137 f2
  replace f6 := shm_110 f6
  replace f8 := shm_108 f8
  replace f10 := shm_1220 f10
  replace f11 := shm_5 f11
  replace f12 := shm_5 f12
  replace f13 := shm_5 f13
  have s1 : (∀ b j, w_el ws b j = w_el w1 b j) ∧ ∀ b j, w_fd ws b j = if b = v_ad (n_v vs 3) ∧ j = 5 then n_v vs 17 else w_fd w1 b j := s1.2
  have s2 : (∀ b j, w_el w1 b j = w_el w2 b j) ∧ ∀ b j, w_fd w1 b j = if b = v_ad (n_v vs 3) ∧ j = 4 then n_v vs 14 else w_fd w2 b j := s2.2
  replace f23 := shm_1221 f23
  replace f24 := shm_1220 f24
  have q9 : n_v vs 9 = n_v vs 1 := f11.symm
  have q10 : n_v vs 10 = n_v vs 2 := f12.symm
  have q3 : n_v vs 3 = n_v vs 0 := f13.symm
  simp only [q9, q3] at f0 f1 f2 f6 f8 f10
  rw [q3] at s1
  rw [q3] at s2
  simp only [q9, q10, q3] at f23 f24
  have ar_1_4_1 : w_ar w1 (n_v vs 1) 4 = w_ar ws (n_v vs 1) 4 := by show v_ad (w_fd w1 _ _) = v_ad (w_fd ws _ _); rw [s1.2, if_neg (fun e => absurd e.2 (by decide))]
  have ar_1_4_2 : w_ar w2 (n_v vs 1) 4 = w_ar ws (n_v vs 1) 4 := by rw [← ar_1_4_1]; show v_ad (w_fd w2 _ _) = v_ad (w_fd w1 _ _); rw [s2.2, if_neg (fun e => by have e1 := e.1; have e2 := r1; rw [e1, r0] at e2; exact absurd (Option.some.inj e2) (by decide))]
  have cr_1_4 := fdq_4 hD hth r1
  have ar_2_2_1 : w_ar w1 (n_v vs 2) 2 = w_ar ws (n_v vs 2) 2 := by show v_ad (w_fd w1 _ _) = v_ad (w_fd ws _ _); rw [s1.2, if_neg (fun e => absurd e.2 (by decide))]
  have ar_2_2_2 : w_ar w2 (n_v vs 2) 2 = w_ar ws (n_v vs 2) 2 := by rw [← ar_2_2_1]; show v_ad (w_fd w2 _ _) = v_ad (w_fd w1 _ _); rw [s2.2, if_neg (fun e => absurd e.2 (by decide))]
  have ar_2_3_1 : w_ar w1 (n_v vs 2) 3 = w_ar ws (n_v vs 2) 3 := by show v_ad (w_fd w1 _ _) = v_ad (w_fd ws _ _); rw [s1.2, if_neg (fun e => absurd e.2 (by decide))]
  have ar_2_3_2 : w_ar w2 (n_v vs 2) 3 = w_ar ws (n_v vs 2) 3 := by rw [← ar_2_3_1]; show v_ad (w_fd w2 _ _) = v_ad (w_fd w1 _ _); rw [s2.2, if_neg (fun e => absurd e.2 (by decide))]
  have g0 : v_iv (n_v vs 11) = w_fi ws (n_v vs 1) 0 := congrArg v_iv f0
  have g1 : v_iv (n_v vs 7) = w_fi ws (n_v vs 0) 2 := congrArg v_iv f1
  have g2 : v_iv (n_v vs 8) = w_fi ws (n_v vs 0) 3 := congrArg v_iv f2
  have g6 : v_iv (n_v vs 17) = w_fi ws (n_v vs 0) 5 := congrArg v_iv f6
  have g8 : v_iv (n_v vs 14) = w_fi ws (n_v vs 0) 4 := congrArg v_iv f8
  simp only [ar_1_4_1, ar_2_2_1, ar_2_3_1, ar_1_4_2, ar_2_2_2, ar_2_3_2] at f23
  have fe_0_2_1 : w_fi ws (n_v vs 0) 2 = w_fi w1 (n_v vs 0) 2 := by show v_iv (w_fd _ _ _) = v_iv (w_fd _ _ _); rw [s1.2, if_neg (fun e => absurd e.2 (by decide))]
  have fe_0_3_1 : w_fi ws (n_v vs 0) 3 = w_fi w1 (n_v vs 0) 3 := by show v_iv (w_fd _ _ _) = v_iv (w_fd _ _ _); rw [s1.2, if_neg (fun e => absurd e.2 (by decide))]
  have fe_0_4_1 : w_fi ws (n_v vs 0) 4 = w_fi w1 (n_v vs 0) 4 := by show v_iv (w_fd _ _ _) = v_iv (w_fd _ _ _); rw [s1.2, if_neg (fun e => absurd e.2 (by decide))]
  have fe_1_0_1 : w_fi ws (n_v vs 1) 0 = w_fi w1 (n_v vs 1) 0 := by show v_iv (w_fd _ _ _) = v_iv (w_fd _ _ _); rw [s1.2, if_neg (fun e => absurd e.2 (by decide))]
  have fe_0_2_2 : w_fi w1 (n_v vs 0) 2 = w_fi w2 (n_v vs 0) 2 := by show v_iv (w_fd _ _ _) = v_iv (w_fd _ _ _); rw [s2.2, if_neg (fun e => absurd e.2 (by decide))]
  have fe_0_3_2 : w_fi w1 (n_v vs 0) 3 = w_fi w2 (n_v vs 0) 3 := by show v_iv (w_fd _ _ _) = v_iv (w_fd _ _ _); rw [s2.2, if_neg (fun e => absurd e.2 (by decide))]
  have fe_1_0_2 : w_fi w1 (n_v vs 1) 0 = w_fi w2 (n_v vs 1) 0 := by show v_iv (w_fd _ _ _) = v_iv (w_fd _ _ _); rw [s2.2, if_neg (fun e => absurd e.2 (by decide))]
  have hE_1_4_1 : ∀ j : Int, w_ei ws (w_ar ws (n_v vs 1) 4) j = w_ei w1 (w_ar ws (n_v vs 1) 4) j := fun j => s1.1 _ _
  have hE_1_4_2 : ∀ j : Int, w_ei w1 (w_ar ws (n_v vs 1) 4) j = w_ei w2 (w_ar ws (n_v vs 1) 4) j := fun j => s2.1 _ _
  have hK_1_4 := elq_3 hD hth cr_1_4
  have hE_2_2_1 : ∀ j : Int, w_ei ws (w_ar ws (n_v vs 2) 2) j = w_ei w1 (w_ar ws (n_v vs 2) 2) j := fun j => s1.1 _ _
  have hE_2_2_2 : ∀ j : Int, w_ei w1 (w_ar ws (n_v vs 2) 2) j = w_ei w2 (w_ar ws (n_v vs 2) 2) j := fun j => s2.1 _ _
  have hE_2_3_1 : ∀ j : Int, w_ei ws (w_ar ws (n_v vs 2) 3) j = w_ei w1 (w_ar ws (n_v vs 2) 3) j := fun j => s1.1 _ _
  have hE_2_3_2 : ∀ j : Int, w_ei w1 (w_ar ws (n_v vs 2) 3) j = w_ei w2 (w_ar ws (n_v vs 2) 3) j := fun j => s2.1 _ _
  have kz_0_2 := fdq_106 hD hth r0
  have kz_0_3 := fdq_107 hD hth r0
  have kz_0_4 := fdq_103 hD hth r0
  have kz_0_5 := fdq_104 hD hth r0
  have kz_1_0 := fdq_21 hD hth r1
  have nf0 : fc_1 PRD (20, [0, 1, 2, 22], [60, 5, 3, 840, 2, 3, 4, 5, 1000, 1004, 2002, 2003]) ws (vs) := ⟨nf_in hl rfl, sgq_1222 (vc_Ro_frame_2_0 (v_iv (n_v vs 4)) (v_iv (n_v vs 5)) (v_iv (n_v vs 6)) (v_iv (n_v vs 7)) (v_iv (n_v vs 8)) (v_iv (n_v vs 11)) (v_iv (n_v vs 12)) (v_iv (n_v vs 14)) (v_iv (n_v vs 15)) (v_iv (n_v vs 17)) (v_iv (n_v vs 18)) (v_iv (n_v vs 19)) (v_iv (n_v vs 20)) (v_iv (n_v vs 22)) (w_fi ws (n_v vs 1) 0) (w_fi ws (n_v vs 0) 2) (w_fi ws (n_v vs 0) 3) (w_fi ws (n_v vs 0) 5) (w_fi ws (n_v vs 0) 4) (w_ei ws (w_ar ws (n_v vs 1) 4)) (w_ei ws (w_ar ws (n_v vs 2) 2)) (w_ei ws (w_ar ws (n_v vs 2) 3)) (w_ei w1 (w_ar ws (n_v vs 1) 4)) (w_ei w1 (w_ar ws (n_v vs 2) 2)) (w_ei w1 (w_ar ws (n_v vs 2) 3)) (w_fi w1 (n_v vs 0) 2) (w_fi w1 (n_v vs 0) 3) (w_fi w1 (n_v vs 1) 0) (w_ei w2 (w_ar ws (n_v vs 1) 4)) (w_ei w2 (w_ar ws (n_v vs 2) 2)) (w_ei w2 (w_ar ws (n_v vs 2) 3)) (w_fi w2 (n_v vs 0) 2) (w_fi w2 (n_v vs 0) 3) (w_fi w2 (n_v vs 1) 0) (w_fi w1 (n_v vs 0) 4) k4 k5 k6 k7 k8 k11 k12 k14 k15 k17 k18 k19 k20 k22 d0 d5 d10 g0 g1 g2 (shm_38 f4) (shm_47 f5) g6 (shm_47 f7) g8 f10 (shm_14 f16) (shm_14 f21) f23 f24 fe_0_2_1 fe_0_3_1 fe_0_4_1 fe_1_0_1 fe_0_2_2 fe_0_3_2 fe_1_0_2 hE_1_4_1 hE_1_4_2 hK_1_4 hE_2_2_1 hE_2_2_2 hE_2_3_1 hE_2_3_2 kz_0_2 kz_0_3 kz_0_4 kz_0_5 kz_1_0)⟩
  refine ⟨(fun _ h => (by cases h)), [], trivial, ?_, (fun _ h => (by cases h))⟩
  rw [List.append_nil]
  exact List.forall_mem_cons.mpr ⟨⟨show (20 : Nat) < 100 from by decide, nf0⟩, (fun _ h => (by cases h))⟩
set_option maxHeartbeats 4000000 in
theorem vc_Ro_frame_3_0 (x4 : Int) (x5 : Int) (x6 : Int) (x7 : Int) (x8 : Int) (x13 : Int) (x14 : Int) (x15 : Int) (x17 : Int) (x18 : Int) (x20 : Int) (x21 : Int) (x22 : Int) (x24 : Int) (x25 : Int) (x27 : Int) (x29 : Int) (x30 : Int) (x32 : Int) (x34 : Int) (x35 : Int) (x36 : Int) (top_0 : Int) (left_0 : Int) (nodes_0o1 : Int) (y_0o2 : Int → Int) (nameLength_0o1 : Int → Int) (y_1o2 : Int → Int) (top_1 : Int) (nameLength_1o1 : Int → Int) (x_1o2 : Int → Int) (nodes_1o1 : Int) (nameLength_2o1 : Int → Int) (x_2o2 : Int → Int) (left_2 : Int) (y_2o2 : Int → Int) (top_2 : Int) (nodes_2o1 : Int) (left_1 : Int) (x_0o2 : Int → Int) (k4 : (-1000000000) ≤ x4 ∧ x4 ≤ 690000011) (k5 : (-1000000000) ≤ x5 ∧ x5 ≤ 690000003) (k6 : 0 ≤ x6 ∧ x6 ≤ 23) (k7 : (-40000011) ≤ x7 ∧ x7 ≤ 1000000000) (k8 : (-40000003) ≤ x8 ∧ x8 ≤ 1000000000) (k13 : (-40000000) ≤ x13 ∧ x13 ≤ 690000000) (k14 : 1 ≤ x14 ∧ x14 ≤ 9) (k15 : (-40000009) ≤ x15 ∧ x15 ≤ 689999999) (k17 : (-40000011) ≤ x17 ∧ x17 ≤ 689999997) (k18 : (-40000011) ≤ x18 ∧ x18 ≤ 689999997) (k20 : (-40000000) ≤ x20 ∧ x20 ≤ 690000000) (k21 : 1 ≤ x21 ∧ x21 ≤ 9) (k22 : (-39999999) ≤ x22 ∧ x22 ≤ 690000009) (k24 : (-39999997) ≤ x24 ∧ x24 ≤ 690000011) (k25 : (-39999997) ≤ x25 ∧ x25 ≤ 690000011) (k27 : (-40000000) ≤ x27 ∧ x27 ≤ 690000000) (k29 : (-40000003) ≤ x29 ∧ x29 ≤ 689999997) (k30 : (-40000003) ≤ x30 ∧ x30 ≤ 689999997) (k32 : (-40000000) ≤ x32 ∧ x32 ≤ 690000000) (k34 : (-39999997) ≤ x34 ∧ x34 ≤ 690000003) (k35 : (-39999997) ≤ x35 ∧ x35 ≤ 690000003) (k36 : 1 ≤ x36 ∧ x36 ≤ 24) (d2 : x32 + 3 ≤ x34 ∧ x34 ≤ x32 + 3) (d3 : x27 + (-3) ≤ x29 ∧ x29 ≤ x27 + (-3)) (d4 : x22 + 2 ≤ x24 ∧ x24 ≤ x22 + 2) (d9 : x15 + (-2) ≤ x17 ∧ x17 ≤ x15 + (-2)) (g0 : x30 = top_0) (g2 : x18 = left_0) (f4 : x36 = x6 + 1) (f5 : 1 * x5 + ((-1) * x35 + 0) ≤ 0) (f6 : 1 * x34 + ((-1) * x35 + 0) ≤ 0) (h9 : x32 = y_0o2 (x6)) (f11 : (-1) * x8 + (1 * x30 + 0) ≤ 0) (f12 : (-1) * x29 + (1 * x30 + 0) ≤ 0) (f13 : 1 * x4 + ((-1) * x25 + 0) ≤ 0) (f14 : 1 * x24 + ((-1) * x25 + 0) ≤ 0) (f16 : x21 = (nameLength_0o1 (x6) + 1)) (f17 : (-1) * x7 + (1 * x18 + 0) ≤ 0) (f18 : (-1) * x17 + (1 * x18 + 0) ≤ 0) (f19 : x14 = (nameLength_0o1 (x6) + 1)) (h28 : x27 = y_1o2 (x6)) (g30 : x8 = top_1) (f35 : x22 = x20 + x21) (h37 : x20 = x_1o2 (x6)) (f46 : x15 = x13 - x14) (f47 : x14 = (nameLength_2o1 (x6) + 1)) (h48 : x13 = x_2o2 (x6)) (g50 : x7 = left_2) (f52 : FRB (left_2) (top_2) (nameLength_2o1) (x_2o2) (y_2o2) (x4) (x5) (x6)) (fe_0_2_1 : left_0 = left_1) (fe_1_0_1 : nodes_0o1 = nodes_1o1) (fe_0_3_2 : top_1 = top_2) (fe_1_0_2 : nodes_1o1 = nodes_2o1) (hE_1_4_1 : ∀ j : Int, nameLength_0o1 j = nameLength_1o1 j) (hE_1_4_2 : ∀ j : Int, nameLength_1o1 j = nameLength_2o1 j) (hE_2_2_1 : ∀ j : Int, x_0o2 j = x_1o2 j) (hE_2_2_2 : ∀ j : Int, x_1o2 j = x_2o2 j) (hE_2_3_1 : ∀ j : Int, y_0o2 j = y_1o2 j) (hE_2_3_2 : ∀ j : Int, y_1o2 j = y_2o2 j) (kz_0_2 : (-40000011) ≤ left_0 ∧ left_0 ≤ 1000000000) (kz_0_3 : (-40000003) ≤ top_0 ∧ top_0 ≤ 1000000000) (kz_1_0 : 0 ≤ nodes_0o1 ∧ nodes_0o1 ≤ 24) : FRB (left_0) (top_0) (nameLength_0o1) (x_0o2) (y_0o2) (x25) (x35) (x36) := by
  subst fe_0_2_1
  subst fe_1_0_1
  subst fe_0_3_2
  subst fe_1_0_2
  have e_hE_1_4_1 := funext hE_1_4_1; subst e_hE_1_4_1
  have e_hE_1_4_2 := funext hE_1_4_2; subst e_hE_1_4_2
  have e_hE_2_2_1 := funext hE_2_2_1; subst e_hE_2_2_1
  have e_hE_2_2_2 := funext hE_2_2_2; subst e_hE_2_2_2
  have e_hE_2_3_1 := funext hE_2_3_1; subst e_hE_2_3_1
  have e_hE_2_3_2 := funext hE_2_3_2; subst e_hE_2_3_2
  first
    | exact frb_step (p := x13) (q := x27) (h := x14) ‹FRB _ _ _ _ _ _ _ _› (by omega) (by assumption) (by assumption) (by assumption) (by omega) (by omega) (by omega) (by omega) (by omega) (by omega) (by omega) (by omega)
def o_Ro_frame_3 : or_T := (20, 37, [(0, (2, 0, 0, [9])), (1, (2, 0, 0, [3])), (2, (2, 0, 0, [0])), (4, (0, -1000000000, 690000011, [])), (5, (0, -1000000000, 690000003, [])), (6, (0, 0, 23, [])), (7, (0, -40000011, 1000000000, [])), (8, (0, -40000003, 1000000000, [])), (13, (0, -40000000, 690000000, [])), (14, (0, 1, 9, [])), (15, (0, -40000009, 689999999, [])), (17, (0, -40000011, 689999997, [])), (18, (0, -40000011, 689999997, [])), (20, (0, -40000000, 690000000, [])), (21, (0, 1, 9, [])), (22, (0, -39999999, 690000009, [])), (24, (0, -39999997, 690000011, [])), (25, (0, -39999997, 690000011, [])), (27, (0, -40000000, 690000000, [])), (29, (0, -40000003, 689999997, [])), (30, (0, -40000003, 689999997, [])), (32, (0, -40000000, 690000000, [])), (34, (0, -39999997, 690000003, [])), (35, (0, -39999997, 690000003, [])), (36, (0, 1, 24, []))], [(9, [30, 3], [3]), (9, [19, 10], [2]), (9, [18, 3], [2]), (6, [36, 6], [1]), (23, [5, 35], [0, 1, -1]), (23, [34, 35], [0, 1, -1]), (10, [32, 31, 6], []), (9, [31, 10], [3]), (23, [8, 30], [0, -1, 1]), (23, [29, 30], [0, -1, 1]), (23, [4, 25], [0, 1, -1]), (23, [24, 25], [0, 1, -1]), (20, [21, 9, 6], [50, 0, 1, 1004, 1, 2, 1, 0, 4, 5, 3, 1, 4, 1, 2, 0, 1]), (23, [7, 18], [0, -1, 1]), (23, [17, 18], [0, -1, 1]), (20, [14, 9, 6], [50, 0, 1, 1004, 1, 2, 1, 0, 4, 5, 3, 1, 4, 1, 2, 0, 1]), (24, [1, 9], []), (24, [2, 10], []), (24, [0, 3], []), (101, [3, 30], [3]), (10, [27, 26, 6], []), (9, [26, 10], [3]), (9, [8, 3], [3]), (1, [22, 20, 21], []), (10, [20, 19, 6], []), (101, [3, 18], [2]), (2, [15, 13, 14], []), (20, [14, 9, 6], [50, 0, 1, 1004, 1, 2, 1, 0, 4, 5, 3, 1, 4, 1, 2, 0, 1]), (10, [13, 12, 6], []), (9, [12, 10], [2]), (9, [7, 3], [2]), (20, [3, 9, 10, 4, 5, 6], [60, 2, 3, 841, 2, 3, 1004, 2002, 2003])], [], [], [(20, [3, 9, 10, 25, 35, 36], [60, 2, 3, 841, 2, 3, 1004, 2002, 2003])], [], [(34, 32, 3, 3), (29, 27, -3, -3), (24, 22, 2, 2), (17, 15, -2, -2)])
theorem oo_Ro_frame_3 {kA : Nat → ClassId} : or_ok PRD kA GG o_Ro_frame_3 := by
  refine or_mk fun A ta ws vs hD hth hl => ?_
  intro t0 r0 t1 r1 t2 r2 t4 k4 t5 k5 t6 k6 t7 k7 t8 k8 t13 k13 t14 k14 t15 k15 t17 k17 t18 k18 t20 k20 t21 k21 t22 k22 t24 k24 t25 k25 t27 k27 t29 k29 t30 k30 t32 k32 t34 k34 t35 k35 t36 k36 d2 d3 d4 d9 f0 f1 f2 f4 f5 f6 f9 f10 f11 f12 f13 f14 f16 f17 f18 f19 f21 f22 f23 ta1 w1 le1 s1 f28 f29 f30 f35 f37 ta2 w2 le2 s2 f46 f47 f48 f49 f50 f52
  replace f0 := shm_137 f0
  replace f1 := shm_120 f1
  replace f2 := shm_120 f2
  replace f4 := shm_4 f4
  replace f5 := shm_7 f5
  replace f6 := shm_7 f6
  replace f9 := shm_107 f9
  replace f10 := shm_137 f10
  replace f11 := shm_22 f11
  replace f12 := shm_22 f12
  replace f13 := shm_7 f13
  replace f14 := shm_7 f14
  replace f16 := shm_377 f16
  replace f17 := shm_22 f17
  replace f18 := shm_22 f18
  replace f19 := shm_377 f19
  replace f21 := shm_5 f21
  replace f22 := shm_5 f22
  replace f23 := shm_5 f23
  have s1 : (∀ b j, w_el ws b j = w_el w1 b j) ∧ ∀ b j, w_fd ws b j = if b = v_ad (n_v vs 3) ∧ j = 3 then n_v vs 30 else w_fd w1 b j := s1.2
  replace f28 := shm_107 f28
  replace f29 := shm_137 f29
  replace f30 := shm_137 f30
  replace f35 := shm_12 f35
  replace f37 := shm_107 f37
  have s2 : (∀ b j, w_el w1 b j = w_el w2 b j) ∧ ∀ b j, w_fd w1 b j = if b = v_ad (n_v vs 3) ∧ j = 2 then n_v vs 18 else w_fd w2 b j := s2.2
  replace f46 := shm_14 f46
  replace f47 := shm_377 f47
  replace f48 := shm_107 f48
  replace f49 := shm_120 f49
  replace f50 := shm_120 f50
  replace f52 := shm_1221 f52
  have q9 : n_v vs 9 = n_v vs 1 := f21.symm
  have q10 : n_v vs 10 = n_v vs 2 := f22.symm
  have q3 : n_v vs 3 = n_v vs 0 := f23.symm
  simp only [q3, q10, q9] at f0 f1 f2 f10 f16 f19
  rw [q3] at s1
  simp only [q10, q3] at f29 f30
  rw [q3] at s2
  simp only [q9, q10, q3] at f47 f49 f50 f52
  have ar_1_4_1 : w_ar w1 (n_v vs 1) 4 = w_ar ws (n_v vs 1) 4 := by show v_ad (w_fd w1 _ _) = v_ad (w_fd ws _ _); rw [s1.2, if_neg (fun e => absurd e.2 (by decide))]
  have ar_1_4_2 : w_ar w2 (n_v vs 1) 4 = w_ar ws (n_v vs 1) 4 := by rw [← ar_1_4_1]; show v_ad (w_fd w2 _ _) = v_ad (w_fd w1 _ _); rw [s2.2, if_neg (fun e => absurd e.2 (by decide))]
  have ar_2_2_1 : w_ar w1 (n_v vs 2) 2 = w_ar ws (n_v vs 2) 2 := by show v_ad (w_fd w1 _ _) = v_ad (w_fd ws _ _); rw [s1.2, if_neg (fun e => absurd e.2 (by decide))]
  have ar_2_2_2 : w_ar w2 (n_v vs 2) 2 = w_ar ws (n_v vs 2) 2 := by rw [← ar_2_2_1]; show v_ad (w_fd w2 _ _) = v_ad (w_fd w1 _ _); rw [s2.2, if_neg (fun e => by have e1 := e.1; have e2 := r2; rw [e1, r0] at e2; exact absurd (Option.some.inj e2) (by decide))]
  have ar_2_3_1 : w_ar w1 (n_v vs 2) 3 = w_ar ws (n_v vs 2) 3 := by show v_ad (w_fd w1 _ _) = v_ad (w_fd ws _ _); rw [s1.2, if_neg (fun e => by have e1 := e.1; have e2 := r2; rw [e1, r0] at e2; exact absurd (Option.some.inj e2) (by decide))]
  have ar_2_3_2 : w_ar w2 (n_v vs 2) 3 = w_ar ws (n_v vs 2) 3 := by rw [← ar_2_3_1]; show v_ad (w_fd w2 _ _) = v_ad (w_fd w1 _ _); rw [s2.2, if_neg (fun e => absurd e.2 (by decide))]
  have ad_19 : v_ad (n_v vs 19) = w_ar ws (n_v vs 2) 2 := congrArg v_ad f1
  have ad_31 : v_ad (n_v vs 31) = w_ar ws (n_v vs 2) 3 := congrArg v_ad f10
  have ad_26 : v_ad (n_v vs 26) = w_ar ws (n_v vs 2) 3 := (congrArg v_ad f29).trans ar_2_3_1
  have ad_12 : v_ad (n_v vs 12) = w_ar ws (n_v vs 2) 2 := (congrArg v_ad f49).trans ar_2_2_2
  have g0 : v_iv (n_v vs 30) = w_fi ws (n_v vs 0) 3 := congrArg v_iv f0
  have g2 : v_iv (n_v vs 18) = w_fi ws (n_v vs 0) 2 := congrArg v_iv f2
  simp only [ad_31] at f9
  have h9 : v_iv (n_v vs 32) = w_ei ws (w_ar ws (n_v vs 2) 3) (v_iv (n_v vs 6)) := f9
  simp only [ad_26] at f28
  have h28 : v_iv (n_v vs 27) = w_ei w1 (w_ar ws (n_v vs 2) 3) (v_iv (n_v vs 6)) := f28
  have g30 : v_iv (n_v vs 8) = w_fi w1 (n_v vs 0) 3 := congrArg v_iv f30
  simp only [ar_1_4_1, ad_19] at f37
  have h37 : v_iv (n_v vs 20) = w_ei w1 (w_ar ws (n_v vs 2) 2) (v_iv (n_v vs 6)) := f37
  simp only [ar_1_4_1, ar_1_4_2, ad_12] at f47 f48
  have h48 : v_iv (n_v vs 13) = w_ei w2 (w_ar ws (n_v vs 2) 2) (v_iv (n_v vs 6)) := f48
  have g50 : v_iv (n_v vs 7) = w_fi w2 (n_v vs 0) 2 := congrArg v_iv f50
  simp only [ar_1_4_2, ar_2_2_2, ar_2_3_2] at f52
  have fe_0_2_1 : w_fi ws (n_v vs 0) 2 = w_fi w1 (n_v vs 0) 2 := by show v_iv (w_fd _ _ _) = v_iv (w_fd _ _ _); rw [s1.2, if_neg (fun e => absurd e.2 (by decide))]
  have fe_1_0_1 : w_fi ws (n_v vs 1) 0 = w_fi w1 (n_v vs 1) 0 := by show v_iv (w_fd _ _ _) = v_iv (w_fd _ _ _); rw [s1.2, if_neg (fun e => absurd e.2 (by decide))]
  have fe_0_3_2 : w_fi w1 (n_v vs 0) 3 = w_fi w2 (n_v vs 0) 3 := by show v_iv (w_fd _ _ _) = v_iv (w_fd _ _ _); rw [s2.2, if_neg (fun e => absurd e.2 (by decide))]
  have fe_1_0_2 : w_fi w1 (n_v vs 1) 0 = w_fi w2 (n_v vs 1) 0 := by show v_iv (w_fd _ _ _) = v_iv (w_fd _ _ _); rw [s2.2, if_neg (fun e => absurd e.2 (by decide))]
  have hE_1_4_1 : ∀ j : Int, w_ei ws (w_ar ws (n_v vs 1) 4) j = w_ei w1 (w_ar ws (n_v vs 1) 4) j := fun j => s1.1 _ _
  have hE_1_4_2 : ∀ j : Int, w_ei w1 (w_ar ws (n_v vs 1) 4) j = w_ei w2 (w_ar ws (n_v vs 1) 4) j := fun j => s2.1 _ _
  have hE_2_2_1 : ∀ j : Int, w_ei ws (w_ar ws (n_v vs 2) 2) j = w_ei w1 (w_ar ws (n_v vs 2) 2) j := fun j => s1.1 _ _
  have hE_2_2_2 : ∀ j : Int, w_ei w1 (w_ar ws (n_v vs 2) 2) j = w_ei w2 (w_ar ws (n_v vs 2) 2) j := fun j => s2.1 _ _
  have hE_2_3_1 : ∀ j : Int, w_ei ws (w_ar ws (n_v vs 2) 3) j = w_ei w1 (w_ar ws (n_v vs 2) 3) j := fun j => s1.1 _ _
  have hE_2_3_2 : ∀ j : Int, w_ei w1 (w_ar ws (n_v vs 2) 3) j = w_ei w2 (w_ar ws (n_v vs 2) 3) j := fun j => s2.1 _ _
  have kz_0_2 := fdq_106 hD hth r0
  have kz_0_3 := fdq_107 hD hth r0
  have kz_1_0 := fdq_21 hD hth r1
  have nf0 : fc_1 PRD (20, [3, 9, 10, 25, 35, 36], [60, 2, 3, 841, 2, 3, 1004, 2002, 2003]) ws (vs) := by
    refine ⟨nf_in hl rfl, sgq_1221 ?_⟩
    · show FRB (w_fi ws (n_v vs 3) 2) (w_fi ws (n_v vs 3) 3) (w_ei ws (w_ar ws (n_v vs 9) 4)) (w_ei ws (w_ar ws (n_v vs 10) 2)) (w_ei ws (w_ar ws (n_v vs 10) 3)) (v_iv (n_v vs 25)) (v_iv (n_v vs 35)) (v_iv (n_v vs 36))
      simp only [q9, q10, q3]
      exact vc_Ro_frame_3_0 (v_iv (n_v vs 4)) (v_iv (n_v vs 5)) (v_iv (n_v vs 6)) (v_iv (n_v vs 7)) (v_iv (n_v vs 8)) (v_iv (n_v vs 13)) (v_iv (n_v vs 14)) (v_iv (n_v vs 15)) (v_iv (n_v vs 17)) (v_iv (n_v vs 18)) (v_iv (n_v vs 20)) (v_iv (n_v vs 21)) (v_iv (n_v vs 22)) (v_iv (n_v vs 24)) (v_iv (n_v vs 25)) (v_iv (n_v vs 27)) (v_iv (n_v vs 29)) (v_iv (n_v vs 30)) (v_iv (n_v vs 32)) (v_iv (n_v vs 34)) (v_iv (n_v vs 35)) (v_iv (n_v vs 36)) (w_fi ws (n_v vs 0) 3) (w_fi ws (n_v vs 0) 2) (w_fi ws (n_v vs 1) 0) (w_ei ws (w_ar ws (n_v vs 2) 3)) (w_ei ws (w_ar ws (n_v vs 1) 4)) (w_ei w1 (w_ar ws (n_v vs 2) 3)) (w_fi w1 (n_v vs 0) 3) (w_ei w1 (w_ar ws (n_v vs 1) 4)) (w_ei w1 (w_ar ws (n_v vs 2) 2)) (w_fi w1 (n_v vs 1) 0) (w_ei w2 (w_ar ws (n_v vs 1) 4)) (w_ei w2 (w_ar ws (n_v vs 2) 2)) (w_fi w2 (n_v vs 0) 2) (w_ei w2 (w_ar ws (n_v vs 2) 3)) (w_fi w2 (n_v vs 0) 3) (w_fi w2 (n_v vs 1) 0) (w_fi w1 (n_v vs 0) 2) (w_ei ws (w_ar ws (n_v vs 2) 2)) k4 k5 k6 k7 k8 k13 k14 k15 k17 k18 k20 k21 k22 k24 k25 k27 k29 k30 k32 k34 k35 k36 d2 d3 d4 d9 g0 g2 f4 f5 f6 h9 f11 f12 f13 f14 f16 f17 f18 f19 h28 g30 f35 h37 f46 f47 h48 g50 f52 fe_0_2_1 fe_1_0_1 fe_0_3_2 fe_1_0_2 hE_1_4_1 hE_1_4_2 hE_2_2_1 hE_2_2_2 hE_2_3_1 hE_2_3_2 kz_0_2 kz_0_3 kz_1_0
  refine ⟨(fun _ h => (by cases h)), [], trivial, ?_, (fun _ h => (by cases h))⟩
  rw [List.append_nil]
  exact List.forall_mem_cons.mpr ⟨⟨show (20 : Nat) < 100 from by decide, nf0⟩, (fun _ h => (by cases h))⟩
def n_Ro_frame_an : List an_T := [(20, [(0, (2, 0, 0, [9])), (1, (0, (Int.negSucc 999999999), 690000011, [])), (2, (0, (Int.negSucc 999999999), 690000003, [])), (3, (0, 0, 24, []))], [], (0, 0), [(0, 0, 99980), (1, 6, 24), (0, 0, 100000)], [(4, 5, (Int.negSucc 999999999999), 730000008), (5, 4, (Int.negSucc 999999999999), 730000000), (7, 8, (Int.negSucc 999999999999), 730000000), (8, 7, (Int.negSucc 999999999999), 730000008)], [((0, 2), (0, (Int.negSucc 40000010), 1000000000, [])), ((0, 3), (0, (Int.negSucc 40000002), 1000000000, [])), ((0, 0), (2, 0, 0, [3])), ((0, 1), (2, 0, 0, [0]))], [(2, 0, 0, [9]), (2, 0, 0, [3]), (2, 0, 0, [0])], 0, [], [(20, [3, 9, 10, 4, 5, 6], [60, 2, 3, 841, 2, 3, 1004, 2002, 2003]), (20, [9], [50, 1, 0, 0, 0, 2, 0, 1, 2, 0, 0]), (24, [1, 9], []), (24, [2, 10], []), (24, [0, 3], [])])]
def t_Ro_frame_ct : ct_L := [(1, 114, e_Gr_half), (171, 117, e_jMath_min1_v108), (171, 117, e_jMath_min1_v112), (252, 123, e_jMath_max1_v109), (252, 123, e_jMath_max1_v113), (312, 117, e_jMath_min1_v110), (312, 117, e_jMath_min1_v114), (366, 123, e_jMath_max1_v111), (366, 123, e_jMath_max1_v115)]
set_option maxRecDepth 100000 in
theorem c_Ro_frame {l : Launch} {D : va_G} {kA : Nat → ClassId} (h_Gr_half : ct_ok PRD l D kA GG y_Gr_half z_Gr_half e_Gr_half) : ct_ok PRD l D kA GG y_Ro_frame z_Ro_frame e_Ro_frame := chk_all_ok (FT := [(9, 9, 0), (15, 9, 1), (19, 9, 2), (23, 9, 3), (26, 9, 4), (29, 9, 5), (108, 3, 0), (111, 0, 2), (126, 0, 3)]) (PT := [(19, 9, 2, .int), (23, 9, 3, .int), (26, 9, 4, .int), (29, 9, 5, .int)]) (CT := t_Ro_frame_ct) (KT := [(0, 94, .int (1000000000), (0, 1000000000, 1000000000, [])), (0, 107, .int (Int32.ofInt (-1000000000)), (0, -1000000000, -1000000000, [])), (2, 129, .long (6000), (1, 6000, 6000, []))]) (NT := []) (AN := n_Ro_frame_an) (OT := [o_Ro_frame_0, o_Ro_frame_1, o_Ro_frame_2, o_Ro_frame_3]) 3 412 (List.forall_mem_cons.mpr ⟨oo_Ro_frame_0, List.forall_mem_cons.mpr ⟨oo_Ro_frame_1, List.forall_mem_cons.mpr ⟨oo_Ro_frame_2, List.forall_mem_cons.mpr ⟨oo_Ro_frame_3, List.forall_mem_nil _⟩⟩⟩⟩) (by decide +kernel) ⟨List.forall_mem_cons.mpr ⟨gf_Ro_9, List.forall_mem_cons.mpr ⟨gf_Ro_15, List.forall_mem_cons.mpr ⟨gf_Ro_19, List.forall_mem_cons.mpr ⟨gf_Ro_23, List.forall_mem_cons.mpr ⟨gf_Ro_26, List.forall_mem_cons.mpr ⟨gf_Ro_29, List.forall_mem_cons.mpr ⟨gf_Ro_108, List.forall_mem_cons.mpr ⟨gf_Ro_111, List.forall_mem_cons.mpr ⟨gf_Ro_126, List.forall_mem_nil _⟩⟩⟩⟩⟩⟩⟩⟩⟩, List.forall_mem_cons.mpr ⟨pf_Ro_19, List.forall_mem_cons.mpr ⟨pf_Ro_23, List.forall_mem_cons.mpr ⟨pf_Ro_26, List.forall_mem_cons.mpr ⟨pf_Ro_29, List.forall_mem_nil _⟩⟩⟩⟩, List.forall_mem_cons.mpr ⟨cl_virtual (y := y_Gr_half) (ci := 3) rfl rfl ⟨_, _, rfl⟩ (by decide +kernel) h_Gr_half wm_1452 wm_3 wm_1932 wm_1450 wm_1451 ⟨by decide, by decide, by decide +kernel⟩ (by decide), List.forall_mem_cons.mpr ⟨cl_static (y := y_jMath_min1) c_jMath_min1_v108 wm_658 wm_10 wm_1933 wm_657 ⟨by decide, by decide, by decide +kernel⟩ (by decide), List.forall_mem_cons.mpr ⟨cl_static (y := y_jMath_min1) c_jMath_min1_v112 wm_658 wm_10 wm_1933 wm_657 ⟨by decide, by decide, by decide +kernel⟩ (by decide), List.forall_mem_cons.mpr ⟨cl_static (y := y_jMath_max1) c_jMath_max1_v109 wm_836 wm_10 wm_1934 wm_835 ⟨by decide, by decide, by decide +kernel⟩ (by decide), List.forall_mem_cons.mpr ⟨cl_static (y := y_jMath_max1) c_jMath_max1_v113 wm_836 wm_10 wm_1934 wm_835 ⟨by decide, by decide, by decide +kernel⟩ (by decide), List.forall_mem_cons.mpr ⟨cl_static (y := y_jMath_min1) c_jMath_min1_v110 wm_658 wm_10 wm_1933 wm_657 ⟨by decide, by decide, by decide +kernel⟩ (by decide), List.forall_mem_cons.mpr ⟨cl_static (y := y_jMath_min1) c_jMath_min1_v114 wm_658 wm_10 wm_1933 wm_657 ⟨by decide, by decide, by decide +kernel⟩ (by decide), List.forall_mem_cons.mpr ⟨cl_static (y := y_jMath_max1) c_jMath_max1_v111 wm_836 wm_10 wm_1934 wm_835 ⟨by decide, by decide, by decide +kernel⟩ (by decide), List.forall_mem_cons.mpr ⟨cl_static (y := y_jMath_max1) c_jMath_max1_v115 wm_836 wm_10 wm_1934 wm_835 ⟨by decide, by decide, by decide +kernel⟩ (by decide), List.forall_mem_nil _⟩⟩⟩⟩⟩⟩⟩⟩⟩, List.forall_mem_cons.mpr ⟨kx_Ro_0_94, List.forall_mem_cons.mpr ⟨kx_Ro_0_107, List.forall_mem_cons.mpr ⟨⟨kt_mk2 wm_1935, fun _ => Or.inr (Or.inl ⟨rfl, _, rfl, by decide, by decide⟩)⟩, List.forall_mem_nil _⟩⟩⟩, List.forall_mem_nil _, GG_pl⟩ (by decide +kernel)
set_option maxHeartbeats 4000000 in
theorem vc_Ro_goBack_0_0 (x1 : Int) (x3 : Int) (x5 : Int) (x7 : Int) (width_0 : Int) (height_0 : Int) (list_0 : Int → Int) (entries_0 : Int) (entryState_0 : Int → Int) (entryNext_0 : Int → Int) (k1 : 0 ≤ x1 ∧ x1 ≤ 23999) (k3 : 0 ≤ x3 ∧ x3 ≤ 48004) (k5 : 0 ≤ x5 ∧ x5 ≤ 3) (k7 : 0 ≤ x7 ∧ x7 ≤ 5999) (f0 : x7 = x1 / 4) (f1 : x5 = x1 % 4) (f2 : (1 ≤ width_0) ∧ ((1 ≤ height_0) ∧ ((width_0 * height_0) ≤ 6000))) (f3 : (x1 + 1) ≤ (4 * (width_0 * height_0))) (f4 : ∀ j0 : Int, 0 ≤ j0 → j0 < 4 → ((list_0 (j0) + 1) ≤ entries_0)) (f5 : ∀ j0 : Int, 0 ≤ j0 → j0 < entries_0 → ((entryState_0 (j0) + 1) ≤ (4 * (width_0 * height_0)))) (f6 : ∀ j0 : Int, 0 ≤ j0 → j0 < entries_0 → ((entryNext_0 (j0) + 1) ≤ entries_0)) (f7 : 1 * entries_0 + ((-1) * x3 + 0) ≤ 0) (f8 : (-1) * entries_0 + (1 * x3 + 0) ≤ 0) (hK_0_11 : ∀ j : Int, 0 ≤ j → j < 4 → (-1) ≤ list_0 j ∧ list_0 j ≤ 48003) (hK_0_12 : ∀ j : Int, 0 ≤ j → j < 48004 → 0 ≤ entryState_0 j ∧ entryState_0 j ≤ 23999) (hK_0_13 : ∀ j : Int, 0 ≤ j → j < 48004 → (-1) ≤ entryNext_0 j ∧ entryNext_0 j ≤ 48003) (kz_0_4 : (-2147483648) ≤ width_0 ∧ width_0 ≤ 2147483647) (kz_0_5 : (-2147483648) ≤ height_0 ∧ height_0 ≤ 2147483647) (kz_0_14 : 0 ≤ entries_0 ∧ entries_0 ≤ 48004) : (x7 + 1) ≤ (width_0 * height_0) := by
  first | assumption | (clear f4 f5 f6 hK_0_11 hK_0_12 hK_0_13; omega) | omega | grind
def o_Ro_goBack_0 : or_T := (11, 10, [(0, (2, 0, 0, [9])), (1, (0, 0, 23999, [])), (3, (0, 0, 48004, [])), (5, (0, 0, 3, [])), (7, (0, 0, 5999, []))], [(11, [7, 1], [4]), (12, [5, 1], [4]), (20, [0], [50, 2, 0, 4, 5, 2, 7, 0, 2, 0, 1, 2, 0, 4, 2, 7, 0, 2, 0, 1, 2, 0, 5, 0, 8, 6, 3, 2, 0, 4, 2, 0, 5, 0, 6000]), (20, [1, 0], [50, 2, 0, 1004, 1005, 0, 6, 4, 2, 1, 0, 0, 1, 6, 2, 0, 4, 6, 3, 2, 1, 4, 2, 1, 5]), (20, [0], [50, 1, 1, 14, 11, 5, 2, 0, 4, 0, 9, 4, 5, 3, 0, 11, 7, 0, 0, 1, 2, 0, 14]), (20, [0], [50, 3, 1, 14, 4, 5, 12, 5, 3, 2, 0, 14, 0, 9, 4, 5, 3, 0, 12, 7, 0, 0, 1, 6, 2, 0, 4, 6, 3, 2, 0, 4, 2, 0, 5]), (20, [0], [50, 1, 1, 14, 13, 5, 3, 2, 0, 14, 0, 9, 4, 5, 3, 0, 13, 7, 0, 0, 1, 2, 0, 14]), (20, [0, 3], [30, 0, 1, 1, 14, -1, 0, 0]), (20, [0, 3], [30, 0, -1, 1, 14, 1, 0, 0])], [], [], [(20, [7, 0], [50, 2, 0, 1004, 1005, 0, 6, 4, 2, 1, 0, 0, 1, 6, 3, 2, 1, 4, 2, 1, 5])], [], [])
set_option maxHeartbeats 8000000 in
theorem oo_Ro_goBack_0 {kA : Nat → ClassId} : or_ok PRD kA GG o_Ro_goBack_0 := by
  refine or_mk fun A ta ws vs hD hth hl => ?_
  intro t0 r0 t1 k1 t3 k3 t5 k5 t7 k7 f0 f1 f2 f3 f4 f5 f6 f7 f8
  have cr_0_11 := fdq_100 hD hth r0
  have cr_0_12 := fdq_101 hD hth r0
  have cr_0_13 := fdq_102 hD hth r0
  have hK_0_11 := elq_50 hD hth cr_0_11
  have hK_0_12 := elq_51 hD hth cr_0_12
  have hK_0_13 := elq_52 hD hth cr_0_13
  have kz_0_4 := fdq_103 hD hth r0
  have kz_0_5 := fdq_104 hD hth r0
  have kz_0_14 := fdq_105 hD hth r0
  have nf0 : fc_1 PRD (20, [7, 0], [50, 2, 0, 1004, 1005, 0, 6, 4, 2, 1, 0, 0, 1, 6, 3, 2, 1, 4, 2, 1, 5]) ws (vs) := ⟨nf_in hl rfl, sgq_467 (vc_Ro_goBack_0_0 (v_iv (n_v vs 1)) (v_iv (n_v vs 3)) (v_iv (n_v vs 5)) (v_iv (n_v vs 7)) (w_fi ws (n_v vs 0) 4) (w_fi ws (n_v vs 0) 5) (w_ei ws (w_ar ws (n_v vs 0) 11)) (w_fi ws (n_v vs 0) 14) (w_ei ws (w_ar ws (n_v vs 0) 12)) (w_ei ws (w_ar ws (n_v vs 0) 13)) k1 k3 k5 k7 (shm_1223 f0) (shm_573 f1) (shm_466 f2) (shm_458 f3) (shm_455 f4) (shm_456 f5) (shm_457 f6) (shm_459 f7) (shm_460 f8) hK_0_11 hK_0_12 hK_0_13 kz_0_4 kz_0_5 kz_0_14)⟩
  refine ⟨(fun _ h => (by cases h)), [], trivial, ?_, (fun _ h => (by cases h))⟩
  rw [List.append_nil]
  exact List.forall_mem_cons.mpr ⟨⟨show (20 : Nat) < 100 from by decide, nf0⟩, (fun _ h => (by cases h))⟩
set_option maxHeartbeats 4000000 in
theorem vc_Ro_goBack_1_0 (x1 : Int) (x3 : Int) (x5 : Int) (x7 : Int) (x10 : Int) (x11 : Int) (x12 : Int) (start_0 : Int) (width_0 : Int) (height_0 : Int) (list_0 : Int → Int) (entries_0 : Int) (entryState_0 : Int → Int) (entryNext_0 : Int → Int) (k1 : 0 ≤ x1 ∧ x1 ≤ 23999) (k3 : 0 ≤ x3 ∧ x3 ≤ 48004) (k5 : 0 ≤ x5 ∧ x5 ≤ 3) (k7 : 0 ≤ x7 ∧ x7 ≤ 5999) (k10 : 0 ≤ x10 ∧ x10 ≤ 5999) (k11 : (-1) ≤ x11 ∧ x11 ≤ (-1)) (k12 : 0 ≤ x12 ∧ x12 ≤ 5999) (f0 : x10 ≠ x12) (g1 : x12 = start_0) (f2 : x10 ≠ x11) (f3 : (x10 = (-1)) ∨ ((0 ≤ x10) ∧ ((x10 + 1) ≤ (width_0 * height_0)))) (f4 : (x7 + 1) ≤ (width_0 * height_0)) (f5 : x7 = x1 / 4) (f6 : x5 = x1 % 4) (f7 : (1 ≤ width_0) ∧ ((1 ≤ height_0) ∧ ((width_0 * height_0) ≤ 6000))) (f8 : (x1 + 1) ≤ (4 * (width_0 * height_0))) (f9 : ∀ j0 : Int, 0 ≤ j0 → j0 < 4 → ((list_0 (j0) + 1) ≤ entries_0)) (f10 : ∀ j0 : Int, 0 ≤ j0 → j0 < entries_0 → ((entryState_0 (j0) + 1) ≤ (4 * (width_0 * height_0)))) (f11 : ∀ j0 : Int, 0 ≤ j0 → j0 < entries_0 → ((entryNext_0 (j0) + 1) ≤ entries_0)) (f12 : 1 * entries_0 + ((-1) * x3 + 0) ≤ 0) (f13 : (-1) * entries_0 + (1 * x3 + 0) ≤ 0) (hK_0_11 : ∀ j : Int, 0 ≤ j → j < 4 → (-1) ≤ list_0 j ∧ list_0 j ≤ 48003) (hK_0_12 : ∀ j : Int, 0 ≤ j → j < 48004 → 0 ≤ entryState_0 j ∧ entryState_0 j ≤ 23999) (hK_0_13 : ∀ j : Int, 0 ≤ j → j < 48004 → (-1) ≤ entryNext_0 j ∧ entryNext_0 j ≤ 48003) (kz_0_4 : (-2147483648) ≤ width_0 ∧ width_0 ≤ 2147483647) (kz_0_5 : (-2147483648) ≤ height_0 ∧ height_0 ≤ 2147483647) (kz_0_6 : 0 ≤ start_0 ∧ start_0 ≤ 5999) (kz_0_14 : 0 ≤ entries_0 ∧ entries_0 ≤ 48004) : (x10 + 1) ≤ (width_0 * height_0) := by
  first | assumption | (clear f3 f9 f10 f11 hK_0_11 hK_0_12 hK_0_13; omega) | (clear f9 f10 f11 hK_0_11 hK_0_12 hK_0_13; grind) | omega | grind
set_option maxHeartbeats 4000000 in
theorem vc_Ro_goBack_1_1 (x1 : Int) (x3 : Int) (x5 : Int) (x7 : Int) (x10 : Int) (x11 : Int) (x12 : Int) (start_0 : Int) (width_0 : Int) (height_0 : Int) (list_0 : Int → Int) (entries_0 : Int) (entryState_0 : Int → Int) (entryNext_0 : Int → Int) (k1 : 0 ≤ x1 ∧ x1 ≤ 23999) (k3 : 0 ≤ x3 ∧ x3 ≤ 48004) (k5 : 0 ≤ x5 ∧ x5 ≤ 3) (k7 : 0 ≤ x7 ∧ x7 ≤ 5999) (k10 : 0 ≤ x10 ∧ x10 ≤ 5999) (k11 : (-1) ≤ x11 ∧ x11 ≤ (-1)) (k12 : 0 ≤ x12 ∧ x12 ≤ 5999) (f0 : x10 ≠ x12) (g1 : x12 = start_0) (f2 : x10 ≠ x11) (f3 : (x10 = (-1)) ∨ ((0 ≤ x10) ∧ ((x10 + 1) ≤ (width_0 * height_0)))) (f4 : (x7 + 1) ≤ (width_0 * height_0)) (f5 : x7 = x1 / 4) (f6 : x5 = x1 % 4) (f7 : (1 ≤ width_0) ∧ ((1 ≤ height_0) ∧ ((width_0 * height_0) ≤ 6000))) (f8 : (x1 + 1) ≤ (4 * (width_0 * height_0))) (f9 : ∀ j0 : Int, 0 ≤ j0 → j0 < 4 → ((list_0 (j0) + 1) ≤ entries_0)) (f10 : ∀ j0 : Int, 0 ≤ j0 → j0 < entries_0 → ((entryState_0 (j0) + 1) ≤ (4 * (width_0 * height_0)))) (f11 : ∀ j0 : Int, 0 ≤ j0 → j0 < entries_0 → ((entryNext_0 (j0) + 1) ≤ entries_0)) (f12 : 1 * entries_0 + ((-1) * x3 + 0) ≤ 0) (f13 : (-1) * entries_0 + (1 * x3 + 0) ≤ 0) (hK_0_11 : ∀ j : Int, 0 ≤ j → j < 4 → (-1) ≤ list_0 j ∧ list_0 j ≤ 48003) (hK_0_12 : ∀ j : Int, 0 ≤ j → j < 48004 → 0 ≤ entryState_0 j ∧ entryState_0 j ≤ 23999) (hK_0_13 : ∀ j : Int, 0 ≤ j → j < 48004 → (-1) ≤ entryNext_0 j ∧ entryNext_0 j ≤ 48003) (kz_0_4 : (-2147483648) ≤ width_0 ∧ width_0 ≤ 2147483647) (kz_0_5 : (-2147483648) ≤ height_0 ∧ height_0 ≤ 2147483647) (kz_0_6 : 0 ≤ start_0 ∧ start_0 ≤ 5999) (kz_0_14 : 0 ≤ entries_0 ∧ entries_0 ≤ 48004) : 1 * x3 + ((-1) * entries_0 + 0) ≤ 0 := by
  first | assumption | (clear f3 f9 f10 f11 hK_0_11 hK_0_12 hK_0_13; omega) | (clear f9 f10 f11 hK_0_11 hK_0_12 hK_0_13; grind) | omega | grind
def o_Ro_goBack_1 : or_T := (60, 16, [(0, (2, 0, 0, [9])), (1, (0, 0, 23999, [])), (3, (0, 0, 48004, [])), (5, (0, 0, 3, [])), (7, (0, 0, 5999, [])), (10, (0, 0, 5999, [])), (11, (0, -1, -1, [])), (12, (0, 0, 5999, []))], [(7, [10, 12], [1]), (9, [12, 0], [6]), (7, [10, 11], [1]), (20, [10, 0], [50, 2, 0, 1004, 1005, 3, 6, 1, 2, 1, 0, 0, -1, 2, 6, 0, 2, 0, 0, 1, 0, 0, 6, 4, 2, 1, 0, 0, 1, 6, 3, 2, 1, 4, 2, 1, 5]), (20, [7, 0], [50, 2, 0, 1004, 1005, 0, 6, 4, 2, 1, 0, 0, 1, 6, 3, 2, 1, 4, 2, 1, 5]), (11, [7, 1], [4]), (12, [5, 1], [4]), (20, [0], [50, 2, 0, 4, 5, 2, 7, 0, 2, 0, 1, 2, 0, 4, 2, 7, 0, 2, 0, 1, 2, 0, 5, 0, 8, 6, 3, 2, 0, 4, 2, 0, 5, 0, 6000]), (20, [1, 0], [50, 2, 0, 1004, 1005, 0, 6, 4, 2, 1, 0, 0, 1, 6, 2, 0, 4, 6, 3, 2, 1, 4, 2, 1, 5]), (20, [0], [50, 1, 1, 14, 11, 5, 2, 0, 4, 0, 9, 4, 5, 3, 0, 11, 7, 0, 0, 1, 2, 0, 14]), (20, [0], [50, 3, 1, 14, 4, 5, 12, 5, 3, 2, 0, 14, 0, 9, 4, 5, 3, 0, 12, 7, 0, 0, 1, 6, 2, 0, 4, 6, 3, 2, 0, 4, 2, 0, 5]), (20, [0], [50, 1, 1, 14, 13, 5, 3, 2, 0, 14, 0, 9, 4, 5, 3, 0, 13, 7, 0, 0, 1, 2, 0, 14]), (20, [0, 3], [30, 0, 1, 1, 14, -1, 0, 0]), (20, [0, 3], [30, 0, -1, 1, 14, 1, 0, 0])], [], [], [(20, [10, 0], [50, 2, 0, 1004, 1005, 0, 6, 4, 2, 1, 0, 0, 1, 6, 3, 2, 1, 4, 2, 1, 5]), (20, [3, 0], [30, 0, 1, 0, 0, -1, 1, 14]), (24, [0, 0], [])], [], [])
set_option maxHeartbeats 8000000 in
theorem oo_Ro_goBack_1 {kA : Nat → ClassId} : or_ok PRD kA GG o_Ro_goBack_1 := by
  refine or_mk fun A ta ws vs hD hth hl => ?_
  intro t0 r0 t1 k1 t3 k3 t5 k5 t7 k7 t10 k10 t11 k11 t12 k12 f0 f1 f2 f3 f4 f5 f6 f7 f8 f9 f10 f11 f12 f13
  replace f1 := shm_111 f1
  have cr_0_11 := fdq_100 hD hth r0
  have cr_0_12 := fdq_101 hD hth r0
  have cr_0_13 := fdq_102 hD hth r0
  have g1 : v_iv (n_v vs 12) = w_fi ws (n_v vs 0) 6 := congrArg v_iv f1
  have hK_0_11 := elq_50 hD hth cr_0_11
  have hK_0_12 := elq_51 hD hth cr_0_12
  have hK_0_13 := elq_52 hD hth cr_0_13
  have kz_0_4 := fdq_103 hD hth r0
  have kz_0_5 := fdq_104 hD hth r0
  have kz_0_6 := fdq_267 hD hth r0
  have kz_0_14 := fdq_105 hD hth r0
  have nf0 : fc_1 PRD (20, [10, 0], [50, 2, 0, 1004, 1005, 0, 6, 4, 2, 1, 0, 0, 1, 6, 3, 2, 1, 4, 2, 1, 5]) ws (vs) := ⟨nf_in hl rfl, sgq_467 (vc_Ro_goBack_1_0 (v_iv (n_v vs 1)) (v_iv (n_v vs 3)) (v_iv (n_v vs 5)) (v_iv (n_v vs 7)) (v_iv (n_v vs 10)) (v_iv (n_v vs 11)) (v_iv (n_v vs 12)) (w_fi ws (n_v vs 0) 6) (w_fi ws (n_v vs 0) 4) (w_fi ws (n_v vs 0) 5) (w_ei ws (w_ar ws (n_v vs 0) 11)) (w_fi ws (n_v vs 0) 14) (w_ei ws (w_ar ws (n_v vs 0) 12)) (w_ei ws (w_ar ws (n_v vs 0) 13)) k1 k3 k5 k7 k10 k11 k12 (shm_40 f0) g1 (shm_40 f2) (shm_469 f3) (shm_467 f4) (shm_1223 f5) (shm_573 f6) (shm_466 f7) (shm_458 f8) (shm_455 f9) (shm_456 f10) (shm_457 f11) (shm_459 f12) (shm_460 f13) hK_0_11 hK_0_12 hK_0_13 kz_0_4 kz_0_5 kz_0_6 kz_0_14)⟩
  have nf1 : fc_1 PRD (20, [3, 0], [30, 0, 1, 0, 0, -1, 1, 14]) ws (vs) := ⟨nf_in hl rfl, sgq_461 (vc_Ro_goBack_1_1 (v_iv (n_v vs 1)) (v_iv (n_v vs 3)) (v_iv (n_v vs 5)) (v_iv (n_v vs 7)) (v_iv (n_v vs 10)) (v_iv (n_v vs 11)) (v_iv (n_v vs 12)) (w_fi ws (n_v vs 0) 6) (w_fi ws (n_v vs 0) 4) (w_fi ws (n_v vs 0) 5) (w_ei ws (w_ar ws (n_v vs 0) 11)) (w_fi ws (n_v vs 0) 14) (w_ei ws (w_ar ws (n_v vs 0) 12)) (w_ei ws (w_ar ws (n_v vs 0) 13)) k1 k3 k5 k7 k10 k11 k12 (shm_40 f0) g1 (shm_40 f2) (shm_469 f3) (shm_467 f4) (shm_1223 f5) (shm_573 f6) (shm_466 f7) (shm_458 f8) (shm_455 f9) (shm_456 f10) (shm_457 f11) (shm_459 f12) (shm_460 f13) hK_0_11 hK_0_12 hK_0_13 kz_0_4 kz_0_5 kz_0_6 kz_0_14)⟩
  have nf2 : fc_1 PRD (24, [0, 0], []) ws (vs) := by
    refine ⟨nf_in hl rfl, sgq_1 ?_⟩
    · show n_v vs 0 = n_v vs 0
      first | rfl | simp only [true_and]
  refine ⟨(fun _ h => (by cases h)), [], trivial, ?_, (fun _ h => (by cases h))⟩
  rw [List.append_nil]
  exact List.forall_mem_cons.mpr ⟨⟨show (20 : Nat) < 100 from by decide, nf0⟩, List.forall_mem_cons.mpr ⟨⟨show (20 : Nat) < 100 from by decide, nf1⟩, List.forall_mem_cons.mpr ⟨⟨show (24 : Nat) < 100 from by decide, nf2⟩, (fun _ h => (by cases h))⟩⟩⟩
set_option maxHeartbeats 4000000 in
theorem vc_Ro_goBack_2_0 (x1 : Int) (x3 : Int) (x5 : Int) (x7 : Int) (x10 : Int) (x11 : Int) (x12 : Int) (start_0 : Int) (width_0 : Int) (height_0 : Int) (list_0 : Int → Int) (entries_0 : Int) (entryState_0 : Int → Int) (entryNext_0 : Int → Int) (k1 : 0 ≤ x1 ∧ x1 ≤ 23999) (k3 : 0 ≤ x3 ∧ x3 ≤ 48004) (k5 : 0 ≤ x5 ∧ x5 ≤ 3) (k7 : 0 ≤ x7 ∧ x7 ≤ 5999) (k10 : 0 ≤ x10 ∧ x10 ≤ 5999) (k11 : (-1) ≤ x11 ∧ x11 ≤ (-1)) (k12 : 0 ≤ x12 ∧ x12 ≤ 5999) (f0 : x10 ≠ x12) (g1 : x12 = start_0) (f2 : x10 ≠ x11) (f3 : (x10 = (-1)) ∨ ((0 ≤ x10) ∧ ((x10 + 1) ≤ (width_0 * height_0)))) (f4 : (x7 + 1) ≤ (width_0 * height_0)) (f5 : x7 = x1 / 4) (f6 : x5 = x1 % 4) (f7 : (1 ≤ width_0) ∧ ((1 ≤ height_0) ∧ ((width_0 * height_0) ≤ 6000))) (f8 : (x1 + 1) ≤ (4 * (width_0 * height_0))) (f9 : ∀ j0 : Int, 0 ≤ j0 → j0 < 4 → ((list_0 (j0) + 1) ≤ entries_0)) (f10 : ∀ j0 : Int, 0 ≤ j0 → j0 < entries_0 → ((entryState_0 (j0) + 1) ≤ (4 * (width_0 * height_0)))) (f11 : ∀ j0 : Int, 0 ≤ j0 → j0 < entries_0 → ((entryNext_0 (j0) + 1) ≤ entries_0)) (f12 : 1 * entries_0 + ((-1) * x3 + 0) ≤ 0) (f13 : (-1) * entries_0 + (1 * x3 + 0) ≤ 0) (hK_0_11 : ∀ j : Int, 0 ≤ j → j < 4 → (-1) ≤ list_0 j ∧ list_0 j ≤ 48003) (hK_0_12 : ∀ j : Int, 0 ≤ j → j < 48004 → 0 ≤ entryState_0 j ∧ entryState_0 j ≤ 23999) (hK_0_13 : ∀ j : Int, 0 ≤ j → j < 48004 → (-1) ≤ entryNext_0 j ∧ entryNext_0 j ≤ 48003) (kz_0_4 : (-2147483648) ≤ width_0 ∧ width_0 ≤ 2147483647) (kz_0_5 : (-2147483648) ≤ height_0 ∧ height_0 ≤ 2147483647) (kz_0_6 : 0 ≤ start_0 ∧ start_0 ≤ 5999) (kz_0_14 : 0 ≤ entries_0 ∧ entries_0 ≤ 48004) : 1 * x3 + ((-1) * entries_0 + 0) ≤ 0 := by
  first | assumption | (clear f3 f9 f10 f11 hK_0_11 hK_0_12 hK_0_13; omega) | (clear f9 f10 f11 hK_0_11 hK_0_12 hK_0_13; grind) | omega | grind
def o_Ro_goBack_2 : or_T := (56, 15, [(0, (2, 0, 0, [9])), (1, (0, 0, 23999, [])), (3, (0, 0, 48004, [])), (5, (0, 0, 3, [])), (7, (0, 0, 5999, [])), (10, (0, 0, 5999, [])), (11, (0, -1, -1, [])), (12, (0, 0, 5999, []))], [(7, [10, 12], [1]), (9, [12, 0], [6]), (7, [10, 11], [1]), (20, [10, 0], [50, 2, 0, 1004, 1005, 3, 6, 1, 2, 1, 0, 0, -1, 2, 6, 0, 2, 0, 0, 1, 0, 0, 6, 4, 2, 1, 0, 0, 1, 6, 3, 2, 1, 4, 2, 1, 5]), (20, [7, 0], [50, 2, 0, 1004, 1005, 0, 6, 4, 2, 1, 0, 0, 1, 6, 3, 2, 1, 4, 2, 1, 5]), (11, [7, 1], [4]), (12, [5, 1], [4]), (20, [0], [50, 2, 0, 4, 5, 2, 7, 0, 2, 0, 1, 2, 0, 4, 2, 7, 0, 2, 0, 1, 2, 0, 5, 0, 8, 6, 3, 2, 0, 4, 2, 0, 5, 0, 6000]), (20, [1, 0], [50, 2, 0, 1004, 1005, 0, 6, 4, 2, 1, 0, 0, 1, 6, 2, 0, 4, 6, 3, 2, 1, 4, 2, 1, 5]), (20, [0], [50, 1, 1, 14, 11, 5, 2, 0, 4, 0, 9, 4, 5, 3, 0, 11, 7, 0, 0, 1, 2, 0, 14]), (20, [0], [50, 3, 1, 14, 4, 5, 12, 5, 3, 2, 0, 14, 0, 9, 4, 5, 3, 0, 12, 7, 0, 0, 1, 6, 2, 0, 4, 6, 3, 2, 0, 4, 2, 0, 5]), (20, [0], [50, 1, 1, 14, 13, 5, 3, 2, 0, 14, 0, 9, 4, 5, 3, 0, 13, 7, 0, 0, 1, 2, 0, 14]), (20, [0, 3], [30, 0, 1, 1, 14, -1, 0, 0]), (20, [0, 3], [30, 0, -1, 1, 14, 1, 0, 0])], [], [], [(20, [3, 0], [30, 0, 1, 0, 0, -1, 1, 14])], [], [])
set_option maxHeartbeats 8000000 in
theorem oo_Ro_goBack_2 {kA : Nat → ClassId} : or_ok PRD kA GG o_Ro_goBack_2 := by
  refine or_mk fun A ta ws vs hD hth hl => ?_
  intro t0 r0 t1 k1 t3 k3 t5 k5 t7 k7 t10 k10 t11 k11 t12 k12 f0 f1 f2 f3 f4 f5 f6 f7 f8 f9 f10 f11 f12 f13
  replace f1 := shm_111 f1
  have cr_0_11 := fdq_100 hD hth r0
  have cr_0_12 := fdq_101 hD hth r0
  have cr_0_13 := fdq_102 hD hth r0
  have g1 : v_iv (n_v vs 12) = w_fi ws (n_v vs 0) 6 := congrArg v_iv f1
  have hK_0_11 := elq_50 hD hth cr_0_11
  have hK_0_12 := elq_51 hD hth cr_0_12
  have hK_0_13 := elq_52 hD hth cr_0_13
  have kz_0_4 := fdq_103 hD hth r0
  have kz_0_5 := fdq_104 hD hth r0
  have kz_0_6 := fdq_267 hD hth r0
  have kz_0_14 := fdq_105 hD hth r0
  have nf0 : fc_1 PRD (20, [3, 0], [30, 0, 1, 0, 0, -1, 1, 14]) ws (vs) := ⟨nf_in hl rfl, sgq_461 (vc_Ro_goBack_2_0 (v_iv (n_v vs 1)) (v_iv (n_v vs 3)) (v_iv (n_v vs 5)) (v_iv (n_v vs 7)) (v_iv (n_v vs 10)) (v_iv (n_v vs 11)) (v_iv (n_v vs 12)) (w_fi ws (n_v vs 0) 6) (w_fi ws (n_v vs 0) 4) (w_fi ws (n_v vs 0) 5) (w_ei ws (w_ar ws (n_v vs 0) 11)) (w_fi ws (n_v vs 0) 14) (w_ei ws (w_ar ws (n_v vs 0) 12)) (w_ei ws (w_ar ws (n_v vs 0) 13)) k1 k3 k5 k7 k10 k11 k12 (shm_40 f0) g1 (shm_40 f2) (shm_469 f3) (shm_467 f4) (shm_1223 f5) (shm_573 f6) (shm_466 f7) (shm_458 f8) (shm_455 f9) (shm_456 f10) (shm_457 f11) (shm_459 f12) (shm_460 f13) hK_0_11 hK_0_12 hK_0_13 kz_0_4 kz_0_5 kz_0_6 kz_0_14)⟩
  refine ⟨(fun _ h => (by cases h)), [], trivial, ?_, (fun _ h => (by cases h))⟩
  rw [List.append_nil]
  exact List.forall_mem_cons.mpr ⟨⟨show (20 : Nat) < 100 from by decide, nf0⟩, (fun _ h => (by cases h))⟩
def o_Ro_goBack_3 : or_T := (60, 20, [(0, (2, 0, 0, [9])), (1, (0, 0, 23999, [])), (3, (0, 0, 48004, [])), (5, (0, 0, 3, [])), (7, (0, 0, 5999, [])), (10, (0, 0, 5999, [])), (11, (0, -1, -1, [])), (12, (0, 0, 5999, []))], [(20, [10, 0], [50, 2, 0, 1004, 1005, 3, 6, 1, 2, 1, 0, 0, -1, 2, 6, 0, 2, 0, 0, 1, 0, 0, 6, 4, 2, 1, 0, 0, 1, 6, 3, 2, 1, 4, 2, 1, 5]), (20, [7, 0], [50, 2, 0, 1004, 1005, 0, 6, 4, 2, 1, 0, 0, 1, 6, 3, 2, 1, 4, 2, 1, 5]), (20, [0], [50, 2, 0, 4, 5, 2, 7, 0, 2, 0, 1, 2, 0, 4, 2, 7, 0, 2, 0, 1, 2, 0, 5, 0, 8, 6, 3, 2, 0, 4, 2, 0, 5, 0, 6000]), (20, [1, 0], [50, 2, 0, 1004, 1005, 0, 6, 4, 2, 1, 0, 0, 1, 6, 2, 0, 4, 6, 3, 2, 1, 4, 2, 1, 5]), (20, [0], [50, 1, 1, 14, 11, 5, 2, 0, 4, 0, 9, 4, 5, 3, 0, 11, 7, 0, 0, 1, 2, 0, 14]), (20, [0], [50, 3, 1, 14, 4, 5, 12, 5, 3, 2, 0, 14, 0, 9, 4, 5, 3, 0, 12, 7, 0, 0, 1, 6, 2, 0, 4, 6, 3, 2, 0, 4, 2, 0, 5]), (20, [0], [50, 1, 1, 14, 13, 5, 3, 2, 0, 14, 0, 9, 4, 5, 3, 0, 13, 7, 0, 0, 1, 2, 0, 14]), (20, [0, 3], [30, 0, 1, 1, 14, -1, 0, 0]), (20, [0, 3], [30, 0, -1, 1, 14, 1, 0, 0]), (101, [0, 16], [8]), (7, [10, 12], [0]), (9, [12, 0], [6]), (7, [10, 11], [1]), (20, [10, 0], [50, 2, 0, 1004, 1005, 3, 6, 1, 2, 1, 0, 0, -1, 2, 6, 0, 2, 0, 0, 1, 0, 0, 6, 4, 2, 1, 0, 0, 1, 6, 3, 2, 1, 4, 2, 1, 5]), (20, [7, 0], [50, 2, 0, 1004, 1005, 0, 6, 4, 2, 1, 0, 0, 1, 6, 3, 2, 1, 4, 2, 1, 5]), (11, [7, 1], [4]), (12, [5, 1], [4]), (20, [0], [50, 2, 0, 4, 5, 2, 7, 0, 2, 0, 1, 2, 0, 4, 2, 7, 0, 2, 0, 1, 2, 0, 5, 0, 8, 6, 3, 2, 0, 4, 2, 0, 5, 0, 6000]), (20, [1, 0], [50, 2, 0, 1004, 1005, 0, 6, 4, 2, 1, 0, 0, 1, 6, 2, 0, 4, 6, 3, 2, 1, 4, 2, 1, 5]), (20, [0], [50, 1, 1, 14, 11, 5, 2, 0, 4, 0, 9, 4, 5, 3, 0, 11, 7, 0, 0, 1, 2, 0, 14]), (20, [0], [50, 3, 1, 14, 4, 5, 12, 5, 3, 2, 0, 14, 0, 9, 4, 5, 3, 0, 12, 7, 0, 0, 1, 6, 2, 0, 4, 6, 3, 2, 0, 4, 2, 0, 5]), (20, [0], [50, 1, 1, 14, 13, 5, 3, 2, 0, 14, 0, 9, 4, 5, 3, 0, 13, 7, 0, 0, 1, 2, 0, 14]), (20, [0, 3], [30, 0, 1, 1, 14, -1, 0, 0]), (20, [0, 3], [30, 0, -1, 1, 14, 1, 0, 0])], [], [], [(20, [10, 0], [50, 2, 0, 1004, 1005, 0, 6, 4, 2, 1, 0, 0, 1, 6, 3, 2, 1, 4, 2, 1, 5]), (20, [3, 0], [30, 0, 1, 0, 0, -1, 1, 14]), (24, [0, 0], [])], [], [(10, 12, 0, 0)])
set_option maxHeartbeats 8000000 in
theorem oo_Ro_goBack_3 {kA : Nat → ClassId} : or_ok PRD kA GG o_Ro_goBack_3 := by
  refine or_mk fun A ta ws vs hD hth hl => ?_
  intro t0 r0 t1 k1 t3 k3 t5 k5 t7 k7 t10 k10 t11 k11 t12 k12 d0 f0 f1 f2 f3 f4 f5 f6 f7 f8 ta1 w1 le1 s1 f10 f11 f12 f13 f14 f15 f16 f17 f18 f19 f20 f21 f22 f23
  replace f0 := shm_469 f0
  replace f1 := shm_467 f1
  replace f2 := shm_466 f2
  replace f3 := shm_458 f3
  replace f4 := shm_455 f4
  replace f5 := shm_456 f5
  replace f6 := shm_457 f6
  replace f7 := shm_459 f7
  replace f8 := shm_460 f8
  have s1 : (∀ b j, w_el ws b j = w_el w1 b j) ∧ ∀ b j, w_fd ws b j = if b = v_ad (n_v vs 0) ∧ j = 8 then n_v vs 16 else w_fd w1 b j := s1.2
  replace f10 := shm_37 f10
  replace f11 := shm_111 f11
  replace f12 := shm_40 f12
  replace f13 := shm_469 f13
  replace f14 := shm_467 f14
  replace f15 := shm_1223 f15
  replace f16 := shm_573 f16
  replace f17 := shm_466 f17
  replace f18 := shm_458 f18
  replace f19 := shm_455 f19
  replace f20 := shm_456 f20
  replace f21 := shm_457 f21
  replace f22 := shm_459 f22
  replace f23 := shm_460 f23
  have ar_0_11_1 : w_ar w1 (n_v vs 0) 11 = w_ar ws (n_v vs 0) 11 := by show v_ad (w_fd w1 _ _) = v_ad (w_fd ws _ _); rw [s1.2, if_neg (fun e => absurd e.2 (by decide))]
  have cr_0_11 := fdq_100 hD hth r0
  have ar_0_12_1 : w_ar w1 (n_v vs 0) 12 = w_ar ws (n_v vs 0) 12 := by show v_ad (w_fd w1 _ _) = v_ad (w_fd ws _ _); rw [s1.2, if_neg (fun e => absurd e.2 (by decide))]
  have cr_0_12 := fdq_101 hD hth r0
  have ar_0_13_1 : w_ar w1 (n_v vs 0) 13 = w_ar ws (n_v vs 0) 13 := by show v_ad (w_fd w1 _ _) = v_ad (w_fd ws _ _); rw [s1.2, if_neg (fun e => absurd e.2 (by decide))]
  have cr_0_13 := fdq_102 hD hth r0
  have g11 : v_iv (n_v vs 12) = w_fi w1 (n_v vs 0) 6 := congrArg v_iv f11
  simp only [ar_0_11_1, ar_0_12_1, ar_0_13_1] at f19 f20 f21
  have fe_0_4_1 : w_fi ws (n_v vs 0) 4 = w_fi w1 (n_v vs 0) 4 := by show v_iv (w_fd _ _ _) = v_iv (w_fd _ _ _); rw [s1.2, if_neg (fun e => absurd e.2 (by decide))]
  have fe_0_5_1 : w_fi ws (n_v vs 0) 5 = w_fi w1 (n_v vs 0) 5 := by show v_iv (w_fd _ _ _) = v_iv (w_fd _ _ _); rw [s1.2, if_neg (fun e => absurd e.2 (by decide))]
  have fe_0_6_1 : w_fi ws (n_v vs 0) 6 = w_fi w1 (n_v vs 0) 6 := by show v_iv (w_fd _ _ _) = v_iv (w_fd _ _ _); rw [s1.2, if_neg (fun e => absurd e.2 (by decide))]
  have fe_0_14_1 : w_fi ws (n_v vs 0) 14 = w_fi w1 (n_v vs 0) 14 := by show v_iv (w_fd _ _ _) = v_iv (w_fd _ _ _); rw [s1.2, if_neg (fun e => absurd e.2 (by decide))]
  have hE_0_11_1 : ∀ j : Int, w_ei ws (w_ar ws (n_v vs 0) 11) j = w_ei w1 (w_ar ws (n_v vs 0) 11) j := fun j => s1.1 _ _
  have hK_0_11 := elq_50 hD hth cr_0_11
  have hE_0_12_1 : ∀ j : Int, w_ei ws (w_ar ws (n_v vs 0) 12) j = w_ei w1 (w_ar ws (n_v vs 0) 12) j := fun j => s1.1 _ _
  have hK_0_12 := elq_51 hD hth cr_0_12
  have hE_0_13_1 : ∀ j : Int, w_ei ws (w_ar ws (n_v vs 0) 13) j = w_ei w1 (w_ar ws (n_v vs 0) 13) j := fun j => s1.1 _ _
  have hK_0_13 := elq_52 hD hth cr_0_13
  have pe_0_4_5_1 : w_fi ws (n_v vs 0) 4 * w_fi ws (n_v vs 0) 5 = w_fi w1 (n_v vs 0) 4 * w_fi w1 (n_v vs 0) 5 := by rw [fe_0_4_1, fe_0_5_1]
  have kz_0_4 := fdq_103 hD hth r0
  have kz_0_5 := fdq_104 hD hth r0
  have kz_0_6 := fdq_267 hD hth r0
  have kz_0_14 := fdq_105 hD hth r0
  have nf0 : fc_1 PRD (20, [10, 0], [50, 2, 0, 1004, 1005, 0, 6, 4, 2, 1, 0, 0, 1, 6, 3, 2, 1, 4, 2, 1, 5]) ws (vs) := by
    refine ⟨nf_in hl rfl, sgq_467 ?_⟩
    · show (v_iv (n_v vs 10) + 1) ≤ (w_fi ws (n_v vs 0) 4 * w_fi ws (n_v vs 0) 5)
      first | (omega) | (set_option maxHeartbeats 200000 in grind)
  have nf1 : fc_1 PRD (20, [3, 0], [30, 0, 1, 0, 0, -1, 1, 14]) ws (vs) := by
    refine ⟨nf_in hl rfl, sgq_461 ?_⟩
    · show 1 * v_iv (n_v vs 3) + ((-1) * w_fi ws (n_v vs 0) 14 + 0) ≤ 0
      omega
  have nf2 : fc_1 PRD (24, [0, 0], []) ws (vs) := by
    refine ⟨nf_in hl rfl, sgq_1 ?_⟩
    · show n_v vs 0 = n_v vs 0
      first | rfl | simp only [true_and]
  refine ⟨(fun _ h => (by cases h)), [], trivial, ?_, (fun _ h => (by cases h))⟩
  rw [List.append_nil]
  exact List.forall_mem_cons.mpr ⟨⟨show (20 : Nat) < 100 from by decide, nf0⟩, List.forall_mem_cons.mpr ⟨⟨show (20 : Nat) < 100 from by decide, nf1⟩, List.forall_mem_cons.mpr ⟨⟨show (24 : Nat) < 100 from by decide, nf2⟩, (fun _ h => (by cases h))⟩⟩⟩
def o_Ro_goBack_4 : or_T := (56, 19, [(0, (2, 0, 0, [9])), (1, (0, 0, 23999, [])), (3, (0, 0, 48004, [])), (5, (0, 0, 3, [])), (7, (0, 0, 5999, [])), (10, (0, 0, 5999, [])), (11, (0, -1, -1, [])), (12, (0, 0, 5999, []))], [(20, [10, 0], [50, 2, 0, 1004, 1005, 3, 6, 1, 2, 1, 0, 0, -1, 2, 6, 0, 2, 0, 0, 1, 0, 0, 6, 4, 2, 1, 0, 0, 1, 6, 3, 2, 1, 4, 2, 1, 5]), (20, [7, 0], [50, 2, 0, 1004, 1005, 0, 6, 4, 2, 1, 0, 0, 1, 6, 3, 2, 1, 4, 2, 1, 5]), (20, [0], [50, 2, 0, 4, 5, 2, 7, 0, 2, 0, 1, 2, 0, 4, 2, 7, 0, 2, 0, 1, 2, 0, 5, 0, 8, 6, 3, 2, 0, 4, 2, 0, 5, 0, 6000]), (20, [1, 0], [50, 2, 0, 1004, 1005, 0, 6, 4, 2, 1, 0, 0, 1, 6, 2, 0, 4, 6, 3, 2, 1, 4, 2, 1, 5]), (20, [0], [50, 1, 1, 14, 11, 5, 2, 0, 4, 0, 9, 4, 5, 3, 0, 11, 7, 0, 0, 1, 2, 0, 14]), (20, [0], [50, 3, 1, 14, 4, 5, 12, 5, 3, 2, 0, 14, 0, 9, 4, 5, 3, 0, 12, 7, 0, 0, 1, 6, 2, 0, 4, 6, 3, 2, 0, 4, 2, 0, 5]), (20, [0], [50, 1, 1, 14, 13, 5, 3, 2, 0, 14, 0, 9, 4, 5, 3, 0, 13, 7, 0, 0, 1, 2, 0, 14]), (20, [0, 3], [30, 0, 1, 1, 14, -1, 0, 0]), (20, [0, 3], [30, 0, -1, 1, 14, 1, 0, 0]), (101, [0, 16], [8]), (7, [10, 12], [0]), (9, [12, 0], [6]), (7, [10, 11], [1]), (20, [10, 0], [50, 2, 0, 1004, 1005, 3, 6, 1, 2, 1, 0, 0, -1, 2, 6, 0, 2, 0, 0, 1, 0, 0, 6, 4, 2, 1, 0, 0, 1, 6, 3, 2, 1, 4, 2, 1, 5]), (20, [7, 0], [50, 2, 0, 1004, 1005, 0, 6, 4, 2, 1, 0, 0, 1, 6, 3, 2, 1, 4, 2, 1, 5]), (11, [7, 1], [4]), (12, [5, 1], [4]), (20, [0], [50, 2, 0, 4, 5, 2, 7, 0, 2, 0, 1, 2, 0, 4, 2, 7, 0, 2, 0, 1, 2, 0, 5, 0, 8, 6, 3, 2, 0, 4, 2, 0, 5, 0, 6000]), (20, [1, 0], [50, 2, 0, 1004, 1005, 0, 6, 4, 2, 1, 0, 0, 1, 6, 2, 0, 4, 6, 3, 2, 1, 4, 2, 1, 5]), (20, [0], [50, 1, 1, 14, 11, 5, 2, 0, 4, 0, 9, 4, 5, 3, 0, 11, 7, 0, 0, 1, 2, 0, 14]), (20, [0], [50, 3, 1, 14, 4, 5, 12, 5, 3, 2, 0, 14, 0, 9, 4, 5, 3, 0, 12, 7, 0, 0, 1, 6, 2, 0, 4, 6, 3, 2, 0, 4, 2, 0, 5]), (20, [0], [50, 1, 1, 14, 13, 5, 3, 2, 0, 14, 0, 9, 4, 5, 3, 0, 13, 7, 0, 0, 1, 2, 0, 14]), (20, [0, 3], [30, 0, 1, 1, 14, -1, 0, 0]), (20, [0, 3], [30, 0, -1, 1, 14, 1, 0, 0])], [], [], [(20, [3, 0], [30, 0, 1, 0, 0, -1, 1, 14])], [], [(10, 12, 0, 0)])
set_option maxHeartbeats 8000000 in
theorem oo_Ro_goBack_4 {kA : Nat → ClassId} : or_ok PRD kA GG o_Ro_goBack_4 := by
  refine or_mk fun A ta ws vs hD hth hl => ?_
  intro t0 r0 t1 k1 t3 k3 t5 k5 t7 k7 t10 k10 t11 k11 t12 k12 d0 f0 f1 f2 f3 f4 f5 f6 f7 f8 ta1 w1 le1 s1 f10 f11 f12 f13 f14 f15 f16 f17 f18 f19 f20 f21 f22 f23
  replace f0 := shm_469 f0
  replace f1 := shm_467 f1
  replace f2 := shm_466 f2
  replace f3 := shm_458 f3
  replace f4 := shm_455 f4
  replace f5 := shm_456 f5
  replace f6 := shm_457 f6
  replace f7 := shm_459 f7
  replace f8 := shm_460 f8
  have s1 : (∀ b j, w_el ws b j = w_el w1 b j) ∧ ∀ b j, w_fd ws b j = if b = v_ad (n_v vs 0) ∧ j = 8 then n_v vs 16 else w_fd w1 b j := s1.2
  replace f10 := shm_37 f10
  replace f11 := shm_111 f11
  replace f12 := shm_40 f12
  replace f13 := shm_469 f13
  replace f14 := shm_467 f14
  replace f15 := shm_1223 f15
  replace f16 := shm_573 f16
  replace f17 := shm_466 f17
  replace f18 := shm_458 f18
  replace f19 := shm_455 f19
  replace f20 := shm_456 f20
  replace f21 := shm_457 f21
  replace f22 := shm_459 f22
  replace f23 := shm_460 f23
  have ar_0_11_1 : w_ar w1 (n_v vs 0) 11 = w_ar ws (n_v vs 0) 11 := by show v_ad (w_fd w1 _ _) = v_ad (w_fd ws _ _); rw [s1.2, if_neg (fun e => absurd e.2 (by decide))]
  have cr_0_11 := fdq_100 hD hth r0
  have ar_0_12_1 : w_ar w1 (n_v vs 0) 12 = w_ar ws (n_v vs 0) 12 := by show v_ad (w_fd w1 _ _) = v_ad (w_fd ws _ _); rw [s1.2, if_neg (fun e => absurd e.2 (by decide))]
  have cr_0_12 := fdq_101 hD hth r0
  have ar_0_13_1 : w_ar w1 (n_v vs 0) 13 = w_ar ws (n_v vs 0) 13 := by show v_ad (w_fd w1 _ _) = v_ad (w_fd ws _ _); rw [s1.2, if_neg (fun e => absurd e.2 (by decide))]
  have cr_0_13 := fdq_102 hD hth r0
  have g11 : v_iv (n_v vs 12) = w_fi w1 (n_v vs 0) 6 := congrArg v_iv f11
  simp only [ar_0_11_1, ar_0_12_1, ar_0_13_1] at f19 f20 f21
  have fe_0_4_1 : w_fi ws (n_v vs 0) 4 = w_fi w1 (n_v vs 0) 4 := by show v_iv (w_fd _ _ _) = v_iv (w_fd _ _ _); rw [s1.2, if_neg (fun e => absurd e.2 (by decide))]
  have fe_0_5_1 : w_fi ws (n_v vs 0) 5 = w_fi w1 (n_v vs 0) 5 := by show v_iv (w_fd _ _ _) = v_iv (w_fd _ _ _); rw [s1.2, if_neg (fun e => absurd e.2 (by decide))]
  have fe_0_6_1 : w_fi ws (n_v vs 0) 6 = w_fi w1 (n_v vs 0) 6 := by show v_iv (w_fd _ _ _) = v_iv (w_fd _ _ _); rw [s1.2, if_neg (fun e => absurd e.2 (by decide))]
  have fe_0_14_1 : w_fi ws (n_v vs 0) 14 = w_fi w1 (n_v vs 0) 14 := by show v_iv (w_fd _ _ _) = v_iv (w_fd _ _ _); rw [s1.2, if_neg (fun e => absurd e.2 (by decide))]
  have hE_0_11_1 : ∀ j : Int, w_ei ws (w_ar ws (n_v vs 0) 11) j = w_ei w1 (w_ar ws (n_v vs 0) 11) j := fun j => s1.1 _ _
  have hK_0_11 := elq_50 hD hth cr_0_11
  have hE_0_12_1 : ∀ j : Int, w_ei ws (w_ar ws (n_v vs 0) 12) j = w_ei w1 (w_ar ws (n_v vs 0) 12) j := fun j => s1.1 _ _
  have hK_0_12 := elq_51 hD hth cr_0_12
  have hE_0_13_1 : ∀ j : Int, w_ei ws (w_ar ws (n_v vs 0) 13) j = w_ei w1 (w_ar ws (n_v vs 0) 13) j := fun j => s1.1 _ _
  have hK_0_13 := elq_52 hD hth cr_0_13
  have pe_0_4_5_1 : w_fi ws (n_v vs 0) 4 * w_fi ws (n_v vs 0) 5 = w_fi w1 (n_v vs 0) 4 * w_fi w1 (n_v vs 0) 5 := by rw [fe_0_4_1, fe_0_5_1]
  have kz_0_4 := fdq_103 hD hth r0
  have kz_0_5 := fdq_104 hD hth r0
  have kz_0_6 := fdq_267 hD hth r0
  have kz_0_14 := fdq_105 hD hth r0
  have nf0 : fc_1 PRD (20, [3, 0], [30, 0, 1, 0, 0, -1, 1, 14]) ws (vs) := by
    refine ⟨nf_in hl rfl, sgq_461 ?_⟩
    · show 1 * v_iv (n_v vs 3) + ((-1) * w_fi ws (n_v vs 0) 14 + 0) ≤ 0
      omega
  refine ⟨(fun _ h => (by cases h)), [], trivial, ?_, (fun _ h => (by cases h))⟩
  rw [List.append_nil]
  exact List.forall_mem_cons.mpr ⟨⟨show (20 : Nat) < 100 from by decide, nf0⟩, (fun _ h => (by cases h))⟩
set_option maxHeartbeats 4000000 in
theorem vc_Ro_goBack_5_0 (x1 : Int) (x3 : Int) (x5 : Int) (x7 : Int) (x10 : Int) (x11 : Int) (width_0 : Int) (height_0 : Int) (list_0 : Int → Int) (entries_0 : Int) (entryState_0 : Int → Int) (entryNext_0 : Int → Int) (k1 : 0 ≤ x1 ∧ x1 ≤ 23999) (k3 : 0 ≤ x3 ∧ x3 ≤ 48004) (k5 : 0 ≤ x5 ∧ x5 ≤ 3) (k7 : 0 ≤ x7 ∧ x7 ≤ 5999) (k10 : (-1) ≤ x10 ∧ x10 ≤ (-1)) (k11 : (-1) ≤ x11 ∧ x11 ≤ (-1)) (f0 : x10 = x11) (f1 : (x10 = (-1)) ∨ ((0 ≤ x10) ∧ ((x10 + 1) ≤ (width_0 * height_0)))) (f2 : (x7 + 1) ≤ (width_0 * height_0)) (f3 : x7 = x1 / 4) (f4 : x5 = x1 % 4) (f5 : (1 ≤ width_0) ∧ ((1 ≤ height_0) ∧ ((width_0 * height_0) ≤ 6000))) (f6 : (x1 + 1) ≤ (4 * (width_0 * height_0))) (f7 : ∀ j0 : Int, 0 ≤ j0 → j0 < 4 → ((list_0 (j0) + 1) ≤ entries_0)) (f8 : ∀ j0 : Int, 0 ≤ j0 → j0 < entries_0 → ((entryState_0 (j0) + 1) ≤ (4 * (width_0 * height_0)))) (f9 : ∀ j0 : Int, 0 ≤ j0 → j0 < entries_0 → ((entryNext_0 (j0) + 1) ≤ entries_0)) (f10 : 1 * entries_0 + ((-1) * x3 + 0) ≤ 0) (f11 : (-1) * entries_0 + (1 * x3 + 0) ≤ 0) (hK_0_11 : ∀ j : Int, 0 ≤ j → j < 4 → (-1) ≤ list_0 j ∧ list_0 j ≤ 48003) (hK_0_12 : ∀ j : Int, 0 ≤ j → j < 48004 → 0 ≤ entryState_0 j ∧ entryState_0 j ≤ 23999) (hK_0_13 : ∀ j : Int, 0 ≤ j → j < 48004 → (-1) ≤ entryNext_0 j ∧ entryNext_0 j ≤ 48003) (kz_0_4 : (-2147483648) ≤ width_0 ∧ width_0 ≤ 2147483647) (kz_0_5 : (-2147483648) ≤ height_0 ∧ height_0 ≤ 2147483647) (kz_0_14 : 0 ≤ entries_0 ∧ entries_0 ≤ 48004) : 1 * x3 + ((-1) * entries_0 + 0) ≤ 0 := by
  first | assumption | (clear f1 f7 f8 f9 hK_0_11 hK_0_12 hK_0_13; omega) | (clear f7 f8 f9 hK_0_11 hK_0_12 hK_0_13; grind) | omega | grind
def o_Ro_goBack_5 : or_T := (22, 12, [(0, (2, 0, 0, [9])), (1, (0, 0, 23999, [])), (3, (0, 0, 48004, [])), (5, (0, 0, 3, [])), (7, (0, 0, 5999, [])), (10, (0, -1, -1, [])), (11, (0, -1, -1, []))], [(7, [10, 11], [0]), (20, [10, 0], [50, 2, 0, 1004, 1005, 3, 6, 1, 2, 1, 0, 0, -1, 2, 6, 0, 2, 0, 0, 1, 0, 0, 6, 4, 2, 1, 0, 0, 1, 6, 3, 2, 1, 4, 2, 1, 5]), (20, [7, 0], [50, 2, 0, 1004, 1005, 0, 6, 4, 2, 1, 0, 0, 1, 6, 3, 2, 1, 4, 2, 1, 5]), (11, [7, 1], [4]), (12, [5, 1], [4]), (20, [0], [50, 2, 0, 4, 5, 2, 7, 0, 2, 0, 1, 2, 0, 4, 2, 7, 0, 2, 0, 1, 2, 0, 5, 0, 8, 6, 3, 2, 0, 4, 2, 0, 5, 0, 6000]), (20, [1, 0], [50, 2, 0, 1004, 1005, 0, 6, 4, 2, 1, 0, 0, 1, 6, 2, 0, 4, 6, 3, 2, 1, 4, 2, 1, 5]), (20, [0], [50, 1, 1, 14, 11, 5, 2, 0, 4, 0, 9, 4, 5, 3, 0, 11, 7, 0, 0, 1, 2, 0, 14]), (20, [0], [50, 3, 1, 14, 4, 5, 12, 5, 3, 2, 0, 14, 0, 9, 4, 5, 3, 0, 12, 7, 0, 0, 1, 6, 2, 0, 4, 6, 3, 2, 0, 4, 2, 0, 5]), (20, [0], [50, 1, 1, 14, 13, 5, 3, 2, 0, 14, 0, 9, 4, 5, 3, 0, 13, 7, 0, 0, 1, 2, 0, 14]), (20, [0, 3], [30, 0, 1, 1, 14, -1, 0, 0]), (20, [0, 3], [30, 0, -1, 1, 14, 1, 0, 0])], [], [], [(20, [3, 0], [30, 0, 1, 0, 0, -1, 1, 14])], [], [])
set_option maxHeartbeats 8000000 in
theorem oo_Ro_goBack_5 {kA : Nat → ClassId} : or_ok PRD kA GG o_Ro_goBack_5 := by
  refine or_mk fun A ta ws vs hD hth hl => ?_
  intro t0 r0 t1 k1 t3 k3 t5 k5 t7 k7 t10 k10 t11 k11 f0 f1 f2 f3 f4 f5 f6 f7 f8 f9 f10 f11
  have cr_0_11 := fdq_100 hD hth r0
  have cr_0_12 := fdq_101 hD hth r0
  have cr_0_13 := fdq_102 hD hth r0
  have hK_0_11 := elq_50 hD hth cr_0_11
  have hK_0_12 := elq_51 hD hth cr_0_12
  have hK_0_13 := elq_52 hD hth cr_0_13
  have kz_0_4 := fdq_103 hD hth r0
  have kz_0_5 := fdq_104 hD hth r0
  have kz_0_14 := fdq_105 hD hth r0
  have nf0 : fc_1 PRD (20, [3, 0], [30, 0, 1, 0, 0, -1, 1, 14]) ws (vs) := ⟨nf_in hl rfl, sgq_461 (vc_Ro_goBack_5_0 (v_iv (n_v vs 1)) (v_iv (n_v vs 3)) (v_iv (n_v vs 5)) (v_iv (n_v vs 7)) (v_iv (n_v vs 10)) (v_iv (n_v vs 11)) (w_fi ws (n_v vs 0) 4) (w_fi ws (n_v vs 0) 5) (w_ei ws (w_ar ws (n_v vs 0) 11)) (w_fi ws (n_v vs 0) 14) (w_ei ws (w_ar ws (n_v vs 0) 12)) (w_ei ws (w_ar ws (n_v vs 0) 13)) k1 k3 k5 k7 k10 k11 (shm_37 f0) (shm_469 f1) (shm_467 f2) (shm_1223 f3) (shm_573 f4) (shm_466 f5) (shm_458 f6) (shm_455 f7) (shm_456 f8) (shm_457 f9) (shm_459 f10) (shm_460 f11) hK_0_11 hK_0_12 hK_0_13 kz_0_4 kz_0_5 kz_0_14)⟩
  refine ⟨(fun _ h => (by cases h)), [], trivial, ?_, (fun _ h => (by cases h))⟩
  rw [List.append_nil]
  exact List.forall_mem_cons.mpr ⟨⟨show (20 : Nat) < 100 from by decide, nf0⟩, (fun _ h => (by cases h))⟩
set_option maxHeartbeats 4000000 in
theorem vc_Ro_goBack_6_0 (x3 : Int) (x8 : Int) (list_0 : Int → Int) (entries_0 : Int) (entryState_0 : Int → Int) (width_0 : Int) (height_0 : Int) (entryNext_0 : Int → Int) (k3 : 0 ≤ x3 ∧ x3 ≤ 48004) (k8 : 0 ≤ x8 ∧ x8 ≤ 5999) (f0 : ∀ j0 : Int, 0 ≤ j0 → j0 < 4 → ((list_0 (j0) + 1) ≤ entries_0)) (f1 : ∀ j0 : Int, 0 ≤ j0 → j0 < entries_0 → ((entryState_0 (j0) + 1) ≤ (4 * (width_0 * height_0)))) (f2 : ∀ j0 : Int, 0 ≤ j0 → j0 < entries_0 → ((entryNext_0 (j0) + 1) ≤ entries_0)) (f3 : (x8 + 1) ≤ (width_0 * height_0)) (f4 : 1 * x3 + ((-1) * entries_0 + 0) ≤ 0) (hK_0_11 : ∀ j : Int, 0 ≤ j → j < 4 → (-1) ≤ list_0 j ∧ list_0 j ≤ 48003) (hK_0_12 : ∀ j : Int, 0 ≤ j → j < 48004 → 0 ≤ entryState_0 j ∧ entryState_0 j ≤ 23999) (hK_0_13 : ∀ j : Int, 0 ≤ j → j < 48004 → (-1) ≤ entryNext_0 j ∧ entryNext_0 j ≤ 48003) (kz_0_4 : (-2147483648) ≤ width_0 ∧ width_0 ≤ 2147483647) (kz_0_5 : (-2147483648) ≤ height_0 ∧ height_0 ≤ 2147483647) (kz_0_14 : 0 ≤ entries_0 ∧ entries_0 ≤ 48004) : ∀ j0 : Int, 0 ≤ j0 → j0 < 4 → ((list_0 (j0) + 1) ≤ entries_0) := by
  first | assumption | grind | omega
set_option maxHeartbeats 4000000 in
theorem vc_Ro_goBack_6_1 (x3 : Int) (x8 : Int) (list_0 : Int → Int) (entries_0 : Int) (entryState_0 : Int → Int) (width_0 : Int) (height_0 : Int) (entryNext_0 : Int → Int) (k3 : 0 ≤ x3 ∧ x3 ≤ 48004) (k8 : 0 ≤ x8 ∧ x8 ≤ 5999) (f0 : ∀ j0 : Int, 0 ≤ j0 → j0 < 4 → ((list_0 (j0) + 1) ≤ entries_0)) (f1 : ∀ j0 : Int, 0 ≤ j0 → j0 < entries_0 → ((entryState_0 (j0) + 1) ≤ (4 * (width_0 * height_0)))) (f2 : ∀ j0 : Int, 0 ≤ j0 → j0 < entries_0 → ((entryNext_0 (j0) + 1) ≤ entries_0)) (f3 : (x8 + 1) ≤ (width_0 * height_0)) (f4 : 1 * x3 + ((-1) * entries_0 + 0) ≤ 0) (hK_0_11 : ∀ j : Int, 0 ≤ j → j < 4 → (-1) ≤ list_0 j ∧ list_0 j ≤ 48003) (hK_0_12 : ∀ j : Int, 0 ≤ j → j < 48004 → 0 ≤ entryState_0 j ∧ entryState_0 j ≤ 23999) (hK_0_13 : ∀ j : Int, 0 ≤ j → j < 48004 → (-1) ≤ entryNext_0 j ∧ entryNext_0 j ≤ 48003) (kz_0_4 : (-2147483648) ≤ width_0 ∧ width_0 ≤ 2147483647) (kz_0_5 : (-2147483648) ≤ height_0 ∧ height_0 ≤ 2147483647) (kz_0_14 : 0 ≤ entries_0 ∧ entries_0 ≤ 48004) : ∀ j0 : Int, 0 ≤ j0 → j0 < entries_0 → ((entryState_0 (j0) + 1) ≤ (4 * (width_0 * height_0))) := by
  first | assumption | grind | omega
set_option maxHeartbeats 4000000 in
theorem vc_Ro_goBack_6_2 (x3 : Int) (x8 : Int) (list_0 : Int → Int) (entries_0 : Int) (entryState_0 : Int → Int) (width_0 : Int) (height_0 : Int) (entryNext_0 : Int → Int) (k3 : 0 ≤ x3 ∧ x3 ≤ 48004) (k8 : 0 ≤ x8 ∧ x8 ≤ 5999) (f0 : ∀ j0 : Int, 0 ≤ j0 → j0 < 4 → ((list_0 (j0) + 1) ≤ entries_0)) (f1 : ∀ j0 : Int, 0 ≤ j0 → j0 < entries_0 → ((entryState_0 (j0) + 1) ≤ (4 * (width_0 * height_0)))) (f2 : ∀ j0 : Int, 0 ≤ j0 → j0 < entries_0 → ((entryNext_0 (j0) + 1) ≤ entries_0)) (f3 : (x8 + 1) ≤ (width_0 * height_0)) (f4 : 1 * x3 + ((-1) * entries_0 + 0) ≤ 0) (hK_0_11 : ∀ j : Int, 0 ≤ j → j < 4 → (-1) ≤ list_0 j ∧ list_0 j ≤ 48003) (hK_0_12 : ∀ j : Int, 0 ≤ j → j < 48004 → 0 ≤ entryState_0 j ∧ entryState_0 j ≤ 23999) (hK_0_13 : ∀ j : Int, 0 ≤ j → j < 48004 → (-1) ≤ entryNext_0 j ∧ entryNext_0 j ≤ 48003) (kz_0_4 : (-2147483648) ≤ width_0 ∧ width_0 ≤ 2147483647) (kz_0_5 : (-2147483648) ≤ height_0 ∧ height_0 ≤ 2147483647) (kz_0_14 : 0 ≤ entries_0 ∧ entries_0 ≤ 48004) : ∀ j0 : Int, 0 ≤ j0 → j0 < entries_0 → ((entryNext_0 (j0) + 1) ≤ entries_0) := by
  first | assumption | grind | omega
set_option maxHeartbeats 4000000 in
theorem vc_Ro_goBack_6_3 (x3 : Int) (x8 : Int) (list_0 : Int → Int) (entries_0 : Int) (entryState_0 : Int → Int) (width_0 : Int) (height_0 : Int) (entryNext_0 : Int → Int) (k3 : 0 ≤ x3 ∧ x3 ≤ 48004) (k8 : 0 ≤ x8 ∧ x8 ≤ 5999) (f0 : ∀ j0 : Int, 0 ≤ j0 → j0 < 4 → ((list_0 (j0) + 1) ≤ entries_0)) (f1 : ∀ j0 : Int, 0 ≤ j0 → j0 < entries_0 → ((entryState_0 (j0) + 1) ≤ (4 * (width_0 * height_0)))) (f2 : ∀ j0 : Int, 0 ≤ j0 → j0 < entries_0 → ((entryNext_0 (j0) + 1) ≤ entries_0)) (f3 : (x8 + 1) ≤ (width_0 * height_0)) (f4 : 1 * x3 + ((-1) * entries_0 + 0) ≤ 0) (hK_0_11 : ∀ j : Int, 0 ≤ j → j < 4 → (-1) ≤ list_0 j ∧ list_0 j ≤ 48003) (hK_0_12 : ∀ j : Int, 0 ≤ j → j < 48004 → 0 ≤ entryState_0 j ∧ entryState_0 j ≤ 23999) (hK_0_13 : ∀ j : Int, 0 ≤ j → j < 48004 → (-1) ≤ entryNext_0 j ∧ entryNext_0 j ≤ 48003) (kz_0_4 : (-2147483648) ≤ width_0 ∧ width_0 ≤ 2147483647) (kz_0_5 : (-2147483648) ≤ height_0 ∧ height_0 ≤ 2147483647) (kz_0_14 : 0 ≤ entries_0 ∧ entries_0 ≤ 48004) : 1 * x3 + ((-1) * entries_0 + 0) ≤ 0 := by
  first | assumption | (clear f0 f1 f2 hK_0_11 hK_0_12 hK_0_13; omega) | omega | grind
def o_Ro_goBack_6 : or_T := (104, 11, [(0, (2, 0, 0, [9])), (3, (0, 0, 48004, [])), (8, (0, 0, 5999, []))], [(20, [4], [50, 1, 1, 14, 11, 5, 2, 0, 4, 0, 9, 4, 5, 3, 0, 11, 7, 0, 0, 1, 2, 0, 14]), (20, [4], [50, 3, 1, 14, 4, 5, 12, 5, 3, 2, 0, 14, 0, 9, 4, 5, 3, 0, 12, 7, 0, 0, 1, 6, 2, 0, 4, 6, 3, 2, 0, 4, 2, 0, 5]), (20, [4], [50, 1, 1, 14, 13, 5, 3, 2, 0, 14, 0, 9, 4, 5, 3, 0, 13, 7, 0, 0, 1, 2, 0, 14]), (20, [8, 4], [50, 2, 0, 1004, 1005, 0, 6, 4, 2, 1, 0, 0, 1, 6, 3, 2, 1, 4, 2, 1, 5]), (20, [3, 4], [30, 0, 1, 0, 0, -1, 1, 14]), (24, [0, 4], [])], [], [], [(20, [0], [50, 1, 1, 14, 11, 5, 2, 0, 4, 0, 9, 4, 5, 3, 0, 11, 7, 0, 0, 1, 2, 0, 14]), (20, [0], [50, 3, 1, 14, 4, 5, 12, 5, 3, 2, 0, 14, 0, 9, 4, 5, 3, 0, 12, 7, 0, 0, 1, 6, 2, 0, 4, 6, 3, 2, 0, 4, 2, 0, 5]), (20, [0], [50, 1, 1, 14, 13, 5, 3, 2, 0, 14, 0, 9, 4, 5, 3, 0, 13, 7, 0, 0, 1, 2, 0, 14]), (20, [3, 0], [30, 0, 1, 0, 0, -1, 1, 14])], [], [])
set_option maxHeartbeats 8000000 in
theorem oo_Ro_goBack_6 {kA : Nat → ClassId} : or_ok PRD kA GG o_Ro_goBack_6 := by
  refine or_mk fun A ta ws vs hD hth hl => ?_
  intro t0 r0 t3 k3 t8 k8 f0 f1 f2 f3 f4 f5
  replace f0 := shm_455 f0
  replace f1 := shm_456 f1
  replace f2 := shm_457 f2
  replace f3 := shm_467 f3
  replace f4 := shm_461 f4
  replace f5 := shm_5 f5
  have q4 : n_v vs 4 = n_v vs 0 := f5.symm
  simp only [q4] at f0 f1 f2 f3 f4
  have cr_0_11 := fdq_100 hD hth r0
  have cr_0_12 := fdq_101 hD hth r0
  have cr_0_13 := fdq_102 hD hth r0
  have hK_0_11 := elq_50 hD hth cr_0_11
  have hK_0_12 := elq_51 hD hth cr_0_12
  have hK_0_13 := elq_52 hD hth cr_0_13
  have kz_0_4 := fdq_103 hD hth r0
  have kz_0_5 := fdq_104 hD hth r0
  have kz_0_14 := fdq_105 hD hth r0
  have nf0 : fc_1 PRD (20, [0], [50, 1, 1, 14, 11, 5, 2, 0, 4, 0, 9, 4, 5, 3, 0, 11, 7, 0, 0, 1, 2, 0, 14]) ws (vs) := ⟨nf_in hl rfl, sgq_455 (vc_Ro_goBack_6_0 (v_iv (n_v vs 3)) (v_iv (n_v vs 8)) (w_ei ws (w_ar ws (n_v vs 0) 11)) (w_fi ws (n_v vs 0) 14) (w_ei ws (w_ar ws (n_v vs 0) 12)) (w_fi ws (n_v vs 0) 4) (w_fi ws (n_v vs 0) 5) (w_ei ws (w_ar ws (n_v vs 0) 13)) k3 k8 f0 f1 f2 f3 f4 hK_0_11 hK_0_12 hK_0_13 kz_0_4 kz_0_5 kz_0_14)⟩
  have nf1 : fc_1 PRD (20, [0], [50, 3, 1, 14, 4, 5, 12, 5, 3, 2, 0, 14, 0, 9, 4, 5, 3, 0, 12, 7, 0, 0, 1, 6, 2, 0, 4, 6, 3, 2, 0, 4, 2, 0, 5]) ws (vs) := ⟨nf_in hl rfl, sgq_456 (vc_Ro_goBack_6_1 (v_iv (n_v vs 3)) (v_iv (n_v vs 8)) (w_ei ws (w_ar ws (n_v vs 0) 11)) (w_fi ws (n_v vs 0) 14) (w_ei ws (w_ar ws (n_v vs 0) 12)) (w_fi ws (n_v vs 0) 4) (w_fi ws (n_v vs 0) 5) (w_ei ws (w_ar ws (n_v vs 0) 13)) k3 k8 f0 f1 f2 f3 f4 hK_0_11 hK_0_12 hK_0_13 kz_0_4 kz_0_5 kz_0_14)⟩
  have nf2 : fc_1 PRD (20, [0], [50, 1, 1, 14, 13, 5, 3, 2, 0, 14, 0, 9, 4, 5, 3, 0, 13, 7, 0, 0, 1, 2, 0, 14]) ws (vs) := ⟨nf_in hl rfl, sgq_457 (vc_Ro_goBack_6_2 (v_iv (n_v vs 3)) (v_iv (n_v vs 8)) (w_ei ws (w_ar ws (n_v vs 0) 11)) (w_fi ws (n_v vs 0) 14) (w_ei ws (w_ar ws (n_v vs 0) 12)) (w_fi ws (n_v vs 0) 4) (w_fi ws (n_v vs 0) 5) (w_ei ws (w_ar ws (n_v vs 0) 13)) k3 k8 f0 f1 f2 f3 f4 hK_0_11 hK_0_12 hK_0_13 kz_0_4 kz_0_5 kz_0_14)⟩
  have nf3 : fc_1 PRD (20, [3, 0], [30, 0, 1, 0, 0, -1, 1, 14]) ws (vs) := ⟨nf_in hl rfl, sgq_461 (vc_Ro_goBack_6_3 (v_iv (n_v vs 3)) (v_iv (n_v vs 8)) (w_ei ws (w_ar ws (n_v vs 0) 11)) (w_fi ws (n_v vs 0) 14) (w_ei ws (w_ar ws (n_v vs 0) 12)) (w_fi ws (n_v vs 0) 4) (w_fi ws (n_v vs 0) 5) (w_ei ws (w_ar ws (n_v vs 0) 13)) k3 k8 f0 f1 f2 f3 f4 hK_0_11 hK_0_12 hK_0_13 kz_0_4 kz_0_5 kz_0_14)⟩
  refine ⟨(fun _ h => (by cases h)), [], trivial, ?_, (fun _ h => (by cases h))⟩
  rw [List.append_nil]
  exact List.forall_mem_cons.mpr ⟨⟨show (20 : Nat) < 100 from by decide, nf0⟩, List.forall_mem_cons.mpr ⟨⟨show (20 : Nat) < 100 from by decide, nf1⟩, List.forall_mem_cons.mpr ⟨⟨show (20 : Nat) < 100 from by decide, nf2⟩, List.forall_mem_cons.mpr ⟨⟨show (20 : Nat) < 100 from by decide, nf3⟩, (fun _ h => (by cases h))⟩⟩⟩⟩
set_option maxHeartbeats 4000000 in
theorem vc_Ro_goBack_7_0 (x3 : Int) (x7 : Int) (x8 : Int) (x9 : Int) (x10 : Int) (x12 : Int) (x13 : Int) (x14 : Int) (x15 : Int) (list_0 : Int → Int) (entries_0 : Int) (entryState_0 : Int → Int) (width_0 : Int) (height_0 : Int) (entryNext_0 : Int → Int) (gx : Int) (k3 : 0 ≤ x3 ∧ x3 ≤ 48004) (k7 : 0 ≤ x7 ∧ x7 ≤ 3) (k8 : 0 ≤ x8 ∧ x8 ≤ 5999) (k9 : 0 ≤ x9 ∧ x9 ≤ 3) (k10 : 4 ≤ x10 ∧ x10 ≤ 4) (k12 : 0 ≤ x12 ∧ x12 ≤ 3) (k13 : 4 ≤ x13 ∧ x13 ≤ 4) (k14 : 0 ≤ x14 ∧ x14 ≤ 23996) (k15 : 0 ≤ x15 ∧ x15 ≤ 23999) (d0 : x9 + 0 ≤ x15 ∧ x15 ≤ x9 + 23996) (d1 : x14 + 0 ≤ x15 ∧ x15 ≤ x14 + 3) (f0 : x9 ≠ x7) (f1 : x15 = x14 + x9) (f2 : x14 = 4 * x8) (f3 : x9 ≠ x12) (f4 : x9 < x10) (f5 : ∀ j0 : Int, 0 ≤ j0 → j0 < 4 → ((list_0 (j0) + 1) ≤ entries_0)) (f6 : ∀ j0 : Int, 0 ≤ j0 → j0 < entries_0 → ((entryState_0 (j0) + 1) ≤ (4 * (width_0 * height_0)))) (f7 : ∀ j0 : Int, 0 ≤ j0 → j0 < entries_0 → ((entryNext_0 (j0) + 1) ≤ entries_0)) (f8 : (x8 + 1) ≤ (width_0 * height_0)) (f9 : 1 * x3 + ((-1) * entries_0 + 0) ≤ 0) (hK_0_11 : ∀ j : Int, 0 ≤ j → j < 4 → (-1) ≤ list_0 j ∧ list_0 j ≤ 48003) (hK_0_12 : ∀ j : Int, 0 ≤ j → j < 48004 → 0 ≤ entryState_0 j ∧ entryState_0 j ≤ 23999) (hK_0_13 : ∀ j : Int, 0 ≤ j → j < 48004 → (-1) ≤ entryNext_0 j ∧ entryNext_0 j ≤ 48003) (kz_0_4 : (-2147483648) ≤ width_0 ∧ width_0 ≤ 2147483647) (kz_0_5 : (-2147483648) ≤ height_0 ∧ height_0 ≤ 2147483647) (kz_0_14 : 0 ≤ entries_0 ∧ entries_0 ≤ 48004) (ex2 : gx = entries_0) (ex3 : 0 ≤ gx ∧ gx ≤ 48004) : ∀ j0 : Int, 0 ≤ j0 → j0 < 4 → ((list_0 (j0) + 1) ≤ entries_0) := by
  first | assumption | grind | omega
set_option maxHeartbeats 4000000 in
theorem vc_Ro_goBack_7_1 (x3 : Int) (x7 : Int) (x8 : Int) (x9 : Int) (x10 : Int) (x12 : Int) (x13 : Int) (x14 : Int) (x15 : Int) (list_0 : Int → Int) (entries_0 : Int) (entryState_0 : Int → Int) (width_0 : Int) (height_0 : Int) (entryNext_0 : Int → Int) (gx : Int) (k3 : 0 ≤ x3 ∧ x3 ≤ 48004) (k7 : 0 ≤ x7 ∧ x7 ≤ 3) (k8 : 0 ≤ x8 ∧ x8 ≤ 5999) (k9 : 0 ≤ x9 ∧ x9 ≤ 3) (k10 : 4 ≤ x10 ∧ x10 ≤ 4) (k12 : 0 ≤ x12 ∧ x12 ≤ 3) (k13 : 4 ≤ x13 ∧ x13 ≤ 4) (k14 : 0 ≤ x14 ∧ x14 ≤ 23996) (k15 : 0 ≤ x15 ∧ x15 ≤ 23999) (d0 : x9 + 0 ≤ x15 ∧ x15 ≤ x9 + 23996) (d1 : x14 + 0 ≤ x15 ∧ x15 ≤ x14 + 3) (f0 : x9 ≠ x7) (f1 : x15 = x14 + x9) (f2 : x14 = 4 * x8) (f3 : x9 ≠ x12) (f4 : x9 < x10) (f5 : ∀ j0 : Int, 0 ≤ j0 → j0 < 4 → ((list_0 (j0) + 1) ≤ entries_0)) (f6 : ∀ j0 : Int, 0 ≤ j0 → j0 < entries_0 → ((entryState_0 (j0) + 1) ≤ (4 * (width_0 * height_0)))) (f7 : ∀ j0 : Int, 0 ≤ j0 → j0 < entries_0 → ((entryNext_0 (j0) + 1) ≤ entries_0)) (f8 : (x8 + 1) ≤ (width_0 * height_0)) (f9 : 1 * x3 + ((-1) * entries_0 + 0) ≤ 0) (hK_0_11 : ∀ j : Int, 0 ≤ j → j < 4 → (-1) ≤ list_0 j ∧ list_0 j ≤ 48003) (hK_0_12 : ∀ j : Int, 0 ≤ j → j < 48004 → 0 ≤ entryState_0 j ∧ entryState_0 j ≤ 23999) (hK_0_13 : ∀ j : Int, 0 ≤ j → j < 48004 → (-1) ≤ entryNext_0 j ∧ entryNext_0 j ≤ 48003) (kz_0_4 : (-2147483648) ≤ width_0 ∧ width_0 ≤ 2147483647) (kz_0_5 : (-2147483648) ≤ height_0 ∧ height_0 ≤ 2147483647) (kz_0_14 : 0 ≤ entries_0 ∧ entries_0 ≤ 48004) (ex2 : gx = entries_0) (ex3 : 0 ≤ gx ∧ gx ≤ 48004) : ∀ j0 : Int, 0 ≤ j0 → j0 < entries_0 → ((entryState_0 (j0) + 1) ≤ (4 * (width_0 * height_0))) := by
  first | assumption | grind | omega
set_option maxHeartbeats 4000000 in
theorem vc_Ro_goBack_7_2 (x3 : Int) (x7 : Int) (x8 : Int) (x9 : Int) (x10 : Int) (x12 : Int) (x13 : Int) (x14 : Int) (x15 : Int) (list_0 : Int → Int) (entries_0 : Int) (entryState_0 : Int → Int) (width_0 : Int) (height_0 : Int) (entryNext_0 : Int → Int) (gx : Int) (k3 : 0 ≤ x3 ∧ x3 ≤ 48004) (k7 : 0 ≤ x7 ∧ x7 ≤ 3) (k8 : 0 ≤ x8 ∧ x8 ≤ 5999) (k9 : 0 ≤ x9 ∧ x9 ≤ 3) (k10 : 4 ≤ x10 ∧ x10 ≤ 4) (k12 : 0 ≤ x12 ∧ x12 ≤ 3) (k13 : 4 ≤ x13 ∧ x13 ≤ 4) (k14 : 0 ≤ x14 ∧ x14 ≤ 23996) (k15 : 0 ≤ x15 ∧ x15 ≤ 23999) (d0 : x9 + 0 ≤ x15 ∧ x15 ≤ x9 + 23996) (d1 : x14 + 0 ≤ x15 ∧ x15 ≤ x14 + 3) (f0 : x9 ≠ x7) (f1 : x15 = x14 + x9) (f2 : x14 = 4 * x8) (f3 : x9 ≠ x12) (f4 : x9 < x10) (f5 : ∀ j0 : Int, 0 ≤ j0 → j0 < 4 → ((list_0 (j0) + 1) ≤ entries_0)) (f6 : ∀ j0 : Int, 0 ≤ j0 → j0 < entries_0 → ((entryState_0 (j0) + 1) ≤ (4 * (width_0 * height_0)))) (f7 : ∀ j0 : Int, 0 ≤ j0 → j0 < entries_0 → ((entryNext_0 (j0) + 1) ≤ entries_0)) (f8 : (x8 + 1) ≤ (width_0 * height_0)) (f9 : 1 * x3 + ((-1) * entries_0 + 0) ≤ 0) (hK_0_11 : ∀ j : Int, 0 ≤ j → j < 4 → (-1) ≤ list_0 j ∧ list_0 j ≤ 48003) (hK_0_12 : ∀ j : Int, 0 ≤ j → j < 48004 → 0 ≤ entryState_0 j ∧ entryState_0 j ≤ 23999) (hK_0_13 : ∀ j : Int, 0 ≤ j → j < 48004 → (-1) ≤ entryNext_0 j ∧ entryNext_0 j ≤ 48003) (kz_0_4 : (-2147483648) ≤ width_0 ∧ width_0 ≤ 2147483647) (kz_0_5 : (-2147483648) ≤ height_0 ∧ height_0 ≤ 2147483647) (kz_0_14 : 0 ≤ entries_0 ∧ entries_0 ≤ 48004) (ex2 : gx = entries_0) (ex3 : 0 ≤ gx ∧ gx ≤ 48004) : ∀ j0 : Int, 0 ≤ j0 → j0 < entries_0 → ((entryNext_0 (j0) + 1) ≤ entries_0) := by
  first | assumption | grind | omega
set_option maxHeartbeats 4000000 in
theorem vc_Ro_goBack_7_3 (x3 : Int) (x7 : Int) (x8 : Int) (x9 : Int) (x10 : Int) (x12 : Int) (x13 : Int) (x14 : Int) (x15 : Int) (list_0 : Int → Int) (entries_0 : Int) (entryState_0 : Int → Int) (width_0 : Int) (height_0 : Int) (entryNext_0 : Int → Int) (gx : Int) (k3 : 0 ≤ x3 ∧ x3 ≤ 48004) (k7 : 0 ≤ x7 ∧ x7 ≤ 3) (k8 : 0 ≤ x8 ∧ x8 ≤ 5999) (k9 : 0 ≤ x9 ∧ x9 ≤ 3) (k10 : 4 ≤ x10 ∧ x10 ≤ 4) (k12 : 0 ≤ x12 ∧ x12 ≤ 3) (k13 : 4 ≤ x13 ∧ x13 ≤ 4) (k14 : 0 ≤ x14 ∧ x14 ≤ 23996) (k15 : 0 ≤ x15 ∧ x15 ≤ 23999) (d0 : x9 + 0 ≤ x15 ∧ x15 ≤ x9 + 23996) (d1 : x14 + 0 ≤ x15 ∧ x15 ≤ x14 + 3) (f0 : x9 ≠ x7) (f1 : x15 = x14 + x9) (f2 : x14 = 4 * x8) (f3 : x9 ≠ x12) (f4 : x9 < x10) (f5 : ∀ j0 : Int, 0 ≤ j0 → j0 < 4 → ((list_0 (j0) + 1) ≤ entries_0)) (f6 : ∀ j0 : Int, 0 ≤ j0 → j0 < entries_0 → ((entryState_0 (j0) + 1) ≤ (4 * (width_0 * height_0)))) (f7 : ∀ j0 : Int, 0 ≤ j0 → j0 < entries_0 → ((entryNext_0 (j0) + 1) ≤ entries_0)) (f8 : (x8 + 1) ≤ (width_0 * height_0)) (f9 : 1 * x3 + ((-1) * entries_0 + 0) ≤ 0) (hK_0_11 : ∀ j : Int, 0 ≤ j → j < 4 → (-1) ≤ list_0 j ∧ list_0 j ≤ 48003) (hK_0_12 : ∀ j : Int, 0 ≤ j → j < 48004 → 0 ≤ entryState_0 j ∧ entryState_0 j ≤ 23999) (hK_0_13 : ∀ j : Int, 0 ≤ j → j < 48004 → (-1) ≤ entryNext_0 j ∧ entryNext_0 j ≤ 48003) (kz_0_4 : (-2147483648) ≤ width_0 ∧ width_0 ≤ 2147483647) (kz_0_5 : (-2147483648) ≤ height_0 ∧ height_0 ≤ 2147483647) (kz_0_14 : 0 ≤ entries_0 ∧ entries_0 ≤ 48004) (ex2 : gx = entries_0) (ex3 : 0 ≤ gx ∧ gx ≤ 48004) : (x15 + 1) ≤ (4 * (width_0 * height_0)) := by
  first | assumption | (clear f5 f6 f7 hK_0_11 hK_0_12 hK_0_13; omega) | omega | grind
set_option maxHeartbeats 4000000 in
theorem vc_Ro_goBack_7_4 (x3 : Int) (x7 : Int) (x8 : Int) (x9 : Int) (x10 : Int) (x12 : Int) (x13 : Int) (x14 : Int) (x15 : Int) (list_0 : Int → Int) (entries_0 : Int) (entryState_0 : Int → Int) (width_0 : Int) (height_0 : Int) (entryNext_0 : Int → Int) (gx : Int) (k3 : 0 ≤ x3 ∧ x3 ≤ 48004) (k7 : 0 ≤ x7 ∧ x7 ≤ 3) (k8 : 0 ≤ x8 ∧ x8 ≤ 5999) (k9 : 0 ≤ x9 ∧ x9 ≤ 3) (k10 : 4 ≤ x10 ∧ x10 ≤ 4) (k12 : 0 ≤ x12 ∧ x12 ≤ 3) (k13 : 4 ≤ x13 ∧ x13 ≤ 4) (k14 : 0 ≤ x14 ∧ x14 ≤ 23996) (k15 : 0 ≤ x15 ∧ x15 ≤ 23999) (d0 : x9 + 0 ≤ x15 ∧ x15 ≤ x9 + 23996) (d1 : x14 + 0 ≤ x15 ∧ x15 ≤ x14 + 3) (f0 : x9 ≠ x7) (f1 : x15 = x14 + x9) (f2 : x14 = 4 * x8) (f3 : x9 ≠ x12) (f4 : x9 < x10) (f5 : ∀ j0 : Int, 0 ≤ j0 → j0 < 4 → ((list_0 (j0) + 1) ≤ entries_0)) (f6 : ∀ j0 : Int, 0 ≤ j0 → j0 < entries_0 → ((entryState_0 (j0) + 1) ≤ (4 * (width_0 * height_0)))) (f7 : ∀ j0 : Int, 0 ≤ j0 → j0 < entries_0 → ((entryNext_0 (j0) + 1) ≤ entries_0)) (f8 : (x8 + 1) ≤ (width_0 * height_0)) (f9 : 1 * x3 + ((-1) * entries_0 + 0) ≤ 0) (hK_0_11 : ∀ j : Int, 0 ≤ j → j < 4 → (-1) ≤ list_0 j ∧ list_0 j ≤ 48003) (hK_0_12 : ∀ j : Int, 0 ≤ j → j < 48004 → 0 ≤ entryState_0 j ∧ entryState_0 j ≤ 23999) (hK_0_13 : ∀ j : Int, 0 ≤ j → j < 48004 → (-1) ≤ entryNext_0 j ∧ entryNext_0 j ≤ 48003) (kz_0_4 : (-2147483648) ≤ width_0 ∧ width_0 ≤ 2147483647) (kz_0_5 : (-2147483648) ≤ height_0 ∧ height_0 ≤ 2147483647) (kz_0_14 : 0 ≤ entries_0 ∧ entries_0 ≤ 48004) (ex2 : gx = entries_0) (ex3 : 0 ≤ gx ∧ gx ≤ 48004) : 1 * entries_0 + ((-1) * gx + 0) ≤ 0 := by
  first | assumption | (clear f5 f6 f7 hK_0_11 hK_0_12 hK_0_13; omega) | omega | grind
set_option maxHeartbeats 4000000 in
theorem vc_Ro_goBack_7_5 (x3 : Int) (x7 : Int) (x8 : Int) (x9 : Int) (x10 : Int) (x12 : Int) (x13 : Int) (x14 : Int) (x15 : Int) (list_0 : Int → Int) (entries_0 : Int) (entryState_0 : Int → Int) (width_0 : Int) (height_0 : Int) (entryNext_0 : Int → Int) (gx : Int) (k3 : 0 ≤ x3 ∧ x3 ≤ 48004) (k7 : 0 ≤ x7 ∧ x7 ≤ 3) (k8 : 0 ≤ x8 ∧ x8 ≤ 5999) (k9 : 0 ≤ x9 ∧ x9 ≤ 3) (k10 : 4 ≤ x10 ∧ x10 ≤ 4) (k12 : 0 ≤ x12 ∧ x12 ≤ 3) (k13 : 4 ≤ x13 ∧ x13 ≤ 4) (k14 : 0 ≤ x14 ∧ x14 ≤ 23996) (k15 : 0 ≤ x15 ∧ x15 ≤ 23999) (d0 : x9 + 0 ≤ x15 ∧ x15 ≤ x9 + 23996) (d1 : x14 + 0 ≤ x15 ∧ x15 ≤ x14 + 3) (f0 : x9 ≠ x7) (f1 : x15 = x14 + x9) (f2 : x14 = 4 * x8) (f3 : x9 ≠ x12) (f4 : x9 < x10) (f5 : ∀ j0 : Int, 0 ≤ j0 → j0 < 4 → ((list_0 (j0) + 1) ≤ entries_0)) (f6 : ∀ j0 : Int, 0 ≤ j0 → j0 < entries_0 → ((entryState_0 (j0) + 1) ≤ (4 * (width_0 * height_0)))) (f7 : ∀ j0 : Int, 0 ≤ j0 → j0 < entries_0 → ((entryNext_0 (j0) + 1) ≤ entries_0)) (f8 : (x8 + 1) ≤ (width_0 * height_0)) (f9 : 1 * x3 + ((-1) * entries_0 + 0) ≤ 0) (hK_0_11 : ∀ j : Int, 0 ≤ j → j < 4 → (-1) ≤ list_0 j ∧ list_0 j ≤ 48003) (hK_0_12 : ∀ j : Int, 0 ≤ j → j < 48004 → 0 ≤ entryState_0 j ∧ entryState_0 j ≤ 23999) (hK_0_13 : ∀ j : Int, 0 ≤ j → j < 48004 → (-1) ≤ entryNext_0 j ∧ entryNext_0 j ≤ 48003) (kz_0_4 : (-2147483648) ≤ width_0 ∧ width_0 ≤ 2147483647) (kz_0_5 : (-2147483648) ≤ height_0 ∧ height_0 ≤ 2147483647) (kz_0_14 : 0 ≤ entries_0 ∧ entries_0 ≤ 48004) (ex2 : gx = entries_0) (ex3 : 0 ≤ gx ∧ gx ≤ 48004) : (-1) * entries_0 + (1 * gx + 0) ≤ 0 := by
  first | assumption | (clear f5 f6 f7 hK_0_11 hK_0_12 hK_0_13; omega) | omega | grind
set_option maxHeartbeats 4000000 in
theorem vc_Ro_goBack_7_6 (x3 : Int) (x7 : Int) (x8 : Int) (x9 : Int) (x10 : Int) (x12 : Int) (x13 : Int) (x14 : Int) (x15 : Int) (list_0 : Int → Int) (entries_0 : Int) (entryState_0 : Int → Int) (width_0 : Int) (height_0 : Int) (entryNext_0 : Int → Int) (gx : Int) (k3 : 0 ≤ x3 ∧ x3 ≤ 48004) (k7 : 0 ≤ x7 ∧ x7 ≤ 3) (k8 : 0 ≤ x8 ∧ x8 ≤ 5999) (k9 : 0 ≤ x9 ∧ x9 ≤ 3) (k10 : 4 ≤ x10 ∧ x10 ≤ 4) (k12 : 0 ≤ x12 ∧ x12 ≤ 3) (k13 : 4 ≤ x13 ∧ x13 ≤ 4) (k14 : 0 ≤ x14 ∧ x14 ≤ 23996) (k15 : 0 ≤ x15 ∧ x15 ≤ 23999) (d0 : x9 + 0 ≤ x15 ∧ x15 ≤ x9 + 23996) (d1 : x14 + 0 ≤ x15 ∧ x15 ≤ x14 + 3) (f0 : x9 ≠ x7) (f1 : x15 = x14 + x9) (f2 : x14 = 4 * x8) (f3 : x9 ≠ x12) (f4 : x9 < x10) (f5 : ∀ j0 : Int, 0 ≤ j0 → j0 < 4 → ((list_0 (j0) + 1) ≤ entries_0)) (f6 : ∀ j0 : Int, 0 ≤ j0 → j0 < entries_0 → ((entryState_0 (j0) + 1) ≤ (4 * (width_0 * height_0)))) (f7 : ∀ j0 : Int, 0 ≤ j0 → j0 < entries_0 → ((entryNext_0 (j0) + 1) ≤ entries_0)) (f8 : (x8 + 1) ≤ (width_0 * height_0)) (f9 : 1 * x3 + ((-1) * entries_0 + 0) ≤ 0) (hK_0_11 : ∀ j : Int, 0 ≤ j → j < 4 → (-1) ≤ list_0 j ∧ list_0 j ≤ 48003) (hK_0_12 : ∀ j : Int, 0 ≤ j → j < 48004 → 0 ≤ entryState_0 j ∧ entryState_0 j ≤ 23999) (hK_0_13 : ∀ j : Int, 0 ≤ j → j < 48004 → (-1) ≤ entryNext_0 j ∧ entryNext_0 j ≤ 48003) (kz_0_4 : (-2147483648) ≤ width_0 ∧ width_0 ≤ 2147483647) (kz_0_5 : (-2147483648) ≤ height_0 ∧ height_0 ≤ 2147483647) (kz_0_14 : 0 ≤ entries_0 ∧ entries_0 ≤ 48004) (ex2 : gx = entries_0) (ex3 : 0 ≤ gx ∧ gx ≤ 48004) : 1 * x3 + ((-1) * gx + 0) ≤ 0 := by
  first | assumption | (clear f5 f6 f7 hK_0_11 hK_0_12 hK_0_13; omega) | omega | grind
def o_Ro_goBack_7 : or_T := (95, 18, [(0, (2, 0, 0, [9])), (3, (0, 0, 48004, [])), (4, (2, 0, 0, [9])), (7, (0, 0, 3, [])), (8, (0, 0, 5999, [])), (9, (0, 0, 3, [])), (10, (0, 4, 4, [])), (12, (0, 0, 3, [])), (13, (0, 4, 4, [])), (14, (0, 0, 23996, [])), (15, (0, 0, 23999, []))], [(7, [9, 7], [1]), (1, [15, 14, 9], []), (3, [14, 13, 8], []), (7, [9, 12], [1]), (7, [9, 10], [2]), (20, [4], [50, 1, 1, 14, 11, 5, 2, 0, 4, 0, 9, 4, 5, 3, 0, 11, 7, 0, 0, 1, 2, 0, 14]), (20, [4], [50, 3, 1, 14, 4, 5, 12, 5, 3, 2, 0, 14, 0, 9, 4, 5, 3, 0, 12, 7, 0, 0, 1, 6, 2, 0, 4, 6, 3, 2, 0, 4, 2, 0, 5]), (20, [4], [50, 1, 1, 14, 13, 5, 3, 2, 0, 14, 0, 9, 4, 5, 3, 0, 13, 7, 0, 0, 1, 2, 0, 14]), (20, [8, 4], [50, 2, 0, 1004, 1005, 0, 6, 4, 2, 1, 0, 0, 1, 6, 3, 2, 1, 4, 2, 1, 5]), (20, [3, 4], [30, 0, 1, 0, 0, -1, 1, 14]), (24, [0, 4], [])], [], [(0, 0, 48004, [])], [(20, [4], [50, 1, 1, 14, 11, 5, 2, 0, 4, 0, 9, 4, 5, 3, 0, 11, 7, 0, 0, 1, 2, 0, 14]), (20, [4], [50, 3, 1, 14, 4, 5, 12, 5, 3, 2, 0, 14, 0, 9, 4, 5, 3, 0, 12, 7, 0, 0, 1, 6, 2, 0, 4, 6, 3, 2, 0, 4, 2, 0, 5]), (20, [4], [50, 1, 1, 14, 13, 5, 3, 2, 0, 14, 0, 9, 4, 5, 3, 0, 13, 7, 0, 0, 1, 2, 0, 14]), (20, [15, 4], [50, 2, 0, 1004, 1005, 0, 6, 4, 2, 1, 0, 0, 1, 6, 2, 0, 4, 6, 3, 2, 1, 4, 2, 1, 5]), (20, [4, 18], [30, 0, 1, 1, 14, -1, 0, 0]), (20, [4, 18], [30, 0, -1, 1, 14, 1, 0, 0]), (23, [3, 18], [0, 1, -1])], [], [(15, 9, 0, 23996), (15, 14, 0, 3)])
