def o_Mo_weighed_8 : or_T := (29, 22, [(0, (2, 0, 0, [165])), (1, (0, 2, 6, [])), (2, (0, 0, 719, [])), (4, (0, 2, 6, [])), (5, (0, 0, 719, [])), (6, (0, 0, 9814, [])), (7, (0, 0, 604800, [])), (8, (0, 0, 4, [])), (9, (0, 1, 5, [])), (11, (0, 6, 6, [])), (13, (0, 0, 5999, [])), (14, (0, 0, 5, [])), (15, (0, 0, 30, [])), (16, (0, 1, 5999, [])), (17, (0, 0, 5, [])), (18, (0, 0, 35, [])), (19, (0, 0, 14400, [])), (20, (0, 0, 604800, [])), (21, (0, 2, 6, []))], [(6, [21, 9], [1]), (1, [20, 7, 19], []), (10, [19, 10, 18], []), (1, [18, 15, 17], []), (10, [17, 12, 16], []), (1, [16, 6, 9], []), (9, [12, 3], [112]), (3, [15, 11, 14], []), (10, [14, 12, 13], []), (1, [13, 6, 8], []), (9, [10, 3], [114]), (7, [9, 4], [2]), (20, [3, 4, 6], [60, 0, 1, 430, 112]), (20, [3, 4, 5, 6], [60, 0, 1, 489, 110]), (20, [4], [50, 0, 0, 2, 6, 0, 2, 0, 0, 1, 0, 0, 2, 1, 0, 0, 6]), (20, [3, 6, 4, 8, 9, 7], [60, 0, 2, 479, 112, 114]), (20, [8, 4], [50, 0, 0, 0, 6, 4, 2, 1, 0, 0, 1, 1, 1]), (20, [8, 9], [50, 0, 0, 0, 6, 4, 2, 1, 0, 0, 1, 1, 1]), (20, [9, 4], [50, 0, 0, 0, 2, 1, 0, 1, 1]), (20, [7, 8, 9], [50, 0, 0, 2, 6, 0, 2, 0, 0, 1, 0, 0, 2, 1, 0, 4, 6, 6, 2, 0, 86400, 1, 1, 6, 2, 0, 14400, 1, 2]), (24, [0, 3], []), (24, [1, 4], []), (24, [2, 5], [])], [], [], [(20, [3, 6, 4, 8, 21, 20], [60, 0, 2, 479, 112, 114]), (20, [8, 21], [50, 0, 0, 0, 6, 4, 2, 1, 0, 0, 1, 1, 1]), (20, [21, 4], [50, 0, 0, 0, 2, 1, 0, 1, 1]), (20, [20, 8, 21], [50, 0, 0, 2, 6, 0, 2, 0, 0, 1, 0, 0, 2, 1, 0, 4, 6, 6, 2, 0, 86400, 1, 1, 6, 2, 0, 14400, 1, 2])], [], [(21, 9, 1, 1), (21, 4, -4294967296, 0), (21, 1, -4294967296, 1), (21, 4, -4294967296, 1), (20, 19, 0, 604800), (20, 7, 0, 14400), (18, 17, 0, 30), (18, 15, 0, 5), (16, 9, 0, 9814), (16, 6, 1, 5), (13, 8, 0, 9814), (13, 6, 0, 4), (9, 4, -4294967296, -1), (1, 4, -4294967296, 0), (2, 5, -4294967296, 0), (4, 1, -4294967296, 0), (5, 2, -4294967296, 0), (8, 1, -4294967296, -1), (8, 4, -4294967296, -1), (8, 9, -4294967296, -1), (9, 1, -4294967296, 0), (9, 4, -4294967296, 0)])
theorem oo_Mo_weighed_8 {kA : Nat → ClassId} : or_ok PRD kA GG o_Mo_weighed_8 := by
  refine or_mk fun A ta ws vs hD hth hl => ?_
  intro t0 r0 t1 k1 t2 k2 t4 k4 t5 k5 t6 k6 t7 k7 t8 k8 t9 k9 t11 k11 t13 k13 t14 k14 t15 k15 t16 k16 t17 k17 t18 k18 t19 k19 t20 k20 t21 k21 d0 d1 d2 d3 d4 d5 d6 d7 d8 d9 d10 d11 d12 d13 d14 d15 d16 d17 d18 d19 d20 d21 f0 f1 f2 f3 f4 f5 f6 f7 f8 f9 f10 f11 f12 f13 f14 f15 f16 f17 f18 f19 f20 f21 f22
  replace f0 := shm_4 f0
  replace f1 := shm_12 f1
  replace f2 := shm_106 f2
  replace f3 := shm_12 f3
  replace f4 := shm_106 f4
  replace f5 := shm_12 f5
  replace f6 := shm_715 f6
  replace f7 := shm_38 f7
  rw [show v_iv (n_v vs 11) = 6 from by omega] at f7
  replace f8 := shm_106 f8
  replace f9 := shm_12 f9
  replace f10 := shm_741 f10
  replace f11 := shm_6 f11
  replace f12 := shm_752 f12
  replace f13 := shm_753 f13
  replace f14 := shm_751 f14
  replace f15 := shm_758 f15
  replace f16 := shm_409 f16
  replace f17 := shm_409 f17
  replace f18 := shm_378 f18
  replace f19 := shm_759 f19
  replace f20 := shm_5 f20
  replace f21 := shm_5 f21
  replace f22 := shm_5 f22
  have q3 : n_v vs 3 = n_v vs 0 := f20.symm
  have q4 : n_v vs 4 = n_v vs 1 := f21.symm
  have q5 : n_v vs 5 = n_v vs 2 := f22.symm
  simp only [q3, q4, q5] at f6 f10 f11 f12 f13 f14 f15 f16 f18
  have cr_0_110 := fdq_183 hD hth r0
  have cr_0_112 := fdq_185 hD hth r0
  have cr_0_114 := fdq_191 hD hth r0
  have ad_12 : v_ad (n_v vs 12) = w_ar ws (n_v vs 0) 112 := congrArg v_ad f6
  have ad_10 : v_ad (n_v vs 10) = w_ar ws (n_v vs 0) 114 := congrArg v_ad f10
  simp only [ad_10] at f2
  have h2 : v_iv (n_v vs 19) = w_ei ws (w_ar ws (n_v vs 0) 114) (v_iv (n_v vs 18)) := f2
  simp only [ad_12] at f4
  have h4 : v_iv (n_v vs 17) = w_ei ws (w_ar ws (n_v vs 0) 112) (v_iv (n_v vs 16)) := f4
  simp only [ad_12] at f8
  have h8 : v_iv (n_v vs 14) = w_ei ws (w_ar ws (n_v vs 0) 112) (v_iv (n_v vs 13)) := f8
  have hK_0_110 := elq_107 hD hth cr_0_110
  have hK_0_112 := elq_109 hD hth cr_0_112
  have hK_0_114 := elq_113 hD hth cr_0_114
  have nf0 : fc_1 PRD (20, [3, 6, 4, 8, 21, 20], [60, 0, 2, 479, 112, 114]) ws (vs) := by
    refine ⟨nf_in hl rfl, sgq_758 ?_⟩
    · show WD2 (w_ei ws (w_ar ws (n_v vs 3) 112)) (w_ei ws (w_ar ws (n_v vs 3) 114)) (v_iv (n_v vs 6)) (v_iv (n_v vs 4)) (v_iv (n_v vs 8)) (v_iv (n_v vs 21)) (v_iv (n_v vs 20))
      simp only [q3, q4]
      exact vc_Mo_weighed_8_0 (v_iv (n_v vs 1)) (v_iv (n_v vs 2)) (v_iv (n_v vs 4)) (v_iv (n_v vs 5)) (v_iv (n_v vs 6)) (v_iv (n_v vs 7)) (v_iv (n_v vs 8)) (v_iv (n_v vs 9)) (v_iv (n_v vs 11)) (v_iv (n_v vs 13)) (v_iv (n_v vs 14)) (v_iv (n_v vs 15)) (v_iv (n_v vs 16)) (v_iv (n_v vs 17)) (v_iv (n_v vs 18)) (v_iv (n_v vs 19)) (v_iv (n_v vs 20)) (v_iv (n_v vs 21)) (w_ei ws (w_ar ws (n_v vs 0) 114)) (w_ei ws (w_ar ws (n_v vs 0) 112)) (w_ei ws (w_ar ws (n_v vs 0) 110)) k1 k2 k4 k5 k6 k7 k8 k9 k11 k13 k14 k15 k16 k17 k18 k19 k20 k21 d0 d1 d2 d3 d4 d5 d6 d7 d8 d9 d10 d11 d12 d13 d14 d15 d16 d17 d18 d19 d20 d21 f0 f1 h2 f3 h4 f5 f7 h8 f9 f11 f12 f13 f14 f15 f16 f17 f18 f19 hK_0_110 hK_0_112 hK_0_114
  have nf1 : fc_1 PRD (20, [8, 21], [50, 0, 0, 0, 6, 4, 2, 1, 0, 0, 1, 1, 1]) ws (vs) := ⟨nf_in hl rfl, sgq_409 (vc_Mo_weighed_8_1 (v_iv (n_v vs 1)) (v_iv (n_v vs 2)) (v_iv (n_v vs 4)) (v_iv (n_v vs 5)) (v_iv (n_v vs 6)) (v_iv (n_v vs 7)) (v_iv (n_v vs 8)) (v_iv (n_v vs 9)) (v_iv (n_v vs 11)) (v_iv (n_v vs 13)) (v_iv (n_v vs 14)) (v_iv (n_v vs 15)) (v_iv (n_v vs 16)) (v_iv (n_v vs 17)) (v_iv (n_v vs 18)) (v_iv (n_v vs 19)) (v_iv (n_v vs 20)) (v_iv (n_v vs 21)) (w_ei ws (w_ar ws (n_v vs 0) 114)) (w_ei ws (w_ar ws (n_v vs 0) 112)) (w_ei ws (w_ar ws (n_v vs 0) 110)) k1 k2 k4 k5 k6 k7 k8 k9 k11 k13 k14 k15 k16 k17 k18 k19 k20 k21 d0 d1 d2 d3 d4 d5 d6 d7 d8 d9 d10 d11 d12 d13 d14 d15 d16 d17 d18 d19 d20 d21 f0 f1 h2 f3 h4 f5 f7 h8 f9 f11 f12 f13 f14 f15 f16 f17 f18 f19 hK_0_110 hK_0_112 hK_0_114)⟩
  have nf2 : fc_1 PRD (20, [21, 4], [50, 0, 0, 0, 2, 1, 0, 1, 1]) ws (vs) := by
    refine ⟨nf_in hl rfl, sgq_378 ?_⟩
    · show v_iv (n_v vs 21) ≤ v_iv (n_v vs 4)
      rw [q4]
      exact vc_Mo_weighed_8_2 (v_iv (n_v vs 1)) (v_iv (n_v vs 2)) (v_iv (n_v vs 4)) (v_iv (n_v vs 5)) (v_iv (n_v vs 6)) (v_iv (n_v vs 7)) (v_iv (n_v vs 8)) (v_iv (n_v vs 9)) (v_iv (n_v vs 11)) (v_iv (n_v vs 13)) (v_iv (n_v vs 14)) (v_iv (n_v vs 15)) (v_iv (n_v vs 16)) (v_iv (n_v vs 17)) (v_iv (n_v vs 18)) (v_iv (n_v vs 19)) (v_iv (n_v vs 20)) (v_iv (n_v vs 21)) (w_ei ws (w_ar ws (n_v vs 0) 114)) (w_ei ws (w_ar ws (n_v vs 0) 112)) (w_ei ws (w_ar ws (n_v vs 0) 110)) k1 k2 k4 k5 k6 k7 k8 k9 k11 k13 k14 k15 k16 k17 k18 k19 k20 k21 d0 d1 d2 d3 d4 d5 d6 d7 d8 d9 d10 d11 d12 d13 d14 d15 d16 d17 d18 d19 d20 d21 f0 f1 h2 f3 h4 f5 f7 h8 f9 f11 f12 f13 f14 f15 f16 f17 f18 f19 hK_0_110 hK_0_112 hK_0_114
  have nf3 : fc_1 PRD (20, [20, 8, 21], [50, 0, 0, 2, 6, 0, 2, 0, 0, 1, 0, 0, 2, 1, 0, 4, 6, 6, 2, 0, 86400, 1, 1, 6, 2, 0, 14400, 1, 2]) ws (vs) := ⟨nf_in hl rfl, sgq_759 (vc_Mo_weighed_8_3 (v_iv (n_v vs 1)) (v_iv (n_v vs 2)) (v_iv (n_v vs 4)) (v_iv (n_v vs 5)) (v_iv (n_v vs 6)) (v_iv (n_v vs 7)) (v_iv (n_v vs 8)) (v_iv (n_v vs 9)) (v_iv (n_v vs 11)) (v_iv (n_v vs 13)) (v_iv (n_v vs 14)) (v_iv (n_v vs 15)) (v_iv (n_v vs 16)) (v_iv (n_v vs 17)) (v_iv (n_v vs 18)) (v_iv (n_v vs 19)) (v_iv (n_v vs 20)) (v_iv (n_v vs 21)) (w_ei ws (w_ar ws (n_v vs 0) 114)) (w_ei ws (w_ar ws (n_v vs 0) 112)) (w_ei ws (w_ar ws (n_v vs 0) 110)) k1 k2 k4 k5 k6 k7 k8 k9 k11 k13 k14 k15 k16 k17 k18 k19 k20 k21 d0 d1 d2 d3 d4 d5 d6 d7 d8 d9 d10 d11 d12 d13 d14 d15 d16 d17 d18 d19 d20 d21 f0 f1 h2 f3 h4 f5 f7 h8 f9 f11 f12 f13 f14 f15 f16 f17 f18 f19 hK_0_110 hK_0_112 hK_0_114)⟩
  refine ⟨(fun _ h => (by cases h)), [], trivial, ?_, (fun _ h => (by cases h))⟩
  rw [List.append_nil]
  exact List.forall_mem_cons.mpr ⟨⟨show (20 : Nat) < 100 from by decide, nf0⟩, List.forall_mem_cons.mpr ⟨⟨show (20 : Nat) < 100 from by decide, nf1⟩, List.forall_mem_cons.mpr ⟨⟨show (20 : Nat) < 100 from by decide, nf2⟩, List.forall_mem_cons.mpr ⟨⟨show (20 : Nat) < 100 from by decide, nf3⟩, (fun _ h => (by cases h))⟩⟩⟩⟩
def n_Mo_weighed_an : List an_T := [(17, [(0, (2, 0, 0, [165])), (1, (0, 0, 6, [])), (2, (0, 0, 719, [])), (3, (0, 0, 9814, [])), (4, (0, 0, 1048575, [])), (5, (0, 0, 6, []))], [], (0, 0), [(0, 0, 99983), (1, 8, 6), (0, 0, 100000), (0, 0, 0), (0, 0, 0)], [(1, 4, (Int.negSucc 999999999999), 0), (2, 5, (Int.negSucc 999999999999), 0), (4, 1, (Int.negSucc 999999999999), 0), (5, 2, (Int.negSucc 999999999999), 0), (8, 1, (Int.negSucc 999999999999), 0), (8, 4, (Int.negSucc 999999999999), 0)], [], [(2, 0, 0, [165]), (0, 0, 6, []), (0, 0, 719, [])], 0, [], [(20, [3, 4, 6], [60, 0, 1, 430, 112]), (20, [3, 4, 5, 6], [60, 0, 1, 489, 110]), (20, [4], [50, 0, 0, 2, 6, 0, 2, 0, 0, 1, 0, 0, 2, 1, 0, 0, 6]), (20, [3, 6, 4, 8, 7], [60, 0, 2, 478, 112, 114]), (20, [8, 4], [50, 0, 0, 0, 2, 1, 0, 1, 1]), (20, [7, 8], [50, 0, 0, 2, 6, 0, 2, 0, 0, 1, 0, 0, 2, 1, 0, 6, 2, 0, 86400, 1, 1]), (24, [0, 3], []), (24, [1, 4], []), (24, [2, 5], [])]), (29, [(0, (2, 0, 0, [165])), (1, (0, 1, 6, [])), (2, (0, 0, 719, [])), (3, (0, 0, 9814, [])), (4, (0, 0, 1048575, [])), (5, (0, 0, 5, [])), (6, (0, 1, 6, []))], [], (0, 0), [(0, 0, 99983), (1, 8, 6), (0, 0, 99971), (1, 9, 6), (0, 0, 100000)], [(1, 4, (Int.negSucc 999999999999), 0), (2, 1, (Int.negSucc 999999999999), 718), (2, 5, (Int.negSucc 999999999999), 0), (4, 1, (Int.negSucc 999999999999), 0), (5, 1, (Int.negSucc 999999999999), 718), (5, 2, (Int.negSucc 999999999999), 0), (6, 1, (Int.negSucc 999999999999), 9813), (8, 1, (Int.negSucc 999999999999), (Int.negSucc 0)), (8, 4, (Int.negSucc 999999999999), (Int.negSucc 0)), (8, 9, (Int.negSucc 999999999999), (Int.negSucc 0)), (9, 1, (Int.negSucc 999999999999), 0), (9, 4, (Int.negSucc 999999999999), 0)], [], [(2, 0, 0, [165]), (0, 0, 6, []), (0, 0, 719, [])], 0, [], [(20, [3, 4, 6], [60, 0, 1, 430, 112]), (20, [3, 4, 5, 6], [60, 0, 1, 489, 110]), (20, [4], [50, 0, 0, 2, 6, 0, 2, 0, 0, 1, 0, 0, 2, 1, 0, 0, 6]), (20, [3, 6, 4, 8, 9, 7], [60, 0, 2, 479, 112, 114]), (20, [8, 4], [50, 0, 0, 0, 6, 4, 2, 1, 0, 0, 1, 1, 1]), (20, [8, 9], [50, 0, 0, 0, 6, 4, 2, 1, 0, 0, 1, 1, 1]), (20, [9, 4], [50, 0, 0, 0, 2, 1, 0, 1, 1]), (20, [7, 8, 9], [50, 0, 0, 2, 6, 0, 2, 0, 0, 1, 0, 0, 2, 1, 0, 4, 6, 6, 2, 0, 86400, 1, 1, 6, 2, 0, 14400, 1, 2]), (24, [0, 3], []), (24, [1, 4], []), (24, [2, 5], [])])]
def t_Mo_weighed_ct : ct_L := []
set_option maxRecDepth 100000 in
theorem c_Mo_weighed {l : Launch} {D : va_G} {kA : Nat → ClassId} : ct_ok PRD l D kA GG y_Mo_weighed z_Mo_weighed e_Mo_weighed := chk_all_ok (FT := [(243, 13, 110), (249, 13, 112), (256, 13, 114)]) (PT := []) (CT := t_Mo_weighed_ct) (KT := []) (NT := []) (AN := n_Mo_weighed_an) (OT := [o_Mo_weighed_0, o_Mo_weighed_1, o_Mo_weighed_2, o_Mo_weighed_3, o_Mo_weighed_4, o_Mo_weighed_5, o_Mo_weighed_6, o_Mo_weighed_7, o_Mo_weighed_8]) 5 200 (List.forall_mem_cons.mpr ⟨oo_Mo_weighed_0, List.forall_mem_cons.mpr ⟨oo_Mo_weighed_1, List.forall_mem_cons.mpr ⟨oo_Mo_weighed_2, List.forall_mem_cons.mpr ⟨oo_Mo_weighed_3, List.forall_mem_cons.mpr ⟨oo_Mo_weighed_4, List.forall_mem_cons.mpr ⟨oo_Mo_weighed_5, List.forall_mem_cons.mpr ⟨oo_Mo_weighed_6, List.forall_mem_cons.mpr ⟨oo_Mo_weighed_7, List.forall_mem_cons.mpr ⟨oo_Mo_weighed_8, List.forall_mem_nil _⟩⟩⟩⟩⟩⟩⟩⟩⟩) (by decide +kernel) ⟨List.forall_mem_cons.mpr ⟨gf_Mo_243, List.forall_mem_cons.mpr ⟨gf_Mo_249, List.forall_mem_cons.mpr ⟨gf_Mo_256, List.forall_mem_nil _⟩⟩⟩, List.forall_mem_nil _, List.forall_mem_nil _, List.forall_mem_nil _, List.forall_mem_nil _, GG_pl⟩ (by decide +kernel)
set_option maxHeartbeats 4000000 in
theorem vc_Ho_feed_0_0 (x7 : Int) (x8 : Int) (x9 : Int) (x10 : Int) (x11 : Int) (x12 : Int) (length_0o6 : Int) (k7 : 0 ≤ x7 ∧ x7 ≤ 2000) (k8 : (-1) ≤ x8 ∧ x8 ≤ 2000) (k9 : 0 ≤ x9 ∧ x9 ≤ 1980) (k10 : 20 ≤ x10 ∧ x10 ≤ 20) (k11 : 20 ≤ x11 ∧ x11 ≤ 2000) (k12 : 2000 ≤ x12 ∧ x12 ≤ 2000) (d0 : x9 + 20 ≤ x11 ∧ x11 ≤ x9 + 20) (f0 : x11 ≤ x12) (f1 : x11 = x9 + x10) (g2 : x9 = length_0o6) (f3 : (((length_0o6 + 20) ≤ 2000) ∧ ((x7 = (length_0o6 + 20)) ∧ (x8 = x7))) ∨ ((1981 ≤ length_0o6) ∧ ((x7 = length_0o6) ∧ (x8 = (-1))))) (kz_6_1 : 0 ≤ length_0o6 ∧ length_0o6 ≤ 2000) : x8 = x7 := by
  first | assumption | (clear f3; omega) | omega | grind
def o_Ho_feed_0 : or_T := (18, 13, [(6, (2, 0, 0, [8])), (7, (0, 0, 2000, [])), (8, (0, -1, 2000, [])), (9, (0, 0, 1980, [])), (10, (0, 20, 20, [])), (11, (0, 20, 2000, [])), (12, (0, 2000, 2000, []))], [(7, [11, 12], [5]), (1, [11, 9, 10], []), (9, [9, 6], [1]), (20, [6, 7, 8], [50, 1, 0, 1, 3, 32, 2, 11, 0, 7, 4, 3, 2, 0, 1, 0, 20, 0, 2000, 2, 11, 1, 2, 1, 1, 4, 3, 2, 0, 1, 0, 20, 1, 2, 1, 2, 1, 1, 2, 7, 0, 2, 0, 1981, 2, 0, 1, 2, 7, 1, 2, 1, 1, 2, 0, 1, 1, 2, 1, 2, 0, -1])], [], [], [(20, [8, 7], [50, 0, 0, 1, 2, 1, 0, 1, 1])], [], [(11, 9, 20, 20)])
theorem oo_Ho_feed_0 {kA : Nat → ClassId} : or_ok PRD kA GG o_Ho_feed_0 := by
  refine or_mk fun A ta ws vs hD hth hl => ?_
  intro t6 r6 t7 k7 t8 k8 t9 k9 t10 k10 t11 k11 t12 k12 d0 f0 f1 f2 f3
  replace f2 := shm_127 f2
  have g2 : v_iv (n_v vs 9) = w_fi ws (n_v vs 6) 1 := congrArg v_iv f2
  have kz_6_1 := fdq_11 hD hth r6
  have nf0 : fc_1 PRD (20, [8, 7], [50, 0, 0, 1, 2, 1, 0, 1, 1]) ws (vs) := ⟨nf_in hl rfl, sgq_48 (vc_Ho_feed_0_0 (v_iv (n_v vs 7)) (v_iv (n_v vs 8)) (v_iv (n_v vs 9)) (v_iv (n_v vs 10)) (v_iv (n_v vs 11)) (v_iv (n_v vs 12)) (w_fi ws (n_v vs 6) 1) k7 k8 k9 k10 k11 k12 d0 (shm_24 f0) (shm_12 f1) g2 (shm_760 f3) kz_6_1)⟩
  refine ⟨(fun _ h => (by cases h)), [], trivial, ?_, (fun _ h => (by cases h))⟩
  rw [List.append_nil]
  exact List.forall_mem_cons.mpr ⟨⟨show (20 : Nat) < 100 from by decide, nf0⟩, (fun _ h => (by cases h))⟩
set_option maxHeartbeats 4000000 in
theorem vc_Ho_feed_1_0 (x7 : Int) (x8 : Int) (x9 : Int) (x10 : Int) (x11 : Int) (x12 : Int) (length_0o6 : Int) (gx : Int) (k7 : 0 ≤ x7 ∧ x7 ≤ 2000) (k8 : (-1) ≤ x8 ∧ x8 ≤ 2000) (k9 : 0 ≤ x9 ∧ x9 ≤ 1980) (k10 : 20 ≤ x10 ∧ x10 ≤ 20) (k11 : 20 ≤ x11 ∧ x11 ≤ 2000) (k12 : 2000 ≤ x12 ∧ x12 ≤ 2000) (d0 : x9 + 20 ≤ x11 ∧ x11 ≤ x9 + 20) (f0 : x8 = x7) (f1 : x11 ≤ x12) (f2 : x11 = x9 + x10) (g3 : x9 = length_0o6) (f4 : (((length_0o6 + 20) ≤ 2000) ∧ ((x7 = (length_0o6 + 20)) ∧ (x8 = x7))) ∨ ((1981 ≤ length_0o6) ∧ ((x7 = length_0o6) ∧ (x8 = (-1))))) (kz_6_1 : 0 ≤ length_0o6 ∧ length_0o6 ≤ 2000) (ex2 : gx = length_0o6) (ex3 : 0 ≤ gx ∧ gx ≤ 1996) : 1 * length_0o6 + ((-1) * gx + 0) ≤ 0 := by
  first | assumption | (clear f4; omega) | omega | grind
set_option maxHeartbeats 4000000 in
theorem vc_Ho_feed_1_1 (x7 : Int) (x8 : Int) (x9 : Int) (x10 : Int) (x11 : Int) (x12 : Int) (length_0o6 : Int) (gx : Int) (k7 : 0 ≤ x7 ∧ x7 ≤ 2000) (k8 : (-1) ≤ x8 ∧ x8 ≤ 2000) (k9 : 0 ≤ x9 ∧ x9 ≤ 1980) (k10 : 20 ≤ x10 ∧ x10 ≤ 20) (k11 : 20 ≤ x11 ∧ x11 ≤ 2000) (k12 : 2000 ≤ x12 ∧ x12 ≤ 2000) (d0 : x9 + 20 ≤ x11 ∧ x11 ≤ x9 + 20) (f0 : x8 = x7) (f1 : x11 ≤ x12) (f2 : x11 = x9 + x10) (g3 : x9 = length_0o6) (f4 : (((length_0o6 + 20) ≤ 2000) ∧ ((x7 = (length_0o6 + 20)) ∧ (x8 = x7))) ∨ ((1981 ≤ length_0o6) ∧ ((x7 = length_0o6) ∧ (x8 = (-1))))) (kz_6_1 : 0 ≤ length_0o6 ∧ length_0o6 ≤ 2000) (ex2 : gx = length_0o6) (ex3 : 0 ≤ gx ∧ gx ≤ 1996) : (-1) * length_0o6 + (1 * gx + 0) ≤ 0 := by
  first | assumption | (clear f4; omega) | omega | grind
set_option maxHeartbeats 4000000 in
theorem vc_Ho_feed_1_2 (x7 : Int) (x8 : Int) (x9 : Int) (x10 : Int) (x11 : Int) (x12 : Int) (length_0o6 : Int) (gx : Int) (k7 : 0 ≤ x7 ∧ x7 ≤ 2000) (k8 : (-1) ≤ x8 ∧ x8 ≤ 2000) (k9 : 0 ≤ x9 ∧ x9 ≤ 1980) (k10 : 20 ≤ x10 ∧ x10 ≤ 20) (k11 : 20 ≤ x11 ∧ x11 ≤ 2000) (k12 : 2000 ≤ x12 ∧ x12 ≤ 2000) (d0 : x9 + 20 ≤ x11 ∧ x11 ≤ x9 + 20) (f0 : x8 = x7) (f1 : x11 ≤ x12) (f2 : x11 = x9 + x10) (g3 : x9 = length_0o6) (f4 : (((length_0o6 + 20) ≤ 2000) ∧ ((x7 = (length_0o6 + 20)) ∧ (x8 = x7))) ∨ ((1981 ≤ length_0o6) ∧ ((x7 = length_0o6) ∧ (x8 = (-1))))) (kz_6_1 : 0 ≤ length_0o6 ∧ length_0o6 ≤ 2000) (ex2 : gx = length_0o6) (ex3 : 0 ≤ gx ∧ gx ≤ 1996) : 1 * gx + 0 ≤ 1980 := by
  first | assumption | (clear f4; omega) | omega | grind
set_option maxHeartbeats 4000000 in
theorem vc_Ho_feed_1_3 (x7 : Int) (x8 : Int) (x9 : Int) (x10 : Int) (x11 : Int) (x12 : Int) (length_0o6 : Int) (gx : Int) (k7 : 0 ≤ x7 ∧ x7 ≤ 2000) (k8 : (-1) ≤ x8 ∧ x8 ≤ 2000) (k9 : 0 ≤ x9 ∧ x9 ≤ 1980) (k10 : 20 ≤ x10 ∧ x10 ≤ 20) (k11 : 20 ≤ x11 ∧ x11 ≤ 2000) (k12 : 2000 ≤ x12 ∧ x12 ≤ 2000) (d0 : x9 + 20 ≤ x11 ∧ x11 ≤ x9 + 20) (f0 : x8 = x7) (f1 : x11 ≤ x12) (f2 : x11 = x9 + x10) (g3 : x9 = length_0o6) (f4 : (((length_0o6 + 20) ≤ 2000) ∧ ((x7 = (length_0o6 + 20)) ∧ (x8 = x7))) ∨ ((1981 ≤ length_0o6) ∧ ((x7 = length_0o6) ∧ (x8 = (-1))))) (kz_6_1 : 0 ≤ length_0o6 ∧ length_0o6 ≤ 2000) (ex2 : gx = length_0o6) (ex3 : 0 ≤ gx ∧ gx ≤ 1996) : 1 * gx + ((-1) * x7 + 0) ≤ (-20) := by
  first | assumption | (clear f4; omega) | omega | grind
set_option maxHeartbeats 4000000 in
theorem vc_Ho_feed_1_4 (x7 : Int) (x8 : Int) (x9 : Int) (x10 : Int) (x11 : Int) (x12 : Int) (length_0o6 : Int) (gx : Int) (k7 : 0 ≤ x7 ∧ x7 ≤ 2000) (k8 : (-1) ≤ x8 ∧ x8 ≤ 2000) (k9 : 0 ≤ x9 ∧ x9 ≤ 1980) (k10 : 20 ≤ x10 ∧ x10 ≤ 20) (k11 : 20 ≤ x11 ∧ x11 ≤ 2000) (k12 : 2000 ≤ x12 ∧ x12 ≤ 2000) (d0 : x9 + 20 ≤ x11 ∧ x11 ≤ x9 + 20) (f0 : x8 = x7) (f1 : x11 ≤ x12) (f2 : x11 = x9 + x10) (g3 : x9 = length_0o6) (f4 : (((length_0o6 + 20) ≤ 2000) ∧ ((x7 = (length_0o6 + 20)) ∧ (x8 = x7))) ∨ ((1981 ≤ length_0o6) ∧ ((x7 = length_0o6) ∧ (x8 = (-1))))) (kz_6_1 : 0 ≤ length_0o6 ∧ length_0o6 ≤ 2000) (ex2 : gx = length_0o6) (ex3 : 0 ≤ gx ∧ gx ≤ 1996) : (-1) * gx + (1 * x7 + 0) ≤ 20 := by
  first | assumption | (clear f4; omega) | omega | grind
def o_Ho_feed_1 : or_T := (23, 13, [(6, (2, 0, 0, [8])), (7, (0, 0, 2000, [])), (8, (0, -1, 2000, [])), (9, (0, 0, 1980, [])), (10, (0, 20, 20, [])), (11, (0, 20, 2000, [])), (12, (0, 2000, 2000, []))], [(20, [8, 7], [50, 0, 0, 1, 2, 1, 0, 1, 1]), (7, [11, 12], [5]), (1, [11, 9, 10], []), (9, [9, 6], [1]), (20, [6, 7, 8], [50, 1, 0, 1, 3, 32, 2, 11, 0, 7, 4, 3, 2, 0, 1, 0, 20, 0, 2000, 2, 11, 1, 2, 1, 1, 4, 3, 2, 0, 1, 0, 20, 1, 2, 1, 2, 1, 1, 2, 7, 0, 2, 0, 1981, 2, 0, 1, 2, 7, 1, 2, 1, 1, 2, 0, 1, 1, 2, 1, 2, 0, -1])], [], [(0, 0, 1996, [])], [(20, [6, 13], [30, 0, 1, 1, 1, -1, 0, 0]), (20, [6, 13], [30, 0, -1, 1, 1, 1, 0, 0]), (23, [13], [1980, 1]), (23, [13, 7], [-20, 1, -1]), (23, [13, 7], [20, -1, 1])], [], [(11, 9, 20, 20)])
theorem oo_Ho_feed_1 {kA : Nat → ClassId} : or_ok PRD kA GG o_Ho_feed_1 := by
  refine or_mk fun A ta ws vs hD hth hl => ?_
  intro t6 r6 t7 k7 t8 k8 t9 k9 t10 k10 t11 k11 t12 k12 d0 f0 f1 f2 f3 f4
  replace f0 := shm_48 f0
  replace f1 := shm_24 f1
  replace f2 := shm_12 f2
  replace f3 := shm_127 f3
  replace f4 := shm_760 f4
  have g3 : v_iv (n_v vs 9) = w_fi ws (n_v vs 6) 1 := congrArg v_iv f3
  have kz_6_1 := fdq_11 hD hth r6
  have kv0 := fdq_11 hD hth r6
  obtain ⟨x, ex, hx⟩ := iv_ex (ta := ta) (lo := 0) (hi := 1996) (z := w_fi ws (n_v vs 6) 1) (by omega) (by omega) (by omega) (by omega)
  have ex2 : v_iv (Value.int x) = w_fi ws (n_v vs 6) 1 := ex
  have ex3 : 0 ≤ v_iv (Value.int x) ∧ v_iv (Value.int x) ≤ 1996 := tv_rng hx
  have e_6 : n_v (vs ++ [Value.int x]) 6 = n_v vs 6 := n_v_old (by rw [hl]; decide)
  have e_7 : n_v (vs ++ [Value.int x]) 7 = n_v vs 7 := n_v_old (by rw [hl]; decide)
  have e_13 : n_v (vs ++ [Value.int x]) 13 = Value.int x := n_v_new hl
  have nf0 : fc_1 PRD (20, [6, 13], [30, 0, 1, 1, 1, -1, 0, 0]) ws (vs ++ [Value.int x]) := by
    refine ⟨nf_inA hl rfl, sgq_121 ?_⟩
    · show 1 * w_fi ws (n_v (vs ++ [Value.int x]) 6) 1 + ((-1) * v_iv (n_v (vs ++ [Value.int x]) 13) + 0) ≤ 0
      simp only [e_6, e_13]
      exact vc_Ho_feed_1_0 (v_iv (n_v vs 7)) (v_iv (n_v vs 8)) (v_iv (n_v vs 9)) (v_iv (n_v vs 10)) (v_iv (n_v vs 11)) (v_iv (n_v vs 12)) (w_fi ws (n_v vs 6) 1) (v_iv (Value.int x)) k7 k8 k9 k10 k11 k12 d0 f0 f1 f2 g3 f4 kz_6_1 ex2 ex3
  have nf1 : fc_1 PRD (20, [6, 13], [30, 0, -1, 1, 1, 1, 0, 0]) ws (vs ++ [Value.int x]) := by
    refine ⟨nf_inA hl rfl, sgq_122 ?_⟩
    · show (-1) * w_fi ws (n_v (vs ++ [Value.int x]) 6) 1 + (1 * v_iv (n_v (vs ++ [Value.int x]) 13) + 0) ≤ 0
      simp only [e_6, e_13]
      exact vc_Ho_feed_1_1 (v_iv (n_v vs 7)) (v_iv (n_v vs 8)) (v_iv (n_v vs 9)) (v_iv (n_v vs 10)) (v_iv (n_v vs 11)) (v_iv (n_v vs 12)) (w_fi ws (n_v vs 6) 1) (v_iv (Value.int x)) k7 k8 k9 k10 k11 k12 d0 f0 f1 f2 g3 f4 kz_6_1 ex2 ex3
  have nf2 : fc_1 PRD (23, [13], [1980, 1]) ws (vs ++ [Value.int x]) := by
    refine ⟨nf_inA hl rfl, sgq_761 ?_⟩
    · show 1 * v_iv (n_v (vs ++ [Value.int x]) 13) + 0 ≤ 1980
      rw [e_13]
      exact vc_Ho_feed_1_2 (v_iv (n_v vs 7)) (v_iv (n_v vs 8)) (v_iv (n_v vs 9)) (v_iv (n_v vs 10)) (v_iv (n_v vs 11)) (v_iv (n_v vs 12)) (w_fi ws (n_v vs 6) 1) (v_iv (Value.int x)) k7 k8 k9 k10 k11 k12 d0 f0 f1 f2 g3 f4 kz_6_1 ex2 ex3
  have nf3 : fc_1 PRD (23, [13, 7], [-20, 1, -1]) ws (vs ++ [Value.int x]) := by
    refine ⟨nf_inA hl rfl, sgq_762 ?_⟩
    · show 1 * v_iv (n_v (vs ++ [Value.int x]) 13) + ((-1) * v_iv (n_v (vs ++ [Value.int x]) 7) + 0) ≤ (-20)
      simp only [e_7, e_13]
      exact vc_Ho_feed_1_3 (v_iv (n_v vs 7)) (v_iv (n_v vs 8)) (v_iv (n_v vs 9)) (v_iv (n_v vs 10)) (v_iv (n_v vs 11)) (v_iv (n_v vs 12)) (w_fi ws (n_v vs 6) 1) (v_iv (Value.int x)) k7 k8 k9 k10 k11 k12 d0 f0 f1 f2 g3 f4 kz_6_1 ex2 ex3
  have nf4 : fc_1 PRD (23, [13, 7], [20, -1, 1]) ws (vs ++ [Value.int x]) := by
    refine ⟨nf_inA hl rfl, sgq_763 ?_⟩
    · show (-1) * v_iv (n_v (vs ++ [Value.int x]) 13) + (1 * v_iv (n_v (vs ++ [Value.int x]) 7) + 0) ≤ 20
      simp only [e_7, e_13]
      exact vc_Ho_feed_1_4 (v_iv (n_v vs 7)) (v_iv (n_v vs 8)) (v_iv (n_v vs 9)) (v_iv (n_v vs 10)) (v_iv (n_v vs 11)) (v_iv (n_v vs 12)) (w_fi ws (n_v vs 6) 1) (v_iv (Value.int x)) k7 k8 k9 k10 k11 k12 d0 f0 f1 f2 g3 f4 kz_6_1 ex2 ex3
  exact ⟨(fun _ h => (by cases h)), [Value.int x], ag_one hx, List.forall_mem_cons.mpr ⟨⟨show (20 : Nat) < 100 from by decide, nf0⟩, List.forall_mem_cons.mpr ⟨⟨show (20 : Nat) < 100 from by decide, nf1⟩, List.forall_mem_cons.mpr ⟨⟨show (23 : Nat) < 100 from by decide, nf2⟩, List.forall_mem_cons.mpr ⟨⟨show (23 : Nat) < 100 from by decide, nf3⟩, List.forall_mem_cons.mpr ⟨⟨show (23 : Nat) < 100 from by decide, nf4⟩, (fun _ h => (by cases h))⟩⟩⟩⟩⟩, (fun _ h => (by cases h))⟩
set_option maxHeartbeats 4000000 in
theorem vc_Ho_feed_2_0 (x7 : Int) (x8 : Int) (x13 : Int) (length_0o6 : Int) (gx : Int) (k7 : 0 ≤ x7 ∧ x7 ≤ 2000) (k8 : (-1) ≤ x8 ∧ x8 ≤ 2000) (k13 : 0 ≤ x13 ∧ x13 ≤ 1996) (f0 : 1 * x13 + 0 ≤ 1980) (f1 : 1 * x13 + ((-1) * x7 + 0) ≤ (-20)) (f2 : (-1) * x13 + (1 * x7 + 0) ≤ 20) (f3 : x8 = x7) (f4 : 1 * length_0o6 + ((-1) * x13 + 0) ≤ 4) (f5 : (-1) * length_0o6 + (1 * x13 + 0) ≤ (-4)) (f7 : 1 * x13 + 0 ≤ 1980) (f8 : 1 * x13 + ((-1) * x7 + 0) ≤ (-20)) (f9 : (-1) * x13 + (1 * x7 + 0) ≤ 20) (kz_6_1 : 0 ≤ length_0o6 ∧ length_0o6 ≤ 2000) (ex2 : gx = length_0o6) (ex3 : 0 ≤ gx ∧ gx ≤ 1996) : 1 * length_0o6 + ((-1) * gx + 0) ≤ 0 := by
  first | assumption | omega | grind
set_option maxHeartbeats 4000000 in
theorem vc_Ho_feed_2_1 (x7 : Int) (x8 : Int) (x13 : Int) (length_0o6 : Int) (gx : Int) (k7 : 0 ≤ x7 ∧ x7 ≤ 2000) (k8 : (-1) ≤ x8 ∧ x8 ≤ 2000) (k13 : 0 ≤ x13 ∧ x13 ≤ 1996) (f0 : 1 * x13 + 0 ≤ 1980) (f1 : 1 * x13 + ((-1) * x7 + 0) ≤ (-20)) (f2 : (-1) * x13 + (1 * x7 + 0) ≤ 20) (f3 : x8 = x7) (f4 : 1 * length_0o6 + ((-1) * x13 + 0) ≤ 4) (f5 : (-1) * length_0o6 + (1 * x13 + 0) ≤ (-4)) (f7 : 1 * x13 + 0 ≤ 1980) (f8 : 1 * x13 + ((-1) * x7 + 0) ≤ (-20)) (f9 : (-1) * x13 + (1 * x7 + 0) ≤ 20) (kz_6_1 : 0 ≤ length_0o6 ∧ length_0o6 ≤ 2000) (ex2 : gx = length_0o6) (ex3 : 0 ≤ gx ∧ gx ≤ 1996) : (-1) * length_0o6 + (1 * gx + 0) ≤ 0 := by
  first | assumption | omega | grind
set_option maxHeartbeats 4000000 in
theorem vc_Ho_feed_2_2 (x7 : Int) (x8 : Int) (x13 : Int) (length_0o6 : Int) (gx : Int) (k7 : 0 ≤ x7 ∧ x7 ≤ 2000) (k8 : (-1) ≤ x8 ∧ x8 ≤ 2000) (k13 : 0 ≤ x13 ∧ x13 ≤ 1996) (f0 : 1 * x13 + 0 ≤ 1980) (f1 : 1 * x13 + ((-1) * x7 + 0) ≤ (-20)) (f2 : (-1) * x13 + (1 * x7 + 0) ≤ 20) (f3 : x8 = x7) (f4 : 1 * length_0o6 + ((-1) * x13 + 0) ≤ 4) (f5 : (-1) * length_0o6 + (1 * x13 + 0) ≤ (-4)) (f7 : 1 * x13 + 0 ≤ 1980) (f8 : 1 * x13 + ((-1) * x7 + 0) ≤ (-20)) (f9 : (-1) * x13 + (1 * x7 + 0) ≤ 20) (kz_6_1 : 0 ≤ length_0o6 ∧ length_0o6 ≤ 2000) (ex2 : gx = length_0o6) (ex3 : 0 ≤ gx ∧ gx ≤ 1996) : 1 * gx + 0 ≤ 1984 := by
  first | assumption | omega | grind
set_option maxHeartbeats 4000000 in
theorem vc_Ho_feed_2_3 (x7 : Int) (x8 : Int) (x13 : Int) (length_0o6 : Int) (gx : Int) (k7 : 0 ≤ x7 ∧ x7 ≤ 2000) (k8 : (-1) ≤ x8 ∧ x8 ≤ 2000) (k13 : 0 ≤ x13 ∧ x13 ≤ 1996) (f0 : 1 * x13 + 0 ≤ 1980) (f1 : 1 * x13 + ((-1) * x7 + 0) ≤ (-20)) (f2 : (-1) * x13 + (1 * x7 + 0) ≤ 20) (f3 : x8 = x7) (f4 : 1 * length_0o6 + ((-1) * x13 + 0) ≤ 4) (f5 : (-1) * length_0o6 + (1 * x13 + 0) ≤ (-4)) (f7 : 1 * x13 + 0 ≤ 1980) (f8 : 1 * x13 + ((-1) * x7 + 0) ≤ (-20)) (f9 : (-1) * x13 + (1 * x7 + 0) ≤ 20) (kz_6_1 : 0 ≤ length_0o6 ∧ length_0o6 ≤ 2000) (ex2 : gx = length_0o6) (ex3 : 0 ≤ gx ∧ gx ≤ 1996) : 1 * gx + ((-1) * x7 + 0) ≤ (-16) := by
  first | assumption | omega | grind
set_option maxHeartbeats 4000000 in
theorem vc_Ho_feed_2_4 (x7 : Int) (x8 : Int) (x13 : Int) (length_0o6 : Int) (gx : Int) (k7 : 0 ≤ x7 ∧ x7 ≤ 2000) (k8 : (-1) ≤ x8 ∧ x8 ≤ 2000) (k13 : 0 ≤ x13 ∧ x13 ≤ 1996) (f0 : 1 * x13 + 0 ≤ 1980) (f1 : 1 * x13 + ((-1) * x7 + 0) ≤ (-20)) (f2 : (-1) * x13 + (1 * x7 + 0) ≤ 20) (f3 : x8 = x7) (f4 : 1 * length_0o6 + ((-1) * x13 + 0) ≤ 4) (f5 : (-1) * length_0o6 + (1 * x13 + 0) ≤ (-4)) (f7 : 1 * x13 + 0 ≤ 1980) (f8 : 1 * x13 + ((-1) * x7 + 0) ≤ (-20)) (f9 : (-1) * x13 + (1 * x7 + 0) ≤ 20) (kz_6_1 : 0 ≤ length_0o6 ∧ length_0o6 ≤ 2000) (ex2 : gx = length_0o6) (ex3 : 0 ≤ gx ∧ gx ≤ 1996) : (-1) * gx + (1 * x7 + 0) ≤ 16 := by
  first | assumption | omega | grind
def o_Ho_feed_2 : or_T := (31, 14, [(6, (2, 0, 0, [8])), (7, (0, 0, 2000, [])), (8, (0, -1, 2000, [])), (13, (0, 0, 1996, []))], [(23, [13], [1980, 1]), (23, [13, 7], [-20, 1, -1]), (23, [13, 7], [20, -1, 1]), (20, [8, 7], [50, 0, 0, 1, 2, 1, 0, 1, 1]), (20, [6, 13], [30, 4, 1, 1, 1, -1, 0, 0]), (20, [6, 13], [30, -4, -1, 1, 1, 1, 0, 0]), (102, [13], [649037107316853453566312041152512, 8001]), (23, [13], [1980, 1]), (23, [13, 7], [-20, 1, -1]), (23, [13, 7], [20, -1, 1])], [], [(0, 0, 1996, [])], [(20, [6, 14], [30, 0, 1, 1, 1, -1, 0, 0]), (20, [6, 14], [30, 0, -1, 1, 1, 1, 0, 0]), (23, [14], [1984, 1]), (23, [14, 7], [-16, 1, -1]), (23, [14, 7], [16, -1, 1])], [], [])
theorem oo_Ho_feed_2 {kA : Nat → ClassId} : or_ok PRD kA GG o_Ho_feed_2 := by
  refine or_mk fun A ta ws vs hD hth hl => ?_
  intro t6 r6 t7 k7 t8 k8 t13 k13 f0 f1 f2 f3 f4 f5 ta1 w1 le1 s1 f7 f8 f9
  replace f0 := shm_761 f0
  replace f1 := shm_762 f1
  replace f2 := shm_763 f2
  replace f3 := shm_48 f3
  replace f4 := shm_125 f4
  replace f5 := shm_126 f5
  replace f7 := shm_761 f7
  replace f8 := shm_762 f8
  replace f9 := shm_763 f9
  have kz_6_1 := fdq_11 hD hth r6
  have kv0 := fdq_11 hD hth r6
  obtain ⟨x, ex, hx⟩ := iv_ex (ta := ta) (lo := 0) (hi := 1996) (z := w_fi ws (n_v vs 6) 1) (by omega) (by omega) (by omega) (by omega)
  have ex2 : v_iv (Value.int x) = w_fi ws (n_v vs 6) 1 := ex
  have ex3 : 0 ≤ v_iv (Value.int x) ∧ v_iv (Value.int x) ≤ 1996 := tv_rng hx
  have e_6 : n_v (vs ++ [Value.int x]) 6 = n_v vs 6 := n_v_old (by rw [hl]; decide)
  have e_7 : n_v (vs ++ [Value.int x]) 7 = n_v vs 7 := n_v_old (by rw [hl]; decide)
  have e_14 : n_v (vs ++ [Value.int x]) 14 = Value.int x := n_v_new hl
  have nf0 : fc_1 PRD (20, [6, 14], [30, 0, 1, 1, 1, -1, 0, 0]) ws (vs ++ [Value.int x]) := by
    refine ⟨nf_inA hl rfl, sgq_121 ?_⟩
    · show 1 * w_fi ws (n_v (vs ++ [Value.int x]) 6) 1 + ((-1) * v_iv (n_v (vs ++ [Value.int x]) 14) + 0) ≤ 0
      simp only [e_6, e_14]
      exact vc_Ho_feed_2_0 (v_iv (n_v vs 7)) (v_iv (n_v vs 8)) (v_iv (n_v vs 13)) (w_fi ws (n_v vs 6) 1) (v_iv (Value.int x)) k7 k8 k13 f0 f1 f2 f3 f4 f5 f7 f8 f9 kz_6_1 ex2 ex3
  have nf1 : fc_1 PRD (20, [6, 14], [30, 0, -1, 1, 1, 1, 0, 0]) ws (vs ++ [Value.int x]) := by
    refine ⟨nf_inA hl rfl, sgq_122 ?_⟩
    · show (-1) * w_fi ws (n_v (vs ++ [Value.int x]) 6) 1 + (1 * v_iv (n_v (vs ++ [Value.int x]) 14) + 0) ≤ 0
      simp only [e_6, e_14]
      exact vc_Ho_feed_2_1 (v_iv (n_v vs 7)) (v_iv (n_v vs 8)) (v_iv (n_v vs 13)) (w_fi ws (n_v vs 6) 1) (v_iv (Value.int x)) k7 k8 k13 f0 f1 f2 f3 f4 f5 f7 f8 f9 kz_6_1 ex2 ex3
  have nf2 : fc_1 PRD (23, [14], [1984, 1]) ws (vs ++ [Value.int x]) := by
    refine ⟨nf_inA hl rfl, sgq_764 ?_⟩
    · show 1 * v_iv (n_v (vs ++ [Value.int x]) 14) + 0 ≤ 1984
      rw [e_14]
      exact vc_Ho_feed_2_2 (v_iv (n_v vs 7)) (v_iv (n_v vs 8)) (v_iv (n_v vs 13)) (w_fi ws (n_v vs 6) 1) (v_iv (Value.int x)) k7 k8 k13 f0 f1 f2 f3 f4 f5 f7 f8 f9 kz_6_1 ex2 ex3
  have nf3 : fc_1 PRD (23, [14, 7], [-16, 1, -1]) ws (vs ++ [Value.int x]) := by
    refine ⟨nf_inA hl rfl, sgq_765 ?_⟩
    · show 1 * v_iv (n_v (vs ++ [Value.int x]) 14) + ((-1) * v_iv (n_v (vs ++ [Value.int x]) 7) + 0) ≤ (-16)
      simp only [e_7, e_14]
      exact vc_Ho_feed_2_3 (v_iv (n_v vs 7)) (v_iv (n_v vs 8)) (v_iv (n_v vs 13)) (w_fi ws (n_v vs 6) 1) (v_iv (Value.int x)) k7 k8 k13 f0 f1 f2 f3 f4 f5 f7 f8 f9 kz_6_1 ex2 ex3
  have nf4 : fc_1 PRD (23, [14, 7], [16, -1, 1]) ws (vs ++ [Value.int x]) := by
    refine ⟨nf_inA hl rfl, sgq_766 ?_⟩
    · show (-1) * v_iv (n_v (vs ++ [Value.int x]) 14) + (1 * v_iv (n_v (vs ++ [Value.int x]) 7) + 0) ≤ 16
      simp only [e_7, e_14]
      exact vc_Ho_feed_2_4 (v_iv (n_v vs 7)) (v_iv (n_v vs 8)) (v_iv (n_v vs 13)) (w_fi ws (n_v vs 6) 1) (v_iv (Value.int x)) k7 k8 k13 f0 f1 f2 f3 f4 f5 f7 f8 f9 kz_6_1 ex2 ex3
  exact ⟨(fun _ h => (by cases h)), [Value.int x], ag_one hx, List.forall_mem_cons.mpr ⟨⟨show (20 : Nat) < 100 from by decide, nf0⟩, List.forall_mem_cons.mpr ⟨⟨show (20 : Nat) < 100 from by decide, nf1⟩, List.forall_mem_cons.mpr ⟨⟨show (23 : Nat) < 100 from by decide, nf2⟩, List.forall_mem_cons.mpr ⟨⟨show (23 : Nat) < 100 from by decide, nf3⟩, List.forall_mem_cons.mpr ⟨⟨show (23 : Nat) < 100 from by decide, nf4⟩, (fun _ h => (by cases h))⟩⟩⟩⟩⟩, (fun _ h => (by cases h))⟩
set_option maxHeartbeats 4000000 in
theorem vc_Ho_feed_3_0 (x7 : Int) (x8 : Int) (x13 : Int) (x14 : Int) (length_0o6 : Int) (gx : Int) (k7 : 0 ≤ x7 ∧ x7 ≤ 2000) (k8 : (-1) ≤ x8 ∧ x8 ≤ 2000) (k13 : 0 ≤ x13 ∧ x13 ≤ 1996) (k14 : 0 ≤ x14 ∧ x14 ≤ 1996) (f0 : 1 * x14 + 0 ≤ 1984) (f1 : 1 * x14 + ((-1) * x7 + 0) ≤ (-16)) (f2 : (-1) * x14 + (1 * x7 + 0) ≤ 16) (f3 : 1 * x13 + 0 ≤ 1980) (f4 : 1 * x13 + ((-1) * x7 + 0) ≤ (-20)) (f5 : (-1) * x13 + (1 * x7 + 0) ≤ 20) (f6 : x8 = x7) (f7 : 1 * length_0o6 + ((-1) * x14 + 0) ≤ 4) (f8 : (-1) * length_0o6 + (1 * x14 + 0) ≤ (-4)) (f10 : 1 * x14 + 0 ≤ 1984) (f11 : 1 * x14 + ((-1) * x7 + 0) ≤ (-16)) (f12 : (-1) * x14 + (1 * x7 + 0) ≤ 16) (f13 : 1 * x13 + 0 ≤ 1980) (f14 : 1 * x13 + ((-1) * x7 + 0) ≤ (-20)) (f15 : (-1) * x13 + (1 * x7 + 0) ≤ 20) (f17 : 1 * x13 + 0 ≤ 1980) (f18 : 1 * x13 + ((-1) * x7 + 0) ≤ (-20)) (f19 : (-1) * x13 + (1 * x7 + 0) ≤ 20) (kz_6_1 : 0 ≤ length_0o6 ∧ length_0o6 ≤ 2000) (ex2 : gx = length_0o6) (ex3 : 0 ≤ gx ∧ gx ≤ 1996) : 1 * length_0o6 + ((-1) * gx + 0) ≤ 0 := by
  first | assumption | omega | grind
set_option maxHeartbeats 4000000 in
theorem vc_Ho_feed_3_1 (x7 : Int) (x8 : Int) (x13 : Int) (x14 : Int) (length_0o6 : Int) (gx : Int) (k7 : 0 ≤ x7 ∧ x7 ≤ 2000) (k8 : (-1) ≤ x8 ∧ x8 ≤ 2000) (k13 : 0 ≤ x13 ∧ x13 ≤ 1996) (k14 : 0 ≤ x14 ∧ x14 ≤ 1996) (f0 : 1 * x14 + 0 ≤ 1984) (f1 : 1 * x14 + ((-1) * x7 + 0) ≤ (-16)) (f2 : (-1) * x14 + (1 * x7 + 0) ≤ 16) (f3 : 1 * x13 + 0 ≤ 1980) (f4 : 1 * x13 + ((-1) * x7 + 0) ≤ (-20)) (f5 : (-1) * x13 + (1 * x7 + 0) ≤ 20) (f6 : x8 = x7) (f7 : 1 * length_0o6 + ((-1) * x14 + 0) ≤ 4) (f8 : (-1) * length_0o6 + (1 * x14 + 0) ≤ (-4)) (f10 : 1 * x14 + 0 ≤ 1984) (f11 : 1 * x14 + ((-1) * x7 + 0) ≤ (-16)) (f12 : (-1) * x14 + (1 * x7 + 0) ≤ 16) (f13 : 1 * x13 + 0 ≤ 1980) (f14 : 1 * x13 + ((-1) * x7 + 0) ≤ (-20)) (f15 : (-1) * x13 + (1 * x7 + 0) ≤ 20) (f17 : 1 * x13 + 0 ≤ 1980) (f18 : 1 * x13 + ((-1) * x7 + 0) ≤ (-20)) (f19 : (-1) * x13 + (1 * x7 + 0) ≤ 20) (kz_6_1 : 0 ≤ length_0o6 ∧ length_0o6 ≤ 2000) (ex2 : gx = length_0o6) (ex3 : 0 ≤ gx ∧ gx ≤ 1996) : (-1) * length_0o6 + (1 * gx + 0) ≤ 0 := by
  first | assumption | omega | grind
set_option maxHeartbeats 4000000 in
theorem vc_Ho_feed_3_2 (x7 : Int) (x8 : Int) (x13 : Int) (x14 : Int) (length_0o6 : Int) (gx : Int) (k7 : 0 ≤ x7 ∧ x7 ≤ 2000) (k8 : (-1) ≤ x8 ∧ x8 ≤ 2000) (k13 : 0 ≤ x13 ∧ x13 ≤ 1996) (k14 : 0 ≤ x14 ∧ x14 ≤ 1996) (f0 : 1 * x14 + 0 ≤ 1984) (f1 : 1 * x14 + ((-1) * x7 + 0) ≤ (-16)) (f2 : (-1) * x14 + (1 * x7 + 0) ≤ 16) (f3 : 1 * x13 + 0 ≤ 1980) (f4 : 1 * x13 + ((-1) * x7 + 0) ≤ (-20)) (f5 : (-1) * x13 + (1 * x7 + 0) ≤ 20) (f6 : x8 = x7) (f7 : 1 * length_0o6 + ((-1) * x14 + 0) ≤ 4) (f8 : (-1) * length_0o6 + (1 * x14 + 0) ≤ (-4)) (f10 : 1 * x14 + 0 ≤ 1984) (f11 : 1 * x14 + ((-1) * x7 + 0) ≤ (-16)) (f12 : (-1) * x14 + (1 * x7 + 0) ≤ 16) (f13 : 1 * x13 + 0 ≤ 1980) (f14 : 1 * x13 + ((-1) * x7 + 0) ≤ (-20)) (f15 : (-1) * x13 + (1 * x7 + 0) ≤ 20) (f17 : 1 * x13 + 0 ≤ 1980) (f18 : 1 * x13 + ((-1) * x7 + 0) ≤ (-20)) (f19 : (-1) * x13 + (1 * x7 + 0) ≤ 20) (kz_6_1 : 0 ≤ length_0o6 ∧ length_0o6 ≤ 2000) (ex2 : gx = length_0o6) (ex3 : 0 ≤ gx ∧ gx ≤ 1996) : 1 * gx + 0 ≤ 1988 := by
  first | assumption | omega | grind
set_option maxHeartbeats 4000000 in
theorem vc_Ho_feed_3_3 (x7 : Int) (x8 : Int) (x13 : Int) (x14 : Int) (length_0o6 : Int) (gx : Int) (k7 : 0 ≤ x7 ∧ x7 ≤ 2000) (k8 : (-1) ≤ x8 ∧ x8 ≤ 2000) (k13 : 0 ≤ x13 ∧ x13 ≤ 1996) (k14 : 0 ≤ x14 ∧ x14 ≤ 1996) (f0 : 1 * x14 + 0 ≤ 1984) (f1 : 1 * x14 + ((-1) * x7 + 0) ≤ (-16)) (f2 : (-1) * x14 + (1 * x7 + 0) ≤ 16) (f3 : 1 * x13 + 0 ≤ 1980) (f4 : 1 * x13 + ((-1) * x7 + 0) ≤ (-20)) (f5 : (-1) * x13 + (1 * x7 + 0) ≤ 20) (f6 : x8 = x7) (f7 : 1 * length_0o6 + ((-1) * x14 + 0) ≤ 4) (f8 : (-1) * length_0o6 + (1 * x14 + 0) ≤ (-4)) (f10 : 1 * x14 + 0 ≤ 1984) (f11 : 1 * x14 + ((-1) * x7 + 0) ≤ (-16)) (f12 : (-1) * x14 + (1 * x7 + 0) ≤ 16) (f13 : 1 * x13 + 0 ≤ 1980) (f14 : 1 * x13 + ((-1) * x7 + 0) ≤ (-20)) (f15 : (-1) * x13 + (1 * x7 + 0) ≤ 20) (f17 : 1 * x13 + 0 ≤ 1980) (f18 : 1 * x13 + ((-1) * x7 + 0) ≤ (-20)) (f19 : (-1) * x13 + (1 * x7 + 0) ≤ 20) (kz_6_1 : 0 ≤ length_0o6 ∧ length_0o6 ≤ 2000) (ex2 : gx = length_0o6) (ex3 : 0 ≤ gx ∧ gx ≤ 1996) : 1 * gx + ((-1) * x7 + 0) ≤ (-12) := by
  first | assumption | omega | grind
set_option maxHeartbeats 4000000 in
theorem vc_Ho_feed_3_4 (x7 : Int) (x8 : Int) (x13 : Int) (x14 : Int) (length_0o6 : Int) (gx : Int) (k7 : 0 ≤ x7 ∧ x7 ≤ 2000) (k8 : (-1) ≤ x8 ∧ x8 ≤ 2000) (k13 : 0 ≤ x13 ∧ x13 ≤ 1996) (k14 : 0 ≤ x14 ∧ x14 ≤ 1996) (f0 : 1 * x14 + 0 ≤ 1984) (f1 : 1 * x14 + ((-1) * x7 + 0) ≤ (-16)) (f2 : (-1) * x14 + (1 * x7 + 0) ≤ 16) (f3 : 1 * x13 + 0 ≤ 1980) (f4 : 1 * x13 + ((-1) * x7 + 0) ≤ (-20)) (f5 : (-1) * x13 + (1 * x7 + 0) ≤ 20) (f6 : x8 = x7) (f7 : 1 * length_0o6 + ((-1) * x14 + 0) ≤ 4) (f8 : (-1) * length_0o6 + (1 * x14 + 0) ≤ (-4)) (f10 : 1 * x14 + 0 ≤ 1984) (f11 : 1 * x14 + ((-1) * x7 + 0) ≤ (-16)) (f12 : (-1) * x14 + (1 * x7 + 0) ≤ 16) (f13 : 1 * x13 + 0 ≤ 1980) (f14 : 1 * x13 + ((-1) * x7 + 0) ≤ (-20)) (f15 : (-1) * x13 + (1 * x7 + 0) ≤ 20) (f17 : 1 * x13 + 0 ≤ 1980) (f18 : 1 * x13 + ((-1) * x7 + 0) ≤ (-20)) (f19 : (-1) * x13 + (1 * x7 + 0) ≤ 20) (kz_6_1 : 0 ≤ length_0o6 ∧ length_0o6 ≤ 2000) (ex2 : gx = length_0o6) (ex3 : 0 ≤ gx ∧ gx ≤ 1996) : (-1) * gx + (1 * x7 + 0) ≤ 12 := by
  first | assumption | omega | grind
def o_Ho_feed_3 : or_T := (39, 15, [(6, (2, 0, 0, [8])), (7, (0, 0, 2000, [])), (8, (0, -1, 2000, [])), (13, (0, 0, 1996, [])), (14, (0, 0, 1996, []))], [(23, [14], [1984, 1]), (23, [14, 7], [-16, 1, -1]), (23, [14, 7], [16, -1, 1]), (23, [13], [1980, 1]), (23, [13, 7], [-20, 1, -1]), (23, [13, 7], [20, -1, 1]), (20, [8, 7], [50, 0, 0, 1, 2, 1, 0, 1, 1]), (20, [6, 14], [30, 4, 1, 1, 1, -1, 0, 0]), (20, [6, 14], [30, -4, -1, 1, 1, 1, 0, 0]), (102, [14], [649037107316853453566312041152512, 8001]), (23, [14], [1984, 1]), (23, [14, 7], [-16, 1, -1]), (23, [14, 7], [16, -1, 1]), (23, [13], [1980, 1]), (23, [13, 7], [-20, 1, -1]), (23, [13, 7], [20, -1, 1]), (102, [13], [649037107316853453566312041152512, 8001]), (23, [13], [1980, 1]), (23, [13, 7], [-20, 1, -1]), (23, [13, 7], [20, -1, 1])], [], [(0, 0, 1996, [])], [(20, [6, 15], [30, 0, 1, 1, 1, -1, 0, 0]), (20, [6, 15], [30, 0, -1, 1, 1, 1, 0, 0]), (23, [15], [1988, 1]), (23, [15, 7], [-12, 1, -1]), (23, [15, 7], [12, -1, 1])], [], [])
theorem oo_Ho_feed_3 {kA : Nat → ClassId} : or_ok PRD kA GG o_Ho_feed_3 := by
  refine or_mk fun A ta ws vs hD hth hl => ?_
  intro t6 r6 t7 k7 t8 k8 t13 k13 t14 k14 f0 f1 f2 f3 f4 f5 f6 f7 f8 ta1 w1 le1 s1 f10 f11 f12 f13 f14 f15 ta2 w2 le2 s2 f17 f18 f19
  replace f0 := shm_764 f0
  replace f1 := shm_765 f1
  replace f2 := shm_766 f2
  replace f3 := shm_761 f3
  replace f4 := shm_762 f4
  replace f5 := shm_763 f5
  replace f6 := shm_48 f6
  replace f7 := shm_125 f7
  replace f8 := shm_126 f8
  replace f10 := shm_764 f10
  replace f11 := shm_765 f11
  replace f12 := shm_766 f12
  replace f13 := shm_761 f13
  replace f14 := shm_762 f14
  replace f15 := shm_763 f15
  replace f17 := shm_761 f17
  replace f18 := shm_762 f18
  replace f19 := shm_763 f19
  have kz_6_1 := fdq_11 hD hth r6
  have kv0 := fdq_11 hD hth r6
  obtain ⟨x, ex, hx⟩ := iv_ex (ta := ta) (lo := 0) (hi := 1996) (z := w_fi ws (n_v vs 6) 1) (by omega) (by omega) (by omega) (by omega)
  have ex2 : v_iv (Value.int x) = w_fi ws (n_v vs 6) 1 := ex
  have ex3 : 0 ≤ v_iv (Value.int x) ∧ v_iv (Value.int x) ≤ 1996 := tv_rng hx
  have e_6 : n_v (vs ++ [Value.int x]) 6 = n_v vs 6 := n_v_old (by rw [hl]; decide)
  have e_7 : n_v (vs ++ [Value.int x]) 7 = n_v vs 7 := n_v_old (by rw [hl]; decide)
  have e_15 : n_v (vs ++ [Value.int x]) 15 = Value.int x := n_v_new hl
  have nf0 : fc_1 PRD (20, [6, 15], [30, 0, 1, 1, 1, -1, 0, 0]) ws (vs ++ [Value.int x]) := by
    refine ⟨nf_inA hl rfl, sgq_121 ?_⟩
    · show 1 * w_fi ws (n_v (vs ++ [Value.int x]) 6) 1 + ((-1) * v_iv (n_v (vs ++ [Value.int x]) 15) + 0) ≤ 0
      simp only [e_6, e_15]
      exact vc_Ho_feed_3_0 (v_iv (n_v vs 7)) (v_iv (n_v vs 8)) (v_iv (n_v vs 13)) (v_iv (n_v vs 14)) (w_fi ws (n_v vs 6) 1) (v_iv (Value.int x)) k7 k8 k13 k14 f0 f1 f2 f3 f4 f5 f6 f7 f8 f10 f11 f12 f13 f14 f15 f17 f18 f19 kz_6_1 ex2 ex3
  have nf1 : fc_1 PRD (20, [6, 15], [30, 0, -1, 1, 1, 1, 0, 0]) ws (vs ++ [Value.int x]) := by
    refine ⟨nf_inA hl rfl, sgq_122 ?_⟩
    · show (-1) * w_fi ws (n_v (vs ++ [Value.int x]) 6) 1 + (1 * v_iv (n_v (vs ++ [Value.int x]) 15) + 0) ≤ 0
      simp only [e_6, e_15]
      exact vc_Ho_feed_3_1 (v_iv (n_v vs 7)) (v_iv (n_v vs 8)) (v_iv (n_v vs 13)) (v_iv (n_v vs 14)) (w_fi ws (n_v vs 6) 1) (v_iv (Value.int x)) k7 k8 k13 k14 f0 f1 f2 f3 f4 f5 f6 f7 f8 f10 f11 f12 f13 f14 f15 f17 f18 f19 kz_6_1 ex2 ex3
  have nf2 : fc_1 PRD (23, [15], [1988, 1]) ws (vs ++ [Value.int x]) := by
    refine ⟨nf_inA hl rfl, sgq_767 ?_⟩
    · show 1 * v_iv (n_v (vs ++ [Value.int x]) 15) + 0 ≤ 1988
      rw [e_15]
      exact vc_Ho_feed_3_2 (v_iv (n_v vs 7)) (v_iv (n_v vs 8)) (v_iv (n_v vs 13)) (v_iv (n_v vs 14)) (w_fi ws (n_v vs 6) 1) (v_iv (Value.int x)) k7 k8 k13 k14 f0 f1 f2 f3 f4 f5 f6 f7 f8 f10 f11 f12 f13 f14 f15 f17 f18 f19 kz_6_1 ex2 ex3
  have nf3 : fc_1 PRD (23, [15, 7], [-12, 1, -1]) ws (vs ++ [Value.int x]) := by
    refine ⟨nf_inA hl rfl, sgq_768 ?_⟩
    · show 1 * v_iv (n_v (vs ++ [Value.int x]) 15) + ((-1) * v_iv (n_v (vs ++ [Value.int x]) 7) + 0) ≤ (-12)
      simp only [e_7, e_15]
      exact vc_Ho_feed_3_3 (v_iv (n_v vs 7)) (v_iv (n_v vs 8)) (v_iv (n_v vs 13)) (v_iv (n_v vs 14)) (w_fi ws (n_v vs 6) 1) (v_iv (Value.int x)) k7 k8 k13 k14 f0 f1 f2 f3 f4 f5 f6 f7 f8 f10 f11 f12 f13 f14 f15 f17 f18 f19 kz_6_1 ex2 ex3
  have nf4 : fc_1 PRD (23, [15, 7], [12, -1, 1]) ws (vs ++ [Value.int x]) := by
    refine ⟨nf_inA hl rfl, sgq_769 ?_⟩
    · show (-1) * v_iv (n_v (vs ++ [Value.int x]) 15) + (1 * v_iv (n_v (vs ++ [Value.int x]) 7) + 0) ≤ 12
      simp only [e_7, e_15]
      exact vc_Ho_feed_3_4 (v_iv (n_v vs 7)) (v_iv (n_v vs 8)) (v_iv (n_v vs 13)) (v_iv (n_v vs 14)) (w_fi ws (n_v vs 6) 1) (v_iv (Value.int x)) k7 k8 k13 k14 f0 f1 f2 f3 f4 f5 f6 f7 f8 f10 f11 f12 f13 f14 f15 f17 f18 f19 kz_6_1 ex2 ex3
  exact ⟨(fun _ h => (by cases h)), [Value.int x], ag_one hx, List.forall_mem_cons.mpr ⟨⟨show (20 : Nat) < 100 from by decide, nf0⟩, List.forall_mem_cons.mpr ⟨⟨show (20 : Nat) < 100 from by decide, nf1⟩, List.forall_mem_cons.mpr ⟨⟨show (23 : Nat) < 100 from by decide, nf2⟩, List.forall_mem_cons.mpr ⟨⟨show (23 : Nat) < 100 from by decide, nf3⟩, List.forall_mem_cons.mpr ⟨⟨show (23 : Nat) < 100 from by decide, nf4⟩, (fun _ h => (by cases h))⟩⟩⟩⟩⟩, (fun _ h => (by cases h))⟩
set_option maxHeartbeats 4000000 in
theorem vc_Ho_feed_4_0 (x7 : Int) (x8 : Int) (x13 : Int) (x14 : Int) (x15 : Int) (length_0o6 : Int) (gx : Int) (k7 : 0 ≤ x7 ∧ x7 ≤ 2000) (k8 : (-1) ≤ x8 ∧ x8 ≤ 2000) (k13 : 0 ≤ x13 ∧ x13 ≤ 1996) (k14 : 0 ≤ x14 ∧ x14 ≤ 1996) (k15 : 0 ≤ x15 ∧ x15 ≤ 1996) (f0 : 1 * x15 + 0 ≤ 1988) (f1 : 1 * x15 + ((-1) * x7 + 0) ≤ (-12)) (f2 : (-1) * x15 + (1 * x7 + 0) ≤ 12) (f3 : 1 * x14 + 0 ≤ 1984) (f4 : 1 * x14 + ((-1) * x7 + 0) ≤ (-16)) (f5 : (-1) * x14 + (1 * x7 + 0) ≤ 16) (f6 : 1 * x13 + 0 ≤ 1980) (f7 : 1 * x13 + ((-1) * x7 + 0) ≤ (-20)) (f8 : (-1) * x13 + (1 * x7 + 0) ≤ 20) (f9 : x8 = x7) (f10 : 1 * length_0o6 + ((-1) * x15 + 0) ≤ 4) (f11 : (-1) * length_0o6 + (1 * x15 + 0) ≤ (-4)) (f13 : 1 * x15 + 0 ≤ 1988) (f14 : 1 * x15 + ((-1) * x7 + 0) ≤ (-12)) (f15 : (-1) * x15 + (1 * x7 + 0) ≤ 12) (f16 : 1 * x14 + 0 ≤ 1984) (f17 : 1 * x14 + ((-1) * x7 + 0) ≤ (-16)) (f18 : (-1) * x14 + (1 * x7 + 0) ≤ 16) (f19 : 1 * x13 + 0 ≤ 1980) (f20 : 1 * x13 + ((-1) * x7 + 0) ≤ (-20)) (f21 : (-1) * x13 + (1 * x7 + 0) ≤ 20) (f23 : 1 * x14 + 0 ≤ 1984) (f24 : 1 * x14 + ((-1) * x7 + 0) ≤ (-16)) (f25 : (-1) * x14 + (1 * x7 + 0) ≤ 16) (f26 : 1 * x13 + 0 ≤ 1980) (f27 : 1 * x13 + ((-1) * x7 + 0) ≤ (-20)) (f28 : (-1) * x13 + (1 * x7 + 0) ≤ 20) (f30 : 1 * x13 + 0 ≤ 1980) (f31 : 1 * x13 + ((-1) * x7 + 0) ≤ (-20)) (f32 : (-1) * x13 + (1 * x7 + 0) ≤ 20) (kz_6_1 : 0 ≤ length_0o6 ∧ length_0o6 ≤ 2000) (ex2 : gx = length_0o6) (ex3 : 0 ≤ gx ∧ gx ≤ 1996) : 1 * length_0o6 + ((-1) * gx + 0) ≤ 0 := by
  first | assumption | omega | grind
set_option maxHeartbeats 4000000 in
theorem vc_Ho_feed_4_1 (x7 : Int) (x8 : Int) (x13 : Int) (x14 : Int) (x15 : Int) (length_0o6 : Int) (gx : Int) (k7 : 0 ≤ x7 ∧ x7 ≤ 2000) (k8 : (-1) ≤ x8 ∧ x8 ≤ 2000) (k13 : 0 ≤ x13 ∧ x13 ≤ 1996) (k14 : 0 ≤ x14 ∧ x14 ≤ 1996) (k15 : 0 ≤ x15 ∧ x15 ≤ 1996) (f0 : 1 * x15 + 0 ≤ 1988) (f1 : 1 * x15 + ((-1) * x7 + 0) ≤ (-12)) (f2 : (-1) * x15 + (1 * x7 + 0) ≤ 12) (f3 : 1 * x14 + 0 ≤ 1984) (f4 : 1 * x14 + ((-1) * x7 + 0) ≤ (-16)) (f5 : (-1) * x14 + (1 * x7 + 0) ≤ 16) (f6 : 1 * x13 + 0 ≤ 1980) (f7 : 1 * x13 + ((-1) * x7 + 0) ≤ (-20)) (f8 : (-1) * x13 + (1 * x7 + 0) ≤ 20) (f9 : x8 = x7) (f10 : 1 * length_0o6 + ((-1) * x15 + 0) ≤ 4) (f11 : (-1) * length_0o6 + (1 * x15 + 0) ≤ (-4)) (f13 : 1 * x15 + 0 ≤ 1988) (f14 : 1 * x15 + ((-1) * x7 + 0) ≤ (-12)) (f15 : (-1) * x15 + (1 * x7 + 0) ≤ 12) (f16 : 1 * x14 + 0 ≤ 1984) (f17 : 1 * x14 + ((-1) * x7 + 0) ≤ (-16)) (f18 : (-1) * x14 + (1 * x7 + 0) ≤ 16) (f19 : 1 * x13 + 0 ≤ 1980) (f20 : 1 * x13 + ((-1) * x7 + 0) ≤ (-20)) (f21 : (-1) * x13 + (1 * x7 + 0) ≤ 20) (f23 : 1 * x14 + 0 ≤ 1984) (f24 : 1 * x14 + ((-1) * x7 + 0) ≤ (-16)) (f25 : (-1) * x14 + (1 * x7 + 0) ≤ 16) (f26 : 1 * x13 + 0 ≤ 1980) (f27 : 1 * x13 + ((-1) * x7 + 0) ≤ (-20)) (f28 : (-1) * x13 + (1 * x7 + 0) ≤ 20) (f30 : 1 * x13 + 0 ≤ 1980) (f31 : 1 * x13 + ((-1) * x7 + 0) ≤ (-20)) (f32 : (-1) * x13 + (1 * x7 + 0) ≤ 20) (kz_6_1 : 0 ≤ length_0o6 ∧ length_0o6 ≤ 2000) (ex2 : gx = length_0o6) (ex3 : 0 ≤ gx ∧ gx ≤ 1996) : (-1) * length_0o6 + (1 * gx + 0) ≤ 0 := by
  first | assumption | omega | grind
set_option maxHeartbeats 4000000 in
theorem vc_Ho_feed_4_2 (x7 : Int) (x8 : Int) (x13 : Int) (x14 : Int) (x15 : Int) (length_0o6 : Int) (gx : Int) (k7 : 0 ≤ x7 ∧ x7 ≤ 2000) (k8 : (-1) ≤ x8 ∧ x8 ≤ 2000) (k13 : 0 ≤ x13 ∧ x13 ≤ 1996) (k14 : 0 ≤ x14 ∧ x14 ≤ 1996) (k15 : 0 ≤ x15 ∧ x15 ≤ 1996) (f0 : 1 * x15 + 0 ≤ 1988) (f1 : 1 * x15 + ((-1) * x7 + 0) ≤ (-12)) (f2 : (-1) * x15 + (1 * x7 + 0) ≤ 12) (f3 : 1 * x14 + 0 ≤ 1984) (f4 : 1 * x14 + ((-1) * x7 + 0) ≤ (-16)) (f5 : (-1) * x14 + (1 * x7 + 0) ≤ 16) (f6 : 1 * x13 + 0 ≤ 1980) (f7 : 1 * x13 + ((-1) * x7 + 0) ≤ (-20)) (f8 : (-1) * x13 + (1 * x7 + 0) ≤ 20) (f9 : x8 = x7) (f10 : 1 * length_0o6 + ((-1) * x15 + 0) ≤ 4) (f11 : (-1) * length_0o6 + (1 * x15 + 0) ≤ (-4)) (f13 : 1 * x15 + 0 ≤ 1988) (f14 : 1 * x15 + ((-1) * x7 + 0) ≤ (-12)) (f15 : (-1) * x15 + (1 * x7 + 0) ≤ 12) (f16 : 1 * x14 + 0 ≤ 1984) (f17 : 1 * x14 + ((-1) * x7 + 0) ≤ (-16)) (f18 : (-1) * x14 + (1 * x7 + 0) ≤ 16) (f19 : 1 * x13 + 0 ≤ 1980) (f20 : 1 * x13 + ((-1) * x7 + 0) ≤ (-20)) (f21 : (-1) * x13 + (1 * x7 + 0) ≤ 20) (f23 : 1 * x14 + 0 ≤ 1984) (f24 : 1 * x14 + ((-1) * x7 + 0) ≤ (-16)) (f25 : (-1) * x14 + (1 * x7 + 0) ≤ 16) (f26 : 1 * x13 + 0 ≤ 1980) (f27 : 1 * x13 + ((-1) * x7 + 0) ≤ (-20)) (f28 : (-1) * x13 + (1 * x7 + 0) ≤ 20) (f30 : 1 * x13 + 0 ≤ 1980) (f31 : 1 * x13 + ((-1) * x7 + 0) ≤ (-20)) (f32 : (-1) * x13 + (1 * x7 + 0) ≤ 20) (kz_6_1 : 0 ≤ length_0o6 ∧ length_0o6 ≤ 2000) (ex2 : gx = length_0o6) (ex3 : 0 ≤ gx ∧ gx ≤ 1996) : 1 * gx + 0 ≤ 1992 := by
  first | assumption | omega | grind
set_option maxHeartbeats 4000000 in
theorem vc_Ho_feed_4_3 (x7 : Int) (x8 : Int) (x13 : Int) (x14 : Int) (x15 : Int) (length_0o6 : Int) (gx : Int) (k7 : 0 ≤ x7 ∧ x7 ≤ 2000) (k8 : (-1) ≤ x8 ∧ x8 ≤ 2000) (k13 : 0 ≤ x13 ∧ x13 ≤ 1996) (k14 : 0 ≤ x14 ∧ x14 ≤ 1996) (k15 : 0 ≤ x15 ∧ x15 ≤ 1996) (f0 : 1 * x15 + 0 ≤ 1988) (f1 : 1 * x15 + ((-1) * x7 + 0) ≤ (-12)) (f2 : (-1) * x15 + (1 * x7 + 0) ≤ 12) (f3 : 1 * x14 + 0 ≤ 1984) (f4 : 1 * x14 + ((-1) * x7 + 0) ≤ (-16)) (f5 : (-1) * x14 + (1 * x7 + 0) ≤ 16) (f6 : 1 * x13 + 0 ≤ 1980) (f7 : 1 * x13 + ((-1) * x7 + 0) ≤ (-20)) (f8 : (-1) * x13 + (1 * x7 + 0) ≤ 20) (f9 : x8 = x7) (f10 : 1 * length_0o6 + ((-1) * x15 + 0) ≤ 4) (f11 : (-1) * length_0o6 + (1 * x15 + 0) ≤ (-4)) (f13 : 1 * x15 + 0 ≤ 1988) (f14 : 1 * x15 + ((-1) * x7 + 0) ≤ (-12)) (f15 : (-1) * x15 + (1 * x7 + 0) ≤ 12) (f16 : 1 * x14 + 0 ≤ 1984) (f17 : 1 * x14 + ((-1) * x7 + 0) ≤ (-16)) (f18 : (-1) * x14 + (1 * x7 + 0) ≤ 16) (f19 : 1 * x13 + 0 ≤ 1980) (f20 : 1 * x13 + ((-1) * x7 + 0) ≤ (-20)) (f21 : (-1) * x13 + (1 * x7 + 0) ≤ 20) (f23 : 1 * x14 + 0 ≤ 1984) (f24 : 1 * x14 + ((-1) * x7 + 0) ≤ (-16)) (f25 : (-1) * x14 + (1 * x7 + 0) ≤ 16) (f26 : 1 * x13 + 0 ≤ 1980) (f27 : 1 * x13 + ((-1) * x7 + 0) ≤ (-20)) (f28 : (-1) * x13 + (1 * x7 + 0) ≤ 20) (f30 : 1 * x13 + 0 ≤ 1980) (f31 : 1 * x13 + ((-1) * x7 + 0) ≤ (-20)) (f32 : (-1) * x13 + (1 * x7 + 0) ≤ 20) (kz_6_1 : 0 ≤ length_0o6 ∧ length_0o6 ≤ 2000) (ex2 : gx = length_0o6) (ex3 : 0 ≤ gx ∧ gx ≤ 1996) : 1 * gx + ((-1) * x7 + 0) ≤ (-8) := by
  first | assumption | omega | grind
set_option maxHeartbeats 4000000 in
theorem vc_Ho_feed_4_4 (x7 : Int) (x8 : Int) (x13 : Int) (x14 : Int) (x15 : Int) (length_0o6 : Int) (gx : Int) (k7 : 0 ≤ x7 ∧ x7 ≤ 2000) (k8 : (-1) ≤ x8 ∧ x8 ≤ 2000) (k13 : 0 ≤ x13 ∧ x13 ≤ 1996) (k14 : 0 ≤ x14 ∧ x14 ≤ 1996) (k15 : 0 ≤ x15 ∧ x15 ≤ 1996) (f0 : 1 * x15 + 0 ≤ 1988) (f1 : 1 * x15 + ((-1) * x7 + 0) ≤ (-12)) (f2 : (-1) * x15 + (1 * x7 + 0) ≤ 12) (f3 : 1 * x14 + 0 ≤ 1984) (f4 : 1 * x14 + ((-1) * x7 + 0) ≤ (-16)) (f5 : (-1) * x14 + (1 * x7 + 0) ≤ 16) (f6 : 1 * x13 + 0 ≤ 1980) (f7 : 1 * x13 + ((-1) * x7 + 0) ≤ (-20)) (f8 : (-1) * x13 + (1 * x7 + 0) ≤ 20) (f9 : x8 = x7) (f10 : 1 * length_0o6 + ((-1) * x15 + 0) ≤ 4) (f11 : (-1) * length_0o6 + (1 * x15 + 0) ≤ (-4)) (f13 : 1 * x15 + 0 ≤ 1988) (f14 : 1 * x15 + ((-1) * x7 + 0) ≤ (-12)) (f15 : (-1) * x15 + (1 * x7 + 0) ≤ 12) (f16 : 1 * x14 + 0 ≤ 1984) (f17 : 1 * x14 + ((-1) * x7 + 0) ≤ (-16)) (f18 : (-1) * x14 + (1 * x7 + 0) ≤ 16) (f19 : 1 * x13 + 0 ≤ 1980) (f20 : 1 * x13 + ((-1) * x7 + 0) ≤ (-20)) (f21 : (-1) * x13 + (1 * x7 + 0) ≤ 20) (f23 : 1 * x14 + 0 ≤ 1984) (f24 : 1 * x14 + ((-1) * x7 + 0) ≤ (-16)) (f25 : (-1) * x14 + (1 * x7 + 0) ≤ 16) (f26 : 1 * x13 + 0 ≤ 1980) (f27 : 1 * x13 + ((-1) * x7 + 0) ≤ (-20)) (f28 : (-1) * x13 + (1 * x7 + 0) ≤ 20) (f30 : 1 * x13 + 0 ≤ 1980) (f31 : 1 * x13 + ((-1) * x7 + 0) ≤ (-20)) (f32 : (-1) * x13 + (1 * x7 + 0) ≤ 20) (kz_6_1 : 0 ≤ length_0o6 ∧ length_0o6 ≤ 2000) (ex2 : gx = length_0o6) (ex3 : 0 ≤ gx ∧ gx ≤ 1996) : (-1) * gx + (1 * x7 + 0) ≤ 8 := by
  first | assumption | omega | grind
def o_Ho_feed_4 : or_T := (48, 16, [(6, (2, 0, 0, [8])), (7, (0, 0, 2000, [])), (8, (0, -1, 2000, [])), (13, (0, 0, 1996, [])), (14, (0, 0, 1996, [])), (15, (0, 0, 1996, []))], [(23, [15], [1988, 1]), (23, [15, 7], [-12, 1, -1]), (23, [15, 7], [12, -1, 1]), (23, [14], [1984, 1]), (23, [14, 7], [-16, 1, -1]), (23, [14, 7], [16, -1, 1]), (23, [13], [1980, 1]), (23, [13, 7], [-20, 1, -1]), (23, [13, 7], [20, -1, 1]), (20, [8, 7], [50, 0, 0, 1, 2, 1, 0, 1, 1]), (20, [6, 15], [30, 4, 1, 1, 1, -1, 0, 0]), (20, [6, 15], [30, -4, -1, 1, 1, 1, 0, 0]), (102, [15], [649037107316853453566312041152512, 8001]), (23, [15], [1988, 1]), (23, [15, 7], [-12, 1, -1]), (23, [15, 7], [12, -1, 1]), (23, [14], [1984, 1]), (23, [14, 7], [-16, 1, -1]), (23, [14, 7], [16, -1, 1]), (23, [13], [1980, 1]), (23, [13, 7], [-20, 1, -1]), (23, [13, 7], [20, -1, 1]), (102, [14], [649037107316853453566312041152512, 8001]), (23, [14], [1984, 1]), (23, [14, 7], [-16, 1, -1]), (23, [14, 7], [16, -1, 1]), (23, [13], [1980, 1]), (23, [13, 7], [-20, 1, -1]), (23, [13, 7], [20, -1, 1]), (102, [13], [649037107316853453566312041152512, 8001]), (23, [13], [1980, 1]), (23, [13, 7], [-20, 1, -1]), (23, [13, 7], [20, -1, 1])], [], [(0, 0, 1996, [])], [(20, [6, 16], [30, 0, 1, 1, 1, -1, 0, 0]), (20, [6, 16], [30, 0, -1, 1, 1, 1, 0, 0]), (23, [16], [1992, 1]), (23, [16, 7], [-8, 1, -1]), (23, [16, 7], [8, -1, 1])], [], [])
theorem oo_Ho_feed_4 {kA : Nat → ClassId} : or_ok PRD kA GG o_Ho_feed_4 := by
  refine or_mk fun A ta ws vs hD hth hl => ?_
  intro t6 r6 t7 k7 t8 k8 t13 k13 t14 k14 t15 k15 f0 f1 f2 f3 f4 f5 f6 f7 f8 f9 f10 f11 ta1 w1 le1 s1 f13 f14 f15 f16 f17 f18 f19 f20 f21 ta2 w2 le2 s2 f23 f24 f25 f26 f27 f28 ta3 w3 le3 s3 f30 f31 f32
  replace f0 := shm_767 f0
  replace f1 := shm_768 f1
  replace f2 := shm_769 f2
  replace f3 := shm_764 f3
  replace f4 := shm_765 f4
  replace f5 := shm_766 f5
  replace f6 := shm_761 f6
  replace f7 := shm_762 f7
  replace f8 := shm_763 f8
  replace f9 := shm_48 f9
  replace f10 := shm_125 f10
  replace f11 := shm_126 f11
  replace f13 := shm_767 f13
  replace f14 := shm_768 f14
  replace f15 := shm_769 f15
  replace f16 := shm_764 f16
  replace f17 := shm_765 f17
  replace f18 := shm_766 f18
  replace f19 := shm_761 f19
  replace f20 := shm_762 f20
  replace f21 := shm_763 f21
  replace f23 := shm_764 f23
  replace f24 := shm_765 f24
  replace f25 := shm_766 f25
  replace f26 := shm_761 f26
  replace f27 := shm_762 f27
  replace f28 := shm_763 f28
  replace f30 := shm_761 f30
  replace f31 := shm_762 f31
  replace f32 := shm_763 f32
  have kz_6_1 := fdq_11 hD hth r6
  have kv0 := fdq_11 hD hth r6
  obtain ⟨x, ex, hx⟩ := iv_ex (ta := ta) (lo := 0) (hi := 1996) (z := w_fi ws (n_v vs 6) 1) (by omega) (by omega) (by omega) (by omega)
  have ex2 : v_iv (Value.int x) = w_fi ws (n_v vs 6) 1 := ex
  have ex3 : 0 ≤ v_iv (Value.int x) ∧ v_iv (Value.int x) ≤ 1996 := tv_rng hx
  have e_6 : n_v (vs ++ [Value.int x]) 6 = n_v vs 6 := n_v_old (by rw [hl]; decide)
  have e_7 : n_v (vs ++ [Value.int x]) 7 = n_v vs 7 := n_v_old (by rw [hl]; decide)
  have e_16 : n_v (vs ++ [Value.int x]) 16 = Value.int x := n_v_new hl
  have nf0 : fc_1 PRD (20, [6, 16], [30, 0, 1, 1, 1, -1, 0, 0]) ws (vs ++ [Value.int x]) := by
    refine ⟨nf_inA hl rfl, sgq_121 ?_⟩
    · show 1 * w_fi ws (n_v (vs ++ [Value.int x]) 6) 1 + ((-1) * v_iv (n_v (vs ++ [Value.int x]) 16) + 0) ≤ 0
      simp only [e_6, e_16]
      exact vc_Ho_feed_4_0 (v_iv (n_v vs 7)) (v_iv (n_v vs 8)) (v_iv (n_v vs 13)) (v_iv (n_v vs 14)) (v_iv (n_v vs 15)) (w_fi ws (n_v vs 6) 1) (v_iv (Value.int x)) k7 k8 k13 k14 k15 f0 f1 f2 f3 f4 f5 f6 f7 f8 f9 f10 f11 f13 f14 f15 f16 f17 f18 f19 f20 f21 f23 f24 f25 f26 f27 f28 f30 f31 f32 kz_6_1 ex2 ex3
  have nf1 : fc_1 PRD (20, [6, 16], [30, 0, -1, 1, 1, 1, 0, 0]) ws (vs ++ [Value.int x]) := by
    refine ⟨nf_inA hl rfl, sgq_122 ?_⟩
    · show (-1) * w_fi ws (n_v (vs ++ [Value.int x]) 6) 1 + (1 * v_iv (n_v (vs ++ [Value.int x]) 16) + 0) ≤ 0
      simp only [e_6, e_16]
      exact vc_Ho_feed_4_1 (v_iv (n_v vs 7)) (v_iv (n_v vs 8)) (v_iv (n_v vs 13)) (v_iv (n_v vs 14)) (v_iv (n_v vs 15)) (w_fi ws (n_v vs 6) 1) (v_iv (Value.int x)) k7 k8 k13 k14 k15 f0 f1 f2 f3 f4 f5 f6 f7 f8 f9 f10 f11 f13 f14 f15 f16 f17 f18 f19 f20 f21 f23 f24 f25 f26 f27 f28 f30 f31 f32 kz_6_1 ex2 ex3
  have nf2 : fc_1 PRD (23, [16], [1992, 1]) ws (vs ++ [Value.int x]) := by
    refine ⟨nf_inA hl rfl, sgq_770 ?_⟩
    · show 1 * v_iv (n_v (vs ++ [Value.int x]) 16) + 0 ≤ 1992
      rw [e_16]
      exact vc_Ho_feed_4_2 (v_iv (n_v vs 7)) (v_iv (n_v vs 8)) (v_iv (n_v vs 13)) (v_iv (n_v vs 14)) (v_iv (n_v vs 15)) (w_fi ws (n_v vs 6) 1) (v_iv (Value.int x)) k7 k8 k13 k14 k15 f0 f1 f2 f3 f4 f5 f6 f7 f8 f9 f10 f11 f13 f14 f15 f16 f17 f18 f19 f20 f21 f23 f24 f25 f26 f27 f28 f30 f31 f32 kz_6_1 ex2 ex3
  have nf3 : fc_1 PRD (23, [16, 7], [-8, 1, -1]) ws (vs ++ [Value.int x]) := by
    refine ⟨nf_inA hl rfl, sgq_771 ?_⟩
    · show 1 * v_iv (n_v (vs ++ [Value.int x]) 16) + ((-1) * v_iv (n_v (vs ++ [Value.int x]) 7) + 0) ≤ (-8)
      simp only [e_7, e_16]
      exact vc_Ho_feed_4_3 (v_iv (n_v vs 7)) (v_iv (n_v vs 8)) (v_iv (n_v vs 13)) (v_iv (n_v vs 14)) (v_iv (n_v vs 15)) (w_fi ws (n_v vs 6) 1) (v_iv (Value.int x)) k7 k8 k13 k14 k15 f0 f1 f2 f3 f4 f5 f6 f7 f8 f9 f10 f11 f13 f14 f15 f16 f17 f18 f19 f20 f21 f23 f24 f25 f26 f27 f28 f30 f31 f32 kz_6_1 ex2 ex3
  have nf4 : fc_1 PRD (23, [16, 7], [8, -1, 1]) ws (vs ++ [Value.int x]) := by
    refine ⟨nf_inA hl rfl, sgq_772 ?_⟩
    · show (-1) * v_iv (n_v (vs ++ [Value.int x]) 16) + (1 * v_iv (n_v (vs ++ [Value.int x]) 7) + 0) ≤ 8
      simp only [e_7, e_16]
      exact vc_Ho_feed_4_4 (v_iv (n_v vs 7)) (v_iv (n_v vs 8)) (v_iv (n_v vs 13)) (v_iv (n_v vs 14)) (v_iv (n_v vs 15)) (w_fi ws (n_v vs 6) 1) (v_iv (Value.int x)) k7 k8 k13 k14 k15 f0 f1 f2 f3 f4 f5 f6 f7 f8 f9 f10 f11 f13 f14 f15 f16 f17 f18 f19 f20 f21 f23 f24 f25 f26 f27 f28 f30 f31 f32 kz_6_1 ex2 ex3
  exact ⟨(fun _ h => (by cases h)), [Value.int x], ag_one hx, List.forall_mem_cons.mpr ⟨⟨show (20 : Nat) < 100 from by decide, nf0⟩, List.forall_mem_cons.mpr ⟨⟨show (20 : Nat) < 100 from by decide, nf1⟩, List.forall_mem_cons.mpr ⟨⟨show (23 : Nat) < 100 from by decide, nf2⟩, List.forall_mem_cons.mpr ⟨⟨show (23 : Nat) < 100 from by decide, nf3⟩, List.forall_mem_cons.mpr ⟨⟨show (23 : Nat) < 100 from by decide, nf4⟩, (fun _ h => (by cases h))⟩⟩⟩⟩⟩, (fun _ h => (by cases h))⟩
set_option maxHeartbeats 4000000 in
theorem vc_Ho_feed_5_0 (x7 : Int) (x8 : Int) (x13 : Int) (x14 : Int) (x15 : Int) (x16 : Int) (length_0o6 : Int) (gx : Int) (k7 : 0 ≤ x7 ∧ x7 ≤ 2000) (k8 : (-1) ≤ x8 ∧ x8 ≤ 2000) (k13 : 0 ≤ x13 ∧ x13 ≤ 1996) (k14 : 0 ≤ x14 ∧ x14 ≤ 1996) (k15 : 0 ≤ x15 ∧ x15 ≤ 1996) (k16 : 0 ≤ x16 ∧ x16 ≤ 1996) (f0 : 1 * x16 + 0 ≤ 1992) (f1 : 1 * x16 + ((-1) * x7 + 0) ≤ (-8)) (f2 : (-1) * x16 + (1 * x7 + 0) ≤ 8) (f3 : 1 * x15 + 0 ≤ 1988) (f4 : 1 * x15 + ((-1) * x7 + 0) ≤ (-12)) (f5 : (-1) * x15 + (1 * x7 + 0) ≤ 12) (f6 : 1 * x14 + 0 ≤ 1984) (f7 : 1 * x14 + ((-1) * x7 + 0) ≤ (-16)) (f8 : (-1) * x14 + (1 * x7 + 0) ≤ 16) (f9 : 1 * x13 + 0 ≤ 1980) (f10 : 1 * x13 + ((-1) * x7 + 0) ≤ (-20)) (f11 : (-1) * x13 + (1 * x7 + 0) ≤ 20) (f12 : x8 = x7) (f13 : 1 * length_0o6 + ((-1) * x16 + 0) ≤ 4) (f14 : (-1) * length_0o6 + (1 * x16 + 0) ≤ (-4)) (f16 : 1 * x16 + 0 ≤ 1992) (f17 : 1 * x16 + ((-1) * x7 + 0) ≤ (-8)) (f18 : (-1) * x16 + (1 * x7 + 0) ≤ 8) (f19 : 1 * x15 + 0 ≤ 1988) (f20 : 1 * x15 + ((-1) * x7 + 0) ≤ (-12)) (f21 : (-1) * x15 + (1 * x7 + 0) ≤ 12) (f22 : 1 * x14 + 0 ≤ 1984) (f23 : 1 * x14 + ((-1) * x7 + 0) ≤ (-16)) (f24 : (-1) * x14 + (1 * x7 + 0) ≤ 16) (f25 : 1 * x13 + 0 ≤ 1980) (f26 : 1 * x13 + ((-1) * x7 + 0) ≤ (-20)) (f27 : (-1) * x13 + (1 * x7 + 0) ≤ 20) (f29 : 1 * x15 + 0 ≤ 1988) (f30 : 1 * x15 + ((-1) * x7 + 0) ≤ (-12)) (f31 : (-1) * x15 + (1 * x7 + 0) ≤ 12) (f32 : 1 * x14 + 0 ≤ 1984) (f33 : 1 * x14 + ((-1) * x7 + 0) ≤ (-16)) (f34 : (-1) * x14 + (1 * x7 + 0) ≤ 16) (f35 : 1 * x13 + 0 ≤ 1980) (f36 : 1 * x13 + ((-1) * x7 + 0) ≤ (-20)) (f37 : (-1) * x13 + (1 * x7 + 0) ≤ 20) (f39 : 1 * x14 + 0 ≤ 1984) (f40 : 1 * x14 + ((-1) * x7 + 0) ≤ (-16)) (f41 : (-1) * x14 + (1 * x7 + 0) ≤ 16) (f42 : 1 * x13 + 0 ≤ 1980) (f43 : 1 * x13 + ((-1) * x7 + 0) ≤ (-20)) (f44 : (-1) * x13 + (1 * x7 + 0) ≤ 20) (f46 : 1 * x13 + 0 ≤ 1980) (f47 : 1 * x13 + ((-1) * x7 + 0) ≤ (-20)) (f48 : (-1) * x13 + (1 * x7 + 0) ≤ 20) (kz_6_1 : 0 ≤ length_0o6 ∧ length_0o6 ≤ 2000) (ex2 : gx = length_0o6) (ex3 : 0 ≤ gx ∧ gx ≤ 1996) : 1 * length_0o6 + ((-1) * gx + 0) ≤ 0 := by
  first | assumption | omega | grind
set_option maxHeartbeats 4000000 in
theorem vc_Ho_feed_5_1 (x7 : Int) (x8 : Int) (x13 : Int) (x14 : Int) (x15 : Int) (x16 : Int) (length_0o6 : Int) (gx : Int) (k7 : 0 ≤ x7 ∧ x7 ≤ 2000) (k8 : (-1) ≤ x8 ∧ x8 ≤ 2000) (k13 : 0 ≤ x13 ∧ x13 ≤ 1996) (k14 : 0 ≤ x14 ∧ x14 ≤ 1996) (k15 : 0 ≤ x15 ∧ x15 ≤ 1996) (k16 : 0 ≤ x16 ∧ x16 ≤ 1996) (f0 : 1 * x16 + 0 ≤ 1992) (f1 : 1 * x16 + ((-1) * x7 + 0) ≤ (-8)) (f2 : (-1) * x16 + (1 * x7 + 0) ≤ 8) (f3 : 1 * x15 + 0 ≤ 1988) (f4 : 1 * x15 + ((-1) * x7 + 0) ≤ (-12)) (f5 : (-1) * x15 + (1 * x7 + 0) ≤ 12) (f6 : 1 * x14 + 0 ≤ 1984) (f7 : 1 * x14 + ((-1) * x7 + 0) ≤ (-16)) (f8 : (-1) * x14 + (1 * x7 + 0) ≤ 16) (f9 : 1 * x13 + 0 ≤ 1980) (f10 : 1 * x13 + ((-1) * x7 + 0) ≤ (-20)) (f11 : (-1) * x13 + (1 * x7 + 0) ≤ 20) (f12 : x8 = x7) (f13 : 1 * length_0o6 + ((-1) * x16 + 0) ≤ 4) (f14 : (-1) * length_0o6 + (1 * x16 + 0) ≤ (-4)) (f16 : 1 * x16 + 0 ≤ 1992) (f17 : 1 * x16 + ((-1) * x7 + 0) ≤ (-8)) (f18 : (-1) * x16 + (1 * x7 + 0) ≤ 8) (f19 : 1 * x15 + 0 ≤ 1988) (f20 : 1 * x15 + ((-1) * x7 + 0) ≤ (-12)) (f21 : (-1) * x15 + (1 * x7 + 0) ≤ 12) (f22 : 1 * x14 + 0 ≤ 1984) (f23 : 1 * x14 + ((-1) * x7 + 0) ≤ (-16)) (f24 : (-1) * x14 + (1 * x7 + 0) ≤ 16) (f25 : 1 * x13 + 0 ≤ 1980) (f26 : 1 * x13 + ((-1) * x7 + 0) ≤ (-20)) (f27 : (-1) * x13 + (1 * x7 + 0) ≤ 20) (f29 : 1 * x15 + 0 ≤ 1988) (f30 : 1 * x15 + ((-1) * x7 + 0) ≤ (-12)) (f31 : (-1) * x15 + (1 * x7 + 0) ≤ 12) (f32 : 1 * x14 + 0 ≤ 1984) (f33 : 1 * x14 + ((-1) * x7 + 0) ≤ (-16)) (f34 : (-1) * x14 + (1 * x7 + 0) ≤ 16) (f35 : 1 * x13 + 0 ≤ 1980) (f36 : 1 * x13 + ((-1) * x7 + 0) ≤ (-20)) (f37 : (-1) * x13 + (1 * x7 + 0) ≤ 20) (f39 : 1 * x14 + 0 ≤ 1984) (f40 : 1 * x14 + ((-1) * x7 + 0) ≤ (-16)) (f41 : (-1) * x14 + (1 * x7 + 0) ≤ 16) (f42 : 1 * x13 + 0 ≤ 1980) (f43 : 1 * x13 + ((-1) * x7 + 0) ≤ (-20)) (f44 : (-1) * x13 + (1 * x7 + 0) ≤ 20) (f46 : 1 * x13 + 0 ≤ 1980) (f47 : 1 * x13 + ((-1) * x7 + 0) ≤ (-20)) (f48 : (-1) * x13 + (1 * x7 + 0) ≤ 20) (kz_6_1 : 0 ≤ length_0o6 ∧ length_0o6 ≤ 2000) (ex2 : gx = length_0o6) (ex3 : 0 ≤ gx ∧ gx ≤ 1996) : (-1) * length_0o6 + (1 * gx + 0) ≤ 0 := by
  first | assumption | omega | grind
set_option maxHeartbeats 4000000 in
theorem vc_Ho_feed_5_2 (x7 : Int) (x8 : Int) (x13 : Int) (x14 : Int) (x15 : Int) (x16 : Int) (length_0o6 : Int) (gx : Int) (k7 : 0 ≤ x7 ∧ x7 ≤ 2000) (k8 : (-1) ≤ x8 ∧ x8 ≤ 2000) (k13 : 0 ≤ x13 ∧ x13 ≤ 1996) (k14 : 0 ≤ x14 ∧ x14 ≤ 1996) (k15 : 0 ≤ x15 ∧ x15 ≤ 1996) (k16 : 0 ≤ x16 ∧ x16 ≤ 1996) (f0 : 1 * x16 + 0 ≤ 1992) (f1 : 1 * x16 + ((-1) * x7 + 0) ≤ (-8)) (f2 : (-1) * x16 + (1 * x7 + 0) ≤ 8) (f3 : 1 * x15 + 0 ≤ 1988) (f4 : 1 * x15 + ((-1) * x7 + 0) ≤ (-12)) (f5 : (-1) * x15 + (1 * x7 + 0) ≤ 12) (f6 : 1 * x14 + 0 ≤ 1984) (f7 : 1 * x14 + ((-1) * x7 + 0) ≤ (-16)) (f8 : (-1) * x14 + (1 * x7 + 0) ≤ 16) (f9 : 1 * x13 + 0 ≤ 1980) (f10 : 1 * x13 + ((-1) * x7 + 0) ≤ (-20)) (f11 : (-1) * x13 + (1 * x7 + 0) ≤ 20) (f12 : x8 = x7) (f13 : 1 * length_0o6 + ((-1) * x16 + 0) ≤ 4) (f14 : (-1) * length_0o6 + (1 * x16 + 0) ≤ (-4)) (f16 : 1 * x16 + 0 ≤ 1992) (f17 : 1 * x16 + ((-1) * x7 + 0) ≤ (-8)) (f18 : (-1) * x16 + (1 * x7 + 0) ≤ 8) (f19 : 1 * x15 + 0 ≤ 1988) (f20 : 1 * x15 + ((-1) * x7 + 0) ≤ (-12)) (f21 : (-1) * x15 + (1 * x7 + 0) ≤ 12) (f22 : 1 * x14 + 0 ≤ 1984) (f23 : 1 * x14 + ((-1) * x7 + 0) ≤ (-16)) (f24 : (-1) * x14 + (1 * x7 + 0) ≤ 16) (f25 : 1 * x13 + 0 ≤ 1980) (f26 : 1 * x13 + ((-1) * x7 + 0) ≤ (-20)) (f27 : (-1) * x13 + (1 * x7 + 0) ≤ 20) (f29 : 1 * x15 + 0 ≤ 1988) (f30 : 1 * x15 + ((-1) * x7 + 0) ≤ (-12)) (f31 : (-1) * x15 + (1 * x7 + 0) ≤ 12) (f32 : 1 * x14 + 0 ≤ 1984) (f33 : 1 * x14 + ((-1) * x7 + 0) ≤ (-16)) (f34 : (-1) * x14 + (1 * x7 + 0) ≤ 16) (f35 : 1 * x13 + 0 ≤ 1980) (f36 : 1 * x13 + ((-1) * x7 + 0) ≤ (-20)) (f37 : (-1) * x13 + (1 * x7 + 0) ≤ 20) (f39 : 1 * x14 + 0 ≤ 1984) (f40 : 1 * x14 + ((-1) * x7 + 0) ≤ (-16)) (f41 : (-1) * x14 + (1 * x7 + 0) ≤ 16) (f42 : 1 * x13 + 0 ≤ 1980) (f43 : 1 * x13 + ((-1) * x7 + 0) ≤ (-20)) (f44 : (-1) * x13 + (1 * x7 + 0) ≤ 20) (f46 : 1 * x13 + 0 ≤ 1980) (f47 : 1 * x13 + ((-1) * x7 + 0) ≤ (-20)) (f48 : (-1) * x13 + (1 * x7 + 0) ≤ 20) (kz_6_1 : 0 ≤ length_0o6 ∧ length_0o6 ≤ 2000) (ex2 : gx = length_0o6) (ex3 : 0 ≤ gx ∧ gx ≤ 1996) : 1 * gx + 0 ≤ 1996 := by
  first | assumption | omega | grind
set_option maxHeartbeats 4000000 in
theorem vc_Ho_feed_5_3 (x7 : Int) (x8 : Int) (x13 : Int) (x14 : Int) (x15 : Int) (x16 : Int) (length_0o6 : Int) (gx : Int) (k7 : 0 ≤ x7 ∧ x7 ≤ 2000) (k8 : (-1) ≤ x8 ∧ x8 ≤ 2000) (k13 : 0 ≤ x13 ∧ x13 ≤ 1996) (k14 : 0 ≤ x14 ∧ x14 ≤ 1996) (k15 : 0 ≤ x15 ∧ x15 ≤ 1996) (k16 : 0 ≤ x16 ∧ x16 ≤ 1996) (f0 : 1 * x16 + 0 ≤ 1992) (f1 : 1 * x16 + ((-1) * x7 + 0) ≤ (-8)) (f2 : (-1) * x16 + (1 * x7 + 0) ≤ 8) (f3 : 1 * x15 + 0 ≤ 1988) (f4 : 1 * x15 + ((-1) * x7 + 0) ≤ (-12)) (f5 : (-1) * x15 + (1 * x7 + 0) ≤ 12) (f6 : 1 * x14 + 0 ≤ 1984) (f7 : 1 * x14 + ((-1) * x7 + 0) ≤ (-16)) (f8 : (-1) * x14 + (1 * x7 + 0) ≤ 16) (f9 : 1 * x13 + 0 ≤ 1980) (f10 : 1 * x13 + ((-1) * x7 + 0) ≤ (-20)) (f11 : (-1) * x13 + (1 * x7 + 0) ≤ 20) (f12 : x8 = x7) (f13 : 1 * length_0o6 + ((-1) * x16 + 0) ≤ 4) (f14 : (-1) * length_0o6 + (1 * x16 + 0) ≤ (-4)) (f16 : 1 * x16 + 0 ≤ 1992) (f17 : 1 * x16 + ((-1) * x7 + 0) ≤ (-8)) (f18 : (-1) * x16 + (1 * x7 + 0) ≤ 8) (f19 : 1 * x15 + 0 ≤ 1988) (f20 : 1 * x15 + ((-1) * x7 + 0) ≤ (-12)) (f21 : (-1) * x15 + (1 * x7 + 0) ≤ 12) (f22 : 1 * x14 + 0 ≤ 1984) (f23 : 1 * x14 + ((-1) * x7 + 0) ≤ (-16)) (f24 : (-1) * x14 + (1 * x7 + 0) ≤ 16) (f25 : 1 * x13 + 0 ≤ 1980) (f26 : 1 * x13 + ((-1) * x7 + 0) ≤ (-20)) (f27 : (-1) * x13 + (1 * x7 + 0) ≤ 20) (f29 : 1 * x15 + 0 ≤ 1988) (f30 : 1 * x15 + ((-1) * x7 + 0) ≤ (-12)) (f31 : (-1) * x15 + (1 * x7 + 0) ≤ 12) (f32 : 1 * x14 + 0 ≤ 1984) (f33 : 1 * x14 + ((-1) * x7 + 0) ≤ (-16)) (f34 : (-1) * x14 + (1 * x7 + 0) ≤ 16) (f35 : 1 * x13 + 0 ≤ 1980) (f36 : 1 * x13 + ((-1) * x7 + 0) ≤ (-20)) (f37 : (-1) * x13 + (1 * x7 + 0) ≤ 20) (f39 : 1 * x14 + 0 ≤ 1984) (f40 : 1 * x14 + ((-1) * x7 + 0) ≤ (-16)) (f41 : (-1) * x14 + (1 * x7 + 0) ≤ 16) (f42 : 1 * x13 + 0 ≤ 1980) (f43 : 1 * x13 + ((-1) * x7 + 0) ≤ (-20)) (f44 : (-1) * x13 + (1 * x7 + 0) ≤ 20) (f46 : 1 * x13 + 0 ≤ 1980) (f47 : 1 * x13 + ((-1) * x7 + 0) ≤ (-20)) (f48 : (-1) * x13 + (1 * x7 + 0) ≤ 20) (kz_6_1 : 0 ≤ length_0o6 ∧ length_0o6 ≤ 2000) (ex2 : gx = length_0o6) (ex3 : 0 ≤ gx ∧ gx ≤ 1996) : 1 * gx + ((-1) * x7 + 0) ≤ (-4) := by
  first | assumption | omega | grind
set_option maxHeartbeats 4000000 in
theorem vc_Ho_feed_5_4 (x7 : Int) (x8 : Int) (x13 : Int) (x14 : Int) (x15 : Int) (x16 : Int) (length_0o6 : Int) (gx : Int) (k7 : 0 ≤ x7 ∧ x7 ≤ 2000) (k8 : (-1) ≤ x8 ∧ x8 ≤ 2000) (k13 : 0 ≤ x13 ∧ x13 ≤ 1996) (k14 : 0 ≤ x14 ∧ x14 ≤ 1996) (k15 : 0 ≤ x15 ∧ x15 ≤ 1996) (k16 : 0 ≤ x16 ∧ x16 ≤ 1996) (f0 : 1 * x16 + 0 ≤ 1992) (f1 : 1 * x16 + ((-1) * x7 + 0) ≤ (-8)) (f2 : (-1) * x16 + (1 * x7 + 0) ≤ 8) (f3 : 1 * x15 + 0 ≤ 1988) (f4 : 1 * x15 + ((-1) * x7 + 0) ≤ (-12)) (f5 : (-1) * x15 + (1 * x7 + 0) ≤ 12) (f6 : 1 * x14 + 0 ≤ 1984) (f7 : 1 * x14 + ((-1) * x7 + 0) ≤ (-16)) (f8 : (-1) * x14 + (1 * x7 + 0) ≤ 16) (f9 : 1 * x13 + 0 ≤ 1980) (f10 : 1 * x13 + ((-1) * x7 + 0) ≤ (-20)) (f11 : (-1) * x13 + (1 * x7 + 0) ≤ 20) (f12 : x8 = x7) (f13 : 1 * length_0o6 + ((-1) * x16 + 0) ≤ 4) (f14 : (-1) * length_0o6 + (1 * x16 + 0) ≤ (-4)) (f16 : 1 * x16 + 0 ≤ 1992) (f17 : 1 * x16 + ((-1) * x7 + 0) ≤ (-8)) (f18 : (-1) * x16 + (1 * x7 + 0) ≤ 8) (f19 : 1 * x15 + 0 ≤ 1988) (f20 : 1 * x15 + ((-1) * x7 + 0) ≤ (-12)) (f21 : (-1) * x15 + (1 * x7 + 0) ≤ 12) (f22 : 1 * x14 + 0 ≤ 1984) (f23 : 1 * x14 + ((-1) * x7 + 0) ≤ (-16)) (f24 : (-1) * x14 + (1 * x7 + 0) ≤ 16) (f25 : 1 * x13 + 0 ≤ 1980) (f26 : 1 * x13 + ((-1) * x7 + 0) ≤ (-20)) (f27 : (-1) * x13 + (1 * x7 + 0) ≤ 20) (f29 : 1 * x15 + 0 ≤ 1988) (f30 : 1 * x15 + ((-1) * x7 + 0) ≤ (-12)) (f31 : (-1) * x15 + (1 * x7 + 0) ≤ 12) (f32 : 1 * x14 + 0 ≤ 1984) (f33 : 1 * x14 + ((-1) * x7 + 0) ≤ (-16)) (f34 : (-1) * x14 + (1 * x7 + 0) ≤ 16) (f35 : 1 * x13 + 0 ≤ 1980) (f36 : 1 * x13 + ((-1) * x7 + 0) ≤ (-20)) (f37 : (-1) * x13 + (1 * x7 + 0) ≤ 20) (f39 : 1 * x14 + 0 ≤ 1984) (f40 : 1 * x14 + ((-1) * x7 + 0) ≤ (-16)) (f41 : (-1) * x14 + (1 * x7 + 0) ≤ 16) (f42 : 1 * x13 + 0 ≤ 1980) (f43 : 1 * x13 + ((-1) * x7 + 0) ≤ (-20)) (f44 : (-1) * x13 + (1 * x7 + 0) ≤ 20) (f46 : 1 * x13 + 0 ≤ 1980) (f47 : 1 * x13 + ((-1) * x7 + 0) ≤ (-20)) (f48 : (-1) * x13 + (1 * x7 + 0) ≤ 20) (kz_6_1 : 0 ≤ length_0o6 ∧ length_0o6 ≤ 2000) (ex2 : gx = length_0o6) (ex3 : 0 ≤ gx ∧ gx ≤ 1996) : (-1) * gx + (1 * x7 + 0) ≤ 4 := by
  first | assumption | omega | grind
def o_Ho_feed_5 : or_T := (57, 17, [(6, (2, 0, 0, [8])), (7, (0, 0, 2000, [])), (8, (0, -1, 2000, [])), (13, (0, 0, 1996, [])), (14, (0, 0, 1996, [])), (15, (0, 0, 1996, [])), (16, (0, 0, 1996, []))], [(23, [16], [1992, 1]), (23, [16, 7], [-8, 1, -1]), (23, [16, 7], [8, -1, 1]), (23, [15], [1988, 1]), (23, [15, 7], [-12, 1, -1]), (23, [15, 7], [12, -1, 1]), (23, [14], [1984, 1]), (23, [14, 7], [-16, 1, -1]), (23, [14, 7], [16, -1, 1]), (23, [13], [1980, 1]), (23, [13, 7], [-20, 1, -1]), (23, [13, 7], [20, -1, 1]), (20, [8, 7], [50, 0, 0, 1, 2, 1, 0, 1, 1]), (20, [6, 16], [30, 4, 1, 1, 1, -1, 0, 0]), (20, [6, 16], [30, -4, -1, 1, 1, 1, 0, 0]), (102, [16], [649037107316853453566312041152512, 8001]), (23, [16], [1992, 1]), (23, [16, 7], [-8, 1, -1]), (23, [16, 7], [8, -1, 1]), (23, [15], [1988, 1]), (23, [15, 7], [-12, 1, -1]), (23, [15, 7], [12, -1, 1]), (23, [14], [1984, 1]), (23, [14, 7], [-16, 1, -1]), (23, [14, 7], [16, -1, 1]), (23, [13], [1980, 1]), (23, [13, 7], [-20, 1, -1]), (23, [13, 7], [20, -1, 1]), (102, [15], [649037107316853453566312041152512, 8001]), (23, [15], [1988, 1]), (23, [15, 7], [-12, 1, -1]), (23, [15, 7], [12, -1, 1]), (23, [14], [1984, 1]), (23, [14, 7], [-16, 1, -1]), (23, [14, 7], [16, -1, 1]), (23, [13], [1980, 1]), (23, [13, 7], [-20, 1, -1]), (23, [13, 7], [20, -1, 1]), (102, [14], [649037107316853453566312041152512, 8001]), (23, [14], [1984, 1]), (23, [14, 7], [-16, 1, -1]), (23, [14, 7], [16, -1, 1]), (23, [13], [1980, 1]), (23, [13, 7], [-20, 1, -1]), (23, [13, 7], [20, -1, 1]), (102, [13], [649037107316853453566312041152512, 8001]), (23, [13], [1980, 1]), (23, [13, 7], [-20, 1, -1]), (23, [13, 7], [20, -1, 1])], [], [(0, 0, 1996, [])], [(20, [6, 17], [30, 0, 1, 1, 1, -1, 0, 0]), (20, [6, 17], [30, 0, -1, 1, 1, 1, 0, 0]), (23, [17], [1996, 1]), (23, [17, 7], [-4, 1, -1]), (23, [17, 7], [4, -1, 1])], [], [])
theorem oo_Ho_feed_5 {kA : Nat → ClassId} : or_ok PRD kA GG o_Ho_feed_5 := by
  refine or_mk fun A ta ws vs hD hth hl => ?_
  intro t6 r6 t7 k7 t8 k8 t13 k13 t14 k14 t15 k15 t16 k16 f0 f1 f2 f3 f4 f5 f6 f7 f8 f9 f10 f11 f12 f13 f14 ta1 w1 le1 s1 f16 f17 f18 f19 f20 f21 f22 f23 f24 f25 f26 f27 ta2 w2 le2 s2 f29 f30 f31 f32 f33 f34 f35 f36 f37 ta3 w3 le3 s3 f39 f40 f41 f42 f43 f44 ta4 w4 le4 s4 f46 f47 f48
  replace f0 := shm_770 f0
  replace f1 := shm_771 f1
  replace f2 := shm_772 f2
  replace f3 := shm_767 f3
  replace f4 := shm_768 f4
  replace f5 := shm_769 f5
  replace f6 := shm_764 f6
  replace f7 := shm_765 f7
  replace f8 := shm_766 f8
  replace f9 := shm_761 f9
  replace f10 := shm_762 f10
  replace f11 := shm_763 f11
  replace f12 := shm_48 f12
  replace f13 := shm_125 f13
  replace f14 := shm_126 f14
  replace f16 := shm_770 f16
  replace f17 := shm_771 f17
  replace f18 := shm_772 f18
  replace f19 := shm_767 f19
  replace f20 := shm_768 f20
  replace f21 := shm_769 f21
  replace f22 := shm_764 f22
  replace f23 := shm_765 f23
  replace f24 := shm_766 f24
  replace f25 := shm_761 f25
  replace f26 := shm_762 f26
  replace f27 := shm_763 f27
  replace f29 := shm_767 f29
  replace f30 := shm_768 f30
  replace f31 := shm_769 f31
  replace f32 := shm_764 f32
  replace f33 := shm_765 f33
  replace f34 := shm_766 f34
  replace f35 := shm_761 f35
  replace f36 := shm_762 f36
  replace f37 := shm_763 f37
  replace f39 := shm_764 f39
  replace f40 := shm_765 f40
  replace f41 := shm_766 f41
  replace f42 := shm_761 f42
  replace f43 := shm_762 f43
  replace f44 := shm_763 f44
  replace f46 := shm_761 f46
  replace f47 := shm_762 f47
  replace f48 := shm_763 f48
  have kz_6_1 := fdq_11 hD hth r6
  have kv0 := fdq_11 hD hth r6
  obtain ⟨x, ex, hx⟩ := iv_ex (ta := ta) (lo := 0) (hi := 1996) (z := w_fi ws (n_v vs 6) 1) (by omega) (by omega) (by omega) (by omega)
  have ex2 : v_iv (Value.int x) = w_fi ws (n_v vs 6) 1 := ex
  have ex3 : 0 ≤ v_iv (Value.int x) ∧ v_iv (Value.int x) ≤ 1996 := tv_rng hx
  have e_6 : n_v (vs ++ [Value.int x]) 6 = n_v vs 6 := n_v_old (by rw [hl]; decide)
  have e_7 : n_v (vs ++ [Value.int x]) 7 = n_v vs 7 := n_v_old (by rw [hl]; decide)
  have e_17 : n_v (vs ++ [Value.int x]) 17 = Value.int x := n_v_new hl
  have nf0 : fc_1 PRD (20, [6, 17], [30, 0, 1, 1, 1, -1, 0, 0]) ws (vs ++ [Value.int x]) := by
    refine ⟨nf_inA hl rfl, sgq_121 ?_⟩
    · show 1 * w_fi ws (n_v (vs ++ [Value.int x]) 6) 1 + ((-1) * v_iv (n_v (vs ++ [Value.int x]) 17) + 0) ≤ 0
      simp only [e_6, e_17]
      exact vc_Ho_feed_5_0 (v_iv (n_v vs 7)) (v_iv (n_v vs 8)) (v_iv (n_v vs 13)) (v_iv (n_v vs 14)) (v_iv (n_v vs 15)) (v_iv (n_v vs 16)) (w_fi ws (n_v vs 6) 1) (v_iv (Value.int x)) k7 k8 k13 k14 k15 k16 f0 f1 f2 f3 f4 f5 f6 f7 f8 f9 f10 f11 f12 f13 f14 f16 f17 f18 f19 f20 f21 f22 f23 f24 f25 f26 f27 f29 f30 f31 f32 f33 f34 f35 f36 f37 f39 f40 f41 f42 f43 f44 f46 f47 f48 kz_6_1 ex2 ex3
  have nf1 : fc_1 PRD (20, [6, 17], [30, 0, -1, 1, 1, 1, 0, 0]) ws (vs ++ [Value.int x]) := by
    refine ⟨nf_inA hl rfl, sgq_122 ?_⟩
    · show (-1) * w_fi ws (n_v (vs ++ [Value.int x]) 6) 1 + (1 * v_iv (n_v (vs ++ [Value.int x]) 17) + 0) ≤ 0
      simp only [e_6, e_17]
      exact vc_Ho_feed_5_1 (v_iv (n_v vs 7)) (v_iv (n_v vs 8)) (v_iv (n_v vs 13)) (v_iv (n_v vs 14)) (v_iv (n_v vs 15)) (v_iv (n_v vs 16)) (w_fi ws (n_v vs 6) 1) (v_iv (Value.int x)) k7 k8 k13 k14 k15 k16 f0 f1 f2 f3 f4 f5 f6 f7 f8 f9 f10 f11 f12 f13 f14 f16 f17 f18 f19 f20 f21 f22 f23 f24 f25 f26 f27 f29 f30 f31 f32 f33 f34 f35 f36 f37 f39 f40 f41 f42 f43 f44 f46 f47 f48 kz_6_1 ex2 ex3
  have nf2 : fc_1 PRD (23, [17], [1996, 1]) ws (vs ++ [Value.int x]) := by
    refine ⟨nf_inA hl rfl, sgq_773 ?_⟩
    · show 1 * v_iv (n_v (vs ++ [Value.int x]) 17) + 0 ≤ 1996
      rw [e_17]
      exact vc_Ho_feed_5_2 (v_iv (n_v vs 7)) (v_iv (n_v vs 8)) (v_iv (n_v vs 13)) (v_iv (n_v vs 14)) (v_iv (n_v vs 15)) (v_iv (n_v vs 16)) (w_fi ws (n_v vs 6) 1) (v_iv (Value.int x)) k7 k8 k13 k14 k15 k16 f0 f1 f2 f3 f4 f5 f6 f7 f8 f9 f10 f11 f12 f13 f14 f16 f17 f18 f19 f20 f21 f22 f23 f24 f25 f26 f27 f29 f30 f31 f32 f33 f34 f35 f36 f37 f39 f40 f41 f42 f43 f44 f46 f47 f48 kz_6_1 ex2 ex3
  have nf3 : fc_1 PRD (23, [17, 7], [-4, 1, -1]) ws (vs ++ [Value.int x]) := by
    refine ⟨nf_inA hl rfl, sgq_774 ?_⟩
    · show 1 * v_iv (n_v (vs ++ [Value.int x]) 17) + ((-1) * v_iv (n_v (vs ++ [Value.int x]) 7) + 0) ≤ (-4)
      simp only [e_7, e_17]
      exact vc_Ho_feed_5_3 (v_iv (n_v vs 7)) (v_iv (n_v vs 8)) (v_iv (n_v vs 13)) (v_iv (n_v vs 14)) (v_iv (n_v vs 15)) (v_iv (n_v vs 16)) (w_fi ws (n_v vs 6) 1) (v_iv (Value.int x)) k7 k8 k13 k14 k15 k16 f0 f1 f2 f3 f4 f5 f6 f7 f8 f9 f10 f11 f12 f13 f14 f16 f17 f18 f19 f20 f21 f22 f23 f24 f25 f26 f27 f29 f30 f31 f32 f33 f34 f35 f36 f37 f39 f40 f41 f42 f43 f44 f46 f47 f48 kz_6_1 ex2 ex3
  have nf4 : fc_1 PRD (23, [17, 7], [4, -1, 1]) ws (vs ++ [Value.int x]) := by
    refine ⟨nf_inA hl rfl, sgq_775 ?_⟩
    · show (-1) * v_iv (n_v (vs ++ [Value.int x]) 17) + (1 * v_iv (n_v (vs ++ [Value.int x]) 7) + 0) ≤ 4
      simp only [e_7, e_17]
      exact vc_Ho_feed_5_4 (v_iv (n_v vs 7)) (v_iv (n_v vs 8)) (v_iv (n_v vs 13)) (v_iv (n_v vs 14)) (v_iv (n_v vs 15)) (v_iv (n_v vs 16)) (w_fi ws (n_v vs 6) 1) (v_iv (Value.int x)) k7 k8 k13 k14 k15 k16 f0 f1 f2 f3 f4 f5 f6 f7 f8 f9 f10 f11 f12 f13 f14 f16 f17 f18 f19 f20 f21 f22 f23 f24 f25 f26 f27 f29 f30 f31 f32 f33 f34 f35 f36 f37 f39 f40 f41 f42 f43 f44 f46 f47 f48 kz_6_1 ex2 ex3
  exact ⟨(fun _ h => (by cases h)), [Value.int x], ag_one hx, List.forall_mem_cons.mpr ⟨⟨show (20 : Nat) < 100 from by decide, nf0⟩, List.forall_mem_cons.mpr ⟨⟨show (20 : Nat) < 100 from by decide, nf1⟩, List.forall_mem_cons.mpr ⟨⟨show (23 : Nat) < 100 from by decide, nf2⟩, List.forall_mem_cons.mpr ⟨⟨show (23 : Nat) < 100 from by decide, nf3⟩, List.forall_mem_cons.mpr ⟨⟨show (23 : Nat) < 100 from by decide, nf4⟩, (fun _ h => (by cases h))⟩⟩⟩⟩⟩, (fun _ h => (by cases h))⟩
set_option maxHeartbeats 4000000 in
theorem vc_Ho_feed_6_0 (x7 : Int) (x8 : Int) (x13 : Int) (x14 : Int) (x15 : Int) (x16 : Int) (x17 : Int) (x18 : Int) (length_0o6 : Int) (k7 : 0 ≤ x7 ∧ x7 ≤ 2000) (k8 : (-1) ≤ x8 ∧ x8 ≤ 2000) (k13 : 0 ≤ x13 ∧ x13 ≤ 1996) (k14 : 0 ≤ x14 ∧ x14 ≤ 1996) (k15 : 0 ≤ x15 ∧ x15 ≤ 1996) (k16 : 0 ≤ x16 ∧ x16 ≤ 1996) (k17 : 0 ≤ x17 ∧ x17 ≤ 1996) (k18 : 0 ≤ x18 ∧ x18 ≤ 2000) (g0 : x18 = length_0o6) (f1 : 1 * x17 + 0 ≤ 1996) (f2 : 1 * x17 + ((-1) * x7 + 0) ≤ (-4)) (f3 : (-1) * x17 + (1 * x7 + 0) ≤ 4) (f4 : 1 * x16 + 0 ≤ 1992) (f5 : 1 * x16 + ((-1) * x7 + 0) ≤ (-8)) (f6 : (-1) * x16 + (1 * x7 + 0) ≤ 8) (f7 : 1 * x15 + 0 ≤ 1988) (f8 : 1 * x15 + ((-1) * x7 + 0) ≤ (-12)) (f9 : (-1) * x15 + (1 * x7 + 0) ≤ 12) (f10 : 1 * x14 + 0 ≤ 1984) (f11 : 1 * x14 + ((-1) * x7 + 0) ≤ (-16)) (f12 : (-1) * x14 + (1 * x7 + 0) ≤ 16) (f13 : 1 * x13 + 0 ≤ 1980) (f14 : 1 * x13 + ((-1) * x7 + 0) ≤ (-20)) (f15 : (-1) * x13 + (1 * x7 + 0) ≤ 20) (f16 : x8 = x7) (f17 : 1 * length_0o6 + ((-1) * x17 + 0) ≤ 4) (f18 : (-1) * length_0o6 + (1 * x17 + 0) ≤ (-4)) (f20 : 1 * x17 + 0 ≤ 1996) (f21 : 1 * x17 + ((-1) * x7 + 0) ≤ (-4)) (f22 : (-1) * x17 + (1 * x7 + 0) ≤ 4) (f23 : 1 * x16 + 0 ≤ 1992) (f24 : 1 * x16 + ((-1) * x7 + 0) ≤ (-8)) (f25 : (-1) * x16 + (1 * x7 + 0) ≤ 8) (f26 : 1 * x15 + 0 ≤ 1988) (f27 : 1 * x15 + ((-1) * x7 + 0) ≤ (-12)) (f28 : (-1) * x15 + (1 * x7 + 0) ≤ 12) (f29 : 1 * x14 + 0 ≤ 1984) (f30 : 1 * x14 + ((-1) * x7 + 0) ≤ (-16)) (f31 : (-1) * x14 + (1 * x7 + 0) ≤ 16) (f32 : 1 * x13 + 0 ≤ 1980) (f33 : 1 * x13 + ((-1) * x7 + 0) ≤ (-20)) (f34 : (-1) * x13 + (1 * x7 + 0) ≤ 20) (f36 : 1 * x16 + 0 ≤ 1992) (f37 : 1 * x16 + ((-1) * x7 + 0) ≤ (-8)) (f38 : (-1) * x16 + (1 * x7 + 0) ≤ 8) (f39 : 1 * x15 + 0 ≤ 1988) (f40 : 1 * x15 + ((-1) * x7 + 0) ≤ (-12)) (f41 : (-1) * x15 + (1 * x7 + 0) ≤ 12) (f42 : 1 * x14 + 0 ≤ 1984) (f43 : 1 * x14 + ((-1) * x7 + 0) ≤ (-16)) (f44 : (-1) * x14 + (1 * x7 + 0) ≤ 16) (f45 : 1 * x13 + 0 ≤ 1980) (f46 : 1 * x13 + ((-1) * x7 + 0) ≤ (-20)) (f47 : (-1) * x13 + (1 * x7 + 0) ≤ 20) (f49 : 1 * x15 + 0 ≤ 1988) (f50 : 1 * x15 + ((-1) * x7 + 0) ≤ (-12)) (f51 : (-1) * x15 + (1 * x7 + 0) ≤ 12) (f52 : 1 * x14 + 0 ≤ 1984) (f53 : 1 * x14 + ((-1) * x7 + 0) ≤ (-16)) (f54 : (-1) * x14 + (1 * x7 + 0) ≤ 16) (f55 : 1 * x13 + 0 ≤ 1980) (f56 : 1 * x13 + ((-1) * x7 + 0) ≤ (-20)) (f57 : (-1) * x13 + (1 * x7 + 0) ≤ 20) (f59 : 1 * x14 + 0 ≤ 1984) (f60 : 1 * x14 + ((-1) * x7 + 0) ≤ (-16)) (f61 : (-1) * x14 + (1 * x7 + 0) ≤ 16) (f62 : 1 * x13 + 0 ≤ 1980) (f63 : 1 * x13 + ((-1) * x7 + 0) ≤ (-20)) (f64 : (-1) * x13 + (1 * x7 + 0) ≤ 20) (f66 : 1 * x13 + 0 ≤ 1980) (f67 : 1 * x13 + ((-1) * x7 + 0) ≤ (-20)) (f68 : (-1) * x13 + (1 * x7 + 0) ≤ 20) (kz_6_1 : 0 ≤ length_0o6 ∧ length_0o6 ≤ 2000) : length_0o6 = x7 := by
  first | assumption | omega | grind
set_option maxHeartbeats 4000000 in
theorem vc_Ho_feed_6_1 (x7 : Int) (x8 : Int) (x13 : Int) (x14 : Int) (x15 : Int) (x16 : Int) (x17 : Int) (x18 : Int) (length_0o6 : Int) (k7 : 0 ≤ x7 ∧ x7 ≤ 2000) (k8 : (-1) ≤ x8 ∧ x8 ≤ 2000) (k13 : 0 ≤ x13 ∧ x13 ≤ 1996) (k14 : 0 ≤ x14 ∧ x14 ≤ 1996) (k15 : 0 ≤ x15 ∧ x15 ≤ 1996) (k16 : 0 ≤ x16 ∧ x16 ≤ 1996) (k17 : 0 ≤ x17 ∧ x17 ≤ 1996) (k18 : 0 ≤ x18 ∧ x18 ≤ 2000) (g0 : x18 = length_0o6) (f1 : 1 * x17 + 0 ≤ 1996) (f2 : 1 * x17 + ((-1) * x7 + 0) ≤ (-4)) (f3 : (-1) * x17 + (1 * x7 + 0) ≤ 4) (f4 : 1 * x16 + 0 ≤ 1992) (f5 : 1 * x16 + ((-1) * x7 + 0) ≤ (-8)) (f6 : (-1) * x16 + (1 * x7 + 0) ≤ 8) (f7 : 1 * x15 + 0 ≤ 1988) (f8 : 1 * x15 + ((-1) * x7 + 0) ≤ (-12)) (f9 : (-1) * x15 + (1 * x7 + 0) ≤ 12) (f10 : 1 * x14 + 0 ≤ 1984) (f11 : 1 * x14 + ((-1) * x7 + 0) ≤ (-16)) (f12 : (-1) * x14 + (1 * x7 + 0) ≤ 16) (f13 : 1 * x13 + 0 ≤ 1980) (f14 : 1 * x13 + ((-1) * x7 + 0) ≤ (-20)) (f15 : (-1) * x13 + (1 * x7 + 0) ≤ 20) (f16 : x8 = x7) (f17 : 1 * length_0o6 + ((-1) * x17 + 0) ≤ 4) (f18 : (-1) * length_0o6 + (1 * x17 + 0) ≤ (-4)) (f20 : 1 * x17 + 0 ≤ 1996) (f21 : 1 * x17 + ((-1) * x7 + 0) ≤ (-4)) (f22 : (-1) * x17 + (1 * x7 + 0) ≤ 4) (f23 : 1 * x16 + 0 ≤ 1992) (f24 : 1 * x16 + ((-1) * x7 + 0) ≤ (-8)) (f25 : (-1) * x16 + (1 * x7 + 0) ≤ 8) (f26 : 1 * x15 + 0 ≤ 1988) (f27 : 1 * x15 + ((-1) * x7 + 0) ≤ (-12)) (f28 : (-1) * x15 + (1 * x7 + 0) ≤ 12) (f29 : 1 * x14 + 0 ≤ 1984) (f30 : 1 * x14 + ((-1) * x7 + 0) ≤ (-16)) (f31 : (-1) * x14 + (1 * x7 + 0) ≤ 16) (f32 : 1 * x13 + 0 ≤ 1980) (f33 : 1 * x13 + ((-1) * x7 + 0) ≤ (-20)) (f34 : (-1) * x13 + (1 * x7 + 0) ≤ 20) (f36 : 1 * x16 + 0 ≤ 1992) (f37 : 1 * x16 + ((-1) * x7 + 0) ≤ (-8)) (f38 : (-1) * x16 + (1 * x7 + 0) ≤ 8) (f39 : 1 * x15 + 0 ≤ 1988) (f40 : 1 * x15 + ((-1) * x7 + 0) ≤ (-12)) (f41 : (-1) * x15 + (1 * x7 + 0) ≤ 12) (f42 : 1 * x14 + 0 ≤ 1984) (f43 : 1 * x14 + ((-1) * x7 + 0) ≤ (-16)) (f44 : (-1) * x14 + (1 * x7 + 0) ≤ 16) (f45 : 1 * x13 + 0 ≤ 1980) (f46 : 1 * x13 + ((-1) * x7 + 0) ≤ (-20)) (f47 : (-1) * x13 + (1 * x7 + 0) ≤ 20) (f49 : 1 * x15 + 0 ≤ 1988) (f50 : 1 * x15 + ((-1) * x7 + 0) ≤ (-12)) (f51 : (-1) * x15 + (1 * x7 + 0) ≤ 12) (f52 : 1 * x14 + 0 ≤ 1984) (f53 : 1 * x14 + ((-1) * x7 + 0) ≤ (-16)) (f54 : (-1) * x14 + (1 * x7 + 0) ≤ 16) (f55 : 1 * x13 + 0 ≤ 1980) (f56 : 1 * x13 + ((-1) * x7 + 0) ≤ (-20)) (f57 : (-1) * x13 + (1 * x7 + 0) ≤ 20) (f59 : 1 * x14 + 0 ≤ 1984) (f60 : 1 * x14 + ((-1) * x7 + 0) ≤ (-16)) (f61 : (-1) * x14 + (1 * x7 + 0) ≤ 16) (f62 : 1 * x13 + 0 ≤ 1980) (f63 : 1 * x13 + ((-1) * x7 + 0) ≤ (-20)) (f64 : (-1) * x13 + (1 * x7 + 0) ≤ 20) (f66 : 1 * x13 + 0 ≤ 1980) (f67 : 1 * x13 + ((-1) * x7 + 0) ≤ (-20)) (f68 : (-1) * x13 + (1 * x7 + 0) ≤ 20) (kz_6_1 : 0 ≤ length_0o6 ∧ length_0o6 ≤ 2000) : x18 = x8 := by
  first | assumption | omega | grind
def o_Ho_feed_6 : or_T := (67, 19, [(6, (2, 0, 0, [8])), (7, (0, 0, 2000, [])), (8, (0, -1, 2000, [])), (13, (0, 0, 1996, [])), (14, (0, 0, 1996, [])), (15, (0, 0, 1996, [])), (16, (0, 0, 1996, [])), (17, (0, 0, 1996, [])), (18, (0, 0, 2000, []))], [(9, [18, 6], [1]), (23, [17], [1996, 1]), (23, [17, 7], [-4, 1, -1]), (23, [17, 7], [4, -1, 1]), (23, [16], [1992, 1]), (23, [16, 7], [-8, 1, -1]), (23, [16, 7], [8, -1, 1]), (23, [15], [1988, 1]), (23, [15, 7], [-12, 1, -1]), (23, [15, 7], [12, -1, 1]), (23, [14], [1984, 1]), (23, [14, 7], [-16, 1, -1]), (23, [14, 7], [16, -1, 1]), (23, [13], [1980, 1]), (23, [13, 7], [-20, 1, -1]), (23, [13, 7], [20, -1, 1]), (20, [8, 7], [50, 0, 0, 1, 2, 1, 0, 1, 1]), (20, [6, 17], [30, 4, 1, 1, 1, -1, 0, 0]), (20, [6, 17], [30, -4, -1, 1, 1, 1, 0, 0]), (102, [17], [649037107316853453566312041152512, 8001]), (23, [17], [1996, 1]), (23, [17, 7], [-4, 1, -1]), (23, [17, 7], [4, -1, 1]), (23, [16], [1992, 1]), (23, [16, 7], [-8, 1, -1]), (23, [16, 7], [8, -1, 1]), (23, [15], [1988, 1]), (23, [15, 7], [-12, 1, -1]), (23, [15, 7], [12, -1, 1]), (23, [14], [1984, 1]), (23, [14, 7], [-16, 1, -1]), (23, [14, 7], [16, -1, 1]), (23, [13], [1980, 1]), (23, [13, 7], [-20, 1, -1]), (23, [13, 7], [20, -1, 1]), (102, [16], [649037107316853453566312041152512, 8001]), (23, [16], [1992, 1]), (23, [16, 7], [-8, 1, -1]), (23, [16, 7], [8, -1, 1]), (23, [15], [1988, 1]), (23, [15, 7], [-12, 1, -1]), (23, [15, 7], [12, -1, 1]), (23, [14], [1984, 1]), (23, [14, 7], [-16, 1, -1]), (23, [14, 7], [16, -1, 1]), (23, [13], [1980, 1]), (23, [13, 7], [-20, 1, -1]), (23, [13, 7], [20, -1, 1]), (102, [15], [649037107316853453566312041152512, 8001]), (23, [15], [1988, 1]), (23, [15, 7], [-12, 1, -1]), (23, [15, 7], [12, -1, 1]), (23, [14], [1984, 1]), (23, [14, 7], [-16, 1, -1]), (23, [14, 7], [16, -1, 1]), (23, [13], [1980, 1]), (23, [13, 7], [-20, 1, -1]), (23, [13, 7], [20, -1, 1]), (102, [14], [649037107316853453566312041152512, 8001]), (23, [14], [1984, 1]), (23, [14, 7], [-16, 1, -1]), (23, [14, 7], [16, -1, 1]), (23, [13], [1980, 1]), (23, [13, 7], [-20, 1, -1]), (23, [13, 7], [20, -1, 1]), (102, [13], [649037107316853453566312041152512, 8001]), (23, [13], [1980, 1]), (23, [13, 7], [-20, 1, -1]), (23, [13, 7], [20, -1, 1])], [], [], [(20, [6, 7], [50, 1, 0, 1, 1, 3, 2, 0, 1, 1, 1]), (20, [18, 8], [50, 0, 0, 1, 2, 1, 0, 1, 1])], [], [])
theorem oo_Ho_feed_6 {kA : Nat → ClassId} : or_ok PRD kA GG o_Ho_feed_6 := by
  refine or_mk fun A ta ws vs hD hth hl => ?_
  intro t6 r6 t7 k7 t8 k8 t13 k13 t14 k14 t15 k15 t16 k16 t17 k17 t18 k18 f0 f1 f2 f3 f4 f5 f6 f7 f8 f9 f10 f11 f12 f13 f14 f15 f16 f17 f18 ta1 w1 le1 s1 f20 f21 f22 f23 f24 f25 f26 f27 f28 f29 f30 f31 f32 f33 f34 ta2 w2 le2 s2 f36 f37 f38 f39 f40 f41 f42 f43 f44 f45 f46 f47 ta3 w3 le3 s3 f49 f50 f51 f52 f53 f54 f55 f56 f57 ta4 w4 le4 s4 f59 f60 f61 f62 f63 f64 ta5 w5 le5 s5 f66 f67 f68
  replace f0 := shm_127 f0
  have g0 : v_iv (n_v vs 18) = w_fi ws (n_v vs 6) 1 := congrArg v_iv f0
  have kz_6_1 := fdq_11 hD hth r6
  have nf0 : fc_1 PRD (20, [6, 7], [50, 1, 0, 1, 1, 3, 2, 0, 1, 1, 1]) ws (vs) := ⟨nf_in hl rfl, sgq_776 (vc_Ho_feed_6_0 (v_iv (n_v vs 7)) (v_iv (n_v vs 8)) (v_iv (n_v vs 13)) (v_iv (n_v vs 14)) (v_iv (n_v vs 15)) (v_iv (n_v vs 16)) (v_iv (n_v vs 17)) (v_iv (n_v vs 18)) (w_fi ws (n_v vs 6) 1) k7 k8 k13 k14 k15 k16 k17 k18 g0 (shm_773 f1) (shm_774 f2) (shm_775 f3) (shm_770 f4) (shm_771 f5) (shm_772 f6) (shm_767 f7) (shm_768 f8) (shm_769 f9) (shm_764 f10) (shm_765 f11) (shm_766 f12) (shm_761 f13) (shm_762 f14) (shm_763 f15) (shm_48 f16) (shm_125 f17) (shm_126 f18) (shm_773 f20) (shm_774 f21) (shm_775 f22) (shm_770 f23) (shm_771 f24) (shm_772 f25) (shm_767 f26) (shm_768 f27) (shm_769 f28) (shm_764 f29) (shm_765 f30) (shm_766 f31) (shm_761 f32) (shm_762 f33) (shm_763 f34) (shm_770 f36) (shm_771 f37) (shm_772 f38) (shm_767 f39) (shm_768 f40) (shm_769 f41) (shm_764 f42) (shm_765 f43) (shm_766 f44) (shm_761 f45) (shm_762 f46) (shm_763 f47) (shm_767 f49) (shm_768 f50) (shm_769 f51) (shm_764 f52) (shm_765 f53) (shm_766 f54) (shm_761 f55) (shm_762 f56) (shm_763 f57) (shm_764 f59) (shm_765 f60) (shm_766 f61) (shm_761 f62) (shm_762 f63) (shm_763 f64) (shm_761 f66) (shm_762 f67) (shm_763 f68) kz_6_1)⟩
  have nf1 : fc_1 PRD (20, [18, 8], [50, 0, 0, 1, 2, 1, 0, 1, 1]) ws (vs) := ⟨nf_in hl rfl, sgq_48 (vc_Ho_feed_6_1 (v_iv (n_v vs 7)) (v_iv (n_v vs 8)) (v_iv (n_v vs 13)) (v_iv (n_v vs 14)) (v_iv (n_v vs 15)) (v_iv (n_v vs 16)) (v_iv (n_v vs 17)) (v_iv (n_v vs 18)) (w_fi ws (n_v vs 6) 1) k7 k8 k13 k14 k15 k16 k17 k18 g0 (shm_773 f1) (shm_774 f2) (shm_775 f3) (shm_770 f4) (shm_771 f5) (shm_772 f6) (shm_767 f7) (shm_768 f8) (shm_769 f9) (shm_764 f10) (shm_765 f11) (shm_766 f12) (shm_761 f13) (shm_762 f14) (shm_763 f15) (shm_48 f16) (shm_125 f17) (shm_126 f18) (shm_773 f20) (shm_774 f21) (shm_775 f22) (shm_770 f23) (shm_771 f24) (shm_772 f25) (shm_767 f26) (shm_768 f27) (shm_769 f28) (shm_764 f29) (shm_765 f30) (shm_766 f31) (shm_761 f32) (shm_762 f33) (shm_763 f34) (shm_770 f36) (shm_771 f37) (shm_772 f38) (shm_767 f39) (shm_768 f40) (shm_769 f41) (shm_764 f42) (shm_765 f43) (shm_766 f44) (shm_761 f45) (shm_762 f46) (shm_763 f47) (shm_767 f49) (shm_768 f50) (shm_769 f51) (shm_764 f52) (shm_765 f53) (shm_766 f54) (shm_761 f55) (shm_762 f56) (shm_763 f57) (shm_764 f59) (shm_765 f60) (shm_766 f61) (shm_761 f62) (shm_762 f63) (shm_763 f64) (shm_761 f66) (shm_762 f67) (shm_763 f68) kz_6_1)⟩
  refine ⟨(fun _ h => (by cases h)), [], trivial, ?_, (fun _ h => (by cases h))⟩
  rw [List.append_nil]
  exact List.forall_mem_cons.mpr ⟨⟨show (20 : Nat) < 100 from by decide, nf0⟩, List.forall_mem_cons.mpr ⟨⟨show (20 : Nat) < 100 from by decide, nf1⟩, (fun _ h => (by cases h))⟩⟩
set_option maxHeartbeats 4000000 in
theorem vc_Ho_feed_7_0 (x7 : Int) (x8 : Int) (x9 : Int) (x10 : Int) (x11 : Int) (x12 : Int) (x13 : Int) (length_0o6 : Int) (k7 : 0 ≤ x7 ∧ x7 ≤ 2000) (k8 : (-1) ≤ x8 ∧ x8 ≤ 2000) (k9 : 1981 ≤ x9 ∧ x9 ≤ 2000) (k10 : 20 ≤ x10 ∧ x10 ≤ 20) (k11 : 2001 ≤ x11 ∧ x11 ≤ 2020) (k12 : 2000 ≤ x12 ∧ x12 ≤ 2000) (k13 : (-1) ≤ x13 ∧ x13 ≤ (-1)) (d0 : x9 + 20 ≤ x11 ∧ x11 ≤ x9 + 20) (f0 : x12 < x11) (f1 : x11 = x9 + x10) (g2 : x9 = length_0o6) (f3 : (((length_0o6 + 20) ≤ 2000) ∧ ((x7 = (length_0o6 + 20)) ∧ (x8 = x7))) ∨ ((1981 ≤ length_0o6) ∧ ((x7 = length_0o6) ∧ (x8 = (-1))))) (kz_6_1 : 0 ≤ length_0o6 ∧ length_0o6 ≤ 2000) : length_0o6 = x7 := by
  first | assumption | (clear f3; omega) | omega | grind
set_option maxHeartbeats 4000000 in
theorem vc_Ho_feed_7_1 (x7 : Int) (x8 : Int) (x9 : Int) (x10 : Int) (x11 : Int) (x12 : Int) (x13 : Int) (length_0o6 : Int) (k7 : 0 ≤ x7 ∧ x7 ≤ 2000) (k8 : (-1) ≤ x8 ∧ x8 ≤ 2000) (k9 : 1981 ≤ x9 ∧ x9 ≤ 2000) (k10 : 20 ≤ x10 ∧ x10 ≤ 20) (k11 : 2001 ≤ x11 ∧ x11 ≤ 2020) (k12 : 2000 ≤ x12 ∧ x12 ≤ 2000) (k13 : (-1) ≤ x13 ∧ x13 ≤ (-1)) (d0 : x9 + 20 ≤ x11 ∧ x11 ≤ x9 + 20) (f0 : x12 < x11) (f1 : x11 = x9 + x10) (g2 : x9 = length_0o6) (f3 : (((length_0o6 + 20) ≤ 2000) ∧ ((x7 = (length_0o6 + 20)) ∧ (x8 = x7))) ∨ ((1981 ≤ length_0o6) ∧ ((x7 = length_0o6) ∧ (x8 = (-1))))) (kz_6_1 : 0 ≤ length_0o6 ∧ length_0o6 ≤ 2000) : x13 = x8 := by
  first | assumption | (clear f3; omega) | omega | grind
def o_Ho_feed_7 : or_T := (17, 14, [(6, (2, 0, 0, [8])), (7, (0, 0, 2000, [])), (8, (0, -1, 2000, [])), (9, (0, 1981, 2000, [])), (10, (0, 20, 20, [])), (11, (0, 2001, 2020, [])), (12, (0, 2000, 2000, [])), (13, (0, -1, -1, []))], [(7, [11, 12], [4]), (1, [11, 9, 10], []), (9, [9, 6], [1]), (20, [6, 7, 8], [50, 1, 0, 1, 3, 32, 2, 11, 0, 7, 4, 3, 2, 0, 1, 0, 20, 0, 2000, 2, 11, 1, 2, 1, 1, 4, 3, 2, 0, 1, 0, 20, 1, 2, 1, 2, 1, 1, 2, 7, 0, 2, 0, 1981, 2, 0, 1, 2, 7, 1, 2, 1, 1, 2, 0, 1, 1, 2, 1, 2, 0, -1])], [], [], [(20, [6, 7], [50, 1, 0, 1, 1, 3, 2, 0, 1, 1, 1]), (20, [13, 8], [50, 0, 0, 1, 2, 1, 0, 1, 1])], [], [(11, 9, 20, 20)])
theorem oo_Ho_feed_7 {kA : Nat → ClassId} : or_ok PRD kA GG o_Ho_feed_7 := by
  refine or_mk fun A ta ws vs hD hth hl => ?_
  intro t6 r6 t7 k7 t8 k8 t9 k9 t10 k10 t11 k11 t12 k12 t13 k13 d0 f0 f1 f2 f3
  replace f2 := shm_127 f2
  have g2 : v_iv (n_v vs 9) = w_fi ws (n_v vs 6) 1 := congrArg v_iv f2
  have kz_6_1 := fdq_11 hD hth r6
  have nf0 : fc_1 PRD (20, [6, 7], [50, 1, 0, 1, 1, 3, 2, 0, 1, 1, 1]) ws (vs) := ⟨nf_in hl rfl, sgq_776 (vc_Ho_feed_7_0 (v_iv (n_v vs 7)) (v_iv (n_v vs 8)) (v_iv (n_v vs 9)) (v_iv (n_v vs 10)) (v_iv (n_v vs 11)) (v_iv (n_v vs 12)) (v_iv (n_v vs 13)) (w_fi ws (n_v vs 6) 1) k7 k8 k9 k10 k11 k12 k13 d0 (shm_21 f0) (shm_12 f1) g2 (shm_760 f3) kz_6_1)⟩
  have nf1 : fc_1 PRD (20, [13, 8], [50, 0, 0, 1, 2, 1, 0, 1, 1]) ws (vs) := ⟨nf_in hl rfl, sgq_48 (vc_Ho_feed_7_1 (v_iv (n_v vs 7)) (v_iv (n_v vs 8)) (v_iv (n_v vs 9)) (v_iv (n_v vs 10)) (v_iv (n_v vs 11)) (v_iv (n_v vs 12)) (v_iv (n_v vs 13)) (w_fi ws (n_v vs 6) 1) k7 k8 k9 k10 k11 k12 k13 d0 (shm_21 f0) (shm_12 f1) g2 (shm_760 f3) kz_6_1)⟩
  refine ⟨(fun _ h => (by cases h)), [], trivial, ?_, (fun _ h => (by cases h))⟩
  rw [List.append_nil]
  exact List.forall_mem_cons.mpr ⟨⟨show (20 : Nat) < 100 from by decide, nf0⟩, List.forall_mem_cons.mpr ⟨⟨show (20 : Nat) < 100 from by decide, nf1⟩, (fun _ h => (by cases h))⟩⟩
def n_Ho_feed_an : List an_T := []
def t_Ho_feed_ct : ct_L := [(1, 111, e_Re_append)]
set_option maxRecDepth 100000 in
theorem c_Ho_feed {l : Launch} {D : va_G} {kA : Nat → ClassId} (h_Re_append : ct_ok PRD l D kA GG y_Re_append z_Re_append e_Re_append) : ct_ok PRD l D kA GG y_Ho_feed z_Ho_feed e_Ho_feed := chk_all_ok (FT := [(38, 12, 4), (108, 8, 1)]) (PT := []) (CT := t_Ho_feed_ct) (KT := []) (NT := []) (AN := n_Ho_feed_an) (OT := [o_Ho_feed_0, o_Ho_feed_1, o_Ho_feed_2, o_Ho_feed_3, o_Ho_feed_4, o_Ho_feed_5, o_Ho_feed_6, o_Ho_feed_7]) 0 200 (List.forall_mem_cons.mpr ⟨oo_Ho_feed_0, List.forall_mem_cons.mpr ⟨oo_Ho_feed_1, List.forall_mem_cons.mpr ⟨oo_Ho_feed_2, List.forall_mem_cons.mpr ⟨oo_Ho_feed_3, List.forall_mem_cons.mpr ⟨oo_Ho_feed_4, List.forall_mem_cons.mpr ⟨oo_Ho_feed_5, List.forall_mem_cons.mpr ⟨oo_Ho_feed_6, List.forall_mem_cons.mpr ⟨oo_Ho_feed_7, List.forall_mem_nil _⟩⟩⟩⟩⟩⟩⟩⟩) (by decide +kernel) ⟨List.forall_mem_cons.mpr ⟨gf_Ho_38, List.forall_mem_cons.mpr ⟨gf_Ho_108, List.forall_mem_nil _⟩⟩, List.forall_mem_nil _, List.forall_mem_cons.mpr ⟨cl_virtual (y := y_Re_append) (ci := 8) rfl rfl ⟨_, _, rfl⟩ (by decide +kernel) h_Re_append wm_626 wm_2 wm_623 wm_624 wm_625 ⟨by decide, by decide, by decide +kernel⟩ (by decide), List.forall_mem_nil _⟩, List.forall_mem_nil _, List.forall_mem_nil _, GG_pl⟩ (by decide +kernel)
def o_Ho_hasDrawing_0 : or_T := (25, 4, [(0, (2, 0, 0, [12])), (1, (0, -2147483648, -1, [])), (3, (0, 0, 0, []))], [], [], [], [(20, [3, 1, 0], [51, 0, 0, 1, 4001002003, 4, 6, 1, 2, 1, 0, 0, 1, 2, 6, 0, 2, 0, 0, 1, 1, 2, 6, 0, 2, 1, 1, 0, 3, 7, 6, 14, 2, 3, 4001, 1, 1, 0, -1]), (20, [3, 1, 0], [51, 0, 0, 1, 4001002003, 4, 6, 1, 2, 1, 0, 0, 0, 3, 6, 0, 2, 1, 1, 0, -1, 3, 6, 0, 2, 0, 4, 1, 1, 1, 6, 14, 2, 3, 4001, 1, 1, 0, -1])], [], [])
theorem oo_Ho_hasDrawing_0 {kA : Nat → ClassId} : or_ok PRD kA GG o_Ho_hasDrawing_0 := by
  refine or_mk fun A ta ws vs hD hth hl => ?_
  intro t0 r0 t1 k1 t3 k3
  have nf0 : fc_1 PRD (20, [3, 1, 0], [51, 0, 0, 1, 4001002003, 4, 6, 1, 2, 1, 0, 0, 1, 2, 6, 0, 2, 0, 0, 1, 1, 2, 6, 0, 2, 1, 1, 0, 3, 7, 6, 14, 2, 3, 4001, 1, 1, 0, -1]) ws (vs) := by
    refine ⟨nf_in hl rfl, sgq_777 ?_⟩
    · show (v_iv (n_v vs 3) = 1) → ((0 ≤ v_iv (n_v vs 1)) ∧ ((v_iv (n_v vs 1) ≤ 3) ∧ (w_rfi ws (w_ar ws (n_v vs 0) 3) (v_iv (n_v vs 1)) 4 1 ≠ (-1))))
      first | omega | grind
  have nf1 : fc_1 PRD (20, [3, 1, 0], [51, 0, 0, 1, 4001002003, 4, 6, 1, 2, 1, 0, 0, 0, 3, 6, 0, 2, 1, 1, 0, -1, 3, 6, 0, 2, 0, 4, 1, 1, 1, 6, 14, 2, 3, 4001, 1, 1, 0, -1]) ws (vs) := by
    refine ⟨nf_in hl rfl, sgq_778 ?_⟩
    · show (v_iv (n_v vs 3) = 0) → ((v_iv (n_v vs 1) ≤ (-1)) ∨ ((4 ≤ v_iv (n_v vs 1)) ∨ (w_rfi ws (w_ar ws (n_v vs 0) 3) (v_iv (n_v vs 1)) 4 1 = (-1))))
      first | omega | grind
  refine ⟨(fun _ h => (by cases h)), [], trivial, ?_, (fun _ h => (by cases h))⟩
  rw [List.append_nil]
  exact List.forall_mem_cons.mpr ⟨⟨show (20 : Nat) < 100 from by decide, nf0⟩, List.forall_mem_cons.mpr ⟨⟨show (20 : Nat) < 100 from by decide, nf1⟩, (fun _ h => (by cases h))⟩⟩
def o_Ho_hasDrawing_1 : or_T := (25, 4, [(0, (2, 0, 0, [12])), (1, (0, 4, 2147483647, [])), (3, (0, 0, 0, []))], [], [], [], [(20, [3, 1, 0], [51, 0, 0, 1, 4001002003, 4, 6, 1, 2, 1, 0, 0, 1, 2, 6, 0, 2, 0, 0, 1, 1, 2, 6, 0, 2, 1, 1, 0, 3, 7, 6, 14, 2, 3, 4001, 1, 1, 0, -1]), (20, [3, 1, 0], [51, 0, 0, 1, 4001002003, 4, 6, 1, 2, 1, 0, 0, 0, 3, 6, 0, 2, 1, 1, 0, -1, 3, 6, 0, 2, 0, 4, 1, 1, 1, 6, 14, 2, 3, 4001, 1, 1, 0, -1])], [], [])
theorem oo_Ho_hasDrawing_1 {kA : Nat → ClassId} : or_ok PRD kA GG o_Ho_hasDrawing_1 := by
  refine or_mk fun A ta ws vs hD hth hl => ?_
  intro t0 r0 t1 k1 t3 k3
  have nf0 : fc_1 PRD (20, [3, 1, 0], [51, 0, 0, 1, 4001002003, 4, 6, 1, 2, 1, 0, 0, 1, 2, 6, 0, 2, 0, 0, 1, 1, 2, 6, 0, 2, 1, 1, 0, 3, 7, 6, 14, 2, 3, 4001, 1, 1, 0, -1]) ws (vs) := by
    refine ⟨nf_in hl rfl, sgq_777 ?_⟩
    · show (v_iv (n_v vs 3) = 1) → ((0 ≤ v_iv (n_v vs 1)) ∧ ((v_iv (n_v vs 1) ≤ 3) ∧ (w_rfi ws (w_ar ws (n_v vs 0) 3) (v_iv (n_v vs 1)) 4 1 ≠ (-1))))
      first | omega | grind
  have nf1 : fc_1 PRD (20, [3, 1, 0], [51, 0, 0, 1, 4001002003, 4, 6, 1, 2, 1, 0, 0, 0, 3, 6, 0, 2, 1, 1, 0, -1, 3, 6, 0, 2, 0, 4, 1, 1, 1, 6, 14, 2, 3, 4001, 1, 1, 0, -1]) ws (vs) := by
    refine ⟨nf_in hl rfl, sgq_778 ?_⟩
    · show (v_iv (n_v vs 3) = 0) → ((v_iv (n_v vs 1) ≤ (-1)) ∨ ((4 ≤ v_iv (n_v vs 1)) ∨ (w_rfi ws (w_ar ws (n_v vs 0) 3) (v_iv (n_v vs 1)) 4 1 = (-1))))
      first | omega | grind
  refine ⟨(fun _ h => (by cases h)), [], trivial, ?_, (fun _ h => (by cases h))⟩
  rw [List.append_nil]
  exact List.forall_mem_cons.mpr ⟨⟨show (20 : Nat) < 100 from by decide, nf0⟩, List.forall_mem_cons.mpr ⟨⟨show (20 : Nat) < 100 from by decide, nf1⟩, (fun _ h => (by cases h))⟩⟩
def o_Ho_hasDrawing_2 : or_T := (25, 8, [(0, (2, 0, 0, [12])), (1, (0, 0, 3, [])), (3, (2, 0, 0, [134])), (4, (2, 0, 0, [0])), (5, (0, -1, -1, [])), (6, (0, -1, -1, [])), (7, (0, 0, 0, []))], [(7, [5, 6], [0]), (9, [5, 4], [1]), (14, [4, 3, 1], []), (9, [3, 0], [3])], [], [], [(20, [7, 1, 0], [51, 0, 0, 1, 4001002003, 4, 6, 1, 2, 1, 0, 0, 1, 2, 6, 0, 2, 0, 0, 1, 1, 2, 6, 0, 2, 1, 1, 0, 3, 7, 6, 14, 2, 3, 4001, 1, 1, 0, -1]), (20, [7, 1, 0], [51, 0, 0, 1, 4001002003, 4, 6, 1, 2, 1, 0, 0, 0, 3, 6, 0, 2, 1, 1, 0, -1, 3, 6, 0, 2, 0, 4, 1, 1, 1, 6, 14, 2, 3, 4001, 1, 1, 0, -1])], [], [])
theorem oo_Ho_hasDrawing_2 {kA : Nat → ClassId} : or_ok PRD kA GG o_Ho_hasDrawing_2 := by
  refine or_mk fun A ta ws vs hD hth hl => ?_
  intro t0 r0 t1 k1 t3 r3 t4 r4 t5 k5 t6 k6 t7 k7 f0 f1 f2 f3
  replace f0 := shm_37 f0
  replace f1 := shm_127 f1
  replace f2 := shm_779 f2
  replace f3 := shm_149 f3
  have cr_0_3 := fdq_194 hD hth r0
  have ad_3 : v_ad (n_v vs 3) = w_ar ws (n_v vs 0) 3 := congrArg v_ad f3
  have g1 : v_iv (n_v vs 5) = w_fi ws (n_v vs 4) 1 := congrArg v_iv f1
  have kz_4_1 := fdq_195 hD hth r4
  first | have gr0 := rfi_nm (kf := 1) (len := 4) (z := v_iv (n_v vs 1)) (v := n_v vs 4) (a := w_ar ws (n_v vs 0) 3) (by first | assumption | omega | (rw [← ad_3]; assumption)) (by omega) (by omega) | skip
  have nf0 : fc_1 PRD (20, [7, 1, 0], [51, 0, 0, 1, 4001002003, 4, 6, 1, 2, 1, 0, 0, 1, 2, 6, 0, 2, 0, 0, 1, 1, 2, 6, 0, 2, 1, 1, 0, 3, 7, 6, 14, 2, 3, 4001, 1, 1, 0, -1]) ws (vs) := by
    refine ⟨nf_in hl rfl, sgq_777 ?_⟩
    · show (v_iv (n_v vs 7) = 1) → ((0 ≤ v_iv (n_v vs 1)) ∧ ((v_iv (n_v vs 1) ≤ 3) ∧ (w_rfi ws (w_ar ws (n_v vs 0) 3) (v_iv (n_v vs 1)) 4 1 ≠ (-1))))
      first | omega | grind
  have nf1 : fc_1 PRD (20, [7, 1, 0], [51, 0, 0, 1, 4001002003, 4, 6, 1, 2, 1, 0, 0, 0, 3, 6, 0, 2, 1, 1, 0, -1, 3, 6, 0, 2, 0, 4, 1, 1, 1, 6, 14, 2, 3, 4001, 1, 1, 0, -1]) ws (vs) := by
    refine ⟨nf_in hl rfl, sgq_778 ?_⟩
    · show (v_iv (n_v vs 7) = 0) → ((v_iv (n_v vs 1) ≤ (-1)) ∨ ((4 ≤ v_iv (n_v vs 1)) ∨ (w_rfi ws (w_ar ws (n_v vs 0) 3) (v_iv (n_v vs 1)) 4 1 = (-1))))
      first | omega | grind
  refine ⟨(fun _ h => (by cases h)), [], trivial, ?_, (fun _ h => (by cases h))⟩
  rw [List.append_nil]
  exact List.forall_mem_cons.mpr ⟨⟨show (20 : Nat) < 100 from by decide, nf0⟩, List.forall_mem_cons.mpr ⟨⟨show (20 : Nat) < 100 from by decide, nf1⟩, (fun _ h => (by cases h))⟩⟩
def o_Ho_hasDrawing_3 : or_T := (25, 8, [(0, (2, 0, 0, [12])), (1, (0, 0, 3, [])), (3, (2, 0, 0, [134])), (4, (2, 0, 0, [0])), (5, (0, 0, 7, [])), (6, (0, -1, -1, [])), (7, (0, 1, 1, []))], [(7, [5, 6], [1]), (9, [5, 4], [1]), (14, [4, 3, 1], []), (9, [3, 0], [3])], [], [], [(20, [7, 1, 0], [51, 0, 0, 1, 4001002003, 4, 6, 1, 2, 1, 0, 0, 1, 2, 6, 0, 2, 0, 0, 1, 1, 2, 6, 0, 2, 1, 1, 0, 3, 7, 6, 14, 2, 3, 4001, 1, 1, 0, -1]), (20, [7, 1, 0], [51, 0, 0, 1, 4001002003, 4, 6, 1, 2, 1, 0, 0, 0, 3, 6, 0, 2, 1, 1, 0, -1, 3, 6, 0, 2, 0, 4, 1, 1, 1, 6, 14, 2, 3, 4001, 1, 1, 0, -1])], [], [])
theorem oo_Ho_hasDrawing_3 {kA : Nat → ClassId} : or_ok PRD kA GG o_Ho_hasDrawing_3 := by
  refine or_mk fun A ta ws vs hD hth hl => ?_
  intro t0 r0 t1 k1 t3 r3 t4 r4 t5 k5 t6 k6 t7 k7 f0 f1 f2 f3
  replace f0 := shm_40 f0
  replace f1 := shm_127 f1
  replace f2 := shm_779 f2
  replace f3 := shm_149 f3
  have cr_0_3 := fdq_194 hD hth r0
  have ad_3 : v_ad (n_v vs 3) = w_ar ws (n_v vs 0) 3 := congrArg v_ad f3
  have g1 : v_iv (n_v vs 5) = w_fi ws (n_v vs 4) 1 := congrArg v_iv f1
  have kz_4_1 := fdq_195 hD hth r4
  first | have gr0 := rfi_nm (kf := 1) (len := 4) (z := v_iv (n_v vs 1)) (v := n_v vs 4) (a := w_ar ws (n_v vs 0) 3) (by first | assumption | omega | (rw [← ad_3]; assumption)) (by omega) (by omega) | skip
  have nf0 : fc_1 PRD (20, [7, 1, 0], [51, 0, 0, 1, 4001002003, 4, 6, 1, 2, 1, 0, 0, 1, 2, 6, 0, 2, 0, 0, 1, 1, 2, 6, 0, 2, 1, 1, 0, 3, 7, 6, 14, 2, 3, 4001, 1, 1, 0, -1]) ws (vs) := by
    refine ⟨nf_in hl rfl, sgq_777 ?_⟩
    · show (v_iv (n_v vs 7) = 1) → ((0 ≤ v_iv (n_v vs 1)) ∧ ((v_iv (n_v vs 1) ≤ 3) ∧ (w_rfi ws (w_ar ws (n_v vs 0) 3) (v_iv (n_v vs 1)) 4 1 ≠ (-1))))
      first | omega | grind
  have nf1 : fc_1 PRD (20, [7, 1, 0], [51, 0, 0, 1, 4001002003, 4, 6, 1, 2, 1, 0, 0, 0, 3, 6, 0, 2, 1, 1, 0, -1, 3, 6, 0, 2, 0, 4, 1, 1, 1, 6, 14, 2, 3, 4001, 1, 1, 0, -1]) ws (vs) := by
    refine ⟨nf_in hl rfl, sgq_778 ?_⟩
    · show (v_iv (n_v vs 7) = 0) → ((v_iv (n_v vs 1) ≤ (-1)) ∨ ((4 ≤ v_iv (n_v vs 1)) ∨ (w_rfi ws (w_ar ws (n_v vs 0) 3) (v_iv (n_v vs 1)) 4 1 = (-1))))
      first | omega | grind
  refine ⟨(fun _ h => (by cases h)), [], trivial, ?_, (fun _ h => (by cases h))⟩
  rw [List.append_nil]
  exact List.forall_mem_cons.mpr ⟨⟨show (20 : Nat) < 100 from by decide, nf0⟩, List.forall_mem_cons.mpr ⟨⟨show (20 : Nat) < 100 from by decide, nf1⟩, (fun _ h => (by cases h))⟩⟩
def n_Ho_hasDrawing_an : List an_T := []
def t_Ho_hasDrawing_ct : ct_L := [(0, 115, e_Ho_isPlace)]
set_option maxRecDepth 100000 in
theorem c_Ho_hasDrawing {l : Launch} {D : va_G} {kA : Nat → ClassId} (h_Ho_isPlace : ct_ok PRD l D kA GG y_Ho_isPlace z_Ho_isPlace e_Ho_isPlace) : ct_ok PRD l D kA GG y_Ho_hasDrawing z_Ho_hasDrawing e_Ho_hasDrawing := chk_all_ok (FT := [(31, 12, 3), (309, 0, 1)]) (PT := []) (CT := t_Ho_hasDrawing_ct) (KT := []) (NT := []) (AN := n_Ho_hasDrawing_an) (OT := [o_Ho_hasDrawing_0, o_Ho_hasDrawing_1, o_Ho_hasDrawing_2, o_Ho_hasDrawing_3]) 0 200 (List.forall_mem_cons.mpr ⟨oo_Ho_hasDrawing_0, List.forall_mem_cons.mpr ⟨oo_Ho_hasDrawing_1, List.forall_mem_cons.mpr ⟨oo_Ho_hasDrawing_2, List.forall_mem_cons.mpr ⟨oo_Ho_hasDrawing_3, List.forall_mem_nil _⟩⟩⟩⟩) (by decide +kernel) ⟨List.forall_mem_cons.mpr ⟨gf_Ho_31, List.forall_mem_cons.mpr ⟨gf_Ho_309, List.forall_mem_nil _⟩⟩, List.forall_mem_nil _, List.forall_mem_cons.mpr ⟨cl_static (y := y_Ho_isPlace) h_Ho_isPlace wm_633 wm_1 wm_631 wm_632 ⟨by decide, by decide, by decide +kernel⟩ (by decide), List.forall_mem_nil _⟩, List.forall_mem_nil _, List.forall_mem_nil _, GG_pl⟩ (by decide +kernel)
set_option maxHeartbeats 4000000 in
theorem vc_Dr_dropBends_0_0 (x2 : Int) (bends_0 : Int → Int) (k2 : 0 ≤ x2 ∧ x2 ≤ 0) (hT1 : ∀ j : Int, 0 ≤ j → j < x2 + 48 → 0 ≤ bends_0 j ∧ bends_0 j ≤ 0) (hK_0_4 : ∀ j : Int, 0 ≤ j → j < 48 → 0 ≤ bends_0 j ∧ bends_0 j ≤ 24) : BN0 (bends_0) := by
  first
    | (intro j a b; have := hT1 j a (by omega); omega)
    | (intro j a b; have := hT0 j a (by omega); omega)
  
def o_Dr_dropBends_0 : or_T := (8, 3, [(0, (2, 0, 0, [0])), (2, (0, 0, 0, []))], [(9, [1, 0], [4]), (20, [1, 2], [8, 0, 0, 48])], [], [], [(20, [0], [60, 0, 1, 641, 4])], [], [])
theorem oo_Dr_dropBends_0 {kA : Nat → ClassId} : or_ok PRD kA GG o_Dr_dropBends_0 := by
  refine or_mk fun A ta ws vs hD hth hl => ?_
  intro t0 r0 t2 k2 f0 f1
  replace f0 := shm_107 f0
  replace f1 := shm_3 f1
  have cr_0_4 := fdq_1 hD hth r0
  have ad_1 : v_ad (n_v vs 1) = w_ar ws (n_v vs 0) 4 := congrArg v_ad f0
  have hT1 : ∀ j : Int, 0 ≤ j → j < v_iv (n_v vs 2) + 48 → 0 ≤ w_ei ws (w_ar ws (n_v vs 0) 4) j ∧ w_ei ws (w_ar ws (n_v vs 0) 4) j ≤ 0 := fun j h0 h1 => by have h2 := f1 j.toNat (by omega); rw [ad_1] at h2; exact h2
  have hK_0_4 := elq_0 hD hth cr_0_4
  have nf0 : fc_1 PRD (20, [0], [60, 0, 1, 641, 4]) ws (vs) := ⟨nf_in hl rfl, sgq_780 (vc_Dr_dropBends_0_0 (v_iv (n_v vs 2)) (w_ei ws (w_ar ws (n_v vs 0) 4)) k2 hT1 hK_0_4)⟩
  refine ⟨(fun _ h => (by cases h)), [], trivial, ?_, (fun _ h => (by cases h))⟩
  rw [List.append_nil]
  exact List.forall_mem_cons.mpr ⟨⟨show (20 : Nat) < 100 from by decide, nf0⟩, (fun _ h => (by cases h))⟩
def n_Dr_dropBends_an : List an_T := []
def t_Dr_dropBends_ct : ct_L := [(18, 78, e_jArr_fill1_v0)]
set_option maxRecDepth 100000 in
theorem c_Dr_dropBends {l : Launch} {D : va_G} {kA : Nat → ClassId} : ct_ok PRD l D kA GG y_Dr_dropBends z_Dr_dropBends e_Dr_dropBends := chk_all_ok (FT := [(22, 0, 4)]) (PT := []) (CT := t_Dr_dropBends_ct) (KT := []) (NT := []) (AN := n_Dr_dropBends_an) (OT := [o_Dr_dropBends_0]) 0 200 (List.forall_mem_cons.mpr ⟨oo_Dr_dropBends_0, List.forall_mem_nil _⟩) (by decide +kernel) ⟨List.forall_mem_cons.mpr ⟨gf_Dr_22, List.forall_mem_nil _⟩, List.forall_mem_nil _, List.forall_mem_cons.mpr ⟨cl_static (y := y_jArr_fill1) c_jArr_fill1_v0 wm_55 wm_4 wm_798 wm_54 ⟨by decide, by decide, by decide +kernel⟩ (by decide), List.forall_mem_nil _⟩, List.forall_mem_nil _, List.forall_mem_nil _, GG_pl⟩ (by decide +kernel)
set_option maxHeartbeats 4000000 in
theorem vc_Dr_scaledX_0_r0 (x1 : Int) (x2 : Int) (x3 : Int) (x4 : Int) (x5 : Int) (x6 : Int) (x7 : Int) (x8 : Int) (x9 : Int) (x10 : Int) (x11 : Int) (x12 : Int) (leastX_0 : Int) (mostX_0 : Int) (k1 : (-41000000) ≤ x1 ∧ x1 ≤ 1001000000) (k2 : 0 ≤ x2 ∧ x2 ≤ 64) (k3 : (-41000000) ≤ x3 ∧ x3 ≤ 690000000) (k4 : (-731000000) ≤ x4 ∧ x4 ≤ 1042000000) (k5 : 1 ≤ x5 ∧ x5 ≤ 1) (k6 : (-1) ≤ x6 ∧ x6 ≤ 63) (k7 : (-2147483648) ≤ x7 ∧ x7 ≤ 2147483647) (k8 : 1 ≤ x8 ∧ x8 ≤ 1) (k9 : (-40000000) ≤ x9 ∧ x9 ≤ 1001000000) (k10 : (-730000000) ≤ x10 ∧ x10 ≤ 1042000000) (k11 : 1 ≤ x11 ∧ x11 ≤ 1042000000) (k12 : (-2147483648) ≤ x12 ∧ x12 ≤ 2147483647) (d0 : x9 + (-690000000) ≤ x10 ∧ x10 ≤ x9 + 41000000) (d1 : x2 + (-1) ≤ x6 ∧ x6 ≤ x2 + (-1)) (d2 : x1 + (-690000000) ≤ x4 ∧ x4 ≤ x1 + 41000000) (f0 : x12 = Int.tdiv (x7) (x11)) (f1 : 1 * x8 + ((-1) * x11 + 0) ≤ 0) (f2 : 1 * x10 + ((-1) * x11 + 0) ≤ 0) (f3 : x10 = x9 - x3) (g4 : x3 = leastX_0) (g5 : x9 = mostX_0) (f6 : bvp (x7) = bvp (x4) * bvp (x6)) (f7 : x6 = x2 - x5) (f8 : x4 = x1 - x3) (f9 : (leastX_0 ≤ x1) ∧ (x1 ≤ mostX_0)) (kz_0_17 : (-41000000) ≤ leastX_0 ∧ leastX_0 ≤ 690000000) (kz_0_19 : (-40000000) ≤ mostX_0 ∧ mostX_0 ≤ 1001000000) : (-63) ≤ x12 ∧ x12 ≤ 63 := by
  first
    | omega
    | exact scl_of (px := x1) (l := x3) (m := x9) (D := x4) (W := x6) (M := x10) (mm := x11) (z := x7) (by omega) (by omega) (by omega) (by omega) (by omega) (by omega) (by omega) (by omega) (by assumption) (by omega) (by omega) (by assumption)
  
def o_Dr_scaledX_0 : or_T := (24, 13, [(0, (2, 0, 0, [0])), (1, (0, -41000000, 1001000000, [])), (2, (0, 0, 64, [])), (3, (0, -41000000, 690000000, [])), (4, (0, -731000000, 1042000000, [])), (5, (0, 1, 1, [])), (6, (0, -1, 63, [])), (7, (0, -2147483648, 2147483647, [])), (8, (0, 1, 1, [])), (9, (0, -40000000, 1001000000, [])), (10, (0, -730000000, 1042000000, [])), (11, (0, 1, 1042000000, [])), (12, (0, -2147483648, 2147483647, []))], [(4, [12, 7, 11], []), (23, [8, 11], [0, 1, -1]), (23, [10, 11], [0, 1, -1]), (2, [10, 9, 3], []), (9, [3, 0], [17]), (9, [9, 0], [19]), (16, [7, 4, 6], [5]), (2, [6, 2, 5], []), (2, [4, 1, 3], []), (20, [0, 1], [50, 2, 0, 17, 19, 2, 7, 0, 3, 2, 0, 17, 1, 1, 0, 2, 1, 1, 2, 0, 19])], [(12, (0, -63, 63, []))], [], [], [], [(10, 9, -690000000, 41000000), (6, 2, -1, -1), (4, 1, -690000000, 41000000)])
theorem oo_Dr_scaledX_0 {kA : Nat → ClassId} : or_ok PRD kA GG o_Dr_scaledX_0 := by
  refine or_mk fun A ta ws vs hD hth hl => ?_
  intro t0 r0 t1 k1 t2 k2 t3 k3 t4 k4 t5 k5 t6 k6 t7 k7 t8 k8 t9 k9 t10 k10 t11 k11 t12 k12 d0 d1 d2 f0 f1 f2 f3 f4 f5 f6 f7 f8 f9
  replace f4 := shm_781 f4
  replace f5 := shm_782 f5
  have g4 : v_iv (n_v vs 3) = w_fi ws (n_v vs 0) 17 := congrArg v_iv f4
  have g5 : v_iv (n_v vs 9) = w_fi ws (n_v vs 0) 19 := congrArg v_iv f5
  have kz_0_17 := fdq_196 hD hth r0
  have kz_0_19 := fdq_197 hD hth r0
  have hrf0 : (-63) ≤ v_iv (n_v vs 12) ∧ v_iv (n_v vs 12) ≤ 63 := vc_Dr_scaledX_0_r0 (v_iv (n_v vs 1)) (v_iv (n_v vs 2)) (v_iv (n_v vs 3)) (v_iv (n_v vs 4)) (v_iv (n_v vs 5)) (v_iv (n_v vs 6)) (v_iv (n_v vs 7)) (v_iv (n_v vs 8)) (v_iv (n_v vs 9)) (v_iv (n_v vs 10)) (v_iv (n_v vs 11)) (v_iv (n_v vs 12)) (w_fi ws (n_v vs 0) 17) (w_fi ws (n_v vs 0) 19) k1 k2 k3 k4 k5 k6 k7 k8 k9 k10 k11 k12 d0 d1 d2 (shm_34 f0) (shm_7 f1) (shm_7 f2) (shm_14 f3) g4 g5 (shm_783 f6) (shm_14 f7) (shm_14 f8) (shm_784 f9) kz_0_17 kz_0_19
  have rf12 : tv_ok ta (0, -63, 63, []) (n_v vs 12) := tv_in t12 (by first | omega | grind) (by first | omega | grind)
  refine ⟨List.forall_mem_cons.mpr ⟨rf12, (fun _ h => (by cases h))⟩, [], trivial, ?_, (fun _ h => (by cases h))⟩
  rw [List.append_nil]
  exact (fun _ h => (by cases h))
def n_Dr_scaledX_an : List an_T := []
def t_Dr_scaledX_ct : ct_L := [(63, 157, e_jMath_max1_v1)]
set_option maxRecDepth 100000 in
theorem c_Dr_scaledX {l : Launch} {D : va_G} {kA : Nat → ClassId} : ct_ok PRD l D kA GG y_Dr_scaledX z_Dr_scaledX e_Dr_scaledX := chk_all_ok (FT := [(62, 0, 17), (68, 0, 19)]) (PT := []) (CT := t_Dr_scaledX_ct) (KT := []) (NT := []) (AN := n_Dr_scaledX_an) (OT := [o_Dr_scaledX_0]) 0 200 (List.forall_mem_cons.mpr ⟨oo_Dr_scaledX_0, List.forall_mem_nil _⟩) (by decide +kernel) ⟨List.forall_mem_cons.mpr ⟨gf_Dr_62, List.forall_mem_cons.mpr ⟨gf_Dr_68, List.forall_mem_nil _⟩⟩, List.forall_mem_nil _, List.forall_mem_cons.mpr ⟨cl_static (y := y_jMath_max1) c_jMath_max1_v1 wm_836 wm_10 wm_2025 wm_835 ⟨by decide, by decide, by decide +kernel⟩ (by decide), List.forall_mem_nil _⟩, List.forall_mem_nil _, List.forall_mem_nil _, GG_pl⟩ (by decide +kernel)
set_option maxHeartbeats 4000000 in
theorem vc_Dr_scaledY_0_r0 (x1 : Int) (x2 : Int) (x3 : Int) (x4 : Int) (x5 : Int) (x6 : Int) (x7 : Int) (x8 : Int) (x9 : Int) (x10 : Int) (x11 : Int) (x12 : Int) (leastY_0 : Int) (mostY_0 : Int) (k1 : (-41000000) ≤ x1 ∧ x1 ≤ 1001000000) (k2 : 0 ≤ x2 ∧ x2 ≤ 64) (k3 : (-41000000) ≤ x3 ∧ x3 ≤ 690000000) (k4 : (-731000000) ≤ x4 ∧ x4 ≤ 1042000000) (k5 : 1 ≤ x5 ∧ x5 ≤ 1) (k6 : (-1) ≤ x6 ∧ x6 ≤ 63) (k7 : (-2147483648) ≤ x7 ∧ x7 ≤ 2147483647) (k8 : 1 ≤ x8 ∧ x8 ≤ 1) (k9 : (-40000000) ≤ x9 ∧ x9 ≤ 1001000000) (k10 : (-730000000) ≤ x10 ∧ x10 ≤ 1042000000) (k11 : 1 ≤ x11 ∧ x11 ≤ 1042000000) (k12 : (-2147483648) ≤ x12 ∧ x12 ≤ 2147483647) (d0 : x9 + (-690000000) ≤ x10 ∧ x10 ≤ x9 + 41000000) (d1 : x2 + (-1) ≤ x6 ∧ x6 ≤ x2 + (-1)) (d2 : x1 + (-690000000) ≤ x4 ∧ x4 ≤ x1 + 41000000) (f0 : x12 = Int.tdiv (x7) (x11)) (f1 : 1 * x8 + ((-1) * x11 + 0) ≤ 0) (f2 : 1 * x10 + ((-1) * x11 + 0) ≤ 0) (f3 : x10 = x9 - x3) (g4 : x3 = leastY_0) (g5 : x9 = mostY_0) (f6 : bvp (x7) = bvp (x4) * bvp (x6)) (f7 : x6 = x2 - x5) (f8 : x4 = x1 - x3) (f9 : (leastY_0 ≤ x1) ∧ (x1 ≤ mostY_0)) (kz_0_18 : (-41000000) ≤ leastY_0 ∧ leastY_0 ≤ 690000000) (kz_0_20 : (-40000000) ≤ mostY_0 ∧ mostY_0 ≤ 1001000000) : (-63) ≤ x12 ∧ x12 ≤ 63 := by
  first
    | omega
    | exact scl_of (px := x1) (l := x3) (m := x9) (D := x4) (W := x6) (M := x10) (mm := x11) (z := x7) (by omega) (by omega) (by omega) (by omega) (by omega) (by omega) (by omega) (by omega) (by assumption) (by omega) (by omega) (by assumption)
  
def o_Dr_scaledY_0 : or_T := (24, 13, [(0, (2, 0, 0, [0])), (1, (0, -41000000, 1001000000, [])), (2, (0, 0, 64, [])), (3, (0, -41000000, 690000000, [])), (4, (0, -731000000, 1042000000, [])), (5, (0, 1, 1, [])), (6, (0, -1, 63, [])), (7, (0, -2147483648, 2147483647, [])), (8, (0, 1, 1, [])), (9, (0, -40000000, 1001000000, [])), (10, (0, -730000000, 1042000000, [])), (11, (0, 1, 1042000000, [])), (12, (0, -2147483648, 2147483647, []))], [(4, [12, 7, 11], []), (23, [8, 11], [0, 1, -1]), (23, [10, 11], [0, 1, -1]), (2, [10, 9, 3], []), (9, [3, 0], [18]), (9, [9, 0], [20]), (16, [7, 4, 6], [5]), (2, [6, 2, 5], []), (2, [4, 1, 3], []), (20, [0, 1], [50, 2, 0, 18, 20, 2, 7, 0, 3, 2, 0, 18, 1, 1, 0, 2, 1, 1, 2, 0, 20])], [(12, (0, -63, 63, []))], [], [], [], [(10, 9, -690000000, 41000000), (6, 2, -1, -1), (4, 1, -690000000, 41000000)])
theorem oo_Dr_scaledY_0 {kA : Nat → ClassId} : or_ok PRD kA GG o_Dr_scaledY_0 := by
  refine or_mk fun A ta ws vs hD hth hl => ?_
  intro t0 r0 t1 k1 t2 k2 t3 k3 t4 k4 t5 k5 t6 k6 t7 k7 t8 k8 t9 k9 t10 k10 t11 k11 t12 k12 d0 d1 d2 f0 f1 f2 f3 f4 f5 f6 f7 f8 f9
  replace f4 := shm_785 f4
  replace f5 := shm_726 f5
  have g4 : v_iv (n_v vs 3) = w_fi ws (n_v vs 0) 18 := congrArg v_iv f4
  have g5 : v_iv (n_v vs 9) = w_fi ws (n_v vs 0) 20 := congrArg v_iv f5
  have kz_0_18 := fdq_198 hD hth r0
  have kz_0_20 := fdq_199 hD hth r0
  have hrf0 : (-63) ≤ v_iv (n_v vs 12) ∧ v_iv (n_v vs 12) ≤ 63 := vc_Dr_scaledY_0_r0 (v_iv (n_v vs 1)) (v_iv (n_v vs 2)) (v_iv (n_v vs 3)) (v_iv (n_v vs 4)) (v_iv (n_v vs 5)) (v_iv (n_v vs 6)) (v_iv (n_v vs 7)) (v_iv (n_v vs 8)) (v_iv (n_v vs 9)) (v_iv (n_v vs 10)) (v_iv (n_v vs 11)) (v_iv (n_v vs 12)) (w_fi ws (n_v vs 0) 18) (w_fi ws (n_v vs 0) 20) k1 k2 k3 k4 k5 k6 k7 k8 k9 k10 k11 k12 d0 d1 d2 (shm_34 f0) (shm_7 f1) (shm_7 f2) (shm_14 f3) g4 g5 (shm_783 f6) (shm_14 f7) (shm_14 f8) (shm_786 f9) kz_0_18 kz_0_20
  have rf12 : tv_ok ta (0, -63, 63, []) (n_v vs 12) := tv_in t12 (by first | omega | grind) (by first | omega | grind)
  refine ⟨List.forall_mem_cons.mpr ⟨rf12, (fun _ h => (by cases h))⟩, [], trivial, ?_, (fun _ h => (by cases h))⟩
  rw [List.append_nil]
  exact (fun _ h => (by cases h))
def n_Dr_scaledY_an : List an_T := []
def t_Dr_scaledY_ct : ct_L := [(63, 157, e_jMath_max1_v1)]
set_option maxRecDepth 100000 in
theorem c_Dr_scaledY {l : Launch} {D : va_G} {kA : Nat → ClassId} : ct_ok PRD l D kA GG y_Dr_scaledY z_Dr_scaledY e_Dr_scaledY := chk_all_ok (FT := [(65, 0, 18), (71, 0, 20)]) (PT := []) (CT := t_Dr_scaledY_ct) (KT := []) (NT := []) (AN := n_Dr_scaledY_an) (OT := [o_Dr_scaledY_0]) 0 200 (List.forall_mem_cons.mpr ⟨oo_Dr_scaledY_0, List.forall_mem_nil _⟩) (by decide +kernel) ⟨List.forall_mem_cons.mpr ⟨gf_Dr_65, List.forall_mem_cons.mpr ⟨gf_Dr_71, List.forall_mem_nil _⟩⟩, List.forall_mem_nil _, List.forall_mem_cons.mpr ⟨cl_static (y := y_jMath_max1) c_jMath_max1_v1 wm_836 wm_10 wm_2025 wm_835 ⟨by decide, by decide, by decide +kernel⟩ (by decide), List.forall_mem_nil _⟩, List.forall_mem_nil _, List.forall_mem_nil _, GG_pl⟩ (by decide +kernel)

set_option maxHeartbeats 4000000 in
theorem vc_Em_copyOther_0_0 (x1 : Int) (x4 : Int) (x5 : Int) (x6 : Int) (cycleLength_0 : Int → Int) (cycle_0 : Int → Int) (cycles_0 : Int) (drawnNodes_0 : Int) (way_0 : Int → Int) (wayLength_0 : Int) (k1 : 0 ≤ x1 ∧ x1 ≤ 49) (k4 : 0 ≤ x4 ∧ x4 ≤ 24) (k5 : 0 ≤ x5 ∧ x5 ≤ 0) (k6 : 0 ≤ x6 ∧ x6 ≤ 0) (f0 : (x4 = 0) ∨ ((x4 + 1) ≤ cycleLength_0 (x1))) (f1 : CYR (cycles_0) (drawnNodes_0) (cycle_0) (cycleLength_0)) (f2 : WYN (drawnNodes_0) (wayLength_0) (way_0)) (f3 : (0 ≤ x1) ∧ ((x1 + 1) ≤ cycles_0)) (f4 : (cycles_0 + 1) ≤ 50) (hK_0_8 : ∀ j : Int, 0 ≤ j → j < 1250 → 0 ≤ cycle_0 j ∧ cycle_0 j ≤ 24) (hK_0_9 : ∀ j : Int, 0 ≤ j → j < 50 → 0 ≤ cycleLength_0 j ∧ cycleLength_0 j ≤ 25) (hK_0_14 : ∀ j : Int, 0 ≤ j → j < 27 → 0 ≤ way_0 j ∧ way_0 j ≤ 24) (kz_0_6 : 0 ≤ drawnNodes_0 ∧ drawnNodes_0 ≤ 33554431) (kz_0_7 : 0 ≤ cycles_0 ∧ cycles_0 ≤ 50) (kz_0_15 : 0 ≤ wayLength_0 ∧ wayLength_0 ≤ 27) : COI (cycles_0) (cycle_0) (cycleLength_0) (x1) (x4) (x5) (x6) := by
  first
    | exact coi_start (by omega) (by omega) (by omega) (by omega) (by omega) ((‹CYR _ _ _ _›) x1 (by omega) (by omega)).1 (by omega)
    | (rw [show x26 = x10 + 1 by omega]; exact coi_step (x := x12) (q := x16) (l2 := x17) (r := x18) (z := x19) (v := x20) ‹COI _ _ _ _ _ _ _› ‹CYR _ _ _ _› (by assumption) (by omega) (by omega) (by assumption) (by assumption) (by omega) (by assumption) (by assumption) (by omega) (by omega))
  
def o_Em_copyOther_0 : or_T := (14, 7, [(0, (2, 0, 0, [1])), (1, (0, 0, 49, [])), (4, (0, 0, 24, [])), (5, (0, 0, 0, [])), (6, (0, 0, 0, []))], [(20, [4, 0, 1], [50, 0, 1, 1009, 3, 6, 1, 2, 1, 0, 0, 0, 0, 6, 4, 2, 1, 0, 0, 1, 3, 1, 9, 1, 2]), (20, [0], [60, 2, 2, 603, 7, 6, 8, 9]), (20, [0], [60, 2, 1, 613, 6, 15, 14]), (20, [1, 0], [50, 1, 0, 1007, 2, 6, 0, 2, 0, 0, 1, 0, 0, 6, 4, 2, 1, 0, 0, 1, 2, 1, 7]), (20, [0], [50, 1, 0, 7, 0, 7, 4, 3, 2, 0, 7, 0, 1, 0, 50])], [], [], [(20, [0, 1, 4, 5, 6], [60, 1, 2, 617, 7, 8, 9]), (24, [0, 0], []), (24, [1, 1], [])], [], [])
theorem oo_Em_copyOther_0 {kA : Nat → ClassId} : or_ok PRD kA GG o_Em_copyOther_0 := by
  refine or_mk fun A ta ws vs hD hth hl => ?_
  intro t0 r0 t1 k1 t4 k4 t5 k5 t6 k6 f0 f1 f2 f3 f4
  have cr_0_8 := fdq_57 hD hth r0
  have cr_0_9 := fdq_56 hD hth r0
  have cr_0_14 := fdq_58 hD hth r0
  have hK_0_8 := elq_14 hD hth cr_0_8
  have hK_0_9 := elq_13 hD hth cr_0_9
  have hK_0_14 := elq_15 hD hth cr_0_14
  have kz_0_6 := fdq_59 hD hth r0
  have kz_0_7 := fdq_55 hD hth r0
  have kz_0_15 := fdq_60 hD hth r0
  have nf0 : fc_1 PRD (20, [0, 1, 4, 5, 6], [60, 1, 2, 617, 7, 8, 9]) ws (vs) := ⟨nf_in hl rfl, sgq_790 (vc_Em_copyOther_0_0 (v_iv (n_v vs 1)) (v_iv (n_v vs 4)) (v_iv (n_v vs 5)) (v_iv (n_v vs 6)) (w_ei ws (w_ar ws (n_v vs 0) 9)) (w_ei ws (w_ar ws (n_v vs 0) 8)) (w_fi ws (n_v vs 0) 7) (w_fi ws (n_v vs 0) 6) (w_ei ws (w_ar ws (n_v vs 0) 14)) (w_fi ws (n_v vs 0) 15) k1 k4 k5 k6 (shm_365 f0) (shm_369 f1) (shm_787 f2) (shm_788 f3) (shm_789 f4) hK_0_8 hK_0_9 hK_0_14 kz_0_6 kz_0_7 kz_0_15)⟩
  have nf1 : fc_1 PRD (24, [0, 0], []) ws (vs) := by
    refine ⟨nf_in hl rfl, sgq_1 ?_⟩
    · show n_v vs 0 = n_v vs 0
      first | rfl | simp only [true_and]
  have nf2 : fc_1 PRD (24, [1, 1], []) ws (vs) := by
    refine ⟨nf_in hl rfl, sgq_1 ?_⟩
    · show n_v vs 1 = n_v vs 1
      first | rfl | simp only [true_and]
  refine ⟨(fun _ h => (by cases h)), [], trivial, ?_, (fun _ h => (by cases h))⟩
  rw [List.append_nil]
  exact List.forall_mem_cons.mpr ⟨⟨show (20 : Nat) < 100 from by decide, nf0⟩, List.forall_mem_cons.mpr ⟨⟨show (24 : Nat) < 100 from by decide, nf1⟩, List.forall_mem_cons.mpr ⟨⟨show (24 : Nat) < 100 from by decide, nf2⟩, (fun _ h => (by cases h))⟩⟩⟩
set_option maxHeartbeats 4000000 in
theorem vc_Em_copyOther_1_0 (x1 : Int) (x5 : Int) (x8 : Int) (x9 : Int) (x10 : Int) (x12 : Int) (x13 : Int) (cycleLength_0 : Int → Int) (cycle_0 : Int → Int) (cycles_0 : Int) (drawnNodes_0 : Int) (way_0 : Int → Int) (wayLength_0 : Int) (k1 : 0 ≤ x1 ∧ x1 ≤ 49) (k5 : 0 ≤ x5 ∧ x5 ≤ 49) (k8 : 0 ≤ x8 ∧ x8 ≤ 24) (k9 : 0 ≤ x9 ∧ x9 ≤ 25) (k10 : 0 ≤ x10 ∧ x10 ≤ 25) (k12 : 0 ≤ x12 ∧ x12 ≤ 25) (k13 : 1 ≤ x13 ∧ x13 ≤ 1) (d0 : x12 + 0 ≤ x10 ∧ x10 ≤ x12 + 4294967296) (d1 : x5 + (-4294967296) ≤ x1 ∧ x1 ≤ x5 + 0) (d2 : x1 + (-4294967296) ≤ x5 ∧ x5 ≤ x1 + 0) (d3 : x10 + (-4294967296) ≤ x9 ∧ x9 ≤ x10 + 0) (d4 : x9 + (-4294967296) ≤ x10 ∧ x10 ≤ x9 + 0) (f0 : x12 ≤ x10) (h1 : x12 = cycleLength_0 (x1)) (f3 : COI (cycles_0) (cycle_0) (cycleLength_0) (x1) (x8) (x9) (x10)) (f4 : (0 ≤ x1) ∧ ((x1 + 1) ≤ cycles_0)) (f5 : CYR (cycles_0) (drawnNodes_0) (cycle_0) (cycleLength_0)) (f6 : WYN (drawnNodes_0) (wayLength_0) (way_0)) (f7 : (cycles_0 + 1) ≤ 50) (hK_0_8 : ∀ j : Int, 0 ≤ j → j < 1250 → 0 ≤ cycle_0 j ∧ cycle_0 j ≤ 24) (hK_0_9 : ∀ j : Int, 0 ≤ j → j < 50 → 0 ≤ cycleLength_0 j ∧ cycleLength_0 j ≤ 25) (hK_0_14 : ∀ j : Int, 0 ≤ j → j < 27 → 0 ≤ way_0 j ∧ way_0 j ≤ 24) (kz_0_6 : 0 ≤ drawnNodes_0 ∧ drawnNodes_0 ≤ 33554431) (kz_0_7 : 0 ≤ cycles_0 ∧ cycles_0 ≤ 50) (kz_0_15 : 0 ≤ wayLength_0 ∧ wayLength_0 ≤ 27) : COJ (cycles_0) (drawnNodes_0) (wayLength_0) (cycle_0) (way_0) (x9) (x13) := by
  first
    | exact coj_start ‹COI _ _ _ _ _ _ _› ‹CYR _ _ _ _› (by omega)
    | exact coj_start (coi_step (L_zq := x25) (x := x12) (q := x16) (l2 := x17) (r := x18) (z := x19) (v := x20) ‹COI _ _ _ _ _ _ _› ‹CYR _ _ _ _› (by assumption) (by omega) (by omega) (by assumption) (by assumption) (by omega) (by assumption) (by assumption) (by omega) (by omega)) (cyc_keep (p := x24) (v := x20) ‹CYR _ _ _ _› (by assumption) (by omega)) (by omega)
    | exact coj_step (p := x18) (v := x20) ‹COJ _ _ _ _ _ _ _› ‹WYN _ _ _› (by omega) (by assumption) (by omega) (by assumption) (by omega) (by omega)
  
def o_Em_copyOther_1 : or_T := (87, 14, [(0, (2, 0, 0, [1])), (1, (0, 0, 49, [])), (5, (0, 0, 49, [])), (8, (0, 0, 24, [])), (9, (0, 0, 25, [])), (10, (0, 0, 25, [])), (12, (0, 0, 25, [])), (13, (0, 1, 1, []))], [(7, [10, 12], [3]), (10, [12, 11, 5], []), (9, [11, 4], [9]), (20, [4, 5, 8, 9, 10], [60, 1, 2, 617, 7, 8, 9]), (20, [5, 4], [50, 1, 0, 1007, 2, 6, 0, 2, 0, 0, 1, 0, 0, 6, 4, 2, 1, 0, 0, 1, 2, 1, 7]), (20, [4], [60, 2, 2, 603, 7, 6, 8, 9]), (20, [4], [60, 2, 1, 613, 6, 15, 14]), (20, [4], [50, 1, 0, 7, 0, 7, 4, 3, 2, 0, 7, 0, 1, 0, 50]), (24, [0, 4], []), (24, [1, 5], [])], [], [], [(20, [4, 9, 13], [60, 3, 2, 618, 7, 6, 15, 8, 14])], [], [(10, 12, 0, 4294967296), (1, 5, -4294967296, 0), (5, 1, -4294967296, 0), (9, 10, -4294967296, 0), (10, 9, -4294967296, 0)])
theorem oo_Em_copyOther_1 {kA : Nat → ClassId} : or_ok PRD kA GG o_Em_copyOther_1 := by
  refine or_mk fun A ta ws vs hD hth hl => ?_
  intro t0 r0 t1 k1 t5 k5 t8 k8 t9 k9 t10 k10 t12 k12 t13 k13 d0 d1 d2 d3 d4 f0 f1 f2 f3 f4 f5 f6 f7 f8 f9
  replace f0 := shm_2 f0
  replace f1 := shm_106 f1
  replace f2 := shm_120 f2
  replace f3 := shm_790 f3
  replace f4 := shm_788 f4
  replace f5 := shm_369 f5
  replace f6 := shm_787 f6
  replace f7 := shm_789 f7
  replace f8 := shm_5 f8
  replace f9 := shm_5 f9
  have q4 : n_v vs 4 = n_v vs 0 := f8.symm
  have q5 : n_v vs 5 = n_v vs 1 := f9.symm
  simp only [q5, q4] at f1 f2 f3 f4 f5 f6 f7
  have cr_0_8 := fdq_57 hD hth r0
  have cr_0_9 := fdq_56 hD hth r0
  have cr_0_14 := fdq_58 hD hth r0
  have ad_11 : v_ad (n_v vs 11) = w_ar ws (n_v vs 0) 9 := congrArg v_ad f2
  simp only [ad_11] at f1
  have h1 : v_iv (n_v vs 12) = w_ei ws (w_ar ws (n_v vs 0) 9) (v_iv (n_v vs 1)) := f1
  have hK_0_8 := elq_14 hD hth cr_0_8
  have hK_0_9 := elq_13 hD hth cr_0_9
  have hK_0_14 := elq_15 hD hth cr_0_14
  have kz_0_6 := fdq_59 hD hth r0
  have kz_0_7 := fdq_55 hD hth r0
  have kz_0_15 := fdq_60 hD hth r0
  have nf0 : fc_1 PRD (20, [4, 9, 13], [60, 3, 2, 618, 7, 6, 15, 8, 14]) ws (vs) := by
    refine ⟨nf_in hl rfl, sgq_791 ?_⟩
    · show COJ (w_fi ws (n_v vs 4) 7) (w_fi ws (n_v vs 4) 6) (w_fi ws (n_v vs 4) 15) (w_ei ws (w_ar ws (n_v vs 4) 8)) (w_ei ws (w_ar ws (n_v vs 4) 14)) (v_iv (n_v vs 9)) (v_iv (n_v vs 13))
      rw [q4]
      exact vc_Em_copyOther_1_0 (v_iv (n_v vs 1)) (v_iv (n_v vs 5)) (v_iv (n_v vs 8)) (v_iv (n_v vs 9)) (v_iv (n_v vs 10)) (v_iv (n_v vs 12)) (v_iv (n_v vs 13)) (w_ei ws (w_ar ws (n_v vs 0) 9)) (w_ei ws (w_ar ws (n_v vs 0) 8)) (w_fi ws (n_v vs 0) 7) (w_fi ws (n_v vs 0) 6) (w_ei ws (w_ar ws (n_v vs 0) 14)) (w_fi ws (n_v vs 0) 15) k1 k5 k8 k9 k10 k12 k13 d0 d1 d2 d3 d4 f0 h1 f3 f4 f5 f6 f7 hK_0_8 hK_0_9 hK_0_14 kz_0_6 kz_0_7 kz_0_15
  refine ⟨(fun _ h => (by cases h)), [], trivial, ?_, (fun _ h => (by cases h))⟩
  rw [List.append_nil]
  exact List.forall_mem_cons.mpr ⟨⟨show (20 : Nat) < 100 from by decide, nf0⟩, (fun _ h => (by cases h))⟩
set_option maxHeartbeats 4000000 in
theorem vc_Em_copyOther_2_r0 (x1 : Int) (x5 : Int) (x8 : Int) (x9 : Int) (x10 : Int) (x12 : Int) (x14 : Int) (x15 : Int) (x16 : Int) (x17 : Int) (cycleLength_0 : Int → Int) (cycle_0 : Int → Int) (cycles_0 : Int) (drawnNodes_0 : Int) (way_0 : Int → Int) (wayLength_0 : Int) (k1 : 0 ≤ x1 ∧ x1 ≤ 49) (k5 : 0 ≤ x5 ∧ x5 ≤ 49) (k8 : 0 ≤ x8 ∧ x8 ≤ 24) (k9 : 0 ≤ x9 ∧ x9 ≤ 24) (k10 : 0 ≤ x10 ∧ x10 ≤ 24) (k12 : 1 ≤ x12 ∧ x12 ≤ 25) (k14 : 25 ≤ x14 ∧ x14 ≤ 25) (k15 : 0 ≤ x15 ∧ x15 ≤ 1225) (k16 : 0 ≤ x16 ∧ x16 ≤ 48) (k17 : 0 ≤ x17 ∧ x17 ≤ 25) (d0 : x10 + 0 ≤ x16 ∧ x16 ≤ x10 + 24) (d1 : x12 + (-4294967296) ≤ x16 ∧ x16 ≤ x12 + 23) (d2 : x9 + (-4294967296) ≤ x16 ∧ x16 ≤ x9 + 24) (d3 : x8 + 0 ≤ x16 ∧ x16 ≤ x8 + 24) (d4 : x12 + (-4294967296) ≤ x10 ∧ x10 ≤ x12 + (-1)) (d5 : x5 + (-4294967296) ≤ x1 ∧ x1 ≤ x5 + 0) (d6 : x1 + (-4294967296) ≤ x5 ∧ x5 ≤ x1 + 0) (d7 : x10 + (-4294967296) ≤ x9 ∧ x9 ≤ x10 + 0) (d8 : x9 + (-4294967296) ≤ x10 ∧ x10 ≤ x9 + 0) (h0 : x17 = cycleLength_0 (x1)) (f2 : x16 = x8 + x10) (f3 : x15 = x1 * 25) (f5 : x10 < x12) (h6 : x12 = cycleLength_0 (x1)) (f7 : COI (cycles_0) (cycle_0) (cycleLength_0) (x1) (x8) (x9) (x10)) (f8 : (0 ≤ x1) ∧ ((x1 + 1) ≤ cycles_0)) (f9 : CYR (cycles_0) (drawnNodes_0) (cycle_0) (cycleLength_0)) (f10 : WYN (drawnNodes_0) (wayLength_0) (way_0)) (f11 : (cycles_0 + 1) ≤ 50) (hK_0_8 : ∀ j : Int, 0 ≤ j → j < 1250 → 0 ≤ cycle_0 j ∧ cycle_0 j ≤ 24) (hK_0_9 : ∀ j : Int, 0 ≤ j → j < 50 → 0 ≤ cycleLength_0 j ∧ cycleLength_0 j ≤ 25) (hK_0_14 : ∀ j : Int, 0 ≤ j → j < 27 → 0 ≤ way_0 j ∧ way_0 j ≤ 24) (kz_0_6 : 0 ≤ drawnNodes_0 ∧ drawnNodes_0 ≤ 33554431) (kz_0_7 : 0 ≤ cycles_0 ∧ cycles_0 ≤ 50) (kz_0_15 : 0 ≤ wayLength_0 ∧ wayLength_0 ≤ 27) : 1 ≤ x17 ∧ x17 ≤ 25 := by
  first
    | omega
    | (have q := cyc_le ‹CYR _ _ _ _› (c := x1) (by omega) (by omega); omega)
    | (have q := cyc_le ‹CYR _ _ _ _› (c := x1) (by omega) (by omega); have q2 := (‹COI _ _ _ _ _ _ _›).1; omega)
    | (have q := gdr_le (coj_gdr ‹COJ _ _ _ _ _ _ _›); have q2 := (‹COJ _ _ _ _ _ _ _›).2.2.1; omega)
    | (have q := coj_room ‹COJ _ _ _ _ _ _ _› ‹WYN _ _ _› (by omega); omega)
  
def o_Em_copyOther_2 : or_T := (44, 18, [(0, (2, 0, 0, [1])), (1, (0, 0, 49, [])), (4, (2, 0, 0, [1])), (5, (0, 0, 49, [])), (8, (0, 0, 24, [])), (9, (0, 0, 24, [])), (10, (0, 0, 24, [])), (11, (2, 0, 0, [30])), (12, (0, 1, 25, [])), (13, (2, 0, 0, [29])), (14, (0, 25, 25, [])), (15, (0, 0, 1225, [])), (16, (0, 0, 48, [])), (17, (0, 0, 25, []))], [(10, [17, 11, 5], []), (9, [11, 4], [9]), (1, [16, 8, 10], []), (3, [15, 5, 14], []), (9, [13, 4], [8]), (7, [10, 12], [2]), (10, [12, 11, 5], []), (20, [4, 5, 8, 9, 10], [60, 1, 2, 617, 7, 8, 9]), (20, [5, 4], [50, 1, 0, 1007, 2, 6, 0, 2, 0, 0, 1, 0, 0, 6, 4, 2, 1, 0, 0, 1, 2, 1, 7]), (20, [4], [60, 2, 2, 603, 7, 6, 8, 9]), (20, [4], [60, 2, 1, 613, 6, 15, 14]), (20, [4], [50, 1, 0, 7, 0, 7, 4, 3, 2, 0, 7, 0, 1, 0, 50]), (24, [0, 4], []), (24, [1, 5], [])], [(17, (0, 1, 25, []))], [], [], [], [(16, 10, 0, 24), (16, 12, -4294967296, 23), (16, 9, -4294967296, 24), (16, 8, 0, 24), (10, 12, -4294967296, -1), (1, 5, -4294967296, 0), (5, 1, -4294967296, 0), (9, 10, -4294967296, 0), (10, 9, -4294967296, 0)])
theorem oo_Em_copyOther_2 {kA : Nat → ClassId} : or_ok PRD kA GG o_Em_copyOther_2 := by
  refine or_mk fun A ta ws vs hD hth hl => ?_
  intro t0 r0 t1 k1 t4 r4 t5 k5 t8 k8 t9 k9 t10 k10 t11 r11 t12 k12 t13 r13 t14 k14 t15 k15 t16 k16 t17 k17 d0 d1 d2 d3 d4 d5 d6 d7 d8 f0 f1 f2 f3 f4 f5 f6 f7 f8 f9 f10 f11 f12 f13
  replace f0 := shm_106 f0
  replace f1 := shm_120 f1
  replace f3 := shm_38 f3
  rw [show v_iv (n_v vs 14) = 25 from by omega] at f3
  replace f6 := shm_106 f6
  replace f7 := shm_790 f7
  replace f8 := shm_788 f8
  replace f9 := shm_369 f9
  replace f10 := shm_787 f10
  replace f11 := shm_789 f11
  replace f12 := shm_5 f12
  replace f13 := shm_5 f13
  have q4 : n_v vs 4 = n_v vs 0 := f12.symm
  have q5 : n_v vs 5 = n_v vs 1 := f13.symm
  simp only [q5, q4] at f0 f1 f3 f6 f7 f8 f9 f10 f11
  have cr_0_8 := fdq_57 hD hth r0
  have cr_0_9 := fdq_56 hD hth r0
  have cr_0_14 := fdq_58 hD hth r0
  have ad_11 : v_ad (n_v vs 11) = w_ar ws (n_v vs 0) 9 := congrArg v_ad f1
  simp only [ad_11] at f0
  have h0 : v_iv (n_v vs 17) = w_ei ws (w_ar ws (n_v vs 0) 9) (v_iv (n_v vs 1)) := f0
  simp only [ad_11] at f6
  have h6 : v_iv (n_v vs 12) = w_ei ws (w_ar ws (n_v vs 0) 9) (v_iv (n_v vs 1)) := f6
  have hK_0_8 := elq_14 hD hth cr_0_8
  have hK_0_9 := elq_13 hD hth cr_0_9
  have hK_0_14 := elq_15 hD hth cr_0_14
  have kz_0_6 := fdq_59 hD hth r0
  have kz_0_7 := fdq_55 hD hth r0
  have kz_0_15 := fdq_60 hD hth r0
  have hrf0 : 1 ≤ v_iv (n_v vs 17) ∧ v_iv (n_v vs 17) ≤ 25 := vc_Em_copyOther_2_r0 (v_iv (n_v vs 1)) (v_iv (n_v vs 5)) (v_iv (n_v vs 8)) (v_iv (n_v vs 9)) (v_iv (n_v vs 10)) (v_iv (n_v vs 12)) (v_iv (n_v vs 14)) (v_iv (n_v vs 15)) (v_iv (n_v vs 16)) (v_iv (n_v vs 17)) (w_ei ws (w_ar ws (n_v vs 0) 9)) (w_ei ws (w_ar ws (n_v vs 0) 8)) (w_fi ws (n_v vs 0) 7) (w_fi ws (n_v vs 0) 6) (w_ei ws (w_ar ws (n_v vs 0) 14)) (w_fi ws (n_v vs 0) 15) k1 k5 k8 k9 k10 k12 k14 k15 k16 k17 d0 d1 d2 d3 d4 d5 d6 d7 d8 h0 (shm_12 f2) f3 (shm_6 f5) h6 f7 f8 f9 f10 f11 hK_0_8 hK_0_9 hK_0_14 kz_0_6 kz_0_7 kz_0_15
  have rf17 : tv_ok ta (0, 1, 25, []) (n_v vs 17) := tv_in t17 (by first | omega | grind) (by first | omega | grind)
  refine ⟨List.forall_mem_cons.mpr ⟨rf17, (fun _ h => (by cases h))⟩, [], trivial, ?_, (fun _ h => (by cases h))⟩
  rw [List.append_nil]
  exact (fun _ h => (by cases h))
set_option maxHeartbeats 4000000 in
theorem vc_Em_copyOther_3_r0 (x1 : Int) (x5 : Int) (x8 : Int) (x9 : Int) (x10 : Int) (x12 : Int) (x14 : Int) (x15 : Int) (x16 : Int) (x17 : Int) (x18 : Int) (x19 : Int) (x20 : Int) (x21 : Int) (x22 : Int) (x23 : Int) (x24 : Int) (cycles_0 : Int) (cycle_0 : Int → Int) (cycleLength_0 : Int → Int) (drawnNodes_0 : Int) (way_0 : Int → Int) (wayLength_0 : Int) (k1 : 0 ≤ x1 ∧ x1 ≤ 49) (k5 : 0 ≤ x5 ∧ x5 ≤ 49) (k8 : 0 ≤ x8 ∧ x8 ≤ 24) (k9 : 0 ≤ x9 ∧ x9 ≤ 24) (k10 : 0 ≤ x10 ∧ x10 ≤ 24) (k12 : 1 ≤ x12 ∧ x12 ≤ 25) (k14 : 25 ≤ x14 ∧ x14 ≤ 25) (k15 : 0 ≤ x15 ∧ x15 ≤ 1225) (k16 : 0 ≤ x16 ∧ x16 ≤ 48) (k17 : 1 ≤ x17 ∧ x17 ≤ 25) (k18 : 0 ≤ x18 ∧ x18 ≤ 24) (k19 : 0 ≤ x19 ∧ x19 ≤ 1249) (k20 : 0 ≤ x20 ∧ x20 ≤ 24) (k21 : 0 ≤ x21 ∧ x21 ≤ 50) (k22 : 25 ≤ x22 ∧ x22 ≤ 25) (k23 : 0 ≤ x23 ∧ x23 ≤ 1250) (k24 : 0 ≤ x24 ∧ x24 ≤ 1274) (d0 : x9 + 0 ≤ x24 ∧ x24 ≤ x9 + 1250) (d1 : x10 + (-4294967296) ≤ x24 ∧ x24 ≤ x10 + 1250) (d2 : x23 + 0 ≤ x24 ∧ x24 ≤ x23 + 24) (d3 : x18 + 0 ≤ x19 ∧ x19 ≤ x18 + 1225) (d4 : x17 + (-4294967295) ≤ x19 ∧ x19 ≤ x17 + 1224) (d5 : x15 + 0 ≤ x19 ∧ x19 ≤ x15 + 24) (d6 : x17 + (-4294967295) ≤ x18 ∧ x18 ≤ x17 + (-1)) (d7 : x10 + 0 ≤ x16 ∧ x16 ≤ x10 + 24) (d8 : x12 + (-4294967296) ≤ x16 ∧ x16 ≤ x12 + 23) (d9 : x9 + (-4294967296) ≤ x16 ∧ x16 ≤ x9 + 24) (d10 : x8 + 0 ≤ x16 ∧ x16 ≤ x8 + 24) (d11 : x12 + (-4294967296) ≤ x10 ∧ x10 ≤ x12 + (-1)) (d12 : x5 + (-4294967296) ≤ x1 ∧ x1 ≤ x5 + 0) (d13 : x1 + (-4294967296) ≤ x5 ∧ x5 ≤ x1 + 0) (d14 : x10 + (-4294967296) ≤ x9 ∧ x9 ≤ x10 + 0) (d15 : x9 + (-4294967296) ≤ x10 ∧ x10 ≤ x9 + 0) (f0 : x24 = x23 + x9) (f1 : x23 = x21 * 25) (g2 : x21 = cycles_0) (h4 : x20 = cycle_0 (x19)) (f5 : x19 = x15 + x18) (f6 : x18 = Int.tmod (x16) (x17)) (h7 : x17 = cycleLength_0 (x1)) (f9 : x16 = x8 + x10) (f10 : x15 = x1 * 25) (f11 : x10 < x12) (h12 : x12 = cycleLength_0 (x1)) (f13 : COI (cycles_0) (cycle_0) (cycleLength_0) (x1) (x8) (x9) (x10)) (f14 : (0 ≤ x1) ∧ ((x1 + 1) ≤ cycles_0)) (f15 : CYR (cycles_0) (drawnNodes_0) (cycle_0) (cycleLength_0)) (f16 : WYN (drawnNodes_0) (wayLength_0) (way_0)) (f17 : (cycles_0 + 1) ≤ 50) (hK_0_8 : ∀ j : Int, 0 ≤ j → j < 1250 → 0 ≤ cycle_0 j ∧ cycle_0 j ≤ 24) (hK_0_9 : ∀ j : Int, 0 ≤ j → j < 50 → 0 ≤ cycleLength_0 j ∧ cycleLength_0 j ≤ 25) (hK_0_14 : ∀ j : Int, 0 ≤ j → j < 27 → 0 ≤ way_0 j ∧ way_0 j ≤ 24) (kz_0_6 : 0 ≤ drawnNodes_0 ∧ drawnNodes_0 ≤ 33554431) (kz_0_7 : 0 ≤ cycles_0 ∧ cycles_0 ≤ 50) (kz_0_15 : 0 ≤ wayLength_0 ∧ wayLength_0 ≤ 27) : 0 ≤ x24 ∧ x24 ≤ 1249 := by
  first
    | omega
    | (have q := cyc_le ‹CYR _ _ _ _› (c := x1) (by omega) (by omega); omega)
    | (have q := cyc_le ‹CYR _ _ _ _› (c := x1) (by omega) (by omega); have q2 := (‹COI _ _ _ _ _ _ _›).1; omega)
    | (have q := gdr_le (coj_gdr ‹COJ _ _ _ _ _ _ _›); have q2 := (‹COJ _ _ _ _ _ _ _›).2.2.1; omega)
    | (have q := coj_room ‹COJ _ _ _ _ _ _ _› ‹WYN _ _ _› (by omega); omega)
  
def o_Em_copyOther_3 : or_T := (65, 25, [(0, (2, 0, 0, [1])), (1, (0, 0, 49, [])), (4, (2, 0, 0, [1])), (5, (0, 0, 49, [])), (8, (0, 0, 24, [])), (9, (0, 0, 24, [])), (10, (0, 0, 24, [])), (11, (2, 0, 0, [30])), (12, (0, 1, 25, [])), (13, (2, 0, 0, [29])), (14, (0, 25, 25, [])), (15, (0, 0, 1225, [])), (16, (0, 0, 48, [])), (17, (0, 1, 25, [])), (18, (0, 0, 24, [])), (19, (0, 0, 1249, [])), (20, (0, 0, 24, [])), (21, (0, 0, 50, [])), (22, (0, 25, 25, [])), (23, (0, 0, 1250, [])), (24, (0, 0, 1274, []))], [(1, [24, 23, 9], []), (3, [23, 21, 22], []), (9, [21, 4], [7]), (9, [13, 4], [8]), (10, [20, 13, 19], []), (1, [19, 15, 18], []), (5, [18, 16, 17], []), (10, [17, 11, 5], []), (9, [11, 4], [9]), (1, [16, 8, 10], []), (3, [15, 5, 14], []), (7, [10, 12], [2]), (10, [12, 11, 5], []), (20, [4, 5, 8, 9, 10], [60, 1, 2, 617, 7, 8, 9]), (20, [5, 4], [50, 1, 0, 1007, 2, 6, 0, 2, 0, 0, 1, 0, 0, 6, 4, 2, 1, 0, 0, 1, 2, 1, 7]), (20, [4], [60, 2, 2, 603, 7, 6, 8, 9]), (20, [4], [60, 2, 1, 613, 6, 15, 14]), (20, [4], [50, 1, 0, 7, 0, 7, 4, 3, 2, 0, 7, 0, 1, 0, 50]), (24, [0, 4], []), (24, [1, 5], [])], [(24, (0, 0, 1249, []))], [], [], [], [(24, 9, 0, 1250), (24, 10, -4294967296, 1250), (24, 23, 0, 24), (19, 18, 0, 1225), (19, 17, -4294967295, 1224), (19, 15, 0, 24), (18, 17, -4294967295, -1), (16, 10, 0, 24), (16, 12, -4294967296, 23), (16, 9, -4294967296, 24), (16, 8, 0, 24), (10, 12, -4294967296, -1), (1, 5, -4294967296, 0), (5, 1, -4294967296, 0), (9, 10, -4294967296, 0), (10, 9, -4294967296, 0)])
theorem oo_Em_copyOther_3 {kA : Nat → ClassId} : or_ok PRD kA GG o_Em_copyOther_3 := by
  refine or_mk fun A ta ws vs hD hth hl => ?_
  intro t0 r0 t1 k1 t4 r4 t5 k5 t8 k8 t9 k9 t10 k10 t11 r11 t12 k12 t13 r13 t14 k14 t15 k15 t16 k16 t17 k17 t18 k18 t19 k19 t20 k20 t21 k21 t22 k22 t23 k23 t24 k24 d0 d1 d2 d3 d4 d5 d6 d7 d8 d9 d10 d11 d12 d13 d14 d15 f0 f1 f2 f3 f4 f5 f6 f7 f8 f9 f10 f11 f12 f13 f14 f15 f16 f17 f18 f19
  replace f1 := shm_38 f1
  rw [show v_iv (n_v vs 22) = 25 from by omega] at f1
  replace f2 := shm_216 f2
  replace f3 := shm_143 f3
  replace f4 := shm_106 f4
  replace f7 := shm_106 f7
  replace f8 := shm_120 f8
  replace f10 := shm_38 f10
  rw [show v_iv (n_v vs 14) = 25 from by omega] at f10
  replace f12 := shm_106 f12
  replace f13 := shm_790 f13
  replace f14 := shm_788 f14
  replace f15 := shm_369 f15
  replace f16 := shm_787 f16
  replace f17 := shm_789 f17
  replace f18 := shm_5 f18
  replace f19 := shm_5 f19
  have q4 : n_v vs 4 = n_v vs 0 := f18.symm
  have q5 : n_v vs 5 = n_v vs 1 := f19.symm
  simp only [q4, q5] at f2 f3 f7 f8 f10 f12 f13 f14 f15 f16 f17
  have cr_0_8 := fdq_57 hD hth r0
  have cr_0_9 := fdq_56 hD hth r0
  have cr_0_14 := fdq_58 hD hth r0
  have ad_13 : v_ad (n_v vs 13) = w_ar ws (n_v vs 0) 8 := congrArg v_ad f3
  have ad_11 : v_ad (n_v vs 11) = w_ar ws (n_v vs 0) 9 := congrArg v_ad f8
  have g2 : v_iv (n_v vs 21) = w_fi ws (n_v vs 0) 7 := congrArg v_iv f2
  simp only [ad_13] at f4
  have h4 : v_iv (n_v vs 20) = w_ei ws (w_ar ws (n_v vs 0) 8) (v_iv (n_v vs 19)) := f4
  simp only [ad_11] at f7
  have h7 : v_iv (n_v vs 17) = w_ei ws (w_ar ws (n_v vs 0) 9) (v_iv (n_v vs 1)) := f7
  simp only [ad_11] at f12
  have h12 : v_iv (n_v vs 12) = w_ei ws (w_ar ws (n_v vs 0) 9) (v_iv (n_v vs 1)) := f12
  have hK_0_8 := elq_14 hD hth cr_0_8
  have hK_0_9 := elq_13 hD hth cr_0_9
  have hK_0_14 := elq_15 hD hth cr_0_14
  have kz_0_6 := fdq_59 hD hth r0
  have kz_0_7 := fdq_55 hD hth r0
  have kz_0_15 := fdq_60 hD hth r0
  have hrf0 : 0 ≤ v_iv (n_v vs 24) ∧ v_iv (n_v vs 24) ≤ 1249 := vc_Em_copyOther_3_r0 (v_iv (n_v vs 1)) (v_iv (n_v vs 5)) (v_iv (n_v vs 8)) (v_iv (n_v vs 9)) (v_iv (n_v vs 10)) (v_iv (n_v vs 12)) (v_iv (n_v vs 14)) (v_iv (n_v vs 15)) (v_iv (n_v vs 16)) (v_iv (n_v vs 17)) (v_iv (n_v vs 18)) (v_iv (n_v vs 19)) (v_iv (n_v vs 20)) (v_iv (n_v vs 21)) (v_iv (n_v vs 22)) (v_iv (n_v vs 23)) (v_iv (n_v vs 24)) (w_fi ws (n_v vs 0) 7) (w_ei ws (w_ar ws (n_v vs 0) 8)) (w_ei ws (w_ar ws (n_v vs 0) 9)) (w_fi ws (n_v vs 0) 6) (w_ei ws (w_ar ws (n_v vs 0) 14)) (w_fi ws (n_v vs 0) 15) k1 k5 k8 k9 k10 k12 k14 k15 k16 k17 k18 k19 k20 k21 k22 k23 k24 d0 d1 d2 d3 d4 d5 d6 d7 d8 d9 d10 d11 d12 d13 d14 d15 (shm_12 f0) f1 g2 h4 (shm_12 f5) (shm_462 f6) h7 (shm_12 f9) f10 (shm_6 f11) h12 f13 f14 f15 f16 f17 hK_0_8 hK_0_9 hK_0_14 kz_0_6 kz_0_7 kz_0_15
  have rf24 : tv_ok ta (0, 0, 1249, []) (n_v vs 24) := tv_in t24 (by first | omega | grind) (by first | omega | grind)
  refine ⟨List.forall_mem_cons.mpr ⟨rf24, (fun _ h => (by cases h))⟩, [], trivial, ?_, (fun _ h => (by cases h))⟩
  rw [List.append_nil]
  exact (fun _ h => (by cases h))
set_option maxHeartbeats 4000000 in
theorem vc_Em_copyOther_4_0 (x1 : Int) (x5 : Int) (x7 : Int) (x8 : Int) (x9 : Int) (x10 : Int) (x12 : Int) (x14 : Int) (x15 : Int) (x16 : Int) (x17 : Int) (x18 : Int) (x19 : Int) (x20 : Int) (x21 : Int) (x22 : Int) (x23 : Int) (x24 : Int) (x25 : Int) (x26 : Int) (cycles_0 : Int) (way_0 : Int → Int) (drawnNodes_0 : Int) (wayLength_0 : Int) (cycles_1 : Int) (cycle_1 : Int → Int) (cycleLength_1 : Int → Int) (drawnNodes_1 : Int) (way_1 : Int → Int) (wayLength_1 : Int) (cycle_0 : Int → Int) (cycleLength_0 : Int → Int) (k1 : 0 ≤ x1 ∧ x1 ≤ 49) (k5 : 0 ≤ x5 ∧ x5 ≤ 49) (k7 : 0 ≤ x7 ∧ x7 ≤ 24) (k8 : 0 ≤ x8 ∧ x8 ≤ 24) (k9 : 0 ≤ x9 ∧ x9 ≤ 24) (k10 : 0 ≤ x10 ∧ x10 ≤ 24) (k12 : 1 ≤ x12 ∧ x12 ≤ 25) (k14 : 25 ≤ x14 ∧ x14 ≤ 25) (k15 : 0 ≤ x15 ∧ x15 ≤ 1225) (k16 : 0 ≤ x16 ∧ x16 ≤ 48) (k17 : 1 ≤ x17 ∧ x17 ≤ 25) (k18 : 0 ≤ x18 ∧ x18 ≤ 24) (k19 : 0 ≤ x19 ∧ x19 ≤ 1249) (k20 : 0 ≤ x20 ∧ x20 ≤ 24) (k21 : 0 ≤ x21 ∧ x21 ≤ 50) (k22 : 25 ≤ x22 ∧ x22 ≤ 25) (k23 : 0 ≤ x23 ∧ x23 ≤ 1250) (k24 : 0 ≤ x24 ∧ x24 ≤ 1249) (k25 : 1 ≤ x25 ∧ x25 ≤ 25) (k26 : 1 ≤ x26 ∧ x26 ≤ 25) (d0 : x10 + 1 ≤ x26 ∧ x26 ≤ x10 + 1) (d1 : x12 + (-4294967296) ≤ x26 ∧ x26 ≤ x12 + 0) (d2 : x9 + (-4294967296) ≤ x26 ∧ x26 ≤ x9 + 1) (d3 : x9 + 1 ≤ x25 ∧ x25 ≤ x9 + 1) (d4 : x10 + (-4294967296) ≤ x25 ∧ x25 ≤ x10 + 1) (d5 : x9 + 0 ≤ x24 ∧ x24 ≤ x9 + 1250) (d6 : x23 + 0 ≤ x24 ∧ x24 ≤ x23 + 24) (d7 : x18 + 0 ≤ x19 ∧ x19 ≤ x18 + 1225) (d8 : x17 + (-4294967295) ≤ x19 ∧ x19 ≤ x17 + 1224) (d9 : x15 + 0 ≤ x19 ∧ x19 ≤ x15 + 24) (d10 : x17 + (-4294967295) ≤ x18 ∧ x18 ≤ x17 + (-1)) (d11 : x10 + 0 ≤ x16 ∧ x16 ≤ x10 + 24) (d12 : x12 + (-4294967296) ≤ x16 ∧ x16 ≤ x12 + 23) (d13 : x9 + (-4294967296) ≤ x16 ∧ x16 ≤ x9 + 24) (d14 : x8 + 0 ≤ x16 ∧ x16 ≤ x8 + 24) (d15 : x12 + (-4294967296) ≤ x10 ∧ x10 ≤ x12 + (-1)) (d16 : x5 + (-4294967296) ≤ x1 ∧ x1 ≤ x5 + 0) (d17 : x1 + (-4294967296) ≤ x5 ∧ x5 ≤ x1 + 0) (d18 : x10 + (-4294967296) ≤ x9 ∧ x9 ≤ x10 + 0) (d19 : x9 + (-4294967296) ≤ x10 ∧ x10 ≤ x9 + 0) (f0 : x26 = x10 + 1) (f1 : x20 ≠ x7) (f2 : x25 = x9 + 1) (f3 : (0 ≤ x1) ∧ ((x1 + 1) ≤ cycles_0)) (f4 : WYN (drawnNodes_0) (wayLength_0) (way_0)) (f5 : (cycles_0 + 1) ≤ 50) (f9 : x24 = x23 + x9) (f10 : x23 = x21 * 25) (g11 : x21 = cycles_1) (h13 : x20 = cycle_1 (x19)) (f14 : x19 = x15 + x18) (f15 : x18 = Int.tmod (x16) (x17)) (h16 : x17 = cycleLength_1 (x1)) (f18 : x16 = x8 + x10) (f19 : x15 = x1 * 25) (f20 : x10 < x12) (h21 : x12 = cycleLength_1 (x1)) (f22 : COI (cycles_1) (cycle_1) (cycleLength_1) (x1) (x8) (x9) (x10)) (f23 : (0 ≤ x1) ∧ ((x1 + 1) ≤ cycles_1)) (f24 : CYR (cycles_1) (drawnNodes_1) (cycle_1) (cycleLength_1)) (f25 : WYN (drawnNodes_1) (wayLength_1) (way_1)) (f26 : (cycles_1 + 1) ≤ 50) (fe_0_6_1 : drawnNodes_0 = drawnNodes_1) (fe_0_7_1 : cycles_0 = cycles_1) (fe_0_15_1 : wayLength_0 = wayLength_1) (hE_0_8_1 : ∀ j : Int, 0 ≤ j → (j = x24 → cycle_0 j = x20) ∧ (j ≠ x24 → cycle_0 j = cycle_1 j)) (hK_0_8 : ∀ j : Int, 0 ≤ j → j < 1250 → 0 ≤ cycle_0 j ∧ cycle_0 j ≤ 24) (hE_0_9_1 : ∀ j : Int, cycleLength_0 j = cycleLength_1 j) (hK_0_9 : ∀ j : Int, 0 ≤ j → j < 50 → 0 ≤ cycleLength_0 j ∧ cycleLength_0 j ≤ 25) (hE_0_14_1 : ∀ j : Int, way_0 j = way_1 j) (hK_0_14 : ∀ j : Int, 0 ≤ j → j < 27 → 0 ≤ way_0 j ∧ way_0 j ≤ 24) (kz_0_6 : 0 ≤ drawnNodes_0 ∧ drawnNodes_0 ≤ 33554431) (kz_0_7 : 0 ≤ cycles_0 ∧ cycles_0 ≤ 50) (kz_0_15 : 0 ≤ wayLength_0 ∧ wayLength_0 ≤ 27) : COI (cycles_0) (cycle_0) (cycleLength_0) (x1) (x8) (x25) (x26) := by
  subst fe_0_6_1
  subst fe_0_7_1
  subst fe_0_15_1
  have e_hE_0_9_1 := funext hE_0_9_1; subst e_hE_0_9_1
  have e_hE_0_14_1 := funext hE_0_14_1; subst e_hE_0_14_1
  first
    | exact coi_start (by omega) (by omega) (by omega) (by omega) (by omega) ((‹CYR _ _ _ _›) x1 (by omega) (by omega)).1 (by omega)
    | (rw [show x26 = x10 + 1 by omega]; exact coi_step (x := x12) (q := x16) (l2 := x17) (r := x18) (z := x19) (v := x20) ‹COI _ _ _ _ _ _ _› ‹CYR _ _ _ _› (by assumption) (by omega) (by omega) (by assumption) (by assumption) (by omega) (by assumption) (by assumption) (by omega) (by omega))
  
set_option maxHeartbeats 4000000 in
theorem vc_Em_copyOther_4_1 (x1 : Int) (x5 : Int) (x7 : Int) (x8 : Int) (x9 : Int) (x10 : Int) (x12 : Int) (x14 : Int) (x15 : Int) (x16 : Int) (x17 : Int) (x18 : Int) (x19 : Int) (x20 : Int) (x21 : Int) (x22 : Int) (x23 : Int) (x24 : Int) (x25 : Int) (x26 : Int) (cycles_0 : Int) (way_0 : Int → Int) (drawnNodes_0 : Int) (wayLength_0 : Int) (cycles_1 : Int) (cycle_1 : Int → Int) (cycleLength_1 : Int → Int) (drawnNodes_1 : Int) (way_1 : Int → Int) (wayLength_1 : Int) (cycle_0 : Int → Int) (cycleLength_0 : Int → Int) (k1 : 0 ≤ x1 ∧ x1 ≤ 49) (k5 : 0 ≤ x5 ∧ x5 ≤ 49) (k7 : 0 ≤ x7 ∧ x7 ≤ 24) (k8 : 0 ≤ x8 ∧ x8 ≤ 24) (k9 : 0 ≤ x9 ∧ x9 ≤ 24) (k10 : 0 ≤ x10 ∧ x10 ≤ 24) (k12 : 1 ≤ x12 ∧ x12 ≤ 25) (k14 : 25 ≤ x14 ∧ x14 ≤ 25) (k15 : 0 ≤ x15 ∧ x15 ≤ 1225) (k16 : 0 ≤ x16 ∧ x16 ≤ 48) (k17 : 1 ≤ x17 ∧ x17 ≤ 25) (k18 : 0 ≤ x18 ∧ x18 ≤ 24) (k19 : 0 ≤ x19 ∧ x19 ≤ 1249) (k20 : 0 ≤ x20 ∧ x20 ≤ 24) (k21 : 0 ≤ x21 ∧ x21 ≤ 50) (k22 : 25 ≤ x22 ∧ x22 ≤ 25) (k23 : 0 ≤ x23 ∧ x23 ≤ 1250) (k24 : 0 ≤ x24 ∧ x24 ≤ 1249) (k25 : 1 ≤ x25 ∧ x25 ≤ 25) (k26 : 1 ≤ x26 ∧ x26 ≤ 25) (d0 : x10 + 1 ≤ x26 ∧ x26 ≤ x10 + 1) (d1 : x12 + (-4294967296) ≤ x26 ∧ x26 ≤ x12 + 0) (d2 : x9 + (-4294967296) ≤ x26 ∧ x26 ≤ x9 + 1) (d3 : x9 + 1 ≤ x25 ∧ x25 ≤ x9 + 1) (d4 : x10 + (-4294967296) ≤ x25 ∧ x25 ≤ x10 + 1) (d5 : x9 + 0 ≤ x24 ∧ x24 ≤ x9 + 1250) (d6 : x23 + 0 ≤ x24 ∧ x24 ≤ x23 + 24) (d7 : x18 + 0 ≤ x19 ∧ x19 ≤ x18 + 1225) (d8 : x17 + (-4294967295) ≤ x19 ∧ x19 ≤ x17 + 1224) (d9 : x15 + 0 ≤ x19 ∧ x19 ≤ x15 + 24) (d10 : x17 + (-4294967295) ≤ x18 ∧ x18 ≤ x17 + (-1)) (d11 : x10 + 0 ≤ x16 ∧ x16 ≤ x10 + 24) (d12 : x12 + (-4294967296) ≤ x16 ∧ x16 ≤ x12 + 23) (d13 : x9 + (-4294967296) ≤ x16 ∧ x16 ≤ x9 + 24) (d14 : x8 + 0 ≤ x16 ∧ x16 ≤ x8 + 24) (d15 : x12 + (-4294967296) ≤ x10 ∧ x10 ≤ x12 + (-1)) (d16 : x5 + (-4294967296) ≤ x1 ∧ x1 ≤ x5 + 0) (d17 : x1 + (-4294967296) ≤ x5 ∧ x5 ≤ x1 + 0) (d18 : x10 + (-4294967296) ≤ x9 ∧ x9 ≤ x10 + 0) (d19 : x9 + (-4294967296) ≤ x10 ∧ x10 ≤ x9 + 0) (f0 : x26 = x10 + 1) (f1 : x20 ≠ x7) (f2 : x25 = x9 + 1) (f3 : (0 ≤ x1) ∧ ((x1 + 1) ≤ cycles_0)) (f4 : WYN (drawnNodes_0) (wayLength_0) (way_0)) (f5 : (cycles_0 + 1) ≤ 50) (f9 : x24 = x23 + x9) (f10 : x23 = x21 * 25) (g11 : x21 = cycles_1) (h13 : x20 = cycle_1 (x19)) (f14 : x19 = x15 + x18) (f15 : x18 = Int.tmod (x16) (x17)) (h16 : x17 = cycleLength_1 (x1)) (f18 : x16 = x8 + x10) (f19 : x15 = x1 * 25) (f20 : x10 < x12) (h21 : x12 = cycleLength_1 (x1)) (f22 : COI (cycles_1) (cycle_1) (cycleLength_1) (x1) (x8) (x9) (x10)) (f23 : (0 ≤ x1) ∧ ((x1 + 1) ≤ cycles_1)) (f24 : CYR (cycles_1) (drawnNodes_1) (cycle_1) (cycleLength_1)) (f25 : WYN (drawnNodes_1) (wayLength_1) (way_1)) (f26 : (cycles_1 + 1) ≤ 50) (fe_0_6_1 : drawnNodes_0 = drawnNodes_1) (fe_0_7_1 : cycles_0 = cycles_1) (fe_0_15_1 : wayLength_0 = wayLength_1) (hE_0_8_1 : ∀ j : Int, 0 ≤ j → (j = x24 → cycle_0 j = x20) ∧ (j ≠ x24 → cycle_0 j = cycle_1 j)) (hK_0_8 : ∀ j : Int, 0 ≤ j → j < 1250 → 0 ≤ cycle_0 j ∧ cycle_0 j ≤ 24) (hE_0_9_1 : ∀ j : Int, cycleLength_0 j = cycleLength_1 j) (hK_0_9 : ∀ j : Int, 0 ≤ j → j < 50 → 0 ≤ cycleLength_0 j ∧ cycleLength_0 j ≤ 25) (hE_0_14_1 : ∀ j : Int, way_0 j = way_1 j) (hK_0_14 : ∀ j : Int, 0 ≤ j → j < 27 → 0 ≤ way_0 j ∧ way_0 j ≤ 24) (kz_0_6 : 0 ≤ drawnNodes_0 ∧ drawnNodes_0 ≤ 33554431) (kz_0_7 : 0 ≤ cycles_0 ∧ cycles_0 ≤ 50) (kz_0_15 : 0 ≤ wayLength_0 ∧ wayLength_0 ≤ 27) : CYR (cycles_0) (drawnNodes_0) (cycle_0) (cycleLength_0) := by
  subst fe_0_6_1
  subst fe_0_7_1
  subst fe_0_15_1
  have e_hE_0_9_1 := funext hE_0_9_1; subst e_hE_0_9_1
  have e_hE_0_14_1 := funext hE_0_14_1; subst e_hE_0_14_1
  first
    | assumption
    | exact cyc_keep (p := x24) (v := x20) ‹CYR _ _ _ _› (by assumption) (by omega)
    | exact cyc_keep (p := x18) (v := x20) ‹CYR _ _ _ _› (by assumption) (by omega)
    | (have q2 := (‹COJ _ _ _ _ _ _ _›).2.2.1; exact cyc_keep (p := x18) (v := x20) ‹CYR _ _ _ _› (by assumption) (by omega))
  
def o_Em_copyOther_4 : or_T := (14, 27, [(0, (2, 0, 0, [1])), (1, (0, 0, 49, [])), (5, (0, 0, 49, [])), (7, (0, 0, 24, [])), (8, (0, 0, 24, [])), (9, (0, 0, 24, [])), (10, (0, 0, 24, [])), (12, (0, 1, 25, [])), (13, (2, 0, 0, [29])), (14, (0, 25, 25, [])), (15, (0, 0, 1225, [])), (16, (0, 0, 48, [])), (17, (0, 1, 25, [])), (18, (0, 0, 24, [])), (19, (0, 0, 1249, [])), (20, (0, 0, 24, [])), (21, (0, 0, 50, [])), (22, (0, 25, 25, [])), (23, (0, 0, 1250, [])), (24, (0, 0, 1249, [])), (25, (0, 1, 25, [])), (26, (0, 1, 25, []))], [(6, [26, 10], [1]), (7, [20, 7], [1]), (6, [25, 9], [1]), (20, [5, 4], [50, 1, 0, 1007, 2, 6, 0, 2, 0, 0, 1, 0, 0, 6, 4, 2, 1, 0, 0, 1, 2, 1, 7]), (20, [4], [60, 2, 1, 613, 6, 15, 14]), (20, [4], [50, 1, 0, 7, 0, 7, 4, 3, 2, 0, 7, 0, 1, 0, 50]), (24, [0, 4], []), (24, [1, 5], []), (100, [13, 24, 20], []), (1, [24, 23, 9], []), (3, [23, 21, 22], []), (9, [21, 4], [7]), (9, [13, 4], [8]), (10, [20, 13, 19], []), (1, [19, 15, 18], []), (5, [18, 16, 17], []), (10, [17, 11, 5], []), (9, [11, 4], [9]), (1, [16, 8, 10], []), (3, [15, 5, 14], []), (7, [10, 12], [2]), (10, [12, 11, 5], []), (20, [4, 5, 8, 9, 10], [60, 1, 2, 617, 7, 8, 9]), (20, [5, 4], [50, 1, 0, 1007, 2, 6, 0, 2, 0, 0, 1, 0, 0, 6, 4, 2, 1, 0, 0, 1, 2, 1, 7]), (20, [4], [60, 2, 2, 603, 7, 6, 8, 9]), (20, [4], [60, 2, 1, 613, 6, 15, 14]), (20, [4], [50, 1, 0, 7, 0, 7, 4, 3, 2, 0, 7, 0, 1, 0, 50])], [], [], [(20, [4, 5, 8, 25, 26], [60, 1, 2, 617, 7, 8, 9]), (20, [4], [60, 2, 2, 603, 7, 6, 8, 9])], [], [(26, 10, 1, 1), (26, 12, -4294967296, 0), (26, 9, -4294967296, 1), (25, 9, 1, 1), (25, 10, -4294967296, 1), (24, 9, 0, 1250), (24, 23, 0, 24), (19, 18, 0, 1225), (19, 17, -4294967295, 1224), (19, 15, 0, 24), (18, 17, -4294967295, -1), (16, 10, 0, 24), (16, 12, -4294967296, 23), (16, 9, -4294967296, 24), (16, 8, 0, 24), (10, 12, -4294967296, -1), (1, 5, -4294967296, 0), (5, 1, -4294967296, 0), (9, 10, -4294967296, 0), (10, 9, -4294967296, 0)])
theorem oo_Em_copyOther_4 {kA : Nat → ClassId} : or_ok PRD kA GG o_Em_copyOther_4 := by
  refine or_mk fun A ta ws vs hD hth hl => ?_
  intro t0 r0 t1 k1 t5 k5 t7 k7 t8 k8 t9 k9 t10 k10 t12 k12 t13 r13 t14 k14 t15 k15 t16 k16 t17 k17 t18 k18 t19 k19 t20 k20 t21 k21 t22 k22 t23 k23 t24 k24 t25 k25 t26 k26 d0 d1 d2 d3 d4 d5 d6 d7 d8 d9 d10 d11 d12 d13 d14 d15 d16 d17 d18 d19 f0 f1 f2 f3 f4 f5 f6 f7 ta1 w1 le1 s1 f9 f10 f11 f12 f13 f14 f15 f16 f17 f18 f19 f20 f21 f22 f23 f24 f25 f26
  replace f0 := shm_4 f0
  replace f1 := shm_40 f1
  replace f2 := shm_4 f2
  replace f3 := shm_788 f3
  replace f4 := shm_787 f4
  replace f5 := shm_789 f5
  replace f6 := shm_5 f6
  replace f7 := shm_5 f7
  have s1 : (∀ b j, w_el ws b j = if b = v_ad (n_v vs 13) ∧ j = (v_iv (n_v vs 24)).toNat then v_iv (n_v vs 20) else w_el w1 b j) ∧ ∀ b k, w_fd ws b k = w_fd w1 b k := s1.2
  replace f9 := shm_12 f9
  replace f10 := shm_38 f10
  rw [show v_iv (n_v vs 22) = 25 from by omega] at f10
  replace f11 := shm_216 f11
  replace f12 := shm_143 f12
  replace f13 := shm_106 f13
  replace f14 := shm_12 f14
  replace f15 := shm_462 f15
  replace f16 := shm_106 f16
  replace f17 := shm_120 f17
  replace f18 := shm_12 f18
  replace f19 := shm_38 f19
  rw [show v_iv (n_v vs 14) = 25 from by omega] at f19
  replace f20 := shm_6 f20
  replace f21 := shm_106 f21
  replace f22 := shm_790 f22
  replace f23 := shm_788 f23
  replace f24 := shm_369 f24
  replace f25 := shm_787 f25
  replace f26 := shm_789 f26
  have q4 : n_v vs 4 = n_v vs 0 := f6.symm
  have q5 : n_v vs 5 = n_v vs 1 := f7.symm
  simp only [q4, q5] at f3 f4 f5 f11 f12 f16 f17 f19 f21 f22 f23 f24 f25 f26
  have ar_0_8_1 : w_ar w1 (n_v vs 0) 8 = w_ar ws (n_v vs 0) 8 := congrArg v_ad (s1.2 _ _).symm
  have cr_0_8 := fdq_57 hD hth r0
  have ar_0_9_1 : w_ar w1 (n_v vs 0) 9 = w_ar ws (n_v vs 0) 9 := congrArg v_ad (s1.2 _ _).symm
  have cr_0_9 := fdq_56 hD hth r0
  have ar_0_14_1 : w_ar w1 (n_v vs 0) 14 = w_ar ws (n_v vs 0) 14 := congrArg v_ad (s1.2 _ _).symm
  have cr_0_14 := fdq_58 hD hth r0
  have ad_13 : v_ad (n_v vs 13) = w_ar ws (n_v vs 0) 8 := (congrArg v_ad f12).trans ar_0_8_1
  have ad_11 : v_ad (n_v vs 11) = w_ar ws (n_v vs 0) 9 := (congrArg v_ad f17).trans ar_0_9_1
  have g11 : v_iv (n_v vs 21) = w_fi w1 (n_v vs 0) 7 := congrArg v_iv f11
  simp only [ad_13] at f13
  have h13 : v_iv (n_v vs 20) = w_ei w1 (w_ar ws (n_v vs 0) 8) (v_iv (n_v vs 19)) := f13
  simp only [ad_11] at f16
  have h16 : v_iv (n_v vs 17) = w_ei w1 (w_ar ws (n_v vs 0) 9) (v_iv (n_v vs 1)) := f16
  simp only [ad_11] at f21
  have h21 : v_iv (n_v vs 12) = w_ei w1 (w_ar ws (n_v vs 0) 9) (v_iv (n_v vs 1)) := f21
  simp only [ar_0_8_1, ar_0_9_1, ar_0_14_1] at f22 f24 f25
  have fe_0_6_1 : w_fi ws (n_v vs 0) 6 = w_fi w1 (n_v vs 0) 6 := congrArg v_iv (s1.2 _ _)
  have fe_0_7_1 : w_fi ws (n_v vs 0) 7 = w_fi w1 (n_v vs 0) 7 := congrArg v_iv (s1.2 _ _)
  have fe_0_15_1 : w_fi ws (n_v vs 0) 15 = w_fi w1 (n_v vs 0) 15 := congrArg v_iv (s1.2 _ _)
  have hE_0_8_1 : ∀ j : Int, 0 ≤ j → (j = v_iv (n_v vs 24) → w_ei ws (w_ar ws (n_v vs 0) 8) j = v_iv (n_v vs 20)) ∧ (j ≠ v_iv (n_v vs 24) → w_ei ws (w_ar ws (n_v vs 0) 8) j = w_ei w1 (w_ar ws (n_v vs 0) 8) j) := fun j hj => ⟨fun h => by unfold w_ei; rw [s1.1, if_pos ⟨ad_13.symm, by rw [h]⟩], fun h => by unfold w_ei; rw [s1.1, if_neg (fun e => h (by have := e.2; omega))]⟩
  have hK_0_8 := elq_14 hD hth cr_0_8
  have hE_0_9_1 : ∀ j : Int, w_ei ws (w_ar ws (n_v vs 0) 9) j = w_ei w1 (w_ar ws (n_v vs 0) 9) j := el_kp s1.1 r13 cr_0_9 (by decide)
  have hK_0_9 := elq_13 hD hth cr_0_9
  have hE_0_14_1 : ∀ j : Int, w_ei ws (w_ar ws (n_v vs 0) 14) j = w_ei w1 (w_ar ws (n_v vs 0) 14) j := el_kp s1.1 r13 cr_0_14 (by decide)
  have hK_0_14 := elq_15 hD hth cr_0_14
  have kz_0_6 := fdq_59 hD hth r0
  have kz_0_7 := fdq_55 hD hth r0
  have kz_0_15 := fdq_60 hD hth r0
  have nf0 : fc_1 PRD (20, [4, 5, 8, 25, 26], [60, 1, 2, 617, 7, 8, 9]) ws (vs) := by
    refine ⟨nf_in hl rfl, sgq_790 ?_⟩
    · show COI (w_fi ws (n_v vs 4) 7) (w_ei ws (w_ar ws (n_v vs 4) 8)) (w_ei ws (w_ar ws (n_v vs 4) 9)) (v_iv (n_v vs 5)) (v_iv (n_v vs 8)) (v_iv (n_v vs 25)) (v_iv (n_v vs 26))
      simp only [q4, q5]
      exact vc_Em_copyOther_4_0 (v_iv (n_v vs 1)) (v_iv (n_v vs 5)) (v_iv (n_v vs 7)) (v_iv (n_v vs 8)) (v_iv (n_v vs 9)) (v_iv (n_v vs 10)) (v_iv (n_v vs 12)) (v_iv (n_v vs 14)) (v_iv (n_v vs 15)) (v_iv (n_v vs 16)) (v_iv (n_v vs 17)) (v_iv (n_v vs 18)) (v_iv (n_v vs 19)) (v_iv (n_v vs 20)) (v_iv (n_v vs 21)) (v_iv (n_v vs 22)) (v_iv (n_v vs 23)) (v_iv (n_v vs 24)) (v_iv (n_v vs 25)) (v_iv (n_v vs 26)) (w_fi ws (n_v vs 0) 7) (w_ei ws (w_ar ws (n_v vs 0) 14)) (w_fi ws (n_v vs 0) 6) (w_fi ws (n_v vs 0) 15) (w_fi w1 (n_v vs 0) 7) (w_ei w1 (w_ar ws (n_v vs 0) 8)) (w_ei w1 (w_ar ws (n_v vs 0) 9)) (w_fi w1 (n_v vs 0) 6) (w_ei w1 (w_ar ws (n_v vs 0) 14)) (w_fi w1 (n_v vs 0) 15) (w_ei ws (w_ar ws (n_v vs 0) 8)) (w_ei ws (w_ar ws (n_v vs 0) 9)) k1 k5 k7 k8 k9 k10 k12 k14 k15 k16 k17 k18 k19 k20 k21 k22 k23 k24 k25 k26 d0 d1 d2 d3 d4 d5 d6 d7 d8 d9 d10 d11 d12 d13 d14 d15 d16 d17 d18 d19 f0 f1 f2 f3 f4 f5 f9 f10 g11 h13 f14 f15 h16 f18 f19 f20 h21 f22 f23 f24 f25 f26 fe_0_6_1 fe_0_7_1 fe_0_15_1 hE_0_8_1 hK_0_8 hE_0_9_1 hK_0_9 hE_0_14_1 hK_0_14 kz_0_6 kz_0_7 kz_0_15
  have nf1 : fc_1 PRD (20, [4], [60, 2, 2, 603, 7, 6, 8, 9]) ws (vs) := by
    refine ⟨nf_in hl rfl, sgq_369 ?_⟩
    · show CYR (w_fi ws (n_v vs 4) 7) (w_fi ws (n_v vs 4) 6) (w_ei ws (w_ar ws (n_v vs 4) 8)) (w_ei ws (w_ar ws (n_v vs 4) 9))
      rw [q4]
      exact vc_Em_copyOther_4_1 (v_iv (n_v vs 1)) (v_iv (n_v vs 5)) (v_iv (n_v vs 7)) (v_iv (n_v vs 8)) (v_iv (n_v vs 9)) (v_iv (n_v vs 10)) (v_iv (n_v vs 12)) (v_iv (n_v vs 14)) (v_iv (n_v vs 15)) (v_iv (n_v vs 16)) (v_iv (n_v vs 17)) (v_iv (n_v vs 18)) (v_iv (n_v vs 19)) (v_iv (n_v vs 20)) (v_iv (n_v vs 21)) (v_iv (n_v vs 22)) (v_iv (n_v vs 23)) (v_iv (n_v vs 24)) (v_iv (n_v vs 25)) (v_iv (n_v vs 26)) (w_fi ws (n_v vs 0) 7) (w_ei ws (w_ar ws (n_v vs 0) 14)) (w_fi ws (n_v vs 0) 6) (w_fi ws (n_v vs 0) 15) (w_fi w1 (n_v vs 0) 7) (w_ei w1 (w_ar ws (n_v vs 0) 8)) (w_ei w1 (w_ar ws (n_v vs 0) 9)) (w_fi w1 (n_v vs 0) 6) (w_ei w1 (w_ar ws (n_v vs 0) 14)) (w_fi w1 (n_v vs 0) 15) (w_ei ws (w_ar ws (n_v vs 0) 8)) (w_ei ws (w_ar ws (n_v vs 0) 9)) k1 k5 k7 k8 k9 k10 k12 k14 k15 k16 k17 k18 k19 k20 k21 k22 k23 k24 k25 k26 d0 d1 d2 d3 d4 d5 d6 d7 d8 d9 d10 d11 d12 d13 d14 d15 d16 d17 d18 d19 f0 f1 f2 f3 f4 f5 f9 f10 g11 h13 f14 f15 h16 f18 f19 f20 h21 f22 f23 f24 f25 f26 fe_0_6_1 fe_0_7_1 fe_0_15_1 hE_0_8_1 hK_0_8 hE_0_9_1 hK_0_9 hE_0_14_1 hK_0_14 kz_0_6 kz_0_7 kz_0_15
  refine ⟨(fun _ h => (by cases h)), [], trivial, ?_, (fun _ h => (by cases h))⟩
  rw [List.append_nil]
  exact List.forall_mem_cons.mpr ⟨⟨show (20 : Nat) < 100 from by decide, nf0⟩, List.forall_mem_cons.mpr ⟨⟨show (20 : Nat) < 100 from by decide, nf1⟩, (fun _ h => (by cases h))⟩⟩
set_option maxHeartbeats 4000000 in
theorem vc_Em_copyOther_5_0 (x1 : Int) (x5 : Int) (x7 : Int) (x8 : Int) (x9 : Int) (x10 : Int) (x12 : Int) (x14 : Int) (x15 : Int) (x16 : Int) (x17 : Int) (x18 : Int) (x19 : Int) (x20 : Int) (x21 : Int) (x22 : Int) (x23 : Int) (x24 : Int) (x25 : Int) (x26 : Int) (cycles_0 : Int) (way_0 : Int → Int) (drawnNodes_0 : Int) (wayLength_0 : Int) (cycles_1 : Int) (cycle_1 : Int → Int) (cycleLength_1 : Int → Int) (drawnNodes_1 : Int) (way_1 : Int → Int) (wayLength_1 : Int) (cycle_0 : Int → Int) (cycleLength_0 : Int → Int) (k1 : 0 ≤ x1 ∧ x1 ≤ 49) (k5 : 0 ≤ x5 ∧ x5 ≤ 49) (k7 : 0 ≤ x7 ∧ x7 ≤ 24) (k8 : 0 ≤ x8 ∧ x8 ≤ 24) (k9 : 0 ≤ x9 ∧ x9 ≤ 24) (k10 : 0 ≤ x10 ∧ x10 ≤ 24) (k12 : 1 ≤ x12 ∧ x12 ≤ 25) (k14 : 25 ≤ x14 ∧ x14 ≤ 25) (k15 : 0 ≤ x15 ∧ x15 ≤ 1225) (k16 : 0 ≤ x16 ∧ x16 ≤ 48) (k17 : 1 ≤ x17 ∧ x17 ≤ 25) (k18 : 0 ≤ x18 ∧ x18 ≤ 24) (k19 : 0 ≤ x19 ∧ x19 ≤ 1249) (k20 : 0 ≤ x20 ∧ x20 ≤ 24) (k21 : 0 ≤ x21 ∧ x21 ≤ 50) (k22 : 25 ≤ x22 ∧ x22 ≤ 25) (k23 : 0 ≤ x23 ∧ x23 ≤ 1250) (k24 : 0 ≤ x24 ∧ x24 ≤ 1249) (k25 : 1 ≤ x25 ∧ x25 ≤ 25) (k26 : 1 ≤ x26 ∧ x26 ≤ 1) (d0 : x7 + 0 ≤ x20 ∧ x20 ≤ x7 + 0) (d1 : x9 + 1 ≤ x25 ∧ x25 ≤ x9 + 1) (d2 : x10 + (-4294967296) ≤ x25 ∧ x25 ≤ x10 + 1) (d3 : x9 + 0 ≤ x24 ∧ x24 ≤ x9 + 1250) (d4 : x23 + 0 ≤ x24 ∧ x24 ≤ x23 + 24) (d5 : x18 + 0 ≤ x19 ∧ x19 ≤ x18 + 1225) (d6 : x17 + (-4294967295) ≤ x19 ∧ x19 ≤ x17 + 1224) (d7 : x15 + 0 ≤ x19 ∧ x19 ≤ x15 + 24) (d8 : x17 + (-4294967295) ≤ x18 ∧ x18 ≤ x17 + (-1)) (d9 : x10 + 0 ≤ x16 ∧ x16 ≤ x10 + 24) (d10 : x12 + (-4294967296) ≤ x16 ∧ x16 ≤ x12 + 23) (d11 : x9 + (-4294967296) ≤ x16 ∧ x16 ≤ x9 + 24) (d12 : x8 + 0 ≤ x16 ∧ x16 ≤ x8 + 24) (d13 : x12 + (-4294967296) ≤ x10 ∧ x10 ≤ x12 + (-1)) (d14 : x5 + (-4294967296) ≤ x1 ∧ x1 ≤ x5 + 0) (d15 : x1 + (-4294967296) ≤ x5 ∧ x5 ≤ x1 + 0) (d16 : x10 + (-4294967296) ≤ x9 ∧ x9 ≤ x10 + 0) (d17 : x9 + (-4294967296) ≤ x10 ∧ x10 ≤ x9 + 0) (f0 : x20 = x7) (f1 : x25 = x9 + 1) (f2 : (0 ≤ x1) ∧ ((x1 + 1) ≤ cycles_0)) (f3 : WYN (drawnNodes_0) (wayLength_0) (way_0)) (f4 : (cycles_0 + 1) ≤ 50) (f8 : x24 = x23 + x9) (f9 : x23 = x21 * 25) (g10 : x21 = cycles_1) (h12 : x20 = cycle_1 (x19)) (f13 : x19 = x15 + x18) (f14 : x18 = Int.tmod (x16) (x17)) (h15 : x17 = cycleLength_1 (x1)) (f17 : x16 = x8 + x10) (f18 : x15 = x1 * 25) (f19 : x10 < x12) (h20 : x12 = cycleLength_1 (x1)) (f21 : COI (cycles_1) (cycle_1) (cycleLength_1) (x1) (x8) (x9) (x10)) (f22 : (0 ≤ x1) ∧ ((x1 + 1) ≤ cycles_1)) (f23 : CYR (cycles_1) (drawnNodes_1) (cycle_1) (cycleLength_1)) (f24 : WYN (drawnNodes_1) (wayLength_1) (way_1)) (f25 : (cycles_1 + 1) ≤ 50) (fe_0_6_1 : drawnNodes_0 = drawnNodes_1) (fe_0_7_1 : cycles_0 = cycles_1) (fe_0_15_1 : wayLength_0 = wayLength_1) (hE_0_8_1 : ∀ j : Int, 0 ≤ j → (j = x24 → cycle_0 j = x20) ∧ (j ≠ x24 → cycle_0 j = cycle_1 j)) (hK_0_8 : ∀ j : Int, 0 ≤ j → j < 1250 → 0 ≤ cycle_0 j ∧ cycle_0 j ≤ 24) (hE_0_9_1 : ∀ j : Int, cycleLength_0 j = cycleLength_1 j) (hK_0_9 : ∀ j : Int, 0 ≤ j → j < 50 → 0 ≤ cycleLength_0 j ∧ cycleLength_0 j ≤ 25) (hE_0_14_1 : ∀ j : Int, way_0 j = way_1 j) (hK_0_14 : ∀ j : Int, 0 ≤ j → j < 27 → 0 ≤ way_0 j ∧ way_0 j ≤ 24) (kz_0_6 : 0 ≤ drawnNodes_0 ∧ drawnNodes_0 ≤ 33554431) (kz_0_7 : 0 ≤ cycles_0 ∧ cycles_0 ≤ 50) (kz_0_15 : 0 ≤ wayLength_0 ∧ wayLength_0 ≤ 27) : COJ (cycles_0) (drawnNodes_0) (wayLength_0) (cycle_0) (way_0) (x25) (x26) := by
  subst fe_0_6_1
  subst fe_0_7_1
  subst fe_0_15_1
  have e_hE_0_9_1 := funext hE_0_9_1; subst e_hE_0_9_1
  have e_hE_0_14_1 := funext hE_0_14_1; subst e_hE_0_14_1
  first
    | exact coj_start ‹COI _ _ _ _ _ _ _› ‹CYR _ _ _ _› (by omega)
    | exact coj_start (coi_step (L_zq := x25) (x := x12) (q := x16) (l2 := x17) (r := x18) (z := x19) (v := x20) ‹COI _ _ _ _ _ _ _› ‹CYR _ _ _ _› (by assumption) (by omega) (by omega) (by assumption) (by assumption) (by omega) (by assumption) (by assumption) (by omega) (by omega)) (cyc_keep (p := x24) (v := x20) ‹CYR _ _ _ _› (by assumption) (by omega)) (by omega)
    | exact coj_step (p := x18) (v := x20) ‹COJ _ _ _ _ _ _ _› ‹WYN _ _ _› (by omega) (by assumption) (by omega) (by assumption) (by omega) (by omega)
  
set_option maxHeartbeats 4000000 in
theorem vc_Em_copyOther_5_1 (x1 : Int) (x5 : Int) (x7 : Int) (x8 : Int) (x9 : Int) (x10 : Int) (x12 : Int) (x14 : Int) (x15 : Int) (x16 : Int) (x17 : Int) (x18 : Int) (x19 : Int) (x20 : Int) (x21 : Int) (x22 : Int) (x23 : Int) (x24 : Int) (x25 : Int) (x26 : Int) (cycles_0 : Int) (way_0 : Int → Int) (drawnNodes_0 : Int) (wayLength_0 : Int) (cycles_1 : Int) (cycle_1 : Int → Int) (cycleLength_1 : Int → Int) (drawnNodes_1 : Int) (way_1 : Int → Int) (wayLength_1 : Int) (cycle_0 : Int → Int) (cycleLength_0 : Int → Int) (k1 : 0 ≤ x1 ∧ x1 ≤ 49) (k5 : 0 ≤ x5 ∧ x5 ≤ 49) (k7 : 0 ≤ x7 ∧ x7 ≤ 24) (k8 : 0 ≤ x8 ∧ x8 ≤ 24) (k9 : 0 ≤ x9 ∧ x9 ≤ 24) (k10 : 0 ≤ x10 ∧ x10 ≤ 24) (k12 : 1 ≤ x12 ∧ x12 ≤ 25) (k14 : 25 ≤ x14 ∧ x14 ≤ 25) (k15 : 0 ≤ x15 ∧ x15 ≤ 1225) (k16 : 0 ≤ x16 ∧ x16 ≤ 48) (k17 : 1 ≤ x17 ∧ x17 ≤ 25) (k18 : 0 ≤ x18 ∧ x18 ≤ 24) (k19 : 0 ≤ x19 ∧ x19 ≤ 1249) (k20 : 0 ≤ x20 ∧ x20 ≤ 24) (k21 : 0 ≤ x21 ∧ x21 ≤ 50) (k22 : 25 ≤ x22 ∧ x22 ≤ 25) (k23 : 0 ≤ x23 ∧ x23 ≤ 1250) (k24 : 0 ≤ x24 ∧ x24 ≤ 1249) (k25 : 1 ≤ x25 ∧ x25 ≤ 25) (k26 : 1 ≤ x26 ∧ x26 ≤ 1) (d0 : x7 + 0 ≤ x20 ∧ x20 ≤ x7 + 0) (d1 : x9 + 1 ≤ x25 ∧ x25 ≤ x9 + 1) (d2 : x10 + (-4294967296) ≤ x25 ∧ x25 ≤ x10 + 1) (d3 : x9 + 0 ≤ x24 ∧ x24 ≤ x9 + 1250) (d4 : x23 + 0 ≤ x24 ∧ x24 ≤ x23 + 24) (d5 : x18 + 0 ≤ x19 ∧ x19 ≤ x18 + 1225) (d6 : x17 + (-4294967295) ≤ x19 ∧ x19 ≤ x17 + 1224) (d7 : x15 + 0 ≤ x19 ∧ x19 ≤ x15 + 24) (d8 : x17 + (-4294967295) ≤ x18 ∧ x18 ≤ x17 + (-1)) (d9 : x10 + 0 ≤ x16 ∧ x16 ≤ x10 + 24) (d10 : x12 + (-4294967296) ≤ x16 ∧ x16 ≤ x12 + 23) (d11 : x9 + (-4294967296) ≤ x16 ∧ x16 ≤ x9 + 24) (d12 : x8 + 0 ≤ x16 ∧ x16 ≤ x8 + 24) (d13 : x12 + (-4294967296) ≤ x10 ∧ x10 ≤ x12 + (-1)) (d14 : x5 + (-4294967296) ≤ x1 ∧ x1 ≤ x5 + 0) (d15 : x1 + (-4294967296) ≤ x5 ∧ x5 ≤ x1 + 0) (d16 : x10 + (-4294967296) ≤ x9 ∧ x9 ≤ x10 + 0) (d17 : x9 + (-4294967296) ≤ x10 ∧ x10 ≤ x9 + 0) (f0 : x20 = x7) (f1 : x25 = x9 + 1) (f2 : (0 ≤ x1) ∧ ((x1 + 1) ≤ cycles_0)) (f3 : WYN (drawnNodes_0) (wayLength_0) (way_0)) (f4 : (cycles_0 + 1) ≤ 50) (f8 : x24 = x23 + x9) (f9 : x23 = x21 * 25) (g10 : x21 = cycles_1) (h12 : x20 = cycle_1 (x19)) (f13 : x19 = x15 + x18) (f14 : x18 = Int.tmod (x16) (x17)) (h15 : x17 = cycleLength_1 (x1)) (f17 : x16 = x8 + x10) (f18 : x15 = x1 * 25) (f19 : x10 < x12) (h20 : x12 = cycleLength_1 (x1)) (f21 : COI (cycles_1) (cycle_1) (cycleLength_1) (x1) (x8) (x9) (x10)) (f22 : (0 ≤ x1) ∧ ((x1 + 1) ≤ cycles_1)) (f23 : CYR (cycles_1) (drawnNodes_1) (cycle_1) (cycleLength_1)) (f24 : WYN (drawnNodes_1) (wayLength_1) (way_1)) (f25 : (cycles_1 + 1) ≤ 50) (fe_0_6_1 : drawnNodes_0 = drawnNodes_1) (fe_0_7_1 : cycles_0 = cycles_1) (fe_0_15_1 : wayLength_0 = wayLength_1) (hE_0_8_1 : ∀ j : Int, 0 ≤ j → (j = x24 → cycle_0 j = x20) ∧ (j ≠ x24 → cycle_0 j = cycle_1 j)) (hK_0_8 : ∀ j : Int, 0 ≤ j → j < 1250 → 0 ≤ cycle_0 j ∧ cycle_0 j ≤ 24) (hE_0_9_1 : ∀ j : Int, cycleLength_0 j = cycleLength_1 j) (hK_0_9 : ∀ j : Int, 0 ≤ j → j < 50 → 0 ≤ cycleLength_0 j ∧ cycleLength_0 j ≤ 25) (hE_0_14_1 : ∀ j : Int, way_0 j = way_1 j) (hK_0_14 : ∀ j : Int, 0 ≤ j → j < 27 → 0 ≤ way_0 j ∧ way_0 j ≤ 24) (kz_0_6 : 0 ≤ drawnNodes_0 ∧ drawnNodes_0 ≤ 33554431) (kz_0_7 : 0 ≤ cycles_0 ∧ cycles_0 ≤ 50) (kz_0_15 : 0 ≤ wayLength_0 ∧ wayLength_0 ≤ 27) : CYR (cycles_0) (drawnNodes_0) (cycle_0) (cycleLength_0) := by
  subst fe_0_6_1
  subst fe_0_7_1
  subst fe_0_15_1
  have e_hE_0_9_1 := funext hE_0_9_1; subst e_hE_0_9_1
  have e_hE_0_14_1 := funext hE_0_14_1; subst e_hE_0_14_1
  first
    | assumption
    | exact cyc_keep (p := x24) (v := x20) ‹CYR _ _ _ _› (by assumption) (by omega)
    | exact cyc_keep (p := x18) (v := x20) ‹CYR _ _ _ _› (by assumption) (by omega)
    | (have q2 := (‹COJ _ _ _ _ _ _ _›).2.2.1; exact cyc_keep (p := x18) (v := x20) ‹CYR _ _ _ _› (by assumption) (by omega))
  
def o_Em_copyOther_5 : or_T := (87, 27, [(0, (2, 0, 0, [1])), (1, (0, 0, 49, [])), (5, (0, 0, 49, [])), (7, (0, 0, 24, [])), (8, (0, 0, 24, [])), (9, (0, 0, 24, [])), (10, (0, 0, 24, [])), (12, (0, 1, 25, [])), (13, (2, 0, 0, [29])), (14, (0, 25, 25, [])), (15, (0, 0, 1225, [])), (16, (0, 0, 48, [])), (17, (0, 1, 25, [])), (18, (0, 0, 24, [])), (19, (0, 0, 1249, [])), (20, (0, 0, 24, [])), (21, (0, 0, 50, [])), (22, (0, 25, 25, [])), (23, (0, 0, 1250, [])), (24, (0, 0, 1249, [])), (25, (0, 1, 25, [])), (26, (0, 1, 1, []))], [(7, [20, 7], [0]), (6, [25, 9], [1]), (20, [5, 4], [50, 1, 0, 1007, 2, 6, 0, 2, 0, 0, 1, 0, 0, 6, 4, 2, 1, 0, 0, 1, 2, 1, 7]), (20, [4], [60, 2, 1, 613, 6, 15, 14]), (20, [4], [50, 1, 0, 7, 0, 7, 4, 3, 2, 0, 7, 0, 1, 0, 50]), (24, [0, 4], []), (24, [1, 5], []), (100, [13, 24, 20], []), (1, [24, 23, 9], []), (3, [23, 21, 22], []), (9, [21, 4], [7]), (9, [13, 4], [8]), (10, [20, 13, 19], []), (1, [19, 15, 18], []), (5, [18, 16, 17], []), (10, [17, 11, 5], []), (9, [11, 4], [9]), (1, [16, 8, 10], []), (3, [15, 5, 14], []), (7, [10, 12], [2]), (10, [12, 11, 5], []), (20, [4, 5, 8, 9, 10], [60, 1, 2, 617, 7, 8, 9]), (20, [5, 4], [50, 1, 0, 1007, 2, 6, 0, 2, 0, 0, 1, 0, 0, 6, 4, 2, 1, 0, 0, 1, 2, 1, 7]), (20, [4], [60, 2, 2, 603, 7, 6, 8, 9]), (20, [4], [60, 2, 1, 613, 6, 15, 14]), (20, [4], [50, 1, 0, 7, 0, 7, 4, 3, 2, 0, 7, 0, 1, 0, 50])], [], [], [(20, [4, 25, 26], [60, 3, 2, 618, 7, 6, 15, 8, 14]), (20, [4], [60, 2, 2, 603, 7, 6, 8, 9])], [], [(20, 7, 0, 0), (25, 9, 1, 1), (25, 10, -4294967296, 1), (24, 9, 0, 1250), (24, 23, 0, 24), (19, 18, 0, 1225), (19, 17, -4294967295, 1224), (19, 15, 0, 24), (18, 17, -4294967295, -1), (16, 10, 0, 24), (16, 12, -4294967296, 23), (16, 9, -4294967296, 24), (16, 8, 0, 24), (10, 12, -4294967296, -1), (1, 5, -4294967296, 0), (5, 1, -4294967296, 0), (9, 10, -4294967296, 0), (10, 9, -4294967296, 0)])
theorem oo_Em_copyOther_5 {kA : Nat → ClassId} : or_ok PRD kA GG o_Em_copyOther_5 := by
  refine or_mk fun A ta ws vs hD hth hl => ?_
  intro t0 r0 t1 k1 t5 k5 t7 k7 t8 k8 t9 k9 t10 k10 t12 k12 t13 r13 t14 k14 t15 k15 t16 k16 t17 k17 t18 k18 t19 k19 t20 k20 t21 k21 t22 k22 t23 k23 t24 k24 t25 k25 t26 k26 d0 d1 d2 d3 d4 d5 d6 d7 d8 d9 d10 d11 d12 d13 d14 d15 d16 d17 f0 f1 f2 f3 f4 f5 f6 ta1 w1 le1 s1 f8 f9 f10 f11 f12 f13 f14 f15 f16 f17 f18 f19 f20 f21 f22 f23 f24 f25
  replace f0 := shm_37 f0
  replace f1 := shm_4 f1
  replace f2 := shm_788 f2
  replace f3 := shm_787 f3
  replace f4 := shm_789 f4
  replace f5 := shm_5 f5
  replace f6 := shm_5 f6
  have s1 : (∀ b j, w_el ws b j = if b = v_ad (n_v vs 13) ∧ j = (v_iv (n_v vs 24)).toNat then v_iv (n_v vs 20) else w_el w1 b j) ∧ ∀ b k, w_fd ws b k = w_fd w1 b k := s1.2
  replace f8 := shm_12 f8
  replace f9 := shm_38 f9
  rw [show v_iv (n_v vs 22) = 25 from by omega] at f9
  replace f10 := shm_216 f10
  replace f11 := shm_143 f11
  replace f12 := shm_106 f12
  replace f13 := shm_12 f13
  replace f14 := shm_462 f14
  replace f15 := shm_106 f15
  replace f16 := shm_120 f16
  replace f17 := shm_12 f17
  replace f18 := shm_38 f18
  rw [show v_iv (n_v vs 14) = 25 from by omega] at f18
  replace f19 := shm_6 f19
  replace f20 := shm_106 f20
  replace f21 := shm_790 f21
  replace f22 := shm_788 f22
  replace f23 := shm_369 f23
  replace f24 := shm_787 f24
  replace f25 := shm_789 f25
  have q4 : n_v vs 4 = n_v vs 0 := f5.symm
  have q5 : n_v vs 5 = n_v vs 1 := f6.symm
  simp only [q4, q5] at f2 f3 f4 f10 f11 f15 f16 f18 f20 f21 f22 f23 f24 f25
  have ar_0_8_1 : w_ar w1 (n_v vs 0) 8 = w_ar ws (n_v vs 0) 8 := congrArg v_ad (s1.2 _ _).symm
  have cr_0_8 := fdq_57 hD hth r0
  have ar_0_9_1 : w_ar w1 (n_v vs 0) 9 = w_ar ws (n_v vs 0) 9 := congrArg v_ad (s1.2 _ _).symm
  have cr_0_9 := fdq_56 hD hth r0
  have ar_0_14_1 : w_ar w1 (n_v vs 0) 14 = w_ar ws (n_v vs 0) 14 := congrArg v_ad (s1.2 _ _).symm
  have cr_0_14 := fdq_58 hD hth r0
  have ad_13 : v_ad (n_v vs 13) = w_ar ws (n_v vs 0) 8 := (congrArg v_ad f11).trans ar_0_8_1
  have ad_11 : v_ad (n_v vs 11) = w_ar ws (n_v vs 0) 9 := (congrArg v_ad f16).trans ar_0_9_1
  have g10 : v_iv (n_v vs 21) = w_fi w1 (n_v vs 0) 7 := congrArg v_iv f10
  simp only [ad_13] at f12
  have h12 : v_iv (n_v vs 20) = w_ei w1 (w_ar ws (n_v vs 0) 8) (v_iv (n_v vs 19)) := f12
  simp only [ad_11] at f15
  have h15 : v_iv (n_v vs 17) = w_ei w1 (w_ar ws (n_v vs 0) 9) (v_iv (n_v vs 1)) := f15
  simp only [ad_11] at f20
  have h20 : v_iv (n_v vs 12) = w_ei w1 (w_ar ws (n_v vs 0) 9) (v_iv (n_v vs 1)) := f20
  simp only [ar_0_8_1, ar_0_9_1, ar_0_14_1] at f21 f23 f24
  have fe_0_6_1 : w_fi ws (n_v vs 0) 6 = w_fi w1 (n_v vs 0) 6 := congrArg v_iv (s1.2 _ _)
  have fe_0_7_1 : w_fi ws (n_v vs 0) 7 = w_fi w1 (n_v vs 0) 7 := congrArg v_iv (s1.2 _ _)
  have fe_0_15_1 : w_fi ws (n_v vs 0) 15 = w_fi w1 (n_v vs 0) 15 := congrArg v_iv (s1.2 _ _)
  have hE_0_8_1 : ∀ j : Int, 0 ≤ j → (j = v_iv (n_v vs 24) → w_ei ws (w_ar ws (n_v vs 0) 8) j = v_iv (n_v vs 20)) ∧ (j ≠ v_iv (n_v vs 24) → w_ei ws (w_ar ws (n_v vs 0) 8) j = w_ei w1 (w_ar ws (n_v vs 0) 8) j) := fun j hj => ⟨fun h => by unfold w_ei; rw [s1.1, if_pos ⟨ad_13.symm, by rw [h]⟩], fun h => by unfold w_ei; rw [s1.1, if_neg (fun e => h (by have := e.2; omega))]⟩
  have hK_0_8 := elq_14 hD hth cr_0_8
  have hE_0_9_1 : ∀ j : Int, w_ei ws (w_ar ws (n_v vs 0) 9) j = w_ei w1 (w_ar ws (n_v vs 0) 9) j := el_kp s1.1 r13 cr_0_9 (by decide)
  have hK_0_9 := elq_13 hD hth cr_0_9
  have hE_0_14_1 : ∀ j : Int, w_ei ws (w_ar ws (n_v vs 0) 14) j = w_ei w1 (w_ar ws (n_v vs 0) 14) j := el_kp s1.1 r13 cr_0_14 (by decide)
  have hK_0_14 := elq_15 hD hth cr_0_14
  have kz_0_6 := fdq_59 hD hth r0
  have kz_0_7 := fdq_55 hD hth r0
  have kz_0_15 := fdq_60 hD hth r0
  have nf0 : fc_1 PRD (20, [4, 25, 26], [60, 3, 2, 618, 7, 6, 15, 8, 14]) ws (vs) := by
    refine ⟨nf_in hl rfl, sgq_791 ?_⟩
    · show COJ (w_fi ws (n_v vs 4) 7) (w_fi ws (n_v vs 4) 6) (w_fi ws (n_v vs 4) 15) (w_ei ws (w_ar ws (n_v vs 4) 8)) (w_ei ws (w_ar ws (n_v vs 4) 14)) (v_iv (n_v vs 25)) (v_iv (n_v vs 26))
      rw [q4]
      exact vc_Em_copyOther_5_0 (v_iv (n_v vs 1)) (v_iv (n_v vs 5)) (v_iv (n_v vs 7)) (v_iv (n_v vs 8)) (v_iv (n_v vs 9)) (v_iv (n_v vs 10)) (v_iv (n_v vs 12)) (v_iv (n_v vs 14)) (v_iv (n_v vs 15)) (v_iv (n_v vs 16)) (v_iv (n_v vs 17)) (v_iv (n_v vs 18)) (v_iv (n_v vs 19)) (v_iv (n_v vs 20)) (v_iv (n_v vs 21)) (v_iv (n_v vs 22)) (v_iv (n_v vs 23)) (v_iv (n_v vs 24)) (v_iv (n_v vs 25)) (v_iv (n_v vs 26)) (w_fi ws (n_v vs 0) 7) (w_ei ws (w_ar ws (n_v vs 0) 14)) (w_fi ws (n_v vs 0) 6) (w_fi ws (n_v vs 0) 15) (w_fi w1 (n_v vs 0) 7) (w_ei w1 (w_ar ws (n_v vs 0) 8)) (w_ei w1 (w_ar ws (n_v vs 0) 9)) (w_fi w1 (n_v vs 0) 6) (w_ei w1 (w_ar ws (n_v vs 0) 14)) (w_fi w1 (n_v vs 0) 15) (w_ei ws (w_ar ws (n_v vs 0) 8)) (w_ei ws (w_ar ws (n_v vs 0) 9)) k1 k5 k7 k8 k9 k10 k12 k14 k15 k16 k17 k18 k19 k20 k21 k22 k23 k24 k25 k26 d0 d1 d2 d3 d4 d5 d6 d7 d8 d9 d10 d11 d12 d13 d14 d15 d16 d17 f0 f1 f2 f3 f4 f8 f9 g10 h12 f13 f14 h15 f17 f18 f19 h20 f21 f22 f23 f24 f25 fe_0_6_1 fe_0_7_1 fe_0_15_1 hE_0_8_1 hK_0_8 hE_0_9_1 hK_0_9 hE_0_14_1 hK_0_14 kz_0_6 kz_0_7 kz_0_15
  have nf1 : fc_1 PRD (20, [4], [60, 2, 2, 603, 7, 6, 8, 9]) ws (vs) := by
    refine ⟨nf_in hl rfl, sgq_369 ?_⟩
    · show CYR (w_fi ws (n_v vs 4) 7) (w_fi ws (n_v vs 4) 6) (w_ei ws (w_ar ws (n_v vs 4) 8)) (w_ei ws (w_ar ws (n_v vs 4) 9))
      rw [q4]
      exact vc_Em_copyOther_5_1 (v_iv (n_v vs 1)) (v_iv (n_v vs 5)) (v_iv (n_v vs 7)) (v_iv (n_v vs 8)) (v_iv (n_v vs 9)) (v_iv (n_v vs 10)) (v_iv (n_v vs 12)) (v_iv (n_v vs 14)) (v_iv (n_v vs 15)) (v_iv (n_v vs 16)) (v_iv (n_v vs 17)) (v_iv (n_v vs 18)) (v_iv (n_v vs 19)) (v_iv (n_v vs 20)) (v_iv (n_v vs 21)) (v_iv (n_v vs 22)) (v_iv (n_v vs 23)) (v_iv (n_v vs 24)) (v_iv (n_v vs 25)) (v_iv (n_v vs 26)) (w_fi ws (n_v vs 0) 7) (w_ei ws (w_ar ws (n_v vs 0) 14)) (w_fi ws (n_v vs 0) 6) (w_fi ws (n_v vs 0) 15) (w_fi w1 (n_v vs 0) 7) (w_ei w1 (w_ar ws (n_v vs 0) 8)) (w_ei w1 (w_ar ws (n_v vs 0) 9)) (w_fi w1 (n_v vs 0) 6) (w_ei w1 (w_ar ws (n_v vs 0) 14)) (w_fi w1 (n_v vs 0) 15) (w_ei ws (w_ar ws (n_v vs 0) 8)) (w_ei ws (w_ar ws (n_v vs 0) 9)) k1 k5 k7 k8 k9 k10 k12 k14 k15 k16 k17 k18 k19 k20 k21 k22 k23 k24 k25 k26 d0 d1 d2 d3 d4 d5 d6 d7 d8 d9 d10 d11 d12 d13 d14 d15 d16 d17 f0 f1 f2 f3 f4 f8 f9 g10 h12 f13 f14 h15 f17 f18 f19 h20 f21 f22 f23 f24 f25 fe_0_6_1 fe_0_7_1 fe_0_15_1 hE_0_8_1 hK_0_8 hE_0_9_1 hK_0_9 hE_0_14_1 hK_0_14 kz_0_6 kz_0_7 kz_0_15
  refine ⟨(fun _ h => (by cases h)), [], trivial, ?_, (fun _ h => (by cases h))⟩
  rw [List.append_nil]
  exact List.forall_mem_cons.mpr ⟨⟨show (20 : Nat) < 100 from by decide, nf0⟩, List.forall_mem_cons.mpr ⟨⟨show (20 : Nat) < 100 from by decide, nf1⟩, (fun _ h => (by cases h))⟩⟩
set_option maxHeartbeats 4000000 in
theorem vc_Em_copyOther_6_0 (x1 : Int) (x5 : Int) (x9 : Int) (x10 : Int) (x11 : Int) (x12 : Int) (x13 : Int) (wayLength_0 : Int) (cycle_0 : Int → Int) (way_0 : Int → Int) (cycles_0 : Int) (drawnNodes_0 : Int) (cycleLength_0 : Int → Int) (k1 : 0 ≤ x1 ∧ x1 ≤ 49) (k5 : 0 ≤ x5 ∧ x5 ≤ 49) (k9 : 0 ≤ x9 ∧ x9 ≤ 25) (k10 : 1 ≤ x10 ∧ x10 ≤ 26) (k11 : 0 ≤ x11 ∧ x11 ≤ 27) (k12 : 1 ≤ x12 ∧ x12 ≤ 1) (k13 : (-1) ≤ x13 ∧ x13 ≤ 26) (d0 : x13 + 0 ≤ x10 ∧ x10 ≤ x13 + 4294967296) (d1 : x11 + (-1) ≤ x13 ∧ x13 ≤ x11 + (-1)) (d2 : x5 + (-4294967296) ≤ x1 ∧ x1 ≤ x5 + 0) (d3 : x1 + (-4294967296) ≤ x5 ∧ x5 ≤ x1 + 0) (d4 : x9 + (-4294967296) ≤ x10 ∧ x10 ≤ x9 + 1) (f0 : x13 ≤ x10) (f1 : x13 = x11 - x12) (g2 : x11 = wayLength_0) (f3 : COJ (cycles_0) (drawnNodes_0) (wayLength_0) (cycle_0) (way_0) (x9) (x10)) (f4 : CYR (cycles_0) (drawnNodes_0) (cycle_0) (cycleLength_0)) (f5 : WYN (drawnNodes_0) (wayLength_0) (way_0)) (f6 : (cycles_0 + 1) ≤ 50) (hK_0_8 : ∀ j : Int, 0 ≤ j → j < 1250 → 0 ≤ cycle_0 j ∧ cycle_0 j ≤ 24) (hK_0_9 : ∀ j : Int, 0 ≤ j → j < 50 → 0 ≤ cycleLength_0 j ∧ cycleLength_0 j ≤ 25) (hK_0_14 : ∀ j : Int, 0 ≤ j → j < 27 → 0 ≤ way_0 j ∧ way_0 j ≤ 24) (kz_0_6 : 0 ≤ drawnNodes_0 ∧ drawnNodes_0 ≤ 33554431) (kz_0_7 : 0 ≤ cycles_0 ∧ cycles_0 ≤ 50) (kz_0_15 : 0 ≤ wayLength_0 ∧ wayLength_0 ≤ 27) : CYR (cycles_0) (drawnNodes_0) (cycle_0) (cycleLength_0) := by
  first
    | assumption
    | exact cyc_keep (p := x24) (v := x20) ‹CYR _ _ _ _› (by assumption) (by omega)
    | exact cyc_keep (p := x18) (v := x20) ‹CYR _ _ _ _› (by assumption) (by omega)
    | (have q2 := (‹COJ _ _ _ _ _ _ _›).2.2.1; exact cyc_keep (p := x18) (v := x20) ‹CYR _ _ _ _› (by assumption) (by omega))
  
set_option maxHeartbeats 4000000 in
theorem vc_Em_copyOther_6_1 (x1 : Int) (x5 : Int) (x9 : Int) (x10 : Int) (x11 : Int) (x12 : Int) (x13 : Int) (wayLength_0 : Int) (cycle_0 : Int → Int) (way_0 : Int → Int) (cycles_0 : Int) (drawnNodes_0 : Int) (cycleLength_0 : Int → Int) (k1 : 0 ≤ x1 ∧ x1 ≤ 49) (k5 : 0 ≤ x5 ∧ x5 ≤ 49) (k9 : 0 ≤ x9 ∧ x9 ≤ 25) (k10 : 1 ≤ x10 ∧ x10 ≤ 26) (k11 : 0 ≤ x11 ∧ x11 ≤ 27) (k12 : 1 ≤ x12 ∧ x12 ≤ 1) (k13 : (-1) ≤ x13 ∧ x13 ≤ 26) (d0 : x13 + 0 ≤ x10 ∧ x10 ≤ x13 + 4294967296) (d1 : x11 + (-1) ≤ x13 ∧ x13 ≤ x11 + (-1)) (d2 : x5 + (-4294967296) ≤ x1 ∧ x1 ≤ x5 + 0) (d3 : x1 + (-4294967296) ≤ x5 ∧ x5 ≤ x1 + 0) (d4 : x9 + (-4294967296) ≤ x10 ∧ x10 ≤ x9 + 1) (f0 : x13 ≤ x10) (f1 : x13 = x11 - x12) (g2 : x11 = wayLength_0) (f3 : COJ (cycles_0) (drawnNodes_0) (wayLength_0) (cycle_0) (way_0) (x9) (x10)) (f4 : CYR (cycles_0) (drawnNodes_0) (cycle_0) (cycleLength_0)) (f5 : WYN (drawnNodes_0) (wayLength_0) (way_0)) (f6 : (cycles_0 + 1) ≤ 50) (hK_0_8 : ∀ j : Int, 0 ≤ j → j < 1250 → 0 ≤ cycle_0 j ∧ cycle_0 j ≤ 24) (hK_0_9 : ∀ j : Int, 0 ≤ j → j < 50 → 0 ≤ cycleLength_0 j ∧ cycleLength_0 j ≤ 25) (hK_0_14 : ∀ j : Int, 0 ≤ j → j < 27 → 0 ≤ way_0 j ∧ way_0 j ≤ 24) (kz_0_6 : 0 ≤ drawnNodes_0 ∧ drawnNodes_0 ≤ 33554431) (kz_0_7 : 0 ≤ cycles_0 ∧ cycles_0 ≤ 50) (kz_0_15 : 0 ≤ wayLength_0 ∧ wayLength_0 ≤ 27) : NWX (cycles_0) (drawnNodes_0) (wayLength_0) (cycle_0) (way_0) (x9) := by
  first
    | exact nwx_of ‹COJ _ _ _ _ _ _ _› (by omega)
  
set_option maxHeartbeats 4000000 in
theorem vc_Em_copyOther_6_2 (x1 : Int) (x5 : Int) (x9 : Int) (x10 : Int) (x11 : Int) (x12 : Int) (x13 : Int) (wayLength_0 : Int) (cycle_0 : Int → Int) (way_0 : Int → Int) (cycles_0 : Int) (drawnNodes_0 : Int) (cycleLength_0 : Int → Int) (k1 : 0 ≤ x1 ∧ x1 ≤ 49) (k5 : 0 ≤ x5 ∧ x5 ≤ 49) (k9 : 0 ≤ x9 ∧ x9 ≤ 25) (k10 : 1 ≤ x10 ∧ x10 ≤ 26) (k11 : 0 ≤ x11 ∧ x11 ≤ 27) (k12 : 1 ≤ x12 ∧ x12 ≤ 1) (k13 : (-1) ≤ x13 ∧ x13 ≤ 26) (d0 : x13 + 0 ≤ x10 ∧ x10 ≤ x13 + 4294967296) (d1 : x11 + (-1) ≤ x13 ∧ x13 ≤ x11 + (-1)) (d2 : x5 + (-4294967296) ≤ x1 ∧ x1 ≤ x5 + 0) (d3 : x1 + (-4294967296) ≤ x5 ∧ x5 ≤ x1 + 0) (d4 : x9 + (-4294967296) ≤ x10 ∧ x10 ≤ x9 + 1) (f0 : x13 ≤ x10) (f1 : x13 = x11 - x12) (g2 : x11 = wayLength_0) (f3 : COJ (cycles_0) (drawnNodes_0) (wayLength_0) (cycle_0) (way_0) (x9) (x10)) (f4 : CYR (cycles_0) (drawnNodes_0) (cycle_0) (cycleLength_0)) (f5 : WYN (drawnNodes_0) (wayLength_0) (way_0)) (f6 : (cycles_0 + 1) ≤ 50) (hK_0_8 : ∀ j : Int, 0 ≤ j → j < 1250 → 0 ≤ cycle_0 j ∧ cycle_0 j ≤ 24) (hK_0_9 : ∀ j : Int, 0 ≤ j → j < 50 → 0 ≤ cycleLength_0 j ∧ cycleLength_0 j ≤ 25) (hK_0_14 : ∀ j : Int, 0 ≤ j → j < 27 → 0 ≤ way_0 j ∧ way_0 j ≤ 24) (kz_0_6 : 0 ≤ drawnNodes_0 ∧ drawnNodes_0 ≤ 33554431) (kz_0_7 : 0 ≤ cycles_0 ∧ cycles_0 ≤ 50) (kz_0_15 : 0 ≤ wayLength_0 ∧ wayLength_0 ≤ 27) : (0 ≤ x9) ∧ (x9 ≤ 25) := by
  first
    | omega
    | (have q := cyc_le ‹CYR _ _ _ _› (c := x1) (by omega) (by omega); omega)
    | (have q := cyc_le ‹CYR _ _ _ _› (c := x1) (by omega) (by omega); have q2 := (‹COI _ _ _ _ _ _ _›).1; omega)
    | (have q := gdr_le (coj_gdr ‹COJ _ _ _ _ _ _ _›); have q2 := (‹COJ _ _ _ _ _ _ _›).2.2.1; omega)
    | (have q := coj_room ‹COJ _ _ _ _ _ _ _› ‹WYN _ _ _› (by omega); omega)
  
def o_Em_copyOther_6 : or_T := (131, 14, [(0, (2, 0, 0, [1])), (1, (0, 0, 49, [])), (5, (0, 0, 49, [])), (9, (0, 0, 25, [])), (10, (0, 1, 26, [])), (11, (0, 0, 27, [])), (12, (0, 1, 1, [])), (13, (0, -1, 26, []))], [(7, [10, 13], [3]), (2, [13, 11, 12], []), (9, [11, 4], [15]), (20, [4, 9, 10], [60, 3, 2, 618, 7, 6, 15, 8, 14]), (20, [4], [60, 2, 2, 603, 7, 6, 8, 9]), (20, [4], [60, 2, 1, 613, 6, 15, 14]), (20, [4], [50, 1, 0, 7, 0, 7, 4, 3, 2, 0, 7, 0, 1, 0, 50]), (24, [0, 4], [])], [], [], [(20, [0], [60, 2, 2, 603, 7, 6, 8, 9]), (20, [0, 9], [60, 3, 2, 619, 7, 6, 15, 8, 14]), (20, [9], [50, 0, 0, 2, 6, 0, 2, 0, 0, 1, 0, 0, 2, 1, 0, 0, 25])], [], [(10, 13, 0, 4294967296), (13, 11, -1, -1), (1, 5, -4294967296, 0), (5, 1, -4294967296, 0), (10, 9, -4294967296, 1)])
theorem oo_Em_copyOther_6 {kA : Nat → ClassId} : or_ok PRD kA GG o_Em_copyOther_6 := by
  refine or_mk fun A ta ws vs hD hth hl => ?_
  intro t0 r0 t1 k1 t5 k5 t9 k9 t10 k10 t11 k11 t12 k12 t13 k13 d0 d1 d2 d3 d4 f0 f1 f2 f3 f4 f5 f6 f7
  replace f2 := shm_189 f2
  replace f3 := shm_791 f3
  replace f4 := shm_369 f4
  replace f5 := shm_787 f5
  replace f6 := shm_789 f6
  replace f7 := shm_5 f7
  have q4 : n_v vs 4 = n_v vs 0 := f7.symm
  simp only [q4] at f2 f3 f4 f5 f6
  have cr_0_8 := fdq_57 hD hth r0
  have cr_0_9 := fdq_56 hD hth r0
  have cr_0_14 := fdq_58 hD hth r0
  have g2 : v_iv (n_v vs 11) = w_fi ws (n_v vs 0) 15 := congrArg v_iv f2
  have hK_0_8 := elq_14 hD hth cr_0_8
  have hK_0_9 := elq_13 hD hth cr_0_9
  have hK_0_14 := elq_15 hD hth cr_0_14
  have kz_0_6 := fdq_59 hD hth r0
  have kz_0_7 := fdq_55 hD hth r0
  have kz_0_15 := fdq_60 hD hth r0
  have nf0 : fc_1 PRD (20, [0], [60, 2, 2, 603, 7, 6, 8, 9]) ws (vs) := ⟨nf_in hl rfl, sgq_369 (vc_Em_copyOther_6_0 (v_iv (n_v vs 1)) (v_iv (n_v vs 5)) (v_iv (n_v vs 9)) (v_iv (n_v vs 10)) (v_iv (n_v vs 11)) (v_iv (n_v vs 12)) (v_iv (n_v vs 13)) (w_fi ws (n_v vs 0) 15) (w_ei ws (w_ar ws (n_v vs 0) 8)) (w_ei ws (w_ar ws (n_v vs 0) 14)) (w_fi ws (n_v vs 0) 7) (w_fi ws (n_v vs 0) 6) (w_ei ws (w_ar ws (n_v vs 0) 9)) k1 k5 k9 k10 k11 k12 k13 d0 d1 d2 d3 d4 (shm_2 f0) (shm_14 f1) g2 f3 f4 f5 f6 hK_0_8 hK_0_9 hK_0_14 kz_0_6 kz_0_7 kz_0_15)⟩
  have nf1 : fc_1 PRD (20, [0, 9], [60, 3, 2, 619, 7, 6, 15, 8, 14]) ws (vs) := ⟨nf_in hl rfl, sgq_792 (vc_Em_copyOther_6_1 (v_iv (n_v vs 1)) (v_iv (n_v vs 5)) (v_iv (n_v vs 9)) (v_iv (n_v vs 10)) (v_iv (n_v vs 11)) (v_iv (n_v vs 12)) (v_iv (n_v vs 13)) (w_fi ws (n_v vs 0) 15) (w_ei ws (w_ar ws (n_v vs 0) 8)) (w_ei ws (w_ar ws (n_v vs 0) 14)) (w_fi ws (n_v vs 0) 7) (w_fi ws (n_v vs 0) 6) (w_ei ws (w_ar ws (n_v vs 0) 9)) k1 k5 k9 k10 k11 k12 k13 d0 d1 d2 d3 d4 (shm_2 f0) (shm_14 f1) g2 f3 f4 f5 f6 hK_0_8 hK_0_9 hK_0_14 kz_0_6 kz_0_7 kz_0_15)⟩
  have nf2 : fc_1 PRD (20, [9], [50, 0, 0, 2, 6, 0, 2, 0, 0, 1, 0, 0, 2, 1, 0, 0, 25]) ws (vs) := ⟨nf_in hl rfl, sgq_793 (vc_Em_copyOther_6_2 (v_iv (n_v vs 1)) (v_iv (n_v vs 5)) (v_iv (n_v vs 9)) (v_iv (n_v vs 10)) (v_iv (n_v vs 11)) (v_iv (n_v vs 12)) (v_iv (n_v vs 13)) (w_fi ws (n_v vs 0) 15) (w_ei ws (w_ar ws (n_v vs 0) 8)) (w_ei ws (w_ar ws (n_v vs 0) 14)) (w_fi ws (n_v vs 0) 7) (w_fi ws (n_v vs 0) 6) (w_ei ws (w_ar ws (n_v vs 0) 9)) k1 k5 k9 k10 k11 k12 k13 d0 d1 d2 d3 d4 (shm_2 f0) (shm_14 f1) g2 f3 f4 f5 f6 hK_0_8 hK_0_9 hK_0_14 kz_0_6 kz_0_7 kz_0_15)⟩
  refine ⟨(fun _ h => (by cases h)), [], trivial, ?_, (fun _ h => (by cases h))⟩
  rw [List.append_nil]
  exact List.forall_mem_cons.mpr ⟨⟨show (20 : Nat) < 100 from by decide, nf0⟩, List.forall_mem_cons.mpr ⟨⟨show (20 : Nat) < 100 from by decide, nf1⟩, List.forall_mem_cons.mpr ⟨⟨show (20 : Nat) < 100 from by decide, nf2⟩, (fun _ h => (by cases h))⟩⟩⟩
set_option maxHeartbeats 4000000 in
theorem vc_Em_copyOther_7_r0 (x1 : Int) (x5 : Int) (x9 : Int) (x10 : Int) (x11 : Int) (x12 : Int) (x13 : Int) (x15 : Int) (x16 : Int) (x17 : Int) (cycles_0 : Int) (wayLength_0 : Int) (cycle_0 : Int → Int) (way_0 : Int → Int) (drawnNodes_0 : Int) (cycleLength_0 : Int → Int) (k1 : 0 ≤ x1 ∧ x1 ≤ 49) (k5 : 0 ≤ x5 ∧ x5 ≤ 49) (k9 : 0 ≤ x9 ∧ x9 ≤ 25) (k10 : 1 ≤ x10 ∧ x10 ≤ 25) (k11 : 3 ≤ x11 ∧ x11 ≤ 27) (k12 : 1 ≤ x12 ∧ x12 ≤ 1) (k13 : 2 ≤ x13 ∧ x13 ≤ 26) (k15 : 0 ≤ x15 ∧ x15 ≤ 50) (k16 : 25 ≤ x16 ∧ x16 ≤ 25) (k17 : 0 ≤ x17 ∧ x17 ≤ 1250) (d0 : x13 + (-4294967296) ≤ x10 ∧ x10 ≤ x13 + (-1)) (d1 : x11 + (-1) ≤ x13 ∧ x13 ≤ x11 + (-1)) (d2 : x5 + (-4294967296) ≤ x1 ∧ x1 ≤ x5 + 0) (d3 : x1 + (-4294967296) ≤ x5 ∧ x5 ≤ x1 + 0) (d4 : x9 + (-4294967296) ≤ x10 ∧ x10 ≤ x9 + 1) (f0 : x17 = x15 * 25) (g1 : x15 = cycles_0) (f3 : x10 < x13) (f4 : x13 = x11 - x12) (g5 : x11 = wayLength_0) (f6 : COJ (cycles_0) (drawnNodes_0) (wayLength_0) (cycle_0) (way_0) (x9) (x10)) (f7 : CYR (cycles_0) (drawnNodes_0) (cycle_0) (cycleLength_0)) (f8 : WYN (drawnNodes_0) (wayLength_0) (way_0)) (f9 : (cycles_0 + 1) ≤ 50) (hK_0_8 : ∀ j : Int, 0 ≤ j → j < 1250 → 0 ≤ cycle_0 j ∧ cycle_0 j ≤ 24) (hK_0_9 : ∀ j : Int, 0 ≤ j → j < 50 → 0 ≤ cycleLength_0 j ∧ cycleLength_0 j ≤ 25) (hK_0_14 : ∀ j : Int, 0 ≤ j → j < 27 → 0 ≤ way_0 j ∧ way_0 j ≤ 24) (kz_0_6 : 0 ≤ drawnNodes_0 ∧ drawnNodes_0 ≤ 33554431) (kz_0_7 : 0 ≤ cycles_0 ∧ cycles_0 ≤ 50) (kz_0_15 : 0 ≤ wayLength_0 ∧ wayLength_0 ≤ 27) : 0 ≤ x9 ∧ x9 ≤ 24 := by
  first
    | omega
    | (have q := cyc_le ‹CYR _ _ _ _› (c := x1) (by omega) (by omega); omega)
    | (have q := cyc_le ‹CYR _ _ _ _› (c := x1) (by omega) (by omega); have q2 := (‹COI _ _ _ _ _ _ _›).1; omega)
    | (have q := gdr_le (coj_gdr ‹COJ _ _ _ _ _ _ _›); have q2 := (‹COJ _ _ _ _ _ _ _›).2.2.1; omega)
    | (have q := coj_room ‹COJ _ _ _ _ _ _ _› ‹WYN _ _ _› (by omega); omega)
  
def o_Em_copyOther_7 : or_T := (111, 18, [(0, (2, 0, 0, [1])), (1, (0, 0, 49, [])), (4, (2, 0, 0, [1])), (5, (0, 0, 49, [])), (9, (0, 0, 25, [])), (10, (0, 1, 25, [])), (11, (0, 3, 27, [])), (12, (0, 1, 1, [])), (13, (0, 2, 26, [])), (14, (2, 0, 0, [29])), (15, (0, 0, 50, [])), (16, (0, 25, 25, [])), (17, (0, 0, 1250, []))], [(3, [17, 15, 16], []), (9, [15, 4], [7]), (9, [14, 4], [8]), (7, [10, 13], [2]), (2, [13, 11, 12], []), (9, [11, 4], [15]), (20, [4, 9, 10], [60, 3, 2, 618, 7, 6, 15, 8, 14]), (20, [4], [60, 2, 2, 603, 7, 6, 8, 9]), (20, [4], [60, 2, 1, 613, 6, 15, 14]), (20, [4], [50, 1, 0, 7, 0, 7, 4, 3, 2, 0, 7, 0, 1, 0, 50]), (24, [0, 4], []), (24, [1, 5], [])], [(9, (0, 0, 24, []))], [], [], [], [(10, 13, -4294967296, -1), (13, 11, -1, -1), (1, 5, -4294967296, 0), (5, 1, -4294967296, 0), (10, 9, -4294967296, 1)])
theorem oo_Em_copyOther_7 {kA : Nat → ClassId} : or_ok PRD kA GG o_Em_copyOther_7 := by
  refine or_mk fun A ta ws vs hD hth hl => ?_
  intro t0 r0 t1 k1 t4 r4 t5 k5 t9 k9 t10 k10 t11 k11 t12 k12 t13 k13 t14 r14 t15 k15 t16 k16 t17 k17 d0 d1 d2 d3 d4 f0 f1 f2 f3 f4 f5 f6 f7 f8 f9 f10 f11
  replace f0 := shm_38 f0
  rw [show v_iv (n_v vs 16) = 25 from by omega] at f0
  replace f1 := shm_216 f1
  replace f5 := shm_189 f5
  replace f6 := shm_791 f6
  replace f7 := shm_369 f7
  replace f8 := shm_787 f8
  replace f9 := shm_789 f9
  replace f10 := shm_5 f10
  have q4 : n_v vs 4 = n_v vs 0 := f10.symm
  simp only [q4] at f1 f5 f6 f7 f8 f9
  have cr_0_8 := fdq_57 hD hth r0
  have cr_0_9 := fdq_56 hD hth r0
  have cr_0_14 := fdq_58 hD hth r0
  have g1 : v_iv (n_v vs 15) = w_fi ws (n_v vs 0) 7 := congrArg v_iv f1
  have g5 : v_iv (n_v vs 11) = w_fi ws (n_v vs 0) 15 := congrArg v_iv f5
  have hK_0_8 := elq_14 hD hth cr_0_8
  have hK_0_9 := elq_13 hD hth cr_0_9
  have hK_0_14 := elq_15 hD hth cr_0_14
  have kz_0_6 := fdq_59 hD hth r0
  have kz_0_7 := fdq_55 hD hth r0
  have kz_0_15 := fdq_60 hD hth r0
  have hrf0 : 0 ≤ v_iv (n_v vs 9) ∧ v_iv (n_v vs 9) ≤ 24 := vc_Em_copyOther_7_r0 (v_iv (n_v vs 1)) (v_iv (n_v vs 5)) (v_iv (n_v vs 9)) (v_iv (n_v vs 10)) (v_iv (n_v vs 11)) (v_iv (n_v vs 12)) (v_iv (n_v vs 13)) (v_iv (n_v vs 15)) (v_iv (n_v vs 16)) (v_iv (n_v vs 17)) (w_fi ws (n_v vs 0) 7) (w_fi ws (n_v vs 0) 15) (w_ei ws (w_ar ws (n_v vs 0) 8)) (w_ei ws (w_ar ws (n_v vs 0) 14)) (w_fi ws (n_v vs 0) 6) (w_ei ws (w_ar ws (n_v vs 0) 9)) k1 k5 k9 k10 k11 k12 k13 k15 k16 k17 d0 d1 d2 d3 d4 f0 g1 (shm_6 f3) (shm_14 f4) g5 f6 f7 f8 f9 hK_0_8 hK_0_9 hK_0_14 kz_0_6 kz_0_7 kz_0_15
  have rf9 : tv_ok ta (0, 0, 24, []) (n_v vs 9) := tv_in t9 (by first | omega | grind) (by first | omega | grind)
  refine ⟨List.forall_mem_cons.mpr ⟨rf9, (fun _ h => (by cases h))⟩, [], trivial, ?_, (fun _ h => (by cases h))⟩
  rw [List.append_nil]
  exact (fun _ h => (by cases h))
set_option maxHeartbeats 4000000 in
theorem vc_Em_copyOther_8_r0 (x1 : Int) (x5 : Int) (x9 : Int) (x10 : Int) (x11 : Int) (x12 : Int) (x13 : Int) (x15 : Int) (x16 : Int) (x17 : Int) (x18 : Int) (x20 : Int) (way_0 : Int → Int) (cycles_0 : Int) (wayLength_0 : Int) (cycle_0 : Int → Int) (drawnNodes_0 : Int) (cycleLength_0 : Int → Int) (k1 : 0 ≤ x1 ∧ x1 ≤ 49) (k5 : 0 ≤ x5 ∧ x5 ≤ 49) (k9 : 0 ≤ x9 ∧ x9 ≤ 24) (k10 : 1 ≤ x10 ∧ x10 ≤ 25) (k11 : 3 ≤ x11 ∧ x11 ≤ 27) (k12 : 1 ≤ x12 ∧ x12 ≤ 1) (k13 : 2 ≤ x13 ∧ x13 ≤ 26) (k15 : 0 ≤ x15 ∧ x15 ≤ 50) (k16 : 25 ≤ x16 ∧ x16 ≤ 25) (k17 : 0 ≤ x17 ∧ x17 ≤ 1250) (k18 : 0 ≤ x18 ∧ x18 ≤ 1274) (k20 : 0 ≤ x20 ∧ x20 ≤ 24) (d0 : x9 + 0 ≤ x18 ∧ x18 ≤ x9 + 1250) (d1 : x17 + 0 ≤ x18 ∧ x18 ≤ x17 + 24) (d2 : x13 + (-4294967296) ≤ x10 ∧ x10 ≤ x13 + (-1)) (d3 : x11 + (-1) ≤ x13 ∧ x13 ≤ x11 + (-1)) (d4 : x5 + (-4294967296) ≤ x1 ∧ x1 ≤ x5 + 0) (d5 : x1 + (-4294967296) ≤ x5 ∧ x5 ≤ x1 + 0) (d6 : x9 + (-4294967296) ≤ x10 ∧ x10 ≤ x9 + 1) (h0 : x20 = way_0 (x10)) (f2 : x18 = x17 + x9) (f3 : x17 = x15 * 25) (g4 : x15 = cycles_0) (f6 : x10 < x13) (f7 : x13 = x11 - x12) (g8 : x11 = wayLength_0) (f9 : COJ (cycles_0) (drawnNodes_0) (wayLength_0) (cycle_0) (way_0) (x9) (x10)) (f10 : CYR (cycles_0) (drawnNodes_0) (cycle_0) (cycleLength_0)) (f11 : WYN (drawnNodes_0) (wayLength_0) (way_0)) (f12 : (cycles_0 + 1) ≤ 50) (hK_0_8 : ∀ j : Int, 0 ≤ j → j < 1250 → 0 ≤ cycle_0 j ∧ cycle_0 j ≤ 24) (hK_0_9 : ∀ j : Int, 0 ≤ j → j < 50 → 0 ≤ cycleLength_0 j ∧ cycleLength_0 j ≤ 25) (hK_0_14 : ∀ j : Int, 0 ≤ j → j < 27 → 0 ≤ way_0 j ∧ way_0 j ≤ 24) (kz_0_6 : 0 ≤ drawnNodes_0 ∧ drawnNodes_0 ≤ 33554431) (kz_0_7 : 0 ≤ cycles_0 ∧ cycles_0 ≤ 50) (kz_0_15 : 0 ≤ wayLength_0 ∧ wayLength_0 ≤ 27) : 0 ≤ x18 ∧ x18 ≤ 1249 := by
  first
    | omega
    | (have q := cyc_le ‹CYR _ _ _ _› (c := x1) (by omega) (by omega); omega)
    | (have q := cyc_le ‹CYR _ _ _ _› (c := x1) (by omega) (by omega); have q2 := (‹COI _ _ _ _ _ _ _›).1; omega)
    | (have q := gdr_le (coj_gdr ‹COJ _ _ _ _ _ _ _›); have q2 := (‹COJ _ _ _ _ _ _ _›).2.2.1; omega)
    | (have q := coj_room ‹COJ _ _ _ _ _ _ _› ‹WYN _ _ _› (by omega); omega)
  
def o_Em_copyOther_8 : or_T := (119, 21, [(0, (2, 0, 0, [1])), (1, (0, 0, 49, [])), (4, (2, 0, 0, [1])), (5, (0, 0, 49, [])), (9, (0, 0, 24, [])), (10, (0, 1, 25, [])), (11, (0, 3, 27, [])), (12, (0, 1, 1, [])), (13, (0, 2, 26, [])), (14, (2, 0, 0, [29])), (15, (0, 0, 50, [])), (16, (0, 25, 25, [])), (17, (0, 0, 1250, [])), (18, (0, 0, 1274, [])), (19, (2, 0, 0, [35])), (20, (0, 0, 24, []))], [(10, [20, 19, 10], []), (9, [19, 4], [14]), (1, [18, 17, 9], []), (3, [17, 15, 16], []), (9, [15, 4], [7]), (9, [14, 4], [8]), (7, [10, 13], [2]), (2, [13, 11, 12], []), (9, [11, 4], [15]), (20, [4, 9, 10], [60, 3, 2, 618, 7, 6, 15, 8, 14]), (20, [4], [60, 2, 2, 603, 7, 6, 8, 9]), (20, [4], [60, 2, 1, 613, 6, 15, 14]), (20, [4], [50, 1, 0, 7, 0, 7, 4, 3, 2, 0, 7, 0, 1, 0, 50]), (24, [0, 4], []), (24, [1, 5], [])], [(18, (0, 0, 1249, []))], [], [], [], [(18, 9, 0, 1250), (18, 17, 0, 24), (10, 13, -4294967296, -1), (13, 11, -1, -1), (1, 5, -4294967296, 0), (5, 1, -4294967296, 0), (10, 9, -4294967296, 1)])
theorem oo_Em_copyOther_8 {kA : Nat → ClassId} : or_ok PRD kA GG o_Em_copyOther_8 := by
  refine or_mk fun A ta ws vs hD hth hl => ?_
  intro t0 r0 t1 k1 t4 r4 t5 k5 t9 k9 t10 k10 t11 k11 t12 k12 t13 k13 t14 r14 t15 k15 t16 k16 t17 k17 t18 k18 t19 r19 t20 k20 d0 d1 d2 d3 d4 d5 d6 f0 f1 f2 f3 f4 f5 f6 f7 f8 f9 f10 f11 f12 f13 f14
  replace f0 := shm_106 f0
  replace f1 := shm_116 f1
  replace f3 := shm_38 f3
  rw [show v_iv (n_v vs 16) = 25 from by omega] at f3
  replace f4 := shm_216 f4
  replace f8 := shm_189 f8
  replace f9 := shm_791 f9
  replace f10 := shm_369 f10
  replace f11 := shm_787 f11
  replace f12 := shm_789 f12
  replace f13 := shm_5 f13
  have q4 : n_v vs 4 = n_v vs 0 := f13.symm
  simp only [q4] at f1 f4 f8 f9 f10 f11 f12
  have cr_0_8 := fdq_57 hD hth r0
  have cr_0_9 := fdq_56 hD hth r0
  have cr_0_14 := fdq_58 hD hth r0
  have ad_19 : v_ad (n_v vs 19) = w_ar ws (n_v vs 0) 14 := congrArg v_ad f1
  simp only [ad_19] at f0
  have h0 : v_iv (n_v vs 20) = w_ei ws (w_ar ws (n_v vs 0) 14) (v_iv (n_v vs 10)) := f0
  have g4 : v_iv (n_v vs 15) = w_fi ws (n_v vs 0) 7 := congrArg v_iv f4
  have g8 : v_iv (n_v vs 11) = w_fi ws (n_v vs 0) 15 := congrArg v_iv f8
  have hK_0_8 := elq_14 hD hth cr_0_8
  have hK_0_9 := elq_13 hD hth cr_0_9
  have hK_0_14 := elq_15 hD hth cr_0_14
  have kz_0_6 := fdq_59 hD hth r0
  have kz_0_7 := fdq_55 hD hth r0
  have kz_0_15 := fdq_60 hD hth r0
  have hrf0 : 0 ≤ v_iv (n_v vs 18) ∧ v_iv (n_v vs 18) ≤ 1249 := vc_Em_copyOther_8_r0 (v_iv (n_v vs 1)) (v_iv (n_v vs 5)) (v_iv (n_v vs 9)) (v_iv (n_v vs 10)) (v_iv (n_v vs 11)) (v_iv (n_v vs 12)) (v_iv (n_v vs 13)) (v_iv (n_v vs 15)) (v_iv (n_v vs 16)) (v_iv (n_v vs 17)) (v_iv (n_v vs 18)) (v_iv (n_v vs 20)) (w_ei ws (w_ar ws (n_v vs 0) 14)) (w_fi ws (n_v vs 0) 7) (w_fi ws (n_v vs 0) 15) (w_ei ws (w_ar ws (n_v vs 0) 8)) (w_fi ws (n_v vs 0) 6) (w_ei ws (w_ar ws (n_v vs 0) 9)) k1 k5 k9 k10 k11 k12 k13 k15 k16 k17 k18 k20 d0 d1 d2 d3 d4 d5 d6 h0 (shm_12 f2) f3 g4 (shm_6 f6) (shm_14 f7) g8 f9 f10 f11 f12 hK_0_8 hK_0_9 hK_0_14 kz_0_6 kz_0_7 kz_0_15
  have rf18 : tv_ok ta (0, 0, 1249, []) (n_v vs 18) := tv_in t18 (by first | omega | grind) (by first | omega | grind)
  refine ⟨List.forall_mem_cons.mpr ⟨rf18, (fun _ h => (by cases h))⟩, [], trivial, ?_, (fun _ h => (by cases h))⟩
  rw [List.append_nil]
  exact (fun _ h => (by cases h))
set_option maxHeartbeats 4000000 in
theorem vc_Em_copyOther_9_0 (x1 : Int) (x5 : Int) (x9 : Int) (x10 : Int) (x11 : Int) (x12 : Int) (x13 : Int) (x15 : Int) (x16 : Int) (x17 : Int) (x18 : Int) (x20 : Int) (x21 : Int) (x22 : Int) (way_0 : Int → Int) (drawnNodes_0 : Int) (wayLength_0 : Int) (cycles_0 : Int) (way_1 : Int → Int) (cycles_1 : Int) (wayLength_1 : Int) (cycle_1 : Int → Int) (drawnNodes_1 : Int) (cycleLength_1 : Int → Int) (cycle_0 : Int → Int) (cycleLength_0 : Int → Int) (k1 : 0 ≤ x1 ∧ x1 ≤ 49) (k5 : 0 ≤ x5 ∧ x5 ≤ 49) (k9 : 0 ≤ x9 ∧ x9 ≤ 24) (k10 : 1 ≤ x10 ∧ x10 ≤ 25) (k11 : 3 ≤ x11 ∧ x11 ≤ 27) (k12 : 1 ≤ x12 ∧ x12 ≤ 1) (k13 : 2 ≤ x13 ∧ x13 ≤ 26) (k15 : 0 ≤ x15 ∧ x15 ≤ 50) (k16 : 25 ≤ x16 ∧ x16 ≤ 25) (k17 : 0 ≤ x17 ∧ x17 ≤ 1250) (k18 : 0 ≤ x18 ∧ x18 ≤ 1249) (k20 : 0 ≤ x20 ∧ x20 ≤ 24) (k21 : 1 ≤ x21 ∧ x21 ≤ 25) (k22 : 2 ≤ x22 ∧ x22 ≤ 26) (d0 : x10 + 1 ≤ x22 ∧ x22 ≤ x10 + 1) (d1 : x13 + (-4294967296) ≤ x22 ∧ x22 ≤ x13 + 0) (d2 : x9 + (-4294967296) ≤ x22 ∧ x22 ≤ x9 + 2) (d3 : x9 + 1 ≤ x21 ∧ x21 ≤ x9 + 1) (d4 : x9 + 0 ≤ x18 ∧ x18 ≤ x9 + 1250) (d5 : x17 + 0 ≤ x18 ∧ x18 ≤ x17 + 24) (d6 : x13 + (-4294967296) ≤ x10 ∧ x10 ≤ x13 + (-1)) (d7 : x11 + (-1) ≤ x13 ∧ x13 ≤ x11 + (-1)) (d8 : x5 + (-4294967296) ≤ x1 ∧ x1 ≤ x5 + 0) (d9 : x1 + (-4294967296) ≤ x5 ∧ x5 ≤ x1 + 0) (d10 : x9 + (-4294967296) ≤ x10 ∧ x10 ≤ x9 + 1) (f0 : x22 = x10 + 1) (f1 : x21 = x9 + 1) (f2 : WYN (drawnNodes_0) (wayLength_0) (way_0)) (f3 : (cycles_0 + 1) ≤ 50) (h7 : x20 = way_1 (x10)) (f9 : x18 = x17 + x9) (f10 : x17 = x15 * 25) (g11 : x15 = cycles_1) (f13 : x10 < x13) (f14 : x13 = x11 - x12) (g15 : x11 = wayLength_1) (f16 : COJ (cycles_1) (drawnNodes_1) (wayLength_1) (cycle_1) (way_1) (x9) (x10)) (f17 : CYR (cycles_1) (drawnNodes_1) (cycle_1) (cycleLength_1)) (f18 : WYN (drawnNodes_1) (wayLength_1) (way_1)) (f19 : (cycles_1 + 1) ≤ 50) (fe_0_6_1 : drawnNodes_0 = drawnNodes_1) (fe_0_7_1 : cycles_0 = cycles_1) (fe_0_15_1 : wayLength_0 = wayLength_1) (hE_0_8_1 : ∀ j : Int, 0 ≤ j → (j = x18 → cycle_0 j = x20) ∧ (j ≠ x18 → cycle_0 j = cycle_1 j)) (hK_0_8 : ∀ j : Int, 0 ≤ j → j < 1250 → 0 ≤ cycle_0 j ∧ cycle_0 j ≤ 24) (hE_0_9_1 : ∀ j : Int, cycleLength_0 j = cycleLength_1 j) (hK_0_9 : ∀ j : Int, 0 ≤ j → j < 50 → 0 ≤ cycleLength_0 j ∧ cycleLength_0 j ≤ 25) (hE_0_14_1 : ∀ j : Int, way_0 j = way_1 j) (hK_0_14 : ∀ j : Int, 0 ≤ j → j < 27 → 0 ≤ way_0 j ∧ way_0 j ≤ 24) (kz_0_6 : 0 ≤ drawnNodes_0 ∧ drawnNodes_0 ≤ 33554431) (kz_0_7 : 0 ≤ cycles_0 ∧ cycles_0 ≤ 50) (kz_0_15 : 0 ≤ wayLength_0 ∧ wayLength_0 ≤ 27) : COJ (cycles_0) (drawnNodes_0) (wayLength_0) (cycle_0) (way_0) (x21) (x22) := by
  subst fe_0_6_1
  subst fe_0_7_1
  subst fe_0_15_1
  have e_hE_0_9_1 := funext hE_0_9_1; subst e_hE_0_9_1
  have e_hE_0_14_1 := funext hE_0_14_1; subst e_hE_0_14_1
  first
    | exact coj_start ‹COI _ _ _ _ _ _ _› ‹CYR _ _ _ _› (by omega)
    | exact coj_start (coi_step (L_zq := x25) (x := x12) (q := x16) (l2 := x17) (r := x18) (z := x19) (v := x20) ‹COI _ _ _ _ _ _ _› ‹CYR _ _ _ _› (by assumption) (by omega) (by omega) (by assumption) (by assumption) (by omega) (by assumption) (by assumption) (by omega) (by omega)) (cyc_keep (p := x24) (v := x20) ‹CYR _ _ _ _› (by assumption) (by omega)) (by omega)
    | exact coj_step (p := x18) (v := x20) ‹COJ _ _ _ _ _ _ _› ‹WYN _ _ _› (by omega) (by assumption) (by omega) (by assumption) (by omega) (by omega)
  
set_option maxHeartbeats 4000000 in
theorem vc_Em_copyOther_9_1 (x1 : Int) (x5 : Int) (x9 : Int) (x10 : Int) (x11 : Int) (x12 : Int) (x13 : Int) (x15 : Int) (x16 : Int) (x17 : Int) (x18 : Int) (x20 : Int) (x21 : Int) (x22 : Int) (way_0 : Int → Int) (drawnNodes_0 : Int) (wayLength_0 : Int) (cycles_0 : Int) (way_1 : Int → Int) (cycles_1 : Int) (wayLength_1 : Int) (cycle_1 : Int → Int) (drawnNodes_1 : Int) (cycleLength_1 : Int → Int) (cycle_0 : Int → Int) (cycleLength_0 : Int → Int) (k1 : 0 ≤ x1 ∧ x1 ≤ 49) (k5 : 0 ≤ x5 ∧ x5 ≤ 49) (k9 : 0 ≤ x9 ∧ x9 ≤ 24) (k10 : 1 ≤ x10 ∧ x10 ≤ 25) (k11 : 3 ≤ x11 ∧ x11 ≤ 27) (k12 : 1 ≤ x12 ∧ x12 ≤ 1) (k13 : 2 ≤ x13 ∧ x13 ≤ 26) (k15 : 0 ≤ x15 ∧ x15 ≤ 50) (k16 : 25 ≤ x16 ∧ x16 ≤ 25) (k17 : 0 ≤ x17 ∧ x17 ≤ 1250) (k18 : 0 ≤ x18 ∧ x18 ≤ 1249) (k20 : 0 ≤ x20 ∧ x20 ≤ 24) (k21 : 1 ≤ x21 ∧ x21 ≤ 25) (k22 : 2 ≤ x22 ∧ x22 ≤ 26) (d0 : x10 + 1 ≤ x22 ∧ x22 ≤ x10 + 1) (d1 : x13 + (-4294967296) ≤ x22 ∧ x22 ≤ x13 + 0) (d2 : x9 + (-4294967296) ≤ x22 ∧ x22 ≤ x9 + 2) (d3 : x9 + 1 ≤ x21 ∧ x21 ≤ x9 + 1) (d4 : x9 + 0 ≤ x18 ∧ x18 ≤ x9 + 1250) (d5 : x17 + 0 ≤ x18 ∧ x18 ≤ x17 + 24) (d6 : x13 + (-4294967296) ≤ x10 ∧ x10 ≤ x13 + (-1)) (d7 : x11 + (-1) ≤ x13 ∧ x13 ≤ x11 + (-1)) (d8 : x5 + (-4294967296) ≤ x1 ∧ x1 ≤ x5 + 0) (d9 : x1 + (-4294967296) ≤ x5 ∧ x5 ≤ x1 + 0) (d10 : x9 + (-4294967296) ≤ x10 ∧ x10 ≤ x9 + 1) (f0 : x22 = x10 + 1) (f1 : x21 = x9 + 1) (f2 : WYN (drawnNodes_0) (wayLength_0) (way_0)) (f3 : (cycles_0 + 1) ≤ 50) (h7 : x20 = way_1 (x10)) (f9 : x18 = x17 + x9) (f10 : x17 = x15 * 25) (g11 : x15 = cycles_1) (f13 : x10 < x13) (f14 : x13 = x11 - x12) (g15 : x11 = wayLength_1) (f16 : COJ (cycles_1) (drawnNodes_1) (wayLength_1) (cycle_1) (way_1) (x9) (x10)) (f17 : CYR (cycles_1) (drawnNodes_1) (cycle_1) (cycleLength_1)) (f18 : WYN (drawnNodes_1) (wayLength_1) (way_1)) (f19 : (cycles_1 + 1) ≤ 50) (fe_0_6_1 : drawnNodes_0 = drawnNodes_1) (fe_0_7_1 : cycles_0 = cycles_1) (fe_0_15_1 : wayLength_0 = wayLength_1) (hE_0_8_1 : ∀ j : Int, 0 ≤ j → (j = x18 → cycle_0 j = x20) ∧ (j ≠ x18 → cycle_0 j = cycle_1 j)) (hK_0_8 : ∀ j : Int, 0 ≤ j → j < 1250 → 0 ≤ cycle_0 j ∧ cycle_0 j ≤ 24) (hE_0_9_1 : ∀ j : Int, cycleLength_0 j = cycleLength_1 j) (hK_0_9 : ∀ j : Int, 0 ≤ j → j < 50 → 0 ≤ cycleLength_0 j ∧ cycleLength_0 j ≤ 25) (hE_0_14_1 : ∀ j : Int, way_0 j = way_1 j) (hK_0_14 : ∀ j : Int, 0 ≤ j → j < 27 → 0 ≤ way_0 j ∧ way_0 j ≤ 24) (kz_0_6 : 0 ≤ drawnNodes_0 ∧ drawnNodes_0 ≤ 33554431) (kz_0_7 : 0 ≤ cycles_0 ∧ cycles_0 ≤ 50) (kz_0_15 : 0 ≤ wayLength_0 ∧ wayLength_0 ≤ 27) : CYR (cycles_0) (drawnNodes_0) (cycle_0) (cycleLength_0) := by
  subst fe_0_6_1
  subst fe_0_7_1
  subst fe_0_15_1
  have e_hE_0_9_1 := funext hE_0_9_1; subst e_hE_0_9_1
  have e_hE_0_14_1 := funext hE_0_14_1; subst e_hE_0_14_1
  first
    | assumption
    | exact cyc_keep (p := x24) (v := x20) ‹CYR _ _ _ _› (by assumption) (by omega)
    | exact cyc_keep (p := x18) (v := x20) ‹CYR _ _ _ _› (by assumption) (by omega)
    | (have q2 := (‹COJ _ _ _ _ _ _ _›).2.2.1; exact cyc_keep (p := x18) (v := x20) ‹CYR _ _ _ _› (by assumption) (by omega))
  
def o_Em_copyOther_9 : or_T := (87, 23, [(0, (2, 0, 0, [1])), (1, (0, 0, 49, [])), (5, (0, 0, 49, [])), (9, (0, 0, 24, [])), (10, (0, 1, 25, [])), (11, (0, 3, 27, [])), (12, (0, 1, 1, [])), (13, (0, 2, 26, [])), (14, (2, 0, 0, [29])), (15, (0, 0, 50, [])), (16, (0, 25, 25, [])), (17, (0, 0, 1250, [])), (18, (0, 0, 1249, [])), (20, (0, 0, 24, [])), (21, (0, 1, 25, [])), (22, (0, 2, 26, []))], [(6, [22, 10], [1]), (6, [21, 9], [1]), (20, [4], [60, 2, 1, 613, 6, 15, 14]), (20, [4], [50, 1, 0, 7, 0, 7, 4, 3, 2, 0, 7, 0, 1, 0, 50]), (24, [0, 4], []), (100, [14, 18, 20], []), (10, [20, 19, 10], []), (9, [19, 4], [14]), (1, [18, 17, 9], []), (3, [17, 15, 16], []), (9, [15, 4], [7]), (9, [14, 4], [8]), (7, [10, 13], [2]), (2, [13, 11, 12], []), (9, [11, 4], [15]), (20, [4, 9, 10], [60, 3, 2, 618, 7, 6, 15, 8, 14]), (20, [4], [60, 2, 2, 603, 7, 6, 8, 9]), (20, [4], [60, 2, 1, 613, 6, 15, 14]), (20, [4], [50, 1, 0, 7, 0, 7, 4, 3, 2, 0, 7, 0, 1, 0, 50])], [], [], [(20, [4, 21, 22], [60, 3, 2, 618, 7, 6, 15, 8, 14]), (20, [4], [60, 2, 2, 603, 7, 6, 8, 9])], [], [(22, 10, 1, 1), (22, 13, -4294967296, 0), (22, 9, -4294967296, 2), (21, 9, 1, 1), (18, 9, 0, 1250), (18, 17, 0, 24), (10, 13, -4294967296, -1), (13, 11, -1, -1), (1, 5, -4294967296, 0), (5, 1, -4294967296, 0), (10, 9, -4294967296, 1)])
theorem oo_Em_copyOther_9 {kA : Nat → ClassId} : or_ok PRD kA GG o_Em_copyOther_9 := by
  refine or_mk fun A ta ws vs hD hth hl => ?_
  intro t0 r0 t1 k1 t5 k5 t9 k9 t10 k10 t11 k11 t12 k12 t13 k13 t14 r14 t15 k15 t16 k16 t17 k17 t18 k18 t20 k20 t21 k21 t22 k22 d0 d1 d2 d3 d4 d5 d6 d7 d8 d9 d10 f0 f1 f2 f3 f4 ta1 w1 le1 s1 f7 f8 f9 f10 f11 f12 f13 f14 f15 f16 f17 f18 f19
  replace f0 := shm_4 f0
  replace f1 := shm_4 f1
  replace f2 := shm_787 f2
  replace f3 := shm_789 f3
  replace f4 := shm_5 f4
  have s1 : (∀ b j, w_el ws b j = if b = v_ad (n_v vs 14) ∧ j = (v_iv (n_v vs 18)).toNat then v_iv (n_v vs 20) else w_el w1 b j) ∧ ∀ b k, w_fd ws b k = w_fd w1 b k := s1.2
  replace f7 := shm_106 f7
  replace f8 := shm_116 f8
  replace f9 := shm_12 f9
  replace f10 := shm_38 f10
  rw [show v_iv (n_v vs 16) = 25 from by omega] at f10
  replace f11 := shm_216 f11
  replace f12 := shm_143 f12
  replace f13 := shm_6 f13
  replace f14 := shm_14 f14
  replace f15 := shm_189 f15
  replace f16 := shm_791 f16
  replace f17 := shm_369 f17
  replace f18 := shm_787 f18
  replace f19 := shm_789 f19
  have q4 : n_v vs 4 = n_v vs 0 := f4.symm
  simp only [q4] at f2 f3 f8 f11 f12 f15 f16 f17 f18 f19
  have ar_0_8_1 : w_ar w1 (n_v vs 0) 8 = w_ar ws (n_v vs 0) 8 := congrArg v_ad (s1.2 _ _).symm
  have cr_0_8 := fdq_57 hD hth r0
  have ar_0_9_1 : w_ar w1 (n_v vs 0) 9 = w_ar ws (n_v vs 0) 9 := congrArg v_ad (s1.2 _ _).symm
  have cr_0_9 := fdq_56 hD hth r0
  have ar_0_14_1 : w_ar w1 (n_v vs 0) 14 = w_ar ws (n_v vs 0) 14 := congrArg v_ad (s1.2 _ _).symm
  have cr_0_14 := fdq_58 hD hth r0
  have ad_19 : v_ad (n_v vs 19) = w_ar ws (n_v vs 0) 14 := (congrArg v_ad f8).trans ar_0_14_1
  have ad_14 : v_ad (n_v vs 14) = w_ar ws (n_v vs 0) 8 := (congrArg v_ad f12).trans ar_0_8_1
  simp only [ad_19] at f7
  have h7 : v_iv (n_v vs 20) = w_ei w1 (w_ar ws (n_v vs 0) 14) (v_iv (n_v vs 10)) := f7
  have g11 : v_iv (n_v vs 15) = w_fi w1 (n_v vs 0) 7 := congrArg v_iv f11
  have g15 : v_iv (n_v vs 11) = w_fi w1 (n_v vs 0) 15 := congrArg v_iv f15
  simp only [ar_0_8_1, ar_0_14_1, ar_0_9_1] at f16 f17 f18
  have fe_0_6_1 : w_fi ws (n_v vs 0) 6 = w_fi w1 (n_v vs 0) 6 := congrArg v_iv (s1.2 _ _)
  have fe_0_7_1 : w_fi ws (n_v vs 0) 7 = w_fi w1 (n_v vs 0) 7 := congrArg v_iv (s1.2 _ _)
  have fe_0_15_1 : w_fi ws (n_v vs 0) 15 = w_fi w1 (n_v vs 0) 15 := congrArg v_iv (s1.2 _ _)
  have hE_0_8_1 : ∀ j : Int, 0 ≤ j → (j = v_iv (n_v vs 18) → w_ei ws (w_ar ws (n_v vs 0) 8) j = v_iv (n_v vs 20)) ∧ (j ≠ v_iv (n_v vs 18) → w_ei ws (w_ar ws (n_v vs 0) 8) j = w_ei w1 (w_ar ws (n_v vs 0) 8) j) := fun j hj => ⟨fun h => by unfold w_ei; rw [s1.1, if_pos ⟨ad_14.symm, by rw [h]⟩], fun h => by unfold w_ei; rw [s1.1, if_neg (fun e => h (by have := e.2; omega))]⟩
  have hK_0_8 := elq_14 hD hth cr_0_8
  have hE_0_9_1 : ∀ j : Int, w_ei ws (w_ar ws (n_v vs 0) 9) j = w_ei w1 (w_ar ws (n_v vs 0) 9) j := el_kp s1.1 r14 cr_0_9 (by decide)
  have hK_0_9 := elq_13 hD hth cr_0_9
  have hE_0_14_1 : ∀ j : Int, w_ei ws (w_ar ws (n_v vs 0) 14) j = w_ei w1 (w_ar ws (n_v vs 0) 14) j := el_kp s1.1 r14 cr_0_14 (by decide)
  have hK_0_14 := elq_15 hD hth cr_0_14
  have kz_0_6 := fdq_59 hD hth r0
  have kz_0_7 := fdq_55 hD hth r0
  have kz_0_15 := fdq_60 hD hth r0
  have nf0 : fc_1 PRD (20, [4, 21, 22], [60, 3, 2, 618, 7, 6, 15, 8, 14]) ws (vs) := by
    refine ⟨nf_in hl rfl, sgq_791 ?_⟩
    · show COJ (w_fi ws (n_v vs 4) 7) (w_fi ws (n_v vs 4) 6) (w_fi ws (n_v vs 4) 15) (w_ei ws (w_ar ws (n_v vs 4) 8)) (w_ei ws (w_ar ws (n_v vs 4) 14)) (v_iv (n_v vs 21)) (v_iv (n_v vs 22))
      rw [q4]
      exact vc_Em_copyOther_9_0 (v_iv (n_v vs 1)) (v_iv (n_v vs 5)) (v_iv (n_v vs 9)) (v_iv (n_v vs 10)) (v_iv (n_v vs 11)) (v_iv (n_v vs 12)) (v_iv (n_v vs 13)) (v_iv (n_v vs 15)) (v_iv (n_v vs 16)) (v_iv (n_v vs 17)) (v_iv (n_v vs 18)) (v_iv (n_v vs 20)) (v_iv (n_v vs 21)) (v_iv (n_v vs 22)) (w_ei ws (w_ar ws (n_v vs 0) 14)) (w_fi ws (n_v vs 0) 6) (w_fi ws (n_v vs 0) 15) (w_fi ws (n_v vs 0) 7) (w_ei w1 (w_ar ws (n_v vs 0) 14)) (w_fi w1 (n_v vs 0) 7) (w_fi w1 (n_v vs 0) 15) (w_ei w1 (w_ar ws (n_v vs 0) 8)) (w_fi w1 (n_v vs 0) 6) (w_ei w1 (w_ar ws (n_v vs 0) 9)) (w_ei ws (w_ar ws (n_v vs 0) 8)) (w_ei ws (w_ar ws (n_v vs 0) 9)) k1 k5 k9 k10 k11 k12 k13 k15 k16 k17 k18 k20 k21 k22 d0 d1 d2 d3 d4 d5 d6 d7 d8 d9 d10 f0 f1 f2 f3 h7 f9 f10 g11 f13 f14 g15 f16 f17 f18 f19 fe_0_6_1 fe_0_7_1 fe_0_15_1 hE_0_8_1 hK_0_8 hE_0_9_1 hK_0_9 hE_0_14_1 hK_0_14 kz_0_6 kz_0_7 kz_0_15
  have nf1 : fc_1 PRD (20, [4], [60, 2, 2, 603, 7, 6, 8, 9]) ws (vs) := by
    refine ⟨nf_in hl rfl, sgq_369 ?_⟩
    · show CYR (w_fi ws (n_v vs 4) 7) (w_fi ws (n_v vs 4) 6) (w_ei ws (w_ar ws (n_v vs 4) 8)) (w_ei ws (w_ar ws (n_v vs 4) 9))
      rw [q4]
      exact vc_Em_copyOther_9_1 (v_iv (n_v vs 1)) (v_iv (n_v vs 5)) (v_iv (n_v vs 9)) (v_iv (n_v vs 10)) (v_iv (n_v vs 11)) (v_iv (n_v vs 12)) (v_iv (n_v vs 13)) (v_iv (n_v vs 15)) (v_iv (n_v vs 16)) (v_iv (n_v vs 17)) (v_iv (n_v vs 18)) (v_iv (n_v vs 20)) (v_iv (n_v vs 21)) (v_iv (n_v vs 22)) (w_ei ws (w_ar ws (n_v vs 0) 14)) (w_fi ws (n_v vs 0) 6) (w_fi ws (n_v vs 0) 15) (w_fi ws (n_v vs 0) 7) (w_ei w1 (w_ar ws (n_v vs 0) 14)) (w_fi w1 (n_v vs 0) 7) (w_fi w1 (n_v vs 0) 15) (w_ei w1 (w_ar ws (n_v vs 0) 8)) (w_fi w1 (n_v vs 0) 6) (w_ei w1 (w_ar ws (n_v vs 0) 9)) (w_ei ws (w_ar ws (n_v vs 0) 8)) (w_ei ws (w_ar ws (n_v vs 0) 9)) k1 k5 k9 k10 k11 k12 k13 k15 k16 k17 k18 k20 k21 k22 d0 d1 d2 d3 d4 d5 d6 d7 d8 d9 d10 f0 f1 f2 f3 h7 f9 f10 g11 f13 f14 g15 f16 f17 f18 f19 fe_0_6_1 fe_0_7_1 fe_0_15_1 hE_0_8_1 hK_0_8 hE_0_9_1 hK_0_9 hE_0_14_1 hK_0_14 kz_0_6 kz_0_7 kz_0_15
  refine ⟨(fun _ h => (by cases h)), [], trivial, ?_, (fun _ h => (by cases h))⟩
  rw [List.append_nil]
  exact List.forall_mem_cons.mpr ⟨⟨show (20 : Nat) < 100 from by decide, nf0⟩, List.forall_mem_cons.mpr ⟨⟨show (20 : Nat) < 100 from by decide, nf1⟩, (fun _ h => (by cases h))⟩⟩
def n_Em_copyOther_an : List an_T := [(14, [(0, (2, 0, 0, [1])), (1, (0, 0, 49, [])), (2, (0, 0, 24, [])), (3, (0, 0, 24, [])), (4, (0, 0, 24, [])), (5, (0, 0, 25, [])), (6, (0, 0, 25, []))], [], (0, 0), [(0, 0, 99986), (1, 9, 25), (0, 0, 100000)], [(1, 5, (Int.negSucc 999999999999), 0), (2, 6, (Int.negSucc 999999999999), 0), (3, 7, (Int.negSucc 999999999999), 0), (5, 1, (Int.negSucc 999999999999), 0), (6, 2, (Int.negSucc 999999999999), 0), (7, 3, (Int.negSucc 999999999999), 0), (9, 10, (Int.negSucc 999999999999), 0), (10, 9, (Int.negSucc 999999999999), 0)], [], [(2, 0, 0, [1]), (0, 0, 49, []), (0, 0, 24, []), (0, 0, 24, [])], 0, [], [(20, [4, 5, 8, 9, 10], [60, 1, 2, 617, 7, 8, 9]), (20, [5, 4], [50, 1, 0, 1007, 2, 6, 0, 2, 0, 0, 1, 0, 0, 6, 4, 2, 1, 0, 0, 1, 2, 1, 7]), (20, [4], [60, 2, 2, 603, 7, 6, 8, 9]), (20, [4], [60, 2, 1, 613, 6, 15, 14]), (20, [4], [50, 1, 0, 7, 0, 7, 4, 3, 2, 0, 7, 0, 1, 0, 50]), (24, [0, 4], []), (24, [1, 5], [])]), (87, [(0, (2, 0, 0, [1])), (1, (0, 0, 49, [])), (2, (0, 0, 24, [])), (3, (0, 0, 24, [])), (4, (0, 0, 24, [])), (5, (0, 0, 25, [])), (6, (0, 1, 26, []))], [], (0, 0), [(0, 0, 99913), (1, 9, 25), (0, 0, 100000)], [(1, 5, (Int.negSucc 999999999999), 0), (2, 6, (Int.negSucc 999999999999), 0), (3, 7, (Int.negSucc 999999999999), 0), (5, 1, (Int.negSucc 999999999999), 0), (6, 2, (Int.negSucc 999999999999), 0), (7, 3, (Int.negSucc 999999999999), 0), (10, 9, (Int.negSucc 999999999999), 1)], [], [(2, 0, 0, [1]), (0, 0, 49, []), (0, 0, 24, []), (0, 0, 24, [])], 0, [], [(20, [4, 9, 10], [60, 3, 2, 618, 7, 6, 15, 8, 14]), (20, [4], [60, 2, 2, 603, 7, 6, 8, 9]), (20, [4], [60, 2, 1, 613, 6, 15, 14]), (20, [4], [50, 1, 0, 7, 0, 7, 4, 3, 2, 0, 7, 0, 1, 0, 50]), (24, [0, 4], []), (24, [1, 5], [])])]
def t_Em_copyOther_ct : ct_L := [(1, 214, e_Em_indexIn)]
set_option maxRecDepth 100000 in
theorem c_Em_copyOther {l : Launch} {D : va_G} {kA : Nat → ClassId} (h_Em_indexIn : ct_ok PRD l D kA GG y_Em_indexIn z_Em_indexIn e_Em_indexIn) : ct_ok PRD l D kA GG y_Em_copyOther z_Em_copyOther e_Em_copyOther := chk_all_ok (FT := [(39, 1, 7), (42, 1, 8), (45, 1, 9), (60, 1, 14), (63, 1, 15)]) (PT := []) (CT := t_Em_copyOther_ct) (KT := []) (NT := []) (AN := n_Em_copyOther_an) (OT := [o_Em_copyOther_0, o_Em_copyOther_1, o_Em_copyOther_2, o_Em_copyOther_3, o_Em_copyOther_4, o_Em_copyOther_5, o_Em_copyOther_6, o_Em_copyOther_7, o_Em_copyOther_8, o_Em_copyOther_9]) 3 304 (List.forall_mem_cons.mpr ⟨oo_Em_copyOther_0, List.forall_mem_cons.mpr ⟨oo_Em_copyOther_1, List.forall_mem_cons.mpr ⟨oo_Em_copyOther_2, List.forall_mem_cons.mpr ⟨oo_Em_copyOther_3, List.forall_mem_cons.mpr ⟨oo_Em_copyOther_4, List.forall_mem_cons.mpr ⟨oo_Em_copyOther_5, List.forall_mem_cons.mpr ⟨oo_Em_copyOther_6, List.forall_mem_cons.mpr ⟨oo_Em_copyOther_7, List.forall_mem_cons.mpr ⟨oo_Em_copyOther_8, List.forall_mem_cons.mpr ⟨oo_Em_copyOther_9, List.forall_mem_nil _⟩⟩⟩⟩⟩⟩⟩⟩⟩⟩) (by decide +kernel) ⟨List.forall_mem_cons.mpr ⟨gf_Em_39, List.forall_mem_cons.mpr ⟨gf_Em_42, List.forall_mem_cons.mpr ⟨gf_Em_45, List.forall_mem_cons.mpr ⟨gf_Em_60, List.forall_mem_cons.mpr ⟨gf_Em_63, List.forall_mem_nil _⟩⟩⟩⟩⟩, List.forall_mem_nil _, List.forall_mem_cons.mpr ⟨cl_virtual (y := y_Em_indexIn) (ci := 1) rfl rfl ⟨_, _, rfl⟩ (by decide +kernel) h_Em_indexIn wm_1121 wm_5 wm_1118 wm_1120 wv_4_0 ⟨by decide, by decide, by decide +kernel⟩ (by decide), List.forall_mem_nil _⟩, List.forall_mem_nil _, List.forall_mem_nil _, GG_pl⟩ (by decide +kernel)
set_option maxHeartbeats 4000000 in
theorem vc_Em_copyStretch_0_0 (x1 : Int) (x4 : Int) (x5 : Int) (x6 : Int) (cycleLength_0 : Int → Int) (cycle_0 : Int → Int) (cycles_0 : Int) (drawnNodes_0 : Int) (fresh_0 : Int → Int) (k1 : 0 ≤ x1 ∧ x1 ≤ 49) (k4 : 0 ≤ x4 ∧ x4 ≤ 24) (k5 : 0 ≤ x5 ∧ x5 ≤ 0) (k6 : 0 ≤ x6 ∧ x6 ≤ 0) (f0 : (x4 = 0) ∨ ((x4 + 1) ≤ cycleLength_0 (x1))) (f1 : CYR (cycles_0) (drawnNodes_0) (cycle_0) (cycleLength_0)) (f2 : (0 ≤ x1) ∧ ((x1 + 1) ≤ cycles_0)) (hK_0_8 : ∀ j : Int, 0 ≤ j → j < 1250 → 0 ≤ cycle_0 j ∧ cycle_0 j ≤ 24) (hK_0_9 : ∀ j : Int, 0 ≤ j → j < 50 → 0 ≤ cycleLength_0 j ∧ cycleLength_0 j ≤ 25) (hK_0_11 : ∀ j : Int, 0 ≤ j → j < 50 → 0 ≤ fresh_0 j ∧ fresh_0 j ≤ 24) (kz_0_6 : 0 ≤ drawnNodes_0 ∧ drawnNodes_0 ≤ 33554431) (kz_0_7 : 0 ≤ cycles_0 ∧ cycles_0 ≤ 50) : CSI (cycle_0) (cycleLength_0) (fresh_0) (x1) (x4) (x5) (x6) := by
  first
    | exact csi_start (by omega) (by omega) (by omega) (by omega) ((‹CYR _ _ _ _›) x1 (by omega) (by omega)).1 (by omega)
    | (rw [show x23 = x10 + 1 by omega]; exact csi_step (x := x12) (q := x16) (l2 := x17) (r := x18) (z := x19) (v := x20) ‹CSI _ _ _ _ _ _ _› (by assumption) (by omega) (by omega) (by assumption) (by assumption) (by omega) (by assumption) (by assumption) (by omega) (by omega))
  
def o_Em_copyStretch_0 : or_T := (14, 7, [(0, (2, 0, 0, [1])), (1, (0, 0, 49, [])), (4, (0, 0, 24, [])), (5, (0, 0, 0, [])), (6, (0, 0, 0, []))], [(20, [4, 0, 1], [50, 0, 1, 1009, 3, 6, 1, 2, 1, 0, 0, 0, 0, 6, 4, 2, 1, 0, 0, 1, 3, 1, 9, 1, 2]), (20, [0], [60, 2, 2, 603, 7, 6, 8, 9]), (20, [1, 0], [50, 1, 0, 1007, 2, 6, 0, 2, 0, 0, 1, 0, 0, 6, 4, 2, 1, 0, 0, 1, 2, 1, 7])], [], [], [(20, [0, 1, 4, 5, 6], [60, 0, 3, 614, 8, 9, 11]), (24, [0, 0], []), (24, [1, 1], [])], [], [])
theorem oo_Em_copyStretch_0 {kA : Nat → ClassId} : or_ok PRD kA GG o_Em_copyStretch_0 := by
  refine or_mk fun A ta ws vs hD hth hl => ?_
  intro t0 r0 t1 k1 t4 k4 t5 k5 t6 k6 f0 f1 f2
  have cr_0_8 := fdq_57 hD hth r0
  have cr_0_9 := fdq_56 hD hth r0
  have cr_0_11 := fdq_200 hD hth r0
  have hK_0_8 := elq_14 hD hth cr_0_8
  have hK_0_9 := elq_13 hD hth cr_0_9
  have hK_0_11 := elq_116 hD hth cr_0_11
  have kz_0_6 := fdq_59 hD hth r0
  have kz_0_7 := fdq_55 hD hth r0
  have nf0 : fc_1 PRD (20, [0, 1, 4, 5, 6], [60, 0, 3, 614, 8, 9, 11]) ws (vs) := ⟨nf_in hl rfl, sgq_794 (vc_Em_copyStretch_0_0 (v_iv (n_v vs 1)) (v_iv (n_v vs 4)) (v_iv (n_v vs 5)) (v_iv (n_v vs 6)) (w_ei ws (w_ar ws (n_v vs 0) 9)) (w_ei ws (w_ar ws (n_v vs 0) 8)) (w_fi ws (n_v vs 0) 7) (w_fi ws (n_v vs 0) 6) (w_ei ws (w_ar ws (n_v vs 0) 11)) k1 k4 k5 k6 (shm_365 f0) (shm_369 f1) (shm_788 f2) hK_0_8 hK_0_9 hK_0_11 kz_0_6 kz_0_7)⟩
  have nf1 : fc_1 PRD (24, [0, 0], []) ws (vs) := by
    refine ⟨nf_in hl rfl, sgq_1 ?_⟩
    · show n_v vs 0 = n_v vs 0
      first | rfl | simp only [true_and]
  have nf2 : fc_1 PRD (24, [1, 1], []) ws (vs) := by
    refine ⟨nf_in hl rfl, sgq_1 ?_⟩
    · show n_v vs 1 = n_v vs 1
      first | rfl | simp only [true_and]
  refine ⟨(fun _ h => (by cases h)), [], trivial, ?_, (fun _ h => (by cases h))⟩
  rw [List.append_nil]
  exact List.forall_mem_cons.mpr ⟨⟨show (20 : Nat) < 100 from by decide, nf0⟩, List.forall_mem_cons.mpr ⟨⟨show (24 : Nat) < 100 from by decide, nf1⟩, List.forall_mem_cons.mpr ⟨⟨show (24 : Nat) < 100 from by decide, nf2⟩, (fun _ h => (by cases h))⟩⟩⟩
set_option maxHeartbeats 4000000 in
theorem vc_Em_copyStretch_1_0 (x1 : Int) (x5 : Int) (x8 : Int) (x9 : Int) (x10 : Int) (x12 : Int) (cycleLength_0 : Int → Int) (cycle_0 : Int → Int) (fresh_0 : Int → Int) (cycles_0 : Int) (drawnNodes_0 : Int) (k1 : 0 ≤ x1 ∧ x1 ≤ 49) (k5 : 0 ≤ x5 ∧ x5 ≤ 49) (k8 : 0 ≤ x8 ∧ x8 ≤ 24) (k9 : 0 ≤ x9 ∧ x9 ≤ 25) (k10 : 0 ≤ x10 ∧ x10 ≤ 25) (k12 : 0 ≤ x12 ∧ x12 ≤ 25) (d0 : x12 + 0 ≤ x10 ∧ x10 ≤ x12 + 4294967296) (d1 : x5 + (-4294967296) ≤ x1 ∧ x1 ≤ x5 + 0) (d2 : x1 + (-4294967296) ≤ x5 ∧ x5 ≤ x1 + 0) (d3 : x10 + (-4294967296) ≤ x9 ∧ x9 ≤ x10 + 0) (d4 : x9 + (-4294967296) ≤ x10 ∧ x10 ≤ x9 + 0) (f0 : x12 ≤ x10) (h1 : x12 = cycleLength_0 (x1)) (f3 : CSI (cycle_0) (cycleLength_0) (fresh_0) (x1) (x8) (x9) (x10)) (f4 : CYR (cycles_0) (drawnNodes_0) (cycle_0) (cycleLength_0)) (f5 : (0 ≤ x1) ∧ ((x1 + 1) ≤ cycles_0)) (hK_0_8 : ∀ j : Int, 0 ≤ j → j < 1250 → 0 ≤ cycle_0 j ∧ cycle_0 j ≤ 24) (hK_0_9 : ∀ j : Int, 0 ≤ j → j < 50 → 0 ≤ cycleLength_0 j ∧ cycleLength_0 j ≤ 25) (hK_0_11 : ∀ j : Int, 0 ≤ j → j < 50 → 0 ≤ fresh_0 j ∧ fresh_0 j ≤ 24) (kz_0_6 : 0 ≤ drawnNodes_0 ∧ drawnNodes_0 ≤ 33554431) (kz_0_7 : 0 ≤ cycles_0 ∧ cycles_0 ≤ 50) : FRT (drawnNodes_0) (fresh_0) (x9) := by
  first
    | exact frt_of ‹CSI _ _ _ _ _ _ _› ‹CYR _ _ _ _› (by omega)
    | exact frt_of (csi_step (L_zq := x22) (x := x12) (q := x16) (l2 := x17) (r := x18) (z := x19) (v := x20) ‹CSI _ _ _ _ _ _ _› (by assumption) (by omega) (by omega) (by assumption) (by assumption) (by omega) (by assumption) (by assumption) (by omega) (by omega)) ‹CYR _ _ _ _› (by omega)
  
def o_Em_copyStretch_1 : or_T := (78, 13, [(0, (2, 0, 0, [1])), (1, (0, 0, 49, [])), (5, (0, 0, 49, [])), (8, (0, 0, 24, [])), (9, (0, 0, 25, [])), (10, (0, 0, 25, [])), (12, (0, 0, 25, []))], [(7, [10, 12], [3]), (10, [12, 11, 5], []), (9, [11, 4], [9]), (20, [4, 5, 8, 9, 10], [60, 0, 3, 614, 8, 9, 11]), (20, [4], [60, 2, 2, 603, 7, 6, 8, 9]), (20, [5, 4], [50, 1, 0, 1007, 2, 6, 0, 2, 0, 0, 1, 0, 0, 6, 4, 2, 1, 0, 0, 1, 2, 1, 7]), (24, [0, 4], []), (24, [1, 5], [])], [], [], [(20, [0, 9], [60, 1, 1, 615, 6, 11])], [], [(10, 12, 0, 4294967296), (1, 5, -4294967296, 0), (5, 1, -4294967296, 0), (9, 10, -4294967296, 0), (10, 9, -4294967296, 0)])
theorem oo_Em_copyStretch_1 {kA : Nat → ClassId} : or_ok PRD kA GG o_Em_copyStretch_1 := by
  refine or_mk fun A ta ws vs hD hth hl => ?_
  intro t0 r0 t1 k1 t5 k5 t8 k8 t9 k9 t10 k10 t12 k12 d0 d1 d2 d3 d4 f0 f1 f2 f3 f4 f5 f6 f7
  replace f1 := shm_106 f1
  replace f2 := shm_120 f2
  replace f3 := shm_794 f3
  replace f4 := shm_369 f4
  replace f5 := shm_788 f5
  replace f6 := shm_5 f6
  replace f7 := shm_5 f7
  have q4 : n_v vs 4 = n_v vs 0 := f6.symm
  have q5 : n_v vs 5 = n_v vs 1 := f7.symm
  simp only [q5, q4] at f1 f2 f3 f4 f5
  have cr_0_8 := fdq_57 hD hth r0
  have cr_0_9 := fdq_56 hD hth r0
  have cr_0_11 := fdq_200 hD hth r0
  have ad_11 : v_ad (n_v vs 11) = w_ar ws (n_v vs 0) 9 := congrArg v_ad f2
  simp only [ad_11] at f1
  have h1 : v_iv (n_v vs 12) = w_ei ws (w_ar ws (n_v vs 0) 9) (v_iv (n_v vs 1)) := f1
  have hK_0_8 := elq_14 hD hth cr_0_8
  have hK_0_9 := elq_13 hD hth cr_0_9
  have hK_0_11 := elq_116 hD hth cr_0_11
  have kz_0_6 := fdq_59 hD hth r0
  have kz_0_7 := fdq_55 hD hth r0
  have nf0 : fc_1 PRD (20, [0, 9], [60, 1, 1, 615, 6, 11]) ws (vs) := ⟨nf_in hl rfl, sgq_795 (vc_Em_copyStretch_1_0 (v_iv (n_v vs 1)) (v_iv (n_v vs 5)) (v_iv (n_v vs 8)) (v_iv (n_v vs 9)) (v_iv (n_v vs 10)) (v_iv (n_v vs 12)) (w_ei ws (w_ar ws (n_v vs 0) 9)) (w_ei ws (w_ar ws (n_v vs 0) 8)) (w_ei ws (w_ar ws (n_v vs 0) 11)) (w_fi ws (n_v vs 0) 7) (w_fi ws (n_v vs 0) 6) k1 k5 k8 k9 k10 k12 d0 d1 d2 d3 d4 (shm_2 f0) h1 f3 f4 f5 hK_0_8 hK_0_9 hK_0_11 kz_0_6 kz_0_7)⟩
  refine ⟨(fun _ h => (by cases h)), [], trivial, ?_, (fun _ h => (by cases h))⟩
  rw [List.append_nil]
  exact List.forall_mem_cons.mpr ⟨⟨show (20 : Nat) < 100 from by decide, nf0⟩, (fun _ h => (by cases h))⟩
set_option maxHeartbeats 4000000 in
theorem vc_Em_copyStretch_2_r0 (x1 : Int) (x5 : Int) (x8 : Int) (x9 : Int) (x10 : Int) (x12 : Int) (x14 : Int) (x15 : Int) (x16 : Int) (x17 : Int) (cycleLength_0 : Int → Int) (cycle_0 : Int → Int) (fresh_0 : Int → Int) (cycles_0 : Int) (drawnNodes_0 : Int) (k1 : 0 ≤ x1 ∧ x1 ≤ 49) (k5 : 0 ≤ x5 ∧ x5 ≤ 49) (k8 : 0 ≤ x8 ∧ x8 ≤ 24) (k9 : 0 ≤ x9 ∧ x9 ≤ 24) (k10 : 0 ≤ x10 ∧ x10 ≤ 24) (k12 : 1 ≤ x12 ∧ x12 ≤ 25) (k14 : 25 ≤ x14 ∧ x14 ≤ 25) (k15 : 0 ≤ x15 ∧ x15 ≤ 1225) (k16 : 0 ≤ x16 ∧ x16 ≤ 48) (k17 : 0 ≤ x17 ∧ x17 ≤ 25) (d0 : x10 + 0 ≤ x16 ∧ x16 ≤ x10 + 24) (d1 : x12 + (-4294967296) ≤ x16 ∧ x16 ≤ x12 + 23) (d2 : x9 + (-4294967296) ≤ x16 ∧ x16 ≤ x9 + 24) (d3 : x8 + 0 ≤ x16 ∧ x16 ≤ x8 + 24) (d4 : x12 + (-4294967296) ≤ x10 ∧ x10 ≤ x12 + (-1)) (d5 : x5 + (-4294967296) ≤ x1 ∧ x1 ≤ x5 + 0) (d6 : x1 + (-4294967296) ≤ x5 ∧ x5 ≤ x1 + 0) (d7 : x10 + (-4294967296) ≤ x9 ∧ x9 ≤ x10 + 0) (d8 : x9 + (-4294967296) ≤ x10 ∧ x10 ≤ x9 + 0) (h0 : x17 = cycleLength_0 (x1)) (f2 : x16 = x8 + x10) (f3 : x15 = x1 * 25) (f5 : x10 < x12) (h6 : x12 = cycleLength_0 (x1)) (f7 : CSI (cycle_0) (cycleLength_0) (fresh_0) (x1) (x8) (x9) (x10)) (f8 : CYR (cycles_0) (drawnNodes_0) (cycle_0) (cycleLength_0)) (f9 : (0 ≤ x1) ∧ ((x1 + 1) ≤ cycles_0)) (hK_0_8 : ∀ j : Int, 0 ≤ j → j < 1250 → 0 ≤ cycle_0 j ∧ cycle_0 j ≤ 24) (hK_0_9 : ∀ j : Int, 0 ≤ j → j < 50 → 0 ≤ cycleLength_0 j ∧ cycleLength_0 j ≤ 25) (hK_0_11 : ∀ j : Int, 0 ≤ j → j < 50 → 0 ≤ fresh_0 j ∧ fresh_0 j ≤ 24) (kz_0_6 : 0 ≤ drawnNodes_0 ∧ drawnNodes_0 ≤ 33554431) (kz_0_7 : 0 ≤ cycles_0 ∧ cycles_0 ≤ 50) : 1 ≤ x17 ∧ x17 ≤ 25 := by
  first
    | omega
    | (have q := cyc_le ‹CYR _ _ _ _› (c := x1) (by omega) (by omega); omega)
    | (have q := cyc_le ‹CYR _ _ _ _› (c := x1) (by omega) (by omega); have q2 := (‹CSI _ _ _ _ _ _ _›).1; omega)
  
def o_Em_copyStretch_2 : or_T := (44, 18, [(0, (2, 0, 0, [1])), (1, (0, 0, 49, [])), (4, (2, 0, 0, [1])), (5, (0, 0, 49, [])), (8, (0, 0, 24, [])), (9, (0, 0, 24, [])), (10, (0, 0, 24, [])), (11, (2, 0, 0, [30])), (12, (0, 1, 25, [])), (13, (2, 0, 0, [29])), (14, (0, 25, 25, [])), (15, (0, 0, 1225, [])), (16, (0, 0, 48, [])), (17, (0, 0, 25, []))], [(10, [17, 11, 5], []), (9, [11, 4], [9]), (1, [16, 8, 10], []), (3, [15, 5, 14], []), (9, [13, 4], [8]), (7, [10, 12], [2]), (10, [12, 11, 5], []), (20, [4, 5, 8, 9, 10], [60, 0, 3, 614, 8, 9, 11]), (20, [4], [60, 2, 2, 603, 7, 6, 8, 9]), (20, [5, 4], [50, 1, 0, 1007, 2, 6, 0, 2, 0, 0, 1, 0, 0, 6, 4, 2, 1, 0, 0, 1, 2, 1, 7]), (24, [0, 4], []), (24, [1, 5], [])], [(17, (0, 1, 25, []))], [], [], [], [(16, 10, 0, 24), (16, 12, -4294967296, 23), (16, 9, -4294967296, 24), (16, 8, 0, 24), (10, 12, -4294967296, -1), (1, 5, -4294967296, 0), (5, 1, -4294967296, 0), (9, 10, -4294967296, 0), (10, 9, -4294967296, 0)])
theorem oo_Em_copyStretch_2 {kA : Nat → ClassId} : or_ok PRD kA GG o_Em_copyStretch_2 := by
  refine or_mk fun A ta ws vs hD hth hl => ?_
  intro t0 r0 t1 k1 t4 r4 t5 k5 t8 k8 t9 k9 t10 k10 t11 r11 t12 k12 t13 r13 t14 k14 t15 k15 t16 k16 t17 k17 d0 d1 d2 d3 d4 d5 d6 d7 d8 f0 f1 f2 f3 f4 f5 f6 f7 f8 f9 f10 f11
  replace f0 := shm_106 f0
  replace f1 := shm_120 f1
  replace f3 := shm_38 f3
  rw [show v_iv (n_v vs 14) = 25 from by omega] at f3
  replace f6 := shm_106 f6
  replace f7 := shm_794 f7
  replace f8 := shm_369 f8
  replace f9 := shm_788 f9
  replace f10 := shm_5 f10
  replace f11 := shm_5 f11
  have q4 : n_v vs 4 = n_v vs 0 := f10.symm
  have q5 : n_v vs 5 = n_v vs 1 := f11.symm
  simp only [q5, q4] at f0 f1 f3 f6 f7 f8 f9
  have cr_0_8 := fdq_57 hD hth r0
  have cr_0_9 := fdq_56 hD hth r0
  have cr_0_11 := fdq_200 hD hth r0
  have ad_11 : v_ad (n_v vs 11) = w_ar ws (n_v vs 0) 9 := congrArg v_ad f1
  simp only [ad_11] at f0
  have h0 : v_iv (n_v vs 17) = w_ei ws (w_ar ws (n_v vs 0) 9) (v_iv (n_v vs 1)) := f0
  simp only [ad_11] at f6
  have h6 : v_iv (n_v vs 12) = w_ei ws (w_ar ws (n_v vs 0) 9) (v_iv (n_v vs 1)) := f6
  have hK_0_8 := elq_14 hD hth cr_0_8
  have hK_0_9 := elq_13 hD hth cr_0_9
  have hK_0_11 := elq_116 hD hth cr_0_11
  have kz_0_6 := fdq_59 hD hth r0
  have kz_0_7 := fdq_55 hD hth r0
  have hrf0 : 1 ≤ v_iv (n_v vs 17) ∧ v_iv (n_v vs 17) ≤ 25 := vc_Em_copyStretch_2_r0 (v_iv (n_v vs 1)) (v_iv (n_v vs 5)) (v_iv (n_v vs 8)) (v_iv (n_v vs 9)) (v_iv (n_v vs 10)) (v_iv (n_v vs 12)) (v_iv (n_v vs 14)) (v_iv (n_v vs 15)) (v_iv (n_v vs 16)) (v_iv (n_v vs 17)) (w_ei ws (w_ar ws (n_v vs 0) 9)) (w_ei ws (w_ar ws (n_v vs 0) 8)) (w_ei ws (w_ar ws (n_v vs 0) 11)) (w_fi ws (n_v vs 0) 7) (w_fi ws (n_v vs 0) 6) k1 k5 k8 k9 k10 k12 k14 k15 k16 k17 d0 d1 d2 d3 d4 d5 d6 d7 d8 h0 (shm_12 f2) f3 (shm_6 f5) h6 f7 f8 f9 hK_0_8 hK_0_9 hK_0_11 kz_0_6 kz_0_7
  have rf17 : tv_ok ta (0, 1, 25, []) (n_v vs 17) := tv_in t17 (by first | omega | grind) (by first | omega | grind)
  refine ⟨List.forall_mem_cons.mpr ⟨rf17, (fun _ h => (by cases h))⟩, [], trivial, ?_, (fun _ h => (by cases h))⟩
  rw [List.append_nil]
  exact (fun _ h => (by cases h))
set_option maxHeartbeats 4000000 in
theorem vc_Em_copyStretch_3_0 (x1 : Int) (x5 : Int) (x7 : Int) (x8 : Int) (x9 : Int) (x10 : Int) (x12 : Int) (x14 : Int) (x15 : Int) (x16 : Int) (x17 : Int) (x18 : Int) (x19 : Int) (x20 : Int) (x22 : Int) (x23 : Int) (cycle_0 : Int → Int) (cycleLength_0 : Int → Int) (cycles_0 : Int) (drawnNodes_0 : Int) (cycle_1 : Int → Int) (cycleLength_1 : Int → Int) (fresh_1 : Int → Int) (cycles_1 : Int) (drawnNodes_1 : Int) (fresh_0 : Int → Int) (k1 : 0 ≤ x1 ∧ x1 ≤ 49) (k5 : 0 ≤ x5 ∧ x5 ≤ 49) (k7 : 0 ≤ x7 ∧ x7 ≤ 24) (k8 : 0 ≤ x8 ∧ x8 ≤ 24) (k9 : 0 ≤ x9 ∧ x9 ≤ 24) (k10 : 0 ≤ x10 ∧ x10 ≤ 24) (k12 : 1 ≤ x12 ∧ x12 ≤ 25) (k14 : 25 ≤ x14 ∧ x14 ≤ 25) (k15 : 0 ≤ x15 ∧ x15 ≤ 1225) (k16 : 0 ≤ x16 ∧ x16 ≤ 48) (k17 : 1 ≤ x17 ∧ x17 ≤ 25) (k18 : 0 ≤ x18 ∧ x18 ≤ 24) (k19 : 0 ≤ x19 ∧ x19 ≤ 1249) (k20 : 0 ≤ x20 ∧ x20 ≤ 24) (k22 : 1 ≤ x22 ∧ x22 ≤ 25) (k23 : 1 ≤ x23 ∧ x23 ≤ 25) (d0 : x10 + 1 ≤ x23 ∧ x23 ≤ x10 + 1) (d1 : x12 + (-4294967296) ≤ x23 ∧ x23 ≤ x12 + 0) (d2 : x9 + (-4294967296) ≤ x23 ∧ x23 ≤ x9 + 1) (d3 : x9 + 1 ≤ x22 ∧ x22 ≤ x9 + 1) (d4 : x10 + (-4294967296) ≤ x22 ∧ x22 ≤ x10 + 1) (d5 : x18 + 0 ≤ x19 ∧ x19 ≤ x18 + 1225) (d6 : x17 + (-4294967295) ≤ x19 ∧ x19 ≤ x17 + 1224) (d7 : x15 + 0 ≤ x19 ∧ x19 ≤ x15 + 24) (d8 : x17 + (-4294967295) ≤ x18 ∧ x18 ≤ x17 + (-1)) (d9 : x10 + 0 ≤ x16 ∧ x16 ≤ x10 + 24) (d10 : x12 + (-4294967296) ≤ x16 ∧ x16 ≤ x12 + 23) (d11 : x9 + (-4294967296) ≤ x16 ∧ x16 ≤ x9 + 24) (d12 : x8 + 0 ≤ x16 ∧ x16 ≤ x8 + 24) (d13 : x12 + (-4294967296) ≤ x10 ∧ x10 ≤ x12 + (-1)) (d14 : x5 + (-4294967296) ≤ x1 ∧ x1 ≤ x5 + 0) (d15 : x1 + (-4294967296) ≤ x5 ∧ x5 ≤ x1 + 0) (d16 : x10 + (-4294967296) ≤ x9 ∧ x9 ≤ x10 + 0) (d17 : x9 + (-4294967296) ≤ x10 ∧ x10 ≤ x9 + 0) (f0 : x23 = x10 + 1) (f1 : x20 ≠ x7) (f2 : x22 = x9 + 1) (f3 : CYR (cycles_0) (drawnNodes_0) (cycle_0) (cycleLength_0)) (f4 : (0 ≤ x1) ∧ ((x1 + 1) ≤ cycles_0)) (h9 : x20 = cycle_1 (x19)) (f10 : x19 = x15 + x18) (f11 : x18 = Int.tmod (x16) (x17)) (h12 : x17 = cycleLength_1 (x1)) (f14 : x16 = x8 + x10) (f15 : x15 = x1 * 25) (f17 : x10 < x12) (h18 : x12 = cycleLength_1 (x1)) (f19 : CSI (cycle_1) (cycleLength_1) (fresh_1) (x1) (x8) (x9) (x10)) (f20 : CYR (cycles_1) (drawnNodes_1) (cycle_1) (cycleLength_1)) (f21 : (0 ≤ x1) ∧ ((x1 + 1) ≤ cycles_1)) (fe_0_6_1 : drawnNodes_0 = drawnNodes_1) (fe_0_7_1 : cycles_0 = cycles_1) (hE_0_8_1 : ∀ j : Int, cycle_0 j = cycle_1 j) (hK_0_8 : ∀ j : Int, 0 ≤ j → j < 1250 → 0 ≤ cycle_0 j ∧ cycle_0 j ≤ 24) (hE_0_9_1 : ∀ j : Int, cycleLength_0 j = cycleLength_1 j) (hK_0_9 : ∀ j : Int, 0 ≤ j → j < 50 → 0 ≤ cycleLength_0 j ∧ cycleLength_0 j ≤ 25) (hE_0_11_1 : ∀ j : Int, 0 ≤ j → (j = x9 → fresh_0 j = x20) ∧ (j ≠ x9 → fresh_0 j = fresh_1 j)) (hK_0_11 : ∀ j : Int, 0 ≤ j → j < 50 → 0 ≤ fresh_0 j ∧ fresh_0 j ≤ 24) (kz_0_6 : 0 ≤ drawnNodes_0 ∧ drawnNodes_0 ≤ 33554431) (kz_0_7 : 0 ≤ cycles_0 ∧ cycles_0 ≤ 50) : CSI (cycle_0) (cycleLength_0) (fresh_0) (x1) (x8) (x22) (x23) := by
  subst fe_0_6_1
  subst fe_0_7_1
  have e_hE_0_8_1 := funext hE_0_8_1; subst e_hE_0_8_1
  have e_hE_0_9_1 := funext hE_0_9_1; subst e_hE_0_9_1
  first
    | exact csi_start (by omega) (by omega) (by omega) (by omega) ((‹CYR _ _ _ _›) x1 (by omega) (by omega)).1 (by omega)
    | (rw [show x23 = x10 + 1 by omega]; exact csi_step (x := x12) (q := x16) (l2 := x17) (r := x18) (z := x19) (v := x20) ‹CSI _ _ _ _ _ _ _› (by assumption) (by omega) (by omega) (by assumption) (by assumption) (by omega) (by assumption) (by assumption) (by omega) (by omega))
  
def o_Em_copyStretch_3 : or_T := (14, 24, [(0, (2, 0, 0, [1])), (1, (0, 0, 49, [])), (5, (0, 0, 49, [])), (7, (0, 0, 24, [])), (8, (0, 0, 24, [])), (9, (0, 0, 24, [])), (10, (0, 0, 24, [])), (12, (0, 1, 25, [])), (14, (0, 25, 25, [])), (15, (0, 0, 1225, [])), (16, (0, 0, 48, [])), (17, (0, 1, 25, [])), (18, (0, 0, 24, [])), (19, (0, 0, 1249, [])), (20, (0, 0, 24, [])), (21, (2, 0, 0, [32])), (22, (0, 1, 25, [])), (23, (0, 1, 25, []))], [(6, [23, 10], [1]), (7, [20, 7], [1]), (6, [22, 9], [1]), (20, [4], [60, 2, 2, 603, 7, 6, 8, 9]), (20, [5, 4], [50, 1, 0, 1007, 2, 6, 0, 2, 0, 0, 1, 0, 0, 6, 4, 2, 1, 0, 0, 1, 2, 1, 7]), (24, [0, 4], []), (24, [1, 5], []), (100, [21, 9, 20], []), (9, [21, 4], [11]), (10, [20, 13, 19], []), (1, [19, 15, 18], []), (5, [18, 16, 17], []), (10, [17, 11, 5], []), (9, [11, 4], [9]), (1, [16, 8, 10], []), (3, [15, 5, 14], []), (9, [13, 4], [8]), (7, [10, 12], [2]), (10, [12, 11, 5], []), (20, [4, 5, 8, 9, 10], [60, 0, 3, 614, 8, 9, 11]), (20, [4], [60, 2, 2, 603, 7, 6, 8, 9]), (20, [5, 4], [50, 1, 0, 1007, 2, 6, 0, 2, 0, 0, 1, 0, 0, 6, 4, 2, 1, 0, 0, 1, 2, 1, 7])], [], [], [(20, [4, 5, 8, 22, 23], [60, 0, 3, 614, 8, 9, 11])], [], [(23, 10, 1, 1), (23, 12, -4294967296, 0), (23, 9, -4294967296, 1), (22, 9, 1, 1), (22, 10, -4294967296, 1), (19, 18, 0, 1225), (19, 17, -4294967295, 1224), (19, 15, 0, 24), (18, 17, -4294967295, -1), (16, 10, 0, 24), (16, 12, -4294967296, 23), (16, 9, -4294967296, 24), (16, 8, 0, 24), (10, 12, -4294967296, -1), (1, 5, -4294967296, 0), (5, 1, -4294967296, 0), (9, 10, -4294967296, 0), (10, 9, -4294967296, 0)])
theorem oo_Em_copyStretch_3 {kA : Nat → ClassId} : or_ok PRD kA GG o_Em_copyStretch_3 := by
  refine or_mk fun A ta ws vs hD hth hl => ?_
  intro t0 r0 t1 k1 t5 k5 t7 k7 t8 k8 t9 k9 t10 k10 t12 k12 t14 k14 t15 k15 t16 k16 t17 k17 t18 k18 t19 k19 t20 k20 t21 r21 t22 k22 t23 k23 d0 d1 d2 d3 d4 d5 d6 d7 d8 d9 d10 d11 d12 d13 d14 d15 d16 d17 f0 f1 f2 f3 f4 f5 f6 ta1 w1 le1 s1 f8 f9 f10 f11 f12 f13 f14 f15 f16 f17 f18 f19 f20 f21
  replace f0 := shm_4 f0
  replace f1 := shm_40 f1
  replace f2 := shm_4 f2
  replace f3 := shm_369 f3
  replace f4 := shm_788 f4
  replace f5 := shm_5 f5
  replace f6 := shm_5 f6
  have s1 : (∀ b j, w_el ws b j = if b = v_ad (n_v vs 21) ∧ j = (v_iv (n_v vs 9)).toNat then v_iv (n_v vs 20) else w_el w1 b j) ∧ ∀ b k, w_fd ws b k = w_fd w1 b k := s1.2
  replace f8 := shm_117 f8
  replace f9 := shm_106 f9
  replace f10 := shm_12 f10
  replace f11 := shm_462 f11
  replace f12 := shm_106 f12
  replace f13 := shm_120 f13
  replace f14 := shm_12 f14
  replace f15 := shm_38 f15
  rw [show v_iv (n_v vs 14) = 25 from by omega] at f15
  replace f16 := shm_143 f16
  replace f17 := shm_6 f17
  replace f18 := shm_106 f18
  replace f19 := shm_794 f19
  replace f20 := shm_369 f20
  replace f21 := shm_788 f21
  have q4 : n_v vs 4 = n_v vs 0 := f5.symm
  have q5 : n_v vs 5 = n_v vs 1 := f6.symm
  simp only [q4, q5] at f3 f4 f8 f12 f13 f15 f16 f18 f19 f20 f21
  have ar_0_8_1 : w_ar w1 (n_v vs 0) 8 = w_ar ws (n_v vs 0) 8 := congrArg v_ad (s1.2 _ _).symm
  have cr_0_8 := fdq_57 hD hth r0
  have ar_0_9_1 : w_ar w1 (n_v vs 0) 9 = w_ar ws (n_v vs 0) 9 := congrArg v_ad (s1.2 _ _).symm
  have cr_0_9 := fdq_56 hD hth r0
  have ar_0_11_1 : w_ar w1 (n_v vs 0) 11 = w_ar ws (n_v vs 0) 11 := congrArg v_ad (s1.2 _ _).symm
  have cr_0_11 := fdq_200 hD hth r0
  have ad_21 : v_ad (n_v vs 21) = w_ar ws (n_v vs 0) 11 := (congrArg v_ad f8).trans ar_0_11_1
  have ad_11 : v_ad (n_v vs 11) = w_ar ws (n_v vs 0) 9 := (congrArg v_ad f13).trans ar_0_9_1
  have ad_13 : v_ad (n_v vs 13) = w_ar ws (n_v vs 0) 8 := (congrArg v_ad f16).trans ar_0_8_1
  simp only [ad_13] at f9
  have h9 : v_iv (n_v vs 20) = w_ei w1 (w_ar ws (n_v vs 0) 8) (v_iv (n_v vs 19)) := f9
  simp only [ad_11] at f12
  have h12 : v_iv (n_v vs 17) = w_ei w1 (w_ar ws (n_v vs 0) 9) (v_iv (n_v vs 1)) := f12
  simp only [ad_11] at f18
  have h18 : v_iv (n_v vs 12) = w_ei w1 (w_ar ws (n_v vs 0) 9) (v_iv (n_v vs 1)) := f18
  simp only [ar_0_8_1, ar_0_9_1, ar_0_11_1] at f19 f20
  have fe_0_6_1 : w_fi ws (n_v vs 0) 6 = w_fi w1 (n_v vs 0) 6 := congrArg v_iv (s1.2 _ _)
  have fe_0_7_1 : w_fi ws (n_v vs 0) 7 = w_fi w1 (n_v vs 0) 7 := congrArg v_iv (s1.2 _ _)
  have hE_0_8_1 : ∀ j : Int, w_ei ws (w_ar ws (n_v vs 0) 8) j = w_ei w1 (w_ar ws (n_v vs 0) 8) j := el_kp s1.1 r21 cr_0_8 (by decide)
  have hK_0_8 := elq_14 hD hth cr_0_8
  have hE_0_9_1 : ∀ j : Int, w_ei ws (w_ar ws (n_v vs 0) 9) j = w_ei w1 (w_ar ws (n_v vs 0) 9) j := el_kp s1.1 r21 cr_0_9 (by decide)
  have hK_0_9 := elq_13 hD hth cr_0_9
  have hE_0_11_1 : ∀ j : Int, 0 ≤ j → (j = v_iv (n_v vs 9) → w_ei ws (w_ar ws (n_v vs 0) 11) j = v_iv (n_v vs 20)) ∧ (j ≠ v_iv (n_v vs 9) → w_ei ws (w_ar ws (n_v vs 0) 11) j = w_ei w1 (w_ar ws (n_v vs 0) 11) j) := fun j hj => ⟨fun h => by unfold w_ei; rw [s1.1, if_pos ⟨ad_21.symm, by rw [h]⟩], fun h => by unfold w_ei; rw [s1.1, if_neg (fun e => h (by have := e.2; omega))]⟩
  have hK_0_11 := elq_116 hD hth cr_0_11
  have kz_0_6 := fdq_59 hD hth r0
  have kz_0_7 := fdq_55 hD hth r0
  have nf0 : fc_1 PRD (20, [4, 5, 8, 22, 23], [60, 0, 3, 614, 8, 9, 11]) ws (vs) := by
    refine ⟨nf_in hl rfl, sgq_794 ?_⟩
    · show CSI (w_ei ws (w_ar ws (n_v vs 4) 8)) (w_ei ws (w_ar ws (n_v vs 4) 9)) (w_ei ws (w_ar ws (n_v vs 4) 11)) (v_iv (n_v vs 5)) (v_iv (n_v vs 8)) (v_iv (n_v vs 22)) (v_iv (n_v vs 23))
      simp only [q4, q5]
      exact vc_Em_copyStretch_3_0 (v_iv (n_v vs 1)) (v_iv (n_v vs 5)) (v_iv (n_v vs 7)) (v_iv (n_v vs 8)) (v_iv (n_v vs 9)) (v_iv (n_v vs 10)) (v_iv (n_v vs 12)) (v_iv (n_v vs 14)) (v_iv (n_v vs 15)) (v_iv (n_v vs 16)) (v_iv (n_v vs 17)) (v_iv (n_v vs 18)) (v_iv (n_v vs 19)) (v_iv (n_v vs 20)) (v_iv (n_v vs 22)) (v_iv (n_v vs 23)) (w_ei ws (w_ar ws (n_v vs 0) 8)) (w_ei ws (w_ar ws (n_v vs 0) 9)) (w_fi ws (n_v vs 0) 7) (w_fi ws (n_v vs 0) 6) (w_ei w1 (w_ar ws (n_v vs 0) 8)) (w_ei w1 (w_ar ws (n_v vs 0) 9)) (w_ei w1 (w_ar ws (n_v vs 0) 11)) (w_fi w1 (n_v vs 0) 7) (w_fi w1 (n_v vs 0) 6) (w_ei ws (w_ar ws (n_v vs 0) 11)) k1 k5 k7 k8 k9 k10 k12 k14 k15 k16 k17 k18 k19 k20 k22 k23 d0 d1 d2 d3 d4 d5 d6 d7 d8 d9 d10 d11 d12 d13 d14 d15 d16 d17 f0 f1 f2 f3 f4 h9 f10 f11 h12 f14 f15 f17 h18 f19 f20 f21 fe_0_6_1 fe_0_7_1 hE_0_8_1 hK_0_8 hE_0_9_1 hK_0_9 hE_0_11_1 hK_0_11 kz_0_6 kz_0_7
  refine ⟨(fun _ h => (by cases h)), [], trivial, ?_, (fun _ h => (by cases h))⟩
  rw [List.append_nil]
  exact List.forall_mem_cons.mpr ⟨⟨show (20 : Nat) < 100 from by decide, nf0⟩, (fun _ h => (by cases h))⟩
set_option maxHeartbeats 4000000 in
theorem vc_Em_copyStretch_4_0 (x1 : Int) (x5 : Int) (x7 : Int) (x8 : Int) (x9 : Int) (x10 : Int) (x12 : Int) (x14 : Int) (x15 : Int) (x16 : Int) (x17 : Int) (x18 : Int) (x19 : Int) (x20 : Int) (x22 : Int) (cycle_0 : Int → Int) (cycleLength_0 : Int → Int) (cycles_0 : Int) (drawnNodes_0 : Int) (cycle_1 : Int → Int) (cycleLength_1 : Int → Int) (fresh_1 : Int → Int) (cycles_1 : Int) (drawnNodes_1 : Int) (fresh_0 : Int → Int) (k1 : 0 ≤ x1 ∧ x1 ≤ 49) (k5 : 0 ≤ x5 ∧ x5 ≤ 49) (k7 : 0 ≤ x7 ∧ x7 ≤ 24) (k8 : 0 ≤ x8 ∧ x8 ≤ 24) (k9 : 0 ≤ x9 ∧ x9 ≤ 24) (k10 : 0 ≤ x10 ∧ x10 ≤ 24) (k12 : 1 ≤ x12 ∧ x12 ≤ 25) (k14 : 25 ≤ x14 ∧ x14 ≤ 25) (k15 : 0 ≤ x15 ∧ x15 ≤ 1225) (k16 : 0 ≤ x16 ∧ x16 ≤ 48) (k17 : 1 ≤ x17 ∧ x17 ≤ 25) (k18 : 0 ≤ x18 ∧ x18 ≤ 24) (k19 : 0 ≤ x19 ∧ x19 ≤ 1249) (k20 : 0 ≤ x20 ∧ x20 ≤ 24) (k22 : 1 ≤ x22 ∧ x22 ≤ 25) (d0 : x7 + 0 ≤ x20 ∧ x20 ≤ x7 + 0) (d1 : x9 + 1 ≤ x22 ∧ x22 ≤ x9 + 1) (d2 : x10 + (-4294967296) ≤ x22 ∧ x22 ≤ x10 + 1) (d3 : x18 + 0 ≤ x19 ∧ x19 ≤ x18 + 1225) (d4 : x17 + (-4294967295) ≤ x19 ∧ x19 ≤ x17 + 1224) (d5 : x15 + 0 ≤ x19 ∧ x19 ≤ x15 + 24) (d6 : x17 + (-4294967295) ≤ x18 ∧ x18 ≤ x17 + (-1)) (d7 : x10 + 0 ≤ x16 ∧ x16 ≤ x10 + 24) (d8 : x12 + (-4294967296) ≤ x16 ∧ x16 ≤ x12 + 23) (d9 : x9 + (-4294967296) ≤ x16 ∧ x16 ≤ x9 + 24) (d10 : x8 + 0 ≤ x16 ∧ x16 ≤ x8 + 24) (d11 : x12 + (-4294967296) ≤ x10 ∧ x10 ≤ x12 + (-1)) (d12 : x5 + (-4294967296) ≤ x1 ∧ x1 ≤ x5 + 0) (d13 : x1 + (-4294967296) ≤ x5 ∧ x5 ≤ x1 + 0) (d14 : x10 + (-4294967296) ≤ x9 ∧ x9 ≤ x10 + 0) (d15 : x9 + (-4294967296) ≤ x10 ∧ x10 ≤ x9 + 0) (f0 : x20 = x7) (f1 : x22 = x9 + 1) (f2 : CYR (cycles_0) (drawnNodes_0) (cycle_0) (cycleLength_0)) (f3 : (0 ≤ x1) ∧ ((x1 + 1) ≤ cycles_0)) (h8 : x20 = cycle_1 (x19)) (f9 : x19 = x15 + x18) (f10 : x18 = Int.tmod (x16) (x17)) (h11 : x17 = cycleLength_1 (x1)) (f13 : x16 = x8 + x10) (f14 : x15 = x1 * 25) (f16 : x10 < x12) (h17 : x12 = cycleLength_1 (x1)) (f18 : CSI (cycle_1) (cycleLength_1) (fresh_1) (x1) (x8) (x9) (x10)) (f19 : CYR (cycles_1) (drawnNodes_1) (cycle_1) (cycleLength_1)) (f20 : (0 ≤ x1) ∧ ((x1 + 1) ≤ cycles_1)) (fe_0_6_1 : drawnNodes_0 = drawnNodes_1) (fe_0_7_1 : cycles_0 = cycles_1) (hE_0_8_1 : ∀ j : Int, cycle_0 j = cycle_1 j) (hK_0_8 : ∀ j : Int, 0 ≤ j → j < 1250 → 0 ≤ cycle_0 j ∧ cycle_0 j ≤ 24) (hE_0_9_1 : ∀ j : Int, cycleLength_0 j = cycleLength_1 j) (hK_0_9 : ∀ j : Int, 0 ≤ j → j < 50 → 0 ≤ cycleLength_0 j ∧ cycleLength_0 j ≤ 25) (hE_0_11_1 : ∀ j : Int, 0 ≤ j → (j = x9 → fresh_0 j = x20) ∧ (j ≠ x9 → fresh_0 j = fresh_1 j)) (hK_0_11 : ∀ j : Int, 0 ≤ j → j < 50 → 0 ≤ fresh_0 j ∧ fresh_0 j ≤ 24) (kz_0_6 : 0 ≤ drawnNodes_0 ∧ drawnNodes_0 ≤ 33554431) (kz_0_7 : 0 ≤ cycles_0 ∧ cycles_0 ≤ 50) : FRT (drawnNodes_0) (fresh_0) (x22) := by
  subst fe_0_6_1
  subst fe_0_7_1
  have e_hE_0_8_1 := funext hE_0_8_1; subst e_hE_0_8_1
  have e_hE_0_9_1 := funext hE_0_9_1; subst e_hE_0_9_1
  first
    | exact frt_of ‹CSI _ _ _ _ _ _ _› ‹CYR _ _ _ _› (by omega)
    | exact frt_of (csi_step (L_zq := x22) (x := x12) (q := x16) (l2 := x17) (r := x18) (z := x19) (v := x20) ‹CSI _ _ _ _ _ _ _› (by assumption) (by omega) (by omega) (by assumption) (by assumption) (by omega) (by assumption) (by assumption) (by omega) (by omega)) ‹CYR _ _ _ _› (by omega)
  
def o_Em_copyStretch_4 : or_T := (78, 23, [(0, (2, 0, 0, [1])), (1, (0, 0, 49, [])), (5, (0, 0, 49, [])), (7, (0, 0, 24, [])), (8, (0, 0, 24, [])), (9, (0, 0, 24, [])), (10, (0, 0, 24, [])), (12, (0, 1, 25, [])), (14, (0, 25, 25, [])), (15, (0, 0, 1225, [])), (16, (0, 0, 48, [])), (17, (0, 1, 25, [])), (18, (0, 0, 24, [])), (19, (0, 0, 1249, [])), (20, (0, 0, 24, [])), (21, (2, 0, 0, [32])), (22, (0, 1, 25, []))], [(7, [20, 7], [0]), (6, [22, 9], [1]), (20, [4], [60, 2, 2, 603, 7, 6, 8, 9]), (20, [5, 4], [50, 1, 0, 1007, 2, 6, 0, 2, 0, 0, 1, 0, 0, 6, 4, 2, 1, 0, 0, 1, 2, 1, 7]), (24, [0, 4], []), (24, [1, 5], []), (100, [21, 9, 20], []), (9, [21, 4], [11]), (10, [20, 13, 19], []), (1, [19, 15, 18], []), (5, [18, 16, 17], []), (10, [17, 11, 5], []), (9, [11, 4], [9]), (1, [16, 8, 10], []), (3, [15, 5, 14], []), (9, [13, 4], [8]), (7, [10, 12], [2]), (10, [12, 11, 5], []), (20, [4, 5, 8, 9, 10], [60, 0, 3, 614, 8, 9, 11]), (20, [4], [60, 2, 2, 603, 7, 6, 8, 9]), (20, [5, 4], [50, 1, 0, 1007, 2, 6, 0, 2, 0, 0, 1, 0, 0, 6, 4, 2, 1, 0, 0, 1, 2, 1, 7])], [], [], [(20, [0, 22], [60, 1, 1, 615, 6, 11])], [], [(20, 7, 0, 0), (22, 9, 1, 1), (22, 10, -4294967296, 1), (19, 18, 0, 1225), (19, 17, -4294967295, 1224), (19, 15, 0, 24), (18, 17, -4294967295, -1), (16, 10, 0, 24), (16, 12, -4294967296, 23), (16, 9, -4294967296, 24), (16, 8, 0, 24), (10, 12, -4294967296, -1), (1, 5, -4294967296, 0), (5, 1, -4294967296, 0), (9, 10, -4294967296, 0), (10, 9, -4294967296, 0)])
theorem oo_Em_copyStretch_4 {kA : Nat → ClassId} : or_ok PRD kA GG o_Em_copyStretch_4 := by
  refine or_mk fun A ta ws vs hD hth hl => ?_
  intro t0 r0 t1 k1 t5 k5 t7 k7 t8 k8 t9 k9 t10 k10 t12 k12 t14 k14 t15 k15 t16 k16 t17 k17 t18 k18 t19 k19 t20 k20 t21 r21 t22 k22 d0 d1 d2 d3 d4 d5 d6 d7 d8 d9 d10 d11 d12 d13 d14 d15 f0 f1 f2 f3 f4 f5 ta1 w1 le1 s1 f7 f8 f9 f10 f11 f12 f13 f14 f15 f16 f17 f18 f19 f20
  replace f2 := shm_369 f2
  replace f3 := shm_788 f3
  replace f4 := shm_5 f4
  replace f5 := shm_5 f5
  have s1 : (∀ b j, w_el ws b j = if b = v_ad (n_v vs 21) ∧ j = (v_iv (n_v vs 9)).toNat then v_iv (n_v vs 20) else w_el w1 b j) ∧ ∀ b k, w_fd ws b k = w_fd w1 b k := s1.2
  replace f7 := shm_117 f7
  replace f8 := shm_106 f8
  replace f11 := shm_106 f11
  replace f12 := shm_120 f12
  replace f14 := shm_38 f14
  rw [show v_iv (n_v vs 14) = 25 from by omega] at f14
  replace f15 := shm_143 f15
  replace f17 := shm_106 f17
  replace f18 := shm_794 f18
  replace f19 := shm_369 f19
  replace f20 := shm_788 f20
  have q4 : n_v vs 4 = n_v vs 0 := f4.symm
  have q5 : n_v vs 5 = n_v vs 1 := f5.symm
  simp only [q4, q5] at f2 f3 f7 f11 f12 f14 f15 f17 f18 f19 f20
  have ar_0_8_1 : w_ar w1 (n_v vs 0) 8 = w_ar ws (n_v vs 0) 8 := congrArg v_ad (s1.2 _ _).symm
  have cr_0_8 := fdq_57 hD hth r0
  have ar_0_9_1 : w_ar w1 (n_v vs 0) 9 = w_ar ws (n_v vs 0) 9 := congrArg v_ad (s1.2 _ _).symm
  have cr_0_9 := fdq_56 hD hth r0
  have ar_0_11_1 : w_ar w1 (n_v vs 0) 11 = w_ar ws (n_v vs 0) 11 := congrArg v_ad (s1.2 _ _).symm
  have cr_0_11 := fdq_200 hD hth r0
  have ad_21 : v_ad (n_v vs 21) = w_ar ws (n_v vs 0) 11 := (congrArg v_ad f7).trans ar_0_11_1
  have ad_11 : v_ad (n_v vs 11) = w_ar ws (n_v vs 0) 9 := (congrArg v_ad f12).trans ar_0_9_1
  have ad_13 : v_ad (n_v vs 13) = w_ar ws (n_v vs 0) 8 := (congrArg v_ad f15).trans ar_0_8_1
  simp only [ad_13] at f8
  have h8 : v_iv (n_v vs 20) = w_ei w1 (w_ar ws (n_v vs 0) 8) (v_iv (n_v vs 19)) := f8
  simp only [ad_11] at f11
  have h11 : v_iv (n_v vs 17) = w_ei w1 (w_ar ws (n_v vs 0) 9) (v_iv (n_v vs 1)) := f11
  simp only [ad_11] at f17
  have h17 : v_iv (n_v vs 12) = w_ei w1 (w_ar ws (n_v vs 0) 9) (v_iv (n_v vs 1)) := f17
  simp only [ar_0_8_1, ar_0_9_1, ar_0_11_1] at f18 f19
  have fe_0_6_1 : w_fi ws (n_v vs 0) 6 = w_fi w1 (n_v vs 0) 6 := congrArg v_iv (s1.2 _ _)
  have fe_0_7_1 : w_fi ws (n_v vs 0) 7 = w_fi w1 (n_v vs 0) 7 := congrArg v_iv (s1.2 _ _)
  have hE_0_8_1 : ∀ j : Int, w_ei ws (w_ar ws (n_v vs 0) 8) j = w_ei w1 (w_ar ws (n_v vs 0) 8) j := el_kp s1.1 r21 cr_0_8 (by decide)
  have hK_0_8 := elq_14 hD hth cr_0_8
  have hE_0_9_1 : ∀ j : Int, w_ei ws (w_ar ws (n_v vs 0) 9) j = w_ei w1 (w_ar ws (n_v vs 0) 9) j := el_kp s1.1 r21 cr_0_9 (by decide)
  have hK_0_9 := elq_13 hD hth cr_0_9
  have hE_0_11_1 : ∀ j : Int, 0 ≤ j → (j = v_iv (n_v vs 9) → w_ei ws (w_ar ws (n_v vs 0) 11) j = v_iv (n_v vs 20)) ∧ (j ≠ v_iv (n_v vs 9) → w_ei ws (w_ar ws (n_v vs 0) 11) j = w_ei w1 (w_ar ws (n_v vs 0) 11) j) := fun j hj => ⟨fun h => by unfold w_ei; rw [s1.1, if_pos ⟨ad_21.symm, by rw [h]⟩], fun h => by unfold w_ei; rw [s1.1, if_neg (fun e => h (by have := e.2; omega))]⟩
  have hK_0_11 := elq_116 hD hth cr_0_11
  have kz_0_6 := fdq_59 hD hth r0
  have kz_0_7 := fdq_55 hD hth r0
  have nf0 : fc_1 PRD (20, [0, 22], [60, 1, 1, 615, 6, 11]) ws (vs) := ⟨nf_in hl rfl, sgq_795 (vc_Em_copyStretch_4_0 (v_iv (n_v vs 1)) (v_iv (n_v vs 5)) (v_iv (n_v vs 7)) (v_iv (n_v vs 8)) (v_iv (n_v vs 9)) (v_iv (n_v vs 10)) (v_iv (n_v vs 12)) (v_iv (n_v vs 14)) (v_iv (n_v vs 15)) (v_iv (n_v vs 16)) (v_iv (n_v vs 17)) (v_iv (n_v vs 18)) (v_iv (n_v vs 19)) (v_iv (n_v vs 20)) (v_iv (n_v vs 22)) (w_ei ws (w_ar ws (n_v vs 0) 8)) (w_ei ws (w_ar ws (n_v vs 0) 9)) (w_fi ws (n_v vs 0) 7) (w_fi ws (n_v vs 0) 6) (w_ei w1 (w_ar ws (n_v vs 0) 8)) (w_ei w1 (w_ar ws (n_v vs 0) 9)) (w_ei w1 (w_ar ws (n_v vs 0) 11)) (w_fi w1 (n_v vs 0) 7) (w_fi w1 (n_v vs 0) 6) (w_ei ws (w_ar ws (n_v vs 0) 11)) k1 k5 k7 k8 k9 k10 k12 k14 k15 k16 k17 k18 k19 k20 k22 d0 d1 d2 d3 d4 d5 d6 d7 d8 d9 d10 d11 d12 d13 d14 d15 (shm_37 f0) (shm_4 f1) f2 f3 h8 (shm_12 f9) (shm_462 f10) h11 (shm_12 f13) f14 (shm_6 f16) h17 f18 f19 f20 fe_0_6_1 fe_0_7_1 hE_0_8_1 hK_0_8 hE_0_9_1 hK_0_9 hE_0_11_1 hK_0_11 kz_0_6 kz_0_7)⟩
  refine ⟨(fun _ h => (by cases h)), [], trivial, ?_, (fun _ h => (by cases h))⟩
  rw [List.append_nil]
  exact List.forall_mem_cons.mpr ⟨⟨show (20 : Nat) < 100 from by decide, nf0⟩, (fun _ h => (by cases h))⟩
def n_Em_copyStretch_an : List an_T := [(14, [(0, (2, 0, 0, [1])), (1, (0, 0, 49, [])), (2, (0, 0, 24, [])), (3, (0, 0, 24, [])), (4, (0, 0, 24, [])), (5, (0, 0, 25, [])), (6, (0, 0, 25, []))], [], (0, 0), [(0, 0, 99986), (1, 9, 25), (0, 0, 100000)], [(1, 5, (Int.negSucc 999999999999), 0), (2, 6, (Int.negSucc 999999999999), 0), (3, 7, (Int.negSucc 999999999999), 0), (5, 1, (Int.negSucc 999999999999), 0), (6, 2, (Int.negSucc 999999999999), 0), (7, 3, (Int.negSucc 999999999999), 0), (9, 10, (Int.negSucc 999999999999), 0), (10, 9, (Int.negSucc 999999999999), 0)], [], [(2, 0, 0, [1]), (0, 0, 49, []), (0, 0, 24, []), (0, 0, 24, [])], 0, [], [(20, [4, 5, 8, 9, 10], [60, 0, 3, 614, 8, 9, 11]), (20, [4], [60, 2, 2, 603, 7, 6, 8, 9]), (20, [5, 4], [50, 1, 0, 1007, 2, 6, 0, 2, 0, 0, 1, 0, 0, 6, 4, 2, 1, 0, 0, 1, 2, 1, 7]), (24, [0, 4], []), (24, [1, 5], [])])]
def t_Em_copyStretch_ct : ct_L := [(1, 214, e_Em_indexIn)]
set_option maxRecDepth 100000 in
theorem c_Em_copyStretch {l : Launch} {D : va_G} {kA : Nat → ClassId} (h_Em_indexIn : ct_ok PRD l D kA GG y_Em_indexIn z_Em_indexIn e_Em_indexIn) : ct_ok PRD l D kA GG y_Em_copyStretch z_Em_copyStretch e_Em_copyStretch := chk_all_ok (FT := [(42, 1, 8), (45, 1, 9), (51, 1, 11)]) (PT := []) (CT := t_Em_copyStretch_ct) (KT := []) (NT := []) (AN := n_Em_copyStretch_an) (OT := [o_Em_copyStretch_0, o_Em_copyStretch_1, o_Em_copyStretch_2, o_Em_copyStretch_3, o_Em_copyStretch_4]) 3 200 (List.forall_mem_cons.mpr ⟨oo_Em_copyStretch_0, List.forall_mem_cons.mpr ⟨oo_Em_copyStretch_1, List.forall_mem_cons.mpr ⟨oo_Em_copyStretch_2, List.forall_mem_cons.mpr ⟨oo_Em_copyStretch_3, List.forall_mem_cons.mpr ⟨oo_Em_copyStretch_4, List.forall_mem_nil _⟩⟩⟩⟩⟩) (by decide +kernel) ⟨List.forall_mem_cons.mpr ⟨gf_Em_42, List.forall_mem_cons.mpr ⟨gf_Em_45, List.forall_mem_cons.mpr ⟨gf_Em_51, List.forall_mem_nil _⟩⟩⟩, List.forall_mem_nil _, List.forall_mem_cons.mpr ⟨cl_virtual (y := y_Em_indexIn) (ci := 1) rfl rfl ⟨_, _, rfl⟩ (by decide +kernel) h_Em_indexIn wm_1121 wm_5 wm_1118 wm_1120 wv_4_0 ⟨by decide, by decide, by decide +kernel⟩ (by decide), List.forall_mem_nil _⟩, List.forall_mem_nil _, List.forall_mem_nil _, GG_pl⟩ (by decide +kernel)
set_option maxHeartbeats 4000000 in
theorem vc_Fa_lowest_0_0 (x0 : Int) (x1 : Int) (x2 : Int) (x3 : Int) (x4 : Int) (x5 : Int) (k0 : 0 ≤ x0 ∧ x0 ≤ 33554431) (k1 : (-33554431) ≤ x1 ∧ x1 ≤ 0) (k2 : 0 ≤ x2 ∧ x2 ≤ 33554431) (k3 : 1 ≤ x3 ∧ x3 ≤ 1) (k4 : (-1) ≤ x4 ∧ x4 ≤ 33554430) (k5 : 0 ≤ x5 ∧ x5 ≤ 63) (d0 : x2 + (-1) ≤ x4 ∧ x4 ≤ x2 + (-1)) (f0 : BCT (x4) (x5)) (f1 : x4 = x2 - x3) (f2 : bvp (x2) = bvp (x0) &&& bvp (x1)) (f3 : x1 = x0 * (-1)) : LOW (x0) (x5) := by
  first
    | exact low_of (by assumption) (by assumption) (by omega) (by omega) (by assumption) (by omega) ‹BCT _ _›
  
def o_Fa_lowest_0 : or_T := (9, 6, [(0, (0, 0, 33554431, [])), (1, (0, -33554431, 0, [])), (2, (0, 0, 33554431, [])), (3, (0, 1, 1, [])), (4, (0, -1, 33554430, [])), (5, (0, 0, 63, []))], [(20, [4, 5], [61, 0, 554]), (2, [4, 2, 3], []), (16, [2, 0, 1], [0]), (15, [1, 0], [-1])], [], [], [(20, [0, 5], [61, 0, 555])], [], [(4, 2, -1, -1)])
theorem oo_Fa_lowest_0 {kA : Nat → ClassId} : or_ok PRD kA GG o_Fa_lowest_0 := by
  refine or_mk fun A ta ws vs hD hth hl => ?_
  intro t0 k0 t1 k1 t2 k2 t3 k3 t4 k4 t5 k5 d0 f0 f1 f2 f3
  have nf0 : fc_1 PRD (20, [0, 5], [61, 0, 555]) ws (vs) := ⟨nf_in hl rfl, sgq_796 (vc_Fa_lowest_0_0 (v_iv (n_v vs 0)) (v_iv (n_v vs 1)) (v_iv (n_v vs 2)) (v_iv (n_v vs 3)) (v_iv (n_v vs 4)) (v_iv (n_v vs 5)) k0 k1 k2 k3 k4 k5 d0 (shm_15 f0) (shm_14 f1) (shm_11 f2) (shm_532 f3))⟩
  refine ⟨(fun _ h => (by cases h)), [], trivial, ?_, (fun _ h => (by cases h))⟩
  rw [List.append_nil]
  exact List.forall_mem_cons.mpr ⟨⟨show (20 : Nat) < 100 from by decide, nf0⟩, (fun _ h => (by cases h))⟩
def n_Fa_lowest_an : List an_T := []
def t_Fa_lowest_ct : ct_L := [(21, 101, e_jInt_bitCount_v5)]
set_option maxRecDepth 100000 in
theorem c_Fa_lowest {l : Launch} {D : va_G} {kA : Nat → ClassId} : ct_ok PRD l D kA GG y_Fa_lowest z_Fa_lowest e_Fa_lowest := chk_all_ok (FT := []) (PT := []) (CT := t_Fa_lowest_ct) (KT := []) (NT := []) (AN := n_Fa_lowest_an) (OT := [o_Fa_lowest_0]) 0 200 (List.forall_mem_cons.mpr ⟨oo_Fa_lowest_0, List.forall_mem_nil _⟩) (by decide +kernel) ⟨List.forall_mem_nil _, List.forall_mem_nil _, List.forall_mem_cons.mpr ⟨cl_static (y := y_jInt_bitCount) c_jInt_bitCount_v5 wm_870 wm_17 wm_868 wm_869 ⟨by decide, by decide, by decide +kernel⟩ (by decide), List.forall_mem_nil _⟩, List.forall_mem_nil _, List.forall_mem_nil _, GG_pl⟩ (by decide +kernel)

set_option maxHeartbeats 4000000 in
theorem vc_Fa_numberStrong_at_Faloop_0_0 (x1 : Int) (x5 : Int) (reach_0 : Int → Int) (tail_0o4 : Int → Int) (head_0o4 : Int → Int) (edges_0o4 : Int) (k1 : 0 ≤ x1 ∧ x1 ≤ 24) (k5 : 0 ≤ x5 ∧ x5 ≤ 0) (f1 : ERC (edges_0o4) (reach_0) (tail_0o4) (head_0o4)) (hK_0_10 : ∀ j : Int, 0 ≤ j → j < 24 → 0 ≤ reach_0 j ∧ reach_0 j ≤ 16777215) (hK_4_7 : ∀ j : Int, 0 ≤ j → j < 48 → 0 ≤ tail_0o4 j ∧ tail_0o4 j ≤ 23) (hK_4_8 : ∀ j : Int, 0 ≤ j → j < 48 → 0 ≤ head_0o4 j ∧ head_0o4 j ≤ 23) (kz_4_1 : 0 ≤ edges_0o4 ∧ edges_0o4 ≤ 48) : WKn (reach_0) (x1) (x5) := by
  first
    | assumption
    | exact wkn_start (by omega)
    | exact wkn_cut ‹WKn _ _ _› (by omega)
    | exact wkn_next ‹WIn _ _ _ _› (by omega) (by omega) (by omega)
  
def o_Fa_numberStrong_at_Faloop_0 : or_T := (2, 6, [(0, (2, 0, 0, [2])), (1, (0, 0, 24, [])), (4, (2, 0, 0, [3])), (5, (0, 0, 0, []))], [(20, [0, 4], [60, 1, 3, 719, 1001, 10, 1007, 1008])], [], [], [(20, [0, 1, 5], [60, 0, 1, 717, 10]), (24, [3, 3], []), (24, [0, 0], []), (24, [1, 1], []), (24, [2, 2], [])], [], [])
theorem oo_Fa_numberStrong_at_Faloop_0 {kA : Nat → ClassId} : or_ok PRD kA GG o_Fa_numberStrong_at_Faloop_0 := by
  refine or_mk fun A ta ws vs hD hth hl => ?_
  intro t0 r0 t1 k1 t4 r4 t5 k5 f1
  have cr_0_10 := fdq_201 hD hth r0
  have cr_4_7 := fdq_52 hD hth r4
  have cr_4_8 := fdq_53 hD hth r4
  have hK_0_10 := elq_117 hD hth cr_0_10
  have hK_4_7 := elq_10 hD hth cr_4_7
  have hK_4_8 := elq_11 hD hth cr_4_8
  have kz_4_1 := fdq_38 hD hth r4
  have nf0 : fc_1 PRD (20, [0, 1, 5], [60, 0, 1, 717, 10]) ws (vs) := ⟨nf_in hl rfl, sgq_798 (vc_Fa_numberStrong_at_Faloop_0_0 (v_iv (n_v vs 1)) (v_iv (n_v vs 5)) (w_ei ws (w_ar ws (n_v vs 0) 10)) (w_ei ws (w_ar ws (n_v vs 4) 7)) (w_ei ws (w_ar ws (n_v vs 4) 8)) (w_fi ws (n_v vs 4) 1) k1 k5 (shm_797 f1) hK_0_10 hK_4_7 hK_4_8 kz_4_1)⟩
  have nf1 : fc_1 PRD (24, [3, 3], []) ws (vs) := by
    refine ⟨nf_in hl rfl, sgq_1 ?_⟩
    · show n_v vs 3 = n_v vs 3
      first | rfl | simp only [true_and]
  have nf2 : fc_1 PRD (24, [0, 0], []) ws (vs) := by
    refine ⟨nf_in hl rfl, sgq_1 ?_⟩
    · show n_v vs 0 = n_v vs 0
      first | rfl | simp only [true_and]
  have nf3 : fc_1 PRD (24, [1, 1], []) ws (vs) := by
    refine ⟨nf_in hl rfl, sgq_1 ?_⟩
    · show n_v vs 1 = n_v vs 1
      first | rfl | simp only [true_and]
  have nf4 : fc_1 PRD (24, [2, 2], []) ws (vs) := by
    refine ⟨nf_in hl rfl, sgq_1 ?_⟩
    · show n_v vs 2 = n_v vs 2
      first | rfl | simp only [true_and]
  refine ⟨(fun _ h => (by cases h)), [], trivial, ?_, (fun _ h => (by cases h))⟩
  rw [List.append_nil]
  exact List.forall_mem_cons.mpr ⟨⟨show (20 : Nat) < 100 from by decide, nf0⟩, List.forall_mem_cons.mpr ⟨⟨show (24 : Nat) < 100 from by decide, nf1⟩, List.forall_mem_cons.mpr ⟨⟨show (24 : Nat) < 100 from by decide, nf2⟩, List.forall_mem_cons.mpr ⟨⟨show (24 : Nat) < 100 from by decide, nf3⟩, List.forall_mem_cons.mpr ⟨⟨show (24 : Nat) < 100 from by decide, nf4⟩, (fun _ h => (by cases h))⟩⟩⟩⟩⟩
set_option maxHeartbeats 4000000 in
theorem vc_Fa_numberStrong_at_Faloop_1_0 (x1 : Int) (x6 : Int) (x8 : Int) (x10 : Int) (x11 : Int) (x12 : Int) (reach_0 : Int → Int) (tail_0o4 : Int → Int) (head_0o4 : Int → Int) (edges_0o4 : Int) (a2_0 : Int → Int) (k1 : 0 ≤ x1 ∧ x1 ≤ 24) (k6 : 0 ≤ x6 ∧ x6 ≤ 24) (k8 : 0 ≤ x8 ∧ x8 ≤ 24) (k10 : 0 ≤ x10 ∧ x10 ≤ 0) (k11 : (-1) ≤ x11 ∧ x11 ≤ (-1)) (k12 : 0 ≤ x12 ∧ x12 ≤ 0) (d0 : x6 + 0 ≤ x8 ∧ x8 ≤ x6 + 4294967296) (d1 : x6 + (-4294967296) ≤ x1 ∧ x1 ≤ x6 + 0) (d2 : x1 + (-4294967296) ≤ x6 ∧ x6 ≤ x1 + 0) (d3 : x1 + (-4294967296) ≤ x8 ∧ x8 ≤ x1 + 0) (d4 : x6 + (-4294967296) ≤ x8 ∧ x8 ≤ x6 + 0) (f1 : WKn (reach_0) (x1) (x8)) (f3 : ERC (edges_0o4) (reach_0) (tail_0o4) (head_0o4)) (f9 : x1 ≤ x8) (hT7 : ∀ j : Int, 0 ≤ j → j < x11 + 25 → (-1) ≤ a2_0 j ∧ a2_0 j ≤ (-1)) (hK_0_10 : ∀ j : Int, 0 ≤ j → j < 24 → 0 ≤ reach_0 j ∧ reach_0 j ≤ 16777215) (hK_2_999 : ∀ j : Int, 0 ≤ j → j < 24 → (-1) ≤ a2_0 j ∧ a2_0 j ≤ 24) (hK_4_7 : ∀ j : Int, 0 ≤ j → j < 48 → 0 ≤ tail_0o4 j ∧ tail_0o4 j ≤ 23) (hK_4_8 : ∀ j : Int, 0 ≤ j → j < 48 → 0 ≤ head_0o4 j ∧ head_0o4 j ≤ 23) (kz_4_1 : 0 ≤ edges_0o4 ∧ edges_0o4 ≤ 48) : WKn (reach_0) (x1) (x1) := by
  first
    | assumption
    | exact wkn_start (by omega)
    | exact wkn_cut ‹WKn _ _ _› (by omega)
    | exact wkn_next ‹WIn _ _ _ _› (by omega) (by omega) (by omega)
  
set_option maxHeartbeats 4000000 in
theorem vc_Fa_numberStrong_at_Faloop_1_1 (x1 : Int) (x6 : Int) (x8 : Int) (x10 : Int) (x11 : Int) (x12 : Int) (reach_0 : Int → Int) (tail_0o4 : Int → Int) (head_0o4 : Int → Int) (edges_0o4 : Int) (a2_0 : Int → Int) (k1 : 0 ≤ x1 ∧ x1 ≤ 24) (k6 : 0 ≤ x6 ∧ x6 ≤ 24) (k8 : 0 ≤ x8 ∧ x8 ≤ 24) (k10 : 0 ≤ x10 ∧ x10 ≤ 0) (k11 : (-1) ≤ x11 ∧ x11 ≤ (-1)) (k12 : 0 ≤ x12 ∧ x12 ≤ 0) (d0 : x6 + 0 ≤ x8 ∧ x8 ≤ x6 + 4294967296) (d1 : x6 + (-4294967296) ≤ x1 ∧ x1 ≤ x6 + 0) (d2 : x1 + (-4294967296) ≤ x6 ∧ x6 ≤ x1 + 0) (d3 : x1 + (-4294967296) ≤ x8 ∧ x8 ≤ x1 + 0) (d4 : x6 + (-4294967296) ≤ x8 ∧ x8 ≤ x6 + 0) (f1 : WKn (reach_0) (x1) (x8)) (f3 : ERC (edges_0o4) (reach_0) (tail_0o4) (head_0o4)) (f9 : x1 ≤ x8) (hT7 : ∀ j : Int, 0 ≤ j → j < x11 + 25 → (-1) ≤ a2_0 j ∧ a2_0 j ≤ (-1)) (hK_0_10 : ∀ j : Int, 0 ≤ j → j < 24 → 0 ≤ reach_0 j ∧ reach_0 j ≤ 16777215) (hK_2_999 : ∀ j : Int, 0 ≤ j → j < 24 → (-1) ≤ a2_0 j ∧ a2_0 j ≤ 24) (hK_4_7 : ∀ j : Int, 0 ≤ j → j < 48 → 0 ≤ tail_0o4 j ∧ tail_0o4 j ≤ 23) (hK_4_8 : ∀ j : Int, 0 ≤ j → j < 48 → 0 ≤ head_0o4 j ∧ head_0o4 j ≤ 23) (kz_4_1 : 0 ≤ edges_0o4 ∧ edges_0o4 ≤ 48) : NBA (reach_0) (a2_0) (x1) (x12) (x10) := by
  first
    | assumption
    | exact nbi_start (by omega) (by omega) (fun v a b => by have q := hT7 v a (by omega); omega)
    | exact nbi_skip ‹NBA _ _ _ _ _› (by omega) (by omega)
    | exact nbi_next ‹NBB _ _ _ _ _ _› (by omega) (by omega) ‹WKn _ _ _› (by omega) (by omega)
  
def o_Fa_numberStrong_at_Faloop_1 : or_T := (68, 13, [(0, (2, 0, 0, [2])), (1, (0, 0, 24, [])), (2, (2, 0, 0, [44])), (4, (2, 0, 0, [3])), (6, (0, 0, 24, [])), (8, (0, 0, 24, [])), (10, (0, 0, 0, [])), (11, (0, -1, -1, [])), (12, (0, 0, 0, []))], [(9, [9, 5], [10]), (20, [5, 6, 8], [60, 0, 1, 717, 10]), (24, [3, 9], []), (20, [5, 4], [60, 1, 3, 719, 1001, 10, 1007, 1008]), (24, [0, 5], []), (24, [1, 6], []), (24, [2, 7], []), (20, [7, 11], [8, -1, -1, 25]), (102, [11], [17592186044416]), (7, [8, 6], [3])], [], [], [(20, [5, 6, 6], [60, 0, 1, 717, 10]), (20, [9, 7, 6, 12, 10], [61, 2, 721])], [], [(8, 6, 0, 4294967296), (1, 6, -4294967296, 0), (6, 1, -4294967296, 0), (8, 1, -4294967296, 0), (8, 6, -4294967296, 0)])
theorem oo_Fa_numberStrong_at_Faloop_1 {kA : Nat → ClassId} : or_ok PRD kA GG o_Fa_numberStrong_at_Faloop_1 := by
  refine or_mk fun A ta ws vs hD hth hl => ?_
  intro t0 r0 t1 k1 t2 r2 t4 r4 t6 k6 t8 k8 t10 k10 t11 k11 t12 k12 d0 d1 d2 d3 d4 f0 f1 f2 f3 f4 f5 f6 f7 ta1 w1 le1 s1 f9
  replace f0 := shm_114 f0
  replace f1 := shm_798 f1
  replace f2 := shm_5 f2
  replace f3 := shm_797 f3
  replace f4 := shm_5 f4
  replace f5 := shm_5 f5
  replace f6 := shm_5 f6
  replace f7 := shm_17 f7
  replace f9 := shm_2 f9
  have q9 : n_v vs 9 = n_v vs 3 := f2.symm
  have q5 : n_v vs 5 = n_v vs 0 := f4.symm
  have q6 : n_v vs 6 = n_v vs 1 := f5.symm
  have q7 : n_v vs 7 = n_v vs 2 := f6.symm
  simp only [q9, q5, q6, q7] at f0 f1 f3 f7 f9
  have cr_0_10 := fdq_201 hD hth r0
  have cr_2_999 : ta (v_ad (n_v vs 2)) = some 44 := r2
  have cr_4_7 := fdq_52 hD hth r4
  have cr_4_8 := fdq_53 hD hth r4
  have ad_3 : v_ad (n_v vs 3) = w_ar ws (n_v vs 0) 10 := congrArg v_ad f0
  have ad_2 : v_ad (n_v vs 2) = v_ad (n_v vs 2) := rfl
  have hT7 : ∀ j : Int, 0 ≤ j → j < v_iv (n_v vs 11) + 25 → (-1) ≤ w_ei ws (v_ad (n_v vs 2)) j ∧ w_ei ws (v_ad (n_v vs 2)) j ≤ (-1) := fun j h0 h1 => by have h2 := f7 j.toNat (by omega); rw [ad_2] at h2; exact h2
  have hK_0_10 := elq_117 hD hth cr_0_10
  have hK_2_999 := elq_22 hD hth cr_2_999
  have hK_4_7 := elq_10 hD hth cr_4_7
  have hK_4_8 := elq_11 hD hth cr_4_8
  have kz_4_1 := fdq_38 hD hth r4
  have nf0 : fc_1 PRD (20, [5, 6, 6], [60, 0, 1, 717, 10]) ws (vs) := by
    refine ⟨nf_in hl rfl, sgq_799 ?_⟩
    · show WKn (w_ei ws (w_ar ws (n_v vs 5) 10)) (v_iv (n_v vs 6)) (v_iv (n_v vs 6))
      simp only [q5, q6]
      exact vc_Fa_numberStrong_at_Faloop_1_0 (v_iv (n_v vs 1)) (v_iv (n_v vs 6)) (v_iv (n_v vs 8)) (v_iv (n_v vs 10)) (v_iv (n_v vs 11)) (v_iv (n_v vs 12)) (w_ei ws (w_ar ws (n_v vs 0) 10)) (w_ei ws (w_ar ws (n_v vs 4) 7)) (w_ei ws (w_ar ws (n_v vs 4) 8)) (w_fi ws (n_v vs 4) 1) (w_ei ws (v_ad (n_v vs 2))) k1 k6 k8 k10 k11 k12 d0 d1 d2 d3 d4 f1 f3 f9 hT7 hK_0_10 hK_2_999 hK_4_7 hK_4_8 kz_4_1
  have nf1 : fc_1 PRD (20, [9, 7, 6, 12, 10], [61, 2, 721]) ws (vs) := by
    refine ⟨nf_in hl rfl, sgq_800 ?_⟩
    · show NBA (w_ei ws (v_ad (n_v vs 9))) (w_ei ws (v_ad (n_v vs 7))) (v_iv (n_v vs 6)) (v_iv (n_v vs 12)) (v_iv (n_v vs 10))
      simp only [q9, q6, q7, ad_3]
      exact vc_Fa_numberStrong_at_Faloop_1_1 (v_iv (n_v vs 1)) (v_iv (n_v vs 6)) (v_iv (n_v vs 8)) (v_iv (n_v vs 10)) (v_iv (n_v vs 11)) (v_iv (n_v vs 12)) (w_ei ws (w_ar ws (n_v vs 0) 10)) (w_ei ws (w_ar ws (n_v vs 4) 7)) (w_ei ws (w_ar ws (n_v vs 4) 8)) (w_fi ws (n_v vs 4) 1) (w_ei ws (v_ad (n_v vs 2))) k1 k6 k8 k10 k11 k12 d0 d1 d2 d3 d4 f1 f3 f9 hT7 hK_0_10 hK_2_999 hK_4_7 hK_4_8 kz_4_1
  refine ⟨(fun _ h => (by cases h)), [], trivial, ?_, (fun _ h => (by cases h))⟩
  rw [List.append_nil]
  exact List.forall_mem_cons.mpr ⟨⟨show (20 : Nat) < 100 from by decide, nf0⟩, List.forall_mem_cons.mpr ⟨⟨show (20 : Nat) < 100 from by decide, nf1⟩, (fun _ h => (by cases h))⟩⟩
set_option maxHeartbeats 4000000 in
theorem vc_Fa_numberStrong_at_Faloop_2_0 (x1 : Int) (x6 : Int) (x8 : Int) (x10 : Int) (reach_0 : Int → Int) (tail_0o4 : Int → Int) (head_0o4 : Int → Int) (edges_0o4 : Int) (k1 : 1 ≤ x1 ∧ x1 ≤ 24) (k6 : 1 ≤ x6 ∧ x6 ≤ 24) (k8 : 0 ≤ x8 ∧ x8 ≤ 23) (k10 : 0 ≤ x10 ∧ x10 ≤ 0) (d0 : x6 + (-4294967296) ≤ x8 ∧ x8 ≤ x6 + (-1)) (d1 : x6 + (-4294967296) ≤ x1 ∧ x1 ≤ x6 + 0) (d2 : x1 + (-4294967296) ≤ x6 ∧ x6 ≤ x1 + 0) (d3 : x1 + (-4294967296) ≤ x8 ∧ x8 ≤ x1 + 0) (d4 : x6 + (-4294967296) ≤ x8 ∧ x8 ≤ x6 + 0) (f1 : x8 < x1) (f2 : WKn (reach_0) (x1) (x8)) (f4 : ERC (edges_0o4) (reach_0) (tail_0o4) (head_0o4)) (hK_0_10 : ∀ j : Int, 0 ≤ j → j < 24 → 0 ≤ reach_0 j ∧ reach_0 j ≤ 16777215) (hK_4_7 : ∀ j : Int, 0 ≤ j → j < 48 → 0 ≤ tail_0o4 j ∧ tail_0o4 j ≤ 23) (hK_4_8 : ∀ j : Int, 0 ≤ j → j < 48 → 0 ≤ head_0o4 j ∧ head_0o4 j ≤ 23) (kz_4_1 : 0 ≤ edges_0o4 ∧ edges_0o4 ≤ 48) : WIn (reach_0) (x1) (x8) (x10) := by
  first
    | assumption
    | exact win_start ‹WKn _ _ _› (by omega) (by omega) (by omega)
    | exact win_skip ‹WIn _ _ _ _› (by omega) (by omega) (fun q => by have b := (bit_one2 (s := x11) (t := x12) (c := x14) (v := x8) (one := x13) (by assumption) (by assumption) (by assumption) (by omega) (by omega) (by omega) (by omega)).1 q; omega) (by omega)
    | exact win_step2 (x := x17) (y := x16) (z := x15) (p := x9) ‹WIn _ _ _ _› (by omega) (by omega) ((bit_one2 (s := x11) (t := x12) (c := x14) (v := x8) (one := x13) (by assumption) (by assumption) (by assumption) (by omega) (by omega) (by omega) (by omega)).2 (by omega)) (by assumption) (by assumption) (by assumption) hE_0_10_1 rfl (by omega)
  
def o_Fa_numberStrong_at_Faloop_2 : or_T := (10, 11, [(0, (2, 0, 0, [2])), (1, (0, 1, 24, [])), (4, (2, 0, 0, [3])), (6, (0, 1, 24, [])), (8, (0, 0, 23, [])), (10, (0, 0, 0, []))], [(7, [8, 6], [2]), (20, [5, 6, 8], [60, 0, 1, 717, 10]), (20, [5, 4], [60, 1, 3, 719, 1001, 10, 1007, 1008]), (24, [0, 5], []), (24, [1, 6], [])], [], [], [(20, [5, 6, 8, 10], [60, 0, 1, 718, 10])], [], [(8, 6, -4294967296, -1), (1, 6, -4294967296, 0), (6, 1, -4294967296, 0), (8, 1, -4294967296, 0), (8, 6, -4294967296, 0)])
theorem oo_Fa_numberStrong_at_Faloop_2 {kA : Nat → ClassId} : or_ok PRD kA GG o_Fa_numberStrong_at_Faloop_2 := by
  refine or_mk fun A ta ws vs hD hth hl => ?_
  intro t0 r0 t1 k1 t4 r4 t6 k6 t8 k8 t10 k10 d0 d1 d2 d3 d4 f1 f2 f4 f5 f6
  replace f1 := shm_6 f1
  replace f2 := shm_798 f2
  replace f4 := shm_797 f4
  replace f5 := shm_5 f5
  replace f6 := shm_5 f6
  have q5 : n_v vs 5 = n_v vs 0 := f5.symm
  have q6 : n_v vs 6 = n_v vs 1 := f6.symm
  simp only [q5, q6] at f1 f2 f4
  have cr_0_10 := fdq_201 hD hth r0
  have cr_4_7 := fdq_52 hD hth r4
  have cr_4_8 := fdq_53 hD hth r4
  have hK_0_10 := elq_117 hD hth cr_0_10
  have hK_4_7 := elq_10 hD hth cr_4_7
  have hK_4_8 := elq_11 hD hth cr_4_8
  have kz_4_1 := fdq_38 hD hth r4
  have nf0 : fc_1 PRD (20, [5, 6, 8, 10], [60, 0, 1, 718, 10]) ws (vs) := by
    refine ⟨nf_in hl rfl, sgq_801 ?_⟩
    · show WIn (w_ei ws (w_ar ws (n_v vs 5) 10)) (v_iv (n_v vs 6)) (v_iv (n_v vs 8)) (v_iv (n_v vs 10))
      simp only [q5, q6]
      exact vc_Fa_numberStrong_at_Faloop_2_0 (v_iv (n_v vs 1)) (v_iv (n_v vs 6)) (v_iv (n_v vs 8)) (v_iv (n_v vs 10)) (w_ei ws (w_ar ws (n_v vs 0) 10)) (w_ei ws (w_ar ws (n_v vs 4) 7)) (w_ei ws (w_ar ws (n_v vs 4) 8)) (w_fi ws (n_v vs 4) 1) k1 k6 k8 k10 d0 d1 d2 d3 d4 f1 f2 f4 hK_0_10 hK_4_7 hK_4_8 kz_4_1
  refine ⟨(fun _ h => (by cases h)), [], trivial, ?_, (fun _ h => (by cases h))⟩
  rw [List.append_nil]
  exact List.forall_mem_cons.mpr ⟨⟨show (20 : Nat) < 100 from by decide, nf0⟩, (fun _ h => (by cases h))⟩
set_option maxHeartbeats 4000000 in
theorem vc_Fa_numberStrong_at_Faloop_3_0 (x1 : Int) (x6 : Int) (x8 : Int) (x9 : Int) (x11 : Int) (reach_0 : Int → Int) (tail_0o4 : Int → Int) (head_0o4 : Int → Int) (edges_0o4 : Int) (k1 : 1 ≤ x1 ∧ x1 ≤ 24) (k6 : 1 ≤ x6 ∧ x6 ≤ 24) (k8 : 0 ≤ x8 ∧ x8 ≤ 23) (k9 : 1 ≤ x9 ∧ x9 ≤ 24) (k11 : 1 ≤ x11 ∧ x11 ≤ 24) (d0 : x8 + 1 ≤ x11 ∧ x11 ≤ x8 + 1) (d1 : x1 + (-4294967296) ≤ x11 ∧ x11 ≤ x1 + 0) (d2 : x6 + (-4294967296) ≤ x11 ∧ x11 ≤ x6 + 0) (d3 : x6 + 0 ≤ x9 ∧ x9 ≤ x6 + 4294967296) (d4 : x6 + (-4294967296) ≤ x1 ∧ x1 ≤ x6 + 0) (d5 : x1 + (-4294967296) ≤ x6 ∧ x6 ≤ x1 + 0) (d6 : x1 + (-4294967296) ≤ x8 ∧ x8 ≤ x1 + (-1)) (d7 : x6 + (-4294967296) ≤ x8 ∧ x8 ≤ x6 + (-1)) (d8 : x1 + (-4294967296) ≤ x9 ∧ x9 ≤ x1 + 0) (d9 : x6 + (-4294967296) ≤ x9 ∧ x9 ≤ x6 + 0) (f1 : x11 = x8 + 1) (f2 : x1 ≤ x9) (f3 : WIn (reach_0) (x1) (x8) (x9)) (f5 : ERC (edges_0o4) (reach_0) (tail_0o4) (head_0o4)) (hK_0_10 : ∀ j : Int, 0 ≤ j → j < 24 → 0 ≤ reach_0 j ∧ reach_0 j ≤ 16777215) (hK_4_7 : ∀ j : Int, 0 ≤ j → j < 48 → 0 ≤ tail_0o4 j ∧ tail_0o4 j ≤ 23) (hK_4_8 : ∀ j : Int, 0 ≤ j → j < 48 → 0 ≤ head_0o4 j ∧ head_0o4 j ≤ 23) (kz_4_1 : 0 ≤ edges_0o4 ∧ edges_0o4 ≤ 48) : WKn (reach_0) (x1) (x11) := by
  first
    | assumption
    | exact wkn_start (by omega)
    | exact wkn_cut ‹WKn _ _ _› (by omega)
    | exact wkn_next ‹WIn _ _ _ _› (by omega) (by omega) (by omega)
  
def o_Fa_numberStrong_at_Faloop_3 : or_T := (2, 12, [(0, (2, 0, 0, [2])), (1, (0, 1, 24, [])), (4, (2, 0, 0, [3])), (6, (0, 1, 24, [])), (8, (0, 0, 23, [])), (9, (0, 1, 24, [])), (11, (0, 1, 24, []))], [(6, [11, 8], [1]), (7, [9, 6], [3]), (20, [5, 6, 8, 9], [60, 0, 1, 718, 10]), (20, [5, 4], [60, 1, 3, 719, 1001, 10, 1007, 1008]), (24, [0, 5], []), (24, [1, 6], [])], [], [], [(20, [5, 6, 11], [60, 0, 1, 717, 10])], [], [(11, 8, 1, 1), (11, 1, -4294967296, 0), (11, 6, -4294967296, 0), (9, 6, 0, 4294967296), (1, 6, -4294967296, 0), (6, 1, -4294967296, 0), (8, 1, -4294967296, -1), (8, 6, -4294967296, -1), (9, 1, -4294967296, 0), (9, 6, -4294967296, 0)])
theorem oo_Fa_numberStrong_at_Faloop_3 {kA : Nat → ClassId} : or_ok PRD kA GG o_Fa_numberStrong_at_Faloop_3 := by
  refine or_mk fun A ta ws vs hD hth hl => ?_
  intro t0 r0 t1 k1 t4 r4 t6 k6 t8 k8 t9 k9 t11 k11 d0 d1 d2 d3 d4 d5 d6 d7 d8 d9 f1 f2 f3 f5 f6 f7
  replace f1 := shm_4 f1
  replace f2 := shm_2 f2
  replace f3 := shm_801 f3
  replace f5 := shm_797 f5
  replace f6 := shm_5 f6
  replace f7 := shm_5 f7
  have q5 : n_v vs 5 = n_v vs 0 := f6.symm
  have q6 : n_v vs 6 = n_v vs 1 := f7.symm
  simp only [q5, q6] at f2 f3 f5
  have cr_0_10 := fdq_201 hD hth r0
  have cr_4_7 := fdq_52 hD hth r4
  have cr_4_8 := fdq_53 hD hth r4
  have hK_0_10 := elq_117 hD hth cr_0_10
  have hK_4_7 := elq_10 hD hth cr_4_7
  have hK_4_8 := elq_11 hD hth cr_4_8
  have kz_4_1 := fdq_38 hD hth r4
  have nf0 : fc_1 PRD (20, [5, 6, 11], [60, 0, 1, 717, 10]) ws (vs) := by
    refine ⟨nf_in hl rfl, sgq_798 ?_⟩
    · show WKn (w_ei ws (w_ar ws (n_v vs 5) 10)) (v_iv (n_v vs 6)) (v_iv (n_v vs 11))
      simp only [q5, q6]
      exact vc_Fa_numberStrong_at_Faloop_3_0 (v_iv (n_v vs 1)) (v_iv (n_v vs 6)) (v_iv (n_v vs 8)) (v_iv (n_v vs 9)) (v_iv (n_v vs 11)) (w_ei ws (w_ar ws (n_v vs 0) 10)) (w_ei ws (w_ar ws (n_v vs 4) 7)) (w_ei ws (w_ar ws (n_v vs 4) 8)) (w_fi ws (n_v vs 4) 1) k1 k6 k8 k9 k11 d0 d1 d2 d3 d4 d5 d6 d7 d8 d9 f1 f2 f3 f5 hK_0_10 hK_4_7 hK_4_8 kz_4_1
  refine ⟨(fun _ h => (by cases h)), [], trivial, ?_, (fun _ h => (by cases h))⟩
  rw [List.append_nil]
  exact List.forall_mem_cons.mpr ⟨⟨show (20 : Nat) < 100 from by decide, nf0⟩, (fun _ h => (by cases h))⟩
set_option maxHeartbeats 4000000 in
theorem vc_Fa_numberStrong_at_Faloop_4_0 (x1 : Int) (x6 : Int) (x8 : Int) (x9 : Int) (x11 : Int) (x12 : Int) (x13 : Int) (x14 : Int) (x15 : Int) (reach_0 : Int → Int) (tail_0o4 : Int → Int) (head_0o4 : Int → Int) (edges_0o4 : Int) (k1 : 1 ≤ x1 ∧ x1 ≤ 24) (k6 : 1 ≤ x6 ∧ x6 ≤ 24) (k8 : 0 ≤ x8 ∧ x8 ≤ 23) (k9 : 0 ≤ x9 ∧ x9 ≤ 23) (k11 : 0 ≤ x11 ∧ x11 ≤ 16777215) (k12 : 0 ≤ x12 ∧ x12 ≤ 16777215) (k13 : 1 ≤ x13 ∧ x13 ≤ 1) (k14 : 0 ≤ x14 ∧ x14 ≤ 0) (k15 : 1 ≤ x15 ∧ x15 ≤ 24) (d0 : x9 + 1 ≤ x15 ∧ x15 ≤ x9 + 1) (d1 : x6 + (-4294967296) ≤ x15 ∧ x15 ≤ x6 + 0) (d2 : x1 + (-4294967296) ≤ x15 ∧ x15 ≤ x1 + 1) (d3 : x6 + (-4294967296) ≤ x15 ∧ x15 ≤ x6 + 1) (d4 : x6 + (-4294967296) ≤ x9 ∧ x9 ≤ x6 + (-1)) (d5 : x6 + (-4294967296) ≤ x1 ∧ x1 ≤ x6 + 0) (d6 : x1 + (-4294967296) ≤ x6 ∧ x6 ≤ x1 + 0) (d7 : x1 + (-4294967296) ≤ x8 ∧ x8 ≤ x1 + (-1)) (d8 : x6 + (-4294967296) ≤ x8 ∧ x8 ≤ x6 + (-1)) (d9 : x1 + (-4294967296) ≤ x9 ∧ x9 ≤ x1 + 0) (d10 : x6 + (-4294967296) ≤ x9 ∧ x9 ≤ x6 + 0) (f0 : x15 = x9 + 1) (f1 : x14 = 0) (f2 : x14 = x12 % 2) (f3 : bvp (x14) = bvp (x12) &&& bvp (x13)) (f4 : bvp (x12) = bvp (x11) >>> (x8).toNat) (h5 : x11 = reach_0 (x9)) (f7 : x9 < x1) (f8 : WIn (reach_0) (x1) (x8) (x9)) (f10 : ERC (edges_0o4) (reach_0) (tail_0o4) (head_0o4)) (hK_0_10 : ∀ j : Int, 0 ≤ j → j < 24 → 0 ≤ reach_0 j ∧ reach_0 j ≤ 16777215) (hK_4_7 : ∀ j : Int, 0 ≤ j → j < 48 → 0 ≤ tail_0o4 j ∧ tail_0o4 j ≤ 23) (hK_4_8 : ∀ j : Int, 0 ≤ j → j < 48 → 0 ≤ head_0o4 j ∧ head_0o4 j ≤ 23) (kz_4_1 : 0 ≤ edges_0o4 ∧ edges_0o4 ≤ 48) : WIn (reach_0) (x1) (x8) (x15) := by
  first
    | assumption
    | exact win_start ‹WKn _ _ _› (by omega) (by omega) (by omega)
    | exact win_skip ‹WIn _ _ _ _› (by omega) (by omega) (fun q => by have b := (bit_one2 (s := x11) (t := x12) (c := x14) (v := x8) (one := x13) (by assumption) (by assumption) (by assumption) (by omega) (by omega) (by omega) (by omega)).1 q; omega) (by omega)
    | exact win_step2 (x := x17) (y := x16) (z := x15) (p := x9) ‹WIn _ _ _ _› (by omega) (by omega) ((bit_one2 (s := x11) (t := x12) (c := x14) (v := x8) (one := x13) (by assumption) (by assumption) (by assumption) (by omega) (by omega) (by omega) (by omega)).2 (by omega)) (by assumption) (by assumption) (by assumption) hE_0_10_1 rfl (by omega)
  
def o_Fa_numberStrong_at_Faloop_4 : or_T := (10, 16, [(0, (2, 0, 0, [2])), (1, (0, 1, 24, [])), (4, (2, 0, 0, [3])), (6, (0, 1, 24, [])), (8, (0, 0, 23, [])), (9, (0, 0, 23, [])), (11, (0, 0, 16777215, [])), (12, (0, 0, 16777215, [])), (13, (0, 1, 1, [])), (14, (0, 0, 0, [])), (15, (0, 1, 24, []))], [(6, [15, 9], [1]), (8, [14], [0]), (12, [14, 12], [2]), (16, [14, 12, 13], [0]), (16, [12, 11, 8], [4]), (10, [11, 10, 9], []), (9, [10, 5], [10]), (7, [9, 6], [2]), (20, [5, 6, 8, 9], [60, 0, 1, 718, 10]), (24, [3, 10], []), (20, [5, 4], [60, 1, 3, 719, 1001, 10, 1007, 1008]), (24, [0, 5], []), (24, [1, 6], [])], [], [], [(20, [5, 6, 8, 15], [60, 0, 1, 718, 10])], [], [(15, 9, 1, 1), (15, 6, -4294967296, 0), (15, 1, -4294967296, 1), (15, 6, -4294967296, 1), (9, 6, -4294967296, -1), (1, 6, -4294967296, 0), (6, 1, -4294967296, 0), (8, 1, -4294967296, -1), (8, 6, -4294967296, -1), (9, 1, -4294967296, 0), (9, 6, -4294967296, 0)])
theorem oo_Fa_numberStrong_at_Faloop_4 {kA : Nat → ClassId} : or_ok PRD kA GG o_Fa_numberStrong_at_Faloop_4 := by
  refine or_mk fun A ta ws vs hD hth hl => ?_
  intro t0 r0 t1 k1 t4 r4 t6 k6 t8 k8 t9 k9 t11 k11 t12 k12 t13 k13 t14 k14 t15 k15 d0 d1 d2 d3 d4 d5 d6 d7 d8 d9 d10 f0 f1 f2 f3 f4 f5 f6 f7 f8 f9 f10 f11 f12
  replace f0 := shm_4 f0
  replace f1 := shm_210 f1
  replace f2 := shm_382 f2
  replace f3 := shm_11 f3
  replace f4 := shm_13 f4
  replace f5 := shm_106 f5
  replace f6 := shm_114 f6
  replace f7 := shm_6 f7
  replace f8 := shm_801 f8
  replace f9 := shm_5 f9
  replace f10 := shm_797 f10
  replace f11 := shm_5 f11
  replace f12 := shm_5 f12
  have q10 : n_v vs 10 = n_v vs 3 := f9.symm
  have q5 : n_v vs 5 = n_v vs 0 := f11.symm
  have q6 : n_v vs 6 = n_v vs 1 := f12.symm
  simp only [q10, q5, q6] at f5 f6 f7 f8 f10
  have cr_0_10 := fdq_201 hD hth r0
  have cr_4_7 := fdq_52 hD hth r4
  have cr_4_8 := fdq_53 hD hth r4
  have ad_3 : v_ad (n_v vs 3) = w_ar ws (n_v vs 0) 10 := congrArg v_ad f6
  simp only [ad_3] at f5
  have h5 : v_iv (n_v vs 11) = w_ei ws (w_ar ws (n_v vs 0) 10) (v_iv (n_v vs 9)) := f5
  have hK_0_10 := elq_117 hD hth cr_0_10
  have hK_4_7 := elq_10 hD hth cr_4_7
  have hK_4_8 := elq_11 hD hth cr_4_8
  have kz_4_1 := fdq_38 hD hth r4
  have nf0 : fc_1 PRD (20, [5, 6, 8, 15], [60, 0, 1, 718, 10]) ws (vs) := by
    refine ⟨nf_in hl rfl, sgq_801 ?_⟩
    · show WIn (w_ei ws (w_ar ws (n_v vs 5) 10)) (v_iv (n_v vs 6)) (v_iv (n_v vs 8)) (v_iv (n_v vs 15))
      simp only [q5, q6]
      exact vc_Fa_numberStrong_at_Faloop_4_0 (v_iv (n_v vs 1)) (v_iv (n_v vs 6)) (v_iv (n_v vs 8)) (v_iv (n_v vs 9)) (v_iv (n_v vs 11)) (v_iv (n_v vs 12)) (v_iv (n_v vs 13)) (v_iv (n_v vs 14)) (v_iv (n_v vs 15)) (w_ei ws (w_ar ws (n_v vs 0) 10)) (w_ei ws (w_ar ws (n_v vs 4) 7)) (w_ei ws (w_ar ws (n_v vs 4) 8)) (w_fi ws (n_v vs 4) 1) k1 k6 k8 k9 k11 k12 k13 k14 k15 d0 d1 d2 d3 d4 d5 d6 d7 d8 d9 d10 f0 f1 f2 f3 f4 h5 f7 f8 f10 hK_0_10 hK_4_7 hK_4_8 kz_4_1
  refine ⟨(fun _ h => (by cases h)), [], trivial, ?_, (fun _ h => (by cases h))⟩
  rw [List.append_nil]
  exact List.forall_mem_cons.mpr ⟨⟨show (20 : Nat) < 100 from by decide, nf0⟩, (fun _ h => (by cases h))⟩
set_option maxHeartbeats 4000000 in
theorem vc_Fa_numberStrong_at_Faloop_5_0 (x1 : Int) (x6 : Int) (x8 : Int) (x9 : Int) (x11 : Int) (x12 : Int) (x13 : Int) (x14 : Int) (x15 : Int) (x16 : Int) (x17 : Int) (x18 : Int) (reach_1 : Int → Int) (tail_1o4 : Int → Int) (head_1o4 : Int → Int) (edges_1o4 : Int) (edges_0o4 : Int) (reach_0 : Int → Int) (tail_0o4 : Int → Int) (head_0o4 : Int → Int) (k1 : 1 ≤ x1 ∧ x1 ≤ 24) (k6 : 1 ≤ x6 ∧ x6 ≤ 24) (k8 : 0 ≤ x8 ∧ x8 ≤ 23) (k9 : 0 ≤ x9 ∧ x9 ≤ 23) (k11 : 0 ≤ x11 ∧ x11 ≤ 16777215) (k12 : 0 ≤ x12 ∧ x12 ≤ 16777215) (k13 : 1 ≤ x13 ∧ x13 ≤ 1) (k14 : 1 ≤ x14 ∧ x14 ≤ 1) (k15 : 0 ≤ x15 ∧ x15 ≤ 16777215) (k16 : 0 ≤ x16 ∧ x16 ≤ 16777215) (k17 : 0 ≤ x17 ∧ x17 ≤ 16777215) (k18 : 1 ≤ x18 ∧ x18 ≤ 24) (d0 : x9 + 1 ≤ x18 ∧ x18 ≤ x9 + 1) (d1 : x6 + (-4294967296) ≤ x18 ∧ x18 ≤ x6 + 0) (d2 : x1 + (-4294967296) ≤ x18 ∧ x18 ≤ x1 + 1) (d3 : x6 + (-4294967296) ≤ x18 ∧ x18 ≤ x6 + 1) (d4 : x6 + (-4294967296) ≤ x9 ∧ x9 ≤ x6 + (-1)) (d5 : x6 + (-4294967296) ≤ x1 ∧ x1 ≤ x6 + 0) (d6 : x1 + (-4294967296) ≤ x6 ∧ x6 ≤ x1 + 0) (d7 : x1 + (-4294967296) ≤ x8 ∧ x8 ≤ x1 + (-1)) (d8 : x6 + (-4294967296) ≤ x8 ∧ x8 ≤ x6 + (-1)) (d9 : x1 + (-4294967296) ≤ x9 ∧ x9 ≤ x1 + 0) (d10 : x6 + (-4294967296) ≤ x9 ∧ x9 ≤ x6 + 0) (f1 : x18 = x9 + 1) (f7 : x17 ≤ x15 + x16 ∧ x15 ≤ x17 ∧ x16 ≤ x17) (f8 : bvp (x17) = bvp (x15) ||| bvp (x16)) (h9 : x16 = reach_1 (x8)) (h10 : x15 = reach_1 (x9)) (f11 : x14 ≠ 0) (f12 : x14 = x12 % 2) (f13 : bvp (x14) = bvp (x12) &&& bvp (x13)) (f14 : bvp (x12) = bvp (x11) >>> (x8).toNat) (h15 : x11 = reach_1 (x9)) (f16 : x9 < x1) (f17 : WIn (reach_1) (x1) (x8) (x9)) (f18 : ERC (edges_1o4) (reach_1) (tail_1o4) (head_1o4)) (fe_4_1_1 : edges_0o4 = edges_1o4) (hE_0_10_1 : ∀ j : Int, 0 ≤ j → (j = x9 → reach_0 j = x17) ∧ (j ≠ x9 → reach_0 j = reach_1 j)) (hK_0_10 : ∀ j : Int, 0 ≤ j → j < 24 → 0 ≤ reach_0 j ∧ reach_0 j ≤ 16777215) (hE_4_7_1 : ∀ j : Int, tail_0o4 j = tail_1o4 j) (hK_4_7 : ∀ j : Int, 0 ≤ j → j < 48 → 0 ≤ tail_0o4 j ∧ tail_0o4 j ≤ 23) (hE_4_8_1 : ∀ j : Int, head_0o4 j = head_1o4 j) (hK_4_8 : ∀ j : Int, 0 ≤ j → j < 48 → 0 ≤ head_0o4 j ∧ head_0o4 j ≤ 23) (kz_4_1 : 0 ≤ edges_0o4 ∧ edges_0o4 ≤ 48) : WIn (reach_0) (x1) (x8) (x18) := by
  subst fe_4_1_1
  have e_hE_4_7_1 := funext hE_4_7_1; subst e_hE_4_7_1
  have e_hE_4_8_1 := funext hE_4_8_1; subst e_hE_4_8_1
  first
    | assumption
    | exact win_start ‹WKn _ _ _› (by omega) (by omega) (by omega)
    | exact win_skip ‹WIn _ _ _ _› (by omega) (by omega) (fun q => by have b := (bit_one2 (s := x11) (t := x12) (c := x14) (v := x8) (one := x13) (by assumption) (by assumption) (by assumption) (by omega) (by omega) (by omega) (by omega)).1 q; omega) (by omega)
    | exact win_step2 (x := x17) (y := x16) (z := x15) (p := x9) ‹WIn _ _ _ _› (by omega) (by omega) ((bit_one2 (s := x11) (t := x12) (c := x14) (v := x8) (one := x13) (by assumption) (by assumption) (by assumption) (by omega) (by omega) (by omega) (by omega)).2 (by omega)) (by assumption) (by assumption) (by assumption) hE_0_10_1 rfl (by omega)
  
set_option maxHeartbeats 4000000 in
theorem vc_Fa_numberStrong_at_Faloop_5_1 (x1 : Int) (x6 : Int) (x8 : Int) (x9 : Int) (x11 : Int) (x12 : Int) (x13 : Int) (x14 : Int) (x15 : Int) (x16 : Int) (x17 : Int) (x18 : Int) (reach_1 : Int → Int) (tail_1o4 : Int → Int) (head_1o4 : Int → Int) (edges_1o4 : Int) (edges_0o4 : Int) (reach_0 : Int → Int) (tail_0o4 : Int → Int) (head_0o4 : Int → Int) (k1 : 1 ≤ x1 ∧ x1 ≤ 24) (k6 : 1 ≤ x6 ∧ x6 ≤ 24) (k8 : 0 ≤ x8 ∧ x8 ≤ 23) (k9 : 0 ≤ x9 ∧ x9 ≤ 23) (k11 : 0 ≤ x11 ∧ x11 ≤ 16777215) (k12 : 0 ≤ x12 ∧ x12 ≤ 16777215) (k13 : 1 ≤ x13 ∧ x13 ≤ 1) (k14 : 1 ≤ x14 ∧ x14 ≤ 1) (k15 : 0 ≤ x15 ∧ x15 ≤ 16777215) (k16 : 0 ≤ x16 ∧ x16 ≤ 16777215) (k17 : 0 ≤ x17 ∧ x17 ≤ 16777215) (k18 : 1 ≤ x18 ∧ x18 ≤ 24) (d0 : x9 + 1 ≤ x18 ∧ x18 ≤ x9 + 1) (d1 : x6 + (-4294967296) ≤ x18 ∧ x18 ≤ x6 + 0) (d2 : x1 + (-4294967296) ≤ x18 ∧ x18 ≤ x1 + 1) (d3 : x6 + (-4294967296) ≤ x18 ∧ x18 ≤ x6 + 1) (d4 : x6 + (-4294967296) ≤ x9 ∧ x9 ≤ x6 + (-1)) (d5 : x6 + (-4294967296) ≤ x1 ∧ x1 ≤ x6 + 0) (d6 : x1 + (-4294967296) ≤ x6 ∧ x6 ≤ x1 + 0) (d7 : x1 + (-4294967296) ≤ x8 ∧ x8 ≤ x1 + (-1)) (d8 : x6 + (-4294967296) ≤ x8 ∧ x8 ≤ x6 + (-1)) (d9 : x1 + (-4294967296) ≤ x9 ∧ x9 ≤ x1 + 0) (d10 : x6 + (-4294967296) ≤ x9 ∧ x9 ≤ x6 + 0) (f1 : x18 = x9 + 1) (f7 : x17 ≤ x15 + x16 ∧ x15 ≤ x17 ∧ x16 ≤ x17) (f8 : bvp (x17) = bvp (x15) ||| bvp (x16)) (h9 : x16 = reach_1 (x8)) (h10 : x15 = reach_1 (x9)) (f11 : x14 ≠ 0) (f12 : x14 = x12 % 2) (f13 : bvp (x14) = bvp (x12) &&& bvp (x13)) (f14 : bvp (x12) = bvp (x11) >>> (x8).toNat) (h15 : x11 = reach_1 (x9)) (f16 : x9 < x1) (f17 : WIn (reach_1) (x1) (x8) (x9)) (f18 : ERC (edges_1o4) (reach_1) (tail_1o4) (head_1o4)) (fe_4_1_1 : edges_0o4 = edges_1o4) (hE_0_10_1 : ∀ j : Int, 0 ≤ j → (j = x9 → reach_0 j = x17) ∧ (j ≠ x9 → reach_0 j = reach_1 j)) (hK_0_10 : ∀ j : Int, 0 ≤ j → j < 24 → 0 ≤ reach_0 j ∧ reach_0 j ≤ 16777215) (hE_4_7_1 : ∀ j : Int, tail_0o4 j = tail_1o4 j) (hK_4_7 : ∀ j : Int, 0 ≤ j → j < 48 → 0 ≤ tail_0o4 j ∧ tail_0o4 j ≤ 23) (hE_4_8_1 : ∀ j : Int, head_0o4 j = head_1o4 j) (hK_4_8 : ∀ j : Int, 0 ≤ j → j < 48 → 0 ≤ head_0o4 j ∧ head_0o4 j ≤ 23) (kz_4_1 : 0 ≤ edges_0o4 ∧ edges_0o4 ≤ 48) : ERC (edges_0o4) (reach_0) (tail_0o4) (head_0o4) := by
  subst fe_4_1_1
  have e_hE_4_7_1 := funext hE_4_7_1; subst e_hE_4_7_1
  have e_hE_4_8_1 := funext hE_4_8_1; subst e_hE_4_8_1
  first
    | assumption
    | exact erc_or (p := x9) (x := x17) (y := x16) (z := x15) ‹ERC _ _ _ _› (by assumption) (by assumption) hE_0_10_1 (fun e a b => (hK_4_7 e a (by omega)).1)
  
def o_Fa_numberStrong_at_Faloop_5 : or_T := (10, 19, [(0, (2, 0, 0, [2])), (1, (0, 1, 24, [])), (3, (2, 0, 0, [43])), (4, (2, 0, 0, [3])), (6, (0, 1, 24, [])), (8, (0, 0, 23, [])), (9, (0, 0, 23, [])), (11, (0, 0, 16777215, [])), (12, (0, 0, 16777215, [])), (13, (0, 1, 1, [])), (14, (0, 1, 1, [])), (15, (0, 0, 16777215, [])), (16, (0, 0, 16777215, [])), (17, (0, 0, 16777215, [])), (18, (0, 1, 24, []))], [(9, [10, 5], [10]), (6, [18, 9], [1]), (24, [3, 10], []), (24, [0, 5], []), (24, [1, 6], []), (100, [10, 9, 17], []), (13, [17, 15, 16], []), (16, [17, 15, 16], [1]), (10, [16, 10, 8], []), (10, [15, 10, 9], []), (8, [14], [1]), (12, [14, 12], [2]), (16, [14, 12, 13], [0]), (16, [12, 11, 8], [4]), (10, [11, 10, 9], []), (7, [9, 6], [2]), (20, [5, 6, 8, 9], [60, 0, 1, 718, 10]), (20, [5, 4], [60, 1, 3, 719, 1001, 10, 1007, 1008])], [], [], [(20, [5, 6, 8, 18], [60, 0, 1, 718, 10]), (20, [5, 4], [60, 1, 3, 719, 1001, 10, 1007, 1008])], [], [(18, 9, 1, 1), (18, 6, -4294967296, 0), (18, 1, -4294967296, 1), (18, 6, -4294967296, 1), (9, 6, -4294967296, -1), (1, 6, -4294967296, 0), (6, 1, -4294967296, 0), (8, 1, -4294967296, -1), (8, 6, -4294967296, -1), (9, 1, -4294967296, 0), (9, 6, -4294967296, 0)])
theorem oo_Fa_numberStrong_at_Faloop_5 {kA : Nat → ClassId} : or_ok PRD kA GG o_Fa_numberStrong_at_Faloop_5 := by
  refine or_mk fun A ta ws vs hD hth hl => ?_
  intro t0 r0 t1 k1 t3 r3 t4 r4 t6 k6 t8 k8 t9 k9 t11 k11 t12 k12 t13 k13 t14 k14 t15 k15 t16 k16 t17 k17 t18 k18 d0 d1 d2 d3 d4 d5 d6 d7 d8 d9 d10 f0 f1 f2 f3 f4 ta1 w1 le1 s1 f7 f8 f9 f10 f11 f12 f13 f14 f15 f16 f17 f18
  replace f0 := shm_114 f0
  replace f1 := shm_4 f1
  replace f2 := shm_5 f2
  replace f3 := shm_5 f3
  replace f4 := shm_5 f4
  have s1 : (∀ b j, w_el ws b j = if b = v_ad (n_v vs 10) ∧ j = (v_iv (n_v vs 9)).toNat then v_iv (n_v vs 17) else w_el w1 b j) ∧ ∀ b k, w_fd ws b k = w_fd w1 b k := s1.2
  have f7 : v_iv (n_v vs 17) ≤ v_iv (n_v vs 15) + v_iv (n_v vs 16) ∧ v_iv (n_v vs 15) ≤ v_iv (n_v vs 17) ∧ v_iv (n_v vs 16) ≤ v_iv (n_v vs 17) := (fun (h : v_iv (n_v vs 17) ≤ v_iv (n_v vs 15) + v_iv (n_v vs 16) ∧ v_iv (n_v vs 15) ≤ v_iv (n_v vs 17) ∧ v_iv (n_v vs 16) ≤ v_iv (n_v vs 17) ∧ (v_iv (n_v vs 17)).toNat = (v_iv (n_v vs 15)).toNat ||| (v_iv (n_v vs 16)).toNat) => ⟨h.1, h.2.1, h.2.2.1⟩) f7
  replace f8 := shm_372 f8
  replace f9 := shm_106 f9
  replace f10 := shm_106 f10
  replace f11 := shm_154 f11
  replace f12 := shm_382 f12
  replace f13 := shm_11 f13
  replace f14 := shm_13 f14
  replace f15 := shm_106 f15
  replace f16 := shm_6 f16
  replace f17 := shm_801 f17
  replace f18 := shm_797 f18
  have q10 : n_v vs 10 = n_v vs 3 := f2.symm
  have q5 : n_v vs 5 = n_v vs 0 := f3.symm
  have q6 : n_v vs 6 = n_v vs 1 := f4.symm
  simp only [q10, q5] at f0
  rw [q10] at s1
  simp only [q10, q6, q5] at f9 f10 f15 f16 f17 f18
  have ar_0_10_1 : w_ar w1 (n_v vs 0) 10 = w_ar ws (n_v vs 0) 10 := congrArg v_ad (s1.2 _ _).symm
  have cr_0_10 := fdq_201 hD hth r0
  have ar_4_7_1 : w_ar w1 (n_v vs 4) 7 = w_ar ws (n_v vs 4) 7 := congrArg v_ad (s1.2 _ _).symm
  have cr_4_7 := fdq_52 hD hth r4
  have ar_4_8_1 : w_ar w1 (n_v vs 4) 8 = w_ar ws (n_v vs 4) 8 := congrArg v_ad (s1.2 _ _).symm
  have cr_4_8 := fdq_53 hD hth r4
  have ad_3 : v_ad (n_v vs 3) = w_ar ws (n_v vs 0) 10 := congrArg v_ad f0
  simp only [ad_3] at f9
  have h9 : v_iv (n_v vs 16) = w_ei w1 (w_ar ws (n_v vs 0) 10) (v_iv (n_v vs 8)) := f9
  simp only [ad_3] at f10
  have h10 : v_iv (n_v vs 15) = w_ei w1 (w_ar ws (n_v vs 0) 10) (v_iv (n_v vs 9)) := f10
  simp only [ad_3] at f15
  have h15 : v_iv (n_v vs 11) = w_ei w1 (w_ar ws (n_v vs 0) 10) (v_iv (n_v vs 9)) := f15
  simp only [ar_0_10_1, ar_4_7_1, ar_4_8_1] at f17 f18
  have fe_4_1_1 : w_fi ws (n_v vs 4) 1 = w_fi w1 (n_v vs 4) 1 := congrArg v_iv (s1.2 _ _)
  have hE_0_10_1 : ∀ j : Int, 0 ≤ j → (j = v_iv (n_v vs 9) → w_ei ws (w_ar ws (n_v vs 0) 10) j = v_iv (n_v vs 17)) ∧ (j ≠ v_iv (n_v vs 9) → w_ei ws (w_ar ws (n_v vs 0) 10) j = w_ei w1 (w_ar ws (n_v vs 0) 10) j) := fun j hj => ⟨fun h => by unfold w_ei; rw [s1.1, if_pos ⟨ad_3.symm, by rw [h]⟩], fun h => by unfold w_ei; rw [s1.1, if_neg (fun e => h (by have := e.2; omega))]⟩
  have hK_0_10 := elq_117 hD hth cr_0_10
  have hE_4_7_1 : ∀ j : Int, w_ei ws (w_ar ws (n_v vs 4) 7) j = w_ei w1 (w_ar ws (n_v vs 4) 7) j := el_kp s1.1 r3 cr_4_7 (by decide)
  have hK_4_7 := elq_10 hD hth cr_4_7
  have hE_4_8_1 : ∀ j : Int, w_ei ws (w_ar ws (n_v vs 4) 8) j = w_ei w1 (w_ar ws (n_v vs 4) 8) j := el_kp s1.1 r3 cr_4_8 (by decide)
  have hK_4_8 := elq_11 hD hth cr_4_8
  have kz_4_1 := fdq_38 hD hth r4
  have nf0 : fc_1 PRD (20, [5, 6, 8, 18], [60, 0, 1, 718, 10]) ws (vs) := by
    refine ⟨nf_in hl rfl, sgq_801 ?_⟩
    · show WIn (w_ei ws (w_ar ws (n_v vs 5) 10)) (v_iv (n_v vs 6)) (v_iv (n_v vs 8)) (v_iv (n_v vs 18))
      simp only [q5, q6]
      exact vc_Fa_numberStrong_at_Faloop_5_0 (v_iv (n_v vs 1)) (v_iv (n_v vs 6)) (v_iv (n_v vs 8)) (v_iv (n_v vs 9)) (v_iv (n_v vs 11)) (v_iv (n_v vs 12)) (v_iv (n_v vs 13)) (v_iv (n_v vs 14)) (v_iv (n_v vs 15)) (v_iv (n_v vs 16)) (v_iv (n_v vs 17)) (v_iv (n_v vs 18)) (w_ei w1 (w_ar ws (n_v vs 0) 10)) (w_ei w1 (w_ar ws (n_v vs 4) 7)) (w_ei w1 (w_ar ws (n_v vs 4) 8)) (w_fi w1 (n_v vs 4) 1) (w_fi ws (n_v vs 4) 1) (w_ei ws (w_ar ws (n_v vs 0) 10)) (w_ei ws (w_ar ws (n_v vs 4) 7)) (w_ei ws (w_ar ws (n_v vs 4) 8)) k1 k6 k8 k9 k11 k12 k13 k14 k15 k16 k17 k18 d0 d1 d2 d3 d4 d5 d6 d7 d8 d9 d10 f1 f7 f8 h9 h10 f11 f12 f13 f14 h15 f16 f17 f18 fe_4_1_1 hE_0_10_1 hK_0_10 hE_4_7_1 hK_4_7 hE_4_8_1 hK_4_8 kz_4_1
  have nf1 : fc_1 PRD (20, [5, 4], [60, 1, 3, 719, 1001, 10, 1007, 1008]) ws (vs) := by
    refine ⟨nf_in hl rfl, sgq_797 ?_⟩
    · show ERC (w_fi ws (n_v vs 4) 1) (w_ei ws (w_ar ws (n_v vs 5) 10)) (w_ei ws (w_ar ws (n_v vs 4) 7)) (w_ei ws (w_ar ws (n_v vs 4) 8))
      rw [q5]
      exact vc_Fa_numberStrong_at_Faloop_5_1 (v_iv (n_v vs 1)) (v_iv (n_v vs 6)) (v_iv (n_v vs 8)) (v_iv (n_v vs 9)) (v_iv (n_v vs 11)) (v_iv (n_v vs 12)) (v_iv (n_v vs 13)) (v_iv (n_v vs 14)) (v_iv (n_v vs 15)) (v_iv (n_v vs 16)) (v_iv (n_v vs 17)) (v_iv (n_v vs 18)) (w_ei w1 (w_ar ws (n_v vs 0) 10)) (w_ei w1 (w_ar ws (n_v vs 4) 7)) (w_ei w1 (w_ar ws (n_v vs 4) 8)) (w_fi w1 (n_v vs 4) 1) (w_fi ws (n_v vs 4) 1) (w_ei ws (w_ar ws (n_v vs 0) 10)) (w_ei ws (w_ar ws (n_v vs 4) 7)) (w_ei ws (w_ar ws (n_v vs 4) 8)) k1 k6 k8 k9 k11 k12 k13 k14 k15 k16 k17 k18 d0 d1 d2 d3 d4 d5 d6 d7 d8 d9 d10 f1 f7 f8 h9 h10 f11 f12 f13 f14 h15 f16 f17 f18 fe_4_1_1 hE_0_10_1 hK_0_10 hE_4_7_1 hK_4_7 hE_4_8_1 hK_4_8 kz_4_1
  refine ⟨(fun _ h => (by cases h)), [], trivial, ?_, (fun _ h => (by cases h))⟩
  rw [List.append_nil]
  exact List.forall_mem_cons.mpr ⟨⟨show (20 : Nat) < 100 from by decide, nf0⟩, List.forall_mem_cons.mpr ⟨⟨show (20 : Nat) < 100 from by decide, nf1⟩, (fun _ h => (by cases h))⟩⟩
set_option maxHeartbeats 4000000 in
theorem vc_Fa_numberStrong_at_Faloop_6_0 (x1 : Int) (x6 : Int) (x8 : Int) (x9 : Int) (reach_0 : Int → Int) (a2_0 : Int → Int) (tail_0o4 : Int → Int) (head_0o4 : Int → Int) (edges_0o4 : Int) (k1 : 0 ≤ x1 ∧ x1 ≤ 24) (k6 : 0 ≤ x6 ∧ x6 ≤ 24) (k8 : 0 ≤ x8 ∧ x8 ≤ 24) (k9 : 0 ≤ x9 ∧ x9 ≤ 24) (d0 : x6 + 0 ≤ x9 ∧ x9 ≤ x6 + 4294967296) (d1 : x6 + (-4294967296) ≤ x1 ∧ x1 ≤ x6 + 0) (d2 : x1 + (-4294967296) ≤ x6 ∧ x6 ≤ x1 + 0) (d3 : x1 + (-4294967296) ≤ x8 ∧ x8 ≤ x1 + 0) (d4 : x6 + (-4294967296) ≤ x8 ∧ x8 ≤ x6 + 0) (d5 : x9 + (-4294967296) ≤ x8 ∧ x8 ≤ x9 + 0) (d6 : x1 + (-4294967296) ≤ x9 ∧ x9 ≤ x1 + 0) (d7 : x6 + (-4294967296) ≤ x9 ∧ x9 ≤ x6 + 0) (f1 : x1 ≤ x9) (f2 : WKn (reach_0) (x1) (x1)) (f3 : NBA (reach_0) (a2_0) (x1) (x9) (x8)) (f5 : ERC (edges_0o4) (reach_0) (tail_0o4) (head_0o4)) (hK_0_10 : ∀ j : Int, 0 ≤ j → j < 24 → 0 ≤ reach_0 j ∧ reach_0 j ≤ 16777215) (hK_2_999 : ∀ j : Int, 0 ≤ j → j < 24 → (-1) ≤ a2_0 j ∧ a2_0 j ≤ 24) (hK_4_7 : ∀ j : Int, 0 ≤ j → j < 48 → 0 ≤ tail_0o4 j ∧ tail_0o4 j ≤ 23) (hK_4_8 : ∀ j : Int, 0 ≤ j → j < 48 → 0 ≤ head_0o4 j ∧ head_0o4 j ≤ 23) (kz_4_1 : 0 ≤ edges_0o4 ∧ edges_0o4 ≤ 48) : WKn (reach_0) (x1) (x1) := by
  first
    | assumption
    | exact wkn_start (by omega)
    | exact wkn_cut ‹WKn _ _ _› (by omega)
    | exact wkn_next ‹WIn _ _ _ _› (by omega) (by omega) (by omega)
  
set_option maxHeartbeats 4000000 in
theorem vc_Fa_numberStrong_at_Faloop_6_1 (x1 : Int) (x6 : Int) (x8 : Int) (x9 : Int) (reach_0 : Int → Int) (a2_0 : Int → Int) (tail_0o4 : Int → Int) (head_0o4 : Int → Int) (edges_0o4 : Int) (k1 : 0 ≤ x1 ∧ x1 ≤ 24) (k6 : 0 ≤ x6 ∧ x6 ≤ 24) (k8 : 0 ≤ x8 ∧ x8 ≤ 24) (k9 : 0 ≤ x9 ∧ x9 ≤ 24) (d0 : x6 + 0 ≤ x9 ∧ x9 ≤ x6 + 4294967296) (d1 : x6 + (-4294967296) ≤ x1 ∧ x1 ≤ x6 + 0) (d2 : x1 + (-4294967296) ≤ x6 ∧ x6 ≤ x1 + 0) (d3 : x1 + (-4294967296) ≤ x8 ∧ x8 ≤ x1 + 0) (d4 : x6 + (-4294967296) ≤ x8 ∧ x8 ≤ x6 + 0) (d5 : x9 + (-4294967296) ≤ x8 ∧ x8 ≤ x9 + 0) (d6 : x1 + (-4294967296) ≤ x9 ∧ x9 ≤ x1 + 0) (d7 : x6 + (-4294967296) ≤ x9 ∧ x9 ≤ x6 + 0) (f1 : x1 ≤ x9) (f2 : WKn (reach_0) (x1) (x1)) (f3 : NBA (reach_0) (a2_0) (x1) (x9) (x8)) (f5 : ERC (edges_0o4) (reach_0) (tail_0o4) (head_0o4)) (hK_0_10 : ∀ j : Int, 0 ≤ j → j < 24 → 0 ≤ reach_0 j ∧ reach_0 j ≤ 16777215) (hK_2_999 : ∀ j : Int, 0 ≤ j → j < 24 → (-1) ≤ a2_0 j ∧ a2_0 j ≤ 24) (hK_4_7 : ∀ j : Int, 0 ≤ j → j < 48 → 0 ≤ tail_0o4 j ∧ tail_0o4 j ≤ 23) (hK_4_8 : ∀ j : Int, 0 ≤ j → j < 48 → 0 ≤ head_0o4 j ∧ head_0o4 j ≤ 23) (kz_4_1 : 0 ≤ edges_0o4 ∧ edges_0o4 ≤ 48) : NBQ (reach_0) (a2_0) (x1) := by
  first
    | exact nbp_of ‹NBA _ _ _ _ _› (by omega)
  
set_option maxHeartbeats 4000000 in
theorem vc_Fa_numberStrong_at_Faloop_6_2 (x1 : Int) (x6 : Int) (x8 : Int) (x9 : Int) (reach_0 : Int → Int) (a2_0 : Int → Int) (tail_0o4 : Int → Int) (head_0o4 : Int → Int) (edges_0o4 : Int) (k1 : 0 ≤ x1 ∧ x1 ≤ 24) (k6 : 0 ≤ x6 ∧ x6 ≤ 24) (k8 : 0 ≤ x8 ∧ x8 ≤ 24) (k9 : 0 ≤ x9 ∧ x9 ≤ 24) (d0 : x6 + 0 ≤ x9 ∧ x9 ≤ x6 + 4294967296) (d1 : x6 + (-4294967296) ≤ x1 ∧ x1 ≤ x6 + 0) (d2 : x1 + (-4294967296) ≤ x6 ∧ x6 ≤ x1 + 0) (d3 : x1 + (-4294967296) ≤ x8 ∧ x8 ≤ x1 + 0) (d4 : x6 + (-4294967296) ≤ x8 ∧ x8 ≤ x6 + 0) (d5 : x9 + (-4294967296) ≤ x8 ∧ x8 ≤ x9 + 0) (d6 : x1 + (-4294967296) ≤ x9 ∧ x9 ≤ x1 + 0) (d7 : x6 + (-4294967296) ≤ x9 ∧ x9 ≤ x6 + 0) (f1 : x1 ≤ x9) (f2 : WKn (reach_0) (x1) (x1)) (f3 : NBA (reach_0) (a2_0) (x1) (x9) (x8)) (f5 : ERC (edges_0o4) (reach_0) (tail_0o4) (head_0o4)) (hK_0_10 : ∀ j : Int, 0 ≤ j → j < 24 → 0 ≤ reach_0 j ∧ reach_0 j ≤ 16777215) (hK_2_999 : ∀ j : Int, 0 ≤ j → j < 24 → (-1) ≤ a2_0 j ∧ a2_0 j ≤ 24) (hK_4_7 : ∀ j : Int, 0 ≤ j → j < 48 → 0 ≤ tail_0o4 j ∧ tail_0o4 j ≤ 23) (hK_4_8 : ∀ j : Int, 0 ≤ j → j < 48 → 0 ≤ head_0o4 j ∧ head_0o4 j ≤ 23) (kz_4_1 : 0 ≤ edges_0o4 ∧ edges_0o4 ≤ 48) : NBR (a2_0) (x1) (x8) := by
  first
    | exact nbr_of ‹NBA _ _ _ _ _› (by omega) rfl
  
set_option maxHeartbeats 4000000 in
theorem vc_Fa_numberStrong_at_Faloop_6_3 (x1 : Int) (x6 : Int) (x8 : Int) (x9 : Int) (reach_0 : Int → Int) (a2_0 : Int → Int) (tail_0o4 : Int → Int) (head_0o4 : Int → Int) (edges_0o4 : Int) (k1 : 0 ≤ x1 ∧ x1 ≤ 24) (k6 : 0 ≤ x6 ∧ x6 ≤ 24) (k8 : 0 ≤ x8 ∧ x8 ≤ 24) (k9 : 0 ≤ x9 ∧ x9 ≤ 24) (d0 : x6 + 0 ≤ x9 ∧ x9 ≤ x6 + 4294967296) (d1 : x6 + (-4294967296) ≤ x1 ∧ x1 ≤ x6 + 0) (d2 : x1 + (-4294967296) ≤ x6 ∧ x6 ≤ x1 + 0) (d3 : x1 + (-4294967296) ≤ x8 ∧ x8 ≤ x1 + 0) (d4 : x6 + (-4294967296) ≤ x8 ∧ x8 ≤ x6 + 0) (d5 : x9 + (-4294967296) ≤ x8 ∧ x8 ≤ x9 + 0) (d6 : x1 + (-4294967296) ≤ x9 ∧ x9 ≤ x1 + 0) (d7 : x6 + (-4294967296) ≤ x9 ∧ x9 ≤ x6 + 0) (f1 : x1 ≤ x9) (f2 : WKn (reach_0) (x1) (x1)) (f3 : NBA (reach_0) (a2_0) (x1) (x9) (x8)) (f5 : ERC (edges_0o4) (reach_0) (tail_0o4) (head_0o4)) (hK_0_10 : ∀ j : Int, 0 ≤ j → j < 24 → 0 ≤ reach_0 j ∧ reach_0 j ≤ 16777215) (hK_2_999 : ∀ j : Int, 0 ≤ j → j < 24 → (-1) ≤ a2_0 j ∧ a2_0 j ≤ 24) (hK_4_7 : ∀ j : Int, 0 ≤ j → j < 48 → 0 ≤ tail_0o4 j ∧ tail_0o4 j ≤ 23) (hK_4_8 : ∀ j : Int, 0 ≤ j → j < 48 → 0 ≤ head_0o4 j ∧ head_0o4 j ≤ 23) (kz_4_1 : 0 ≤ edges_0o4 ∧ edges_0o4 ≤ 48) : ERC (edges_0o4) (reach_0) (tail_0o4) (head_0o4) := by
  first
    | assumption
    | exact erc_or (p := x9) (x := x17) (y := x16) (z := x15) ‹ERC _ _ _ _› (by assumption) (by assumption) hE_0_10_1 (fun e a b => (hK_4_7 e a (by omega)).1)
  
def o_Fa_numberStrong_at_Faloop_6 : or_T := (150, 11, [(0, (2, 0, 0, [2])), (1, (0, 0, 24, [])), (2, (2, 0, 0, [44])), (4, (2, 0, 0, [3])), (6, (0, 0, 24, [])), (8, (0, 0, 24, [])), (9, (0, 0, 24, []))], [(9, [10, 5], [10]), (7, [9, 6], [3]), (20, [5, 6, 6], [60, 0, 1, 717, 10]), (20, [10, 7, 6, 9, 8], [61, 2, 721]), (24, [3, 10], []), (20, [5, 4], [60, 1, 3, 719, 1001, 10, 1007, 1008]), (24, [0, 5], []), (24, [1, 6], []), (24, [2, 7], [])], [], [], [(20, [0, 1, 1], [60, 0, 1, 717, 10]), (20, [3, 2, 1], [61, 2, 723]), (20, [2, 1, 8], [61, 1, 724]), (20, [0, 4], [60, 1, 3, 719, 1001, 10, 1007, 1008])], [], [(9, 6, 0, 4294967296), (1, 6, -4294967296, 0), (6, 1, -4294967296, 0), (8, 1, -4294967296, 0), (8, 6, -4294967296, 0), (8, 9, -4294967296, 0), (9, 1, -4294967296, 0), (9, 6, -4294967296, 0)])
theorem oo_Fa_numberStrong_at_Faloop_6 {kA : Nat → ClassId} : or_ok PRD kA GG o_Fa_numberStrong_at_Faloop_6 := by
  refine or_mk fun A ta ws vs hD hth hl => ?_
  intro t0 r0 t1 k1 t2 r2 t4 r4 t6 k6 t8 k8 t9 k9 d0 d1 d2 d3 d4 d5 d6 d7 f0 f1 f2 f3 f4 f5 f6 f7 f8
  replace f0 := shm_114 f0
  replace f1 := shm_2 f1
  replace f2 := shm_799 f2
  replace f3 := shm_800 f3
  replace f4 := shm_5 f4
  replace f5 := shm_797 f5
  replace f6 := shm_5 f6
  replace f7 := shm_5 f7
  replace f8 := shm_5 f8
  have q10 : n_v vs 10 = n_v vs 3 := f4.symm
  have q5 : n_v vs 5 = n_v vs 0 := f6.symm
  have q6 : n_v vs 6 = n_v vs 1 := f7.symm
  have q7 : n_v vs 7 = n_v vs 2 := f8.symm
  simp only [q10, q5, q6, q7] at f0 f1 f2 f3 f5
  have cr_0_10 := fdq_201 hD hth r0
  have cr_2_999 : ta (v_ad (n_v vs 2)) = some 44 := r2
  have cr_4_7 := fdq_52 hD hth r4
  have cr_4_8 := fdq_53 hD hth r4
  have ad_3 : v_ad (n_v vs 3) = w_ar ws (n_v vs 0) 10 := congrArg v_ad f0
  simp only [ad_3] at f3
  have hK_0_10 := elq_117 hD hth cr_0_10
  have hK_2_999 := elq_22 hD hth cr_2_999
  have hK_4_7 := elq_10 hD hth cr_4_7
  have hK_4_8 := elq_11 hD hth cr_4_8
  have kz_4_1 := fdq_38 hD hth r4
  have nf0 : fc_1 PRD (20, [0, 1, 1], [60, 0, 1, 717, 10]) ws (vs) := ⟨nf_in hl rfl, sgq_799 (vc_Fa_numberStrong_at_Faloop_6_0 (v_iv (n_v vs 1)) (v_iv (n_v vs 6)) (v_iv (n_v vs 8)) (v_iv (n_v vs 9)) (w_ei ws (w_ar ws (n_v vs 0) 10)) (w_ei ws (v_ad (n_v vs 2))) (w_ei ws (w_ar ws (n_v vs 4) 7)) (w_ei ws (w_ar ws (n_v vs 4) 8)) (w_fi ws (n_v vs 4) 1) k1 k6 k8 k9 d0 d1 d2 d3 d4 d5 d6 d7 f1 f2 f3 f5 hK_0_10 hK_2_999 hK_4_7 hK_4_8 kz_4_1)⟩
  have nf1 : fc_1 PRD (20, [3, 2, 1], [61, 2, 723]) ws (vs) := by
    refine ⟨nf_in hl rfl, sgq_802 ?_⟩
    · show NBQ (w_ei ws (v_ad (n_v vs 3))) (w_ei ws (v_ad (n_v vs 2))) (v_iv (n_v vs 1))
      rw [ad_3]
      exact vc_Fa_numberStrong_at_Faloop_6_1 (v_iv (n_v vs 1)) (v_iv (n_v vs 6)) (v_iv (n_v vs 8)) (v_iv (n_v vs 9)) (w_ei ws (w_ar ws (n_v vs 0) 10)) (w_ei ws (v_ad (n_v vs 2))) (w_ei ws (w_ar ws (n_v vs 4) 7)) (w_ei ws (w_ar ws (n_v vs 4) 8)) (w_fi ws (n_v vs 4) 1) k1 k6 k8 k9 d0 d1 d2 d3 d4 d5 d6 d7 f1 f2 f3 f5 hK_0_10 hK_2_999 hK_4_7 hK_4_8 kz_4_1
  have nf2 : fc_1 PRD (20, [2, 1, 8], [61, 1, 724]) ws (vs) := ⟨nf_in hl rfl, sgq_803 (vc_Fa_numberStrong_at_Faloop_6_2 (v_iv (n_v vs 1)) (v_iv (n_v vs 6)) (v_iv (n_v vs 8)) (v_iv (n_v vs 9)) (w_ei ws (w_ar ws (n_v vs 0) 10)) (w_ei ws (v_ad (n_v vs 2))) (w_ei ws (w_ar ws (n_v vs 4) 7)) (w_ei ws (w_ar ws (n_v vs 4) 8)) (w_fi ws (n_v vs 4) 1) k1 k6 k8 k9 d0 d1 d2 d3 d4 d5 d6 d7 f1 f2 f3 f5 hK_0_10 hK_2_999 hK_4_7 hK_4_8 kz_4_1)⟩
  have nf3 : fc_1 PRD (20, [0, 4], [60, 1, 3, 719, 1001, 10, 1007, 1008]) ws (vs) := ⟨nf_in hl rfl, sgq_797 (vc_Fa_numberStrong_at_Faloop_6_3 (v_iv (n_v vs 1)) (v_iv (n_v vs 6)) (v_iv (n_v vs 8)) (v_iv (n_v vs 9)) (w_ei ws (w_ar ws (n_v vs 0) 10)) (w_ei ws (v_ad (n_v vs 2))) (w_ei ws (w_ar ws (n_v vs 4) 7)) (w_ei ws (w_ar ws (n_v vs 4) 8)) (w_fi ws (n_v vs 4) 1) k1 k6 k8 k9 d0 d1 d2 d3 d4 d5 d6 d7 f1 f2 f3 f5 hK_0_10 hK_2_999 hK_4_7 hK_4_8 kz_4_1)⟩
  refine ⟨(fun _ h => (by cases h)), [], trivial, ?_, (fun _ h => (by cases h))⟩
  rw [List.append_nil]
  exact List.forall_mem_cons.mpr ⟨⟨show (20 : Nat) < 100 from by decide, nf0⟩, List.forall_mem_cons.mpr ⟨⟨show (20 : Nat) < 100 from by decide, nf1⟩, List.forall_mem_cons.mpr ⟨⟨show (20 : Nat) < 100 from by decide, nf2⟩, List.forall_mem_cons.mpr ⟨⟨show (20 : Nat) < 100 from by decide, nf3⟩, (fun _ h => (by cases h))⟩⟩⟩⟩
set_option maxHeartbeats 4000000 in
theorem vc_Fa_numberStrong_at_Faloop_7_0 (x1 : Int) (x6 : Int) (x8 : Int) (x9 : Int) (x11 : Int) (x12 : Int) (x13 : Int) (a2_0 : Int → Int) (reach_0 : Int → Int) (tail_0o4 : Int → Int) (head_0o4 : Int → Int) (edges_0o4 : Int) (k1 : 1 ≤ x1 ∧ x1 ≤ 24) (k6 : 1 ≤ x6 ∧ x6 ≤ 24) (k8 : 0 ≤ x8 ∧ x8 ≤ 23) (k9 : 0 ≤ x9 ∧ x9 ≤ 23) (k11 : 0 ≤ x11 ∧ x11 ≤ 24) (k12 : (-1) ≤ x12 ∧ x12 ≤ (-1)) (k13 : 1 ≤ x13 ∧ x13 ≤ 24) (d0 : x9 + 1 ≤ x13 ∧ x13 ≤ x9 + 1) (d1 : x6 + (-4294967296) ≤ x13 ∧ x13 ≤ x6 + 0) (d2 : x1 + (-4294967296) ≤ x13 ∧ x13 ≤ x1 + 1) (d3 : x6 + (-4294967296) ≤ x13 ∧ x13 ≤ x6 + 1) (d4 : x6 + (-4294967296) ≤ x9 ∧ x9 ≤ x6 + (-1)) (d5 : x6 + (-4294967296) ≤ x1 ∧ x1 ≤ x6 + 0) (d6 : x1 + (-4294967296) ≤ x6 ∧ x6 ≤ x1 + 0) (d7 : x1 + (-4294967296) ≤ x8 ∧ x8 ≤ x1 + 0) (d8 : x6 + (-4294967296) ≤ x8 ∧ x8 ≤ x6 + 0) (d9 : x9 + (-4294967296) ≤ x8 ∧ x8 ≤ x9 + 0) (d10 : x1 + (-4294967296) ≤ x9 ∧ x9 ≤ x1 + 0) (d11 : x6 + (-4294967296) ≤ x9 ∧ x9 ≤ x6 + 0) (f1 : x13 = x9 + 1) (f2 : x11 ≠ x12) (h3 : x11 = a2_0 (x9)) (f4 : x9 < x1) (f5 : WKn (reach_0) (x1) (x1)) (f6 : NBA (reach_0) (a2_0) (x1) (x9) (x8)) (f8 : ERC (edges_0o4) (reach_0) (tail_0o4) (head_0o4)) (hK_0_10 : ∀ j : Int, 0 ≤ j → j < 24 → 0 ≤ reach_0 j ∧ reach_0 j ≤ 16777215) (hK_2_999 : ∀ j : Int, 0 ≤ j → j < 24 → (-1) ≤ a2_0 j ∧ a2_0 j ≤ 24) (hK_4_7 : ∀ j : Int, 0 ≤ j → j < 48 → 0 ≤ tail_0o4 j ∧ tail_0o4 j ≤ 23) (hK_4_8 : ∀ j : Int, 0 ≤ j → j < 48 → 0 ≤ head_0o4 j ∧ head_0o4 j ≤ 23) (kz_4_1 : 0 ≤ edges_0o4 ∧ edges_0o4 ≤ 48) : NBA (reach_0) (a2_0) (x1) (x13) (x8) := by
  first
    | assumption
    | exact nbi_start (by omega) (by omega) (fun v a b => by have q := hT7 v a (by omega); omega)
    | exact nbi_skip ‹NBA _ _ _ _ _› (by omega) (by omega)
    | exact nbi_next ‹NBB _ _ _ _ _ _› (by omega) (by omega) ‹WKn _ _ _› (by omega) (by omega)
  
def o_Fa_numberStrong_at_Faloop_7 : or_T := (68, 14, [(0, (2, 0, 0, [2])), (1, (0, 1, 24, [])), (2, (2, 0, 0, [44])), (3, (2, 0, 0, [43])), (4, (2, 0, 0, [3])), (5, (2, 0, 0, [2])), (6, (0, 1, 24, [])), (7, (2, 0, 0, [44])), (8, (0, 0, 23, [])), (9, (0, 0, 23, [])), (10, (2, 0, 0, [43])), (11, (0, 0, 24, [])), (12, (0, -1, -1, [])), (13, (0, 1, 24, []))], [(9, [10, 5], [10]), (6, [13, 9], [1]), (7, [11, 12], [1]), (10, [11, 7, 9], []), (7, [9, 6], [2]), (20, [5, 6, 6], [60, 0, 1, 717, 10]), (20, [10, 7, 6, 9, 8], [61, 2, 721]), (24, [3, 10], []), (20, [5, 4], [60, 1, 3, 719, 1001, 10, 1007, 1008]), (24, [0, 5], []), (24, [1, 6], []), (24, [2, 7], [])], [], [], [(20, [10, 7, 6, 13, 8], [61, 2, 721])], [], [(13, 9, 1, 1), (13, 6, -4294967296, 0), (13, 1, -4294967296, 1), (13, 6, -4294967296, 1), (9, 6, -4294967296, -1), (1, 6, -4294967296, 0), (6, 1, -4294967296, 0), (8, 1, -4294967296, 0), (8, 6, -4294967296, 0), (8, 9, -4294967296, 0), (9, 1, -4294967296, 0), (9, 6, -4294967296, 0)])
theorem oo_Fa_numberStrong_at_Faloop_7 {kA : Nat → ClassId} : or_ok PRD kA GG o_Fa_numberStrong_at_Faloop_7 := by
  refine or_mk fun A ta ws vs hD hth hl => ?_
  intro t0 r0 t1 k1 t2 r2 t3 r3 t4 r4 t5 r5 t6 k6 t7 r7 t8 k8 t9 k9 t10 r10 t11 k11 t12 k12 t13 k13 d0 d1 d2 d3 d4 d5 d6 d7 d8 d9 d10 d11 f0 f1 f2 f3 f4 f5 f6 f7 f8 f9 f10 f11
  replace f0 := shm_114 f0
  replace f1 := shm_4 f1
  replace f2 := shm_40 f2
  replace f3 := shm_106 f3
  replace f4 := shm_6 f4
  replace f5 := shm_799 f5
  replace f6 := shm_800 f6
  replace f7 := shm_5 f7
  replace f8 := shm_797 f8
  replace f9 := shm_5 f9
  replace f10 := shm_5 f10
  replace f11 := shm_5 f11
  have q10 : n_v vs 10 = n_v vs 3 := f7.symm
  have q5 : n_v vs 5 = n_v vs 0 := f9.symm
  have q6 : n_v vs 6 = n_v vs 1 := f10.symm
  have q7 : n_v vs 7 = n_v vs 2 := f11.symm
  simp only [q10, q5, q7, q6] at f0 f3 f4 f5 f6 f8
  have cr_0_10 := fdq_201 hD hth r0
  have cr_2_999 : ta (v_ad (n_v vs 2)) = some 44 := r2
  have cr_4_7 := fdq_52 hD hth r4
  have cr_4_8 := fdq_53 hD hth r4
  have ad_3 : v_ad (n_v vs 3) = w_ar ws (n_v vs 0) 10 := congrArg v_ad f0
  have h3 : v_iv (n_v vs 11) = w_ei ws (v_ad (n_v vs 2)) (v_iv (n_v vs 9)) := f3
  simp only [ad_3] at f6
  have hK_0_10 := elq_117 hD hth cr_0_10
  have hK_2_999 := elq_22 hD hth cr_2_999
  have hK_4_7 := elq_10 hD hth cr_4_7
  have hK_4_8 := elq_11 hD hth cr_4_8
  have kz_4_1 := fdq_38 hD hth r4
  have nf0 : fc_1 PRD (20, [10, 7, 6, 13, 8], [61, 2, 721]) ws (vs) := by
    refine ⟨nf_in hl rfl, sgq_800 ?_⟩
    · show NBA (w_ei ws (v_ad (n_v vs 10))) (w_ei ws (v_ad (n_v vs 7))) (v_iv (n_v vs 6)) (v_iv (n_v vs 13)) (v_iv (n_v vs 8))
      simp only [q10, q6, q7, ad_3]
      exact vc_Fa_numberStrong_at_Faloop_7_0 (v_iv (n_v vs 1)) (v_iv (n_v vs 6)) (v_iv (n_v vs 8)) (v_iv (n_v vs 9)) (v_iv (n_v vs 11)) (v_iv (n_v vs 12)) (v_iv (n_v vs 13)) (w_ei ws (v_ad (n_v vs 2))) (w_ei ws (w_ar ws (n_v vs 0) 10)) (w_ei ws (w_ar ws (n_v vs 4) 7)) (w_ei ws (w_ar ws (n_v vs 4) 8)) (w_fi ws (n_v vs 4) 1) k1 k6 k8 k9 k11 k12 k13 d0 d1 d2 d3 d4 d5 d6 d7 d8 d9 d10 d11 f1 f2 h3 f4 f5 f6 f8 hK_0_10 hK_2_999 hK_4_7 hK_4_8 kz_4_1
  refine ⟨(fun _ h => (by cases h)), [], trivial, ?_, (fun _ h => (by cases h))⟩
  rw [List.append_nil]
  exact List.forall_mem_cons.mpr ⟨⟨show (20 : Nat) < 100 from by decide, nf0⟩, (fun _ h => (by cases h))⟩
set_option maxHeartbeats 4000000 in
theorem vc_Fa_numberStrong_at_Faloop_8_0 (x1 : Int) (x6 : Int) (x8 : Int) (x9 : Int) (x11 : Int) (x12 : Int) (x13 : Int) (x14 : Int) (reach_0 : Int → Int) (tail_0o4 : Int → Int) (head_0o4 : Int → Int) (edges_0o4 : Int) (a2_1 : Int → Int) (reach_1 : Int → Int) (tail_1o4 : Int → Int) (head_1o4 : Int → Int) (edges_1o4 : Int) (a2_0 : Int → Int) (k1 : 1 ≤ x1 ∧ x1 ≤ 24) (k6 : 1 ≤ x6 ∧ x6 ≤ 24) (k8 : 0 ≤ x8 ∧ x8 ≤ 23) (k9 : 0 ≤ x9 ∧ x9 ≤ 23) (k11 : (-1) ≤ x11 ∧ x11 ≤ (-1)) (k12 : (-1) ≤ x12 ∧ x12 ≤ (-1)) (k13 : 1 ≤ x13 ∧ x13 ≤ 1) (k14 : 1 ≤ x14 ∧ x14 ≤ 24) (d0 : x9 + 1 ≤ x14 ∧ x14 ≤ x9 + 1) (d1 : x6 + (-4294967296) ≤ x14 ∧ x14 ≤ x6 + 0) (d2 : x1 + (-4294967296) ≤ x14 ∧ x14 ≤ x1 + 1) (d3 : x6 + (-4294967296) ≤ x14 ∧ x14 ≤ x6 + 1) (d4 : x6 + (-4294967296) ≤ x9 ∧ x9 ≤ x6 + (-1)) (d5 : x6 + (-4294967296) ≤ x1 ∧ x1 ≤ x6 + 0) (d6 : x1 + (-4294967296) ≤ x6 ∧ x6 ≤ x1 + 0) (d7 : x1 + (-4294967296) ≤ x8 ∧ x8 ≤ x1 + 0) (d8 : x6 + (-4294967296) ≤ x8 ∧ x8 ≤ x6 + 0) (d9 : x9 + (-4294967296) ≤ x8 ∧ x8 ≤ x9 + 0) (d10 : x1 + (-4294967296) ≤ x9 ∧ x9 ≤ x1 + 0) (d11 : x6 + (-4294967296) ≤ x9 ∧ x9 ≤ x6 + 0) (f1 : x14 = x9 + x13) (f2 : WKn (reach_0) (x1) (x1)) (f4 : ERC (edges_0o4) (reach_0) (tail_0o4) (head_0o4)) (f9 : x11 = x12) (h10 : x11 = a2_1 (x9)) (f11 : x9 < x1) (f12 : WKn (reach_1) (x1) (x1)) (f13 : NBA (reach_1) (a2_1) (x1) (x9) (x8)) (f14 : ERC (edges_1o4) (reach_1) (tail_1o4) (head_1o4)) (fe_4_1_1 : edges_0o4 = edges_1o4) (hE_0_10_1 : ∀ j : Int, reach_0 j = reach_1 j) (hK_0_10 : ∀ j : Int, 0 ≤ j → j < 24 → 0 ≤ reach_0 j ∧ reach_0 j ≤ 16777215) (hE_2_999_1 : ∀ j : Int, 0 ≤ j → (j = x9 → a2_0 j = x8) ∧ (j ≠ x9 → a2_0 j = a2_1 j)) (hK_2_999 : ∀ j : Int, 0 ≤ j → j < 24 → (-1) ≤ a2_0 j ∧ a2_0 j ≤ 24) (hE_4_7_1 : ∀ j : Int, tail_0o4 j = tail_1o4 j) (hK_4_7 : ∀ j : Int, 0 ≤ j → j < 48 → 0 ≤ tail_0o4 j ∧ tail_0o4 j ≤ 23) (hE_4_8_1 : ∀ j : Int, head_0o4 j = head_1o4 j) (hK_4_8 : ∀ j : Int, 0 ≤ j → j < 48 → 0 ≤ head_0o4 j ∧ head_0o4 j ≤ 23) (kz_4_1 : 0 ≤ edges_0o4 ∧ edges_0o4 ≤ 48) : NBB (reach_0) (a2_0) (x1) (x9) (x14) (x8) := by
  subst fe_4_1_1
  have e_hE_0_10_1 := funext hE_0_10_1; subst e_hE_0_10_1
  have e_hE_4_7_1 := funext hE_4_7_1; subst e_hE_4_7_1
  have e_hE_4_8_1 := funext hE_4_8_1; subst e_hE_4_8_1
  first
    | assumption
    | exact nbj_start (p := x9) (x := x8) ‹NBA _ _ _ _ _› (by omega) (by omega) hE_2_999_1 rfl rfl (by omega)
    | exact nbj_skip ‹NBB _ _ _ _ _ _› (fun q => by have b := (bit_one2 (s := x12) (t := x13) (c := x15) (v := x10) (one := x14) (by assumption) (by assumption) (by assumption) (by omega) (by omega) (by omega) (by omega)).1 q.1; omega) (by omega)
    | exact nbj_skip ‹NBB _ _ _ _ _ _› (fun q => by have b := (bit_one2 (s := x16) (t := x17) (c := x19) (v := x9) (one := x18) (by assumption) (by assumption) (by assumption) (by omega) (by omega) (by omega) (by omega)).1 q.2; omega) (by omega)
    | exact nbj_step (p := x10) (x := x8) ‹NBB _ _ _ _ _ _› ⟨(bit_one2 (s := x12) (t := x13) (c := x15) (v := x10) (one := x14) (by assumption) (by assumption) (by assumption) (by omega) (by omega) (by omega) (by omega)).2 (by omega), (bit_one2 (s := x16) (t := x17) (c := x19) (v := x9) (one := x18) (by assumption) (by assumption) (by assumption) (by omega) (by omega) (by omega) (by omega)).2 (by omega)⟩ hE_2_999_1 rfl rfl (by omega)
  
def o_Fa_numberStrong_at_Faloop_8 : or_T := (93, 15, [(0, (2, 0, 0, [2])), (1, (0, 1, 24, [])), (2, (2, 0, 0, [44])), (4, (2, 0, 0, [3])), (6, (0, 1, 24, [])), (8, (0, 0, 23, [])), (9, (0, 0, 23, [])), (11, (0, -1, -1, [])), (12, (0, -1, -1, [])), (13, (0, 1, 1, [])), (14, (0, 1, 24, []))], [(9, [10, 5], [10]), (1, [14, 9, 13], []), (20, [5, 6, 6], [60, 0, 1, 717, 10]), (24, [3, 10], []), (20, [5, 4], [60, 1, 3, 719, 1001, 10, 1007, 1008]), (24, [0, 5], []), (24, [1, 6], []), (24, [2, 7], []), (100, [7, 9, 8], []), (7, [11, 12], [0]), (10, [11, 7, 9], []), (7, [9, 6], [2]), (20, [5, 6, 6], [60, 0, 1, 717, 10]), (20, [10, 7, 6, 9, 8], [61, 2, 721]), (20, [5, 4], [60, 1, 3, 719, 1001, 10, 1007, 1008])], [], [], [(20, [10, 7, 6, 9, 14, 8], [61, 2, 722])], [], [(14, 9, 1, 1), (14, 6, -4294967296, 0), (14, 1, -4294967296, 1), (14, 6, -4294967296, 1), (9, 6, -4294967296, -1), (1, 6, -4294967296, 0), (6, 1, -4294967296, 0), (8, 1, -4294967296, 0), (8, 6, -4294967296, 0), (8, 9, -4294967296, 0), (9, 1, -4294967296, 0), (9, 6, -4294967296, 0)])
theorem oo_Fa_numberStrong_at_Faloop_8 {kA : Nat → ClassId} : or_ok PRD kA GG o_Fa_numberStrong_at_Faloop_8 := by
  refine or_mk fun A ta ws vs hD hth hl => ?_
  intro t0 r0 t1 k1 t2 r2 t4 r4 t6 k6 t8 k8 t9 k9 t11 k11 t12 k12 t13 k13 t14 k14 d0 d1 d2 d3 d4 d5 d6 d7 d8 d9 d10 d11 f0 f1 f2 f3 f4 f5 f6 f7 ta1 w1 le1 s1 f9 f10 f11 f12 f13 f14
  replace f0 := shm_114 f0
  replace f1 := shm_12 f1
  replace f2 := shm_799 f2
  replace f3 := shm_5 f3
  replace f4 := shm_797 f4
  replace f5 := shm_5 f5
  replace f6 := shm_5 f6
  replace f7 := shm_5 f7
  have s1 : (∀ b j, w_el ws b j = if b = v_ad (n_v vs 7) ∧ j = (v_iv (n_v vs 9)).toNat then v_iv (n_v vs 8) else w_el w1 b j) ∧ ∀ b k, w_fd ws b k = w_fd w1 b k := s1.2
  replace f9 := shm_37 f9
  replace f10 := shm_106 f10
  replace f11 := shm_6 f11
  replace f12 := shm_799 f12
  replace f13 := shm_800 f13
  replace f14 := shm_797 f14
  have q10 : n_v vs 10 = n_v vs 3 := f3.symm
  have q5 : n_v vs 5 = n_v vs 0 := f5.symm
  have q6 : n_v vs 6 = n_v vs 1 := f6.symm
  have q7 : n_v vs 7 = n_v vs 2 := f7.symm
  simp only [q10, q5, q6] at f0 f2 f4
  rw [q7] at s1
  simp only [q7, q6, q5, q10] at f10 f11 f12 f13 f14
  have ar_0_10_1 : w_ar w1 (n_v vs 0) 10 = w_ar ws (n_v vs 0) 10 := congrArg v_ad (s1.2 _ _).symm
  have cr_0_10 := fdq_201 hD hth r0
  have cr_2_999 : ta (v_ad (n_v vs 2)) = some 44 := r2
  have ar_4_7_1 : w_ar w1 (n_v vs 4) 7 = w_ar ws (n_v vs 4) 7 := congrArg v_ad (s1.2 _ _).symm
  have cr_4_7 := fdq_52 hD hth r4
  have ar_4_8_1 : w_ar w1 (n_v vs 4) 8 = w_ar ws (n_v vs 4) 8 := congrArg v_ad (s1.2 _ _).symm
  have cr_4_8 := fdq_53 hD hth r4
  have ad_3 : v_ad (n_v vs 3) = w_ar ws (n_v vs 0) 10 := congrArg v_ad f0
  have ad_2 : v_ad (n_v vs 2) = v_ad (n_v vs 2) := rfl
  have h10 : v_iv (n_v vs 11) = w_ei w1 (v_ad (n_v vs 2)) (v_iv (n_v vs 9)) := f10
  simp only [ar_0_10_1, ad_3, ar_4_7_1, ar_4_8_1] at f12 f13 f14
  have fe_4_1_1 : w_fi ws (n_v vs 4) 1 = w_fi w1 (n_v vs 4) 1 := congrArg v_iv (s1.2 _ _)
  have hE_0_10_1 : ∀ j : Int, w_ei ws (w_ar ws (n_v vs 0) 10) j = w_ei w1 (w_ar ws (n_v vs 0) 10) j := el_kp s1.1 r2 cr_0_10 (by decide)
  have hK_0_10 := elq_117 hD hth cr_0_10
  have hE_2_999_1 : ∀ j : Int, 0 ≤ j → (j = v_iv (n_v vs 9) → w_ei ws (v_ad (n_v vs 2)) j = v_iv (n_v vs 8)) ∧ (j ≠ v_iv (n_v vs 9) → w_ei ws (v_ad (n_v vs 2)) j = w_ei w1 (v_ad (n_v vs 2)) j) := fun j hj => ⟨fun h => by unfold w_ei; rw [s1.1, if_pos ⟨ad_2.symm, by rw [h]⟩], fun h => by unfold w_ei; rw [s1.1, if_neg (fun e => h (by have := e.2; omega))]⟩
  have hK_2_999 := elq_22 hD hth cr_2_999
  have hE_4_7_1 : ∀ j : Int, w_ei ws (w_ar ws (n_v vs 4) 7) j = w_ei w1 (w_ar ws (n_v vs 4) 7) j := el_kp s1.1 r2 cr_4_7 (by decide)
  have hK_4_7 := elq_10 hD hth cr_4_7
  have hE_4_8_1 : ∀ j : Int, w_ei ws (w_ar ws (n_v vs 4) 8) j = w_ei w1 (w_ar ws (n_v vs 4) 8) j := el_kp s1.1 r2 cr_4_8 (by decide)
  have hK_4_8 := elq_11 hD hth cr_4_8
  have kz_4_1 := fdq_38 hD hth r4
  have nf0 : fc_1 PRD (20, [10, 7, 6, 9, 14, 8], [61, 2, 722]) ws (vs) := by
    refine ⟨nf_in hl rfl, sgq_804 ?_⟩
    · show NBB (w_ei ws (v_ad (n_v vs 10))) (w_ei ws (v_ad (n_v vs 7))) (v_iv (n_v vs 6)) (v_iv (n_v vs 9)) (v_iv (n_v vs 14)) (v_iv (n_v vs 8))
      simp only [q10, q6, q7, ad_3]
      exact vc_Fa_numberStrong_at_Faloop_8_0 (v_iv (n_v vs 1)) (v_iv (n_v vs 6)) (v_iv (n_v vs 8)) (v_iv (n_v vs 9)) (v_iv (n_v vs 11)) (v_iv (n_v vs 12)) (v_iv (n_v vs 13)) (v_iv (n_v vs 14)) (w_ei ws (w_ar ws (n_v vs 0) 10)) (w_ei ws (w_ar ws (n_v vs 4) 7)) (w_ei ws (w_ar ws (n_v vs 4) 8)) (w_fi ws (n_v vs 4) 1) (w_ei w1 (v_ad (n_v vs 2))) (w_ei w1 (w_ar ws (n_v vs 0) 10)) (w_ei w1 (w_ar ws (n_v vs 4) 7)) (w_ei w1 (w_ar ws (n_v vs 4) 8)) (w_fi w1 (n_v vs 4) 1) (w_ei ws (v_ad (n_v vs 2))) k1 k6 k8 k9 k11 k12 k13 k14 d0 d1 d2 d3 d4 d5 d6 d7 d8 d9 d10 d11 f1 f2 f4 f9 h10 f11 f12 f13 f14 fe_4_1_1 hE_0_10_1 hK_0_10 hE_2_999_1 hK_2_999 hE_4_7_1 hK_4_7 hE_4_8_1 hK_4_8 kz_4_1
  refine ⟨(fun _ h => (by cases h)), [], trivial, ?_, (fun _ h => (by cases h))⟩
  rw [List.append_nil]
  exact List.forall_mem_cons.mpr ⟨⟨show (20 : Nat) < 100 from by decide, nf0⟩, (fun _ h => (by cases h))⟩
set_option maxHeartbeats 4000000 in
theorem vc_Fa_numberStrong_at_Faloop_9_0 (x1 : Int) (x6 : Int) (x8 : Int) (x9 : Int) (x10 : Int) (x12 : Int) (x13 : Int) (reach_0 : Int → Int) (a2_0 : Int → Int) (tail_0o4 : Int → Int) (head_0o4 : Int → Int) (edges_0o4 : Int) (k1 : 1 ≤ x1 ∧ x1 ≤ 24) (k6 : 1 ≤ x6 ∧ x6 ≤ 24) (k8 : 0 ≤ x8 ∧ x8 ≤ 23) (k9 : 0 ≤ x9 ∧ x9 ≤ 23) (k10 : 1 ≤ x10 ∧ x10 ≤ 24) (k12 : 1 ≤ x12 ∧ x12 ≤ 24) (k13 : 1 ≤ x13 ∧ x13 ≤ 24) (d0 : x9 + 1 ≤ x13 ∧ x13 ≤ x9 + 1) (d1 : x1 + (-4294967296) ≤ x13 ∧ x13 ≤ x1 + 0) (d2 : x6 + (-4294967296) ≤ x13 ∧ x13 ≤ x6 + 0) (d3 : x10 + (-4294967296) ≤ x13 ∧ x13 ≤ x10 + 0) (d4 : x8 + 1 ≤ x12 ∧ x12 ≤ x8 + 1) (d5 : x1 + (-4294967296) ≤ x12 ∧ x12 ≤ x1 + 1) (d6 : x6 + (-4294967296) ≤ x12 ∧ x12 ≤ x6 + 0) (d7 : x9 + (-4294967296) ≤ x12 ∧ x12 ≤ x9 + 1) (d8 : x10 + (-4294967296) ≤ x12 ∧ x12 ≤ x10 + 0) (d9 : x6 + 0 ≤ x10 ∧ x10 ≤ x6 + 4294967296) (d10 : x6 + (-4294967296) ≤ x1 ∧ x1 ≤ x6 + 0) (d11 : x1 + (-4294967296) ≤ x6 ∧ x6 ≤ x1 + 0) (d12 : x1 + (-4294967296) ≤ x8 ∧ x8 ≤ x1 + 0) (d13 : x6 + (-4294967296) ≤ x8 ∧ x8 ≤ x6 + (-1)) (d14 : x9 + (-4294967296) ≤ x8 ∧ x8 ≤ x9 + 0) (d15 : x10 + (-4294967296) ≤ x8 ∧ x8 ≤ x10 + (-1)) (d16 : x1 + (-4294967296) ≤ x9 ∧ x9 ≤ x1 + (-1)) (d17 : x6 + (-4294967296) ≤ x9 ∧ x9 ≤ x6 + (-1)) (d18 : x10 + (-4294967296) ≤ x9 ∧ x9 ≤ x10 + (-1)) (d19 : x1 + (-4294967296) ≤ x10 ∧ x10 ≤ x1 + 0) (d20 : x6 + (-4294967296) ≤ x10 ∧ x10 ≤ x6 + 0) (f1 : x13 = x9 + 1) (f2 : x12 = x8 + 1) (f3 : x1 ≤ x10) (f4 : WKn (reach_0) (x1) (x1)) (f5 : NBB (reach_0) (a2_0) (x1) (x9) (x10) (x8)) (f7 : ERC (edges_0o4) (reach_0) (tail_0o4) (head_0o4)) (hK_0_10 : ∀ j : Int, 0 ≤ j → j < 24 → 0 ≤ reach_0 j ∧ reach_0 j ≤ 16777215) (hK_2_999 : ∀ j : Int, 0 ≤ j → j < 24 → (-1) ≤ a2_0 j ∧ a2_0 j ≤ 24) (hK_4_7 : ∀ j : Int, 0 ≤ j → j < 48 → 0 ≤ tail_0o4 j ∧ tail_0o4 j ≤ 23) (hK_4_8 : ∀ j : Int, 0 ≤ j → j < 48 → 0 ≤ head_0o4 j ∧ head_0o4 j ≤ 23) (kz_4_1 : 0 ≤ edges_0o4 ∧ edges_0o4 ≤ 48) : NBA (reach_0) (a2_0) (x1) (x13) (x12) := by
  first
    | assumption
    | exact nbi_start (by omega) (by omega) (fun v a b => by have q := hT7 v a (by omega); omega)
    | exact nbi_skip ‹NBA _ _ _ _ _› (by omega) (by omega)
    | exact nbi_next ‹NBB _ _ _ _ _ _› (by omega) (by omega) ‹WKn _ _ _› (by omega) (by omega)
  
def o_Fa_numberStrong_at_Faloop_9 : or_T := (68, 14, [(0, (2, 0, 0, [2])), (1, (0, 1, 24, [])), (2, (2, 0, 0, [44])), (3, (2, 0, 0, [43])), (4, (2, 0, 0, [3])), (5, (2, 0, 0, [2])), (6, (0, 1, 24, [])), (7, (2, 0, 0, [44])), (8, (0, 0, 23, [])), (9, (0, 0, 23, [])), (10, (0, 1, 24, [])), (11, (2, 0, 0, [43])), (12, (0, 1, 24, [])), (13, (0, 1, 24, []))], [(9, [11, 5], [10]), (6, [13, 9], [1]), (6, [12, 8], [1]), (7, [10, 6], [3]), (20, [5, 6, 6], [60, 0, 1, 717, 10]), (20, [11, 7, 6, 9, 10, 8], [61, 2, 722]), (24, [3, 11], []), (20, [5, 4], [60, 1, 3, 719, 1001, 10, 1007, 1008]), (24, [0, 5], []), (24, [1, 6], []), (24, [2, 7], [])], [], [], [(20, [11, 7, 6, 13, 12], [61, 2, 721])], [], [(13, 9, 1, 1), (13, 1, -4294967296, 0), (13, 6, -4294967296, 0), (13, 10, -4294967296, 0), (12, 8, 1, 1), (12, 1, -4294967296, 1), (12, 6, -4294967296, 0), (12, 9, -4294967296, 1), (12, 10, -4294967296, 0), (10, 6, 0, 4294967296), (1, 6, -4294967296, 0), (6, 1, -4294967296, 0), (8, 1, -4294967296, 0), (8, 6, -4294967296, -1), (8, 9, -4294967296, 0), (8, 10, -4294967296, -1), (9, 1, -4294967296, -1), (9, 6, -4294967296, -1), (9, 10, -4294967296, -1), (10, 1, -4294967296, 0), (10, 6, -4294967296, 0)])
theorem oo_Fa_numberStrong_at_Faloop_9 {kA : Nat → ClassId} : or_ok PRD kA GG o_Fa_numberStrong_at_Faloop_9 := by
  refine or_mk fun A ta ws vs hD hth hl => ?_
  intro t0 r0 t1 k1 t2 r2 t3 r3 t4 r4 t5 r5 t6 k6 t7 r7 t8 k8 t9 k9 t10 k10 t11 r11 t12 k12 t13 k13 d0 d1 d2 d3 d4 d5 d6 d7 d8 d9 d10 d11 d12 d13 d14 d15 d16 d17 d18 d19 d20 f0 f1 f2 f3 f4 f5 f6 f7 f8 f9 f10
  replace f0 := shm_114 f0
  replace f1 := shm_4 f1
  replace f2 := shm_4 f2
  replace f3 := shm_2 f3
  replace f4 := shm_799 f4
  replace f5 := shm_804 f5
  replace f6 := shm_5 f6
  replace f7 := shm_797 f7
  replace f8 := shm_5 f8
  replace f9 := shm_5 f9
  replace f10 := shm_5 f10
  have q11 : n_v vs 11 = n_v vs 3 := f6.symm
  have q5 : n_v vs 5 = n_v vs 0 := f8.symm
  have q6 : n_v vs 6 = n_v vs 1 := f9.symm
  have q7 : n_v vs 7 = n_v vs 2 := f10.symm
  simp only [q11, q5, q6, q7] at f0 f3 f4 f5 f7
  have cr_0_10 := fdq_201 hD hth r0
  have cr_2_999 : ta (v_ad (n_v vs 2)) = some 44 := r2
  have cr_4_7 := fdq_52 hD hth r4
  have cr_4_8 := fdq_53 hD hth r4
  have ad_3 : v_ad (n_v vs 3) = w_ar ws (n_v vs 0) 10 := congrArg v_ad f0
  simp only [ad_3] at f5
  have hK_0_10 := elq_117 hD hth cr_0_10
  have hK_2_999 := elq_22 hD hth cr_2_999
  have hK_4_7 := elq_10 hD hth cr_4_7
  have hK_4_8 := elq_11 hD hth cr_4_8
  have kz_4_1 := fdq_38 hD hth r4
  have nf0 : fc_1 PRD (20, [11, 7, 6, 13, 12], [61, 2, 721]) ws (vs) := by
    refine ⟨nf_in hl rfl, sgq_800 ?_⟩
    · show NBA (w_ei ws (v_ad (n_v vs 11))) (w_ei ws (v_ad (n_v vs 7))) (v_iv (n_v vs 6)) (v_iv (n_v vs 13)) (v_iv (n_v vs 12))
      simp only [q11, q6, q7, ad_3]
      exact vc_Fa_numberStrong_at_Faloop_9_0 (v_iv (n_v vs 1)) (v_iv (n_v vs 6)) (v_iv (n_v vs 8)) (v_iv (n_v vs 9)) (v_iv (n_v vs 10)) (v_iv (n_v vs 12)) (v_iv (n_v vs 13)) (w_ei ws (w_ar ws (n_v vs 0) 10)) (w_ei ws (v_ad (n_v vs 2))) (w_ei ws (w_ar ws (n_v vs 4) 7)) (w_ei ws (w_ar ws (n_v vs 4) 8)) (w_fi ws (n_v vs 4) 1) k1 k6 k8 k9 k10 k12 k13 d0 d1 d2 d3 d4 d5 d6 d7 d8 d9 d10 d11 d12 d13 d14 d15 d16 d17 d18 d19 d20 f1 f2 f3 f4 f5 f7 hK_0_10 hK_2_999 hK_4_7 hK_4_8 kz_4_1
  refine ⟨(fun _ h => (by cases h)), [], trivial, ?_, (fun _ h => (by cases h))⟩
  rw [List.append_nil]
  exact List.forall_mem_cons.mpr ⟨⟨show (20 : Nat) < 100 from by decide, nf0⟩, (fun _ h => (by cases h))⟩
set_option maxHeartbeats 4000000 in
theorem vc_Fa_numberStrong_at_Faloop_10_0 (x1 : Int) (x6 : Int) (x8 : Int) (x9 : Int) (x10 : Int) (x12 : Int) (x13 : Int) (x14 : Int) (x15 : Int) (x16 : Int) (reach_0 : Int → Int) (a2_0 : Int → Int) (tail_0o4 : Int → Int) (head_0o4 : Int → Int) (edges_0o4 : Int) (k1 : 2 ≤ x1 ∧ x1 ≤ 24) (k6 : 2 ≤ x6 ∧ x6 ≤ 24) (k8 : 0 ≤ x8 ∧ x8 ≤ 22) (k9 : 0 ≤ x9 ∧ x9 ≤ 22) (k10 : 1 ≤ x10 ∧ x10 ≤ 23) (k12 : 0 ≤ x12 ∧ x12 ≤ 16777215) (k13 : 0 ≤ x13 ∧ x13 ≤ 8388607) (k14 : 1 ≤ x14 ∧ x14 ≤ 1) (k15 : 0 ≤ x15 ∧ x15 ≤ 0) (k16 : 2 ≤ x16 ∧ x16 ≤ 24) (d0 : x10 + 1 ≤ x16 ∧ x16 ≤ x10 + 1) (d1 : x6 + (-4294967296) ≤ x16 ∧ x16 ≤ x6 + 0) (d2 : x1 + (-4294967296) ≤ x16 ∧ x16 ≤ x1 + 1) (d3 : x6 + (-4294967296) ≤ x16 ∧ x16 ≤ x6 + 1) (d4 : x6 + (-4294967296) ≤ x10 ∧ x10 ≤ x6 + (-1)) (d5 : x6 + (-4294967296) ≤ x1 ∧ x1 ≤ x6 + 0) (d6 : x1 + (-4294967296) ≤ x6 ∧ x6 ≤ x1 + 0) (d7 : x1 + (-4294967296) ≤ x8 ∧ x8 ≤ x1 + 0) (d8 : x6 + (-4294967296) ≤ x8 ∧ x8 ≤ x6 + (-1)) (d9 : x9 + (-4294967296) ≤ x8 ∧ x8 ≤ x9 + 0) (d10 : x10 + (-4294967296) ≤ x8 ∧ x8 ≤ x10 + (-1)) (d11 : x1 + (-4294967296) ≤ x9 ∧ x9 ≤ x1 + (-1)) (d12 : x6 + (-4294967296) ≤ x9 ∧ x9 ≤ x6 + (-1)) (d13 : x10 + (-4294967296) ≤ x9 ∧ x9 ≤ x10 + (-1)) (d14 : x1 + (-4294967296) ≤ x10 ∧ x10 ≤ x1 + 0) (d15 : x6 + (-4294967296) ≤ x10 ∧ x10 ≤ x6 + 0) (f0 : x16 = x10 + 1) (f1 : x15 = 0) (f2 : x15 = x13 % 2) (f3 : bvp (x15) = bvp (x13) &&& bvp (x14)) (f4 : bvp (x13) = bvp (x12) >>> (x10).toNat) (h5 : x12 = reach_0 (x9)) (f7 : x10 < x1) (f8 : WKn (reach_0) (x1) (x1)) (f9 : NBB (reach_0) (a2_0) (x1) (x9) (x10) (x8)) (f11 : ERC (edges_0o4) (reach_0) (tail_0o4) (head_0o4)) (hK_0_10 : ∀ j : Int, 0 ≤ j → j < 24 → 0 ≤ reach_0 j ∧ reach_0 j ≤ 16777215) (hK_2_999 : ∀ j : Int, 0 ≤ j → j < 24 → (-1) ≤ a2_0 j ∧ a2_0 j ≤ 24) (hK_4_7 : ∀ j : Int, 0 ≤ j → j < 48 → 0 ≤ tail_0o4 j ∧ tail_0o4 j ≤ 23) (hK_4_8 : ∀ j : Int, 0 ≤ j → j < 48 → 0 ≤ head_0o4 j ∧ head_0o4 j ≤ 23) (kz_4_1 : 0 ≤ edges_0o4 ∧ edges_0o4 ≤ 48) : NBB (reach_0) (a2_0) (x1) (x9) (x16) (x8) := by
  first
    | assumption
    | exact nbj_start (p := x9) (x := x8) ‹NBA _ _ _ _ _› (by omega) (by omega) hE_2_999_1 rfl rfl (by omega)
    | exact nbj_skip ‹NBB _ _ _ _ _ _› (fun q => by have b := (bit_one2 (s := x12) (t := x13) (c := x15) (v := x10) (one := x14) (by assumption) (by assumption) (by assumption) (by omega) (by omega) (by omega) (by omega)).1 q.1; omega) (by omega)
    | exact nbj_skip ‹NBB _ _ _ _ _ _› (fun q => by have b := (bit_one2 (s := x16) (t := x17) (c := x19) (v := x9) (one := x18) (by assumption) (by assumption) (by assumption) (by omega) (by omega) (by omega) (by omega)).1 q.2; omega) (by omega)
    | exact nbj_step (p := x10) (x := x8) ‹NBB _ _ _ _ _ _› ⟨(bit_one2 (s := x12) (t := x13) (c := x15) (v := x10) (one := x14) (by assumption) (by assumption) (by assumption) (by omega) (by omega) (by omega) (by omega)).2 (by omega), (bit_one2 (s := x16) (t := x17) (c := x19) (v := x9) (one := x18) (by assumption) (by assumption) (by assumption) (by omega) (by omega) (by omega) (by omega)).2 (by omega)⟩ hE_2_999_1 rfl rfl (by omega)
  
def o_Fa_numberStrong_at_Faloop_10 : or_T := (93, 17, [(0, (2, 0, 0, [2])), (1, (0, 2, 24, [])), (2, (2, 0, 0, [44])), (4, (2, 0, 0, [3])), (6, (0, 2, 24, [])), (8, (0, 0, 22, [])), (9, (0, 0, 22, [])), (10, (0, 1, 23, [])), (12, (0, 0, 16777215, [])), (13, (0, 0, 8388607, [])), (14, (0, 1, 1, [])), (15, (0, 0, 0, [])), (16, (0, 2, 24, []))], [(6, [16, 10], [1]), (8, [15], [0]), (12, [15, 13], [2]), (16, [15, 13, 14], [0]), (16, [13, 12, 10], [4]), (10, [12, 11, 9], []), (9, [11, 5], [10]), (7, [10, 6], [2]), (20, [5, 6, 6], [60, 0, 1, 717, 10]), (20, [11, 7, 6, 9, 10, 8], [61, 2, 722]), (24, [3, 11], []), (20, [5, 4], [60, 1, 3, 719, 1001, 10, 1007, 1008]), (24, [0, 5], []), (24, [1, 6], []), (24, [2, 7], [])], [], [], [(20, [11, 7, 6, 9, 16, 8], [61, 2, 722])], [], [(16, 10, 1, 1), (16, 6, -4294967296, 0), (16, 1, -4294967296, 1), (16, 6, -4294967296, 1), (10, 6, -4294967296, -1), (1, 6, -4294967296, 0), (6, 1, -4294967296, 0), (8, 1, -4294967296, 0), (8, 6, -4294967296, -1), (8, 9, -4294967296, 0), (8, 10, -4294967296, -1), (9, 1, -4294967296, -1), (9, 6, -4294967296, -1), (9, 10, -4294967296, -1), (10, 1, -4294967296, 0), (10, 6, -4294967296, 0)])
theorem oo_Fa_numberStrong_at_Faloop_10 {kA : Nat → ClassId} : or_ok PRD kA GG o_Fa_numberStrong_at_Faloop_10 := by
  refine or_mk fun A ta ws vs hD hth hl => ?_
  intro t0 r0 t1 k1 t2 r2 t4 r4 t6 k6 t8 k8 t9 k9 t10 k10 t12 k12 t13 k13 t14 k14 t15 k15 t16 k16 d0 d1 d2 d3 d4 d5 d6 d7 d8 d9 d10 d11 d12 d13 d14 d15 f0 f1 f2 f3 f4 f5 f6 f7 f8 f9 f10 f11 f12 f13 f14
  replace f0 := shm_4 f0
  replace f1 := shm_210 f1
  replace f2 := shm_382 f2
  replace f3 := shm_11 f3
  replace f4 := shm_13 f4
  replace f5 := shm_106 f5
  replace f6 := shm_114 f6
  replace f7 := shm_6 f7
  replace f8 := shm_799 f8
  replace f9 := shm_804 f9
  replace f10 := shm_5 f10
  replace f11 := shm_797 f11
  replace f12 := shm_5 f12
  replace f13 := shm_5 f13
  replace f14 := shm_5 f14
  have q11 : n_v vs 11 = n_v vs 3 := f10.symm
  have q5 : n_v vs 5 = n_v vs 0 := f12.symm
  have q6 : n_v vs 6 = n_v vs 1 := f13.symm
  have q7 : n_v vs 7 = n_v vs 2 := f14.symm
  simp only [q11, q5, q6, q7] at f5 f6 f7 f8 f9 f11
  have cr_0_10 := fdq_201 hD hth r0
  have cr_2_999 : ta (v_ad (n_v vs 2)) = some 44 := r2
  have cr_4_7 := fdq_52 hD hth r4
  have cr_4_8 := fdq_53 hD hth r4
  have ad_3 : v_ad (n_v vs 3) = w_ar ws (n_v vs 0) 10 := congrArg v_ad f6
  simp only [ad_3] at f5
  have h5 : v_iv (n_v vs 12) = w_ei ws (w_ar ws (n_v vs 0) 10) (v_iv (n_v vs 9)) := f5
  simp only [ad_3] at f9
  have hK_0_10 := elq_117 hD hth cr_0_10
  have hK_2_999 := elq_22 hD hth cr_2_999
  have hK_4_7 := elq_10 hD hth cr_4_7
  have hK_4_8 := elq_11 hD hth cr_4_8
  have kz_4_1 := fdq_38 hD hth r4
  have nf0 : fc_1 PRD (20, [11, 7, 6, 9, 16, 8], [61, 2, 722]) ws (vs) := by
    refine ⟨nf_in hl rfl, sgq_804 ?_⟩
    · show NBB (w_ei ws (v_ad (n_v vs 11))) (w_ei ws (v_ad (n_v vs 7))) (v_iv (n_v vs 6)) (v_iv (n_v vs 9)) (v_iv (n_v vs 16)) (v_iv (n_v vs 8))
      simp only [q11, q6, q7, ad_3]
      exact vc_Fa_numberStrong_at_Faloop_10_0 (v_iv (n_v vs 1)) (v_iv (n_v vs 6)) (v_iv (n_v vs 8)) (v_iv (n_v vs 9)) (v_iv (n_v vs 10)) (v_iv (n_v vs 12)) (v_iv (n_v vs 13)) (v_iv (n_v vs 14)) (v_iv (n_v vs 15)) (v_iv (n_v vs 16)) (w_ei ws (w_ar ws (n_v vs 0) 10)) (w_ei ws (v_ad (n_v vs 2))) (w_ei ws (w_ar ws (n_v vs 4) 7)) (w_ei ws (w_ar ws (n_v vs 4) 8)) (w_fi ws (n_v vs 4) 1) k1 k6 k8 k9 k10 k12 k13 k14 k15 k16 d0 d1 d2 d3 d4 d5 d6 d7 d8 d9 d10 d11 d12 d13 d14 d15 f0 f1 f2 f3 f4 h5 f7 f8 f9 f11 hK_0_10 hK_2_999 hK_4_7 hK_4_8 kz_4_1
  refine ⟨(fun _ h => (by cases h)), [], trivial, ?_, (fun _ h => (by cases h))⟩
  rw [List.append_nil]
  exact List.forall_mem_cons.mpr ⟨⟨show (20 : Nat) < 100 from by decide, nf0⟩, (fun _ h => (by cases h))⟩
set_option maxHeartbeats 4000000 in
theorem vc_Fa_numberStrong_at_Faloop_11_0 (x1 : Int) (x6 : Int) (x8 : Int) (x9 : Int) (x10 : Int) (x12 : Int) (x13 : Int) (x14 : Int) (x15 : Int) (x16 : Int) (x17 : Int) (x18 : Int) (x19 : Int) (x20 : Int) (reach_0 : Int → Int) (a2_0 : Int → Int) (tail_0o4 : Int → Int) (head_0o4 : Int → Int) (edges_0o4 : Int) (k1 : 2 ≤ x1 ∧ x1 ≤ 24) (k6 : 2 ≤ x6 ∧ x6 ≤ 24) (k8 : 0 ≤ x8 ∧ x8 ≤ 22) (k9 : 0 ≤ x9 ∧ x9 ≤ 22) (k10 : 1 ≤ x10 ∧ x10 ≤ 23) (k12 : 0 ≤ x12 ∧ x12 ≤ 16777215) (k13 : 0 ≤ x13 ∧ x13 ≤ 8388607) (k14 : 1 ≤ x14 ∧ x14 ≤ 1) (k15 : 1 ≤ x15 ∧ x15 ≤ 1) (k16 : 0 ≤ x16 ∧ x16 ≤ 16777215) (k17 : 0 ≤ x17 ∧ x17 ≤ 16777215) (k18 : 1 ≤ x18 ∧ x18 ≤ 1) (k19 : 0 ≤ x19 ∧ x19 ≤ 0) (k20 : 2 ≤ x20 ∧ x20 ≤ 24) (d0 : x10 + 1 ≤ x20 ∧ x20 ≤ x10 + 1) (d1 : x6 + (-4294967296) ≤ x20 ∧ x20 ≤ x6 + 0) (d2 : x1 + (-4294967296) ≤ x20 ∧ x20 ≤ x1 + 1) (d3 : x6 + (-4294967296) ≤ x20 ∧ x20 ≤ x6 + 1) (d4 : x6 + (-4294967296) ≤ x10 ∧ x10 ≤ x6 + (-1)) (d5 : x6 + (-4294967296) ≤ x1 ∧ x1 ≤ x6 + 0) (d6 : x1 + (-4294967296) ≤ x6 ∧ x6 ≤ x1 + 0) (d7 : x1 + (-4294967296) ≤ x8 ∧ x8 ≤ x1 + 0) (d8 : x6 + (-4294967296) ≤ x8 ∧ x8 ≤ x6 + (-1)) (d9 : x9 + (-4294967296) ≤ x8 ∧ x8 ≤ x9 + 0) (d10 : x10 + (-4294967296) ≤ x8 ∧ x8 ≤ x10 + (-1)) (d11 : x1 + (-4294967296) ≤ x9 ∧ x9 ≤ x1 + (-1)) (d12 : x6 + (-4294967296) ≤ x9 ∧ x9 ≤ x6 + (-1)) (d13 : x10 + (-4294967296) ≤ x9 ∧ x9 ≤ x10 + (-1)) (d14 : x1 + (-4294967296) ≤ x10 ∧ x10 ≤ x1 + 0) (d15 : x6 + (-4294967296) ≤ x10 ∧ x10 ≤ x6 + 0) (f0 : x20 = x10 + 1) (f1 : x19 = 0) (f2 : x19 = x17 % 2) (f3 : bvp (x19) = bvp (x17) &&& bvp (x18)) (f4 : bvp (x17) = bvp (x16) >>> (x9).toNat) (h5 : x16 = reach_0 (x10)) (f7 : x15 ≠ 0) (f8 : x15 = x13 % 2) (f9 : bvp (x15) = bvp (x13) &&& bvp (x14)) (f10 : bvp (x13) = bvp (x12) >>> (x10).toNat) (h11 : x12 = reach_0 (x9)) (f12 : x10 < x1) (f13 : WKn (reach_0) (x1) (x1)) (f14 : NBB (reach_0) (a2_0) (x1) (x9) (x10) (x8)) (f16 : ERC (edges_0o4) (reach_0) (tail_0o4) (head_0o4)) (hK_0_10 : ∀ j : Int, 0 ≤ j → j < 24 → 0 ≤ reach_0 j ∧ reach_0 j ≤ 16777215) (hK_2_999 : ∀ j : Int, 0 ≤ j → j < 24 → (-1) ≤ a2_0 j ∧ a2_0 j ≤ 24) (hK_4_7 : ∀ j : Int, 0 ≤ j → j < 48 → 0 ≤ tail_0o4 j ∧ tail_0o4 j ≤ 23) (hK_4_8 : ∀ j : Int, 0 ≤ j → j < 48 → 0 ≤ head_0o4 j ∧ head_0o4 j ≤ 23) (kz_4_1 : 0 ≤ edges_0o4 ∧ edges_0o4 ≤ 48) : NBB (reach_0) (a2_0) (x1) (x9) (x20) (x8) := by
  first
    | assumption
    | exact nbj_start (p := x9) (x := x8) ‹NBA _ _ _ _ _› (by omega) (by omega) hE_2_999_1 rfl rfl (by omega)
    | exact nbj_skip ‹NBB _ _ _ _ _ _› (fun q => by have b := (bit_one2 (s := x12) (t := x13) (c := x15) (v := x10) (one := x14) (by assumption) (by assumption) (by assumption) (by omega) (by omega) (by omega) (by omega)).1 q.1; omega) (by omega)
    | exact nbj_skip ‹NBB _ _ _ _ _ _› (fun q => by have b := (bit_one2 (s := x16) (t := x17) (c := x19) (v := x9) (one := x18) (by assumption) (by assumption) (by assumption) (by omega) (by omega) (by omega) (by omega)).1 q.2; omega) (by omega)
    | exact nbj_step (p := x10) (x := x8) ‹NBB _ _ _ _ _ _› ⟨(bit_one2 (s := x12) (t := x13) (c := x15) (v := x10) (one := x14) (by assumption) (by assumption) (by assumption) (by omega) (by omega) (by omega) (by omega)).2 (by omega), (bit_one2 (s := x16) (t := x17) (c := x19) (v := x9) (one := x18) (by assumption) (by assumption) (by assumption) (by omega) (by omega) (by omega) (by omega)).2 (by omega)⟩ hE_2_999_1 rfl rfl (by omega)
  
def o_Fa_numberStrong_at_Faloop_11 : or_T := (93, 21, [(0, (2, 0, 0, [2])), (1, (0, 2, 24, [])), (2, (2, 0, 0, [44])), (3, (2, 0, 0, [43])), (4, (2, 0, 0, [3])), (5, (2, 0, 0, [2])), (6, (0, 2, 24, [])), (7, (2, 0, 0, [44])), (8, (0, 0, 22, [])), (9, (0, 0, 22, [])), (10, (0, 1, 23, [])), (11, (2, 0, 0, [43])), (12, (0, 0, 16777215, [])), (13, (0, 0, 8388607, [])), (14, (0, 1, 1, [])), (15, (0, 1, 1, [])), (16, (0, 0, 16777215, [])), (17, (0, 0, 16777215, [])), (18, (0, 1, 1, [])), (19, (0, 0, 0, [])), (20, (0, 2, 24, []))], [(6, [20, 10], [1]), (8, [19], [0]), (12, [19, 17], [2]), (16, [19, 17, 18], [0]), (16, [17, 16, 9], [4]), (10, [16, 11, 10], []), (9, [11, 5], [10]), (8, [15], [1]), (12, [15, 13], [2]), (16, [15, 13, 14], [0]), (16, [13, 12, 10], [4]), (10, [12, 11, 9], []), (7, [10, 6], [2]), (20, [5, 6, 6], [60, 0, 1, 717, 10]), (20, [11, 7, 6, 9, 10, 8], [61, 2, 722]), (24, [3, 11], []), (20, [5, 4], [60, 1, 3, 719, 1001, 10, 1007, 1008]), (24, [0, 5], []), (24, [1, 6], []), (24, [2, 7], [])], [], [], [(20, [11, 7, 6, 9, 20, 8], [61, 2, 722])], [], [(20, 10, 1, 1), (20, 6, -4294967296, 0), (20, 1, -4294967296, 1), (20, 6, -4294967296, 1), (10, 6, -4294967296, -1), (1, 6, -4294967296, 0), (6, 1, -4294967296, 0), (8, 1, -4294967296, 0), (8, 6, -4294967296, -1), (8, 9, -4294967296, 0), (8, 10, -4294967296, -1), (9, 1, -4294967296, -1), (9, 6, -4294967296, -1), (9, 10, -4294967296, -1), (10, 1, -4294967296, 0), (10, 6, -4294967296, 0)])
theorem oo_Fa_numberStrong_at_Faloop_11 {kA : Nat → ClassId} : or_ok PRD kA GG o_Fa_numberStrong_at_Faloop_11 := by
  refine or_mk fun A ta ws vs hD hth hl => ?_
  intro t0 r0 t1 k1 t2 r2 t3 r3 t4 r4 t5 r5 t6 k6 t7 r7 t8 k8 t9 k9 t10 k10 t11 r11 t12 k12 t13 k13 t14 k14 t15 k15 t16 k16 t17 k17 t18 k18 t19 k19 t20 k20 d0 d1 d2 d3 d4 d5 d6 d7 d8 d9 d10 d11 d12 d13 d14 d15 f0 f1 f2 f3 f4 f5 f6 f7 f8 f9 f10 f11 f12 f13 f14 f15 f16 f17 f18 f19
  replace f0 := shm_4 f0
  replace f1 := shm_210 f1
  replace f2 := shm_382 f2
  replace f3 := shm_11 f3
  replace f4 := shm_13 f4
  replace f5 := shm_106 f5
  replace f6 := shm_114 f6
  replace f7 := shm_154 f7
  replace f8 := shm_382 f8
  replace f9 := shm_11 f9
  replace f10 := shm_13 f10
  replace f11 := shm_106 f11
  replace f12 := shm_6 f12
  replace f13 := shm_799 f13
  replace f14 := shm_804 f14
  replace f15 := shm_5 f15
  replace f16 := shm_797 f16
  replace f17 := shm_5 f17
  replace f18 := shm_5 f18
  replace f19 := shm_5 f19
  have q11 : n_v vs 11 = n_v vs 3 := f15.symm
  have q5 : n_v vs 5 = n_v vs 0 := f17.symm
  have q6 : n_v vs 6 = n_v vs 1 := f18.symm
  have q7 : n_v vs 7 = n_v vs 2 := f19.symm
  simp only [q11, q5, q6, q7] at f5 f6 f11 f12 f13 f14 f16
  have cr_0_10 := fdq_201 hD hth r0
  have cr_2_999 : ta (v_ad (n_v vs 2)) = some 44 := r2
  have cr_4_7 := fdq_52 hD hth r4
  have cr_4_8 := fdq_53 hD hth r4
  have ad_3 : v_ad (n_v vs 3) = w_ar ws (n_v vs 0) 10 := congrArg v_ad f6
  simp only [ad_3] at f5
  have h5 : v_iv (n_v vs 16) = w_ei ws (w_ar ws (n_v vs 0) 10) (v_iv (n_v vs 10)) := f5
  simp only [ad_3] at f11
  have h11 : v_iv (n_v vs 12) = w_ei ws (w_ar ws (n_v vs 0) 10) (v_iv (n_v vs 9)) := f11
  simp only [ad_3] at f14
  have hK_0_10 := elq_117 hD hth cr_0_10
  have hK_2_999 := elq_22 hD hth cr_2_999
  have hK_4_7 := elq_10 hD hth cr_4_7
  have hK_4_8 := elq_11 hD hth cr_4_8
  have kz_4_1 := fdq_38 hD hth r4
  have nf0 : fc_1 PRD (20, [11, 7, 6, 9, 20, 8], [61, 2, 722]) ws (vs) := by
    refine ⟨nf_in hl rfl, sgq_804 ?_⟩
    · show NBB (w_ei ws (v_ad (n_v vs 11))) (w_ei ws (v_ad (n_v vs 7))) (v_iv (n_v vs 6)) (v_iv (n_v vs 9)) (v_iv (n_v vs 20)) (v_iv (n_v vs 8))
      simp only [q11, q6, q7, ad_3]
      exact vc_Fa_numberStrong_at_Faloop_11_0 (v_iv (n_v vs 1)) (v_iv (n_v vs 6)) (v_iv (n_v vs 8)) (v_iv (n_v vs 9)) (v_iv (n_v vs 10)) (v_iv (n_v vs 12)) (v_iv (n_v vs 13)) (v_iv (n_v vs 14)) (v_iv (n_v vs 15)) (v_iv (n_v vs 16)) (v_iv (n_v vs 17)) (v_iv (n_v vs 18)) (v_iv (n_v vs 19)) (v_iv (n_v vs 20)) (w_ei ws (w_ar ws (n_v vs 0) 10)) (w_ei ws (v_ad (n_v vs 2))) (w_ei ws (w_ar ws (n_v vs 4) 7)) (w_ei ws (w_ar ws (n_v vs 4) 8)) (w_fi ws (n_v vs 4) 1) k1 k6 k8 k9 k10 k12 k13 k14 k15 k16 k17 k18 k19 k20 d0 d1 d2 d3 d4 d5 d6 d7 d8 d9 d10 d11 d12 d13 d14 d15 f0 f1 f2 f3 f4 h5 f7 f8 f9 f10 h11 f12 f13 f14 f16 hK_0_10 hK_2_999 hK_4_7 hK_4_8 kz_4_1
  refine ⟨(fun _ h => (by cases h)), [], trivial, ?_, (fun _ h => (by cases h))⟩
  rw [List.append_nil]
  exact List.forall_mem_cons.mpr ⟨⟨show (20 : Nat) < 100 from by decide, nf0⟩, (fun _ h => (by cases h))⟩
set_option maxHeartbeats 4000000 in
theorem vc_Fa_numberStrong_at_Faloop_12_0 (x1 : Int) (x6 : Int) (x8 : Int) (x9 : Int) (x10 : Int) (x12 : Int) (x13 : Int) (x14 : Int) (x15 : Int) (x16 : Int) (x17 : Int) (x18 : Int) (x19 : Int) (x20 : Int) (reach_0 : Int → Int) (tail_0o4 : Int → Int) (head_0o4 : Int → Int) (edges_0o4 : Int) (reach_1 : Int → Int) (a2_1 : Int → Int) (tail_1o4 : Int → Int) (head_1o4 : Int → Int) (edges_1o4 : Int) (a2_0 : Int → Int) (k1 : 2 ≤ x1 ∧ x1 ≤ 24) (k6 : 2 ≤ x6 ∧ x6 ≤ 24) (k8 : 0 ≤ x8 ∧ x8 ≤ 22) (k9 : 0 ≤ x9 ∧ x9 ≤ 22) (k10 : 1 ≤ x10 ∧ x10 ≤ 23) (k12 : 0 ≤ x12 ∧ x12 ≤ 16777215) (k13 : 0 ≤ x13 ∧ x13 ≤ 8388607) (k14 : 1 ≤ x14 ∧ x14 ≤ 1) (k15 : 1 ≤ x15 ∧ x15 ≤ 1) (k16 : 0 ≤ x16 ∧ x16 ≤ 16777215) (k17 : 0 ≤ x17 ∧ x17 ≤ 16777215) (k18 : 1 ≤ x18 ∧ x18 ≤ 1) (k19 : 1 ≤ x19 ∧ x19 ≤ 1) (k20 : 2 ≤ x20 ∧ x20 ≤ 24) (d0 : x10 + 1 ≤ x20 ∧ x20 ≤ x10 + 1) (d1 : x6 + (-4294967296) ≤ x20 ∧ x20 ≤ x6 + 0) (d2 : x1 + (-4294967296) ≤ x20 ∧ x20 ≤ x1 + 1) (d3 : x6 + (-4294967296) ≤ x20 ∧ x20 ≤ x6 + 1) (d4 : x6 + (-4294967296) ≤ x10 ∧ x10 ≤ x6 + (-1)) (d5 : x6 + (-4294967296) ≤ x1 ∧ x1 ≤ x6 + 0) (d6 : x1 + (-4294967296) ≤ x6 ∧ x6 ≤ x1 + 0) (d7 : x1 + (-4294967296) ≤ x8 ∧ x8 ≤ x1 + 0) (d8 : x6 + (-4294967296) ≤ x8 ∧ x8 ≤ x6 + (-1)) (d9 : x9 + (-4294967296) ≤ x8 ∧ x8 ≤ x9 + 0) (d10 : x10 + (-4294967296) ≤ x8 ∧ x8 ≤ x10 + (-1)) (d11 : x1 + (-4294967296) ≤ x9 ∧ x9 ≤ x1 + (-1)) (d12 : x6 + (-4294967296) ≤ x9 ∧ x9 ≤ x6 + (-1)) (d13 : x10 + (-4294967296) ≤ x9 ∧ x9 ≤ x10 + (-1)) (d14 : x1 + (-4294967296) ≤ x10 ∧ x10 ≤ x1 + 0) (d15 : x6 + (-4294967296) ≤ x10 ∧ x10 ≤ x6 + 0) (f1 : x20 = x10 + 1) (f2 : WKn (reach_0) (x1) (x1)) (f4 : ERC (edges_0o4) (reach_0) (tail_0o4) (head_0o4)) (f9 : x19 ≠ 0) (f10 : x19 = x17 % 2) (f11 : bvp (x19) = bvp (x17) &&& bvp (x18)) (f12 : bvp (x17) = bvp (x16) >>> (x9).toNat) (h13 : x16 = reach_1 (x10)) (f14 : x15 ≠ 0) (f15 : x15 = x13 % 2) (f16 : bvp (x15) = bvp (x13) &&& bvp (x14)) (f17 : bvp (x13) = bvp (x12) >>> (x10).toNat) (h18 : x12 = reach_1 (x9)) (f19 : x10 < x1) (f20 : WKn (reach_1) (x1) (x1)) (f21 : NBB (reach_1) (a2_1) (x1) (x9) (x10) (x8)) (f22 : ERC (edges_1o4) (reach_1) (tail_1o4) (head_1o4)) (fe_4_1_1 : edges_0o4 = edges_1o4) (hE_0_10_1 : ∀ j : Int, reach_0 j = reach_1 j) (hK_0_10 : ∀ j : Int, 0 ≤ j → j < 24 → 0 ≤ reach_0 j ∧ reach_0 j ≤ 16777215) (hE_2_999_1 : ∀ j : Int, 0 ≤ j → (j = x10 → a2_0 j = x8) ∧ (j ≠ x10 → a2_0 j = a2_1 j)) (hK_2_999 : ∀ j : Int, 0 ≤ j → j < 24 → (-1) ≤ a2_0 j ∧ a2_0 j ≤ 24) (hE_4_7_1 : ∀ j : Int, tail_0o4 j = tail_1o4 j) (hK_4_7 : ∀ j : Int, 0 ≤ j → j < 48 → 0 ≤ tail_0o4 j ∧ tail_0o4 j ≤ 23) (hE_4_8_1 : ∀ j : Int, head_0o4 j = head_1o4 j) (hK_4_8 : ∀ j : Int, 0 ≤ j → j < 48 → 0 ≤ head_0o4 j ∧ head_0o4 j ≤ 23) (kz_4_1 : 0 ≤ edges_0o4 ∧ edges_0o4 ≤ 48) : NBB (reach_0) (a2_0) (x1) (x9) (x20) (x8) := by
  subst fe_4_1_1
  have e_hE_0_10_1 := funext hE_0_10_1; subst e_hE_0_10_1
  have e_hE_4_7_1 := funext hE_4_7_1; subst e_hE_4_7_1
  have e_hE_4_8_1 := funext hE_4_8_1; subst e_hE_4_8_1
  first
    | assumption
    | exact nbj_start (p := x9) (x := x8) ‹NBA _ _ _ _ _› (by omega) (by omega) hE_2_999_1 rfl rfl (by omega)
    | exact nbj_skip ‹NBB _ _ _ _ _ _› (fun q => by have b := (bit_one2 (s := x12) (t := x13) (c := x15) (v := x10) (one := x14) (by assumption) (by assumption) (by assumption) (by omega) (by omega) (by omega) (by omega)).1 q.1; omega) (by omega)
    | exact nbj_skip ‹NBB _ _ _ _ _ _› (fun q => by have b := (bit_one2 (s := x16) (t := x17) (c := x19) (v := x9) (one := x18) (by assumption) (by assumption) (by assumption) (by omega) (by omega) (by omega) (by omega)).1 q.2; omega) (by omega)
    | exact nbj_step (p := x10) (x := x8) ‹NBB _ _ _ _ _ _› ⟨(bit_one2 (s := x12) (t := x13) (c := x15) (v := x10) (one := x14) (by assumption) (by assumption) (by assumption) (by omega) (by omega) (by omega) (by omega)).2 (by omega), (bit_one2 (s := x16) (t := x17) (c := x19) (v := x9) (one := x18) (by assumption) (by assumption) (by assumption) (by omega) (by omega) (by omega) (by omega)).2 (by omega)⟩ hE_2_999_1 rfl rfl (by omega)
  
def o_Fa_numberStrong_at_Faloop_12 : or_T := (93, 21, [(0, (2, 0, 0, [2])), (1, (0, 2, 24, [])), (2, (2, 0, 0, [44])), (3, (2, 0, 0, [43])), (4, (2, 0, 0, [3])), (5, (2, 0, 0, [2])), (6, (0, 2, 24, [])), (7, (2, 0, 0, [44])), (8, (0, 0, 22, [])), (9, (0, 0, 22, [])), (10, (0, 1, 23, [])), (11, (2, 0, 0, [43])), (12, (0, 0, 16777215, [])), (13, (0, 0, 8388607, [])), (14, (0, 1, 1, [])), (15, (0, 1, 1, [])), (16, (0, 0, 16777215, [])), (17, (0, 0, 16777215, [])), (18, (0, 1, 1, [])), (19, (0, 1, 1, [])), (20, (0, 2, 24, []))], [(9, [11, 5], [10]), (6, [20, 10], [1]), (20, [5, 6, 6], [60, 0, 1, 717, 10]), (24, [3, 11], []), (20, [5, 4], [60, 1, 3, 719, 1001, 10, 1007, 1008]), (24, [0, 5], []), (24, [1, 6], []), (24, [2, 7], []), (100, [7, 10, 8], []), (8, [19], [1]), (12, [19, 17], [2]), (16, [19, 17, 18], [0]), (16, [17, 16, 9], [4]), (10, [16, 11, 10], []), (8, [15], [1]), (12, [15, 13], [2]), (16, [15, 13, 14], [0]), (16, [13, 12, 10], [4]), (10, [12, 11, 9], []), (7, [10, 6], [2]), (20, [5, 6, 6], [60, 0, 1, 717, 10]), (20, [11, 7, 6, 9, 10, 8], [61, 2, 722]), (20, [5, 4], [60, 1, 3, 719, 1001, 10, 1007, 1008])], [], [], [(20, [11, 7, 6, 9, 20, 8], [61, 2, 722])], [], [(20, 10, 1, 1), (20, 6, -4294967296, 0), (20, 1, -4294967296, 1), (20, 6, -4294967296, 1), (10, 6, -4294967296, -1), (1, 6, -4294967296, 0), (6, 1, -4294967296, 0), (8, 1, -4294967296, 0), (8, 6, -4294967296, -1), (8, 9, -4294967296, 0), (8, 10, -4294967296, -1), (9, 1, -4294967296, -1), (9, 6, -4294967296, -1), (9, 10, -4294967296, -1), (10, 1, -4294967296, 0), (10, 6, -4294967296, 0)])
theorem oo_Fa_numberStrong_at_Faloop_12 {kA : Nat → ClassId} : or_ok PRD kA GG o_Fa_numberStrong_at_Faloop_12 := by
  refine or_mk fun A ta ws vs hD hth hl => ?_
  intro t0 r0 t1 k1 t2 r2 t3 r3 t4 r4 t5 r5 t6 k6 t7 r7 t8 k8 t9 k9 t10 k10 t11 r11 t12 k12 t13 k13 t14 k14 t15 k15 t16 k16 t17 k17 t18 k18 t19 k19 t20 k20 d0 d1 d2 d3 d4 d5 d6 d7 d8 d9 d10 d11 d12 d13 d14 d15 f0 f1 f2 f3 f4 f5 f6 f7 ta1 w1 le1 s1 f9 f10 f11 f12 f13 f14 f15 f16 f17 f18 f19 f20 f21 f22
  replace f0 := shm_114 f0
  replace f1 := shm_4 f1
  replace f2 := shm_799 f2
  replace f3 := shm_5 f3
  replace f4 := shm_797 f4
  replace f5 := shm_5 f5
  replace f6 := shm_5 f6
  replace f7 := shm_5 f7
  have s1 : (∀ b j, w_el ws b j = if b = v_ad (n_v vs 7) ∧ j = (v_iv (n_v vs 10)).toNat then v_iv (n_v vs 8) else w_el w1 b j) ∧ ∀ b k, w_fd ws b k = w_fd w1 b k := s1.2
  replace f9 := shm_154 f9
  replace f10 := shm_382 f10
  replace f11 := shm_11 f11
  replace f12 := shm_13 f12
  replace f13 := shm_106 f13
  replace f14 := shm_154 f14
  replace f15 := shm_382 f15
  replace f16 := shm_11 f16
  replace f17 := shm_13 f17
  replace f18 := shm_106 f18
  replace f19 := shm_6 f19
  replace f20 := shm_799 f20
  replace f21 := shm_804 f21
  replace f22 := shm_797 f22
  have q11 : n_v vs 11 = n_v vs 3 := f3.symm
  have q5 : n_v vs 5 = n_v vs 0 := f5.symm
  have q6 : n_v vs 6 = n_v vs 1 := f6.symm
  have q7 : n_v vs 7 = n_v vs 2 := f7.symm
  simp only [q11, q5, q6] at f0 f2 f4
  rw [q7] at s1
  simp only [q11, q6, q5, q7] at f13 f18 f19 f20 f21 f22
  have ar_0_10_1 : w_ar w1 (n_v vs 0) 10 = w_ar ws (n_v vs 0) 10 := congrArg v_ad (s1.2 _ _).symm
  have cr_0_10 := fdq_201 hD hth r0
  have cr_2_999 : ta (v_ad (n_v vs 2)) = some 44 := r2
  have ar_4_7_1 : w_ar w1 (n_v vs 4) 7 = w_ar ws (n_v vs 4) 7 := congrArg v_ad (s1.2 _ _).symm
  have cr_4_7 := fdq_52 hD hth r4
  have ar_4_8_1 : w_ar w1 (n_v vs 4) 8 = w_ar ws (n_v vs 4) 8 := congrArg v_ad (s1.2 _ _).symm
  have cr_4_8 := fdq_53 hD hth r4
  have ad_3 : v_ad (n_v vs 3) = w_ar ws (n_v vs 0) 10 := congrArg v_ad f0
  have ad_2 : v_ad (n_v vs 2) = v_ad (n_v vs 2) := rfl
  simp only [ad_3] at f13
  have h13 : v_iv (n_v vs 16) = w_ei w1 (w_ar ws (n_v vs 0) 10) (v_iv (n_v vs 10)) := f13
  simp only [ad_3] at f18
  have h18 : v_iv (n_v vs 12) = w_ei w1 (w_ar ws (n_v vs 0) 10) (v_iv (n_v vs 9)) := f18
  simp only [ar_0_10_1, ad_3, ar_4_7_1, ar_4_8_1] at f20 f21 f22
  have fe_4_1_1 : w_fi ws (n_v vs 4) 1 = w_fi w1 (n_v vs 4) 1 := congrArg v_iv (s1.2 _ _)
  have hE_0_10_1 : ∀ j : Int, w_ei ws (w_ar ws (n_v vs 0) 10) j = w_ei w1 (w_ar ws (n_v vs 0) 10) j := el_kp s1.1 r2 cr_0_10 (by decide)
  have hK_0_10 := elq_117 hD hth cr_0_10
  have hE_2_999_1 : ∀ j : Int, 0 ≤ j → (j = v_iv (n_v vs 10) → w_ei ws (v_ad (n_v vs 2)) j = v_iv (n_v vs 8)) ∧ (j ≠ v_iv (n_v vs 10) → w_ei ws (v_ad (n_v vs 2)) j = w_ei w1 (v_ad (n_v vs 2)) j) := fun j hj => ⟨fun h => by unfold w_ei; rw [s1.1, if_pos ⟨ad_2.symm, by rw [h]⟩], fun h => by unfold w_ei; rw [s1.1, if_neg (fun e => h (by have := e.2; omega))]⟩
  have hK_2_999 := elq_22 hD hth cr_2_999
  have hE_4_7_1 : ∀ j : Int, w_ei ws (w_ar ws (n_v vs 4) 7) j = w_ei w1 (w_ar ws (n_v vs 4) 7) j := el_kp s1.1 r2 cr_4_7 (by decide)
  have hK_4_7 := elq_10 hD hth cr_4_7
  have hE_4_8_1 : ∀ j : Int, w_ei ws (w_ar ws (n_v vs 4) 8) j = w_ei w1 (w_ar ws (n_v vs 4) 8) j := el_kp s1.1 r2 cr_4_8 (by decide)
  have hK_4_8 := elq_11 hD hth cr_4_8
  have kz_4_1 := fdq_38 hD hth r4
  have nf0 : fc_1 PRD (20, [11, 7, 6, 9, 20, 8], [61, 2, 722]) ws (vs) := by
    refine ⟨nf_in hl rfl, sgq_804 ?_⟩
    · show NBB (w_ei ws (v_ad (n_v vs 11))) (w_ei ws (v_ad (n_v vs 7))) (v_iv (n_v vs 6)) (v_iv (n_v vs 9)) (v_iv (n_v vs 20)) (v_iv (n_v vs 8))
      simp only [q11, q6, q7, ad_3]
      exact vc_Fa_numberStrong_at_Faloop_12_0 (v_iv (n_v vs 1)) (v_iv (n_v vs 6)) (v_iv (n_v vs 8)) (v_iv (n_v vs 9)) (v_iv (n_v vs 10)) (v_iv (n_v vs 12)) (v_iv (n_v vs 13)) (v_iv (n_v vs 14)) (v_iv (n_v vs 15)) (v_iv (n_v vs 16)) (v_iv (n_v vs 17)) (v_iv (n_v vs 18)) (v_iv (n_v vs 19)) (v_iv (n_v vs 20)) (w_ei ws (w_ar ws (n_v vs 0) 10)) (w_ei ws (w_ar ws (n_v vs 4) 7)) (w_ei ws (w_ar ws (n_v vs 4) 8)) (w_fi ws (n_v vs 4) 1) (w_ei w1 (w_ar ws (n_v vs 0) 10)) (w_ei w1 (v_ad (n_v vs 2))) (w_ei w1 (w_ar ws (n_v vs 4) 7)) (w_ei w1 (w_ar ws (n_v vs 4) 8)) (w_fi w1 (n_v vs 4) 1) (w_ei ws (v_ad (n_v vs 2))) k1 k6 k8 k9 k10 k12 k13 k14 k15 k16 k17 k18 k19 k20 d0 d1 d2 d3 d4 d5 d6 d7 d8 d9 d10 d11 d12 d13 d14 d15 f1 f2 f4 f9 f10 f11 f12 h13 f14 f15 f16 f17 h18 f19 f20 f21 f22 fe_4_1_1 hE_0_10_1 hK_0_10 hE_2_999_1 hK_2_999 hE_4_7_1 hK_4_7 hE_4_8_1 hK_4_8 kz_4_1
  refine ⟨(fun _ h => (by cases h)), [], trivial, ?_, (fun _ h => (by cases h))⟩
  rw [List.append_nil]
  exact List.forall_mem_cons.mpr ⟨⟨show (20 : Nat) < 100 from by decide, nf0⟩, (fun _ h => (by cases h))⟩
def n_Fa_numberStrong_at_Faloop_an : List an_T := [(2, [(0, (2, 0, 0, [2])), (1, (0, 0, 24, [])), (2, (2, 0, 0, [44])), (3, (0, 0, 24, []))], [], (0, 0), [(0, 0, 99998), (1, 8, 24), (0, 0, 100000), (0, 0, 0), (0, 0, 0)], [(1, 6, (Int.negSucc 999999999999), 0), (6, 1, (Int.negSucc 999999999999), 0), (8, 1, (Int.negSucc 999999999999), 0), (8, 6, (Int.negSucc 999999999999), 0)], [((0, 10), (2, 0, 0, [43]))], [(2, 0, 0, [2]), (0, 0, 24, []), (2, 0, 0, [44]), (2, 0, 0, [43]), (2, 0, 0, [3])], 0, [], [(20, [5, 6, 8], [60, 0, 1, 717, 10]), (24, [3, 9], []), (20, [5, 4], [60, 1, 3, 719, 1001, 10, 1007, 1008]), (24, [0, 5], []), (24, [1, 6], []), (24, [2, 7], [])]), (10, [(0, (2, 0, 0, [2])), (1, (0, 1, 24, [])), (2, (2, 0, 0, [44])), (3, (0, 0, 23, [])), (4, (0, 0, 24, []))], [], (0, 0), [(0, 0, 99998), (1, 8, 24), (0, 0, 99990), (1, 9, 24), (0, 0, 100000)], [(1, 6, (Int.negSucc 999999999999), 0), (6, 1, (Int.negSucc 999999999999), 0), (8, 1, (Int.negSucc 999999999999), (Int.negSucc 0)), (8, 6, (Int.negSucc 999999999999), (Int.negSucc 0)), (9, 1, (Int.negSucc 999999999999), 0), (9, 6, (Int.negSucc 999999999999), 0)], [((0, 10), (2, 0, 0, [43]))], [(2, 0, 0, [2]), (0, 0, 24, []), (2, 0, 0, [44]), (2, 0, 0, [43]), (2, 0, 0, [3])], 0, [], [(20, [5, 6, 8, 9], [60, 0, 1, 718, 10]), (24, [3, 10], []), (20, [5, 4], [60, 1, 3, 719, 1001, 10, 1007, 1008]), (24, [0, 5], []), (24, [1, 6], []), (24, [2, 7], [])]), (68, [(0, (2, 0, 0, [2])), (1, (0, 0, 24, [])), (2, (2, 0, 0, [44])), (3, (0, 0, 24, [])), (4, (0, 0, 24, []))], [], (0, 0), [(0, 0, 99932), (1, 9, 24), (0, 0, 100000), (0, 0, 0), (0, 0, 0)], [(1, 6, (Int.negSucc 999999999999), 0), (6, 1, (Int.negSucc 999999999999), 0), (8, 1, (Int.negSucc 999999999999), 0), (8, 6, (Int.negSucc 999999999999), 0), (8, 9, (Int.negSucc 999999999999), 0), (9, 1, (Int.negSucc 999999999999), 0), (9, 6, (Int.negSucc 999999999999), 0)], [((0, 10), (2, 0, 0, [43]))], [(2, 0, 0, [2]), (0, 0, 24, []), (2, 0, 0, [44]), (2, 0, 0, [43]), (2, 0, 0, [3])], 0, [], [(20, [5, 6, 6], [60, 0, 1, 717, 10]), (20, [10, 7, 6, 9, 8], [61, 2, 721]), (24, [3, 10], []), (20, [5, 4], [60, 1, 3, 719, 1001, 10, 1007, 1008]), (24, [0, 5], []), (24, [1, 6], []), (24, [2, 7], [])]), (93, [(0, (2, 0, 0, [2])), (1, (0, 1, 24, [])), (2, (2, 0, 0, [44])), (3, (0, 0, 23, [])), (4, (0, 0, 23, [])), (5, (0, 1, 24, []))], [], (0, 0), [(0, 0, 99932), (1, 9, 24), (0, 0, 99907), (1, 10, 24), (0, 0, 100000)], [(1, 6, (Int.negSucc 999999999999), 0), (6, 1, (Int.negSucc 999999999999), 0), (8, 1, (Int.negSucc 999999999999), 0), (8, 6, (Int.negSucc 999999999999), (Int.negSucc 0)), (8, 9, (Int.negSucc 999999999999), 0), (8, 10, (Int.negSucc 999999999999), (Int.negSucc 0)), (9, 1, (Int.negSucc 999999999999), (Int.negSucc 0)), (9, 6, (Int.negSucc 999999999999), (Int.negSucc 0)), (9, 10, (Int.negSucc 999999999999), (Int.negSucc 0)), (10, 1, (Int.negSucc 999999999999), 0), (10, 6, (Int.negSucc 999999999999), 0)], [((0, 10), (2, 0, 0, [43]))], [(2, 0, 0, [2]), (0, 0, 24, []), (2, 0, 0, [44]), (2, 0, 0, [43]), (2, 0, 0, [3])], 0, [], [(20, [5, 6, 6], [60, 0, 1, 717, 10]), (20, [11, 7, 6, 9, 10, 8], [61, 2, 722]), (24, [3, 11], []), (20, [5, 4], [60, 1, 3, 719, 1001, 10, 1007, 1008]), (24, [0, 5], []), (24, [1, 6], []), (24, [2, 7], [])])]
def t_Fa_numberStrong_at_Faloop_ct : ct_L := [(189, 139, e_jArr_fill1_v6)]
set_option maxRecDepth 100000 in
theorem c_Fa_numberStrong_at_Faloop {l : Launch} {D : va_G} {kA : Nat → ClassId} : ct_ok PRD l D kA GG y_Fa_numberStrong_at_Faloop z_Fa_numberStrong_at_Faloop e_Fa_numberStrong_at_Faloop := chk_all_ok (FT := [(45, 2, 10)]) (PT := []) (CT := t_Fa_numberStrong_at_Faloop_ct) (KT := []) (NT := []) (AN := n_Fa_numberStrong_at_Faloop_an) (OT := [o_Fa_numberStrong_at_Faloop_0, o_Fa_numberStrong_at_Faloop_1, o_Fa_numberStrong_at_Faloop_2, o_Fa_numberStrong_at_Faloop_3, o_Fa_numberStrong_at_Faloop_4, o_Fa_numberStrong_at_Faloop_5, o_Fa_numberStrong_at_Faloop_6, o_Fa_numberStrong_at_Faloop_7, o_Fa_numberStrong_at_Faloop_8, o_Fa_numberStrong_at_Faloop_9, o_Fa_numberStrong_at_Faloop_10, o_Fa_numberStrong_at_Faloop_11, o_Fa_numberStrong_at_Faloop_12]) 5 388 (List.forall_mem_cons.mpr ⟨oo_Fa_numberStrong_at_Faloop_0, List.forall_mem_cons.mpr ⟨oo_Fa_numberStrong_at_Faloop_1, List.forall_mem_cons.mpr ⟨oo_Fa_numberStrong_at_Faloop_2, List.forall_mem_cons.mpr ⟨oo_Fa_numberStrong_at_Faloop_3, List.forall_mem_cons.mpr ⟨oo_Fa_numberStrong_at_Faloop_4, List.forall_mem_cons.mpr ⟨oo_Fa_numberStrong_at_Faloop_5, List.forall_mem_cons.mpr ⟨oo_Fa_numberStrong_at_Faloop_6, List.forall_mem_cons.mpr ⟨oo_Fa_numberStrong_at_Faloop_7, List.forall_mem_cons.mpr ⟨oo_Fa_numberStrong_at_Faloop_8, List.forall_mem_cons.mpr ⟨oo_Fa_numberStrong_at_Faloop_9, List.forall_mem_cons.mpr ⟨oo_Fa_numberStrong_at_Faloop_10, List.forall_mem_cons.mpr ⟨oo_Fa_numberStrong_at_Faloop_11, List.forall_mem_cons.mpr ⟨oo_Fa_numberStrong_at_Faloop_12, List.forall_mem_nil _⟩⟩⟩⟩⟩⟩⟩⟩⟩⟩⟩⟩⟩) (by decide +kernel) ⟨List.forall_mem_cons.mpr ⟨gf_Fa_45, List.forall_mem_nil _⟩, List.forall_mem_nil _, List.forall_mem_cons.mpr ⟨cl_static (y := y_jArr_fill1) c_jArr_fill1_v6 wm_55 wm_4 wm_855 wm_54 ⟨by decide, by decide, by decide +kernel⟩ (by decide), List.forall_mem_nil _⟩, List.forall_mem_nil _, List.forall_mem_nil _, GG_pl⟩ (by decide +kernel)
def o_Fa_pickLast_0 : or_T := (5, 6, [], [], [], [], [(24, [2, 2], []), (24, [0, 0], [])], [], [])
theorem oo_Fa_pickLast_0 {kA : Nat → ClassId} : or_ok PRD kA GG o_Fa_pickLast_0 := by
  refine or_mk fun A ta ws vs hD hth hl => ?_
  have nf0 : fc_1 PRD (24, [2, 2], []) ws (vs) := by
    refine ⟨nf_in hl rfl, sgq_1 ?_⟩
    · show n_v vs 2 = n_v vs 2
      first | rfl | simp only [true_and]
  have nf1 : fc_1 PRD (24, [0, 0], []) ws (vs) := by
    refine ⟨nf_in hl rfl, sgq_1 ?_⟩
    · show n_v vs 0 = n_v vs 0
      first | rfl | simp only [true_and]
  refine ⟨(fun _ h => (by cases h)), [], trivial, ?_, (fun _ h => (by cases h))⟩
  rw [List.append_nil]
  exact List.forall_mem_cons.mpr ⟨⟨show (24 : Nat) < 100 from by decide, nf0⟩, List.forall_mem_cons.mpr ⟨⟨show (24 : Nat) < 100 from by decide, nf1⟩, (fun _ h => (by cases h))⟩⟩
set_option maxHeartbeats 4000000 in
theorem vc_Fa_pickLast_1_0 (x2 : Int) (x6 : Int) (x9 : Int) (k2 : 0 ≤ x2 ∧ x2 ≤ 16777215) (k6 : 0 ≤ x6 ∧ x6 ≤ 16777215) (k9 : (-1) ≤ x9 ∧ x9 ≤ (-1)) (d0 : x6 + (-4294967296) ≤ x2 ∧ x2 ≤ x6 + 0) (d1 : x2 + (-4294967296) ≤ x6 ∧ x6 ≤ x2 + 0) : PKL (x2) (x9) := by
  first
    | exact Or.inl (by omega)
    | exact pkl_of ((bit_one (s := x2) (t := x11) (c := x13) ‹bvp x11 = _› ‹bvp x13 = _› (by omega) (by omega) (by omega) (by omega)).mpr (by omega)) (by omega) (by omega)
  
def o_Fa_pickLast_1 : or_T := (49, 10, [(2, (0, 0, 16777215, [])), (6, (0, 0, 16777215, [])), (9, (0, -1, -1, []))], [], [], [], [(20, [2, 9], [61, 0, 574])], [], [(2, 6, -4294967296, 0), (6, 2, -4294967296, 0)])
theorem oo_Fa_pickLast_1 {kA : Nat → ClassId} : or_ok PRD kA GG o_Fa_pickLast_1 := by
  refine or_mk fun A ta ws vs hD hth hl => ?_
  intro t2 k2 t6 k6 t9 k9 d0 d1
  have nf0 : fc_1 PRD (20, [2, 9], [61, 0, 574]) ws (vs) := ⟨nf_in hl rfl, sgq_805 (vc_Fa_pickLast_1_0 (v_iv (n_v vs 2)) (v_iv (n_v vs 6)) (v_iv (n_v vs 9)) k2 k6 k9 d0 d1)⟩
  refine ⟨(fun _ h => (by cases h)), [], trivial, ?_, (fun _ h => (by cases h))⟩
  rw [List.append_nil]
  exact List.forall_mem_cons.mpr ⟨⟨show (20 : Nat) < 100 from by decide, nf0⟩, (fun _ h => (by cases h))⟩
set_option maxHeartbeats 4000000 in
theorem vc_Fa_pickLast_2_0 (x2 : Int) (x6 : Int) (x8 : Int) (x10 : Int) (x11 : Int) (x12 : Int) (x13 : Int) (member_0 : Int → Int) (k2 : 0 ≤ x2 ∧ x2 ≤ 16777215) (k6 : 0 ≤ x6 ∧ x6 ≤ 16777215) (k8 : 0 ≤ x8 ∧ x8 ≤ 23) (k10 : 0 ≤ x10 ∧ x10 ≤ 23) (k11 : 0 ≤ x11 ∧ x11 ≤ 16777215) (k12 : 1 ≤ x12 ∧ x12 ≤ 1) (k13 : 1 ≤ x13 ∧ x13 ≤ 1) (d0 : x6 + (-4294967296) ≤ x2 ∧ x2 ≤ x6 + 0) (d1 : x2 + (-4294967296) ≤ x6 ∧ x6 ≤ x2 + 0) (f0 : x13 ≠ 0) (f1 : x13 = x11 % 2) (f2 : bvp (x13) = bvp (x11) &&& bvp (x12)) (f3 : bvp (x11) = bvp (x2) >>> (x10).toNat) (h4 : x10 = member_0 (x8)) (f6 : 0 ≤ x8) (hK_0_13 : ∀ j : Int, 0 ≤ j → j < 24 → 0 ≤ member_0 j ∧ member_0 j ≤ 23) : PKL (x2) (x10) := by
  first
    | exact Or.inl (by omega)
    | exact pkl_of ((bit_one (s := x2) (t := x11) (c := x13) ‹bvp x11 = _› ‹bvp x13 = _› (by omega) (by omega) (by omega) (by omega)).mpr (by omega)) (by omega) (by omega)
  
def o_Fa_pickLast_2 : or_T := (41, 16, [(0, (2, 0, 0, [2])), (2, (0, 0, 16777215, [])), (6, (0, 0, 16777215, [])), (8, (0, 0, 23, [])), (10, (0, 0, 23, [])), (11, (0, 0, 16777215, [])), (12, (0, 1, 1, [])), (13, (0, 1, 1, []))], [(8, [13], [1]), (12, [13, 11], [2]), (16, [13, 11, 12], [0]), (16, [11, 6, 10], [4]), (10, [10, 9, 8], []), (9, [9, 4], [13]), (8, [8], [3]), (24, [2, 6], []), (24, [0, 4], [])], [], [], [(20, [2, 10], [61, 0, 574])], [], [(2, 6, -4294967296, 0), (6, 2, -4294967296, 0)])
theorem oo_Fa_pickLast_2 {kA : Nat → ClassId} : or_ok PRD kA GG o_Fa_pickLast_2 := by
  refine or_mk fun A ta ws vs hD hth hl => ?_
  intro t0 r0 t2 k2 t6 k6 t8 k8 t10 k10 t11 k11 t12 k12 t13 k13 d0 d1 f0 f1 f2 f3 f4 f5 f6 f7 f8
  replace f3 := shm_13 f3
  replace f4 := shm_106 f4
  replace f5 := shm_379 f5
  replace f7 := shm_5 f7
  replace f8 := shm_5 f8
  have q6 : n_v vs 6 = n_v vs 2 := f7.symm
  have q4 : n_v vs 4 = n_v vs 0 := f8.symm
  simp only [q6, q4] at f3 f5
  have cr_0_13 := fdq_70 hD hth r0
  have ad_9 : v_ad (n_v vs 9) = w_ar ws (n_v vs 0) 13 := congrArg v_ad f5
  simp only [ad_9] at f4
  have h4 : v_iv (n_v vs 10) = w_ei ws (w_ar ws (n_v vs 0) 13) (v_iv (n_v vs 8)) := f4
  have hK_0_13 := elq_23 hD hth cr_0_13
  have nf0 : fc_1 PRD (20, [2, 10], [61, 0, 574]) ws (vs) := ⟨nf_in hl rfl, sgq_805 (vc_Fa_pickLast_2_0 (v_iv (n_v vs 2)) (v_iv (n_v vs 6)) (v_iv (n_v vs 8)) (v_iv (n_v vs 10)) (v_iv (n_v vs 11)) (v_iv (n_v vs 12)) (v_iv (n_v vs 13)) (w_ei ws (w_ar ws (n_v vs 0) 13)) k2 k6 k8 k10 k11 k12 k13 d0 d1 (shm_154 f0) (shm_382 f1) (shm_11 f2) f3 h4 (shm_32 f6) hK_0_13)⟩
  refine ⟨(fun _ h => (by cases h)), [], trivial, ?_, (fun _ h => (by cases h))⟩
  rw [List.append_nil]
  exact List.forall_mem_cons.mpr ⟨⟨show (20 : Nat) < 100 from by decide, nf0⟩, (fun _ h => (by cases h))⟩
def n_Fa_pickLast_an : List an_T := [(5, [(0, (2, 0, 0, [2])), (1, (2, 0, 0, [3])), (2, (0, 0, 16777215, [])), (3, (0, 8, 24, [])), (4, (0, (Int.negSucc 0), 23, []))], [], (0, 0), [(0, 0, 99995), (2, 8, (Int.negSucc 0)), (0, 0, 100000)], [(2, 6, (Int.negSucc 999999999999), 0), (3, 7, (Int.negSucc 999999999999), 0), (6, 2, (Int.negSucc 999999999999), 0), (7, 3, (Int.negSucc 999999999999), 0), (8, 3, (Int.negSucc 999999999999), (Int.negSucc 0)), (8, 7, (Int.negSucc 999999999999), (Int.negSucc 0))], [], [(2, 0, 0, [2]), (2, 0, 0, [3]), (0, 0, 16777215, []), (0, 8, 24, [])], 0, [], [(24, [2, 6], []), (24, [0, 4], [])])]
def t_Fa_pickLast_ct : ct_L := [(0, 186, e_Fa_weights)]
set_option maxRecDepth 100000 in
theorem c_Fa_pickLast {l : Launch} {D : va_G} {kA : Nat → ClassId} (h_Fa_weights : ct_ok PRD l D kA GG y_Fa_weights z_Fa_weights e_Fa_weights) : ct_ok PRD l D kA GG y_Fa_pickLast z_Fa_pickLast e_Fa_pickLast := chk_all_ok (FT := [(54, 2, 13)]) (PT := []) (CT := t_Fa_pickLast_ct) (KT := []) (NT := []) (AN := n_Fa_pickLast_an) (OT := [o_Fa_pickLast_0, o_Fa_pickLast_1, o_Fa_pickLast_2]) 3 200 (List.forall_mem_cons.mpr ⟨oo_Fa_pickLast_0, List.forall_mem_cons.mpr ⟨oo_Fa_pickLast_1, List.forall_mem_cons.mpr ⟨oo_Fa_pickLast_2, List.forall_mem_nil _⟩⟩⟩) (by decide +kernel) ⟨List.forall_mem_cons.mpr ⟨gf_Fa_54, List.forall_mem_nil _⟩, List.forall_mem_nil _, List.forall_mem_cons.mpr ⟨cl_static (y := y_Fa_weights) h_Fa_weights wm_892 wm_7 wm_890 wm_891 ⟨by decide, by decide, by decide +kernel⟩ (by decide), List.forall_mem_nil _⟩, List.forall_mem_nil _, List.forall_mem_nil _, GG_pl⟩ (by decide +kernel)
set_option maxHeartbeats 4000000 in
theorem vc_Fa_spread_at_Grnear_0_0 (x1 : Int) (x2 : Int) (x3 : Int) (x4 : Int) (x5 : Int) (a0_0 : Int → Int) (k1 : 1 ≤ x1 ∧ x1 ≤ 24) (k2 : 1 ≤ x2 ∧ x2 ≤ 8388608) (k3 : (-1) ≤ x3 ∧ x3 ≤ 16777215) (k4 : 0 ≤ x4 ∧ x4 ≤ 8388608) (k5 : 0 ≤ x5 ∧ x5 ≤ 0) (f0 : bvp (x4) = bvp (x2) &&& bvp (x3)) (hK_0_999 : ∀ j : Int, 0 ≤ j → j < 24 → 0 ≤ a0_0 j ∧ a0_0 j ≤ 16777215) : SPI (a0_0) (x1) (x2) (x3) (x5) (x4) (x4) := by
  first
    | exact spi_start (by assumption) (by omega) (by omega) (by omega) (by omega)
    | exact spi_step ‹SPI _ _ _ _ _ _ _› (by omega) (by omega) (by omega) ‹NEF _ _ _ _› (by assumption) (by assumption) (by omega) (by assumption) (by assumption) (by omega)
  
def o_Fa_spread_at_Grnear_0 : or_T := (12, 6, [(0, (2, 0, 0, [59])), (1, (0, 1, 24, [])), (2, (0, 1, 8388608, [])), (3, (0, -1, 16777215, [])), (4, (0, 0, 8388608, [])), (5, (0, 0, 0, []))], [(16, [4, 2, 3], [0])], [], [], [(20, [0, 1, 2, 3, 5, 4, 4], [61, 1, 578]), (24, [0, 0], []), (24, [1, 1], []), (24, [2, 2], []), (24, [3, 3], [])], [], [])
theorem oo_Fa_spread_at_Grnear_0 {kA : Nat → ClassId} : or_ok PRD kA GG o_Fa_spread_at_Grnear_0 := by
  refine or_mk fun A ta ws vs hD hth hl => ?_
  intro t0 r0 t1 k1 t2 k2 t3 k3 t4 k4 t5 k5 f0
  have cr_0_999 : ta (v_ad (n_v vs 0)) = some 59 := r0
  have hK_0_999 := elq_24 hD hth cr_0_999
  have nf0 : fc_1 PRD (20, [0, 1, 2, 3, 5, 4, 4], [61, 1, 578]) ws (vs) := ⟨nf_in hl rfl, sgq_806 (vc_Fa_spread_at_Grnear_0_0 (v_iv (n_v vs 1)) (v_iv (n_v vs 2)) (v_iv (n_v vs 3)) (v_iv (n_v vs 4)) (v_iv (n_v vs 5)) (w_ei ws (v_ad (n_v vs 0))) k1 k2 k3 k4 k5 (shm_11 f0) hK_0_999)⟩
  have nf1 : fc_1 PRD (24, [0, 0], []) ws (vs) := by
    refine ⟨nf_in hl rfl, sgq_1 ?_⟩
    · show n_v vs 0 = n_v vs 0
      first | rfl | simp only [true_and]
  have nf2 : fc_1 PRD (24, [1, 1], []) ws (vs) := by
    refine ⟨nf_in hl rfl, sgq_1 ?_⟩
    · show n_v vs 1 = n_v vs 1
      first | rfl | simp only [true_and]
  have nf3 : fc_1 PRD (24, [2, 2], []) ws (vs) := by
    refine ⟨nf_in hl rfl, sgq_1 ?_⟩
    · show n_v vs 2 = n_v vs 2
      first | rfl | simp only [true_and]
  have nf4 : fc_1 PRD (24, [3, 3], []) ws (vs) := by
    refine ⟨nf_in hl rfl, sgq_1 ?_⟩
    · show n_v vs 3 = n_v vs 3
      first | rfl | simp only [true_and]
  refine ⟨(fun _ h => (by cases h)), [], trivial, ?_, (fun _ h => (by cases h))⟩
  rw [List.append_nil]
  exact List.forall_mem_cons.mpr ⟨⟨show (20 : Nat) < 100 from by decide, nf0⟩, List.forall_mem_cons.mpr ⟨⟨show (24 : Nat) < 100 from by decide, nf1⟩, List.forall_mem_cons.mpr ⟨⟨show (24 : Nat) < 100 from by decide, nf2⟩, List.forall_mem_cons.mpr ⟨⟨show (24 : Nat) < 100 from by decide, nf3⟩, List.forall_mem_cons.mpr ⟨⟨show (24 : Nat) < 100 from by decide, nf4⟩, (fun _ h => (by cases h))⟩⟩⟩⟩⟩
set_option maxHeartbeats 4000000 in
theorem vc_Fa_spread_at_Grnear_1_0 (x1 : Int) (x2 : Int) (x3 : Int) (x5 : Int) (x6 : Int) (x7 : Int) (x8 : Int) (x9 : Int) (x10 : Int) (a0_0 : Int → Int) (k1 : 1 ≤ x1 ∧ x1 ≤ 24) (k2 : 1 ≤ x2 ∧ x2 ≤ 8388608) (k3 : (-1) ≤ x3 ∧ x3 ≤ 16777215) (k5 : 1 ≤ x5 ∧ x5 ≤ 24) (k6 : 1 ≤ x6 ∧ x6 ≤ 8388608) (k7 : (-1) ≤ x7 ∧ x7 ≤ 16777215) (k8 : 0 ≤ x8 ∧ x8 ≤ 16777215) (k9 : 0 ≤ x9 ∧ x9 ≤ 16777215) (k10 : 1 ≤ x10 ∧ x10 ≤ 24) (d0 : x5 + 0 ≤ x10 ∧ x10 ≤ x5 + 4294967296) (d1 : x5 + (-4294967296) ≤ x1 ∧ x1 ≤ x5 + 0) (d2 : x6 + (-4294967296) ≤ x2 ∧ x2 ≤ x6 + 0) (d3 : x7 + (-4294967296) ≤ x3 ∧ x3 ≤ x7 + 0) (d4 : x1 + (-4294967296) ≤ x5 ∧ x5 ≤ x1 + 0) (d5 : x2 + (-4294967296) ≤ x6 ∧ x6 ≤ x2 + 0) (d6 : x3 + (-4294967296) ≤ x7 ∧ x7 ≤ x3 + 0) (d7 : x1 + (-4294967296) ≤ x10 ∧ x10 ≤ x1 + 0) (d8 : x5 + (-4294967296) ≤ x10 ∧ x10 ≤ x5 + 0) (f0 : x1 ≤ x10) (f1 : SPI (a0_0) (x1) (x2) (x3) (x10) (x8) (x9)) (hK_0_999 : ∀ j : Int, 0 ≤ j → j < 24 → 0 ≤ a0_0 j ∧ a0_0 j ≤ 16777215) : SPZ (a0_0) (x1) (x2) (x3) (x8) := by
  first
    | exact spz_of ‹SPI _ _ _ _ _ _ _› (by omega) (by omega)
  
def o_Fa_spread_at_Grnear_1 : or_T := (54, 11, [(0, (2, 0, 0, [59])), (1, (0, 1, 24, [])), (2, (0, 1, 8388608, [])), (3, (0, -1, 16777215, [])), (4, (2, 0, 0, [59])), (5, (0, 1, 24, [])), (6, (0, 1, 8388608, [])), (7, (0, -1, 16777215, [])), (8, (0, 0, 16777215, [])), (9, (0, 0, 16777215, [])), (10, (0, 1, 24, []))], [(7, [10, 5], [3]), (20, [4, 5, 6, 7, 10, 8, 9], [61, 1, 578]), (24, [0, 4], []), (24, [1, 5], []), (24, [2, 6], []), (24, [3, 7], [])], [], [], [(20, [0, 1, 2, 3, 8], [61, 1, 579])], [], [(10, 5, 0, 4294967296), (1, 5, -4294967296, 0), (2, 6, -4294967296, 0), (3, 7, -4294967296, 0), (5, 1, -4294967296, 0), (6, 2, -4294967296, 0), (7, 3, -4294967296, 0), (10, 1, -4294967296, 0), (10, 5, -4294967296, 0)])
theorem oo_Fa_spread_at_Grnear_1 {kA : Nat → ClassId} : or_ok PRD kA GG o_Fa_spread_at_Grnear_1 := by
  refine or_mk fun A ta ws vs hD hth hl => ?_
  intro t0 r0 t1 k1 t2 k2 t3 k3 t4 r4 t5 k5 t6 k6 t7 k7 t8 k8 t9 k9 t10 k10 d0 d1 d2 d3 d4 d5 d6 d7 d8 f0 f1 f2 f3 f4 f5
  replace f0 := shm_2 f0
  replace f1 := shm_807 f1
  replace f2 := shm_5 f2
  replace f3 := shm_5 f3
  replace f4 := shm_5 f4
  replace f5 := shm_5 f5
  have q4 : n_v vs 4 = n_v vs 0 := f2.symm
  have q5 : n_v vs 5 = n_v vs 1 := f3.symm
  have q6 : n_v vs 6 = n_v vs 2 := f4.symm
  have q7 : n_v vs 7 = n_v vs 3 := f5.symm
  simp only [q5, q4, q6, q7] at f0 f1
  have cr_0_999 : ta (v_ad (n_v vs 0)) = some 59 := r0
  have hK_0_999 := elq_24 hD hth cr_0_999
  have nf0 : fc_1 PRD (20, [0, 1, 2, 3, 8], [61, 1, 579]) ws (vs) := ⟨nf_in hl rfl, sgq_808 (vc_Fa_spread_at_Grnear_1_0 (v_iv (n_v vs 1)) (v_iv (n_v vs 2)) (v_iv (n_v vs 3)) (v_iv (n_v vs 5)) (v_iv (n_v vs 6)) (v_iv (n_v vs 7)) (v_iv (n_v vs 8)) (v_iv (n_v vs 9)) (v_iv (n_v vs 10)) (w_ei ws (v_ad (n_v vs 0))) k1 k2 k3 k5 k6 k7 k8 k9 k10 d0 d1 d2 d3 d4 d5 d6 d7 d8 f0 f1 hK_0_999)⟩
  refine ⟨(fun _ h => (by cases h)), [], trivial, ?_, (fun _ h => (by cases h))⟩
  rw [List.append_nil]
  exact List.forall_mem_cons.mpr ⟨⟨show (20 : Nat) < 100 from by decide, nf0⟩, (fun _ h => (by cases h))⟩
set_option maxHeartbeats 4000000 in
theorem vc_Fa_spread_at_Grnear_2_0 (x1 : Int) (x2 : Int) (x3 : Int) (x5 : Int) (x6 : Int) (x7 : Int) (x8 : Int) (x9 : Int) (x10 : Int) (a0_0 : Int → Int) (k1 : 1 ≤ x1 ∧ x1 ≤ 24) (k2 : 1 ≤ x2 ∧ x2 ≤ 8388608) (k3 : (-1) ≤ x3 ∧ x3 ≤ 16777215) (k5 : 1 ≤ x5 ∧ x5 ≤ 24) (k6 : 1 ≤ x6 ∧ x6 ≤ 8388608) (k7 : (-1) ≤ x7 ∧ x7 ≤ 16777215) (k8 : 0 ≤ x8 ∧ x8 ≤ 16777215) (k9 : 0 ≤ x9 ∧ x9 ≤ 0) (k10 : 0 ≤ x10 ∧ x10 ≤ 23) (d0 : x5 + (-4294967296) ≤ x10 ∧ x10 ≤ x5 + (-1)) (d1 : x5 + (-4294967296) ≤ x1 ∧ x1 ≤ x5 + 0) (d2 : x6 + (-4294967296) ≤ x2 ∧ x2 ≤ x6 + 0) (d3 : x7 + (-4294967296) ≤ x3 ∧ x3 ≤ x7 + 0) (d4 : x1 + (-4294967296) ≤ x5 ∧ x5 ≤ x1 + 0) (d5 : x2 + (-4294967296) ≤ x6 ∧ x6 ≤ x2 + 0) (d6 : x3 + (-4294967296) ≤ x7 ∧ x7 ≤ x3 + 0) (d7 : x10 + (-4294967296) ≤ x8 ∧ x8 ≤ x10 + 16777214) (d8 : x1 + (-4294967296) ≤ x10 ∧ x10 ≤ x1 + 0) (d9 : x5 + (-4294967296) ≤ x10 ∧ x10 ≤ x5 + 0) (f0 : x9 = 0) (f1 : x10 < x1) (f2 : SPI (a0_0) (x1) (x2) (x3) (x10) (x8) (x9)) (hK_0_999 : ∀ j : Int, 0 ≤ j → j < 24 → 0 ≤ a0_0 j ∧ a0_0 j ≤ 16777215) : SPZ (a0_0) (x1) (x2) (x3) (x8) := by
  first
    | exact spz_of ‹SPI _ _ _ _ _ _ _› (by omega) (by omega)
  
def o_Fa_spread_at_Grnear_2 : or_T := (54, 11, [(0, (2, 0, 0, [59])), (1, (0, 1, 24, [])), (2, (0, 1, 8388608, [])), (3, (0, -1, 16777215, [])), (4, (2, 0, 0, [59])), (5, (0, 1, 24, [])), (6, (0, 1, 8388608, [])), (7, (0, -1, 16777215, [])), (8, (0, 0, 16777215, [])), (9, (0, 0, 0, [])), (10, (0, 0, 23, []))], [(8, [9], [0]), (7, [10, 5], [2]), (20, [4, 5, 6, 7, 10, 8, 9], [61, 1, 578]), (24, [0, 4], []), (24, [1, 5], []), (24, [2, 6], []), (24, [3, 7], [])], [], [], [(20, [0, 1, 2, 3, 8], [61, 1, 579])], [], [(10, 5, -4294967296, -1), (1, 5, -4294967296, 0), (2, 6, -4294967296, 0), (3, 7, -4294967296, 0), (5, 1, -4294967296, 0), (6, 2, -4294967296, 0), (7, 3, -4294967296, 0), (8, 10, -4294967296, 16777214), (10, 1, -4294967296, 0), (10, 5, -4294967296, 0)])
theorem oo_Fa_spread_at_Grnear_2 {kA : Nat → ClassId} : or_ok PRD kA GG o_Fa_spread_at_Grnear_2 := by
  refine or_mk fun A ta ws vs hD hth hl => ?_
  intro t0 r0 t1 k1 t2 k2 t3 k3 t4 r4 t5 k5 t6 k6 t7 k7 t8 k8 t9 k9 t10 k10 d0 d1 d2 d3 d4 d5 d6 d7 d8 d9 f0 f1 f2 f3 f4 f5 f6
  replace f1 := shm_6 f1
  replace f2 := shm_807 f2
  replace f3 := shm_5 f3
  replace f4 := shm_5 f4
  replace f5 := shm_5 f5
  replace f6 := shm_5 f6
  have q4 : n_v vs 4 = n_v vs 0 := f3.symm
  have q5 : n_v vs 5 = n_v vs 1 := f4.symm
  have q6 : n_v vs 6 = n_v vs 2 := f5.symm
  have q7 : n_v vs 7 = n_v vs 3 := f6.symm
  simp only [q5, q4, q6, q7] at f1 f2
  have cr_0_999 : ta (v_ad (n_v vs 0)) = some 59 := r0
  have hK_0_999 := elq_24 hD hth cr_0_999
  have nf0 : fc_1 PRD (20, [0, 1, 2, 3, 8], [61, 1, 579]) ws (vs) := ⟨nf_in hl rfl, sgq_808 (vc_Fa_spread_at_Grnear_2_0 (v_iv (n_v vs 1)) (v_iv (n_v vs 2)) (v_iv (n_v vs 3)) (v_iv (n_v vs 5)) (v_iv (n_v vs 6)) (v_iv (n_v vs 7)) (v_iv (n_v vs 8)) (v_iv (n_v vs 9)) (v_iv (n_v vs 10)) (w_ei ws (v_ad (n_v vs 0))) k1 k2 k3 k5 k6 k7 k8 k9 k10 d0 d1 d2 d3 d4 d5 d6 d7 d8 d9 (shm_210 f0) f1 f2 hK_0_999)⟩
  refine ⟨(fun _ h => (by cases h)), [], trivial, ?_, (fun _ h => (by cases h))⟩
  rw [List.append_nil]
  exact List.forall_mem_cons.mpr ⟨⟨show (20 : Nat) < 100 from by decide, nf0⟩, (fun _ h => (by cases h))⟩
set_option maxHeartbeats 4000000 in
theorem vc_Fa_spread_at_Grnear_3_0 (x1 : Int) (x2 : Int) (x3 : Int) (x5 : Int) (x6 : Int) (x7 : Int) (x8 : Int) (x9 : Int) (x10 : Int) (x11 : Int) (x12 : Int) (x13 : Int) (x14 : Int) (x15 : Int) (x16 : Int) (x17 : Int) (a0_0 : Int → Int) (k1 : 1 ≤ x1 ∧ x1 ≤ 24) (k2 : 1 ≤ x2 ∧ x2 ≤ 8388608) (k3 : (-1) ≤ x3 ∧ x3 ≤ 16777215) (k5 : 1 ≤ x5 ∧ x5 ≤ 24) (k6 : 1 ≤ x6 ∧ x6 ≤ 8388608) (k7 : (-1) ≤ x7 ∧ x7 ≤ 16777215) (k8 : 0 ≤ x8 ∧ x8 ≤ 16777215) (k9 : 1 ≤ x9 ∧ x9 ≤ 16777215) (k10 : 0 ≤ x10 ∧ x10 ≤ 23) (k11 : 0 ≤ x11 ∧ x11 ≤ 16777215) (k12 : 0 ≤ x12 ∧ x12 ≤ 16777215) (k13 : (-1) ≤ x13 ∧ x13 ≤ (-1)) (k14 : (-2147483648) ≤ x14 ∧ x14 ≤ 2147483647) (k15 : 0 ≤ x15 ∧ x15 ≤ 16777215) (k16 : 0 ≤ x16 ∧ x16 ≤ 16777215) (k17 : 1 ≤ x17 ∧ x17 ≤ 24) (d0 : x10 + 1 ≤ x17 ∧ x17 ≤ x10 + 1) (d1 : x5 + (-4294967296) ≤ x17 ∧ x17 ≤ x5 + 0) (d2 : x1 + (-4294967296) ≤ x17 ∧ x17 ≤ x1 + 1) (d3 : x5 + (-4294967296) ≤ x17 ∧ x17 ≤ x5 + 1) (d4 : x5 + (-4294967296) ≤ x10 ∧ x10 ≤ x5 + (-1)) (d5 : x5 + (-4294967296) ≤ x1 ∧ x1 ≤ x5 + 0) (d6 : x6 + (-4294967296) ≤ x2 ∧ x2 ≤ x6 + 0) (d7 : x7 + (-4294967296) ≤ x3 ∧ x3 ≤ x7 + 0) (d8 : x1 + (-4294967296) ≤ x5 ∧ x5 ≤ x1 + 0) (d9 : x2 + (-4294967296) ≤ x6 ∧ x6 ≤ x2 + 0) (d10 : x3 + (-4294967296) ≤ x7 ∧ x7 ≤ x3 + 0) (d11 : x10 + (-4294967296) ≤ x8 ∧ x8 ≤ x10 + 16777214) (d12 : x10 + (-4294967296) ≤ x9 ∧ x9 ≤ x10 + 16777214) (d13 : x1 + (-4294967296) ≤ x10 ∧ x10 ≤ x1 + 0) (d14 : x5 + (-4294967296) ≤ x10 ∧ x10 ≤ x5 + 0) (f0 : x17 = x10 + 1) (f1 : x16 ≤ x8 + x15 ∧ x8 ≤ x16 ∧ x15 ≤ x16) (f2 : bvp (x16) = bvp (x8) ||| bvp (x15)) (f3 : bvp (x15) = bvp (x12) &&& bvp (x14)) (f4 : bvp (x14) = bvp (x8) ^^^ bvp (x13)) (f5 : bvp (x12) = bvp (x11) &&& bvp (x3)) (f6 : NEF (a0_0) (x1) (x9) (x11)) (f7 : x9 ≠ 0) (f8 : x10 < x1) (f9 : SPI (a0_0) (x1) (x2) (x3) (x10) (x8) (x9)) (hK_0_999 : ∀ j : Int, 0 ≤ j → j < 24 → 0 ≤ a0_0 j ∧ a0_0 j ≤ 16777215) : SPI (a0_0) (x1) (x2) (x3) (x17) (x16) (x15) := by
  first
    | exact spi_start (by assumption) (by omega) (by omega) (by omega) (by omega)
    | exact spi_step ‹SPI _ _ _ _ _ _ _› (by omega) (by omega) (by omega) ‹NEF _ _ _ _› (by assumption) (by assumption) (by omega) (by assumption) (by assumption) (by omega)
  
def o_Fa_spread_at_Grnear_3 : or_T := (12, 18, [(0, (2, 0, 0, [59])), (1, (0, 1, 24, [])), (2, (0, 1, 8388608, [])), (3, (0, -1, 16777215, [])), (5, (0, 1, 24, [])), (6, (0, 1, 8388608, [])), (7, (0, -1, 16777215, [])), (8, (0, 0, 16777215, [])), (9, (0, 1, 16777215, [])), (10, (0, 0, 23, [])), (11, (0, 0, 16777215, [])), (12, (0, 0, 16777215, [])), (13, (0, -1, -1, [])), (14, (0, -2147483648, 2147483647, [])), (15, (0, 0, 16777215, [])), (16, (0, 0, 16777215, [])), (17, (0, 1, 24, []))], [(6, [17, 10], [1]), (13, [16, 8, 15], []), (16, [16, 8, 15], [1]), (16, [15, 12, 14], [0]), (16, [14, 8, 13], [2]), (16, [12, 11, 7], [0]), (20, [4, 5, 9, 11], [61, 1, 557]), (8, [9], [1]), (7, [10, 5], [2]), (20, [4, 5, 6, 7, 10, 8, 9], [61, 1, 578]), (24, [0, 4], []), (24, [1, 5], []), (24, [2, 6], []), (24, [3, 7], [])], [], [], [(20, [4, 5, 6, 7, 17, 16, 15], [61, 1, 578])], [], [(17, 10, 1, 1), (17, 5, -4294967296, 0), (17, 1, -4294967296, 1), (17, 5, -4294967296, 1), (10, 5, -4294967296, -1), (1, 5, -4294967296, 0), (2, 6, -4294967296, 0), (3, 7, -4294967296, 0), (5, 1, -4294967296, 0), (6, 2, -4294967296, 0), (7, 3, -4294967296, 0), (8, 10, -4294967296, 16777214), (9, 10, -4294967296, 16777214), (10, 1, -4294967296, 0), (10, 5, -4294967296, 0)])
theorem oo_Fa_spread_at_Grnear_3 {kA : Nat → ClassId} : or_ok PRD kA GG o_Fa_spread_at_Grnear_3 := by
  refine or_mk fun A ta ws vs hD hth hl => ?_
  intro t0 r0 t1 k1 t2 k2 t3 k3 t5 k5 t6 k6 t7 k7 t8 k8 t9 k9 t10 k10 t11 k11 t12 k12 t13 k13 t14 k14 t15 k15 t16 k16 t17 k17 d0 d1 d2 d3 d4 d5 d6 d7 d8 d9 d10 d11 d12 d13 d14 f0 f1 f2 f3 f4 f5 f6 f7 f8 f9 f10 f11 f12 f13
  replace f0 := shm_4 f0
  have f1 : v_iv (n_v vs 16) ≤ v_iv (n_v vs 8) + v_iv (n_v vs 15) ∧ v_iv (n_v vs 8) ≤ v_iv (n_v vs 16) ∧ v_iv (n_v vs 15) ≤ v_iv (n_v vs 16) := (fun (h : v_iv (n_v vs 16) ≤ v_iv (n_v vs 8) + v_iv (n_v vs 15) ∧ v_iv (n_v vs 8) ≤ v_iv (n_v vs 16) ∧ v_iv (n_v vs 15) ≤ v_iv (n_v vs 16) ∧ (v_iv (n_v vs 16)).toNat = (v_iv (n_v vs 8)).toNat ||| (v_iv (n_v vs 15)).toNat) => ⟨h.1, h.2.1, h.2.2.1⟩) f1
  replace f2 := shm_372 f2
  replace f3 := shm_11 f3
  replace f4 := shm_33 f4
  replace f5 := shm_11 f5
  replace f6 := shm_381 f6
  replace f7 := shm_154 f7
  replace f8 := shm_6 f8
  replace f9 := shm_807 f9
  replace f10 := shm_5 f10
  replace f11 := shm_5 f11
  replace f12 := shm_5 f12
  replace f13 := shm_5 f13
  have q4 : n_v vs 4 = n_v vs 0 := f10.symm
  have q5 : n_v vs 5 = n_v vs 1 := f11.symm
  have q6 : n_v vs 6 = n_v vs 2 := f12.symm
  have q7 : n_v vs 7 = n_v vs 3 := f13.symm
  simp only [q7, q4, q5, q6] at f5 f6 f8 f9
  have cr_0_999 : ta (v_ad (n_v vs 0)) = some 59 := r0
  have hK_0_999 := elq_24 hD hth cr_0_999
  have nf0 : fc_1 PRD (20, [4, 5, 6, 7, 17, 16, 15], [61, 1, 578]) ws (vs) := by
    refine ⟨nf_in hl rfl, sgq_807 ?_⟩
    · show SPI (w_ei ws (v_ad (n_v vs 4))) (v_iv (n_v vs 5)) (v_iv (n_v vs 6)) (v_iv (n_v vs 7)) (v_iv (n_v vs 17)) (v_iv (n_v vs 16)) (v_iv (n_v vs 15))
      simp only [q4, q5, q6, q7]
      exact vc_Fa_spread_at_Grnear_3_0 (v_iv (n_v vs 1)) (v_iv (n_v vs 2)) (v_iv (n_v vs 3)) (v_iv (n_v vs 5)) (v_iv (n_v vs 6)) (v_iv (n_v vs 7)) (v_iv (n_v vs 8)) (v_iv (n_v vs 9)) (v_iv (n_v vs 10)) (v_iv (n_v vs 11)) (v_iv (n_v vs 12)) (v_iv (n_v vs 13)) (v_iv (n_v vs 14)) (v_iv (n_v vs 15)) (v_iv (n_v vs 16)) (v_iv (n_v vs 17)) (w_ei ws (v_ad (n_v vs 0))) k1 k2 k3 k5 k6 k7 k8 k9 k10 k11 k12 k13 k14 k15 k16 k17 d0 d1 d2 d3 d4 d5 d6 d7 d8 d9 d10 d11 d12 d13 d14 f0 f1 f2 f3 f4 f5 f6 f7 f8 f9 hK_0_999
  refine ⟨(fun _ h => (by cases h)), [], trivial, ?_, (fun _ h => (by cases h))⟩
  rw [List.append_nil]
  exact List.forall_mem_cons.mpr ⟨⟨show (20 : Nat) < 100 from by decide, nf0⟩, (fun _ h => (by cases h))⟩
def n_Fa_spread_at_Grnear_an : List an_T := [(12, [(0, (2, 0, 0, [59])), (1, (0, 1, 24, [])), (2, (0, 1, 8388608, [])), (3, (0, (Int.negSucc 0), 16777215, [])), (4, (0, 0, 16777215, [])), (5, (0, 0, 16777215, [])), (6, (0, 0, 24, []))], [], (0, 0), [(0, 0, 99988), (1, 10, 24), (0, 0, 100000)], [(1, 5, (Int.negSucc 999999999999), 0), (2, 6, (Int.negSucc 999999999999), 0), (3, 7, (Int.negSucc 999999999999), 0), (5, 1, (Int.negSucc 999999999999), 0), (6, 2, (Int.negSucc 999999999999), 0), (7, 3, (Int.negSucc 999999999999), 0), (8, 10, (Int.negSucc 999999999999), 16777214), (9, 10, (Int.negSucc 999999999999), 16777214), (10, 1, (Int.negSucc 999999999999), 0), (10, 5, (Int.negSucc 999999999999), 0)], [], [(2, 0, 0, [59]), (0, 1, 24, []), (0, 1, 8388608, []), (0, (Int.negSucc 0), 16777215, [])], 0, [], [(20, [4, 5, 6, 7, 10, 8, 9], [61, 1, 578]), (24, [0, 4], []), (24, [1, 5], []), (24, [2, 6], []), (24, [3, 7], [])])]
def t_Fa_spread_at_Grnear_ct : ct_L := [(84, 97, e_Fa_nearOf_at_Grnear)]
set_option maxRecDepth 100000 in
theorem c_Fa_spread_at_Grnear {l : Launch} {D : va_G} {kA : Nat → ClassId} (h_Fa_nearOf_at_Grnear : ct_ok PRD l D kA GG y_Fa_nearOf_at_Grnear z_Fa_nearOf_at_Grnear e_Fa_nearOf_at_Grnear) : ct_ok PRD l D kA GG y_Fa_spread_at_Grnear z_Fa_spread_at_Grnear e_Fa_spread_at_Grnear := chk_all_ok (FT := []) (PT := []) (CT := t_Fa_spread_at_Grnear_ct) (KT := []) (NT := []) (AN := n_Fa_spread_at_Grnear_an) (OT := [o_Fa_spread_at_Grnear_0, o_Fa_spread_at_Grnear_1, o_Fa_spread_at_Grnear_2, o_Fa_spread_at_Grnear_3]) 3 200 (List.forall_mem_cons.mpr ⟨oo_Fa_spread_at_Grnear_0, List.forall_mem_cons.mpr ⟨oo_Fa_spread_at_Grnear_1, List.forall_mem_cons.mpr ⟨oo_Fa_spread_at_Grnear_2, List.forall_mem_cons.mpr ⟨oo_Fa_spread_at_Grnear_3, List.forall_mem_nil _⟩⟩⟩⟩) (by decide +kernel) ⟨List.forall_mem_nil _, List.forall_mem_nil _, List.forall_mem_cons.mpr ⟨cl_static (y := y_Fa_nearOf_at_Grnear) h_Fa_nearOf_at_Grnear wm_824 wm_7 wm_822 wm_823 ⟨by decide, by decide, by decide +kernel⟩ (by decide), List.forall_mem_nil _⟩, List.forall_mem_nil _, List.forall_mem_nil _, GG_pl⟩ (by decide +kernel)
set_option maxHeartbeats 4000000 in
theorem vc_Fa_spread_at_Nenear_0_0 (x1 : Int) (x2 : Int) (x3 : Int) (x4 : Int) (x5 : Int) (a0_0 : Int → Int) (k1 : 0 ≤ x1 ∧ x1 ≤ 24) (k2 : 0 ≤ x2 ∧ x2 ≤ 16777215) (k3 : 0 ≤ x3 ∧ x3 ≤ 33554431) (k4 : 0 ≤ x4 ∧ x4 ≤ 16777215) (k5 : 0 ≤ x5 ∧ x5 ≤ 0) (f0 : bvp (x4) = bvp (x2) &&& bvp (x3)) (hK_0_999 : ∀ j : Int, 0 ≤ j → j < 25 → 0 ≤ a0_0 j ∧ a0_0 j ≤ 16777215) : SPI (a0_0) (x1) (x2) (x3) (x5) (x4) (x4) := by
  first
    | exact spi_start (by assumption) (by omega) (by omega) (by omega) (by omega)
    | exact spi_step ‹SPI _ _ _ _ _ _ _› (by omega) (by omega) (by omega) ‹NEF _ _ _ _› (by assumption) (by assumption) (by omega) (by assumption) (by assumption) (by omega)
  
def o_Fa_spread_at_Nenear_0 : or_T := (12, 6, [(0, (2, 0, 0, [82])), (1, (0, 0, 24, [])), (2, (0, 0, 16777215, [])), (3, (0, 0, 33554431, [])), (4, (0, 0, 16777215, [])), (5, (0, 0, 0, []))], [(16, [4, 2, 3], [0])], [], [], [(20, [0, 1, 2, 3, 5, 4, 4], [61, 1, 578]), (24, [0, 0], []), (24, [1, 1], []), (24, [2, 2], []), (24, [3, 3], [])], [], [])
theorem oo_Fa_spread_at_Nenear_0 {kA : Nat → ClassId} : or_ok PRD kA GG o_Fa_spread_at_Nenear_0 := by
  refine or_mk fun A ta ws vs hD hth hl => ?_
  intro t0 r0 t1 k1 t2 k2 t3 k3 t4 k4 t5 k5 f0
  have cr_0_999 : ta (v_ad (n_v vs 0)) = some 82 := r0
  have hK_0_999 := elq_25 hD hth cr_0_999
  have nf0 : fc_1 PRD (20, [0, 1, 2, 3, 5, 4, 4], [61, 1, 578]) ws (vs) := ⟨nf_in hl rfl, sgq_806 (vc_Fa_spread_at_Nenear_0_0 (v_iv (n_v vs 1)) (v_iv (n_v vs 2)) (v_iv (n_v vs 3)) (v_iv (n_v vs 4)) (v_iv (n_v vs 5)) (w_ei ws (v_ad (n_v vs 0))) k1 k2 k3 k4 k5 (shm_11 f0) hK_0_999)⟩
  have nf1 : fc_1 PRD (24, [0, 0], []) ws (vs) := by
    refine ⟨nf_in hl rfl, sgq_1 ?_⟩
    · show n_v vs 0 = n_v vs 0
      first | rfl | simp only [true_and]
  have nf2 : fc_1 PRD (24, [1, 1], []) ws (vs) := by
    refine ⟨nf_in hl rfl, sgq_1 ?_⟩
    · show n_v vs 1 = n_v vs 1
      first | rfl | simp only [true_and]
  have nf3 : fc_1 PRD (24, [2, 2], []) ws (vs) := by
    refine ⟨nf_in hl rfl, sgq_1 ?_⟩
    · show n_v vs 2 = n_v vs 2
      first | rfl | simp only [true_and]
  have nf4 : fc_1 PRD (24, [3, 3], []) ws (vs) := by
    refine ⟨nf_in hl rfl, sgq_1 ?_⟩
    · show n_v vs 3 = n_v vs 3
      first | rfl | simp only [true_and]
  refine ⟨(fun _ h => (by cases h)), [], trivial, ?_, (fun _ h => (by cases h))⟩
  rw [List.append_nil]
  exact List.forall_mem_cons.mpr ⟨⟨show (20 : Nat) < 100 from by decide, nf0⟩, List.forall_mem_cons.mpr ⟨⟨show (24 : Nat) < 100 from by decide, nf1⟩, List.forall_mem_cons.mpr ⟨⟨show (24 : Nat) < 100 from by decide, nf2⟩, List.forall_mem_cons.mpr ⟨⟨show (24 : Nat) < 100 from by decide, nf3⟩, List.forall_mem_cons.mpr ⟨⟨show (24 : Nat) < 100 from by decide, nf4⟩, (fun _ h => (by cases h))⟩⟩⟩⟩⟩
set_option maxHeartbeats 4000000 in
theorem vc_Fa_spread_at_Nenear_1_0 (x1 : Int) (x2 : Int) (x3 : Int) (x5 : Int) (x6 : Int) (x7 : Int) (x8 : Int) (x9 : Int) (x10 : Int) (a0_0 : Int → Int) (k1 : 0 ≤ x1 ∧ x1 ≤ 24) (k2 : 0 ≤ x2 ∧ x2 ≤ 16777215) (k3 : 0 ≤ x3 ∧ x3 ≤ 33554431) (k5 : 0 ≤ x5 ∧ x5 ≤ 24) (k6 : 0 ≤ x6 ∧ x6 ≤ 16777215) (k7 : 0 ≤ x7 ∧ x7 ≤ 33554431) (k8 : 0 ≤ x8 ∧ x8 ≤ 16777215) (k9 : 0 ≤ x9 ∧ x9 ≤ 16777215) (k10 : 0 ≤ x10 ∧ x10 ≤ 24) (d0 : x5 + 0 ≤ x10 ∧ x10 ≤ x5 + 4294967296) (d1 : x5 + (-4294967296) ≤ x1 ∧ x1 ≤ x5 + 0) (d2 : x6 + (-4294967296) ≤ x2 ∧ x2 ≤ x6 + 0) (d3 : x7 + (-4294967296) ≤ x3 ∧ x3 ≤ x7 + 0) (d4 : x1 + (-4294967296) ≤ x5 ∧ x5 ≤ x1 + 0) (d5 : x2 + (-4294967296) ≤ x6 ∧ x6 ≤ x2 + 0) (d6 : x3 + (-4294967296) ≤ x7 ∧ x7 ≤ x3 + 0) (d7 : x1 + (-4294967296) ≤ x10 ∧ x10 ≤ x1 + 0) (d8 : x5 + (-4294967296) ≤ x10 ∧ x10 ≤ x5 + 0) (f0 : x1 ≤ x10) (f1 : SPI (a0_0) (x1) (x2) (x3) (x10) (x8) (x9)) (hK_0_999 : ∀ j : Int, 0 ≤ j → j < 25 → 0 ≤ a0_0 j ∧ a0_0 j ≤ 16777215) : SPZ (a0_0) (x1) (x2) (x3) (x8) := by
  first
    | exact spz_of ‹SPI _ _ _ _ _ _ _› (by omega) (by omega)
  
def o_Fa_spread_at_Nenear_1 : or_T := (54, 11, [(0, (2, 0, 0, [82])), (1, (0, 0, 24, [])), (2, (0, 0, 16777215, [])), (3, (0, 0, 33554431, [])), (4, (2, 0, 0, [82])), (5, (0, 0, 24, [])), (6, (0, 0, 16777215, [])), (7, (0, 0, 33554431, [])), (8, (0, 0, 16777215, [])), (9, (0, 0, 16777215, [])), (10, (0, 0, 24, []))], [(7, [10, 5], [3]), (20, [4, 5, 6, 7, 10, 8, 9], [61, 1, 578]), (24, [0, 4], []), (24, [1, 5], []), (24, [2, 6], []), (24, [3, 7], [])], [], [], [(20, [0, 1, 2, 3, 8], [61, 1, 579])], [], [(10, 5, 0, 4294967296), (1, 5, -4294967296, 0), (2, 6, -4294967296, 0), (3, 7, -4294967296, 0), (5, 1, -4294967296, 0), (6, 2, -4294967296, 0), (7, 3, -4294967296, 0), (10, 1, -4294967296, 0), (10, 5, -4294967296, 0)])
theorem oo_Fa_spread_at_Nenear_1 {kA : Nat → ClassId} : or_ok PRD kA GG o_Fa_spread_at_Nenear_1 := by
  refine or_mk fun A ta ws vs hD hth hl => ?_
  intro t0 r0 t1 k1 t2 k2 t3 k3 t4 r4 t5 k5 t6 k6 t7 k7 t8 k8 t9 k9 t10 k10 d0 d1 d2 d3 d4 d5 d6 d7 d8 f0 f1 f2 f3 f4 f5
  replace f0 := shm_2 f0
  replace f1 := shm_807 f1
  replace f2 := shm_5 f2
  replace f3 := shm_5 f3
  replace f4 := shm_5 f4
  replace f5 := shm_5 f5
  have q4 : n_v vs 4 = n_v vs 0 := f2.symm
  have q5 : n_v vs 5 = n_v vs 1 := f3.symm
  have q6 : n_v vs 6 = n_v vs 2 := f4.symm
  have q7 : n_v vs 7 = n_v vs 3 := f5.symm
  simp only [q5, q4, q6, q7] at f0 f1
  have cr_0_999 : ta (v_ad (n_v vs 0)) = some 82 := r0
  have hK_0_999 := elq_25 hD hth cr_0_999
  have nf0 : fc_1 PRD (20, [0, 1, 2, 3, 8], [61, 1, 579]) ws (vs) := ⟨nf_in hl rfl, sgq_808 (vc_Fa_spread_at_Nenear_1_0 (v_iv (n_v vs 1)) (v_iv (n_v vs 2)) (v_iv (n_v vs 3)) (v_iv (n_v vs 5)) (v_iv (n_v vs 6)) (v_iv (n_v vs 7)) (v_iv (n_v vs 8)) (v_iv (n_v vs 9)) (v_iv (n_v vs 10)) (w_ei ws (v_ad (n_v vs 0))) k1 k2 k3 k5 k6 k7 k8 k9 k10 d0 d1 d2 d3 d4 d5 d6 d7 d8 f0 f1 hK_0_999)⟩
  refine ⟨(fun _ h => (by cases h)), [], trivial, ?_, (fun _ h => (by cases h))⟩
  rw [List.append_nil]
  exact List.forall_mem_cons.mpr ⟨⟨show (20 : Nat) < 100 from by decide, nf0⟩, (fun _ h => (by cases h))⟩
set_option maxHeartbeats 4000000 in
theorem vc_Fa_spread_at_Nenear_2_0 (x1 : Int) (x2 : Int) (x3 : Int) (x5 : Int) (x6 : Int) (x7 : Int) (x8 : Int) (x9 : Int) (x10 : Int) (a0_0 : Int → Int) (k1 : 1 ≤ x1 ∧ x1 ≤ 24) (k2 : 0 ≤ x2 ∧ x2 ≤ 16777215) (k3 : 0 ≤ x3 ∧ x3 ≤ 33554431) (k5 : 1 ≤ x5 ∧ x5 ≤ 24) (k6 : 0 ≤ x6 ∧ x6 ≤ 16777215) (k7 : 0 ≤ x7 ∧ x7 ≤ 33554431) (k8 : 0 ≤ x8 ∧ x8 ≤ 16777215) (k9 : 0 ≤ x9 ∧ x9 ≤ 0) (k10 : 0 ≤ x10 ∧ x10 ≤ 23) (d0 : x5 + (-4294967296) ≤ x10 ∧ x10 ≤ x5 + (-1)) (d1 : x5 + (-4294967296) ≤ x1 ∧ x1 ≤ x5 + 0) (d2 : x6 + (-4294967296) ≤ x2 ∧ x2 ≤ x6 + 0) (d3 : x7 + (-4294967296) ≤ x3 ∧ x3 ≤ x7 + 0) (d4 : x1 + (-4294967296) ≤ x5 ∧ x5 ≤ x1 + 0) (d5 : x2 + (-4294967296) ≤ x6 ∧ x6 ≤ x2 + 0) (d6 : x3 + (-4294967296) ≤ x7 ∧ x7 ≤ x3 + 0) (d7 : x1 + (-4294967296) ≤ x10 ∧ x10 ≤ x1 + 0) (d8 : x5 + (-4294967296) ≤ x10 ∧ x10 ≤ x5 + 0) (f0 : x9 = 0) (f1 : x10 < x1) (f2 : SPI (a0_0) (x1) (x2) (x3) (x10) (x8) (x9)) (hK_0_999 : ∀ j : Int, 0 ≤ j → j < 25 → 0 ≤ a0_0 j ∧ a0_0 j ≤ 16777215) : SPZ (a0_0) (x1) (x2) (x3) (x8) := by
  first
    | exact spz_of ‹SPI _ _ _ _ _ _ _› (by omega) (by omega)
  
def o_Fa_spread_at_Nenear_2 : or_T := (54, 11, [(0, (2, 0, 0, [82])), (1, (0, 1, 24, [])), (2, (0, 0, 16777215, [])), (3, (0, 0, 33554431, [])), (4, (2, 0, 0, [82])), (5, (0, 1, 24, [])), (6, (0, 0, 16777215, [])), (7, (0, 0, 33554431, [])), (8, (0, 0, 16777215, [])), (9, (0, 0, 0, [])), (10, (0, 0, 23, []))], [(8, [9], [0]), (7, [10, 5], [2]), (20, [4, 5, 6, 7, 10, 8, 9], [61, 1, 578]), (24, [0, 4], []), (24, [1, 5], []), (24, [2, 6], []), (24, [3, 7], [])], [], [], [(20, [0, 1, 2, 3, 8], [61, 1, 579])], [], [(10, 5, -4294967296, -1), (1, 5, -4294967296, 0), (2, 6, -4294967296, 0), (3, 7, -4294967296, 0), (5, 1, -4294967296, 0), (6, 2, -4294967296, 0), (7, 3, -4294967296, 0), (10, 1, -4294967296, 0), (10, 5, -4294967296, 0)])
theorem oo_Fa_spread_at_Nenear_2 {kA : Nat → ClassId} : or_ok PRD kA GG o_Fa_spread_at_Nenear_2 := by
  refine or_mk fun A ta ws vs hD hth hl => ?_
  intro t0 r0 t1 k1 t2 k2 t3 k3 t4 r4 t5 k5 t6 k6 t7 k7 t8 k8 t9 k9 t10 k10 d0 d1 d2 d3 d4 d5 d6 d7 d8 f0 f1 f2 f3 f4 f5 f6
  replace f1 := shm_6 f1
  replace f2 := shm_807 f2
  replace f3 := shm_5 f3
  replace f4 := shm_5 f4
  replace f5 := shm_5 f5
  replace f6 := shm_5 f6
  have q4 : n_v vs 4 = n_v vs 0 := f3.symm
  have q5 : n_v vs 5 = n_v vs 1 := f4.symm
  have q6 : n_v vs 6 = n_v vs 2 := f5.symm
  have q7 : n_v vs 7 = n_v vs 3 := f6.symm
  simp only [q5, q4, q6, q7] at f1 f2
  have cr_0_999 : ta (v_ad (n_v vs 0)) = some 82 := r0
  have hK_0_999 := elq_25 hD hth cr_0_999
  have nf0 : fc_1 PRD (20, [0, 1, 2, 3, 8], [61, 1, 579]) ws (vs) := ⟨nf_in hl rfl, sgq_808 (vc_Fa_spread_at_Nenear_2_0 (v_iv (n_v vs 1)) (v_iv (n_v vs 2)) (v_iv (n_v vs 3)) (v_iv (n_v vs 5)) (v_iv (n_v vs 6)) (v_iv (n_v vs 7)) (v_iv (n_v vs 8)) (v_iv (n_v vs 9)) (v_iv (n_v vs 10)) (w_ei ws (v_ad (n_v vs 0))) k1 k2 k3 k5 k6 k7 k8 k9 k10 d0 d1 d2 d3 d4 d5 d6 d7 d8 (shm_210 f0) f1 f2 hK_0_999)⟩
  refine ⟨(fun _ h => (by cases h)), [], trivial, ?_, (fun _ h => (by cases h))⟩
  rw [List.append_nil]
  exact List.forall_mem_cons.mpr ⟨⟨show (20 : Nat) < 100 from by decide, nf0⟩, (fun _ h => (by cases h))⟩
set_option maxHeartbeats 4000000 in
theorem vc_Fa_spread_at_Nenear_3_0 (x1 : Int) (x2 : Int) (x3 : Int) (x5 : Int) (x6 : Int) (x7 : Int) (x8 : Int) (x9 : Int) (x10 : Int) (x11 : Int) (x12 : Int) (x13 : Int) (x14 : Int) (x15 : Int) (x16 : Int) (x17 : Int) (a0_0 : Int → Int) (k1 : 1 ≤ x1 ∧ x1 ≤ 24) (k2 : 0 ≤ x2 ∧ x2 ≤ 16777215) (k3 : 0 ≤ x3 ∧ x3 ≤ 33554431) (k5 : 1 ≤ x5 ∧ x5 ≤ 24) (k6 : 0 ≤ x6 ∧ x6 ≤ 16777215) (k7 : 0 ≤ x7 ∧ x7 ≤ 33554431) (k8 : 0 ≤ x8 ∧ x8 ≤ 16777215) (k9 : 1 ≤ x9 ∧ x9 ≤ 16777215) (k10 : 0 ≤ x10 ∧ x10 ≤ 23) (k11 : 0 ≤ x11 ∧ x11 ≤ 16777215) (k12 : 0 ≤ x12 ∧ x12 ≤ 16777215) (k13 : (-1) ≤ x13 ∧ x13 ≤ (-1)) (k14 : (-2147483648) ≤ x14 ∧ x14 ≤ 2147483647) (k15 : 0 ≤ x15 ∧ x15 ≤ 16777215) (k16 : 0 ≤ x16 ∧ x16 ≤ 16777215) (k17 : 1 ≤ x17 ∧ x17 ≤ 24) (d0 : x10 + 1 ≤ x17 ∧ x17 ≤ x10 + 1) (d1 : x5 + (-4294967296) ≤ x17 ∧ x17 ≤ x5 + 0) (d2 : x1 + (-4294967296) ≤ x17 ∧ x17 ≤ x1 + 1) (d3 : x5 + (-4294967296) ≤ x17 ∧ x17 ≤ x5 + 1) (d4 : x5 + (-4294967296) ≤ x10 ∧ x10 ≤ x5 + (-1)) (d5 : x5 + (-4294967296) ≤ x1 ∧ x1 ≤ x5 + 0) (d6 : x6 + (-4294967296) ≤ x2 ∧ x2 ≤ x6 + 0) (d7 : x7 + (-4294967296) ≤ x3 ∧ x3 ≤ x7 + 0) (d8 : x1 + (-4294967296) ≤ x5 ∧ x5 ≤ x1 + 0) (d9 : x2 + (-4294967296) ≤ x6 ∧ x6 ≤ x2 + 0) (d10 : x3 + (-4294967296) ≤ x7 ∧ x7 ≤ x3 + 0) (d11 : x1 + (-4294967296) ≤ x10 ∧ x10 ≤ x1 + 0) (d12 : x5 + (-4294967296) ≤ x10 ∧ x10 ≤ x5 + 0) (f0 : x17 = x10 + 1) (f1 : x16 ≤ x8 + x15 ∧ x8 ≤ x16 ∧ x15 ≤ x16) (f2 : bvp (x16) = bvp (x8) ||| bvp (x15)) (f3 : bvp (x15) = bvp (x12) &&& bvp (x14)) (f4 : bvp (x14) = bvp (x8) ^^^ bvp (x13)) (f5 : bvp (x12) = bvp (x11) &&& bvp (x3)) (f6 : NEF (a0_0) (x1) (x9) (x11)) (f7 : x9 ≠ 0) (f8 : x10 < x1) (f9 : SPI (a0_0) (x1) (x2) (x3) (x10) (x8) (x9)) (hK_0_999 : ∀ j : Int, 0 ≤ j → j < 25 → 0 ≤ a0_0 j ∧ a0_0 j ≤ 16777215) : SPI (a0_0) (x1) (x2) (x3) (x17) (x16) (x15) := by
  first
    | exact spi_start (by assumption) (by omega) (by omega) (by omega) (by omega)
    | exact spi_step ‹SPI _ _ _ _ _ _ _› (by omega) (by omega) (by omega) ‹NEF _ _ _ _› (by assumption) (by assumption) (by omega) (by assumption) (by assumption) (by omega)
  
def o_Fa_spread_at_Nenear_3 : or_T := (12, 18, [(0, (2, 0, 0, [82])), (1, (0, 1, 24, [])), (2, (0, 0, 16777215, [])), (3, (0, 0, 33554431, [])), (5, (0, 1, 24, [])), (6, (0, 0, 16777215, [])), (7, (0, 0, 33554431, [])), (8, (0, 0, 16777215, [])), (9, (0, 1, 16777215, [])), (10, (0, 0, 23, [])), (11, (0, 0, 16777215, [])), (12, (0, 0, 16777215, [])), (13, (0, -1, -1, [])), (14, (0, -2147483648, 2147483647, [])), (15, (0, 0, 16777215, [])), (16, (0, 0, 16777215, [])), (17, (0, 1, 24, []))], [(6, [17, 10], [1]), (13, [16, 8, 15], []), (16, [16, 8, 15], [1]), (16, [15, 12, 14], [0]), (16, [14, 8, 13], [2]), (16, [12, 11, 7], [0]), (20, [4, 5, 9, 11], [61, 1, 557]), (8, [9], [1]), (7, [10, 5], [2]), (20, [4, 5, 6, 7, 10, 8, 9], [61, 1, 578]), (24, [0, 4], []), (24, [1, 5], []), (24, [2, 6], []), (24, [3, 7], [])], [], [], [(20, [4, 5, 6, 7, 17, 16, 15], [61, 1, 578])], [], [(17, 10, 1, 1), (17, 5, -4294967296, 0), (17, 1, -4294967296, 1), (17, 5, -4294967296, 1), (10, 5, -4294967296, -1), (1, 5, -4294967296, 0), (2, 6, -4294967296, 0), (3, 7, -4294967296, 0), (5, 1, -4294967296, 0), (6, 2, -4294967296, 0), (7, 3, -4294967296, 0), (10, 1, -4294967296, 0), (10, 5, -4294967296, 0)])
theorem oo_Fa_spread_at_Nenear_3 {kA : Nat → ClassId} : or_ok PRD kA GG o_Fa_spread_at_Nenear_3 := by
  refine or_mk fun A ta ws vs hD hth hl => ?_
  intro t0 r0 t1 k1 t2 k2 t3 k3 t5 k5 t6 k6 t7 k7 t8 k8 t9 k9 t10 k10 t11 k11 t12 k12 t13 k13 t14 k14 t15 k15 t16 k16 t17 k17 d0 d1 d2 d3 d4 d5 d6 d7 d8 d9 d10 d11 d12 f0 f1 f2 f3 f4 f5 f6 f7 f8 f9 f10 f11 f12 f13
  replace f0 := shm_4 f0
  have f1 : v_iv (n_v vs 16) ≤ v_iv (n_v vs 8) + v_iv (n_v vs 15) ∧ v_iv (n_v vs 8) ≤ v_iv (n_v vs 16) ∧ v_iv (n_v vs 15) ≤ v_iv (n_v vs 16) := (fun (h : v_iv (n_v vs 16) ≤ v_iv (n_v vs 8) + v_iv (n_v vs 15) ∧ v_iv (n_v vs 8) ≤ v_iv (n_v vs 16) ∧ v_iv (n_v vs 15) ≤ v_iv (n_v vs 16) ∧ (v_iv (n_v vs 16)).toNat = (v_iv (n_v vs 8)).toNat ||| (v_iv (n_v vs 15)).toNat) => ⟨h.1, h.2.1, h.2.2.1⟩) f1
  replace f2 := shm_372 f2
  replace f3 := shm_11 f3
  replace f4 := shm_33 f4
  replace f5 := shm_11 f5
  replace f6 := shm_381 f6
  replace f7 := shm_154 f7
  replace f8 := shm_6 f8
  replace f9 := shm_807 f9
  replace f10 := shm_5 f10
  replace f11 := shm_5 f11
  replace f12 := shm_5 f12
  replace f13 := shm_5 f13
  have q4 : n_v vs 4 = n_v vs 0 := f10.symm
  have q5 : n_v vs 5 = n_v vs 1 := f11.symm
  have q6 : n_v vs 6 = n_v vs 2 := f12.symm
  have q7 : n_v vs 7 = n_v vs 3 := f13.symm
  simp only [q7, q4, q5, q6] at f5 f6 f8 f9
  have cr_0_999 : ta (v_ad (n_v vs 0)) = some 82 := r0
  have hK_0_999 := elq_25 hD hth cr_0_999
  have nf0 : fc_1 PRD (20, [4, 5, 6, 7, 17, 16, 15], [61, 1, 578]) ws (vs) := by
    refine ⟨nf_in hl rfl, sgq_807 ?_⟩
    · show SPI (w_ei ws (v_ad (n_v vs 4))) (v_iv (n_v vs 5)) (v_iv (n_v vs 6)) (v_iv (n_v vs 7)) (v_iv (n_v vs 17)) (v_iv (n_v vs 16)) (v_iv (n_v vs 15))
      simp only [q4, q5, q6, q7]
      exact vc_Fa_spread_at_Nenear_3_0 (v_iv (n_v vs 1)) (v_iv (n_v vs 2)) (v_iv (n_v vs 3)) (v_iv (n_v vs 5)) (v_iv (n_v vs 6)) (v_iv (n_v vs 7)) (v_iv (n_v vs 8)) (v_iv (n_v vs 9)) (v_iv (n_v vs 10)) (v_iv (n_v vs 11)) (v_iv (n_v vs 12)) (v_iv (n_v vs 13)) (v_iv (n_v vs 14)) (v_iv (n_v vs 15)) (v_iv (n_v vs 16)) (v_iv (n_v vs 17)) (w_ei ws (v_ad (n_v vs 0))) k1 k2 k3 k5 k6 k7 k8 k9 k10 k11 k12 k13 k14 k15 k16 k17 d0 d1 d2 d3 d4 d5 d6 d7 d8 d9 d10 d11 d12 f0 f1 f2 f3 f4 f5 f6 f7 f8 f9 hK_0_999
  refine ⟨(fun _ h => (by cases h)), [], trivial, ?_, (fun _ h => (by cases h))⟩
  rw [List.append_nil]
  exact List.forall_mem_cons.mpr ⟨⟨show (20 : Nat) < 100 from by decide, nf0⟩, (fun _ h => (by cases h))⟩
def n_Fa_spread_at_Nenear_an : List an_T := [(12, [(0, (2, 0, 0, [82])), (1, (0, 0, 24, [])), (2, (0, 0, 16777215, [])), (3, (0, 0, 33554431, [])), (4, (0, 0, 16777215, [])), (5, (0, 0, 16777215, [])), (6, (0, 0, 24, []))], [], (0, 0), [(0, 0, 99988), (1, 10, 24), (0, 0, 100000)], [(1, 5, (Int.negSucc 999999999999), 0), (2, 6, (Int.negSucc 999999999999), 0), (3, 7, (Int.negSucc 999999999999), 0), (5, 1, (Int.negSucc 999999999999), 0), (6, 2, (Int.negSucc 999999999999), 0), (7, 3, (Int.negSucc 999999999999), 0), (10, 1, (Int.negSucc 999999999999), 0), (10, 5, (Int.negSucc 999999999999), 0)], [], [(2, 0, 0, [82]), (0, 0, 24, []), (0, 0, 16777215, []), (0, 0, 33554431, [])], 0, [], [(20, [4, 5, 6, 7, 10, 8, 9], [61, 1, 578]), (24, [0, 4], []), (24, [1, 5], []), (24, [2, 6], []), (24, [3, 7], [])])]
def t_Fa_spread_at_Nenear_ct : ct_L := [(84, 97, e_Fa_nearOf_at_Nenear)]
set_option maxRecDepth 100000 in
theorem c_Fa_spread_at_Nenear {l : Launch} {D : va_G} {kA : Nat → ClassId} (h_Fa_nearOf_at_Nenear : ct_ok PRD l D kA GG y_Fa_nearOf_at_Nenear z_Fa_nearOf_at_Nenear e_Fa_nearOf_at_Nenear) : ct_ok PRD l D kA GG y_Fa_spread_at_Nenear z_Fa_spread_at_Nenear e_Fa_spread_at_Nenear := chk_all_ok (FT := []) (PT := []) (CT := t_Fa_spread_at_Nenear_ct) (KT := []) (NT := []) (AN := n_Fa_spread_at_Nenear_an) (OT := [o_Fa_spread_at_Nenear_0, o_Fa_spread_at_Nenear_1, o_Fa_spread_at_Nenear_2, o_Fa_spread_at_Nenear_3]) 3 200 (List.forall_mem_cons.mpr ⟨oo_Fa_spread_at_Nenear_0, List.forall_mem_cons.mpr ⟨oo_Fa_spread_at_Nenear_1, List.forall_mem_cons.mpr ⟨oo_Fa_spread_at_Nenear_2, List.forall_mem_cons.mpr ⟨oo_Fa_spread_at_Nenear_3, List.forall_mem_nil _⟩⟩⟩⟩) (by decide +kernel) ⟨List.forall_mem_nil _, List.forall_mem_nil _, List.forall_mem_cons.mpr ⟨cl_static (y := y_Fa_nearOf_at_Nenear) h_Fa_nearOf_at_Nenear wm_824 wm_7 wm_822 wm_823 ⟨by decide, by decide, by decide +kernel⟩ (by decide), List.forall_mem_nil _⟩, List.forall_mem_nil _, List.forall_mem_nil _, GG_pl⟩ (by decide +kernel)
set_option maxHeartbeats 4000000 in
theorem vc_Fa_spread_at_Npnear_0_0 (x1 : Int) (x2 : Int) (x3 : Int) (x4 : Int) (x5 : Int) (a0_0 : Int → Int) (k1 : 0 ≤ x1 ∧ x1 ≤ 25) (k2 : 0 ≤ x2 ∧ x2 ≤ 33554431) (k3 : 0 ≤ x3 ∧ x3 ≤ 33554431) (k4 : 0 ≤ x4 ∧ x4 ≤ 33554431) (k5 : 0 ≤ x5 ∧ x5 ≤ 0) (f0 : bvp (x4) = bvp (x2) &&& bvp (x3)) (hK_0_999 : ∀ j : Int, 0 ≤ j → j < 25 → 0 ≤ a0_0 j ∧ a0_0 j ≤ 33554431) : SPI (a0_0) (x1) (x2) (x3) (x5) (x4) (x4) := by
  first
    | exact spi_start (by assumption) (by omega) (by omega) (by omega) (by omega)
    | exact spi_step ‹SPI _ _ _ _ _ _ _› (by omega) (by omega) (by omega) ‹NEF _ _ _ _› (by assumption) (by assumption) (by omega) (by assumption) (by assumption) (by omega)
  
def o_Fa_spread_at_Npnear_0 : or_T := (12, 6, [(0, (2, 0, 0, [142])), (1, (0, 0, 25, [])), (2, (0, 0, 33554431, [])), (3, (0, 0, 33554431, [])), (4, (0, 0, 33554431, [])), (5, (0, 0, 0, []))], [(16, [4, 2, 3], [0])], [], [], [(20, [0, 1, 2, 3, 5, 4, 4], [61, 1, 578]), (24, [0, 0], []), (24, [1, 1], []), (24, [2, 2], []), (24, [3, 3], [])], [], [])
theorem oo_Fa_spread_at_Npnear_0 {kA : Nat → ClassId} : or_ok PRD kA GG o_Fa_spread_at_Npnear_0 := by
  refine or_mk fun A ta ws vs hD hth hl => ?_
  intro t0 r0 t1 k1 t2 k2 t3 k3 t4 k4 t5 k5 f0
  have cr_0_999 : ta (v_ad (n_v vs 0)) = some 142 := r0
  have hK_0_999 := elq_26 hD hth cr_0_999
  have nf0 : fc_1 PRD (20, [0, 1, 2, 3, 5, 4, 4], [61, 1, 578]) ws (vs) := ⟨nf_in hl rfl, sgq_806 (vc_Fa_spread_at_Npnear_0_0 (v_iv (n_v vs 1)) (v_iv (n_v vs 2)) (v_iv (n_v vs 3)) (v_iv (n_v vs 4)) (v_iv (n_v vs 5)) (w_ei ws (v_ad (n_v vs 0))) k1 k2 k3 k4 k5 (shm_11 f0) hK_0_999)⟩
  have nf1 : fc_1 PRD (24, [0, 0], []) ws (vs) := by
    refine ⟨nf_in hl rfl, sgq_1 ?_⟩
    · show n_v vs 0 = n_v vs 0
      first | rfl | simp only [true_and]
  have nf2 : fc_1 PRD (24, [1, 1], []) ws (vs) := by
    refine ⟨nf_in hl rfl, sgq_1 ?_⟩
    · show n_v vs 1 = n_v vs 1
      first | rfl | simp only [true_and]
  have nf3 : fc_1 PRD (24, [2, 2], []) ws (vs) := by
    refine ⟨nf_in hl rfl, sgq_1 ?_⟩
    · show n_v vs 2 = n_v vs 2
      first | rfl | simp only [true_and]
  have nf4 : fc_1 PRD (24, [3, 3], []) ws (vs) := by
    refine ⟨nf_in hl rfl, sgq_1 ?_⟩
    · show n_v vs 3 = n_v vs 3
      first | rfl | simp only [true_and]
  refine ⟨(fun _ h => (by cases h)), [], trivial, ?_, (fun _ h => (by cases h))⟩
  rw [List.append_nil]
  exact List.forall_mem_cons.mpr ⟨⟨show (20 : Nat) < 100 from by decide, nf0⟩, List.forall_mem_cons.mpr ⟨⟨show (24 : Nat) < 100 from by decide, nf1⟩, List.forall_mem_cons.mpr ⟨⟨show (24 : Nat) < 100 from by decide, nf2⟩, List.forall_mem_cons.mpr ⟨⟨show (24 : Nat) < 100 from by decide, nf3⟩, List.forall_mem_cons.mpr ⟨⟨show (24 : Nat) < 100 from by decide, nf4⟩, (fun _ h => (by cases h))⟩⟩⟩⟩⟩
set_option maxHeartbeats 4000000 in
theorem vc_Fa_spread_at_Npnear_1_0 (x1 : Int) (x2 : Int) (x3 : Int) (x5 : Int) (x6 : Int) (x7 : Int) (x8 : Int) (x9 : Int) (x10 : Int) (a0_0 : Int → Int) (k1 : 0 ≤ x1 ∧ x1 ≤ 25) (k2 : 0 ≤ x2 ∧ x2 ≤ 33554431) (k3 : 0 ≤ x3 ∧ x3 ≤ 33554431) (k5 : 0 ≤ x5 ∧ x5 ≤ 25) (k6 : 0 ≤ x6 ∧ x6 ≤ 33554431) (k7 : 0 ≤ x7 ∧ x7 ≤ 33554431) (k8 : 0 ≤ x8 ∧ x8 ≤ 33554431) (k9 : 0 ≤ x9 ∧ x9 ≤ 33554431) (k10 : 0 ≤ x10 ∧ x10 ≤ 25) (d0 : x5 + 0 ≤ x10 ∧ x10 ≤ x5 + 4294967296) (d1 : x5 + (-4294967296) ≤ x1 ∧ x1 ≤ x5 + 0) (d2 : x6 + (-4294967296) ≤ x2 ∧ x2 ≤ x6 + 0) (d3 : x7 + (-4294967296) ≤ x3 ∧ x3 ≤ x7 + 0) (d4 : x1 + (-4294967296) ≤ x5 ∧ x5 ≤ x1 + 0) (d5 : x2 + (-4294967296) ≤ x6 ∧ x6 ≤ x2 + 0) (d6 : x3 + (-4294967296) ≤ x7 ∧ x7 ≤ x3 + 0) (d7 : x1 + (-4294967296) ≤ x10 ∧ x10 ≤ x1 + 0) (d8 : x5 + (-4294967296) ≤ x10 ∧ x10 ≤ x5 + 0) (f0 : x1 ≤ x10) (f1 : SPI (a0_0) (x1) (x2) (x3) (x10) (x8) (x9)) (hK_0_999 : ∀ j : Int, 0 ≤ j → j < 25 → 0 ≤ a0_0 j ∧ a0_0 j ≤ 33554431) : SPZ (a0_0) (x1) (x2) (x3) (x8) := by
  first
    | exact spz_of ‹SPI _ _ _ _ _ _ _› (by omega) (by omega)
  
def o_Fa_spread_at_Npnear_1 : or_T := (54, 11, [(0, (2, 0, 0, [142])), (1, (0, 0, 25, [])), (2, (0, 0, 33554431, [])), (3, (0, 0, 33554431, [])), (4, (2, 0, 0, [142])), (5, (0, 0, 25, [])), (6, (0, 0, 33554431, [])), (7, (0, 0, 33554431, [])), (8, (0, 0, 33554431, [])), (9, (0, 0, 33554431, [])), (10, (0, 0, 25, []))], [(7, [10, 5], [3]), (20, [4, 5, 6, 7, 10, 8, 9], [61, 1, 578]), (24, [0, 4], []), (24, [1, 5], []), (24, [2, 6], []), (24, [3, 7], [])], [], [], [(20, [0, 1, 2, 3, 8], [61, 1, 579])], [], [(10, 5, 0, 4294967296), (1, 5, -4294967296, 0), (2, 6, -4294967296, 0), (3, 7, -4294967296, 0), (5, 1, -4294967296, 0), (6, 2, -4294967296, 0), (7, 3, -4294967296, 0), (10, 1, -4294967296, 0), (10, 5, -4294967296, 0)])
theorem oo_Fa_spread_at_Npnear_1 {kA : Nat → ClassId} : or_ok PRD kA GG o_Fa_spread_at_Npnear_1 := by
  refine or_mk fun A ta ws vs hD hth hl => ?_
  intro t0 r0 t1 k1 t2 k2 t3 k3 t4 r4 t5 k5 t6 k6 t7 k7 t8 k8 t9 k9 t10 k10 d0 d1 d2 d3 d4 d5 d6 d7 d8 f0 f1 f2 f3 f4 f5
  replace f0 := shm_2 f0
  replace f1 := shm_807 f1
  replace f2 := shm_5 f2
  replace f3 := shm_5 f3
  replace f4 := shm_5 f4
  replace f5 := shm_5 f5
  have q4 : n_v vs 4 = n_v vs 0 := f2.symm
  have q5 : n_v vs 5 = n_v vs 1 := f3.symm
  have q6 : n_v vs 6 = n_v vs 2 := f4.symm
  have q7 : n_v vs 7 = n_v vs 3 := f5.symm
  simp only [q5, q4, q6, q7] at f0 f1
  have cr_0_999 : ta (v_ad (n_v vs 0)) = some 142 := r0
  have hK_0_999 := elq_26 hD hth cr_0_999
  have nf0 : fc_1 PRD (20, [0, 1, 2, 3, 8], [61, 1, 579]) ws (vs) := ⟨nf_in hl rfl, sgq_808 (vc_Fa_spread_at_Npnear_1_0 (v_iv (n_v vs 1)) (v_iv (n_v vs 2)) (v_iv (n_v vs 3)) (v_iv (n_v vs 5)) (v_iv (n_v vs 6)) (v_iv (n_v vs 7)) (v_iv (n_v vs 8)) (v_iv (n_v vs 9)) (v_iv (n_v vs 10)) (w_ei ws (v_ad (n_v vs 0))) k1 k2 k3 k5 k6 k7 k8 k9 k10 d0 d1 d2 d3 d4 d5 d6 d7 d8 f0 f1 hK_0_999)⟩
  refine ⟨(fun _ h => (by cases h)), [], trivial, ?_, (fun _ h => (by cases h))⟩
  rw [List.append_nil]
  exact List.forall_mem_cons.mpr ⟨⟨show (20 : Nat) < 100 from by decide, nf0⟩, (fun _ h => (by cases h))⟩
set_option maxHeartbeats 4000000 in
theorem vc_Fa_spread_at_Npnear_2_0 (x1 : Int) (x2 : Int) (x3 : Int) (x5 : Int) (x6 : Int) (x7 : Int) (x8 : Int) (x9 : Int) (x10 : Int) (a0_0 : Int → Int) (k1 : 1 ≤ x1 ∧ x1 ≤ 25) (k2 : 0 ≤ x2 ∧ x2 ≤ 33554431) (k3 : 0 ≤ x3 ∧ x3 ≤ 33554431) (k5 : 1 ≤ x5 ∧ x5 ≤ 25) (k6 : 0 ≤ x6 ∧ x6 ≤ 33554431) (k7 : 0 ≤ x7 ∧ x7 ≤ 33554431) (k8 : 0 ≤ x8 ∧ x8 ≤ 33554431) (k9 : 0 ≤ x9 ∧ x9 ≤ 0) (k10 : 0 ≤ x10 ∧ x10 ≤ 24) (d0 : x5 + (-4294967296) ≤ x10 ∧ x10 ≤ x5 + (-1)) (d1 : x5 + (-4294967296) ≤ x1 ∧ x1 ≤ x5 + 0) (d2 : x6 + (-4294967296) ≤ x2 ∧ x2 ≤ x6 + 0) (d3 : x7 + (-4294967296) ≤ x3 ∧ x3 ≤ x7 + 0) (d4 : x1 + (-4294967296) ≤ x5 ∧ x5 ≤ x1 + 0) (d5 : x2 + (-4294967296) ≤ x6 ∧ x6 ≤ x2 + 0) (d6 : x3 + (-4294967296) ≤ x7 ∧ x7 ≤ x3 + 0) (d7 : x1 + (-4294967296) ≤ x10 ∧ x10 ≤ x1 + 0) (d8 : x5 + (-4294967296) ≤ x10 ∧ x10 ≤ x5 + 0) (f0 : x9 = 0) (f1 : x10 < x1) (f2 : SPI (a0_0) (x1) (x2) (x3) (x10) (x8) (x9)) (hK_0_999 : ∀ j : Int, 0 ≤ j → j < 25 → 0 ≤ a0_0 j ∧ a0_0 j ≤ 33554431) : SPZ (a0_0) (x1) (x2) (x3) (x8) := by
  first
    | exact spz_of ‹SPI _ _ _ _ _ _ _› (by omega) (by omega)
  
def o_Fa_spread_at_Npnear_2 : or_T := (54, 11, [(0, (2, 0, 0, [142])), (1, (0, 1, 25, [])), (2, (0, 0, 33554431, [])), (3, (0, 0, 33554431, [])), (4, (2, 0, 0, [142])), (5, (0, 1, 25, [])), (6, (0, 0, 33554431, [])), (7, (0, 0, 33554431, [])), (8, (0, 0, 33554431, [])), (9, (0, 0, 0, [])), (10, (0, 0, 24, []))], [(8, [9], [0]), (7, [10, 5], [2]), (20, [4, 5, 6, 7, 10, 8, 9], [61, 1, 578]), (24, [0, 4], []), (24, [1, 5], []), (24, [2, 6], []), (24, [3, 7], [])], [], [], [(20, [0, 1, 2, 3, 8], [61, 1, 579])], [], [(10, 5, -4294967296, -1), (1, 5, -4294967296, 0), (2, 6, -4294967296, 0), (3, 7, -4294967296, 0), (5, 1, -4294967296, 0), (6, 2, -4294967296, 0), (7, 3, -4294967296, 0), (10, 1, -4294967296, 0), (10, 5, -4294967296, 0)])
theorem oo_Fa_spread_at_Npnear_2 {kA : Nat → ClassId} : or_ok PRD kA GG o_Fa_spread_at_Npnear_2 := by
  refine or_mk fun A ta ws vs hD hth hl => ?_
  intro t0 r0 t1 k1 t2 k2 t3 k3 t4 r4 t5 k5 t6 k6 t7 k7 t8 k8 t9 k9 t10 k10 d0 d1 d2 d3 d4 d5 d6 d7 d8 f0 f1 f2 f3 f4 f5 f6
  replace f1 := shm_6 f1
  replace f2 := shm_807 f2
  replace f3 := shm_5 f3
  replace f4 := shm_5 f4
  replace f5 := shm_5 f5
  replace f6 := shm_5 f6
  have q4 : n_v vs 4 = n_v vs 0 := f3.symm
  have q5 : n_v vs 5 = n_v vs 1 := f4.symm
  have q6 : n_v vs 6 = n_v vs 2 := f5.symm
  have q7 : n_v vs 7 = n_v vs 3 := f6.symm
  simp only [q5, q4, q6, q7] at f1 f2
  have cr_0_999 : ta (v_ad (n_v vs 0)) = some 142 := r0
  have hK_0_999 := elq_26 hD hth cr_0_999
  have nf0 : fc_1 PRD (20, [0, 1, 2, 3, 8], [61, 1, 579]) ws (vs) := ⟨nf_in hl rfl, sgq_808 (vc_Fa_spread_at_Npnear_2_0 (v_iv (n_v vs 1)) (v_iv (n_v vs 2)) (v_iv (n_v vs 3)) (v_iv (n_v vs 5)) (v_iv (n_v vs 6)) (v_iv (n_v vs 7)) (v_iv (n_v vs 8)) (v_iv (n_v vs 9)) (v_iv (n_v vs 10)) (w_ei ws (v_ad (n_v vs 0))) k1 k2 k3 k5 k6 k7 k8 k9 k10 d0 d1 d2 d3 d4 d5 d6 d7 d8 (shm_210 f0) f1 f2 hK_0_999)⟩
  refine ⟨(fun _ h => (by cases h)), [], trivial, ?_, (fun _ h => (by cases h))⟩
  rw [List.append_nil]
  exact List.forall_mem_cons.mpr ⟨⟨show (20 : Nat) < 100 from by decide, nf0⟩, (fun _ h => (by cases h))⟩
set_option maxHeartbeats 4000000 in
theorem vc_Fa_spread_at_Npnear_3_0 (x1 : Int) (x2 : Int) (x3 : Int) (x5 : Int) (x6 : Int) (x7 : Int) (x8 : Int) (x9 : Int) (x10 : Int) (x11 : Int) (x12 : Int) (x13 : Int) (x14 : Int) (x15 : Int) (x16 : Int) (x17 : Int) (a0_0 : Int → Int) (k1 : 1 ≤ x1 ∧ x1 ≤ 25) (k2 : 0 ≤ x2 ∧ x2 ≤ 33554431) (k3 : 0 ≤ x3 ∧ x3 ≤ 33554431) (k5 : 1 ≤ x5 ∧ x5 ≤ 25) (k6 : 0 ≤ x6 ∧ x6 ≤ 33554431) (k7 : 0 ≤ x7 ∧ x7 ≤ 33554431) (k8 : 0 ≤ x8 ∧ x8 ≤ 33554431) (k9 : 1 ≤ x9 ∧ x9 ≤ 33554431) (k10 : 0 ≤ x10 ∧ x10 ≤ 24) (k11 : 0 ≤ x11 ∧ x11 ≤ 33554431) (k12 : 0 ≤ x12 ∧ x12 ≤ 33554431) (k13 : (-1) ≤ x13 ∧ x13 ≤ (-1)) (k14 : (-2147483648) ≤ x14 ∧ x14 ≤ 2147483647) (k15 : 0 ≤ x15 ∧ x15 ≤ 33554431) (k16 : 0 ≤ x16 ∧ x16 ≤ 33554431) (k17 : 1 ≤ x17 ∧ x17 ≤ 25) (d0 : x10 + 1 ≤ x17 ∧ x17 ≤ x10 + 1) (d1 : x5 + (-4294967296) ≤ x17 ∧ x17 ≤ x5 + 0) (d2 : x1 + (-4294967296) ≤ x17 ∧ x17 ≤ x1 + 1) (d3 : x5 + (-4294967296) ≤ x17 ∧ x17 ≤ x5 + 1) (d4 : x5 + (-4294967296) ≤ x10 ∧ x10 ≤ x5 + (-1)) (d5 : x5 + (-4294967296) ≤ x1 ∧ x1 ≤ x5 + 0) (d6 : x6 + (-4294967296) ≤ x2 ∧ x2 ≤ x6 + 0) (d7 : x7 + (-4294967296) ≤ x3 ∧ x3 ≤ x7 + 0) (d8 : x1 + (-4294967296) ≤ x5 ∧ x5 ≤ x1 + 0) (d9 : x2 + (-4294967296) ≤ x6 ∧ x6 ≤ x2 + 0) (d10 : x3 + (-4294967296) ≤ x7 ∧ x7 ≤ x3 + 0) (d11 : x1 + (-4294967296) ≤ x10 ∧ x10 ≤ x1 + 0) (d12 : x5 + (-4294967296) ≤ x10 ∧ x10 ≤ x5 + 0) (f0 : x17 = x10 + 1) (f1 : x16 ≤ x8 + x15 ∧ x8 ≤ x16 ∧ x15 ≤ x16) (f2 : bvp (x16) = bvp (x8) ||| bvp (x15)) (f3 : bvp (x15) = bvp (x12) &&& bvp (x14)) (f4 : bvp (x14) = bvp (x8) ^^^ bvp (x13)) (f5 : bvp (x12) = bvp (x11) &&& bvp (x3)) (f6 : NEF (a0_0) (x1) (x9) (x11)) (f7 : x9 ≠ 0) (f8 : x10 < x1) (f9 : SPI (a0_0) (x1) (x2) (x3) (x10) (x8) (x9)) (hK_0_999 : ∀ j : Int, 0 ≤ j → j < 25 → 0 ≤ a0_0 j ∧ a0_0 j ≤ 33554431) : SPI (a0_0) (x1) (x2) (x3) (x17) (x16) (x15) := by
  first
    | exact spi_start (by assumption) (by omega) (by omega) (by omega) (by omega)
    | exact spi_step ‹SPI _ _ _ _ _ _ _› (by omega) (by omega) (by omega) ‹NEF _ _ _ _› (by assumption) (by assumption) (by omega) (by assumption) (by assumption) (by omega)
  
def o_Fa_spread_at_Npnear_3 : or_T := (12, 18, [(0, (2, 0, 0, [142])), (1, (0, 1, 25, [])), (2, (0, 0, 33554431, [])), (3, (0, 0, 33554431, [])), (5, (0, 1, 25, [])), (6, (0, 0, 33554431, [])), (7, (0, 0, 33554431, [])), (8, (0, 0, 33554431, [])), (9, (0, 1, 33554431, [])), (10, (0, 0, 24, [])), (11, (0, 0, 33554431, [])), (12, (0, 0, 33554431, [])), (13, (0, -1, -1, [])), (14, (0, -2147483648, 2147483647, [])), (15, (0, 0, 33554431, [])), (16, (0, 0, 33554431, [])), (17, (0, 1, 25, []))], [(6, [17, 10], [1]), (13, [16, 8, 15], []), (16, [16, 8, 15], [1]), (16, [15, 12, 14], [0]), (16, [14, 8, 13], [2]), (16, [12, 11, 7], [0]), (20, [4, 5, 9, 11], [61, 1, 557]), (8, [9], [1]), (7, [10, 5], [2]), (20, [4, 5, 6, 7, 10, 8, 9], [61, 1, 578]), (24, [0, 4], []), (24, [1, 5], []), (24, [2, 6], []), (24, [3, 7], [])], [], [], [(20, [4, 5, 6, 7, 17, 16, 15], [61, 1, 578])], [], [(17, 10, 1, 1), (17, 5, -4294967296, 0), (17, 1, -4294967296, 1), (17, 5, -4294967296, 1), (10, 5, -4294967296, -1), (1, 5, -4294967296, 0), (2, 6, -4294967296, 0), (3, 7, -4294967296, 0), (5, 1, -4294967296, 0), (6, 2, -4294967296, 0), (7, 3, -4294967296, 0), (10, 1, -4294967296, 0), (10, 5, -4294967296, 0)])
theorem oo_Fa_spread_at_Npnear_3 {kA : Nat → ClassId} : or_ok PRD kA GG o_Fa_spread_at_Npnear_3 := by
  refine or_mk fun A ta ws vs hD hth hl => ?_
  intro t0 r0 t1 k1 t2 k2 t3 k3 t5 k5 t6 k6 t7 k7 t8 k8 t9 k9 t10 k10 t11 k11 t12 k12 t13 k13 t14 k14 t15 k15 t16 k16 t17 k17 d0 d1 d2 d3 d4 d5 d6 d7 d8 d9 d10 d11 d12 f0 f1 f2 f3 f4 f5 f6 f7 f8 f9 f10 f11 f12 f13
  replace f0 := shm_4 f0
  have f1 : v_iv (n_v vs 16) ≤ v_iv (n_v vs 8) + v_iv (n_v vs 15) ∧ v_iv (n_v vs 8) ≤ v_iv (n_v vs 16) ∧ v_iv (n_v vs 15) ≤ v_iv (n_v vs 16) := (fun (h : v_iv (n_v vs 16) ≤ v_iv (n_v vs 8) + v_iv (n_v vs 15) ∧ v_iv (n_v vs 8) ≤ v_iv (n_v vs 16) ∧ v_iv (n_v vs 15) ≤ v_iv (n_v vs 16) ∧ (v_iv (n_v vs 16)).toNat = (v_iv (n_v vs 8)).toNat ||| (v_iv (n_v vs 15)).toNat) => ⟨h.1, h.2.1, h.2.2.1⟩) f1
  replace f2 := shm_372 f2
  replace f3 := shm_11 f3
  replace f4 := shm_33 f4
  replace f5 := shm_11 f5
  replace f6 := shm_381 f6
  replace f7 := shm_154 f7
  replace f8 := shm_6 f8
  replace f9 := shm_807 f9
  replace f10 := shm_5 f10
  replace f11 := shm_5 f11
  replace f12 := shm_5 f12
  replace f13 := shm_5 f13
  have q4 : n_v vs 4 = n_v vs 0 := f10.symm
  have q5 : n_v vs 5 = n_v vs 1 := f11.symm
  have q6 : n_v vs 6 = n_v vs 2 := f12.symm
  have q7 : n_v vs 7 = n_v vs 3 := f13.symm
  simp only [q7, q4, q5, q6] at f5 f6 f8 f9
  have cr_0_999 : ta (v_ad (n_v vs 0)) = some 142 := r0
  have hK_0_999 := elq_26 hD hth cr_0_999
  have nf0 : fc_1 PRD (20, [4, 5, 6, 7, 17, 16, 15], [61, 1, 578]) ws (vs) := by
    refine ⟨nf_in hl rfl, sgq_807 ?_⟩
    · show SPI (w_ei ws (v_ad (n_v vs 4))) (v_iv (n_v vs 5)) (v_iv (n_v vs 6)) (v_iv (n_v vs 7)) (v_iv (n_v vs 17)) (v_iv (n_v vs 16)) (v_iv (n_v vs 15))
      simp only [q4, q5, q6, q7]
      exact vc_Fa_spread_at_Npnear_3_0 (v_iv (n_v vs 1)) (v_iv (n_v vs 2)) (v_iv (n_v vs 3)) (v_iv (n_v vs 5)) (v_iv (n_v vs 6)) (v_iv (n_v vs 7)) (v_iv (n_v vs 8)) (v_iv (n_v vs 9)) (v_iv (n_v vs 10)) (v_iv (n_v vs 11)) (v_iv (n_v vs 12)) (v_iv (n_v vs 13)) (v_iv (n_v vs 14)) (v_iv (n_v vs 15)) (v_iv (n_v vs 16)) (v_iv (n_v vs 17)) (w_ei ws (v_ad (n_v vs 0))) k1 k2 k3 k5 k6 k7 k8 k9 k10 k11 k12 k13 k14 k15 k16 k17 d0 d1 d2 d3 d4 d5 d6 d7 d8 d9 d10 d11 d12 f0 f1 f2 f3 f4 f5 f6 f7 f8 f9 hK_0_999
  refine ⟨(fun _ h => (by cases h)), [], trivial, ?_, (fun _ h => (by cases h))⟩
  rw [List.append_nil]
  exact List.forall_mem_cons.mpr ⟨⟨show (20 : Nat) < 100 from by decide, nf0⟩, (fun _ h => (by cases h))⟩
def n_Fa_spread_at_Npnear_an : List an_T := [(12, [(0, (2, 0, 0, [142])), (1, (0, 0, 25, [])), (2, (0, 0, 33554431, [])), (3, (0, 0, 33554431, [])), (4, (0, 0, 33554431, [])), (5, (0, 0, 33554431, [])), (6, (0, 0, 25, []))], [], (0, 0), [(0, 0, 99988), (1, 10, 25), (0, 0, 100000)], [(1, 5, (Int.negSucc 999999999999), 0), (2, 6, (Int.negSucc 999999999999), 0), (3, 7, (Int.negSucc 999999999999), 0), (5, 1, (Int.negSucc 999999999999), 0), (6, 2, (Int.negSucc 999999999999), 0), (7, 3, (Int.negSucc 999999999999), 0), (10, 1, (Int.negSucc 999999999999), 0), (10, 5, (Int.negSucc 999999999999), 0)], [], [(2, 0, 0, [142]), (0, 0, 25, []), (0, 0, 33554431, []), (0, 0, 33554431, [])], 0, [], [(20, [4, 5, 6, 7, 10, 8, 9], [61, 1, 578]), (24, [0, 4], []), (24, [1, 5], []), (24, [2, 6], []), (24, [3, 7], [])])]
def t_Fa_spread_at_Npnear_ct : ct_L := [(84, 97, e_Fa_nearOf_at_Npnear)]
set_option maxRecDepth 100000 in
theorem c_Fa_spread_at_Npnear {l : Launch} {D : va_G} {kA : Nat → ClassId} (h_Fa_nearOf_at_Npnear : ct_ok PRD l D kA GG y_Fa_nearOf_at_Npnear z_Fa_nearOf_at_Npnear e_Fa_nearOf_at_Npnear) : ct_ok PRD l D kA GG y_Fa_spread_at_Npnear z_Fa_spread_at_Npnear e_Fa_spread_at_Npnear := chk_all_ok (FT := []) (PT := []) (CT := t_Fa_spread_at_Npnear_ct) (KT := []) (NT := []) (AN := n_Fa_spread_at_Npnear_an) (OT := [o_Fa_spread_at_Npnear_0, o_Fa_spread_at_Npnear_1, o_Fa_spread_at_Npnear_2, o_Fa_spread_at_Npnear_3]) 3 200 (List.forall_mem_cons.mpr ⟨oo_Fa_spread_at_Npnear_0, List.forall_mem_cons.mpr ⟨oo_Fa_spread_at_Npnear_1, List.forall_mem_cons.mpr ⟨oo_Fa_spread_at_Npnear_2, List.forall_mem_cons.mpr ⟨oo_Fa_spread_at_Npnear_3, List.forall_mem_nil _⟩⟩⟩⟩) (by decide +kernel) ⟨List.forall_mem_nil _, List.forall_mem_nil _, List.forall_mem_cons.mpr ⟨cl_static (y := y_Fa_nearOf_at_Npnear) h_Fa_nearOf_at_Npnear wm_824 wm_7 wm_822 wm_823 ⟨by decide, by decide, by decide +kernel⟩ (by decide), List.forall_mem_nil _⟩, List.forall_mem_nil _, List.forall_mem_nil _, GG_pl⟩ (by decide +kernel)
set_option maxHeartbeats 4000000 in
theorem vc_Fa_weightOf_0_0 (x1 : Int) (x2 : Int) (x3 : Int) (x4 : Int) (x5 : Int) (link_0 : Int → Int) (tail_0 : Int → Int) (weight_0 : Int → Int) (k1 : 0 ≤ x1 ∧ x1 ≤ 23) (k2 : 0 ≤ x2 ∧ x2 ≤ 23) (k3 : (-1) ≤ x3 ∧ x3 ≤ (-1)) (k4 : (-1) ≤ x4 ∧ x4 ≤ (-1)) (k5 : 0 ≤ x5 ∧ x5 ≤ 0) (f0 : x3 = x4) (f1 : x3 = link_0 (((x1 * 24) + x2))) (hK_0_7 : ∀ j : Int, 0 ≤ j → j < 48 → 0 ≤ tail_0 j ∧ tail_0 j ≤ 23) (hK_0_9 : ∀ j : Int, 0 ≤ j → j < 48 → 0 ≤ weight_0 j ∧ weight_0 j ≤ 9) (hK_0_15 : ∀ j : Int, 0 ≤ j → j < 576 → (-1) ≤ link_0 j ∧ link_0 j ≤ 47) : WOX (tail_0) (weight_0) (link_0) (x1) (x2) (x5) := by
  first
    | exact wox_none (e := x3) (by assumption) (by omega) (by omega)
    | exact wox_other (e := x3) (t := x6) (by assumption) (by assumption) (by omega) (by omega)
    | exact wox_in (e := x3) (t := x6) (by assumption) (by omega) (by assumption) (by omega) (by assumption)
  
def o_Fa_weightOf_0 : or_T := (32, 6, [(0, (2, 0, 0, [3])), (1, (0, 0, 23, [])), (2, (0, 0, 23, [])), (3, (0, -1, -1, [])), (4, (0, -1, -1, [])), (5, (0, 0, 0, []))], [(7, [3, 4], [0]), (20, [3, 0, 1, 2], [50, 0, 1, 1015, 1, 2, 1, 0, 3, 1, 15, 4, 6, 6, 2, 1, 2, 0, 24, 1, 3])], [], [], [(20, [0, 1, 2, 5], [60, 0, 3, 709, 7, 9, 15])], [], [])
theorem oo_Fa_weightOf_0 {kA : Nat → ClassId} : or_ok PRD kA GG o_Fa_weightOf_0 := by
  refine or_mk fun A ta ws vs hD hth hl => ?_
  intro t0 r0 t1 k1 t2 k2 t3 k3 t4 k4 t5 k5 f0 f1
  have cr_0_7 := fdq_52 hD hth r0
  have cr_0_9 := fdq_111 hD hth r0
  have cr_0_15 := fdq_72 hD hth r0
  have hK_0_7 := elq_10 hD hth cr_0_7
  have hK_0_9 := elq_54 hD hth cr_0_9
  have hK_0_15 := elq_30 hD hth cr_0_15
  have nf0 : fc_1 PRD (20, [0, 1, 2, 5], [60, 0, 3, 709, 7, 9, 15]) ws (vs) := ⟨nf_in hl rfl, sgq_809 (vc_Fa_weightOf_0_0 (v_iv (n_v vs 1)) (v_iv (n_v vs 2)) (v_iv (n_v vs 3)) (v_iv (n_v vs 4)) (v_iv (n_v vs 5)) (w_ei ws (w_ar ws (n_v vs 0) 15)) (w_ei ws (w_ar ws (n_v vs 0) 7)) (w_ei ws (w_ar ws (n_v vs 0) 9)) k1 k2 k3 k4 k5 (shm_37 f0) (shm_394 f1) hK_0_7 hK_0_9 hK_0_15)⟩
  refine ⟨(fun _ h => (by cases h)), [], trivial, ?_, (fun _ h => (by cases h))⟩
  rw [List.append_nil]
  exact List.forall_mem_cons.mpr ⟨⟨show (20 : Nat) < 100 from by decide, nf0⟩, (fun _ h => (by cases h))⟩
set_option maxHeartbeats 4000000 in
theorem vc_Fa_weightOf_1_0 (x1 : Int) (x2 : Int) (x3 : Int) (x4 : Int) (x6 : Int) (x7 : Int) (tail_0 : Int → Int) (link_0 : Int → Int) (weight_0 : Int → Int) (k1 : 0 ≤ x1 ∧ x1 ≤ 23) (k2 : 0 ≤ x2 ∧ x2 ≤ 23) (k3 : 0 ≤ x3 ∧ x3 ≤ 47) (k4 : (-1) ≤ x4 ∧ x4 ≤ (-1)) (k6 : 0 ≤ x6 ∧ x6 ≤ 23) (k7 : 0 ≤ x7 ∧ x7 ≤ 0) (f0 : x6 ≠ x1) (h1 : x6 = tail_0 (x3)) (f3 : x3 ≠ x4) (f4 : x3 = link_0 (((x1 * 24) + x2))) (hK_0_7 : ∀ j : Int, 0 ≤ j → j < 48 → 0 ≤ tail_0 j ∧ tail_0 j ≤ 23) (hK_0_9 : ∀ j : Int, 0 ≤ j → j < 48 → 0 ≤ weight_0 j ∧ weight_0 j ≤ 9) (hK_0_15 : ∀ j : Int, 0 ≤ j → j < 576 → (-1) ≤ link_0 j ∧ link_0 j ≤ 47) : WOX (tail_0) (weight_0) (link_0) (x1) (x2) (x7) := by
  first
    | exact wox_none (e := x3) (by assumption) (by omega) (by omega)
    | exact wox_other (e := x3) (t := x6) (by assumption) (by assumption) (by omega) (by omega)
    | exact wox_in (e := x3) (t := x6) (by assumption) (by omega) (by assumption) (by omega) (by assumption)
  
def o_Fa_weightOf_1 : or_T := (32, 8, [(0, (2, 0, 0, [3])), (1, (0, 0, 23, [])), (2, (0, 0, 23, [])), (3, (0, 0, 47, [])), (4, (0, -1, -1, [])), (6, (0, 0, 23, [])), (7, (0, 0, 0, []))], [(7, [6, 1], [1]), (10, [6, 5, 3], []), (9, [5, 0], [7]), (7, [3, 4], [1]), (20, [3, 0, 1, 2], [50, 0, 1, 1015, 1, 2, 1, 0, 3, 1, 15, 4, 6, 6, 2, 1, 2, 0, 24, 1, 3])], [], [], [(20, [0, 1, 2, 7], [60, 0, 3, 709, 7, 9, 15])], [], [])
theorem oo_Fa_weightOf_1 {kA : Nat → ClassId} : or_ok PRD kA GG o_Fa_weightOf_1 := by
  refine or_mk fun A ta ws vs hD hth hl => ?_
  intro t0 r0 t1 k1 t2 k2 t3 k3 t4 k4 t6 k6 t7 k7 f0 f1 f2 f3 f4
  replace f1 := shm_106 f1
  replace f2 := shm_216 f2
  have cr_0_7 := fdq_52 hD hth r0
  have cr_0_9 := fdq_111 hD hth r0
  have cr_0_15 := fdq_72 hD hth r0
  have ad_5 : v_ad (n_v vs 5) = w_ar ws (n_v vs 0) 7 := congrArg v_ad f2
  simp only [ad_5] at f1
  have h1 : v_iv (n_v vs 6) = w_ei ws (w_ar ws (n_v vs 0) 7) (v_iv (n_v vs 3)) := f1
  have hK_0_7 := elq_10 hD hth cr_0_7
  have hK_0_9 := elq_54 hD hth cr_0_9
  have hK_0_15 := elq_30 hD hth cr_0_15
  have nf0 : fc_1 PRD (20, [0, 1, 2, 7], [60, 0, 3, 709, 7, 9, 15]) ws (vs) := ⟨nf_in hl rfl, sgq_809 (vc_Fa_weightOf_1_0 (v_iv (n_v vs 1)) (v_iv (n_v vs 2)) (v_iv (n_v vs 3)) (v_iv (n_v vs 4)) (v_iv (n_v vs 6)) (v_iv (n_v vs 7)) (w_ei ws (w_ar ws (n_v vs 0) 7)) (w_ei ws (w_ar ws (n_v vs 0) 15)) (w_ei ws (w_ar ws (n_v vs 0) 9)) k1 k2 k3 k4 k6 k7 (shm_40 f0) h1 (shm_40 f3) (shm_394 f4) hK_0_7 hK_0_9 hK_0_15)⟩
  refine ⟨(fun _ h => (by cases h)), [], trivial, ?_, (fun _ h => (by cases h))⟩
  rw [List.append_nil]
  exact List.forall_mem_cons.mpr ⟨⟨show (20 : Nat) < 100 from by decide, nf0⟩, (fun _ h => (by cases h))⟩
set_option maxHeartbeats 4000000 in
theorem vc_Fa_weightOf_2_0 (x1 : Int) (x2 : Int) (x3 : Int) (x4 : Int) (x6 : Int) (x8 : Int) (weight_0 : Int → Int) (tail_0 : Int → Int) (link_0 : Int → Int) (k1 : 0 ≤ x1 ∧ x1 ≤ 23) (k2 : 0 ≤ x2 ∧ x2 ≤ 23) (k3 : 0 ≤ x3 ∧ x3 ≤ 47) (k4 : (-1) ≤ x4 ∧ x4 ≤ (-1)) (k6 : 0 ≤ x6 ∧ x6 ≤ 23) (k8 : 0 ≤ x8 ∧ x8 ≤ 9) (d0 : x1 + 0 ≤ x6 ∧ x6 ≤ x1 + 0) (h0 : x8 = weight_0 (x3)) (f2 : x6 = x1) (h3 : x6 = tail_0 (x3)) (f5 : x3 ≠ x4) (f6 : x3 = link_0 (((x1 * 24) + x2))) (hK_0_7 : ∀ j : Int, 0 ≤ j → j < 48 → 0 ≤ tail_0 j ∧ tail_0 j ≤ 23) (hK_0_9 : ∀ j : Int, 0 ≤ j → j < 48 → 0 ≤ weight_0 j ∧ weight_0 j ≤ 9) (hK_0_15 : ∀ j : Int, 0 ≤ j → j < 576 → (-1) ≤ link_0 j ∧ link_0 j ≤ 47) : WOX (tail_0) (weight_0) (link_0) (x1) (x2) (x8) := by
  first
    | exact wox_none (e := x3) (by assumption) (by omega) (by omega)
    | exact wox_other (e := x3) (t := x6) (by assumption) (by assumption) (by omega) (by omega)
    | exact wox_in (e := x3) (t := x6) (by assumption) (by omega) (by assumption) (by omega) (by assumption)
  
def o_Fa_weightOf_2 : or_T := (32, 9, [(0, (2, 0, 0, [3])), (1, (0, 0, 23, [])), (2, (0, 0, 23, [])), (3, (0, 0, 47, [])), (4, (0, -1, -1, [])), (6, (0, 0, 23, [])), (8, (0, 0, 9, []))], [(10, [8, 7, 3], []), (9, [7, 0], [9]), (7, [6, 1], [0]), (10, [6, 5, 3], []), (9, [5, 0], [7]), (7, [3, 4], [1]), (20, [3, 0, 1, 2], [50, 0, 1, 1015, 1, 2, 1, 0, 3, 1, 15, 4, 6, 6, 2, 1, 2, 0, 24, 1, 3])], [], [], [(20, [0, 1, 2, 8], [60, 0, 3, 709, 7, 9, 15])], [], [(6, 1, 0, 0)])
theorem oo_Fa_weightOf_2 {kA : Nat → ClassId} : or_ok PRD kA GG o_Fa_weightOf_2 := by
  refine or_mk fun A ta ws vs hD hth hl => ?_
  intro t0 r0 t1 k1 t2 k2 t3 k3 t4 k4 t6 k6 t8 k8 d0 f0 f1 f2 f3 f4 f5 f6
  replace f0 := shm_106 f0
  replace f1 := shm_120 f1
  replace f3 := shm_106 f3
  replace f4 := shm_216 f4
  have cr_0_7 := fdq_52 hD hth r0
  have cr_0_9 := fdq_111 hD hth r0
  have cr_0_15 := fdq_72 hD hth r0
  have ad_7 : v_ad (n_v vs 7) = w_ar ws (n_v vs 0) 9 := congrArg v_ad f1
  have ad_5 : v_ad (n_v vs 5) = w_ar ws (n_v vs 0) 7 := congrArg v_ad f4
  simp only [ad_7] at f0
  have h0 : v_iv (n_v vs 8) = w_ei ws (w_ar ws (n_v vs 0) 9) (v_iv (n_v vs 3)) := f0
  simp only [ad_5] at f3
  have h3 : v_iv (n_v vs 6) = w_ei ws (w_ar ws (n_v vs 0) 7) (v_iv (n_v vs 3)) := f3
  have hK_0_7 := elq_10 hD hth cr_0_7
  have hK_0_9 := elq_54 hD hth cr_0_9
  have hK_0_15 := elq_30 hD hth cr_0_15
  have nf0 : fc_1 PRD (20, [0, 1, 2, 8], [60, 0, 3, 709, 7, 9, 15]) ws (vs) := ⟨nf_in hl rfl, sgq_809 (vc_Fa_weightOf_2_0 (v_iv (n_v vs 1)) (v_iv (n_v vs 2)) (v_iv (n_v vs 3)) (v_iv (n_v vs 4)) (v_iv (n_v vs 6)) (v_iv (n_v vs 8)) (w_ei ws (w_ar ws (n_v vs 0) 9)) (w_ei ws (w_ar ws (n_v vs 0) 7)) (w_ei ws (w_ar ws (n_v vs 0) 15)) k1 k2 k3 k4 k6 k8 d0 h0 (shm_37 f2) h3 (shm_40 f5) (shm_394 f6) hK_0_7 hK_0_9 hK_0_15)⟩
  refine ⟨(fun _ h => (by cases h)), [], trivial, ?_, (fun _ h => (by cases h))⟩
  rw [List.append_nil]
  exact List.forall_mem_cons.mpr ⟨⟨show (20 : Nat) < 100 from by decide, nf0⟩, (fun _ h => (by cases h))⟩
def n_Fa_weightOf_an : List an_T := []
def t_Fa_weightOf_ct : ct_L := [(13, 166, e_Gr_edgeBetween_at_Gr)]
set_option maxRecDepth 100000 in
theorem c_Fa_weightOf {l : Launch} {D : va_G} {kA : Nat → ClassId} (h_Gr_edgeBetween_at_Gr : ct_ok PRD l D kA GG y_Gr_edgeBetween_at_Gr z_Gr_edgeBetween_at_Gr e_Gr_edgeBetween_at_Gr) : ct_ok PRD l D kA GG y_Fa_weightOf z_Fa_weightOf e_Fa_weightOf := chk_all_ok (FT := [(72, 3, 7), (169, 3, 9)]) (PT := []) (CT := t_Fa_weightOf_ct) (KT := []) (NT := []) (AN := n_Fa_weightOf_an) (OT := [o_Fa_weightOf_0, o_Fa_weightOf_1, o_Fa_weightOf_2]) 0 200 (List.forall_mem_cons.mpr ⟨oo_Fa_weightOf_0, List.forall_mem_cons.mpr ⟨oo_Fa_weightOf_1, List.forall_mem_cons.mpr ⟨oo_Fa_weightOf_2, List.forall_mem_nil _⟩⟩⟩) (by decide +kernel) ⟨List.forall_mem_cons.mpr ⟨gf_Fa_72, List.forall_mem_cons.mpr ⟨gf_Fa_169, List.forall_mem_nil _⟩⟩, List.forall_mem_nil _, List.forall_mem_cons.mpr ⟨cl_virtual (y := y_Gr_edgeBetween_at_Gr) (ci := 3) rfl rfl ⟨_, _, rfl⟩ (by decide +kernel) h_Gr_edgeBetween_at_Gr wm_768 wm_3 wm_913 wm_766 wm_767 ⟨by decide, by decide, by decide +kernel⟩ (by decide), List.forall_mem_nil _⟩, List.forall_mem_nil _, List.forall_mem_nil _, GG_pl⟩ (by decide +kernel)

set_option maxHeartbeats 4000000 in
theorem vc_Gr_addEdge_at_Gq_0_0 (x1 : Int) (x2 : Int) (x4 : Int) (x10 : Int) (x11 : Int) (edges_0 : Int) (nodes_0 : Int) (edges_1 : Int) (nodes_1 : Int) (nodes_2 : Int) (nodes_3 : Int) (nodes_4 : Int) (near_5 : Int → Int) (tail_5 : Int → Int) (head_5 : Int → Int) (nodes_5 : Int) (edges_5 : Int) (edges_2 : Int) (edges_3 : Int) (edges_4 : Int) (tail_0 : Int → Int) (tail_1 : Int → Int) (tail_2 : Int → Int) (tail_3 : Int → Int) (tail_4 : Int → Int) (head_0 : Int → Int) (head_1 : Int → Int) (head_2 : Int → Int) (head_3 : Int → Int) (head_4 : Int → Int) (weight_0 : Int → Int) (weight_1 : Int → Int) (weight_2 : Int → Int) (weight_3 : Int → Int) (x8 : Int) (weight_4 : Int → Int) (weight_5 : Int → Int) (oneWay_0 : Int → Int) (oneWay_1 : Int → Int) (oneWay_2 : Int → Int) (x3 : Int) (oneWay_3 : Int → Int) (oneWay_4 : Int → Int) (oneWay_5 : Int → Int) (near_0 : Int → Int) (near_1 : Int → Int) (near_2 : Int → Int) (near_3 : Int → Int) (near_4 : Int → Int) (k1 : 0 ≤ x1 ∧ x1 ≤ 23) (k2 : 0 ≤ x2 ∧ x2 ≤ 23) (k4 : 0 ≤ x4 ∧ x4 ≤ 47) (k10 : 1 ≤ x10 ∧ x10 ≤ 1) (k11 : 1 ≤ x11 ∧ x11 ≤ 48) (d0 : x4 + 1 ≤ x11 ∧ x11 ≤ x4 + 1) (g0 : x11 = edges_0) (f5 : (0 ≤ x1) ∧ (((x1 + 1) ≤ nodes_0) ∧ ((0 ≤ x2) ∧ (((x2 + 1) ≤ nodes_0) ∧ (((x1 + 1) ≤ x2) ∨ ((x2 + 1) ≤ x1)))))) (f7 : x11 = x4 + x10) (g8 : x4 = edges_1) (f9 : (0 ≤ x1) ∧ (((x1 + 1) ≤ nodes_1) ∧ ((0 ≤ x2) ∧ (((x2 + 1) ≤ nodes_1) ∧ (((x1 + 1) ≤ x2) ∨ ((x2 + 1) ≤ x1)))))) (f11 : (0 ≤ x1) ∧ (((x1 + 1) ≤ nodes_2) ∧ ((0 ≤ x2) ∧ (((x2 + 1) ≤ nodes_2) ∧ (((x1 + 1) ≤ x2) ∨ ((x2 + 1) ≤ x1)))))) (f13 : (0 ≤ x1) ∧ (((x1 + 1) ≤ nodes_3) ∧ ((0 ≤ x2) ∧ (((x2 + 1) ≤ nodes_3) ∧ (((x1 + 1) ≤ x2) ∨ ((x2 + 1) ≤ x1)))))) (f15 : (0 ≤ x1) ∧ (((x1 + 1) ≤ nodes_4) ∧ ((0 ≤ x2) ∧ (((x2 + 1) ≤ nodes_4) ∧ (((x1 + 1) ≤ x2) ∨ ((x2 + 1) ≤ x1)))))) (f17 : GNB (nodes_5) (edges_5) (near_5) (tail_5) (head_5)) (f18 : GKE (nodes_5) (edges_5) (tail_5) (head_5)) (f19 : (0 ≤ x1) ∧ (((x1 + 1) ≤ nodes_5) ∧ ((0 ≤ x2) ∧ (((x2 + 1) ≤ nodes_5) ∧ (((x1 + 1) ≤ x2) ∨ ((x2 + 1) ≤ x1)))))) (fe_0_0_1 : nodes_0 = nodes_1) (fe_0_1_1 : edges_0 = x11) (fe_0_0_2 : nodes_1 = nodes_2) (fe_0_1_2 : edges_1 = edges_2) (fe_0_0_3 : nodes_2 = nodes_3) (fe_0_1_3 : edges_2 = edges_3) (fe_0_0_4 : nodes_3 = nodes_4) (fe_0_1_4 : edges_3 = edges_4) (fe_0_0_5 : nodes_4 = nodes_5) (fe_0_1_5 : edges_4 = edges_5) (hE_0_7_1 : ∀ j : Int, tail_0 j = tail_1 j) (hE_0_7_2 : ∀ j : Int, tail_1 j = tail_2 j) (hE_0_7_3 : ∀ j : Int, tail_2 j = tail_3 j) (hE_0_7_4 : ∀ j : Int, tail_3 j = tail_4 j) (hE_0_7_5 : ∀ j : Int, 0 ≤ j → (j = x4 → tail_4 j = x1) ∧ (j ≠ x4 → tail_4 j = tail_5 j)) (hK_0_7 : ∀ j : Int, 0 ≤ j → j < 48 → 0 ≤ tail_0 j ∧ tail_0 j ≤ 23) (hE_0_8_1 : ∀ j : Int, head_0 j = head_1 j) (hE_0_8_2 : ∀ j : Int, head_1 j = head_2 j) (hE_0_8_3 : ∀ j : Int, head_2 j = head_3 j) (hE_0_8_4 : ∀ j : Int, 0 ≤ j → (j = x4 → head_3 j = x2) ∧ (j ≠ x4 → head_3 j = head_4 j)) (hE_0_8_5 : ∀ j : Int, head_4 j = head_5 j) (hK_0_8 : ∀ j : Int, 0 ≤ j → j < 48 → 0 ≤ head_0 j ∧ head_0 j ≤ 23) (hE_0_9_1 : ∀ j : Int, weight_0 j = weight_1 j) (hE_0_9_2 : ∀ j : Int, weight_1 j = weight_2 j) (hE_0_9_3 : ∀ j : Int, 0 ≤ j → (j = x4 → weight_2 j = x8) ∧ (j ≠ x4 → weight_2 j = weight_3 j)) (hE_0_9_4 : ∀ j : Int, weight_3 j = weight_4 j) (hE_0_9_5 : ∀ j : Int, weight_4 j = weight_5 j) (hK_0_9 : ∀ j : Int, 0 ≤ j → j < 48 → 0 ≤ weight_0 j ∧ weight_0 j ≤ 9) (hE_0_10_1 : ∀ j : Int, oneWay_0 j = oneWay_1 j) (hE_0_10_2 : ∀ j : Int, 0 ≤ j → (j = x4 → oneWay_1 j = x3) ∧ (j ≠ x4 → oneWay_1 j = oneWay_2 j)) (hE_0_10_3 : ∀ j : Int, oneWay_2 j = oneWay_3 j) (hE_0_10_4 : ∀ j : Int, oneWay_3 j = oneWay_4 j) (hE_0_10_5 : ∀ j : Int, oneWay_4 j = oneWay_5 j) (hK_0_10 : ∀ j : Int, 0 ≤ j → j < 48 → 0 ≤ oneWay_0 j ∧ oneWay_0 j ≤ 1) (hE_0_14_1 : ∀ j : Int, near_0 j = near_1 j) (hE_0_14_2 : ∀ j : Int, near_1 j = near_2 j) (hE_0_14_3 : ∀ j : Int, near_2 j = near_3 j) (hE_0_14_4 : ∀ j : Int, near_3 j = near_4 j) (hE_0_14_5 : ∀ j : Int, near_4 j = near_5 j) (hK_0_14 : ∀ j : Int, 0 ≤ j → j < 24 → 0 ≤ near_0 j ∧ near_0 j ≤ 16777215) (kz_0_0 : 0 ≤ nodes_0 ∧ nodes_0 ≤ 24) (kz_0_1 : 0 ≤ edges_0 ∧ edges_0 ≤ 48) : (0 ≤ x4) ∧ ((x4 + 1) = edges_0) := by
  subst fe_0_0_1
  subst fe_0_0_2
  subst fe_0_1_2
  subst fe_0_0_3
  subst fe_0_1_3
  subst fe_0_0_4
  subst fe_0_1_4
  subst fe_0_0_5
  subst fe_0_1_5
  have e_hE_0_7_1 := funext hE_0_7_1; subst e_hE_0_7_1
  have e_hE_0_7_2 := funext hE_0_7_2; subst e_hE_0_7_2
  have e_hE_0_7_3 := funext hE_0_7_3; subst e_hE_0_7_3
  have e_hE_0_7_4 := funext hE_0_7_4; subst e_hE_0_7_4
  have e_hE_0_8_1 := funext hE_0_8_1; subst e_hE_0_8_1
  have e_hE_0_8_2 := funext hE_0_8_2; subst e_hE_0_8_2
  have e_hE_0_8_3 := funext hE_0_8_3; subst e_hE_0_8_3
  have e_hE_0_8_5 := funext hE_0_8_5; subst e_hE_0_8_5
  have e_hE_0_9_1 := funext hE_0_9_1; subst e_hE_0_9_1
  have e_hE_0_9_2 := funext hE_0_9_2; subst e_hE_0_9_2
  have e_hE_0_9_4 := funext hE_0_9_4; subst e_hE_0_9_4
  have e_hE_0_9_5 := funext hE_0_9_5; subst e_hE_0_9_5
  have e_hE_0_10_1 := funext hE_0_10_1; subst e_hE_0_10_1
  have e_hE_0_10_3 := funext hE_0_10_3; subst e_hE_0_10_3
  have e_hE_0_10_4 := funext hE_0_10_4; subst e_hE_0_10_4
  have e_hE_0_10_5 := funext hE_0_10_5; subst e_hE_0_10_5
  have e_hE_0_14_1 := funext hE_0_14_1; subst e_hE_0_14_1
  have e_hE_0_14_2 := funext hE_0_14_2; subst e_hE_0_14_2
  have e_hE_0_14_3 := funext hE_0_14_3; subst e_hE_0_14_3
  have e_hE_0_14_4 := funext hE_0_14_4; subst e_hE_0_14_4
  have e_hE_0_14_5 := funext hE_0_14_5; subst e_hE_0_14_5
  first
    | omega
  
set_option maxHeartbeats 4000000 in
theorem vc_Gr_addEdge_at_Gq_0_1 (x1 : Int) (x2 : Int) (x4 : Int) (x10 : Int) (x11 : Int) (edges_0 : Int) (nodes_0 : Int) (edges_1 : Int) (nodes_1 : Int) (nodes_2 : Int) (nodes_3 : Int) (nodes_4 : Int) (near_5 : Int → Int) (tail_5 : Int → Int) (head_5 : Int → Int) (nodes_5 : Int) (edges_5 : Int) (edges_2 : Int) (edges_3 : Int) (edges_4 : Int) (tail_0 : Int → Int) (tail_1 : Int → Int) (tail_2 : Int → Int) (tail_3 : Int → Int) (tail_4 : Int → Int) (head_0 : Int → Int) (head_1 : Int → Int) (head_2 : Int → Int) (head_3 : Int → Int) (head_4 : Int → Int) (weight_0 : Int → Int) (weight_1 : Int → Int) (weight_2 : Int → Int) (weight_3 : Int → Int) (x8 : Int) (weight_4 : Int → Int) (weight_5 : Int → Int) (oneWay_0 : Int → Int) (oneWay_1 : Int → Int) (oneWay_2 : Int → Int) (x3 : Int) (oneWay_3 : Int → Int) (oneWay_4 : Int → Int) (oneWay_5 : Int → Int) (near_0 : Int → Int) (near_1 : Int → Int) (near_2 : Int → Int) (near_3 : Int → Int) (near_4 : Int → Int) (k1 : 0 ≤ x1 ∧ x1 ≤ 23) (k2 : 0 ≤ x2 ∧ x2 ≤ 23) (k4 : 0 ≤ x4 ∧ x4 ≤ 47) (k10 : 1 ≤ x10 ∧ x10 ≤ 1) (k11 : 1 ≤ x11 ∧ x11 ≤ 48) (d0 : x4 + 1 ≤ x11 ∧ x11 ≤ x4 + 1) (g0 : x11 = edges_0) (f5 : (0 ≤ x1) ∧ (((x1 + 1) ≤ nodes_0) ∧ ((0 ≤ x2) ∧ (((x2 + 1) ≤ nodes_0) ∧ (((x1 + 1) ≤ x2) ∨ ((x2 + 1) ≤ x1)))))) (f7 : x11 = x4 + x10) (g8 : x4 = edges_1) (f9 : (0 ≤ x1) ∧ (((x1 + 1) ≤ nodes_1) ∧ ((0 ≤ x2) ∧ (((x2 + 1) ≤ nodes_1) ∧ (((x1 + 1) ≤ x2) ∨ ((x2 + 1) ≤ x1)))))) (f11 : (0 ≤ x1) ∧ (((x1 + 1) ≤ nodes_2) ∧ ((0 ≤ x2) ∧ (((x2 + 1) ≤ nodes_2) ∧ (((x1 + 1) ≤ x2) ∨ ((x2 + 1) ≤ x1)))))) (f13 : (0 ≤ x1) ∧ (((x1 + 1) ≤ nodes_3) ∧ ((0 ≤ x2) ∧ (((x2 + 1) ≤ nodes_3) ∧ (((x1 + 1) ≤ x2) ∨ ((x2 + 1) ≤ x1)))))) (f15 : (0 ≤ x1) ∧ (((x1 + 1) ≤ nodes_4) ∧ ((0 ≤ x2) ∧ (((x2 + 1) ≤ nodes_4) ∧ (((x1 + 1) ≤ x2) ∨ ((x2 + 1) ≤ x1)))))) (f17 : GNB (nodes_5) (edges_5) (near_5) (tail_5) (head_5)) (f18 : GKE (nodes_5) (edges_5) (tail_5) (head_5)) (f19 : (0 ≤ x1) ∧ (((x1 + 1) ≤ nodes_5) ∧ ((0 ≤ x2) ∧ (((x2 + 1) ≤ nodes_5) ∧ (((x1 + 1) ≤ x2) ∨ ((x2 + 1) ≤ x1)))))) (fe_0_0_1 : nodes_0 = nodes_1) (fe_0_1_1 : edges_0 = x11) (fe_0_0_2 : nodes_1 = nodes_2) (fe_0_1_2 : edges_1 = edges_2) (fe_0_0_3 : nodes_2 = nodes_3) (fe_0_1_3 : edges_2 = edges_3) (fe_0_0_4 : nodes_3 = nodes_4) (fe_0_1_4 : edges_3 = edges_4) (fe_0_0_5 : nodes_4 = nodes_5) (fe_0_1_5 : edges_4 = edges_5) (hE_0_7_1 : ∀ j : Int, tail_0 j = tail_1 j) (hE_0_7_2 : ∀ j : Int, tail_1 j = tail_2 j) (hE_0_7_3 : ∀ j : Int, tail_2 j = tail_3 j) (hE_0_7_4 : ∀ j : Int, tail_3 j = tail_4 j) (hE_0_7_5 : ∀ j : Int, 0 ≤ j → (j = x4 → tail_4 j = x1) ∧ (j ≠ x4 → tail_4 j = tail_5 j)) (hK_0_7 : ∀ j : Int, 0 ≤ j → j < 48 → 0 ≤ tail_0 j ∧ tail_0 j ≤ 23) (hE_0_8_1 : ∀ j : Int, head_0 j = head_1 j) (hE_0_8_2 : ∀ j : Int, head_1 j = head_2 j) (hE_0_8_3 : ∀ j : Int, head_2 j = head_3 j) (hE_0_8_4 : ∀ j : Int, 0 ≤ j → (j = x4 → head_3 j = x2) ∧ (j ≠ x4 → head_3 j = head_4 j)) (hE_0_8_5 : ∀ j : Int, head_4 j = head_5 j) (hK_0_8 : ∀ j : Int, 0 ≤ j → j < 48 → 0 ≤ head_0 j ∧ head_0 j ≤ 23) (hE_0_9_1 : ∀ j : Int, weight_0 j = weight_1 j) (hE_0_9_2 : ∀ j : Int, weight_1 j = weight_2 j) (hE_0_9_3 : ∀ j : Int, 0 ≤ j → (j = x4 → weight_2 j = x8) ∧ (j ≠ x4 → weight_2 j = weight_3 j)) (hE_0_9_4 : ∀ j : Int, weight_3 j = weight_4 j) (hE_0_9_5 : ∀ j : Int, weight_4 j = weight_5 j) (hK_0_9 : ∀ j : Int, 0 ≤ j → j < 48 → 0 ≤ weight_0 j ∧ weight_0 j ≤ 9) (hE_0_10_1 : ∀ j : Int, oneWay_0 j = oneWay_1 j) (hE_0_10_2 : ∀ j : Int, 0 ≤ j → (j = x4 → oneWay_1 j = x3) ∧ (j ≠ x4 → oneWay_1 j = oneWay_2 j)) (hE_0_10_3 : ∀ j : Int, oneWay_2 j = oneWay_3 j) (hE_0_10_4 : ∀ j : Int, oneWay_3 j = oneWay_4 j) (hE_0_10_5 : ∀ j : Int, oneWay_4 j = oneWay_5 j) (hK_0_10 : ∀ j : Int, 0 ≤ j → j < 48 → 0 ≤ oneWay_0 j ∧ oneWay_0 j ≤ 1) (hE_0_14_1 : ∀ j : Int, near_0 j = near_1 j) (hE_0_14_2 : ∀ j : Int, near_1 j = near_2 j) (hE_0_14_3 : ∀ j : Int, near_2 j = near_3 j) (hE_0_14_4 : ∀ j : Int, near_3 j = near_4 j) (hE_0_14_5 : ∀ j : Int, near_4 j = near_5 j) (hK_0_14 : ∀ j : Int, 0 ≤ j → j < 24 → 0 ≤ near_0 j ∧ near_0 j ≤ 16777215) (kz_0_0 : 0 ≤ nodes_0 ∧ nodes_0 ≤ 24) (kz_0_1 : 0 ≤ edges_0 ∧ edges_0 ≤ 48) : GNK (nodes_0) (near_0) (tail_0) (head_0) (x4) := by
  subst fe_0_0_1
  subst fe_0_0_2
  subst fe_0_1_2
  subst fe_0_0_3
  subst fe_0_1_3
  subst fe_0_0_4
  subst fe_0_1_4
  subst fe_0_0_5
  subst fe_0_1_5
  have e_hE_0_7_1 := funext hE_0_7_1; subst e_hE_0_7_1
  have e_hE_0_7_2 := funext hE_0_7_2; subst e_hE_0_7_2
  have e_hE_0_7_3 := funext hE_0_7_3; subst e_hE_0_7_3
  have e_hE_0_7_4 := funext hE_0_7_4; subst e_hE_0_7_4
  have e_hE_0_8_1 := funext hE_0_8_1; subst e_hE_0_8_1
  have e_hE_0_8_2 := funext hE_0_8_2; subst e_hE_0_8_2
  have e_hE_0_8_3 := funext hE_0_8_3; subst e_hE_0_8_3
  have e_hE_0_8_5 := funext hE_0_8_5; subst e_hE_0_8_5
  have e_hE_0_9_1 := funext hE_0_9_1; subst e_hE_0_9_1
  have e_hE_0_9_2 := funext hE_0_9_2; subst e_hE_0_9_2
  have e_hE_0_9_4 := funext hE_0_9_4; subst e_hE_0_9_4
  have e_hE_0_9_5 := funext hE_0_9_5; subst e_hE_0_9_5
  have e_hE_0_10_1 := funext hE_0_10_1; subst e_hE_0_10_1
  have e_hE_0_10_3 := funext hE_0_10_3; subst e_hE_0_10_3
  have e_hE_0_10_4 := funext hE_0_10_4; subst e_hE_0_10_4
  have e_hE_0_10_5 := funext hE_0_10_5; subst e_hE_0_10_5
  have e_hE_0_14_1 := funext hE_0_14_1; subst e_hE_0_14_1
  have e_hE_0_14_2 := funext hE_0_14_2; subst e_hE_0_14_2
  have e_hE_0_14_3 := funext hE_0_14_3; subst e_hE_0_14_3
  have e_hE_0_14_4 := funext hE_0_14_4; subst e_hE_0_14_4
  have e_hE_0_14_5 := funext hE_0_14_5; subst e_hE_0_14_5
  first
    | assumption
    | exact gnk_edge ‹GNB _ _ _ _ _› (by omega) hE_0_7_5 (by omega) hE_0_8_4 (by omega) (by omega)
  
set_option maxHeartbeats 4000000 in
theorem vc_Gr_addEdge_at_Gq_0_2 (x1 : Int) (x2 : Int) (x4 : Int) (x10 : Int) (x11 : Int) (edges_0 : Int) (nodes_0 : Int) (edges_1 : Int) (nodes_1 : Int) (nodes_2 : Int) (nodes_3 : Int) (nodes_4 : Int) (near_5 : Int → Int) (tail_5 : Int → Int) (head_5 : Int → Int) (nodes_5 : Int) (edges_5 : Int) (edges_2 : Int) (edges_3 : Int) (edges_4 : Int) (tail_0 : Int → Int) (tail_1 : Int → Int) (tail_2 : Int → Int) (tail_3 : Int → Int) (tail_4 : Int → Int) (head_0 : Int → Int) (head_1 : Int → Int) (head_2 : Int → Int) (head_3 : Int → Int) (head_4 : Int → Int) (weight_0 : Int → Int) (weight_1 : Int → Int) (weight_2 : Int → Int) (weight_3 : Int → Int) (x8 : Int) (weight_4 : Int → Int) (weight_5 : Int → Int) (oneWay_0 : Int → Int) (oneWay_1 : Int → Int) (oneWay_2 : Int → Int) (x3 : Int) (oneWay_3 : Int → Int) (oneWay_4 : Int → Int) (oneWay_5 : Int → Int) (near_0 : Int → Int) (near_1 : Int → Int) (near_2 : Int → Int) (near_3 : Int → Int) (near_4 : Int → Int) (k1 : 0 ≤ x1 ∧ x1 ≤ 23) (k2 : 0 ≤ x2 ∧ x2 ≤ 23) (k4 : 0 ≤ x4 ∧ x4 ≤ 47) (k10 : 1 ≤ x10 ∧ x10 ≤ 1) (k11 : 1 ≤ x11 ∧ x11 ≤ 48) (d0 : x4 + 1 ≤ x11 ∧ x11 ≤ x4 + 1) (g0 : x11 = edges_0) (f5 : (0 ≤ x1) ∧ (((x1 + 1) ≤ nodes_0) ∧ ((0 ≤ x2) ∧ (((x2 + 1) ≤ nodes_0) ∧ (((x1 + 1) ≤ x2) ∨ ((x2 + 1) ≤ x1)))))) (f7 : x11 = x4 + x10) (g8 : x4 = edges_1) (f9 : (0 ≤ x1) ∧ (((x1 + 1) ≤ nodes_1) ∧ ((0 ≤ x2) ∧ (((x2 + 1) ≤ nodes_1) ∧ (((x1 + 1) ≤ x2) ∨ ((x2 + 1) ≤ x1)))))) (f11 : (0 ≤ x1) ∧ (((x1 + 1) ≤ nodes_2) ∧ ((0 ≤ x2) ∧ (((x2 + 1) ≤ nodes_2) ∧ (((x1 + 1) ≤ x2) ∨ ((x2 + 1) ≤ x1)))))) (f13 : (0 ≤ x1) ∧ (((x1 + 1) ≤ nodes_3) ∧ ((0 ≤ x2) ∧ (((x2 + 1) ≤ nodes_3) ∧ (((x1 + 1) ≤ x2) ∨ ((x2 + 1) ≤ x1)))))) (f15 : (0 ≤ x1) ∧ (((x1 + 1) ≤ nodes_4) ∧ ((0 ≤ x2) ∧ (((x2 + 1) ≤ nodes_4) ∧ (((x1 + 1) ≤ x2) ∨ ((x2 + 1) ≤ x1)))))) (f17 : GNB (nodes_5) (edges_5) (near_5) (tail_5) (head_5)) (f18 : GKE (nodes_5) (edges_5) (tail_5) (head_5)) (f19 : (0 ≤ x1) ∧ (((x1 + 1) ≤ nodes_5) ∧ ((0 ≤ x2) ∧ (((x2 + 1) ≤ nodes_5) ∧ (((x1 + 1) ≤ x2) ∨ ((x2 + 1) ≤ x1)))))) (fe_0_0_1 : nodes_0 = nodes_1) (fe_0_1_1 : edges_0 = x11) (fe_0_0_2 : nodes_1 = nodes_2) (fe_0_1_2 : edges_1 = edges_2) (fe_0_0_3 : nodes_2 = nodes_3) (fe_0_1_3 : edges_2 = edges_3) (fe_0_0_4 : nodes_3 = nodes_4) (fe_0_1_4 : edges_3 = edges_4) (fe_0_0_5 : nodes_4 = nodes_5) (fe_0_1_5 : edges_4 = edges_5) (hE_0_7_1 : ∀ j : Int, tail_0 j = tail_1 j) (hE_0_7_2 : ∀ j : Int, tail_1 j = tail_2 j) (hE_0_7_3 : ∀ j : Int, tail_2 j = tail_3 j) (hE_0_7_4 : ∀ j : Int, tail_3 j = tail_4 j) (hE_0_7_5 : ∀ j : Int, 0 ≤ j → (j = x4 → tail_4 j = x1) ∧ (j ≠ x4 → tail_4 j = tail_5 j)) (hK_0_7 : ∀ j : Int, 0 ≤ j → j < 48 → 0 ≤ tail_0 j ∧ tail_0 j ≤ 23) (hE_0_8_1 : ∀ j : Int, head_0 j = head_1 j) (hE_0_8_2 : ∀ j : Int, head_1 j = head_2 j) (hE_0_8_3 : ∀ j : Int, head_2 j = head_3 j) (hE_0_8_4 : ∀ j : Int, 0 ≤ j → (j = x4 → head_3 j = x2) ∧ (j ≠ x4 → head_3 j = head_4 j)) (hE_0_8_5 : ∀ j : Int, head_4 j = head_5 j) (hK_0_8 : ∀ j : Int, 0 ≤ j → j < 48 → 0 ≤ head_0 j ∧ head_0 j ≤ 23) (hE_0_9_1 : ∀ j : Int, weight_0 j = weight_1 j) (hE_0_9_2 : ∀ j : Int, weight_1 j = weight_2 j) (hE_0_9_3 : ∀ j : Int, 0 ≤ j → (j = x4 → weight_2 j = x8) ∧ (j ≠ x4 → weight_2 j = weight_3 j)) (hE_0_9_4 : ∀ j : Int, weight_3 j = weight_4 j) (hE_0_9_5 : ∀ j : Int, weight_4 j = weight_5 j) (hK_0_9 : ∀ j : Int, 0 ≤ j → j < 48 → 0 ≤ weight_0 j ∧ weight_0 j ≤ 9) (hE_0_10_1 : ∀ j : Int, oneWay_0 j = oneWay_1 j) (hE_0_10_2 : ∀ j : Int, 0 ≤ j → (j = x4 → oneWay_1 j = x3) ∧ (j ≠ x4 → oneWay_1 j = oneWay_2 j)) (hE_0_10_3 : ∀ j : Int, oneWay_2 j = oneWay_3 j) (hE_0_10_4 : ∀ j : Int, oneWay_3 j = oneWay_4 j) (hE_0_10_5 : ∀ j : Int, oneWay_4 j = oneWay_5 j) (hK_0_10 : ∀ j : Int, 0 ≤ j → j < 48 → 0 ≤ oneWay_0 j ∧ oneWay_0 j ≤ 1) (hE_0_14_1 : ∀ j : Int, near_0 j = near_1 j) (hE_0_14_2 : ∀ j : Int, near_1 j = near_2 j) (hE_0_14_3 : ∀ j : Int, near_2 j = near_3 j) (hE_0_14_4 : ∀ j : Int, near_3 j = near_4 j) (hE_0_14_5 : ∀ j : Int, near_4 j = near_5 j) (hK_0_14 : ∀ j : Int, 0 ≤ j → j < 24 → 0 ≤ near_0 j ∧ near_0 j ≤ 16777215) (kz_0_0 : 0 ≤ nodes_0 ∧ nodes_0 ≤ 24) (kz_0_1 : 0 ≤ edges_0 ∧ edges_0 ≤ 48) : GKE (nodes_0) (edges_0) (tail_0) (head_0) := by
  subst fe_0_0_1
  subst fe_0_0_2
  subst fe_0_1_2
  subst fe_0_0_3
  subst fe_0_1_3
  subst fe_0_0_4
  subst fe_0_1_4
  subst fe_0_0_5
  subst fe_0_1_5
  have e_hE_0_7_1 := funext hE_0_7_1; subst e_hE_0_7_1
  have e_hE_0_7_2 := funext hE_0_7_2; subst e_hE_0_7_2
  have e_hE_0_7_3 := funext hE_0_7_3; subst e_hE_0_7_3
  have e_hE_0_7_4 := funext hE_0_7_4; subst e_hE_0_7_4
  have e_hE_0_8_1 := funext hE_0_8_1; subst e_hE_0_8_1
  have e_hE_0_8_2 := funext hE_0_8_2; subst e_hE_0_8_2
  have e_hE_0_8_3 := funext hE_0_8_3; subst e_hE_0_8_3
  have e_hE_0_8_5 := funext hE_0_8_5; subst e_hE_0_8_5
  have e_hE_0_9_1 := funext hE_0_9_1; subst e_hE_0_9_1
  have e_hE_0_9_2 := funext hE_0_9_2; subst e_hE_0_9_2
  have e_hE_0_9_4 := funext hE_0_9_4; subst e_hE_0_9_4
  have e_hE_0_9_5 := funext hE_0_9_5; subst e_hE_0_9_5
  have e_hE_0_10_1 := funext hE_0_10_1; subst e_hE_0_10_1
  have e_hE_0_10_3 := funext hE_0_10_3; subst e_hE_0_10_3
  have e_hE_0_10_4 := funext hE_0_10_4; subst e_hE_0_10_4
  have e_hE_0_10_5 := funext hE_0_10_5; subst e_hE_0_10_5
  have e_hE_0_14_1 := funext hE_0_14_1; subst e_hE_0_14_1
  have e_hE_0_14_2 := funext hE_0_14_2; subst e_hE_0_14_2
  have e_hE_0_14_3 := funext hE_0_14_3; subst e_hE_0_14_3
  have e_hE_0_14_4 := funext hE_0_14_4; subst e_hE_0_14_4
  have e_hE_0_14_5 := funext hE_0_14_5; subst e_hE_0_14_5
  first
    | assumption
    | exact gke_edge ‹GKE _ _ _ _› (by omega) (by omega) (by omega) (by omega) (by omega) hE_0_7_5 (by omega) hE_0_8_4 (by omega) (by omega)
  
def o_Gr_addEdge_at_Gq_0 : or_T := (48, 12, [(0, (2, 0, 0, [164])), (1, (0, 0, 23, [])), (2, (0, 0, 23, [])), (4, (0, 0, 47, [])), (5, (2, 0, 0, [154])), (6, (2, 0, 0, [155])), (7, (2, 0, 0, [156])), (9, (2, 0, 0, [157])), (10, (0, 1, 1, [])), (11, (0, 1, 48, []))], [(9, [11, 0], [1]), (9, [9, 0], [10]), (9, [7, 0], [9]), (9, [6, 0], [8]), (9, [5, 0], [7]), (20, [1, 0, 2], [50, 1, 0, 1000, 2, 6, 0, 2, 0, 0, 1, 0, 2, 11, 0, 6, 4, 2, 1, 0, 0, 1, 2, 1, 0, 2, 6, 0, 2, 0, 0, 1, 2, 2, 11, 0, 6, 4, 2, 1, 2, 0, 1, 2, 1, 0, 3, 10, 0, 6, 4, 2, 1, 0, 0, 1, 1, 2, 0, 6, 4, 2, 1, 2, 0, 1, 1, 0]), (101, [0, 11], [1]), (1, [11, 4, 10], []), (9, [4, 0], [1]), (20, [1, 0, 2], [50, 1, 0, 1000, 2, 6, 0, 2, 0, 0, 1, 0, 2, 11, 0, 6, 4, 2, 1, 0, 0, 1, 2, 1, 0, 2, 6, 0, 2, 0, 0, 1, 2, 2, 11, 0, 6, 4, 2, 1, 2, 0, 1, 2, 1, 0, 3, 10, 0, 6, 4, 2, 1, 0, 0, 1, 1, 2, 0, 6, 4, 2, 1, 2, 0, 1, 1, 0]), (100, [9, 4, 3], []), (20, [1, 0, 2], [50, 1, 0, 1000, 2, 6, 0, 2, 0, 0, 1, 0, 2, 11, 0, 6, 4, 2, 1, 0, 0, 1, 2, 1, 0, 2, 6, 0, 2, 0, 0, 1, 2, 2, 11, 0, 6, 4, 2, 1, 2, 0, 1, 2, 1, 0, 3, 10, 0, 6, 4, 2, 1, 0, 0, 1, 1, 2, 0, 6, 4, 2, 1, 2, 0, 1, 1, 0]), (100, [7, 4, 8], []), (20, [1, 0, 2], [50, 1, 0, 1000, 2, 6, 0, 2, 0, 0, 1, 0, 2, 11, 0, 6, 4, 2, 1, 0, 0, 1, 2, 1, 0, 2, 6, 0, 2, 0, 0, 1, 2, 2, 11, 0, 6, 4, 2, 1, 2, 0, 1, 2, 1, 0, 3, 10, 0, 6, 4, 2, 1, 0, 0, 1, 1, 2, 0, 6, 4, 2, 1, 2, 0, 1, 1, 0]), (100, [6, 4, 2], []), (20, [1, 0, 2], [50, 1, 0, 1000, 2, 6, 0, 2, 0, 0, 1, 0, 2, 11, 0, 6, 4, 2, 1, 0, 0, 1, 2, 1, 0, 2, 6, 0, 2, 0, 0, 1, 2, 2, 11, 0, 6, 4, 2, 1, 2, 0, 1, 2, 1, 0, 3, 10, 0, 6, 4, 2, 1, 0, 0, 1, 1, 2, 0, 6, 4, 2, 1, 2, 0, 1, 1, 0]), (100, [5, 4, 1], []), (20, [0], [60, 2, 3, 670, 0, 1, 14, 7, 8]), (20, [0], [60, 2, 2, 596, 0, 1, 7, 8]), (20, [1, 0, 2], [50, 1, 0, 1000, 2, 6, 0, 2, 0, 0, 1, 0, 2, 11, 0, 6, 4, 2, 1, 0, 0, 1, 2, 1, 0, 2, 6, 0, 2, 0, 0, 1, 2, 2, 11, 0, 6, 4, 2, 1, 2, 0, 1, 2, 1, 0, 3, 10, 0, 6, 4, 2, 1, 0, 0, 1, 1, 2, 0, 6, 4, 2, 1, 2, 0, 1, 1, 0])], [], [], [(20, [4, 0], [50, 1, 0, 1001, 2, 6, 0, 2, 0, 0, 1, 0, 1, 6, 4, 2, 1, 0, 0, 1, 2, 1, 1]), (20, [0, 4], [60, 1, 3, 747, 0, 14, 7, 8]), (20, [0], [60, 2, 2, 596, 0, 1, 7, 8])], [], [(11, 4, 1, 1)])
theorem oo_Gr_addEdge_at_Gq_0 {kA : Nat → ClassId} : or_ok PRD kA GG o_Gr_addEdge_at_Gq_0 := by
  refine or_mk fun A ta ws vs hD hth hl => ?_
  intro t0 r0 t1 k1 t2 k2 t4 k4 t5 r5 t6 r6 t7 r7 t9 r9 t10 k10 t11 k11 d0 f0 f1 f2 f3 f4 f5 ta1 w1 le1 s1 f7 f8 f9 ta2 w2 le2 s2 f11 ta3 w3 le3 s3 f13 ta4 w4 le4 s4 f15 ta5 w5 le5 s5 f17 f18 f19
  replace f0 := shm_127 f0
  replace f1 := shm_114 f1
  replace f2 := shm_120 f2
  replace f3 := shm_143 f3
  replace f4 := shm_216 f4
  have s1 : (∀ b j, w_el ws b j = w_el w1 b j) ∧ ∀ b j, w_fd ws b j = if b = v_ad (n_v vs 0) ∧ j = 1 then n_v vs 11 else w_fd w1 b j := s1.2
  replace f8 := shm_127 f8
  have s2 : (∀ b j, w_el w1 b j = if b = v_ad (n_v vs 9) ∧ j = (v_iv (n_v vs 4)).toNat then v_iv (n_v vs 3) else w_el w2 b j) ∧ ∀ b k, w_fd w1 b k = w_fd w2 b k := s2.2
  have s3 : (∀ b j, w_el w2 b j = if b = v_ad (n_v vs 7) ∧ j = (v_iv (n_v vs 4)).toNat then v_iv (n_v vs 8) else w_el w3 b j) ∧ ∀ b k, w_fd w2 b k = w_fd w3 b k := s3.2
  have s4 : (∀ b j, w_el w3 b j = if b = v_ad (n_v vs 6) ∧ j = (v_iv (n_v vs 4)).toNat then v_iv (n_v vs 2) else w_el w4 b j) ∧ ∀ b k, w_fd w3 b k = w_fd w4 b k := s4.2
  have s5 : (∀ b j, w_el w4 b j = if b = v_ad (n_v vs 5) ∧ j = (v_iv (n_v vs 4)).toNat then v_iv (n_v vs 1) else w_el w5 b j) ∧ ∀ b k, w_fd w4 b k = w_fd w5 b k := s5.2
  replace f17 := shm_811 f17
  replace f18 := shm_401 f18
  have ar_0_7_1 : w_ar w1 (n_v vs 0) 7 = w_ar ws (n_v vs 0) 7 := by show v_ad (w_fd w1 _ _) = v_ad (w_fd ws _ _); rw [s1.2, if_neg (fun e => absurd e.2 (by decide))]
  have ar_0_7_2 : w_ar w2 (n_v vs 0) 7 = w_ar ws (n_v vs 0) 7 := by rw [← ar_0_7_1]; show v_ad (w_fd w2 _ _) = v_ad (w_fd w1 _ _); rw [s2.2]
  have ar_0_7_3 : w_ar w3 (n_v vs 0) 7 = w_ar ws (n_v vs 0) 7 := by rw [← ar_0_7_2]; show v_ad (w_fd w3 _ _) = v_ad (w_fd w2 _ _); rw [s3.2]
  have ar_0_7_4 : w_ar w4 (n_v vs 0) 7 = w_ar ws (n_v vs 0) 7 := by rw [← ar_0_7_3]; show v_ad (w_fd w4 _ _) = v_ad (w_fd w3 _ _); rw [s4.2]
  have ar_0_7_5 : w_ar w5 (n_v vs 0) 7 = w_ar ws (n_v vs 0) 7 := by rw [← ar_0_7_4]; show v_ad (w_fd w5 _ _) = v_ad (w_fd w4 _ _); rw [s5.2]
  have cr_0_7 := fdq_74 hD hth r0
  have ar_0_8_1 : w_ar w1 (n_v vs 0) 8 = w_ar ws (n_v vs 0) 8 := by show v_ad (w_fd w1 _ _) = v_ad (w_fd ws _ _); rw [s1.2, if_neg (fun e => absurd e.2 (by decide))]
  have ar_0_8_2 : w_ar w2 (n_v vs 0) 8 = w_ar ws (n_v vs 0) 8 := by rw [← ar_0_8_1]; show v_ad (w_fd w2 _ _) = v_ad (w_fd w1 _ _); rw [s2.2]
  have ar_0_8_3 : w_ar w3 (n_v vs 0) 8 = w_ar ws (n_v vs 0) 8 := by rw [← ar_0_8_2]; show v_ad (w_fd w3 _ _) = v_ad (w_fd w2 _ _); rw [s3.2]
  have ar_0_8_4 : w_ar w4 (n_v vs 0) 8 = w_ar ws (n_v vs 0) 8 := by rw [← ar_0_8_3]; show v_ad (w_fd w4 _ _) = v_ad (w_fd w3 _ _); rw [s4.2]
  have ar_0_8_5 : w_ar w5 (n_v vs 0) 8 = w_ar ws (n_v vs 0) 8 := by rw [← ar_0_8_4]; show v_ad (w_fd w5 _ _) = v_ad (w_fd w4 _ _); rw [s5.2]
  have cr_0_8 := fdq_75 hD hth r0
  have cr_0_9 := fdq_202 hD hth r0
  have cr_0_10 := fdq_203 hD hth r0
  have ar_0_14_1 : w_ar w1 (n_v vs 0) 14 = w_ar ws (n_v vs 0) 14 := by show v_ad (w_fd w1 _ _) = v_ad (w_fd ws _ _); rw [s1.2, if_neg (fun e => absurd e.2 (by decide))]
  have ar_0_14_2 : w_ar w2 (n_v vs 0) 14 = w_ar ws (n_v vs 0) 14 := by rw [← ar_0_14_1]; show v_ad (w_fd w2 _ _) = v_ad (w_fd w1 _ _); rw [s2.2]
  have ar_0_14_3 : w_ar w3 (n_v vs 0) 14 = w_ar ws (n_v vs 0) 14 := by rw [← ar_0_14_2]; show v_ad (w_fd w3 _ _) = v_ad (w_fd w2 _ _); rw [s3.2]
  have ar_0_14_4 : w_ar w4 (n_v vs 0) 14 = w_ar ws (n_v vs 0) 14 := by rw [← ar_0_14_3]; show v_ad (w_fd w4 _ _) = v_ad (w_fd w3 _ _); rw [s4.2]
  have ar_0_14_5 : w_ar w5 (n_v vs 0) 14 = w_ar ws (n_v vs 0) 14 := by rw [← ar_0_14_4]; show v_ad (w_fd w5 _ _) = v_ad (w_fd w4 _ _); rw [s5.2]
  have cr_0_14 := fdq_76 hD hth r0
  have ad_9 : v_ad (n_v vs 9) = w_ar ws (n_v vs 0) 10 := congrArg v_ad f1
  have ad_7 : v_ad (n_v vs 7) = w_ar ws (n_v vs 0) 9 := congrArg v_ad f2
  have ad_6 : v_ad (n_v vs 6) = w_ar ws (n_v vs 0) 8 := congrArg v_ad f3
  have ad_5 : v_ad (n_v vs 5) = w_ar ws (n_v vs 0) 7 := congrArg v_ad f4
  have g0 : v_iv (n_v vs 11) = w_fi ws (n_v vs 0) 1 := congrArg v_iv f0
  have g8 : v_iv (n_v vs 4) = w_fi w1 (n_v vs 0) 1 := congrArg v_iv f8
  simp only [ar_0_7_5, ar_0_8_5, ar_0_14_5] at f17 f18
  have fe_0_0_1 : w_fi ws (n_v vs 0) 0 = w_fi w1 (n_v vs 0) 0 := by show v_iv (w_fd _ _ _) = v_iv (w_fd _ _ _); rw [s1.2, if_neg (fun e => absurd e.2 (by decide))]
  have fe_0_1_1 : w_fi ws (n_v vs 0) 1 = v_iv (n_v vs 11) := by show v_iv (w_fd _ _ _) = _; rw [s1.2, if_pos ⟨rfl, rfl⟩]
  have fe_0_0_2 : w_fi w1 (n_v vs 0) 0 = w_fi w2 (n_v vs 0) 0 := congrArg v_iv (s2.2 _ _)
  have fe_0_1_2 : w_fi w1 (n_v vs 0) 1 = w_fi w2 (n_v vs 0) 1 := congrArg v_iv (s2.2 _ _)
  have fe_0_0_3 : w_fi w2 (n_v vs 0) 0 = w_fi w3 (n_v vs 0) 0 := congrArg v_iv (s3.2 _ _)
  have fe_0_1_3 : w_fi w2 (n_v vs 0) 1 = w_fi w3 (n_v vs 0) 1 := congrArg v_iv (s3.2 _ _)
  have fe_0_0_4 : w_fi w3 (n_v vs 0) 0 = w_fi w4 (n_v vs 0) 0 := congrArg v_iv (s4.2 _ _)
  have fe_0_1_4 : w_fi w3 (n_v vs 0) 1 = w_fi w4 (n_v vs 0) 1 := congrArg v_iv (s4.2 _ _)
  have fe_0_0_5 : w_fi w4 (n_v vs 0) 0 = w_fi w5 (n_v vs 0) 0 := congrArg v_iv (s5.2 _ _)
  have fe_0_1_5 : w_fi w4 (n_v vs 0) 1 = w_fi w5 (n_v vs 0) 1 := congrArg v_iv (s5.2 _ _)
  have hE_0_7_1 : ∀ j : Int, w_ei ws (w_ar ws (n_v vs 0) 7) j = w_ei w1 (w_ar ws (n_v vs 0) 7) j := fun j => s1.1 _ _
  have hE_0_7_2 : ∀ j : Int, w_ei w1 (w_ar ws (n_v vs 0) 7) j = w_ei w2 (w_ar ws (n_v vs 0) 7) j := el_kp s2.1 r9 cr_0_7 (by decide)
  have hE_0_7_3 : ∀ j : Int, w_ei w2 (w_ar ws (n_v vs 0) 7) j = w_ei w3 (w_ar ws (n_v vs 0) 7) j := el_kp s3.1 r7 cr_0_7 (by decide)
  have hE_0_7_4 : ∀ j : Int, w_ei w3 (w_ar ws (n_v vs 0) 7) j = w_ei w4 (w_ar ws (n_v vs 0) 7) j := el_kp s4.1 r6 cr_0_7 (by decide)
  have hE_0_7_5 : ∀ j : Int, 0 ≤ j → (j = v_iv (n_v vs 4) → w_ei w4 (w_ar ws (n_v vs 0) 7) j = v_iv (n_v vs 1)) ∧ (j ≠ v_iv (n_v vs 4) → w_ei w4 (w_ar ws (n_v vs 0) 7) j = w_ei w5 (w_ar ws (n_v vs 0) 7) j) := fun j hj => ⟨fun h => by unfold w_ei; rw [s5.1, if_pos ⟨ad_5.symm, by rw [h]⟩], fun h => by unfold w_ei; rw [s5.1, if_neg (fun e => h (by have := e.2; omega))]⟩
  have hK_0_7 := elq_32 hD hth cr_0_7
  have hE_0_8_1 : ∀ j : Int, w_ei ws (w_ar ws (n_v vs 0) 8) j = w_ei w1 (w_ar ws (n_v vs 0) 8) j := fun j => s1.1 _ _
  have hE_0_8_2 : ∀ j : Int, w_ei w1 (w_ar ws (n_v vs 0) 8) j = w_ei w2 (w_ar ws (n_v vs 0) 8) j := el_kp s2.1 r9 cr_0_8 (by decide)
  have hE_0_8_3 : ∀ j : Int, w_ei w2 (w_ar ws (n_v vs 0) 8) j = w_ei w3 (w_ar ws (n_v vs 0) 8) j := el_kp s3.1 r7 cr_0_8 (by decide)
  have hE_0_8_4 : ∀ j : Int, 0 ≤ j → (j = v_iv (n_v vs 4) → w_ei w3 (w_ar ws (n_v vs 0) 8) j = v_iv (n_v vs 2)) ∧ (j ≠ v_iv (n_v vs 4) → w_ei w3 (w_ar ws (n_v vs 0) 8) j = w_ei w4 (w_ar ws (n_v vs 0) 8) j) := fun j hj => ⟨fun h => by unfold w_ei; rw [s4.1, if_pos ⟨ad_6.symm, by rw [h]⟩], fun h => by unfold w_ei; rw [s4.1, if_neg (fun e => h (by have := e.2; omega))]⟩
  have hE_0_8_5 : ∀ j : Int, w_ei w4 (w_ar ws (n_v vs 0) 8) j = w_ei w5 (w_ar ws (n_v vs 0) 8) j := el_kp s5.1 r5 cr_0_8 (by decide)
  have hK_0_8 := elq_33 hD hth cr_0_8
  have hE_0_9_1 : ∀ j : Int, w_ei ws (w_ar ws (n_v vs 0) 9) j = w_ei w1 (w_ar ws (n_v vs 0) 9) j := fun j => s1.1 _ _
  have hE_0_9_2 : ∀ j : Int, w_ei w1 (w_ar ws (n_v vs 0) 9) j = w_ei w2 (w_ar ws (n_v vs 0) 9) j := el_kp s2.1 r9 cr_0_9 (by decide)
  have hE_0_9_3 : ∀ j : Int, 0 ≤ j → (j = v_iv (n_v vs 4) → w_ei w2 (w_ar ws (n_v vs 0) 9) j = v_iv (n_v vs 8)) ∧ (j ≠ v_iv (n_v vs 4) → w_ei w2 (w_ar ws (n_v vs 0) 9) j = w_ei w3 (w_ar ws (n_v vs 0) 9) j) := fun j hj => ⟨fun h => by unfold w_ei; rw [s3.1, if_pos ⟨ad_7.symm, by rw [h]⟩], fun h => by unfold w_ei; rw [s3.1, if_neg (fun e => h (by have := e.2; omega))]⟩
  have hE_0_9_4 : ∀ j : Int, w_ei w3 (w_ar ws (n_v vs 0) 9) j = w_ei w4 (w_ar ws (n_v vs 0) 9) j := el_kp s4.1 r6 cr_0_9 (by decide)
  have hE_0_9_5 : ∀ j : Int, w_ei w4 (w_ar ws (n_v vs 0) 9) j = w_ei w5 (w_ar ws (n_v vs 0) 9) j := el_kp s5.1 r5 cr_0_9 (by decide)
  have hK_0_9 := elq_118 hD hth cr_0_9
  have hE_0_10_1 : ∀ j : Int, w_ei ws (w_ar ws (n_v vs 0) 10) j = w_ei w1 (w_ar ws (n_v vs 0) 10) j := fun j => s1.1 _ _
  have hE_0_10_2 : ∀ j : Int, 0 ≤ j → (j = v_iv (n_v vs 4) → w_ei w1 (w_ar ws (n_v vs 0) 10) j = v_iv (n_v vs 3)) ∧ (j ≠ v_iv (n_v vs 4) → w_ei w1 (w_ar ws (n_v vs 0) 10) j = w_ei w2 (w_ar ws (n_v vs 0) 10) j) := fun j hj => ⟨fun h => by unfold w_ei; rw [s2.1, if_pos ⟨ad_9.symm, by rw [h]⟩], fun h => by unfold w_ei; rw [s2.1, if_neg (fun e => h (by have := e.2; omega))]⟩
  have hE_0_10_3 : ∀ j : Int, w_ei w2 (w_ar ws (n_v vs 0) 10) j = w_ei w3 (w_ar ws (n_v vs 0) 10) j := el_kp s3.1 r7 cr_0_10 (by decide)
  have hE_0_10_4 : ∀ j : Int, w_ei w3 (w_ar ws (n_v vs 0) 10) j = w_ei w4 (w_ar ws (n_v vs 0) 10) j := el_kp s4.1 r6 cr_0_10 (by decide)
  have hE_0_10_5 : ∀ j : Int, w_ei w4 (w_ar ws (n_v vs 0) 10) j = w_ei w5 (w_ar ws (n_v vs 0) 10) j := el_kp s5.1 r5 cr_0_10 (by decide)
  have hK_0_10 := elq_119 hD hth cr_0_10
  have hE_0_14_1 : ∀ j : Int, w_ei ws (w_ar ws (n_v vs 0) 14) j = w_ei w1 (w_ar ws (n_v vs 0) 14) j := fun j => s1.1 _ _
  have hE_0_14_2 : ∀ j : Int, w_ei w1 (w_ar ws (n_v vs 0) 14) j = w_ei w2 (w_ar ws (n_v vs 0) 14) j := el_kp s2.1 r9 cr_0_14 (by decide)
  have hE_0_14_3 : ∀ j : Int, w_ei w2 (w_ar ws (n_v vs 0) 14) j = w_ei w3 (w_ar ws (n_v vs 0) 14) j := el_kp s3.1 r7 cr_0_14 (by decide)
  have hE_0_14_4 : ∀ j : Int, w_ei w3 (w_ar ws (n_v vs 0) 14) j = w_ei w4 (w_ar ws (n_v vs 0) 14) j := el_kp s4.1 r6 cr_0_14 (by decide)
  have hE_0_14_5 : ∀ j : Int, w_ei w4 (w_ar ws (n_v vs 0) 14) j = w_ei w5 (w_ar ws (n_v vs 0) 14) j := el_kp s5.1 r5 cr_0_14 (by decide)
  have hK_0_14 := elq_34 hD hth cr_0_14
  have kz_0_0 := fdq_77 hD hth r0
  have kz_0_1 := fdq_78 hD hth r0
  have nf0 : fc_1 PRD (20, [4, 0], [50, 1, 0, 1001, 2, 6, 0, 2, 0, 0, 1, 0, 1, 6, 4, 2, 1, 0, 0, 1, 2, 1, 1]) ws (vs) := ⟨nf_in hl rfl, sgq_812 (vc_Gr_addEdge_at_Gq_0_0 (v_iv (n_v vs 1)) (v_iv (n_v vs 2)) (v_iv (n_v vs 4)) (v_iv (n_v vs 10)) (v_iv (n_v vs 11)) (w_fi ws (n_v vs 0) 1) (w_fi ws (n_v vs 0) 0) (w_fi w1 (n_v vs 0) 1) (w_fi w1 (n_v vs 0) 0) (w_fi w2 (n_v vs 0) 0) (w_fi w3 (n_v vs 0) 0) (w_fi w4 (n_v vs 0) 0) (w_ei w5 (w_ar ws (n_v vs 0) 14)) (w_ei w5 (w_ar ws (n_v vs 0) 7)) (w_ei w5 (w_ar ws (n_v vs 0) 8)) (w_fi w5 (n_v vs 0) 0) (w_fi w5 (n_v vs 0) 1) (w_fi w2 (n_v vs 0) 1) (w_fi w3 (n_v vs 0) 1) (w_fi w4 (n_v vs 0) 1) (w_ei ws (w_ar ws (n_v vs 0) 7)) (w_ei w1 (w_ar ws (n_v vs 0) 7)) (w_ei w2 (w_ar ws (n_v vs 0) 7)) (w_ei w3 (w_ar ws (n_v vs 0) 7)) (w_ei w4 (w_ar ws (n_v vs 0) 7)) (w_ei ws (w_ar ws (n_v vs 0) 8)) (w_ei w1 (w_ar ws (n_v vs 0) 8)) (w_ei w2 (w_ar ws (n_v vs 0) 8)) (w_ei w3 (w_ar ws (n_v vs 0) 8)) (w_ei w4 (w_ar ws (n_v vs 0) 8)) (w_ei ws (w_ar ws (n_v vs 0) 9)) (w_ei w1 (w_ar ws (n_v vs 0) 9)) (w_ei w2 (w_ar ws (n_v vs 0) 9)) (w_ei w3 (w_ar ws (n_v vs 0) 9)) (v_iv (n_v vs 8)) (w_ei w4 (w_ar ws (n_v vs 0) 9)) (w_ei w5 (w_ar ws (n_v vs 0) 9)) (w_ei ws (w_ar ws (n_v vs 0) 10)) (w_ei w1 (w_ar ws (n_v vs 0) 10)) (w_ei w2 (w_ar ws (n_v vs 0) 10)) (v_iv (n_v vs 3)) (w_ei w3 (w_ar ws (n_v vs 0) 10)) (w_ei w4 (w_ar ws (n_v vs 0) 10)) (w_ei w5 (w_ar ws (n_v vs 0) 10)) (w_ei ws (w_ar ws (n_v vs 0) 14)) (w_ei w1 (w_ar ws (n_v vs 0) 14)) (w_ei w2 (w_ar ws (n_v vs 0) 14)) (w_ei w3 (w_ar ws (n_v vs 0) 14)) (w_ei w4 (w_ar ws (n_v vs 0) 14)) k1 k2 k4 k10 k11 d0 g0 (shm_810 f5) (shm_12 f7) g8 (shm_810 f9) (shm_810 f11) (shm_810 f13) (shm_810 f15) f17 f18 (shm_810 f19) fe_0_0_1 fe_0_1_1 fe_0_0_2 fe_0_1_2 fe_0_0_3 fe_0_1_3 fe_0_0_4 fe_0_1_4 fe_0_0_5 fe_0_1_5 hE_0_7_1 hE_0_7_2 hE_0_7_3 hE_0_7_4 hE_0_7_5 hK_0_7 hE_0_8_1 hE_0_8_2 hE_0_8_3 hE_0_8_4 hE_0_8_5 hK_0_8 hE_0_9_1 hE_0_9_2 hE_0_9_3 hE_0_9_4 hE_0_9_5 hK_0_9 hE_0_10_1 hE_0_10_2 hE_0_10_3 hE_0_10_4 hE_0_10_5 hK_0_10 hE_0_14_1 hE_0_14_2 hE_0_14_3 hE_0_14_4 hE_0_14_5 hK_0_14 kz_0_0 kz_0_1)⟩
  have nf1 : fc_1 PRD (20, [0, 4], [60, 1, 3, 747, 0, 14, 7, 8]) ws (vs) := ⟨nf_in hl rfl, sgq_403 (vc_Gr_addEdge_at_Gq_0_1 (v_iv (n_v vs 1)) (v_iv (n_v vs 2)) (v_iv (n_v vs 4)) (v_iv (n_v vs 10)) (v_iv (n_v vs 11)) (w_fi ws (n_v vs 0) 1) (w_fi ws (n_v vs 0) 0) (w_fi w1 (n_v vs 0) 1) (w_fi w1 (n_v vs 0) 0) (w_fi w2 (n_v vs 0) 0) (w_fi w3 (n_v vs 0) 0) (w_fi w4 (n_v vs 0) 0) (w_ei w5 (w_ar ws (n_v vs 0) 14)) (w_ei w5 (w_ar ws (n_v vs 0) 7)) (w_ei w5 (w_ar ws (n_v vs 0) 8)) (w_fi w5 (n_v vs 0) 0) (w_fi w5 (n_v vs 0) 1) (w_fi w2 (n_v vs 0) 1) (w_fi w3 (n_v vs 0) 1) (w_fi w4 (n_v vs 0) 1) (w_ei ws (w_ar ws (n_v vs 0) 7)) (w_ei w1 (w_ar ws (n_v vs 0) 7)) (w_ei w2 (w_ar ws (n_v vs 0) 7)) (w_ei w3 (w_ar ws (n_v vs 0) 7)) (w_ei w4 (w_ar ws (n_v vs 0) 7)) (w_ei ws (w_ar ws (n_v vs 0) 8)) (w_ei w1 (w_ar ws (n_v vs 0) 8)) (w_ei w2 (w_ar ws (n_v vs 0) 8)) (w_ei w3 (w_ar ws (n_v vs 0) 8)) (w_ei w4 (w_ar ws (n_v vs 0) 8)) (w_ei ws (w_ar ws (n_v vs 0) 9)) (w_ei w1 (w_ar ws (n_v vs 0) 9)) (w_ei w2 (w_ar ws (n_v vs 0) 9)) (w_ei w3 (w_ar ws (n_v vs 0) 9)) (v_iv (n_v vs 8)) (w_ei w4 (w_ar ws (n_v vs 0) 9)) (w_ei w5 (w_ar ws (n_v vs 0) 9)) (w_ei ws (w_ar ws (n_v vs 0) 10)) (w_ei w1 (w_ar ws (n_v vs 0) 10)) (w_ei w2 (w_ar ws (n_v vs 0) 10)) (v_iv (n_v vs 3)) (w_ei w3 (w_ar ws (n_v vs 0) 10)) (w_ei w4 (w_ar ws (n_v vs 0) 10)) (w_ei w5 (w_ar ws (n_v vs 0) 10)) (w_ei ws (w_ar ws (n_v vs 0) 14)) (w_ei w1 (w_ar ws (n_v vs 0) 14)) (w_ei w2 (w_ar ws (n_v vs 0) 14)) (w_ei w3 (w_ar ws (n_v vs 0) 14)) (w_ei w4 (w_ar ws (n_v vs 0) 14)) k1 k2 k4 k10 k11 d0 g0 (shm_810 f5) (shm_12 f7) g8 (shm_810 f9) (shm_810 f11) (shm_810 f13) (shm_810 f15) f17 f18 (shm_810 f19) fe_0_0_1 fe_0_1_1 fe_0_0_2 fe_0_1_2 fe_0_0_3 fe_0_1_3 fe_0_0_4 fe_0_1_4 fe_0_0_5 fe_0_1_5 hE_0_7_1 hE_0_7_2 hE_0_7_3 hE_0_7_4 hE_0_7_5 hK_0_7 hE_0_8_1 hE_0_8_2 hE_0_8_3 hE_0_8_4 hE_0_8_5 hK_0_8 hE_0_9_1 hE_0_9_2 hE_0_9_3 hE_0_9_4 hE_0_9_5 hK_0_9 hE_0_10_1 hE_0_10_2 hE_0_10_3 hE_0_10_4 hE_0_10_5 hK_0_10 hE_0_14_1 hE_0_14_2 hE_0_14_3 hE_0_14_4 hE_0_14_5 hK_0_14 kz_0_0 kz_0_1)⟩
  have nf2 : fc_1 PRD (20, [0], [60, 2, 2, 596, 0, 1, 7, 8]) ws (vs) := ⟨nf_in hl rfl, sgq_401 (vc_Gr_addEdge_at_Gq_0_2 (v_iv (n_v vs 1)) (v_iv (n_v vs 2)) (v_iv (n_v vs 4)) (v_iv (n_v vs 10)) (v_iv (n_v vs 11)) (w_fi ws (n_v vs 0) 1) (w_fi ws (n_v vs 0) 0) (w_fi w1 (n_v vs 0) 1) (w_fi w1 (n_v vs 0) 0) (w_fi w2 (n_v vs 0) 0) (w_fi w3 (n_v vs 0) 0) (w_fi w4 (n_v vs 0) 0) (w_ei w5 (w_ar ws (n_v vs 0) 14)) (w_ei w5 (w_ar ws (n_v vs 0) 7)) (w_ei w5 (w_ar ws (n_v vs 0) 8)) (w_fi w5 (n_v vs 0) 0) (w_fi w5 (n_v vs 0) 1) (w_fi w2 (n_v vs 0) 1) (w_fi w3 (n_v vs 0) 1) (w_fi w4 (n_v vs 0) 1) (w_ei ws (w_ar ws (n_v vs 0) 7)) (w_ei w1 (w_ar ws (n_v vs 0) 7)) (w_ei w2 (w_ar ws (n_v vs 0) 7)) (w_ei w3 (w_ar ws (n_v vs 0) 7)) (w_ei w4 (w_ar ws (n_v vs 0) 7)) (w_ei ws (w_ar ws (n_v vs 0) 8)) (w_ei w1 (w_ar ws (n_v vs 0) 8)) (w_ei w2 (w_ar ws (n_v vs 0) 8)) (w_ei w3 (w_ar ws (n_v vs 0) 8)) (w_ei w4 (w_ar ws (n_v vs 0) 8)) (w_ei ws (w_ar ws (n_v vs 0) 9)) (w_ei w1 (w_ar ws (n_v vs 0) 9)) (w_ei w2 (w_ar ws (n_v vs 0) 9)) (w_ei w3 (w_ar ws (n_v vs 0) 9)) (v_iv (n_v vs 8)) (w_ei w4 (w_ar ws (n_v vs 0) 9)) (w_ei w5 (w_ar ws (n_v vs 0) 9)) (w_ei ws (w_ar ws (n_v vs 0) 10)) (w_ei w1 (w_ar ws (n_v vs 0) 10)) (w_ei w2 (w_ar ws (n_v vs 0) 10)) (v_iv (n_v vs 3)) (w_ei w3 (w_ar ws (n_v vs 0) 10)) (w_ei w4 (w_ar ws (n_v vs 0) 10)) (w_ei w5 (w_ar ws (n_v vs 0) 10)) (w_ei ws (w_ar ws (n_v vs 0) 14)) (w_ei w1 (w_ar ws (n_v vs 0) 14)) (w_ei w2 (w_ar ws (n_v vs 0) 14)) (w_ei w3 (w_ar ws (n_v vs 0) 14)) (w_ei w4 (w_ar ws (n_v vs 0) 14)) k1 k2 k4 k10 k11 d0 g0 (shm_810 f5) (shm_12 f7) g8 (shm_810 f9) (shm_810 f11) (shm_810 f13) (shm_810 f15) f17 f18 (shm_810 f19) fe_0_0_1 fe_0_1_1 fe_0_0_2 fe_0_1_2 fe_0_0_3 fe_0_1_3 fe_0_0_4 fe_0_1_4 fe_0_0_5 fe_0_1_5 hE_0_7_1 hE_0_7_2 hE_0_7_3 hE_0_7_4 hE_0_7_5 hK_0_7 hE_0_8_1 hE_0_8_2 hE_0_8_3 hE_0_8_4 hE_0_8_5 hK_0_8 hE_0_9_1 hE_0_9_2 hE_0_9_3 hE_0_9_4 hE_0_9_5 hK_0_9 hE_0_10_1 hE_0_10_2 hE_0_10_3 hE_0_10_4 hE_0_10_5 hK_0_10 hE_0_14_1 hE_0_14_2 hE_0_14_3 hE_0_14_4 hE_0_14_5 hK_0_14 kz_0_0 kz_0_1)⟩
  refine ⟨(fun _ h => (by cases h)), [], trivial, ?_, (fun _ h => (by cases h))⟩
  rw [List.append_nil]
  exact List.forall_mem_cons.mpr ⟨⟨show (20 : Nat) < 100 from by decide, nf0⟩, List.forall_mem_cons.mpr ⟨⟨show (20 : Nat) < 100 from by decide, nf1⟩, List.forall_mem_cons.mpr ⟨⟨show (20 : Nat) < 100 from by decide, nf2⟩, (fun _ h => (by cases h))⟩⟩⟩
set_option maxHeartbeats 4000000 in
theorem vc_Gr_addEdge_at_Gq_1_0 (x1 : Int) (x2 : Int) (x4 : Int) (x10 : Int) (x11 : Int) (edges_0 : Int) (near_0 : Int → Int) (tail_0 : Int → Int) (head_0 : Int → Int) (nodes_0 : Int) (edges_1 : Int) (nodes_1 : Int) (nodes_2 : Int) (nodes_3 : Int) (nodes_4 : Int) (near_5 : Int → Int) (tail_5 : Int → Int) (head_5 : Int → Int) (nodes_5 : Int) (edges_5 : Int) (edges_2 : Int) (edges_3 : Int) (edges_4 : Int) (tail_1 : Int → Int) (tail_2 : Int → Int) (tail_3 : Int → Int) (tail_4 : Int → Int) (head_1 : Int → Int) (head_2 : Int → Int) (head_3 : Int → Int) (head_4 : Int → Int) (weight_0 : Int → Int) (weight_1 : Int → Int) (weight_2 : Int → Int) (weight_3 : Int → Int) (x8 : Int) (weight_4 : Int → Int) (weight_5 : Int → Int) (oneWay_0 : Int → Int) (oneWay_1 : Int → Int) (oneWay_2 : Int → Int) (x3 : Int) (oneWay_3 : Int → Int) (oneWay_4 : Int → Int) (oneWay_5 : Int → Int) (near_1 : Int → Int) (near_2 : Int → Int) (near_3 : Int → Int) (near_4 : Int → Int) (k1 : 0 ≤ x1 ∧ x1 ≤ 23) (k2 : 0 ≤ x2 ∧ x2 ≤ 23) (k4 : 0 ≤ x4 ∧ x4 ≤ 47) (k10 : 1 ≤ x10 ∧ x10 ≤ 1) (k11 : 1 ≤ x11 ∧ x11 ≤ 48) (d0 : x4 + 1 ≤ x11 ∧ x11 ≤ x4 + 1) (g0 : x11 = edges_0) (f5 : (0 ≤ x4) ∧ ((x4 + 1) = edges_0)) (f6 : GNK (nodes_0) (near_0) (tail_0) (head_0) (x4)) (f7 : GKE (nodes_0) (edges_0) (tail_0) (head_0)) (f8 : (0 ≤ x1) ∧ (((x1 + 1) ≤ nodes_0) ∧ ((0 ≤ x2) ∧ (((x2 + 1) ≤ nodes_0) ∧ (((x1 + 1) ≤ x2) ∨ ((x2 + 1) ≤ x1)))))) (f10 : x11 = x4 + x10) (g11 : x4 = edges_1) (f12 : (0 ≤ x1) ∧ (((x1 + 1) ≤ nodes_1) ∧ ((0 ≤ x2) ∧ (((x2 + 1) ≤ nodes_1) ∧ (((x1 + 1) ≤ x2) ∨ ((x2 + 1) ≤ x1)))))) (f14 : (0 ≤ x1) ∧ (((x1 + 1) ≤ nodes_2) ∧ ((0 ≤ x2) ∧ (((x2 + 1) ≤ nodes_2) ∧ (((x1 + 1) ≤ x2) ∨ ((x2 + 1) ≤ x1)))))) (f16 : (0 ≤ x1) ∧ (((x1 + 1) ≤ nodes_3) ∧ ((0 ≤ x2) ∧ (((x2 + 1) ≤ nodes_3) ∧ (((x1 + 1) ≤ x2) ∨ ((x2 + 1) ≤ x1)))))) (f18 : (0 ≤ x1) ∧ (((x1 + 1) ≤ nodes_4) ∧ ((0 ≤ x2) ∧ (((x2 + 1) ≤ nodes_4) ∧ (((x1 + 1) ≤ x2) ∨ ((x2 + 1) ≤ x1)))))) (f20 : GNB (nodes_5) (edges_5) (near_5) (tail_5) (head_5)) (f21 : GKE (nodes_5) (edges_5) (tail_5) (head_5)) (f22 : (0 ≤ x1) ∧ (((x1 + 1) ≤ nodes_5) ∧ ((0 ≤ x2) ∧ (((x2 + 1) ≤ nodes_5) ∧ (((x1 + 1) ≤ x2) ∨ ((x2 + 1) ≤ x1)))))) (fe_0_0_1 : nodes_0 = nodes_1) (fe_0_1_1 : edges_0 = x11) (fe_0_0_2 : nodes_1 = nodes_2) (fe_0_1_2 : edges_1 = edges_2) (fe_0_0_3 : nodes_2 = nodes_3) (fe_0_1_3 : edges_2 = edges_3) (fe_0_0_4 : nodes_3 = nodes_4) (fe_0_1_4 : edges_3 = edges_4) (fe_0_0_5 : nodes_4 = nodes_5) (fe_0_1_5 : edges_4 = edges_5) (hE_0_7_1 : ∀ j : Int, tail_0 j = tail_1 j) (hE_0_7_2 : ∀ j : Int, tail_1 j = tail_2 j) (hE_0_7_3 : ∀ j : Int, tail_2 j = tail_3 j) (hE_0_7_4 : ∀ j : Int, tail_3 j = tail_4 j) (hE_0_7_5 : ∀ j : Int, 0 ≤ j → (j = x4 → tail_4 j = x1) ∧ (j ≠ x4 → tail_4 j = tail_5 j)) (hK_0_7 : ∀ j : Int, 0 ≤ j → j < 48 → 0 ≤ tail_0 j ∧ tail_0 j ≤ 23) (hE_0_8_1 : ∀ j : Int, head_0 j = head_1 j) (hE_0_8_2 : ∀ j : Int, head_1 j = head_2 j) (hE_0_8_3 : ∀ j : Int, head_2 j = head_3 j) (hE_0_8_4 : ∀ j : Int, 0 ≤ j → (j = x4 → head_3 j = x2) ∧ (j ≠ x4 → head_3 j = head_4 j)) (hE_0_8_5 : ∀ j : Int, head_4 j = head_5 j) (hK_0_8 : ∀ j : Int, 0 ≤ j → j < 48 → 0 ≤ head_0 j ∧ head_0 j ≤ 23) (hE_0_9_1 : ∀ j : Int, weight_0 j = weight_1 j) (hE_0_9_2 : ∀ j : Int, weight_1 j = weight_2 j) (hE_0_9_3 : ∀ j : Int, 0 ≤ j → (j = x4 → weight_2 j = x8) ∧ (j ≠ x4 → weight_2 j = weight_3 j)) (hE_0_9_4 : ∀ j : Int, weight_3 j = weight_4 j) (hE_0_9_5 : ∀ j : Int, weight_4 j = weight_5 j) (hK_0_9 : ∀ j : Int, 0 ≤ j → j < 48 → 0 ≤ weight_0 j ∧ weight_0 j ≤ 9) (hE_0_10_1 : ∀ j : Int, oneWay_0 j = oneWay_1 j) (hE_0_10_2 : ∀ j : Int, 0 ≤ j → (j = x4 → oneWay_1 j = x3) ∧ (j ≠ x4 → oneWay_1 j = oneWay_2 j)) (hE_0_10_3 : ∀ j : Int, oneWay_2 j = oneWay_3 j) (hE_0_10_4 : ∀ j : Int, oneWay_3 j = oneWay_4 j) (hE_0_10_5 : ∀ j : Int, oneWay_4 j = oneWay_5 j) (hK_0_10 : ∀ j : Int, 0 ≤ j → j < 48 → 0 ≤ oneWay_0 j ∧ oneWay_0 j ≤ 1) (hE_0_14_1 : ∀ j : Int, near_0 j = near_1 j) (hE_0_14_2 : ∀ j : Int, near_1 j = near_2 j) (hE_0_14_3 : ∀ j : Int, near_2 j = near_3 j) (hE_0_14_4 : ∀ j : Int, near_3 j = near_4 j) (hE_0_14_5 : ∀ j : Int, near_4 j = near_5 j) (hK_0_14 : ∀ j : Int, 0 ≤ j → j < 24 → 0 ≤ near_0 j ∧ near_0 j ≤ 16777215) (kz_0_0 : 0 ≤ nodes_0 ∧ nodes_0 ≤ 24) (kz_0_1 : 0 ≤ edges_0 ∧ edges_0 ≤ 48) : (0 ≤ x4) ∧ ((x4 + 1) ≤ edges_0) := by
  subst fe_0_0_1
  subst fe_0_0_2
  subst fe_0_1_2
  subst fe_0_0_3
  subst fe_0_1_3
  subst fe_0_0_4
  subst fe_0_1_4
  subst fe_0_0_5
  subst fe_0_1_5
  have e_hE_0_7_1 := funext hE_0_7_1; subst e_hE_0_7_1
  have e_hE_0_7_2 := funext hE_0_7_2; subst e_hE_0_7_2
  have e_hE_0_7_3 := funext hE_0_7_3; subst e_hE_0_7_3
  have e_hE_0_7_4 := funext hE_0_7_4; subst e_hE_0_7_4
  have e_hE_0_8_1 := funext hE_0_8_1; subst e_hE_0_8_1
  have e_hE_0_8_2 := funext hE_0_8_2; subst e_hE_0_8_2
  have e_hE_0_8_3 := funext hE_0_8_3; subst e_hE_0_8_3
  have e_hE_0_8_5 := funext hE_0_8_5; subst e_hE_0_8_5
  have e_hE_0_9_1 := funext hE_0_9_1; subst e_hE_0_9_1
  have e_hE_0_9_2 := funext hE_0_9_2; subst e_hE_0_9_2
  have e_hE_0_9_4 := funext hE_0_9_4; subst e_hE_0_9_4
  have e_hE_0_9_5 := funext hE_0_9_5; subst e_hE_0_9_5
  have e_hE_0_10_1 := funext hE_0_10_1; subst e_hE_0_10_1
  have e_hE_0_10_3 := funext hE_0_10_3; subst e_hE_0_10_3
  have e_hE_0_10_4 := funext hE_0_10_4; subst e_hE_0_10_4
  have e_hE_0_10_5 := funext hE_0_10_5; subst e_hE_0_10_5
  have e_hE_0_14_1 := funext hE_0_14_1; subst e_hE_0_14_1
  have e_hE_0_14_2 := funext hE_0_14_2; subst e_hE_0_14_2
  have e_hE_0_14_3 := funext hE_0_14_3; subst e_hE_0_14_3
  have e_hE_0_14_4 := funext hE_0_14_4; subst e_hE_0_14_4
  have e_hE_0_14_5 := funext hE_0_14_5; subst e_hE_0_14_5
  first
    | omega
  
def o_Gr_addEdge_at_Gq_1 : or_T := (51, 12, [(0, (2, 0, 0, [164])), (1, (0, 0, 23, [])), (2, (0, 0, 23, [])), (4, (0, 0, 47, [])), (5, (2, 0, 0, [154])), (6, (2, 0, 0, [155])), (7, (2, 0, 0, [156])), (9, (2, 0, 0, [157])), (10, (0, 1, 1, [])), (11, (0, 1, 48, []))], [(9, [11, 0], [1]), (9, [9, 0], [10]), (9, [7, 0], [9]), (9, [6, 0], [8]), (9, [5, 0], [7]), (20, [4, 0], [50, 1, 0, 1001, 2, 6, 0, 2, 0, 0, 1, 0, 1, 6, 4, 2, 1, 0, 0, 1, 2, 1, 1]), (20, [0, 4], [60, 1, 3, 747, 0, 14, 7, 8]), (20, [0], [60, 2, 2, 596, 0, 1, 7, 8]), (20, [1, 0, 2], [50, 1, 0, 1000, 2, 6, 0, 2, 0, 0, 1, 0, 2, 11, 0, 6, 4, 2, 1, 0, 0, 1, 2, 1, 0, 2, 6, 0, 2, 0, 0, 1, 2, 2, 11, 0, 6, 4, 2, 1, 2, 0, 1, 2, 1, 0, 3, 10, 0, 6, 4, 2, 1, 0, 0, 1, 1, 2, 0, 6, 4, 2, 1, 2, 0, 1, 1, 0]), (101, [0, 11], [1]), (1, [11, 4, 10], []), (9, [4, 0], [1]), (20, [1, 0, 2], [50, 1, 0, 1000, 2, 6, 0, 2, 0, 0, 1, 0, 2, 11, 0, 6, 4, 2, 1, 0, 0, 1, 2, 1, 0, 2, 6, 0, 2, 0, 0, 1, 2, 2, 11, 0, 6, 4, 2, 1, 2, 0, 1, 2, 1, 0, 3, 10, 0, 6, 4, 2, 1, 0, 0, 1, 1, 2, 0, 6, 4, 2, 1, 2, 0, 1, 1, 0]), (100, [9, 4, 3], []), (20, [1, 0, 2], [50, 1, 0, 1000, 2, 6, 0, 2, 0, 0, 1, 0, 2, 11, 0, 6, 4, 2, 1, 0, 0, 1, 2, 1, 0, 2, 6, 0, 2, 0, 0, 1, 2, 2, 11, 0, 6, 4, 2, 1, 2, 0, 1, 2, 1, 0, 3, 10, 0, 6, 4, 2, 1, 0, 0, 1, 1, 2, 0, 6, 4, 2, 1, 2, 0, 1, 1, 0]), (100, [7, 4, 8], []), (20, [1, 0, 2], [50, 1, 0, 1000, 2, 6, 0, 2, 0, 0, 1, 0, 2, 11, 0, 6, 4, 2, 1, 0, 0, 1, 2, 1, 0, 2, 6, 0, 2, 0, 0, 1, 2, 2, 11, 0, 6, 4, 2, 1, 2, 0, 1, 2, 1, 0, 3, 10, 0, 6, 4, 2, 1, 0, 0, 1, 1, 2, 0, 6, 4, 2, 1, 2, 0, 1, 1, 0]), (100, [6, 4, 2], []), (20, [1, 0, 2], [50, 1, 0, 1000, 2, 6, 0, 2, 0, 0, 1, 0, 2, 11, 0, 6, 4, 2, 1, 0, 0, 1, 2, 1, 0, 2, 6, 0, 2, 0, 0, 1, 2, 2, 11, 0, 6, 4, 2, 1, 2, 0, 1, 2, 1, 0, 3, 10, 0, 6, 4, 2, 1, 0, 0, 1, 1, 2, 0, 6, 4, 2, 1, 2, 0, 1, 1, 0]), (100, [5, 4, 1], []), (20, [0], [60, 2, 3, 670, 0, 1, 14, 7, 8]), (20, [0], [60, 2, 2, 596, 0, 1, 7, 8]), (20, [1, 0, 2], [50, 1, 0, 1000, 2, 6, 0, 2, 0, 0, 1, 0, 2, 11, 0, 6, 4, 2, 1, 0, 0, 1, 2, 1, 0, 2, 6, 0, 2, 0, 0, 1, 2, 2, 11, 0, 6, 4, 2, 1, 2, 0, 1, 2, 1, 0, 3, 10, 0, 6, 4, 2, 1, 0, 0, 1, 1, 2, 0, 6, 4, 2, 1, 2, 0, 1, 1, 0])], [], [], [(20, [4, 0], [50, 1, 0, 1001, 2, 6, 0, 2, 0, 0, 1, 0, 0, 6, 4, 2, 1, 0, 0, 1, 2, 1, 1])], [], [(11, 4, 1, 1)])
theorem oo_Gr_addEdge_at_Gq_1 {kA : Nat → ClassId} : or_ok PRD kA GG o_Gr_addEdge_at_Gq_1 := by
  refine or_mk fun A ta ws vs hD hth hl => ?_
  intro t0 r0 t1 k1 t2 k2 t4 k4 t5 r5 t6 r6 t7 r7 t9 r9 t10 k10 t11 k11 d0 f0 f1 f2 f3 f4 f5 f6 f7 f8 ta1 w1 le1 s1 f10 f11 f12 ta2 w2 le2 s2 f14 ta3 w3 le3 s3 f16 ta4 w4 le4 s4 f18 ta5 w5 le5 s5 f20 f21 f22
  replace f0 := shm_127 f0
  replace f1 := shm_114 f1
  replace f2 := shm_120 f2
  replace f3 := shm_143 f3
  replace f4 := shm_216 f4
  have s1 : (∀ b j, w_el ws b j = w_el w1 b j) ∧ ∀ b j, w_fd ws b j = if b = v_ad (n_v vs 0) ∧ j = 1 then n_v vs 11 else w_fd w1 b j := s1.2
  replace f11 := shm_127 f11
  have s2 : (∀ b j, w_el w1 b j = if b = v_ad (n_v vs 9) ∧ j = (v_iv (n_v vs 4)).toNat then v_iv (n_v vs 3) else w_el w2 b j) ∧ ∀ b k, w_fd w1 b k = w_fd w2 b k := s2.2
  have s3 : (∀ b j, w_el w2 b j = if b = v_ad (n_v vs 7) ∧ j = (v_iv (n_v vs 4)).toNat then v_iv (n_v vs 8) else w_el w3 b j) ∧ ∀ b k, w_fd w2 b k = w_fd w3 b k := s3.2
  have s4 : (∀ b j, w_el w3 b j = if b = v_ad (n_v vs 6) ∧ j = (v_iv (n_v vs 4)).toNat then v_iv (n_v vs 2) else w_el w4 b j) ∧ ∀ b k, w_fd w3 b k = w_fd w4 b k := s4.2
  have s5 : (∀ b j, w_el w4 b j = if b = v_ad (n_v vs 5) ∧ j = (v_iv (n_v vs 4)).toNat then v_iv (n_v vs 1) else w_el w5 b j) ∧ ∀ b k, w_fd w4 b k = w_fd w5 b k := s5.2
  replace f20 := shm_811 f20
  replace f21 := shm_401 f21
  have ar_0_7_1 : w_ar w1 (n_v vs 0) 7 = w_ar ws (n_v vs 0) 7 := by show v_ad (w_fd w1 _ _) = v_ad (w_fd ws _ _); rw [s1.2, if_neg (fun e => absurd e.2 (by decide))]
  have ar_0_7_2 : w_ar w2 (n_v vs 0) 7 = w_ar ws (n_v vs 0) 7 := by rw [← ar_0_7_1]; show v_ad (w_fd w2 _ _) = v_ad (w_fd w1 _ _); rw [s2.2]
  have ar_0_7_3 : w_ar w3 (n_v vs 0) 7 = w_ar ws (n_v vs 0) 7 := by rw [← ar_0_7_2]; show v_ad (w_fd w3 _ _) = v_ad (w_fd w2 _ _); rw [s3.2]
  have ar_0_7_4 : w_ar w4 (n_v vs 0) 7 = w_ar ws (n_v vs 0) 7 := by rw [← ar_0_7_3]; show v_ad (w_fd w4 _ _) = v_ad (w_fd w3 _ _); rw [s4.2]
  have ar_0_7_5 : w_ar w5 (n_v vs 0) 7 = w_ar ws (n_v vs 0) 7 := by rw [← ar_0_7_4]; show v_ad (w_fd w5 _ _) = v_ad (w_fd w4 _ _); rw [s5.2]
  have cr_0_7 := fdq_74 hD hth r0
  have ar_0_8_1 : w_ar w1 (n_v vs 0) 8 = w_ar ws (n_v vs 0) 8 := by show v_ad (w_fd w1 _ _) = v_ad (w_fd ws _ _); rw [s1.2, if_neg (fun e => absurd e.2 (by decide))]
  have ar_0_8_2 : w_ar w2 (n_v vs 0) 8 = w_ar ws (n_v vs 0) 8 := by rw [← ar_0_8_1]; show v_ad (w_fd w2 _ _) = v_ad (w_fd w1 _ _); rw [s2.2]
  have ar_0_8_3 : w_ar w3 (n_v vs 0) 8 = w_ar ws (n_v vs 0) 8 := by rw [← ar_0_8_2]; show v_ad (w_fd w3 _ _) = v_ad (w_fd w2 _ _); rw [s3.2]
  have ar_0_8_4 : w_ar w4 (n_v vs 0) 8 = w_ar ws (n_v vs 0) 8 := by rw [← ar_0_8_3]; show v_ad (w_fd w4 _ _) = v_ad (w_fd w3 _ _); rw [s4.2]
  have ar_0_8_5 : w_ar w5 (n_v vs 0) 8 = w_ar ws (n_v vs 0) 8 := by rw [← ar_0_8_4]; show v_ad (w_fd w5 _ _) = v_ad (w_fd w4 _ _); rw [s5.2]
  have cr_0_8 := fdq_75 hD hth r0
  have cr_0_9 := fdq_202 hD hth r0
  have cr_0_10 := fdq_203 hD hth r0
  have ar_0_14_1 : w_ar w1 (n_v vs 0) 14 = w_ar ws (n_v vs 0) 14 := by show v_ad (w_fd w1 _ _) = v_ad (w_fd ws _ _); rw [s1.2, if_neg (fun e => absurd e.2 (by decide))]
  have ar_0_14_2 : w_ar w2 (n_v vs 0) 14 = w_ar ws (n_v vs 0) 14 := by rw [← ar_0_14_1]; show v_ad (w_fd w2 _ _) = v_ad (w_fd w1 _ _); rw [s2.2]
  have ar_0_14_3 : w_ar w3 (n_v vs 0) 14 = w_ar ws (n_v vs 0) 14 := by rw [← ar_0_14_2]; show v_ad (w_fd w3 _ _) = v_ad (w_fd w2 _ _); rw [s3.2]
  have ar_0_14_4 : w_ar w4 (n_v vs 0) 14 = w_ar ws (n_v vs 0) 14 := by rw [← ar_0_14_3]; show v_ad (w_fd w4 _ _) = v_ad (w_fd w3 _ _); rw [s4.2]
  have ar_0_14_5 : w_ar w5 (n_v vs 0) 14 = w_ar ws (n_v vs 0) 14 := by rw [← ar_0_14_4]; show v_ad (w_fd w5 _ _) = v_ad (w_fd w4 _ _); rw [s5.2]
  have cr_0_14 := fdq_76 hD hth r0
  have ad_9 : v_ad (n_v vs 9) = w_ar ws (n_v vs 0) 10 := congrArg v_ad f1
  have ad_7 : v_ad (n_v vs 7) = w_ar ws (n_v vs 0) 9 := congrArg v_ad f2
  have ad_6 : v_ad (n_v vs 6) = w_ar ws (n_v vs 0) 8 := congrArg v_ad f3
  have ad_5 : v_ad (n_v vs 5) = w_ar ws (n_v vs 0) 7 := congrArg v_ad f4
  have g0 : v_iv (n_v vs 11) = w_fi ws (n_v vs 0) 1 := congrArg v_iv f0
  have g11 : v_iv (n_v vs 4) = w_fi w1 (n_v vs 0) 1 := congrArg v_iv f11
  simp only [ar_0_7_5, ar_0_8_5, ar_0_14_5] at f20 f21
  have fe_0_0_1 : w_fi ws (n_v vs 0) 0 = w_fi w1 (n_v vs 0) 0 := by show v_iv (w_fd _ _ _) = v_iv (w_fd _ _ _); rw [s1.2, if_neg (fun e => absurd e.2 (by decide))]
  have fe_0_1_1 : w_fi ws (n_v vs 0) 1 = v_iv (n_v vs 11) := by show v_iv (w_fd _ _ _) = _; rw [s1.2, if_pos ⟨rfl, rfl⟩]
  have fe_0_0_2 : w_fi w1 (n_v vs 0) 0 = w_fi w2 (n_v vs 0) 0 := congrArg v_iv (s2.2 _ _)
  have fe_0_1_2 : w_fi w1 (n_v vs 0) 1 = w_fi w2 (n_v vs 0) 1 := congrArg v_iv (s2.2 _ _)
  have fe_0_0_3 : w_fi w2 (n_v vs 0) 0 = w_fi w3 (n_v vs 0) 0 := congrArg v_iv (s3.2 _ _)
  have fe_0_1_3 : w_fi w2 (n_v vs 0) 1 = w_fi w3 (n_v vs 0) 1 := congrArg v_iv (s3.2 _ _)
  have fe_0_0_4 : w_fi w3 (n_v vs 0) 0 = w_fi w4 (n_v vs 0) 0 := congrArg v_iv (s4.2 _ _)
  have fe_0_1_4 : w_fi w3 (n_v vs 0) 1 = w_fi w4 (n_v vs 0) 1 := congrArg v_iv (s4.2 _ _)
  have fe_0_0_5 : w_fi w4 (n_v vs 0) 0 = w_fi w5 (n_v vs 0) 0 := congrArg v_iv (s5.2 _ _)
  have fe_0_1_5 : w_fi w4 (n_v vs 0) 1 = w_fi w5 (n_v vs 0) 1 := congrArg v_iv (s5.2 _ _)
  have hE_0_7_1 : ∀ j : Int, w_ei ws (w_ar ws (n_v vs 0) 7) j = w_ei w1 (w_ar ws (n_v vs 0) 7) j := fun j => s1.1 _ _
  have hE_0_7_2 : ∀ j : Int, w_ei w1 (w_ar ws (n_v vs 0) 7) j = w_ei w2 (w_ar ws (n_v vs 0) 7) j := el_kp s2.1 r9 cr_0_7 (by decide)
  have hE_0_7_3 : ∀ j : Int, w_ei w2 (w_ar ws (n_v vs 0) 7) j = w_ei w3 (w_ar ws (n_v vs 0) 7) j := el_kp s3.1 r7 cr_0_7 (by decide)
  have hE_0_7_4 : ∀ j : Int, w_ei w3 (w_ar ws (n_v vs 0) 7) j = w_ei w4 (w_ar ws (n_v vs 0) 7) j := el_kp s4.1 r6 cr_0_7 (by decide)
  have hE_0_7_5 : ∀ j : Int, 0 ≤ j → (j = v_iv (n_v vs 4) → w_ei w4 (w_ar ws (n_v vs 0) 7) j = v_iv (n_v vs 1)) ∧ (j ≠ v_iv (n_v vs 4) → w_ei w4 (w_ar ws (n_v vs 0) 7) j = w_ei w5 (w_ar ws (n_v vs 0) 7) j) := fun j hj => ⟨fun h => by unfold w_ei; rw [s5.1, if_pos ⟨ad_5.symm, by rw [h]⟩], fun h => by unfold w_ei; rw [s5.1, if_neg (fun e => h (by have := e.2; omega))]⟩
  have hK_0_7 := elq_32 hD hth cr_0_7
  have hE_0_8_1 : ∀ j : Int, w_ei ws (w_ar ws (n_v vs 0) 8) j = w_ei w1 (w_ar ws (n_v vs 0) 8) j := fun j => s1.1 _ _
  have hE_0_8_2 : ∀ j : Int, w_ei w1 (w_ar ws (n_v vs 0) 8) j = w_ei w2 (w_ar ws (n_v vs 0) 8) j := el_kp s2.1 r9 cr_0_8 (by decide)
  have hE_0_8_3 : ∀ j : Int, w_ei w2 (w_ar ws (n_v vs 0) 8) j = w_ei w3 (w_ar ws (n_v vs 0) 8) j := el_kp s3.1 r7 cr_0_8 (by decide)
  have hE_0_8_4 : ∀ j : Int, 0 ≤ j → (j = v_iv (n_v vs 4) → w_ei w3 (w_ar ws (n_v vs 0) 8) j = v_iv (n_v vs 2)) ∧ (j ≠ v_iv (n_v vs 4) → w_ei w3 (w_ar ws (n_v vs 0) 8) j = w_ei w4 (w_ar ws (n_v vs 0) 8) j) := fun j hj => ⟨fun h => by unfold w_ei; rw [s4.1, if_pos ⟨ad_6.symm, by rw [h]⟩], fun h => by unfold w_ei; rw [s4.1, if_neg (fun e => h (by have := e.2; omega))]⟩
  have hE_0_8_5 : ∀ j : Int, w_ei w4 (w_ar ws (n_v vs 0) 8) j = w_ei w5 (w_ar ws (n_v vs 0) 8) j := el_kp s5.1 r5 cr_0_8 (by decide)
  have hK_0_8 := elq_33 hD hth cr_0_8
  have hE_0_9_1 : ∀ j : Int, w_ei ws (w_ar ws (n_v vs 0) 9) j = w_ei w1 (w_ar ws (n_v vs 0) 9) j := fun j => s1.1 _ _
  have hE_0_9_2 : ∀ j : Int, w_ei w1 (w_ar ws (n_v vs 0) 9) j = w_ei w2 (w_ar ws (n_v vs 0) 9) j := el_kp s2.1 r9 cr_0_9 (by decide)
  have hE_0_9_3 : ∀ j : Int, 0 ≤ j → (j = v_iv (n_v vs 4) → w_ei w2 (w_ar ws (n_v vs 0) 9) j = v_iv (n_v vs 8)) ∧ (j ≠ v_iv (n_v vs 4) → w_ei w2 (w_ar ws (n_v vs 0) 9) j = w_ei w3 (w_ar ws (n_v vs 0) 9) j) := fun j hj => ⟨fun h => by unfold w_ei; rw [s3.1, if_pos ⟨ad_7.symm, by rw [h]⟩], fun h => by unfold w_ei; rw [s3.1, if_neg (fun e => h (by have := e.2; omega))]⟩
  have hE_0_9_4 : ∀ j : Int, w_ei w3 (w_ar ws (n_v vs 0) 9) j = w_ei w4 (w_ar ws (n_v vs 0) 9) j := el_kp s4.1 r6 cr_0_9 (by decide)
  have hE_0_9_5 : ∀ j : Int, w_ei w4 (w_ar ws (n_v vs 0) 9) j = w_ei w5 (w_ar ws (n_v vs 0) 9) j := el_kp s5.1 r5 cr_0_9 (by decide)
  have hK_0_9 := elq_118 hD hth cr_0_9
  have hE_0_10_1 : ∀ j : Int, w_ei ws (w_ar ws (n_v vs 0) 10) j = w_ei w1 (w_ar ws (n_v vs 0) 10) j := fun j => s1.1 _ _
  have hE_0_10_2 : ∀ j : Int, 0 ≤ j → (j = v_iv (n_v vs 4) → w_ei w1 (w_ar ws (n_v vs 0) 10) j = v_iv (n_v vs 3)) ∧ (j ≠ v_iv (n_v vs 4) → w_ei w1 (w_ar ws (n_v vs 0) 10) j = w_ei w2 (w_ar ws (n_v vs 0) 10) j) := fun j hj => ⟨fun h => by unfold w_ei; rw [s2.1, if_pos ⟨ad_9.symm, by rw [h]⟩], fun h => by unfold w_ei; rw [s2.1, if_neg (fun e => h (by have := e.2; omega))]⟩
  have hE_0_10_3 : ∀ j : Int, w_ei w2 (w_ar ws (n_v vs 0) 10) j = w_ei w3 (w_ar ws (n_v vs 0) 10) j := el_kp s3.1 r7 cr_0_10 (by decide)
  have hE_0_10_4 : ∀ j : Int, w_ei w3 (w_ar ws (n_v vs 0) 10) j = w_ei w4 (w_ar ws (n_v vs 0) 10) j := el_kp s4.1 r6 cr_0_10 (by decide)
  have hE_0_10_5 : ∀ j : Int, w_ei w4 (w_ar ws (n_v vs 0) 10) j = w_ei w5 (w_ar ws (n_v vs 0) 10) j := el_kp s5.1 r5 cr_0_10 (by decide)
  have hK_0_10 := elq_119 hD hth cr_0_10
  have hE_0_14_1 : ∀ j : Int, w_ei ws (w_ar ws (n_v vs 0) 14) j = w_ei w1 (w_ar ws (n_v vs 0) 14) j := fun j => s1.1 _ _
  have hE_0_14_2 : ∀ j : Int, w_ei w1 (w_ar ws (n_v vs 0) 14) j = w_ei w2 (w_ar ws (n_v vs 0) 14) j := el_kp s2.1 r9 cr_0_14 (by decide)
  have hE_0_14_3 : ∀ j : Int, w_ei w2 (w_ar ws (n_v vs 0) 14) j = w_ei w3 (w_ar ws (n_v vs 0) 14) j := el_kp s3.1 r7 cr_0_14 (by decide)
  have hE_0_14_4 : ∀ j : Int, w_ei w3 (w_ar ws (n_v vs 0) 14) j = w_ei w4 (w_ar ws (n_v vs 0) 14) j := el_kp s4.1 r6 cr_0_14 (by decide)
  have hE_0_14_5 : ∀ j : Int, w_ei w4 (w_ar ws (n_v vs 0) 14) j = w_ei w5 (w_ar ws (n_v vs 0) 14) j := el_kp s5.1 r5 cr_0_14 (by decide)
  have hK_0_14 := elq_34 hD hth cr_0_14
  have kz_0_0 := fdq_77 hD hth r0
  have kz_0_1 := fdq_78 hD hth r0
  have nf0 : fc_1 PRD (20, [4, 0], [50, 1, 0, 1001, 2, 6, 0, 2, 0, 0, 1, 0, 0, 6, 4, 2, 1, 0, 0, 1, 2, 1, 1]) ws (vs) := ⟨nf_in hl rfl, sgq_402 (vc_Gr_addEdge_at_Gq_1_0 (v_iv (n_v vs 1)) (v_iv (n_v vs 2)) (v_iv (n_v vs 4)) (v_iv (n_v vs 10)) (v_iv (n_v vs 11)) (w_fi ws (n_v vs 0) 1) (w_ei ws (w_ar ws (n_v vs 0) 14)) (w_ei ws (w_ar ws (n_v vs 0) 7)) (w_ei ws (w_ar ws (n_v vs 0) 8)) (w_fi ws (n_v vs 0) 0) (w_fi w1 (n_v vs 0) 1) (w_fi w1 (n_v vs 0) 0) (w_fi w2 (n_v vs 0) 0) (w_fi w3 (n_v vs 0) 0) (w_fi w4 (n_v vs 0) 0) (w_ei w5 (w_ar ws (n_v vs 0) 14)) (w_ei w5 (w_ar ws (n_v vs 0) 7)) (w_ei w5 (w_ar ws (n_v vs 0) 8)) (w_fi w5 (n_v vs 0) 0) (w_fi w5 (n_v vs 0) 1) (w_fi w2 (n_v vs 0) 1) (w_fi w3 (n_v vs 0) 1) (w_fi w4 (n_v vs 0) 1) (w_ei w1 (w_ar ws (n_v vs 0) 7)) (w_ei w2 (w_ar ws (n_v vs 0) 7)) (w_ei w3 (w_ar ws (n_v vs 0) 7)) (w_ei w4 (w_ar ws (n_v vs 0) 7)) (w_ei w1 (w_ar ws (n_v vs 0) 8)) (w_ei w2 (w_ar ws (n_v vs 0) 8)) (w_ei w3 (w_ar ws (n_v vs 0) 8)) (w_ei w4 (w_ar ws (n_v vs 0) 8)) (w_ei ws (w_ar ws (n_v vs 0) 9)) (w_ei w1 (w_ar ws (n_v vs 0) 9)) (w_ei w2 (w_ar ws (n_v vs 0) 9)) (w_ei w3 (w_ar ws (n_v vs 0) 9)) (v_iv (n_v vs 8)) (w_ei w4 (w_ar ws (n_v vs 0) 9)) (w_ei w5 (w_ar ws (n_v vs 0) 9)) (w_ei ws (w_ar ws (n_v vs 0) 10)) (w_ei w1 (w_ar ws (n_v vs 0) 10)) (w_ei w2 (w_ar ws (n_v vs 0) 10)) (v_iv (n_v vs 3)) (w_ei w3 (w_ar ws (n_v vs 0) 10)) (w_ei w4 (w_ar ws (n_v vs 0) 10)) (w_ei w5 (w_ar ws (n_v vs 0) 10)) (w_ei w1 (w_ar ws (n_v vs 0) 14)) (w_ei w2 (w_ar ws (n_v vs 0) 14)) (w_ei w3 (w_ar ws (n_v vs 0) 14)) (w_ei w4 (w_ar ws (n_v vs 0) 14)) k1 k2 k4 k10 k11 d0 g0 (shm_812 f5) (shm_403 f6) (shm_401 f7) (shm_810 f8) (shm_12 f10) g11 (shm_810 f12) (shm_810 f14) (shm_810 f16) (shm_810 f18) f20 f21 (shm_810 f22) fe_0_0_1 fe_0_1_1 fe_0_0_2 fe_0_1_2 fe_0_0_3 fe_0_1_3 fe_0_0_4 fe_0_1_4 fe_0_0_5 fe_0_1_5 hE_0_7_1 hE_0_7_2 hE_0_7_3 hE_0_7_4 hE_0_7_5 hK_0_7 hE_0_8_1 hE_0_8_2 hE_0_8_3 hE_0_8_4 hE_0_8_5 hK_0_8 hE_0_9_1 hE_0_9_2 hE_0_9_3 hE_0_9_4 hE_0_9_5 hK_0_9 hE_0_10_1 hE_0_10_2 hE_0_10_3 hE_0_10_4 hE_0_10_5 hK_0_10 hE_0_14_1 hE_0_14_2 hE_0_14_3 hE_0_14_4 hE_0_14_5 hK_0_14 kz_0_0 kz_0_1)⟩
  refine ⟨(fun _ h => (by cases h)), [], trivial, ?_, (fun _ h => (by cases h))⟩
  rw [List.append_nil]
  exact List.forall_mem_cons.mpr ⟨⟨show (20 : Nat) < 100 from by decide, nf0⟩, (fun _ h => (by cases h))⟩
set_option maxHeartbeats 4000000 in
theorem vc_Gr_addEdge_at_Gq_2_0 (x1 : Int) (x2 : Int) (x4 : Int) (x10 : Int) (x11 : Int) (edges_0 : Int) (nodes_0 : Int) (near_0 : Int → Int) (tail_0 : Int → Int) (head_0 : Int → Int) (weight_0 : Int → Int) (oneWay_0 : Int → Int) (k1 : 0 ≤ x1 ∧ x1 ≤ 23) (k2 : 0 ≤ x2 ∧ x2 ≤ 23) (k4 : 0 ≤ x4 ∧ x4 ≤ 47) (k10 : 1 ≤ x10 ∧ x10 ≤ 1) (k11 : 1 ≤ x11 ∧ x11 ≤ 48) (d0 : x4 + 1 ≤ x11 ∧ x11 ≤ x4 + 1) (g0 : x11 = edges_0) (f5 : (0 ≤ x4) ∧ ((x4 + 1) ≤ edges_0)) (f6 : (0 ≤ x4) ∧ ((x4 + 1) = edges_0)) (f7 : (0 ≤ x1) ∧ (((x1 + 1) ≤ nodes_0) ∧ ((0 ≤ x2) ∧ (((x2 + 1) ≤ nodes_0) ∧ (((x1 + 1) ≤ x2) ∨ ((x2 + 1) ≤ x1)))))) (f8 : GNL (nodes_0) (near_0) (tail_0) (head_0) (x4)) (f9 : GKE (nodes_0) (edges_0) (tail_0) (head_0)) (f12 : x11 = x4 + x10) (hK_0_7 : ∀ j : Int, 0 ≤ j → j < 48 → 0 ≤ tail_0 j ∧ tail_0 j ≤ 23) (hK_0_8 : ∀ j : Int, 0 ≤ j → j < 48 → 0 ≤ head_0 j ∧ head_0 j ≤ 23) (hK_0_9 : ∀ j : Int, 0 ≤ j → j < 48 → 0 ≤ weight_0 j ∧ weight_0 j ≤ 9) (hK_0_10 : ∀ j : Int, 0 ≤ j → j < 48 → 0 ≤ oneWay_0 j ∧ oneWay_0 j ≤ 1) (hK_0_14 : ∀ j : Int, 0 ≤ j → j < 24 → 0 ≤ near_0 j ∧ near_0 j ≤ 16777215) (kz_0_0 : 0 ≤ nodes_0 ∧ nodes_0 ≤ 24) (kz_0_1 : 0 ≤ edges_0 ∧ edges_0 ≤ 48) : GNB (nodes_0) (edges_0) (near_0) (tail_0) (head_0) := by
  first
    | exact gnb_ofl ‹GNL _ _ _ _ _› (by omega)
  
def o_Gr_addEdge_at_Gq_2 : or_T := (56, 12, [(0, (2, 0, 0, [164])), (1, (0, 0, 23, [])), (2, (0, 0, 23, [])), (4, (0, 0, 47, [])), (10, (0, 1, 1, [])), (11, (0, 1, 48, []))], [(9, [11, 0], [1]), (20, [4, 0], [50, 1, 0, 1001, 2, 6, 0, 2, 0, 0, 1, 0, 0, 6, 4, 2, 1, 0, 0, 1, 2, 1, 1]), (20, [4, 0], [50, 1, 0, 1001, 2, 6, 0, 2, 0, 0, 1, 0, 1, 6, 4, 2, 1, 0, 0, 1, 2, 1, 1]), (20, [1, 0, 2], [50, 1, 0, 1000, 2, 6, 0, 2, 0, 0, 1, 0, 2, 11, 0, 6, 4, 2, 1, 0, 0, 1, 2, 1, 0, 2, 6, 0, 2, 0, 0, 1, 2, 2, 11, 0, 6, 4, 2, 1, 2, 0, 1, 2, 1, 0, 3, 10, 0, 6, 4, 2, 1, 0, 0, 1, 1, 2, 0, 6, 4, 2, 1, 2, 0, 1, 1, 0]), (20, [0, 4], [60, 1, 3, 748, 0, 14, 7, 8]), (20, [0], [60, 2, 2, 596, 0, 1, 7, 8]), (102, [11], [8769009823985417509222108996297698117935595257856]), (101, [0, 11], [1]), (1, [11, 4, 10], [])], [], [], [(20, [0], [60, 2, 3, 670, 0, 1, 14, 7, 8])], [], [(11, 4, 1, 1)])
theorem oo_Gr_addEdge_at_Gq_2 {kA : Nat → ClassId} : or_ok PRD kA GG o_Gr_addEdge_at_Gq_2 := by
  refine or_mk fun A ta ws vs hD hth hl => ?_
  intro t0 r0 t1 k1 t2 k2 t4 k4 t10 k10 t11 k11 d0 f0 f5 f6 f7 f8 f9 ta1 w1 le1 s1 ta2 w2 le2 s2 f12
  replace f0 := shm_127 f0
  have cr_0_7 := fdq_74 hD hth r0
  have cr_0_8 := fdq_75 hD hth r0
  have cr_0_9 := fdq_202 hD hth r0
  have cr_0_10 := fdq_203 hD hth r0
  have cr_0_14 := fdq_76 hD hth r0
  have g0 : v_iv (n_v vs 11) = w_fi ws (n_v vs 0) 1 := congrArg v_iv f0
  have hK_0_7 := elq_32 hD hth cr_0_7
  have hK_0_8 := elq_33 hD hth cr_0_8
  have hK_0_9 := elq_118 hD hth cr_0_9
  have hK_0_10 := elq_119 hD hth cr_0_10
  have hK_0_14 := elq_34 hD hth cr_0_14
  have kz_0_0 := fdq_77 hD hth r0
  have kz_0_1 := fdq_78 hD hth r0
  have nf0 : fc_1 PRD (20, [0], [60, 2, 3, 670, 0, 1, 14, 7, 8]) ws (vs) := ⟨nf_in hl rfl, sgq_811 (vc_Gr_addEdge_at_Gq_2_0 (v_iv (n_v vs 1)) (v_iv (n_v vs 2)) (v_iv (n_v vs 4)) (v_iv (n_v vs 10)) (v_iv (n_v vs 11)) (w_fi ws (n_v vs 0) 1) (w_fi ws (n_v vs 0) 0) (w_ei ws (w_ar ws (n_v vs 0) 14)) (w_ei ws (w_ar ws (n_v vs 0) 7)) (w_ei ws (w_ar ws (n_v vs 0) 8)) (w_ei ws (w_ar ws (n_v vs 0) 9)) (w_ei ws (w_ar ws (n_v vs 0) 10)) k1 k2 k4 k10 k11 d0 g0 (shm_402 f5) (shm_812 f6) (shm_810 f7) (shm_404 f8) (shm_401 f9) (shm_12 f12) hK_0_7 hK_0_8 hK_0_9 hK_0_10 hK_0_14 kz_0_0 kz_0_1)⟩
  refine ⟨(fun _ h => (by cases h)), [], trivial, ?_, (fun _ h => (by cases h))⟩
  rw [List.append_nil]
  exact List.forall_mem_cons.mpr ⟨⟨show (20 : Nat) < 100 from by decide, nf0⟩, (fun _ h => (by cases h))⟩
def n_Gr_addEdge_at_Gq_an : List an_T := []
def t_Gr_addEdge_at_Gq_ct : ct_L := [(157, 100, e_Gr_tie_at_Gq)]
set_option maxRecDepth 100000 in
theorem c_Gr_addEdge_at_Gq {l : Launch} {D : va_G} {kA : Nat → ClassId} (h_Gr_tie_at_Gq : ct_ok PRD l D kA GG y_Gr_tie_at_Gq z_Gr_tie_at_Gq e_Gr_tie_at_Gq) : ct_ok PRD l D kA GG y_Gr_addEdge_at_Gq z_Gr_addEdge_at_Gq e_Gr_addEdge_at_Gq := chk_all_ok (FT := [(15, 3, 1), (35, 3, 7), (38, 3, 8), (41, 3, 9), (44, 3, 10)]) (PT := [(15, 3, 1, .int)]) (CT := t_Gr_addEdge_at_Gq_ct) (KT := []) (NT := []) (AN := n_Gr_addEdge_at_Gq_an) (OT := [o_Gr_addEdge_at_Gq_0, o_Gr_addEdge_at_Gq_1, o_Gr_addEdge_at_Gq_2]) 0 200 (List.forall_mem_cons.mpr ⟨oo_Gr_addEdge_at_Gq_0, List.forall_mem_cons.mpr ⟨oo_Gr_addEdge_at_Gq_1, List.forall_mem_cons.mpr ⟨oo_Gr_addEdge_at_Gq_2, List.forall_mem_nil _⟩⟩⟩) (by decide +kernel) ⟨List.forall_mem_cons.mpr ⟨gf_Gr_15, List.forall_mem_cons.mpr ⟨gf_Gr_35, List.forall_mem_cons.mpr ⟨gf_Gr_38, List.forall_mem_cons.mpr ⟨gf_Gr_41, List.forall_mem_cons.mpr ⟨gf_Gr_44, List.forall_mem_nil _⟩⟩⟩⟩⟩, List.forall_mem_cons.mpr ⟨pf_Gr_15, List.forall_mem_nil _⟩, List.forall_mem_cons.mpr ⟨cl_virtual (y := y_Gr_tie_at_Gq) (ci := 3) rfl rfl ⟨_, _, rfl⟩ (by decide +kernel) h_Gr_tie_at_Gq wm_776 wm_3 wm_773 wm_775 wv_1_11 ⟨by decide, by decide, by decide +kernel⟩ (by decide), List.forall_mem_nil _⟩, List.forall_mem_nil _, List.forall_mem_nil _, GG_pl⟩ (by decide +kernel)
set_option maxHeartbeats 4000000 in
theorem vc_Gr_addEdge_at_Gr_0_0 (x1 : Int) (x2 : Int) (x4 : Int) (x10 : Int) (x11 : Int) (edges_0 : Int) (nodes_0 : Int) (edges_1 : Int) (nodes_1 : Int) (nodes_2 : Int) (nodes_3 : Int) (nodes_4 : Int) (near_5 : Int → Int) (tail_5 : Int → Int) (head_5 : Int → Int) (nodes_5 : Int) (edges_5 : Int) (edges_2 : Int) (edges_3 : Int) (edges_4 : Int) (tail_0 : Int → Int) (tail_1 : Int → Int) (tail_2 : Int → Int) (tail_3 : Int → Int) (tail_4 : Int → Int) (head_0 : Int → Int) (head_1 : Int → Int) (head_2 : Int → Int) (head_3 : Int → Int) (head_4 : Int → Int) (weight_0 : Int → Int) (weight_1 : Int → Int) (weight_2 : Int → Int) (weight_3 : Int → Int) (x8 : Int) (weight_4 : Int → Int) (weight_5 : Int → Int) (oneWay_0 : Int → Int) (oneWay_1 : Int → Int) (oneWay_2 : Int → Int) (x3 : Int) (oneWay_3 : Int → Int) (oneWay_4 : Int → Int) (oneWay_5 : Int → Int) (near_0 : Int → Int) (near_1 : Int → Int) (near_2 : Int → Int) (near_3 : Int → Int) (near_4 : Int → Int) (k1 : 0 ≤ x1 ∧ x1 ≤ 23) (k2 : 0 ≤ x2 ∧ x2 ≤ 23) (k4 : 0 ≤ x4 ∧ x4 ≤ 47) (k10 : 1 ≤ x10 ∧ x10 ≤ 1) (k11 : 1 ≤ x11 ∧ x11 ≤ 48) (d0 : x4 + 1 ≤ x11 ∧ x11 ≤ x4 + 1) (g0 : x11 = edges_0) (f5 : (0 ≤ x1) ∧ (((x1 + 1) ≤ nodes_0) ∧ ((0 ≤ x2) ∧ (((x2 + 1) ≤ nodes_0) ∧ (((x1 + 1) ≤ x2) ∨ ((x2 + 1) ≤ x1)))))) (f7 : x11 = x4 + x10) (g8 : x4 = edges_1) (f9 : (0 ≤ x1) ∧ (((x1 + 1) ≤ nodes_1) ∧ ((0 ≤ x2) ∧ (((x2 + 1) ≤ nodes_1) ∧ (((x1 + 1) ≤ x2) ∨ ((x2 + 1) ≤ x1)))))) (f11 : (0 ≤ x1) ∧ (((x1 + 1) ≤ nodes_2) ∧ ((0 ≤ x2) ∧ (((x2 + 1) ≤ nodes_2) ∧ (((x1 + 1) ≤ x2) ∨ ((x2 + 1) ≤ x1)))))) (f13 : (0 ≤ x1) ∧ (((x1 + 1) ≤ nodes_3) ∧ ((0 ≤ x2) ∧ (((x2 + 1) ≤ nodes_3) ∧ (((x1 + 1) ≤ x2) ∨ ((x2 + 1) ≤ x1)))))) (f15 : (0 ≤ x1) ∧ (((x1 + 1) ≤ nodes_4) ∧ ((0 ≤ x2) ∧ (((x2 + 1) ≤ nodes_4) ∧ (((x1 + 1) ≤ x2) ∨ ((x2 + 1) ≤ x1)))))) (f17 : GNB (nodes_5) (edges_5) (near_5) (tail_5) (head_5)) (f18 : GKE (nodes_5) (edges_5) (tail_5) (head_5)) (f19 : (0 ≤ x1) ∧ (((x1 + 1) ≤ nodes_5) ∧ ((0 ≤ x2) ∧ (((x2 + 1) ≤ nodes_5) ∧ (((x1 + 1) ≤ x2) ∨ ((x2 + 1) ≤ x1)))))) (fe_0_0_1 : nodes_0 = nodes_1) (fe_0_1_1 : edges_0 = x11) (fe_0_0_2 : nodes_1 = nodes_2) (fe_0_1_2 : edges_1 = edges_2) (fe_0_0_3 : nodes_2 = nodes_3) (fe_0_1_3 : edges_2 = edges_3) (fe_0_0_4 : nodes_3 = nodes_4) (fe_0_1_4 : edges_3 = edges_4) (fe_0_0_5 : nodes_4 = nodes_5) (fe_0_1_5 : edges_4 = edges_5) (hE_0_7_1 : ∀ j : Int, tail_0 j = tail_1 j) (hE_0_7_2 : ∀ j : Int, tail_1 j = tail_2 j) (hE_0_7_3 : ∀ j : Int, tail_2 j = tail_3 j) (hE_0_7_4 : ∀ j : Int, tail_3 j = tail_4 j) (hE_0_7_5 : ∀ j : Int, 0 ≤ j → (j = x4 → tail_4 j = x1) ∧ (j ≠ x4 → tail_4 j = tail_5 j)) (hK_0_7 : ∀ j : Int, 0 ≤ j → j < 48 → 0 ≤ tail_0 j ∧ tail_0 j ≤ 23) (hE_0_8_1 : ∀ j : Int, head_0 j = head_1 j) (hE_0_8_2 : ∀ j : Int, head_1 j = head_2 j) (hE_0_8_3 : ∀ j : Int, head_2 j = head_3 j) (hE_0_8_4 : ∀ j : Int, 0 ≤ j → (j = x4 → head_3 j = x2) ∧ (j ≠ x4 → head_3 j = head_4 j)) (hE_0_8_5 : ∀ j : Int, head_4 j = head_5 j) (hK_0_8 : ∀ j : Int, 0 ≤ j → j < 48 → 0 ≤ head_0 j ∧ head_0 j ≤ 23) (hE_0_9_1 : ∀ j : Int, weight_0 j = weight_1 j) (hE_0_9_2 : ∀ j : Int, weight_1 j = weight_2 j) (hE_0_9_3 : ∀ j : Int, 0 ≤ j → (j = x4 → weight_2 j = x8) ∧ (j ≠ x4 → weight_2 j = weight_3 j)) (hE_0_9_4 : ∀ j : Int, weight_3 j = weight_4 j) (hE_0_9_5 : ∀ j : Int, weight_4 j = weight_5 j) (hK_0_9 : ∀ j : Int, 0 ≤ j → j < 48 → 0 ≤ weight_0 j ∧ weight_0 j ≤ 9) (hE_0_10_1 : ∀ j : Int, oneWay_0 j = oneWay_1 j) (hE_0_10_2 : ∀ j : Int, 0 ≤ j → (j = x4 → oneWay_1 j = x3) ∧ (j ≠ x4 → oneWay_1 j = oneWay_2 j)) (hE_0_10_3 : ∀ j : Int, oneWay_2 j = oneWay_3 j) (hE_0_10_4 : ∀ j : Int, oneWay_3 j = oneWay_4 j) (hE_0_10_5 : ∀ j : Int, oneWay_4 j = oneWay_5 j) (hK_0_10 : ∀ j : Int, 0 ≤ j → j < 48 → 0 ≤ oneWay_0 j ∧ oneWay_0 j ≤ 1) (hE_0_14_1 : ∀ j : Int, near_0 j = near_1 j) (hE_0_14_2 : ∀ j : Int, near_1 j = near_2 j) (hE_0_14_3 : ∀ j : Int, near_2 j = near_3 j) (hE_0_14_4 : ∀ j : Int, near_3 j = near_4 j) (hE_0_14_5 : ∀ j : Int, near_4 j = near_5 j) (hK_0_14 : ∀ j : Int, 0 ≤ j → j < 24 → 0 ≤ near_0 j ∧ near_0 j ≤ 16777215) (kz_0_0 : 0 ≤ nodes_0 ∧ nodes_0 ≤ 24) (kz_0_1 : 0 ≤ edges_0 ∧ edges_0 ≤ 48) : (0 ≤ x4) ∧ ((x4 + 1) = edges_0) := by
  subst fe_0_0_1
  subst fe_0_0_2
  subst fe_0_1_2
  subst fe_0_0_3
  subst fe_0_1_3
  subst fe_0_0_4
  subst fe_0_1_4
  subst fe_0_0_5
  subst fe_0_1_5
  have e_hE_0_7_1 := funext hE_0_7_1; subst e_hE_0_7_1
  have e_hE_0_7_2 := funext hE_0_7_2; subst e_hE_0_7_2
  have e_hE_0_7_3 := funext hE_0_7_3; subst e_hE_0_7_3
  have e_hE_0_7_4 := funext hE_0_7_4; subst e_hE_0_7_4
  have e_hE_0_8_1 := funext hE_0_8_1; subst e_hE_0_8_1
  have e_hE_0_8_2 := funext hE_0_8_2; subst e_hE_0_8_2
  have e_hE_0_8_3 := funext hE_0_8_3; subst e_hE_0_8_3
  have e_hE_0_8_5 := funext hE_0_8_5; subst e_hE_0_8_5
  have e_hE_0_9_1 := funext hE_0_9_1; subst e_hE_0_9_1
  have e_hE_0_9_2 := funext hE_0_9_2; subst e_hE_0_9_2
  have e_hE_0_9_4 := funext hE_0_9_4; subst e_hE_0_9_4
  have e_hE_0_9_5 := funext hE_0_9_5; subst e_hE_0_9_5
  have e_hE_0_10_1 := funext hE_0_10_1; subst e_hE_0_10_1
  have e_hE_0_10_3 := funext hE_0_10_3; subst e_hE_0_10_3
  have e_hE_0_10_4 := funext hE_0_10_4; subst e_hE_0_10_4
  have e_hE_0_10_5 := funext hE_0_10_5; subst e_hE_0_10_5
  have e_hE_0_14_1 := funext hE_0_14_1; subst e_hE_0_14_1
  have e_hE_0_14_2 := funext hE_0_14_2; subst e_hE_0_14_2
  have e_hE_0_14_3 := funext hE_0_14_3; subst e_hE_0_14_3
  have e_hE_0_14_4 := funext hE_0_14_4; subst e_hE_0_14_4
  have e_hE_0_14_5 := funext hE_0_14_5; subst e_hE_0_14_5
  first
    | omega
  
set_option maxHeartbeats 4000000 in
theorem vc_Gr_addEdge_at_Gr_0_1 (x1 : Int) (x2 : Int) (x4 : Int) (x10 : Int) (x11 : Int) (edges_0 : Int) (nodes_0 : Int) (edges_1 : Int) (nodes_1 : Int) (nodes_2 : Int) (nodes_3 : Int) (nodes_4 : Int) (near_5 : Int → Int) (tail_5 : Int → Int) (head_5 : Int → Int) (nodes_5 : Int) (edges_5 : Int) (edges_2 : Int) (edges_3 : Int) (edges_4 : Int) (tail_0 : Int → Int) (tail_1 : Int → Int) (tail_2 : Int → Int) (tail_3 : Int → Int) (tail_4 : Int → Int) (head_0 : Int → Int) (head_1 : Int → Int) (head_2 : Int → Int) (head_3 : Int → Int) (head_4 : Int → Int) (weight_0 : Int → Int) (weight_1 : Int → Int) (weight_2 : Int → Int) (weight_3 : Int → Int) (x8 : Int) (weight_4 : Int → Int) (weight_5 : Int → Int) (oneWay_0 : Int → Int) (oneWay_1 : Int → Int) (oneWay_2 : Int → Int) (x3 : Int) (oneWay_3 : Int → Int) (oneWay_4 : Int → Int) (oneWay_5 : Int → Int) (near_0 : Int → Int) (near_1 : Int → Int) (near_2 : Int → Int) (near_3 : Int → Int) (near_4 : Int → Int) (k1 : 0 ≤ x1 ∧ x1 ≤ 23) (k2 : 0 ≤ x2 ∧ x2 ≤ 23) (k4 : 0 ≤ x4 ∧ x4 ≤ 47) (k10 : 1 ≤ x10 ∧ x10 ≤ 1) (k11 : 1 ≤ x11 ∧ x11 ≤ 48) (d0 : x4 + 1 ≤ x11 ∧ x11 ≤ x4 + 1) (g0 : x11 = edges_0) (f5 : (0 ≤ x1) ∧ (((x1 + 1) ≤ nodes_0) ∧ ((0 ≤ x2) ∧ (((x2 + 1) ≤ nodes_0) ∧ (((x1 + 1) ≤ x2) ∨ ((x2 + 1) ≤ x1)))))) (f7 : x11 = x4 + x10) (g8 : x4 = edges_1) (f9 : (0 ≤ x1) ∧ (((x1 + 1) ≤ nodes_1) ∧ ((0 ≤ x2) ∧ (((x2 + 1) ≤ nodes_1) ∧ (((x1 + 1) ≤ x2) ∨ ((x2 + 1) ≤ x1)))))) (f11 : (0 ≤ x1) ∧ (((x1 + 1) ≤ nodes_2) ∧ ((0 ≤ x2) ∧ (((x2 + 1) ≤ nodes_2) ∧ (((x1 + 1) ≤ x2) ∨ ((x2 + 1) ≤ x1)))))) (f13 : (0 ≤ x1) ∧ (((x1 + 1) ≤ nodes_3) ∧ ((0 ≤ x2) ∧ (((x2 + 1) ≤ nodes_3) ∧ (((x1 + 1) ≤ x2) ∨ ((x2 + 1) ≤ x1)))))) (f15 : (0 ≤ x1) ∧ (((x1 + 1) ≤ nodes_4) ∧ ((0 ≤ x2) ∧ (((x2 + 1) ≤ nodes_4) ∧ (((x1 + 1) ≤ x2) ∨ ((x2 + 1) ≤ x1)))))) (f17 : GNB (nodes_5) (edges_5) (near_5) (tail_5) (head_5)) (f18 : GKE (nodes_5) (edges_5) (tail_5) (head_5)) (f19 : (0 ≤ x1) ∧ (((x1 + 1) ≤ nodes_5) ∧ ((0 ≤ x2) ∧ (((x2 + 1) ≤ nodes_5) ∧ (((x1 + 1) ≤ x2) ∨ ((x2 + 1) ≤ x1)))))) (fe_0_0_1 : nodes_0 = nodes_1) (fe_0_1_1 : edges_0 = x11) (fe_0_0_2 : nodes_1 = nodes_2) (fe_0_1_2 : edges_1 = edges_2) (fe_0_0_3 : nodes_2 = nodes_3) (fe_0_1_3 : edges_2 = edges_3) (fe_0_0_4 : nodes_3 = nodes_4) (fe_0_1_4 : edges_3 = edges_4) (fe_0_0_5 : nodes_4 = nodes_5) (fe_0_1_5 : edges_4 = edges_5) (hE_0_7_1 : ∀ j : Int, tail_0 j = tail_1 j) (hE_0_7_2 : ∀ j : Int, tail_1 j = tail_2 j) (hE_0_7_3 : ∀ j : Int, tail_2 j = tail_3 j) (hE_0_7_4 : ∀ j : Int, tail_3 j = tail_4 j) (hE_0_7_5 : ∀ j : Int, 0 ≤ j → (j = x4 → tail_4 j = x1) ∧ (j ≠ x4 → tail_4 j = tail_5 j)) (hK_0_7 : ∀ j : Int, 0 ≤ j → j < 48 → 0 ≤ tail_0 j ∧ tail_0 j ≤ 23) (hE_0_8_1 : ∀ j : Int, head_0 j = head_1 j) (hE_0_8_2 : ∀ j : Int, head_1 j = head_2 j) (hE_0_8_3 : ∀ j : Int, head_2 j = head_3 j) (hE_0_8_4 : ∀ j : Int, 0 ≤ j → (j = x4 → head_3 j = x2) ∧ (j ≠ x4 → head_3 j = head_4 j)) (hE_0_8_5 : ∀ j : Int, head_4 j = head_5 j) (hK_0_8 : ∀ j : Int, 0 ≤ j → j < 48 → 0 ≤ head_0 j ∧ head_0 j ≤ 23) (hE_0_9_1 : ∀ j : Int, weight_0 j = weight_1 j) (hE_0_9_2 : ∀ j : Int, weight_1 j = weight_2 j) (hE_0_9_3 : ∀ j : Int, 0 ≤ j → (j = x4 → weight_2 j = x8) ∧ (j ≠ x4 → weight_2 j = weight_3 j)) (hE_0_9_4 : ∀ j : Int, weight_3 j = weight_4 j) (hE_0_9_5 : ∀ j : Int, weight_4 j = weight_5 j) (hK_0_9 : ∀ j : Int, 0 ≤ j → j < 48 → 0 ≤ weight_0 j ∧ weight_0 j ≤ 9) (hE_0_10_1 : ∀ j : Int, oneWay_0 j = oneWay_1 j) (hE_0_10_2 : ∀ j : Int, 0 ≤ j → (j = x4 → oneWay_1 j = x3) ∧ (j ≠ x4 → oneWay_1 j = oneWay_2 j)) (hE_0_10_3 : ∀ j : Int, oneWay_2 j = oneWay_3 j) (hE_0_10_4 : ∀ j : Int, oneWay_3 j = oneWay_4 j) (hE_0_10_5 : ∀ j : Int, oneWay_4 j = oneWay_5 j) (hK_0_10 : ∀ j : Int, 0 ≤ j → j < 48 → 0 ≤ oneWay_0 j ∧ oneWay_0 j ≤ 1) (hE_0_14_1 : ∀ j : Int, near_0 j = near_1 j) (hE_0_14_2 : ∀ j : Int, near_1 j = near_2 j) (hE_0_14_3 : ∀ j : Int, near_2 j = near_3 j) (hE_0_14_4 : ∀ j : Int, near_3 j = near_4 j) (hE_0_14_5 : ∀ j : Int, near_4 j = near_5 j) (hK_0_14 : ∀ j : Int, 0 ≤ j → j < 24 → 0 ≤ near_0 j ∧ near_0 j ≤ 16777215) (kz_0_0 : 0 ≤ nodes_0 ∧ nodes_0 ≤ 24) (kz_0_1 : 0 ≤ edges_0 ∧ edges_0 ≤ 48) : GNK (nodes_0) (near_0) (tail_0) (head_0) (x4) := by
  subst fe_0_0_1
  subst fe_0_0_2
  subst fe_0_1_2
  subst fe_0_0_3
  subst fe_0_1_3
  subst fe_0_0_4
  subst fe_0_1_4
  subst fe_0_0_5
  subst fe_0_1_5
  have e_hE_0_7_1 := funext hE_0_7_1; subst e_hE_0_7_1
  have e_hE_0_7_2 := funext hE_0_7_2; subst e_hE_0_7_2
  have e_hE_0_7_3 := funext hE_0_7_3; subst e_hE_0_7_3
  have e_hE_0_7_4 := funext hE_0_7_4; subst e_hE_0_7_4
  have e_hE_0_8_1 := funext hE_0_8_1; subst e_hE_0_8_1
  have e_hE_0_8_2 := funext hE_0_8_2; subst e_hE_0_8_2
  have e_hE_0_8_3 := funext hE_0_8_3; subst e_hE_0_8_3
  have e_hE_0_8_5 := funext hE_0_8_5; subst e_hE_0_8_5
  have e_hE_0_9_1 := funext hE_0_9_1; subst e_hE_0_9_1
  have e_hE_0_9_2 := funext hE_0_9_2; subst e_hE_0_9_2
  have e_hE_0_9_4 := funext hE_0_9_4; subst e_hE_0_9_4
  have e_hE_0_9_5 := funext hE_0_9_5; subst e_hE_0_9_5
  have e_hE_0_10_1 := funext hE_0_10_1; subst e_hE_0_10_1
  have e_hE_0_10_3 := funext hE_0_10_3; subst e_hE_0_10_3
  have e_hE_0_10_4 := funext hE_0_10_4; subst e_hE_0_10_4
  have e_hE_0_10_5 := funext hE_0_10_5; subst e_hE_0_10_5
  have e_hE_0_14_1 := funext hE_0_14_1; subst e_hE_0_14_1
  have e_hE_0_14_2 := funext hE_0_14_2; subst e_hE_0_14_2
  have e_hE_0_14_3 := funext hE_0_14_3; subst e_hE_0_14_3
  have e_hE_0_14_4 := funext hE_0_14_4; subst e_hE_0_14_4
  have e_hE_0_14_5 := funext hE_0_14_5; subst e_hE_0_14_5
  first
    | assumption
    | exact gnk_edge ‹GNB _ _ _ _ _› (by omega) hE_0_7_5 (by omega) hE_0_8_4 (by omega) (by omega)
  
set_option maxHeartbeats 4000000 in
theorem vc_Gr_addEdge_at_Gr_0_2 (x1 : Int) (x2 : Int) (x4 : Int) (x10 : Int) (x11 : Int) (edges_0 : Int) (nodes_0 : Int) (edges_1 : Int) (nodes_1 : Int) (nodes_2 : Int) (nodes_3 : Int) (nodes_4 : Int) (near_5 : Int → Int) (tail_5 : Int → Int) (head_5 : Int → Int) (nodes_5 : Int) (edges_5 : Int) (edges_2 : Int) (edges_3 : Int) (edges_4 : Int) (tail_0 : Int → Int) (tail_1 : Int → Int) (tail_2 : Int → Int) (tail_3 : Int → Int) (tail_4 : Int → Int) (head_0 : Int → Int) (head_1 : Int → Int) (head_2 : Int → Int) (head_3 : Int → Int) (head_4 : Int → Int) (weight_0 : Int → Int) (weight_1 : Int → Int) (weight_2 : Int → Int) (weight_3 : Int → Int) (x8 : Int) (weight_4 : Int → Int) (weight_5 : Int → Int) (oneWay_0 : Int → Int) (oneWay_1 : Int → Int) (oneWay_2 : Int → Int) (x3 : Int) (oneWay_3 : Int → Int) (oneWay_4 : Int → Int) (oneWay_5 : Int → Int) (near_0 : Int → Int) (near_1 : Int → Int) (near_2 : Int → Int) (near_3 : Int → Int) (near_4 : Int → Int) (k1 : 0 ≤ x1 ∧ x1 ≤ 23) (k2 : 0 ≤ x2 ∧ x2 ≤ 23) (k4 : 0 ≤ x4 ∧ x4 ≤ 47) (k10 : 1 ≤ x10 ∧ x10 ≤ 1) (k11 : 1 ≤ x11 ∧ x11 ≤ 48) (d0 : x4 + 1 ≤ x11 ∧ x11 ≤ x4 + 1) (g0 : x11 = edges_0) (f5 : (0 ≤ x1) ∧ (((x1 + 1) ≤ nodes_0) ∧ ((0 ≤ x2) ∧ (((x2 + 1) ≤ nodes_0) ∧ (((x1 + 1) ≤ x2) ∨ ((x2 + 1) ≤ x1)))))) (f7 : x11 = x4 + x10) (g8 : x4 = edges_1) (f9 : (0 ≤ x1) ∧ (((x1 + 1) ≤ nodes_1) ∧ ((0 ≤ x2) ∧ (((x2 + 1) ≤ nodes_1) ∧ (((x1 + 1) ≤ x2) ∨ ((x2 + 1) ≤ x1)))))) (f11 : (0 ≤ x1) ∧ (((x1 + 1) ≤ nodes_2) ∧ ((0 ≤ x2) ∧ (((x2 + 1) ≤ nodes_2) ∧ (((x1 + 1) ≤ x2) ∨ ((x2 + 1) ≤ x1)))))) (f13 : (0 ≤ x1) ∧ (((x1 + 1) ≤ nodes_3) ∧ ((0 ≤ x2) ∧ (((x2 + 1) ≤ nodes_3) ∧ (((x1 + 1) ≤ x2) ∨ ((x2 + 1) ≤ x1)))))) (f15 : (0 ≤ x1) ∧ (((x1 + 1) ≤ nodes_4) ∧ ((0 ≤ x2) ∧ (((x2 + 1) ≤ nodes_4) ∧ (((x1 + 1) ≤ x2) ∨ ((x2 + 1) ≤ x1)))))) (f17 : GNB (nodes_5) (edges_5) (near_5) (tail_5) (head_5)) (f18 : GKE (nodes_5) (edges_5) (tail_5) (head_5)) (f19 : (0 ≤ x1) ∧ (((x1 + 1) ≤ nodes_5) ∧ ((0 ≤ x2) ∧ (((x2 + 1) ≤ nodes_5) ∧ (((x1 + 1) ≤ x2) ∨ ((x2 + 1) ≤ x1)))))) (fe_0_0_1 : nodes_0 = nodes_1) (fe_0_1_1 : edges_0 = x11) (fe_0_0_2 : nodes_1 = nodes_2) (fe_0_1_2 : edges_1 = edges_2) (fe_0_0_3 : nodes_2 = nodes_3) (fe_0_1_3 : edges_2 = edges_3) (fe_0_0_4 : nodes_3 = nodes_4) (fe_0_1_4 : edges_3 = edges_4) (fe_0_0_5 : nodes_4 = nodes_5) (fe_0_1_5 : edges_4 = edges_5) (hE_0_7_1 : ∀ j : Int, tail_0 j = tail_1 j) (hE_0_7_2 : ∀ j : Int, tail_1 j = tail_2 j) (hE_0_7_3 : ∀ j : Int, tail_2 j = tail_3 j) (hE_0_7_4 : ∀ j : Int, tail_3 j = tail_4 j) (hE_0_7_5 : ∀ j : Int, 0 ≤ j → (j = x4 → tail_4 j = x1) ∧ (j ≠ x4 → tail_4 j = tail_5 j)) (hK_0_7 : ∀ j : Int, 0 ≤ j → j < 48 → 0 ≤ tail_0 j ∧ tail_0 j ≤ 23) (hE_0_8_1 : ∀ j : Int, head_0 j = head_1 j) (hE_0_8_2 : ∀ j : Int, head_1 j = head_2 j) (hE_0_8_3 : ∀ j : Int, head_2 j = head_3 j) (hE_0_8_4 : ∀ j : Int, 0 ≤ j → (j = x4 → head_3 j = x2) ∧ (j ≠ x4 → head_3 j = head_4 j)) (hE_0_8_5 : ∀ j : Int, head_4 j = head_5 j) (hK_0_8 : ∀ j : Int, 0 ≤ j → j < 48 → 0 ≤ head_0 j ∧ head_0 j ≤ 23) (hE_0_9_1 : ∀ j : Int, weight_0 j = weight_1 j) (hE_0_9_2 : ∀ j : Int, weight_1 j = weight_2 j) (hE_0_9_3 : ∀ j : Int, 0 ≤ j → (j = x4 → weight_2 j = x8) ∧ (j ≠ x4 → weight_2 j = weight_3 j)) (hE_0_9_4 : ∀ j : Int, weight_3 j = weight_4 j) (hE_0_9_5 : ∀ j : Int, weight_4 j = weight_5 j) (hK_0_9 : ∀ j : Int, 0 ≤ j → j < 48 → 0 ≤ weight_0 j ∧ weight_0 j ≤ 9) (hE_0_10_1 : ∀ j : Int, oneWay_0 j = oneWay_1 j) (hE_0_10_2 : ∀ j : Int, 0 ≤ j → (j = x4 → oneWay_1 j = x3) ∧ (j ≠ x4 → oneWay_1 j = oneWay_2 j)) (hE_0_10_3 : ∀ j : Int, oneWay_2 j = oneWay_3 j) (hE_0_10_4 : ∀ j : Int, oneWay_3 j = oneWay_4 j) (hE_0_10_5 : ∀ j : Int, oneWay_4 j = oneWay_5 j) (hK_0_10 : ∀ j : Int, 0 ≤ j → j < 48 → 0 ≤ oneWay_0 j ∧ oneWay_0 j ≤ 1) (hE_0_14_1 : ∀ j : Int, near_0 j = near_1 j) (hE_0_14_2 : ∀ j : Int, near_1 j = near_2 j) (hE_0_14_3 : ∀ j : Int, near_2 j = near_3 j) (hE_0_14_4 : ∀ j : Int, near_3 j = near_4 j) (hE_0_14_5 : ∀ j : Int, near_4 j = near_5 j) (hK_0_14 : ∀ j : Int, 0 ≤ j → j < 24 → 0 ≤ near_0 j ∧ near_0 j ≤ 16777215) (kz_0_0 : 0 ≤ nodes_0 ∧ nodes_0 ≤ 24) (kz_0_1 : 0 ≤ edges_0 ∧ edges_0 ≤ 48) : GKE (nodes_0) (edges_0) (tail_0) (head_0) := by
  subst fe_0_0_1
  subst fe_0_0_2
  subst fe_0_1_2
  subst fe_0_0_3
  subst fe_0_1_3
  subst fe_0_0_4
  subst fe_0_1_4
  subst fe_0_0_5
  subst fe_0_1_5
  have e_hE_0_7_1 := funext hE_0_7_1; subst e_hE_0_7_1
  have e_hE_0_7_2 := funext hE_0_7_2; subst e_hE_0_7_2
  have e_hE_0_7_3 := funext hE_0_7_3; subst e_hE_0_7_3
  have e_hE_0_7_4 := funext hE_0_7_4; subst e_hE_0_7_4
  have e_hE_0_8_1 := funext hE_0_8_1; subst e_hE_0_8_1
  have e_hE_0_8_2 := funext hE_0_8_2; subst e_hE_0_8_2
  have e_hE_0_8_3 := funext hE_0_8_3; subst e_hE_0_8_3
  have e_hE_0_8_5 := funext hE_0_8_5; subst e_hE_0_8_5
  have e_hE_0_9_1 := funext hE_0_9_1; subst e_hE_0_9_1
  have e_hE_0_9_2 := funext hE_0_9_2; subst e_hE_0_9_2
  have e_hE_0_9_4 := funext hE_0_9_4; subst e_hE_0_9_4
  have e_hE_0_9_5 := funext hE_0_9_5; subst e_hE_0_9_5
  have e_hE_0_10_1 := funext hE_0_10_1; subst e_hE_0_10_1
  have e_hE_0_10_3 := funext hE_0_10_3; subst e_hE_0_10_3
  have e_hE_0_10_4 := funext hE_0_10_4; subst e_hE_0_10_4
  have e_hE_0_10_5 := funext hE_0_10_5; subst e_hE_0_10_5
  have e_hE_0_14_1 := funext hE_0_14_1; subst e_hE_0_14_1
  have e_hE_0_14_2 := funext hE_0_14_2; subst e_hE_0_14_2
  have e_hE_0_14_3 := funext hE_0_14_3; subst e_hE_0_14_3
  have e_hE_0_14_4 := funext hE_0_14_4; subst e_hE_0_14_4
  have e_hE_0_14_5 := funext hE_0_14_5; subst e_hE_0_14_5
  first
    | assumption
    | exact gke_edge ‹GKE _ _ _ _› (by omega) (by omega) (by omega) (by omega) (by omega) hE_0_7_5 (by omega) hE_0_8_4 (by omega) (by omega)
  
def o_Gr_addEdge_at_Gr_0 : or_T := (48, 12, [(0, (2, 0, 0, [3])), (1, (0, 0, 23, [])), (2, (0, 0, 23, [])), (4, (0, 0, 47, [])), (5, (2, 0, 0, [52])), (6, (2, 0, 0, [53])), (7, (2, 0, 0, [54])), (9, (2, 0, 0, [55])), (10, (0, 1, 1, [])), (11, (0, 1, 48, []))], [(9, [11, 0], [1]), (9, [9, 0], [10]), (9, [7, 0], [9]), (9, [6, 0], [8]), (9, [5, 0], [7]), (20, [1, 0, 2], [50, 1, 0, 1000, 2, 6, 0, 2, 0, 0, 1, 0, 2, 11, 0, 6, 4, 2, 1, 0, 0, 1, 2, 1, 0, 2, 6, 0, 2, 0, 0, 1, 2, 2, 11, 0, 6, 4, 2, 1, 2, 0, 1, 2, 1, 0, 3, 10, 0, 6, 4, 2, 1, 0, 0, 1, 1, 2, 0, 6, 4, 2, 1, 2, 0, 1, 1, 0]), (101, [0, 11], [1]), (1, [11, 4, 10], []), (9, [4, 0], [1]), (20, [1, 0, 2], [50, 1, 0, 1000, 2, 6, 0, 2, 0, 0, 1, 0, 2, 11, 0, 6, 4, 2, 1, 0, 0, 1, 2, 1, 0, 2, 6, 0, 2, 0, 0, 1, 2, 2, 11, 0, 6, 4, 2, 1, 2, 0, 1, 2, 1, 0, 3, 10, 0, 6, 4, 2, 1, 0, 0, 1, 1, 2, 0, 6, 4, 2, 1, 2, 0, 1, 1, 0]), (100, [9, 4, 3], []), (20, [1, 0, 2], [50, 1, 0, 1000, 2, 6, 0, 2, 0, 0, 1, 0, 2, 11, 0, 6, 4, 2, 1, 0, 0, 1, 2, 1, 0, 2, 6, 0, 2, 0, 0, 1, 2, 2, 11, 0, 6, 4, 2, 1, 2, 0, 1, 2, 1, 0, 3, 10, 0, 6, 4, 2, 1, 0, 0, 1, 1, 2, 0, 6, 4, 2, 1, 2, 0, 1, 1, 0]), (100, [7, 4, 8], []), (20, [1, 0, 2], [50, 1, 0, 1000, 2, 6, 0, 2, 0, 0, 1, 0, 2, 11, 0, 6, 4, 2, 1, 0, 0, 1, 2, 1, 0, 2, 6, 0, 2, 0, 0, 1, 2, 2, 11, 0, 6, 4, 2, 1, 2, 0, 1, 2, 1, 0, 3, 10, 0, 6, 4, 2, 1, 0, 0, 1, 1, 2, 0, 6, 4, 2, 1, 2, 0, 1, 1, 0]), (100, [6, 4, 2], []), (20, [1, 0, 2], [50, 1, 0, 1000, 2, 6, 0, 2, 0, 0, 1, 0, 2, 11, 0, 6, 4, 2, 1, 0, 0, 1, 2, 1, 0, 2, 6, 0, 2, 0, 0, 1, 2, 2, 11, 0, 6, 4, 2, 1, 2, 0, 1, 2, 1, 0, 3, 10, 0, 6, 4, 2, 1, 0, 0, 1, 1, 2, 0, 6, 4, 2, 1, 2, 0, 1, 1, 0]), (100, [5, 4, 1], []), (20, [0], [60, 2, 3, 670, 0, 1, 14, 7, 8]), (20, [0], [60, 2, 2, 596, 0, 1, 7, 8]), (20, [1, 0, 2], [50, 1, 0, 1000, 2, 6, 0, 2, 0, 0, 1, 0, 2, 11, 0, 6, 4, 2, 1, 0, 0, 1, 2, 1, 0, 2, 6, 0, 2, 0, 0, 1, 2, 2, 11, 0, 6, 4, 2, 1, 2, 0, 1, 2, 1, 0, 3, 10, 0, 6, 4, 2, 1, 0, 0, 1, 1, 2, 0, 6, 4, 2, 1, 2, 0, 1, 1, 0])], [], [], [(20, [4, 0], [50, 1, 0, 1001, 2, 6, 0, 2, 0, 0, 1, 0, 1, 6, 4, 2, 1, 0, 0, 1, 2, 1, 1]), (20, [0, 4], [60, 1, 3, 747, 0, 14, 7, 8]), (20, [0], [60, 2, 2, 596, 0, 1, 7, 8])], [], [(11, 4, 1, 1)])
theorem oo_Gr_addEdge_at_Gr_0 {kA : Nat → ClassId} : or_ok PRD kA GG o_Gr_addEdge_at_Gr_0 := by
  refine or_mk fun A ta ws vs hD hth hl => ?_
  intro t0 r0 t1 k1 t2 k2 t4 k4 t5 r5 t6 r6 t7 r7 t9 r9 t10 k10 t11 k11 d0 f0 f1 f2 f3 f4 f5 ta1 w1 le1 s1 f7 f8 f9 ta2 w2 le2 s2 f11 ta3 w3 le3 s3 f13 ta4 w4 le4 s4 f15 ta5 w5 le5 s5 f17 f18 f19
  replace f0 := shm_127 f0
  replace f1 := shm_114 f1
  replace f2 := shm_120 f2
  replace f3 := shm_143 f3
  replace f4 := shm_216 f4
  have s1 : (∀ b j, w_el ws b j = w_el w1 b j) ∧ ∀ b j, w_fd ws b j = if b = v_ad (n_v vs 0) ∧ j = 1 then n_v vs 11 else w_fd w1 b j := s1.2
  replace f8 := shm_127 f8
  have s2 : (∀ b j, w_el w1 b j = if b = v_ad (n_v vs 9) ∧ j = (v_iv (n_v vs 4)).toNat then v_iv (n_v vs 3) else w_el w2 b j) ∧ ∀ b k, w_fd w1 b k = w_fd w2 b k := s2.2
  have s3 : (∀ b j, w_el w2 b j = if b = v_ad (n_v vs 7) ∧ j = (v_iv (n_v vs 4)).toNat then v_iv (n_v vs 8) else w_el w3 b j) ∧ ∀ b k, w_fd w2 b k = w_fd w3 b k := s3.2
  have s4 : (∀ b j, w_el w3 b j = if b = v_ad (n_v vs 6) ∧ j = (v_iv (n_v vs 4)).toNat then v_iv (n_v vs 2) else w_el w4 b j) ∧ ∀ b k, w_fd w3 b k = w_fd w4 b k := s4.2
  have s5 : (∀ b j, w_el w4 b j = if b = v_ad (n_v vs 5) ∧ j = (v_iv (n_v vs 4)).toNat then v_iv (n_v vs 1) else w_el w5 b j) ∧ ∀ b k, w_fd w4 b k = w_fd w5 b k := s5.2
  replace f17 := shm_811 f17
  replace f18 := shm_401 f18
  have ar_0_7_1 : w_ar w1 (n_v vs 0) 7 = w_ar ws (n_v vs 0) 7 := by show v_ad (w_fd w1 _ _) = v_ad (w_fd ws _ _); rw [s1.2, if_neg (fun e => absurd e.2 (by decide))]
  have ar_0_7_2 : w_ar w2 (n_v vs 0) 7 = w_ar ws (n_v vs 0) 7 := by rw [← ar_0_7_1]; show v_ad (w_fd w2 _ _) = v_ad (w_fd w1 _ _); rw [s2.2]
  have ar_0_7_3 : w_ar w3 (n_v vs 0) 7 = w_ar ws (n_v vs 0) 7 := by rw [← ar_0_7_2]; show v_ad (w_fd w3 _ _) = v_ad (w_fd w2 _ _); rw [s3.2]
  have ar_0_7_4 : w_ar w4 (n_v vs 0) 7 = w_ar ws (n_v vs 0) 7 := by rw [← ar_0_7_3]; show v_ad (w_fd w4 _ _) = v_ad (w_fd w3 _ _); rw [s4.2]
  have ar_0_7_5 : w_ar w5 (n_v vs 0) 7 = w_ar ws (n_v vs 0) 7 := by rw [← ar_0_7_4]; show v_ad (w_fd w5 _ _) = v_ad (w_fd w4 _ _); rw [s5.2]
  have cr_0_7 := fdq_52 hD hth r0
  have ar_0_8_1 : w_ar w1 (n_v vs 0) 8 = w_ar ws (n_v vs 0) 8 := by show v_ad (w_fd w1 _ _) = v_ad (w_fd ws _ _); rw [s1.2, if_neg (fun e => absurd e.2 (by decide))]
  have ar_0_8_2 : w_ar w2 (n_v vs 0) 8 = w_ar ws (n_v vs 0) 8 := by rw [← ar_0_8_1]; show v_ad (w_fd w2 _ _) = v_ad (w_fd w1 _ _); rw [s2.2]
  have ar_0_8_3 : w_ar w3 (n_v vs 0) 8 = w_ar ws (n_v vs 0) 8 := by rw [← ar_0_8_2]; show v_ad (w_fd w3 _ _) = v_ad (w_fd w2 _ _); rw [s3.2]
  have ar_0_8_4 : w_ar w4 (n_v vs 0) 8 = w_ar ws (n_v vs 0) 8 := by rw [← ar_0_8_3]; show v_ad (w_fd w4 _ _) = v_ad (w_fd w3 _ _); rw [s4.2]
  have ar_0_8_5 : w_ar w5 (n_v vs 0) 8 = w_ar ws (n_v vs 0) 8 := by rw [← ar_0_8_4]; show v_ad (w_fd w5 _ _) = v_ad (w_fd w4 _ _); rw [s5.2]
  have cr_0_8 := fdq_53 hD hth r0
  have cr_0_9 := fdq_111 hD hth r0
  have cr_0_10 := fdq_204 hD hth r0
  have ar_0_14_1 : w_ar w1 (n_v vs 0) 14 = w_ar ws (n_v vs 0) 14 := by show v_ad (w_fd w1 _ _) = v_ad (w_fd ws _ _); rw [s1.2, if_neg (fun e => absurd e.2 (by decide))]
  have ar_0_14_2 : w_ar w2 (n_v vs 0) 14 = w_ar ws (n_v vs 0) 14 := by rw [← ar_0_14_1]; show v_ad (w_fd w2 _ _) = v_ad (w_fd w1 _ _); rw [s2.2]
  have ar_0_14_3 : w_ar w3 (n_v vs 0) 14 = w_ar ws (n_v vs 0) 14 := by rw [← ar_0_14_2]; show v_ad (w_fd w3 _ _) = v_ad (w_fd w2 _ _); rw [s3.2]
  have ar_0_14_4 : w_ar w4 (n_v vs 0) 14 = w_ar ws (n_v vs 0) 14 := by rw [← ar_0_14_3]; show v_ad (w_fd w4 _ _) = v_ad (w_fd w3 _ _); rw [s4.2]
  have ar_0_14_5 : w_ar w5 (n_v vs 0) 14 = w_ar ws (n_v vs 0) 14 := by rw [← ar_0_14_4]; show v_ad (w_fd w5 _ _) = v_ad (w_fd w4 _ _); rw [s5.2]
  have cr_0_14 := fdq_79 hD hth r0
  have ad_9 : v_ad (n_v vs 9) = w_ar ws (n_v vs 0) 10 := congrArg v_ad f1
  have ad_7 : v_ad (n_v vs 7) = w_ar ws (n_v vs 0) 9 := congrArg v_ad f2
  have ad_6 : v_ad (n_v vs 6) = w_ar ws (n_v vs 0) 8 := congrArg v_ad f3
  have ad_5 : v_ad (n_v vs 5) = w_ar ws (n_v vs 0) 7 := congrArg v_ad f4
  have g0 : v_iv (n_v vs 11) = w_fi ws (n_v vs 0) 1 := congrArg v_iv f0
  have g8 : v_iv (n_v vs 4) = w_fi w1 (n_v vs 0) 1 := congrArg v_iv f8
  simp only [ar_0_7_5, ar_0_8_5, ar_0_14_5] at f17 f18
  have fe_0_0_1 : w_fi ws (n_v vs 0) 0 = w_fi w1 (n_v vs 0) 0 := by show v_iv (w_fd _ _ _) = v_iv (w_fd _ _ _); rw [s1.2, if_neg (fun e => absurd e.2 (by decide))]
  have fe_0_1_1 : w_fi ws (n_v vs 0) 1 = v_iv (n_v vs 11) := by show v_iv (w_fd _ _ _) = _; rw [s1.2, if_pos ⟨rfl, rfl⟩]
  have fe_0_0_2 : w_fi w1 (n_v vs 0) 0 = w_fi w2 (n_v vs 0) 0 := congrArg v_iv (s2.2 _ _)
  have fe_0_1_2 : w_fi w1 (n_v vs 0) 1 = w_fi w2 (n_v vs 0) 1 := congrArg v_iv (s2.2 _ _)
  have fe_0_0_3 : w_fi w2 (n_v vs 0) 0 = w_fi w3 (n_v vs 0) 0 := congrArg v_iv (s3.2 _ _)
  have fe_0_1_3 : w_fi w2 (n_v vs 0) 1 = w_fi w3 (n_v vs 0) 1 := congrArg v_iv (s3.2 _ _)
  have fe_0_0_4 : w_fi w3 (n_v vs 0) 0 = w_fi w4 (n_v vs 0) 0 := congrArg v_iv (s4.2 _ _)
  have fe_0_1_4 : w_fi w3 (n_v vs 0) 1 = w_fi w4 (n_v vs 0) 1 := congrArg v_iv (s4.2 _ _)
  have fe_0_0_5 : w_fi w4 (n_v vs 0) 0 = w_fi w5 (n_v vs 0) 0 := congrArg v_iv (s5.2 _ _)
  have fe_0_1_5 : w_fi w4 (n_v vs 0) 1 = w_fi w5 (n_v vs 0) 1 := congrArg v_iv (s5.2 _ _)
  have hE_0_7_1 : ∀ j : Int, w_ei ws (w_ar ws (n_v vs 0) 7) j = w_ei w1 (w_ar ws (n_v vs 0) 7) j := fun j => s1.1 _ _
  have hE_0_7_2 : ∀ j : Int, w_ei w1 (w_ar ws (n_v vs 0) 7) j = w_ei w2 (w_ar ws (n_v vs 0) 7) j := el_kp s2.1 r9 cr_0_7 (by decide)
  have hE_0_7_3 : ∀ j : Int, w_ei w2 (w_ar ws (n_v vs 0) 7) j = w_ei w3 (w_ar ws (n_v vs 0) 7) j := el_kp s3.1 r7 cr_0_7 (by decide)
  have hE_0_7_4 : ∀ j : Int, w_ei w3 (w_ar ws (n_v vs 0) 7) j = w_ei w4 (w_ar ws (n_v vs 0) 7) j := el_kp s4.1 r6 cr_0_7 (by decide)
  have hE_0_7_5 : ∀ j : Int, 0 ≤ j → (j = v_iv (n_v vs 4) → w_ei w4 (w_ar ws (n_v vs 0) 7) j = v_iv (n_v vs 1)) ∧ (j ≠ v_iv (n_v vs 4) → w_ei w4 (w_ar ws (n_v vs 0) 7) j = w_ei w5 (w_ar ws (n_v vs 0) 7) j) := fun j hj => ⟨fun h => by unfold w_ei; rw [s5.1, if_pos ⟨ad_5.symm, by rw [h]⟩], fun h => by unfold w_ei; rw [s5.1, if_neg (fun e => h (by have := e.2; omega))]⟩
  have hK_0_7 := elq_10 hD hth cr_0_7
  have hE_0_8_1 : ∀ j : Int, w_ei ws (w_ar ws (n_v vs 0) 8) j = w_ei w1 (w_ar ws (n_v vs 0) 8) j := fun j => s1.1 _ _
  have hE_0_8_2 : ∀ j : Int, w_ei w1 (w_ar ws (n_v vs 0) 8) j = w_ei w2 (w_ar ws (n_v vs 0) 8) j := el_kp s2.1 r9 cr_0_8 (by decide)
  have hE_0_8_3 : ∀ j : Int, w_ei w2 (w_ar ws (n_v vs 0) 8) j = w_ei w3 (w_ar ws (n_v vs 0) 8) j := el_kp s3.1 r7 cr_0_8 (by decide)
  have hE_0_8_4 : ∀ j : Int, 0 ≤ j → (j = v_iv (n_v vs 4) → w_ei w3 (w_ar ws (n_v vs 0) 8) j = v_iv (n_v vs 2)) ∧ (j ≠ v_iv (n_v vs 4) → w_ei w3 (w_ar ws (n_v vs 0) 8) j = w_ei w4 (w_ar ws (n_v vs 0) 8) j) := fun j hj => ⟨fun h => by unfold w_ei; rw [s4.1, if_pos ⟨ad_6.symm, by rw [h]⟩], fun h => by unfold w_ei; rw [s4.1, if_neg (fun e => h (by have := e.2; omega))]⟩
  have hE_0_8_5 : ∀ j : Int, w_ei w4 (w_ar ws (n_v vs 0) 8) j = w_ei w5 (w_ar ws (n_v vs 0) 8) j := el_kp s5.1 r5 cr_0_8 (by decide)
  have hK_0_8 := elq_11 hD hth cr_0_8
  have hE_0_9_1 : ∀ j : Int, w_ei ws (w_ar ws (n_v vs 0) 9) j = w_ei w1 (w_ar ws (n_v vs 0) 9) j := fun j => s1.1 _ _
  have hE_0_9_2 : ∀ j : Int, w_ei w1 (w_ar ws (n_v vs 0) 9) j = w_ei w2 (w_ar ws (n_v vs 0) 9) j := el_kp s2.1 r9 cr_0_9 (by decide)
  have hE_0_9_3 : ∀ j : Int, 0 ≤ j → (j = v_iv (n_v vs 4) → w_ei w2 (w_ar ws (n_v vs 0) 9) j = v_iv (n_v vs 8)) ∧ (j ≠ v_iv (n_v vs 4) → w_ei w2 (w_ar ws (n_v vs 0) 9) j = w_ei w3 (w_ar ws (n_v vs 0) 9) j) := fun j hj => ⟨fun h => by unfold w_ei; rw [s3.1, if_pos ⟨ad_7.symm, by rw [h]⟩], fun h => by unfold w_ei; rw [s3.1, if_neg (fun e => h (by have := e.2; omega))]⟩
  have hE_0_9_4 : ∀ j : Int, w_ei w3 (w_ar ws (n_v vs 0) 9) j = w_ei w4 (w_ar ws (n_v vs 0) 9) j := el_kp s4.1 r6 cr_0_9 (by decide)
  have hE_0_9_5 : ∀ j : Int, w_ei w4 (w_ar ws (n_v vs 0) 9) j = w_ei w5 (w_ar ws (n_v vs 0) 9) j := el_kp s5.1 r5 cr_0_9 (by decide)
  have hK_0_9 := elq_54 hD hth cr_0_9
  have hE_0_10_1 : ∀ j : Int, w_ei ws (w_ar ws (n_v vs 0) 10) j = w_ei w1 (w_ar ws (n_v vs 0) 10) j := fun j => s1.1 _ _
  have hE_0_10_2 : ∀ j : Int, 0 ≤ j → (j = v_iv (n_v vs 4) → w_ei w1 (w_ar ws (n_v vs 0) 10) j = v_iv (n_v vs 3)) ∧ (j ≠ v_iv (n_v vs 4) → w_ei w1 (w_ar ws (n_v vs 0) 10) j = w_ei w2 (w_ar ws (n_v vs 0) 10) j) := fun j hj => ⟨fun h => by unfold w_ei; rw [s2.1, if_pos ⟨ad_9.symm, by rw [h]⟩], fun h => by unfold w_ei; rw [s2.1, if_neg (fun e => h (by have := e.2; omega))]⟩
  have hE_0_10_3 : ∀ j : Int, w_ei w2 (w_ar ws (n_v vs 0) 10) j = w_ei w3 (w_ar ws (n_v vs 0) 10) j := el_kp s3.1 r7 cr_0_10 (by decide)
  have hE_0_10_4 : ∀ j : Int, w_ei w3 (w_ar ws (n_v vs 0) 10) j = w_ei w4 (w_ar ws (n_v vs 0) 10) j := el_kp s4.1 r6 cr_0_10 (by decide)
  have hE_0_10_5 : ∀ j : Int, w_ei w4 (w_ar ws (n_v vs 0) 10) j = w_ei w5 (w_ar ws (n_v vs 0) 10) j := el_kp s5.1 r5 cr_0_10 (by decide)
  have hK_0_10 := elq_120 hD hth cr_0_10
  have hE_0_14_1 : ∀ j : Int, w_ei ws (w_ar ws (n_v vs 0) 14) j = w_ei w1 (w_ar ws (n_v vs 0) 14) j := fun j => s1.1 _ _
  have hE_0_14_2 : ∀ j : Int, w_ei w1 (w_ar ws (n_v vs 0) 14) j = w_ei w2 (w_ar ws (n_v vs 0) 14) j := el_kp s2.1 r9 cr_0_14 (by decide)
  have hE_0_14_3 : ∀ j : Int, w_ei w2 (w_ar ws (n_v vs 0) 14) j = w_ei w3 (w_ar ws (n_v vs 0) 14) j := el_kp s3.1 r7 cr_0_14 (by decide)
  have hE_0_14_4 : ∀ j : Int, w_ei w3 (w_ar ws (n_v vs 0) 14) j = w_ei w4 (w_ar ws (n_v vs 0) 14) j := el_kp s4.1 r6 cr_0_14 (by decide)
  have hE_0_14_5 : ∀ j : Int, w_ei w4 (w_ar ws (n_v vs 0) 14) j = w_ei w5 (w_ar ws (n_v vs 0) 14) j := el_kp s5.1 r5 cr_0_14 (by decide)
  have hK_0_14 := elq_24 hD hth cr_0_14
  have kz_0_0 := fdq_23 hD hth r0
  have kz_0_1 := fdq_38 hD hth r0
  have nf0 : fc_1 PRD (20, [4, 0], [50, 1, 0, 1001, 2, 6, 0, 2, 0, 0, 1, 0, 1, 6, 4, 2, 1, 0, 0, 1, 2, 1, 1]) ws (vs) := ⟨nf_in hl rfl, sgq_812 (vc_Gr_addEdge_at_Gr_0_0 (v_iv (n_v vs 1)) (v_iv (n_v vs 2)) (v_iv (n_v vs 4)) (v_iv (n_v vs 10)) (v_iv (n_v vs 11)) (w_fi ws (n_v vs 0) 1) (w_fi ws (n_v vs 0) 0) (w_fi w1 (n_v vs 0) 1) (w_fi w1 (n_v vs 0) 0) (w_fi w2 (n_v vs 0) 0) (w_fi w3 (n_v vs 0) 0) (w_fi w4 (n_v vs 0) 0) (w_ei w5 (w_ar ws (n_v vs 0) 14)) (w_ei w5 (w_ar ws (n_v vs 0) 7)) (w_ei w5 (w_ar ws (n_v vs 0) 8)) (w_fi w5 (n_v vs 0) 0) (w_fi w5 (n_v vs 0) 1) (w_fi w2 (n_v vs 0) 1) (w_fi w3 (n_v vs 0) 1) (w_fi w4 (n_v vs 0) 1) (w_ei ws (w_ar ws (n_v vs 0) 7)) (w_ei w1 (w_ar ws (n_v vs 0) 7)) (w_ei w2 (w_ar ws (n_v vs 0) 7)) (w_ei w3 (w_ar ws (n_v vs 0) 7)) (w_ei w4 (w_ar ws (n_v vs 0) 7)) (w_ei ws (w_ar ws (n_v vs 0) 8)) (w_ei w1 (w_ar ws (n_v vs 0) 8)) (w_ei w2 (w_ar ws (n_v vs 0) 8)) (w_ei w3 (w_ar ws (n_v vs 0) 8)) (w_ei w4 (w_ar ws (n_v vs 0) 8)) (w_ei ws (w_ar ws (n_v vs 0) 9)) (w_ei w1 (w_ar ws (n_v vs 0) 9)) (w_ei w2 (w_ar ws (n_v vs 0) 9)) (w_ei w3 (w_ar ws (n_v vs 0) 9)) (v_iv (n_v vs 8)) (w_ei w4 (w_ar ws (n_v vs 0) 9)) (w_ei w5 (w_ar ws (n_v vs 0) 9)) (w_ei ws (w_ar ws (n_v vs 0) 10)) (w_ei w1 (w_ar ws (n_v vs 0) 10)) (w_ei w2 (w_ar ws (n_v vs 0) 10)) (v_iv (n_v vs 3)) (w_ei w3 (w_ar ws (n_v vs 0) 10)) (w_ei w4 (w_ar ws (n_v vs 0) 10)) (w_ei w5 (w_ar ws (n_v vs 0) 10)) (w_ei ws (w_ar ws (n_v vs 0) 14)) (w_ei w1 (w_ar ws (n_v vs 0) 14)) (w_ei w2 (w_ar ws (n_v vs 0) 14)) (w_ei w3 (w_ar ws (n_v vs 0) 14)) (w_ei w4 (w_ar ws (n_v vs 0) 14)) k1 k2 k4 k10 k11 d0 g0 (shm_810 f5) (shm_12 f7) g8 (shm_810 f9) (shm_810 f11) (shm_810 f13) (shm_810 f15) f17 f18 (shm_810 f19) fe_0_0_1 fe_0_1_1 fe_0_0_2 fe_0_1_2 fe_0_0_3 fe_0_1_3 fe_0_0_4 fe_0_1_4 fe_0_0_5 fe_0_1_5 hE_0_7_1 hE_0_7_2 hE_0_7_3 hE_0_7_4 hE_0_7_5 hK_0_7 hE_0_8_1 hE_0_8_2 hE_0_8_3 hE_0_8_4 hE_0_8_5 hK_0_8 hE_0_9_1 hE_0_9_2 hE_0_9_3 hE_0_9_4 hE_0_9_5 hK_0_9 hE_0_10_1 hE_0_10_2 hE_0_10_3 hE_0_10_4 hE_0_10_5 hK_0_10 hE_0_14_1 hE_0_14_2 hE_0_14_3 hE_0_14_4 hE_0_14_5 hK_0_14 kz_0_0 kz_0_1)⟩
  have nf1 : fc_1 PRD (20, [0, 4], [60, 1, 3, 747, 0, 14, 7, 8]) ws (vs) := ⟨nf_in hl rfl, sgq_403 (vc_Gr_addEdge_at_Gr_0_1 (v_iv (n_v vs 1)) (v_iv (n_v vs 2)) (v_iv (n_v vs 4)) (v_iv (n_v vs 10)) (v_iv (n_v vs 11)) (w_fi ws (n_v vs 0) 1) (w_fi ws (n_v vs 0) 0) (w_fi w1 (n_v vs 0) 1) (w_fi w1 (n_v vs 0) 0) (w_fi w2 (n_v vs 0) 0) (w_fi w3 (n_v vs 0) 0) (w_fi w4 (n_v vs 0) 0) (w_ei w5 (w_ar ws (n_v vs 0) 14)) (w_ei w5 (w_ar ws (n_v vs 0) 7)) (w_ei w5 (w_ar ws (n_v vs 0) 8)) (w_fi w5 (n_v vs 0) 0) (w_fi w5 (n_v vs 0) 1) (w_fi w2 (n_v vs 0) 1) (w_fi w3 (n_v vs 0) 1) (w_fi w4 (n_v vs 0) 1) (w_ei ws (w_ar ws (n_v vs 0) 7)) (w_ei w1 (w_ar ws (n_v vs 0) 7)) (w_ei w2 (w_ar ws (n_v vs 0) 7)) (w_ei w3 (w_ar ws (n_v vs 0) 7)) (w_ei w4 (w_ar ws (n_v vs 0) 7)) (w_ei ws (w_ar ws (n_v vs 0) 8)) (w_ei w1 (w_ar ws (n_v vs 0) 8)) (w_ei w2 (w_ar ws (n_v vs 0) 8)) (w_ei w3 (w_ar ws (n_v vs 0) 8)) (w_ei w4 (w_ar ws (n_v vs 0) 8)) (w_ei ws (w_ar ws (n_v vs 0) 9)) (w_ei w1 (w_ar ws (n_v vs 0) 9)) (w_ei w2 (w_ar ws (n_v vs 0) 9)) (w_ei w3 (w_ar ws (n_v vs 0) 9)) (v_iv (n_v vs 8)) (w_ei w4 (w_ar ws (n_v vs 0) 9)) (w_ei w5 (w_ar ws (n_v vs 0) 9)) (w_ei ws (w_ar ws (n_v vs 0) 10)) (w_ei w1 (w_ar ws (n_v vs 0) 10)) (w_ei w2 (w_ar ws (n_v vs 0) 10)) (v_iv (n_v vs 3)) (w_ei w3 (w_ar ws (n_v vs 0) 10)) (w_ei w4 (w_ar ws (n_v vs 0) 10)) (w_ei w5 (w_ar ws (n_v vs 0) 10)) (w_ei ws (w_ar ws (n_v vs 0) 14)) (w_ei w1 (w_ar ws (n_v vs 0) 14)) (w_ei w2 (w_ar ws (n_v vs 0) 14)) (w_ei w3 (w_ar ws (n_v vs 0) 14)) (w_ei w4 (w_ar ws (n_v vs 0) 14)) k1 k2 k4 k10 k11 d0 g0 (shm_810 f5) (shm_12 f7) g8 (shm_810 f9) (shm_810 f11) (shm_810 f13) (shm_810 f15) f17 f18 (shm_810 f19) fe_0_0_1 fe_0_1_1 fe_0_0_2 fe_0_1_2 fe_0_0_3 fe_0_1_3 fe_0_0_4 fe_0_1_4 fe_0_0_5 fe_0_1_5 hE_0_7_1 hE_0_7_2 hE_0_7_3 hE_0_7_4 hE_0_7_5 hK_0_7 hE_0_8_1 hE_0_8_2 hE_0_8_3 hE_0_8_4 hE_0_8_5 hK_0_8 hE_0_9_1 hE_0_9_2 hE_0_9_3 hE_0_9_4 hE_0_9_5 hK_0_9 hE_0_10_1 hE_0_10_2 hE_0_10_3 hE_0_10_4 hE_0_10_5 hK_0_10 hE_0_14_1 hE_0_14_2 hE_0_14_3 hE_0_14_4 hE_0_14_5 hK_0_14 kz_0_0 kz_0_1)⟩
  have nf2 : fc_1 PRD (20, [0], [60, 2, 2, 596, 0, 1, 7, 8]) ws (vs) := ⟨nf_in hl rfl, sgq_401 (vc_Gr_addEdge_at_Gr_0_2 (v_iv (n_v vs 1)) (v_iv (n_v vs 2)) (v_iv (n_v vs 4)) (v_iv (n_v vs 10)) (v_iv (n_v vs 11)) (w_fi ws (n_v vs 0) 1) (w_fi ws (n_v vs 0) 0) (w_fi w1 (n_v vs 0) 1) (w_fi w1 (n_v vs 0) 0) (w_fi w2 (n_v vs 0) 0) (w_fi w3 (n_v vs 0) 0) (w_fi w4 (n_v vs 0) 0) (w_ei w5 (w_ar ws (n_v vs 0) 14)) (w_ei w5 (w_ar ws (n_v vs 0) 7)) (w_ei w5 (w_ar ws (n_v vs 0) 8)) (w_fi w5 (n_v vs 0) 0) (w_fi w5 (n_v vs 0) 1) (w_fi w2 (n_v vs 0) 1) (w_fi w3 (n_v vs 0) 1) (w_fi w4 (n_v vs 0) 1) (w_ei ws (w_ar ws (n_v vs 0) 7)) (w_ei w1 (w_ar ws (n_v vs 0) 7)) (w_ei w2 (w_ar ws (n_v vs 0) 7)) (w_ei w3 (w_ar ws (n_v vs 0) 7)) (w_ei w4 (w_ar ws (n_v vs 0) 7)) (w_ei ws (w_ar ws (n_v vs 0) 8)) (w_ei w1 (w_ar ws (n_v vs 0) 8)) (w_ei w2 (w_ar ws (n_v vs 0) 8)) (w_ei w3 (w_ar ws (n_v vs 0) 8)) (w_ei w4 (w_ar ws (n_v vs 0) 8)) (w_ei ws (w_ar ws (n_v vs 0) 9)) (w_ei w1 (w_ar ws (n_v vs 0) 9)) (w_ei w2 (w_ar ws (n_v vs 0) 9)) (w_ei w3 (w_ar ws (n_v vs 0) 9)) (v_iv (n_v vs 8)) (w_ei w4 (w_ar ws (n_v vs 0) 9)) (w_ei w5 (w_ar ws (n_v vs 0) 9)) (w_ei ws (w_ar ws (n_v vs 0) 10)) (w_ei w1 (w_ar ws (n_v vs 0) 10)) (w_ei w2 (w_ar ws (n_v vs 0) 10)) (v_iv (n_v vs 3)) (w_ei w3 (w_ar ws (n_v vs 0) 10)) (w_ei w4 (w_ar ws (n_v vs 0) 10)) (w_ei w5 (w_ar ws (n_v vs 0) 10)) (w_ei ws (w_ar ws (n_v vs 0) 14)) (w_ei w1 (w_ar ws (n_v vs 0) 14)) (w_ei w2 (w_ar ws (n_v vs 0) 14)) (w_ei w3 (w_ar ws (n_v vs 0) 14)) (w_ei w4 (w_ar ws (n_v vs 0) 14)) k1 k2 k4 k10 k11 d0 g0 (shm_810 f5) (shm_12 f7) g8 (shm_810 f9) (shm_810 f11) (shm_810 f13) (shm_810 f15) f17 f18 (shm_810 f19) fe_0_0_1 fe_0_1_1 fe_0_0_2 fe_0_1_2 fe_0_0_3 fe_0_1_3 fe_0_0_4 fe_0_1_4 fe_0_0_5 fe_0_1_5 hE_0_7_1 hE_0_7_2 hE_0_7_3 hE_0_7_4 hE_0_7_5 hK_0_7 hE_0_8_1 hE_0_8_2 hE_0_8_3 hE_0_8_4 hE_0_8_5 hK_0_8 hE_0_9_1 hE_0_9_2 hE_0_9_3 hE_0_9_4 hE_0_9_5 hK_0_9 hE_0_10_1 hE_0_10_2 hE_0_10_3 hE_0_10_4 hE_0_10_5 hK_0_10 hE_0_14_1 hE_0_14_2 hE_0_14_3 hE_0_14_4 hE_0_14_5 hK_0_14 kz_0_0 kz_0_1)⟩
  refine ⟨(fun _ h => (by cases h)), [], trivial, ?_, (fun _ h => (by cases h))⟩
  rw [List.append_nil]
  exact List.forall_mem_cons.mpr ⟨⟨show (20 : Nat) < 100 from by decide, nf0⟩, List.forall_mem_cons.mpr ⟨⟨show (20 : Nat) < 100 from by decide, nf1⟩, List.forall_mem_cons.mpr ⟨⟨show (20 : Nat) < 100 from by decide, nf2⟩, (fun _ h => (by cases h))⟩⟩⟩
set_option maxHeartbeats 4000000 in
theorem vc_Gr_addEdge_at_Gr_1_0 (x1 : Int) (x2 : Int) (x4 : Int) (x10 : Int) (x11 : Int) (edges_0 : Int) (near_0 : Int → Int) (tail_0 : Int → Int) (head_0 : Int → Int) (nodes_0 : Int) (edges_1 : Int) (nodes_1 : Int) (nodes_2 : Int) (nodes_3 : Int) (nodes_4 : Int) (near_5 : Int → Int) (tail_5 : Int → Int) (head_5 : Int → Int) (nodes_5 : Int) (edges_5 : Int) (edges_2 : Int) (edges_3 : Int) (edges_4 : Int) (tail_1 : Int → Int) (tail_2 : Int → Int) (tail_3 : Int → Int) (tail_4 : Int → Int) (head_1 : Int → Int) (head_2 : Int → Int) (head_3 : Int → Int) (head_4 : Int → Int) (weight_0 : Int → Int) (weight_1 : Int → Int) (weight_2 : Int → Int) (weight_3 : Int → Int) (x8 : Int) (weight_4 : Int → Int) (weight_5 : Int → Int) (oneWay_0 : Int → Int) (oneWay_1 : Int → Int) (oneWay_2 : Int → Int) (x3 : Int) (oneWay_3 : Int → Int) (oneWay_4 : Int → Int) (oneWay_5 : Int → Int) (near_1 : Int → Int) (near_2 : Int → Int) (near_3 : Int → Int) (near_4 : Int → Int) (k1 : 0 ≤ x1 ∧ x1 ≤ 23) (k2 : 0 ≤ x2 ∧ x2 ≤ 23) (k4 : 0 ≤ x4 ∧ x4 ≤ 47) (k10 : 1 ≤ x10 ∧ x10 ≤ 1) (k11 : 1 ≤ x11 ∧ x11 ≤ 48) (d0 : x4 + 1 ≤ x11 ∧ x11 ≤ x4 + 1) (g0 : x11 = edges_0) (f5 : (0 ≤ x4) ∧ ((x4 + 1) = edges_0)) (f6 : GNK (nodes_0) (near_0) (tail_0) (head_0) (x4)) (f7 : GKE (nodes_0) (edges_0) (tail_0) (head_0)) (f8 : (0 ≤ x1) ∧ (((x1 + 1) ≤ nodes_0) ∧ ((0 ≤ x2) ∧ (((x2 + 1) ≤ nodes_0) ∧ (((x1 + 1) ≤ x2) ∨ ((x2 + 1) ≤ x1)))))) (f10 : x11 = x4 + x10) (g11 : x4 = edges_1) (f12 : (0 ≤ x1) ∧ (((x1 + 1) ≤ nodes_1) ∧ ((0 ≤ x2) ∧ (((x2 + 1) ≤ nodes_1) ∧ (((x1 + 1) ≤ x2) ∨ ((x2 + 1) ≤ x1)))))) (f14 : (0 ≤ x1) ∧ (((x1 + 1) ≤ nodes_2) ∧ ((0 ≤ x2) ∧ (((x2 + 1) ≤ nodes_2) ∧ (((x1 + 1) ≤ x2) ∨ ((x2 + 1) ≤ x1)))))) (f16 : (0 ≤ x1) ∧ (((x1 + 1) ≤ nodes_3) ∧ ((0 ≤ x2) ∧ (((x2 + 1) ≤ nodes_3) ∧ (((x1 + 1) ≤ x2) ∨ ((x2 + 1) ≤ x1)))))) (f18 : (0 ≤ x1) ∧ (((x1 + 1) ≤ nodes_4) ∧ ((0 ≤ x2) ∧ (((x2 + 1) ≤ nodes_4) ∧ (((x1 + 1) ≤ x2) ∨ ((x2 + 1) ≤ x1)))))) (f20 : GNB (nodes_5) (edges_5) (near_5) (tail_5) (head_5)) (f21 : GKE (nodes_5) (edges_5) (tail_5) (head_5)) (f22 : (0 ≤ x1) ∧ (((x1 + 1) ≤ nodes_5) ∧ ((0 ≤ x2) ∧ (((x2 + 1) ≤ nodes_5) ∧ (((x1 + 1) ≤ x2) ∨ ((x2 + 1) ≤ x1)))))) (fe_0_0_1 : nodes_0 = nodes_1) (fe_0_1_1 : edges_0 = x11) (fe_0_0_2 : nodes_1 = nodes_2) (fe_0_1_2 : edges_1 = edges_2) (fe_0_0_3 : nodes_2 = nodes_3) (fe_0_1_3 : edges_2 = edges_3) (fe_0_0_4 : nodes_3 = nodes_4) (fe_0_1_4 : edges_3 = edges_4) (fe_0_0_5 : nodes_4 = nodes_5) (fe_0_1_5 : edges_4 = edges_5) (hE_0_7_1 : ∀ j : Int, tail_0 j = tail_1 j) (hE_0_7_2 : ∀ j : Int, tail_1 j = tail_2 j) (hE_0_7_3 : ∀ j : Int, tail_2 j = tail_3 j) (hE_0_7_4 : ∀ j : Int, tail_3 j = tail_4 j) (hE_0_7_5 : ∀ j : Int, 0 ≤ j → (j = x4 → tail_4 j = x1) ∧ (j ≠ x4 → tail_4 j = tail_5 j)) (hK_0_7 : ∀ j : Int, 0 ≤ j → j < 48 → 0 ≤ tail_0 j ∧ tail_0 j ≤ 23) (hE_0_8_1 : ∀ j : Int, head_0 j = head_1 j) (hE_0_8_2 : ∀ j : Int, head_1 j = head_2 j) (hE_0_8_3 : ∀ j : Int, head_2 j = head_3 j) (hE_0_8_4 : ∀ j : Int, 0 ≤ j → (j = x4 → head_3 j = x2) ∧ (j ≠ x4 → head_3 j = head_4 j)) (hE_0_8_5 : ∀ j : Int, head_4 j = head_5 j) (hK_0_8 : ∀ j : Int, 0 ≤ j → j < 48 → 0 ≤ head_0 j ∧ head_0 j ≤ 23) (hE_0_9_1 : ∀ j : Int, weight_0 j = weight_1 j) (hE_0_9_2 : ∀ j : Int, weight_1 j = weight_2 j) (hE_0_9_3 : ∀ j : Int, 0 ≤ j → (j = x4 → weight_2 j = x8) ∧ (j ≠ x4 → weight_2 j = weight_3 j)) (hE_0_9_4 : ∀ j : Int, weight_3 j = weight_4 j) (hE_0_9_5 : ∀ j : Int, weight_4 j = weight_5 j) (hK_0_9 : ∀ j : Int, 0 ≤ j → j < 48 → 0 ≤ weight_0 j ∧ weight_0 j ≤ 9) (hE_0_10_1 : ∀ j : Int, oneWay_0 j = oneWay_1 j) (hE_0_10_2 : ∀ j : Int, 0 ≤ j → (j = x4 → oneWay_1 j = x3) ∧ (j ≠ x4 → oneWay_1 j = oneWay_2 j)) (hE_0_10_3 : ∀ j : Int, oneWay_2 j = oneWay_3 j) (hE_0_10_4 : ∀ j : Int, oneWay_3 j = oneWay_4 j) (hE_0_10_5 : ∀ j : Int, oneWay_4 j = oneWay_5 j) (hK_0_10 : ∀ j : Int, 0 ≤ j → j < 48 → 0 ≤ oneWay_0 j ∧ oneWay_0 j ≤ 1) (hE_0_14_1 : ∀ j : Int, near_0 j = near_1 j) (hE_0_14_2 : ∀ j : Int, near_1 j = near_2 j) (hE_0_14_3 : ∀ j : Int, near_2 j = near_3 j) (hE_0_14_4 : ∀ j : Int, near_3 j = near_4 j) (hE_0_14_5 : ∀ j : Int, near_4 j = near_5 j) (hK_0_14 : ∀ j : Int, 0 ≤ j → j < 24 → 0 ≤ near_0 j ∧ near_0 j ≤ 16777215) (kz_0_0 : 0 ≤ nodes_0 ∧ nodes_0 ≤ 24) (kz_0_1 : 0 ≤ edges_0 ∧ edges_0 ≤ 48) : (0 ≤ x4) ∧ ((x4 + 1) ≤ edges_0) := by
  subst fe_0_0_1
  subst fe_0_0_2
  subst fe_0_1_2
  subst fe_0_0_3
  subst fe_0_1_3
  subst fe_0_0_4
  subst fe_0_1_4
  subst fe_0_0_5
  subst fe_0_1_5
  have e_hE_0_7_1 := funext hE_0_7_1; subst e_hE_0_7_1
  have e_hE_0_7_2 := funext hE_0_7_2; subst e_hE_0_7_2
  have e_hE_0_7_3 := funext hE_0_7_3; subst e_hE_0_7_3
  have e_hE_0_7_4 := funext hE_0_7_4; subst e_hE_0_7_4
  have e_hE_0_8_1 := funext hE_0_8_1; subst e_hE_0_8_1
  have e_hE_0_8_2 := funext hE_0_8_2; subst e_hE_0_8_2
  have e_hE_0_8_3 := funext hE_0_8_3; subst e_hE_0_8_3
  have e_hE_0_8_5 := funext hE_0_8_5; subst e_hE_0_8_5
  have e_hE_0_9_1 := funext hE_0_9_1; subst e_hE_0_9_1
  have e_hE_0_9_2 := funext hE_0_9_2; subst e_hE_0_9_2
  have e_hE_0_9_4 := funext hE_0_9_4; subst e_hE_0_9_4
  have e_hE_0_9_5 := funext hE_0_9_5; subst e_hE_0_9_5
  have e_hE_0_10_1 := funext hE_0_10_1; subst e_hE_0_10_1
  have e_hE_0_10_3 := funext hE_0_10_3; subst e_hE_0_10_3
  have e_hE_0_10_4 := funext hE_0_10_4; subst e_hE_0_10_4
  have e_hE_0_10_5 := funext hE_0_10_5; subst e_hE_0_10_5
  have e_hE_0_14_1 := funext hE_0_14_1; subst e_hE_0_14_1
  have e_hE_0_14_2 := funext hE_0_14_2; subst e_hE_0_14_2
  have e_hE_0_14_3 := funext hE_0_14_3; subst e_hE_0_14_3
  have e_hE_0_14_4 := funext hE_0_14_4; subst e_hE_0_14_4
  have e_hE_0_14_5 := funext hE_0_14_5; subst e_hE_0_14_5
  first
    | omega
  
def o_Gr_addEdge_at_Gr_1 : or_T := (51, 12, [(0, (2, 0, 0, [3])), (1, (0, 0, 23, [])), (2, (0, 0, 23, [])), (4, (0, 0, 47, [])), (5, (2, 0, 0, [52])), (6, (2, 0, 0, [53])), (7, (2, 0, 0, [54])), (9, (2, 0, 0, [55])), (10, (0, 1, 1, [])), (11, (0, 1, 48, []))], [(9, [11, 0], [1]), (9, [9, 0], [10]), (9, [7, 0], [9]), (9, [6, 0], [8]), (9, [5, 0], [7]), (20, [4, 0], [50, 1, 0, 1001, 2, 6, 0, 2, 0, 0, 1, 0, 1, 6, 4, 2, 1, 0, 0, 1, 2, 1, 1]), (20, [0, 4], [60, 1, 3, 747, 0, 14, 7, 8]), (20, [0], [60, 2, 2, 596, 0, 1, 7, 8]), (20, [1, 0, 2], [50, 1, 0, 1000, 2, 6, 0, 2, 0, 0, 1, 0, 2, 11, 0, 6, 4, 2, 1, 0, 0, 1, 2, 1, 0, 2, 6, 0, 2, 0, 0, 1, 2, 2, 11, 0, 6, 4, 2, 1, 2, 0, 1, 2, 1, 0, 3, 10, 0, 6, 4, 2, 1, 0, 0, 1, 1, 2, 0, 6, 4, 2, 1, 2, 0, 1, 1, 0]), (101, [0, 11], [1]), (1, [11, 4, 10], []), (9, [4, 0], [1]), (20, [1, 0, 2], [50, 1, 0, 1000, 2, 6, 0, 2, 0, 0, 1, 0, 2, 11, 0, 6, 4, 2, 1, 0, 0, 1, 2, 1, 0, 2, 6, 0, 2, 0, 0, 1, 2, 2, 11, 0, 6, 4, 2, 1, 2, 0, 1, 2, 1, 0, 3, 10, 0, 6, 4, 2, 1, 0, 0, 1, 1, 2, 0, 6, 4, 2, 1, 2, 0, 1, 1, 0]), (100, [9, 4, 3], []), (20, [1, 0, 2], [50, 1, 0, 1000, 2, 6, 0, 2, 0, 0, 1, 0, 2, 11, 0, 6, 4, 2, 1, 0, 0, 1, 2, 1, 0, 2, 6, 0, 2, 0, 0, 1, 2, 2, 11, 0, 6, 4, 2, 1, 2, 0, 1, 2, 1, 0, 3, 10, 0, 6, 4, 2, 1, 0, 0, 1, 1, 2, 0, 6, 4, 2, 1, 2, 0, 1, 1, 0]), (100, [7, 4, 8], []), (20, [1, 0, 2], [50, 1, 0, 1000, 2, 6, 0, 2, 0, 0, 1, 0, 2, 11, 0, 6, 4, 2, 1, 0, 0, 1, 2, 1, 0, 2, 6, 0, 2, 0, 0, 1, 2, 2, 11, 0, 6, 4, 2, 1, 2, 0, 1, 2, 1, 0, 3, 10, 0, 6, 4, 2, 1, 0, 0, 1, 1, 2, 0, 6, 4, 2, 1, 2, 0, 1, 1, 0]), (100, [6, 4, 2], []), (20, [1, 0, 2], [50, 1, 0, 1000, 2, 6, 0, 2, 0, 0, 1, 0, 2, 11, 0, 6, 4, 2, 1, 0, 0, 1, 2, 1, 0, 2, 6, 0, 2, 0, 0, 1, 2, 2, 11, 0, 6, 4, 2, 1, 2, 0, 1, 2, 1, 0, 3, 10, 0, 6, 4, 2, 1, 0, 0, 1, 1, 2, 0, 6, 4, 2, 1, 2, 0, 1, 1, 0]), (100, [5, 4, 1], []), (20, [0], [60, 2, 3, 670, 0, 1, 14, 7, 8]), (20, [0], [60, 2, 2, 596, 0, 1, 7, 8]), (20, [1, 0, 2], [50, 1, 0, 1000, 2, 6, 0, 2, 0, 0, 1, 0, 2, 11, 0, 6, 4, 2, 1, 0, 0, 1, 2, 1, 0, 2, 6, 0, 2, 0, 0, 1, 2, 2, 11, 0, 6, 4, 2, 1, 2, 0, 1, 2, 1, 0, 3, 10, 0, 6, 4, 2, 1, 0, 0, 1, 1, 2, 0, 6, 4, 2, 1, 2, 0, 1, 1, 0])], [], [], [(20, [4, 0], [50, 1, 0, 1001, 2, 6, 0, 2, 0, 0, 1, 0, 0, 6, 4, 2, 1, 0, 0, 1, 2, 1, 1])], [], [(11, 4, 1, 1)])
theorem oo_Gr_addEdge_at_Gr_1 {kA : Nat → ClassId} : or_ok PRD kA GG o_Gr_addEdge_at_Gr_1 := by
  refine or_mk fun A ta ws vs hD hth hl => ?_
  intro t0 r0 t1 k1 t2 k2 t4 k4 t5 r5 t6 r6 t7 r7 t9 r9 t10 k10 t11 k11 d0 f0 f1 f2 f3 f4 f5 f6 f7 f8 ta1 w1 le1 s1 f10 f11 f12 ta2 w2 le2 s2 f14 ta3 w3 le3 s3 f16 ta4 w4 le4 s4 f18 ta5 w5 le5 s5 f20 f21 f22
  replace f0 := shm_127 f0
  replace f1 := shm_114 f1
  replace f2 := shm_120 f2
  replace f3 := shm_143 f3
  replace f4 := shm_216 f4
  have s1 : (∀ b j, w_el ws b j = w_el w1 b j) ∧ ∀ b j, w_fd ws b j = if b = v_ad (n_v vs 0) ∧ j = 1 then n_v vs 11 else w_fd w1 b j := s1.2
  replace f11 := shm_127 f11
  have s2 : (∀ b j, w_el w1 b j = if b = v_ad (n_v vs 9) ∧ j = (v_iv (n_v vs 4)).toNat then v_iv (n_v vs 3) else w_el w2 b j) ∧ ∀ b k, w_fd w1 b k = w_fd w2 b k := s2.2
  have s3 : (∀ b j, w_el w2 b j = if b = v_ad (n_v vs 7) ∧ j = (v_iv (n_v vs 4)).toNat then v_iv (n_v vs 8) else w_el w3 b j) ∧ ∀ b k, w_fd w2 b k = w_fd w3 b k := s3.2
  have s4 : (∀ b j, w_el w3 b j = if b = v_ad (n_v vs 6) ∧ j = (v_iv (n_v vs 4)).toNat then v_iv (n_v vs 2) else w_el w4 b j) ∧ ∀ b k, w_fd w3 b k = w_fd w4 b k := s4.2
  have s5 : (∀ b j, w_el w4 b j = if b = v_ad (n_v vs 5) ∧ j = (v_iv (n_v vs 4)).toNat then v_iv (n_v vs 1) else w_el w5 b j) ∧ ∀ b k, w_fd w4 b k = w_fd w5 b k := s5.2
  replace f20 := shm_811 f20
  replace f21 := shm_401 f21
  have ar_0_7_1 : w_ar w1 (n_v vs 0) 7 = w_ar ws (n_v vs 0) 7 := by show v_ad (w_fd w1 _ _) = v_ad (w_fd ws _ _); rw [s1.2, if_neg (fun e => absurd e.2 (by decide))]
  have ar_0_7_2 : w_ar w2 (n_v vs 0) 7 = w_ar ws (n_v vs 0) 7 := by rw [← ar_0_7_1]; show v_ad (w_fd w2 _ _) = v_ad (w_fd w1 _ _); rw [s2.2]
  have ar_0_7_3 : w_ar w3 (n_v vs 0) 7 = w_ar ws (n_v vs 0) 7 := by rw [← ar_0_7_2]; show v_ad (w_fd w3 _ _) = v_ad (w_fd w2 _ _); rw [s3.2]
  have ar_0_7_4 : w_ar w4 (n_v vs 0) 7 = w_ar ws (n_v vs 0) 7 := by rw [← ar_0_7_3]; show v_ad (w_fd w4 _ _) = v_ad (w_fd w3 _ _); rw [s4.2]
  have ar_0_7_5 : w_ar w5 (n_v vs 0) 7 = w_ar ws (n_v vs 0) 7 := by rw [← ar_0_7_4]; show v_ad (w_fd w5 _ _) = v_ad (w_fd w4 _ _); rw [s5.2]
  have cr_0_7 := fdq_52 hD hth r0
  have ar_0_8_1 : w_ar w1 (n_v vs 0) 8 = w_ar ws (n_v vs 0) 8 := by show v_ad (w_fd w1 _ _) = v_ad (w_fd ws _ _); rw [s1.2, if_neg (fun e => absurd e.2 (by decide))]
  have ar_0_8_2 : w_ar w2 (n_v vs 0) 8 = w_ar ws (n_v vs 0) 8 := by rw [← ar_0_8_1]; show v_ad (w_fd w2 _ _) = v_ad (w_fd w1 _ _); rw [s2.2]
  have ar_0_8_3 : w_ar w3 (n_v vs 0) 8 = w_ar ws (n_v vs 0) 8 := by rw [← ar_0_8_2]; show v_ad (w_fd w3 _ _) = v_ad (w_fd w2 _ _); rw [s3.2]
  have ar_0_8_4 : w_ar w4 (n_v vs 0) 8 = w_ar ws (n_v vs 0) 8 := by rw [← ar_0_8_3]; show v_ad (w_fd w4 _ _) = v_ad (w_fd w3 _ _); rw [s4.2]
  have ar_0_8_5 : w_ar w5 (n_v vs 0) 8 = w_ar ws (n_v vs 0) 8 := by rw [← ar_0_8_4]; show v_ad (w_fd w5 _ _) = v_ad (w_fd w4 _ _); rw [s5.2]
  have cr_0_8 := fdq_53 hD hth r0
  have cr_0_9 := fdq_111 hD hth r0
  have cr_0_10 := fdq_204 hD hth r0
  have ar_0_14_1 : w_ar w1 (n_v vs 0) 14 = w_ar ws (n_v vs 0) 14 := by show v_ad (w_fd w1 _ _) = v_ad (w_fd ws _ _); rw [s1.2, if_neg (fun e => absurd e.2 (by decide))]
  have ar_0_14_2 : w_ar w2 (n_v vs 0) 14 = w_ar ws (n_v vs 0) 14 := by rw [← ar_0_14_1]; show v_ad (w_fd w2 _ _) = v_ad (w_fd w1 _ _); rw [s2.2]
  have ar_0_14_3 : w_ar w3 (n_v vs 0) 14 = w_ar ws (n_v vs 0) 14 := by rw [← ar_0_14_2]; show v_ad (w_fd w3 _ _) = v_ad (w_fd w2 _ _); rw [s3.2]
  have ar_0_14_4 : w_ar w4 (n_v vs 0) 14 = w_ar ws (n_v vs 0) 14 := by rw [← ar_0_14_3]; show v_ad (w_fd w4 _ _) = v_ad (w_fd w3 _ _); rw [s4.2]
  have ar_0_14_5 : w_ar w5 (n_v vs 0) 14 = w_ar ws (n_v vs 0) 14 := by rw [← ar_0_14_4]; show v_ad (w_fd w5 _ _) = v_ad (w_fd w4 _ _); rw [s5.2]
  have cr_0_14 := fdq_79 hD hth r0
  have ad_9 : v_ad (n_v vs 9) = w_ar ws (n_v vs 0) 10 := congrArg v_ad f1
  have ad_7 : v_ad (n_v vs 7) = w_ar ws (n_v vs 0) 9 := congrArg v_ad f2
  have ad_6 : v_ad (n_v vs 6) = w_ar ws (n_v vs 0) 8 := congrArg v_ad f3
  have ad_5 : v_ad (n_v vs 5) = w_ar ws (n_v vs 0) 7 := congrArg v_ad f4
  have g0 : v_iv (n_v vs 11) = w_fi ws (n_v vs 0) 1 := congrArg v_iv f0
  have g11 : v_iv (n_v vs 4) = w_fi w1 (n_v vs 0) 1 := congrArg v_iv f11
  simp only [ar_0_7_5, ar_0_8_5, ar_0_14_5] at f20 f21
  have fe_0_0_1 : w_fi ws (n_v vs 0) 0 = w_fi w1 (n_v vs 0) 0 := by show v_iv (w_fd _ _ _) = v_iv (w_fd _ _ _); rw [s1.2, if_neg (fun e => absurd e.2 (by decide))]
  have fe_0_1_1 : w_fi ws (n_v vs 0) 1 = v_iv (n_v vs 11) := by show v_iv (w_fd _ _ _) = _; rw [s1.2, if_pos ⟨rfl, rfl⟩]
  have fe_0_0_2 : w_fi w1 (n_v vs 0) 0 = w_fi w2 (n_v vs 0) 0 := congrArg v_iv (s2.2 _ _)
  have fe_0_1_2 : w_fi w1 (n_v vs 0) 1 = w_fi w2 (n_v vs 0) 1 := congrArg v_iv (s2.2 _ _)
  have fe_0_0_3 : w_fi w2 (n_v vs 0) 0 = w_fi w3 (n_v vs 0) 0 := congrArg v_iv (s3.2 _ _)
  have fe_0_1_3 : w_fi w2 (n_v vs 0) 1 = w_fi w3 (n_v vs 0) 1 := congrArg v_iv (s3.2 _ _)
  have fe_0_0_4 : w_fi w3 (n_v vs 0) 0 = w_fi w4 (n_v vs 0) 0 := congrArg v_iv (s4.2 _ _)
  have fe_0_1_4 : w_fi w3 (n_v vs 0) 1 = w_fi w4 (n_v vs 0) 1 := congrArg v_iv (s4.2 _ _)
  have fe_0_0_5 : w_fi w4 (n_v vs 0) 0 = w_fi w5 (n_v vs 0) 0 := congrArg v_iv (s5.2 _ _)
  have fe_0_1_5 : w_fi w4 (n_v vs 0) 1 = w_fi w5 (n_v vs 0) 1 := congrArg v_iv (s5.2 _ _)
  have hE_0_7_1 : ∀ j : Int, w_ei ws (w_ar ws (n_v vs 0) 7) j = w_ei w1 (w_ar ws (n_v vs 0) 7) j := fun j => s1.1 _ _
  have hE_0_7_2 : ∀ j : Int, w_ei w1 (w_ar ws (n_v vs 0) 7) j = w_ei w2 (w_ar ws (n_v vs 0) 7) j := el_kp s2.1 r9 cr_0_7 (by decide)
  have hE_0_7_3 : ∀ j : Int, w_ei w2 (w_ar ws (n_v vs 0) 7) j = w_ei w3 (w_ar ws (n_v vs 0) 7) j := el_kp s3.1 r7 cr_0_7 (by decide)
  have hE_0_7_4 : ∀ j : Int, w_ei w3 (w_ar ws (n_v vs 0) 7) j = w_ei w4 (w_ar ws (n_v vs 0) 7) j := el_kp s4.1 r6 cr_0_7 (by decide)
  have hE_0_7_5 : ∀ j : Int, 0 ≤ j → (j = v_iv (n_v vs 4) → w_ei w4 (w_ar ws (n_v vs 0) 7) j = v_iv (n_v vs 1)) ∧ (j ≠ v_iv (n_v vs 4) → w_ei w4 (w_ar ws (n_v vs 0) 7) j = w_ei w5 (w_ar ws (n_v vs 0) 7) j) := fun j hj => ⟨fun h => by unfold w_ei; rw [s5.1, if_pos ⟨ad_5.symm, by rw [h]⟩], fun h => by unfold w_ei; rw [s5.1, if_neg (fun e => h (by have := e.2; omega))]⟩
  have hK_0_7 := elq_10 hD hth cr_0_7
  have hE_0_8_1 : ∀ j : Int, w_ei ws (w_ar ws (n_v vs 0) 8) j = w_ei w1 (w_ar ws (n_v vs 0) 8) j := fun j => s1.1 _ _
  have hE_0_8_2 : ∀ j : Int, w_ei w1 (w_ar ws (n_v vs 0) 8) j = w_ei w2 (w_ar ws (n_v vs 0) 8) j := el_kp s2.1 r9 cr_0_8 (by decide)
  have hE_0_8_3 : ∀ j : Int, w_ei w2 (w_ar ws (n_v vs 0) 8) j = w_ei w3 (w_ar ws (n_v vs 0) 8) j := el_kp s3.1 r7 cr_0_8 (by decide)
  have hE_0_8_4 : ∀ j : Int, 0 ≤ j → (j = v_iv (n_v vs 4) → w_ei w3 (w_ar ws (n_v vs 0) 8) j = v_iv (n_v vs 2)) ∧ (j ≠ v_iv (n_v vs 4) → w_ei w3 (w_ar ws (n_v vs 0) 8) j = w_ei w4 (w_ar ws (n_v vs 0) 8) j) := fun j hj => ⟨fun h => by unfold w_ei; rw [s4.1, if_pos ⟨ad_6.symm, by rw [h]⟩], fun h => by unfold w_ei; rw [s4.1, if_neg (fun e => h (by have := e.2; omega))]⟩
  have hE_0_8_5 : ∀ j : Int, w_ei w4 (w_ar ws (n_v vs 0) 8) j = w_ei w5 (w_ar ws (n_v vs 0) 8) j := el_kp s5.1 r5 cr_0_8 (by decide)
  have hK_0_8 := elq_11 hD hth cr_0_8
  have hE_0_9_1 : ∀ j : Int, w_ei ws (w_ar ws (n_v vs 0) 9) j = w_ei w1 (w_ar ws (n_v vs 0) 9) j := fun j => s1.1 _ _
  have hE_0_9_2 : ∀ j : Int, w_ei w1 (w_ar ws (n_v vs 0) 9) j = w_ei w2 (w_ar ws (n_v vs 0) 9) j := el_kp s2.1 r9 cr_0_9 (by decide)
  have hE_0_9_3 : ∀ j : Int, 0 ≤ j → (j = v_iv (n_v vs 4) → w_ei w2 (w_ar ws (n_v vs 0) 9) j = v_iv (n_v vs 8)) ∧ (j ≠ v_iv (n_v vs 4) → w_ei w2 (w_ar ws (n_v vs 0) 9) j = w_ei w3 (w_ar ws (n_v vs 0) 9) j) := fun j hj => ⟨fun h => by unfold w_ei; rw [s3.1, if_pos ⟨ad_7.symm, by rw [h]⟩], fun h => by unfold w_ei; rw [s3.1, if_neg (fun e => h (by have := e.2; omega))]⟩
  have hE_0_9_4 : ∀ j : Int, w_ei w3 (w_ar ws (n_v vs 0) 9) j = w_ei w4 (w_ar ws (n_v vs 0) 9) j := el_kp s4.1 r6 cr_0_9 (by decide)
  have hE_0_9_5 : ∀ j : Int, w_ei w4 (w_ar ws (n_v vs 0) 9) j = w_ei w5 (w_ar ws (n_v vs 0) 9) j := el_kp s5.1 r5 cr_0_9 (by decide)
  have hK_0_9 := elq_54 hD hth cr_0_9
  have hE_0_10_1 : ∀ j : Int, w_ei ws (w_ar ws (n_v vs 0) 10) j = w_ei w1 (w_ar ws (n_v vs 0) 10) j := fun j => s1.1 _ _
  have hE_0_10_2 : ∀ j : Int, 0 ≤ j → (j = v_iv (n_v vs 4) → w_ei w1 (w_ar ws (n_v vs 0) 10) j = v_iv (n_v vs 3)) ∧ (j ≠ v_iv (n_v vs 4) → w_ei w1 (w_ar ws (n_v vs 0) 10) j = w_ei w2 (w_ar ws (n_v vs 0) 10) j) := fun j hj => ⟨fun h => by unfold w_ei; rw [s2.1, if_pos ⟨ad_9.symm, by rw [h]⟩], fun h => by unfold w_ei; rw [s2.1, if_neg (fun e => h (by have := e.2; omega))]⟩
  have hE_0_10_3 : ∀ j : Int, w_ei w2 (w_ar ws (n_v vs 0) 10) j = w_ei w3 (w_ar ws (n_v vs 0) 10) j := el_kp s3.1 r7 cr_0_10 (by decide)
  have hE_0_10_4 : ∀ j : Int, w_ei w3 (w_ar ws (n_v vs 0) 10) j = w_ei w4 (w_ar ws (n_v vs 0) 10) j := el_kp s4.1 r6 cr_0_10 (by decide)
  have hE_0_10_5 : ∀ j : Int, w_ei w4 (w_ar ws (n_v vs 0) 10) j = w_ei w5 (w_ar ws (n_v vs 0) 10) j := el_kp s5.1 r5 cr_0_10 (by decide)
  have hK_0_10 := elq_120 hD hth cr_0_10
  have hE_0_14_1 : ∀ j : Int, w_ei ws (w_ar ws (n_v vs 0) 14) j = w_ei w1 (w_ar ws (n_v vs 0) 14) j := fun j => s1.1 _ _
  have hE_0_14_2 : ∀ j : Int, w_ei w1 (w_ar ws (n_v vs 0) 14) j = w_ei w2 (w_ar ws (n_v vs 0) 14) j := el_kp s2.1 r9 cr_0_14 (by decide)
  have hE_0_14_3 : ∀ j : Int, w_ei w2 (w_ar ws (n_v vs 0) 14) j = w_ei w3 (w_ar ws (n_v vs 0) 14) j := el_kp s3.1 r7 cr_0_14 (by decide)
  have hE_0_14_4 : ∀ j : Int, w_ei w3 (w_ar ws (n_v vs 0) 14) j = w_ei w4 (w_ar ws (n_v vs 0) 14) j := el_kp s4.1 r6 cr_0_14 (by decide)
  have hE_0_14_5 : ∀ j : Int, w_ei w4 (w_ar ws (n_v vs 0) 14) j = w_ei w5 (w_ar ws (n_v vs 0) 14) j := el_kp s5.1 r5 cr_0_14 (by decide)
  have hK_0_14 := elq_24 hD hth cr_0_14
  have kz_0_0 := fdq_23 hD hth r0
  have kz_0_1 := fdq_38 hD hth r0
  have nf0 : fc_1 PRD (20, [4, 0], [50, 1, 0, 1001, 2, 6, 0, 2, 0, 0, 1, 0, 0, 6, 4, 2, 1, 0, 0, 1, 2, 1, 1]) ws (vs) := ⟨nf_in hl rfl, sgq_402 (vc_Gr_addEdge_at_Gr_1_0 (v_iv (n_v vs 1)) (v_iv (n_v vs 2)) (v_iv (n_v vs 4)) (v_iv (n_v vs 10)) (v_iv (n_v vs 11)) (w_fi ws (n_v vs 0) 1) (w_ei ws (w_ar ws (n_v vs 0) 14)) (w_ei ws (w_ar ws (n_v vs 0) 7)) (w_ei ws (w_ar ws (n_v vs 0) 8)) (w_fi ws (n_v vs 0) 0) (w_fi w1 (n_v vs 0) 1) (w_fi w1 (n_v vs 0) 0) (w_fi w2 (n_v vs 0) 0) (w_fi w3 (n_v vs 0) 0) (w_fi w4 (n_v vs 0) 0) (w_ei w5 (w_ar ws (n_v vs 0) 14)) (w_ei w5 (w_ar ws (n_v vs 0) 7)) (w_ei w5 (w_ar ws (n_v vs 0) 8)) (w_fi w5 (n_v vs 0) 0) (w_fi w5 (n_v vs 0) 1) (w_fi w2 (n_v vs 0) 1) (w_fi w3 (n_v vs 0) 1) (w_fi w4 (n_v vs 0) 1) (w_ei w1 (w_ar ws (n_v vs 0) 7)) (w_ei w2 (w_ar ws (n_v vs 0) 7)) (w_ei w3 (w_ar ws (n_v vs 0) 7)) (w_ei w4 (w_ar ws (n_v vs 0) 7)) (w_ei w1 (w_ar ws (n_v vs 0) 8)) (w_ei w2 (w_ar ws (n_v vs 0) 8)) (w_ei w3 (w_ar ws (n_v vs 0) 8)) (w_ei w4 (w_ar ws (n_v vs 0) 8)) (w_ei ws (w_ar ws (n_v vs 0) 9)) (w_ei w1 (w_ar ws (n_v vs 0) 9)) (w_ei w2 (w_ar ws (n_v vs 0) 9)) (w_ei w3 (w_ar ws (n_v vs 0) 9)) (v_iv (n_v vs 8)) (w_ei w4 (w_ar ws (n_v vs 0) 9)) (w_ei w5 (w_ar ws (n_v vs 0) 9)) (w_ei ws (w_ar ws (n_v vs 0) 10)) (w_ei w1 (w_ar ws (n_v vs 0) 10)) (w_ei w2 (w_ar ws (n_v vs 0) 10)) (v_iv (n_v vs 3)) (w_ei w3 (w_ar ws (n_v vs 0) 10)) (w_ei w4 (w_ar ws (n_v vs 0) 10)) (w_ei w5 (w_ar ws (n_v vs 0) 10)) (w_ei w1 (w_ar ws (n_v vs 0) 14)) (w_ei w2 (w_ar ws (n_v vs 0) 14)) (w_ei w3 (w_ar ws (n_v vs 0) 14)) (w_ei w4 (w_ar ws (n_v vs 0) 14)) k1 k2 k4 k10 k11 d0 g0 (shm_812 f5) (shm_403 f6) (shm_401 f7) (shm_810 f8) (shm_12 f10) g11 (shm_810 f12) (shm_810 f14) (shm_810 f16) (shm_810 f18) f20 f21 (shm_810 f22) fe_0_0_1 fe_0_1_1 fe_0_0_2 fe_0_1_2 fe_0_0_3 fe_0_1_3 fe_0_0_4 fe_0_1_4 fe_0_0_5 fe_0_1_5 hE_0_7_1 hE_0_7_2 hE_0_7_3 hE_0_7_4 hE_0_7_5 hK_0_7 hE_0_8_1 hE_0_8_2 hE_0_8_3 hE_0_8_4 hE_0_8_5 hK_0_8 hE_0_9_1 hE_0_9_2 hE_0_9_3 hE_0_9_4 hE_0_9_5 hK_0_9 hE_0_10_1 hE_0_10_2 hE_0_10_3 hE_0_10_4 hE_0_10_5 hK_0_10 hE_0_14_1 hE_0_14_2 hE_0_14_3 hE_0_14_4 hE_0_14_5 hK_0_14 kz_0_0 kz_0_1)⟩
  refine ⟨(fun _ h => (by cases h)), [], trivial, ?_, (fun _ h => (by cases h))⟩
  rw [List.append_nil]
  exact List.forall_mem_cons.mpr ⟨⟨show (20 : Nat) < 100 from by decide, nf0⟩, (fun _ h => (by cases h))⟩
set_option maxHeartbeats 4000000 in
theorem vc_Gr_addEdge_at_Gr_2_0 (x1 : Int) (x2 : Int) (x4 : Int) (x10 : Int) (x11 : Int) (edges_0 : Int) (nodes_0 : Int) (near_0 : Int → Int) (tail_0 : Int → Int) (head_0 : Int → Int) (weight_0 : Int → Int) (oneWay_0 : Int → Int) (k1 : 0 ≤ x1 ∧ x1 ≤ 23) (k2 : 0 ≤ x2 ∧ x2 ≤ 23) (k4 : 0 ≤ x4 ∧ x4 ≤ 47) (k10 : 1 ≤ x10 ∧ x10 ≤ 1) (k11 : 1 ≤ x11 ∧ x11 ≤ 48) (d0 : x4 + 1 ≤ x11 ∧ x11 ≤ x4 + 1) (g0 : x11 = edges_0) (f5 : (0 ≤ x4) ∧ ((x4 + 1) ≤ edges_0)) (f6 : (0 ≤ x4) ∧ ((x4 + 1) = edges_0)) (f7 : (0 ≤ x1) ∧ (((x1 + 1) ≤ nodes_0) ∧ ((0 ≤ x2) ∧ (((x2 + 1) ≤ nodes_0) ∧ (((x1 + 1) ≤ x2) ∨ ((x2 + 1) ≤ x1)))))) (f8 : GNL (nodes_0) (near_0) (tail_0) (head_0) (x4)) (f9 : GKE (nodes_0) (edges_0) (tail_0) (head_0)) (f12 : x11 = x4 + x10) (hK_0_7 : ∀ j : Int, 0 ≤ j → j < 48 → 0 ≤ tail_0 j ∧ tail_0 j ≤ 23) (hK_0_8 : ∀ j : Int, 0 ≤ j → j < 48 → 0 ≤ head_0 j ∧ head_0 j ≤ 23) (hK_0_9 : ∀ j : Int, 0 ≤ j → j < 48 → 0 ≤ weight_0 j ∧ weight_0 j ≤ 9) (hK_0_10 : ∀ j : Int, 0 ≤ j → j < 48 → 0 ≤ oneWay_0 j ∧ oneWay_0 j ≤ 1) (hK_0_14 : ∀ j : Int, 0 ≤ j → j < 24 → 0 ≤ near_0 j ∧ near_0 j ≤ 16777215) (kz_0_0 : 0 ≤ nodes_0 ∧ nodes_0 ≤ 24) (kz_0_1 : 0 ≤ edges_0 ∧ edges_0 ≤ 48) : GNB (nodes_0) (edges_0) (near_0) (tail_0) (head_0) := by
  first
    | exact gnb_ofl ‹GNL _ _ _ _ _› (by omega)
  
def o_Gr_addEdge_at_Gr_2 : or_T := (56, 12, [(0, (2, 0, 0, [3])), (1, (0, 0, 23, [])), (2, (0, 0, 23, [])), (4, (0, 0, 47, [])), (10, (0, 1, 1, [])), (11, (0, 1, 48, []))], [(9, [11, 0], [1]), (20, [4, 0], [50, 1, 0, 1001, 2, 6, 0, 2, 0, 0, 1, 0, 0, 6, 4, 2, 1, 0, 0, 1, 2, 1, 1]), (20, [4, 0], [50, 1, 0, 1001, 2, 6, 0, 2, 0, 0, 1, 0, 1, 6, 4, 2, 1, 0, 0, 1, 2, 1, 1]), (20, [1, 0, 2], [50, 1, 0, 1000, 2, 6, 0, 2, 0, 0, 1, 0, 2, 11, 0, 6, 4, 2, 1, 0, 0, 1, 2, 1, 0, 2, 6, 0, 2, 0, 0, 1, 2, 2, 11, 0, 6, 4, 2, 1, 2, 0, 1, 2, 1, 0, 3, 10, 0, 6, 4, 2, 1, 0, 0, 1, 1, 2, 0, 6, 4, 2, 1, 2, 0, 1, 1, 0]), (20, [0, 4], [60, 1, 3, 748, 0, 14, 7, 8]), (20, [0], [60, 2, 2, 596, 0, 1, 7, 8]), (102, [11], [1729382256910270464]), (101, [0, 11], [1]), (1, [11, 4, 10], [])], [], [], [(20, [0], [60, 2, 3, 670, 0, 1, 14, 7, 8])], [], [(11, 4, 1, 1)])
theorem oo_Gr_addEdge_at_Gr_2 {kA : Nat → ClassId} : or_ok PRD kA GG o_Gr_addEdge_at_Gr_2 := by
  refine or_mk fun A ta ws vs hD hth hl => ?_
  intro t0 r0 t1 k1 t2 k2 t4 k4 t10 k10 t11 k11 d0 f0 f5 f6 f7 f8 f9 ta1 w1 le1 s1 ta2 w2 le2 s2 f12
  replace f0 := shm_127 f0
  have cr_0_7 := fdq_52 hD hth r0
  have cr_0_8 := fdq_53 hD hth r0
  have cr_0_9 := fdq_111 hD hth r0
  have cr_0_10 := fdq_204 hD hth r0
  have cr_0_14 := fdq_79 hD hth r0
  have g0 : v_iv (n_v vs 11) = w_fi ws (n_v vs 0) 1 := congrArg v_iv f0
  have hK_0_7 := elq_10 hD hth cr_0_7
  have hK_0_8 := elq_11 hD hth cr_0_8
  have hK_0_9 := elq_54 hD hth cr_0_9
  have hK_0_10 := elq_120 hD hth cr_0_10
  have hK_0_14 := elq_24 hD hth cr_0_14
  have kz_0_0 := fdq_23 hD hth r0
  have kz_0_1 := fdq_38 hD hth r0
  have nf0 : fc_1 PRD (20, [0], [60, 2, 3, 670, 0, 1, 14, 7, 8]) ws (vs) := ⟨nf_in hl rfl, sgq_811 (vc_Gr_addEdge_at_Gr_2_0 (v_iv (n_v vs 1)) (v_iv (n_v vs 2)) (v_iv (n_v vs 4)) (v_iv (n_v vs 10)) (v_iv (n_v vs 11)) (w_fi ws (n_v vs 0) 1) (w_fi ws (n_v vs 0) 0) (w_ei ws (w_ar ws (n_v vs 0) 14)) (w_ei ws (w_ar ws (n_v vs 0) 7)) (w_ei ws (w_ar ws (n_v vs 0) 8)) (w_ei ws (w_ar ws (n_v vs 0) 9)) (w_ei ws (w_ar ws (n_v vs 0) 10)) k1 k2 k4 k10 k11 d0 g0 (shm_402 f5) (shm_812 f6) (shm_810 f7) (shm_404 f8) (shm_401 f9) (shm_12 f12) hK_0_7 hK_0_8 hK_0_9 hK_0_10 hK_0_14 kz_0_0 kz_0_1)⟩
  refine ⟨(fun _ h => (by cases h)), [], trivial, ?_, (fun _ h => (by cases h))⟩
  rw [List.append_nil]
  exact List.forall_mem_cons.mpr ⟨⟨show (20 : Nat) < 100 from by decide, nf0⟩, (fun _ h => (by cases h))⟩
def n_Gr_addEdge_at_Gr_an : List an_T := []
def t_Gr_addEdge_at_Gr_ct : ct_L := [(157, 100, e_Gr_tie_at_Gr)]
set_option maxRecDepth 100000 in
theorem c_Gr_addEdge_at_Gr {l : Launch} {D : va_G} {kA : Nat → ClassId} (h_Gr_tie_at_Gr : ct_ok PRD l D kA GG y_Gr_tie_at_Gr z_Gr_tie_at_Gr e_Gr_tie_at_Gr) : ct_ok PRD l D kA GG y_Gr_addEdge_at_Gr z_Gr_addEdge_at_Gr e_Gr_addEdge_at_Gr := chk_all_ok (FT := [(15, 3, 1), (35, 3, 7), (38, 3, 8), (41, 3, 9), (44, 3, 10)]) (PT := [(15, 3, 1, .int)]) (CT := t_Gr_addEdge_at_Gr_ct) (KT := []) (NT := []) (AN := n_Gr_addEdge_at_Gr_an) (OT := [o_Gr_addEdge_at_Gr_0, o_Gr_addEdge_at_Gr_1, o_Gr_addEdge_at_Gr_2]) 0 200 (List.forall_mem_cons.mpr ⟨oo_Gr_addEdge_at_Gr_0, List.forall_mem_cons.mpr ⟨oo_Gr_addEdge_at_Gr_1, List.forall_mem_cons.mpr ⟨oo_Gr_addEdge_at_Gr_2, List.forall_mem_nil _⟩⟩⟩) (by decide +kernel) ⟨List.forall_mem_cons.mpr ⟨gf_Gr_15, List.forall_mem_cons.mpr ⟨gf_Gr_35, List.forall_mem_cons.mpr ⟨gf_Gr_38, List.forall_mem_cons.mpr ⟨gf_Gr_41, List.forall_mem_cons.mpr ⟨gf_Gr_44, List.forall_mem_nil _⟩⟩⟩⟩⟩, List.forall_mem_cons.mpr ⟨pf_Gr_15, List.forall_mem_nil _⟩, List.forall_mem_cons.mpr ⟨cl_virtual (y := y_Gr_tie_at_Gr) (ci := 3) rfl rfl ⟨_, _, rfl⟩ (by decide +kernel) h_Gr_tie_at_Gr wm_776 wm_3 wm_773 wm_775 wv_1_11 ⟨by decide, by decide, by decide +kernel⟩ (by decide), List.forall_mem_nil _⟩, List.forall_mem_nil _, List.forall_mem_nil _, GG_pl⟩ (by decide +kernel)
set_option maxHeartbeats 4000000 in
theorem vc_Gr_addNode_at_Gq_Retape_0_0 (x2 : Int) (x3 : Int) (x5 : Int) (x6 : Int) (x8 : Int) (x9 : Int) (nodes_0 : Int) (near_0 : Int → Int) (tail_0 : Int → Int) (head_0 : Int → Int) (edges_0 : Int) (k2 : 0 ≤ x2 ∧ x2 ≤ 2000) (k3 : 0 ≤ x3 ∧ x3 ≤ 8) (k5 : 0 ≤ x5 ∧ x5 ≤ 23) (k6 : 0 ≤ x6 ∧ x6 ≤ 24) (k8 : 8 ≤ x8 ∧ x8 ≤ 8) (k9 : 0 ≤ x9 ∧ x9 ≤ 184) (f0 : x9 = x5 * 8) (g1 : x5 = nodes_0) (f2 : x2 + x3 ≤ 2000) (f3 : nodes_0 = x6) (f4 : nodes_0 ≤ 23) (f5 : GNB (nodes_0) (edges_0) (near_0) (tail_0) (head_0)) (f6 : GKE (nodes_0) (edges_0) (tail_0) (head_0)) (hK_0_7 : ∀ j : Int, 0 ≤ j → j < 48 → 0 ≤ tail_0 j ∧ tail_0 j ≤ 23) (hK_0_8 : ∀ j : Int, 0 ≤ j → j < 48 → 0 ≤ head_0 j ∧ head_0 j ≤ 23) (hK_0_14 : ∀ j : Int, 0 ≤ j → j < 24 → 0 ≤ near_0 j ∧ near_0 j ≤ 16777215) (kz_0_0 : 0 ≤ nodes_0 ∧ nodes_0 ≤ 24) (kz_0_1 : 0 ≤ edges_0 ∧ edges_0 ≤ 48) : x9 + x3 ≤ 192 := by
  first
    | omega
  
def o_Gr_addNode_at_Gq_Retape_0 : or_T := (18, 10, [(0, (2, 0, 0, [164])), (2, (0, 0, 2000, [])), (3, (0, 0, 8, [])), (5, (0, 0, 23, [])), (6, (0, 0, 24, [])), (8, (0, 8, 8, [])), (9, (0, 0, 184, []))], [(3, [9, 5, 8], []), (9, [5, 0], [0]), (21, [2, 3], [2000]), (20, [0, 6], [50, 1, 0, 0, 1, 3, 2, 0, 0, 1, 1]), (20, [0], [50, 1, 0, 0, 0, 3, 2, 0, 0, 0, 23]), (20, [0], [60, 2, 3, 670, 0, 1, 14, 7, 8]), (20, [0], [60, 2, 2, 596, 0, 1, 7, 8])], [], [], [(21, [9, 3], [192])], [], [])
theorem oo_Gr_addNode_at_Gq_Retape_0 {kA : Nat → ClassId} : or_ok PRD kA GG o_Gr_addNode_at_Gq_Retape_0 := by
  refine or_mk fun A ta ws vs hD hth hl => ?_
  intro t0 r0 t2 k2 t3 k3 t5 k5 t6 k6 t8 k8 t9 k9 f0 f1 f2 f3 f4 f5 f6
  replace f0 := shm_38 f0
  rw [show v_iv (n_v vs 8) = 8 from by omega] at f0
  replace f1 := shm_175 f1
  have cr_0_7 := fdq_74 hD hth r0
  have cr_0_8 := fdq_75 hD hth r0
  have cr_0_14 := fdq_76 hD hth r0
  have g1 : v_iv (n_v vs 5) = w_fi ws (n_v vs 0) 0 := congrArg v_iv f1
  have hK_0_7 := elq_32 hD hth cr_0_7
  have hK_0_8 := elq_33 hD hth cr_0_8
  have hK_0_14 := elq_34 hD hth cr_0_14
  have kz_0_0 := fdq_77 hD hth r0
  have kz_0_1 := fdq_78 hD hth r0
  have nf0 : fc_1 PRD (21, [9, 3], [192]) ws (vs) := ⟨nf_in hl rfl, sgq_815 (vc_Gr_addNode_at_Gq_Retape_0_0 (v_iv (n_v vs 2)) (v_iv (n_v vs 3)) (v_iv (n_v vs 5)) (v_iv (n_v vs 6)) (v_iv (n_v vs 8)) (v_iv (n_v vs 9)) (w_fi ws (n_v vs 0) 0) (w_ei ws (w_ar ws (n_v vs 0) 14)) (w_ei ws (w_ar ws (n_v vs 0) 7)) (w_ei ws (w_ar ws (n_v vs 0) 8)) (w_fi ws (n_v vs 0) 1) k2 k3 k5 k6 k8 k9 f0 g1 (shm_813 f2) (shm_560 f3) (shm_814 f4) (shm_811 f5) (shm_401 f6) hK_0_7 hK_0_8 hK_0_14 kz_0_0 kz_0_1)⟩
  refine ⟨(fun _ h => (by cases h)), [], trivial, ?_, (fun _ h => (by cases h))⟩
  rw [List.append_nil]
  exact List.forall_mem_cons.mpr ⟨⟨show (21 : Nat) < 100 from by decide, nf0⟩, (fun _ h => (by cases h))⟩
set_option maxHeartbeats 4000000 in
theorem vc_Gr_addNode_at_Gq_Retape_1_0 (x5 : Int) (x6 : Int) (x15 : Int) (x16 : Int) (x17 : Int) (nodes_0 : Int) (nodes_1 : Int) (tail_1 : Int → Int) (head_1 : Int → Int) (edges_1 : Int) (nodes_2 : Int) (near_2 : Int → Int) (tail_2 : Int → Int) (head_2 : Int → Int) (edges_2 : Int) (nodes_3 : Int) (near_3 : Int → Int) (tail_3 : Int → Int) (head_3 : Int → Int) (edges_3 : Int) (nodes_4 : Int) (near_4 : Int → Int) (tail_4 : Int → Int) (head_4 : Int → Int) (edges_4 : Int) (nodes_5 : Int) (near_5 : Int → Int) (tail_5 : Int → Int) (head_5 : Int → Int) (edges_5 : Int) (edges_0 : Int) (nameLength_0 : Int → Int) (nameLength_1 : Int → Int) (nameLength_2 : Int → Int) (nameLength_3 : Int → Int) (nameLength_4 : Int → Int) (nameLength_5 : Int → Int) (x3 : Int) (size_0 : Int → Int) (size_1 : Int → Int) (size_2 : Int → Int) (size_3 : Int → Int) (size_4 : Int → Int) (x12 : Int) (size_5 : Int → Int) (groupOf_0 : Int → Int) (groupOf_1 : Int → Int) (groupOf_2 : Int → Int) (groupOf_3 : Int → Int) (x4 : Int) (groupOf_4 : Int → Int) (groupOf_5 : Int → Int) (tail_0 : Int → Int) (head_0 : Int → Int) (near_0 : Int → Int) (near_1 : Int → Int) (k5 : 0 ≤ x5 ∧ x5 ≤ 23) (k6 : 0 ≤ x6 ∧ x6 ≤ 24) (k15 : 0 ≤ x15 ∧ x15 ≤ 0) (k16 : 1 ≤ x16 ∧ x16 ≤ 1) (k17 : 1 ≤ x17 ∧ x17 ≤ 24) (d0 : x5 + 1 ≤ x17 ∧ x17 ≤ x5 + 1) (g0 : x17 = nodes_0) (f6 : x17 = x5 + x16) (g7 : x5 = nodes_1) (f8 : nodes_1 = x6) (f9 : nodes_1 ≤ 23) (f10 : GKE (nodes_1) (edges_1) (tail_1) (head_1)) (f12 : nodes_2 = x6) (f13 : nodes_2 ≤ 23) (f14 : GNB (nodes_2) (edges_2) (near_2) (tail_2) (head_2)) (f15 : GKE (nodes_2) (edges_2) (tail_2) (head_2)) (f17 : nodes_3 = x6) (f18 : nodes_3 ≤ 23) (f19 : GNB (nodes_3) (edges_3) (near_3) (tail_3) (head_3)) (f20 : GKE (nodes_3) (edges_3) (tail_3) (head_3)) (f22 : nodes_4 = x6) (f23 : nodes_4 ≤ 23) (f24 : GNB (nodes_4) (edges_4) (near_4) (tail_4) (head_4)) (f25 : GKE (nodes_4) (edges_4) (tail_4) (head_4)) (f27 : nodes_5 = x6) (f28 : nodes_5 ≤ 23) (f29 : GNB (nodes_5) (edges_5) (near_5) (tail_5) (head_5)) (f30 : GKE (nodes_5) (edges_5) (tail_5) (head_5)) (fe_0_0_1 : nodes_0 = x17) (fe_0_1_1 : edges_0 = edges_1) (fe_0_0_2 : nodes_1 = nodes_2) (fe_0_1_2 : edges_1 = edges_2) (fe_0_0_3 : nodes_2 = nodes_3) (fe_0_1_3 : edges_2 = edges_3) (fe_0_0_4 : nodes_3 = nodes_4) (fe_0_1_4 : edges_3 = edges_4) (fe_0_0_5 : nodes_4 = nodes_5) (fe_0_1_5 : edges_4 = edges_5) (hE_0_4_1 : ∀ j : Int, nameLength_0 j = nameLength_1 j) (hE_0_4_2 : ∀ j : Int, nameLength_1 j = nameLength_2 j) (hE_0_4_3 : ∀ j : Int, nameLength_2 j = nameLength_3 j) (hE_0_4_4 : ∀ j : Int, nameLength_3 j = nameLength_4 j) (hE_0_4_5 : ∀ j : Int, 0 ≤ j → (j = x5 → nameLength_4 j = x3) ∧ (j ≠ x5 → nameLength_4 j = nameLength_5 j)) (hK_0_4 : ∀ j : Int, 0 ≤ j → j < 24 → 0 ≤ nameLength_0 j ∧ nameLength_0 j ≤ 8) (hE_0_5_1 : ∀ j : Int, size_0 j = size_1 j) (hE_0_5_2 : ∀ j : Int, size_1 j = size_2 j) (hE_0_5_3 : ∀ j : Int, size_2 j = size_3 j) (hE_0_5_4 : ∀ j : Int, 0 ≤ j → (j = x5 → size_3 j = x12) ∧ (j ≠ x5 → size_3 j = size_4 j)) (hE_0_5_5 : ∀ j : Int, size_4 j = size_5 j) (hK_0_5 : ∀ j : Int, 0 ≤ j → j < 24 → 0 ≤ size_0 j ∧ size_0 j ≤ 99) (hE_0_6_1 : ∀ j : Int, groupOf_0 j = groupOf_1 j) (hE_0_6_2 : ∀ j : Int, groupOf_1 j = groupOf_2 j) (hE_0_6_3 : ∀ j : Int, 0 ≤ j → (j = x5 → groupOf_2 j = x4) ∧ (j ≠ x5 → groupOf_2 j = groupOf_3 j)) (hE_0_6_4 : ∀ j : Int, groupOf_3 j = groupOf_4 j) (hE_0_6_5 : ∀ j : Int, groupOf_4 j = groupOf_5 j) (hK_0_6 : ∀ j : Int, 0 ≤ j → j < 24 → 0 ≤ groupOf_0 j ∧ groupOf_0 j ≤ 7) (hE_0_7_1 : ∀ j : Int, tail_0 j = tail_1 j) (hE_0_7_2 : ∀ j : Int, tail_1 j = tail_2 j) (hE_0_7_3 : ∀ j : Int, tail_2 j = tail_3 j) (hE_0_7_4 : ∀ j : Int, tail_3 j = tail_4 j) (hE_0_7_5 : ∀ j : Int, tail_4 j = tail_5 j) (hK_0_7 : ∀ j : Int, 0 ≤ j → j < 48 → 0 ≤ tail_0 j ∧ tail_0 j ≤ 23) (hE_0_8_1 : ∀ j : Int, head_0 j = head_1 j) (hE_0_8_2 : ∀ j : Int, head_1 j = head_2 j) (hE_0_8_3 : ∀ j : Int, head_2 j = head_3 j) (hE_0_8_4 : ∀ j : Int, head_3 j = head_4 j) (hE_0_8_5 : ∀ j : Int, head_4 j = head_5 j) (hK_0_8 : ∀ j : Int, 0 ≤ j → j < 48 → 0 ≤ head_0 j ∧ head_0 j ≤ 23) (hE_0_14_1 : ∀ j : Int, near_0 j = near_1 j) (hE_0_14_2 : ∀ j : Int, 0 ≤ j → (j = x5 → near_1 j = x15) ∧ (j ≠ x5 → near_1 j = near_2 j)) (hE_0_14_3 : ∀ j : Int, near_2 j = near_3 j) (hE_0_14_4 : ∀ j : Int, near_3 j = near_4 j) (hE_0_14_5 : ∀ j : Int, near_4 j = near_5 j) (hK_0_14 : ∀ j : Int, 0 ≤ j → j < 24 → 0 ≤ near_0 j ∧ near_0 j ≤ 16777215) (kz_0_0 : 0 ≤ nodes_0 ∧ nodes_0 ≤ 24) (kz_0_1 : 0 ≤ edges_0 ∧ edges_0 ≤ 48) : GNB (nodes_0) (edges_0) (near_0) (tail_0) (head_0) := by
  subst fe_0_1_1
  subst fe_0_0_2
  subst fe_0_1_2
  subst fe_0_0_3
  subst fe_0_1_3
  subst fe_0_0_4
  subst fe_0_1_4
  subst fe_0_0_5
  subst fe_0_1_5
  have e_hE_0_4_1 := funext hE_0_4_1; subst e_hE_0_4_1
  have e_hE_0_4_2 := funext hE_0_4_2; subst e_hE_0_4_2
  have e_hE_0_4_3 := funext hE_0_4_3; subst e_hE_0_4_3
  have e_hE_0_4_4 := funext hE_0_4_4; subst e_hE_0_4_4
  have e_hE_0_5_1 := funext hE_0_5_1; subst e_hE_0_5_1
  have e_hE_0_5_2 := funext hE_0_5_2; subst e_hE_0_5_2
  have e_hE_0_5_3 := funext hE_0_5_3; subst e_hE_0_5_3
  have e_hE_0_5_5 := funext hE_0_5_5; subst e_hE_0_5_5
  have e_hE_0_6_1 := funext hE_0_6_1; subst e_hE_0_6_1
  have e_hE_0_6_2 := funext hE_0_6_2; subst e_hE_0_6_2
  have e_hE_0_6_4 := funext hE_0_6_4; subst e_hE_0_6_4
  have e_hE_0_6_5 := funext hE_0_6_5; subst e_hE_0_6_5
  have e_hE_0_7_1 := funext hE_0_7_1; subst e_hE_0_7_1
  have e_hE_0_7_2 := funext hE_0_7_2; subst e_hE_0_7_2
  have e_hE_0_7_3 := funext hE_0_7_3; subst e_hE_0_7_3
  have e_hE_0_7_4 := funext hE_0_7_4; subst e_hE_0_7_4
  have e_hE_0_7_5 := funext hE_0_7_5; subst e_hE_0_7_5
  have e_hE_0_8_1 := funext hE_0_8_1; subst e_hE_0_8_1
  have e_hE_0_8_2 := funext hE_0_8_2; subst e_hE_0_8_2
  have e_hE_0_8_3 := funext hE_0_8_3; subst e_hE_0_8_3
  have e_hE_0_8_4 := funext hE_0_8_4; subst e_hE_0_8_4
  have e_hE_0_8_5 := funext hE_0_8_5; subst e_hE_0_8_5
  have e_hE_0_14_1 := funext hE_0_14_1; subst e_hE_0_14_1
  have e_hE_0_14_3 := funext hE_0_14_3; subst e_hE_0_14_3
  have e_hE_0_14_4 := funext hE_0_14_4; subst e_hE_0_14_4
  have e_hE_0_14_5 := funext hE_0_14_5; subst e_hE_0_14_5
  first
    | assumption
    | exact gnb_node2 ‹GNB _ _ _ _ _› ‹GKE _ _ _ _› (by omega) (by omega) hE_0_14_2 (by omega) (by omega) (by omega)
  
set_option maxHeartbeats 4000000 in
theorem vc_Gr_addNode_at_Gq_Retape_1_1 (x5 : Int) (x6 : Int) (x15 : Int) (x16 : Int) (x17 : Int) (nodes_0 : Int) (nodes_1 : Int) (tail_1 : Int → Int) (head_1 : Int → Int) (edges_1 : Int) (nodes_2 : Int) (near_2 : Int → Int) (tail_2 : Int → Int) (head_2 : Int → Int) (edges_2 : Int) (nodes_3 : Int) (near_3 : Int → Int) (tail_3 : Int → Int) (head_3 : Int → Int) (edges_3 : Int) (nodes_4 : Int) (near_4 : Int → Int) (tail_4 : Int → Int) (head_4 : Int → Int) (edges_4 : Int) (nodes_5 : Int) (near_5 : Int → Int) (tail_5 : Int → Int) (head_5 : Int → Int) (edges_5 : Int) (edges_0 : Int) (nameLength_0 : Int → Int) (nameLength_1 : Int → Int) (nameLength_2 : Int → Int) (nameLength_3 : Int → Int) (nameLength_4 : Int → Int) (nameLength_5 : Int → Int) (x3 : Int) (size_0 : Int → Int) (size_1 : Int → Int) (size_2 : Int → Int) (size_3 : Int → Int) (size_4 : Int → Int) (x12 : Int) (size_5 : Int → Int) (groupOf_0 : Int → Int) (groupOf_1 : Int → Int) (groupOf_2 : Int → Int) (groupOf_3 : Int → Int) (x4 : Int) (groupOf_4 : Int → Int) (groupOf_5 : Int → Int) (tail_0 : Int → Int) (head_0 : Int → Int) (near_0 : Int → Int) (near_1 : Int → Int) (k5 : 0 ≤ x5 ∧ x5 ≤ 23) (k6 : 0 ≤ x6 ∧ x6 ≤ 24) (k15 : 0 ≤ x15 ∧ x15 ≤ 0) (k16 : 1 ≤ x16 ∧ x16 ≤ 1) (k17 : 1 ≤ x17 ∧ x17 ≤ 24) (d0 : x5 + 1 ≤ x17 ∧ x17 ≤ x5 + 1) (g0 : x17 = nodes_0) (f6 : x17 = x5 + x16) (g7 : x5 = nodes_1) (f8 : nodes_1 = x6) (f9 : nodes_1 ≤ 23) (f10 : GKE (nodes_1) (edges_1) (tail_1) (head_1)) (f12 : nodes_2 = x6) (f13 : nodes_2 ≤ 23) (f14 : GNB (nodes_2) (edges_2) (near_2) (tail_2) (head_2)) (f15 : GKE (nodes_2) (edges_2) (tail_2) (head_2)) (f17 : nodes_3 = x6) (f18 : nodes_3 ≤ 23) (f19 : GNB (nodes_3) (edges_3) (near_3) (tail_3) (head_3)) (f20 : GKE (nodes_3) (edges_3) (tail_3) (head_3)) (f22 : nodes_4 = x6) (f23 : nodes_4 ≤ 23) (f24 : GNB (nodes_4) (edges_4) (near_4) (tail_4) (head_4)) (f25 : GKE (nodes_4) (edges_4) (tail_4) (head_4)) (f27 : nodes_5 = x6) (f28 : nodes_5 ≤ 23) (f29 : GNB (nodes_5) (edges_5) (near_5) (tail_5) (head_5)) (f30 : GKE (nodes_5) (edges_5) (tail_5) (head_5)) (fe_0_0_1 : nodes_0 = x17) (fe_0_1_1 : edges_0 = edges_1) (fe_0_0_2 : nodes_1 = nodes_2) (fe_0_1_2 : edges_1 = edges_2) (fe_0_0_3 : nodes_2 = nodes_3) (fe_0_1_3 : edges_2 = edges_3) (fe_0_0_4 : nodes_3 = nodes_4) (fe_0_1_4 : edges_3 = edges_4) (fe_0_0_5 : nodes_4 = nodes_5) (fe_0_1_5 : edges_4 = edges_5) (hE_0_4_1 : ∀ j : Int, nameLength_0 j = nameLength_1 j) (hE_0_4_2 : ∀ j : Int, nameLength_1 j = nameLength_2 j) (hE_0_4_3 : ∀ j : Int, nameLength_2 j = nameLength_3 j) (hE_0_4_4 : ∀ j : Int, nameLength_3 j = nameLength_4 j) (hE_0_4_5 : ∀ j : Int, 0 ≤ j → (j = x5 → nameLength_4 j = x3) ∧ (j ≠ x5 → nameLength_4 j = nameLength_5 j)) (hK_0_4 : ∀ j : Int, 0 ≤ j → j < 24 → 0 ≤ nameLength_0 j ∧ nameLength_0 j ≤ 8) (hE_0_5_1 : ∀ j : Int, size_0 j = size_1 j) (hE_0_5_2 : ∀ j : Int, size_1 j = size_2 j) (hE_0_5_3 : ∀ j : Int, size_2 j = size_3 j) (hE_0_5_4 : ∀ j : Int, 0 ≤ j → (j = x5 → size_3 j = x12) ∧ (j ≠ x5 → size_3 j = size_4 j)) (hE_0_5_5 : ∀ j : Int, size_4 j = size_5 j) (hK_0_5 : ∀ j : Int, 0 ≤ j → j < 24 → 0 ≤ size_0 j ∧ size_0 j ≤ 99) (hE_0_6_1 : ∀ j : Int, groupOf_0 j = groupOf_1 j) (hE_0_6_2 : ∀ j : Int, groupOf_1 j = groupOf_2 j) (hE_0_6_3 : ∀ j : Int, 0 ≤ j → (j = x5 → groupOf_2 j = x4) ∧ (j ≠ x5 → groupOf_2 j = groupOf_3 j)) (hE_0_6_4 : ∀ j : Int, groupOf_3 j = groupOf_4 j) (hE_0_6_5 : ∀ j : Int, groupOf_4 j = groupOf_5 j) (hK_0_6 : ∀ j : Int, 0 ≤ j → j < 24 → 0 ≤ groupOf_0 j ∧ groupOf_0 j ≤ 7) (hE_0_7_1 : ∀ j : Int, tail_0 j = tail_1 j) (hE_0_7_2 : ∀ j : Int, tail_1 j = tail_2 j) (hE_0_7_3 : ∀ j : Int, tail_2 j = tail_3 j) (hE_0_7_4 : ∀ j : Int, tail_3 j = tail_4 j) (hE_0_7_5 : ∀ j : Int, tail_4 j = tail_5 j) (hK_0_7 : ∀ j : Int, 0 ≤ j → j < 48 → 0 ≤ tail_0 j ∧ tail_0 j ≤ 23) (hE_0_8_1 : ∀ j : Int, head_0 j = head_1 j) (hE_0_8_2 : ∀ j : Int, head_1 j = head_2 j) (hE_0_8_3 : ∀ j : Int, head_2 j = head_3 j) (hE_0_8_4 : ∀ j : Int, head_3 j = head_4 j) (hE_0_8_5 : ∀ j : Int, head_4 j = head_5 j) (hK_0_8 : ∀ j : Int, 0 ≤ j → j < 48 → 0 ≤ head_0 j ∧ head_0 j ≤ 23) (hE_0_14_1 : ∀ j : Int, near_0 j = near_1 j) (hE_0_14_2 : ∀ j : Int, 0 ≤ j → (j = x5 → near_1 j = x15) ∧ (j ≠ x5 → near_1 j = near_2 j)) (hE_0_14_3 : ∀ j : Int, near_2 j = near_3 j) (hE_0_14_4 : ∀ j : Int, near_3 j = near_4 j) (hE_0_14_5 : ∀ j : Int, near_4 j = near_5 j) (hK_0_14 : ∀ j : Int, 0 ≤ j → j < 24 → 0 ≤ near_0 j ∧ near_0 j ≤ 16777215) (kz_0_0 : 0 ≤ nodes_0 ∧ nodes_0 ≤ 24) (kz_0_1 : 0 ≤ edges_0 ∧ edges_0 ≤ 48) : GKE (nodes_0) (edges_0) (tail_0) (head_0) := by
  subst fe_0_1_1
  subst fe_0_0_2
  subst fe_0_1_2
  subst fe_0_0_3
  subst fe_0_1_3
  subst fe_0_0_4
  subst fe_0_1_4
  subst fe_0_0_5
  subst fe_0_1_5
  have e_hE_0_4_1 := funext hE_0_4_1; subst e_hE_0_4_1
  have e_hE_0_4_2 := funext hE_0_4_2; subst e_hE_0_4_2
  have e_hE_0_4_3 := funext hE_0_4_3; subst e_hE_0_4_3
  have e_hE_0_4_4 := funext hE_0_4_4; subst e_hE_0_4_4
  have e_hE_0_5_1 := funext hE_0_5_1; subst e_hE_0_5_1
  have e_hE_0_5_2 := funext hE_0_5_2; subst e_hE_0_5_2
  have e_hE_0_5_3 := funext hE_0_5_3; subst e_hE_0_5_3
  have e_hE_0_5_5 := funext hE_0_5_5; subst e_hE_0_5_5
  have e_hE_0_6_1 := funext hE_0_6_1; subst e_hE_0_6_1
  have e_hE_0_6_2 := funext hE_0_6_2; subst e_hE_0_6_2
  have e_hE_0_6_4 := funext hE_0_6_4; subst e_hE_0_6_4
  have e_hE_0_6_5 := funext hE_0_6_5; subst e_hE_0_6_5
  have e_hE_0_7_1 := funext hE_0_7_1; subst e_hE_0_7_1
  have e_hE_0_7_2 := funext hE_0_7_2; subst e_hE_0_7_2
  have e_hE_0_7_3 := funext hE_0_7_3; subst e_hE_0_7_3
  have e_hE_0_7_4 := funext hE_0_7_4; subst e_hE_0_7_4
  have e_hE_0_7_5 := funext hE_0_7_5; subst e_hE_0_7_5
  have e_hE_0_8_1 := funext hE_0_8_1; subst e_hE_0_8_1
  have e_hE_0_8_2 := funext hE_0_8_2; subst e_hE_0_8_2
  have e_hE_0_8_3 := funext hE_0_8_3; subst e_hE_0_8_3
  have e_hE_0_8_4 := funext hE_0_8_4; subst e_hE_0_8_4
  have e_hE_0_8_5 := funext hE_0_8_5; subst e_hE_0_8_5
  have e_hE_0_14_1 := funext hE_0_14_1; subst e_hE_0_14_1
  have e_hE_0_14_3 := funext hE_0_14_3; subst e_hE_0_14_3
  have e_hE_0_14_4 := funext hE_0_14_4; subst e_hE_0_14_4
  have e_hE_0_14_5 := funext hE_0_14_5; subst e_hE_0_14_5
  first
    | assumption
    | exact gke_node ‹GKE _ _ _ _› (by omega)
    | (rw [show nodes_0 = x17 by omega]; exact gke_node ‹GKE _ _ _ _› (by omega))
  
set_option maxHeartbeats 4000000 in
theorem vc_Gr_addNode_at_Gq_Retape_1_2 (x5 : Int) (x6 : Int) (x15 : Int) (x16 : Int) (x17 : Int) (nodes_0 : Int) (nodes_1 : Int) (tail_1 : Int → Int) (head_1 : Int → Int) (edges_1 : Int) (nodes_2 : Int) (near_2 : Int → Int) (tail_2 : Int → Int) (head_2 : Int → Int) (edges_2 : Int) (nodes_3 : Int) (near_3 : Int → Int) (tail_3 : Int → Int) (head_3 : Int → Int) (edges_3 : Int) (nodes_4 : Int) (near_4 : Int → Int) (tail_4 : Int → Int) (head_4 : Int → Int) (edges_4 : Int) (nodes_5 : Int) (near_5 : Int → Int) (tail_5 : Int → Int) (head_5 : Int → Int) (edges_5 : Int) (edges_0 : Int) (nameLength_0 : Int → Int) (nameLength_1 : Int → Int) (nameLength_2 : Int → Int) (nameLength_3 : Int → Int) (nameLength_4 : Int → Int) (nameLength_5 : Int → Int) (x3 : Int) (size_0 : Int → Int) (size_1 : Int → Int) (size_2 : Int → Int) (size_3 : Int → Int) (size_4 : Int → Int) (x12 : Int) (size_5 : Int → Int) (groupOf_0 : Int → Int) (groupOf_1 : Int → Int) (groupOf_2 : Int → Int) (groupOf_3 : Int → Int) (x4 : Int) (groupOf_4 : Int → Int) (groupOf_5 : Int → Int) (tail_0 : Int → Int) (head_0 : Int → Int) (near_0 : Int → Int) (near_1 : Int → Int) (k5 : 0 ≤ x5 ∧ x5 ≤ 23) (k6 : 0 ≤ x6 ∧ x6 ≤ 24) (k15 : 0 ≤ x15 ∧ x15 ≤ 0) (k16 : 1 ≤ x16 ∧ x16 ≤ 1) (k17 : 1 ≤ x17 ∧ x17 ≤ 24) (d0 : x5 + 1 ≤ x17 ∧ x17 ≤ x5 + 1) (g0 : x17 = nodes_0) (f6 : x17 = x5 + x16) (g7 : x5 = nodes_1) (f8 : nodes_1 = x6) (f9 : nodes_1 ≤ 23) (f10 : GKE (nodes_1) (edges_1) (tail_1) (head_1)) (f12 : nodes_2 = x6) (f13 : nodes_2 ≤ 23) (f14 : GNB (nodes_2) (edges_2) (near_2) (tail_2) (head_2)) (f15 : GKE (nodes_2) (edges_2) (tail_2) (head_2)) (f17 : nodes_3 = x6) (f18 : nodes_3 ≤ 23) (f19 : GNB (nodes_3) (edges_3) (near_3) (tail_3) (head_3)) (f20 : GKE (nodes_3) (edges_3) (tail_3) (head_3)) (f22 : nodes_4 = x6) (f23 : nodes_4 ≤ 23) (f24 : GNB (nodes_4) (edges_4) (near_4) (tail_4) (head_4)) (f25 : GKE (nodes_4) (edges_4) (tail_4) (head_4)) (f27 : nodes_5 = x6) (f28 : nodes_5 ≤ 23) (f29 : GNB (nodes_5) (edges_5) (near_5) (tail_5) (head_5)) (f30 : GKE (nodes_5) (edges_5) (tail_5) (head_5)) (fe_0_0_1 : nodes_0 = x17) (fe_0_1_1 : edges_0 = edges_1) (fe_0_0_2 : nodes_1 = nodes_2) (fe_0_1_2 : edges_1 = edges_2) (fe_0_0_3 : nodes_2 = nodes_3) (fe_0_1_3 : edges_2 = edges_3) (fe_0_0_4 : nodes_3 = nodes_4) (fe_0_1_4 : edges_3 = edges_4) (fe_0_0_5 : nodes_4 = nodes_5) (fe_0_1_5 : edges_4 = edges_5) (hE_0_4_1 : ∀ j : Int, nameLength_0 j = nameLength_1 j) (hE_0_4_2 : ∀ j : Int, nameLength_1 j = nameLength_2 j) (hE_0_4_3 : ∀ j : Int, nameLength_2 j = nameLength_3 j) (hE_0_4_4 : ∀ j : Int, nameLength_3 j = nameLength_4 j) (hE_0_4_5 : ∀ j : Int, 0 ≤ j → (j = x5 → nameLength_4 j = x3) ∧ (j ≠ x5 → nameLength_4 j = nameLength_5 j)) (hK_0_4 : ∀ j : Int, 0 ≤ j → j < 24 → 0 ≤ nameLength_0 j ∧ nameLength_0 j ≤ 8) (hE_0_5_1 : ∀ j : Int, size_0 j = size_1 j) (hE_0_5_2 : ∀ j : Int, size_1 j = size_2 j) (hE_0_5_3 : ∀ j : Int, size_2 j = size_3 j) (hE_0_5_4 : ∀ j : Int, 0 ≤ j → (j = x5 → size_3 j = x12) ∧ (j ≠ x5 → size_3 j = size_4 j)) (hE_0_5_5 : ∀ j : Int, size_4 j = size_5 j) (hK_0_5 : ∀ j : Int, 0 ≤ j → j < 24 → 0 ≤ size_0 j ∧ size_0 j ≤ 99) (hE_0_6_1 : ∀ j : Int, groupOf_0 j = groupOf_1 j) (hE_0_6_2 : ∀ j : Int, groupOf_1 j = groupOf_2 j) (hE_0_6_3 : ∀ j : Int, 0 ≤ j → (j = x5 → groupOf_2 j = x4) ∧ (j ≠ x5 → groupOf_2 j = groupOf_3 j)) (hE_0_6_4 : ∀ j : Int, groupOf_3 j = groupOf_4 j) (hE_0_6_5 : ∀ j : Int, groupOf_4 j = groupOf_5 j) (hK_0_6 : ∀ j : Int, 0 ≤ j → j < 24 → 0 ≤ groupOf_0 j ∧ groupOf_0 j ≤ 7) (hE_0_7_1 : ∀ j : Int, tail_0 j = tail_1 j) (hE_0_7_2 : ∀ j : Int, tail_1 j = tail_2 j) (hE_0_7_3 : ∀ j : Int, tail_2 j = tail_3 j) (hE_0_7_4 : ∀ j : Int, tail_3 j = tail_4 j) (hE_0_7_5 : ∀ j : Int, tail_4 j = tail_5 j) (hK_0_7 : ∀ j : Int, 0 ≤ j → j < 48 → 0 ≤ tail_0 j ∧ tail_0 j ≤ 23) (hE_0_8_1 : ∀ j : Int, head_0 j = head_1 j) (hE_0_8_2 : ∀ j : Int, head_1 j = head_2 j) (hE_0_8_3 : ∀ j : Int, head_2 j = head_3 j) (hE_0_8_4 : ∀ j : Int, head_3 j = head_4 j) (hE_0_8_5 : ∀ j : Int, head_4 j = head_5 j) (hK_0_8 : ∀ j : Int, 0 ≤ j → j < 48 → 0 ≤ head_0 j ∧ head_0 j ≤ 23) (hE_0_14_1 : ∀ j : Int, near_0 j = near_1 j) (hE_0_14_2 : ∀ j : Int, 0 ≤ j → (j = x5 → near_1 j = x15) ∧ (j ≠ x5 → near_1 j = near_2 j)) (hE_0_14_3 : ∀ j : Int, near_2 j = near_3 j) (hE_0_14_4 : ∀ j : Int, near_3 j = near_4 j) (hE_0_14_5 : ∀ j : Int, near_4 j = near_5 j) (hK_0_14 : ∀ j : Int, 0 ≤ j → j < 24 → 0 ≤ near_0 j ∧ near_0 j ≤ 16777215) (kz_0_0 : 0 ≤ nodes_0 ∧ nodes_0 ≤ 24) (kz_0_1 : 0 ≤ edges_0 ∧ edges_0 ≤ 48) : nodes_0 = (x6 + 1) := by
  subst fe_0_1_1
  subst fe_0_0_2
  subst fe_0_1_2
  subst fe_0_0_3
  subst fe_0_1_3
  subst fe_0_0_4
  subst fe_0_1_4
  subst fe_0_0_5
  subst fe_0_1_5
  have e_hE_0_4_1 := funext hE_0_4_1; subst e_hE_0_4_1
  have e_hE_0_4_2 := funext hE_0_4_2; subst e_hE_0_4_2
  have e_hE_0_4_3 := funext hE_0_4_3; subst e_hE_0_4_3
  have e_hE_0_4_4 := funext hE_0_4_4; subst e_hE_0_4_4
  have e_hE_0_5_1 := funext hE_0_5_1; subst e_hE_0_5_1
  have e_hE_0_5_2 := funext hE_0_5_2; subst e_hE_0_5_2
  have e_hE_0_5_3 := funext hE_0_5_3; subst e_hE_0_5_3
  have e_hE_0_5_5 := funext hE_0_5_5; subst e_hE_0_5_5
  have e_hE_0_6_1 := funext hE_0_6_1; subst e_hE_0_6_1
  have e_hE_0_6_2 := funext hE_0_6_2; subst e_hE_0_6_2
  have e_hE_0_6_4 := funext hE_0_6_4; subst e_hE_0_6_4
  have e_hE_0_6_5 := funext hE_0_6_5; subst e_hE_0_6_5
  have e_hE_0_7_1 := funext hE_0_7_1; subst e_hE_0_7_1
  have e_hE_0_7_2 := funext hE_0_7_2; subst e_hE_0_7_2
  have e_hE_0_7_3 := funext hE_0_7_3; subst e_hE_0_7_3
  have e_hE_0_7_4 := funext hE_0_7_4; subst e_hE_0_7_4
  have e_hE_0_7_5 := funext hE_0_7_5; subst e_hE_0_7_5
  have e_hE_0_8_1 := funext hE_0_8_1; subst e_hE_0_8_1
  have e_hE_0_8_2 := funext hE_0_8_2; subst e_hE_0_8_2
  have e_hE_0_8_3 := funext hE_0_8_3; subst e_hE_0_8_3
  have e_hE_0_8_4 := funext hE_0_8_4; subst e_hE_0_8_4
  have e_hE_0_8_5 := funext hE_0_8_5; subst e_hE_0_8_5
  have e_hE_0_14_1 := funext hE_0_14_1; subst e_hE_0_14_1
  have e_hE_0_14_3 := funext hE_0_14_3; subst e_hE_0_14_3
  have e_hE_0_14_4 := funext hE_0_14_4; subst e_hE_0_14_4
  have e_hE_0_14_5 := funext hE_0_14_5; subst e_hE_0_14_5
  first
    | omega
  
set_option maxHeartbeats 4000000 in
theorem vc_Gr_addNode_at_Gq_Retape_1_3 (x5 : Int) (x6 : Int) (x15 : Int) (x16 : Int) (x17 : Int) (nodes_0 : Int) (nodes_1 : Int) (tail_1 : Int → Int) (head_1 : Int → Int) (edges_1 : Int) (nodes_2 : Int) (near_2 : Int → Int) (tail_2 : Int → Int) (head_2 : Int → Int) (edges_2 : Int) (nodes_3 : Int) (near_3 : Int → Int) (tail_3 : Int → Int) (head_3 : Int → Int) (edges_3 : Int) (nodes_4 : Int) (near_4 : Int → Int) (tail_4 : Int → Int) (head_4 : Int → Int) (edges_4 : Int) (nodes_5 : Int) (near_5 : Int → Int) (tail_5 : Int → Int) (head_5 : Int → Int) (edges_5 : Int) (edges_0 : Int) (nameLength_0 : Int → Int) (nameLength_1 : Int → Int) (nameLength_2 : Int → Int) (nameLength_3 : Int → Int) (nameLength_4 : Int → Int) (nameLength_5 : Int → Int) (x3 : Int) (size_0 : Int → Int) (size_1 : Int → Int) (size_2 : Int → Int) (size_3 : Int → Int) (size_4 : Int → Int) (x12 : Int) (size_5 : Int → Int) (groupOf_0 : Int → Int) (groupOf_1 : Int → Int) (groupOf_2 : Int → Int) (groupOf_3 : Int → Int) (x4 : Int) (groupOf_4 : Int → Int) (groupOf_5 : Int → Int) (tail_0 : Int → Int) (head_0 : Int → Int) (near_0 : Int → Int) (near_1 : Int → Int) (k5 : 0 ≤ x5 ∧ x5 ≤ 23) (k6 : 0 ≤ x6 ∧ x6 ≤ 24) (k15 : 0 ≤ x15 ∧ x15 ≤ 0) (k16 : 1 ≤ x16 ∧ x16 ≤ 1) (k17 : 1 ≤ x17 ∧ x17 ≤ 24) (d0 : x5 + 1 ≤ x17 ∧ x17 ≤ x5 + 1) (g0 : x17 = nodes_0) (f6 : x17 = x5 + x16) (g7 : x5 = nodes_1) (f8 : nodes_1 = x6) (f9 : nodes_1 ≤ 23) (f10 : GKE (nodes_1) (edges_1) (tail_1) (head_1)) (f12 : nodes_2 = x6) (f13 : nodes_2 ≤ 23) (f14 : GNB (nodes_2) (edges_2) (near_2) (tail_2) (head_2)) (f15 : GKE (nodes_2) (edges_2) (tail_2) (head_2)) (f17 : nodes_3 = x6) (f18 : nodes_3 ≤ 23) (f19 : GNB (nodes_3) (edges_3) (near_3) (tail_3) (head_3)) (f20 : GKE (nodes_3) (edges_3) (tail_3) (head_3)) (f22 : nodes_4 = x6) (f23 : nodes_4 ≤ 23) (f24 : GNB (nodes_4) (edges_4) (near_4) (tail_4) (head_4)) (f25 : GKE (nodes_4) (edges_4) (tail_4) (head_4)) (f27 : nodes_5 = x6) (f28 : nodes_5 ≤ 23) (f29 : GNB (nodes_5) (edges_5) (near_5) (tail_5) (head_5)) (f30 : GKE (nodes_5) (edges_5) (tail_5) (head_5)) (fe_0_0_1 : nodes_0 = x17) (fe_0_1_1 : edges_0 = edges_1) (fe_0_0_2 : nodes_1 = nodes_2) (fe_0_1_2 : edges_1 = edges_2) (fe_0_0_3 : nodes_2 = nodes_3) (fe_0_1_3 : edges_2 = edges_3) (fe_0_0_4 : nodes_3 = nodes_4) (fe_0_1_4 : edges_3 = edges_4) (fe_0_0_5 : nodes_4 = nodes_5) (fe_0_1_5 : edges_4 = edges_5) (hE_0_4_1 : ∀ j : Int, nameLength_0 j = nameLength_1 j) (hE_0_4_2 : ∀ j : Int, nameLength_1 j = nameLength_2 j) (hE_0_4_3 : ∀ j : Int, nameLength_2 j = nameLength_3 j) (hE_0_4_4 : ∀ j : Int, nameLength_3 j = nameLength_4 j) (hE_0_4_5 : ∀ j : Int, 0 ≤ j → (j = x5 → nameLength_4 j = x3) ∧ (j ≠ x5 → nameLength_4 j = nameLength_5 j)) (hK_0_4 : ∀ j : Int, 0 ≤ j → j < 24 → 0 ≤ nameLength_0 j ∧ nameLength_0 j ≤ 8) (hE_0_5_1 : ∀ j : Int, size_0 j = size_1 j) (hE_0_5_2 : ∀ j : Int, size_1 j = size_2 j) (hE_0_5_3 : ∀ j : Int, size_2 j = size_3 j) (hE_0_5_4 : ∀ j : Int, 0 ≤ j → (j = x5 → size_3 j = x12) ∧ (j ≠ x5 → size_3 j = size_4 j)) (hE_0_5_5 : ∀ j : Int, size_4 j = size_5 j) (hK_0_5 : ∀ j : Int, 0 ≤ j → j < 24 → 0 ≤ size_0 j ∧ size_0 j ≤ 99) (hE_0_6_1 : ∀ j : Int, groupOf_0 j = groupOf_1 j) (hE_0_6_2 : ∀ j : Int, groupOf_1 j = groupOf_2 j) (hE_0_6_3 : ∀ j : Int, 0 ≤ j → (j = x5 → groupOf_2 j = x4) ∧ (j ≠ x5 → groupOf_2 j = groupOf_3 j)) (hE_0_6_4 : ∀ j : Int, groupOf_3 j = groupOf_4 j) (hE_0_6_5 : ∀ j : Int, groupOf_4 j = groupOf_5 j) (hK_0_6 : ∀ j : Int, 0 ≤ j → j < 24 → 0 ≤ groupOf_0 j ∧ groupOf_0 j ≤ 7) (hE_0_7_1 : ∀ j : Int, tail_0 j = tail_1 j) (hE_0_7_2 : ∀ j : Int, tail_1 j = tail_2 j) (hE_0_7_3 : ∀ j : Int, tail_2 j = tail_3 j) (hE_0_7_4 : ∀ j : Int, tail_3 j = tail_4 j) (hE_0_7_5 : ∀ j : Int, tail_4 j = tail_5 j) (hK_0_7 : ∀ j : Int, 0 ≤ j → j < 48 → 0 ≤ tail_0 j ∧ tail_0 j ≤ 23) (hE_0_8_1 : ∀ j : Int, head_0 j = head_1 j) (hE_0_8_2 : ∀ j : Int, head_1 j = head_2 j) (hE_0_8_3 : ∀ j : Int, head_2 j = head_3 j) (hE_0_8_4 : ∀ j : Int, head_3 j = head_4 j) (hE_0_8_5 : ∀ j : Int, head_4 j = head_5 j) (hK_0_8 : ∀ j : Int, 0 ≤ j → j < 48 → 0 ≤ head_0 j ∧ head_0 j ≤ 23) (hE_0_14_1 : ∀ j : Int, near_0 j = near_1 j) (hE_0_14_2 : ∀ j : Int, 0 ≤ j → (j = x5 → near_1 j = x15) ∧ (j ≠ x5 → near_1 j = near_2 j)) (hE_0_14_3 : ∀ j : Int, near_2 j = near_3 j) (hE_0_14_4 : ∀ j : Int, near_3 j = near_4 j) (hE_0_14_5 : ∀ j : Int, near_4 j = near_5 j) (hK_0_14 : ∀ j : Int, 0 ≤ j → j < 24 → 0 ≤ near_0 j ∧ near_0 j ≤ 16777215) (kz_0_0 : 0 ≤ nodes_0 ∧ nodes_0 ≤ 24) (kz_0_1 : 0 ≤ edges_0 ∧ edges_0 ≤ 48) : x5 = x6 := by
  subst fe_0_1_1
  subst fe_0_0_2
  subst fe_0_1_2
  subst fe_0_0_3
  subst fe_0_1_3
  subst fe_0_0_4
  subst fe_0_1_4
  subst fe_0_0_5
  subst fe_0_1_5
  have e_hE_0_4_1 := funext hE_0_4_1; subst e_hE_0_4_1
  have e_hE_0_4_2 := funext hE_0_4_2; subst e_hE_0_4_2
  have e_hE_0_4_3 := funext hE_0_4_3; subst e_hE_0_4_3
  have e_hE_0_4_4 := funext hE_0_4_4; subst e_hE_0_4_4
  have e_hE_0_5_1 := funext hE_0_5_1; subst e_hE_0_5_1
  have e_hE_0_5_2 := funext hE_0_5_2; subst e_hE_0_5_2
  have e_hE_0_5_3 := funext hE_0_5_3; subst e_hE_0_5_3
  have e_hE_0_5_5 := funext hE_0_5_5; subst e_hE_0_5_5
  have e_hE_0_6_1 := funext hE_0_6_1; subst e_hE_0_6_1
  have e_hE_0_6_2 := funext hE_0_6_2; subst e_hE_0_6_2
  have e_hE_0_6_4 := funext hE_0_6_4; subst e_hE_0_6_4
  have e_hE_0_6_5 := funext hE_0_6_5; subst e_hE_0_6_5
  have e_hE_0_7_1 := funext hE_0_7_1; subst e_hE_0_7_1
  have e_hE_0_7_2 := funext hE_0_7_2; subst e_hE_0_7_2
  have e_hE_0_7_3 := funext hE_0_7_3; subst e_hE_0_7_3
  have e_hE_0_7_4 := funext hE_0_7_4; subst e_hE_0_7_4
  have e_hE_0_7_5 := funext hE_0_7_5; subst e_hE_0_7_5
  have e_hE_0_8_1 := funext hE_0_8_1; subst e_hE_0_8_1
  have e_hE_0_8_2 := funext hE_0_8_2; subst e_hE_0_8_2
  have e_hE_0_8_3 := funext hE_0_8_3; subst e_hE_0_8_3
  have e_hE_0_8_4 := funext hE_0_8_4; subst e_hE_0_8_4
  have e_hE_0_8_5 := funext hE_0_8_5; subst e_hE_0_8_5
  have e_hE_0_14_1 := funext hE_0_14_1; subst e_hE_0_14_1
  have e_hE_0_14_3 := funext hE_0_14_3; subst e_hE_0_14_3
  have e_hE_0_14_4 := funext hE_0_14_4; subst e_hE_0_14_4
  have e_hE_0_14_5 := funext hE_0_14_5; subst e_hE_0_14_5
  first
    | omega
  
def o_Gr_addNode_at_Gq_Retape_1 : or_T := (66, 18, [(0, (2, 0, 0, [164])), (5, (0, 0, 23, [])), (6, (0, 0, 24, [])), (10, (2, 0, 0, [151])), (11, (2, 0, 0, [152])), (13, (2, 0, 0, [153])), (14, (2, 0, 0, [161])), (15, (0, 0, 0, [])), (16, (0, 1, 1, [])), (17, (0, 1, 24, []))], [(9, [17, 0], [0]), (9, [14, 0], [14]), (9, [13, 0], [6]), (9, [11, 0], [5]), (9, [10, 0], [4]), (101, [0, 17], [0]), (1, [17, 5, 16], []), (9, [5, 0], [0]), (20, [0, 6], [50, 1, 0, 0, 1, 3, 2, 0, 0, 1, 1]), (20, [0], [50, 1, 0, 0, 0, 3, 2, 0, 0, 0, 23]), (20, [0], [60, 2, 2, 596, 0, 1, 7, 8]), (100, [14, 5, 15], []), (20, [0, 6], [50, 1, 0, 0, 1, 3, 2, 0, 0, 1, 1]), (20, [0], [50, 1, 0, 0, 0, 3, 2, 0, 0, 0, 23]), (20, [0], [60, 2, 3, 670, 0, 1, 14, 7, 8]), (20, [0], [60, 2, 2, 596, 0, 1, 7, 8]), (100, [13, 5, 4], []), (20, [0, 6], [50, 1, 0, 0, 1, 3, 2, 0, 0, 1, 1]), (20, [0], [50, 1, 0, 0, 0, 3, 2, 0, 0, 0, 23]), (20, [0], [60, 2, 3, 670, 0, 1, 14, 7, 8]), (20, [0], [60, 2, 2, 596, 0, 1, 7, 8]), (100, [11, 5, 12], []), (20, [0, 6], [50, 1, 0, 0, 1, 3, 2, 0, 0, 1, 1]), (20, [0], [50, 1, 0, 0, 0, 3, 2, 0, 0, 0, 23]), (20, [0], [60, 2, 3, 670, 0, 1, 14, 7, 8]), (20, [0], [60, 2, 2, 596, 0, 1, 7, 8]), (100, [10, 5, 3], []), (20, [0, 6], [50, 1, 0, 0, 1, 3, 2, 0, 0, 1, 1]), (20, [0], [50, 1, 0, 0, 0, 3, 2, 0, 0, 0, 23]), (20, [0], [60, 2, 3, 670, 0, 1, 14, 7, 8]), (20, [0], [60, 2, 2, 596, 0, 1, 7, 8])], [], [], [(20, [0], [60, 2, 3, 670, 0, 1, 14, 7, 8]), (20, [0], [60, 2, 2, 596, 0, 1, 7, 8]), (20, [0, 6], [50, 1, 0, 0, 1, 3, 2, 0, 0, 4, 2, 1, 1, 0, 1]), (20, [5, 6], [50, 0, 0, 1, 2, 1, 0, 1, 1])], [], [(17, 5, 1, 1)])
theorem oo_Gr_addNode_at_Gq_Retape_1 {kA : Nat → ClassId} : or_ok PRD kA GG o_Gr_addNode_at_Gq_Retape_1 := by
  refine or_mk fun A ta ws vs hD hth hl => ?_
  intro t0 r0 t5 k5 t6 k6 t10 r10 t11 r11 t13 r13 t14 r14 t15 k15 t16 k16 t17 k17 d0 f0 f1 f2 f3 f4 ta1 w1 le1 s1 f6 f7 f8 f9 f10 ta2 w2 le2 s2 f12 f13 f14 f15 ta3 w3 le3 s3 f17 f18 f19 f20 ta4 w4 le4 s4 f22 f23 f24 f25 ta5 w5 le5 s5 f27 f28 f29 f30
  replace f0 := shm_175 f0
  replace f1 := shm_116 f1
  replace f2 := shm_110 f2
  replace f3 := shm_109 f3
  replace f4 := shm_107 f4
  have s1 : (∀ b j, w_el ws b j = w_el w1 b j) ∧ ∀ b j, w_fd ws b j = if b = v_ad (n_v vs 0) ∧ j = 0 then n_v vs 17 else w_fd w1 b j := s1.2
  replace f7 := shm_175 f7
  replace f10 := shm_401 f10
  have s2 : (∀ b j, w_el w1 b j = if b = v_ad (n_v vs 14) ∧ j = (v_iv (n_v vs 5)).toNat then v_iv (n_v vs 15) else w_el w2 b j) ∧ ∀ b k, w_fd w1 b k = w_fd w2 b k := s2.2
  replace f14 := shm_811 f14
  replace f15 := shm_401 f15
  have s3 : (∀ b j, w_el w2 b j = if b = v_ad (n_v vs 13) ∧ j = (v_iv (n_v vs 5)).toNat then v_iv (n_v vs 4) else w_el w3 b j) ∧ ∀ b k, w_fd w2 b k = w_fd w3 b k := s3.2
  replace f19 := shm_811 f19
  replace f20 := shm_401 f20
  have s4 : (∀ b j, w_el w3 b j = if b = v_ad (n_v vs 11) ∧ j = (v_iv (n_v vs 5)).toNat then v_iv (n_v vs 12) else w_el w4 b j) ∧ ∀ b k, w_fd w3 b k = w_fd w4 b k := s4.2
  replace f24 := shm_811 f24
  replace f25 := shm_401 f25
  have s5 : (∀ b j, w_el w4 b j = if b = v_ad (n_v vs 10) ∧ j = (v_iv (n_v vs 5)).toNat then v_iv (n_v vs 3) else w_el w5 b j) ∧ ∀ b k, w_fd w4 b k = w_fd w5 b k := s5.2
  replace f29 := shm_811 f29
  replace f30 := shm_401 f30
  have cr_0_4 := fdq_4 hD hth r0
  have cr_0_5 := fdq_205 hD hth r0
  have cr_0_6 := fdq_206 hD hth r0
  have ar_0_7_1 : w_ar w1 (n_v vs 0) 7 = w_ar ws (n_v vs 0) 7 := by show v_ad (w_fd w1 _ _) = v_ad (w_fd ws _ _); rw [s1.2, if_neg (fun e => absurd e.2 (by decide))]
  have ar_0_7_2 : w_ar w2 (n_v vs 0) 7 = w_ar ws (n_v vs 0) 7 := by rw [← ar_0_7_1]; show v_ad (w_fd w2 _ _) = v_ad (w_fd w1 _ _); rw [s2.2]
  have ar_0_7_3 : w_ar w3 (n_v vs 0) 7 = w_ar ws (n_v vs 0) 7 := by rw [← ar_0_7_2]; show v_ad (w_fd w3 _ _) = v_ad (w_fd w2 _ _); rw [s3.2]
  have ar_0_7_4 : w_ar w4 (n_v vs 0) 7 = w_ar ws (n_v vs 0) 7 := by rw [← ar_0_7_3]; show v_ad (w_fd w4 _ _) = v_ad (w_fd w3 _ _); rw [s4.2]
  have ar_0_7_5 : w_ar w5 (n_v vs 0) 7 = w_ar ws (n_v vs 0) 7 := by rw [← ar_0_7_4]; show v_ad (w_fd w5 _ _) = v_ad (w_fd w4 _ _); rw [s5.2]
  have cr_0_7 := fdq_74 hD hth r0
  have ar_0_8_1 : w_ar w1 (n_v vs 0) 8 = w_ar ws (n_v vs 0) 8 := by show v_ad (w_fd w1 _ _) = v_ad (w_fd ws _ _); rw [s1.2, if_neg (fun e => absurd e.2 (by decide))]
  have ar_0_8_2 : w_ar w2 (n_v vs 0) 8 = w_ar ws (n_v vs 0) 8 := by rw [← ar_0_8_1]; show v_ad (w_fd w2 _ _) = v_ad (w_fd w1 _ _); rw [s2.2]
  have ar_0_8_3 : w_ar w3 (n_v vs 0) 8 = w_ar ws (n_v vs 0) 8 := by rw [← ar_0_8_2]; show v_ad (w_fd w3 _ _) = v_ad (w_fd w2 _ _); rw [s3.2]
  have ar_0_8_4 : w_ar w4 (n_v vs 0) 8 = w_ar ws (n_v vs 0) 8 := by rw [← ar_0_8_3]; show v_ad (w_fd w4 _ _) = v_ad (w_fd w3 _ _); rw [s4.2]
  have ar_0_8_5 : w_ar w5 (n_v vs 0) 8 = w_ar ws (n_v vs 0) 8 := by rw [← ar_0_8_4]; show v_ad (w_fd w5 _ _) = v_ad (w_fd w4 _ _); rw [s5.2]
  have cr_0_8 := fdq_75 hD hth r0
  have ar_0_14_1 : w_ar w1 (n_v vs 0) 14 = w_ar ws (n_v vs 0) 14 := by show v_ad (w_fd w1 _ _) = v_ad (w_fd ws _ _); rw [s1.2, if_neg (fun e => absurd e.2 (by decide))]
  have ar_0_14_2 : w_ar w2 (n_v vs 0) 14 = w_ar ws (n_v vs 0) 14 := by rw [← ar_0_14_1]; show v_ad (w_fd w2 _ _) = v_ad (w_fd w1 _ _); rw [s2.2]
  have ar_0_14_3 : w_ar w3 (n_v vs 0) 14 = w_ar ws (n_v vs 0) 14 := by rw [← ar_0_14_2]; show v_ad (w_fd w3 _ _) = v_ad (w_fd w2 _ _); rw [s3.2]
  have ar_0_14_4 : w_ar w4 (n_v vs 0) 14 = w_ar ws (n_v vs 0) 14 := by rw [← ar_0_14_3]; show v_ad (w_fd w4 _ _) = v_ad (w_fd w3 _ _); rw [s4.2]
  have ar_0_14_5 : w_ar w5 (n_v vs 0) 14 = w_ar ws (n_v vs 0) 14 := by rw [← ar_0_14_4]; show v_ad (w_fd w5 _ _) = v_ad (w_fd w4 _ _); rw [s5.2]
  have cr_0_14 := fdq_76 hD hth r0
  have ad_14 : v_ad (n_v vs 14) = w_ar ws (n_v vs 0) 14 := congrArg v_ad f1
  have ad_13 : v_ad (n_v vs 13) = w_ar ws (n_v vs 0) 6 := congrArg v_ad f2
  have ad_11 : v_ad (n_v vs 11) = w_ar ws (n_v vs 0) 5 := congrArg v_ad f3
  have ad_10 : v_ad (n_v vs 10) = w_ar ws (n_v vs 0) 4 := congrArg v_ad f4
  have g0 : v_iv (n_v vs 17) = w_fi ws (n_v vs 0) 0 := congrArg v_iv f0
  have g7 : v_iv (n_v vs 5) = w_fi w1 (n_v vs 0) 0 := congrArg v_iv f7
  simp only [ar_0_7_1, ar_0_8_1, ar_0_7_2, ar_0_8_2, ar_0_14_2, ar_0_7_3, ar_0_8_3, ar_0_14_3, ar_0_7_4, ar_0_8_4, ar_0_14_4, ar_0_7_5, ar_0_8_5, ar_0_14_5] at f10 f14 f15 f19 f20 f24 f25 f29 f30
  have fe_0_0_1 : w_fi ws (n_v vs 0) 0 = v_iv (n_v vs 17) := by show v_iv (w_fd _ _ _) = _; rw [s1.2, if_pos ⟨rfl, rfl⟩]
  have fe_0_1_1 : w_fi ws (n_v vs 0) 1 = w_fi w1 (n_v vs 0) 1 := by show v_iv (w_fd _ _ _) = v_iv (w_fd _ _ _); rw [s1.2, if_neg (fun e => absurd e.2 (by decide))]
  have fe_0_0_2 : w_fi w1 (n_v vs 0) 0 = w_fi w2 (n_v vs 0) 0 := congrArg v_iv (s2.2 _ _)
  have fe_0_1_2 : w_fi w1 (n_v vs 0) 1 = w_fi w2 (n_v vs 0) 1 := congrArg v_iv (s2.2 _ _)
  have fe_0_0_3 : w_fi w2 (n_v vs 0) 0 = w_fi w3 (n_v vs 0) 0 := congrArg v_iv (s3.2 _ _)
  have fe_0_1_3 : w_fi w2 (n_v vs 0) 1 = w_fi w3 (n_v vs 0) 1 := congrArg v_iv (s3.2 _ _)
  have fe_0_0_4 : w_fi w3 (n_v vs 0) 0 = w_fi w4 (n_v vs 0) 0 := congrArg v_iv (s4.2 _ _)
  have fe_0_1_4 : w_fi w3 (n_v vs 0) 1 = w_fi w4 (n_v vs 0) 1 := congrArg v_iv (s4.2 _ _)
  have fe_0_0_5 : w_fi w4 (n_v vs 0) 0 = w_fi w5 (n_v vs 0) 0 := congrArg v_iv (s5.2 _ _)
  have fe_0_1_5 : w_fi w4 (n_v vs 0) 1 = w_fi w5 (n_v vs 0) 1 := congrArg v_iv (s5.2 _ _)
  have hE_0_4_1 : ∀ j : Int, w_ei ws (w_ar ws (n_v vs 0) 4) j = w_ei w1 (w_ar ws (n_v vs 0) 4) j := fun j => s1.1 _ _
  have hE_0_4_2 : ∀ j : Int, w_ei w1 (w_ar ws (n_v vs 0) 4) j = w_ei w2 (w_ar ws (n_v vs 0) 4) j := el_kp s2.1 r14 cr_0_4 (by decide)
  have hE_0_4_3 : ∀ j : Int, w_ei w2 (w_ar ws (n_v vs 0) 4) j = w_ei w3 (w_ar ws (n_v vs 0) 4) j := el_kp s3.1 r13 cr_0_4 (by decide)
  have hE_0_4_4 : ∀ j : Int, w_ei w3 (w_ar ws (n_v vs 0) 4) j = w_ei w4 (w_ar ws (n_v vs 0) 4) j := el_kp s4.1 r11 cr_0_4 (by decide)
  have hE_0_4_5 : ∀ j : Int, 0 ≤ j → (j = v_iv (n_v vs 5) → w_ei w4 (w_ar ws (n_v vs 0) 4) j = v_iv (n_v vs 3)) ∧ (j ≠ v_iv (n_v vs 5) → w_ei w4 (w_ar ws (n_v vs 0) 4) j = w_ei w5 (w_ar ws (n_v vs 0) 4) j) := fun j hj => ⟨fun h => by unfold w_ei; rw [s5.1, if_pos ⟨ad_10.symm, by rw [h]⟩], fun h => by unfold w_ei; rw [s5.1, if_neg (fun e => h (by have := e.2; omega))]⟩
  have hK_0_4 := elq_121 hD hth cr_0_4
  have hE_0_5_1 : ∀ j : Int, w_ei ws (w_ar ws (n_v vs 0) 5) j = w_ei w1 (w_ar ws (n_v vs 0) 5) j := fun j => s1.1 _ _
  have hE_0_5_2 : ∀ j : Int, w_ei w1 (w_ar ws (n_v vs 0) 5) j = w_ei w2 (w_ar ws (n_v vs 0) 5) j := el_kp s2.1 r14 cr_0_5 (by decide)
  have hE_0_5_3 : ∀ j : Int, w_ei w2 (w_ar ws (n_v vs 0) 5) j = w_ei w3 (w_ar ws (n_v vs 0) 5) j := el_kp s3.1 r13 cr_0_5 (by decide)
  have hE_0_5_4 : ∀ j : Int, 0 ≤ j → (j = v_iv (n_v vs 5) → w_ei w3 (w_ar ws (n_v vs 0) 5) j = v_iv (n_v vs 12)) ∧ (j ≠ v_iv (n_v vs 5) → w_ei w3 (w_ar ws (n_v vs 0) 5) j = w_ei w4 (w_ar ws (n_v vs 0) 5) j) := fun j hj => ⟨fun h => by unfold w_ei; rw [s4.1, if_pos ⟨ad_11.symm, by rw [h]⟩], fun h => by unfold w_ei; rw [s4.1, if_neg (fun e => h (by have := e.2; omega))]⟩
  have hE_0_5_5 : ∀ j : Int, w_ei w4 (w_ar ws (n_v vs 0) 5) j = w_ei w5 (w_ar ws (n_v vs 0) 5) j := el_kp s5.1 r10 cr_0_5 (by decide)
  have hK_0_5 := elq_122 hD hth cr_0_5
  have hE_0_6_1 : ∀ j : Int, w_ei ws (w_ar ws (n_v vs 0) 6) j = w_ei w1 (w_ar ws (n_v vs 0) 6) j := fun j => s1.1 _ _
  have hE_0_6_2 : ∀ j : Int, w_ei w1 (w_ar ws (n_v vs 0) 6) j = w_ei w2 (w_ar ws (n_v vs 0) 6) j := el_kp s2.1 r14 cr_0_6 (by decide)
  have hE_0_6_3 : ∀ j : Int, 0 ≤ j → (j = v_iv (n_v vs 5) → w_ei w2 (w_ar ws (n_v vs 0) 6) j = v_iv (n_v vs 4)) ∧ (j ≠ v_iv (n_v vs 5) → w_ei w2 (w_ar ws (n_v vs 0) 6) j = w_ei w3 (w_ar ws (n_v vs 0) 6) j) := fun j hj => ⟨fun h => by unfold w_ei; rw [s3.1, if_pos ⟨ad_13.symm, by rw [h]⟩], fun h => by unfold w_ei; rw [s3.1, if_neg (fun e => h (by have := e.2; omega))]⟩
  have hE_0_6_4 : ∀ j : Int, w_ei w3 (w_ar ws (n_v vs 0) 6) j = w_ei w4 (w_ar ws (n_v vs 0) 6) j := el_kp s4.1 r11 cr_0_6 (by decide)
  have hE_0_6_5 : ∀ j : Int, w_ei w4 (w_ar ws (n_v vs 0) 6) j = w_ei w5 (w_ar ws (n_v vs 0) 6) j := el_kp s5.1 r10 cr_0_6 (by decide)
  have hK_0_6 := elq_123 hD hth cr_0_6
  have hE_0_7_1 : ∀ j : Int, w_ei ws (w_ar ws (n_v vs 0) 7) j = w_ei w1 (w_ar ws (n_v vs 0) 7) j := fun j => s1.1 _ _
  have hE_0_7_2 : ∀ j : Int, w_ei w1 (w_ar ws (n_v vs 0) 7) j = w_ei w2 (w_ar ws (n_v vs 0) 7) j := el_kp s2.1 r14 cr_0_7 (by decide)
  have hE_0_7_3 : ∀ j : Int, w_ei w2 (w_ar ws (n_v vs 0) 7) j = w_ei w3 (w_ar ws (n_v vs 0) 7) j := el_kp s3.1 r13 cr_0_7 (by decide)
  have hE_0_7_4 : ∀ j : Int, w_ei w3 (w_ar ws (n_v vs 0) 7) j = w_ei w4 (w_ar ws (n_v vs 0) 7) j := el_kp s4.1 r11 cr_0_7 (by decide)
  have hE_0_7_5 : ∀ j : Int, w_ei w4 (w_ar ws (n_v vs 0) 7) j = w_ei w5 (w_ar ws (n_v vs 0) 7) j := el_kp s5.1 r10 cr_0_7 (by decide)
  have hK_0_7 := elq_32 hD hth cr_0_7
  have hE_0_8_1 : ∀ j : Int, w_ei ws (w_ar ws (n_v vs 0) 8) j = w_ei w1 (w_ar ws (n_v vs 0) 8) j := fun j => s1.1 _ _
  have hE_0_8_2 : ∀ j : Int, w_ei w1 (w_ar ws (n_v vs 0) 8) j = w_ei w2 (w_ar ws (n_v vs 0) 8) j := el_kp s2.1 r14 cr_0_8 (by decide)
  have hE_0_8_3 : ∀ j : Int, w_ei w2 (w_ar ws (n_v vs 0) 8) j = w_ei w3 (w_ar ws (n_v vs 0) 8) j := el_kp s3.1 r13 cr_0_8 (by decide)
  have hE_0_8_4 : ∀ j : Int, w_ei w3 (w_ar ws (n_v vs 0) 8) j = w_ei w4 (w_ar ws (n_v vs 0) 8) j := el_kp s4.1 r11 cr_0_8 (by decide)
  have hE_0_8_5 : ∀ j : Int, w_ei w4 (w_ar ws (n_v vs 0) 8) j = w_ei w5 (w_ar ws (n_v vs 0) 8) j := el_kp s5.1 r10 cr_0_8 (by decide)
  have hK_0_8 := elq_33 hD hth cr_0_8
  have hE_0_14_1 : ∀ j : Int, w_ei ws (w_ar ws (n_v vs 0) 14) j = w_ei w1 (w_ar ws (n_v vs 0) 14) j := fun j => s1.1 _ _
  have hE_0_14_2 : ∀ j : Int, 0 ≤ j → (j = v_iv (n_v vs 5) → w_ei w1 (w_ar ws (n_v vs 0) 14) j = v_iv (n_v vs 15)) ∧ (j ≠ v_iv (n_v vs 5) → w_ei w1 (w_ar ws (n_v vs 0) 14) j = w_ei w2 (w_ar ws (n_v vs 0) 14) j) := fun j hj => ⟨fun h => by unfold w_ei; rw [s2.1, if_pos ⟨ad_14.symm, by rw [h]⟩], fun h => by unfold w_ei; rw [s2.1, if_neg (fun e => h (by have := e.2; omega))]⟩
  have hE_0_14_3 : ∀ j : Int, w_ei w2 (w_ar ws (n_v vs 0) 14) j = w_ei w3 (w_ar ws (n_v vs 0) 14) j := el_kp s3.1 r13 cr_0_14 (by decide)
  have hE_0_14_4 : ∀ j : Int, w_ei w3 (w_ar ws (n_v vs 0) 14) j = w_ei w4 (w_ar ws (n_v vs 0) 14) j := el_kp s4.1 r11 cr_0_14 (by decide)
  have hE_0_14_5 : ∀ j : Int, w_ei w4 (w_ar ws (n_v vs 0) 14) j = w_ei w5 (w_ar ws (n_v vs 0) 14) j := el_kp s5.1 r10 cr_0_14 (by decide)
  have hK_0_14 := elq_34 hD hth cr_0_14
  have kz_0_0 := fdq_77 hD hth r0
  have kz_0_1 := fdq_78 hD hth r0
  have nf0 : fc_1 PRD (20, [0], [60, 2, 3, 670, 0, 1, 14, 7, 8]) ws (vs) := ⟨nf_in hl rfl, sgq_811 (vc_Gr_addNode_at_Gq_Retape_1_0 (v_iv (n_v vs 5)) (v_iv (n_v vs 6)) (v_iv (n_v vs 15)) (v_iv (n_v vs 16)) (v_iv (n_v vs 17)) (w_fi ws (n_v vs 0) 0) (w_fi w1 (n_v vs 0) 0) (w_ei w1 (w_ar ws (n_v vs 0) 7)) (w_ei w1 (w_ar ws (n_v vs 0) 8)) (w_fi w1 (n_v vs 0) 1) (w_fi w2 (n_v vs 0) 0) (w_ei w2 (w_ar ws (n_v vs 0) 14)) (w_ei w2 (w_ar ws (n_v vs 0) 7)) (w_ei w2 (w_ar ws (n_v vs 0) 8)) (w_fi w2 (n_v vs 0) 1) (w_fi w3 (n_v vs 0) 0) (w_ei w3 (w_ar ws (n_v vs 0) 14)) (w_ei w3 (w_ar ws (n_v vs 0) 7)) (w_ei w3 (w_ar ws (n_v vs 0) 8)) (w_fi w3 (n_v vs 0) 1) (w_fi w4 (n_v vs 0) 0) (w_ei w4 (w_ar ws (n_v vs 0) 14)) (w_ei w4 (w_ar ws (n_v vs 0) 7)) (w_ei w4 (w_ar ws (n_v vs 0) 8)) (w_fi w4 (n_v vs 0) 1) (w_fi w5 (n_v vs 0) 0) (w_ei w5 (w_ar ws (n_v vs 0) 14)) (w_ei w5 (w_ar ws (n_v vs 0) 7)) (w_ei w5 (w_ar ws (n_v vs 0) 8)) (w_fi w5 (n_v vs 0) 1) (w_fi ws (n_v vs 0) 1) (w_ei ws (w_ar ws (n_v vs 0) 4)) (w_ei w1 (w_ar ws (n_v vs 0) 4)) (w_ei w2 (w_ar ws (n_v vs 0) 4)) (w_ei w3 (w_ar ws (n_v vs 0) 4)) (w_ei w4 (w_ar ws (n_v vs 0) 4)) (w_ei w5 (w_ar ws (n_v vs 0) 4)) (v_iv (n_v vs 3)) (w_ei ws (w_ar ws (n_v vs 0) 5)) (w_ei w1 (w_ar ws (n_v vs 0) 5)) (w_ei w2 (w_ar ws (n_v vs 0) 5)) (w_ei w3 (w_ar ws (n_v vs 0) 5)) (w_ei w4 (w_ar ws (n_v vs 0) 5)) (v_iv (n_v vs 12)) (w_ei w5 (w_ar ws (n_v vs 0) 5)) (w_ei ws (w_ar ws (n_v vs 0) 6)) (w_ei w1 (w_ar ws (n_v vs 0) 6)) (w_ei w2 (w_ar ws (n_v vs 0) 6)) (w_ei w3 (w_ar ws (n_v vs 0) 6)) (v_iv (n_v vs 4)) (w_ei w4 (w_ar ws (n_v vs 0) 6)) (w_ei w5 (w_ar ws (n_v vs 0) 6)) (w_ei ws (w_ar ws (n_v vs 0) 7)) (w_ei ws (w_ar ws (n_v vs 0) 8)) (w_ei ws (w_ar ws (n_v vs 0) 14)) (w_ei w1 (w_ar ws (n_v vs 0) 14)) k5 k6 k15 k16 k17 d0 g0 (shm_12 f6) g7 (shm_560 f8) (shm_814 f9) f10 (shm_560 f12) (shm_814 f13) f14 f15 (shm_560 f17) (shm_814 f18) f19 f20 (shm_560 f22) (shm_814 f23) f24 f25 (shm_560 f27) (shm_814 f28) f29 f30 fe_0_0_1 fe_0_1_1 fe_0_0_2 fe_0_1_2 fe_0_0_3 fe_0_1_3 fe_0_0_4 fe_0_1_4 fe_0_0_5 fe_0_1_5 hE_0_4_1 hE_0_4_2 hE_0_4_3 hE_0_4_4 hE_0_4_5 hK_0_4 hE_0_5_1 hE_0_5_2 hE_0_5_3 hE_0_5_4 hE_0_5_5 hK_0_5 hE_0_6_1 hE_0_6_2 hE_0_6_3 hE_0_6_4 hE_0_6_5 hK_0_6 hE_0_7_1 hE_0_7_2 hE_0_7_3 hE_0_7_4 hE_0_7_5 hK_0_7 hE_0_8_1 hE_0_8_2 hE_0_8_3 hE_0_8_4 hE_0_8_5 hK_0_8 hE_0_14_1 hE_0_14_2 hE_0_14_3 hE_0_14_4 hE_0_14_5 hK_0_14 kz_0_0 kz_0_1)⟩
  have nf1 : fc_1 PRD (20, [0], [60, 2, 2, 596, 0, 1, 7, 8]) ws (vs) := ⟨nf_in hl rfl, sgq_401 (vc_Gr_addNode_at_Gq_Retape_1_1 (v_iv (n_v vs 5)) (v_iv (n_v vs 6)) (v_iv (n_v vs 15)) (v_iv (n_v vs 16)) (v_iv (n_v vs 17)) (w_fi ws (n_v vs 0) 0) (w_fi w1 (n_v vs 0) 0) (w_ei w1 (w_ar ws (n_v vs 0) 7)) (w_ei w1 (w_ar ws (n_v vs 0) 8)) (w_fi w1 (n_v vs 0) 1) (w_fi w2 (n_v vs 0) 0) (w_ei w2 (w_ar ws (n_v vs 0) 14)) (w_ei w2 (w_ar ws (n_v vs 0) 7)) (w_ei w2 (w_ar ws (n_v vs 0) 8)) (w_fi w2 (n_v vs 0) 1) (w_fi w3 (n_v vs 0) 0) (w_ei w3 (w_ar ws (n_v vs 0) 14)) (w_ei w3 (w_ar ws (n_v vs 0) 7)) (w_ei w3 (w_ar ws (n_v vs 0) 8)) (w_fi w3 (n_v vs 0) 1) (w_fi w4 (n_v vs 0) 0) (w_ei w4 (w_ar ws (n_v vs 0) 14)) (w_ei w4 (w_ar ws (n_v vs 0) 7)) (w_ei w4 (w_ar ws (n_v vs 0) 8)) (w_fi w4 (n_v vs 0) 1) (w_fi w5 (n_v vs 0) 0) (w_ei w5 (w_ar ws (n_v vs 0) 14)) (w_ei w5 (w_ar ws (n_v vs 0) 7)) (w_ei w5 (w_ar ws (n_v vs 0) 8)) (w_fi w5 (n_v vs 0) 1) (w_fi ws (n_v vs 0) 1) (w_ei ws (w_ar ws (n_v vs 0) 4)) (w_ei w1 (w_ar ws (n_v vs 0) 4)) (w_ei w2 (w_ar ws (n_v vs 0) 4)) (w_ei w3 (w_ar ws (n_v vs 0) 4)) (w_ei w4 (w_ar ws (n_v vs 0) 4)) (w_ei w5 (w_ar ws (n_v vs 0) 4)) (v_iv (n_v vs 3)) (w_ei ws (w_ar ws (n_v vs 0) 5)) (w_ei w1 (w_ar ws (n_v vs 0) 5)) (w_ei w2 (w_ar ws (n_v vs 0) 5)) (w_ei w3 (w_ar ws (n_v vs 0) 5)) (w_ei w4 (w_ar ws (n_v vs 0) 5)) (v_iv (n_v vs 12)) (w_ei w5 (w_ar ws (n_v vs 0) 5)) (w_ei ws (w_ar ws (n_v vs 0) 6)) (w_ei w1 (w_ar ws (n_v vs 0) 6)) (w_ei w2 (w_ar ws (n_v vs 0) 6)) (w_ei w3 (w_ar ws (n_v vs 0) 6)) (v_iv (n_v vs 4)) (w_ei w4 (w_ar ws (n_v vs 0) 6)) (w_ei w5 (w_ar ws (n_v vs 0) 6)) (w_ei ws (w_ar ws (n_v vs 0) 7)) (w_ei ws (w_ar ws (n_v vs 0) 8)) (w_ei ws (w_ar ws (n_v vs 0) 14)) (w_ei w1 (w_ar ws (n_v vs 0) 14)) k5 k6 k15 k16 k17 d0 g0 (shm_12 f6) g7 (shm_560 f8) (shm_814 f9) f10 (shm_560 f12) (shm_814 f13) f14 f15 (shm_560 f17) (shm_814 f18) f19 f20 (shm_560 f22) (shm_814 f23) f24 f25 (shm_560 f27) (shm_814 f28) f29 f30 fe_0_0_1 fe_0_1_1 fe_0_0_2 fe_0_1_2 fe_0_0_3 fe_0_1_3 fe_0_0_4 fe_0_1_4 fe_0_0_5 fe_0_1_5 hE_0_4_1 hE_0_4_2 hE_0_4_3 hE_0_4_4 hE_0_4_5 hK_0_4 hE_0_5_1 hE_0_5_2 hE_0_5_3 hE_0_5_4 hE_0_5_5 hK_0_5 hE_0_6_1 hE_0_6_2 hE_0_6_3 hE_0_6_4 hE_0_6_5 hK_0_6 hE_0_7_1 hE_0_7_2 hE_0_7_3 hE_0_7_4 hE_0_7_5 hK_0_7 hE_0_8_1 hE_0_8_2 hE_0_8_3 hE_0_8_4 hE_0_8_5 hK_0_8 hE_0_14_1 hE_0_14_2 hE_0_14_3 hE_0_14_4 hE_0_14_5 hK_0_14 kz_0_0 kz_0_1)⟩
  have nf2 : fc_1 PRD (20, [0, 6], [50, 1, 0, 0, 1, 3, 2, 0, 0, 4, 2, 1, 1, 0, 1]) ws (vs) := ⟨nf_in hl rfl, sgq_816 (vc_Gr_addNode_at_Gq_Retape_1_2 (v_iv (n_v vs 5)) (v_iv (n_v vs 6)) (v_iv (n_v vs 15)) (v_iv (n_v vs 16)) (v_iv (n_v vs 17)) (w_fi ws (n_v vs 0) 0) (w_fi w1 (n_v vs 0) 0) (w_ei w1 (w_ar ws (n_v vs 0) 7)) (w_ei w1 (w_ar ws (n_v vs 0) 8)) (w_fi w1 (n_v vs 0) 1) (w_fi w2 (n_v vs 0) 0) (w_ei w2 (w_ar ws (n_v vs 0) 14)) (w_ei w2 (w_ar ws (n_v vs 0) 7)) (w_ei w2 (w_ar ws (n_v vs 0) 8)) (w_fi w2 (n_v vs 0) 1) (w_fi w3 (n_v vs 0) 0) (w_ei w3 (w_ar ws (n_v vs 0) 14)) (w_ei w3 (w_ar ws (n_v vs 0) 7)) (w_ei w3 (w_ar ws (n_v vs 0) 8)) (w_fi w3 (n_v vs 0) 1) (w_fi w4 (n_v vs 0) 0) (w_ei w4 (w_ar ws (n_v vs 0) 14)) (w_ei w4 (w_ar ws (n_v vs 0) 7)) (w_ei w4 (w_ar ws (n_v vs 0) 8)) (w_fi w4 (n_v vs 0) 1) (w_fi w5 (n_v vs 0) 0) (w_ei w5 (w_ar ws (n_v vs 0) 14)) (w_ei w5 (w_ar ws (n_v vs 0) 7)) (w_ei w5 (w_ar ws (n_v vs 0) 8)) (w_fi w5 (n_v vs 0) 1) (w_fi ws (n_v vs 0) 1) (w_ei ws (w_ar ws (n_v vs 0) 4)) (w_ei w1 (w_ar ws (n_v vs 0) 4)) (w_ei w2 (w_ar ws (n_v vs 0) 4)) (w_ei w3 (w_ar ws (n_v vs 0) 4)) (w_ei w4 (w_ar ws (n_v vs 0) 4)) (w_ei w5 (w_ar ws (n_v vs 0) 4)) (v_iv (n_v vs 3)) (w_ei ws (w_ar ws (n_v vs 0) 5)) (w_ei w1 (w_ar ws (n_v vs 0) 5)) (w_ei w2 (w_ar ws (n_v vs 0) 5)) (w_ei w3 (w_ar ws (n_v vs 0) 5)) (w_ei w4 (w_ar ws (n_v vs 0) 5)) (v_iv (n_v vs 12)) (w_ei w5 (w_ar ws (n_v vs 0) 5)) (w_ei ws (w_ar ws (n_v vs 0) 6)) (w_ei w1 (w_ar ws (n_v vs 0) 6)) (w_ei w2 (w_ar ws (n_v vs 0) 6)) (w_ei w3 (w_ar ws (n_v vs 0) 6)) (v_iv (n_v vs 4)) (w_ei w4 (w_ar ws (n_v vs 0) 6)) (w_ei w5 (w_ar ws (n_v vs 0) 6)) (w_ei ws (w_ar ws (n_v vs 0) 7)) (w_ei ws (w_ar ws (n_v vs 0) 8)) (w_ei ws (w_ar ws (n_v vs 0) 14)) (w_ei w1 (w_ar ws (n_v vs 0) 14)) k5 k6 k15 k16 k17 d0 g0 (shm_12 f6) g7 (shm_560 f8) (shm_814 f9) f10 (shm_560 f12) (shm_814 f13) f14 f15 (shm_560 f17) (shm_814 f18) f19 f20 (shm_560 f22) (shm_814 f23) f24 f25 (shm_560 f27) (shm_814 f28) f29 f30 fe_0_0_1 fe_0_1_1 fe_0_0_2 fe_0_1_2 fe_0_0_3 fe_0_1_3 fe_0_0_4 fe_0_1_4 fe_0_0_5 fe_0_1_5 hE_0_4_1 hE_0_4_2 hE_0_4_3 hE_0_4_4 hE_0_4_5 hK_0_4 hE_0_5_1 hE_0_5_2 hE_0_5_3 hE_0_5_4 hE_0_5_5 hK_0_5 hE_0_6_1 hE_0_6_2 hE_0_6_3 hE_0_6_4 hE_0_6_5 hK_0_6 hE_0_7_1 hE_0_7_2 hE_0_7_3 hE_0_7_4 hE_0_7_5 hK_0_7 hE_0_8_1 hE_0_8_2 hE_0_8_3 hE_0_8_4 hE_0_8_5 hK_0_8 hE_0_14_1 hE_0_14_2 hE_0_14_3 hE_0_14_4 hE_0_14_5 hK_0_14 kz_0_0 kz_0_1)⟩
  have nf3 : fc_1 PRD (20, [5, 6], [50, 0, 0, 1, 2, 1, 0, 1, 1]) ws (vs) := ⟨nf_in hl rfl, sgq_48 (vc_Gr_addNode_at_Gq_Retape_1_3 (v_iv (n_v vs 5)) (v_iv (n_v vs 6)) (v_iv (n_v vs 15)) (v_iv (n_v vs 16)) (v_iv (n_v vs 17)) (w_fi ws (n_v vs 0) 0) (w_fi w1 (n_v vs 0) 0) (w_ei w1 (w_ar ws (n_v vs 0) 7)) (w_ei w1 (w_ar ws (n_v vs 0) 8)) (w_fi w1 (n_v vs 0) 1) (w_fi w2 (n_v vs 0) 0) (w_ei w2 (w_ar ws (n_v vs 0) 14)) (w_ei w2 (w_ar ws (n_v vs 0) 7)) (w_ei w2 (w_ar ws (n_v vs 0) 8)) (w_fi w2 (n_v vs 0) 1) (w_fi w3 (n_v vs 0) 0) (w_ei w3 (w_ar ws (n_v vs 0) 14)) (w_ei w3 (w_ar ws (n_v vs 0) 7)) (w_ei w3 (w_ar ws (n_v vs 0) 8)) (w_fi w3 (n_v vs 0) 1) (w_fi w4 (n_v vs 0) 0) (w_ei w4 (w_ar ws (n_v vs 0) 14)) (w_ei w4 (w_ar ws (n_v vs 0) 7)) (w_ei w4 (w_ar ws (n_v vs 0) 8)) (w_fi w4 (n_v vs 0) 1) (w_fi w5 (n_v vs 0) 0) (w_ei w5 (w_ar ws (n_v vs 0) 14)) (w_ei w5 (w_ar ws (n_v vs 0) 7)) (w_ei w5 (w_ar ws (n_v vs 0) 8)) (w_fi w5 (n_v vs 0) 1) (w_fi ws (n_v vs 0) 1) (w_ei ws (w_ar ws (n_v vs 0) 4)) (w_ei w1 (w_ar ws (n_v vs 0) 4)) (w_ei w2 (w_ar ws (n_v vs 0) 4)) (w_ei w3 (w_ar ws (n_v vs 0) 4)) (w_ei w4 (w_ar ws (n_v vs 0) 4)) (w_ei w5 (w_ar ws (n_v vs 0) 4)) (v_iv (n_v vs 3)) (w_ei ws (w_ar ws (n_v vs 0) 5)) (w_ei w1 (w_ar ws (n_v vs 0) 5)) (w_ei w2 (w_ar ws (n_v vs 0) 5)) (w_ei w3 (w_ar ws (n_v vs 0) 5)) (w_ei w4 (w_ar ws (n_v vs 0) 5)) (v_iv (n_v vs 12)) (w_ei w5 (w_ar ws (n_v vs 0) 5)) (w_ei ws (w_ar ws (n_v vs 0) 6)) (w_ei w1 (w_ar ws (n_v vs 0) 6)) (w_ei w2 (w_ar ws (n_v vs 0) 6)) (w_ei w3 (w_ar ws (n_v vs 0) 6)) (v_iv (n_v vs 4)) (w_ei w4 (w_ar ws (n_v vs 0) 6)) (w_ei w5 (w_ar ws (n_v vs 0) 6)) (w_ei ws (w_ar ws (n_v vs 0) 7)) (w_ei ws (w_ar ws (n_v vs 0) 8)) (w_ei ws (w_ar ws (n_v vs 0) 14)) (w_ei w1 (w_ar ws (n_v vs 0) 14)) k5 k6 k15 k16 k17 d0 g0 (shm_12 f6) g7 (shm_560 f8) (shm_814 f9) f10 (shm_560 f12) (shm_814 f13) f14 f15 (shm_560 f17) (shm_814 f18) f19 f20 (shm_560 f22) (shm_814 f23) f24 f25 (shm_560 f27) (shm_814 f28) f29 f30 fe_0_0_1 fe_0_1_1 fe_0_0_2 fe_0_1_2 fe_0_0_3 fe_0_1_3 fe_0_0_4 fe_0_1_4 fe_0_0_5 fe_0_1_5 hE_0_4_1 hE_0_4_2 hE_0_4_3 hE_0_4_4 hE_0_4_5 hK_0_4 hE_0_5_1 hE_0_5_2 hE_0_5_3 hE_0_5_4 hE_0_5_5 hK_0_5 hE_0_6_1 hE_0_6_2 hE_0_6_3 hE_0_6_4 hE_0_6_5 hK_0_6 hE_0_7_1 hE_0_7_2 hE_0_7_3 hE_0_7_4 hE_0_7_5 hK_0_7 hE_0_8_1 hE_0_8_2 hE_0_8_3 hE_0_8_4 hE_0_8_5 hK_0_8 hE_0_14_1 hE_0_14_2 hE_0_14_3 hE_0_14_4 hE_0_14_5 hK_0_14 kz_0_0 kz_0_1)⟩
  refine ⟨(fun _ h => (by cases h)), [], trivial, ?_, (fun _ h => (by cases h))⟩
  rw [List.append_nil]
  exact List.forall_mem_cons.mpr ⟨⟨show (20 : Nat) < 100 from by decide, nf0⟩, List.forall_mem_cons.mpr ⟨⟨show (20 : Nat) < 100 from by decide, nf1⟩, List.forall_mem_cons.mpr ⟨⟨show (20 : Nat) < 100 from by decide, nf2⟩, List.forall_mem_cons.mpr ⟨⟨show (20 : Nat) < 100 from by decide, nf3⟩, (fun _ h => (by cases h))⟩⟩⟩⟩
def n_Gr_addNode_at_Gq_Retape_an : List an_T := []
def t_Gr_addNode_at_Gq_Retape_ct : ct_L := [(57, 77, e_acp_1)]
set_option maxRecDepth 100000 in
theorem c_Gr_addNode_at_Gq_Retape {l : Launch} {D : va_G} {kA : Nat → ClassId} : ct_ok PRD l D kA GG y_Gr_addNode_at_Gq_Retape z_Gr_addNode_at_Gq_Retape e_Gr_addNode_at_Gq_Retape := chk_all_ok (FT := [(9, 3, 0), (21, 3, 3), (25, 3, 4), (29, 3, 5), (32, 3, 6), (56, 3, 14)]) (PT := [(9, 3, 0, .int)]) (CT := t_Gr_addNode_at_Gq_Retape_ct) (KT := []) (NT := []) (AN := n_Gr_addNode_at_Gq_Retape_an) (OT := [o_Gr_addNode_at_Gq_Retape_0, o_Gr_addNode_at_Gq_Retape_1]) 0 200 (List.forall_mem_cons.mpr ⟨oo_Gr_addNode_at_Gq_Retape_0, List.forall_mem_cons.mpr ⟨oo_Gr_addNode_at_Gq_Retape_1, List.forall_mem_nil _⟩⟩) (by decide +kernel) ⟨List.forall_mem_cons.mpr ⟨gf_Gr_9, List.forall_mem_cons.mpr ⟨gf_Gr_21, List.forall_mem_cons.mpr ⟨gf_Gr_25, List.forall_mem_cons.mpr ⟨gf_Gr_29, List.forall_mem_cons.mpr ⟨gf_Gr_32, List.forall_mem_cons.mpr ⟨gf_Gr_56, List.forall_mem_nil _⟩⟩⟩⟩⟩⟩, List.forall_mem_cons.mpr ⟨pf_Gr_9, List.forall_mem_nil _⟩, List.forall_mem_cons.mpr ⟨cl_copy rfl rfl (by decide) (by decide) (by decide) wm_748 wm_750 wm_749 wm_15, List.forall_mem_nil _⟩, List.forall_mem_nil _, List.forall_mem_nil _, GG_pl⟩ (by decide +kernel)
set_option maxHeartbeats 4000000 in
theorem vc_Gr_addNode_at_Gr_newGrperform45_0_0 (x2 : Int) (x3 : Int) (x5 : Int) (x6 : Int) (x8 : Int) (x9 : Int) (nodes_0 : Int) (near_0 : Int → Int) (tail_0 : Int → Int) (head_0 : Int → Int) (edges_0 : Int) (k2 : 0 ≤ x2 ∧ x2 ≤ 2000) (k3 : 0 ≤ x3 ∧ x3 ≤ 8) (k5 : 0 ≤ x5 ∧ x5 ≤ 23) (k6 : 0 ≤ x6 ∧ x6 ≤ 24) (k8 : 8 ≤ x8 ∧ x8 ≤ 8) (k9 : 0 ≤ x9 ∧ x9 ≤ 184) (f0 : x9 = x5 * 8) (g1 : x5 = nodes_0) (f2 : x2 + x3 ≤ 3) (f3 : nodes_0 = x6) (f4 : nodes_0 ≤ 23) (f5 : GNB (nodes_0) (edges_0) (near_0) (tail_0) (head_0)) (f6 : GKE (nodes_0) (edges_0) (tail_0) (head_0)) (hK_0_7 : ∀ j : Int, 0 ≤ j → j < 48 → 0 ≤ tail_0 j ∧ tail_0 j ≤ 23) (hK_0_8 : ∀ j : Int, 0 ≤ j → j < 48 → 0 ≤ head_0 j ∧ head_0 j ≤ 23) (hK_0_14 : ∀ j : Int, 0 ≤ j → j < 24 → 0 ≤ near_0 j ∧ near_0 j ≤ 16777215) (kz_0_0 : 0 ≤ nodes_0 ∧ nodes_0 ≤ 24) (kz_0_1 : 0 ≤ edges_0 ∧ edges_0 ≤ 48) : x9 + x3 ≤ 192 := by
  first
    | omega
  
def o_Gr_addNode_at_Gr_newGrperform45_0 : or_T := (18, 10, [(0, (2, 0, 0, [3])), (2, (0, 0, 2000, [])), (3, (0, 0, 8, [])), (5, (0, 0, 23, [])), (6, (0, 0, 24, [])), (8, (0, 8, 8, [])), (9, (0, 0, 184, []))], [(3, [9, 5, 8], []), (9, [5, 0], [0]), (21, [2, 3], [3]), (20, [0, 6], [50, 1, 0, 0, 1, 3, 2, 0, 0, 1, 1]), (20, [0], [50, 1, 0, 0, 0, 3, 2, 0, 0, 0, 23]), (20, [0], [60, 2, 3, 670, 0, 1, 14, 7, 8]), (20, [0], [60, 2, 2, 596, 0, 1, 7, 8])], [], [], [(21, [9, 3], [192])], [], [])
theorem oo_Gr_addNode_at_Gr_newGrperform45_0 {kA : Nat → ClassId} : or_ok PRD kA GG o_Gr_addNode_at_Gr_newGrperform45_0 := by
  refine or_mk fun A ta ws vs hD hth hl => ?_
  intro t0 r0 t2 k2 t3 k3 t5 k5 t6 k6 t8 k8 t9 k9 f0 f1 f2 f3 f4 f5 f6
  replace f0 := shm_38 f0
  rw [show v_iv (n_v vs 8) = 8 from by omega] at f0
  replace f1 := shm_175 f1
  have cr_0_7 := fdq_52 hD hth r0
  have cr_0_8 := fdq_53 hD hth r0
  have cr_0_14 := fdq_79 hD hth r0
  have g1 : v_iv (n_v vs 5) = w_fi ws (n_v vs 0) 0 := congrArg v_iv f1
  have hK_0_7 := elq_10 hD hth cr_0_7
  have hK_0_8 := elq_11 hD hth cr_0_8
  have hK_0_14 := elq_24 hD hth cr_0_14
  have kz_0_0 := fdq_23 hD hth r0
  have kz_0_1 := fdq_38 hD hth r0
  have nf0 : fc_1 PRD (21, [9, 3], [192]) ws (vs) := ⟨nf_in hl rfl, sgq_815 (vc_Gr_addNode_at_Gr_newGrperform45_0_0 (v_iv (n_v vs 2)) (v_iv (n_v vs 3)) (v_iv (n_v vs 5)) (v_iv (n_v vs 6)) (v_iv (n_v vs 8)) (v_iv (n_v vs 9)) (w_fi ws (n_v vs 0) 0) (w_ei ws (w_ar ws (n_v vs 0) 14)) (w_ei ws (w_ar ws (n_v vs 0) 7)) (w_ei ws (w_ar ws (n_v vs 0) 8)) (w_fi ws (n_v vs 0) 1) k2 k3 k5 k6 k8 k9 f0 g1 (shm_186 f2) (shm_560 f3) (shm_814 f4) (shm_811 f5) (shm_401 f6) hK_0_7 hK_0_8 hK_0_14 kz_0_0 kz_0_1)⟩
  refine ⟨(fun _ h => (by cases h)), [], trivial, ?_, (fun _ h => (by cases h))⟩
  rw [List.append_nil]
  exact List.forall_mem_cons.mpr ⟨⟨show (21 : Nat) < 100 from by decide, nf0⟩, (fun _ h => (by cases h))⟩
set_option maxHeartbeats 4000000 in
theorem vc_Gr_addNode_at_Gr_newGrperform45_1_0 (x5 : Int) (x6 : Int) (x15 : Int) (x16 : Int) (x17 : Int) (nodes_0 : Int) (nodes_1 : Int) (tail_1 : Int → Int) (head_1 : Int → Int) (edges_1 : Int) (nodes_2 : Int) (near_2 : Int → Int) (tail_2 : Int → Int) (head_2 : Int → Int) (edges_2 : Int) (nodes_3 : Int) (near_3 : Int → Int) (tail_3 : Int → Int) (head_3 : Int → Int) (edges_3 : Int) (nodes_4 : Int) (near_4 : Int → Int) (tail_4 : Int → Int) (head_4 : Int → Int) (edges_4 : Int) (nodes_5 : Int) (near_5 : Int → Int) (tail_5 : Int → Int) (head_5 : Int → Int) (edges_5 : Int) (edges_0 : Int) (nameLength_0 : Int → Int) (nameLength_1 : Int → Int) (nameLength_2 : Int → Int) (nameLength_3 : Int → Int) (nameLength_4 : Int → Int) (nameLength_5 : Int → Int) (x3 : Int) (size_0 : Int → Int) (size_1 : Int → Int) (size_2 : Int → Int) (size_3 : Int → Int) (size_4 : Int → Int) (x12 : Int) (size_5 : Int → Int) (groupOf_0 : Int → Int) (groupOf_1 : Int → Int) (groupOf_2 : Int → Int) (groupOf_3 : Int → Int) (x4 : Int) (groupOf_4 : Int → Int) (groupOf_5 : Int → Int) (tail_0 : Int → Int) (head_0 : Int → Int) (near_0 : Int → Int) (near_1 : Int → Int) (k5 : 0 ≤ x5 ∧ x5 ≤ 23) (k6 : 0 ≤ x6 ∧ x6 ≤ 24) (k15 : 0 ≤ x15 ∧ x15 ≤ 0) (k16 : 1 ≤ x16 ∧ x16 ≤ 1) (k17 : 1 ≤ x17 ∧ x17 ≤ 24) (d0 : x5 + 1 ≤ x17 ∧ x17 ≤ x5 + 1) (g0 : x17 = nodes_0) (f6 : x17 = x5 + x16) (g7 : x5 = nodes_1) (f8 : nodes_1 = x6) (f9 : nodes_1 ≤ 23) (f10 : GKE (nodes_1) (edges_1) (tail_1) (head_1)) (f12 : nodes_2 = x6) (f13 : nodes_2 ≤ 23) (f14 : GNB (nodes_2) (edges_2) (near_2) (tail_2) (head_2)) (f15 : GKE (nodes_2) (edges_2) (tail_2) (head_2)) (f17 : nodes_3 = x6) (f18 : nodes_3 ≤ 23) (f19 : GNB (nodes_3) (edges_3) (near_3) (tail_3) (head_3)) (f20 : GKE (nodes_3) (edges_3) (tail_3) (head_3)) (f22 : nodes_4 = x6) (f23 : nodes_4 ≤ 23) (f24 : GNB (nodes_4) (edges_4) (near_4) (tail_4) (head_4)) (f25 : GKE (nodes_4) (edges_4) (tail_4) (head_4)) (f27 : nodes_5 = x6) (f28 : nodes_5 ≤ 23) (f29 : GNB (nodes_5) (edges_5) (near_5) (tail_5) (head_5)) (f30 : GKE (nodes_5) (edges_5) (tail_5) (head_5)) (fe_0_0_1 : nodes_0 = x17) (fe_0_1_1 : edges_0 = edges_1) (fe_0_0_2 : nodes_1 = nodes_2) (fe_0_1_2 : edges_1 = edges_2) (fe_0_0_3 : nodes_2 = nodes_3) (fe_0_1_3 : edges_2 = edges_3) (fe_0_0_4 : nodes_3 = nodes_4) (fe_0_1_4 : edges_3 = edges_4) (fe_0_0_5 : nodes_4 = nodes_5) (fe_0_1_5 : edges_4 = edges_5) (hE_0_4_1 : ∀ j : Int, nameLength_0 j = nameLength_1 j) (hE_0_4_2 : ∀ j : Int, nameLength_1 j = nameLength_2 j) (hE_0_4_3 : ∀ j : Int, nameLength_2 j = nameLength_3 j) (hE_0_4_4 : ∀ j : Int, nameLength_3 j = nameLength_4 j) (hE_0_4_5 : ∀ j : Int, 0 ≤ j → (j = x5 → nameLength_4 j = x3) ∧ (j ≠ x5 → nameLength_4 j = nameLength_5 j)) (hK_0_4 : ∀ j : Int, 0 ≤ j → j < 24 → 0 ≤ nameLength_0 j ∧ nameLength_0 j ≤ 8) (hE_0_5_1 : ∀ j : Int, size_0 j = size_1 j) (hE_0_5_2 : ∀ j : Int, size_1 j = size_2 j) (hE_0_5_3 : ∀ j : Int, size_2 j = size_3 j) (hE_0_5_4 : ∀ j : Int, 0 ≤ j → (j = x5 → size_3 j = x12) ∧ (j ≠ x5 → size_3 j = size_4 j)) (hE_0_5_5 : ∀ j : Int, size_4 j = size_5 j) (hK_0_5 : ∀ j : Int, 0 ≤ j → j < 24 → 0 ≤ size_0 j ∧ size_0 j ≤ 99) (hE_0_6_1 : ∀ j : Int, groupOf_0 j = groupOf_1 j) (hE_0_6_2 : ∀ j : Int, groupOf_1 j = groupOf_2 j) (hE_0_6_3 : ∀ j : Int, 0 ≤ j → (j = x5 → groupOf_2 j = x4) ∧ (j ≠ x5 → groupOf_2 j = groupOf_3 j)) (hE_0_6_4 : ∀ j : Int, groupOf_3 j = groupOf_4 j) (hE_0_6_5 : ∀ j : Int, groupOf_4 j = groupOf_5 j) (hK_0_6 : ∀ j : Int, 0 ≤ j → j < 24 → 0 ≤ groupOf_0 j ∧ groupOf_0 j ≤ 7) (hE_0_7_1 : ∀ j : Int, tail_0 j = tail_1 j) (hE_0_7_2 : ∀ j : Int, tail_1 j = tail_2 j) (hE_0_7_3 : ∀ j : Int, tail_2 j = tail_3 j) (hE_0_7_4 : ∀ j : Int, tail_3 j = tail_4 j) (hE_0_7_5 : ∀ j : Int, tail_4 j = tail_5 j) (hK_0_7 : ∀ j : Int, 0 ≤ j → j < 48 → 0 ≤ tail_0 j ∧ tail_0 j ≤ 23) (hE_0_8_1 : ∀ j : Int, head_0 j = head_1 j) (hE_0_8_2 : ∀ j : Int, head_1 j = head_2 j) (hE_0_8_3 : ∀ j : Int, head_2 j = head_3 j) (hE_0_8_4 : ∀ j : Int, head_3 j = head_4 j) (hE_0_8_5 : ∀ j : Int, head_4 j = head_5 j) (hK_0_8 : ∀ j : Int, 0 ≤ j → j < 48 → 0 ≤ head_0 j ∧ head_0 j ≤ 23) (hE_0_14_1 : ∀ j : Int, near_0 j = near_1 j) (hE_0_14_2 : ∀ j : Int, 0 ≤ j → (j = x5 → near_1 j = x15) ∧ (j ≠ x5 → near_1 j = near_2 j)) (hE_0_14_3 : ∀ j : Int, near_2 j = near_3 j) (hE_0_14_4 : ∀ j : Int, near_3 j = near_4 j) (hE_0_14_5 : ∀ j : Int, near_4 j = near_5 j) (hK_0_14 : ∀ j : Int, 0 ≤ j → j < 24 → 0 ≤ near_0 j ∧ near_0 j ≤ 16777215) (kz_0_0 : 0 ≤ nodes_0 ∧ nodes_0 ≤ 24) (kz_0_1 : 0 ≤ edges_0 ∧ edges_0 ≤ 48) : GNB (nodes_0) (edges_0) (near_0) (tail_0) (head_0) := by
  subst fe_0_1_1
  subst fe_0_0_2
  subst fe_0_1_2
  subst fe_0_0_3
  subst fe_0_1_3
  subst fe_0_0_4
  subst fe_0_1_4
  subst fe_0_0_5
  subst fe_0_1_5
  have e_hE_0_4_1 := funext hE_0_4_1; subst e_hE_0_4_1
  have e_hE_0_4_2 := funext hE_0_4_2; subst e_hE_0_4_2
  have e_hE_0_4_3 := funext hE_0_4_3; subst e_hE_0_4_3
  have e_hE_0_4_4 := funext hE_0_4_4; subst e_hE_0_4_4
  have e_hE_0_5_1 := funext hE_0_5_1; subst e_hE_0_5_1
  have e_hE_0_5_2 := funext hE_0_5_2; subst e_hE_0_5_2
  have e_hE_0_5_3 := funext hE_0_5_3; subst e_hE_0_5_3
  have e_hE_0_5_5 := funext hE_0_5_5; subst e_hE_0_5_5
  have e_hE_0_6_1 := funext hE_0_6_1; subst e_hE_0_6_1
  have e_hE_0_6_2 := funext hE_0_6_2; subst e_hE_0_6_2
  have e_hE_0_6_4 := funext hE_0_6_4; subst e_hE_0_6_4
  have e_hE_0_6_5 := funext hE_0_6_5; subst e_hE_0_6_5
  have e_hE_0_7_1 := funext hE_0_7_1; subst e_hE_0_7_1
  have e_hE_0_7_2 := funext hE_0_7_2; subst e_hE_0_7_2
  have e_hE_0_7_3 := funext hE_0_7_3; subst e_hE_0_7_3
  have e_hE_0_7_4 := funext hE_0_7_4; subst e_hE_0_7_4
  have e_hE_0_7_5 := funext hE_0_7_5; subst e_hE_0_7_5
  have e_hE_0_8_1 := funext hE_0_8_1; subst e_hE_0_8_1
  have e_hE_0_8_2 := funext hE_0_8_2; subst e_hE_0_8_2
  have e_hE_0_8_3 := funext hE_0_8_3; subst e_hE_0_8_3
  have e_hE_0_8_4 := funext hE_0_8_4; subst e_hE_0_8_4
  have e_hE_0_8_5 := funext hE_0_8_5; subst e_hE_0_8_5
  have e_hE_0_14_1 := funext hE_0_14_1; subst e_hE_0_14_1
  have e_hE_0_14_3 := funext hE_0_14_3; subst e_hE_0_14_3
  have e_hE_0_14_4 := funext hE_0_14_4; subst e_hE_0_14_4
  have e_hE_0_14_5 := funext hE_0_14_5; subst e_hE_0_14_5
  first
    | assumption
    | exact gnb_node2 ‹GNB _ _ _ _ _› ‹GKE _ _ _ _› (by omega) (by omega) hE_0_14_2 (by omega) (by omega) (by omega)
  
set_option maxHeartbeats 4000000 in
theorem vc_Gr_addNode_at_Gr_newGrperform45_1_1 (x5 : Int) (x6 : Int) (x15 : Int) (x16 : Int) (x17 : Int) (nodes_0 : Int) (nodes_1 : Int) (tail_1 : Int → Int) (head_1 : Int → Int) (edges_1 : Int) (nodes_2 : Int) (near_2 : Int → Int) (tail_2 : Int → Int) (head_2 : Int → Int) (edges_2 : Int) (nodes_3 : Int) (near_3 : Int → Int) (tail_3 : Int → Int) (head_3 : Int → Int) (edges_3 : Int) (nodes_4 : Int) (near_4 : Int → Int) (tail_4 : Int → Int) (head_4 : Int → Int) (edges_4 : Int) (nodes_5 : Int) (near_5 : Int → Int) (tail_5 : Int → Int) (head_5 : Int → Int) (edges_5 : Int) (edges_0 : Int) (nameLength_0 : Int → Int) (nameLength_1 : Int → Int) (nameLength_2 : Int → Int) (nameLength_3 : Int → Int) (nameLength_4 : Int → Int) (nameLength_5 : Int → Int) (x3 : Int) (size_0 : Int → Int) (size_1 : Int → Int) (size_2 : Int → Int) (size_3 : Int → Int) (size_4 : Int → Int) (x12 : Int) (size_5 : Int → Int) (groupOf_0 : Int → Int) (groupOf_1 : Int → Int) (groupOf_2 : Int → Int) (groupOf_3 : Int → Int) (x4 : Int) (groupOf_4 : Int → Int) (groupOf_5 : Int → Int) (tail_0 : Int → Int) (head_0 : Int → Int) (near_0 : Int → Int) (near_1 : Int → Int) (k5 : 0 ≤ x5 ∧ x5 ≤ 23) (k6 : 0 ≤ x6 ∧ x6 ≤ 24) (k15 : 0 ≤ x15 ∧ x15 ≤ 0) (k16 : 1 ≤ x16 ∧ x16 ≤ 1) (k17 : 1 ≤ x17 ∧ x17 ≤ 24) (d0 : x5 + 1 ≤ x17 ∧ x17 ≤ x5 + 1) (g0 : x17 = nodes_0) (f6 : x17 = x5 + x16) (g7 : x5 = nodes_1) (f8 : nodes_1 = x6) (f9 : nodes_1 ≤ 23) (f10 : GKE (nodes_1) (edges_1) (tail_1) (head_1)) (f12 : nodes_2 = x6) (f13 : nodes_2 ≤ 23) (f14 : GNB (nodes_2) (edges_2) (near_2) (tail_2) (head_2)) (f15 : GKE (nodes_2) (edges_2) (tail_2) (head_2)) (f17 : nodes_3 = x6) (f18 : nodes_3 ≤ 23) (f19 : GNB (nodes_3) (edges_3) (near_3) (tail_3) (head_3)) (f20 : GKE (nodes_3) (edges_3) (tail_3) (head_3)) (f22 : nodes_4 = x6) (f23 : nodes_4 ≤ 23) (f24 : GNB (nodes_4) (edges_4) (near_4) (tail_4) (head_4)) (f25 : GKE (nodes_4) (edges_4) (tail_4) (head_4)) (f27 : nodes_5 = x6) (f28 : nodes_5 ≤ 23) (f29 : GNB (nodes_5) (edges_5) (near_5) (tail_5) (head_5)) (f30 : GKE (nodes_5) (edges_5) (tail_5) (head_5)) (fe_0_0_1 : nodes_0 = x17) (fe_0_1_1 : edges_0 = edges_1) (fe_0_0_2 : nodes_1 = nodes_2) (fe_0_1_2 : edges_1 = edges_2) (fe_0_0_3 : nodes_2 = nodes_3) (fe_0_1_3 : edges_2 = edges_3) (fe_0_0_4 : nodes_3 = nodes_4) (fe_0_1_4 : edges_3 = edges_4) (fe_0_0_5 : nodes_4 = nodes_5) (fe_0_1_5 : edges_4 = edges_5) (hE_0_4_1 : ∀ j : Int, nameLength_0 j = nameLength_1 j) (hE_0_4_2 : ∀ j : Int, nameLength_1 j = nameLength_2 j) (hE_0_4_3 : ∀ j : Int, nameLength_2 j = nameLength_3 j) (hE_0_4_4 : ∀ j : Int, nameLength_3 j = nameLength_4 j) (hE_0_4_5 : ∀ j : Int, 0 ≤ j → (j = x5 → nameLength_4 j = x3) ∧ (j ≠ x5 → nameLength_4 j = nameLength_5 j)) (hK_0_4 : ∀ j : Int, 0 ≤ j → j < 24 → 0 ≤ nameLength_0 j ∧ nameLength_0 j ≤ 8) (hE_0_5_1 : ∀ j : Int, size_0 j = size_1 j) (hE_0_5_2 : ∀ j : Int, size_1 j = size_2 j) (hE_0_5_3 : ∀ j : Int, size_2 j = size_3 j) (hE_0_5_4 : ∀ j : Int, 0 ≤ j → (j = x5 → size_3 j = x12) ∧ (j ≠ x5 → size_3 j = size_4 j)) (hE_0_5_5 : ∀ j : Int, size_4 j = size_5 j) (hK_0_5 : ∀ j : Int, 0 ≤ j → j < 24 → 0 ≤ size_0 j ∧ size_0 j ≤ 99) (hE_0_6_1 : ∀ j : Int, groupOf_0 j = groupOf_1 j) (hE_0_6_2 : ∀ j : Int, groupOf_1 j = groupOf_2 j) (hE_0_6_3 : ∀ j : Int, 0 ≤ j → (j = x5 → groupOf_2 j = x4) ∧ (j ≠ x5 → groupOf_2 j = groupOf_3 j)) (hE_0_6_4 : ∀ j : Int, groupOf_3 j = groupOf_4 j) (hE_0_6_5 : ∀ j : Int, groupOf_4 j = groupOf_5 j) (hK_0_6 : ∀ j : Int, 0 ≤ j → j < 24 → 0 ≤ groupOf_0 j ∧ groupOf_0 j ≤ 7) (hE_0_7_1 : ∀ j : Int, tail_0 j = tail_1 j) (hE_0_7_2 : ∀ j : Int, tail_1 j = tail_2 j) (hE_0_7_3 : ∀ j : Int, tail_2 j = tail_3 j) (hE_0_7_4 : ∀ j : Int, tail_3 j = tail_4 j) (hE_0_7_5 : ∀ j : Int, tail_4 j = tail_5 j) (hK_0_7 : ∀ j : Int, 0 ≤ j → j < 48 → 0 ≤ tail_0 j ∧ tail_0 j ≤ 23) (hE_0_8_1 : ∀ j : Int, head_0 j = head_1 j) (hE_0_8_2 : ∀ j : Int, head_1 j = head_2 j) (hE_0_8_3 : ∀ j : Int, head_2 j = head_3 j) (hE_0_8_4 : ∀ j : Int, head_3 j = head_4 j) (hE_0_8_5 : ∀ j : Int, head_4 j = head_5 j) (hK_0_8 : ∀ j : Int, 0 ≤ j → j < 48 → 0 ≤ head_0 j ∧ head_0 j ≤ 23) (hE_0_14_1 : ∀ j : Int, near_0 j = near_1 j) (hE_0_14_2 : ∀ j : Int, 0 ≤ j → (j = x5 → near_1 j = x15) ∧ (j ≠ x5 → near_1 j = near_2 j)) (hE_0_14_3 : ∀ j : Int, near_2 j = near_3 j) (hE_0_14_4 : ∀ j : Int, near_3 j = near_4 j) (hE_0_14_5 : ∀ j : Int, near_4 j = near_5 j) (hK_0_14 : ∀ j : Int, 0 ≤ j → j < 24 → 0 ≤ near_0 j ∧ near_0 j ≤ 16777215) (kz_0_0 : 0 ≤ nodes_0 ∧ nodes_0 ≤ 24) (kz_0_1 : 0 ≤ edges_0 ∧ edges_0 ≤ 48) : GKE (nodes_0) (edges_0) (tail_0) (head_0) := by
  subst fe_0_1_1
  subst fe_0_0_2
  subst fe_0_1_2
  subst fe_0_0_3
  subst fe_0_1_3
  subst fe_0_0_4
  subst fe_0_1_4
  subst fe_0_0_5
  subst fe_0_1_5
  have e_hE_0_4_1 := funext hE_0_4_1; subst e_hE_0_4_1
  have e_hE_0_4_2 := funext hE_0_4_2; subst e_hE_0_4_2
  have e_hE_0_4_3 := funext hE_0_4_3; subst e_hE_0_4_3
  have e_hE_0_4_4 := funext hE_0_4_4; subst e_hE_0_4_4
  have e_hE_0_5_1 := funext hE_0_5_1; subst e_hE_0_5_1
  have e_hE_0_5_2 := funext hE_0_5_2; subst e_hE_0_5_2
  have e_hE_0_5_3 := funext hE_0_5_3; subst e_hE_0_5_3
  have e_hE_0_5_5 := funext hE_0_5_5; subst e_hE_0_5_5
  have e_hE_0_6_1 := funext hE_0_6_1; subst e_hE_0_6_1
  have e_hE_0_6_2 := funext hE_0_6_2; subst e_hE_0_6_2
  have e_hE_0_6_4 := funext hE_0_6_4; subst e_hE_0_6_4
  have e_hE_0_6_5 := funext hE_0_6_5; subst e_hE_0_6_5
  have e_hE_0_7_1 := funext hE_0_7_1; subst e_hE_0_7_1
  have e_hE_0_7_2 := funext hE_0_7_2; subst e_hE_0_7_2
  have e_hE_0_7_3 := funext hE_0_7_3; subst e_hE_0_7_3
  have e_hE_0_7_4 := funext hE_0_7_4; subst e_hE_0_7_4
  have e_hE_0_7_5 := funext hE_0_7_5; subst e_hE_0_7_5
  have e_hE_0_8_1 := funext hE_0_8_1; subst e_hE_0_8_1
  have e_hE_0_8_2 := funext hE_0_8_2; subst e_hE_0_8_2
  have e_hE_0_8_3 := funext hE_0_8_3; subst e_hE_0_8_3
  have e_hE_0_8_4 := funext hE_0_8_4; subst e_hE_0_8_4
  have e_hE_0_8_5 := funext hE_0_8_5; subst e_hE_0_8_5
  have e_hE_0_14_1 := funext hE_0_14_1; subst e_hE_0_14_1
  have e_hE_0_14_3 := funext hE_0_14_3; subst e_hE_0_14_3
  have e_hE_0_14_4 := funext hE_0_14_4; subst e_hE_0_14_4
  have e_hE_0_14_5 := funext hE_0_14_5; subst e_hE_0_14_5
  first
    | assumption
    | exact gke_node ‹GKE _ _ _ _› (by omega)
    | (rw [show nodes_0 = x17 by omega]; exact gke_node ‹GKE _ _ _ _› (by omega))
  
set_option maxHeartbeats 4000000 in
theorem vc_Gr_addNode_at_Gr_newGrperform45_1_2 (x5 : Int) (x6 : Int) (x15 : Int) (x16 : Int) (x17 : Int) (nodes_0 : Int) (nodes_1 : Int) (tail_1 : Int → Int) (head_1 : Int → Int) (edges_1 : Int) (nodes_2 : Int) (near_2 : Int → Int) (tail_2 : Int → Int) (head_2 : Int → Int) (edges_2 : Int) (nodes_3 : Int) (near_3 : Int → Int) (tail_3 : Int → Int) (head_3 : Int → Int) (edges_3 : Int) (nodes_4 : Int) (near_4 : Int → Int) (tail_4 : Int → Int) (head_4 : Int → Int) (edges_4 : Int) (nodes_5 : Int) (near_5 : Int → Int) (tail_5 : Int → Int) (head_5 : Int → Int) (edges_5 : Int) (edges_0 : Int) (nameLength_0 : Int → Int) (nameLength_1 : Int → Int) (nameLength_2 : Int → Int) (nameLength_3 : Int → Int) (nameLength_4 : Int → Int) (nameLength_5 : Int → Int) (x3 : Int) (size_0 : Int → Int) (size_1 : Int → Int) (size_2 : Int → Int) (size_3 : Int → Int) (size_4 : Int → Int) (x12 : Int) (size_5 : Int → Int) (groupOf_0 : Int → Int) (groupOf_1 : Int → Int) (groupOf_2 : Int → Int) (groupOf_3 : Int → Int) (x4 : Int) (groupOf_4 : Int → Int) (groupOf_5 : Int → Int) (tail_0 : Int → Int) (head_0 : Int → Int) (near_0 : Int → Int) (near_1 : Int → Int) (k5 : 0 ≤ x5 ∧ x5 ≤ 23) (k6 : 0 ≤ x6 ∧ x6 ≤ 24) (k15 : 0 ≤ x15 ∧ x15 ≤ 0) (k16 : 1 ≤ x16 ∧ x16 ≤ 1) (k17 : 1 ≤ x17 ∧ x17 ≤ 24) (d0 : x5 + 1 ≤ x17 ∧ x17 ≤ x5 + 1) (g0 : x17 = nodes_0) (f6 : x17 = x5 + x16) (g7 : x5 = nodes_1) (f8 : nodes_1 = x6) (f9 : nodes_1 ≤ 23) (f10 : GKE (nodes_1) (edges_1) (tail_1) (head_1)) (f12 : nodes_2 = x6) (f13 : nodes_2 ≤ 23) (f14 : GNB (nodes_2) (edges_2) (near_2) (tail_2) (head_2)) (f15 : GKE (nodes_2) (edges_2) (tail_2) (head_2)) (f17 : nodes_3 = x6) (f18 : nodes_3 ≤ 23) (f19 : GNB (nodes_3) (edges_3) (near_3) (tail_3) (head_3)) (f20 : GKE (nodes_3) (edges_3) (tail_3) (head_3)) (f22 : nodes_4 = x6) (f23 : nodes_4 ≤ 23) (f24 : GNB (nodes_4) (edges_4) (near_4) (tail_4) (head_4)) (f25 : GKE (nodes_4) (edges_4) (tail_4) (head_4)) (f27 : nodes_5 = x6) (f28 : nodes_5 ≤ 23) (f29 : GNB (nodes_5) (edges_5) (near_5) (tail_5) (head_5)) (f30 : GKE (nodes_5) (edges_5) (tail_5) (head_5)) (fe_0_0_1 : nodes_0 = x17) (fe_0_1_1 : edges_0 = edges_1) (fe_0_0_2 : nodes_1 = nodes_2) (fe_0_1_2 : edges_1 = edges_2) (fe_0_0_3 : nodes_2 = nodes_3) (fe_0_1_3 : edges_2 = edges_3) (fe_0_0_4 : nodes_3 = nodes_4) (fe_0_1_4 : edges_3 = edges_4) (fe_0_0_5 : nodes_4 = nodes_5) (fe_0_1_5 : edges_4 = edges_5) (hE_0_4_1 : ∀ j : Int, nameLength_0 j = nameLength_1 j) (hE_0_4_2 : ∀ j : Int, nameLength_1 j = nameLength_2 j) (hE_0_4_3 : ∀ j : Int, nameLength_2 j = nameLength_3 j) (hE_0_4_4 : ∀ j : Int, nameLength_3 j = nameLength_4 j) (hE_0_4_5 : ∀ j : Int, 0 ≤ j → (j = x5 → nameLength_4 j = x3) ∧ (j ≠ x5 → nameLength_4 j = nameLength_5 j)) (hK_0_4 : ∀ j : Int, 0 ≤ j → j < 24 → 0 ≤ nameLength_0 j ∧ nameLength_0 j ≤ 8) (hE_0_5_1 : ∀ j : Int, size_0 j = size_1 j) (hE_0_5_2 : ∀ j : Int, size_1 j = size_2 j) (hE_0_5_3 : ∀ j : Int, size_2 j = size_3 j) (hE_0_5_4 : ∀ j : Int, 0 ≤ j → (j = x5 → size_3 j = x12) ∧ (j ≠ x5 → size_3 j = size_4 j)) (hE_0_5_5 : ∀ j : Int, size_4 j = size_5 j) (hK_0_5 : ∀ j : Int, 0 ≤ j → j < 24 → 0 ≤ size_0 j ∧ size_0 j ≤ 99) (hE_0_6_1 : ∀ j : Int, groupOf_0 j = groupOf_1 j) (hE_0_6_2 : ∀ j : Int, groupOf_1 j = groupOf_2 j) (hE_0_6_3 : ∀ j : Int, 0 ≤ j → (j = x5 → groupOf_2 j = x4) ∧ (j ≠ x5 → groupOf_2 j = groupOf_3 j)) (hE_0_6_4 : ∀ j : Int, groupOf_3 j = groupOf_4 j) (hE_0_6_5 : ∀ j : Int, groupOf_4 j = groupOf_5 j) (hK_0_6 : ∀ j : Int, 0 ≤ j → j < 24 → 0 ≤ groupOf_0 j ∧ groupOf_0 j ≤ 7) (hE_0_7_1 : ∀ j : Int, tail_0 j = tail_1 j) (hE_0_7_2 : ∀ j : Int, tail_1 j = tail_2 j) (hE_0_7_3 : ∀ j : Int, tail_2 j = tail_3 j) (hE_0_7_4 : ∀ j : Int, tail_3 j = tail_4 j) (hE_0_7_5 : ∀ j : Int, tail_4 j = tail_5 j) (hK_0_7 : ∀ j : Int, 0 ≤ j → j < 48 → 0 ≤ tail_0 j ∧ tail_0 j ≤ 23) (hE_0_8_1 : ∀ j : Int, head_0 j = head_1 j) (hE_0_8_2 : ∀ j : Int, head_1 j = head_2 j) (hE_0_8_3 : ∀ j : Int, head_2 j = head_3 j) (hE_0_8_4 : ∀ j : Int, head_3 j = head_4 j) (hE_0_8_5 : ∀ j : Int, head_4 j = head_5 j) (hK_0_8 : ∀ j : Int, 0 ≤ j → j < 48 → 0 ≤ head_0 j ∧ head_0 j ≤ 23) (hE_0_14_1 : ∀ j : Int, near_0 j = near_1 j) (hE_0_14_2 : ∀ j : Int, 0 ≤ j → (j = x5 → near_1 j = x15) ∧ (j ≠ x5 → near_1 j = near_2 j)) (hE_0_14_3 : ∀ j : Int, near_2 j = near_3 j) (hE_0_14_4 : ∀ j : Int, near_3 j = near_4 j) (hE_0_14_5 : ∀ j : Int, near_4 j = near_5 j) (hK_0_14 : ∀ j : Int, 0 ≤ j → j < 24 → 0 ≤ near_0 j ∧ near_0 j ≤ 16777215) (kz_0_0 : 0 ≤ nodes_0 ∧ nodes_0 ≤ 24) (kz_0_1 : 0 ≤ edges_0 ∧ edges_0 ≤ 48) : nodes_0 = (x6 + 1) := by
  subst fe_0_1_1
  subst fe_0_0_2
  subst fe_0_1_2
  subst fe_0_0_3
  subst fe_0_1_3
  subst fe_0_0_4
  subst fe_0_1_4
  subst fe_0_0_5
  subst fe_0_1_5
  have e_hE_0_4_1 := funext hE_0_4_1; subst e_hE_0_4_1
  have e_hE_0_4_2 := funext hE_0_4_2; subst e_hE_0_4_2
  have e_hE_0_4_3 := funext hE_0_4_3; subst e_hE_0_4_3
  have e_hE_0_4_4 := funext hE_0_4_4; subst e_hE_0_4_4
  have e_hE_0_5_1 := funext hE_0_5_1; subst e_hE_0_5_1
  have e_hE_0_5_2 := funext hE_0_5_2; subst e_hE_0_5_2
  have e_hE_0_5_3 := funext hE_0_5_3; subst e_hE_0_5_3
  have e_hE_0_5_5 := funext hE_0_5_5; subst e_hE_0_5_5
  have e_hE_0_6_1 := funext hE_0_6_1; subst e_hE_0_6_1
  have e_hE_0_6_2 := funext hE_0_6_2; subst e_hE_0_6_2
  have e_hE_0_6_4 := funext hE_0_6_4; subst e_hE_0_6_4
  have e_hE_0_6_5 := funext hE_0_6_5; subst e_hE_0_6_5
  have e_hE_0_7_1 := funext hE_0_7_1; subst e_hE_0_7_1
  have e_hE_0_7_2 := funext hE_0_7_2; subst e_hE_0_7_2
  have e_hE_0_7_3 := funext hE_0_7_3; subst e_hE_0_7_3
  have e_hE_0_7_4 := funext hE_0_7_4; subst e_hE_0_7_4
  have e_hE_0_7_5 := funext hE_0_7_5; subst e_hE_0_7_5
  have e_hE_0_8_1 := funext hE_0_8_1; subst e_hE_0_8_1
  have e_hE_0_8_2 := funext hE_0_8_2; subst e_hE_0_8_2
  have e_hE_0_8_3 := funext hE_0_8_3; subst e_hE_0_8_3
  have e_hE_0_8_4 := funext hE_0_8_4; subst e_hE_0_8_4
  have e_hE_0_8_5 := funext hE_0_8_5; subst e_hE_0_8_5
  have e_hE_0_14_1 := funext hE_0_14_1; subst e_hE_0_14_1
  have e_hE_0_14_3 := funext hE_0_14_3; subst e_hE_0_14_3
  have e_hE_0_14_4 := funext hE_0_14_4; subst e_hE_0_14_4
  have e_hE_0_14_5 := funext hE_0_14_5; subst e_hE_0_14_5
  first
    | omega
  
set_option maxHeartbeats 4000000 in
theorem vc_Gr_addNode_at_Gr_newGrperform45_1_3 (x5 : Int) (x6 : Int) (x15 : Int) (x16 : Int) (x17 : Int) (nodes_0 : Int) (nodes_1 : Int) (tail_1 : Int → Int) (head_1 : Int → Int) (edges_1 : Int) (nodes_2 : Int) (near_2 : Int → Int) (tail_2 : Int → Int) (head_2 : Int → Int) (edges_2 : Int) (nodes_3 : Int) (near_3 : Int → Int) (tail_3 : Int → Int) (head_3 : Int → Int) (edges_3 : Int) (nodes_4 : Int) (near_4 : Int → Int) (tail_4 : Int → Int) (head_4 : Int → Int) (edges_4 : Int) (nodes_5 : Int) (near_5 : Int → Int) (tail_5 : Int → Int) (head_5 : Int → Int) (edges_5 : Int) (edges_0 : Int) (nameLength_0 : Int → Int) (nameLength_1 : Int → Int) (nameLength_2 : Int → Int) (nameLength_3 : Int → Int) (nameLength_4 : Int → Int) (nameLength_5 : Int → Int) (x3 : Int) (size_0 : Int → Int) (size_1 : Int → Int) (size_2 : Int → Int) (size_3 : Int → Int) (size_4 : Int → Int) (x12 : Int) (size_5 : Int → Int) (groupOf_0 : Int → Int) (groupOf_1 : Int → Int) (groupOf_2 : Int → Int) (groupOf_3 : Int → Int) (x4 : Int) (groupOf_4 : Int → Int) (groupOf_5 : Int → Int) (tail_0 : Int → Int) (head_0 : Int → Int) (near_0 : Int → Int) (near_1 : Int → Int) (k5 : 0 ≤ x5 ∧ x5 ≤ 23) (k6 : 0 ≤ x6 ∧ x6 ≤ 24) (k15 : 0 ≤ x15 ∧ x15 ≤ 0) (k16 : 1 ≤ x16 ∧ x16 ≤ 1) (k17 : 1 ≤ x17 ∧ x17 ≤ 24) (d0 : x5 + 1 ≤ x17 ∧ x17 ≤ x5 + 1) (g0 : x17 = nodes_0) (f6 : x17 = x5 + x16) (g7 : x5 = nodes_1) (f8 : nodes_1 = x6) (f9 : nodes_1 ≤ 23) (f10 : GKE (nodes_1) (edges_1) (tail_1) (head_1)) (f12 : nodes_2 = x6) (f13 : nodes_2 ≤ 23) (f14 : GNB (nodes_2) (edges_2) (near_2) (tail_2) (head_2)) (f15 : GKE (nodes_2) (edges_2) (tail_2) (head_2)) (f17 : nodes_3 = x6) (f18 : nodes_3 ≤ 23) (f19 : GNB (nodes_3) (edges_3) (near_3) (tail_3) (head_3)) (f20 : GKE (nodes_3) (edges_3) (tail_3) (head_3)) (f22 : nodes_4 = x6) (f23 : nodes_4 ≤ 23) (f24 : GNB (nodes_4) (edges_4) (near_4) (tail_4) (head_4)) (f25 : GKE (nodes_4) (edges_4) (tail_4) (head_4)) (f27 : nodes_5 = x6) (f28 : nodes_5 ≤ 23) (f29 : GNB (nodes_5) (edges_5) (near_5) (tail_5) (head_5)) (f30 : GKE (nodes_5) (edges_5) (tail_5) (head_5)) (fe_0_0_1 : nodes_0 = x17) (fe_0_1_1 : edges_0 = edges_1) (fe_0_0_2 : nodes_1 = nodes_2) (fe_0_1_2 : edges_1 = edges_2) (fe_0_0_3 : nodes_2 = nodes_3) (fe_0_1_3 : edges_2 = edges_3) (fe_0_0_4 : nodes_3 = nodes_4) (fe_0_1_4 : edges_3 = edges_4) (fe_0_0_5 : nodes_4 = nodes_5) (fe_0_1_5 : edges_4 = edges_5) (hE_0_4_1 : ∀ j : Int, nameLength_0 j = nameLength_1 j) (hE_0_4_2 : ∀ j : Int, nameLength_1 j = nameLength_2 j) (hE_0_4_3 : ∀ j : Int, nameLength_2 j = nameLength_3 j) (hE_0_4_4 : ∀ j : Int, nameLength_3 j = nameLength_4 j) (hE_0_4_5 : ∀ j : Int, 0 ≤ j → (j = x5 → nameLength_4 j = x3) ∧ (j ≠ x5 → nameLength_4 j = nameLength_5 j)) (hK_0_4 : ∀ j : Int, 0 ≤ j → j < 24 → 0 ≤ nameLength_0 j ∧ nameLength_0 j ≤ 8) (hE_0_5_1 : ∀ j : Int, size_0 j = size_1 j) (hE_0_5_2 : ∀ j : Int, size_1 j = size_2 j) (hE_0_5_3 : ∀ j : Int, size_2 j = size_3 j) (hE_0_5_4 : ∀ j : Int, 0 ≤ j → (j = x5 → size_3 j = x12) ∧ (j ≠ x5 → size_3 j = size_4 j)) (hE_0_5_5 : ∀ j : Int, size_4 j = size_5 j) (hK_0_5 : ∀ j : Int, 0 ≤ j → j < 24 → 0 ≤ size_0 j ∧ size_0 j ≤ 99) (hE_0_6_1 : ∀ j : Int, groupOf_0 j = groupOf_1 j) (hE_0_6_2 : ∀ j : Int, groupOf_1 j = groupOf_2 j) (hE_0_6_3 : ∀ j : Int, 0 ≤ j → (j = x5 → groupOf_2 j = x4) ∧ (j ≠ x5 → groupOf_2 j = groupOf_3 j)) (hE_0_6_4 : ∀ j : Int, groupOf_3 j = groupOf_4 j) (hE_0_6_5 : ∀ j : Int, groupOf_4 j = groupOf_5 j) (hK_0_6 : ∀ j : Int, 0 ≤ j → j < 24 → 0 ≤ groupOf_0 j ∧ groupOf_0 j ≤ 7) (hE_0_7_1 : ∀ j : Int, tail_0 j = tail_1 j) (hE_0_7_2 : ∀ j : Int, tail_1 j = tail_2 j) (hE_0_7_3 : ∀ j : Int, tail_2 j = tail_3 j) (hE_0_7_4 : ∀ j : Int, tail_3 j = tail_4 j) (hE_0_7_5 : ∀ j : Int, tail_4 j = tail_5 j) (hK_0_7 : ∀ j : Int, 0 ≤ j → j < 48 → 0 ≤ tail_0 j ∧ tail_0 j ≤ 23) (hE_0_8_1 : ∀ j : Int, head_0 j = head_1 j) (hE_0_8_2 : ∀ j : Int, head_1 j = head_2 j) (hE_0_8_3 : ∀ j : Int, head_2 j = head_3 j) (hE_0_8_4 : ∀ j : Int, head_3 j = head_4 j) (hE_0_8_5 : ∀ j : Int, head_4 j = head_5 j) (hK_0_8 : ∀ j : Int, 0 ≤ j → j < 48 → 0 ≤ head_0 j ∧ head_0 j ≤ 23) (hE_0_14_1 : ∀ j : Int, near_0 j = near_1 j) (hE_0_14_2 : ∀ j : Int, 0 ≤ j → (j = x5 → near_1 j = x15) ∧ (j ≠ x5 → near_1 j = near_2 j)) (hE_0_14_3 : ∀ j : Int, near_2 j = near_3 j) (hE_0_14_4 : ∀ j : Int, near_3 j = near_4 j) (hE_0_14_5 : ∀ j : Int, near_4 j = near_5 j) (hK_0_14 : ∀ j : Int, 0 ≤ j → j < 24 → 0 ≤ near_0 j ∧ near_0 j ≤ 16777215) (kz_0_0 : 0 ≤ nodes_0 ∧ nodes_0 ≤ 24) (kz_0_1 : 0 ≤ edges_0 ∧ edges_0 ≤ 48) : x5 = x6 := by
  subst fe_0_1_1
  subst fe_0_0_2
  subst fe_0_1_2
  subst fe_0_0_3
  subst fe_0_1_3
  subst fe_0_0_4
  subst fe_0_1_4
  subst fe_0_0_5
  subst fe_0_1_5
  have e_hE_0_4_1 := funext hE_0_4_1; subst e_hE_0_4_1
  have e_hE_0_4_2 := funext hE_0_4_2; subst e_hE_0_4_2
  have e_hE_0_4_3 := funext hE_0_4_3; subst e_hE_0_4_3
  have e_hE_0_4_4 := funext hE_0_4_4; subst e_hE_0_4_4
  have e_hE_0_5_1 := funext hE_0_5_1; subst e_hE_0_5_1
  have e_hE_0_5_2 := funext hE_0_5_2; subst e_hE_0_5_2
  have e_hE_0_5_3 := funext hE_0_5_3; subst e_hE_0_5_3
  have e_hE_0_5_5 := funext hE_0_5_5; subst e_hE_0_5_5
  have e_hE_0_6_1 := funext hE_0_6_1; subst e_hE_0_6_1
  have e_hE_0_6_2 := funext hE_0_6_2; subst e_hE_0_6_2
  have e_hE_0_6_4 := funext hE_0_6_4; subst e_hE_0_6_4
  have e_hE_0_6_5 := funext hE_0_6_5; subst e_hE_0_6_5
  have e_hE_0_7_1 := funext hE_0_7_1; subst e_hE_0_7_1
  have e_hE_0_7_2 := funext hE_0_7_2; subst e_hE_0_7_2
  have e_hE_0_7_3 := funext hE_0_7_3; subst e_hE_0_7_3
  have e_hE_0_7_4 := funext hE_0_7_4; subst e_hE_0_7_4
  have e_hE_0_7_5 := funext hE_0_7_5; subst e_hE_0_7_5
  have e_hE_0_8_1 := funext hE_0_8_1; subst e_hE_0_8_1
  have e_hE_0_8_2 := funext hE_0_8_2; subst e_hE_0_8_2
  have e_hE_0_8_3 := funext hE_0_8_3; subst e_hE_0_8_3
  have e_hE_0_8_4 := funext hE_0_8_4; subst e_hE_0_8_4
  have e_hE_0_8_5 := funext hE_0_8_5; subst e_hE_0_8_5
  have e_hE_0_14_1 := funext hE_0_14_1; subst e_hE_0_14_1
  have e_hE_0_14_3 := funext hE_0_14_3; subst e_hE_0_14_3
  have e_hE_0_14_4 := funext hE_0_14_4; subst e_hE_0_14_4
  have e_hE_0_14_5 := funext hE_0_14_5; subst e_hE_0_14_5
  first
    | omega
  
def o_Gr_addNode_at_Gr_newGrperform45_1 : or_T := (66, 18, [(0, (2, 0, 0, [3])), (5, (0, 0, 23, [])), (6, (0, 0, 24, [])), (10, (2, 0, 0, [49])), (11, (2, 0, 0, [50])), (13, (2, 0, 0, [51])), (14, (2, 0, 0, [59])), (15, (0, 0, 0, [])), (16, (0, 1, 1, [])), (17, (0, 1, 24, []))], [(9, [17, 0], [0]), (9, [14, 0], [14]), (9, [13, 0], [6]), (9, [11, 0], [5]), (9, [10, 0], [4]), (101, [0, 17], [0]), (1, [17, 5, 16], []), (9, [5, 0], [0]), (20, [0, 6], [50, 1, 0, 0, 1, 3, 2, 0, 0, 1, 1]), (20, [0], [50, 1, 0, 0, 0, 3, 2, 0, 0, 0, 23]), (20, [0], [60, 2, 2, 596, 0, 1, 7, 8]), (100, [14, 5, 15], []), (20, [0, 6], [50, 1, 0, 0, 1, 3, 2, 0, 0, 1, 1]), (20, [0], [50, 1, 0, 0, 0, 3, 2, 0, 0, 0, 23]), (20, [0], [60, 2, 3, 670, 0, 1, 14, 7, 8]), (20, [0], [60, 2, 2, 596, 0, 1, 7, 8]), (100, [13, 5, 4], []), (20, [0, 6], [50, 1, 0, 0, 1, 3, 2, 0, 0, 1, 1]), (20, [0], [50, 1, 0, 0, 0, 3, 2, 0, 0, 0, 23]), (20, [0], [60, 2, 3, 670, 0, 1, 14, 7, 8]), (20, [0], [60, 2, 2, 596, 0, 1, 7, 8]), (100, [11, 5, 12], []), (20, [0, 6], [50, 1, 0, 0, 1, 3, 2, 0, 0, 1, 1]), (20, [0], [50, 1, 0, 0, 0, 3, 2, 0, 0, 0, 23]), (20, [0], [60, 2, 3, 670, 0, 1, 14, 7, 8]), (20, [0], [60, 2, 2, 596, 0, 1, 7, 8]), (100, [10, 5, 3], []), (20, [0, 6], [50, 1, 0, 0, 1, 3, 2, 0, 0, 1, 1]), (20, [0], [50, 1, 0, 0, 0, 3, 2, 0, 0, 0, 23]), (20, [0], [60, 2, 3, 670, 0, 1, 14, 7, 8]), (20, [0], [60, 2, 2, 596, 0, 1, 7, 8])], [], [], [(20, [0], [60, 2, 3, 670, 0, 1, 14, 7, 8]), (20, [0], [60, 2, 2, 596, 0, 1, 7, 8]), (20, [0, 6], [50, 1, 0, 0, 1, 3, 2, 0, 0, 4, 2, 1, 1, 0, 1]), (20, [5, 6], [50, 0, 0, 1, 2, 1, 0, 1, 1])], [], [(17, 5, 1, 1)])
theorem oo_Gr_addNode_at_Gr_newGrperform45_1 {kA : Nat → ClassId} : or_ok PRD kA GG o_Gr_addNode_at_Gr_newGrperform45_1 := by
  refine or_mk fun A ta ws vs hD hth hl => ?_
  intro t0 r0 t5 k5 t6 k6 t10 r10 t11 r11 t13 r13 t14 r14 t15 k15 t16 k16 t17 k17 d0 f0 f1 f2 f3 f4 ta1 w1 le1 s1 f6 f7 f8 f9 f10 ta2 w2 le2 s2 f12 f13 f14 f15 ta3 w3 le3 s3 f17 f18 f19 f20 ta4 w4 le4 s4 f22 f23 f24 f25 ta5 w5 le5 s5 f27 f28 f29 f30
  replace f0 := shm_175 f0
  replace f1 := shm_116 f1
  replace f2 := shm_110 f2
  replace f3 := shm_109 f3
  replace f4 := shm_107 f4
  have s1 : (∀ b j, w_el ws b j = w_el w1 b j) ∧ ∀ b j, w_fd ws b j = if b = v_ad (n_v vs 0) ∧ j = 0 then n_v vs 17 else w_fd w1 b j := s1.2
  replace f7 := shm_175 f7
  replace f10 := shm_401 f10
  have s2 : (∀ b j, w_el w1 b j = if b = v_ad (n_v vs 14) ∧ j = (v_iv (n_v vs 5)).toNat then v_iv (n_v vs 15) else w_el w2 b j) ∧ ∀ b k, w_fd w1 b k = w_fd w2 b k := s2.2
  replace f14 := shm_811 f14
  replace f15 := shm_401 f15
  have s3 : (∀ b j, w_el w2 b j = if b = v_ad (n_v vs 13) ∧ j = (v_iv (n_v vs 5)).toNat then v_iv (n_v vs 4) else w_el w3 b j) ∧ ∀ b k, w_fd w2 b k = w_fd w3 b k := s3.2
  replace f19 := shm_811 f19
  replace f20 := shm_401 f20
  have s4 : (∀ b j, w_el w3 b j = if b = v_ad (n_v vs 11) ∧ j = (v_iv (n_v vs 5)).toNat then v_iv (n_v vs 12) else w_el w4 b j) ∧ ∀ b k, w_fd w3 b k = w_fd w4 b k := s4.2
  replace f24 := shm_811 f24
  replace f25 := shm_401 f25
  have s5 : (∀ b j, w_el w4 b j = if b = v_ad (n_v vs 10) ∧ j = (v_iv (n_v vs 5)).toNat then v_iv (n_v vs 3) else w_el w5 b j) ∧ ∀ b k, w_fd w4 b k = w_fd w5 b k := s5.2
  replace f29 := shm_811 f29
  replace f30 := shm_401 f30
  have cr_0_4 := fdq_5 hD hth r0
  have cr_0_5 := fdq_73 hD hth r0
  have cr_0_6 := fdq_207 hD hth r0
  have ar_0_7_1 : w_ar w1 (n_v vs 0) 7 = w_ar ws (n_v vs 0) 7 := by show v_ad (w_fd w1 _ _) = v_ad (w_fd ws _ _); rw [s1.2, if_neg (fun e => absurd e.2 (by decide))]
  have ar_0_7_2 : w_ar w2 (n_v vs 0) 7 = w_ar ws (n_v vs 0) 7 := by rw [← ar_0_7_1]; show v_ad (w_fd w2 _ _) = v_ad (w_fd w1 _ _); rw [s2.2]
  have ar_0_7_3 : w_ar w3 (n_v vs 0) 7 = w_ar ws (n_v vs 0) 7 := by rw [← ar_0_7_2]; show v_ad (w_fd w3 _ _) = v_ad (w_fd w2 _ _); rw [s3.2]
  have ar_0_7_4 : w_ar w4 (n_v vs 0) 7 = w_ar ws (n_v vs 0) 7 := by rw [← ar_0_7_3]; show v_ad (w_fd w4 _ _) = v_ad (w_fd w3 _ _); rw [s4.2]
  have ar_0_7_5 : w_ar w5 (n_v vs 0) 7 = w_ar ws (n_v vs 0) 7 := by rw [← ar_0_7_4]; show v_ad (w_fd w5 _ _) = v_ad (w_fd w4 _ _); rw [s5.2]
  have cr_0_7 := fdq_52 hD hth r0
  have ar_0_8_1 : w_ar w1 (n_v vs 0) 8 = w_ar ws (n_v vs 0) 8 := by show v_ad (w_fd w1 _ _) = v_ad (w_fd ws _ _); rw [s1.2, if_neg (fun e => absurd e.2 (by decide))]
  have ar_0_8_2 : w_ar w2 (n_v vs 0) 8 = w_ar ws (n_v vs 0) 8 := by rw [← ar_0_8_1]; show v_ad (w_fd w2 _ _) = v_ad (w_fd w1 _ _); rw [s2.2]
  have ar_0_8_3 : w_ar w3 (n_v vs 0) 8 = w_ar ws (n_v vs 0) 8 := by rw [← ar_0_8_2]; show v_ad (w_fd w3 _ _) = v_ad (w_fd w2 _ _); rw [s3.2]
  have ar_0_8_4 : w_ar w4 (n_v vs 0) 8 = w_ar ws (n_v vs 0) 8 := by rw [← ar_0_8_3]; show v_ad (w_fd w4 _ _) = v_ad (w_fd w3 _ _); rw [s4.2]
  have ar_0_8_5 : w_ar w5 (n_v vs 0) 8 = w_ar ws (n_v vs 0) 8 := by rw [← ar_0_8_4]; show v_ad (w_fd w5 _ _) = v_ad (w_fd w4 _ _); rw [s5.2]
  have cr_0_8 := fdq_53 hD hth r0
  have ar_0_14_1 : w_ar w1 (n_v vs 0) 14 = w_ar ws (n_v vs 0) 14 := by show v_ad (w_fd w1 _ _) = v_ad (w_fd ws _ _); rw [s1.2, if_neg (fun e => absurd e.2 (by decide))]
  have ar_0_14_2 : w_ar w2 (n_v vs 0) 14 = w_ar ws (n_v vs 0) 14 := by rw [← ar_0_14_1]; show v_ad (w_fd w2 _ _) = v_ad (w_fd w1 _ _); rw [s2.2]
  have ar_0_14_3 : w_ar w3 (n_v vs 0) 14 = w_ar ws (n_v vs 0) 14 := by rw [← ar_0_14_2]; show v_ad (w_fd w3 _ _) = v_ad (w_fd w2 _ _); rw [s3.2]
  have ar_0_14_4 : w_ar w4 (n_v vs 0) 14 = w_ar ws (n_v vs 0) 14 := by rw [← ar_0_14_3]; show v_ad (w_fd w4 _ _) = v_ad (w_fd w3 _ _); rw [s4.2]
  have ar_0_14_5 : w_ar w5 (n_v vs 0) 14 = w_ar ws (n_v vs 0) 14 := by rw [← ar_0_14_4]; show v_ad (w_fd w5 _ _) = v_ad (w_fd w4 _ _); rw [s5.2]
  have cr_0_14 := fdq_79 hD hth r0
  have ad_14 : v_ad (n_v vs 14) = w_ar ws (n_v vs 0) 14 := congrArg v_ad f1
  have ad_13 : v_ad (n_v vs 13) = w_ar ws (n_v vs 0) 6 := congrArg v_ad f2
  have ad_11 : v_ad (n_v vs 11) = w_ar ws (n_v vs 0) 5 := congrArg v_ad f3
  have ad_10 : v_ad (n_v vs 10) = w_ar ws (n_v vs 0) 4 := congrArg v_ad f4
  have g0 : v_iv (n_v vs 17) = w_fi ws (n_v vs 0) 0 := congrArg v_iv f0
  have g7 : v_iv (n_v vs 5) = w_fi w1 (n_v vs 0) 0 := congrArg v_iv f7
  simp only [ar_0_7_1, ar_0_8_1, ar_0_7_2, ar_0_8_2, ar_0_14_2, ar_0_7_3, ar_0_8_3, ar_0_14_3, ar_0_7_4, ar_0_8_4, ar_0_14_4, ar_0_7_5, ar_0_8_5, ar_0_14_5] at f10 f14 f15 f19 f20 f24 f25 f29 f30
  have fe_0_0_1 : w_fi ws (n_v vs 0) 0 = v_iv (n_v vs 17) := by show v_iv (w_fd _ _ _) = _; rw [s1.2, if_pos ⟨rfl, rfl⟩]
  have fe_0_1_1 : w_fi ws (n_v vs 0) 1 = w_fi w1 (n_v vs 0) 1 := by show v_iv (w_fd _ _ _) = v_iv (w_fd _ _ _); rw [s1.2, if_neg (fun e => absurd e.2 (by decide))]
  have fe_0_0_2 : w_fi w1 (n_v vs 0) 0 = w_fi w2 (n_v vs 0) 0 := congrArg v_iv (s2.2 _ _)
  have fe_0_1_2 : w_fi w1 (n_v vs 0) 1 = w_fi w2 (n_v vs 0) 1 := congrArg v_iv (s2.2 _ _)
  have fe_0_0_3 : w_fi w2 (n_v vs 0) 0 = w_fi w3 (n_v vs 0) 0 := congrArg v_iv (s3.2 _ _)
  have fe_0_1_3 : w_fi w2 (n_v vs 0) 1 = w_fi w3 (n_v vs 0) 1 := congrArg v_iv (s3.2 _ _)
  have fe_0_0_4 : w_fi w3 (n_v vs 0) 0 = w_fi w4 (n_v vs 0) 0 := congrArg v_iv (s4.2 _ _)
  have fe_0_1_4 : w_fi w3 (n_v vs 0) 1 = w_fi w4 (n_v vs 0) 1 := congrArg v_iv (s4.2 _ _)
  have fe_0_0_5 : w_fi w4 (n_v vs 0) 0 = w_fi w5 (n_v vs 0) 0 := congrArg v_iv (s5.2 _ _)
  have fe_0_1_5 : w_fi w4 (n_v vs 0) 1 = w_fi w5 (n_v vs 0) 1 := congrArg v_iv (s5.2 _ _)
  have hE_0_4_1 : ∀ j : Int, w_ei ws (w_ar ws (n_v vs 0) 4) j = w_ei w1 (w_ar ws (n_v vs 0) 4) j := fun j => s1.1 _ _
  have hE_0_4_2 : ∀ j : Int, w_ei w1 (w_ar ws (n_v vs 0) 4) j = w_ei w2 (w_ar ws (n_v vs 0) 4) j := el_kp s2.1 r14 cr_0_4 (by decide)
  have hE_0_4_3 : ∀ j : Int, w_ei w2 (w_ar ws (n_v vs 0) 4) j = w_ei w3 (w_ar ws (n_v vs 0) 4) j := el_kp s3.1 r13 cr_0_4 (by decide)
  have hE_0_4_4 : ∀ j : Int, w_ei w3 (w_ar ws (n_v vs 0) 4) j = w_ei w4 (w_ar ws (n_v vs 0) 4) j := el_kp s4.1 r11 cr_0_4 (by decide)
  have hE_0_4_5 : ∀ j : Int, 0 ≤ j → (j = v_iv (n_v vs 5) → w_ei w4 (w_ar ws (n_v vs 0) 4) j = v_iv (n_v vs 3)) ∧ (j ≠ v_iv (n_v vs 5) → w_ei w4 (w_ar ws (n_v vs 0) 4) j = w_ei w5 (w_ar ws (n_v vs 0) 4) j) := fun j hj => ⟨fun h => by unfold w_ei; rw [s5.1, if_pos ⟨ad_10.symm, by rw [h]⟩], fun h => by unfold w_ei; rw [s5.1, if_neg (fun e => h (by have := e.2; omega))]⟩
  have hK_0_4 := elq_31 hD hth cr_0_4
  have hE_0_5_1 : ∀ j : Int, w_ei ws (w_ar ws (n_v vs 0) 5) j = w_ei w1 (w_ar ws (n_v vs 0) 5) j := fun j => s1.1 _ _
  have hE_0_5_2 : ∀ j : Int, w_ei w1 (w_ar ws (n_v vs 0) 5) j = w_ei w2 (w_ar ws (n_v vs 0) 5) j := el_kp s2.1 r14 cr_0_5 (by decide)
  have hE_0_5_3 : ∀ j : Int, w_ei w2 (w_ar ws (n_v vs 0) 5) j = w_ei w3 (w_ar ws (n_v vs 0) 5) j := el_kp s3.1 r13 cr_0_5 (by decide)
  have hE_0_5_4 : ∀ j : Int, 0 ≤ j → (j = v_iv (n_v vs 5) → w_ei w3 (w_ar ws (n_v vs 0) 5) j = v_iv (n_v vs 12)) ∧ (j ≠ v_iv (n_v vs 5) → w_ei w3 (w_ar ws (n_v vs 0) 5) j = w_ei w4 (w_ar ws (n_v vs 0) 5) j) := fun j hj => ⟨fun h => by unfold w_ei; rw [s4.1, if_pos ⟨ad_11.symm, by rw [h]⟩], fun h => by unfold w_ei; rw [s4.1, if_neg (fun e => h (by have := e.2; omega))]⟩
  have hE_0_5_5 : ∀ j : Int, w_ei w4 (w_ar ws (n_v vs 0) 5) j = w_ei w5 (w_ar ws (n_v vs 0) 5) j := el_kp s5.1 r10 cr_0_5 (by decide)
  have hK_0_5 := elq_124 hD hth cr_0_5
  have hE_0_6_1 : ∀ j : Int, w_ei ws (w_ar ws (n_v vs 0) 6) j = w_ei w1 (w_ar ws (n_v vs 0) 6) j := fun j => s1.1 _ _
  have hE_0_6_2 : ∀ j : Int, w_ei w1 (w_ar ws (n_v vs 0) 6) j = w_ei w2 (w_ar ws (n_v vs 0) 6) j := el_kp s2.1 r14 cr_0_6 (by decide)
  have hE_0_6_3 : ∀ j : Int, 0 ≤ j → (j = v_iv (n_v vs 5) → w_ei w2 (w_ar ws (n_v vs 0) 6) j = v_iv (n_v vs 4)) ∧ (j ≠ v_iv (n_v vs 5) → w_ei w2 (w_ar ws (n_v vs 0) 6) j = w_ei w3 (w_ar ws (n_v vs 0) 6) j) := fun j hj => ⟨fun h => by unfold w_ei; rw [s3.1, if_pos ⟨ad_13.symm, by rw [h]⟩], fun h => by unfold w_ei; rw [s3.1, if_neg (fun e => h (by have := e.2; omega))]⟩
  have hE_0_6_4 : ∀ j : Int, w_ei w3 (w_ar ws (n_v vs 0) 6) j = w_ei w4 (w_ar ws (n_v vs 0) 6) j := el_kp s4.1 r11 cr_0_6 (by decide)
  have hE_0_6_5 : ∀ j : Int, w_ei w4 (w_ar ws (n_v vs 0) 6) j = w_ei w5 (w_ar ws (n_v vs 0) 6) j := el_kp s5.1 r10 cr_0_6 (by decide)
  have hK_0_6 := elq_125 hD hth cr_0_6
  have hE_0_7_1 : ∀ j : Int, w_ei ws (w_ar ws (n_v vs 0) 7) j = w_ei w1 (w_ar ws (n_v vs 0) 7) j := fun j => s1.1 _ _
  have hE_0_7_2 : ∀ j : Int, w_ei w1 (w_ar ws (n_v vs 0) 7) j = w_ei w2 (w_ar ws (n_v vs 0) 7) j := el_kp s2.1 r14 cr_0_7 (by decide)
  have hE_0_7_3 : ∀ j : Int, w_ei w2 (w_ar ws (n_v vs 0) 7) j = w_ei w3 (w_ar ws (n_v vs 0) 7) j := el_kp s3.1 r13 cr_0_7 (by decide)
  have hE_0_7_4 : ∀ j : Int, w_ei w3 (w_ar ws (n_v vs 0) 7) j = w_ei w4 (w_ar ws (n_v vs 0) 7) j := el_kp s4.1 r11 cr_0_7 (by decide)
  have hE_0_7_5 : ∀ j : Int, w_ei w4 (w_ar ws (n_v vs 0) 7) j = w_ei w5 (w_ar ws (n_v vs 0) 7) j := el_kp s5.1 r10 cr_0_7 (by decide)
  have hK_0_7 := elq_10 hD hth cr_0_7
  have hE_0_8_1 : ∀ j : Int, w_ei ws (w_ar ws (n_v vs 0) 8) j = w_ei w1 (w_ar ws (n_v vs 0) 8) j := fun j => s1.1 _ _
  have hE_0_8_2 : ∀ j : Int, w_ei w1 (w_ar ws (n_v vs 0) 8) j = w_ei w2 (w_ar ws (n_v vs 0) 8) j := el_kp s2.1 r14 cr_0_8 (by decide)
  have hE_0_8_3 : ∀ j : Int, w_ei w2 (w_ar ws (n_v vs 0) 8) j = w_ei w3 (w_ar ws (n_v vs 0) 8) j := el_kp s3.1 r13 cr_0_8 (by decide)
  have hE_0_8_4 : ∀ j : Int, w_ei w3 (w_ar ws (n_v vs 0) 8) j = w_ei w4 (w_ar ws (n_v vs 0) 8) j := el_kp s4.1 r11 cr_0_8 (by decide)
  have hE_0_8_5 : ∀ j : Int, w_ei w4 (w_ar ws (n_v vs 0) 8) j = w_ei w5 (w_ar ws (n_v vs 0) 8) j := el_kp s5.1 r10 cr_0_8 (by decide)
  have hK_0_8 := elq_11 hD hth cr_0_8
  have hE_0_14_1 : ∀ j : Int, w_ei ws (w_ar ws (n_v vs 0) 14) j = w_ei w1 (w_ar ws (n_v vs 0) 14) j := fun j => s1.1 _ _
  have hE_0_14_2 : ∀ j : Int, 0 ≤ j → (j = v_iv (n_v vs 5) → w_ei w1 (w_ar ws (n_v vs 0) 14) j = v_iv (n_v vs 15)) ∧ (j ≠ v_iv (n_v vs 5) → w_ei w1 (w_ar ws (n_v vs 0) 14) j = w_ei w2 (w_ar ws (n_v vs 0) 14) j) := fun j hj => ⟨fun h => by unfold w_ei; rw [s2.1, if_pos ⟨ad_14.symm, by rw [h]⟩], fun h => by unfold w_ei; rw [s2.1, if_neg (fun e => h (by have := e.2; omega))]⟩
  have hE_0_14_3 : ∀ j : Int, w_ei w2 (w_ar ws (n_v vs 0) 14) j = w_ei w3 (w_ar ws (n_v vs 0) 14) j := el_kp s3.1 r13 cr_0_14 (by decide)
  have hE_0_14_4 : ∀ j : Int, w_ei w3 (w_ar ws (n_v vs 0) 14) j = w_ei w4 (w_ar ws (n_v vs 0) 14) j := el_kp s4.1 r11 cr_0_14 (by decide)
  have hE_0_14_5 : ∀ j : Int, w_ei w4 (w_ar ws (n_v vs 0) 14) j = w_ei w5 (w_ar ws (n_v vs 0) 14) j := el_kp s5.1 r10 cr_0_14 (by decide)
  have hK_0_14 := elq_24 hD hth cr_0_14
  have kz_0_0 := fdq_23 hD hth r0
  have kz_0_1 := fdq_38 hD hth r0
  have nf0 : fc_1 PRD (20, [0], [60, 2, 3, 670, 0, 1, 14, 7, 8]) ws (vs) := ⟨nf_in hl rfl, sgq_811 (vc_Gr_addNode_at_Gr_newGrperform45_1_0 (v_iv (n_v vs 5)) (v_iv (n_v vs 6)) (v_iv (n_v vs 15)) (v_iv (n_v vs 16)) (v_iv (n_v vs 17)) (w_fi ws (n_v vs 0) 0) (w_fi w1 (n_v vs 0) 0) (w_ei w1 (w_ar ws (n_v vs 0) 7)) (w_ei w1 (w_ar ws (n_v vs 0) 8)) (w_fi w1 (n_v vs 0) 1) (w_fi w2 (n_v vs 0) 0) (w_ei w2 (w_ar ws (n_v vs 0) 14)) (w_ei w2 (w_ar ws (n_v vs 0) 7)) (w_ei w2 (w_ar ws (n_v vs 0) 8)) (w_fi w2 (n_v vs 0) 1) (w_fi w3 (n_v vs 0) 0) (w_ei w3 (w_ar ws (n_v vs 0) 14)) (w_ei w3 (w_ar ws (n_v vs 0) 7)) (w_ei w3 (w_ar ws (n_v vs 0) 8)) (w_fi w3 (n_v vs 0) 1) (w_fi w4 (n_v vs 0) 0) (w_ei w4 (w_ar ws (n_v vs 0) 14)) (w_ei w4 (w_ar ws (n_v vs 0) 7)) (w_ei w4 (w_ar ws (n_v vs 0) 8)) (w_fi w4 (n_v vs 0) 1) (w_fi w5 (n_v vs 0) 0) (w_ei w5 (w_ar ws (n_v vs 0) 14)) (w_ei w5 (w_ar ws (n_v vs 0) 7)) (w_ei w5 (w_ar ws (n_v vs 0) 8)) (w_fi w5 (n_v vs 0) 1) (w_fi ws (n_v vs 0) 1) (w_ei ws (w_ar ws (n_v vs 0) 4)) (w_ei w1 (w_ar ws (n_v vs 0) 4)) (w_ei w2 (w_ar ws (n_v vs 0) 4)) (w_ei w3 (w_ar ws (n_v vs 0) 4)) (w_ei w4 (w_ar ws (n_v vs 0) 4)) (w_ei w5 (w_ar ws (n_v vs 0) 4)) (v_iv (n_v vs 3)) (w_ei ws (w_ar ws (n_v vs 0) 5)) (w_ei w1 (w_ar ws (n_v vs 0) 5)) (w_ei w2 (w_ar ws (n_v vs 0) 5)) (w_ei w3 (w_ar ws (n_v vs 0) 5)) (w_ei w4 (w_ar ws (n_v vs 0) 5)) (v_iv (n_v vs 12)) (w_ei w5 (w_ar ws (n_v vs 0) 5)) (w_ei ws (w_ar ws (n_v vs 0) 6)) (w_ei w1 (w_ar ws (n_v vs 0) 6)) (w_ei w2 (w_ar ws (n_v vs 0) 6)) (w_ei w3 (w_ar ws (n_v vs 0) 6)) (v_iv (n_v vs 4)) (w_ei w4 (w_ar ws (n_v vs 0) 6)) (w_ei w5 (w_ar ws (n_v vs 0) 6)) (w_ei ws (w_ar ws (n_v vs 0) 7)) (w_ei ws (w_ar ws (n_v vs 0) 8)) (w_ei ws (w_ar ws (n_v vs 0) 14)) (w_ei w1 (w_ar ws (n_v vs 0) 14)) k5 k6 k15 k16 k17 d0 g0 (shm_12 f6) g7 (shm_560 f8) (shm_814 f9) f10 (shm_560 f12) (shm_814 f13) f14 f15 (shm_560 f17) (shm_814 f18) f19 f20 (shm_560 f22) (shm_814 f23) f24 f25 (shm_560 f27) (shm_814 f28) f29 f30 fe_0_0_1 fe_0_1_1 fe_0_0_2 fe_0_1_2 fe_0_0_3 fe_0_1_3 fe_0_0_4 fe_0_1_4 fe_0_0_5 fe_0_1_5 hE_0_4_1 hE_0_4_2 hE_0_4_3 hE_0_4_4 hE_0_4_5 hK_0_4 hE_0_5_1 hE_0_5_2 hE_0_5_3 hE_0_5_4 hE_0_5_5 hK_0_5 hE_0_6_1 hE_0_6_2 hE_0_6_3 hE_0_6_4 hE_0_6_5 hK_0_6 hE_0_7_1 hE_0_7_2 hE_0_7_3 hE_0_7_4 hE_0_7_5 hK_0_7 hE_0_8_1 hE_0_8_2 hE_0_8_3 hE_0_8_4 hE_0_8_5 hK_0_8 hE_0_14_1 hE_0_14_2 hE_0_14_3 hE_0_14_4 hE_0_14_5 hK_0_14 kz_0_0 kz_0_1)⟩
  have nf1 : fc_1 PRD (20, [0], [60, 2, 2, 596, 0, 1, 7, 8]) ws (vs) := ⟨nf_in hl rfl, sgq_401 (vc_Gr_addNode_at_Gr_newGrperform45_1_1 (v_iv (n_v vs 5)) (v_iv (n_v vs 6)) (v_iv (n_v vs 15)) (v_iv (n_v vs 16)) (v_iv (n_v vs 17)) (w_fi ws (n_v vs 0) 0) (w_fi w1 (n_v vs 0) 0) (w_ei w1 (w_ar ws (n_v vs 0) 7)) (w_ei w1 (w_ar ws (n_v vs 0) 8)) (w_fi w1 (n_v vs 0) 1) (w_fi w2 (n_v vs 0) 0) (w_ei w2 (w_ar ws (n_v vs 0) 14)) (w_ei w2 (w_ar ws (n_v vs 0) 7)) (w_ei w2 (w_ar ws (n_v vs 0) 8)) (w_fi w2 (n_v vs 0) 1) (w_fi w3 (n_v vs 0) 0) (w_ei w3 (w_ar ws (n_v vs 0) 14)) (w_ei w3 (w_ar ws (n_v vs 0) 7)) (w_ei w3 (w_ar ws (n_v vs 0) 8)) (w_fi w3 (n_v vs 0) 1) (w_fi w4 (n_v vs 0) 0) (w_ei w4 (w_ar ws (n_v vs 0) 14)) (w_ei w4 (w_ar ws (n_v vs 0) 7)) (w_ei w4 (w_ar ws (n_v vs 0) 8)) (w_fi w4 (n_v vs 0) 1) (w_fi w5 (n_v vs 0) 0) (w_ei w5 (w_ar ws (n_v vs 0) 14)) (w_ei w5 (w_ar ws (n_v vs 0) 7)) (w_ei w5 (w_ar ws (n_v vs 0) 8)) (w_fi w5 (n_v vs 0) 1) (w_fi ws (n_v vs 0) 1) (w_ei ws (w_ar ws (n_v vs 0) 4)) (w_ei w1 (w_ar ws (n_v vs 0) 4)) (w_ei w2 (w_ar ws (n_v vs 0) 4)) (w_ei w3 (w_ar ws (n_v vs 0) 4)) (w_ei w4 (w_ar ws (n_v vs 0) 4)) (w_ei w5 (w_ar ws (n_v vs 0) 4)) (v_iv (n_v vs 3)) (w_ei ws (w_ar ws (n_v vs 0) 5)) (w_ei w1 (w_ar ws (n_v vs 0) 5)) (w_ei w2 (w_ar ws (n_v vs 0) 5)) (w_ei w3 (w_ar ws (n_v vs 0) 5)) (w_ei w4 (w_ar ws (n_v vs 0) 5)) (v_iv (n_v vs 12)) (w_ei w5 (w_ar ws (n_v vs 0) 5)) (w_ei ws (w_ar ws (n_v vs 0) 6)) (w_ei w1 (w_ar ws (n_v vs 0) 6)) (w_ei w2 (w_ar ws (n_v vs 0) 6)) (w_ei w3 (w_ar ws (n_v vs 0) 6)) (v_iv (n_v vs 4)) (w_ei w4 (w_ar ws (n_v vs 0) 6)) (w_ei w5 (w_ar ws (n_v vs 0) 6)) (w_ei ws (w_ar ws (n_v vs 0) 7)) (w_ei ws (w_ar ws (n_v vs 0) 8)) (w_ei ws (w_ar ws (n_v vs 0) 14)) (w_ei w1 (w_ar ws (n_v vs 0) 14)) k5 k6 k15 k16 k17 d0 g0 (shm_12 f6) g7 (shm_560 f8) (shm_814 f9) f10 (shm_560 f12) (shm_814 f13) f14 f15 (shm_560 f17) (shm_814 f18) f19 f20 (shm_560 f22) (shm_814 f23) f24 f25 (shm_560 f27) (shm_814 f28) f29 f30 fe_0_0_1 fe_0_1_1 fe_0_0_2 fe_0_1_2 fe_0_0_3 fe_0_1_3 fe_0_0_4 fe_0_1_4 fe_0_0_5 fe_0_1_5 hE_0_4_1 hE_0_4_2 hE_0_4_3 hE_0_4_4 hE_0_4_5 hK_0_4 hE_0_5_1 hE_0_5_2 hE_0_5_3 hE_0_5_4 hE_0_5_5 hK_0_5 hE_0_6_1 hE_0_6_2 hE_0_6_3 hE_0_6_4 hE_0_6_5 hK_0_6 hE_0_7_1 hE_0_7_2 hE_0_7_3 hE_0_7_4 hE_0_7_5 hK_0_7 hE_0_8_1 hE_0_8_2 hE_0_8_3 hE_0_8_4 hE_0_8_5 hK_0_8 hE_0_14_1 hE_0_14_2 hE_0_14_3 hE_0_14_4 hE_0_14_5 hK_0_14 kz_0_0 kz_0_1)⟩
  have nf2 : fc_1 PRD (20, [0, 6], [50, 1, 0, 0, 1, 3, 2, 0, 0, 4, 2, 1, 1, 0, 1]) ws (vs) := ⟨nf_in hl rfl, sgq_816 (vc_Gr_addNode_at_Gr_newGrperform45_1_2 (v_iv (n_v vs 5)) (v_iv (n_v vs 6)) (v_iv (n_v vs 15)) (v_iv (n_v vs 16)) (v_iv (n_v vs 17)) (w_fi ws (n_v vs 0) 0) (w_fi w1 (n_v vs 0) 0) (w_ei w1 (w_ar ws (n_v vs 0) 7)) (w_ei w1 (w_ar ws (n_v vs 0) 8)) (w_fi w1 (n_v vs 0) 1) (w_fi w2 (n_v vs 0) 0) (w_ei w2 (w_ar ws (n_v vs 0) 14)) (w_ei w2 (w_ar ws (n_v vs 0) 7)) (w_ei w2 (w_ar ws (n_v vs 0) 8)) (w_fi w2 (n_v vs 0) 1) (w_fi w3 (n_v vs 0) 0) (w_ei w3 (w_ar ws (n_v vs 0) 14)) (w_ei w3 (w_ar ws (n_v vs 0) 7)) (w_ei w3 (w_ar ws (n_v vs 0) 8)) (w_fi w3 (n_v vs 0) 1) (w_fi w4 (n_v vs 0) 0) (w_ei w4 (w_ar ws (n_v vs 0) 14)) (w_ei w4 (w_ar ws (n_v vs 0) 7)) (w_ei w4 (w_ar ws (n_v vs 0) 8)) (w_fi w4 (n_v vs 0) 1) (w_fi w5 (n_v vs 0) 0) (w_ei w5 (w_ar ws (n_v vs 0) 14)) (w_ei w5 (w_ar ws (n_v vs 0) 7)) (w_ei w5 (w_ar ws (n_v vs 0) 8)) (w_fi w5 (n_v vs 0) 1) (w_fi ws (n_v vs 0) 1) (w_ei ws (w_ar ws (n_v vs 0) 4)) (w_ei w1 (w_ar ws (n_v vs 0) 4)) (w_ei w2 (w_ar ws (n_v vs 0) 4)) (w_ei w3 (w_ar ws (n_v vs 0) 4)) (w_ei w4 (w_ar ws (n_v vs 0) 4)) (w_ei w5 (w_ar ws (n_v vs 0) 4)) (v_iv (n_v vs 3)) (w_ei ws (w_ar ws (n_v vs 0) 5)) (w_ei w1 (w_ar ws (n_v vs 0) 5)) (w_ei w2 (w_ar ws (n_v vs 0) 5)) (w_ei w3 (w_ar ws (n_v vs 0) 5)) (w_ei w4 (w_ar ws (n_v vs 0) 5)) (v_iv (n_v vs 12)) (w_ei w5 (w_ar ws (n_v vs 0) 5)) (w_ei ws (w_ar ws (n_v vs 0) 6)) (w_ei w1 (w_ar ws (n_v vs 0) 6)) (w_ei w2 (w_ar ws (n_v vs 0) 6)) (w_ei w3 (w_ar ws (n_v vs 0) 6)) (v_iv (n_v vs 4)) (w_ei w4 (w_ar ws (n_v vs 0) 6)) (w_ei w5 (w_ar ws (n_v vs 0) 6)) (w_ei ws (w_ar ws (n_v vs 0) 7)) (w_ei ws (w_ar ws (n_v vs 0) 8)) (w_ei ws (w_ar ws (n_v vs 0) 14)) (w_ei w1 (w_ar ws (n_v vs 0) 14)) k5 k6 k15 k16 k17 d0 g0 (shm_12 f6) g7 (shm_560 f8) (shm_814 f9) f10 (shm_560 f12) (shm_814 f13) f14 f15 (shm_560 f17) (shm_814 f18) f19 f20 (shm_560 f22) (shm_814 f23) f24 f25 (shm_560 f27) (shm_814 f28) f29 f30 fe_0_0_1 fe_0_1_1 fe_0_0_2 fe_0_1_2 fe_0_0_3 fe_0_1_3 fe_0_0_4 fe_0_1_4 fe_0_0_5 fe_0_1_5 hE_0_4_1 hE_0_4_2 hE_0_4_3 hE_0_4_4 hE_0_4_5 hK_0_4 hE_0_5_1 hE_0_5_2 hE_0_5_3 hE_0_5_4 hE_0_5_5 hK_0_5 hE_0_6_1 hE_0_6_2 hE_0_6_3 hE_0_6_4 hE_0_6_5 hK_0_6 hE_0_7_1 hE_0_7_2 hE_0_7_3 hE_0_7_4 hE_0_7_5 hK_0_7 hE_0_8_1 hE_0_8_2 hE_0_8_3 hE_0_8_4 hE_0_8_5 hK_0_8 hE_0_14_1 hE_0_14_2 hE_0_14_3 hE_0_14_4 hE_0_14_5 hK_0_14 kz_0_0 kz_0_1)⟩
  have nf3 : fc_1 PRD (20, [5, 6], [50, 0, 0, 1, 2, 1, 0, 1, 1]) ws (vs) := ⟨nf_in hl rfl, sgq_48 (vc_Gr_addNode_at_Gr_newGrperform45_1_3 (v_iv (n_v vs 5)) (v_iv (n_v vs 6)) (v_iv (n_v vs 15)) (v_iv (n_v vs 16)) (v_iv (n_v vs 17)) (w_fi ws (n_v vs 0) 0) (w_fi w1 (n_v vs 0) 0) (w_ei w1 (w_ar ws (n_v vs 0) 7)) (w_ei w1 (w_ar ws (n_v vs 0) 8)) (w_fi w1 (n_v vs 0) 1) (w_fi w2 (n_v vs 0) 0) (w_ei w2 (w_ar ws (n_v vs 0) 14)) (w_ei w2 (w_ar ws (n_v vs 0) 7)) (w_ei w2 (w_ar ws (n_v vs 0) 8)) (w_fi w2 (n_v vs 0) 1) (w_fi w3 (n_v vs 0) 0) (w_ei w3 (w_ar ws (n_v vs 0) 14)) (w_ei w3 (w_ar ws (n_v vs 0) 7)) (w_ei w3 (w_ar ws (n_v vs 0) 8)) (w_fi w3 (n_v vs 0) 1) (w_fi w4 (n_v vs 0) 0) (w_ei w4 (w_ar ws (n_v vs 0) 14)) (w_ei w4 (w_ar ws (n_v vs 0) 7)) (w_ei w4 (w_ar ws (n_v vs 0) 8)) (w_fi w4 (n_v vs 0) 1) (w_fi w5 (n_v vs 0) 0) (w_ei w5 (w_ar ws (n_v vs 0) 14)) (w_ei w5 (w_ar ws (n_v vs 0) 7)) (w_ei w5 (w_ar ws (n_v vs 0) 8)) (w_fi w5 (n_v vs 0) 1) (w_fi ws (n_v vs 0) 1) (w_ei ws (w_ar ws (n_v vs 0) 4)) (w_ei w1 (w_ar ws (n_v vs 0) 4)) (w_ei w2 (w_ar ws (n_v vs 0) 4)) (w_ei w3 (w_ar ws (n_v vs 0) 4)) (w_ei w4 (w_ar ws (n_v vs 0) 4)) (w_ei w5 (w_ar ws (n_v vs 0) 4)) (v_iv (n_v vs 3)) (w_ei ws (w_ar ws (n_v vs 0) 5)) (w_ei w1 (w_ar ws (n_v vs 0) 5)) (w_ei w2 (w_ar ws (n_v vs 0) 5)) (w_ei w3 (w_ar ws (n_v vs 0) 5)) (w_ei w4 (w_ar ws (n_v vs 0) 5)) (v_iv (n_v vs 12)) (w_ei w5 (w_ar ws (n_v vs 0) 5)) (w_ei ws (w_ar ws (n_v vs 0) 6)) (w_ei w1 (w_ar ws (n_v vs 0) 6)) (w_ei w2 (w_ar ws (n_v vs 0) 6)) (w_ei w3 (w_ar ws (n_v vs 0) 6)) (v_iv (n_v vs 4)) (w_ei w4 (w_ar ws (n_v vs 0) 6)) (w_ei w5 (w_ar ws (n_v vs 0) 6)) (w_ei ws (w_ar ws (n_v vs 0) 7)) (w_ei ws (w_ar ws (n_v vs 0) 8)) (w_ei ws (w_ar ws (n_v vs 0) 14)) (w_ei w1 (w_ar ws (n_v vs 0) 14)) k5 k6 k15 k16 k17 d0 g0 (shm_12 f6) g7 (shm_560 f8) (shm_814 f9) f10 (shm_560 f12) (shm_814 f13) f14 f15 (shm_560 f17) (shm_814 f18) f19 f20 (shm_560 f22) (shm_814 f23) f24 f25 (shm_560 f27) (shm_814 f28) f29 f30 fe_0_0_1 fe_0_1_1 fe_0_0_2 fe_0_1_2 fe_0_0_3 fe_0_1_3 fe_0_0_4 fe_0_1_4 fe_0_0_5 fe_0_1_5 hE_0_4_1 hE_0_4_2 hE_0_4_3 hE_0_4_4 hE_0_4_5 hK_0_4 hE_0_5_1 hE_0_5_2 hE_0_5_3 hE_0_5_4 hE_0_5_5 hK_0_5 hE_0_6_1 hE_0_6_2 hE_0_6_3 hE_0_6_4 hE_0_6_5 hK_0_6 hE_0_7_1 hE_0_7_2 hE_0_7_3 hE_0_7_4 hE_0_7_5 hK_0_7 hE_0_8_1 hE_0_8_2 hE_0_8_3 hE_0_8_4 hE_0_8_5 hK_0_8 hE_0_14_1 hE_0_14_2 hE_0_14_3 hE_0_14_4 hE_0_14_5 hK_0_14 kz_0_0 kz_0_1)⟩
  refine ⟨(fun _ h => (by cases h)), [], trivial, ?_, (fun _ h => (by cases h))⟩
  rw [List.append_nil]
  exact List.forall_mem_cons.mpr ⟨⟨show (20 : Nat) < 100 from by decide, nf0⟩, List.forall_mem_cons.mpr ⟨⟨show (20 : Nat) < 100 from by decide, nf1⟩, List.forall_mem_cons.mpr ⟨⟨show (20 : Nat) < 100 from by decide, nf2⟩, List.forall_mem_cons.mpr ⟨⟨show (20 : Nat) < 100 from by decide, nf3⟩, (fun _ h => (by cases h))⟩⟩⟩⟩
def n_Gr_addNode_at_Gr_newGrperform45_an : List an_T := []
def t_Gr_addNode_at_Gr_newGrperform45_ct : ct_L := [(57, 77, e_acp_2)]
set_option maxRecDepth 100000 in
theorem c_Gr_addNode_at_Gr_newGrperform45 {l : Launch} {D : va_G} {kA : Nat → ClassId} : ct_ok PRD l D kA GG y_Gr_addNode_at_Gr_newGrperform45 z_Gr_addNode_at_Gr_newGrperform45 e_Gr_addNode_at_Gr_newGrperform45 := chk_all_ok (FT := [(9, 3, 0), (21, 3, 3), (25, 3, 4), (29, 3, 5), (32, 3, 6), (56, 3, 14)]) (PT := [(9, 3, 0, .int)]) (CT := t_Gr_addNode_at_Gr_newGrperform45_ct) (KT := []) (NT := []) (AN := n_Gr_addNode_at_Gr_newGrperform45_an) (OT := [o_Gr_addNode_at_Gr_newGrperform45_0, o_Gr_addNode_at_Gr_newGrperform45_1]) 0 200 (List.forall_mem_cons.mpr ⟨oo_Gr_addNode_at_Gr_newGrperform45_0, List.forall_mem_cons.mpr ⟨oo_Gr_addNode_at_Gr_newGrperform45_1, List.forall_mem_nil _⟩⟩) (by decide +kernel) ⟨List.forall_mem_cons.mpr ⟨gf_Gr_9, List.forall_mem_cons.mpr ⟨gf_Gr_21, List.forall_mem_cons.mpr ⟨gf_Gr_25, List.forall_mem_cons.mpr ⟨gf_Gr_29, List.forall_mem_cons.mpr ⟨gf_Gr_32, List.forall_mem_cons.mpr ⟨gf_Gr_56, List.forall_mem_nil _⟩⟩⟩⟩⟩⟩, List.forall_mem_cons.mpr ⟨pf_Gr_9, List.forall_mem_nil _⟩, List.forall_mem_cons.mpr ⟨cl_copy rfl rfl (by decide) (by decide) (by decide) wm_748 wm_750 wm_749 wm_15, List.forall_mem_nil _⟩, List.forall_mem_nil _, List.forall_mem_nil _, GG_pl⟩ (by decide +kernel)
set_option maxHeartbeats 4000000 in
theorem vc_Gr_clear_at_Gq_0_0 (x1 : Int) (x2 : Int) (x4 : Int) (x5 : Int) (x7 : Int) (undone_0 : Int) (done_0 : Int) (edges_0 : Int) (nodes_0 : Int) (near_0 : Int → Int) (tail_0 : Int → Int) (head_0 : Int → Int) (k1 : 0 ≤ x1 ∧ x1 ≤ 0) (k2 : 0 ≤ x2 ∧ x2 ≤ 0) (k4 : 0 ≤ x4 ∧ x4 ≤ 0) (k5 : 0 ≤ x5 ∧ x5 ≤ 0) (k7 : 0 ≤ x7 ∧ x7 ≤ 0) (g1 : x5 = undone_0) (g2 : x4 = done_0) (g3 : x2 = edges_0) (g4 : x1 = nodes_0) (hT5 : ∀ j : Int, 0 ≤ j → j < x7 + 24 → 0 ≤ near_0 j ∧ near_0 j ≤ 0) (hK_0_7 : ∀ j : Int, 0 ≤ j → j < 48 → 0 ≤ tail_0 j ∧ tail_0 j ≤ 23) (hK_0_8 : ∀ j : Int, 0 ≤ j → j < 48 → 0 ≤ head_0 j ∧ head_0 j ≤ 23) (hK_0_14 : ∀ j : Int, 0 ≤ j → j < 24 → 0 ≤ near_0 j ∧ near_0 j ≤ 16777215) (kz_0_0 : 0 ≤ nodes_0 ∧ nodes_0 ≤ 24) (kz_0_1 : 0 ≤ edges_0 ∧ edges_0 ≤ 48) (kz_0_17 : 0 ≤ done_0 ∧ done_0 ≤ 30) (kz_0_18 : 0 ≤ undone_0 ∧ undone_0 ≤ 30) : GNB (nodes_0) (edges_0) (near_0) (tail_0) (head_0) := by
  first
    | assumption
    | exact gnb_none2 (by omega) (by omega)
  
set_option maxHeartbeats 4000000 in
theorem vc_Gr_clear_at_Gq_0_1 (x1 : Int) (x2 : Int) (x4 : Int) (x5 : Int) (x7 : Int) (undone_0 : Int) (done_0 : Int) (edges_0 : Int) (nodes_0 : Int) (near_0 : Int → Int) (tail_0 : Int → Int) (head_0 : Int → Int) (k1 : 0 ≤ x1 ∧ x1 ≤ 0) (k2 : 0 ≤ x2 ∧ x2 ≤ 0) (k4 : 0 ≤ x4 ∧ x4 ≤ 0) (k5 : 0 ≤ x5 ∧ x5 ≤ 0) (k7 : 0 ≤ x7 ∧ x7 ≤ 0) (g1 : x5 = undone_0) (g2 : x4 = done_0) (g3 : x2 = edges_0) (g4 : x1 = nodes_0) (hT5 : ∀ j : Int, 0 ≤ j → j < x7 + 24 → 0 ≤ near_0 j ∧ near_0 j ≤ 0) (hK_0_7 : ∀ j : Int, 0 ≤ j → j < 48 → 0 ≤ tail_0 j ∧ tail_0 j ≤ 23) (hK_0_8 : ∀ j : Int, 0 ≤ j → j < 48 → 0 ≤ head_0 j ∧ head_0 j ≤ 23) (hK_0_14 : ∀ j : Int, 0 ≤ j → j < 24 → 0 ≤ near_0 j ∧ near_0 j ≤ 16777215) (kz_0_0 : 0 ≤ nodes_0 ∧ nodes_0 ≤ 24) (kz_0_1 : 0 ≤ edges_0 ∧ edges_0 ≤ 48) (kz_0_17 : 0 ≤ done_0 ∧ done_0 ≤ 30) (kz_0_18 : 0 ≤ undone_0 ∧ undone_0 ≤ 30) : GKE (nodes_0) (edges_0) (tail_0) (head_0) := by
  first
    | assumption
    | exact gke_none (by omega)
  
set_option maxHeartbeats 4000000 in
theorem vc_Gr_clear_at_Gq_0_2 (x1 : Int) (x2 : Int) (x4 : Int) (x5 : Int) (x7 : Int) (undone_0 : Int) (done_0 : Int) (edges_0 : Int) (nodes_0 : Int) (near_0 : Int → Int) (tail_0 : Int → Int) (head_0 : Int → Int) (k1 : 0 ≤ x1 ∧ x1 ≤ 0) (k2 : 0 ≤ x2 ∧ x2 ≤ 0) (k4 : 0 ≤ x4 ∧ x4 ≤ 0) (k5 : 0 ≤ x5 ∧ x5 ≤ 0) (k7 : 0 ≤ x7 ∧ x7 ≤ 0) (g1 : x5 = undone_0) (g2 : x4 = done_0) (g3 : x2 = edges_0) (g4 : x1 = nodes_0) (hT5 : ∀ j : Int, 0 ≤ j → j < x7 + 24 → 0 ≤ near_0 j ∧ near_0 j ≤ 0) (hK_0_7 : ∀ j : Int, 0 ≤ j → j < 48 → 0 ≤ tail_0 j ∧ tail_0 j ≤ 23) (hK_0_8 : ∀ j : Int, 0 ≤ j → j < 48 → 0 ≤ head_0 j ∧ head_0 j ≤ 23) (hK_0_14 : ∀ j : Int, 0 ≤ j → j < 24 → 0 ≤ near_0 j ∧ near_0 j ≤ 16777215) (kz_0_0 : 0 ≤ nodes_0 ∧ nodes_0 ≤ 24) (kz_0_1 : 0 ≤ edges_0 ∧ edges_0 ≤ 48) (kz_0_17 : 0 ≤ done_0 ∧ done_0 ≤ 30) (kz_0_18 : 0 ≤ undone_0 ∧ undone_0 ≤ 30) : done_0 = 0 := by
  first
    | omega
  
set_option maxHeartbeats 4000000 in
theorem vc_Gr_clear_at_Gq_0_3 (x1 : Int) (x2 : Int) (x4 : Int) (x5 : Int) (x7 : Int) (undone_0 : Int) (done_0 : Int) (edges_0 : Int) (nodes_0 : Int) (near_0 : Int → Int) (tail_0 : Int → Int) (head_0 : Int → Int) (k1 : 0 ≤ x1 ∧ x1 ≤ 0) (k2 : 0 ≤ x2 ∧ x2 ≤ 0) (k4 : 0 ≤ x4 ∧ x4 ≤ 0) (k5 : 0 ≤ x5 ∧ x5 ≤ 0) (k7 : 0 ≤ x7 ∧ x7 ≤ 0) (g1 : x5 = undone_0) (g2 : x4 = done_0) (g3 : x2 = edges_0) (g4 : x1 = nodes_0) (hT5 : ∀ j : Int, 0 ≤ j → j < x7 + 24 → 0 ≤ near_0 j ∧ near_0 j ≤ 0) (hK_0_7 : ∀ j : Int, 0 ≤ j → j < 48 → 0 ≤ tail_0 j ∧ tail_0 j ≤ 23) (hK_0_8 : ∀ j : Int, 0 ≤ j → j < 48 → 0 ≤ head_0 j ∧ head_0 j ≤ 23) (hK_0_14 : ∀ j : Int, 0 ≤ j → j < 24 → 0 ≤ near_0 j ∧ near_0 j ≤ 16777215) (kz_0_0 : 0 ≤ nodes_0 ∧ nodes_0 ≤ 24) (kz_0_1 : 0 ≤ edges_0 ∧ edges_0 ≤ 48) (kz_0_17 : 0 ≤ done_0 ∧ done_0 ≤ 30) (kz_0_18 : 0 ≤ undone_0 ∧ undone_0 ≤ 30) : undone_0 = 0 := by
  first
    | omega
  
def o_Gr_clear_at_Gq_0 : or_T := (41, 10, [(0, (2, 0, 0, [164])), (1, (0, 0, 0, [])), (2, (0, 0, 0, [])), (4, (0, 0, 0, [])), (5, (0, 0, 0, [])), (7, (0, 0, 0, []))], [(9, [6, 0], [14]), (9, [5, 0], [18]), (9, [4, 0], [17]), (9, [2, 0], [1]), (9, [1, 0], [0]), (20, [6, 7], [8, 0, 0, 24])], [], [], [(20, [0], [60, 2, 3, 670, 0, 1, 14, 7, 8]), (20, [0], [60, 2, 2, 596, 0, 1, 7, 8]), (20, [0], [50, 1, 0, 17, 1, 3, 2, 0, 17, 0, 0]), (20, [0], [50, 1, 0, 18, 1, 3, 2, 0, 18, 0, 0])], [], [])
theorem oo_Gr_clear_at_Gq_0 {kA : Nat → ClassId} : or_ok PRD kA GG o_Gr_clear_at_Gq_0 := by
  refine or_mk fun A ta ws vs hD hth hl => ?_
  intro t0 r0 t1 k1 t2 k2 t4 k4 t5 k5 t7 k7 f0 f1 f2 f3 f4 f5
  replace f0 := shm_116 f0
  replace f1 := shm_785 f1
  replace f2 := shm_781 f2
  replace f3 := shm_127 f3
  replace f4 := shm_175 f4
  replace f5 := shm_18 f5
  have cr_0_7 := fdq_74 hD hth r0
  have cr_0_8 := fdq_75 hD hth r0
  have cr_0_14 := fdq_76 hD hth r0
  have ad_6 : v_ad (n_v vs 6) = w_ar ws (n_v vs 0) 14 := congrArg v_ad f0
  have g1 : v_iv (n_v vs 5) = w_fi ws (n_v vs 0) 18 := congrArg v_iv f1
  have g2 : v_iv (n_v vs 4) = w_fi ws (n_v vs 0) 17 := congrArg v_iv f2
  have g3 : v_iv (n_v vs 2) = w_fi ws (n_v vs 0) 1 := congrArg v_iv f3
  have g4 : v_iv (n_v vs 1) = w_fi ws (n_v vs 0) 0 := congrArg v_iv f4
  have hT5 : ∀ j : Int, 0 ≤ j → j < v_iv (n_v vs 7) + 24 → 0 ≤ w_ei ws (w_ar ws (n_v vs 0) 14) j ∧ w_ei ws (w_ar ws (n_v vs 0) 14) j ≤ 0 := fun j h0 h1 => by have h2 := f5 j.toNat (by omega); rw [ad_6] at h2; exact h2
  have hK_0_7 := elq_32 hD hth cr_0_7
  have hK_0_8 := elq_33 hD hth cr_0_8
  have hK_0_14 := elq_34 hD hth cr_0_14
  have kz_0_0 := fdq_77 hD hth r0
  have kz_0_1 := fdq_78 hD hth r0
  have kz_0_17 := fdq_208 hD hth r0
  have kz_0_18 := fdq_209 hD hth r0
  have nf0 : fc_1 PRD (20, [0], [60, 2, 3, 670, 0, 1, 14, 7, 8]) ws (vs) := ⟨nf_in hl rfl, sgq_811 (vc_Gr_clear_at_Gq_0_0 (v_iv (n_v vs 1)) (v_iv (n_v vs 2)) (v_iv (n_v vs 4)) (v_iv (n_v vs 5)) (v_iv (n_v vs 7)) (w_fi ws (n_v vs 0) 18) (w_fi ws (n_v vs 0) 17) (w_fi ws (n_v vs 0) 1) (w_fi ws (n_v vs 0) 0) (w_ei ws (w_ar ws (n_v vs 0) 14)) (w_ei ws (w_ar ws (n_v vs 0) 7)) (w_ei ws (w_ar ws (n_v vs 0) 8)) k1 k2 k4 k5 k7 g1 g2 g3 g4 hT5 hK_0_7 hK_0_8 hK_0_14 kz_0_0 kz_0_1 kz_0_17 kz_0_18)⟩
  have nf1 : fc_1 PRD (20, [0], [60, 2, 2, 596, 0, 1, 7, 8]) ws (vs) := ⟨nf_in hl rfl, sgq_401 (vc_Gr_clear_at_Gq_0_1 (v_iv (n_v vs 1)) (v_iv (n_v vs 2)) (v_iv (n_v vs 4)) (v_iv (n_v vs 5)) (v_iv (n_v vs 7)) (w_fi ws (n_v vs 0) 18) (w_fi ws (n_v vs 0) 17) (w_fi ws (n_v vs 0) 1) (w_fi ws (n_v vs 0) 0) (w_ei ws (w_ar ws (n_v vs 0) 14)) (w_ei ws (w_ar ws (n_v vs 0) 7)) (w_ei ws (w_ar ws (n_v vs 0) 8)) k1 k2 k4 k5 k7 g1 g2 g3 g4 hT5 hK_0_7 hK_0_8 hK_0_14 kz_0_0 kz_0_1 kz_0_17 kz_0_18)⟩
  have nf2 : fc_1 PRD (20, [0], [50, 1, 0, 17, 1, 3, 2, 0, 17, 0, 0]) ws (vs) := ⟨nf_in hl rfl, sgq_817 (vc_Gr_clear_at_Gq_0_2 (v_iv (n_v vs 1)) (v_iv (n_v vs 2)) (v_iv (n_v vs 4)) (v_iv (n_v vs 5)) (v_iv (n_v vs 7)) (w_fi ws (n_v vs 0) 18) (w_fi ws (n_v vs 0) 17) (w_fi ws (n_v vs 0) 1) (w_fi ws (n_v vs 0) 0) (w_ei ws (w_ar ws (n_v vs 0) 14)) (w_ei ws (w_ar ws (n_v vs 0) 7)) (w_ei ws (w_ar ws (n_v vs 0) 8)) k1 k2 k4 k5 k7 g1 g2 g3 g4 hT5 hK_0_7 hK_0_8 hK_0_14 kz_0_0 kz_0_1 kz_0_17 kz_0_18)⟩
  have nf3 : fc_1 PRD (20, [0], [50, 1, 0, 18, 1, 3, 2, 0, 18, 0, 0]) ws (vs) := ⟨nf_in hl rfl, sgq_818 (vc_Gr_clear_at_Gq_0_3 (v_iv (n_v vs 1)) (v_iv (n_v vs 2)) (v_iv (n_v vs 4)) (v_iv (n_v vs 5)) (v_iv (n_v vs 7)) (w_fi ws (n_v vs 0) 18) (w_fi ws (n_v vs 0) 17) (w_fi ws (n_v vs 0) 1) (w_fi ws (n_v vs 0) 0) (w_ei ws (w_ar ws (n_v vs 0) 14)) (w_ei ws (w_ar ws (n_v vs 0) 7)) (w_ei ws (w_ar ws (n_v vs 0) 8)) k1 k2 k4 k5 k7 g1 g2 g3 g4 hT5 hK_0_7 hK_0_8 hK_0_14 kz_0_0 kz_0_1 kz_0_17 kz_0_18)⟩
  refine ⟨(fun _ h => (by cases h)), [], trivial, ?_, (fun _ h => (by cases h))⟩
  rw [List.append_nil]
  exact List.forall_mem_cons.mpr ⟨⟨show (20 : Nat) < 100 from by decide, nf0⟩, List.forall_mem_cons.mpr ⟨⟨show (20 : Nat) < 100 from by decide, nf1⟩, List.forall_mem_cons.mpr ⟨⟨show (20 : Nat) < 100 from by decide, nf2⟩, List.forall_mem_cons.mpr ⟨⟨show (20 : Nat) < 100 from by decide, nf3⟩, (fun _ h => (by cases h))⟩⟩⟩⟩
def n_Gr_clear_at_Gq_an : List an_T := []
def t_Gr_clear_at_Gq_ct : ct_L := [(93, 71, e_jArr_fill1_v9), (117, 71, e_jArr_fill1_v10)]
set_option maxRecDepth 100000 in
theorem c_Gr_clear_at_Gq {l : Launch} {D : va_G} {kA : Nat → ClassId} : ct_ok PRD l D kA GG y_Gr_clear_at_Gq z_Gr_clear_at_Gq e_Gr_clear_at_Gq := chk_all_ok (FT := [(56, 3, 14), (59, 3, 15)]) (PT := [(9, 3, 0, .int), (15, 3, 1, .int), (18, 3, 2, .int), (65, 3, 17, .int), (68, 3, 18, .int)]) (CT := t_Gr_clear_at_Gq_ct) (KT := []) (NT := []) (AN := n_Gr_clear_at_Gq_an) (OT := [o_Gr_clear_at_Gq_0]) 0 200 (List.forall_mem_cons.mpr ⟨oo_Gr_clear_at_Gq_0, List.forall_mem_nil _⟩) (by decide +kernel) ⟨List.forall_mem_cons.mpr ⟨gf_Gr_56, List.forall_mem_cons.mpr ⟨gf_Gr_59, List.forall_mem_nil _⟩⟩, List.forall_mem_cons.mpr ⟨pf_Gr_9, List.forall_mem_cons.mpr ⟨pf_Gr_15, List.forall_mem_cons.mpr ⟨pf_Gr_18, List.forall_mem_cons.mpr ⟨pf_Gr_65, List.forall_mem_cons.mpr ⟨pf_Gr_68, List.forall_mem_nil _⟩⟩⟩⟩⟩, List.forall_mem_cons.mpr ⟨cl_static (y := y_jArr_fill1) c_jArr_fill1_v9 wm_55 wm_4 wm_53 wm_54 ⟨by decide, by decide, by decide +kernel⟩ (by decide), List.forall_mem_cons.mpr ⟨cl_static (y := y_jArr_fill1) c_jArr_fill1_v10 wm_55 wm_4 wm_53 wm_54 ⟨by decide, by decide, by decide +kernel⟩ (by decide), List.forall_mem_nil _⟩⟩, List.forall_mem_nil _, List.forall_mem_nil _, GG_pl⟩ (by decide +kernel)
def o_Gr_findNode_at_Gq_Retape_0 : or_T := (3, 5, [], [], [], [], [(24, [0, 0], [])], [], [])
theorem oo_Gr_findNode_at_Gq_Retape_0 {kA : Nat → ClassId} : or_ok PRD kA GG o_Gr_findNode_at_Gq_Retape_0 := by
  refine or_mk fun A ta ws vs hD hth hl => ?_
  have nf0 : fc_1 PRD (24, [0, 0], []) ws (vs) := by
    refine ⟨nf_in hl rfl, sgq_1 ?_⟩
    · show n_v vs 0 = n_v vs 0
      first | rfl | simp only [true_and]
  refine ⟨(fun _ h => (by cases h)), [], trivial, ?_, (fun _ h => (by cases h))⟩
  rw [List.append_nil]
  exact List.forall_mem_cons.mpr ⟨⟨show (24 : Nat) < 100 from by decide, nf0⟩, (fun _ h => (by cases h))⟩
set_option maxHeartbeats 4000000 in
theorem vc_Gr_findNode_at_Gq_Retape_1_0 (x8 : Int) (x9 : Int) (x10 : Int) (nodes_0 : Int) (k8 : 0 ≤ x8 ∧ x8 ≤ 24) (k9 : 0 ≤ x9 ∧ x9 ≤ 24) (k10 : (-1) ≤ x10 ∧ x10 ≤ (-1)) (d0 : x9 + 0 ≤ x8 ∧ x8 ≤ x9 + 4294967296) (f0 : x9 ≤ x8) (g1 : x9 = nodes_0) (kz_0_0 : 0 ≤ nodes_0 ∧ nodes_0 ≤ 24) : (x10 = (-1)) ∨ ((0 ≤ x10) ∧ ((x10 + 1) ≤ nodes_0)) := by
  first
    | omega
  
def o_Gr_findNode_at_Gq_Retape_1 : or_T := (44, 11, [(0, (2, 0, 0, [164])), (8, (0, 0, 24, [])), (9, (0, 0, 24, [])), (10, (0, -1, -1, []))], [(7, [8, 9], [3]), (9, [9, 4], [0]), (24, [0, 4], [])], [], [], [(20, [10, 0], [50, 1, 0, 1000, 3, 6, 1, 2, 1, 0, 0, -1, 2, 6, 0, 2, 0, 0, 1, 0, 0, 6, 4, 2, 1, 0, 0, 1, 2, 1, 0])], [], [(8, 9, 0, 4294967296)])
theorem oo_Gr_findNode_at_Gq_Retape_1 {kA : Nat → ClassId} : or_ok PRD kA GG o_Gr_findNode_at_Gq_Retape_1 := by
  refine or_mk fun A ta ws vs hD hth hl => ?_
  intro t0 r0 t8 k8 t9 k9 t10 k10 d0 f0 f1 f2
  replace f1 := shm_175 f1
  replace f2 := shm_5 f2
  have q4 : n_v vs 4 = n_v vs 0 := f2.symm
  simp only [q4] at f1
  have g1 : v_iv (n_v vs 9) = w_fi ws (n_v vs 0) 0 := congrArg v_iv f1
  have kz_0_0 := fdq_77 hD hth r0
  have nf0 : fc_1 PRD (20, [10, 0], [50, 1, 0, 1000, 3, 6, 1, 2, 1, 0, 0, -1, 2, 6, 0, 2, 0, 0, 1, 0, 0, 6, 4, 2, 1, 0, 0, 1, 2, 1, 0]) ws (vs) := ⟨nf_in hl rfl, sgq_819 (vc_Gr_findNode_at_Gq_Retape_1_0 (v_iv (n_v vs 8)) (v_iv (n_v vs 9)) (v_iv (n_v vs 10)) (w_fi ws (n_v vs 0) 0) k8 k9 k10 d0 (shm_2 f0) g1 kz_0_0)⟩
  refine ⟨(fun _ h => (by cases h)), [], trivial, ?_, (fun _ h => (by cases h))⟩
  rw [List.append_nil]
  exact List.forall_mem_cons.mpr ⟨⟨show (20 : Nat) < 100 from by decide, nf0⟩, (fun _ h => (by cases h))⟩
set_option maxHeartbeats 4000000 in
theorem vc_Gr_findNode_at_Gq_Retape_2_0 (x6 : Int) (x7 : Int) (x8 : Int) (x9 : Int) (x11 : Int) (nameLength_0 : Int → Int) (nodes_0 : Int) (k6 : 0 ≤ x6 ∧ x6 ≤ 2000) (k7 : 0 ≤ x7 ∧ x7 ≤ 8) (k8 : 0 ≤ x8 ∧ x8 ≤ 23) (k9 : 1 ≤ x9 ∧ x9 ≤ 24) (k11 : 0 ≤ x11 ∧ x11 ≤ 8) (d0 : x7 + 0 ≤ x11 ∧ x11 ≤ x7 + 0) (d1 : x9 + (-4294967296) ≤ x8 ∧ x8 ≤ x9 + (-1)) (f0 : x11 = x7) (h1 : x11 = nameLength_0 (x8)) (f3 : x8 < x9) (g4 : x9 = nodes_0) (f5 : x6 + x7 ≤ 2000) (hK_0_4 : ∀ j : Int, 0 ≤ j → j < 24 → 0 ≤ nameLength_0 j ∧ nameLength_0 j ≤ 8) (kz_0_0 : 0 ≤ nodes_0 ∧ nodes_0 ≤ 24) : 1 * nameLength_0 (x8) + (1 * x6 + 0) ≤ 2000 := by
  first
    | omega
  
def o_Gr_findNode_at_Gq_Retape_2 : or_T := (28, 12, [(0, (2, 0, 0, [164])), (6, (0, 0, 2000, [])), (7, (0, 0, 8, [])), (8, (0, 0, 23, [])), (9, (0, 1, 24, [])), (11, (0, 0, 8, []))], [(7, [11, 7], [0]), (10, [11, 10, 8], []), (9, [10, 4], [4]), (7, [8, 9], [2]), (9, [9, 4], [0]), (21, [6, 7], [2000]), (24, [0, 4], [])], [], [], [(20, [4, 8, 6], [30, 2000, 1, 2, 4, 1, 0, 0])], [], [(11, 7, 0, 0), (8, 9, -4294967296, -1)])
theorem oo_Gr_findNode_at_Gq_Retape_2 {kA : Nat → ClassId} : or_ok PRD kA GG o_Gr_findNode_at_Gq_Retape_2 := by
  refine or_mk fun A ta ws vs hD hth hl => ?_
  intro t0 r0 t6 k6 t7 k7 t8 k8 t9 k9 t11 k11 d0 d1 f0 f1 f2 f3 f4 f5 f6
  replace f0 := shm_37 f0
  replace f1 := shm_106 f1
  replace f2 := shm_107 f2
  replace f3 := shm_6 f3
  replace f4 := shm_175 f4
  replace f5 := shm_813 f5
  replace f6 := shm_5 f6
  have q4 : n_v vs 4 = n_v vs 0 := f6.symm
  simp only [q4] at f2 f4
  have cr_0_4 := fdq_4 hD hth r0
  have ad_10 : v_ad (n_v vs 10) = w_ar ws (n_v vs 0) 4 := congrArg v_ad f2
  simp only [ad_10] at f1
  have h1 : v_iv (n_v vs 11) = w_ei ws (w_ar ws (n_v vs 0) 4) (v_iv (n_v vs 8)) := f1
  have g4 : v_iv (n_v vs 9) = w_fi ws (n_v vs 0) 0 := congrArg v_iv f4
  have hK_0_4 := elq_121 hD hth cr_0_4
  have kz_0_0 := fdq_77 hD hth r0
  have nf0 : fc_1 PRD (20, [4, 8, 6], [30, 2000, 1, 2, 4, 1, 0, 0]) ws (vs) := by
    refine ⟨nf_in hl rfl, sgq_112 ?_⟩
    · show 1 * w_el ws (w_ar ws (n_v vs 4) 4) (v_iv (n_v vs 8)).toNat + (1 * v_iv (n_v vs 6) + 0) ≤ 2000
      rw [q4]
      exact vc_Gr_findNode_at_Gq_Retape_2_0 (v_iv (n_v vs 6)) (v_iv (n_v vs 7)) (v_iv (n_v vs 8)) (v_iv (n_v vs 9)) (v_iv (n_v vs 11)) (w_ei ws (w_ar ws (n_v vs 0) 4)) (w_fi ws (n_v vs 0) 0) k6 k7 k8 k9 k11 d0 d1 f0 h1 f3 g4 f5 hK_0_4 kz_0_0
  refine ⟨(fun _ h => (by cases h)), [], trivial, ?_, (fun _ h => (by cases h))⟩
  rw [List.append_nil]
  exact List.forall_mem_cons.mpr ⟨⟨show (20 : Nat) < 100 from by decide, nf0⟩, (fun _ h => (by cases h))⟩
set_option maxHeartbeats 4000000 in
theorem vc_Gr_findNode_at_Gq_Retape_3_0 (x6 : Int) (x7 : Int) (x8 : Int) (x9 : Int) (x11 : Int) (nameLength_0 : Int → Int) (nodes_0 : Int) (k6 : 0 ≤ x6 ∧ x6 ≤ 2000) (k7 : 0 ≤ x7 ∧ x7 ≤ 8) (k8 : 0 ≤ x8 ∧ x8 ≤ 23) (k9 : 1 ≤ x9 ∧ x9 ≤ 24) (k11 : 0 ≤ x11 ∧ x11 ≤ 8) (d0 : x7 + 0 ≤ x11 ∧ x11 ≤ x7 + 0) (d1 : x9 + (-4294967296) ≤ x8 ∧ x8 ≤ x9 + (-1)) (f0 : 1 * nameLength_0 (x8) + (1 * x6 + 0) ≤ 2000) (f1 : x11 = x7) (h2 : x11 = nameLength_0 (x8)) (f4 : x8 < x9) (g5 : x9 = nodes_0) (f6 : x6 + x7 ≤ 2000) (hK_0_4 : ∀ j : Int, 0 ≤ j → j < 24 → 0 ≤ nameLength_0 j ∧ nameLength_0 j ≤ 8) (kz_0_0 : 0 ≤ nodes_0 ∧ nodes_0 ≤ 24) : (x8 = (-1)) ∨ ((0 ≤ x8) ∧ ((x8 + 1) ≤ nodes_0)) := by
  first
    | omega
  
def o_Gr_findNode_at_Gq_Retape_3 : or_T := (36, 13, [(0, (2, 0, 0, [164])), (6, (0, 0, 2000, [])), (7, (0, 0, 8, [])), (8, (0, 0, 23, [])), (9, (0, 1, 24, [])), (11, (0, 0, 8, []))], [(20, [4, 8, 6], [30, 2000, 1, 2, 4, 1, 0, 0]), (7, [11, 7], [0]), (10, [11, 10, 8], []), (9, [10, 4], [4]), (7, [8, 9], [2]), (9, [9, 4], [0]), (21, [6, 7], [2000]), (24, [0, 4], [])], [], [], [(20, [8, 0], [50, 1, 0, 1000, 3, 6, 1, 2, 1, 0, 0, -1, 2, 6, 0, 2, 0, 0, 1, 0, 0, 6, 4, 2, 1, 0, 0, 1, 2, 1, 0])], [], [(11, 7, 0, 0), (8, 9, -4294967296, -1)])
theorem oo_Gr_findNode_at_Gq_Retape_3 {kA : Nat → ClassId} : or_ok PRD kA GG o_Gr_findNode_at_Gq_Retape_3 := by
  refine or_mk fun A ta ws vs hD hth hl => ?_
  intro t0 r0 t6 k6 t7 k7 t8 k8 t9 k9 t11 k11 d0 d1 f0 f1 f2 f3 f4 f5 f6 f7
  replace f0 := shm_112 f0
  replace f2 := shm_106 f2
  replace f3 := shm_107 f3
  replace f5 := shm_175 f5
  replace f7 := shm_5 f7
  have q4 : n_v vs 4 = n_v vs 0 := f7.symm
  simp only [q4] at f0 f3 f5
  have cr_0_4 := fdq_4 hD hth r0
  have ad_10 : v_ad (n_v vs 10) = w_ar ws (n_v vs 0) 4 := congrArg v_ad f3
  simp only [ad_10] at f2
  have h2 : v_iv (n_v vs 11) = w_ei ws (w_ar ws (n_v vs 0) 4) (v_iv (n_v vs 8)) := f2
  have g5 : v_iv (n_v vs 9) = w_fi ws (n_v vs 0) 0 := congrArg v_iv f5
  have hK_0_4 := elq_121 hD hth cr_0_4
  have kz_0_0 := fdq_77 hD hth r0
  have nf0 : fc_1 PRD (20, [8, 0], [50, 1, 0, 1000, 3, 6, 1, 2, 1, 0, 0, -1, 2, 6, 0, 2, 0, 0, 1, 0, 0, 6, 4, 2, 1, 0, 0, 1, 2, 1, 0]) ws (vs) := ⟨nf_in hl rfl, sgq_819 (vc_Gr_findNode_at_Gq_Retape_3_0 (v_iv (n_v vs 6)) (v_iv (n_v vs 7)) (v_iv (n_v vs 8)) (v_iv (n_v vs 9)) (v_iv (n_v vs 11)) (w_ei ws (w_ar ws (n_v vs 0) 4)) (w_fi ws (n_v vs 0) 0) k6 k7 k8 k9 k11 d0 d1 f0 (shm_37 f1) h2 (shm_6 f4) g5 (shm_813 f6) hK_0_4 kz_0_0)⟩
  refine ⟨(fun _ h => (by cases h)), [], trivial, ?_, (fun _ h => (by cases h))⟩
  rw [List.append_nil]
  exact List.forall_mem_cons.mpr ⟨⟨show (20 : Nat) < 100 from by decide, nf0⟩, (fun _ h => (by cases h))⟩
def n_Gr_findNode_at_Gq_Retape_an : List an_T := [(3, [(0, (2, 0, 0, [164])), (1, (2, 0, 0, [109])), (2, (0, 0, 2000, [])), (3, (0, 0, 8, [])), (4, (0, 0, 24, []))], [], (0, 0), [(0, 0, 99997), (1, 8, 24), (0, 0, 100000)], [(2, 6, (Int.negSucc 999999999999), 0), (3, 7, (Int.negSucc 999999999999), 0), (6, 2, (Int.negSucc 999999999999), 0), (7, 3, (Int.negSucc 999999999999), 0)], [], [(2, 0, 0, [164]), (2, 0, 0, [109]), (0, 0, 2000, []), (0, 0, 8, [])], 0, [], [(21, [6, 7], [2000]), (24, [0, 4], [])])]
def t_Gr_findNode_at_Gq_Retape_ct : ct_L := [(88, 96, e_Gr_hasLetters_at_Gq_Retape)]
set_option maxRecDepth 100000 in
theorem c_Gr_findNode_at_Gq_Retape {l : Launch} {D : va_G} {kA : Nat → ClassId} (h_Gr_hasLetters_at_Gq_Retape : ct_ok PRD l D kA GG y_Gr_hasLetters_at_Gq_Retape z_Gr_hasLetters_at_Gq_Retape e_Gr_hasLetters_at_Gq_Retape) : ct_ok PRD l D kA GG y_Gr_findNode_at_Gq_Retape z_Gr_findNode_at_Gq_Retape e_Gr_findNode_at_Gq_Retape := chk_all_ok (FT := [(9, 3, 0), (25, 3, 4)]) (PT := []) (CT := t_Gr_findNode_at_Gq_Retape_ct) (KT := []) (NT := []) (AN := n_Gr_findNode_at_Gq_Retape_an) (OT := [o_Gr_findNode_at_Gq_Retape_0, o_Gr_findNode_at_Gq_Retape_1, o_Gr_findNode_at_Gq_Retape_2, o_Gr_findNode_at_Gq_Retape_3]) 3 200 (List.forall_mem_cons.mpr ⟨oo_Gr_findNode_at_Gq_Retape_0, List.forall_mem_cons.mpr ⟨oo_Gr_findNode_at_Gq_Retape_1, List.forall_mem_cons.mpr ⟨oo_Gr_findNode_at_Gq_Retape_2, List.forall_mem_cons.mpr ⟨oo_Gr_findNode_at_Gq_Retape_3, List.forall_mem_nil _⟩⟩⟩⟩) (by decide +kernel) ⟨List.forall_mem_cons.mpr ⟨gf_Gr_9, List.forall_mem_cons.mpr ⟨gf_Gr_25, List.forall_mem_nil _⟩⟩, List.forall_mem_nil _, List.forall_mem_cons.mpr ⟨cl_virtual (y := y_Gr_hasLetters_at_Gq_Retape) (ci := 3) rfl rfl ⟨_, _, rfl⟩ (by decide +kernel) h_Gr_hasLetters_at_Gq_Retape wm_743 wm_3 wm_740 wm_742 wv_1_7 ⟨by decide, by decide, by decide +kernel⟩ (by decide), List.forall_mem_nil _⟩, List.forall_mem_nil _, List.forall_mem_nil _, GG_pl⟩ (by decide +kernel)
def o_Gr_findNode_at_Gr_newGrhasNextName1_0 : or_T := (3, 5, [], [], [], [], [(24, [0, 0], [])], [], [])
theorem oo_Gr_findNode_at_Gr_newGrhasNextName1_0 {kA : Nat → ClassId} : or_ok PRD kA GG o_Gr_findNode_at_Gr_newGrhasNextName1_0 := by
  refine or_mk fun A ta ws vs hD hth hl => ?_
  have nf0 : fc_1 PRD (24, [0, 0], []) ws (vs) := by
    refine ⟨nf_in hl rfl, sgq_1 ?_⟩
    · show n_v vs 0 = n_v vs 0
      first | rfl | simp only [true_and]
  refine ⟨(fun _ h => (by cases h)), [], trivial, ?_, (fun _ h => (by cases h))⟩
  rw [List.append_nil]
  exact List.forall_mem_cons.mpr ⟨⟨show (24 : Nat) < 100 from by decide, nf0⟩, (fun _ h => (by cases h))⟩
set_option maxHeartbeats 4000000 in
theorem vc_Gr_findNode_at_Gr_newGrhasNextName1_1_0 (x8 : Int) (x9 : Int) (x10 : Int) (nodes_0 : Int) (k8 : 0 ≤ x8 ∧ x8 ≤ 24) (k9 : 0 ≤ x9 ∧ x9 ≤ 24) (k10 : (-1) ≤ x10 ∧ x10 ≤ (-1)) (d0 : x9 + 0 ≤ x8 ∧ x8 ≤ x9 + 4294967296) (f0 : x9 ≤ x8) (g1 : x9 = nodes_0) (kz_0_0 : 0 ≤ nodes_0 ∧ nodes_0 ≤ 24) : (x10 = (-1)) ∨ ((0 ≤ x10) ∧ ((x10 + 1) ≤ nodes_0)) := by
  first
    | omega
  
def o_Gr_findNode_at_Gr_newGrhasNextName1_1 : or_T := (44, 11, [(0, (2, 0, 0, [3])), (8, (0, 0, 24, [])), (9, (0, 0, 24, [])), (10, (0, -1, -1, []))], [(7, [8, 9], [3]), (9, [9, 4], [0]), (24, [0, 4], [])], [], [], [(20, [10, 0], [50, 1, 0, 1000, 3, 6, 1, 2, 1, 0, 0, -1, 2, 6, 0, 2, 0, 0, 1, 0, 0, 6, 4, 2, 1, 0, 0, 1, 2, 1, 0])], [], [(8, 9, 0, 4294967296)])
theorem oo_Gr_findNode_at_Gr_newGrhasNextName1_1 {kA : Nat → ClassId} : or_ok PRD kA GG o_Gr_findNode_at_Gr_newGrhasNextName1_1 := by
  refine or_mk fun A ta ws vs hD hth hl => ?_
  intro t0 r0 t8 k8 t9 k9 t10 k10 d0 f0 f1 f2
  replace f1 := shm_175 f1
  replace f2 := shm_5 f2
  have q4 : n_v vs 4 = n_v vs 0 := f2.symm
  simp only [q4] at f1
  have g1 : v_iv (n_v vs 9) = w_fi ws (n_v vs 0) 0 := congrArg v_iv f1
  have kz_0_0 := fdq_23 hD hth r0
  have nf0 : fc_1 PRD (20, [10, 0], [50, 1, 0, 1000, 3, 6, 1, 2, 1, 0, 0, -1, 2, 6, 0, 2, 0, 0, 1, 0, 0, 6, 4, 2, 1, 0, 0, 1, 2, 1, 0]) ws (vs) := ⟨nf_in hl rfl, sgq_819 (vc_Gr_findNode_at_Gr_newGrhasNextName1_1_0 (v_iv (n_v vs 8)) (v_iv (n_v vs 9)) (v_iv (n_v vs 10)) (w_fi ws (n_v vs 0) 0) k8 k9 k10 d0 (shm_2 f0) g1 kz_0_0)⟩
  refine ⟨(fun _ h => (by cases h)), [], trivial, ?_, (fun _ h => (by cases h))⟩
  rw [List.append_nil]
  exact List.forall_mem_cons.mpr ⟨⟨show (20 : Nat) < 100 from by decide, nf0⟩, (fun _ h => (by cases h))⟩
set_option maxHeartbeats 4000000 in
theorem vc_Gr_findNode_at_Gr_newGrhasNextName1_2_0 (x6 : Int) (x7 : Int) (x8 : Int) (x9 : Int) (x11 : Int) (nameLength_0 : Int → Int) (nodes_0 : Int) (k6 : 0 ≤ x6 ∧ x6 ≤ 0) (k7 : 2 ≤ x7 ∧ x7 ≤ 3) (k8 : 0 ≤ x8 ∧ x8 ≤ 23) (k9 : 1 ≤ x9 ∧ x9 ≤ 24) (k11 : 2 ≤ x11 ∧ x11 ≤ 3) (d0 : x7 + 0 ≤ x11 ∧ x11 ≤ x7 + 0) (d1 : x9 + (-4294967296) ≤ x8 ∧ x8 ≤ x9 + (-1)) (f0 : x11 = x7) (h1 : x11 = nameLength_0 (x8)) (f3 : x8 < x9) (g4 : x9 = nodes_0) (f5 : x6 + x7 ≤ 3) (hK_0_4 : ∀ j : Int, 0 ≤ j → j < 24 → 0 ≤ nameLength_0 j ∧ nameLength_0 j ≤ 8) (kz_0_0 : 0 ≤ nodes_0 ∧ nodes_0 ≤ 24) : 1 * nameLength_0 (x8) + (1 * x6 + 0) ≤ 3 := by
  first
    | omega
  
def o_Gr_findNode_at_Gr_newGrhasNextName1_2 : or_T := (28, 12, [(0, (2, 0, 0, [3])), (6, (0, 0, 0, [])), (7, (0, 2, 3, [])), (8, (0, 0, 23, [])), (9, (0, 1, 24, [])), (11, (0, 2, 3, []))], [(7, [11, 7], [0]), (10, [11, 10, 8], []), (9, [10, 4], [4]), (7, [8, 9], [2]), (9, [9, 4], [0]), (21, [6, 7], [3]), (24, [0, 4], [])], [], [], [(20, [4, 8, 6], [30, 3, 1, 2, 4, 1, 0, 0])], [], [(11, 7, 0, 0), (8, 9, -4294967296, -1)])
theorem oo_Gr_findNode_at_Gr_newGrhasNextName1_2 {kA : Nat → ClassId} : or_ok PRD kA GG o_Gr_findNode_at_Gr_newGrhasNextName1_2 := by
  refine or_mk fun A ta ws vs hD hth hl => ?_
  intro t0 r0 t6 k6 t7 k7 t8 k8 t9 k9 t11 k11 d0 d1 f0 f1 f2 f3 f4 f5 f6
  replace f0 := shm_37 f0
  replace f1 := shm_106 f1
  replace f2 := shm_107 f2
  replace f3 := shm_6 f3
  replace f4 := shm_175 f4
  replace f5 := shm_186 f5
  replace f6 := shm_5 f6
  have q4 : n_v vs 4 = n_v vs 0 := f6.symm
  simp only [q4] at f2 f4
  have cr_0_4 := fdq_5 hD hth r0
  have ad_10 : v_ad (n_v vs 10) = w_ar ws (n_v vs 0) 4 := congrArg v_ad f2
  simp only [ad_10] at f1
  have h1 : v_iv (n_v vs 11) = w_ei ws (w_ar ws (n_v vs 0) 4) (v_iv (n_v vs 8)) := f1
  have g4 : v_iv (n_v vs 9) = w_fi ws (n_v vs 0) 0 := congrArg v_iv f4
  have hK_0_4 := elq_31 hD hth cr_0_4
  have kz_0_0 := fdq_23 hD hth r0
  have nf0 : fc_1 PRD (20, [4, 8, 6], [30, 3, 1, 2, 4, 1, 0, 0]) ws (vs) := by
    refine ⟨nf_in hl rfl, sgq_113 ?_⟩
    · show 1 * w_el ws (w_ar ws (n_v vs 4) 4) (v_iv (n_v vs 8)).toNat + (1 * v_iv (n_v vs 6) + 0) ≤ 3
      rw [q4]
      exact vc_Gr_findNode_at_Gr_newGrhasNextName1_2_0 (v_iv (n_v vs 6)) (v_iv (n_v vs 7)) (v_iv (n_v vs 8)) (v_iv (n_v vs 9)) (v_iv (n_v vs 11)) (w_ei ws (w_ar ws (n_v vs 0) 4)) (w_fi ws (n_v vs 0) 0) k6 k7 k8 k9 k11 d0 d1 f0 h1 f3 g4 f5 hK_0_4 kz_0_0
  refine ⟨(fun _ h => (by cases h)), [], trivial, ?_, (fun _ h => (by cases h))⟩
  rw [List.append_nil]
  exact List.forall_mem_cons.mpr ⟨⟨show (20 : Nat) < 100 from by decide, nf0⟩, (fun _ h => (by cases h))⟩
set_option maxHeartbeats 4000000 in
theorem vc_Gr_findNode_at_Gr_newGrhasNextName1_3_0 (x6 : Int) (x7 : Int) (x8 : Int) (x9 : Int) (x11 : Int) (nameLength_0 : Int → Int) (nodes_0 : Int) (k6 : 0 ≤ x6 ∧ x6 ≤ 0) (k7 : 2 ≤ x7 ∧ x7 ≤ 3) (k8 : 0 ≤ x8 ∧ x8 ≤ 23) (k9 : 1 ≤ x9 ∧ x9 ≤ 24) (k11 : 2 ≤ x11 ∧ x11 ≤ 3) (d0 : x7 + 0 ≤ x11 ∧ x11 ≤ x7 + 0) (d1 : x9 + (-4294967296) ≤ x8 ∧ x8 ≤ x9 + (-1)) (f0 : 1 * nameLength_0 (x8) + (1 * x6 + 0) ≤ 3) (f1 : x11 = x7) (h2 : x11 = nameLength_0 (x8)) (f4 : x8 < x9) (g5 : x9 = nodes_0) (f6 : x6 + x7 ≤ 3) (hK_0_4 : ∀ j : Int, 0 ≤ j → j < 24 → 0 ≤ nameLength_0 j ∧ nameLength_0 j ≤ 8) (kz_0_0 : 0 ≤ nodes_0 ∧ nodes_0 ≤ 24) : (x8 = (-1)) ∨ ((0 ≤ x8) ∧ ((x8 + 1) ≤ nodes_0)) := by
  first
    | omega
  
def o_Gr_findNode_at_Gr_newGrhasNextName1_3 : or_T := (36, 13, [(0, (2, 0, 0, [3])), (6, (0, 0, 0, [])), (7, (0, 2, 3, [])), (8, (0, 0, 23, [])), (9, (0, 1, 24, [])), (11, (0, 2, 3, []))], [(20, [4, 8, 6], [30, 3, 1, 2, 4, 1, 0, 0]), (7, [11, 7], [0]), (10, [11, 10, 8], []), (9, [10, 4], [4]), (7, [8, 9], [2]), (9, [9, 4], [0]), (21, [6, 7], [3]), (24, [0, 4], [])], [], [], [(20, [8, 0], [50, 1, 0, 1000, 3, 6, 1, 2, 1, 0, 0, -1, 2, 6, 0, 2, 0, 0, 1, 0, 0, 6, 4, 2, 1, 0, 0, 1, 2, 1, 0])], [], [(11, 7, 0, 0), (8, 9, -4294967296, -1)])
theorem oo_Gr_findNode_at_Gr_newGrhasNextName1_3 {kA : Nat → ClassId} : or_ok PRD kA GG o_Gr_findNode_at_Gr_newGrhasNextName1_3 := by
  refine or_mk fun A ta ws vs hD hth hl => ?_
  intro t0 r0 t6 k6 t7 k7 t8 k8 t9 k9 t11 k11 d0 d1 f0 f1 f2 f3 f4 f5 f6 f7
  replace f0 := shm_113 f0
  replace f2 := shm_106 f2
  replace f3 := shm_107 f3
  replace f5 := shm_175 f5
  replace f7 := shm_5 f7
  have q4 : n_v vs 4 = n_v vs 0 := f7.symm
  simp only [q4] at f0 f3 f5
  have cr_0_4 := fdq_5 hD hth r0
  have ad_10 : v_ad (n_v vs 10) = w_ar ws (n_v vs 0) 4 := congrArg v_ad f3
  simp only [ad_10] at f2
  have h2 : v_iv (n_v vs 11) = w_ei ws (w_ar ws (n_v vs 0) 4) (v_iv (n_v vs 8)) := f2
  have g5 : v_iv (n_v vs 9) = w_fi ws (n_v vs 0) 0 := congrArg v_iv f5
  have hK_0_4 := elq_31 hD hth cr_0_4
  have kz_0_0 := fdq_23 hD hth r0
  have nf0 : fc_1 PRD (20, [8, 0], [50, 1, 0, 1000, 3, 6, 1, 2, 1, 0, 0, -1, 2, 6, 0, 2, 0, 0, 1, 0, 0, 6, 4, 2, 1, 0, 0, 1, 2, 1, 0]) ws (vs) := ⟨nf_in hl rfl, sgq_819 (vc_Gr_findNode_at_Gr_newGrhasNextName1_3_0 (v_iv (n_v vs 6)) (v_iv (n_v vs 7)) (v_iv (n_v vs 8)) (v_iv (n_v vs 9)) (v_iv (n_v vs 11)) (w_ei ws (w_ar ws (n_v vs 0) 4)) (w_fi ws (n_v vs 0) 0) k6 k7 k8 k9 k11 d0 d1 f0 (shm_37 f1) h2 (shm_6 f4) g5 (shm_186 f6) hK_0_4 kz_0_0)⟩
  refine ⟨(fun _ h => (by cases h)), [], trivial, ?_, (fun _ h => (by cases h))⟩
  rw [List.append_nil]
  exact List.forall_mem_cons.mpr ⟨⟨show (20 : Nat) < 100 from by decide, nf0⟩, (fun _ h => (by cases h))⟩
def n_Gr_findNode_at_Gr_newGrhasNextName1_an : List an_T := [(3, [(0, (2, 0, 0, [3])), (1, (2, 0, 0, [296])), (2, (0, 0, 0, [])), (3, (0, 2, 3, [])), (4, (0, 0, 24, []))], [], (0, 0), [(0, 0, 99997), (1, 8, 24), (0, 0, 100000)], [(3, 7, (Int.negSucc 999999999999), 0), (7, 3, (Int.negSucc 999999999999), 0)], [], [(2, 0, 0, [3]), (2, 0, 0, [296]), (0, 0, 0, []), (0, 2, 3, [])], 0, [], [(21, [6, 7], [3]), (24, [0, 4], [])])]
def t_Gr_findNode_at_Gr_newGrhasNextName1_ct : ct_L := [(88, 96, e_Gr_hasLetters_at_Gr_newGrhasNextName1)]
set_option maxRecDepth 100000 in
theorem c_Gr_findNode_at_Gr_newGrhasNextName1 {l : Launch} {D : va_G} {kA : Nat → ClassId} (h_Gr_hasLetters_at_Gr_newGrhasNextName1 : ct_ok PRD l D kA GG y_Gr_hasLetters_at_Gr_newGrhasNextName1 z_Gr_hasLetters_at_Gr_newGrhasNextName1 e_Gr_hasLetters_at_Gr_newGrhasNextName1) : ct_ok PRD l D kA GG y_Gr_findNode_at_Gr_newGrhasNextName1 z_Gr_findNode_at_Gr_newGrhasNextName1 e_Gr_findNode_at_Gr_newGrhasNextName1 := chk_all_ok (FT := [(9, 3, 0), (25, 3, 4)]) (PT := []) (CT := t_Gr_findNode_at_Gr_newGrhasNextName1_ct) (KT := []) (NT := []) (AN := n_Gr_findNode_at_Gr_newGrhasNextName1_an) (OT := [o_Gr_findNode_at_Gr_newGrhasNextName1_0, o_Gr_findNode_at_Gr_newGrhasNextName1_1, o_Gr_findNode_at_Gr_newGrhasNextName1_2, o_Gr_findNode_at_Gr_newGrhasNextName1_3]) 3 200 (List.forall_mem_cons.mpr ⟨oo_Gr_findNode_at_Gr_newGrhasNextName1_0, List.forall_mem_cons.mpr ⟨oo_Gr_findNode_at_Gr_newGrhasNextName1_1, List.forall_mem_cons.mpr ⟨oo_Gr_findNode_at_Gr_newGrhasNextName1_2, List.forall_mem_cons.mpr ⟨oo_Gr_findNode_at_Gr_newGrhasNextName1_3, List.forall_mem_nil _⟩⟩⟩⟩) (by decide +kernel) ⟨List.forall_mem_cons.mpr ⟨gf_Gr_9, List.forall_mem_cons.mpr ⟨gf_Gr_25, List.forall_mem_nil _⟩⟩, List.forall_mem_nil _, List.forall_mem_cons.mpr ⟨cl_virtual (y := y_Gr_hasLetters_at_Gr_newGrhasNextName1) (ci := 3) rfl rfl ⟨_, _, rfl⟩ (by decide +kernel) h_Gr_hasLetters_at_Gr_newGrhasNextName1 wm_743 wm_3 wm_740 wm_742 wv_1_7 ⟨by decide, by decide, by decide +kernel⟩ (by decide), List.forall_mem_nil _⟩, List.forall_mem_nil _, List.forall_mem_nil _, GG_pl⟩ (by decide +kernel)

set_option maxHeartbeats 4000000 in
theorem vc_Gr_pack_0_0 (x1 : Int) (x3 : Int) (x4 : Int) (x5 : Int) (x6 : Int) (x7 : Int) (x8 : Int) (x9 : Int) (x10 : Int) (edges_0 : Int) (nodes_0 : Int) (tail_0 : Int → Int) (head_0 : Int → Int) (tail_1 : Int → Int) (head_1 : Int → Int) (nodes_1 : Int) (edges_1 : Int) (past_2 : Int → Int) (tail_2 : Int → Int) (head_2 : Int → Int) (nodes_2 : Int) (edges_2 : Int) (past_0 : Int → Int) (past_1 : Int → Int) (k1 : 0 ≤ x1 ∧ x1 ≤ 30) (k3 : 122 ≤ x3 ∧ x3 ≤ 122) (k4 : 0 ≤ x4 ∧ x4 ≤ 3660) (k5 : 0 ≤ x5 ∧ x5 ≤ 24) (k6 : 1 ≤ x6 ∧ x6 ≤ 1) (k7 : 1 ≤ x7 ∧ x7 ≤ 3661) (k8 : 0 ≤ x8 ∧ x8 ≤ 48) (k9 : 2 ≤ x9 ∧ x9 ≤ 3662) (k10 : 0 ≤ x10 ∧ x10 ≤ 0) (d0 : x4 + 2 ≤ x9 ∧ x9 ≤ x4 + 2) (d1 : x4 + 1 ≤ x7 ∧ x7 ≤ x4 + 1) (g0 : x8 = edges_0) (g1 : x5 = nodes_0) (f3 : x9 = x4 + 2) (f4 : GKE (nodes_0) (edges_0) (tail_0) (head_0)) (f6 : x7 = x4 + x6) (f7 : GKE (nodes_1) (edges_1) (tail_1) (head_1)) (f9 : x4 = x1 * 122) (f10 : PRO (past_2) (x1)) (f11 : GKE (nodes_2) (edges_2) (tail_2) (head_2)) (fe_0_0_1 : nodes_0 = nodes_1) (fe_0_1_1 : edges_0 = edges_1) (fe_0_0_2 : nodes_1 = nodes_2) (fe_0_1_2 : edges_1 = edges_2) (hE_0_7_1 : ∀ j : Int, tail_0 j = tail_1 j) (hE_0_7_2 : ∀ j : Int, tail_1 j = tail_2 j) (hK_0_7 : ∀ j : Int, 0 ≤ j → j < 48 → 0 ≤ tail_0 j ∧ tail_0 j ≤ 23) (hE_0_8_1 : ∀ j : Int, head_0 j = head_1 j) (hE_0_8_2 : ∀ j : Int, head_1 j = head_2 j) (hK_0_8 : ∀ j : Int, 0 ≤ j → j < 48 → 0 ≤ head_0 j ∧ head_0 j ≤ 23) (hE_0_16_1 : ∀ j : Int, 0 ≤ j → (j = x7 → past_0 j = x8) ∧ (j ≠ x7 → past_0 j = past_1 j)) (hE_0_16_2 : ∀ j : Int, 0 ≤ j → (j = x4 → past_1 j = x5) ∧ (j ≠ x4 → past_1 j = past_2 j)) (kz_0_0 : 0 ≤ nodes_0 ∧ nodes_0 ≤ 24) (kz_0_1 : 0 ≤ edges_0 ∧ edges_0 ≤ 48) : PK1 (nodes_0) (edges_0) (past_0) (x1) (x9) (x10) := by
  subst fe_0_0_1
  subst fe_0_1_1
  subst fe_0_0_2
  subst fe_0_1_2
  have e_hE_0_7_1 := funext hE_0_7_1; subst e_hE_0_7_1
  have e_hE_0_7_2 := funext hE_0_7_2; subst e_hE_0_7_2
  have e_hE_0_8_1 := funext hE_0_8_1; subst e_hE_0_8_1
  have e_hE_0_8_2 := funext hE_0_8_2; subst e_hE_0_8_2
  first
    | assumption
    | exact pk1_start (k := x4) ‹PRO _ _› (by omega) (by omega) (by omega) (by omega) (by omega) (by omega) (by omega) hE_0_16_2 rfl (by omega) hE_0_16_1 (by omega) (by omega) (by omega) (by omega)
    | exact pk1_step ‹PK1 _ _ _ _ _ _› (by omega) hE_0_16_3 rfl hE_0_16_2 (by omega) hE_0_16_1 (by omega) (pnw_of (a := x22) (b := x24) (c := x29) (t := x26) (u := x31) (x := x27) (y := x32) (s1 := x25) (s2 := x30) (by assumption) (by omega) (by assumption) (by assumption) (by omega) (by assumption) (by omega) (by omega) (by omega) (by omega) (by omega) (by omega) (by omega) (by omega) (by omega) (by omega)) (by omega) (by omega)
  
def o_Gr_pack_0 : or_T := (32, 11, [(0, (2, 0, 0, [3])), (1, (0, 0, 30, [])), (2, (2, 0, 0, [61])), (3, (0, 122, 122, [])), (4, (0, 0, 3660, [])), (5, (0, 0, 24, [])), (6, (0, 1, 1, [])), (7, (0, 1, 3661, [])), (8, (0, 0, 48, [])), (9, (0, 2, 3662, [])), (10, (0, 0, 0, []))], [(9, [8, 0], [1]), (9, [5, 0], [0]), (9, [2, 0], [16]), (6, [9, 4], [2]), (20, [0], [60, 2, 2, 596, 0, 1, 7, 8]), (100, [2, 7, 8], []), (1, [7, 4, 6], []), (20, [0], [60, 2, 2, 596, 0, 1, 7, 8]), (100, [2, 4, 5], []), (3, [4, 1, 3], []), (20, [0, 1], [60, 0, 1, 737, 16]), (20, [0], [60, 2, 2, 596, 0, 1, 7, 8])], [], [], [(20, [0, 1, 9, 10], [60, 2, 1, 741, 0, 1, 16]), (24, [0, 0], []), (24, [1, 1], [])], [], [(9, 4, 2, 2), (7, 4, 1, 1)])
theorem oo_Gr_pack_0 {kA : Nat → ClassId} : or_ok PRD kA GG o_Gr_pack_0 := by
  refine or_mk fun A ta ws vs hD hth hl => ?_
  intro t0 r0 t1 k1 t2 r2 t3 k3 t4 k4 t5 k5 t6 k6 t7 k7 t8 k8 t9 k9 t10 k10 d0 d1 f0 f1 f2 f3 f4 ta1 w1 le1 s1 f6 f7 ta2 w2 le2 s2 f9 f10 f11
  replace f0 := shm_127 f0
  replace f1 := shm_175 f1
  replace f2 := shm_188 f2
  have s1 : (∀ b j, w_el ws b j = if b = v_ad (n_v vs 2) ∧ j = (v_iv (n_v vs 7)).toNat then v_iv (n_v vs 8) else w_el w1 b j) ∧ ∀ b k, w_fd ws b k = w_fd w1 b k := s1.2
  replace f7 := shm_401 f7
  have s2 : (∀ b j, w_el w1 b j = if b = v_ad (n_v vs 2) ∧ j = (v_iv (n_v vs 4)).toNat then v_iv (n_v vs 5) else w_el w2 b j) ∧ ∀ b k, w_fd w1 b k = w_fd w2 b k := s2.2
  replace f9 := shm_38 f9
  rw [show v_iv (n_v vs 3) = 122 from by omega] at f9
  replace f10 := shm_821 f10
  replace f11 := shm_401 f11
  have ar_0_7_1 : w_ar w1 (n_v vs 0) 7 = w_ar ws (n_v vs 0) 7 := congrArg v_ad (s1.2 _ _).symm
  have ar_0_7_2 : w_ar w2 (n_v vs 0) 7 = w_ar ws (n_v vs 0) 7 := by rw [← ar_0_7_1]; show v_ad (w_fd w2 _ _) = v_ad (w_fd w1 _ _); rw [s2.2]
  have cr_0_7 := fdq_52 hD hth r0
  have ar_0_8_1 : w_ar w1 (n_v vs 0) 8 = w_ar ws (n_v vs 0) 8 := congrArg v_ad (s1.2 _ _).symm
  have ar_0_8_2 : w_ar w2 (n_v vs 0) 8 = w_ar ws (n_v vs 0) 8 := by rw [← ar_0_8_1]; show v_ad (w_fd w2 _ _) = v_ad (w_fd w1 _ _); rw [s2.2]
  have cr_0_8 := fdq_53 hD hth r0
  have ar_0_16_1 : w_ar w1 (n_v vs 0) 16 = w_ar ws (n_v vs 0) 16 := congrArg v_ad (s1.2 _ _).symm
  have ar_0_16_2 : w_ar w2 (n_v vs 0) 16 = w_ar ws (n_v vs 0) 16 := by rw [← ar_0_16_1]; show v_ad (w_fd w2 _ _) = v_ad (w_fd w1 _ _); rw [s2.2]
  have ad_2 : v_ad (n_v vs 2) = w_ar ws (n_v vs 0) 16 := congrArg v_ad f2
  have g0 : v_iv (n_v vs 8) = w_fi ws (n_v vs 0) 1 := congrArg v_iv f0
  have g1 : v_iv (n_v vs 5) = w_fi ws (n_v vs 0) 0 := congrArg v_iv f1
  simp only [ar_0_7_1, ar_0_8_1, ar_0_16_2, ar_0_7_2, ar_0_8_2] at f7 f10 f11
  have fe_0_0_1 : w_fi ws (n_v vs 0) 0 = w_fi w1 (n_v vs 0) 0 := congrArg v_iv (s1.2 _ _)
  have fe_0_1_1 : w_fi ws (n_v vs 0) 1 = w_fi w1 (n_v vs 0) 1 := congrArg v_iv (s1.2 _ _)
  have fe_0_0_2 : w_fi w1 (n_v vs 0) 0 = w_fi w2 (n_v vs 0) 0 := congrArg v_iv (s2.2 _ _)
  have fe_0_1_2 : w_fi w1 (n_v vs 0) 1 = w_fi w2 (n_v vs 0) 1 := congrArg v_iv (s2.2 _ _)
  have hE_0_7_1 : ∀ j : Int, w_ei ws (w_ar ws (n_v vs 0) 7) j = w_ei w1 (w_ar ws (n_v vs 0) 7) j := el_kp s1.1 r2 cr_0_7 (by decide)
  have hE_0_7_2 : ∀ j : Int, w_ei w1 (w_ar ws (n_v vs 0) 7) j = w_ei w2 (w_ar ws (n_v vs 0) 7) j := el_kp s2.1 r2 cr_0_7 (by decide)
  have hK_0_7 := elq_10 hD hth cr_0_7
  have hE_0_8_1 : ∀ j : Int, w_ei ws (w_ar ws (n_v vs 0) 8) j = w_ei w1 (w_ar ws (n_v vs 0) 8) j := el_kp s1.1 r2 cr_0_8 (by decide)
  have hE_0_8_2 : ∀ j : Int, w_ei w1 (w_ar ws (n_v vs 0) 8) j = w_ei w2 (w_ar ws (n_v vs 0) 8) j := el_kp s2.1 r2 cr_0_8 (by decide)
  have hK_0_8 := elq_11 hD hth cr_0_8
  have hE_0_16_1 : ∀ j : Int, 0 ≤ j → (j = v_iv (n_v vs 7) → w_ei ws (w_ar ws (n_v vs 0) 16) j = v_iv (n_v vs 8)) ∧ (j ≠ v_iv (n_v vs 7) → w_ei ws (w_ar ws (n_v vs 0) 16) j = w_ei w1 (w_ar ws (n_v vs 0) 16) j) := fun j hj => ⟨fun h => by unfold w_ei; rw [s1.1, if_pos ⟨ad_2.symm, by rw [h]⟩], fun h => by unfold w_ei; rw [s1.1, if_neg (fun e => h (by have := e.2; omega))]⟩
  have hE_0_16_2 : ∀ j : Int, 0 ≤ j → (j = v_iv (n_v vs 4) → w_ei w1 (w_ar ws (n_v vs 0) 16) j = v_iv (n_v vs 5)) ∧ (j ≠ v_iv (n_v vs 4) → w_ei w1 (w_ar ws (n_v vs 0) 16) j = w_ei w2 (w_ar ws (n_v vs 0) 16) j) := fun j hj => ⟨fun h => by unfold w_ei; rw [s2.1, if_pos ⟨ad_2.symm, by rw [h]⟩], fun h => by unfold w_ei; rw [s2.1, if_neg (fun e => h (by have := e.2; omega))]⟩
  have kz_0_0 := fdq_23 hD hth r0
  have kz_0_1 := fdq_38 hD hth r0
  have nf0 : fc_1 PRD (20, [0, 1, 9, 10], [60, 2, 1, 741, 0, 1, 16]) ws (vs) := ⟨nf_in hl rfl, sgq_822 (vc_Gr_pack_0_0 (v_iv (n_v vs 1)) (v_iv (n_v vs 3)) (v_iv (n_v vs 4)) (v_iv (n_v vs 5)) (v_iv (n_v vs 6)) (v_iv (n_v vs 7)) (v_iv (n_v vs 8)) (v_iv (n_v vs 9)) (v_iv (n_v vs 10)) (w_fi ws (n_v vs 0) 1) (w_fi ws (n_v vs 0) 0) (w_ei ws (w_ar ws (n_v vs 0) 7)) (w_ei ws (w_ar ws (n_v vs 0) 8)) (w_ei w1 (w_ar ws (n_v vs 0) 7)) (w_ei w1 (w_ar ws (n_v vs 0) 8)) (w_fi w1 (n_v vs 0) 0) (w_fi w1 (n_v vs 0) 1) (w_ei w2 (w_ar ws (n_v vs 0) 16)) (w_ei w2 (w_ar ws (n_v vs 0) 7)) (w_ei w2 (w_ar ws (n_v vs 0) 8)) (w_fi w2 (n_v vs 0) 0) (w_fi w2 (n_v vs 0) 1) (w_ei ws (w_ar ws (n_v vs 0) 16)) (w_ei w1 (w_ar ws (n_v vs 0) 16)) k1 k3 k4 k5 k6 k7 k8 k9 k10 d0 d1 g0 g1 (shm_820 f3) (shm_401 f4) (shm_12 f6) f7 f9 f10 f11 fe_0_0_1 fe_0_1_1 fe_0_0_2 fe_0_1_2 hE_0_7_1 hE_0_7_2 hK_0_7 hE_0_8_1 hE_0_8_2 hK_0_8 hE_0_16_1 hE_0_16_2 kz_0_0 kz_0_1)⟩
  have nf1 : fc_1 PRD (24, [0, 0], []) ws (vs) := by
    refine ⟨nf_in hl rfl, sgq_1 ?_⟩
    · show n_v vs 0 = n_v vs 0
      first | rfl | simp only [true_and]
  have nf2 : fc_1 PRD (24, [1, 1], []) ws (vs) := by
    refine ⟨nf_in hl rfl, sgq_1 ?_⟩
    · show n_v vs 1 = n_v vs 1
      first | rfl | simp only [true_and]
  refine ⟨(fun _ h => (by cases h)), [], trivial, ?_, (fun _ h => (by cases h))⟩
  rw [List.append_nil]
  exact List.forall_mem_cons.mpr ⟨⟨show (20 : Nat) < 100 from by decide, nf0⟩, List.forall_mem_cons.mpr ⟨⟨show (24 : Nat) < 100 from by decide, nf1⟩, List.forall_mem_cons.mpr ⟨⟨show (24 : Nat) < 100 from by decide, nf2⟩, (fun _ h => (by cases h))⟩⟩⟩
set_option maxHeartbeats 4000000 in
theorem vc_Gr_pack_1_0 (x1 : Int) (x4 : Int) (x5 : Int) (x6 : Int) (x8 : Int) (x9 : Int) (x10 : Int) (x11 : Int) (x12 : Int) (x13 : Int) (x14 : Int) (x15 : Int) (nodes_0 : Int) (past_0 : Int → Int) (edges_0 : Int) (tail_0 : Int → Int) (head_0 : Int → Int) (k1 : 0 ≤ x1 ∧ x1 ≤ 30) (k4 : 0 ≤ x4 ∧ x4 ≤ 30) (k5 : 2 ≤ x5 ∧ x5 ≤ 3784) (k6 : 0 ≤ x6 ∧ x6 ≤ 24) (k8 : 0 ≤ x8 ∧ x8 ≤ 24) (k9 : 122 ≤ x9 ∧ x9 ≤ 122) (k10 : 0 ≤ x10 ∧ x10 ≤ 3660) (k11 : 2 ≤ x11 ∧ x11 ≤ 2) (k12 : 2 ≤ x12 ∧ x12 ≤ 3662) (k13 : 72 ≤ x13 ∧ x13 ≤ 72) (k14 : 74 ≤ x14 ∧ x14 ≤ 3734) (k15 : 0 ≤ x15 ∧ x15 ≤ 0) (d0 : x12 + 72 ≤ x14 ∧ x14 ≤ x12 + 72) (d1 : x10 + 74 ≤ x14 ∧ x14 ≤ x10 + 74) (d2 : x10 + 2 ≤ x12 ∧ x12 ≤ x10 + 2) (d3 : x8 + 0 ≤ x6 ∧ x6 ≤ x8 + 4294967296) (d4 : x4 + (-4294967296) ≤ x1 ∧ x1 ≤ x4 + 0) (d5 : x1 + (-4294967296) ≤ x4 ∧ x4 ≤ x1 + 0) (d6 : x5 + (-4294967296) ≤ x6 ∧ x6 ≤ x5 + (-2)) (f1 : x14 = x12 + x13) (f2 : x12 = x10 + x11) (f3 : x10 = x1 * 122) (f4 : x8 ≤ x6) (g5 : x8 = nodes_0) (f6 : PK1 (nodes_0) (edges_0) (past_0) (x1) (x5) (x6)) (f7 : GKE (nodes_0) (edges_0) (tail_0) (head_0)) (hK_0_7 : ∀ j : Int, 0 ≤ j → j < 48 → 0 ≤ tail_0 j ∧ tail_0 j ≤ 23) (hK_0_8 : ∀ j : Int, 0 ≤ j → j < 48 → 0 ≤ head_0 j ∧ head_0 j ≤ 23) (kz_0_0 : 0 ≤ nodes_0 ∧ nodes_0 ≤ 24) (kz_0_1 : 0 ≤ edges_0 ∧ edges_0 ≤ 48) : PK2 (nodes_0) (edges_0) (past_0) (x1) (x14) (x15) := by
  first
    | assumption
    | exact pk2_start ‹PK1 _ _ _ _ _ _› (by omega) (by omega) (by omega)
    | (have g := ‹GKE _ _ _ _› x6 (by omega) (by omega); exact pk2_step ‹PK2 _ _ _ _ _ _› (by omega) hE_0_16_1 (by omega) (pew_of (a := x11) (b := x13) (c := x18) (d := x23) (t := x15) (u := x20) (v := x25) (x := x16) (y := x21) (z := x26) (s1 := x14) (s2 := x19) (s3 := x24) (by assumption) (by omega) (by assumption) (by assumption) (by omega) (by assumption) (by assumption) (by omega) (by assumption) (by omega) (by omega) (by omega) (by omega) (by omega) (by omega) (by omega) (by omega) (by omega) (by omega) (by omega) (by omega) (by omega) (by omega) (by omega) (by omega)) (by omega))
  
def o_Gr_pack_1 : or_T := (127, 16, [(0, (2, 0, 0, [3])), (1, (0, 0, 30, [])), (4, (0, 0, 30, [])), (5, (0, 2, 3784, [])), (6, (0, 0, 24, [])), (8, (0, 0, 24, [])), (9, (0, 122, 122, [])), (10, (0, 0, 3660, [])), (11, (0, 2, 2, [])), (12, (0, 2, 3662, [])), (13, (0, 72, 72, [])), (14, (0, 74, 3734, [])), (15, (0, 0, 0, []))], [(1, [14, 12, 13], []), (1, [12, 10, 11], []), (3, [10, 4, 9], []), (7, [6, 8], [3]), (9, [8, 3], [0]), (20, [3, 4, 5, 6], [60, 2, 1, 741, 0, 1, 16]), (20, [3], [60, 2, 2, 596, 0, 1, 7, 8]), (24, [0, 3], []), (24, [1, 4], [])], [], [], [(20, [3, 4, 14, 15], [60, 2, 1, 742, 0, 1, 16])], [], [(14, 12, 72, 72), (14, 10, 74, 74), (12, 10, 2, 2), (6, 8, 0, 4294967296), (1, 4, -4294967296, 0), (4, 1, -4294967296, 0), (6, 5, -4294967296, -2)])
theorem oo_Gr_pack_1 {kA : Nat → ClassId} : or_ok PRD kA GG o_Gr_pack_1 := by
  refine or_mk fun A ta ws vs hD hth hl => ?_
  intro t0 r0 t1 k1 t4 k4 t5 k5 t6 k6 t8 k8 t9 k9 t10 k10 t11 k11 t12 k12 t13 k13 t14 k14 t15 k15 d0 d1 d2 d3 d4 d5 d6 f1 f2 f3 f4 f5 f6 f7 f8 f9
  replace f1 := shm_12 f1
  replace f2 := shm_12 f2
  replace f3 := shm_38 f3
  rw [show v_iv (n_v vs 9) = 122 from by omega] at f3
  replace f4 := shm_2 f4
  replace f5 := shm_175 f5
  replace f6 := shm_822 f6
  replace f7 := shm_401 f7
  replace f8 := shm_5 f8
  replace f9 := shm_5 f9
  have q3 : n_v vs 3 = n_v vs 0 := f8.symm
  have q4 : n_v vs 4 = n_v vs 1 := f9.symm
  simp only [q3, q4] at f3 f5 f6 f7
  have cr_0_7 := fdq_52 hD hth r0
  have cr_0_8 := fdq_53 hD hth r0
  have g5 : v_iv (n_v vs 8) = w_fi ws (n_v vs 0) 0 := congrArg v_iv f5
  have hK_0_7 := elq_10 hD hth cr_0_7
  have hK_0_8 := elq_11 hD hth cr_0_8
  have kz_0_0 := fdq_23 hD hth r0
  have kz_0_1 := fdq_38 hD hth r0
  have nf0 : fc_1 PRD (20, [3, 4, 14, 15], [60, 2, 1, 742, 0, 1, 16]) ws (vs) := by
    refine ⟨nf_in hl rfl, sgq_823 ?_⟩
    · show PK2 (w_fi ws (n_v vs 3) 0) (w_fi ws (n_v vs 3) 1) (w_ei ws (w_ar ws (n_v vs 3) 16)) (v_iv (n_v vs 4)) (v_iv (n_v vs 14)) (v_iv (n_v vs 15))
      simp only [q3, q4]
      exact vc_Gr_pack_1_0 (v_iv (n_v vs 1)) (v_iv (n_v vs 4)) (v_iv (n_v vs 5)) (v_iv (n_v vs 6)) (v_iv (n_v vs 8)) (v_iv (n_v vs 9)) (v_iv (n_v vs 10)) (v_iv (n_v vs 11)) (v_iv (n_v vs 12)) (v_iv (n_v vs 13)) (v_iv (n_v vs 14)) (v_iv (n_v vs 15)) (w_fi ws (n_v vs 0) 0) (w_ei ws (w_ar ws (n_v vs 0) 16)) (w_fi ws (n_v vs 0) 1) (w_ei ws (w_ar ws (n_v vs 0) 7)) (w_ei ws (w_ar ws (n_v vs 0) 8)) k1 k4 k5 k6 k8 k9 k10 k11 k12 k13 k14 k15 d0 d1 d2 d3 d4 d5 d6 f1 f2 f3 f4 g5 f6 f7 hK_0_7 hK_0_8 kz_0_0 kz_0_1
  refine ⟨(fun _ h => (by cases h)), [], trivial, ?_, (fun _ h => (by cases h))⟩
  rw [List.append_nil]
  exact List.forall_mem_cons.mpr ⟨⟨show (20 : Nat) < 100 from by decide, nf0⟩, (fun _ h => (by cases h))⟩
set_option maxHeartbeats 4000000 in
theorem vc_Gr_pack_2_r0 (x1 : Int) (x4 : Int) (x5 : Int) (x6 : Int) (x8 : Int) (nodes_0 : Int) (past_0 : Int → Int) (edges_0 : Int) (tail_0 : Int → Int) (head_0 : Int → Int) (k1 : 0 ≤ x1 ∧ x1 ≤ 30) (k4 : 0 ≤ x4 ∧ x4 ≤ 30) (k5 : 2 ≤ x5 ∧ x5 ≤ 3784) (k6 : 0 ≤ x6 ∧ x6 ≤ 23) (k8 : 1 ≤ x8 ∧ x8 ≤ 24) (d0 : x8 + (-4294967296) ≤ x6 ∧ x6 ≤ x8 + (-1)) (d1 : x4 + (-4294967296) ≤ x1 ∧ x1 ≤ x4 + 0) (d2 : x1 + (-4294967296) ≤ x4 ∧ x4 ≤ x1 + 0) (d3 : x5 + (-4294967296) ≤ x6 ∧ x6 ≤ x5 + (-2)) (f1 : x6 < x8) (g2 : x8 = nodes_0) (f3 : PK1 (nodes_0) (edges_0) (past_0) (x1) (x5) (x6)) (f4 : GKE (nodes_0) (edges_0) (tail_0) (head_0)) (hK_0_7 : ∀ j : Int, 0 ≤ j → j < 48 → 0 ≤ tail_0 j ∧ tail_0 j ≤ 23) (hK_0_8 : ∀ j : Int, 0 ≤ j → j < 48 → 0 ≤ head_0 j ∧ head_0 j ≤ 23) (kz_0_0 : 0 ≤ nodes_0 ∧ nodes_0 ≤ 24) (kz_0_1 : 0 ≤ edges_0 ∧ edges_0 ≤ 48) : 2 ≤ x5 ∧ x5 ≤ 3781 := by
  first
    | omega
    | (have q := pk1_idx ‹PK1 _ _ _ _ _ _› (by omega); omega)
    | (have q := pk2_idx ‹PK2 _ _ _ _ _ _› (by omega); omega)
  
def o_Gr_pack_2 : or_T := (53, 12, [(0, (2, 0, 0, [3])), (1, (0, 0, 30, [])), (3, (2, 0, 0, [3])), (4, (0, 0, 30, [])), (5, (0, 2, 3784, [])), (6, (0, 0, 23, [])), (7, (2, 0, 0, [61])), (8, (0, 1, 24, []))], [(9, [7, 3], [16]), (7, [6, 8], [2]), (9, [8, 3], [0]), (20, [3, 4, 5, 6], [60, 2, 1, 741, 0, 1, 16]), (20, [3], [60, 2, 2, 596, 0, 1, 7, 8]), (24, [0, 3], []), (24, [1, 4], [])], [(5, (0, 2, 3781, []))], [], [], [], [(6, 8, -4294967296, -1), (1, 4, -4294967296, 0), (4, 1, -4294967296, 0), (6, 5, -4294967296, -2)])
theorem oo_Gr_pack_2 {kA : Nat → ClassId} : or_ok PRD kA GG o_Gr_pack_2 := by
  refine or_mk fun A ta ws vs hD hth hl => ?_
  intro t0 r0 t1 k1 t3 r3 t4 k4 t5 k5 t6 k6 t7 r7 t8 k8 d0 d1 d2 d3 f0 f1 f2 f3 f4 f5 f6
  replace f2 := shm_175 f2
  replace f3 := shm_822 f3
  replace f4 := shm_401 f4
  replace f5 := shm_5 f5
  replace f6 := shm_5 f6
  have q3 : n_v vs 3 = n_v vs 0 := f5.symm
  have q4 : n_v vs 4 = n_v vs 1 := f6.symm
  simp only [q3, q4] at f2 f3 f4
  have cr_0_7 := fdq_52 hD hth r0
  have cr_0_8 := fdq_53 hD hth r0
  have g2 : v_iv (n_v vs 8) = w_fi ws (n_v vs 0) 0 := congrArg v_iv f2
  have hK_0_7 := elq_10 hD hth cr_0_7
  have hK_0_8 := elq_11 hD hth cr_0_8
  have kz_0_0 := fdq_23 hD hth r0
  have kz_0_1 := fdq_38 hD hth r0
  have hrf0 : 2 ≤ v_iv (n_v vs 5) ∧ v_iv (n_v vs 5) ≤ 3781 := vc_Gr_pack_2_r0 (v_iv (n_v vs 1)) (v_iv (n_v vs 4)) (v_iv (n_v vs 5)) (v_iv (n_v vs 6)) (v_iv (n_v vs 8)) (w_fi ws (n_v vs 0) 0) (w_ei ws (w_ar ws (n_v vs 0) 16)) (w_fi ws (n_v vs 0) 1) (w_ei ws (w_ar ws (n_v vs 0) 7)) (w_ei ws (w_ar ws (n_v vs 0) 8)) k1 k4 k5 k6 k8 d0 d1 d2 d3 (shm_6 f1) g2 f3 f4 hK_0_7 hK_0_8 kz_0_0 kz_0_1
  have rf5 : tv_ok ta (0, 2, 3781, []) (n_v vs 5) := tv_in t5 (by first | omega | grind) (by first | omega | grind)
  refine ⟨List.forall_mem_cons.mpr ⟨rf5, (fun _ h => (by cases h))⟩, [], trivial, ?_, (fun _ h => (by cases h))⟩
  rw [List.append_nil]
  exact (fun _ h => (by cases h))
set_option maxHeartbeats 4000000 in
theorem vc_Gr_pack_3_r0 (x1 : Int) (x4 : Int) (x5 : Int) (x6 : Int) (x8 : Int) (x11 : Int) (x12 : Int) (x13 : Int) (nodes_0 : Int) (tail_0 : Int → Int) (head_0 : Int → Int) (edges_0 : Int) (past_1 : Int → Int) (nodes_1 : Int) (edges_1 : Int) (tail_1 : Int → Int) (head_1 : Int → Int) (past_0 : Int → Int) (k1 : 0 ≤ x1 ∧ x1 ≤ 30) (k4 : 0 ≤ x4 ∧ x4 ≤ 30) (k5 : 2 ≤ x5 ∧ x5 ≤ 3781) (k6 : 0 ≤ x6 ∧ x6 ≤ 23) (k8 : 1 ≤ x8 ∧ x8 ≤ 24) (k11 : (-2147483648) ≤ x11 ∧ x11 ≤ 2147483647) (k12 : 1 ≤ x12 ∧ x12 ≤ 1) (k13 : 3 ≤ x13 ∧ x13 ≤ 3782) (d0 : x5 + 1 ≤ x13 ∧ x13 ≤ x5 + 1) (d1 : x8 + (-4294967296) ≤ x6 ∧ x6 ≤ x8 + (-1)) (d2 : x4 + (-4294967296) ≤ x1 ∧ x1 ≤ x4 + 0) (d3 : x1 + (-4294967296) ≤ x4 ∧ x4 ≤ x1 + 0) (d4 : x5 + (-4294967296) ≤ x6 ∧ x6 ≤ x5 + (-2)) (g0 : x8 = nodes_0) (f1 : x13 = x5 + x12) (f3 : GKE (nodes_0) (edges_0) (tail_0) (head_0)) (f7 : x6 < x8) (f8 : PK1 (nodes_1) (edges_1) (past_1) (x1) (x5) (x6)) (f9 : GKE (nodes_1) (edges_1) (tail_1) (head_1)) (fe_0_0_1 : nodes_0 = nodes_1) (fe_0_1_1 : edges_0 = edges_1) (hE_0_7_1 : ∀ j : Int, tail_0 j = tail_1 j) (hK_0_7 : ∀ j : Int, 0 ≤ j → j < 48 → 0 ≤ tail_0 j ∧ tail_0 j ≤ 23) (hE_0_8_1 : ∀ j : Int, head_0 j = head_1 j) (hK_0_8 : ∀ j : Int, 0 ≤ j → j < 48 → 0 ≤ head_0 j ∧ head_0 j ≤ 23) (hE_0_16_1 : ∀ j : Int, 0 ≤ j → (j = x5 → past_0 j = x11) ∧ (j ≠ x5 → past_0 j = past_1 j)) (kz_0_0 : 0 ≤ nodes_0 ∧ nodes_0 ≤ 24) (kz_0_1 : 0 ≤ edges_0 ∧ edges_0 ≤ 48) : 3 ≤ x13 ∧ x13 ≤ 3781 := by
  subst fe_0_0_1
  subst fe_0_1_1
  have e_hE_0_7_1 := funext hE_0_7_1; subst e_hE_0_7_1
  have e_hE_0_8_1 := funext hE_0_8_1; subst e_hE_0_8_1
  first
    | omega
    | (have q := pk1_idx ‹PK1 _ _ _ _ _ _› (by omega); omega)
    | (have q := pk2_idx ‹PK2 _ _ _ _ _ _› (by omega); omega)
  
def o_Gr_pack_3 : or_T := (71, 19, [(0, (2, 0, 0, [3])), (1, (0, 0, 30, [])), (3, (2, 0, 0, [3])), (4, (0, 0, 30, [])), (5, (0, 2, 3781, [])), (6, (0, 0, 23, [])), (7, (2, 0, 0, [61])), (8, (0, 1, 24, [])), (11, (0, -2147483648, 2147483647, [])), (12, (0, 1, 1, [])), (13, (0, 3, 3782, []))], [(9, [8, 3], [0]), (1, [13, 5, 12], []), (9, [7, 3], [16]), (20, [3], [60, 2, 2, 596, 0, 1, 7, 8]), (24, [0, 3], []), (24, [1, 4], []), (100, [7, 5, 11], []), (7, [6, 8], [2]), (20, [3, 4, 5, 6], [60, 2, 1, 741, 0, 1, 16]), (20, [3], [60, 2, 2, 596, 0, 1, 7, 8])], [(13, (0, 3, 3781, []))], [], [], [], [(13, 5, 1, 1), (6, 8, -4294967296, -1), (1, 4, -4294967296, 0), (4, 1, -4294967296, 0), (6, 5, -4294967296, -2)])
theorem oo_Gr_pack_3 {kA : Nat → ClassId} : or_ok PRD kA GG o_Gr_pack_3 := by
  refine or_mk fun A ta ws vs hD hth hl => ?_
  intro t0 r0 t1 k1 t3 r3 t4 k4 t5 k5 t6 k6 t7 r7 t8 k8 t11 k11 t12 k12 t13 k13 d0 d1 d2 d3 d4 f0 f1 f2 f3 f4 f5 ta1 w1 le1 s1 f7 f8 f9
  replace f0 := shm_175 f0
  replace f2 := shm_188 f2
  replace f3 := shm_401 f3
  replace f4 := shm_5 f4
  replace f5 := shm_5 f5
  have s1 : (∀ b j, w_el ws b j = if b = v_ad (n_v vs 7) ∧ j = (v_iv (n_v vs 5)).toNat then v_iv (n_v vs 11) else w_el w1 b j) ∧ ∀ b k, w_fd ws b k = w_fd w1 b k := s1.2
  replace f8 := shm_822 f8
  replace f9 := shm_401 f9
  have q3 : n_v vs 3 = n_v vs 0 := f4.symm
  have q4 : n_v vs 4 = n_v vs 1 := f5.symm
  simp only [q3, q4] at f0 f2 f3 f8 f9
  have ar_0_7_1 : w_ar w1 (n_v vs 0) 7 = w_ar ws (n_v vs 0) 7 := congrArg v_ad (s1.2 _ _).symm
  have cr_0_7 := fdq_52 hD hth r0
  have ar_0_8_1 : w_ar w1 (n_v vs 0) 8 = w_ar ws (n_v vs 0) 8 := congrArg v_ad (s1.2 _ _).symm
  have cr_0_8 := fdq_53 hD hth r0
  have ar_0_16_1 : w_ar w1 (n_v vs 0) 16 = w_ar ws (n_v vs 0) 16 := congrArg v_ad (s1.2 _ _).symm
  have ad_7 : v_ad (n_v vs 7) = w_ar ws (n_v vs 0) 16 := congrArg v_ad f2
  have g0 : v_iv (n_v vs 8) = w_fi ws (n_v vs 0) 0 := congrArg v_iv f0
  simp only [ar_0_16_1, ar_0_7_1, ar_0_8_1] at f8 f9
  have fe_0_0_1 : w_fi ws (n_v vs 0) 0 = w_fi w1 (n_v vs 0) 0 := congrArg v_iv (s1.2 _ _)
  have fe_0_1_1 : w_fi ws (n_v vs 0) 1 = w_fi w1 (n_v vs 0) 1 := congrArg v_iv (s1.2 _ _)
  have hE_0_7_1 : ∀ j : Int, w_ei ws (w_ar ws (n_v vs 0) 7) j = w_ei w1 (w_ar ws (n_v vs 0) 7) j := el_kp s1.1 r7 cr_0_7 (by decide)
  have hK_0_7 := elq_10 hD hth cr_0_7
  have hE_0_8_1 : ∀ j : Int, w_ei ws (w_ar ws (n_v vs 0) 8) j = w_ei w1 (w_ar ws (n_v vs 0) 8) j := el_kp s1.1 r7 cr_0_8 (by decide)
  have hK_0_8 := elq_11 hD hth cr_0_8
  have hE_0_16_1 : ∀ j : Int, 0 ≤ j → (j = v_iv (n_v vs 5) → w_ei ws (w_ar ws (n_v vs 0) 16) j = v_iv (n_v vs 11)) ∧ (j ≠ v_iv (n_v vs 5) → w_ei ws (w_ar ws (n_v vs 0) 16) j = w_ei w1 (w_ar ws (n_v vs 0) 16) j) := fun j hj => ⟨fun h => by unfold w_ei; rw [s1.1, if_pos ⟨ad_7.symm, by rw [h]⟩], fun h => by unfold w_ei; rw [s1.1, if_neg (fun e => h (by have := e.2; omega))]⟩
  have kz_0_0 := fdq_23 hD hth r0
  have kz_0_1 := fdq_38 hD hth r0
  have hrf0 : 3 ≤ v_iv (n_v vs 13) ∧ v_iv (n_v vs 13) ≤ 3781 := vc_Gr_pack_3_r0 (v_iv (n_v vs 1)) (v_iv (n_v vs 4)) (v_iv (n_v vs 5)) (v_iv (n_v vs 6)) (v_iv (n_v vs 8)) (v_iv (n_v vs 11)) (v_iv (n_v vs 12)) (v_iv (n_v vs 13)) (w_fi ws (n_v vs 0) 0) (w_ei ws (w_ar ws (n_v vs 0) 7)) (w_ei ws (w_ar ws (n_v vs 0) 8)) (w_fi ws (n_v vs 0) 1) (w_ei w1 (w_ar ws (n_v vs 0) 16)) (w_fi w1 (n_v vs 0) 0) (w_fi w1 (n_v vs 0) 1) (w_ei w1 (w_ar ws (n_v vs 0) 7)) (w_ei w1 (w_ar ws (n_v vs 0) 8)) (w_ei ws (w_ar ws (n_v vs 0) 16)) k1 k4 k5 k6 k8 k11 k12 k13 d0 d1 d2 d3 d4 g0 (shm_12 f1) f3 (shm_6 f7) f8 f9 fe_0_0_1 fe_0_1_1 hE_0_7_1 hK_0_7 hE_0_8_1 hK_0_8 hE_0_16_1 kz_0_0 kz_0_1
  have rf13 : tv_ok ta (0, 3, 3781, []) (n_v vs 13) := tv_in t13 (by first | omega | grind) (by first | omega | grind)
  refine ⟨List.forall_mem_cons.mpr ⟨rf13, (fun _ h => (by cases h))⟩, [], trivial, ?_, (fun _ h => (by cases h))⟩
  rw [List.append_nil]
  exact (fun _ h => (by cases h))
set_option maxHeartbeats 4000000 in
theorem vc_Gr_pack_4_r0 (x1 : Int) (x4 : Int) (x5 : Int) (x6 : Int) (x8 : Int) (x11 : Int) (x12 : Int) (x13 : Int) (x18 : Int) (x19 : Int) (x20 : Int) (nodes_0 : Int) (tail_0 : Int → Int) (head_0 : Int → Int) (edges_0 : Int) (tail_1 : Int → Int) (head_1 : Int → Int) (nodes_1 : Int) (edges_1 : Int) (past_2 : Int → Int) (nodes_2 : Int) (edges_2 : Int) (tail_2 : Int → Int) (head_2 : Int → Int) (past_0 : Int → Int) (past_1 : Int → Int) (k1 : 0 ≤ x1 ∧ x1 ≤ 30) (k4 : 0 ≤ x4 ∧ x4 ≤ 30) (k5 : 2 ≤ x5 ∧ x5 ≤ 3781) (k6 : 0 ≤ x6 ∧ x6 ≤ 23) (k8 : 1 ≤ x8 ∧ x8 ≤ 24) (k11 : (-2147483648) ≤ x11 ∧ x11 ≤ 2147483647) (k12 : 1 ≤ x12 ∧ x12 ≤ 1) (k13 : 3 ≤ x13 ∧ x13 ≤ 3781) (k18 : (-2147483648) ≤ x18 ∧ x18 ≤ 2147483647) (k19 : 2 ≤ x19 ∧ x19 ≤ 2) (k20 : 4 ≤ x20 ∧ x20 ≤ 3783) (d0 : x5 + 2 ≤ x20 ∧ x20 ≤ x5 + 2) (d1 : x5 + 1 ≤ x13 ∧ x13 ≤ x5 + 1) (d2 : x8 + (-4294967296) ≤ x6 ∧ x6 ≤ x8 + (-1)) (d3 : x4 + (-4294967296) ≤ x1 ∧ x1 ≤ x4 + 0) (d4 : x1 + (-4294967296) ≤ x4 ∧ x4 ≤ x1 + 0) (d5 : x5 + (-4294967296) ≤ x6 ∧ x6 ≤ x5 + (-2)) (g0 : x8 = nodes_0) (f1 : x20 = x5 + x19) (f3 : GKE (nodes_0) (edges_0) (tail_0) (head_0)) (f7 : x13 = x5 + x12) (f8 : GKE (nodes_1) (edges_1) (tail_1) (head_1)) (f10 : x6 < x8) (f11 : PK1 (nodes_2) (edges_2) (past_2) (x1) (x5) (x6)) (f12 : GKE (nodes_2) (edges_2) (tail_2) (head_2)) (fe_0_0_1 : nodes_0 = nodes_1) (fe_0_1_1 : edges_0 = edges_1) (fe_0_0_2 : nodes_1 = nodes_2) (fe_0_1_2 : edges_1 = edges_2) (hE_0_7_1 : ∀ j : Int, tail_0 j = tail_1 j) (hE_0_7_2 : ∀ j : Int, tail_1 j = tail_2 j) (hK_0_7 : ∀ j : Int, 0 ≤ j → j < 48 → 0 ≤ tail_0 j ∧ tail_0 j ≤ 23) (hE_0_8_1 : ∀ j : Int, head_0 j = head_1 j) (hE_0_8_2 : ∀ j : Int, head_1 j = head_2 j) (hK_0_8 : ∀ j : Int, 0 ≤ j → j < 48 → 0 ≤ head_0 j ∧ head_0 j ≤ 23) (hE_0_16_1 : ∀ j : Int, 0 ≤ j → (j = x13 → past_0 j = x18) ∧ (j ≠ x13 → past_0 j = past_1 j)) (hE_0_16_2 : ∀ j : Int, 0 ≤ j → (j = x5 → past_1 j = x11) ∧ (j ≠ x5 → past_1 j = past_2 j)) (kz_0_0 : 0 ≤ nodes_0 ∧ nodes_0 ≤ 24) (kz_0_1 : 0 ≤ edges_0 ∧ edges_0 ≤ 48) : 4 ≤ x20 ∧ x20 ≤ 3781 := by
  subst fe_0_0_1
  subst fe_0_1_1
  subst fe_0_0_2
  subst fe_0_1_2
  have e_hE_0_7_1 := funext hE_0_7_1; subst e_hE_0_7_1
  have e_hE_0_7_2 := funext hE_0_7_2; subst e_hE_0_7_2
  have e_hE_0_8_1 := funext hE_0_8_1; subst e_hE_0_8_1
  have e_hE_0_8_2 := funext hE_0_8_2; subst e_hE_0_8_2
  first
    | omega
    | (have q := pk1_idx ‹PK1 _ _ _ _ _ _› (by omega); omega)
    | (have q := pk2_idx ‹PK2 _ _ _ _ _ _› (by omega); omega)
  
def o_Gr_pack_4 : or_T := (105, 33, [(0, (2, 0, 0, [3])), (1, (0, 0, 30, [])), (3, (2, 0, 0, [3])), (4, (0, 0, 30, [])), (5, (0, 2, 3781, [])), (6, (0, 0, 23, [])), (7, (2, 0, 0, [61])), (8, (0, 1, 24, [])), (11, (0, -2147483648, 2147483647, [])), (12, (0, 1, 1, [])), (13, (0, 3, 3781, [])), (18, (0, -2147483648, 2147483647, [])), (19, (0, 2, 2, [])), (20, (0, 4, 3783, []))], [(9, [8, 3], [0]), (1, [20, 5, 19], []), (9, [7, 3], [16]), (20, [3], [60, 2, 2, 596, 0, 1, 7, 8]), (24, [0, 3], []), (24, [1, 4], []), (100, [7, 13, 18], []), (1, [13, 5, 12], []), (20, [3], [60, 2, 2, 596, 0, 1, 7, 8]), (100, [7, 5, 11], []), (7, [6, 8], [2]), (20, [3, 4, 5, 6], [60, 2, 1, 741, 0, 1, 16]), (20, [3], [60, 2, 2, 596, 0, 1, 7, 8])], [(20, (0, 4, 3781, []))], [], [], [], [(20, 5, 2, 2), (13, 5, 1, 1), (6, 8, -4294967296, -1), (1, 4, -4294967296, 0), (4, 1, -4294967296, 0), (6, 5, -4294967296, -2)])
theorem oo_Gr_pack_4 {kA : Nat → ClassId} : or_ok PRD kA GG o_Gr_pack_4 := by
  refine or_mk fun A ta ws vs hD hth hl => ?_
  intro t0 r0 t1 k1 t3 r3 t4 k4 t5 k5 t6 k6 t7 r7 t8 k8 t11 k11 t12 k12 t13 k13 t18 k18 t19 k19 t20 k20 d0 d1 d2 d3 d4 d5 f0 f1 f2 f3 f4 f5 ta1 w1 le1 s1 f7 f8 ta2 w2 le2 s2 f10 f11 f12
  replace f0 := shm_175 f0
  replace f2 := shm_188 f2
  replace f3 := shm_401 f3
  replace f4 := shm_5 f4
  replace f5 := shm_5 f5
  have s1 : (∀ b j, w_el ws b j = if b = v_ad (n_v vs 7) ∧ j = (v_iv (n_v vs 13)).toNat then v_iv (n_v vs 18) else w_el w1 b j) ∧ ∀ b k, w_fd ws b k = w_fd w1 b k := s1.2
  replace f8 := shm_401 f8
  have s2 : (∀ b j, w_el w1 b j = if b = v_ad (n_v vs 7) ∧ j = (v_iv (n_v vs 5)).toNat then v_iv (n_v vs 11) else w_el w2 b j) ∧ ∀ b k, w_fd w1 b k = w_fd w2 b k := s2.2
  replace f11 := shm_822 f11
  replace f12 := shm_401 f12
  have q3 : n_v vs 3 = n_v vs 0 := f4.symm
  have q4 : n_v vs 4 = n_v vs 1 := f5.symm
  simp only [q3, q4] at f0 f2 f3 f8 f11 f12
  have ar_0_7_1 : w_ar w1 (n_v vs 0) 7 = w_ar ws (n_v vs 0) 7 := congrArg v_ad (s1.2 _ _).symm
  have ar_0_7_2 : w_ar w2 (n_v vs 0) 7 = w_ar ws (n_v vs 0) 7 := by rw [← ar_0_7_1]; show v_ad (w_fd w2 _ _) = v_ad (w_fd w1 _ _); rw [s2.2]
  have cr_0_7 := fdq_52 hD hth r0
  have ar_0_8_1 : w_ar w1 (n_v vs 0) 8 = w_ar ws (n_v vs 0) 8 := congrArg v_ad (s1.2 _ _).symm
  have ar_0_8_2 : w_ar w2 (n_v vs 0) 8 = w_ar ws (n_v vs 0) 8 := by rw [← ar_0_8_1]; show v_ad (w_fd w2 _ _) = v_ad (w_fd w1 _ _); rw [s2.2]
  have cr_0_8 := fdq_53 hD hth r0
  have ar_0_16_1 : w_ar w1 (n_v vs 0) 16 = w_ar ws (n_v vs 0) 16 := congrArg v_ad (s1.2 _ _).symm
  have ar_0_16_2 : w_ar w2 (n_v vs 0) 16 = w_ar ws (n_v vs 0) 16 := by rw [← ar_0_16_1]; show v_ad (w_fd w2 _ _) = v_ad (w_fd w1 _ _); rw [s2.2]
  have ad_7 : v_ad (n_v vs 7) = w_ar ws (n_v vs 0) 16 := congrArg v_ad f2
  have g0 : v_iv (n_v vs 8) = w_fi ws (n_v vs 0) 0 := congrArg v_iv f0
  simp only [ar_0_7_1, ar_0_8_1, ar_0_16_2, ar_0_7_2, ar_0_8_2] at f8 f11 f12
  have fe_0_0_1 : w_fi ws (n_v vs 0) 0 = w_fi w1 (n_v vs 0) 0 := congrArg v_iv (s1.2 _ _)
  have fe_0_1_1 : w_fi ws (n_v vs 0) 1 = w_fi w1 (n_v vs 0) 1 := congrArg v_iv (s1.2 _ _)
  have fe_0_0_2 : w_fi w1 (n_v vs 0) 0 = w_fi w2 (n_v vs 0) 0 := congrArg v_iv (s2.2 _ _)
  have fe_0_1_2 : w_fi w1 (n_v vs 0) 1 = w_fi w2 (n_v vs 0) 1 := congrArg v_iv (s2.2 _ _)
  have hE_0_7_1 : ∀ j : Int, w_ei ws (w_ar ws (n_v vs 0) 7) j = w_ei w1 (w_ar ws (n_v vs 0) 7) j := el_kp s1.1 r7 cr_0_7 (by decide)
  have hE_0_7_2 : ∀ j : Int, w_ei w1 (w_ar ws (n_v vs 0) 7) j = w_ei w2 (w_ar ws (n_v vs 0) 7) j := el_kp s2.1 r7 cr_0_7 (by decide)
  have hK_0_7 := elq_10 hD hth cr_0_7
  have hE_0_8_1 : ∀ j : Int, w_ei ws (w_ar ws (n_v vs 0) 8) j = w_ei w1 (w_ar ws (n_v vs 0) 8) j := el_kp s1.1 r7 cr_0_8 (by decide)
  have hE_0_8_2 : ∀ j : Int, w_ei w1 (w_ar ws (n_v vs 0) 8) j = w_ei w2 (w_ar ws (n_v vs 0) 8) j := el_kp s2.1 r7 cr_0_8 (by decide)
  have hK_0_8 := elq_11 hD hth cr_0_8
  have hE_0_16_1 : ∀ j : Int, 0 ≤ j → (j = v_iv (n_v vs 13) → w_ei ws (w_ar ws (n_v vs 0) 16) j = v_iv (n_v vs 18)) ∧ (j ≠ v_iv (n_v vs 13) → w_ei ws (w_ar ws (n_v vs 0) 16) j = w_ei w1 (w_ar ws (n_v vs 0) 16) j) := fun j hj => ⟨fun h => by unfold w_ei; rw [s1.1, if_pos ⟨ad_7.symm, by rw [h]⟩], fun h => by unfold w_ei; rw [s1.1, if_neg (fun e => h (by have := e.2; omega))]⟩
  have hE_0_16_2 : ∀ j : Int, 0 ≤ j → (j = v_iv (n_v vs 5) → w_ei w1 (w_ar ws (n_v vs 0) 16) j = v_iv (n_v vs 11)) ∧ (j ≠ v_iv (n_v vs 5) → w_ei w1 (w_ar ws (n_v vs 0) 16) j = w_ei w2 (w_ar ws (n_v vs 0) 16) j) := fun j hj => ⟨fun h => by unfold w_ei; rw [s2.1, if_pos ⟨ad_7.symm, by rw [h]⟩], fun h => by unfold w_ei; rw [s2.1, if_neg (fun e => h (by have := e.2; omega))]⟩
  have kz_0_0 := fdq_23 hD hth r0
  have kz_0_1 := fdq_38 hD hth r0
  have hrf0 : 4 ≤ v_iv (n_v vs 20) ∧ v_iv (n_v vs 20) ≤ 3781 := vc_Gr_pack_4_r0 (v_iv (n_v vs 1)) (v_iv (n_v vs 4)) (v_iv (n_v vs 5)) (v_iv (n_v vs 6)) (v_iv (n_v vs 8)) (v_iv (n_v vs 11)) (v_iv (n_v vs 12)) (v_iv (n_v vs 13)) (v_iv (n_v vs 18)) (v_iv (n_v vs 19)) (v_iv (n_v vs 20)) (w_fi ws (n_v vs 0) 0) (w_ei ws (w_ar ws (n_v vs 0) 7)) (w_ei ws (w_ar ws (n_v vs 0) 8)) (w_fi ws (n_v vs 0) 1) (w_ei w1 (w_ar ws (n_v vs 0) 7)) (w_ei w1 (w_ar ws (n_v vs 0) 8)) (w_fi w1 (n_v vs 0) 0) (w_fi w1 (n_v vs 0) 1) (w_ei w2 (w_ar ws (n_v vs 0) 16)) (w_fi w2 (n_v vs 0) 0) (w_fi w2 (n_v vs 0) 1) (w_ei w2 (w_ar ws (n_v vs 0) 7)) (w_ei w2 (w_ar ws (n_v vs 0) 8)) (w_ei ws (w_ar ws (n_v vs 0) 16)) (w_ei w1 (w_ar ws (n_v vs 0) 16)) k1 k4 k5 k6 k8 k11 k12 k13 k18 k19 k20 d0 d1 d2 d3 d4 d5 g0 (shm_12 f1) f3 (shm_12 f7) f8 (shm_6 f10) f11 f12 fe_0_0_1 fe_0_1_1 fe_0_0_2 fe_0_1_2 hE_0_7_1 hE_0_7_2 hK_0_7 hE_0_8_1 hE_0_8_2 hK_0_8 hE_0_16_1 hE_0_16_2 kz_0_0 kz_0_1
  have rf20 : tv_ok ta (0, 4, 3781, []) (n_v vs 20) := tv_in t20 (by first | omega | grind) (by first | omega | grind)
  refine ⟨List.forall_mem_cons.mpr ⟨rf20, (fun _ h => (by cases h))⟩, [], trivial, ?_, (fun _ h => (by cases h))⟩
  rw [List.append_nil]
  exact (fun _ h => (by cases h))
set_option maxHeartbeats 4000000 in
theorem vc_Gr_pack_5_0 (x1 : Int) (x4 : Int) (x5 : Int) (x6 : Int) (x8 : Int) (x11 : Int) (x12 : Int) (x13 : Int) (x18 : Int) (x19 : Int) (x20 : Int) (x22 : Int) (x24 : Int) (x25 : Int) (x26 : Int) (x27 : Int) (x29 : Int) (x30 : Int) (x31 : Int) (x32 : Int) (x33 : Int) (x34 : Int) (nodes_0 : Int) (tail_0 : Int → Int) (head_0 : Int → Int) (edges_0 : Int) (groupOf_1 : Int → Int) (size_1 : Int → Int) (nameLength_1 : Int → Int) (tail_1 : Int → Int) (head_1 : Int → Int) (nodes_1 : Int) (edges_1 : Int) (tail_2 : Int → Int) (head_2 : Int → Int) (nodes_2 : Int) (edges_2 : Int) (past_3 : Int → Int) (nodes_3 : Int) (edges_3 : Int) (tail_3 : Int → Int) (head_3 : Int → Int) (nameLength_0 : Int → Int) (nameLength_2 : Int → Int) (nameLength_3 : Int → Int) (size_0 : Int → Int) (size_2 : Int → Int) (size_3 : Int → Int) (groupOf_0 : Int → Int) (groupOf_2 : Int → Int) (groupOf_3 : Int → Int) (past_0 : Int → Int) (past_1 : Int → Int) (past_2 : Int → Int) (k1 : 0 ≤ x1 ∧ x1 ≤ 30) (k4 : 0 ≤ x4 ∧ x4 ≤ 30) (k5 : 2 ≤ x5 ∧ x5 ≤ 3781) (k6 : 0 ≤ x6 ∧ x6 ≤ 23) (k8 : 1 ≤ x8 ∧ x8 ≤ 24) (k11 : (-2147483648) ≤ x11 ∧ x11 ≤ 2147483647) (k12 : 1 ≤ x12 ∧ x12 ≤ 1) (k13 : 3 ≤ x13 ∧ x13 ≤ 3781) (k18 : (-2147483648) ≤ x18 ∧ x18 ≤ 2147483647) (k19 : 2 ≤ x19 ∧ x19 ≤ 2) (k20 : 4 ≤ x20 ∧ x20 ≤ 3781) (k22 : 0 ≤ x22 ∧ x22 ≤ 8) (k24 : 0 ≤ x24 ∧ x24 ≤ 99) (k25 : 8 ≤ x25 ∧ x25 ≤ 8) (k26 : 0 ≤ x26 ∧ x26 ≤ 25344) (k27 : 0 ≤ x27 ∧ x27 ≤ 32767) (k29 : 0 ≤ x29 ∧ x29 ≤ 7) (k30 : 16 ≤ x30 ∧ x30 ≤ 16) (k31 : 0 ≤ x31 ∧ x31 ≤ 458752) (k32 : 0 ≤ x32 ∧ x32 ≤ 524287) (k33 : 5 ≤ x33 ∧ x33 ≤ 3784) (k34 : 1 ≤ x34 ∧ x34 ≤ 24) (d0 : x6 + 1 ≤ x34 ∧ x34 ≤ x6 + 1) (d1 : x8 + (-4294967296) ≤ x34 ∧ x34 ≤ x8 + 0) (d2 : x5 + (-4294967296) ≤ x34 ∧ x34 ≤ x5 + (-1)) (d3 : x5 + 3 ≤ x33 ∧ x33 ≤ x5 + 3) (d4 : x5 + 2 ≤ x20 ∧ x20 ≤ x5 + 2) (d5 : x5 + 1 ≤ x13 ∧ x13 ≤ x5 + 1) (d6 : x8 + (-4294967296) ≤ x6 ∧ x6 ≤ x8 + (-1)) (d7 : x4 + (-4294967296) ≤ x1 ∧ x1 ≤ x4 + 0) (d8 : x1 + (-4294967296) ≤ x4 ∧ x4 ≤ x1 + 0) (d9 : x5 + (-4294967296) ≤ x6 ∧ x6 ≤ x5 + (-2)) (g3 : x8 = nodes_0) (f5 : x34 = x6 + 1) (f6 : x33 = x5 + 3) (f7 : GKE (nodes_0) (edges_0) (tail_0) (head_0)) (f11 : x32 ≤ x27 + x31 ∧ x27 ≤ x32 ∧ x31 ≤ x32) (f12 : bvp (x32) = bvp (x27) ||| bvp (x31)) (f13 : x31 = x29 * 65536) (f14 : bvp (x31) = bvp (x29) <<< (x30).toNat) (h15 : x29 = groupOf_1 (x6)) (f16 : x27 ≤ x22 + x26 ∧ x22 ≤ x27 ∧ x26 ≤ x27) (f17 : bvp (x27) = bvp (x22) ||| bvp (x26)) (f18 : x26 = x24 * 256) (f19 : bvp (x26) = bvp (x24) <<< (x25).toNat) (h20 : x24 = size_1 (x6)) (h21 : x22 = nameLength_1 (x6)) (f22 : x20 = x5 + x19) (f23 : GKE (nodes_1) (edges_1) (tail_1) (head_1)) (f25 : x13 = x5 + x12) (f26 : GKE (nodes_2) (edges_2) (tail_2) (head_2)) (f28 : x6 < x8) (f29 : PK1 (nodes_3) (edges_3) (past_3) (x1) (x5) (x6)) (f30 : GKE (nodes_3) (edges_3) (tail_3) (head_3)) (fe_0_0_1 : nodes_0 = nodes_1) (fe_0_1_1 : edges_0 = edges_1) (fe_0_0_2 : nodes_1 = nodes_2) (fe_0_1_2 : edges_1 = edges_2) (fe_0_0_3 : nodes_2 = nodes_3) (fe_0_1_3 : edges_2 = edges_3) (hE_0_4_1 : ∀ j : Int, nameLength_0 j = nameLength_1 j) (hE_0_4_2 : ∀ j : Int, nameLength_1 j = nameLength_2 j) (hE_0_4_3 : ∀ j : Int, nameLength_2 j = nameLength_3 j) (hK_0_4 : ∀ j : Int, 0 ≤ j → j < 24 → 0 ≤ nameLength_0 j ∧ nameLength_0 j ≤ 8) (hE_0_5_1 : ∀ j : Int, size_0 j = size_1 j) (hE_0_5_2 : ∀ j : Int, size_1 j = size_2 j) (hE_0_5_3 : ∀ j : Int, size_2 j = size_3 j) (hK_0_5 : ∀ j : Int, 0 ≤ j → j < 24 → 0 ≤ size_0 j ∧ size_0 j ≤ 99) (hE_0_6_1 : ∀ j : Int, groupOf_0 j = groupOf_1 j) (hE_0_6_2 : ∀ j : Int, groupOf_1 j = groupOf_2 j) (hE_0_6_3 : ∀ j : Int, groupOf_2 j = groupOf_3 j) (hK_0_6 : ∀ j : Int, 0 ≤ j → j < 24 → 0 ≤ groupOf_0 j ∧ groupOf_0 j ≤ 7) (hE_0_7_1 : ∀ j : Int, tail_0 j = tail_1 j) (hE_0_7_2 : ∀ j : Int, tail_1 j = tail_2 j) (hE_0_7_3 : ∀ j : Int, tail_2 j = tail_3 j) (hK_0_7 : ∀ j : Int, 0 ≤ j → j < 48 → 0 ≤ tail_0 j ∧ tail_0 j ≤ 23) (hE_0_8_1 : ∀ j : Int, head_0 j = head_1 j) (hE_0_8_2 : ∀ j : Int, head_1 j = head_2 j) (hE_0_8_3 : ∀ j : Int, head_2 j = head_3 j) (hK_0_8 : ∀ j : Int, 0 ≤ j → j < 48 → 0 ≤ head_0 j ∧ head_0 j ≤ 23) (hE_0_16_1 : ∀ j : Int, 0 ≤ j → (j = x20 → past_0 j = x32) ∧ (j ≠ x20 → past_0 j = past_1 j)) (hE_0_16_2 : ∀ j : Int, 0 ≤ j → (j = x13 → past_1 j = x18) ∧ (j ≠ x13 → past_1 j = past_2 j)) (hE_0_16_3 : ∀ j : Int, 0 ≤ j → (j = x5 → past_2 j = x11) ∧ (j ≠ x5 → past_2 j = past_3 j)) (kz_0_0 : 0 ≤ nodes_0 ∧ nodes_0 ≤ 24) (kz_0_1 : 0 ≤ edges_0 ∧ edges_0 ≤ 48) : PK1 (nodes_0) (edges_0) (past_0) (x1) (x33) (x34) := by
  subst fe_0_0_1
  subst fe_0_1_1
  subst fe_0_0_2
  subst fe_0_1_2
  subst fe_0_0_3
  subst fe_0_1_3
  have e_hE_0_4_1 := funext hE_0_4_1; subst e_hE_0_4_1
  have e_hE_0_4_2 := funext hE_0_4_2; subst e_hE_0_4_2
  have e_hE_0_4_3 := funext hE_0_4_3; subst e_hE_0_4_3
  have e_hE_0_5_1 := funext hE_0_5_1; subst e_hE_0_5_1
  have e_hE_0_5_2 := funext hE_0_5_2; subst e_hE_0_5_2
  have e_hE_0_5_3 := funext hE_0_5_3; subst e_hE_0_5_3
  have e_hE_0_6_1 := funext hE_0_6_1; subst e_hE_0_6_1
  have e_hE_0_6_2 := funext hE_0_6_2; subst e_hE_0_6_2
  have e_hE_0_6_3 := funext hE_0_6_3; subst e_hE_0_6_3
  have e_hE_0_7_1 := funext hE_0_7_1; subst e_hE_0_7_1
  have e_hE_0_7_2 := funext hE_0_7_2; subst e_hE_0_7_2
  have e_hE_0_7_3 := funext hE_0_7_3; subst e_hE_0_7_3
  have e_hE_0_8_1 := funext hE_0_8_1; subst e_hE_0_8_1
  have e_hE_0_8_2 := funext hE_0_8_2; subst e_hE_0_8_2
  have e_hE_0_8_3 := funext hE_0_8_3; subst e_hE_0_8_3
  first
    | assumption
    | exact pk1_start (k := x4) ‹PRO _ _› (by omega) (by omega) (by omega) (by omega) (by omega) (by omega) (by omega) hE_0_16_2 rfl (by omega) hE_0_16_1 (by omega) (by omega) (by omega) (by omega)
    | exact pk1_step ‹PK1 _ _ _ _ _ _› (by omega) hE_0_16_3 rfl hE_0_16_2 (by omega) hE_0_16_1 (by omega) (pnw_of (a := x22) (b := x24) (c := x29) (t := x26) (u := x31) (x := x27) (y := x32) (s1 := x25) (s2 := x30) (by assumption) (by omega) (by assumption) (by assumption) (by omega) (by assumption) (by omega) (by omega) (by omega) (by omega) (by omega) (by omega) (by omega) (by omega) (by omega) (by omega)) (by omega) (by omega)
  
def o_Gr_pack_5 : or_T := (32, 35, [(0, (2, 0, 0, [3])), (1, (0, 0, 30, [])), (4, (0, 0, 30, [])), (5, (0, 2, 3781, [])), (6, (0, 0, 23, [])), (7, (2, 0, 0, [61])), (8, (0, 1, 24, [])), (11, (0, -2147483648, 2147483647, [])), (12, (0, 1, 1, [])), (13, (0, 3, 3781, [])), (18, (0, -2147483648, 2147483647, [])), (19, (0, 2, 2, [])), (20, (0, 4, 3781, [])), (22, (0, 0, 8, [])), (24, (0, 0, 99, [])), (25, (0, 8, 8, [])), (26, (0, 0, 25344, [])), (27, (0, 0, 32767, [])), (29, (0, 0, 7, [])), (30, (0, 16, 16, [])), (31, (0, 0, 458752, [])), (32, (0, 0, 524287, [])), (33, (0, 5, 3784, [])), (34, (0, 1, 24, []))], [(9, [28, 3], [6]), (9, [23, 3], [5]), (9, [21, 3], [4]), (9, [8, 3], [0]), (9, [7, 3], [16]), (6, [34, 6], [1]), (6, [33, 5], [3]), (20, [3], [60, 2, 2, 596, 0, 1, 7, 8]), (24, [0, 3], []), (24, [1, 4], []), (100, [7, 20, 32], []), (13, [32, 27, 31], []), (16, [32, 27, 31], [1]), (15, [31, 29], [65536]), (16, [31, 29, 30], [3]), (10, [29, 28, 6], []), (13, [27, 22, 26], []), (16, [27, 22, 26], [1]), (15, [26, 24], [256]), (16, [26, 24, 25], [3]), (10, [24, 23, 6], []), (10, [22, 21, 6], []), (1, [20, 5, 19], []), (20, [3], [60, 2, 2, 596, 0, 1, 7, 8]), (100, [7, 13, 18], []), (1, [13, 5, 12], []), (20, [3], [60, 2, 2, 596, 0, 1, 7, 8]), (100, [7, 5, 11], []), (7, [6, 8], [2]), (20, [3, 4, 5, 6], [60, 2, 1, 741, 0, 1, 16]), (20, [3], [60, 2, 2, 596, 0, 1, 7, 8])], [], [], [(20, [3, 4, 33, 34], [60, 2, 1, 741, 0, 1, 16])], [], [(34, 6, 1, 1), (34, 8, -4294967296, 0), (34, 5, -4294967296, -1), (33, 5, 3, 3), (20, 5, 2, 2), (13, 5, 1, 1), (6, 8, -4294967296, -1), (1, 4, -4294967296, 0), (4, 1, -4294967296, 0), (6, 5, -4294967296, -2)])
theorem oo_Gr_pack_5 {kA : Nat → ClassId} : or_ok PRD kA GG o_Gr_pack_5 := by
  refine or_mk fun A ta ws vs hD hth hl => ?_
  intro t0 r0 t1 k1 t4 k4 t5 k5 t6 k6 t7 r7 t8 k8 t11 k11 t12 k12 t13 k13 t18 k18 t19 k19 t20 k20 t22 k22 t24 k24 t25 k25 t26 k26 t27 k27 t29 k29 t30 k30 t31 k31 t32 k32 t33 k33 t34 k34 d0 d1 d2 d3 d4 d5 d6 d7 d8 d9 f0 f1 f2 f3 f4 f5 f6 f7 f8 f9 ta1 w1 le1 s1 f11 f12 f13 f14 f15 f16 f17 f18 f19 f20 f21 f22 f23 ta2 w2 le2 s2 f25 f26 ta3 w3 le3 s3 f28 f29 f30
  replace f0 := shm_110 f0
  replace f1 := shm_109 f1
  replace f2 := shm_107 f2
  replace f3 := shm_175 f3
  replace f4 := shm_188 f4
  replace f5 := shm_4 f5
  replace f6 := shm_824 f6
  replace f7 := shm_401 f7
  replace f8 := shm_5 f8
  replace f9 := shm_5 f9
  have s1 : (∀ b j, w_el ws b j = if b = v_ad (n_v vs 7) ∧ j = (v_iv (n_v vs 20)).toNat then v_iv (n_v vs 32) else w_el w1 b j) ∧ ∀ b k, w_fd ws b k = w_fd w1 b k := s1.2
  have f11 : v_iv (n_v vs 32) ≤ v_iv (n_v vs 27) + v_iv (n_v vs 31) ∧ v_iv (n_v vs 27) ≤ v_iv (n_v vs 32) ∧ v_iv (n_v vs 31) ≤ v_iv (n_v vs 32) := (fun (h : v_iv (n_v vs 32) ≤ v_iv (n_v vs 27) + v_iv (n_v vs 31) ∧ v_iv (n_v vs 27) ≤ v_iv (n_v vs 32) ∧ v_iv (n_v vs 31) ≤ v_iv (n_v vs 32) ∧ (v_iv (n_v vs 32)).toNat = (v_iv (n_v vs 27)).toNat ||| (v_iv (n_v vs 31)).toNat) => ⟨h.1, h.2.1, h.2.2.1⟩) f11
  replace f12 := shm_372 f12
  replace f13 := shm_486 f13
  replace f14 := shm_367 f14
  replace f15 := shm_106 f15
  have f16 : v_iv (n_v vs 27) ≤ v_iv (n_v vs 22) + v_iv (n_v vs 26) ∧ v_iv (n_v vs 22) ≤ v_iv (n_v vs 27) ∧ v_iv (n_v vs 26) ≤ v_iv (n_v vs 27) := (fun (h : v_iv (n_v vs 27) ≤ v_iv (n_v vs 22) + v_iv (n_v vs 26) ∧ v_iv (n_v vs 22) ≤ v_iv (n_v vs 27) ∧ v_iv (n_v vs 26) ≤ v_iv (n_v vs 27) ∧ (v_iv (n_v vs 27)).toNat = (v_iv (n_v vs 22)).toNat ||| (v_iv (n_v vs 26)).toNat) => ⟨h.1, h.2.1, h.2.2.1⟩) f16
  replace f17 := shm_372 f17
  replace f18 := shm_825 f18
  replace f19 := shm_367 f19
  replace f20 := shm_106 f20
  replace f21 := shm_106 f21
  replace f22 := shm_12 f22
  replace f23 := shm_401 f23
  have s2 : (∀ b j, w_el w1 b j = if b = v_ad (n_v vs 7) ∧ j = (v_iv (n_v vs 13)).toNat then v_iv (n_v vs 18) else w_el w2 b j) ∧ ∀ b k, w_fd w1 b k = w_fd w2 b k := s2.2
  replace f25 := shm_12 f25
  replace f26 := shm_401 f26
  have s3 : (∀ b j, w_el w2 b j = if b = v_ad (n_v vs 7) ∧ j = (v_iv (n_v vs 5)).toNat then v_iv (n_v vs 11) else w_el w3 b j) ∧ ∀ b k, w_fd w2 b k = w_fd w3 b k := s3.2
  replace f28 := shm_6 f28
  replace f29 := shm_822 f29
  replace f30 := shm_401 f30
  have q3 : n_v vs 3 = n_v vs 0 := f8.symm
  have q4 : n_v vs 4 = n_v vs 1 := f9.symm
  simp only [q3, q4] at f0 f1 f2 f3 f4 f7 f23 f26 f29 f30
  have cr_0_4 := fdq_5 hD hth r0
  have cr_0_5 := fdq_73 hD hth r0
  have cr_0_6 := fdq_207 hD hth r0
  have ar_0_7_1 : w_ar w1 (n_v vs 0) 7 = w_ar ws (n_v vs 0) 7 := congrArg v_ad (s1.2 _ _).symm
  have ar_0_7_2 : w_ar w2 (n_v vs 0) 7 = w_ar ws (n_v vs 0) 7 := by rw [← ar_0_7_1]; show v_ad (w_fd w2 _ _) = v_ad (w_fd w1 _ _); rw [s2.2]
  have ar_0_7_3 : w_ar w3 (n_v vs 0) 7 = w_ar ws (n_v vs 0) 7 := by rw [← ar_0_7_2]; show v_ad (w_fd w3 _ _) = v_ad (w_fd w2 _ _); rw [s3.2]
  have cr_0_7 := fdq_52 hD hth r0
  have ar_0_8_1 : w_ar w1 (n_v vs 0) 8 = w_ar ws (n_v vs 0) 8 := congrArg v_ad (s1.2 _ _).symm
  have ar_0_8_2 : w_ar w2 (n_v vs 0) 8 = w_ar ws (n_v vs 0) 8 := by rw [← ar_0_8_1]; show v_ad (w_fd w2 _ _) = v_ad (w_fd w1 _ _); rw [s2.2]
  have ar_0_8_3 : w_ar w3 (n_v vs 0) 8 = w_ar ws (n_v vs 0) 8 := by rw [← ar_0_8_2]; show v_ad (w_fd w3 _ _) = v_ad (w_fd w2 _ _); rw [s3.2]
  have cr_0_8 := fdq_53 hD hth r0
  have ar_0_16_1 : w_ar w1 (n_v vs 0) 16 = w_ar ws (n_v vs 0) 16 := congrArg v_ad (s1.2 _ _).symm
  have ar_0_16_2 : w_ar w2 (n_v vs 0) 16 = w_ar ws (n_v vs 0) 16 := by rw [← ar_0_16_1]; show v_ad (w_fd w2 _ _) = v_ad (w_fd w1 _ _); rw [s2.2]
  have ar_0_16_3 : w_ar w3 (n_v vs 0) 16 = w_ar ws (n_v vs 0) 16 := by rw [← ar_0_16_2]; show v_ad (w_fd w3 _ _) = v_ad (w_fd w2 _ _); rw [s3.2]
  have ad_28 : v_ad (n_v vs 28) = w_ar ws (n_v vs 0) 6 := congrArg v_ad f0
  have ad_23 : v_ad (n_v vs 23) = w_ar ws (n_v vs 0) 5 := congrArg v_ad f1
  have ad_21 : v_ad (n_v vs 21) = w_ar ws (n_v vs 0) 4 := congrArg v_ad f2
  have ad_7 : v_ad (n_v vs 7) = w_ar ws (n_v vs 0) 16 := congrArg v_ad f4
  have g3 : v_iv (n_v vs 8) = w_fi ws (n_v vs 0) 0 := congrArg v_iv f3
  simp only [ad_28] at f15
  have h15 : v_iv (n_v vs 29) = w_ei w1 (w_ar ws (n_v vs 0) 6) (v_iv (n_v vs 6)) := f15
  simp only [ad_23] at f20
  have h20 : v_iv (n_v vs 24) = w_ei w1 (w_ar ws (n_v vs 0) 5) (v_iv (n_v vs 6)) := f20
  simp only [ad_21] at f21
  have h21 : v_iv (n_v vs 22) = w_ei w1 (w_ar ws (n_v vs 0) 4) (v_iv (n_v vs 6)) := f21
  simp only [ar_0_7_1, ar_0_8_1, ar_0_7_2, ar_0_8_2, ar_0_16_3, ar_0_7_3, ar_0_8_3] at f23 f26 f29 f30
  have fe_0_0_1 : w_fi ws (n_v vs 0) 0 = w_fi w1 (n_v vs 0) 0 := congrArg v_iv (s1.2 _ _)
  have fe_0_1_1 : w_fi ws (n_v vs 0) 1 = w_fi w1 (n_v vs 0) 1 := congrArg v_iv (s1.2 _ _)
  have fe_0_0_2 : w_fi w1 (n_v vs 0) 0 = w_fi w2 (n_v vs 0) 0 := congrArg v_iv (s2.2 _ _)
  have fe_0_1_2 : w_fi w1 (n_v vs 0) 1 = w_fi w2 (n_v vs 0) 1 := congrArg v_iv (s2.2 _ _)
  have fe_0_0_3 : w_fi w2 (n_v vs 0) 0 = w_fi w3 (n_v vs 0) 0 := congrArg v_iv (s3.2 _ _)
  have fe_0_1_3 : w_fi w2 (n_v vs 0) 1 = w_fi w3 (n_v vs 0) 1 := congrArg v_iv (s3.2 _ _)
  have hE_0_4_1 : ∀ j : Int, w_ei ws (w_ar ws (n_v vs 0) 4) j = w_ei w1 (w_ar ws (n_v vs 0) 4) j := el_kp s1.1 r7 cr_0_4 (by decide)
  have hE_0_4_2 : ∀ j : Int, w_ei w1 (w_ar ws (n_v vs 0) 4) j = w_ei w2 (w_ar ws (n_v vs 0) 4) j := el_kp s2.1 r7 cr_0_4 (by decide)
  have hE_0_4_3 : ∀ j : Int, w_ei w2 (w_ar ws (n_v vs 0) 4) j = w_ei w3 (w_ar ws (n_v vs 0) 4) j := el_kp s3.1 r7 cr_0_4 (by decide)
  have hK_0_4 := elq_31 hD hth cr_0_4
  have hE_0_5_1 : ∀ j : Int, w_ei ws (w_ar ws (n_v vs 0) 5) j = w_ei w1 (w_ar ws (n_v vs 0) 5) j := el_kp s1.1 r7 cr_0_5 (by decide)
  have hE_0_5_2 : ∀ j : Int, w_ei w1 (w_ar ws (n_v vs 0) 5) j = w_ei w2 (w_ar ws (n_v vs 0) 5) j := el_kp s2.1 r7 cr_0_5 (by decide)
  have hE_0_5_3 : ∀ j : Int, w_ei w2 (w_ar ws (n_v vs 0) 5) j = w_ei w3 (w_ar ws (n_v vs 0) 5) j := el_kp s3.1 r7 cr_0_5 (by decide)
  have hK_0_5 := elq_124 hD hth cr_0_5
  have hE_0_6_1 : ∀ j : Int, w_ei ws (w_ar ws (n_v vs 0) 6) j = w_ei w1 (w_ar ws (n_v vs 0) 6) j := el_kp s1.1 r7 cr_0_6 (by decide)
  have hE_0_6_2 : ∀ j : Int, w_ei w1 (w_ar ws (n_v vs 0) 6) j = w_ei w2 (w_ar ws (n_v vs 0) 6) j := el_kp s2.1 r7 cr_0_6 (by decide)
  have hE_0_6_3 : ∀ j : Int, w_ei w2 (w_ar ws (n_v vs 0) 6) j = w_ei w3 (w_ar ws (n_v vs 0) 6) j := el_kp s3.1 r7 cr_0_6 (by decide)
  have hK_0_6 := elq_125 hD hth cr_0_6
  have hE_0_7_1 : ∀ j : Int, w_ei ws (w_ar ws (n_v vs 0) 7) j = w_ei w1 (w_ar ws (n_v vs 0) 7) j := el_kp s1.1 r7 cr_0_7 (by decide)
  have hE_0_7_2 : ∀ j : Int, w_ei w1 (w_ar ws (n_v vs 0) 7) j = w_ei w2 (w_ar ws (n_v vs 0) 7) j := el_kp s2.1 r7 cr_0_7 (by decide)
  have hE_0_7_3 : ∀ j : Int, w_ei w2 (w_ar ws (n_v vs 0) 7) j = w_ei w3 (w_ar ws (n_v vs 0) 7) j := el_kp s3.1 r7 cr_0_7 (by decide)
  have hK_0_7 := elq_10 hD hth cr_0_7
  have hE_0_8_1 : ∀ j : Int, w_ei ws (w_ar ws (n_v vs 0) 8) j = w_ei w1 (w_ar ws (n_v vs 0) 8) j := el_kp s1.1 r7 cr_0_8 (by decide)
  have hE_0_8_2 : ∀ j : Int, w_ei w1 (w_ar ws (n_v vs 0) 8) j = w_ei w2 (w_ar ws (n_v vs 0) 8) j := el_kp s2.1 r7 cr_0_8 (by decide)
  have hE_0_8_3 : ∀ j : Int, w_ei w2 (w_ar ws (n_v vs 0) 8) j = w_ei w3 (w_ar ws (n_v vs 0) 8) j := el_kp s3.1 r7 cr_0_8 (by decide)
  have hK_0_8 := elq_11 hD hth cr_0_8
  have hE_0_16_1 : ∀ j : Int, 0 ≤ j → (j = v_iv (n_v vs 20) → w_ei ws (w_ar ws (n_v vs 0) 16) j = v_iv (n_v vs 32)) ∧ (j ≠ v_iv (n_v vs 20) → w_ei ws (w_ar ws (n_v vs 0) 16) j = w_ei w1 (w_ar ws (n_v vs 0) 16) j) := fun j hj => ⟨fun h => by unfold w_ei; rw [s1.1, if_pos ⟨ad_7.symm, by rw [h]⟩], fun h => by unfold w_ei; rw [s1.1, if_neg (fun e => h (by have := e.2; omega))]⟩
  have hE_0_16_2 : ∀ j : Int, 0 ≤ j → (j = v_iv (n_v vs 13) → w_ei w1 (w_ar ws (n_v vs 0) 16) j = v_iv (n_v vs 18)) ∧ (j ≠ v_iv (n_v vs 13) → w_ei w1 (w_ar ws (n_v vs 0) 16) j = w_ei w2 (w_ar ws (n_v vs 0) 16) j) := fun j hj => ⟨fun h => by unfold w_ei; rw [s2.1, if_pos ⟨ad_7.symm, by rw [h]⟩], fun h => by unfold w_ei; rw [s2.1, if_neg (fun e => h (by have := e.2; omega))]⟩
  have hE_0_16_3 : ∀ j : Int, 0 ≤ j → (j = v_iv (n_v vs 5) → w_ei w2 (w_ar ws (n_v vs 0) 16) j = v_iv (n_v vs 11)) ∧ (j ≠ v_iv (n_v vs 5) → w_ei w2 (w_ar ws (n_v vs 0) 16) j = w_ei w3 (w_ar ws (n_v vs 0) 16) j) := fun j hj => ⟨fun h => by unfold w_ei; rw [s3.1, if_pos ⟨ad_7.symm, by rw [h]⟩], fun h => by unfold w_ei; rw [s3.1, if_neg (fun e => h (by have := e.2; omega))]⟩
  have kz_0_0 := fdq_23 hD hth r0
  have kz_0_1 := fdq_38 hD hth r0
  have nf0 : fc_1 PRD (20, [3, 4, 33, 34], [60, 2, 1, 741, 0, 1, 16]) ws (vs) := by
    refine ⟨nf_in hl rfl, sgq_822 ?_⟩
    · show PK1 (w_fi ws (n_v vs 3) 0) (w_fi ws (n_v vs 3) 1) (w_ei ws (w_ar ws (n_v vs 3) 16)) (v_iv (n_v vs 4)) (v_iv (n_v vs 33)) (v_iv (n_v vs 34))
      simp only [q3, q4]
      exact vc_Gr_pack_5_0 (v_iv (n_v vs 1)) (v_iv (n_v vs 4)) (v_iv (n_v vs 5)) (v_iv (n_v vs 6)) (v_iv (n_v vs 8)) (v_iv (n_v vs 11)) (v_iv (n_v vs 12)) (v_iv (n_v vs 13)) (v_iv (n_v vs 18)) (v_iv (n_v vs 19)) (v_iv (n_v vs 20)) (v_iv (n_v vs 22)) (v_iv (n_v vs 24)) (v_iv (n_v vs 25)) (v_iv (n_v vs 26)) (v_iv (n_v vs 27)) (v_iv (n_v vs 29)) (v_iv (n_v vs 30)) (v_iv (n_v vs 31)) (v_iv (n_v vs 32)) (v_iv (n_v vs 33)) (v_iv (n_v vs 34)) (w_fi ws (n_v vs 0) 0) (w_ei ws (w_ar ws (n_v vs 0) 7)) (w_ei ws (w_ar ws (n_v vs 0) 8)) (w_fi ws (n_v vs 0) 1) (w_ei w1 (w_ar ws (n_v vs 0) 6)) (w_ei w1 (w_ar ws (n_v vs 0) 5)) (w_ei w1 (w_ar ws (n_v vs 0) 4)) (w_ei w1 (w_ar ws (n_v vs 0) 7)) (w_ei w1 (w_ar ws (n_v vs 0) 8)) (w_fi w1 (n_v vs 0) 0) (w_fi w1 (n_v vs 0) 1) (w_ei w2 (w_ar ws (n_v vs 0) 7)) (w_ei w2 (w_ar ws (n_v vs 0) 8)) (w_fi w2 (n_v vs 0) 0) (w_fi w2 (n_v vs 0) 1) (w_ei w3 (w_ar ws (n_v vs 0) 16)) (w_fi w3 (n_v vs 0) 0) (w_fi w3 (n_v vs 0) 1) (w_ei w3 (w_ar ws (n_v vs 0) 7)) (w_ei w3 (w_ar ws (n_v vs 0) 8)) (w_ei ws (w_ar ws (n_v vs 0) 4)) (w_ei w2 (w_ar ws (n_v vs 0) 4)) (w_ei w3 (w_ar ws (n_v vs 0) 4)) (w_ei ws (w_ar ws (n_v vs 0) 5)) (w_ei w2 (w_ar ws (n_v vs 0) 5)) (w_ei w3 (w_ar ws (n_v vs 0) 5)) (w_ei ws (w_ar ws (n_v vs 0) 6)) (w_ei w2 (w_ar ws (n_v vs 0) 6)) (w_ei w3 (w_ar ws (n_v vs 0) 6)) (w_ei ws (w_ar ws (n_v vs 0) 16)) (w_ei w1 (w_ar ws (n_v vs 0) 16)) (w_ei w2 (w_ar ws (n_v vs 0) 16)) k1 k4 k5 k6 k8 k11 k12 k13 k18 k19 k20 k22 k24 k25 k26 k27 k29 k30 k31 k32 k33 k34 d0 d1 d2 d3 d4 d5 d6 d7 d8 d9 g3 f5 f6 f7 f11 f12 f13 f14 h15 f16 f17 f18 f19 h20 h21 f22 f23 f25 f26 f28 f29 f30 fe_0_0_1 fe_0_1_1 fe_0_0_2 fe_0_1_2 fe_0_0_3 fe_0_1_3 hE_0_4_1 hE_0_4_2 hE_0_4_3 hK_0_4 hE_0_5_1 hE_0_5_2 hE_0_5_3 hK_0_5 hE_0_6_1 hE_0_6_2 hE_0_6_3 hK_0_6 hE_0_7_1 hE_0_7_2 hE_0_7_3 hK_0_7 hE_0_8_1 hE_0_8_2 hE_0_8_3 hK_0_8 hE_0_16_1 hE_0_16_2 hE_0_16_3 kz_0_0 kz_0_1
  refine ⟨(fun _ h => (by cases h)), [], trivial, ?_, (fun _ h => (by cases h))⟩
  rw [List.append_nil]
  exact List.forall_mem_cons.mpr ⟨⟨show (20 : Nat) < 100 from by decide, nf0⟩, (fun _ h => (by cases h))⟩
set_option maxHeartbeats 4000000 in
theorem vc_Gr_pack_6_0 (x1 : Int) (x4 : Int) (x5 : Int) (x6 : Int) (x8 : Int) (edges_0 : Int) (past_0 : Int → Int) (nodes_0 : Int) (tail_0 : Int → Int) (head_0 : Int → Int) (k1 : 0 ≤ x1 ∧ x1 ≤ 30) (k4 : 0 ≤ x4 ∧ x4 ≤ 30) (k5 : 74 ≤ x5 ∧ x5 ≤ 3734) (k6 : 0 ≤ x6 ∧ x6 ≤ 48) (k8 : 0 ≤ x8 ∧ x8 ≤ 48) (d0 : x8 + 0 ≤ x6 ∧ x6 ≤ x8 + 4294967296) (d1 : x4 + (-4294967296) ≤ x1 ∧ x1 ≤ x4 + 0) (d2 : x1 + (-4294967296) ≤ x4 ∧ x4 ≤ x1 + 0) (f1 : x8 ≤ x6) (g2 : x8 = edges_0) (f3 : PK2 (nodes_0) (edges_0) (past_0) (x1) (x5) (x6)) (f4 : GKE (nodes_0) (edges_0) (tail_0) (head_0)) (hK_0_7 : ∀ j : Int, 0 ≤ j → j < 48 → 0 ≤ tail_0 j ∧ tail_0 j ≤ 23) (hK_0_8 : ∀ j : Int, 0 ≤ j → j < 48 → 0 ≤ head_0 j ∧ head_0 j ≤ 23) (kz_0_0 : 0 ≤ nodes_0 ∧ nodes_0 ≤ 24) (kz_0_1 : 0 ≤ edges_0 ∧ edges_0 ≤ 48) : PRI (past_0) (x1) := by
  first
    | exact pri_of ‹PK2 _ _ _ _ _ _› (by omega)
  
set_option maxHeartbeats 4000000 in
theorem vc_Gr_pack_6_1 (x1 : Int) (x4 : Int) (x5 : Int) (x6 : Int) (x8 : Int) (edges_0 : Int) (past_0 : Int → Int) (nodes_0 : Int) (tail_0 : Int → Int) (head_0 : Int → Int) (k1 : 0 ≤ x1 ∧ x1 ≤ 30) (k4 : 0 ≤ x4 ∧ x4 ≤ 30) (k5 : 74 ≤ x5 ∧ x5 ≤ 3734) (k6 : 0 ≤ x6 ∧ x6 ≤ 48) (k8 : 0 ≤ x8 ∧ x8 ≤ 48) (d0 : x8 + 0 ≤ x6 ∧ x6 ≤ x8 + 4294967296) (d1 : x4 + (-4294967296) ≤ x1 ∧ x1 ≤ x4 + 0) (d2 : x1 + (-4294967296) ≤ x4 ∧ x4 ≤ x1 + 0) (f1 : x8 ≤ x6) (g2 : x8 = edges_0) (f3 : PK2 (nodes_0) (edges_0) (past_0) (x1) (x5) (x6)) (f4 : GKE (nodes_0) (edges_0) (tail_0) (head_0)) (hK_0_7 : ∀ j : Int, 0 ≤ j → j < 48 → 0 ≤ tail_0 j ∧ tail_0 j ≤ 23) (hK_0_8 : ∀ j : Int, 0 ≤ j → j < 48 → 0 ≤ head_0 j ∧ head_0 j ≤ 23) (kz_0_0 : 0 ≤ nodes_0 ∧ nodes_0 ≤ 24) (kz_0_1 : 0 ≤ edges_0 ∧ edges_0 ≤ 48) : GKE (nodes_0) (edges_0) (tail_0) (head_0) := by
  assumption
def o_Gr_pack_6 : or_T := (185, 9, [(0, (2, 0, 0, [3])), (1, (0, 0, 30, [])), (4, (0, 0, 30, [])), (5, (0, 74, 3734, [])), (6, (0, 0, 48, [])), (8, (0, 0, 48, []))], [(7, [6, 8], [3]), (9, [8, 3], [1]), (20, [3, 4, 5, 6], [60, 2, 1, 742, 0, 1, 16]), (20, [3], [60, 2, 2, 596, 0, 1, 7, 8]), (24, [0, 3], []), (24, [1, 4], [])], [], [], [(20, [0, 1], [60, 0, 1, 738, 16]), (20, [0], [60, 2, 2, 596, 0, 1, 7, 8])], [], [(6, 8, 0, 4294967296), (1, 4, -4294967296, 0), (4, 1, -4294967296, 0)])
theorem oo_Gr_pack_6 {kA : Nat → ClassId} : or_ok PRD kA GG o_Gr_pack_6 := by
  refine or_mk fun A ta ws vs hD hth hl => ?_
  intro t0 r0 t1 k1 t4 k4 t5 k5 t6 k6 t8 k8 d0 d1 d2 f1 f2 f3 f4 f5 f6
  replace f2 := shm_127 f2
  replace f3 := shm_823 f3
  replace f4 := shm_401 f4
  replace f5 := shm_5 f5
  replace f6 := shm_5 f6
  have q3 : n_v vs 3 = n_v vs 0 := f5.symm
  have q4 : n_v vs 4 = n_v vs 1 := f6.symm
  simp only [q3, q4] at f2 f3 f4
  have cr_0_7 := fdq_52 hD hth r0
  have cr_0_8 := fdq_53 hD hth r0
  have g2 : v_iv (n_v vs 8) = w_fi ws (n_v vs 0) 1 := congrArg v_iv f2
  have hK_0_7 := elq_10 hD hth cr_0_7
  have hK_0_8 := elq_11 hD hth cr_0_8
  have kz_0_0 := fdq_23 hD hth r0
  have kz_0_1 := fdq_38 hD hth r0
  have nf0 : fc_1 PRD (20, [0, 1], [60, 0, 1, 738, 16]) ws (vs) := ⟨nf_in hl rfl, sgq_826 (vc_Gr_pack_6_0 (v_iv (n_v vs 1)) (v_iv (n_v vs 4)) (v_iv (n_v vs 5)) (v_iv (n_v vs 6)) (v_iv (n_v vs 8)) (w_fi ws (n_v vs 0) 1) (w_ei ws (w_ar ws (n_v vs 0) 16)) (w_fi ws (n_v vs 0) 0) (w_ei ws (w_ar ws (n_v vs 0) 7)) (w_ei ws (w_ar ws (n_v vs 0) 8)) k1 k4 k5 k6 k8 d0 d1 d2 (shm_2 f1) g2 f3 f4 hK_0_7 hK_0_8 kz_0_0 kz_0_1)⟩
  have nf1 : fc_1 PRD (20, [0], [60, 2, 2, 596, 0, 1, 7, 8]) ws (vs) := ⟨nf_in hl rfl, sgq_401 (vc_Gr_pack_6_1 (v_iv (n_v vs 1)) (v_iv (n_v vs 4)) (v_iv (n_v vs 5)) (v_iv (n_v vs 6)) (v_iv (n_v vs 8)) (w_fi ws (n_v vs 0) 1) (w_ei ws (w_ar ws (n_v vs 0) 16)) (w_fi ws (n_v vs 0) 0) (w_ei ws (w_ar ws (n_v vs 0) 7)) (w_ei ws (w_ar ws (n_v vs 0) 8)) k1 k4 k5 k6 k8 d0 d1 d2 (shm_2 f1) g2 f3 f4 hK_0_7 hK_0_8 kz_0_0 kz_0_1)⟩
  refine ⟨(fun _ h => (by cases h)), [], trivial, ?_, (fun _ h => (by cases h))⟩
  rw [List.append_nil]
  exact List.forall_mem_cons.mpr ⟨⟨show (20 : Nat) < 100 from by decide, nf0⟩, List.forall_mem_cons.mpr ⟨⟨show (20 : Nat) < 100 from by decide, nf1⟩, (fun _ h => (by cases h))⟩⟩
set_option maxHeartbeats 4000000 in
theorem vc_Gr_pack_7_0 (x1 : Int) (x4 : Int) (x5 : Int) (x6 : Int) (x8 : Int) (x9 : Int) (x11 : Int) (x13 : Int) (x14 : Int) (x15 : Int) (x16 : Int) (x18 : Int) (x19 : Int) (x20 : Int) (x21 : Int) (x23 : Int) (x24 : Int) (x25 : Int) (x26 : Int) (x27 : Int) (edges_0 : Int) (tail_0 : Int → Int) (head_0 : Int → Int) (nodes_0 : Int) (oneWay_1 : Int → Int) (weight_1 : Int → Int) (head_1 : Int → Int) (tail_1 : Int → Int) (past_1 : Int → Int) (nodes_1 : Int) (edges_1 : Int) (weight_0 : Int → Int) (oneWay_0 : Int → Int) (past_0 : Int → Int) (k1 : 0 ≤ x1 ∧ x1 ≤ 30) (k4 : 0 ≤ x4 ∧ x4 ≤ 30) (k5 : 74 ≤ x5 ∧ x5 ≤ 3734) (k6 : 0 ≤ x6 ∧ x6 ≤ 47) (k8 : 1 ≤ x8 ∧ x8 ≤ 48) (k9 : 74 ≤ x9 ∧ x9 ≤ 3781) (k11 : 0 ≤ x11 ∧ x11 ≤ 23) (k13 : 0 ≤ x13 ∧ x13 ≤ 23) (k14 : 8 ≤ x14 ∧ x14 ≤ 8) (k15 : 0 ≤ x15 ∧ x15 ≤ 5888) (k16 : 0 ≤ x16 ∧ x16 ≤ 8191) (k18 : 0 ≤ x18 ∧ x18 ≤ 9) (k19 : 16 ≤ x19 ∧ x19 ≤ 16) (k20 : 0 ≤ x20 ∧ x20 ≤ 589824) (k21 : 0 ≤ x21 ∧ x21 ≤ 1048575) (k23 : 0 ≤ x23 ∧ x23 ≤ 1) (k24 : 24 ≤ x24 ∧ x24 ≤ 24) (k25 : 0 ≤ x25 ∧ x25 ≤ 16777216) (k26 : 0 ≤ x26 ∧ x26 ≤ 33554431) (k27 : 1 ≤ x27 ∧ x27 ≤ 48) (d0 : x6 + 1 ≤ x27 ∧ x27 ≤ x6 + 1) (d1 : x8 + (-4294967296) ≤ x27 ∧ x27 ≤ x8 + 0) (d2 : x6 + 74 ≤ x9 ∧ x9 ≤ x6 + 3734) (d3 : x8 + (-4294967296) ≤ x9 ∧ x9 ≤ x8 + 3733) (d4 : x5 + 0 ≤ x9 ∧ x9 ≤ x5 + 47) (d5 : x8 + (-4294967296) ≤ x6 ∧ x6 ≤ x8 + (-1)) (d6 : x4 + (-4294967296) ≤ x1 ∧ x1 ≤ x4 + 0) (d7 : x1 + (-4294967296) ≤ x4 ∧ x4 ≤ x1 + 0) (g4 : x8 = edges_0) (f6 : x27 = x6 + 1) (f7 : GKE (nodes_0) (edges_0) (tail_0) (head_0)) (f11 : x26 ≤ x21 + x25 ∧ x21 ≤ x26 ∧ x25 ≤ x26) (f12 : bvp (x26) = bvp (x21) ||| bvp (x25)) (f13 : x25 = x23 * 16777216) (f14 : bvp (x25) = bvp (x23) <<< (x24).toNat) (h15 : x23 = oneWay_1 (x6)) (f16 : x21 ≤ x16 + x20 ∧ x16 ≤ x21 ∧ x20 ≤ x21) (f17 : bvp (x21) = bvp (x16) ||| bvp (x20)) (f18 : x20 = x18 * 65536) (f19 : bvp (x20) = bvp (x18) <<< (x19).toNat) (h20 : x18 = weight_1 (x6)) (f21 : x16 ≤ x11 + x15 ∧ x11 ≤ x16 ∧ x15 ≤ x16) (f22 : bvp (x16) = bvp (x11) ||| bvp (x15)) (f23 : x15 = x13 * 256) (f24 : bvp (x15) = bvp (x13) <<< (x14).toNat) (h25 : x13 = head_1 (x6)) (h26 : x11 = tail_1 (x6)) (f27 : x9 = x5 + x6) (f28 : x6 < x8) (f29 : PK2 (nodes_1) (edges_1) (past_1) (x1) (x5) (x6)) (f30 : GKE (nodes_1) (edges_1) (tail_1) (head_1)) (fe_0_0_1 : nodes_0 = nodes_1) (fe_0_1_1 : edges_0 = edges_1) (hE_0_7_1 : ∀ j : Int, tail_0 j = tail_1 j) (hK_0_7 : ∀ j : Int, 0 ≤ j → j < 48 → 0 ≤ tail_0 j ∧ tail_0 j ≤ 23) (hE_0_8_1 : ∀ j : Int, head_0 j = head_1 j) (hK_0_8 : ∀ j : Int, 0 ≤ j → j < 48 → 0 ≤ head_0 j ∧ head_0 j ≤ 23) (hE_0_9_1 : ∀ j : Int, weight_0 j = weight_1 j) (hK_0_9 : ∀ j : Int, 0 ≤ j → j < 48 → 0 ≤ weight_0 j ∧ weight_0 j ≤ 9) (hE_0_10_1 : ∀ j : Int, oneWay_0 j = oneWay_1 j) (hK_0_10 : ∀ j : Int, 0 ≤ j → j < 48 → 0 ≤ oneWay_0 j ∧ oneWay_0 j ≤ 1) (hE_0_16_1 : ∀ j : Int, 0 ≤ j → (j = x9 → past_0 j = x26) ∧ (j ≠ x9 → past_0 j = past_1 j)) (kz_0_0 : 0 ≤ nodes_0 ∧ nodes_0 ≤ 24) (kz_0_1 : 0 ≤ edges_0 ∧ edges_0 ≤ 48) : PK2 (nodes_0) (edges_0) (past_0) (x1) (x5) (x27) := by
  subst fe_0_0_1
  subst fe_0_1_1
  have e_hE_0_7_1 := funext hE_0_7_1; subst e_hE_0_7_1
  have e_hE_0_8_1 := funext hE_0_8_1; subst e_hE_0_8_1
  have e_hE_0_9_1 := funext hE_0_9_1; subst e_hE_0_9_1
  have e_hE_0_10_1 := funext hE_0_10_1; subst e_hE_0_10_1
  first
    | assumption
    | exact pk2_start ‹PK1 _ _ _ _ _ _› (by omega) (by omega) (by omega)
    | (have g := ‹GKE _ _ _ _› x6 (by omega) (by omega); exact pk2_step ‹PK2 _ _ _ _ _ _› (by omega) hE_0_16_1 (by omega) (pew_of (a := x11) (b := x13) (c := x18) (d := x23) (t := x15) (u := x20) (v := x25) (x := x16) (y := x21) (z := x26) (s1 := x14) (s2 := x19) (s3 := x24) (by assumption) (by omega) (by assumption) (by assumption) (by omega) (by assumption) (by assumption) (by omega) (by assumption) (by omega) (by omega) (by omega) (by omega) (by omega) (by omega) (by omega) (by omega) (by omega) (by omega) (by omega) (by omega) (by omega) (by omega) (by omega) (by omega)) (by omega))
  
def o_Gr_pack_7 : or_T := (127, 28, [(0, (2, 0, 0, [3])), (1, (0, 0, 30, [])), (4, (0, 0, 30, [])), (5, (0, 74, 3734, [])), (6, (0, 0, 47, [])), (7, (2, 0, 0, [61])), (8, (0, 1, 48, [])), (9, (0, 74, 3781, [])), (11, (0, 0, 23, [])), (13, (0, 0, 23, [])), (14, (0, 8, 8, [])), (15, (0, 0, 5888, [])), (16, (0, 0, 8191, [])), (18, (0, 0, 9, [])), (19, (0, 16, 16, [])), (20, (0, 0, 589824, [])), (21, (0, 0, 1048575, [])), (23, (0, 0, 1, [])), (24, (0, 24, 24, [])), (25, (0, 0, 16777216, [])), (26, (0, 0, 33554431, [])), (27, (0, 1, 48, []))], [(9, [22, 3], [10]), (9, [17, 3], [9]), (9, [12, 3], [8]), (9, [10, 3], [7]), (9, [8, 3], [1]), (9, [7, 3], [16]), (6, [27, 6], [1]), (20, [3], [60, 2, 2, 596, 0, 1, 7, 8]), (24, [0, 3], []), (24, [1, 4], []), (100, [7, 9, 26], []), (13, [26, 21, 25], []), (16, [26, 21, 25], [1]), (15, [25, 23], [16777216]), (16, [25, 23, 24], [3]), (10, [23, 22, 6], []), (13, [21, 16, 20], []), (16, [21, 16, 20], [1]), (15, [20, 18], [65536]), (16, [20, 18, 19], [3]), (10, [18, 17, 6], []), (13, [16, 11, 15], []), (16, [16, 11, 15], [1]), (15, [15, 13], [256]), (16, [15, 13, 14], [3]), (10, [13, 12, 6], []), (10, [11, 10, 6], []), (1, [9, 5, 6], []), (7, [6, 8], [2]), (20, [3, 4, 5, 6], [60, 2, 1, 742, 0, 1, 16]), (20, [3], [60, 2, 2, 596, 0, 1, 7, 8])], [], [], [(20, [3, 4, 5, 27], [60, 2, 1, 742, 0, 1, 16])], [], [(27, 6, 1, 1), (27, 8, -4294967296, 0), (9, 6, 74, 3734), (9, 8, -4294967296, 3733), (9, 5, 0, 47), (6, 8, -4294967296, -1), (1, 4, -4294967296, 0), (4, 1, -4294967296, 0)])
theorem oo_Gr_pack_7 {kA : Nat → ClassId} : or_ok PRD kA GG o_Gr_pack_7 := by
  refine or_mk fun A ta ws vs hD hth hl => ?_
  intro t0 r0 t1 k1 t4 k4 t5 k5 t6 k6 t7 r7 t8 k8 t9 k9 t11 k11 t13 k13 t14 k14 t15 k15 t16 k16 t18 k18 t19 k19 t20 k20 t21 k21 t23 k23 t24 k24 t25 k25 t26 k26 t27 k27 d0 d1 d2 d3 d4 d5 d6 d7 f0 f1 f2 f3 f4 f5 f6 f7 f8 f9 ta1 w1 le1 s1 f11 f12 f13 f14 f15 f16 f17 f18 f19 f20 f21 f22 f23 f24 f25 f26 f27 f28 f29 f30
  replace f0 := shm_114 f0
  replace f1 := shm_120 f1
  replace f2 := shm_143 f2
  replace f3 := shm_216 f3
  replace f4 := shm_127 f4
  replace f5 := shm_188 f5
  replace f6 := shm_4 f6
  replace f7 := shm_401 f7
  replace f8 := shm_5 f8
  replace f9 := shm_5 f9
  have s1 : (∀ b j, w_el ws b j = if b = v_ad (n_v vs 7) ∧ j = (v_iv (n_v vs 9)).toNat then v_iv (n_v vs 26) else w_el w1 b j) ∧ ∀ b k, w_fd ws b k = w_fd w1 b k := s1.2
  have f11 : v_iv (n_v vs 26) ≤ v_iv (n_v vs 21) + v_iv (n_v vs 25) ∧ v_iv (n_v vs 21) ≤ v_iv (n_v vs 26) ∧ v_iv (n_v vs 25) ≤ v_iv (n_v vs 26) := (fun (h : v_iv (n_v vs 26) ≤ v_iv (n_v vs 21) + v_iv (n_v vs 25) ∧ v_iv (n_v vs 21) ≤ v_iv (n_v vs 26) ∧ v_iv (n_v vs 25) ≤ v_iv (n_v vs 26) ∧ (v_iv (n_v vs 26)).toNat = (v_iv (n_v vs 21)).toNat ||| (v_iv (n_v vs 25)).toNat) => ⟨h.1, h.2.1, h.2.2.1⟩) f11
  replace f12 := shm_372 f12
  replace f13 := shm_827 f13
  replace f14 := shm_367 f14
  replace f15 := shm_106 f15
  have f16 : v_iv (n_v vs 21) ≤ v_iv (n_v vs 16) + v_iv (n_v vs 20) ∧ v_iv (n_v vs 16) ≤ v_iv (n_v vs 21) ∧ v_iv (n_v vs 20) ≤ v_iv (n_v vs 21) := (fun (h : v_iv (n_v vs 21) ≤ v_iv (n_v vs 16) + v_iv (n_v vs 20) ∧ v_iv (n_v vs 16) ≤ v_iv (n_v vs 21) ∧ v_iv (n_v vs 20) ≤ v_iv (n_v vs 21) ∧ (v_iv (n_v vs 21)).toNat = (v_iv (n_v vs 16)).toNat ||| (v_iv (n_v vs 20)).toNat) => ⟨h.1, h.2.1, h.2.2.1⟩) f16
  replace f17 := shm_372 f17
  replace f18 := shm_486 f18
  replace f19 := shm_367 f19
  replace f20 := shm_106 f20
  have f21 : v_iv (n_v vs 16) ≤ v_iv (n_v vs 11) + v_iv (n_v vs 15) ∧ v_iv (n_v vs 11) ≤ v_iv (n_v vs 16) ∧ v_iv (n_v vs 15) ≤ v_iv (n_v vs 16) := (fun (h : v_iv (n_v vs 16) ≤ v_iv (n_v vs 11) + v_iv (n_v vs 15) ∧ v_iv (n_v vs 11) ≤ v_iv (n_v vs 16) ∧ v_iv (n_v vs 15) ≤ v_iv (n_v vs 16) ∧ (v_iv (n_v vs 16)).toNat = (v_iv (n_v vs 11)).toNat ||| (v_iv (n_v vs 15)).toNat) => ⟨h.1, h.2.1, h.2.2.1⟩) f21
  replace f22 := shm_372 f22
  replace f23 := shm_825 f23
  replace f24 := shm_367 f24
  replace f25 := shm_106 f25
  replace f26 := shm_106 f26
  replace f27 := shm_12 f27
  replace f28 := shm_6 f28
  replace f29 := shm_823 f29
  replace f30 := shm_401 f30
  have q3 : n_v vs 3 = n_v vs 0 := f8.symm
  have q4 : n_v vs 4 = n_v vs 1 := f9.symm
  simp only [q3, q4] at f0 f1 f2 f3 f4 f5 f7 f29 f30
  have ar_0_7_1 : w_ar w1 (n_v vs 0) 7 = w_ar ws (n_v vs 0) 7 := congrArg v_ad (s1.2 _ _).symm
  have cr_0_7 := fdq_52 hD hth r0
  have ar_0_8_1 : w_ar w1 (n_v vs 0) 8 = w_ar ws (n_v vs 0) 8 := congrArg v_ad (s1.2 _ _).symm
  have cr_0_8 := fdq_53 hD hth r0
  have cr_0_9 := fdq_111 hD hth r0
  have cr_0_10 := fdq_204 hD hth r0
  have ar_0_16_1 : w_ar w1 (n_v vs 0) 16 = w_ar ws (n_v vs 0) 16 := congrArg v_ad (s1.2 _ _).symm
  have ad_22 : v_ad (n_v vs 22) = w_ar ws (n_v vs 0) 10 := congrArg v_ad f0
  have ad_17 : v_ad (n_v vs 17) = w_ar ws (n_v vs 0) 9 := congrArg v_ad f1
  have ad_12 : v_ad (n_v vs 12) = w_ar ws (n_v vs 0) 8 := congrArg v_ad f2
  have ad_10 : v_ad (n_v vs 10) = w_ar ws (n_v vs 0) 7 := congrArg v_ad f3
  have ad_7 : v_ad (n_v vs 7) = w_ar ws (n_v vs 0) 16 := congrArg v_ad f5
  have g4 : v_iv (n_v vs 8) = w_fi ws (n_v vs 0) 1 := congrArg v_iv f4
  simp only [ad_22] at f15
  have h15 : v_iv (n_v vs 23) = w_ei w1 (w_ar ws (n_v vs 0) 10) (v_iv (n_v vs 6)) := f15
  simp only [ad_17] at f20
  have h20 : v_iv (n_v vs 18) = w_ei w1 (w_ar ws (n_v vs 0) 9) (v_iv (n_v vs 6)) := f20
  simp only [ad_12] at f25
  have h25 : v_iv (n_v vs 13) = w_ei w1 (w_ar ws (n_v vs 0) 8) (v_iv (n_v vs 6)) := f25
  simp only [ad_10] at f26
  have h26 : v_iv (n_v vs 11) = w_ei w1 (w_ar ws (n_v vs 0) 7) (v_iv (n_v vs 6)) := f26
  simp only [ar_0_16_1, ar_0_7_1, ar_0_8_1] at f29 f30
  have fe_0_0_1 : w_fi ws (n_v vs 0) 0 = w_fi w1 (n_v vs 0) 0 := congrArg v_iv (s1.2 _ _)
  have fe_0_1_1 : w_fi ws (n_v vs 0) 1 = w_fi w1 (n_v vs 0) 1 := congrArg v_iv (s1.2 _ _)
  have hE_0_7_1 : ∀ j : Int, w_ei ws (w_ar ws (n_v vs 0) 7) j = w_ei w1 (w_ar ws (n_v vs 0) 7) j := el_kp s1.1 r7 cr_0_7 (by decide)
  have hK_0_7 := elq_10 hD hth cr_0_7
  have hE_0_8_1 : ∀ j : Int, w_ei ws (w_ar ws (n_v vs 0) 8) j = w_ei w1 (w_ar ws (n_v vs 0) 8) j := el_kp s1.1 r7 cr_0_8 (by decide)
  have hK_0_8 := elq_11 hD hth cr_0_8
  have hE_0_9_1 : ∀ j : Int, w_ei ws (w_ar ws (n_v vs 0) 9) j = w_ei w1 (w_ar ws (n_v vs 0) 9) j := el_kp s1.1 r7 cr_0_9 (by decide)
  have hK_0_9 := elq_54 hD hth cr_0_9
  have hE_0_10_1 : ∀ j : Int, w_ei ws (w_ar ws (n_v vs 0) 10) j = w_ei w1 (w_ar ws (n_v vs 0) 10) j := el_kp s1.1 r7 cr_0_10 (by decide)
  have hK_0_10 := elq_120 hD hth cr_0_10
  have hE_0_16_1 : ∀ j : Int, 0 ≤ j → (j = v_iv (n_v vs 9) → w_ei ws (w_ar ws (n_v vs 0) 16) j = v_iv (n_v vs 26)) ∧ (j ≠ v_iv (n_v vs 9) → w_ei ws (w_ar ws (n_v vs 0) 16) j = w_ei w1 (w_ar ws (n_v vs 0) 16) j) := fun j hj => ⟨fun h => by unfold w_ei; rw [s1.1, if_pos ⟨ad_7.symm, by rw [h]⟩], fun h => by unfold w_ei; rw [s1.1, if_neg (fun e => h (by have := e.2; omega))]⟩
  have kz_0_0 := fdq_23 hD hth r0
  have kz_0_1 := fdq_38 hD hth r0
  have nf0 : fc_1 PRD (20, [3, 4, 5, 27], [60, 2, 1, 742, 0, 1, 16]) ws (vs) := by
    refine ⟨nf_in hl rfl, sgq_823 ?_⟩
    · show PK2 (w_fi ws (n_v vs 3) 0) (w_fi ws (n_v vs 3) 1) (w_ei ws (w_ar ws (n_v vs 3) 16)) (v_iv (n_v vs 4)) (v_iv (n_v vs 5)) (v_iv (n_v vs 27))
      simp only [q3, q4]
      exact vc_Gr_pack_7_0 (v_iv (n_v vs 1)) (v_iv (n_v vs 4)) (v_iv (n_v vs 5)) (v_iv (n_v vs 6)) (v_iv (n_v vs 8)) (v_iv (n_v vs 9)) (v_iv (n_v vs 11)) (v_iv (n_v vs 13)) (v_iv (n_v vs 14)) (v_iv (n_v vs 15)) (v_iv (n_v vs 16)) (v_iv (n_v vs 18)) (v_iv (n_v vs 19)) (v_iv (n_v vs 20)) (v_iv (n_v vs 21)) (v_iv (n_v vs 23)) (v_iv (n_v vs 24)) (v_iv (n_v vs 25)) (v_iv (n_v vs 26)) (v_iv (n_v vs 27)) (w_fi ws (n_v vs 0) 1) (w_ei ws (w_ar ws (n_v vs 0) 7)) (w_ei ws (w_ar ws (n_v vs 0) 8)) (w_fi ws (n_v vs 0) 0) (w_ei w1 (w_ar ws (n_v vs 0) 10)) (w_ei w1 (w_ar ws (n_v vs 0) 9)) (w_ei w1 (w_ar ws (n_v vs 0) 8)) (w_ei w1 (w_ar ws (n_v vs 0) 7)) (w_ei w1 (w_ar ws (n_v vs 0) 16)) (w_fi w1 (n_v vs 0) 0) (w_fi w1 (n_v vs 0) 1) (w_ei ws (w_ar ws (n_v vs 0) 9)) (w_ei ws (w_ar ws (n_v vs 0) 10)) (w_ei ws (w_ar ws (n_v vs 0) 16)) k1 k4 k5 k6 k8 k9 k11 k13 k14 k15 k16 k18 k19 k20 k21 k23 k24 k25 k26 k27 d0 d1 d2 d3 d4 d5 d6 d7 g4 f6 f7 f11 f12 f13 f14 h15 f16 f17 f18 f19 h20 f21 f22 f23 f24 h25 h26 f27 f28 f29 f30 fe_0_0_1 fe_0_1_1 hE_0_7_1 hK_0_7 hE_0_8_1 hK_0_8 hE_0_9_1 hK_0_9 hE_0_10_1 hK_0_10 hE_0_16_1 kz_0_0 kz_0_1
  refine ⟨(fun _ h => (by cases h)), [], trivial, ?_, (fun _ h => (by cases h))⟩
  rw [List.append_nil]
  exact List.forall_mem_cons.mpr ⟨⟨show (20 : Nat) < 100 from by decide, nf0⟩, (fun _ h => (by cases h))⟩
def n_Gr_pack_an : List an_T := [(32, [(0, (2, 0, 0, [3])), (1, (0, 0, 30, [])), (2, (0, 2, 3784, [])), (3, (0, 0, 24, []))], [], (0, 0), [(0, 0, 99968), (1, 5, 3784), (0, 0, 100000)], [(1, 4, (Int.negSucc 999999999999), 0), (4, 1, (Int.negSucc 999999999999), 0), (6, 5, (Int.negSucc 999999999999), (Int.negSucc 1))], [((0, 16), (2, 0, 0, [61]))], [(2, 0, 0, [3]), (0, 0, 30, []), (2, 0, 0, [61])], 0, [], [(20, [3, 4, 5, 6], [60, 2, 1, 741, 0, 1, 16]), (20, [3], [60, 2, 2, 596, 0, 1, 7, 8]), (24, [0, 3], []), (24, [1, 4], [])]), (127, [(0, (2, 0, 0, [3])), (1, (0, 0, 30, [])), (2, (0, 74, 3734, [])), (3, (0, 0, 48, []))], [], (0, 0), [(0, 0, 99873), (1, 6, 48), (0, 0, 100000)], [(1, 4, (Int.negSucc 999999999999), 0), (4, 1, (Int.negSucc 999999999999), 0)], [((0, 16), (2, 0, 0, [61]))], [(2, 0, 0, [3]), (0, 0, 30, []), (2, 0, 0, [61])], 0, [], [(20, [3, 4, 5, 6], [60, 2, 1, 742, 0, 1, 16]), (20, [3], [60, 2, 2, 596, 0, 1, 7, 8]), (24, [0, 3], []), (24, [1, 4], [])])]
def t_Gr_pack_ct : ct_L := [(1, 149, e_Gr_fourLetters)]
set_option maxRecDepth 100000 in
theorem c_Gr_pack {l : Launch} {D : va_G} {kA : Nat → ClassId} (h_Gr_fourLetters : ct_ok PRD l D kA GG y_Gr_fourLetters z_Gr_fourLetters e_Gr_fourLetters) : ct_ok PRD l D kA GG y_Gr_pack z_Gr_pack e_Gr_pack := chk_all_ok (FT := [(9, 3, 0), (15, 3, 1), (25, 3, 4), (29, 3, 5), (32, 3, 6), (35, 3, 7), (38, 3, 8), (41, 3, 9), (44, 3, 10), (62, 3, 16)]) (PT := []) (CT := t_Gr_pack_ct) (KT := []) (NT := []) (AN := n_Gr_pack_an) (OT := [o_Gr_pack_0, o_Gr_pack_1, o_Gr_pack_2, o_Gr_pack_3, o_Gr_pack_4, o_Gr_pack_5, o_Gr_pack_6, o_Gr_pack_7]) 3 488 (List.forall_mem_cons.mpr ⟨oo_Gr_pack_0, List.forall_mem_cons.mpr ⟨oo_Gr_pack_1, List.forall_mem_cons.mpr ⟨oo_Gr_pack_2, List.forall_mem_cons.mpr ⟨oo_Gr_pack_3, List.forall_mem_cons.mpr ⟨oo_Gr_pack_4, List.forall_mem_cons.mpr ⟨oo_Gr_pack_5, List.forall_mem_cons.mpr ⟨oo_Gr_pack_6, List.forall_mem_cons.mpr ⟨oo_Gr_pack_7, List.forall_mem_nil _⟩⟩⟩⟩⟩⟩⟩⟩) (by decide +kernel) ⟨List.forall_mem_cons.mpr ⟨gf_Gr_9, List.forall_mem_cons.mpr ⟨gf_Gr_15, List.forall_mem_cons.mpr ⟨gf_Gr_25, List.forall_mem_cons.mpr ⟨gf_Gr_29, List.forall_mem_cons.mpr ⟨gf_Gr_32, List.forall_mem_cons.mpr ⟨gf_Gr_35, List.forall_mem_cons.mpr ⟨gf_Gr_38, List.forall_mem_cons.mpr ⟨gf_Gr_41, List.forall_mem_cons.mpr ⟨gf_Gr_44, List.forall_mem_cons.mpr ⟨gf_Gr_62, List.forall_mem_nil _⟩⟩⟩⟩⟩⟩⟩⟩⟩⟩, List.forall_mem_nil _, List.forall_mem_cons.mpr ⟨cl_virtual (y := y_Gr_fourLetters) (ci := 3) rfl rfl ⟨_, _, rfl⟩ (by decide +kernel) h_Gr_fourLetters wm_983 wm_3 wm_980 wm_982 wv_2_15 ⟨by decide, by decide, by decide +kernel⟩ (by decide), List.forall_mem_nil _⟩, List.forall_mem_nil _, List.forall_mem_nil _, GG_pl⟩ (by decide +kernel)
set_option maxHeartbeats 4000000 in
theorem vc_Gr_removeEdge_at_gn_0_r0 (x1 : Int) (x4 : Int) (x5 : Int) (x6 : Int) (x7 : Int) (x8 : Int) (edges_0 : Int) (tail_0 : Int → Int) (head_0 : Int → Int) (nodes_0 : Int) (k1 : 0 ≤ x1 ∧ x1 ≤ 47) (k4 : 1 ≤ x4 ∧ x4 ≤ 48) (k5 : 0 ≤ x5 ∧ x5 ≤ 23) (k6 : (-46) ≤ x6 ∧ x6 ≤ 48) (k7 : 1 ≤ x7 ∧ x7 ≤ 1) (k8 : (-47) ≤ x8 ∧ x8 ≤ 47) (d0 : x6 + (-1) ≤ x8 ∧ x8 ≤ x6 + (-1)) (d1 : x4 + (-48) ≤ x8 ∧ x8 ≤ x4 + (-1)) (d2 : x4 + (-47) ≤ x6 ∧ x6 ≤ x4 + 0) (f2 : x8 = x6 - x7) (f3 : x6 = x4 - x1) (g4 : x4 = edges_0) (f5 : (0 ≤ x1) ∧ ((x1 + 1) ≤ edges_0)) (f6 : GKE (nodes_0) (edges_0) (tail_0) (head_0)) (f7 : NOQ (edges_0) (tail_0) (head_0) (x1) (x5)) (hK_0_7 : ∀ j : Int, 0 ≤ j → j < 48 → 0 ≤ tail_0 j ∧ tail_0 j ≤ 23) (hK_0_8 : ∀ j : Int, 0 ≤ j → j < 48 → 0 ≤ head_0 j ∧ head_0 j ≤ 23) (kz_0_0 : 0 ≤ nodes_0 ∧ nodes_0 ≤ 24) (kz_0_1 : 0 ≤ edges_0 ∧ edges_0 ≤ 48) : 0 ≤ x8 ∧ x8 ≤ 47 := by
  first
    | omega
  
def o_Gr_removeEdge_at_gn_0 : or_T := (8, 9, [(0, (2, 0, 0, [3])), (1, (0, 0, 47, [])), (2, (2, 0, 0, [52])), (3, (2, 0, 0, [53])), (4, (0, 1, 48, [])), (5, (0, 0, 23, [])), (6, (0, -46, 48, [])), (7, (0, 1, 1, [])), (8, (0, -47, 47, []))], [(9, [2, 0], [7]), (9, [3, 0], [8]), (2, [8, 6, 7], []), (2, [6, 4, 1], []), (9, [4, 0], [1]), (20, [1, 0], [50, 1, 0, 1001, 2, 6, 0, 2, 0, 0, 1, 0, 0, 6, 4, 2, 1, 0, 0, 1, 2, 1, 1]), (20, [0], [60, 2, 2, 596, 0, 1, 7, 8]), (20, [0, 1, 5], [60, 1, 2, 757, 1, 7, 8])], [(8, (0, 0, 47, []))], [], [], [], [(8, 6, -1, -1), (8, 4, -48, -1), (6, 4, -47, 0)])
theorem oo_Gr_removeEdge_at_gn_0 {kA : Nat → ClassId} : or_ok PRD kA GG o_Gr_removeEdge_at_gn_0 := by
  refine or_mk fun A ta ws vs hD hth hl => ?_
  intro t0 r0 t1 k1 t2 r2 t3 r3 t4 k4 t5 k5 t6 k6 t7 k7 t8 k8 d0 d1 d2 f0 f1 f2 f3 f4 f5 f6 f7
  replace f4 := shm_127 f4
  have cr_0_7 := fdq_52 hD hth r0
  have cr_0_8 := fdq_53 hD hth r0
  have g4 : v_iv (n_v vs 4) = w_fi ws (n_v vs 0) 1 := congrArg v_iv f4
  have hK_0_7 := elq_10 hD hth cr_0_7
  have hK_0_8 := elq_11 hD hth cr_0_8
  have kz_0_0 := fdq_23 hD hth r0
  have kz_0_1 := fdq_38 hD hth r0
  have hrf0 : 0 ≤ v_iv (n_v vs 8) ∧ v_iv (n_v vs 8) ≤ 47 := vc_Gr_removeEdge_at_gn_0_r0 (v_iv (n_v vs 1)) (v_iv (n_v vs 4)) (v_iv (n_v vs 5)) (v_iv (n_v vs 6)) (v_iv (n_v vs 7)) (v_iv (n_v vs 8)) (w_fi ws (n_v vs 0) 1) (w_ei ws (w_ar ws (n_v vs 0) 7)) (w_ei ws (w_ar ws (n_v vs 0) 8)) (w_fi ws (n_v vs 0) 0) k1 k4 k5 k6 k7 k8 d0 d1 d2 (shm_14 f2) (shm_14 f3) g4 (shm_402 f5) (shm_401 f6) (shm_828 f7) hK_0_7 hK_0_8 kz_0_0 kz_0_1
  have rf8 : tv_ok ta (0, 0, 47, []) (n_v vs 8) := tv_in t8 (by first | omega | grind) (by first | omega | grind)
  refine ⟨List.forall_mem_cons.mpr ⟨rf8, (fun _ h => (by cases h))⟩, [], trivial, ?_, (fun _ h => (by cases h))⟩
  rw [List.append_nil]
  exact (fun _ h => (by cases h))
set_option maxHeartbeats 4000000 in
theorem vc_Gr_removeEdge_at_gn_1_0 (x1 : Int) (x4 : Int) (x5 : Int) (x6 : Int) (x7 : Int) (x8 : Int) (x9 : Int) (x10 : Int) (edges_0 : Int) (tail_0 : Int → Int) (head_0 : Int → Int) (nodes_0 : Int) (gy : Int) (gu : Int) (gw : Int) (k1 : 0 ≤ x1 ∧ x1 ≤ 47) (k4 : 1 ≤ x4 ∧ x4 ≤ 48) (k5 : 0 ≤ x5 ∧ x5 ≤ 23) (k6 : (-46) ≤ x6 ∧ x6 ≤ 48) (k7 : 1 ≤ x7 ∧ x7 ≤ 1) (k8 : 0 ≤ x8 ∧ x8 ≤ 47) (k9 : 1 ≤ x9 ∧ x9 ≤ 1) (k10 : 1 ≤ x10 ∧ x10 ≤ 48) (d0 : x1 + 1 ≤ x10 ∧ x10 ≤ x1 + 1) (d1 : x6 + (-1) ≤ x8 ∧ x8 ≤ x6 + (-1)) (d2 : x4 + (-48) ≤ x8 ∧ x8 ≤ x4 + (-1)) (d3 : x4 + (-47) ≤ x6 ∧ x6 ≤ x4 + 0) (f2 : x10 = x1 + x9) (f3 : x8 = x6 - x7) (f4 : x6 = x4 - x1) (g5 : x4 = edges_0) (f6 : (0 ≤ x1) ∧ ((x1 + 1) ≤ edges_0)) (f7 : GKE (nodes_0) (edges_0) (tail_0) (head_0)) (f8 : NOQ (edges_0) (tail_0) (head_0) (x1) (x5)) (hK_0_7 : ∀ j : Int, 0 ≤ j → j < 48 → 0 ≤ tail_0 j ∧ tail_0 j ≤ 23) (hK_0_8 : ∀ j : Int, 0 ≤ j → j < 48 → 0 ≤ head_0 j ∧ head_0 j ≤ 23) (kz_0_0 : 0 ≤ nodes_0 ∧ nodes_0 ≤ 24) (kz_0_1 : 0 ≤ edges_0 ∧ edges_0 ≤ 48) (ey2 : gy = nodes_0) (ey3 : 0 ≤ gy ∧ gy ≤ 24) (eu2 : gu = edges_0) (eu3 : 0 ≤ gu ∧ gu ≤ 48) (ew2 : gw = x5) (ew3 : 0 ≤ gw ∧ gw ≤ 23) : x10 + x8 ≤ 48 := by
  first
    | omega
  
set_option maxHeartbeats 4000000 in
theorem vc_Gr_removeEdge_at_gn_1_1 (x1 : Int) (x4 : Int) (x5 : Int) (x6 : Int) (x7 : Int) (x8 : Int) (x9 : Int) (x10 : Int) (edges_0 : Int) (tail_0 : Int → Int) (head_0 : Int → Int) (nodes_0 : Int) (gy : Int) (gu : Int) (gw : Int) (k1 : 0 ≤ x1 ∧ x1 ≤ 47) (k4 : 1 ≤ x4 ∧ x4 ≤ 48) (k5 : 0 ≤ x5 ∧ x5 ≤ 23) (k6 : (-46) ≤ x6 ∧ x6 ≤ 48) (k7 : 1 ≤ x7 ∧ x7 ≤ 1) (k8 : 0 ≤ x8 ∧ x8 ≤ 47) (k9 : 1 ≤ x9 ∧ x9 ≤ 1) (k10 : 1 ≤ x10 ∧ x10 ≤ 48) (d0 : x1 + 1 ≤ x10 ∧ x10 ≤ x1 + 1) (d1 : x6 + (-1) ≤ x8 ∧ x8 ≤ x6 + (-1)) (d2 : x4 + (-48) ≤ x8 ∧ x8 ≤ x4 + (-1)) (d3 : x4 + (-47) ≤ x6 ∧ x6 ≤ x4 + 0) (f2 : x10 = x1 + x9) (f3 : x8 = x6 - x7) (f4 : x6 = x4 - x1) (g5 : x4 = edges_0) (f6 : (0 ≤ x1) ∧ ((x1 + 1) ≤ edges_0)) (f7 : GKE (nodes_0) (edges_0) (tail_0) (head_0)) (f8 : NOQ (edges_0) (tail_0) (head_0) (x1) (x5)) (hK_0_7 : ∀ j : Int, 0 ≤ j → j < 48 → 0 ≤ tail_0 j ∧ tail_0 j ≤ 23) (hK_0_8 : ∀ j : Int, 0 ≤ j → j < 48 → 0 ≤ head_0 j ∧ head_0 j ≤ 23) (kz_0_0 : 0 ≤ nodes_0 ∧ nodes_0 ≤ 24) (kz_0_1 : 0 ≤ edges_0 ∧ edges_0 ≤ 48) (ey2 : gy = nodes_0) (ey3 : 0 ≤ gy ∧ gy ≤ 24) (eu2 : gu = edges_0) (eu3 : 0 ≤ gu ∧ gu ≤ 48) (ew2 : gw = x5) (ew3 : 0 ≤ gw ∧ gw ≤ 23) : x1 + x8 ≤ 48 := by
  first
    | omega
  
set_option maxHeartbeats 4000000 in
theorem vc_Gr_removeEdge_at_gn_1_3 (x1 : Int) (x4 : Int) (x5 : Int) (x6 : Int) (x7 : Int) (x8 : Int) (x9 : Int) (x10 : Int) (edges_0 : Int) (tail_0 : Int → Int) (head_0 : Int → Int) (nodes_0 : Int) (gy : Int) (gu : Int) (gw : Int) (k1 : 0 ≤ x1 ∧ x1 ≤ 47) (k4 : 1 ≤ x4 ∧ x4 ≤ 48) (k5 : 0 ≤ x5 ∧ x5 ≤ 23) (k6 : (-46) ≤ x6 ∧ x6 ≤ 48) (k7 : 1 ≤ x7 ∧ x7 ≤ 1) (k8 : 0 ≤ x8 ∧ x8 ≤ 47) (k9 : 1 ≤ x9 ∧ x9 ≤ 1) (k10 : 1 ≤ x10 ∧ x10 ≤ 48) (d0 : x1 + 1 ≤ x10 ∧ x10 ≤ x1 + 1) (d1 : x6 + (-1) ≤ x8 ∧ x8 ≤ x6 + (-1)) (d2 : x4 + (-48) ≤ x8 ∧ x8 ≤ x4 + (-1)) (d3 : x4 + (-47) ≤ x6 ∧ x6 ≤ x4 + 0) (f2 : x10 = x1 + x9) (f3 : x8 = x6 - x7) (f4 : x6 = x4 - x1) (g5 : x4 = edges_0) (f6 : (0 ≤ x1) ∧ ((x1 + 1) ≤ edges_0)) (f7 : GKE (nodes_0) (edges_0) (tail_0) (head_0)) (f8 : NOQ (edges_0) (tail_0) (head_0) (x1) (x5)) (hK_0_7 : ∀ j : Int, 0 ≤ j → j < 48 → 0 ≤ tail_0 j ∧ tail_0 j ≤ 23) (hK_0_8 : ∀ j : Int, 0 ≤ j → j < 48 → 0 ≤ head_0 j ∧ head_0 j ≤ 23) (kz_0_0 : 0 ≤ nodes_0 ∧ nodes_0 ≤ 24) (kz_0_1 : 0 ≤ edges_0 ∧ edges_0 ≤ 48) (ey2 : gy = nodes_0) (ey3 : 0 ≤ gy ∧ gy ≤ 24) (eu2 : gu = edges_0) (eu3 : 0 ≤ gu ∧ gu ≤ 48) (ew2 : gw = x5) (ew3 : 0 ≤ gw ∧ gw ≤ 23) : gy = nodes_0 := by
  first
    | omega
  
set_option maxHeartbeats 4000000 in
theorem vc_Gr_removeEdge_at_gn_1_4 (x1 : Int) (x4 : Int) (x5 : Int) (x6 : Int) (x7 : Int) (x8 : Int) (x9 : Int) (x10 : Int) (edges_0 : Int) (tail_0 : Int → Int) (head_0 : Int → Int) (nodes_0 : Int) (gy : Int) (gu : Int) (gw : Int) (k1 : 0 ≤ x1 ∧ x1 ≤ 47) (k4 : 1 ≤ x4 ∧ x4 ≤ 48) (k5 : 0 ≤ x5 ∧ x5 ≤ 23) (k6 : (-46) ≤ x6 ∧ x6 ≤ 48) (k7 : 1 ≤ x7 ∧ x7 ≤ 1) (k8 : 0 ≤ x8 ∧ x8 ≤ 47) (k9 : 1 ≤ x9 ∧ x9 ≤ 1) (k10 : 1 ≤ x10 ∧ x10 ≤ 48) (d0 : x1 + 1 ≤ x10 ∧ x10 ≤ x1 + 1) (d1 : x6 + (-1) ≤ x8 ∧ x8 ≤ x6 + (-1)) (d2 : x4 + (-48) ≤ x8 ∧ x8 ≤ x4 + (-1)) (d3 : x4 + (-47) ≤ x6 ∧ x6 ≤ x4 + 0) (f2 : x10 = x1 + x9) (f3 : x8 = x6 - x7) (f4 : x6 = x4 - x1) (g5 : x4 = edges_0) (f6 : (0 ≤ x1) ∧ ((x1 + 1) ≤ edges_0)) (f7 : GKE (nodes_0) (edges_0) (tail_0) (head_0)) (f8 : NOQ (edges_0) (tail_0) (head_0) (x1) (x5)) (hK_0_7 : ∀ j : Int, 0 ≤ j → j < 48 → 0 ≤ tail_0 j ∧ tail_0 j ≤ 23) (hK_0_8 : ∀ j : Int, 0 ≤ j → j < 48 → 0 ≤ head_0 j ∧ head_0 j ≤ 23) (kz_0_0 : 0 ≤ nodes_0 ∧ nodes_0 ≤ 24) (kz_0_1 : 0 ≤ edges_0 ∧ edges_0 ≤ 48) (ey2 : gy = nodes_0) (ey3 : 0 ≤ gy ∧ gy ≤ 24) (eu2 : gu = edges_0) (eu3 : 0 ≤ gu ∧ gu ≤ 48) (ew2 : gw = x5) (ew3 : 0 ≤ gw ∧ gw ≤ 23) : gu = edges_0 := by
  first
    | omega
  
set_option maxHeartbeats 4000000 in
theorem vc_Gr_removeEdge_at_gn_1_5 (x1 : Int) (x4 : Int) (x5 : Int) (x6 : Int) (x7 : Int) (x8 : Int) (x9 : Int) (x10 : Int) (edges_0 : Int) (tail_0 : Int → Int) (head_0 : Int → Int) (nodes_0 : Int) (gy : Int) (gu : Int) (gw : Int) (k1 : 0 ≤ x1 ∧ x1 ≤ 47) (k4 : 1 ≤ x4 ∧ x4 ≤ 48) (k5 : 0 ≤ x5 ∧ x5 ≤ 23) (k6 : (-46) ≤ x6 ∧ x6 ≤ 48) (k7 : 1 ≤ x7 ∧ x7 ≤ 1) (k8 : 0 ≤ x8 ∧ x8 ≤ 47) (k9 : 1 ≤ x9 ∧ x9 ≤ 1) (k10 : 1 ≤ x10 ∧ x10 ≤ 48) (d0 : x1 + 1 ≤ x10 ∧ x10 ≤ x1 + 1) (d1 : x6 + (-1) ≤ x8 ∧ x8 ≤ x6 + (-1)) (d2 : x4 + (-48) ≤ x8 ∧ x8 ≤ x4 + (-1)) (d3 : x4 + (-47) ≤ x6 ∧ x6 ≤ x4 + 0) (f2 : x10 = x1 + x9) (f3 : x8 = x6 - x7) (f4 : x6 = x4 - x1) (g5 : x4 = edges_0) (f6 : (0 ≤ x1) ∧ ((x1 + 1) ≤ edges_0)) (f7 : GKE (nodes_0) (edges_0) (tail_0) (head_0)) (f8 : NOQ (edges_0) (tail_0) (head_0) (x1) (x5)) (hK_0_7 : ∀ j : Int, 0 ≤ j → j < 48 → 0 ≤ tail_0 j ∧ tail_0 j ≤ 23) (hK_0_8 : ∀ j : Int, 0 ≤ j → j < 48 → 0 ≤ head_0 j ∧ head_0 j ≤ 23) (kz_0_0 : 0 ≤ nodes_0 ∧ nodes_0 ≤ 24) (kz_0_1 : 0 ≤ edges_0 ∧ edges_0 ≤ 48) (ey2 : gy = nodes_0) (ey3 : 0 ≤ gy ∧ gy ≤ 24) (eu2 : gu = edges_0) (eu3 : 0 ≤ gu ∧ gu ≤ 48) (ew2 : gw = x5) (ew3 : 0 ≤ gw ∧ gw ≤ 23) : 1 * gw + ((-1) * x5 + 0) ≤ 0 := by
  first
    | omega
  
set_option maxHeartbeats 4000000 in
theorem vc_Gr_removeEdge_at_gn_1_6 (x1 : Int) (x4 : Int) (x5 : Int) (x6 : Int) (x7 : Int) (x8 : Int) (x9 : Int) (x10 : Int) (edges_0 : Int) (tail_0 : Int → Int) (head_0 : Int → Int) (nodes_0 : Int) (gy : Int) (gu : Int) (gw : Int) (k1 : 0 ≤ x1 ∧ x1 ≤ 47) (k4 : 1 ≤ x4 ∧ x4 ≤ 48) (k5 : 0 ≤ x5 ∧ x5 ≤ 23) (k6 : (-46) ≤ x6 ∧ x6 ≤ 48) (k7 : 1 ≤ x7 ∧ x7 ≤ 1) (k8 : 0 ≤ x8 ∧ x8 ≤ 47) (k9 : 1 ≤ x9 ∧ x9 ≤ 1) (k10 : 1 ≤ x10 ∧ x10 ≤ 48) (d0 : x1 + 1 ≤ x10 ∧ x10 ≤ x1 + 1) (d1 : x6 + (-1) ≤ x8 ∧ x8 ≤ x6 + (-1)) (d2 : x4 + (-48) ≤ x8 ∧ x8 ≤ x4 + (-1)) (d3 : x4 + (-47) ≤ x6 ∧ x6 ≤ x4 + 0) (f2 : x10 = x1 + x9) (f3 : x8 = x6 - x7) (f4 : x6 = x4 - x1) (g5 : x4 = edges_0) (f6 : (0 ≤ x1) ∧ ((x1 + 1) ≤ edges_0)) (f7 : GKE (nodes_0) (edges_0) (tail_0) (head_0)) (f8 : NOQ (edges_0) (tail_0) (head_0) (x1) (x5)) (hK_0_7 : ∀ j : Int, 0 ≤ j → j < 48 → 0 ≤ tail_0 j ∧ tail_0 j ≤ 23) (hK_0_8 : ∀ j : Int, 0 ≤ j → j < 48 → 0 ≤ head_0 j ∧ head_0 j ≤ 23) (kz_0_0 : 0 ≤ nodes_0 ∧ nodes_0 ≤ 24) (kz_0_1 : 0 ≤ edges_0 ∧ edges_0 ≤ 48) (ey2 : gy = nodes_0) (ey3 : 0 ≤ gy ∧ gy ≤ 24) (eu2 : gu = edges_0) (eu3 : 0 ≤ gu ∧ gu ≤ 48) (ew2 : gw = x5) (ew3 : 0 ≤ gw ∧ gw ≤ 23) : (-1) * gw + (1 * x5 + 0) ≤ 0 := by
  first
    | omega
  
set_option maxHeartbeats 4000000 in
theorem vc_Gr_removeEdge_at_gn_1_7 (x1 : Int) (x4 : Int) (x5 : Int) (x6 : Int) (x7 : Int) (x8 : Int) (x9 : Int) (x10 : Int) (edges_0 : Int) (tail_0 : Int → Int) (head_0 : Int → Int) (nodes_0 : Int) (gy : Int) (gu : Int) (gw : Int) (k1 : 0 ≤ x1 ∧ x1 ≤ 47) (k4 : 1 ≤ x4 ∧ x4 ≤ 48) (k5 : 0 ≤ x5 ∧ x5 ≤ 23) (k6 : (-46) ≤ x6 ∧ x6 ≤ 48) (k7 : 1 ≤ x7 ∧ x7 ≤ 1) (k8 : 0 ≤ x8 ∧ x8 ≤ 47) (k9 : 1 ≤ x9 ∧ x9 ≤ 1) (k10 : 1 ≤ x10 ∧ x10 ≤ 48) (d0 : x1 + 1 ≤ x10 ∧ x10 ≤ x1 + 1) (d1 : x6 + (-1) ≤ x8 ∧ x8 ≤ x6 + (-1)) (d2 : x4 + (-48) ≤ x8 ∧ x8 ≤ x4 + (-1)) (d3 : x4 + (-47) ≤ x6 ∧ x6 ≤ x4 + 0) (f2 : x10 = x1 + x9) (f3 : x8 = x6 - x7) (f4 : x6 = x4 - x1) (g5 : x4 = edges_0) (f6 : (0 ≤ x1) ∧ ((x1 + 1) ≤ edges_0)) (f7 : GKE (nodes_0) (edges_0) (tail_0) (head_0)) (f8 : NOQ (edges_0) (tail_0) (head_0) (x1) (x5)) (hK_0_7 : ∀ j : Int, 0 ≤ j → j < 48 → 0 ≤ tail_0 j ∧ tail_0 j ≤ 23) (hK_0_8 : ∀ j : Int, 0 ≤ j → j < 48 → 0 ≤ head_0 j ∧ head_0 j ≤ 23) (kz_0_0 : 0 ≤ nodes_0 ∧ nodes_0 ≤ 24) (kz_0_1 : 0 ≤ edges_0 ∧ edges_0 ≤ 48) (ey2 : gy = nodes_0) (ey3 : 0 ≤ gy ∧ gy ≤ 24) (eu2 : gu = edges_0) (eu3 : 0 ≤ gu ∧ gu ≤ 48) (ew2 : gw = x5) (ew3 : 0 ≤ gw ∧ gw ≤ 23) : RT1n (tail_0) (tail_0) (head_0) (x10) (x1) (x8) (gy) (gu) (gw) := by
  first
    | exact rt1n_of ‹GKE _ _ _ _› ‹NOQ _ _ _ _ _› (by omega) (by omega) (by omega) (by omega) (by omega) (by omega) (by omega)
  
def o_Gr_removeEdge_at_gn_1 : or_T := (22, 11, [(0, (2, 0, 0, [3])), (1, (0, 0, 47, [])), (3, (2, 0, 0, [53])), (4, (0, 1, 48, [])), (5, (0, 0, 23, [])), (6, (0, -46, 48, [])), (7, (0, 1, 1, [])), (8, (0, 0, 47, [])), (9, (0, 1, 1, [])), (10, (0, 1, 48, []))], [(9, [3, 0], [8]), (9, [2, 0], [7]), (1, [10, 1, 9], []), (2, [8, 6, 7], []), (2, [6, 4, 1], []), (9, [4, 0], [1]), (20, [1, 0], [50, 1, 0, 1001, 2, 6, 0, 2, 0, 0, 1, 0, 0, 6, 4, 2, 1, 0, 0, 1, 2, 1, 1]), (20, [0], [60, 2, 2, 596, 0, 1, 7, 8]), (20, [0, 1, 5], [60, 1, 2, 757, 1, 7, 8])], [], [(2, 0, 0, [53]), (0, 0, 24, []), (0, 0, 48, []), (0, 0, 23, [])], [(21, [10, 8], [48]), (21, [1, 8], [48]), (24, [3, 11], []), (20, [12, 0], [50, 1, 0, 1000, 1, 2, 1, 0, 2, 1, 0]), (20, [13, 0], [50, 1, 0, 1001, 1, 2, 1, 0, 2, 1, 1]), (23, [14, 5], [0, 1, -1]), (23, [14, 5], [0, -1, 1]), (20, [2, 2, 11, 10, 1, 8, 12, 13, 14], [61, 3, 750])], [], [(10, 1, 1, 1), (8, 6, -1, -1), (8, 4, -48, -1), (6, 4, -47, 0)])
theorem oo_Gr_removeEdge_at_gn_1 {kA : Nat → ClassId} : or_ok PRD kA GG o_Gr_removeEdge_at_gn_1 := by
  refine or_mk fun A ta ws vs hD hth hl => ?_
  intro t0 r0 t1 k1 t3 r3 t4 k4 t5 k5 t6 k6 t7 k7 t8 k8 t9 k9 t10 k10 d0 d1 d2 d3 f0 f1 f2 f3 f4 f5 f6 f7 f8
  replace f0 := shm_143 f0
  replace f1 := shm_216 f1
  replace f2 := shm_12 f2
  replace f3 := shm_14 f3
  replace f4 := shm_14 f4
  replace f5 := shm_127 f5
  replace f6 := shm_402 f6
  replace f7 := shm_401 f7
  replace f8 := shm_828 f8
  have cr_0_7 := fdq_52 hD hth r0
  have cr_0_8 := fdq_53 hD hth r0
  have ad_3 : v_ad (n_v vs 3) = w_ar ws (n_v vs 0) 8 := congrArg v_ad f0
  have ad_2 : v_ad (n_v vs 2) = w_ar ws (n_v vs 0) 7 := congrArg v_ad f1
  have g5 : v_iv (n_v vs 4) = w_fi ws (n_v vs 0) 1 := congrArg v_iv f5
  have hK_0_7 := elq_10 hD hth cr_0_7
  have hK_0_8 := elq_11 hD hth cr_0_8
  have kz_0_0 := fdq_23 hD hth r0
  have kz_0_1 := fdq_38 hD hth r0
  obtain ⟨y, ey, hy⟩ := iv_ex (ta := ta) (lo := 0) (hi := 24) (z := w_fi ws (n_v vs 0) 0) (by omega) (by omega) (by omega) (by omega)
  have ey2 : v_iv (Value.int y) = w_fi ws (n_v vs 0) 0 := ey
  have ey3 : 0 ≤ v_iv (Value.int y) ∧ v_iv (Value.int y) ≤ 24 := tv_rng hy
  obtain ⟨u, eu, hu⟩ := iv_ex (ta := ta) (lo := 0) (hi := 48) (z := w_fi ws (n_v vs 0) 1) (by omega) (by omega) (by omega) (by omega)
  have eu2 : v_iv (Value.int u) = w_fi ws (n_v vs 0) 1 := eu
  have eu3 : 0 ≤ v_iv (Value.int u) ∧ v_iv (Value.int u) ≤ 48 := tv_rng hu
  obtain ⟨w, ew, hw⟩ := iv_ex (ta := ta) (lo := 0) (hi := 23) (z := v_iv (n_v vs 5)) (by omega) (by omega) (by omega) (by omega)
  have ew2 : v_iv (Value.int w) = v_iv (n_v vs 5) := ew
  have ew3 : 0 ≤ v_iv (Value.int w) ∧ v_iv (Value.int w) ≤ 23 := tv_rng hw
  have e_0 : n_v (vs ++ [n_v vs 3, Value.int y, Value.int u, Value.int w]) 0 = n_v vs 0 := n_v_old (by rw [hl]; decide)
  have e_1 : n_v (vs ++ [n_v vs 3, Value.int y, Value.int u, Value.int w]) 1 = n_v vs 1 := n_v_old (by rw [hl]; decide)
  have e_2 : n_v (vs ++ [n_v vs 3, Value.int y, Value.int u, Value.int w]) 2 = n_v vs 2 := n_v_old (by rw [hl]; decide)
  have e_3 : n_v (vs ++ [n_v vs 3, Value.int y, Value.int u, Value.int w]) 3 = n_v vs 3 := n_v_old (by rw [hl]; decide)
  have e_5 : n_v (vs ++ [n_v vs 3, Value.int y, Value.int u, Value.int w]) 5 = n_v vs 5 := n_v_old (by rw [hl]; decide)
  have e_8 : n_v (vs ++ [n_v vs 3, Value.int y, Value.int u, Value.int w]) 8 = n_v vs 8 := n_v_old (by rw [hl]; decide)
  have e_10 : n_v (vs ++ [n_v vs 3, Value.int y, Value.int u, Value.int w]) 10 = n_v vs 10 := n_v_old (by rw [hl]; decide)
  have e_11 : n_v (vs ++ [n_v vs 3, Value.int y, Value.int u, Value.int w]) 11 = n_v vs 3 := n_v_newk (k := 0) hl rfl
  have e_12 : n_v (vs ++ [n_v vs 3, Value.int y, Value.int u, Value.int w]) 12 = Value.int y := n_v_newk (k := 1) hl rfl
  have e_13 : n_v (vs ++ [n_v vs 3, Value.int y, Value.int u, Value.int w]) 13 = Value.int u := n_v_newk (k := 2) hl rfl
  have e_14 : n_v (vs ++ [n_v vs 3, Value.int y, Value.int u, Value.int w]) 14 = Value.int w := n_v_newk (k := 3) hl rfl
  have nf0 : fc_1 PRD (21, [10, 8], [48]) ws (vs ++ [n_v vs 3, Value.int y, Value.int u, Value.int w]) := by
    refine ⟨nf_inA hl rfl, sgq_829 ?_⟩
    · show v_iv (n_v (vs ++ [n_v vs 3, Value.int y, Value.int u, Value.int w]) 10) + v_iv (n_v (vs ++ [n_v vs 3, Value.int y, Value.int u, Value.int w]) 8) ≤ 48
      simp only [e_8, e_10]
      exact vc_Gr_removeEdge_at_gn_1_0 (v_iv (n_v vs 1)) (v_iv (n_v vs 4)) (v_iv (n_v vs 5)) (v_iv (n_v vs 6)) (v_iv (n_v vs 7)) (v_iv (n_v vs 8)) (v_iv (n_v vs 9)) (v_iv (n_v vs 10)) (w_fi ws (n_v vs 0) 1) (w_ei ws (w_ar ws (n_v vs 0) 7)) (w_ei ws (w_ar ws (n_v vs 0) 8)) (w_fi ws (n_v vs 0) 0) (v_iv (Value.int y)) (v_iv (Value.int u)) (v_iv (Value.int w)) k1 k4 k5 k6 k7 k8 k9 k10 d0 d1 d2 d3 f2 f3 f4 g5 f6 f7 f8 hK_0_7 hK_0_8 kz_0_0 kz_0_1 ey2 ey3 eu2 eu3 ew2 ew3
  have nf1 : fc_1 PRD (21, [1, 8], [48]) ws (vs ++ [n_v vs 3, Value.int y, Value.int u, Value.int w]) := by
    refine ⟨nf_inA hl rfl, sgq_829 ?_⟩
    · show v_iv (n_v (vs ++ [n_v vs 3, Value.int y, Value.int u, Value.int w]) 1) + v_iv (n_v (vs ++ [n_v vs 3, Value.int y, Value.int u, Value.int w]) 8) ≤ 48
      simp only [e_1, e_8]
      exact vc_Gr_removeEdge_at_gn_1_1 (v_iv (n_v vs 1)) (v_iv (n_v vs 4)) (v_iv (n_v vs 5)) (v_iv (n_v vs 6)) (v_iv (n_v vs 7)) (v_iv (n_v vs 8)) (v_iv (n_v vs 9)) (v_iv (n_v vs 10)) (w_fi ws (n_v vs 0) 1) (w_ei ws (w_ar ws (n_v vs 0) 7)) (w_ei ws (w_ar ws (n_v vs 0) 8)) (w_fi ws (n_v vs 0) 0) (v_iv (Value.int y)) (v_iv (Value.int u)) (v_iv (Value.int w)) k1 k4 k5 k6 k7 k8 k9 k10 d0 d1 d2 d3 f2 f3 f4 g5 f6 f7 f8 hK_0_7 hK_0_8 kz_0_0 kz_0_1 ey2 ey3 eu2 eu3 ew2 ew3
  have nf2 : fc_1 PRD (24, [3, 11], []) ws (vs ++ [n_v vs 3, Value.int y, Value.int u, Value.int w]) := by
    refine ⟨nf_inA hl rfl, sgq_5 ?_⟩
    · show n_v (vs ++ [n_v vs 3, Value.int y, Value.int u, Value.int w]) 3 = n_v (vs ++ [n_v vs 3, Value.int y, Value.int u, Value.int w]) 11
      first | rfl | simp only [e_3, e_11]
  have nf3 : fc_1 PRD (20, [12, 0], [50, 1, 0, 1000, 1, 2, 1, 0, 2, 1, 0]) ws (vs ++ [n_v vs 3, Value.int y, Value.int u, Value.int w]) := by
    refine ⟨nf_inA hl rfl, sgq_830 ?_⟩
    · show v_iv (n_v (vs ++ [n_v vs 3, Value.int y, Value.int u, Value.int w]) 12) = w_fi ws (n_v (vs ++ [n_v vs 3, Value.int y, Value.int u, Value.int w]) 0) 0
      simp only [e_0, e_12]
      exact vc_Gr_removeEdge_at_gn_1_3 (v_iv (n_v vs 1)) (v_iv (n_v vs 4)) (v_iv (n_v vs 5)) (v_iv (n_v vs 6)) (v_iv (n_v vs 7)) (v_iv (n_v vs 8)) (v_iv (n_v vs 9)) (v_iv (n_v vs 10)) (w_fi ws (n_v vs 0) 1) (w_ei ws (w_ar ws (n_v vs 0) 7)) (w_ei ws (w_ar ws (n_v vs 0) 8)) (w_fi ws (n_v vs 0) 0) (v_iv (Value.int y)) (v_iv (Value.int u)) (v_iv (Value.int w)) k1 k4 k5 k6 k7 k8 k9 k10 d0 d1 d2 d3 f2 f3 f4 g5 f6 f7 f8 hK_0_7 hK_0_8 kz_0_0 kz_0_1 ey2 ey3 eu2 eu3 ew2 ew3
  have nf4 : fc_1 PRD (20, [13, 0], [50, 1, 0, 1001, 1, 2, 1, 0, 2, 1, 1]) ws (vs ++ [n_v vs 3, Value.int y, Value.int u, Value.int w]) := by
    refine ⟨nf_inA hl rfl, sgq_831 ?_⟩
    · show v_iv (n_v (vs ++ [n_v vs 3, Value.int y, Value.int u, Value.int w]) 13) = w_fi ws (n_v (vs ++ [n_v vs 3, Value.int y, Value.int u, Value.int w]) 0) 1
      simp only [e_0, e_13]
      exact vc_Gr_removeEdge_at_gn_1_4 (v_iv (n_v vs 1)) (v_iv (n_v vs 4)) (v_iv (n_v vs 5)) (v_iv (n_v vs 6)) (v_iv (n_v vs 7)) (v_iv (n_v vs 8)) (v_iv (n_v vs 9)) (v_iv (n_v vs 10)) (w_fi ws (n_v vs 0) 1) (w_ei ws (w_ar ws (n_v vs 0) 7)) (w_ei ws (w_ar ws (n_v vs 0) 8)) (w_fi ws (n_v vs 0) 0) (v_iv (Value.int y)) (v_iv (Value.int u)) (v_iv (Value.int w)) k1 k4 k5 k6 k7 k8 k9 k10 d0 d1 d2 d3 f2 f3 f4 g5 f6 f7 f8 hK_0_7 hK_0_8 kz_0_0 kz_0_1 ey2 ey3 eu2 eu3 ew2 ew3
  have nf5 : fc_1 PRD (23, [14, 5], [0, 1, -1]) ws (vs ++ [n_v vs 3, Value.int y, Value.int u, Value.int w]) := by
    refine ⟨nf_inA hl rfl, sgq_7 ?_⟩
    · show 1 * v_iv (n_v (vs ++ [n_v vs 3, Value.int y, Value.int u, Value.int w]) 14) + ((-1) * v_iv (n_v (vs ++ [n_v vs 3, Value.int y, Value.int u, Value.int w]) 5) + 0) ≤ 0
      simp only [e_5, e_14]
      exact vc_Gr_removeEdge_at_gn_1_5 (v_iv (n_v vs 1)) (v_iv (n_v vs 4)) (v_iv (n_v vs 5)) (v_iv (n_v vs 6)) (v_iv (n_v vs 7)) (v_iv (n_v vs 8)) (v_iv (n_v vs 9)) (v_iv (n_v vs 10)) (w_fi ws (n_v vs 0) 1) (w_ei ws (w_ar ws (n_v vs 0) 7)) (w_ei ws (w_ar ws (n_v vs 0) 8)) (w_fi ws (n_v vs 0) 0) (v_iv (Value.int y)) (v_iv (Value.int u)) (v_iv (Value.int w)) k1 k4 k5 k6 k7 k8 k9 k10 d0 d1 d2 d3 f2 f3 f4 g5 f6 f7 f8 hK_0_7 hK_0_8 kz_0_0 kz_0_1 ey2 ey3 eu2 eu3 ew2 ew3
  have nf6 : fc_1 PRD (23, [14, 5], [0, -1, 1]) ws (vs ++ [n_v vs 3, Value.int y, Value.int u, Value.int w]) := by
    refine ⟨nf_inA hl rfl, sgq_22 ?_⟩
    · show (-1) * v_iv (n_v (vs ++ [n_v vs 3, Value.int y, Value.int u, Value.int w]) 14) + (1 * v_iv (n_v (vs ++ [n_v vs 3, Value.int y, Value.int u, Value.int w]) 5) + 0) ≤ 0
      simp only [e_5, e_14]
      exact vc_Gr_removeEdge_at_gn_1_6 (v_iv (n_v vs 1)) (v_iv (n_v vs 4)) (v_iv (n_v vs 5)) (v_iv (n_v vs 6)) (v_iv (n_v vs 7)) (v_iv (n_v vs 8)) (v_iv (n_v vs 9)) (v_iv (n_v vs 10)) (w_fi ws (n_v vs 0) 1) (w_ei ws (w_ar ws (n_v vs 0) 7)) (w_ei ws (w_ar ws (n_v vs 0) 8)) (w_fi ws (n_v vs 0) 0) (v_iv (Value.int y)) (v_iv (Value.int u)) (v_iv (Value.int w)) k1 k4 k5 k6 k7 k8 k9 k10 d0 d1 d2 d3 f2 f3 f4 g5 f6 f7 f8 hK_0_7 hK_0_8 kz_0_0 kz_0_1 ey2 ey3 eu2 eu3 ew2 ew3
  have nf7 : fc_1 PRD (20, [2, 2, 11, 10, 1, 8, 12, 13, 14], [61, 3, 750]) ws (vs ++ [n_v vs 3, Value.int y, Value.int u, Value.int w]) := by
    refine ⟨nf_inA hl rfl, sgq_832 ?_⟩
    · show RT1n (w_ei ws (v_ad (n_v (vs ++ [n_v vs 3, Value.int y, Value.int u, Value.int w]) 2))) (w_ei ws (v_ad (n_v (vs ++ [n_v vs 3, Value.int y, Value.int u, Value.int w]) 2))) (w_ei ws (v_ad (n_v (vs ++ [n_v vs 3, Value.int y, Value.int u, Value.int w]) 11))) (v_iv (n_v (vs ++ [n_v vs 3, Value.int y, Value.int u, Value.int w]) 10)) (v_iv (n_v (vs ++ [n_v vs 3, Value.int y, Value.int u, Value.int w]) 1)) (v_iv (n_v (vs ++ [n_v vs 3, Value.int y, Value.int u, Value.int w]) 8)) (v_iv (n_v (vs ++ [n_v vs 3, Value.int y, Value.int u, Value.int w]) 12)) (v_iv (n_v (vs ++ [n_v vs 3, Value.int y, Value.int u, Value.int w]) 13)) (v_iv (n_v (vs ++ [n_v vs 3, Value.int y, Value.int u, Value.int w]) 14))
      simp only [e_1, e_2, e_8, e_10, e_11, e_12, e_13, e_14, ad_2, ad_3]
      exact vc_Gr_removeEdge_at_gn_1_7 (v_iv (n_v vs 1)) (v_iv (n_v vs 4)) (v_iv (n_v vs 5)) (v_iv (n_v vs 6)) (v_iv (n_v vs 7)) (v_iv (n_v vs 8)) (v_iv (n_v vs 9)) (v_iv (n_v vs 10)) (w_fi ws (n_v vs 0) 1) (w_ei ws (w_ar ws (n_v vs 0) 7)) (w_ei ws (w_ar ws (n_v vs 0) 8)) (w_fi ws (n_v vs 0) 0) (v_iv (Value.int y)) (v_iv (Value.int u)) (v_iv (Value.int w)) k1 k4 k5 k6 k7 k8 k9 k10 d0 d1 d2 d3 f2 f3 f4 g5 f6 f7 f8 hK_0_7 hK_0_8 kz_0_0 kz_0_1 ey2 ey3 eu2 eu3 ew2 ew3
  exact ⟨(fun _ h => (by cases h)), [n_v vs 3, Value.int y, Value.int u, Value.int w], ag_four t3 hy hu hw, List.forall_mem_cons.mpr ⟨⟨show (21 : Nat) < 100 from by decide, nf0⟩, List.forall_mem_cons.mpr ⟨⟨show (21 : Nat) < 100 from by decide, nf1⟩, List.forall_mem_cons.mpr ⟨⟨show (24 : Nat) < 100 from by decide, nf2⟩, List.forall_mem_cons.mpr ⟨⟨show (20 : Nat) < 100 from by decide, nf3⟩, List.forall_mem_cons.mpr ⟨⟨show (20 : Nat) < 100 from by decide, nf4⟩, List.forall_mem_cons.mpr ⟨⟨show (23 : Nat) < 100 from by decide, nf5⟩, List.forall_mem_cons.mpr ⟨⟨show (23 : Nat) < 100 from by decide, nf6⟩, List.forall_mem_cons.mpr ⟨⟨show (20 : Nat) < 100 from by decide, nf7⟩, (fun _ h => (by cases h))⟩⟩⟩⟩⟩⟩⟩⟩, (fun _ h => (by cases h))⟩
set_option maxHeartbeats 4000000 in
theorem vc_Gr_removeEdge_at_gn_2_0 (x1 : Int) (x4 : Int) (x5 : Int) (x6 : Int) (x7 : Int) (x8 : Int) (x9 : Int) (x10 : Int) (x12 : Int) (x13 : Int) (x14 : Int) (x15 : Int) (x16 : Int) (edges_0 : Int) (nodes_0 : Int) (a2_0 : Int → Int) (a3_0 : Int → Int) (gy : Int) (gu : Int) (gw : Int) (k1 : 0 ≤ x1 ∧ x1 ≤ 47) (k4 : 1 ≤ x4 ∧ x4 ≤ 48) (k5 : 0 ≤ x5 ∧ x5 ≤ 23) (k6 : (-46) ≤ x6 ∧ x6 ≤ 48) (k7 : 1 ≤ x7 ∧ x7 ≤ 1) (k8 : 0 ≤ x8 ∧ x8 ≤ 47) (k9 : 1 ≤ x9 ∧ x9 ≤ 1) (k10 : 1 ≤ x10 ∧ x10 ≤ 48) (k12 : 0 ≤ x12 ∧ x12 ≤ 24) (k13 : 0 ≤ x13 ∧ x13 ≤ 48) (k14 : 0 ≤ x14 ∧ x14 ≤ 23) (k15 : 1 ≤ x15 ∧ x15 ≤ 1) (k16 : 1 ≤ x16 ∧ x16 ≤ 48) (d0 : x1 + 1 ≤ x16 ∧ x16 ≤ x1 + 1) (d1 : x1 + 1 ≤ x10 ∧ x10 ≤ x1 + 1) (d2 : x6 + (-1) ≤ x8 ∧ x8 ≤ x6 + (-1)) (d3 : x4 + (-48) ≤ x8 ∧ x8 ≤ x4 + (-1)) (d4 : x4 + (-47) ≤ x6 ∧ x6 ≤ x4 + 0) (g0 : x4 = edges_0) (f1 : x16 = x1 + x15) (f2 : x10 + x8 ≤ 48) (f3 : x1 + x8 ≤ 48) (f5 : x12 = nodes_0) (f6 : x13 = edges_0) (f7 : 1 * x14 + ((-1) * x5 + 0) ≤ 0) (f8 : (-1) * x14 + (1 * x5 + 0) ≤ 0) (f9 : (0 ≤ x1) ∧ ((x1 + 1) ≤ edges_0)) (f10 : RT2n (a2_0) (a2_0) (a3_0) (x10) (x1) (x8) (x12) (x13) (x14)) (f12 : x10 + x8 ≤ 48) (f13 : x1 + x8 ≤ 48) (f14 : 1 * x14 + ((-1) * x5 + 0) ≤ 0) (f15 : (-1) * x14 + (1 * x5 + 0) ≤ 0) (f16 : x10 = x1 + x9) (f17 : x8 = x6 - x7) (f18 : x6 = x4 - x1) (hK_2_999 : ∀ j : Int, 0 ≤ j → j < 48 → 0 ≤ a2_0 j ∧ a2_0 j ≤ 23) (hK_3_999 : ∀ j : Int, 0 ≤ j → j < 48 → 0 ≤ a3_0 j ∧ a3_0 j ≤ 23) (kz_0_0 : 0 ≤ nodes_0 ∧ nodes_0 ≤ 24) (kz_0_1 : 0 ≤ edges_0 ∧ edges_0 ≤ 48) (ey2 : gy = nodes_0) (ey3 : 0 ≤ gy ∧ gy ≤ 24) (eu2 : gu = edges_0) (eu3 : 0 ≤ gu ∧ gu ≤ 48) (ew2 : gw = x5) (ew3 : 0 ≤ gw ∧ gw ≤ 23) : x16 + x8 ≤ 48 := by
  first
    | omega
  
set_option maxHeartbeats 4000000 in
theorem vc_Gr_removeEdge_at_gn_2_2 (x1 : Int) (x4 : Int) (x5 : Int) (x6 : Int) (x7 : Int) (x8 : Int) (x9 : Int) (x10 : Int) (x12 : Int) (x13 : Int) (x14 : Int) (x15 : Int) (x16 : Int) (edges_0 : Int) (nodes_0 : Int) (a2_0 : Int → Int) (a3_0 : Int → Int) (gy : Int) (gu : Int) (gw : Int) (k1 : 0 ≤ x1 ∧ x1 ≤ 47) (k4 : 1 ≤ x4 ∧ x4 ≤ 48) (k5 : 0 ≤ x5 ∧ x5 ≤ 23) (k6 : (-46) ≤ x6 ∧ x6 ≤ 48) (k7 : 1 ≤ x7 ∧ x7 ≤ 1) (k8 : 0 ≤ x8 ∧ x8 ≤ 47) (k9 : 1 ≤ x9 ∧ x9 ≤ 1) (k10 : 1 ≤ x10 ∧ x10 ≤ 48) (k12 : 0 ≤ x12 ∧ x12 ≤ 24) (k13 : 0 ≤ x13 ∧ x13 ≤ 48) (k14 : 0 ≤ x14 ∧ x14 ≤ 23) (k15 : 1 ≤ x15 ∧ x15 ≤ 1) (k16 : 1 ≤ x16 ∧ x16 ≤ 48) (d0 : x1 + 1 ≤ x16 ∧ x16 ≤ x1 + 1) (d1 : x1 + 1 ≤ x10 ∧ x10 ≤ x1 + 1) (d2 : x6 + (-1) ≤ x8 ∧ x8 ≤ x6 + (-1)) (d3 : x4 + (-48) ≤ x8 ∧ x8 ≤ x4 + (-1)) (d4 : x4 + (-47) ≤ x6 ∧ x6 ≤ x4 + 0) (g0 : x4 = edges_0) (f1 : x16 = x1 + x15) (f2 : x10 + x8 ≤ 48) (f3 : x1 + x8 ≤ 48) (f5 : x12 = nodes_0) (f6 : x13 = edges_0) (f7 : 1 * x14 + ((-1) * x5 + 0) ≤ 0) (f8 : (-1) * x14 + (1 * x5 + 0) ≤ 0) (f9 : (0 ≤ x1) ∧ ((x1 + 1) ≤ edges_0)) (f10 : RT2n (a2_0) (a2_0) (a3_0) (x10) (x1) (x8) (x12) (x13) (x14)) (f12 : x10 + x8 ≤ 48) (f13 : x1 + x8 ≤ 48) (f14 : 1 * x14 + ((-1) * x5 + 0) ≤ 0) (f15 : (-1) * x14 + (1 * x5 + 0) ≤ 0) (f16 : x10 = x1 + x9) (f17 : x8 = x6 - x7) (f18 : x6 = x4 - x1) (hK_2_999 : ∀ j : Int, 0 ≤ j → j < 48 → 0 ≤ a2_0 j ∧ a2_0 j ≤ 23) (hK_3_999 : ∀ j : Int, 0 ≤ j → j < 48 → 0 ≤ a3_0 j ∧ a3_0 j ≤ 23) (kz_0_0 : 0 ≤ nodes_0 ∧ nodes_0 ≤ 24) (kz_0_1 : 0 ≤ edges_0 ∧ edges_0 ≤ 48) (ey2 : gy = nodes_0) (ey3 : 0 ≤ gy ∧ gy ≤ 24) (eu2 : gu = edges_0) (eu3 : 0 ≤ gu ∧ gu ≤ 48) (ew2 : gw = x5) (ew3 : 0 ≤ gw ∧ gw ≤ 23) : gy = nodes_0 := by
  first
    | omega
  
set_option maxHeartbeats 4000000 in
theorem vc_Gr_removeEdge_at_gn_2_3 (x1 : Int) (x4 : Int) (x5 : Int) (x6 : Int) (x7 : Int) (x8 : Int) (x9 : Int) (x10 : Int) (x12 : Int) (x13 : Int) (x14 : Int) (x15 : Int) (x16 : Int) (edges_0 : Int) (nodes_0 : Int) (a2_0 : Int → Int) (a3_0 : Int → Int) (gy : Int) (gu : Int) (gw : Int) (k1 : 0 ≤ x1 ∧ x1 ≤ 47) (k4 : 1 ≤ x4 ∧ x4 ≤ 48) (k5 : 0 ≤ x5 ∧ x5 ≤ 23) (k6 : (-46) ≤ x6 ∧ x6 ≤ 48) (k7 : 1 ≤ x7 ∧ x7 ≤ 1) (k8 : 0 ≤ x8 ∧ x8 ≤ 47) (k9 : 1 ≤ x9 ∧ x9 ≤ 1) (k10 : 1 ≤ x10 ∧ x10 ≤ 48) (k12 : 0 ≤ x12 ∧ x12 ≤ 24) (k13 : 0 ≤ x13 ∧ x13 ≤ 48) (k14 : 0 ≤ x14 ∧ x14 ≤ 23) (k15 : 1 ≤ x15 ∧ x15 ≤ 1) (k16 : 1 ≤ x16 ∧ x16 ≤ 48) (d0 : x1 + 1 ≤ x16 ∧ x16 ≤ x1 + 1) (d1 : x1 + 1 ≤ x10 ∧ x10 ≤ x1 + 1) (d2 : x6 + (-1) ≤ x8 ∧ x8 ≤ x6 + (-1)) (d3 : x4 + (-48) ≤ x8 ∧ x8 ≤ x4 + (-1)) (d4 : x4 + (-47) ≤ x6 ∧ x6 ≤ x4 + 0) (g0 : x4 = edges_0) (f1 : x16 = x1 + x15) (f2 : x10 + x8 ≤ 48) (f3 : x1 + x8 ≤ 48) (f5 : x12 = nodes_0) (f6 : x13 = edges_0) (f7 : 1 * x14 + ((-1) * x5 + 0) ≤ 0) (f8 : (-1) * x14 + (1 * x5 + 0) ≤ 0) (f9 : (0 ≤ x1) ∧ ((x1 + 1) ≤ edges_0)) (f10 : RT2n (a2_0) (a2_0) (a3_0) (x10) (x1) (x8) (x12) (x13) (x14)) (f12 : x10 + x8 ≤ 48) (f13 : x1 + x8 ≤ 48) (f14 : 1 * x14 + ((-1) * x5 + 0) ≤ 0) (f15 : (-1) * x14 + (1 * x5 + 0) ≤ 0) (f16 : x10 = x1 + x9) (f17 : x8 = x6 - x7) (f18 : x6 = x4 - x1) (hK_2_999 : ∀ j : Int, 0 ≤ j → j < 48 → 0 ≤ a2_0 j ∧ a2_0 j ≤ 23) (hK_3_999 : ∀ j : Int, 0 ≤ j → j < 48 → 0 ≤ a3_0 j ∧ a3_0 j ≤ 23) (kz_0_0 : 0 ≤ nodes_0 ∧ nodes_0 ≤ 24) (kz_0_1 : 0 ≤ edges_0 ∧ edges_0 ≤ 48) (ey2 : gy = nodes_0) (ey3 : 0 ≤ gy ∧ gy ≤ 24) (eu2 : gu = edges_0) (eu3 : 0 ≤ gu ∧ gu ≤ 48) (ew2 : gw = x5) (ew3 : 0 ≤ gw ∧ gw ≤ 23) : gu = edges_0 := by
  first
    | omega
  
set_option maxHeartbeats 4000000 in
theorem vc_Gr_removeEdge_at_gn_2_4 (x1 : Int) (x4 : Int) (x5 : Int) (x6 : Int) (x7 : Int) (x8 : Int) (x9 : Int) (x10 : Int) (x12 : Int) (x13 : Int) (x14 : Int) (x15 : Int) (x16 : Int) (edges_0 : Int) (nodes_0 : Int) (a2_0 : Int → Int) (a3_0 : Int → Int) (gy : Int) (gu : Int) (gw : Int) (k1 : 0 ≤ x1 ∧ x1 ≤ 47) (k4 : 1 ≤ x4 ∧ x4 ≤ 48) (k5 : 0 ≤ x5 ∧ x5 ≤ 23) (k6 : (-46) ≤ x6 ∧ x6 ≤ 48) (k7 : 1 ≤ x7 ∧ x7 ≤ 1) (k8 : 0 ≤ x8 ∧ x8 ≤ 47) (k9 : 1 ≤ x9 ∧ x9 ≤ 1) (k10 : 1 ≤ x10 ∧ x10 ≤ 48) (k12 : 0 ≤ x12 ∧ x12 ≤ 24) (k13 : 0 ≤ x13 ∧ x13 ≤ 48) (k14 : 0 ≤ x14 ∧ x14 ≤ 23) (k15 : 1 ≤ x15 ∧ x15 ≤ 1) (k16 : 1 ≤ x16 ∧ x16 ≤ 48) (d0 : x1 + 1 ≤ x16 ∧ x16 ≤ x1 + 1) (d1 : x1 + 1 ≤ x10 ∧ x10 ≤ x1 + 1) (d2 : x6 + (-1) ≤ x8 ∧ x8 ≤ x6 + (-1)) (d3 : x4 + (-48) ≤ x8 ∧ x8 ≤ x4 + (-1)) (d4 : x4 + (-47) ≤ x6 ∧ x6 ≤ x4 + 0) (g0 : x4 = edges_0) (f1 : x16 = x1 + x15) (f2 : x10 + x8 ≤ 48) (f3 : x1 + x8 ≤ 48) (f5 : x12 = nodes_0) (f6 : x13 = edges_0) (f7 : 1 * x14 + ((-1) * x5 + 0) ≤ 0) (f8 : (-1) * x14 + (1 * x5 + 0) ≤ 0) (f9 : (0 ≤ x1) ∧ ((x1 + 1) ≤ edges_0)) (f10 : RT2n (a2_0) (a2_0) (a3_0) (x10) (x1) (x8) (x12) (x13) (x14)) (f12 : x10 + x8 ≤ 48) (f13 : x1 + x8 ≤ 48) (f14 : 1 * x14 + ((-1) * x5 + 0) ≤ 0) (f15 : (-1) * x14 + (1 * x5 + 0) ≤ 0) (f16 : x10 = x1 + x9) (f17 : x8 = x6 - x7) (f18 : x6 = x4 - x1) (hK_2_999 : ∀ j : Int, 0 ≤ j → j < 48 → 0 ≤ a2_0 j ∧ a2_0 j ≤ 23) (hK_3_999 : ∀ j : Int, 0 ≤ j → j < 48 → 0 ≤ a3_0 j ∧ a3_0 j ≤ 23) (kz_0_0 : 0 ≤ nodes_0 ∧ nodes_0 ≤ 24) (kz_0_1 : 0 ≤ edges_0 ∧ edges_0 ≤ 48) (ey2 : gy = nodes_0) (ey3 : 0 ≤ gy ∧ gy ≤ 24) (eu2 : gu = edges_0) (eu3 : 0 ≤ gu ∧ gu ≤ 48) (ew2 : gw = x5) (ew3 : 0 ≤ gw ∧ gw ≤ 23) : 1 * gw + ((-1) * x5 + 0) ≤ 0 := by
  first
    | omega
  
set_option maxHeartbeats 4000000 in
theorem vc_Gr_removeEdge_at_gn_2_5 (x1 : Int) (x4 : Int) (x5 : Int) (x6 : Int) (x7 : Int) (x8 : Int) (x9 : Int) (x10 : Int) (x12 : Int) (x13 : Int) (x14 : Int) (x15 : Int) (x16 : Int) (edges_0 : Int) (nodes_0 : Int) (a2_0 : Int → Int) (a3_0 : Int → Int) (gy : Int) (gu : Int) (gw : Int) (k1 : 0 ≤ x1 ∧ x1 ≤ 47) (k4 : 1 ≤ x4 ∧ x4 ≤ 48) (k5 : 0 ≤ x5 ∧ x5 ≤ 23) (k6 : (-46) ≤ x6 ∧ x6 ≤ 48) (k7 : 1 ≤ x7 ∧ x7 ≤ 1) (k8 : 0 ≤ x8 ∧ x8 ≤ 47) (k9 : 1 ≤ x9 ∧ x9 ≤ 1) (k10 : 1 ≤ x10 ∧ x10 ≤ 48) (k12 : 0 ≤ x12 ∧ x12 ≤ 24) (k13 : 0 ≤ x13 ∧ x13 ≤ 48) (k14 : 0 ≤ x14 ∧ x14 ≤ 23) (k15 : 1 ≤ x15 ∧ x15 ≤ 1) (k16 : 1 ≤ x16 ∧ x16 ≤ 48) (d0 : x1 + 1 ≤ x16 ∧ x16 ≤ x1 + 1) (d1 : x1 + 1 ≤ x10 ∧ x10 ≤ x1 + 1) (d2 : x6 + (-1) ≤ x8 ∧ x8 ≤ x6 + (-1)) (d3 : x4 + (-48) ≤ x8 ∧ x8 ≤ x4 + (-1)) (d4 : x4 + (-47) ≤ x6 ∧ x6 ≤ x4 + 0) (g0 : x4 = edges_0) (f1 : x16 = x1 + x15) (f2 : x10 + x8 ≤ 48) (f3 : x1 + x8 ≤ 48) (f5 : x12 = nodes_0) (f6 : x13 = edges_0) (f7 : 1 * x14 + ((-1) * x5 + 0) ≤ 0) (f8 : (-1) * x14 + (1 * x5 + 0) ≤ 0) (f9 : (0 ≤ x1) ∧ ((x1 + 1) ≤ edges_0)) (f10 : RT2n (a2_0) (a2_0) (a3_0) (x10) (x1) (x8) (x12) (x13) (x14)) (f12 : x10 + x8 ≤ 48) (f13 : x1 + x8 ≤ 48) (f14 : 1 * x14 + ((-1) * x5 + 0) ≤ 0) (f15 : (-1) * x14 + (1 * x5 + 0) ≤ 0) (f16 : x10 = x1 + x9) (f17 : x8 = x6 - x7) (f18 : x6 = x4 - x1) (hK_2_999 : ∀ j : Int, 0 ≤ j → j < 48 → 0 ≤ a2_0 j ∧ a2_0 j ≤ 23) (hK_3_999 : ∀ j : Int, 0 ≤ j → j < 48 → 0 ≤ a3_0 j ∧ a3_0 j ≤ 23) (kz_0_0 : 0 ≤ nodes_0 ∧ nodes_0 ≤ 24) (kz_0_1 : 0 ≤ edges_0 ∧ edges_0 ≤ 48) (ey2 : gy = nodes_0) (ey3 : 0 ≤ gy ∧ gy ≤ 24) (eu2 : gu = edges_0) (eu3 : 0 ≤ gu ∧ gu ≤ 48) (ew2 : gw = x5) (ew3 : 0 ≤ gw ∧ gw ≤ 23) : (-1) * gw + (1 * x5 + 0) ≤ 0 := by
  first
    | omega
  
set_option maxHeartbeats 4000000 in
theorem vc_Gr_removeEdge_at_gn_2_6 (x1 : Int) (x4 : Int) (x5 : Int) (x6 : Int) (x7 : Int) (x8 : Int) (x9 : Int) (x10 : Int) (x12 : Int) (x13 : Int) (x14 : Int) (x15 : Int) (x16 : Int) (edges_0 : Int) (nodes_0 : Int) (a2_0 : Int → Int) (a3_0 : Int → Int) (gy : Int) (gu : Int) (gw : Int) (k1 : 0 ≤ x1 ∧ x1 ≤ 47) (k4 : 1 ≤ x4 ∧ x4 ≤ 48) (k5 : 0 ≤ x5 ∧ x5 ≤ 23) (k6 : (-46) ≤ x6 ∧ x6 ≤ 48) (k7 : 1 ≤ x7 ∧ x7 ≤ 1) (k8 : 0 ≤ x8 ∧ x8 ≤ 47) (k9 : 1 ≤ x9 ∧ x9 ≤ 1) (k10 : 1 ≤ x10 ∧ x10 ≤ 48) (k12 : 0 ≤ x12 ∧ x12 ≤ 24) (k13 : 0 ≤ x13 ∧ x13 ≤ 48) (k14 : 0 ≤ x14 ∧ x14 ≤ 23) (k15 : 1 ≤ x15 ∧ x15 ≤ 1) (k16 : 1 ≤ x16 ∧ x16 ≤ 48) (d0 : x1 + 1 ≤ x16 ∧ x16 ≤ x1 + 1) (d1 : x1 + 1 ≤ x10 ∧ x10 ≤ x1 + 1) (d2 : x6 + (-1) ≤ x8 ∧ x8 ≤ x6 + (-1)) (d3 : x4 + (-48) ≤ x8 ∧ x8 ≤ x4 + (-1)) (d4 : x4 + (-47) ≤ x6 ∧ x6 ≤ x4 + 0) (g0 : x4 = edges_0) (f1 : x16 = x1 + x15) (f2 : x10 + x8 ≤ 48) (f3 : x1 + x8 ≤ 48) (f5 : x12 = nodes_0) (f6 : x13 = edges_0) (f7 : 1 * x14 + ((-1) * x5 + 0) ≤ 0) (f8 : (-1) * x14 + (1 * x5 + 0) ≤ 0) (f9 : (0 ≤ x1) ∧ ((x1 + 1) ≤ edges_0)) (f10 : RT2n (a2_0) (a2_0) (a3_0) (x10) (x1) (x8) (x12) (x13) (x14)) (f12 : x10 + x8 ≤ 48) (f13 : x1 + x8 ≤ 48) (f14 : 1 * x14 + ((-1) * x5 + 0) ≤ 0) (f15 : (-1) * x14 + (1 * x5 + 0) ≤ 0) (f16 : x10 = x1 + x9) (f17 : x8 = x6 - x7) (f18 : x6 = x4 - x1) (hK_2_999 : ∀ j : Int, 0 ≤ j → j < 48 → 0 ≤ a2_0 j ∧ a2_0 j ≤ 23) (hK_3_999 : ∀ j : Int, 0 ≤ j → j < 48 → 0 ≤ a3_0 j ∧ a3_0 j ≤ 23) (kz_0_0 : 0 ≤ nodes_0 ∧ nodes_0 ≤ 24) (kz_0_1 : 0 ≤ edges_0 ∧ edges_0 ≤ 48) (ey2 : gy = nodes_0) (ey3 : 0 ≤ gy ∧ gy ≤ 24) (eu2 : gu = edges_0) (eu3 : 0 ≤ gu ∧ gu ≤ 48) (ew2 : gw = x5) (ew3 : 0 ≤ gw ∧ gw ≤ 23) : RH1n (a3_0) (a3_0) (a2_0) (x16) (x1) (x8) (gy) (gu) (gw) := by
  first
    | exact rh1n_of ‹RT2n _ _ _ _ _ _ _ _ _› (by omega) (by omega) (by omega) (by omega) (by omega) (by omega)
  
def o_Gr_removeEdge_at_gn_2 : or_T := (38, 17, [(0, (2, 0, 0, [3])), (1, (0, 0, 47, [])), (2, (2, 0, 0, [52])), (3, (2, 0, 0, [53])), (4, (0, 1, 48, [])), (5, (0, 0, 23, [])), (6, (0, -46, 48, [])), (7, (0, 1, 1, [])), (8, (0, 0, 47, [])), (9, (0, 1, 1, [])), (10, (0, 1, 48, [])), (12, (0, 0, 24, [])), (13, (0, 0, 48, [])), (14, (0, 0, 23, [])), (15, (0, 1, 1, [])), (16, (0, 1, 48, []))], [(9, [4, 0], [1]), (1, [16, 1, 15], []), (21, [10, 8], [48]), (21, [1, 8], [48]), (24, [3, 11], []), (20, [12, 0], [50, 1, 0, 1000, 1, 2, 1, 0, 2, 1, 0]), (20, [13, 0], [50, 1, 0, 1001, 1, 2, 1, 0, 2, 1, 1]), (23, [14, 5], [0, 1, -1]), (23, [14, 5], [0, -1, 1]), (20, [1, 0], [50, 1, 0, 1001, 2, 6, 0, 2, 0, 0, 1, 0, 0, 6, 4, 2, 1, 0, 0, 1, 2, 1, 1]), (20, [2, 2, 11, 10, 1, 8, 12, 13, 14], [61, 3, 752]), (102, [14], [4503599627370496]), (21, [10, 8], [48]), (21, [1, 8], [48]), (23, [14, 5], [0, 1, -1]), (23, [14, 5], [0, -1, 1]), (1, [10, 1, 9], []), (2, [8, 6, 7], []), (2, [6, 4, 1], [])], [], [(2, 0, 0, [52]), (0, 0, 24, []), (0, 0, 48, []), (0, 0, 23, [])], [(21, [16, 8], [48]), (24, [2, 17], []), (20, [18, 0], [50, 1, 0, 1000, 1, 2, 1, 0, 2, 1, 0]), (20, [19, 0], [50, 1, 0, 1001, 1, 2, 1, 0, 2, 1, 1]), (23, [20, 5], [0, 1, -1]), (23, [20, 5], [0, -1, 1]), (20, [3, 3, 17, 16, 1, 8, 18, 19, 20], [61, 3, 754])], [], [(16, 1, 1, 1), (10, 1, 1, 1), (8, 6, -1, -1), (8, 4, -48, -1), (6, 4, -47, 0)])
theorem oo_Gr_removeEdge_at_gn_2 {kA : Nat → ClassId} : or_ok PRD kA GG o_Gr_removeEdge_at_gn_2 := by
  refine or_mk fun A ta ws vs hD hth hl => ?_
  intro t0 r0 t1 k1 t2 r2 t3 r3 t4 k4 t5 k5 t6 k6 t7 k7 t8 k8 t9 k9 t10 k10 t12 k12 t13 k13 t14 k14 t15 k15 t16 k16 d0 d1 d2 d3 d4 f0 f1 f2 f3 f4 f5 f6 f7 f8 f9 f10 ta1 w1 le1 s1 f12 f13 f14 f15 f16 f17 f18
  replace f0 := shm_127 f0
  replace f1 := shm_12 f1
  replace f2 := shm_829 f2
  replace f3 := shm_829 f3
  replace f4 := shm_5 f4
  replace f5 := shm_830 f5
  replace f6 := shm_831 f6
  replace f7 := shm_7 f7
  replace f8 := shm_22 f8
  replace f9 := shm_402 f9
  replace f10 := shm_833 f10
  replace f12 := shm_829 f12
  replace f13 := shm_829 f13
  replace f14 := shm_7 f14
  replace f15 := shm_22 f15
  replace f16 := shm_12 f16
  replace f17 := shm_14 f17
  replace f18 := shm_14 f18
  have q11 : n_v vs 11 = n_v vs 3 := f4.symm
  simp only [q11] at f10
  have cr_2_999 : ta (v_ad (n_v vs 2)) = some 52 := r2
  have cr_3_999 : ta (v_ad (n_v vs 3)) = some 53 := r3
  have g0 : v_iv (n_v vs 4) = w_fi ws (n_v vs 0) 1 := congrArg v_iv f0
  have hK_2_999 := elq_10 hD hth cr_2_999
  have hK_3_999 := elq_11 hD hth cr_3_999
  have kz_0_0 := fdq_23 hD hth r0
  have kz_0_1 := fdq_38 hD hth r0
  obtain ⟨y, ey, hy⟩ := iv_ex (ta := ta) (lo := 0) (hi := 24) (z := w_fi ws (n_v vs 0) 0) (by omega) (by omega) (by omega) (by omega)
  have ey2 : v_iv (Value.int y) = w_fi ws (n_v vs 0) 0 := ey
  have ey3 : 0 ≤ v_iv (Value.int y) ∧ v_iv (Value.int y) ≤ 24 := tv_rng hy
  obtain ⟨u, eu, hu⟩ := iv_ex (ta := ta) (lo := 0) (hi := 48) (z := w_fi ws (n_v vs 0) 1) (by omega) (by omega) (by omega) (by omega)
  have eu2 : v_iv (Value.int u) = w_fi ws (n_v vs 0) 1 := eu
  have eu3 : 0 ≤ v_iv (Value.int u) ∧ v_iv (Value.int u) ≤ 48 := tv_rng hu
  obtain ⟨w, ew, hw⟩ := iv_ex (ta := ta) (lo := 0) (hi := 23) (z := v_iv (n_v vs 5)) (by omega) (by omega) (by omega) (by omega)
  have ew2 : v_iv (Value.int w) = v_iv (n_v vs 5) := ew
  have ew3 : 0 ≤ v_iv (Value.int w) ∧ v_iv (Value.int w) ≤ 23 := tv_rng hw
  have e_0 : n_v (vs ++ [n_v vs 2, Value.int y, Value.int u, Value.int w]) 0 = n_v vs 0 := n_v_old (by rw [hl]; decide)
  have e_1 : n_v (vs ++ [n_v vs 2, Value.int y, Value.int u, Value.int w]) 1 = n_v vs 1 := n_v_old (by rw [hl]; decide)
  have e_2 : n_v (vs ++ [n_v vs 2, Value.int y, Value.int u, Value.int w]) 2 = n_v vs 2 := n_v_old (by rw [hl]; decide)
  have e_3 : n_v (vs ++ [n_v vs 2, Value.int y, Value.int u, Value.int w]) 3 = n_v vs 3 := n_v_old (by rw [hl]; decide)
  have e_5 : n_v (vs ++ [n_v vs 2, Value.int y, Value.int u, Value.int w]) 5 = n_v vs 5 := n_v_old (by rw [hl]; decide)
  have e_8 : n_v (vs ++ [n_v vs 2, Value.int y, Value.int u, Value.int w]) 8 = n_v vs 8 := n_v_old (by rw [hl]; decide)
  have e_16 : n_v (vs ++ [n_v vs 2, Value.int y, Value.int u, Value.int w]) 16 = n_v vs 16 := n_v_old (by rw [hl]; decide)
  have e_17 : n_v (vs ++ [n_v vs 2, Value.int y, Value.int u, Value.int w]) 17 = n_v vs 2 := n_v_newk (k := 0) hl rfl
  have e_18 : n_v (vs ++ [n_v vs 2, Value.int y, Value.int u, Value.int w]) 18 = Value.int y := n_v_newk (k := 1) hl rfl
  have e_19 : n_v (vs ++ [n_v vs 2, Value.int y, Value.int u, Value.int w]) 19 = Value.int u := n_v_newk (k := 2) hl rfl
  have e_20 : n_v (vs ++ [n_v vs 2, Value.int y, Value.int u, Value.int w]) 20 = Value.int w := n_v_newk (k := 3) hl rfl
  have nf0 : fc_1 PRD (21, [16, 8], [48]) ws (vs ++ [n_v vs 2, Value.int y, Value.int u, Value.int w]) := by
    refine ⟨nf_inA hl rfl, sgq_829 ?_⟩
    · show v_iv (n_v (vs ++ [n_v vs 2, Value.int y, Value.int u, Value.int w]) 16) + v_iv (n_v (vs ++ [n_v vs 2, Value.int y, Value.int u, Value.int w]) 8) ≤ 48
      simp only [e_8, e_16]
      exact vc_Gr_removeEdge_at_gn_2_0 (v_iv (n_v vs 1)) (v_iv (n_v vs 4)) (v_iv (n_v vs 5)) (v_iv (n_v vs 6)) (v_iv (n_v vs 7)) (v_iv (n_v vs 8)) (v_iv (n_v vs 9)) (v_iv (n_v vs 10)) (v_iv (n_v vs 12)) (v_iv (n_v vs 13)) (v_iv (n_v vs 14)) (v_iv (n_v vs 15)) (v_iv (n_v vs 16)) (w_fi ws (n_v vs 0) 1) (w_fi ws (n_v vs 0) 0) (w_ei ws (v_ad (n_v vs 2))) (w_ei ws (v_ad (n_v vs 3))) (v_iv (Value.int y)) (v_iv (Value.int u)) (v_iv (Value.int w)) k1 k4 k5 k6 k7 k8 k9 k10 k12 k13 k14 k15 k16 d0 d1 d2 d3 d4 g0 f1 f2 f3 f5 f6 f7 f8 f9 f10 f12 f13 f14 f15 f16 f17 f18 hK_2_999 hK_3_999 kz_0_0 kz_0_1 ey2 ey3 eu2 eu3 ew2 ew3
  have nf1 : fc_1 PRD (24, [2, 17], []) ws (vs ++ [n_v vs 2, Value.int y, Value.int u, Value.int w]) := by
    refine ⟨nf_inA hl rfl, sgq_5 ?_⟩
    · show n_v (vs ++ [n_v vs 2, Value.int y, Value.int u, Value.int w]) 2 = n_v (vs ++ [n_v vs 2, Value.int y, Value.int u, Value.int w]) 17
      first | rfl | simp only [e_2, e_17, q11]
  have nf2 : fc_1 PRD (20, [18, 0], [50, 1, 0, 1000, 1, 2, 1, 0, 2, 1, 0]) ws (vs ++ [n_v vs 2, Value.int y, Value.int u, Value.int w]) := by
    refine ⟨nf_inA hl rfl, sgq_830 ?_⟩
    · show v_iv (n_v (vs ++ [n_v vs 2, Value.int y, Value.int u, Value.int w]) 18) = w_fi ws (n_v (vs ++ [n_v vs 2, Value.int y, Value.int u, Value.int w]) 0) 0
      simp only [e_0, e_18]
      exact vc_Gr_removeEdge_at_gn_2_2 (v_iv (n_v vs 1)) (v_iv (n_v vs 4)) (v_iv (n_v vs 5)) (v_iv (n_v vs 6)) (v_iv (n_v vs 7)) (v_iv (n_v vs 8)) (v_iv (n_v vs 9)) (v_iv (n_v vs 10)) (v_iv (n_v vs 12)) (v_iv (n_v vs 13)) (v_iv (n_v vs 14)) (v_iv (n_v vs 15)) (v_iv (n_v vs 16)) (w_fi ws (n_v vs 0) 1) (w_fi ws (n_v vs 0) 0) (w_ei ws (v_ad (n_v vs 2))) (w_ei ws (v_ad (n_v vs 3))) (v_iv (Value.int y)) (v_iv (Value.int u)) (v_iv (Value.int w)) k1 k4 k5 k6 k7 k8 k9 k10 k12 k13 k14 k15 k16 d0 d1 d2 d3 d4 g0 f1 f2 f3 f5 f6 f7 f8 f9 f10 f12 f13 f14 f15 f16 f17 f18 hK_2_999 hK_3_999 kz_0_0 kz_0_1 ey2 ey3 eu2 eu3 ew2 ew3
  have nf3 : fc_1 PRD (20, [19, 0], [50, 1, 0, 1001, 1, 2, 1, 0, 2, 1, 1]) ws (vs ++ [n_v vs 2, Value.int y, Value.int u, Value.int w]) := by
    refine ⟨nf_inA hl rfl, sgq_831 ?_⟩
    · show v_iv (n_v (vs ++ [n_v vs 2, Value.int y, Value.int u, Value.int w]) 19) = w_fi ws (n_v (vs ++ [n_v vs 2, Value.int y, Value.int u, Value.int w]) 0) 1
      simp only [e_0, e_19]
      exact vc_Gr_removeEdge_at_gn_2_3 (v_iv (n_v vs 1)) (v_iv (n_v vs 4)) (v_iv (n_v vs 5)) (v_iv (n_v vs 6)) (v_iv (n_v vs 7)) (v_iv (n_v vs 8)) (v_iv (n_v vs 9)) (v_iv (n_v vs 10)) (v_iv (n_v vs 12)) (v_iv (n_v vs 13)) (v_iv (n_v vs 14)) (v_iv (n_v vs 15)) (v_iv (n_v vs 16)) (w_fi ws (n_v vs 0) 1) (w_fi ws (n_v vs 0) 0) (w_ei ws (v_ad (n_v vs 2))) (w_ei ws (v_ad (n_v vs 3))) (v_iv (Value.int y)) (v_iv (Value.int u)) (v_iv (Value.int w)) k1 k4 k5 k6 k7 k8 k9 k10 k12 k13 k14 k15 k16 d0 d1 d2 d3 d4 g0 f1 f2 f3 f5 f6 f7 f8 f9 f10 f12 f13 f14 f15 f16 f17 f18 hK_2_999 hK_3_999 kz_0_0 kz_0_1 ey2 ey3 eu2 eu3 ew2 ew3
  have nf4 : fc_1 PRD (23, [20, 5], [0, 1, -1]) ws (vs ++ [n_v vs 2, Value.int y, Value.int u, Value.int w]) := by
    refine ⟨nf_inA hl rfl, sgq_7 ?_⟩
    · show 1 * v_iv (n_v (vs ++ [n_v vs 2, Value.int y, Value.int u, Value.int w]) 20) + ((-1) * v_iv (n_v (vs ++ [n_v vs 2, Value.int y, Value.int u, Value.int w]) 5) + 0) ≤ 0
      simp only [e_5, e_20]
      exact vc_Gr_removeEdge_at_gn_2_4 (v_iv (n_v vs 1)) (v_iv (n_v vs 4)) (v_iv (n_v vs 5)) (v_iv (n_v vs 6)) (v_iv (n_v vs 7)) (v_iv (n_v vs 8)) (v_iv (n_v vs 9)) (v_iv (n_v vs 10)) (v_iv (n_v vs 12)) (v_iv (n_v vs 13)) (v_iv (n_v vs 14)) (v_iv (n_v vs 15)) (v_iv (n_v vs 16)) (w_fi ws (n_v vs 0) 1) (w_fi ws (n_v vs 0) 0) (w_ei ws (v_ad (n_v vs 2))) (w_ei ws (v_ad (n_v vs 3))) (v_iv (Value.int y)) (v_iv (Value.int u)) (v_iv (Value.int w)) k1 k4 k5 k6 k7 k8 k9 k10 k12 k13 k14 k15 k16 d0 d1 d2 d3 d4 g0 f1 f2 f3 f5 f6 f7 f8 f9 f10 f12 f13 f14 f15 f16 f17 f18 hK_2_999 hK_3_999 kz_0_0 kz_0_1 ey2 ey3 eu2 eu3 ew2 ew3
  have nf5 : fc_1 PRD (23, [20, 5], [0, -1, 1]) ws (vs ++ [n_v vs 2, Value.int y, Value.int u, Value.int w]) := by
    refine ⟨nf_inA hl rfl, sgq_22 ?_⟩
    · show (-1) * v_iv (n_v (vs ++ [n_v vs 2, Value.int y, Value.int u, Value.int w]) 20) + (1 * v_iv (n_v (vs ++ [n_v vs 2, Value.int y, Value.int u, Value.int w]) 5) + 0) ≤ 0
      simp only [e_5, e_20]
      exact vc_Gr_removeEdge_at_gn_2_5 (v_iv (n_v vs 1)) (v_iv (n_v vs 4)) (v_iv (n_v vs 5)) (v_iv (n_v vs 6)) (v_iv (n_v vs 7)) (v_iv (n_v vs 8)) (v_iv (n_v vs 9)) (v_iv (n_v vs 10)) (v_iv (n_v vs 12)) (v_iv (n_v vs 13)) (v_iv (n_v vs 14)) (v_iv (n_v vs 15)) (v_iv (n_v vs 16)) (w_fi ws (n_v vs 0) 1) (w_fi ws (n_v vs 0) 0) (w_ei ws (v_ad (n_v vs 2))) (w_ei ws (v_ad (n_v vs 3))) (v_iv (Value.int y)) (v_iv (Value.int u)) (v_iv (Value.int w)) k1 k4 k5 k6 k7 k8 k9 k10 k12 k13 k14 k15 k16 d0 d1 d2 d3 d4 g0 f1 f2 f3 f5 f6 f7 f8 f9 f10 f12 f13 f14 f15 f16 f17 f18 hK_2_999 hK_3_999 kz_0_0 kz_0_1 ey2 ey3 eu2 eu3 ew2 ew3
  have nf6 : fc_1 PRD (20, [3, 3, 17, 16, 1, 8, 18, 19, 20], [61, 3, 754]) ws (vs ++ [n_v vs 2, Value.int y, Value.int u, Value.int w]) := by
    refine ⟨nf_inA hl rfl, sgq_834 ?_⟩
    · show RH1n (w_ei ws (v_ad (n_v (vs ++ [n_v vs 2, Value.int y, Value.int u, Value.int w]) 3))) (w_ei ws (v_ad (n_v (vs ++ [n_v vs 2, Value.int y, Value.int u, Value.int w]) 3))) (w_ei ws (v_ad (n_v (vs ++ [n_v vs 2, Value.int y, Value.int u, Value.int w]) 17))) (v_iv (n_v (vs ++ [n_v vs 2, Value.int y, Value.int u, Value.int w]) 16)) (v_iv (n_v (vs ++ [n_v vs 2, Value.int y, Value.int u, Value.int w]) 1)) (v_iv (n_v (vs ++ [n_v vs 2, Value.int y, Value.int u, Value.int w]) 8)) (v_iv (n_v (vs ++ [n_v vs 2, Value.int y, Value.int u, Value.int w]) 18)) (v_iv (n_v (vs ++ [n_v vs 2, Value.int y, Value.int u, Value.int w]) 19)) (v_iv (n_v (vs ++ [n_v vs 2, Value.int y, Value.int u, Value.int w]) 20))
      simp only [e_1, e_3, e_8, e_16, e_17, e_18, e_19, e_20]
      exact vc_Gr_removeEdge_at_gn_2_6 (v_iv (n_v vs 1)) (v_iv (n_v vs 4)) (v_iv (n_v vs 5)) (v_iv (n_v vs 6)) (v_iv (n_v vs 7)) (v_iv (n_v vs 8)) (v_iv (n_v vs 9)) (v_iv (n_v vs 10)) (v_iv (n_v vs 12)) (v_iv (n_v vs 13)) (v_iv (n_v vs 14)) (v_iv (n_v vs 15)) (v_iv (n_v vs 16)) (w_fi ws (n_v vs 0) 1) (w_fi ws (n_v vs 0) 0) (w_ei ws (v_ad (n_v vs 2))) (w_ei ws (v_ad (n_v vs 3))) (v_iv (Value.int y)) (v_iv (Value.int u)) (v_iv (Value.int w)) k1 k4 k5 k6 k7 k8 k9 k10 k12 k13 k14 k15 k16 d0 d1 d2 d3 d4 g0 f1 f2 f3 f5 f6 f7 f8 f9 f10 f12 f13 f14 f15 f16 f17 f18 hK_2_999 hK_3_999 kz_0_0 kz_0_1 ey2 ey3 eu2 eu3 ew2 ew3
  exact ⟨(fun _ h => (by cases h)), [n_v vs 2, Value.int y, Value.int u, Value.int w], ag_four t2 hy hu hw, List.forall_mem_cons.mpr ⟨⟨show (21 : Nat) < 100 from by decide, nf0⟩, List.forall_mem_cons.mpr ⟨⟨show (24 : Nat) < 100 from by decide, nf1⟩, List.forall_mem_cons.mpr ⟨⟨show (20 : Nat) < 100 from by decide, nf2⟩, List.forall_mem_cons.mpr ⟨⟨show (20 : Nat) < 100 from by decide, nf3⟩, List.forall_mem_cons.mpr ⟨⟨show (23 : Nat) < 100 from by decide, nf4⟩, List.forall_mem_cons.mpr ⟨⟨show (23 : Nat) < 100 from by decide, nf5⟩, List.forall_mem_cons.mpr ⟨⟨show (20 : Nat) < 100 from by decide, nf6⟩, (fun _ h => (by cases h))⟩⟩⟩⟩⟩⟩⟩, (fun _ h => (by cases h))⟩
set_option maxHeartbeats 4000000 in
theorem vc_Gr_removeEdge_at_gn_3_0 (x1 : Int) (x4 : Int) (x5 : Int) (x6 : Int) (x7 : Int) (x8 : Int) (x9 : Int) (x10 : Int) (x12 : Int) (x13 : Int) (x14 : Int) (x15 : Int) (x16 : Int) (x18 : Int) (x19 : Int) (x20 : Int) (x22 : Int) (x23 : Int) (edges_0 : Int) (nodes_0 : Int) (a3_0 : Int → Int) (a2_0 : Int → Int) (k1 : 0 ≤ x1 ∧ x1 ≤ 47) (k4 : 1 ≤ x4 ∧ x4 ≤ 48) (k5 : 0 ≤ x5 ∧ x5 ≤ 23) (k6 : (-46) ≤ x6 ∧ x6 ≤ 48) (k7 : 1 ≤ x7 ∧ x7 ≤ 1) (k8 : 0 ≤ x8 ∧ x8 ≤ 47) (k9 : 1 ≤ x9 ∧ x9 ≤ 1) (k10 : 1 ≤ x10 ∧ x10 ≤ 48) (k12 : 0 ≤ x12 ∧ x12 ≤ 24) (k13 : 0 ≤ x13 ∧ x13 ≤ 48) (k14 : 0 ≤ x14 ∧ x14 ≤ 23) (k15 : 1 ≤ x15 ∧ x15 ≤ 1) (k16 : 1 ≤ x16 ∧ x16 ≤ 48) (k18 : 0 ≤ x18 ∧ x18 ≤ 24) (k19 : 0 ≤ x19 ∧ x19 ≤ 48) (k20 : 0 ≤ x20 ∧ x20 ≤ 23) (k22 : 1 ≤ x22 ∧ x22 ≤ 1) (k23 : 1 ≤ x23 ∧ x23 ≤ 48) (d0 : x1 + 1 ≤ x23 ∧ x23 ≤ x1 + 1) (d1 : x1 + 1 ≤ x16 ∧ x16 ≤ x1 + 1) (d2 : x1 + 1 ≤ x10 ∧ x10 ≤ x1 + 1) (d3 : x6 + (-1) ≤ x8 ∧ x8 ≤ x6 + (-1)) (d4 : x4 + (-48) ≤ x8 ∧ x8 ≤ x4 + (-1)) (d5 : x4 + (-47) ≤ x6 ∧ x6 ≤ x4 + 0) (g0 : x4 = edges_0) (f1 : x23 = x1 + x22) (f2 : x16 + x8 ≤ 48) (f4 : x18 = nodes_0) (f5 : x19 = edges_0) (f6 : 1 * x20 + ((-1) * x5 + 0) ≤ 0) (f7 : (-1) * x20 + (1 * x5 + 0) ≤ 0) (f8 : x10 + x8 ≤ 48) (f9 : x1 + x8 ≤ 48) (f11 : x12 = nodes_0) (f12 : x13 = edges_0) (f13 : 1 * x14 + ((-1) * x5 + 0) ≤ 0) (f14 : (-1) * x14 + (1 * x5 + 0) ≤ 0) (f15 : (0 ≤ x1) ∧ ((x1 + 1) ≤ edges_0)) (f16 : RH2n (a3_0) (a3_0) (a2_0) (x16) (x1) (x8) (x18) (x19) (x20)) (f18 : x16 + x8 ≤ 48) (f19 : 1 * x20 + ((-1) * x5 + 0) ≤ 0) (f20 : (-1) * x20 + (1 * x5 + 0) ≤ 0) (f21 : x16 = x1 + x15) (f22 : x10 + x8 ≤ 48) (f23 : x1 + x8 ≤ 48) (f24 : 1 * x14 + ((-1) * x5 + 0) ≤ 0) (f25 : (-1) * x14 + (1 * x5 + 0) ≤ 0) (f27 : x10 + x8 ≤ 48) (f28 : x1 + x8 ≤ 48) (f29 : 1 * x14 + ((-1) * x5 + 0) ≤ 0) (f30 : (-1) * x14 + (1 * x5 + 0) ≤ 0) (f31 : x10 = x1 + x9) (f32 : x8 = x6 - x7) (f33 : x6 = x4 - x1) (hK_2_999 : ∀ j : Int, 0 ≤ j → j < 48 → 0 ≤ a2_0 j ∧ a2_0 j ≤ 23) (hK_3_999 : ∀ j : Int, 0 ≤ j → j < 48 → 0 ≤ a3_0 j ∧ a3_0 j ≤ 23) (kz_0_0 : 0 ≤ nodes_0 ∧ nodes_0 ≤ 24) (kz_0_1 : 0 ≤ edges_0 ∧ edges_0 ≤ 48) : x23 + x8 ≤ 48 := by
  first
    | omega
  
def o_Gr_removeEdge_at_gn_3 : or_T := (54, 24, [(0, (2, 0, 0, [3])), (1, (0, 0, 47, [])), (2, (2, 0, 0, [52])), (3, (2, 0, 0, [53])), (4, (0, 1, 48, [])), (5, (0, 0, 23, [])), (6, (0, -46, 48, [])), (7, (0, 1, 1, [])), (8, (0, 0, 47, [])), (9, (0, 1, 1, [])), (10, (0, 1, 48, [])), (12, (0, 0, 24, [])), (13, (0, 0, 48, [])), (14, (0, 0, 23, [])), (15, (0, 1, 1, [])), (16, (0, 1, 48, [])), (18, (0, 0, 24, [])), (19, (0, 0, 48, [])), (20, (0, 0, 23, [])), (22, (0, 1, 1, [])), (23, (0, 1, 48, []))], [(9, [4, 0], [1]), (1, [23, 1, 22], []), (21, [16, 8], [48]), (24, [2, 17], []), (20, [18, 0], [50, 1, 0, 1000, 1, 2, 1, 0, 2, 1, 0]), (20, [19, 0], [50, 1, 0, 1001, 1, 2, 1, 0, 2, 1, 1]), (23, [20, 5], [0, 1, -1]), (23, [20, 5], [0, -1, 1]), (21, [10, 8], [48]), (21, [1, 8], [48]), (20, [12, 0], [50, 1, 0, 1000, 1, 2, 1, 0, 2, 1, 0]), (20, [13, 0], [50, 1, 0, 1001, 1, 2, 1, 0, 2, 1, 1]), (23, [14, 5], [0, 1, -1]), (23, [14, 5], [0, -1, 1]), (20, [1, 0], [50, 1, 0, 1001, 2, 6, 0, 2, 0, 0, 1, 0, 0, 6, 4, 2, 1, 0, 0, 1, 2, 1, 1]), (20, [3, 3, 17, 16, 1, 8, 18, 19, 20], [61, 3, 756]), (102, [20], [9007199254740992]), (21, [16, 8], [48]), (23, [20, 5], [0, 1, -1]), (23, [20, 5], [0, -1, 1]), (1, [16, 1, 15], []), (21, [10, 8], [48]), (21, [1, 8], [48]), (23, [14, 5], [0, 1, -1]), (23, [14, 5], [0, -1, 1]), (102, [14], [4503599627370496]), (21, [10, 8], [48]), (21, [1, 8], [48]), (23, [14, 5], [0, 1, -1]), (23, [14, 5], [0, -1, 1]), (1, [10, 1, 9], []), (2, [8, 6, 7], []), (2, [6, 4, 1], [])], [], [], [(21, [23, 8], [48])], [], [(23, 1, 1, 1), (16, 1, 1, 1), (10, 1, 1, 1), (8, 6, -1, -1), (8, 4, -48, -1), (6, 4, -47, 0)])
theorem oo_Gr_removeEdge_at_gn_3 {kA : Nat → ClassId} : or_ok PRD kA GG o_Gr_removeEdge_at_gn_3 := by
  refine or_mk fun A ta ws vs hD hth hl => ?_
  intro t0 r0 t1 k1 t2 r2 t3 r3 t4 k4 t5 k5 t6 k6 t7 k7 t8 k8 t9 k9 t10 k10 t12 k12 t13 k13 t14 k14 t15 k15 t16 k16 t18 k18 t19 k19 t20 k20 t22 k22 t23 k23 d0 d1 d2 d3 d4 d5 f0 f1 f2 f3 f4 f5 f6 f7 f8 f9 f11 f12 f13 f14 f15 f16 ta1 w1 le1 s1 f18 f19 f20 f21 f22 f23 f24 f25 ta2 w2 le2 s2 f27 f28 f29 f30 f31 f32 f33
  replace f0 := shm_127 f0
  replace f3 := shm_5 f3
  replace f16 := shm_835 f16
  have q17 : n_v vs 17 = n_v vs 2 := f3.symm
  simp only [q17] at f16
  have cr_2_999 : ta (v_ad (n_v vs 2)) = some 52 := r2
  have cr_3_999 : ta (v_ad (n_v vs 3)) = some 53 := r3
  have g0 : v_iv (n_v vs 4) = w_fi ws (n_v vs 0) 1 := congrArg v_iv f0
  have hK_2_999 := elq_10 hD hth cr_2_999
  have hK_3_999 := elq_11 hD hth cr_3_999
  have kz_0_0 := fdq_23 hD hth r0
  have kz_0_1 := fdq_38 hD hth r0
  have nf0 : fc_1 PRD (21, [23, 8], [48]) ws (vs) := ⟨nf_in hl rfl, sgq_829 (vc_Gr_removeEdge_at_gn_3_0 (v_iv (n_v vs 1)) (v_iv (n_v vs 4)) (v_iv (n_v vs 5)) (v_iv (n_v vs 6)) (v_iv (n_v vs 7)) (v_iv (n_v vs 8)) (v_iv (n_v vs 9)) (v_iv (n_v vs 10)) (v_iv (n_v vs 12)) (v_iv (n_v vs 13)) (v_iv (n_v vs 14)) (v_iv (n_v vs 15)) (v_iv (n_v vs 16)) (v_iv (n_v vs 18)) (v_iv (n_v vs 19)) (v_iv (n_v vs 20)) (v_iv (n_v vs 22)) (v_iv (n_v vs 23)) (w_fi ws (n_v vs 0) 1) (w_fi ws (n_v vs 0) 0) (w_ei ws (v_ad (n_v vs 3))) (w_ei ws (v_ad (n_v vs 2))) k1 k4 k5 k6 k7 k8 k9 k10 k12 k13 k14 k15 k16 k18 k19 k20 k22 k23 d0 d1 d2 d3 d4 d5 g0 (shm_12 f1) (shm_829 f2) (shm_830 f4) (shm_831 f5) (shm_7 f6) (shm_22 f7) (shm_829 f8) (shm_829 f9) (shm_830 f11) (shm_831 f12) (shm_7 f13) (shm_22 f14) (shm_402 f15) f16 (shm_829 f18) (shm_7 f19) (shm_22 f20) (shm_12 f21) (shm_829 f22) (shm_829 f23) (shm_7 f24) (shm_22 f25) (shm_829 f27) (shm_829 f28) (shm_7 f29) (shm_22 f30) (shm_12 f31) (shm_14 f32) (shm_14 f33) hK_2_999 hK_3_999 kz_0_0 kz_0_1)⟩
  refine ⟨(fun _ h => (by cases h)), [], trivial, ?_, (fun _ h => (by cases h))⟩
  rw [List.append_nil]
  exact List.forall_mem_cons.mpr ⟨⟨show (21 : Nat) < 100 from by decide, nf0⟩, (fun _ h => (by cases h))⟩
set_option maxHeartbeats 4000000 in
theorem vc_Gr_removeEdge_at_gn_4_0 (x1 : Int) (x4 : Int) (x5 : Int) (x6 : Int) (x7 : Int) (x8 : Int) (x9 : Int) (x10 : Int) (x12 : Int) (x13 : Int) (x14 : Int) (x15 : Int) (x16 : Int) (x18 : Int) (x19 : Int) (x20 : Int) (x22 : Int) (x23 : Int) (x25 : Int) (x26 : Int) (edges_0 : Int) (nodes_0 : Int) (a3_0 : Int → Int) (a2_0 : Int → Int) (k1 : 0 ≤ x1 ∧ x1 ≤ 47) (k4 : 1 ≤ x4 ∧ x4 ≤ 48) (k5 : 0 ≤ x5 ∧ x5 ≤ 23) (k6 : (-46) ≤ x6 ∧ x6 ≤ 48) (k7 : 1 ≤ x7 ∧ x7 ≤ 1) (k8 : 0 ≤ x8 ∧ x8 ≤ 47) (k9 : 1 ≤ x9 ∧ x9 ≤ 1) (k10 : 1 ≤ x10 ∧ x10 ≤ 48) (k12 : 0 ≤ x12 ∧ x12 ≤ 24) (k13 : 0 ≤ x13 ∧ x13 ≤ 48) (k14 : 0 ≤ x14 ∧ x14 ≤ 23) (k15 : 1 ≤ x15 ∧ x15 ≤ 1) (k16 : 1 ≤ x16 ∧ x16 ≤ 48) (k18 : 0 ≤ x18 ∧ x18 ≤ 24) (k19 : 0 ≤ x19 ∧ x19 ≤ 48) (k20 : 0 ≤ x20 ∧ x20 ≤ 23) (k22 : 1 ≤ x22 ∧ x22 ≤ 1) (k23 : 1 ≤ x23 ∧ x23 ≤ 48) (k25 : 1 ≤ x25 ∧ x25 ≤ 1) (k26 : 1 ≤ x26 ∧ x26 ≤ 48) (d0 : x1 + 1 ≤ x26 ∧ x26 ≤ x1 + 1) (d1 : x1 + 1 ≤ x23 ∧ x23 ≤ x1 + 1) (d2 : x1 + 1 ≤ x16 ∧ x16 ≤ x1 + 1) (d3 : x1 + 1 ≤ x10 ∧ x10 ≤ x1 + 1) (d4 : x6 + (-1) ≤ x8 ∧ x8 ≤ x6 + (-1)) (d5 : x4 + (-48) ≤ x8 ∧ x8 ≤ x4 + (-1)) (d6 : x4 + (-47) ≤ x6 ∧ x6 ≤ x4 + 0) (g0 : x4 = edges_0) (f1 : x26 = x1 + x25) (f2 : x23 + x8 ≤ 48) (f3 : x16 + x8 ≤ 48) (f5 : x18 = nodes_0) (f6 : x19 = edges_0) (f7 : 1 * x20 + ((-1) * x5 + 0) ≤ 0) (f8 : (-1) * x20 + (1 * x5 + 0) ≤ 0) (f9 : x10 + x8 ≤ 48) (f10 : x1 + x8 ≤ 48) (f12 : x12 = nodes_0) (f13 : x13 = edges_0) (f14 : 1 * x14 + ((-1) * x5 + 0) ≤ 0) (f15 : (-1) * x14 + (1 * x5 + 0) ≤ 0) (f16 : (0 ≤ x1) ∧ ((x1 + 1) ≤ edges_0)) (f17 : RH2n (a3_0) (a3_0) (a2_0) (x16) (x1) (x8) (x18) (x19) (x20)) (f19 : x23 + x8 ≤ 48) (f20 : x23 = x1 + x22) (f21 : x16 + x8 ≤ 48) (f22 : 1 * x20 + ((-1) * x5 + 0) ≤ 0) (f23 : (-1) * x20 + (1 * x5 + 0) ≤ 0) (f24 : x10 + x8 ≤ 48) (f25 : x1 + x8 ≤ 48) (f26 : 1 * x14 + ((-1) * x5 + 0) ≤ 0) (f27 : (-1) * x14 + (1 * x5 + 0) ≤ 0) (f29 : x16 + x8 ≤ 48) (f30 : 1 * x20 + ((-1) * x5 + 0) ≤ 0) (f31 : (-1) * x20 + (1 * x5 + 0) ≤ 0) (f32 : x16 = x1 + x15) (f33 : x10 + x8 ≤ 48) (f34 : x1 + x8 ≤ 48) (f35 : 1 * x14 + ((-1) * x5 + 0) ≤ 0) (f36 : (-1) * x14 + (1 * x5 + 0) ≤ 0) (f38 : x10 + x8 ≤ 48) (f39 : x1 + x8 ≤ 48) (f40 : 1 * x14 + ((-1) * x5 + 0) ≤ 0) (f41 : (-1) * x14 + (1 * x5 + 0) ≤ 0) (f42 : x10 = x1 + x9) (f43 : x8 = x6 - x7) (f44 : x6 = x4 - x1) (hK_2_999 : ∀ j : Int, 0 ≤ j → j < 48 → 0 ≤ a2_0 j ∧ a2_0 j ≤ 23) (hK_3_999 : ∀ j : Int, 0 ≤ j → j < 48 → 0 ≤ a3_0 j ∧ a3_0 j ≤ 23) (kz_0_0 : 0 ≤ nodes_0 ∧ nodes_0 ≤ 24) (kz_0_1 : 0 ≤ edges_0 ∧ edges_0 ≤ 48) : x26 + x8 ≤ 48 := by
  first
    | omega
  
def o_Gr_removeEdge_at_gn_4 : or_T := (70, 27, [(0, (2, 0, 0, [3])), (1, (0, 0, 47, [])), (2, (2, 0, 0, [52])), (3, (2, 0, 0, [53])), (4, (0, 1, 48, [])), (5, (0, 0, 23, [])), (6, (0, -46, 48, [])), (7, (0, 1, 1, [])), (8, (0, 0, 47, [])), (9, (0, 1, 1, [])), (10, (0, 1, 48, [])), (12, (0, 0, 24, [])), (13, (0, 0, 48, [])), (14, (0, 0, 23, [])), (15, (0, 1, 1, [])), (16, (0, 1, 48, [])), (18, (0, 0, 24, [])), (19, (0, 0, 48, [])), (20, (0, 0, 23, [])), (22, (0, 1, 1, [])), (23, (0, 1, 48, [])), (25, (0, 1, 1, [])), (26, (0, 1, 48, []))], [(9, [4, 0], [1]), (1, [26, 1, 25], []), (21, [23, 8], [48]), (21, [16, 8], [48]), (24, [2, 17], []), (20, [18, 0], [50, 1, 0, 1000, 1, 2, 1, 0, 2, 1, 0]), (20, [19, 0], [50, 1, 0, 1001, 1, 2, 1, 0, 2, 1, 1]), (23, [20, 5], [0, 1, -1]), (23, [20, 5], [0, -1, 1]), (21, [10, 8], [48]), (21, [1, 8], [48]), (20, [12, 0], [50, 1, 0, 1000, 1, 2, 1, 0, 2, 1, 0]), (20, [13, 0], [50, 1, 0, 1001, 1, 2, 1, 0, 2, 1, 1]), (23, [14, 5], [0, 1, -1]), (23, [14, 5], [0, -1, 1]), (20, [1, 0], [50, 1, 0, 1001, 2, 6, 0, 2, 0, 0, 1, 0, 0, 6, 4, 2, 1, 0, 0, 1, 2, 1, 1]), (20, [3, 3, 17, 16, 1, 8, 18, 19, 20], [61, 3, 756]), (102, [23], [18014398509481984]), (21, [23, 8], [48]), (1, [23, 1, 22], []), (21, [16, 8], [48]), (23, [20, 5], [0, 1, -1]), (23, [20, 5], [0, -1, 1]), (21, [10, 8], [48]), (21, [1, 8], [48]), (23, [14, 5], [0, 1, -1]), (23, [14, 5], [0, -1, 1]), (102, [20], [9007199254740992]), (21, [16, 8], [48]), (23, [20, 5], [0, 1, -1]), (23, [20, 5], [0, -1, 1]), (1, [16, 1, 15], []), (21, [10, 8], [48]), (21, [1, 8], [48]), (23, [14, 5], [0, 1, -1]), (23, [14, 5], [0, -1, 1]), (102, [14], [4503599627370496]), (21, [10, 8], [48]), (21, [1, 8], [48]), (23, [14, 5], [0, 1, -1]), (23, [14, 5], [0, -1, 1]), (1, [10, 1, 9], []), (2, [8, 6, 7], []), (2, [6, 4, 1], [])], [], [], [(21, [26, 8], [48])], [], [(26, 1, 1, 1), (23, 1, 1, 1), (16, 1, 1, 1), (10, 1, 1, 1), (8, 6, -1, -1), (8, 4, -48, -1), (6, 4, -47, 0)])
theorem oo_Gr_removeEdge_at_gn_4 {kA : Nat → ClassId} : or_ok PRD kA GG o_Gr_removeEdge_at_gn_4 := by
  refine or_mk fun A ta ws vs hD hth hl => ?_
  intro t0 r0 t1 k1 t2 r2 t3 r3 t4 k4 t5 k5 t6 k6 t7 k7 t8 k8 t9 k9 t10 k10 t12 k12 t13 k13 t14 k14 t15 k15 t16 k16 t18 k18 t19 k19 t20 k20 t22 k22 t23 k23 t25 k25 t26 k26 d0 d1 d2 d3 d4 d5 d6 f0 f1 f2 f3 f4 f5 f6 f7 f8 f9 f10 f12 f13 f14 f15 f16 f17 ta1 w1 le1 s1 f19 f20 f21 f22 f23 f24 f25 f26 f27 ta2 w2 le2 s2 f29 f30 f31 f32 f33 f34 f35 f36 ta3 w3 le3 s3 f38 f39 f40 f41 f42 f43 f44
  replace f0 := shm_127 f0
  replace f4 := shm_5 f4
  replace f17 := shm_835 f17
  have q17 : n_v vs 17 = n_v vs 2 := f4.symm
  simp only [q17] at f17
  have cr_2_999 : ta (v_ad (n_v vs 2)) = some 52 := r2
  have cr_3_999 : ta (v_ad (n_v vs 3)) = some 53 := r3
  have g0 : v_iv (n_v vs 4) = w_fi ws (n_v vs 0) 1 := congrArg v_iv f0
  have hK_2_999 := elq_10 hD hth cr_2_999
  have hK_3_999 := elq_11 hD hth cr_3_999
  have kz_0_0 := fdq_23 hD hth r0
  have kz_0_1 := fdq_38 hD hth r0
  have nf0 : fc_1 PRD (21, [26, 8], [48]) ws (vs) := ⟨nf_in hl rfl, sgq_829 (vc_Gr_removeEdge_at_gn_4_0 (v_iv (n_v vs 1)) (v_iv (n_v vs 4)) (v_iv (n_v vs 5)) (v_iv (n_v vs 6)) (v_iv (n_v vs 7)) (v_iv (n_v vs 8)) (v_iv (n_v vs 9)) (v_iv (n_v vs 10)) (v_iv (n_v vs 12)) (v_iv (n_v vs 13)) (v_iv (n_v vs 14)) (v_iv (n_v vs 15)) (v_iv (n_v vs 16)) (v_iv (n_v vs 18)) (v_iv (n_v vs 19)) (v_iv (n_v vs 20)) (v_iv (n_v vs 22)) (v_iv (n_v vs 23)) (v_iv (n_v vs 25)) (v_iv (n_v vs 26)) (w_fi ws (n_v vs 0) 1) (w_fi ws (n_v vs 0) 0) (w_ei ws (v_ad (n_v vs 3))) (w_ei ws (v_ad (n_v vs 2))) k1 k4 k5 k6 k7 k8 k9 k10 k12 k13 k14 k15 k16 k18 k19 k20 k22 k23 k25 k26 d0 d1 d2 d3 d4 d5 d6 g0 (shm_12 f1) (shm_829 f2) (shm_829 f3) (shm_830 f5) (shm_831 f6) (shm_7 f7) (shm_22 f8) (shm_829 f9) (shm_829 f10) (shm_830 f12) (shm_831 f13) (shm_7 f14) (shm_22 f15) (shm_402 f16) f17 (shm_829 f19) (shm_12 f20) (shm_829 f21) (shm_7 f22) (shm_22 f23) (shm_829 f24) (shm_829 f25) (shm_7 f26) (shm_22 f27) (shm_829 f29) (shm_7 f30) (shm_22 f31) (shm_12 f32) (shm_829 f33) (shm_829 f34) (shm_7 f35) (shm_22 f36) (shm_829 f38) (shm_829 f39) (shm_7 f40) (shm_22 f41) (shm_12 f42) (shm_14 f43) (shm_14 f44) hK_2_999 hK_3_999 kz_0_0 kz_0_1)⟩
  refine ⟨(fun _ h => (by cases h)), [], trivial, ?_, (fun _ h => (by cases h))⟩
  rw [List.append_nil]
  exact List.forall_mem_cons.mpr ⟨⟨show (21 : Nat) < 100 from by decide, nf0⟩, (fun _ h => (by cases h))⟩
set_option maxHeartbeats 4000000 in
theorem vc_Gr_removeEdge_at_gn_5_0 (x1 : Int) (x4 : Int) (x5 : Int) (x6 : Int) (x7 : Int) (x8 : Int) (x9 : Int) (x10 : Int) (x12 : Int) (x13 : Int) (x14 : Int) (x15 : Int) (x16 : Int) (x18 : Int) (x19 : Int) (x20 : Int) (x22 : Int) (x23 : Int) (x25 : Int) (x26 : Int) (x27 : Int) (x28 : Int) (edges_0 : Int) (nodes_0 : Int) (head_0 : Int → Int) (tail_0 : Int → Int) (edges_1 : Int) (nodes_1 : Int) (head_1 : Int → Int) (tail_1 : Int → Int) (k1 : 0 ≤ x1 ∧ x1 ≤ 47) (k4 : 1 ≤ x4 ∧ x4 ≤ 48) (k5 : 0 ≤ x5 ∧ x5 ≤ 23) (k6 : (-46) ≤ x6 ∧ x6 ≤ 48) (k7 : 1 ≤ x7 ∧ x7 ≤ 1) (k8 : 0 ≤ x8 ∧ x8 ≤ 47) (k9 : 1 ≤ x9 ∧ x9 ≤ 1) (k10 : 1 ≤ x10 ∧ x10 ≤ 48) (k12 : 0 ≤ x12 ∧ x12 ≤ 24) (k13 : 0 ≤ x13 ∧ x13 ≤ 48) (k14 : 0 ≤ x14 ∧ x14 ≤ 23) (k15 : 1 ≤ x15 ∧ x15 ≤ 1) (k16 : 1 ≤ x16 ∧ x16 ≤ 48) (k18 : 0 ≤ x18 ∧ x18 ≤ 24) (k19 : 0 ≤ x19 ∧ x19 ≤ 48) (k20 : 0 ≤ x20 ∧ x20 ≤ 23) (k22 : 1 ≤ x22 ∧ x22 ≤ 1) (k23 : 1 ≤ x23 ∧ x23 ≤ 48) (k25 : 1 ≤ x25 ∧ x25 ≤ 1) (k26 : 1 ≤ x26 ∧ x26 ≤ 48) (k27 : 1 ≤ x27 ∧ x27 ≤ 1) (k28 : 0 ≤ x28 ∧ x28 ≤ 47) (d0 : x4 + (-1) ≤ x28 ∧ x28 ≤ x4 + (-1)) (d1 : x1 + 1 ≤ x26 ∧ x26 ≤ x1 + 1) (d2 : x1 + 1 ≤ x23 ∧ x23 ≤ x1 + 1) (d3 : x1 + 1 ≤ x16 ∧ x16 ≤ x1 + 1) (d4 : x1 + 1 ≤ x10 ∧ x10 ≤ x1 + 1) (d5 : x6 + (-1) ≤ x8 ∧ x8 ≤ x6 + (-1)) (d6 : x4 + (-48) ≤ x8 ∧ x8 ≤ x4 + (-1)) (d7 : x4 + (-47) ≤ x6 ∧ x6 ≤ x4 + 0) (g0 : x28 = edges_0) (f3 : x26 + x8 ≤ 48) (f4 : x23 + x8 ≤ 48) (f5 : x16 + x8 ≤ 48) (f7 : x18 = nodes_0) (f8 : 1 * x20 + ((-1) * x5 + 0) ≤ 0) (f9 : (-1) * x20 + (1 * x5 + 0) ≤ 0) (f10 : x10 + x8 ≤ 48) (f11 : x1 + x8 ≤ 48) (f13 : x12 = nodes_0) (f14 : 1 * x14 + ((-1) * x5 + 0) ≤ 0) (f15 : (-1) * x14 + (1 * x5 + 0) ≤ 0) (f16 : RH2n (head_0) (head_0) (tail_0) (x16) (x1) (x8) (x18) (x19) (x20)) (f18 : x28 = x4 - x27) (g19 : x4 = edges_1) (f20 : x26 + x8 ≤ 48) (f21 : x23 + x8 ≤ 48) (f22 : x16 + x8 ≤ 48) (f23 : x18 = nodes_1) (f24 : x19 = edges_1) (f25 : 1 * x20 + ((-1) * x5 + 0) ≤ 0) (f26 : (-1) * x20 + (1 * x5 + 0) ≤ 0) (f27 : x10 + x8 ≤ 48) (f28 : x1 + x8 ≤ 48) (f29 : x12 = nodes_1) (f30 : x13 = edges_1) (f31 : 1 * x14 + ((-1) * x5 + 0) ≤ 0) (f32 : (-1) * x14 + (1 * x5 + 0) ≤ 0) (f33 : (0 ≤ x1) ∧ ((x1 + 1) ≤ edges_1)) (f34 : RH2n (head_1) (head_1) (tail_1) (x16) (x1) (x8) (x18) (x19) (x20)) (f36 : x26 + x8 ≤ 48) (f37 : x26 = x1 + x25) (f38 : x23 + x8 ≤ 48) (f39 : x16 + x8 ≤ 48) (f40 : 1 * x20 + ((-1) * x5 + 0) ≤ 0) (f41 : (-1) * x20 + (1 * x5 + 0) ≤ 0) (f42 : x10 + x8 ≤ 48) (f43 : x1 + x8 ≤ 48) (f44 : 1 * x14 + ((-1) * x5 + 0) ≤ 0) (f45 : (-1) * x14 + (1 * x5 + 0) ≤ 0) (f47 : x23 + x8 ≤ 48) (f48 : x23 = x1 + x22) (f49 : x16 + x8 ≤ 48) (f50 : 1 * x20 + ((-1) * x5 + 0) ≤ 0) (f51 : (-1) * x20 + (1 * x5 + 0) ≤ 0) (f52 : x10 + x8 ≤ 48) (f53 : x1 + x8 ≤ 48) (f54 : 1 * x14 + ((-1) * x5 + 0) ≤ 0) (f55 : (-1) * x14 + (1 * x5 + 0) ≤ 0) (f57 : x16 + x8 ≤ 48) (f58 : 1 * x20 + ((-1) * x5 + 0) ≤ 0) (f59 : (-1) * x20 + (1 * x5 + 0) ≤ 0) (f60 : x16 = x1 + x15) (f61 : x10 + x8 ≤ 48) (f62 : x1 + x8 ≤ 48) (f63 : 1 * x14 + ((-1) * x5 + 0) ≤ 0) (f64 : (-1) * x14 + (1 * x5 + 0) ≤ 0) (f66 : x10 + x8 ≤ 48) (f67 : x1 + x8 ≤ 48) (f68 : 1 * x14 + ((-1) * x5 + 0) ≤ 0) (f69 : (-1) * x14 + (1 * x5 + 0) ≤ 0) (f70 : x10 = x1 + x9) (f71 : x8 = x6 - x7) (f72 : x6 = x4 - x1) (fe_0_0_1 : nodes_0 = nodes_1) (fe_0_1_1 : edges_0 = x28) (hE_0_7_1 : ∀ j : Int, tail_0 j = tail_1 j) (hK_0_7 : ∀ j : Int, 0 ≤ j → j < 48 → 0 ≤ tail_0 j ∧ tail_0 j ≤ 23) (hE_0_8_1 : ∀ j : Int, head_0 j = head_1 j) (hK_0_8 : ∀ j : Int, 0 ≤ j → j < 48 → 0 ≤ head_0 j ∧ head_0 j ≤ 23) (kz_0_0 : 0 ≤ nodes_0 ∧ nodes_0 ≤ 24) (kz_0_1 : 0 ≤ edges_0 ∧ edges_0 ≤ 48) : GKE (nodes_0) (edges_0) (tail_0) (head_0) := by
  subst fe_0_0_1
  have e_hE_0_7_1 := funext hE_0_7_1; subst e_hE_0_7_1
  have e_hE_0_8_1 := funext hE_0_8_1; subst e_hE_0_8_1
  first
    | assumption
    | exact gke_rh ‹RH2n _ _ _ _ _ _ _ _ _› (by omega) (by omega)
    | exact gke_rh ‹RH2 _ _ _ _ _ _ _ _› (by omega) (by omega)
  
set_option maxHeartbeats 4000000 in
theorem vc_Gr_removeEdge_at_gn_5_1 (x1 : Int) (x4 : Int) (x5 : Int) (x6 : Int) (x7 : Int) (x8 : Int) (x9 : Int) (x10 : Int) (x12 : Int) (x13 : Int) (x14 : Int) (x15 : Int) (x16 : Int) (x18 : Int) (x19 : Int) (x20 : Int) (x22 : Int) (x23 : Int) (x25 : Int) (x26 : Int) (x27 : Int) (x28 : Int) (edges_0 : Int) (nodes_0 : Int) (head_0 : Int → Int) (tail_0 : Int → Int) (edges_1 : Int) (nodes_1 : Int) (head_1 : Int → Int) (tail_1 : Int → Int) (k1 : 0 ≤ x1 ∧ x1 ≤ 47) (k4 : 1 ≤ x4 ∧ x4 ≤ 48) (k5 : 0 ≤ x5 ∧ x5 ≤ 23) (k6 : (-46) ≤ x6 ∧ x6 ≤ 48) (k7 : 1 ≤ x7 ∧ x7 ≤ 1) (k8 : 0 ≤ x8 ∧ x8 ≤ 47) (k9 : 1 ≤ x9 ∧ x9 ≤ 1) (k10 : 1 ≤ x10 ∧ x10 ≤ 48) (k12 : 0 ≤ x12 ∧ x12 ≤ 24) (k13 : 0 ≤ x13 ∧ x13 ≤ 48) (k14 : 0 ≤ x14 ∧ x14 ≤ 23) (k15 : 1 ≤ x15 ∧ x15 ≤ 1) (k16 : 1 ≤ x16 ∧ x16 ≤ 48) (k18 : 0 ≤ x18 ∧ x18 ≤ 24) (k19 : 0 ≤ x19 ∧ x19 ≤ 48) (k20 : 0 ≤ x20 ∧ x20 ≤ 23) (k22 : 1 ≤ x22 ∧ x22 ≤ 1) (k23 : 1 ≤ x23 ∧ x23 ≤ 48) (k25 : 1 ≤ x25 ∧ x25 ≤ 1) (k26 : 1 ≤ x26 ∧ x26 ≤ 48) (k27 : 1 ≤ x27 ∧ x27 ≤ 1) (k28 : 0 ≤ x28 ∧ x28 ≤ 47) (d0 : x4 + (-1) ≤ x28 ∧ x28 ≤ x4 + (-1)) (d1 : x1 + 1 ≤ x26 ∧ x26 ≤ x1 + 1) (d2 : x1 + 1 ≤ x23 ∧ x23 ≤ x1 + 1) (d3 : x1 + 1 ≤ x16 ∧ x16 ≤ x1 + 1) (d4 : x1 + 1 ≤ x10 ∧ x10 ≤ x1 + 1) (d5 : x6 + (-1) ≤ x8 ∧ x8 ≤ x6 + (-1)) (d6 : x4 + (-48) ≤ x8 ∧ x8 ≤ x4 + (-1)) (d7 : x4 + (-47) ≤ x6 ∧ x6 ≤ x4 + 0) (g0 : x28 = edges_0) (f3 : x26 + x8 ≤ 48) (f4 : x23 + x8 ≤ 48) (f5 : x16 + x8 ≤ 48) (f7 : x18 = nodes_0) (f8 : 1 * x20 + ((-1) * x5 + 0) ≤ 0) (f9 : (-1) * x20 + (1 * x5 + 0) ≤ 0) (f10 : x10 + x8 ≤ 48) (f11 : x1 + x8 ≤ 48) (f13 : x12 = nodes_0) (f14 : 1 * x14 + ((-1) * x5 + 0) ≤ 0) (f15 : (-1) * x14 + (1 * x5 + 0) ≤ 0) (f16 : RH2n (head_0) (head_0) (tail_0) (x16) (x1) (x8) (x18) (x19) (x20)) (f18 : x28 = x4 - x27) (g19 : x4 = edges_1) (f20 : x26 + x8 ≤ 48) (f21 : x23 + x8 ≤ 48) (f22 : x16 + x8 ≤ 48) (f23 : x18 = nodes_1) (f24 : x19 = edges_1) (f25 : 1 * x20 + ((-1) * x5 + 0) ≤ 0) (f26 : (-1) * x20 + (1 * x5 + 0) ≤ 0) (f27 : x10 + x8 ≤ 48) (f28 : x1 + x8 ≤ 48) (f29 : x12 = nodes_1) (f30 : x13 = edges_1) (f31 : 1 * x14 + ((-1) * x5 + 0) ≤ 0) (f32 : (-1) * x14 + (1 * x5 + 0) ≤ 0) (f33 : (0 ≤ x1) ∧ ((x1 + 1) ≤ edges_1)) (f34 : RH2n (head_1) (head_1) (tail_1) (x16) (x1) (x8) (x18) (x19) (x20)) (f36 : x26 + x8 ≤ 48) (f37 : x26 = x1 + x25) (f38 : x23 + x8 ≤ 48) (f39 : x16 + x8 ≤ 48) (f40 : 1 * x20 + ((-1) * x5 + 0) ≤ 0) (f41 : (-1) * x20 + (1 * x5 + 0) ≤ 0) (f42 : x10 + x8 ≤ 48) (f43 : x1 + x8 ≤ 48) (f44 : 1 * x14 + ((-1) * x5 + 0) ≤ 0) (f45 : (-1) * x14 + (1 * x5 + 0) ≤ 0) (f47 : x23 + x8 ≤ 48) (f48 : x23 = x1 + x22) (f49 : x16 + x8 ≤ 48) (f50 : 1 * x20 + ((-1) * x5 + 0) ≤ 0) (f51 : (-1) * x20 + (1 * x5 + 0) ≤ 0) (f52 : x10 + x8 ≤ 48) (f53 : x1 + x8 ≤ 48) (f54 : 1 * x14 + ((-1) * x5 + 0) ≤ 0) (f55 : (-1) * x14 + (1 * x5 + 0) ≤ 0) (f57 : x16 + x8 ≤ 48) (f58 : 1 * x20 + ((-1) * x5 + 0) ≤ 0) (f59 : (-1) * x20 + (1 * x5 + 0) ≤ 0) (f60 : x16 = x1 + x15) (f61 : x10 + x8 ≤ 48) (f62 : x1 + x8 ≤ 48) (f63 : 1 * x14 + ((-1) * x5 + 0) ≤ 0) (f64 : (-1) * x14 + (1 * x5 + 0) ≤ 0) (f66 : x10 + x8 ≤ 48) (f67 : x1 + x8 ≤ 48) (f68 : 1 * x14 + ((-1) * x5 + 0) ≤ 0) (f69 : (-1) * x14 + (1 * x5 + 0) ≤ 0) (f70 : x10 = x1 + x9) (f71 : x8 = x6 - x7) (f72 : x6 = x4 - x1) (fe_0_0_1 : nodes_0 = nodes_1) (fe_0_1_1 : edges_0 = x28) (hE_0_7_1 : ∀ j : Int, tail_0 j = tail_1 j) (hK_0_7 : ∀ j : Int, 0 ≤ j → j < 48 → 0 ≤ tail_0 j ∧ tail_0 j ≤ 23) (hE_0_8_1 : ∀ j : Int, head_0 j = head_1 j) (hK_0_8 : ∀ j : Int, 0 ≤ j → j < 48 → 0 ≤ head_0 j ∧ head_0 j ≤ 23) (kz_0_0 : 0 ≤ nodes_0 ∧ nodes_0 ≤ 24) (kz_0_1 : 0 ≤ edges_0 ∧ edges_0 ≤ 48) : NOS (edges_0) (tail_0) (head_0) (x1) (x5) := by
  subst fe_0_0_1
  have e_hE_0_7_1 := funext hE_0_7_1; subst e_hE_0_7_1
  have e_hE_0_8_1 := funext hE_0_8_1; subst e_hE_0_8_1
  first
    | assumption
    | exact nos_rh ‹RH2n _ _ _ _ _ _ _ _ _› (by omega) (by omega) (by omega)
  
set_option maxHeartbeats 4000000 in
theorem vc_Gr_removeEdge_at_gn_5_2 (x1 : Int) (x4 : Int) (x5 : Int) (x6 : Int) (x7 : Int) (x8 : Int) (x9 : Int) (x10 : Int) (x12 : Int) (x13 : Int) (x14 : Int) (x15 : Int) (x16 : Int) (x18 : Int) (x19 : Int) (x20 : Int) (x22 : Int) (x23 : Int) (x25 : Int) (x26 : Int) (x27 : Int) (x28 : Int) (edges_0 : Int) (nodes_0 : Int) (head_0 : Int → Int) (tail_0 : Int → Int) (edges_1 : Int) (nodes_1 : Int) (head_1 : Int → Int) (tail_1 : Int → Int) (k1 : 0 ≤ x1 ∧ x1 ≤ 47) (k4 : 1 ≤ x4 ∧ x4 ≤ 48) (k5 : 0 ≤ x5 ∧ x5 ≤ 23) (k6 : (-46) ≤ x6 ∧ x6 ≤ 48) (k7 : 1 ≤ x7 ∧ x7 ≤ 1) (k8 : 0 ≤ x8 ∧ x8 ≤ 47) (k9 : 1 ≤ x9 ∧ x9 ≤ 1) (k10 : 1 ≤ x10 ∧ x10 ≤ 48) (k12 : 0 ≤ x12 ∧ x12 ≤ 24) (k13 : 0 ≤ x13 ∧ x13 ≤ 48) (k14 : 0 ≤ x14 ∧ x14 ≤ 23) (k15 : 1 ≤ x15 ∧ x15 ≤ 1) (k16 : 1 ≤ x16 ∧ x16 ≤ 48) (k18 : 0 ≤ x18 ∧ x18 ≤ 24) (k19 : 0 ≤ x19 ∧ x19 ≤ 48) (k20 : 0 ≤ x20 ∧ x20 ≤ 23) (k22 : 1 ≤ x22 ∧ x22 ≤ 1) (k23 : 1 ≤ x23 ∧ x23 ≤ 48) (k25 : 1 ≤ x25 ∧ x25 ≤ 1) (k26 : 1 ≤ x26 ∧ x26 ≤ 48) (k27 : 1 ≤ x27 ∧ x27 ≤ 1) (k28 : 0 ≤ x28 ∧ x28 ≤ 47) (d0 : x4 + (-1) ≤ x28 ∧ x28 ≤ x4 + (-1)) (d1 : x1 + 1 ≤ x26 ∧ x26 ≤ x1 + 1) (d2 : x1 + 1 ≤ x23 ∧ x23 ≤ x1 + 1) (d3 : x1 + 1 ≤ x16 ∧ x16 ≤ x1 + 1) (d4 : x1 + 1 ≤ x10 ∧ x10 ≤ x1 + 1) (d5 : x6 + (-1) ≤ x8 ∧ x8 ≤ x6 + (-1)) (d6 : x4 + (-48) ≤ x8 ∧ x8 ≤ x4 + (-1)) (d7 : x4 + (-47) ≤ x6 ∧ x6 ≤ x4 + 0) (g0 : x28 = edges_0) (f3 : x26 + x8 ≤ 48) (f4 : x23 + x8 ≤ 48) (f5 : x16 + x8 ≤ 48) (f7 : x18 = nodes_0) (f8 : 1 * x20 + ((-1) * x5 + 0) ≤ 0) (f9 : (-1) * x20 + (1 * x5 + 0) ≤ 0) (f10 : x10 + x8 ≤ 48) (f11 : x1 + x8 ≤ 48) (f13 : x12 = nodes_0) (f14 : 1 * x14 + ((-1) * x5 + 0) ≤ 0) (f15 : (-1) * x14 + (1 * x5 + 0) ≤ 0) (f16 : RH2n (head_0) (head_0) (tail_0) (x16) (x1) (x8) (x18) (x19) (x20)) (f18 : x28 = x4 - x27) (g19 : x4 = edges_1) (f20 : x26 + x8 ≤ 48) (f21 : x23 + x8 ≤ 48) (f22 : x16 + x8 ≤ 48) (f23 : x18 = nodes_1) (f24 : x19 = edges_1) (f25 : 1 * x20 + ((-1) * x5 + 0) ≤ 0) (f26 : (-1) * x20 + (1 * x5 + 0) ≤ 0) (f27 : x10 + x8 ≤ 48) (f28 : x1 + x8 ≤ 48) (f29 : x12 = nodes_1) (f30 : x13 = edges_1) (f31 : 1 * x14 + ((-1) * x5 + 0) ≤ 0) (f32 : (-1) * x14 + (1 * x5 + 0) ≤ 0) (f33 : (0 ≤ x1) ∧ ((x1 + 1) ≤ edges_1)) (f34 : RH2n (head_1) (head_1) (tail_1) (x16) (x1) (x8) (x18) (x19) (x20)) (f36 : x26 + x8 ≤ 48) (f37 : x26 = x1 + x25) (f38 : x23 + x8 ≤ 48) (f39 : x16 + x8 ≤ 48) (f40 : 1 * x20 + ((-1) * x5 + 0) ≤ 0) (f41 : (-1) * x20 + (1 * x5 + 0) ≤ 0) (f42 : x10 + x8 ≤ 48) (f43 : x1 + x8 ≤ 48) (f44 : 1 * x14 + ((-1) * x5 + 0) ≤ 0) (f45 : (-1) * x14 + (1 * x5 + 0) ≤ 0) (f47 : x23 + x8 ≤ 48) (f48 : x23 = x1 + x22) (f49 : x16 + x8 ≤ 48) (f50 : 1 * x20 + ((-1) * x5 + 0) ≤ 0) (f51 : (-1) * x20 + (1 * x5 + 0) ≤ 0) (f52 : x10 + x8 ≤ 48) (f53 : x1 + x8 ≤ 48) (f54 : 1 * x14 + ((-1) * x5 + 0) ≤ 0) (f55 : (-1) * x14 + (1 * x5 + 0) ≤ 0) (f57 : x16 + x8 ≤ 48) (f58 : 1 * x20 + ((-1) * x5 + 0) ≤ 0) (f59 : (-1) * x20 + (1 * x5 + 0) ≤ 0) (f60 : x16 = x1 + x15) (f61 : x10 + x8 ≤ 48) (f62 : x1 + x8 ≤ 48) (f63 : 1 * x14 + ((-1) * x5 + 0) ≤ 0) (f64 : (-1) * x14 + (1 * x5 + 0) ≤ 0) (f66 : x10 + x8 ≤ 48) (f67 : x1 + x8 ≤ 48) (f68 : 1 * x14 + ((-1) * x5 + 0) ≤ 0) (f69 : (-1) * x14 + (1 * x5 + 0) ≤ 0) (f70 : x10 = x1 + x9) (f71 : x8 = x6 - x7) (f72 : x6 = x4 - x1) (fe_0_0_1 : nodes_0 = nodes_1) (fe_0_1_1 : edges_0 = x28) (hE_0_7_1 : ∀ j : Int, tail_0 j = tail_1 j) (hK_0_7 : ∀ j : Int, 0 ≤ j → j < 48 → 0 ≤ tail_0 j ∧ tail_0 j ≤ 23) (hE_0_8_1 : ∀ j : Int, head_0 j = head_1 j) (hK_0_8 : ∀ j : Int, 0 ≤ j → j < 48 → 0 ≤ head_0 j ∧ head_0 j ≤ 23) (kz_0_0 : 0 ≤ nodes_0 ∧ nodes_0 ≤ 24) (kz_0_1 : 0 ≤ edges_0 ∧ edges_0 ≤ 48) : x1 ≤ edges_0 := by
  subst fe_0_0_1
  have e_hE_0_7_1 := funext hE_0_7_1; subst e_hE_0_7_1
  have e_hE_0_8_1 := funext hE_0_8_1; subst e_hE_0_8_1
  first
    | omega
  
def o_Gr_removeEdge_at_gn_5 : or_T := (83, 29, [(0, (2, 0, 0, [3])), (1, (0, 0, 47, [])), (4, (0, 1, 48, [])), (5, (0, 0, 23, [])), (6, (0, -46, 48, [])), (7, (0, 1, 1, [])), (8, (0, 0, 47, [])), (9, (0, 1, 1, [])), (10, (0, 1, 48, [])), (12, (0, 0, 24, [])), (13, (0, 0, 48, [])), (14, (0, 0, 23, [])), (15, (0, 1, 1, [])), (16, (0, 1, 48, [])), (18, (0, 0, 24, [])), (19, (0, 0, 48, [])), (20, (0, 0, 23, [])), (22, (0, 1, 1, [])), (23, (0, 1, 48, [])), (25, (0, 1, 1, [])), (26, (0, 1, 48, [])), (27, (0, 1, 1, [])), (28, (0, 0, 47, []))], [(9, [28, 0], [1]), (9, [2, 0], [7]), (9, [3, 0], [8]), (21, [26, 8], [48]), (21, [23, 8], [48]), (21, [16, 8], [48]), (24, [2, 17], []), (20, [18, 0], [50, 1, 0, 1000, 1, 2, 1, 0, 2, 1, 0]), (23, [20, 5], [0, 1, -1]), (23, [20, 5], [0, -1, 1]), (21, [10, 8], [48]), (21, [1, 8], [48]), (20, [12, 0], [50, 1, 0, 1000, 1, 2, 1, 0, 2, 1, 0]), (23, [14, 5], [0, 1, -1]), (23, [14, 5], [0, -1, 1]), (20, [3, 3, 17, 16, 1, 8, 18, 19, 20], [61, 3, 756]), (101, [0, 28], [1]), (2, [28, 4, 27], []), (9, [4, 0], [1]), (21, [26, 8], [48]), (21, [23, 8], [48]), (21, [16, 8], [48]), (20, [18, 0], [50, 1, 0, 1000, 1, 2, 1, 0, 2, 1, 0]), (20, [19, 0], [50, 1, 0, 1001, 1, 2, 1, 0, 2, 1, 1]), (23, [20, 5], [0, 1, -1]), (23, [20, 5], [0, -1, 1]), (21, [10, 8], [48]), (21, [1, 8], [48]), (20, [12, 0], [50, 1, 0, 1000, 1, 2, 1, 0, 2, 1, 0]), (20, [13, 0], [50, 1, 0, 1001, 1, 2, 1, 0, 2, 1, 1]), (23, [14, 5], [0, 1, -1]), (23, [14, 5], [0, -1, 1]), (20, [1, 0], [50, 1, 0, 1001, 2, 6, 0, 2, 0, 0, 1, 0, 0, 6, 4, 2, 1, 0, 0, 1, 2, 1, 1]), (20, [3, 3, 17, 16, 1, 8, 18, 19, 20], [61, 3, 756]), (102, [26], [36028797018963968]), (21, [26, 8], [48]), (1, [26, 1, 25], []), (21, [23, 8], [48]), (21, [16, 8], [48]), (23, [20, 5], [0, 1, -1]), (23, [20, 5], [0, -1, 1]), (21, [10, 8], [48]), (21, [1, 8], [48]), (23, [14, 5], [0, 1, -1]), (23, [14, 5], [0, -1, 1]), (102, [23], [18014398509481984]), (21, [23, 8], [48]), (1, [23, 1, 22], []), (21, [16, 8], [48]), (23, [20, 5], [0, 1, -1]), (23, [20, 5], [0, -1, 1]), (21, [10, 8], [48]), (21, [1, 8], [48]), (23, [14, 5], [0, 1, -1]), (23, [14, 5], [0, -1, 1]), (102, [20], [9007199254740992]), (21, [16, 8], [48]), (23, [20, 5], [0, 1, -1]), (23, [20, 5], [0, -1, 1]), (1, [16, 1, 15], []), (21, [10, 8], [48]), (21, [1, 8], [48]), (23, [14, 5], [0, 1, -1]), (23, [14, 5], [0, -1, 1]), (102, [14], [4503599627370496]), (21, [10, 8], [48]), (21, [1, 8], [48]), (23, [14, 5], [0, 1, -1]), (23, [14, 5], [0, -1, 1]), (1, [10, 1, 9], []), (2, [8, 6, 7], []), (2, [6, 4, 1], [])], [], [], [(20, [0], [60, 2, 2, 596, 0, 1, 7, 8]), (20, [0, 1, 5], [60, 1, 2, 758, 1, 7, 8]), (20, [1, 0], [50, 1, 0, 1001, 0, 2, 1, 0, 2, 1, 1])], [], [(28, 4, -1, -1), (26, 1, 1, 1), (23, 1, 1, 1), (16, 1, 1, 1), (10, 1, 1, 1), (8, 6, -1, -1), (8, 4, -48, -1), (6, 4, -47, 0)])
theorem oo_Gr_removeEdge_at_gn_5 {kA : Nat → ClassId} : or_ok PRD kA GG o_Gr_removeEdge_at_gn_5 := by
  refine or_mk fun A ta ws vs hD hth hl => ?_
  intro t0 r0 t1 k1 t4 k4 t5 k5 t6 k6 t7 k7 t8 k8 t9 k9 t10 k10 t12 k12 t13 k13 t14 k14 t15 k15 t16 k16 t18 k18 t19 k19 t20 k20 t22 k22 t23 k23 t25 k25 t26 k26 t27 k27 t28 k28 d0 d1 d2 d3 d4 d5 d6 d7 f0 f1 f2 f3 f4 f5 f6 f7 f8 f9 f10 f11 f13 f14 f15 f16 ta1 w1 le1 s1 f18 f19 f20 f21 f22 f23 f24 f25 f26 f27 f28 f29 f30 f31 f32 f33 f34 ta2 w2 le2 s2 f36 f37 f38 f39 f40 f41 f42 f43 f44 f45 ta3 w3 le3 s3 f47 f48 f49 f50 f51 f52 f53 f54 f55 ta4 w4 le4 s4 f57 f58 f59 f60 f61 f62 f63 f64 ta5 w5 le5 s5 f66 f67 f68 f69 f70 f71 f72
  replace f0 := shm_127 f0
  replace f1 := shm_216 f1
  replace f2 := shm_143 f2
  replace f6 := shm_5 f6
  replace f16 := shm_835 f16
  have s1 : (∀ b j, w_el ws b j = w_el w1 b j) ∧ ∀ b j, w_fd ws b j = if b = v_ad (n_v vs 0) ∧ j = 1 then n_v vs 28 else w_fd w1 b j := s1.2
  replace f19 := shm_127 f19
  replace f34 := shm_835 f34
  have q17 : n_v vs 17 = n_v vs 2 := f6.symm
  simp only [q17] at f16 f34
  have cr_0_7 := fdq_52 hD hth r0
  have cr_0_8 := fdq_53 hD hth r0
  have ad_2 : v_ad (n_v vs 2) = w_ar ws (n_v vs 0) 7 := congrArg v_ad f1
  have ad_3 : v_ad (n_v vs 3) = w_ar ws (n_v vs 0) 8 := congrArg v_ad f2
  have g0 : v_iv (n_v vs 28) = w_fi ws (n_v vs 0) 1 := congrArg v_iv f0
  simp only [ad_2, ad_3] at f16
  have g19 : v_iv (n_v vs 4) = w_fi w1 (n_v vs 0) 1 := congrArg v_iv f19
  simp only [ad_2, ad_3] at f34
  have fe_0_0_1 : w_fi ws (n_v vs 0) 0 = w_fi w1 (n_v vs 0) 0 := by show v_iv (w_fd _ _ _) = v_iv (w_fd _ _ _); rw [s1.2, if_neg (fun e => absurd e.2 (by decide))]
  have fe_0_1_1 : w_fi ws (n_v vs 0) 1 = v_iv (n_v vs 28) := by show v_iv (w_fd _ _ _) = _; rw [s1.2, if_pos ⟨rfl, rfl⟩]
  have hE_0_7_1 : ∀ j : Int, w_ei ws (w_ar ws (n_v vs 0) 7) j = w_ei w1 (w_ar ws (n_v vs 0) 7) j := fun j => s1.1 _ _
  have hK_0_7 := elq_10 hD hth cr_0_7
  have hE_0_8_1 : ∀ j : Int, w_ei ws (w_ar ws (n_v vs 0) 8) j = w_ei w1 (w_ar ws (n_v vs 0) 8) j := fun j => s1.1 _ _
  have hK_0_8 := elq_11 hD hth cr_0_8
  have kz_0_0 := fdq_23 hD hth r0
  have kz_0_1 := fdq_38 hD hth r0
  have nf0 : fc_1 PRD (20, [0], [60, 2, 2, 596, 0, 1, 7, 8]) ws (vs) := ⟨nf_in hl rfl, sgq_401 (vc_Gr_removeEdge_at_gn_5_0 (v_iv (n_v vs 1)) (v_iv (n_v vs 4)) (v_iv (n_v vs 5)) (v_iv (n_v vs 6)) (v_iv (n_v vs 7)) (v_iv (n_v vs 8)) (v_iv (n_v vs 9)) (v_iv (n_v vs 10)) (v_iv (n_v vs 12)) (v_iv (n_v vs 13)) (v_iv (n_v vs 14)) (v_iv (n_v vs 15)) (v_iv (n_v vs 16)) (v_iv (n_v vs 18)) (v_iv (n_v vs 19)) (v_iv (n_v vs 20)) (v_iv (n_v vs 22)) (v_iv (n_v vs 23)) (v_iv (n_v vs 25)) (v_iv (n_v vs 26)) (v_iv (n_v vs 27)) (v_iv (n_v vs 28)) (w_fi ws (n_v vs 0) 1) (w_fi ws (n_v vs 0) 0) (w_ei ws (w_ar ws (n_v vs 0) 8)) (w_ei ws (w_ar ws (n_v vs 0) 7)) (w_fi w1 (n_v vs 0) 1) (w_fi w1 (n_v vs 0) 0) (w_ei w1 (w_ar ws (n_v vs 0) 8)) (w_ei w1 (w_ar ws (n_v vs 0) 7)) k1 k4 k5 k6 k7 k8 k9 k10 k12 k13 k14 k15 k16 k18 k19 k20 k22 k23 k25 k26 k27 k28 d0 d1 d2 d3 d4 d5 d6 d7 g0 (shm_829 f3) (shm_829 f4) (shm_829 f5) (shm_830 f7) (shm_7 f8) (shm_22 f9) (shm_829 f10) (shm_829 f11) (shm_830 f13) (shm_7 f14) (shm_22 f15) f16 (shm_14 f18) g19 (shm_829 f20) (shm_829 f21) (shm_829 f22) (shm_830 f23) (shm_831 f24) (shm_7 f25) (shm_22 f26) (shm_829 f27) (shm_829 f28) (shm_830 f29) (shm_831 f30) (shm_7 f31) (shm_22 f32) (shm_402 f33) f34 (shm_829 f36) (shm_12 f37) (shm_829 f38) (shm_829 f39) (shm_7 f40) (shm_22 f41) (shm_829 f42) (shm_829 f43) (shm_7 f44) (shm_22 f45) (shm_829 f47) (shm_12 f48) (shm_829 f49) (shm_7 f50) (shm_22 f51) (shm_829 f52) (shm_829 f53) (shm_7 f54) (shm_22 f55) (shm_829 f57) (shm_7 f58) (shm_22 f59) (shm_12 f60) (shm_829 f61) (shm_829 f62) (shm_7 f63) (shm_22 f64) (shm_829 f66) (shm_829 f67) (shm_7 f68) (shm_22 f69) (shm_12 f70) (shm_14 f71) (shm_14 f72) fe_0_0_1 fe_0_1_1 hE_0_7_1 hK_0_7 hE_0_8_1 hK_0_8 kz_0_0 kz_0_1)⟩
  have nf1 : fc_1 PRD (20, [0, 1, 5], [60, 1, 2, 758, 1, 7, 8]) ws (vs) := ⟨nf_in hl rfl, sgq_836 (vc_Gr_removeEdge_at_gn_5_1 (v_iv (n_v vs 1)) (v_iv (n_v vs 4)) (v_iv (n_v vs 5)) (v_iv (n_v vs 6)) (v_iv (n_v vs 7)) (v_iv (n_v vs 8)) (v_iv (n_v vs 9)) (v_iv (n_v vs 10)) (v_iv (n_v vs 12)) (v_iv (n_v vs 13)) (v_iv (n_v vs 14)) (v_iv (n_v vs 15)) (v_iv (n_v vs 16)) (v_iv (n_v vs 18)) (v_iv (n_v vs 19)) (v_iv (n_v vs 20)) (v_iv (n_v vs 22)) (v_iv (n_v vs 23)) (v_iv (n_v vs 25)) (v_iv (n_v vs 26)) (v_iv (n_v vs 27)) (v_iv (n_v vs 28)) (w_fi ws (n_v vs 0) 1) (w_fi ws (n_v vs 0) 0) (w_ei ws (w_ar ws (n_v vs 0) 8)) (w_ei ws (w_ar ws (n_v vs 0) 7)) (w_fi w1 (n_v vs 0) 1) (w_fi w1 (n_v vs 0) 0) (w_ei w1 (w_ar ws (n_v vs 0) 8)) (w_ei w1 (w_ar ws (n_v vs 0) 7)) k1 k4 k5 k6 k7 k8 k9 k10 k12 k13 k14 k15 k16 k18 k19 k20 k22 k23 k25 k26 k27 k28 d0 d1 d2 d3 d4 d5 d6 d7 g0 (shm_829 f3) (shm_829 f4) (shm_829 f5) (shm_830 f7) (shm_7 f8) (shm_22 f9) (shm_829 f10) (shm_829 f11) (shm_830 f13) (shm_7 f14) (shm_22 f15) f16 (shm_14 f18) g19 (shm_829 f20) (shm_829 f21) (shm_829 f22) (shm_830 f23) (shm_831 f24) (shm_7 f25) (shm_22 f26) (shm_829 f27) (shm_829 f28) (shm_830 f29) (shm_831 f30) (shm_7 f31) (shm_22 f32) (shm_402 f33) f34 (shm_829 f36) (shm_12 f37) (shm_829 f38) (shm_829 f39) (shm_7 f40) (shm_22 f41) (shm_829 f42) (shm_829 f43) (shm_7 f44) (shm_22 f45) (shm_829 f47) (shm_12 f48) (shm_829 f49) (shm_7 f50) (shm_22 f51) (shm_829 f52) (shm_829 f53) (shm_7 f54) (shm_22 f55) (shm_829 f57) (shm_7 f58) (shm_22 f59) (shm_12 f60) (shm_829 f61) (shm_829 f62) (shm_7 f63) (shm_22 f64) (shm_829 f66) (shm_829 f67) (shm_7 f68) (shm_22 f69) (shm_12 f70) (shm_14 f71) (shm_14 f72) fe_0_0_1 fe_0_1_1 hE_0_7_1 hK_0_7 hE_0_8_1 hK_0_8 kz_0_0 kz_0_1)⟩
  have nf2 : fc_1 PRD (20, [1, 0], [50, 1, 0, 1001, 0, 2, 1, 0, 2, 1, 1]) ws (vs) := ⟨nf_in hl rfl, sgq_477 (vc_Gr_removeEdge_at_gn_5_2 (v_iv (n_v vs 1)) (v_iv (n_v vs 4)) (v_iv (n_v vs 5)) (v_iv (n_v vs 6)) (v_iv (n_v vs 7)) (v_iv (n_v vs 8)) (v_iv (n_v vs 9)) (v_iv (n_v vs 10)) (v_iv (n_v vs 12)) (v_iv (n_v vs 13)) (v_iv (n_v vs 14)) (v_iv (n_v vs 15)) (v_iv (n_v vs 16)) (v_iv (n_v vs 18)) (v_iv (n_v vs 19)) (v_iv (n_v vs 20)) (v_iv (n_v vs 22)) (v_iv (n_v vs 23)) (v_iv (n_v vs 25)) (v_iv (n_v vs 26)) (v_iv (n_v vs 27)) (v_iv (n_v vs 28)) (w_fi ws (n_v vs 0) 1) (w_fi ws (n_v vs 0) 0) (w_ei ws (w_ar ws (n_v vs 0) 8)) (w_ei ws (w_ar ws (n_v vs 0) 7)) (w_fi w1 (n_v vs 0) 1) (w_fi w1 (n_v vs 0) 0) (w_ei w1 (w_ar ws (n_v vs 0) 8)) (w_ei w1 (w_ar ws (n_v vs 0) 7)) k1 k4 k5 k6 k7 k8 k9 k10 k12 k13 k14 k15 k16 k18 k19 k20 k22 k23 k25 k26 k27 k28 d0 d1 d2 d3 d4 d5 d6 d7 g0 (shm_829 f3) (shm_829 f4) (shm_829 f5) (shm_830 f7) (shm_7 f8) (shm_22 f9) (shm_829 f10) (shm_829 f11) (shm_830 f13) (shm_7 f14) (shm_22 f15) f16 (shm_14 f18) g19 (shm_829 f20) (shm_829 f21) (shm_829 f22) (shm_830 f23) (shm_831 f24) (shm_7 f25) (shm_22 f26) (shm_829 f27) (shm_829 f28) (shm_830 f29) (shm_831 f30) (shm_7 f31) (shm_22 f32) (shm_402 f33) f34 (shm_829 f36) (shm_12 f37) (shm_829 f38) (shm_829 f39) (shm_7 f40) (shm_22 f41) (shm_829 f42) (shm_829 f43) (shm_7 f44) (shm_22 f45) (shm_829 f47) (shm_12 f48) (shm_829 f49) (shm_7 f50) (shm_22 f51) (shm_829 f52) (shm_829 f53) (shm_7 f54) (shm_22 f55) (shm_829 f57) (shm_7 f58) (shm_22 f59) (shm_12 f60) (shm_829 f61) (shm_829 f62) (shm_7 f63) (shm_22 f64) (shm_829 f66) (shm_829 f67) (shm_7 f68) (shm_22 f69) (shm_12 f70) (shm_14 f71) (shm_14 f72) fe_0_0_1 fe_0_1_1 hE_0_7_1 hK_0_7 hE_0_8_1 hK_0_8 kz_0_0 kz_0_1)⟩
  refine ⟨(fun _ h => (by cases h)), [], trivial, ?_, (fun _ h => (by cases h))⟩
  rw [List.append_nil]
  exact List.forall_mem_cons.mpr ⟨⟨show (20 : Nat) < 100 from by decide, nf0⟩, List.forall_mem_cons.mpr ⟨⟨show (20 : Nat) < 100 from by decide, nf1⟩, List.forall_mem_cons.mpr ⟨⟨show (20 : Nat) < 100 from by decide, nf2⟩, (fun _ h => (by cases h))⟩⟩⟩
def n_Gr_removeEdge_at_gn_an : List an_T := []
def t_Gr_removeEdge_at_gn_ct : ct_L := [(69, 77, e_acp_3), (117, 77, e_acp_4), (165, 77, e_acp_5), (213, 77, e_acp_6)]
set_option maxRecDepth 100000 in
theorem c_Gr_removeEdge_at_gn {l : Launch} {D : va_G} {kA : Nat → ClassId} : ct_ok PRD l D kA GG y_Gr_removeEdge_at_gn z_Gr_removeEdge_at_gn e_Gr_removeEdge_at_gn := chk_all_ok (FT := [(15, 3, 1), (35, 3, 7), (38, 3, 8), (41, 3, 9), (44, 3, 10)]) (PT := [(15, 3, 1, .int)]) (CT := t_Gr_removeEdge_at_gn_ct) (KT := []) (NT := []) (AN := n_Gr_removeEdge_at_gn_an) (OT := [o_Gr_removeEdge_at_gn_0, o_Gr_removeEdge_at_gn_1, o_Gr_removeEdge_at_gn_2, o_Gr_removeEdge_at_gn_3, o_Gr_removeEdge_at_gn_4, o_Gr_removeEdge_at_gn_5]) 0 216 (List.forall_mem_cons.mpr ⟨oo_Gr_removeEdge_at_gn_0, List.forall_mem_cons.mpr ⟨oo_Gr_removeEdge_at_gn_1, List.forall_mem_cons.mpr ⟨oo_Gr_removeEdge_at_gn_2, List.forall_mem_cons.mpr ⟨oo_Gr_removeEdge_at_gn_3, List.forall_mem_cons.mpr ⟨oo_Gr_removeEdge_at_gn_4, List.forall_mem_cons.mpr ⟨oo_Gr_removeEdge_at_gn_5, List.forall_mem_nil _⟩⟩⟩⟩⟩⟩) (by decide +kernel) ⟨List.forall_mem_cons.mpr ⟨gf_Gr_15, List.forall_mem_cons.mpr ⟨gf_Gr_35, List.forall_mem_cons.mpr ⟨gf_Gr_38, List.forall_mem_cons.mpr ⟨gf_Gr_41, List.forall_mem_cons.mpr ⟨gf_Gr_44, List.forall_mem_nil _⟩⟩⟩⟩⟩, List.forall_mem_cons.mpr ⟨pf_Gr_15, List.forall_mem_nil _⟩, List.forall_mem_cons.mpr ⟨cl_copyU (na := 3) rfl rfl (by decide) (Or.inl (by decide)) (fun U U_zq xs sp dp n a b c d e f e1 e2 e3 h => rt1n_rt2n (U := U) (U_zq := U_zq) (xs := xs) (sp := sp) (dp := dp) (n := n) a b c d e f e1 e2 e3 h) wm_748 wm_750 wm_749 wm_15, List.forall_mem_cons.mpr ⟨cl_copyU (na := 3) rfl rfl (by decide) (Or.inl (by decide)) (fun U U_zq xs sp dp n a b c d e f e1 e2 e3 h => rh1n_rh2n (U := U) (U_zq := U_zq) (xs := xs) (sp := sp) (dp := dp) (n := n) a b c d e f e1 e2 e3 h) wm_748 wm_750 wm_749 wm_15, List.forall_mem_cons.mpr ⟨cl_copy rfl rfl (by decide) (by decide) (by decide) wm_748 wm_750 wm_749 wm_15, List.forall_mem_cons.mpr ⟨cl_copy rfl rfl (by decide) (by decide) (by decide) wm_748 wm_750 wm_749 wm_15, List.forall_mem_nil _⟩⟩⟩⟩, List.forall_mem_nil _, List.forall_mem_nil _, GG_pl⟩ (by decide +kernel)
set_option maxHeartbeats 4000000 in
theorem vc_Gr_removeEdge_at_gx_0_r0 (x1 : Int) (x4 : Int) (x5 : Int) (x6 : Int) (x7 : Int) (edges_0 : Int) (tail_0 : Int → Int) (head_0 : Int → Int) (nodes_0 : Int) (k1 : 0 ≤ x1 ∧ x1 ≤ 47) (k4 : 1 ≤ x4 ∧ x4 ≤ 48) (k5 : (-46) ≤ x5 ∧ x5 ≤ 48) (k6 : 1 ≤ x6 ∧ x6 ≤ 1) (k7 : (-47) ≤ x7 ∧ x7 ≤ 47) (d0 : x5 + (-1) ≤ x7 ∧ x7 ≤ x5 + (-1)) (d1 : x4 + (-48) ≤ x7 ∧ x7 ≤ x4 + (-1)) (d2 : x4 + (-47) ≤ x5 ∧ x5 ≤ x4 + 0) (f2 : x7 = x5 - x6) (f3 : x5 = x4 - x1) (g4 : x4 = edges_0) (f5 : (0 ≤ x1) ∧ ((x1 + 1) ≤ edges_0)) (f6 : GKE (nodes_0) (edges_0) (tail_0) (head_0)) (hK_0_7 : ∀ j : Int, 0 ≤ j → j < 48 → 0 ≤ tail_0 j ∧ tail_0 j ≤ 23) (hK_0_8 : ∀ j : Int, 0 ≤ j → j < 48 → 0 ≤ head_0 j ∧ head_0 j ≤ 23) (kz_0_0 : 0 ≤ nodes_0 ∧ nodes_0 ≤ 24) (kz_0_1 : 0 ≤ edges_0 ∧ edges_0 ≤ 48) : 0 ≤ x7 ∧ x7 ≤ 47 := by
  first
    | omega
  
def o_Gr_removeEdge_at_gx_0 : or_T := (8, 8, [(0, (2, 0, 0, [3])), (1, (0, 0, 47, [])), (2, (2, 0, 0, [52])), (3, (2, 0, 0, [53])), (4, (0, 1, 48, [])), (5, (0, -46, 48, [])), (6, (0, 1, 1, [])), (7, (0, -47, 47, []))], [(9, [2, 0], [7]), (9, [3, 0], [8]), (2, [7, 5, 6], []), (2, [5, 4, 1], []), (9, [4, 0], [1]), (20, [1, 0], [50, 1, 0, 1001, 2, 6, 0, 2, 0, 0, 1, 0, 0, 6, 4, 2, 1, 0, 0, 1, 2, 1, 1]), (20, [0], [60, 2, 2, 596, 0, 1, 7, 8])], [(7, (0, 0, 47, []))], [], [], [], [(7, 5, -1, -1), (7, 4, -48, -1), (5, 4, -47, 0)])
theorem oo_Gr_removeEdge_at_gx_0 {kA : Nat → ClassId} : or_ok PRD kA GG o_Gr_removeEdge_at_gx_0 := by
  refine or_mk fun A ta ws vs hD hth hl => ?_
  intro t0 r0 t1 k1 t2 r2 t3 r3 t4 k4 t5 k5 t6 k6 t7 k7 d0 d1 d2 f0 f1 f2 f3 f4 f5 f6
  replace f4 := shm_127 f4
  have cr_0_7 := fdq_52 hD hth r0
  have cr_0_8 := fdq_53 hD hth r0
  have g4 : v_iv (n_v vs 4) = w_fi ws (n_v vs 0) 1 := congrArg v_iv f4
  have hK_0_7 := elq_10 hD hth cr_0_7
  have hK_0_8 := elq_11 hD hth cr_0_8
  have kz_0_0 := fdq_23 hD hth r0
  have kz_0_1 := fdq_38 hD hth r0
  have hrf0 : 0 ≤ v_iv (n_v vs 7) ∧ v_iv (n_v vs 7) ≤ 47 := vc_Gr_removeEdge_at_gx_0_r0 (v_iv (n_v vs 1)) (v_iv (n_v vs 4)) (v_iv (n_v vs 5)) (v_iv (n_v vs 6)) (v_iv (n_v vs 7)) (w_fi ws (n_v vs 0) 1) (w_ei ws (w_ar ws (n_v vs 0) 7)) (w_ei ws (w_ar ws (n_v vs 0) 8)) (w_fi ws (n_v vs 0) 0) k1 k4 k5 k6 k7 d0 d1 d2 (shm_14 f2) (shm_14 f3) g4 (shm_402 f5) (shm_401 f6) hK_0_7 hK_0_8 kz_0_0 kz_0_1
  have rf7 : tv_ok ta (0, 0, 47, []) (n_v vs 7) := tv_in t7 (by first | omega | grind) (by first | omega | grind)
  refine ⟨List.forall_mem_cons.mpr ⟨rf7, (fun _ h => (by cases h))⟩, [], trivial, ?_, (fun _ h => (by cases h))⟩
  rw [List.append_nil]
  exact (fun _ h => (by cases h))
set_option maxHeartbeats 4000000 in
theorem vc_Gr_removeEdge_at_gx_1_0 (x1 : Int) (x4 : Int) (x5 : Int) (x6 : Int) (x7 : Int) (x8 : Int) (x9 : Int) (edges_0 : Int) (tail_0 : Int → Int) (head_0 : Int → Int) (nodes_0 : Int) (gy : Int) (gu : Int) (k1 : 0 ≤ x1 ∧ x1 ≤ 47) (k4 : 1 ≤ x4 ∧ x4 ≤ 48) (k5 : (-46) ≤ x5 ∧ x5 ≤ 48) (k6 : 1 ≤ x6 ∧ x6 ≤ 1) (k7 : 0 ≤ x7 ∧ x7 ≤ 47) (k8 : 1 ≤ x8 ∧ x8 ≤ 1) (k9 : 1 ≤ x9 ∧ x9 ≤ 48) (d0 : x1 + 1 ≤ x9 ∧ x9 ≤ x1 + 1) (d1 : x5 + (-1) ≤ x7 ∧ x7 ≤ x5 + (-1)) (d2 : x4 + (-48) ≤ x7 ∧ x7 ≤ x4 + (-1)) (d3 : x4 + (-47) ≤ x5 ∧ x5 ≤ x4 + 0) (f2 : x9 = x1 + x8) (f3 : x7 = x5 - x6) (f4 : x5 = x4 - x1) (g5 : x4 = edges_0) (f6 : (0 ≤ x1) ∧ ((x1 + 1) ≤ edges_0)) (f7 : GKE (nodes_0) (edges_0) (tail_0) (head_0)) (hK_0_7 : ∀ j : Int, 0 ≤ j → j < 48 → 0 ≤ tail_0 j ∧ tail_0 j ≤ 23) (hK_0_8 : ∀ j : Int, 0 ≤ j → j < 48 → 0 ≤ head_0 j ∧ head_0 j ≤ 23) (kz_0_0 : 0 ≤ nodes_0 ∧ nodes_0 ≤ 24) (kz_0_1 : 0 ≤ edges_0 ∧ edges_0 ≤ 48) (ey2 : gy = nodes_0) (ey3 : 0 ≤ gy ∧ gy ≤ 24) (eu2 : gu = edges_0) (eu3 : 0 ≤ gu ∧ gu ≤ 48) : x9 + x7 ≤ 48 := by
  first
    | omega
  
set_option maxHeartbeats 4000000 in
theorem vc_Gr_removeEdge_at_gx_1_1 (x1 : Int) (x4 : Int) (x5 : Int) (x6 : Int) (x7 : Int) (x8 : Int) (x9 : Int) (edges_0 : Int) (tail_0 : Int → Int) (head_0 : Int → Int) (nodes_0 : Int) (gy : Int) (gu : Int) (k1 : 0 ≤ x1 ∧ x1 ≤ 47) (k4 : 1 ≤ x4 ∧ x4 ≤ 48) (k5 : (-46) ≤ x5 ∧ x5 ≤ 48) (k6 : 1 ≤ x6 ∧ x6 ≤ 1) (k7 : 0 ≤ x7 ∧ x7 ≤ 47) (k8 : 1 ≤ x8 ∧ x8 ≤ 1) (k9 : 1 ≤ x9 ∧ x9 ≤ 48) (d0 : x1 + 1 ≤ x9 ∧ x9 ≤ x1 + 1) (d1 : x5 + (-1) ≤ x7 ∧ x7 ≤ x5 + (-1)) (d2 : x4 + (-48) ≤ x7 ∧ x7 ≤ x4 + (-1)) (d3 : x4 + (-47) ≤ x5 ∧ x5 ≤ x4 + 0) (f2 : x9 = x1 + x8) (f3 : x7 = x5 - x6) (f4 : x5 = x4 - x1) (g5 : x4 = edges_0) (f6 : (0 ≤ x1) ∧ ((x1 + 1) ≤ edges_0)) (f7 : GKE (nodes_0) (edges_0) (tail_0) (head_0)) (hK_0_7 : ∀ j : Int, 0 ≤ j → j < 48 → 0 ≤ tail_0 j ∧ tail_0 j ≤ 23) (hK_0_8 : ∀ j : Int, 0 ≤ j → j < 48 → 0 ≤ head_0 j ∧ head_0 j ≤ 23) (kz_0_0 : 0 ≤ nodes_0 ∧ nodes_0 ≤ 24) (kz_0_1 : 0 ≤ edges_0 ∧ edges_0 ≤ 48) (ey2 : gy = nodes_0) (ey3 : 0 ≤ gy ∧ gy ≤ 24) (eu2 : gu = edges_0) (eu3 : 0 ≤ gu ∧ gu ≤ 48) : x1 + x7 ≤ 48 := by
  first
    | omega
  
set_option maxHeartbeats 4000000 in
theorem vc_Gr_removeEdge_at_gx_1_3 (x1 : Int) (x4 : Int) (x5 : Int) (x6 : Int) (x7 : Int) (x8 : Int) (x9 : Int) (edges_0 : Int) (tail_0 : Int → Int) (head_0 : Int → Int) (nodes_0 : Int) (gy : Int) (gu : Int) (k1 : 0 ≤ x1 ∧ x1 ≤ 47) (k4 : 1 ≤ x4 ∧ x4 ≤ 48) (k5 : (-46) ≤ x5 ∧ x5 ≤ 48) (k6 : 1 ≤ x6 ∧ x6 ≤ 1) (k7 : 0 ≤ x7 ∧ x7 ≤ 47) (k8 : 1 ≤ x8 ∧ x8 ≤ 1) (k9 : 1 ≤ x9 ∧ x9 ≤ 48) (d0 : x1 + 1 ≤ x9 ∧ x9 ≤ x1 + 1) (d1 : x5 + (-1) ≤ x7 ∧ x7 ≤ x5 + (-1)) (d2 : x4 + (-48) ≤ x7 ∧ x7 ≤ x4 + (-1)) (d3 : x4 + (-47) ≤ x5 ∧ x5 ≤ x4 + 0) (f2 : x9 = x1 + x8) (f3 : x7 = x5 - x6) (f4 : x5 = x4 - x1) (g5 : x4 = edges_0) (f6 : (0 ≤ x1) ∧ ((x1 + 1) ≤ edges_0)) (f7 : GKE (nodes_0) (edges_0) (tail_0) (head_0)) (hK_0_7 : ∀ j : Int, 0 ≤ j → j < 48 → 0 ≤ tail_0 j ∧ tail_0 j ≤ 23) (hK_0_8 : ∀ j : Int, 0 ≤ j → j < 48 → 0 ≤ head_0 j ∧ head_0 j ≤ 23) (kz_0_0 : 0 ≤ nodes_0 ∧ nodes_0 ≤ 24) (kz_0_1 : 0 ≤ edges_0 ∧ edges_0 ≤ 48) (ey2 : gy = nodes_0) (ey3 : 0 ≤ gy ∧ gy ≤ 24) (eu2 : gu = edges_0) (eu3 : 0 ≤ gu ∧ gu ≤ 48) : gy = nodes_0 := by
  first
    | omega
  
set_option maxHeartbeats 4000000 in
theorem vc_Gr_removeEdge_at_gx_1_4 (x1 : Int) (x4 : Int) (x5 : Int) (x6 : Int) (x7 : Int) (x8 : Int) (x9 : Int) (edges_0 : Int) (tail_0 : Int → Int) (head_0 : Int → Int) (nodes_0 : Int) (gy : Int) (gu : Int) (k1 : 0 ≤ x1 ∧ x1 ≤ 47) (k4 : 1 ≤ x4 ∧ x4 ≤ 48) (k5 : (-46) ≤ x5 ∧ x5 ≤ 48) (k6 : 1 ≤ x6 ∧ x6 ≤ 1) (k7 : 0 ≤ x7 ∧ x7 ≤ 47) (k8 : 1 ≤ x8 ∧ x8 ≤ 1) (k9 : 1 ≤ x9 ∧ x9 ≤ 48) (d0 : x1 + 1 ≤ x9 ∧ x9 ≤ x1 + 1) (d1 : x5 + (-1) ≤ x7 ∧ x7 ≤ x5 + (-1)) (d2 : x4 + (-48) ≤ x7 ∧ x7 ≤ x4 + (-1)) (d3 : x4 + (-47) ≤ x5 ∧ x5 ≤ x4 + 0) (f2 : x9 = x1 + x8) (f3 : x7 = x5 - x6) (f4 : x5 = x4 - x1) (g5 : x4 = edges_0) (f6 : (0 ≤ x1) ∧ ((x1 + 1) ≤ edges_0)) (f7 : GKE (nodes_0) (edges_0) (tail_0) (head_0)) (hK_0_7 : ∀ j : Int, 0 ≤ j → j < 48 → 0 ≤ tail_0 j ∧ tail_0 j ≤ 23) (hK_0_8 : ∀ j : Int, 0 ≤ j → j < 48 → 0 ≤ head_0 j ∧ head_0 j ≤ 23) (kz_0_0 : 0 ≤ nodes_0 ∧ nodes_0 ≤ 24) (kz_0_1 : 0 ≤ edges_0 ∧ edges_0 ≤ 48) (ey2 : gy = nodes_0) (ey3 : 0 ≤ gy ∧ gy ≤ 24) (eu2 : gu = edges_0) (eu3 : 0 ≤ gu ∧ gu ≤ 48) : gu = edges_0 := by
  first
    | omega
  
set_option maxHeartbeats 4000000 in
theorem vc_Gr_removeEdge_at_gx_1_5 (x1 : Int) (x4 : Int) (x5 : Int) (x6 : Int) (x7 : Int) (x8 : Int) (x9 : Int) (edges_0 : Int) (tail_0 : Int → Int) (head_0 : Int → Int) (nodes_0 : Int) (gy : Int) (gu : Int) (k1 : 0 ≤ x1 ∧ x1 ≤ 47) (k4 : 1 ≤ x4 ∧ x4 ≤ 48) (k5 : (-46) ≤ x5 ∧ x5 ≤ 48) (k6 : 1 ≤ x6 ∧ x6 ≤ 1) (k7 : 0 ≤ x7 ∧ x7 ≤ 47) (k8 : 1 ≤ x8 ∧ x8 ≤ 1) (k9 : 1 ≤ x9 ∧ x9 ≤ 48) (d0 : x1 + 1 ≤ x9 ∧ x9 ≤ x1 + 1) (d1 : x5 + (-1) ≤ x7 ∧ x7 ≤ x5 + (-1)) (d2 : x4 + (-48) ≤ x7 ∧ x7 ≤ x4 + (-1)) (d3 : x4 + (-47) ≤ x5 ∧ x5 ≤ x4 + 0) (f2 : x9 = x1 + x8) (f3 : x7 = x5 - x6) (f4 : x5 = x4 - x1) (g5 : x4 = edges_0) (f6 : (0 ≤ x1) ∧ ((x1 + 1) ≤ edges_0)) (f7 : GKE (nodes_0) (edges_0) (tail_0) (head_0)) (hK_0_7 : ∀ j : Int, 0 ≤ j → j < 48 → 0 ≤ tail_0 j ∧ tail_0 j ≤ 23) (hK_0_8 : ∀ j : Int, 0 ≤ j → j < 48 → 0 ≤ head_0 j ∧ head_0 j ≤ 23) (kz_0_0 : 0 ≤ nodes_0 ∧ nodes_0 ≤ 24) (kz_0_1 : 0 ≤ edges_0 ∧ edges_0 ≤ 48) (ey2 : gy = nodes_0) (ey3 : 0 ≤ gy ∧ gy ≤ 24) (eu2 : gu = edges_0) (eu3 : 0 ≤ gu ∧ gu ≤ 48) : RT1 (tail_0) (tail_0) (head_0) (x9) (x1) (x7) (gy) (gu) := by
  first
    | exact rt1_of ‹GKE _ _ _ _› (by omega) (by omega) (by omega) (by omega) (by omega) (by omega)
  
def o_Gr_removeEdge_at_gx_1 : or_T := (22, 10, [(0, (2, 0, 0, [3])), (1, (0, 0, 47, [])), (3, (2, 0, 0, [53])), (4, (0, 1, 48, [])), (5, (0, -46, 48, [])), (6, (0, 1, 1, [])), (7, (0, 0, 47, [])), (8, (0, 1, 1, [])), (9, (0, 1, 48, []))], [(9, [3, 0], [8]), (9, [2, 0], [7]), (1, [9, 1, 8], []), (2, [7, 5, 6], []), (2, [5, 4, 1], []), (9, [4, 0], [1]), (20, [1, 0], [50, 1, 0, 1001, 2, 6, 0, 2, 0, 0, 1, 0, 0, 6, 4, 2, 1, 0, 0, 1, 2, 1, 1]), (20, [0], [60, 2, 2, 596, 0, 1, 7, 8])], [], [(2, 0, 0, [53]), (0, 0, 24, []), (0, 0, 48, [])], [(21, [9, 7], [48]), (21, [1, 7], [48]), (24, [3, 10], []), (20, [11, 0], [50, 1, 0, 1000, 1, 2, 1, 0, 2, 1, 0]), (20, [12, 0], [50, 1, 0, 1001, 1, 2, 1, 0, 2, 1, 1]), (20, [2, 2, 10, 9, 1, 7, 11, 12], [61, 3, 749])], [], [(9, 1, 1, 1), (7, 5, -1, -1), (7, 4, -48, -1), (5, 4, -47, 0)])
theorem oo_Gr_removeEdge_at_gx_1 {kA : Nat → ClassId} : or_ok PRD kA GG o_Gr_removeEdge_at_gx_1 := by
  refine or_mk fun A ta ws vs hD hth hl => ?_
  intro t0 r0 t1 k1 t3 r3 t4 k4 t5 k5 t6 k6 t7 k7 t8 k8 t9 k9 d0 d1 d2 d3 f0 f1 f2 f3 f4 f5 f6 f7
  replace f0 := shm_143 f0
  replace f1 := shm_216 f1
  replace f2 := shm_12 f2
  replace f3 := shm_14 f3
  replace f4 := shm_14 f4
  replace f5 := shm_127 f5
  replace f6 := shm_402 f6
  replace f7 := shm_401 f7
  have cr_0_7 := fdq_52 hD hth r0
  have cr_0_8 := fdq_53 hD hth r0
  have ad_3 : v_ad (n_v vs 3) = w_ar ws (n_v vs 0) 8 := congrArg v_ad f0
  have ad_2 : v_ad (n_v vs 2) = w_ar ws (n_v vs 0) 7 := congrArg v_ad f1
  have g5 : v_iv (n_v vs 4) = w_fi ws (n_v vs 0) 1 := congrArg v_iv f5
  have hK_0_7 := elq_10 hD hth cr_0_7
  have hK_0_8 := elq_11 hD hth cr_0_8
  have kz_0_0 := fdq_23 hD hth r0
  have kz_0_1 := fdq_38 hD hth r0
  obtain ⟨y, ey, hy⟩ := iv_ex (ta := ta) (lo := 0) (hi := 24) (z := w_fi ws (n_v vs 0) 0) (by omega) (by omega) (by omega) (by omega)
  have ey2 : v_iv (Value.int y) = w_fi ws (n_v vs 0) 0 := ey
  have ey3 : 0 ≤ v_iv (Value.int y) ∧ v_iv (Value.int y) ≤ 24 := tv_rng hy
  obtain ⟨u, eu, hu⟩ := iv_ex (ta := ta) (lo := 0) (hi := 48) (z := w_fi ws (n_v vs 0) 1) (by omega) (by omega) (by omega) (by omega)
  have eu2 : v_iv (Value.int u) = w_fi ws (n_v vs 0) 1 := eu
  have eu3 : 0 ≤ v_iv (Value.int u) ∧ v_iv (Value.int u) ≤ 48 := tv_rng hu
  have e_0 : n_v (vs ++ [n_v vs 3, Value.int y, Value.int u]) 0 = n_v vs 0 := n_v_old (by rw [hl]; decide)
  have e_1 : n_v (vs ++ [n_v vs 3, Value.int y, Value.int u]) 1 = n_v vs 1 := n_v_old (by rw [hl]; decide)
  have e_2 : n_v (vs ++ [n_v vs 3, Value.int y, Value.int u]) 2 = n_v vs 2 := n_v_old (by rw [hl]; decide)
  have e_3 : n_v (vs ++ [n_v vs 3, Value.int y, Value.int u]) 3 = n_v vs 3 := n_v_old (by rw [hl]; decide)
  have e_7 : n_v (vs ++ [n_v vs 3, Value.int y, Value.int u]) 7 = n_v vs 7 := n_v_old (by rw [hl]; decide)
  have e_9 : n_v (vs ++ [n_v vs 3, Value.int y, Value.int u]) 9 = n_v vs 9 := n_v_old (by rw [hl]; decide)
  have e_10 : n_v (vs ++ [n_v vs 3, Value.int y, Value.int u]) 10 = n_v vs 3 := n_v_newk (k := 0) hl rfl
  have e_11 : n_v (vs ++ [n_v vs 3, Value.int y, Value.int u]) 11 = Value.int y := n_v_newk (k := 1) hl rfl
  have e_12 : n_v (vs ++ [n_v vs 3, Value.int y, Value.int u]) 12 = Value.int u := n_v_newk (k := 2) hl rfl
  have nf0 : fc_1 PRD (21, [9, 7], [48]) ws (vs ++ [n_v vs 3, Value.int y, Value.int u]) := by
    refine ⟨nf_inA hl rfl, sgq_829 ?_⟩
    · show v_iv (n_v (vs ++ [n_v vs 3, Value.int y, Value.int u]) 9) + v_iv (n_v (vs ++ [n_v vs 3, Value.int y, Value.int u]) 7) ≤ 48
      simp only [e_7, e_9]
      exact vc_Gr_removeEdge_at_gx_1_0 (v_iv (n_v vs 1)) (v_iv (n_v vs 4)) (v_iv (n_v vs 5)) (v_iv (n_v vs 6)) (v_iv (n_v vs 7)) (v_iv (n_v vs 8)) (v_iv (n_v vs 9)) (w_fi ws (n_v vs 0) 1) (w_ei ws (w_ar ws (n_v vs 0) 7)) (w_ei ws (w_ar ws (n_v vs 0) 8)) (w_fi ws (n_v vs 0) 0) (v_iv (Value.int y)) (v_iv (Value.int u)) k1 k4 k5 k6 k7 k8 k9 d0 d1 d2 d3 f2 f3 f4 g5 f6 f7 hK_0_7 hK_0_8 kz_0_0 kz_0_1 ey2 ey3 eu2 eu3
  have nf1 : fc_1 PRD (21, [1, 7], [48]) ws (vs ++ [n_v vs 3, Value.int y, Value.int u]) := by
    refine ⟨nf_inA hl rfl, sgq_829 ?_⟩
    · show v_iv (n_v (vs ++ [n_v vs 3, Value.int y, Value.int u]) 1) + v_iv (n_v (vs ++ [n_v vs 3, Value.int y, Value.int u]) 7) ≤ 48
      simp only [e_1, e_7]
      exact vc_Gr_removeEdge_at_gx_1_1 (v_iv (n_v vs 1)) (v_iv (n_v vs 4)) (v_iv (n_v vs 5)) (v_iv (n_v vs 6)) (v_iv (n_v vs 7)) (v_iv (n_v vs 8)) (v_iv (n_v vs 9)) (w_fi ws (n_v vs 0) 1) (w_ei ws (w_ar ws (n_v vs 0) 7)) (w_ei ws (w_ar ws (n_v vs 0) 8)) (w_fi ws (n_v vs 0) 0) (v_iv (Value.int y)) (v_iv (Value.int u)) k1 k4 k5 k6 k7 k8 k9 d0 d1 d2 d3 f2 f3 f4 g5 f6 f7 hK_0_7 hK_0_8 kz_0_0 kz_0_1 ey2 ey3 eu2 eu3
  have nf2 : fc_1 PRD (24, [3, 10], []) ws (vs ++ [n_v vs 3, Value.int y, Value.int u]) := by
    refine ⟨nf_inA hl rfl, sgq_5 ?_⟩
    · show n_v (vs ++ [n_v vs 3, Value.int y, Value.int u]) 3 = n_v (vs ++ [n_v vs 3, Value.int y, Value.int u]) 10
      first | rfl | simp only [e_3, e_10]
  have nf3 : fc_1 PRD (20, [11, 0], [50, 1, 0, 1000, 1, 2, 1, 0, 2, 1, 0]) ws (vs ++ [n_v vs 3, Value.int y, Value.int u]) := by
    refine ⟨nf_inA hl rfl, sgq_830 ?_⟩
    · show v_iv (n_v (vs ++ [n_v vs 3, Value.int y, Value.int u]) 11) = w_fi ws (n_v (vs ++ [n_v vs 3, Value.int y, Value.int u]) 0) 0
      simp only [e_0, e_11]
      exact vc_Gr_removeEdge_at_gx_1_3 (v_iv (n_v vs 1)) (v_iv (n_v vs 4)) (v_iv (n_v vs 5)) (v_iv (n_v vs 6)) (v_iv (n_v vs 7)) (v_iv (n_v vs 8)) (v_iv (n_v vs 9)) (w_fi ws (n_v vs 0) 1) (w_ei ws (w_ar ws (n_v vs 0) 7)) (w_ei ws (w_ar ws (n_v vs 0) 8)) (w_fi ws (n_v vs 0) 0) (v_iv (Value.int y)) (v_iv (Value.int u)) k1 k4 k5 k6 k7 k8 k9 d0 d1 d2 d3 f2 f3 f4 g5 f6 f7 hK_0_7 hK_0_8 kz_0_0 kz_0_1 ey2 ey3 eu2 eu3
  have nf4 : fc_1 PRD (20, [12, 0], [50, 1, 0, 1001, 1, 2, 1, 0, 2, 1, 1]) ws (vs ++ [n_v vs 3, Value.int y, Value.int u]) := by
    refine ⟨nf_inA hl rfl, sgq_831 ?_⟩
    · show v_iv (n_v (vs ++ [n_v vs 3, Value.int y, Value.int u]) 12) = w_fi ws (n_v (vs ++ [n_v vs 3, Value.int y, Value.int u]) 0) 1
      simp only [e_0, e_12]
      exact vc_Gr_removeEdge_at_gx_1_4 (v_iv (n_v vs 1)) (v_iv (n_v vs 4)) (v_iv (n_v vs 5)) (v_iv (n_v vs 6)) (v_iv (n_v vs 7)) (v_iv (n_v vs 8)) (v_iv (n_v vs 9)) (w_fi ws (n_v vs 0) 1) (w_ei ws (w_ar ws (n_v vs 0) 7)) (w_ei ws (w_ar ws (n_v vs 0) 8)) (w_fi ws (n_v vs 0) 0) (v_iv (Value.int y)) (v_iv (Value.int u)) k1 k4 k5 k6 k7 k8 k9 d0 d1 d2 d3 f2 f3 f4 g5 f6 f7 hK_0_7 hK_0_8 kz_0_0 kz_0_1 ey2 ey3 eu2 eu3
  have nf5 : fc_1 PRD (20, [2, 2, 10, 9, 1, 7, 11, 12], [61, 3, 749]) ws (vs ++ [n_v vs 3, Value.int y, Value.int u]) := by
    refine ⟨nf_inA hl rfl, sgq_837 ?_⟩
    · show RT1 (w_ei ws (v_ad (n_v (vs ++ [n_v vs 3, Value.int y, Value.int u]) 2))) (w_ei ws (v_ad (n_v (vs ++ [n_v vs 3, Value.int y, Value.int u]) 2))) (w_ei ws (v_ad (n_v (vs ++ [n_v vs 3, Value.int y, Value.int u]) 10))) (v_iv (n_v (vs ++ [n_v vs 3, Value.int y, Value.int u]) 9)) (v_iv (n_v (vs ++ [n_v vs 3, Value.int y, Value.int u]) 1)) (v_iv (n_v (vs ++ [n_v vs 3, Value.int y, Value.int u]) 7)) (v_iv (n_v (vs ++ [n_v vs 3, Value.int y, Value.int u]) 11)) (v_iv (n_v (vs ++ [n_v vs 3, Value.int y, Value.int u]) 12))
      simp only [e_1, e_2, e_7, e_9, e_10, e_11, e_12, ad_2, ad_3]
      exact vc_Gr_removeEdge_at_gx_1_5 (v_iv (n_v vs 1)) (v_iv (n_v vs 4)) (v_iv (n_v vs 5)) (v_iv (n_v vs 6)) (v_iv (n_v vs 7)) (v_iv (n_v vs 8)) (v_iv (n_v vs 9)) (w_fi ws (n_v vs 0) 1) (w_ei ws (w_ar ws (n_v vs 0) 7)) (w_ei ws (w_ar ws (n_v vs 0) 8)) (w_fi ws (n_v vs 0) 0) (v_iv (Value.int y)) (v_iv (Value.int u)) k1 k4 k5 k6 k7 k8 k9 d0 d1 d2 d3 f2 f3 f4 g5 f6 f7 hK_0_7 hK_0_8 kz_0_0 kz_0_1 ey2 ey3 eu2 eu3
  exact ⟨(fun _ h => (by cases h)), [n_v vs 3, Value.int y, Value.int u], ag_three t3 hy hu, List.forall_mem_cons.mpr ⟨⟨show (21 : Nat) < 100 from by decide, nf0⟩, List.forall_mem_cons.mpr ⟨⟨show (21 : Nat) < 100 from by decide, nf1⟩, List.forall_mem_cons.mpr ⟨⟨show (24 : Nat) < 100 from by decide, nf2⟩, List.forall_mem_cons.mpr ⟨⟨show (20 : Nat) < 100 from by decide, nf3⟩, List.forall_mem_cons.mpr ⟨⟨show (20 : Nat) < 100 from by decide, nf4⟩, List.forall_mem_cons.mpr ⟨⟨show (20 : Nat) < 100 from by decide, nf5⟩, (fun _ h => (by cases h))⟩⟩⟩⟩⟩⟩, (fun _ h => (by cases h))⟩
set_option maxHeartbeats 4000000 in
theorem vc_Gr_removeEdge_at_gx_2_0 (x1 : Int) (x4 : Int) (x5 : Int) (x6 : Int) (x7 : Int) (x8 : Int) (x9 : Int) (x11 : Int) (x12 : Int) (x13 : Int) (x14 : Int) (edges_0 : Int) (nodes_0 : Int) (a2_0 : Int → Int) (a3_0 : Int → Int) (gy : Int) (gu : Int) (k1 : 0 ≤ x1 ∧ x1 ≤ 47) (k4 : 1 ≤ x4 ∧ x4 ≤ 48) (k5 : (-46) ≤ x5 ∧ x5 ≤ 48) (k6 : 1 ≤ x6 ∧ x6 ≤ 1) (k7 : 0 ≤ x7 ∧ x7 ≤ 47) (k8 : 1 ≤ x8 ∧ x8 ≤ 1) (k9 : 1 ≤ x9 ∧ x9 ≤ 48) (k11 : 0 ≤ x11 ∧ x11 ≤ 24) (k12 : 0 ≤ x12 ∧ x12 ≤ 48) (k13 : 1 ≤ x13 ∧ x13 ≤ 1) (k14 : 1 ≤ x14 ∧ x14 ≤ 48) (d0 : x1 + 1 ≤ x14 ∧ x14 ≤ x1 + 1) (d1 : x1 + 1 ≤ x9 ∧ x9 ≤ x1 + 1) (d2 : x5 + (-1) ≤ x7 ∧ x7 ≤ x5 + (-1)) (d3 : x4 + (-48) ≤ x7 ∧ x7 ≤ x4 + (-1)) (d4 : x4 + (-47) ≤ x5 ∧ x5 ≤ x4 + 0) (g0 : x4 = edges_0) (f1 : x14 = x1 + x13) (f2 : x9 + x7 ≤ 48) (f3 : x1 + x7 ≤ 48) (f5 : x11 = nodes_0) (f6 : x12 = edges_0) (f7 : (0 ≤ x1) ∧ ((x1 + 1) ≤ edges_0)) (f8 : RT2 (a2_0) (a2_0) (a3_0) (x9) (x1) (x7) (x11) (x12)) (f10 : x9 + x7 ≤ 48) (f11 : x1 + x7 ≤ 48) (f12 : x9 = x1 + x8) (f13 : x7 = x5 - x6) (f14 : x5 = x4 - x1) (hK_2_999 : ∀ j : Int, 0 ≤ j → j < 48 → 0 ≤ a2_0 j ∧ a2_0 j ≤ 23) (hK_3_999 : ∀ j : Int, 0 ≤ j → j < 48 → 0 ≤ a3_0 j ∧ a3_0 j ≤ 23) (kz_0_0 : 0 ≤ nodes_0 ∧ nodes_0 ≤ 24) (kz_0_1 : 0 ≤ edges_0 ∧ edges_0 ≤ 48) (ey2 : gy = nodes_0) (ey3 : 0 ≤ gy ∧ gy ≤ 24) (eu2 : gu = edges_0) (eu3 : 0 ≤ gu ∧ gu ≤ 48) : x14 + x7 ≤ 48 := by
  first
    | omega
  
set_option maxHeartbeats 4000000 in
theorem vc_Gr_removeEdge_at_gx_2_2 (x1 : Int) (x4 : Int) (x5 : Int) (x6 : Int) (x7 : Int) (x8 : Int) (x9 : Int) (x11 : Int) (x12 : Int) (x13 : Int) (x14 : Int) (edges_0 : Int) (nodes_0 : Int) (a2_0 : Int → Int) (a3_0 : Int → Int) (gy : Int) (gu : Int) (k1 : 0 ≤ x1 ∧ x1 ≤ 47) (k4 : 1 ≤ x4 ∧ x4 ≤ 48) (k5 : (-46) ≤ x5 ∧ x5 ≤ 48) (k6 : 1 ≤ x6 ∧ x6 ≤ 1) (k7 : 0 ≤ x7 ∧ x7 ≤ 47) (k8 : 1 ≤ x8 ∧ x8 ≤ 1) (k9 : 1 ≤ x9 ∧ x9 ≤ 48) (k11 : 0 ≤ x11 ∧ x11 ≤ 24) (k12 : 0 ≤ x12 ∧ x12 ≤ 48) (k13 : 1 ≤ x13 ∧ x13 ≤ 1) (k14 : 1 ≤ x14 ∧ x14 ≤ 48) (d0 : x1 + 1 ≤ x14 ∧ x14 ≤ x1 + 1) (d1 : x1 + 1 ≤ x9 ∧ x9 ≤ x1 + 1) (d2 : x5 + (-1) ≤ x7 ∧ x7 ≤ x5 + (-1)) (d3 : x4 + (-48) ≤ x7 ∧ x7 ≤ x4 + (-1)) (d4 : x4 + (-47) ≤ x5 ∧ x5 ≤ x4 + 0) (g0 : x4 = edges_0) (f1 : x14 = x1 + x13) (f2 : x9 + x7 ≤ 48) (f3 : x1 + x7 ≤ 48) (f5 : x11 = nodes_0) (f6 : x12 = edges_0) (f7 : (0 ≤ x1) ∧ ((x1 + 1) ≤ edges_0)) (f8 : RT2 (a2_0) (a2_0) (a3_0) (x9) (x1) (x7) (x11) (x12)) (f10 : x9 + x7 ≤ 48) (f11 : x1 + x7 ≤ 48) (f12 : x9 = x1 + x8) (f13 : x7 = x5 - x6) (f14 : x5 = x4 - x1) (hK_2_999 : ∀ j : Int, 0 ≤ j → j < 48 → 0 ≤ a2_0 j ∧ a2_0 j ≤ 23) (hK_3_999 : ∀ j : Int, 0 ≤ j → j < 48 → 0 ≤ a3_0 j ∧ a3_0 j ≤ 23) (kz_0_0 : 0 ≤ nodes_0 ∧ nodes_0 ≤ 24) (kz_0_1 : 0 ≤ edges_0 ∧ edges_0 ≤ 48) (ey2 : gy = nodes_0) (ey3 : 0 ≤ gy ∧ gy ≤ 24) (eu2 : gu = edges_0) (eu3 : 0 ≤ gu ∧ gu ≤ 48) : gy = nodes_0 := by
  first
    | omega
  
set_option maxHeartbeats 4000000 in
theorem vc_Gr_removeEdge_at_gx_2_3 (x1 : Int) (x4 : Int) (x5 : Int) (x6 : Int) (x7 : Int) (x8 : Int) (x9 : Int) (x11 : Int) (x12 : Int) (x13 : Int) (x14 : Int) (edges_0 : Int) (nodes_0 : Int) (a2_0 : Int → Int) (a3_0 : Int → Int) (gy : Int) (gu : Int) (k1 : 0 ≤ x1 ∧ x1 ≤ 47) (k4 : 1 ≤ x4 ∧ x4 ≤ 48) (k5 : (-46) ≤ x5 ∧ x5 ≤ 48) (k6 : 1 ≤ x6 ∧ x6 ≤ 1) (k7 : 0 ≤ x7 ∧ x7 ≤ 47) (k8 : 1 ≤ x8 ∧ x8 ≤ 1) (k9 : 1 ≤ x9 ∧ x9 ≤ 48) (k11 : 0 ≤ x11 ∧ x11 ≤ 24) (k12 : 0 ≤ x12 ∧ x12 ≤ 48) (k13 : 1 ≤ x13 ∧ x13 ≤ 1) (k14 : 1 ≤ x14 ∧ x14 ≤ 48) (d0 : x1 + 1 ≤ x14 ∧ x14 ≤ x1 + 1) (d1 : x1 + 1 ≤ x9 ∧ x9 ≤ x1 + 1) (d2 : x5 + (-1) ≤ x7 ∧ x7 ≤ x5 + (-1)) (d3 : x4 + (-48) ≤ x7 ∧ x7 ≤ x4 + (-1)) (d4 : x4 + (-47) ≤ x5 ∧ x5 ≤ x4 + 0) (g0 : x4 = edges_0) (f1 : x14 = x1 + x13) (f2 : x9 + x7 ≤ 48) (f3 : x1 + x7 ≤ 48) (f5 : x11 = nodes_0) (f6 : x12 = edges_0) (f7 : (0 ≤ x1) ∧ ((x1 + 1) ≤ edges_0)) (f8 : RT2 (a2_0) (a2_0) (a3_0) (x9) (x1) (x7) (x11) (x12)) (f10 : x9 + x7 ≤ 48) (f11 : x1 + x7 ≤ 48) (f12 : x9 = x1 + x8) (f13 : x7 = x5 - x6) (f14 : x5 = x4 - x1) (hK_2_999 : ∀ j : Int, 0 ≤ j → j < 48 → 0 ≤ a2_0 j ∧ a2_0 j ≤ 23) (hK_3_999 : ∀ j : Int, 0 ≤ j → j < 48 → 0 ≤ a3_0 j ∧ a3_0 j ≤ 23) (kz_0_0 : 0 ≤ nodes_0 ∧ nodes_0 ≤ 24) (kz_0_1 : 0 ≤ edges_0 ∧ edges_0 ≤ 48) (ey2 : gy = nodes_0) (ey3 : 0 ≤ gy ∧ gy ≤ 24) (eu2 : gu = edges_0) (eu3 : 0 ≤ gu ∧ gu ≤ 48) : gu = edges_0 := by
  first
    | omega
  
set_option maxHeartbeats 4000000 in
theorem vc_Gr_removeEdge_at_gx_2_4 (x1 : Int) (x4 : Int) (x5 : Int) (x6 : Int) (x7 : Int) (x8 : Int) (x9 : Int) (x11 : Int) (x12 : Int) (x13 : Int) (x14 : Int) (edges_0 : Int) (nodes_0 : Int) (a2_0 : Int → Int) (a3_0 : Int → Int) (gy : Int) (gu : Int) (k1 : 0 ≤ x1 ∧ x1 ≤ 47) (k4 : 1 ≤ x4 ∧ x4 ≤ 48) (k5 : (-46) ≤ x5 ∧ x5 ≤ 48) (k6 : 1 ≤ x6 ∧ x6 ≤ 1) (k7 : 0 ≤ x7 ∧ x7 ≤ 47) (k8 : 1 ≤ x8 ∧ x8 ≤ 1) (k9 : 1 ≤ x9 ∧ x9 ≤ 48) (k11 : 0 ≤ x11 ∧ x11 ≤ 24) (k12 : 0 ≤ x12 ∧ x12 ≤ 48) (k13 : 1 ≤ x13 ∧ x13 ≤ 1) (k14 : 1 ≤ x14 ∧ x14 ≤ 48) (d0 : x1 + 1 ≤ x14 ∧ x14 ≤ x1 + 1) (d1 : x1 + 1 ≤ x9 ∧ x9 ≤ x1 + 1) (d2 : x5 + (-1) ≤ x7 ∧ x7 ≤ x5 + (-1)) (d3 : x4 + (-48) ≤ x7 ∧ x7 ≤ x4 + (-1)) (d4 : x4 + (-47) ≤ x5 ∧ x5 ≤ x4 + 0) (g0 : x4 = edges_0) (f1 : x14 = x1 + x13) (f2 : x9 + x7 ≤ 48) (f3 : x1 + x7 ≤ 48) (f5 : x11 = nodes_0) (f6 : x12 = edges_0) (f7 : (0 ≤ x1) ∧ ((x1 + 1) ≤ edges_0)) (f8 : RT2 (a2_0) (a2_0) (a3_0) (x9) (x1) (x7) (x11) (x12)) (f10 : x9 + x7 ≤ 48) (f11 : x1 + x7 ≤ 48) (f12 : x9 = x1 + x8) (f13 : x7 = x5 - x6) (f14 : x5 = x4 - x1) (hK_2_999 : ∀ j : Int, 0 ≤ j → j < 48 → 0 ≤ a2_0 j ∧ a2_0 j ≤ 23) (hK_3_999 : ∀ j : Int, 0 ≤ j → j < 48 → 0 ≤ a3_0 j ∧ a3_0 j ≤ 23) (kz_0_0 : 0 ≤ nodes_0 ∧ nodes_0 ≤ 24) (kz_0_1 : 0 ≤ edges_0 ∧ edges_0 ≤ 48) (ey2 : gy = nodes_0) (ey3 : 0 ≤ gy ∧ gy ≤ 24) (eu2 : gu = edges_0) (eu3 : 0 ≤ gu ∧ gu ≤ 48) : RH1 (a3_0) (a3_0) (a2_0) (x14) (x1) (x7) (gy) (gu) := by
  first
    | exact rh1_of ‹RT2 _ _ _ _ _ _ _ _› (by omega) (by omega) (by omega) (by omega) (by omega)
  
def o_Gr_removeEdge_at_gx_2 : or_T := (38, 15, [(0, (2, 0, 0, [3])), (1, (0, 0, 47, [])), (2, (2, 0, 0, [52])), (3, (2, 0, 0, [53])), (4, (0, 1, 48, [])), (5, (0, -46, 48, [])), (6, (0, 1, 1, [])), (7, (0, 0, 47, [])), (8, (0, 1, 1, [])), (9, (0, 1, 48, [])), (11, (0, 0, 24, [])), (12, (0, 0, 48, [])), (13, (0, 1, 1, [])), (14, (0, 1, 48, []))], [(9, [4, 0], [1]), (1, [14, 1, 13], []), (21, [9, 7], [48]), (21, [1, 7], [48]), (24, [3, 10], []), (20, [11, 0], [50, 1, 0, 1000, 1, 2, 1, 0, 2, 1, 0]), (20, [12, 0], [50, 1, 0, 1001, 1, 2, 1, 0, 2, 1, 1]), (20, [1, 0], [50, 1, 0, 1001, 2, 6, 0, 2, 0, 0, 1, 0, 0, 6, 4, 2, 1, 0, 0, 1, 2, 1, 1]), (20, [2, 2, 10, 9, 1, 7, 11, 12], [61, 3, 751]), (102, [12], [4503599627370496]), (21, [9, 7], [48]), (21, [1, 7], [48]), (1, [9, 1, 8], []), (2, [7, 5, 6], []), (2, [5, 4, 1], [])], [], [(2, 0, 0, [52]), (0, 0, 24, []), (0, 0, 48, [])], [(21, [14, 7], [48]), (24, [2, 15], []), (20, [16, 0], [50, 1, 0, 1000, 1, 2, 1, 0, 2, 1, 0]), (20, [17, 0], [50, 1, 0, 1001, 1, 2, 1, 0, 2, 1, 1]), (20, [3, 3, 15, 14, 1, 7, 16, 17], [61, 3, 753])], [], [(14, 1, 1, 1), (9, 1, 1, 1), (7, 5, -1, -1), (7, 4, -48, -1), (5, 4, -47, 0)])
theorem oo_Gr_removeEdge_at_gx_2 {kA : Nat → ClassId} : or_ok PRD kA GG o_Gr_removeEdge_at_gx_2 := by
  refine or_mk fun A ta ws vs hD hth hl => ?_
  intro t0 r0 t1 k1 t2 r2 t3 r3 t4 k4 t5 k5 t6 k6 t7 k7 t8 k8 t9 k9 t11 k11 t12 k12 t13 k13 t14 k14 d0 d1 d2 d3 d4 f0 f1 f2 f3 f4 f5 f6 f7 f8 ta1 w1 le1 s1 f10 f11 f12 f13 f14
  replace f0 := shm_127 f0
  replace f1 := shm_12 f1
  replace f2 := shm_829 f2
  replace f3 := shm_829 f3
  replace f4 := shm_5 f4
  replace f5 := shm_830 f5
  replace f6 := shm_831 f6
  replace f7 := shm_402 f7
  replace f8 := shm_838 f8
  replace f10 := shm_829 f10
  replace f11 := shm_829 f11
  replace f12 := shm_12 f12
  replace f13 := shm_14 f13
  replace f14 := shm_14 f14
  have q10 : n_v vs 10 = n_v vs 3 := f4.symm
  simp only [q10] at f8
  have cr_2_999 : ta (v_ad (n_v vs 2)) = some 52 := r2
  have cr_3_999 : ta (v_ad (n_v vs 3)) = some 53 := r3
  have g0 : v_iv (n_v vs 4) = w_fi ws (n_v vs 0) 1 := congrArg v_iv f0
  have hK_2_999 := elq_10 hD hth cr_2_999
  have hK_3_999 := elq_11 hD hth cr_3_999
  have kz_0_0 := fdq_23 hD hth r0
  have kz_0_1 := fdq_38 hD hth r0
  obtain ⟨y, ey, hy⟩ := iv_ex (ta := ta) (lo := 0) (hi := 24) (z := w_fi ws (n_v vs 0) 0) (by omega) (by omega) (by omega) (by omega)
  have ey2 : v_iv (Value.int y) = w_fi ws (n_v vs 0) 0 := ey
  have ey3 : 0 ≤ v_iv (Value.int y) ∧ v_iv (Value.int y) ≤ 24 := tv_rng hy
  obtain ⟨u, eu, hu⟩ := iv_ex (ta := ta) (lo := 0) (hi := 48) (z := w_fi ws (n_v vs 0) 1) (by omega) (by omega) (by omega) (by omega)
  have eu2 : v_iv (Value.int u) = w_fi ws (n_v vs 0) 1 := eu
  have eu3 : 0 ≤ v_iv (Value.int u) ∧ v_iv (Value.int u) ≤ 48 := tv_rng hu
  have e_0 : n_v (vs ++ [n_v vs 2, Value.int y, Value.int u]) 0 = n_v vs 0 := n_v_old (by rw [hl]; decide)
  have e_1 : n_v (vs ++ [n_v vs 2, Value.int y, Value.int u]) 1 = n_v vs 1 := n_v_old (by rw [hl]; decide)
  have e_2 : n_v (vs ++ [n_v vs 2, Value.int y, Value.int u]) 2 = n_v vs 2 := n_v_old (by rw [hl]; decide)
  have e_3 : n_v (vs ++ [n_v vs 2, Value.int y, Value.int u]) 3 = n_v vs 3 := n_v_old (by rw [hl]; decide)
  have e_7 : n_v (vs ++ [n_v vs 2, Value.int y, Value.int u]) 7 = n_v vs 7 := n_v_old (by rw [hl]; decide)
  have e_14 : n_v (vs ++ [n_v vs 2, Value.int y, Value.int u]) 14 = n_v vs 14 := n_v_old (by rw [hl]; decide)
  have e_15 : n_v (vs ++ [n_v vs 2, Value.int y, Value.int u]) 15 = n_v vs 2 := n_v_newk (k := 0) hl rfl
  have e_16 : n_v (vs ++ [n_v vs 2, Value.int y, Value.int u]) 16 = Value.int y := n_v_newk (k := 1) hl rfl
  have e_17 : n_v (vs ++ [n_v vs 2, Value.int y, Value.int u]) 17 = Value.int u := n_v_newk (k := 2) hl rfl
  have nf0 : fc_1 PRD (21, [14, 7], [48]) ws (vs ++ [n_v vs 2, Value.int y, Value.int u]) := by
    refine ⟨nf_inA hl rfl, sgq_829 ?_⟩
    · show v_iv (n_v (vs ++ [n_v vs 2, Value.int y, Value.int u]) 14) + v_iv (n_v (vs ++ [n_v vs 2, Value.int y, Value.int u]) 7) ≤ 48
      simp only [e_7, e_14]
      exact vc_Gr_removeEdge_at_gx_2_0 (v_iv (n_v vs 1)) (v_iv (n_v vs 4)) (v_iv (n_v vs 5)) (v_iv (n_v vs 6)) (v_iv (n_v vs 7)) (v_iv (n_v vs 8)) (v_iv (n_v vs 9)) (v_iv (n_v vs 11)) (v_iv (n_v vs 12)) (v_iv (n_v vs 13)) (v_iv (n_v vs 14)) (w_fi ws (n_v vs 0) 1) (w_fi ws (n_v vs 0) 0) (w_ei ws (v_ad (n_v vs 2))) (w_ei ws (v_ad (n_v vs 3))) (v_iv (Value.int y)) (v_iv (Value.int u)) k1 k4 k5 k6 k7 k8 k9 k11 k12 k13 k14 d0 d1 d2 d3 d4 g0 f1 f2 f3 f5 f6 f7 f8 f10 f11 f12 f13 f14 hK_2_999 hK_3_999 kz_0_0 kz_0_1 ey2 ey3 eu2 eu3
  have nf1 : fc_1 PRD (24, [2, 15], []) ws (vs ++ [n_v vs 2, Value.int y, Value.int u]) := by
    refine ⟨nf_inA hl rfl, sgq_5 ?_⟩
    · show n_v (vs ++ [n_v vs 2, Value.int y, Value.int u]) 2 = n_v (vs ++ [n_v vs 2, Value.int y, Value.int u]) 15
      first | rfl | simp only [e_2, e_15, q10]
  have nf2 : fc_1 PRD (20, [16, 0], [50, 1, 0, 1000, 1, 2, 1, 0, 2, 1, 0]) ws (vs ++ [n_v vs 2, Value.int y, Value.int u]) := by
    refine ⟨nf_inA hl rfl, sgq_830 ?_⟩
    · show v_iv (n_v (vs ++ [n_v vs 2, Value.int y, Value.int u]) 16) = w_fi ws (n_v (vs ++ [n_v vs 2, Value.int y, Value.int u]) 0) 0
      simp only [e_0, e_16]
      exact vc_Gr_removeEdge_at_gx_2_2 (v_iv (n_v vs 1)) (v_iv (n_v vs 4)) (v_iv (n_v vs 5)) (v_iv (n_v vs 6)) (v_iv (n_v vs 7)) (v_iv (n_v vs 8)) (v_iv (n_v vs 9)) (v_iv (n_v vs 11)) (v_iv (n_v vs 12)) (v_iv (n_v vs 13)) (v_iv (n_v vs 14)) (w_fi ws (n_v vs 0) 1) (w_fi ws (n_v vs 0) 0) (w_ei ws (v_ad (n_v vs 2))) (w_ei ws (v_ad (n_v vs 3))) (v_iv (Value.int y)) (v_iv (Value.int u)) k1 k4 k5 k6 k7 k8 k9 k11 k12 k13 k14 d0 d1 d2 d3 d4 g0 f1 f2 f3 f5 f6 f7 f8 f10 f11 f12 f13 f14 hK_2_999 hK_3_999 kz_0_0 kz_0_1 ey2 ey3 eu2 eu3
  have nf3 : fc_1 PRD (20, [17, 0], [50, 1, 0, 1001, 1, 2, 1, 0, 2, 1, 1]) ws (vs ++ [n_v vs 2, Value.int y, Value.int u]) := by
    refine ⟨nf_inA hl rfl, sgq_831 ?_⟩
    · show v_iv (n_v (vs ++ [n_v vs 2, Value.int y, Value.int u]) 17) = w_fi ws (n_v (vs ++ [n_v vs 2, Value.int y, Value.int u]) 0) 1
      simp only [e_0, e_17]
      exact vc_Gr_removeEdge_at_gx_2_3 (v_iv (n_v vs 1)) (v_iv (n_v vs 4)) (v_iv (n_v vs 5)) (v_iv (n_v vs 6)) (v_iv (n_v vs 7)) (v_iv (n_v vs 8)) (v_iv (n_v vs 9)) (v_iv (n_v vs 11)) (v_iv (n_v vs 12)) (v_iv (n_v vs 13)) (v_iv (n_v vs 14)) (w_fi ws (n_v vs 0) 1) (w_fi ws (n_v vs 0) 0) (w_ei ws (v_ad (n_v vs 2))) (w_ei ws (v_ad (n_v vs 3))) (v_iv (Value.int y)) (v_iv (Value.int u)) k1 k4 k5 k6 k7 k8 k9 k11 k12 k13 k14 d0 d1 d2 d3 d4 g0 f1 f2 f3 f5 f6 f7 f8 f10 f11 f12 f13 f14 hK_2_999 hK_3_999 kz_0_0 kz_0_1 ey2 ey3 eu2 eu3
  have nf4 : fc_1 PRD (20, [3, 3, 15, 14, 1, 7, 16, 17], [61, 3, 753]) ws (vs ++ [n_v vs 2, Value.int y, Value.int u]) := by
    refine ⟨nf_inA hl rfl, sgq_839 ?_⟩
    · show RH1 (w_ei ws (v_ad (n_v (vs ++ [n_v vs 2, Value.int y, Value.int u]) 3))) (w_ei ws (v_ad (n_v (vs ++ [n_v vs 2, Value.int y, Value.int u]) 3))) (w_ei ws (v_ad (n_v (vs ++ [n_v vs 2, Value.int y, Value.int u]) 15))) (v_iv (n_v (vs ++ [n_v vs 2, Value.int y, Value.int u]) 14)) (v_iv (n_v (vs ++ [n_v vs 2, Value.int y, Value.int u]) 1)) (v_iv (n_v (vs ++ [n_v vs 2, Value.int y, Value.int u]) 7)) (v_iv (n_v (vs ++ [n_v vs 2, Value.int y, Value.int u]) 16)) (v_iv (n_v (vs ++ [n_v vs 2, Value.int y, Value.int u]) 17))
      simp only [e_1, e_3, e_7, e_14, e_15, e_16, e_17]
      exact vc_Gr_removeEdge_at_gx_2_4 (v_iv (n_v vs 1)) (v_iv (n_v vs 4)) (v_iv (n_v vs 5)) (v_iv (n_v vs 6)) (v_iv (n_v vs 7)) (v_iv (n_v vs 8)) (v_iv (n_v vs 9)) (v_iv (n_v vs 11)) (v_iv (n_v vs 12)) (v_iv (n_v vs 13)) (v_iv (n_v vs 14)) (w_fi ws (n_v vs 0) 1) (w_fi ws (n_v vs 0) 0) (w_ei ws (v_ad (n_v vs 2))) (w_ei ws (v_ad (n_v vs 3))) (v_iv (Value.int y)) (v_iv (Value.int u)) k1 k4 k5 k6 k7 k8 k9 k11 k12 k13 k14 d0 d1 d2 d3 d4 g0 f1 f2 f3 f5 f6 f7 f8 f10 f11 f12 f13 f14 hK_2_999 hK_3_999 kz_0_0 kz_0_1 ey2 ey3 eu2 eu3
  exact ⟨(fun _ h => (by cases h)), [n_v vs 2, Value.int y, Value.int u], ag_three t2 hy hu, List.forall_mem_cons.mpr ⟨⟨show (21 : Nat) < 100 from by decide, nf0⟩, List.forall_mem_cons.mpr ⟨⟨show (24 : Nat) < 100 from by decide, nf1⟩, List.forall_mem_cons.mpr ⟨⟨show (20 : Nat) < 100 from by decide, nf2⟩, List.forall_mem_cons.mpr ⟨⟨show (20 : Nat) < 100 from by decide, nf3⟩, List.forall_mem_cons.mpr ⟨⟨show (20 : Nat) < 100 from by decide, nf4⟩, (fun _ h => (by cases h))⟩⟩⟩⟩⟩, (fun _ h => (by cases h))⟩
set_option maxHeartbeats 4000000 in
theorem vc_Gr_removeEdge_at_gx_3_0 (x1 : Int) (x4 : Int) (x5 : Int) (x6 : Int) (x7 : Int) (x8 : Int) (x9 : Int) (x11 : Int) (x12 : Int) (x13 : Int) (x14 : Int) (x16 : Int) (x17 : Int) (x19 : Int) (x20 : Int) (edges_0 : Int) (nodes_0 : Int) (a3_0 : Int → Int) (a2_0 : Int → Int) (k1 : 0 ≤ x1 ∧ x1 ≤ 47) (k4 : 1 ≤ x4 ∧ x4 ≤ 48) (k5 : (-46) ≤ x5 ∧ x5 ≤ 48) (k6 : 1 ≤ x6 ∧ x6 ≤ 1) (k7 : 0 ≤ x7 ∧ x7 ≤ 47) (k8 : 1 ≤ x8 ∧ x8 ≤ 1) (k9 : 1 ≤ x9 ∧ x9 ≤ 48) (k11 : 0 ≤ x11 ∧ x11 ≤ 24) (k12 : 0 ≤ x12 ∧ x12 ≤ 48) (k13 : 1 ≤ x13 ∧ x13 ≤ 1) (k14 : 1 ≤ x14 ∧ x14 ≤ 48) (k16 : 0 ≤ x16 ∧ x16 ≤ 24) (k17 : 0 ≤ x17 ∧ x17 ≤ 48) (k19 : 1 ≤ x19 ∧ x19 ≤ 1) (k20 : 1 ≤ x20 ∧ x20 ≤ 48) (d0 : x1 + 1 ≤ x20 ∧ x20 ≤ x1 + 1) (d1 : x1 + 1 ≤ x14 ∧ x14 ≤ x1 + 1) (d2 : x1 + 1 ≤ x9 ∧ x9 ≤ x1 + 1) (d3 : x5 + (-1) ≤ x7 ∧ x7 ≤ x5 + (-1)) (d4 : x4 + (-48) ≤ x7 ∧ x7 ≤ x4 + (-1)) (d5 : x4 + (-47) ≤ x5 ∧ x5 ≤ x4 + 0) (g0 : x4 = edges_0) (f1 : x20 = x1 + x19) (f2 : x14 + x7 ≤ 48) (f4 : x16 = nodes_0) (f5 : x17 = edges_0) (f6 : x9 + x7 ≤ 48) (f7 : x1 + x7 ≤ 48) (f9 : x11 = nodes_0) (f10 : x12 = edges_0) (f11 : (0 ≤ x1) ∧ ((x1 + 1) ≤ edges_0)) (f12 : RH2 (a3_0) (a3_0) (a2_0) (x14) (x1) (x7) (x16) (x17)) (f14 : x14 + x7 ≤ 48) (f15 : x14 = x1 + x13) (f16 : x9 + x7 ≤ 48) (f17 : x1 + x7 ≤ 48) (f19 : x9 + x7 ≤ 48) (f20 : x1 + x7 ≤ 48) (f21 : x9 = x1 + x8) (f22 : x7 = x5 - x6) (f23 : x5 = x4 - x1) (hK_2_999 : ∀ j : Int, 0 ≤ j → j < 48 → 0 ≤ a2_0 j ∧ a2_0 j ≤ 23) (hK_3_999 : ∀ j : Int, 0 ≤ j → j < 48 → 0 ≤ a3_0 j ∧ a3_0 j ≤ 23) (kz_0_0 : 0 ≤ nodes_0 ∧ nodes_0 ≤ 24) (kz_0_1 : 0 ≤ edges_0 ∧ edges_0 ≤ 48) : x20 + x7 ≤ 48 := by
  first
    | omega
  
def o_Gr_removeEdge_at_gx_3 : or_T := (54, 21, [(0, (2, 0, 0, [3])), (1, (0, 0, 47, [])), (2, (2, 0, 0, [52])), (3, (2, 0, 0, [53])), (4, (0, 1, 48, [])), (5, (0, -46, 48, [])), (6, (0, 1, 1, [])), (7, (0, 0, 47, [])), (8, (0, 1, 1, [])), (9, (0, 1, 48, [])), (11, (0, 0, 24, [])), (12, (0, 0, 48, [])), (13, (0, 1, 1, [])), (14, (0, 1, 48, [])), (16, (0, 0, 24, [])), (17, (0, 0, 48, [])), (19, (0, 1, 1, [])), (20, (0, 1, 48, []))], [(9, [4, 0], [1]), (1, [20, 1, 19], []), (21, [14, 7], [48]), (24, [2, 15], []), (20, [16, 0], [50, 1, 0, 1000, 1, 2, 1, 0, 2, 1, 0]), (20, [17, 0], [50, 1, 0, 1001, 1, 2, 1, 0, 2, 1, 1]), (21, [9, 7], [48]), (21, [1, 7], [48]), (20, [11, 0], [50, 1, 0, 1000, 1, 2, 1, 0, 2, 1, 0]), (20, [12, 0], [50, 1, 0, 1001, 1, 2, 1, 0, 2, 1, 1]), (20, [1, 0], [50, 1, 0, 1001, 2, 6, 0, 2, 0, 0, 1, 0, 0, 6, 4, 2, 1, 0, 0, 1, 2, 1, 1]), (20, [3, 3, 15, 14, 1, 7, 16, 17], [61, 3, 755]), (102, [17], [9007199254740992]), (21, [14, 7], [48]), (1, [14, 1, 13], []), (21, [9, 7], [48]), (21, [1, 7], [48]), (102, [12], [4503599627370496]), (21, [9, 7], [48]), (21, [1, 7], [48]), (1, [9, 1, 8], []), (2, [7, 5, 6], []), (2, [5, 4, 1], [])], [], [], [(21, [20, 7], [48])], [], [(20, 1, 1, 1), (14, 1, 1, 1), (9, 1, 1, 1), (7, 5, -1, -1), (7, 4, -48, -1), (5, 4, -47, 0)])
theorem oo_Gr_removeEdge_at_gx_3 {kA : Nat → ClassId} : or_ok PRD kA GG o_Gr_removeEdge_at_gx_3 := by
  refine or_mk fun A ta ws vs hD hth hl => ?_
  intro t0 r0 t1 k1 t2 r2 t3 r3 t4 k4 t5 k5 t6 k6 t7 k7 t8 k8 t9 k9 t11 k11 t12 k12 t13 k13 t14 k14 t16 k16 t17 k17 t19 k19 t20 k20 d0 d1 d2 d3 d4 d5 f0 f1 f2 f3 f4 f5 f6 f7 f9 f10 f11 f12 ta1 w1 le1 s1 f14 f15 f16 f17 ta2 w2 le2 s2 f19 f20 f21 f22 f23
  replace f0 := shm_127 f0
  replace f3 := shm_5 f3
  replace f12 := shm_840 f12
  have q15 : n_v vs 15 = n_v vs 2 := f3.symm
  simp only [q15] at f12
  have cr_2_999 : ta (v_ad (n_v vs 2)) = some 52 := r2
  have cr_3_999 : ta (v_ad (n_v vs 3)) = some 53 := r3
  have g0 : v_iv (n_v vs 4) = w_fi ws (n_v vs 0) 1 := congrArg v_iv f0
  have hK_2_999 := elq_10 hD hth cr_2_999
  have hK_3_999 := elq_11 hD hth cr_3_999
  have kz_0_0 := fdq_23 hD hth r0
  have kz_0_1 := fdq_38 hD hth r0
  have nf0 : fc_1 PRD (21, [20, 7], [48]) ws (vs) := ⟨nf_in hl rfl, sgq_829 (vc_Gr_removeEdge_at_gx_3_0 (v_iv (n_v vs 1)) (v_iv (n_v vs 4)) (v_iv (n_v vs 5)) (v_iv (n_v vs 6)) (v_iv (n_v vs 7)) (v_iv (n_v vs 8)) (v_iv (n_v vs 9)) (v_iv (n_v vs 11)) (v_iv (n_v vs 12)) (v_iv (n_v vs 13)) (v_iv (n_v vs 14)) (v_iv (n_v vs 16)) (v_iv (n_v vs 17)) (v_iv (n_v vs 19)) (v_iv (n_v vs 20)) (w_fi ws (n_v vs 0) 1) (w_fi ws (n_v vs 0) 0) (w_ei ws (v_ad (n_v vs 3))) (w_ei ws (v_ad (n_v vs 2))) k1 k4 k5 k6 k7 k8 k9 k11 k12 k13 k14 k16 k17 k19 k20 d0 d1 d2 d3 d4 d5 g0 (shm_12 f1) (shm_829 f2) (shm_830 f4) (shm_831 f5) (shm_829 f6) (shm_829 f7) (shm_830 f9) (shm_831 f10) (shm_402 f11) f12 (shm_829 f14) (shm_12 f15) (shm_829 f16) (shm_829 f17) (shm_829 f19) (shm_829 f20) (shm_12 f21) (shm_14 f22) (shm_14 f23) hK_2_999 hK_3_999 kz_0_0 kz_0_1)⟩
  refine ⟨(fun _ h => (by cases h)), [], trivial, ?_, (fun _ h => (by cases h))⟩
  rw [List.append_nil]
  exact List.forall_mem_cons.mpr ⟨⟨show (21 : Nat) < 100 from by decide, nf0⟩, (fun _ h => (by cases h))⟩
set_option maxHeartbeats 4000000 in
theorem vc_Gr_removeEdge_at_gx_4_0 (x1 : Int) (x4 : Int) (x5 : Int) (x6 : Int) (x7 : Int) (x8 : Int) (x9 : Int) (x11 : Int) (x12 : Int) (x13 : Int) (x14 : Int) (x16 : Int) (x17 : Int) (x19 : Int) (x20 : Int) (x22 : Int) (x23 : Int) (edges_0 : Int) (nodes_0 : Int) (a3_0 : Int → Int) (a2_0 : Int → Int) (k1 : 0 ≤ x1 ∧ x1 ≤ 47) (k4 : 1 ≤ x4 ∧ x4 ≤ 48) (k5 : (-46) ≤ x5 ∧ x5 ≤ 48) (k6 : 1 ≤ x6 ∧ x6 ≤ 1) (k7 : 0 ≤ x7 ∧ x7 ≤ 47) (k8 : 1 ≤ x8 ∧ x8 ≤ 1) (k9 : 1 ≤ x9 ∧ x9 ≤ 48) (k11 : 0 ≤ x11 ∧ x11 ≤ 24) (k12 : 0 ≤ x12 ∧ x12 ≤ 48) (k13 : 1 ≤ x13 ∧ x13 ≤ 1) (k14 : 1 ≤ x14 ∧ x14 ≤ 48) (k16 : 0 ≤ x16 ∧ x16 ≤ 24) (k17 : 0 ≤ x17 ∧ x17 ≤ 48) (k19 : 1 ≤ x19 ∧ x19 ≤ 1) (k20 : 1 ≤ x20 ∧ x20 ≤ 48) (k22 : 1 ≤ x22 ∧ x22 ≤ 1) (k23 : 1 ≤ x23 ∧ x23 ≤ 48) (d0 : x1 + 1 ≤ x23 ∧ x23 ≤ x1 + 1) (d1 : x1 + 1 ≤ x20 ∧ x20 ≤ x1 + 1) (d2 : x1 + 1 ≤ x14 ∧ x14 ≤ x1 + 1) (d3 : x1 + 1 ≤ x9 ∧ x9 ≤ x1 + 1) (d4 : x5 + (-1) ≤ x7 ∧ x7 ≤ x5 + (-1)) (d5 : x4 + (-48) ≤ x7 ∧ x7 ≤ x4 + (-1)) (d6 : x4 + (-47) ≤ x5 ∧ x5 ≤ x4 + 0) (g0 : x4 = edges_0) (f1 : x23 = x1 + x22) (f2 : x20 + x7 ≤ 48) (f3 : x14 + x7 ≤ 48) (f5 : x16 = nodes_0) (f6 : x17 = edges_0) (f7 : x9 + x7 ≤ 48) (f8 : x1 + x7 ≤ 48) (f10 : x11 = nodes_0) (f11 : x12 = edges_0) (f12 : (0 ≤ x1) ∧ ((x1 + 1) ≤ edges_0)) (f13 : RH2 (a3_0) (a3_0) (a2_0) (x14) (x1) (x7) (x16) (x17)) (f15 : x20 + x7 ≤ 48) (f16 : x20 = x1 + x19) (f17 : x14 + x7 ≤ 48) (f18 : x9 + x7 ≤ 48) (f19 : x1 + x7 ≤ 48) (f21 : x14 + x7 ≤ 48) (f22 : x14 = x1 + x13) (f23 : x9 + x7 ≤ 48) (f24 : x1 + x7 ≤ 48) (f26 : x9 + x7 ≤ 48) (f27 : x1 + x7 ≤ 48) (f28 : x9 = x1 + x8) (f29 : x7 = x5 - x6) (f30 : x5 = x4 - x1) (hK_2_999 : ∀ j : Int, 0 ≤ j → j < 48 → 0 ≤ a2_0 j ∧ a2_0 j ≤ 23) (hK_3_999 : ∀ j : Int, 0 ≤ j → j < 48 → 0 ≤ a3_0 j ∧ a3_0 j ≤ 23) (kz_0_0 : 0 ≤ nodes_0 ∧ nodes_0 ≤ 24) (kz_0_1 : 0 ≤ edges_0 ∧ edges_0 ≤ 48) : x23 + x7 ≤ 48 := by
  first
    | omega
  
def o_Gr_removeEdge_at_gx_4 : or_T := (70, 24, [(0, (2, 0, 0, [3])), (1, (0, 0, 47, [])), (2, (2, 0, 0, [52])), (3, (2, 0, 0, [53])), (4, (0, 1, 48, [])), (5, (0, -46, 48, [])), (6, (0, 1, 1, [])), (7, (0, 0, 47, [])), (8, (0, 1, 1, [])), (9, (0, 1, 48, [])), (11, (0, 0, 24, [])), (12, (0, 0, 48, [])), (13, (0, 1, 1, [])), (14, (0, 1, 48, [])), (16, (0, 0, 24, [])), (17, (0, 0, 48, [])), (19, (0, 1, 1, [])), (20, (0, 1, 48, [])), (22, (0, 1, 1, [])), (23, (0, 1, 48, []))], [(9, [4, 0], [1]), (1, [23, 1, 22], []), (21, [20, 7], [48]), (21, [14, 7], [48]), (24, [2, 15], []), (20, [16, 0], [50, 1, 0, 1000, 1, 2, 1, 0, 2, 1, 0]), (20, [17, 0], [50, 1, 0, 1001, 1, 2, 1, 0, 2, 1, 1]), (21, [9, 7], [48]), (21, [1, 7], [48]), (20, [11, 0], [50, 1, 0, 1000, 1, 2, 1, 0, 2, 1, 0]), (20, [12, 0], [50, 1, 0, 1001, 1, 2, 1, 0, 2, 1, 1]), (20, [1, 0], [50, 1, 0, 1001, 2, 6, 0, 2, 0, 0, 1, 0, 0, 6, 4, 2, 1, 0, 0, 1, 2, 1, 1]), (20, [3, 3, 15, 14, 1, 7, 16, 17], [61, 3, 755]), (102, [20], [18014398509481984]), (21, [20, 7], [48]), (1, [20, 1, 19], []), (21, [14, 7], [48]), (21, [9, 7], [48]), (21, [1, 7], [48]), (102, [17], [9007199254740992]), (21, [14, 7], [48]), (1, [14, 1, 13], []), (21, [9, 7], [48]), (21, [1, 7], [48]), (102, [12], [4503599627370496]), (21, [9, 7], [48]), (21, [1, 7], [48]), (1, [9, 1, 8], []), (2, [7, 5, 6], []), (2, [5, 4, 1], [])], [], [], [(21, [23, 7], [48])], [], [(23, 1, 1, 1), (20, 1, 1, 1), (14, 1, 1, 1), (9, 1, 1, 1), (7, 5, -1, -1), (7, 4, -48, -1), (5, 4, -47, 0)])
theorem oo_Gr_removeEdge_at_gx_4 {kA : Nat → ClassId} : or_ok PRD kA GG o_Gr_removeEdge_at_gx_4 := by
  refine or_mk fun A ta ws vs hD hth hl => ?_
  intro t0 r0 t1 k1 t2 r2 t3 r3 t4 k4 t5 k5 t6 k6 t7 k7 t8 k8 t9 k9 t11 k11 t12 k12 t13 k13 t14 k14 t16 k16 t17 k17 t19 k19 t20 k20 t22 k22 t23 k23 d0 d1 d2 d3 d4 d5 d6 f0 f1 f2 f3 f4 f5 f6 f7 f8 f10 f11 f12 f13 ta1 w1 le1 s1 f15 f16 f17 f18 f19 ta2 w2 le2 s2 f21 f22 f23 f24 ta3 w3 le3 s3 f26 f27 f28 f29 f30
  replace f0 := shm_127 f0
  replace f4 := shm_5 f4
  replace f13 := shm_840 f13
  have q15 : n_v vs 15 = n_v vs 2 := f4.symm
  simp only [q15] at f13
  have cr_2_999 : ta (v_ad (n_v vs 2)) = some 52 := r2
  have cr_3_999 : ta (v_ad (n_v vs 3)) = some 53 := r3
  have g0 : v_iv (n_v vs 4) = w_fi ws (n_v vs 0) 1 := congrArg v_iv f0
  have hK_2_999 := elq_10 hD hth cr_2_999
  have hK_3_999 := elq_11 hD hth cr_3_999
  have kz_0_0 := fdq_23 hD hth r0
  have kz_0_1 := fdq_38 hD hth r0
  have nf0 : fc_1 PRD (21, [23, 7], [48]) ws (vs) := ⟨nf_in hl rfl, sgq_829 (vc_Gr_removeEdge_at_gx_4_0 (v_iv (n_v vs 1)) (v_iv (n_v vs 4)) (v_iv (n_v vs 5)) (v_iv (n_v vs 6)) (v_iv (n_v vs 7)) (v_iv (n_v vs 8)) (v_iv (n_v vs 9)) (v_iv (n_v vs 11)) (v_iv (n_v vs 12)) (v_iv (n_v vs 13)) (v_iv (n_v vs 14)) (v_iv (n_v vs 16)) (v_iv (n_v vs 17)) (v_iv (n_v vs 19)) (v_iv (n_v vs 20)) (v_iv (n_v vs 22)) (v_iv (n_v vs 23)) (w_fi ws (n_v vs 0) 1) (w_fi ws (n_v vs 0) 0) (w_ei ws (v_ad (n_v vs 3))) (w_ei ws (v_ad (n_v vs 2))) k1 k4 k5 k6 k7 k8 k9 k11 k12 k13 k14 k16 k17 k19 k20 k22 k23 d0 d1 d2 d3 d4 d5 d6 g0 (shm_12 f1) (shm_829 f2) (shm_829 f3) (shm_830 f5) (shm_831 f6) (shm_829 f7) (shm_829 f8) (shm_830 f10) (shm_831 f11) (shm_402 f12) f13 (shm_829 f15) (shm_12 f16) (shm_829 f17) (shm_829 f18) (shm_829 f19) (shm_829 f21) (shm_12 f22) (shm_829 f23) (shm_829 f24) (shm_829 f26) (shm_829 f27) (shm_12 f28) (shm_14 f29) (shm_14 f30) hK_2_999 hK_3_999 kz_0_0 kz_0_1)⟩
  refine ⟨(fun _ h => (by cases h)), [], trivial, ?_, (fun _ h => (by cases h))⟩
  rw [List.append_nil]
  exact List.forall_mem_cons.mpr ⟨⟨show (21 : Nat) < 100 from by decide, nf0⟩, (fun _ h => (by cases h))⟩
set_option maxHeartbeats 4000000 in
theorem vc_Gr_removeEdge_at_gx_5_0 (x1 : Int) (x4 : Int) (x5 : Int) (x6 : Int) (x7 : Int) (x8 : Int) (x9 : Int) (x11 : Int) (x12 : Int) (x13 : Int) (x14 : Int) (x16 : Int) (x17 : Int) (x19 : Int) (x20 : Int) (x22 : Int) (x23 : Int) (x24 : Int) (x25 : Int) (edges_0 : Int) (nodes_0 : Int) (head_0 : Int → Int) (tail_0 : Int → Int) (edges_1 : Int) (nodes_1 : Int) (head_1 : Int → Int) (tail_1 : Int → Int) (k1 : 0 ≤ x1 ∧ x1 ≤ 47) (k4 : 1 ≤ x4 ∧ x4 ≤ 48) (k5 : (-46) ≤ x5 ∧ x5 ≤ 48) (k6 : 1 ≤ x6 ∧ x6 ≤ 1) (k7 : 0 ≤ x7 ∧ x7 ≤ 47) (k8 : 1 ≤ x8 ∧ x8 ≤ 1) (k9 : 1 ≤ x9 ∧ x9 ≤ 48) (k11 : 0 ≤ x11 ∧ x11 ≤ 24) (k12 : 0 ≤ x12 ∧ x12 ≤ 48) (k13 : 1 ≤ x13 ∧ x13 ≤ 1) (k14 : 1 ≤ x14 ∧ x14 ≤ 48) (k16 : 0 ≤ x16 ∧ x16 ≤ 24) (k17 : 0 ≤ x17 ∧ x17 ≤ 48) (k19 : 1 ≤ x19 ∧ x19 ≤ 1) (k20 : 1 ≤ x20 ∧ x20 ≤ 48) (k22 : 1 ≤ x22 ∧ x22 ≤ 1) (k23 : 1 ≤ x23 ∧ x23 ≤ 48) (k24 : 1 ≤ x24 ∧ x24 ≤ 1) (k25 : 0 ≤ x25 ∧ x25 ≤ 47) (d0 : x4 + (-1) ≤ x25 ∧ x25 ≤ x4 + (-1)) (d1 : x1 + 1 ≤ x23 ∧ x23 ≤ x1 + 1) (d2 : x1 + 1 ≤ x20 ∧ x20 ≤ x1 + 1) (d3 : x1 + 1 ≤ x14 ∧ x14 ≤ x1 + 1) (d4 : x1 + 1 ≤ x9 ∧ x9 ≤ x1 + 1) (d5 : x5 + (-1) ≤ x7 ∧ x7 ≤ x5 + (-1)) (d6 : x4 + (-48) ≤ x7 ∧ x7 ≤ x4 + (-1)) (d7 : x4 + (-47) ≤ x5 ∧ x5 ≤ x4 + 0) (g0 : x25 = edges_0) (f3 : x23 + x7 ≤ 48) (f4 : x20 + x7 ≤ 48) (f5 : x14 + x7 ≤ 48) (f7 : x16 = nodes_0) (f8 : x9 + x7 ≤ 48) (f9 : x1 + x7 ≤ 48) (f11 : x11 = nodes_0) (f12 : RH2 (head_0) (head_0) (tail_0) (x14) (x1) (x7) (x16) (x17)) (f14 : x25 = x4 - x24) (g15 : x4 = edges_1) (f16 : x23 + x7 ≤ 48) (f17 : x20 + x7 ≤ 48) (f18 : x14 + x7 ≤ 48) (f19 : x16 = nodes_1) (f20 : x17 = edges_1) (f21 : x9 + x7 ≤ 48) (f22 : x1 + x7 ≤ 48) (f23 : x11 = nodes_1) (f24 : x12 = edges_1) (f25 : (0 ≤ x1) ∧ ((x1 + 1) ≤ edges_1)) (f26 : RH2 (head_1) (head_1) (tail_1) (x14) (x1) (x7) (x16) (x17)) (f28 : x23 + x7 ≤ 48) (f29 : x23 = x1 + x22) (f30 : x20 + x7 ≤ 48) (f31 : x14 + x7 ≤ 48) (f32 : x9 + x7 ≤ 48) (f33 : x1 + x7 ≤ 48) (f35 : x20 + x7 ≤ 48) (f36 : x20 = x1 + x19) (f37 : x14 + x7 ≤ 48) (f38 : x9 + x7 ≤ 48) (f39 : x1 + x7 ≤ 48) (f41 : x14 + x7 ≤ 48) (f42 : x14 = x1 + x13) (f43 : x9 + x7 ≤ 48) (f44 : x1 + x7 ≤ 48) (f46 : x9 + x7 ≤ 48) (f47 : x1 + x7 ≤ 48) (f48 : x9 = x1 + x8) (f49 : x7 = x5 - x6) (f50 : x5 = x4 - x1) (fe_0_0_1 : nodes_0 = nodes_1) (fe_0_1_1 : edges_0 = x25) (hE_0_7_1 : ∀ j : Int, tail_0 j = tail_1 j) (hK_0_7 : ∀ j : Int, 0 ≤ j → j < 48 → 0 ≤ tail_0 j ∧ tail_0 j ≤ 23) (hE_0_8_1 : ∀ j : Int, head_0 j = head_1 j) (hK_0_8 : ∀ j : Int, 0 ≤ j → j < 48 → 0 ≤ head_0 j ∧ head_0 j ≤ 23) (kz_0_0 : 0 ≤ nodes_0 ∧ nodes_0 ≤ 24) (kz_0_1 : 0 ≤ edges_0 ∧ edges_0 ≤ 48) : GKE (nodes_0) (edges_0) (tail_0) (head_0) := by
  subst fe_0_0_1
  have e_hE_0_7_1 := funext hE_0_7_1; subst e_hE_0_7_1
  have e_hE_0_8_1 := funext hE_0_8_1; subst e_hE_0_8_1
  first
    | assumption
    | exact gke_rh ‹RH2n _ _ _ _ _ _ _ _ _› (by omega) (by omega)
    | exact gke_rh ‹RH2 _ _ _ _ _ _ _ _› (by omega) (by omega)
  
def o_Gr_removeEdge_at_gx_5 : or_T := (83, 26, [(0, (2, 0, 0, [3])), (1, (0, 0, 47, [])), (4, (0, 1, 48, [])), (5, (0, -46, 48, [])), (6, (0, 1, 1, [])), (7, (0, 0, 47, [])), (8, (0, 1, 1, [])), (9, (0, 1, 48, [])), (11, (0, 0, 24, [])), (12, (0, 0, 48, [])), (13, (0, 1, 1, [])), (14, (0, 1, 48, [])), (16, (0, 0, 24, [])), (17, (0, 0, 48, [])), (19, (0, 1, 1, [])), (20, (0, 1, 48, [])), (22, (0, 1, 1, [])), (23, (0, 1, 48, [])), (24, (0, 1, 1, [])), (25, (0, 0, 47, []))], [(9, [25, 0], [1]), (9, [2, 0], [7]), (9, [3, 0], [8]), (21, [23, 7], [48]), (21, [20, 7], [48]), (21, [14, 7], [48]), (24, [2, 15], []), (20, [16, 0], [50, 1, 0, 1000, 1, 2, 1, 0, 2, 1, 0]), (21, [9, 7], [48]), (21, [1, 7], [48]), (20, [11, 0], [50, 1, 0, 1000, 1, 2, 1, 0, 2, 1, 0]), (20, [3, 3, 15, 14, 1, 7, 16, 17], [61, 3, 755]), (101, [0, 25], [1]), (2, [25, 4, 24], []), (9, [4, 0], [1]), (21, [23, 7], [48]), (21, [20, 7], [48]), (21, [14, 7], [48]), (20, [16, 0], [50, 1, 0, 1000, 1, 2, 1, 0, 2, 1, 0]), (20, [17, 0], [50, 1, 0, 1001, 1, 2, 1, 0, 2, 1, 1]), (21, [9, 7], [48]), (21, [1, 7], [48]), (20, [11, 0], [50, 1, 0, 1000, 1, 2, 1, 0, 2, 1, 0]), (20, [12, 0], [50, 1, 0, 1001, 1, 2, 1, 0, 2, 1, 1]), (20, [1, 0], [50, 1, 0, 1001, 2, 6, 0, 2, 0, 0, 1, 0, 0, 6, 4, 2, 1, 0, 0, 1, 2, 1, 1]), (20, [3, 3, 15, 14, 1, 7, 16, 17], [61, 3, 755]), (102, [23], [36028797018963968]), (21, [23, 7], [48]), (1, [23, 1, 22], []), (21, [20, 7], [48]), (21, [14, 7], [48]), (21, [9, 7], [48]), (21, [1, 7], [48]), (102, [20], [18014398509481984]), (21, [20, 7], [48]), (1, [20, 1, 19], []), (21, [14, 7], [48]), (21, [9, 7], [48]), (21, [1, 7], [48]), (102, [17], [9007199254740992]), (21, [14, 7], [48]), (1, [14, 1, 13], []), (21, [9, 7], [48]), (21, [1, 7], [48]), (102, [12], [4503599627370496]), (21, [9, 7], [48]), (21, [1, 7], [48]), (1, [9, 1, 8], []), (2, [7, 5, 6], []), (2, [5, 4, 1], [])], [], [], [(20, [0], [60, 2, 2, 596, 0, 1, 7, 8])], [], [(25, 4, -1, -1), (23, 1, 1, 1), (20, 1, 1, 1), (14, 1, 1, 1), (9, 1, 1, 1), (7, 5, -1, -1), (7, 4, -48, -1), (5, 4, -47, 0)])
theorem oo_Gr_removeEdge_at_gx_5 {kA : Nat → ClassId} : or_ok PRD kA GG o_Gr_removeEdge_at_gx_5 := by
  refine or_mk fun A ta ws vs hD hth hl => ?_
  intro t0 r0 t1 k1 t4 k4 t5 k5 t6 k6 t7 k7 t8 k8 t9 k9 t11 k11 t12 k12 t13 k13 t14 k14 t16 k16 t17 k17 t19 k19 t20 k20 t22 k22 t23 k23 t24 k24 t25 k25 d0 d1 d2 d3 d4 d5 d6 d7 f0 f1 f2 f3 f4 f5 f6 f7 f8 f9 f11 f12 ta1 w1 le1 s1 f14 f15 f16 f17 f18 f19 f20 f21 f22 f23 f24 f25 f26 ta2 w2 le2 s2 f28 f29 f30 f31 f32 f33 ta3 w3 le3 s3 f35 f36 f37 f38 f39 ta4 w4 le4 s4 f41 f42 f43 f44 ta5 w5 le5 s5 f46 f47 f48 f49 f50
  replace f0 := shm_127 f0
  replace f1 := shm_216 f1
  replace f2 := shm_143 f2
  replace f6 := shm_5 f6
  replace f12 := shm_840 f12
  have s1 : (∀ b j, w_el ws b j = w_el w1 b j) ∧ ∀ b j, w_fd ws b j = if b = v_ad (n_v vs 0) ∧ j = 1 then n_v vs 25 else w_fd w1 b j := s1.2
  replace f15 := shm_127 f15
  replace f26 := shm_840 f26
  have q15 : n_v vs 15 = n_v vs 2 := f6.symm
  simp only [q15] at f12 f26
  have cr_0_7 := fdq_52 hD hth r0
  have cr_0_8 := fdq_53 hD hth r0
  have ad_2 : v_ad (n_v vs 2) = w_ar ws (n_v vs 0) 7 := congrArg v_ad f1
  have ad_3 : v_ad (n_v vs 3) = w_ar ws (n_v vs 0) 8 := congrArg v_ad f2
  have g0 : v_iv (n_v vs 25) = w_fi ws (n_v vs 0) 1 := congrArg v_iv f0
  simp only [ad_2, ad_3] at f12
  have g15 : v_iv (n_v vs 4) = w_fi w1 (n_v vs 0) 1 := congrArg v_iv f15
  simp only [ad_2, ad_3] at f26
  have fe_0_0_1 : w_fi ws (n_v vs 0) 0 = w_fi w1 (n_v vs 0) 0 := by show v_iv (w_fd _ _ _) = v_iv (w_fd _ _ _); rw [s1.2, if_neg (fun e => absurd e.2 (by decide))]
  have fe_0_1_1 : w_fi ws (n_v vs 0) 1 = v_iv (n_v vs 25) := by show v_iv (w_fd _ _ _) = _; rw [s1.2, if_pos ⟨rfl, rfl⟩]
  have hE_0_7_1 : ∀ j : Int, w_ei ws (w_ar ws (n_v vs 0) 7) j = w_ei w1 (w_ar ws (n_v vs 0) 7) j := fun j => s1.1 _ _
  have hK_0_7 := elq_10 hD hth cr_0_7
  have hE_0_8_1 : ∀ j : Int, w_ei ws (w_ar ws (n_v vs 0) 8) j = w_ei w1 (w_ar ws (n_v vs 0) 8) j := fun j => s1.1 _ _
  have hK_0_8 := elq_11 hD hth cr_0_8
  have kz_0_0 := fdq_23 hD hth r0
  have kz_0_1 := fdq_38 hD hth r0
  have nf0 : fc_1 PRD (20, [0], [60, 2, 2, 596, 0, 1, 7, 8]) ws (vs) := ⟨nf_in hl rfl, sgq_401 (vc_Gr_removeEdge_at_gx_5_0 (v_iv (n_v vs 1)) (v_iv (n_v vs 4)) (v_iv (n_v vs 5)) (v_iv (n_v vs 6)) (v_iv (n_v vs 7)) (v_iv (n_v vs 8)) (v_iv (n_v vs 9)) (v_iv (n_v vs 11)) (v_iv (n_v vs 12)) (v_iv (n_v vs 13)) (v_iv (n_v vs 14)) (v_iv (n_v vs 16)) (v_iv (n_v vs 17)) (v_iv (n_v vs 19)) (v_iv (n_v vs 20)) (v_iv (n_v vs 22)) (v_iv (n_v vs 23)) (v_iv (n_v vs 24)) (v_iv (n_v vs 25)) (w_fi ws (n_v vs 0) 1) (w_fi ws (n_v vs 0) 0) (w_ei ws (w_ar ws (n_v vs 0) 8)) (w_ei ws (w_ar ws (n_v vs 0) 7)) (w_fi w1 (n_v vs 0) 1) (w_fi w1 (n_v vs 0) 0) (w_ei w1 (w_ar ws (n_v vs 0) 8)) (w_ei w1 (w_ar ws (n_v vs 0) 7)) k1 k4 k5 k6 k7 k8 k9 k11 k12 k13 k14 k16 k17 k19 k20 k22 k23 k24 k25 d0 d1 d2 d3 d4 d5 d6 d7 g0 (shm_829 f3) (shm_829 f4) (shm_829 f5) (shm_830 f7) (shm_829 f8) (shm_829 f9) (shm_830 f11) f12 (shm_14 f14) g15 (shm_829 f16) (shm_829 f17) (shm_829 f18) (shm_830 f19) (shm_831 f20) (shm_829 f21) (shm_829 f22) (shm_830 f23) (shm_831 f24) (shm_402 f25) f26 (shm_829 f28) (shm_12 f29) (shm_829 f30) (shm_829 f31) (shm_829 f32) (shm_829 f33) (shm_829 f35) (shm_12 f36) (shm_829 f37) (shm_829 f38) (shm_829 f39) (shm_829 f41) (shm_12 f42) (shm_829 f43) (shm_829 f44) (shm_829 f46) (shm_829 f47) (shm_12 f48) (shm_14 f49) (shm_14 f50) fe_0_0_1 fe_0_1_1 hE_0_7_1 hK_0_7 hE_0_8_1 hK_0_8 kz_0_0 kz_0_1)⟩
  refine ⟨(fun _ h => (by cases h)), [], trivial, ?_, (fun _ h => (by cases h))⟩
  rw [List.append_nil]
  exact List.forall_mem_cons.mpr ⟨⟨show (20 : Nat) < 100 from by decide, nf0⟩, (fun _ h => (by cases h))⟩
def n_Gr_removeEdge_at_gx_an : List an_T := []
def t_Gr_removeEdge_at_gx_ct : ct_L := [(69, 77, e_acp_7), (117, 77, e_acp_8), (165, 77, e_acp_5), (213, 77, e_acp_6)]
set_option maxRecDepth 100000 in
theorem c_Gr_removeEdge_at_gx {l : Launch} {D : va_G} {kA : Nat → ClassId} : ct_ok PRD l D kA GG y_Gr_removeEdge_at_gx z_Gr_removeEdge_at_gx e_Gr_removeEdge_at_gx := chk_all_ok (FT := [(15, 3, 1), (35, 3, 7), (38, 3, 8), (41, 3, 9), (44, 3, 10)]) (PT := [(15, 3, 1, .int)]) (CT := t_Gr_removeEdge_at_gx_ct) (KT := []) (NT := []) (AN := n_Gr_removeEdge_at_gx_an) (OT := [o_Gr_removeEdge_at_gx_0, o_Gr_removeEdge_at_gx_1, o_Gr_removeEdge_at_gx_2, o_Gr_removeEdge_at_gx_3, o_Gr_removeEdge_at_gx_4, o_Gr_removeEdge_at_gx_5]) 0 216 (List.forall_mem_cons.mpr ⟨oo_Gr_removeEdge_at_gx_0, List.forall_mem_cons.mpr ⟨oo_Gr_removeEdge_at_gx_1, List.forall_mem_cons.mpr ⟨oo_Gr_removeEdge_at_gx_2, List.forall_mem_cons.mpr ⟨oo_Gr_removeEdge_at_gx_3, List.forall_mem_cons.mpr ⟨oo_Gr_removeEdge_at_gx_4, List.forall_mem_cons.mpr ⟨oo_Gr_removeEdge_at_gx_5, List.forall_mem_nil _⟩⟩⟩⟩⟩⟩) (by decide +kernel) ⟨List.forall_mem_cons.mpr ⟨gf_Gr_15, List.forall_mem_cons.mpr ⟨gf_Gr_35, List.forall_mem_cons.mpr ⟨gf_Gr_38, List.forall_mem_cons.mpr ⟨gf_Gr_41, List.forall_mem_cons.mpr ⟨gf_Gr_44, List.forall_mem_nil _⟩⟩⟩⟩⟩, List.forall_mem_cons.mpr ⟨pf_Gr_15, List.forall_mem_nil _⟩, List.forall_mem_cons.mpr ⟨cl_copyU (na := 3) rfl rfl (by decide) (Or.inl (by decide)) (fun U U_zq xs sp dp n a b c d e f e1 e2 e3 h => rt1_rt2 (U := U) (U_zq := U_zq) (xs := xs) (sp := sp) (dp := dp) (n := n) a b c d e f e1 e2 e3 h) wm_748 wm_750 wm_749 wm_15, List.forall_mem_cons.mpr ⟨cl_copyU (na := 3) rfl rfl (by decide) (Or.inl (by decide)) (fun U U_zq xs sp dp n a b c d e f e1 e2 e3 h => rh1_rh2 (U := U) (U_zq := U_zq) (xs := xs) (sp := sp) (dp := dp) (n := n) a b c d e f e1 e2 e3 h) wm_748 wm_750 wm_749 wm_15, List.forall_mem_cons.mpr ⟨cl_copy rfl rfl (by decide) (by decide) (by decide) wm_748 wm_750 wm_749 wm_15, List.forall_mem_cons.mpr ⟨cl_copy rfl rfl (by decide) (by decide) (by decide) wm_748 wm_750 wm_749 wm_15, List.forall_mem_nil _⟩⟩⟩⟩, List.forall_mem_nil _, List.forall_mem_nil _, GG_pl⟩ (by decide +kernel)
set_option maxHeartbeats 4000000 in
theorem vc_La_fillPairs_0_r0 (x1 : Int) (x2 : Int) (x4 : Int) (x5 : Int) (x6 : Int) (x9 : Int) (x10 : Int) (slot_0 : Int → Int) (pieceLower_0 : Int → Int) (pieceStart_0 : Int → Int) (items_0 : Int) (layerCount_0 : Int) (k1 : 0 ≤ x1 ∧ x1 ≤ 22) (k2 : 0 ≤ x2 ∧ x2 ≤ 119) (k4 : 1 ≤ x4 ∧ x4 ≤ 1) (k5 : 1 ≤ x5 ∧ x5 ≤ 23) (k6 : 1 ≤ x6 ∧ x6 ≤ 120) (k9 : 0 ≤ x9 ∧ x9 ≤ 71) (k10 : 0 ≤ x10 ∧ x10 ≤ 71) (d0 : x6 + (-4294967296) ≤ x2 ∧ x2 ≤ x6 + (-1)) (d1 : x1 + 1 ≤ x5 ∧ x5 ≤ x1 + 1) (h0 : x10 = slot_0 (x9)) (h1 : x9 = pieceLower_0 (x2)) (f4 : x2 < x6) (h5 : x6 = pieceStart_0 (x5)) (f6 : x5 = x1 + x4) (f8 : PCL (items_0) (layerCount_0) (pieceLower_0) (pieceStart_0)) (f9 : SLT (items_0) (slot_0)) (f10 : (0 ≤ x1) ∧ ((x1 + 2) ≤ layerCount_0)) (hK_0_7 : ∀ j : Int, 0 ≤ j → j < 120 → 0 ≤ pieceLower_0 j ∧ pieceLower_0 j ≤ 71) (hK_0_9 : ∀ j : Int, 0 ≤ j → j < 26 → 0 ≤ pieceStart_0 j ∧ pieceStart_0 j ≤ 120) (hK_0_12 : ∀ j : Int, 0 ≤ j → j < 72 → 0 ≤ slot_0 j ∧ slot_0 j ≤ 71) (kz_0_2 : 0 ≤ layerCount_0 ∧ layerCount_0 ≤ 24) (kz_0_3 : 0 ≤ items_0 ∧ items_0 ≤ 72) : 0 ≤ x10 ∧ x10 ≤ 5 := by
  first
    | omega
    | exact slt_pcl (l := x1) (i := x2) (e := x6) (q := x5) (x := x9) (y := x10) ‹SLT _ _› ‹PCL _ _ _ _› (by omega) (by omega) (by omega) (by assumption) (by omega) (by omega) (by assumption) (by assumption)
    | exact slt_pcl (l := x1) (i := x5) (e := x9) (q := x8) (x := x12) (y := x13) ‹SLT _ _› ‹PCL _ _ _ _› (by omega) (by omega) (by omega) (by assumption) (by omega) (by omega) (by assumption) (by assumption)
  
