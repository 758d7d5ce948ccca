
def o_Ro_readWay_4 : or_T := (77, 14, [(0, (2, 0, 0, [9])), (1, (0, 0, 5999, [])), (4, (0, 0, 5999, [])), (5, (0, 0, 23, [])), (6, (0, 6000, 6000, [])), (7, (0, 0, 5999, [])), (10, (0, 24, 24, [])), (13, (0, -2147483648, 2147483647, []))], [(9, [13, 0], [4]), (9, [5, 0], [17]), (7, [5, 10], [2]), (7, [1, 7], [1]), (9, [7, 0], [7]), (7, [4, 6], [2]), (20, [0], [50, 2, 0, 4, 5, 2, 7, 0, 2, 0, 1, 2, 0, 4, 2, 7, 0, 2, 0, 1, 2, 0, 5, 0, 8, 6, 3, 2, 0, 4, 2, 0, 5, 0, 6000]), (20, [1, 0], [50, 2, 0, 1004, 1005, 0, 6, 4, 2, 1, 0, 0, 1, 6, 3, 2, 1, 4, 2, 1, 5]), (20, [0, 4], [30, 0, 1, 1, 17, -1, 0, 0])], [(13, (0, 1, 6000, []))], [], [], [], [])
theorem oo_Ro_readWay_4 {kA : Nat → ClassId} : or_ok PRD kA GG o_Ro_readWay_4 := by
  refine or_mk fun A ta ws vs hD hth hl => ?_
  intro t0 r0 t1 k1 t4 k4 t5 k5 t6 k6 t7 k7 t10 k10 t13 k13 f0 f1 f2 f3 f4 f5 f6 f7 f8
  replace f0 := shm_108 f0
  replace f1 := shm_795 f1
  replace f2 := shm_6 f2
  replace f3 := shm_40 f3
  replace f4 := shm_198 f4
  replace f5 := shm_6 f5
  replace f6 := shm_466 f6
  replace f7 := shm_467 f7
  replace f8 := shm_1121 f8
  have g0 : v_iv (n_v vs 13) = w_fi ws (n_v vs 0) 4 := congrArg v_iv f0
  have g1 : v_iv (n_v vs 5) = w_fi ws (n_v vs 0) 17 := congrArg v_iv f1
  have g4 : v_iv (n_v vs 7) = w_fi ws (n_v vs 0) 7 := congrArg v_iv f4
  have kz_0_4 := fdq_103 hD hth r0
  have kz_0_5 := fdq_104 hD hth r0
  have kz_0_7 := fdq_269 hD hth r0
  have kz_0_17 := fdq_268 hD hth r0
  have g1 := grid_bd (w := w_fi ws (n_v vs 0) 4) (h := w_fi ws (n_v vs 0) 5) (by omega) (by omega) (by omega)
  have rf13 : tv_ok ta (0, 1, 6000, []) (n_v vs 13) := tv_in t13 (by first | omega | grind) (by first | omega | grind)
  refine ⟨List.forall_mem_cons.mpr ⟨rf13, (fun _ h => (by cases h))⟩, [], trivial, ?_, (fun _ h => (by cases h))⟩
  rw [List.append_nil]
  exact (fun _ h => (by cases h))
def o_Ro_readWay_5 : or_T := (15, 30, [(0, (2, 0, 0, [9])), (1, (0, 0, 5999, [])), (4, (0, 0, 5999, [])), (5, (0, 0, 23, [])), (6, (0, 6000, 6000, [])), (7, (0, 0, 5999, [])), (10, (0, 24, 24, [])), (11, (2, 0, 0, [116])), (13, (0, 1, 6000, [])), (16, (2, 0, 0, [117])), (20, (0, 1, 1, [])), (21, (0, 1, 24, [])), (22, (0, 0, 5999, [])), (23, (0, -1, -1, [])), (29, (0, 1, 6000, []))], [(6, [29, 4], [1]), (7, [22, 23], [1]), (20, [22, 0], [50, 2, 0, 1004, 1005, 3, 6, 1, 2, 1, 0, 0, -1, 2, 6, 0, 2, 0, 0, 1, 0, 0, 6, 4, 2, 1, 0, 0, 1, 6, 3, 2, 1, 4, 2, 1, 5]), (20, [0], [50, 2, 0, 4, 5, 2, 7, 0, 2, 0, 1, 2, 0, 4, 2, 7, 0, 2, 0, 1, 2, 0, 5, 0, 8, 6, 3, 2, 0, 4, 2, 0, 5, 0, 6000]), (20, [1, 0], [50, 2, 0, 1004, 1005, 0, 6, 4, 2, 1, 0, 0, 1, 6, 3, 2, 1, 4, 2, 1, 5]), (101, [0, 21], [17]), (1, [21, 5, 20], []), (9, [5, 0], [17]), (20, [0], [50, 2, 0, 4, 5, 2, 7, 0, 2, 0, 1, 2, 0, 4, 2, 7, 0, 2, 0, 1, 2, 0, 5, 0, 8, 6, 3, 2, 0, 4, 2, 0, 5, 0, 6000]), (20, [1, 0], [50, 2, 0, 1004, 1005, 0, 6, 4, 2, 1, 0, 0, 1, 6, 3, 2, 1, 4, 2, 1, 5]), (20, [0, 4], [30, 0, 1, 1, 17, -1, 0, 0]), (100, [16, 5, 19], []), (9, [13, 0], [4]), (9, [16, 0], [16]), (20, [0], [50, 2, 0, 4, 5, 2, 7, 0, 2, 0, 1, 2, 0, 4, 2, 7, 0, 2, 0, 1, 2, 0, 5, 0, 8, 6, 3, 2, 0, 4, 2, 0, 5, 0, 6000]), (20, [1, 0], [50, 2, 0, 1004, 1005, 0, 6, 4, 2, 1, 0, 0, 1, 6, 3, 2, 1, 4, 2, 1, 5]), (20, [0, 4], [30, 0, 1, 1, 17, -1, 0, 0]), (100, [11, 5, 15], []), (9, [11, 0], [15]), (7, [5, 10], [2]), (7, [1, 7], [1]), (9, [7, 0], [7]), (7, [4, 6], [2]), (20, [0], [50, 2, 0, 4, 5, 2, 7, 0, 2, 0, 1, 2, 0, 4, 2, 7, 0, 2, 0, 1, 2, 0, 5, 0, 8, 6, 3, 2, 0, 4, 2, 0, 5, 0, 6000]), (20, [1, 0], [50, 2, 0, 1004, 1005, 0, 6, 4, 2, 1, 0, 0, 1, 6, 3, 2, 1, 4, 2, 1, 5]), (20, [0, 4], [30, 0, 1, 1, 17, -1, 0, 0])], [], [], [(20, [22, 0], [50, 2, 0, 1004, 1005, 0, 6, 4, 2, 1, 0, 0, 1, 6, 3, 2, 1, 4, 2, 1, 5]), (20, [0, 29], [30, 0, 1, 1, 17, -1, 0, 0])], [], [(29, 4, 1, 1), (21, 5, 1, 1)])
theorem oo_Ro_readWay_5 {kA : Nat → ClassId} : or_ok PRD kA GG o_Ro_readWay_5 := by
  refine or_mk fun A ta ws vs hD hth hl => ?_
  intro t0 r0 t1 k1 t4 k4 t5 k5 t6 k6 t7 k7 t10 k10 t11 r11 t13 k13 t16 r16 t20 k20 t21 k21 t22 k22 t23 k23 t29 k29 d0 d1 f0 f1 f2 f3 f4 ta1 w1 le1 s1 f6 f7 f8 f9 f10 ta2 w2 le2 s2 f12 f13 f14 f15 f16 ta3 w3 le3 s3 f18 f19 f20 f21 f22 f23 f24 f25
  replace f0 := shm_4 f0
  replace f1 := shm_40 f1
  replace f2 := shm_469 f2
  replace f3 := shm_466 f3
  replace f4 := shm_467 f4
  have s1 : (∀ b j, w_el ws b j = w_el w1 b j) ∧ ∀ b j, w_fd ws b j = if b = v_ad (n_v vs 0) ∧ j = 17 then n_v vs 21 else w_fd w1 b j := s1.2
  replace f6 := shm_12 f6
  replace f7 := shm_795 f7
  replace f8 := shm_466 f8
  replace f9 := shm_467 f9
  replace f10 := shm_1121 f10
  have s2 : (∀ b j, w_el w1 b j = if b = v_ad (n_v vs 16) ∧ j = (v_iv (n_v vs 5)).toNat then v_iv (n_v vs 19) else w_el w2 b j) ∧ ∀ b k, w_fd w1 b k = w_fd w2 b k := s2.2
  replace f12 := shm_108 f12
  replace f13 := shm_176 f13
  replace f14 := shm_466 f14
  replace f15 := shm_467 f15
  replace f16 := shm_1121 f16
  have s3 : (∀ b j, w_el w2 b j = if b = v_ad (n_v vs 11) ∧ j = (v_iv (n_v vs 5)).toNat then v_iv (n_v vs 15) else w_el w3 b j) ∧ ∀ b k, w_fd w2 b k = w_fd w3 b k := s3.2
  replace f18 := shm_177 f18
  replace f19 := shm_6 f19
  replace f20 := shm_40 f20
  replace f21 := shm_198 f21
  replace f22 := shm_6 f22
  replace f23 := shm_466 f23
  replace f24 := shm_467 f24
  replace f25 := shm_1121 f25
  have ar_0_15_1 : w_ar w1 (n_v vs 0) 15 = w_ar ws (n_v vs 0) 15 := by show v_ad (w_fd w1 _ _) = v_ad (w_fd ws _ _); rw [s1.2, if_neg (fun e => absurd e.2 (by decide))]
  have ar_0_15_2 : w_ar w2 (n_v vs 0) 15 = w_ar ws (n_v vs 0) 15 := by rw [← ar_0_15_1]; show v_ad (w_fd w2 _ _) = v_ad (w_fd w1 _ _); rw [s2.2]
  have ar_0_15_3 : w_ar w3 (n_v vs 0) 15 = w_ar ws (n_v vs 0) 15 := by rw [← ar_0_15_2]; show v_ad (w_fd w3 _ _) = v_ad (w_fd w2 _ _); rw [s3.2]
  have cr_0_15 := fdq_270 hD hth r0
  have ar_0_16_1 : w_ar w1 (n_v vs 0) 16 = w_ar ws (n_v vs 0) 16 := by show v_ad (w_fd w1 _ _) = v_ad (w_fd ws _ _); rw [s1.2, if_neg (fun e => absurd e.2 (by decide))]
  have ar_0_16_2 : w_ar w2 (n_v vs 0) 16 = w_ar ws (n_v vs 0) 16 := by rw [← ar_0_16_1]; show v_ad (w_fd w2 _ _) = v_ad (w_fd w1 _ _); rw [s2.2]
  have ar_0_16_3 : w_ar w3 (n_v vs 0) 16 = w_ar ws (n_v vs 0) 16 := by rw [← ar_0_16_2]; show v_ad (w_fd w3 _ _) = v_ad (w_fd w2 _ _); rw [s3.2]
  have cr_0_16 := fdq_271 hD hth r0
  have ad_16 : v_ad (n_v vs 16) = w_ar ws (n_v vs 0) 16 := (congrArg v_ad f13).trans ar_0_16_2
  have ad_11 : v_ad (n_v vs 11) = w_ar ws (n_v vs 0) 15 := (congrArg v_ad f18).trans ar_0_15_3
  have g7 : v_iv (n_v vs 5) = w_fi w1 (n_v vs 0) 17 := congrArg v_iv f7
  have g12 : v_iv (n_v vs 13) = w_fi w2 (n_v vs 0) 4 := congrArg v_iv f12
  have g21 : v_iv (n_v vs 7) = w_fi w3 (n_v vs 0) 7 := congrArg v_iv f21
  have fe_0_4_1 : w_fi ws (n_v vs 0) 4 = w_fi w1 (n_v vs 0) 4 := by show v_iv (w_fd _ _ _) = v_iv (w_fd _ _ _); rw [s1.2, if_neg (fun e => absurd e.2 (by decide))]
  have fe_0_5_1 : w_fi ws (n_v vs 0) 5 = w_fi w1 (n_v vs 0) 5 := by show v_iv (w_fd _ _ _) = v_iv (w_fd _ _ _); rw [s1.2, if_neg (fun e => absurd e.2 (by decide))]
  have fe_0_7_1 : w_fi ws (n_v vs 0) 7 = w_fi w1 (n_v vs 0) 7 := by show v_iv (w_fd _ _ _) = v_iv (w_fd _ _ _); rw [s1.2, if_neg (fun e => absurd e.2 (by decide))]
  have fe_0_17_1 : w_fi ws (n_v vs 0) 17 = v_iv (n_v vs 21) := by show v_iv (w_fd _ _ _) = _; rw [s1.2, if_pos ⟨rfl, rfl⟩]
  have fe_0_4_2 : w_fi w1 (n_v vs 0) 4 = w_fi w2 (n_v vs 0) 4 := congrArg v_iv (s2.2 _ _)
  have fe_0_5_2 : w_fi w1 (n_v vs 0) 5 = w_fi w2 (n_v vs 0) 5 := congrArg v_iv (s2.2 _ _)
  have fe_0_7_2 : w_fi w1 (n_v vs 0) 7 = w_fi w2 (n_v vs 0) 7 := congrArg v_iv (s2.2 _ _)
  have fe_0_17_2 : w_fi w1 (n_v vs 0) 17 = w_fi w2 (n_v vs 0) 17 := congrArg v_iv (s2.2 _ _)
  have fe_0_4_3 : w_fi w2 (n_v vs 0) 4 = w_fi w3 (n_v vs 0) 4 := congrArg v_iv (s3.2 _ _)
  have fe_0_5_3 : w_fi w2 (n_v vs 0) 5 = w_fi w3 (n_v vs 0) 5 := congrArg v_iv (s3.2 _ _)
  have fe_0_7_3 : w_fi w2 (n_v vs 0) 7 = w_fi w3 (n_v vs 0) 7 := congrArg v_iv (s3.2 _ _)
  have fe_0_17_3 : w_fi w2 (n_v vs 0) 17 = w_fi w3 (n_v vs 0) 17 := congrArg v_iv (s3.2 _ _)
  have pe_0_4_5_1 : w_fi ws (n_v vs 0) 4 * w_fi ws (n_v vs 0) 5 = w_fi w1 (n_v vs 0) 4 * w_fi w1 (n_v vs 0) 5 := by rw [fe_0_4_1, fe_0_5_1]
  have pe_0_4_5_2 : w_fi w1 (n_v vs 0) 4 * w_fi w1 (n_v vs 0) 5 = w_fi w2 (n_v vs 0) 4 * w_fi w2 (n_v vs 0) 5 := by rw [fe_0_4_2, fe_0_5_2]
  have pe_0_4_5_3 : w_fi w2 (n_v vs 0) 4 * w_fi w2 (n_v vs 0) 5 = w_fi w3 (n_v vs 0) 4 * w_fi w3 (n_v vs 0) 5 := by rw [fe_0_4_3, fe_0_5_3]
  have kz_0_4 := fdq_103 hD hth r0
  have kz_0_5 := fdq_104 hD hth r0
  have kz_0_7 := fdq_269 hD hth r0
  have kz_0_17 := fdq_268 hD hth r0
  have nf0 : fc_1 PRD (20, [22, 0], [50, 2, 0, 1004, 1005, 0, 6, 4, 2, 1, 0, 0, 1, 6, 3, 2, 1, 4, 2, 1, 5]) ws (vs) := by
    refine ⟨nf_in hl rfl, sgq_467 ?_⟩
    · show (v_iv (n_v vs 22) + 1) ≤ (w_fi ws (n_v vs 0) 4 * w_fi ws (n_v vs 0) 5)
      first | omega | grind
  have nf1 : fc_1 PRD (20, [0, 29], [30, 0, 1, 1, 17, -1, 0, 0]) ws (vs) := by
    refine ⟨nf_in hl rfl, sgq_1121 ?_⟩
    · show 1 * w_fi ws (n_v vs 0) 17 + ((-1) * v_iv (n_v vs 29) + 0) ≤ 0
      omega
  refine ⟨(fun _ h => (by cases h)), [], trivial, ?_, (fun _ h => (by cases h))⟩
  rw [List.append_nil]
  exact List.forall_mem_cons.mpr ⟨⟨show (20 : Nat) < 100 from by decide, nf0⟩, List.forall_mem_cons.mpr ⟨⟨show (20 : Nat) < 100 from by decide, nf1⟩, (fun _ h => (by cases h))⟩⟩
def n_Ro_readWay_an : List an_T := [(15, [(0, (2, 0, 0, [9])), (1, (0, 0, 5999, [])), (2, (0, (Int.negSucc 0), 3, [])), (3, (0, (Int.negSucc 2147483647), 1000000000, [])), (4, (0, 0, 6000, []))], [], (0, 0), [(0, 0, 99985), (1, 4, 6000), (0, 0, 100000)], [(2, 4, (Int.negSucc 999999999999), 2)], [((0, 17), (0, 0, 6000, []))], [], 0, [], [(20, [0], [50, 2, 0, 4, 5, 2, 7, 0, 2, 0, 1, 2, 0, 4, 2, 7, 0, 2, 0, 1, 2, 0, 5, 0, 8, 6, 3, 2, 0, 4, 2, 0, 5, 0, 6000]), (20, [1, 0], [50, 2, 0, 1004, 1005, 0, 6, 4, 2, 1, 0, 0, 1, 6, 3, 2, 1, 4, 2, 1, 5]), (20, [0, 4], [30, 0, 1, 1, 17, (Int.negSucc 0), 0, 0])])]
def t_Ro_readWay_ct : ct_L := [(1, 144, e_Ro_next), (1, 147, e_Ro_nextStep)]
set_option maxRecDepth 100000 in
theorem c_Ro_readWay {l : Launch} {D : va_G} {kA : Nat → ClassId} (h_Ro_next : ct_ok PRD l D kA GG y_Ro_next z_Ro_next e_Ro_next) (h_Ro_nextStep : ct_ok PRD l D kA GG y_Ro_nextStep z_Ro_nextStep e_Ro_nextStep) : ct_ok PRD l D kA GG y_Ro_readWay z_Ro_readWay e_Ro_readWay := chk_all_ok (FT := [(19, 9, 2), (23, 9, 3), (26, 9, 4), (32, 9, 6), (35, 9, 7), (38, 9, 8), (45, 9, 10), (62, 9, 15), (65, 9, 16), (68, 9, 17)]) (PT := [(68, 9, 17, .int)]) (CT := t_Ro_readWay_ct) (KT := []) (NT := []) (AN := n_Ro_readWay_an) (OT := [o_Ro_readWay_0, o_Ro_readWay_1, o_Ro_readWay_2, o_Ro_readWay_3, o_Ro_readWay_4, o_Ro_readWay_5]) 3 636 (List.forall_mem_cons.mpr ⟨oo_Ro_readWay_0, List.forall_mem_cons.mpr ⟨oo_Ro_readWay_1, List.forall_mem_cons.mpr ⟨oo_Ro_readWay_2, List.forall_mem_cons.mpr ⟨oo_Ro_readWay_3, List.forall_mem_cons.mpr ⟨oo_Ro_readWay_4, List.forall_mem_cons.mpr ⟨oo_Ro_readWay_5, List.forall_mem_nil _⟩⟩⟩⟩⟩⟩) (by decide +kernel) ⟨List.forall_mem_cons.mpr ⟨gf_Ro_19, List.forall_mem_cons.mpr ⟨gf_Ro_23, List.forall_mem_cons.mpr ⟨gf_Ro_26, List.forall_mem_cons.mpr ⟨gf_Ro_32, List.forall_mem_cons.mpr ⟨gf_Ro_35, List.forall_mem_cons.mpr ⟨gf_Ro_38, List.forall_mem_cons.mpr ⟨gf_Ro_45, List.forall_mem_cons.mpr ⟨gf_Ro_62, List.forall_mem_cons.mpr ⟨gf_Ro_65, List.forall_mem_cons.mpr ⟨gf_Ro_68, List.forall_mem_nil _⟩⟩⟩⟩⟩⟩⟩⟩⟩⟩, List.forall_mem_cons.mpr ⟨pf_Ro_68, List.forall_mem_nil _⟩, List.forall_mem_cons.mpr ⟨cl_virtual (y := y_Ro_next) (ci := 9) rfl rfl ⟨_, _, rfl⟩ (by decide +kernel) h_Ro_next wm_1961 wm_22 wm_1958 wm_1960 wv_9_6 ⟨by decide, by decide, by decide +kernel⟩ (by decide), List.forall_mem_cons.mpr ⟨cl_virtual (y := y_Ro_nextStep) (ci := 9) rfl rfl ⟨_, _, rfl⟩ (by decide +kernel) h_Ro_nextStep wm_1969 wm_22 wm_1966 wm_1968 wv_9_8 ⟨by decide, by decide, by decide +kernel⟩ (by decide), List.forall_mem_nil _⟩⟩, List.forall_mem_nil _, List.forall_mem_nil _, GG_pl⟩ (by decide +kernel)
set_option maxHeartbeats 4000000 in
theorem vc_Mo_barX_0_r0 (x1 : Int) (x4 : Int) (x5 : Int) (roundOf_0 : Int → Int) (pt_0 : Int → Int) (ph_0 : Int → Int) (alive_0 : Int → Int) (rotMany_0 : Int → Int) (rot_0 : Int → Int) (roundBegin_0 : Int → Int) (roundDart_0 : Int → Int) (pn_0 : Int) (pm_0 : Int) (rounds_0 : Int) (k1 : 1 ≤ x1 ∧ x1 ≤ 79) (k4 : 1 ≤ x4 ∧ x4 ≤ 159) (k5 : (-1) ≤ x5 ∧ x5 ≤ 159) (h0 : x5 = roundOf_0 (x4)) (f1 : 1 * x4 + ((-2) * x1 + 0) ≤ 1) (f2 : (-1) * x4 + (2 * x1 + 0) ≤ 0) (f5 : BRB (pn_0) (pm_0) (rounds_0) (pt_0) (ph_0) (alive_0) (rotMany_0) (rot_0) (roundOf_0) (roundBegin_0) (roundDart_0)) (f6 : 1 * x1 + ((-1) * pm_0 + 0) ≤ (-1)) (kz_0_31 : 0 ≤ pn_0 ∧ pn_0 ≤ 25) (kz_0_32 : 0 ≤ pm_0 ∧ pm_0 ≤ 80) (kz_0_53 : 0 ≤ rounds_0 ∧ rounds_0 ≤ 160) : 0 ≤ x5 ∧ x5 ≤ 99 := by
  have h := brb_R ‹BRB _ _ _ _ _ _ _ _ _ _ _›
  have h2 := brb_ro (d := x4) ‹BRB _ _ _ _ _ _ _ _ _ _ _› (by omega) (by omega)
  omega
def o_Mo_barX_0 : or_T := (22, 6, [(0, (2, 0, 0, [165])), (1, (0, 1, 79, [])), (3, (2, 0, 0, [196])), (4, (0, 1, 159, [])), (5, (0, -1, 159, []))], [(10, [5, 3, 4], []), (23, [4, 1], [1, 1, -2]), (23, [4, 1], [0, -1, 2]), (9, [3, 0], [54]), (8, [1], [1]), (20, [0], [60, 3, 8, 316, 31, 32, 53, 33, 34, 35, 36, 37, 54, 56, 57]), (20, [1, 0], [30, -1, 1, 0, 0, -1, 1, 32])], [(5, (0, 0, 99, []))], [], [], [], [])
theorem oo_Mo_barX_0 {kA : Nat → ClassId} : or_ok PRD kA GG o_Mo_barX_0 := by
  refine or_mk fun A ta ws vs hD hth hl => ?_
  intro t0 r0 t1 k1 t3 r3 t4 k4 t5 k5 f0 f1 f2 f3 f4 f5 f6
  replace f0 := shm_107 f0
  replace f3 := shm_1122 f3
  have ad_3 : v_ad (n_v vs 3) = w_ar ws (n_v vs 0) 54 := congrArg v_ad f3
  simp only [ad_3] at f0
  have h0 : v_iv (n_v vs 5) = w_ei ws (w_ar ws (n_v vs 0) 54) (v_iv (n_v vs 4)) := f0
  have kz_0_31 := fdq_145 hD hth r0
  have kz_0_32 := fdq_140 hD hth r0
  have kz_0_53 := fdq_275 hD hth r0
  have hrf0 : 0 ≤ v_iv (n_v vs 5) ∧ v_iv (n_v vs 5) ≤ 99 := vc_Mo_barX_0_r0 (v_iv (n_v vs 1)) (v_iv (n_v vs 4)) (v_iv (n_v vs 5)) (w_ei ws (w_ar ws (n_v vs 0) 54)) (w_ei ws (w_ar ws (n_v vs 0) 33)) (w_ei ws (w_ar ws (n_v vs 0) 34)) (w_ei ws (w_ar ws (n_v vs 0) 35)) (w_ei ws (w_ar ws (n_v vs 0) 36)) (w_ei ws (w_ar ws (n_v vs 0) 37)) (w_ei ws (w_ar ws (n_v vs 0) 56)) (w_ei ws (w_ar ws (n_v vs 0) 57)) (w_fi ws (n_v vs 0) 31) (w_fi ws (n_v vs 0) 32) (w_fi ws (n_v vs 0) 53) k1 k4 k5 h0 (shm_143 f1) (shm_144 f2) (shm_1123 f5) (shm_975 f6) kz_0_31 kz_0_32 kz_0_53
  have rf5 : tv_ok ta (0, 0, 99, []) (n_v vs 5) := tv_in t5 (by first | omega | grind) (by first | omega | grind)
  refine ⟨List.forall_mem_cons.mpr ⟨rf5, (fun _ h => (by cases h))⟩, [], trivial, ?_, (fun _ h => (by cases h))⟩
  rw [List.append_nil]
  exact (fun _ h => (by cases h))
set_option maxHeartbeats 4000000 in
theorem vc_Mo_barX_1_r0 (x1 : Int) (x4 : Int) (x5 : Int) (roundOf_0 : Int → Int) (pt_0 : Int → Int) (ph_0 : Int → Int) (alive_0 : Int → Int) (rotMany_0 : Int → Int) (rot_0 : Int → Int) (roundBegin_0 : Int → Int) (roundDart_0 : Int → Int) (pn_0 : Int) (pm_0 : Int) (rounds_0 : Int) (k1 : 1 ≤ x1 ∧ x1 ≤ 79) (k4 : 0 ≤ x4 ∧ x4 ≤ 158) (k5 : (-1) ≤ x5 ∧ x5 ≤ 159) (h0 : x5 = roundOf_0 (x4)) (f1 : 1 * x4 + ((-2) * x1 + 0) ≤ 1) (f2 : (-1) * x4 + (2 * x1 + 0) ≤ 0) (f5 : BRB (pn_0) (pm_0) (rounds_0) (pt_0) (ph_0) (alive_0) (rotMany_0) (rot_0) (roundOf_0) (roundBegin_0) (roundDart_0)) (f6 : 1 * x1 + ((-1) * pm_0 + 0) ≤ (-1)) (kz_0_31 : 0 ≤ pn_0 ∧ pn_0 ≤ 25) (kz_0_32 : 0 ≤ pm_0 ∧ pm_0 ≤ 80) (kz_0_53 : 0 ≤ rounds_0 ∧ rounds_0 ≤ 160) : 0 ≤ x5 ∧ x5 ≤ 99 := by
  have h := brb_R ‹BRB _ _ _ _ _ _ _ _ _ _ _›
  have h2 := brb_ro (d := x4) ‹BRB _ _ _ _ _ _ _ _ _ _ _› (by omega) (by omega)
  omega
def o_Mo_barX_1 : or_T := (22, 6, [(0, (2, 0, 0, [165])), (1, (0, 1, 79, [])), (3, (2, 0, 0, [196])), (4, (0, 0, 158, [])), (5, (0, -1, 159, []))], [(10, [5, 3, 4], []), (23, [4, 1], [1, 1, -2]), (23, [4, 1], [0, -1, 2]), (9, [3, 0], [54]), (8, [1], [1]), (20, [0], [60, 3, 8, 316, 31, 32, 53, 33, 34, 35, 36, 37, 54, 56, 57]), (20, [1, 0], [30, -1, 1, 0, 0, -1, 1, 32])], [(5, (0, 0, 99, []))], [], [], [], [])
theorem oo_Mo_barX_1 {kA : Nat → ClassId} : or_ok PRD kA GG o_Mo_barX_1 := by
  refine or_mk fun A ta ws vs hD hth hl => ?_
  intro t0 r0 t1 k1 t3 r3 t4 k4 t5 k5 f0 f1 f2 f3 f4 f5 f6
  replace f0 := shm_107 f0
  replace f3 := shm_1122 f3
  have ad_3 : v_ad (n_v vs 3) = w_ar ws (n_v vs 0) 54 := congrArg v_ad f3
  simp only [ad_3] at f0
  have h0 : v_iv (n_v vs 5) = w_ei ws (w_ar ws (n_v vs 0) 54) (v_iv (n_v vs 4)) := f0
  have kz_0_31 := fdq_145 hD hth r0
  have kz_0_32 := fdq_140 hD hth r0
  have kz_0_53 := fdq_275 hD hth r0
  have hrf0 : 0 ≤ v_iv (n_v vs 5) ∧ v_iv (n_v vs 5) ≤ 99 := vc_Mo_barX_1_r0 (v_iv (n_v vs 1)) (v_iv (n_v vs 4)) (v_iv (n_v vs 5)) (w_ei ws (w_ar ws (n_v vs 0) 54)) (w_ei ws (w_ar ws (n_v vs 0) 33)) (w_ei ws (w_ar ws (n_v vs 0) 34)) (w_ei ws (w_ar ws (n_v vs 0) 35)) (w_ei ws (w_ar ws (n_v vs 0) 36)) (w_ei ws (w_ar ws (n_v vs 0) 37)) (w_ei ws (w_ar ws (n_v vs 0) 56)) (w_ei ws (w_ar ws (n_v vs 0) 57)) (w_fi ws (n_v vs 0) 31) (w_fi ws (n_v vs 0) 32) (w_fi ws (n_v vs 0) 53) k1 k4 k5 h0 (shm_143 f1) (shm_144 f2) (shm_1123 f5) (shm_975 f6) kz_0_31 kz_0_32 kz_0_53
  have rf5 : tv_ok ta (0, 0, 99, []) (n_v vs 5) := tv_in t5 (by first | omega | grind) (by first | omega | grind)
  refine ⟨List.forall_mem_cons.mpr ⟨rf5, (fun _ h => (by cases h))⟩, [], trivial, ?_, (fun _ h => (by cases h))⟩
  rw [List.append_nil]
  exact (fun _ h => (by cases h))
def n_Mo_barX_an : List an_T := []
def t_Mo_barX_ct : ct_L := [(1, 922, e_Mo_dart)]
set_option maxRecDepth 100000 in
theorem c_Mo_barX {l : Launch} {D : va_G} {kA : Nat → ClassId} (h_Mo_dart : ct_ok PRD l D kA GG y_Mo_dart z_Mo_dart e_Mo_dart) : ct_ok PRD l D kA GG y_Mo_barX z_Mo_barX e_Mo_barX := chk_all_ok (FT := [(41, 13, 20), (105, 13, 54)]) (PT := []) (CT := t_Mo_barX_ct) (KT := []) (NT := []) (AN := n_Mo_barX_an) (OT := [o_Mo_barX_0, o_Mo_barX_1]) 0 200 (List.forall_mem_cons.mpr ⟨oo_Mo_barX_0, List.forall_mem_cons.mpr ⟨oo_Mo_barX_1, List.forall_mem_nil _⟩⟩) (by decide +kernel) ⟨List.forall_mem_cons.mpr ⟨gf_Mo_41, List.forall_mem_cons.mpr ⟨gf_Mo_105, List.forall_mem_nil _⟩⟩, List.forall_mem_nil _, List.forall_mem_cons.mpr ⟨cl_virtual (y := y_Mo_dart) (ci := 13) rfl rfl ⟨_, _, rfl⟩ (by decide +kernel) h_Mo_dart wm_3546 wm_9 wm_3543 wm_3545 wv_20_6 ⟨by decide, by decide, by decide +kernel⟩ (by decide), List.forall_mem_nil _⟩, List.forall_mem_nil _, List.forall_mem_nil _, GG_pl⟩ (by decide +kernel)
set_option maxHeartbeats 4000000 in
theorem vc_Mo_dotLine_0_r0 (x1 : Int) (x2 : Int) (x3 : Int) (x4 : Int) (x6 : Int) (x7 : Int) (x8 : Int) (x9 : Int) (k1 : 0 ≤ x1 ∧ x1 ≤ 63) (k2 : 0 ≤ x2 ∧ x2 ≤ 63) (k3 : 0 ≤ x3 ∧ x3 ≤ 63) (k4 : 0 ≤ x4 ∧ x4 ≤ 63) (k6 : (-63) ≤ x6 ∧ x6 ≤ 63) (k7 : (-63) ≤ x7 ∧ x7 ≤ 63) (k8 : (-63) ≤ x8 ∧ x8 ≤ 63) (k9 : (-63) ≤ x9 ∧ x9 ≤ 63) (d0 : x9 + (-4294967296) ≤ x7 ∧ x7 ≤ x9 + 0) (d1 : x9 + (-4294967296) ≤ x8 ∧ x8 ≤ x9 + 0) (d2 : x2 + (-63) ≤ x9 ∧ x9 ≤ x2 + 0) (d3 : x4 + (-63) ≤ x8 ∧ x8 ≤ x4 + 0) (d4 : x7 + (-4294967296) ≤ x6 ∧ x6 ≤ x7 + 0) (d5 : x1 + (-63) ≤ x7 ∧ x7 ≤ x1 + 0) (d6 : x3 + (-63) ≤ x6 ∧ x6 ≤ x3 + 0) (f0 : x7 ≤ x9) (f1 : x9 ≤ x9) (f2 : x8 ≤ x9) (f3 : x9 ≤ x9) (f4 : x9 = x2 - x4) (f5 : x8 = x4 - x2) (f6 : x6 ≤ x7) (f7 : x7 ≤ x7) (f8 : x7 = x1 - x3) (f9 : x6 = x3 - x1) : 0 ≤ x9 ∧ x9 ≤ 63 := by
  first | assumption | omega | grind
def o_Mo_dotLine_0 : or_T := (23, 10, [(1, (0, 0, 63, [])), (2, (0, 0, 63, [])), (3, (0, 0, 63, [])), (4, (0, 0, 63, [])), (6, (0, -63, 63, [])), (7, (0, -63, 63, [])), (8, (0, -63, 63, [])), (9, (0, -63, 63, []))], [(7, [7, 9], [5]), (7, [9, 9], [5]), (7, [8, 9], [5]), (7, [9, 9], [5]), (2, [9, 2, 4], []), (2, [8, 4, 2], []), (7, [6, 7], [5]), (7, [7, 7], [5]), (2, [7, 1, 3], []), (2, [6, 3, 1], [])], [(9, (0, 0, 63, []))], [], [], [], [(7, 9, -4294967296, 0), (8, 9, -4294967296, 0), (9, 2, -63, 0), (8, 4, -63, 0), (6, 7, -4294967296, 0), (7, 1, -63, 0), (6, 3, -63, 0)])
theorem oo_Mo_dotLine_0 {kA : Nat → ClassId} : or_ok PRD kA GG o_Mo_dotLine_0 := by
  refine or_mk fun A ta ws vs hD hth hl => ?_
  intro t1 k1 t2 k2 t3 k3 t4 k4 t6 k6 t7 k7 t8 k8 t9 k9 d0 d1 d2 d3 d4 d5 d6 f0 f1 f2 f3 f4 f5 f6 f7 f8 f9
  have hrf0 : 0 ≤ v_iv (n_v vs 9) ∧ v_iv (n_v vs 9) ≤ 63 := vc_Mo_dotLine_0_r0 (v_iv (n_v vs 1)) (v_iv (n_v vs 2)) (v_iv (n_v vs 3)) (v_iv (n_v vs 4)) (v_iv (n_v vs 6)) (v_iv (n_v vs 7)) (v_iv (n_v vs 8)) (v_iv (n_v vs 9)) k1 k2 k3 k4 k6 k7 k8 k9 d0 d1 d2 d3 d4 d5 d6 (shm_24 f0) (shm_125 f1) (shm_24 f2) (shm_125 f3) (shm_14 f4) (shm_14 f5) (shm_24 f6) (shm_125 f7) (shm_14 f8) (shm_14 f9)
  have rf9 : tv_ok ta (0, 0, 63, []) (n_v vs 9) := tv_in t9 (by omega) (by omega)
  refine ⟨List.forall_mem_cons.mpr ⟨rf9, (fun _ h => (by cases h))⟩, [], trivial, ?_, (fun _ h => (by cases h))⟩
  rw [List.append_nil]
  exact (fun _ h => (by cases h))
set_option maxHeartbeats 4000000 in
theorem vc_Mo_dotLine_1_0 (x1 : Int) (x2 : Int) (x3 : Int) (x4 : Int) (x6 : Int) (x7 : Int) (x8 : Int) (x9 : Int) (k1 : 0 ≤ x1 ∧ x1 ≤ 63) (k2 : 0 ≤ x2 ∧ x2 ≤ 63) (k3 : 0 ≤ x3 ∧ x3 ≤ 63) (k4 : 0 ≤ x4 ∧ x4 ≤ 63) (k6 : (-63) ≤ x6 ∧ x6 ≤ 63) (k7 : (-63) ≤ x7 ∧ x7 ≤ 63) (k8 : (-63) ≤ x8 ∧ x8 ≤ 63) (k9 : 0 ≤ x9 ∧ x9 ≤ 63) (d0 : x9 + (-4294967296) ≤ x7 ∧ x7 ≤ x9 + 0) (d1 : x9 + (-4294967296) ≤ x8 ∧ x8 ≤ x9 + 0) (d2 : x2 + (-63) ≤ x9 ∧ x9 ≤ x2 + 0) (d3 : x4 + (-63) ≤ x8 ∧ x8 ≤ x4 + 0) (d4 : x7 + (-4294967296) ≤ x6 ∧ x6 ≤ x7 + 0) (d5 : x1 + (-63) ≤ x7 ∧ x7 ≤ x1 + 0) (d6 : x3 + (-63) ≤ x6 ∧ x6 ≤ x3 + 0) (f0 : x7 ≤ x9) (f1 : x9 ≤ x9) (f2 : x8 ≤ x9) (f3 : x9 ≤ x9) (f4 : x9 = x2 - x4) (f5 : x8 = x4 - x2) (f6 : x6 ≤ x7) (f7 : x7 ≤ x7) (f8 : x7 = x1 - x3) (f9 : x6 = x3 - x1) : 1 * x3 + ((-1) * x1 + ((-1) * x9 + 0)) ≤ 0 := by
  first | assumption | omega | grind
set_option maxHeartbeats 4000000 in
theorem vc_Mo_dotLine_1_1 (x1 : Int) (x2 : Int) (x3 : Int) (x4 : Int) (x6 : Int) (x7 : Int) (x8 : Int) (x9 : Int) (k1 : 0 ≤ x1 ∧ x1 ≤ 63) (k2 : 0 ≤ x2 ∧ x2 ≤ 63) (k3 : 0 ≤ x3 ∧ x3 ≤ 63) (k4 : 0 ≤ x4 ∧ x4 ≤ 63) (k6 : (-63) ≤ x6 ∧ x6 ≤ 63) (k7 : (-63) ≤ x7 ∧ x7 ≤ 63) (k8 : (-63) ≤ x8 ∧ x8 ≤ 63) (k9 : 0 ≤ x9 ∧ x9 ≤ 63) (d0 : x9 + (-4294967296) ≤ x7 ∧ x7 ≤ x9 + 0) (d1 : x9 + (-4294967296) ≤ x8 ∧ x8 ≤ x9 + 0) (d2 : x2 + (-63) ≤ x9 ∧ x9 ≤ x2 + 0) (d3 : x4 + (-63) ≤ x8 ∧ x8 ≤ x4 + 0) (d4 : x7 + (-4294967296) ≤ x6 ∧ x6 ≤ x7 + 0) (d5 : x1 + (-63) ≤ x7 ∧ x7 ≤ x1 + 0) (d6 : x3 + (-63) ≤ x6 ∧ x6 ≤ x3 + 0) (f0 : x7 ≤ x9) (f1 : x9 ≤ x9) (f2 : x8 ≤ x9) (f3 : x9 ≤ x9) (f4 : x9 = x2 - x4) (f5 : x8 = x4 - x2) (f6 : x6 ≤ x7) (f7 : x7 ≤ x7) (f8 : x7 = x1 - x3) (f9 : x6 = x3 - x1) : (-1) * x3 + (1 * x1 + ((-1) * x9 + 0)) ≤ 0 := by
  first | assumption | omega | grind
set_option maxHeartbeats 4000000 in
theorem vc_Mo_dotLine_1_2 (x1 : Int) (x2 : Int) (x3 : Int) (x4 : Int) (x6 : Int) (x7 : Int) (x8 : Int) (x9 : Int) (k1 : 0 ≤ x1 ∧ x1 ≤ 63) (k2 : 0 ≤ x2 ∧ x2 ≤ 63) (k3 : 0 ≤ x3 ∧ x3 ≤ 63) (k4 : 0 ≤ x4 ∧ x4 ≤ 63) (k6 : (-63) ≤ x6 ∧ x6 ≤ 63) (k7 : (-63) ≤ x7 ∧ x7 ≤ 63) (k8 : (-63) ≤ x8 ∧ x8 ≤ 63) (k9 : 0 ≤ x9 ∧ x9 ≤ 63) (d0 : x9 + (-4294967296) ≤ x7 ∧ x7 ≤ x9 + 0) (d1 : x9 + (-4294967296) ≤ x8 ∧ x8 ≤ x9 + 0) (d2 : x2 + (-63) ≤ x9 ∧ x9 ≤ x2 + 0) (d3 : x4 + (-63) ≤ x8 ∧ x8 ≤ x4 + 0) (d4 : x7 + (-4294967296) ≤ x6 ∧ x6 ≤ x7 + 0) (d5 : x1 + (-63) ≤ x7 ∧ x7 ≤ x1 + 0) (d6 : x3 + (-63) ≤ x6 ∧ x6 ≤ x3 + 0) (f0 : x7 ≤ x9) (f1 : x9 ≤ x9) (f2 : x8 ≤ x9) (f3 : x9 ≤ x9) (f4 : x9 = x2 - x4) (f5 : x8 = x4 - x2) (f6 : x6 ≤ x7) (f7 : x7 ≤ x7) (f8 : x7 = x1 - x3) (f9 : x6 = x3 - x1) : 1 * x4 + ((-1) * x2 + ((-1) * x9 + 0)) ≤ 0 := by
  first | assumption | omega | grind
set_option maxHeartbeats 4000000 in
theorem vc_Mo_dotLine_1_3 (x1 : Int) (x2 : Int) (x3 : Int) (x4 : Int) (x6 : Int) (x7 : Int) (x8 : Int) (x9 : Int) (k1 : 0 ≤ x1 ∧ x1 ≤ 63) (k2 : 0 ≤ x2 ∧ x2 ≤ 63) (k3 : 0 ≤ x3 ∧ x3 ≤ 63) (k4 : 0 ≤ x4 ∧ x4 ≤ 63) (k6 : (-63) ≤ x6 ∧ x6 ≤ 63) (k7 : (-63) ≤ x7 ∧ x7 ≤ 63) (k8 : (-63) ≤ x8 ∧ x8 ≤ 63) (k9 : 0 ≤ x9 ∧ x9 ≤ 63) (d0 : x9 + (-4294967296) ≤ x7 ∧ x7 ≤ x9 + 0) (d1 : x9 + (-4294967296) ≤ x8 ∧ x8 ≤ x9 + 0) (d2 : x2 + (-63) ≤ x9 ∧ x9 ≤ x2 + 0) (d3 : x4 + (-63) ≤ x8 ∧ x8 ≤ x4 + 0) (d4 : x7 + (-4294967296) ≤ x6 ∧ x6 ≤ x7 + 0) (d5 : x1 + (-63) ≤ x7 ∧ x7 ≤ x1 + 0) (d6 : x3 + (-63) ≤ x6 ∧ x6 ≤ x3 + 0) (f0 : x7 ≤ x9) (f1 : x9 ≤ x9) (f2 : x8 ≤ x9) (f3 : x9 ≤ x9) (f4 : x9 = x2 - x4) (f5 : x8 = x4 - x2) (f6 : x6 ≤ x7) (f7 : x7 ≤ x7) (f8 : x7 = x1 - x3) (f9 : x6 = x3 - x1) : (-1) * x4 + (1 * x2 + ((-1) * x9 + 0)) ≤ 0 := by
  first | assumption | omega | grind
def o_Mo_dotLine_1 : or_T := (28, 11, [(1, (0, 0, 63, [])), (2, (0, 0, 63, [])), (3, (0, 0, 63, [])), (4, (0, 0, 63, [])), (6, (0, -63, 63, [])), (7, (0, -63, 63, [])), (8, (0, -63, 63, [])), (9, (0, 0, 63, []))], [(7, [7, 9], [5]), (7, [9, 9], [5]), (7, [8, 9], [5]), (7, [9, 9], [5]), (2, [9, 2, 4], []), (2, [8, 4, 2], []), (7, [6, 7], [5]), (7, [7, 7], [5]), (2, [7, 1, 3], []), (2, [6, 3, 1], [])], [], [], [(23, [3, 1, 9], [0, 1, -1, -1]), (23, [3, 1, 9], [0, -1, 1, -1]), (23, [4, 2, 9], [0, 1, -1, -1]), (23, [4, 2, 9], [0, -1, 1, -1])], [], [(7, 9, -4294967296, 0), (8, 9, -4294967296, 0), (9, 2, -63, 0), (8, 4, -63, 0), (6, 7, -4294967296, 0), (7, 1, -63, 0), (6, 3, -63, 0)])
theorem oo_Mo_dotLine_1 {kA : Nat → ClassId} : or_ok PRD kA GG o_Mo_dotLine_1 := by
  refine or_mk fun A ta ws vs hD hth hl => ?_
  intro t1 k1 t2 k2 t3 k3 t4 k4 t6 k6 t7 k7 t8 k8 t9 k9 d0 d1 d2 d3 d4 d5 d6 f0 f1 f2 f3 f4 f5 f6 f7 f8 f9
  have nf0 : fc_1 PRD (23, [3, 1, 9], [0, 1, -1, -1]) ws (vs) := ⟨nf_in hl rfl, sgq_136 (vc_Mo_dotLine_1_0 (v_iv (n_v vs 1)) (v_iv (n_v vs 2)) (v_iv (n_v vs 3)) (v_iv (n_v vs 4)) (v_iv (n_v vs 6)) (v_iv (n_v vs 7)) (v_iv (n_v vs 8)) (v_iv (n_v vs 9)) k1 k2 k3 k4 k6 k7 k8 k9 d0 d1 d2 d3 d4 d5 d6 (shm_24 f0) (shm_125 f1) (shm_24 f2) (shm_125 f3) (shm_14 f4) (shm_14 f5) (shm_24 f6) (shm_125 f7) (shm_14 f8) (shm_14 f9))⟩
  have nf1 : fc_1 PRD (23, [3, 1, 9], [0, -1, 1, -1]) ws (vs) := ⟨nf_in hl rfl, sgq_1124 (vc_Mo_dotLine_1_1 (v_iv (n_v vs 1)) (v_iv (n_v vs 2)) (v_iv (n_v vs 3)) (v_iv (n_v vs 4)) (v_iv (n_v vs 6)) (v_iv (n_v vs 7)) (v_iv (n_v vs 8)) (v_iv (n_v vs 9)) k1 k2 k3 k4 k6 k7 k8 k9 d0 d1 d2 d3 d4 d5 d6 (shm_24 f0) (shm_125 f1) (shm_24 f2) (shm_125 f3) (shm_14 f4) (shm_14 f5) (shm_24 f6) (shm_125 f7) (shm_14 f8) (shm_14 f9))⟩
  have nf2 : fc_1 PRD (23, [4, 2, 9], [0, 1, -1, -1]) ws (vs) := ⟨nf_in hl rfl, sgq_136 (vc_Mo_dotLine_1_2 (v_iv (n_v vs 1)) (v_iv (n_v vs 2)) (v_iv (n_v vs 3)) (v_iv (n_v vs 4)) (v_iv (n_v vs 6)) (v_iv (n_v vs 7)) (v_iv (n_v vs 8)) (v_iv (n_v vs 9)) k1 k2 k3 k4 k6 k7 k8 k9 d0 d1 d2 d3 d4 d5 d6 (shm_24 f0) (shm_125 f1) (shm_24 f2) (shm_125 f3) (shm_14 f4) (shm_14 f5) (shm_24 f6) (shm_125 f7) (shm_14 f8) (shm_14 f9))⟩
  have nf3 : fc_1 PRD (23, [4, 2, 9], [0, -1, 1, -1]) ws (vs) := ⟨nf_in hl rfl, sgq_1124 (vc_Mo_dotLine_1_3 (v_iv (n_v vs 1)) (v_iv (n_v vs 2)) (v_iv (n_v vs 3)) (v_iv (n_v vs 4)) (v_iv (n_v vs 6)) (v_iv (n_v vs 7)) (v_iv (n_v vs 8)) (v_iv (n_v vs 9)) k1 k2 k3 k4 k6 k7 k8 k9 d0 d1 d2 d3 d4 d5 d6 (shm_24 f0) (shm_125 f1) (shm_24 f2) (shm_125 f3) (shm_14 f4) (shm_14 f5) (shm_24 f6) (shm_125 f7) (shm_14 f8) (shm_14 f9))⟩
  refine ⟨(fun _ h => (by cases h)), [], trivial, ?_, (fun _ h => (by cases h))⟩
  rw [List.append_nil]
  exact List.forall_mem_cons.mpr ⟨⟨show (23 : Nat) < 100 from by decide, nf0⟩, List.forall_mem_cons.mpr ⟨⟨show (23 : Nat) < 100 from by decide, nf1⟩, List.forall_mem_cons.mpr ⟨⟨show (23 : Nat) < 100 from by decide, nf2⟩, List.forall_mem_cons.mpr ⟨⟨show (23 : Nat) < 100 from by decide, nf3⟩, (fun _ h => (by cases h))⟩⟩⟩⟩
set_option maxHeartbeats 4000000 in
theorem vc_Mo_dotLine_2_r0 (x1 : Int) (x2 : Int) (x3 : Int) (x4 : Int) (x6 : Int) (x7 : Int) (x8 : Int) (x9 : Int) (k1 : 0 ≤ x1 ∧ x1 ≤ 63) (k2 : 0 ≤ x2 ∧ x2 ≤ 63) (k3 : 0 ≤ x3 ∧ x3 ≤ 63) (k4 : 0 ≤ x4 ∧ x4 ≤ 63) (k6 : (-63) ≤ x6 ∧ x6 ≤ 63) (k7 : (-62) ≤ x7 ∧ x7 ≤ 63) (k8 : (-63) ≤ x8 ∧ x8 ≤ 63) (k9 : (-63) ≤ x9 ∧ x9 ≤ 62) (d0 : x9 + 1 ≤ x7 ∧ x7 ≤ x9 + 4294967296) (d1 : x9 + (-4294967296) ≤ x8 ∧ x8 ≤ x9 + 0) (d2 : x2 + (-63) ≤ x9 ∧ x9 ≤ x2 + 0) (d3 : x4 + (-63) ≤ x8 ∧ x8 ≤ x4 + 0) (d4 : x7 + (-4294967296) ≤ x6 ∧ x6 ≤ x7 + 0) (d5 : x1 + (-63) ≤ x7 ∧ x7 ≤ x1 + 0) (d6 : x3 + (-63) ≤ x6 ∧ x6 ≤ x3 + 0) (f0 : x7 ≤ x7) (f1 : x9 ≤ x7) (f2 : x8 ≤ x9) (f3 : x9 ≤ x9) (f4 : x9 = x2 - x4) (f5 : x8 = x4 - x2) (f6 : x6 ≤ x7) (f7 : x7 ≤ x7) (f8 : x7 = x1 - x3) (f9 : x6 = x3 - x1) : 0 ≤ x7 ∧ x7 ≤ 63 := by
  first | assumption | omega | grind
def o_Mo_dotLine_2 : or_T := (23, 10, [(1, (0, 0, 63, [])), (2, (0, 0, 63, [])), (3, (0, 0, 63, [])), (4, (0, 0, 63, [])), (6, (0, -63, 63, [])), (7, (0, -62, 63, [])), (8, (0, -63, 63, [])), (9, (0, -63, 62, []))], [(7, [7, 7], [5]), (7, [9, 7], [5]), (7, [8, 9], [5]), (7, [9, 9], [5]), (2, [9, 2, 4], []), (2, [8, 4, 2], []), (7, [6, 7], [5]), (7, [7, 7], [5]), (2, [7, 1, 3], []), (2, [6, 3, 1], [])], [(7, (0, 0, 63, []))], [], [], [], [(7, 9, 1, 4294967296), (8, 9, -4294967296, 0), (9, 2, -63, 0), (8, 4, -63, 0), (6, 7, -4294967296, 0), (7, 1, -63, 0), (6, 3, -63, 0)])
theorem oo_Mo_dotLine_2 {kA : Nat → ClassId} : or_ok PRD kA GG o_Mo_dotLine_2 := by
  refine or_mk fun A ta ws vs hD hth hl => ?_
  intro t1 k1 t2 k2 t3 k3 t4 k4 t6 k6 t7 k7 t8 k8 t9 k9 d0 d1 d2 d3 d4 d5 d6 f0 f1 f2 f3 f4 f5 f6 f7 f8 f9
  have hrf0 : 0 ≤ v_iv (n_v vs 7) ∧ v_iv (n_v vs 7) ≤ 63 := vc_Mo_dotLine_2_r0 (v_iv (n_v vs 1)) (v_iv (n_v vs 2)) (v_iv (n_v vs 3)) (v_iv (n_v vs 4)) (v_iv (n_v vs 6)) (v_iv (n_v vs 7)) (v_iv (n_v vs 8)) (v_iv (n_v vs 9)) k1 k2 k3 k4 k6 k7 k8 k9 d0 d1 d2 d3 d4 d5 d6 (shm_125 f0) (shm_24 f1) (shm_24 f2) (shm_125 f3) (shm_14 f4) (shm_14 f5) (shm_24 f6) (shm_125 f7) (shm_14 f8) (shm_14 f9)
  have rf7 : tv_ok ta (0, 0, 63, []) (n_v vs 7) := tv_in t7 (by omega) (by omega)
  refine ⟨List.forall_mem_cons.mpr ⟨rf7, (fun _ h => (by cases h))⟩, [], trivial, ?_, (fun _ h => (by cases h))⟩
  rw [List.append_nil]
  exact (fun _ h => (by cases h))
set_option maxHeartbeats 4000000 in
theorem vc_Mo_dotLine_3_0 (x1 : Int) (x2 : Int) (x3 : Int) (x4 : Int) (x6 : Int) (x7 : Int) (x8 : Int) (x9 : Int) (k1 : 0 ≤ x1 ∧ x1 ≤ 63) (k2 : 0 ≤ x2 ∧ x2 ≤ 63) (k3 : 0 ≤ x3 ∧ x3 ≤ 63) (k4 : 0 ≤ x4 ∧ x4 ≤ 63) (k6 : (-63) ≤ x6 ∧ x6 ≤ 63) (k7 : 0 ≤ x7 ∧ x7 ≤ 63) (k8 : (-63) ≤ x8 ∧ x8 ≤ 63) (k9 : (-63) ≤ x9 ∧ x9 ≤ 62) (d0 : x9 + 1 ≤ x7 ∧ x7 ≤ x9 + 4294967296) (d1 : x9 + (-4294967296) ≤ x8 ∧ x8 ≤ x9 + 0) (d2 : x2 + (-63) ≤ x9 ∧ x9 ≤ x2 + 0) (d3 : x4 + (-63) ≤ x8 ∧ x8 ≤ x4 + 0) (d4 : x7 + (-4294967296) ≤ x6 ∧ x6 ≤ x7 + 0) (d5 : x1 + (-63) ≤ x7 ∧ x7 ≤ x1 + 0) (d6 : x3 + (-63) ≤ x6 ∧ x6 ≤ x3 + 0) (f0 : x7 ≤ x7) (f1 : x9 ≤ x7) (f2 : x8 ≤ x9) (f3 : x9 ≤ x9) (f4 : x9 = x2 - x4) (f5 : x8 = x4 - x2) (f6 : x6 ≤ x7) (f7 : x7 ≤ x7) (f8 : x7 = x1 - x3) (f9 : x6 = x3 - x1) : 1 * x3 + ((-1) * x1 + ((-1) * x7 + 0)) ≤ 0 := by
  first | assumption | omega | grind
set_option maxHeartbeats 4000000 in
theorem vc_Mo_dotLine_3_1 (x1 : Int) (x2 : Int) (x3 : Int) (x4 : Int) (x6 : Int) (x7 : Int) (x8 : Int) (x9 : Int) (k1 : 0 ≤ x1 ∧ x1 ≤ 63) (k2 : 0 ≤ x2 ∧ x2 ≤ 63) (k3 : 0 ≤ x3 ∧ x3 ≤ 63) (k4 : 0 ≤ x4 ∧ x4 ≤ 63) (k6 : (-63) ≤ x6 ∧ x6 ≤ 63) (k7 : 0 ≤ x7 ∧ x7 ≤ 63) (k8 : (-63) ≤ x8 ∧ x8 ≤ 63) (k9 : (-63) ≤ x9 ∧ x9 ≤ 62) (d0 : x9 + 1 ≤ x7 ∧ x7 ≤ x9 + 4294967296) (d1 : x9 + (-4294967296) ≤ x8 ∧ x8 ≤ x9 + 0) (d2 : x2 + (-63) ≤ x9 ∧ x9 ≤ x2 + 0) (d3 : x4 + (-63) ≤ x8 ∧ x8 ≤ x4 + 0) (d4 : x7 + (-4294967296) ≤ x6 ∧ x6 ≤ x7 + 0) (d5 : x1 + (-63) ≤ x7 ∧ x7 ≤ x1 + 0) (d6 : x3 + (-63) ≤ x6 ∧ x6 ≤ x3 + 0) (f0 : x7 ≤ x7) (f1 : x9 ≤ x7) (f2 : x8 ≤ x9) (f3 : x9 ≤ x9) (f4 : x9 = x2 - x4) (f5 : x8 = x4 - x2) (f6 : x6 ≤ x7) (f7 : x7 ≤ x7) (f8 : x7 = x1 - x3) (f9 : x6 = x3 - x1) : (-1) * x3 + (1 * x1 + ((-1) * x7 + 0)) ≤ 0 := by
  first | assumption | omega | grind
set_option maxHeartbeats 4000000 in
theorem vc_Mo_dotLine_3_2 (x1 : Int) (x2 : Int) (x3 : Int) (x4 : Int) (x6 : Int) (x7 : Int) (x8 : Int) (x9 : Int) (k1 : 0 ≤ x1 ∧ x1 ≤ 63) (k2 : 0 ≤ x2 ∧ x2 ≤ 63) (k3 : 0 ≤ x3 ∧ x3 ≤ 63) (k4 : 0 ≤ x4 ∧ x4 ≤ 63) (k6 : (-63) ≤ x6 ∧ x6 ≤ 63) (k7 : 0 ≤ x7 ∧ x7 ≤ 63) (k8 : (-63) ≤ x8 ∧ x8 ≤ 63) (k9 : (-63) ≤ x9 ∧ x9 ≤ 62) (d0 : x9 + 1 ≤ x7 ∧ x7 ≤ x9 + 4294967296) (d1 : x9 + (-4294967296) ≤ x8 ∧ x8 ≤ x9 + 0) (d2 : x2 + (-63) ≤ x9 ∧ x9 ≤ x2 + 0) (d3 : x4 + (-63) ≤ x8 ∧ x8 ≤ x4 + 0) (d4 : x7 + (-4294967296) ≤ x6 ∧ x6 ≤ x7 + 0) (d5 : x1 + (-63) ≤ x7 ∧ x7 ≤ x1 + 0) (d6 : x3 + (-63) ≤ x6 ∧ x6 ≤ x3 + 0) (f0 : x7 ≤ x7) (f1 : x9 ≤ x7) (f2 : x8 ≤ x9) (f3 : x9 ≤ x9) (f4 : x9 = x2 - x4) (f5 : x8 = x4 - x2) (f6 : x6 ≤ x7) (f7 : x7 ≤ x7) (f8 : x7 = x1 - x3) (f9 : x6 = x3 - x1) : 1 * x4 + ((-1) * x2 + ((-1) * x7 + 0)) ≤ 0 := by
  first | assumption | omega | grind
set_option maxHeartbeats 4000000 in
theorem vc_Mo_dotLine_3_3 (x1 : Int) (x2 : Int) (x3 : Int) (x4 : Int) (x6 : Int) (x7 : Int) (x8 : Int) (x9 : Int) (k1 : 0 ≤ x1 ∧ x1 ≤ 63) (k2 : 0 ≤ x2 ∧ x2 ≤ 63) (k3 : 0 ≤ x3 ∧ x3 ≤ 63) (k4 : 0 ≤ x4 ∧ x4 ≤ 63) (k6 : (-63) ≤ x6 ∧ x6 ≤ 63) (k7 : 0 ≤ x7 ∧ x7 ≤ 63) (k8 : (-63) ≤ x8 ∧ x8 ≤ 63) (k9 : (-63) ≤ x9 ∧ x9 ≤ 62) (d0 : x9 + 1 ≤ x7 ∧ x7 ≤ x9 + 4294967296) (d1 : x9 + (-4294967296) ≤ x8 ∧ x8 ≤ x9 + 0) (d2 : x2 + (-63) ≤ x9 ∧ x9 ≤ x2 + 0) (d3 : x4 + (-63) ≤ x8 ∧ x8 ≤ x4 + 0) (d4 : x7 + (-4294967296) ≤ x6 ∧ x6 ≤ x7 + 0) (d5 : x1 + (-63) ≤ x7 ∧ x7 ≤ x1 + 0) (d6 : x3 + (-63) ≤ x6 ∧ x6 ≤ x3 + 0) (f0 : x7 ≤ x7) (f1 : x9 ≤ x7) (f2 : x8 ≤ x9) (f3 : x9 ≤ x9) (f4 : x9 = x2 - x4) (f5 : x8 = x4 - x2) (f6 : x6 ≤ x7) (f7 : x7 ≤ x7) (f8 : x7 = x1 - x3) (f9 : x6 = x3 - x1) : (-1) * x4 + (1 * x2 + ((-1) * x7 + 0)) ≤ 0 := by
  first | assumption | omega | grind
def o_Mo_dotLine_3 : or_T := (28, 11, [(1, (0, 0, 63, [])), (2, (0, 0, 63, [])), (3, (0, 0, 63, [])), (4, (0, 0, 63, [])), (6, (0, -63, 63, [])), (7, (0, 0, 63, [])), (8, (0, -63, 63, [])), (9, (0, -63, 62, []))], [(7, [7, 7], [5]), (7, [9, 7], [5]), (7, [8, 9], [5]), (7, [9, 9], [5]), (2, [9, 2, 4], []), (2, [8, 4, 2], []), (7, [6, 7], [5]), (7, [7, 7], [5]), (2, [7, 1, 3], []), (2, [6, 3, 1], [])], [], [], [(23, [3, 1, 7], [0, 1, -1, -1]), (23, [3, 1, 7], [0, -1, 1, -1]), (23, [4, 2, 7], [0, 1, -1, -1]), (23, [4, 2, 7], [0, -1, 1, -1])], [], [(7, 9, 1, 4294967296), (8, 9, -4294967296, 0), (9, 2, -63, 0), (8, 4, -63, 0), (6, 7, -4294967296, 0), (7, 1, -63, 0), (6, 3, -63, 0)])
theorem oo_Mo_dotLine_3 {kA : Nat → ClassId} : or_ok PRD kA GG o_Mo_dotLine_3 := by
  refine or_mk fun A ta ws vs hD hth hl => ?_
  intro t1 k1 t2 k2 t3 k3 t4 k4 t6 k6 t7 k7 t8 k8 t9 k9 d0 d1 d2 d3 d4 d5 d6 f0 f1 f2 f3 f4 f5 f6 f7 f8 f9
  have nf0 : fc_1 PRD (23, [3, 1, 7], [0, 1, -1, -1]) ws (vs) := ⟨nf_in hl rfl, sgq_136 (vc_Mo_dotLine_3_0 (v_iv (n_v vs 1)) (v_iv (n_v vs 2)) (v_iv (n_v vs 3)) (v_iv (n_v vs 4)) (v_iv (n_v vs 6)) (v_iv (n_v vs 7)) (v_iv (n_v vs 8)) (v_iv (n_v vs 9)) k1 k2 k3 k4 k6 k7 k8 k9 d0 d1 d2 d3 d4 d5 d6 (shm_125 f0) (shm_24 f1) (shm_24 f2) (shm_125 f3) (shm_14 f4) (shm_14 f5) (shm_24 f6) (shm_125 f7) (shm_14 f8) (shm_14 f9))⟩
  have nf1 : fc_1 PRD (23, [3, 1, 7], [0, -1, 1, -1]) ws (vs) := ⟨nf_in hl rfl, sgq_1124 (vc_Mo_dotLine_3_1 (v_iv (n_v vs 1)) (v_iv (n_v vs 2)) (v_iv (n_v vs 3)) (v_iv (n_v vs 4)) (v_iv (n_v vs 6)) (v_iv (n_v vs 7)) (v_iv (n_v vs 8)) (v_iv (n_v vs 9)) k1 k2 k3 k4 k6 k7 k8 k9 d0 d1 d2 d3 d4 d5 d6 (shm_125 f0) (shm_24 f1) (shm_24 f2) (shm_125 f3) (shm_14 f4) (shm_14 f5) (shm_24 f6) (shm_125 f7) (shm_14 f8) (shm_14 f9))⟩
  have nf2 : fc_1 PRD (23, [4, 2, 7], [0, 1, -1, -1]) ws (vs) := ⟨nf_in hl rfl, sgq_136 (vc_Mo_dotLine_3_2 (v_iv (n_v vs 1)) (v_iv (n_v vs 2)) (v_iv (n_v vs 3)) (v_iv (n_v vs 4)) (v_iv (n_v vs 6)) (v_iv (n_v vs 7)) (v_iv (n_v vs 8)) (v_iv (n_v vs 9)) k1 k2 k3 k4 k6 k7 k8 k9 d0 d1 d2 d3 d4 d5 d6 (shm_125 f0) (shm_24 f1) (shm_24 f2) (shm_125 f3) (shm_14 f4) (shm_14 f5) (shm_24 f6) (shm_125 f7) (shm_14 f8) (shm_14 f9))⟩
  have nf3 : fc_1 PRD (23, [4, 2, 7], [0, -1, 1, -1]) ws (vs) := ⟨nf_in hl rfl, sgq_1124 (vc_Mo_dotLine_3_3 (v_iv (n_v vs 1)) (v_iv (n_v vs 2)) (v_iv (n_v vs 3)) (v_iv (n_v vs 4)) (v_iv (n_v vs 6)) (v_iv (n_v vs 7)) (v_iv (n_v vs 8)) (v_iv (n_v vs 9)) k1 k2 k3 k4 k6 k7 k8 k9 d0 d1 d2 d3 d4 d5 d6 (shm_125 f0) (shm_24 f1) (shm_24 f2) (shm_125 f3) (shm_14 f4) (shm_14 f5) (shm_24 f6) (shm_125 f7) (shm_14 f8) (shm_14 f9))⟩
  refine ⟨(fun _ h => (by cases h)), [], trivial, ?_, (fun _ h => (by cases h))⟩
  rw [List.append_nil]
  exact List.forall_mem_cons.mpr ⟨⟨show (23 : Nat) < 100 from by decide, nf0⟩, List.forall_mem_cons.mpr ⟨⟨show (23 : Nat) < 100 from by decide, nf1⟩, List.forall_mem_cons.mpr ⟨⟨show (23 : Nat) < 100 from by decide, nf2⟩, List.forall_mem_cons.mpr ⟨⟨show (23 : Nat) < 100 from by decide, nf3⟩, (fun _ h => (by cases h))⟩⟩⟩⟩
set_option maxHeartbeats 4000000 in
theorem vc_Mo_dotLine_4_r0 (x1 : Int) (x2 : Int) (x3 : Int) (x4 : Int) (x6 : Int) (x7 : Int) (x8 : Int) (x9 : Int) (k1 : 0 ≤ x1 ∧ x1 ≤ 63) (k2 : 0 ≤ x2 ∧ x2 ≤ 63) (k3 : 0 ≤ x3 ∧ x3 ≤ 63) (k4 : 0 ≤ x4 ∧ x4 ≤ 63) (k6 : (-63) ≤ x6 ∧ x6 ≤ 63) (k7 : (-63) ≤ x7 ∧ x7 ≤ 63) (k8 : (-62) ≤ x8 ∧ x8 ≤ 63) (k9 : (-63) ≤ x9 ∧ x9 ≤ 62) (d0 : x8 + (-4294967296) ≤ x7 ∧ x7 ≤ x8 + 0) (d1 : x9 + 1 ≤ x8 ∧ x8 ≤ x9 + 4294967296) (d2 : x2 + (-63) ≤ x9 ∧ x9 ≤ x2 + 0) (d3 : x4 + (-63) ≤ x8 ∧ x8 ≤ x4 + 0) (d4 : x7 + (-4294967296) ≤ x6 ∧ x6 ≤ x7 + 0) (d5 : x1 + (-63) ≤ x7 ∧ x7 ≤ x1 + 0) (d6 : x3 + (-63) ≤ x6 ∧ x6 ≤ x3 + 0) (f0 : x7 ≤ x8) (f1 : x8 ≤ x8) (f2 : x8 ≤ x8) (f3 : x9 ≤ x8) (f4 : x9 = x2 - x4) (f5 : x8 = x4 - x2) (f6 : x6 ≤ x7) (f7 : x7 ≤ x7) (f8 : x7 = x1 - x3) (f9 : x6 = x3 - x1) : 0 ≤ x8 ∧ x8 ≤ 63 := by
  first | assumption | omega | grind
def o_Mo_dotLine_4 : or_T := (23, 10, [(1, (0, 0, 63, [])), (2, (0, 0, 63, [])), (3, (0, 0, 63, [])), (4, (0, 0, 63, [])), (6, (0, -63, 63, [])), (7, (0, -63, 63, [])), (8, (0, -62, 63, [])), (9, (0, -63, 62, []))], [(7, [7, 8], [5]), (7, [8, 8], [5]), (7, [8, 8], [5]), (7, [9, 8], [5]), (2, [9, 2, 4], []), (2, [8, 4, 2], []), (7, [6, 7], [5]), (7, [7, 7], [5]), (2, [7, 1, 3], []), (2, [6, 3, 1], [])], [(8, (0, 0, 63, []))], [], [], [], [(7, 8, -4294967296, 0), (8, 9, 1, 4294967296), (9, 2, -63, 0), (8, 4, -63, 0), (6, 7, -4294967296, 0), (7, 1, -63, 0), (6, 3, -63, 0)])
theorem oo_Mo_dotLine_4 {kA : Nat → ClassId} : or_ok PRD kA GG o_Mo_dotLine_4 := by
  refine or_mk fun A ta ws vs hD hth hl => ?_
  intro t1 k1 t2 k2 t3 k3 t4 k4 t6 k6 t7 k7 t8 k8 t9 k9 d0 d1 d2 d3 d4 d5 d6 f0 f1 f2 f3 f4 f5 f6 f7 f8 f9
  have hrf0 : 0 ≤ v_iv (n_v vs 8) ∧ v_iv (n_v vs 8) ≤ 63 := vc_Mo_dotLine_4_r0 (v_iv (n_v vs 1)) (v_iv (n_v vs 2)) (v_iv (n_v vs 3)) (v_iv (n_v vs 4)) (v_iv (n_v vs 6)) (v_iv (n_v vs 7)) (v_iv (n_v vs 8)) (v_iv (n_v vs 9)) k1 k2 k3 k4 k6 k7 k8 k9 d0 d1 d2 d3 d4 d5 d6 (shm_24 f0) (shm_125 f1) (shm_125 f2) (shm_24 f3) (shm_14 f4) (shm_14 f5) (shm_24 f6) (shm_125 f7) (shm_14 f8) (shm_14 f9)
  have rf8 : tv_ok ta (0, 0, 63, []) (n_v vs 8) := tv_in t8 (by omega) (by omega)
  refine ⟨List.forall_mem_cons.mpr ⟨rf8, (fun _ h => (by cases h))⟩, [], trivial, ?_, (fun _ h => (by cases h))⟩
  rw [List.append_nil]
  exact (fun _ h => (by cases h))
set_option maxHeartbeats 4000000 in
theorem vc_Mo_dotLine_5_0 (x1 : Int) (x2 : Int) (x3 : Int) (x4 : Int) (x6 : Int) (x7 : Int) (x8 : Int) (x9 : Int) (k1 : 0 ≤ x1 ∧ x1 ≤ 63) (k2 : 0 ≤ x2 ∧ x2 ≤ 63) (k3 : 0 ≤ x3 ∧ x3 ≤ 63) (k4 : 0 ≤ x4 ∧ x4 ≤ 63) (k6 : (-63) ≤ x6 ∧ x6 ≤ 63) (k7 : (-63) ≤ x7 ∧ x7 ≤ 63) (k8 : 0 ≤ x8 ∧ x8 ≤ 63) (k9 : (-63) ≤ x9 ∧ x9 ≤ 62) (d0 : x8 + (-4294967296) ≤ x7 ∧ x7 ≤ x8 + 0) (d1 : x9 + 1 ≤ x8 ∧ x8 ≤ x9 + 4294967296) (d2 : x2 + (-63) ≤ x9 ∧ x9 ≤ x2 + 0) (d3 : x4 + (-63) ≤ x8 ∧ x8 ≤ x4 + 0) (d4 : x7 + (-4294967296) ≤ x6 ∧ x6 ≤ x7 + 0) (d5 : x1 + (-63) ≤ x7 ∧ x7 ≤ x1 + 0) (d6 : x3 + (-63) ≤ x6 ∧ x6 ≤ x3 + 0) (f0 : x7 ≤ x8) (f1 : x8 ≤ x8) (f2 : x8 ≤ x8) (f3 : x9 ≤ x8) (f4 : x9 = x2 - x4) (f5 : x8 = x4 - x2) (f6 : x6 ≤ x7) (f7 : x7 ≤ x7) (f8 : x7 = x1 - x3) (f9 : x6 = x3 - x1) : 1 * x3 + ((-1) * x1 + ((-1) * x8 + 0)) ≤ 0 := by
  first | assumption | omega | grind
set_option maxHeartbeats 4000000 in
theorem vc_Mo_dotLine_5_1 (x1 : Int) (x2 : Int) (x3 : Int) (x4 : Int) (x6 : Int) (x7 : Int) (x8 : Int) (x9 : Int) (k1 : 0 ≤ x1 ∧ x1 ≤ 63) (k2 : 0 ≤ x2 ∧ x2 ≤ 63) (k3 : 0 ≤ x3 ∧ x3 ≤ 63) (k4 : 0 ≤ x4 ∧ x4 ≤ 63) (k6 : (-63) ≤ x6 ∧ x6 ≤ 63) (k7 : (-63) ≤ x7 ∧ x7 ≤ 63) (k8 : 0 ≤ x8 ∧ x8 ≤ 63) (k9 : (-63) ≤ x9 ∧ x9 ≤ 62) (d0 : x8 + (-4294967296) ≤ x7 ∧ x7 ≤ x8 + 0) (d1 : x9 + 1 ≤ x8 ∧ x8 ≤ x9 + 4294967296) (d2 : x2 + (-63) ≤ x9 ∧ x9 ≤ x2 + 0) (d3 : x4 + (-63) ≤ x8 ∧ x8 ≤ x4 + 0) (d4 : x7 + (-4294967296) ≤ x6 ∧ x6 ≤ x7 + 0) (d5 : x1 + (-63) ≤ x7 ∧ x7 ≤ x1 + 0) (d6 : x3 + (-63) ≤ x6 ∧ x6 ≤ x3 + 0) (f0 : x7 ≤ x8) (f1 : x8 ≤ x8) (f2 : x8 ≤ x8) (f3 : x9 ≤ x8) (f4 : x9 = x2 - x4) (f5 : x8 = x4 - x2) (f6 : x6 ≤ x7) (f7 : x7 ≤ x7) (f8 : x7 = x1 - x3) (f9 : x6 = x3 - x1) : (-1) * x3 + (1 * x1 + ((-1) * x8 + 0)) ≤ 0 := by
  first | assumption | omega | grind
set_option maxHeartbeats 4000000 in
theorem vc_Mo_dotLine_5_2 (x1 : Int) (x2 : Int) (x3 : Int) (x4 : Int) (x6 : Int) (x7 : Int) (x8 : Int) (x9 : Int) (k1 : 0 ≤ x1 ∧ x1 ≤ 63) (k2 : 0 ≤ x2 ∧ x2 ≤ 63) (k3 : 0 ≤ x3 ∧ x3 ≤ 63) (k4 : 0 ≤ x4 ∧ x4 ≤ 63) (k6 : (-63) ≤ x6 ∧ x6 ≤ 63) (k7 : (-63) ≤ x7 ∧ x7 ≤ 63) (k8 : 0 ≤ x8 ∧ x8 ≤ 63) (k9 : (-63) ≤ x9 ∧ x9 ≤ 62) (d0 : x8 + (-4294967296) ≤ x7 ∧ x7 ≤ x8 + 0) (d1 : x9 + 1 ≤ x8 ∧ x8 ≤ x9 + 4294967296) (d2 : x2 + (-63) ≤ x9 ∧ x9 ≤ x2 + 0) (d3 : x4 + (-63) ≤ x8 ∧ x8 ≤ x4 + 0) (d4 : x7 + (-4294967296) ≤ x6 ∧ x6 ≤ x7 + 0) (d5 : x1 + (-63) ≤ x7 ∧ x7 ≤ x1 + 0) (d6 : x3 + (-63) ≤ x6 ∧ x6 ≤ x3 + 0) (f0 : x7 ≤ x8) (f1 : x8 ≤ x8) (f2 : x8 ≤ x8) (f3 : x9 ≤ x8) (f4 : x9 = x2 - x4) (f5 : x8 = x4 - x2) (f6 : x6 ≤ x7) (f7 : x7 ≤ x7) (f8 : x7 = x1 - x3) (f9 : x6 = x3 - x1) : 1 * x4 + ((-1) * x2 + ((-1) * x8 + 0)) ≤ 0 := by
  first | assumption | omega | grind
set_option maxHeartbeats 4000000 in
theorem vc_Mo_dotLine_5_3 (x1 : Int) (x2 : Int) (x3 : Int) (x4 : Int) (x6 : Int) (x7 : Int) (x8 : Int) (x9 : Int) (k1 : 0 ≤ x1 ∧ x1 ≤ 63) (k2 : 0 ≤ x2 ∧ x2 ≤ 63) (k3 : 0 ≤ x3 ∧ x3 ≤ 63) (k4 : 0 ≤ x4 ∧ x4 ≤ 63) (k6 : (-63) ≤ x6 ∧ x6 ≤ 63) (k7 : (-63) ≤ x7 ∧ x7 ≤ 63) (k8 : 0 ≤ x8 ∧ x8 ≤ 63) (k9 : (-63) ≤ x9 ∧ x9 ≤ 62) (d0 : x8 + (-4294967296) ≤ x7 ∧ x7 ≤ x8 + 0) (d1 : x9 + 1 ≤ x8 ∧ x8 ≤ x9 + 4294967296) (d2 : x2 + (-63) ≤ x9 ∧ x9 ≤ x2 + 0) (d3 : x4 + (-63) ≤ x8 ∧ x8 ≤ x4 + 0) (d4 : x7 + (-4294967296) ≤ x6 ∧ x6 ≤ x7 + 0) (d5 : x1 + (-63) ≤ x7 ∧ x7 ≤ x1 + 0) (d6 : x3 + (-63) ≤ x6 ∧ x6 ≤ x3 + 0) (f0 : x7 ≤ x8) (f1 : x8 ≤ x8) (f2 : x8 ≤ x8) (f3 : x9 ≤ x8) (f4 : x9 = x2 - x4) (f5 : x8 = x4 - x2) (f6 : x6 ≤ x7) (f7 : x7 ≤ x7) (f8 : x7 = x1 - x3) (f9 : x6 = x3 - x1) : (-1) * x4 + (1 * x2 + ((-1) * x8 + 0)) ≤ 0 := by
  first | assumption | omega | grind
def o_Mo_dotLine_5 : or_T := (28, 11, [(1, (0, 0, 63, [])), (2, (0, 0, 63, [])), (3, (0, 0, 63, [])), (4, (0, 0, 63, [])), (6, (0, -63, 63, [])), (7, (0, -63, 63, [])), (8, (0, 0, 63, [])), (9, (0, -63, 62, []))], [(7, [7, 8], [5]), (7, [8, 8], [5]), (7, [8, 8], [5]), (7, [9, 8], [5]), (2, [9, 2, 4], []), (2, [8, 4, 2], []), (7, [6, 7], [5]), (7, [7, 7], [5]), (2, [7, 1, 3], []), (2, [6, 3, 1], [])], [], [], [(23, [3, 1, 8], [0, 1, -1, -1]), (23, [3, 1, 8], [0, -1, 1, -1]), (23, [4, 2, 8], [0, 1, -1, -1]), (23, [4, 2, 8], [0, -1, 1, -1])], [], [(7, 8, -4294967296, 0), (8, 9, 1, 4294967296), (9, 2, -63, 0), (8, 4, -63, 0), (6, 7, -4294967296, 0), (7, 1, -63, 0), (6, 3, -63, 0)])
theorem oo_Mo_dotLine_5 {kA : Nat → ClassId} : or_ok PRD kA GG o_Mo_dotLine_5 := by
  refine or_mk fun A ta ws vs hD hth hl => ?_
  intro t1 k1 t2 k2 t3 k3 t4 k4 t6 k6 t7 k7 t8 k8 t9 k9 d0 d1 d2 d3 d4 d5 d6 f0 f1 f2 f3 f4 f5 f6 f7 f8 f9
  have nf0 : fc_1 PRD (23, [3, 1, 8], [0, 1, -1, -1]) ws (vs) := ⟨nf_in hl rfl, sgq_136 (vc_Mo_dotLine_5_0 (v_iv (n_v vs 1)) (v_iv (n_v vs 2)) (v_iv (n_v vs 3)) (v_iv (n_v vs 4)) (v_iv (n_v vs 6)) (v_iv (n_v vs 7)) (v_iv (n_v vs 8)) (v_iv (n_v vs 9)) k1 k2 k3 k4 k6 k7 k8 k9 d0 d1 d2 d3 d4 d5 d6 (shm_24 f0) (shm_125 f1) (shm_125 f2) (shm_24 f3) (shm_14 f4) (shm_14 f5) (shm_24 f6) (shm_125 f7) (shm_14 f8) (shm_14 f9))⟩
  have nf1 : fc_1 PRD (23, [3, 1, 8], [0, -1, 1, -1]) ws (vs) := ⟨nf_in hl rfl, sgq_1124 (vc_Mo_dotLine_5_1 (v_iv (n_v vs 1)) (v_iv (n_v vs 2)) (v_iv (n_v vs 3)) (v_iv (n_v vs 4)) (v_iv (n_v vs 6)) (v_iv (n_v vs 7)) (v_iv (n_v vs 8)) (v_iv (n_v vs 9)) k1 k2 k3 k4 k6 k7 k8 k9 d0 d1 d2 d3 d4 d5 d6 (shm_24 f0) (shm_125 f1) (shm_125 f2) (shm_24 f3) (shm_14 f4) (shm_14 f5) (shm_24 f6) (shm_125 f7) (shm_14 f8) (shm_14 f9))⟩
  have nf2 : fc_1 PRD (23, [4, 2, 8], [0, 1, -1, -1]) ws (vs) := ⟨nf_in hl rfl, sgq_136 (vc_Mo_dotLine_5_2 (v_iv (n_v vs 1)) (v_iv (n_v vs 2)) (v_iv (n_v vs 3)) (v_iv (n_v vs 4)) (v_iv (n_v vs 6)) (v_iv (n_v vs 7)) (v_iv (n_v vs 8)) (v_iv (n_v vs 9)) k1 k2 k3 k4 k6 k7 k8 k9 d0 d1 d2 d3 d4 d5 d6 (shm_24 f0) (shm_125 f1) (shm_125 f2) (shm_24 f3) (shm_14 f4) (shm_14 f5) (shm_24 f6) (shm_125 f7) (shm_14 f8) (shm_14 f9))⟩
  have nf3 : fc_1 PRD (23, [4, 2, 8], [0, -1, 1, -1]) ws (vs) := ⟨nf_in hl rfl, sgq_1124 (vc_Mo_dotLine_5_3 (v_iv (n_v vs 1)) (v_iv (n_v vs 2)) (v_iv (n_v vs 3)) (v_iv (n_v vs 4)) (v_iv (n_v vs 6)) (v_iv (n_v vs 7)) (v_iv (n_v vs 8)) (v_iv (n_v vs 9)) k1 k2 k3 k4 k6 k7 k8 k9 d0 d1 d2 d3 d4 d5 d6 (shm_24 f0) (shm_125 f1) (shm_125 f2) (shm_24 f3) (shm_14 f4) (shm_14 f5) (shm_24 f6) (shm_125 f7) (shm_14 f8) (shm_14 f9))⟩
  refine ⟨(fun _ h => (by cases h)), [], trivial, ?_, (fun _ h => (by cases h))⟩
  rw [List.append_nil]
  exact List.forall_mem_cons.mpr ⟨⟨show (23 : Nat) < 100 from by decide, nf0⟩, List.forall_mem_cons.mpr ⟨⟨show (23 : Nat) < 100 from by decide, nf1⟩, List.forall_mem_cons.mpr ⟨⟨show (23 : Nat) < 100 from by decide, nf2⟩, List.forall_mem_cons.mpr ⟨⟨show (23 : Nat) < 100 from by decide, nf3⟩, (fun _ h => (by cases h))⟩⟩⟩⟩
set_option maxHeartbeats 4000000 in
theorem vc_Mo_dotLine_6_r0 (x1 : Int) (x2 : Int) (x3 : Int) (x4 : Int) (x6 : Int) (x7 : Int) (x8 : Int) (x9 : Int) (k1 : 0 ≤ x1 ∧ x1 ≤ 63) (k2 : 0 ≤ x2 ∧ x2 ≤ 63) (k3 : 0 ≤ x3 ∧ x3 ≤ 63) (k4 : 0 ≤ x4 ∧ x4 ≤ 63) (k6 : (-63) ≤ x6 ∧ x6 ≤ 63) (k7 : (-61) ≤ x7 ∧ x7 ≤ 63) (k8 : (-62) ≤ x8 ∧ x8 ≤ 62) (k9 : (-63) ≤ x9 ∧ x9 ≤ 62) (d0 : x8 + 1 ≤ x7 ∧ x7 ≤ x8 + 4294967296) (d1 : x9 + 1 ≤ x8 ∧ x8 ≤ x9 + 4294967296) (d2 : x2 + (-63) ≤ x9 ∧ x9 ≤ x2 + 0) (d3 : x4 + (-63) ≤ x8 ∧ x8 ≤ x4 + 0) (d4 : x7 + (-4294967296) ≤ x6 ∧ x6 ≤ x7 + 0) (d5 : x1 + (-63) ≤ x7 ∧ x7 ≤ x1 + 0) (d6 : x3 + (-63) ≤ x6 ∧ x6 ≤ x3 + 0) (f0 : x7 ≤ x7) (f1 : x8 ≤ x7) (f2 : x8 ≤ x8) (f3 : x9 ≤ x8) (f4 : x9 = x2 - x4) (f5 : x8 = x4 - x2) (f6 : x6 ≤ x7) (f7 : x7 ≤ x7) (f8 : x7 = x1 - x3) (f9 : x6 = x3 - x1) : 0 ≤ x7 ∧ x7 ≤ 63 := by
  first | assumption | omega | grind
def o_Mo_dotLine_6 : or_T := (23, 10, [(1, (0, 0, 63, [])), (2, (0, 0, 63, [])), (3, (0, 0, 63, [])), (4, (0, 0, 63, [])), (6, (0, -63, 63, [])), (7, (0, -61, 63, [])), (8, (0, -62, 62, [])), (9, (0, -63, 62, []))], [(7, [7, 7], [5]), (7, [8, 7], [5]), (7, [8, 8], [5]), (7, [9, 8], [5]), (2, [9, 2, 4], []), (2, [8, 4, 2], []), (7, [6, 7], [5]), (7, [7, 7], [5]), (2, [7, 1, 3], []), (2, [6, 3, 1], [])], [(7, (0, 0, 63, []))], [], [], [], [(7, 8, 1, 4294967296), (8, 9, 1, 4294967296), (9, 2, -63, 0), (8, 4, -63, 0), (6, 7, -4294967296, 0), (7, 1, -63, 0), (6, 3, -63, 0)])
theorem oo_Mo_dotLine_6 {kA : Nat → ClassId} : or_ok PRD kA GG o_Mo_dotLine_6 := by
  refine or_mk fun A ta ws vs hD hth hl => ?_
  intro t1 k1 t2 k2 t3 k3 t4 k4 t6 k6 t7 k7 t8 k8 t9 k9 d0 d1 d2 d3 d4 d5 d6 f0 f1 f2 f3 f4 f5 f6 f7 f8 f9
  have hrf0 : 0 ≤ v_iv (n_v vs 7) ∧ v_iv (n_v vs 7) ≤ 63 := vc_Mo_dotLine_6_r0 (v_iv (n_v vs 1)) (v_iv (n_v vs 2)) (v_iv (n_v vs 3)) (v_iv (n_v vs 4)) (v_iv (n_v vs 6)) (v_iv (n_v vs 7)) (v_iv (n_v vs 8)) (v_iv (n_v vs 9)) k1 k2 k3 k4 k6 k7 k8 k9 d0 d1 d2 d3 d4 d5 d6 (shm_125 f0) (shm_24 f1) (shm_125 f2) (shm_24 f3) (shm_14 f4) (shm_14 f5) (shm_24 f6) (shm_125 f7) (shm_14 f8) (shm_14 f9)
  have rf7 : tv_ok ta (0, 0, 63, []) (n_v vs 7) := tv_in t7 (by omega) (by omega)
  refine ⟨List.forall_mem_cons.mpr ⟨rf7, (fun _ h => (by cases h))⟩, [], trivial, ?_, (fun _ h => (by cases h))⟩
  rw [List.append_nil]
  exact (fun _ h => (by cases h))
set_option maxHeartbeats 4000000 in
theorem vc_Mo_dotLine_7_0 (x1 : Int) (x2 : Int) (x3 : Int) (x4 : Int) (x6 : Int) (x7 : Int) (x8 : Int) (x9 : Int) (k1 : 0 ≤ x1 ∧ x1 ≤ 63) (k2 : 0 ≤ x2 ∧ x2 ≤ 63) (k3 : 0 ≤ x3 ∧ x3 ≤ 63) (k4 : 0 ≤ x4 ∧ x4 ≤ 63) (k6 : (-63) ≤ x6 ∧ x6 ≤ 63) (k7 : 0 ≤ x7 ∧ x7 ≤ 63) (k8 : (-62) ≤ x8 ∧ x8 ≤ 62) (k9 : (-63) ≤ x9 ∧ x9 ≤ 62) (d0 : x8 + 1 ≤ x7 ∧ x7 ≤ x8 + 4294967296) (d1 : x9 + 1 ≤ x8 ∧ x8 ≤ x9 + 4294967296) (d2 : x2 + (-63) ≤ x9 ∧ x9 ≤ x2 + 0) (d3 : x4 + (-63) ≤ x8 ∧ x8 ≤ x4 + 0) (d4 : x7 + (-4294967296) ≤ x6 ∧ x6 ≤ x7 + 0) (d5 : x1 + (-63) ≤ x7 ∧ x7 ≤ x1 + 0) (d6 : x3 + (-63) ≤ x6 ∧ x6 ≤ x3 + 0) (f0 : x7 ≤ x7) (f1 : x8 ≤ x7) (f2 : x8 ≤ x8) (f3 : x9 ≤ x8) (f4 : x9 = x2 - x4) (f5 : x8 = x4 - x2) (f6 : x6 ≤ x7) (f7 : x7 ≤ x7) (f8 : x7 = x1 - x3) (f9 : x6 = x3 - x1) : 1 * x3 + ((-1) * x1 + ((-1) * x7 + 0)) ≤ 0 := by
  first | assumption | omega | grind
set_option maxHeartbeats 4000000 in
theorem vc_Mo_dotLine_7_1 (x1 : Int) (x2 : Int) (x3 : Int) (x4 : Int) (x6 : Int) (x7 : Int) (x8 : Int) (x9 : Int) (k1 : 0 ≤ x1 ∧ x1 ≤ 63) (k2 : 0 ≤ x2 ∧ x2 ≤ 63) (k3 : 0 ≤ x3 ∧ x3 ≤ 63) (k4 : 0 ≤ x4 ∧ x4 ≤ 63) (k6 : (-63) ≤ x6 ∧ x6 ≤ 63) (k7 : 0 ≤ x7 ∧ x7 ≤ 63) (k8 : (-62) ≤ x8 ∧ x8 ≤ 62) (k9 : (-63) ≤ x9 ∧ x9 ≤ 62) (d0 : x8 + 1 ≤ x7 ∧ x7 ≤ x8 + 4294967296) (d1 : x9 + 1 ≤ x8 ∧ x8 ≤ x9 + 4294967296) (d2 : x2 + (-63) ≤ x9 ∧ x9 ≤ x2 + 0) (d3 : x4 + (-63) ≤ x8 ∧ x8 ≤ x4 + 0) (d4 : x7 + (-4294967296) ≤ x6 ∧ x6 ≤ x7 + 0) (d5 : x1 + (-63) ≤ x7 ∧ x7 ≤ x1 + 0) (d6 : x3 + (-63) ≤ x6 ∧ x6 ≤ x3 + 0) (f0 : x7 ≤ x7) (f1 : x8 ≤ x7) (f2 : x8 ≤ x8) (f3 : x9 ≤ x8) (f4 : x9 = x2 - x4) (f5 : x8 = x4 - x2) (f6 : x6 ≤ x7) (f7 : x7 ≤ x7) (f8 : x7 = x1 - x3) (f9 : x6 = x3 - x1) : (-1) * x3 + (1 * x1 + ((-1) * x7 + 0)) ≤ 0 := by
  first | assumption | omega | grind
set_option maxHeartbeats 4000000 in
theorem vc_Mo_dotLine_7_2 (x1 : Int) (x2 : Int) (x3 : Int) (x4 : Int) (x6 : Int) (x7 : Int) (x8 : Int) (x9 : Int) (k1 : 0 ≤ x1 ∧ x1 ≤ 63) (k2 : 0 ≤ x2 ∧ x2 ≤ 63) (k3 : 0 ≤ x3 ∧ x3 ≤ 63) (k4 : 0 ≤ x4 ∧ x4 ≤ 63) (k6 : (-63) ≤ x6 ∧ x6 ≤ 63) (k7 : 0 ≤ x7 ∧ x7 ≤ 63) (k8 : (-62) ≤ x8 ∧ x8 ≤ 62) (k9 : (-63) ≤ x9 ∧ x9 ≤ 62) (d0 : x8 + 1 ≤ x7 ∧ x7 ≤ x8 + 4294967296) (d1 : x9 + 1 ≤ x8 ∧ x8 ≤ x9 + 4294967296) (d2 : x2 + (-63) ≤ x9 ∧ x9 ≤ x2 + 0) (d3 : x4 + (-63) ≤ x8 ∧ x8 ≤ x4 + 0) (d4 : x7 + (-4294967296) ≤ x6 ∧ x6 ≤ x7 + 0) (d5 : x1 + (-63) ≤ x7 ∧ x7 ≤ x1 + 0) (d6 : x3 + (-63) ≤ x6 ∧ x6 ≤ x3 + 0) (f0 : x7 ≤ x7) (f1 : x8 ≤ x7) (f2 : x8 ≤ x8) (f3 : x9 ≤ x8) (f4 : x9 = x2 - x4) (f5 : x8 = x4 - x2) (f6 : x6 ≤ x7) (f7 : x7 ≤ x7) (f8 : x7 = x1 - x3) (f9 : x6 = x3 - x1) : 1 * x4 + ((-1) * x2 + ((-1) * x7 + 0)) ≤ 0 := by
  first | assumption | omega | grind
set_option maxHeartbeats 4000000 in
theorem vc_Mo_dotLine_7_3 (x1 : Int) (x2 : Int) (x3 : Int) (x4 : Int) (x6 : Int) (x7 : Int) (x8 : Int) (x9 : Int) (k1 : 0 ≤ x1 ∧ x1 ≤ 63) (k2 : 0 ≤ x2 ∧ x2 ≤ 63) (k3 : 0 ≤ x3 ∧ x3 ≤ 63) (k4 : 0 ≤ x4 ∧ x4 ≤ 63) (k6 : (-63) ≤ x6 ∧ x6 ≤ 63) (k7 : 0 ≤ x7 ∧ x7 ≤ 63) (k8 : (-62) ≤ x8 ∧ x8 ≤ 62) (k9 : (-63) ≤ x9 ∧ x9 ≤ 62) (d0 : x8 + 1 ≤ x7 ∧ x7 ≤ x8 + 4294967296) (d1 : x9 + 1 ≤ x8 ∧ x8 ≤ x9 + 4294967296) (d2 : x2 + (-63) ≤ x9 ∧ x9 ≤ x2 + 0) (d3 : x4 + (-63) ≤ x8 ∧ x8 ≤ x4 + 0) (d4 : x7 + (-4294967296) ≤ x6 ∧ x6 ≤ x7 + 0) (d5 : x1 + (-63) ≤ x7 ∧ x7 ≤ x1 + 0) (d6 : x3 + (-63) ≤ x6 ∧ x6 ≤ x3 + 0) (f0 : x7 ≤ x7) (f1 : x8 ≤ x7) (f2 : x8 ≤ x8) (f3 : x9 ≤ x8) (f4 : x9 = x2 - x4) (f5 : x8 = x4 - x2) (f6 : x6 ≤ x7) (f7 : x7 ≤ x7) (f8 : x7 = x1 - x3) (f9 : x6 = x3 - x1) : (-1) * x4 + (1 * x2 + ((-1) * x7 + 0)) ≤ 0 := by
  first | assumption | omega | grind
def o_Mo_dotLine_7 : or_T := (28, 11, [(1, (0, 0, 63, [])), (2, (0, 0, 63, [])), (3, (0, 0, 63, [])), (4, (0, 0, 63, [])), (6, (0, -63, 63, [])), (7, (0, 0, 63, [])), (8, (0, -62, 62, [])), (9, (0, -63, 62, []))], [(7, [7, 7], [5]), (7, [8, 7], [5]), (7, [8, 8], [5]), (7, [9, 8], [5]), (2, [9, 2, 4], []), (2, [8, 4, 2], []), (7, [6, 7], [5]), (7, [7, 7], [5]), (2, [7, 1, 3], []), (2, [6, 3, 1], [])], [], [], [(23, [3, 1, 7], [0, 1, -1, -1]), (23, [3, 1, 7], [0, -1, 1, -1]), (23, [4, 2, 7], [0, 1, -1, -1]), (23, [4, 2, 7], [0, -1, 1, -1])], [], [(7, 8, 1, 4294967296), (8, 9, 1, 4294967296), (9, 2, -63, 0), (8, 4, -63, 0), (6, 7, -4294967296, 0), (7, 1, -63, 0), (6, 3, -63, 0)])
theorem oo_Mo_dotLine_7 {kA : Nat → ClassId} : or_ok PRD kA GG o_Mo_dotLine_7 := by
  refine or_mk fun A ta ws vs hD hth hl => ?_
  intro t1 k1 t2 k2 t3 k3 t4 k4 t6 k6 t7 k7 t8 k8 t9 k9 d0 d1 d2 d3 d4 d5 d6 f0 f1 f2 f3 f4 f5 f6 f7 f8 f9
  have nf0 : fc_1 PRD (23, [3, 1, 7], [0, 1, -1, -1]) ws (vs) := ⟨nf_in hl rfl, sgq_136 (vc_Mo_dotLine_7_0 (v_iv (n_v vs 1)) (v_iv (n_v vs 2)) (v_iv (n_v vs 3)) (v_iv (n_v vs 4)) (v_iv (n_v vs 6)) (v_iv (n_v vs 7)) (v_iv (n_v vs 8)) (v_iv (n_v vs 9)) k1 k2 k3 k4 k6 k7 k8 k9 d0 d1 d2 d3 d4 d5 d6 (shm_125 f0) (shm_24 f1) (shm_125 f2) (shm_24 f3) (shm_14 f4) (shm_14 f5) (shm_24 f6) (shm_125 f7) (shm_14 f8) (shm_14 f9))⟩
  have nf1 : fc_1 PRD (23, [3, 1, 7], [0, -1, 1, -1]) ws (vs) := ⟨nf_in hl rfl, sgq_1124 (vc_Mo_dotLine_7_1 (v_iv (n_v vs 1)) (v_iv (n_v vs 2)) (v_iv (n_v vs 3)) (v_iv (n_v vs 4)) (v_iv (n_v vs 6)) (v_iv (n_v vs 7)) (v_iv (n_v vs 8)) (v_iv (n_v vs 9)) k1 k2 k3 k4 k6 k7 k8 k9 d0 d1 d2 d3 d4 d5 d6 (shm_125 f0) (shm_24 f1) (shm_125 f2) (shm_24 f3) (shm_14 f4) (shm_14 f5) (shm_24 f6) (shm_125 f7) (shm_14 f8) (shm_14 f9))⟩
  have nf2 : fc_1 PRD (23, [4, 2, 7], [0, 1, -1, -1]) ws (vs) := ⟨nf_in hl rfl, sgq_136 (vc_Mo_dotLine_7_2 (v_iv (n_v vs 1)) (v_iv (n_v vs 2)) (v_iv (n_v vs 3)) (v_iv (n_v vs 4)) (v_iv (n_v vs 6)) (v_iv (n_v vs 7)) (v_iv (n_v vs 8)) (v_iv (n_v vs 9)) k1 k2 k3 k4 k6 k7 k8 k9 d0 d1 d2 d3 d4 d5 d6 (shm_125 f0) (shm_24 f1) (shm_125 f2) (shm_24 f3) (shm_14 f4) (shm_14 f5) (shm_24 f6) (shm_125 f7) (shm_14 f8) (shm_14 f9))⟩
  have nf3 : fc_1 PRD (23, [4, 2, 7], [0, -1, 1, -1]) ws (vs) := ⟨nf_in hl rfl, sgq_1124 (vc_Mo_dotLine_7_3 (v_iv (n_v vs 1)) (v_iv (n_v vs 2)) (v_iv (n_v vs 3)) (v_iv (n_v vs 4)) (v_iv (n_v vs 6)) (v_iv (n_v vs 7)) (v_iv (n_v vs 8)) (v_iv (n_v vs 9)) k1 k2 k3 k4 k6 k7 k8 k9 d0 d1 d2 d3 d4 d5 d6 (shm_125 f0) (shm_24 f1) (shm_125 f2) (shm_24 f3) (shm_14 f4) (shm_14 f5) (shm_24 f6) (shm_125 f7) (shm_14 f8) (shm_14 f9))⟩
  refine ⟨(fun _ h => (by cases h)), [], trivial, ?_, (fun _ h => (by cases h))⟩
  rw [List.append_nil]
  exact List.forall_mem_cons.mpr ⟨⟨show (23 : Nat) < 100 from by decide, nf0⟩, List.forall_mem_cons.mpr ⟨⟨show (23 : Nat) < 100 from by decide, nf1⟩, List.forall_mem_cons.mpr ⟨⟨show (23 : Nat) < 100 from by decide, nf2⟩, List.forall_mem_cons.mpr ⟨⟨show (23 : Nat) < 100 from by decide, nf3⟩, (fun _ h => (by cases h))⟩⟩⟩⟩
set_option maxHeartbeats 4000000 in
theorem vc_Mo_dotLine_8_r0 (x1 : Int) (x2 : Int) (x3 : Int) (x4 : Int) (x6 : Int) (x7 : Int) (x8 : Int) (x9 : Int) (k1 : 0 ≤ x1 ∧ x1 ≤ 63) (k2 : 0 ≤ x2 ∧ x2 ≤ 63) (k3 : 0 ≤ x3 ∧ x3 ≤ 63) (k4 : 0 ≤ x4 ∧ x4 ≤ 63) (k6 : (-62) ≤ x6 ∧ x6 ≤ 63) (k7 : (-63) ≤ x7 ∧ x7 ≤ 62) (k8 : (-63) ≤ x8 ∧ x8 ≤ 63) (k9 : (-62) ≤ x9 ∧ x9 ≤ 63) (d0 : x9 + (-4294967296) ≤ x6 ∧ x6 ≤ x9 + 0) (d1 : x9 + (-4294967296) ≤ x8 ∧ x8 ≤ x9 + 0) (d2 : x2 + (-63) ≤ x9 ∧ x9 ≤ x2 + 0) (d3 : x4 + (-63) ≤ x8 ∧ x8 ≤ x4 + 0) (d4 : x7 + 1 ≤ x6 ∧ x6 ≤ x7 + 4294967296) (d5 : x1 + (-63) ≤ x7 ∧ x7 ≤ x1 + 0) (d6 : x3 + (-63) ≤ x6 ∧ x6 ≤ x3 + 0) (f0 : x6 ≤ x9) (f1 : x9 ≤ x9) (f2 : x8 ≤ x9) (f3 : x9 ≤ x9) (f4 : x9 = x2 - x4) (f5 : x8 = x4 - x2) (f6 : x6 ≤ x6) (f7 : x7 ≤ x6) (f8 : x7 = x1 - x3) (f9 : x6 = x3 - x1) : 0 ≤ x9 ∧ x9 ≤ 63 := by
  first | assumption | omega | grind
def o_Mo_dotLine_8 : or_T := (23, 10, [(1, (0, 0, 63, [])), (2, (0, 0, 63, [])), (3, (0, 0, 63, [])), (4, (0, 0, 63, [])), (6, (0, -62, 63, [])), (7, (0, -63, 62, [])), (8, (0, -63, 63, [])), (9, (0, -62, 63, []))], [(7, [6, 9], [5]), (7, [9, 9], [5]), (7, [8, 9], [5]), (7, [9, 9], [5]), (2, [9, 2, 4], []), (2, [8, 4, 2], []), (7, [6, 6], [5]), (7, [7, 6], [5]), (2, [7, 1, 3], []), (2, [6, 3, 1], [])], [(9, (0, 0, 63, []))], [], [], [], [(6, 9, -4294967296, 0), (8, 9, -4294967296, 0), (9, 2, -63, 0), (8, 4, -63, 0), (6, 7, 1, 4294967296), (7, 1, -63, 0), (6, 3, -63, 0)])
theorem oo_Mo_dotLine_8 {kA : Nat → ClassId} : or_ok PRD kA GG o_Mo_dotLine_8 := by
  refine or_mk fun A ta ws vs hD hth hl => ?_
  intro t1 k1 t2 k2 t3 k3 t4 k4 t6 k6 t7 k7 t8 k8 t9 k9 d0 d1 d2 d3 d4 d5 d6 f0 f1 f2 f3 f4 f5 f6 f7 f8 f9
  have hrf0 : 0 ≤ v_iv (n_v vs 9) ∧ v_iv (n_v vs 9) ≤ 63 := vc_Mo_dotLine_8_r0 (v_iv (n_v vs 1)) (v_iv (n_v vs 2)) (v_iv (n_v vs 3)) (v_iv (n_v vs 4)) (v_iv (n_v vs 6)) (v_iv (n_v vs 7)) (v_iv (n_v vs 8)) (v_iv (n_v vs 9)) k1 k2 k3 k4 k6 k7 k8 k9 d0 d1 d2 d3 d4 d5 d6 (shm_24 f0) (shm_125 f1) (shm_24 f2) (shm_125 f3) (shm_14 f4) (shm_14 f5) (shm_125 f6) (shm_24 f7) (shm_14 f8) (shm_14 f9)
  have rf9 : tv_ok ta (0, 0, 63, []) (n_v vs 9) := tv_in t9 (by omega) (by omega)
  refine ⟨List.forall_mem_cons.mpr ⟨rf9, (fun _ h => (by cases h))⟩, [], trivial, ?_, (fun _ h => (by cases h))⟩
  rw [List.append_nil]
  exact (fun _ h => (by cases h))
set_option maxHeartbeats 4000000 in
theorem vc_Mo_dotLine_9_0 (x1 : Int) (x2 : Int) (x3 : Int) (x4 : Int) (x6 : Int) (x7 : Int) (x8 : Int) (x9 : Int) (k1 : 0 ≤ x1 ∧ x1 ≤ 63) (k2 : 0 ≤ x2 ∧ x2 ≤ 63) (k3 : 0 ≤ x3 ∧ x3 ≤ 63) (k4 : 0 ≤ x4 ∧ x4 ≤ 63) (k6 : (-62) ≤ x6 ∧ x6 ≤ 63) (k7 : (-63) ≤ x7 ∧ x7 ≤ 62) (k8 : (-63) ≤ x8 ∧ x8 ≤ 63) (k9 : 0 ≤ x9 ∧ x9 ≤ 63) (d0 : x9 + (-4294967296) ≤ x6 ∧ x6 ≤ x9 + 0) (d1 : x9 + (-4294967296) ≤ x8 ∧ x8 ≤ x9 + 0) (d2 : x2 + (-63) ≤ x9 ∧ x9 ≤ x2 + 0) (d3 : x4 + (-63) ≤ x8 ∧ x8 ≤ x4 + 0) (d4 : x7 + 1 ≤ x6 ∧ x6 ≤ x7 + 4294967296) (d5 : x1 + (-63) ≤ x7 ∧ x7 ≤ x1 + 0) (d6 : x3 + (-63) ≤ x6 ∧ x6 ≤ x3 + 0) (f0 : x6 ≤ x9) (f1 : x9 ≤ x9) (f2 : x8 ≤ x9) (f3 : x9 ≤ x9) (f4 : x9 = x2 - x4) (f5 : x8 = x4 - x2) (f6 : x6 ≤ x6) (f7 : x7 ≤ x6) (f8 : x7 = x1 - x3) (f9 : x6 = x3 - x1) : 1 * x3 + ((-1) * x1 + ((-1) * x9 + 0)) ≤ 0 := by
  first | assumption | omega | grind
set_option maxHeartbeats 4000000 in
theorem vc_Mo_dotLine_9_1 (x1 : Int) (x2 : Int) (x3 : Int) (x4 : Int) (x6 : Int) (x7 : Int) (x8 : Int) (x9 : Int) (k1 : 0 ≤ x1 ∧ x1 ≤ 63) (k2 : 0 ≤ x2 ∧ x2 ≤ 63) (k3 : 0 ≤ x3 ∧ x3 ≤ 63) (k4 : 0 ≤ x4 ∧ x4 ≤ 63) (k6 : (-62) ≤ x6 ∧ x6 ≤ 63) (k7 : (-63) ≤ x7 ∧ x7 ≤ 62) (k8 : (-63) ≤ x8 ∧ x8 ≤ 63) (k9 : 0 ≤ x9 ∧ x9 ≤ 63) (d0 : x9 + (-4294967296) ≤ x6 ∧ x6 ≤ x9 + 0) (d1 : x9 + (-4294967296) ≤ x8 ∧ x8 ≤ x9 + 0) (d2 : x2 + (-63) ≤ x9 ∧ x9 ≤ x2 + 0) (d3 : x4 + (-63) ≤ x8 ∧ x8 ≤ x4 + 0) (d4 : x7 + 1 ≤ x6 ∧ x6 ≤ x7 + 4294967296) (d5 : x1 + (-63) ≤ x7 ∧ x7 ≤ x1 + 0) (d6 : x3 + (-63) ≤ x6 ∧ x6 ≤ x3 + 0) (f0 : x6 ≤ x9) (f1 : x9 ≤ x9) (f2 : x8 ≤ x9) (f3 : x9 ≤ x9) (f4 : x9 = x2 - x4) (f5 : x8 = x4 - x2) (f6 : x6 ≤ x6) (f7 : x7 ≤ x6) (f8 : x7 = x1 - x3) (f9 : x6 = x3 - x1) : (-1) * x3 + (1 * x1 + ((-1) * x9 + 0)) ≤ 0 := by
  first | assumption | omega | grind
set_option maxHeartbeats 4000000 in
theorem vc_Mo_dotLine_9_2 (x1 : Int) (x2 : Int) (x3 : Int) (x4 : Int) (x6 : Int) (x7 : Int) (x8 : Int) (x9 : Int) (k1 : 0 ≤ x1 ∧ x1 ≤ 63) (k2 : 0 ≤ x2 ∧ x2 ≤ 63) (k3 : 0 ≤ x3 ∧ x3 ≤ 63) (k4 : 0 ≤ x4 ∧ x4 ≤ 63) (k6 : (-62) ≤ x6 ∧ x6 ≤ 63) (k7 : (-63) ≤ x7 ∧ x7 ≤ 62) (k8 : (-63) ≤ x8 ∧ x8 ≤ 63) (k9 : 0 ≤ x9 ∧ x9 ≤ 63) (d0 : x9 + (-4294967296) ≤ x6 ∧ x6 ≤ x9 + 0) (d1 : x9 + (-4294967296) ≤ x8 ∧ x8 ≤ x9 + 0) (d2 : x2 + (-63) ≤ x9 ∧ x9 ≤ x2 + 0) (d3 : x4 + (-63) ≤ x8 ∧ x8 ≤ x4 + 0) (d4 : x7 + 1 ≤ x6 ∧ x6 ≤ x7 + 4294967296) (d5 : x1 + (-63) ≤ x7 ∧ x7 ≤ x1 + 0) (d6 : x3 + (-63) ≤ x6 ∧ x6 ≤ x3 + 0) (f0 : x6 ≤ x9) (f1 : x9 ≤ x9) (f2 : x8 ≤ x9) (f3 : x9 ≤ x9) (f4 : x9 = x2 - x4) (f5 : x8 = x4 - x2) (f6 : x6 ≤ x6) (f7 : x7 ≤ x6) (f8 : x7 = x1 - x3) (f9 : x6 = x3 - x1) : 1 * x4 + ((-1) * x2 + ((-1) * x9 + 0)) ≤ 0 := by
  first | assumption | omega | grind
set_option maxHeartbeats 4000000 in
theorem vc_Mo_dotLine_9_3 (x1 : Int) (x2 : Int) (x3 : Int) (x4 : Int) (x6 : Int) (x7 : Int) (x8 : Int) (x9 : Int) (k1 : 0 ≤ x1 ∧ x1 ≤ 63) (k2 : 0 ≤ x2 ∧ x2 ≤ 63) (k3 : 0 ≤ x3 ∧ x3 ≤ 63) (k4 : 0 ≤ x4 ∧ x4 ≤ 63) (k6 : (-62) ≤ x6 ∧ x6 ≤ 63) (k7 : (-63) ≤ x7 ∧ x7 ≤ 62) (k8 : (-63) ≤ x8 ∧ x8 ≤ 63) (k9 : 0 ≤ x9 ∧ x9 ≤ 63) (d0 : x9 + (-4294967296) ≤ x6 ∧ x6 ≤ x9 + 0) (d1 : x9 + (-4294967296) ≤ x8 ∧ x8 ≤ x9 + 0) (d2 : x2 + (-63) ≤ x9 ∧ x9 ≤ x2 + 0) (d3 : x4 + (-63) ≤ x8 ∧ x8 ≤ x4 + 0) (d4 : x7 + 1 ≤ x6 ∧ x6 ≤ x7 + 4294967296) (d5 : x1 + (-63) ≤ x7 ∧ x7 ≤ x1 + 0) (d6 : x3 + (-63) ≤ x6 ∧ x6 ≤ x3 + 0) (f0 : x6 ≤ x9) (f1 : x9 ≤ x9) (f2 : x8 ≤ x9) (f3 : x9 ≤ x9) (f4 : x9 = x2 - x4) (f5 : x8 = x4 - x2) (f6 : x6 ≤ x6) (f7 : x7 ≤ x6) (f8 : x7 = x1 - x3) (f9 : x6 = x3 - x1) : (-1) * x4 + (1 * x2 + ((-1) * x9 + 0)) ≤ 0 := by
  first | assumption | omega | grind
def o_Mo_dotLine_9 : or_T := (28, 11, [(1, (0, 0, 63, [])), (2, (0, 0, 63, [])), (3, (0, 0, 63, [])), (4, (0, 0, 63, [])), (6, (0, -62, 63, [])), (7, (0, -63, 62, [])), (8, (0, -63, 63, [])), (9, (0, 0, 63, []))], [(7, [6, 9], [5]), (7, [9, 9], [5]), (7, [8, 9], [5]), (7, [9, 9], [5]), (2, [9, 2, 4], []), (2, [8, 4, 2], []), (7, [6, 6], [5]), (7, [7, 6], [5]), (2, [7, 1, 3], []), (2, [6, 3, 1], [])], [], [], [(23, [3, 1, 9], [0, 1, -1, -1]), (23, [3, 1, 9], [0, -1, 1, -1]), (23, [4, 2, 9], [0, 1, -1, -1]), (23, [4, 2, 9], [0, -1, 1, -1])], [], [(6, 9, -4294967296, 0), (8, 9, -4294967296, 0), (9, 2, -63, 0), (8, 4, -63, 0), (6, 7, 1, 4294967296), (7, 1, -63, 0), (6, 3, -63, 0)])
theorem oo_Mo_dotLine_9 {kA : Nat → ClassId} : or_ok PRD kA GG o_Mo_dotLine_9 := by
  refine or_mk fun A ta ws vs hD hth hl => ?_
  intro t1 k1 t2 k2 t3 k3 t4 k4 t6 k6 t7 k7 t8 k8 t9 k9 d0 d1 d2 d3 d4 d5 d6 f0 f1 f2 f3 f4 f5 f6 f7 f8 f9
  have nf0 : fc_1 PRD (23, [3, 1, 9], [0, 1, -1, -1]) ws (vs) := ⟨nf_in hl rfl, sgq_136 (vc_Mo_dotLine_9_0 (v_iv (n_v vs 1)) (v_iv (n_v vs 2)) (v_iv (n_v vs 3)) (v_iv (n_v vs 4)) (v_iv (n_v vs 6)) (v_iv (n_v vs 7)) (v_iv (n_v vs 8)) (v_iv (n_v vs 9)) k1 k2 k3 k4 k6 k7 k8 k9 d0 d1 d2 d3 d4 d5 d6 (shm_24 f0) (shm_125 f1) (shm_24 f2) (shm_125 f3) (shm_14 f4) (shm_14 f5) (shm_125 f6) (shm_24 f7) (shm_14 f8) (shm_14 f9))⟩
  have nf1 : fc_1 PRD (23, [3, 1, 9], [0, -1, 1, -1]) ws (vs) := ⟨nf_in hl rfl, sgq_1124 (vc_Mo_dotLine_9_1 (v_iv (n_v vs 1)) (v_iv (n_v vs 2)) (v_iv (n_v vs 3)) (v_iv (n_v vs 4)) (v_iv (n_v vs 6)) (v_iv (n_v vs 7)) (v_iv (n_v vs 8)) (v_iv (n_v vs 9)) k1 k2 k3 k4 k6 k7 k8 k9 d0 d1 d2 d3 d4 d5 d6 (shm_24 f0) (shm_125 f1) (shm_24 f2) (shm_125 f3) (shm_14 f4) (shm_14 f5) (shm_125 f6) (shm_24 f7) (shm_14 f8) (shm_14 f9))⟩
  have nf2 : fc_1 PRD (23, [4, 2, 9], [0, 1, -1, -1]) ws (vs) := ⟨nf_in hl rfl, sgq_136 (vc_Mo_dotLine_9_2 (v_iv (n_v vs 1)) (v_iv (n_v vs 2)) (v_iv (n_v vs 3)) (v_iv (n_v vs 4)) (v_iv (n_v vs 6)) (v_iv (n_v vs 7)) (v_iv (n_v vs 8)) (v_iv (n_v vs 9)) k1 k2 k3 k4 k6 k7 k8 k9 d0 d1 d2 d3 d4 d5 d6 (shm_24 f0) (shm_125 f1) (shm_24 f2) (shm_125 f3) (shm_14 f4) (shm_14 f5) (shm_125 f6) (shm_24 f7) (shm_14 f8) (shm_14 f9))⟩
  have nf3 : fc_1 PRD (23, [4, 2, 9], [0, -1, 1, -1]) ws (vs) := ⟨nf_in hl rfl, sgq_1124 (vc_Mo_dotLine_9_3 (v_iv (n_v vs 1)) (v_iv (n_v vs 2)) (v_iv (n_v vs 3)) (v_iv (n_v vs 4)) (v_iv (n_v vs 6)) (v_iv (n_v vs 7)) (v_iv (n_v vs 8)) (v_iv (n_v vs 9)) k1 k2 k3 k4 k6 k7 k8 k9 d0 d1 d2 d3 d4 d5 d6 (shm_24 f0) (shm_125 f1) (shm_24 f2) (shm_125 f3) (shm_14 f4) (shm_14 f5) (shm_125 f6) (shm_24 f7) (shm_14 f8) (shm_14 f9))⟩
  refine ⟨(fun _ h => (by cases h)), [], trivial, ?_, (fun _ h => (by cases h))⟩
  rw [List.append_nil]
  exact List.forall_mem_cons.mpr ⟨⟨show (23 : Nat) < 100 from by decide, nf0⟩, List.forall_mem_cons.mpr ⟨⟨show (23 : Nat) < 100 from by decide, nf1⟩, List.forall_mem_cons.mpr ⟨⟨show (23 : Nat) < 100 from by decide, nf2⟩, List.forall_mem_cons.mpr ⟨⟨show (23 : Nat) < 100 from by decide, nf3⟩, (fun _ h => (by cases h))⟩⟩⟩⟩
set_option maxHeartbeats 4000000 in
theorem vc_Mo_dotLine_10_r0 (x1 : Int) (x2 : Int) (x3 : Int) (x4 : Int) (x6 : Int) (x7 : Int) (x8 : Int) (x9 : Int) (k1 : 0 ≤ x1 ∧ x1 ≤ 63) (k2 : 0 ≤ x2 ∧ x2 ≤ 63) (k3 : 0 ≤ x3 ∧ x3 ≤ 63) (k4 : 0 ≤ x4 ∧ x4 ≤ 63) (k6 : (-62) ≤ x6 ∧ x6 ≤ 63) (k7 : (-63) ≤ x7 ∧ x7 ≤ 62) (k8 : (-63) ≤ x8 ∧ x8 ≤ 63) (k9 : (-63) ≤ x9 ∧ x9 ≤ 62) (d0 : x9 + 1 ≤ x6 ∧ x6 ≤ x9 + 4294967296) (d1 : x9 + (-4294967296) ≤ x8 ∧ x8 ≤ x9 + 0) (d2 : x2 + (-63) ≤ x9 ∧ x9 ≤ x2 + 0) (d3 : x4 + (-63) ≤ x8 ∧ x8 ≤ x4 + 0) (d4 : x7 + 1 ≤ x6 ∧ x6 ≤ x7 + 4294967296) (d5 : x1 + (-63) ≤ x7 ∧ x7 ≤ x1 + 0) (d6 : x3 + (-63) ≤ x6 ∧ x6 ≤ x3 + 0) (f0 : x6 ≤ x6) (f1 : x9 ≤ x6) (f2 : x8 ≤ x9) (f3 : x9 ≤ x9) (f4 : x9 = x2 - x4) (f5 : x8 = x4 - x2) (f6 : x6 ≤ x6) (f7 : x7 ≤ x6) (f8 : x7 = x1 - x3) (f9 : x6 = x3 - x1) : 0 ≤ x6 ∧ x6 ≤ 63 := by
  first | assumption | omega | grind
def o_Mo_dotLine_10 : or_T := (23, 10, [(1, (0, 0, 63, [])), (2, (0, 0, 63, [])), (3, (0, 0, 63, [])), (4, (0, 0, 63, [])), (6, (0, -62, 63, [])), (7, (0, -63, 62, [])), (8, (0, -63, 63, [])), (9, (0, -63, 62, []))], [(7, [6, 6], [5]), (7, [9, 6], [5]), (7, [8, 9], [5]), (7, [9, 9], [5]), (2, [9, 2, 4], []), (2, [8, 4, 2], []), (7, [6, 6], [5]), (7, [7, 6], [5]), (2, [7, 1, 3], []), (2, [6, 3, 1], [])], [(6, (0, 0, 63, []))], [], [], [], [(6, 9, 1, 4294967296), (8, 9, -4294967296, 0), (9, 2, -63, 0), (8, 4, -63, 0), (6, 7, 1, 4294967296), (7, 1, -63, 0), (6, 3, -63, 0)])
theorem oo_Mo_dotLine_10 {kA : Nat → ClassId} : or_ok PRD kA GG o_Mo_dotLine_10 := by
  refine or_mk fun A ta ws vs hD hth hl => ?_
  intro t1 k1 t2 k2 t3 k3 t4 k4 t6 k6 t7 k7 t8 k8 t9 k9 d0 d1 d2 d3 d4 d5 d6 f0 f1 f2 f3 f4 f5 f6 f7 f8 f9
  have hrf0 : 0 ≤ v_iv (n_v vs 6) ∧ v_iv (n_v vs 6) ≤ 63 := vc_Mo_dotLine_10_r0 (v_iv (n_v vs 1)) (v_iv (n_v vs 2)) (v_iv (n_v vs 3)) (v_iv (n_v vs 4)) (v_iv (n_v vs 6)) (v_iv (n_v vs 7)) (v_iv (n_v vs 8)) (v_iv (n_v vs 9)) k1 k2 k3 k4 k6 k7 k8 k9 d0 d1 d2 d3 d4 d5 d6 (shm_125 f0) (shm_24 f1) (shm_24 f2) (shm_125 f3) (shm_14 f4) (shm_14 f5) (shm_125 f6) (shm_24 f7) (shm_14 f8) (shm_14 f9)
  have rf6 : tv_ok ta (0, 0, 63, []) (n_v vs 6) := tv_in t6 (by omega) (by omega)
  refine ⟨List.forall_mem_cons.mpr ⟨rf6, (fun _ h => (by cases h))⟩, [], trivial, ?_, (fun _ h => (by cases h))⟩
  rw [List.append_nil]
  exact (fun _ h => (by cases h))
set_option maxHeartbeats 4000000 in
theorem vc_Mo_dotLine_11_0 (x1 : Int) (x2 : Int) (x3 : Int) (x4 : Int) (x6 : Int) (x7 : Int) (x8 : Int) (x9 : Int) (k1 : 0 ≤ x1 ∧ x1 ≤ 63) (k2 : 0 ≤ x2 ∧ x2 ≤ 63) (k3 : 0 ≤ x3 ∧ x3 ≤ 63) (k4 : 0 ≤ x4 ∧ x4 ≤ 63) (k6 : 0 ≤ x6 ∧ x6 ≤ 63) (k7 : (-63) ≤ x7 ∧ x7 ≤ 62) (k8 : (-63) ≤ x8 ∧ x8 ≤ 63) (k9 : (-63) ≤ x9 ∧ x9 ≤ 62) (d0 : x9 + 1 ≤ x6 ∧ x6 ≤ x9 + 4294967296) (d1 : x9 + (-4294967296) ≤ x8 ∧ x8 ≤ x9 + 0) (d2 : x2 + (-63) ≤ x9 ∧ x9 ≤ x2 + 0) (d3 : x4 + (-63) ≤ x8 ∧ x8 ≤ x4 + 0) (d4 : x7 + 1 ≤ x6 ∧ x6 ≤ x7 + 4294967296) (d5 : x1 + (-63) ≤ x7 ∧ x7 ≤ x1 + 0) (d6 : x3 + (-63) ≤ x6 ∧ x6 ≤ x3 + 0) (f0 : x6 ≤ x6) (f1 : x9 ≤ x6) (f2 : x8 ≤ x9) (f3 : x9 ≤ x9) (f4 : x9 = x2 - x4) (f5 : x8 = x4 - x2) (f6 : x6 ≤ x6) (f7 : x7 ≤ x6) (f8 : x7 = x1 - x3) (f9 : x6 = x3 - x1) : 1 * x3 + ((-1) * x1 + ((-1) * x6 + 0)) ≤ 0 := by
  first | assumption | omega | grind
set_option maxHeartbeats 4000000 in
theorem vc_Mo_dotLine_11_1 (x1 : Int) (x2 : Int) (x3 : Int) (x4 : Int) (x6 : Int) (x7 : Int) (x8 : Int) (x9 : Int) (k1 : 0 ≤ x1 ∧ x1 ≤ 63) (k2 : 0 ≤ x2 ∧ x2 ≤ 63) (k3 : 0 ≤ x3 ∧ x3 ≤ 63) (k4 : 0 ≤ x4 ∧ x4 ≤ 63) (k6 : 0 ≤ x6 ∧ x6 ≤ 63) (k7 : (-63) ≤ x7 ∧ x7 ≤ 62) (k8 : (-63) ≤ x8 ∧ x8 ≤ 63) (k9 : (-63) ≤ x9 ∧ x9 ≤ 62) (d0 : x9 + 1 ≤ x6 ∧ x6 ≤ x9 + 4294967296) (d1 : x9 + (-4294967296) ≤ x8 ∧ x8 ≤ x9 + 0) (d2 : x2 + (-63) ≤ x9 ∧ x9 ≤ x2 + 0) (d3 : x4 + (-63) ≤ x8 ∧ x8 ≤ x4 + 0) (d4 : x7 + 1 ≤ x6 ∧ x6 ≤ x7 + 4294967296) (d5 : x1 + (-63) ≤ x7 ∧ x7 ≤ x1 + 0) (d6 : x3 + (-63) ≤ x6 ∧ x6 ≤ x3 + 0) (f0 : x6 ≤ x6) (f1 : x9 ≤ x6) (f2 : x8 ≤ x9) (f3 : x9 ≤ x9) (f4 : x9 = x2 - x4) (f5 : x8 = x4 - x2) (f6 : x6 ≤ x6) (f7 : x7 ≤ x6) (f8 : x7 = x1 - x3) (f9 : x6 = x3 - x1) : (-1) * x3 + (1 * x1 + ((-1) * x6 + 0)) ≤ 0 := by
  first | assumption | omega | grind
set_option maxHeartbeats 4000000 in
theorem vc_Mo_dotLine_11_2 (x1 : Int) (x2 : Int) (x3 : Int) (x4 : Int) (x6 : Int) (x7 : Int) (x8 : Int) (x9 : Int) (k1 : 0 ≤ x1 ∧ x1 ≤ 63) (k2 : 0 ≤ x2 ∧ x2 ≤ 63) (k3 : 0 ≤ x3 ∧ x3 ≤ 63) (k4 : 0 ≤ x4 ∧ x4 ≤ 63) (k6 : 0 ≤ x6 ∧ x6 ≤ 63) (k7 : (-63) ≤ x7 ∧ x7 ≤ 62) (k8 : (-63) ≤ x8 ∧ x8 ≤ 63) (k9 : (-63) ≤ x9 ∧ x9 ≤ 62) (d0 : x9 + 1 ≤ x6 ∧ x6 ≤ x9 + 4294967296) (d1 : x9 + (-4294967296) ≤ x8 ∧ x8 ≤ x9 + 0) (d2 : x2 + (-63) ≤ x9 ∧ x9 ≤ x2 + 0) (d3 : x4 + (-63) ≤ x8 ∧ x8 ≤ x4 + 0) (d4 : x7 + 1 ≤ x6 ∧ x6 ≤ x7 + 4294967296) (d5 : x1 + (-63) ≤ x7 ∧ x7 ≤ x1 + 0) (d6 : x3 + (-63) ≤ x6 ∧ x6 ≤ x3 + 0) (f0 : x6 ≤ x6) (f1 : x9 ≤ x6) (f2 : x8 ≤ x9) (f3 : x9 ≤ x9) (f4 : x9 = x2 - x4) (f5 : x8 = x4 - x2) (f6 : x6 ≤ x6) (f7 : x7 ≤ x6) (f8 : x7 = x1 - x3) (f9 : x6 = x3 - x1) : 1 * x4 + ((-1) * x2 + ((-1) * x6 + 0)) ≤ 0 := by
  first | assumption | omega | grind
set_option maxHeartbeats 4000000 in
theorem vc_Mo_dotLine_11_3 (x1 : Int) (x2 : Int) (x3 : Int) (x4 : Int) (x6 : Int) (x7 : Int) (x8 : Int) (x9 : Int) (k1 : 0 ≤ x1 ∧ x1 ≤ 63) (k2 : 0 ≤ x2 ∧ x2 ≤ 63) (k3 : 0 ≤ x3 ∧ x3 ≤ 63) (k4 : 0 ≤ x4 ∧ x4 ≤ 63) (k6 : 0 ≤ x6 ∧ x6 ≤ 63) (k7 : (-63) ≤ x7 ∧ x7 ≤ 62) (k8 : (-63) ≤ x8 ∧ x8 ≤ 63) (k9 : (-63) ≤ x9 ∧ x9 ≤ 62) (d0 : x9 + 1 ≤ x6 ∧ x6 ≤ x9 + 4294967296) (d1 : x9 + (-4294967296) ≤ x8 ∧ x8 ≤ x9 + 0) (d2 : x2 + (-63) ≤ x9 ∧ x9 ≤ x2 + 0) (d3 : x4 + (-63) ≤ x8 ∧ x8 ≤ x4 + 0) (d4 : x7 + 1 ≤ x6 ∧ x6 ≤ x7 + 4294967296) (d5 : x1 + (-63) ≤ x7 ∧ x7 ≤ x1 + 0) (d6 : x3 + (-63) ≤ x6 ∧ x6 ≤ x3 + 0) (f0 : x6 ≤ x6) (f1 : x9 ≤ x6) (f2 : x8 ≤ x9) (f3 : x9 ≤ x9) (f4 : x9 = x2 - x4) (f5 : x8 = x4 - x2) (f6 : x6 ≤ x6) (f7 : x7 ≤ x6) (f8 : x7 = x1 - x3) (f9 : x6 = x3 - x1) : (-1) * x4 + (1 * x2 + ((-1) * x6 + 0)) ≤ 0 := by
  first | assumption | omega | grind
def o_Mo_dotLine_11 : or_T := (28, 11, [(1, (0, 0, 63, [])), (2, (0, 0, 63, [])), (3, (0, 0, 63, [])), (4, (0, 0, 63, [])), (6, (0, 0, 63, [])), (7, (0, -63, 62, [])), (8, (0, -63, 63, [])), (9, (0, -63, 62, []))], [(7, [6, 6], [5]), (7, [9, 6], [5]), (7, [8, 9], [5]), (7, [9, 9], [5]), (2, [9, 2, 4], []), (2, [8, 4, 2], []), (7, [6, 6], [5]), (7, [7, 6], [5]), (2, [7, 1, 3], []), (2, [6, 3, 1], [])], [], [], [(23, [3, 1, 6], [0, 1, -1, -1]), (23, [3, 1, 6], [0, -1, 1, -1]), (23, [4, 2, 6], [0, 1, -1, -1]), (23, [4, 2, 6], [0, -1, 1, -1])], [], [(6, 9, 1, 4294967296), (8, 9, -4294967296, 0), (9, 2, -63, 0), (8, 4, -63, 0), (6, 7, 1, 4294967296), (7, 1, -63, 0), (6, 3, -63, 0)])
theorem oo_Mo_dotLine_11 {kA : Nat → ClassId} : or_ok PRD kA GG o_Mo_dotLine_11 := by
  refine or_mk fun A ta ws vs hD hth hl => ?_
  intro t1 k1 t2 k2 t3 k3 t4 k4 t6 k6 t7 k7 t8 k8 t9 k9 d0 d1 d2 d3 d4 d5 d6 f0 f1 f2 f3 f4 f5 f6 f7 f8 f9
  have nf0 : fc_1 PRD (23, [3, 1, 6], [0, 1, -1, -1]) ws (vs) := ⟨nf_in hl rfl, sgq_136 (vc_Mo_dotLine_11_0 (v_iv (n_v vs 1)) (v_iv (n_v vs 2)) (v_iv (n_v vs 3)) (v_iv (n_v vs 4)) (v_iv (n_v vs 6)) (v_iv (n_v vs 7)) (v_iv (n_v vs 8)) (v_iv (n_v vs 9)) k1 k2 k3 k4 k6 k7 k8 k9 d0 d1 d2 d3 d4 d5 d6 (shm_125 f0) (shm_24 f1) (shm_24 f2) (shm_125 f3) (shm_14 f4) (shm_14 f5) (shm_125 f6) (shm_24 f7) (shm_14 f8) (shm_14 f9))⟩
  have nf1 : fc_1 PRD (23, [3, 1, 6], [0, -1, 1, -1]) ws (vs) := ⟨nf_in hl rfl, sgq_1124 (vc_Mo_dotLine_11_1 (v_iv (n_v vs 1)) (v_iv (n_v vs 2)) (v_iv (n_v vs 3)) (v_iv (n_v vs 4)) (v_iv (n_v vs 6)) (v_iv (n_v vs 7)) (v_iv (n_v vs 8)) (v_iv (n_v vs 9)) k1 k2 k3 k4 k6 k7 k8 k9 d0 d1 d2 d3 d4 d5 d6 (shm_125 f0) (shm_24 f1) (shm_24 f2) (shm_125 f3) (shm_14 f4) (shm_14 f5) (shm_125 f6) (shm_24 f7) (shm_14 f8) (shm_14 f9))⟩
  have nf2 : fc_1 PRD (23, [4, 2, 6], [0, 1, -1, -1]) ws (vs) := ⟨nf_in hl rfl, sgq_136 (vc_Mo_dotLine_11_2 (v_iv (n_v vs 1)) (v_iv (n_v vs 2)) (v_iv (n_v vs 3)) (v_iv (n_v vs 4)) (v_iv (n_v vs 6)) (v_iv (n_v vs 7)) (v_iv (n_v vs 8)) (v_iv (n_v vs 9)) k1 k2 k3 k4 k6 k7 k8 k9 d0 d1 d2 d3 d4 d5 d6 (shm_125 f0) (shm_24 f1) (shm_24 f2) (shm_125 f3) (shm_14 f4) (shm_14 f5) (shm_125 f6) (shm_24 f7) (shm_14 f8) (shm_14 f9))⟩
  have nf3 : fc_1 PRD (23, [4, 2, 6], [0, -1, 1, -1]) ws (vs) := ⟨nf_in hl rfl, sgq_1124 (vc_Mo_dotLine_11_3 (v_iv (n_v vs 1)) (v_iv (n_v vs 2)) (v_iv (n_v vs 3)) (v_iv (n_v vs 4)) (v_iv (n_v vs 6)) (v_iv (n_v vs 7)) (v_iv (n_v vs 8)) (v_iv (n_v vs 9)) k1 k2 k3 k4 k6 k7 k8 k9 d0 d1 d2 d3 d4 d5 d6 (shm_125 f0) (shm_24 f1) (shm_24 f2) (shm_125 f3) (shm_14 f4) (shm_14 f5) (shm_125 f6) (shm_24 f7) (shm_14 f8) (shm_14 f9))⟩
  refine ⟨(fun _ h => (by cases h)), [], trivial, ?_, (fun _ h => (by cases h))⟩
  rw [List.append_nil]
  exact List.forall_mem_cons.mpr ⟨⟨show (23 : Nat) < 100 from by decide, nf0⟩, List.forall_mem_cons.mpr ⟨⟨show (23 : Nat) < 100 from by decide, nf1⟩, List.forall_mem_cons.mpr ⟨⟨show (23 : Nat) < 100 from by decide, nf2⟩, List.forall_mem_cons.mpr ⟨⟨show (23 : Nat) < 100 from by decide, nf3⟩, (fun _ h => (by cases h))⟩⟩⟩⟩
set_option maxHeartbeats 4000000 in
theorem vc_Mo_dotLine_12_r0 (x1 : Int) (x2 : Int) (x3 : Int) (x4 : Int) (x6 : Int) (x7 : Int) (x8 : Int) (x9 : Int) (k1 : 0 ≤ x1 ∧ x1 ≤ 63) (k2 : 0 ≤ x2 ∧ x2 ≤ 63) (k3 : 0 ≤ x3 ∧ x3 ≤ 63) (k4 : 0 ≤ x4 ∧ x4 ≤ 63) (k6 : (-62) ≤ x6 ∧ x6 ≤ 63) (k7 : (-63) ≤ x7 ∧ x7 ≤ 62) (k8 : (-62) ≤ x8 ∧ x8 ≤ 63) (k9 : (-63) ≤ x9 ∧ x9 ≤ 62) (d0 : x8 + (-4294967296) ≤ x6 ∧ x6 ≤ x8 + 0) (d1 : x9 + 1 ≤ x8 ∧ x8 ≤ x9 + 4294967296) (d2 : x2 + (-63) ≤ x9 ∧ x9 ≤ x2 + 0) (d3 : x4 + (-63) ≤ x8 ∧ x8 ≤ x4 + 0) (d4 : x7 + 1 ≤ x6 ∧ x6 ≤ x7 + 4294967296) (d5 : x1 + (-63) ≤ x7 ∧ x7 ≤ x1 + 0) (d6 : x3 + (-63) ≤ x6 ∧ x6 ≤ x3 + 0) (f0 : x6 ≤ x8) (f1 : x8 ≤ x8) (f2 : x8 ≤ x8) (f3 : x9 ≤ x8) (f4 : x9 = x2 - x4) (f5 : x8 = x4 - x2) (f6 : x6 ≤ x6) (f7 : x7 ≤ x6) (f8 : x7 = x1 - x3) (f9 : x6 = x3 - x1) : 0 ≤ x8 ∧ x8 ≤ 63 := by
  first | assumption | omega | grind
def o_Mo_dotLine_12 : or_T := (23, 10, [(1, (0, 0, 63, [])), (2, (0, 0, 63, [])), (3, (0, 0, 63, [])), (4, (0, 0, 63, [])), (6, (0, -62, 63, [])), (7, (0, -63, 62, [])), (8, (0, -62, 63, [])), (9, (0, -63, 62, []))], [(7, [6, 8], [5]), (7, [8, 8], [5]), (7, [8, 8], [5]), (7, [9, 8], [5]), (2, [9, 2, 4], []), (2, [8, 4, 2], []), (7, [6, 6], [5]), (7, [7, 6], [5]), (2, [7, 1, 3], []), (2, [6, 3, 1], [])], [(8, (0, 0, 63, []))], [], [], [], [(6, 8, -4294967296, 0), (8, 9, 1, 4294967296), (9, 2, -63, 0), (8, 4, -63, 0), (6, 7, 1, 4294967296), (7, 1, -63, 0), (6, 3, -63, 0)])
theorem oo_Mo_dotLine_12 {kA : Nat → ClassId} : or_ok PRD kA GG o_Mo_dotLine_12 := by
  refine or_mk fun A ta ws vs hD hth hl => ?_
  intro t1 k1 t2 k2 t3 k3 t4 k4 t6 k6 t7 k7 t8 k8 t9 k9 d0 d1 d2 d3 d4 d5 d6 f0 f1 f2 f3 f4 f5 f6 f7 f8 f9
  have hrf0 : 0 ≤ v_iv (n_v vs 8) ∧ v_iv (n_v vs 8) ≤ 63 := vc_Mo_dotLine_12_r0 (v_iv (n_v vs 1)) (v_iv (n_v vs 2)) (v_iv (n_v vs 3)) (v_iv (n_v vs 4)) (v_iv (n_v vs 6)) (v_iv (n_v vs 7)) (v_iv (n_v vs 8)) (v_iv (n_v vs 9)) k1 k2 k3 k4 k6 k7 k8 k9 d0 d1 d2 d3 d4 d5 d6 (shm_24 f0) (shm_125 f1) (shm_125 f2) (shm_24 f3) (shm_14 f4) (shm_14 f5) (shm_125 f6) (shm_24 f7) (shm_14 f8) (shm_14 f9)
  have rf8 : tv_ok ta (0, 0, 63, []) (n_v vs 8) := tv_in t8 (by omega) (by omega)
  refine ⟨List.forall_mem_cons.mpr ⟨rf8, (fun _ h => (by cases h))⟩, [], trivial, ?_, (fun _ h => (by cases h))⟩
  rw [List.append_nil]
  exact (fun _ h => (by cases h))
set_option maxHeartbeats 4000000 in
theorem vc_Mo_dotLine_13_0 (x1 : Int) (x2 : Int) (x3 : Int) (x4 : Int) (x6 : Int) (x7 : Int) (x8 : Int) (x9 : Int) (k1 : 0 ≤ x1 ∧ x1 ≤ 63) (k2 : 0 ≤ x2 ∧ x2 ≤ 63) (k3 : 0 ≤ x3 ∧ x3 ≤ 63) (k4 : 0 ≤ x4 ∧ x4 ≤ 63) (k6 : (-62) ≤ x6 ∧ x6 ≤ 63) (k7 : (-63) ≤ x7 ∧ x7 ≤ 62) (k8 : 0 ≤ x8 ∧ x8 ≤ 63) (k9 : (-63) ≤ x9 ∧ x9 ≤ 62) (d0 : x8 + (-4294967296) ≤ x6 ∧ x6 ≤ x8 + 0) (d1 : x9 + 1 ≤ x8 ∧ x8 ≤ x9 + 4294967296) (d2 : x2 + (-63) ≤ x9 ∧ x9 ≤ x2 + 0) (d3 : x4 + (-63) ≤ x8 ∧ x8 ≤ x4 + 0) (d4 : x7 + 1 ≤ x6 ∧ x6 ≤ x7 + 4294967296) (d5 : x1 + (-63) ≤ x7 ∧ x7 ≤ x1 + 0) (d6 : x3 + (-63) ≤ x6 ∧ x6 ≤ x3 + 0) (f0 : x6 ≤ x8) (f1 : x8 ≤ x8) (f2 : x8 ≤ x8) (f3 : x9 ≤ x8) (f4 : x9 = x2 - x4) (f5 : x8 = x4 - x2) (f6 : x6 ≤ x6) (f7 : x7 ≤ x6) (f8 : x7 = x1 - x3) (f9 : x6 = x3 - x1) : 1 * x3 + ((-1) * x1 + ((-1) * x8 + 0)) ≤ 0 := by
  first | assumption | omega | grind
set_option maxHeartbeats 4000000 in
theorem vc_Mo_dotLine_13_1 (x1 : Int) (x2 : Int) (x3 : Int) (x4 : Int) (x6 : Int) (x7 : Int) (x8 : Int) (x9 : Int) (k1 : 0 ≤ x1 ∧ x1 ≤ 63) (k2 : 0 ≤ x2 ∧ x2 ≤ 63) (k3 : 0 ≤ x3 ∧ x3 ≤ 63) (k4 : 0 ≤ x4 ∧ x4 ≤ 63) (k6 : (-62) ≤ x6 ∧ x6 ≤ 63) (k7 : (-63) ≤ x7 ∧ x7 ≤ 62) (k8 : 0 ≤ x8 ∧ x8 ≤ 63) (k9 : (-63) ≤ x9 ∧ x9 ≤ 62) (d0 : x8 + (-4294967296) ≤ x6 ∧ x6 ≤ x8 + 0) (d1 : x9 + 1 ≤ x8 ∧ x8 ≤ x9 + 4294967296) (d2 : x2 + (-63) ≤ x9 ∧ x9 ≤ x2 + 0) (d3 : x4 + (-63) ≤ x8 ∧ x8 ≤ x4 + 0) (d4 : x7 + 1 ≤ x6 ∧ x6 ≤ x7 + 4294967296) (d5 : x1 + (-63) ≤ x7 ∧ x7 ≤ x1 + 0) (d6 : x3 + (-63) ≤ x6 ∧ x6 ≤ x3 + 0) (f0 : x6 ≤ x8) (f1 : x8 ≤ x8) (f2 : x8 ≤ x8) (f3 : x9 ≤ x8) (f4 : x9 = x2 - x4) (f5 : x8 = x4 - x2) (f6 : x6 ≤ x6) (f7 : x7 ≤ x6) (f8 : x7 = x1 - x3) (f9 : x6 = x3 - x1) : (-1) * x3 + (1 * x1 + ((-1) * x8 + 0)) ≤ 0 := by
  first | assumption | omega | grind
set_option maxHeartbeats 4000000 in
theorem vc_Mo_dotLine_13_2 (x1 : Int) (x2 : Int) (x3 : Int) (x4 : Int) (x6 : Int) (x7 : Int) (x8 : Int) (x9 : Int) (k1 : 0 ≤ x1 ∧ x1 ≤ 63) (k2 : 0 ≤ x2 ∧ x2 ≤ 63) (k3 : 0 ≤ x3 ∧ x3 ≤ 63) (k4 : 0 ≤ x4 ∧ x4 ≤ 63) (k6 : (-62) ≤ x6 ∧ x6 ≤ 63) (k7 : (-63) ≤ x7 ∧ x7 ≤ 62) (k8 : 0 ≤ x8 ∧ x8 ≤ 63) (k9 : (-63) ≤ x9 ∧ x9 ≤ 62) (d0 : x8 + (-4294967296) ≤ x6 ∧ x6 ≤ x8 + 0) (d1 : x9 + 1 ≤ x8 ∧ x8 ≤ x9 + 4294967296) (d2 : x2 + (-63) ≤ x9 ∧ x9 ≤ x2 + 0) (d3 : x4 + (-63) ≤ x8 ∧ x8 ≤ x4 + 0) (d4 : x7 + 1 ≤ x6 ∧ x6 ≤ x7 + 4294967296) (d5 : x1 + (-63) ≤ x7 ∧ x7 ≤ x1 + 0) (d6 : x3 + (-63) ≤ x6 ∧ x6 ≤ x3 + 0) (f0 : x6 ≤ x8) (f1 : x8 ≤ x8) (f2 : x8 ≤ x8) (f3 : x9 ≤ x8) (f4 : x9 = x2 - x4) (f5 : x8 = x4 - x2) (f6 : x6 ≤ x6) (f7 : x7 ≤ x6) (f8 : x7 = x1 - x3) (f9 : x6 = x3 - x1) : 1 * x4 + ((-1) * x2 + ((-1) * x8 + 0)) ≤ 0 := by
  first | assumption | omega | grind
set_option maxHeartbeats 4000000 in
theorem vc_Mo_dotLine_13_3 (x1 : Int) (x2 : Int) (x3 : Int) (x4 : Int) (x6 : Int) (x7 : Int) (x8 : Int) (x9 : Int) (k1 : 0 ≤ x1 ∧ x1 ≤ 63) (k2 : 0 ≤ x2 ∧ x2 ≤ 63) (k3 : 0 ≤ x3 ∧ x3 ≤ 63) (k4 : 0 ≤ x4 ∧ x4 ≤ 63) (k6 : (-62) ≤ x6 ∧ x6 ≤ 63) (k7 : (-63) ≤ x7 ∧ x7 ≤ 62) (k8 : 0 ≤ x8 ∧ x8 ≤ 63) (k9 : (-63) ≤ x9 ∧ x9 ≤ 62) (d0 : x8 + (-4294967296) ≤ x6 ∧ x6 ≤ x8 + 0) (d1 : x9 + 1 ≤ x8 ∧ x8 ≤ x9 + 4294967296) (d2 : x2 + (-63) ≤ x9 ∧ x9 ≤ x2 + 0) (d3 : x4 + (-63) ≤ x8 ∧ x8 ≤ x4 + 0) (d4 : x7 + 1 ≤ x6 ∧ x6 ≤ x7 + 4294967296) (d5 : x1 + (-63) ≤ x7 ∧ x7 ≤ x1 + 0) (d6 : x3 + (-63) ≤ x6 ∧ x6 ≤ x3 + 0) (f0 : x6 ≤ x8) (f1 : x8 ≤ x8) (f2 : x8 ≤ x8) (f3 : x9 ≤ x8) (f4 : x9 = x2 - x4) (f5 : x8 = x4 - x2) (f6 : x6 ≤ x6) (f7 : x7 ≤ x6) (f8 : x7 = x1 - x3) (f9 : x6 = x3 - x1) : (-1) * x4 + (1 * x2 + ((-1) * x8 + 0)) ≤ 0 := by
  first | assumption | omega | grind
def o_Mo_dotLine_13 : or_T := (28, 11, [(1, (0, 0, 63, [])), (2, (0, 0, 63, [])), (3, (0, 0, 63, [])), (4, (0, 0, 63, [])), (6, (0, -62, 63, [])), (7, (0, -63, 62, [])), (8, (0, 0, 63, [])), (9, (0, -63, 62, []))], [(7, [6, 8], [5]), (7, [8, 8], [5]), (7, [8, 8], [5]), (7, [9, 8], [5]), (2, [9, 2, 4], []), (2, [8, 4, 2], []), (7, [6, 6], [5]), (7, [7, 6], [5]), (2, [7, 1, 3], []), (2, [6, 3, 1], [])], [], [], [(23, [3, 1, 8], [0, 1, -1, -1]), (23, [3, 1, 8], [0, -1, 1, -1]), (23, [4, 2, 8], [0, 1, -1, -1]), (23, [4, 2, 8], [0, -1, 1, -1])], [], [(6, 8, -4294967296, 0), (8, 9, 1, 4294967296), (9, 2, -63, 0), (8, 4, -63, 0), (6, 7, 1, 4294967296), (7, 1, -63, 0), (6, 3, -63, 0)])
theorem oo_Mo_dotLine_13 {kA : Nat → ClassId} : or_ok PRD kA GG o_Mo_dotLine_13 := by
  refine or_mk fun A ta ws vs hD hth hl => ?_
  intro t1 k1 t2 k2 t3 k3 t4 k4 t6 k6 t7 k7 t8 k8 t9 k9 d0 d1 d2 d3 d4 d5 d6 f0 f1 f2 f3 f4 f5 f6 f7 f8 f9
  have nf0 : fc_1 PRD (23, [3, 1, 8], [0, 1, -1, -1]) ws (vs) := ⟨nf_in hl rfl, sgq_136 (vc_Mo_dotLine_13_0 (v_iv (n_v vs 1)) (v_iv (n_v vs 2)) (v_iv (n_v vs 3)) (v_iv (n_v vs 4)) (v_iv (n_v vs 6)) (v_iv (n_v vs 7)) (v_iv (n_v vs 8)) (v_iv (n_v vs 9)) k1 k2 k3 k4 k6 k7 k8 k9 d0 d1 d2 d3 d4 d5 d6 (shm_24 f0) (shm_125 f1) (shm_125 f2) (shm_24 f3) (shm_14 f4) (shm_14 f5) (shm_125 f6) (shm_24 f7) (shm_14 f8) (shm_14 f9))⟩
  have nf1 : fc_1 PRD (23, [3, 1, 8], [0, -1, 1, -1]) ws (vs) := ⟨nf_in hl rfl, sgq_1124 (vc_Mo_dotLine_13_1 (v_iv (n_v vs 1)) (v_iv (n_v vs 2)) (v_iv (n_v vs 3)) (v_iv (n_v vs 4)) (v_iv (n_v vs 6)) (v_iv (n_v vs 7)) (v_iv (n_v vs 8)) (v_iv (n_v vs 9)) k1 k2 k3 k4 k6 k7 k8 k9 d0 d1 d2 d3 d4 d5 d6 (shm_24 f0) (shm_125 f1) (shm_125 f2) (shm_24 f3) (shm_14 f4) (shm_14 f5) (shm_125 f6) (shm_24 f7) (shm_14 f8) (shm_14 f9))⟩
  have nf2 : fc_1 PRD (23, [4, 2, 8], [0, 1, -1, -1]) ws (vs) := ⟨nf_in hl rfl, sgq_136 (vc_Mo_dotLine_13_2 (v_iv (n_v vs 1)) (v_iv (n_v vs 2)) (v_iv (n_v vs 3)) (v_iv (n_v vs 4)) (v_iv (n_v vs 6)) (v_iv (n_v vs 7)) (v_iv (n_v vs 8)) (v_iv (n_v vs 9)) k1 k2 k3 k4 k6 k7 k8 k9 d0 d1 d2 d3 d4 d5 d6 (shm_24 f0) (shm_125 f1) (shm_125 f2) (shm_24 f3) (shm_14 f4) (shm_14 f5) (shm_125 f6) (shm_24 f7) (shm_14 f8) (shm_14 f9))⟩
  have nf3 : fc_1 PRD (23, [4, 2, 8], [0, -1, 1, -1]) ws (vs) := ⟨nf_in hl rfl, sgq_1124 (vc_Mo_dotLine_13_3 (v_iv (n_v vs 1)) (v_iv (n_v vs 2)) (v_iv (n_v vs 3)) (v_iv (n_v vs 4)) (v_iv (n_v vs 6)) (v_iv (n_v vs 7)) (v_iv (n_v vs 8)) (v_iv (n_v vs 9)) k1 k2 k3 k4 k6 k7 k8 k9 d0 d1 d2 d3 d4 d5 d6 (shm_24 f0) (shm_125 f1) (shm_125 f2) (shm_24 f3) (shm_14 f4) (shm_14 f5) (shm_125 f6) (shm_24 f7) (shm_14 f8) (shm_14 f9))⟩
  refine ⟨(fun _ h => (by cases h)), [], trivial, ?_, (fun _ h => (by cases h))⟩
  rw [List.append_nil]
  exact List.forall_mem_cons.mpr ⟨⟨show (23 : Nat) < 100 from by decide, nf0⟩, List.forall_mem_cons.mpr ⟨⟨show (23 : Nat) < 100 from by decide, nf1⟩, List.forall_mem_cons.mpr ⟨⟨show (23 : Nat) < 100 from by decide, nf2⟩, List.forall_mem_cons.mpr ⟨⟨show (23 : Nat) < 100 from by decide, nf3⟩, (fun _ h => (by cases h))⟩⟩⟩⟩
set_option maxHeartbeats 4000000 in
theorem vc_Mo_dotLine_14_r0 (x1 : Int) (x2 : Int) (x3 : Int) (x4 : Int) (x6 : Int) (x7 : Int) (x8 : Int) (x9 : Int) (k1 : 0 ≤ x1 ∧ x1 ≤ 63) (k2 : 0 ≤ x2 ∧ x2 ≤ 63) (k3 : 0 ≤ x3 ∧ x3 ≤ 63) (k4 : 0 ≤ x4 ∧ x4 ≤ 63) (k6 : (-61) ≤ x6 ∧ x6 ≤ 63) (k7 : (-63) ≤ x7 ∧ x7 ≤ 62) (k8 : (-62) ≤ x8 ∧ x8 ≤ 62) (k9 : (-63) ≤ x9 ∧ x9 ≤ 62) (d0 : x8 + 1 ≤ x6 ∧ x6 ≤ x8 + 4294967296) (d1 : x9 + 1 ≤ x8 ∧ x8 ≤ x9 + 4294967296) (d2 : x2 + (-63) ≤ x9 ∧ x9 ≤ x2 + 0) (d3 : x4 + (-63) ≤ x8 ∧ x8 ≤ x4 + 0) (d4 : x7 + 1 ≤ x6 ∧ x6 ≤ x7 + 4294967296) (d5 : x1 + (-63) ≤ x7 ∧ x7 ≤ x1 + 0) (d6 : x3 + (-63) ≤ x6 ∧ x6 ≤ x3 + 0) (f0 : x6 ≤ x6) (f1 : x8 ≤ x6) (f2 : x8 ≤ x8) (f3 : x9 ≤ x8) (f4 : x9 = x2 - x4) (f5 : x8 = x4 - x2) (f6 : x6 ≤ x6) (f7 : x7 ≤ x6) (f8 : x7 = x1 - x3) (f9 : x6 = x3 - x1) : 0 ≤ x6 ∧ x6 ≤ 63 := by
  first | assumption | omega | grind
def o_Mo_dotLine_14 : or_T := (23, 10, [(1, (0, 0, 63, [])), (2, (0, 0, 63, [])), (3, (0, 0, 63, [])), (4, (0, 0, 63, [])), (6, (0, -61, 63, [])), (7, (0, -63, 62, [])), (8, (0, -62, 62, [])), (9, (0, -63, 62, []))], [(7, [6, 6], [5]), (7, [8, 6], [5]), (7, [8, 8], [5]), (7, [9, 8], [5]), (2, [9, 2, 4], []), (2, [8, 4, 2], []), (7, [6, 6], [5]), (7, [7, 6], [5]), (2, [7, 1, 3], []), (2, [6, 3, 1], [])], [(6, (0, 0, 63, []))], [], [], [], [(6, 8, 1, 4294967296), (8, 9, 1, 4294967296), (9, 2, -63, 0), (8, 4, -63, 0), (6, 7, 1, 4294967296), (7, 1, -63, 0), (6, 3, -63, 0)])
theorem oo_Mo_dotLine_14 {kA : Nat → ClassId} : or_ok PRD kA GG o_Mo_dotLine_14 := by
  refine or_mk fun A ta ws vs hD hth hl => ?_
  intro t1 k1 t2 k2 t3 k3 t4 k4 t6 k6 t7 k7 t8 k8 t9 k9 d0 d1 d2 d3 d4 d5 d6 f0 f1 f2 f3 f4 f5 f6 f7 f8 f9
  have hrf0 : 0 ≤ v_iv (n_v vs 6) ∧ v_iv (n_v vs 6) ≤ 63 := vc_Mo_dotLine_14_r0 (v_iv (n_v vs 1)) (v_iv (n_v vs 2)) (v_iv (n_v vs 3)) (v_iv (n_v vs 4)) (v_iv (n_v vs 6)) (v_iv (n_v vs 7)) (v_iv (n_v vs 8)) (v_iv (n_v vs 9)) k1 k2 k3 k4 k6 k7 k8 k9 d0 d1 d2 d3 d4 d5 d6 (shm_125 f0) (shm_24 f1) (shm_125 f2) (shm_24 f3) (shm_14 f4) (shm_14 f5) (shm_125 f6) (shm_24 f7) (shm_14 f8) (shm_14 f9)
  have rf6 : tv_ok ta (0, 0, 63, []) (n_v vs 6) := tv_in t6 (by omega) (by omega)
  refine ⟨List.forall_mem_cons.mpr ⟨rf6, (fun _ h => (by cases h))⟩, [], trivial, ?_, (fun _ h => (by cases h))⟩
  rw [List.append_nil]
  exact (fun _ h => (by cases h))
set_option maxHeartbeats 4000000 in
theorem vc_Mo_dotLine_15_0 (x1 : Int) (x2 : Int) (x3 : Int) (x4 : Int) (x6 : Int) (x7 : Int) (x8 : Int) (x9 : Int) (k1 : 0 ≤ x1 ∧ x1 ≤ 63) (k2 : 0 ≤ x2 ∧ x2 ≤ 63) (k3 : 0 ≤ x3 ∧ x3 ≤ 63) (k4 : 0 ≤ x4 ∧ x4 ≤ 63) (k6 : 0 ≤ x6 ∧ x6 ≤ 63) (k7 : (-63) ≤ x7 ∧ x7 ≤ 62) (k8 : (-62) ≤ x8 ∧ x8 ≤ 62) (k9 : (-63) ≤ x9 ∧ x9 ≤ 62) (d0 : x8 + 1 ≤ x6 ∧ x6 ≤ x8 + 4294967296) (d1 : x9 + 1 ≤ x8 ∧ x8 ≤ x9 + 4294967296) (d2 : x2 + (-63) ≤ x9 ∧ x9 ≤ x2 + 0) (d3 : x4 + (-63) ≤ x8 ∧ x8 ≤ x4 + 0) (d4 : x7 + 1 ≤ x6 ∧ x6 ≤ x7 + 4294967296) (d5 : x1 + (-63) ≤ x7 ∧ x7 ≤ x1 + 0) (d6 : x3 + (-63) ≤ x6 ∧ x6 ≤ x3 + 0) (f0 : x6 ≤ x6) (f1 : x8 ≤ x6) (f2 : x8 ≤ x8) (f3 : x9 ≤ x8) (f4 : x9 = x2 - x4) (f5 : x8 = x4 - x2) (f6 : x6 ≤ x6) (f7 : x7 ≤ x6) (f8 : x7 = x1 - x3) (f9 : x6 = x3 - x1) : 1 * x3 + ((-1) * x1 + ((-1) * x6 + 0)) ≤ 0 := by
  first | assumption | omega | grind
set_option maxHeartbeats 4000000 in
theorem vc_Mo_dotLine_15_1 (x1 : Int) (x2 : Int) (x3 : Int) (x4 : Int) (x6 : Int) (x7 : Int) (x8 : Int) (x9 : Int) (k1 : 0 ≤ x1 ∧ x1 ≤ 63) (k2 : 0 ≤ x2 ∧ x2 ≤ 63) (k3 : 0 ≤ x3 ∧ x3 ≤ 63) (k4 : 0 ≤ x4 ∧ x4 ≤ 63) (k6 : 0 ≤ x6 ∧ x6 ≤ 63) (k7 : (-63) ≤ x7 ∧ x7 ≤ 62) (k8 : (-62) ≤ x8 ∧ x8 ≤ 62) (k9 : (-63) ≤ x9 ∧ x9 ≤ 62) (d0 : x8 + 1 ≤ x6 ∧ x6 ≤ x8 + 4294967296) (d1 : x9 + 1 ≤ x8 ∧ x8 ≤ x9 + 4294967296) (d2 : x2 + (-63) ≤ x9 ∧ x9 ≤ x2 + 0) (d3 : x4 + (-63) ≤ x8 ∧ x8 ≤ x4 + 0) (d4 : x7 + 1 ≤ x6 ∧ x6 ≤ x7 + 4294967296) (d5 : x1 + (-63) ≤ x7 ∧ x7 ≤ x1 + 0) (d6 : x3 + (-63) ≤ x6 ∧ x6 ≤ x3 + 0) (f0 : x6 ≤ x6) (f1 : x8 ≤ x6) (f2 : x8 ≤ x8) (f3 : x9 ≤ x8) (f4 : x9 = x2 - x4) (f5 : x8 = x4 - x2) (f6 : x6 ≤ x6) (f7 : x7 ≤ x6) (f8 : x7 = x1 - x3) (f9 : x6 = x3 - x1) : (-1) * x3 + (1 * x1 + ((-1) * x6 + 0)) ≤ 0 := by
  first | assumption | omega | grind
set_option maxHeartbeats 4000000 in
theorem vc_Mo_dotLine_15_2 (x1 : Int) (x2 : Int) (x3 : Int) (x4 : Int) (x6 : Int) (x7 : Int) (x8 : Int) (x9 : Int) (k1 : 0 ≤ x1 ∧ x1 ≤ 63) (k2 : 0 ≤ x2 ∧ x2 ≤ 63) (k3 : 0 ≤ x3 ∧ x3 ≤ 63) (k4 : 0 ≤ x4 ∧ x4 ≤ 63) (k6 : 0 ≤ x6 ∧ x6 ≤ 63) (k7 : (-63) ≤ x7 ∧ x7 ≤ 62) (k8 : (-62) ≤ x8 ∧ x8 ≤ 62) (k9 : (-63) ≤ x9 ∧ x9 ≤ 62) (d0 : x8 + 1 ≤ x6 ∧ x6 ≤ x8 + 4294967296) (d1 : x9 + 1 ≤ x8 ∧ x8 ≤ x9 + 4294967296) (d2 : x2 + (-63) ≤ x9 ∧ x9 ≤ x2 + 0) (d3 : x4 + (-63) ≤ x8 ∧ x8 ≤ x4 + 0) (d4 : x7 + 1 ≤ x6 ∧ x6 ≤ x7 + 4294967296) (d5 : x1 + (-63) ≤ x7 ∧ x7 ≤ x1 + 0) (d6 : x3 + (-63) ≤ x6 ∧ x6 ≤ x3 + 0) (f0 : x6 ≤ x6) (f1 : x8 ≤ x6) (f2 : x8 ≤ x8) (f3 : x9 ≤ x8) (f4 : x9 = x2 - x4) (f5 : x8 = x4 - x2) (f6 : x6 ≤ x6) (f7 : x7 ≤ x6) (f8 : x7 = x1 - x3) (f9 : x6 = x3 - x1) : 1 * x4 + ((-1) * x2 + ((-1) * x6 + 0)) ≤ 0 := by
  first | assumption | omega | grind
set_option maxHeartbeats 4000000 in
theorem vc_Mo_dotLine_15_3 (x1 : Int) (x2 : Int) (x3 : Int) (x4 : Int) (x6 : Int) (x7 : Int) (x8 : Int) (x9 : Int) (k1 : 0 ≤ x1 ∧ x1 ≤ 63) (k2 : 0 ≤ x2 ∧ x2 ≤ 63) (k3 : 0 ≤ x3 ∧ x3 ≤ 63) (k4 : 0 ≤ x4 ∧ x4 ≤ 63) (k6 : 0 ≤ x6 ∧ x6 ≤ 63) (k7 : (-63) ≤ x7 ∧ x7 ≤ 62) (k8 : (-62) ≤ x8 ∧ x8 ≤ 62) (k9 : (-63) ≤ x9 ∧ x9 ≤ 62) (d0 : x8 + 1 ≤ x6 ∧ x6 ≤ x8 + 4294967296) (d1 : x9 + 1 ≤ x8 ∧ x8 ≤ x9 + 4294967296) (d2 : x2 + (-63) ≤ x9 ∧ x9 ≤ x2 + 0) (d3 : x4 + (-63) ≤ x8 ∧ x8 ≤ x4 + 0) (d4 : x7 + 1 ≤ x6 ∧ x6 ≤ x7 + 4294967296) (d5 : x1 + (-63) ≤ x7 ∧ x7 ≤ x1 + 0) (d6 : x3 + (-63) ≤ x6 ∧ x6 ≤ x3 + 0) (f0 : x6 ≤ x6) (f1 : x8 ≤ x6) (f2 : x8 ≤ x8) (f3 : x9 ≤ x8) (f4 : x9 = x2 - x4) (f5 : x8 = x4 - x2) (f6 : x6 ≤ x6) (f7 : x7 ≤ x6) (f8 : x7 = x1 - x3) (f9 : x6 = x3 - x1) : (-1) * x4 + (1 * x2 + ((-1) * x6 + 0)) ≤ 0 := by
  first | assumption | omega | grind
def o_Mo_dotLine_15 : or_T := (28, 11, [(1, (0, 0, 63, [])), (2, (0, 0, 63, [])), (3, (0, 0, 63, [])), (4, (0, 0, 63, [])), (6, (0, 0, 63, [])), (7, (0, -63, 62, [])), (8, (0, -62, 62, [])), (9, (0, -63, 62, []))], [(7, [6, 6], [5]), (7, [8, 6], [5]), (7, [8, 8], [5]), (7, [9, 8], [5]), (2, [9, 2, 4], []), (2, [8, 4, 2], []), (7, [6, 6], [5]), (7, [7, 6], [5]), (2, [7, 1, 3], []), (2, [6, 3, 1], [])], [], [], [(23, [3, 1, 6], [0, 1, -1, -1]), (23, [3, 1, 6], [0, -1, 1, -1]), (23, [4, 2, 6], [0, 1, -1, -1]), (23, [4, 2, 6], [0, -1, 1, -1])], [], [(6, 8, 1, 4294967296), (8, 9, 1, 4294967296), (9, 2, -63, 0), (8, 4, -63, 0), (6, 7, 1, 4294967296), (7, 1, -63, 0), (6, 3, -63, 0)])
theorem oo_Mo_dotLine_15 {kA : Nat → ClassId} : or_ok PRD kA GG o_Mo_dotLine_15 := by
  refine or_mk fun A ta ws vs hD hth hl => ?_
  intro t1 k1 t2 k2 t3 k3 t4 k4 t6 k6 t7 k7 t8 k8 t9 k9 d0 d1 d2 d3 d4 d5 d6 f0 f1 f2 f3 f4 f5 f6 f7 f8 f9
  have nf0 : fc_1 PRD (23, [3, 1, 6], [0, 1, -1, -1]) ws (vs) := ⟨nf_in hl rfl, sgq_136 (vc_Mo_dotLine_15_0 (v_iv (n_v vs 1)) (v_iv (n_v vs 2)) (v_iv (n_v vs 3)) (v_iv (n_v vs 4)) (v_iv (n_v vs 6)) (v_iv (n_v vs 7)) (v_iv (n_v vs 8)) (v_iv (n_v vs 9)) k1 k2 k3 k4 k6 k7 k8 k9 d0 d1 d2 d3 d4 d5 d6 (shm_125 f0) (shm_24 f1) (shm_125 f2) (shm_24 f3) (shm_14 f4) (shm_14 f5) (shm_125 f6) (shm_24 f7) (shm_14 f8) (shm_14 f9))⟩
  have nf1 : fc_1 PRD (23, [3, 1, 6], [0, -1, 1, -1]) ws (vs) := ⟨nf_in hl rfl, sgq_1124 (vc_Mo_dotLine_15_1 (v_iv (n_v vs 1)) (v_iv (n_v vs 2)) (v_iv (n_v vs 3)) (v_iv (n_v vs 4)) (v_iv (n_v vs 6)) (v_iv (n_v vs 7)) (v_iv (n_v vs 8)) (v_iv (n_v vs 9)) k1 k2 k3 k4 k6 k7 k8 k9 d0 d1 d2 d3 d4 d5 d6 (shm_125 f0) (shm_24 f1) (shm_125 f2) (shm_24 f3) (shm_14 f4) (shm_14 f5) (shm_125 f6) (shm_24 f7) (shm_14 f8) (shm_14 f9))⟩
  have nf2 : fc_1 PRD (23, [4, 2, 6], [0, 1, -1, -1]) ws (vs) := ⟨nf_in hl rfl, sgq_136 (vc_Mo_dotLine_15_2 (v_iv (n_v vs 1)) (v_iv (n_v vs 2)) (v_iv (n_v vs 3)) (v_iv (n_v vs 4)) (v_iv (n_v vs 6)) (v_iv (n_v vs 7)) (v_iv (n_v vs 8)) (v_iv (n_v vs 9)) k1 k2 k3 k4 k6 k7 k8 k9 d0 d1 d2 d3 d4 d5 d6 (shm_125 f0) (shm_24 f1) (shm_125 f2) (shm_24 f3) (shm_14 f4) (shm_14 f5) (shm_125 f6) (shm_24 f7) (shm_14 f8) (shm_14 f9))⟩
  have nf3 : fc_1 PRD (23, [4, 2, 6], [0, -1, 1, -1]) ws (vs) := ⟨nf_in hl rfl, sgq_1124 (vc_Mo_dotLine_15_3 (v_iv (n_v vs 1)) (v_iv (n_v vs 2)) (v_iv (n_v vs 3)) (v_iv (n_v vs 4)) (v_iv (n_v vs 6)) (v_iv (n_v vs 7)) (v_iv (n_v vs 8)) (v_iv (n_v vs 9)) k1 k2 k3 k4 k6 k7 k8 k9 d0 d1 d2 d3 d4 d5 d6 (shm_125 f0) (shm_24 f1) (shm_125 f2) (shm_24 f3) (shm_14 f4) (shm_14 f5) (shm_125 f6) (shm_24 f7) (shm_14 f8) (shm_14 f9))⟩
  refine ⟨(fun _ h => (by cases h)), [], trivial, ?_, (fun _ h => (by cases h))⟩
  rw [List.append_nil]
  exact List.forall_mem_cons.mpr ⟨⟨show (23 : Nat) < 100 from by decide, nf0⟩, List.forall_mem_cons.mpr ⟨⟨show (23 : Nat) < 100 from by decide, nf1⟩, List.forall_mem_cons.mpr ⟨⟨show (23 : Nat) < 100 from by decide, nf2⟩, List.forall_mem_cons.mpr ⟨⟨show (23 : Nat) < 100 from by decide, nf3⟩, (fun _ h => (by cases h))⟩⟩⟩⟩
def o_Mo_dotLine_16 : or_T := (64, 17, [(1, (0, 0, 63, [])), (2, (0, 0, 63, [])), (3, (0, 0, 63, [])), (4, (0, 0, 63, [])), (6, (0, 1, 63, [])), (7, (0, 0, 63, [])), (8, (0, 2, 2, [])), (9, (0, 0, 126, [])), (10, (0, -63, 63, [])), (11, (0, -7938, 7938, [])), (12, (0, -7937, 8001, [])), (13, (0, 2, 2, [])), (14, (0, 2, 126, [])), (15, (0, -7938, 8001, [])), (16, (0, -7938, 8064, []))], [(1, [16, 1, 15], []), (20, [14, 15, 12], [50, 0, 0, 0, 6, 6, 2, 1, 0, 1, 1, 1, 2]), (20, [12, 14, 15], [50, 0, 0, 0, 6, 4, 2, 1, 0, 0, 1, 4, 6, 6, 2, 1, 1, 1, 2, 1, 1]), (3, [14, 13, 6], []), (1, [12, 11, 6], []), (3, [11, 9, 10], []), (2, [10, 3, 1], []), (3, [9, 8, 7], []), (8, [6], [1]), (7, [7, 6], [5]), (23, [3, 1, 6], [0, 1, -1, -1]), (23, [3, 1, 6], [0, -1, 1, -1]), (23, [4, 2, 6], [0, 1, -1, -1]), (23, [4, 2, 6], [0, -1, 1, -1])], [(16, (0, 0, 63, []))], [], [], [], [(16, 15, 0, 63), (16, 1, -7938, 8001), (12, 6, -7938, 7938), (12, 11, 1, 63), (10, 3, -63, 0), (7, 6, -4294967296, 0), (7, 6, -4294967296, 1)])
theorem oo_Mo_dotLine_16 {kA : Nat → ClassId} : or_ok PRD kA GG o_Mo_dotLine_16 := by
  refine or_mk fun A ta ws vs hD hth hl => ?_
  intro t1 k1 t2 k2 t3 k3 t4 k4 t6 k6 t7 k7 t8 k8 t9 k9 t10 k10 t11 k11 t12 k12 t13 k13 t14 k14 t15 k15 t16 k16 d0 d1 d2 d3 d4 d5 d6 f0 f1 f2 f3 f4 f5 f6 f7 f8 f9 f10 f11 f12 f13
  replace f0 := shm_12 f0
  replace f1 := shm_35 f1
  replace f2 := shm_36 f2
  replace f3 := shm_38 f3
  rw [show v_iv (n_v vs 13) = 2 from by omega] at f3
  replace f4 := shm_12 f4
  replace f5 := shm_38 f5
  replace f6 := shm_14 f6
  replace f7 := shm_38 f7
  rw [show v_iv (n_v vs 8) = 2 from by omega] at f7
  replace f8 := shm_142 f8
  replace f9 := shm_24 f9
  replace f10 := shm_136 f10
  replace f11 := shm_1124 f11
  replace f12 := shm_136 f12
  replace f13 := shm_1124 f13
  have z1 : v_iv (n_v vs 11) = 2 * v_iv (n_v vs 7) * v_iv (n_v vs 10) := by have z0 := ‹v_iv (n_v vs 11) = v_iv (n_v vs 9) * v_iv (n_v vs 10)›; rw [show v_iv (n_v vs 9) = 2 * v_iv (n_v vs 7) from by omega] at z0; exact z0
  have z2 : v_iv (n_v vs 14) * v_iv (n_v vs 15) = 2 * v_iv (n_v vs 6) * v_iv (n_v vs 15) := by rw [show v_iv (n_v vs 14) = 2 * v_iv (n_v vs 6) from by omega]
  have z3 := dl_in (a := v_iv (n_v vs 1)) (c := v_iv (n_v vs 3)) (n := v_iv (n_v vs 6)) (k := v_iv (n_v vs 7)) (q := v_iv (n_v vs 15)) (p := v_iv (n_v vs 12)) (e := v_iv (n_v vs 10)) (by omega) (by omega) (by omega) (by omega) (by omega) (by omega) (by omega) (by omega) (by omega)
  have rf16 : tv_ok ta (0, 0, 63, []) (n_v vs 16) := tv_in t16 (by first | omega | grind) (by first | omega | grind)
  refine ⟨List.forall_mem_cons.mpr ⟨rf16, (fun _ h => (by cases h))⟩, [], trivial, ?_, (fun _ h => (by cases h))⟩
  rw [List.append_nil]
  exact (fun _ h => (by cases h))
def o_Mo_dotLine_17 : or_T := (96, 26, [(1, (0, 0, 63, [])), (2, (0, 0, 63, [])), (3, (0, 0, 63, [])), (4, (0, 0, 63, [])), (6, (0, 1, 63, [])), (7, (0, 0, 63, [])), (8, (0, 2, 2, [])), (9, (0, 0, 126, [])), (10, (0, -63, 63, [])), (11, (0, -7938, 7938, [])), (12, (0, -7937, 8001, [])), (13, (0, 2, 2, [])), (14, (0, 2, 126, [])), (15, (0, -7938, 8001, [])), (16, (0, 0, 63, [])), (17, (0, 2, 2, [])), (18, (0, 0, 126, [])), (19, (0, -63, 63, [])), (20, (0, -7938, 7938, [])), (21, (0, -7937, 8001, [])), (22, (0, 2, 2, [])), (23, (0, 2, 126, [])), (24, (0, -7938, 8001, [])), (25, (0, -7938, 8064, []))], [(1, [25, 2, 24], []), (20, [23, 24, 21], [50, 0, 0, 0, 6, 6, 2, 1, 0, 1, 1, 1, 2]), (20, [21, 23, 24], [50, 0, 0, 0, 6, 4, 2, 1, 0, 0, 1, 4, 6, 6, 2, 1, 1, 1, 2, 1, 1]), (3, [23, 22, 6], []), (1, [21, 20, 6], []), (3, [20, 18, 19], []), (2, [19, 4, 2], []), (3, [18, 17, 7], []), (8, [6], [1]), (1, [16, 1, 15], []), (20, [14, 15, 12], [50, 0, 0, 0, 6, 6, 2, 1, 0, 1, 1, 1, 2]), (20, [12, 14, 15], [50, 0, 0, 0, 6, 4, 2, 1, 0, 0, 1, 4, 6, 6, 2, 1, 1, 1, 2, 1, 1]), (3, [14, 13, 6], []), (1, [12, 11, 6], []), (3, [11, 9, 10], []), (2, [10, 3, 1], []), (3, [9, 8, 7], []), (8, [6], [1]), (7, [7, 6], [5]), (23, [3, 1, 6], [0, 1, -1, -1]), (23, [3, 1, 6], [0, -1, 1, -1]), (23, [4, 2, 6], [0, 1, -1, -1]), (23, [4, 2, 6], [0, -1, 1, -1])], [(25, (0, 0, 63, []))], [], [], [], [(25, 24, 0, 63), (25, 2, -7938, 8001), (21, 6, -7938, 7938), (21, 20, 1, 63), (19, 4, -63, 0), (16, 15, 0, 63), (12, 6, -7938, 7938), (12, 11, 1, 63), (10, 3, -63, 0), (7, 6, -4294967296, 0), (7, 6, -4294967296, 1)])
theorem oo_Mo_dotLine_17 {kA : Nat → ClassId} : or_ok PRD kA GG o_Mo_dotLine_17 := by
  refine or_mk fun A ta ws vs hD hth hl => ?_
  intro t1 k1 t2 k2 t3 k3 t4 k4 t6 k6 t7 k7 t8 k8 t9 k9 t10 k10 t11 k11 t12 k12 t13 k13 t14 k14 t15 k15 t16 k16 t17 k17 t18 k18 t19 k19 t20 k20 t21 k21 t22 k22 t23 k23 t24 k24 t25 k25 d0 d1 d2 d3 d4 d5 d6 d7 d8 d9 d10 f0 f1 f2 f3 f4 f5 f6 f7 f8 f9 f10 f11 f12 f13 f14 f15 f16 f17 f18 f19 f20 f21 f22
  replace f0 := shm_12 f0
  replace f1 := shm_35 f1
  replace f2 := shm_36 f2
  replace f3 := shm_38 f3
  rw [show v_iv (n_v vs 22) = 2 from by omega] at f3
  replace f4 := shm_12 f4
  replace f5 := shm_38 f5
  replace f6 := shm_14 f6
  replace f7 := shm_38 f7
  rw [show v_iv (n_v vs 17) = 2 from by omega] at f7
  replace f8 := shm_142 f8
  replace f9 := shm_12 f9
  replace f10 := shm_35 f10
  replace f11 := shm_36 f11
  replace f12 := shm_38 f12
  rw [show v_iv (n_v vs 13) = 2 from by omega] at f12
  replace f13 := shm_12 f13
  replace f14 := shm_38 f14
  replace f15 := shm_14 f15
  replace f16 := shm_38 f16
  rw [show v_iv (n_v vs 8) = 2 from by omega] at f16
  replace f17 := shm_142 f17
  replace f18 := shm_24 f18
  replace f19 := shm_136 f19
  replace f20 := shm_1124 f20
  replace f21 := shm_136 f21
  replace f22 := shm_1124 f22
  have z1 : v_iv (n_v vs 20) = 2 * v_iv (n_v vs 7) * v_iv (n_v vs 19) := by have z0 := ‹v_iv (n_v vs 20) = v_iv (n_v vs 18) * v_iv (n_v vs 19)›; rw [show v_iv (n_v vs 18) = 2 * v_iv (n_v vs 7) from by omega] at z0; exact z0
  have z2 : v_iv (n_v vs 23) * v_iv (n_v vs 24) = 2 * v_iv (n_v vs 6) * v_iv (n_v vs 24) := by rw [show v_iv (n_v vs 23) = 2 * v_iv (n_v vs 6) from by omega]
  have z3 := dl_in (a := v_iv (n_v vs 2)) (c := v_iv (n_v vs 4)) (n := v_iv (n_v vs 6)) (k := v_iv (n_v vs 7)) (q := v_iv (n_v vs 24)) (p := v_iv (n_v vs 21)) (e := v_iv (n_v vs 19)) (by omega) (by omega) (by omega) (by omega) (by omega) (by omega) (by omega) (by omega) (by omega)
  have rf25 : tv_ok ta (0, 0, 63, []) (n_v vs 25) := tv_in t25 (by first | omega | grind) (by first | omega | grind)
  refine ⟨List.forall_mem_cons.mpr ⟨rf25, (fun _ h => (by cases h))⟩, [], trivial, ?_, (fun _ h => (by cases h))⟩
  rw [List.append_nil]
  exact (fun _ h => (by cases h))
def n_Mo_dotLine_an : List an_T := [(28, [(0, (2, 0, 0, [165])), (1, (0, 0, 63, [])), (2, (0, 0, 63, [])), (3, (0, 0, 63, [])), (4, (0, 0, 63, [])), (5, (0, 1, 256, [])), (6, (0, 0, 63, [])), (7, (0, 0, 64, []))], [], (0, 0), [(0, 0, 99972), (1, 7, 64), (0, 0, 100000)], [(7, 6, (Int.negSucc 999999999999), 1)], [], [], 0, [], [(23, [3, 1, 6], [0, 1, (Int.negSucc 0), (Int.negSucc 0)]), (23, [3, 1, 6], [0, (Int.negSucc 0), 1, (Int.negSucc 0)]), (23, [4, 2, 6], [0, 1, (Int.negSucc 0), (Int.negSucc 0)]), (23, [4, 2, 6], [0, (Int.negSucc 0), 1, (Int.negSucc 0)])])]
def t_Mo_dotLine_ct : ct_L := [(0, 855, e_Mo_max), (183, 931, e_jMath_floorDiv1_v69), (183, 931, e_jMath_floorDiv1_v70), (183, 931, e_jMath_floorDiv1_v71), (183, 931, e_jMath_floorDiv1_v72), (183, 931, e_jMath_floorDiv1_v73), (183, 931, e_jMath_floorDiv1_v74), (183, 931, e_jMath_floorDiv1_v75), (183, 931, e_jMath_floorDiv1_v76), (183, 931, e_jMath_floorDiv1_v77), (183, 931, e_jMath_floorDiv1_v78), (183, 931, e_jMath_floorDiv1_v79), (183, 931, e_jMath_floorDiv1_v80), (183, 931, e_jMath_floorDiv1_v81), (183, 931, e_jMath_floorDiv1_v82), (183, 931, e_jMath_floorDiv1_v83), (183, 931, e_jMath_floorDiv1_v84), (183, 931, e_jMath_floorDiv1_v85), (183, 931, e_jMath_floorDiv1_v86), (279, 931, e_jMath_floorDiv1_v69), (279, 931, e_jMath_floorDiv1_v70), (279, 931, e_jMath_floorDiv1_v71), (279, 931, e_jMath_floorDiv1_v72), (279, 931, e_jMath_floorDiv1_v73), (279, 931, e_jMath_floorDiv1_v74), (279, 931, e_jMath_floorDiv1_v75), (279, 931, e_jMath_floorDiv1_v76), (279, 931, e_jMath_floorDiv1_v77), (279, 931, e_jMath_floorDiv1_v78), (279, 931, e_jMath_floorDiv1_v79), (279, 931, e_jMath_floorDiv1_v80), (279, 931, e_jMath_floorDiv1_v81), (279, 931, e_jMath_floorDiv1_v82), (279, 931, e_jMath_floorDiv1_v83), (279, 931, e_jMath_floorDiv1_v84), (279, 931, e_jMath_floorDiv1_v85), (279, 931, e_jMath_floorDiv1_v86)]
set_option maxRecDepth 100000 in
theorem c_Mo_dotLine {l : Launch} {D : va_G} {kA : Nat → ClassId} (h_Mo_max : ct_ok PRD l D kA GG y_Mo_max z_Mo_max e_Mo_max) : ct_ok PRD l D kA GG y_Mo_dotLine z_Mo_dotLine e_Mo_dotLine := chk_all_ok (FT := [(369, 13, 175)]) (PT := []) (CT := t_Mo_dotLine_ct) (KT := []) (NT := []) (AN := n_Mo_dotLine_an) (OT := [o_Mo_dotLine_0, o_Mo_dotLine_1, o_Mo_dotLine_2, o_Mo_dotLine_3, o_Mo_dotLine_4, o_Mo_dotLine_5, o_Mo_dotLine_6, o_Mo_dotLine_7, o_Mo_dotLine_8, o_Mo_dotLine_9, o_Mo_dotLine_10, o_Mo_dotLine_11, o_Mo_dotLine_12, o_Mo_dotLine_13, o_Mo_dotLine_14, o_Mo_dotLine_15, o_Mo_dotLine_16, o_Mo_dotLine_17]) 3 476 (List.forall_mem_cons.mpr ⟨oo_Mo_dotLine_0, List.forall_mem_cons.mpr ⟨oo_Mo_dotLine_1, List.forall_mem_cons.mpr ⟨oo_Mo_dotLine_2, List.forall_mem_cons.mpr ⟨oo_Mo_dotLine_3, List.forall_mem_cons.mpr ⟨oo_Mo_dotLine_4, List.forall_mem_cons.mpr ⟨oo_Mo_dotLine_5, List.forall_mem_cons.mpr ⟨oo_Mo_dotLine_6, List.forall_mem_cons.mpr ⟨oo_Mo_dotLine_7, List.forall_mem_cons.mpr ⟨oo_Mo_dotLine_8, List.forall_mem_cons.mpr ⟨oo_Mo_dotLine_9, List.forall_mem_cons.mpr ⟨oo_Mo_dotLine_10, List.forall_mem_cons.mpr ⟨oo_Mo_dotLine_11, List.forall_mem_cons.mpr ⟨oo_Mo_dotLine_12, List.forall_mem_cons.mpr ⟨oo_Mo_dotLine_13, List.forall_mem_cons.mpr ⟨oo_Mo_dotLine_14, List.forall_mem_cons.mpr ⟨oo_Mo_dotLine_15, List.forall_mem_cons.mpr ⟨oo_Mo_dotLine_16, List.forall_mem_cons.mpr ⟨oo_Mo_dotLine_17, List.forall_mem_nil _⟩⟩⟩⟩⟩⟩⟩⟩⟩⟩⟩⟩⟩⟩⟩⟩⟩⟩) (by decide +kernel) ⟨List.forall_mem_cons.mpr ⟨gf_Mo_369, List.forall_mem_nil _⟩, List.forall_mem_nil _, List.forall_mem_cons.mpr ⟨cl_static (y := y_Mo_max) h_Mo_max wm_3430 wm_9 wm_3428 wm_3429 ⟨by decide, by decide, by decide +kernel⟩ (by decide), List.forall_mem_cons.mpr ⟨cl_static (y := y_jMath_floorDiv1) c_jMath_floorDiv1_v69 wm_1617 wm_10 wm_3556 wm_1616 ⟨by decide, by decide, by decide +kernel⟩ (by decide), List.forall_mem_cons.mpr ⟨cl_static (y := y_jMath_floorDiv1) c_jMath_floorDiv1_v70 wm_1617 wm_10 wm_3556 wm_1616 ⟨by decide, by decide, by decide +kernel⟩ (by decide), List.forall_mem_cons.mpr ⟨cl_static (y := y_jMath_floorDiv1) c_jMath_floorDiv1_v71 wm_1617 wm_10 wm_3556 wm_1616 ⟨by decide, by decide, by decide +kernel⟩ (by decide), List.forall_mem_cons.mpr ⟨cl_static (y := y_jMath_floorDiv1) c_jMath_floorDiv1_v72 wm_1617 wm_10 wm_3556 wm_1616 ⟨by decide, by decide, by decide +kernel⟩ (by decide), List.forall_mem_cons.mpr ⟨cl_static (y := y_jMath_floorDiv1) c_jMath_floorDiv1_v73 wm_1617 wm_10 wm_3556 wm_1616 ⟨by decide, by decide, by decide +kernel⟩ (by decide), List.forall_mem_cons.mpr ⟨cl_static (y := y_jMath_floorDiv1) c_jMath_floorDiv1_v74 wm_1617 wm_10 wm_3556 wm_1616 ⟨by decide, by decide, by decide +kernel⟩ (by decide), List.forall_mem_cons.mpr ⟨cl_static (y := y_jMath_floorDiv1) c_jMath_floorDiv1_v75 wm_1617 wm_10 wm_3556 wm_1616 ⟨by decide, by decide, by decide +kernel⟩ (by decide), List.forall_mem_cons.mpr ⟨cl_static (y := y_jMath_floorDiv1) c_jMath_floorDiv1_v76 wm_1617 wm_10 wm_3556 wm_1616 ⟨by decide, by decide, by decide +kernel⟩ (by decide), List.forall_mem_cons.mpr ⟨cl_static (y := y_jMath_floorDiv1) c_jMath_floorDiv1_v77 wm_1617 wm_10 wm_3556 wm_1616 ⟨by decide, by decide, by decide +kernel⟩ (by decide), List.forall_mem_cons.mpr ⟨cl_static (y := y_jMath_floorDiv1) c_jMath_floorDiv1_v78 wm_1617 wm_10 wm_3556 wm_1616 ⟨by decide, by decide, by decide +kernel⟩ (by decide), List.forall_mem_cons.mpr ⟨cl_static (y := y_jMath_floorDiv1) c_jMath_floorDiv1_v79 wm_1617 wm_10 wm_3556 wm_1616 ⟨by decide, by decide, by decide +kernel⟩ (by decide), List.forall_mem_cons.mpr ⟨cl_static (y := y_jMath_floorDiv1) c_jMath_floorDiv1_v80 wm_1617 wm_10 wm_3556 wm_1616 ⟨by decide, by decide, by decide +kernel⟩ (by decide), List.forall_mem_cons.mpr ⟨cl_static (y := y_jMath_floorDiv1) c_jMath_floorDiv1_v81 wm_1617 wm_10 wm_3556 wm_1616 ⟨by decide, by decide, by decide +kernel⟩ (by decide), List.forall_mem_cons.mpr ⟨cl_static (y := y_jMath_floorDiv1) c_jMath_floorDiv1_v82 wm_1617 wm_10 wm_3556 wm_1616 ⟨by decide, by decide, by decide +kernel⟩ (by decide), List.forall_mem_cons.mpr ⟨cl_static (y := y_jMath_floorDiv1) c_jMath_floorDiv1_v83 wm_1617 wm_10 wm_3556 wm_1616 ⟨by decide, by decide, by decide +kernel⟩ (by decide), List.forall_mem_cons.mpr ⟨cl_static (y := y_jMath_floorDiv1) c_jMath_floorDiv1_v84 wm_1617 wm_10 wm_3556 wm_1616 ⟨by decide, by decide, by decide +kernel⟩ (by decide), List.forall_mem_cons.mpr ⟨cl_static (y := y_jMath_floorDiv1) c_jMath_floorDiv1_v85 wm_1617 wm_10 wm_3556 wm_1616 ⟨by decide, by decide, by decide +kernel⟩ (by decide), List.forall_mem_cons.mpr ⟨cl_static (y := y_jMath_floorDiv1) c_jMath_floorDiv1_v86 wm_1617 wm_10 wm_3556 wm_1616 ⟨by decide, by decide, by decide +kernel⟩ (by decide), List.forall_mem_cons.mpr ⟨cl_static (y := y_jMath_floorDiv1) c_jMath_floorDiv1_v69 wm_1617 wm_10 wm_3556 wm_1616 ⟨by decide, by decide, by decide +kernel⟩ (by decide), List.forall_mem_cons.mpr ⟨cl_static (y := y_jMath_floorDiv1) c_jMath_floorDiv1_v70 wm_1617 wm_10 wm_3556 wm_1616 ⟨by decide, by decide, by decide +kernel⟩ (by decide), List.forall_mem_cons.mpr ⟨cl_static (y := y_jMath_floorDiv1) c_jMath_floorDiv1_v71 wm_1617 wm_10 wm_3556 wm_1616 ⟨by decide, by decide, by decide +kernel⟩ (by decide), List.forall_mem_cons.mpr ⟨cl_static (y := y_jMath_floorDiv1) c_jMath_floorDiv1_v72 wm_1617 wm_10 wm_3556 wm_1616 ⟨by decide, by decide, by decide +kernel⟩ (by decide), List.forall_mem_cons.mpr ⟨cl_static (y := y_jMath_floorDiv1) c_jMath_floorDiv1_v73 wm_1617 wm_10 wm_3556 wm_1616 ⟨by decide, by decide, by decide +kernel⟩ (by decide), List.forall_mem_cons.mpr ⟨cl_static (y := y_jMath_floorDiv1) c_jMath_floorDiv1_v74 wm_1617 wm_10 wm_3556 wm_1616 ⟨by decide, by decide, by decide +kernel⟩ (by decide), List.forall_mem_cons.mpr ⟨cl_static (y := y_jMath_floorDiv1) c_jMath_floorDiv1_v75 wm_1617 wm_10 wm_3556 wm_1616 ⟨by decide, by decide, by decide +kernel⟩ (by decide), List.forall_mem_cons.mpr ⟨cl_static (y := y_jMath_floorDiv1) c_jMath_floorDiv1_v76 wm_1617 wm_10 wm_3556 wm_1616 ⟨by decide, by decide, by decide +kernel⟩ (by decide), List.forall_mem_cons.mpr ⟨cl_static (y := y_jMath_floorDiv1) c_jMath_floorDiv1_v77 wm_1617 wm_10 wm_3556 wm_1616 ⟨by decide, by decide, by decide +kernel⟩ (by decide), List.forall_mem_cons.mpr ⟨cl_static (y := y_jMath_floorDiv1) c_jMath_floorDiv1_v78 wm_1617 wm_10 wm_3556 wm_1616 ⟨by decide, by decide, by decide +kernel⟩ (by decide), List.forall_mem_cons.mpr ⟨cl_static (y := y_jMath_floorDiv1) c_jMath_floorDiv1_v79 wm_1617 wm_10 wm_3556 wm_1616 ⟨by decide, by decide, by decide +kernel⟩ (by decide), List.forall_mem_cons.mpr ⟨cl_static (y := y_jMath_floorDiv1) c_jMath_floorDiv1_v80 wm_1617 wm_10 wm_3556 wm_1616 ⟨by decide, by decide, by decide +kernel⟩ (by decide), List.forall_mem_cons.mpr ⟨cl_static (y := y_jMath_floorDiv1) c_jMath_floorDiv1_v81 wm_1617 wm_10 wm_3556 wm_1616 ⟨by decide, by decide, by decide +kernel⟩ (by decide), List.forall_mem_cons.mpr ⟨cl_static (y := y_jMath_floorDiv1) c_jMath_floorDiv1_v82 wm_1617 wm_10 wm_3556 wm_1616 ⟨by decide, by decide, by decide +kernel⟩ (by decide), List.forall_mem_cons.mpr ⟨cl_static (y := y_jMath_floorDiv1) c_jMath_floorDiv1_v83 wm_1617 wm_10 wm_3556 wm_1616 ⟨by decide, by decide, by decide +kernel⟩ (by decide), List.forall_mem_cons.mpr ⟨cl_static (y := y_jMath_floorDiv1) c_jMath_floorDiv1_v84 wm_1617 wm_10 wm_3556 wm_1616 ⟨by decide, by decide, by decide +kernel⟩ (by decide), List.forall_mem_cons.mpr ⟨cl_static (y := y_jMath_floorDiv1) c_jMath_floorDiv1_v85 wm_1617 wm_10 wm_3556 wm_1616 ⟨by decide, by decide, by decide +kernel⟩ (by decide), List.forall_mem_cons.mpr ⟨cl_static (y := y_jMath_floorDiv1) c_jMath_floorDiv1_v86 wm_1617 wm_10 wm_3556 wm_1616 ⟨by decide, by decide, by decide +kernel⟩ (by decide), List.forall_mem_nil _⟩⟩⟩⟩⟩⟩⟩⟩⟩⟩⟩⟩⟩⟩⟩⟩⟩⟩⟩⟩⟩⟩⟩⟩⟩⟩⟩⟩⟩⟩⟩⟩⟩⟩⟩⟩⟩, List.forall_mem_nil _, List.forall_mem_nil _, GG_pl⟩ (by decide +kernel)
set_option maxHeartbeats 4000000 in
theorem vc_Mo_drawWay_0_0 (x1 : Int) (x2 : Int) (pt_0 : Int → Int) (ph_0 : Int → Int) (pn_0 : Int) (pm_0 : Int) (alive_0 : Int → Int) (blockOf_0 : Int → Int) (drawnEdge_0 : Int → Int) (drawnNode_0 : Int → Int) (faceMany_0 : Int → Int) (face_0 : Int → Int) (way_0 : Int → Int) (faces_0 : Int) (wayMany_0 : Int) (k1 : 0 ≤ x1 ∧ x1 ≤ 79) (k2 : 0 ≤ x2 ∧ x2 ≤ 0) (f1 : DWP (pn_0) (pm_0) (faces_0) (wayMany_0) (pt_0) (ph_0) (alive_0) (blockOf_0) (drawnEdge_0) (drawnNode_0) (faceMany_0) (face_0) (way_0) (x1)) (kz_0_31 : 0 ≤ pn_0 ∧ pn_0 ≤ 25) (kz_0_32 : 0 ≤ pm_0 ∧ pm_0 ≤ 80) (kz_0_39 : 0 ≤ faces_0 ∧ faces_0 ≤ 120) (kz_0_45 : 0 ≤ wayMany_0 ∧ wayMany_0 ≤ 30) : DWI (pn_0) (pm_0) (faces_0) (wayMany_0) (pt_0) (ph_0) (alive_0) (blockOf_0) (drawnEdge_0) (drawnNode_0) (faceMany_0) (face_0) (way_0) (x1) (x2) := by
  first
    | exact dwi_start ‹DWP _ _ _ _ _ _ _ _ _ _ _ _ _ _› (by omega)
    | (refine dwi_next (k := x3) ‹DWI _ _ _ _ _ _ _ _ _ _ _ _ _ _ _› (by omega) (by omega) (by omega) (fun u a => ?_) (fun e a b => ?_)
       · by_cases q : u = x7
         · have v := (hE_0_42_1 u a).1 q
           exact ⟨fun _ => Or.inr (by omega), fun _ => by omega⟩
         · rw [(hE_0_42_1 u a).2 q]
           exact ⟨Or.inl, fun z => z.elim id (fun w => by exfalso; omega)⟩
       · exact ⟨Or.inl, fun z => z.elim id (fun w => by exfalso; have := w.1; omega)⟩)
    | (have hj : JJ pm_0 pt_0 ph_0 alive_0 x14 (way_0 (x3 - 1)) (way_0 x3) := by
         rcases ‹EOF _ _ _ _ _ _ _› with ⟨z, _⟩ | z
         · exfalso; omega
         · rw [show x3 - 1 = x11 by omega, ← ‹x12 = way_0 x11›, ← ‹x13 = way_0 x3›]; exact z
       refine dwi_next (k := x3) ‹DWI _ _ _ _ _ _ _ _ _ _ _ _ _ _ _› (by omega) (by omega) (by omega) (fun u a => ?_) (fun e a b => ?_)
       · by_cases q : u = x7
         · have v := (hE_0_42_2 u a).1 q
           exact ⟨fun _ => Or.inr (by omega), fun _ => by omega⟩
         · rw [(hE_0_42_2 u a).2 q]
           exact ⟨Or.inl, fun z => z.elim id (fun w => by exfalso; omega)⟩
       · by_cases q : e = x14
         · have v := (hE_0_43_1 e a).1 q
           exact ⟨fun _ => Or.inr ⟨by omega, q ▸ hj⟩, fun _ => by omega⟩
         · rw [(hE_0_43_1 e a).2 q]
           exact ⟨Or.inl, fun z => z.elim id (fun w => absurd (JJ_one ‹GOK _ _ _ _› w.2 hj) q)⟩)
def o_Mo_drawWay_0 : or_T := (2, 3, [(0, (2, 0, 0, [165])), (1, (0, 0, 79, [])), (2, (0, 0, 0, []))], [(20, [0, 1], [60, 4, 9, 152, 31, 32, 39, 45, 33, 34, 35, 17, 43, 42, 40, 41, 46])], [], [], [(20, [0, 1, 2], [60, 4, 9, 153, 31, 32, 39, 45, 33, 34, 35, 17, 43, 42, 40, 41, 46]), (24, [0, 0], [])], [], [])
theorem oo_Mo_drawWay_0 {kA : Nat → ClassId} : or_ok PRD kA GG o_Mo_drawWay_0 := by
  refine or_mk fun A ta ws vs hD hth hl => ?_
  intro t0 r0 t1 k1 t2 k2 f1
  have kz_0_31 := fdq_145 hD hth r0
  have kz_0_32 := fdq_140 hD hth r0
  have kz_0_39 := fdq_135 hD hth r0
  have kz_0_45 := fdq_191 hD hth r0
  have nf0 : fc_1 PRD (20, [0, 1, 2], [60, 4, 9, 153, 31, 32, 39, 45, 33, 34, 35, 17, 43, 42, 40, 41, 46]) ws (vs) := ⟨nf_in hl rfl, sgq_1126 (vc_Mo_drawWay_0_0 (v_iv (n_v vs 1)) (v_iv (n_v vs 2)) (w_ei ws (w_ar ws (n_v vs 0) 33)) (w_ei ws (w_ar ws (n_v vs 0) 34)) (w_fi ws (n_v vs 0) 31) (w_fi ws (n_v vs 0) 32) (w_ei ws (w_ar ws (n_v vs 0) 35)) (w_ei ws (w_ar ws (n_v vs 0) 17)) (w_ei ws (w_ar ws (n_v vs 0) 43)) (w_ei ws (w_ar ws (n_v vs 0) 42)) (w_ei ws (w_ar ws (n_v vs 0) 40)) (w_ei ws (w_ar ws (n_v vs 0) 41)) (w_ei ws (w_ar ws (n_v vs 0) 46)) (w_fi ws (n_v vs 0) 39) (w_fi ws (n_v vs 0) 45) k1 k2 (shm_1125 f1) kz_0_31 kz_0_32 kz_0_39 kz_0_45)⟩
  have nf1 : fc_1 PRD (24, [0, 0], []) ws (vs) := by
    refine ⟨nf_in hl rfl, sgq_1 ?_⟩
    · show n_v vs 0 = n_v vs 0
      first | rfl | simp only [true_and]
  refine ⟨(fun _ h => (by cases h)), [], trivial, ?_, (fun _ h => (by cases h))⟩
  rw [List.append_nil]
  exact List.forall_mem_cons.mpr ⟨⟨show (20 : Nat) < 100 from by decide, nf0⟩, List.forall_mem_cons.mpr ⟨⟨show (24 : Nat) < 100 from by decide, nf1⟩, (fun _ h => (by cases h))⟩⟩
set_option maxHeartbeats 4000000 in
theorem vc_Mo_drawWay_1_0 (x1 : Int) (x3 : Int) (x4 : Int) (wayMany_0 : Int) (pt_0 : Int → Int) (ph_0 : Int → Int) (pn_0 : Int) (pm_0 : Int) (alive_0 : Int → Int) (blockOf_0 : Int → Int) (drawnEdge_0 : Int → Int) (drawnNode_0 : Int → Int) (faceMany_0 : Int → Int) (face_0 : Int → Int) (way_0 : Int → Int) (faces_0 : Int) (k1 : 0 ≤ x1 ∧ x1 ≤ 79) (k3 : 0 ≤ x3 ∧ x3 ≤ 30) (k4 : 0 ≤ x4 ∧ x4 ≤ 30) (d0 : x4 + 0 ≤ x3 ∧ x3 ≤ x4 + 4294967296) (g1 : x4 = wayMany_0) (f3 : DWI (pn_0) (pm_0) (faces_0) (wayMany_0) (pt_0) (ph_0) (alive_0) (blockOf_0) (drawnEdge_0) (drawnNode_0) (faceMany_0) (face_0) (way_0) (x1) (x3)) (kz_0_31 : 0 ≤ pn_0 ∧ pn_0 ≤ 25) (kz_0_32 : 0 ≤ pm_0 ∧ pm_0 ≤ 80) (kz_0_39 : 0 ≤ faces_0 ∧ faces_0 ≤ 120) (kz_0_45 : 0 ≤ wayMany_0 ∧ wayMany_0 ≤ 30) : DWQ (pm_0) (faces_0) (pt_0) (ph_0) (alive_0) (blockOf_0) (drawnEdge_0) (drawnNode_0) (faceMany_0) (face_0) (x1) := by
  exact dwi_end ‹DWI _ _ _ _ _ _ _ _ _ _ _ _ _ _ _› (by omega)
def o_Mo_drawWay_1 : or_T := (56, 5, [(0, (2, 0, 0, [165])), (1, (0, 0, 79, [])), (3, (0, 0, 30, [])), (4, (0, 0, 30, []))], [(9, [4, 2], [45]), (20, [2, 1, 3], [60, 4, 9, 153, 31, 32, 39, 45, 33, 34, 35, 17, 43, 42, 40, 41, 46]), (24, [0, 2], [])], [], [], [(20, [0, 1], [60, 2, 8, 154, 32, 39, 33, 34, 35, 17, 43, 42, 40, 41])], [], [(3, 4, 0, 4294967296)])
theorem oo_Mo_drawWay_1 {kA : Nat → ClassId} : or_ok PRD kA GG o_Mo_drawWay_1 := by
  refine or_mk fun A ta ws vs hD hth hl => ?_
  intro t0 r0 t1 k1 t3 k3 t4 k4 d0 f1 f3 f4
  replace f1 := shm_741 f1
  replace f3 := shm_1126 f3
  replace f4 := shm_5 f4
  have q2 : n_v vs 2 = n_v vs 0 := f4.symm
  simp only [q2] at f1 f3
  have g1 : v_iv (n_v vs 4) = w_fi ws (n_v vs 0) 45 := congrArg v_iv f1
  have kz_0_31 := fdq_145 hD hth r0
  have kz_0_32 := fdq_140 hD hth r0
  have kz_0_39 := fdq_135 hD hth r0
  have kz_0_45 := fdq_191 hD hth r0
  have nf0 : fc_1 PRD (20, [0, 1], [60, 2, 8, 154, 32, 39, 33, 34, 35, 17, 43, 42, 40, 41]) ws (vs) := ⟨nf_in hl rfl, sgq_1127 (vc_Mo_drawWay_1_0 (v_iv (n_v vs 1)) (v_iv (n_v vs 3)) (v_iv (n_v vs 4)) (w_fi ws (n_v vs 0) 45) (w_ei ws (w_ar ws (n_v vs 0) 33)) (w_ei ws (w_ar ws (n_v vs 0) 34)) (w_fi ws (n_v vs 0) 31) (w_fi ws (n_v vs 0) 32) (w_ei ws (w_ar ws (n_v vs 0) 35)) (w_ei ws (w_ar ws (n_v vs 0) 17)) (w_ei ws (w_ar ws (n_v vs 0) 43)) (w_ei ws (w_ar ws (n_v vs 0) 42)) (w_ei ws (w_ar ws (n_v vs 0) 40)) (w_ei ws (w_ar ws (n_v vs 0) 41)) (w_ei ws (w_ar ws (n_v vs 0) 46)) (w_fi ws (n_v vs 0) 39) k1 k3 k4 d0 g1 f3 kz_0_31 kz_0_32 kz_0_39 kz_0_45)⟩
  refine ⟨(fun _ h => (by cases h)), [], trivial, ?_, (fun _ h => (by cases h))⟩
  rw [List.append_nil]
  exact List.forall_mem_cons.mpr ⟨⟨show (20 : Nat) < 100 from by decide, nf0⟩, (fun _ h => (by cases h))⟩
set_option maxHeartbeats 4000000 in
theorem vc_Mo_drawWay_2_0 (x1 : Int) (x3 : Int) (x4 : Int) (x7 : Int) (x8 : Int) (x9 : Int) (pt_0 : Int → Int) (ph_0 : Int → Int) (pn_0 : Int) (pm_0 : Int) (way_1 : Int → Int) (wayMany_1 : Int) (pt_1 : Int → Int) (ph_1 : Int → Int) (pn_1 : Int) (pm_1 : Int) (alive_1 : Int → Int) (blockOf_1 : Int → Int) (drawnEdge_1 : Int → Int) (drawnNode_1 : Int → Int) (faceMany_1 : Int → Int) (face_1 : Int → Int) (faces_1 : Int) (faces_0 : Int) (wayMany_0 : Int) (blockOf_0 : Int → Int) (alive_0 : Int → Int) (faceMany_0 : Int → Int) (face_0 : Int → Int) (drawnNode_0 : Int → Int) (drawnEdge_0 : Int → Int) (way_0 : Int → Int) (k1 : 0 ≤ x1 ∧ x1 ≤ 79) (k3 : 0 ≤ x3 ∧ x3 ≤ 0) (k4 : 1 ≤ x4 ∧ x4 ≤ 30) (k7 : 0 ≤ x7 ∧ x7 ≤ 24) (k8 : 1 ≤ x8 ∧ x8 ≤ 1) (k9 : 1 ≤ x9 ∧ x9 ≤ 1) (f0 : x9 = x3 + 1) (h5 : x7 = way_1 (x3)) (g9 : x4 = wayMany_1) (f11 : DWI (pn_1) (pm_1) (faces_1) (wayMany_1) (pt_1) (ph_1) (alive_1) (blockOf_1) (drawnEdge_1) (drawnNode_1) (faceMany_1) (face_1) (way_1) (x1) (x3)) (fe_0_31_1 : pn_0 = pn_1) (fe_0_32_1 : pm_0 = pm_1) (fe_0_39_1 : faces_0 = faces_1) (fe_0_45_1 : wayMany_0 = wayMany_1) (hE_0_17_1 : ∀ j : Int, blockOf_0 j = blockOf_1 j) (hE_0_33_1 : ∀ j : Int, pt_0 j = pt_1 j) (hE_0_34_1 : ∀ j : Int, ph_0 j = ph_1 j) (hE_0_35_1 : ∀ j : Int, alive_0 j = alive_1 j) (hE_0_40_1 : ∀ j : Int, faceMany_0 j = faceMany_1 j) (hE_0_41_1 : ∀ j : Int, face_0 j = face_1 j) (hE_0_42_1 : ∀ j : Int, 0 ≤ j → (j = x7 → drawnNode_0 j = x8) ∧ (j ≠ x7 → drawnNode_0 j = drawnNode_1 j)) (hE_0_43_1 : ∀ j : Int, drawnEdge_0 j = drawnEdge_1 j) (hE_0_46_1 : ∀ j : Int, way_0 j = way_1 j) (kz_0_31 : 0 ≤ pn_0 ∧ pn_0 ≤ 25) (kz_0_32 : 0 ≤ pm_0 ∧ pm_0 ≤ 80) (kz_0_39 : 0 ≤ faces_0 ∧ faces_0 ≤ 120) (kz_0_45 : 0 ≤ wayMany_0 ∧ wayMany_0 ≤ 30) : DWI (pn_0) (pm_0) (faces_0) (wayMany_0) (pt_0) (ph_0) (alive_0) (blockOf_0) (drawnEdge_0) (drawnNode_0) (faceMany_0) (face_0) (way_0) (x1) (x9) := by
  subst fe_0_31_1
  subst fe_0_32_1
  subst fe_0_39_1
  subst fe_0_45_1
  have e_hE_0_17_1 := funext hE_0_17_1; subst e_hE_0_17_1
  have e_hE_0_33_1 := funext hE_0_33_1; subst e_hE_0_33_1
  have e_hE_0_34_1 := funext hE_0_34_1; subst e_hE_0_34_1
  have e_hE_0_35_1 := funext hE_0_35_1; subst e_hE_0_35_1
  have e_hE_0_40_1 := funext hE_0_40_1; subst e_hE_0_40_1
  have e_hE_0_41_1 := funext hE_0_41_1; subst e_hE_0_41_1
  have e_hE_0_43_1 := funext hE_0_43_1; subst e_hE_0_43_1
  have e_hE_0_46_1 := funext hE_0_46_1; subst e_hE_0_46_1
  first
    | exact dwi_start ‹DWP _ _ _ _ _ _ _ _ _ _ _ _ _ _› (by omega)
    | (refine dwi_next (k := x3) ‹DWI _ _ _ _ _ _ _ _ _ _ _ _ _ _ _› (by omega) (by omega) (by omega) (fun u a => ?_) (fun e a b => ?_)
       · by_cases q : u = x7
         · have v := (hE_0_42_1 u a).1 q
           exact ⟨fun _ => Or.inr (by omega), fun _ => by omega⟩
         · rw [(hE_0_42_1 u a).2 q]
           exact ⟨Or.inl, fun z => z.elim id (fun w => by exfalso; omega)⟩
       · exact ⟨Or.inl, fun z => z.elim id (fun w => by exfalso; have := w.1; omega)⟩)
    | (have hj : JJ pm_0 pt_0 ph_0 alive_0 x14 (way_0 (x3 - 1)) (way_0 x3) := by
         rcases ‹EOF _ _ _ _ _ _ _› with ⟨z, _⟩ | z
         · exfalso; omega
         · rw [show x3 - 1 = x11 by omega, ← ‹x12 = way_0 x11›, ← ‹x13 = way_0 x3›]; exact z
       refine dwi_next (k := x3) ‹DWI _ _ _ _ _ _ _ _ _ _ _ _ _ _ _› (by omega) (by omega) (by omega) (fun u a => ?_) (fun e a b => ?_)
       · by_cases q : u = x7
         · have v := (hE_0_42_2 u a).1 q
           exact ⟨fun _ => Or.inr (by omega), fun _ => by omega⟩
         · rw [(hE_0_42_2 u a).2 q]
           exact ⟨Or.inl, fun z => z.elim id (fun w => by exfalso; omega)⟩
       · by_cases q : e = x14
         · have v := (hE_0_43_1 e a).1 q
           exact ⟨fun _ => Or.inr ⟨by omega, q ▸ hj⟩, fun _ => by omega⟩
         · rw [(hE_0_43_1 e a).2 q]
           exact ⟨Or.inl, fun z => z.elim id (fun w => absurd (JJ_one ‹GOK _ _ _ _› w.2 hj) q)⟩)
def o_Mo_drawWay_2 : or_T := (2, 10, [(0, (2, 0, 0, [165])), (1, (0, 0, 79, [])), (3, (0, 0, 0, [])), (4, (0, 1, 30, [])), (5, (2, 0, 0, [188])), (7, (0, 0, 24, [])), (8, (0, 1, 1, [])), (9, (0, 1, 1, []))], [(6, [9, 3], [1]), (24, [0, 2], []), (100, [5, 7, 8], []), (10, [7, 6, 3], []), (9, [6, 2], [46]), (9, [5, 2], [42]), (9, [4, 2], [45]), (20, [2, 1, 3], [60, 4, 9, 153, 31, 32, 39, 45, 33, 34, 35, 17, 43, 42, 40, 41, 46])], [], [], [(20, [2, 1, 9], [60, 4, 9, 153, 31, 32, 39, 45, 33, 34, 35, 17, 43, 42, 40, 41, 46])], [], [])
theorem oo_Mo_drawWay_2 {kA : Nat → ClassId} : or_ok PRD kA GG o_Mo_drawWay_2 := by
  refine or_mk fun A ta ws vs hD hth hl => ?_
  intro t0 r0 t1 k1 t3 k3 t4 k4 t5 r5 t7 k7 t8 k8 t9 k9 f0 f3 ta1 w1 le1 s1 f5 f6 f7 f9 f11
  replace f0 := shm_4 f0
  replace f3 := shm_5 f3
  have s1 : (∀ b j, w_el ws b j = if b = v_ad (n_v vs 5) ∧ j = (v_iv (n_v vs 7)).toNat then v_iv (n_v vs 8) else w_el w1 b j) ∧ ∀ b k, w_fd ws b k = w_fd w1 b k := s1.2
  replace f5 := shm_107 f5
  replace f6 := shm_737 f6
  replace f7 := shm_531 f7
  replace f9 := shm_741 f9
  replace f11 := shm_1126 f11
  have q2 : n_v vs 2 = n_v vs 0 := f3.symm
  simp only [q2] at f6 f7 f9 f11
  have ar_0_17_1 : w_ar w1 (n_v vs 0) 17 = w_ar ws (n_v vs 0) 17 := congrArg v_ad (s1.2 _ _).symm
  have cr_0_17 := fdq_189 hD hth r0
  have ar_0_33_1 : w_ar w1 (n_v vs 0) 33 = w_ar ws (n_v vs 0) 33 := congrArg v_ad (s1.2 _ _).symm
  have cr_0_33 := fdq_117 hD hth r0
  have ar_0_34_1 : w_ar w1 (n_v vs 0) 34 = w_ar ws (n_v vs 0) 34 := congrArg v_ad (s1.2 _ _).symm
  have cr_0_34 := fdq_118 hD hth r0
  have ar_0_35_1 : w_ar w1 (n_v vs 0) 35 = w_ar ws (n_v vs 0) 35 := congrArg v_ad (s1.2 _ _).symm
  have cr_0_35 := fdq_132 hD hth r0
  have ar_0_40_1 : w_ar w1 (n_v vs 0) 40 = w_ar ws (n_v vs 0) 40 := congrArg v_ad (s1.2 _ _).symm
  have cr_0_40 := fdq_133 hD hth r0
  have ar_0_41_1 : w_ar w1 (n_v vs 0) 41 = w_ar ws (n_v vs 0) 41 := congrArg v_ad (s1.2 _ _).symm
  have cr_0_41 := fdq_134 hD hth r0
  have ar_0_42_1 : w_ar w1 (n_v vs 0) 42 = w_ar ws (n_v vs 0) 42 := congrArg v_ad (s1.2 _ _).symm
  have ar_0_43_1 : w_ar w1 (n_v vs 0) 43 = w_ar ws (n_v vs 0) 43 := congrArg v_ad (s1.2 _ _).symm
  have cr_0_43 := fdq_137 hD hth r0
  have ar_0_46_1 : w_ar w1 (n_v vs 0) 46 = w_ar ws (n_v vs 0) 46 := congrArg v_ad (s1.2 _ _).symm
  have cr_0_46 := fdq_190 hD hth r0
  have ad_6 : v_ad (n_v vs 6) = w_ar ws (n_v vs 0) 46 := (congrArg v_ad f6).trans ar_0_46_1
  have ad_5 : v_ad (n_v vs 5) = w_ar ws (n_v vs 0) 42 := (congrArg v_ad f7).trans ar_0_42_1
  simp only [ad_6] at f5
  have h5 : v_iv (n_v vs 7) = w_ei w1 (w_ar ws (n_v vs 0) 46) (v_iv (n_v vs 3)) := f5
  have g9 : v_iv (n_v vs 4) = w_fi w1 (n_v vs 0) 45 := congrArg v_iv f9
  simp only [ar_0_33_1, ar_0_34_1, ar_0_17_1, ar_0_35_1, ar_0_40_1, ar_0_41_1, ar_0_42_1, ar_0_43_1, ar_0_46_1] at f11
  have fe_0_31_1 : w_fi ws (n_v vs 0) 31 = w_fi w1 (n_v vs 0) 31 := congrArg v_iv (s1.2 _ _)
  have fe_0_32_1 : w_fi ws (n_v vs 0) 32 = w_fi w1 (n_v vs 0) 32 := congrArg v_iv (s1.2 _ _)
  have fe_0_39_1 : w_fi ws (n_v vs 0) 39 = w_fi w1 (n_v vs 0) 39 := congrArg v_iv (s1.2 _ _)
  have fe_0_45_1 : w_fi ws (n_v vs 0) 45 = w_fi w1 (n_v vs 0) 45 := congrArg v_iv (s1.2 _ _)
  have hE_0_17_1 : ∀ j : Int, w_ei ws (w_ar ws (n_v vs 0) 17) j = w_ei w1 (w_ar ws (n_v vs 0) 17) j := el_kp s1.1 r5 cr_0_17 (by decide)
  have hE_0_33_1 : ∀ j : Int, w_ei ws (w_ar ws (n_v vs 0) 33) j = w_ei w1 (w_ar ws (n_v vs 0) 33) j := el_kp s1.1 r5 cr_0_33 (by decide)
  have hE_0_34_1 : ∀ j : Int, w_ei ws (w_ar ws (n_v vs 0) 34) j = w_ei w1 (w_ar ws (n_v vs 0) 34) j := el_kp s1.1 r5 cr_0_34 (by decide)
  have hE_0_35_1 : ∀ j : Int, w_ei ws (w_ar ws (n_v vs 0) 35) j = w_ei w1 (w_ar ws (n_v vs 0) 35) j := el_kp s1.1 r5 cr_0_35 (by decide)
  have hE_0_40_1 : ∀ j : Int, w_ei ws (w_ar ws (n_v vs 0) 40) j = w_ei w1 (w_ar ws (n_v vs 0) 40) j := el_kp s1.1 r5 cr_0_40 (by decide)
  have hE_0_41_1 : ∀ j : Int, w_ei ws (w_ar ws (n_v vs 0) 41) j = w_ei w1 (w_ar ws (n_v vs 0) 41) j := el_kp s1.1 r5 cr_0_41 (by decide)
  have hE_0_42_1 : ∀ j : Int, 0 ≤ j → (j = v_iv (n_v vs 7) → w_ei ws (w_ar ws (n_v vs 0) 42) j = v_iv (n_v vs 8)) ∧ (j ≠ v_iv (n_v vs 7) → w_ei ws (w_ar ws (n_v vs 0) 42) j = w_ei w1 (w_ar ws (n_v vs 0) 42) j) := fun j hj => ⟨fun h => by unfold w_ei; rw [s1.1, if_pos ⟨ad_5.symm, by rw [h]⟩], fun h => by unfold w_ei; rw [s1.1, if_neg (fun e => h (by have := e.2; omega))]⟩
  have hE_0_43_1 : ∀ j : Int, w_ei ws (w_ar ws (n_v vs 0) 43) j = w_ei w1 (w_ar ws (n_v vs 0) 43) j := el_kp s1.1 r5 cr_0_43 (by decide)
  have hE_0_46_1 : ∀ j : Int, w_ei ws (w_ar ws (n_v vs 0) 46) j = w_ei w1 (w_ar ws (n_v vs 0) 46) j := el_kp s1.1 r5 cr_0_46 (by decide)
  have kz_0_31 := fdq_145 hD hth r0
  have kz_0_32 := fdq_140 hD hth r0
  have kz_0_39 := fdq_135 hD hth r0
  have kz_0_45 := fdq_191 hD hth r0
  have nf0 : fc_1 PRD (20, [2, 1, 9], [60, 4, 9, 153, 31, 32, 39, 45, 33, 34, 35, 17, 43, 42, 40, 41, 46]) ws (vs) := by
    refine ⟨nf_in hl rfl, sgq_1126 ?_⟩
    · show DWI (w_fi ws (n_v vs 2) 31) (w_fi ws (n_v vs 2) 32) (w_fi ws (n_v vs 2) 39) (w_fi ws (n_v vs 2) 45) (w_ei ws (w_ar ws (n_v vs 2) 33)) (w_ei ws (w_ar ws (n_v vs 2) 34)) (w_ei ws (w_ar ws (n_v vs 2) 35)) (w_ei ws (w_ar ws (n_v vs 2) 17)) (w_ei ws (w_ar ws (n_v vs 2) 43)) (w_ei ws (w_ar ws (n_v vs 2) 42)) (w_ei ws (w_ar ws (n_v vs 2) 40)) (w_ei ws (w_ar ws (n_v vs 2) 41)) (w_ei ws (w_ar ws (n_v vs 2) 46)) (v_iv (n_v vs 1)) (v_iv (n_v vs 9))
      rw [q2]
      exact vc_Mo_drawWay_2_0 (v_iv (n_v vs 1)) (v_iv (n_v vs 3)) (v_iv (n_v vs 4)) (v_iv (n_v vs 7)) (v_iv (n_v vs 8)) (v_iv (n_v vs 9)) (w_ei ws (w_ar ws (n_v vs 0) 33)) (w_ei ws (w_ar ws (n_v vs 0) 34)) (w_fi ws (n_v vs 0) 31) (w_fi ws (n_v vs 0) 32) (w_ei w1 (w_ar ws (n_v vs 0) 46)) (w_fi w1 (n_v vs 0) 45) (w_ei w1 (w_ar ws (n_v vs 0) 33)) (w_ei w1 (w_ar ws (n_v vs 0) 34)) (w_fi w1 (n_v vs 0) 31) (w_fi w1 (n_v vs 0) 32) (w_ei w1 (w_ar ws (n_v vs 0) 35)) (w_ei w1 (w_ar ws (n_v vs 0) 17)) (w_ei w1 (w_ar ws (n_v vs 0) 43)) (w_ei w1 (w_ar ws (n_v vs 0) 42)) (w_ei w1 (w_ar ws (n_v vs 0) 40)) (w_ei w1 (w_ar ws (n_v vs 0) 41)) (w_fi w1 (n_v vs 0) 39) (w_fi ws (n_v vs 0) 39) (w_fi ws (n_v vs 0) 45) (w_ei ws (w_ar ws (n_v vs 0) 17)) (w_ei ws (w_ar ws (n_v vs 0) 35)) (w_ei ws (w_ar ws (n_v vs 0) 40)) (w_ei ws (w_ar ws (n_v vs 0) 41)) (w_ei ws (w_ar ws (n_v vs 0) 42)) (w_ei ws (w_ar ws (n_v vs 0) 43)) (w_ei ws (w_ar ws (n_v vs 0) 46)) k1 k3 k4 k7 k8 k9 f0 h5 g9 f11 fe_0_31_1 fe_0_32_1 fe_0_39_1 fe_0_45_1 hE_0_17_1 hE_0_33_1 hE_0_34_1 hE_0_35_1 hE_0_40_1 hE_0_41_1 hE_0_42_1 hE_0_43_1 hE_0_46_1 kz_0_31 kz_0_32 kz_0_39 kz_0_45
  refine ⟨(fun _ h => (by cases h)), [], trivial, ?_, (fun _ h => (by cases h))⟩
  rw [List.append_nil]
  exact List.forall_mem_cons.mpr ⟨⟨show (20 : Nat) < 100 from by decide, nf0⟩, (fun _ h => (by cases h))⟩
set_option maxHeartbeats 4000000 in
theorem vc_Mo_drawWay_3_r0 (x1 : Int) (x3 : Int) (x4 : Int) (x11 : Int) (x12 : Int) (x13 : Int) (x14 : Int) (pt_0 : Int → Int) (ph_0 : Int → Int) (alive_0 : Int → Int) (pm_0 : Int) (way_0 : Int → Int) (pn_0 : Int) (way_1 : Int → Int) (wayMany_1 : Int) (pt_1 : Int → Int) (ph_1 : Int → Int) (pn_1 : Int) (pm_1 : Int) (alive_1 : Int → Int) (blockOf_1 : Int → Int) (drawnEdge_1 : Int → Int) (drawnNode_1 : Int → Int) (faceMany_1 : Int → Int) (face_1 : Int → Int) (faces_1 : Int) (faces_0 : Int) (wayMany_0 : Int) (blockOf_0 : Int → Int) (faceMany_0 : Int → Int) (face_0 : Int → Int) (drawnEdge_0 : Int → Int) (k1 : 0 ≤ x1 ∧ x1 ≤ 79) (k3 : 1 ≤ x3 ∧ x3 ≤ 29) (k4 : 2 ≤ x4 ∧ x4 ≤ 30) (k11 : 0 ≤ x11 ∧ x11 ≤ 28) (k12 : 0 ≤ x12 ∧ x12 ≤ 24) (k13 : 0 ≤ x13 ∧ x13 ≤ 24) (k14 : (-1) ≤ x14 ∧ x14 ≤ 79) (d0 : x3 + (-1) ≤ x11 ∧ x11 ≤ x3 + (-1)) (d1 : x4 + (-4294967296) ≤ x11 ∧ x11 ≤ x4 + (-2)) (f0 : EOF (pm_0) (pt_0) (ph_0) (alive_0) (x12) (x13) (x14)) (h1 : x13 = way_0 (x3)) (h3 : x12 = way_0 (x11)) (f6 : 0 < x3) (g13 : x4 = wayMany_1) (f15 : DWI (pn_1) (pm_1) (faces_1) (wayMany_1) (pt_1) (ph_1) (alive_1) (blockOf_1) (drawnEdge_1) (drawnNode_1) (faceMany_1) (face_1) (way_1) (x1) (x3)) (fe_0_31_1 : pn_0 = pn_1) (fe_0_32_1 : pm_0 = pm_1) (fe_0_39_1 : faces_0 = faces_1) (fe_0_45_1 : wayMany_0 = wayMany_1) (hE_0_17_1 : ∀ j : Int, blockOf_0 j = blockOf_1 j) (hE_0_33_1 : ∀ j : Int, pt_0 j = pt_1 j) (hE_0_34_1 : ∀ j : Int, ph_0 j = ph_1 j) (hE_0_35_1 : ∀ j : Int, alive_0 j = alive_1 j) (hE_0_40_1 : ∀ j : Int, faceMany_0 j = faceMany_1 j) (hE_0_41_1 : ∀ j : Int, face_0 j = face_1 j) (hE_0_43_1 : ∀ j : Int, drawnEdge_0 j = drawnEdge_1 j) (hE_0_46_1 : ∀ j : Int, way_0 j = way_1 j) (kz_0_31 : 0 ≤ pn_0 ∧ pn_0 ≤ 25) (kz_0_32 : 0 ≤ pm_0 ∧ pm_0 ≤ 80) (kz_0_39 : 0 ≤ faces_0 ∧ faces_0 ≤ 120) (kz_0_45 : 0 ≤ wayMany_0 ∧ wayMany_0 ≤ 30) : 0 ≤ x14 ∧ x14 ≤ 79 := by
  subst fe_0_31_1
  subst fe_0_32_1
  subst fe_0_39_1
  subst fe_0_45_1
  have e_hE_0_17_1 := funext hE_0_17_1; subst e_hE_0_17_1
  have e_hE_0_33_1 := funext hE_0_33_1; subst e_hE_0_33_1
  have e_hE_0_34_1 := funext hE_0_34_1; subst e_hE_0_34_1
  have e_hE_0_35_1 := funext hE_0_35_1; subst e_hE_0_35_1
  have e_hE_0_40_1 := funext hE_0_40_1; subst e_hE_0_40_1
  have e_hE_0_41_1 := funext hE_0_41_1; subst e_hE_0_41_1
  have e_hE_0_43_1 := funext hE_0_43_1; subst e_hE_0_43_1
  have e_hE_0_46_1 := funext hE_0_46_1; subst e_hE_0_46_1
  obtain ⟨e, he⟩ := dwi_way (j := x3) ‹DWI _ _ _ _ _ _ _ _ _ _ _ _ _ _ _› (by omega) (by omega)
  rcases ‹EOF _ _ _ _ _ _ _› with ⟨z, w⟩ | z
  · refine absurd ?_ (w e)
    rw [show x3 - 1 = x11 by omega] at he
    rw [‹x12 = way_0 x11›, ‹x13 = way_0 x3›]; exact he
  · have := z.1; have := z.2.1; omega
def o_Mo_drawWay_3 : or_T := (48, 15, [(0, (2, 0, 0, [165])), (1, (0, 0, 79, [])), (2, (2, 0, 0, [165])), (3, (0, 1, 29, [])), (4, (0, 2, 30, [])), (5, (2, 0, 0, [188])), (6, (2, 0, 0, [191])), (7, (0, 0, 24, [])), (8, (0, 1, 1, [])), (9, (2, 0, 0, [189])), (10, (0, 1, 1, [])), (11, (0, 0, 28, [])), (12, (0, 0, 24, [])), (13, (0, 0, 24, [])), (14, (0, -1, 79, []))], [(20, [2, 12, 13, 14], [60, 1, 3, 85, 32, 33, 34, 35]), (10, [13, 6, 3], []), (9, [6, 2], [46]), (10, [12, 6, 11], []), (2, [11, 3, 10], []), (9, [9, 2], [43]), (8, [3], [4]), (20, [2], [60, 2, 2, 75, 31, 32, 33, 34]), (24, [0, 2], []), (100, [5, 7, 8], []), (10, [7, 6, 3], []), (9, [5, 2], [42]), (7, [3, 4], [2]), (9, [4, 2], [45]), (20, [2], [60, 2, 2, 75, 31, 32, 33, 34]), (20, [2, 1, 3], [60, 4, 9, 153, 31, 32, 39, 45, 33, 34, 35, 17, 43, 42, 40, 41, 46])], [(14, (0, 0, 79, []))], [], [], [], [(11, 3, -1, -1), (11, 4, -4294967296, -2), (3, 4, -4294967296, -1)])
theorem oo_Mo_drawWay_3 {kA : Nat → ClassId} : or_ok PRD kA GG o_Mo_drawWay_3 := by
  refine or_mk fun A ta ws vs hD hth hl => ?_
  intro t0 r0 t1 k1 t2 r2 t3 k3 t4 k4 t5 r5 t6 r6 t7 k7 t8 k8 t9 r9 t10 k10 t11 k11 t12 k12 t13 k13 t14 k14 d0 d1 d2 f0 f1 f2 f3 f4 f5 f6 f7 f8 ta1 w1 le1 s1 f10 f11 f12 f13 f14 f15
  replace f0 := shm_990 f0
  replace f1 := shm_107 f1
  replace f2 := shm_737 f2
  replace f3 := shm_107 f3
  replace f8 := shm_5 f8
  have s1 : (∀ b j, w_el ws b j = if b = v_ad (n_v vs 5) ∧ j = (v_iv (n_v vs 7)).toNat then v_iv (n_v vs 8) else w_el w1 b j) ∧ ∀ b k, w_fd ws b k = w_fd w1 b k := s1.2
  replace f13 := shm_741 f13
  replace f15 := shm_1126 f15
  have q2 : n_v vs 2 = n_v vs 0 := f8.symm
  simp only [q2] at f0 f2 f13 f15
  have ar_0_17_1 : w_ar w1 (n_v vs 0) 17 = w_ar ws (n_v vs 0) 17 := congrArg v_ad (s1.2 _ _).symm
  have cr_0_17 := fdq_189 hD hth r0
  have ar_0_33_1 : w_ar w1 (n_v vs 0) 33 = w_ar ws (n_v vs 0) 33 := congrArg v_ad (s1.2 _ _).symm
  have cr_0_33 := fdq_117 hD hth r0
  have ar_0_34_1 : w_ar w1 (n_v vs 0) 34 = w_ar ws (n_v vs 0) 34 := congrArg v_ad (s1.2 _ _).symm
  have cr_0_34 := fdq_118 hD hth r0
  have ar_0_35_1 : w_ar w1 (n_v vs 0) 35 = w_ar ws (n_v vs 0) 35 := congrArg v_ad (s1.2 _ _).symm
  have cr_0_35 := fdq_132 hD hth r0
  have ar_0_40_1 : w_ar w1 (n_v vs 0) 40 = w_ar ws (n_v vs 0) 40 := congrArg v_ad (s1.2 _ _).symm
  have cr_0_40 := fdq_133 hD hth r0
  have ar_0_41_1 : w_ar w1 (n_v vs 0) 41 = w_ar ws (n_v vs 0) 41 := congrArg v_ad (s1.2 _ _).symm
  have cr_0_41 := fdq_134 hD hth r0
  have ar_0_42_1 : w_ar w1 (n_v vs 0) 42 = w_ar ws (n_v vs 0) 42 := congrArg v_ad (s1.2 _ _).symm
  have ar_0_43_1 : w_ar w1 (n_v vs 0) 43 = w_ar ws (n_v vs 0) 43 := congrArg v_ad (s1.2 _ _).symm
  have cr_0_43 := fdq_137 hD hth r0
  have ar_0_46_1 : w_ar w1 (n_v vs 0) 46 = w_ar ws (n_v vs 0) 46 := congrArg v_ad (s1.2 _ _).symm
  have cr_0_46 := fdq_190 hD hth r0
  have ad_6 : v_ad (n_v vs 6) = w_ar ws (n_v vs 0) 46 := congrArg v_ad f2
  simp only [ad_6] at f1
  have h1 : v_iv (n_v vs 13) = w_ei ws (w_ar ws (n_v vs 0) 46) (v_iv (n_v vs 3)) := f1
  simp only [ad_6] at f3
  have h3 : v_iv (n_v vs 12) = w_ei ws (w_ar ws (n_v vs 0) 46) (v_iv (n_v vs 11)) := f3
  have g13 : v_iv (n_v vs 4) = w_fi w1 (n_v vs 0) 45 := congrArg v_iv f13
  simp only [ar_0_33_1, ar_0_34_1, ar_0_17_1, ar_0_35_1, ar_0_40_1, ar_0_41_1, ar_0_42_1, ar_0_43_1, ar_0_46_1] at f15
  have fe_0_31_1 : w_fi ws (n_v vs 0) 31 = w_fi w1 (n_v vs 0) 31 := congrArg v_iv (s1.2 _ _)
  have fe_0_32_1 : w_fi ws (n_v vs 0) 32 = w_fi w1 (n_v vs 0) 32 := congrArg v_iv (s1.2 _ _)
  have fe_0_39_1 : w_fi ws (n_v vs 0) 39 = w_fi w1 (n_v vs 0) 39 := congrArg v_iv (s1.2 _ _)
  have fe_0_45_1 : w_fi ws (n_v vs 0) 45 = w_fi w1 (n_v vs 0) 45 := congrArg v_iv (s1.2 _ _)
  have hE_0_17_1 : ∀ j : Int, w_ei ws (w_ar ws (n_v vs 0) 17) j = w_ei w1 (w_ar ws (n_v vs 0) 17) j := el_kp s1.1 r5 cr_0_17 (by decide)
  have hE_0_33_1 : ∀ j : Int, w_ei ws (w_ar ws (n_v vs 0) 33) j = w_ei w1 (w_ar ws (n_v vs 0) 33) j := el_kp s1.1 r5 cr_0_33 (by decide)
  have hE_0_34_1 : ∀ j : Int, w_ei ws (w_ar ws (n_v vs 0) 34) j = w_ei w1 (w_ar ws (n_v vs 0) 34) j := el_kp s1.1 r5 cr_0_34 (by decide)
  have hE_0_35_1 : ∀ j : Int, w_ei ws (w_ar ws (n_v vs 0) 35) j = w_ei w1 (w_ar ws (n_v vs 0) 35) j := el_kp s1.1 r5 cr_0_35 (by decide)
  have hE_0_40_1 : ∀ j : Int, w_ei ws (w_ar ws (n_v vs 0) 40) j = w_ei w1 (w_ar ws (n_v vs 0) 40) j := el_kp s1.1 r5 cr_0_40 (by decide)
  have hE_0_41_1 : ∀ j : Int, w_ei ws (w_ar ws (n_v vs 0) 41) j = w_ei w1 (w_ar ws (n_v vs 0) 41) j := el_kp s1.1 r5 cr_0_41 (by decide)
  have hE_0_43_1 : ∀ j : Int, w_ei ws (w_ar ws (n_v vs 0) 43) j = w_ei w1 (w_ar ws (n_v vs 0) 43) j := el_kp s1.1 r5 cr_0_43 (by decide)
  have hE_0_46_1 : ∀ j : Int, w_ei ws (w_ar ws (n_v vs 0) 46) j = w_ei w1 (w_ar ws (n_v vs 0) 46) j := el_kp s1.1 r5 cr_0_46 (by decide)
  have kz_0_31 := fdq_145 hD hth r0
  have kz_0_32 := fdq_140 hD hth r0
  have kz_0_39 := fdq_135 hD hth r0
  have kz_0_45 := fdq_191 hD hth r0
  have hrf0 : 0 ≤ v_iv (n_v vs 14) ∧ v_iv (n_v vs 14) ≤ 79 := vc_Mo_drawWay_3_r0 (v_iv (n_v vs 1)) (v_iv (n_v vs 3)) (v_iv (n_v vs 4)) (v_iv (n_v vs 11)) (v_iv (n_v vs 12)) (v_iv (n_v vs 13)) (v_iv (n_v vs 14)) (w_ei ws (w_ar ws (n_v vs 0) 33)) (w_ei ws (w_ar ws (n_v vs 0) 34)) (w_ei ws (w_ar ws (n_v vs 0) 35)) (w_fi ws (n_v vs 0) 32) (w_ei ws (w_ar ws (n_v vs 0) 46)) (w_fi ws (n_v vs 0) 31) (w_ei w1 (w_ar ws (n_v vs 0) 46)) (w_fi w1 (n_v vs 0) 45) (w_ei w1 (w_ar ws (n_v vs 0) 33)) (w_ei w1 (w_ar ws (n_v vs 0) 34)) (w_fi w1 (n_v vs 0) 31) (w_fi w1 (n_v vs 0) 32) (w_ei w1 (w_ar ws (n_v vs 0) 35)) (w_ei w1 (w_ar ws (n_v vs 0) 17)) (w_ei w1 (w_ar ws (n_v vs 0) 43)) (w_ei w1 (w_ar ws (n_v vs 0) 42)) (w_ei w1 (w_ar ws (n_v vs 0) 40)) (w_ei w1 (w_ar ws (n_v vs 0) 41)) (w_fi w1 (n_v vs 0) 39) (w_fi ws (n_v vs 0) 39) (w_fi ws (n_v vs 0) 45) (w_ei ws (w_ar ws (n_v vs 0) 17)) (w_ei ws (w_ar ws (n_v vs 0) 40)) (w_ei ws (w_ar ws (n_v vs 0) 41)) (w_ei ws (w_ar ws (n_v vs 0) 43)) k1 k3 k4 k11 k12 k13 k14 d0 d1 f0 h1 h3 (shm_308 f6) g13 f15 fe_0_31_1 fe_0_32_1 fe_0_39_1 fe_0_45_1 hE_0_17_1 hE_0_33_1 hE_0_34_1 hE_0_35_1 hE_0_40_1 hE_0_41_1 hE_0_43_1 hE_0_46_1 kz_0_31 kz_0_32 kz_0_39 kz_0_45
  have rf14 : tv_ok ta (0, 0, 79, []) (n_v vs 14) := tv_in t14 (by first | omega | grind) (by first | omega | grind)
  refine ⟨List.forall_mem_cons.mpr ⟨rf14, (fun _ h => (by cases h))⟩, [], trivial, ?_, (fun _ h => (by cases h))⟩
  rw [List.append_nil]
  exact (fun _ h => (by cases h))
set_option maxHeartbeats 4000000 in
theorem vc_Mo_drawWay_4_0 (x1 : Int) (x3 : Int) (x4 : Int) (x7 : Int) (x8 : Int) (x11 : Int) (x12 : Int) (x13 : Int) (x14 : Int) (x15 : Int) (x16 : Int) (pt_0 : Int → Int) (ph_0 : Int → Int) (alive_0 : Int → Int) (pm_0 : Int) (pn_0 : Int) (pt_1 : Int → Int) (ph_1 : Int → Int) (alive_1 : Int → Int) (pm_1 : Int) (way_1 : Int → Int) (pn_1 : Int) (way_2 : Int → Int) (wayMany_2 : Int) (pt_2 : Int → Int) (ph_2 : Int → Int) (pn_2 : Int) (pm_2 : Int) (alive_2 : Int → Int) (blockOf_2 : Int → Int) (drawnEdge_2 : Int → Int) (drawnNode_2 : Int → Int) (faceMany_2 : Int → Int) (face_2 : Int → Int) (faces_2 : Int) (faces_0 : Int) (faces_1 : Int) (wayMany_0 : Int) (wayMany_1 : Int) (blockOf_0 : Int → Int) (blockOf_1 : Int → Int) (faceMany_0 : Int → Int) (faceMany_1 : Int → Int) (face_0 : Int → Int) (face_1 : Int → Int) (drawnNode_0 : Int → Int) (drawnNode_1 : Int → Int) (drawnEdge_0 : Int → Int) (drawnEdge_1 : Int → Int) (way_0 : Int → Int) (k1 : 0 ≤ x1 ∧ x1 ≤ 79) (k3 : 1 ≤ x3 ∧ x3 ≤ 29) (k4 : 2 ≤ x4 ∧ x4 ≤ 30) (k7 : 0 ≤ x7 ∧ x7 ≤ 24) (k8 : 1 ≤ x8 ∧ x8 ≤ 1) (k11 : 0 ≤ x11 ∧ x11 ≤ 28) (k12 : 0 ≤ x12 ∧ x12 ≤ 24) (k13 : 0 ≤ x13 ∧ x13 ≤ 24) (k14 : 0 ≤ x14 ∧ x14 ≤ 79) (k15 : 1 ≤ x15 ∧ x15 ≤ 1) (k16 : 2 ≤ x16 ∧ x16 ≤ 30) (d0 : x3 + 1 ≤ x16 ∧ x16 ≤ x3 + 1) (d1 : x4 + (-4294967296) ≤ x16 ∧ x16 ≤ x4 + 0) (d2 : x3 + (-1) ≤ x11 ∧ x11 ≤ x3 + (-1)) (d3 : x4 + (-4294967296) ≤ x11 ∧ x11 ≤ x4 + (-2)) (f0 : x16 = x3 + 1) (f5 : EOF (pm_1) (pt_1) (ph_1) (alive_1) (x12) (x13) (x14)) (h6 : x13 = way_1 (x3)) (h8 : x12 = way_1 (x11)) (f11 : 0 < x3) (h14 : x7 = way_2 (x3)) (g17 : x4 = wayMany_2) (f18 : GOK (pn_2) (pm_2) (pt_2) (ph_2)) (f19 : DWI (pn_2) (pm_2) (faces_2) (wayMany_2) (pt_2) (ph_2) (alive_2) (blockOf_2) (drawnEdge_2) (drawnNode_2) (faceMany_2) (face_2) (way_2) (x1) (x3)) (fe_0_31_1 : pn_0 = pn_1) (fe_0_32_1 : pm_0 = pm_1) (fe_0_39_1 : faces_0 = faces_1) (fe_0_45_1 : wayMany_0 = wayMany_1) (fe_0_31_2 : pn_1 = pn_2) (fe_0_32_2 : pm_1 = pm_2) (fe_0_39_2 : faces_1 = faces_2) (fe_0_45_2 : wayMany_1 = wayMany_2) (hE_0_17_1 : ∀ j : Int, blockOf_0 j = blockOf_1 j) (hE_0_17_2 : ∀ j : Int, blockOf_1 j = blockOf_2 j) (hE_0_33_1 : ∀ j : Int, pt_0 j = pt_1 j) (hE_0_33_2 : ∀ j : Int, pt_1 j = pt_2 j) (hE_0_34_1 : ∀ j : Int, ph_0 j = ph_1 j) (hE_0_34_2 : ∀ j : Int, ph_1 j = ph_2 j) (hE_0_35_1 : ∀ j : Int, alive_0 j = alive_1 j) (hE_0_35_2 : ∀ j : Int, alive_1 j = alive_2 j) (hE_0_40_1 : ∀ j : Int, faceMany_0 j = faceMany_1 j) (hE_0_40_2 : ∀ j : Int, faceMany_1 j = faceMany_2 j) (hE_0_41_1 : ∀ j : Int, face_0 j = face_1 j) (hE_0_41_2 : ∀ j : Int, face_1 j = face_2 j) (hE_0_42_1 : ∀ j : Int, drawnNode_0 j = drawnNode_1 j) (hE_0_42_2 : ∀ j : Int, 0 ≤ j → (j = x7 → drawnNode_1 j = x8) ∧ (j ≠ x7 → drawnNode_1 j = drawnNode_2 j)) (hE_0_43_1 : ∀ j : Int, 0 ≤ j → (j = x14 → drawnEdge_0 j = x15) ∧ (j ≠ x14 → drawnEdge_0 j = drawnEdge_1 j)) (hE_0_43_2 : ∀ j : Int, drawnEdge_1 j = drawnEdge_2 j) (hE_0_46_1 : ∀ j : Int, way_0 j = way_1 j) (hE_0_46_2 : ∀ j : Int, way_1 j = way_2 j) (kz_0_31 : 0 ≤ pn_0 ∧ pn_0 ≤ 25) (kz_0_32 : 0 ≤ pm_0 ∧ pm_0 ≤ 80) (kz_0_39 : 0 ≤ faces_0 ∧ faces_0 ≤ 120) (kz_0_45 : 0 ≤ wayMany_0 ∧ wayMany_0 ≤ 30) : DWI (pn_0) (pm_0) (faces_0) (wayMany_0) (pt_0) (ph_0) (alive_0) (blockOf_0) (drawnEdge_0) (drawnNode_0) (faceMany_0) (face_0) (way_0) (x1) (x16) := by
  subst fe_0_31_1
  subst fe_0_32_1
  subst fe_0_39_1
  subst fe_0_45_1
  subst fe_0_31_2
  subst fe_0_32_2
  subst fe_0_39_2
  subst fe_0_45_2
  have e_hE_0_17_1 := funext hE_0_17_1; subst e_hE_0_17_1
  have e_hE_0_17_2 := funext hE_0_17_2; subst e_hE_0_17_2
  have e_hE_0_33_1 := funext hE_0_33_1; subst e_hE_0_33_1
  have e_hE_0_33_2 := funext hE_0_33_2; subst e_hE_0_33_2
  have e_hE_0_34_1 := funext hE_0_34_1; subst e_hE_0_34_1
  have e_hE_0_34_2 := funext hE_0_34_2; subst e_hE_0_34_2
  have e_hE_0_35_1 := funext hE_0_35_1; subst e_hE_0_35_1
  have e_hE_0_35_2 := funext hE_0_35_2; subst e_hE_0_35_2
  have e_hE_0_40_1 := funext hE_0_40_1; subst e_hE_0_40_1
  have e_hE_0_40_2 := funext hE_0_40_2; subst e_hE_0_40_2
  have e_hE_0_41_1 := funext hE_0_41_1; subst e_hE_0_41_1
  have e_hE_0_41_2 := funext hE_0_41_2; subst e_hE_0_41_2
  have e_hE_0_42_1 := funext hE_0_42_1; subst e_hE_0_42_1
  have e_hE_0_43_2 := funext hE_0_43_2; subst e_hE_0_43_2
  have e_hE_0_46_1 := funext hE_0_46_1; subst e_hE_0_46_1
  have e_hE_0_46_2 := funext hE_0_46_2; subst e_hE_0_46_2
  first
    | exact dwi_start ‹DWP _ _ _ _ _ _ _ _ _ _ _ _ _ _› (by omega)
    | (refine dwi_next (k := x3) ‹DWI _ _ _ _ _ _ _ _ _ _ _ _ _ _ _› (by omega) (by omega) (by omega) (fun u a => ?_) (fun e a b => ?_)
       · by_cases q : u = x7
         · have v := (hE_0_42_1 u a).1 q
           exact ⟨fun _ => Or.inr (by omega), fun _ => by omega⟩
         · rw [(hE_0_42_1 u a).2 q]
           exact ⟨Or.inl, fun z => z.elim id (fun w => by exfalso; omega)⟩
       · exact ⟨Or.inl, fun z => z.elim id (fun w => by exfalso; have := w.1; omega)⟩)
    | (have hj : JJ pm_0 pt_0 ph_0 alive_0 x14 (way_0 (x3 - 1)) (way_0 x3) := by
         rcases ‹EOF _ _ _ _ _ _ _› with ⟨z, _⟩ | z
         · exfalso; omega
         · rw [show x3 - 1 = x11 by omega, ← ‹x12 = way_0 x11›, ← ‹x13 = way_0 x3›]; exact z
       refine dwi_next (k := x3) ‹DWI _ _ _ _ _ _ _ _ _ _ _ _ _ _ _› (by omega) (by omega) (by omega) (fun u a => ?_) (fun e a b => ?_)
       · by_cases q : u = x7
         · have v := (hE_0_42_2 u a).1 q
           exact ⟨fun _ => Or.inr (by omega), fun _ => by omega⟩
         · rw [(hE_0_42_2 u a).2 q]
           exact ⟨Or.inl, fun z => z.elim id (fun w => by exfalso; omega)⟩
       · by_cases q : e = x14
         · have v := (hE_0_43_1 e a).1 q
           exact ⟨fun _ => Or.inr ⟨by omega, q ▸ hj⟩, fun _ => by omega⟩
         · rw [(hE_0_43_1 e a).2 q]
           exact ⟨Or.inl, fun z => z.elim id (fun w => absurd (JJ_one ‹GOK _ _ _ _› w.2 hj) q)⟩)
def o_Mo_drawWay_4 : or_T := (2, 17, [(0, (2, 0, 0, [165])), (1, (0, 0, 79, [])), (3, (0, 1, 29, [])), (4, (0, 2, 30, [])), (5, (2, 0, 0, [188])), (7, (0, 0, 24, [])), (8, (0, 1, 1, [])), (9, (2, 0, 0, [189])), (11, (0, 0, 28, [])), (12, (0, 0, 24, [])), (13, (0, 0, 24, [])), (14, (0, 0, 79, [])), (15, (0, 1, 1, [])), (16, (0, 2, 30, []))], [(6, [16, 3], [1]), (24, [0, 2], []), (100, [9, 14, 15], []), (20, [2, 12, 13, 14], [60, 1, 3, 85, 32, 33, 34, 35]), (10, [13, 6, 3], []), (9, [6, 2], [46]), (10, [12, 6, 11], []), (9, [9, 2], [43]), (8, [3], [4]), (100, [5, 7, 8], []), (10, [7, 6, 3], []), (9, [5, 2], [42]), (9, [4, 2], [45]), (20, [2], [60, 2, 2, 75, 31, 32, 33, 34]), (20, [2, 1, 3], [60, 4, 9, 153, 31, 32, 39, 45, 33, 34, 35, 17, 43, 42, 40, 41, 46])], [], [], [(20, [2, 1, 16], [60, 4, 9, 153, 31, 32, 39, 45, 33, 34, 35, 17, 43, 42, 40, 41, 46])], [], [(16, 3, 1, 1), (16, 4, -4294967296, 0), (11, 3, -1, -1), (11, 4, -4294967296, -2)])
theorem oo_Mo_drawWay_4 {kA : Nat → ClassId} : or_ok PRD kA GG o_Mo_drawWay_4 := by
  refine or_mk fun A ta ws vs hD hth hl => ?_
  intro t0 r0 t1 k1 t3 k3 t4 k4 t5 r5 t7 k7 t8 k8 t9 r9 t11 k11 t12 k12 t13 k13 t14 k14 t15 k15 t16 k16 d0 d1 d2 d3 f0 f3 ta1 w1 le1 s1 f5 f6 f7 f8 f10 f11 ta2 w2 le2 s2 f14 f15 f17 f18 f19
  replace f0 := shm_4 f0
  replace f3 := shm_5 f3
  have s1 : (∀ b j, w_el ws b j = if b = v_ad (n_v vs 9) ∧ j = (v_iv (n_v vs 14)).toNat then v_iv (n_v vs 15) else w_el w1 b j) ∧ ∀ b k, w_fd ws b k = w_fd w1 b k := s1.2
  replace f5 := shm_990 f5
  replace f6 := shm_107 f6
  replace f7 := shm_737 f7
  replace f8 := shm_107 f8
  replace f10 := shm_532 f10
  replace f11 := shm_308 f11
  have s2 : (∀ b j, w_el w1 b j = if b = v_ad (n_v vs 5) ∧ j = (v_iv (n_v vs 7)).toNat then v_iv (n_v vs 8) else w_el w2 b j) ∧ ∀ b k, w_fd w1 b k = w_fd w2 b k := s2.2
  replace f14 := shm_107 f14
  replace f15 := shm_531 f15
  replace f17 := shm_741 f17
  replace f18 := shm_575 f18
  replace f19 := shm_1126 f19
  have q2 : n_v vs 2 = n_v vs 0 := f3.symm
  simp only [q2] at f5 f7 f10 f15 f17 f18 f19
  have ar_0_17_1 : w_ar w1 (n_v vs 0) 17 = w_ar ws (n_v vs 0) 17 := congrArg v_ad (s1.2 _ _).symm
  have ar_0_17_2 : w_ar w2 (n_v vs 0) 17 = w_ar ws (n_v vs 0) 17 := by rw [← ar_0_17_1]; show v_ad (w_fd w2 _ _) = v_ad (w_fd w1 _ _); rw [s2.2]
  have cr_0_17 := fdq_189 hD hth r0
  have ar_0_33_1 : w_ar w1 (n_v vs 0) 33 = w_ar ws (n_v vs 0) 33 := congrArg v_ad (s1.2 _ _).symm
  have ar_0_33_2 : w_ar w2 (n_v vs 0) 33 = w_ar ws (n_v vs 0) 33 := by rw [← ar_0_33_1]; show v_ad (w_fd w2 _ _) = v_ad (w_fd w1 _ _); rw [s2.2]
  have cr_0_33 := fdq_117 hD hth r0
  have ar_0_34_1 : w_ar w1 (n_v vs 0) 34 = w_ar ws (n_v vs 0) 34 := congrArg v_ad (s1.2 _ _).symm
  have ar_0_34_2 : w_ar w2 (n_v vs 0) 34 = w_ar ws (n_v vs 0) 34 := by rw [← ar_0_34_1]; show v_ad (w_fd w2 _ _) = v_ad (w_fd w1 _ _); rw [s2.2]
  have cr_0_34 := fdq_118 hD hth r0
  have ar_0_35_1 : w_ar w1 (n_v vs 0) 35 = w_ar ws (n_v vs 0) 35 := congrArg v_ad (s1.2 _ _).symm
  have ar_0_35_2 : w_ar w2 (n_v vs 0) 35 = w_ar ws (n_v vs 0) 35 := by rw [← ar_0_35_1]; show v_ad (w_fd w2 _ _) = v_ad (w_fd w1 _ _); rw [s2.2]
  have cr_0_35 := fdq_132 hD hth r0
  have ar_0_40_1 : w_ar w1 (n_v vs 0) 40 = w_ar ws (n_v vs 0) 40 := congrArg v_ad (s1.2 _ _).symm
  have ar_0_40_2 : w_ar w2 (n_v vs 0) 40 = w_ar ws (n_v vs 0) 40 := by rw [← ar_0_40_1]; show v_ad (w_fd w2 _ _) = v_ad (w_fd w1 _ _); rw [s2.2]
  have cr_0_40 := fdq_133 hD hth r0
  have ar_0_41_1 : w_ar w1 (n_v vs 0) 41 = w_ar ws (n_v vs 0) 41 := congrArg v_ad (s1.2 _ _).symm
  have ar_0_41_2 : w_ar w2 (n_v vs 0) 41 = w_ar ws (n_v vs 0) 41 := by rw [← ar_0_41_1]; show v_ad (w_fd w2 _ _) = v_ad (w_fd w1 _ _); rw [s2.2]
  have cr_0_41 := fdq_134 hD hth r0
  have ar_0_42_1 : w_ar w1 (n_v vs 0) 42 = w_ar ws (n_v vs 0) 42 := congrArg v_ad (s1.2 _ _).symm
  have ar_0_42_2 : w_ar w2 (n_v vs 0) 42 = w_ar ws (n_v vs 0) 42 := by rw [← ar_0_42_1]; show v_ad (w_fd w2 _ _) = v_ad (w_fd w1 _ _); rw [s2.2]
  have cr_0_42 := fdq_136 hD hth r0
  have ar_0_43_1 : w_ar w1 (n_v vs 0) 43 = w_ar ws (n_v vs 0) 43 := congrArg v_ad (s1.2 _ _).symm
  have ar_0_43_2 : w_ar w2 (n_v vs 0) 43 = w_ar ws (n_v vs 0) 43 := by rw [← ar_0_43_1]; show v_ad (w_fd w2 _ _) = v_ad (w_fd w1 _ _); rw [s2.2]
  have cr_0_43 := fdq_137 hD hth r0
  have ar_0_46_1 : w_ar w1 (n_v vs 0) 46 = w_ar ws (n_v vs 0) 46 := congrArg v_ad (s1.2 _ _).symm
  have ar_0_46_2 : w_ar w2 (n_v vs 0) 46 = w_ar ws (n_v vs 0) 46 := by rw [← ar_0_46_1]; show v_ad (w_fd w2 _ _) = v_ad (w_fd w1 _ _); rw [s2.2]
  have cr_0_46 := fdq_190 hD hth r0
  have ad_6 : v_ad (n_v vs 6) = w_ar ws (n_v vs 0) 46 := (congrArg v_ad f7).trans ar_0_46_1
  have ad_9 : v_ad (n_v vs 9) = w_ar ws (n_v vs 0) 43 := (congrArg v_ad f10).trans ar_0_43_1
  have ad_5 : v_ad (n_v vs 5) = w_ar ws (n_v vs 0) 42 := (congrArg v_ad f15).trans ar_0_42_2
  simp only [ar_0_33_1, ar_0_34_1, ar_0_35_1, ad_6] at f5 f6
  have h6 : v_iv (n_v vs 13) = w_ei w1 (w_ar ws (n_v vs 0) 46) (v_iv (n_v vs 3)) := f6
  simp only [ad_6] at f8
  have h8 : v_iv (n_v vs 12) = w_ei w1 (w_ar ws (n_v vs 0) 46) (v_iv (n_v vs 11)) := f8
  simp only [ar_0_33_1, ar_0_34_1, ad_6] at f14
  have h14 : v_iv (n_v vs 7) = w_ei w2 (w_ar ws (n_v vs 0) 46) (v_iv (n_v vs 3)) := f14
  have g17 : v_iv (n_v vs 4) = w_fi w2 (n_v vs 0) 45 := congrArg v_iv f17
  simp only [ar_0_33_2, ar_0_34_2, ar_0_17_2, ar_0_35_2, ar_0_40_2, ar_0_41_2, ar_0_42_2, ar_0_43_2, ar_0_46_2] at f18 f19
  have fe_0_31_1 : w_fi ws (n_v vs 0) 31 = w_fi w1 (n_v vs 0) 31 := congrArg v_iv (s1.2 _ _)
  have fe_0_32_1 : w_fi ws (n_v vs 0) 32 = w_fi w1 (n_v vs 0) 32 := congrArg v_iv (s1.2 _ _)
  have fe_0_39_1 : w_fi ws (n_v vs 0) 39 = w_fi w1 (n_v vs 0) 39 := congrArg v_iv (s1.2 _ _)
  have fe_0_45_1 : w_fi ws (n_v vs 0) 45 = w_fi w1 (n_v vs 0) 45 := congrArg v_iv (s1.2 _ _)
  have fe_0_31_2 : w_fi w1 (n_v vs 0) 31 = w_fi w2 (n_v vs 0) 31 := congrArg v_iv (s2.2 _ _)
  have fe_0_32_2 : w_fi w1 (n_v vs 0) 32 = w_fi w2 (n_v vs 0) 32 := congrArg v_iv (s2.2 _ _)
  have fe_0_39_2 : w_fi w1 (n_v vs 0) 39 = w_fi w2 (n_v vs 0) 39 := congrArg v_iv (s2.2 _ _)
  have fe_0_45_2 : w_fi w1 (n_v vs 0) 45 = w_fi w2 (n_v vs 0) 45 := congrArg v_iv (s2.2 _ _)
  have hE_0_17_1 : ∀ j : Int, w_ei ws (w_ar ws (n_v vs 0) 17) j = w_ei w1 (w_ar ws (n_v vs 0) 17) j := el_kp s1.1 r9 cr_0_17 (by decide)
  have hE_0_17_2 : ∀ j : Int, w_ei w1 (w_ar ws (n_v vs 0) 17) j = w_ei w2 (w_ar ws (n_v vs 0) 17) j := el_kp s2.1 r5 cr_0_17 (by decide)
  have hE_0_33_1 : ∀ j : Int, w_ei ws (w_ar ws (n_v vs 0) 33) j = w_ei w1 (w_ar ws (n_v vs 0) 33) j := el_kp s1.1 r9 cr_0_33 (by decide)
  have hE_0_33_2 : ∀ j : Int, w_ei w1 (w_ar ws (n_v vs 0) 33) j = w_ei w2 (w_ar ws (n_v vs 0) 33) j := el_kp s2.1 r5 cr_0_33 (by decide)
  have hE_0_34_1 : ∀ j : Int, w_ei ws (w_ar ws (n_v vs 0) 34) j = w_ei w1 (w_ar ws (n_v vs 0) 34) j := el_kp s1.1 r9 cr_0_34 (by decide)
  have hE_0_34_2 : ∀ j : Int, w_ei w1 (w_ar ws (n_v vs 0) 34) j = w_ei w2 (w_ar ws (n_v vs 0) 34) j := el_kp s2.1 r5 cr_0_34 (by decide)
  have hE_0_35_1 : ∀ j : Int, w_ei ws (w_ar ws (n_v vs 0) 35) j = w_ei w1 (w_ar ws (n_v vs 0) 35) j := el_kp s1.1 r9 cr_0_35 (by decide)
  have hE_0_35_2 : ∀ j : Int, w_ei w1 (w_ar ws (n_v vs 0) 35) j = w_ei w2 (w_ar ws (n_v vs 0) 35) j := el_kp s2.1 r5 cr_0_35 (by decide)
  have hE_0_40_1 : ∀ j : Int, w_ei ws (w_ar ws (n_v vs 0) 40) j = w_ei w1 (w_ar ws (n_v vs 0) 40) j := el_kp s1.1 r9 cr_0_40 (by decide)
  have hE_0_40_2 : ∀ j : Int, w_ei w1 (w_ar ws (n_v vs 0) 40) j = w_ei w2 (w_ar ws (n_v vs 0) 40) j := el_kp s2.1 r5 cr_0_40 (by decide)
  have hE_0_41_1 : ∀ j : Int, w_ei ws (w_ar ws (n_v vs 0) 41) j = w_ei w1 (w_ar ws (n_v vs 0) 41) j := el_kp s1.1 r9 cr_0_41 (by decide)
  have hE_0_41_2 : ∀ j : Int, w_ei w1 (w_ar ws (n_v vs 0) 41) j = w_ei w2 (w_ar ws (n_v vs 0) 41) j := el_kp s2.1 r5 cr_0_41 (by decide)
  have hE_0_42_1 : ∀ j : Int, w_ei ws (w_ar ws (n_v vs 0) 42) j = w_ei w1 (w_ar ws (n_v vs 0) 42) j := el_kp s1.1 r9 cr_0_42 (by decide)
  have hE_0_42_2 : ∀ j : Int, 0 ≤ j → (j = v_iv (n_v vs 7) → w_ei w1 (w_ar ws (n_v vs 0) 42) j = v_iv (n_v vs 8)) ∧ (j ≠ v_iv (n_v vs 7) → w_ei w1 (w_ar ws (n_v vs 0) 42) j = w_ei w2 (w_ar ws (n_v vs 0) 42) j) := fun j hj => ⟨fun h => by unfold w_ei; rw [s2.1, if_pos ⟨ad_5.symm, by rw [h]⟩], fun h => by unfold w_ei; rw [s2.1, if_neg (fun e => h (by have := e.2; omega))]⟩
  have hE_0_43_1 : ∀ j : Int, 0 ≤ j → (j = v_iv (n_v vs 14) → w_ei ws (w_ar ws (n_v vs 0) 43) j = v_iv (n_v vs 15)) ∧ (j ≠ v_iv (n_v vs 14) → w_ei ws (w_ar ws (n_v vs 0) 43) j = w_ei w1 (w_ar ws (n_v vs 0) 43) j) := fun j hj => ⟨fun h => by unfold w_ei; rw [s1.1, if_pos ⟨ad_9.symm, by rw [h]⟩], fun h => by unfold w_ei; rw [s1.1, if_neg (fun e => h (by have := e.2; omega))]⟩
  have hE_0_43_2 : ∀ j : Int, w_ei w1 (w_ar ws (n_v vs 0) 43) j = w_ei w2 (w_ar ws (n_v vs 0) 43) j := el_kp s2.1 r5 cr_0_43 (by decide)
  have hE_0_46_1 : ∀ j : Int, w_ei ws (w_ar ws (n_v vs 0) 46) j = w_ei w1 (w_ar ws (n_v vs 0) 46) j := el_kp s1.1 r9 cr_0_46 (by decide)
  have hE_0_46_2 : ∀ j : Int, w_ei w1 (w_ar ws (n_v vs 0) 46) j = w_ei w2 (w_ar ws (n_v vs 0) 46) j := el_kp s2.1 r5 cr_0_46 (by decide)
  have kz_0_31 := fdq_145 hD hth r0
  have kz_0_32 := fdq_140 hD hth r0
  have kz_0_39 := fdq_135 hD hth r0
  have kz_0_45 := fdq_191 hD hth r0
  have nf0 : fc_1 PRD (20, [2, 1, 16], [60, 4, 9, 153, 31, 32, 39, 45, 33, 34, 35, 17, 43, 42, 40, 41, 46]) ws (vs) := by
    refine ⟨nf_in hl rfl, sgq_1126 ?_⟩
    · show DWI (w_fi ws (n_v vs 2) 31) (w_fi ws (n_v vs 2) 32) (w_fi ws (n_v vs 2) 39) (w_fi ws (n_v vs 2) 45) (w_ei ws (w_ar ws (n_v vs 2) 33)) (w_ei ws (w_ar ws (n_v vs 2) 34)) (w_ei ws (w_ar ws (n_v vs 2) 35)) (w_ei ws (w_ar ws (n_v vs 2) 17)) (w_ei ws (w_ar ws (n_v vs 2) 43)) (w_ei ws (w_ar ws (n_v vs 2) 42)) (w_ei ws (w_ar ws (n_v vs 2) 40)) (w_ei ws (w_ar ws (n_v vs 2) 41)) (w_ei ws (w_ar ws (n_v vs 2) 46)) (v_iv (n_v vs 1)) (v_iv (n_v vs 16))
      rw [q2]
      exact vc_Mo_drawWay_4_0 (v_iv (n_v vs 1)) (v_iv (n_v vs 3)) (v_iv (n_v vs 4)) (v_iv (n_v vs 7)) (v_iv (n_v vs 8)) (v_iv (n_v vs 11)) (v_iv (n_v vs 12)) (v_iv (n_v vs 13)) (v_iv (n_v vs 14)) (v_iv (n_v vs 15)) (v_iv (n_v vs 16)) (w_ei ws (w_ar ws (n_v vs 0) 33)) (w_ei ws (w_ar ws (n_v vs 0) 34)) (w_ei ws (w_ar ws (n_v vs 0) 35)) (w_fi ws (n_v vs 0) 32) (w_fi ws (n_v vs 0) 31) (w_ei w1 (w_ar ws (n_v vs 0) 33)) (w_ei w1 (w_ar ws (n_v vs 0) 34)) (w_ei w1 (w_ar ws (n_v vs 0) 35)) (w_fi w1 (n_v vs 0) 32) (w_ei w1 (w_ar ws (n_v vs 0) 46)) (w_fi w1 (n_v vs 0) 31) (w_ei w2 (w_ar ws (n_v vs 0) 46)) (w_fi w2 (n_v vs 0) 45) (w_ei w2 (w_ar ws (n_v vs 0) 33)) (w_ei w2 (w_ar ws (n_v vs 0) 34)) (w_fi w2 (n_v vs 0) 31) (w_fi w2 (n_v vs 0) 32) (w_ei w2 (w_ar ws (n_v vs 0) 35)) (w_ei w2 (w_ar ws (n_v vs 0) 17)) (w_ei w2 (w_ar ws (n_v vs 0) 43)) (w_ei w2 (w_ar ws (n_v vs 0) 42)) (w_ei w2 (w_ar ws (n_v vs 0) 40)) (w_ei w2 (w_ar ws (n_v vs 0) 41)) (w_fi w2 (n_v vs 0) 39) (w_fi ws (n_v vs 0) 39) (w_fi w1 (n_v vs 0) 39) (w_fi ws (n_v vs 0) 45) (w_fi w1 (n_v vs 0) 45) (w_ei ws (w_ar ws (n_v vs 0) 17)) (w_ei w1 (w_ar ws (n_v vs 0) 17)) (w_ei ws (w_ar ws (n_v vs 0) 40)) (w_ei w1 (w_ar ws (n_v vs 0) 40)) (w_ei ws (w_ar ws (n_v vs 0) 41)) (w_ei w1 (w_ar ws (n_v vs 0) 41)) (w_ei ws (w_ar ws (n_v vs 0) 42)) (w_ei w1 (w_ar ws (n_v vs 0) 42)) (w_ei ws (w_ar ws (n_v vs 0) 43)) (w_ei w1 (w_ar ws (n_v vs 0) 43)) (w_ei ws (w_ar ws (n_v vs 0) 46)) k1 k3 k4 k7 k8 k11 k12 k13 k14 k15 k16 d0 d1 d2 d3 f0 f5 h6 h8 f11 h14 g17 f18 f19 fe_0_31_1 fe_0_32_1 fe_0_39_1 fe_0_45_1 fe_0_31_2 fe_0_32_2 fe_0_39_2 fe_0_45_2 hE_0_17_1 hE_0_17_2 hE_0_33_1 hE_0_33_2 hE_0_34_1 hE_0_34_2 hE_0_35_1 hE_0_35_2 hE_0_40_1 hE_0_40_2 hE_0_41_1 hE_0_41_2 hE_0_42_1 hE_0_42_2 hE_0_43_1 hE_0_43_2 hE_0_46_1 hE_0_46_2 kz_0_31 kz_0_32 kz_0_39 kz_0_45
  refine ⟨(fun _ h => (by cases h)), [], trivial, ?_, (fun _ h => (by cases h))⟩
  rw [List.append_nil]
  exact List.forall_mem_cons.mpr ⟨⟨show (20 : Nat) < 100 from by decide, nf0⟩, (fun _ h => (by cases h))⟩
def n_Mo_drawWay_an : List an_T := [(2, [(0, (2, 0, 0, [165])), (1, (0, 0, 30, []))], [], (0, 0), [(0, 0, 99998), (1, 3, 30), (0, 0, 100000)], [], [], [(2, 0, 0, [165]), (0, 0, 79, [])], 0, [], [(20, [2], [60, 2, 2, 75, 31, 32, 33, 34]), (20, [2, 1, 3], [60, 4, 9, 153, 31, 32, 39, 45, 33, 34, 35, 17, 43, 42, 40, 41, 46]), (24, [0, 2], [])])]
def t_Mo_drawWay_ct : ct_L := [(1, 646, e_Mo_edgeOf)]
set_option maxRecDepth 100000 in
theorem c_Mo_drawWay {l : Launch} {D : va_G} {kA : Nat → ClassId} (h_Mo_edgeOf : ct_ok PRD l D kA GG y_Mo_edgeOf z_Mo_edgeOf e_Mo_edgeOf) : ct_ok PRD l D kA GG y_Mo_drawWay z_Mo_drawWay e_Mo_drawWay := chk_all_ok (FT := [(81, 13, 42), (84, 13, 43), (90, 13, 46), (619, 13, 45)]) (PT := []) (CT := t_Mo_drawWay_ct) (KT := []) (NT := []) (AN := n_Mo_drawWay_an) (OT := [o_Mo_drawWay_0, o_Mo_drawWay_1, o_Mo_drawWay_2, o_Mo_drawWay_3, o_Mo_drawWay_4]) 3 200 (List.forall_mem_cons.mpr ⟨oo_Mo_drawWay_0, List.forall_mem_cons.mpr ⟨oo_Mo_drawWay_1, List.forall_mem_cons.mpr ⟨oo_Mo_drawWay_2, List.forall_mem_cons.mpr ⟨oo_Mo_drawWay_3, List.forall_mem_cons.mpr ⟨oo_Mo_drawWay_4, List.forall_mem_nil _⟩⟩⟩⟩⟩) (by decide +kernel) ⟨List.forall_mem_cons.mpr ⟨gf_Mo_81, List.forall_mem_cons.mpr ⟨gf_Mo_84, List.forall_mem_cons.mpr ⟨gf_Mo_90, List.forall_mem_cons.mpr ⟨gf_Mo_619, List.forall_mem_nil _⟩⟩⟩⟩, List.forall_mem_nil _, List.forall_mem_cons.mpr ⟨cl_virtual (y := y_Mo_edgeOf) (ci := 13) rfl rfl ⟨_, _, rfl⟩ (by decide +kernel) h_Mo_edgeOf wm_3195 wm_9 wm_3192 wm_3194 wv_15_7 ⟨by decide, by decide, by decide +kernel⟩ (by decide), List.forall_mem_nil _⟩, List.forall_mem_nil _, List.forall_mem_nil _, GG_pl⟩ (by decide +kernel)
set_option maxHeartbeats 4000000 in
theorem vc_Mo_from_0_0 (x1 : Int) (x3 : Int) (x4 : Int) (all_0 : Int → Int) (r_0 : Int) (turned_0 : Int → Int) (k1 : 0 ≤ x1 ∧ x1 ≤ 47) (k3 : 0 ≤ x3 ∧ x3 ≤ 0) (k4 : 0 ≤ x4 ∧ x4 ≤ 23) (f0 : x4 = all_0 (((r_0 + 267) + x1))) (h2 : x3 = turned_0 (x1)) : FRO (r_0) (all_0) (turned_0) (x1) (x4) := by
  unfold FRO frT
  first
    | (rw [if_pos (by omega)]; omega)
    | (rw [if_neg (by omega)]; omega)
def o_Mo_from_0 : or_T := (22, 5, [(0, (2, 0, 0, [165])), (1, (0, 0, 47, [])), (2, (2, 0, 0, [231])), (3, (0, 0, 0, [])), (4, (0, 0, 23, []))], [(20, [4, 0, 1], [50, 1, 1, 1005, 1002, 1, 2, 1, 0, 3, 1, 2, 4, 7, 4, 3, 2, 1, 5, 0, 267, 1, 2]), (8, [3], [0]), (10, [3, 2, 1], []), (9, [2, 0], [95])], [], [], [(20, [0, 1, 4], [60, 1, 2, 432, 5, 2, 95])], [], [])
theorem oo_Mo_from_0 {kA : Nat → ClassId} : or_ok PRD kA GG o_Mo_from_0 := by
  refine or_mk fun A ta ws vs hD hth hl => ?_
  intro t0 r0 t1 k1 t2 r2 t3 k3 t4 k4 f0 f1 f2 f3
  replace f2 := shm_107 f2
  replace f3 := shm_1128 f3
  have ad_2 : v_ad (n_v vs 2) = w_ar ws (n_v vs 0) 95 := congrArg v_ad f3
  simp only [ad_2] at f2
  have h2 : v_iv (n_v vs 3) = w_ei ws (w_ar ws (n_v vs 0) 95) (v_iv (n_v vs 1)) := f2
  have nf0 : fc_1 PRD (20, [0, 1, 4], [60, 1, 2, 432, 5, 2, 95]) ws (vs) := ⟨nf_in hl rfl, sgq_508 (vc_Mo_from_0_0 (v_iv (n_v vs 1)) (v_iv (n_v vs 3)) (v_iv (n_v vs 4)) (w_ei ws (w_ar ws (n_v vs 0) 2)) (w_fi ws (n_v vs 0) 5) (w_ei ws (w_ar ws (n_v vs 0) 95)) k1 k3 k4 (shm_749 f0) h2)⟩
  refine ⟨(fun _ h => (by cases h)), [], trivial, ?_, (fun _ h => (by cases h))⟩
  rw [List.append_nil]
  exact List.forall_mem_cons.mpr ⟨⟨show (20 : Nat) < 100 from by decide, nf0⟩, (fun _ h => (by cases h))⟩
set_option maxHeartbeats 4000000 in
theorem vc_Mo_from_1_0 (x1 : Int) (x3 : Int) (x4 : Int) (all_0 : Int → Int) (r_0 : Int) (turned_0 : Int → Int) (k1 : 0 ≤ x1 ∧ x1 ≤ 47) (k3 : 1 ≤ x3 ∧ x3 ≤ 1) (k4 : 0 ≤ x4 ∧ x4 ≤ 23) (f0 : x4 = all_0 (((r_0 + 315) + x1))) (h2 : x3 = turned_0 (x1)) : FRO (r_0) (all_0) (turned_0) (x1) (x4) := by
  unfold FRO frT
  first
    | (rw [if_pos (by omega)]; omega)
    | (rw [if_neg (by omega)]; omega)
def o_Mo_from_1 : or_T := (22, 5, [(0, (2, 0, 0, [165])), (1, (0, 0, 47, [])), (2, (2, 0, 0, [231])), (3, (0, 1, 1, [])), (4, (0, 0, 23, []))], [(20, [4, 0, 1], [50, 1, 1, 1005, 1002, 1, 2, 1, 0, 3, 1, 2, 4, 7, 4, 3, 2, 1, 5, 0, 315, 1, 2]), (8, [3], [1]), (10, [3, 2, 1], []), (9, [2, 0], [95])], [], [], [(20, [0, 1, 4], [60, 1, 2, 432, 5, 2, 95])], [], [])
theorem oo_Mo_from_1 {kA : Nat → ClassId} : or_ok PRD kA GG o_Mo_from_1 := by
  refine or_mk fun A ta ws vs hD hth hl => ?_
  intro t0 r0 t1 k1 t2 r2 t3 k3 t4 k4 f0 f1 f2 f3
  replace f2 := shm_107 f2
  replace f3 := shm_1128 f3
  have ad_2 : v_ad (n_v vs 2) = w_ar ws (n_v vs 0) 95 := congrArg v_ad f3
  simp only [ad_2] at f2
  have h2 : v_iv (n_v vs 3) = w_ei ws (w_ar ws (n_v vs 0) 95) (v_iv (n_v vs 1)) := f2
  have nf0 : fc_1 PRD (20, [0, 1, 4], [60, 1, 2, 432, 5, 2, 95]) ws (vs) := ⟨nf_in hl rfl, sgq_508 (vc_Mo_from_1_0 (v_iv (n_v vs 1)) (v_iv (n_v vs 3)) (v_iv (n_v vs 4)) (w_ei ws (w_ar ws (n_v vs 0) 2)) (w_fi ws (n_v vs 0) 5) (w_ei ws (w_ar ws (n_v vs 0) 95)) k1 k3 k4 (shm_603 f0) h2)⟩
  refine ⟨(fun _ h => (by cases h)), [], trivial, ?_, (fun _ h => (by cases h))⟩
  rw [List.append_nil]
  exact List.forall_mem_cons.mpr ⟨⟨show (20 : Nat) < 100 from by decide, nf0⟩, (fun _ h => (by cases h))⟩
def n_Mo_from_an : List an_T := []
def t_Mo_from_ct : ct_L := [(1, 394, e_Mo_tail), (1, 398, e_Mo_head)]
set_option maxRecDepth 100000 in
theorem c_Mo_from {l : Launch} {D : va_G} {kA : Nat → ClassId} (h_Mo_head : ct_ok PRD l D kA GG y_Mo_head z_Mo_head e_Mo_head) (h_Mo_tail : ct_ok PRD l D kA GG y_Mo_tail z_Mo_tail e_Mo_tail) : ct_ok PRD l D kA GG y_Mo_from z_Mo_from e_Mo_from := chk_all_ok (FT := [(210, 13, 95)]) (PT := []) (CT := t_Mo_from_ct) (KT := []) (NT := []) (AN := n_Mo_from_an) (OT := [o_Mo_from_0, o_Mo_from_1]) 0 200 (List.forall_mem_cons.mpr ⟨oo_Mo_from_0, List.forall_mem_cons.mpr ⟨oo_Mo_from_1, List.forall_mem_nil _⟩⟩) (by decide +kernel) ⟨List.forall_mem_cons.mpr ⟨gf_Mo_210, List.forall_mem_nil _⟩, List.forall_mem_nil _, List.forall_mem_cons.mpr ⟨cl_virtual (y := y_Mo_tail) (ci := 13) rfl rfl ⟨_, _, rfl⟩ (by decide +kernel) h_Mo_tail wm_3045 wm_9 wm_3042 wm_3044 wv_13_8 ⟨by decide, by decide, by decide +kernel⟩ (by decide), List.forall_mem_cons.mpr ⟨cl_virtual (y := y_Mo_head) (ci := 13) rfl rfl ⟨_, _, rfl⟩ (by decide +kernel) h_Mo_head wm_3049 wm_9 wm_3046 wm_3048 wv_13_9 ⟨by decide, by decide, by decide +kernel⟩ (by decide), List.forall_mem_nil _⟩⟩, List.forall_mem_nil _, List.forall_mem_nil _, GG_pl⟩ (by decide +kernel)

set_option maxHeartbeats 4000000 in
theorem vc_Mo_goRound_0_0 (x3 : Int) (pt_0 : Int → Int) (ph_0 : Int → Int) (pn_0 : Int) (pm_0 : Int) (alive_0 : Int → Int) (rotMany_0 : Int → Int) (rot_0 : Int → Int) (pt_1 : Int → Int) (ph_1 : Int → Int) (pn_1 : Int) (pm_1 : Int) (alive_1 : Int → Int) (rotMany_1 : Int → Int) (rot_1 : Int → Int) (roundOf_0 : Int → Int) (roundOf_1 : Int → Int) (k3 : 0 ≤ x3 ∧ x3 ≤ 0) (fe_0_31_1 : pn_0 = pn_1) (fe_0_32_1 : pm_0 = pm_1) (hE_0_33_1 : ∀ j : Int, pt_0 j = pt_1 j) (hE_0_34_1 : ∀ j : Int, ph_0 j = ph_1 j) (hE_0_35_1 : ∀ j : Int, alive_0 j = alive_1 j) (hE_0_36_1 : ∀ j : Int, rotMany_0 j = rotMany_1 j) (hE_0_37_1 : ∀ j : Int, rot_0 j = rot_1 j) (hE_0_54_1 : ∀ j : Int, roundOf_0 j = roundOf_1 j) (kz_0_31 : 0 ≤ pn_0 ∧ pn_0 ≤ 25) (kz_0_32 : 0 ≤ pm_0 ∧ pm_0 ≤ 80) : RO0 (roundOf_0) (x3) := by
  subst fe_0_31_1
  subst fe_0_32_1
  have e_hE_0_33_1 := funext hE_0_33_1; subst e_hE_0_33_1
  have e_hE_0_34_1 := funext hE_0_34_1; subst e_hE_0_34_1
  have e_hE_0_35_1 := funext hE_0_35_1; subst e_hE_0_35_1
  have e_hE_0_36_1 := funext hE_0_36_1; subst e_hE_0_36_1
  have e_hE_0_37_1 := funext hE_0_37_1; subst e_hE_0_37_1
  have e_hE_0_54_1 := funext hE_0_54_1; subst e_hE_0_54_1
  first
    | (intro j a b; exfalso; omega)
    | (have h := ‹RO0 _ _›
       intro j a b
       by_cases q : j = x3
       · have v := (hE_0_54_1 j a).1 q; omega
       · rw [(hE_0_54_1 j a).2 q]; exact h j a (by omega))
set_option maxHeartbeats 4000000 in
theorem vc_Mo_goRound_0_1 (x1 : Int) (pt_0 : Int → Int) (ph_0 : Int → Int) (pn_0 : Int) (pm_0 : Int) (alive_0 : Int → Int) (rotMany_0 : Int → Int) (rot_0 : Int → Int) (pt_1 : Int → Int) (ph_1 : Int → Int) (pn_1 : Int) (pm_1 : Int) (alive_1 : Int → Int) (rotMany_1 : Int → Int) (rot_1 : Int → Int) (rounds_0 : Int) (roundOf_0 : Int → Int) (roundOf_1 : Int → Int) (k1 : 0 ≤ x1 ∧ x1 ≤ 0) (fe_0_31_1 : pn_0 = pn_1) (fe_0_32_1 : pm_0 = pm_1) (fe_0_53_1 : rounds_0 = x1) (hE_0_33_1 : ∀ j : Int, pt_0 j = pt_1 j) (hE_0_34_1 : ∀ j : Int, ph_0 j = ph_1 j) (hE_0_35_1 : ∀ j : Int, alive_0 j = alive_1 j) (hE_0_36_1 : ∀ j : Int, rotMany_0 j = rotMany_1 j) (hE_0_37_1 : ∀ j : Int, rot_0 j = rot_1 j) (hE_0_54_1 : ∀ j : Int, roundOf_0 j = roundOf_1 j) (kz_0_31 : 0 ≤ pn_0 ∧ pn_0 ≤ 25) (kz_0_32 : 0 ≤ pm_0 ∧ pm_0 ≤ 80) (kz_0_53 : 0 ≤ rounds_0 ∧ rounds_0 ≤ 160) : rounds_0 = 0 := by
  subst fe_0_31_1
  subst fe_0_32_1
  have e_hE_0_33_1 := funext hE_0_33_1; subst e_hE_0_33_1
  have e_hE_0_34_1 := funext hE_0_34_1; subst e_hE_0_34_1
  have e_hE_0_35_1 := funext hE_0_35_1; subst e_hE_0_35_1
  have e_hE_0_36_1 := funext hE_0_36_1; subst e_hE_0_36_1
  have e_hE_0_37_1 := funext hE_0_37_1; subst e_hE_0_37_1
  have e_hE_0_54_1 := funext hE_0_54_1; subst e_hE_0_54_1
  first | omega
set_option maxHeartbeats 4000000 in
theorem vc_Mo_goRound_0_2 (x2 : Int) (pt_0 : Int → Int) (ph_0 : Int → Int) (pn_0 : Int) (pm_0 : Int) (alive_0 : Int → Int) (rotMany_0 : Int → Int) (rot_0 : Int → Int) (pt_1 : Int → Int) (ph_1 : Int → Int) (pn_1 : Int) (pm_1 : Int) (alive_1 : Int → Int) (rotMany_1 : Int → Int) (rot_1 : Int → Int) (roundOf_0 : Int → Int) (roundOf_1 : Int → Int) (k2 : 0 ≤ x2 ∧ x2 ≤ 0) (fe_0_31_1 : pn_0 = pn_1) (fe_0_32_1 : pm_0 = pm_1) (hE_0_33_1 : ∀ j : Int, pt_0 j = pt_1 j) (hE_0_34_1 : ∀ j : Int, ph_0 j = ph_1 j) (hE_0_35_1 : ∀ j : Int, alive_0 j = alive_1 j) (hE_0_36_1 : ∀ j : Int, rotMany_0 j = rotMany_1 j) (hE_0_37_1 : ∀ j : Int, rot_0 j = rot_1 j) (hE_0_54_1 : ∀ j : Int, roundOf_0 j = roundOf_1 j) (kz_0_31 : 0 ≤ pn_0 ∧ pn_0 ≤ 25) (kz_0_32 : 0 ≤ pm_0 ∧ pm_0 ≤ 80) : x2 = 0 := by
  subst fe_0_31_1
  subst fe_0_32_1
  have e_hE_0_33_1 := funext hE_0_33_1; subst e_hE_0_33_1
  have e_hE_0_34_1 := funext hE_0_34_1; subst e_hE_0_34_1
  have e_hE_0_35_1 := funext hE_0_35_1; subst e_hE_0_35_1
  have e_hE_0_36_1 := funext hE_0_36_1; subst e_hE_0_36_1
  have e_hE_0_37_1 := funext hE_0_37_1; subst e_hE_0_37_1
  have e_hE_0_54_1 := funext hE_0_54_1; subst e_hE_0_54_1
  first | omega
def o_Mo_goRound_0 : or_T := (9, 4, [(0, (2, 0, 0, [165])), (1, (0, 0, 0, [])), (2, (0, 0, 0, [])), (3, (0, 0, 0, []))], [(101, [0, 1], [53])], [], [], [(20, [0, 3], [60, 0, 1, 191, 54]), (20, [0], [50, 1, 0, 53, 1, 3, 2, 0, 53, 0, 0]), (20, [2], [50, 0, 0, 1, 2, 1, 0, 0, 0]), (24, [0, 0], [])], [], [])
theorem oo_Mo_goRound_0 {kA : Nat → ClassId} : or_ok PRD kA GG o_Mo_goRound_0 := by
  refine or_mk fun A ta ws vs hD hth hl => ?_
  intro t0 r0 t1 k1 t2 k2 t3 k3 ta1 w1 le1 s1
  have s1 : (∀ b j, w_el ws b j = w_el w1 b j) ∧ ∀ b j, w_fd ws b j = if b = v_ad (n_v vs 0) ∧ j = 53 then n_v vs 1 else w_fd w1 b j := s1.2
  have fe_0_31_1 : w_fi ws (n_v vs 0) 31 = w_fi w1 (n_v vs 0) 31 := by show v_iv (w_fd _ _ _) = v_iv (w_fd _ _ _); rw [s1.2, if_neg (fun e => absurd e.2 (by decide))]
  have fe_0_32_1 : w_fi ws (n_v vs 0) 32 = w_fi w1 (n_v vs 0) 32 := by show v_iv (w_fd _ _ _) = v_iv (w_fd _ _ _); rw [s1.2, if_neg (fun e => absurd e.2 (by decide))]
  have fe_0_53_1 : w_fi ws (n_v vs 0) 53 = v_iv (n_v vs 1) := by show v_iv (w_fd _ _ _) = _; rw [s1.2, if_pos ⟨rfl, rfl⟩]
  have hE_0_33_1 : ∀ j : Int, w_ei ws (w_ar ws (n_v vs 0) 33) j = w_ei w1 (w_ar ws (n_v vs 0) 33) j := fun j => s1.1 _ _
  have hE_0_34_1 : ∀ j : Int, w_ei ws (w_ar ws (n_v vs 0) 34) j = w_ei w1 (w_ar ws (n_v vs 0) 34) j := fun j => s1.1 _ _
  have hE_0_35_1 : ∀ j : Int, w_ei ws (w_ar ws (n_v vs 0) 35) j = w_ei w1 (w_ar ws (n_v vs 0) 35) j := fun j => s1.1 _ _
  have hE_0_36_1 : ∀ j : Int, w_ei ws (w_ar ws (n_v vs 0) 36) j = w_ei w1 (w_ar ws (n_v vs 0) 36) j := fun j => s1.1 _ _
  have hE_0_37_1 : ∀ j : Int, w_ei ws (w_ar ws (n_v vs 0) 37) j = w_ei w1 (w_ar ws (n_v vs 0) 37) j := fun j => s1.1 _ _
  have hE_0_54_1 : ∀ j : Int, w_ei ws (w_ar ws (n_v vs 0) 54) j = w_ei w1 (w_ar ws (n_v vs 0) 54) j := fun j => s1.1 _ _
  have kz_0_31 := fdq_145 hD hth r0
  have kz_0_32 := fdq_140 hD hth r0
  have kz_0_53 := fdq_275 hD hth r0
  have nf0 : fc_1 PRD (20, [0, 3], [60, 0, 1, 191, 54]) ws (vs) := ⟨nf_in hl rfl, sgq_1129 (vc_Mo_goRound_0_0 (v_iv (n_v vs 3)) (w_ei ws (w_ar ws (n_v vs 0) 33)) (w_ei ws (w_ar ws (n_v vs 0) 34)) (w_fi ws (n_v vs 0) 31) (w_fi ws (n_v vs 0) 32) (w_ei ws (w_ar ws (n_v vs 0) 35)) (w_ei ws (w_ar ws (n_v vs 0) 36)) (w_ei ws (w_ar ws (n_v vs 0) 37)) (w_ei w1 (w_ar ws (n_v vs 0) 33)) (w_ei w1 (w_ar ws (n_v vs 0) 34)) (w_fi w1 (n_v vs 0) 31) (w_fi w1 (n_v vs 0) 32) (w_ei w1 (w_ar ws (n_v vs 0) 35)) (w_ei w1 (w_ar ws (n_v vs 0) 36)) (w_ei w1 (w_ar ws (n_v vs 0) 37)) (w_ei ws (w_ar ws (n_v vs 0) 54)) (w_ei w1 (w_ar ws (n_v vs 0) 54)) k3 fe_0_31_1 fe_0_32_1 hE_0_33_1 hE_0_34_1 hE_0_35_1 hE_0_36_1 hE_0_37_1 hE_0_54_1 kz_0_31 kz_0_32)⟩
  have nf1 : fc_1 PRD (20, [0], [50, 1, 0, 53, 1, 3, 2, 0, 53, 0, 0]) ws (vs) := ⟨nf_in hl rfl, sgq_1130 (vc_Mo_goRound_0_1 (v_iv (n_v vs 1)) (w_ei ws (w_ar ws (n_v vs 0) 33)) (w_ei ws (w_ar ws (n_v vs 0) 34)) (w_fi ws (n_v vs 0) 31) (w_fi ws (n_v vs 0) 32) (w_ei ws (w_ar ws (n_v vs 0) 35)) (w_ei ws (w_ar ws (n_v vs 0) 36)) (w_ei ws (w_ar ws (n_v vs 0) 37)) (w_ei w1 (w_ar ws (n_v vs 0) 33)) (w_ei w1 (w_ar ws (n_v vs 0) 34)) (w_fi w1 (n_v vs 0) 31) (w_fi w1 (n_v vs 0) 32) (w_ei w1 (w_ar ws (n_v vs 0) 35)) (w_ei w1 (w_ar ws (n_v vs 0) 36)) (w_ei w1 (w_ar ws (n_v vs 0) 37)) (w_fi ws (n_v vs 0) 53) (w_ei ws (w_ar ws (n_v vs 0) 54)) (w_ei w1 (w_ar ws (n_v vs 0) 54)) k1 fe_0_31_1 fe_0_32_1 fe_0_53_1 hE_0_33_1 hE_0_34_1 hE_0_35_1 hE_0_36_1 hE_0_37_1 hE_0_54_1 kz_0_31 kz_0_32 kz_0_53)⟩
  have nf2 : fc_1 PRD (20, [2], [50, 0, 0, 1, 2, 1, 0, 0, 0]) ws (vs) := ⟨nf_in hl rfl, sgq_649 (vc_Mo_goRound_0_2 (v_iv (n_v vs 2)) (w_ei ws (w_ar ws (n_v vs 0) 33)) (w_ei ws (w_ar ws (n_v vs 0) 34)) (w_fi ws (n_v vs 0) 31) (w_fi ws (n_v vs 0) 32) (w_ei ws (w_ar ws (n_v vs 0) 35)) (w_ei ws (w_ar ws (n_v vs 0) 36)) (w_ei ws (w_ar ws (n_v vs 0) 37)) (w_ei w1 (w_ar ws (n_v vs 0) 33)) (w_ei w1 (w_ar ws (n_v vs 0) 34)) (w_fi w1 (n_v vs 0) 31) (w_fi w1 (n_v vs 0) 32) (w_ei w1 (w_ar ws (n_v vs 0) 35)) (w_ei w1 (w_ar ws (n_v vs 0) 36)) (w_ei w1 (w_ar ws (n_v vs 0) 37)) (w_ei ws (w_ar ws (n_v vs 0) 54)) (w_ei w1 (w_ar ws (n_v vs 0) 54)) k2 fe_0_31_1 fe_0_32_1 hE_0_33_1 hE_0_34_1 hE_0_35_1 hE_0_36_1 hE_0_37_1 hE_0_54_1 kz_0_31 kz_0_32)⟩
  have nf3 : fc_1 PRD (24, [0, 0], []) ws (vs) := by
    refine ⟨nf_in hl rfl, sgq_1 ?_⟩
    · show n_v vs 0 = n_v vs 0
      first | rfl | simp only [true_and]
  refine ⟨(fun _ h => (by cases h)), [], trivial, ?_, (fun _ h => (by cases h))⟩
  rw [List.append_nil]
  exact List.forall_mem_cons.mpr ⟨⟨show (20 : Nat) < 100 from by decide, nf0⟩, List.forall_mem_cons.mpr ⟨⟨show (20 : Nat) < 100 from by decide, nf1⟩, List.forall_mem_cons.mpr ⟨⟨show (20 : Nat) < 100 from by decide, nf2⟩, List.forall_mem_cons.mpr ⟨⟨show (24 : Nat) < 100 from by decide, nf3⟩, (fun _ h => (by cases h))⟩⟩⟩⟩
set_option maxHeartbeats 4000000 in
theorem vc_Mo_goRound_1_0 (x2 : Int) (x3 : Int) (x5 : Int) (x6 : Int) (x7 : Int) (pm_0 : Int) (pt_0 : Int → Int) (ph_0 : Int → Int) (alive_0 : Int → Int) (rotMany_0 : Int → Int) (rot_0 : Int → Int) (roundOf_0 : Int → Int) (rounds_0 : Int) (roundBegin_0 : Int → Int) (roundDart_0 : Int → Int) (k2 : 0 ≤ x2 ∧ x2 ≤ 0) (k3 : 0 ≤ x3 ∧ x3 ≤ 160) (k5 : 0 ≤ x5 ∧ x5 ≤ 80) (k6 : 0 ≤ x6 ∧ x6 ≤ 160) (k7 : 0 ≤ x7 ∧ x7 ≤ 0) (d0 : x6 + 0 ≤ x3 ∧ x3 ≤ x6 + 4294967296) (f1 : x6 = 2 * x5) (g2 : x5 = pm_0) (f5 : RO0 (roundOf_0) (x3)) (f6 : rounds_0 = 0) (f7 : x2 = 0) (kz_0_32 : 0 ≤ pm_0 ∧ pm_0 ≤ 80) (kz_0_53 : 0 ≤ rounds_0 ∧ rounds_0 ≤ 160) : GOI (pm_0) (rounds_0) (pt_0) (ph_0) (alive_0) (rotMany_0) (rot_0) (roundOf_0) (roundBegin_0) (roundDart_0) (x2) (x7) := by
  first
    | exact goi_start ‹RO0 _ _› (by omega) (by omega) (by omega) (by omega)
    | exact goi_skip ‹GOI _ _ _ _ _ _ _ _ _ _ _ _› (by omega) (Or.inl (by rw [← (by omega : x10 = x3 / 2)]; omega))
    | exact goi_skip ‹GOI _ _ _ _ _ _ _ _ _ _ _ _› (by omega) (Or.inr (by omega))
    | exact git_end ‹GIT _ _ _ _ _ _ _ _ _ _ _ _ _› (by omega) (by omega) (by omega)
def o_Mo_goRound_1 : or_T := (34, 8, [(0, (2, 0, 0, [165])), (2, (0, 0, 0, [])), (3, (0, 0, 160, [])), (4, (0, 2, 2, [])), (5, (0, 0, 80, [])), (6, (0, 0, 160, [])), (7, (0, 0, 0, []))], [(3, [6, 4, 5], []), (9, [5, 1], [32]), (20, [1, 3], [60, 0, 1, 191, 54]), (20, [1], [50, 1, 0, 53, 1, 3, 2, 0, 53, 0, 0]), (20, [2], [50, 0, 0, 1, 2, 1, 0, 0, 0]), (24, [0, 1], [])], [], [], [(20, [1, 2, 7], [60, 2, 8, 192, 32, 53, 33, 34, 35, 36, 37, 54, 56, 57])], [], [(3, 6, 0, 4294967296)])
theorem oo_Mo_goRound_1 {kA : Nat → ClassId} : or_ok PRD kA GG o_Mo_goRound_1 := by
  refine or_mk fun A ta ws vs hD hth hl => ?_
  intro t0 r0 t2 k2 t3 k3 t4 k4 t5 k5 t6 k6 t7 k7 d0 f1 f2 f5 f6 f7 f8
  replace f1 := shm_38 f1
  rw [show v_iv (n_v vs 4) = 2 from by omega] at f1
  replace f2 := shm_525 f2
  replace f5 := shm_1129 f5
  replace f6 := shm_1130 f6
  replace f7 := shm_649 f7
  replace f8 := shm_5 f8
  have q1 : n_v vs 1 = n_v vs 0 := f8.symm
  simp only [q1] at f2 f5 f6
  have g2 : v_iv (n_v vs 5) = w_fi ws (n_v vs 0) 32 := congrArg v_iv f2
  have kz_0_32 := fdq_140 hD hth r0
  have kz_0_53 := fdq_275 hD hth r0
  have nf0 : fc_1 PRD (20, [1, 2, 7], [60, 2, 8, 192, 32, 53, 33, 34, 35, 36, 37, 54, 56, 57]) ws (vs) := by
    refine ⟨nf_in hl rfl, sgq_1131 ?_⟩
    · show GOI (w_fi ws (n_v vs 1) 32) (w_fi ws (n_v vs 1) 53) (w_ei ws (w_ar ws (n_v vs 1) 33)) (w_ei ws (w_ar ws (n_v vs 1) 34)) (w_ei ws (w_ar ws (n_v vs 1) 35)) (w_ei ws (w_ar ws (n_v vs 1) 36)) (w_ei ws (w_ar ws (n_v vs 1) 37)) (w_ei ws (w_ar ws (n_v vs 1) 54)) (w_ei ws (w_ar ws (n_v vs 1) 56)) (w_ei ws (w_ar ws (n_v vs 1) 57)) (v_iv (n_v vs 2)) (v_iv (n_v vs 7))
      rw [q1]
      exact vc_Mo_goRound_1_0 (v_iv (n_v vs 2)) (v_iv (n_v vs 3)) (v_iv (n_v vs 5)) (v_iv (n_v vs 6)) (v_iv (n_v vs 7)) (w_fi ws (n_v vs 0) 32) (w_ei ws (w_ar ws (n_v vs 0) 33)) (w_ei ws (w_ar ws (n_v vs 0) 34)) (w_ei ws (w_ar ws (n_v vs 0) 35)) (w_ei ws (w_ar ws (n_v vs 0) 36)) (w_ei ws (w_ar ws (n_v vs 0) 37)) (w_ei ws (w_ar ws (n_v vs 0) 54)) (w_fi ws (n_v vs 0) 53) (w_ei ws (w_ar ws (n_v vs 0) 56)) (w_ei ws (w_ar ws (n_v vs 0) 57)) k2 k3 k5 k6 k7 d0 f1 g2 f5 f6 f7 kz_0_32 kz_0_53
  refine ⟨(fun _ h => (by cases h)), [], trivial, ?_, (fun _ h => (by cases h))⟩
  rw [List.append_nil]
  exact List.forall_mem_cons.mpr ⟨⟨show (20 : Nat) < 100 from by decide, nf0⟩, (fun _ h => (by cases h))⟩
set_option maxHeartbeats 4000000 in
theorem vc_Mo_goRound_2_0 (x3 : Int) (x8 : Int) (x9 : Int) (pt_0 : Int → Int) (ph_0 : Int → Int) (pn_0 : Int) (pm_0 : Int) (alive_0 : Int → Int) (rotMany_0 : Int → Int) (rot_0 : Int → Int) (rounds_0 : Int) (pm_1 : Int) (pt_1 : Int → Int) (ph_1 : Int → Int) (pn_1 : Int) (alive_1 : Int → Int) (rotMany_1 : Int → Int) (rot_1 : Int → Int) (roundOf_1 : Int → Int) (rounds_1 : Int) (roundOf_0 : Int → Int) (k3 : 0 ≤ x3 ∧ x3 ≤ 159) (k8 : (-1) ≤ x8 ∧ x8 ≤ (-1)) (k9 : 1 ≤ x9 ∧ x9 ≤ 160) (d0 : x3 + 1 ≤ x9 ∧ x9 ≤ x3 + 1) (f13 : RO0 (roundOf_1) (x3)) (fe_0_31_1 : pn_0 = pn_1) (fe_0_32_1 : pm_0 = pm_1) (fe_0_53_1 : rounds_0 = rounds_1) (hE_0_33_1 : ∀ j : Int, pt_0 j = pt_1 j) (hE_0_34_1 : ∀ j : Int, ph_0 j = ph_1 j) (hE_0_35_1 : ∀ j : Int, alive_0 j = alive_1 j) (hE_0_36_1 : ∀ j : Int, rotMany_0 j = rotMany_1 j) (hE_0_37_1 : ∀ j : Int, rot_0 j = rot_1 j) (hE_0_54_1 : ∀ j : Int, 0 ≤ j → (j = x3 → roundOf_0 j = x8) ∧ (j ≠ x3 → roundOf_0 j = roundOf_1 j)) (kz_0_31 : 0 ≤ pn_0 ∧ pn_0 ≤ 25) (kz_0_32 : 0 ≤ pm_0 ∧ pm_0 ≤ 80) (kz_0_53 : 0 ≤ rounds_0 ∧ rounds_0 ≤ 160) : RO0 (roundOf_0) (x9) := by
  subst fe_0_31_1
  subst fe_0_32_1
  subst fe_0_53_1
  have e_hE_0_33_1 := funext hE_0_33_1; subst e_hE_0_33_1
  have e_hE_0_34_1 := funext hE_0_34_1; subst e_hE_0_34_1
  have e_hE_0_35_1 := funext hE_0_35_1; subst e_hE_0_35_1
  have e_hE_0_36_1 := funext hE_0_36_1; subst e_hE_0_36_1
  have e_hE_0_37_1 := funext hE_0_37_1; subst e_hE_0_37_1
  first
    | (intro j a b; exfalso; omega)
    | (have h := ‹RO0 _ _›
       intro j a b
       by_cases q : j = x3
       · have v := (hE_0_54_1 j a).1 q; omega
       · rw [(hE_0_54_1 j a).2 q]; exact h j a (by omega))
def o_Mo_goRound_2 : or_T := (9, 10, [(0, (2, 0, 0, [165])), (3, (0, 0, 159, [])), (7, (2, 0, 0, [196])), (8, (0, -1, -1, [])), (9, (0, 1, 160, []))], [(24, [0, 1], []), (100, [7, 3, 8], []), (9, [7, 1], [54]), (20, [1, 3], [60, 0, 1, 191, 54])], [], [], [(20, [1, 9], [60, 0, 1, 191, 54])], [], [(9, 3, 1, 1), (3, 6, -4294967296, -1)])
theorem oo_Mo_goRound_2 {kA : Nat → ClassId} : or_ok PRD kA GG o_Mo_goRound_2 := by
  refine or_mk fun A ta ws vs hD hth hl => ?_
  intro t0 r0 t3 k3 t7 r7 t8 k8 t9 k9 d0 d2 f5 ta1 w1 le1 s1 f7 f13
  replace f5 := shm_5 f5
  have s1 : (∀ b j, w_el ws b j = if b = v_ad (n_v vs 7) ∧ j = (v_iv (n_v vs 3)).toNat then v_iv (n_v vs 8) else w_el w1 b j) ∧ ∀ b k, w_fd ws b k = w_fd w1 b k := s1.2
  replace f7 := shm_1122 f7
  replace f13 := shm_1129 f13
  have q1 : n_v vs 1 = n_v vs 0 := f5.symm
  simp only [q1] at f7 f13
  have ar_0_33_1 : w_ar w1 (n_v vs 0) 33 = w_ar ws (n_v vs 0) 33 := congrArg v_ad (s1.2 _ _).symm
  have cr_0_33 := fdq_117 hD hth r0
  have ar_0_34_1 : w_ar w1 (n_v vs 0) 34 = w_ar ws (n_v vs 0) 34 := congrArg v_ad (s1.2 _ _).symm
  have cr_0_34 := fdq_118 hD hth r0
  have ar_0_35_1 : w_ar w1 (n_v vs 0) 35 = w_ar ws (n_v vs 0) 35 := congrArg v_ad (s1.2 _ _).symm
  have cr_0_35 := fdq_132 hD hth r0
  have ar_0_36_1 : w_ar w1 (n_v vs 0) 36 = w_ar ws (n_v vs 0) 36 := congrArg v_ad (s1.2 _ _).symm
  have cr_0_36 := fdq_167 hD hth r0
  have ar_0_37_1 : w_ar w1 (n_v vs 0) 37 = w_ar ws (n_v vs 0) 37 := congrArg v_ad (s1.2 _ _).symm
  have cr_0_37 := fdq_168 hD hth r0
  have ar_0_54_1 : w_ar w1 (n_v vs 0) 54 = w_ar ws (n_v vs 0) 54 := congrArg v_ad (s1.2 _ _).symm
  have ad_7 : v_ad (n_v vs 7) = w_ar ws (n_v vs 0) 54 := (congrArg v_ad f7).trans ar_0_54_1
  simp only [ar_0_33_1, ar_0_34_1, ar_0_35_1, ar_0_36_1, ar_0_37_1, ar_0_54_1] at f13
  have fe_0_31_1 : w_fi ws (n_v vs 0) 31 = w_fi w1 (n_v vs 0) 31 := congrArg v_iv (s1.2 _ _)
  have fe_0_32_1 : w_fi ws (n_v vs 0) 32 = w_fi w1 (n_v vs 0) 32 := congrArg v_iv (s1.2 _ _)
  have fe_0_53_1 : w_fi ws (n_v vs 0) 53 = w_fi w1 (n_v vs 0) 53 := congrArg v_iv (s1.2 _ _)
  have hE_0_33_1 : ∀ j : Int, w_ei ws (w_ar ws (n_v vs 0) 33) j = w_ei w1 (w_ar ws (n_v vs 0) 33) j := el_kp s1.1 r7 cr_0_33 (by decide)
  have hE_0_34_1 : ∀ j : Int, w_ei ws (w_ar ws (n_v vs 0) 34) j = w_ei w1 (w_ar ws (n_v vs 0) 34) j := el_kp s1.1 r7 cr_0_34 (by decide)
  have hE_0_35_1 : ∀ j : Int, w_ei ws (w_ar ws (n_v vs 0) 35) j = w_ei w1 (w_ar ws (n_v vs 0) 35) j := el_kp s1.1 r7 cr_0_35 (by decide)
  have hE_0_36_1 : ∀ j : Int, w_ei ws (w_ar ws (n_v vs 0) 36) j = w_ei w1 (w_ar ws (n_v vs 0) 36) j := el_kp s1.1 r7 cr_0_36 (by decide)
  have hE_0_37_1 : ∀ j : Int, w_ei ws (w_ar ws (n_v vs 0) 37) j = w_ei w1 (w_ar ws (n_v vs 0) 37) j := el_kp s1.1 r7 cr_0_37 (by decide)
  have hE_0_54_1 : ∀ j : Int, 0 ≤ j → (j = v_iv (n_v vs 3) → w_ei ws (w_ar ws (n_v vs 0) 54) j = v_iv (n_v vs 8)) ∧ (j ≠ v_iv (n_v vs 3) → w_ei ws (w_ar ws (n_v vs 0) 54) j = w_ei w1 (w_ar ws (n_v vs 0) 54) j) := fun j hj => ⟨fun h => by unfold w_ei; rw [s1.1, if_pos ⟨ad_7.symm, by rw [h]⟩], fun h => by unfold w_ei; rw [s1.1, if_neg (fun e => h (by have := e.2; omega))]⟩
  have kz_0_31 := fdq_145 hD hth r0
  have kz_0_32 := fdq_140 hD hth r0
  have kz_0_53 := fdq_275 hD hth r0
  have nf0 : fc_1 PRD (20, [1, 9], [60, 0, 1, 191, 54]) ws (vs) := by
    refine ⟨nf_in hl rfl, sgq_1129 ?_⟩
    · show RO0 (w_ei ws (w_ar ws (n_v vs 1) 54)) (v_iv (n_v vs 9))
      rw [q1]
      exact vc_Mo_goRound_2_0 (v_iv (n_v vs 3)) (v_iv (n_v vs 8)) (v_iv (n_v vs 9)) (w_ei ws (w_ar ws (n_v vs 0) 33)) (w_ei ws (w_ar ws (n_v vs 0) 34)) (w_fi ws (n_v vs 0) 31) (w_fi ws (n_v vs 0) 32) (w_ei ws (w_ar ws (n_v vs 0) 35)) (w_ei ws (w_ar ws (n_v vs 0) 36)) (w_ei ws (w_ar ws (n_v vs 0) 37)) (w_fi ws (n_v vs 0) 53) (w_fi w1 (n_v vs 0) 32) (w_ei w1 (w_ar ws (n_v vs 0) 33)) (w_ei w1 (w_ar ws (n_v vs 0) 34)) (w_fi w1 (n_v vs 0) 31) (w_ei w1 (w_ar ws (n_v vs 0) 35)) (w_ei w1 (w_ar ws (n_v vs 0) 36)) (w_ei w1 (w_ar ws (n_v vs 0) 37)) (w_ei w1 (w_ar ws (n_v vs 0) 54)) (w_fi w1 (n_v vs 0) 53) (w_ei ws (w_ar ws (n_v vs 0) 54)) k3 k8 k9 d0 f13 fe_0_31_1 fe_0_32_1 fe_0_53_1 hE_0_33_1 hE_0_34_1 hE_0_35_1 hE_0_36_1 hE_0_37_1 hE_0_54_1 kz_0_31 kz_0_32 kz_0_53
  refine ⟨(fun _ h => (by cases h)), [], trivial, ?_, (fun _ h => (by cases h))⟩
  rw [List.append_nil]
  exact List.forall_mem_cons.mpr ⟨⟨show (20 : Nat) < 100 from by decide, nf0⟩, (fun _ h => (by cases h))⟩
set_option maxHeartbeats 4000000 in
theorem vc_Mo_goRound_3_0 (x2 : Int) (x3 : Int) (x4 : Int) (x6 : Int) (x7 : Int) (pt_0 : Int → Int) (ph_0 : Int → Int) (pn_0 : Int) (pm_0 : Int) (alive_0 : Int → Int) (rotMany_0 : Int → Int) (rot_0 : Int → Int) (rounds_1 : Int) (pm_1 : Int) (pt_1 : Int → Int) (ph_1 : Int → Int) (pn_1 : Int) (alive_1 : Int → Int) (rotMany_1 : Int → Int) (rot_1 : Int → Int) (roundOf_1 : Int → Int) (roundBegin_1 : Int → Int) (roundDart_1 : Int → Int) (rounds_0 : Int) (roundOf_0 : Int → Int) (roundBegin_0 : Int → Int) (roundDart_0 : Int → Int) (k2 : 0 ≤ x2 ∧ x2 ≤ 160) (k3 : 0 ≤ x3 ∧ x3 ≤ 160) (k4 : 0 ≤ x4 ∧ x4 ≤ 160) (k6 : 0 ≤ x6 ∧ x6 ≤ 80) (k7 : 0 ≤ x7 ∧ x7 ≤ 160) (d0 : x7 + 0 ≤ x3 ∧ x3 ≤ x7 + 4294967296) (g4 : x4 = rounds_1) (f7 : x7 = 2 * x6) (g8 : x6 = pm_1) (f11 : GOI (pm_1) (rounds_1) (pt_1) (ph_1) (alive_1) (rotMany_1) (rot_1) (roundOf_1) (roundBegin_1) (roundDart_1) (x2) (x3)) (fe_0_31_1 : pn_0 = pn_1) (fe_0_32_1 : pm_0 = pm_1) (fe_0_53_1 : rounds_0 = rounds_1) (hE_0_33_1 : ∀ j : Int, pt_0 j = pt_1 j) (hE_0_34_1 : ∀ j : Int, ph_0 j = ph_1 j) (hE_0_35_1 : ∀ j : Int, alive_0 j = alive_1 j) (hE_0_36_1 : ∀ j : Int, rotMany_0 j = rotMany_1 j) (hE_0_37_1 : ∀ j : Int, rot_0 j = rot_1 j) (hE_0_54_1 : ∀ j : Int, roundOf_0 j = roundOf_1 j) (hE_0_56_1 : ∀ j : Int, 0 ≤ j → (j = x4 → roundBegin_0 j = x2) ∧ (j ≠ x4 → roundBegin_0 j = roundBegin_1 j)) (hE_0_57_1 : ∀ j : Int, roundDart_0 j = roundDart_1 j) (kz_0_31 : 0 ≤ pn_0 ∧ pn_0 ≤ 25) (kz_0_32 : 0 ≤ pm_0 ∧ pm_0 ≤ 80) (kz_0_53 : 0 ≤ rounds_0 ∧ rounds_0 ≤ 160) : GRD (pm_0) (rounds_0) (pt_0) (ph_0) (alive_0) (rotMany_0) (rot_0) (roundOf_0) (roundBegin_0) (roundDart_0) := by
  subst fe_0_31_1
  subst fe_0_32_1
  subst fe_0_53_1
  have e_hE_0_33_1 := funext hE_0_33_1; subst e_hE_0_33_1
  have e_hE_0_34_1 := funext hE_0_34_1; subst e_hE_0_34_1
  have e_hE_0_35_1 := funext hE_0_35_1; subst e_hE_0_35_1
  have e_hE_0_36_1 := funext hE_0_36_1; subst e_hE_0_36_1
  have e_hE_0_37_1 := funext hE_0_37_1; subst e_hE_0_37_1
  have e_hE_0_54_1 := funext hE_0_54_1; subst e_hE_0_54_1
  have e_hE_0_57_1 := funext hE_0_57_1; subst e_hE_0_57_1
  exact goi_end ‹GOI _ _ _ _ _ _ _ _ _ _ _ _› (by omega) hE_0_56_1 (by omega) rfl
def o_Mo_goRound_3 : or_T := (136, 9, [(0, (2, 0, 0, [165])), (2, (0, 0, 160, [])), (3, (0, 0, 160, [])), (4, (0, 0, 160, [])), (5, (0, 2, 2, [])), (6, (0, 0, 80, [])), (7, (0, 0, 160, [])), (8, (2, 0, 0, [198]))], [(24, [0, 1], []), (100, [8, 4, 2], []), (9, [4, 1], [53]), (9, [8, 1], [56]), (3, [7, 5, 6], []), (9, [6, 1], [32]), (20, [1, 2, 3], [60, 2, 8, 192, 32, 53, 33, 34, 35, 36, 37, 54, 56, 57])], [], [], [(20, [0], [60, 2, 8, 193, 32, 53, 33, 34, 35, 36, 37, 54, 56, 57])], [], [(3, 7, 0, 4294967296)])
theorem oo_Mo_goRound_3 {kA : Nat → ClassId} : or_ok PRD kA GG o_Mo_goRound_3 := by
  refine or_mk fun A ta ws vs hD hth hl => ?_
  intro t0 r0 t2 k2 t3 k3 t4 k4 t5 k5 t6 k6 t7 k7 t8 r8 d0 f2 ta1 w1 le1 s1 f4 f5 f7 f8 f11
  replace f2 := shm_5 f2
  have s1 : (∀ b j, w_el ws b j = if b = v_ad (n_v vs 8) ∧ j = (v_iv (n_v vs 4)).toNat then v_iv (n_v vs 2) else w_el w1 b j) ∧ ∀ b k, w_fd ws b k = w_fd w1 b k := s1.2
  replace f4 := shm_1132 f4
  replace f5 := shm_1133 f5
  replace f7 := shm_38 f7
  rw [show v_iv (n_v vs 5) = 2 from by omega] at f7
  replace f8 := shm_525 f8
  replace f11 := shm_1131 f11
  have q1 : n_v vs 1 = n_v vs 0 := f2.symm
  simp only [q1] at f4 f5 f8 f11
  have ar_0_33_1 : w_ar w1 (n_v vs 0) 33 = w_ar ws (n_v vs 0) 33 := congrArg v_ad (s1.2 _ _).symm
  have cr_0_33 := fdq_117 hD hth r0
  have ar_0_34_1 : w_ar w1 (n_v vs 0) 34 = w_ar ws (n_v vs 0) 34 := congrArg v_ad (s1.2 _ _).symm
  have cr_0_34 := fdq_118 hD hth r0
  have ar_0_35_1 : w_ar w1 (n_v vs 0) 35 = w_ar ws (n_v vs 0) 35 := congrArg v_ad (s1.2 _ _).symm
  have cr_0_35 := fdq_132 hD hth r0
  have ar_0_36_1 : w_ar w1 (n_v vs 0) 36 = w_ar ws (n_v vs 0) 36 := congrArg v_ad (s1.2 _ _).symm
  have cr_0_36 := fdq_167 hD hth r0
  have ar_0_37_1 : w_ar w1 (n_v vs 0) 37 = w_ar ws (n_v vs 0) 37 := congrArg v_ad (s1.2 _ _).symm
  have cr_0_37 := fdq_168 hD hth r0
  have ar_0_54_1 : w_ar w1 (n_v vs 0) 54 = w_ar ws (n_v vs 0) 54 := congrArg v_ad (s1.2 _ _).symm
  have cr_0_54 := fdq_272 hD hth r0
  have ar_0_56_1 : w_ar w1 (n_v vs 0) 56 = w_ar ws (n_v vs 0) 56 := congrArg v_ad (s1.2 _ _).symm
  have ar_0_57_1 : w_ar w1 (n_v vs 0) 57 = w_ar ws (n_v vs 0) 57 := congrArg v_ad (s1.2 _ _).symm
  have cr_0_57 := fdq_274 hD hth r0
  have ad_8 : v_ad (n_v vs 8) = w_ar ws (n_v vs 0) 56 := (congrArg v_ad f5).trans ar_0_56_1
  have g4 : v_iv (n_v vs 4) = w_fi w1 (n_v vs 0) 53 := congrArg v_iv f4
  have g8 : v_iv (n_v vs 6) = w_fi w1 (n_v vs 0) 32 := congrArg v_iv f8
  simp only [ar_0_33_1, ar_0_34_1, ar_0_35_1, ar_0_36_1, ar_0_37_1, ar_0_54_1, ar_0_56_1, ar_0_57_1] at f11
  have fe_0_31_1 : w_fi ws (n_v vs 0) 31 = w_fi w1 (n_v vs 0) 31 := congrArg v_iv (s1.2 _ _)
  have fe_0_32_1 : w_fi ws (n_v vs 0) 32 = w_fi w1 (n_v vs 0) 32 := congrArg v_iv (s1.2 _ _)
  have fe_0_53_1 : w_fi ws (n_v vs 0) 53 = w_fi w1 (n_v vs 0) 53 := congrArg v_iv (s1.2 _ _)
  have hE_0_33_1 : ∀ j : Int, w_ei ws (w_ar ws (n_v vs 0) 33) j = w_ei w1 (w_ar ws (n_v vs 0) 33) j := el_kp s1.1 r8 cr_0_33 (by decide)
  have hE_0_34_1 : ∀ j : Int, w_ei ws (w_ar ws (n_v vs 0) 34) j = w_ei w1 (w_ar ws (n_v vs 0) 34) j := el_kp s1.1 r8 cr_0_34 (by decide)
  have hE_0_35_1 : ∀ j : Int, w_ei ws (w_ar ws (n_v vs 0) 35) j = w_ei w1 (w_ar ws (n_v vs 0) 35) j := el_kp s1.1 r8 cr_0_35 (by decide)
  have hE_0_36_1 : ∀ j : Int, w_ei ws (w_ar ws (n_v vs 0) 36) j = w_ei w1 (w_ar ws (n_v vs 0) 36) j := el_kp s1.1 r8 cr_0_36 (by decide)
  have hE_0_37_1 : ∀ j : Int, w_ei ws (w_ar ws (n_v vs 0) 37) j = w_ei w1 (w_ar ws (n_v vs 0) 37) j := el_kp s1.1 r8 cr_0_37 (by decide)
  have hE_0_54_1 : ∀ j : Int, w_ei ws (w_ar ws (n_v vs 0) 54) j = w_ei w1 (w_ar ws (n_v vs 0) 54) j := el_kp s1.1 r8 cr_0_54 (by decide)
  have hE_0_56_1 : ∀ j : Int, 0 ≤ j → (j = v_iv (n_v vs 4) → w_ei ws (w_ar ws (n_v vs 0) 56) j = v_iv (n_v vs 2)) ∧ (j ≠ v_iv (n_v vs 4) → w_ei ws (w_ar ws (n_v vs 0) 56) j = w_ei w1 (w_ar ws (n_v vs 0) 56) j) := fun j hj => ⟨fun h => by unfold w_ei; rw [s1.1, if_pos ⟨ad_8.symm, by rw [h]⟩], fun h => by unfold w_ei; rw [s1.1, if_neg (fun e => h (by have := e.2; omega))]⟩
  have hE_0_57_1 : ∀ j : Int, w_ei ws (w_ar ws (n_v vs 0) 57) j = w_ei w1 (w_ar ws (n_v vs 0) 57) j := el_kp s1.1 r8 cr_0_57 (by decide)
  have kz_0_31 := fdq_145 hD hth r0
  have kz_0_32 := fdq_140 hD hth r0
  have kz_0_53 := fdq_275 hD hth r0
  have nf0 : fc_1 PRD (20, [0], [60, 2, 8, 193, 32, 53, 33, 34, 35, 36, 37, 54, 56, 57]) ws (vs) := ⟨nf_in hl rfl, sgq_1134 (vc_Mo_goRound_3_0 (v_iv (n_v vs 2)) (v_iv (n_v vs 3)) (v_iv (n_v vs 4)) (v_iv (n_v vs 6)) (v_iv (n_v vs 7)) (w_ei ws (w_ar ws (n_v vs 0) 33)) (w_ei ws (w_ar ws (n_v vs 0) 34)) (w_fi ws (n_v vs 0) 31) (w_fi ws (n_v vs 0) 32) (w_ei ws (w_ar ws (n_v vs 0) 35)) (w_ei ws (w_ar ws (n_v vs 0) 36)) (w_ei ws (w_ar ws (n_v vs 0) 37)) (w_fi w1 (n_v vs 0) 53) (w_fi w1 (n_v vs 0) 32) (w_ei w1 (w_ar ws (n_v vs 0) 33)) (w_ei w1 (w_ar ws (n_v vs 0) 34)) (w_fi w1 (n_v vs 0) 31) (w_ei w1 (w_ar ws (n_v vs 0) 35)) (w_ei w1 (w_ar ws (n_v vs 0) 36)) (w_ei w1 (w_ar ws (n_v vs 0) 37)) (w_ei w1 (w_ar ws (n_v vs 0) 54)) (w_ei w1 (w_ar ws (n_v vs 0) 56)) (w_ei w1 (w_ar ws (n_v vs 0) 57)) (w_fi ws (n_v vs 0) 53) (w_ei ws (w_ar ws (n_v vs 0) 54)) (w_ei ws (w_ar ws (n_v vs 0) 56)) (w_ei ws (w_ar ws (n_v vs 0) 57)) k2 k3 k4 k6 k7 d0 g4 f7 g8 f11 fe_0_31_1 fe_0_32_1 fe_0_53_1 hE_0_33_1 hE_0_34_1 hE_0_35_1 hE_0_36_1 hE_0_37_1 hE_0_54_1 hE_0_56_1 hE_0_57_1 kz_0_31 kz_0_32 kz_0_53)⟩
  refine ⟨(fun _ h => (by cases h)), [], trivial, ?_, (fun _ h => (by cases h))⟩
  rw [List.append_nil]
  exact List.forall_mem_cons.mpr ⟨⟨show (20 : Nat) < 100 from by decide, nf0⟩, (fun _ h => (by cases h))⟩
set_option maxHeartbeats 4000000 in
theorem vc_Mo_goRound_4_0 (x2 : Int) (x3 : Int) (x10 : Int) (x11 : Int) (x12 : Int) (alive_0 : Int → Int) (pm_0 : Int) (pt_0 : Int → Int) (ph_0 : Int → Int) (rotMany_0 : Int → Int) (rot_0 : Int → Int) (roundOf_0 : Int → Int) (roundBegin_0 : Int → Int) (roundDart_0 : Int → Int) (rounds_0 : Int) (k2 : 0 ≤ x2 ∧ x2 ≤ 160) (k3 : 0 ≤ x3 ∧ x3 ≤ 159) (k10 : 0 ≤ x10 ∧ x10 ≤ 79) (k11 : 0 ≤ x11 ∧ x11 ≤ 0) (k12 : 1 ≤ x12 ∧ x12 ≤ 160) (f0 : x12 = x3 + 1) (h2 : x11 = alive_0 (x10)) (f3 : x10 = x3 / 2) (f11 : GOI (pm_0) (rounds_0) (pt_0) (ph_0) (alive_0) (rotMany_0) (rot_0) (roundOf_0) (roundBegin_0) (roundDart_0) (x2) (x3)) (kz_0_32 : 0 ≤ pm_0 ∧ pm_0 ≤ 80) (kz_0_53 : 0 ≤ rounds_0 ∧ rounds_0 ≤ 160) : GOI (pm_0) (rounds_0) (pt_0) (ph_0) (alive_0) (rotMany_0) (rot_0) (roundOf_0) (roundBegin_0) (roundDart_0) (x2) (x12) := by
  first
    | exact goi_start ‹RO0 _ _› (by omega) (by omega) (by omega) (by omega)
    | exact goi_skip ‹GOI _ _ _ _ _ _ _ _ _ _ _ _› (by omega) (Or.inl (by rw [← (by omega : x10 = x3 / 2)]; omega))
    | exact goi_skip ‹GOI _ _ _ _ _ _ _ _ _ _ _ _› (by omega) (Or.inr (by omega))
    | exact git_end ‹GIT _ _ _ _ _ _ _ _ _ _ _ _ _› (by omega) (by omega) (by omega)
def o_Mo_goRound_4 : or_T := (34, 13, [(0, (2, 0, 0, [165])), (2, (0, 0, 160, [])), (3, (0, 0, 159, [])), (10, (0, 0, 79, [])), (11, (0, 0, 0, [])), (12, (0, 1, 160, []))], [(6, [12, 3], [1]), (10, [11, 8, 10], []), (11, [10, 3], [2]), (9, [8, 1], [35]), (20, [1, 2, 3], [60, 2, 8, 192, 32, 53, 33, 34, 35, 36, 37, 54, 56, 57]), (24, [0, 1], [])], [], [], [(20, [1, 2, 12], [60, 2, 8, 192, 32, 53, 33, 34, 35, 36, 37, 54, 56, 57])], [], [])
theorem oo_Mo_goRound_4 {kA : Nat → ClassId} : or_ok PRD kA GG o_Mo_goRound_4 := by
  refine or_mk fun A ta ws vs hD hth hl => ?_
  intro t0 r0 t2 k2 t3 k3 t10 k10 t11 k11 t12 k12 f0 f2 f3 f5 f11 f12
  replace f0 := shm_4 f0
  replace f2 := shm_107 f2
  replace f3 := shm_585 f3
  replace f5 := shm_511 f5
  replace f11 := shm_1131 f11
  replace f12 := shm_5 f12
  have q1 : n_v vs 1 = n_v vs 0 := f12.symm
  simp only [q1] at f5 f11
  have ad_8 : v_ad (n_v vs 8) = w_ar ws (n_v vs 0) 35 := congrArg v_ad f5
  simp only [ad_8] at f2
  have h2 : v_iv (n_v vs 11) = w_ei ws (w_ar ws (n_v vs 0) 35) (v_iv (n_v vs 10)) := f2
  have kz_0_32 := fdq_140 hD hth r0
  have kz_0_53 := fdq_275 hD hth r0
  have nf0 : fc_1 PRD (20, [1, 2, 12], [60, 2, 8, 192, 32, 53, 33, 34, 35, 36, 37, 54, 56, 57]) ws (vs) := by
    refine ⟨nf_in hl rfl, sgq_1131 ?_⟩
    · show GOI (w_fi ws (n_v vs 1) 32) (w_fi ws (n_v vs 1) 53) (w_ei ws (w_ar ws (n_v vs 1) 33)) (w_ei ws (w_ar ws (n_v vs 1) 34)) (w_ei ws (w_ar ws (n_v vs 1) 35)) (w_ei ws (w_ar ws (n_v vs 1) 36)) (w_ei ws (w_ar ws (n_v vs 1) 37)) (w_ei ws (w_ar ws (n_v vs 1) 54)) (w_ei ws (w_ar ws (n_v vs 1) 56)) (w_ei ws (w_ar ws (n_v vs 1) 57)) (v_iv (n_v vs 2)) (v_iv (n_v vs 12))
      rw [q1]
      exact vc_Mo_goRound_4_0 (v_iv (n_v vs 2)) (v_iv (n_v vs 3)) (v_iv (n_v vs 10)) (v_iv (n_v vs 11)) (v_iv (n_v vs 12)) (w_ei ws (w_ar ws (n_v vs 0) 35)) (w_fi ws (n_v vs 0) 32) (w_ei ws (w_ar ws (n_v vs 0) 33)) (w_ei ws (w_ar ws (n_v vs 0) 34)) (w_ei ws (w_ar ws (n_v vs 0) 36)) (w_ei ws (w_ar ws (n_v vs 0) 37)) (w_ei ws (w_ar ws (n_v vs 0) 54)) (w_ei ws (w_ar ws (n_v vs 0) 56)) (w_ei ws (w_ar ws (n_v vs 0) 57)) (w_fi ws (n_v vs 0) 53) k2 k3 k10 k11 k12 f0 h2 f3 f11 kz_0_32 kz_0_53
  refine ⟨(fun _ h => (by cases h)), [], trivial, ?_, (fun _ h => (by cases h))⟩
  rw [List.append_nil]
  exact List.forall_mem_cons.mpr ⟨⟨show (20 : Nat) < 100 from by decide, nf0⟩, (fun _ h => (by cases h))⟩
set_option maxHeartbeats 4000000 in
theorem vc_Mo_goRound_5_0 (pt_0 : Int → Int) (ph_0 : Int → Int) (pn_0 : Int) (pm_0 : Int) (alive_0 : Int → Int) (rotMany_0 : Int → Int) (rot_0 : Int → Int) (rounds_1 : Int) (roundOf_1 : Int → Int) (alive_1 : Int → Int) (pm_1 : Int) (pt_1 : Int → Int) (ph_1 : Int → Int) (pn_1 : Int) (rotMany_1 : Int → Int) (rot_1 : Int → Int) (roundDart_1 : Int → Int) (rounds_0 : Int) (roundOf_0 : Int → Int) (roundDart_0 : Int → Int) (f17 : GOK (pn_1) (pm_1) (pt_1) (ph_1)) (fe_0_31_1 : pn_0 = pn_1) (fe_0_32_1 : pm_0 = pm_1) (fe_0_53_1 : rounds_0 = rounds_1) (hE_0_33_1 : ∀ j : Int, pt_0 j = pt_1 j) (hE_0_34_1 : ∀ j : Int, ph_0 j = ph_1 j) (hE_0_35_1 : ∀ j : Int, alive_0 j = alive_1 j) (hE_0_36_1 : ∀ j : Int, rotMany_0 j = rotMany_1 j) (hE_0_37_1 : ∀ j : Int, rot_0 j = rot_1 j) (hE_0_54_1 : ∀ j : Int, roundOf_0 j = roundOf_1 j) (hE_0_57_1 : ∀ j : Int, roundDart_0 j = roundDart_1 j) (kz_0_31 : 0 ≤ pn_0 ∧ pn_0 ≤ 25) (kz_0_32 : 0 ≤ pm_0 ∧ pm_0 ≤ 80) (kz_0_53 : 0 ≤ rounds_0 ∧ rounds_0 ≤ 160) : GOK (pn_0) (pm_0) (pt_0) (ph_0) := by
  subst fe_0_31_1
  subst fe_0_32_1
  subst fe_0_53_1
  have e_hE_0_33_1 := funext hE_0_33_1; subst e_hE_0_33_1
  have e_hE_0_34_1 := funext hE_0_34_1; subst e_hE_0_34_1
  have e_hE_0_35_1 := funext hE_0_35_1; subst e_hE_0_35_1
  have e_hE_0_36_1 := funext hE_0_36_1; subst e_hE_0_36_1
  have e_hE_0_37_1 := funext hE_0_37_1; subst e_hE_0_37_1
  have e_hE_0_54_1 := funext hE_0_54_1; subst e_hE_0_54_1
  have e_hE_0_57_1 := funext hE_0_57_1; subst e_hE_0_57_1
  first | assumption
set_option maxHeartbeats 4000000 in
theorem vc_Mo_goRound_5_1 (pt_0 : Int → Int) (ph_0 : Int → Int) (pn_0 : Int) (pm_0 : Int) (alive_0 : Int → Int) (rotMany_0 : Int → Int) (rot_0 : Int → Int) (rounds_1 : Int) (roundOf_1 : Int → Int) (alive_1 : Int → Int) (pm_1 : Int) (pt_1 : Int → Int) (ph_1 : Int → Int) (pn_1 : Int) (rotMany_1 : Int → Int) (rot_1 : Int → Int) (roundDart_1 : Int → Int) (rounds_0 : Int) (roundOf_0 : Int → Int) (roundDart_0 : Int → Int) (f18 : EML (pn_1) (pm_1) (pt_1) (ph_1) (alive_1) (rotMany_1) (rot_1)) (fe_0_31_1 : pn_0 = pn_1) (fe_0_32_1 : pm_0 = pm_1) (fe_0_53_1 : rounds_0 = rounds_1) (hE_0_33_1 : ∀ j : Int, pt_0 j = pt_1 j) (hE_0_34_1 : ∀ j : Int, ph_0 j = ph_1 j) (hE_0_35_1 : ∀ j : Int, alive_0 j = alive_1 j) (hE_0_36_1 : ∀ j : Int, rotMany_0 j = rotMany_1 j) (hE_0_37_1 : ∀ j : Int, rot_0 j = rot_1 j) (hE_0_54_1 : ∀ j : Int, roundOf_0 j = roundOf_1 j) (hE_0_57_1 : ∀ j : Int, roundDart_0 j = roundDart_1 j) (kz_0_31 : 0 ≤ pn_0 ∧ pn_0 ≤ 25) (kz_0_32 : 0 ≤ pm_0 ∧ pm_0 ≤ 80) (kz_0_53 : 0 ≤ rounds_0 ∧ rounds_0 ≤ 160) : EML (pn_0) (pm_0) (pt_0) (ph_0) (alive_0) (rotMany_0) (rot_0) := by
  subst fe_0_31_1
  subst fe_0_32_1
  subst fe_0_53_1
  have e_hE_0_33_1 := funext hE_0_33_1; subst e_hE_0_33_1
  have e_hE_0_34_1 := funext hE_0_34_1; subst e_hE_0_34_1
  have e_hE_0_35_1 := funext hE_0_35_1; subst e_hE_0_35_1
  have e_hE_0_36_1 := funext hE_0_36_1; subst e_hE_0_36_1
  have e_hE_0_37_1 := funext hE_0_37_1; subst e_hE_0_37_1
  have e_hE_0_54_1 := funext hE_0_54_1; subst e_hE_0_54_1
  have e_hE_0_57_1 := funext hE_0_57_1; subst e_hE_0_57_1
  first | assumption
set_option maxHeartbeats 4000000 in
theorem vc_Mo_goRound_5_2 (x2 : Int) (x3 : Int) (x4 : Int) (x6 : Int) (x7 : Int) (x10 : Int) (x11 : Int) (x13 : Int) (pt_0 : Int → Int) (ph_0 : Int → Int) (pn_0 : Int) (pm_0 : Int) (alive_0 : Int → Int) (rotMany_0 : Int → Int) (rot_0 : Int → Int) (rounds_1 : Int) (roundOf_1 : Int → Int) (alive_1 : Int → Int) (pm_1 : Int) (pt_1 : Int → Int) (ph_1 : Int → Int) (pn_1 : Int) (rotMany_1 : Int → Int) (rot_1 : Int → Int) (roundBegin_1 : Int → Int) (roundDart_1 : Int → Int) (rounds_0 : Int) (roundOf_0 : Int → Int) (roundBegin_0 : Int → Int) (roundDart_0 : Int → Int) (k2 : 0 ≤ x2 ∧ x2 ≤ 160) (k3 : 0 ≤ x3 ∧ x3 ≤ 159) (k4 : 0 ≤ x4 ∧ x4 ≤ 160) (k6 : 0 ≤ x6 ∧ x6 ≤ 80) (k7 : 1 ≤ x7 ∧ x7 ≤ 160) (k10 : 0 ≤ x10 ∧ x10 ≤ 79) (k11 : 1 ≤ x11 ∧ x11 ≤ 1) (k13 : (-1) ≤ x13 ∧ x13 ≤ (-1)) (d0 : x7 + (-4294967296) ≤ x3 ∧ x3 ≤ x7 + (-1)) (g4 : x4 = rounds_1) (h7 : x13 = roundOf_1 (x3)) (h10 : x11 = alive_1 (x10)) (f11 : x10 = x3 / 2) (f15 : x7 = 2 * x6) (g16 : x6 = pm_1) (f19 : GOI (pm_1) (rounds_1) (pt_1) (ph_1) (alive_1) (rotMany_1) (rot_1) (roundOf_1) (roundBegin_1) (roundDart_1) (x2) (x3)) (fe_0_31_1 : pn_0 = pn_1) (fe_0_32_1 : pm_0 = pm_1) (fe_0_53_1 : rounds_0 = rounds_1) (hE_0_33_1 : ∀ j : Int, pt_0 j = pt_1 j) (hE_0_34_1 : ∀ j : Int, ph_0 j = ph_1 j) (hE_0_35_1 : ∀ j : Int, alive_0 j = alive_1 j) (hE_0_36_1 : ∀ j : Int, rotMany_0 j = rotMany_1 j) (hE_0_37_1 : ∀ j : Int, rot_0 j = rot_1 j) (hE_0_54_1 : ∀ j : Int, roundOf_0 j = roundOf_1 j) (hE_0_56_1 : ∀ j : Int, 0 ≤ j → (j = x4 → roundBegin_0 j = x2) ∧ (j ≠ x4 → roundBegin_0 j = roundBegin_1 j)) (hE_0_57_1 : ∀ j : Int, roundDart_0 j = roundDart_1 j) (kz_0_31 : 0 ≤ pn_0 ∧ pn_0 ≤ 25) (kz_0_32 : 0 ≤ pm_0 ∧ pm_0 ≤ 80) (kz_0_53 : 0 ≤ rounds_0 ∧ rounds_0 ≤ 160) : GII (pm_0) (rounds_0) (pt_0) (ph_0) (alive_0) (rotMany_0) (rot_0) (roundOf_0) (roundBegin_0) (roundDart_0) (x2) (x3) (x3) := by
  subst fe_0_31_1
  subst fe_0_32_1
  subst fe_0_53_1
  have e_hE_0_33_1 := funext hE_0_33_1; subst e_hE_0_33_1
  have e_hE_0_34_1 := funext hE_0_34_1; subst e_hE_0_34_1
  have e_hE_0_35_1 := funext hE_0_35_1; subst e_hE_0_35_1
  have e_hE_0_36_1 := funext hE_0_36_1; subst e_hE_0_36_1
  have e_hE_0_37_1 := funext hE_0_37_1; subst e_hE_0_37_1
  have e_hE_0_54_1 := funext hE_0_54_1; subst e_hE_0_54_1
  have e_hE_0_57_1 := funext hE_0_57_1; subst e_hE_0_57_1
  first
    | exact git_next ‹GOK _ _ _ _› ‹EML _ _ _ _ _ _ _› ‹GIT _ _ _ _ _ _ _ _ _ _ _ _ _› (by omega)
    | exact gii_start ‹GOI _ _ _ _ _ _ _ _ _ _ _ _› (by omega) (by omega) (by rw [← (by omega : x10 = x3 / 2)]; omega) (by omega) hE_0_56_1 (by omega) rfl rfl
set_option maxHeartbeats 4000000 in
theorem vc_Mo_goRound_5_3 (x2 : Int) (pt_0 : Int → Int) (ph_0 : Int → Int) (pn_0 : Int) (pm_0 : Int) (alive_0 : Int → Int) (rotMany_0 : Int → Int) (rot_0 : Int → Int) (rounds_1 : Int) (roundOf_1 : Int → Int) (alive_1 : Int → Int) (pm_1 : Int) (pt_1 : Int → Int) (ph_1 : Int → Int) (pn_1 : Int) (rotMany_1 : Int → Int) (rot_1 : Int → Int) (roundDart_1 : Int → Int) (rounds_0 : Int) (roundOf_0 : Int → Int) (roundDart_0 : Int → Int) (gx : Int) (k2 : 0 ≤ x2 ∧ x2 ≤ 160) (fe_0_31_1 : pn_0 = pn_1) (fe_0_32_1 : pm_0 = pm_1) (fe_0_53_1 : rounds_0 = rounds_1) (hE_0_33_1 : ∀ j : Int, pt_0 j = pt_1 j) (hE_0_34_1 : ∀ j : Int, ph_0 j = ph_1 j) (hE_0_35_1 : ∀ j : Int, alive_0 j = alive_1 j) (hE_0_36_1 : ∀ j : Int, rotMany_0 j = rotMany_1 j) (hE_0_37_1 : ∀ j : Int, rot_0 j = rot_1 j) (hE_0_54_1 : ∀ j : Int, roundOf_0 j = roundOf_1 j) (hE_0_57_1 : ∀ j : Int, roundDart_0 j = roundDart_1 j) (kz_0_31 : 0 ≤ pn_0 ∧ pn_0 ≤ 25) (kz_0_32 : 0 ≤ pm_0 ∧ pm_0 ≤ 80) (kz_0_53 : 0 ≤ rounds_0 ∧ rounds_0 ≤ 160) (ex2 : gx = 160) : (-1) * x2 + ((-1) * gx + 0) ≤ (-160) := by
  subst fe_0_31_1
  subst fe_0_32_1
  subst fe_0_53_1
  have e_hE_0_33_1 := funext hE_0_33_1; subst e_hE_0_33_1
  have e_hE_0_34_1 := funext hE_0_34_1; subst e_hE_0_34_1
  have e_hE_0_35_1 := funext hE_0_35_1; subst e_hE_0_35_1
  have e_hE_0_36_1 := funext hE_0_36_1; subst e_hE_0_36_1
  have e_hE_0_37_1 := funext hE_0_37_1; subst e_hE_0_37_1
  have e_hE_0_54_1 := funext hE_0_54_1; subst e_hE_0_54_1
  have e_hE_0_57_1 := funext hE_0_57_1; subst e_hE_0_57_1
  first | omega
def o_Mo_goRound_5 : or_T := (79, 15, [(0, (2, 0, 0, [165])), (2, (0, 0, 160, [])), (3, (0, 0, 159, [])), (4, (0, 0, 160, [])), (5, (0, 2, 2, [])), (6, (0, 0, 80, [])), (7, (0, 1, 160, [])), (10, (0, 0, 79, [])), (11, (0, 1, 1, [])), (13, (0, -1, -1, [])), (14, (2, 0, 0, [198]))], [(24, [0, 1], []), (100, [14, 4, 2], []), (9, [4, 1], [53]), (9, [14, 1], [56]), (10, [13, 12, 3], []), (9, [12, 1], [54]), (10, [11, 8, 10], []), (11, [10, 3], [2]), (9, [8, 1], [35]), (3, [7, 5, 6], []), (9, [6, 1], [32]), (20, [1], [60, 2, 2, 75, 31, 32, 33, 34]), (20, [1], [60, 2, 5, 187, 31, 32, 33, 34, 35, 36, 37]), (20, [1, 2, 3], [60, 2, 8, 192, 32, 53, 33, 34, 35, 36, 37, 54, 56, 57])], [], [(0, -2, 161, [])], [(20, [1], [60, 2, 2, 75, 31, 32, 33, 34]), (20, [1], [60, 2, 5, 187, 31, 32, 33, 34, 35, 36, 37]), (20, [1, 2, 3, 3], [60, 2, 8, 194, 32, 53, 33, 34, 35, 36, 37, 54, 56, 57]), (20, [2, 15], [30, -160, -1, 0, 0, -1, 0, 0]), (24, [0, 1], [])], [], [(3, 7, -4294967296, -1)])
theorem oo_Mo_goRound_5 {kA : Nat → ClassId} : or_ok PRD kA GG o_Mo_goRound_5 := by
  refine or_mk fun A ta ws vs hD hth hl => ?_
  intro t0 r0 t2 k2 t3 k3 t4 k4 t5 k5 t6 k6 t7 k7 t10 k10 t11 k11 t13 k13 t14 r14 d0 f2 ta1 w1 le1 s1 f4 f5 f7 f8 f10 f11 f13 f15 f16 f17 f18 f19
  replace f2 := shm_5 f2
  have s1 : (∀ b j, w_el ws b j = if b = v_ad (n_v vs 14) ∧ j = (v_iv (n_v vs 4)).toNat then v_iv (n_v vs 2) else w_el w1 b j) ∧ ∀ b k, w_fd ws b k = w_fd w1 b k := s1.2
  replace f4 := shm_1132 f4
  replace f5 := shm_1133 f5
  replace f7 := shm_107 f7
  replace f8 := shm_1122 f8
  replace f10 := shm_107 f10
  replace f11 := shm_585 f11
  replace f13 := shm_511 f13
  replace f15 := shm_38 f15
  rw [show v_iv (n_v vs 5) = 2 from by omega] at f15
  replace f16 := shm_525 f16
  replace f17 := shm_575 f17
  replace f18 := shm_1012 f18
  replace f19 := shm_1131 f19
  have q1 : n_v vs 1 = n_v vs 0 := f2.symm
  simp only [q1] at f4 f5 f8 f13 f16 f17 f18 f19
  have ar_0_33_1 : w_ar w1 (n_v vs 0) 33 = w_ar ws (n_v vs 0) 33 := congrArg v_ad (s1.2 _ _).symm
  have cr_0_33 := fdq_117 hD hth r0
  have ar_0_34_1 : w_ar w1 (n_v vs 0) 34 = w_ar ws (n_v vs 0) 34 := congrArg v_ad (s1.2 _ _).symm
  have cr_0_34 := fdq_118 hD hth r0
  have ar_0_35_1 : w_ar w1 (n_v vs 0) 35 = w_ar ws (n_v vs 0) 35 := congrArg v_ad (s1.2 _ _).symm
  have cr_0_35 := fdq_132 hD hth r0
  have ar_0_36_1 : w_ar w1 (n_v vs 0) 36 = w_ar ws (n_v vs 0) 36 := congrArg v_ad (s1.2 _ _).symm
  have cr_0_36 := fdq_167 hD hth r0
  have ar_0_37_1 : w_ar w1 (n_v vs 0) 37 = w_ar ws (n_v vs 0) 37 := congrArg v_ad (s1.2 _ _).symm
  have cr_0_37 := fdq_168 hD hth r0
  have ar_0_54_1 : w_ar w1 (n_v vs 0) 54 = w_ar ws (n_v vs 0) 54 := congrArg v_ad (s1.2 _ _).symm
  have cr_0_54 := fdq_272 hD hth r0
  have ar_0_56_1 : w_ar w1 (n_v vs 0) 56 = w_ar ws (n_v vs 0) 56 := congrArg v_ad (s1.2 _ _).symm
  have ar_0_57_1 : w_ar w1 (n_v vs 0) 57 = w_ar ws (n_v vs 0) 57 := congrArg v_ad (s1.2 _ _).symm
  have cr_0_57 := fdq_274 hD hth r0
  have ad_14 : v_ad (n_v vs 14) = w_ar ws (n_v vs 0) 56 := (congrArg v_ad f5).trans ar_0_56_1
  have ad_12 : v_ad (n_v vs 12) = w_ar ws (n_v vs 0) 54 := (congrArg v_ad f8).trans ar_0_54_1
  have ad_8 : v_ad (n_v vs 8) = w_ar ws (n_v vs 0) 35 := (congrArg v_ad f13).trans ar_0_35_1
  have g4 : v_iv (n_v vs 4) = w_fi w1 (n_v vs 0) 53 := congrArg v_iv f4
  simp only [ad_12] at f7
  have h7 : v_iv (n_v vs 13) = w_ei w1 (w_ar ws (n_v vs 0) 54) (v_iv (n_v vs 3)) := f7
  simp only [ad_8] at f10
  have h10 : v_iv (n_v vs 11) = w_ei w1 (w_ar ws (n_v vs 0) 35) (v_iv (n_v vs 10)) := f10
  have g16 : v_iv (n_v vs 6) = w_fi w1 (n_v vs 0) 32 := congrArg v_iv f16
  simp only [ar_0_33_1, ar_0_34_1, ar_0_35_1, ar_0_36_1, ar_0_37_1, ar_0_54_1, ar_0_56_1, ar_0_57_1] at f17 f18 f19
  have fe_0_31_1 : w_fi ws (n_v vs 0) 31 = w_fi w1 (n_v vs 0) 31 := congrArg v_iv (s1.2 _ _)
  have fe_0_32_1 : w_fi ws (n_v vs 0) 32 = w_fi w1 (n_v vs 0) 32 := congrArg v_iv (s1.2 _ _)
  have fe_0_53_1 : w_fi ws (n_v vs 0) 53 = w_fi w1 (n_v vs 0) 53 := congrArg v_iv (s1.2 _ _)
  have hE_0_33_1 : ∀ j : Int, w_ei ws (w_ar ws (n_v vs 0) 33) j = w_ei w1 (w_ar ws (n_v vs 0) 33) j := el_kp s1.1 r14 cr_0_33 (by decide)
  have hE_0_34_1 : ∀ j : Int, w_ei ws (w_ar ws (n_v vs 0) 34) j = w_ei w1 (w_ar ws (n_v vs 0) 34) j := el_kp s1.1 r14 cr_0_34 (by decide)
  have hE_0_35_1 : ∀ j : Int, w_ei ws (w_ar ws (n_v vs 0) 35) j = w_ei w1 (w_ar ws (n_v vs 0) 35) j := el_kp s1.1 r14 cr_0_35 (by decide)
  have hE_0_36_1 : ∀ j : Int, w_ei ws (w_ar ws (n_v vs 0) 36) j = w_ei w1 (w_ar ws (n_v vs 0) 36) j := el_kp s1.1 r14 cr_0_36 (by decide)
  have hE_0_37_1 : ∀ j : Int, w_ei ws (w_ar ws (n_v vs 0) 37) j = w_ei w1 (w_ar ws (n_v vs 0) 37) j := el_kp s1.1 r14 cr_0_37 (by decide)
  have hE_0_54_1 : ∀ j : Int, w_ei ws (w_ar ws (n_v vs 0) 54) j = w_ei w1 (w_ar ws (n_v vs 0) 54) j := el_kp s1.1 r14 cr_0_54 (by decide)
  have hE_0_56_1 : ∀ j : Int, 0 ≤ j → (j = v_iv (n_v vs 4) → w_ei ws (w_ar ws (n_v vs 0) 56) j = v_iv (n_v vs 2)) ∧ (j ≠ v_iv (n_v vs 4) → w_ei ws (w_ar ws (n_v vs 0) 56) j = w_ei w1 (w_ar ws (n_v vs 0) 56) j) := fun j hj => ⟨fun h => by unfold w_ei; rw [s1.1, if_pos ⟨ad_14.symm, by rw [h]⟩], fun h => by unfold w_ei; rw [s1.1, if_neg (fun e => h (by have := e.2; omega))]⟩
  have hE_0_57_1 : ∀ j : Int, w_ei ws (w_ar ws (n_v vs 0) 57) j = w_ei w1 (w_ar ws (n_v vs 0) 57) j := el_kp s1.1 r14 cr_0_57 (by decide)
  have kz_0_31 := fdq_145 hD hth r0
  have kz_0_32 := fdq_140 hD hth r0
  have kz_0_53 := fdq_275 hD hth r0
  obtain ⟨x, ex, hx⟩ := iv_ex (ta := ta) (lo := (-2)) (hi := 161) (z := 160) (by omega) (by omega) (by omega) (by omega)
  have ex2 : v_iv (Value.int x) = 160 := ex
  have ex3 : (-2) ≤ v_iv (Value.int x) ∧ v_iv (Value.int x) ≤ 161 := tv_rng hx
  have e_0 : n_v (vs ++ [Value.int x]) 0 = n_v vs 0 := n_v_old (by rw [hl]; decide)
  have e_1 : n_v (vs ++ [Value.int x]) 1 = n_v vs 1 := n_v_old (by rw [hl]; decide)
  have e_2 : n_v (vs ++ [Value.int x]) 2 = n_v vs 2 := n_v_old (by rw [hl]; decide)
  have e_3 : n_v (vs ++ [Value.int x]) 3 = n_v vs 3 := n_v_old (by rw [hl]; decide)
  have e_15 : n_v (vs ++ [Value.int x]) 15 = Value.int x := n_v_new hl
  have nf0 : fc_1 PRD (20, [1], [60, 2, 2, 75, 31, 32, 33, 34]) ws (vs ++ [Value.int x]) := by
    refine ⟨nf_inA hl rfl, sgq_575 ?_⟩
    · show GOK (w_fi ws (n_v (vs ++ [Value.int x]) 1) 31) (w_fi ws (n_v (vs ++ [Value.int x]) 1) 32) (w_ei ws (w_ar ws (n_v (vs ++ [Value.int x]) 1) 33)) (w_ei ws (w_ar ws (n_v (vs ++ [Value.int x]) 1) 34))
      simp only [e_1, q1]
      exact vc_Mo_goRound_5_0 (w_ei ws (w_ar ws (n_v vs 0) 33)) (w_ei ws (w_ar ws (n_v vs 0) 34)) (w_fi ws (n_v vs 0) 31) (w_fi ws (n_v vs 0) 32) (w_ei ws (w_ar ws (n_v vs 0) 35)) (w_ei ws (w_ar ws (n_v vs 0) 36)) (w_ei ws (w_ar ws (n_v vs 0) 37)) (w_fi w1 (n_v vs 0) 53) (w_ei w1 (w_ar ws (n_v vs 0) 54)) (w_ei w1 (w_ar ws (n_v vs 0) 35)) (w_fi w1 (n_v vs 0) 32) (w_ei w1 (w_ar ws (n_v vs 0) 33)) (w_ei w1 (w_ar ws (n_v vs 0) 34)) (w_fi w1 (n_v vs 0) 31) (w_ei w1 (w_ar ws (n_v vs 0) 36)) (w_ei w1 (w_ar ws (n_v vs 0) 37)) (w_ei w1 (w_ar ws (n_v vs 0) 57)) (w_fi ws (n_v vs 0) 53) (w_ei ws (w_ar ws (n_v vs 0) 54)) (w_ei ws (w_ar ws (n_v vs 0) 57)) f17 fe_0_31_1 fe_0_32_1 fe_0_53_1 hE_0_33_1 hE_0_34_1 hE_0_35_1 hE_0_36_1 hE_0_37_1 hE_0_54_1 hE_0_57_1 kz_0_31 kz_0_32 kz_0_53
  have nf1 : fc_1 PRD (20, [1], [60, 2, 5, 187, 31, 32, 33, 34, 35, 36, 37]) ws (vs ++ [Value.int x]) := by
    refine ⟨nf_inA hl rfl, sgq_1012 ?_⟩
    · show EML (w_fi ws (n_v (vs ++ [Value.int x]) 1) 31) (w_fi ws (n_v (vs ++ [Value.int x]) 1) 32) (w_ei ws (w_ar ws (n_v (vs ++ [Value.int x]) 1) 33)) (w_ei ws (w_ar ws (n_v (vs ++ [Value.int x]) 1) 34)) (w_ei ws (w_ar ws (n_v (vs ++ [Value.int x]) 1) 35)) (w_ei ws (w_ar ws (n_v (vs ++ [Value.int x]) 1) 36)) (w_ei ws (w_ar ws (n_v (vs ++ [Value.int x]) 1) 37))
      simp only [e_1, q1]
      exact vc_Mo_goRound_5_1 (w_ei ws (w_ar ws (n_v vs 0) 33)) (w_ei ws (w_ar ws (n_v vs 0) 34)) (w_fi ws (n_v vs 0) 31) (w_fi ws (n_v vs 0) 32) (w_ei ws (w_ar ws (n_v vs 0) 35)) (w_ei ws (w_ar ws (n_v vs 0) 36)) (w_ei ws (w_ar ws (n_v vs 0) 37)) (w_fi w1 (n_v vs 0) 53) (w_ei w1 (w_ar ws (n_v vs 0) 54)) (w_ei w1 (w_ar ws (n_v vs 0) 35)) (w_fi w1 (n_v vs 0) 32) (w_ei w1 (w_ar ws (n_v vs 0) 33)) (w_ei w1 (w_ar ws (n_v vs 0) 34)) (w_fi w1 (n_v vs 0) 31) (w_ei w1 (w_ar ws (n_v vs 0) 36)) (w_ei w1 (w_ar ws (n_v vs 0) 37)) (w_ei w1 (w_ar ws (n_v vs 0) 57)) (w_fi ws (n_v vs 0) 53) (w_ei ws (w_ar ws (n_v vs 0) 54)) (w_ei ws (w_ar ws (n_v vs 0) 57)) f18 fe_0_31_1 fe_0_32_1 fe_0_53_1 hE_0_33_1 hE_0_34_1 hE_0_35_1 hE_0_36_1 hE_0_37_1 hE_0_54_1 hE_0_57_1 kz_0_31 kz_0_32 kz_0_53
  have nf2 : fc_1 PRD (20, [1, 2, 3, 3], [60, 2, 8, 194, 32, 53, 33, 34, 35, 36, 37, 54, 56, 57]) ws (vs ++ [Value.int x]) := by
    refine ⟨nf_inA hl rfl, sgq_1135 ?_⟩
    · show GII (w_fi ws (n_v (vs ++ [Value.int x]) 1) 32) (w_fi ws (n_v (vs ++ [Value.int x]) 1) 53) (w_ei ws (w_ar ws (n_v (vs ++ [Value.int x]) 1) 33)) (w_ei ws (w_ar ws (n_v (vs ++ [Value.int x]) 1) 34)) (w_ei ws (w_ar ws (n_v (vs ++ [Value.int x]) 1) 35)) (w_ei ws (w_ar ws (n_v (vs ++ [Value.int x]) 1) 36)) (w_ei ws (w_ar ws (n_v (vs ++ [Value.int x]) 1) 37)) (w_ei ws (w_ar ws (n_v (vs ++ [Value.int x]) 1) 54)) (w_ei ws (w_ar ws (n_v (vs ++ [Value.int x]) 1) 56)) (w_ei ws (w_ar ws (n_v (vs ++ [Value.int x]) 1) 57)) (v_iv (n_v (vs ++ [Value.int x]) 2)) (v_iv (n_v (vs ++ [Value.int x]) 3)) (v_iv (n_v (vs ++ [Value.int x]) 3))
      simp only [e_1, e_2, e_3, q1]
      exact vc_Mo_goRound_5_2 (v_iv (n_v vs 2)) (v_iv (n_v vs 3)) (v_iv (n_v vs 4)) (v_iv (n_v vs 6)) (v_iv (n_v vs 7)) (v_iv (n_v vs 10)) (v_iv (n_v vs 11)) (v_iv (n_v vs 13)) (w_ei ws (w_ar ws (n_v vs 0) 33)) (w_ei ws (w_ar ws (n_v vs 0) 34)) (w_fi ws (n_v vs 0) 31) (w_fi ws (n_v vs 0) 32) (w_ei ws (w_ar ws (n_v vs 0) 35)) (w_ei ws (w_ar ws (n_v vs 0) 36)) (w_ei ws (w_ar ws (n_v vs 0) 37)) (w_fi w1 (n_v vs 0) 53) (w_ei w1 (w_ar ws (n_v vs 0) 54)) (w_ei w1 (w_ar ws (n_v vs 0) 35)) (w_fi w1 (n_v vs 0) 32) (w_ei w1 (w_ar ws (n_v vs 0) 33)) (w_ei w1 (w_ar ws (n_v vs 0) 34)) (w_fi w1 (n_v vs 0) 31) (w_ei w1 (w_ar ws (n_v vs 0) 36)) (w_ei w1 (w_ar ws (n_v vs 0) 37)) (w_ei w1 (w_ar ws (n_v vs 0) 56)) (w_ei w1 (w_ar ws (n_v vs 0) 57)) (w_fi ws (n_v vs 0) 53) (w_ei ws (w_ar ws (n_v vs 0) 54)) (w_ei ws (w_ar ws (n_v vs 0) 56)) (w_ei ws (w_ar ws (n_v vs 0) 57)) k2 k3 k4 k6 k7 k10 k11 k13 d0 g4 h7 h10 f11 f15 g16 f19 fe_0_31_1 fe_0_32_1 fe_0_53_1 hE_0_33_1 hE_0_34_1 hE_0_35_1 hE_0_36_1 hE_0_37_1 hE_0_54_1 hE_0_56_1 hE_0_57_1 kz_0_31 kz_0_32 kz_0_53
  have nf3 : fc_1 PRD (20, [2, 15], [30, -160, -1, 0, 0, -1, 0, 0]) ws (vs ++ [Value.int x]) := by
    refine ⟨nf_inA hl rfl, sgq_1136 ?_⟩
    · show (-1) * v_iv (n_v (vs ++ [Value.int x]) 2) + ((-1) * v_iv (n_v (vs ++ [Value.int x]) 15) + 0) ≤ (-160)
      simp only [e_2, e_15]
      exact vc_Mo_goRound_5_3 (v_iv (n_v vs 2)) (w_ei ws (w_ar ws (n_v vs 0) 33)) (w_ei ws (w_ar ws (n_v vs 0) 34)) (w_fi ws (n_v vs 0) 31) (w_fi ws (n_v vs 0) 32) (w_ei ws (w_ar ws (n_v vs 0) 35)) (w_ei ws (w_ar ws (n_v vs 0) 36)) (w_ei ws (w_ar ws (n_v vs 0) 37)) (w_fi w1 (n_v vs 0) 53) (w_ei w1 (w_ar ws (n_v vs 0) 54)) (w_ei w1 (w_ar ws (n_v vs 0) 35)) (w_fi w1 (n_v vs 0) 32) (w_ei w1 (w_ar ws (n_v vs 0) 33)) (w_ei w1 (w_ar ws (n_v vs 0) 34)) (w_fi w1 (n_v vs 0) 31) (w_ei w1 (w_ar ws (n_v vs 0) 36)) (w_ei w1 (w_ar ws (n_v vs 0) 37)) (w_ei w1 (w_ar ws (n_v vs 0) 57)) (w_fi ws (n_v vs 0) 53) (w_ei ws (w_ar ws (n_v vs 0) 54)) (w_ei ws (w_ar ws (n_v vs 0) 57)) (v_iv (Value.int x)) k2 fe_0_31_1 fe_0_32_1 fe_0_53_1 hE_0_33_1 hE_0_34_1 hE_0_35_1 hE_0_36_1 hE_0_37_1 hE_0_54_1 hE_0_57_1 kz_0_31 kz_0_32 kz_0_53 ex2
  have nf4 : fc_1 PRD (24, [0, 1], []) ws (vs ++ [Value.int x]) := by
    refine ⟨nf_inA hl rfl, sgq_5 ?_⟩
    · show n_v (vs ++ [Value.int x]) 0 = n_v (vs ++ [Value.int x]) 1
      first | rfl | simp only [e_0, e_1, q1]
  exact ⟨(fun _ h => (by cases h)), [Value.int x], ag_one hx, List.forall_mem_cons.mpr ⟨⟨show (20 : Nat) < 100 from by decide, nf0⟩, List.forall_mem_cons.mpr ⟨⟨show (20 : Nat) < 100 from by decide, nf1⟩, List.forall_mem_cons.mpr ⟨⟨show (20 : Nat) < 100 from by decide, nf2⟩, List.forall_mem_cons.mpr ⟨⟨show (20 : Nat) < 100 from by decide, nf3⟩, List.forall_mem_cons.mpr ⟨⟨show (24 : Nat) < 100 from by decide, nf4⟩, (fun _ h => (by cases h))⟩⟩⟩⟩⟩, (fun _ h => (by cases h))⟩
set_option maxHeartbeats 4000000 in
theorem vc_Mo_goRound_6_0 (x2 : Int) (x3 : Int) (x10 : Int) (x13 : Int) (x14 : Int) (roundOf_0 : Int → Int) (alive_0 : Int → Int) (pm_0 : Int) (pt_0 : Int → Int) (ph_0 : Int → Int) (rotMany_0 : Int → Int) (rot_0 : Int → Int) (roundBegin_0 : Int → Int) (roundDart_0 : Int → Int) (rounds_0 : Int) (k2 : 0 ≤ x2 ∧ x2 ≤ 160) (k3 : 0 ≤ x3 ∧ x3 ≤ 159) (k13 : 0 ≤ x13 ∧ x13 ≤ 159) (k14 : 1 ≤ x14 ∧ x14 ≤ 160) (f0 : x14 = x3 + 1) (h2 : x13 = roundOf_0 (x3)) (f14 : GOI (pm_0) (rounds_0) (pt_0) (ph_0) (alive_0) (rotMany_0) (rot_0) (roundOf_0) (roundBegin_0) (roundDart_0) (x2) (x3)) (kz_0_32 : 0 ≤ pm_0 ∧ pm_0 ≤ 80) (kz_0_53 : 0 ≤ rounds_0 ∧ rounds_0 ≤ 160) : GOI (pm_0) (rounds_0) (pt_0) (ph_0) (alive_0) (rotMany_0) (rot_0) (roundOf_0) (roundBegin_0) (roundDart_0) (x2) (x14) := by
  first
    | exact goi_start ‹RO0 _ _› (by omega) (by omega) (by omega) (by omega)
    | exact goi_skip ‹GOI _ _ _ _ _ _ _ _ _ _ _ _› (by omega) (Or.inl (by rw [← (by omega : x10 = x3 / 2)]; omega))
    | exact goi_skip ‹GOI _ _ _ _ _ _ _ _ _ _ _ _› (by omega) (Or.inr (by omega))
    | exact git_end ‹GIT _ _ _ _ _ _ _ _ _ _ _ _ _› (by omega) (by omega) (by omega)
def o_Mo_goRound_6 : or_T := (34, 15, [(0, (2, 0, 0, [165])), (2, (0, 0, 160, [])), (3, (0, 0, 159, [])), (13, (0, 0, 159, [])), (14, (0, 1, 160, []))], [(6, [14, 3], [1]), (10, [13, 12, 3], []), (9, [12, 1], [54]), (20, [1, 2, 3], [60, 2, 8, 192, 32, 53, 33, 34, 35, 36, 37, 54, 56, 57]), (24, [0, 1], [])], [], [], [(20, [1, 2, 14], [60, 2, 8, 192, 32, 53, 33, 34, 35, 36, 37, 54, 56, 57])], [], [])
theorem oo_Mo_goRound_6 {kA : Nat → ClassId} : or_ok PRD kA GG o_Mo_goRound_6 := by
  refine or_mk fun A ta ws vs hD hth hl => ?_
  intro t0 r0 t2 k2 t3 k3 t13 k13 t14 k14 f0 f2 f3 f14 f15
  replace f0 := shm_4 f0
  replace f2 := shm_107 f2
  replace f3 := shm_1122 f3
  replace f14 := shm_1131 f14
  replace f15 := shm_5 f15
  have q1 : n_v vs 1 = n_v vs 0 := f15.symm
  simp only [q1] at f3 f14
  have ad_12 : v_ad (n_v vs 12) = w_ar ws (n_v vs 0) 54 := congrArg v_ad f3
  simp only [ad_12] at f2
  have h2 : v_iv (n_v vs 13) = w_ei ws (w_ar ws (n_v vs 0) 54) (v_iv (n_v vs 3)) := f2
  have kz_0_32 := fdq_140 hD hth r0
  have kz_0_53 := fdq_275 hD hth r0
  have nf0 : fc_1 PRD (20, [1, 2, 14], [60, 2, 8, 192, 32, 53, 33, 34, 35, 36, 37, 54, 56, 57]) ws (vs) := by
    refine ⟨nf_in hl rfl, sgq_1131 ?_⟩
    · show GOI (w_fi ws (n_v vs 1) 32) (w_fi ws (n_v vs 1) 53) (w_ei ws (w_ar ws (n_v vs 1) 33)) (w_ei ws (w_ar ws (n_v vs 1) 34)) (w_ei ws (w_ar ws (n_v vs 1) 35)) (w_ei ws (w_ar ws (n_v vs 1) 36)) (w_ei ws (w_ar ws (n_v vs 1) 37)) (w_ei ws (w_ar ws (n_v vs 1) 54)) (w_ei ws (w_ar ws (n_v vs 1) 56)) (w_ei ws (w_ar ws (n_v vs 1) 57)) (v_iv (n_v vs 2)) (v_iv (n_v vs 14))
      rw [q1]
      exact vc_Mo_goRound_6_0 (v_iv (n_v vs 2)) (v_iv (n_v vs 3)) (v_iv (n_v vs 10)) (v_iv (n_v vs 13)) (v_iv (n_v vs 14)) (w_ei ws (w_ar ws (n_v vs 0) 54)) (w_ei ws (w_ar ws (n_v vs 0) 35)) (w_fi ws (n_v vs 0) 32) (w_ei ws (w_ar ws (n_v vs 0) 33)) (w_ei ws (w_ar ws (n_v vs 0) 34)) (w_ei ws (w_ar ws (n_v vs 0) 36)) (w_ei ws (w_ar ws (n_v vs 0) 37)) (w_ei ws (w_ar ws (n_v vs 0) 56)) (w_ei ws (w_ar ws (n_v vs 0) 57)) (w_fi ws (n_v vs 0) 53) k2 k3 k13 k14 f0 h2 f14 kz_0_32 kz_0_53
  refine ⟨(fun _ h => (by cases h)), [], trivial, ?_, (fun _ h => (by cases h))⟩
  rw [List.append_nil]
  exact List.forall_mem_cons.mpr ⟨⟨show (20 : Nat) < 100 from by decide, nf0⟩, (fun _ h => (by cases h))⟩
set_option maxHeartbeats 4000000 in
theorem vc_Mo_goRound_7_r0 (x2 : Int) (x3 : Int) (x4 : Int) (x7 : Int) (rounds_0 : Int) (pt_0 : Int → Int) (ph_0 : Int → Int) (pm_0 : Int) (alive_0 : Int → Int) (rotMany_0 : Int → Int) (rot_0 : Int → Int) (roundOf_0 : Int → Int) (roundBegin_0 : Int → Int) (roundDart_0 : Int → Int) (k2 : 0 ≤ x2 ∧ x2 ≤ 160) (k3 : 0 ≤ x3 ∧ x3 ≤ 255) (k4 : 0 ≤ x4 ∧ x4 ≤ 159) (k7 : 0 ≤ x7 ∧ x7 ≤ 160) (g0 : x7 = rounds_0) (f4 : GII (pm_0) (rounds_0) (pt_0) (ph_0) (alive_0) (rotMany_0) (rot_0) (roundOf_0) (roundBegin_0) (roundDart_0) (x2) (x3) (x4)) (kz_0_32 : 0 ≤ pm_0 ∧ pm_0 ≤ 80) (kz_0_53 : 0 ≤ rounds_0 ∧ rounds_0 ≤ 160) : 0 ≤ x7 ∧ x7 ≤ 159 := by
  have h := gii_len ‹GII _ _ _ _ _ _ _ _ _ _ _ _ _›
  have h1 := ‹GII _ _ _ _ _ _ _ _ _ _ _ _ _›.1.1.2.1
  have h2 := ‹GII _ _ _ _ _ _ _ _ _ _ _ _ _›.1.2.2.2.1.1
  have h3 := ‹GII _ _ _ _ _ _ _ _ _ _ _ _ _›.1.1.1
  omega
def o_Mo_goRound_7 : or_T := (88, 8, [(0, (2, 0, 0, [165])), (1, (2, 0, 0, [165])), (2, (0, 0, 160, [])), (3, (0, 0, 255, [])), (4, (0, 0, 159, [])), (5, (0, -2, 161, [])), (6, (2, 0, 0, [196])), (7, (0, 0, 160, []))], [(9, [7, 1], [53]), (9, [6, 1], [54]), (20, [1], [60, 2, 2, 75, 31, 32, 33, 34]), (20, [1], [60, 2, 5, 187, 31, 32, 33, 34, 35, 36, 37]), (20, [1, 2, 3, 4], [60, 2, 8, 194, 32, 53, 33, 34, 35, 36, 37, 54, 56, 57]), (20, [2, 5], [30, -160, -1, 0, 0, -1, 0, 0]), (24, [0, 1], [])], [(7, (0, 0, 159, []))], [], [], [], [])
theorem oo_Mo_goRound_7 {kA : Nat → ClassId} : or_ok PRD kA GG o_Mo_goRound_7 := by
  refine or_mk fun A ta ws vs hD hth hl => ?_
  intro t0 r0 t1 r1 t2 k2 t3 k3 t4 k4 t5 k5 t6 r6 t7 k7 f0 f1 f2 f3 f4 f5 f6
  replace f0 := shm_1132 f0
  replace f4 := shm_1137 f4
  replace f6 := shm_5 f6
  have q1 : n_v vs 1 = n_v vs 0 := f6.symm
  simp only [q1] at f0 f4
  have g0 : v_iv (n_v vs 7) = w_fi ws (n_v vs 0) 53 := congrArg v_iv f0
  have kz_0_32 := fdq_140 hD hth r0
  have kz_0_53 := fdq_275 hD hth r0
  have hrf0 : 0 ≤ v_iv (n_v vs 7) ∧ v_iv (n_v vs 7) ≤ 159 := vc_Mo_goRound_7_r0 (v_iv (n_v vs 2)) (v_iv (n_v vs 3)) (v_iv (n_v vs 4)) (v_iv (n_v vs 7)) (w_fi ws (n_v vs 0) 53) (w_ei ws (w_ar ws (n_v vs 0) 33)) (w_ei ws (w_ar ws (n_v vs 0) 34)) (w_fi ws (n_v vs 0) 32) (w_ei ws (w_ar ws (n_v vs 0) 35)) (w_ei ws (w_ar ws (n_v vs 0) 36)) (w_ei ws (w_ar ws (n_v vs 0) 37)) (w_ei ws (w_ar ws (n_v vs 0) 54)) (w_ei ws (w_ar ws (n_v vs 0) 56)) (w_ei ws (w_ar ws (n_v vs 0) 57)) k2 k3 k4 k7 g0 f4 kz_0_32 kz_0_53
  have rf7 : tv_ok ta (0, 0, 159, []) (n_v vs 7) := tv_in t7 (by first | omega | grind) (by first | omega | grind)
  refine ⟨List.forall_mem_cons.mpr ⟨rf7, (fun _ h => (by cases h))⟩, [], trivial, ?_, (fun _ h => (by cases h))⟩
  rw [List.append_nil]
  exact (fun _ h => (by cases h))
set_option maxHeartbeats 4000000 in
theorem vc_Mo_goRound_8_r0 (x2 : Int) (x3 : Int) (x4 : Int) (pt_0 : Int → Int) (ph_0 : Int → Int) (pn_0 : Int) (pm_0 : Int) (alive_0 : Int → Int) (rotMany_0 : Int → Int) (rot_0 : Int → Int) (rounds_1 : Int) (pt_1 : Int → Int) (ph_1 : Int → Int) (pn_1 : Int) (pm_1 : Int) (alive_1 : Int → Int) (rotMany_1 : Int → Int) (rot_1 : Int → Int) (roundOf_1 : Int → Int) (roundBegin_1 : Int → Int) (roundDart_1 : Int → Int) (rounds_0 : Int) (roundBegin_0 : Int → Int) (roundDart_0 : Int → Int) (k2 : 0 ≤ x2 ∧ x2 ≤ 160) (k3 : 0 ≤ x3 ∧ x3 ≤ 255) (k4 : 0 ≤ x4 ∧ x4 ≤ 159) (f10 : GII (pm_1) (rounds_1) (pt_1) (ph_1) (alive_1) (rotMany_1) (rot_1) (roundOf_1) (roundBegin_1) (roundDart_1) (x2) (x3) (x4)) (fe_0_31_1 : pn_0 = pn_1) (fe_0_32_1 : pm_0 = pm_1) (fe_0_53_1 : rounds_0 = rounds_1) (hE_0_33_1 : ∀ j : Int, pt_0 j = pt_1 j) (hE_0_34_1 : ∀ j : Int, ph_0 j = ph_1 j) (hE_0_35_1 : ∀ j : Int, alive_0 j = alive_1 j) (hE_0_36_1 : ∀ j : Int, rotMany_0 j = rotMany_1 j) (hE_0_37_1 : ∀ j : Int, rot_0 j = rot_1 j) (hE_0_56_1 : ∀ j : Int, roundBegin_0 j = roundBegin_1 j) (hE_0_57_1 : ∀ j : Int, roundDart_0 j = roundDart_1 j) (kz_0_31 : 0 ≤ pn_0 ∧ pn_0 ≤ 25) (kz_0_32 : 0 ≤ pm_0 ∧ pm_0 ≤ 80) (kz_0_53 : 0 ≤ rounds_0 ∧ rounds_0 ≤ 160) : 0 ≤ x2 ∧ x2 ≤ 159 := by
  subst fe_0_31_1
  subst fe_0_32_1
  subst fe_0_53_1
  have e_hE_0_33_1 := funext hE_0_33_1; subst e_hE_0_33_1
  have e_hE_0_34_1 := funext hE_0_34_1; subst e_hE_0_34_1
  have e_hE_0_35_1 := funext hE_0_35_1; subst e_hE_0_35_1
  have e_hE_0_36_1 := funext hE_0_36_1; subst e_hE_0_36_1
  have e_hE_0_37_1 := funext hE_0_37_1; subst e_hE_0_37_1
  have e_hE_0_56_1 := funext hE_0_56_1; subst e_hE_0_56_1
  have e_hE_0_57_1 := funext hE_0_57_1; subst e_hE_0_57_1
  have h := gii_len ‹GII _ _ _ _ _ _ _ _ _ _ _ _ _›
  omega
def o_Mo_goRound_8 : or_T := (95, 9, [(0, (2, 0, 0, [165])), (1, (2, 0, 0, [165])), (2, (0, 0, 160, [])), (3, (0, 0, 255, [])), (4, (0, 0, 159, [])), (5, (0, -2, 161, [])), (6, (2, 0, 0, [196])), (7, (0, 0, 159, [])), (8, (2, 0, 0, [199]))], [(9, [8, 1], [57]), (20, [1], [60, 2, 2, 75, 31, 32, 33, 34]), (20, [1], [60, 2, 5, 187, 31, 32, 33, 34, 35, 36, 37]), (20, [2, 5], [30, -160, -1, 0, 0, -1, 0, 0]), (24, [0, 1], []), (100, [6, 4, 7], []), (9, [7, 1], [53]), (9, [6, 1], [54]), (20, [1], [60, 2, 2, 75, 31, 32, 33, 34]), (20, [1], [60, 2, 5, 187, 31, 32, 33, 34, 35, 36, 37]), (20, [1, 2, 3, 4], [60, 2, 8, 194, 32, 53, 33, 34, 35, 36, 37, 54, 56, 57]), (20, [2, 5], [30, -160, -1, 0, 0, -1, 0, 0])], [(2, (0, 0, 159, []))], [], [], [], [])
theorem oo_Mo_goRound_8 {kA : Nat → ClassId} : or_ok PRD kA GG o_Mo_goRound_8 := by
  refine or_mk fun A ta ws vs hD hth hl => ?_
  intro t0 r0 t1 r1 t2 k2 t3 k3 t4 k4 t5 k5 t6 r6 t7 k7 t8 r8 f0 f1 f2 f3 f4 ta1 w1 le1 s1 f6 f7 f8 f9 f10 f11
  replace f4 := shm_5 f4
  have s1 : (∀ b j, w_el ws b j = if b = v_ad (n_v vs 6) ∧ j = (v_iv (n_v vs 4)).toNat then v_iv (n_v vs 7) else w_el w1 b j) ∧ ∀ b k, w_fd ws b k = w_fd w1 b k := s1.2
  replace f10 := shm_1137 f10
  have q1 : n_v vs 1 = n_v vs 0 := f4.symm
  simp only [q1] at f10
  have ar_0_33_1 : w_ar w1 (n_v vs 0) 33 = w_ar ws (n_v vs 0) 33 := congrArg v_ad (s1.2 _ _).symm
  have cr_0_33 := fdq_117 hD hth r0
  have ar_0_34_1 : w_ar w1 (n_v vs 0) 34 = w_ar ws (n_v vs 0) 34 := congrArg v_ad (s1.2 _ _).symm
  have cr_0_34 := fdq_118 hD hth r0
  have ar_0_35_1 : w_ar w1 (n_v vs 0) 35 = w_ar ws (n_v vs 0) 35 := congrArg v_ad (s1.2 _ _).symm
  have cr_0_35 := fdq_132 hD hth r0
  have ar_0_36_1 : w_ar w1 (n_v vs 0) 36 = w_ar ws (n_v vs 0) 36 := congrArg v_ad (s1.2 _ _).symm
  have cr_0_36 := fdq_167 hD hth r0
  have ar_0_37_1 : w_ar w1 (n_v vs 0) 37 = w_ar ws (n_v vs 0) 37 := congrArg v_ad (s1.2 _ _).symm
  have cr_0_37 := fdq_168 hD hth r0
  have ar_0_54_1 : w_ar w1 (n_v vs 0) 54 = w_ar ws (n_v vs 0) 54 := congrArg v_ad (s1.2 _ _).symm
  have ar_0_56_1 : w_ar w1 (n_v vs 0) 56 = w_ar ws (n_v vs 0) 56 := congrArg v_ad (s1.2 _ _).symm
  have cr_0_56 := fdq_273 hD hth r0
  have ar_0_57_1 : w_ar w1 (n_v vs 0) 57 = w_ar ws (n_v vs 0) 57 := congrArg v_ad (s1.2 _ _).symm
  have cr_0_57 := fdq_274 hD hth r0
  simp only [ar_0_33_1, ar_0_34_1, ar_0_35_1, ar_0_36_1, ar_0_37_1, ar_0_54_1, ar_0_56_1, ar_0_57_1] at f10
  have fe_0_31_1 : w_fi ws (n_v vs 0) 31 = w_fi w1 (n_v vs 0) 31 := congrArg v_iv (s1.2 _ _)
  have fe_0_32_1 : w_fi ws (n_v vs 0) 32 = w_fi w1 (n_v vs 0) 32 := congrArg v_iv (s1.2 _ _)
  have fe_0_53_1 : w_fi ws (n_v vs 0) 53 = w_fi w1 (n_v vs 0) 53 := congrArg v_iv (s1.2 _ _)
  have hE_0_33_1 : ∀ j : Int, w_ei ws (w_ar ws (n_v vs 0) 33) j = w_ei w1 (w_ar ws (n_v vs 0) 33) j := el_kp s1.1 r6 cr_0_33 (by decide)
  have hE_0_34_1 : ∀ j : Int, w_ei ws (w_ar ws (n_v vs 0) 34) j = w_ei w1 (w_ar ws (n_v vs 0) 34) j := el_kp s1.1 r6 cr_0_34 (by decide)
  have hE_0_35_1 : ∀ j : Int, w_ei ws (w_ar ws (n_v vs 0) 35) j = w_ei w1 (w_ar ws (n_v vs 0) 35) j := el_kp s1.1 r6 cr_0_35 (by decide)
  have hE_0_36_1 : ∀ j : Int, w_ei ws (w_ar ws (n_v vs 0) 36) j = w_ei w1 (w_ar ws (n_v vs 0) 36) j := el_kp s1.1 r6 cr_0_36 (by decide)
  have hE_0_37_1 : ∀ j : Int, w_ei ws (w_ar ws (n_v vs 0) 37) j = w_ei w1 (w_ar ws (n_v vs 0) 37) j := el_kp s1.1 r6 cr_0_37 (by decide)
  have hE_0_56_1 : ∀ j : Int, w_ei ws (w_ar ws (n_v vs 0) 56) j = w_ei w1 (w_ar ws (n_v vs 0) 56) j := el_kp s1.1 r6 cr_0_56 (by decide)
  have hE_0_57_1 : ∀ j : Int, w_ei ws (w_ar ws (n_v vs 0) 57) j = w_ei w1 (w_ar ws (n_v vs 0) 57) j := el_kp s1.1 r6 cr_0_57 (by decide)
  have kz_0_31 := fdq_145 hD hth r0
  have kz_0_32 := fdq_140 hD hth r0
  have kz_0_53 := fdq_275 hD hth r0
  have hrf0 : 0 ≤ v_iv (n_v vs 2) ∧ v_iv (n_v vs 2) ≤ 159 := vc_Mo_goRound_8_r0 (v_iv (n_v vs 2)) (v_iv (n_v vs 3)) (v_iv (n_v vs 4)) (w_ei ws (w_ar ws (n_v vs 0) 33)) (w_ei ws (w_ar ws (n_v vs 0) 34)) (w_fi ws (n_v vs 0) 31) (w_fi ws (n_v vs 0) 32) (w_ei ws (w_ar ws (n_v vs 0) 35)) (w_ei ws (w_ar ws (n_v vs 0) 36)) (w_ei ws (w_ar ws (n_v vs 0) 37)) (w_fi w1 (n_v vs 0) 53) (w_ei w1 (w_ar ws (n_v vs 0) 33)) (w_ei w1 (w_ar ws (n_v vs 0) 34)) (w_fi w1 (n_v vs 0) 31) (w_fi w1 (n_v vs 0) 32) (w_ei w1 (w_ar ws (n_v vs 0) 35)) (w_ei w1 (w_ar ws (n_v vs 0) 36)) (w_ei w1 (w_ar ws (n_v vs 0) 37)) (w_ei w1 (w_ar ws (n_v vs 0) 54)) (w_ei w1 (w_ar ws (n_v vs 0) 56)) (w_ei w1 (w_ar ws (n_v vs 0) 57)) (w_fi ws (n_v vs 0) 53) (w_ei ws (w_ar ws (n_v vs 0) 56)) (w_ei ws (w_ar ws (n_v vs 0) 57)) k2 k3 k4 f10 fe_0_31_1 fe_0_32_1 fe_0_53_1 hE_0_33_1 hE_0_34_1 hE_0_35_1 hE_0_36_1 hE_0_37_1 hE_0_56_1 hE_0_57_1 kz_0_31 kz_0_32 kz_0_53
  have rf2 : tv_ok ta (0, 0, 159, []) (n_v vs 2) := tv_in t2 (by first | omega | grind) (by first | omega | grind)
  refine ⟨List.forall_mem_cons.mpr ⟨rf2, (fun _ h => (by cases h))⟩, [], trivial, ?_, (fun _ h => (by cases h))⟩
  rw [List.append_nil]
  exact (fun _ h => (by cases h))
set_option maxHeartbeats 4000000 in
theorem vc_Mo_goRound_9_0 (x2 : Int) (x3 : Int) (x4 : Int) (x7 : Int) (x9 : Int) (pt_0 : Int → Int) (ph_0 : Int → Int) (pn_0 : Int) (pm_0 : Int) (alive_0 : Int → Int) (rotMany_0 : Int → Int) (rot_0 : Int → Int) (pt_1 : Int → Int) (ph_1 : Int → Int) (pn_1 : Int) (pm_1 : Int) (alive_1 : Int → Int) (rotMany_1 : Int → Int) (rot_1 : Int → Int) (rounds_2 : Int) (pt_2 : Int → Int) (ph_2 : Int → Int) (pn_2 : Int) (pm_2 : Int) (alive_2 : Int → Int) (rotMany_2 : Int → Int) (rot_2 : Int → Int) (roundOf_2 : Int → Int) (roundBegin_2 : Int → Int) (roundDart_2 : Int → Int) (rounds_0 : Int) (rounds_1 : Int) (roundOf_0 : Int → Int) (roundOf_1 : Int → Int) (roundBegin_0 : Int → Int) (roundBegin_1 : Int → Int) (roundDart_0 : Int → Int) (roundDart_1 : Int → Int) (k2 : 0 ≤ x2 ∧ x2 ≤ 159) (k3 : 0 ≤ x3 ∧ x3 ≤ 255) (k4 : 0 ≤ x4 ∧ x4 ≤ 159) (k7 : 0 ≤ x7 ∧ x7 ≤ 159) (k9 : 1 ≤ x9 ∧ x9 ≤ 160) (f0 : x9 = x2 + 1) (g11 : x7 = rounds_2) (f15 : GII (pm_2) (rounds_2) (pt_2) (ph_2) (alive_2) (rotMany_2) (rot_2) (roundOf_2) (roundBegin_2) (roundDart_2) (x2) (x3) (x4)) (fe_0_31_1 : pn_0 = pn_1) (fe_0_32_1 : pm_0 = pm_1) (fe_0_53_1 : rounds_0 = rounds_1) (fe_0_31_2 : pn_1 = pn_2) (fe_0_32_2 : pm_1 = pm_2) (fe_0_53_2 : rounds_1 = rounds_2) (hE_0_33_1 : ∀ j : Int, pt_0 j = pt_1 j) (hE_0_33_2 : ∀ j : Int, pt_1 j = pt_2 j) (hE_0_34_1 : ∀ j : Int, ph_0 j = ph_1 j) (hE_0_34_2 : ∀ j : Int, ph_1 j = ph_2 j) (hE_0_35_1 : ∀ j : Int, alive_0 j = alive_1 j) (hE_0_35_2 : ∀ j : Int, alive_1 j = alive_2 j) (hE_0_36_1 : ∀ j : Int, rotMany_0 j = rotMany_1 j) (hE_0_36_2 : ∀ j : Int, rotMany_1 j = rotMany_2 j) (hE_0_37_1 : ∀ j : Int, rot_0 j = rot_1 j) (hE_0_37_2 : ∀ j : Int, rot_1 j = rot_2 j) (hE_0_54_1 : ∀ j : Int, roundOf_0 j = roundOf_1 j) (hE_0_54_2 : ∀ j : Int, 0 ≤ j → (j = x4 → roundOf_1 j = x7) ∧ (j ≠ x4 → roundOf_1 j = roundOf_2 j)) (hE_0_56_1 : ∀ j : Int, roundBegin_0 j = roundBegin_1 j) (hE_0_56_2 : ∀ j : Int, roundBegin_1 j = roundBegin_2 j) (hE_0_57_1 : ∀ j : Int, 0 ≤ j → (j = x2 → roundDart_0 j = x4) ∧ (j ≠ x2 → roundDart_0 j = roundDart_1 j)) (hE_0_57_2 : ∀ j : Int, roundDart_1 j = roundDart_2 j) (kz_0_31 : 0 ≤ pn_0 ∧ pn_0 ≤ 25) (kz_0_32 : 0 ≤ pm_0 ∧ pm_0 ≤ 80) (kz_0_53 : 0 ≤ rounds_0 ∧ rounds_0 ≤ 160) : GIA (pm_0) (rounds_0) (pt_0) (ph_0) (alive_0) (rotMany_0) (rot_0) (roundOf_0) (roundBegin_0) (roundDart_0) (x9) (x3) (x4) := by
  subst fe_0_31_1
  subst fe_0_32_1
  subst fe_0_53_1
  subst fe_0_31_2
  subst fe_0_32_2
  subst fe_0_53_2
  have e_hE_0_33_1 := funext hE_0_33_1; subst e_hE_0_33_1
  have e_hE_0_33_2 := funext hE_0_33_2; subst e_hE_0_33_2
  have e_hE_0_34_1 := funext hE_0_34_1; subst e_hE_0_34_1
  have e_hE_0_34_2 := funext hE_0_34_2; subst e_hE_0_34_2
  have e_hE_0_35_1 := funext hE_0_35_1; subst e_hE_0_35_1
  have e_hE_0_35_2 := funext hE_0_35_2; subst e_hE_0_35_2
  have e_hE_0_36_1 := funext hE_0_36_1; subst e_hE_0_36_1
  have e_hE_0_36_2 := funext hE_0_36_2; subst e_hE_0_36_2
  have e_hE_0_37_1 := funext hE_0_37_1; subst e_hE_0_37_1
  have e_hE_0_37_2 := funext hE_0_37_2; subst e_hE_0_37_2
  have e_hE_0_54_1 := funext hE_0_54_1; subst e_hE_0_54_1
  have e_hE_0_56_1 := funext hE_0_56_1; subst e_hE_0_56_1
  have e_hE_0_56_2 := funext hE_0_56_2; subst e_hE_0_56_2
  have e_hE_0_57_2 := funext hE_0_57_2; subst e_hE_0_57_2
  exact gii_app ‹GII _ _ _ _ _ _ _ _ _ _ _ _ _› hE_0_54_2 rfl (by omega) hE_0_57_1 rfl rfl (by omega)
set_option maxHeartbeats 4000000 in
theorem vc_Mo_goRound_9_1 (x2 : Int) (x3 : Int) (x4 : Int) (pt_0 : Int → Int) (ph_0 : Int → Int) (pn_0 : Int) (pm_0 : Int) (alive_0 : Int → Int) (rotMany_0 : Int → Int) (rot_0 : Int → Int) (pt_1 : Int → Int) (ph_1 : Int → Int) (pn_1 : Int) (pm_1 : Int) (alive_1 : Int → Int) (rotMany_1 : Int → Int) (rot_1 : Int → Int) (rounds_2 : Int) (pt_2 : Int → Int) (ph_2 : Int → Int) (pn_2 : Int) (pm_2 : Int) (alive_2 : Int → Int) (rotMany_2 : Int → Int) (rot_2 : Int → Int) (roundOf_2 : Int → Int) (roundBegin_2 : Int → Int) (roundDart_2 : Int → Int) (rounds_0 : Int) (rounds_1 : Int) (roundOf_0 : Int → Int) (roundOf_1 : Int → Int) (roundBegin_0 : Int → Int) (roundBegin_1 : Int → Int) (roundDart_1 : Int → Int) (k2 : 0 ≤ x2 ∧ x2 ≤ 159) (k3 : 0 ≤ x3 ∧ x3 ≤ 255) (k4 : 0 ≤ x4 ∧ x4 ≤ 159) (f15 : GII (pm_2) (rounds_2) (pt_2) (ph_2) (alive_2) (rotMany_2) (rot_2) (roundOf_2) (roundBegin_2) (roundDart_2) (x2) (x3) (x4)) (fe_0_31_1 : pn_0 = pn_1) (fe_0_32_1 : pm_0 = pm_1) (fe_0_53_1 : rounds_0 = rounds_1) (fe_0_31_2 : pn_1 = pn_2) (fe_0_32_2 : pm_1 = pm_2) (fe_0_53_2 : rounds_1 = rounds_2) (hE_0_33_1 : ∀ j : Int, pt_0 j = pt_1 j) (hE_0_33_2 : ∀ j : Int, pt_1 j = pt_2 j) (hE_0_34_1 : ∀ j : Int, ph_0 j = ph_1 j) (hE_0_34_2 : ∀ j : Int, ph_1 j = ph_2 j) (hE_0_35_1 : ∀ j : Int, alive_0 j = alive_1 j) (hE_0_35_2 : ∀ j : Int, alive_1 j = alive_2 j) (hE_0_36_1 : ∀ j : Int, rotMany_0 j = rotMany_1 j) (hE_0_36_2 : ∀ j : Int, rotMany_1 j = rotMany_2 j) (hE_0_37_1 : ∀ j : Int, rot_0 j = rot_1 j) (hE_0_37_2 : ∀ j : Int, rot_1 j = rot_2 j) (hE_0_54_1 : ∀ j : Int, roundOf_0 j = roundOf_1 j) (hE_0_56_1 : ∀ j : Int, roundBegin_0 j = roundBegin_1 j) (hE_0_56_2 : ∀ j : Int, roundBegin_1 j = roundBegin_2 j) (hE_0_57_2 : ∀ j : Int, roundDart_1 j = roundDart_2 j) (kz_0_31 : 0 ≤ pn_0 ∧ pn_0 ≤ 25) (kz_0_32 : 0 ≤ pm_0 ∧ pm_0 ≤ 80) (kz_0_53 : 0 ≤ rounds_0 ∧ rounds_0 ≤ 160) : LIV (pm_0) (alive_0) (x4) := by
  subst fe_0_31_1
  subst fe_0_32_1
  subst fe_0_53_1
  subst fe_0_31_2
  subst fe_0_32_2
  subst fe_0_53_2
  have e_hE_0_33_1 := funext hE_0_33_1; subst e_hE_0_33_1
  have e_hE_0_33_2 := funext hE_0_33_2; subst e_hE_0_33_2
  have e_hE_0_34_1 := funext hE_0_34_1; subst e_hE_0_34_1
  have e_hE_0_34_2 := funext hE_0_34_2; subst e_hE_0_34_2
  have e_hE_0_35_1 := funext hE_0_35_1; subst e_hE_0_35_1
  have e_hE_0_35_2 := funext hE_0_35_2; subst e_hE_0_35_2
  have e_hE_0_36_1 := funext hE_0_36_1; subst e_hE_0_36_1
  have e_hE_0_36_2 := funext hE_0_36_2; subst e_hE_0_36_2
  have e_hE_0_37_1 := funext hE_0_37_1; subst e_hE_0_37_1
  have e_hE_0_37_2 := funext hE_0_37_2; subst e_hE_0_37_2
  have e_hE_0_54_1 := funext hE_0_54_1; subst e_hE_0_54_1
  have e_hE_0_56_1 := funext hE_0_56_1; subst e_hE_0_56_1
  have e_hE_0_56_2 := funext hE_0_56_2; subst e_hE_0_56_2
  have e_hE_0_57_2 := funext hE_0_57_2; subst e_hE_0_57_2
  exact (gii_len ‹GII _ _ _ _ _ _ _ _ _ _ _ _ _›).2.2.2.2
def o_Mo_goRound_9 : or_T := (101, 10, [(0, (2, 0, 0, [165])), (2, (0, 0, 159, [])), (3, (0, 0, 255, [])), (4, (0, 0, 159, [])), (6, (2, 0, 0, [196])), (7, (0, 0, 159, [])), (8, (2, 0, 0, [199])), (9, (0, 1, 160, []))], [(6, [9, 2], [1]), (24, [0, 1], []), (100, [8, 2, 4], []), (9, [8, 1], [57]), (100, [6, 4, 7], []), (9, [7, 1], [53]), (9, [6, 1], [54]), (20, [1, 2, 3, 4], [60, 2, 8, 194, 32, 53, 33, 34, 35, 36, 37, 54, 56, 57])], [], [], [(20, [1, 9, 3, 4], [60, 2, 8, 195, 32, 53, 33, 34, 35, 36, 37, 54, 56, 57]), (20, [1, 4], [60, 1, 1, 190, 32, 35])], [], [(9, 2, 1, 1)])
theorem oo_Mo_goRound_9 {kA : Nat → ClassId} : or_ok PRD kA GG o_Mo_goRound_9 := by
  refine or_mk fun A ta ws vs hD hth hl => ?_
  intro t0 r0 t2 k2 t3 k3 t4 k4 t6 r6 t7 k7 t8 r8 t9 k9 d0 f0 f4 ta1 w1 le1 s1 f6 ta2 w2 le2 s2 f11 f12 f15
  replace f0 := shm_4 f0
  replace f4 := shm_5 f4
  have s1 : (∀ b j, w_el ws b j = if b = v_ad (n_v vs 8) ∧ j = (v_iv (n_v vs 2)).toNat then v_iv (n_v vs 4) else w_el w1 b j) ∧ ∀ b k, w_fd ws b k = w_fd w1 b k := s1.2
  replace f6 := shm_1138 f6
  have s2 : (∀ b j, w_el w1 b j = if b = v_ad (n_v vs 6) ∧ j = (v_iv (n_v vs 4)).toNat then v_iv (n_v vs 7) else w_el w2 b j) ∧ ∀ b k, w_fd w1 b k = w_fd w2 b k := s2.2
  replace f11 := shm_1132 f11
  replace f12 := shm_1122 f12
  replace f15 := shm_1137 f15
  have q1 : n_v vs 1 = n_v vs 0 := f4.symm
  simp only [q1] at f6 f11 f12 f15
  have ar_0_33_1 : w_ar w1 (n_v vs 0) 33 = w_ar ws (n_v vs 0) 33 := congrArg v_ad (s1.2 _ _).symm
  have ar_0_33_2 : w_ar w2 (n_v vs 0) 33 = w_ar ws (n_v vs 0) 33 := by rw [← ar_0_33_1]; show v_ad (w_fd w2 _ _) = v_ad (w_fd w1 _ _); rw [s2.2]
  have cr_0_33 := fdq_117 hD hth r0
  have ar_0_34_1 : w_ar w1 (n_v vs 0) 34 = w_ar ws (n_v vs 0) 34 := congrArg v_ad (s1.2 _ _).symm
  have ar_0_34_2 : w_ar w2 (n_v vs 0) 34 = w_ar ws (n_v vs 0) 34 := by rw [← ar_0_34_1]; show v_ad (w_fd w2 _ _) = v_ad (w_fd w1 _ _); rw [s2.2]
  have cr_0_34 := fdq_118 hD hth r0
  have ar_0_35_1 : w_ar w1 (n_v vs 0) 35 = w_ar ws (n_v vs 0) 35 := congrArg v_ad (s1.2 _ _).symm
  have ar_0_35_2 : w_ar w2 (n_v vs 0) 35 = w_ar ws (n_v vs 0) 35 := by rw [← ar_0_35_1]; show v_ad (w_fd w2 _ _) = v_ad (w_fd w1 _ _); rw [s2.2]
  have cr_0_35 := fdq_132 hD hth r0
  have ar_0_36_1 : w_ar w1 (n_v vs 0) 36 = w_ar ws (n_v vs 0) 36 := congrArg v_ad (s1.2 _ _).symm
  have ar_0_36_2 : w_ar w2 (n_v vs 0) 36 = w_ar ws (n_v vs 0) 36 := by rw [← ar_0_36_1]; show v_ad (w_fd w2 _ _) = v_ad (w_fd w1 _ _); rw [s2.2]
  have cr_0_36 := fdq_167 hD hth r0
  have ar_0_37_1 : w_ar w1 (n_v vs 0) 37 = w_ar ws (n_v vs 0) 37 := congrArg v_ad (s1.2 _ _).symm
  have ar_0_37_2 : w_ar w2 (n_v vs 0) 37 = w_ar ws (n_v vs 0) 37 := by rw [← ar_0_37_1]; show v_ad (w_fd w2 _ _) = v_ad (w_fd w1 _ _); rw [s2.2]
  have cr_0_37 := fdq_168 hD hth r0
  have ar_0_54_1 : w_ar w1 (n_v vs 0) 54 = w_ar ws (n_v vs 0) 54 := congrArg v_ad (s1.2 _ _).symm
  have ar_0_54_2 : w_ar w2 (n_v vs 0) 54 = w_ar ws (n_v vs 0) 54 := by rw [← ar_0_54_1]; show v_ad (w_fd w2 _ _) = v_ad (w_fd w1 _ _); rw [s2.2]
  have cr_0_54 := fdq_272 hD hth r0
  have ar_0_56_1 : w_ar w1 (n_v vs 0) 56 = w_ar ws (n_v vs 0) 56 := congrArg v_ad (s1.2 _ _).symm
  have ar_0_56_2 : w_ar w2 (n_v vs 0) 56 = w_ar ws (n_v vs 0) 56 := by rw [← ar_0_56_1]; show v_ad (w_fd w2 _ _) = v_ad (w_fd w1 _ _); rw [s2.2]
  have cr_0_56 := fdq_273 hD hth r0
  have ar_0_57_1 : w_ar w1 (n_v vs 0) 57 = w_ar ws (n_v vs 0) 57 := congrArg v_ad (s1.2 _ _).symm
  have ar_0_57_2 : w_ar w2 (n_v vs 0) 57 = w_ar ws (n_v vs 0) 57 := by rw [← ar_0_57_1]; show v_ad (w_fd w2 _ _) = v_ad (w_fd w1 _ _); rw [s2.2]
  have cr_0_57 := fdq_274 hD hth r0
  have ad_8 : v_ad (n_v vs 8) = w_ar ws (n_v vs 0) 57 := (congrArg v_ad f6).trans ar_0_57_1
  have ad_6 : v_ad (n_v vs 6) = w_ar ws (n_v vs 0) 54 := (congrArg v_ad f12).trans ar_0_54_2
  have g11 : v_iv (n_v vs 7) = w_fi w2 (n_v vs 0) 53 := congrArg v_iv f11
  simp only [ar_0_33_2, ar_0_34_2, ar_0_35_2, ar_0_36_2, ar_0_37_2, ar_0_54_2, ar_0_56_2, ar_0_57_2] at f15
  have fe_0_31_1 : w_fi ws (n_v vs 0) 31 = w_fi w1 (n_v vs 0) 31 := congrArg v_iv (s1.2 _ _)
  have fe_0_32_1 : w_fi ws (n_v vs 0) 32 = w_fi w1 (n_v vs 0) 32 := congrArg v_iv (s1.2 _ _)
  have fe_0_53_1 : w_fi ws (n_v vs 0) 53 = w_fi w1 (n_v vs 0) 53 := congrArg v_iv (s1.2 _ _)
  have fe_0_31_2 : w_fi w1 (n_v vs 0) 31 = w_fi w2 (n_v vs 0) 31 := congrArg v_iv (s2.2 _ _)
  have fe_0_32_2 : w_fi w1 (n_v vs 0) 32 = w_fi w2 (n_v vs 0) 32 := congrArg v_iv (s2.2 _ _)
  have fe_0_53_2 : w_fi w1 (n_v vs 0) 53 = w_fi w2 (n_v vs 0) 53 := congrArg v_iv (s2.2 _ _)
  have hE_0_33_1 : ∀ j : Int, w_ei ws (w_ar ws (n_v vs 0) 33) j = w_ei w1 (w_ar ws (n_v vs 0) 33) j := el_kp s1.1 r8 cr_0_33 (by decide)
  have hE_0_33_2 : ∀ j : Int, w_ei w1 (w_ar ws (n_v vs 0) 33) j = w_ei w2 (w_ar ws (n_v vs 0) 33) j := el_kp s2.1 r6 cr_0_33 (by decide)
  have hE_0_34_1 : ∀ j : Int, w_ei ws (w_ar ws (n_v vs 0) 34) j = w_ei w1 (w_ar ws (n_v vs 0) 34) j := el_kp s1.1 r8 cr_0_34 (by decide)
  have hE_0_34_2 : ∀ j : Int, w_ei w1 (w_ar ws (n_v vs 0) 34) j = w_ei w2 (w_ar ws (n_v vs 0) 34) j := el_kp s2.1 r6 cr_0_34 (by decide)
  have hE_0_35_1 : ∀ j : Int, w_ei ws (w_ar ws (n_v vs 0) 35) j = w_ei w1 (w_ar ws (n_v vs 0) 35) j := el_kp s1.1 r8 cr_0_35 (by decide)
  have hE_0_35_2 : ∀ j : Int, w_ei w1 (w_ar ws (n_v vs 0) 35) j = w_ei w2 (w_ar ws (n_v vs 0) 35) j := el_kp s2.1 r6 cr_0_35 (by decide)
  have hE_0_36_1 : ∀ j : Int, w_ei ws (w_ar ws (n_v vs 0) 36) j = w_ei w1 (w_ar ws (n_v vs 0) 36) j := el_kp s1.1 r8 cr_0_36 (by decide)
  have hE_0_36_2 : ∀ j : Int, w_ei w1 (w_ar ws (n_v vs 0) 36) j = w_ei w2 (w_ar ws (n_v vs 0) 36) j := el_kp s2.1 r6 cr_0_36 (by decide)
  have hE_0_37_1 : ∀ j : Int, w_ei ws (w_ar ws (n_v vs 0) 37) j = w_ei w1 (w_ar ws (n_v vs 0) 37) j := el_kp s1.1 r8 cr_0_37 (by decide)
  have hE_0_37_2 : ∀ j : Int, w_ei w1 (w_ar ws (n_v vs 0) 37) j = w_ei w2 (w_ar ws (n_v vs 0) 37) j := el_kp s2.1 r6 cr_0_37 (by decide)
  have hE_0_54_1 : ∀ j : Int, w_ei ws (w_ar ws (n_v vs 0) 54) j = w_ei w1 (w_ar ws (n_v vs 0) 54) j := el_kp s1.1 r8 cr_0_54 (by decide)
  have hE_0_54_2 : ∀ j : Int, 0 ≤ j → (j = v_iv (n_v vs 4) → w_ei w1 (w_ar ws (n_v vs 0) 54) j = v_iv (n_v vs 7)) ∧ (j ≠ v_iv (n_v vs 4) → w_ei w1 (w_ar ws (n_v vs 0) 54) j = w_ei w2 (w_ar ws (n_v vs 0) 54) j) := fun j hj => ⟨fun h => by unfold w_ei; rw [s2.1, if_pos ⟨ad_6.symm, by rw [h]⟩], fun h => by unfold w_ei; rw [s2.1, if_neg (fun e => h (by have := e.2; omega))]⟩
  have hE_0_56_1 : ∀ j : Int, w_ei ws (w_ar ws (n_v vs 0) 56) j = w_ei w1 (w_ar ws (n_v vs 0) 56) j := el_kp s1.1 r8 cr_0_56 (by decide)
  have hE_0_56_2 : ∀ j : Int, w_ei w1 (w_ar ws (n_v vs 0) 56) j = w_ei w2 (w_ar ws (n_v vs 0) 56) j := el_kp s2.1 r6 cr_0_56 (by decide)
  have hE_0_57_1 : ∀ j : Int, 0 ≤ j → (j = v_iv (n_v vs 2) → w_ei ws (w_ar ws (n_v vs 0) 57) j = v_iv (n_v vs 4)) ∧ (j ≠ v_iv (n_v vs 2) → w_ei ws (w_ar ws (n_v vs 0) 57) j = w_ei w1 (w_ar ws (n_v vs 0) 57) j) := fun j hj => ⟨fun h => by unfold w_ei; rw [s1.1, if_pos ⟨ad_8.symm, by rw [h]⟩], fun h => by unfold w_ei; rw [s1.1, if_neg (fun e => h (by have := e.2; omega))]⟩
  have hE_0_57_2 : ∀ j : Int, w_ei w1 (w_ar ws (n_v vs 0) 57) j = w_ei w2 (w_ar ws (n_v vs 0) 57) j := el_kp s2.1 r6 cr_0_57 (by decide)
  have kz_0_31 := fdq_145 hD hth r0
  have kz_0_32 := fdq_140 hD hth r0
  have kz_0_53 := fdq_275 hD hth r0
  have nf0 : fc_1 PRD (20, [1, 9, 3, 4], [60, 2, 8, 195, 32, 53, 33, 34, 35, 36, 37, 54, 56, 57]) ws (vs) := by
    refine ⟨nf_in hl rfl, sgq_1139 ?_⟩
    · show GIA (w_fi ws (n_v vs 1) 32) (w_fi ws (n_v vs 1) 53) (w_ei ws (w_ar ws (n_v vs 1) 33)) (w_ei ws (w_ar ws (n_v vs 1) 34)) (w_ei ws (w_ar ws (n_v vs 1) 35)) (w_ei ws (w_ar ws (n_v vs 1) 36)) (w_ei ws (w_ar ws (n_v vs 1) 37)) (w_ei ws (w_ar ws (n_v vs 1) 54)) (w_ei ws (w_ar ws (n_v vs 1) 56)) (w_ei ws (w_ar ws (n_v vs 1) 57)) (v_iv (n_v vs 9)) (v_iv (n_v vs 3)) (v_iv (n_v vs 4))
      rw [q1]
      exact vc_Mo_goRound_9_0 (v_iv (n_v vs 2)) (v_iv (n_v vs 3)) (v_iv (n_v vs 4)) (v_iv (n_v vs 7)) (v_iv (n_v vs 9)) (w_ei ws (w_ar ws (n_v vs 0) 33)) (w_ei ws (w_ar ws (n_v vs 0) 34)) (w_fi ws (n_v vs 0) 31) (w_fi ws (n_v vs 0) 32) (w_ei ws (w_ar ws (n_v vs 0) 35)) (w_ei ws (w_ar ws (n_v vs 0) 36)) (w_ei ws (w_ar ws (n_v vs 0) 37)) (w_ei w1 (w_ar ws (n_v vs 0) 33)) (w_ei w1 (w_ar ws (n_v vs 0) 34)) (w_fi w1 (n_v vs 0) 31) (w_fi w1 (n_v vs 0) 32) (w_ei w1 (w_ar ws (n_v vs 0) 35)) (w_ei w1 (w_ar ws (n_v vs 0) 36)) (w_ei w1 (w_ar ws (n_v vs 0) 37)) (w_fi w2 (n_v vs 0) 53) (w_ei w2 (w_ar ws (n_v vs 0) 33)) (w_ei w2 (w_ar ws (n_v vs 0) 34)) (w_fi w2 (n_v vs 0) 31) (w_fi w2 (n_v vs 0) 32) (w_ei w2 (w_ar ws (n_v vs 0) 35)) (w_ei w2 (w_ar ws (n_v vs 0) 36)) (w_ei w2 (w_ar ws (n_v vs 0) 37)) (w_ei w2 (w_ar ws (n_v vs 0) 54)) (w_ei w2 (w_ar ws (n_v vs 0) 56)) (w_ei w2 (w_ar ws (n_v vs 0) 57)) (w_fi ws (n_v vs 0) 53) (w_fi w1 (n_v vs 0) 53) (w_ei ws (w_ar ws (n_v vs 0) 54)) (w_ei w1 (w_ar ws (n_v vs 0) 54)) (w_ei ws (w_ar ws (n_v vs 0) 56)) (w_ei w1 (w_ar ws (n_v vs 0) 56)) (w_ei ws (w_ar ws (n_v vs 0) 57)) (w_ei w1 (w_ar ws (n_v vs 0) 57)) k2 k3 k4 k7 k9 f0 g11 f15 fe_0_31_1 fe_0_32_1 fe_0_53_1 fe_0_31_2 fe_0_32_2 fe_0_53_2 hE_0_33_1 hE_0_33_2 hE_0_34_1 hE_0_34_2 hE_0_35_1 hE_0_35_2 hE_0_36_1 hE_0_36_2 hE_0_37_1 hE_0_37_2 hE_0_54_1 hE_0_54_2 hE_0_56_1 hE_0_56_2 hE_0_57_1 hE_0_57_2 kz_0_31 kz_0_32 kz_0_53
  have nf1 : fc_1 PRD (20, [1, 4], [60, 1, 1, 190, 32, 35]) ws (vs) := by
    refine ⟨nf_in hl rfl, sgq_1013 ?_⟩
    · show LIV (w_fi ws (n_v vs 1) 32) (w_ei ws (w_ar ws (n_v vs 1) 35)) (v_iv (n_v vs 4))
      rw [q1]
      exact vc_Mo_goRound_9_1 (v_iv (n_v vs 2)) (v_iv (n_v vs 3)) (v_iv (n_v vs 4)) (w_ei ws (w_ar ws (n_v vs 0) 33)) (w_ei ws (w_ar ws (n_v vs 0) 34)) (w_fi ws (n_v vs 0) 31) (w_fi ws (n_v vs 0) 32) (w_ei ws (w_ar ws (n_v vs 0) 35)) (w_ei ws (w_ar ws (n_v vs 0) 36)) (w_ei ws (w_ar ws (n_v vs 0) 37)) (w_ei w1 (w_ar ws (n_v vs 0) 33)) (w_ei w1 (w_ar ws (n_v vs 0) 34)) (w_fi w1 (n_v vs 0) 31) (w_fi w1 (n_v vs 0) 32) (w_ei w1 (w_ar ws (n_v vs 0) 35)) (w_ei w1 (w_ar ws (n_v vs 0) 36)) (w_ei w1 (w_ar ws (n_v vs 0) 37)) (w_fi w2 (n_v vs 0) 53) (w_ei w2 (w_ar ws (n_v vs 0) 33)) (w_ei w2 (w_ar ws (n_v vs 0) 34)) (w_fi w2 (n_v vs 0) 31) (w_fi w2 (n_v vs 0) 32) (w_ei w2 (w_ar ws (n_v vs 0) 35)) (w_ei w2 (w_ar ws (n_v vs 0) 36)) (w_ei w2 (w_ar ws (n_v vs 0) 37)) (w_ei w2 (w_ar ws (n_v vs 0) 54)) (w_ei w2 (w_ar ws (n_v vs 0) 56)) (w_ei w2 (w_ar ws (n_v vs 0) 57)) (w_fi ws (n_v vs 0) 53) (w_fi w1 (n_v vs 0) 53) (w_ei ws (w_ar ws (n_v vs 0) 54)) (w_ei w1 (w_ar ws (n_v vs 0) 54)) (w_ei ws (w_ar ws (n_v vs 0) 56)) (w_ei w1 (w_ar ws (n_v vs 0) 56)) (w_ei w1 (w_ar ws (n_v vs 0) 57)) k2 k3 k4 f15 fe_0_31_1 fe_0_32_1 fe_0_53_1 fe_0_31_2 fe_0_32_2 fe_0_53_2 hE_0_33_1 hE_0_33_2 hE_0_34_1 hE_0_34_2 hE_0_35_1 hE_0_35_2 hE_0_36_1 hE_0_36_2 hE_0_37_1 hE_0_37_2 hE_0_54_1 hE_0_56_1 hE_0_56_2 hE_0_57_2 kz_0_31 kz_0_32 kz_0_53
  refine ⟨(fun _ h => (by cases h)), [], trivial, ?_, (fun _ h => (by cases h))⟩
  rw [List.append_nil]
  exact List.forall_mem_cons.mpr ⟨⟨show (20 : Nat) < 100 from by decide, nf0⟩, List.forall_mem_cons.mpr ⟨⟨show (20 : Nat) < 100 from by decide, nf1⟩, (fun _ h => (by cases h))⟩⟩
set_option maxHeartbeats 4000000 in
theorem vc_Mo_goRound_10_0 (pt_0 : Int → Int) (ph_0 : Int → Int) (rotMany_0 : Int → Int) (rot_0 : Int → Int) (pm_0 : Int) (alive_0 : Int → Int) (roundOf_0 : Int → Int) (roundBegin_0 : Int → Int) (rounds_0 : Int) (pn_0 : Int) (pt_1 : Int → Int) (ph_1 : Int → Int) (pn_1 : Int) (pm_1 : Int) (alive_1 : Int → Int) (rotMany_1 : Int → Int) (rot_1 : Int → Int) (rounds_2 : Int) (pt_2 : Int → Int) (ph_2 : Int → Int) (pn_2 : Int) (pm_2 : Int) (alive_2 : Int → Int) (rotMany_2 : Int → Int) (rot_2 : Int → Int) (roundBegin_2 : Int → Int) (roundDart_2 : Int → Int) (rounds_1 : Int) (roundOf_1 : Int → Int) (roundBegin_1 : Int → Int) (roundDart_1 : Int → Int) (f16 : GOK (pn_2) (pm_2) (pt_2) (ph_2)) (fe_0_31_1 : pn_0 = pn_1) (fe_0_32_1 : pm_0 = pm_1) (fe_0_53_1 : rounds_0 = rounds_1) (fe_0_31_2 : pn_1 = pn_2) (fe_0_32_2 : pm_1 = pm_2) (fe_0_53_2 : rounds_1 = rounds_2) (hE_0_33_1 : ∀ j : Int, pt_0 j = pt_1 j) (hE_0_33_2 : ∀ j : Int, pt_1 j = pt_2 j) (hE_0_34_1 : ∀ j : Int, ph_0 j = ph_1 j) (hE_0_34_2 : ∀ j : Int, ph_1 j = ph_2 j) (hE_0_35_1 : ∀ j : Int, alive_0 j = alive_1 j) (hE_0_35_2 : ∀ j : Int, alive_1 j = alive_2 j) (hE_0_36_1 : ∀ j : Int, rotMany_0 j = rotMany_1 j) (hE_0_36_2 : ∀ j : Int, rotMany_1 j = rotMany_2 j) (hE_0_37_1 : ∀ j : Int, rot_0 j = rot_1 j) (hE_0_37_2 : ∀ j : Int, rot_1 j = rot_2 j) (hE_0_54_1 : ∀ j : Int, roundOf_0 j = roundOf_1 j) (hE_0_56_1 : ∀ j : Int, roundBegin_0 j = roundBegin_1 j) (hE_0_56_2 : ∀ j : Int, roundBegin_1 j = roundBegin_2 j) (hE_0_57_2 : ∀ j : Int, roundDart_1 j = roundDart_2 j) (kz_0_31 : 0 ≤ pn_0 ∧ pn_0 ≤ 25) (kz_0_32 : 0 ≤ pm_0 ∧ pm_0 ≤ 80) (kz_0_53 : 0 ≤ rounds_0 ∧ rounds_0 ≤ 160) : GOK (pn_0) (pm_0) (pt_0) (ph_0) := by
  subst fe_0_31_1
  subst fe_0_32_1
  subst fe_0_53_1
  subst fe_0_31_2
  subst fe_0_32_2
  subst fe_0_53_2
  have e_hE_0_33_1 := funext hE_0_33_1; subst e_hE_0_33_1
  have e_hE_0_33_2 := funext hE_0_33_2; subst e_hE_0_33_2
  have e_hE_0_34_1 := funext hE_0_34_1; subst e_hE_0_34_1
  have e_hE_0_34_2 := funext hE_0_34_2; subst e_hE_0_34_2
  have e_hE_0_35_1 := funext hE_0_35_1; subst e_hE_0_35_1
  have e_hE_0_35_2 := funext hE_0_35_2; subst e_hE_0_35_2
  have e_hE_0_36_1 := funext hE_0_36_1; subst e_hE_0_36_1
  have e_hE_0_36_2 := funext hE_0_36_2; subst e_hE_0_36_2
  have e_hE_0_37_1 := funext hE_0_37_1; subst e_hE_0_37_1
  have e_hE_0_37_2 := funext hE_0_37_2; subst e_hE_0_37_2
  have e_hE_0_54_1 := funext hE_0_54_1; subst e_hE_0_54_1
  have e_hE_0_56_1 := funext hE_0_56_1; subst e_hE_0_56_1
  have e_hE_0_56_2 := funext hE_0_56_2; subst e_hE_0_56_2
  have e_hE_0_57_2 := funext hE_0_57_2; subst e_hE_0_57_2
  first | assumption
set_option maxHeartbeats 4000000 in
theorem vc_Mo_goRound_10_1 (pt_0 : Int → Int) (ph_0 : Int → Int) (rotMany_0 : Int → Int) (rot_0 : Int → Int) (pm_0 : Int) (alive_0 : Int → Int) (roundOf_0 : Int → Int) (roundBegin_0 : Int → Int) (rounds_0 : Int) (pn_0 : Int) (pt_1 : Int → Int) (ph_1 : Int → Int) (pn_1 : Int) (pm_1 : Int) (alive_1 : Int → Int) (rotMany_1 : Int → Int) (rot_1 : Int → Int) (rounds_2 : Int) (pt_2 : Int → Int) (ph_2 : Int → Int) (pn_2 : Int) (pm_2 : Int) (alive_2 : Int → Int) (rotMany_2 : Int → Int) (rot_2 : Int → Int) (roundBegin_2 : Int → Int) (roundDart_2 : Int → Int) (rounds_1 : Int) (roundOf_1 : Int → Int) (roundBegin_1 : Int → Int) (roundDart_1 : Int → Int) (f17 : EML (pn_2) (pm_2) (pt_2) (ph_2) (alive_2) (rotMany_2) (rot_2)) (fe_0_31_1 : pn_0 = pn_1) (fe_0_32_1 : pm_0 = pm_1) (fe_0_53_1 : rounds_0 = rounds_1) (fe_0_31_2 : pn_1 = pn_2) (fe_0_32_2 : pm_1 = pm_2) (fe_0_53_2 : rounds_1 = rounds_2) (hE_0_33_1 : ∀ j : Int, pt_0 j = pt_1 j) (hE_0_33_2 : ∀ j : Int, pt_1 j = pt_2 j) (hE_0_34_1 : ∀ j : Int, ph_0 j = ph_1 j) (hE_0_34_2 : ∀ j : Int, ph_1 j = ph_2 j) (hE_0_35_1 : ∀ j : Int, alive_0 j = alive_1 j) (hE_0_35_2 : ∀ j : Int, alive_1 j = alive_2 j) (hE_0_36_1 : ∀ j : Int, rotMany_0 j = rotMany_1 j) (hE_0_36_2 : ∀ j : Int, rotMany_1 j = rotMany_2 j) (hE_0_37_1 : ∀ j : Int, rot_0 j = rot_1 j) (hE_0_37_2 : ∀ j : Int, rot_1 j = rot_2 j) (hE_0_54_1 : ∀ j : Int, roundOf_0 j = roundOf_1 j) (hE_0_56_1 : ∀ j : Int, roundBegin_0 j = roundBegin_1 j) (hE_0_56_2 : ∀ j : Int, roundBegin_1 j = roundBegin_2 j) (hE_0_57_2 : ∀ j : Int, roundDart_1 j = roundDart_2 j) (kz_0_31 : 0 ≤ pn_0 ∧ pn_0 ≤ 25) (kz_0_32 : 0 ≤ pm_0 ∧ pm_0 ≤ 80) (kz_0_53 : 0 ≤ rounds_0 ∧ rounds_0 ≤ 160) : EML (pn_0) (pm_0) (pt_0) (ph_0) (alive_0) (rotMany_0) (rot_0) := by
  subst fe_0_31_1
  subst fe_0_32_1
  subst fe_0_53_1
  subst fe_0_31_2
  subst fe_0_32_2
  subst fe_0_53_2
  have e_hE_0_33_1 := funext hE_0_33_1; subst e_hE_0_33_1
  have e_hE_0_33_2 := funext hE_0_33_2; subst e_hE_0_33_2
  have e_hE_0_34_1 := funext hE_0_34_1; subst e_hE_0_34_1
  have e_hE_0_34_2 := funext hE_0_34_2; subst e_hE_0_34_2
  have e_hE_0_35_1 := funext hE_0_35_1; subst e_hE_0_35_1
  have e_hE_0_35_2 := funext hE_0_35_2; subst e_hE_0_35_2
  have e_hE_0_36_1 := funext hE_0_36_1; subst e_hE_0_36_1
  have e_hE_0_36_2 := funext hE_0_36_2; subst e_hE_0_36_2
  have e_hE_0_37_1 := funext hE_0_37_1; subst e_hE_0_37_1
  have e_hE_0_37_2 := funext hE_0_37_2; subst e_hE_0_37_2
  have e_hE_0_54_1 := funext hE_0_54_1; subst e_hE_0_54_1
  have e_hE_0_56_1 := funext hE_0_56_1; subst e_hE_0_56_1
  have e_hE_0_56_2 := funext hE_0_56_2; subst e_hE_0_56_2
  have e_hE_0_57_2 := funext hE_0_57_2; subst e_hE_0_57_2
  first | assumption
set_option maxHeartbeats 4000000 in
theorem vc_Mo_goRound_10_2 (x3 : Int) (x4 : Int) (x9 : Int) (x10 : Int) (pt_0 : Int → Int) (ph_0 : Int → Int) (rotMany_0 : Int → Int) (rot_0 : Int → Int) (pm_0 : Int) (alive_0 : Int → Int) (roundOf_0 : Int → Int) (roundBegin_0 : Int → Int) (roundDart_0 : Int → Int) (rounds_0 : Int) (pn_0 : Int) (pt_1 : Int → Int) (ph_1 : Int → Int) (pn_1 : Int) (pm_1 : Int) (alive_1 : Int → Int) (rotMany_1 : Int → Int) (rot_1 : Int → Int) (rounds_2 : Int) (pt_2 : Int → Int) (ph_2 : Int → Int) (pn_2 : Int) (pm_2 : Int) (alive_2 : Int → Int) (rotMany_2 : Int → Int) (rot_2 : Int → Int) (roundBegin_2 : Int → Int) (roundDart_2 : Int → Int) (rounds_1 : Int) (roundOf_1 : Int → Int) (roundBegin_1 : Int → Int) (roundDart_1 : Int → Int) (k3 : 0 ≤ x3 ∧ x3 ≤ 255) (k4 : 0 ≤ x4 ∧ x4 ≤ 159) (k9 : 1 ≤ x9 ∧ x9 ≤ 160) (k10 : 0 ≤ x10 ∧ x10 ≤ 159) (f0 : NDT (pm_0) (pt_0) (ph_0) (rotMany_0) (rot_0) (x4) (x10)) (f1 : GIA (pm_0) (rounds_0) (pt_0) (ph_0) (alive_0) (rotMany_0) (rot_0) (roundOf_0) (roundBegin_0) (roundDart_0) (x9) (x3) (x4)) (fe_0_31_1 : pn_0 = pn_1) (fe_0_32_1 : pm_0 = pm_1) (fe_0_53_1 : rounds_0 = rounds_1) (fe_0_31_2 : pn_1 = pn_2) (fe_0_32_2 : pm_1 = pm_2) (fe_0_53_2 : rounds_1 = rounds_2) (hE_0_33_1 : ∀ j : Int, pt_0 j = pt_1 j) (hE_0_33_2 : ∀ j : Int, pt_1 j = pt_2 j) (hE_0_34_1 : ∀ j : Int, ph_0 j = ph_1 j) (hE_0_34_2 : ∀ j : Int, ph_1 j = ph_2 j) (hE_0_35_1 : ∀ j : Int, alive_0 j = alive_1 j) (hE_0_35_2 : ∀ j : Int, alive_1 j = alive_2 j) (hE_0_36_1 : ∀ j : Int, rotMany_0 j = rotMany_1 j) (hE_0_36_2 : ∀ j : Int, rotMany_1 j = rotMany_2 j) (hE_0_37_1 : ∀ j : Int, rot_0 j = rot_1 j) (hE_0_37_2 : ∀ j : Int, rot_1 j = rot_2 j) (hE_0_54_1 : ∀ j : Int, roundOf_0 j = roundOf_1 j) (hE_0_56_1 : ∀ j : Int, roundBegin_0 j = roundBegin_1 j) (hE_0_56_2 : ∀ j : Int, roundBegin_1 j = roundBegin_2 j) (hE_0_57_2 : ∀ j : Int, roundDart_1 j = roundDart_2 j) (kz_0_31 : 0 ≤ pn_0 ∧ pn_0 ≤ 25) (kz_0_32 : 0 ≤ pm_0 ∧ pm_0 ≤ 80) (kz_0_53 : 0 ≤ rounds_0 ∧ rounds_0 ≤ 160) : GIT (pm_0) (rounds_0) (pt_0) (ph_0) (alive_0) (rotMany_0) (rot_0) (roundOf_0) (roundBegin_0) (roundDart_0) (x9) (x3) (x10) := by
  subst fe_0_31_1
  subst fe_0_32_1
  subst fe_0_53_1
  subst fe_0_31_2
  subst fe_0_32_2
  subst fe_0_53_2
  have e_hE_0_33_1 := funext hE_0_33_1; subst e_hE_0_33_1
  have e_hE_0_33_2 := funext hE_0_33_2; subst e_hE_0_33_2
  have e_hE_0_34_1 := funext hE_0_34_1; subst e_hE_0_34_1
  have e_hE_0_34_2 := funext hE_0_34_2; subst e_hE_0_34_2
  have e_hE_0_35_1 := funext hE_0_35_1; subst e_hE_0_35_1
  have e_hE_0_35_2 := funext hE_0_35_2; subst e_hE_0_35_2
  have e_hE_0_36_1 := funext hE_0_36_1; subst e_hE_0_36_1
  have e_hE_0_36_2 := funext hE_0_36_2; subst e_hE_0_36_2
  have e_hE_0_37_1 := funext hE_0_37_1; subst e_hE_0_37_1
  have e_hE_0_37_2 := funext hE_0_37_2; subst e_hE_0_37_2
  have e_hE_0_54_1 := funext hE_0_54_1; subst e_hE_0_54_1
  have e_hE_0_56_1 := funext hE_0_56_1; subst e_hE_0_56_1
  have e_hE_0_56_2 := funext hE_0_56_2; subst e_hE_0_56_2
  have e_hE_0_57_2 := funext hE_0_57_2; subst e_hE_0_57_2
  exact git_of ‹GIA _ _ _ _ _ _ _ _ _ _ _ _ _› ‹NDT _ _ _ _ _ _ _›
set_option maxHeartbeats 4000000 in
theorem vc_Mo_goRound_10_3 (x2 : Int) (x5 : Int) (x9 : Int) (pt_0 : Int → Int) (ph_0 : Int → Int) (rotMany_0 : Int → Int) (rot_0 : Int → Int) (pm_0 : Int) (alive_0 : Int → Int) (roundOf_0 : Int → Int) (roundBegin_0 : Int → Int) (rounds_0 : Int) (pn_0 : Int) (pt_1 : Int → Int) (ph_1 : Int → Int) (pn_1 : Int) (pm_1 : Int) (alive_1 : Int → Int) (rotMany_1 : Int → Int) (rot_1 : Int → Int) (rounds_2 : Int) (pt_2 : Int → Int) (ph_2 : Int → Int) (pn_2 : Int) (pm_2 : Int) (alive_2 : Int → Int) (rotMany_2 : Int → Int) (rot_2 : Int → Int) (roundBegin_2 : Int → Int) (roundDart_2 : Int → Int) (rounds_1 : Int) (roundOf_1 : Int → Int) (roundBegin_1 : Int → Int) (roundDart_1 : Int → Int) (gx : Int) (k2 : 0 ≤ x2 ∧ x2 ≤ 159) (k5 : (-2) ≤ x5 ∧ x5 ≤ 161) (k9 : 1 ≤ x9 ∧ x9 ≤ 160) (d0 : x2 + 1 ≤ x9 ∧ x9 ≤ x2 + 1) (f6 : (-1) * x2 + ((-1) * x5 + 0) ≤ (-160)) (fe_0_31_1 : pn_0 = pn_1) (fe_0_32_1 : pm_0 = pm_1) (fe_0_53_1 : rounds_0 = rounds_1) (fe_0_31_2 : pn_1 = pn_2) (fe_0_32_2 : pm_1 = pm_2) (fe_0_53_2 : rounds_1 = rounds_2) (hE_0_33_1 : ∀ j : Int, pt_0 j = pt_1 j) (hE_0_33_2 : ∀ j : Int, pt_1 j = pt_2 j) (hE_0_34_1 : ∀ j : Int, ph_0 j = ph_1 j) (hE_0_34_2 : ∀ j : Int, ph_1 j = ph_2 j) (hE_0_35_1 : ∀ j : Int, alive_0 j = alive_1 j) (hE_0_35_2 : ∀ j : Int, alive_1 j = alive_2 j) (hE_0_36_1 : ∀ j : Int, rotMany_0 j = rotMany_1 j) (hE_0_36_2 : ∀ j : Int, rotMany_1 j = rotMany_2 j) (hE_0_37_1 : ∀ j : Int, rot_0 j = rot_1 j) (hE_0_37_2 : ∀ j : Int, rot_1 j = rot_2 j) (hE_0_54_1 : ∀ j : Int, roundOf_0 j = roundOf_1 j) (hE_0_56_1 : ∀ j : Int, roundBegin_0 j = roundBegin_1 j) (hE_0_56_2 : ∀ j : Int, roundBegin_1 j = roundBegin_2 j) (hE_0_57_2 : ∀ j : Int, roundDart_1 j = roundDart_2 j) (kz_0_31 : 0 ≤ pn_0 ∧ pn_0 ≤ 25) (kz_0_32 : 0 ≤ pm_0 ∧ pm_0 ≤ 80) (kz_0_53 : 0 ≤ rounds_0 ∧ rounds_0 ≤ 160) (ex2 : gx = 0 + (1 * x5 + 0)) : (-1) * x9 + ((-1) * gx + 0) ≤ (-161) := by
  subst fe_0_31_1
  subst fe_0_32_1
  subst fe_0_53_1
  subst fe_0_31_2
  subst fe_0_32_2
  subst fe_0_53_2
  have e_hE_0_33_1 := funext hE_0_33_1; subst e_hE_0_33_1
  have e_hE_0_33_2 := funext hE_0_33_2; subst e_hE_0_33_2
  have e_hE_0_34_1 := funext hE_0_34_1; subst e_hE_0_34_1
  have e_hE_0_34_2 := funext hE_0_34_2; subst e_hE_0_34_2
  have e_hE_0_35_1 := funext hE_0_35_1; subst e_hE_0_35_1
  have e_hE_0_35_2 := funext hE_0_35_2; subst e_hE_0_35_2
  have e_hE_0_36_1 := funext hE_0_36_1; subst e_hE_0_36_1
  have e_hE_0_36_2 := funext hE_0_36_2; subst e_hE_0_36_2
  have e_hE_0_37_1 := funext hE_0_37_1; subst e_hE_0_37_1
  have e_hE_0_37_2 := funext hE_0_37_2; subst e_hE_0_37_2
  have e_hE_0_54_1 := funext hE_0_54_1; subst e_hE_0_54_1
  have e_hE_0_56_1 := funext hE_0_56_1; subst e_hE_0_56_1
  have e_hE_0_56_2 := funext hE_0_56_2; subst e_hE_0_56_2
  have e_hE_0_57_2 := funext hE_0_57_2; subst e_hE_0_57_2
  first | omega
def o_Mo_goRound_10 : or_T := (105, 11, [(0, (2, 0, 0, [165])), (1, (2, 0, 0, [165])), (2, (0, 0, 159, [])), (3, (0, 0, 255, [])), (4, (0, 0, 159, [])), (5, (0, -2, 161, [])), (6, (2, 0, 0, [196])), (7, (0, 0, 159, [])), (8, (2, 0, 0, [199])), (9, (0, 1, 160, [])), (10, (0, 0, 159, []))], [(20, [1, 4, 10], [60, 1, 4, 188, 32, 33, 34, 36, 37]), (20, [1, 9, 3, 4], [60, 2, 8, 195, 32, 53, 33, 34, 35, 36, 37, 54, 56, 57]), (20, [1, 4], [60, 1, 1, 190, 32, 35]), (6, [9, 2], [1]), (20, [1], [60, 2, 2, 75, 31, 32, 33, 34]), (20, [1], [60, 2, 5, 187, 31, 32, 33, 34, 35, 36, 37]), (20, [2, 5], [30, -160, -1, 0, 0, -1, 0, 0]), (24, [0, 1], []), (100, [8, 2, 4], []), (9, [8, 1], [57]), (20, [1], [60, 2, 2, 75, 31, 32, 33, 34]), (20, [1], [60, 2, 5, 187, 31, 32, 33, 34, 35, 36, 37]), (20, [2, 5], [30, -160, -1, 0, 0, -1, 0, 0]), (100, [6, 4, 7], []), (9, [7, 1], [53]), (9, [6, 1], [54]), (20, [1], [60, 2, 2, 75, 31, 32, 33, 34]), (20, [1], [60, 2, 5, 187, 31, 32, 33, 34, 35, 36, 37]), (20, [1, 2, 3, 4], [60, 2, 8, 194, 32, 53, 33, 34, 35, 36, 37, 54, 56, 57]), (20, [2, 5], [30, -160, -1, 0, 0, -1, 0, 0])], [], [(0, -2, 161, [])], [(20, [1], [60, 2, 2, 75, 31, 32, 33, 34]), (20, [1], [60, 2, 5, 187, 31, 32, 33, 34, 35, 36, 37]), (20, [1, 9, 3, 10], [60, 2, 8, 196, 32, 53, 33, 34, 35, 36, 37, 54, 56, 57]), (20, [9, 11], [30, -161, -1, 0, 0, -1, 0, 0]), (24, [0, 1], [])], [(11, 5, 0, 0)], [(9, 2, 1, 1)])
theorem oo_Mo_goRound_10 {kA : Nat → ClassId} : or_ok PRD kA GG o_Mo_goRound_10 := by
  refine or_mk fun A ta ws vs hD hth hl => ?_
  intro t0 r0 t1 r1 t2 k2 t3 k3 t4 k4 t5 k5 t6 r6 t7 k7 t8 r8 t9 k9 t10 k10 d0 f0 f1 f2 f3 f4 f5 f6 f7 ta1 w1 le1 s1 f9 f10 f11 f12 ta2 w2 le2 s2 f14 f15 f16 f17 f18 f19
  replace f0 := shm_1015 f0
  replace f1 := shm_1139 f1
  replace f2 := shm_1013 f2
  replace f3 := shm_4 f3
  replace f4 := shm_575 f4
  replace f5 := shm_1012 f5
  replace f6 := shm_1136 f6
  replace f7 := shm_5 f7
  have s1 : (∀ b j, w_el ws b j = if b = v_ad (n_v vs 8) ∧ j = (v_iv (n_v vs 2)).toNat then v_iv (n_v vs 4) else w_el w1 b j) ∧ ∀ b k, w_fd ws b k = w_fd w1 b k := s1.2
  replace f9 := shm_1138 f9
  replace f10 := shm_575 f10
  replace f11 := shm_1012 f11
  replace f12 := shm_1136 f12
  have s2 : (∀ b j, w_el w1 b j = if b = v_ad (n_v vs 6) ∧ j = (v_iv (n_v vs 4)).toNat then v_iv (n_v vs 7) else w_el w2 b j) ∧ ∀ b k, w_fd w1 b k = w_fd w2 b k := s2.2
  replace f14 := shm_1132 f14
  replace f15 := shm_1122 f15
  replace f16 := shm_575 f16
  replace f17 := shm_1012 f17
  replace f18 := shm_1137 f18
  replace f19 := shm_1136 f19
  have q1 : n_v vs 1 = n_v vs 0 := f7.symm
  simp only [q1] at f0 f1 f2 f4 f5 f9 f10 f11 f14 f15 f16 f17 f18
  have ar_0_33_1 : w_ar w1 (n_v vs 0) 33 = w_ar ws (n_v vs 0) 33 := congrArg v_ad (s1.2 _ _).symm
  have ar_0_33_2 : w_ar w2 (n_v vs 0) 33 = w_ar ws (n_v vs 0) 33 := by rw [← ar_0_33_1]; show v_ad (w_fd w2 _ _) = v_ad (w_fd w1 _ _); rw [s2.2]
  have cr_0_33 := fdq_117 hD hth r0
  have ar_0_34_1 : w_ar w1 (n_v vs 0) 34 = w_ar ws (n_v vs 0) 34 := congrArg v_ad (s1.2 _ _).symm
  have ar_0_34_2 : w_ar w2 (n_v vs 0) 34 = w_ar ws (n_v vs 0) 34 := by rw [← ar_0_34_1]; show v_ad (w_fd w2 _ _) = v_ad (w_fd w1 _ _); rw [s2.2]
  have cr_0_34 := fdq_118 hD hth r0
  have ar_0_35_1 : w_ar w1 (n_v vs 0) 35 = w_ar ws (n_v vs 0) 35 := congrArg v_ad (s1.2 _ _).symm
  have ar_0_35_2 : w_ar w2 (n_v vs 0) 35 = w_ar ws (n_v vs 0) 35 := by rw [← ar_0_35_1]; show v_ad (w_fd w2 _ _) = v_ad (w_fd w1 _ _); rw [s2.2]
  have cr_0_35 := fdq_132 hD hth r0
  have ar_0_36_1 : w_ar w1 (n_v vs 0) 36 = w_ar ws (n_v vs 0) 36 := congrArg v_ad (s1.2 _ _).symm
  have ar_0_36_2 : w_ar w2 (n_v vs 0) 36 = w_ar ws (n_v vs 0) 36 := by rw [← ar_0_36_1]; show v_ad (w_fd w2 _ _) = v_ad (w_fd w1 _ _); rw [s2.2]
  have cr_0_36 := fdq_167 hD hth r0
  have ar_0_37_1 : w_ar w1 (n_v vs 0) 37 = w_ar ws (n_v vs 0) 37 := congrArg v_ad (s1.2 _ _).symm
  have ar_0_37_2 : w_ar w2 (n_v vs 0) 37 = w_ar ws (n_v vs 0) 37 := by rw [← ar_0_37_1]; show v_ad (w_fd w2 _ _) = v_ad (w_fd w1 _ _); rw [s2.2]
  have cr_0_37 := fdq_168 hD hth r0
  have ar_0_54_1 : w_ar w1 (n_v vs 0) 54 = w_ar ws (n_v vs 0) 54 := congrArg v_ad (s1.2 _ _).symm
  have ar_0_54_2 : w_ar w2 (n_v vs 0) 54 = w_ar ws (n_v vs 0) 54 := by rw [← ar_0_54_1]; show v_ad (w_fd w2 _ _) = v_ad (w_fd w1 _ _); rw [s2.2]
  have cr_0_54 := fdq_272 hD hth r0
  have ar_0_56_1 : w_ar w1 (n_v vs 0) 56 = w_ar ws (n_v vs 0) 56 := congrArg v_ad (s1.2 _ _).symm
  have ar_0_56_2 : w_ar w2 (n_v vs 0) 56 = w_ar ws (n_v vs 0) 56 := by rw [← ar_0_56_1]; show v_ad (w_fd w2 _ _) = v_ad (w_fd w1 _ _); rw [s2.2]
  have cr_0_56 := fdq_273 hD hth r0
  have ar_0_57_1 : w_ar w1 (n_v vs 0) 57 = w_ar ws (n_v vs 0) 57 := congrArg v_ad (s1.2 _ _).symm
  have ar_0_57_2 : w_ar w2 (n_v vs 0) 57 = w_ar ws (n_v vs 0) 57 := by rw [← ar_0_57_1]; show v_ad (w_fd w2 _ _) = v_ad (w_fd w1 _ _); rw [s2.2]
  have cr_0_57 := fdq_274 hD hth r0
  have ad_8 : v_ad (n_v vs 8) = w_ar ws (n_v vs 0) 57 := (congrArg v_ad f9).trans ar_0_57_1
  have ad_6 : v_ad (n_v vs 6) = w_ar ws (n_v vs 0) 54 := (congrArg v_ad f15).trans ar_0_54_2
  simp only [ar_0_33_1, ar_0_34_1, ar_0_35_1, ar_0_36_1, ar_0_37_1] at f10 f11
  have g14 : v_iv (n_v vs 7) = w_fi w2 (n_v vs 0) 53 := congrArg v_iv f14
  simp only [ar_0_33_2, ar_0_34_2, ar_0_35_2, ar_0_36_2, ar_0_37_2, ar_0_54_2, ar_0_56_2, ar_0_57_2] at f16 f17 f18
  have fe_0_31_1 : w_fi ws (n_v vs 0) 31 = w_fi w1 (n_v vs 0) 31 := congrArg v_iv (s1.2 _ _)
  have fe_0_32_1 : w_fi ws (n_v vs 0) 32 = w_fi w1 (n_v vs 0) 32 := congrArg v_iv (s1.2 _ _)
  have fe_0_53_1 : w_fi ws (n_v vs 0) 53 = w_fi w1 (n_v vs 0) 53 := congrArg v_iv (s1.2 _ _)
  have fe_0_31_2 : w_fi w1 (n_v vs 0) 31 = w_fi w2 (n_v vs 0) 31 := congrArg v_iv (s2.2 _ _)
  have fe_0_32_2 : w_fi w1 (n_v vs 0) 32 = w_fi w2 (n_v vs 0) 32 := congrArg v_iv (s2.2 _ _)
  have fe_0_53_2 : w_fi w1 (n_v vs 0) 53 = w_fi w2 (n_v vs 0) 53 := congrArg v_iv (s2.2 _ _)
  have hE_0_33_1 : ∀ j : Int, w_ei ws (w_ar ws (n_v vs 0) 33) j = w_ei w1 (w_ar ws (n_v vs 0) 33) j := el_kp s1.1 r8 cr_0_33 (by decide)
  have hE_0_33_2 : ∀ j : Int, w_ei w1 (w_ar ws (n_v vs 0) 33) j = w_ei w2 (w_ar ws (n_v vs 0) 33) j := el_kp s2.1 r6 cr_0_33 (by decide)
  have hK_0_33 := elq_60 hD hth cr_0_33
  have hE_0_34_1 : ∀ j : Int, w_ei ws (w_ar ws (n_v vs 0) 34) j = w_ei w1 (w_ar ws (n_v vs 0) 34) j := el_kp s1.1 r8 cr_0_34 (by decide)
  have hE_0_34_2 : ∀ j : Int, w_ei w1 (w_ar ws (n_v vs 0) 34) j = w_ei w2 (w_ar ws (n_v vs 0) 34) j := el_kp s2.1 r6 cr_0_34 (by decide)
  have hK_0_34 := elq_61 hD hth cr_0_34
  have hE_0_35_1 : ∀ j : Int, w_ei ws (w_ar ws (n_v vs 0) 35) j = w_ei w1 (w_ar ws (n_v vs 0) 35) j := el_kp s1.1 r8 cr_0_35 (by decide)
  have hE_0_35_2 : ∀ j : Int, w_ei w1 (w_ar ws (n_v vs 0) 35) j = w_ei w2 (w_ar ws (n_v vs 0) 35) j := el_kp s2.1 r6 cr_0_35 (by decide)
  have hK_0_35 := elq_72 hD hth cr_0_35
  have hE_0_36_1 : ∀ j : Int, w_ei ws (w_ar ws (n_v vs 0) 36) j = w_ei w1 (w_ar ws (n_v vs 0) 36) j := el_kp s1.1 r8 cr_0_36 (by decide)
  have hE_0_36_2 : ∀ j : Int, w_ei w1 (w_ar ws (n_v vs 0) 36) j = w_ei w2 (w_ar ws (n_v vs 0) 36) j := el_kp s2.1 r6 cr_0_36 (by decide)
  have hK_0_36 := elq_97 hD hth cr_0_36
  have hE_0_37_1 : ∀ j : Int, w_ei ws (w_ar ws (n_v vs 0) 37) j = w_ei w1 (w_ar ws (n_v vs 0) 37) j := el_kp s1.1 r8 cr_0_37 (by decide)
  have hE_0_37_2 : ∀ j : Int, w_ei w1 (w_ar ws (n_v vs 0) 37) j = w_ei w2 (w_ar ws (n_v vs 0) 37) j := el_kp s2.1 r6 cr_0_37 (by decide)
  have hK_0_37 := elq_98 hD hth cr_0_37
  have hE_0_54_1 : ∀ j : Int, w_ei ws (w_ar ws (n_v vs 0) 54) j = w_ei w1 (w_ar ws (n_v vs 0) 54) j := el_kp s1.1 r8 cr_0_54 (by decide)
  have hE_0_54_2 : ∀ j : Int, 0 ≤ j → (j = v_iv (n_v vs 4) → w_ei w1 (w_ar ws (n_v vs 0) 54) j = v_iv (n_v vs 7)) ∧ (j ≠ v_iv (n_v vs 4) → w_ei w1 (w_ar ws (n_v vs 0) 54) j = w_ei w2 (w_ar ws (n_v vs 0) 54) j) := fun j hj => ⟨fun h => by unfold w_ei; rw [s2.1, if_pos ⟨ad_6.symm, by rw [h]⟩], fun h => by unfold w_ei; rw [s2.1, if_neg (fun e => h (by have := e.2; omega))]⟩
  have hK_0_54 := elq_171 hD hth cr_0_54
  have hE_0_56_1 : ∀ j : Int, w_ei ws (w_ar ws (n_v vs 0) 56) j = w_ei w1 (w_ar ws (n_v vs 0) 56) j := el_kp s1.1 r8 cr_0_56 (by decide)
  have hE_0_56_2 : ∀ j : Int, w_ei w1 (w_ar ws (n_v vs 0) 56) j = w_ei w2 (w_ar ws (n_v vs 0) 56) j := el_kp s2.1 r6 cr_0_56 (by decide)
  have hK_0_56 := elq_172 hD hth cr_0_56
  have hE_0_57_1 : ∀ j : Int, 0 ≤ j → (j = v_iv (n_v vs 2) → w_ei ws (w_ar ws (n_v vs 0) 57) j = v_iv (n_v vs 4)) ∧ (j ≠ v_iv (n_v vs 2) → w_ei ws (w_ar ws (n_v vs 0) 57) j = w_ei w1 (w_ar ws (n_v vs 0) 57) j) := fun j hj => ⟨fun h => by unfold w_ei; rw [s1.1, if_pos ⟨ad_8.symm, by rw [h]⟩], fun h => by unfold w_ei; rw [s1.1, if_neg (fun e => h (by have := e.2; omega))]⟩
  have hE_0_57_2 : ∀ j : Int, w_ei w1 (w_ar ws (n_v vs 0) 57) j = w_ei w2 (w_ar ws (n_v vs 0) 57) j := el_kp s2.1 r6 cr_0_57 (by decide)
  have hK_0_57 := elq_173 hD hth cr_0_57
  have kz_0_31 := fdq_145 hD hth r0
  have kz_0_32 := fdq_140 hD hth r0
  have kz_0_53 := fdq_275 hD hth r0
  obtain ⟨x, ex, hx⟩ := iv_ex (ta := ta) (lo := (-2)) (hi := 161) (z := 0 + (1 * v_iv (n_v vs 5) + 0)) (by omega) (by omega) (by omega) (by omega)
  have ex2 : v_iv (Value.int x) = 0 + (1 * v_iv (n_v vs 5) + 0) := ex
  have ex3 : (-2) ≤ v_iv (Value.int x) ∧ v_iv (Value.int x) ≤ 161 := tv_rng hx
  have e_0 : n_v (vs ++ [Value.int x]) 0 = n_v vs 0 := n_v_old (by rw [hl]; decide)
  have e_1 : n_v (vs ++ [Value.int x]) 1 = n_v vs 1 := n_v_old (by rw [hl]; decide)
  have e_3 : n_v (vs ++ [Value.int x]) 3 = n_v vs 3 := n_v_old (by rw [hl]; decide)
  have e_9 : n_v (vs ++ [Value.int x]) 9 = n_v vs 9 := n_v_old (by rw [hl]; decide)
  have e_10 : n_v (vs ++ [Value.int x]) 10 = n_v vs 10 := n_v_old (by rw [hl]; decide)
  have e_11 : n_v (vs ++ [Value.int x]) 11 = Value.int x := n_v_new hl
  have nf0 : fc_1 PRD (20, [1], [60, 2, 2, 75, 31, 32, 33, 34]) ws (vs ++ [Value.int x]) := by
    refine ⟨nf_inA hl rfl, sgq_575 ?_⟩
    · show GOK (w_fi ws (n_v (vs ++ [Value.int x]) 1) 31) (w_fi ws (n_v (vs ++ [Value.int x]) 1) 32) (w_ei ws (w_ar ws (n_v (vs ++ [Value.int x]) 1) 33)) (w_ei ws (w_ar ws (n_v (vs ++ [Value.int x]) 1) 34))
      simp only [e_1, q1]
      exact vc_Mo_goRound_10_0 (w_ei ws (w_ar ws (n_v vs 0) 33)) (w_ei ws (w_ar ws (n_v vs 0) 34)) (w_ei ws (w_ar ws (n_v vs 0) 36)) (w_ei ws (w_ar ws (n_v vs 0) 37)) (w_fi ws (n_v vs 0) 32) (w_ei ws (w_ar ws (n_v vs 0) 35)) (w_ei ws (w_ar ws (n_v vs 0) 54)) (w_ei ws (w_ar ws (n_v vs 0) 56)) (w_fi ws (n_v vs 0) 53) (w_fi ws (n_v vs 0) 31) (w_ei w1 (w_ar ws (n_v vs 0) 33)) (w_ei w1 (w_ar ws (n_v vs 0) 34)) (w_fi w1 (n_v vs 0) 31) (w_fi w1 (n_v vs 0) 32) (w_ei w1 (w_ar ws (n_v vs 0) 35)) (w_ei w1 (w_ar ws (n_v vs 0) 36)) (w_ei w1 (w_ar ws (n_v vs 0) 37)) (w_fi w2 (n_v vs 0) 53) (w_ei w2 (w_ar ws (n_v vs 0) 33)) (w_ei w2 (w_ar ws (n_v vs 0) 34)) (w_fi w2 (n_v vs 0) 31) (w_fi w2 (n_v vs 0) 32) (w_ei w2 (w_ar ws (n_v vs 0) 35)) (w_ei w2 (w_ar ws (n_v vs 0) 36)) (w_ei w2 (w_ar ws (n_v vs 0) 37)) (w_ei w2 (w_ar ws (n_v vs 0) 56)) (w_ei w2 (w_ar ws (n_v vs 0) 57)) (w_fi w1 (n_v vs 0) 53) (w_ei w1 (w_ar ws (n_v vs 0) 54)) (w_ei w1 (w_ar ws (n_v vs 0) 56)) (w_ei w1 (w_ar ws (n_v vs 0) 57)) f16 fe_0_31_1 fe_0_32_1 fe_0_53_1 fe_0_31_2 fe_0_32_2 fe_0_53_2 hE_0_33_1 hE_0_33_2 hE_0_34_1 hE_0_34_2 hE_0_35_1 hE_0_35_2 hE_0_36_1 hE_0_36_2 hE_0_37_1 hE_0_37_2 hE_0_54_1 hE_0_56_1 hE_0_56_2 hE_0_57_2 kz_0_31 kz_0_32 kz_0_53
  have nf1 : fc_1 PRD (20, [1], [60, 2, 5, 187, 31, 32, 33, 34, 35, 36, 37]) ws (vs ++ [Value.int x]) := by
    refine ⟨nf_inA hl rfl, sgq_1012 ?_⟩
    · show EML (w_fi ws (n_v (vs ++ [Value.int x]) 1) 31) (w_fi ws (n_v (vs ++ [Value.int x]) 1) 32) (w_ei ws (w_ar ws (n_v (vs ++ [Value.int x]) 1) 33)) (w_ei ws (w_ar ws (n_v (vs ++ [Value.int x]) 1) 34)) (w_ei ws (w_ar ws (n_v (vs ++ [Value.int x]) 1) 35)) (w_ei ws (w_ar ws (n_v (vs ++ [Value.int x]) 1) 36)) (w_ei ws (w_ar ws (n_v (vs ++ [Value.int x]) 1) 37))
      simp only [e_1, q1]
      exact vc_Mo_goRound_10_1 (w_ei ws (w_ar ws (n_v vs 0) 33)) (w_ei ws (w_ar ws (n_v vs 0) 34)) (w_ei ws (w_ar ws (n_v vs 0) 36)) (w_ei ws (w_ar ws (n_v vs 0) 37)) (w_fi ws (n_v vs 0) 32) (w_ei ws (w_ar ws (n_v vs 0) 35)) (w_ei ws (w_ar ws (n_v vs 0) 54)) (w_ei ws (w_ar ws (n_v vs 0) 56)) (w_fi ws (n_v vs 0) 53) (w_fi ws (n_v vs 0) 31) (w_ei w1 (w_ar ws (n_v vs 0) 33)) (w_ei w1 (w_ar ws (n_v vs 0) 34)) (w_fi w1 (n_v vs 0) 31) (w_fi w1 (n_v vs 0) 32) (w_ei w1 (w_ar ws (n_v vs 0) 35)) (w_ei w1 (w_ar ws (n_v vs 0) 36)) (w_ei w1 (w_ar ws (n_v vs 0) 37)) (w_fi w2 (n_v vs 0) 53) (w_ei w2 (w_ar ws (n_v vs 0) 33)) (w_ei w2 (w_ar ws (n_v vs 0) 34)) (w_fi w2 (n_v vs 0) 31) (w_fi w2 (n_v vs 0) 32) (w_ei w2 (w_ar ws (n_v vs 0) 35)) (w_ei w2 (w_ar ws (n_v vs 0) 36)) (w_ei w2 (w_ar ws (n_v vs 0) 37)) (w_ei w2 (w_ar ws (n_v vs 0) 56)) (w_ei w2 (w_ar ws (n_v vs 0) 57)) (w_fi w1 (n_v vs 0) 53) (w_ei w1 (w_ar ws (n_v vs 0) 54)) (w_ei w1 (w_ar ws (n_v vs 0) 56)) (w_ei w1 (w_ar ws (n_v vs 0) 57)) f17 fe_0_31_1 fe_0_32_1 fe_0_53_1 fe_0_31_2 fe_0_32_2 fe_0_53_2 hE_0_33_1 hE_0_33_2 hE_0_34_1 hE_0_34_2 hE_0_35_1 hE_0_35_2 hE_0_36_1 hE_0_36_2 hE_0_37_1 hE_0_37_2 hE_0_54_1 hE_0_56_1 hE_0_56_2 hE_0_57_2 kz_0_31 kz_0_32 kz_0_53
  have nf2 : fc_1 PRD (20, [1, 9, 3, 10], [60, 2, 8, 196, 32, 53, 33, 34, 35, 36, 37, 54, 56, 57]) ws (vs ++ [Value.int x]) := by
    refine ⟨nf_inA hl rfl, sgq_1140 ?_⟩
    · show GIT (w_fi ws (n_v (vs ++ [Value.int x]) 1) 32) (w_fi ws (n_v (vs ++ [Value.int x]) 1) 53) (w_ei ws (w_ar ws (n_v (vs ++ [Value.int x]) 1) 33)) (w_ei ws (w_ar ws (n_v (vs ++ [Value.int x]) 1) 34)) (w_ei ws (w_ar ws (n_v (vs ++ [Value.int x]) 1) 35)) (w_ei ws (w_ar ws (n_v (vs ++ [Value.int x]) 1) 36)) (w_ei ws (w_ar ws (n_v (vs ++ [Value.int x]) 1) 37)) (w_ei ws (w_ar ws (n_v (vs ++ [Value.int x]) 1) 54)) (w_ei ws (w_ar ws (n_v (vs ++ [Value.int x]) 1) 56)) (w_ei ws (w_ar ws (n_v (vs ++ [Value.int x]) 1) 57)) (v_iv (n_v (vs ++ [Value.int x]) 9)) (v_iv (n_v (vs ++ [Value.int x]) 3)) (v_iv (n_v (vs ++ [Value.int x]) 10))
      simp only [e_1, e_3, e_9, e_10, q1]
      exact vc_Mo_goRound_10_2 (v_iv (n_v vs 3)) (v_iv (n_v vs 4)) (v_iv (n_v vs 9)) (v_iv (n_v vs 10)) (w_ei ws (w_ar ws (n_v vs 0) 33)) (w_ei ws (w_ar ws (n_v vs 0) 34)) (w_ei ws (w_ar ws (n_v vs 0) 36)) (w_ei ws (w_ar ws (n_v vs 0) 37)) (w_fi ws (n_v vs 0) 32) (w_ei ws (w_ar ws (n_v vs 0) 35)) (w_ei ws (w_ar ws (n_v vs 0) 54)) (w_ei ws (w_ar ws (n_v vs 0) 56)) (w_ei ws (w_ar ws (n_v vs 0) 57)) (w_fi ws (n_v vs 0) 53) (w_fi ws (n_v vs 0) 31) (w_ei w1 (w_ar ws (n_v vs 0) 33)) (w_ei w1 (w_ar ws (n_v vs 0) 34)) (w_fi w1 (n_v vs 0) 31) (w_fi w1 (n_v vs 0) 32) (w_ei w1 (w_ar ws (n_v vs 0) 35)) (w_ei w1 (w_ar ws (n_v vs 0) 36)) (w_ei w1 (w_ar ws (n_v vs 0) 37)) (w_fi w2 (n_v vs 0) 53) (w_ei w2 (w_ar ws (n_v vs 0) 33)) (w_ei w2 (w_ar ws (n_v vs 0) 34)) (w_fi w2 (n_v vs 0) 31) (w_fi w2 (n_v vs 0) 32) (w_ei w2 (w_ar ws (n_v vs 0) 35)) (w_ei w2 (w_ar ws (n_v vs 0) 36)) (w_ei w2 (w_ar ws (n_v vs 0) 37)) (w_ei w2 (w_ar ws (n_v vs 0) 56)) (w_ei w2 (w_ar ws (n_v vs 0) 57)) (w_fi w1 (n_v vs 0) 53) (w_ei w1 (w_ar ws (n_v vs 0) 54)) (w_ei w1 (w_ar ws (n_v vs 0) 56)) (w_ei w1 (w_ar ws (n_v vs 0) 57)) k3 k4 k9 k10 f0 f1 fe_0_31_1 fe_0_32_1 fe_0_53_1 fe_0_31_2 fe_0_32_2 fe_0_53_2 hE_0_33_1 hE_0_33_2 hE_0_34_1 hE_0_34_2 hE_0_35_1 hE_0_35_2 hE_0_36_1 hE_0_36_2 hE_0_37_1 hE_0_37_2 hE_0_54_1 hE_0_56_1 hE_0_56_2 hE_0_57_2 kz_0_31 kz_0_32 kz_0_53
  have nf3 : fc_1 PRD (20, [9, 11], [30, -161, -1, 0, 0, -1, 0, 0]) ws (vs ++ [Value.int x]) := by
    refine ⟨nf_inA hl rfl, sgq_1141 ?_⟩
    · show (-1) * v_iv (n_v (vs ++ [Value.int x]) 9) + ((-1) * v_iv (n_v (vs ++ [Value.int x]) 11) + 0) ≤ (-161)
      simp only [e_9, e_11]
      exact vc_Mo_goRound_10_3 (v_iv (n_v vs 2)) (v_iv (n_v vs 5)) (v_iv (n_v vs 9)) (w_ei ws (w_ar ws (n_v vs 0) 33)) (w_ei ws (w_ar ws (n_v vs 0) 34)) (w_ei ws (w_ar ws (n_v vs 0) 36)) (w_ei ws (w_ar ws (n_v vs 0) 37)) (w_fi ws (n_v vs 0) 32) (w_ei ws (w_ar ws (n_v vs 0) 35)) (w_ei ws (w_ar ws (n_v vs 0) 54)) (w_ei ws (w_ar ws (n_v vs 0) 56)) (w_fi ws (n_v vs 0) 53) (w_fi ws (n_v vs 0) 31) (w_ei w1 (w_ar ws (n_v vs 0) 33)) (w_ei w1 (w_ar ws (n_v vs 0) 34)) (w_fi w1 (n_v vs 0) 31) (w_fi w1 (n_v vs 0) 32) (w_ei w1 (w_ar ws (n_v vs 0) 35)) (w_ei w1 (w_ar ws (n_v vs 0) 36)) (w_ei w1 (w_ar ws (n_v vs 0) 37)) (w_fi w2 (n_v vs 0) 53) (w_ei w2 (w_ar ws (n_v vs 0) 33)) (w_ei w2 (w_ar ws (n_v vs 0) 34)) (w_fi w2 (n_v vs 0) 31) (w_fi w2 (n_v vs 0) 32) (w_ei w2 (w_ar ws (n_v vs 0) 35)) (w_ei w2 (w_ar ws (n_v vs 0) 36)) (w_ei w2 (w_ar ws (n_v vs 0) 37)) (w_ei w2 (w_ar ws (n_v vs 0) 56)) (w_ei w2 (w_ar ws (n_v vs 0) 57)) (w_fi w1 (n_v vs 0) 53) (w_ei w1 (w_ar ws (n_v vs 0) 54)) (w_ei w1 (w_ar ws (n_v vs 0) 56)) (w_ei w1 (w_ar ws (n_v vs 0) 57)) (v_iv (Value.int x)) k2 k5 k9 d0 f6 fe_0_31_1 fe_0_32_1 fe_0_53_1 fe_0_31_2 fe_0_32_2 fe_0_53_2 hE_0_33_1 hE_0_33_2 hE_0_34_1 hE_0_34_2 hE_0_35_1 hE_0_35_2 hE_0_36_1 hE_0_36_2 hE_0_37_1 hE_0_37_2 hE_0_54_1 hE_0_56_1 hE_0_56_2 hE_0_57_2 kz_0_31 kz_0_32 kz_0_53 ex2
  have nf4 : fc_1 PRD (24, [0, 1], []) ws (vs ++ [Value.int x]) := by
    refine ⟨nf_inA hl rfl, sgq_5 ?_⟩
    · show n_v (vs ++ [Value.int x]) 0 = n_v (vs ++ [Value.int x]) 1
      first | rfl | simp only [e_0, e_1, q1]
  obtain ⟨x0, e0, _, _⟩ := tv_int t5 rfl
  have e1 : v_iv (n_v vs 5) = x0.toInt := by rw [e0]; rfl
  have ho : sy_ofs (vs ++ [Value.int x]) (11, 5, 0, 0) := by
    refine ⟨x, x0, by rw [List.getElem?_append_right (by rw [hl]; decide), hl]; rfl, ?_, ?_, ?_⟩
    · rw [List.getElem?_append_left (by rw [hl]; decide)]; exact n_v_some (by rw [hl]; decide) e0
    · show x0.toInt + 0 ≤ x.toInt; omega
    · show x.toInt ≤ x0.toInt + 0; omega
  exact ⟨(fun _ h => (by cases h)), [Value.int x], ag_one hx, List.forall_mem_cons.mpr ⟨⟨show (20 : Nat) < 100 from by decide, nf0⟩, List.forall_mem_cons.mpr ⟨⟨show (20 : Nat) < 100 from by decide, nf1⟩, List.forall_mem_cons.mpr ⟨⟨show (20 : Nat) < 100 from by decide, nf2⟩, List.forall_mem_cons.mpr ⟨⟨show (20 : Nat) < 100 from by decide, nf3⟩, List.forall_mem_cons.mpr ⟨⟨show (24 : Nat) < 100 from by decide, nf4⟩, (fun _ h => (by cases h))⟩⟩⟩⟩⟩, List.forall_mem_cons.mpr ⟨ho, (fun _ h => (by cases h))⟩⟩
set_option maxHeartbeats 4000000 in
theorem vc_Mo_goRound_11_0 (pt_0 : Int → Int) (ph_0 : Int → Int) (pn_0 : Int) (pm_0 : Int) (f1 : GOK (pn_0) (pm_0) (pt_0) (ph_0)) (kz_0_31 : 0 ≤ pn_0 ∧ pn_0 ≤ 25) (kz_0_32 : 0 ≤ pm_0 ∧ pm_0 ≤ 80) : GOK (pn_0) (pm_0) (pt_0) (ph_0) := by
  first | assumption
set_option maxHeartbeats 4000000 in
theorem vc_Mo_goRound_11_1 (pt_0 : Int → Int) (ph_0 : Int → Int) (pn_0 : Int) (pm_0 : Int) (alive_0 : Int → Int) (rotMany_0 : Int → Int) (rot_0 : Int → Int) (f2 : EML (pn_0) (pm_0) (pt_0) (ph_0) (alive_0) (rotMany_0) (rot_0)) (kz_0_31 : 0 ≤ pn_0 ∧ pn_0 ≤ 25) (kz_0_32 : 0 ≤ pm_0 ∧ pm_0 ≤ 80) : EML (pn_0) (pm_0) (pt_0) (ph_0) (alive_0) (rotMany_0) (rot_0) := by
  first | assumption
set_option maxHeartbeats 4000000 in
theorem vc_Mo_goRound_11_2 (x2 : Int) (x3 : Int) (x4 : Int) (pt_0 : Int → Int) (ph_0 : Int → Int) (pn_0 : Int) (pm_0 : Int) (alive_0 : Int → Int) (rotMany_0 : Int → Int) (rot_0 : Int → Int) (roundOf_0 : Int → Int) (roundBegin_0 : Int → Int) (roundDart_0 : Int → Int) (rounds_0 : Int) (k2 : 1 ≤ x2 ∧ x2 ≤ 160) (k3 : 0 ≤ x3 ∧ x3 ≤ 255) (k4 : 0 ≤ x4 ∧ x4 ≤ 159) (f0 : x4 ≠ x3) (f1 : GOK (pn_0) (pm_0) (pt_0) (ph_0)) (f2 : EML (pn_0) (pm_0) (pt_0) (ph_0) (alive_0) (rotMany_0) (rot_0)) (f3 : GIT (pm_0) (rounds_0) (pt_0) (ph_0) (alive_0) (rotMany_0) (rot_0) (roundOf_0) (roundBegin_0) (roundDart_0) (x2) (x3) (x4)) (kz_0_31 : 0 ≤ pn_0 ∧ pn_0 ≤ 25) (kz_0_32 : 0 ≤ pm_0 ∧ pm_0 ≤ 80) (kz_0_53 : 0 ≤ rounds_0 ∧ rounds_0 ≤ 160) : GII (pm_0) (rounds_0) (pt_0) (ph_0) (alive_0) (rotMany_0) (rot_0) (roundOf_0) (roundBegin_0) (roundDart_0) (x2) (x3) (x4) := by
  first
    | exact git_next ‹GOK _ _ _ _› ‹EML _ _ _ _ _ _ _› ‹GIT _ _ _ _ _ _ _ _ _ _ _ _ _› (by omega)
    | exact gii_start ‹GOI _ _ _ _ _ _ _ _ _ _ _ _› (by omega) (by omega) (by rw [← (by omega : x10 = x3 / 2)]; omega) (by omega) hE_0_56_1 (by omega) rfl rfl
set_option maxHeartbeats 4000000 in
theorem vc_Mo_goRound_11_3 (x2 : Int) (x6 : Int) (gx : Int) (k2 : 1 ≤ x2 ∧ x2 ≤ 160) (k6 : (-2) ≤ x6 ∧ x6 ≤ 161) (f4 : (-1) * x2 + ((-1) * x6 + 0) ≤ (-161)) (ex2 : gx = (-1) + (1 * x6 + 0)) : (-1) * x2 + ((-1) * gx + 0) ≤ (-160) := by
  first | omega
def o_Mo_goRound_11 : or_T := (79, 7, [(0, (2, 0, 0, [165])), (1, (2, 0, 0, [165])), (2, (0, 1, 160, [])), (3, (0, 0, 255, [])), (4, (0, 0, 159, [])), (6, (0, -2, 161, []))], [(7, [4, 3], [1]), (20, [1], [60, 2, 2, 75, 31, 32, 33, 34]), (20, [1], [60, 2, 5, 187, 31, 32, 33, 34, 35, 36, 37]), (20, [1, 2, 3, 4], [60, 2, 8, 196, 32, 53, 33, 34, 35, 36, 37, 54, 56, 57]), (20, [2, 6], [30, -161, -1, 0, 0, -1, 0, 0]), (24, [0, 1], [])], [], [(0, -2, 161, [])], [(20, [1], [60, 2, 2, 75, 31, 32, 33, 34]), (20, [1], [60, 2, 5, 187, 31, 32, 33, 34, 35, 36, 37]), (20, [1, 2, 3, 4], [60, 2, 8, 194, 32, 53, 33, 34, 35, 36, 37, 54, 56, 57]), (20, [2, 7], [30, -160, -1, 0, 0, -1, 0, 0]), (24, [0, 1], [])], [(7, 6, -1000000000000, -1)], [])
theorem oo_Mo_goRound_11 {kA : Nat → ClassId} : or_ok PRD kA GG o_Mo_goRound_11 := by
  refine or_mk fun A ta ws vs hD hth hl => ?_
  intro t0 r0 t1 r1 t2 k2 t3 k3 t4 k4 t6 k6 f0 f1 f2 f3 f4 f5
  replace f0 := shm_40 f0
  replace f1 := shm_575 f1
  replace f2 := shm_1012 f2
  replace f3 := shm_1140 f3
  replace f4 := shm_1141 f4
  replace f5 := shm_5 f5
  have q1 : n_v vs 1 = n_v vs 0 := f5.symm
  simp only [q1] at f1 f2 f3
  have cr_0_33 := fdq_117 hD hth r0
  have cr_0_34 := fdq_118 hD hth r0
  have cr_0_35 := fdq_132 hD hth r0
  have cr_0_36 := fdq_167 hD hth r0
  have cr_0_37 := fdq_168 hD hth r0
  have cr_0_54 := fdq_272 hD hth r0
  have cr_0_56 := fdq_273 hD hth r0
  have cr_0_57 := fdq_274 hD hth r0
  have hK_0_33 := elq_60 hD hth cr_0_33
  have hK_0_34 := elq_61 hD hth cr_0_34
  have hK_0_35 := elq_72 hD hth cr_0_35
  have hK_0_36 := elq_97 hD hth cr_0_36
  have hK_0_37 := elq_98 hD hth cr_0_37
  have hK_0_54 := elq_171 hD hth cr_0_54
  have hK_0_56 := elq_172 hD hth cr_0_56
  have hK_0_57 := elq_173 hD hth cr_0_57
  have kz_0_31 := fdq_145 hD hth r0
  have kz_0_32 := fdq_140 hD hth r0
  have kz_0_53 := fdq_275 hD hth r0
  obtain ⟨x, ex, hx⟩ := iv_ex (ta := ta) (lo := (-2)) (hi := 161) (z := (-1) + (1 * v_iv (n_v vs 6) + 0)) (by omega) (by omega) (by omega) (by omega)
  have ex2 : v_iv (Value.int x) = (-1) + (1 * v_iv (n_v vs 6) + 0) := ex
  have ex3 : (-2) ≤ v_iv (Value.int x) ∧ v_iv (Value.int x) ≤ 161 := tv_rng hx
  have e_0 : n_v (vs ++ [Value.int x]) 0 = n_v vs 0 := n_v_old (by rw [hl]; decide)
  have e_1 : n_v (vs ++ [Value.int x]) 1 = n_v vs 1 := n_v_old (by rw [hl]; decide)
  have e_2 : n_v (vs ++ [Value.int x]) 2 = n_v vs 2 := n_v_old (by rw [hl]; decide)
  have e_3 : n_v (vs ++ [Value.int x]) 3 = n_v vs 3 := n_v_old (by rw [hl]; decide)
  have e_4 : n_v (vs ++ [Value.int x]) 4 = n_v vs 4 := n_v_old (by rw [hl]; decide)
  have e_7 : n_v (vs ++ [Value.int x]) 7 = Value.int x := n_v_new hl
  have nf0 : fc_1 PRD (20, [1], [60, 2, 2, 75, 31, 32, 33, 34]) ws (vs ++ [Value.int x]) := by
    refine ⟨nf_inA hl rfl, sgq_575 ?_⟩
    · show GOK (w_fi ws (n_v (vs ++ [Value.int x]) 1) 31) (w_fi ws (n_v (vs ++ [Value.int x]) 1) 32) (w_ei ws (w_ar ws (n_v (vs ++ [Value.int x]) 1) 33)) (w_ei ws (w_ar ws (n_v (vs ++ [Value.int x]) 1) 34))
      simp only [e_1, q1]
      exact vc_Mo_goRound_11_0 (w_ei ws (w_ar ws (n_v vs 0) 33)) (w_ei ws (w_ar ws (n_v vs 0) 34)) (w_fi ws (n_v vs 0) 31) (w_fi ws (n_v vs 0) 32) f1 kz_0_31 kz_0_32
  have nf1 : fc_1 PRD (20, [1], [60, 2, 5, 187, 31, 32, 33, 34, 35, 36, 37]) ws (vs ++ [Value.int x]) := by
    refine ⟨nf_inA hl rfl, sgq_1012 ?_⟩
    · show EML (w_fi ws (n_v (vs ++ [Value.int x]) 1) 31) (w_fi ws (n_v (vs ++ [Value.int x]) 1) 32) (w_ei ws (w_ar ws (n_v (vs ++ [Value.int x]) 1) 33)) (w_ei ws (w_ar ws (n_v (vs ++ [Value.int x]) 1) 34)) (w_ei ws (w_ar ws (n_v (vs ++ [Value.int x]) 1) 35)) (w_ei ws (w_ar ws (n_v (vs ++ [Value.int x]) 1) 36)) (w_ei ws (w_ar ws (n_v (vs ++ [Value.int x]) 1) 37))
      simp only [e_1, q1]
      exact vc_Mo_goRound_11_1 (w_ei ws (w_ar ws (n_v vs 0) 33)) (w_ei ws (w_ar ws (n_v vs 0) 34)) (w_fi ws (n_v vs 0) 31) (w_fi ws (n_v vs 0) 32) (w_ei ws (w_ar ws (n_v vs 0) 35)) (w_ei ws (w_ar ws (n_v vs 0) 36)) (w_ei ws (w_ar ws (n_v vs 0) 37)) f2 kz_0_31 kz_0_32
  have nf2 : fc_1 PRD (20, [1, 2, 3, 4], [60, 2, 8, 194, 32, 53, 33, 34, 35, 36, 37, 54, 56, 57]) ws (vs ++ [Value.int x]) := by
    refine ⟨nf_inA hl rfl, sgq_1137 ?_⟩
    · show GII (w_fi ws (n_v (vs ++ [Value.int x]) 1) 32) (w_fi ws (n_v (vs ++ [Value.int x]) 1) 53) (w_ei ws (w_ar ws (n_v (vs ++ [Value.int x]) 1) 33)) (w_ei ws (w_ar ws (n_v (vs ++ [Value.int x]) 1) 34)) (w_ei ws (w_ar ws (n_v (vs ++ [Value.int x]) 1) 35)) (w_ei ws (w_ar ws (n_v (vs ++ [Value.int x]) 1) 36)) (w_ei ws (w_ar ws (n_v (vs ++ [Value.int x]) 1) 37)) (w_ei ws (w_ar ws (n_v (vs ++ [Value.int x]) 1) 54)) (w_ei ws (w_ar ws (n_v (vs ++ [Value.int x]) 1) 56)) (w_ei ws (w_ar ws (n_v (vs ++ [Value.int x]) 1) 57)) (v_iv (n_v (vs ++ [Value.int x]) 2)) (v_iv (n_v (vs ++ [Value.int x]) 3)) (v_iv (n_v (vs ++ [Value.int x]) 4))
      simp only [e_1, e_2, e_3, e_4, q1]
      exact vc_Mo_goRound_11_2 (v_iv (n_v vs 2)) (v_iv (n_v vs 3)) (v_iv (n_v vs 4)) (w_ei ws (w_ar ws (n_v vs 0) 33)) (w_ei ws (w_ar ws (n_v vs 0) 34)) (w_fi ws (n_v vs 0) 31) (w_fi ws (n_v vs 0) 32) (w_ei ws (w_ar ws (n_v vs 0) 35)) (w_ei ws (w_ar ws (n_v vs 0) 36)) (w_ei ws (w_ar ws (n_v vs 0) 37)) (w_ei ws (w_ar ws (n_v vs 0) 54)) (w_ei ws (w_ar ws (n_v vs 0) 56)) (w_ei ws (w_ar ws (n_v vs 0) 57)) (w_fi ws (n_v vs 0) 53) k2 k3 k4 f0 f1 f2 f3 kz_0_31 kz_0_32 kz_0_53
  have nf3 : fc_1 PRD (20, [2, 7], [30, -160, -1, 0, 0, -1, 0, 0]) ws (vs ++ [Value.int x]) := by
    refine ⟨nf_inA hl rfl, sgq_1136 ?_⟩
    · show (-1) * v_iv (n_v (vs ++ [Value.int x]) 2) + ((-1) * v_iv (n_v (vs ++ [Value.int x]) 7) + 0) ≤ (-160)
      simp only [e_2, e_7]
      exact vc_Mo_goRound_11_3 (v_iv (n_v vs 2)) (v_iv (n_v vs 6)) (v_iv (Value.int x)) k2 k6 f4 ex2
  have nf4 : fc_1 PRD (24, [0, 1], []) ws (vs ++ [Value.int x]) := by
    refine ⟨nf_inA hl rfl, sgq_5 ?_⟩
    · show n_v (vs ++ [Value.int x]) 0 = n_v (vs ++ [Value.int x]) 1
      first | rfl | simp only [e_0, e_1, q1]
  obtain ⟨x0, e0, _, _⟩ := tv_int t6 rfl
  have e1 : v_iv (n_v vs 6) = x0.toInt := by rw [e0]; rfl
  have ho : sy_ofs (vs ++ [Value.int x]) (7, 6, -1000000000000, -1) := by
    refine ⟨x, x0, by rw [List.getElem?_append_right (by rw [hl]; decide), hl]; rfl, ?_, ?_, ?_⟩
    · rw [List.getElem?_append_left (by rw [hl]; decide)]; exact n_v_some (by rw [hl]; decide) e0
    · show x0.toInt + (-1000000000000) ≤ x.toInt; omega
    · show x.toInt ≤ x0.toInt + (-1); omega
  exact ⟨(fun _ h => (by cases h)), [Value.int x], ag_one hx, List.forall_mem_cons.mpr ⟨⟨show (20 : Nat) < 100 from by decide, nf0⟩, List.forall_mem_cons.mpr ⟨⟨show (20 : Nat) < 100 from by decide, nf1⟩, List.forall_mem_cons.mpr ⟨⟨show (20 : Nat) < 100 from by decide, nf2⟩, List.forall_mem_cons.mpr ⟨⟨show (20 : Nat) < 100 from by decide, nf3⟩, List.forall_mem_cons.mpr ⟨⟨show (24 : Nat) < 100 from by decide, nf4⟩, (fun _ h => (by cases h))⟩⟩⟩⟩⟩, List.forall_mem_cons.mpr ⟨ho, (fun _ h => (by cases h))⟩⟩
set_option maxHeartbeats 4000000 in
theorem vc_Mo_goRound_12_0 (x2 : Int) (x3 : Int) (x4 : Int) (x5 : Int) (x8 : Int) (x9 : Int) (pt_0 : Int → Int) (ph_0 : Int → Int) (pn_0 : Int) (pm_0 : Int) (alive_0 : Int → Int) (rotMany_0 : Int → Int) (rot_0 : Int → Int) (rounds_1 : Int) (pt_1 : Int → Int) (ph_1 : Int → Int) (pn_1 : Int) (pm_1 : Int) (alive_1 : Int → Int) (rotMany_1 : Int → Int) (rot_1 : Int → Int) (roundOf_1 : Int → Int) (roundBegin_1 : Int → Int) (roundDart_1 : Int → Int) (rounds_0 : Int) (roundOf_0 : Int → Int) (roundBegin_0 : Int → Int) (roundDart_0 : Int → Int) (k2 : 1 ≤ x2 ∧ x2 ≤ 160) (k3 : 0 ≤ x3 ∧ x3 ≤ 159) (k4 : 0 ≤ x4 ∧ x4 ≤ 159) (k5 : 0 ≤ x5 ∧ x5 ≤ 159) (k8 : 1 ≤ x8 ∧ x8 ≤ 160) (k9 : 1 ≤ x9 ∧ x9 ≤ 160) (d1 : x5 + 1 ≤ x8 ∧ x8 ≤ x5 + 1) (f0 : x9 = x3 + 1) (g7 : x5 = rounds_1) (f8 : x4 = x3) (f11 : GIT (pm_1) (rounds_1) (pt_1) (ph_1) (alive_1) (rotMany_1) (rot_1) (roundOf_1) (roundBegin_1) (roundDart_1) (x2) (x3) (x4)) (fe_0_31_1 : pn_0 = pn_1) (fe_0_32_1 : pm_0 = pm_1) (fe_0_53_1 : rounds_0 = x8) (hE_0_33_1 : ∀ j : Int, pt_0 j = pt_1 j) (hE_0_34_1 : ∀ j : Int, ph_0 j = ph_1 j) (hE_0_35_1 : ∀ j : Int, alive_0 j = alive_1 j) (hE_0_36_1 : ∀ j : Int, rotMany_0 j = rotMany_1 j) (hE_0_37_1 : ∀ j : Int, rot_0 j = rot_1 j) (hE_0_54_1 : ∀ j : Int, roundOf_0 j = roundOf_1 j) (hE_0_56_1 : ∀ j : Int, roundBegin_0 j = roundBegin_1 j) (hE_0_57_1 : ∀ j : Int, roundDart_0 j = roundDart_1 j) (kz_0_31 : 0 ≤ pn_0 ∧ pn_0 ≤ 25) (kz_0_32 : 0 ≤ pm_0 ∧ pm_0 ≤ 80) (kz_0_53 : 0 ≤ rounds_0 ∧ rounds_0 ≤ 160) : GOI (pm_0) (rounds_0) (pt_0) (ph_0) (alive_0) (rotMany_0) (rot_0) (roundOf_0) (roundBegin_0) (roundDart_0) (x2) (x9) := by
  subst fe_0_31_1
  subst fe_0_32_1
  have e_hE_0_33_1 := funext hE_0_33_1; subst e_hE_0_33_1
  have e_hE_0_34_1 := funext hE_0_34_1; subst e_hE_0_34_1
  have e_hE_0_35_1 := funext hE_0_35_1; subst e_hE_0_35_1
  have e_hE_0_36_1 := funext hE_0_36_1; subst e_hE_0_36_1
  have e_hE_0_37_1 := funext hE_0_37_1; subst e_hE_0_37_1
  have e_hE_0_54_1 := funext hE_0_54_1; subst e_hE_0_54_1
  have e_hE_0_56_1 := funext hE_0_56_1; subst e_hE_0_56_1
  have e_hE_0_57_1 := funext hE_0_57_1; subst e_hE_0_57_1
  first
    | exact goi_start ‹RO0 _ _› (by omega) (by omega) (by omega) (by omega)
    | exact goi_skip ‹GOI _ _ _ _ _ _ _ _ _ _ _ _› (by omega) (Or.inl (by rw [← (by omega : x10 = x3 / 2)]; omega))
    | exact goi_skip ‹GOI _ _ _ _ _ _ _ _ _ _ _ _› (by omega) (Or.inr (by omega))
    | exact git_end ‹GIT _ _ _ _ _ _ _ _ _ _ _ _ _› (by omega) (by omega) (by omega)
def o_Mo_goRound_12 : or_T := (34, 10, [(0, (2, 0, 0, [165])), (2, (0, 1, 160, [])), (3, (0, 0, 159, [])), (4, (0, 0, 159, [])), (5, (0, 0, 159, [])), (8, (0, 1, 160, [])), (9, (0, 1, 160, []))], [(6, [9, 3], [1]), (24, [0, 1], []), (101, [1, 8], [53]), (9, [5, 1], [53]), (7, [4, 3], [0]), (20, [1, 2, 3, 4], [60, 2, 8, 196, 32, 53, 33, 34, 35, 36, 37, 54, 56, 57])], [], [], [(20, [1, 2, 9], [60, 2, 8, 192, 32, 53, 33, 34, 35, 36, 37, 54, 56, 57])], [], [(8, 5, 1, 1)])
theorem oo_Mo_goRound_12 {kA : Nat → ClassId} : or_ok PRD kA GG o_Mo_goRound_12 := by
  refine or_mk fun A ta ws vs hD hth hl => ?_
  intro t0 r0 t2 k2 t3 k3 t4 k4 t5 k5 t8 k8 t9 k9 d1 f0 f4 ta1 w1 le1 s1 f7 f8 f11
  replace f0 := shm_4 f0
  replace f4 := shm_5 f4
  have s1 : (∀ b j, w_el ws b j = w_el w1 b j) ∧ ∀ b j, w_fd ws b j = if b = v_ad (n_v vs 1) ∧ j = 53 then n_v vs 8 else w_fd w1 b j := s1.2
  replace f7 := shm_1132 f7
  replace f8 := shm_37 f8
  replace f11 := shm_1140 f11
  have q1 : n_v vs 1 = n_v vs 0 := f4.symm
  rw [q1] at s1
  simp only [q1] at f7 f11
  have ar_0_33_1 : w_ar w1 (n_v vs 0) 33 = w_ar ws (n_v vs 0) 33 := by show v_ad (w_fd w1 _ _) = v_ad (w_fd ws _ _); rw [s1.2, if_neg (fun e => absurd e.2 (by decide))]
  have ar_0_34_1 : w_ar w1 (n_v vs 0) 34 = w_ar ws (n_v vs 0) 34 := by show v_ad (w_fd w1 _ _) = v_ad (w_fd ws _ _); rw [s1.2, if_neg (fun e => absurd e.2 (by decide))]
  have ar_0_35_1 : w_ar w1 (n_v vs 0) 35 = w_ar ws (n_v vs 0) 35 := by show v_ad (w_fd w1 _ _) = v_ad (w_fd ws _ _); rw [s1.2, if_neg (fun e => absurd e.2 (by decide))]
  have ar_0_36_1 : w_ar w1 (n_v vs 0) 36 = w_ar ws (n_v vs 0) 36 := by show v_ad (w_fd w1 _ _) = v_ad (w_fd ws _ _); rw [s1.2, if_neg (fun e => absurd e.2 (by decide))]
  have ar_0_37_1 : w_ar w1 (n_v vs 0) 37 = w_ar ws (n_v vs 0) 37 := by show v_ad (w_fd w1 _ _) = v_ad (w_fd ws _ _); rw [s1.2, if_neg (fun e => absurd e.2 (by decide))]
  have ar_0_54_1 : w_ar w1 (n_v vs 0) 54 = w_ar ws (n_v vs 0) 54 := by show v_ad (w_fd w1 _ _) = v_ad (w_fd ws _ _); rw [s1.2, if_neg (fun e => absurd e.2 (by decide))]
  have ar_0_56_1 : w_ar w1 (n_v vs 0) 56 = w_ar ws (n_v vs 0) 56 := by show v_ad (w_fd w1 _ _) = v_ad (w_fd ws _ _); rw [s1.2, if_neg (fun e => absurd e.2 (by decide))]
  have ar_0_57_1 : w_ar w1 (n_v vs 0) 57 = w_ar ws (n_v vs 0) 57 := by show v_ad (w_fd w1 _ _) = v_ad (w_fd ws _ _); rw [s1.2, if_neg (fun e => absurd e.2 (by decide))]
  have g7 : v_iv (n_v vs 5) = w_fi w1 (n_v vs 0) 53 := congrArg v_iv f7
  simp only [ar_0_33_1, ar_0_34_1, ar_0_35_1, ar_0_36_1, ar_0_37_1, ar_0_54_1, ar_0_56_1, ar_0_57_1] at f11
  have fe_0_31_1 : w_fi ws (n_v vs 0) 31 = w_fi w1 (n_v vs 0) 31 := by show v_iv (w_fd _ _ _) = v_iv (w_fd _ _ _); rw [s1.2, if_neg (fun e => absurd e.2 (by decide))]
  have fe_0_32_1 : w_fi ws (n_v vs 0) 32 = w_fi w1 (n_v vs 0) 32 := by show v_iv (w_fd _ _ _) = v_iv (w_fd _ _ _); rw [s1.2, if_neg (fun e => absurd e.2 (by decide))]
  have fe_0_53_1 : w_fi ws (n_v vs 0) 53 = v_iv (n_v vs 8) := by show v_iv (w_fd _ _ _) = _; rw [s1.2, if_pos ⟨rfl, rfl⟩]
  have hE_0_33_1 : ∀ j : Int, w_ei ws (w_ar ws (n_v vs 0) 33) j = w_ei w1 (w_ar ws (n_v vs 0) 33) j := fun j => s1.1 _ _
  have hE_0_34_1 : ∀ j : Int, w_ei ws (w_ar ws (n_v vs 0) 34) j = w_ei w1 (w_ar ws (n_v vs 0) 34) j := fun j => s1.1 _ _
  have hE_0_35_1 : ∀ j : Int, w_ei ws (w_ar ws (n_v vs 0) 35) j = w_ei w1 (w_ar ws (n_v vs 0) 35) j := fun j => s1.1 _ _
  have hE_0_36_1 : ∀ j : Int, w_ei ws (w_ar ws (n_v vs 0) 36) j = w_ei w1 (w_ar ws (n_v vs 0) 36) j := fun j => s1.1 _ _
  have hE_0_37_1 : ∀ j : Int, w_ei ws (w_ar ws (n_v vs 0) 37) j = w_ei w1 (w_ar ws (n_v vs 0) 37) j := fun j => s1.1 _ _
  have hE_0_54_1 : ∀ j : Int, w_ei ws (w_ar ws (n_v vs 0) 54) j = w_ei w1 (w_ar ws (n_v vs 0) 54) j := fun j => s1.1 _ _
  have hE_0_56_1 : ∀ j : Int, w_ei ws (w_ar ws (n_v vs 0) 56) j = w_ei w1 (w_ar ws (n_v vs 0) 56) j := fun j => s1.1 _ _
  have hE_0_57_1 : ∀ j : Int, w_ei ws (w_ar ws (n_v vs 0) 57) j = w_ei w1 (w_ar ws (n_v vs 0) 57) j := fun j => s1.1 _ _
  have kz_0_31 := fdq_145 hD hth r0
  have kz_0_32 := fdq_140 hD hth r0
  have kz_0_53 := fdq_275 hD hth r0
  have nf0 : fc_1 PRD (20, [1, 2, 9], [60, 2, 8, 192, 32, 53, 33, 34, 35, 36, 37, 54, 56, 57]) ws (vs) := by
    refine ⟨nf_in hl rfl, sgq_1131 ?_⟩
    · show GOI (w_fi ws (n_v vs 1) 32) (w_fi ws (n_v vs 1) 53) (w_ei ws (w_ar ws (n_v vs 1) 33)) (w_ei ws (w_ar ws (n_v vs 1) 34)) (w_ei ws (w_ar ws (n_v vs 1) 35)) (w_ei ws (w_ar ws (n_v vs 1) 36)) (w_ei ws (w_ar ws (n_v vs 1) 37)) (w_ei ws (w_ar ws (n_v vs 1) 54)) (w_ei ws (w_ar ws (n_v vs 1) 56)) (w_ei ws (w_ar ws (n_v vs 1) 57)) (v_iv (n_v vs 2)) (v_iv (n_v vs 9))
      rw [q1]
      exact vc_Mo_goRound_12_0 (v_iv (n_v vs 2)) (v_iv (n_v vs 3)) (v_iv (n_v vs 4)) (v_iv (n_v vs 5)) (v_iv (n_v vs 8)) (v_iv (n_v vs 9)) (w_ei ws (w_ar ws (n_v vs 0) 33)) (w_ei ws (w_ar ws (n_v vs 0) 34)) (w_fi ws (n_v vs 0) 31) (w_fi ws (n_v vs 0) 32) (w_ei ws (w_ar ws (n_v vs 0) 35)) (w_ei ws (w_ar ws (n_v vs 0) 36)) (w_ei ws (w_ar ws (n_v vs 0) 37)) (w_fi w1 (n_v vs 0) 53) (w_ei w1 (w_ar ws (n_v vs 0) 33)) (w_ei w1 (w_ar ws (n_v vs 0) 34)) (w_fi w1 (n_v vs 0) 31) (w_fi w1 (n_v vs 0) 32) (w_ei w1 (w_ar ws (n_v vs 0) 35)) (w_ei w1 (w_ar ws (n_v vs 0) 36)) (w_ei w1 (w_ar ws (n_v vs 0) 37)) (w_ei w1 (w_ar ws (n_v vs 0) 54)) (w_ei w1 (w_ar ws (n_v vs 0) 56)) (w_ei w1 (w_ar ws (n_v vs 0) 57)) (w_fi ws (n_v vs 0) 53) (w_ei ws (w_ar ws (n_v vs 0) 54)) (w_ei ws (w_ar ws (n_v vs 0) 56)) (w_ei ws (w_ar ws (n_v vs 0) 57)) k2 k3 k4 k5 k8 k9 d1 f0 g7 f8 f11 fe_0_31_1 fe_0_32_1 fe_0_53_1 hE_0_33_1 hE_0_34_1 hE_0_35_1 hE_0_36_1 hE_0_37_1 hE_0_54_1 hE_0_56_1 hE_0_57_1 kz_0_31 kz_0_32 kz_0_53
  refine ⟨(fun _ h => (by cases h)), [], trivial, ?_, (fun _ h => (by cases h))⟩
  rw [List.append_nil]
  exact List.forall_mem_cons.mpr ⟨⟨show (20 : Nat) < 100 from by decide, nf0⟩, (fun _ h => (by cases h))⟩
def n_Mo_goRound_an : List an_T := [(9, [(0, (2, 0, 0, [165])), (1, (0, 0, 0, [])), (2, (0, 0, 160, []))], [], (0, 0), [(0, 0, 99991), (1, 3, 160), (0, 0, 100000), (0, 0, 0), (0, 0, 0)], [], [], [(2, 0, 0, [165])], 0, [], [(20, [1], [60, 2, 2, 75, 31, 32, 33, 34]), (20, [1], [60, 2, 5, 187, 31, 32, 33, 34, 35, 36, 37]), (20, [1, 3], [60, 0, 1, 191, 54]), (20, [1], [50, 1, 0, 53, 1, 3, 2, 0, 53, 0, 0]), (20, [2], [50, 0, 0, 1, 2, 1, 0, 0, 0]), (24, [0, 1], [])]), (34, [(0, (2, 0, 0, [165])), (1, (0, 0, 160, [])), (2, (0, 0, 160, []))], [], (0, 0), [(0, 0, 99966), (1, 3, 160), (0, 0, 100000), (0, 0, 0), (0, 0, 0)], [], [((0, 53), (0, 0, 160, []))], [(2, 0, 0, [165])], 0, [], [(20, [1], [60, 2, 2, 75, 31, 32, 33, 34]), (20, [1], [60, 2, 5, 187, 31, 32, 33, 34, 35, 36, 37]), (20, [1, 2, 3], [60, 2, 8, 192, 32, 53, 33, 34, 35, 36, 37, 54, 56, 57]), (24, [0, 1], [])]), (79, [(0, (2, 0, 0, [165])), (1, (0, 0, 160, [])), (2, (0, 0, 255, [])), (3, (0, 0, 159, []))], [], (0, 0), [(0, 0, 99966), (1, 3, 160), (0, 0, 99921), (2, 5, (Int.negSucc 1)), (0, 0, 100000)], [], [], [(2, 0, 0, [165])], 0, [(0, (Int.negSucc 1), 161, [])], [(20, [1], [60, 2, 2, 75, 31, 32, 33, 34]), (20, [1], [60, 2, 5, 187, 31, 32, 33, 34, 35, 36, 37]), (20, [1, 2, 3, 4], [60, 2, 8, 194, 32, 53, 33, 34, 35, 36, 37, 54, 56, 57]), (20, [2, 5], [30, (Int.negSucc 159), (Int.negSucc 0), 0, 0, (Int.negSucc 0), 0, 0]), (24, [0, 1], [])]), (105, [(0, (2, 0, 0, [165])), (1, (0, 1, 160, [])), (2, (0, 0, 255, [])), (3, (0, 0, 159, []))], [], (0, 0), [(0, 0, 99966), (1, 3, 160), (0, 0, 99921), (2, 6, (Int.negSucc 1)), (0, 0, 99895)], [], [((0, 53), (0, 0, 159, []))], [(2, 0, 0, [165])], 0, [(0, (Int.negSucc 1), 161, [])], [(20, [1], [60, 2, 2, 75, 31, 32, 33, 34]), (20, [1], [60, 2, 5, 187, 31, 32, 33, 34, 35, 36, 37]), (20, [1, 2, 3, 4], [60, 2, 8, 196, 32, 53, 33, 34, 35, 36, 37, 54, 56, 57]), (20, [2, 6], [30, (Int.negSucc 160), (Int.negSucc 0), 0, 0, (Int.negSucc 0), 0, 0]), (24, [0, 1], [])])]
def t_Mo_goRound_ct : ct_L := [(1, 686, e_Mo_nextDart)]
set_option maxRecDepth 100000 in
theorem c_Mo_goRound {l : Launch} {D : va_G} {kA : Nat → ClassId} (h_Mo_nextDart : ct_ok PRD l D kA GG y_Mo_nextDart z_Mo_nextDart e_Mo_nextDart) : ct_ok PRD l D kA GG y_Mo_goRound z_Mo_goRound e_Mo_goRound := chk_all_ok (FT := [(63, 13, 35), (105, 13, 54), (111, 13, 56), (114, 13, 57), (597, 13, 32), (683, 13, 53)]) (PT := [(683, 13, 53, .int)]) (CT := t_Mo_goRound_ct) (KT := []) (NT := []) (AN := n_Mo_goRound_an) (OT := [o_Mo_goRound_0, o_Mo_goRound_1, o_Mo_goRound_2, o_Mo_goRound_3, o_Mo_goRound_4, o_Mo_goRound_5, o_Mo_goRound_6, o_Mo_goRound_7, o_Mo_goRound_8, o_Mo_goRound_9, o_Mo_goRound_10, o_Mo_goRound_11, o_Mo_goRound_12]) 5 348 (List.forall_mem_cons.mpr ⟨oo_Mo_goRound_0, List.forall_mem_cons.mpr ⟨oo_Mo_goRound_1, List.forall_mem_cons.mpr ⟨oo_Mo_goRound_2, List.forall_mem_cons.mpr ⟨oo_Mo_goRound_3, List.forall_mem_cons.mpr ⟨oo_Mo_goRound_4, List.forall_mem_cons.mpr ⟨oo_Mo_goRound_5, List.forall_mem_cons.mpr ⟨oo_Mo_goRound_6, List.forall_mem_cons.mpr ⟨oo_Mo_goRound_7, List.forall_mem_cons.mpr ⟨oo_Mo_goRound_8, List.forall_mem_cons.mpr ⟨oo_Mo_goRound_9, List.forall_mem_cons.mpr ⟨oo_Mo_goRound_10, List.forall_mem_cons.mpr ⟨oo_Mo_goRound_11, List.forall_mem_cons.mpr ⟨oo_Mo_goRound_12, List.forall_mem_nil _⟩⟩⟩⟩⟩⟩⟩⟩⟩⟩⟩⟩⟩) (by decide +kernel) ⟨List.forall_mem_cons.mpr ⟨gf_Mo_63, List.forall_mem_cons.mpr ⟨gf_Mo_105, List.forall_mem_cons.mpr ⟨gf_Mo_111, List.forall_mem_cons.mpr ⟨gf_Mo_114, List.forall_mem_cons.mpr ⟨gf_Mo_597, List.forall_mem_cons.mpr ⟨gf_Mo_683, List.forall_mem_nil _⟩⟩⟩⟩⟩⟩, List.forall_mem_cons.mpr ⟨pf_Mo_683, List.forall_mem_nil _⟩, List.forall_mem_cons.mpr ⟨cl_virtual (y := y_Mo_nextDart) (ci := 13) rfl rfl ⟨_, _, rfl⟩ (by decide +kernel) h_Mo_nextDart wm_3259 wm_9 wm_3256 wm_3258 wv_16_7 ⟨by decide, by decide, by decide +kernel⟩ (by decide), List.forall_mem_nil _⟩, List.forall_mem_nil _, List.forall_mem_nil _, GG_pl⟩ (by decide +kernel)
set_option maxHeartbeats 4000000 in
theorem vc_Mo_halfOf_0_0 (x3 : Int) (k3 : 0 ≤ x3 ∧ x3 ≤ 0) : (0 ≤ x3) ∧ (x3 ≤ 100) := by
  omega
def o_Mo_halfOf_0 : or_T := (19, 4, [(3, (0, 0, 0, []))], [], [], [], [(20, [3], [50, 0, 0, 2, 6, 0, 2, 0, 0, 1, 0, 0, 2, 1, 0, 0, 100])], [], [])
theorem oo_Mo_halfOf_0 {kA : Nat → ClassId} : or_ok PRD kA GG o_Mo_halfOf_0 := by
  refine or_mk fun A ta ws vs hD hth hl => ?_
  intro t3 k3
  have nf0 : fc_1 PRD (20, [3], [50, 0, 0, 2, 6, 0, 2, 0, 0, 1, 0, 0, 2, 1, 0, 0, 100]) ws (vs) := ⟨nf_in hl rfl, sgq_1142 (vc_Mo_halfOf_0_0 (v_iv (n_v vs 3)) k3)⟩
  refine ⟨(fun _ h => (by cases h)), [], trivial, ?_, (fun _ h => (by cases h))⟩
  rw [List.append_nil]
  exact List.forall_mem_cons.mpr ⟨⟨show (20 : Nat) < 100 from by decide, nf0⟩, (fun _ h => (by cases h))⟩
set_option maxHeartbeats 4000000 in
theorem vc_Mo_halfOf_1_0 (x1 : Int) (x3 : Int) (x5 : Int) (all_0 : Int → Int) (r_0 : Int) (k1 : 0 ≤ x1 ∧ x1 ≤ 23) (k3 : 0 ≤ x3 ∧ x3 ≤ 8) (k5 : 1 ≤ x5 ∧ x5 ≤ 9) (d0 : x3 + 1 ≤ x5 ∧ x5 ≤ x3 + 1) (f1 : x3 = all_0 ((r_0 + (195 + x1)))) : (0 ≤ x5) ∧ (x5 ≤ 100) := by
  omega
def o_Mo_halfOf_1 : or_T := (19, 6, [(1, (0, 0, 23, [])), (3, (0, 0, 8, [])), (5, (0, 1, 9, []))], [(20, [3, 0, 1], [50, 1, 1, 1005, 1002, 1, 2, 1, 0, 3, 1, 2, 4, 3, 2, 1, 5, 4, 2, 0, 195, 1, 2])], [], [], [(20, [5], [50, 0, 0, 2, 6, 0, 2, 0, 0, 1, 0, 0, 2, 1, 0, 0, 100])], [], [(5, 3, 1, 1)])
theorem oo_Mo_halfOf_1 {kA : Nat → ClassId} : or_ok PRD kA GG o_Mo_halfOf_1 := by
  refine or_mk fun A ta ws vs hD hth hl => ?_
  intro t1 k1 t3 k3 t5 k5 d0 f1
  have nf0 : fc_1 PRD (20, [5], [50, 0, 0, 2, 6, 0, 2, 0, 0, 1, 0, 0, 2, 1, 0, 0, 100]) ws (vs) := ⟨nf_in hl rfl, sgq_1142 (vc_Mo_halfOf_1_0 (v_iv (n_v vs 1)) (v_iv (n_v vs 3)) (v_iv (n_v vs 5)) (w_ei ws (w_ar ws (n_v vs 0) 2)) (w_fi ws (n_v vs 0) 5) k1 k3 k5 d0 (shm_636 f1))⟩
  refine ⟨(fun _ h => (by cases h)), [], trivial, ?_, (fun _ h => (by cases h))⟩
  rw [List.append_nil]
  exact List.forall_mem_cons.mpr ⟨⟨show (20 : Nat) < 100 from by decide, nf0⟩, (fun _ h => (by cases h))⟩
def n_Mo_halfOf_an : List an_T := []
def t_Mo_halfOf_ct : ct_L := [(1, 475, e_Mo_nodes), (1, 478, e_Mo_longOf)]
set_option maxRecDepth 100000 in
theorem c_Mo_halfOf {l : Launch} {D : va_G} {kA : Nat → ClassId} (h_Mo_longOf : ct_ok PRD l D kA GG y_Mo_longOf z_Mo_longOf e_Mo_longOf) (h_Mo_nodes : ct_ok PRD l D kA GG y_Mo_nodes z_Mo_nodes e_Mo_nodes) : ct_ok PRD l D kA GG y_Mo_halfOf z_Mo_halfOf e_Mo_halfOf := chk_all_ok (FT := []) (PT := []) (CT := t_Mo_halfOf_ct) (KT := []) (NT := []) (AN := n_Mo_halfOf_an) (OT := [o_Mo_halfOf_0, o_Mo_halfOf_1]) 0 200 (List.forall_mem_cons.mpr ⟨oo_Mo_halfOf_0, List.forall_mem_cons.mpr ⟨oo_Mo_halfOf_1, List.forall_mem_nil _⟩⟩) (by decide +kernel) ⟨List.forall_mem_nil _, List.forall_mem_nil _, List.forall_mem_cons.mpr ⟨cl_virtual (y := y_Mo_nodes) (ci := 13) rfl rfl ⟨_, _, rfl⟩ (by decide +kernel) h_Mo_nodes wm_3025 wm_9 wm_3022 wm_3024 wv_13_3 ⟨by decide, by decide, by decide +kernel⟩ (by decide), List.forall_mem_cons.mpr ⟨cl_virtual (y := y_Mo_longOf) (ci := 13) rfl rfl ⟨_, _, rfl⟩ (by decide +kernel) h_Mo_longOf wm_3029 wm_9 wm_3026 wm_3028 wv_13_4 ⟨by decide, by decide, by decide +kernel⟩ (by decide), List.forall_mem_nil _⟩⟩, List.forall_mem_nil _, List.forall_mem_nil _, GG_pl⟩ (by decide +kernel)
set_option maxHeartbeats 4000000 in
theorem vc_Mo_has_0_0 (x1 : Int) (x2 : Int) (x3 : Int) (x4 : Int) (all_0 : Int → Int) (r_0 : Int) (k1 : 0 ≤ x1 ∧ x1 ≤ 47) (k2 : 0 ≤ x2 ∧ x2 ≤ 23) (k3 : 0 ≤ x3 ∧ x3 ≤ 23) (k4 : 1 ≤ x4 ∧ x4 ≤ 1) (d0 : x2 + 0 ≤ x3 ∧ x3 ≤ x2 + 0) (f1 : x3 = all_0 (((r_0 + 267) + x1))) : HSP (r_0) (all_0) (x1) (x2) (x4) := by
  unfold HSP inc
  first
    | exact ⟨fun _ => Or.inl (by omega), fun _ => by omega⟩
    | exact ⟨fun _ => Or.inr (by omega), fun _ => by omega⟩
    | exact ⟨fun z => by exfalso; omega, fun z => by exfalso; rcases z with z | z <;> omega⟩
def o_Mo_has_0 : or_T := (23, 5, [(1, (0, 0, 47, [])), (2, (0, 0, 23, [])), (3, (0, 0, 23, [])), (4, (0, 1, 1, []))], [(20, [3, 0, 1], [50, 1, 1, 1005, 1002, 1, 2, 1, 0, 3, 1, 2, 4, 7, 4, 3, 2, 1, 5, 0, 267, 1, 2])], [], [], [(20, [0, 1, 2, 4], [60, 1, 1, 204, 5, 2])], [], [(3, 2, 0, 0)])
theorem oo_Mo_has_0 {kA : Nat → ClassId} : or_ok PRD kA GG o_Mo_has_0 := by
  refine or_mk fun A ta ws vs hD hth hl => ?_
  intro t1 k1 t2 k2 t3 k3 t4 k4 d0 f1
  have nf0 : fc_1 PRD (20, [0, 1, 2, 4], [60, 1, 1, 204, 5, 2]) ws (vs) := ⟨nf_in hl rfl, sgq_1143 (vc_Mo_has_0_0 (v_iv (n_v vs 1)) (v_iv (n_v vs 2)) (v_iv (n_v vs 3)) (v_iv (n_v vs 4)) (w_ei ws (w_ar ws (n_v vs 0) 2)) (w_fi ws (n_v vs 0) 5) k1 k2 k3 k4 d0 (shm_749 f1))⟩
  refine ⟨(fun _ h => (by cases h)), [], trivial, ?_, (fun _ h => (by cases h))⟩
  rw [List.append_nil]
  exact List.forall_mem_cons.mpr ⟨⟨show (20 : Nat) < 100 from by decide, nf0⟩, (fun _ h => (by cases h))⟩
set_option maxHeartbeats 4000000 in
theorem vc_Mo_has_1_0 (x1 : Int) (x2 : Int) (x3 : Int) (x4 : Int) (x5 : Int) (all_0 : Int → Int) (r_0 : Int) (k1 : 0 ≤ x1 ∧ x1 ≤ 47) (k2 : 0 ≤ x2 ∧ x2 ≤ 75) (k3 : 0 ≤ x3 ∧ x3 ≤ 23) (k4 : 0 ≤ x4 ∧ x4 ≤ 23) (k5 : 0 ≤ x5 ∧ x5 ≤ 0) (f0 : x4 ≠ x2) (f1 : x4 = all_0 (((r_0 + 315) + x1))) (f2 : x3 ≠ x2) (f3 : x3 = all_0 (((r_0 + 267) + x1))) : HSP (r_0) (all_0) (x1) (x2) (x5) := by
  unfold HSP inc
  first
    | exact ⟨fun _ => Or.inl (by omega), fun _ => by omega⟩
    | exact ⟨fun _ => Or.inr (by omega), fun _ => by omega⟩
    | exact ⟨fun z => by exfalso; omega, fun z => by exfalso; rcases z with z | z <;> omega⟩
def o_Mo_has_1 : or_T := (23, 6, [(0, (2, 0, 0, [165])), (1, (0, 0, 47, [])), (2, (0, 0, 75, [])), (3, (0, 0, 23, [])), (4, (0, 0, 23, [])), (5, (0, 0, 0, []))], [(7, [4, 2], [1]), (20, [4, 0, 1], [50, 1, 1, 1005, 1002, 1, 2, 1, 0, 3, 1, 2, 4, 7, 4, 3, 2, 1, 5, 0, 315, 1, 2]), (7, [3, 2], [1]), (20, [3, 0, 1], [50, 1, 1, 1005, 1002, 1, 2, 1, 0, 3, 1, 2, 4, 7, 4, 3, 2, 1, 5, 0, 267, 1, 2])], [], [], [(20, [0, 1, 2, 5], [60, 1, 1, 204, 5, 2])], [], [])
theorem oo_Mo_has_1 {kA : Nat → ClassId} : or_ok PRD kA GG o_Mo_has_1 := by
  refine or_mk fun A ta ws vs hD hth hl => ?_
  intro t0 r0 t1 k1 t2 k2 t3 k3 t4 k4 t5 k5 f0 f1 f2 f3
  have nf0 : fc_1 PRD (20, [0, 1, 2, 5], [60, 1, 1, 204, 5, 2]) ws (vs) := ⟨nf_in hl rfl, sgq_1143 (vc_Mo_has_1_0 (v_iv (n_v vs 1)) (v_iv (n_v vs 2)) (v_iv (n_v vs 3)) (v_iv (n_v vs 4)) (v_iv (n_v vs 5)) (w_ei ws (w_ar ws (n_v vs 0) 2)) (w_fi ws (n_v vs 0) 5) k1 k2 k3 k4 k5 (shm_40 f0) (shm_603 f1) (shm_40 f2) (shm_749 f3))⟩
  refine ⟨(fun _ h => (by cases h)), [], trivial, ?_, (fun _ h => (by cases h))⟩
  rw [List.append_nil]
  exact List.forall_mem_cons.mpr ⟨⟨show (20 : Nat) < 100 from by decide, nf0⟩, (fun _ h => (by cases h))⟩
set_option maxHeartbeats 4000000 in
theorem vc_Mo_has_2_0 (x1 : Int) (x2 : Int) (x4 : Int) (x5 : Int) (all_0 : Int → Int) (r_0 : Int) (k1 : 0 ≤ x1 ∧ x1 ≤ 47) (k2 : 0 ≤ x2 ∧ x2 ≤ 23) (k4 : 0 ≤ x4 ∧ x4 ≤ 23) (k5 : 1 ≤ x5 ∧ x5 ≤ 1) (d0 : x2 + 0 ≤ x4 ∧ x4 ≤ x2 + 0) (f1 : x4 = all_0 (((r_0 + 315) + x1))) : HSP (r_0) (all_0) (x1) (x2) (x5) := by
  unfold HSP inc
  first
    | exact ⟨fun _ => Or.inl (by omega), fun _ => by omega⟩
    | exact ⟨fun _ => Or.inr (by omega), fun _ => by omega⟩
    | exact ⟨fun z => by exfalso; omega, fun z => by exfalso; rcases z with z | z <;> omega⟩
def o_Mo_has_2 : or_T := (23, 6, [(0, (2, 0, 0, [165])), (1, (0, 0, 47, [])), (2, (0, 0, 23, [])), (3, (0, 0, 23, [])), (4, (0, 0, 23, [])), (5, (0, 1, 1, []))], [(7, [4, 2], [0]), (20, [4, 0, 1], [50, 1, 1, 1005, 1002, 1, 2, 1, 0, 3, 1, 2, 4, 7, 4, 3, 2, 1, 5, 0, 315, 1, 2]), (7, [3, 2], [1]), (20, [3, 0, 1], [50, 1, 1, 1005, 1002, 1, 2, 1, 0, 3, 1, 2, 4, 7, 4, 3, 2, 1, 5, 0, 267, 1, 2])], [], [], [(20, [0, 1, 2, 5], [60, 1, 1, 204, 5, 2])], [], [(4, 2, 0, 0)])
theorem oo_Mo_has_2 {kA : Nat → ClassId} : or_ok PRD kA GG o_Mo_has_2 := by
  refine or_mk fun A ta ws vs hD hth hl => ?_
  intro t0 r0 t1 k1 t2 k2 t3 k3 t4 k4 t5 k5 d0 f0 f1 f2 f3
  have nf0 : fc_1 PRD (20, [0, 1, 2, 5], [60, 1, 1, 204, 5, 2]) ws (vs) := ⟨nf_in hl rfl, sgq_1143 (vc_Mo_has_2_0 (v_iv (n_v vs 1)) (v_iv (n_v vs 2)) (v_iv (n_v vs 4)) (v_iv (n_v vs 5)) (w_ei ws (w_ar ws (n_v vs 0) 2)) (w_fi ws (n_v vs 0) 5) k1 k2 k4 k5 d0 (shm_603 f1))⟩
  refine ⟨(fun _ h => (by cases h)), [], trivial, ?_, (fun _ h => (by cases h))⟩
  rw [List.append_nil]
  exact List.forall_mem_cons.mpr ⟨⟨show (20 : Nat) < 100 from by decide, nf0⟩, (fun _ h => (by cases h))⟩
def n_Mo_has_an : List an_T := []
def t_Mo_has_ct : ct_L := [(1, 394, e_Mo_tail), (1, 398, e_Mo_head)]
set_option maxRecDepth 100000 in
theorem c_Mo_has {l : Launch} {D : va_G} {kA : Nat → ClassId} (h_Mo_head : ct_ok PRD l D kA GG y_Mo_head z_Mo_head e_Mo_head) (h_Mo_tail : ct_ok PRD l D kA GG y_Mo_tail z_Mo_tail e_Mo_tail) : ct_ok PRD l D kA GG y_Mo_has z_Mo_has e_Mo_has := chk_all_ok (FT := []) (PT := []) (CT := t_Mo_has_ct) (KT := []) (NT := []) (AN := n_Mo_has_an) (OT := [o_Mo_has_0, o_Mo_has_1, o_Mo_has_2]) 0 200 (List.forall_mem_cons.mpr ⟨oo_Mo_has_0, List.forall_mem_cons.mpr ⟨oo_Mo_has_1, List.forall_mem_cons.mpr ⟨oo_Mo_has_2, List.forall_mem_nil _⟩⟩⟩) (by decide +kernel) ⟨List.forall_mem_nil _, List.forall_mem_nil _, List.forall_mem_cons.mpr ⟨cl_virtual (y := y_Mo_tail) (ci := 13) rfl rfl ⟨_, _, rfl⟩ (by decide +kernel) h_Mo_tail wm_3045 wm_9 wm_3042 wm_3044 wv_13_8 ⟨by decide, by decide, by decide +kernel⟩ (by decide), List.forall_mem_cons.mpr ⟨cl_virtual (y := y_Mo_head) (ci := 13) rfl rfl ⟨_, _, rfl⟩ (by decide +kernel) h_Mo_head wm_3049 wm_9 wm_3046 wm_3048 wv_13_9 ⟨by decide, by decide, by decide +kernel⟩ (by decide), List.forall_mem_nil _⟩⟩, List.forall_mem_nil _, List.forall_mem_nil _, GG_pl⟩ (by decide +kernel)
set_option maxHeartbeats 4000000 in
theorem vc_Mo_mayLeave_0_0 (x1 : Int) (x4 : Int) (upperNode_0 : Int → Int) (pt_0 : Int → Int) (ph_0 : Int → Int) (pm_0 : Int) (alive_0 : Int → Int) (k1 : 1 ≤ x1 ∧ x1 ≤ 28) (k4 : 0 ≤ x4 ∧ x4 ≤ 0) (kz_0_32 : 0 ≤ pm_0 ∧ pm_0 ≤ 80) : ML1 (pm_0) (pt_0) (ph_0) (alive_0) (upperNode_0) (x1) (x4) := by
  first
    | (intro t a b; exfalso; omega)
    | exact ml1_next (x := 0) (y := 0) (r := 0) ‹ML1 _ _ _ _ _ _ _› (by omega) (Or.inl (by omega))
    | exact ml1_next (x := 0) (y := 0) (r := 0) ‹ML1 _ _ _ _ _ _ _› (by omega) (Or.inr (Or.inl (by omega)))
    | exact ml1_next (x := 0) (y := 0) (r := 0) ‹ML1 _ _ _ _ _ _ _› (by omega) (Or.inr (Or.inr (Or.inl (by omega))))
    | exact ml1_next ‹ML1 _ _ _ _ _ _ _› (by omega) (Or.inr (Or.inr (Or.inr ⟨‹EOF _ _ _ _ _ _ _›, by omega, by omega, by omega⟩)))
set_option maxHeartbeats 4000000 in
theorem vc_Mo_mayLeave_0_1 (x1 : Int) (x3 : Int) (upperNode_0 : Int → Int) (k1 : 1 ≤ x1 ∧ x1 ≤ 28) (k3 : 0 ≤ x3 ∧ x3 ≤ 24) (h0 : x3 = upperNode_0 (x1)) : x3 = upperNode_0 (x1) := by
  omega
def o_Mo_mayLeave_0 : or_T := (9, 5, [(0, (2, 0, 0, [165])), (1, (0, 1, 28, [])), (3, (0, 0, 24, [])), (4, (0, 0, 0, []))], [(10, [3, 2, 1], []), (9, [2, 0], [122])], [], [], [(20, [0, 1, 4], [60, 1, 4, 288, 32, 33, 34, 35, 122]), (20, [3, 0, 1], [50, 0, 1, 1122, 1, 2, 1, 0, 3, 1, 122, 1, 2]), (24, [0, 0], []), (24, [1, 1], [])], [], [])
theorem oo_Mo_mayLeave_0 {kA : Nat → ClassId} : or_ok PRD kA GG o_Mo_mayLeave_0 := by
  refine or_mk fun A ta ws vs hD hth hl => ?_
  intro t0 r0 t1 k1 t3 k3 t4 k4 f0 f1
  replace f0 := shm_107 f0
  replace f1 := shm_1019 f1
  have ad_2 : v_ad (n_v vs 2) = w_ar ws (n_v vs 0) 122 := congrArg v_ad f1
  simp only [ad_2] at f0
  have h0 : v_iv (n_v vs 3) = w_ei ws (w_ar ws (n_v vs 0) 122) (v_iv (n_v vs 1)) := f0
  have kz_0_32 := fdq_140 hD hth r0
  have nf0 : fc_1 PRD (20, [0, 1, 4], [60, 1, 4, 288, 32, 33, 34, 35, 122]) ws (vs) := ⟨nf_in hl rfl, sgq_1145 (vc_Mo_mayLeave_0_0 (v_iv (n_v vs 1)) (v_iv (n_v vs 4)) (w_ei ws (w_ar ws (n_v vs 0) 122)) (w_ei ws (w_ar ws (n_v vs 0) 33)) (w_ei ws (w_ar ws (n_v vs 0) 34)) (w_fi ws (n_v vs 0) 32) (w_ei ws (w_ar ws (n_v vs 0) 35)) k1 k4 kz_0_32)⟩
  have nf1 : fc_1 PRD (20, [3, 0, 1], [50, 0, 1, 1122, 1, 2, 1, 0, 3, 1, 122, 1, 2]) ws (vs) := ⟨nf_in hl rfl, sgq_1146 (vc_Mo_mayLeave_0_1 (v_iv (n_v vs 1)) (v_iv (n_v vs 3)) (w_ei ws (w_ar ws (n_v vs 0) 122)) k1 k3 h0)⟩
  have nf2 : fc_1 PRD (24, [0, 0], []) ws (vs) := by
    refine ⟨nf_in hl rfl, sgq_1 ?_⟩
    · show n_v vs 0 = n_v vs 0
      first | rfl | simp only [true_and]
  have nf3 : fc_1 PRD (24, [1, 1], []) ws (vs) := by
    refine ⟨nf_in hl rfl, sgq_1 ?_⟩
    · show n_v vs 1 = n_v vs 1
      first | rfl | simp only [true_and]
  refine ⟨(fun _ h => (by cases h)), [], trivial, ?_, (fun _ h => (by cases h))⟩
  rw [List.append_nil]
  exact List.forall_mem_cons.mpr ⟨⟨show (20 : Nat) < 100 from by decide, nf0⟩, List.forall_mem_cons.mpr ⟨⟨show (20 : Nat) < 100 from by decide, nf1⟩, List.forall_mem_cons.mpr ⟨⟨show (24 : Nat) < 100 from by decide, nf2⟩, List.forall_mem_cons.mpr ⟨⟨show (24 : Nat) < 100 from by decide, nf3⟩, (fun _ h => (by cases h))⟩⟩⟩⟩
set_option maxHeartbeats 4000000 in
theorem vc_Mo_mayLeave_1_0 (x1 : Int) (x5 : Int) (x6 : Int) (x7 : Int) (upper_0 : Int) (pt_0 : Int → Int) (ph_0 : Int → Int) (pm_0 : Int) (alive_0 : Int → Int) (upperNode_0 : Int → Int) (k1 : 1 ≤ x1 ∧ x1 ≤ 28) (k5 : 0 ≤ x5 ∧ x5 ≤ 30) (k6 : 0 ≤ x6 ∧ x6 ≤ 30) (k7 : 1 ≤ x7 ∧ x7 ≤ 1) (d0 : x6 + 0 ≤ x5 ∧ x5 ≤ x6 + 4294967296) (g1 : x6 = upper_0) (f4 : ML1 (pm_0) (pt_0) (ph_0) (alive_0) (upperNode_0) (x1) (x5)) (kz_0_32 : 0 ≤ pm_0 ∧ pm_0 ≤ 80) (kz_0_121 : 0 ≤ upper_0 ∧ upper_0 ≤ 30) : MLV (pm_0) (upper_0) (pt_0) (ph_0) (alive_0) (upperNode_0) (x1) (x7) := by
  exact ⟨fun _ q a b => ‹ML1 _ _ _ _ _ _ _› q a (by omega), fun _ => by omega⟩
def o_Mo_mayLeave_1 : or_T := (59, 8, [(0, (2, 0, 0, [165])), (1, (0, 1, 28, [])), (5, (0, 0, 30, [])), (6, (0, 0, 30, [])), (7, (0, 1, 1, []))], [(9, [6, 2], [121]), (20, [2, 3, 5], [60, 1, 4, 288, 32, 33, 34, 35, 122]), (24, [0, 2], []), (24, [1, 3], [])], [], [], [(20, [0, 1, 7], [60, 2, 4, 287, 32, 121, 33, 34, 35, 122])], [], [(5, 6, 0, 4294967296)])
theorem oo_Mo_mayLeave_1 {kA : Nat → ClassId} : or_ok PRD kA GG o_Mo_mayLeave_1 := by
  refine or_mk fun A ta ws vs hD hth hl => ?_
  intro t0 r0 t1 k1 t5 k5 t6 k6 t7 k7 d0 f1 f4 f6 f7
  replace f1 := shm_1024 f1
  replace f4 := shm_1145 f4
  replace f6 := shm_5 f6
  replace f7 := shm_5 f7
  have q2 : n_v vs 2 = n_v vs 0 := f6.symm
  have q3 : n_v vs 3 = n_v vs 1 := f7.symm
  simp only [q2, q3] at f1 f4
  have g1 : v_iv (n_v vs 6) = w_fi ws (n_v vs 0) 121 := congrArg v_iv f1
  have kz_0_32 := fdq_140 hD hth r0
  have kz_0_121 := fdq_242 hD hth r0
  have nf0 : fc_1 PRD (20, [0, 1, 7], [60, 2, 4, 287, 32, 121, 33, 34, 35, 122]) ws (vs) := ⟨nf_in hl rfl, sgq_1147 (vc_Mo_mayLeave_1_0 (v_iv (n_v vs 1)) (v_iv (n_v vs 5)) (v_iv (n_v vs 6)) (v_iv (n_v vs 7)) (w_fi ws (n_v vs 0) 121) (w_ei ws (w_ar ws (n_v vs 0) 33)) (w_ei ws (w_ar ws (n_v vs 0) 34)) (w_fi ws (n_v vs 0) 32) (w_ei ws (w_ar ws (n_v vs 0) 35)) (w_ei ws (w_ar ws (n_v vs 0) 122)) k1 k5 k6 k7 d0 g1 f4 kz_0_32 kz_0_121)⟩
  refine ⟨(fun _ h => (by cases h)), [], trivial, ?_, (fun _ h => (by cases h))⟩
  rw [List.append_nil]
  exact List.forall_mem_cons.mpr ⟨⟨show (20 : Nat) < 100 from by decide, nf0⟩, (fun _ h => (by cases h))⟩
set_option maxHeartbeats 4000000 in
theorem vc_Mo_mayLeave_2_0 (x1 : Int) (x5 : Int) (x7 : Int) (pt_0 : Int → Int) (ph_0 : Int → Int) (pm_0 : Int) (alive_0 : Int → Int) (upperNode_0 : Int → Int) (k1 : 1 ≤ x1 ∧ x1 ≤ 28) (k5 : 1 ≤ x5 ∧ x5 ≤ 28) (k7 : 2 ≤ x7 ∧ x7 ≤ 29) (f0 : x7 = x5 + 1) (f1 : x5 = x1) (f6 : ML1 (pm_0) (pt_0) (ph_0) (alive_0) (upperNode_0) (x1) (x5)) (kz_0_32 : 0 ≤ pm_0 ∧ pm_0 ≤ 80) : ML1 (pm_0) (pt_0) (ph_0) (alive_0) (upperNode_0) (x1) (x7) := by
  first
    | (intro t a b; exfalso; omega)
    | exact ml1_next (x := 0) (y := 0) (r := 0) ‹ML1 _ _ _ _ _ _ _› (by omega) (Or.inl (by omega))
    | exact ml1_next (x := 0) (y := 0) (r := 0) ‹ML1 _ _ _ _ _ _ _› (by omega) (Or.inr (Or.inl (by omega)))
    | exact ml1_next (x := 0) (y := 0) (r := 0) ‹ML1 _ _ _ _ _ _ _› (by omega) (Or.inr (Or.inr (Or.inl (by omega))))
    | exact ml1_next ‹ML1 _ _ _ _ _ _ _› (by omega) (Or.inr (Or.inr (Or.inr ⟨‹EOF _ _ _ _ _ _ _›, by omega, by omega, by omega⟩)))
def o_Mo_mayLeave_2 : or_T := (9, 8, [(0, (2, 0, 0, [165])), (1, (0, 1, 28, [])), (5, (0, 1, 28, [])), (7, (0, 2, 29, []))], [(6, [7, 5], [1]), (7, [5, 3], [0]), (20, [2, 3, 5], [60, 1, 4, 288, 32, 33, 34, 35, 122]), (24, [0, 2], []), (24, [1, 3], [])], [], [], [(20, [2, 3, 7], [60, 1, 4, 288, 32, 33, 34, 35, 122])], [], [])
theorem oo_Mo_mayLeave_2 {kA : Nat → ClassId} : or_ok PRD kA GG o_Mo_mayLeave_2 := by
  refine or_mk fun A ta ws vs hD hth hl => ?_
  intro t0 r0 t1 k1 t5 k5 t7 k7 f0 f1 f6 f8 f9
  replace f0 := shm_4 f0
  replace f1 := shm_37 f1
  replace f6 := shm_1145 f6
  replace f8 := shm_5 f8
  replace f9 := shm_5 f9
  have q2 : n_v vs 2 = n_v vs 0 := f8.symm
  have q3 : n_v vs 3 = n_v vs 1 := f9.symm
  simp only [q3, q2] at f1 f6
  have kz_0_32 := fdq_140 hD hth r0
  have nf0 : fc_1 PRD (20, [2, 3, 7], [60, 1, 4, 288, 32, 33, 34, 35, 122]) ws (vs) := by
    refine ⟨nf_in hl rfl, sgq_1145 ?_⟩
    · show ML1 (w_fi ws (n_v vs 2) 32) (w_ei ws (w_ar ws (n_v vs 2) 33)) (w_ei ws (w_ar ws (n_v vs 2) 34)) (w_ei ws (w_ar ws (n_v vs 2) 35)) (w_ei ws (w_ar ws (n_v vs 2) 122)) (v_iv (n_v vs 3)) (v_iv (n_v vs 7))
      simp only [q2, q3]
      exact vc_Mo_mayLeave_2_0 (v_iv (n_v vs 1)) (v_iv (n_v vs 5)) (v_iv (n_v vs 7)) (w_ei ws (w_ar ws (n_v vs 0) 33)) (w_ei ws (w_ar ws (n_v vs 0) 34)) (w_fi ws (n_v vs 0) 32) (w_ei ws (w_ar ws (n_v vs 0) 35)) (w_ei ws (w_ar ws (n_v vs 0) 122)) k1 k5 k7 f0 f1 f6 kz_0_32
  refine ⟨(fun _ h => (by cases h)), [], trivial, ?_, (fun _ h => (by cases h))⟩
  rw [List.append_nil]
  exact List.forall_mem_cons.mpr ⟨⟨show (20 : Nat) < 100 from by decide, nf0⟩, (fun _ h => (by cases h))⟩
set_option maxHeartbeats 4000000 in
theorem vc_Mo_mayLeave_3_0 (x1 : Int) (x3 : Int) (x5 : Int) (x8 : Int) (x9 : Int) (pt_0 : Int → Int) (ph_0 : Int → Int) (pm_0 : Int) (alive_0 : Int → Int) (upperNode_0 : Int → Int) (k1 : 1 ≤ x1 ∧ x1 ≤ 28) (k3 : 1 ≤ x3 ∧ x3 ≤ 28) (k5 : 0 ≤ x5 ∧ x5 ≤ 27) (k8 : 0 ≤ x8 ∧ x8 ≤ 27) (k9 : 1 ≤ x9 ∧ x9 ≤ 28) (d0 : x5 + 1 ≤ x9 ∧ x9 ≤ x5 + 1) (d1 : x8 + 1 ≤ x9 ∧ x9 ≤ x8 + 1) (d4 : x3 + (-1) ≤ x8 ∧ x8 ≤ x3 + (-1)) (d5 : x1 + (-4294967296) ≤ x8 ∧ x8 ≤ x1 + (-1)) (d7 : x3 + (-4294967296) ≤ x1 ∧ x1 ≤ x3 + 0) (f0 : x9 = x5 + 1) (f8 : ML1 (pm_0) (pt_0) (ph_0) (alive_0) (upperNode_0) (x1) (x5)) (kz_0_32 : 0 ≤ pm_0 ∧ pm_0 ≤ 80) : ML1 (pm_0) (pt_0) (ph_0) (alive_0) (upperNode_0) (x1) (x9) := by
  first
    | (intro t a b; exfalso; omega)
    | exact ml1_next (x := 0) (y := 0) (r := 0) ‹ML1 _ _ _ _ _ _ _› (by omega) (Or.inl (by omega))
    | exact ml1_next (x := 0) (y := 0) (r := 0) ‹ML1 _ _ _ _ _ _ _› (by omega) (Or.inr (Or.inl (by omega)))
    | exact ml1_next (x := 0) (y := 0) (r := 0) ‹ML1 _ _ _ _ _ _ _› (by omega) (Or.inr (Or.inr (Or.inl (by omega))))
    | exact ml1_next ‹ML1 _ _ _ _ _ _ _› (by omega) (Or.inr (Or.inr (Or.inr ⟨‹EOF _ _ _ _ _ _ _›, by omega, by omega, by omega⟩)))
def o_Mo_mayLeave_3 : or_T := (9, 10, [(0, (2, 0, 0, [165])), (1, (0, 1, 28, [])), (3, (0, 1, 28, [])), (5, (0, 0, 27, [])), (8, (0, 0, 27, [])), (9, (0, 1, 28, []))], [(6, [9, 5], [1]), (20, [2, 3, 5], [60, 1, 4, 288, 32, 33, 34, 35, 122]), (24, [0, 2], []), (24, [1, 3], [])], [], [], [(20, [2, 3, 9], [60, 1, 4, 288, 32, 33, 34, 35, 122])], [], [(9, 5, 1, 1), (9, 8, 1, 1), (8, 3, -1, -1), (8, 1, -4294967296, -1), (1, 3, -4294967296, 0)])
theorem oo_Mo_mayLeave_3 {kA : Nat → ClassId} : or_ok PRD kA GG o_Mo_mayLeave_3 := by
  refine or_mk fun A ta ws vs hD hth hl => ?_
  intro t0 r0 t1 k1 t3 k3 t5 k5 t8 k8 t9 k9 d0 d1 d4 d5 d7 f0 f8 f10 f11
  replace f0 := shm_4 f0
  replace f8 := shm_1145 f8
  replace f10 := shm_5 f10
  replace f11 := shm_5 f11
  have q2 : n_v vs 2 = n_v vs 0 := f10.symm
  have q3 : n_v vs 3 = n_v vs 1 := f11.symm
  simp only [q3, q2] at f8
  have kz_0_32 := fdq_140 hD hth r0
  have nf0 : fc_1 PRD (20, [2, 3, 9], [60, 1, 4, 288, 32, 33, 34, 35, 122]) ws (vs) := by
    refine ⟨nf_in hl rfl, sgq_1145 ?_⟩
    · show ML1 (w_fi ws (n_v vs 2) 32) (w_ei ws (w_ar ws (n_v vs 2) 33)) (w_ei ws (w_ar ws (n_v vs 2) 34)) (w_ei ws (w_ar ws (n_v vs 2) 35)) (w_ei ws (w_ar ws (n_v vs 2) 122)) (v_iv (n_v vs 3)) (v_iv (n_v vs 9))
      simp only [q2, q3]
      exact vc_Mo_mayLeave_3_0 (v_iv (n_v vs 1)) (v_iv (n_v vs 3)) (v_iv (n_v vs 5)) (v_iv (n_v vs 8)) (v_iv (n_v vs 9)) (w_ei ws (w_ar ws (n_v vs 0) 33)) (w_ei ws (w_ar ws (n_v vs 0) 34)) (w_fi ws (n_v vs 0) 32) (w_ei ws (w_ar ws (n_v vs 0) 35)) (w_ei ws (w_ar ws (n_v vs 0) 122)) k1 k3 k5 k8 k9 d0 d1 d4 d5 d7 f0 f8 kz_0_32
  refine ⟨(fun _ h => (by cases h)), [], trivial, ?_, (fun _ h => (by cases h))⟩
  rw [List.append_nil]
  exact List.forall_mem_cons.mpr ⟨⟨show (20 : Nat) < 100 from by decide, nf0⟩, (fun _ h => (by cases h))⟩
set_option maxHeartbeats 4000000 in
theorem vc_Mo_mayLeave_4_0 (x1 : Int) (x3 : Int) (x5 : Int) (x8 : Int) (x10 : Int) (x11 : Int) (pt_0 : Int → Int) (ph_0 : Int → Int) (pm_0 : Int) (alive_0 : Int → Int) (upperNode_0 : Int → Int) (k1 : 1 ≤ x1 ∧ x1 ≤ 28) (k3 : 1 ≤ x3 ∧ x3 ≤ 28) (k5 : 2 ≤ x5 ∧ x5 ≤ 29) (k8 : 0 ≤ x8 ∧ x8 ≤ 27) (k10 : 2 ≤ x10 ∧ x10 ≤ 29) (k11 : 3 ≤ x11 ∧ x11 ≤ 30) (d0 : x5 + 1 ≤ x11 ∧ x11 ≤ x5 + 1) (d1 : x10 + 1 ≤ x11 ∧ x11 ≤ x10 + 1) (d4 : x3 + 1 ≤ x10 ∧ x10 ≤ x3 + 1) (d5 : x1 + (-4294967296) ≤ x10 ∧ x10 ≤ x1 + 1) (d6 : x3 + (-1) ≤ x8 ∧ x8 ≤ x3 + (-1)) (d7 : x1 + (-4294967296) ≤ x8 ∧ x8 ≤ x1 + (-1)) (d9 : x3 + (-4294967296) ≤ x1 ∧ x1 ≤ x3 + 0) (f0 : x11 = x5 + 1) (f10 : ML1 (pm_0) (pt_0) (ph_0) (alive_0) (upperNode_0) (x1) (x5)) (kz_0_32 : 0 ≤ pm_0 ∧ pm_0 ≤ 80) : ML1 (pm_0) (pt_0) (ph_0) (alive_0) (upperNode_0) (x1) (x11) := by
  first
    | (intro t a b; exfalso; omega)
    | exact ml1_next (x := 0) (y := 0) (r := 0) ‹ML1 _ _ _ _ _ _ _› (by omega) (Or.inl (by omega))
    | exact ml1_next (x := 0) (y := 0) (r := 0) ‹ML1 _ _ _ _ _ _ _› (by omega) (Or.inr (Or.inl (by omega)))
    | exact ml1_next (x := 0) (y := 0) (r := 0) ‹ML1 _ _ _ _ _ _ _› (by omega) (Or.inr (Or.inr (Or.inl (by omega))))
    | exact ml1_next ‹ML1 _ _ _ _ _ _ _› (by omega) (Or.inr (Or.inr (Or.inr ⟨‹EOF _ _ _ _ _ _ _›, by omega, by omega, by omega⟩)))
def o_Mo_mayLeave_4 : or_T := (9, 12, [(0, (2, 0, 0, [165])), (1, (0, 1, 28, [])), (3, (0, 1, 28, [])), (5, (0, 2, 29, [])), (8, (0, 0, 27, [])), (10, (0, 2, 29, [])), (11, (0, 3, 30, []))], [(6, [11, 5], [1]), (20, [2, 3, 5], [60, 1, 4, 288, 32, 33, 34, 35, 122]), (24, [0, 2], []), (24, [1, 3], [])], [], [], [(20, [2, 3, 11], [60, 1, 4, 288, 32, 33, 34, 35, 122])], [], [(11, 5, 1, 1), (11, 10, 1, 1), (10, 3, 1, 1), (10, 1, -4294967296, 1), (8, 3, -1, -1), (8, 1, -4294967296, -1), (1, 3, -4294967296, 0)])
theorem oo_Mo_mayLeave_4 {kA : Nat → ClassId} : or_ok PRD kA GG o_Mo_mayLeave_4 := by
  refine or_mk fun A ta ws vs hD hth hl => ?_
  intro t0 r0 t1 k1 t3 k3 t5 k5 t8 k8 t10 k10 t11 k11 d0 d1 d4 d5 d6 d7 d9 f0 f10 f12 f13
  replace f0 := shm_4 f0
  replace f10 := shm_1145 f10
  replace f12 := shm_5 f12
  replace f13 := shm_5 f13
  have q2 : n_v vs 2 = n_v vs 0 := f12.symm
  have q3 : n_v vs 3 = n_v vs 1 := f13.symm
  simp only [q3, q2] at f10
  have kz_0_32 := fdq_140 hD hth r0
  have nf0 : fc_1 PRD (20, [2, 3, 11], [60, 1, 4, 288, 32, 33, 34, 35, 122]) ws (vs) := by
    refine ⟨nf_in hl rfl, sgq_1145 ?_⟩
    · show ML1 (w_fi ws (n_v vs 2) 32) (w_ei ws (w_ar ws (n_v vs 2) 33)) (w_ei ws (w_ar ws (n_v vs 2) 34)) (w_ei ws (w_ar ws (n_v vs 2) 35)) (w_ei ws (w_ar ws (n_v vs 2) 122)) (v_iv (n_v vs 3)) (v_iv (n_v vs 11))
      simp only [q2, q3]
      exact vc_Mo_mayLeave_4_0 (v_iv (n_v vs 1)) (v_iv (n_v vs 3)) (v_iv (n_v vs 5)) (v_iv (n_v vs 8)) (v_iv (n_v vs 10)) (v_iv (n_v vs 11)) (w_ei ws (w_ar ws (n_v vs 0) 33)) (w_ei ws (w_ar ws (n_v vs 0) 34)) (w_fi ws (n_v vs 0) 32) (w_ei ws (w_ar ws (n_v vs 0) 35)) (w_ei ws (w_ar ws (n_v vs 0) 122)) k1 k3 k5 k8 k10 k11 d0 d1 d4 d5 d6 d7 d9 f0 f10 kz_0_32
  refine ⟨(fun _ h => (by cases h)), [], trivial, ?_, (fun _ h => (by cases h))⟩
  rw [List.append_nil]
  exact List.forall_mem_cons.mpr ⟨⟨show (20 : Nat) < 100 from by decide, nf0⟩, (fun _ h => (by cases h))⟩
set_option maxHeartbeats 4000000 in
theorem vc_Mo_mayLeave_5_0 (x1 : Int) (x4 : Int) (x5 : Int) (x12 : Int) (x13 : Int) (x14 : Int) (pt_0 : Int → Int) (ph_0 : Int → Int) (alive_0 : Int → Int) (pm_0 : Int) (upperNode_0 : Int → Int) (k1 : 1 ≤ x1 ∧ x1 ≤ 28) (k4 : 0 ≤ x4 ∧ x4 ≤ 24) (k5 : 0 ≤ x5 ∧ x5 ≤ 29) (k12 : 0 ≤ x12 ∧ x12 ≤ 24) (k13 : (-1) ≤ x13 ∧ x13 ≤ (-1)) (k14 : 1 ≤ x14 ∧ x14 ≤ 30) (f0 : x14 = x5 + 1) (f1 : x13 < 0) (f2 : EOF (pm_0) (pt_0) (ph_0) (alive_0) (x4) (x12) (x13)) (h3 : x12 = upperNode_0 (x5)) (f14 : ML1 (pm_0) (pt_0) (ph_0) (alive_0) (upperNode_0) (x1) (x5)) (f15 : x4 = upperNode_0 (x1)) (kz_0_32 : 0 ≤ pm_0 ∧ pm_0 ≤ 80) : ML1 (pm_0) (pt_0) (ph_0) (alive_0) (upperNode_0) (x1) (x14) := by
  first
    | (intro t a b; exfalso; omega)
    | exact ml1_next (x := 0) (y := 0) (r := 0) ‹ML1 _ _ _ _ _ _ _› (by omega) (Or.inl (by omega))
    | exact ml1_next (x := 0) (y := 0) (r := 0) ‹ML1 _ _ _ _ _ _ _› (by omega) (Or.inr (Or.inl (by omega)))
    | exact ml1_next (x := 0) (y := 0) (r := 0) ‹ML1 _ _ _ _ _ _ _› (by omega) (Or.inr (Or.inr (Or.inl (by omega))))
    | exact ml1_next ‹ML1 _ _ _ _ _ _ _› (by omega) (Or.inr (Or.inr (Or.inr ⟨‹EOF _ _ _ _ _ _ _›, by omega, by omega, by omega⟩)))
def o_Mo_mayLeave_5 : or_T := (9, 15, [(0, (2, 0, 0, [165])), (1, (0, 1, 28, [])), (4, (0, 0, 24, [])), (5, (0, 0, 29, [])), (12, (0, 0, 24, [])), (13, (0, -1, -1, [])), (14, (0, 1, 30, []))], [(6, [14, 5], [1]), (8, [13], [2]), (20, [2, 4, 12, 13], [60, 1, 3, 85, 32, 33, 34, 35]), (10, [12, 11, 5], []), (9, [11, 2], [122]), (20, [2, 3, 5], [60, 1, 4, 288, 32, 33, 34, 35, 122]), (20, [4, 2, 3], [50, 0, 1, 1122, 1, 2, 1, 0, 3, 1, 122, 1, 2]), (24, [0, 2], []), (24, [1, 3], [])], [], [], [(20, [2, 3, 14], [60, 1, 4, 288, 32, 33, 34, 35, 122])], [], [])
theorem oo_Mo_mayLeave_5 {kA : Nat → ClassId} : or_ok PRD kA GG o_Mo_mayLeave_5 := by
  refine or_mk fun A ta ws vs hD hth hl => ?_
  intro t0 r0 t1 k1 t4 k4 t5 k5 t12 k12 t13 k13 t14 k14 f0 f1 f2 f3 f4 f14 f15 f16 f17
  replace f0 := shm_4 f0
  replace f1 := shm_39 f1
  replace f2 := shm_990 f2
  replace f3 := shm_107 f3
  replace f4 := shm_1019 f4
  replace f14 := shm_1145 f14
  replace f15 := shm_1146 f15
  replace f16 := shm_5 f16
  replace f17 := shm_5 f17
  have q2 : n_v vs 2 = n_v vs 0 := f16.symm
  have q3 : n_v vs 3 = n_v vs 1 := f17.symm
  simp only [q2, q3] at f2 f4 f14 f15
  have ad_11 : v_ad (n_v vs 11) = w_ar ws (n_v vs 0) 122 := congrArg v_ad f4
  simp only [ad_11] at f3
  have h3 : v_iv (n_v vs 12) = w_ei ws (w_ar ws (n_v vs 0) 122) (v_iv (n_v vs 5)) := f3
  have kz_0_32 := fdq_140 hD hth r0
  have nf0 : fc_1 PRD (20, [2, 3, 14], [60, 1, 4, 288, 32, 33, 34, 35, 122]) ws (vs) := by
    refine ⟨nf_in hl rfl, sgq_1145 ?_⟩
    · show ML1 (w_fi ws (n_v vs 2) 32) (w_ei ws (w_ar ws (n_v vs 2) 33)) (w_ei ws (w_ar ws (n_v vs 2) 34)) (w_ei ws (w_ar ws (n_v vs 2) 35)) (w_ei ws (w_ar ws (n_v vs 2) 122)) (v_iv (n_v vs 3)) (v_iv (n_v vs 14))
      simp only [q2, q3]
      exact vc_Mo_mayLeave_5_0 (v_iv (n_v vs 1)) (v_iv (n_v vs 4)) (v_iv (n_v vs 5)) (v_iv (n_v vs 12)) (v_iv (n_v vs 13)) (v_iv (n_v vs 14)) (w_ei ws (w_ar ws (n_v vs 0) 33)) (w_ei ws (w_ar ws (n_v vs 0) 34)) (w_ei ws (w_ar ws (n_v vs 0) 35)) (w_fi ws (n_v vs 0) 32) (w_ei ws (w_ar ws (n_v vs 0) 122)) k1 k4 k5 k12 k13 k14 f0 f1 f2 h3 f14 f15 kz_0_32
  refine ⟨(fun _ h => (by cases h)), [], trivial, ?_, (fun _ h => (by cases h))⟩
  rw [List.append_nil]
  exact List.forall_mem_cons.mpr ⟨⟨show (20 : Nat) < 100 from by decide, nf0⟩, (fun _ h => (by cases h))⟩
set_option maxHeartbeats 4000000 in
theorem vc_Mo_mayLeave_6_0 (x1 : Int) (x3 : Int) (x4 : Int) (x5 : Int) (x6 : Int) (x8 : Int) (x10 : Int) (x12 : Int) (x13 : Int) (x14 : Int) (pt_0 : Int → Int) (ph_0 : Int → Int) (alive_0 : Int → Int) (pm_0 : Int) (upperNode_0 : Int → Int) (upper_0 : Int) (k1 : 1 ≤ x1 ∧ x1 ≤ 28) (k3 : 1 ≤ x3 ∧ x3 ≤ 28) (k4 : 0 ≤ x4 ∧ x4 ≤ 24) (k5 : 0 ≤ x5 ∧ x5 ≤ 29) (k6 : 1 ≤ x6 ∧ x6 ≤ 30) (k8 : 0 ≤ x8 ∧ x8 ≤ 27) (k10 : 2 ≤ x10 ∧ x10 ≤ 29) (k12 : 0 ≤ x12 ∧ x12 ≤ 24) (k13 : 0 ≤ x13 ∧ x13 ≤ 79) (k14 : 0 ≤ x14 ∧ x14 ≤ 0) (d0 : x3 + 1 ≤ x10 ∧ x10 ≤ x3 + 1) (d1 : x1 + (-4294967296) ≤ x10 ∧ x10 ≤ x1 + 1) (d2 : x3 + (-1) ≤ x8 ∧ x8 ≤ x3 + (-1)) (d3 : x1 + (-4294967296) ≤ x8 ∧ x8 ≤ x1 + (-1)) (d4 : x6 + (-4294967296) ≤ x5 ∧ x5 ≤ x6 + (-1)) (d5 : x3 + (-4294967296) ≤ x1 ∧ x1 ≤ x3 + 0) (f0 : 0 ≤ x13) (f1 : EOF (pm_0) (pt_0) (ph_0) (alive_0) (x4) (x12) (x13)) (h2 : x12 = upperNode_0 (x5)) (f4 : x5 ≠ x10) (f6 : x5 ≠ x8) (f8 : x5 ≠ x1) (g10 : x6 = upper_0) (f14 : x4 = upperNode_0 (x1)) (kz_0_32 : 0 ≤ pm_0 ∧ pm_0 ≤ 80) (kz_0_121 : 0 ≤ upper_0 ∧ upper_0 ≤ 30) : MLV (pm_0) (upper_0) (pt_0) (ph_0) (alive_0) (upperNode_0) (x1) (x14) := by
  exact mlv_no (q := x5) (by omega) (by omega) (by omega) (by omega) (by omega) ‹EOF _ _ _ _ _ _ _› (by omega) (by omega) (by omega) (by omega)
def o_Mo_mayLeave_6 : or_T := (51, 15, [(0, (2, 0, 0, [165])), (1, (0, 1, 28, [])), (3, (0, 1, 28, [])), (4, (0, 0, 24, [])), (5, (0, 0, 29, [])), (6, (0, 1, 30, [])), (8, (0, 0, 27, [])), (10, (0, 2, 29, [])), (12, (0, 0, 24, [])), (13, (0, 0, 79, [])), (14, (0, 0, 0, []))], [(8, [13], [3]), (20, [2, 4, 12, 13], [60, 1, 3, 85, 32, 33, 34, 35]), (10, [12, 11, 5], []), (9, [11, 2], [122]), (7, [5, 10], [1]), (7, [5, 8], [1]), (7, [5, 3], [1]), (9, [6, 2], [121]), (20, [4, 2, 3], [50, 0, 1, 1122, 1, 2, 1, 0, 3, 1, 122, 1, 2]), (24, [0, 2], []), (24, [1, 3], [])], [], [], [(20, [0, 1, 14], [60, 2, 4, 287, 32, 121, 33, 34, 35, 122])], [], [(10, 3, 1, 1), (10, 1, -4294967296, 1), (8, 3, -1, -1), (8, 1, -4294967296, -1), (5, 6, -4294967296, -1), (1, 3, -4294967296, 0)])
theorem oo_Mo_mayLeave_6 {kA : Nat → ClassId} : or_ok PRD kA GG o_Mo_mayLeave_6 := by
  refine or_mk fun A ta ws vs hD hth hl => ?_
  intro t0 r0 t1 k1 t3 k3 t4 k4 t5 k5 t6 k6 t8 k8 t10 k10 t12 k12 t13 k13 t14 k14 d0 d1 d2 d3 d4 d5 f0 f1 f2 f3 f4 f6 f8 f10 f14 f15 f16
  replace f1 := shm_990 f1
  replace f2 := shm_107 f2
  replace f3 := shm_1019 f3
  replace f8 := shm_40 f8
  replace f10 := shm_1024 f10
  replace f14 := shm_1146 f14
  replace f15 := shm_5 f15
  replace f16 := shm_5 f16
  have q2 : n_v vs 2 = n_v vs 0 := f15.symm
  have q3 : n_v vs 3 = n_v vs 1 := f16.symm
  simp only [q2, q3] at f1 f3 f8 f10 f14
  have ad_11 : v_ad (n_v vs 11) = w_ar ws (n_v vs 0) 122 := congrArg v_ad f3
  simp only [ad_11] at f2
  have h2 : v_iv (n_v vs 12) = w_ei ws (w_ar ws (n_v vs 0) 122) (v_iv (n_v vs 5)) := f2
  have g10 : v_iv (n_v vs 6) = w_fi ws (n_v vs 0) 121 := congrArg v_iv f10
  have kz_0_32 := fdq_140 hD hth r0
  have kz_0_121 := fdq_242 hD hth r0
  have nf0 : fc_1 PRD (20, [0, 1, 14], [60, 2, 4, 287, 32, 121, 33, 34, 35, 122]) ws (vs) := ⟨nf_in hl rfl, sgq_1147 (vc_Mo_mayLeave_6_0 (v_iv (n_v vs 1)) (v_iv (n_v vs 3)) (v_iv (n_v vs 4)) (v_iv (n_v vs 5)) (v_iv (n_v vs 6)) (v_iv (n_v vs 8)) (v_iv (n_v vs 10)) (v_iv (n_v vs 12)) (v_iv (n_v vs 13)) (v_iv (n_v vs 14)) (w_ei ws (w_ar ws (n_v vs 0) 33)) (w_ei ws (w_ar ws (n_v vs 0) 34)) (w_ei ws (w_ar ws (n_v vs 0) 35)) (w_fi ws (n_v vs 0) 32) (w_ei ws (w_ar ws (n_v vs 0) 122)) (w_fi ws (n_v vs 0) 121) k1 k3 k4 k5 k6 k8 k10 k12 k13 k14 d0 d1 d2 d3 d4 d5 (shm_32 f0) f1 h2 (shm_40 f4) (shm_40 f6) f8 g10 f14 kz_0_32 kz_0_121)⟩
  refine ⟨(fun _ h => (by cases h)), [], trivial, ?_, (fun _ h => (by cases h))⟩
  rw [List.append_nil]
  exact List.forall_mem_cons.mpr ⟨⟨show (20 : Nat) < 100 from by decide, nf0⟩, (fun _ h => (by cases h))⟩
def n_Mo_mayLeave_an : List an_T := [(9, [(0, (2, 0, 0, [165])), (1, (0, 1, 28, [])), (2, (0, 0, 24, [])), (3, (0, 0, 30, []))], [], (0, 0), [(0, 0, 99991), (1, 5, 30), (0, 0, 100000)], [(1, 3, (Int.negSucc 999999999999), 0), (3, 1, (Int.negSucc 999999999999), 0)], [], [(2, 0, 0, [165]), (0, 1, 28, [])], 0, [], [(20, [2], [60, 2, 2, 75, 31, 32, 33, 34]), (20, [3, 2], [30, (Int.negSucc 0), 1, 0, 0, (Int.negSucc 0), 1, 121]), (20, [2, 3, 5], [60, 1, 4, 288, 32, 33, 34, 35, 122]), (20, [4, 2, 3], [50, 0, 1, 1122, 1, 2, 1, 0, 3, 1, 122, 1, 2]), (24, [0, 2], []), (24, [1, 3], [])])]
def t_Mo_mayLeave_ct : ct_L := [(1, 646, e_Mo_edgeOf)]
set_option maxRecDepth 100000 in
theorem c_Mo_mayLeave {l : Launch} {D : va_G} {kA : Nat → ClassId} (h_Mo_edgeOf : ct_ok PRD l D kA GG y_Mo_edgeOf z_Mo_edgeOf e_Mo_edgeOf) : ct_ok PRD l D kA GG y_Mo_mayLeave z_Mo_mayLeave e_Mo_mayLeave := chk_all_ok (FT := [(278, 13, 122), (904, 13, 121)]) (PT := []) (CT := t_Mo_mayLeave_ct) (KT := []) (NT := []) (AN := n_Mo_mayLeave_an) (OT := [o_Mo_mayLeave_0, o_Mo_mayLeave_1, o_Mo_mayLeave_2, o_Mo_mayLeave_3, o_Mo_mayLeave_4, o_Mo_mayLeave_5, o_Mo_mayLeave_6]) 3 200 (List.forall_mem_cons.mpr ⟨oo_Mo_mayLeave_0, List.forall_mem_cons.mpr ⟨oo_Mo_mayLeave_1, List.forall_mem_cons.mpr ⟨oo_Mo_mayLeave_2, List.forall_mem_cons.mpr ⟨oo_Mo_mayLeave_3, List.forall_mem_cons.mpr ⟨oo_Mo_mayLeave_4, List.forall_mem_cons.mpr ⟨oo_Mo_mayLeave_5, List.forall_mem_cons.mpr ⟨oo_Mo_mayLeave_6, List.forall_mem_nil _⟩⟩⟩⟩⟩⟩⟩) (by decide +kernel) ⟨List.forall_mem_cons.mpr ⟨gf_Mo_278, List.forall_mem_cons.mpr ⟨gf_Mo_904, List.forall_mem_nil _⟩⟩, List.forall_mem_nil _, List.forall_mem_cons.mpr ⟨cl_virtual (y := y_Mo_edgeOf) (ci := 13) rfl rfl ⟨_, _, rfl⟩ (by decide +kernel) h_Mo_edgeOf wm_3195 wm_9 wm_3192 wm_3194 wv_15_7 ⟨by decide, by decide, by decide +kernel⟩ (by decide), List.forall_mem_nil _⟩, List.forall_mem_nil _, List.forall_mem_nil _, GG_pl⟩ (by decide +kernel)

set_option maxHeartbeats 4000000 in
theorem vc_Mo_pieces_0_0 (x1 : Int) (drawnEdge_0 : Int → Int) (pieceOf_0 : Int → Int) (k1 : 0 ≤ x1 ∧ x1 ≤ 0) : PC0 (drawnEdge_0) (pieceOf_0) (x1) := by
  first
    | (intro e a b; exfalso; omega)
    | (have h := ‹PC0 _ _ _›
       intro e a b
       by_cases q : e = x2
       · have v := (hE_0_44_1 x2 (by omega)).1 rfl
         rw [q]
         exact ⟨fun z => by omega, fun z => by omega⟩
       · rw [(hE_0_44_1 e a).2 q]; exact h e a (by omega))
def o_Mo_pieces_0 : or_T := (2, 2, [(1, (0, 0, 0, []))], [], [], [], [(20, [0, 1], [60, 0, 2, 99, 43, 44]), (24, [0, 0], [])], [], [])
theorem oo_Mo_pieces_0 {kA : Nat → ClassId} : or_ok PRD kA GG o_Mo_pieces_0 := by
  refine or_mk fun A ta ws vs hD hth hl => ?_
  intro t1 k1
  have nf0 : fc_1 PRD (20, [0, 1], [60, 0, 2, 99, 43, 44]) ws (vs) := ⟨nf_in hl rfl, sgq_1148 (vc_Mo_pieces_0_0 (v_iv (n_v vs 1)) (w_ei ws (w_ar ws (n_v vs 0) 43)) (w_ei ws (w_ar ws (n_v vs 0) 44)) k1)⟩
  have nf1 : fc_1 PRD (24, [0, 0], []) ws (vs) := by
    refine ⟨nf_in hl rfl, sgq_1 ?_⟩
    · show n_v vs 0 = n_v vs 0
      first | rfl | simp only [true_and]
  refine ⟨(fun _ h => (by cases h)), [], trivial, ?_, (fun _ h => (by cases h))⟩
  rw [List.append_nil]
  exact List.forall_mem_cons.mpr ⟨⟨show (20 : Nat) < 100 from by decide, nf0⟩, List.forall_mem_cons.mpr ⟨⟨show (24 : Nat) < 100 from by decide, nf1⟩, (fun _ h => (by cases h))⟩⟩
set_option maxHeartbeats 4000000 in
theorem vc_Mo_pieces_1_0 (x2 : Int) (x3 : Int) (pm_0 : Int) (drawnEdge_0 : Int → Int) (pieceOf_0 : Int → Int) (pt_0 : Int → Int) (ph_0 : Int → Int) (drawnNode_0 : Int → Int) (k2 : 0 ≤ x2 ∧ x2 ≤ 80) (k3 : 0 ≤ x3 ∧ x3 ≤ 80) (d0 : x3 + 0 ≤ x2 ∧ x2 ≤ x3 + 4294967296) (g1 : x3 = pm_0) (f2 : PC0 (drawnEdge_0) (pieceOf_0) (x2)) (kz_0_32 : 0 ≤ pm_0 ∧ pm_0 ≤ 80) : PCI (pm_0) (pt_0) (ph_0) (drawnEdge_0) (drawnNode_0) (pieceOf_0) := by
  first
    | assumption
    | exact pc_start ‹PC0 _ _ _› (by omega)
set_option maxHeartbeats 4000000 in
theorem vc_Mo_pieces_1_1 (x2 : Int) (x3 : Int) (x4 : Int) (pm_0 : Int) (drawnEdge_0 : Int → Int) (pieceOf_0 : Int → Int) (pt_0 : Int → Int) (ph_0 : Int → Int) (drawnNode_0 : Int → Int) (k2 : 0 ≤ x2 ∧ x2 ≤ 80) (k3 : 0 ≤ x3 ∧ x3 ≤ 80) (k4 : 1 ≤ x4 ∧ x4 ≤ 1) (f0 : x3 ≤ x2) (kz_0_32 : 0 ≤ pm_0 ∧ pm_0 ≤ 80) : PC3 (pm_0) (pt_0) (ph_0) (drawnEdge_0) (drawnNode_0) (pieceOf_0) (x4) := by
  first
    | (intro h; exfalso; omega)
    | (have h := ‹PC4 _ _ _ _ _ _ _›
       intro h0 e_zq f_zq f0 hfe hlt
       exact h h0 e_zq f_zq f0 hfe (by omega))
set_option maxHeartbeats 4000000 in
theorem vc_Mo_pieces_1_2 (x2 : Int) (x3 : Int) (x4 : Int) (pm_0 : Int) (drawnEdge_0 : Int → Int) (pieceOf_0 : Int → Int) (gx : Int) (k2 : 0 ≤ x2 ∧ x2 ≤ 80) (k3 : 0 ≤ x3 ∧ x3 ≤ 80) (k4 : 1 ≤ x4 ∧ x4 ≤ 1) (d0 : x3 + 0 ≤ x2 ∧ x2 ≤ x3 + 4294967296) (g1 : x3 = pm_0) (f2 : PC0 (drawnEdge_0) (pieceOf_0) (x2)) (kz_0_32 : 0 ≤ pm_0 ∧ pm_0 ≤ 80) (ex2 : gx = 6500) : PCM (pm_0) (pieceOf_0) (x4) (gx) := by
  first
    | (have := pc_sm0 (m := pm_0) ‹PC0 _ _ _› (by omega) (by omega) (by omega); unfold PCM; omega)
    | (have h := ‹PCN _ _ _ _›; unfold PCM; unfold PCN at h; omega)
def o_Mo_pieces_1 : or_T := (38, 5, [(0, (2, 0, 0, [165])), (1, (2, 0, 0, [165])), (2, (0, 0, 80, [])), (3, (0, 0, 80, [])), (4, (0, 1, 1, []))], [(7, [2, 3], [3]), (9, [3, 1], [32]), (20, [1, 2], [60, 0, 2, 99, 43, 44]), (24, [0, 1], [])], [], [(0, -200, 6500, [])], [(20, [1], [60, 1, 5, 100, 32, 33, 34, 43, 42, 44]), (20, [1, 4], [60, 1, 5, 102, 32, 33, 34, 43, 42, 44]), (20, [1, 4, 5], [60, 1, 1, 104, 32, 44]), (24, [0, 1], [])], [], [(2, 3, 0, 4294967296)])
theorem oo_Mo_pieces_1 {kA : Nat → ClassId} : or_ok PRD kA GG o_Mo_pieces_1 := by
  refine or_mk fun A ta ws vs hD hth hl => ?_
  intro t0 r0 t1 r1 t2 k2 t3 k3 t4 k4 d0 f0 f1 f2 f3
  replace f0 := shm_2 f0
  replace f1 := shm_525 f1
  replace f2 := shm_1148 f2
  replace f3 := shm_5 f3
  have q1 : n_v vs 1 = n_v vs 0 := f3.symm
  simp only [q1] at f1 f2
  have cr_0_33 := fdq_117 hD hth r0
  have cr_0_34 := fdq_118 hD hth r0
  have cr_0_42 := fdq_136 hD hth r0
  have cr_0_43 := fdq_137 hD hth r0
  have cr_0_44 := fdq_138 hD hth r0
  have g1 : v_iv (n_v vs 3) = w_fi ws (n_v vs 0) 32 := congrArg v_iv f1
  have hK_0_33 := elq_60 hD hth cr_0_33
  have hK_0_34 := elq_61 hD hth cr_0_34
  have hK_0_42 := elq_75 hD hth cr_0_42
  have hK_0_43 := elq_76 hD hth cr_0_43
  have hK_0_44 := elq_77 hD hth cr_0_44
  have kz_0_32 := fdq_140 hD hth r0
  first | have hN := pcn_pos ‹PCN _ _ _ _› (by omega) ‹PCI _ _ _ _ _ _› (by omega) (by omega) | skip
  obtain ⟨x, ex, hx⟩ := iv_ex (ta := ta) (lo := (-200)) (hi := 6500) (z := 6500) (by omega) (by omega) (by omega) (by omega)
  have ex2 : v_iv (Value.int x) = 6500 := ex
  have ex3 : (-200) ≤ v_iv (Value.int x) ∧ v_iv (Value.int x) ≤ 6500 := tv_rng hx
  have e_0 : n_v (vs ++ [Value.int x]) 0 = n_v vs 0 := n_v_old (by rw [hl]; decide)
  have e_1 : n_v (vs ++ [Value.int x]) 1 = n_v vs 1 := n_v_old (by rw [hl]; decide)
  have e_4 : n_v (vs ++ [Value.int x]) 4 = n_v vs 4 := n_v_old (by rw [hl]; decide)
  have e_5 : n_v (vs ++ [Value.int x]) 5 = Value.int x := n_v_new hl
  have nf0 : fc_1 PRD (20, [1], [60, 1, 5, 100, 32, 33, 34, 43, 42, 44]) ws (vs ++ [Value.int x]) := by
    refine ⟨nf_inA hl rfl, sgq_1149 ?_⟩
    · show PCI (w_fi ws (n_v (vs ++ [Value.int x]) 1) 32) (w_ei ws (w_ar ws (n_v (vs ++ [Value.int x]) 1) 33)) (w_ei ws (w_ar ws (n_v (vs ++ [Value.int x]) 1) 34)) (w_ei ws (w_ar ws (n_v (vs ++ [Value.int x]) 1) 43)) (w_ei ws (w_ar ws (n_v (vs ++ [Value.int x]) 1) 42)) (w_ei ws (w_ar ws (n_v (vs ++ [Value.int x]) 1) 44))
      simp only [e_1, q1]
      exact vc_Mo_pieces_1_0 (v_iv (n_v vs 2)) (v_iv (n_v vs 3)) (w_fi ws (n_v vs 0) 32) (w_ei ws (w_ar ws (n_v vs 0) 43)) (w_ei ws (w_ar ws (n_v vs 0) 44)) (w_ei ws (w_ar ws (n_v vs 0) 33)) (w_ei ws (w_ar ws (n_v vs 0) 34)) (w_ei ws (w_ar ws (n_v vs 0) 42)) k2 k3 d0 g1 f2 kz_0_32
  have nf1 : fc_1 PRD (20, [1, 4], [60, 1, 5, 102, 32, 33, 34, 43, 42, 44]) ws (vs ++ [Value.int x]) := by
    refine ⟨nf_inA hl rfl, sgq_1150 ?_⟩
    · show PC3 (w_fi ws (n_v (vs ++ [Value.int x]) 1) 32) (w_ei ws (w_ar ws (n_v (vs ++ [Value.int x]) 1) 33)) (w_ei ws (w_ar ws (n_v (vs ++ [Value.int x]) 1) 34)) (w_ei ws (w_ar ws (n_v (vs ++ [Value.int x]) 1) 43)) (w_ei ws (w_ar ws (n_v (vs ++ [Value.int x]) 1) 42)) (w_ei ws (w_ar ws (n_v (vs ++ [Value.int x]) 1) 44)) (v_iv (n_v (vs ++ [Value.int x]) 4))
      simp only [e_1, e_4, q1]
      exact vc_Mo_pieces_1_1 (v_iv (n_v vs 2)) (v_iv (n_v vs 3)) (v_iv (n_v vs 4)) (w_fi ws (n_v vs 0) 32) (w_ei ws (w_ar ws (n_v vs 0) 43)) (w_ei ws (w_ar ws (n_v vs 0) 44)) (w_ei ws (w_ar ws (n_v vs 0) 33)) (w_ei ws (w_ar ws (n_v vs 0) 34)) (w_ei ws (w_ar ws (n_v vs 0) 42)) k2 k3 k4 f0 kz_0_32
  have nf2 : fc_1 PRD (20, [1, 4, 5], [60, 1, 1, 104, 32, 44]) ws (vs ++ [Value.int x]) := by
    refine ⟨nf_inA hl rfl, sgq_1151 ?_⟩
    · show PCM (w_fi ws (n_v (vs ++ [Value.int x]) 1) 32) (w_ei ws (w_ar ws (n_v (vs ++ [Value.int x]) 1) 44)) (v_iv (n_v (vs ++ [Value.int x]) 4)) (v_iv (n_v (vs ++ [Value.int x]) 5))
      simp only [e_1, e_4, e_5, q1]
      exact vc_Mo_pieces_1_2 (v_iv (n_v vs 2)) (v_iv (n_v vs 3)) (v_iv (n_v vs 4)) (w_fi ws (n_v vs 0) 32) (w_ei ws (w_ar ws (n_v vs 0) 43)) (w_ei ws (w_ar ws (n_v vs 0) 44)) (v_iv (Value.int x)) k2 k3 k4 d0 g1 f2 kz_0_32 ex2
  have nf3 : fc_1 PRD (24, [0, 1], []) ws (vs ++ [Value.int x]) := by
    refine ⟨nf_inA hl rfl, sgq_5 ?_⟩
    · show n_v (vs ++ [Value.int x]) 0 = n_v (vs ++ [Value.int x]) 1
      first | rfl | simp only [e_0, e_1, q1]
  exact ⟨(fun _ h => (by cases h)), [Value.int x], ag_one hx, List.forall_mem_cons.mpr ⟨⟨show (20 : Nat) < 100 from by decide, nf0⟩, List.forall_mem_cons.mpr ⟨⟨show (20 : Nat) < 100 from by decide, nf1⟩, List.forall_mem_cons.mpr ⟨⟨show (20 : Nat) < 100 from by decide, nf2⟩, List.forall_mem_cons.mpr ⟨⟨show (24 : Nat) < 100 from by decide, nf3⟩, (fun _ h => (by cases h))⟩⟩⟩⟩, (fun _ h => (by cases h))⟩
set_option maxHeartbeats 4000000 in
theorem vc_Mo_pieces_2_0 (x2 : Int) (x6 : Int) (x7 : Int) (drawnEdge_1 : Int → Int) (pm_1 : Int) (pieceOf_1 : Int → Int) (pm_0 : Int) (drawnEdge_0 : Int → Int) (pieceOf_0 : Int → Int) (k2 : 0 ≤ x2 ∧ x2 ≤ 79) (k6 : 0 ≤ x6 ∧ x6 ≤ 0) (k7 : 1 ≤ x7 ∧ x7 ≤ 80) (d0 : x2 + 1 ≤ x7 ∧ x7 ≤ x2 + 1) (h4 : x6 = drawnEdge_1 (x2)) (f9 : PC0 (drawnEdge_1) (pieceOf_1) (x2)) (fe_0_32_1 : pm_0 = pm_1) (hE_0_43_1 : ∀ j : Int, drawnEdge_0 j = drawnEdge_1 j) (hE_0_44_1 : ∀ j : Int, 0 ≤ j → (j = x2 → pieceOf_0 j = x2) ∧ (j ≠ x2 → pieceOf_0 j = pieceOf_1 j)) (kz_0_32 : 0 ≤ pm_0 ∧ pm_0 ≤ 80) : PC0 (drawnEdge_0) (pieceOf_0) (x7) := by
  subst fe_0_32_1
  have e_hE_0_43_1 := funext hE_0_43_1; subst e_hE_0_43_1
  first
    | (intro e a b; exfalso; omega)
    | (have h := ‹PC0 _ _ _›
       intro e a b
       by_cases q : e = x2
       · have v := (hE_0_44_1 x2 (by omega)).1 rfl
         rw [q]
         exact ⟨fun z => by omega, fun z => by omega⟩
       · rw [(hE_0_44_1 e a).2 q]; exact h e a (by omega))
def o_Mo_pieces_2 : or_T := (2, 8, [(0, (2, 0, 0, [165])), (2, (0, 0, 79, [])), (4, (2, 0, 0, [190])), (6, (0, 0, 0, [])), (7, (0, 1, 80, []))], [(24, [0, 1], []), (100, [4, 2, 2], []), (10, [6, 5, 2], []), (9, [5, 1], [43]), (9, [4, 1], [44]), (20, [1, 2], [60, 0, 2, 99, 43, 44])], [], [], [(20, [1, 7], [60, 0, 2, 99, 43, 44])], [], [(7, 2, 1, 1), (2, 3, -4294967296, -1)])
theorem oo_Mo_pieces_2 {kA : Nat → ClassId} : or_ok PRD kA GG o_Mo_pieces_2 := by
  refine or_mk fun A ta ws vs hD hth hl => ?_
  intro t0 r0 t2 k2 t4 r4 t6 k6 t7 k7 d0 d2 f1 ta1 w1 le1 s1 f4 f5 f6 f9
  replace f1 := shm_5 f1
  have s1 : (∀ b j, w_el ws b j = if b = v_ad (n_v vs 4) ∧ j = (v_iv (n_v vs 2)).toNat then v_iv (n_v vs 2) else w_el w1 b j) ∧ ∀ b k, w_fd ws b k = w_fd w1 b k := s1.2
  replace f4 := shm_107 f4
  replace f5 := shm_532 f5
  replace f6 := shm_533 f6
  replace f9 := shm_1148 f9
  have q1 : n_v vs 1 = n_v vs 0 := f1.symm
  simp only [q1] at f5 f6 f9
  have ar_0_43_1 : w_ar w1 (n_v vs 0) 43 = w_ar ws (n_v vs 0) 43 := congrArg v_ad (s1.2 _ _).symm
  have cr_0_43 := fdq_137 hD hth r0
  have ar_0_44_1 : w_ar w1 (n_v vs 0) 44 = w_ar ws (n_v vs 0) 44 := congrArg v_ad (s1.2 _ _).symm
  have ad_5 : v_ad (n_v vs 5) = w_ar ws (n_v vs 0) 43 := (congrArg v_ad f5).trans ar_0_43_1
  have ad_4 : v_ad (n_v vs 4) = w_ar ws (n_v vs 0) 44 := (congrArg v_ad f6).trans ar_0_44_1
  simp only [ad_5] at f4
  have h4 : v_iv (n_v vs 6) = w_ei w1 (w_ar ws (n_v vs 0) 43) (v_iv (n_v vs 2)) := f4
  simp only [ar_0_43_1, ar_0_44_1] at f9
  have fe_0_32_1 : w_fi ws (n_v vs 0) 32 = w_fi w1 (n_v vs 0) 32 := congrArg v_iv (s1.2 _ _)
  have hE_0_43_1 : ∀ j : Int, w_ei ws (w_ar ws (n_v vs 0) 43) j = w_ei w1 (w_ar ws (n_v vs 0) 43) j := el_kp s1.1 r4 cr_0_43 (by decide)
  have hE_0_44_1 : ∀ j : Int, 0 ≤ j → (j = v_iv (n_v vs 2) → w_ei ws (w_ar ws (n_v vs 0) 44) j = v_iv (n_v vs 2)) ∧ (j ≠ v_iv (n_v vs 2) → w_ei ws (w_ar ws (n_v vs 0) 44) j = w_ei w1 (w_ar ws (n_v vs 0) 44) j) := fun j hj => ⟨fun h => by unfold w_ei; rw [s1.1, if_pos ⟨ad_4.symm, by rw [h]⟩], fun h => by unfold w_ei; rw [s1.1, if_neg (fun e => h (by have := e.2; omega))]⟩
  have kz_0_32 := fdq_140 hD hth r0
  have nf0 : fc_1 PRD (20, [1, 7], [60, 0, 2, 99, 43, 44]) ws (vs) := by
    refine ⟨nf_in hl rfl, sgq_1148 ?_⟩
    · show PC0 (w_ei ws (w_ar ws (n_v vs 1) 43)) (w_ei ws (w_ar ws (n_v vs 1) 44)) (v_iv (n_v vs 7))
      rw [q1]
      exact vc_Mo_pieces_2_0 (v_iv (n_v vs 2)) (v_iv (n_v vs 6)) (v_iv (n_v vs 7)) (w_ei w1 (w_ar ws (n_v vs 0) 43)) (w_fi w1 (n_v vs 0) 32) (w_ei w1 (w_ar ws (n_v vs 0) 44)) (w_fi ws (n_v vs 0) 32) (w_ei ws (w_ar ws (n_v vs 0) 43)) (w_ei ws (w_ar ws (n_v vs 0) 44)) k2 k6 k7 d0 h4 f9 fe_0_32_1 hE_0_43_1 hE_0_44_1 kz_0_32
  refine ⟨(fun _ h => (by cases h)), [], trivial, ?_, (fun _ h => (by cases h))⟩
  rw [List.append_nil]
  exact List.forall_mem_cons.mpr ⟨⟨show (20 : Nat) < 100 from by decide, nf0⟩, (fun _ h => (by cases h))⟩
set_option maxHeartbeats 4000000 in
theorem vc_Mo_pieces_3_0 (x2 : Int) (x6 : Int) (x7 : Int) (x8 : Int) (drawnEdge_1 : Int → Int) (pm_1 : Int) (pieceOf_1 : Int → Int) (pm_0 : Int) (drawnEdge_0 : Int → Int) (pieceOf_0 : Int → Int) (k2 : 0 ≤ x2 ∧ x2 ≤ 79) (k6 : 1 ≤ x6 ∧ x6 ≤ 1) (k7 : (-1) ≤ x7 ∧ x7 ≤ (-1)) (k8 : 1 ≤ x8 ∧ x8 ≤ 80) (d0 : x2 + 1 ≤ x8 ∧ x8 ≤ x2 + 1) (h4 : x6 = drawnEdge_1 (x2)) (f9 : PC0 (drawnEdge_1) (pieceOf_1) (x2)) (fe_0_32_1 : pm_0 = pm_1) (hE_0_43_1 : ∀ j : Int, drawnEdge_0 j = drawnEdge_1 j) (hE_0_44_1 : ∀ j : Int, 0 ≤ j → (j = x2 → pieceOf_0 j = x7) ∧ (j ≠ x2 → pieceOf_0 j = pieceOf_1 j)) (kz_0_32 : 0 ≤ pm_0 ∧ pm_0 ≤ 80) : PC0 (drawnEdge_0) (pieceOf_0) (x8) := by
  subst fe_0_32_1
  have e_hE_0_43_1 := funext hE_0_43_1; subst e_hE_0_43_1
  first
    | (intro e a b; exfalso; omega)
    | (have h := ‹PC0 _ _ _›
       intro e a b
       by_cases q : e = x2
       · have v := (hE_0_44_1 x2 (by omega)).1 rfl
         rw [q]
         exact ⟨fun z => by omega, fun z => by omega⟩
       · rw [(hE_0_44_1 e a).2 q]; exact h e a (by omega))
def o_Mo_pieces_3 : or_T := (2, 9, [(0, (2, 0, 0, [165])), (2, (0, 0, 79, [])), (4, (2, 0, 0, [190])), (6, (0, 1, 1, [])), (7, (0, -1, -1, [])), (8, (0, 1, 80, []))], [(24, [0, 1], []), (100, [4, 2, 7], []), (10, [6, 5, 2], []), (9, [5, 1], [43]), (9, [4, 1], [44]), (20, [1, 2], [60, 0, 2, 99, 43, 44])], [], [], [(20, [1, 8], [60, 0, 2, 99, 43, 44])], [], [(8, 2, 1, 1), (2, 3, -4294967296, -1)])
theorem oo_Mo_pieces_3 {kA : Nat → ClassId} : or_ok PRD kA GG o_Mo_pieces_3 := by
  refine or_mk fun A ta ws vs hD hth hl => ?_
  intro t0 r0 t2 k2 t4 r4 t6 k6 t7 k7 t8 k8 d0 d2 f1 ta1 w1 le1 s1 f4 f5 f6 f9
  replace f1 := shm_5 f1
  have s1 : (∀ b j, w_el ws b j = if b = v_ad (n_v vs 4) ∧ j = (v_iv (n_v vs 2)).toNat then v_iv (n_v vs 7) else w_el w1 b j) ∧ ∀ b k, w_fd ws b k = w_fd w1 b k := s1.2
  replace f4 := shm_107 f4
  replace f5 := shm_532 f5
  replace f6 := shm_533 f6
  replace f9 := shm_1148 f9
  have q1 : n_v vs 1 = n_v vs 0 := f1.symm
  simp only [q1] at f5 f6 f9
  have ar_0_43_1 : w_ar w1 (n_v vs 0) 43 = w_ar ws (n_v vs 0) 43 := congrArg v_ad (s1.2 _ _).symm
  have cr_0_43 := fdq_137 hD hth r0
  have ar_0_44_1 : w_ar w1 (n_v vs 0) 44 = w_ar ws (n_v vs 0) 44 := congrArg v_ad (s1.2 _ _).symm
  have ad_5 : v_ad (n_v vs 5) = w_ar ws (n_v vs 0) 43 := (congrArg v_ad f5).trans ar_0_43_1
  have ad_4 : v_ad (n_v vs 4) = w_ar ws (n_v vs 0) 44 := (congrArg v_ad f6).trans ar_0_44_1
  simp only [ad_5] at f4
  have h4 : v_iv (n_v vs 6) = w_ei w1 (w_ar ws (n_v vs 0) 43) (v_iv (n_v vs 2)) := f4
  simp only [ar_0_43_1, ar_0_44_1] at f9
  have fe_0_32_1 : w_fi ws (n_v vs 0) 32 = w_fi w1 (n_v vs 0) 32 := congrArg v_iv (s1.2 _ _)
  have hE_0_43_1 : ∀ j : Int, w_ei ws (w_ar ws (n_v vs 0) 43) j = w_ei w1 (w_ar ws (n_v vs 0) 43) j := el_kp s1.1 r4 cr_0_43 (by decide)
  have hE_0_44_1 : ∀ j : Int, 0 ≤ j → (j = v_iv (n_v vs 2) → w_ei ws (w_ar ws (n_v vs 0) 44) j = v_iv (n_v vs 7)) ∧ (j ≠ v_iv (n_v vs 2) → w_ei ws (w_ar ws (n_v vs 0) 44) j = w_ei w1 (w_ar ws (n_v vs 0) 44) j) := fun j hj => ⟨fun h => by unfold w_ei; rw [s1.1, if_pos ⟨ad_4.symm, by rw [h]⟩], fun h => by unfold w_ei; rw [s1.1, if_neg (fun e => h (by have := e.2; omega))]⟩
  have kz_0_32 := fdq_140 hD hth r0
  have nf0 : fc_1 PRD (20, [1, 8], [60, 0, 2, 99, 43, 44]) ws (vs) := by
    refine ⟨nf_in hl rfl, sgq_1148 ?_⟩
    · show PC0 (w_ei ws (w_ar ws (n_v vs 1) 43)) (w_ei ws (w_ar ws (n_v vs 1) 44)) (v_iv (n_v vs 8))
      rw [q1]
      exact vc_Mo_pieces_3_0 (v_iv (n_v vs 2)) (v_iv (n_v vs 6)) (v_iv (n_v vs 7)) (v_iv (n_v vs 8)) (w_ei w1 (w_ar ws (n_v vs 0) 43)) (w_fi w1 (n_v vs 0) 32) (w_ei w1 (w_ar ws (n_v vs 0) 44)) (w_fi ws (n_v vs 0) 32) (w_ei ws (w_ar ws (n_v vs 0) 43)) (w_ei ws (w_ar ws (n_v vs 0) 44)) k2 k6 k7 k8 d0 h4 f9 fe_0_32_1 hE_0_43_1 hE_0_44_1 kz_0_32
  refine ⟨(fun _ h => (by cases h)), [], trivial, ?_, (fun _ h => (by cases h))⟩
  rw [List.append_nil]
  exact List.forall_mem_cons.mpr ⟨⟨show (20 : Nat) < 100 from by decide, nf0⟩, (fun _ h => (by cases h))⟩
set_option maxHeartbeats 4000000 in
theorem vc_Mo_pieces_4_0 (x2 : Int) (pt_0 : Int → Int) (ph_0 : Int → Int) (drawnEdge_0 : Int → Int) (drawnNode_0 : Int → Int) (pieceOf_0 : Int → Int) (pm_0 : Int) (k2 : 0 ≤ x2 ∧ x2 ≤ 0) (f0 : x2 = 0) (f1 : PCI (pm_0) (pt_0) (ph_0) (drawnEdge_0) (drawnNode_0) (pieceOf_0)) (f2 : PC3 (pm_0) (pt_0) (ph_0) (drawnEdge_0) (drawnNode_0) (pieceOf_0) (x2)) (kz_0_32 : 0 ≤ pm_0 ∧ pm_0 ≤ 80) : PCS (pm_0) (pt_0) (ph_0) (drawnEdge_0) (drawnNode_0) (pieceOf_0) := by
  exact pc_end ‹PCI _ _ _ _ _ _› (by have h := ‹PC3 _ _ _ _ _ _ _›; rw [show x2 = 0 by omega] at h; exact h)
def o_Mo_pieces_4 : or_T := (156, 4, [(0, (2, 0, 0, [165])), (2, (0, 0, 0, []))], [(8, [2], [0]), (20, [1], [60, 1, 5, 100, 32, 33, 34, 43, 42, 44]), (20, [1, 2], [60, 1, 5, 102, 32, 33, 34, 43, 42, 44]), (24, [0, 1], [])], [], [], [(20, [0], [60, 1, 5, 106, 32, 33, 34, 43, 42, 44])], [], [])
theorem oo_Mo_pieces_4 {kA : Nat → ClassId} : or_ok PRD kA GG o_Mo_pieces_4 := by
  refine or_mk fun A ta ws vs hD hth hl => ?_
  intro t0 r0 t2 k2 f0 f1 f2 f4
  replace f1 := shm_1149 f1
  replace f2 := shm_1150 f2
  replace f4 := shm_5 f4
  have q1 : n_v vs 1 = n_v vs 0 := f4.symm
  simp only [q1] at f1 f2
  have kz_0_32 := fdq_140 hD hth r0
  have nf0 : fc_1 PRD (20, [0], [60, 1, 5, 106, 32, 33, 34, 43, 42, 44]) ws (vs) := ⟨nf_in hl rfl, sgq_523 (vc_Mo_pieces_4_0 (v_iv (n_v vs 2)) (w_ei ws (w_ar ws (n_v vs 0) 33)) (w_ei ws (w_ar ws (n_v vs 0) 34)) (w_ei ws (w_ar ws (n_v vs 0) 43)) (w_ei ws (w_ar ws (n_v vs 0) 42)) (w_ei ws (w_ar ws (n_v vs 0) 44)) (w_fi ws (n_v vs 0) 32) k2 (shm_192 f0) f1 f2 kz_0_32)⟩
  refine ⟨(fun _ h => (by cases h)), [], trivial, ?_, (fun _ h => (by cases h))⟩
  rw [List.append_nil]
  exact List.forall_mem_cons.mpr ⟨⟨show (20 : Nat) < 100 from by decide, nf0⟩, (fun _ h => (by cases h))⟩
set_option maxHeartbeats 4000000 in
theorem vc_Mo_pieces_5_0 (pt_0 : Int → Int) (ph_0 : Int → Int) (drawnEdge_0 : Int → Int) (drawnNode_0 : Int → Int) (pieceOf_0 : Int → Int) (pm_0 : Int) (f1 : PCI (pm_0) (pt_0) (ph_0) (drawnEdge_0) (drawnNode_0) (pieceOf_0)) (kz_0_32 : 0 ≤ pm_0 ∧ pm_0 ≤ 80) : PCI (pm_0) (pt_0) (ph_0) (drawnEdge_0) (drawnNode_0) (pieceOf_0) := by
  first | assumption
set_option maxHeartbeats 4000000 in
theorem vc_Mo_pieces_5_1 (x2 : Int) (x3 : Int) (x4 : Int) (x5 : Int) (pt_0 : Int → Int) (ph_0 : Int → Int) (drawnEdge_0 : Int → Int) (drawnNode_0 : Int → Int) (pieceOf_0 : Int → Int) (k2 : 1 ≤ x2 ∧ x2 ≤ 1) (k4 : 0 ≤ x4 ∧ x4 ≤ 0) (k5 : 0 ≤ x5 ∧ x5 ≤ 0) (f0 : x2 ≠ 0) : PC4 (pt_0) (ph_0) (drawnEdge_0) (drawnNode_0) (pieceOf_0) (x5) (x4) := by
  first
    | (intro h0 e_zq f_zq f0 hfe hlt; exfalso; omega)
    | (have h := ‹PC2 _ _ _ _ _ _ _ _›
       first | rw [show x6 = x3 + 1 by omega] | rw [show x7 = x3 + 1 by omega]
       exact pc2_up h (by omega))
set_option maxHeartbeats 4000000 in
theorem vc_Mo_pieces_5_2 (x2 : Int) (x3 : Int) (x4 : Int) (pieceOf_0 : Int → Int) (pm_0 : Int) (gx : Int) (k2 : 1 ≤ x2 ∧ x2 ≤ 1) (k3 : (-200) ≤ x3 ∧ x3 ≤ 6500) (k4 : 0 ≤ x4 ∧ x4 ≤ 0) (f3 : PCM (pm_0) (pieceOf_0) (x2) (x3)) (kz_0_32 : 0 ≤ pm_0 ∧ pm_0 ≤ 80) (ex2 : gx = 0 + (1 * x3 + 0)) : PCN (pm_0) (pieceOf_0) (x4) (gx) := by
  first
    | (have h := ‹PCM _ _ _ _›; unfold PCN; unfold PCM at h; omega)
    | (have h := ‹PCN _ _ _ _›; unfold PCN; unfold PCN at h; omega)
def o_Mo_pieces_5 : or_T := (46, 6, [(0, (2, 0, 0, [165])), (1, (2, 0, 0, [165])), (2, (0, 1, 1, [])), (3, (0, -200, 6500, [])), (4, (0, 0, 0, [])), (5, (0, 0, 0, []))], [(8, [2], [1]), (20, [1], [60, 1, 5, 100, 32, 33, 34, 43, 42, 44]), (20, [1, 2], [60, 1, 5, 102, 32, 33, 34, 43, 42, 44]), (20, [1, 2, 3], [60, 1, 1, 104, 32, 44]), (24, [0, 1], [])], [], [(0, -200, 6500, [])], [(20, [1], [60, 1, 5, 100, 32, 33, 34, 43, 42, 44]), (20, [1, 5, 4], [60, 0, 5, 103, 33, 34, 43, 42, 44]), (20, [1, 4, 6], [60, 1, 1, 105, 32, 44]), (24, [0, 1], [])], [(6, 3, 0, 0)], [])
theorem oo_Mo_pieces_5 {kA : Nat → ClassId} : or_ok PRD kA GG o_Mo_pieces_5 := by
  refine or_mk fun A ta ws vs hD hth hl => ?_
  intro t0 r0 t1 r1 t2 k2 t3 k3 t4 k4 t5 k5 f0 f1 f2 f3 f4
  replace f0 := shm_142 f0
  replace f1 := shm_1149 f1
  replace f2 := shm_1150 f2
  replace f3 := shm_1151 f3
  replace f4 := shm_5 f4
  have q1 : n_v vs 1 = n_v vs 0 := f4.symm
  simp only [q1] at f1 f2 f3
  have cr_0_33 := fdq_117 hD hth r0
  have cr_0_34 := fdq_118 hD hth r0
  have cr_0_42 := fdq_136 hD hth r0
  have cr_0_43 := fdq_137 hD hth r0
  have cr_0_44 := fdq_138 hD hth r0
  have hK_0_33 := elq_60 hD hth cr_0_33
  have hK_0_34 := elq_61 hD hth cr_0_34
  have hK_0_42 := elq_75 hD hth cr_0_42
  have hK_0_43 := elq_76 hD hth cr_0_43
  have hK_0_44 := elq_77 hD hth cr_0_44
  have kz_0_32 := fdq_140 hD hth r0
  obtain ⟨x, ex, hx⟩ := iv_ex (ta := ta) (lo := (-200)) (hi := 6500) (z := 0 + (1 * v_iv (n_v vs 3) + 0)) (by omega) (by omega) (by omega) (by omega)
  have ex2 : v_iv (Value.int x) = 0 + (1 * v_iv (n_v vs 3) + 0) := ex
  have ex3 : (-200) ≤ v_iv (Value.int x) ∧ v_iv (Value.int x) ≤ 6500 := tv_rng hx
  have e_0 : n_v (vs ++ [Value.int x]) 0 = n_v vs 0 := n_v_old (by rw [hl]; decide)
  have e_1 : n_v (vs ++ [Value.int x]) 1 = n_v vs 1 := n_v_old (by rw [hl]; decide)
  have e_4 : n_v (vs ++ [Value.int x]) 4 = n_v vs 4 := n_v_old (by rw [hl]; decide)
  have e_5 : n_v (vs ++ [Value.int x]) 5 = n_v vs 5 := n_v_old (by rw [hl]; decide)
  have e_6 : n_v (vs ++ [Value.int x]) 6 = Value.int x := n_v_new hl
  have nf0 : fc_1 PRD (20, [1], [60, 1, 5, 100, 32, 33, 34, 43, 42, 44]) ws (vs ++ [Value.int x]) := by
    refine ⟨nf_inA hl rfl, sgq_1149 ?_⟩
    · show PCI (w_fi ws (n_v (vs ++ [Value.int x]) 1) 32) (w_ei ws (w_ar ws (n_v (vs ++ [Value.int x]) 1) 33)) (w_ei ws (w_ar ws (n_v (vs ++ [Value.int x]) 1) 34)) (w_ei ws (w_ar ws (n_v (vs ++ [Value.int x]) 1) 43)) (w_ei ws (w_ar ws (n_v (vs ++ [Value.int x]) 1) 42)) (w_ei ws (w_ar ws (n_v (vs ++ [Value.int x]) 1) 44))
      simp only [e_1, q1]
      exact vc_Mo_pieces_5_0 (w_ei ws (w_ar ws (n_v vs 0) 33)) (w_ei ws (w_ar ws (n_v vs 0) 34)) (w_ei ws (w_ar ws (n_v vs 0) 43)) (w_ei ws (w_ar ws (n_v vs 0) 42)) (w_ei ws (w_ar ws (n_v vs 0) 44)) (w_fi ws (n_v vs 0) 32) f1 kz_0_32
  have nf1 : fc_1 PRD (20, [1, 5, 4], [60, 0, 5, 103, 33, 34, 43, 42, 44]) ws (vs ++ [Value.int x]) := by
    refine ⟨nf_inA hl rfl, sgq_1152 ?_⟩
    · show PC4 (w_ei ws (w_ar ws (n_v (vs ++ [Value.int x]) 1) 33)) (w_ei ws (w_ar ws (n_v (vs ++ [Value.int x]) 1) 34)) (w_ei ws (w_ar ws (n_v (vs ++ [Value.int x]) 1) 43)) (w_ei ws (w_ar ws (n_v (vs ++ [Value.int x]) 1) 42)) (w_ei ws (w_ar ws (n_v (vs ++ [Value.int x]) 1) 44)) (v_iv (n_v (vs ++ [Value.int x]) 5)) (v_iv (n_v (vs ++ [Value.int x]) 4))
      simp only [e_1, e_4, e_5, q1]
      exact vc_Mo_pieces_5_1 (v_iv (n_v vs 2)) (v_iv (n_v vs 3)) (v_iv (n_v vs 4)) (v_iv (n_v vs 5)) (w_ei ws (w_ar ws (n_v vs 0) 33)) (w_ei ws (w_ar ws (n_v vs 0) 34)) (w_ei ws (w_ar ws (n_v vs 0) 43)) (w_ei ws (w_ar ws (n_v vs 0) 42)) (w_ei ws (w_ar ws (n_v vs 0) 44)) k2 k4 k5 f0
  have nf2 : fc_1 PRD (20, [1, 4, 6], [60, 1, 1, 105, 32, 44]) ws (vs ++ [Value.int x]) := by
    refine ⟨nf_inA hl rfl, sgq_1153 ?_⟩
    · show PCN (w_fi ws (n_v (vs ++ [Value.int x]) 1) 32) (w_ei ws (w_ar ws (n_v (vs ++ [Value.int x]) 1) 44)) (v_iv (n_v (vs ++ [Value.int x]) 4)) (v_iv (n_v (vs ++ [Value.int x]) 6))
      simp only [e_1, e_4, e_6, q1]
      exact vc_Mo_pieces_5_2 (v_iv (n_v vs 2)) (v_iv (n_v vs 3)) (v_iv (n_v vs 4)) (w_ei ws (w_ar ws (n_v vs 0) 44)) (w_fi ws (n_v vs 0) 32) (v_iv (Value.int x)) k2 k3 k4 f3 kz_0_32 ex2
  have nf3 : fc_1 PRD (24, [0, 1], []) ws (vs ++ [Value.int x]) := by
    refine ⟨nf_inA hl rfl, sgq_5 ?_⟩
    · show n_v (vs ++ [Value.int x]) 0 = n_v (vs ++ [Value.int x]) 1
      first | rfl | simp only [e_0, e_1, q1]
  obtain ⟨x0, e0, _, _⟩ := tv_int t3 rfl
  have e1 : v_iv (n_v vs 3) = x0.toInt := by rw [e0]; rfl
  have ho : sy_ofs (vs ++ [Value.int x]) (6, 3, 0, 0) := by
    refine ⟨x, x0, by rw [List.getElem?_append_right (by rw [hl]; decide), hl]; rfl, ?_, ?_, ?_⟩
    · rw [List.getElem?_append_left (by rw [hl]; decide)]; exact n_v_some (by rw [hl]; decide) e0
    · show x0.toInt + 0 ≤ x.toInt; omega
    · show x.toInt ≤ x0.toInt + 0; omega
  exact ⟨(fun _ h => (by cases h)), [Value.int x], ag_one hx, List.forall_mem_cons.mpr ⟨⟨show (20 : Nat) < 100 from by decide, nf0⟩, List.forall_mem_cons.mpr ⟨⟨show (20 : Nat) < 100 from by decide, nf1⟩, List.forall_mem_cons.mpr ⟨⟨show (20 : Nat) < 100 from by decide, nf2⟩, List.forall_mem_cons.mpr ⟨⟨show (24 : Nat) < 100 from by decide, nf3⟩, (fun _ h => (by cases h))⟩⟩⟩⟩, List.forall_mem_cons.mpr ⟨ho, (fun _ h => (by cases h))⟩⟩
set_option maxHeartbeats 4000000 in
theorem vc_Mo_pieces_6_0 (pm_0 : Int) (pt_0 : Int → Int) (ph_0 : Int → Int) (drawnEdge_0 : Int → Int) (drawnNode_0 : Int → Int) (pieceOf_0 : Int → Int) (f2 : PCI (pm_0) (pt_0) (ph_0) (drawnEdge_0) (drawnNode_0) (pieceOf_0)) (kz_0_32 : 0 ≤ pm_0 ∧ pm_0 ≤ 80) : PCI (pm_0) (pt_0) (ph_0) (drawnEdge_0) (drawnNode_0) (pieceOf_0) := by
  first
    | assumption
    | exact pc_start ‹PC0 _ _ _› (by omega)
set_option maxHeartbeats 4000000 in
theorem vc_Mo_pieces_6_1 (x2 : Int) (x3 : Int) (x5 : Int) (pm_0 : Int) (pt_0 : Int → Int) (ph_0 : Int → Int) (drawnEdge_0 : Int → Int) (drawnNode_0 : Int → Int) (pieceOf_0 : Int → Int) (k2 : 0 ≤ x2 ∧ x2 ≤ 1) (k3 : 0 ≤ x3 ∧ x3 ≤ 80) (k5 : 0 ≤ x5 ∧ x5 ≤ 80) (d0 : x5 + 0 ≤ x3 ∧ x3 ≤ x5 + 4294967296) (f0 : x5 ≤ x3) (g1 : x5 = pm_0) (f3 : PC4 (pt_0) (ph_0) (drawnEdge_0) (drawnNode_0) (pieceOf_0) (x3) (x2)) (kz_0_32 : 0 ≤ pm_0 ∧ pm_0 ≤ 80) : PC3 (pm_0) (pt_0) (ph_0) (drawnEdge_0) (drawnNode_0) (pieceOf_0) (x2) := by
  first
    | (intro h; exfalso; omega)
    | (have h := ‹PC4 _ _ _ _ _ _ _›
       intro h0 e_zq f_zq f0 hfe hlt
       exact h h0 e_zq f_zq f0 hfe (by omega))
set_option maxHeartbeats 4000000 in
theorem vc_Mo_pieces_6_2 (x2 : Int) (x4 : Int) (pm_0 : Int) (pieceOf_0 : Int → Int) (gx : Int) (k2 : 0 ≤ x2 ∧ x2 ≤ 1) (k4 : (-200) ≤ x4 ∧ x4 ≤ 6500) (f4 : PCN (pm_0) (pieceOf_0) (x2) (x4)) (kz_0_32 : 0 ≤ pm_0 ∧ pm_0 ≤ 80) (ex2 : gx = (-1) + (1 * x4 + 0)) : PCM (pm_0) (pieceOf_0) (x2) (gx) := by
  first
    | (have := pc_sm0 (m := pm_0) ‹PC0 _ _ _› (by omega) (by omega) (by omega); unfold PCM; omega)
    | (have h := ‹PCN _ _ _ _›; unfold PCM; unfold PCN at h; omega)
def o_Mo_pieces_6 : or_T := (38, 6, [(0, (2, 0, 0, [165])), (1, (2, 0, 0, [165])), (2, (0, 0, 1, [])), (3, (0, 0, 80, [])), (4, (0, -200, 6500, [])), (5, (0, 0, 80, []))], [(7, [3, 5], [3]), (9, [5, 1], [32]), (20, [1], [60, 1, 5, 100, 32, 33, 34, 43, 42, 44]), (20, [1, 3, 2], [60, 0, 5, 103, 33, 34, 43, 42, 44]), (20, [1, 2, 4], [60, 1, 1, 105, 32, 44]), (24, [0, 1], [])], [], [(0, -200, 6500, [])], [(20, [1], [60, 1, 5, 100, 32, 33, 34, 43, 42, 44]), (20, [1, 2], [60, 1, 5, 102, 32, 33, 34, 43, 42, 44]), (20, [1, 2, 6], [60, 1, 1, 104, 32, 44]), (24, [0, 1], [])], [(6, 4, -1000000000000, -1)], [(3, 5, 0, 4294967296), (2, 3, -4294967296, 0)])
theorem oo_Mo_pieces_6 {kA : Nat → ClassId} : or_ok PRD kA GG o_Mo_pieces_6 := by
  refine or_mk fun A ta ws vs hD hth hl => ?_
  intro t0 r0 t1 r1 t2 k2 t3 k3 t4 k4 t5 k5 d0 d1 f0 f1 f2 f3 f4 f5
  replace f0 := shm_2 f0
  replace f1 := shm_525 f1
  replace f2 := shm_1149 f2
  replace f3 := shm_1152 f3
  replace f4 := shm_1153 f4
  replace f5 := shm_5 f5
  have q1 : n_v vs 1 = n_v vs 0 := f5.symm
  simp only [q1] at f1 f2 f3 f4
  have cr_0_33 := fdq_117 hD hth r0
  have cr_0_34 := fdq_118 hD hth r0
  have cr_0_42 := fdq_136 hD hth r0
  have cr_0_43 := fdq_137 hD hth r0
  have cr_0_44 := fdq_138 hD hth r0
  have g1 : v_iv (n_v vs 5) = w_fi ws (n_v vs 0) 32 := congrArg v_iv f1
  have hK_0_33 := elq_60 hD hth cr_0_33
  have hK_0_34 := elq_61 hD hth cr_0_34
  have hK_0_42 := elq_75 hD hth cr_0_42
  have hK_0_43 := elq_76 hD hth cr_0_43
  have hK_0_44 := elq_77 hD hth cr_0_44
  have kz_0_32 := fdq_140 hD hth r0
  first | have hN := pcn_pos ‹PCN _ _ _ _› (by omega) ‹PCI _ _ _ _ _ _› (by omega) (by omega) | skip
  obtain ⟨x, ex, hx⟩ := iv_ex (ta := ta) (lo := (-200)) (hi := 6500) (z := (-1) + (1 * v_iv (n_v vs 4) + 0)) (by omega) (by omega) (by omega) (by omega)
  have ex2 : v_iv (Value.int x) = (-1) + (1 * v_iv (n_v vs 4) + 0) := ex
  have ex3 : (-200) ≤ v_iv (Value.int x) ∧ v_iv (Value.int x) ≤ 6500 := tv_rng hx
  have e_0 : n_v (vs ++ [Value.int x]) 0 = n_v vs 0 := n_v_old (by rw [hl]; decide)
  have e_1 : n_v (vs ++ [Value.int x]) 1 = n_v vs 1 := n_v_old (by rw [hl]; decide)
  have e_2 : n_v (vs ++ [Value.int x]) 2 = n_v vs 2 := n_v_old (by rw [hl]; decide)
  have e_6 : n_v (vs ++ [Value.int x]) 6 = Value.int x := n_v_new hl
  have nf0 : fc_1 PRD (20, [1], [60, 1, 5, 100, 32, 33, 34, 43, 42, 44]) ws (vs ++ [Value.int x]) := by
    refine ⟨nf_inA hl rfl, sgq_1149 ?_⟩
    · show PCI (w_fi ws (n_v (vs ++ [Value.int x]) 1) 32) (w_ei ws (w_ar ws (n_v (vs ++ [Value.int x]) 1) 33)) (w_ei ws (w_ar ws (n_v (vs ++ [Value.int x]) 1) 34)) (w_ei ws (w_ar ws (n_v (vs ++ [Value.int x]) 1) 43)) (w_ei ws (w_ar ws (n_v (vs ++ [Value.int x]) 1) 42)) (w_ei ws (w_ar ws (n_v (vs ++ [Value.int x]) 1) 44))
      simp only [e_1, q1]
      exact vc_Mo_pieces_6_0 (w_fi ws (n_v vs 0) 32) (w_ei ws (w_ar ws (n_v vs 0) 33)) (w_ei ws (w_ar ws (n_v vs 0) 34)) (w_ei ws (w_ar ws (n_v vs 0) 43)) (w_ei ws (w_ar ws (n_v vs 0) 42)) (w_ei ws (w_ar ws (n_v vs 0) 44)) f2 kz_0_32
  have nf1 : fc_1 PRD (20, [1, 2], [60, 1, 5, 102, 32, 33, 34, 43, 42, 44]) ws (vs ++ [Value.int x]) := by
    refine ⟨nf_inA hl rfl, sgq_1150 ?_⟩
    · show PC3 (w_fi ws (n_v (vs ++ [Value.int x]) 1) 32) (w_ei ws (w_ar ws (n_v (vs ++ [Value.int x]) 1) 33)) (w_ei ws (w_ar ws (n_v (vs ++ [Value.int x]) 1) 34)) (w_ei ws (w_ar ws (n_v (vs ++ [Value.int x]) 1) 43)) (w_ei ws (w_ar ws (n_v (vs ++ [Value.int x]) 1) 42)) (w_ei ws (w_ar ws (n_v (vs ++ [Value.int x]) 1) 44)) (v_iv (n_v (vs ++ [Value.int x]) 2))
      simp only [e_1, e_2, q1]
      exact vc_Mo_pieces_6_1 (v_iv (n_v vs 2)) (v_iv (n_v vs 3)) (v_iv (n_v vs 5)) (w_fi ws (n_v vs 0) 32) (w_ei ws (w_ar ws (n_v vs 0) 33)) (w_ei ws (w_ar ws (n_v vs 0) 34)) (w_ei ws (w_ar ws (n_v vs 0) 43)) (w_ei ws (w_ar ws (n_v vs 0) 42)) (w_ei ws (w_ar ws (n_v vs 0) 44)) k2 k3 k5 d0 f0 g1 f3 kz_0_32
  have nf2 : fc_1 PRD (20, [1, 2, 6], [60, 1, 1, 104, 32, 44]) ws (vs ++ [Value.int x]) := by
    refine ⟨nf_inA hl rfl, sgq_1151 ?_⟩
    · show PCM (w_fi ws (n_v (vs ++ [Value.int x]) 1) 32) (w_ei ws (w_ar ws (n_v (vs ++ [Value.int x]) 1) 44)) (v_iv (n_v (vs ++ [Value.int x]) 2)) (v_iv (n_v (vs ++ [Value.int x]) 6))
      simp only [e_1, e_2, e_6, q1]
      exact vc_Mo_pieces_6_2 (v_iv (n_v vs 2)) (v_iv (n_v vs 4)) (w_fi ws (n_v vs 0) 32) (w_ei ws (w_ar ws (n_v vs 0) 44)) (v_iv (Value.int x)) k2 k4 f4 kz_0_32 ex2
  have nf3 : fc_1 PRD (24, [0, 1], []) ws (vs ++ [Value.int x]) := by
    refine ⟨nf_inA hl rfl, sgq_5 ?_⟩
    · show n_v (vs ++ [Value.int x]) 0 = n_v (vs ++ [Value.int x]) 1
      first | rfl | simp only [e_0, e_1, q1]
  obtain ⟨x0, e0, _, _⟩ := tv_int t4 rfl
  have e1 : v_iv (n_v vs 4) = x0.toInt := by rw [e0]; rfl
  have ho : sy_ofs (vs ++ [Value.int x]) (6, 4, -1000000000000, -1) := by
    refine ⟨x, x0, by rw [List.getElem?_append_right (by rw [hl]; decide), hl]; rfl, ?_, ?_, ?_⟩
    · rw [List.getElem?_append_left (by rw [hl]; decide)]; exact n_v_some (by rw [hl]; decide) e0
    · show x0.toInt + (-1000000000000) ≤ x.toInt; omega
    · show x.toInt ≤ x0.toInt + (-1); omega
  exact ⟨(fun _ h => (by cases h)), [Value.int x], ag_one hx, List.forall_mem_cons.mpr ⟨⟨show (20 : Nat) < 100 from by decide, nf0⟩, List.forall_mem_cons.mpr ⟨⟨show (20 : Nat) < 100 from by decide, nf1⟩, List.forall_mem_cons.mpr ⟨⟨show (20 : Nat) < 100 from by decide, nf2⟩, List.forall_mem_cons.mpr ⟨⟨show (24 : Nat) < 100 from by decide, nf3⟩, (fun _ h => (by cases h))⟩⟩⟩⟩, List.forall_mem_cons.mpr ⟨ho, (fun _ h => (by cases h))⟩⟩
set_option maxHeartbeats 4000000 in
theorem vc_Mo_pieces_7_0 (x3 : Int) (x4 : Int) (pm_0 : Int) (pt_0 : Int → Int) (ph_0 : Int → Int) (drawnEdge_0 : Int → Int) (drawnNode_0 : Int → Int) (pieceOf_0 : Int → Int) (f2 : PCI (pm_0) (pt_0) (ph_0) (drawnEdge_0) (drawnNode_0) (pieceOf_0)) (kz_0_32 : 0 ≤ pm_0 ∧ pm_0 ≤ 80) : PCI (pm_0) (pt_0) (ph_0) (drawnEdge_0) (drawnNode_0) (pieceOf_0) := by
  first
    | assumption
    | (have v := (hE_0_44_1 x4 (by omega)).1 rfl
       have v2 := (hE_0_44_1 x3 (by omega)).2 (by omega)
       have v3 := (hE_0_44_2 x3 (by omega)).1 rfl
       exact pc_step (e := x3) (f := x4) (p := pieceOf_0 x4) ‹PCI _ _ _ _ _ _› (by omega) (by omega) (by omega) (by omega) (by omega) (by omega) (by omega) (‹SHN _ _ _ _ _ _›.mp (by omega)) (by first | exact Or.inl ⟨by omega, by omega⟩ | exact Or.inr ⟨by omega, by omega⟩) (fun j a b c => by rw [(hE_0_44_1 j a).2 c, (hE_0_44_2 j a).2 b]) (by omega) rfl)
set_option maxHeartbeats 4000000 in
theorem vc_Mo_pieces_7_1 (x2 : Int) (x3 : Int) (x4 : Int) (x6 : Int) (pt_0 : Int → Int) (ph_0 : Int → Int) (drawnEdge_0 : Int → Int) (drawnNode_0 : Int → Int) (pieceOf_0 : Int → Int) (k2 : 0 ≤ x2 ∧ x2 ≤ 1) (k3 : 0 ≤ x3 ∧ x3 ≤ 79) (k6 : 0 ≤ x6 ∧ x6 ≤ 0) (f3 : PC4 (pt_0) (ph_0) (drawnEdge_0) (drawnNode_0) (pieceOf_0) (x3) (x2)) : PC2 (pt_0) (ph_0) (drawnEdge_0) (drawnNode_0) (pieceOf_0) (x3) (x6) (x2) := by
  first
    | (have h := ‹PC4 _ _ _ _ _ _ _›; rw [show x6 = 0 by omega]; exact h)
    | (intro h0; exfalso; omega)
    | (have h := ‹PC2 _ _ _ _ _ _ _ _›
       first | rw [show x8 = x4 + 1 by omega] | rw [show x9 = x4 + 1 by omega] | rw [show x12 = x4 + 1 by omega] | rw [show x13 = x4 + 1 by omega]
       refine pc2_next h (fun _ de df hs => ?_)
       first
         | (exfalso; omega)
         | omega
         | exact absurd (‹SHN _ _ _ _ _ _›.mpr hs) (by omega))
set_option maxHeartbeats 4000000 in
theorem vc_Mo_pieces_7_2 (x2 : Int) (x3 : Int) (x4 : Int) (pm_0 : Int) (drawnEdge_0 : Int → Int) (pieceOf_0 : Int → Int) (gx : Int) (k2 : 0 ≤ x2 ∧ x2 ≤ 1) (k4 : (-200) ≤ x4 ∧ x4 ≤ 6500) (f4 : PCN (pm_0) (pieceOf_0) (x2) (x4)) (kz_0_32 : 0 ≤ pm_0 ∧ pm_0 ≤ 80) (ex2 : gx = 0 + (1 * x4 + 0)) : PCN (pm_0) (pieceOf_0) (x2) (gx) := by
  first
    | assumption
    | (have h := ‹PCN _ _ _ _›
       have hs := pc_sum (m := pm_0) (po := pieceOf_2) (po_zq := pieceOf_0) (e := x3) (f := x4) (p := pieceOf_0 x4) (dE := drawnEdge_0) (by omega) (by omega) (by omega) (by omega) (by omega) ?_ ?_ ?_ rfl
       · unfold PCN; unfold PCN at h; omega
       · have v := (hE_0_44_1 x4 (by omega)).1 rfl
         first
           | exact Or.inl ⟨by omega, by omega⟩
           | exact Or.inr ⟨by omega, by omega⟩
       · intro j a b c; rw [(hE_0_44_1 j a).2 c, (hE_0_44_2 j a).2 b]
       · have v := (hE_0_44_1 x4 (by omega)).1 rfl
         have v2 := (hE_0_44_1 x3 (by omega)).2 (by omega)
         have v3 := (hE_0_44_2 x3 (by omega)).1 rfl
         omega)
    | (have h := ‹PCN _ _ _ _›; unfold PCN; unfold PCN at h; omega)
def o_Mo_pieces_7 : or_T := (56, 7, [(0, (2, 0, 0, [165])), (1, (2, 0, 0, [165])), (2, (0, 0, 1, [])), (3, (0, 0, 79, [])), (4, (0, -200, 6500, [])), (5, (0, 1, 80, [])), (6, (0, 0, 0, []))], [(7, [3, 5], [2]), (9, [5, 1], [32]), (20, [1], [60, 1, 5, 100, 32, 33, 34, 43, 42, 44]), (20, [1, 3, 2], [60, 0, 5, 103, 33, 34, 43, 42, 44]), (20, [1, 2, 4], [60, 1, 1, 105, 32, 44]), (24, [0, 1], [])], [], [(0, -200, 6500, [])], [(20, [1], [60, 1, 5, 100, 32, 33, 34, 43, 42, 44]), (20, [1, 3, 6, 2], [60, 0, 5, 101, 33, 34, 43, 42, 44]), (20, [1, 2, 7], [60, 1, 1, 105, 32, 44]), (20, [3, 1], [30, -1, 1, 0, 0, -1, 1, 32]), (24, [0, 1], [])], [(7, 4, 0, 0)], [(3, 5, -4294967296, -1), (2, 3, -4294967296, 0)])
theorem oo_Mo_pieces_7 {kA : Nat → ClassId} : or_ok PRD kA GG o_Mo_pieces_7 := by
  refine or_mk fun A ta ws vs hD hth hl => ?_
  intro t0 r0 t1 r1 t2 k2 t3 k3 t4 k4 t5 k5 t6 k6 d0 d1 f0 f1 f2 f3 f4 f5
  replace f0 := shm_6 f0
  replace f1 := shm_525 f1
  replace f2 := shm_1149 f2
  replace f3 := shm_1152 f3
  replace f4 := shm_1153 f4
  replace f5 := shm_5 f5
  have q1 : n_v vs 1 = n_v vs 0 := f5.symm
  simp only [q1] at f1 f2 f3 f4
  have cr_0_33 := fdq_117 hD hth r0
  have cr_0_34 := fdq_118 hD hth r0
  have cr_0_42 := fdq_136 hD hth r0
  have cr_0_43 := fdq_137 hD hth r0
  have cr_0_44 := fdq_138 hD hth r0
  have g1 : v_iv (n_v vs 5) = w_fi ws (n_v vs 0) 32 := congrArg v_iv f1
  have hK_0_33 := elq_60 hD hth cr_0_33
  have hK_0_34 := elq_61 hD hth cr_0_34
  have hK_0_42 := elq_75 hD hth cr_0_42
  have hK_0_43 := elq_76 hD hth cr_0_43
  have hK_0_44 := elq_77 hD hth cr_0_44
  have kz_0_32 := fdq_140 hD hth r0
  obtain ⟨x, ex, hx⟩ := iv_ex (ta := ta) (lo := (-200)) (hi := 6500) (z := 0 + (1 * v_iv (n_v vs 4) + 0)) (by omega) (by omega) (by omega) (by omega)
  have ex2 : v_iv (Value.int x) = 0 + (1 * v_iv (n_v vs 4) + 0) := ex
  have ex3 : (-200) ≤ v_iv (Value.int x) ∧ v_iv (Value.int x) ≤ 6500 := tv_rng hx
  have e_0 : n_v (vs ++ [Value.int x]) 0 = n_v vs 0 := n_v_old (by rw [hl]; decide)
  have e_1 : n_v (vs ++ [Value.int x]) 1 = n_v vs 1 := n_v_old (by rw [hl]; decide)
  have e_2 : n_v (vs ++ [Value.int x]) 2 = n_v vs 2 := n_v_old (by rw [hl]; decide)
  have e_3 : n_v (vs ++ [Value.int x]) 3 = n_v vs 3 := n_v_old (by rw [hl]; decide)
  have e_6 : n_v (vs ++ [Value.int x]) 6 = n_v vs 6 := n_v_old (by rw [hl]; decide)
  have e_7 : n_v (vs ++ [Value.int x]) 7 = Value.int x := n_v_new hl
  have nf0 : fc_1 PRD (20, [1], [60, 1, 5, 100, 32, 33, 34, 43, 42, 44]) ws (vs ++ [Value.int x]) := by
    refine ⟨nf_inA hl rfl, sgq_1149 ?_⟩
    · show PCI (w_fi ws (n_v (vs ++ [Value.int x]) 1) 32) (w_ei ws (w_ar ws (n_v (vs ++ [Value.int x]) 1) 33)) (w_ei ws (w_ar ws (n_v (vs ++ [Value.int x]) 1) 34)) (w_ei ws (w_ar ws (n_v (vs ++ [Value.int x]) 1) 43)) (w_ei ws (w_ar ws (n_v (vs ++ [Value.int x]) 1) 42)) (w_ei ws (w_ar ws (n_v (vs ++ [Value.int x]) 1) 44))
      simp only [e_1, q1]
      exact vc_Mo_pieces_7_0 (v_iv (n_v vs 3)) (v_iv (n_v vs 4)) (w_fi ws (n_v vs 0) 32) (w_ei ws (w_ar ws (n_v vs 0) 33)) (w_ei ws (w_ar ws (n_v vs 0) 34)) (w_ei ws (w_ar ws (n_v vs 0) 43)) (w_ei ws (w_ar ws (n_v vs 0) 42)) (w_ei ws (w_ar ws (n_v vs 0) 44)) f2 kz_0_32
  have nf1 : fc_1 PRD (20, [1, 3, 6, 2], [60, 0, 5, 101, 33, 34, 43, 42, 44]) ws (vs ++ [Value.int x]) := by
    refine ⟨nf_inA hl rfl, sgq_1154 ?_⟩
    · show PC2 (w_ei ws (w_ar ws (n_v (vs ++ [Value.int x]) 1) 33)) (w_ei ws (w_ar ws (n_v (vs ++ [Value.int x]) 1) 34)) (w_ei ws (w_ar ws (n_v (vs ++ [Value.int x]) 1) 43)) (w_ei ws (w_ar ws (n_v (vs ++ [Value.int x]) 1) 42)) (w_ei ws (w_ar ws (n_v (vs ++ [Value.int x]) 1) 44)) (v_iv (n_v (vs ++ [Value.int x]) 3)) (v_iv (n_v (vs ++ [Value.int x]) 6)) (v_iv (n_v (vs ++ [Value.int x]) 2))
      simp only [e_1, e_2, e_3, e_6, q1]
      exact vc_Mo_pieces_7_1 (v_iv (n_v vs 2)) (v_iv (n_v vs 3)) (v_iv (n_v vs 4)) (v_iv (n_v vs 6)) (w_ei ws (w_ar ws (n_v vs 0) 33)) (w_ei ws (w_ar ws (n_v vs 0) 34)) (w_ei ws (w_ar ws (n_v vs 0) 43)) (w_ei ws (w_ar ws (n_v vs 0) 42)) (w_ei ws (w_ar ws (n_v vs 0) 44)) k2 k3 k6 f3
  have nf2 : fc_1 PRD (20, [1, 2, 7], [60, 1, 1, 105, 32, 44]) ws (vs ++ [Value.int x]) := by
    refine ⟨nf_inA hl rfl, sgq_1153 ?_⟩
    · show PCN (w_fi ws (n_v (vs ++ [Value.int x]) 1) 32) (w_ei ws (w_ar ws (n_v (vs ++ [Value.int x]) 1) 44)) (v_iv (n_v (vs ++ [Value.int x]) 2)) (v_iv (n_v (vs ++ [Value.int x]) 7))
      simp only [e_1, e_2, e_7, q1]
      exact vc_Mo_pieces_7_2 (v_iv (n_v vs 2)) (v_iv (n_v vs 3)) (v_iv (n_v vs 4)) (w_fi ws (n_v vs 0) 32) (w_ei ws (w_ar ws (n_v vs 0) 43)) (w_ei ws (w_ar ws (n_v vs 0) 44)) (v_iv (Value.int x)) k2 k4 f4 kz_0_32 ex2
  have nf3 : fc_1 PRD (20, [3, 1], [30, -1, 1, 0, 0, -1, 1, 32]) ws (vs ++ [Value.int x]) := by
    refine ⟨nf_inA hl rfl, sgq_975 ?_⟩
    · show 1 * v_iv (n_v (vs ++ [Value.int x]) 3) + ((-1) * w_fi ws (n_v (vs ++ [Value.int x]) 1) 32 + 0) ≤ (-1)
      simp only [e_1, e_3, q1]
      omega
  have nf4 : fc_1 PRD (24, [0, 1], []) ws (vs ++ [Value.int x]) := by
    refine ⟨nf_inA hl rfl, sgq_5 ?_⟩
    · show n_v (vs ++ [Value.int x]) 0 = n_v (vs ++ [Value.int x]) 1
      first | rfl | simp only [e_0, e_1, q1]
  obtain ⟨x0, e0, _, _⟩ := tv_int t4 rfl
  have e1 : v_iv (n_v vs 4) = x0.toInt := by rw [e0]; rfl
  have ho : sy_ofs (vs ++ [Value.int x]) (7, 4, 0, 0) := by
    refine ⟨x, x0, by rw [List.getElem?_append_right (by rw [hl]; decide), hl]; rfl, ?_, ?_, ?_⟩
    · rw [List.getElem?_append_left (by rw [hl]; decide)]; exact n_v_some (by rw [hl]; decide) e0
    · show x0.toInt + 0 ≤ x.toInt; omega
    · show x.toInt ≤ x0.toInt + 0; omega
  exact ⟨(fun _ h => (by cases h)), [Value.int x], ag_one hx, List.forall_mem_cons.mpr ⟨⟨show (20 : Nat) < 100 from by decide, nf0⟩, List.forall_mem_cons.mpr ⟨⟨show (20 : Nat) < 100 from by decide, nf1⟩, List.forall_mem_cons.mpr ⟨⟨show (20 : Nat) < 100 from by decide, nf2⟩, List.forall_mem_cons.mpr ⟨⟨show (20 : Nat) < 100 from by decide, nf3⟩, List.forall_mem_cons.mpr ⟨⟨show (24 : Nat) < 100 from by decide, nf4⟩, (fun _ h => (by cases h))⟩⟩⟩⟩⟩, List.forall_mem_cons.mpr ⟨ho, (fun _ h => (by cases h))⟩⟩
set_option maxHeartbeats 4000000 in
theorem vc_Mo_pieces_8_0 (pt_0 : Int → Int) (ph_0 : Int → Int) (drawnEdge_0 : Int → Int) (drawnNode_0 : Int → Int) (pieceOf_0 : Int → Int) (pm_0 : Int) (f2 : PCI (pm_0) (pt_0) (ph_0) (drawnEdge_0) (drawnNode_0) (pieceOf_0)) (kz_0_32 : 0 ≤ pm_0 ∧ pm_0 ≤ 80) : PCI (pm_0) (pt_0) (ph_0) (drawnEdge_0) (drawnNode_0) (pieceOf_0) := by
  first | assumption
set_option maxHeartbeats 4000000 in
theorem vc_Mo_pieces_8_1 (x2 : Int) (x3 : Int) (x4 : Int) (x6 : Int) (pt_0 : Int → Int) (ph_0 : Int → Int) (drawnEdge_0 : Int → Int) (drawnNode_0 : Int → Int) (pieceOf_0 : Int → Int) (k2 : 0 ≤ x2 ∧ x2 ≤ 1) (k3 : 0 ≤ x3 ∧ x3 ≤ 79) (k4 : 0 ≤ x4 ∧ x4 ≤ 79) (k6 : 1 ≤ x6 ∧ x6 ≤ 80) (f0 : x6 = x3 + 1) (f1 : x3 ≤ x4) (f3 : PC2 (pt_0) (ph_0) (drawnEdge_0) (drawnNode_0) (pieceOf_0) (x3) (x4) (x2)) : PC4 (pt_0) (ph_0) (drawnEdge_0) (drawnNode_0) (pieceOf_0) (x6) (x2) := by
  first
    | (intro h0 e_zq f_zq f0 hfe hlt; exfalso; omega)
    | (have h := ‹PC2 _ _ _ _ _ _ _ _›
       first | rw [show x6 = x3 + 1 by omega] | rw [show x7 = x3 + 1 by omega]
       exact pc2_up h (by omega))
set_option maxHeartbeats 4000000 in
theorem vc_Mo_pieces_8_2 (x2 : Int) (x5 : Int) (pieceOf_0 : Int → Int) (pm_0 : Int) (gx : Int) (k2 : 0 ≤ x2 ∧ x2 ≤ 1) (k5 : (-200) ≤ x5 ∧ x5 ≤ 6500) (f4 : PCN (pm_0) (pieceOf_0) (x2) (x5)) (kz_0_32 : 0 ≤ pm_0 ∧ pm_0 ≤ 80) (ex2 : gx = 0 + (1 * x5 + 0)) : PCN (pm_0) (pieceOf_0) (x2) (gx) := by
  first
    | (have h := ‹PCM _ _ _ _›; unfold PCN; unfold PCM at h; omega)
    | (have h := ‹PCN _ _ _ _›; unfold PCN; unfold PCN at h; omega)
def o_Mo_pieces_8 : or_T := (46, 7, [(0, (2, 0, 0, [165])), (1, (2, 0, 0, [165])), (2, (0, 0, 1, [])), (3, (0, 0, 79, [])), (4, (0, 0, 79, [])), (5, (0, -200, 6500, [])), (6, (0, 1, 80, []))], [(6, [6, 3], [1]), (7, [4, 3], [3]), (20, [1], [60, 1, 5, 100, 32, 33, 34, 43, 42, 44]), (20, [1, 3, 4, 2], [60, 0, 5, 101, 33, 34, 43, 42, 44]), (20, [1, 2, 5], [60, 1, 1, 105, 32, 44]), (20, [3, 1], [30, -1, 1, 0, 0, -1, 1, 32]), (24, [0, 1], [])], [], [(0, -200, 6500, [])], [(20, [1], [60, 1, 5, 100, 32, 33, 34, 43, 42, 44]), (20, [1, 6, 2], [60, 0, 5, 103, 33, 34, 43, 42, 44]), (20, [1, 2, 7], [60, 1, 1, 105, 32, 44]), (24, [0, 1], [])], [(7, 5, 0, 0)], [(6, 3, 1, 1), (4, 3, 0, 4294967296), (2, 3, -4294967296, 0), (4, 3, -4294967296, 0)])
theorem oo_Mo_pieces_8 {kA : Nat → ClassId} : or_ok PRD kA GG o_Mo_pieces_8 := by
  refine or_mk fun A ta ws vs hD hth hl => ?_
  intro t0 r0 t1 r1 t2 k2 t3 k3 t4 k4 t5 k5 t6 k6 d0 d1 d2 d3 f0 f1 f2 f3 f4 f5 f6
  replace f0 := shm_4 f0
  replace f1 := shm_2 f1
  replace f2 := shm_1149 f2
  replace f3 := shm_1154 f3
  replace f4 := shm_1153 f4
  replace f5 := shm_975 f5
  replace f6 := shm_5 f6
  have q1 : n_v vs 1 = n_v vs 0 := f6.symm
  simp only [q1] at f2 f3 f4 f5
  have cr_0_33 := fdq_117 hD hth r0
  have cr_0_34 := fdq_118 hD hth r0
  have cr_0_42 := fdq_136 hD hth r0
  have cr_0_43 := fdq_137 hD hth r0
  have cr_0_44 := fdq_138 hD hth r0
  have hK_0_33 := elq_60 hD hth cr_0_33
  have hK_0_34 := elq_61 hD hth cr_0_34
  have hK_0_42 := elq_75 hD hth cr_0_42
  have hK_0_43 := elq_76 hD hth cr_0_43
  have hK_0_44 := elq_77 hD hth cr_0_44
  have kz_0_32 := fdq_140 hD hth r0
  obtain ⟨x, ex, hx⟩ := iv_ex (ta := ta) (lo := (-200)) (hi := 6500) (z := 0 + (1 * v_iv (n_v vs 5) + 0)) (by omega) (by omega) (by omega) (by omega)
  have ex2 : v_iv (Value.int x) = 0 + (1 * v_iv (n_v vs 5) + 0) := ex
  have ex3 : (-200) ≤ v_iv (Value.int x) ∧ v_iv (Value.int x) ≤ 6500 := tv_rng hx
  have e_0 : n_v (vs ++ [Value.int x]) 0 = n_v vs 0 := n_v_old (by rw [hl]; decide)
  have e_1 : n_v (vs ++ [Value.int x]) 1 = n_v vs 1 := n_v_old (by rw [hl]; decide)
  have e_2 : n_v (vs ++ [Value.int x]) 2 = n_v vs 2 := n_v_old (by rw [hl]; decide)
  have e_6 : n_v (vs ++ [Value.int x]) 6 = n_v vs 6 := n_v_old (by rw [hl]; decide)
  have e_7 : n_v (vs ++ [Value.int x]) 7 = Value.int x := n_v_new hl
  have nf0 : fc_1 PRD (20, [1], [60, 1, 5, 100, 32, 33, 34, 43, 42, 44]) ws (vs ++ [Value.int x]) := by
    refine ⟨nf_inA hl rfl, sgq_1149 ?_⟩
    · show PCI (w_fi ws (n_v (vs ++ [Value.int x]) 1) 32) (w_ei ws (w_ar ws (n_v (vs ++ [Value.int x]) 1) 33)) (w_ei ws (w_ar ws (n_v (vs ++ [Value.int x]) 1) 34)) (w_ei ws (w_ar ws (n_v (vs ++ [Value.int x]) 1) 43)) (w_ei ws (w_ar ws (n_v (vs ++ [Value.int x]) 1) 42)) (w_ei ws (w_ar ws (n_v (vs ++ [Value.int x]) 1) 44))
      simp only [e_1, q1]
      exact vc_Mo_pieces_8_0 (w_ei ws (w_ar ws (n_v vs 0) 33)) (w_ei ws (w_ar ws (n_v vs 0) 34)) (w_ei ws (w_ar ws (n_v vs 0) 43)) (w_ei ws (w_ar ws (n_v vs 0) 42)) (w_ei ws (w_ar ws (n_v vs 0) 44)) (w_fi ws (n_v vs 0) 32) f2 kz_0_32
  have nf1 : fc_1 PRD (20, [1, 6, 2], [60, 0, 5, 103, 33, 34, 43, 42, 44]) ws (vs ++ [Value.int x]) := by
    refine ⟨nf_inA hl rfl, sgq_1152 ?_⟩
    · show PC4 (w_ei ws (w_ar ws (n_v (vs ++ [Value.int x]) 1) 33)) (w_ei ws (w_ar ws (n_v (vs ++ [Value.int x]) 1) 34)) (w_ei ws (w_ar ws (n_v (vs ++ [Value.int x]) 1) 43)) (w_ei ws (w_ar ws (n_v (vs ++ [Value.int x]) 1) 42)) (w_ei ws (w_ar ws (n_v (vs ++ [Value.int x]) 1) 44)) (v_iv (n_v (vs ++ [Value.int x]) 6)) (v_iv (n_v (vs ++ [Value.int x]) 2))
      simp only [e_1, e_2, e_6, q1]
      exact vc_Mo_pieces_8_1 (v_iv (n_v vs 2)) (v_iv (n_v vs 3)) (v_iv (n_v vs 4)) (v_iv (n_v vs 6)) (w_ei ws (w_ar ws (n_v vs 0) 33)) (w_ei ws (w_ar ws (n_v vs 0) 34)) (w_ei ws (w_ar ws (n_v vs 0) 43)) (w_ei ws (w_ar ws (n_v vs 0) 42)) (w_ei ws (w_ar ws (n_v vs 0) 44)) k2 k3 k4 k6 f0 f1 f3
  have nf2 : fc_1 PRD (20, [1, 2, 7], [60, 1, 1, 105, 32, 44]) ws (vs ++ [Value.int x]) := by
    refine ⟨nf_inA hl rfl, sgq_1153 ?_⟩
    · show PCN (w_fi ws (n_v (vs ++ [Value.int x]) 1) 32) (w_ei ws (w_ar ws (n_v (vs ++ [Value.int x]) 1) 44)) (v_iv (n_v (vs ++ [Value.int x]) 2)) (v_iv (n_v (vs ++ [Value.int x]) 7))
      simp only [e_1, e_2, e_7, q1]
      exact vc_Mo_pieces_8_2 (v_iv (n_v vs 2)) (v_iv (n_v vs 5)) (w_ei ws (w_ar ws (n_v vs 0) 44)) (w_fi ws (n_v vs 0) 32) (v_iv (Value.int x)) k2 k5 f4 kz_0_32 ex2
  have nf3 : fc_1 PRD (24, [0, 1], []) ws (vs ++ [Value.int x]) := by
    refine ⟨nf_inA hl rfl, sgq_5 ?_⟩
    · show n_v (vs ++ [Value.int x]) 0 = n_v (vs ++ [Value.int x]) 1
      first | rfl | simp only [e_0, e_1, q1]
  obtain ⟨x0, e0, _, _⟩ := tv_int t5 rfl
  have e1 : v_iv (n_v vs 5) = x0.toInt := by rw [e0]; rfl
  have ho : sy_ofs (vs ++ [Value.int x]) (7, 5, 0, 0) := by
    refine ⟨x, x0, by rw [List.getElem?_append_right (by rw [hl]; decide), hl]; rfl, ?_, ?_, ?_⟩
    · rw [List.getElem?_append_left (by rw [hl]; decide)]; exact n_v_some (by rw [hl]; decide) e0
    · show x0.toInt + 0 ≤ x.toInt; omega
    · show x.toInt ≤ x0.toInt + 0; omega
  exact ⟨(fun _ h => (by cases h)), [Value.int x], ag_one hx, List.forall_mem_cons.mpr ⟨⟨show (20 : Nat) < 100 from by decide, nf0⟩, List.forall_mem_cons.mpr ⟨⟨show (20 : Nat) < 100 from by decide, nf1⟩, List.forall_mem_cons.mpr ⟨⟨show (20 : Nat) < 100 from by decide, nf2⟩, List.forall_mem_cons.mpr ⟨⟨show (24 : Nat) < 100 from by decide, nf3⟩, (fun _ h => (by cases h))⟩⟩⟩⟩, List.forall_mem_cons.mpr ⟨ho, (fun _ h => (by cases h))⟩⟩
set_option maxHeartbeats 4000000 in
theorem vc_Mo_pieces_9_0 (x2 : Int) (x3 : Int) (x4 : Int) (x7 : Int) (x8 : Int) (drawnEdge_0 : Int → Int) (pt_0 : Int → Int) (ph_0 : Int → Int) (drawnNode_0 : Int → Int) (pieceOf_0 : Int → Int) (k2 : 0 ≤ x2 ∧ x2 ≤ 1) (k3 : 1 ≤ x3 ∧ x3 ≤ 79) (k4 : 0 ≤ x4 ∧ x4 ≤ 78) (k7 : 1 ≤ x7 ∧ x7 ≤ 1) (k8 : 1 ≤ x8 ∧ x8 ≤ 79) (f0 : x8 = x4 + 1) (h2 : x7 = drawnEdge_0 (x3)) (f6 : PC2 (pt_0) (ph_0) (drawnEdge_0) (drawnNode_0) (pieceOf_0) (x3) (x4) (x2)) : PC2 (pt_0) (ph_0) (drawnEdge_0) (drawnNode_0) (pieceOf_0) (x3) (x8) (x2) := by
  first
    | (have h := ‹PC4 _ _ _ _ _ _ _›; rw [show x6 = 0 by omega]; exact h)
    | (intro h0; exfalso; omega)
    | (have h := ‹PC2 _ _ _ _ _ _ _ _›
       first | rw [show x8 = x4 + 1 by omega] | rw [show x9 = x4 + 1 by omega] | rw [show x12 = x4 + 1 by omega] | rw [show x13 = x4 + 1 by omega]
       refine pc2_next h (fun _ de df hs => ?_)
       first
         | (exfalso; omega)
         | omega
         | exact absurd (‹SHN _ _ _ _ _ _›.mpr hs) (by omega))
def o_Mo_pieces_9 : or_T := (56, 9, [(2, (0, 0, 1, [])), (3, (0, 1, 79, [])), (4, (0, 0, 78, [])), (7, (0, 1, 1, [])), (8, (0, 1, 79, []))], [(6, [8, 4], [1]), (10, [7, 6, 3], []), (9, [6, 1], [43]), (20, [1, 3, 4, 2], [60, 0, 5, 101, 33, 34, 43, 42, 44]), (24, [0, 1], [])], [], [], [(20, [1, 3, 8, 2], [60, 0, 5, 101, 33, 34, 43, 42, 44])], [], [])
theorem oo_Mo_pieces_9 {kA : Nat → ClassId} : or_ok PRD kA GG o_Mo_pieces_9 := by
  refine or_mk fun A ta ws vs hD hth hl => ?_
  intro t2 k2 t3 k3 t4 k4 t7 k7 t8 k8 f0 f2 f3 f6 f9
  replace f0 := shm_4 f0
  replace f2 := shm_107 f2
  replace f3 := shm_532 f3
  replace f6 := shm_1154 f6
  replace f9 := shm_5 f9
  have q1 : n_v vs 1 = n_v vs 0 := f9.symm
  simp only [q1] at f3 f6
  have ad_6 : v_ad (n_v vs 6) = w_ar ws (n_v vs 0) 43 := congrArg v_ad f3
  simp only [ad_6] at f2
  have h2 : v_iv (n_v vs 7) = w_ei ws (w_ar ws (n_v vs 0) 43) (v_iv (n_v vs 3)) := f2
  have nf0 : fc_1 PRD (20, [1, 3, 8, 2], [60, 0, 5, 101, 33, 34, 43, 42, 44]) ws (vs) := by
    refine ⟨nf_in hl rfl, sgq_1154 ?_⟩
    · show PC2 (w_ei ws (w_ar ws (n_v vs 1) 33)) (w_ei ws (w_ar ws (n_v vs 1) 34)) (w_ei ws (w_ar ws (n_v vs 1) 43)) (w_ei ws (w_ar ws (n_v vs 1) 42)) (w_ei ws (w_ar ws (n_v vs 1) 44)) (v_iv (n_v vs 3)) (v_iv (n_v vs 8)) (v_iv (n_v vs 2))
      rw [q1]
      exact vc_Mo_pieces_9_0 (v_iv (n_v vs 2)) (v_iv (n_v vs 3)) (v_iv (n_v vs 4)) (v_iv (n_v vs 7)) (v_iv (n_v vs 8)) (w_ei ws (w_ar ws (n_v vs 0) 43)) (w_ei ws (w_ar ws (n_v vs 0) 33)) (w_ei ws (w_ar ws (n_v vs 0) 34)) (w_ei ws (w_ar ws (n_v vs 0) 42)) (w_ei ws (w_ar ws (n_v vs 0) 44)) k2 k3 k4 k7 k8 f0 h2 f6
  refine ⟨(fun _ h => (by cases h)), [], trivial, ?_, (fun _ h => (by cases h))⟩
  rw [List.append_nil]
  exact List.forall_mem_cons.mpr ⟨⟨show (20 : Nat) < 100 from by decide, nf0⟩, (fun _ h => (by cases h))⟩
set_option maxHeartbeats 4000000 in
theorem vc_Mo_pieces_10_0 (x2 : Int) (x3 : Int) (x4 : Int) (x8 : Int) (x9 : Int) (drawnEdge_0 : Int → Int) (pt_0 : Int → Int) (ph_0 : Int → Int) (drawnNode_0 : Int → Int) (pieceOf_0 : Int → Int) (k2 : 0 ≤ x2 ∧ x2 ≤ 1) (k3 : 1 ≤ x3 ∧ x3 ≤ 79) (k4 : 0 ≤ x4 ∧ x4 ≤ 78) (k8 : 1 ≤ x8 ∧ x8 ≤ 1) (k9 : 1 ≤ x9 ∧ x9 ≤ 79) (f0 : x9 = x4 + 1) (h2 : x8 = drawnEdge_0 (x4)) (f8 : PC2 (pt_0) (ph_0) (drawnEdge_0) (drawnNode_0) (pieceOf_0) (x3) (x4) (x2)) : PC2 (pt_0) (ph_0) (drawnEdge_0) (drawnNode_0) (pieceOf_0) (x3) (x9) (x2) := by
  first
    | (have h := ‹PC4 _ _ _ _ _ _ _›; rw [show x6 = 0 by omega]; exact h)
    | (intro h0; exfalso; omega)
    | (have h := ‹PC2 _ _ _ _ _ _ _ _›
       first | rw [show x8 = x4 + 1 by omega] | rw [show x9 = x4 + 1 by omega] | rw [show x12 = x4 + 1 by omega] | rw [show x13 = x4 + 1 by omega]
       refine pc2_next h (fun _ de df hs => ?_)
       first
         | (exfalso; omega)
         | omega
         | exact absurd (‹SHN _ _ _ _ _ _›.mpr hs) (by omega))
def o_Mo_pieces_10 : or_T := (56, 10, [(2, (0, 0, 1, [])), (3, (0, 1, 79, [])), (4, (0, 0, 78, [])), (8, (0, 1, 1, [])), (9, (0, 1, 79, []))], [(6, [9, 4], [1]), (10, [8, 6, 4], []), (9, [6, 1], [43]), (20, [1, 3, 4, 2], [60, 0, 5, 101, 33, 34, 43, 42, 44]), (24, [0, 1], [])], [], [], [(20, [1, 3, 9, 2], [60, 0, 5, 101, 33, 34, 43, 42, 44])], [], [])
theorem oo_Mo_pieces_10 {kA : Nat → ClassId} : or_ok PRD kA GG o_Mo_pieces_10 := by
  refine or_mk fun A ta ws vs hD hth hl => ?_
  intro t2 k2 t3 k3 t4 k4 t8 k8 t9 k9 f0 f2 f3 f8 f11
  replace f0 := shm_4 f0
  replace f2 := shm_107 f2
  replace f3 := shm_532 f3
  replace f8 := shm_1154 f8
  replace f11 := shm_5 f11
  have q1 : n_v vs 1 = n_v vs 0 := f11.symm
  simp only [q1] at f3 f8
  have ad_6 : v_ad (n_v vs 6) = w_ar ws (n_v vs 0) 43 := congrArg v_ad f3
  simp only [ad_6] at f2
  have h2 : v_iv (n_v vs 8) = w_ei ws (w_ar ws (n_v vs 0) 43) (v_iv (n_v vs 4)) := f2
  have nf0 : fc_1 PRD (20, [1, 3, 9, 2], [60, 0, 5, 101, 33, 34, 43, 42, 44]) ws (vs) := by
    refine ⟨nf_in hl rfl, sgq_1154 ?_⟩
    · show PC2 (w_ei ws (w_ar ws (n_v vs 1) 33)) (w_ei ws (w_ar ws (n_v vs 1) 34)) (w_ei ws (w_ar ws (n_v vs 1) 43)) (w_ei ws (w_ar ws (n_v vs 1) 42)) (w_ei ws (w_ar ws (n_v vs 1) 44)) (v_iv (n_v vs 3)) (v_iv (n_v vs 9)) (v_iv (n_v vs 2))
      rw [q1]
      exact vc_Mo_pieces_10_0 (v_iv (n_v vs 2)) (v_iv (n_v vs 3)) (v_iv (n_v vs 4)) (v_iv (n_v vs 8)) (v_iv (n_v vs 9)) (w_ei ws (w_ar ws (n_v vs 0) 43)) (w_ei ws (w_ar ws (n_v vs 0) 33)) (w_ei ws (w_ar ws (n_v vs 0) 34)) (w_ei ws (w_ar ws (n_v vs 0) 42)) (w_ei ws (w_ar ws (n_v vs 0) 44)) k2 k3 k4 k8 k9 f0 h2 f8
  refine ⟨(fun _ h => (by cases h)), [], trivial, ?_, (fun _ h => (by cases h))⟩
  rw [List.append_nil]
  exact List.forall_mem_cons.mpr ⟨⟨show (20 : Nat) < 100 from by decide, nf0⟩, (fun _ h => (by cases h))⟩
set_option maxHeartbeats 4000000 in
theorem vc_Mo_pieces_11_0 (x2 : Int) (x3 : Int) (x4 : Int) (x8 : Int) (x10 : Int) (x11 : Int) (x12 : Int) (pieceOf_0 : Int → Int) (drawnEdge_0 : Int → Int) (pt_0 : Int → Int) (ph_0 : Int → Int) (drawnNode_0 : Int → Int) (k2 : 0 ≤ x2 ∧ x2 ≤ 1) (k3 : 1 ≤ x3 ∧ x3 ≤ 79) (k4 : 0 ≤ x4 ∧ x4 ≤ 78) (k10 : (-1) ≤ x10 ∧ x10 ≤ 79) (k11 : (-1) ≤ x11 ∧ x11 ≤ 79) (k12 : 1 ≤ x12 ∧ x12 ≤ 79) (d3 : x11 + 0 ≤ x10 ∧ x10 ≤ x11 + 0) (f0 : x12 = x4 + 1) (h2 : x11 = pieceOf_0 (x4)) (h4 : x10 = pieceOf_0 (x3)) (f12 : PC2 (pt_0) (ph_0) (drawnEdge_0) (drawnNode_0) (pieceOf_0) (x3) (x4) (x2)) : PC2 (pt_0) (ph_0) (drawnEdge_0) (drawnNode_0) (pieceOf_0) (x3) (x12) (x2) := by
  first
    | (have h := ‹PC4 _ _ _ _ _ _ _›; rw [show x6 = 0 by omega]; exact h)
    | (intro h0; exfalso; omega)
    | (have h := ‹PC2 _ _ _ _ _ _ _ _›
       first | rw [show x8 = x4 + 1 by omega] | rw [show x9 = x4 + 1 by omega] | rw [show x12 = x4 + 1 by omega] | rw [show x13 = x4 + 1 by omega]
       refine pc2_next h (fun _ de df hs => ?_)
       first
         | (exfalso; omega)
         | omega
         | exact absurd (‹SHN _ _ _ _ _ _›.mpr hs) (by omega))
def o_Mo_pieces_11 : or_T := (56, 13, [(2, (0, 0, 1, [])), (3, (0, 1, 79, [])), (4, (0, 0, 78, [])), (10, (0, -1, 79, [])), (11, (0, -1, 79, [])), (12, (0, 1, 79, []))], [(6, [12, 4], [1]), (10, [11, 9, 4], []), (9, [9, 1], [44]), (10, [10, 9, 3], []), (20, [1, 3, 4, 2], [60, 0, 5, 101, 33, 34, 43, 42, 44]), (24, [0, 1], [])], [], [], [(20, [1, 3, 12, 2], [60, 0, 5, 101, 33, 34, 43, 42, 44])], [], [(10, 11, 0, 0)])
theorem oo_Mo_pieces_11 {kA : Nat → ClassId} : or_ok PRD kA GG o_Mo_pieces_11 := by
  refine or_mk fun A ta ws vs hD hth hl => ?_
  intro t2 k2 t3 k3 t4 k4 t10 k10 t11 k11 t12 k12 d3 f0 f2 f3 f4 f12 f15
  replace f0 := shm_4 f0
  replace f2 := shm_107 f2
  replace f3 := shm_533 f3
  replace f4 := shm_107 f4
  replace f12 := shm_1154 f12
  replace f15 := shm_5 f15
  have q1 : n_v vs 1 = n_v vs 0 := f15.symm
  simp only [q1] at f3 f12
  have ad_9 : v_ad (n_v vs 9) = w_ar ws (n_v vs 0) 44 := congrArg v_ad f3
  simp only [ad_9] at f2
  have h2 : v_iv (n_v vs 11) = w_ei ws (w_ar ws (n_v vs 0) 44) (v_iv (n_v vs 4)) := f2
  simp only [ad_9] at f4
  have h4 : v_iv (n_v vs 10) = w_ei ws (w_ar ws (n_v vs 0) 44) (v_iv (n_v vs 3)) := f4
  have nf0 : fc_1 PRD (20, [1, 3, 12, 2], [60, 0, 5, 101, 33, 34, 43, 42, 44]) ws (vs) := by
    refine ⟨nf_in hl rfl, sgq_1154 ?_⟩
    · show PC2 (w_ei ws (w_ar ws (n_v vs 1) 33)) (w_ei ws (w_ar ws (n_v vs 1) 34)) (w_ei ws (w_ar ws (n_v vs 1) 43)) (w_ei ws (w_ar ws (n_v vs 1) 42)) (w_ei ws (w_ar ws (n_v vs 1) 44)) (v_iv (n_v vs 3)) (v_iv (n_v vs 12)) (v_iv (n_v vs 2))
      rw [q1]
      exact vc_Mo_pieces_11_0 (v_iv (n_v vs 2)) (v_iv (n_v vs 3)) (v_iv (n_v vs 4)) (v_iv (n_v vs 8)) (v_iv (n_v vs 10)) (v_iv (n_v vs 11)) (v_iv (n_v vs 12)) (w_ei ws (w_ar ws (n_v vs 0) 44)) (w_ei ws (w_ar ws (n_v vs 0) 43)) (w_ei ws (w_ar ws (n_v vs 0) 33)) (w_ei ws (w_ar ws (n_v vs 0) 34)) (w_ei ws (w_ar ws (n_v vs 0) 42)) k2 k3 k4 k10 k11 k12 d3 f0 h2 h4 f12
  refine ⟨(fun _ h => (by cases h)), [], trivial, ?_, (fun _ h => (by cases h))⟩
  rw [List.append_nil]
  exact List.forall_mem_cons.mpr ⟨⟨show (20 : Nat) < 100 from by decide, nf0⟩, (fun _ h => (by cases h))⟩
set_option maxHeartbeats 4000000 in
theorem vc_Mo_pieces_12_0 (x3 : Int) (x4 : Int) (x7 : Int) (x8 : Int) (x10 : Int) (x11 : Int) (x12 : Int) (x13 : Int) (x14 : Int) (x16 : Int) (pt_0 : Int → Int) (ph_0 : Int → Int) (drawnNode_0 : Int → Int) (pm_0 : Int) (pt_1 : Int → Int) (ph_1 : Int → Int) (drawnNode_1 : Int → Int) (pm_1 : Int) (pieceOf_2 : Int → Int) (pt_2 : Int → Int) (ph_2 : Int → Int) (drawnNode_2 : Int → Int) (drawnEdge_2 : Int → Int) (pm_2 : Int) (drawnEdge_0 : Int → Int) (drawnEdge_1 : Int → Int) (pieceOf_0 : Int → Int) (pieceOf_1 : Int → Int) (k3 : 1 ≤ x3 ∧ x3 ≤ 79) (k4 : 0 ≤ x4 ∧ x4 ≤ 78) (k7 : 0 ≤ x7 ∧ x7 ≤ 0) (k8 : 0 ≤ x8 ∧ x8 ≤ 0) (k10 : (-1) ≤ x10 ∧ x10 ≤ 79) (k11 : (-1) ≤ x11 ∧ x11 ≤ 79) (k12 : 1 ≤ x12 ∧ x12 ≤ 1) (k13 : (-1) ≤ x13 ∧ x13 ≤ 79) (k14 : (-1) ≤ x14 ∧ x14 ≤ 79) (k16 : 1 ≤ x16 ∧ x16 ≤ 79) (d0 : x4 + 1 ≤ x16 ∧ x16 ≤ x4 + 1) (d1 : x3 + (-4294967296) ≤ x16 ∧ x16 ≤ x3 + 0) (d3 : x14 + 0 ≤ x13 ∧ x13 ≤ x14 + 4294967296) (d4 : x3 + (-4294967296) ≤ x4 ∧ x4 ≤ x3 + (-1)) (f2 : 1 * x3 + ((-1) * pm_0 + 0) ≤ (-1)) (h11 : x14 = pieceOf_2 (x4)) (h12 : x13 = pieceOf_2 (x3)) (f13 : x12 ≠ 0) (f14 : SHN (pt_2) (ph_2) (drawnNode_2) (x3) (x4) (x12)) (f15 : x10 ≠ x11) (h16 : x11 = pieceOf_2 (x4)) (h17 : x10 = pieceOf_2 (x3)) (h19 : x8 = drawnEdge_2 (x4)) (h22 : x7 = drawnEdge_2 (x3)) (f23 : x4 < x3) (f24 : PCI (pm_2) (pt_2) (ph_2) (drawnEdge_2) (drawnNode_2) (pieceOf_2)) (fe_0_32_1 : pm_0 = pm_1) (fe_0_32_2 : pm_1 = pm_2) (hE_0_33_1 : ∀ j : Int, pt_0 j = pt_1 j) (hE_0_33_2 : ∀ j : Int, pt_1 j = pt_2 j) (hE_0_34_1 : ∀ j : Int, ph_0 j = ph_1 j) (hE_0_34_2 : ∀ j : Int, ph_1 j = ph_2 j) (hE_0_42_1 : ∀ j : Int, drawnNode_0 j = drawnNode_1 j) (hE_0_42_2 : ∀ j : Int, drawnNode_1 j = drawnNode_2 j) (hE_0_43_1 : ∀ j : Int, drawnEdge_0 j = drawnEdge_1 j) (hE_0_43_2 : ∀ j : Int, drawnEdge_1 j = drawnEdge_2 j) (hE_0_44_1 : ∀ j : Int, 0 ≤ j → (j = x4 → pieceOf_0 j = x14) ∧ (j ≠ x4 → pieceOf_0 j = pieceOf_1 j)) (hE_0_44_2 : ∀ j : Int, 0 ≤ j → (j = x3 → pieceOf_1 j = x14) ∧ (j ≠ x3 → pieceOf_1 j = pieceOf_2 j)) (kz_0_32 : 0 ≤ pm_0 ∧ pm_0 ≤ 80) : PCI (pm_0) (pt_0) (ph_0) (drawnEdge_0) (drawnNode_0) (pieceOf_0) := by
  subst fe_0_32_1
  subst fe_0_32_2
  have e_hE_0_33_1 := funext hE_0_33_1; subst e_hE_0_33_1
  have e_hE_0_33_2 := funext hE_0_33_2; subst e_hE_0_33_2
  have e_hE_0_34_1 := funext hE_0_34_1; subst e_hE_0_34_1
  have e_hE_0_34_2 := funext hE_0_34_2; subst e_hE_0_34_2
  have e_hE_0_42_1 := funext hE_0_42_1; subst e_hE_0_42_1
  have e_hE_0_42_2 := funext hE_0_42_2; subst e_hE_0_42_2
  have e_hE_0_43_1 := funext hE_0_43_1; subst e_hE_0_43_1
  have e_hE_0_43_2 := funext hE_0_43_2; subst e_hE_0_43_2
  first
    | assumption
    | (have v := (hE_0_44_1 x4 (by omega)).1 rfl
       have v2 := (hE_0_44_1 x3 (by omega)).2 (by omega)
       have v3 := (hE_0_44_2 x3 (by omega)).1 rfl
       exact pc_step (e := x3) (f := x4) (p := pieceOf_0 x4) ‹PCI _ _ _ _ _ _› (by omega) (by omega) (by omega) (by omega) (by omega) (by omega) (by omega) (‹SHN _ _ _ _ _ _›.mp (by omega)) (by first | exact Or.inl ⟨by omega, by omega⟩ | exact Or.inr ⟨by omega, by omega⟩) (fun j a b c => by rw [(hE_0_44_1 j a).2 c, (hE_0_44_2 j a).2 b]) (by omega) rfl)
set_option maxHeartbeats 4000000 in
theorem vc_Mo_pieces_12_1 (x3 : Int) (x4 : Int) (x8 : Int) (x12 : Int) (x13 : Int) (x15 : Int) (x16 : Int) (pt_0 : Int → Int) (ph_0 : Int → Int) (drawnNode_0 : Int → Int) (pm_0 : Int) (pt_1 : Int → Int) (ph_1 : Int → Int) (drawnNode_1 : Int → Int) (pm_1 : Int) (pt_2 : Int → Int) (ph_2 : Int → Int) (drawnNode_2 : Int → Int) (drawnEdge_2 : Int → Int) (pm_2 : Int) (drawnEdge_0 : Int → Int) (drawnEdge_1 : Int → Int) (pieceOf_0 : Int → Int) (k3 : 1 ≤ x3 ∧ x3 ≤ 79) (k15 : 1 ≤ x15 ∧ x15 ≤ 1) (k16 : 1 ≤ x16 ∧ x16 ≤ 79) (fe_0_32_1 : pm_0 = pm_1) (fe_0_32_2 : pm_1 = pm_2) (hE_0_33_1 : ∀ j : Int, pt_0 j = pt_1 j) (hE_0_33_2 : ∀ j : Int, pt_1 j = pt_2 j) (hE_0_34_1 : ∀ j : Int, ph_0 j = ph_1 j) (hE_0_34_2 : ∀ j : Int, ph_1 j = ph_2 j) (hE_0_42_1 : ∀ j : Int, drawnNode_0 j = drawnNode_1 j) (hE_0_42_2 : ∀ j : Int, drawnNode_1 j = drawnNode_2 j) (hE_0_43_1 : ∀ j : Int, drawnEdge_0 j = drawnEdge_1 j) (hE_0_43_2 : ∀ j : Int, drawnEdge_1 j = drawnEdge_2 j) (kz_0_32 : 0 ≤ pm_0 ∧ pm_0 ≤ 80) : PC2 (pt_0) (ph_0) (drawnEdge_0) (drawnNode_0) (pieceOf_0) (x3) (x16) (x15) := by
  subst fe_0_32_1
  subst fe_0_32_2
  have e_hE_0_33_1 := funext hE_0_33_1; subst e_hE_0_33_1
  have e_hE_0_33_2 := funext hE_0_33_2; subst e_hE_0_33_2
  have e_hE_0_34_1 := funext hE_0_34_1; subst e_hE_0_34_1
  have e_hE_0_34_2 := funext hE_0_34_2; subst e_hE_0_34_2
  have e_hE_0_42_1 := funext hE_0_42_1; subst e_hE_0_42_1
  have e_hE_0_42_2 := funext hE_0_42_2; subst e_hE_0_42_2
  have e_hE_0_43_1 := funext hE_0_43_1; subst e_hE_0_43_1
  have e_hE_0_43_2 := funext hE_0_43_2; subst e_hE_0_43_2
  first
    | (have h := ‹PC4 _ _ _ _ _ _ _›; rw [show x6 = 0 by omega]; exact h)
    | (intro h0; exfalso; omega)
    | (have h := ‹PC2 _ _ _ _ _ _ _ _›
       first | rw [show x8 = x4 + 1 by omega] | rw [show x9 = x4 + 1 by omega] | rw [show x12 = x4 + 1 by omega] | rw [show x13 = x4 + 1 by omega]
       refine pc2_next h (fun _ de df hs => ?_)
       first
         | (exfalso; omega)
         | omega
         | exact absurd (‹SHN _ _ _ _ _ _›.mpr hs) (by omega))
set_option maxHeartbeats 4000000 in
theorem vc_Mo_pieces_12_2 (x2 : Int) (x3 : Int) (x4 : Int) (x5 : Int) (x10 : Int) (x11 : Int) (x13 : Int) (x14 : Int) (x15 : Int) (x16 : Int) (pt_0 : Int → Int) (ph_0 : Int → Int) (drawnNode_0 : Int → Int) (pm_0 : Int) (pt_1 : Int → Int) (ph_1 : Int → Int) (drawnNode_1 : Int → Int) (pm_1 : Int) (pieceOf_2 : Int → Int) (pt_2 : Int → Int) (ph_2 : Int → Int) (drawnNode_2 : Int → Int) (drawnEdge_2 : Int → Int) (pm_2 : Int) (drawnEdge_0 : Int → Int) (drawnEdge_1 : Int → Int) (pieceOf_0 : Int → Int) (pieceOf_1 : Int → Int) (k2 : 0 ≤ x2 ∧ x2 ≤ 1) (k3 : 1 ≤ x3 ∧ x3 ≤ 79) (k4 : 0 ≤ x4 ∧ x4 ≤ 78) (k5 : (-200) ≤ x5 ∧ x5 ≤ 6500) (k10 : (-1) ≤ x10 ∧ x10 ≤ 79) (k11 : (-1) ≤ x11 ∧ x11 ≤ 79) (k13 : (-1) ≤ x13 ∧ x13 ≤ 79) (k14 : (-1) ≤ x14 ∧ x14 ≤ 79) (k15 : 1 ≤ x15 ∧ x15 ≤ 1) (k16 : 1 ≤ x16 ∧ x16 ≤ 79) (d0 : x4 + 1 ≤ x16 ∧ x16 ≤ x4 + 1) (d1 : x3 + (-4294967296) ≤ x16 ∧ x16 ≤ x3 + 0) (d3 : x14 + 0 ≤ x13 ∧ x13 ≤ x14 + 4294967296) (d4 : x3 + (-4294967296) ≤ x4 ∧ x4 ≤ x3 + (-1)) (f2 : 1 * x3 + ((-1) * pm_0 + 0) ≤ (-1)) (h11 : x14 = pieceOf_2 (x4)) (h12 : x13 = pieceOf_2 (x3)) (f15 : x10 ≠ x11) (h16 : x11 = pieceOf_2 (x4)) (h17 : x10 = pieceOf_2 (x3)) (f23 : x4 < x3) (f26 : PCN (pm_2) (pieceOf_2) (x2) (x5)) (fe_0_32_1 : pm_0 = pm_1) (fe_0_32_2 : pm_1 = pm_2) (hE_0_33_1 : ∀ j : Int, pt_0 j = pt_1 j) (hE_0_33_2 : ∀ j : Int, pt_1 j = pt_2 j) (hE_0_34_1 : ∀ j : Int, ph_0 j = ph_1 j) (hE_0_34_2 : ∀ j : Int, ph_1 j = ph_2 j) (hE_0_42_1 : ∀ j : Int, drawnNode_0 j = drawnNode_1 j) (hE_0_42_2 : ∀ j : Int, drawnNode_1 j = drawnNode_2 j) (hE_0_43_1 : ∀ j : Int, drawnEdge_0 j = drawnEdge_1 j) (hE_0_43_2 : ∀ j : Int, drawnEdge_1 j = drawnEdge_2 j) (hE_0_44_1 : ∀ j : Int, 0 ≤ j → (j = x4 → pieceOf_0 j = x14) ∧ (j ≠ x4 → pieceOf_0 j = pieceOf_1 j)) (hE_0_44_2 : ∀ j : Int, 0 ≤ j → (j = x3 → pieceOf_1 j = x14) ∧ (j ≠ x3 → pieceOf_1 j = pieceOf_2 j)) (kz_0_32 : 0 ≤ pm_0 ∧ pm_0 ≤ 80) : PCN (pm_0) (pieceOf_0) (x15) (x5) := by
  subst fe_0_32_1
  subst fe_0_32_2
  have e_hE_0_33_1 := funext hE_0_33_1; subst e_hE_0_33_1
  have e_hE_0_33_2 := funext hE_0_33_2; subst e_hE_0_33_2
  have e_hE_0_34_1 := funext hE_0_34_1; subst e_hE_0_34_1
  have e_hE_0_34_2 := funext hE_0_34_2; subst e_hE_0_34_2
  have e_hE_0_42_1 := funext hE_0_42_1; subst e_hE_0_42_1
  have e_hE_0_42_2 := funext hE_0_42_2; subst e_hE_0_42_2
  have e_hE_0_43_1 := funext hE_0_43_1; subst e_hE_0_43_1
  have e_hE_0_43_2 := funext hE_0_43_2; subst e_hE_0_43_2
  first
    | assumption
    | (have h := ‹PCN _ _ _ _›
       have hs := pc_sum (m := pm_0) (po := pieceOf_2) (po_zq := pieceOf_0) (e := x3) (f := x4) (p := pieceOf_0 x4) (dE := drawnEdge_0) (by omega) (by omega) (by omega) (by omega) (by omega) ?_ ?_ ?_ rfl
       · unfold PCN; unfold PCN at h; omega
       · have v := (hE_0_44_1 x4 (by omega)).1 rfl
         first
           | exact Or.inl ⟨by omega, by omega⟩
           | exact Or.inr ⟨by omega, by omega⟩
       · intro j a b c; rw [(hE_0_44_1 j a).2 c, (hE_0_44_2 j a).2 b]
       · have v := (hE_0_44_1 x4 (by omega)).1 rfl
         have v2 := (hE_0_44_1 x3 (by omega)).2 (by omega)
         have v3 := (hE_0_44_2 x3 (by omega)).1 rfl
         omega)
    | (have h := ‹PCN _ _ _ _›; unfold PCN; unfold PCN at h; omega)
def o_Mo_pieces_12 : or_T := (56, 17, [(0, (2, 0, 0, [165])), (1, (2, 0, 0, [165])), (2, (0, 0, 1, [])), (3, (0, 1, 79, [])), (4, (0, 0, 78, [])), (5, (0, -200, 6500, [])), (6, (2, 0, 0, [189])), (7, (0, 0, 0, [])), (8, (0, 0, 0, [])), (9, (2, 0, 0, [190])), (10, (0, -1, 79, [])), (11, (0, -1, 79, [])), (12, (0, 1, 1, [])), (13, (0, -1, 79, [])), (14, (0, -1, 79, [])), (15, (0, 1, 1, [])), (16, (0, 1, 79, []))], [(6, [16, 4], [1]), (20, [1, 3, 4, 12], [60, 0, 3, 98, 33, 34, 42]), (20, [3, 1], [30, -1, 1, 0, 0, -1, 1, 32]), (24, [0, 1], []), (100, [9, 4, 14], []), (9, [9, 1], [44]), (20, [1, 3, 4, 12], [60, 0, 3, 98, 33, 34, 42]), (20, [3, 1], [30, -1, 1, 0, 0, -1, 1, 32]), (100, [9, 3, 14], []), (7, [14, 13], [5]), (7, [14, 14], [5]), (10, [14, 9, 4], []), (10, [13, 9, 3], []), (8, [12], [1]), (20, [1, 3, 4, 12], [60, 0, 3, 98, 33, 34, 42]), (7, [10, 11], [1]), (10, [11, 9, 4], []), (10, [10, 9, 3], []), (8, [8], [0]), (10, [8, 6, 4], []), (9, [6, 1], [43]), (8, [7], [0]), (10, [7, 6, 3], []), (7, [4, 3], [2]), (20, [1], [60, 1, 5, 100, 32, 33, 34, 43, 42, 44]), (20, [1, 3, 4, 2], [60, 0, 5, 101, 33, 34, 43, 42, 44]), (20, [1, 2, 5], [60, 1, 1, 105, 32, 44]), (20, [3, 1], [30, -1, 1, 0, 0, -1, 1, 32])], [], [], [(20, [1], [60, 1, 5, 100, 32, 33, 34, 43, 42, 44]), (20, [1, 3, 16, 15], [60, 0, 5, 101, 33, 34, 43, 42, 44]), (20, [1, 15, 5], [60, 1, 1, 105, 32, 44])], [], [(16, 4, 1, 1), (16, 3, -4294967296, 0), (16, 3, -4294967296, 1), (13, 14, 0, 4294967296), (4, 3, -4294967296, -1), (4, 3, -4294967296, 0)])
theorem oo_Mo_pieces_12 {kA : Nat → ClassId} : or_ok PRD kA GG o_Mo_pieces_12 := by
  refine or_mk fun A ta ws vs hD hth hl => ?_
  intro t0 r0 t1 r1 t2 k2 t3 k3 t4 k4 t5 k5 t6 r6 t7 k7 t8 k8 t9 r9 t10 k10 t11 k11 t12 k12 t13 k13 t14 k14 t15 k15 t16 k16 d0 d1 d2 d3 d4 d5 f0 f1 f2 f3 ta1 w1 le1 s1 f5 f6 f7 ta2 w2 le2 s2 f9 f10 f11 f12 f13 f14 f15 f16 f17 f18 f19 f20 f21 f22 f23 f24 f25 f26 f27
  replace f2 := shm_975 f2
  replace f3 := shm_5 f3
  have s1 : (∀ b j, w_el ws b j = if b = v_ad (n_v vs 9) ∧ j = (v_iv (n_v vs 4)).toNat then v_iv (n_v vs 14) else w_el w1 b j) ∧ ∀ b k, w_fd ws b k = w_fd w1 b k := s1.2
  replace f5 := shm_533 f5
  have s2 : (∀ b j, w_el w1 b j = if b = v_ad (n_v vs 9) ∧ j = (v_iv (n_v vs 3)).toNat then v_iv (n_v vs 14) else w_el w2 b j) ∧ ∀ b k, w_fd w1 b k = w_fd w2 b k := s2.2
  replace f11 := shm_107 f11
  replace f12 := shm_107 f12
  replace f13 := shm_142 f13
  replace f14 := shm_729 f14
  replace f15 := shm_40 f15
  replace f16 := shm_107 f16
  replace f17 := shm_107 f17
  replace f19 := shm_107 f19
  replace f20 := shm_532 f20
  replace f22 := shm_107 f22
  replace f23 := shm_6 f23
  replace f24 := shm_1149 f24
  replace f26 := shm_1153 f26
  have q1 : n_v vs 1 = n_v vs 0 := f3.symm
  simp only [q1] at f2 f5 f14 f20 f24 f26
  have ar_0_33_1 : w_ar w1 (n_v vs 0) 33 = w_ar ws (n_v vs 0) 33 := congrArg v_ad (s1.2 _ _).symm
  have ar_0_33_2 : w_ar w2 (n_v vs 0) 33 = w_ar ws (n_v vs 0) 33 := by rw [← ar_0_33_1]; show v_ad (w_fd w2 _ _) = v_ad (w_fd w1 _ _); rw [s2.2]
  have cr_0_33 := fdq_117 hD hth r0
  have ar_0_34_1 : w_ar w1 (n_v vs 0) 34 = w_ar ws (n_v vs 0) 34 := congrArg v_ad (s1.2 _ _).symm
  have ar_0_34_2 : w_ar w2 (n_v vs 0) 34 = w_ar ws (n_v vs 0) 34 := by rw [← ar_0_34_1]; show v_ad (w_fd w2 _ _) = v_ad (w_fd w1 _ _); rw [s2.2]
  have cr_0_34 := fdq_118 hD hth r0
  have ar_0_42_1 : w_ar w1 (n_v vs 0) 42 = w_ar ws (n_v vs 0) 42 := congrArg v_ad (s1.2 _ _).symm
  have ar_0_42_2 : w_ar w2 (n_v vs 0) 42 = w_ar ws (n_v vs 0) 42 := by rw [← ar_0_42_1]; show v_ad (w_fd w2 _ _) = v_ad (w_fd w1 _ _); rw [s2.2]
  have cr_0_42 := fdq_136 hD hth r0
  have ar_0_43_1 : w_ar w1 (n_v vs 0) 43 = w_ar ws (n_v vs 0) 43 := congrArg v_ad (s1.2 _ _).symm
  have ar_0_43_2 : w_ar w2 (n_v vs 0) 43 = w_ar ws (n_v vs 0) 43 := by rw [← ar_0_43_1]; show v_ad (w_fd w2 _ _) = v_ad (w_fd w1 _ _); rw [s2.2]
  have cr_0_43 := fdq_137 hD hth r0
  have ar_0_44_1 : w_ar w1 (n_v vs 0) 44 = w_ar ws (n_v vs 0) 44 := congrArg v_ad (s1.2 _ _).symm
  have ar_0_44_2 : w_ar w2 (n_v vs 0) 44 = w_ar ws (n_v vs 0) 44 := by rw [← ar_0_44_1]; show v_ad (w_fd w2 _ _) = v_ad (w_fd w1 _ _); rw [s2.2]
  have ad_9 : v_ad (n_v vs 9) = w_ar ws (n_v vs 0) 44 := (congrArg v_ad f5).trans ar_0_44_1
  have ad_6 : v_ad (n_v vs 6) = w_ar ws (n_v vs 0) 43 := (congrArg v_ad f20).trans ar_0_43_2
  simp only [ar_0_33_1, ar_0_34_1, ar_0_42_1, ad_9] at f11
  have h11 : v_iv (n_v vs 14) = w_ei w2 (w_ar ws (n_v vs 0) 44) (v_iv (n_v vs 4)) := f11
  simp only [ad_9] at f12
  have h12 : v_iv (n_v vs 13) = w_ei w2 (w_ar ws (n_v vs 0) 44) (v_iv (n_v vs 3)) := f12
  simp only [ar_0_33_2, ar_0_34_2, ar_0_42_2, ad_9] at f14 f16
  have h16 : v_iv (n_v vs 11) = w_ei w2 (w_ar ws (n_v vs 0) 44) (v_iv (n_v vs 4)) := f16
  simp only [ad_9] at f17
  have h17 : v_iv (n_v vs 10) = w_ei w2 (w_ar ws (n_v vs 0) 44) (v_iv (n_v vs 3)) := f17
  simp only [ad_6] at f19
  have h19 : v_iv (n_v vs 8) = w_ei w2 (w_ar ws (n_v vs 0) 43) (v_iv (n_v vs 4)) := f19
  simp only [ad_6] at f22
  have h22 : v_iv (n_v vs 7) = w_ei w2 (w_ar ws (n_v vs 0) 43) (v_iv (n_v vs 3)) := f22
  simp only [ar_0_33_2, ar_0_34_2, ar_0_42_2, ar_0_43_2, ar_0_44_2] at f24 f26
  have fe_0_32_1 : w_fi ws (n_v vs 0) 32 = w_fi w1 (n_v vs 0) 32 := congrArg v_iv (s1.2 _ _)
  have fe_0_32_2 : w_fi w1 (n_v vs 0) 32 = w_fi w2 (n_v vs 0) 32 := congrArg v_iv (s2.2 _ _)
  have hE_0_33_1 : ∀ j : Int, w_ei ws (w_ar ws (n_v vs 0) 33) j = w_ei w1 (w_ar ws (n_v vs 0) 33) j := el_kp s1.1 r9 cr_0_33 (by decide)
  have hE_0_33_2 : ∀ j : Int, w_ei w1 (w_ar ws (n_v vs 0) 33) j = w_ei w2 (w_ar ws (n_v vs 0) 33) j := el_kp s2.1 r9 cr_0_33 (by decide)
  have hE_0_34_1 : ∀ j : Int, w_ei ws (w_ar ws (n_v vs 0) 34) j = w_ei w1 (w_ar ws (n_v vs 0) 34) j := el_kp s1.1 r9 cr_0_34 (by decide)
  have hE_0_34_2 : ∀ j : Int, w_ei w1 (w_ar ws (n_v vs 0) 34) j = w_ei w2 (w_ar ws (n_v vs 0) 34) j := el_kp s2.1 r9 cr_0_34 (by decide)
  have hE_0_42_1 : ∀ j : Int, w_ei ws (w_ar ws (n_v vs 0) 42) j = w_ei w1 (w_ar ws (n_v vs 0) 42) j := el_kp s1.1 r9 cr_0_42 (by decide)
  have hE_0_42_2 : ∀ j : Int, w_ei w1 (w_ar ws (n_v vs 0) 42) j = w_ei w2 (w_ar ws (n_v vs 0) 42) j := el_kp s2.1 r9 cr_0_42 (by decide)
  have hE_0_43_1 : ∀ j : Int, w_ei ws (w_ar ws (n_v vs 0) 43) j = w_ei w1 (w_ar ws (n_v vs 0) 43) j := el_kp s1.1 r9 cr_0_43 (by decide)
  have hE_0_43_2 : ∀ j : Int, w_ei w1 (w_ar ws (n_v vs 0) 43) j = w_ei w2 (w_ar ws (n_v vs 0) 43) j := el_kp s2.1 r9 cr_0_43 (by decide)
  have hE_0_44_1 : ∀ j : Int, 0 ≤ j → (j = v_iv (n_v vs 4) → w_ei ws (w_ar ws (n_v vs 0) 44) j = v_iv (n_v vs 14)) ∧ (j ≠ v_iv (n_v vs 4) → w_ei ws (w_ar ws (n_v vs 0) 44) j = w_ei w1 (w_ar ws (n_v vs 0) 44) j) := fun j hj => ⟨fun h => by unfold w_ei; rw [s1.1, if_pos ⟨ad_9.symm, by rw [h]⟩], fun h => by unfold w_ei; rw [s1.1, if_neg (fun e => h (by have := e.2; omega))]⟩
  have hE_0_44_2 : ∀ j : Int, 0 ≤ j → (j = v_iv (n_v vs 3) → w_ei w1 (w_ar ws (n_v vs 0) 44) j = v_iv (n_v vs 14)) ∧ (j ≠ v_iv (n_v vs 3) → w_ei w1 (w_ar ws (n_v vs 0) 44) j = w_ei w2 (w_ar ws (n_v vs 0) 44) j) := fun j hj => ⟨fun h => by unfold w_ei; rw [s2.1, if_pos ⟨ad_9.symm, by rw [h]⟩], fun h => by unfold w_ei; rw [s2.1, if_neg (fun e => h (by have := e.2; omega))]⟩
  have kz_0_32 := fdq_140 hD hth r0
  have nf0 : fc_1 PRD (20, [1], [60, 1, 5, 100, 32, 33, 34, 43, 42, 44]) ws (vs) := by
    refine ⟨nf_in hl rfl, sgq_1149 ?_⟩
    · show PCI (w_fi ws (n_v vs 1) 32) (w_ei ws (w_ar ws (n_v vs 1) 33)) (w_ei ws (w_ar ws (n_v vs 1) 34)) (w_ei ws (w_ar ws (n_v vs 1) 43)) (w_ei ws (w_ar ws (n_v vs 1) 42)) (w_ei ws (w_ar ws (n_v vs 1) 44))
      rw [q1]
      exact vc_Mo_pieces_12_0 (v_iv (n_v vs 3)) (v_iv (n_v vs 4)) (v_iv (n_v vs 7)) (v_iv (n_v vs 8)) (v_iv (n_v vs 10)) (v_iv (n_v vs 11)) (v_iv (n_v vs 12)) (v_iv (n_v vs 13)) (v_iv (n_v vs 14)) (v_iv (n_v vs 16)) (w_ei ws (w_ar ws (n_v vs 0) 33)) (w_ei ws (w_ar ws (n_v vs 0) 34)) (w_ei ws (w_ar ws (n_v vs 0) 42)) (w_fi ws (n_v vs 0) 32) (w_ei w1 (w_ar ws (n_v vs 0) 33)) (w_ei w1 (w_ar ws (n_v vs 0) 34)) (w_ei w1 (w_ar ws (n_v vs 0) 42)) (w_fi w1 (n_v vs 0) 32) (w_ei w2 (w_ar ws (n_v vs 0) 44)) (w_ei w2 (w_ar ws (n_v vs 0) 33)) (w_ei w2 (w_ar ws (n_v vs 0) 34)) (w_ei w2 (w_ar ws (n_v vs 0) 42)) (w_ei w2 (w_ar ws (n_v vs 0) 43)) (w_fi w2 (n_v vs 0) 32) (w_ei ws (w_ar ws (n_v vs 0) 43)) (w_ei w1 (w_ar ws (n_v vs 0) 43)) (w_ei ws (w_ar ws (n_v vs 0) 44)) (w_ei w1 (w_ar ws (n_v vs 0) 44)) k3 k4 k7 k8 k10 k11 k12 k13 k14 k16 d0 d1 d3 d4 f2 h11 h12 f13 f14 f15 h16 h17 h19 h22 f23 f24 fe_0_32_1 fe_0_32_2 hE_0_33_1 hE_0_33_2 hE_0_34_1 hE_0_34_2 hE_0_42_1 hE_0_42_2 hE_0_43_1 hE_0_43_2 hE_0_44_1 hE_0_44_2 kz_0_32
  have nf1 : fc_1 PRD (20, [1, 3, 16, 15], [60, 0, 5, 101, 33, 34, 43, 42, 44]) ws (vs) := by
    refine ⟨nf_in hl rfl, sgq_1154 ?_⟩
    · show PC2 (w_ei ws (w_ar ws (n_v vs 1) 33)) (w_ei ws (w_ar ws (n_v vs 1) 34)) (w_ei ws (w_ar ws (n_v vs 1) 43)) (w_ei ws (w_ar ws (n_v vs 1) 42)) (w_ei ws (w_ar ws (n_v vs 1) 44)) (v_iv (n_v vs 3)) (v_iv (n_v vs 16)) (v_iv (n_v vs 15))
      rw [q1]
      exact vc_Mo_pieces_12_1 (v_iv (n_v vs 3)) (v_iv (n_v vs 4)) (v_iv (n_v vs 8)) (v_iv (n_v vs 12)) (v_iv (n_v vs 13)) (v_iv (n_v vs 15)) (v_iv (n_v vs 16)) (w_ei ws (w_ar ws (n_v vs 0) 33)) (w_ei ws (w_ar ws (n_v vs 0) 34)) (w_ei ws (w_ar ws (n_v vs 0) 42)) (w_fi ws (n_v vs 0) 32) (w_ei w1 (w_ar ws (n_v vs 0) 33)) (w_ei w1 (w_ar ws (n_v vs 0) 34)) (w_ei w1 (w_ar ws (n_v vs 0) 42)) (w_fi w1 (n_v vs 0) 32) (w_ei w2 (w_ar ws (n_v vs 0) 33)) (w_ei w2 (w_ar ws (n_v vs 0) 34)) (w_ei w2 (w_ar ws (n_v vs 0) 42)) (w_ei w2 (w_ar ws (n_v vs 0) 43)) (w_fi w2 (n_v vs 0) 32) (w_ei ws (w_ar ws (n_v vs 0) 43)) (w_ei w1 (w_ar ws (n_v vs 0) 43)) (w_ei ws (w_ar ws (n_v vs 0) 44)) k3 k15 k16 fe_0_32_1 fe_0_32_2 hE_0_33_1 hE_0_33_2 hE_0_34_1 hE_0_34_2 hE_0_42_1 hE_0_42_2 hE_0_43_1 hE_0_43_2 kz_0_32
  have nf2 : fc_1 PRD (20, [1, 15, 5], [60, 1, 1, 105, 32, 44]) ws (vs) := by
    refine ⟨nf_in hl rfl, sgq_1153 ?_⟩
    · show PCN (w_fi ws (n_v vs 1) 32) (w_ei ws (w_ar ws (n_v vs 1) 44)) (v_iv (n_v vs 15)) (v_iv (n_v vs 5))
      rw [q1]
      exact vc_Mo_pieces_12_2 (v_iv (n_v vs 2)) (v_iv (n_v vs 3)) (v_iv (n_v vs 4)) (v_iv (n_v vs 5)) (v_iv (n_v vs 10)) (v_iv (n_v vs 11)) (v_iv (n_v vs 13)) (v_iv (n_v vs 14)) (v_iv (n_v vs 15)) (v_iv (n_v vs 16)) (w_ei ws (w_ar ws (n_v vs 0) 33)) (w_ei ws (w_ar ws (n_v vs 0) 34)) (w_ei ws (w_ar ws (n_v vs 0) 42)) (w_fi ws (n_v vs 0) 32) (w_ei w1 (w_ar ws (n_v vs 0) 33)) (w_ei w1 (w_ar ws (n_v vs 0) 34)) (w_ei w1 (w_ar ws (n_v vs 0) 42)) (w_fi w1 (n_v vs 0) 32) (w_ei w2 (w_ar ws (n_v vs 0) 44)) (w_ei w2 (w_ar ws (n_v vs 0) 33)) (w_ei w2 (w_ar ws (n_v vs 0) 34)) (w_ei w2 (w_ar ws (n_v vs 0) 42)) (w_ei w2 (w_ar ws (n_v vs 0) 43)) (w_fi w2 (n_v vs 0) 32) (w_ei ws (w_ar ws (n_v vs 0) 43)) (w_ei w1 (w_ar ws (n_v vs 0) 43)) (w_ei ws (w_ar ws (n_v vs 0) 44)) (w_ei w1 (w_ar ws (n_v vs 0) 44)) k2 k3 k4 k5 k10 k11 k13 k14 k15 k16 d0 d1 d3 d4 f2 h11 h12 f15 h16 h17 f23 f26 fe_0_32_1 fe_0_32_2 hE_0_33_1 hE_0_33_2 hE_0_34_1 hE_0_34_2 hE_0_42_1 hE_0_42_2 hE_0_43_1 hE_0_43_2 hE_0_44_1 hE_0_44_2 kz_0_32
  refine ⟨(fun _ h => (by cases h)), [], trivial, ?_, (fun _ h => (by cases h))⟩
  rw [List.append_nil]
  exact List.forall_mem_cons.mpr ⟨⟨show (20 : Nat) < 100 from by decide, nf0⟩, List.forall_mem_cons.mpr ⟨⟨show (20 : Nat) < 100 from by decide, nf1⟩, List.forall_mem_cons.mpr ⟨⟨show (20 : Nat) < 100 from by decide, nf2⟩, (fun _ h => (by cases h))⟩⟩⟩
set_option maxHeartbeats 4000000 in
theorem vc_Mo_pieces_13_0 (x3 : Int) (x4 : Int) (x7 : Int) (x8 : Int) (x12 : Int) (x13 : Int) (x14 : Int) (x16 : Int) (pt_0 : Int → Int) (ph_0 : Int → Int) (drawnNode_0 : Int → Int) (pm_0 : Int) (pt_1 : Int → Int) (ph_1 : Int → Int) (drawnNode_1 : Int → Int) (pm_1 : Int) (pieceOf_2 : Int → Int) (pt_2 : Int → Int) (ph_2 : Int → Int) (drawnNode_2 : Int → Int) (drawnEdge_2 : Int → Int) (pm_2 : Int) (drawnEdge_0 : Int → Int) (drawnEdge_1 : Int → Int) (pieceOf_0 : Int → Int) (pieceOf_1 : Int → Int) (k3 : 1 ≤ x3 ∧ x3 ≤ 79) (k4 : 0 ≤ x4 ∧ x4 ≤ 78) (k7 : 0 ≤ x7 ∧ x7 ≤ 0) (k8 : 0 ≤ x8 ∧ x8 ≤ 0) (k12 : 1 ≤ x12 ∧ x12 ≤ 1) (k13 : (-1) ≤ x13 ∧ x13 ≤ 78) (k14 : 0 ≤ x14 ∧ x14 ≤ 79) (k16 : 1 ≤ x16 ∧ x16 ≤ 79) (d0 : x4 + 1 ≤ x16 ∧ x16 ≤ x4 + 1) (d1 : x3 + (-4294967296) ≤ x16 ∧ x16 ≤ x3 + 0) (d3 : x14 + (-4294967296) ≤ x13 ∧ x13 ≤ x14 + (-1)) (d4 : x3 + (-4294967296) ≤ x4 ∧ x4 ≤ x3 + (-1)) (f2 : 1 * x3 + ((-1) * pm_0 + 0) ≤ (-1)) (h11 : x14 = pieceOf_2 (x4)) (h12 : x13 = pieceOf_2 (x3)) (f13 : x12 ≠ 0) (f14 : SHN (pt_2) (ph_2) (drawnNode_2) (x3) (x4) (x12)) (h19 : x8 = drawnEdge_2 (x4)) (h22 : x7 = drawnEdge_2 (x3)) (f23 : x4 < x3) (f24 : PCI (pm_2) (pt_2) (ph_2) (drawnEdge_2) (drawnNode_2) (pieceOf_2)) (fe_0_32_1 : pm_0 = pm_1) (fe_0_32_2 : pm_1 = pm_2) (hE_0_33_1 : ∀ j : Int, pt_0 j = pt_1 j) (hE_0_33_2 : ∀ j : Int, pt_1 j = pt_2 j) (hE_0_34_1 : ∀ j : Int, ph_0 j = ph_1 j) (hE_0_34_2 : ∀ j : Int, ph_1 j = ph_2 j) (hE_0_42_1 : ∀ j : Int, drawnNode_0 j = drawnNode_1 j) (hE_0_42_2 : ∀ j : Int, drawnNode_1 j = drawnNode_2 j) (hE_0_43_1 : ∀ j : Int, drawnEdge_0 j = drawnEdge_1 j) (hE_0_43_2 : ∀ j : Int, drawnEdge_1 j = drawnEdge_2 j) (hE_0_44_1 : ∀ j : Int, 0 ≤ j → (j = x4 → pieceOf_0 j = x13) ∧ (j ≠ x4 → pieceOf_0 j = pieceOf_1 j)) (hE_0_44_2 : ∀ j : Int, 0 ≤ j → (j = x3 → pieceOf_1 j = x13) ∧ (j ≠ x3 → pieceOf_1 j = pieceOf_2 j)) (kz_0_32 : 0 ≤ pm_0 ∧ pm_0 ≤ 80) : PCI (pm_0) (pt_0) (ph_0) (drawnEdge_0) (drawnNode_0) (pieceOf_0) := by
  subst fe_0_32_1
  subst fe_0_32_2
  have e_hE_0_33_1 := funext hE_0_33_1; subst e_hE_0_33_1
  have e_hE_0_33_2 := funext hE_0_33_2; subst e_hE_0_33_2
  have e_hE_0_34_1 := funext hE_0_34_1; subst e_hE_0_34_1
  have e_hE_0_34_2 := funext hE_0_34_2; subst e_hE_0_34_2
  have e_hE_0_42_1 := funext hE_0_42_1; subst e_hE_0_42_1
  have e_hE_0_42_2 := funext hE_0_42_2; subst e_hE_0_42_2
  have e_hE_0_43_1 := funext hE_0_43_1; subst e_hE_0_43_1
  have e_hE_0_43_2 := funext hE_0_43_2; subst e_hE_0_43_2
  first
    | assumption
    | (have v := (hE_0_44_1 x4 (by omega)).1 rfl
       have v2 := (hE_0_44_1 x3 (by omega)).2 (by omega)
       have v3 := (hE_0_44_2 x3 (by omega)).1 rfl
       exact pc_step (e := x3) (f := x4) (p := pieceOf_0 x4) ‹PCI _ _ _ _ _ _› (by omega) (by omega) (by omega) (by omega) (by omega) (by omega) (by omega) (‹SHN _ _ _ _ _ _›.mp (by omega)) (by first | exact Or.inl ⟨by omega, by omega⟩ | exact Or.inr ⟨by omega, by omega⟩) (fun j a b c => by rw [(hE_0_44_1 j a).2 c, (hE_0_44_2 j a).2 b]) (by omega) rfl)
set_option maxHeartbeats 4000000 in
theorem vc_Mo_pieces_13_1 (x3 : Int) (x4 : Int) (x8 : Int) (x12 : Int) (x13 : Int) (x15 : Int) (x16 : Int) (pt_0 : Int → Int) (ph_0 : Int → Int) (drawnNode_0 : Int → Int) (pm_0 : Int) (pt_1 : Int → Int) (ph_1 : Int → Int) (drawnNode_1 : Int → Int) (pm_1 : Int) (pt_2 : Int → Int) (ph_2 : Int → Int) (drawnNode_2 : Int → Int) (drawnEdge_2 : Int → Int) (pm_2 : Int) (drawnEdge_0 : Int → Int) (drawnEdge_1 : Int → Int) (pieceOf_0 : Int → Int) (k3 : 1 ≤ x3 ∧ x3 ≤ 79) (k15 : 1 ≤ x15 ∧ x15 ≤ 1) (k16 : 1 ≤ x16 ∧ x16 ≤ 79) (fe_0_32_1 : pm_0 = pm_1) (fe_0_32_2 : pm_1 = pm_2) (hE_0_33_1 : ∀ j : Int, pt_0 j = pt_1 j) (hE_0_33_2 : ∀ j : Int, pt_1 j = pt_2 j) (hE_0_34_1 : ∀ j : Int, ph_0 j = ph_1 j) (hE_0_34_2 : ∀ j : Int, ph_1 j = ph_2 j) (hE_0_42_1 : ∀ j : Int, drawnNode_0 j = drawnNode_1 j) (hE_0_42_2 : ∀ j : Int, drawnNode_1 j = drawnNode_2 j) (hE_0_43_1 : ∀ j : Int, drawnEdge_0 j = drawnEdge_1 j) (hE_0_43_2 : ∀ j : Int, drawnEdge_1 j = drawnEdge_2 j) (kz_0_32 : 0 ≤ pm_0 ∧ pm_0 ≤ 80) : PC2 (pt_0) (ph_0) (drawnEdge_0) (drawnNode_0) (pieceOf_0) (x3) (x16) (x15) := by
  subst fe_0_32_1
  subst fe_0_32_2
  have e_hE_0_33_1 := funext hE_0_33_1; subst e_hE_0_33_1
  have e_hE_0_33_2 := funext hE_0_33_2; subst e_hE_0_33_2
  have e_hE_0_34_1 := funext hE_0_34_1; subst e_hE_0_34_1
  have e_hE_0_34_2 := funext hE_0_34_2; subst e_hE_0_34_2
  have e_hE_0_42_1 := funext hE_0_42_1; subst e_hE_0_42_1
  have e_hE_0_42_2 := funext hE_0_42_2; subst e_hE_0_42_2
  have e_hE_0_43_1 := funext hE_0_43_1; subst e_hE_0_43_1
  have e_hE_0_43_2 := funext hE_0_43_2; subst e_hE_0_43_2
  first
    | (have h := ‹PC4 _ _ _ _ _ _ _›; rw [show x6 = 0 by omega]; exact h)
    | (intro h0; exfalso; omega)
    | (have h := ‹PC2 _ _ _ _ _ _ _ _›
       first | rw [show x8 = x4 + 1 by omega] | rw [show x9 = x4 + 1 by omega] | rw [show x12 = x4 + 1 by omega] | rw [show x13 = x4 + 1 by omega]
       refine pc2_next h (fun _ de df hs => ?_)
       first
         | (exfalso; omega)
         | omega
         | exact absurd (‹SHN _ _ _ _ _ _›.mpr hs) (by omega))
set_option maxHeartbeats 4000000 in
theorem vc_Mo_pieces_13_2 (x2 : Int) (x3 : Int) (x4 : Int) (x5 : Int) (x13 : Int) (x14 : Int) (x15 : Int) (x16 : Int) (pt_0 : Int → Int) (ph_0 : Int → Int) (drawnNode_0 : Int → Int) (pm_0 : Int) (pt_1 : Int → Int) (ph_1 : Int → Int) (drawnNode_1 : Int → Int) (pm_1 : Int) (pieceOf_2 : Int → Int) (pt_2 : Int → Int) (ph_2 : Int → Int) (drawnNode_2 : Int → Int) (drawnEdge_2 : Int → Int) (pm_2 : Int) (drawnEdge_0 : Int → Int) (drawnEdge_1 : Int → Int) (pieceOf_0 : Int → Int) (pieceOf_1 : Int → Int) (k2 : 0 ≤ x2 ∧ x2 ≤ 1) (k3 : 1 ≤ x3 ∧ x3 ≤ 79) (k4 : 0 ≤ x4 ∧ x4 ≤ 78) (k5 : (-200) ≤ x5 ∧ x5 ≤ 6500) (k13 : (-1) ≤ x13 ∧ x13 ≤ 78) (k14 : 0 ≤ x14 ∧ x14 ≤ 79) (k15 : 1 ≤ x15 ∧ x15 ≤ 1) (k16 : 1 ≤ x16 ∧ x16 ≤ 79) (d0 : x4 + 1 ≤ x16 ∧ x16 ≤ x4 + 1) (d1 : x3 + (-4294967296) ≤ x16 ∧ x16 ≤ x3 + 0) (d3 : x14 + (-4294967296) ≤ x13 ∧ x13 ≤ x14 + (-1)) (d4 : x3 + (-4294967296) ≤ x4 ∧ x4 ≤ x3 + (-1)) (f2 : 1 * x3 + ((-1) * pm_0 + 0) ≤ (-1)) (h11 : x14 = pieceOf_2 (x4)) (h12 : x13 = pieceOf_2 (x3)) (f23 : x4 < x3) (f26 : PCN (pm_2) (pieceOf_2) (x2) (x5)) (fe_0_32_1 : pm_0 = pm_1) (fe_0_32_2 : pm_1 = pm_2) (hE_0_33_1 : ∀ j : Int, pt_0 j = pt_1 j) (hE_0_33_2 : ∀ j : Int, pt_1 j = pt_2 j) (hE_0_34_1 : ∀ j : Int, ph_0 j = ph_1 j) (hE_0_34_2 : ∀ j : Int, ph_1 j = ph_2 j) (hE_0_42_1 : ∀ j : Int, drawnNode_0 j = drawnNode_1 j) (hE_0_42_2 : ∀ j : Int, drawnNode_1 j = drawnNode_2 j) (hE_0_43_1 : ∀ j : Int, drawnEdge_0 j = drawnEdge_1 j) (hE_0_43_2 : ∀ j : Int, drawnEdge_1 j = drawnEdge_2 j) (hE_0_44_1 : ∀ j : Int, 0 ≤ j → (j = x4 → pieceOf_0 j = x13) ∧ (j ≠ x4 → pieceOf_0 j = pieceOf_1 j)) (hE_0_44_2 : ∀ j : Int, 0 ≤ j → (j = x3 → pieceOf_1 j = x13) ∧ (j ≠ x3 → pieceOf_1 j = pieceOf_2 j)) (kz_0_32 : 0 ≤ pm_0 ∧ pm_0 ≤ 80) : PCN (pm_0) (pieceOf_0) (x15) (x5) := by
  subst fe_0_32_1
  subst fe_0_32_2
  have e_hE_0_33_1 := funext hE_0_33_1; subst e_hE_0_33_1
  have e_hE_0_33_2 := funext hE_0_33_2; subst e_hE_0_33_2
  have e_hE_0_34_1 := funext hE_0_34_1; subst e_hE_0_34_1
  have e_hE_0_34_2 := funext hE_0_34_2; subst e_hE_0_34_2
  have e_hE_0_42_1 := funext hE_0_42_1; subst e_hE_0_42_1
  have e_hE_0_42_2 := funext hE_0_42_2; subst e_hE_0_42_2
  have e_hE_0_43_1 := funext hE_0_43_1; subst e_hE_0_43_1
  have e_hE_0_43_2 := funext hE_0_43_2; subst e_hE_0_43_2
  first
    | assumption
    | (have h := ‹PCN _ _ _ _›
       have hs := pc_sum (m := pm_0) (po := pieceOf_2) (po_zq := pieceOf_0) (e := x3) (f := x4) (p := pieceOf_0 x4) (dE := drawnEdge_0) (by omega) (by omega) (by omega) (by omega) (by omega) ?_ ?_ ?_ rfl
       · unfold PCN; unfold PCN at h; omega
       · have v := (hE_0_44_1 x4 (by omega)).1 rfl
         first
           | exact Or.inl ⟨by omega, by omega⟩
           | exact Or.inr ⟨by omega, by omega⟩
       · intro j a b c; rw [(hE_0_44_1 j a).2 c, (hE_0_44_2 j a).2 b]
       · have v := (hE_0_44_1 x4 (by omega)).1 rfl
         have v2 := (hE_0_44_1 x3 (by omega)).2 (by omega)
         have v3 := (hE_0_44_2 x3 (by omega)).1 rfl
         omega)
    | (have h := ‹PCN _ _ _ _›; unfold PCN; unfold PCN at h; omega)
def o_Mo_pieces_13 : or_T := (56, 17, [(0, (2, 0, 0, [165])), (1, (2, 0, 0, [165])), (2, (0, 0, 1, [])), (3, (0, 1, 79, [])), (4, (0, 0, 78, [])), (5, (0, -200, 6500, [])), (6, (2, 0, 0, [189])), (7, (0, 0, 0, [])), (8, (0, 0, 0, [])), (9, (2, 0, 0, [190])), (10, (0, -1, 79, [])), (11, (0, -1, 79, [])), (12, (0, 1, 1, [])), (13, (0, -1, 78, [])), (14, (0, 0, 79, [])), (15, (0, 1, 1, [])), (16, (0, 1, 79, []))], [(6, [16, 4], [1]), (20, [1, 3, 4, 12], [60, 0, 3, 98, 33, 34, 42]), (20, [3, 1], [30, -1, 1, 0, 0, -1, 1, 32]), (24, [0, 1], []), (100, [9, 4, 13], []), (9, [9, 1], [44]), (20, [1, 3, 4, 12], [60, 0, 3, 98, 33, 34, 42]), (20, [3, 1], [30, -1, 1, 0, 0, -1, 1, 32]), (100, [9, 3, 13], []), (7, [13, 13], [5]), (7, [13, 14], [5]), (10, [14, 9, 4], []), (10, [13, 9, 3], []), (8, [12], [1]), (20, [1, 3, 4, 12], [60, 0, 3, 98, 33, 34, 42]), (7, [10, 11], [1]), (10, [11, 9, 4], []), (10, [10, 9, 3], []), (8, [8], [0]), (10, [8, 6, 4], []), (9, [6, 1], [43]), (8, [7], [0]), (10, [7, 6, 3], []), (7, [4, 3], [2]), (20, [1], [60, 1, 5, 100, 32, 33, 34, 43, 42, 44]), (20, [1, 3, 4, 2], [60, 0, 5, 101, 33, 34, 43, 42, 44]), (20, [1, 2, 5], [60, 1, 1, 105, 32, 44]), (20, [3, 1], [30, -1, 1, 0, 0, -1, 1, 32])], [], [], [(20, [1], [60, 1, 5, 100, 32, 33, 34, 43, 42, 44]), (20, [1, 3, 16, 15], [60, 0, 5, 101, 33, 34, 43, 42, 44]), (20, [1, 15, 5], [60, 1, 1, 105, 32, 44])], [], [(16, 4, 1, 1), (16, 3, -4294967296, 0), (16, 3, -4294967296, 1), (13, 14, -4294967296, -1), (4, 3, -4294967296, -1), (4, 3, -4294967296, 0)])
theorem oo_Mo_pieces_13 {kA : Nat → ClassId} : or_ok PRD kA GG o_Mo_pieces_13 := by
  refine or_mk fun A ta ws vs hD hth hl => ?_
  intro t0 r0 t1 r1 t2 k2 t3 k3 t4 k4 t5 k5 t6 r6 t7 k7 t8 k8 t9 r9 t10 k10 t11 k11 t12 k12 t13 k13 t14 k14 t15 k15 t16 k16 d0 d1 d2 d3 d4 d5 f0 f1 f2 f3 ta1 w1 le1 s1 f5 f6 f7 ta2 w2 le2 s2 f9 f10 f11 f12 f13 f14 f15 f16 f17 f18 f19 f20 f21 f22 f23 f24 f25 f26 f27
  replace f2 := shm_975 f2
  replace f3 := shm_5 f3
  have s1 : (∀ b j, w_el ws b j = if b = v_ad (n_v vs 9) ∧ j = (v_iv (n_v vs 4)).toNat then v_iv (n_v vs 13) else w_el w1 b j) ∧ ∀ b k, w_fd ws b k = w_fd w1 b k := s1.2
  replace f5 := shm_533 f5
  have s2 : (∀ b j, w_el w1 b j = if b = v_ad (n_v vs 9) ∧ j = (v_iv (n_v vs 3)).toNat then v_iv (n_v vs 13) else w_el w2 b j) ∧ ∀ b k, w_fd w1 b k = w_fd w2 b k := s2.2
  replace f11 := shm_107 f11
  replace f12 := shm_107 f12
  replace f13 := shm_142 f13
  replace f14 := shm_729 f14
  replace f19 := shm_107 f19
  replace f20 := shm_532 f20
  replace f22 := shm_107 f22
  replace f23 := shm_6 f23
  replace f24 := shm_1149 f24
  replace f26 := shm_1153 f26
  have q1 : n_v vs 1 = n_v vs 0 := f3.symm
  simp only [q1] at f2 f5 f14 f20 f24 f26
  have ar_0_33_1 : w_ar w1 (n_v vs 0) 33 = w_ar ws (n_v vs 0) 33 := congrArg v_ad (s1.2 _ _).symm
  have ar_0_33_2 : w_ar w2 (n_v vs 0) 33 = w_ar ws (n_v vs 0) 33 := by rw [← ar_0_33_1]; show v_ad (w_fd w2 _ _) = v_ad (w_fd w1 _ _); rw [s2.2]
  have cr_0_33 := fdq_117 hD hth r0
  have ar_0_34_1 : w_ar w1 (n_v vs 0) 34 = w_ar ws (n_v vs 0) 34 := congrArg v_ad (s1.2 _ _).symm
  have ar_0_34_2 : w_ar w2 (n_v vs 0) 34 = w_ar ws (n_v vs 0) 34 := by rw [← ar_0_34_1]; show v_ad (w_fd w2 _ _) = v_ad (w_fd w1 _ _); rw [s2.2]
  have cr_0_34 := fdq_118 hD hth r0
  have ar_0_42_1 : w_ar w1 (n_v vs 0) 42 = w_ar ws (n_v vs 0) 42 := congrArg v_ad (s1.2 _ _).symm
  have ar_0_42_2 : w_ar w2 (n_v vs 0) 42 = w_ar ws (n_v vs 0) 42 := by rw [← ar_0_42_1]; show v_ad (w_fd w2 _ _) = v_ad (w_fd w1 _ _); rw [s2.2]
  have cr_0_42 := fdq_136 hD hth r0
  have ar_0_43_1 : w_ar w1 (n_v vs 0) 43 = w_ar ws (n_v vs 0) 43 := congrArg v_ad (s1.2 _ _).symm
  have ar_0_43_2 : w_ar w2 (n_v vs 0) 43 = w_ar ws (n_v vs 0) 43 := by rw [← ar_0_43_1]; show v_ad (w_fd w2 _ _) = v_ad (w_fd w1 _ _); rw [s2.2]
  have cr_0_43 := fdq_137 hD hth r0
  have ar_0_44_1 : w_ar w1 (n_v vs 0) 44 = w_ar ws (n_v vs 0) 44 := congrArg v_ad (s1.2 _ _).symm
  have ar_0_44_2 : w_ar w2 (n_v vs 0) 44 = w_ar ws (n_v vs 0) 44 := by rw [← ar_0_44_1]; show v_ad (w_fd w2 _ _) = v_ad (w_fd w1 _ _); rw [s2.2]
  have ad_9 : v_ad (n_v vs 9) = w_ar ws (n_v vs 0) 44 := (congrArg v_ad f5).trans ar_0_44_1
  have ad_6 : v_ad (n_v vs 6) = w_ar ws (n_v vs 0) 43 := (congrArg v_ad f20).trans ar_0_43_2
  simp only [ar_0_33_1, ar_0_34_1, ar_0_42_1, ad_9] at f11
  have h11 : v_iv (n_v vs 14) = w_ei w2 (w_ar ws (n_v vs 0) 44) (v_iv (n_v vs 4)) := f11
  simp only [ad_9] at f12
  have h12 : v_iv (n_v vs 13) = w_ei w2 (w_ar ws (n_v vs 0) 44) (v_iv (n_v vs 3)) := f12
  simp only [ar_0_33_2, ar_0_34_2, ar_0_42_2, ad_9] at f14
  simp only [ad_6] at f19
  have h19 : v_iv (n_v vs 8) = w_ei w2 (w_ar ws (n_v vs 0) 43) (v_iv (n_v vs 4)) := f19
  simp only [ad_6] at f22
  have h22 : v_iv (n_v vs 7) = w_ei w2 (w_ar ws (n_v vs 0) 43) (v_iv (n_v vs 3)) := f22
  simp only [ar_0_33_2, ar_0_34_2, ar_0_42_2, ar_0_43_2, ar_0_44_2] at f24 f26
  have fe_0_32_1 : w_fi ws (n_v vs 0) 32 = w_fi w1 (n_v vs 0) 32 := congrArg v_iv (s1.2 _ _)
  have fe_0_32_2 : w_fi w1 (n_v vs 0) 32 = w_fi w2 (n_v vs 0) 32 := congrArg v_iv (s2.2 _ _)
  have hE_0_33_1 : ∀ j : Int, w_ei ws (w_ar ws (n_v vs 0) 33) j = w_ei w1 (w_ar ws (n_v vs 0) 33) j := el_kp s1.1 r9 cr_0_33 (by decide)
  have hE_0_33_2 : ∀ j : Int, w_ei w1 (w_ar ws (n_v vs 0) 33) j = w_ei w2 (w_ar ws (n_v vs 0) 33) j := el_kp s2.1 r9 cr_0_33 (by decide)
  have hE_0_34_1 : ∀ j : Int, w_ei ws (w_ar ws (n_v vs 0) 34) j = w_ei w1 (w_ar ws (n_v vs 0) 34) j := el_kp s1.1 r9 cr_0_34 (by decide)
  have hE_0_34_2 : ∀ j : Int, w_ei w1 (w_ar ws (n_v vs 0) 34) j = w_ei w2 (w_ar ws (n_v vs 0) 34) j := el_kp s2.1 r9 cr_0_34 (by decide)
  have hE_0_42_1 : ∀ j : Int, w_ei ws (w_ar ws (n_v vs 0) 42) j = w_ei w1 (w_ar ws (n_v vs 0) 42) j := el_kp s1.1 r9 cr_0_42 (by decide)
  have hE_0_42_2 : ∀ j : Int, w_ei w1 (w_ar ws (n_v vs 0) 42) j = w_ei w2 (w_ar ws (n_v vs 0) 42) j := el_kp s2.1 r9 cr_0_42 (by decide)
  have hE_0_43_1 : ∀ j : Int, w_ei ws (w_ar ws (n_v vs 0) 43) j = w_ei w1 (w_ar ws (n_v vs 0) 43) j := el_kp s1.1 r9 cr_0_43 (by decide)
  have hE_0_43_2 : ∀ j : Int, w_ei w1 (w_ar ws (n_v vs 0) 43) j = w_ei w2 (w_ar ws (n_v vs 0) 43) j := el_kp s2.1 r9 cr_0_43 (by decide)
  have hE_0_44_1 : ∀ j : Int, 0 ≤ j → (j = v_iv (n_v vs 4) → w_ei ws (w_ar ws (n_v vs 0) 44) j = v_iv (n_v vs 13)) ∧ (j ≠ v_iv (n_v vs 4) → w_ei ws (w_ar ws (n_v vs 0) 44) j = w_ei w1 (w_ar ws (n_v vs 0) 44) j) := fun j hj => ⟨fun h => by unfold w_ei; rw [s1.1, if_pos ⟨ad_9.symm, by rw [h]⟩], fun h => by unfold w_ei; rw [s1.1, if_neg (fun e => h (by have := e.2; omega))]⟩
  have hE_0_44_2 : ∀ j : Int, 0 ≤ j → (j = v_iv (n_v vs 3) → w_ei w1 (w_ar ws (n_v vs 0) 44) j = v_iv (n_v vs 13)) ∧ (j ≠ v_iv (n_v vs 3) → w_ei w1 (w_ar ws (n_v vs 0) 44) j = w_ei w2 (w_ar ws (n_v vs 0) 44) j) := fun j hj => ⟨fun h => by unfold w_ei; rw [s2.1, if_pos ⟨ad_9.symm, by rw [h]⟩], fun h => by unfold w_ei; rw [s2.1, if_neg (fun e => h (by have := e.2; omega))]⟩
  have kz_0_32 := fdq_140 hD hth r0
  have nf0 : fc_1 PRD (20, [1], [60, 1, 5, 100, 32, 33, 34, 43, 42, 44]) ws (vs) := by
    refine ⟨nf_in hl rfl, sgq_1149 ?_⟩
    · show PCI (w_fi ws (n_v vs 1) 32) (w_ei ws (w_ar ws (n_v vs 1) 33)) (w_ei ws (w_ar ws (n_v vs 1) 34)) (w_ei ws (w_ar ws (n_v vs 1) 43)) (w_ei ws (w_ar ws (n_v vs 1) 42)) (w_ei ws (w_ar ws (n_v vs 1) 44))
      rw [q1]
      exact vc_Mo_pieces_13_0 (v_iv (n_v vs 3)) (v_iv (n_v vs 4)) (v_iv (n_v vs 7)) (v_iv (n_v vs 8)) (v_iv (n_v vs 12)) (v_iv (n_v vs 13)) (v_iv (n_v vs 14)) (v_iv (n_v vs 16)) (w_ei ws (w_ar ws (n_v vs 0) 33)) (w_ei ws (w_ar ws (n_v vs 0) 34)) (w_ei ws (w_ar ws (n_v vs 0) 42)) (w_fi ws (n_v vs 0) 32) (w_ei w1 (w_ar ws (n_v vs 0) 33)) (w_ei w1 (w_ar ws (n_v vs 0) 34)) (w_ei w1 (w_ar ws (n_v vs 0) 42)) (w_fi w1 (n_v vs 0) 32) (w_ei w2 (w_ar ws (n_v vs 0) 44)) (w_ei w2 (w_ar ws (n_v vs 0) 33)) (w_ei w2 (w_ar ws (n_v vs 0) 34)) (w_ei w2 (w_ar ws (n_v vs 0) 42)) (w_ei w2 (w_ar ws (n_v vs 0) 43)) (w_fi w2 (n_v vs 0) 32) (w_ei ws (w_ar ws (n_v vs 0) 43)) (w_ei w1 (w_ar ws (n_v vs 0) 43)) (w_ei ws (w_ar ws (n_v vs 0) 44)) (w_ei w1 (w_ar ws (n_v vs 0) 44)) k3 k4 k7 k8 k12 k13 k14 k16 d0 d1 d3 d4 f2 h11 h12 f13 f14 h19 h22 f23 f24 fe_0_32_1 fe_0_32_2 hE_0_33_1 hE_0_33_2 hE_0_34_1 hE_0_34_2 hE_0_42_1 hE_0_42_2 hE_0_43_1 hE_0_43_2 hE_0_44_1 hE_0_44_2 kz_0_32
  have nf1 : fc_1 PRD (20, [1, 3, 16, 15], [60, 0, 5, 101, 33, 34, 43, 42, 44]) ws (vs) := by
    refine ⟨nf_in hl rfl, sgq_1154 ?_⟩
    · show PC2 (w_ei ws (w_ar ws (n_v vs 1) 33)) (w_ei ws (w_ar ws (n_v vs 1) 34)) (w_ei ws (w_ar ws (n_v vs 1) 43)) (w_ei ws (w_ar ws (n_v vs 1) 42)) (w_ei ws (w_ar ws (n_v vs 1) 44)) (v_iv (n_v vs 3)) (v_iv (n_v vs 16)) (v_iv (n_v vs 15))
      rw [q1]
      exact vc_Mo_pieces_13_1 (v_iv (n_v vs 3)) (v_iv (n_v vs 4)) (v_iv (n_v vs 8)) (v_iv (n_v vs 12)) (v_iv (n_v vs 13)) (v_iv (n_v vs 15)) (v_iv (n_v vs 16)) (w_ei ws (w_ar ws (n_v vs 0) 33)) (w_ei ws (w_ar ws (n_v vs 0) 34)) (w_ei ws (w_ar ws (n_v vs 0) 42)) (w_fi ws (n_v vs 0) 32) (w_ei w1 (w_ar ws (n_v vs 0) 33)) (w_ei w1 (w_ar ws (n_v vs 0) 34)) (w_ei w1 (w_ar ws (n_v vs 0) 42)) (w_fi w1 (n_v vs 0) 32) (w_ei w2 (w_ar ws (n_v vs 0) 33)) (w_ei w2 (w_ar ws (n_v vs 0) 34)) (w_ei w2 (w_ar ws (n_v vs 0) 42)) (w_ei w2 (w_ar ws (n_v vs 0) 43)) (w_fi w2 (n_v vs 0) 32) (w_ei ws (w_ar ws (n_v vs 0) 43)) (w_ei w1 (w_ar ws (n_v vs 0) 43)) (w_ei ws (w_ar ws (n_v vs 0) 44)) k3 k15 k16 fe_0_32_1 fe_0_32_2 hE_0_33_1 hE_0_33_2 hE_0_34_1 hE_0_34_2 hE_0_42_1 hE_0_42_2 hE_0_43_1 hE_0_43_2 kz_0_32
  have nf2 : fc_1 PRD (20, [1, 15, 5], [60, 1, 1, 105, 32, 44]) ws (vs) := by
    refine ⟨nf_in hl rfl, sgq_1153 ?_⟩
    · show PCN (w_fi ws (n_v vs 1) 32) (w_ei ws (w_ar ws (n_v vs 1) 44)) (v_iv (n_v vs 15)) (v_iv (n_v vs 5))
      rw [q1]
      exact vc_Mo_pieces_13_2 (v_iv (n_v vs 2)) (v_iv (n_v vs 3)) (v_iv (n_v vs 4)) (v_iv (n_v vs 5)) (v_iv (n_v vs 13)) (v_iv (n_v vs 14)) (v_iv (n_v vs 15)) (v_iv (n_v vs 16)) (w_ei ws (w_ar ws (n_v vs 0) 33)) (w_ei ws (w_ar ws (n_v vs 0) 34)) (w_ei ws (w_ar ws (n_v vs 0) 42)) (w_fi ws (n_v vs 0) 32) (w_ei w1 (w_ar ws (n_v vs 0) 33)) (w_ei w1 (w_ar ws (n_v vs 0) 34)) (w_ei w1 (w_ar ws (n_v vs 0) 42)) (w_fi w1 (n_v vs 0) 32) (w_ei w2 (w_ar ws (n_v vs 0) 44)) (w_ei w2 (w_ar ws (n_v vs 0) 33)) (w_ei w2 (w_ar ws (n_v vs 0) 34)) (w_ei w2 (w_ar ws (n_v vs 0) 42)) (w_ei w2 (w_ar ws (n_v vs 0) 43)) (w_fi w2 (n_v vs 0) 32) (w_ei ws (w_ar ws (n_v vs 0) 43)) (w_ei w1 (w_ar ws (n_v vs 0) 43)) (w_ei ws (w_ar ws (n_v vs 0) 44)) (w_ei w1 (w_ar ws (n_v vs 0) 44)) k2 k3 k4 k5 k13 k14 k15 k16 d0 d1 d3 d4 f2 h11 h12 f23 f26 fe_0_32_1 fe_0_32_2 hE_0_33_1 hE_0_33_2 hE_0_34_1 hE_0_34_2 hE_0_42_1 hE_0_42_2 hE_0_43_1 hE_0_43_2 hE_0_44_1 hE_0_44_2 kz_0_32
  refine ⟨(fun _ h => (by cases h)), [], trivial, ?_, (fun _ h => (by cases h))⟩
  rw [List.append_nil]
  exact List.forall_mem_cons.mpr ⟨⟨show (20 : Nat) < 100 from by decide, nf0⟩, List.forall_mem_cons.mpr ⟨⟨show (20 : Nat) < 100 from by decide, nf1⟩, List.forall_mem_cons.mpr ⟨⟨show (20 : Nat) < 100 from by decide, nf2⟩, (fun _ h => (by cases h))⟩⟩⟩
set_option maxHeartbeats 4000000 in
theorem vc_Mo_pieces_14_0 (x2 : Int) (x3 : Int) (x4 : Int) (x8 : Int) (x12 : Int) (x13 : Int) (pt_0 : Int → Int) (ph_0 : Int → Int) (drawnNode_0 : Int → Int) (pieceOf_0 : Int → Int) (drawnEdge_0 : Int → Int) (k2 : 0 ≤ x2 ∧ x2 ≤ 1) (k3 : 1 ≤ x3 ∧ x3 ≤ 79) (k4 : 0 ≤ x4 ∧ x4 ≤ 78) (k12 : 0 ≤ x12 ∧ x12 ≤ 0) (k13 : 1 ≤ x13 ∧ x13 ≤ 79) (f0 : x13 = x4 + 1) (f2 : SHN (pt_0) (ph_0) (drawnNode_0) (x3) (x4) (x12)) (f14 : PC2 (pt_0) (ph_0) (drawnEdge_0) (drawnNode_0) (pieceOf_0) (x3) (x4) (x2)) : PC2 (pt_0) (ph_0) (drawnEdge_0) (drawnNode_0) (pieceOf_0) (x3) (x13) (x2) := by
  first
    | (have h := ‹PC4 _ _ _ _ _ _ _›; rw [show x6 = 0 by omega]; exact h)
    | (intro h0; exfalso; omega)
    | (have h := ‹PC2 _ _ _ _ _ _ _ _›
       first | rw [show x8 = x4 + 1 by omega] | rw [show x9 = x4 + 1 by omega] | rw [show x12 = x4 + 1 by omega] | rw [show x13 = x4 + 1 by omega]
       refine pc2_next h (fun _ de df hs => ?_)
       first
         | (exfalso; omega)
         | omega
         | exact absurd (‹SHN _ _ _ _ _ _›.mpr hs) (by omega))
def o_Mo_pieces_14 : or_T := (56, 14, [(2, (0, 0, 1, [])), (3, (0, 1, 79, [])), (4, (0, 0, 78, [])), (12, (0, 0, 0, [])), (13, (0, 1, 79, []))], [(6, [13, 4], [1]), (20, [1, 3, 4, 12], [60, 0, 3, 98, 33, 34, 42]), (20, [1, 3, 4, 2], [60, 0, 5, 101, 33, 34, 43, 42, 44]), (24, [0, 1], [])], [], [], [(20, [1, 3, 13, 2], [60, 0, 5, 101, 33, 34, 43, 42, 44])], [], [])
theorem oo_Mo_pieces_14 {kA : Nat → ClassId} : or_ok PRD kA GG o_Mo_pieces_14 := by
  refine or_mk fun A ta ws vs hD hth hl => ?_
  intro t2 k2 t3 k3 t4 k4 t12 k12 t13 k13 f0 f2 f14 f17
  replace f0 := shm_4 f0
  replace f2 := shm_729 f2
  replace f14 := shm_1154 f14
  replace f17 := shm_5 f17
  have q1 : n_v vs 1 = n_v vs 0 := f17.symm
  simp only [q1] at f2 f14
  have nf0 : fc_1 PRD (20, [1, 3, 13, 2], [60, 0, 5, 101, 33, 34, 43, 42, 44]) ws (vs) := by
    refine ⟨nf_in hl rfl, sgq_1154 ?_⟩
    · show PC2 (w_ei ws (w_ar ws (n_v vs 1) 33)) (w_ei ws (w_ar ws (n_v vs 1) 34)) (w_ei ws (w_ar ws (n_v vs 1) 43)) (w_ei ws (w_ar ws (n_v vs 1) 42)) (w_ei ws (w_ar ws (n_v vs 1) 44)) (v_iv (n_v vs 3)) (v_iv (n_v vs 13)) (v_iv (n_v vs 2))
      rw [q1]
      exact vc_Mo_pieces_14_0 (v_iv (n_v vs 2)) (v_iv (n_v vs 3)) (v_iv (n_v vs 4)) (v_iv (n_v vs 8)) (v_iv (n_v vs 12)) (v_iv (n_v vs 13)) (w_ei ws (w_ar ws (n_v vs 0) 33)) (w_ei ws (w_ar ws (n_v vs 0) 34)) (w_ei ws (w_ar ws (n_v vs 0) 42)) (w_ei ws (w_ar ws (n_v vs 0) 44)) (w_ei ws (w_ar ws (n_v vs 0) 43)) k2 k3 k4 k12 k13 f0 f2 f14
  refine ⟨(fun _ h => (by cases h)), [], trivial, ?_, (fun _ h => (by cases h))⟩
  rw [List.append_nil]
  exact List.forall_mem_cons.mpr ⟨⟨show (20 : Nat) < 100 from by decide, nf0⟩, (fun _ h => (by cases h))⟩
def n_Mo_pieces_an : List an_T := [(2, [(0, (2, 0, 0, [165])), (1, (0, 0, 80, []))], [], (0, 0), [(0, 0, 99998), (1, 2, 80), (0, 0, 100000), (0, 0, 0), (0, 0, 0), (0, 0, 0), (0, 0, 0)], [], [], [(2, 0, 0, [165])], 0, [], [(20, [1, 2], [60, 0, 2, 99, 43, 44]), (24, [0, 1], [])]), (38, [(0, (2, 0, 0, [165])), (1, (0, 0, 1, []))], [], (0, 0), [(0, 0, 99962), (2, 3, (Int.negSucc 199)), (0, 0, 100000), (0, 0, 0), (0, 0, 0), (0, 0, 0), (0, 0, 0)], [], [], [(2, 0, 0, [165])], 0, [(0, (Int.negSucc 199), 6500, [])], [(20, [1], [60, 1, 5, 100, 32, 33, 34, 43, 42, 44]), (20, [1, 2], [60, 1, 5, 102, 32, 33, 34, 43, 42, 44]), (20, [1, 2, 3], [60, 1, 1, 104, 32, 44]), (24, [0, 1], [])]), (46, [(0, (2, 0, 0, [165])), (1, (0, 0, 1, [])), (2, (0, 0, 80, []))], [], (0, 0), [(0, 0, 99962), (2, 4, (Int.negSucc 199)), (0, 0, 99954), (1, 3, 80), (0, 0, 100000), (0, 0, 0), (0, 0, 0)], [(2, 3, (Int.negSucc 999999999999), 0)], [], [(2, 0, 0, [165])], 0, [(0, (Int.negSucc 199), 6500, [])], [(20, [1], [60, 1, 5, 100, 32, 33, 34, 43, 42, 44]), (20, [1, 3, 2], [60, 0, 5, 103, 33, 34, 43, 42, 44]), (20, [1, 2, 4], [60, 1, 1, 105, 32, 44]), (24, [0, 1], [])]), (56, [(0, (2, 0, 0, [165])), (1, (0, 0, 1, [])), (2, (0, 0, 79, [])), (3, (0, 0, 79, []))], [], (0, 0), [(0, 0, 99962), (2, 5, (Int.negSucc 199)), (0, 0, 99954), (1, 3, 80), (0, 0, 99944), (1, 4, 79), (0, 0, 100000)], [(2, 3, (Int.negSucc 999999999999), 0), (4, 3, (Int.negSucc 999999999999), 0)], [], [(2, 0, 0, [165])], 0, [(0, (Int.negSucc 199), 6500, [])], [(20, [1], [60, 1, 5, 100, 32, 33, 34, 43, 42, 44]), (20, [1, 3, 4, 2], [60, 0, 5, 101, 33, 34, 43, 42, 44]), (20, [1, 2, 5], [60, 1, 1, 105, 32, 44]), (20, [3, 1], [30, (Int.negSucc 0), 1, 0, 0, (Int.negSucc 0), 1, 32]), (24, [0, 1], [])])]
def t_Mo_pieces_ct : ct_L := [(0, 547, e_Mo_min), (1, 659, e_Mo_shareNew)]
set_option maxRecDepth 100000 in
theorem c_Mo_pieces {l : Launch} {D : va_G} {kA : Nat → ClassId} (h_Mo_min : ct_ok PRD l D kA GG y_Mo_min z_Mo_min e_Mo_min) (h_Mo_shareNew : ct_ok PRD l D kA GG y_Mo_shareNew z_Mo_shareNew e_Mo_shareNew) : ct_ok PRD l D kA GG y_Mo_pieces z_Mo_pieces e_Mo_pieces := chk_all_ok (FT := [(84, 13, 43), (87, 13, 44), (597, 13, 32)]) (PT := []) (CT := t_Mo_pieces_ct) (KT := []) (NT := []) (AN := n_Mo_pieces_an) (OT := [o_Mo_pieces_0, o_Mo_pieces_1, o_Mo_pieces_2, o_Mo_pieces_3, o_Mo_pieces_4, o_Mo_pieces_5, o_Mo_pieces_6, o_Mo_pieces_7, o_Mo_pieces_8, o_Mo_pieces_9, o_Mo_pieces_10, o_Mo_pieces_11, o_Mo_pieces_12, o_Mo_pieces_13, o_Mo_pieces_14]) 7 464 (List.forall_mem_cons.mpr ⟨oo_Mo_pieces_0, List.forall_mem_cons.mpr ⟨oo_Mo_pieces_1, List.forall_mem_cons.mpr ⟨oo_Mo_pieces_2, List.forall_mem_cons.mpr ⟨oo_Mo_pieces_3, List.forall_mem_cons.mpr ⟨oo_Mo_pieces_4, List.forall_mem_cons.mpr ⟨oo_Mo_pieces_5, List.forall_mem_cons.mpr ⟨oo_Mo_pieces_6, List.forall_mem_cons.mpr ⟨oo_Mo_pieces_7, List.forall_mem_cons.mpr ⟨oo_Mo_pieces_8, List.forall_mem_cons.mpr ⟨oo_Mo_pieces_9, List.forall_mem_cons.mpr ⟨oo_Mo_pieces_10, List.forall_mem_cons.mpr ⟨oo_Mo_pieces_11, List.forall_mem_cons.mpr ⟨oo_Mo_pieces_12, List.forall_mem_cons.mpr ⟨oo_Mo_pieces_13, List.forall_mem_cons.mpr ⟨oo_Mo_pieces_14, List.forall_mem_nil _⟩⟩⟩⟩⟩⟩⟩⟩⟩⟩⟩⟩⟩⟩⟩) (by decide +kernel) ⟨List.forall_mem_cons.mpr ⟨gf_Mo_84, List.forall_mem_cons.mpr ⟨gf_Mo_87, List.forall_mem_cons.mpr ⟨gf_Mo_597, List.forall_mem_nil _⟩⟩⟩, List.forall_mem_nil _, List.forall_mem_cons.mpr ⟨cl_static (y := y_Mo_min) h_Mo_min wm_3174 wm_9 wm_3172 wm_3173 ⟨by decide, by decide, by decide +kernel⟩ (by decide), List.forall_mem_cons.mpr ⟨cl_virtual (y := y_Mo_shareNew) (ci := 13) rfl rfl ⟨_, _, rfl⟩ (by decide +kernel) h_Mo_shareNew wm_3211 wm_9 wm_3208 wm_3210 wv_15_11 ⟨by decide, by decide, by decide +kernel⟩ (by decide), List.forall_mem_nil _⟩⟩, List.forall_mem_nil _, List.forall_mem_nil _, GG_pl⟩ (by decide +kernel)
set_option maxHeartbeats 4000000 in
theorem vc_Mo_styleNeed_0_0 (x2 : Int) (x3 : Int) (x4 : Int) (fault_0 : Int) (tokenKind_0 : Int → Int) (cur_0 : Int) (tokens_0 : Int) (gx : Int) (k2 : 0 ≤ x2 ∧ x2 ≤ 2009) (k3 : 0 ≤ x3 ∧ x3 ≤ 5) (k4 : 0 ≤ x4 ∧ x4 ≤ 0) (f0 : x4 ≤ 0) (g1 : x4 = fault_0) (f2 : ((cur_0 + 1) ≤ tokens_0) ∧ ((tokens_0 ≤ 2010) ∧ ((tokenKind_0 ((tokens_0 - 1)) = 0) ∨ (tokenKind_0 ((tokens_0 - 1)) = 4)))) (f3 : 1 * cur_0 + ((-1) * x2 + 0) ≤ 0) (f4 : (-1) * cur_0 + (1 * x2 + 0) ≤ 0) (f5 : fault_0 = x3) (hK_0_160 : ∀ j : Int, 0 ≤ j → j < 2010 → 0 ≤ tokenKind_0 j ∧ tokenKind_0 j ≤ 4) (kz_0_8 : 0 ≤ fault_0 ∧ fault_0 ≤ 5) (kz_0_157 : 0 ≤ tokens_0 ∧ tokens_0 ≤ 2010) (kz_0_158 : 0 ≤ cur_0 ∧ cur_0 ≤ 2009) (ex2 : gx = fault_0) (ex3 : 0 ≤ gx ∧ gx ≤ 5) : fault_0 = gx := by
  first | assumption | (clear f2 hK_0_160; omega) | (clear hK_0_160; grind) | omega | grind
set_option maxHeartbeats 4000000 in
theorem vc_Mo_styleNeed_0_1 (x2 : Int) (x3 : Int) (x4 : Int) (fault_0 : Int) (tokenKind_0 : Int → Int) (cur_0 : Int) (tokens_0 : Int) (gx : Int) (k2 : 0 ≤ x2 ∧ x2 ≤ 2009) (k3 : 0 ≤ x3 ∧ x3 ≤ 5) (k4 : 0 ≤ x4 ∧ x4 ≤ 0) (f0 : x4 ≤ 0) (g1 : x4 = fault_0) (f2 : ((cur_0 + 1) ≤ tokens_0) ∧ ((tokens_0 ≤ 2010) ∧ ((tokenKind_0 ((tokens_0 - 1)) = 0) ∨ (tokenKind_0 ((tokens_0 - 1)) = 4)))) (f3 : 1 * cur_0 + ((-1) * x2 + 0) ≤ 0) (f4 : (-1) * cur_0 + (1 * x2 + 0) ≤ 0) (f5 : fault_0 = x3) (hK_0_160 : ∀ j : Int, 0 ≤ j → j < 2010 → 0 ≤ tokenKind_0 j ∧ tokenKind_0 j ≤ 4) (kz_0_8 : 0 ≤ fault_0 ∧ fault_0 ≤ 5) (kz_0_157 : 0 ≤ tokens_0 ∧ tokens_0 ≤ 2010) (kz_0_158 : 0 ≤ cur_0 ∧ cur_0 ≤ 2009) (ex2 : gx = fault_0) (ex3 : 0 ≤ gx ∧ gx ≤ 5) : gx = 0 := by
  first | assumption | (clear f2 hK_0_160; omega) | (clear hK_0_160; grind) | omega | grind
def o_Mo_styleNeed_0 : or_T := (10, 5, [(0, (2, 0, 0, [165])), (2, (0, 0, 2009, [])), (3, (0, 0, 5, [])), (4, (0, 0, 0, []))], [(8, [4], [5]), (9, [4, 0], [8]), (20, [0], [50, 2, 1, 158, 157, 160, 2, 12, 0, 7, 4, 3, 2, 0, 158, 0, 1, 2, 0, 157, 2, 7, 0, 3, 2, 0, 157, 0, 2010, 3, 14, 1, 10, 3, 0, 160, 5, 3, 2, 0, 157, 0, 1, 0, 0, 1, 10, 3, 0, 160, 5, 3, 2, 0, 157, 0, 1, 0, 4]), (20, [0, 2], [30, 0, 1, 1, 158, -1, 0, 0]), (20, [0, 2], [30, 0, -1, 1, 158, 1, 0, 0]), (20, [0, 3], [50, 1, 0, 8, 1, 3, 2, 0, 8, 1, 1])], [], [(0, 0, 5, [])], [(20, [0, 5], [50, 1, 0, 8, 1, 3, 2, 0, 8, 1, 1]), (20, [5], [50, 0, 0, 1, 2, 1, 0, 0, 0])], [], [])
theorem oo_Mo_styleNeed_0 {kA : Nat → ClassId} : or_ok PRD kA GG o_Mo_styleNeed_0 := by
  refine or_mk fun A ta ws vs hD hth hl => ?_
  intro t0 r0 t2 k2 t3 k3 t4 k4 f0 f1 f2 f3 f4 f5
  replace f0 := shm_295 f0
  replace f1 := shm_293 f1
  replace f2 := shm_271 f2
  replace f3 := shm_272 f3
  replace f4 := shm_273 f4
  replace f5 := shm_277 f5
  have cr_0_160 := fdq_33 hD hth r0
  have g1 : v_iv (n_v vs 4) = w_fi ws (n_v vs 0) 8 := congrArg v_iv f1
  have hK_0_160 := elq_6 hD hth cr_0_160
  have kz_0_8 := fdq_34 hD hth r0
  have kz_0_157 := fdq_35 hD hth r0
  have kz_0_158 := fdq_36 hD hth r0
  obtain ⟨x, ex, hx⟩ := iv_ex (ta := ta) (lo := 0) (hi := 5) (z := w_fi ws (n_v vs 0) 8) (by omega) (by omega) (by omega) (by omega)
  have ex2 : v_iv (Value.int x) = w_fi ws (n_v vs 0) 8 := ex
  have ex3 : 0 ≤ v_iv (Value.int x) ∧ v_iv (Value.int x) ≤ 5 := tv_rng hx
  have e_0 : n_v (vs ++ [Value.int x]) 0 = n_v vs 0 := n_v_old (by rw [hl]; decide)
  have e_5 : n_v (vs ++ [Value.int x]) 5 = Value.int x := n_v_new hl
  have nf0 : fc_1 PRD (20, [0, 5], [50, 1, 0, 8, 1, 3, 2, 0, 8, 1, 1]) ws (vs ++ [Value.int x]) := by
    refine ⟨nf_inA hl rfl, sgq_277 ?_⟩
    · show w_fi ws (n_v (vs ++ [Value.int x]) 0) 8 = v_iv (n_v (vs ++ [Value.int x]) 5)
      simp only [e_0, e_5]
      exact vc_Mo_styleNeed_0_0 (v_iv (n_v vs 2)) (v_iv (n_v vs 3)) (v_iv (n_v vs 4)) (w_fi ws (n_v vs 0) 8) (w_ei ws (w_ar ws (n_v vs 0) 160)) (w_fi ws (n_v vs 0) 158) (w_fi ws (n_v vs 0) 157) (v_iv (Value.int x)) k2 k3 k4 f0 g1 f2 f3 f4 f5 hK_0_160 kz_0_8 kz_0_157 kz_0_158 ex2 ex3
  have nf1 : fc_1 PRD (20, [5], [50, 0, 0, 1, 2, 1, 0, 0, 0]) ws (vs ++ [Value.int x]) := by
    refine ⟨nf_inA hl rfl, sgq_649 ?_⟩
    · show v_iv (n_v (vs ++ [Value.int x]) 5) = 0
      rw [e_5]
      exact vc_Mo_styleNeed_0_1 (v_iv (n_v vs 2)) (v_iv (n_v vs 3)) (v_iv (n_v vs 4)) (w_fi ws (n_v vs 0) 8) (w_ei ws (w_ar ws (n_v vs 0) 160)) (w_fi ws (n_v vs 0) 158) (w_fi ws (n_v vs 0) 157) (v_iv (Value.int x)) k2 k3 k4 f0 g1 f2 f3 f4 f5 hK_0_160 kz_0_8 kz_0_157 kz_0_158 ex2 ex3
  exact ⟨(fun _ h => (by cases h)), [Value.int x], ag_one hx, List.forall_mem_cons.mpr ⟨⟨show (20 : Nat) < 100 from by decide, nf0⟩, List.forall_mem_cons.mpr ⟨⟨show (20 : Nat) < 100 from by decide, nf1⟩, (fun _ h => (by cases h))⟩⟩, (fun _ h => (by cases h))⟩
set_option maxHeartbeats 4000000 in
theorem vc_Mo_styleNeed_1_0 (x5 : Int) (x6 : Int) (cur_0 : Int) (tokenKind_0 : Int → Int) (fault_0 : Int) (tokens_0 : Int) (gx : Int) (k5 : 0 ≤ x5 ∧ x5 ≤ 5) (k6 : 0 ≤ x6 ∧ x6 ≤ 0) (f2 : (x6 = 1) → (tokenKind_0 (cur_0) = 3)) (f4 : fault_0 = x5) (f5 : x5 = 0) (f8 : ((cur_0 + 1) ≤ tokens_0) ∧ ((tokens_0 ≤ 2010) ∧ ((tokenKind_0 ((tokens_0 - 1)) = 0) ∨ (tokenKind_0 ((tokens_0 - 1)) = 4)))) (hK_0_160 : ∀ j : Int, 0 ≤ j → j < 2010 → 0 ≤ tokenKind_0 j ∧ tokenKind_0 j ≤ 4) (kz_0_8 : 0 ≤ fault_0 ∧ fault_0 ≤ 5) (kz_0_157 : 0 ≤ tokens_0 ∧ tokens_0 ≤ 2010) (kz_0_158 : 0 ≤ cur_0 ∧ cur_0 ≤ 2009) (ex2 : gx = fault_0) : 1 * fault_0 + ((-1) * gx + 0) ≤ 0 := by
  first | with_reducible assumption | ((have f8_c0 := f8.1); (have f8_c1 := f8.2.1); (have f8_c2 := f8.2.2); (try and_intros) <;> first | with_reducible assumption | (clear f8_c2 f8 hK_0_160 f2; omega)) | ((have f8_c0 := f8.1); (have f8_c1 := f8.2.1); (have f8_c2 := f8.2.2); (first | have f2_b := f2 (by clear f8_c2 f8 hK_0_160 f2; omega) | skip); (first | have f2_d := f2 (by with_reducible assumption) | skip); (try and_intros) <;> first | with_reducible assumption | (clear f8_c2 f8 hK_0_160 f2; omega)) | ((have f8_c0 := f8.1); (have f8_c1 := f8.2.1); (have f8_c2 := f8.2.2); (first | have f2_b := f2 (by clear f8_c2 f8 hK_0_160 f2; omega) | skip); (first | have f2_d := f2 (by with_reducible assumption) | skip); (first | have f8_q := tk_nx0 f8 (by clear f8_c2 f8 hK_0_160 f2; omega) | skip); (try and_intros) <;> first | with_reducible assumption | (clear f8_c2 f8 hK_0_160 f2; omega)) | ((have f8_c0 := f8.1); (have f8_c1 := f8.2.1); (have f8_c2 := f8.2.2); (first | have f2_b := f2 (by clear f8_c2 f8 hK_0_160 f2; omega) | skip); (first | have f2_d := f2 (by with_reducible assumption) | skip); (first | have f8_q := tk_nx0 f8 (by clear f8_c2 f8 hK_0_160 f2; omega) | skip); (first | have f8_r0 := tk_nx1 (c := cur_0) f8.2 (by clear f8_c2 f8 hK_0_160 f2; omega) (by clear f8_c2 f8 hK_0_160 f2; omega) | skip); (try and_intros) <;> first | with_reducible assumption | (clear f8_c2 f8 hK_0_160 f2; omega)) | omega
set_option maxHeartbeats 4000000 in
theorem vc_Mo_styleNeed_1_1 (x5 : Int) (x6 : Int) (cur_0 : Int) (tokenKind_0 : Int → Int) (fault_0 : Int) (tokens_0 : Int) (gx : Int) (k5 : 0 ≤ x5 ∧ x5 ≤ 5) (k6 : 0 ≤ x6 ∧ x6 ≤ 0) (f2 : (x6 = 1) → (tokenKind_0 (cur_0) = 3)) (f4 : fault_0 = x5) (f5 : x5 = 0) (f8 : ((cur_0 + 1) ≤ tokens_0) ∧ ((tokens_0 ≤ 2010) ∧ ((tokenKind_0 ((tokens_0 - 1)) = 0) ∨ (tokenKind_0 ((tokens_0 - 1)) = 4)))) (hK_0_160 : ∀ j : Int, 0 ≤ j → j < 2010 → 0 ≤ tokenKind_0 j ∧ tokenKind_0 j ≤ 4) (kz_0_8 : 0 ≤ fault_0 ∧ fault_0 ≤ 5) (kz_0_157 : 0 ≤ tokens_0 ∧ tokens_0 ≤ 2010) (kz_0_158 : 0 ≤ cur_0 ∧ cur_0 ≤ 2009) (ex2 : gx = fault_0) : (-1) * fault_0 + (1 * gx + 0) ≤ 0 := by
  first | with_reducible assumption | ((have f8_c0 := f8.1); (have f8_c1 := f8.2.1); (have f8_c2 := f8.2.2); (try and_intros) <;> first | with_reducible assumption | (clear f8_c2 f8 hK_0_160 f2; omega)) | ((have f8_c0 := f8.1); (have f8_c1 := f8.2.1); (have f8_c2 := f8.2.2); (first | have f2_b := f2 (by clear f8_c2 f8 hK_0_160 f2; omega) | skip); (first | have f2_d := f2 (by with_reducible assumption) | skip); (try and_intros) <;> first | with_reducible assumption | (clear f8_c2 f8 hK_0_160 f2; omega)) | ((have f8_c0 := f8.1); (have f8_c1 := f8.2.1); (have f8_c2 := f8.2.2); (first | have f2_b := f2 (by clear f8_c2 f8 hK_0_160 f2; omega) | skip); (first | have f2_d := f2 (by with_reducible assumption) | skip); (first | have f8_q := tk_nx0 f8 (by clear f8_c2 f8 hK_0_160 f2; omega) | skip); (try and_intros) <;> first | with_reducible assumption | (clear f8_c2 f8 hK_0_160 f2; omega)) | ((have f8_c0 := f8.1); (have f8_c1 := f8.2.1); (have f8_c2 := f8.2.2); (first | have f2_b := f2 (by clear f8_c2 f8 hK_0_160 f2; omega) | skip); (first | have f2_d := f2 (by with_reducible assumption) | skip); (first | have f8_q := tk_nx0 f8 (by clear f8_c2 f8 hK_0_160 f2; omega) | skip); (first | have f8_r0 := tk_nx1 (c := cur_0) f8.2 (by clear f8_c2 f8 hK_0_160 f2; omega) (by clear f8_c2 f8 hK_0_160 f2; omega) | skip); (try and_intros) <;> first | with_reducible assumption | (clear f8_c2 f8 hK_0_160 f2; omega)) | omega
def o_Mo_styleNeed_1 : or_T := (40, 11, [(0, (2, 0, 0, [165])), (5, (0, 0, 5, [])), (6, (0, 0, 0, []))], [(20, [6, 0], [50, 1, 1, 1158, 1160, 4, 6, 1, 2, 1, 0, 0, 1, 1, 6, 3, 1, 160, 2, 1, 158, 0, 3]), (20, [0, 5], [50, 1, 0, 8, 1, 3, 2, 0, 8, 1, 1]), (20, [5], [50, 0, 0, 1, 2, 1, 0, 0, 0]), (20, [0], [50, 2, 1, 158, 157, 160, 2, 12, 0, 7, 4, 3, 2, 0, 158, 0, 1, 2, 0, 157, 2, 7, 0, 3, 2, 0, 157, 0, 2010, 3, 14, 1, 10, 3, 0, 160, 5, 3, 2, 0, 157, 0, 1, 0, 0, 1, 10, 3, 0, 160, 5, 3, 2, 0, 157, 0, 1, 0, 4])], [], [(0, 0, 5, [])], [(20, [0, 11], [30, 0, 1, 1, 8, -1, 0, 0]), (20, [0, 11], [30, 0, -1, 1, 8, 1, 0, 0])], [], [])
theorem oo_Mo_styleNeed_1 {kA : Nat → ClassId} : or_ok PRD kA GG o_Mo_styleNeed_1 := by
  refine or_mk fun A ta ws vs hD hth hl => ?_
  intro t0 r0 t5 k5 t6 k6 f2 f4 f5 f8
  replace f2 := shm_296 f2
  replace f4 := shm_277 f4
  replace f5 := shm_649 f5
  replace f8 := shm_271 f8
  have cr_0_160 := fdq_33 hD hth r0
  have hK_0_160 := elq_6 hD hth cr_0_160
  have kz_0_8 := fdq_34 hD hth r0
  have kz_0_157 := fdq_35 hD hth r0
  have kz_0_158 := fdq_36 hD hth r0
  obtain ⟨x, ex, hx⟩ := iv_ex (ta := ta) (lo := 0) (hi := 5) (z := w_fi ws (n_v vs 0) 8) (by omega) (by omega) (by omega) (by omega)
  have ex2 : v_iv (Value.int x) = w_fi ws (n_v vs 0) 8 := ex
  have ex3 : 0 ≤ v_iv (Value.int x) ∧ v_iv (Value.int x) ≤ 5 := tv_rng hx
  have e_0 : n_v (vs ++ [Value.int x]) 0 = n_v vs 0 := n_v_old (by rw [hl]; decide)
  have e_11 : n_v (vs ++ [Value.int x]) 11 = Value.int x := n_v_new hl
  have nf0 : fc_1 PRD (20, [0, 11], [30, 0, 1, 1, 8, -1, 0, 0]) ws (vs ++ [Value.int x]) := by
    refine ⟨nf_inA hl rfl, sgq_303 ?_⟩
    · show 1 * w_fi ws (n_v (vs ++ [Value.int x]) 0) 8 + ((-1) * v_iv (n_v (vs ++ [Value.int x]) 11) + 0) ≤ 0
      simp only [e_0, e_11]
      exact vc_Mo_styleNeed_1_0 (v_iv (n_v vs 5)) (v_iv (n_v vs 6)) (w_fi ws (n_v vs 0) 158) (w_ei ws (w_ar ws (n_v vs 0) 160)) (w_fi ws (n_v vs 0) 8) (w_fi ws (n_v vs 0) 157) (v_iv (Value.int x)) k5 k6 f2 f4 f5 f8 hK_0_160 kz_0_8 kz_0_157 kz_0_158 ex2
  have nf1 : fc_1 PRD (20, [0, 11], [30, 0, -1, 1, 8, 1, 0, 0]) ws (vs ++ [Value.int x]) := by
    refine ⟨nf_inA hl rfl, sgq_304 ?_⟩
    · show (-1) * w_fi ws (n_v (vs ++ [Value.int x]) 0) 8 + (1 * v_iv (n_v (vs ++ [Value.int x]) 11) + 0) ≤ 0
      simp only [e_0, e_11]
      exact vc_Mo_styleNeed_1_1 (v_iv (n_v vs 5)) (v_iv (n_v vs 6)) (w_fi ws (n_v vs 0) 158) (w_ei ws (w_ar ws (n_v vs 0) 160)) (w_fi ws (n_v vs 0) 8) (w_fi ws (n_v vs 0) 157) (v_iv (Value.int x)) k5 k6 f2 f4 f5 f8 hK_0_160 kz_0_8 kz_0_157 kz_0_158 ex2
  exact ⟨(fun _ h => (by cases h)), [Value.int x], ag_one hx, List.forall_mem_cons.mpr ⟨⟨show (20 : Nat) < 100 from by decide, nf0⟩, List.forall_mem_cons.mpr ⟨⟨show (20 : Nat) < 100 from by decide, nf1⟩, (fun _ h => (by cases h))⟩⟩, (fun _ h => (by cases h))⟩
set_option maxHeartbeats 4000000 in
theorem vc_Mo_styleNeed_2_0 (x2 : Int) (x6 : Int) (x7 : Int) (x10 : Int) (x11 : Int) (cur_0 : Int) (tokenKind_0 : Int → Int) (tokens_0 : Int) (fault_0 : Int) (faultPlace_0 : Int) (k2 : 0 ≤ x2 ∧ x2 ≤ 2009) (k6 : 0 ≤ x6 ∧ x6 ≤ 0) (k7 : 1 ≤ x7 ∧ x7 ≤ 1) (k10 : 0 ≤ x10 ∧ x10 ≤ 2000) (k11 : 0 ≤ x11 ∧ x11 ≤ 5) (f1 : (x6 = 1) → (tokenKind_0 (cur_0) = 3)) (f4 : ((cur_0 + 1) ≤ tokens_0) ∧ ((tokens_0 ≤ 2010) ∧ ((tokenKind_0 ((tokens_0 - 1)) = 0) ∨ (tokenKind_0 ((tokens_0 - 1)) = 4)))) (f5 : 1 * cur_0 + ((-1) * x2 + 0) ≤ 0) (f6 : (-1) * cur_0 + (1 * x2 + 0) ≤ 0) (f8 : ((1 ≤ x11) ∧ (fault_0 = x11)) ∨ ((x11 = 0) ∧ ((fault_0 = x7) ∧ (faultPlace_0 = x10)))) (hK_0_160 : ∀ j : Int, 0 ≤ j → j < 2010 → 0 ≤ tokenKind_0 j ∧ tokenKind_0 j ≤ 4) (kz_0_8 : 0 ≤ fault_0 ∧ fault_0 ≤ 5) (kz_0_9 : 0 ≤ faultPlace_0 ∧ faultPlace_0 ≤ 2000) (kz_0_157 : 0 ≤ tokens_0 ∧ tokens_0 ≤ 2010) (kz_0_158 : 0 ≤ cur_0 ∧ cur_0 ≤ 2009) : 1 * x2 + ((-1) * cur_0 + 0) ≤ 0 := by
  first | with_reducible assumption | ((have f4_c0 := f4.1); (have f4_c1 := f4.2.1); (have f4_c2 := f4.2.2); (try and_intros) <;> first | with_reducible assumption | (clear f4_c2 f4 f8 hK_0_160 f1; omega)) | ((have f4_c0 := f4.1); (have f4_c1 := f4.2.1); (have f4_c2 := f4.2.2); (first | have f1_b := f1 (by clear f4_c2 f4 f8 hK_0_160 f1; omega) | skip); (first | have f1_d := f1 (by with_reducible assumption) | skip); (try and_intros) <;> first | with_reducible assumption | (clear f4_c2 f4 f8 hK_0_160 f1; omega)) | ((have f4_c0 := f4.1); (have f4_c1 := f4.2.1); (have f4_c2 := f4.2.2); (first | have f1_b := f1 (by clear f4_c2 f4 f8 hK_0_160 f1; omega) | skip); (first | have f1_d := f1 (by with_reducible assumption) | skip); (first | have f4_q := tk_nx0 f4 (by clear f4_c2 f4 f8 hK_0_160 f1; omega) | skip); (try and_intros) <;> first | with_reducible assumption | (clear f4_c2 f4 f8 hK_0_160 f1; omega)) | ((have f4_c0 := f4.1); (have f4_c1 := f4.2.1); (have f4_c2 := f4.2.2); (first | have f1_b := f1 (by clear f4_c2 f4 f8 hK_0_160 f1; omega) | skip); (first | have f1_d := f1 (by with_reducible assumption) | skip); (first | have f4_q := tk_nx0 f4 (by clear f4_c2 f4 f8 hK_0_160 f1; omega) | skip); (first | have f4_r0 := tk_nx1 (c := cur_0) f4.2 (by clear f4_c2 f4 f8 hK_0_160 f1; omega) (by clear f4_c2 f4 f8 hK_0_160 f1; omega) | skip); (try and_intros) <;> first | with_reducible assumption | (clear f4_c2 f4 f8 hK_0_160 f1; omega)) | ((have f4_c0 := f4.1); (have f4_c1 := f4.2.1); (have f4_c2 := f4.2.2); (first | have f1_b := f1 (by clear f4_c2 f4 f8 hK_0_160 f1; omega) | skip); (first | have f1_d := f1 (by with_reducible assumption) | skip); (try and_intros) <;> first | with_reducible assumption | (clear f4_c2 f4 hK_0_160 f1; omega)) | omega
set_option maxHeartbeats 4000000 in
theorem vc_Mo_styleNeed_2_1 (x1 : Int) (x2 : Int) (x3 : Int) (x5 : Int) (x6 : Int) (cur_0 : Int) (tokenKind_0 : Int → Int) (tokenValue_0 : Int → Int) (fault_0 : Int) (k1 : 41 ≤ x1 ∧ x1 ≤ 125) (k2 : 0 ≤ x2 ∧ x2 ≤ 2009) (k3 : 0 ≤ x3 ∧ x3 ≤ 5) (k5 : 0 ≤ x5 ∧ x5 ≤ 5) (k6 : 0 ≤ x6 ∧ x6 ≤ 0) (f2 : SGN (cur_0) (tokenKind_0) (tokenValue_0) (x1) (x6) (x5)) (f3 : x5 = 0) (f5 : 1 * cur_0 + ((-1) * x2 + 0) ≤ 0) (f6 : (-1) * cur_0 + (1 * x2 + 0) ≤ 0) (f7 : (-1) * fault_0 + 0 ≤ (-1)) (kz_0_8 : 0 ≤ fault_0 ∧ fault_0 ≤ 5) (kz_0_158 : 0 ≤ cur_0 ∧ cur_0 ≤ 2009) : SND (fault_0) (cur_0) (tokenKind_0) (tokenValue_0) (x1) (x2) (x3) := by
  first
    | (have h := (‹SGN _ _ _ _ _ _›)
       have e : x2 = cur_0 := by omega
       rw [e]
       exact snd_no (fun z => by have := h.mpr ⟨by omega, z⟩; omega) (by omega))
def o_Mo_styleNeed_2 : or_T := (43, 12, [(0, (2, 0, 0, [165])), (1, (0, 41, 125, [])), (2, (0, 0, 2009, [])), (3, (0, 0, 5, [])), (5, (0, 0, 5, [])), (6, (0, 0, 0, [])), (7, (0, 1, 1, [])), (10, (0, 0, 2000, [])), (11, (0, 0, 5, []))], [(20, [6, 0], [50, 1, 1, 1158, 1160, 4, 6, 1, 2, 1, 0, 0, 1, 1, 6, 3, 1, 160, 2, 1, 158, 0, 3]), (20, [0, 1, 6, 5], [60, 1, 2, 14, 158, 160, 161]), (20, [5], [50, 0, 0, 1, 2, 1, 0, 0, 0]), (20, [0], [50, 2, 1, 158, 157, 160, 2, 12, 0, 7, 4, 3, 2, 0, 158, 0, 1, 2, 0, 157, 2, 7, 0, 3, 2, 0, 157, 0, 2010, 3, 14, 1, 10, 3, 0, 160, 5, 3, 2, 0, 157, 0, 1, 0, 0, 1, 10, 3, 0, 160, 5, 3, 2, 0, 157, 0, 1, 0, 4]), (20, [0, 2], [30, 0, 1, 1, 158, -1, 0, 0]), (20, [0, 2], [30, 0, -1, 1, 158, 1, 0, 0]), (20, [0], [30, -1, -1, 1, 8]), (20, [11, 0, 7, 10], [50, 2, 0, 1008, 1009, 3, 15, 2, 6, 0, 2, 0, 1, 1, 0, 1, 3, 2, 1, 8, 1, 0, 2, 6, 1, 2, 1, 0, 0, 0, 2, 7, 1, 3, 2, 1, 8, 1, 2, 1, 3, 2, 1, 9, 1, 3])], [], [], [(20, [2, 0], [30, 0, 1, 0, 0, -1, 1, 158]), (20, [0, 1, 2, 3], [60, 2, 2, 15, 8, 158, 160, 161])], [], [])
theorem oo_Mo_styleNeed_2 {kA : Nat → ClassId} : or_ok PRD kA GG o_Mo_styleNeed_2 := by
  refine or_mk fun A ta ws vs hD hth hl => ?_
  intro t0 r0 t1 k1 t2 k2 t3 k3 t5 k5 t6 k6 t7 k7 t10 k10 t11 k11 f1 f2 f3 f4 f5 f6 f7 f8
  have cr_0_160 := fdq_33 hD hth r0
  have hK_0_160 := elq_6 hD hth cr_0_160
  have kz_0_8 := fdq_34 hD hth r0
  have kz_0_9 := fdq_44 hD hth r0
  have kz_0_157 := fdq_35 hD hth r0
  have kz_0_158 := fdq_36 hD hth r0
  have nf0 : fc_1 PRD (20, [2, 0], [30, 0, 1, 0, 0, -1, 1, 158]) ws (vs) := ⟨nf_in hl rfl, sgq_281 (vc_Mo_styleNeed_2_0 (v_iv (n_v vs 2)) (v_iv (n_v vs 6)) (v_iv (n_v vs 7)) (v_iv (n_v vs 10)) (v_iv (n_v vs 11)) (w_fi ws (n_v vs 0) 158) (w_ei ws (w_ar ws (n_v vs 0) 160)) (w_fi ws (n_v vs 0) 157) (w_fi ws (n_v vs 0) 8) (w_fi ws (n_v vs 0) 9) k2 k6 k7 k10 k11 (shm_296 f1) (shm_271 f4) (shm_272 f5) (shm_273 f6) (shm_306 f8) hK_0_160 kz_0_8 kz_0_9 kz_0_157 kz_0_158)⟩
  have nf1 : fc_1 PRD (20, [0, 1, 2, 3], [60, 2, 2, 15, 8, 158, 160, 161]) ws (vs) := ⟨nf_in hl rfl, sgq_318 (vc_Mo_styleNeed_2_1 (v_iv (n_v vs 1)) (v_iv (n_v vs 2)) (v_iv (n_v vs 3)) (v_iv (n_v vs 5)) (v_iv (n_v vs 6)) (w_fi ws (n_v vs 0) 158) (w_ei ws (w_ar ws (n_v vs 0) 160)) (w_ei ws (w_ar ws (n_v vs 0) 161)) (w_fi ws (n_v vs 0) 8) k1 k2 k3 k5 k6 (shm_297 f2) (shm_649 f3) (shm_272 f5) (shm_273 f6) (shm_305 f7) kz_0_8 kz_0_158)⟩
  refine ⟨(fun _ h => (by cases h)), [], trivial, ?_, (fun _ h => (by cases h))⟩
  rw [List.append_nil]
  exact List.forall_mem_cons.mpr ⟨⟨show (20 : Nat) < 100 from by decide, nf0⟩, List.forall_mem_cons.mpr ⟨⟨show (20 : Nat) < 100 from by decide, nf1⟩, (fun _ h => (by cases h))⟩⟩
set_option maxHeartbeats 4000000 in
theorem vc_Mo_styleNeed_3_r0 (x6 : Int) (x7 : Int) (x9 : Int) (cur_0 : Int) (tokenKind_0 : Int → Int) (tokens_0 : Int) (k6 : 1 ≤ x6 ∧ x6 ≤ 1) (k7 : 0 ≤ x7 ∧ x7 ≤ 2009) (k9 : 1 ≤ x9 ∧ x9 ≤ 2010) (d0 : x7 + 1 ≤ x9 ∧ x9 ≤ x7 + 1) (g1 : x7 = cur_0) (f3 : (x6 = 1) → (tokenKind_0 (cur_0) = 3)) (f9 : ((cur_0 + 1) ≤ tokens_0) ∧ ((tokens_0 ≤ 2010) ∧ ((tokenKind_0 ((tokens_0 - 1)) = 0) ∨ (tokenKind_0 ((tokens_0 - 1)) = 4)))) (hK_0_160 : ∀ j : Int, 0 ≤ j → j < 2010 → 0 ≤ tokenKind_0 j ∧ tokenKind_0 j ≤ 4) (kz_0_157 : 0 ≤ tokens_0 ∧ tokens_0 ≤ 2010) (kz_0_158 : 0 ≤ cur_0 ∧ cur_0 ≤ 2009) : 1 ≤ x9 ∧ x9 ≤ 2009 := by
  first | with_reducible assumption | ((have f9_c0 := f9.1); (have f9_c1 := f9.2.1); (have f9_c2 := f9.2.2); (try and_intros) <;> first | with_reducible assumption | (clear f9_c2 f9 hK_0_160 f3; omega)) | ((have f9_c0 := f9.1); (have f9_c1 := f9.2.1); (have f9_c2 := f9.2.2); (first | have f3_b := f3 (by clear f9_c2 f9 hK_0_160 f3; omega) | skip); (first | have f3_d := f3 (by with_reducible assumption) | skip); (try and_intros) <;> first | with_reducible assumption | (clear f9_c2 f9 hK_0_160 f3; omega)) | ((have f9_c0 := f9.1); (have f9_c1 := f9.2.1); (have f9_c2 := f9.2.2); (first | have f3_b := f3 (by clear f9_c2 f9 hK_0_160 f3; omega) | skip); (first | have f3_d := f3 (by with_reducible assumption) | skip); (first | have f9_q := tk_nx0 f9 (by clear f9_c2 f9 hK_0_160 f3; omega) | skip); (try and_intros) <;> first | with_reducible assumption | (clear f9_c2 f9 hK_0_160 f3; omega)) | ((have f9_c0 := f9.1); (have f9_c1 := f9.2.1); (have f9_c2 := f9.2.2); (first | have f3_b := f3 (by clear f9_c2 f9 hK_0_160 f3; omega) | skip); (first | have f3_d := f3 (by with_reducible assumption) | skip); (first | have f9_q := tk_nx0 f9 (by clear f9_c2 f9 hK_0_160 f3; omega) | skip); (first | have f9_r0 := tk_nx1 (c := cur_0) f9.2 (by clear f9_c2 f9 hK_0_160 f3; omega) (by clear f9_c2 f9 hK_0_160 f3; omega) | skip); (try and_intros) <;> first | with_reducible assumption | (clear f9_c2 f9 hK_0_160 f3; omega)) | omega
def o_Mo_styleNeed_3 : or_T := (23, 10, [(0, (2, 0, 0, [165])), (1, (0, 41, 125, [])), (2, (0, 0, 2009, [])), (3, (0, 0, 5, [])), (4, (0, 0, 0, [])), (5, (0, 0, 5, [])), (6, (0, 1, 1, [])), (7, (0, 0, 2009, [])), (8, (0, 1, 1, [])), (9, (0, 1, 2010, []))], [(1, [9, 7, 8], []), (9, [7, 0], [158]), (8, [6], [1]), (20, [6, 0], [50, 1, 1, 1158, 1160, 4, 6, 1, 2, 1, 0, 0, 1, 1, 6, 3, 1, 160, 2, 1, 158, 0, 3]), (20, [0, 1, 6, 5], [60, 1, 2, 14, 158, 160, 161]), (20, [0, 5], [50, 1, 0, 8, 1, 3, 2, 0, 8, 1, 1]), (20, [5], [50, 0, 0, 1, 2, 1, 0, 0, 0]), (8, [4], [5]), (9, [4, 0], [8]), (20, [0], [50, 2, 1, 158, 157, 160, 2, 12, 0, 7, 4, 3, 2, 0, 158, 0, 1, 2, 0, 157, 2, 7, 0, 3, 2, 0, 157, 0, 2010, 3, 14, 1, 10, 3, 0, 160, 5, 3, 2, 0, 157, 0, 1, 0, 0, 1, 10, 3, 0, 160, 5, 3, 2, 0, 157, 0, 1, 0, 4]), (20, [0, 2], [30, 0, 1, 1, 158, -1, 0, 0]), (20, [0, 2], [30, 0, -1, 1, 158, 1, 0, 0]), (20, [0, 3], [50, 1, 0, 8, 1, 3, 2, 0, 8, 1, 1])], [(9, (0, 1, 2009, []))], [], [], [], [(9, 7, 1, 1)])
theorem oo_Mo_styleNeed_3 {kA : Nat → ClassId} : or_ok PRD kA GG o_Mo_styleNeed_3 := by
  refine or_mk fun A ta ws vs hD hth hl => ?_
  intro t0 r0 t1 k1 t2 k2 t3 k3 t4 k4 t5 k5 t6 k6 t7 k7 t8 k8 t9 k9 d0 f0 f1 f2 f3 f4 f5 f6 f7 f8 f9 f10 f11 f12
  replace f1 := shm_286 f1
  have cr_0_160 := fdq_33 hD hth r0
  have g1 : v_iv (n_v vs 7) = w_fi ws (n_v vs 0) 158 := congrArg v_iv f1
  have hK_0_160 := elq_6 hD hth cr_0_160
  have kz_0_157 := fdq_35 hD hth r0
  have kz_0_158 := fdq_36 hD hth r0
  have hrf0 : 1 ≤ v_iv (n_v vs 9) ∧ v_iv (n_v vs 9) ≤ 2009 := vc_Mo_styleNeed_3_r0 (v_iv (n_v vs 6)) (v_iv (n_v vs 7)) (v_iv (n_v vs 9)) (w_fi ws (n_v vs 0) 158) (w_ei ws (w_ar ws (n_v vs 0) 160)) (w_fi ws (n_v vs 0) 157) k6 k7 k9 d0 g1 (shm_296 f3) (shm_271 f9) hK_0_160 kz_0_157 kz_0_158
  have rf9 : tv_ok ta (0, 1, 2009, []) (n_v vs 9) := tv_in t9 (by first | omega | grind) (by first | omega | grind)
  refine ⟨List.forall_mem_cons.mpr ⟨rf9, (fun _ h => (by cases h))⟩, [], trivial, ?_, (fun _ h => (by cases h))⟩
  rw [List.append_nil]
  exact (fun _ h => (by cases h))
set_option maxHeartbeats 4000000 in
theorem vc_Mo_styleNeed_4_0 (x6 : Int) (x7 : Int) (x9 : Int) (cur_0 : Int) (fault_0 : Int) (cur_1 : Int) (tokenKind_1 : Int → Int) (tokenValue_1 : Int → Int) (fault_1 : Int) (tokens_1 : Int) (tokens_0 : Int) (tokenKind_0 : Int → Int) (tokenValue_0 : Int → Int) (k6 : 1 ≤ x6 ∧ x6 ≤ 1) (k7 : 0 ≤ x7 ∧ x7 ≤ 2009) (k9 : 1 ≤ x9 ∧ x9 ≤ 2009) (d0 : x7 + 1 ≤ x9 ∧ x9 ≤ x7 + 1) (g0 : x9 = cur_0) (g7 : x7 = cur_1) (f9 : (x6 = 1) → (tokenKind_1 (cur_1) = 3)) (f14 : ((cur_1 + 1) ≤ tokens_1) ∧ ((tokens_1 ≤ 2010) ∧ ((tokenKind_1 ((tokens_1 - 1)) = 0) ∨ (tokenKind_1 ((tokens_1 - 1)) = 4)))) (fe_0_8_1 : fault_0 = fault_1) (fe_0_157_1 : tokens_0 = tokens_1) (hE_0_160_1 : ∀ j : Int, tokenKind_0 j = tokenKind_1 j) (hK_0_160 : ∀ j : Int, 0 ≤ j → j < 2010 → 0 ≤ tokenKind_0 j ∧ tokenKind_0 j ≤ 4) (hE_0_161_1 : ∀ j : Int, tokenValue_0 j = tokenValue_1 j) (kz_0_8 : 0 ≤ fault_0 ∧ fault_0 ≤ 5) (kz_0_157 : 0 ≤ tokens_0 ∧ tokens_0 ≤ 2010) (kz_0_158 : 0 ≤ cur_0 ∧ cur_0 ≤ 2009) : ((cur_0 + 1) ≤ tokens_0) ∧ ((tokens_0 ≤ 2010) ∧ ((tokenKind_0 ((tokens_0 - 1)) = 0) ∨ (tokenKind_0 ((tokens_0 - 1)) = 4))) := by
  subst fe_0_8_1
  subst fe_0_157_1
  have e_hE_0_160_1 := funext hE_0_160_1; subst e_hE_0_160_1
  have e_hE_0_161_1 := funext hE_0_161_1; subst e_hE_0_161_1
  first | with_reducible assumption | ((have f14_c0 := f14.1); (have f14_c1 := f14.2.1); (have f14_c2 := f14.2.2); (try and_intros) <;> first | with_reducible assumption | (clear f14_c2 f14 hE_0_160_1 hK_0_160 hE_0_161_1 f9; omega)) | ((have f14_c0 := f14.1); (have f14_c1 := f14.2.1); (have f14_c2 := f14.2.2); (first | have f9_b := f9 (by clear f14_c2 f14 hE_0_160_1 hK_0_160 hE_0_161_1 f9; omega) | skip); (first | have f9_d := f9 (by with_reducible assumption) | skip); (try and_intros) <;> first | with_reducible assumption | (clear f14_c2 f14 hE_0_160_1 hK_0_160 hE_0_161_1 f9; omega)) | ((have f14_c0 := f14.1); (have f14_c1 := f14.2.1); (have f14_c2 := f14.2.2); (first | have f9_b := f9 (by clear f14_c2 f14 hE_0_160_1 hK_0_160 hE_0_161_1 f9; omega) | skip); (first | have f9_d := f9 (by with_reducible assumption) | skip); (first | have f14_q := tk_nx0 f14 (by clear f14_c2 f14 hE_0_160_1 hK_0_160 hE_0_161_1 f9; omega) | skip); (try and_intros) <;> first | with_reducible assumption | (clear f14_c2 f14 hE_0_160_1 hK_0_160 hE_0_161_1 f9; omega)) | ((have f14_c0 := f14.1); (have f14_c1 := f14.2.1); (have f14_c2 := f14.2.2); (first | have f9_b := f9 (by clear f14_c2 f14 hE_0_160_1 hK_0_160 hE_0_161_1 f9; omega) | skip); (first | have f9_d := f9 (by with_reducible assumption) | skip); (first | have f14_q := tk_nx0 f14 (by clear f14_c2 f14 hE_0_160_1 hK_0_160 hE_0_161_1 f9; omega) | skip); (first | have f14_r0 := tk_nx1 (c := cur_1) f14.2 (by clear f14_c2 f14 hE_0_160_1 hK_0_160 hE_0_161_1 f9; omega) (by clear f14_c2 f14 hE_0_160_1 hK_0_160 hE_0_161_1 f9; omega) | skip); (try and_intros) <;> first | with_reducible assumption | (clear f14_c2 f14 hE_0_160_1 hK_0_160 hE_0_161_1 f9; omega)) | omega
set_option maxHeartbeats 4000000 in
theorem vc_Mo_styleNeed_4_1 (x2 : Int) (x6 : Int) (x7 : Int) (x9 : Int) (cur_0 : Int) (fault_0 : Int) (cur_1 : Int) (tokenKind_1 : Int → Int) (tokenValue_1 : Int → Int) (fault_1 : Int) (tokens_1 : Int) (tokens_0 : Int) (tokenKind_0 : Int → Int) (tokenValue_0 : Int → Int) (k2 : 0 ≤ x2 ∧ x2 ≤ 2009) (k6 : 1 ≤ x6 ∧ x6 ≤ 1) (k7 : 0 ≤ x7 ∧ x7 ≤ 2009) (k9 : 1 ≤ x9 ∧ x9 ≤ 2009) (d0 : x7 + 1 ≤ x9 ∧ x9 ≤ x7 + 1) (g0 : x9 = cur_0) (g7 : x7 = cur_1) (f9 : (x6 = 1) → (tokenKind_1 (cur_1) = 3)) (f14 : ((cur_1 + 1) ≤ tokens_1) ∧ ((tokens_1 ≤ 2010) ∧ ((tokenKind_1 ((tokens_1 - 1)) = 0) ∨ (tokenKind_1 ((tokens_1 - 1)) = 4)))) (f15 : 1 * cur_1 + ((-1) * x2 + 0) ≤ 0) (f16 : (-1) * cur_1 + (1 * x2 + 0) ≤ 0) (fe_0_8_1 : fault_0 = fault_1) (fe_0_157_1 : tokens_0 = tokens_1) (hE_0_160_1 : ∀ j : Int, tokenKind_0 j = tokenKind_1 j) (hK_0_160 : ∀ j : Int, 0 ≤ j → j < 2010 → 0 ≤ tokenKind_0 j ∧ tokenKind_0 j ≤ 4) (hE_0_161_1 : ∀ j : Int, tokenValue_0 j = tokenValue_1 j) (kz_0_8 : 0 ≤ fault_0 ∧ fault_0 ≤ 5) (kz_0_157 : 0 ≤ tokens_0 ∧ tokens_0 ≤ 2010) (kz_0_158 : 0 ≤ cur_0 ∧ cur_0 ≤ 2009) : 1 * x2 + ((-1) * cur_0 + 0) ≤ 0 := by
  subst fe_0_8_1
  subst fe_0_157_1
  have e_hE_0_160_1 := funext hE_0_160_1; subst e_hE_0_160_1
  have e_hE_0_161_1 := funext hE_0_161_1; subst e_hE_0_161_1
  first | with_reducible assumption | ((have f14_c0 := f14.1); (have f14_c1 := f14.2.1); (have f14_c2 := f14.2.2); (try and_intros) <;> first | with_reducible assumption | (clear f14_c2 f14 hE_0_160_1 hK_0_160 hE_0_161_1 f9; omega)) | ((have f14_c0 := f14.1); (have f14_c1 := f14.2.1); (have f14_c2 := f14.2.2); (first | have f9_b := f9 (by clear f14_c2 f14 hE_0_160_1 hK_0_160 hE_0_161_1 f9; omega) | skip); (first | have f9_d := f9 (by with_reducible assumption) | skip); (try and_intros) <;> first | with_reducible assumption | (clear f14_c2 f14 hE_0_160_1 hK_0_160 hE_0_161_1 f9; omega)) | ((have f14_c0 := f14.1); (have f14_c1 := f14.2.1); (have f14_c2 := f14.2.2); (first | have f9_b := f9 (by clear f14_c2 f14 hE_0_160_1 hK_0_160 hE_0_161_1 f9; omega) | skip); (first | have f9_d := f9 (by with_reducible assumption) | skip); (first | have f14_q := tk_nx0 f14 (by clear f14_c2 f14 hE_0_160_1 hK_0_160 hE_0_161_1 f9; omega) | skip); (try and_intros) <;> first | with_reducible assumption | (clear f14_c2 f14 hE_0_160_1 hK_0_160 hE_0_161_1 f9; omega)) | ((have f14_c0 := f14.1); (have f14_c1 := f14.2.1); (have f14_c2 := f14.2.2); (first | have f9_b := f9 (by clear f14_c2 f14 hE_0_160_1 hK_0_160 hE_0_161_1 f9; omega) | skip); (first | have f9_d := f9 (by with_reducible assumption) | skip); (first | have f14_q := tk_nx0 f14 (by clear f14_c2 f14 hE_0_160_1 hK_0_160 hE_0_161_1 f9; omega) | skip); (first | have f14_r0 := tk_nx1 (c := cur_1) f14.2 (by clear f14_c2 f14 hE_0_160_1 hK_0_160 hE_0_161_1 f9; omega) (by clear f14_c2 f14 hE_0_160_1 hK_0_160 hE_0_161_1 f9; omega) | skip); (try and_intros) <;> first | with_reducible assumption | (clear f14_c2 f14 hE_0_160_1 hK_0_160 hE_0_161_1 f9; omega)) | omega
set_option maxHeartbeats 4000000 in
theorem vc_Mo_styleNeed_4_2 (x1 : Int) (x2 : Int) (x3 : Int) (x4 : Int) (x5 : Int) (x6 : Int) (x7 : Int) (x9 : Int) (cur_0 : Int) (fault_0 : Int) (cur_1 : Int) (tokenKind_1 : Int → Int) (tokenValue_1 : Int → Int) (fault_1 : Int) (tokens_1 : Int) (tokens_0 : Int) (tokenKind_0 : Int → Int) (tokenValue_0 : Int → Int) (k1 : 41 ≤ x1 ∧ x1 ≤ 125) (k2 : 0 ≤ x2 ∧ x2 ≤ 2009) (k3 : 0 ≤ x3 ∧ x3 ≤ 5) (k4 : 0 ≤ x4 ∧ x4 ≤ 0) (k5 : 0 ≤ x5 ∧ x5 ≤ 5) (k6 : 1 ≤ x6 ∧ x6 ≤ 1) (k7 : 0 ≤ x7 ∧ x7 ≤ 2009) (k9 : 1 ≤ x9 ∧ x9 ≤ 2009) (d0 : x7 + 1 ≤ x9 ∧ x9 ≤ x7 + 1) (g0 : x9 = cur_0) (g1 : x4 = fault_0) (f4 : fault_0 = x3) (g7 : x7 = cur_1) (f10 : SGN (cur_1) (tokenKind_1) (tokenValue_1) (x1) (x6) (x5)) (f15 : 1 * cur_1 + ((-1) * x2 + 0) ≤ 0) (f16 : (-1) * cur_1 + (1 * x2 + 0) ≤ 0) (fe_0_8_1 : fault_0 = fault_1) (fe_0_157_1 : tokens_0 = tokens_1) (hE_0_160_1 : ∀ j : Int, tokenKind_0 j = tokenKind_1 j) (hE_0_161_1 : ∀ j : Int, tokenValue_0 j = tokenValue_1 j) (kz_0_8 : 0 ≤ fault_0 ∧ fault_0 ≤ 5) (kz_0_157 : 0 ≤ tokens_0 ∧ tokens_0 ≤ 2010) (kz_0_158 : 0 ≤ cur_0 ∧ cur_0 ≤ 2009) : SND (fault_0) (cur_0) (tokenKind_0) (tokenValue_0) (x1) (x2) (x3) := by
  subst fe_0_8_1
  subst fe_0_157_1
  have e_hE_0_160_1 := funext hE_0_160_1; subst e_hE_0_160_1
  have e_hE_0_161_1 := funext hE_0_161_1; subst e_hE_0_161_1
  first
    | (have h := (‹SGN _ _ _ _ _ _›)
       have e : x2 = cur_1 := by omega
       rw [e]
       exact snd_yes (h.mp (by omega)).2 (by omega) (by omega) (by omega))
def o_Mo_styleNeed_4 : or_T := (43, 10, [(0, (2, 0, 0, [165])), (1, (0, 41, 125, [])), (2, (0, 0, 2009, [])), (3, (0, 0, 5, [])), (4, (0, 0, 0, [])), (5, (0, 0, 5, [])), (6, (0, 1, 1, [])), (7, (0, 0, 2009, [])), (9, (0, 1, 2009, []))], [(9, [9, 0], [158]), (9, [4, 0], [8]), (20, [0, 3], [50, 1, 0, 8, 1, 3, 2, 0, 8, 1, 1]), (101, [0, 9], [158]), (9, [7, 0], [158]), (20, [6, 0], [50, 1, 1, 1158, 1160, 4, 6, 1, 2, 1, 0, 0, 1, 1, 6, 3, 1, 160, 2, 1, 158, 0, 3]), (20, [0, 1, 6, 5], [60, 1, 2, 14, 158, 160, 161]), (20, [0], [50, 2, 1, 158, 157, 160, 2, 12, 0, 7, 4, 3, 2, 0, 158, 0, 1, 2, 0, 157, 2, 7, 0, 3, 2, 0, 157, 0, 2010, 3, 14, 1, 10, 3, 0, 160, 5, 3, 2, 0, 157, 0, 1, 0, 0, 1, 10, 3, 0, 160, 5, 3, 2, 0, 157, 0, 1, 0, 4]), (20, [0, 2], [30, 0, 1, 1, 158, -1, 0, 0]), (20, [0, 2], [30, 0, -1, 1, 158, 1, 0, 0])], [], [], [(20, [0], [50, 2, 1, 158, 157, 160, 2, 12, 0, 7, 4, 3, 2, 0, 158, 0, 1, 2, 0, 157, 2, 7, 0, 3, 2, 0, 157, 0, 2010, 3, 14, 1, 10, 3, 0, 160, 5, 3, 2, 0, 157, 0, 1, 0, 0, 1, 10, 3, 0, 160, 5, 3, 2, 0, 157, 0, 1, 0, 4]), (20, [2, 0], [30, 0, 1, 0, 0, -1, 1, 158]), (20, [0, 1, 2, 3], [60, 2, 2, 15, 8, 158, 160, 161])], [], [(9, 7, 1, 1)])
theorem oo_Mo_styleNeed_4 {kA : Nat → ClassId} : or_ok PRD kA GG o_Mo_styleNeed_4 := by
  refine or_mk fun A ta ws vs hD hth hl => ?_
  intro t0 r0 t1 k1 t2 k2 t3 k3 t4 k4 t5 k5 t6 k6 t7 k7 t9 k9 d0 f0 f1 f4 ta1 w1 le1 s1 f7 f9 f10 f14 f15 f16
  replace f0 := shm_286 f0
  replace f1 := shm_293 f1
  have s1 : (∀ b j, w_el ws b j = w_el w1 b j) ∧ ∀ b j, w_fd ws b j = if b = v_ad (n_v vs 0) ∧ j = 158 then n_v vs 9 else w_fd w1 b j := s1.2
  replace f7 := shm_286 f7
  replace f9 := shm_296 f9
  replace f10 := shm_297 f10
  replace f14 := shm_271 f14
  have ar_0_160_1 : w_ar w1 (n_v vs 0) 160 = w_ar ws (n_v vs 0) 160 := by show v_ad (w_fd w1 _ _) = v_ad (w_fd ws _ _); rw [s1.2, if_neg (fun e => absurd e.2 (by decide))]
  have cr_0_160 := fdq_33 hD hth r0
  have ar_0_161_1 : w_ar w1 (n_v vs 0) 161 = w_ar ws (n_v vs 0) 161 := by show v_ad (w_fd w1 _ _) = v_ad (w_fd ws _ _); rw [s1.2, if_neg (fun e => absurd e.2 (by decide))]
  have g0 : v_iv (n_v vs 9) = w_fi ws (n_v vs 0) 158 := congrArg v_iv f0
  have g1 : v_iv (n_v vs 4) = w_fi ws (n_v vs 0) 8 := congrArg v_iv f1
  have g7 : v_iv (n_v vs 7) = w_fi w1 (n_v vs 0) 158 := congrArg v_iv f7
  simp only [ar_0_160_1, ar_0_161_1] at f9 f10 f14
  have fe_0_8_1 : w_fi ws (n_v vs 0) 8 = w_fi w1 (n_v vs 0) 8 := by show v_iv (w_fd _ _ _) = v_iv (w_fd _ _ _); rw [s1.2, if_neg (fun e => absurd e.2 (by decide))]
  have fe_0_157_1 : w_fi ws (n_v vs 0) 157 = w_fi w1 (n_v vs 0) 157 := by show v_iv (w_fd _ _ _) = v_iv (w_fd _ _ _); rw [s1.2, if_neg (fun e => absurd e.2 (by decide))]
  have hE_0_160_1 : ∀ j : Int, w_ei ws (w_ar ws (n_v vs 0) 160) j = w_ei w1 (w_ar ws (n_v vs 0) 160) j := fun j => s1.1 _ _
  have hK_0_160 := elq_6 hD hth cr_0_160
  have hE_0_161_1 : ∀ j : Int, w_ei ws (w_ar ws (n_v vs 0) 161) j = w_ei w1 (w_ar ws (n_v vs 0) 161) j := fun j => s1.1 _ _
  have kz_0_8 := fdq_34 hD hth r0
  have kz_0_157 := fdq_35 hD hth r0
  have kz_0_158 := fdq_36 hD hth r0
  have nf0 : fc_1 PRD (20, [0], [50, 2, 1, 158, 157, 160, 2, 12, 0, 7, 4, 3, 2, 0, 158, 0, 1, 2, 0, 157, 2, 7, 0, 3, 2, 0, 157, 0, 2010, 3, 14, 1, 10, 3, 0, 160, 5, 3, 2, 0, 157, 0, 1, 0, 0, 1, 10, 3, 0, 160, 5, 3, 2, 0, 157, 0, 1, 0, 4]) ws (vs) := ⟨nf_in hl rfl, sgq_271 (vc_Mo_styleNeed_4_0 (v_iv (n_v vs 6)) (v_iv (n_v vs 7)) (v_iv (n_v vs 9)) (w_fi ws (n_v vs 0) 158) (w_fi ws (n_v vs 0) 8) (w_fi w1 (n_v vs 0) 158) (w_ei w1 (w_ar ws (n_v vs 0) 160)) (w_ei w1 (w_ar ws (n_v vs 0) 161)) (w_fi w1 (n_v vs 0) 8) (w_fi w1 (n_v vs 0) 157) (w_fi ws (n_v vs 0) 157) (w_ei ws (w_ar ws (n_v vs 0) 160)) (w_ei ws (w_ar ws (n_v vs 0) 161)) k6 k7 k9 d0 g0 g7 f9 f14 fe_0_8_1 fe_0_157_1 hE_0_160_1 hK_0_160 hE_0_161_1 kz_0_8 kz_0_157 kz_0_158)⟩
  have nf1 : fc_1 PRD (20, [2, 0], [30, 0, 1, 0, 0, -1, 1, 158]) ws (vs) := ⟨nf_in hl rfl, sgq_281 (vc_Mo_styleNeed_4_1 (v_iv (n_v vs 2)) (v_iv (n_v vs 6)) (v_iv (n_v vs 7)) (v_iv (n_v vs 9)) (w_fi ws (n_v vs 0) 158) (w_fi ws (n_v vs 0) 8) (w_fi w1 (n_v vs 0) 158) (w_ei w1 (w_ar ws (n_v vs 0) 160)) (w_ei w1 (w_ar ws (n_v vs 0) 161)) (w_fi w1 (n_v vs 0) 8) (w_fi w1 (n_v vs 0) 157) (w_fi ws (n_v vs 0) 157) (w_ei ws (w_ar ws (n_v vs 0) 160)) (w_ei ws (w_ar ws (n_v vs 0) 161)) k2 k6 k7 k9 d0 g0 g7 f9 f14 (shm_272 f15) (shm_273 f16) fe_0_8_1 fe_0_157_1 hE_0_160_1 hK_0_160 hE_0_161_1 kz_0_8 kz_0_157 kz_0_158)⟩
  have nf2 : fc_1 PRD (20, [0, 1, 2, 3], [60, 2, 2, 15, 8, 158, 160, 161]) ws (vs) := ⟨nf_in hl rfl, sgq_318 (vc_Mo_styleNeed_4_2 (v_iv (n_v vs 1)) (v_iv (n_v vs 2)) (v_iv (n_v vs 3)) (v_iv (n_v vs 4)) (v_iv (n_v vs 5)) (v_iv (n_v vs 6)) (v_iv (n_v vs 7)) (v_iv (n_v vs 9)) (w_fi ws (n_v vs 0) 158) (w_fi ws (n_v vs 0) 8) (w_fi w1 (n_v vs 0) 158) (w_ei w1 (w_ar ws (n_v vs 0) 160)) (w_ei w1 (w_ar ws (n_v vs 0) 161)) (w_fi w1 (n_v vs 0) 8) (w_fi w1 (n_v vs 0) 157) (w_fi ws (n_v vs 0) 157) (w_ei ws (w_ar ws (n_v vs 0) 160)) (w_ei ws (w_ar ws (n_v vs 0) 161)) k1 k2 k3 k4 k5 k6 k7 k9 d0 g0 g1 (shm_277 f4) g7 f10 (shm_272 f15) (shm_273 f16) fe_0_8_1 fe_0_157_1 hE_0_160_1 hE_0_161_1 kz_0_8 kz_0_157 kz_0_158)⟩
  refine ⟨(fun _ h => (by cases h)), [], trivial, ?_, (fun _ h => (by cases h))⟩
  rw [List.append_nil]
  exact List.forall_mem_cons.mpr ⟨⟨show (20 : Nat) < 100 from by decide, nf0⟩, List.forall_mem_cons.mpr ⟨⟨show (20 : Nat) < 100 from by decide, nf1⟩, List.forall_mem_cons.mpr ⟨⟨show (20 : Nat) < 100 from by decide, nf2⟩, (fun _ h => (by cases h))⟩⟩⟩
set_option maxHeartbeats 4000000 in
theorem vc_Mo_styleNeed_5_0 (x2 : Int) (tokenKind_0 : Int → Int) (cur_0 : Int) (tokens_0 : Int) (k2 : 0 ≤ x2 ∧ x2 ≤ 2009) (f2 : ((cur_0 + 1) ≤ tokens_0) ∧ ((tokens_0 ≤ 2010) ∧ ((tokenKind_0 ((tokens_0 - 1)) = 0) ∨ (tokenKind_0 ((tokens_0 - 1)) = 4)))) (f3 : 1 * cur_0 + ((-1) * x2 + 0) ≤ 0) (f4 : (-1) * cur_0 + (1 * x2 + 0) ≤ 0) (hK_0_160 : ∀ j : Int, 0 ≤ j → j < 2010 → 0 ≤ tokenKind_0 j ∧ tokenKind_0 j ≤ 4) (kz_0_157 : 0 ≤ tokens_0 ∧ tokens_0 ≤ 2010) (kz_0_158 : 0 ≤ cur_0 ∧ cur_0 ≤ 2009) : 1 * x2 + ((-1) * cur_0 + 0) ≤ 0 := by
  first | with_reducible assumption | ((have f2_c0 := f2.1); (have f2_c1 := f2.2.1); (have f2_c2 := f2.2.2); (try and_intros) <;> first | with_reducible assumption | (clear f2_c2 f2 hK_0_160; omega)) | ((have f2_c0 := f2.1); (have f2_c1 := f2.2.1); (have f2_c2 := f2.2.2); (first | have f2_q := tk_nx0 f2 (by clear f2_c2 f2 hK_0_160; omega) | skip); (try and_intros) <;> first | with_reducible assumption | (clear f2_c2 f2 hK_0_160; omega)) | omega
set_option maxHeartbeats 4000000 in
theorem vc_Mo_styleNeed_5_1 (x1 : Int) (x2 : Int) (x3 : Int) (x4 : Int) (fault_0 : Int) (tokenKind_0 : Int → Int) (cur_0 : Int) (tokenValue_0 : Int → Int) (k1 : 41 ≤ x1 ∧ x1 ≤ 125) (k2 : 0 ≤ x2 ∧ x2 ≤ 2009) (k3 : 0 ≤ x3 ∧ x3 ≤ 5) (k4 : 1 ≤ x4 ∧ x4 ≤ 5) (g1 : x4 = fault_0) (f5 : fault_0 = x3) (kz_0_8 : 0 ≤ fault_0 ∧ fault_0 ≤ 5) (kz_0_158 : 0 ≤ cur_0 ∧ cur_0 ≤ 2009) : SND (fault_0) (cur_0) (tokenKind_0) (tokenValue_0) (x1) (x2) (x3) := by
  first
    | exact snd_fault (by omega) (by omega)
def o_Mo_styleNeed_5 : or_T := (7, 5, [(0, (2, 0, 0, [165])), (1, (0, 41, 125, [])), (2, (0, 0, 2009, [])), (3, (0, 0, 5, [])), (4, (0, 1, 5, []))], [(9, [4, 0], [8]), (20, [0], [50, 2, 1, 158, 157, 160, 2, 12, 0, 7, 4, 3, 2, 0, 158, 0, 1, 2, 0, 157, 2, 7, 0, 3, 2, 0, 157, 0, 2010, 3, 14, 1, 10, 3, 0, 160, 5, 3, 2, 0, 157, 0, 1, 0, 0, 1, 10, 3, 0, 160, 5, 3, 2, 0, 157, 0, 1, 0, 4]), (20, [0, 2], [30, 0, 1, 1, 158, -1, 0, 0]), (20, [0, 2], [30, 0, -1, 1, 158, 1, 0, 0]), (20, [0, 3], [50, 1, 0, 8, 1, 3, 2, 0, 8, 1, 1])], [], [], [(20, [2, 0], [30, 0, 1, 0, 0, -1, 1, 158]), (20, [0, 1, 2, 3], [60, 2, 2, 15, 8, 158, 160, 161])], [], [])
theorem oo_Mo_styleNeed_5 {kA : Nat → ClassId} : or_ok PRD kA GG o_Mo_styleNeed_5 := by
  refine or_mk fun A ta ws vs hD hth hl => ?_
  intro t0 r0 t1 k1 t2 k2 t3 k3 t4 k4 f1 f2 f3 f4 f5
  replace f1 := shm_293 f1
  have cr_0_160 := fdq_33 hD hth r0
  have g1 : v_iv (n_v vs 4) = w_fi ws (n_v vs 0) 8 := congrArg v_iv f1
  have hK_0_160 := elq_6 hD hth cr_0_160
  have kz_0_8 := fdq_34 hD hth r0
  have kz_0_157 := fdq_35 hD hth r0
  have kz_0_158 := fdq_36 hD hth r0
  have nf0 : fc_1 PRD (20, [2, 0], [30, 0, 1, 0, 0, -1, 1, 158]) ws (vs) := ⟨nf_in hl rfl, sgq_281 (vc_Mo_styleNeed_5_0 (v_iv (n_v vs 2)) (w_ei ws (w_ar ws (n_v vs 0) 160)) (w_fi ws (n_v vs 0) 158) (w_fi ws (n_v vs 0) 157) k2 (shm_271 f2) (shm_272 f3) (shm_273 f4) hK_0_160 kz_0_157 kz_0_158)⟩
  have nf1 : fc_1 PRD (20, [0, 1, 2, 3], [60, 2, 2, 15, 8, 158, 160, 161]) ws (vs) := ⟨nf_in hl rfl, sgq_318 (vc_Mo_styleNeed_5_1 (v_iv (n_v vs 1)) (v_iv (n_v vs 2)) (v_iv (n_v vs 3)) (v_iv (n_v vs 4)) (w_fi ws (n_v vs 0) 8) (w_ei ws (w_ar ws (n_v vs 0) 160)) (w_fi ws (n_v vs 0) 158) (w_ei ws (w_ar ws (n_v vs 0) 161)) k1 k2 k3 k4 g1 (shm_277 f5) kz_0_8 kz_0_158)⟩
  refine ⟨(fun _ h => (by cases h)), [], trivial, ?_, (fun _ h => (by cases h))⟩
  rw [List.append_nil]
  exact List.forall_mem_cons.mpr ⟨⟨show (20 : Nat) < 100 from by decide, nf0⟩, List.forall_mem_cons.mpr ⟨⟨show (20 : Nat) < 100 from by decide, nf1⟩, (fun _ h => (by cases h))⟩⟩
def n_Mo_styleNeed_an : List an_T := []
def t_Mo_styleNeed_ct : ct_L := [(1, 463, e_Mo_wrong), (1, 1172, e_Mo_styleSign)]
set_option maxRecDepth 100000 in
theorem c_Mo_styleNeed {l : Launch} {D : va_G} {kA : Nat → ClassId} (h_Mo_styleSign : ct_ok PRD l D kA GG y_Mo_styleSign z_Mo_styleSign e_Mo_styleSign) (h_Mo_wrong : ct_ok PRD l D kA GG y_Mo_wrong z_Mo_wrong e_Mo_wrong) : ct_ok PRD l D kA GG y_Mo_styleNeed z_Mo_styleNeed e_Mo_styleNeed := chk_all_ok (FT := [(348, 13, 162), (413, 13, 8), (1169, 13, 158)]) (PT := [(1169, 13, 158, .int)]) (CT := t_Mo_styleNeed_ct) (KT := []) (NT := []) (AN := n_Mo_styleNeed_an) (OT := [o_Mo_styleNeed_0, o_Mo_styleNeed_1, o_Mo_styleNeed_2, o_Mo_styleNeed_3, o_Mo_styleNeed_4, o_Mo_styleNeed_5]) 0 200 (List.forall_mem_cons.mpr ⟨oo_Mo_styleNeed_0, List.forall_mem_cons.mpr ⟨oo_Mo_styleNeed_1, List.forall_mem_cons.mpr ⟨oo_Mo_styleNeed_2, List.forall_mem_cons.mpr ⟨oo_Mo_styleNeed_3, List.forall_mem_cons.mpr ⟨oo_Mo_styleNeed_4, List.forall_mem_cons.mpr ⟨oo_Mo_styleNeed_5, List.forall_mem_nil _⟩⟩⟩⟩⟩⟩) (by decide +kernel) ⟨List.forall_mem_cons.mpr ⟨gf_Mo_348, List.forall_mem_cons.mpr ⟨gf_Mo_413, List.forall_mem_cons.mpr ⟨gf_Mo_1169, List.forall_mem_nil _⟩⟩⟩, List.forall_mem_cons.mpr ⟨pf_Mo_1169, List.forall_mem_nil _⟩, List.forall_mem_cons.mpr ⟨cl_virtual (y := y_Mo_wrong) (ci := 13) rfl rfl ⟨_, _, rfl⟩ (by decide +kernel) h_Mo_wrong wm_3017 wm_9 wm_3014 wm_3016 wv_13_1 ⟨by decide, by decide, by decide +kernel⟩ (by decide), List.forall_mem_cons.mpr ⟨cl_virtual (y := y_Mo_styleSign) (ci := 13) rfl rfl ⟨_, _, rfl⟩ (by decide +kernel) h_Mo_styleSign wm_3832 wm_9 wm_3829 wm_3831 wv_23_11 ⟨by decide, by decide, by decide +kernel⟩ (by decide), List.forall_mem_nil _⟩⟩, List.forall_mem_nil _, List.forall_mem_nil _, GG_pl⟩ (by decide +kernel)
set_option maxHeartbeats 4000000 in
theorem vc_Mo_to_0_0 (x1 : Int) (x3 : Int) (x4 : Int) (all_0 : Int → Int) (r_0 : Int) (turned_0 : Int → Int) (k1 : 0 ≤ x1 ∧ x1 ≤ 47) (k3 : 0 ≤ x3 ∧ x3 ≤ 0) (k4 : 0 ≤ x4 ∧ x4 ≤ 23) (f0 : x4 = all_0 (((r_0 + 315) + x1))) (h2 : x3 = turned_0 (x1)) : TOO (r_0) (all_0) (turned_0) (x1) (x4) := by
  unfold TOO toT
  first
    | (rw [if_pos (by omega)]; omega)
    | (rw [if_neg (by omega)]; omega)
def o_Mo_to_0 : or_T := (22, 5, [(0, (2, 0, 0, [165])), (1, (0, 0, 47, [])), (2, (2, 0, 0, [231])), (3, (0, 0, 0, [])), (4, (0, 0, 23, []))], [(20, [4, 0, 1], [50, 1, 1, 1005, 1002, 1, 2, 1, 0, 3, 1, 2, 4, 7, 4, 3, 2, 1, 5, 0, 315, 1, 2]), (8, [3], [0]), (10, [3, 2, 1], []), (9, [2, 0], [95])], [], [], [(20, [0, 1, 4], [60, 1, 2, 433, 5, 2, 95])], [], [])
theorem oo_Mo_to_0 {kA : Nat → ClassId} : or_ok PRD kA GG o_Mo_to_0 := by
  refine or_mk fun A ta ws vs hD hth hl => ?_
  intro t0 r0 t1 k1 t2 r2 t3 k3 t4 k4 f0 f1 f2 f3
  replace f2 := shm_107 f2
  replace f3 := shm_1128 f3
  have ad_2 : v_ad (n_v vs 2) = w_ar ws (n_v vs 0) 95 := congrArg v_ad f3
  simp only [ad_2] at f2
  have h2 : v_iv (n_v vs 3) = w_ei ws (w_ar ws (n_v vs 0) 95) (v_iv (n_v vs 1)) := f2
  have nf0 : fc_1 PRD (20, [0, 1, 4], [60, 1, 2, 433, 5, 2, 95]) ws (vs) := ⟨nf_in hl rfl, sgq_509 (vc_Mo_to_0_0 (v_iv (n_v vs 1)) (v_iv (n_v vs 3)) (v_iv (n_v vs 4)) (w_ei ws (w_ar ws (n_v vs 0) 2)) (w_fi ws (n_v vs 0) 5) (w_ei ws (w_ar ws (n_v vs 0) 95)) k1 k3 k4 (shm_603 f0) h2)⟩
  refine ⟨(fun _ h => (by cases h)), [], trivial, ?_, (fun _ h => (by cases h))⟩
  rw [List.append_nil]
  exact List.forall_mem_cons.mpr ⟨⟨show (20 : Nat) < 100 from by decide, nf0⟩, (fun _ h => (by cases h))⟩
set_option maxHeartbeats 4000000 in
theorem vc_Mo_to_1_0 (x1 : Int) (x3 : Int) (x4 : Int) (all_0 : Int → Int) (r_0 : Int) (turned_0 : Int → Int) (k1 : 0 ≤ x1 ∧ x1 ≤ 47) (k3 : 1 ≤ x3 ∧ x3 ≤ 1) (k4 : 0 ≤ x4 ∧ x4 ≤ 23) (f0 : x4 = all_0 (((r_0 + 267) + x1))) (h2 : x3 = turned_0 (x1)) : TOO (r_0) (all_0) (turned_0) (x1) (x4) := by
  unfold TOO toT
  first
    | (rw [if_pos (by omega)]; omega)
    | (rw [if_neg (by omega)]; omega)
def o_Mo_to_1 : or_T := (22, 5, [(0, (2, 0, 0, [165])), (1, (0, 0, 47, [])), (2, (2, 0, 0, [231])), (3, (0, 1, 1, [])), (4, (0, 0, 23, []))], [(20, [4, 0, 1], [50, 1, 1, 1005, 1002, 1, 2, 1, 0, 3, 1, 2, 4, 7, 4, 3, 2, 1, 5, 0, 267, 1, 2]), (8, [3], [1]), (10, [3, 2, 1], []), (9, [2, 0], [95])], [], [], [(20, [0, 1, 4], [60, 1, 2, 433, 5, 2, 95])], [], [])
theorem oo_Mo_to_1 {kA : Nat → ClassId} : or_ok PRD kA GG o_Mo_to_1 := by
  refine or_mk fun A ta ws vs hD hth hl => ?_
  intro t0 r0 t1 k1 t2 r2 t3 k3 t4 k4 f0 f1 f2 f3
  replace f2 := shm_107 f2
  replace f3 := shm_1128 f3
  have ad_2 : v_ad (n_v vs 2) = w_ar ws (n_v vs 0) 95 := congrArg v_ad f3
  simp only [ad_2] at f2
  have h2 : v_iv (n_v vs 3) = w_ei ws (w_ar ws (n_v vs 0) 95) (v_iv (n_v vs 1)) := f2
  have nf0 : fc_1 PRD (20, [0, 1, 4], [60, 1, 2, 433, 5, 2, 95]) ws (vs) := ⟨nf_in hl rfl, sgq_509 (vc_Mo_to_1_0 (v_iv (n_v vs 1)) (v_iv (n_v vs 3)) (v_iv (n_v vs 4)) (w_ei ws (w_ar ws (n_v vs 0) 2)) (w_fi ws (n_v vs 0) 5) (w_ei ws (w_ar ws (n_v vs 0) 95)) k1 k3 k4 (shm_749 f0) h2)⟩
  refine ⟨(fun _ h => (by cases h)), [], trivial, ?_, (fun _ h => (by cases h))⟩
  rw [List.append_nil]
  exact List.forall_mem_cons.mpr ⟨⟨show (20 : Nat) < 100 from by decide, nf0⟩, (fun _ h => (by cases h))⟩
def n_Mo_to_an : List an_T := []
def t_Mo_to_ct : ct_L := [(1, 394, e_Mo_tail), (1, 398, e_Mo_head)]
set_option maxRecDepth 100000 in
theorem c_Mo_to {l : Launch} {D : va_G} {kA : Nat → ClassId} (h_Mo_head : ct_ok PRD l D kA GG y_Mo_head z_Mo_head e_Mo_head) (h_Mo_tail : ct_ok PRD l D kA GG y_Mo_tail z_Mo_tail e_Mo_tail) : ct_ok PRD l D kA GG y_Mo_to z_Mo_to e_Mo_to := chk_all_ok (FT := [(210, 13, 95)]) (PT := []) (CT := t_Mo_to_ct) (KT := []) (NT := []) (AN := n_Mo_to_an) (OT := [o_Mo_to_0, o_Mo_to_1]) 0 200 (List.forall_mem_cons.mpr ⟨oo_Mo_to_0, List.forall_mem_cons.mpr ⟨oo_Mo_to_1, List.forall_mem_nil _⟩⟩) (by decide +kernel) ⟨List.forall_mem_cons.mpr ⟨gf_Mo_210, List.forall_mem_nil _⟩, List.forall_mem_nil _, List.forall_mem_cons.mpr ⟨cl_virtual (y := y_Mo_tail) (ci := 13) rfl rfl ⟨_, _, rfl⟩ (by decide +kernel) h_Mo_tail wm_3045 wm_9 wm_3042 wm_3044 wv_13_8 ⟨by decide, by decide, by decide +kernel⟩ (by decide), List.forall_mem_cons.mpr ⟨cl_virtual (y := y_Mo_head) (ci := 13) rfl rfl ⟨_, _, rfl⟩ (by decide +kernel) h_Mo_head wm_3049 wm_9 wm_3046 wm_3048 wv_13_9 ⟨by decide, by decide, by decide +kernel⟩ (by decide), List.forall_mem_nil _⟩⟩, List.forall_mem_nil _, List.forall_mem_nil _, GG_pl⟩ (by decide +kernel)

set_option maxHeartbeats 4000000 in
theorem vc_Mo_up_0_0 (x1 : Int) (x3 : Int) (x5 : Int) (pointMany_0 : Int) (k1 : 0 ≤ x1 ∧ x1 ≤ 76) (k3 : 2 ≤ x3 ∧ x3 ≤ 78) (k5 : 1 ≤ x5 ∧ x5 ≤ 77) (d0 : x1 + 1 ≤ x5 ∧ x5 ≤ x1 + 1) (d1 : x1 + 2 ≤ x3 ∧ x3 ≤ x1 + 2) (g1 : x1 = pointMany_0) (kz_0_79 : 0 ≤ pointMany_0 ∧ pointMany_0 ≤ 76) : x3 = (pointMany_0 + 2) := by
  omega
set_option maxHeartbeats 4000000 in
theorem vc_Mo_up_0_1 (x1 : Int) (pointMany_0 : Int) (k1 : 0 ≤ x1 ∧ x1 ≤ 76) (g1 : x1 = pointMany_0) (kz_0_79 : 0 ≤ pointMany_0 ∧ pointMany_0 ≤ 76) : x1 = pointMany_0 := by
  omega
set_option maxHeartbeats 4000000 in
theorem vc_Mo_up_0_2 (x1 : Int) (x5 : Int) (pointMany_0 : Int) (k1 : 0 ≤ x1 ∧ x1 ≤ 76) (k5 : 1 ≤ x5 ∧ x5 ≤ 77) (d0 : x1 + 1 ≤ x5 ∧ x5 ≤ x1 + 1) (g1 : x1 = pointMany_0) (kz_0_79 : 0 ≤ pointMany_0 ∧ pointMany_0 ≤ 76) : x5 = (pointMany_0 + 1) := by
  omega
set_option maxHeartbeats 4000000 in
theorem vc_Mo_up_0_3 (x6 : Int) (flow_0 : Int → Int) (k6 : 0 ≤ x6 ∧ x6 ≤ 0) : UZ0 (flow_0) (x6) := by
  first
    | (intro q a b; exfalso; omega)
    | exact uz0_step ‹UZ0 _ _› (by assumption) (by assumption) rfl (by omega)
def o_Mo_up_0 : or_T := (22, 7, [(0, (2, 0, 0, [165])), (1, (0, 0, 76, [])), (3, (0, 2, 78, [])), (5, (0, 1, 77, [])), (6, (0, 0, 0, []))], [(9, [1, 0], [79])], [], [], [(20, [3, 0], [50, 1, 0, 1079, 1, 2, 1, 0, 4, 3, 2, 1, 79, 0, 2]), (20, [1, 0], [50, 1, 0, 1079, 1, 2, 1, 0, 2, 1, 79]), (20, [5, 0], [50, 1, 0, 1079, 1, 2, 1, 0, 4, 3, 2, 1, 79, 0, 1]), (20, [0, 6], [60, 0, 1, 409, 90]), (24, [0, 0], [])], [], [(5, 1, 1, 1), (3, 1, 2, 2)])
theorem oo_Mo_up_0 {kA : Nat → ClassId} : or_ok PRD kA GG o_Mo_up_0 := by
  refine or_mk fun A ta ws vs hD hth hl => ?_
  intro t0 r0 t1 k1 t3 k3 t5 k5 t6 k6 d0 d1 f1
  replace f1 := shm_1155 f1
  have g1 : v_iv (n_v vs 1) = w_fi ws (n_v vs 0) 79 := congrArg v_iv f1
  have kz_0_79 := fdq_147 hD hth r0
  have nf0 : fc_1 PRD (20, [3, 0], [50, 1, 0, 1079, 1, 2, 1, 0, 4, 3, 2, 1, 79, 0, 2]) ws (vs) := ⟨nf_in hl rfl, sgq_942 (vc_Mo_up_0_0 (v_iv (n_v vs 1)) (v_iv (n_v vs 3)) (v_iv (n_v vs 5)) (w_fi ws (n_v vs 0) 79) k1 k3 k5 d0 d1 g1 kz_0_79)⟩
  have nf1 : fc_1 PRD (20, [1, 0], [50, 1, 0, 1079, 1, 2, 1, 0, 2, 1, 79]) ws (vs) := ⟨nf_in hl rfl, sgq_943 (vc_Mo_up_0_1 (v_iv (n_v vs 1)) (w_fi ws (n_v vs 0) 79) k1 g1 kz_0_79)⟩
  have nf2 : fc_1 PRD (20, [5, 0], [50, 1, 0, 1079, 1, 2, 1, 0, 4, 3, 2, 1, 79, 0, 1]) ws (vs) := ⟨nf_in hl rfl, sgq_944 (vc_Mo_up_0_2 (v_iv (n_v vs 1)) (v_iv (n_v vs 5)) (w_fi ws (n_v vs 0) 79) k1 k5 d0 g1 kz_0_79)⟩
  have nf3 : fc_1 PRD (20, [0, 6], [60, 0, 1, 409, 90]) ws (vs) := ⟨nf_in hl rfl, sgq_1157 (vc_Mo_up_0_3 (v_iv (n_v vs 6)) (w_ei ws (w_ar ws (n_v vs 0) 90)) k6)⟩
  have nf4 : fc_1 PRD (24, [0, 0], []) ws (vs) := by
    refine ⟨nf_in hl rfl, sgq_1 ?_⟩
    · show n_v vs 0 = n_v vs 0
      first | rfl | simp only [true_and]
  refine ⟨(fun _ h => (by cases h)), [], trivial, ?_, (fun _ h => (by cases h))⟩
  rw [List.append_nil]
  exact List.forall_mem_cons.mpr ⟨⟨show (20 : Nat) < 100 from by decide, nf0⟩, List.forall_mem_cons.mpr ⟨⟨show (20 : Nat) < 100 from by decide, nf1⟩, List.forall_mem_cons.mpr ⟨⟨show (20 : Nat) < 100 from by decide, nf2⟩, List.forall_mem_cons.mpr ⟨⟨show (20 : Nat) < 100 from by decide, nf3⟩, List.forall_mem_cons.mpr ⟨⟨show (24 : Nat) < 100 from by decide, nf4⟩, (fun _ h => (by cases h))⟩⟩⟩⟩⟩
set_option maxHeartbeats 4000000 in
theorem vc_Mo_up_1_0 (x2 : Int) (x5 : Int) (x6 : Int) (pointMany_0 : Int) (flow_0 : Int → Int) (k2 : 2 ≤ x2 ∧ x2 ≤ 78) (k5 : 4 ≤ x5 ∧ x5 ≤ 6084) (k6 : 4 ≤ x6 ∧ x6 ≤ 6084) (d0 : x6 + 0 ≤ x5 ∧ x5 ≤ x6 + 4294967296) (f1 : x6 = x2 * x2) (f2 : x2 = (pointMany_0 + 2)) (f6 : UZ0 (flow_0) (x5)) (kz_0_79 : 0 ≤ pointMany_0 ∧ pointMany_0 ≤ 76) : UZN (pointMany_0) (flow_0) := by
  first
    | assumption
    | (have h := ‹UZ0 _ _›; have e : x6 = x2 * x2 := by assumption
       intro q a b; refine h q a ?_; rw [← ‹x2 = pointMany_0 + 2›, ← e] at b; omega)
set_option maxHeartbeats 4000000 in
theorem vc_Mo_up_1_1 (x7 : Int) (goes_0 : Int → Int) (k7 : 0 ≤ x7 ∧ x7 ≤ 0) : UZG (goes_0) (x7) := by
  first
    | exact ⟨fun q a b => by exfalso; omega, trivial⟩
    | exact uzg_step ‹UZG _ _› (by assumption) (by assumption) rfl (by omega)
def o_Mo_up_1 : or_T := (47, 8, [(0, (2, 0, 0, [165])), (2, (0, 2, 78, [])), (5, (0, 4, 6084, [])), (6, (0, 4, 6084, [])), (7, (0, 0, 0, []))], [(3, [6, 2, 2], []), (20, [2, 1], [50, 1, 0, 1079, 1, 2, 1, 0, 4, 3, 2, 1, 79, 0, 2]), (20, [1, 5], [60, 0, 1, 409, 90]), (24, [0, 1], [])], [], [], [(20, [1], [60, 1, 1, 410, 79, 90]), (20, [1, 7], [60, 0, 1, 411, 93])], [], [(5, 6, 0, 4294967296)])
theorem oo_Mo_up_1 {kA : Nat → ClassId} : or_ok PRD kA GG o_Mo_up_1 := by
  refine or_mk fun A ta ws vs hD hth hl => ?_
  intro t0 r0 t2 k2 t5 k5 t6 k6 t7 k7 d0 f1 f2 f6 f7
  replace f1 := shm_175 f1
  replace f2 := shm_942 f2
  replace f6 := shm_1157 f6
  replace f7 := shm_5 f7
  have q1 : n_v vs 1 = n_v vs 0 := f7.symm
  simp only [q1] at f2 f6
  have kz_0_79 := fdq_147 hD hth r0
  have nf0 : fc_1 PRD (20, [1], [60, 1, 1, 410, 79, 90]) ws (vs) := by
    refine ⟨nf_in hl rfl, sgq_1158 ?_⟩
    · show UZN (w_fi ws (n_v vs 1) 79) (w_ei ws (w_ar ws (n_v vs 1) 90))
      rw [q1]
      exact vc_Mo_up_1_0 (v_iv (n_v vs 2)) (v_iv (n_v vs 5)) (v_iv (n_v vs 6)) (w_fi ws (n_v vs 0) 79) (w_ei ws (w_ar ws (n_v vs 0) 90)) k2 k5 k6 d0 f1 f2 f6 kz_0_79
  have nf1 : fc_1 PRD (20, [1, 7], [60, 0, 1, 411, 93]) ws (vs) := by
    refine ⟨nf_in hl rfl, sgq_1159 ?_⟩
    · show UZG (w_ei ws (w_ar ws (n_v vs 1) 93)) (v_iv (n_v vs 7))
      rw [q1]
      exact vc_Mo_up_1_1 (v_iv (n_v vs 7)) (w_ei ws (w_ar ws (n_v vs 0) 93)) k7
  refine ⟨(fun _ h => (by cases h)), [], trivial, ?_, (fun _ h => (by cases h))⟩
  rw [List.append_nil]
  exact List.forall_mem_cons.mpr ⟨⟨show (20 : Nat) < 100 from by decide, nf0⟩, List.forall_mem_cons.mpr ⟨⟨show (20 : Nat) < 100 from by decide, nf1⟩, (fun _ h => (by cases h))⟩⟩
set_option maxHeartbeats 4000000 in
theorem vc_Mo_up_2_0 (x5 : Int) (x8 : Int) (x9 : Int) (pointMany_0 : Int) (costA_0 : Int → Int) (costB_0 : Int → Int) (costW_0 : Int → Int) (costPlain_0 : Int → Int) (apartA_0 : Int → Int) (apartB_0 : Int → Int) (apart_0 : Int → Int) (costMany_0 : Int) (apartMany_0 : Int) (pointMany_1 : Int) (costA_1 : Int → Int) (costB_1 : Int → Int) (costW_1 : Int → Int) (costPlain_1 : Int → Int) (apartA_1 : Int → Int) (apartB_1 : Int → Int) (apart_1 : Int → Int) (costMany_1 : Int) (apartMany_1 : Int) (flow_1 : Int → Int) (flow_0 : Int → Int) (k5 : 0 ≤ x5 ∧ x5 ≤ 6083) (k8 : 0 ≤ x8 ∧ x8 ≤ 0) (k9 : 1 ≤ x9 ∧ x9 ≤ 6084) (f0 : x9 = x5 + 1) (f14 : UZ0 (flow_1) (x5)) (fe_0_79_1 : pointMany_0 = pointMany_1) (fe_0_80_1 : costMany_0 = costMany_1) (fe_0_81_1 : apartMany_0 = apartMany_1) (hE_0_83_1 : ∀ j : Int, costA_0 j = costA_1 j) (hE_0_84_1 : ∀ j : Int, costB_0 j = costB_1 j) (hE_0_85_1 : ∀ j : Int, costW_0 j = costW_1 j) (hE_0_86_1 : ∀ j : Int, costPlain_0 j = costPlain_1 j) (hE_0_87_1 : ∀ j : Int, apartA_0 j = apartA_1 j) (hE_0_88_1 : ∀ j : Int, apartB_0 j = apartB_1 j) (hE_0_89_1 : ∀ j : Int, apart_0 j = apart_1 j) (hE_0_90_1 : ∀ j : Int, 0 ≤ j → (j = x5 → flow_0 j = x8) ∧ (j ≠ x5 → flow_0 j = flow_1 j)) (kz_0_79 : 0 ≤ pointMany_0 ∧ pointMany_0 ≤ 76) (kz_0_80 : 0 ≤ costMany_0 ∧ costMany_0 ≤ 200) (kz_0_81 : 0 ≤ apartMany_0 ∧ apartMany_0 ≤ 200) : UZ0 (flow_0) (x9) := by
  subst fe_0_79_1
  subst fe_0_80_1
  subst fe_0_81_1
  have e_hE_0_83_1 := funext hE_0_83_1; subst e_hE_0_83_1
  have e_hE_0_84_1 := funext hE_0_84_1; subst e_hE_0_84_1
  have e_hE_0_85_1 := funext hE_0_85_1; subst e_hE_0_85_1
  have e_hE_0_86_1 := funext hE_0_86_1; subst e_hE_0_86_1
  have e_hE_0_87_1 := funext hE_0_87_1; subst e_hE_0_87_1
  have e_hE_0_88_1 := funext hE_0_88_1; subst e_hE_0_88_1
  have e_hE_0_89_1 := funext hE_0_89_1; subst e_hE_0_89_1
  first
    | (intro q a b; exfalso; omega)
    | exact uz0_step ‹UZ0 _ _› (by assumption) (by assumption) rfl (by omega)
def o_Mo_up_2 : or_T := (22, 10, [(0, (2, 0, 0, [165])), (5, (0, 0, 6083, [])), (7, (2, 0, 0, [227])), (8, (0, 0, 0, [])), (9, (0, 1, 6084, []))], [(6, [9, 5], [1]), (24, [0, 1], []), (100, [7, 5, 8], []), (9, [7, 1], [90]), (20, [1, 5], [60, 0, 1, 409, 90])], [], [], [(20, [1, 9], [60, 0, 1, 409, 90])], [], [(9, 5, 1, 1), (5, 6, -4294967296, -1)])
theorem oo_Mo_up_2 {kA : Nat → ClassId} : or_ok PRD kA GG o_Mo_up_2 := by
  refine or_mk fun A ta ws vs hD hth hl => ?_
  intro t0 r0 t5 k5 t7 r7 t8 k8 t9 k9 d0 d2 f0 f5 ta1 w1 le1 s1 f7 f14
  replace f0 := shm_4 f0
  replace f5 := shm_5 f5
  have s1 : (∀ b j, w_el ws b j = if b = v_ad (n_v vs 7) ∧ j = (v_iv (n_v vs 5)).toNat then v_iv (n_v vs 8) else w_el w1 b j) ∧ ∀ b k, w_fd ws b k = w_fd w1 b k := s1.2
  replace f7 := shm_962 f7
  replace f14 := shm_1157 f14
  have q1 : n_v vs 1 = n_v vs 0 := f5.symm
  simp only [q1] at f7 f14
  have ar_0_83_1 : w_ar w1 (n_v vs 0) 83 = w_ar ws (n_v vs 0) 83 := congrArg v_ad (s1.2 _ _).symm
  have cr_0_83 := fdq_126 hD hth r0
  have ar_0_84_1 : w_ar w1 (n_v vs 0) 84 = w_ar ws (n_v vs 0) 84 := congrArg v_ad (s1.2 _ _).symm
  have cr_0_84 := fdq_127 hD hth r0
  have ar_0_85_1 : w_ar w1 (n_v vs 0) 85 = w_ar ws (n_v vs 0) 85 := congrArg v_ad (s1.2 _ _).symm
  have cr_0_85 := fdq_128 hD hth r0
  have ar_0_86_1 : w_ar w1 (n_v vs 0) 86 = w_ar ws (n_v vs 0) 86 := congrArg v_ad (s1.2 _ _).symm
  have cr_0_86 := fdq_129 hD hth r0
  have ar_0_87_1 : w_ar w1 (n_v vs 0) 87 = w_ar ws (n_v vs 0) 87 := congrArg v_ad (s1.2 _ _).symm
  have cr_0_87 := fdq_119 hD hth r0
  have ar_0_88_1 : w_ar w1 (n_v vs 0) 88 = w_ar ws (n_v vs 0) 88 := congrArg v_ad (s1.2 _ _).symm
  have cr_0_88 := fdq_120 hD hth r0
  have ar_0_89_1 : w_ar w1 (n_v vs 0) 89 = w_ar ws (n_v vs 0) 89 := congrArg v_ad (s1.2 _ _).symm
  have cr_0_89 := fdq_121 hD hth r0
  have ar_0_90_1 : w_ar w1 (n_v vs 0) 90 = w_ar ws (n_v vs 0) 90 := congrArg v_ad (s1.2 _ _).symm
  have ad_7 : v_ad (n_v vs 7) = w_ar ws (n_v vs 0) 90 := (congrArg v_ad f7).trans ar_0_90_1
  simp only [ar_0_83_1, ar_0_84_1, ar_0_85_1, ar_0_86_1, ar_0_87_1, ar_0_88_1, ar_0_89_1, ar_0_90_1] at f14
  have fe_0_79_1 : w_fi ws (n_v vs 0) 79 = w_fi w1 (n_v vs 0) 79 := congrArg v_iv (s1.2 _ _)
  have fe_0_80_1 : w_fi ws (n_v vs 0) 80 = w_fi w1 (n_v vs 0) 80 := congrArg v_iv (s1.2 _ _)
  have fe_0_81_1 : w_fi ws (n_v vs 0) 81 = w_fi w1 (n_v vs 0) 81 := congrArg v_iv (s1.2 _ _)
  have hE_0_83_1 : ∀ j : Int, w_ei ws (w_ar ws (n_v vs 0) 83) j = w_ei w1 (w_ar ws (n_v vs 0) 83) j := el_kp s1.1 r7 cr_0_83 (by decide)
  have hE_0_84_1 : ∀ j : Int, w_ei ws (w_ar ws (n_v vs 0) 84) j = w_ei w1 (w_ar ws (n_v vs 0) 84) j := el_kp s1.1 r7 cr_0_84 (by decide)
  have hE_0_85_1 : ∀ j : Int, w_ei ws (w_ar ws (n_v vs 0) 85) j = w_ei w1 (w_ar ws (n_v vs 0) 85) j := el_kp s1.1 r7 cr_0_85 (by decide)
  have hE_0_86_1 : ∀ j : Int, w_ei ws (w_ar ws (n_v vs 0) 86) j = w_ei w1 (w_ar ws (n_v vs 0) 86) j := el_kp s1.1 r7 cr_0_86 (by decide)
  have hE_0_87_1 : ∀ j : Int, w_ei ws (w_ar ws (n_v vs 0) 87) j = w_ei w1 (w_ar ws (n_v vs 0) 87) j := el_kp s1.1 r7 cr_0_87 (by decide)
  have hE_0_88_1 : ∀ j : Int, w_ei ws (w_ar ws (n_v vs 0) 88) j = w_ei w1 (w_ar ws (n_v vs 0) 88) j := el_kp s1.1 r7 cr_0_88 (by decide)
  have hE_0_89_1 : ∀ j : Int, w_ei ws (w_ar ws (n_v vs 0) 89) j = w_ei w1 (w_ar ws (n_v vs 0) 89) j := el_kp s1.1 r7 cr_0_89 (by decide)
  have hE_0_90_1 : ∀ j : Int, 0 ≤ j → (j = v_iv (n_v vs 5) → w_ei ws (w_ar ws (n_v vs 0) 90) j = v_iv (n_v vs 8)) ∧ (j ≠ v_iv (n_v vs 5) → w_ei ws (w_ar ws (n_v vs 0) 90) j = w_ei w1 (w_ar ws (n_v vs 0) 90) j) := fun j hj => ⟨fun h => by unfold w_ei; rw [s1.1, if_pos ⟨ad_7.symm, by rw [h]⟩], fun h => by unfold w_ei; rw [s1.1, if_neg (fun e => h (by have := e.2; omega))]⟩
  have kz_0_79 := fdq_147 hD hth r0
  have kz_0_80 := fdq_131 hD hth r0
  have kz_0_81 := fdq_124 hD hth r0
  have nf0 : fc_1 PRD (20, [1, 9], [60, 0, 1, 409, 90]) ws (vs) := by
    refine ⟨nf_in hl rfl, sgq_1157 ?_⟩
    · show UZ0 (w_ei ws (w_ar ws (n_v vs 1) 90)) (v_iv (n_v vs 9))
      rw [q1]
      exact vc_Mo_up_2_0 (v_iv (n_v vs 5)) (v_iv (n_v vs 8)) (v_iv (n_v vs 9)) (w_fi ws (n_v vs 0) 79) (w_ei ws (w_ar ws (n_v vs 0) 83)) (w_ei ws (w_ar ws (n_v vs 0) 84)) (w_ei ws (w_ar ws (n_v vs 0) 85)) (w_ei ws (w_ar ws (n_v vs 0) 86)) (w_ei ws (w_ar ws (n_v vs 0) 87)) (w_ei ws (w_ar ws (n_v vs 0) 88)) (w_ei ws (w_ar ws (n_v vs 0) 89)) (w_fi ws (n_v vs 0) 80) (w_fi ws (n_v vs 0) 81) (w_fi w1 (n_v vs 0) 79) (w_ei w1 (w_ar ws (n_v vs 0) 83)) (w_ei w1 (w_ar ws (n_v vs 0) 84)) (w_ei w1 (w_ar ws (n_v vs 0) 85)) (w_ei w1 (w_ar ws (n_v vs 0) 86)) (w_ei w1 (w_ar ws (n_v vs 0) 87)) (w_ei w1 (w_ar ws (n_v vs 0) 88)) (w_ei w1 (w_ar ws (n_v vs 0) 89)) (w_fi w1 (n_v vs 0) 80) (w_fi w1 (n_v vs 0) 81) (w_ei w1 (w_ar ws (n_v vs 0) 90)) (w_ei ws (w_ar ws (n_v vs 0) 90)) k5 k8 k9 f0 f14 fe_0_79_1 fe_0_80_1 fe_0_81_1 hE_0_83_1 hE_0_84_1 hE_0_85_1 hE_0_86_1 hE_0_87_1 hE_0_88_1 hE_0_89_1 hE_0_90_1 kz_0_79 kz_0_80 kz_0_81
  refine ⟨(fun _ h => (by cases h)), [], trivial, ?_, (fun _ h => (by cases h))⟩
  rw [List.append_nil]
  exact List.forall_mem_cons.mpr ⟨⟨show (20 : Nat) < 100 from by decide, nf0⟩, (fun _ h => (by cases h))⟩
set_option maxHeartbeats 4000000 in
theorem vc_Mo_up_3_0 (x5 : Int) (x6 : Int) (x7 : Int) (pointMany_0 : Int) (costA_0 : Int → Int) (costB_0 : Int → Int) (costW_0 : Int → Int) (costPlain_0 : Int → Int) (apartA_0 : Int → Int) (apartB_0 : Int → Int) (apart_0 : Int → Int) (costMany_0 : Int) (apartMany_0 : Int) (flow_0 : Int → Int) (goes_0 : Int → Int) (spot_0 : Int → Int) (k5 : 0 ≤ x5 ∧ x5 ≤ 76) (k6 : 0 ≤ x6 ∧ x6 ≤ 76) (k7 : 0 ≤ x7 ∧ x7 ≤ 0) (d0 : x6 + 0 ≤ x5 ∧ x5 ≤ x6 + 4294967296) (g1 : x6 = pointMany_0) (f5 : PBK (pointMany_0) (costMany_0) (apartMany_0) (costA_0) (costB_0) (costW_0) (costPlain_0) (apartA_0) (apartB_0) (apart_0)) (f6 : UZN (pointMany_0) (flow_0)) (f7 : UZG (goes_0) (x5)) (kz_0_79 : 0 ≤ pointMany_0 ∧ pointMany_0 ≤ 76) (kz_0_80 : 0 ≤ costMany_0 ∧ costMany_0 ≤ 200) (kz_0_81 : 0 ≤ apartMany_0 ∧ apartMany_0 ≤ 200) : UPC (pointMany_0) (costMany_0) (apartMany_0) (flow_0) (goes_0) (spot_0) (costA_0) (costB_0) (costW_0) (costPlain_0) (apartA_0) (apartB_0) (apart_0) (x7) := by
  first
    | exact upc_start ‹PBK _ _ _ _ _ _ _ _ _ _› ‹UZN _ _› (Int.le_refl _) ‹UZG _ _›.1 (by omega) (by omega)
    | exact upc_goP1 (a := x8) (b := x10) (w := x17) (w2 := x20) (pl := x12) (o1 := x15) (o2 := x19) ‹UPC _ _ _ _ _ _ _ _ _ _ _ _ _ _› (by omega) (by omega) (by assumption) (by assumption) (by assumption) (by assumption) (by assumption) (by assumption) (by omega) (by assumption) (by assumption) (by assumption) (by assumption) (by assumption) (by assumption)
    | exact upc_goP2 (a := x8) (b := x10) (w := x20) (w2 := x23) (ya := x14) (yb := x15) (o1 := x18) (o2 := x22) ‹UPC _ _ _ _ _ _ _ _ _ _ _ _ _ _› (by omega) (by omega) (by assumption) (by assumption) (by assumption) (by assumption) (by assumption) (by assumption) (by assumption) (by omega) (by assumption) (by assumption) (by assumption) (by assumption) (by assumption) (by assumption)
    | exact upc_goM2 (a := x8) (b := x10) (w := x22) (w2 := x25) (pl := x12) (ya := x17) (yb := x18) (o1 := x20) (o2 := x24) ‹UPC _ _ _ _ _ _ _ _ _ _ _ _ _ _› (by omega) (by omega) (by assumption) (by assumption) (by assumption) (by assumption) (by assumption) (by assumption) (by omega) (by assumption) (by assumption) (by omega) (by assumption) (by assumption) (by assumption) (by assumption) (by assumption) (by assumption)
    | exact upc_tie3 (a := x8) (b := x10) (w := x24) (w2 := x29) (pl := x12) (ya := x14) (yb := x15) (ya2 := x17) (yb2 := x18) (q1 := x21) (q2 := x27) (r1 := x20) (r2 := x26) (o1 := x22) (o2 := x28) ‹UPC _ _ _ _ _ _ _ _ _ _ _ _ _ _› (by omega) (by omega) (by assumption) (by omega) (by assumption) (by assumption) (by assumption) (by assumption) (by assumption) (by omega) (by assumption) (by assumption) (by omega) (by assumption) (by assumption) (by omega) (by assumption) (by assumption) (by assumption) (by assumption) (by assumption) (by assumption) (by assumption) (by assumption) (by assumption) (by assumption)
  
set_option maxHeartbeats 4000000 in
theorem vc_Mo_up_3_1 (x7 : Int) (costMany_0 : Int) (k7 : 0 ≤ x7 ∧ x7 ≤ 0) (kz_0_80 : 0 ≤ costMany_0 ∧ costMany_0 ≤ 200) : x7 ≤ costMany_0 := by
  omega
def o_Mo_up_3 : or_T := (73, 8, [(0, (2, 0, 0, [165])), (5, (0, 0, 76, [])), (6, (0, 0, 76, [])), (7, (0, 0, 0, []))], [(9, [6, 1], [79]), (20, [1], [60, 3, 7, 395, 79, 80, 81, 83, 84, 85, 86, 87, 88, 89]), (20, [1], [60, 1, 1, 410, 79, 90]), (20, [1, 5], [60, 0, 1, 411, 93]), (24, [0, 1], [])], [], [], [(20, [1, 7], [60, 3, 10, 413, 79, 80, 81, 90, 93, 82, 83, 84, 85, 86, 87, 88, 89]), (20, [7, 1], [50, 1, 0, 1080, 0, 2, 1, 0, 2, 1, 80])], [], [(5, 6, 0, 4294967296)])
theorem oo_Mo_up_3 {kA : Nat → ClassId} : or_ok PRD kA GG o_Mo_up_3 := by
  refine or_mk fun A ta ws vs hD hth hl => ?_
  intro t0 r0 t5 k5 t6 k6 t7 k7 d0 f1 f5 f6 f7 f8
  replace f1 := shm_1155 f1
  replace f5 := shm_1156 f5
  replace f6 := shm_1158 f6
  replace f7 := shm_1159 f7
  replace f8 := shm_5 f8
  have q1 : n_v vs 1 = n_v vs 0 := f8.symm
  simp only [q1] at f1 f5 f6 f7
  have g1 : v_iv (n_v vs 6) = w_fi ws (n_v vs 0) 79 := congrArg v_iv f1
  have kz_0_79 := fdq_147 hD hth r0
  have kz_0_80 := fdq_131 hD hth r0
  have kz_0_81 := fdq_124 hD hth r0
  have nf0 : fc_1 PRD (20, [1, 7], [60, 3, 10, 413, 79, 80, 81, 90, 93, 82, 83, 84, 85, 86, 87, 88, 89]) ws (vs) := by
    refine ⟨nf_in hl rfl, sgq_1160 ?_⟩
    · show UPC (w_fi ws (n_v vs 1) 79) (w_fi ws (n_v vs 1) 80) (w_fi ws (n_v vs 1) 81) (w_ei ws (w_ar ws (n_v vs 1) 90)) (w_ei ws (w_ar ws (n_v vs 1) 93)) (w_ei ws (w_ar ws (n_v vs 1) 82)) (w_ei ws (w_ar ws (n_v vs 1) 83)) (w_ei ws (w_ar ws (n_v vs 1) 84)) (w_ei ws (w_ar ws (n_v vs 1) 85)) (w_ei ws (w_ar ws (n_v vs 1) 86)) (w_ei ws (w_ar ws (n_v vs 1) 87)) (w_ei ws (w_ar ws (n_v vs 1) 88)) (w_ei ws (w_ar ws (n_v vs 1) 89)) (v_iv (n_v vs 7))
      rw [q1]
      exact vc_Mo_up_3_0 (v_iv (n_v vs 5)) (v_iv (n_v vs 6)) (v_iv (n_v vs 7)) (w_fi ws (n_v vs 0) 79) (w_ei ws (w_ar ws (n_v vs 0) 83)) (w_ei ws (w_ar ws (n_v vs 0) 84)) (w_ei ws (w_ar ws (n_v vs 0) 85)) (w_ei ws (w_ar ws (n_v vs 0) 86)) (w_ei ws (w_ar ws (n_v vs 0) 87)) (w_ei ws (w_ar ws (n_v vs 0) 88)) (w_ei ws (w_ar ws (n_v vs 0) 89)) (w_fi ws (n_v vs 0) 80) (w_fi ws (n_v vs 0) 81) (w_ei ws (w_ar ws (n_v vs 0) 90)) (w_ei ws (w_ar ws (n_v vs 0) 93)) (w_ei ws (w_ar ws (n_v vs 0) 82)) k5 k6 k7 d0 g1 f5 f6 f7 kz_0_79 kz_0_80 kz_0_81
  have nf1 : fc_1 PRD (20, [7, 1], [50, 1, 0, 1080, 0, 2, 1, 0, 2, 1, 80]) ws (vs) := by
    refine ⟨nf_in hl rfl, sgq_1161 ?_⟩
    · show v_iv (n_v vs 7) ≤ w_fi ws (n_v vs 1) 80
      rw [q1]
      exact vc_Mo_up_3_1 (v_iv (n_v vs 7)) (w_fi ws (n_v vs 0) 80) k7 kz_0_80
  refine ⟨(fun _ h => (by cases h)), [], trivial, ?_, (fun _ h => (by cases h))⟩
  rw [List.append_nil]
  exact List.forall_mem_cons.mpr ⟨⟨show (20 : Nat) < 100 from by decide, nf0⟩, List.forall_mem_cons.mpr ⟨⟨show (20 : Nat) < 100 from by decide, nf1⟩, (fun _ h => (by cases h))⟩⟩
set_option maxHeartbeats 4000000 in
theorem vc_Mo_up_4_0 (x5 : Int) (x8 : Int) (x9 : Int) (pointMany_0 : Int) (costA_0 : Int → Int) (costB_0 : Int → Int) (costW_0 : Int → Int) (costPlain_0 : Int → Int) (apartA_0 : Int → Int) (apartB_0 : Int → Int) (apart_0 : Int → Int) (costMany_0 : Int) (apartMany_0 : Int) (flow_0 : Int → Int) (pointMany_1 : Int) (costA_1 : Int → Int) (costB_1 : Int → Int) (costW_1 : Int → Int) (costPlain_1 : Int → Int) (apartA_1 : Int → Int) (apartB_1 : Int → Int) (apart_1 : Int → Int) (costMany_1 : Int) (apartMany_1 : Int) (flow_1 : Int → Int) (goes_1 : Int → Int) (goes_0 : Int → Int) (k5 : 0 ≤ x5 ∧ x5 ≤ 75) (k8 : 0 ≤ x8 ∧ x8 ≤ 0) (k9 : 1 ≤ x9 ∧ x9 ≤ 76) (f0 : x9 = x5 + 1) (f16 : UZG (goes_1) (x5)) (fe_0_79_1 : pointMany_0 = pointMany_1) (fe_0_80_1 : costMany_0 = costMany_1) (fe_0_81_1 : apartMany_0 = apartMany_1) (hE_0_83_1 : ∀ j : Int, costA_0 j = costA_1 j) (hE_0_84_1 : ∀ j : Int, costB_0 j = costB_1 j) (hE_0_85_1 : ∀ j : Int, costW_0 j = costW_1 j) (hE_0_86_1 : ∀ j : Int, costPlain_0 j = costPlain_1 j) (hE_0_87_1 : ∀ j : Int, apartA_0 j = apartA_1 j) (hE_0_88_1 : ∀ j : Int, apartB_0 j = apartB_1 j) (hE_0_89_1 : ∀ j : Int, apart_0 j = apart_1 j) (hE_0_90_1 : ∀ j : Int, flow_0 j = flow_1 j) (hE_0_93_1 : ∀ j : Int, 0 ≤ j → (j = x5 → goes_0 j = x8) ∧ (j ≠ x5 → goes_0 j = goes_1 j)) (kz_0_79 : 0 ≤ pointMany_0 ∧ pointMany_0 ≤ 76) (kz_0_80 : 0 ≤ costMany_0 ∧ costMany_0 ≤ 200) (kz_0_81 : 0 ≤ apartMany_0 ∧ apartMany_0 ≤ 200) : UZG (goes_0) (x9) := by
  subst fe_0_79_1
  subst fe_0_80_1
  subst fe_0_81_1
  have e_hE_0_83_1 := funext hE_0_83_1; subst e_hE_0_83_1
  have e_hE_0_84_1 := funext hE_0_84_1; subst e_hE_0_84_1
  have e_hE_0_85_1 := funext hE_0_85_1; subst e_hE_0_85_1
  have e_hE_0_86_1 := funext hE_0_86_1; subst e_hE_0_86_1
  have e_hE_0_87_1 := funext hE_0_87_1; subst e_hE_0_87_1
  have e_hE_0_88_1 := funext hE_0_88_1; subst e_hE_0_88_1
  have e_hE_0_89_1 := funext hE_0_89_1; subst e_hE_0_89_1
  have e_hE_0_90_1 := funext hE_0_90_1; subst e_hE_0_90_1
  first
    | exact ⟨fun q a b => by exfalso; omega, trivial⟩
    | exact uzg_step ‹UZG _ _› (by assumption) (by assumption) rfl (by omega)
def o_Mo_up_4 : or_T := (47, 10, [(0, (2, 0, 0, [165])), (5, (0, 0, 75, [])), (7, (2, 0, 0, [230])), (8, (0, 0, 0, [])), (9, (0, 1, 76, []))], [(6, [9, 5], [1]), (24, [0, 1], []), (100, [7, 5, 8], []), (9, [7, 1], [93]), (20, [1, 5], [60, 0, 1, 411, 93])], [], [], [(20, [1, 9], [60, 0, 1, 411, 93])], [], [(9, 5, 1, 1), (5, 6, -4294967296, -1)])
theorem oo_Mo_up_4 {kA : Nat → ClassId} : or_ok PRD kA GG o_Mo_up_4 := by
  refine or_mk fun A ta ws vs hD hth hl => ?_
  intro t0 r0 t5 k5 t7 r7 t8 k8 t9 k9 d0 d2 f0 f6 ta1 w1 le1 s1 f8 f16
  replace f0 := shm_4 f0
  replace f6 := shm_5 f6
  have s1 : (∀ b j, w_el ws b j = if b = v_ad (n_v vs 7) ∧ j = (v_iv (n_v vs 5)).toNat then v_iv (n_v vs 8) else w_el w1 b j) ∧ ∀ b k, w_fd ws b k = w_fd w1 b k := s1.2
  replace f8 := shm_1162 f8
  replace f16 := shm_1159 f16
  have q1 : n_v vs 1 = n_v vs 0 := f6.symm
  simp only [q1] at f8 f16
  have ar_0_83_1 : w_ar w1 (n_v vs 0) 83 = w_ar ws (n_v vs 0) 83 := congrArg v_ad (s1.2 _ _).symm
  have cr_0_83 := fdq_126 hD hth r0
  have ar_0_84_1 : w_ar w1 (n_v vs 0) 84 = w_ar ws (n_v vs 0) 84 := congrArg v_ad (s1.2 _ _).symm
  have cr_0_84 := fdq_127 hD hth r0
  have ar_0_85_1 : w_ar w1 (n_v vs 0) 85 = w_ar ws (n_v vs 0) 85 := congrArg v_ad (s1.2 _ _).symm
  have cr_0_85 := fdq_128 hD hth r0
  have ar_0_86_1 : w_ar w1 (n_v vs 0) 86 = w_ar ws (n_v vs 0) 86 := congrArg v_ad (s1.2 _ _).symm
  have cr_0_86 := fdq_129 hD hth r0
  have ar_0_87_1 : w_ar w1 (n_v vs 0) 87 = w_ar ws (n_v vs 0) 87 := congrArg v_ad (s1.2 _ _).symm
  have cr_0_87 := fdq_119 hD hth r0
  have ar_0_88_1 : w_ar w1 (n_v vs 0) 88 = w_ar ws (n_v vs 0) 88 := congrArg v_ad (s1.2 _ _).symm
  have cr_0_88 := fdq_120 hD hth r0
  have ar_0_89_1 : w_ar w1 (n_v vs 0) 89 = w_ar ws (n_v vs 0) 89 := congrArg v_ad (s1.2 _ _).symm
  have cr_0_89 := fdq_121 hD hth r0
  have ar_0_90_1 : w_ar w1 (n_v vs 0) 90 = w_ar ws (n_v vs 0) 90 := congrArg v_ad (s1.2 _ _).symm
  have cr_0_90 := fdq_231 hD hth r0
  have ar_0_93_1 : w_ar w1 (n_v vs 0) 93 = w_ar ws (n_v vs 0) 93 := congrArg v_ad (s1.2 _ _).symm
  have ad_7 : v_ad (n_v vs 7) = w_ar ws (n_v vs 0) 93 := (congrArg v_ad f8).trans ar_0_93_1
  simp only [ar_0_83_1, ar_0_84_1, ar_0_85_1, ar_0_86_1, ar_0_87_1, ar_0_88_1, ar_0_89_1, ar_0_90_1, ar_0_93_1] at f16
  have fe_0_79_1 : w_fi ws (n_v vs 0) 79 = w_fi w1 (n_v vs 0) 79 := congrArg v_iv (s1.2 _ _)
  have fe_0_80_1 : w_fi ws (n_v vs 0) 80 = w_fi w1 (n_v vs 0) 80 := congrArg v_iv (s1.2 _ _)
  have fe_0_81_1 : w_fi ws (n_v vs 0) 81 = w_fi w1 (n_v vs 0) 81 := congrArg v_iv (s1.2 _ _)
  have hE_0_83_1 : ∀ j : Int, w_ei ws (w_ar ws (n_v vs 0) 83) j = w_ei w1 (w_ar ws (n_v vs 0) 83) j := el_kp s1.1 r7 cr_0_83 (by decide)
  have hE_0_84_1 : ∀ j : Int, w_ei ws (w_ar ws (n_v vs 0) 84) j = w_ei w1 (w_ar ws (n_v vs 0) 84) j := el_kp s1.1 r7 cr_0_84 (by decide)
  have hE_0_85_1 : ∀ j : Int, w_ei ws (w_ar ws (n_v vs 0) 85) j = w_ei w1 (w_ar ws (n_v vs 0) 85) j := el_kp s1.1 r7 cr_0_85 (by decide)
  have hE_0_86_1 : ∀ j : Int, w_ei ws (w_ar ws (n_v vs 0) 86) j = w_ei w1 (w_ar ws (n_v vs 0) 86) j := el_kp s1.1 r7 cr_0_86 (by decide)
  have hE_0_87_1 : ∀ j : Int, w_ei ws (w_ar ws (n_v vs 0) 87) j = w_ei w1 (w_ar ws (n_v vs 0) 87) j := el_kp s1.1 r7 cr_0_87 (by decide)
  have hE_0_88_1 : ∀ j : Int, w_ei ws (w_ar ws (n_v vs 0) 88) j = w_ei w1 (w_ar ws (n_v vs 0) 88) j := el_kp s1.1 r7 cr_0_88 (by decide)
  have hE_0_89_1 : ∀ j : Int, w_ei ws (w_ar ws (n_v vs 0) 89) j = w_ei w1 (w_ar ws (n_v vs 0) 89) j := el_kp s1.1 r7 cr_0_89 (by decide)
  have hE_0_90_1 : ∀ j : Int, w_ei ws (w_ar ws (n_v vs 0) 90) j = w_ei w1 (w_ar ws (n_v vs 0) 90) j := el_kp s1.1 r7 cr_0_90 (by decide)
  have hE_0_93_1 : ∀ j : Int, 0 ≤ j → (j = v_iv (n_v vs 5) → w_ei ws (w_ar ws (n_v vs 0) 93) j = v_iv (n_v vs 8)) ∧ (j ≠ v_iv (n_v vs 5) → w_ei ws (w_ar ws (n_v vs 0) 93) j = w_ei w1 (w_ar ws (n_v vs 0) 93) j) := fun j hj => ⟨fun h => by unfold w_ei; rw [s1.1, if_pos ⟨ad_7.symm, by rw [h]⟩], fun h => by unfold w_ei; rw [s1.1, if_neg (fun e => h (by have := e.2; omega))]⟩
  have kz_0_79 := fdq_147 hD hth r0
  have kz_0_80 := fdq_131 hD hth r0
  have kz_0_81 := fdq_124 hD hth r0
  have nf0 : fc_1 PRD (20, [1, 9], [60, 0, 1, 411, 93]) ws (vs) := by
    refine ⟨nf_in hl rfl, sgq_1159 ?_⟩
    · show UZG (w_ei ws (w_ar ws (n_v vs 1) 93)) (v_iv (n_v vs 9))
      rw [q1]
      exact vc_Mo_up_4_0 (v_iv (n_v vs 5)) (v_iv (n_v vs 8)) (v_iv (n_v vs 9)) (w_fi ws (n_v vs 0) 79) (w_ei ws (w_ar ws (n_v vs 0) 83)) (w_ei ws (w_ar ws (n_v vs 0) 84)) (w_ei ws (w_ar ws (n_v vs 0) 85)) (w_ei ws (w_ar ws (n_v vs 0) 86)) (w_ei ws (w_ar ws (n_v vs 0) 87)) (w_ei ws (w_ar ws (n_v vs 0) 88)) (w_ei ws (w_ar ws (n_v vs 0) 89)) (w_fi ws (n_v vs 0) 80) (w_fi ws (n_v vs 0) 81) (w_ei ws (w_ar ws (n_v vs 0) 90)) (w_fi w1 (n_v vs 0) 79) (w_ei w1 (w_ar ws (n_v vs 0) 83)) (w_ei w1 (w_ar ws (n_v vs 0) 84)) (w_ei w1 (w_ar ws (n_v vs 0) 85)) (w_ei w1 (w_ar ws (n_v vs 0) 86)) (w_ei w1 (w_ar ws (n_v vs 0) 87)) (w_ei w1 (w_ar ws (n_v vs 0) 88)) (w_ei w1 (w_ar ws (n_v vs 0) 89)) (w_fi w1 (n_v vs 0) 80) (w_fi w1 (n_v vs 0) 81) (w_ei w1 (w_ar ws (n_v vs 0) 90)) (w_ei w1 (w_ar ws (n_v vs 0) 93)) (w_ei ws (w_ar ws (n_v vs 0) 93)) k5 k8 k9 f0 f16 fe_0_79_1 fe_0_80_1 fe_0_81_1 hE_0_83_1 hE_0_84_1 hE_0_85_1 hE_0_86_1 hE_0_87_1 hE_0_88_1 hE_0_89_1 hE_0_90_1 hE_0_93_1 kz_0_79 kz_0_80 kz_0_81
  refine ⟨(fun _ h => (by cases h)), [], trivial, ?_, (fun _ h => (by cases h))⟩
  rw [List.append_nil]
  exact List.forall_mem_cons.mpr ⟨⟨show (20 : Nat) < 100 from by decide, nf0⟩, (fun _ h => (by cases h))⟩
set_option maxHeartbeats 4000000 in
theorem vc_Mo_up_5_0 (x5 : Int) (x6 : Int) (x7 : Int) (costMany_0 : Int) (pointMany_0 : Int) (flow_0 : Int → Int) (goes_0 : Int → Int) (spot_0 : Int → Int) (costA_0 : Int → Int) (costB_0 : Int → Int) (costW_0 : Int → Int) (costPlain_0 : Int → Int) (apartA_0 : Int → Int) (apartB_0 : Int → Int) (apart_0 : Int → Int) (apartMany_0 : Int) (k5 : 0 ≤ x5 ∧ x5 ≤ 200) (k6 : 0 ≤ x6 ∧ x6 ≤ 200) (k7 : 0 ≤ x7 ∧ x7 ≤ 0) (d0 : x6 + 0 ≤ x5 ∧ x5 ≤ x6 + 4294967296) (g1 : x6 = costMany_0) (f5 : UPC (pointMany_0) (costMany_0) (apartMany_0) (flow_0) (goes_0) (spot_0) (costA_0) (costB_0) (costW_0) (costPlain_0) (apartA_0) (apartB_0) (apart_0) (x5)) (f6 : x5 ≤ costMany_0) (kz_0_79 : 0 ≤ pointMany_0 ∧ pointMany_0 ≤ 76) (kz_0_80 : 0 ≤ costMany_0 ∧ costMany_0 ≤ 200) (kz_0_81 : 0 ≤ apartMany_0 ∧ apartMany_0 ≤ 200) : UPI (pointMany_0) (costMany_0) (apartMany_0) (flow_0) (goes_0) (spot_0) (costA_0) (costB_0) (costW_0) (costPlain_0) (apartA_0) (apartB_0) (apart_0) (x7) := by
  first
    | exact upi_start ‹UPC _ _ _ _ _ _ _ _ _ _ _ _ _ _› (by omega) (by omega) (by omega)
    | exact upi_step2 (gi := x8) (g2 := x12) ‹UPI _ _ _ _ _ _ _ _ _ _ _ _ _ _› (by omega) (by omega) (by assumption) (by omega) (by omega) (by omega) (by assumption) (by assumption) (Or.inr ⟨by omega, by assumption, by assumption, rfl⟩) (by assumption)
    | exact upi_step2 (gi := x8) (g2 := x12) (v := x13) ‹UPI _ _ _ _ _ _ _ _ _ _ _ _ _ _› (by omega) (by omega) (by assumption) (by omega) (by omega) (by omega) (by assumption) (by assumption) (Or.inl ⟨by omega, by assumption, by assumption, by omega⟩) (by assumption)
set_option maxHeartbeats 4000000 in
theorem vc_Mo_up_5_1 (x2 : Int) (x3 : Int) (x4 : Int) (x7 : Int) (pointMany_0 : Int) (k2 : 2 ≤ x2 ∧ x2 ≤ 78) (k3 : 0 ≤ x3 ∧ x3 ≤ 76) (k4 : 1 ≤ x4 ∧ x4 ≤ 77) (k7 : 0 ≤ x7 ∧ x7 ≤ 0) (d1 : x3 + (-4294967296) ≤ x2 ∧ x2 ≤ x3 + 2) (d2 : x4 + (-4294967296) ≤ x2 ∧ x2 ≤ x4 + 1) (d3 : x2 + (-4294967296) ≤ x3 ∧ x3 ≤ x2 + (-2)) (d4 : x4 + (-4294967296) ≤ x3 ∧ x3 ≤ x4 + (-1)) (d5 : x2 + (-4294967296) ≤ x4 ∧ x4 ≤ x2 + (-1)) (f2 : x2 = (pointMany_0 + 2)) (kz_0_79 : 0 ≤ pointMany_0 ∧ pointMany_0 ≤ 76) : x7 ≤ pointMany_0 := by
  omega
def o_Mo_up_5 : or_T := (283, 8, [(0, (2, 0, 0, [165])), (2, (0, 2, 78, [])), (3, (0, 0, 76, [])), (4, (0, 1, 77, [])), (5, (0, 0, 200, [])), (6, (0, 0, 200, [])), (7, (0, 0, 0, []))], [(9, [6, 1], [80]), (20, [2, 1], [50, 1, 0, 1079, 1, 2, 1, 0, 4, 3, 2, 1, 79, 0, 2]), (20, [1, 5], [60, 3, 10, 413, 79, 80, 81, 90, 93, 82, 83, 84, 85, 86, 87, 88, 89]), (20, [5, 1], [50, 1, 0, 1080, 0, 2, 1, 0, 2, 1, 80]), (24, [0, 1], [])], [], [], [(20, [1, 7], [60, 3, 10, 414, 79, 80, 81, 90, 93, 82, 83, 84, 85, 86, 87, 88, 89]), (20, [7, 1], [50, 1, 0, 1079, 0, 2, 1, 0, 2, 1, 79])], [], [(5, 6, 0, 4294967296), (2, 3, -4294967296, 2), (2, 4, -4294967296, 1), (3, 2, -4294967296, -2), (3, 4, -4294967296, -1), (4, 2, -4294967296, -1)])
theorem oo_Mo_up_5 {kA : Nat → ClassId} : or_ok PRD kA GG o_Mo_up_5 := by
  refine or_mk fun A ta ws vs hD hth hl => ?_
  intro t0 r0 t2 k2 t3 k3 t4 k4 t5 k5 t6 k6 t7 k7 d0 d1 d2 d3 d4 d5 f1 f2 f5 f6 f7
  replace f1 := shm_555 f1
  replace f2 := shm_942 f2
  replace f5 := shm_1160 f5
  replace f6 := shm_1161 f6
  replace f7 := shm_5 f7
  have q1 : n_v vs 1 = n_v vs 0 := f7.symm
  simp only [q1] at f1 f2 f5 f6
  have g1 : v_iv (n_v vs 6) = w_fi ws (n_v vs 0) 80 := congrArg v_iv f1
  have kz_0_79 := fdq_147 hD hth r0
  have kz_0_80 := fdq_131 hD hth r0
  have kz_0_81 := fdq_124 hD hth r0
  have nf0 : fc_1 PRD (20, [1, 7], [60, 3, 10, 414, 79, 80, 81, 90, 93, 82, 83, 84, 85, 86, 87, 88, 89]) ws (vs) := by
    refine ⟨nf_in hl rfl, sgq_1163 ?_⟩
    · show UPI (w_fi ws (n_v vs 1) 79) (w_fi ws (n_v vs 1) 80) (w_fi ws (n_v vs 1) 81) (w_ei ws (w_ar ws (n_v vs 1) 90)) (w_ei ws (w_ar ws (n_v vs 1) 93)) (w_ei ws (w_ar ws (n_v vs 1) 82)) (w_ei ws (w_ar ws (n_v vs 1) 83)) (w_ei ws (w_ar ws (n_v vs 1) 84)) (w_ei ws (w_ar ws (n_v vs 1) 85)) (w_ei ws (w_ar ws (n_v vs 1) 86)) (w_ei ws (w_ar ws (n_v vs 1) 87)) (w_ei ws (w_ar ws (n_v vs 1) 88)) (w_ei ws (w_ar ws (n_v vs 1) 89)) (v_iv (n_v vs 7))
      rw [q1]
      exact vc_Mo_up_5_0 (v_iv (n_v vs 5)) (v_iv (n_v vs 6)) (v_iv (n_v vs 7)) (w_fi ws (n_v vs 0) 80) (w_fi ws (n_v vs 0) 79) (w_ei ws (w_ar ws (n_v vs 0) 90)) (w_ei ws (w_ar ws (n_v vs 0) 93)) (w_ei ws (w_ar ws (n_v vs 0) 82)) (w_ei ws (w_ar ws (n_v vs 0) 83)) (w_ei ws (w_ar ws (n_v vs 0) 84)) (w_ei ws (w_ar ws (n_v vs 0) 85)) (w_ei ws (w_ar ws (n_v vs 0) 86)) (w_ei ws (w_ar ws (n_v vs 0) 87)) (w_ei ws (w_ar ws (n_v vs 0) 88)) (w_ei ws (w_ar ws (n_v vs 0) 89)) (w_fi ws (n_v vs 0) 81) k5 k6 k7 d0 g1 f5 f6 kz_0_79 kz_0_80 kz_0_81
  have nf1 : fc_1 PRD (20, [7, 1], [50, 1, 0, 1079, 0, 2, 1, 0, 2, 1, 79]) ws (vs) := by
    refine ⟨nf_in hl rfl, sgq_1164 ?_⟩
    · show v_iv (n_v vs 7) ≤ w_fi ws (n_v vs 1) 79
      rw [q1]
      exact vc_Mo_up_5_1 (v_iv (n_v vs 2)) (v_iv (n_v vs 3)) (v_iv (n_v vs 4)) (v_iv (n_v vs 7)) (w_fi ws (n_v vs 0) 79) k2 k3 k4 k7 d1 d2 d3 d4 d5 f2 kz_0_79
  refine ⟨(fun _ h => (by cases h)), [], trivial, ?_, (fun _ h => (by cases h))⟩
  rw [List.append_nil]
  exact List.forall_mem_cons.mpr ⟨⟨show (20 : Nat) < 100 from by decide, nf0⟩, List.forall_mem_cons.mpr ⟨⟨show (20 : Nat) < 100 from by decide, nf1⟩, (fun _ h => (by cases h))⟩⟩
set_option maxHeartbeats 4000000 in
theorem vc_Mo_up_6_r0 (x5 : Int) (x6 : Int) (x8 : Int) (x15 : Int) (x17 : Int) (x18 : Int) (costW_0 : Int → Int) (goes_0 : Int → Int) (costPlain_0 : Int → Int) (costB_0 : Int → Int) (costA_0 : Int → Int) (costMany_0 : Int) (pointMany_0 : Int) (flow_0 : Int → Int) (spot_0 : Int → Int) (apartA_0 : Int → Int) (apartB_0 : Int → Int) (apart_0 : Int → Int) (apartMany_0 : Int) (k5 : 0 ≤ x5 ∧ x5 ≤ 199) (k6 : 1 ≤ x6 ∧ x6 ≤ 200) (k8 : 0 ≤ x8 ∧ x8 ≤ 75) (k15 : (-14400) ≤ x15 ∧ x15 ≤ 14400) (k17 : 0 ≤ x17 ∧ x17 ≤ 72) (k18 : (-14472) ≤ x18 ∧ x18 ≤ 14400) (d1 : x6 + (-4294967296) ≤ x5 ∧ x5 ≤ x6 + (-1)) (f0 : x18 = x15 - x17) (h1 : x17 = costW_0 (x5)) (h3 : x15 = goes_0 (x8)) (h10 : x8 = costA_0 (x5)) (g13 : x6 = costMany_0) (f17 : UPC (pointMany_0) (costMany_0) (apartMany_0) (flow_0) (goes_0) (spot_0) (costA_0) (costB_0) (costW_0) (costPlain_0) (apartA_0) (apartB_0) (apart_0) (x5)) (kz_0_79 : 0 ≤ pointMany_0 ∧ pointMany_0 ≤ 76) (kz_0_80 : 0 ≤ costMany_0 ∧ costMany_0 ≤ 200) (kz_0_81 : 0 ≤ apartMany_0 ∧ apartMany_0 ≤ 200) : (-14400) ≤ x18 ∧ x18 ≤ 14400 := by
  have h := upc_v1 (a := x8) ‹UPC _ _ _ _ _ _ _ _ _ _ _ _ _ _› (by omega) (by omega) (Or.inl (by assumption)) (by assumption) (by assumption)
  omega
def o_Mo_up_6 : or_T := (155, 19, [(0, (2, 0, 0, [165])), (1, (2, 0, 0, [165])), (2, (0, 2, 78, [])), (3, (0, 0, 76, [])), (4, (0, 1, 77, [])), (5, (0, 0, 199, [])), (6, (0, 1, 200, [])), (7, (2, 0, 0, [220])), (8, (0, 0, 75, [])), (9, (2, 0, 0, [221])), (10, (0, 0, 75, [])), (11, (2, 0, 0, [223])), (12, (0, 1, 1, [])), (14, (2, 0, 0, [230])), (15, (0, -14400, 14400, [])), (16, (2, 0, 0, [222])), (17, (0, 0, 72, [])), (18, (0, -14472, 14400, []))], [(2, [18, 15, 17], []), (10, [17, 16, 5], []), (9, [16, 1], [85]), (10, [15, 14, 8], []), (9, [14, 1], [93]), (8, [12], [1]), (10, [12, 11, 5], []), (9, [11, 1], [86]), (10, [10, 9, 5], []), (9, [9, 1], [84]), (10, [8, 7, 5], []), (9, [7, 1], [83]), (7, [5, 6], [2]), (9, [6, 1], [80]), (20, [2, 1], [50, 1, 0, 1079, 1, 2, 1, 0, 4, 3, 2, 1, 79, 0, 2]), (20, [3, 1], [50, 1, 0, 1079, 1, 2, 1, 0, 2, 1, 79]), (20, [4, 1], [50, 1, 0, 1079, 1, 2, 1, 0, 4, 3, 2, 1, 79, 0, 1]), (20, [1, 5], [60, 3, 10, 413, 79, 80, 81, 90, 93, 82, 83, 84, 85, 86, 87, 88, 89]), (20, [5, 1], [50, 1, 0, 1080, 0, 2, 1, 0, 2, 1, 80]), (24, [0, 1], [])], [(18, (0, -14400, 14400, []))], [], [], [], [(18, 15, -72, 0), (5, 6, -4294967296, -1), (2, 3, -4294967296, 2), (2, 4, -4294967296, 1), (3, 2, -4294967296, -2), (3, 4, -4294967296, -1), (4, 2, -4294967296, -1), (4, 3, -4294967296, 1)])
theorem oo_Mo_up_6 {kA : Nat → ClassId} : or_ok PRD kA GG o_Mo_up_6 := by
  refine or_mk fun A ta ws vs hD hth hl => ?_
  intro t0 r0 t1 r1 t2 k2 t3 k3 t4 k4 t5 k5 t6 k6 t7 r7 t8 k8 t9 r9 t10 k10 t11 r11 t12 k12 t14 r14 t15 k15 t16 r16 t17 k17 t18 k18 d0 d1 d2 d3 d4 d5 d6 d7 f0 f1 f2 f3 f4 f5 f6 f7 f8 f9 f10 f11 f12 f13 f14 f15 f16 f17 f18 f19
  replace f1 := shm_107 f1
  replace f2 := shm_561 f2
  replace f3 := shm_107 f3
  replace f4 := shm_1162 f4
  replace f10 := shm_107 f10
  replace f11 := shm_556 f11
  replace f13 := shm_555 f13
  replace f17 := shm_1160 f17
  replace f19 := shm_5 f19
  have q1 : n_v vs 1 = n_v vs 0 := f19.symm
  simp only [q1] at f2 f4 f11 f13 f17
  have ad_16 : v_ad (n_v vs 16) = w_ar ws (n_v vs 0) 85 := congrArg v_ad f2
  have ad_14 : v_ad (n_v vs 14) = w_ar ws (n_v vs 0) 93 := congrArg v_ad f4
  have ad_7 : v_ad (n_v vs 7) = w_ar ws (n_v vs 0) 83 := congrArg v_ad f11
  simp only [ad_16] at f1
  have h1 : v_iv (n_v vs 17) = w_ei ws (w_ar ws (n_v vs 0) 85) (v_iv (n_v vs 5)) := f1
  simp only [ad_14] at f3
  have h3 : v_iv (n_v vs 15) = w_ei ws (w_ar ws (n_v vs 0) 93) (v_iv (n_v vs 8)) := f3
  simp only [ad_7] at f10
  have h10 : v_iv (n_v vs 8) = w_ei ws (w_ar ws (n_v vs 0) 83) (v_iv (n_v vs 5)) := f10
  have g13 : v_iv (n_v vs 6) = w_fi ws (n_v vs 0) 80 := congrArg v_iv f13
  have kz_0_79 := fdq_147 hD hth r0
  have kz_0_80 := fdq_131 hD hth r0
  have kz_0_81 := fdq_124 hD hth r0
  have hrf0 : (-14400) ≤ v_iv (n_v vs 18) ∧ v_iv (n_v vs 18) ≤ 14400 := vc_Mo_up_6_r0 (v_iv (n_v vs 5)) (v_iv (n_v vs 6)) (v_iv (n_v vs 8)) (v_iv (n_v vs 15)) (v_iv (n_v vs 17)) (v_iv (n_v vs 18)) (w_ei ws (w_ar ws (n_v vs 0) 85)) (w_ei ws (w_ar ws (n_v vs 0) 93)) (w_ei ws (w_ar ws (n_v vs 0) 86)) (w_ei ws (w_ar ws (n_v vs 0) 84)) (w_ei ws (w_ar ws (n_v vs 0) 83)) (w_fi ws (n_v vs 0) 80) (w_fi ws (n_v vs 0) 79) (w_ei ws (w_ar ws (n_v vs 0) 90)) (w_ei ws (w_ar ws (n_v vs 0) 82)) (w_ei ws (w_ar ws (n_v vs 0) 87)) (w_ei ws (w_ar ws (n_v vs 0) 88)) (w_ei ws (w_ar ws (n_v vs 0) 89)) (w_fi ws (n_v vs 0) 81) k5 k6 k8 k15 k17 k18 d1 (shm_14 f0) h1 h3 h10 g13 f17 kz_0_79 kz_0_80 kz_0_81
  have rf18 : tv_ok ta (0, -14400, 14400, []) (n_v vs 18) := tv_in t18 (by first | omega | grind) (by first | omega | grind)
  refine ⟨List.forall_mem_cons.mpr ⟨rf18, (fun _ h => (by cases h))⟩, [], trivial, ?_, (fun _ h => (by cases h))⟩
  rw [List.append_nil]
  exact (fun _ h => (by cases h))
set_option maxHeartbeats 4000000 in
theorem vc_Mo_up_7_r0 (x5 : Int) (x6 : Int) (x8 : Int) (x10 : Int) (x15 : Int) (x17 : Int) (x18 : Int) (x19 : Int) (x20 : Int) (x21 : Int) (costW_0 : Int → Int) (goes_0 : Int → Int) (pointMany_0 : Int) (costMany_0 : Int) (costW_1 : Int → Int) (goes_1 : Int → Int) (costPlain_1 : Int → Int) (costB_1 : Int → Int) (costA_1 : Int → Int) (costMany_1 : Int) (pointMany_1 : Int) (flow_1 : Int → Int) (spot_1 : Int → Int) (apartA_1 : Int → Int) (apartB_1 : Int → Int) (apart_1 : Int → Int) (apartMany_1 : Int) (apartMany_0 : Int) (spot_0 : Int → Int) (costA_0 : Int → Int) (costB_0 : Int → Int) (costPlain_0 : Int → Int) (apartA_0 : Int → Int) (apartB_0 : Int → Int) (apart_0 : Int → Int) (flow_0 : Int → Int) (k5 : 0 ≤ x5 ∧ x5 ≤ 199) (k6 : 1 ≤ x6 ∧ x6 ≤ 200) (k8 : 0 ≤ x8 ∧ x8 ≤ 75) (k10 : 0 ≤ x10 ∧ x10 ≤ 75) (k15 : (-14400) ≤ x15 ∧ x15 ≤ 14400) (k17 : 0 ≤ x17 ∧ x17 ≤ 72) (k18 : (-14400) ≤ x18 ∧ x18 ≤ 14400) (k19 : (-14400) ≤ x19 ∧ x19 ≤ 14400) (k20 : 0 ≤ x20 ∧ x20 ≤ 72) (k21 : (-14400) ≤ x21 ∧ x21 ≤ 14472) (d3 : x6 + (-4294967296) ≤ x5 ∧ x5 ≤ x6 + (-1)) (f0 : x21 = x19 + x20) (h1 : x20 = costW_0 (x5)) (h3 : x19 = goes_0 (x10)) (f11 : x18 = x15 - x17) (h12 : x17 = costW_1 (x5)) (h13 : x15 = goes_1 (x8)) (h17 : x10 = costB_1 (x5)) (h19 : x8 = costA_1 (x5)) (g22 : x6 = costMany_1) (f26 : UPC (pointMany_1) (costMany_1) (apartMany_1) (flow_1) (goes_1) (spot_1) (costA_1) (costB_1) (costW_1) (costPlain_1) (apartA_1) (apartB_1) (apart_1) (x5)) (fe_0_79_1 : pointMany_0 = pointMany_1) (fe_0_80_1 : costMany_0 = costMany_1) (fe_0_81_1 : apartMany_0 = apartMany_1) (hE_0_82_1 : ∀ j : Int, spot_0 j = spot_1 j) (hE_0_83_1 : ∀ j : Int, costA_0 j = costA_1 j) (hE_0_84_1 : ∀ j : Int, costB_0 j = costB_1 j) (hE_0_85_1 : ∀ j : Int, costW_0 j = costW_1 j) (hE_0_86_1 : ∀ j : Int, costPlain_0 j = costPlain_1 j) (hE_0_87_1 : ∀ j : Int, apartA_0 j = apartA_1 j) (hE_0_88_1 : ∀ j : Int, apartB_0 j = apartB_1 j) (hE_0_89_1 : ∀ j : Int, apart_0 j = apart_1 j) (hE_0_90_1 : ∀ j : Int, flow_0 j = flow_1 j) (hE_0_93_1 : ∀ j : Int, 0 ≤ j → (j = x8 → goes_0 j = x18) ∧ (j ≠ x8 → goes_0 j = goes_1 j)) (kz_0_79 : 0 ≤ pointMany_0 ∧ pointMany_0 ≤ 76) (kz_0_80 : 0 ≤ costMany_0 ∧ costMany_0 ≤ 200) (kz_0_81 : 0 ≤ apartMany_0 ∧ apartMany_0 ≤ 200) : (-14400) ≤ x21 ∧ x21 ≤ 14400 := by
  subst fe_0_79_1
  subst fe_0_80_1
  subst fe_0_81_1
  have e_hE_0_82_1 := funext hE_0_82_1; subst e_hE_0_82_1
  have e_hE_0_83_1 := funext hE_0_83_1; subst e_hE_0_83_1
  have e_hE_0_84_1 := funext hE_0_84_1; subst e_hE_0_84_1
  have e_hE_0_85_1 := funext hE_0_85_1; subst e_hE_0_85_1
  have e_hE_0_86_1 := funext hE_0_86_1; subst e_hE_0_86_1
  have e_hE_0_87_1 := funext hE_0_87_1; subst e_hE_0_87_1
  have e_hE_0_88_1 := funext hE_0_88_1; subst e_hE_0_88_1
  have e_hE_0_89_1 := funext hE_0_89_1; subst e_hE_0_89_1
  have e_hE_0_90_1 := funext hE_0_90_1; subst e_hE_0_90_1
  first
    | (have h := upc_v2 (a := x8) (b := x10) (w := x17) (w2 := x20) (o := x15) (o2 := x19) (v1 := x18) 1 ‹UPC _ _ _ _ _ _ _ _ _ _ _ _ _ _› (by omega) (by omega) (by assumption) (by assumption) (by assumption) (by assumption) (by assumption) (Or.inl rfl) (by omega) (by assumption) (by assumption); omega)
    | (have h := upc_v2 (a := x8) (b := x10) (w := x20) (w2 := x23) (o := x18) (o2 := x22) (v1 := x21) 1 ‹UPC _ _ _ _ _ _ _ _ _ _ _ _ _ _› (by omega) (by omega) (by assumption) (by assumption) (by assumption) (by assumption) (by assumption) (Or.inl rfl) (by omega) (by assumption) (by assumption); omega)
def o_Mo_up_7 : or_T := (172, 22, [(0, (2, 0, 0, [165])), (1, (2, 0, 0, [165])), (2, (0, 2, 78, [])), (3, (0, 0, 76, [])), (4, (0, 1, 77, [])), (5, (0, 0, 199, [])), (6, (0, 1, 200, [])), (7, (2, 0, 0, [220])), (8, (0, 0, 75, [])), (9, (2, 0, 0, [221])), (10, (0, 0, 75, [])), (11, (2, 0, 0, [223])), (12, (0, 1, 1, [])), (14, (2, 0, 0, [230])), (15, (0, -14400, 14400, [])), (16, (2, 0, 0, [222])), (17, (0, 0, 72, [])), (18, (0, -14400, 14400, [])), (19, (0, -14400, 14400, [])), (20, (0, 0, 72, [])), (21, (0, -14400, 14472, []))], [(1, [21, 19, 20], []), (10, [20, 16, 5], []), (9, [16, 1], [85]), (10, [19, 14, 10], []), (9, [14, 1], [93]), (20, [2, 1], [50, 1, 0, 1079, 1, 2, 1, 0, 4, 3, 2, 1, 79, 0, 2]), (20, [3, 1], [50, 1, 0, 1079, 1, 2, 1, 0, 2, 1, 79]), (20, [4, 1], [50, 1, 0, 1079, 1, 2, 1, 0, 4, 3, 2, 1, 79, 0, 1]), (20, [5, 1], [50, 1, 0, 1080, 0, 2, 1, 0, 2, 1, 80]), (24, [0, 1], []), (100, [14, 8, 18], []), (2, [18, 15, 17], []), (10, [17, 16, 5], []), (10, [15, 14, 8], []), (8, [12], [1]), (10, [12, 11, 5], []), (9, [11, 1], [86]), (10, [10, 9, 5], []), (9, [9, 1], [84]), (10, [8, 7, 5], []), (9, [7, 1], [83]), (7, [5, 6], [2]), (9, [6, 1], [80]), (20, [2, 1], [50, 1, 0, 1079, 1, 2, 1, 0, 4, 3, 2, 1, 79, 0, 2]), (20, [3, 1], [50, 1, 0, 1079, 1, 2, 1, 0, 2, 1, 79]), (20, [4, 1], [50, 1, 0, 1079, 1, 2, 1, 0, 4, 3, 2, 1, 79, 0, 1]), (20, [1, 5], [60, 3, 10, 413, 79, 80, 81, 90, 93, 82, 83, 84, 85, 86, 87, 88, 89]), (20, [5, 1], [50, 1, 0, 1080, 0, 2, 1, 0, 2, 1, 80])], [(21, (0, -14400, 14400, []))], [], [], [], [(21, 20, -14400, 14400), (21, 19, 0, 72), (18, 15, -72, 0), (5, 6, -4294967296, -1), (2, 3, -4294967296, 2), (2, 4, -4294967296, 1), (3, 2, -4294967296, -2), (3, 4, -4294967296, -1), (4, 2, -4294967296, -1), (4, 3, -4294967296, 1)])
theorem oo_Mo_up_7 {kA : Nat → ClassId} : or_ok PRD kA GG o_Mo_up_7 := by
  refine or_mk fun A ta ws vs hD hth hl => ?_
  intro t0 r0 t1 r1 t2 k2 t3 k3 t4 k4 t5 k5 t6 k6 t7 r7 t8 k8 t9 r9 t10 k10 t11 r11 t12 k12 t14 r14 t15 k15 t16 r16 t17 k17 t18 k18 t19 k19 t20 k20 t21 k21 d0 d1 d2 d3 d4 d5 d6 d7 d8 d9 f0 f1 f2 f3 f4 f5 f6 f7 f8 f9 ta1 w1 le1 s1 f11 f12 f13 f14 f15 f16 f17 f18 f19 f20 f21 f22 f23 f24 f25 f26 f27
  replace f1 := shm_107 f1
  replace f2 := shm_561 f2
  replace f3 := shm_107 f3
  replace f4 := shm_1162 f4
  replace f9 := shm_5 f9
  have s1 : (∀ b j, w_el ws b j = if b = v_ad (n_v vs 14) ∧ j = (v_iv (n_v vs 8)).toNat then v_iv (n_v vs 18) else w_el w1 b j) ∧ ∀ b k, w_fd ws b k = w_fd w1 b k := s1.2
  replace f12 := shm_107 f12
  replace f13 := shm_107 f13
  replace f17 := shm_107 f17
  replace f18 := shm_562 f18
  replace f19 := shm_107 f19
  replace f20 := shm_556 f20
  replace f22 := shm_555 f22
  replace f26 := shm_1160 f26
  have q1 : n_v vs 1 = n_v vs 0 := f9.symm
  simp only [q1] at f2 f4 f18 f20 f22 f26
  have ar_0_82_1 : w_ar w1 (n_v vs 0) 82 = w_ar ws (n_v vs 0) 82 := congrArg v_ad (s1.2 _ _).symm
  have cr_0_82 := fdq_230 hD hth r0
  have ar_0_83_1 : w_ar w1 (n_v vs 0) 83 = w_ar ws (n_v vs 0) 83 := congrArg v_ad (s1.2 _ _).symm
  have cr_0_83 := fdq_126 hD hth r0
  have ar_0_84_1 : w_ar w1 (n_v vs 0) 84 = w_ar ws (n_v vs 0) 84 := congrArg v_ad (s1.2 _ _).symm
  have cr_0_84 := fdq_127 hD hth r0
  have ar_0_85_1 : w_ar w1 (n_v vs 0) 85 = w_ar ws (n_v vs 0) 85 := congrArg v_ad (s1.2 _ _).symm
  have cr_0_85 := fdq_128 hD hth r0
  have ar_0_86_1 : w_ar w1 (n_v vs 0) 86 = w_ar ws (n_v vs 0) 86 := congrArg v_ad (s1.2 _ _).symm
  have cr_0_86 := fdq_129 hD hth r0
  have ar_0_87_1 : w_ar w1 (n_v vs 0) 87 = w_ar ws (n_v vs 0) 87 := congrArg v_ad (s1.2 _ _).symm
  have cr_0_87 := fdq_119 hD hth r0
  have ar_0_88_1 : w_ar w1 (n_v vs 0) 88 = w_ar ws (n_v vs 0) 88 := congrArg v_ad (s1.2 _ _).symm
  have cr_0_88 := fdq_120 hD hth r0
  have ar_0_89_1 : w_ar w1 (n_v vs 0) 89 = w_ar ws (n_v vs 0) 89 := congrArg v_ad (s1.2 _ _).symm
  have cr_0_89 := fdq_121 hD hth r0
  have ar_0_90_1 : w_ar w1 (n_v vs 0) 90 = w_ar ws (n_v vs 0) 90 := congrArg v_ad (s1.2 _ _).symm
  have cr_0_90 := fdq_231 hD hth r0
  have ar_0_93_1 : w_ar w1 (n_v vs 0) 93 = w_ar ws (n_v vs 0) 93 := congrArg v_ad (s1.2 _ _).symm
  have ad_16 : v_ad (n_v vs 16) = w_ar ws (n_v vs 0) 85 := congrArg v_ad f2
  have ad_14 : v_ad (n_v vs 14) = w_ar ws (n_v vs 0) 93 := congrArg v_ad f4
  have ad_9 : v_ad (n_v vs 9) = w_ar ws (n_v vs 0) 84 := (congrArg v_ad f18).trans ar_0_84_1
  have ad_7 : v_ad (n_v vs 7) = w_ar ws (n_v vs 0) 83 := (congrArg v_ad f20).trans ar_0_83_1
  simp only [ad_16] at f1
  have h1 : v_iv (n_v vs 20) = w_ei ws (w_ar ws (n_v vs 0) 85) (v_iv (n_v vs 5)) := f1
  simp only [ad_14] at f3
  have h3 : v_iv (n_v vs 19) = w_ei ws (w_ar ws (n_v vs 0) 93) (v_iv (n_v vs 10)) := f3
  simp only [ad_16] at f12
  have h12 : v_iv (n_v vs 17) = w_ei w1 (w_ar ws (n_v vs 0) 85) (v_iv (n_v vs 5)) := f12
  simp only [ad_14] at f13
  have h13 : v_iv (n_v vs 15) = w_ei w1 (w_ar ws (n_v vs 0) 93) (v_iv (n_v vs 8)) := f13
  simp only [ad_9] at f17
  have h17 : v_iv (n_v vs 10) = w_ei w1 (w_ar ws (n_v vs 0) 84) (v_iv (n_v vs 5)) := f17
  simp only [ad_7] at f19
  have h19 : v_iv (n_v vs 8) = w_ei w1 (w_ar ws (n_v vs 0) 83) (v_iv (n_v vs 5)) := f19
  have g22 : v_iv (n_v vs 6) = w_fi w1 (n_v vs 0) 80 := congrArg v_iv f22
  simp only [ar_0_82_1, ar_0_83_1, ar_0_84_1, ar_0_85_1, ar_0_86_1, ar_0_87_1, ar_0_88_1, ar_0_89_1, ar_0_90_1, ar_0_93_1] at f26
  have fe_0_79_1 : w_fi ws (n_v vs 0) 79 = w_fi w1 (n_v vs 0) 79 := congrArg v_iv (s1.2 _ _)
  have fe_0_80_1 : w_fi ws (n_v vs 0) 80 = w_fi w1 (n_v vs 0) 80 := congrArg v_iv (s1.2 _ _)
  have fe_0_81_1 : w_fi ws (n_v vs 0) 81 = w_fi w1 (n_v vs 0) 81 := congrArg v_iv (s1.2 _ _)
  have hE_0_82_1 : ∀ j : Int, w_ei ws (w_ar ws (n_v vs 0) 82) j = w_ei w1 (w_ar ws (n_v vs 0) 82) j := el_kp s1.1 r14 cr_0_82 (by decide)
  have hE_0_83_1 : ∀ j : Int, w_ei ws (w_ar ws (n_v vs 0) 83) j = w_ei w1 (w_ar ws (n_v vs 0) 83) j := el_kp s1.1 r14 cr_0_83 (by decide)
  have hE_0_84_1 : ∀ j : Int, w_ei ws (w_ar ws (n_v vs 0) 84) j = w_ei w1 (w_ar ws (n_v vs 0) 84) j := el_kp s1.1 r14 cr_0_84 (by decide)
  have hE_0_85_1 : ∀ j : Int, w_ei ws (w_ar ws (n_v vs 0) 85) j = w_ei w1 (w_ar ws (n_v vs 0) 85) j := el_kp s1.1 r14 cr_0_85 (by decide)
  have hE_0_86_1 : ∀ j : Int, w_ei ws (w_ar ws (n_v vs 0) 86) j = w_ei w1 (w_ar ws (n_v vs 0) 86) j := el_kp s1.1 r14 cr_0_86 (by decide)
  have hE_0_87_1 : ∀ j : Int, w_ei ws (w_ar ws (n_v vs 0) 87) j = w_ei w1 (w_ar ws (n_v vs 0) 87) j := el_kp s1.1 r14 cr_0_87 (by decide)
  have hE_0_88_1 : ∀ j : Int, w_ei ws (w_ar ws (n_v vs 0) 88) j = w_ei w1 (w_ar ws (n_v vs 0) 88) j := el_kp s1.1 r14 cr_0_88 (by decide)
  have hE_0_89_1 : ∀ j : Int, w_ei ws (w_ar ws (n_v vs 0) 89) j = w_ei w1 (w_ar ws (n_v vs 0) 89) j := el_kp s1.1 r14 cr_0_89 (by decide)
  have hE_0_90_1 : ∀ j : Int, w_ei ws (w_ar ws (n_v vs 0) 90) j = w_ei w1 (w_ar ws (n_v vs 0) 90) j := el_kp s1.1 r14 cr_0_90 (by decide)
  have hE_0_93_1 : ∀ j : Int, 0 ≤ j → (j = v_iv (n_v vs 8) → w_ei ws (w_ar ws (n_v vs 0) 93) j = v_iv (n_v vs 18)) ∧ (j ≠ v_iv (n_v vs 8) → w_ei ws (w_ar ws (n_v vs 0) 93) j = w_ei w1 (w_ar ws (n_v vs 0) 93) j) := fun j hj => ⟨fun h => by unfold w_ei; rw [s1.1, if_pos ⟨ad_14.symm, by rw [h]⟩], fun h => by unfold w_ei; rw [s1.1, if_neg (fun e => h (by have := e.2; omega))]⟩
  have kz_0_79 := fdq_147 hD hth r0
  have kz_0_80 := fdq_131 hD hth r0
  have kz_0_81 := fdq_124 hD hth r0
  have hrf0 : (-14400) ≤ v_iv (n_v vs 21) ∧ v_iv (n_v vs 21) ≤ 14400 := vc_Mo_up_7_r0 (v_iv (n_v vs 5)) (v_iv (n_v vs 6)) (v_iv (n_v vs 8)) (v_iv (n_v vs 10)) (v_iv (n_v vs 15)) (v_iv (n_v vs 17)) (v_iv (n_v vs 18)) (v_iv (n_v vs 19)) (v_iv (n_v vs 20)) (v_iv (n_v vs 21)) (w_ei ws (w_ar ws (n_v vs 0) 85)) (w_ei ws (w_ar ws (n_v vs 0) 93)) (w_fi ws (n_v vs 0) 79) (w_fi ws (n_v vs 0) 80) (w_ei w1 (w_ar ws (n_v vs 0) 85)) (w_ei w1 (w_ar ws (n_v vs 0) 93)) (w_ei w1 (w_ar ws (n_v vs 0) 86)) (w_ei w1 (w_ar ws (n_v vs 0) 84)) (w_ei w1 (w_ar ws (n_v vs 0) 83)) (w_fi w1 (n_v vs 0) 80) (w_fi w1 (n_v vs 0) 79) (w_ei w1 (w_ar ws (n_v vs 0) 90)) (w_ei w1 (w_ar ws (n_v vs 0) 82)) (w_ei w1 (w_ar ws (n_v vs 0) 87)) (w_ei w1 (w_ar ws (n_v vs 0) 88)) (w_ei w1 (w_ar ws (n_v vs 0) 89)) (w_fi w1 (n_v vs 0) 81) (w_fi ws (n_v vs 0) 81) (w_ei ws (w_ar ws (n_v vs 0) 82)) (w_ei ws (w_ar ws (n_v vs 0) 83)) (w_ei ws (w_ar ws (n_v vs 0) 84)) (w_ei ws (w_ar ws (n_v vs 0) 86)) (w_ei ws (w_ar ws (n_v vs 0) 87)) (w_ei ws (w_ar ws (n_v vs 0) 88)) (w_ei ws (w_ar ws (n_v vs 0) 89)) (w_ei ws (w_ar ws (n_v vs 0) 90)) k5 k6 k8 k10 k15 k17 k18 k19 k20 k21 d3 (shm_12 f0) h1 h3 (shm_14 f11) h12 h13 h17 h19 g22 f26 fe_0_79_1 fe_0_80_1 fe_0_81_1 hE_0_82_1 hE_0_83_1 hE_0_84_1 hE_0_85_1 hE_0_86_1 hE_0_87_1 hE_0_88_1 hE_0_89_1 hE_0_90_1 hE_0_93_1 kz_0_79 kz_0_80 kz_0_81
  have rf21 : tv_ok ta (0, -14400, 14400, []) (n_v vs 21) := tv_in t21 (by first | omega | grind) (by first | omega | grind)
  refine ⟨List.forall_mem_cons.mpr ⟨rf21, (fun _ h => (by cases h))⟩, [], trivial, ?_, (fun _ h => (by cases h))⟩
  rw [List.append_nil]
  exact (fun _ h => (by cases h))
set_option maxHeartbeats 4000000 in
theorem vc_Mo_up_8_0 (x5 : Int) (x6 : Int) (x8 : Int) (x10 : Int) (x12 : Int) (x15 : Int) (x17 : Int) (x18 : Int) (x19 : Int) (x20 : Int) (x21 : Int) (x22 : Int) (pointMany_0 : Int) (costMany_0 : Int) (costW_1 : Int → Int) (goes_1 : Int → Int) (pointMany_1 : Int) (costMany_1 : Int) (costW_2 : Int → Int) (goes_2 : Int → Int) (costPlain_2 : Int → Int) (costB_2 : Int → Int) (costA_2 : Int → Int) (costMany_2 : Int) (pointMany_2 : Int) (flow_2 : Int → Int) (spot_2 : Int → Int) (apartA_2 : Int → Int) (apartB_2 : Int → Int) (apart_2 : Int → Int) (apartMany_2 : Int) (apartMany_0 : Int) (apartMany_1 : Int) (spot_0 : Int → Int) (spot_1 : Int → Int) (costA_0 : Int → Int) (costA_1 : Int → Int) (costB_0 : Int → Int) (costB_1 : Int → Int) (costW_0 : Int → Int) (costPlain_0 : Int → Int) (costPlain_1 : Int → Int) (apartA_0 : Int → Int) (apartA_1 : Int → Int) (apartB_0 : Int → Int) (apartB_1 : Int → Int) (apart_0 : Int → Int) (apart_1 : Int → Int) (flow_0 : Int → Int) (flow_1 : Int → Int) (goes_0 : Int → Int) (k5 : 0 ≤ x5 ∧ x5 ≤ 199) (k6 : 1 ≤ x6 ∧ x6 ≤ 200) (k8 : 0 ≤ x8 ∧ x8 ≤ 75) (k10 : 0 ≤ x10 ∧ x10 ≤ 75) (k12 : 1 ≤ x12 ∧ x12 ≤ 1) (k15 : (-14400) ≤ x15 ∧ x15 ≤ 14400) (k17 : 0 ≤ x17 ∧ x17 ≤ 72) (k18 : (-14400) ≤ x18 ∧ x18 ≤ 14400) (k19 : (-14400) ≤ x19 ∧ x19 ≤ 14400) (k20 : 0 ≤ x20 ∧ x20 ≤ 72) (k21 : (-14400) ≤ x21 ∧ x21 ≤ 14400) (k22 : 1 ≤ x22 ∧ x22 ≤ 200) (d0 : x5 + 1 ≤ x22 ∧ x22 ≤ x5 + 1) (d1 : x6 + (-4294967296) ≤ x22 ∧ x22 ≤ x6 + 0) (d5 : x6 + (-4294967296) ≤ x5 ∧ x5 ≤ x6 + (-1)) (f0 : x22 = x5 + 1) (f7 : x21 = x19 + x20) (h8 : x20 = costW_1 (x5)) (h10 : x19 = goes_1 (x10)) (f17 : x18 = x15 - x17) (h18 : x17 = costW_2 (x5)) (h19 : x15 = goes_2 (x8)) (f20 : x12 ≠ 0) (h21 : x12 = costPlain_2 (x5)) (h23 : x10 = costB_2 (x5)) (h25 : x8 = costA_2 (x5)) (g28 : x6 = costMany_2) (f32 : UPC (pointMany_2) (costMany_2) (apartMany_2) (flow_2) (goes_2) (spot_2) (costA_2) (costB_2) (costW_2) (costPlain_2) (apartA_2) (apartB_2) (apart_2) (x5)) (fe_0_79_1 : pointMany_0 = pointMany_1) (fe_0_80_1 : costMany_0 = costMany_1) (fe_0_81_1 : apartMany_0 = apartMany_1) (fe_0_79_2 : pointMany_1 = pointMany_2) (fe_0_80_2 : costMany_1 = costMany_2) (fe_0_81_2 : apartMany_1 = apartMany_2) (hE_0_82_1 : ∀ j : Int, spot_0 j = spot_1 j) (hE_0_82_2 : ∀ j : Int, spot_1 j = spot_2 j) (hE_0_83_1 : ∀ j : Int, costA_0 j = costA_1 j) (hE_0_83_2 : ∀ j : Int, costA_1 j = costA_2 j) (hE_0_84_1 : ∀ j : Int, costB_0 j = costB_1 j) (hE_0_84_2 : ∀ j : Int, costB_1 j = costB_2 j) (hE_0_85_1 : ∀ j : Int, costW_0 j = costW_1 j) (hE_0_85_2 : ∀ j : Int, costW_1 j = costW_2 j) (hE_0_86_1 : ∀ j : Int, costPlain_0 j = costPlain_1 j) (hE_0_86_2 : ∀ j : Int, costPlain_1 j = costPlain_2 j) (hE_0_87_1 : ∀ j : Int, apartA_0 j = apartA_1 j) (hE_0_87_2 : ∀ j : Int, apartA_1 j = apartA_2 j) (hE_0_88_1 : ∀ j : Int, apartB_0 j = apartB_1 j) (hE_0_88_2 : ∀ j : Int, apartB_1 j = apartB_2 j) (hE_0_89_1 : ∀ j : Int, apart_0 j = apart_1 j) (hE_0_89_2 : ∀ j : Int, apart_1 j = apart_2 j) (hE_0_90_1 : ∀ j : Int, flow_0 j = flow_1 j) (hE_0_90_2 : ∀ j : Int, flow_1 j = flow_2 j) (hE_0_93_1 : ∀ j : Int, 0 ≤ j → (j = x10 → goes_0 j = x21) ∧ (j ≠ x10 → goes_0 j = goes_1 j)) (hE_0_93_2 : ∀ j : Int, 0 ≤ j → (j = x8 → goes_1 j = x18) ∧ (j ≠ x8 → goes_1 j = goes_2 j)) (kz_0_79 : 0 ≤ pointMany_0 ∧ pointMany_0 ≤ 76) (kz_0_80 : 0 ≤ costMany_0 ∧ costMany_0 ≤ 200) (kz_0_81 : 0 ≤ apartMany_0 ∧ apartMany_0 ≤ 200) : UPC (pointMany_0) (costMany_0) (apartMany_0) (flow_0) (goes_0) (spot_0) (costA_0) (costB_0) (costW_0) (costPlain_0) (apartA_0) (apartB_0) (apart_0) (x22) := by
  subst fe_0_79_1
  subst fe_0_80_1
  subst fe_0_81_1
  subst fe_0_79_2
  subst fe_0_80_2
  subst fe_0_81_2
  have e_hE_0_82_1 := funext hE_0_82_1; subst e_hE_0_82_1
  have e_hE_0_82_2 := funext hE_0_82_2; subst e_hE_0_82_2
  have e_hE_0_83_1 := funext hE_0_83_1; subst e_hE_0_83_1
  have e_hE_0_83_2 := funext hE_0_83_2; subst e_hE_0_83_2
  have e_hE_0_84_1 := funext hE_0_84_1; subst e_hE_0_84_1
  have e_hE_0_84_2 := funext hE_0_84_2; subst e_hE_0_84_2
  have e_hE_0_85_1 := funext hE_0_85_1; subst e_hE_0_85_1
  have e_hE_0_85_2 := funext hE_0_85_2; subst e_hE_0_85_2
  have e_hE_0_86_1 := funext hE_0_86_1; subst e_hE_0_86_1
  have e_hE_0_86_2 := funext hE_0_86_2; subst e_hE_0_86_2
  have e_hE_0_87_1 := funext hE_0_87_1; subst e_hE_0_87_1
  have e_hE_0_87_2 := funext hE_0_87_2; subst e_hE_0_87_2
  have e_hE_0_88_1 := funext hE_0_88_1; subst e_hE_0_88_1
  have e_hE_0_88_2 := funext hE_0_88_2; subst e_hE_0_88_2
  have e_hE_0_89_1 := funext hE_0_89_1; subst e_hE_0_89_1
  have e_hE_0_89_2 := funext hE_0_89_2; subst e_hE_0_89_2
  have e_hE_0_90_1 := funext hE_0_90_1; subst e_hE_0_90_1
  have e_hE_0_90_2 := funext hE_0_90_2; subst e_hE_0_90_2
  first
    | exact upc_start ‹PBK _ _ _ _ _ _ _ _ _ _› ‹UZN _ _› (Int.le_refl _) ‹UZG _ _›.1 (by omega) (by omega)
    | exact upc_goP1 (a := x8) (b := x10) (w := x17) (w2 := x20) (pl := x12) (o1 := x15) (o2 := x19) ‹UPC _ _ _ _ _ _ _ _ _ _ _ _ _ _› (by omega) (by omega) (by assumption) (by assumption) (by assumption) (by assumption) (by assumption) (by assumption) (by omega) (by assumption) (by assumption) (by assumption) (by assumption) (by assumption) (by assumption)
    | exact upc_goP2 (a := x8) (b := x10) (w := x20) (w2 := x23) (ya := x14) (yb := x15) (o1 := x18) (o2 := x22) ‹UPC _ _ _ _ _ _ _ _ _ _ _ _ _ _› (by omega) (by omega) (by assumption) (by assumption) (by assumption) (by assumption) (by assumption) (by assumption) (by assumption) (by omega) (by assumption) (by assumption) (by assumption) (by assumption) (by assumption) (by assumption)
    | exact upc_goM2 (a := x8) (b := x10) (w := x22) (w2 := x25) (pl := x12) (ya := x17) (yb := x18) (o1 := x20) (o2 := x24) ‹UPC _ _ _ _ _ _ _ _ _ _ _ _ _ _› (by omega) (by omega) (by assumption) (by assumption) (by assumption) (by assumption) (by assumption) (by assumption) (by omega) (by assumption) (by assumption) (by omega) (by assumption) (by assumption) (by assumption) (by assumption) (by assumption) (by assumption)
    | exact upc_tie3 (a := x8) (b := x10) (w := x24) (w2 := x29) (pl := x12) (ya := x14) (yb := x15) (ya2 := x17) (yb2 := x18) (q1 := x21) (q2 := x27) (r1 := x20) (r2 := x26) (o1 := x22) (o2 := x28) ‹UPC _ _ _ _ _ _ _ _ _ _ _ _ _ _› (by omega) (by omega) (by assumption) (by omega) (by assumption) (by assumption) (by assumption) (by assumption) (by assumption) (by omega) (by assumption) (by assumption) (by omega) (by assumption) (by assumption) (by omega) (by assumption) (by assumption) (by assumption) (by assumption) (by assumption) (by assumption) (by assumption) (by assumption) (by assumption) (by assumption)
  
set_option maxHeartbeats 4000000 in
theorem vc_Mo_up_8_1 (x5 : Int) (x6 : Int) (x22 : Int) (pointMany_0 : Int) (costMany_0 : Int) (costW_1 : Int → Int) (pointMany_1 : Int) (costMany_1 : Int) (costW_2 : Int → Int) (costPlain_2 : Int → Int) (costB_2 : Int → Int) (costA_2 : Int → Int) (costMany_2 : Int) (pointMany_2 : Int) (flow_2 : Int → Int) (spot_2 : Int → Int) (apartA_2 : Int → Int) (apartB_2 : Int → Int) (apart_2 : Int → Int) (apartMany_2 : Int) (apartMany_0 : Int) (apartMany_1 : Int) (spot_0 : Int → Int) (spot_1 : Int → Int) (costA_0 : Int → Int) (costA_1 : Int → Int) (costB_0 : Int → Int) (costB_1 : Int → Int) (costW_0 : Int → Int) (costPlain_0 : Int → Int) (costPlain_1 : Int → Int) (apartA_0 : Int → Int) (apartA_1 : Int → Int) (apartB_0 : Int → Int) (apartB_1 : Int → Int) (apart_0 : Int → Int) (apart_1 : Int → Int) (flow_0 : Int → Int) (flow_1 : Int → Int) (k5 : 0 ≤ x5 ∧ x5 ≤ 199) (k6 : 1 ≤ x6 ∧ x6 ≤ 200) (k22 : 1 ≤ x22 ∧ x22 ≤ 200) (d0 : x5 + 1 ≤ x22 ∧ x22 ≤ x5 + 1) (d1 : x6 + (-4294967296) ≤ x22 ∧ x22 ≤ x6 + 0) (d5 : x6 + (-4294967296) ≤ x5 ∧ x5 ≤ x6 + (-1)) (g28 : x6 = costMany_2) (fe_0_79_1 : pointMany_0 = pointMany_1) (fe_0_80_1 : costMany_0 = costMany_1) (fe_0_81_1 : apartMany_0 = apartMany_1) (fe_0_79_2 : pointMany_1 = pointMany_2) (fe_0_80_2 : costMany_1 = costMany_2) (fe_0_81_2 : apartMany_1 = apartMany_2) (hE_0_82_1 : ∀ j : Int, spot_0 j = spot_1 j) (hE_0_82_2 : ∀ j : Int, spot_1 j = spot_2 j) (hE_0_83_1 : ∀ j : Int, costA_0 j = costA_1 j) (hE_0_83_2 : ∀ j : Int, costA_1 j = costA_2 j) (hE_0_84_1 : ∀ j : Int, costB_0 j = costB_1 j) (hE_0_84_2 : ∀ j : Int, costB_1 j = costB_2 j) (hE_0_85_1 : ∀ j : Int, costW_0 j = costW_1 j) (hE_0_85_2 : ∀ j : Int, costW_1 j = costW_2 j) (hE_0_86_1 : ∀ j : Int, costPlain_0 j = costPlain_1 j) (hE_0_86_2 : ∀ j : Int, costPlain_1 j = costPlain_2 j) (hE_0_87_1 : ∀ j : Int, apartA_0 j = apartA_1 j) (hE_0_87_2 : ∀ j : Int, apartA_1 j = apartA_2 j) (hE_0_88_1 : ∀ j : Int, apartB_0 j = apartB_1 j) (hE_0_88_2 : ∀ j : Int, apartB_1 j = apartB_2 j) (hE_0_89_1 : ∀ j : Int, apart_0 j = apart_1 j) (hE_0_89_2 : ∀ j : Int, apart_1 j = apart_2 j) (hE_0_90_1 : ∀ j : Int, flow_0 j = flow_1 j) (hE_0_90_2 : ∀ j : Int, flow_1 j = flow_2 j) (kz_0_79 : 0 ≤ pointMany_0 ∧ pointMany_0 ≤ 76) (kz_0_80 : 0 ≤ costMany_0 ∧ costMany_0 ≤ 200) (kz_0_81 : 0 ≤ apartMany_0 ∧ apartMany_0 ≤ 200) : x22 ≤ costMany_0 := by
  subst fe_0_79_1
  subst fe_0_80_1
  subst fe_0_81_1
  subst fe_0_79_2
  subst fe_0_80_2
  subst fe_0_81_2
  have e_hE_0_82_1 := funext hE_0_82_1; subst e_hE_0_82_1
  have e_hE_0_82_2 := funext hE_0_82_2; subst e_hE_0_82_2
  have e_hE_0_83_1 := funext hE_0_83_1; subst e_hE_0_83_1
  have e_hE_0_83_2 := funext hE_0_83_2; subst e_hE_0_83_2
  have e_hE_0_84_1 := funext hE_0_84_1; subst e_hE_0_84_1
  have e_hE_0_84_2 := funext hE_0_84_2; subst e_hE_0_84_2
  have e_hE_0_85_1 := funext hE_0_85_1; subst e_hE_0_85_1
  have e_hE_0_85_2 := funext hE_0_85_2; subst e_hE_0_85_2
  have e_hE_0_86_1 := funext hE_0_86_1; subst e_hE_0_86_1
  have e_hE_0_86_2 := funext hE_0_86_2; subst e_hE_0_86_2
  have e_hE_0_87_1 := funext hE_0_87_1; subst e_hE_0_87_1
  have e_hE_0_87_2 := funext hE_0_87_2; subst e_hE_0_87_2
  have e_hE_0_88_1 := funext hE_0_88_1; subst e_hE_0_88_1
  have e_hE_0_88_2 := funext hE_0_88_2; subst e_hE_0_88_2
  have e_hE_0_89_1 := funext hE_0_89_1; subst e_hE_0_89_1
  have e_hE_0_89_2 := funext hE_0_89_2; subst e_hE_0_89_2
  have e_hE_0_90_1 := funext hE_0_90_1; subst e_hE_0_90_1
  have e_hE_0_90_2 := funext hE_0_90_2; subst e_hE_0_90_2
  omega
def o_Mo_up_8 : or_T := (73, 23, [(0, (2, 0, 0, [165])), (5, (0, 0, 199, [])), (6, (0, 1, 200, [])), (8, (0, 0, 75, [])), (10, (0, 0, 75, [])), (12, (0, 1, 1, [])), (14, (2, 0, 0, [230])), (15, (0, -14400, 14400, [])), (17, (0, 0, 72, [])), (18, (0, -14400, 14400, [])), (19, (0, -14400, 14400, [])), (20, (0, 0, 72, [])), (21, (0, -14400, 14400, [])), (22, (0, 1, 200, []))], [(6, [22, 5], [1]), (24, [0, 1], []), (100, [14, 10, 21], []), (1, [21, 19, 20], []), (10, [20, 16, 5], []), (9, [16, 1], [85]), (10, [19, 14, 10], []), (9, [14, 1], [93]), (100, [14, 8, 18], []), (2, [18, 15, 17], []), (10, [17, 16, 5], []), (10, [15, 14, 8], []), (8, [12], [1]), (10, [12, 11, 5], []), (9, [11, 1], [86]), (10, [10, 9, 5], []), (9, [9, 1], [84]), (10, [8, 7, 5], []), (9, [7, 1], [83]), (9, [6, 1], [80]), (20, [1, 5], [60, 3, 10, 413, 79, 80, 81, 90, 93, 82, 83, 84, 85, 86, 87, 88, 89])], [], [], [(20, [1, 22], [60, 3, 10, 413, 79, 80, 81, 90, 93, 82, 83, 84, 85, 86, 87, 88, 89]), (20, [22, 1], [50, 1, 0, 1080, 0, 2, 1, 0, 2, 1, 80])], [], [(22, 5, 1, 1), (22, 6, -4294967296, 0), (21, 20, -14400, 14400), (21, 19, 0, 72), (18, 15, -72, 0), (5, 6, -4294967296, -1)])
theorem oo_Mo_up_8 {kA : Nat → ClassId} : or_ok PRD kA GG o_Mo_up_8 := by
  refine or_mk fun A ta ws vs hD hth hl => ?_
  intro t0 r0 t5 k5 t6 k6 t8 k8 t10 k10 t12 k12 t14 r14 t15 k15 t17 k17 t18 k18 t19 k19 t20 k20 t21 k21 t22 k22 d0 d1 d2 d3 d4 d5 f0 f5 ta1 w1 le1 s1 f7 f8 f9 f10 f11 ta2 w2 le2 s2 f17 f18 f19 f20 f21 f22 f23 f24 f25 f26 f28 f32
  replace f0 := shm_4 f0
  replace f5 := shm_5 f5
  have s1 : (∀ b j, w_el ws b j = if b = v_ad (n_v vs 14) ∧ j = (v_iv (n_v vs 10)).toNat then v_iv (n_v vs 21) else w_el w1 b j) ∧ ∀ b k, w_fd ws b k = w_fd w1 b k := s1.2
  replace f7 := shm_12 f7
  replace f8 := shm_107 f8
  replace f9 := shm_561 f9
  replace f10 := shm_107 f10
  replace f11 := shm_1162 f11
  have s2 : (∀ b j, w_el w1 b j = if b = v_ad (n_v vs 14) ∧ j = (v_iv (n_v vs 8)).toNat then v_iv (n_v vs 18) else w_el w2 b j) ∧ ∀ b k, w_fd w1 b k = w_fd w2 b k := s2.2
  replace f17 := shm_14 f17
  replace f18 := shm_107 f18
  replace f19 := shm_107 f19
  replace f20 := shm_142 f20
  replace f21 := shm_107 f21
  replace f22 := shm_560 f22
  replace f23 := shm_107 f23
  replace f24 := shm_562 f24
  replace f25 := shm_107 f25
  replace f26 := shm_556 f26
  replace f28 := shm_555 f28
  replace f32 := shm_1160 f32
  have q1 : n_v vs 1 = n_v vs 0 := f5.symm
  simp only [q1] at f9 f11 f22 f24 f26 f28 f32
  have ar_0_82_1 : w_ar w1 (n_v vs 0) 82 = w_ar ws (n_v vs 0) 82 := congrArg v_ad (s1.2 _ _).symm
  have ar_0_82_2 : w_ar w2 (n_v vs 0) 82 = w_ar ws (n_v vs 0) 82 := by rw [← ar_0_82_1]; show v_ad (w_fd w2 _ _) = v_ad (w_fd w1 _ _); rw [s2.2]
  have cr_0_82 := fdq_230 hD hth r0
  have ar_0_83_1 : w_ar w1 (n_v vs 0) 83 = w_ar ws (n_v vs 0) 83 := congrArg v_ad (s1.2 _ _).symm
  have ar_0_83_2 : w_ar w2 (n_v vs 0) 83 = w_ar ws (n_v vs 0) 83 := by rw [← ar_0_83_1]; show v_ad (w_fd w2 _ _) = v_ad (w_fd w1 _ _); rw [s2.2]
  have cr_0_83 := fdq_126 hD hth r0
  have ar_0_84_1 : w_ar w1 (n_v vs 0) 84 = w_ar ws (n_v vs 0) 84 := congrArg v_ad (s1.2 _ _).symm
  have ar_0_84_2 : w_ar w2 (n_v vs 0) 84 = w_ar ws (n_v vs 0) 84 := by rw [← ar_0_84_1]; show v_ad (w_fd w2 _ _) = v_ad (w_fd w1 _ _); rw [s2.2]
  have cr_0_84 := fdq_127 hD hth r0
  have ar_0_85_1 : w_ar w1 (n_v vs 0) 85 = w_ar ws (n_v vs 0) 85 := congrArg v_ad (s1.2 _ _).symm
  have ar_0_85_2 : w_ar w2 (n_v vs 0) 85 = w_ar ws (n_v vs 0) 85 := by rw [← ar_0_85_1]; show v_ad (w_fd w2 _ _) = v_ad (w_fd w1 _ _); rw [s2.2]
  have cr_0_85 := fdq_128 hD hth r0
  have ar_0_86_1 : w_ar w1 (n_v vs 0) 86 = w_ar ws (n_v vs 0) 86 := congrArg v_ad (s1.2 _ _).symm
  have ar_0_86_2 : w_ar w2 (n_v vs 0) 86 = w_ar ws (n_v vs 0) 86 := by rw [← ar_0_86_1]; show v_ad (w_fd w2 _ _) = v_ad (w_fd w1 _ _); rw [s2.2]
  have cr_0_86 := fdq_129 hD hth r0
  have ar_0_87_1 : w_ar w1 (n_v vs 0) 87 = w_ar ws (n_v vs 0) 87 := congrArg v_ad (s1.2 _ _).symm
  have ar_0_87_2 : w_ar w2 (n_v vs 0) 87 = w_ar ws (n_v vs 0) 87 := by rw [← ar_0_87_1]; show v_ad (w_fd w2 _ _) = v_ad (w_fd w1 _ _); rw [s2.2]
  have cr_0_87 := fdq_119 hD hth r0
  have ar_0_88_1 : w_ar w1 (n_v vs 0) 88 = w_ar ws (n_v vs 0) 88 := congrArg v_ad (s1.2 _ _).symm
  have ar_0_88_2 : w_ar w2 (n_v vs 0) 88 = w_ar ws (n_v vs 0) 88 := by rw [← ar_0_88_1]; show v_ad (w_fd w2 _ _) = v_ad (w_fd w1 _ _); rw [s2.2]
  have cr_0_88 := fdq_120 hD hth r0
  have ar_0_89_1 : w_ar w1 (n_v vs 0) 89 = w_ar ws (n_v vs 0) 89 := congrArg v_ad (s1.2 _ _).symm
  have ar_0_89_2 : w_ar w2 (n_v vs 0) 89 = w_ar ws (n_v vs 0) 89 := by rw [← ar_0_89_1]; show v_ad (w_fd w2 _ _) = v_ad (w_fd w1 _ _); rw [s2.2]
  have cr_0_89 := fdq_121 hD hth r0
  have ar_0_90_1 : w_ar w1 (n_v vs 0) 90 = w_ar ws (n_v vs 0) 90 := congrArg v_ad (s1.2 _ _).symm
  have ar_0_90_2 : w_ar w2 (n_v vs 0) 90 = w_ar ws (n_v vs 0) 90 := by rw [← ar_0_90_1]; show v_ad (w_fd w2 _ _) = v_ad (w_fd w1 _ _); rw [s2.2]
  have cr_0_90 := fdq_231 hD hth r0
  have ar_0_93_1 : w_ar w1 (n_v vs 0) 93 = w_ar ws (n_v vs 0) 93 := congrArg v_ad (s1.2 _ _).symm
  have ar_0_93_2 : w_ar w2 (n_v vs 0) 93 = w_ar ws (n_v vs 0) 93 := by rw [← ar_0_93_1]; show v_ad (w_fd w2 _ _) = v_ad (w_fd w1 _ _); rw [s2.2]
  have ad_16 : v_ad (n_v vs 16) = w_ar ws (n_v vs 0) 85 := (congrArg v_ad f9).trans ar_0_85_1
  have ad_14 : v_ad (n_v vs 14) = w_ar ws (n_v vs 0) 93 := (congrArg v_ad f11).trans ar_0_93_1
  have ad_11 : v_ad (n_v vs 11) = w_ar ws (n_v vs 0) 86 := (congrArg v_ad f22).trans ar_0_86_2
  have ad_9 : v_ad (n_v vs 9) = w_ar ws (n_v vs 0) 84 := (congrArg v_ad f24).trans ar_0_84_2
  have ad_7 : v_ad (n_v vs 7) = w_ar ws (n_v vs 0) 83 := (congrArg v_ad f26).trans ar_0_83_2
  simp only [ad_16] at f8
  have h8 : v_iv (n_v vs 20) = w_ei w1 (w_ar ws (n_v vs 0) 85) (v_iv (n_v vs 5)) := f8
  simp only [ad_14] at f10
  have h10 : v_iv (n_v vs 19) = w_ei w1 (w_ar ws (n_v vs 0) 93) (v_iv (n_v vs 10)) := f10
  simp only [ad_16] at f18
  have h18 : v_iv (n_v vs 17) = w_ei w2 (w_ar ws (n_v vs 0) 85) (v_iv (n_v vs 5)) := f18
  simp only [ad_14] at f19
  have h19 : v_iv (n_v vs 15) = w_ei w2 (w_ar ws (n_v vs 0) 93) (v_iv (n_v vs 8)) := f19
  simp only [ad_11] at f21
  have h21 : v_iv (n_v vs 12) = w_ei w2 (w_ar ws (n_v vs 0) 86) (v_iv (n_v vs 5)) := f21
  simp only [ad_9] at f23
  have h23 : v_iv (n_v vs 10) = w_ei w2 (w_ar ws (n_v vs 0) 84) (v_iv (n_v vs 5)) := f23
  simp only [ad_7] at f25
  have h25 : v_iv (n_v vs 8) = w_ei w2 (w_ar ws (n_v vs 0) 83) (v_iv (n_v vs 5)) := f25
  have g28 : v_iv (n_v vs 6) = w_fi w2 (n_v vs 0) 80 := congrArg v_iv f28
  simp only [ar_0_82_2, ar_0_83_2, ar_0_84_2, ar_0_85_2, ar_0_86_2, ar_0_87_2, ar_0_88_2, ar_0_89_2, ar_0_90_2, ar_0_93_2] at f32
  have fe_0_79_1 : w_fi ws (n_v vs 0) 79 = w_fi w1 (n_v vs 0) 79 := congrArg v_iv (s1.2 _ _)
  have fe_0_80_1 : w_fi ws (n_v vs 0) 80 = w_fi w1 (n_v vs 0) 80 := congrArg v_iv (s1.2 _ _)
  have fe_0_81_1 : w_fi ws (n_v vs 0) 81 = w_fi w1 (n_v vs 0) 81 := congrArg v_iv (s1.2 _ _)
  have fe_0_79_2 : w_fi w1 (n_v vs 0) 79 = w_fi w2 (n_v vs 0) 79 := congrArg v_iv (s2.2 _ _)
  have fe_0_80_2 : w_fi w1 (n_v vs 0) 80 = w_fi w2 (n_v vs 0) 80 := congrArg v_iv (s2.2 _ _)
  have fe_0_81_2 : w_fi w1 (n_v vs 0) 81 = w_fi w2 (n_v vs 0) 81 := congrArg v_iv (s2.2 _ _)
  have hE_0_82_1 : ∀ j : Int, w_ei ws (w_ar ws (n_v vs 0) 82) j = w_ei w1 (w_ar ws (n_v vs 0) 82) j := el_kp s1.1 r14 cr_0_82 (by decide)
  have hE_0_82_2 : ∀ j : Int, w_ei w1 (w_ar ws (n_v vs 0) 82) j = w_ei w2 (w_ar ws (n_v vs 0) 82) j := el_kp s2.1 r14 cr_0_82 (by decide)
  have hE_0_83_1 : ∀ j : Int, w_ei ws (w_ar ws (n_v vs 0) 83) j = w_ei w1 (w_ar ws (n_v vs 0) 83) j := el_kp s1.1 r14 cr_0_83 (by decide)
  have hE_0_83_2 : ∀ j : Int, w_ei w1 (w_ar ws (n_v vs 0) 83) j = w_ei w2 (w_ar ws (n_v vs 0) 83) j := el_kp s2.1 r14 cr_0_83 (by decide)
  have hE_0_84_1 : ∀ j : Int, w_ei ws (w_ar ws (n_v vs 0) 84) j = w_ei w1 (w_ar ws (n_v vs 0) 84) j := el_kp s1.1 r14 cr_0_84 (by decide)
  have hE_0_84_2 : ∀ j : Int, w_ei w1 (w_ar ws (n_v vs 0) 84) j = w_ei w2 (w_ar ws (n_v vs 0) 84) j := el_kp s2.1 r14 cr_0_84 (by decide)
  have hE_0_85_1 : ∀ j : Int, w_ei ws (w_ar ws (n_v vs 0) 85) j = w_ei w1 (w_ar ws (n_v vs 0) 85) j := el_kp s1.1 r14 cr_0_85 (by decide)
  have hE_0_85_2 : ∀ j : Int, w_ei w1 (w_ar ws (n_v vs 0) 85) j = w_ei w2 (w_ar ws (n_v vs 0) 85) j := el_kp s2.1 r14 cr_0_85 (by decide)
  have hE_0_86_1 : ∀ j : Int, w_ei ws (w_ar ws (n_v vs 0) 86) j = w_ei w1 (w_ar ws (n_v vs 0) 86) j := el_kp s1.1 r14 cr_0_86 (by decide)
  have hE_0_86_2 : ∀ j : Int, w_ei w1 (w_ar ws (n_v vs 0) 86) j = w_ei w2 (w_ar ws (n_v vs 0) 86) j := el_kp s2.1 r14 cr_0_86 (by decide)
  have hE_0_87_1 : ∀ j : Int, w_ei ws (w_ar ws (n_v vs 0) 87) j = w_ei w1 (w_ar ws (n_v vs 0) 87) j := el_kp s1.1 r14 cr_0_87 (by decide)
  have hE_0_87_2 : ∀ j : Int, w_ei w1 (w_ar ws (n_v vs 0) 87) j = w_ei w2 (w_ar ws (n_v vs 0) 87) j := el_kp s2.1 r14 cr_0_87 (by decide)
  have hE_0_88_1 : ∀ j : Int, w_ei ws (w_ar ws (n_v vs 0) 88) j = w_ei w1 (w_ar ws (n_v vs 0) 88) j := el_kp s1.1 r14 cr_0_88 (by decide)
  have hE_0_88_2 : ∀ j : Int, w_ei w1 (w_ar ws (n_v vs 0) 88) j = w_ei w2 (w_ar ws (n_v vs 0) 88) j := el_kp s2.1 r14 cr_0_88 (by decide)
  have hE_0_89_1 : ∀ j : Int, w_ei ws (w_ar ws (n_v vs 0) 89) j = w_ei w1 (w_ar ws (n_v vs 0) 89) j := el_kp s1.1 r14 cr_0_89 (by decide)
  have hE_0_89_2 : ∀ j : Int, w_ei w1 (w_ar ws (n_v vs 0) 89) j = w_ei w2 (w_ar ws (n_v vs 0) 89) j := el_kp s2.1 r14 cr_0_89 (by decide)
  have hE_0_90_1 : ∀ j : Int, w_ei ws (w_ar ws (n_v vs 0) 90) j = w_ei w1 (w_ar ws (n_v vs 0) 90) j := el_kp s1.1 r14 cr_0_90 (by decide)
  have hE_0_90_2 : ∀ j : Int, w_ei w1 (w_ar ws (n_v vs 0) 90) j = w_ei w2 (w_ar ws (n_v vs 0) 90) j := el_kp s2.1 r14 cr_0_90 (by decide)
  have hE_0_93_1 : ∀ j : Int, 0 ≤ j → (j = v_iv (n_v vs 10) → w_ei ws (w_ar ws (n_v vs 0) 93) j = v_iv (n_v vs 21)) ∧ (j ≠ v_iv (n_v vs 10) → w_ei ws (w_ar ws (n_v vs 0) 93) j = w_ei w1 (w_ar ws (n_v vs 0) 93) j) := fun j hj => ⟨fun h => by unfold w_ei; rw [s1.1, if_pos ⟨ad_14.symm, by rw [h]⟩], fun h => by unfold w_ei; rw [s1.1, if_neg (fun e => h (by have := e.2; omega))]⟩
  have hE_0_93_2 : ∀ j : Int, 0 ≤ j → (j = v_iv (n_v vs 8) → w_ei w1 (w_ar ws (n_v vs 0) 93) j = v_iv (n_v vs 18)) ∧ (j ≠ v_iv (n_v vs 8) → w_ei w1 (w_ar ws (n_v vs 0) 93) j = w_ei w2 (w_ar ws (n_v vs 0) 93) j) := fun j hj => ⟨fun h => by unfold w_ei; rw [s2.1, if_pos ⟨ad_14.symm, by rw [h]⟩], fun h => by unfold w_ei; rw [s2.1, if_neg (fun e => h (by have := e.2; omega))]⟩
  have kz_0_79 := fdq_147 hD hth r0
  have kz_0_80 := fdq_131 hD hth r0
  have kz_0_81 := fdq_124 hD hth r0
  have nf0 : fc_1 PRD (20, [1, 22], [60, 3, 10, 413, 79, 80, 81, 90, 93, 82, 83, 84, 85, 86, 87, 88, 89]) ws (vs) := by
    refine ⟨nf_in hl rfl, sgq_1160 ?_⟩
    · show UPC (w_fi ws (n_v vs 1) 79) (w_fi ws (n_v vs 1) 80) (w_fi ws (n_v vs 1) 81) (w_ei ws (w_ar ws (n_v vs 1) 90)) (w_ei ws (w_ar ws (n_v vs 1) 93)) (w_ei ws (w_ar ws (n_v vs 1) 82)) (w_ei ws (w_ar ws (n_v vs 1) 83)) (w_ei ws (w_ar ws (n_v vs 1) 84)) (w_ei ws (w_ar ws (n_v vs 1) 85)) (w_ei ws (w_ar ws (n_v vs 1) 86)) (w_ei ws (w_ar ws (n_v vs 1) 87)) (w_ei ws (w_ar ws (n_v vs 1) 88)) (w_ei ws (w_ar ws (n_v vs 1) 89)) (v_iv (n_v vs 22))
      rw [q1]
      exact vc_Mo_up_8_0 (v_iv (n_v vs 5)) (v_iv (n_v vs 6)) (v_iv (n_v vs 8)) (v_iv (n_v vs 10)) (v_iv (n_v vs 12)) (v_iv (n_v vs 15)) (v_iv (n_v vs 17)) (v_iv (n_v vs 18)) (v_iv (n_v vs 19)) (v_iv (n_v vs 20)) (v_iv (n_v vs 21)) (v_iv (n_v vs 22)) (w_fi ws (n_v vs 0) 79) (w_fi ws (n_v vs 0) 80) (w_ei w1 (w_ar ws (n_v vs 0) 85)) (w_ei w1 (w_ar ws (n_v vs 0) 93)) (w_fi w1 (n_v vs 0) 79) (w_fi w1 (n_v vs 0) 80) (w_ei w2 (w_ar ws (n_v vs 0) 85)) (w_ei w2 (w_ar ws (n_v vs 0) 93)) (w_ei w2 (w_ar ws (n_v vs 0) 86)) (w_ei w2 (w_ar ws (n_v vs 0) 84)) (w_ei w2 (w_ar ws (n_v vs 0) 83)) (w_fi w2 (n_v vs 0) 80) (w_fi w2 (n_v vs 0) 79) (w_ei w2 (w_ar ws (n_v vs 0) 90)) (w_ei w2 (w_ar ws (n_v vs 0) 82)) (w_ei w2 (w_ar ws (n_v vs 0) 87)) (w_ei w2 (w_ar ws (n_v vs 0) 88)) (w_ei w2 (w_ar ws (n_v vs 0) 89)) (w_fi w2 (n_v vs 0) 81) (w_fi ws (n_v vs 0) 81) (w_fi w1 (n_v vs 0) 81) (w_ei ws (w_ar ws (n_v vs 0) 82)) (w_ei w1 (w_ar ws (n_v vs 0) 82)) (w_ei ws (w_ar ws (n_v vs 0) 83)) (w_ei w1 (w_ar ws (n_v vs 0) 83)) (w_ei ws (w_ar ws (n_v vs 0) 84)) (w_ei w1 (w_ar ws (n_v vs 0) 84)) (w_ei ws (w_ar ws (n_v vs 0) 85)) (w_ei ws (w_ar ws (n_v vs 0) 86)) (w_ei w1 (w_ar ws (n_v vs 0) 86)) (w_ei ws (w_ar ws (n_v vs 0) 87)) (w_ei w1 (w_ar ws (n_v vs 0) 87)) (w_ei ws (w_ar ws (n_v vs 0) 88)) (w_ei w1 (w_ar ws (n_v vs 0) 88)) (w_ei ws (w_ar ws (n_v vs 0) 89)) (w_ei w1 (w_ar ws (n_v vs 0) 89)) (w_ei ws (w_ar ws (n_v vs 0) 90)) (w_ei w1 (w_ar ws (n_v vs 0) 90)) (w_ei ws (w_ar ws (n_v vs 0) 93)) k5 k6 k8 k10 k12 k15 k17 k18 k19 k20 k21 k22 d0 d1 d5 f0 f7 h8 h10 f17 h18 h19 f20 h21 h23 h25 g28 f32 fe_0_79_1 fe_0_80_1 fe_0_81_1 fe_0_79_2 fe_0_80_2 fe_0_81_2 hE_0_82_1 hE_0_82_2 hE_0_83_1 hE_0_83_2 hE_0_84_1 hE_0_84_2 hE_0_85_1 hE_0_85_2 hE_0_86_1 hE_0_86_2 hE_0_87_1 hE_0_87_2 hE_0_88_1 hE_0_88_2 hE_0_89_1 hE_0_89_2 hE_0_90_1 hE_0_90_2 hE_0_93_1 hE_0_93_2 kz_0_79 kz_0_80 kz_0_81
  have nf1 : fc_1 PRD (20, [22, 1], [50, 1, 0, 1080, 0, 2, 1, 0, 2, 1, 80]) ws (vs) := by
    refine ⟨nf_in hl rfl, sgq_1161 ?_⟩
    · show v_iv (n_v vs 22) ≤ w_fi ws (n_v vs 1) 80
      rw [q1]
      exact vc_Mo_up_8_1 (v_iv (n_v vs 5)) (v_iv (n_v vs 6)) (v_iv (n_v vs 22)) (w_fi ws (n_v vs 0) 79) (w_fi ws (n_v vs 0) 80) (w_ei w1 (w_ar ws (n_v vs 0) 85)) (w_fi w1 (n_v vs 0) 79) (w_fi w1 (n_v vs 0) 80) (w_ei w2 (w_ar ws (n_v vs 0) 85)) (w_ei w2 (w_ar ws (n_v vs 0) 86)) (w_ei w2 (w_ar ws (n_v vs 0) 84)) (w_ei w2 (w_ar ws (n_v vs 0) 83)) (w_fi w2 (n_v vs 0) 80) (w_fi w2 (n_v vs 0) 79) (w_ei w2 (w_ar ws (n_v vs 0) 90)) (w_ei w2 (w_ar ws (n_v vs 0) 82)) (w_ei w2 (w_ar ws (n_v vs 0) 87)) (w_ei w2 (w_ar ws (n_v vs 0) 88)) (w_ei w2 (w_ar ws (n_v vs 0) 89)) (w_fi w2 (n_v vs 0) 81) (w_fi ws (n_v vs 0) 81) (w_fi w1 (n_v vs 0) 81) (w_ei ws (w_ar ws (n_v vs 0) 82)) (w_ei w1 (w_ar ws (n_v vs 0) 82)) (w_ei ws (w_ar ws (n_v vs 0) 83)) (w_ei w1 (w_ar ws (n_v vs 0) 83)) (w_ei ws (w_ar ws (n_v vs 0) 84)) (w_ei w1 (w_ar ws (n_v vs 0) 84)) (w_ei ws (w_ar ws (n_v vs 0) 85)) (w_ei ws (w_ar ws (n_v vs 0) 86)) (w_ei w1 (w_ar ws (n_v vs 0) 86)) (w_ei ws (w_ar ws (n_v vs 0) 87)) (w_ei w1 (w_ar ws (n_v vs 0) 87)) (w_ei ws (w_ar ws (n_v vs 0) 88)) (w_ei w1 (w_ar ws (n_v vs 0) 88)) (w_ei ws (w_ar ws (n_v vs 0) 89)) (w_ei w1 (w_ar ws (n_v vs 0) 89)) (w_ei ws (w_ar ws (n_v vs 0) 90)) (w_ei w1 (w_ar ws (n_v vs 0) 90)) k5 k6 k22 d0 d1 d5 g28 fe_0_79_1 fe_0_80_1 fe_0_81_1 fe_0_79_2 fe_0_80_2 fe_0_81_2 hE_0_82_1 hE_0_82_2 hE_0_83_1 hE_0_83_2 hE_0_84_1 hE_0_84_2 hE_0_85_1 hE_0_85_2 hE_0_86_1 hE_0_86_2 hE_0_87_1 hE_0_87_2 hE_0_88_1 hE_0_88_2 hE_0_89_1 hE_0_89_2 hE_0_90_1 hE_0_90_2 kz_0_79 kz_0_80 kz_0_81
  refine ⟨(fun _ h => (by cases h)), [], trivial, ?_, (fun _ h => (by cases h))⟩
  rw [List.append_nil]
  exact List.forall_mem_cons.mpr ⟨⟨show (20 : Nat) < 100 from by decide, nf0⟩, List.forall_mem_cons.mpr ⟨⟨show (20 : Nat) < 100 from by decide, nf1⟩, (fun _ h => (by cases h))⟩⟩
set_option maxHeartbeats 4000000 in
theorem vc_Mo_up_9_r0 (x2 : Int) (x5 : Int) (x6 : Int) (x8 : Int) (x10 : Int) (x20 : Int) (x21 : Int) (x22 : Int) (x24 : Int) (x25 : Int) (costW_0 : Int → Int) (flow_0 : Int → Int) (spot_0 : Int → Int) (costPlain_0 : Int → Int) (costB_0 : Int → Int) (costA_0 : Int → Int) (costMany_0 : Int) (pointMany_0 : Int) (goes_0 : Int → Int) (apartA_0 : Int → Int) (apartB_0 : Int → Int) (apart_0 : Int → Int) (apartMany_0 : Int) (k2 : 2 ≤ x2 ∧ x2 ≤ 78) (k5 : 0 ≤ x5 ∧ x5 ≤ 199) (k6 : 1 ≤ x6 ∧ x6 ≤ 200) (k8 : 0 ≤ x8 ∧ x8 ≤ 75) (k10 : 0 ≤ x10 ∧ x10 ≤ 75) (k20 : 0 ≤ x20 ∧ x20 ≤ 5850) (k21 : 0 ≤ x21 ∧ x21 ≤ 5925) (k22 : 0 ≤ x22 ∧ x22 ≤ 410000000) (k24 : 0 ≤ x24 ∧ x24 ≤ 72) (k25 : 0 ≤ x25 ∧ x25 ≤ 410000072) (d6 : x6 + (-4294967296) ≤ x5 ∧ x5 ≤ x6 + (-1)) (f0 : x25 = x22 + x24) (h1 : x24 = costW_0 (x5)) (h3 : x22 = flow_0 (x21)) (f4 : x21 = x20 + x10) (f5 : x20 = x2 * x8) (h17 : x10 = costB_0 (x5)) (h19 : x8 = costA_0 (x5)) (g22 : x6 = costMany_0) (f23 : x2 = (pointMany_0 + 2)) (f26 : UPC (pointMany_0) (costMany_0) (apartMany_0) (flow_0) (goes_0) (spot_0) (costA_0) (costB_0) (costW_0) (costPlain_0) (apartA_0) (apartB_0) (apart_0) (x5)) (kz_0_79 : 0 ≤ pointMany_0 ∧ pointMany_0 ≤ 76) (kz_0_80 : 0 ≤ costMany_0 ∧ costMany_0 ≤ 200) (kz_0_81 : 0 ≤ apartMany_0 ∧ apartMany_0 ≤ 200) : 0 ≤ x25 ∧ x25 ≤ 410000000 := by
  have h := upc_f1 (a := x8) (b := x10) ‹UPC _ _ _ _ _ _ _ _ _ _ _ _ _ _› (by omega) (by omega) (by omega) (by assumption) (by assumption) (by assumption) (by assumption) (by assumption) (by assumption)
  omega
def o_Mo_up_9 : or_T := (251, 26, [(0, (2, 0, 0, [165])), (1, (2, 0, 0, [165])), (2, (0, 2, 78, [])), (3, (0, 0, 76, [])), (4, (0, 1, 77, [])), (5, (0, 0, 199, [])), (6, (0, 1, 200, [])), (7, (2, 0, 0, [220])), (8, (0, 0, 75, [])), (9, (2, 0, 0, [221])), (10, (0, 0, 75, [])), (11, (2, 0, 0, [223])), (12, (0, 0, 0, [])), (13, (2, 0, 0, [219])), (14, (0, 0, 221100000, [])), (15, (0, 0, 221100000, [])), (17, (0, 0, 221100000, [])), (18, (0, 0, 221100000, [])), (19, (2, 0, 0, [227])), (20, (0, 0, 5850, [])), (21, (0, 0, 5925, [])), (22, (0, 0, 410000000, [])), (23, (2, 0, 0, [222])), (24, (0, 0, 72, [])), (25, (0, 0, 410000072, []))], [(1, [25, 22, 24], []), (10, [24, 23, 5], []), (9, [23, 1], [85]), (10, [22, 19, 21], []), (1, [21, 20, 10], []), (3, [20, 2, 8], []), (9, [19, 1], [90]), (7, [17, 18], [5]), (10, [18, 13, 10], []), (9, [13, 1], [82]), (10, [17, 13, 8], []), (7, [14, 15], [3]), (10, [15, 13, 10], []), (10, [14, 13, 8], []), (8, [12], [0]), (10, [12, 11, 5], []), (9, [11, 1], [86]), (10, [10, 9, 5], []), (9, [9, 1], [84]), (10, [8, 7, 5], []), (9, [7, 1], [83]), (7, [5, 6], [2]), (9, [6, 1], [80]), (20, [2, 1], [50, 1, 0, 1079, 1, 2, 1, 0, 4, 3, 2, 1, 79, 0, 2]), (20, [3, 1], [50, 1, 0, 1079, 1, 2, 1, 0, 2, 1, 79]), (20, [4, 1], [50, 1, 0, 1079, 1, 2, 1, 0, 4, 3, 2, 1, 79, 0, 1]), (20, [1, 5], [60, 3, 10, 413, 79, 80, 81, 90, 93, 82, 83, 84, 85, 86, 87, 88, 89]), (20, [5, 1], [50, 1, 0, 1080, 0, 2, 1, 0, 2, 1, 80]), (24, [0, 1], [])], [(25, (0, 0, 410000000, []))], [], [], [], [(25, 24, 0, 410000000), (25, 22, 0, 72), (21, 10, 0, 5850), (21, 20, 0, 75), (17, 18, -4294967296, 0), (14, 15, 0, 4294967296), (5, 6, -4294967296, -1), (2, 3, -4294967296, 2), (2, 4, -4294967296, 1), (3, 2, -4294967296, -2), (3, 4, -4294967296, -1), (4, 2, -4294967296, -1), (4, 3, -4294967296, 1)])
theorem oo_Mo_up_9 {kA : Nat → ClassId} : or_ok PRD kA GG o_Mo_up_9 := by
  refine or_mk fun A ta ws vs hD hth hl => ?_
  intro t0 r0 t1 r1 t2 k2 t3 k3 t4 k4 t5 k5 t6 k6 t7 r7 t8 k8 t9 r9 t10 k10 t11 r11 t12 k12 t13 r13 t14 k14 t15 k15 t17 k17 t18 k18 t19 r19 t20 k20 t21 k21 t22 k22 t23 r23 t24 k24 t25 k25 d0 d1 d2 d3 d4 d5 d6 d7 d8 d9 d10 d11 d12 f0 f1 f2 f3 f4 f5 f6 f7 f8 f9 f10 f11 f12 f13 f14 f15 f16 f17 f18 f19 f20 f21 f22 f23 f24 f25 f26 f27 f28
  replace f1 := shm_107 f1
  replace f2 := shm_561 f2
  replace f3 := shm_107 f3
  replace f6 := shm_962 f6
  replace f17 := shm_107 f17
  replace f18 := shm_562 f18
  replace f19 := shm_107 f19
  replace f20 := shm_556 f20
  replace f22 := shm_555 f22
  replace f23 := shm_942 f23
  replace f26 := shm_1160 f26
  replace f28 := shm_5 f28
  have q1 : n_v vs 1 = n_v vs 0 := f28.symm
  simp only [q1] at f2 f6 f18 f20 f22 f23 f26
  have ad_23 : v_ad (n_v vs 23) = w_ar ws (n_v vs 0) 85 := congrArg v_ad f2
  have ad_19 : v_ad (n_v vs 19) = w_ar ws (n_v vs 0) 90 := congrArg v_ad f6
  have ad_9 : v_ad (n_v vs 9) = w_ar ws (n_v vs 0) 84 := congrArg v_ad f18
  have ad_7 : v_ad (n_v vs 7) = w_ar ws (n_v vs 0) 83 := congrArg v_ad f20
  simp only [ad_23] at f1
  have h1 : v_iv (n_v vs 24) = w_ei ws (w_ar ws (n_v vs 0) 85) (v_iv (n_v vs 5)) := f1
  simp only [ad_19] at f3
  have h3 : v_iv (n_v vs 22) = w_ei ws (w_ar ws (n_v vs 0) 90) (v_iv (n_v vs 21)) := f3
  simp only [ad_9] at f17
  have h17 : v_iv (n_v vs 10) = w_ei ws (w_ar ws (n_v vs 0) 84) (v_iv (n_v vs 5)) := f17
  simp only [ad_7] at f19
  have h19 : v_iv (n_v vs 8) = w_ei ws (w_ar ws (n_v vs 0) 83) (v_iv (n_v vs 5)) := f19
  have g22 : v_iv (n_v vs 6) = w_fi ws (n_v vs 0) 80 := congrArg v_iv f22
  have kz_0_79 := fdq_147 hD hth r0
  have kz_0_80 := fdq_131 hD hth r0
  have kz_0_81 := fdq_124 hD hth r0
  have hrf0 : 0 ≤ v_iv (n_v vs 25) ∧ v_iv (n_v vs 25) ≤ 410000000 := vc_Mo_up_9_r0 (v_iv (n_v vs 2)) (v_iv (n_v vs 5)) (v_iv (n_v vs 6)) (v_iv (n_v vs 8)) (v_iv (n_v vs 10)) (v_iv (n_v vs 20)) (v_iv (n_v vs 21)) (v_iv (n_v vs 22)) (v_iv (n_v vs 24)) (v_iv (n_v vs 25)) (w_ei ws (w_ar ws (n_v vs 0) 85)) (w_ei ws (w_ar ws (n_v vs 0) 90)) (w_ei ws (w_ar ws (n_v vs 0) 82)) (w_ei ws (w_ar ws (n_v vs 0) 86)) (w_ei ws (w_ar ws (n_v vs 0) 84)) (w_ei ws (w_ar ws (n_v vs 0) 83)) (w_fi ws (n_v vs 0) 80) (w_fi ws (n_v vs 0) 79) (w_ei ws (w_ar ws (n_v vs 0) 93)) (w_ei ws (w_ar ws (n_v vs 0) 87)) (w_ei ws (w_ar ws (n_v vs 0) 88)) (w_ei ws (w_ar ws (n_v vs 0) 89)) (w_fi ws (n_v vs 0) 81) k2 k5 k6 k8 k10 k20 k21 k22 k24 k25 d6 (shm_12 f0) h1 h3 (shm_12 f4) (shm_38 f5) h17 h19 g22 f23 f26 kz_0_79 kz_0_80 kz_0_81
  have rf25 : tv_ok ta (0, 0, 410000000, []) (n_v vs 25) := tv_in t25 (by first | omega | grind) (by first | omega | grind)
  refine ⟨List.forall_mem_cons.mpr ⟨rf25, (fun _ h => (by cases h))⟩, [], trivial, ?_, (fun _ h => (by cases h))⟩
  rw [List.append_nil]
  exact (fun _ h => (by cases h))
set_option maxHeartbeats 4000000 in
theorem vc_Mo_up_10_r0 (x2 : Int) (x5 : Int) (x6 : Int) (x8 : Int) (x10 : Int) (x20 : Int) (x21 : Int) (x22 : Int) (x24 : Int) (x25 : Int) (x26 : Int) (x27 : Int) (x28 : Int) (x29 : Int) (x30 : Int) (costW_0 : Int → Int) (flow_0 : Int → Int) (pointMany_0 : Int) (costMany_0 : Int) (costW_1 : Int → Int) (flow_1 : Int → Int) (spot_1 : Int → Int) (costPlain_1 : Int → Int) (costB_1 : Int → Int) (costA_1 : Int → Int) (costMany_1 : Int) (pointMany_1 : Int) (goes_1 : Int → Int) (apartA_1 : Int → Int) (apartB_1 : Int → Int) (apart_1 : Int → Int) (apartMany_1 : Int) (apartMany_0 : Int) (spot_0 : Int → Int) (costA_0 : Int → Int) (costB_0 : Int → Int) (costPlain_0 : Int → Int) (apartA_0 : Int → Int) (apartB_0 : Int → Int) (apart_0 : Int → Int) (goes_0 : Int → Int) (k2 : 2 ≤ x2 ∧ x2 ≤ 78) (k5 : 0 ≤ x5 ∧ x5 ≤ 199) (k6 : 1 ≤ x6 ∧ x6 ≤ 200) (k8 : 0 ≤ x8 ∧ x8 ≤ 75) (k10 : 0 ≤ x10 ∧ x10 ≤ 75) (k20 : 0 ≤ x20 ∧ x20 ≤ 5850) (k21 : 0 ≤ x21 ∧ x21 ≤ 5925) (k22 : 0 ≤ x22 ∧ x22 ≤ 410000000) (k24 : 0 ≤ x24 ∧ x24 ≤ 72) (k25 : 0 ≤ x25 ∧ x25 ≤ 410000000) (k26 : 0 ≤ x26 ∧ x26 ≤ 5850) (k27 : 0 ≤ x27 ∧ x27 ≤ 5925) (k28 : 0 ≤ x28 ∧ x28 ≤ 410000000) (k29 : 0 ≤ x29 ∧ x29 ≤ 72) (k30 : 0 ≤ x30 ∧ x30 ≤ 410000072) (d0 : x29 + 0 ≤ x30 ∧ x30 ≤ x29 + 410000000) (d10 : x6 + (-4294967296) ≤ x5 ∧ x5 ≤ x6 + (-1)) (f0 : x30 = x28 + x29) (h1 : x29 = costW_0 (x5)) (h3 : x28 = flow_0 (x27)) (f4 : x27 = x26 + x8) (f5 : x26 = x2 * x10) (f13 : x25 = x22 + x24) (h14 : x24 = costW_1 (x5)) (h15 : x22 = flow_1 (x21)) (f16 : x21 = x20 + x10) (f17 : x20 = x2 * x8) (h28 : x10 = costB_1 (x5)) (h30 : x8 = costA_1 (x5)) (g33 : x6 = costMany_1) (f34 : x2 = (pointMany_1 + 2)) (f37 : UPC (pointMany_1) (costMany_1) (apartMany_1) (flow_1) (goes_1) (spot_1) (costA_1) (costB_1) (costW_1) (costPlain_1) (apartA_1) (apartB_1) (apart_1) (x5)) (fe_0_79_1 : pointMany_0 = pointMany_1) (fe_0_80_1 : costMany_0 = costMany_1) (fe_0_81_1 : apartMany_0 = apartMany_1) (hE_0_82_1 : ∀ j : Int, spot_0 j = spot_1 j) (hE_0_83_1 : ∀ j : Int, costA_0 j = costA_1 j) (hE_0_84_1 : ∀ j : Int, costB_0 j = costB_1 j) (hE_0_85_1 : ∀ j : Int, costW_0 j = costW_1 j) (hE_0_86_1 : ∀ j : Int, costPlain_0 j = costPlain_1 j) (hE_0_87_1 : ∀ j : Int, apartA_0 j = apartA_1 j) (hE_0_88_1 : ∀ j : Int, apartB_0 j = apartB_1 j) (hE_0_89_1 : ∀ j : Int, apart_0 j = apart_1 j) (hE_0_90_1 : ∀ j : Int, 0 ≤ j → (j = x21 → flow_0 j = x25) ∧ (j ≠ x21 → flow_0 j = flow_1 j)) (hE_0_93_1 : ∀ j : Int, goes_0 j = goes_1 j) (kz_0_79 : 0 ≤ pointMany_0 ∧ pointMany_0 ≤ 76) (kz_0_80 : 0 ≤ costMany_0 ∧ costMany_0 ≤ 200) (kz_0_81 : 0 ≤ apartMany_0 ∧ apartMany_0 ≤ 200) : 0 ≤ x30 ∧ x30 ≤ 410000000 := by
  subst fe_0_79_1
  subst fe_0_80_1
  subst fe_0_81_1
  have e_hE_0_82_1 := funext hE_0_82_1; subst e_hE_0_82_1
  have e_hE_0_83_1 := funext hE_0_83_1; subst e_hE_0_83_1
  have e_hE_0_84_1 := funext hE_0_84_1; subst e_hE_0_84_1
  have e_hE_0_85_1 := funext hE_0_85_1; subst e_hE_0_85_1
  have e_hE_0_86_1 := funext hE_0_86_1; subst e_hE_0_86_1
  have e_hE_0_87_1 := funext hE_0_87_1; subst e_hE_0_87_1
  have e_hE_0_88_1 := funext hE_0_88_1; subst e_hE_0_88_1
  have e_hE_0_89_1 := funext hE_0_89_1; subst e_hE_0_89_1
  have e_hE_0_93_1 := funext hE_0_93_1; subst e_hE_0_93_1
  have h := upc_f2 (a := x8) (b := x10) (w := x24) (w2 := x29) (q := x21) (r := x20) (o := x22) (r2 := x26) (q2 := x27) (o2 := x28) ‹UPC _ _ _ _ _ _ _ _ _ _ _ _ _ _› (by omega) (by omega) (by omega) (by assumption) (by assumption) (by assumption) (by assumption) (by assumption) (by assumption) (by assumption) (by assumption) (by assumption) (by assumption) (by assumption) (by assumption)
  omega
def o_Mo_up_10 : or_T := (273, 31, [(0, (2, 0, 0, [165])), (1, (2, 0, 0, [165])), (2, (0, 2, 78, [])), (3, (0, 0, 76, [])), (4, (0, 1, 77, [])), (5, (0, 0, 199, [])), (6, (0, 1, 200, [])), (7, (2, 0, 0, [220])), (8, (0, 0, 75, [])), (9, (2, 0, 0, [221])), (10, (0, 0, 75, [])), (11, (2, 0, 0, [223])), (12, (0, 0, 0, [])), (13, (2, 0, 0, [219])), (14, (0, 0, 221100000, [])), (15, (0, 0, 221100000, [])), (17, (0, 0, 221100000, [])), (18, (0, 0, 221100000, [])), (19, (2, 0, 0, [227])), (20, (0, 0, 5850, [])), (21, (0, 0, 5925, [])), (22, (0, 0, 410000000, [])), (23, (2, 0, 0, [222])), (24, (0, 0, 72, [])), (25, (0, 0, 410000000, [])), (26, (0, 0, 5850, [])), (27, (0, 0, 5925, [])), (28, (0, 0, 410000000, [])), (29, (0, 0, 72, [])), (30, (0, 0, 410000072, []))], [(1, [30, 28, 29], []), (10, [29, 23, 5], []), (9, [23, 1], [85]), (10, [28, 19, 27], []), (1, [27, 26, 8], []), (3, [26, 2, 10], []), (9, [19, 1], [90]), (20, [2, 1], [50, 1, 0, 1079, 1, 2, 1, 0, 4, 3, 2, 1, 79, 0, 2]), (20, [3, 1], [50, 1, 0, 1079, 1, 2, 1, 0, 2, 1, 79]), (20, [4, 1], [50, 1, 0, 1079, 1, 2, 1, 0, 4, 3, 2, 1, 79, 0, 1]), (20, [5, 1], [50, 1, 0, 1080, 0, 2, 1, 0, 2, 1, 80]), (24, [0, 1], []), (100, [19, 21, 25], []), (1, [25, 22, 24], []), (10, [24, 23, 5], []), (10, [22, 19, 21], []), (1, [21, 20, 10], []), (3, [20, 2, 8], []), (7, [17, 18], [5]), (10, [18, 13, 10], []), (9, [13, 1], [82]), (10, [17, 13, 8], []), (7, [14, 15], [3]), (10, [15, 13, 10], []), (10, [14, 13, 8], []), (8, [12], [0]), (10, [12, 11, 5], []), (9, [11, 1], [86]), (10, [10, 9, 5], []), (9, [9, 1], [84]), (10, [8, 7, 5], []), (9, [7, 1], [83]), (7, [5, 6], [2]), (9, [6, 1], [80]), (20, [2, 1], [50, 1, 0, 1079, 1, 2, 1, 0, 4, 3, 2, 1, 79, 0, 2]), (20, [3, 1], [50, 1, 0, 1079, 1, 2, 1, 0, 2, 1, 79]), (20, [4, 1], [50, 1, 0, 1079, 1, 2, 1, 0, 4, 3, 2, 1, 79, 0, 1]), (20, [1, 5], [60, 3, 10, 413, 79, 80, 81, 90, 93, 82, 83, 84, 85, 86, 87, 88, 89]), (20, [5, 1], [50, 1, 0, 1080, 0, 2, 1, 0, 2, 1, 80])], [(30, (0, 0, 410000000, []))], [], [], [], [(30, 29, 0, 410000000), (30, 28, 0, 72), (27, 8, 0, 5850), (27, 26, 0, 75), (25, 24, 0, 410000000), (25, 22, 0, 72), (21, 10, 0, 5850), (21, 20, 0, 75), (17, 18, -4294967296, 0), (14, 15, 0, 4294967296), (5, 6, -4294967296, -1), (2, 3, -4294967296, 2), (2, 4, -4294967296, 1), (3, 2, -4294967296, -2), (3, 4, -4294967296, -1), (4, 2, -4294967296, -1), (4, 3, -4294967296, 1)])
theorem oo_Mo_up_10 {kA : Nat → ClassId} : or_ok PRD kA GG o_Mo_up_10 := by
  refine or_mk fun A ta ws vs hD hth hl => ?_
  intro t0 r0 t1 r1 t2 k2 t3 k3 t4 k4 t5 k5 t6 k6 t7 r7 t8 k8 t9 r9 t10 k10 t11 r11 t12 k12 t13 r13 t14 k14 t15 k15 t17 k17 t18 k18 t19 r19 t20 k20 t21 k21 t22 k22 t23 r23 t24 k24 t25 k25 t26 k26 t27 k27 t28 k28 t29 k29 t30 k30 d0 d1 d2 d3 d4 d5 d6 d7 d8 d9 d10 d11 d12 d13 d14 d15 d16 f0 f1 f2 f3 f4 f5 f6 f7 f8 f9 f10 f11 ta1 w1 le1 s1 f13 f14 f15 f16 f17 f18 f19 f20 f21 f22 f23 f24 f25 f26 f27 f28 f29 f30 f31 f32 f33 f34 f35 f36 f37 f38
  replace f1 := shm_107 f1
  replace f2 := shm_561 f2
  replace f3 := shm_107 f3
  replace f6 := shm_962 f6
  replace f11 := shm_5 f11
  have s1 : (∀ b j, w_el ws b j = if b = v_ad (n_v vs 19) ∧ j = (v_iv (n_v vs 21)).toNat then v_iv (n_v vs 25) else w_el w1 b j) ∧ ∀ b k, w_fd ws b k = w_fd w1 b k := s1.2
  replace f14 := shm_107 f14
  replace f15 := shm_107 f15
  replace f28 := shm_107 f28
  replace f29 := shm_562 f29
  replace f30 := shm_107 f30
  replace f31 := shm_556 f31
  replace f33 := shm_555 f33
  replace f34 := shm_942 f34
  replace f37 := shm_1160 f37
  have q1 : n_v vs 1 = n_v vs 0 := f11.symm
  simp only [q1] at f2 f6 f29 f31 f33 f34 f37
  have ar_0_82_1 : w_ar w1 (n_v vs 0) 82 = w_ar ws (n_v vs 0) 82 := congrArg v_ad (s1.2 _ _).symm
  have cr_0_82 := fdq_230 hD hth r0
  have ar_0_83_1 : w_ar w1 (n_v vs 0) 83 = w_ar ws (n_v vs 0) 83 := congrArg v_ad (s1.2 _ _).symm
  have cr_0_83 := fdq_126 hD hth r0
  have ar_0_84_1 : w_ar w1 (n_v vs 0) 84 = w_ar ws (n_v vs 0) 84 := congrArg v_ad (s1.2 _ _).symm
  have cr_0_84 := fdq_127 hD hth r0
  have ar_0_85_1 : w_ar w1 (n_v vs 0) 85 = w_ar ws (n_v vs 0) 85 := congrArg v_ad (s1.2 _ _).symm
  have cr_0_85 := fdq_128 hD hth r0
  have ar_0_86_1 : w_ar w1 (n_v vs 0) 86 = w_ar ws (n_v vs 0) 86 := congrArg v_ad (s1.2 _ _).symm
  have cr_0_86 := fdq_129 hD hth r0
  have ar_0_87_1 : w_ar w1 (n_v vs 0) 87 = w_ar ws (n_v vs 0) 87 := congrArg v_ad (s1.2 _ _).symm
  have cr_0_87 := fdq_119 hD hth r0
  have ar_0_88_1 : w_ar w1 (n_v vs 0) 88 = w_ar ws (n_v vs 0) 88 := congrArg v_ad (s1.2 _ _).symm
  have cr_0_88 := fdq_120 hD hth r0
  have ar_0_89_1 : w_ar w1 (n_v vs 0) 89 = w_ar ws (n_v vs 0) 89 := congrArg v_ad (s1.2 _ _).symm
  have cr_0_89 := fdq_121 hD hth r0
  have ar_0_90_1 : w_ar w1 (n_v vs 0) 90 = w_ar ws (n_v vs 0) 90 := congrArg v_ad (s1.2 _ _).symm
  have ar_0_93_1 : w_ar w1 (n_v vs 0) 93 = w_ar ws (n_v vs 0) 93 := congrArg v_ad (s1.2 _ _).symm
  have cr_0_93 := fdq_276 hD hth r0
  have ad_23 : v_ad (n_v vs 23) = w_ar ws (n_v vs 0) 85 := congrArg v_ad f2
  have ad_19 : v_ad (n_v vs 19) = w_ar ws (n_v vs 0) 90 := congrArg v_ad f6
  have ad_9 : v_ad (n_v vs 9) = w_ar ws (n_v vs 0) 84 := (congrArg v_ad f29).trans ar_0_84_1
  have ad_7 : v_ad (n_v vs 7) = w_ar ws (n_v vs 0) 83 := (congrArg v_ad f31).trans ar_0_83_1
  simp only [ad_23] at f1
  have h1 : v_iv (n_v vs 29) = w_ei ws (w_ar ws (n_v vs 0) 85) (v_iv (n_v vs 5)) := f1
  simp only [ad_19] at f3
  have h3 : v_iv (n_v vs 28) = w_ei ws (w_ar ws (n_v vs 0) 90) (v_iv (n_v vs 27)) := f3
  simp only [ad_23] at f14
  have h14 : v_iv (n_v vs 24) = w_ei w1 (w_ar ws (n_v vs 0) 85) (v_iv (n_v vs 5)) := f14
  simp only [ad_19] at f15
  have h15 : v_iv (n_v vs 22) = w_ei w1 (w_ar ws (n_v vs 0) 90) (v_iv (n_v vs 21)) := f15
  simp only [ad_9] at f28
  have h28 : v_iv (n_v vs 10) = w_ei w1 (w_ar ws (n_v vs 0) 84) (v_iv (n_v vs 5)) := f28
  simp only [ad_7] at f30
  have h30 : v_iv (n_v vs 8) = w_ei w1 (w_ar ws (n_v vs 0) 83) (v_iv (n_v vs 5)) := f30
  have g33 : v_iv (n_v vs 6) = w_fi w1 (n_v vs 0) 80 := congrArg v_iv f33
  simp only [ar_0_82_1, ar_0_83_1, ar_0_84_1, ar_0_85_1, ar_0_86_1, ar_0_87_1, ar_0_88_1, ar_0_89_1, ar_0_90_1, ar_0_93_1] at f37
  have fe_0_79_1 : w_fi ws (n_v vs 0) 79 = w_fi w1 (n_v vs 0) 79 := congrArg v_iv (s1.2 _ _)
  have fe_0_80_1 : w_fi ws (n_v vs 0) 80 = w_fi w1 (n_v vs 0) 80 := congrArg v_iv (s1.2 _ _)
  have fe_0_81_1 : w_fi ws (n_v vs 0) 81 = w_fi w1 (n_v vs 0) 81 := congrArg v_iv (s1.2 _ _)
  have hE_0_82_1 : ∀ j : Int, w_ei ws (w_ar ws (n_v vs 0) 82) j = w_ei w1 (w_ar ws (n_v vs 0) 82) j := el_kp s1.1 r19 cr_0_82 (by decide)
  have hE_0_83_1 : ∀ j : Int, w_ei ws (w_ar ws (n_v vs 0) 83) j = w_ei w1 (w_ar ws (n_v vs 0) 83) j := el_kp s1.1 r19 cr_0_83 (by decide)
  have hE_0_84_1 : ∀ j : Int, w_ei ws (w_ar ws (n_v vs 0) 84) j = w_ei w1 (w_ar ws (n_v vs 0) 84) j := el_kp s1.1 r19 cr_0_84 (by decide)
  have hE_0_85_1 : ∀ j : Int, w_ei ws (w_ar ws (n_v vs 0) 85) j = w_ei w1 (w_ar ws (n_v vs 0) 85) j := el_kp s1.1 r19 cr_0_85 (by decide)
  have hE_0_86_1 : ∀ j : Int, w_ei ws (w_ar ws (n_v vs 0) 86) j = w_ei w1 (w_ar ws (n_v vs 0) 86) j := el_kp s1.1 r19 cr_0_86 (by decide)
  have hE_0_87_1 : ∀ j : Int, w_ei ws (w_ar ws (n_v vs 0) 87) j = w_ei w1 (w_ar ws (n_v vs 0) 87) j := el_kp s1.1 r19 cr_0_87 (by decide)
  have hE_0_88_1 : ∀ j : Int, w_ei ws (w_ar ws (n_v vs 0) 88) j = w_ei w1 (w_ar ws (n_v vs 0) 88) j := el_kp s1.1 r19 cr_0_88 (by decide)
  have hE_0_89_1 : ∀ j : Int, w_ei ws (w_ar ws (n_v vs 0) 89) j = w_ei w1 (w_ar ws (n_v vs 0) 89) j := el_kp s1.1 r19 cr_0_89 (by decide)
  have hE_0_90_1 : ∀ j : Int, 0 ≤ j → (j = v_iv (n_v vs 21) → w_ei ws (w_ar ws (n_v vs 0) 90) j = v_iv (n_v vs 25)) ∧ (j ≠ v_iv (n_v vs 21) → w_ei ws (w_ar ws (n_v vs 0) 90) j = w_ei w1 (w_ar ws (n_v vs 0) 90) j) := fun j hj => ⟨fun h => by unfold w_ei; rw [s1.1, if_pos ⟨ad_19.symm, by rw [h]⟩], fun h => by unfold w_ei; rw [s1.1, if_neg (fun e => h (by have := e.2; omega))]⟩
  have hE_0_93_1 : ∀ j : Int, w_ei ws (w_ar ws (n_v vs 0) 93) j = w_ei w1 (w_ar ws (n_v vs 0) 93) j := el_kp s1.1 r19 cr_0_93 (by decide)
  have kz_0_79 := fdq_147 hD hth r0
  have kz_0_80 := fdq_131 hD hth r0
  have kz_0_81 := fdq_124 hD hth r0
  have hrf0 : 0 ≤ v_iv (n_v vs 30) ∧ v_iv (n_v vs 30) ≤ 410000000 := vc_Mo_up_10_r0 (v_iv (n_v vs 2)) (v_iv (n_v vs 5)) (v_iv (n_v vs 6)) (v_iv (n_v vs 8)) (v_iv (n_v vs 10)) (v_iv (n_v vs 20)) (v_iv (n_v vs 21)) (v_iv (n_v vs 22)) (v_iv (n_v vs 24)) (v_iv (n_v vs 25)) (v_iv (n_v vs 26)) (v_iv (n_v vs 27)) (v_iv (n_v vs 28)) (v_iv (n_v vs 29)) (v_iv (n_v vs 30)) (w_ei ws (w_ar ws (n_v vs 0) 85)) (w_ei ws (w_ar ws (n_v vs 0) 90)) (w_fi ws (n_v vs 0) 79) (w_fi ws (n_v vs 0) 80) (w_ei w1 (w_ar ws (n_v vs 0) 85)) (w_ei w1 (w_ar ws (n_v vs 0) 90)) (w_ei w1 (w_ar ws (n_v vs 0) 82)) (w_ei w1 (w_ar ws (n_v vs 0) 86)) (w_ei w1 (w_ar ws (n_v vs 0) 84)) (w_ei w1 (w_ar ws (n_v vs 0) 83)) (w_fi w1 (n_v vs 0) 80) (w_fi w1 (n_v vs 0) 79) (w_ei w1 (w_ar ws (n_v vs 0) 93)) (w_ei w1 (w_ar ws (n_v vs 0) 87)) (w_ei w1 (w_ar ws (n_v vs 0) 88)) (w_ei w1 (w_ar ws (n_v vs 0) 89)) (w_fi w1 (n_v vs 0) 81) (w_fi ws (n_v vs 0) 81) (w_ei ws (w_ar ws (n_v vs 0) 82)) (w_ei ws (w_ar ws (n_v vs 0) 83)) (w_ei ws (w_ar ws (n_v vs 0) 84)) (w_ei ws (w_ar ws (n_v vs 0) 86)) (w_ei ws (w_ar ws (n_v vs 0) 87)) (w_ei ws (w_ar ws (n_v vs 0) 88)) (w_ei ws (w_ar ws (n_v vs 0) 89)) (w_ei ws (w_ar ws (n_v vs 0) 93)) k2 k5 k6 k8 k10 k20 k21 k22 k24 k25 k26 k27 k28 k29 k30 d0 d10 (shm_12 f0) h1 h3 (shm_12 f4) (shm_38 f5) (shm_12 f13) h14 h15 (shm_12 f16) (shm_38 f17) h28 h30 g33 f34 f37 fe_0_79_1 fe_0_80_1 fe_0_81_1 hE_0_82_1 hE_0_83_1 hE_0_84_1 hE_0_85_1 hE_0_86_1 hE_0_87_1 hE_0_88_1 hE_0_89_1 hE_0_90_1 hE_0_93_1 kz_0_79 kz_0_80 kz_0_81
  have rf30 : tv_ok ta (0, 0, 410000000, []) (n_v vs 30) := tv_in t30 (by first | omega | grind) (by first | omega | grind)
  refine ⟨List.forall_mem_cons.mpr ⟨rf30, (fun _ h => (by cases h))⟩, [], trivial, ?_, (fun _ h => (by cases h))⟩
  rw [List.append_nil]
  exact (fun _ h => (by cases h))
set_option maxHeartbeats 4000000 in
theorem vc_Mo_up_11_0 (x2 : Int) (x5 : Int) (x6 : Int) (x8 : Int) (x10 : Int) (x12 : Int) (x14 : Int) (x15 : Int) (x17 : Int) (x18 : Int) (x20 : Int) (x21 : Int) (x22 : Int) (x24 : Int) (x25 : Int) (x26 : Int) (x27 : Int) (x28 : Int) (x29 : Int) (x30 : Int) (x31 : Int) (pointMany_0 : Int) (costMany_0 : Int) (costW_1 : Int → Int) (flow_1 : Int → Int) (pointMany_1 : Int) (costMany_1 : Int) (costW_2 : Int → Int) (flow_2 : Int → Int) (spot_2 : Int → Int) (costPlain_2 : Int → Int) (costB_2 : Int → Int) (costA_2 : Int → Int) (costMany_2 : Int) (pointMany_2 : Int) (goes_2 : Int → Int) (apartA_2 : Int → Int) (apartB_2 : Int → Int) (apart_2 : Int → Int) (apartMany_2 : Int) (apartMany_0 : Int) (apartMany_1 : Int) (spot_0 : Int → Int) (spot_1 : Int → Int) (costA_0 : Int → Int) (costA_1 : Int → Int) (costB_0 : Int → Int) (costB_1 : Int → Int) (costW_0 : Int → Int) (costPlain_0 : Int → Int) (costPlain_1 : Int → Int) (apartA_0 : Int → Int) (apartA_1 : Int → Int) (apartB_0 : Int → Int) (apartB_1 : Int → Int) (apart_0 : Int → Int) (apart_1 : Int → Int) (flow_0 : Int → Int) (goes_0 : Int → Int) (goes_1 : Int → Int) (k2 : 2 ≤ x2 ∧ x2 ≤ 78) (k5 : 0 ≤ x5 ∧ x5 ≤ 199) (k6 : 1 ≤ x6 ∧ x6 ≤ 200) (k8 : 0 ≤ x8 ∧ x8 ≤ 75) (k10 : 0 ≤ x10 ∧ x10 ≤ 75) (k12 : 0 ≤ x12 ∧ x12 ≤ 0) (k14 : 0 ≤ x14 ∧ x14 ≤ 221100000) (k15 : 0 ≤ x15 ∧ x15 ≤ 221100000) (k17 : 0 ≤ x17 ∧ x17 ≤ 221100000) (k18 : 0 ≤ x18 ∧ x18 ≤ 221100000) (k20 : 0 ≤ x20 ∧ x20 ≤ 5850) (k21 : 0 ≤ x21 ∧ x21 ≤ 5925) (k22 : 0 ≤ x22 ∧ x22 ≤ 410000000) (k24 : 0 ≤ x24 ∧ x24 ≤ 72) (k25 : 0 ≤ x25 ∧ x25 ≤ 410000000) (k26 : 0 ≤ x26 ∧ x26 ≤ 5850) (k27 : 0 ≤ x27 ∧ x27 ≤ 5925) (k28 : 0 ≤ x28 ∧ x28 ≤ 410000000) (k29 : 0 ≤ x29 ∧ x29 ≤ 72) (k30 : 0 ≤ x30 ∧ x30 ≤ 410000000) (k31 : 1 ≤ x31 ∧ x31 ≤ 200) (d0 : x5 + 1 ≤ x31 ∧ x31 ≤ x5 + 1) (d1 : x6 + (-4294967296) ≤ x31 ∧ x31 ≤ x6 + 0) (d12 : x6 + (-4294967296) ≤ x5 ∧ x5 ≤ x6 + (-1)) (f0 : x31 = x5 + 1) (f7 : x30 = x28 + x29) (h8 : x29 = costW_1 (x5)) (h10 : x28 = flow_1 (x27)) (f11 : x27 = x26 + x8) (f12 : x26 = x2 * x10) (f19 : x25 = x22 + x24) (h20 : x24 = costW_2 (x5)) (h21 : x22 = flow_2 (x21)) (f22 : x21 = x20 + x10) (f23 : x20 = x2 * x8) (f24 : x17 ≤ x18) (h25 : x18 = spot_2 (x10)) (h27 : x17 = spot_2 (x8)) (f28 : x15 ≤ x14) (h29 : x15 = spot_2 (x10)) (h30 : x14 = spot_2 (x8)) (f31 : x12 = 0) (h32 : x12 = costPlain_2 (x5)) (h34 : x10 = costB_2 (x5)) (h36 : x8 = costA_2 (x5)) (g39 : x6 = costMany_2) (f40 : x2 = (pointMany_2 + 2)) (f43 : UPC (pointMany_2) (costMany_2) (apartMany_2) (flow_2) (goes_2) (spot_2) (costA_2) (costB_2) (costW_2) (costPlain_2) (apartA_2) (apartB_2) (apart_2) (x5)) (fe_0_79_1 : pointMany_0 = pointMany_1) (fe_0_80_1 : costMany_0 = costMany_1) (fe_0_81_1 : apartMany_0 = apartMany_1) (fe_0_79_2 : pointMany_1 = pointMany_2) (fe_0_80_2 : costMany_1 = costMany_2) (fe_0_81_2 : apartMany_1 = apartMany_2) (hE_0_82_1 : ∀ j : Int, spot_0 j = spot_1 j) (hE_0_82_2 : ∀ j : Int, spot_1 j = spot_2 j) (hE_0_83_1 : ∀ j : Int, costA_0 j = costA_1 j) (hE_0_83_2 : ∀ j : Int, costA_1 j = costA_2 j) (hE_0_84_1 : ∀ j : Int, costB_0 j = costB_1 j) (hE_0_84_2 : ∀ j : Int, costB_1 j = costB_2 j) (hE_0_85_1 : ∀ j : Int, costW_0 j = costW_1 j) (hE_0_85_2 : ∀ j : Int, costW_1 j = costW_2 j) (hE_0_86_1 : ∀ j : Int, costPlain_0 j = costPlain_1 j) (hE_0_86_2 : ∀ j : Int, costPlain_1 j = costPlain_2 j) (hE_0_87_1 : ∀ j : Int, apartA_0 j = apartA_1 j) (hE_0_87_2 : ∀ j : Int, apartA_1 j = apartA_2 j) (hE_0_88_1 : ∀ j : Int, apartB_0 j = apartB_1 j) (hE_0_88_2 : ∀ j : Int, apartB_1 j = apartB_2 j) (hE_0_89_1 : ∀ j : Int, apart_0 j = apart_1 j) (hE_0_89_2 : ∀ j : Int, apart_1 j = apart_2 j) (hE_0_90_1 : ∀ j : Int, 0 ≤ j → (j = x27 → flow_0 j = x30) ∧ (j ≠ x27 → flow_0 j = flow_1 j)) (hE_0_90_2 : ∀ j : Int, 0 ≤ j → (j = x21 → flow_1 j = x25) ∧ (j ≠ x21 → flow_1 j = flow_2 j)) (hE_0_93_1 : ∀ j : Int, goes_0 j = goes_1 j) (hE_0_93_2 : ∀ j : Int, goes_1 j = goes_2 j) (kz_0_79 : 0 ≤ pointMany_0 ∧ pointMany_0 ≤ 76) (kz_0_80 : 0 ≤ costMany_0 ∧ costMany_0 ≤ 200) (kz_0_81 : 0 ≤ apartMany_0 ∧ apartMany_0 ≤ 200) : UPC (pointMany_0) (costMany_0) (apartMany_0) (flow_0) (goes_0) (spot_0) (costA_0) (costB_0) (costW_0) (costPlain_0) (apartA_0) (apartB_0) (apart_0) (x31) := by
  subst fe_0_79_1
  subst fe_0_80_1
  subst fe_0_81_1
  subst fe_0_79_2
  subst fe_0_80_2
  subst fe_0_81_2
  have e_hE_0_82_1 := funext hE_0_82_1; subst e_hE_0_82_1
  have e_hE_0_82_2 := funext hE_0_82_2; subst e_hE_0_82_2
  have e_hE_0_83_1 := funext hE_0_83_1; subst e_hE_0_83_1
  have e_hE_0_83_2 := funext hE_0_83_2; subst e_hE_0_83_2
  have e_hE_0_84_1 := funext hE_0_84_1; subst e_hE_0_84_1
  have e_hE_0_84_2 := funext hE_0_84_2; subst e_hE_0_84_2
  have e_hE_0_85_1 := funext hE_0_85_1; subst e_hE_0_85_1
  have e_hE_0_85_2 := funext hE_0_85_2; subst e_hE_0_85_2
  have e_hE_0_86_1 := funext hE_0_86_1; subst e_hE_0_86_1
  have e_hE_0_86_2 := funext hE_0_86_2; subst e_hE_0_86_2
  have e_hE_0_87_1 := funext hE_0_87_1; subst e_hE_0_87_1
  have e_hE_0_87_2 := funext hE_0_87_2; subst e_hE_0_87_2
  have e_hE_0_88_1 := funext hE_0_88_1; subst e_hE_0_88_1
  have e_hE_0_88_2 := funext hE_0_88_2; subst e_hE_0_88_2
  have e_hE_0_89_1 := funext hE_0_89_1; subst e_hE_0_89_1
  have e_hE_0_89_2 := funext hE_0_89_2; subst e_hE_0_89_2
  have e_hE_0_93_1 := funext hE_0_93_1; subst e_hE_0_93_1
  have e_hE_0_93_2 := funext hE_0_93_2; subst e_hE_0_93_2
  first
    | exact upc_start ‹PBK _ _ _ _ _ _ _ _ _ _› ‹UZN _ _› (Int.le_refl _) ‹UZG _ _›.1 (by omega) (by omega)
    | exact upc_goP1 (a := x8) (b := x10) (w := x17) (w2 := x20) (pl := x12) (o1 := x15) (o2 := x19) ‹UPC _ _ _ _ _ _ _ _ _ _ _ _ _ _› (by omega) (by omega) (by assumption) (by assumption) (by assumption) (by assumption) (by assumption) (by assumption) (by omega) (by assumption) (by assumption) (by assumption) (by assumption) (by assumption) (by assumption)
    | exact upc_goP2 (a := x8) (b := x10) (w := x20) (w2 := x23) (ya := x14) (yb := x15) (o1 := x18) (o2 := x22) ‹UPC _ _ _ _ _ _ _ _ _ _ _ _ _ _› (by omega) (by omega) (by assumption) (by assumption) (by assumption) (by assumption) (by assumption) (by assumption) (by assumption) (by omega) (by assumption) (by assumption) (by assumption) (by assumption) (by assumption) (by assumption)
    | exact upc_goM2 (a := x8) (b := x10) (w := x22) (w2 := x25) (pl := x12) (ya := x17) (yb := x18) (o1 := x20) (o2 := x24) ‹UPC _ _ _ _ _ _ _ _ _ _ _ _ _ _› (by omega) (by omega) (by assumption) (by assumption) (by assumption) (by assumption) (by assumption) (by assumption) (by omega) (by assumption) (by assumption) (by omega) (by assumption) (by assumption) (by assumption) (by assumption) (by assumption) (by assumption)
    | exact upc_tie3 (a := x8) (b := x10) (w := x24) (w2 := x29) (pl := x12) (ya := x14) (yb := x15) (ya2 := x17) (yb2 := x18) (q1 := x21) (q2 := x27) (r1 := x20) (r2 := x26) (o1 := x22) (o2 := x28) ‹UPC _ _ _ _ _ _ _ _ _ _ _ _ _ _› (by omega) (by omega) (by assumption) (by omega) (by assumption) (by assumption) (by assumption) (by assumption) (by assumption) (by omega) (by assumption) (by assumption) (by omega) (by assumption) (by assumption) (by omega) (by assumption) (by assumption) (by assumption) (by assumption) (by assumption) (by assumption) (by assumption) (by assumption) (by assumption) (by assumption)
  
set_option maxHeartbeats 4000000 in
theorem vc_Mo_up_11_1 (x5 : Int) (x6 : Int) (x31 : Int) (pointMany_0 : Int) (costMany_0 : Int) (costW_1 : Int → Int) (pointMany_1 : Int) (costMany_1 : Int) (costW_2 : Int → Int) (spot_2 : Int → Int) (costPlain_2 : Int → Int) (costB_2 : Int → Int) (costA_2 : Int → Int) (costMany_2 : Int) (pointMany_2 : Int) (goes_2 : Int → Int) (apartA_2 : Int → Int) (apartB_2 : Int → Int) (apart_2 : Int → Int) (apartMany_2 : Int) (apartMany_0 : Int) (apartMany_1 : Int) (spot_0 : Int → Int) (spot_1 : Int → Int) (costA_0 : Int → Int) (costA_1 : Int → Int) (costB_0 : Int → Int) (costB_1 : Int → Int) (costW_0 : Int → Int) (costPlain_0 : Int → Int) (costPlain_1 : Int → Int) (apartA_0 : Int → Int) (apartA_1 : Int → Int) (apartB_0 : Int → Int) (apartB_1 : Int → Int) (apart_0 : Int → Int) (apart_1 : Int → Int) (goes_0 : Int → Int) (goes_1 : Int → Int) (k5 : 0 ≤ x5 ∧ x5 ≤ 199) (k6 : 1 ≤ x6 ∧ x6 ≤ 200) (k31 : 1 ≤ x31 ∧ x31 ≤ 200) (d0 : x5 + 1 ≤ x31 ∧ x31 ≤ x5 + 1) (d1 : x6 + (-4294967296) ≤ x31 ∧ x31 ≤ x6 + 0) (d12 : x6 + (-4294967296) ≤ x5 ∧ x5 ≤ x6 + (-1)) (g39 : x6 = costMany_2) (fe_0_79_1 : pointMany_0 = pointMany_1) (fe_0_80_1 : costMany_0 = costMany_1) (fe_0_81_1 : apartMany_0 = apartMany_1) (fe_0_79_2 : pointMany_1 = pointMany_2) (fe_0_80_2 : costMany_1 = costMany_2) (fe_0_81_2 : apartMany_1 = apartMany_2) (hE_0_82_1 : ∀ j : Int, spot_0 j = spot_1 j) (hE_0_82_2 : ∀ j : Int, spot_1 j = spot_2 j) (hE_0_83_1 : ∀ j : Int, costA_0 j = costA_1 j) (hE_0_83_2 : ∀ j : Int, costA_1 j = costA_2 j) (hE_0_84_1 : ∀ j : Int, costB_0 j = costB_1 j) (hE_0_84_2 : ∀ j : Int, costB_1 j = costB_2 j) (hE_0_85_1 : ∀ j : Int, costW_0 j = costW_1 j) (hE_0_85_2 : ∀ j : Int, costW_1 j = costW_2 j) (hE_0_86_1 : ∀ j : Int, costPlain_0 j = costPlain_1 j) (hE_0_86_2 : ∀ j : Int, costPlain_1 j = costPlain_2 j) (hE_0_87_1 : ∀ j : Int, apartA_0 j = apartA_1 j) (hE_0_87_2 : ∀ j : Int, apartA_1 j = apartA_2 j) (hE_0_88_1 : ∀ j : Int, apartB_0 j = apartB_1 j) (hE_0_88_2 : ∀ j : Int, apartB_1 j = apartB_2 j) (hE_0_89_1 : ∀ j : Int, apart_0 j = apart_1 j) (hE_0_89_2 : ∀ j : Int, apart_1 j = apart_2 j) (hE_0_93_1 : ∀ j : Int, goes_0 j = goes_1 j) (hE_0_93_2 : ∀ j : Int, goes_1 j = goes_2 j) (kz_0_79 : 0 ≤ pointMany_0 ∧ pointMany_0 ≤ 76) (kz_0_80 : 0 ≤ costMany_0 ∧ costMany_0 ≤ 200) (kz_0_81 : 0 ≤ apartMany_0 ∧ apartMany_0 ≤ 200) : x31 ≤ costMany_0 := by
  subst fe_0_79_1
  subst fe_0_80_1
  subst fe_0_81_1
  subst fe_0_79_2
  subst fe_0_80_2
  subst fe_0_81_2
  have e_hE_0_82_1 := funext hE_0_82_1; subst e_hE_0_82_1
  have e_hE_0_82_2 := funext hE_0_82_2; subst e_hE_0_82_2
  have e_hE_0_83_1 := funext hE_0_83_1; subst e_hE_0_83_1
  have e_hE_0_83_2 := funext hE_0_83_2; subst e_hE_0_83_2
  have e_hE_0_84_1 := funext hE_0_84_1; subst e_hE_0_84_1
  have e_hE_0_84_2 := funext hE_0_84_2; subst e_hE_0_84_2
  have e_hE_0_85_1 := funext hE_0_85_1; subst e_hE_0_85_1
  have e_hE_0_85_2 := funext hE_0_85_2; subst e_hE_0_85_2
  have e_hE_0_86_1 := funext hE_0_86_1; subst e_hE_0_86_1
  have e_hE_0_86_2 := funext hE_0_86_2; subst e_hE_0_86_2
  have e_hE_0_87_1 := funext hE_0_87_1; subst e_hE_0_87_1
  have e_hE_0_87_2 := funext hE_0_87_2; subst e_hE_0_87_2
  have e_hE_0_88_1 := funext hE_0_88_1; subst e_hE_0_88_1
  have e_hE_0_88_2 := funext hE_0_88_2; subst e_hE_0_88_2
  have e_hE_0_89_1 := funext hE_0_89_1; subst e_hE_0_89_1
  have e_hE_0_89_2 := funext hE_0_89_2; subst e_hE_0_89_2
  have e_hE_0_93_1 := funext hE_0_93_1; subst e_hE_0_93_1
  have e_hE_0_93_2 := funext hE_0_93_2; subst e_hE_0_93_2
  omega
def o_Mo_up_11 : or_T := (73, 32, [(0, (2, 0, 0, [165])), (2, (0, 2, 78, [])), (5, (0, 0, 199, [])), (6, (0, 1, 200, [])), (8, (0, 0, 75, [])), (10, (0, 0, 75, [])), (12, (0, 0, 0, [])), (14, (0, 0, 221100000, [])), (15, (0, 0, 221100000, [])), (17, (0, 0, 221100000, [])), (18, (0, 0, 221100000, [])), (19, (2, 0, 0, [227])), (20, (0, 0, 5850, [])), (21, (0, 0, 5925, [])), (22, (0, 0, 410000000, [])), (24, (0, 0, 72, [])), (25, (0, 0, 410000000, [])), (26, (0, 0, 5850, [])), (27, (0, 0, 5925, [])), (28, (0, 0, 410000000, [])), (29, (0, 0, 72, [])), (30, (0, 0, 410000000, [])), (31, (0, 1, 200, []))], [(6, [31, 5], [1]), (24, [0, 1], []), (100, [19, 27, 30], []), (1, [30, 28, 29], []), (10, [29, 23, 5], []), (9, [23, 1], [85]), (10, [28, 19, 27], []), (1, [27, 26, 8], []), (3, [26, 2, 10], []), (9, [19, 1], [90]), (100, [19, 21, 25], []), (1, [25, 22, 24], []), (10, [24, 23, 5], []), (10, [22, 19, 21], []), (1, [21, 20, 10], []), (3, [20, 2, 8], []), (7, [17, 18], [5]), (10, [18, 13, 10], []), (9, [13, 1], [82]), (10, [17, 13, 8], []), (7, [14, 15], [3]), (10, [15, 13, 10], []), (10, [14, 13, 8], []), (8, [12], [0]), (10, [12, 11, 5], []), (9, [11, 1], [86]), (10, [10, 9, 5], []), (9, [9, 1], [84]), (10, [8, 7, 5], []), (9, [7, 1], [83]), (9, [6, 1], [80]), (20, [2, 1], [50, 1, 0, 1079, 1, 2, 1, 0, 4, 3, 2, 1, 79, 0, 2]), (20, [1, 5], [60, 3, 10, 413, 79, 80, 81, 90, 93, 82, 83, 84, 85, 86, 87, 88, 89])], [], [], [(20, [1, 31], [60, 3, 10, 413, 79, 80, 81, 90, 93, 82, 83, 84, 85, 86, 87, 88, 89]), (20, [31, 1], [50, 1, 0, 1080, 0, 2, 1, 0, 2, 1, 80])], [], [(31, 5, 1, 1), (31, 6, -4294967296, 0), (30, 29, 0, 410000000), (30, 28, 0, 72), (27, 8, 0, 5850), (27, 26, 0, 75), (25, 24, 0, 410000000), (25, 22, 0, 72), (21, 10, 0, 5850), (21, 20, 0, 75), (5, 6, -4294967296, -1)])
theorem oo_Mo_up_11 {kA : Nat → ClassId} : or_ok PRD kA GG o_Mo_up_11 := by
  refine or_mk fun A ta ws vs hD hth hl => ?_
  intro t0 r0 t2 k2 t5 k5 t6 k6 t8 k8 t10 k10 t12 k12 t14 k14 t15 k15 t17 k17 t18 k18 t19 r19 t20 k20 t21 k21 t22 k22 t24 k24 t25 k25 t26 k26 t27 k27 t28 k28 t29 k29 t30 k30 t31 k31 d0 d1 d2 d3 d4 d5 d6 d7 d8 d9 d12 f0 f5 ta1 w1 le1 s1 f7 f8 f9 f10 f11 f12 f13 ta2 w2 le2 s2 f19 f20 f21 f22 f23 f24 f25 f26 f27 f28 f29 f30 f31 f32 f33 f34 f35 f36 f37 f39 f40 f43
  replace f0 := shm_4 f0
  replace f5 := shm_5 f5
  have s1 : (∀ b j, w_el ws b j = if b = v_ad (n_v vs 19) ∧ j = (v_iv (n_v vs 27)).toNat then v_iv (n_v vs 30) else w_el w1 b j) ∧ ∀ b k, w_fd ws b k = w_fd w1 b k := s1.2
  replace f7 := shm_12 f7
  replace f8 := shm_107 f8
  replace f9 := shm_561 f9
  replace f10 := shm_107 f10
  replace f11 := shm_12 f11
  replace f12 := shm_38 f12
  replace f13 := shm_962 f13
  have s2 : (∀ b j, w_el w1 b j = if b = v_ad (n_v vs 19) ∧ j = (v_iv (n_v vs 21)).toNat then v_iv (n_v vs 25) else w_el w2 b j) ∧ ∀ b k, w_fd w1 b k = w_fd w2 b k := s2.2
  replace f19 := shm_12 f19
  replace f20 := shm_107 f20
  replace f21 := shm_107 f21
  replace f22 := shm_12 f22
  replace f23 := shm_38 f23
  replace f24 := shm_24 f24
  replace f25 := shm_107 f25
  replace f26 := shm_1165 f26
  replace f27 := shm_107 f27
  replace f28 := shm_2 f28
  replace f29 := shm_107 f29
  replace f30 := shm_107 f30
  replace f31 := shm_192 f31
  replace f32 := shm_107 f32
  replace f33 := shm_560 f33
  replace f34 := shm_107 f34
  replace f35 := shm_562 f35
  replace f36 := shm_107 f36
  replace f37 := shm_556 f37
  replace f39 := shm_555 f39
  replace f40 := shm_942 f40
  replace f43 := shm_1160 f43
  have q1 : n_v vs 1 = n_v vs 0 := f5.symm
  simp only [q1] at f9 f13 f26 f33 f35 f37 f39 f40 f43
  have ar_0_82_1 : w_ar w1 (n_v vs 0) 82 = w_ar ws (n_v vs 0) 82 := congrArg v_ad (s1.2 _ _).symm
  have ar_0_82_2 : w_ar w2 (n_v vs 0) 82 = w_ar ws (n_v vs 0) 82 := by rw [← ar_0_82_1]; show v_ad (w_fd w2 _ _) = v_ad (w_fd w1 _ _); rw [s2.2]
  have cr_0_82 := fdq_230 hD hth r0
  have ar_0_83_1 : w_ar w1 (n_v vs 0) 83 = w_ar ws (n_v vs 0) 83 := congrArg v_ad (s1.2 _ _).symm
  have ar_0_83_2 : w_ar w2 (n_v vs 0) 83 = w_ar ws (n_v vs 0) 83 := by rw [← ar_0_83_1]; show v_ad (w_fd w2 _ _) = v_ad (w_fd w1 _ _); rw [s2.2]
  have cr_0_83 := fdq_126 hD hth r0
  have ar_0_84_1 : w_ar w1 (n_v vs 0) 84 = w_ar ws (n_v vs 0) 84 := congrArg v_ad (s1.2 _ _).symm
  have ar_0_84_2 : w_ar w2 (n_v vs 0) 84 = w_ar ws (n_v vs 0) 84 := by rw [← ar_0_84_1]; show v_ad (w_fd w2 _ _) = v_ad (w_fd w1 _ _); rw [s2.2]
  have cr_0_84 := fdq_127 hD hth r0
  have ar_0_85_1 : w_ar w1 (n_v vs 0) 85 = w_ar ws (n_v vs 0) 85 := congrArg v_ad (s1.2 _ _).symm
  have ar_0_85_2 : w_ar w2 (n_v vs 0) 85 = w_ar ws (n_v vs 0) 85 := by rw [← ar_0_85_1]; show v_ad (w_fd w2 _ _) = v_ad (w_fd w1 _ _); rw [s2.2]
  have cr_0_85 := fdq_128 hD hth r0
  have ar_0_86_1 : w_ar w1 (n_v vs 0) 86 = w_ar ws (n_v vs 0) 86 := congrArg v_ad (s1.2 _ _).symm
  have ar_0_86_2 : w_ar w2 (n_v vs 0) 86 = w_ar ws (n_v vs 0) 86 := by rw [← ar_0_86_1]; show v_ad (w_fd w2 _ _) = v_ad (w_fd w1 _ _); rw [s2.2]
  have cr_0_86 := fdq_129 hD hth r0
  have ar_0_87_1 : w_ar w1 (n_v vs 0) 87 = w_ar ws (n_v vs 0) 87 := congrArg v_ad (s1.2 _ _).symm
  have ar_0_87_2 : w_ar w2 (n_v vs 0) 87 = w_ar ws (n_v vs 0) 87 := by rw [← ar_0_87_1]; show v_ad (w_fd w2 _ _) = v_ad (w_fd w1 _ _); rw [s2.2]
  have cr_0_87 := fdq_119 hD hth r0
  have ar_0_88_1 : w_ar w1 (n_v vs 0) 88 = w_ar ws (n_v vs 0) 88 := congrArg v_ad (s1.2 _ _).symm
  have ar_0_88_2 : w_ar w2 (n_v vs 0) 88 = w_ar ws (n_v vs 0) 88 := by rw [← ar_0_88_1]; show v_ad (w_fd w2 _ _) = v_ad (w_fd w1 _ _); rw [s2.2]
  have cr_0_88 := fdq_120 hD hth r0
  have ar_0_89_1 : w_ar w1 (n_v vs 0) 89 = w_ar ws (n_v vs 0) 89 := congrArg v_ad (s1.2 _ _).symm
  have ar_0_89_2 : w_ar w2 (n_v vs 0) 89 = w_ar ws (n_v vs 0) 89 := by rw [← ar_0_89_1]; show v_ad (w_fd w2 _ _) = v_ad (w_fd w1 _ _); rw [s2.2]
  have cr_0_89 := fdq_121 hD hth r0
  have ar_0_90_1 : w_ar w1 (n_v vs 0) 90 = w_ar ws (n_v vs 0) 90 := congrArg v_ad (s1.2 _ _).symm
  have ar_0_90_2 : w_ar w2 (n_v vs 0) 90 = w_ar ws (n_v vs 0) 90 := by rw [← ar_0_90_1]; show v_ad (w_fd w2 _ _) = v_ad (w_fd w1 _ _); rw [s2.2]
  have ar_0_93_1 : w_ar w1 (n_v vs 0) 93 = w_ar ws (n_v vs 0) 93 := congrArg v_ad (s1.2 _ _).symm
  have ar_0_93_2 : w_ar w2 (n_v vs 0) 93 = w_ar ws (n_v vs 0) 93 := by rw [← ar_0_93_1]; show v_ad (w_fd w2 _ _) = v_ad (w_fd w1 _ _); rw [s2.2]
  have cr_0_93 := fdq_276 hD hth r0
  have ad_23 : v_ad (n_v vs 23) = w_ar ws (n_v vs 0) 85 := (congrArg v_ad f9).trans ar_0_85_1
  have ad_19 : v_ad (n_v vs 19) = w_ar ws (n_v vs 0) 90 := (congrArg v_ad f13).trans ar_0_90_1
  have ad_13 : v_ad (n_v vs 13) = w_ar ws (n_v vs 0) 82 := (congrArg v_ad f26).trans ar_0_82_2
  have ad_11 : v_ad (n_v vs 11) = w_ar ws (n_v vs 0) 86 := (congrArg v_ad f33).trans ar_0_86_2
  have ad_9 : v_ad (n_v vs 9) = w_ar ws (n_v vs 0) 84 := (congrArg v_ad f35).trans ar_0_84_2
  have ad_7 : v_ad (n_v vs 7) = w_ar ws (n_v vs 0) 83 := (congrArg v_ad f37).trans ar_0_83_2
  simp only [ad_23] at f8
  have h8 : v_iv (n_v vs 29) = w_ei w1 (w_ar ws (n_v vs 0) 85) (v_iv (n_v vs 5)) := f8
  simp only [ad_19] at f10
  have h10 : v_iv (n_v vs 28) = w_ei w1 (w_ar ws (n_v vs 0) 90) (v_iv (n_v vs 27)) := f10
  simp only [ad_23] at f20
  have h20 : v_iv (n_v vs 24) = w_ei w2 (w_ar ws (n_v vs 0) 85) (v_iv (n_v vs 5)) := f20
  simp only [ad_19] at f21
  have h21 : v_iv (n_v vs 22) = w_ei w2 (w_ar ws (n_v vs 0) 90) (v_iv (n_v vs 21)) := f21
  simp only [ad_13] at f25
  have h25 : v_iv (n_v vs 18) = w_ei w2 (w_ar ws (n_v vs 0) 82) (v_iv (n_v vs 10)) := f25
  simp only [ad_13] at f27
  have h27 : v_iv (n_v vs 17) = w_ei w2 (w_ar ws (n_v vs 0) 82) (v_iv (n_v vs 8)) := f27
  simp only [ad_13] at f29
  have h29 : v_iv (n_v vs 15) = w_ei w2 (w_ar ws (n_v vs 0) 82) (v_iv (n_v vs 10)) := f29
  simp only [ad_13] at f30
  have h30 : v_iv (n_v vs 14) = w_ei w2 (w_ar ws (n_v vs 0) 82) (v_iv (n_v vs 8)) := f30
  simp only [ad_11] at f32
  have h32 : v_iv (n_v vs 12) = w_ei w2 (w_ar ws (n_v vs 0) 86) (v_iv (n_v vs 5)) := f32
  simp only [ad_9] at f34
  have h34 : v_iv (n_v vs 10) = w_ei w2 (w_ar ws (n_v vs 0) 84) (v_iv (n_v vs 5)) := f34
  simp only [ad_7] at f36
  have h36 : v_iv (n_v vs 8) = w_ei w2 (w_ar ws (n_v vs 0) 83) (v_iv (n_v vs 5)) := f36
  have g39 : v_iv (n_v vs 6) = w_fi w2 (n_v vs 0) 80 := congrArg v_iv f39
  simp only [ar_0_82_2, ar_0_83_2, ar_0_84_2, ar_0_85_2, ar_0_86_2, ar_0_87_2, ar_0_88_2, ar_0_89_2, ar_0_90_2, ar_0_93_2] at f43
  have fe_0_79_1 : w_fi ws (n_v vs 0) 79 = w_fi w1 (n_v vs 0) 79 := congrArg v_iv (s1.2 _ _)
  have fe_0_80_1 : w_fi ws (n_v vs 0) 80 = w_fi w1 (n_v vs 0) 80 := congrArg v_iv (s1.2 _ _)
  have fe_0_81_1 : w_fi ws (n_v vs 0) 81 = w_fi w1 (n_v vs 0) 81 := congrArg v_iv (s1.2 _ _)
  have fe_0_79_2 : w_fi w1 (n_v vs 0) 79 = w_fi w2 (n_v vs 0) 79 := congrArg v_iv (s2.2 _ _)
  have fe_0_80_2 : w_fi w1 (n_v vs 0) 80 = w_fi w2 (n_v vs 0) 80 := congrArg v_iv (s2.2 _ _)
  have fe_0_81_2 : w_fi w1 (n_v vs 0) 81 = w_fi w2 (n_v vs 0) 81 := congrArg v_iv (s2.2 _ _)
  have hE_0_82_1 : ∀ j : Int, w_ei ws (w_ar ws (n_v vs 0) 82) j = w_ei w1 (w_ar ws (n_v vs 0) 82) j := el_kp s1.1 r19 cr_0_82 (by decide)
  have hE_0_82_2 : ∀ j : Int, w_ei w1 (w_ar ws (n_v vs 0) 82) j = w_ei w2 (w_ar ws (n_v vs 0) 82) j := el_kp s2.1 r19 cr_0_82 (by decide)
  have hE_0_83_1 : ∀ j : Int, w_ei ws (w_ar ws (n_v vs 0) 83) j = w_ei w1 (w_ar ws (n_v vs 0) 83) j := el_kp s1.1 r19 cr_0_83 (by decide)
  have hE_0_83_2 : ∀ j : Int, w_ei w1 (w_ar ws (n_v vs 0) 83) j = w_ei w2 (w_ar ws (n_v vs 0) 83) j := el_kp s2.1 r19 cr_0_83 (by decide)
  have hE_0_84_1 : ∀ j : Int, w_ei ws (w_ar ws (n_v vs 0) 84) j = w_ei w1 (w_ar ws (n_v vs 0) 84) j := el_kp s1.1 r19 cr_0_84 (by decide)
  have hE_0_84_2 : ∀ j : Int, w_ei w1 (w_ar ws (n_v vs 0) 84) j = w_ei w2 (w_ar ws (n_v vs 0) 84) j := el_kp s2.1 r19 cr_0_84 (by decide)
  have hE_0_85_1 : ∀ j : Int, w_ei ws (w_ar ws (n_v vs 0) 85) j = w_ei w1 (w_ar ws (n_v vs 0) 85) j := el_kp s1.1 r19 cr_0_85 (by decide)
  have hE_0_85_2 : ∀ j : Int, w_ei w1 (w_ar ws (n_v vs 0) 85) j = w_ei w2 (w_ar ws (n_v vs 0) 85) j := el_kp s2.1 r19 cr_0_85 (by decide)
  have hE_0_86_1 : ∀ j : Int, w_ei ws (w_ar ws (n_v vs 0) 86) j = w_ei w1 (w_ar ws (n_v vs 0) 86) j := el_kp s1.1 r19 cr_0_86 (by decide)
  have hE_0_86_2 : ∀ j : Int, w_ei w1 (w_ar ws (n_v vs 0) 86) j = w_ei w2 (w_ar ws (n_v vs 0) 86) j := el_kp s2.1 r19 cr_0_86 (by decide)
  have hE_0_87_1 : ∀ j : Int, w_ei ws (w_ar ws (n_v vs 0) 87) j = w_ei w1 (w_ar ws (n_v vs 0) 87) j := el_kp s1.1 r19 cr_0_87 (by decide)
  have hE_0_87_2 : ∀ j : Int, w_ei w1 (w_ar ws (n_v vs 0) 87) j = w_ei w2 (w_ar ws (n_v vs 0) 87) j := el_kp s2.1 r19 cr_0_87 (by decide)
  have hE_0_88_1 : ∀ j : Int, w_ei ws (w_ar ws (n_v vs 0) 88) j = w_ei w1 (w_ar ws (n_v vs 0) 88) j := el_kp s1.1 r19 cr_0_88 (by decide)
  have hE_0_88_2 : ∀ j : Int, w_ei w1 (w_ar ws (n_v vs 0) 88) j = w_ei w2 (w_ar ws (n_v vs 0) 88) j := el_kp s2.1 r19 cr_0_88 (by decide)
  have hE_0_89_1 : ∀ j : Int, w_ei ws (w_ar ws (n_v vs 0) 89) j = w_ei w1 (w_ar ws (n_v vs 0) 89) j := el_kp s1.1 r19 cr_0_89 (by decide)
  have hE_0_89_2 : ∀ j : Int, w_ei w1 (w_ar ws (n_v vs 0) 89) j = w_ei w2 (w_ar ws (n_v vs 0) 89) j := el_kp s2.1 r19 cr_0_89 (by decide)
  have hE_0_90_1 : ∀ j : Int, 0 ≤ j → (j = v_iv (n_v vs 27) → w_ei ws (w_ar ws (n_v vs 0) 90) j = v_iv (n_v vs 30)) ∧ (j ≠ v_iv (n_v vs 27) → w_ei ws (w_ar ws (n_v vs 0) 90) j = w_ei w1 (w_ar ws (n_v vs 0) 90) j) := fun j hj => ⟨fun h => by unfold w_ei; rw [s1.1, if_pos ⟨ad_19.symm, by rw [h]⟩], fun h => by unfold w_ei; rw [s1.1, if_neg (fun e => h (by have := e.2; omega))]⟩
  have hE_0_90_2 : ∀ j : Int, 0 ≤ j → (j = v_iv (n_v vs 21) → w_ei w1 (w_ar ws (n_v vs 0) 90) j = v_iv (n_v vs 25)) ∧ (j ≠ v_iv (n_v vs 21) → w_ei w1 (w_ar ws (n_v vs 0) 90) j = w_ei w2 (w_ar ws (n_v vs 0) 90) j) := fun j hj => ⟨fun h => by unfold w_ei; rw [s2.1, if_pos ⟨ad_19.symm, by rw [h]⟩], fun h => by unfold w_ei; rw [s2.1, if_neg (fun e => h (by have := e.2; omega))]⟩
  have hE_0_93_1 : ∀ j : Int, w_ei ws (w_ar ws (n_v vs 0) 93) j = w_ei w1 (w_ar ws (n_v vs 0) 93) j := el_kp s1.1 r19 cr_0_93 (by decide)
  have hE_0_93_2 : ∀ j : Int, w_ei w1 (w_ar ws (n_v vs 0) 93) j = w_ei w2 (w_ar ws (n_v vs 0) 93) j := el_kp s2.1 r19 cr_0_93 (by decide)
  have kz_0_79 := fdq_147 hD hth r0
  have kz_0_80 := fdq_131 hD hth r0
  have kz_0_81 := fdq_124 hD hth r0
  have nf0 : fc_1 PRD (20, [1, 31], [60, 3, 10, 413, 79, 80, 81, 90, 93, 82, 83, 84, 85, 86, 87, 88, 89]) ws (vs) := by
    refine ⟨nf_in hl rfl, sgq_1160 ?_⟩
    · show UPC (w_fi ws (n_v vs 1) 79) (w_fi ws (n_v vs 1) 80) (w_fi ws (n_v vs 1) 81) (w_ei ws (w_ar ws (n_v vs 1) 90)) (w_ei ws (w_ar ws (n_v vs 1) 93)) (w_ei ws (w_ar ws (n_v vs 1) 82)) (w_ei ws (w_ar ws (n_v vs 1) 83)) (w_ei ws (w_ar ws (n_v vs 1) 84)) (w_ei ws (w_ar ws (n_v vs 1) 85)) (w_ei ws (w_ar ws (n_v vs 1) 86)) (w_ei ws (w_ar ws (n_v vs 1) 87)) (w_ei ws (w_ar ws (n_v vs 1) 88)) (w_ei ws (w_ar ws (n_v vs 1) 89)) (v_iv (n_v vs 31))
      rw [q1]
      exact vc_Mo_up_11_0 (v_iv (n_v vs 2)) (v_iv (n_v vs 5)) (v_iv (n_v vs 6)) (v_iv (n_v vs 8)) (v_iv (n_v vs 10)) (v_iv (n_v vs 12)) (v_iv (n_v vs 14)) (v_iv (n_v vs 15)) (v_iv (n_v vs 17)) (v_iv (n_v vs 18)) (v_iv (n_v vs 20)) (v_iv (n_v vs 21)) (v_iv (n_v vs 22)) (v_iv (n_v vs 24)) (v_iv (n_v vs 25)) (v_iv (n_v vs 26)) (v_iv (n_v vs 27)) (v_iv (n_v vs 28)) (v_iv (n_v vs 29)) (v_iv (n_v vs 30)) (v_iv (n_v vs 31)) (w_fi ws (n_v vs 0) 79) (w_fi ws (n_v vs 0) 80) (w_ei w1 (w_ar ws (n_v vs 0) 85)) (w_ei w1 (w_ar ws (n_v vs 0) 90)) (w_fi w1 (n_v vs 0) 79) (w_fi w1 (n_v vs 0) 80) (w_ei w2 (w_ar ws (n_v vs 0) 85)) (w_ei w2 (w_ar ws (n_v vs 0) 90)) (w_ei w2 (w_ar ws (n_v vs 0) 82)) (w_ei w2 (w_ar ws (n_v vs 0) 86)) (w_ei w2 (w_ar ws (n_v vs 0) 84)) (w_ei w2 (w_ar ws (n_v vs 0) 83)) (w_fi w2 (n_v vs 0) 80) (w_fi w2 (n_v vs 0) 79) (w_ei w2 (w_ar ws (n_v vs 0) 93)) (w_ei w2 (w_ar ws (n_v vs 0) 87)) (w_ei w2 (w_ar ws (n_v vs 0) 88)) (w_ei w2 (w_ar ws (n_v vs 0) 89)) (w_fi w2 (n_v vs 0) 81) (w_fi ws (n_v vs 0) 81) (w_fi w1 (n_v vs 0) 81) (w_ei ws (w_ar ws (n_v vs 0) 82)) (w_ei w1 (w_ar ws (n_v vs 0) 82)) (w_ei ws (w_ar ws (n_v vs 0) 83)) (w_ei w1 (w_ar ws (n_v vs 0) 83)) (w_ei ws (w_ar ws (n_v vs 0) 84)) (w_ei w1 (w_ar ws (n_v vs 0) 84)) (w_ei ws (w_ar ws (n_v vs 0) 85)) (w_ei ws (w_ar ws (n_v vs 0) 86)) (w_ei w1 (w_ar ws (n_v vs 0) 86)) (w_ei ws (w_ar ws (n_v vs 0) 87)) (w_ei w1 (w_ar ws (n_v vs 0) 87)) (w_ei ws (w_ar ws (n_v vs 0) 88)) (w_ei w1 (w_ar ws (n_v vs 0) 88)) (w_ei ws (w_ar ws (n_v vs 0) 89)) (w_ei w1 (w_ar ws (n_v vs 0) 89)) (w_ei ws (w_ar ws (n_v vs 0) 90)) (w_ei ws (w_ar ws (n_v vs 0) 93)) (w_ei w1 (w_ar ws (n_v vs 0) 93)) k2 k5 k6 k8 k10 k12 k14 k15 k17 k18 k20 k21 k22 k24 k25 k26 k27 k28 k29 k30 k31 d0 d1 d12 f0 f7 h8 h10 f11 f12 f19 h20 h21 f22 f23 f24 h25 h27 f28 h29 h30 f31 h32 h34 h36 g39 f40 f43 fe_0_79_1 fe_0_80_1 fe_0_81_1 fe_0_79_2 fe_0_80_2 fe_0_81_2 hE_0_82_1 hE_0_82_2 hE_0_83_1 hE_0_83_2 hE_0_84_1 hE_0_84_2 hE_0_85_1 hE_0_85_2 hE_0_86_1 hE_0_86_2 hE_0_87_1 hE_0_87_2 hE_0_88_1 hE_0_88_2 hE_0_89_1 hE_0_89_2 hE_0_90_1 hE_0_90_2 hE_0_93_1 hE_0_93_2 kz_0_79 kz_0_80 kz_0_81
  have nf1 : fc_1 PRD (20, [31, 1], [50, 1, 0, 1080, 0, 2, 1, 0, 2, 1, 80]) ws (vs) := by
    refine ⟨nf_in hl rfl, sgq_1161 ?_⟩
    · show v_iv (n_v vs 31) ≤ w_fi ws (n_v vs 1) 80
      rw [q1]
      exact vc_Mo_up_11_1 (v_iv (n_v vs 5)) (v_iv (n_v vs 6)) (v_iv (n_v vs 31)) (w_fi ws (n_v vs 0) 79) (w_fi ws (n_v vs 0) 80) (w_ei w1 (w_ar ws (n_v vs 0) 85)) (w_fi w1 (n_v vs 0) 79) (w_fi w1 (n_v vs 0) 80) (w_ei w2 (w_ar ws (n_v vs 0) 85)) (w_ei w2 (w_ar ws (n_v vs 0) 82)) (w_ei w2 (w_ar ws (n_v vs 0) 86)) (w_ei w2 (w_ar ws (n_v vs 0) 84)) (w_ei w2 (w_ar ws (n_v vs 0) 83)) (w_fi w2 (n_v vs 0) 80) (w_fi w2 (n_v vs 0) 79) (w_ei w2 (w_ar ws (n_v vs 0) 93)) (w_ei w2 (w_ar ws (n_v vs 0) 87)) (w_ei w2 (w_ar ws (n_v vs 0) 88)) (w_ei w2 (w_ar ws (n_v vs 0) 89)) (w_fi w2 (n_v vs 0) 81) (w_fi ws (n_v vs 0) 81) (w_fi w1 (n_v vs 0) 81) (w_ei ws (w_ar ws (n_v vs 0) 82)) (w_ei w1 (w_ar ws (n_v vs 0) 82)) (w_ei ws (w_ar ws (n_v vs 0) 83)) (w_ei w1 (w_ar ws (n_v vs 0) 83)) (w_ei ws (w_ar ws (n_v vs 0) 84)) (w_ei w1 (w_ar ws (n_v vs 0) 84)) (w_ei ws (w_ar ws (n_v vs 0) 85)) (w_ei ws (w_ar ws (n_v vs 0) 86)) (w_ei w1 (w_ar ws (n_v vs 0) 86)) (w_ei ws (w_ar ws (n_v vs 0) 87)) (w_ei w1 (w_ar ws (n_v vs 0) 87)) (w_ei ws (w_ar ws (n_v vs 0) 88)) (w_ei w1 (w_ar ws (n_v vs 0) 88)) (w_ei ws (w_ar ws (n_v vs 0) 89)) (w_ei w1 (w_ar ws (n_v vs 0) 89)) (w_ei ws (w_ar ws (n_v vs 0) 93)) (w_ei w1 (w_ar ws (n_v vs 0) 93)) k5 k6 k31 d0 d1 d12 g39 fe_0_79_1 fe_0_80_1 fe_0_81_1 fe_0_79_2 fe_0_80_2 fe_0_81_2 hE_0_82_1 hE_0_82_2 hE_0_83_1 hE_0_83_2 hE_0_84_1 hE_0_84_2 hE_0_85_1 hE_0_85_2 hE_0_86_1 hE_0_86_2 hE_0_87_1 hE_0_87_2 hE_0_88_1 hE_0_88_2 hE_0_89_1 hE_0_89_2 hE_0_93_1 hE_0_93_2 kz_0_79 kz_0_80 kz_0_81
  refine ⟨(fun _ h => (by cases h)), [], trivial, ?_, (fun _ h => (by cases h))⟩
  rw [List.append_nil]
  exact List.forall_mem_cons.mpr ⟨⟨show (20 : Nat) < 100 from by decide, nf0⟩, List.forall_mem_cons.mpr ⟨⟨show (20 : Nat) < 100 from by decide, nf1⟩, (fun _ h => (by cases h))⟩⟩
set_option maxHeartbeats 4000000 in
theorem vc_Mo_up_12_r0 (x5 : Int) (x6 : Int) (x8 : Int) (x20 : Int) (x22 : Int) (x23 : Int) (costW_0 : Int → Int) (goes_0 : Int → Int) (spot_0 : Int → Int) (costPlain_0 : Int → Int) (costB_0 : Int → Int) (costA_0 : Int → Int) (costMany_0 : Int) (pointMany_0 : Int) (flow_0 : Int → Int) (apartA_0 : Int → Int) (apartB_0 : Int → Int) (apart_0 : Int → Int) (apartMany_0 : Int) (k5 : 0 ≤ x5 ∧ x5 ≤ 199) (k6 : 1 ≤ x6 ∧ x6 ≤ 200) (k8 : 0 ≤ x8 ∧ x8 ≤ 75) (k20 : (-14400) ≤ x20 ∧ x20 ≤ 14400) (k22 : 0 ≤ x22 ∧ x22 ≤ 72) (k23 : (-14400) ≤ x23 ∧ x23 ≤ 14472) (d0 : x22 + (-14400) ≤ x23 ∧ x23 ≤ x22 + 14400) (d1 : x20 + 0 ≤ x23 ∧ x23 ≤ x20 + 72) (d4 : x6 + (-4294967296) ≤ x5 ∧ x5 ≤ x6 + (-1)) (f0 : x23 = x20 + x22) (h1 : x22 = costW_0 (x5)) (h3 : x20 = goes_0 (x8)) (h17 : x8 = costA_0 (x5)) (g20 : x6 = costMany_0) (f24 : UPC (pointMany_0) (costMany_0) (apartMany_0) (flow_0) (goes_0) (spot_0) (costA_0) (costB_0) (costW_0) (costPlain_0) (apartA_0) (apartB_0) (apart_0) (x5)) (kz_0_79 : 0 ≤ pointMany_0 ∧ pointMany_0 ≤ 76) (kz_0_80 : 0 ≤ costMany_0 ∧ costMany_0 ≤ 200) (kz_0_81 : 0 ≤ apartMany_0 ∧ apartMany_0 ≤ 200) : (-14400) ≤ x23 ∧ x23 ≤ 14400 := by
  have h := upc_v1 (a := x8) ‹UPC _ _ _ _ _ _ _ _ _ _ _ _ _ _› (by omega) (by omega) (Or.inl (by assumption)) (by assumption) (by assumption)
  omega
def o_Mo_up_12 : or_T := (209, 24, [(0, (2, 0, 0, [165])), (1, (2, 0, 0, [165])), (2, (0, 2, 78, [])), (3, (0, 0, 76, [])), (4, (0, 1, 77, [])), (5, (0, 0, 199, [])), (6, (0, 1, 200, [])), (7, (2, 0, 0, [220])), (8, (0, 0, 75, [])), (9, (2, 0, 0, [221])), (10, (0, 0, 75, [])), (11, (2, 0, 0, [223])), (12, (0, 0, 0, [])), (13, (2, 0, 0, [219])), (14, (0, 0, 221100000, [])), (15, (0, 0, 221100000, [])), (17, (0, 1, 221100000, [])), (18, (0, 0, 221099999, [])), (19, (2, 0, 0, [230])), (20, (0, -14400, 14400, [])), (21, (2, 0, 0, [222])), (22, (0, 0, 72, [])), (23, (0, -14400, 14472, []))], [(1, [23, 20, 22], []), (10, [22, 21, 5], []), (9, [21, 1], [85]), (10, [20, 19, 8], []), (9, [19, 1], [93]), (7, [17, 18], [4]), (10, [18, 13, 10], []), (9, [13, 1], [82]), (10, [17, 13, 8], []), (7, [14, 15], [3]), (10, [15, 13, 10], []), (10, [14, 13, 8], []), (8, [12], [0]), (10, [12, 11, 5], []), (9, [11, 1], [86]), (10, [10, 9, 5], []), (9, [9, 1], [84]), (10, [8, 7, 5], []), (9, [7, 1], [83]), (7, [5, 6], [2]), (9, [6, 1], [80]), (20, [2, 1], [50, 1, 0, 1079, 1, 2, 1, 0, 4, 3, 2, 1, 79, 0, 2]), (20, [3, 1], [50, 1, 0, 1079, 1, 2, 1, 0, 2, 1, 79]), (20, [4, 1], [50, 1, 0, 1079, 1, 2, 1, 0, 4, 3, 2, 1, 79, 0, 1]), (20, [1, 5], [60, 3, 10, 413, 79, 80, 81, 90, 93, 82, 83, 84, 85, 86, 87, 88, 89]), (20, [5, 1], [50, 1, 0, 1080, 0, 2, 1, 0, 2, 1, 80]), (24, [0, 1], [])], [(23, (0, -14400, 14400, []))], [], [], [], [(23, 22, -14400, 14400), (23, 20, 0, 72), (17, 18, 1, 4294967296), (14, 15, 0, 4294967296), (5, 6, -4294967296, -1), (2, 3, -4294967296, 2), (2, 4, -4294967296, 1), (3, 2, -4294967296, -2), (3, 4, -4294967296, -1), (4, 2, -4294967296, -1), (4, 3, -4294967296, 1)])
theorem oo_Mo_up_12 {kA : Nat → ClassId} : or_ok PRD kA GG o_Mo_up_12 := by
  refine or_mk fun A ta ws vs hD hth hl => ?_
  intro t0 r0 t1 r1 t2 k2 t3 k3 t4 k4 t5 k5 t6 k6 t7 r7 t8 k8 t9 r9 t10 k10 t11 r11 t12 k12 t13 r13 t14 k14 t15 k15 t17 k17 t18 k18 t19 r19 t20 k20 t21 r21 t22 k22 t23 k23 d0 d1 d2 d3 d4 d5 d6 d7 d8 d9 d10 f0 f1 f2 f3 f4 f5 f6 f7 f8 f9 f10 f11 f12 f13 f14 f15 f16 f17 f18 f19 f20 f21 f22 f23 f24 f25 f26
  replace f1 := shm_107 f1
  replace f2 := shm_561 f2
  replace f3 := shm_107 f3
  replace f4 := shm_1162 f4
  replace f17 := shm_107 f17
  replace f18 := shm_556 f18
  replace f20 := shm_555 f20
  replace f24 := shm_1160 f24
  replace f26 := shm_5 f26
  have q1 : n_v vs 1 = n_v vs 0 := f26.symm
  simp only [q1] at f2 f4 f18 f20 f24
  have ad_21 : v_ad (n_v vs 21) = w_ar ws (n_v vs 0) 85 := congrArg v_ad f2
  have ad_19 : v_ad (n_v vs 19) = w_ar ws (n_v vs 0) 93 := congrArg v_ad f4
  have ad_7 : v_ad (n_v vs 7) = w_ar ws (n_v vs 0) 83 := congrArg v_ad f18
  simp only [ad_21] at f1
  have h1 : v_iv (n_v vs 22) = w_ei ws (w_ar ws (n_v vs 0) 85) (v_iv (n_v vs 5)) := f1
  simp only [ad_19] at f3
  have h3 : v_iv (n_v vs 20) = w_ei ws (w_ar ws (n_v vs 0) 93) (v_iv (n_v vs 8)) := f3
  simp only [ad_7] at f17
  have h17 : v_iv (n_v vs 8) = w_ei ws (w_ar ws (n_v vs 0) 83) (v_iv (n_v vs 5)) := f17
  have g20 : v_iv (n_v vs 6) = w_fi ws (n_v vs 0) 80 := congrArg v_iv f20
  have kz_0_79 := fdq_147 hD hth r0
  have kz_0_80 := fdq_131 hD hth r0
  have kz_0_81 := fdq_124 hD hth r0
  have hrf0 : (-14400) ≤ v_iv (n_v vs 23) ∧ v_iv (n_v vs 23) ≤ 14400 := vc_Mo_up_12_r0 (v_iv (n_v vs 5)) (v_iv (n_v vs 6)) (v_iv (n_v vs 8)) (v_iv (n_v vs 20)) (v_iv (n_v vs 22)) (v_iv (n_v vs 23)) (w_ei ws (w_ar ws (n_v vs 0) 85)) (w_ei ws (w_ar ws (n_v vs 0) 93)) (w_ei ws (w_ar ws (n_v vs 0) 82)) (w_ei ws (w_ar ws (n_v vs 0) 86)) (w_ei ws (w_ar ws (n_v vs 0) 84)) (w_ei ws (w_ar ws (n_v vs 0) 83)) (w_fi ws (n_v vs 0) 80) (w_fi ws (n_v vs 0) 79) (w_ei ws (w_ar ws (n_v vs 0) 90)) (w_ei ws (w_ar ws (n_v vs 0) 87)) (w_ei ws (w_ar ws (n_v vs 0) 88)) (w_ei ws (w_ar ws (n_v vs 0) 89)) (w_fi ws (n_v vs 0) 81) k5 k6 k8 k20 k22 k23 d0 d1 d4 (shm_12 f0) h1 h3 h17 g20 f24 kz_0_79 kz_0_80 kz_0_81
  have rf23 : tv_ok ta (0, -14400, 14400, []) (n_v vs 23) := tv_in t23 (by first | omega | grind) (by first | omega | grind)
  refine ⟨List.forall_mem_cons.mpr ⟨rf23, (fun _ h => (by cases h))⟩, [], trivial, ?_, (fun _ h => (by cases h))⟩
  rw [List.append_nil]
  exact (fun _ h => (by cases h))
set_option maxHeartbeats 4000000 in
theorem vc_Mo_up_13_r0 (x5 : Int) (x6 : Int) (x8 : Int) (x10 : Int) (x20 : Int) (x22 : Int) (x23 : Int) (x24 : Int) (x25 : Int) (x26 : Int) (costW_0 : Int → Int) (goes_0 : Int → Int) (pointMany_0 : Int) (costMany_0 : Int) (costW_1 : Int → Int) (goes_1 : Int → Int) (spot_1 : Int → Int) (costPlain_1 : Int → Int) (costB_1 : Int → Int) (costA_1 : Int → Int) (costMany_1 : Int) (pointMany_1 : Int) (flow_1 : Int → Int) (apartA_1 : Int → Int) (apartB_1 : Int → Int) (apart_1 : Int → Int) (apartMany_1 : Int) (apartMany_0 : Int) (spot_0 : Int → Int) (costA_0 : Int → Int) (costB_0 : Int → Int) (costPlain_0 : Int → Int) (apartA_0 : Int → Int) (apartB_0 : Int → Int) (apart_0 : Int → Int) (flow_0 : Int → Int) (k5 : 0 ≤ x5 ∧ x5 ≤ 199) (k6 : 1 ≤ x6 ∧ x6 ≤ 200) (k8 : 0 ≤ x8 ∧ x8 ≤ 75) (k10 : 0 ≤ x10 ∧ x10 ≤ 75) (k20 : (-14400) ≤ x20 ∧ x20 ≤ 14400) (k22 : 0 ≤ x22 ∧ x22 ≤ 72) (k23 : (-14400) ≤ x23 ∧ x23 ≤ 14400) (k24 : (-14400) ≤ x24 ∧ x24 ≤ 14400) (k25 : 0 ≤ x25 ∧ x25 ≤ 72) (k26 : (-14472) ≤ x26 ∧ x26 ≤ 14400) (d5 : x6 + (-4294967296) ≤ x5 ∧ x5 ≤ x6 + (-1)) (f0 : x26 = x24 - x25) (h1 : x25 = costW_0 (x5)) (h3 : x24 = goes_0 (x10)) (f11 : x23 = x20 + x22) (h12 : x22 = costW_1 (x5)) (h13 : x20 = goes_1 (x8)) (h24 : x10 = costB_1 (x5)) (h26 : x8 = costA_1 (x5)) (g29 : x6 = costMany_1) (f33 : UPC (pointMany_1) (costMany_1) (apartMany_1) (flow_1) (goes_1) (spot_1) (costA_1) (costB_1) (costW_1) (costPlain_1) (apartA_1) (apartB_1) (apart_1) (x5)) (fe_0_79_1 : pointMany_0 = pointMany_1) (fe_0_80_1 : costMany_0 = costMany_1) (fe_0_81_1 : apartMany_0 = apartMany_1) (hE_0_82_1 : ∀ j : Int, spot_0 j = spot_1 j) (hE_0_83_1 : ∀ j : Int, costA_0 j = costA_1 j) (hE_0_84_1 : ∀ j : Int, costB_0 j = costB_1 j) (hE_0_85_1 : ∀ j : Int, costW_0 j = costW_1 j) (hE_0_86_1 : ∀ j : Int, costPlain_0 j = costPlain_1 j) (hE_0_87_1 : ∀ j : Int, apartA_0 j = apartA_1 j) (hE_0_88_1 : ∀ j : Int, apartB_0 j = apartB_1 j) (hE_0_89_1 : ∀ j : Int, apart_0 j = apart_1 j) (hE_0_90_1 : ∀ j : Int, flow_0 j = flow_1 j) (hE_0_93_1 : ∀ j : Int, 0 ≤ j → (j = x8 → goes_0 j = x23) ∧ (j ≠ x8 → goes_0 j = goes_1 j)) (kz_0_79 : 0 ≤ pointMany_0 ∧ pointMany_0 ≤ 76) (kz_0_80 : 0 ≤ costMany_0 ∧ costMany_0 ≤ 200) (kz_0_81 : 0 ≤ apartMany_0 ∧ apartMany_0 ≤ 200) : (-14400) ≤ x26 ∧ x26 ≤ 14400 := by
  subst fe_0_79_1
  subst fe_0_80_1
  subst fe_0_81_1
  have e_hE_0_82_1 := funext hE_0_82_1; subst e_hE_0_82_1
  have e_hE_0_83_1 := funext hE_0_83_1; subst e_hE_0_83_1
  have e_hE_0_84_1 := funext hE_0_84_1; subst e_hE_0_84_1
  have e_hE_0_85_1 := funext hE_0_85_1; subst e_hE_0_85_1
  have e_hE_0_86_1 := funext hE_0_86_1; subst e_hE_0_86_1
  have e_hE_0_87_1 := funext hE_0_87_1; subst e_hE_0_87_1
  have e_hE_0_88_1 := funext hE_0_88_1; subst e_hE_0_88_1
  have e_hE_0_89_1 := funext hE_0_89_1; subst e_hE_0_89_1
  have e_hE_0_90_1 := funext hE_0_90_1; subst e_hE_0_90_1
  have h := upc_v2 (a := x8) (b := x10) (w := x22) (w2 := x25) (o := x20) (o2 := x24) (v1 := x23) (-1) ‹UPC _ _ _ _ _ _ _ _ _ _ _ _ _ _› (by omega) (by omega) (by assumption) (by assumption) (by assumption) (by assumption) (by assumption) (Or.inr rfl) (by omega) (by assumption) (by assumption)
  omega
def o_Mo_up_13 : or_T := (226, 27, [(0, (2, 0, 0, [165])), (1, (2, 0, 0, [165])), (2, (0, 2, 78, [])), (3, (0, 0, 76, [])), (4, (0, 1, 77, [])), (5, (0, 0, 199, [])), (6, (0, 1, 200, [])), (7, (2, 0, 0, [220])), (8, (0, 0, 75, [])), (9, (2, 0, 0, [221])), (10, (0, 0, 75, [])), (11, (2, 0, 0, [223])), (12, (0, 0, 0, [])), (13, (2, 0, 0, [219])), (14, (0, 0, 221100000, [])), (15, (0, 0, 221100000, [])), (17, (0, 1, 221100000, [])), (18, (0, 0, 221099999, [])), (19, (2, 0, 0, [230])), (20, (0, -14400, 14400, [])), (21, (2, 0, 0, [222])), (22, (0, 0, 72, [])), (23, (0, -14400, 14400, [])), (24, (0, -14400, 14400, [])), (25, (0, 0, 72, [])), (26, (0, -14472, 14400, []))], [(2, [26, 24, 25], []), (10, [25, 21, 5], []), (9, [21, 1], [85]), (10, [24, 19, 10], []), (9, [19, 1], [93]), (20, [2, 1], [50, 1, 0, 1079, 1, 2, 1, 0, 4, 3, 2, 1, 79, 0, 2]), (20, [3, 1], [50, 1, 0, 1079, 1, 2, 1, 0, 2, 1, 79]), (20, [4, 1], [50, 1, 0, 1079, 1, 2, 1, 0, 4, 3, 2, 1, 79, 0, 1]), (20, [5, 1], [50, 1, 0, 1080, 0, 2, 1, 0, 2, 1, 80]), (24, [0, 1], []), (100, [19, 8, 23], []), (1, [23, 20, 22], []), (10, [22, 21, 5], []), (10, [20, 19, 8], []), (7, [17, 18], [4]), (10, [18, 13, 10], []), (9, [13, 1], [82]), (10, [17, 13, 8], []), (7, [14, 15], [3]), (10, [15, 13, 10], []), (10, [14, 13, 8], []), (8, [12], [0]), (10, [12, 11, 5], []), (9, [11, 1], [86]), (10, [10, 9, 5], []), (9, [9, 1], [84]), (10, [8, 7, 5], []), (9, [7, 1], [83]), (7, [5, 6], [2]), (9, [6, 1], [80]), (20, [2, 1], [50, 1, 0, 1079, 1, 2, 1, 0, 4, 3, 2, 1, 79, 0, 2]), (20, [3, 1], [50, 1, 0, 1079, 1, 2, 1, 0, 2, 1, 79]), (20, [4, 1], [50, 1, 0, 1079, 1, 2, 1, 0, 4, 3, 2, 1, 79, 0, 1]), (20, [1, 5], [60, 3, 10, 413, 79, 80, 81, 90, 93, 82, 83, 84, 85, 86, 87, 88, 89]), (20, [5, 1], [50, 1, 0, 1080, 0, 2, 1, 0, 2, 1, 80])], [(26, (0, -14400, 14400, []))], [], [], [], [(26, 24, -72, 0), (23, 22, -14400, 14400), (23, 20, 0, 72), (17, 18, 1, 4294967296), (14, 15, 0, 4294967296), (5, 6, -4294967296, -1), (2, 3, -4294967296, 2), (2, 4, -4294967296, 1), (3, 2, -4294967296, -2), (3, 4, -4294967296, -1), (4, 2, -4294967296, -1), (4, 3, -4294967296, 1)])
theorem oo_Mo_up_13 {kA : Nat → ClassId} : or_ok PRD kA GG o_Mo_up_13 := by
  refine or_mk fun A ta ws vs hD hth hl => ?_
  intro t0 r0 t1 r1 t2 k2 t3 k3 t4 k4 t5 k5 t6 k6 t7 r7 t8 k8 t9 r9 t10 k10 t11 r11 t12 k12 t13 r13 t14 k14 t15 k15 t17 k17 t18 k18 t19 r19 t20 k20 t21 r21 t22 k22 t23 k23 t24 k24 t25 k25 t26 k26 d0 d1 d2 d3 d4 d5 d6 d7 d8 d9 d10 d11 f0 f1 f2 f3 f4 f5 f6 f7 f8 f9 ta1 w1 le1 s1 f11 f12 f13 f14 f15 f16 f17 f18 f19 f20 f21 f22 f23 f24 f25 f26 f27 f28 f29 f30 f31 f32 f33 f34
  replace f1 := shm_107 f1
  replace f2 := shm_561 f2
  replace f3 := shm_107 f3
  replace f4 := shm_1162 f4
  replace f9 := shm_5 f9
  have s1 : (∀ b j, w_el ws b j = if b = v_ad (n_v vs 19) ∧ j = (v_iv (n_v vs 8)).toNat then v_iv (n_v vs 23) else w_el w1 b j) ∧ ∀ b k, w_fd ws b k = w_fd w1 b k := s1.2
  replace f12 := shm_107 f12
  replace f13 := shm_107 f13
  replace f24 := shm_107 f24
  replace f25 := shm_562 f25
  replace f26 := shm_107 f26
  replace f27 := shm_556 f27
  replace f29 := shm_555 f29
  replace f33 := shm_1160 f33
  have q1 : n_v vs 1 = n_v vs 0 := f9.symm
  simp only [q1] at f2 f4 f25 f27 f29 f33
  have ar_0_82_1 : w_ar w1 (n_v vs 0) 82 = w_ar ws (n_v vs 0) 82 := congrArg v_ad (s1.2 _ _).symm
  have cr_0_82 := fdq_230 hD hth r0
  have ar_0_83_1 : w_ar w1 (n_v vs 0) 83 = w_ar ws (n_v vs 0) 83 := congrArg v_ad (s1.2 _ _).symm
  have cr_0_83 := fdq_126 hD hth r0
  have ar_0_84_1 : w_ar w1 (n_v vs 0) 84 = w_ar ws (n_v vs 0) 84 := congrArg v_ad (s1.2 _ _).symm
  have cr_0_84 := fdq_127 hD hth r0
  have ar_0_85_1 : w_ar w1 (n_v vs 0) 85 = w_ar ws (n_v vs 0) 85 := congrArg v_ad (s1.2 _ _).symm
  have cr_0_85 := fdq_128 hD hth r0
  have ar_0_86_1 : w_ar w1 (n_v vs 0) 86 = w_ar ws (n_v vs 0) 86 := congrArg v_ad (s1.2 _ _).symm
  have cr_0_86 := fdq_129 hD hth r0
  have ar_0_87_1 : w_ar w1 (n_v vs 0) 87 = w_ar ws (n_v vs 0) 87 := congrArg v_ad (s1.2 _ _).symm
  have cr_0_87 := fdq_119 hD hth r0
  have ar_0_88_1 : w_ar w1 (n_v vs 0) 88 = w_ar ws (n_v vs 0) 88 := congrArg v_ad (s1.2 _ _).symm
  have cr_0_88 := fdq_120 hD hth r0
  have ar_0_89_1 : w_ar w1 (n_v vs 0) 89 = w_ar ws (n_v vs 0) 89 := congrArg v_ad (s1.2 _ _).symm
  have cr_0_89 := fdq_121 hD hth r0
  have ar_0_90_1 : w_ar w1 (n_v vs 0) 90 = w_ar ws (n_v vs 0) 90 := congrArg v_ad (s1.2 _ _).symm
  have cr_0_90 := fdq_231 hD hth r0
  have ar_0_93_1 : w_ar w1 (n_v vs 0) 93 = w_ar ws (n_v vs 0) 93 := congrArg v_ad (s1.2 _ _).symm
  have ad_21 : v_ad (n_v vs 21) = w_ar ws (n_v vs 0) 85 := congrArg v_ad f2
  have ad_19 : v_ad (n_v vs 19) = w_ar ws (n_v vs 0) 93 := congrArg v_ad f4
  have ad_9 : v_ad (n_v vs 9) = w_ar ws (n_v vs 0) 84 := (congrArg v_ad f25).trans ar_0_84_1
  have ad_7 : v_ad (n_v vs 7) = w_ar ws (n_v vs 0) 83 := (congrArg v_ad f27).trans ar_0_83_1
  simp only [ad_21] at f1
  have h1 : v_iv (n_v vs 25) = w_ei ws (w_ar ws (n_v vs 0) 85) (v_iv (n_v vs 5)) := f1
  simp only [ad_19] at f3
  have h3 : v_iv (n_v vs 24) = w_ei ws (w_ar ws (n_v vs 0) 93) (v_iv (n_v vs 10)) := f3
  simp only [ad_21] at f12
  have h12 : v_iv (n_v vs 22) = w_ei w1 (w_ar ws (n_v vs 0) 85) (v_iv (n_v vs 5)) := f12
  simp only [ad_19] at f13
  have h13 : v_iv (n_v vs 20) = w_ei w1 (w_ar ws (n_v vs 0) 93) (v_iv (n_v vs 8)) := f13
  simp only [ad_9] at f24
  have h24 : v_iv (n_v vs 10) = w_ei w1 (w_ar ws (n_v vs 0) 84) (v_iv (n_v vs 5)) := f24
  simp only [ad_7] at f26
  have h26 : v_iv (n_v vs 8) = w_ei w1 (w_ar ws (n_v vs 0) 83) (v_iv (n_v vs 5)) := f26
  have g29 : v_iv (n_v vs 6) = w_fi w1 (n_v vs 0) 80 := congrArg v_iv f29
  simp only [ar_0_82_1, ar_0_83_1, ar_0_84_1, ar_0_85_1, ar_0_86_1, ar_0_87_1, ar_0_88_1, ar_0_89_1, ar_0_90_1, ar_0_93_1] at f33
  have fe_0_79_1 : w_fi ws (n_v vs 0) 79 = w_fi w1 (n_v vs 0) 79 := congrArg v_iv (s1.2 _ _)
  have fe_0_80_1 : w_fi ws (n_v vs 0) 80 = w_fi w1 (n_v vs 0) 80 := congrArg v_iv (s1.2 _ _)
  have fe_0_81_1 : w_fi ws (n_v vs 0) 81 = w_fi w1 (n_v vs 0) 81 := congrArg v_iv (s1.2 _ _)
  have hE_0_82_1 : ∀ j : Int, w_ei ws (w_ar ws (n_v vs 0) 82) j = w_ei w1 (w_ar ws (n_v vs 0) 82) j := el_kp s1.1 r19 cr_0_82 (by decide)
  have hE_0_83_1 : ∀ j : Int, w_ei ws (w_ar ws (n_v vs 0) 83) j = w_ei w1 (w_ar ws (n_v vs 0) 83) j := el_kp s1.1 r19 cr_0_83 (by decide)
  have hE_0_84_1 : ∀ j : Int, w_ei ws (w_ar ws (n_v vs 0) 84) j = w_ei w1 (w_ar ws (n_v vs 0) 84) j := el_kp s1.1 r19 cr_0_84 (by decide)
  have hE_0_85_1 : ∀ j : Int, w_ei ws (w_ar ws (n_v vs 0) 85) j = w_ei w1 (w_ar ws (n_v vs 0) 85) j := el_kp s1.1 r19 cr_0_85 (by decide)
  have hE_0_86_1 : ∀ j : Int, w_ei ws (w_ar ws (n_v vs 0) 86) j = w_ei w1 (w_ar ws (n_v vs 0) 86) j := el_kp s1.1 r19 cr_0_86 (by decide)
  have hE_0_87_1 : ∀ j : Int, w_ei ws (w_ar ws (n_v vs 0) 87) j = w_ei w1 (w_ar ws (n_v vs 0) 87) j := el_kp s1.1 r19 cr_0_87 (by decide)
  have hE_0_88_1 : ∀ j : Int, w_ei ws (w_ar ws (n_v vs 0) 88) j = w_ei w1 (w_ar ws (n_v vs 0) 88) j := el_kp s1.1 r19 cr_0_88 (by decide)
  have hE_0_89_1 : ∀ j : Int, w_ei ws (w_ar ws (n_v vs 0) 89) j = w_ei w1 (w_ar ws (n_v vs 0) 89) j := el_kp s1.1 r19 cr_0_89 (by decide)
  have hE_0_90_1 : ∀ j : Int, w_ei ws (w_ar ws (n_v vs 0) 90) j = w_ei w1 (w_ar ws (n_v vs 0) 90) j := el_kp s1.1 r19 cr_0_90 (by decide)
  have hE_0_93_1 : ∀ j : Int, 0 ≤ j → (j = v_iv (n_v vs 8) → w_ei ws (w_ar ws (n_v vs 0) 93) j = v_iv (n_v vs 23)) ∧ (j ≠ v_iv (n_v vs 8) → w_ei ws (w_ar ws (n_v vs 0) 93) j = w_ei w1 (w_ar ws (n_v vs 0) 93) j) := fun j hj => ⟨fun h => by unfold w_ei; rw [s1.1, if_pos ⟨ad_19.symm, by rw [h]⟩], fun h => by unfold w_ei; rw [s1.1, if_neg (fun e => h (by have := e.2; omega))]⟩
  have kz_0_79 := fdq_147 hD hth r0
  have kz_0_80 := fdq_131 hD hth r0
  have kz_0_81 := fdq_124 hD hth r0
  have hrf0 : (-14400) ≤ v_iv (n_v vs 26) ∧ v_iv (n_v vs 26) ≤ 14400 := vc_Mo_up_13_r0 (v_iv (n_v vs 5)) (v_iv (n_v vs 6)) (v_iv (n_v vs 8)) (v_iv (n_v vs 10)) (v_iv (n_v vs 20)) (v_iv (n_v vs 22)) (v_iv (n_v vs 23)) (v_iv (n_v vs 24)) (v_iv (n_v vs 25)) (v_iv (n_v vs 26)) (w_ei ws (w_ar ws (n_v vs 0) 85)) (w_ei ws (w_ar ws (n_v vs 0) 93)) (w_fi ws (n_v vs 0) 79) (w_fi ws (n_v vs 0) 80) (w_ei w1 (w_ar ws (n_v vs 0) 85)) (w_ei w1 (w_ar ws (n_v vs 0) 93)) (w_ei w1 (w_ar ws (n_v vs 0) 82)) (w_ei w1 (w_ar ws (n_v vs 0) 86)) (w_ei w1 (w_ar ws (n_v vs 0) 84)) (w_ei w1 (w_ar ws (n_v vs 0) 83)) (w_fi w1 (n_v vs 0) 80) (w_fi w1 (n_v vs 0) 79) (w_ei w1 (w_ar ws (n_v vs 0) 90)) (w_ei w1 (w_ar ws (n_v vs 0) 87)) (w_ei w1 (w_ar ws (n_v vs 0) 88)) (w_ei w1 (w_ar ws (n_v vs 0) 89)) (w_fi w1 (n_v vs 0) 81) (w_fi ws (n_v vs 0) 81) (w_ei ws (w_ar ws (n_v vs 0) 82)) (w_ei ws (w_ar ws (n_v vs 0) 83)) (w_ei ws (w_ar ws (n_v vs 0) 84)) (w_ei ws (w_ar ws (n_v vs 0) 86)) (w_ei ws (w_ar ws (n_v vs 0) 87)) (w_ei ws (w_ar ws (n_v vs 0) 88)) (w_ei ws (w_ar ws (n_v vs 0) 89)) (w_ei ws (w_ar ws (n_v vs 0) 90)) k5 k6 k8 k10 k20 k22 k23 k24 k25 k26 d5 (shm_14 f0) h1 h3 (shm_12 f11) h12 h13 h24 h26 g29 f33 fe_0_79_1 fe_0_80_1 fe_0_81_1 hE_0_82_1 hE_0_83_1 hE_0_84_1 hE_0_85_1 hE_0_86_1 hE_0_87_1 hE_0_88_1 hE_0_89_1 hE_0_90_1 hE_0_93_1 kz_0_79 kz_0_80 kz_0_81
  have rf26 : tv_ok ta (0, -14400, 14400, []) (n_v vs 26) := tv_in t26 (by first | omega | grind) (by first | omega | grind)
  refine ⟨List.forall_mem_cons.mpr ⟨rf26, (fun _ h => (by cases h))⟩, [], trivial, ?_, (fun _ h => (by cases h))⟩
  rw [List.append_nil]
  exact (fun _ h => (by cases h))
set_option maxHeartbeats 4000000 in
theorem vc_Mo_up_14_0 (x5 : Int) (x6 : Int) (x8 : Int) (x10 : Int) (x12 : Int) (x14 : Int) (x15 : Int) (x17 : Int) (x18 : Int) (x20 : Int) (x22 : Int) (x23 : Int) (x24 : Int) (x25 : Int) (x26 : Int) (x27 : Int) (pointMany_0 : Int) (costMany_0 : Int) (costW_1 : Int → Int) (goes_1 : Int → Int) (pointMany_1 : Int) (costMany_1 : Int) (costW_2 : Int → Int) (goes_2 : Int → Int) (spot_2 : Int → Int) (costPlain_2 : Int → Int) (costB_2 : Int → Int) (costA_2 : Int → Int) (costMany_2 : Int) (pointMany_2 : Int) (flow_2 : Int → Int) (apartA_2 : Int → Int) (apartB_2 : Int → Int) (apart_2 : Int → Int) (apartMany_2 : Int) (apartMany_0 : Int) (apartMany_1 : Int) (spot_0 : Int → Int) (spot_1 : Int → Int) (costA_0 : Int → Int) (costA_1 : Int → Int) (costB_0 : Int → Int) (costB_1 : Int → Int) (costW_0 : Int → Int) (costPlain_0 : Int → Int) (costPlain_1 : Int → Int) (apartA_0 : Int → Int) (apartA_1 : Int → Int) (apartB_0 : Int → Int) (apartB_1 : Int → Int) (apart_0 : Int → Int) (apart_1 : Int → Int) (flow_0 : Int → Int) (flow_1 : Int → Int) (goes_0 : Int → Int) (k5 : 0 ≤ x5 ∧ x5 ≤ 199) (k6 : 1 ≤ x6 ∧ x6 ≤ 200) (k8 : 0 ≤ x8 ∧ x8 ≤ 75) (k10 : 0 ≤ x10 ∧ x10 ≤ 75) (k12 : 0 ≤ x12 ∧ x12 ≤ 0) (k17 : 1 ≤ x17 ∧ x17 ≤ 221100000) (k18 : 0 ≤ x18 ∧ x18 ≤ 221099999) (k20 : (-14400) ≤ x20 ∧ x20 ≤ 14400) (k22 : 0 ≤ x22 ∧ x22 ≤ 72) (k23 : (-14400) ≤ x23 ∧ x23 ≤ 14400) (k24 : (-14400) ≤ x24 ∧ x24 ≤ 14400) (k25 : 0 ≤ x25 ∧ x25 ≤ 72) (k26 : (-14400) ≤ x26 ∧ x26 ≤ 14400) (k27 : 1 ≤ x27 ∧ x27 ≤ 200) (d0 : x5 + 1 ≤ x27 ∧ x27 ≤ x5 + 1) (d1 : x6 + (-4294967296) ≤ x27 ∧ x27 ≤ x6 + 0) (d7 : x6 + (-4294967296) ≤ x5 ∧ x5 ≤ x6 + (-1)) (f0 : x27 = x5 + 1) (f7 : x26 = x24 - x25) (h8 : x25 = costW_1 (x5)) (h10 : x24 = goes_1 (x10)) (f17 : x23 = x20 + x22) (h18 : x22 = costW_2 (x5)) (h19 : x20 = goes_2 (x8)) (f20 : x18 < x17) (h21 : x18 = spot_2 (x10)) (h23 : x17 = spot_2 (x8)) (f27 : x12 = 0) (h28 : x12 = costPlain_2 (x5)) (h30 : x10 = costB_2 (x5)) (h32 : x8 = costA_2 (x5)) (g35 : x6 = costMany_2) (f39 : UPC (pointMany_2) (costMany_2) (apartMany_2) (flow_2) (goes_2) (spot_2) (costA_2) (costB_2) (costW_2) (costPlain_2) (apartA_2) (apartB_2) (apart_2) (x5)) (fe_0_79_1 : pointMany_0 = pointMany_1) (fe_0_80_1 : costMany_0 = costMany_1) (fe_0_81_1 : apartMany_0 = apartMany_1) (fe_0_79_2 : pointMany_1 = pointMany_2) (fe_0_80_2 : costMany_1 = costMany_2) (fe_0_81_2 : apartMany_1 = apartMany_2) (hE_0_82_1 : ∀ j : Int, spot_0 j = spot_1 j) (hE_0_82_2 : ∀ j : Int, spot_1 j = spot_2 j) (hE_0_83_1 : ∀ j : Int, costA_0 j = costA_1 j) (hE_0_83_2 : ∀ j : Int, costA_1 j = costA_2 j) (hE_0_84_1 : ∀ j : Int, costB_0 j = costB_1 j) (hE_0_84_2 : ∀ j : Int, costB_1 j = costB_2 j) (hE_0_85_1 : ∀ j : Int, costW_0 j = costW_1 j) (hE_0_85_2 : ∀ j : Int, costW_1 j = costW_2 j) (hE_0_86_1 : ∀ j : Int, costPlain_0 j = costPlain_1 j) (hE_0_86_2 : ∀ j : Int, costPlain_1 j = costPlain_2 j) (hE_0_87_1 : ∀ j : Int, apartA_0 j = apartA_1 j) (hE_0_87_2 : ∀ j : Int, apartA_1 j = apartA_2 j) (hE_0_88_1 : ∀ j : Int, apartB_0 j = apartB_1 j) (hE_0_88_2 : ∀ j : Int, apartB_1 j = apartB_2 j) (hE_0_89_1 : ∀ j : Int, apart_0 j = apart_1 j) (hE_0_89_2 : ∀ j : Int, apart_1 j = apart_2 j) (hE_0_90_1 : ∀ j : Int, flow_0 j = flow_1 j) (hE_0_90_2 : ∀ j : Int, flow_1 j = flow_2 j) (hE_0_93_1 : ∀ j : Int, 0 ≤ j → (j = x10 → goes_0 j = x26) ∧ (j ≠ x10 → goes_0 j = goes_1 j)) (hE_0_93_2 : ∀ j : Int, 0 ≤ j → (j = x8 → goes_1 j = x23) ∧ (j ≠ x8 → goes_1 j = goes_2 j)) (kz_0_79 : 0 ≤ pointMany_0 ∧ pointMany_0 ≤ 76) (kz_0_80 : 0 ≤ costMany_0 ∧ costMany_0 ≤ 200) (kz_0_81 : 0 ≤ apartMany_0 ∧ apartMany_0 ≤ 200) : UPC (pointMany_0) (costMany_0) (apartMany_0) (flow_0) (goes_0) (spot_0) (costA_0) (costB_0) (costW_0) (costPlain_0) (apartA_0) (apartB_0) (apart_0) (x27) := by
  subst fe_0_79_1
  subst fe_0_80_1
  subst fe_0_81_1
  subst fe_0_79_2
  subst fe_0_80_2
  subst fe_0_81_2
  have e_hE_0_82_1 := funext hE_0_82_1; subst e_hE_0_82_1
  have e_hE_0_82_2 := funext hE_0_82_2; subst e_hE_0_82_2
  have e_hE_0_83_1 := funext hE_0_83_1; subst e_hE_0_83_1
  have e_hE_0_83_2 := funext hE_0_83_2; subst e_hE_0_83_2
  have e_hE_0_84_1 := funext hE_0_84_1; subst e_hE_0_84_1
  have e_hE_0_84_2 := funext hE_0_84_2; subst e_hE_0_84_2
  have e_hE_0_85_1 := funext hE_0_85_1; subst e_hE_0_85_1
  have e_hE_0_85_2 := funext hE_0_85_2; subst e_hE_0_85_2
  have e_hE_0_86_1 := funext hE_0_86_1; subst e_hE_0_86_1
  have e_hE_0_86_2 := funext hE_0_86_2; subst e_hE_0_86_2
  have e_hE_0_87_1 := funext hE_0_87_1; subst e_hE_0_87_1
  have e_hE_0_87_2 := funext hE_0_87_2; subst e_hE_0_87_2
  have e_hE_0_88_1 := funext hE_0_88_1; subst e_hE_0_88_1
  have e_hE_0_88_2 := funext hE_0_88_2; subst e_hE_0_88_2
  have e_hE_0_89_1 := funext hE_0_89_1; subst e_hE_0_89_1
  have e_hE_0_89_2 := funext hE_0_89_2; subst e_hE_0_89_2
  have e_hE_0_90_1 := funext hE_0_90_1; subst e_hE_0_90_1
  have e_hE_0_90_2 := funext hE_0_90_2; subst e_hE_0_90_2
  first
    | exact upc_start ‹PBK _ _ _ _ _ _ _ _ _ _› ‹UZN _ _› (Int.le_refl _) ‹UZG _ _›.1 (by omega) (by omega)
    | exact upc_goP1 (a := x8) (b := x10) (w := x17) (w2 := x20) (pl := x12) (o1 := x15) (o2 := x19) ‹UPC _ _ _ _ _ _ _ _ _ _ _ _ _ _› (by omega) (by omega) (by assumption) (by assumption) (by assumption) (by assumption) (by assumption) (by assumption) (by omega) (by assumption) (by assumption) (by assumption) (by assumption) (by assumption) (by assumption)
    | exact upc_goP2 (a := x8) (b := x10) (w := x20) (w2 := x23) (ya := x14) (yb := x15) (o1 := x18) (o2 := x22) ‹UPC _ _ _ _ _ _ _ _ _ _ _ _ _ _› (by omega) (by omega) (by assumption) (by assumption) (by assumption) (by assumption) (by assumption) (by assumption) (by assumption) (by omega) (by assumption) (by assumption) (by assumption) (by assumption) (by assumption) (by assumption)
    | exact upc_goM2 (a := x8) (b := x10) (w := x22) (w2 := x25) (pl := x12) (ya := x17) (yb := x18) (o1 := x20) (o2 := x24) ‹UPC _ _ _ _ _ _ _ _ _ _ _ _ _ _› (by omega) (by omega) (by assumption) (by assumption) (by assumption) (by assumption) (by assumption) (by assumption) (by omega) (by assumption) (by assumption) (by omega) (by assumption) (by assumption) (by assumption) (by assumption) (by assumption) (by assumption)
    | exact upc_tie3 (a := x8) (b := x10) (w := x24) (w2 := x29) (pl := x12) (ya := x14) (yb := x15) (ya2 := x17) (yb2 := x18) (q1 := x21) (q2 := x27) (r1 := x20) (r2 := x26) (o1 := x22) (o2 := x28) ‹UPC _ _ _ _ _ _ _ _ _ _ _ _ _ _› (by omega) (by omega) (by assumption) (by omega) (by assumption) (by assumption) (by assumption) (by assumption) (by assumption) (by omega) (by assumption) (by assumption) (by omega) (by assumption) (by assumption) (by omega) (by assumption) (by assumption) (by assumption) (by assumption) (by assumption) (by assumption) (by assumption) (by assumption) (by assumption) (by assumption)
  
set_option maxHeartbeats 4000000 in
theorem vc_Mo_up_14_1 (x5 : Int) (x6 : Int) (x27 : Int) (pointMany_0 : Int) (costMany_0 : Int) (costW_1 : Int → Int) (pointMany_1 : Int) (costMany_1 : Int) (costW_2 : Int → Int) (spot_2 : Int → Int) (costPlain_2 : Int → Int) (costB_2 : Int → Int) (costA_2 : Int → Int) (costMany_2 : Int) (pointMany_2 : Int) (flow_2 : Int → Int) (apartA_2 : Int → Int) (apartB_2 : Int → Int) (apart_2 : Int → Int) (apartMany_2 : Int) (apartMany_0 : Int) (apartMany_1 : Int) (spot_0 : Int → Int) (spot_1 : Int → Int) (costA_0 : Int → Int) (costA_1 : Int → Int) (costB_0 : Int → Int) (costB_1 : Int → Int) (costW_0 : Int → Int) (costPlain_0 : Int → Int) (costPlain_1 : Int → Int) (apartA_0 : Int → Int) (apartA_1 : Int → Int) (apartB_0 : Int → Int) (apartB_1 : Int → Int) (apart_0 : Int → Int) (apart_1 : Int → Int) (flow_0 : Int → Int) (flow_1 : Int → Int) (k5 : 0 ≤ x5 ∧ x5 ≤ 199) (k6 : 1 ≤ x6 ∧ x6 ≤ 200) (k27 : 1 ≤ x27 ∧ x27 ≤ 200) (d0 : x5 + 1 ≤ x27 ∧ x27 ≤ x5 + 1) (d1 : x6 + (-4294967296) ≤ x27 ∧ x27 ≤ x6 + 0) (d7 : x6 + (-4294967296) ≤ x5 ∧ x5 ≤ x6 + (-1)) (g35 : x6 = costMany_2) (fe_0_79_1 : pointMany_0 = pointMany_1) (fe_0_80_1 : costMany_0 = costMany_1) (fe_0_81_1 : apartMany_0 = apartMany_1) (fe_0_79_2 : pointMany_1 = pointMany_2) (fe_0_80_2 : costMany_1 = costMany_2) (fe_0_81_2 : apartMany_1 = apartMany_2) (hE_0_82_1 : ∀ j : Int, spot_0 j = spot_1 j) (hE_0_82_2 : ∀ j : Int, spot_1 j = spot_2 j) (hE_0_83_1 : ∀ j : Int, costA_0 j = costA_1 j) (hE_0_83_2 : ∀ j : Int, costA_1 j = costA_2 j) (hE_0_84_1 : ∀ j : Int, costB_0 j = costB_1 j) (hE_0_84_2 : ∀ j : Int, costB_1 j = costB_2 j) (hE_0_85_1 : ∀ j : Int, costW_0 j = costW_1 j) (hE_0_85_2 : ∀ j : Int, costW_1 j = costW_2 j) (hE_0_86_1 : ∀ j : Int, costPlain_0 j = costPlain_1 j) (hE_0_86_2 : ∀ j : Int, costPlain_1 j = costPlain_2 j) (hE_0_87_1 : ∀ j : Int, apartA_0 j = apartA_1 j) (hE_0_87_2 : ∀ j : Int, apartA_1 j = apartA_2 j) (hE_0_88_1 : ∀ j : Int, apartB_0 j = apartB_1 j) (hE_0_88_2 : ∀ j : Int, apartB_1 j = apartB_2 j) (hE_0_89_1 : ∀ j : Int, apart_0 j = apart_1 j) (hE_0_89_2 : ∀ j : Int, apart_1 j = apart_2 j) (hE_0_90_1 : ∀ j : Int, flow_0 j = flow_1 j) (hE_0_90_2 : ∀ j : Int, flow_1 j = flow_2 j) (kz_0_79 : 0 ≤ pointMany_0 ∧ pointMany_0 ≤ 76) (kz_0_80 : 0 ≤ costMany_0 ∧ costMany_0 ≤ 200) (kz_0_81 : 0 ≤ apartMany_0 ∧ apartMany_0 ≤ 200) : x27 ≤ costMany_0 := by
  subst fe_0_79_1
  subst fe_0_80_1
  subst fe_0_81_1
  subst fe_0_79_2
  subst fe_0_80_2
  subst fe_0_81_2
  have e_hE_0_82_1 := funext hE_0_82_1; subst e_hE_0_82_1
  have e_hE_0_82_2 := funext hE_0_82_2; subst e_hE_0_82_2
  have e_hE_0_83_1 := funext hE_0_83_1; subst e_hE_0_83_1
  have e_hE_0_83_2 := funext hE_0_83_2; subst e_hE_0_83_2
  have e_hE_0_84_1 := funext hE_0_84_1; subst e_hE_0_84_1
  have e_hE_0_84_2 := funext hE_0_84_2; subst e_hE_0_84_2
  have e_hE_0_85_1 := funext hE_0_85_1; subst e_hE_0_85_1
  have e_hE_0_85_2 := funext hE_0_85_2; subst e_hE_0_85_2
  have e_hE_0_86_1 := funext hE_0_86_1; subst e_hE_0_86_1
  have e_hE_0_86_2 := funext hE_0_86_2; subst e_hE_0_86_2
  have e_hE_0_87_1 := funext hE_0_87_1; subst e_hE_0_87_1
  have e_hE_0_87_2 := funext hE_0_87_2; subst e_hE_0_87_2
  have e_hE_0_88_1 := funext hE_0_88_1; subst e_hE_0_88_1
  have e_hE_0_88_2 := funext hE_0_88_2; subst e_hE_0_88_2
  have e_hE_0_89_1 := funext hE_0_89_1; subst e_hE_0_89_1
  have e_hE_0_89_2 := funext hE_0_89_2; subst e_hE_0_89_2
  have e_hE_0_90_1 := funext hE_0_90_1; subst e_hE_0_90_1
  have e_hE_0_90_2 := funext hE_0_90_2; subst e_hE_0_90_2
  omega
def o_Mo_up_14 : or_T := (73, 28, [(0, (2, 0, 0, [165])), (5, (0, 0, 199, [])), (6, (0, 1, 200, [])), (8, (0, 0, 75, [])), (10, (0, 0, 75, [])), (12, (0, 0, 0, [])), (17, (0, 1, 221100000, [])), (18, (0, 0, 221099999, [])), (19, (2, 0, 0, [230])), (20, (0, -14400, 14400, [])), (22, (0, 0, 72, [])), (23, (0, -14400, 14400, [])), (24, (0, -14400, 14400, [])), (25, (0, 0, 72, [])), (26, (0, -14400, 14400, [])), (27, (0, 1, 200, []))], [(6, [27, 5], [1]), (24, [0, 1], []), (100, [19, 10, 26], []), (2, [26, 24, 25], []), (10, [25, 21, 5], []), (9, [21, 1], [85]), (10, [24, 19, 10], []), (9, [19, 1], [93]), (100, [19, 8, 23], []), (1, [23, 20, 22], []), (10, [22, 21, 5], []), (10, [20, 19, 8], []), (7, [17, 18], [4]), (10, [18, 13, 10], []), (9, [13, 1], [82]), (10, [17, 13, 8], []), (8, [12], [0]), (10, [12, 11, 5], []), (9, [11, 1], [86]), (10, [10, 9, 5], []), (9, [9, 1], [84]), (10, [8, 7, 5], []), (9, [7, 1], [83]), (9, [6, 1], [80]), (20, [1, 5], [60, 3, 10, 413, 79, 80, 81, 90, 93, 82, 83, 84, 85, 86, 87, 88, 89])], [], [], [(20, [1, 27], [60, 3, 10, 413, 79, 80, 81, 90, 93, 82, 83, 84, 85, 86, 87, 88, 89]), (20, [27, 1], [50, 1, 0, 1080, 0, 2, 1, 0, 2, 1, 80])], [], [(27, 5, 1, 1), (27, 6, -4294967296, 0), (26, 24, -72, 0), (23, 22, -14400, 14400), (23, 20, 0, 72), (5, 6, -4294967296, -1)])
theorem oo_Mo_up_14 {kA : Nat → ClassId} : or_ok PRD kA GG o_Mo_up_14 := by
  refine or_mk fun A ta ws vs hD hth hl => ?_
  intro t0 r0 t5 k5 t6 k6 t8 k8 t10 k10 t12 k12 t17 k17 t18 k18 t19 r19 t20 k20 t22 k22 t23 k23 t24 k24 t25 k25 t26 k26 t27 k27 d0 d1 d2 d3 d4 d7 f0 f5 ta1 w1 le1 s1 f7 f8 f9 f10 f11 ta2 w2 le2 s2 f17 f18 f19 f20 f21 f22 f23 f27 f28 f29 f30 f31 f32 f33 f35 f39
  replace f0 := shm_4 f0
  replace f5 := shm_5 f5
  have s1 : (∀ b j, w_el ws b j = if b = v_ad (n_v vs 19) ∧ j = (v_iv (n_v vs 10)).toNat then v_iv (n_v vs 26) else w_el w1 b j) ∧ ∀ b k, w_fd ws b k = w_fd w1 b k := s1.2
  replace f7 := shm_14 f7
  replace f8 := shm_107 f8
  replace f9 := shm_561 f9
  replace f10 := shm_107 f10
  replace f11 := shm_1162 f11
  have s2 : (∀ b j, w_el w1 b j = if b = v_ad (n_v vs 19) ∧ j = (v_iv (n_v vs 8)).toNat then v_iv (n_v vs 23) else w_el w2 b j) ∧ ∀ b k, w_fd w1 b k = w_fd w2 b k := s2.2
  replace f17 := shm_12 f17
  replace f18 := shm_107 f18
  replace f19 := shm_107 f19
  replace f20 := shm_21 f20
  replace f21 := shm_107 f21
  replace f22 := shm_1165 f22
  replace f23 := shm_107 f23
  replace f27 := shm_192 f27
  replace f28 := shm_107 f28
  replace f29 := shm_560 f29
  replace f30 := shm_107 f30
  replace f31 := shm_562 f31
  replace f32 := shm_107 f32
  replace f33 := shm_556 f33
  replace f35 := shm_555 f35
  replace f39 := shm_1160 f39
  have q1 : n_v vs 1 = n_v vs 0 := f5.symm
  simp only [q1] at f9 f11 f22 f29 f31 f33 f35 f39
  have ar_0_82_1 : w_ar w1 (n_v vs 0) 82 = w_ar ws (n_v vs 0) 82 := congrArg v_ad (s1.2 _ _).symm
  have ar_0_82_2 : w_ar w2 (n_v vs 0) 82 = w_ar ws (n_v vs 0) 82 := by rw [← ar_0_82_1]; show v_ad (w_fd w2 _ _) = v_ad (w_fd w1 _ _); rw [s2.2]
  have cr_0_82 := fdq_230 hD hth r0
  have ar_0_83_1 : w_ar w1 (n_v vs 0) 83 = w_ar ws (n_v vs 0) 83 := congrArg v_ad (s1.2 _ _).symm
  have ar_0_83_2 : w_ar w2 (n_v vs 0) 83 = w_ar ws (n_v vs 0) 83 := by rw [← ar_0_83_1]; show v_ad (w_fd w2 _ _) = v_ad (w_fd w1 _ _); rw [s2.2]
  have cr_0_83 := fdq_126 hD hth r0
  have ar_0_84_1 : w_ar w1 (n_v vs 0) 84 = w_ar ws (n_v vs 0) 84 := congrArg v_ad (s1.2 _ _).symm
  have ar_0_84_2 : w_ar w2 (n_v vs 0) 84 = w_ar ws (n_v vs 0) 84 := by rw [← ar_0_84_1]; show v_ad (w_fd w2 _ _) = v_ad (w_fd w1 _ _); rw [s2.2]
  have cr_0_84 := fdq_127 hD hth r0
  have ar_0_85_1 : w_ar w1 (n_v vs 0) 85 = w_ar ws (n_v vs 0) 85 := congrArg v_ad (s1.2 _ _).symm
  have ar_0_85_2 : w_ar w2 (n_v vs 0) 85 = w_ar ws (n_v vs 0) 85 := by rw [← ar_0_85_1]; show v_ad (w_fd w2 _ _) = v_ad (w_fd w1 _ _); rw [s2.2]
  have cr_0_85 := fdq_128 hD hth r0
  have ar_0_86_1 : w_ar w1 (n_v vs 0) 86 = w_ar ws (n_v vs 0) 86 := congrArg v_ad (s1.2 _ _).symm
  have ar_0_86_2 : w_ar w2 (n_v vs 0) 86 = w_ar ws (n_v vs 0) 86 := by rw [← ar_0_86_1]; show v_ad (w_fd w2 _ _) = v_ad (w_fd w1 _ _); rw [s2.2]
  have cr_0_86 := fdq_129 hD hth r0
  have ar_0_87_1 : w_ar w1 (n_v vs 0) 87 = w_ar ws (n_v vs 0) 87 := congrArg v_ad (s1.2 _ _).symm
  have ar_0_87_2 : w_ar w2 (n_v vs 0) 87 = w_ar ws (n_v vs 0) 87 := by rw [← ar_0_87_1]; show v_ad (w_fd w2 _ _) = v_ad (w_fd w1 _ _); rw [s2.2]
  have cr_0_87 := fdq_119 hD hth r0
  have ar_0_88_1 : w_ar w1 (n_v vs 0) 88 = w_ar ws (n_v vs 0) 88 := congrArg v_ad (s1.2 _ _).symm
  have ar_0_88_2 : w_ar w2 (n_v vs 0) 88 = w_ar ws (n_v vs 0) 88 := by rw [← ar_0_88_1]; show v_ad (w_fd w2 _ _) = v_ad (w_fd w1 _ _); rw [s2.2]
  have cr_0_88 := fdq_120 hD hth r0
  have ar_0_89_1 : w_ar w1 (n_v vs 0) 89 = w_ar ws (n_v vs 0) 89 := congrArg v_ad (s1.2 _ _).symm
  have ar_0_89_2 : w_ar w2 (n_v vs 0) 89 = w_ar ws (n_v vs 0) 89 := by rw [← ar_0_89_1]; show v_ad (w_fd w2 _ _) = v_ad (w_fd w1 _ _); rw [s2.2]
  have cr_0_89 := fdq_121 hD hth r0
  have ar_0_90_1 : w_ar w1 (n_v vs 0) 90 = w_ar ws (n_v vs 0) 90 := congrArg v_ad (s1.2 _ _).symm
  have ar_0_90_2 : w_ar w2 (n_v vs 0) 90 = w_ar ws (n_v vs 0) 90 := by rw [← ar_0_90_1]; show v_ad (w_fd w2 _ _) = v_ad (w_fd w1 _ _); rw [s2.2]
  have cr_0_90 := fdq_231 hD hth r0
  have ar_0_93_1 : w_ar w1 (n_v vs 0) 93 = w_ar ws (n_v vs 0) 93 := congrArg v_ad (s1.2 _ _).symm
  have ar_0_93_2 : w_ar w2 (n_v vs 0) 93 = w_ar ws (n_v vs 0) 93 := by rw [← ar_0_93_1]; show v_ad (w_fd w2 _ _) = v_ad (w_fd w1 _ _); rw [s2.2]
  have ad_21 : v_ad (n_v vs 21) = w_ar ws (n_v vs 0) 85 := (congrArg v_ad f9).trans ar_0_85_1
  have ad_19 : v_ad (n_v vs 19) = w_ar ws (n_v vs 0) 93 := (congrArg v_ad f11).trans ar_0_93_1
  have ad_13 : v_ad (n_v vs 13) = w_ar ws (n_v vs 0) 82 := (congrArg v_ad f22).trans ar_0_82_2
  have ad_11 : v_ad (n_v vs 11) = w_ar ws (n_v vs 0) 86 := (congrArg v_ad f29).trans ar_0_86_2
  have ad_9 : v_ad (n_v vs 9) = w_ar ws (n_v vs 0) 84 := (congrArg v_ad f31).trans ar_0_84_2
  have ad_7 : v_ad (n_v vs 7) = w_ar ws (n_v vs 0) 83 := (congrArg v_ad f33).trans ar_0_83_2
  simp only [ad_21] at f8
  have h8 : v_iv (n_v vs 25) = w_ei w1 (w_ar ws (n_v vs 0) 85) (v_iv (n_v vs 5)) := f8
  simp only [ad_19] at f10
  have h10 : v_iv (n_v vs 24) = w_ei w1 (w_ar ws (n_v vs 0) 93) (v_iv (n_v vs 10)) := f10
  simp only [ad_21] at f18
  have h18 : v_iv (n_v vs 22) = w_ei w2 (w_ar ws (n_v vs 0) 85) (v_iv (n_v vs 5)) := f18
  simp only [ad_19] at f19
  have h19 : v_iv (n_v vs 20) = w_ei w2 (w_ar ws (n_v vs 0) 93) (v_iv (n_v vs 8)) := f19
  simp only [ad_13] at f21
  have h21 : v_iv (n_v vs 18) = w_ei w2 (w_ar ws (n_v vs 0) 82) (v_iv (n_v vs 10)) := f21
  simp only [ad_13] at f23
  have h23 : v_iv (n_v vs 17) = w_ei w2 (w_ar ws (n_v vs 0) 82) (v_iv (n_v vs 8)) := f23
  simp only [ad_11] at f28
  have h28 : v_iv (n_v vs 12) = w_ei w2 (w_ar ws (n_v vs 0) 86) (v_iv (n_v vs 5)) := f28
  simp only [ad_9] at f30
  have h30 : v_iv (n_v vs 10) = w_ei w2 (w_ar ws (n_v vs 0) 84) (v_iv (n_v vs 5)) := f30
  simp only [ad_7] at f32
  have h32 : v_iv (n_v vs 8) = w_ei w2 (w_ar ws (n_v vs 0) 83) (v_iv (n_v vs 5)) := f32
  have g35 : v_iv (n_v vs 6) = w_fi w2 (n_v vs 0) 80 := congrArg v_iv f35
  simp only [ar_0_82_2, ar_0_83_2, ar_0_84_2, ar_0_85_2, ar_0_86_2, ar_0_87_2, ar_0_88_2, ar_0_89_2, ar_0_90_2, ar_0_93_2] at f39
  have fe_0_79_1 : w_fi ws (n_v vs 0) 79 = w_fi w1 (n_v vs 0) 79 := congrArg v_iv (s1.2 _ _)
  have fe_0_80_1 : w_fi ws (n_v vs 0) 80 = w_fi w1 (n_v vs 0) 80 := congrArg v_iv (s1.2 _ _)
  have fe_0_81_1 : w_fi ws (n_v vs 0) 81 = w_fi w1 (n_v vs 0) 81 := congrArg v_iv (s1.2 _ _)
  have fe_0_79_2 : w_fi w1 (n_v vs 0) 79 = w_fi w2 (n_v vs 0) 79 := congrArg v_iv (s2.2 _ _)
  have fe_0_80_2 : w_fi w1 (n_v vs 0) 80 = w_fi w2 (n_v vs 0) 80 := congrArg v_iv (s2.2 _ _)
  have fe_0_81_2 : w_fi w1 (n_v vs 0) 81 = w_fi w2 (n_v vs 0) 81 := congrArg v_iv (s2.2 _ _)
  have hE_0_82_1 : ∀ j : Int, w_ei ws (w_ar ws (n_v vs 0) 82) j = w_ei w1 (w_ar ws (n_v vs 0) 82) j := el_kp s1.1 r19 cr_0_82 (by decide)
  have hE_0_82_2 : ∀ j : Int, w_ei w1 (w_ar ws (n_v vs 0) 82) j = w_ei w2 (w_ar ws (n_v vs 0) 82) j := el_kp s2.1 r19 cr_0_82 (by decide)
  have hE_0_83_1 : ∀ j : Int, w_ei ws (w_ar ws (n_v vs 0) 83) j = w_ei w1 (w_ar ws (n_v vs 0) 83) j := el_kp s1.1 r19 cr_0_83 (by decide)
  have hE_0_83_2 : ∀ j : Int, w_ei w1 (w_ar ws (n_v vs 0) 83) j = w_ei w2 (w_ar ws (n_v vs 0) 83) j := el_kp s2.1 r19 cr_0_83 (by decide)
  have hE_0_84_1 : ∀ j : Int, w_ei ws (w_ar ws (n_v vs 0) 84) j = w_ei w1 (w_ar ws (n_v vs 0) 84) j := el_kp s1.1 r19 cr_0_84 (by decide)
  have hE_0_84_2 : ∀ j : Int, w_ei w1 (w_ar ws (n_v vs 0) 84) j = w_ei w2 (w_ar ws (n_v vs 0) 84) j := el_kp s2.1 r19 cr_0_84 (by decide)
  have hE_0_85_1 : ∀ j : Int, w_ei ws (w_ar ws (n_v vs 0) 85) j = w_ei w1 (w_ar ws (n_v vs 0) 85) j := el_kp s1.1 r19 cr_0_85 (by decide)
  have hE_0_85_2 : ∀ j : Int, w_ei w1 (w_ar ws (n_v vs 0) 85) j = w_ei w2 (w_ar ws (n_v vs 0) 85) j := el_kp s2.1 r19 cr_0_85 (by decide)
  have hE_0_86_1 : ∀ j : Int, w_ei ws (w_ar ws (n_v vs 0) 86) j = w_ei w1 (w_ar ws (n_v vs 0) 86) j := el_kp s1.1 r19 cr_0_86 (by decide)
  have hE_0_86_2 : ∀ j : Int, w_ei w1 (w_ar ws (n_v vs 0) 86) j = w_ei w2 (w_ar ws (n_v vs 0) 86) j := el_kp s2.1 r19 cr_0_86 (by decide)
  have hE_0_87_1 : ∀ j : Int, w_ei ws (w_ar ws (n_v vs 0) 87) j = w_ei w1 (w_ar ws (n_v vs 0) 87) j := el_kp s1.1 r19 cr_0_87 (by decide)
  have hE_0_87_2 : ∀ j : Int, w_ei w1 (w_ar ws (n_v vs 0) 87) j = w_ei w2 (w_ar ws (n_v vs 0) 87) j := el_kp s2.1 r19 cr_0_87 (by decide)
  have hE_0_88_1 : ∀ j : Int, w_ei ws (w_ar ws (n_v vs 0) 88) j = w_ei w1 (w_ar ws (n_v vs 0) 88) j := el_kp s1.1 r19 cr_0_88 (by decide)
  have hE_0_88_2 : ∀ j : Int, w_ei w1 (w_ar ws (n_v vs 0) 88) j = w_ei w2 (w_ar ws (n_v vs 0) 88) j := el_kp s2.1 r19 cr_0_88 (by decide)
  have hE_0_89_1 : ∀ j : Int, w_ei ws (w_ar ws (n_v vs 0) 89) j = w_ei w1 (w_ar ws (n_v vs 0) 89) j := el_kp s1.1 r19 cr_0_89 (by decide)
  have hE_0_89_2 : ∀ j : Int, w_ei w1 (w_ar ws (n_v vs 0) 89) j = w_ei w2 (w_ar ws (n_v vs 0) 89) j := el_kp s2.1 r19 cr_0_89 (by decide)
  have hE_0_90_1 : ∀ j : Int, w_ei ws (w_ar ws (n_v vs 0) 90) j = w_ei w1 (w_ar ws (n_v vs 0) 90) j := el_kp s1.1 r19 cr_0_90 (by decide)
  have hE_0_90_2 : ∀ j : Int, w_ei w1 (w_ar ws (n_v vs 0) 90) j = w_ei w2 (w_ar ws (n_v vs 0) 90) j := el_kp s2.1 r19 cr_0_90 (by decide)
  have hE_0_93_1 : ∀ j : Int, 0 ≤ j → (j = v_iv (n_v vs 10) → w_ei ws (w_ar ws (n_v vs 0) 93) j = v_iv (n_v vs 26)) ∧ (j ≠ v_iv (n_v vs 10) → w_ei ws (w_ar ws (n_v vs 0) 93) j = w_ei w1 (w_ar ws (n_v vs 0) 93) j) := fun j hj => ⟨fun h => by unfold w_ei; rw [s1.1, if_pos ⟨ad_19.symm, by rw [h]⟩], fun h => by unfold w_ei; rw [s1.1, if_neg (fun e => h (by have := e.2; omega))]⟩
  have hE_0_93_2 : ∀ j : Int, 0 ≤ j → (j = v_iv (n_v vs 8) → w_ei w1 (w_ar ws (n_v vs 0) 93) j = v_iv (n_v vs 23)) ∧ (j ≠ v_iv (n_v vs 8) → w_ei w1 (w_ar ws (n_v vs 0) 93) j = w_ei w2 (w_ar ws (n_v vs 0) 93) j) := fun j hj => ⟨fun h => by unfold w_ei; rw [s2.1, if_pos ⟨ad_19.symm, by rw [h]⟩], fun h => by unfold w_ei; rw [s2.1, if_neg (fun e => h (by have := e.2; omega))]⟩
  have kz_0_79 := fdq_147 hD hth r0
  have kz_0_80 := fdq_131 hD hth r0
  have kz_0_81 := fdq_124 hD hth r0
  have nf0 : fc_1 PRD (20, [1, 27], [60, 3, 10, 413, 79, 80, 81, 90, 93, 82, 83, 84, 85, 86, 87, 88, 89]) ws (vs) := by
    refine ⟨nf_in hl rfl, sgq_1160 ?_⟩
    · show UPC (w_fi ws (n_v vs 1) 79) (w_fi ws (n_v vs 1) 80) (w_fi ws (n_v vs 1) 81) (w_ei ws (w_ar ws (n_v vs 1) 90)) (w_ei ws (w_ar ws (n_v vs 1) 93)) (w_ei ws (w_ar ws (n_v vs 1) 82)) (w_ei ws (w_ar ws (n_v vs 1) 83)) (w_ei ws (w_ar ws (n_v vs 1) 84)) (w_ei ws (w_ar ws (n_v vs 1) 85)) (w_ei ws (w_ar ws (n_v vs 1) 86)) (w_ei ws (w_ar ws (n_v vs 1) 87)) (w_ei ws (w_ar ws (n_v vs 1) 88)) (w_ei ws (w_ar ws (n_v vs 1) 89)) (v_iv (n_v vs 27))
      rw [q1]
      exact vc_Mo_up_14_0 (v_iv (n_v vs 5)) (v_iv (n_v vs 6)) (v_iv (n_v vs 8)) (v_iv (n_v vs 10)) (v_iv (n_v vs 12)) (v_iv (n_v vs 14)) (v_iv (n_v vs 15)) (v_iv (n_v vs 17)) (v_iv (n_v vs 18)) (v_iv (n_v vs 20)) (v_iv (n_v vs 22)) (v_iv (n_v vs 23)) (v_iv (n_v vs 24)) (v_iv (n_v vs 25)) (v_iv (n_v vs 26)) (v_iv (n_v vs 27)) (w_fi ws (n_v vs 0) 79) (w_fi ws (n_v vs 0) 80) (w_ei w1 (w_ar ws (n_v vs 0) 85)) (w_ei w1 (w_ar ws (n_v vs 0) 93)) (w_fi w1 (n_v vs 0) 79) (w_fi w1 (n_v vs 0) 80) (w_ei w2 (w_ar ws (n_v vs 0) 85)) (w_ei w2 (w_ar ws (n_v vs 0) 93)) (w_ei w2 (w_ar ws (n_v vs 0) 82)) (w_ei w2 (w_ar ws (n_v vs 0) 86)) (w_ei w2 (w_ar ws (n_v vs 0) 84)) (w_ei w2 (w_ar ws (n_v vs 0) 83)) (w_fi w2 (n_v vs 0) 80) (w_fi w2 (n_v vs 0) 79) (w_ei w2 (w_ar ws (n_v vs 0) 90)) (w_ei w2 (w_ar ws (n_v vs 0) 87)) (w_ei w2 (w_ar ws (n_v vs 0) 88)) (w_ei w2 (w_ar ws (n_v vs 0) 89)) (w_fi w2 (n_v vs 0) 81) (w_fi ws (n_v vs 0) 81) (w_fi w1 (n_v vs 0) 81) (w_ei ws (w_ar ws (n_v vs 0) 82)) (w_ei w1 (w_ar ws (n_v vs 0) 82)) (w_ei ws (w_ar ws (n_v vs 0) 83)) (w_ei w1 (w_ar ws (n_v vs 0) 83)) (w_ei ws (w_ar ws (n_v vs 0) 84)) (w_ei w1 (w_ar ws (n_v vs 0) 84)) (w_ei ws (w_ar ws (n_v vs 0) 85)) (w_ei ws (w_ar ws (n_v vs 0) 86)) (w_ei w1 (w_ar ws (n_v vs 0) 86)) (w_ei ws (w_ar ws (n_v vs 0) 87)) (w_ei w1 (w_ar ws (n_v vs 0) 87)) (w_ei ws (w_ar ws (n_v vs 0) 88)) (w_ei w1 (w_ar ws (n_v vs 0) 88)) (w_ei ws (w_ar ws (n_v vs 0) 89)) (w_ei w1 (w_ar ws (n_v vs 0) 89)) (w_ei ws (w_ar ws (n_v vs 0) 90)) (w_ei w1 (w_ar ws (n_v vs 0) 90)) (w_ei ws (w_ar ws (n_v vs 0) 93)) k5 k6 k8 k10 k12 k17 k18 k20 k22 k23 k24 k25 k26 k27 d0 d1 d7 f0 f7 h8 h10 f17 h18 h19 f20 h21 h23 f27 h28 h30 h32 g35 f39 fe_0_79_1 fe_0_80_1 fe_0_81_1 fe_0_79_2 fe_0_80_2 fe_0_81_2 hE_0_82_1 hE_0_82_2 hE_0_83_1 hE_0_83_2 hE_0_84_1 hE_0_84_2 hE_0_85_1 hE_0_85_2 hE_0_86_1 hE_0_86_2 hE_0_87_1 hE_0_87_2 hE_0_88_1 hE_0_88_2 hE_0_89_1 hE_0_89_2 hE_0_90_1 hE_0_90_2 hE_0_93_1 hE_0_93_2 kz_0_79 kz_0_80 kz_0_81
  have nf1 : fc_1 PRD (20, [27, 1], [50, 1, 0, 1080, 0, 2, 1, 0, 2, 1, 80]) ws (vs) := by
    refine ⟨nf_in hl rfl, sgq_1161 ?_⟩
    · show v_iv (n_v vs 27) ≤ w_fi ws (n_v vs 1) 80
      rw [q1]
      exact vc_Mo_up_14_1 (v_iv (n_v vs 5)) (v_iv (n_v vs 6)) (v_iv (n_v vs 27)) (w_fi ws (n_v vs 0) 79) (w_fi ws (n_v vs 0) 80) (w_ei w1 (w_ar ws (n_v vs 0) 85)) (w_fi w1 (n_v vs 0) 79) (w_fi w1 (n_v vs 0) 80) (w_ei w2 (w_ar ws (n_v vs 0) 85)) (w_ei w2 (w_ar ws (n_v vs 0) 82)) (w_ei w2 (w_ar ws (n_v vs 0) 86)) (w_ei w2 (w_ar ws (n_v vs 0) 84)) (w_ei w2 (w_ar ws (n_v vs 0) 83)) (w_fi w2 (n_v vs 0) 80) (w_fi w2 (n_v vs 0) 79) (w_ei w2 (w_ar ws (n_v vs 0) 90)) (w_ei w2 (w_ar ws (n_v vs 0) 87)) (w_ei w2 (w_ar ws (n_v vs 0) 88)) (w_ei w2 (w_ar ws (n_v vs 0) 89)) (w_fi w2 (n_v vs 0) 81) (w_fi ws (n_v vs 0) 81) (w_fi w1 (n_v vs 0) 81) (w_ei ws (w_ar ws (n_v vs 0) 82)) (w_ei w1 (w_ar ws (n_v vs 0) 82)) (w_ei ws (w_ar ws (n_v vs 0) 83)) (w_ei w1 (w_ar ws (n_v vs 0) 83)) (w_ei ws (w_ar ws (n_v vs 0) 84)) (w_ei w1 (w_ar ws (n_v vs 0) 84)) (w_ei ws (w_ar ws (n_v vs 0) 85)) (w_ei ws (w_ar ws (n_v vs 0) 86)) (w_ei w1 (w_ar ws (n_v vs 0) 86)) (w_ei ws (w_ar ws (n_v vs 0) 87)) (w_ei w1 (w_ar ws (n_v vs 0) 87)) (w_ei ws (w_ar ws (n_v vs 0) 88)) (w_ei w1 (w_ar ws (n_v vs 0) 88)) (w_ei ws (w_ar ws (n_v vs 0) 89)) (w_ei w1 (w_ar ws (n_v vs 0) 89)) (w_ei ws (w_ar ws (n_v vs 0) 90)) (w_ei w1 (w_ar ws (n_v vs 0) 90)) k5 k6 k27 d0 d1 d7 g35 fe_0_79_1 fe_0_80_1 fe_0_81_1 fe_0_79_2 fe_0_80_2 fe_0_81_2 hE_0_82_1 hE_0_82_2 hE_0_83_1 hE_0_83_2 hE_0_84_1 hE_0_84_2 hE_0_85_1 hE_0_85_2 hE_0_86_1 hE_0_86_2 hE_0_87_1 hE_0_87_2 hE_0_88_1 hE_0_88_2 hE_0_89_1 hE_0_89_2 hE_0_90_1 hE_0_90_2 kz_0_79 kz_0_80 kz_0_81
  refine ⟨(fun _ h => (by cases h)), [], trivial, ?_, (fun _ h => (by cases h))⟩
  rw [List.append_nil]
  exact List.forall_mem_cons.mpr ⟨⟨show (20 : Nat) < 100 from by decide, nf0⟩, List.forall_mem_cons.mpr ⟨⟨show (20 : Nat) < 100 from by decide, nf1⟩, (fun _ h => (by cases h))⟩⟩
set_option maxHeartbeats 4000000 in
theorem vc_Mo_up_15_r0 (x5 : Int) (x6 : Int) (x8 : Int) (x18 : Int) (x20 : Int) (x21 : Int) (costW_0 : Int → Int) (goes_0 : Int → Int) (spot_0 : Int → Int) (costPlain_0 : Int → Int) (costB_0 : Int → Int) (costA_0 : Int → Int) (costMany_0 : Int) (pointMany_0 : Int) (flow_0 : Int → Int) (apartA_0 : Int → Int) (apartB_0 : Int → Int) (apart_0 : Int → Int) (apartMany_0 : Int) (k5 : 0 ≤ x5 ∧ x5 ≤ 199) (k6 : 1 ≤ x6 ∧ x6 ≤ 200) (k8 : 0 ≤ x8 ∧ x8 ≤ 75) (k18 : (-14400) ≤ x18 ∧ x18 ≤ 14400) (k20 : 0 ≤ x20 ∧ x20 ≤ 72) (k21 : (-14472) ≤ x21 ∧ x21 ≤ 14400) (d0 : x18 + (-72) ≤ x21 ∧ x21 ≤ x18 + 0) (d2 : x6 + (-4294967296) ≤ x5 ∧ x5 ≤ x6 + (-1)) (f0 : x21 = x18 - x20) (h1 : x20 = costW_0 (x5)) (h3 : x18 = goes_0 (x8)) (h14 : x8 = costA_0 (x5)) (g17 : x6 = costMany_0) (f21 : UPC (pointMany_0) (costMany_0) (apartMany_0) (flow_0) (goes_0) (spot_0) (costA_0) (costB_0) (costW_0) (costPlain_0) (apartA_0) (apartB_0) (apart_0) (x5)) (kz_0_79 : 0 ≤ pointMany_0 ∧ pointMany_0 ≤ 76) (kz_0_80 : 0 ≤ costMany_0 ∧ costMany_0 ≤ 200) (kz_0_81 : 0 ≤ apartMany_0 ∧ apartMany_0 ≤ 200) : (-14400) ≤ x21 ∧ x21 ≤ 14400 := by
  have h := upc_v1 (a := x8) ‹UPC _ _ _ _ _ _ _ _ _ _ _ _ _ _› (by omega) (by omega) (Or.inl (by assumption)) (by assumption) (by assumption)
  omega
def o_Mo_up_15 : or_T := (155, 22, [(0, (2, 0, 0, [165])), (1, (2, 0, 0, [165])), (2, (0, 2, 78, [])), (3, (0, 0, 76, [])), (4, (0, 1, 77, [])), (5, (0, 0, 199, [])), (6, (0, 1, 200, [])), (7, (2, 0, 0, [220])), (8, (0, 0, 75, [])), (9, (2, 0, 0, [221])), (10, (0, 0, 75, [])), (11, (2, 0, 0, [223])), (12, (0, 0, 0, [])), (13, (2, 0, 0, [219])), (14, (0, 0, 221099999, [])), (15, (0, 1, 221100000, [])), (17, (2, 0, 0, [230])), (18, (0, -14400, 14400, [])), (19, (2, 0, 0, [222])), (20, (0, 0, 72, [])), (21, (0, -14472, 14400, []))], [(2, [21, 18, 20], []), (10, [20, 19, 5], []), (9, [19, 1], [85]), (10, [18, 17, 8], []), (9, [17, 1], [93]), (7, [14, 15], [2]), (10, [15, 13, 10], []), (9, [13, 1], [82]), (10, [14, 13, 8], []), (8, [12], [0]), (10, [12, 11, 5], []), (9, [11, 1], [86]), (10, [10, 9, 5], []), (9, [9, 1], [84]), (10, [8, 7, 5], []), (9, [7, 1], [83]), (7, [5, 6], [2]), (9, [6, 1], [80]), (20, [2, 1], [50, 1, 0, 1079, 1, 2, 1, 0, 4, 3, 2, 1, 79, 0, 2]), (20, [3, 1], [50, 1, 0, 1079, 1, 2, 1, 0, 2, 1, 79]), (20, [4, 1], [50, 1, 0, 1079, 1, 2, 1, 0, 4, 3, 2, 1, 79, 0, 1]), (20, [1, 5], [60, 3, 10, 413, 79, 80, 81, 90, 93, 82, 83, 84, 85, 86, 87, 88, 89]), (20, [5, 1], [50, 1, 0, 1080, 0, 2, 1, 0, 2, 1, 80]), (24, [0, 1], [])], [(21, (0, -14400, 14400, []))], [], [], [], [(21, 18, -72, 0), (14, 15, -4294967296, -1), (5, 6, -4294967296, -1), (2, 3, -4294967296, 2), (2, 4, -4294967296, 1), (3, 2, -4294967296, -2), (3, 4, -4294967296, -1), (4, 2, -4294967296, -1), (4, 3, -4294967296, 1)])
theorem oo_Mo_up_15 {kA : Nat → ClassId} : or_ok PRD kA GG o_Mo_up_15 := by
  refine or_mk fun A ta ws vs hD hth hl => ?_
  intro t0 r0 t1 r1 t2 k2 t3 k3 t4 k4 t5 k5 t6 k6 t7 r7 t8 k8 t9 r9 t10 k10 t11 r11 t12 k12 t13 r13 t14 k14 t15 k15 t17 r17 t18 k18 t19 r19 t20 k20 t21 k21 d0 d1 d2 d3 d4 d5 d6 d7 d8 f0 f1 f2 f3 f4 f5 f6 f7 f8 f9 f10 f11 f12 f13 f14 f15 f16 f17 f18 f19 f20 f21 f22 f23
  replace f1 := shm_107 f1
  replace f2 := shm_561 f2
  replace f3 := shm_107 f3
  replace f4 := shm_1162 f4
  replace f14 := shm_107 f14
  replace f15 := shm_556 f15
  replace f17 := shm_555 f17
  replace f21 := shm_1160 f21
  replace f23 := shm_5 f23
  have q1 : n_v vs 1 = n_v vs 0 := f23.symm
  simp only [q1] at f2 f4 f15 f17 f21
  have ad_19 : v_ad (n_v vs 19) = w_ar ws (n_v vs 0) 85 := congrArg v_ad f2
  have ad_17 : v_ad (n_v vs 17) = w_ar ws (n_v vs 0) 93 := congrArg v_ad f4
  have ad_7 : v_ad (n_v vs 7) = w_ar ws (n_v vs 0) 83 := congrArg v_ad f15
  simp only [ad_19] at f1
  have h1 : v_iv (n_v vs 20) = w_ei ws (w_ar ws (n_v vs 0) 85) (v_iv (n_v vs 5)) := f1
  simp only [ad_17] at f3
  have h3 : v_iv (n_v vs 18) = w_ei ws (w_ar ws (n_v vs 0) 93) (v_iv (n_v vs 8)) := f3
  simp only [ad_7] at f14
  have h14 : v_iv (n_v vs 8) = w_ei ws (w_ar ws (n_v vs 0) 83) (v_iv (n_v vs 5)) := f14
  have g17 : v_iv (n_v vs 6) = w_fi ws (n_v vs 0) 80 := congrArg v_iv f17
  have kz_0_79 := fdq_147 hD hth r0
  have kz_0_80 := fdq_131 hD hth r0
  have kz_0_81 := fdq_124 hD hth r0
  have hrf0 : (-14400) ≤ v_iv (n_v vs 21) ∧ v_iv (n_v vs 21) ≤ 14400 := vc_Mo_up_15_r0 (v_iv (n_v vs 5)) (v_iv (n_v vs 6)) (v_iv (n_v vs 8)) (v_iv (n_v vs 18)) (v_iv (n_v vs 20)) (v_iv (n_v vs 21)) (w_ei ws (w_ar ws (n_v vs 0) 85)) (w_ei ws (w_ar ws (n_v vs 0) 93)) (w_ei ws (w_ar ws (n_v vs 0) 82)) (w_ei ws (w_ar ws (n_v vs 0) 86)) (w_ei ws (w_ar ws (n_v vs 0) 84)) (w_ei ws (w_ar ws (n_v vs 0) 83)) (w_fi ws (n_v vs 0) 80) (w_fi ws (n_v vs 0) 79) (w_ei ws (w_ar ws (n_v vs 0) 90)) (w_ei ws (w_ar ws (n_v vs 0) 87)) (w_ei ws (w_ar ws (n_v vs 0) 88)) (w_ei ws (w_ar ws (n_v vs 0) 89)) (w_fi ws (n_v vs 0) 81) k5 k6 k8 k18 k20 k21 d0 d2 (shm_14 f0) h1 h3 h14 g17 f21 kz_0_79 kz_0_80 kz_0_81
  have rf21 : tv_ok ta (0, -14400, 14400, []) (n_v vs 21) := tv_in t21 (by first | omega | grind) (by first | omega | grind)
  refine ⟨List.forall_mem_cons.mpr ⟨rf21, (fun _ h => (by cases h))⟩, [], trivial, ?_, (fun _ h => (by cases h))⟩
  rw [List.append_nil]
  exact (fun _ h => (by cases h))
set_option maxHeartbeats 4000000 in
theorem vc_Mo_up_16_r0 (x5 : Int) (x6 : Int) (x8 : Int) (x10 : Int) (x15 : Int) (x18 : Int) (x20 : Int) (x21 : Int) (x22 : Int) (x23 : Int) (x24 : Int) (costW_0 : Int → Int) (goes_0 : Int → Int) (pointMany_0 : Int) (costMany_0 : Int) (costW_1 : Int → Int) (goes_1 : Int → Int) (spot_1 : Int → Int) (costPlain_1 : Int → Int) (costB_1 : Int → Int) (costA_1 : Int → Int) (costMany_1 : Int) (pointMany_1 : Int) (flow_1 : Int → Int) (apartA_1 : Int → Int) (apartB_1 : Int → Int) (apart_1 : Int → Int) (apartMany_1 : Int) (apartMany_0 : Int) (spot_0 : Int → Int) (costA_0 : Int → Int) (costB_0 : Int → Int) (costPlain_0 : Int → Int) (apartA_0 : Int → Int) (apartB_0 : Int → Int) (apart_0 : Int → Int) (flow_0 : Int → Int) (k5 : 0 ≤ x5 ∧ x5 ≤ 199) (k6 : 1 ≤ x6 ∧ x6 ≤ 200) (k8 : 0 ≤ x8 ∧ x8 ≤ 75) (k10 : 0 ≤ x10 ∧ x10 ≤ 75) (k18 : (-14400) ≤ x18 ∧ x18 ≤ 14400) (k20 : 0 ≤ x20 ∧ x20 ≤ 72) (k21 : (-14400) ≤ x21 ∧ x21 ≤ 14400) (k22 : (-14400) ≤ x22 ∧ x22 ≤ 14400) (k23 : 0 ≤ x23 ∧ x23 ≤ 72) (k24 : (-14400) ≤ x24 ∧ x24 ≤ 14472) (d4 : x6 + (-4294967296) ≤ x5 ∧ x5 ≤ x6 + (-1)) (f0 : x24 = x22 + x23) (h1 : x23 = costW_0 (x5)) (h3 : x22 = goes_0 (x10)) (f11 : x21 = x18 - x20) (h12 : x20 = costW_1 (x5)) (h13 : x18 = goes_1 (x8)) (h21 : x10 = costB_1 (x5)) (h23 : x8 = costA_1 (x5)) (g26 : x6 = costMany_1) (f30 : UPC (pointMany_1) (costMany_1) (apartMany_1) (flow_1) (goes_1) (spot_1) (costA_1) (costB_1) (costW_1) (costPlain_1) (apartA_1) (apartB_1) (apart_1) (x5)) (fe_0_79_1 : pointMany_0 = pointMany_1) (fe_0_80_1 : costMany_0 = costMany_1) (fe_0_81_1 : apartMany_0 = apartMany_1) (hE_0_82_1 : ∀ j : Int, spot_0 j = spot_1 j) (hE_0_83_1 : ∀ j : Int, costA_0 j = costA_1 j) (hE_0_84_1 : ∀ j : Int, costB_0 j = costB_1 j) (hE_0_85_1 : ∀ j : Int, costW_0 j = costW_1 j) (hE_0_86_1 : ∀ j : Int, costPlain_0 j = costPlain_1 j) (hE_0_87_1 : ∀ j : Int, apartA_0 j = apartA_1 j) (hE_0_88_1 : ∀ j : Int, apartB_0 j = apartB_1 j) (hE_0_89_1 : ∀ j : Int, apart_0 j = apart_1 j) (hE_0_90_1 : ∀ j : Int, flow_0 j = flow_1 j) (hE_0_93_1 : ∀ j : Int, 0 ≤ j → (j = x8 → goes_0 j = x21) ∧ (j ≠ x8 → goes_0 j = goes_1 j)) (kz_0_79 : 0 ≤ pointMany_0 ∧ pointMany_0 ≤ 76) (kz_0_80 : 0 ≤ costMany_0 ∧ costMany_0 ≤ 200) (kz_0_81 : 0 ≤ apartMany_0 ∧ apartMany_0 ≤ 200) : (-14400) ≤ x24 ∧ x24 ≤ 14400 := by
  subst fe_0_79_1
  subst fe_0_80_1
  subst fe_0_81_1
  have e_hE_0_82_1 := funext hE_0_82_1; subst e_hE_0_82_1
  have e_hE_0_83_1 := funext hE_0_83_1; subst e_hE_0_83_1
  have e_hE_0_84_1 := funext hE_0_84_1; subst e_hE_0_84_1
  have e_hE_0_85_1 := funext hE_0_85_1; subst e_hE_0_85_1
  have e_hE_0_86_1 := funext hE_0_86_1; subst e_hE_0_86_1
  have e_hE_0_87_1 := funext hE_0_87_1; subst e_hE_0_87_1
  have e_hE_0_88_1 := funext hE_0_88_1; subst e_hE_0_88_1
  have e_hE_0_89_1 := funext hE_0_89_1; subst e_hE_0_89_1
  have e_hE_0_90_1 := funext hE_0_90_1; subst e_hE_0_90_1
  first
    | (have h := upc_v2 (a := x8) (b := x10) (w := x17) (w2 := x20) (o := x15) (o2 := x19) (v1 := x18) 1 ‹UPC _ _ _ _ _ _ _ _ _ _ _ _ _ _› (by omega) (by omega) (by assumption) (by assumption) (by assumption) (by assumption) (by assumption) (Or.inl rfl) (by omega) (by assumption) (by assumption); omega)
    | (have h := upc_v2 (a := x8) (b := x10) (w := x20) (w2 := x23) (o := x18) (o2 := x22) (v1 := x21) 1 ‹UPC _ _ _ _ _ _ _ _ _ _ _ _ _ _› (by omega) (by omega) (by assumption) (by assumption) (by assumption) (by assumption) (by assumption) (Or.inl rfl) (by omega) (by assumption) (by assumption); omega)
def o_Mo_up_16 : or_T := (172, 25, [(0, (2, 0, 0, [165])), (1, (2, 0, 0, [165])), (2, (0, 2, 78, [])), (3, (0, 0, 76, [])), (4, (0, 1, 77, [])), (5, (0, 0, 199, [])), (6, (0, 1, 200, [])), (7, (2, 0, 0, [220])), (8, (0, 0, 75, [])), (9, (2, 0, 0, [221])), (10, (0, 0, 75, [])), (11, (2, 0, 0, [223])), (12, (0, 0, 0, [])), (13, (2, 0, 0, [219])), (14, (0, 0, 221099999, [])), (15, (0, 1, 221100000, [])), (17, (2, 0, 0, [230])), (18, (0, -14400, 14400, [])), (19, (2, 0, 0, [222])), (20, (0, 0, 72, [])), (21, (0, -14400, 14400, [])), (22, (0, -14400, 14400, [])), (23, (0, 0, 72, [])), (24, (0, -14400, 14472, []))], [(1, [24, 22, 23], []), (10, [23, 19, 5], []), (9, [19, 1], [85]), (10, [22, 17, 10], []), (9, [17, 1], [93]), (20, [2, 1], [50, 1, 0, 1079, 1, 2, 1, 0, 4, 3, 2, 1, 79, 0, 2]), (20, [3, 1], [50, 1, 0, 1079, 1, 2, 1, 0, 2, 1, 79]), (20, [4, 1], [50, 1, 0, 1079, 1, 2, 1, 0, 4, 3, 2, 1, 79, 0, 1]), (20, [5, 1], [50, 1, 0, 1080, 0, 2, 1, 0, 2, 1, 80]), (24, [0, 1], []), (100, [17, 8, 21], []), (2, [21, 18, 20], []), (10, [20, 19, 5], []), (10, [18, 17, 8], []), (7, [14, 15], [2]), (10, [15, 13, 10], []), (9, [13, 1], [82]), (10, [14, 13, 8], []), (8, [12], [0]), (10, [12, 11, 5], []), (9, [11, 1], [86]), (10, [10, 9, 5], []), (9, [9, 1], [84]), (10, [8, 7, 5], []), (9, [7, 1], [83]), (7, [5, 6], [2]), (9, [6, 1], [80]), (20, [2, 1], [50, 1, 0, 1079, 1, 2, 1, 0, 4, 3, 2, 1, 79, 0, 2]), (20, [3, 1], [50, 1, 0, 1079, 1, 2, 1, 0, 2, 1, 79]), (20, [4, 1], [50, 1, 0, 1079, 1, 2, 1, 0, 4, 3, 2, 1, 79, 0, 1]), (20, [1, 5], [60, 3, 10, 413, 79, 80, 81, 90, 93, 82, 83, 84, 85, 86, 87, 88, 89]), (20, [5, 1], [50, 1, 0, 1080, 0, 2, 1, 0, 2, 1, 80])], [(24, (0, -14400, 14400, []))], [], [], [], [(24, 23, -14400, 14400), (24, 22, 0, 72), (21, 18, -72, 0), (14, 15, -4294967296, -1), (5, 6, -4294967296, -1), (2, 3, -4294967296, 2), (2, 4, -4294967296, 1), (3, 2, -4294967296, -2), (3, 4, -4294967296, -1), (4, 2, -4294967296, -1), (4, 3, -4294967296, 1)])
theorem oo_Mo_up_16 {kA : Nat → ClassId} : or_ok PRD kA GG o_Mo_up_16 := by
  refine or_mk fun A ta ws vs hD hth hl => ?_
  intro t0 r0 t1 r1 t2 k2 t3 k3 t4 k4 t5 k5 t6 k6 t7 r7 t8 k8 t9 r9 t10 k10 t11 r11 t12 k12 t13 r13 t14 k14 t15 k15 t17 r17 t18 k18 t19 r19 t20 k20 t21 k21 t22 k22 t23 k23 t24 k24 d0 d1 d2 d3 d4 d5 d6 d7 d8 d9 d10 f0 f1 f2 f3 f4 f5 f6 f7 f8 f9 ta1 w1 le1 s1 f11 f12 f13 f14 f15 f16 f17 f18 f19 f20 f21 f22 f23 f24 f25 f26 f27 f28 f29 f30 f31
  replace f1 := shm_107 f1
  replace f2 := shm_561 f2
  replace f3 := shm_107 f3
  replace f4 := shm_1162 f4
  replace f9 := shm_5 f9
  have s1 : (∀ b j, w_el ws b j = if b = v_ad (n_v vs 17) ∧ j = (v_iv (n_v vs 8)).toNat then v_iv (n_v vs 21) else w_el w1 b j) ∧ ∀ b k, w_fd ws b k = w_fd w1 b k := s1.2
  replace f12 := shm_107 f12
  replace f13 := shm_107 f13
  replace f21 := shm_107 f21
  replace f22 := shm_562 f22
  replace f23 := shm_107 f23
  replace f24 := shm_556 f24
  replace f26 := shm_555 f26
  replace f30 := shm_1160 f30
  have q1 : n_v vs 1 = n_v vs 0 := f9.symm
  simp only [q1] at f2 f4 f22 f24 f26 f30
  have ar_0_82_1 : w_ar w1 (n_v vs 0) 82 = w_ar ws (n_v vs 0) 82 := congrArg v_ad (s1.2 _ _).symm
  have cr_0_82 := fdq_230 hD hth r0
  have ar_0_83_1 : w_ar w1 (n_v vs 0) 83 = w_ar ws (n_v vs 0) 83 := congrArg v_ad (s1.2 _ _).symm
  have cr_0_83 := fdq_126 hD hth r0
  have ar_0_84_1 : w_ar w1 (n_v vs 0) 84 = w_ar ws (n_v vs 0) 84 := congrArg v_ad (s1.2 _ _).symm
  have cr_0_84 := fdq_127 hD hth r0
  have ar_0_85_1 : w_ar w1 (n_v vs 0) 85 = w_ar ws (n_v vs 0) 85 := congrArg v_ad (s1.2 _ _).symm
  have cr_0_85 := fdq_128 hD hth r0
  have ar_0_86_1 : w_ar w1 (n_v vs 0) 86 = w_ar ws (n_v vs 0) 86 := congrArg v_ad (s1.2 _ _).symm
  have cr_0_86 := fdq_129 hD hth r0
  have ar_0_87_1 : w_ar w1 (n_v vs 0) 87 = w_ar ws (n_v vs 0) 87 := congrArg v_ad (s1.2 _ _).symm
  have cr_0_87 := fdq_119 hD hth r0
  have ar_0_88_1 : w_ar w1 (n_v vs 0) 88 = w_ar ws (n_v vs 0) 88 := congrArg v_ad (s1.2 _ _).symm
  have cr_0_88 := fdq_120 hD hth r0
  have ar_0_89_1 : w_ar w1 (n_v vs 0) 89 = w_ar ws (n_v vs 0) 89 := congrArg v_ad (s1.2 _ _).symm
  have cr_0_89 := fdq_121 hD hth r0
  have ar_0_90_1 : w_ar w1 (n_v vs 0) 90 = w_ar ws (n_v vs 0) 90 := congrArg v_ad (s1.2 _ _).symm
  have cr_0_90 := fdq_231 hD hth r0
  have ar_0_93_1 : w_ar w1 (n_v vs 0) 93 = w_ar ws (n_v vs 0) 93 := congrArg v_ad (s1.2 _ _).symm
  have ad_19 : v_ad (n_v vs 19) = w_ar ws (n_v vs 0) 85 := congrArg v_ad f2
  have ad_17 : v_ad (n_v vs 17) = w_ar ws (n_v vs 0) 93 := congrArg v_ad f4
  have ad_9 : v_ad (n_v vs 9) = w_ar ws (n_v vs 0) 84 := (congrArg v_ad f22).trans ar_0_84_1
  have ad_7 : v_ad (n_v vs 7) = w_ar ws (n_v vs 0) 83 := (congrArg v_ad f24).trans ar_0_83_1
  simp only [ad_19] at f1
  have h1 : v_iv (n_v vs 23) = w_ei ws (w_ar ws (n_v vs 0) 85) (v_iv (n_v vs 5)) := f1
  simp only [ad_17] at f3
  have h3 : v_iv (n_v vs 22) = w_ei ws (w_ar ws (n_v vs 0) 93) (v_iv (n_v vs 10)) := f3
  simp only [ad_19] at f12
  have h12 : v_iv (n_v vs 20) = w_ei w1 (w_ar ws (n_v vs 0) 85) (v_iv (n_v vs 5)) := f12
  simp only [ad_17] at f13
  have h13 : v_iv (n_v vs 18) = w_ei w1 (w_ar ws (n_v vs 0) 93) (v_iv (n_v vs 8)) := f13
  simp only [ad_9] at f21
  have h21 : v_iv (n_v vs 10) = w_ei w1 (w_ar ws (n_v vs 0) 84) (v_iv (n_v vs 5)) := f21
  simp only [ad_7] at f23
  have h23 : v_iv (n_v vs 8) = w_ei w1 (w_ar ws (n_v vs 0) 83) (v_iv (n_v vs 5)) := f23
  have g26 : v_iv (n_v vs 6) = w_fi w1 (n_v vs 0) 80 := congrArg v_iv f26
  simp only [ar_0_82_1, ar_0_83_1, ar_0_84_1, ar_0_85_1, ar_0_86_1, ar_0_87_1, ar_0_88_1, ar_0_89_1, ar_0_90_1, ar_0_93_1] at f30
  have fe_0_79_1 : w_fi ws (n_v vs 0) 79 = w_fi w1 (n_v vs 0) 79 := congrArg v_iv (s1.2 _ _)
  have fe_0_80_1 : w_fi ws (n_v vs 0) 80 = w_fi w1 (n_v vs 0) 80 := congrArg v_iv (s1.2 _ _)
  have fe_0_81_1 : w_fi ws (n_v vs 0) 81 = w_fi w1 (n_v vs 0) 81 := congrArg v_iv (s1.2 _ _)
  have hE_0_82_1 : ∀ j : Int, w_ei ws (w_ar ws (n_v vs 0) 82) j = w_ei w1 (w_ar ws (n_v vs 0) 82) j := el_kp s1.1 r17 cr_0_82 (by decide)
  have hE_0_83_1 : ∀ j : Int, w_ei ws (w_ar ws (n_v vs 0) 83) j = w_ei w1 (w_ar ws (n_v vs 0) 83) j := el_kp s1.1 r17 cr_0_83 (by decide)
  have hE_0_84_1 : ∀ j : Int, w_ei ws (w_ar ws (n_v vs 0) 84) j = w_ei w1 (w_ar ws (n_v vs 0) 84) j := el_kp s1.1 r17 cr_0_84 (by decide)
  have hE_0_85_1 : ∀ j : Int, w_ei ws (w_ar ws (n_v vs 0) 85) j = w_ei w1 (w_ar ws (n_v vs 0) 85) j := el_kp s1.1 r17 cr_0_85 (by decide)
  have hE_0_86_1 : ∀ j : Int, w_ei ws (w_ar ws (n_v vs 0) 86) j = w_ei w1 (w_ar ws (n_v vs 0) 86) j := el_kp s1.1 r17 cr_0_86 (by decide)
  have hE_0_87_1 : ∀ j : Int, w_ei ws (w_ar ws (n_v vs 0) 87) j = w_ei w1 (w_ar ws (n_v vs 0) 87) j := el_kp s1.1 r17 cr_0_87 (by decide)
  have hE_0_88_1 : ∀ j : Int, w_ei ws (w_ar ws (n_v vs 0) 88) j = w_ei w1 (w_ar ws (n_v vs 0) 88) j := el_kp s1.1 r17 cr_0_88 (by decide)
  have hE_0_89_1 : ∀ j : Int, w_ei ws (w_ar ws (n_v vs 0) 89) j = w_ei w1 (w_ar ws (n_v vs 0) 89) j := el_kp s1.1 r17 cr_0_89 (by decide)
  have hE_0_90_1 : ∀ j : Int, w_ei ws (w_ar ws (n_v vs 0) 90) j = w_ei w1 (w_ar ws (n_v vs 0) 90) j := el_kp s1.1 r17 cr_0_90 (by decide)
  have hE_0_93_1 : ∀ j : Int, 0 ≤ j → (j = v_iv (n_v vs 8) → w_ei ws (w_ar ws (n_v vs 0) 93) j = v_iv (n_v vs 21)) ∧ (j ≠ v_iv (n_v vs 8) → w_ei ws (w_ar ws (n_v vs 0) 93) j = w_ei w1 (w_ar ws (n_v vs 0) 93) j) := fun j hj => ⟨fun h => by unfold w_ei; rw [s1.1, if_pos ⟨ad_17.symm, by rw [h]⟩], fun h => by unfold w_ei; rw [s1.1, if_neg (fun e => h (by have := e.2; omega))]⟩
  have kz_0_79 := fdq_147 hD hth r0
  have kz_0_80 := fdq_131 hD hth r0
  have kz_0_81 := fdq_124 hD hth r0
  have hrf0 : (-14400) ≤ v_iv (n_v vs 24) ∧ v_iv (n_v vs 24) ≤ 14400 := vc_Mo_up_16_r0 (v_iv (n_v vs 5)) (v_iv (n_v vs 6)) (v_iv (n_v vs 8)) (v_iv (n_v vs 10)) (v_iv (n_v vs 15)) (v_iv (n_v vs 18)) (v_iv (n_v vs 20)) (v_iv (n_v vs 21)) (v_iv (n_v vs 22)) (v_iv (n_v vs 23)) (v_iv (n_v vs 24)) (w_ei ws (w_ar ws (n_v vs 0) 85)) (w_ei ws (w_ar ws (n_v vs 0) 93)) (w_fi ws (n_v vs 0) 79) (w_fi ws (n_v vs 0) 80) (w_ei w1 (w_ar ws (n_v vs 0) 85)) (w_ei w1 (w_ar ws (n_v vs 0) 93)) (w_ei w1 (w_ar ws (n_v vs 0) 82)) (w_ei w1 (w_ar ws (n_v vs 0) 86)) (w_ei w1 (w_ar ws (n_v vs 0) 84)) (w_ei w1 (w_ar ws (n_v vs 0) 83)) (w_fi w1 (n_v vs 0) 80) (w_fi w1 (n_v vs 0) 79) (w_ei w1 (w_ar ws (n_v vs 0) 90)) (w_ei w1 (w_ar ws (n_v vs 0) 87)) (w_ei w1 (w_ar ws (n_v vs 0) 88)) (w_ei w1 (w_ar ws (n_v vs 0) 89)) (w_fi w1 (n_v vs 0) 81) (w_fi ws (n_v vs 0) 81) (w_ei ws (w_ar ws (n_v vs 0) 82)) (w_ei ws (w_ar ws (n_v vs 0) 83)) (w_ei ws (w_ar ws (n_v vs 0) 84)) (w_ei ws (w_ar ws (n_v vs 0) 86)) (w_ei ws (w_ar ws (n_v vs 0) 87)) (w_ei ws (w_ar ws (n_v vs 0) 88)) (w_ei ws (w_ar ws (n_v vs 0) 89)) (w_ei ws (w_ar ws (n_v vs 0) 90)) k5 k6 k8 k10 k18 k20 k21 k22 k23 k24 d4 (shm_12 f0) h1 h3 (shm_14 f11) h12 h13 h21 h23 g26 f30 fe_0_79_1 fe_0_80_1 fe_0_81_1 hE_0_82_1 hE_0_83_1 hE_0_84_1 hE_0_85_1 hE_0_86_1 hE_0_87_1 hE_0_88_1 hE_0_89_1 hE_0_90_1 hE_0_93_1 kz_0_79 kz_0_80 kz_0_81
  have rf24 : tv_ok ta (0, -14400, 14400, []) (n_v vs 24) := tv_in t24 (by first | omega | grind) (by first | omega | grind)
  refine ⟨List.forall_mem_cons.mpr ⟨rf24, (fun _ h => (by cases h))⟩, [], trivial, ?_, (fun _ h => (by cases h))⟩
  rw [List.append_nil]
  exact (fun _ h => (by cases h))

set_option maxHeartbeats 4000000 in
theorem vc_Mo_up_17_0 (x5 : Int) (x6 : Int) (x8 : Int) (x10 : Int) (x12 : Int) (x14 : Int) (x15 : Int) (x18 : Int) (x20 : Int) (x21 : Int) (x22 : Int) (x23 : Int) (x24 : Int) (x25 : Int) (pointMany_0 : Int) (costMany_0 : Int) (costW_1 : Int → Int) (goes_1 : Int → Int) (pointMany_1 : Int) (costMany_1 : Int) (costW_2 : Int → Int) (goes_2 : Int → Int) (spot_2 : Int → Int) (costPlain_2 : Int → Int) (costB_2 : Int → Int) (costA_2 : Int → Int) (costMany_2 : Int) (pointMany_2 : Int) (flow_2 : Int → Int) (apartA_2 : Int → Int) (apartB_2 : Int → Int) (apart_2 : Int → Int) (apartMany_2 : Int) (apartMany_0 : Int) (apartMany_1 : Int) (spot_0 : Int → Int) (spot_1 : Int → Int) (costA_0 : Int → Int) (costA_1 : Int → Int) (costB_0 : Int → Int) (costB_1 : Int → Int) (costW_0 : Int → Int) (costPlain_0 : Int → Int) (costPlain_1 : Int → Int) (apartA_0 : Int → Int) (apartA_1 : Int → Int) (apartB_0 : Int → Int) (apartB_1 : Int → Int) (apart_0 : Int → Int) (apart_1 : Int → Int) (flow_0 : Int → Int) (flow_1 : Int → Int) (goes_0 : Int → Int) (k5 : 0 ≤ x5 ∧ x5 ≤ 199) (k6 : 1 ≤ x6 ∧ x6 ≤ 200) (k8 : 0 ≤ x8 ∧ x8 ≤ 75) (k10 : 0 ≤ x10 ∧ x10 ≤ 75) (k14 : 0 ≤ x14 ∧ x14 ≤ 221099999) (k15 : 1 ≤ x15 ∧ x15 ≤ 221100000) (k18 : (-14400) ≤ x18 ∧ x18 ≤ 14400) (k20 : 0 ≤ x20 ∧ x20 ≤ 72) (k21 : (-14400) ≤ x21 ∧ x21 ≤ 14400) (k22 : (-14400) ≤ x22 ∧ x22 ≤ 14400) (k23 : 0 ≤ x23 ∧ x23 ≤ 72) (k24 : (-14400) ≤ x24 ∧ x24 ≤ 14400) (k25 : 1 ≤ x25 ∧ x25 ≤ 200) (d0 : x5 + 1 ≤ x25 ∧ x25 ≤ x5 + 1) (d1 : x6 + (-4294967296) ≤ x25 ∧ x25 ≤ x6 + 0) (d6 : x6 + (-4294967296) ≤ x5 ∧ x5 ≤ x6 + (-1)) (f0 : x25 = x5 + 1) (f7 : x24 = x22 + x23) (h8 : x23 = costW_1 (x5)) (h10 : x22 = goes_1 (x10)) (f17 : x21 = x18 - x20) (h18 : x20 = costW_2 (x5)) (h19 : x18 = goes_2 (x8)) (f20 : x14 < x15) (h21 : x15 = spot_2 (x10)) (h23 : x14 = spot_2 (x8)) (h27 : x10 = costB_2 (x5)) (h29 : x8 = costA_2 (x5)) (g32 : x6 = costMany_2) (f36 : UPC (pointMany_2) (costMany_2) (apartMany_2) (flow_2) (goes_2) (spot_2) (costA_2) (costB_2) (costW_2) (costPlain_2) (apartA_2) (apartB_2) (apart_2) (x5)) (fe_0_79_1 : pointMany_0 = pointMany_1) (fe_0_80_1 : costMany_0 = costMany_1) (fe_0_81_1 : apartMany_0 = apartMany_1) (fe_0_79_2 : pointMany_1 = pointMany_2) (fe_0_80_2 : costMany_1 = costMany_2) (fe_0_81_2 : apartMany_1 = apartMany_2) (hE_0_82_1 : ∀ j : Int, spot_0 j = spot_1 j) (hE_0_82_2 : ∀ j : Int, spot_1 j = spot_2 j) (hE_0_83_1 : ∀ j : Int, costA_0 j = costA_1 j) (hE_0_83_2 : ∀ j : Int, costA_1 j = costA_2 j) (hE_0_84_1 : ∀ j : Int, costB_0 j = costB_1 j) (hE_0_84_2 : ∀ j : Int, costB_1 j = costB_2 j) (hE_0_85_1 : ∀ j : Int, costW_0 j = costW_1 j) (hE_0_85_2 : ∀ j : Int, costW_1 j = costW_2 j) (hE_0_86_1 : ∀ j : Int, costPlain_0 j = costPlain_1 j) (hE_0_86_2 : ∀ j : Int, costPlain_1 j = costPlain_2 j) (hE_0_87_1 : ∀ j : Int, apartA_0 j = apartA_1 j) (hE_0_87_2 : ∀ j : Int, apartA_1 j = apartA_2 j) (hE_0_88_1 : ∀ j : Int, apartB_0 j = apartB_1 j) (hE_0_88_2 : ∀ j : Int, apartB_1 j = apartB_2 j) (hE_0_89_1 : ∀ j : Int, apart_0 j = apart_1 j) (hE_0_89_2 : ∀ j : Int, apart_1 j = apart_2 j) (hE_0_90_1 : ∀ j : Int, flow_0 j = flow_1 j) (hE_0_90_2 : ∀ j : Int, flow_1 j = flow_2 j) (hE_0_93_1 : ∀ j : Int, 0 ≤ j → (j = x10 → goes_0 j = x24) ∧ (j ≠ x10 → goes_0 j = goes_1 j)) (hE_0_93_2 : ∀ j : Int, 0 ≤ j → (j = x8 → goes_1 j = x21) ∧ (j ≠ x8 → goes_1 j = goes_2 j)) (kz_0_79 : 0 ≤ pointMany_0 ∧ pointMany_0 ≤ 76) (kz_0_80 : 0 ≤ costMany_0 ∧ costMany_0 ≤ 200) (kz_0_81 : 0 ≤ apartMany_0 ∧ apartMany_0 ≤ 200) : UPC (pointMany_0) (costMany_0) (apartMany_0) (flow_0) (goes_0) (spot_0) (costA_0) (costB_0) (costW_0) (costPlain_0) (apartA_0) (apartB_0) (apart_0) (x25) := by
  subst fe_0_79_1
  subst fe_0_80_1
  subst fe_0_81_1
  subst fe_0_79_2
  subst fe_0_80_2
  subst fe_0_81_2
  have e_hE_0_82_1 := funext hE_0_82_1; subst e_hE_0_82_1
  have e_hE_0_82_2 := funext hE_0_82_2; subst e_hE_0_82_2
  have e_hE_0_83_1 := funext hE_0_83_1; subst e_hE_0_83_1
  have e_hE_0_83_2 := funext hE_0_83_2; subst e_hE_0_83_2
  have e_hE_0_84_1 := funext hE_0_84_1; subst e_hE_0_84_1
  have e_hE_0_84_2 := funext hE_0_84_2; subst e_hE_0_84_2
  have e_hE_0_85_1 := funext hE_0_85_1; subst e_hE_0_85_1
  have e_hE_0_85_2 := funext hE_0_85_2; subst e_hE_0_85_2
  have e_hE_0_86_1 := funext hE_0_86_1; subst e_hE_0_86_1
  have e_hE_0_86_2 := funext hE_0_86_2; subst e_hE_0_86_2
  have e_hE_0_87_1 := funext hE_0_87_1; subst e_hE_0_87_1
  have e_hE_0_87_2 := funext hE_0_87_2; subst e_hE_0_87_2
  have e_hE_0_88_1 := funext hE_0_88_1; subst e_hE_0_88_1
  have e_hE_0_88_2 := funext hE_0_88_2; subst e_hE_0_88_2
  have e_hE_0_89_1 := funext hE_0_89_1; subst e_hE_0_89_1
  have e_hE_0_89_2 := funext hE_0_89_2; subst e_hE_0_89_2
  have e_hE_0_90_1 := funext hE_0_90_1; subst e_hE_0_90_1
  have e_hE_0_90_2 := funext hE_0_90_2; subst e_hE_0_90_2
  first
    | exact upc_start ‹PBK _ _ _ _ _ _ _ _ _ _› ‹UZN _ _› (Int.le_refl _) ‹UZG _ _›.1 (by omega) (by omega)
    | exact upc_goP1 (a := x8) (b := x10) (w := x17) (w2 := x20) (pl := x12) (o1 := x15) (o2 := x19) ‹UPC _ _ _ _ _ _ _ _ _ _ _ _ _ _› (by omega) (by omega) (by assumption) (by assumption) (by assumption) (by assumption) (by assumption) (by assumption) (by omega) (by assumption) (by assumption) (by assumption) (by assumption) (by assumption) (by assumption)
    | exact upc_goP2 (a := x8) (b := x10) (w := x20) (w2 := x23) (ya := x14) (yb := x15) (o1 := x18) (o2 := x22) ‹UPC _ _ _ _ _ _ _ _ _ _ _ _ _ _› (by omega) (by omega) (by assumption) (by assumption) (by assumption) (by assumption) (by assumption) (by assumption) (by assumption) (by omega) (by assumption) (by assumption) (by assumption) (by assumption) (by assumption) (by assumption)
    | exact upc_goM2 (a := x8) (b := x10) (w := x22) (w2 := x25) (pl := x12) (ya := x17) (yb := x18) (o1 := x20) (o2 := x24) ‹UPC _ _ _ _ _ _ _ _ _ _ _ _ _ _› (by omega) (by omega) (by assumption) (by assumption) (by assumption) (by assumption) (by assumption) (by assumption) (by omega) (by assumption) (by assumption) (by omega) (by assumption) (by assumption) (by assumption) (by assumption) (by assumption) (by assumption)
    | exact upc_tie3 (a := x8) (b := x10) (w := x24) (w2 := x29) (pl := x12) (ya := x14) (yb := x15) (ya2 := x17) (yb2 := x18) (q1 := x21) (q2 := x27) (r1 := x20) (r2 := x26) (o1 := x22) (o2 := x28) ‹UPC _ _ _ _ _ _ _ _ _ _ _ _ _ _› (by omega) (by omega) (by assumption) (by omega) (by assumption) (by assumption) (by assumption) (by assumption) (by assumption) (by omega) (by assumption) (by assumption) (by omega) (by assumption) (by assumption) (by omega) (by assumption) (by assumption) (by assumption) (by assumption) (by assumption) (by assumption) (by assumption) (by assumption) (by assumption) (by assumption)
  
set_option maxHeartbeats 4000000 in
theorem vc_Mo_up_17_1 (x5 : Int) (x6 : Int) (x25 : Int) (pointMany_0 : Int) (costMany_0 : Int) (costW_1 : Int → Int) (pointMany_1 : Int) (costMany_1 : Int) (costW_2 : Int → Int) (spot_2 : Int → Int) (costPlain_2 : Int → Int) (costB_2 : Int → Int) (costA_2 : Int → Int) (costMany_2 : Int) (pointMany_2 : Int) (flow_2 : Int → Int) (apartA_2 : Int → Int) (apartB_2 : Int → Int) (apart_2 : Int → Int) (apartMany_2 : Int) (apartMany_0 : Int) (apartMany_1 : Int) (spot_0 : Int → Int) (spot_1 : Int → Int) (costA_0 : Int → Int) (costA_1 : Int → Int) (costB_0 : Int → Int) (costB_1 : Int → Int) (costW_0 : Int → Int) (costPlain_0 : Int → Int) (costPlain_1 : Int → Int) (apartA_0 : Int → Int) (apartA_1 : Int → Int) (apartB_0 : Int → Int) (apartB_1 : Int → Int) (apart_0 : Int → Int) (apart_1 : Int → Int) (flow_0 : Int → Int) (flow_1 : Int → Int) (k5 : 0 ≤ x5 ∧ x5 ≤ 199) (k6 : 1 ≤ x6 ∧ x6 ≤ 200) (k25 : 1 ≤ x25 ∧ x25 ≤ 200) (d0 : x5 + 1 ≤ x25 ∧ x25 ≤ x5 + 1) (d1 : x6 + (-4294967296) ≤ x25 ∧ x25 ≤ x6 + 0) (d6 : x6 + (-4294967296) ≤ x5 ∧ x5 ≤ x6 + (-1)) (g32 : x6 = costMany_2) (fe_0_79_1 : pointMany_0 = pointMany_1) (fe_0_80_1 : costMany_0 = costMany_1) (fe_0_81_1 : apartMany_0 = apartMany_1) (fe_0_79_2 : pointMany_1 = pointMany_2) (fe_0_80_2 : costMany_1 = costMany_2) (fe_0_81_2 : apartMany_1 = apartMany_2) (hE_0_82_1 : ∀ j : Int, spot_0 j = spot_1 j) (hE_0_82_2 : ∀ j : Int, spot_1 j = spot_2 j) (hE_0_83_1 : ∀ j : Int, costA_0 j = costA_1 j) (hE_0_83_2 : ∀ j : Int, costA_1 j = costA_2 j) (hE_0_84_1 : ∀ j : Int, costB_0 j = costB_1 j) (hE_0_84_2 : ∀ j : Int, costB_1 j = costB_2 j) (hE_0_85_1 : ∀ j : Int, costW_0 j = costW_1 j) (hE_0_85_2 : ∀ j : Int, costW_1 j = costW_2 j) (hE_0_86_1 : ∀ j : Int, costPlain_0 j = costPlain_1 j) (hE_0_86_2 : ∀ j : Int, costPlain_1 j = costPlain_2 j) (hE_0_87_1 : ∀ j : Int, apartA_0 j = apartA_1 j) (hE_0_87_2 : ∀ j : Int, apartA_1 j = apartA_2 j) (hE_0_88_1 : ∀ j : Int, apartB_0 j = apartB_1 j) (hE_0_88_2 : ∀ j : Int, apartB_1 j = apartB_2 j) (hE_0_89_1 : ∀ j : Int, apart_0 j = apart_1 j) (hE_0_89_2 : ∀ j : Int, apart_1 j = apart_2 j) (hE_0_90_1 : ∀ j : Int, flow_0 j = flow_1 j) (hE_0_90_2 : ∀ j : Int, flow_1 j = flow_2 j) (kz_0_79 : 0 ≤ pointMany_0 ∧ pointMany_0 ≤ 76) (kz_0_80 : 0 ≤ costMany_0 ∧ costMany_0 ≤ 200) (kz_0_81 : 0 ≤ apartMany_0 ∧ apartMany_0 ≤ 200) : x25 ≤ costMany_0 := by
  subst fe_0_79_1
  subst fe_0_80_1
  subst fe_0_81_1
  subst fe_0_79_2
  subst fe_0_80_2
  subst fe_0_81_2
  have e_hE_0_82_1 := funext hE_0_82_1; subst e_hE_0_82_1
  have e_hE_0_82_2 := funext hE_0_82_2; subst e_hE_0_82_2
  have e_hE_0_83_1 := funext hE_0_83_1; subst e_hE_0_83_1
  have e_hE_0_83_2 := funext hE_0_83_2; subst e_hE_0_83_2
  have e_hE_0_84_1 := funext hE_0_84_1; subst e_hE_0_84_1
  have e_hE_0_84_2 := funext hE_0_84_2; subst e_hE_0_84_2
  have e_hE_0_85_1 := funext hE_0_85_1; subst e_hE_0_85_1
  have e_hE_0_85_2 := funext hE_0_85_2; subst e_hE_0_85_2
  have e_hE_0_86_1 := funext hE_0_86_1; subst e_hE_0_86_1
  have e_hE_0_86_2 := funext hE_0_86_2; subst e_hE_0_86_2
  have e_hE_0_87_1 := funext hE_0_87_1; subst e_hE_0_87_1
  have e_hE_0_87_2 := funext hE_0_87_2; subst e_hE_0_87_2
  have e_hE_0_88_1 := funext hE_0_88_1; subst e_hE_0_88_1
  have e_hE_0_88_2 := funext hE_0_88_2; subst e_hE_0_88_2
  have e_hE_0_89_1 := funext hE_0_89_1; subst e_hE_0_89_1
  have e_hE_0_89_2 := funext hE_0_89_2; subst e_hE_0_89_2
  have e_hE_0_90_1 := funext hE_0_90_1; subst e_hE_0_90_1
  have e_hE_0_90_2 := funext hE_0_90_2; subst e_hE_0_90_2
  omega
def o_Mo_up_17 : or_T := (73, 26, [(0, (2, 0, 0, [165])), (5, (0, 0, 199, [])), (6, (0, 1, 200, [])), (8, (0, 0, 75, [])), (10, (0, 0, 75, [])), (14, (0, 0, 221099999, [])), (15, (0, 1, 221100000, [])), (17, (2, 0, 0, [230])), (18, (0, -14400, 14400, [])), (20, (0, 0, 72, [])), (21, (0, -14400, 14400, [])), (22, (0, -14400, 14400, [])), (23, (0, 0, 72, [])), (24, (0, -14400, 14400, [])), (25, (0, 1, 200, []))], [(6, [25, 5], [1]), (24, [0, 1], []), (100, [17, 10, 24], []), (1, [24, 22, 23], []), (10, [23, 19, 5], []), (9, [19, 1], [85]), (10, [22, 17, 10], []), (9, [17, 1], [93]), (100, [17, 8, 21], []), (2, [21, 18, 20], []), (10, [20, 19, 5], []), (10, [18, 17, 8], []), (7, [14, 15], [2]), (10, [15, 13, 10], []), (9, [13, 1], [82]), (10, [14, 13, 8], []), (10, [10, 9, 5], []), (9, [9, 1], [84]), (10, [8, 7, 5], []), (9, [7, 1], [83]), (9, [6, 1], [80]), (20, [1, 5], [60, 3, 10, 413, 79, 80, 81, 90, 93, 82, 83, 84, 85, 86, 87, 88, 89])], [], [], [(20, [1, 25], [60, 3, 10, 413, 79, 80, 81, 90, 93, 82, 83, 84, 85, 86, 87, 88, 89]), (20, [25, 1], [50, 1, 0, 1080, 0, 2, 1, 0, 2, 1, 80])], [], [(25, 5, 1, 1), (25, 6, -4294967296, 0), (24, 23, -14400, 14400), (24, 22, 0, 72), (21, 18, -72, 0), (5, 6, -4294967296, -1)])
theorem oo_Mo_up_17 {kA : Nat → ClassId} : or_ok PRD kA GG o_Mo_up_17 := by
  refine or_mk fun A ta ws vs hD hth hl => ?_
  intro t0 r0 t5 k5 t6 k6 t8 k8 t10 k10 t14 k14 t15 k15 t17 r17 t18 k18 t20 k20 t21 k21 t22 k22 t23 k23 t24 k24 t25 k25 d0 d1 d2 d3 d4 d6 f0 f5 ta1 w1 le1 s1 f7 f8 f9 f10 f11 ta2 w2 le2 s2 f17 f18 f19 f20 f21 f22 f23 f27 f28 f29 f30 f32 f36
  replace f0 := shm_4 f0
  replace f5 := shm_5 f5
  have s1 : (∀ b j, w_el ws b j = if b = v_ad (n_v vs 17) ∧ j = (v_iv (n_v vs 10)).toNat then v_iv (n_v vs 24) else w_el w1 b j) ∧ ∀ b k, w_fd ws b k = w_fd w1 b k := s1.2
  replace f7 := shm_12 f7
  replace f8 := shm_107 f8
  replace f9 := shm_561 f9
  replace f10 := shm_107 f10
  replace f11 := shm_1162 f11
  have s2 : (∀ b j, w_el w1 b j = if b = v_ad (n_v vs 17) ∧ j = (v_iv (n_v vs 8)).toNat then v_iv (n_v vs 21) else w_el w2 b j) ∧ ∀ b k, w_fd w1 b k = w_fd w2 b k := s2.2
  replace f17 := shm_14 f17
  replace f18 := shm_107 f18
  replace f19 := shm_107 f19
  replace f20 := shm_6 f20
  replace f21 := shm_107 f21
  replace f22 := shm_1165 f22
  replace f23 := shm_107 f23
  replace f27 := shm_107 f27
  replace f28 := shm_562 f28
  replace f29 := shm_107 f29
  replace f30 := shm_556 f30
  replace f32 := shm_555 f32
  replace f36 := shm_1160 f36
  have q1 : n_v vs 1 = n_v vs 0 := f5.symm
  simp only [q1] at f9 f11 f22 f28 f30 f32 f36
  have ar_0_82_1 : w_ar w1 (n_v vs 0) 82 = w_ar ws (n_v vs 0) 82 := congrArg v_ad (s1.2 _ _).symm
  have ar_0_82_2 : w_ar w2 (n_v vs 0) 82 = w_ar ws (n_v vs 0) 82 := by rw [← ar_0_82_1]; show v_ad (w_fd w2 _ _) = v_ad (w_fd w1 _ _); rw [s2.2]
  have cr_0_82 := fdq_230 hD hth r0
  have ar_0_83_1 : w_ar w1 (n_v vs 0) 83 = w_ar ws (n_v vs 0) 83 := congrArg v_ad (s1.2 _ _).symm
  have ar_0_83_2 : w_ar w2 (n_v vs 0) 83 = w_ar ws (n_v vs 0) 83 := by rw [← ar_0_83_1]; show v_ad (w_fd w2 _ _) = v_ad (w_fd w1 _ _); rw [s2.2]
  have cr_0_83 := fdq_126 hD hth r0
  have ar_0_84_1 : w_ar w1 (n_v vs 0) 84 = w_ar ws (n_v vs 0) 84 := congrArg v_ad (s1.2 _ _).symm
  have ar_0_84_2 : w_ar w2 (n_v vs 0) 84 = w_ar ws (n_v vs 0) 84 := by rw [← ar_0_84_1]; show v_ad (w_fd w2 _ _) = v_ad (w_fd w1 _ _); rw [s2.2]
  have cr_0_84 := fdq_127 hD hth r0
  have ar_0_85_1 : w_ar w1 (n_v vs 0) 85 = w_ar ws (n_v vs 0) 85 := congrArg v_ad (s1.2 _ _).symm
  have ar_0_85_2 : w_ar w2 (n_v vs 0) 85 = w_ar ws (n_v vs 0) 85 := by rw [← ar_0_85_1]; show v_ad (w_fd w2 _ _) = v_ad (w_fd w1 _ _); rw [s2.2]
  have cr_0_85 := fdq_128 hD hth r0
  have ar_0_86_1 : w_ar w1 (n_v vs 0) 86 = w_ar ws (n_v vs 0) 86 := congrArg v_ad (s1.2 _ _).symm
  have ar_0_86_2 : w_ar w2 (n_v vs 0) 86 = w_ar ws (n_v vs 0) 86 := by rw [← ar_0_86_1]; show v_ad (w_fd w2 _ _) = v_ad (w_fd w1 _ _); rw [s2.2]
  have cr_0_86 := fdq_129 hD hth r0
  have ar_0_87_1 : w_ar w1 (n_v vs 0) 87 = w_ar ws (n_v vs 0) 87 := congrArg v_ad (s1.2 _ _).symm
  have ar_0_87_2 : w_ar w2 (n_v vs 0) 87 = w_ar ws (n_v vs 0) 87 := by rw [← ar_0_87_1]; show v_ad (w_fd w2 _ _) = v_ad (w_fd w1 _ _); rw [s2.2]
  have cr_0_87 := fdq_119 hD hth r0
  have ar_0_88_1 : w_ar w1 (n_v vs 0) 88 = w_ar ws (n_v vs 0) 88 := congrArg v_ad (s1.2 _ _).symm
  have ar_0_88_2 : w_ar w2 (n_v vs 0) 88 = w_ar ws (n_v vs 0) 88 := by rw [← ar_0_88_1]; show v_ad (w_fd w2 _ _) = v_ad (w_fd w1 _ _); rw [s2.2]
  have cr_0_88 := fdq_120 hD hth r0
  have ar_0_89_1 : w_ar w1 (n_v vs 0) 89 = w_ar ws (n_v vs 0) 89 := congrArg v_ad (s1.2 _ _).symm
  have ar_0_89_2 : w_ar w2 (n_v vs 0) 89 = w_ar ws (n_v vs 0) 89 := by rw [← ar_0_89_1]; show v_ad (w_fd w2 _ _) = v_ad (w_fd w1 _ _); rw [s2.2]
  have cr_0_89 := fdq_121 hD hth r0
  have ar_0_90_1 : w_ar w1 (n_v vs 0) 90 = w_ar ws (n_v vs 0) 90 := congrArg v_ad (s1.2 _ _).symm
  have ar_0_90_2 : w_ar w2 (n_v vs 0) 90 = w_ar ws (n_v vs 0) 90 := by rw [← ar_0_90_1]; show v_ad (w_fd w2 _ _) = v_ad (w_fd w1 _ _); rw [s2.2]
  have cr_0_90 := fdq_231 hD hth r0
  have ar_0_93_1 : w_ar w1 (n_v vs 0) 93 = w_ar ws (n_v vs 0) 93 := congrArg v_ad (s1.2 _ _).symm
  have ar_0_93_2 : w_ar w2 (n_v vs 0) 93 = w_ar ws (n_v vs 0) 93 := by rw [← ar_0_93_1]; show v_ad (w_fd w2 _ _) = v_ad (w_fd w1 _ _); rw [s2.2]
  have ad_19 : v_ad (n_v vs 19) = w_ar ws (n_v vs 0) 85 := (congrArg v_ad f9).trans ar_0_85_1
  have ad_17 : v_ad (n_v vs 17) = w_ar ws (n_v vs 0) 93 := (congrArg v_ad f11).trans ar_0_93_1
  have ad_13 : v_ad (n_v vs 13) = w_ar ws (n_v vs 0) 82 := (congrArg v_ad f22).trans ar_0_82_2
  have ad_9 : v_ad (n_v vs 9) = w_ar ws (n_v vs 0) 84 := (congrArg v_ad f28).trans ar_0_84_2
  have ad_7 : v_ad (n_v vs 7) = w_ar ws (n_v vs 0) 83 := (congrArg v_ad f30).trans ar_0_83_2
  simp only [ad_19] at f8
  have h8 : v_iv (n_v vs 23) = w_ei w1 (w_ar ws (n_v vs 0) 85) (v_iv (n_v vs 5)) := f8
  simp only [ad_17] at f10
  have h10 : v_iv (n_v vs 22) = w_ei w1 (w_ar ws (n_v vs 0) 93) (v_iv (n_v vs 10)) := f10
  simp only [ad_19] at f18
  have h18 : v_iv (n_v vs 20) = w_ei w2 (w_ar ws (n_v vs 0) 85) (v_iv (n_v vs 5)) := f18
  simp only [ad_17] at f19
  have h19 : v_iv (n_v vs 18) = w_ei w2 (w_ar ws (n_v vs 0) 93) (v_iv (n_v vs 8)) := f19
  simp only [ad_13] at f21
  have h21 : v_iv (n_v vs 15) = w_ei w2 (w_ar ws (n_v vs 0) 82) (v_iv (n_v vs 10)) := f21
  simp only [ad_13] at f23
  have h23 : v_iv (n_v vs 14) = w_ei w2 (w_ar ws (n_v vs 0) 82) (v_iv (n_v vs 8)) := f23
  simp only [ad_9] at f27
  have h27 : v_iv (n_v vs 10) = w_ei w2 (w_ar ws (n_v vs 0) 84) (v_iv (n_v vs 5)) := f27
  simp only [ad_7] at f29
  have h29 : v_iv (n_v vs 8) = w_ei w2 (w_ar ws (n_v vs 0) 83) (v_iv (n_v vs 5)) := f29
  have g32 : v_iv (n_v vs 6) = w_fi w2 (n_v vs 0) 80 := congrArg v_iv f32
  simp only [ar_0_82_2, ar_0_83_2, ar_0_84_2, ar_0_85_2, ar_0_86_2, ar_0_87_2, ar_0_88_2, ar_0_89_2, ar_0_90_2, ar_0_93_2] at f36
  have fe_0_79_1 : w_fi ws (n_v vs 0) 79 = w_fi w1 (n_v vs 0) 79 := congrArg v_iv (s1.2 _ _)
  have fe_0_80_1 : w_fi ws (n_v vs 0) 80 = w_fi w1 (n_v vs 0) 80 := congrArg v_iv (s1.2 _ _)
  have fe_0_81_1 : w_fi ws (n_v vs 0) 81 = w_fi w1 (n_v vs 0) 81 := congrArg v_iv (s1.2 _ _)
  have fe_0_79_2 : w_fi w1 (n_v vs 0) 79 = w_fi w2 (n_v vs 0) 79 := congrArg v_iv (s2.2 _ _)
  have fe_0_80_2 : w_fi w1 (n_v vs 0) 80 = w_fi w2 (n_v vs 0) 80 := congrArg v_iv (s2.2 _ _)
  have fe_0_81_2 : w_fi w1 (n_v vs 0) 81 = w_fi w2 (n_v vs 0) 81 := congrArg v_iv (s2.2 _ _)
  have hE_0_82_1 : ∀ j : Int, w_ei ws (w_ar ws (n_v vs 0) 82) j = w_ei w1 (w_ar ws (n_v vs 0) 82) j := el_kp s1.1 r17 cr_0_82 (by decide)
  have hE_0_82_2 : ∀ j : Int, w_ei w1 (w_ar ws (n_v vs 0) 82) j = w_ei w2 (w_ar ws (n_v vs 0) 82) j := el_kp s2.1 r17 cr_0_82 (by decide)
  have hE_0_83_1 : ∀ j : Int, w_ei ws (w_ar ws (n_v vs 0) 83) j = w_ei w1 (w_ar ws (n_v vs 0) 83) j := el_kp s1.1 r17 cr_0_83 (by decide)
  have hE_0_83_2 : ∀ j : Int, w_ei w1 (w_ar ws (n_v vs 0) 83) j = w_ei w2 (w_ar ws (n_v vs 0) 83) j := el_kp s2.1 r17 cr_0_83 (by decide)
  have hE_0_84_1 : ∀ j : Int, w_ei ws (w_ar ws (n_v vs 0) 84) j = w_ei w1 (w_ar ws (n_v vs 0) 84) j := el_kp s1.1 r17 cr_0_84 (by decide)
  have hE_0_84_2 : ∀ j : Int, w_ei w1 (w_ar ws (n_v vs 0) 84) j = w_ei w2 (w_ar ws (n_v vs 0) 84) j := el_kp s2.1 r17 cr_0_84 (by decide)
  have hE_0_85_1 : ∀ j : Int, w_ei ws (w_ar ws (n_v vs 0) 85) j = w_ei w1 (w_ar ws (n_v vs 0) 85) j := el_kp s1.1 r17 cr_0_85 (by decide)
  have hE_0_85_2 : ∀ j : Int, w_ei w1 (w_ar ws (n_v vs 0) 85) j = w_ei w2 (w_ar ws (n_v vs 0) 85) j := el_kp s2.1 r17 cr_0_85 (by decide)
  have hE_0_86_1 : ∀ j : Int, w_ei ws (w_ar ws (n_v vs 0) 86) j = w_ei w1 (w_ar ws (n_v vs 0) 86) j := el_kp s1.1 r17 cr_0_86 (by decide)
  have hE_0_86_2 : ∀ j : Int, w_ei w1 (w_ar ws (n_v vs 0) 86) j = w_ei w2 (w_ar ws (n_v vs 0) 86) j := el_kp s2.1 r17 cr_0_86 (by decide)
  have hE_0_87_1 : ∀ j : Int, w_ei ws (w_ar ws (n_v vs 0) 87) j = w_ei w1 (w_ar ws (n_v vs 0) 87) j := el_kp s1.1 r17 cr_0_87 (by decide)
  have hE_0_87_2 : ∀ j : Int, w_ei w1 (w_ar ws (n_v vs 0) 87) j = w_ei w2 (w_ar ws (n_v vs 0) 87) j := el_kp s2.1 r17 cr_0_87 (by decide)
  have hE_0_88_1 : ∀ j : Int, w_ei ws (w_ar ws (n_v vs 0) 88) j = w_ei w1 (w_ar ws (n_v vs 0) 88) j := el_kp s1.1 r17 cr_0_88 (by decide)
  have hE_0_88_2 : ∀ j : Int, w_ei w1 (w_ar ws (n_v vs 0) 88) j = w_ei w2 (w_ar ws (n_v vs 0) 88) j := el_kp s2.1 r17 cr_0_88 (by decide)
  have hE_0_89_1 : ∀ j : Int, w_ei ws (w_ar ws (n_v vs 0) 89) j = w_ei w1 (w_ar ws (n_v vs 0) 89) j := el_kp s1.1 r17 cr_0_89 (by decide)
  have hE_0_89_2 : ∀ j : Int, w_ei w1 (w_ar ws (n_v vs 0) 89) j = w_ei w2 (w_ar ws (n_v vs 0) 89) j := el_kp s2.1 r17 cr_0_89 (by decide)
  have hE_0_90_1 : ∀ j : Int, w_ei ws (w_ar ws (n_v vs 0) 90) j = w_ei w1 (w_ar ws (n_v vs 0) 90) j := el_kp s1.1 r17 cr_0_90 (by decide)
  have hE_0_90_2 : ∀ j : Int, w_ei w1 (w_ar ws (n_v vs 0) 90) j = w_ei w2 (w_ar ws (n_v vs 0) 90) j := el_kp s2.1 r17 cr_0_90 (by decide)
  have hE_0_93_1 : ∀ j : Int, 0 ≤ j → (j = v_iv (n_v vs 10) → w_ei ws (w_ar ws (n_v vs 0) 93) j = v_iv (n_v vs 24)) ∧ (j ≠ v_iv (n_v vs 10) → w_ei ws (w_ar ws (n_v vs 0) 93) j = w_ei w1 (w_ar ws (n_v vs 0) 93) j) := fun j hj => ⟨fun h => by unfold w_ei; rw [s1.1, if_pos ⟨ad_17.symm, by rw [h]⟩], fun h => by unfold w_ei; rw [s1.1, if_neg (fun e => h (by have := e.2; omega))]⟩
  have hE_0_93_2 : ∀ j : Int, 0 ≤ j → (j = v_iv (n_v vs 8) → w_ei w1 (w_ar ws (n_v vs 0) 93) j = v_iv (n_v vs 21)) ∧ (j ≠ v_iv (n_v vs 8) → w_ei w1 (w_ar ws (n_v vs 0) 93) j = w_ei w2 (w_ar ws (n_v vs 0) 93) j) := fun j hj => ⟨fun h => by unfold w_ei; rw [s2.1, if_pos ⟨ad_17.symm, by rw [h]⟩], fun h => by unfold w_ei; rw [s2.1, if_neg (fun e => h (by have := e.2; omega))]⟩
  have kz_0_79 := fdq_147 hD hth r0
  have kz_0_80 := fdq_131 hD hth r0
  have kz_0_81 := fdq_124 hD hth r0
  have nf0 : fc_1 PRD (20, [1, 25], [60, 3, 10, 413, 79, 80, 81, 90, 93, 82, 83, 84, 85, 86, 87, 88, 89]) ws (vs) := by
    refine ⟨nf_in hl rfl, sgq_1160 ?_⟩
    · show UPC (w_fi ws (n_v vs 1) 79) (w_fi ws (n_v vs 1) 80) (w_fi ws (n_v vs 1) 81) (w_ei ws (w_ar ws (n_v vs 1) 90)) (w_ei ws (w_ar ws (n_v vs 1) 93)) (w_ei ws (w_ar ws (n_v vs 1) 82)) (w_ei ws (w_ar ws (n_v vs 1) 83)) (w_ei ws (w_ar ws (n_v vs 1) 84)) (w_ei ws (w_ar ws (n_v vs 1) 85)) (w_ei ws (w_ar ws (n_v vs 1) 86)) (w_ei ws (w_ar ws (n_v vs 1) 87)) (w_ei ws (w_ar ws (n_v vs 1) 88)) (w_ei ws (w_ar ws (n_v vs 1) 89)) (v_iv (n_v vs 25))
      rw [q1]
      exact vc_Mo_up_17_0 (v_iv (n_v vs 5)) (v_iv (n_v vs 6)) (v_iv (n_v vs 8)) (v_iv (n_v vs 10)) (v_iv (n_v vs 12)) (v_iv (n_v vs 14)) (v_iv (n_v vs 15)) (v_iv (n_v vs 18)) (v_iv (n_v vs 20)) (v_iv (n_v vs 21)) (v_iv (n_v vs 22)) (v_iv (n_v vs 23)) (v_iv (n_v vs 24)) (v_iv (n_v vs 25)) (w_fi ws (n_v vs 0) 79) (w_fi ws (n_v vs 0) 80) (w_ei w1 (w_ar ws (n_v vs 0) 85)) (w_ei w1 (w_ar ws (n_v vs 0) 93)) (w_fi w1 (n_v vs 0) 79) (w_fi w1 (n_v vs 0) 80) (w_ei w2 (w_ar ws (n_v vs 0) 85)) (w_ei w2 (w_ar ws (n_v vs 0) 93)) (w_ei w2 (w_ar ws (n_v vs 0) 82)) (w_ei w2 (w_ar ws (n_v vs 0) 86)) (w_ei w2 (w_ar ws (n_v vs 0) 84)) (w_ei w2 (w_ar ws (n_v vs 0) 83)) (w_fi w2 (n_v vs 0) 80) (w_fi w2 (n_v vs 0) 79) (w_ei w2 (w_ar ws (n_v vs 0) 90)) (w_ei w2 (w_ar ws (n_v vs 0) 87)) (w_ei w2 (w_ar ws (n_v vs 0) 88)) (w_ei w2 (w_ar ws (n_v vs 0) 89)) (w_fi w2 (n_v vs 0) 81) (w_fi ws (n_v vs 0) 81) (w_fi w1 (n_v vs 0) 81) (w_ei ws (w_ar ws (n_v vs 0) 82)) (w_ei w1 (w_ar ws (n_v vs 0) 82)) (w_ei ws (w_ar ws (n_v vs 0) 83)) (w_ei w1 (w_ar ws (n_v vs 0) 83)) (w_ei ws (w_ar ws (n_v vs 0) 84)) (w_ei w1 (w_ar ws (n_v vs 0) 84)) (w_ei ws (w_ar ws (n_v vs 0) 85)) (w_ei ws (w_ar ws (n_v vs 0) 86)) (w_ei w1 (w_ar ws (n_v vs 0) 86)) (w_ei ws (w_ar ws (n_v vs 0) 87)) (w_ei w1 (w_ar ws (n_v vs 0) 87)) (w_ei ws (w_ar ws (n_v vs 0) 88)) (w_ei w1 (w_ar ws (n_v vs 0) 88)) (w_ei ws (w_ar ws (n_v vs 0) 89)) (w_ei w1 (w_ar ws (n_v vs 0) 89)) (w_ei ws (w_ar ws (n_v vs 0) 90)) (w_ei w1 (w_ar ws (n_v vs 0) 90)) (w_ei ws (w_ar ws (n_v vs 0) 93)) k5 k6 k8 k10 k14 k15 k18 k20 k21 k22 k23 k24 k25 d0 d1 d6 f0 f7 h8 h10 f17 h18 h19 f20 h21 h23 h27 h29 g32 f36 fe_0_79_1 fe_0_80_1 fe_0_81_1 fe_0_79_2 fe_0_80_2 fe_0_81_2 hE_0_82_1 hE_0_82_2 hE_0_83_1 hE_0_83_2 hE_0_84_1 hE_0_84_2 hE_0_85_1 hE_0_85_2 hE_0_86_1 hE_0_86_2 hE_0_87_1 hE_0_87_2 hE_0_88_1 hE_0_88_2 hE_0_89_1 hE_0_89_2 hE_0_90_1 hE_0_90_2 hE_0_93_1 hE_0_93_2 kz_0_79 kz_0_80 kz_0_81
  have nf1 : fc_1 PRD (20, [25, 1], [50, 1, 0, 1080, 0, 2, 1, 0, 2, 1, 80]) ws (vs) := by
    refine ⟨nf_in hl rfl, sgq_1161 ?_⟩
    · show v_iv (n_v vs 25) ≤ w_fi ws (n_v vs 1) 80
      rw [q1]
      exact vc_Mo_up_17_1 (v_iv (n_v vs 5)) (v_iv (n_v vs 6)) (v_iv (n_v vs 25)) (w_fi ws (n_v vs 0) 79) (w_fi ws (n_v vs 0) 80) (w_ei w1 (w_ar ws (n_v vs 0) 85)) (w_fi w1 (n_v vs 0) 79) (w_fi w1 (n_v vs 0) 80) (w_ei w2 (w_ar ws (n_v vs 0) 85)) (w_ei w2 (w_ar ws (n_v vs 0) 82)) (w_ei w2 (w_ar ws (n_v vs 0) 86)) (w_ei w2 (w_ar ws (n_v vs 0) 84)) (w_ei w2 (w_ar ws (n_v vs 0) 83)) (w_fi w2 (n_v vs 0) 80) (w_fi w2 (n_v vs 0) 79) (w_ei w2 (w_ar ws (n_v vs 0) 90)) (w_ei w2 (w_ar ws (n_v vs 0) 87)) (w_ei w2 (w_ar ws (n_v vs 0) 88)) (w_ei w2 (w_ar ws (n_v vs 0) 89)) (w_fi w2 (n_v vs 0) 81) (w_fi ws (n_v vs 0) 81) (w_fi w1 (n_v vs 0) 81) (w_ei ws (w_ar ws (n_v vs 0) 82)) (w_ei w1 (w_ar ws (n_v vs 0) 82)) (w_ei ws (w_ar ws (n_v vs 0) 83)) (w_ei w1 (w_ar ws (n_v vs 0) 83)) (w_ei ws (w_ar ws (n_v vs 0) 84)) (w_ei w1 (w_ar ws (n_v vs 0) 84)) (w_ei ws (w_ar ws (n_v vs 0) 85)) (w_ei ws (w_ar ws (n_v vs 0) 86)) (w_ei w1 (w_ar ws (n_v vs 0) 86)) (w_ei ws (w_ar ws (n_v vs 0) 87)) (w_ei w1 (w_ar ws (n_v vs 0) 87)) (w_ei ws (w_ar ws (n_v vs 0) 88)) (w_ei w1 (w_ar ws (n_v vs 0) 88)) (w_ei ws (w_ar ws (n_v vs 0) 89)) (w_ei w1 (w_ar ws (n_v vs 0) 89)) (w_ei ws (w_ar ws (n_v vs 0) 90)) (w_ei w1 (w_ar ws (n_v vs 0) 90)) k5 k6 k25 d0 d1 d6 g32 fe_0_79_1 fe_0_80_1 fe_0_81_1 fe_0_79_2 fe_0_80_2 fe_0_81_2 hE_0_82_1 hE_0_82_2 hE_0_83_1 hE_0_83_2 hE_0_84_1 hE_0_84_2 hE_0_85_1 hE_0_85_2 hE_0_86_1 hE_0_86_2 hE_0_87_1 hE_0_87_2 hE_0_88_1 hE_0_88_2 hE_0_89_1 hE_0_89_2 hE_0_90_1 hE_0_90_2 kz_0_79 kz_0_80 kz_0_81
  refine ⟨(fun _ h => (by cases h)), [], trivial, ?_, (fun _ h => (by cases h))⟩
  rw [List.append_nil]
  exact List.forall_mem_cons.mpr ⟨⟨show (20 : Nat) < 100 from by decide, nf0⟩, List.forall_mem_cons.mpr ⟨⟨show (20 : Nat) < 100 from by decide, nf1⟩, (fun _ h => (by cases h))⟩⟩
set_option maxHeartbeats 4000000 in
theorem vc_Mo_up_18_0 (x5 : Int) (x6 : Int) (x7 : Int) (pointMany_0 : Int) (flow_0 : Int → Int) (goes_0 : Int → Int) (spot_0 : Int → Int) (costA_0 : Int → Int) (costB_0 : Int → Int) (costW_0 : Int → Int) (costPlain_0 : Int → Int) (apartA_0 : Int → Int) (apartB_0 : Int → Int) (apart_0 : Int → Int) (costMany_0 : Int) (apartMany_0 : Int) (k5 : 0 ≤ x5 ∧ x5 ≤ 76) (k6 : 0 ≤ x6 ∧ x6 ≤ 76) (k7 : 0 ≤ x7 ∧ x7 ≤ 0) (d0 : x6 + 0 ≤ x5 ∧ x5 ≤ x6 + 4294967296) (g1 : x6 = pointMany_0) (f5 : UPI (pointMany_0) (costMany_0) (apartMany_0) (flow_0) (goes_0) (spot_0) (costA_0) (costB_0) (costW_0) (costPlain_0) (apartA_0) (apartB_0) (apart_0) (x5)) (f6 : x5 ≤ pointMany_0) (kz_0_79 : 0 ≤ pointMany_0 ∧ pointMany_0 ≤ 76) (kz_0_80 : 0 ≤ costMany_0 ∧ costMany_0 ≤ 200) (kz_0_81 : 0 ≤ apartMany_0 ∧ apartMany_0 ≤ 200) : UPA (pointMany_0) (costMany_0) (apartMany_0) (flow_0) (spot_0) (costA_0) (costB_0) (costW_0) (costPlain_0) (apartA_0) (apartB_0) (apart_0) (x7) := by
  first
    | exact upa_start ‹UPI _ _ _ _ _ _ _ _ _ _ _ _ _ _› (by omega) (by omega)
    | exact upa_skip2 (b := x9) (yb := x10) (a := x12) (ya := x13) (c := x14) (d := x16) ‹UPA _ _ _ _ _ _ _ _ _ _ _ _ _› (by omega) (by assumption) (by assumption) (by assumption) (by assumption) (by assumption) (by assumption) (by assumption) (by assumption)
    | exact upa_step3 (b_zq := x9) (yb := x10) (a_zq := x12) (ya := x13) (c := x14) (d := x16) (a := x18) (b := x20) (r := x19) (q := x21) (o := x22) (v := x24) ‹UPA _ _ _ _ _ _ _ _ _ _ _ _ _› (by omega) (by omega) (by assumption) (by omega) (by assumption) (by assumption) (by assumption) (by assumption) (by assumption) (by assumption) (by assumption) (by assumption) (by assumption) (by assumption) (by assumption) (by assumption) (by omega) (by assumption)
  
set_option maxHeartbeats 4000000 in
theorem vc_Mo_up_18_1 (x7 : Int) (apartMany_0 : Int) (k7 : 0 ≤ x7 ∧ x7 ≤ 0) (kz_0_81 : 0 ≤ apartMany_0 ∧ apartMany_0 ≤ 200) : x7 ≤ apartMany_0 := by
  omega
def o_Mo_up_18 : or_T := (351, 8, [(0, (2, 0, 0, [165])), (5, (0, 0, 76, [])), (6, (0, 0, 76, [])), (7, (0, 0, 0, []))], [(9, [6, 1], [79]), (20, [1, 5], [60, 3, 10, 414, 79, 80, 81, 90, 93, 82, 83, 84, 85, 86, 87, 88, 89]), (20, [5, 1], [50, 1, 0, 1079, 0, 2, 1, 0, 2, 1, 79]), (24, [0, 1], [])], [], [], [(20, [1, 7], [60, 3, 9, 415, 79, 80, 81, 90, 82, 83, 84, 85, 86, 87, 88, 89]), (20, [7, 1], [50, 1, 0, 1081, 0, 2, 1, 0, 2, 1, 81])], [], [(5, 6, 0, 4294967296)])
theorem oo_Mo_up_18 {kA : Nat → ClassId} : or_ok PRD kA GG o_Mo_up_18 := by
  refine or_mk fun A ta ws vs hD hth hl => ?_
  intro t0 r0 t5 k5 t6 k6 t7 k7 d0 f1 f5 f6 f7
  replace f1 := shm_1155 f1
  replace f5 := shm_1163 f5
  replace f6 := shm_1164 f6
  replace f7 := shm_5 f7
  have q1 : n_v vs 1 = n_v vs 0 := f7.symm
  simp only [q1] at f1 f5 f6
  have g1 : v_iv (n_v vs 6) = w_fi ws (n_v vs 0) 79 := congrArg v_iv f1
  have kz_0_79 := fdq_147 hD hth r0
  have kz_0_80 := fdq_131 hD hth r0
  have kz_0_81 := fdq_124 hD hth r0
  have nf0 : fc_1 PRD (20, [1, 7], [60, 3, 9, 415, 79, 80, 81, 90, 82, 83, 84, 85, 86, 87, 88, 89]) ws (vs) := by
    refine ⟨nf_in hl rfl, sgq_1166 ?_⟩
    · show UPA (w_fi ws (n_v vs 1) 79) (w_fi ws (n_v vs 1) 80) (w_fi ws (n_v vs 1) 81) (w_ei ws (w_ar ws (n_v vs 1) 90)) (w_ei ws (w_ar ws (n_v vs 1) 82)) (w_ei ws (w_ar ws (n_v vs 1) 83)) (w_ei ws (w_ar ws (n_v vs 1) 84)) (w_ei ws (w_ar ws (n_v vs 1) 85)) (w_ei ws (w_ar ws (n_v vs 1) 86)) (w_ei ws (w_ar ws (n_v vs 1) 87)) (w_ei ws (w_ar ws (n_v vs 1) 88)) (w_ei ws (w_ar ws (n_v vs 1) 89)) (v_iv (n_v vs 7))
      rw [q1]
      exact vc_Mo_up_18_0 (v_iv (n_v vs 5)) (v_iv (n_v vs 6)) (v_iv (n_v vs 7)) (w_fi ws (n_v vs 0) 79) (w_ei ws (w_ar ws (n_v vs 0) 90)) (w_ei ws (w_ar ws (n_v vs 0) 93)) (w_ei ws (w_ar ws (n_v vs 0) 82)) (w_ei ws (w_ar ws (n_v vs 0) 83)) (w_ei ws (w_ar ws (n_v vs 0) 84)) (w_ei ws (w_ar ws (n_v vs 0) 85)) (w_ei ws (w_ar ws (n_v vs 0) 86)) (w_ei ws (w_ar ws (n_v vs 0) 87)) (w_ei ws (w_ar ws (n_v vs 0) 88)) (w_ei ws (w_ar ws (n_v vs 0) 89)) (w_fi ws (n_v vs 0) 80) (w_fi ws (n_v vs 0) 81) k5 k6 k7 d0 g1 f5 f6 kz_0_79 kz_0_80 kz_0_81
  have nf1 : fc_1 PRD (20, [7, 1], [50, 1, 0, 1081, 0, 2, 1, 0, 2, 1, 81]) ws (vs) := by
    refine ⟨nf_in hl rfl, sgq_1167 ?_⟩
    · show v_iv (n_v vs 7) ≤ w_fi ws (n_v vs 1) 81
      rw [q1]
      exact vc_Mo_up_18_1 (v_iv (n_v vs 7)) (w_fi ws (n_v vs 0) 81) k7 kz_0_81
  refine ⟨(fun _ h => (by cases h)), [], trivial, ?_, (fun _ h => (by cases h))⟩
  rw [List.append_nil]
  exact List.forall_mem_cons.mpr ⟨⟨show (20 : Nat) < 100 from by decide, nf0⟩, List.forall_mem_cons.mpr ⟨⟨show (20 : Nat) < 100 from by decide, nf1⟩, (fun _ h => (by cases h))⟩⟩
set_option maxHeartbeats 4000000 in
theorem vc_Mo_up_19_r0 (x5 : Int) (x6 : Int) (x8 : Int) (x12 : Int) (goes_0 : Int → Int) (pointMany_0 : Int) (flow_0 : Int → Int) (spot_0 : Int → Int) (costA_0 : Int → Int) (costB_0 : Int → Int) (costW_0 : Int → Int) (costPlain_0 : Int → Int) (apartA_0 : Int → Int) (apartB_0 : Int → Int) (apart_0 : Int → Int) (costMany_0 : Int) (apartMany_0 : Int) (k5 : 0 ≤ x5 ∧ x5 ≤ 75) (k6 : 1 ≤ x6 ∧ x6 ≤ 76) (k8 : 0 ≤ x8 ∧ x8 ≤ 14400) (k12 : (-14400) ≤ x12 ∧ x12 ≤ 14400) (d4 : x6 + (-4294967296) ≤ x5 ∧ x5 ≤ x6 + (-1)) (h0 : x12 = goes_0 (x5)) (h6 : x8 = goes_0 (x5)) (g8 : x6 = pointMany_0) (f12 : UPI (pointMany_0) (costMany_0) (apartMany_0) (flow_0) (goes_0) (spot_0) (costA_0) (costB_0) (costW_0) (costPlain_0) (apartA_0) (apartB_0) (apart_0) (x5)) (kz_0_79 : 0 ≤ pointMany_0 ∧ pointMany_0 ≤ 76) (kz_0_80 : 0 ≤ costMany_0 ∧ costMany_0 ≤ 200) (kz_0_81 : 0 ≤ apartMany_0 ∧ apartMany_0 ≤ 200) : 0 ≤ x12 ∧ x12 ≤ 14400 := by
  have h := upi_bd ‹UPI _ _ _ _ _ _ _ _ _ _ _ _ _ _› (by omega) (by omega)
  omega
def o_Mo_up_19 : or_T := (341, 13, [(0, (2, 0, 0, [165])), (1, (2, 0, 0, [165])), (2, (0, 2, 78, [])), (3, (0, 0, 76, [])), (4, (0, 1, 77, [])), (5, (0, 0, 75, [])), (6, (0, 1, 76, [])), (7, (2, 0, 0, [230])), (8, (0, 0, 14400, [])), (9, (2, 0, 0, [227])), (10, (0, 0, 5850, [])), (11, (0, 1, 5927, [])), (12, (0, -14400, 14400, []))], [(10, [12, 7, 5], []), (9, [7, 1], [93]), (1, [11, 10, 4], []), (3, [10, 2, 5], []), (9, [9, 1], [90]), (8, [8], [3]), (10, [8, 7, 5], []), (7, [5, 6], [2]), (9, [6, 1], [79]), (20, [2, 1], [50, 1, 0, 1079, 1, 2, 1, 0, 4, 3, 2, 1, 79, 0, 2]), (20, [3, 1], [50, 1, 0, 1079, 1, 2, 1, 0, 2, 1, 79]), (20, [4, 1], [50, 1, 0, 1079, 1, 2, 1, 0, 4, 3, 2, 1, 79, 0, 1]), (20, [1, 5], [60, 3, 10, 414, 79, 80, 81, 90, 93, 82, 83, 84, 85, 86, 87, 88, 89]), (20, [5, 1], [50, 1, 0, 1079, 0, 2, 1, 0, 2, 1, 79]), (24, [0, 1], [])], [(12, (0, 0, 14400, []))], [], [], [], [(11, 4, 0, 5850), (11, 2, -4294967296, 5849), (11, 3, -4294967296, 5851), (11, 10, 1, 77), (5, 6, -4294967296, -1), (2, 3, -4294967296, 2), (2, 4, -4294967296, 1), (3, 2, -4294967296, -2), (3, 4, -4294967296, -1), (4, 2, -4294967296, -1), (4, 3, -4294967296, 1)])
theorem oo_Mo_up_19 {kA : Nat → ClassId} : or_ok PRD kA GG o_Mo_up_19 := by
  refine or_mk fun A ta ws vs hD hth hl => ?_
  intro t0 r0 t1 r1 t2 k2 t3 k3 t4 k4 t5 k5 t6 k6 t7 r7 t8 k8 t9 r9 t10 k10 t11 k11 t12 k12 d0 d1 d2 d3 d4 d5 d6 d7 d8 d9 d10 f0 f1 f2 f3 f4 f5 f6 f7 f8 f9 f10 f11 f12 f13 f14
  replace f0 := shm_107 f0
  replace f1 := shm_1162 f1
  replace f6 := shm_107 f6
  replace f8 := shm_1155 f8
  replace f12 := shm_1163 f12
  replace f14 := shm_5 f14
  have q1 : n_v vs 1 = n_v vs 0 := f14.symm
  simp only [q1] at f1 f8 f12
  have ad_7 : v_ad (n_v vs 7) = w_ar ws (n_v vs 0) 93 := congrArg v_ad f1
  simp only [ad_7] at f0
  have h0 : v_iv (n_v vs 12) = w_ei ws (w_ar ws (n_v vs 0) 93) (v_iv (n_v vs 5)) := f0
  simp only [ad_7] at f6
  have h6 : v_iv (n_v vs 8) = w_ei ws (w_ar ws (n_v vs 0) 93) (v_iv (n_v vs 5)) := f6
  have g8 : v_iv (n_v vs 6) = w_fi ws (n_v vs 0) 79 := congrArg v_iv f8
  have kz_0_79 := fdq_147 hD hth r0
  have kz_0_80 := fdq_131 hD hth r0
  have kz_0_81 := fdq_124 hD hth r0
  have hrf0 : 0 ≤ v_iv (n_v vs 12) ∧ v_iv (n_v vs 12) ≤ 14400 := vc_Mo_up_19_r0 (v_iv (n_v vs 5)) (v_iv (n_v vs 6)) (v_iv (n_v vs 8)) (v_iv (n_v vs 12)) (w_ei ws (w_ar ws (n_v vs 0) 93)) (w_fi ws (n_v vs 0) 79) (w_ei ws (w_ar ws (n_v vs 0) 90)) (w_ei ws (w_ar ws (n_v vs 0) 82)) (w_ei ws (w_ar ws (n_v vs 0) 83)) (w_ei ws (w_ar ws (n_v vs 0) 84)) (w_ei ws (w_ar ws (n_v vs 0) 85)) (w_ei ws (w_ar ws (n_v vs 0) 86)) (w_ei ws (w_ar ws (n_v vs 0) 87)) (w_ei ws (w_ar ws (n_v vs 0) 88)) (w_ei ws (w_ar ws (n_v vs 0) 89)) (w_fi ws (n_v vs 0) 80) (w_fi ws (n_v vs 0) 81) k5 k6 k8 k12 d4 h0 h6 g8 f12 kz_0_79 kz_0_80 kz_0_81
  have rf12 : tv_ok ta (0, 0, 14400, []) (n_v vs 12) := tv_in t12 (by first | omega | grind) (by first | omega | grind)
  refine ⟨List.forall_mem_cons.mpr ⟨rf12, (fun _ h => (by cases h))⟩, [], trivial, ?_, (fun _ h => (by cases h))⟩
  rw [List.append_nil]
  exact (fun _ h => (by cases h))
set_option maxHeartbeats 4000000 in
theorem vc_Mo_up_20_0 (x2 : Int) (x3 : Int) (x4 : Int) (x5 : Int) (x6 : Int) (x8 : Int) (x10 : Int) (x11 : Int) (x12 : Int) (x13 : Int) (pointMany_0 : Int) (goes_1 : Int → Int) (pointMany_1 : Int) (flow_1 : Int → Int) (spot_1 : Int → Int) (costA_1 : Int → Int) (costB_1 : Int → Int) (costW_1 : Int → Int) (costPlain_1 : Int → Int) (apartA_1 : Int → Int) (apartB_1 : Int → Int) (apart_1 : Int → Int) (costMany_1 : Int) (apartMany_1 : Int) (costMany_0 : Int) (apartMany_0 : Int) (spot_0 : Int → Int) (costA_0 : Int → Int) (costB_0 : Int → Int) (costW_0 : Int → Int) (costPlain_0 : Int → Int) (apartA_0 : Int → Int) (apartB_0 : Int → Int) (apart_0 : Int → Int) (flow_0 : Int → Int) (goes_0 : Int → Int) (k2 : 2 ≤ x2 ∧ x2 ≤ 78) (k3 : 0 ≤ x3 ∧ x3 ≤ 76) (k4 : 1 ≤ x4 ∧ x4 ≤ 77) (k5 : 0 ≤ x5 ∧ x5 ≤ 75) (k6 : 1 ≤ x6 ∧ x6 ≤ 76) (k8 : 0 ≤ x8 ∧ x8 ≤ 14400) (k10 : 0 ≤ x10 ∧ x10 ≤ 5850) (k11 : 1 ≤ x11 ∧ x11 ≤ 5927) (k12 : 0 ≤ x12 ∧ x12 ≤ 14400) (k13 : 1 ≤ x13 ∧ x13 ≤ 76) (d0 : x5 + 1 ≤ x13 ∧ x13 ≤ x5 + 1) (d1 : x6 + (-4294967296) ≤ x13 ∧ x13 ≤ x6 + 0) (d6 : x6 + (-4294967296) ≤ x5 ∧ x5 ≤ x6 + (-1)) (f0 : x13 = x5 + 1) (h7 : x12 = goes_1 (x5)) (f9 : x11 = x10 + x4) (f10 : x10 = x2 * x5) (f12 : 0 ≤ x8) (h13 : x8 = goes_1 (x5)) (g15 : x6 = pointMany_1) (f16 : x2 = (pointMany_1 + 2)) (f17 : x3 = pointMany_1) (f18 : x4 = (pointMany_1 + 1)) (f19 : UPI (pointMany_1) (costMany_1) (apartMany_1) (flow_1) (goes_1) (spot_1) (costA_1) (costB_1) (costW_1) (costPlain_1) (apartA_1) (apartB_1) (apart_1) (x5)) (fe_0_79_1 : pointMany_0 = pointMany_1) (fe_0_80_1 : costMany_0 = costMany_1) (fe_0_81_1 : apartMany_0 = apartMany_1) (hE_0_82_1 : ∀ j : Int, spot_0 j = spot_1 j) (hE_0_83_1 : ∀ j : Int, costA_0 j = costA_1 j) (hE_0_84_1 : ∀ j : Int, costB_0 j = costB_1 j) (hE_0_85_1 : ∀ j : Int, costW_0 j = costW_1 j) (hE_0_86_1 : ∀ j : Int, costPlain_0 j = costPlain_1 j) (hE_0_87_1 : ∀ j : Int, apartA_0 j = apartA_1 j) (hE_0_88_1 : ∀ j : Int, apartB_0 j = apartB_1 j) (hE_0_89_1 : ∀ j : Int, apart_0 j = apart_1 j) (hE_0_90_1 : ∀ j : Int, 0 ≤ j → (j = x11 → flow_0 j = x12) ∧ (j ≠ x11 → flow_0 j = flow_1 j)) (hE_0_93_1 : ∀ j : Int, goes_0 j = goes_1 j) (kz_0_79 : 0 ≤ pointMany_0 ∧ pointMany_0 ≤ 76) (kz_0_80 : 0 ≤ costMany_0 ∧ costMany_0 ≤ 200) (kz_0_81 : 0 ≤ apartMany_0 ∧ apartMany_0 ≤ 200) : UPI (pointMany_0) (costMany_0) (apartMany_0) (flow_0) (goes_0) (spot_0) (costA_0) (costB_0) (costW_0) (costPlain_0) (apartA_0) (apartB_0) (apart_0) (x13) := by
  subst fe_0_79_1
  subst fe_0_80_1
  subst fe_0_81_1
  have e_hE_0_82_1 := funext hE_0_82_1; subst e_hE_0_82_1
  have e_hE_0_83_1 := funext hE_0_83_1; subst e_hE_0_83_1
  have e_hE_0_84_1 := funext hE_0_84_1; subst e_hE_0_84_1
  have e_hE_0_85_1 := funext hE_0_85_1; subst e_hE_0_85_1
  have e_hE_0_86_1 := funext hE_0_86_1; subst e_hE_0_86_1
  have e_hE_0_87_1 := funext hE_0_87_1; subst e_hE_0_87_1
  have e_hE_0_88_1 := funext hE_0_88_1; subst e_hE_0_88_1
  have e_hE_0_89_1 := funext hE_0_89_1; subst e_hE_0_89_1
  have e_hE_0_93_1 := funext hE_0_93_1; subst e_hE_0_93_1
  first
    | exact upi_start ‹UPC _ _ _ _ _ _ _ _ _ _ _ _ _ _› (by omega) (by omega) (by omega)
    | exact upi_step2 (gi := x8) (g2 := x12) ‹UPI _ _ _ _ _ _ _ _ _ _ _ _ _ _› (by omega) (by omega) (by assumption) (by omega) (by omega) (by omega) (by assumption) (by assumption) (Or.inr ⟨by omega, by assumption, by assumption, rfl⟩) (by assumption)
    | exact upi_step2 (gi := x8) (g2 := x12) (v := x13) ‹UPI _ _ _ _ _ _ _ _ _ _ _ _ _ _› (by omega) (by omega) (by assumption) (by omega) (by omega) (by omega) (by assumption) (by assumption) (Or.inl ⟨by omega, by assumption, by assumption, by omega⟩) (by assumption)
set_option maxHeartbeats 4000000 in
theorem vc_Mo_up_20_1 (x5 : Int) (x6 : Int) (x13 : Int) (pointMany_0 : Int) (goes_1 : Int → Int) (pointMany_1 : Int) (spot_1 : Int → Int) (costA_1 : Int → Int) (costB_1 : Int → Int) (costW_1 : Int → Int) (costPlain_1 : Int → Int) (apartA_1 : Int → Int) (apartB_1 : Int → Int) (apart_1 : Int → Int) (costMany_1 : Int) (apartMany_1 : Int) (costMany_0 : Int) (apartMany_0 : Int) (spot_0 : Int → Int) (costA_0 : Int → Int) (costB_0 : Int → Int) (costW_0 : Int → Int) (costPlain_0 : Int → Int) (apartA_0 : Int → Int) (apartB_0 : Int → Int) (apart_0 : Int → Int) (goes_0 : Int → Int) (k5 : 0 ≤ x5 ∧ x5 ≤ 75) (k6 : 1 ≤ x6 ∧ x6 ≤ 76) (k13 : 1 ≤ x13 ∧ x13 ≤ 76) (d0 : x5 + 1 ≤ x13 ∧ x13 ≤ x5 + 1) (d1 : x6 + (-4294967296) ≤ x13 ∧ x13 ≤ x6 + 0) (d6 : x6 + (-4294967296) ≤ x5 ∧ x5 ≤ x6 + (-1)) (g15 : x6 = pointMany_1) (fe_0_79_1 : pointMany_0 = pointMany_1) (fe_0_80_1 : costMany_0 = costMany_1) (fe_0_81_1 : apartMany_0 = apartMany_1) (hE_0_82_1 : ∀ j : Int, spot_0 j = spot_1 j) (hE_0_83_1 : ∀ j : Int, costA_0 j = costA_1 j) (hE_0_84_1 : ∀ j : Int, costB_0 j = costB_1 j) (hE_0_85_1 : ∀ j : Int, costW_0 j = costW_1 j) (hE_0_86_1 : ∀ j : Int, costPlain_0 j = costPlain_1 j) (hE_0_87_1 : ∀ j : Int, apartA_0 j = apartA_1 j) (hE_0_88_1 : ∀ j : Int, apartB_0 j = apartB_1 j) (hE_0_89_1 : ∀ j : Int, apart_0 j = apart_1 j) (hE_0_93_1 : ∀ j : Int, goes_0 j = goes_1 j) (kz_0_79 : 0 ≤ pointMany_0 ∧ pointMany_0 ≤ 76) (kz_0_80 : 0 ≤ costMany_0 ∧ costMany_0 ≤ 200) (kz_0_81 : 0 ≤ apartMany_0 ∧ apartMany_0 ≤ 200) : x13 ≤ pointMany_0 := by
  subst fe_0_79_1
  subst fe_0_80_1
  subst fe_0_81_1
  have e_hE_0_82_1 := funext hE_0_82_1; subst e_hE_0_82_1
  have e_hE_0_83_1 := funext hE_0_83_1; subst e_hE_0_83_1
  have e_hE_0_84_1 := funext hE_0_84_1; subst e_hE_0_84_1
  have e_hE_0_85_1 := funext hE_0_85_1; subst e_hE_0_85_1
  have e_hE_0_86_1 := funext hE_0_86_1; subst e_hE_0_86_1
  have e_hE_0_87_1 := funext hE_0_87_1; subst e_hE_0_87_1
  have e_hE_0_88_1 := funext hE_0_88_1; subst e_hE_0_88_1
  have e_hE_0_89_1 := funext hE_0_89_1; subst e_hE_0_89_1
  have e_hE_0_93_1 := funext hE_0_93_1; subst e_hE_0_93_1
  omega
def o_Mo_up_20 : or_T := (283, 14, [(0, (2, 0, 0, [165])), (2, (0, 2, 78, [])), (3, (0, 0, 76, [])), (4, (0, 1, 77, [])), (5, (0, 0, 75, [])), (6, (0, 1, 76, [])), (8, (0, 0, 14400, [])), (9, (2, 0, 0, [227])), (10, (0, 0, 5850, [])), (11, (0, 1, 5927, [])), (12, (0, 0, 14400, [])), (13, (0, 1, 76, []))], [(6, [13, 5], [1]), (24, [0, 1], []), (100, [9, 11, 12], []), (10, [12, 7, 5], []), (9, [7, 1], [93]), (1, [11, 10, 4], []), (3, [10, 2, 5], []), (9, [9, 1], [90]), (8, [8], [3]), (10, [8, 7, 5], []), (9, [6, 1], [79]), (20, [2, 1], [50, 1, 0, 1079, 1, 2, 1, 0, 4, 3, 2, 1, 79, 0, 2]), (20, [3, 1], [50, 1, 0, 1079, 1, 2, 1, 0, 2, 1, 79]), (20, [4, 1], [50, 1, 0, 1079, 1, 2, 1, 0, 4, 3, 2, 1, 79, 0, 1]), (20, [1, 5], [60, 3, 10, 414, 79, 80, 81, 90, 93, 82, 83, 84, 85, 86, 87, 88, 89])], [], [], [(20, [1, 13], [60, 3, 10, 414, 79, 80, 81, 90, 93, 82, 83, 84, 85, 86, 87, 88, 89]), (20, [13, 1], [50, 1, 0, 1079, 0, 2, 1, 0, 2, 1, 79])], [], [(13, 5, 1, 1), (13, 6, -4294967296, 0), (11, 4, 0, 5850), (11, 2, -4294967296, 5849), (11, 3, -4294967296, 5851), (11, 10, 1, 77), (5, 6, -4294967296, -1)])
theorem oo_Mo_up_20 {kA : Nat → ClassId} : or_ok PRD kA GG o_Mo_up_20 := by
  refine or_mk fun A ta ws vs hD hth hl => ?_
  intro t0 r0 t2 k2 t3 k3 t4 k4 t5 k5 t6 k6 t8 k8 t9 r9 t10 k10 t11 k11 t12 k12 t13 k13 d0 d1 d2 d3 d4 d5 d6 f0 f5 ta1 w1 le1 s1 f7 f8 f9 f10 f11 f12 f13 f15 f16 f17 f18 f19
  replace f0 := shm_4 f0
  replace f5 := shm_5 f5
  have s1 : (∀ b j, w_el ws b j = if b = v_ad (n_v vs 9) ∧ j = (v_iv (n_v vs 11)).toNat then v_iv (n_v vs 12) else w_el w1 b j) ∧ ∀ b k, w_fd ws b k = w_fd w1 b k := s1.2
  replace f7 := shm_107 f7
  replace f8 := shm_1162 f8
  replace f9 := shm_12 f9
  replace f10 := shm_38 f10
  replace f11 := shm_962 f11
  replace f12 := shm_32 f12
  replace f13 := shm_107 f13
  replace f15 := shm_1155 f15
  replace f16 := shm_942 f16
  replace f17 := shm_943 f17
  replace f18 := shm_944 f18
  replace f19 := shm_1163 f19
  have q1 : n_v vs 1 = n_v vs 0 := f5.symm
  simp only [q1] at f8 f11 f15 f16 f17 f18 f19
  have ar_0_82_1 : w_ar w1 (n_v vs 0) 82 = w_ar ws (n_v vs 0) 82 := congrArg v_ad (s1.2 _ _).symm
  have cr_0_82 := fdq_230 hD hth r0
  have ar_0_83_1 : w_ar w1 (n_v vs 0) 83 = w_ar ws (n_v vs 0) 83 := congrArg v_ad (s1.2 _ _).symm
  have cr_0_83 := fdq_126 hD hth r0
  have ar_0_84_1 : w_ar w1 (n_v vs 0) 84 = w_ar ws (n_v vs 0) 84 := congrArg v_ad (s1.2 _ _).symm
  have cr_0_84 := fdq_127 hD hth r0
  have ar_0_85_1 : w_ar w1 (n_v vs 0) 85 = w_ar ws (n_v vs 0) 85 := congrArg v_ad (s1.2 _ _).symm
  have cr_0_85 := fdq_128 hD hth r0
  have ar_0_86_1 : w_ar w1 (n_v vs 0) 86 = w_ar ws (n_v vs 0) 86 := congrArg v_ad (s1.2 _ _).symm
  have cr_0_86 := fdq_129 hD hth r0
  have ar_0_87_1 : w_ar w1 (n_v vs 0) 87 = w_ar ws (n_v vs 0) 87 := congrArg v_ad (s1.2 _ _).symm
  have cr_0_87 := fdq_119 hD hth r0
  have ar_0_88_1 : w_ar w1 (n_v vs 0) 88 = w_ar ws (n_v vs 0) 88 := congrArg v_ad (s1.2 _ _).symm
  have cr_0_88 := fdq_120 hD hth r0
  have ar_0_89_1 : w_ar w1 (n_v vs 0) 89 = w_ar ws (n_v vs 0) 89 := congrArg v_ad (s1.2 _ _).symm
  have cr_0_89 := fdq_121 hD hth r0
  have ar_0_90_1 : w_ar w1 (n_v vs 0) 90 = w_ar ws (n_v vs 0) 90 := congrArg v_ad (s1.2 _ _).symm
  have ar_0_93_1 : w_ar w1 (n_v vs 0) 93 = w_ar ws (n_v vs 0) 93 := congrArg v_ad (s1.2 _ _).symm
  have cr_0_93 := fdq_276 hD hth r0
  have ad_7 : v_ad (n_v vs 7) = w_ar ws (n_v vs 0) 93 := (congrArg v_ad f8).trans ar_0_93_1
  have ad_9 : v_ad (n_v vs 9) = w_ar ws (n_v vs 0) 90 := (congrArg v_ad f11).trans ar_0_90_1
  simp only [ad_7] at f7
  have h7 : v_iv (n_v vs 12) = w_ei w1 (w_ar ws (n_v vs 0) 93) (v_iv (n_v vs 5)) := f7
  simp only [ad_7] at f13
  have h13 : v_iv (n_v vs 8) = w_ei w1 (w_ar ws (n_v vs 0) 93) (v_iv (n_v vs 5)) := f13
  have g15 : v_iv (n_v vs 6) = w_fi w1 (n_v vs 0) 79 := congrArg v_iv f15
  simp only [ar_0_82_1, ar_0_83_1, ar_0_84_1, ar_0_85_1, ar_0_86_1, ar_0_87_1, ar_0_88_1, ar_0_89_1, ar_0_90_1, ar_0_93_1] at f19
  have fe_0_79_1 : w_fi ws (n_v vs 0) 79 = w_fi w1 (n_v vs 0) 79 := congrArg v_iv (s1.2 _ _)
  have fe_0_80_1 : w_fi ws (n_v vs 0) 80 = w_fi w1 (n_v vs 0) 80 := congrArg v_iv (s1.2 _ _)
  have fe_0_81_1 : w_fi ws (n_v vs 0) 81 = w_fi w1 (n_v vs 0) 81 := congrArg v_iv (s1.2 _ _)
  have hE_0_82_1 : ∀ j : Int, w_ei ws (w_ar ws (n_v vs 0) 82) j = w_ei w1 (w_ar ws (n_v vs 0) 82) j := el_kp s1.1 r9 cr_0_82 (by decide)
  have hE_0_83_1 : ∀ j : Int, w_ei ws (w_ar ws (n_v vs 0) 83) j = w_ei w1 (w_ar ws (n_v vs 0) 83) j := el_kp s1.1 r9 cr_0_83 (by decide)
  have hE_0_84_1 : ∀ j : Int, w_ei ws (w_ar ws (n_v vs 0) 84) j = w_ei w1 (w_ar ws (n_v vs 0) 84) j := el_kp s1.1 r9 cr_0_84 (by decide)
  have hE_0_85_1 : ∀ j : Int, w_ei ws (w_ar ws (n_v vs 0) 85) j = w_ei w1 (w_ar ws (n_v vs 0) 85) j := el_kp s1.1 r9 cr_0_85 (by decide)
  have hE_0_86_1 : ∀ j : Int, w_ei ws (w_ar ws (n_v vs 0) 86) j = w_ei w1 (w_ar ws (n_v vs 0) 86) j := el_kp s1.1 r9 cr_0_86 (by decide)
  have hE_0_87_1 : ∀ j : Int, w_ei ws (w_ar ws (n_v vs 0) 87) j = w_ei w1 (w_ar ws (n_v vs 0) 87) j := el_kp s1.1 r9 cr_0_87 (by decide)
  have hE_0_88_1 : ∀ j : Int, w_ei ws (w_ar ws (n_v vs 0) 88) j = w_ei w1 (w_ar ws (n_v vs 0) 88) j := el_kp s1.1 r9 cr_0_88 (by decide)
  have hE_0_89_1 : ∀ j : Int, w_ei ws (w_ar ws (n_v vs 0) 89) j = w_ei w1 (w_ar ws (n_v vs 0) 89) j := el_kp s1.1 r9 cr_0_89 (by decide)
  have hE_0_90_1 : ∀ j : Int, 0 ≤ j → (j = v_iv (n_v vs 11) → w_ei ws (w_ar ws (n_v vs 0) 90) j = v_iv (n_v vs 12)) ∧ (j ≠ v_iv (n_v vs 11) → w_ei ws (w_ar ws (n_v vs 0) 90) j = w_ei w1 (w_ar ws (n_v vs 0) 90) j) := fun j hj => ⟨fun h => by unfold w_ei; rw [s1.1, if_pos ⟨ad_9.symm, by rw [h]⟩], fun h => by unfold w_ei; rw [s1.1, if_neg (fun e => h (by have := e.2; omega))]⟩
  have hE_0_93_1 : ∀ j : Int, w_ei ws (w_ar ws (n_v vs 0) 93) j = w_ei w1 (w_ar ws (n_v vs 0) 93) j := el_kp s1.1 r9 cr_0_93 (by decide)
  have kz_0_79 := fdq_147 hD hth r0
  have kz_0_80 := fdq_131 hD hth r0
  have kz_0_81 := fdq_124 hD hth r0
  have nf0 : fc_1 PRD (20, [1, 13], [60, 3, 10, 414, 79, 80, 81, 90, 93, 82, 83, 84, 85, 86, 87, 88, 89]) ws (vs) := by
    refine ⟨nf_in hl rfl, sgq_1163 ?_⟩
    · show UPI (w_fi ws (n_v vs 1) 79) (w_fi ws (n_v vs 1) 80) (w_fi ws (n_v vs 1) 81) (w_ei ws (w_ar ws (n_v vs 1) 90)) (w_ei ws (w_ar ws (n_v vs 1) 93)) (w_ei ws (w_ar ws (n_v vs 1) 82)) (w_ei ws (w_ar ws (n_v vs 1) 83)) (w_ei ws (w_ar ws (n_v vs 1) 84)) (w_ei ws (w_ar ws (n_v vs 1) 85)) (w_ei ws (w_ar ws (n_v vs 1) 86)) (w_ei ws (w_ar ws (n_v vs 1) 87)) (w_ei ws (w_ar ws (n_v vs 1) 88)) (w_ei ws (w_ar ws (n_v vs 1) 89)) (v_iv (n_v vs 13))
      rw [q1]
      exact vc_Mo_up_20_0 (v_iv (n_v vs 2)) (v_iv (n_v vs 3)) (v_iv (n_v vs 4)) (v_iv (n_v vs 5)) (v_iv (n_v vs 6)) (v_iv (n_v vs 8)) (v_iv (n_v vs 10)) (v_iv (n_v vs 11)) (v_iv (n_v vs 12)) (v_iv (n_v vs 13)) (w_fi ws (n_v vs 0) 79) (w_ei w1 (w_ar ws (n_v vs 0) 93)) (w_fi w1 (n_v vs 0) 79) (w_ei w1 (w_ar ws (n_v vs 0) 90)) (w_ei w1 (w_ar ws (n_v vs 0) 82)) (w_ei w1 (w_ar ws (n_v vs 0) 83)) (w_ei w1 (w_ar ws (n_v vs 0) 84)) (w_ei w1 (w_ar ws (n_v vs 0) 85)) (w_ei w1 (w_ar ws (n_v vs 0) 86)) (w_ei w1 (w_ar ws (n_v vs 0) 87)) (w_ei w1 (w_ar ws (n_v vs 0) 88)) (w_ei w1 (w_ar ws (n_v vs 0) 89)) (w_fi w1 (n_v vs 0) 80) (w_fi w1 (n_v vs 0) 81) (w_fi ws (n_v vs 0) 80) (w_fi ws (n_v vs 0) 81) (w_ei ws (w_ar ws (n_v vs 0) 82)) (w_ei ws (w_ar ws (n_v vs 0) 83)) (w_ei ws (w_ar ws (n_v vs 0) 84)) (w_ei ws (w_ar ws (n_v vs 0) 85)) (w_ei ws (w_ar ws (n_v vs 0) 86)) (w_ei ws (w_ar ws (n_v vs 0) 87)) (w_ei ws (w_ar ws (n_v vs 0) 88)) (w_ei ws (w_ar ws (n_v vs 0) 89)) (w_ei ws (w_ar ws (n_v vs 0) 90)) (w_ei ws (w_ar ws (n_v vs 0) 93)) k2 k3 k4 k5 k6 k8 k10 k11 k12 k13 d0 d1 d6 f0 h7 f9 f10 f12 h13 g15 f16 f17 f18 f19 fe_0_79_1 fe_0_80_1 fe_0_81_1 hE_0_82_1 hE_0_83_1 hE_0_84_1 hE_0_85_1 hE_0_86_1 hE_0_87_1 hE_0_88_1 hE_0_89_1 hE_0_90_1 hE_0_93_1 kz_0_79 kz_0_80 kz_0_81
  have nf1 : fc_1 PRD (20, [13, 1], [50, 1, 0, 1079, 0, 2, 1, 0, 2, 1, 79]) ws (vs) := by
    refine ⟨nf_in hl rfl, sgq_1164 ?_⟩
    · show v_iv (n_v vs 13) ≤ w_fi ws (n_v vs 1) 79
      rw [q1]
      exact vc_Mo_up_20_1 (v_iv (n_v vs 5)) (v_iv (n_v vs 6)) (v_iv (n_v vs 13)) (w_fi ws (n_v vs 0) 79) (w_ei w1 (w_ar ws (n_v vs 0) 93)) (w_fi w1 (n_v vs 0) 79) (w_ei w1 (w_ar ws (n_v vs 0) 82)) (w_ei w1 (w_ar ws (n_v vs 0) 83)) (w_ei w1 (w_ar ws (n_v vs 0) 84)) (w_ei w1 (w_ar ws (n_v vs 0) 85)) (w_ei w1 (w_ar ws (n_v vs 0) 86)) (w_ei w1 (w_ar ws (n_v vs 0) 87)) (w_ei w1 (w_ar ws (n_v vs 0) 88)) (w_ei w1 (w_ar ws (n_v vs 0) 89)) (w_fi w1 (n_v vs 0) 80) (w_fi w1 (n_v vs 0) 81) (w_fi ws (n_v vs 0) 80) (w_fi ws (n_v vs 0) 81) (w_ei ws (w_ar ws (n_v vs 0) 82)) (w_ei ws (w_ar ws (n_v vs 0) 83)) (w_ei ws (w_ar ws (n_v vs 0) 84)) (w_ei ws (w_ar ws (n_v vs 0) 85)) (w_ei ws (w_ar ws (n_v vs 0) 86)) (w_ei ws (w_ar ws (n_v vs 0) 87)) (w_ei ws (w_ar ws (n_v vs 0) 88)) (w_ei ws (w_ar ws (n_v vs 0) 89)) (w_ei ws (w_ar ws (n_v vs 0) 93)) k5 k6 k13 d0 d1 d6 g15 fe_0_79_1 fe_0_80_1 fe_0_81_1 hE_0_82_1 hE_0_83_1 hE_0_84_1 hE_0_85_1 hE_0_86_1 hE_0_87_1 hE_0_88_1 hE_0_89_1 hE_0_93_1 kz_0_79 kz_0_80 kz_0_81
  refine ⟨(fun _ h => (by cases h)), [], trivial, ?_, (fun _ h => (by cases h))⟩
  rw [List.append_nil]
  exact List.forall_mem_cons.mpr ⟨⟨show (20 : Nat) < 100 from by decide, nf0⟩, List.forall_mem_cons.mpr ⟨⟨show (20 : Nat) < 100 from by decide, nf1⟩, (fun _ h => (by cases h))⟩⟩
set_option maxHeartbeats 4000000 in
theorem vc_Mo_up_21_r0 (x2 : Int) (x3 : Int) (x5 : Int) (x6 : Int) (x8 : Int) (x10 : Int) (x11 : Int) (x12 : Int) (x13 : Int) (goes_0 : Int → Int) (pointMany_0 : Int) (flow_0 : Int → Int) (spot_0 : Int → Int) (costA_0 : Int → Int) (costB_0 : Int → Int) (costW_0 : Int → Int) (costPlain_0 : Int → Int) (apartA_0 : Int → Int) (apartB_0 : Int → Int) (apart_0 : Int → Int) (costMany_0 : Int) (apartMany_0 : Int) (k2 : 2 ≤ x2 ∧ x2 ≤ 78) (k3 : 0 ≤ x3 ∧ x3 ≤ 76) (k5 : 0 ≤ x5 ∧ x5 ≤ 75) (k6 : 1 ≤ x6 ∧ x6 ≤ 76) (k8 : (-14400) ≤ x8 ∧ x8 ≤ (-1)) (k10 : 0 ≤ x10 ∧ x10 ≤ 5928) (k11 : 0 ≤ x11 ∧ x11 ≤ 6003) (k12 : (-14400) ≤ x12 ∧ x12 ≤ 14400) (k13 : (-14400) ≤ x13 ∧ x13 ≤ 14400) (d3 : x6 + (-4294967296) ≤ x5 ∧ x5 ≤ x6 + (-1)) (f0 : x13 = x12 * (-1)) (h1 : x12 = goes_0 (x5)) (f3 : x11 = x10 + x5) (f4 : x10 = x2 * x3) (h7 : x8 = goes_0 (x5)) (g9 : x6 = pointMany_0) (f13 : UPI (pointMany_0) (costMany_0) (apartMany_0) (flow_0) (goes_0) (spot_0) (costA_0) (costB_0) (costW_0) (costPlain_0) (apartA_0) (apartB_0) (apart_0) (x5)) (kz_0_79 : 0 ≤ pointMany_0 ∧ pointMany_0 ≤ 76) (kz_0_80 : 0 ≤ costMany_0 ∧ costMany_0 ≤ 200) (kz_0_81 : 0 ≤ apartMany_0 ∧ apartMany_0 ≤ 200) : 0 ≤ x13 ∧ x13 ≤ 14400 := by
  have h := upi_bd ‹UPI _ _ _ _ _ _ _ _ _ _ _ _ _ _› (by omega) (by omega)
  omega
def o_Mo_up_21 : or_T := (320, 14, [(0, (2, 0, 0, [165])), (1, (2, 0, 0, [165])), (2, (0, 2, 78, [])), (3, (0, 0, 76, [])), (4, (0, 1, 77, [])), (5, (0, 0, 75, [])), (6, (0, 1, 76, [])), (7, (2, 0, 0, [230])), (8, (0, -14400, -1, [])), (9, (2, 0, 0, [227])), (10, (0, 0, 5928, [])), (11, (0, 0, 6003, [])), (12, (0, -14400, 14400, [])), (13, (0, -14400, 14400, []))], [(15, [13, 12], [-1]), (10, [12, 7, 5], []), (9, [7, 1], [93]), (1, [11, 10, 5], []), (3, [10, 2, 3], []), (9, [9, 1], [90]), (8, [8], [2]), (10, [8, 7, 5], []), (7, [5, 6], [2]), (9, [6, 1], [79]), (20, [2, 1], [50, 1, 0, 1079, 1, 2, 1, 0, 4, 3, 2, 1, 79, 0, 2]), (20, [3, 1], [50, 1, 0, 1079, 1, 2, 1, 0, 2, 1, 79]), (20, [4, 1], [50, 1, 0, 1079, 1, 2, 1, 0, 4, 3, 2, 1, 79, 0, 1]), (20, [1, 5], [60, 3, 10, 414, 79, 80, 81, 90, 93, 82, 83, 84, 85, 86, 87, 88, 89]), (20, [5, 1], [50, 1, 0, 1079, 0, 2, 1, 0, 2, 1, 79]), (24, [0, 1], [])], [(13, (0, 0, 14400, []))], [], [], [], [(11, 5, 0, 5928), (11, 6, -4294967296, 5927), (11, 10, 0, 75), (5, 6, -4294967296, -1), (2, 3, -4294967296, 2), (2, 4, -4294967296, 1), (3, 2, -4294967296, -2), (3, 4, -4294967296, -1), (4, 2, -4294967296, -1), (4, 3, -4294967296, 1)])
theorem oo_Mo_up_21 {kA : Nat → ClassId} : or_ok PRD kA GG o_Mo_up_21 := by
  refine or_mk fun A ta ws vs hD hth hl => ?_
  intro t0 r0 t1 r1 t2 k2 t3 k3 t4 k4 t5 k5 t6 k6 t7 r7 t8 k8 t9 r9 t10 k10 t11 k11 t12 k12 t13 k13 d0 d1 d2 d3 d4 d5 d6 d7 d8 d9 f0 f1 f2 f3 f4 f5 f6 f7 f8 f9 f10 f11 f12 f13 f14 f15
  replace f1 := shm_107 f1
  replace f2 := shm_1162 f2
  replace f7 := shm_107 f7
  replace f9 := shm_1155 f9
  replace f13 := shm_1163 f13
  replace f15 := shm_5 f15
  have q1 : n_v vs 1 = n_v vs 0 := f15.symm
  simp only [q1] at f2 f9 f13
  have ad_7 : v_ad (n_v vs 7) = w_ar ws (n_v vs 0) 93 := congrArg v_ad f2
  simp only [ad_7] at f1
  have h1 : v_iv (n_v vs 12) = w_ei ws (w_ar ws (n_v vs 0) 93) (v_iv (n_v vs 5)) := f1
  simp only [ad_7] at f7
  have h7 : v_iv (n_v vs 8) = w_ei ws (w_ar ws (n_v vs 0) 93) (v_iv (n_v vs 5)) := f7
  have g9 : v_iv (n_v vs 6) = w_fi ws (n_v vs 0) 79 := congrArg v_iv f9
  have kz_0_79 := fdq_147 hD hth r0
  have kz_0_80 := fdq_131 hD hth r0
  have kz_0_81 := fdq_124 hD hth r0
  have hrf0 : 0 ≤ v_iv (n_v vs 13) ∧ v_iv (n_v vs 13) ≤ 14400 := vc_Mo_up_21_r0 (v_iv (n_v vs 2)) (v_iv (n_v vs 3)) (v_iv (n_v vs 5)) (v_iv (n_v vs 6)) (v_iv (n_v vs 8)) (v_iv (n_v vs 10)) (v_iv (n_v vs 11)) (v_iv (n_v vs 12)) (v_iv (n_v vs 13)) (w_ei ws (w_ar ws (n_v vs 0) 93)) (w_fi ws (n_v vs 0) 79) (w_ei ws (w_ar ws (n_v vs 0) 90)) (w_ei ws (w_ar ws (n_v vs 0) 82)) (w_ei ws (w_ar ws (n_v vs 0) 83)) (w_ei ws (w_ar ws (n_v vs 0) 84)) (w_ei ws (w_ar ws (n_v vs 0) 85)) (w_ei ws (w_ar ws (n_v vs 0) 86)) (w_ei ws (w_ar ws (n_v vs 0) 87)) (w_ei ws (w_ar ws (n_v vs 0) 88)) (w_ei ws (w_ar ws (n_v vs 0) 89)) (w_fi ws (n_v vs 0) 80) (w_fi ws (n_v vs 0) 81) k2 k3 k5 k6 k8 k10 k11 k12 k13 d3 (shm_538 f0) h1 (shm_12 f3) (shm_38 f4) h7 g9 f13 kz_0_79 kz_0_80 kz_0_81
  have rf13 : tv_ok ta (0, 0, 14400, []) (n_v vs 13) := tv_in t13 (by first | omega | grind) (by first | omega | grind)
  refine ⟨List.forall_mem_cons.mpr ⟨rf13, (fun _ h => (by cases h))⟩, [], trivial, ?_, (fun _ h => (by cases h))⟩
  rw [List.append_nil]
  exact (fun _ h => (by cases h))
set_option maxHeartbeats 4000000 in
theorem vc_Mo_up_22_0 (x2 : Int) (x3 : Int) (x4 : Int) (x5 : Int) (x6 : Int) (x8 : Int) (x10 : Int) (x11 : Int) (x12 : Int) (x13 : Int) (x14 : Int) (pointMany_0 : Int) (goes_1 : Int → Int) (pointMany_1 : Int) (flow_1 : Int → Int) (spot_1 : Int → Int) (costA_1 : Int → Int) (costB_1 : Int → Int) (costW_1 : Int → Int) (costPlain_1 : Int → Int) (apartA_1 : Int → Int) (apartB_1 : Int → Int) (apart_1 : Int → Int) (costMany_1 : Int) (apartMany_1 : Int) (costMany_0 : Int) (apartMany_0 : Int) (spot_0 : Int → Int) (costA_0 : Int → Int) (costB_0 : Int → Int) (costW_0 : Int → Int) (costPlain_0 : Int → Int) (apartA_0 : Int → Int) (apartB_0 : Int → Int) (apart_0 : Int → Int) (flow_0 : Int → Int) (goes_0 : Int → Int) (k2 : 2 ≤ x2 ∧ x2 ≤ 78) (k3 : 0 ≤ x3 ∧ x3 ≤ 76) (k4 : 1 ≤ x4 ∧ x4 ≤ 77) (k5 : 0 ≤ x5 ∧ x5 ≤ 75) (k6 : 1 ≤ x6 ∧ x6 ≤ 76) (k8 : (-14400) ≤ x8 ∧ x8 ≤ (-1)) (k10 : 0 ≤ x10 ∧ x10 ≤ 5928) (k11 : 0 ≤ x11 ∧ x11 ≤ 6003) (k12 : (-14400) ≤ x12 ∧ x12 ≤ 14400) (k13 : 0 ≤ x13 ∧ x13 ≤ 14400) (k14 : 1 ≤ x14 ∧ x14 ≤ 76) (d0 : x5 + 1 ≤ x14 ∧ x14 ≤ x5 + 1) (d1 : x6 + (-4294967296) ≤ x14 ∧ x14 ≤ x6 + 0) (d5 : x6 + (-4294967296) ≤ x5 ∧ x5 ≤ x6 + (-1)) (f0 : x14 = x5 + 1) (f7 : x13 = x12 * (-1)) (h8 : x12 = goes_1 (x5)) (f10 : x11 = x10 + x5) (f11 : x10 = x2 * x3) (f13 : x8 < 0) (h14 : x8 = goes_1 (x5)) (g16 : x6 = pointMany_1) (f17 : x2 = (pointMany_1 + 2)) (f18 : x3 = pointMany_1) (f19 : x4 = (pointMany_1 + 1)) (f20 : UPI (pointMany_1) (costMany_1) (apartMany_1) (flow_1) (goes_1) (spot_1) (costA_1) (costB_1) (costW_1) (costPlain_1) (apartA_1) (apartB_1) (apart_1) (x5)) (fe_0_79_1 : pointMany_0 = pointMany_1) (fe_0_80_1 : costMany_0 = costMany_1) (fe_0_81_1 : apartMany_0 = apartMany_1) (hE_0_82_1 : ∀ j : Int, spot_0 j = spot_1 j) (hE_0_83_1 : ∀ j : Int, costA_0 j = costA_1 j) (hE_0_84_1 : ∀ j : Int, costB_0 j = costB_1 j) (hE_0_85_1 : ∀ j : Int, costW_0 j = costW_1 j) (hE_0_86_1 : ∀ j : Int, costPlain_0 j = costPlain_1 j) (hE_0_87_1 : ∀ j : Int, apartA_0 j = apartA_1 j) (hE_0_88_1 : ∀ j : Int, apartB_0 j = apartB_1 j) (hE_0_89_1 : ∀ j : Int, apart_0 j = apart_1 j) (hE_0_90_1 : ∀ j : Int, 0 ≤ j → (j = x11 → flow_0 j = x13) ∧ (j ≠ x11 → flow_0 j = flow_1 j)) (hE_0_93_1 : ∀ j : Int, goes_0 j = goes_1 j) (kz_0_79 : 0 ≤ pointMany_0 ∧ pointMany_0 ≤ 76) (kz_0_80 : 0 ≤ costMany_0 ∧ costMany_0 ≤ 200) (kz_0_81 : 0 ≤ apartMany_0 ∧ apartMany_0 ≤ 200) : UPI (pointMany_0) (costMany_0) (apartMany_0) (flow_0) (goes_0) (spot_0) (costA_0) (costB_0) (costW_0) (costPlain_0) (apartA_0) (apartB_0) (apart_0) (x14) := by
  subst fe_0_79_1
  subst fe_0_80_1
  subst fe_0_81_1
  have e_hE_0_82_1 := funext hE_0_82_1; subst e_hE_0_82_1
  have e_hE_0_83_1 := funext hE_0_83_1; subst e_hE_0_83_1
  have e_hE_0_84_1 := funext hE_0_84_1; subst e_hE_0_84_1
  have e_hE_0_85_1 := funext hE_0_85_1; subst e_hE_0_85_1
  have e_hE_0_86_1 := funext hE_0_86_1; subst e_hE_0_86_1
  have e_hE_0_87_1 := funext hE_0_87_1; subst e_hE_0_87_1
  have e_hE_0_88_1 := funext hE_0_88_1; subst e_hE_0_88_1
  have e_hE_0_89_1 := funext hE_0_89_1; subst e_hE_0_89_1
  have e_hE_0_93_1 := funext hE_0_93_1; subst e_hE_0_93_1
  first
    | exact upi_start ‹UPC _ _ _ _ _ _ _ _ _ _ _ _ _ _› (by omega) (by omega) (by omega)
    | exact upi_step2 (gi := x8) (g2 := x12) ‹UPI _ _ _ _ _ _ _ _ _ _ _ _ _ _› (by omega) (by omega) (by assumption) (by omega) (by omega) (by omega) (by assumption) (by assumption) (Or.inr ⟨by omega, by assumption, by assumption, rfl⟩) (by assumption)
    | exact upi_step2 (gi := x8) (g2 := x12) (v := x13) ‹UPI _ _ _ _ _ _ _ _ _ _ _ _ _ _› (by omega) (by omega) (by assumption) (by omega) (by omega) (by omega) (by assumption) (by assumption) (Or.inl ⟨by omega, by assumption, by assumption, by omega⟩) (by assumption)
set_option maxHeartbeats 4000000 in
theorem vc_Mo_up_22_1 (x5 : Int) (x6 : Int) (x14 : Int) (pointMany_0 : Int) (goes_1 : Int → Int) (pointMany_1 : Int) (spot_1 : Int → Int) (costA_1 : Int → Int) (costB_1 : Int → Int) (costW_1 : Int → Int) (costPlain_1 : Int → Int) (apartA_1 : Int → Int) (apartB_1 : Int → Int) (apart_1 : Int → Int) (costMany_1 : Int) (apartMany_1 : Int) (costMany_0 : Int) (apartMany_0 : Int) (spot_0 : Int → Int) (costA_0 : Int → Int) (costB_0 : Int → Int) (costW_0 : Int → Int) (costPlain_0 : Int → Int) (apartA_0 : Int → Int) (apartB_0 : Int → Int) (apart_0 : Int → Int) (goes_0 : Int → Int) (k5 : 0 ≤ x5 ∧ x5 ≤ 75) (k6 : 1 ≤ x6 ∧ x6 ≤ 76) (k14 : 1 ≤ x14 ∧ x14 ≤ 76) (d0 : x5 + 1 ≤ x14 ∧ x14 ≤ x5 + 1) (d1 : x6 + (-4294967296) ≤ x14 ∧ x14 ≤ x6 + 0) (d5 : x6 + (-4294967296) ≤ x5 ∧ x5 ≤ x6 + (-1)) (g16 : x6 = pointMany_1) (fe_0_79_1 : pointMany_0 = pointMany_1) (fe_0_80_1 : costMany_0 = costMany_1) (fe_0_81_1 : apartMany_0 = apartMany_1) (hE_0_82_1 : ∀ j : Int, spot_0 j = spot_1 j) (hE_0_83_1 : ∀ j : Int, costA_0 j = costA_1 j) (hE_0_84_1 : ∀ j : Int, costB_0 j = costB_1 j) (hE_0_85_1 : ∀ j : Int, costW_0 j = costW_1 j) (hE_0_86_1 : ∀ j : Int, costPlain_0 j = costPlain_1 j) (hE_0_87_1 : ∀ j : Int, apartA_0 j = apartA_1 j) (hE_0_88_1 : ∀ j : Int, apartB_0 j = apartB_1 j) (hE_0_89_1 : ∀ j : Int, apart_0 j = apart_1 j) (hE_0_93_1 : ∀ j : Int, goes_0 j = goes_1 j) (kz_0_79 : 0 ≤ pointMany_0 ∧ pointMany_0 ≤ 76) (kz_0_80 : 0 ≤ costMany_0 ∧ costMany_0 ≤ 200) (kz_0_81 : 0 ≤ apartMany_0 ∧ apartMany_0 ≤ 200) : x14 ≤ pointMany_0 := by
  subst fe_0_79_1
  subst fe_0_80_1
  subst fe_0_81_1
  have e_hE_0_82_1 := funext hE_0_82_1; subst e_hE_0_82_1
  have e_hE_0_83_1 := funext hE_0_83_1; subst e_hE_0_83_1
  have e_hE_0_84_1 := funext hE_0_84_1; subst e_hE_0_84_1
  have e_hE_0_85_1 := funext hE_0_85_1; subst e_hE_0_85_1
  have e_hE_0_86_1 := funext hE_0_86_1; subst e_hE_0_86_1
  have e_hE_0_87_1 := funext hE_0_87_1; subst e_hE_0_87_1
  have e_hE_0_88_1 := funext hE_0_88_1; subst e_hE_0_88_1
  have e_hE_0_89_1 := funext hE_0_89_1; subst e_hE_0_89_1
  have e_hE_0_93_1 := funext hE_0_93_1; subst e_hE_0_93_1
  omega
def o_Mo_up_22 : or_T := (283, 15, [(0, (2, 0, 0, [165])), (2, (0, 2, 78, [])), (3, (0, 0, 76, [])), (4, (0, 1, 77, [])), (5, (0, 0, 75, [])), (6, (0, 1, 76, [])), (8, (0, -14400, -1, [])), (9, (2, 0, 0, [227])), (10, (0, 0, 5928, [])), (11, (0, 0, 6003, [])), (12, (0, -14400, 14400, [])), (13, (0, 0, 14400, [])), (14, (0, 1, 76, []))], [(6, [14, 5], [1]), (24, [0, 1], []), (100, [9, 11, 13], []), (15, [13, 12], [-1]), (10, [12, 7, 5], []), (9, [7, 1], [93]), (1, [11, 10, 5], []), (3, [10, 2, 3], []), (9, [9, 1], [90]), (8, [8], [2]), (10, [8, 7, 5], []), (9, [6, 1], [79]), (20, [2, 1], [50, 1, 0, 1079, 1, 2, 1, 0, 4, 3, 2, 1, 79, 0, 2]), (20, [3, 1], [50, 1, 0, 1079, 1, 2, 1, 0, 2, 1, 79]), (20, [4, 1], [50, 1, 0, 1079, 1, 2, 1, 0, 4, 3, 2, 1, 79, 0, 1]), (20, [1, 5], [60, 3, 10, 414, 79, 80, 81, 90, 93, 82, 83, 84, 85, 86, 87, 88, 89])], [], [], [(20, [1, 14], [60, 3, 10, 414, 79, 80, 81, 90, 93, 82, 83, 84, 85, 86, 87, 88, 89]), (20, [14, 1], [50, 1, 0, 1079, 0, 2, 1, 0, 2, 1, 79])], [], [(14, 5, 1, 1), (14, 6, -4294967296, 0), (11, 5, 0, 5928), (11, 6, -4294967296, 5927), (11, 10, 0, 75), (5, 6, -4294967296, -1)])
theorem oo_Mo_up_22 {kA : Nat → ClassId} : or_ok PRD kA GG o_Mo_up_22 := by
  refine or_mk fun A ta ws vs hD hth hl => ?_
  intro t0 r0 t2 k2 t3 k3 t4 k4 t5 k5 t6 k6 t8 k8 t9 r9 t10 k10 t11 k11 t12 k12 t13 k13 t14 k14 d0 d1 d2 d3 d4 d5 f0 f5 ta1 w1 le1 s1 f7 f8 f9 f10 f11 f12 f13 f14 f16 f17 f18 f19 f20
  replace f0 := shm_4 f0
  replace f5 := shm_5 f5
  have s1 : (∀ b j, w_el ws b j = if b = v_ad (n_v vs 9) ∧ j = (v_iv (n_v vs 11)).toNat then v_iv (n_v vs 13) else w_el w1 b j) ∧ ∀ b k, w_fd ws b k = w_fd w1 b k := s1.2
  replace f7 := shm_538 f7
  replace f8 := shm_107 f8
  replace f9 := shm_1162 f9
  replace f10 := shm_12 f10
  replace f11 := shm_38 f11
  replace f12 := shm_962 f12
  replace f13 := shm_39 f13
  replace f14 := shm_107 f14
  replace f16 := shm_1155 f16
  replace f17 := shm_942 f17
  replace f18 := shm_943 f18
  replace f19 := shm_944 f19
  replace f20 := shm_1163 f20
  have q1 : n_v vs 1 = n_v vs 0 := f5.symm
  simp only [q1] at f9 f12 f16 f17 f18 f19 f20
  have ar_0_82_1 : w_ar w1 (n_v vs 0) 82 = w_ar ws (n_v vs 0) 82 := congrArg v_ad (s1.2 _ _).symm
  have cr_0_82 := fdq_230 hD hth r0
  have ar_0_83_1 : w_ar w1 (n_v vs 0) 83 = w_ar ws (n_v vs 0) 83 := congrArg v_ad (s1.2 _ _).symm
  have cr_0_83 := fdq_126 hD hth r0
  have ar_0_84_1 : w_ar w1 (n_v vs 0) 84 = w_ar ws (n_v vs 0) 84 := congrArg v_ad (s1.2 _ _).symm
  have cr_0_84 := fdq_127 hD hth r0
  have ar_0_85_1 : w_ar w1 (n_v vs 0) 85 = w_ar ws (n_v vs 0) 85 := congrArg v_ad (s1.2 _ _).symm
  have cr_0_85 := fdq_128 hD hth r0
  have ar_0_86_1 : w_ar w1 (n_v vs 0) 86 = w_ar ws (n_v vs 0) 86 := congrArg v_ad (s1.2 _ _).symm
  have cr_0_86 := fdq_129 hD hth r0
  have ar_0_87_1 : w_ar w1 (n_v vs 0) 87 = w_ar ws (n_v vs 0) 87 := congrArg v_ad (s1.2 _ _).symm
  have cr_0_87 := fdq_119 hD hth r0
  have ar_0_88_1 : w_ar w1 (n_v vs 0) 88 = w_ar ws (n_v vs 0) 88 := congrArg v_ad (s1.2 _ _).symm
  have cr_0_88 := fdq_120 hD hth r0
  have ar_0_89_1 : w_ar w1 (n_v vs 0) 89 = w_ar ws (n_v vs 0) 89 := congrArg v_ad (s1.2 _ _).symm
  have cr_0_89 := fdq_121 hD hth r0
  have ar_0_90_1 : w_ar w1 (n_v vs 0) 90 = w_ar ws (n_v vs 0) 90 := congrArg v_ad (s1.2 _ _).symm
  have ar_0_93_1 : w_ar w1 (n_v vs 0) 93 = w_ar ws (n_v vs 0) 93 := congrArg v_ad (s1.2 _ _).symm
  have cr_0_93 := fdq_276 hD hth r0
  have ad_7 : v_ad (n_v vs 7) = w_ar ws (n_v vs 0) 93 := (congrArg v_ad f9).trans ar_0_93_1
  have ad_9 : v_ad (n_v vs 9) = w_ar ws (n_v vs 0) 90 := (congrArg v_ad f12).trans ar_0_90_1
  simp only [ad_7] at f8
  have h8 : v_iv (n_v vs 12) = w_ei w1 (w_ar ws (n_v vs 0) 93) (v_iv (n_v vs 5)) := f8
  simp only [ad_7] at f14
  have h14 : v_iv (n_v vs 8) = w_ei w1 (w_ar ws (n_v vs 0) 93) (v_iv (n_v vs 5)) := f14
  have g16 : v_iv (n_v vs 6) = w_fi w1 (n_v vs 0) 79 := congrArg v_iv f16
  simp only [ar_0_82_1, ar_0_83_1, ar_0_84_1, ar_0_85_1, ar_0_86_1, ar_0_87_1, ar_0_88_1, ar_0_89_1, ar_0_90_1, ar_0_93_1] at f20
  have fe_0_79_1 : w_fi ws (n_v vs 0) 79 = w_fi w1 (n_v vs 0) 79 := congrArg v_iv (s1.2 _ _)
  have fe_0_80_1 : w_fi ws (n_v vs 0) 80 = w_fi w1 (n_v vs 0) 80 := congrArg v_iv (s1.2 _ _)
  have fe_0_81_1 : w_fi ws (n_v vs 0) 81 = w_fi w1 (n_v vs 0) 81 := congrArg v_iv (s1.2 _ _)
  have hE_0_82_1 : ∀ j : Int, w_ei ws (w_ar ws (n_v vs 0) 82) j = w_ei w1 (w_ar ws (n_v vs 0) 82) j := el_kp s1.1 r9 cr_0_82 (by decide)
  have hE_0_83_1 : ∀ j : Int, w_ei ws (w_ar ws (n_v vs 0) 83) j = w_ei w1 (w_ar ws (n_v vs 0) 83) j := el_kp s1.1 r9 cr_0_83 (by decide)
  have hE_0_84_1 : ∀ j : Int, w_ei ws (w_ar ws (n_v vs 0) 84) j = w_ei w1 (w_ar ws (n_v vs 0) 84) j := el_kp s1.1 r9 cr_0_84 (by decide)
  have hE_0_85_1 : ∀ j : Int, w_ei ws (w_ar ws (n_v vs 0) 85) j = w_ei w1 (w_ar ws (n_v vs 0) 85) j := el_kp s1.1 r9 cr_0_85 (by decide)
  have hE_0_86_1 : ∀ j : Int, w_ei ws (w_ar ws (n_v vs 0) 86) j = w_ei w1 (w_ar ws (n_v vs 0) 86) j := el_kp s1.1 r9 cr_0_86 (by decide)
  have hE_0_87_1 : ∀ j : Int, w_ei ws (w_ar ws (n_v vs 0) 87) j = w_ei w1 (w_ar ws (n_v vs 0) 87) j := el_kp s1.1 r9 cr_0_87 (by decide)
  have hE_0_88_1 : ∀ j : Int, w_ei ws (w_ar ws (n_v vs 0) 88) j = w_ei w1 (w_ar ws (n_v vs 0) 88) j := el_kp s1.1 r9 cr_0_88 (by decide)
  have hE_0_89_1 : ∀ j : Int, w_ei ws (w_ar ws (n_v vs 0) 89) j = w_ei w1 (w_ar ws (n_v vs 0) 89) j := el_kp s1.1 r9 cr_0_89 (by decide)
  have hE_0_90_1 : ∀ j : Int, 0 ≤ j → (j = v_iv (n_v vs 11) → w_ei ws (w_ar ws (n_v vs 0) 90) j = v_iv (n_v vs 13)) ∧ (j ≠ v_iv (n_v vs 11) → w_ei ws (w_ar ws (n_v vs 0) 90) j = w_ei w1 (w_ar ws (n_v vs 0) 90) j) := fun j hj => ⟨fun h => by unfold w_ei; rw [s1.1, if_pos ⟨ad_9.symm, by rw [h]⟩], fun h => by unfold w_ei; rw [s1.1, if_neg (fun e => h (by have := e.2; omega))]⟩
  have hE_0_93_1 : ∀ j : Int, w_ei ws (w_ar ws (n_v vs 0) 93) j = w_ei w1 (w_ar ws (n_v vs 0) 93) j := el_kp s1.1 r9 cr_0_93 (by decide)
  have kz_0_79 := fdq_147 hD hth r0
  have kz_0_80 := fdq_131 hD hth r0
  have kz_0_81 := fdq_124 hD hth r0
  have nf0 : fc_1 PRD (20, [1, 14], [60, 3, 10, 414, 79, 80, 81, 90, 93, 82, 83, 84, 85, 86, 87, 88, 89]) ws (vs) := by
    refine ⟨nf_in hl rfl, sgq_1163 ?_⟩
    · show UPI (w_fi ws (n_v vs 1) 79) (w_fi ws (n_v vs 1) 80) (w_fi ws (n_v vs 1) 81) (w_ei ws (w_ar ws (n_v vs 1) 90)) (w_ei ws (w_ar ws (n_v vs 1) 93)) (w_ei ws (w_ar ws (n_v vs 1) 82)) (w_ei ws (w_ar ws (n_v vs 1) 83)) (w_ei ws (w_ar ws (n_v vs 1) 84)) (w_ei ws (w_ar ws (n_v vs 1) 85)) (w_ei ws (w_ar ws (n_v vs 1) 86)) (w_ei ws (w_ar ws (n_v vs 1) 87)) (w_ei ws (w_ar ws (n_v vs 1) 88)) (w_ei ws (w_ar ws (n_v vs 1) 89)) (v_iv (n_v vs 14))
      rw [q1]
      exact vc_Mo_up_22_0 (v_iv (n_v vs 2)) (v_iv (n_v vs 3)) (v_iv (n_v vs 4)) (v_iv (n_v vs 5)) (v_iv (n_v vs 6)) (v_iv (n_v vs 8)) (v_iv (n_v vs 10)) (v_iv (n_v vs 11)) (v_iv (n_v vs 12)) (v_iv (n_v vs 13)) (v_iv (n_v vs 14)) (w_fi ws (n_v vs 0) 79) (w_ei w1 (w_ar ws (n_v vs 0) 93)) (w_fi w1 (n_v vs 0) 79) (w_ei w1 (w_ar ws (n_v vs 0) 90)) (w_ei w1 (w_ar ws (n_v vs 0) 82)) (w_ei w1 (w_ar ws (n_v vs 0) 83)) (w_ei w1 (w_ar ws (n_v vs 0) 84)) (w_ei w1 (w_ar ws (n_v vs 0) 85)) (w_ei w1 (w_ar ws (n_v vs 0) 86)) (w_ei w1 (w_ar ws (n_v vs 0) 87)) (w_ei w1 (w_ar ws (n_v vs 0) 88)) (w_ei w1 (w_ar ws (n_v vs 0) 89)) (w_fi w1 (n_v vs 0) 80) (w_fi w1 (n_v vs 0) 81) (w_fi ws (n_v vs 0) 80) (w_fi ws (n_v vs 0) 81) (w_ei ws (w_ar ws (n_v vs 0) 82)) (w_ei ws (w_ar ws (n_v vs 0) 83)) (w_ei ws (w_ar ws (n_v vs 0) 84)) (w_ei ws (w_ar ws (n_v vs 0) 85)) (w_ei ws (w_ar ws (n_v vs 0) 86)) (w_ei ws (w_ar ws (n_v vs 0) 87)) (w_ei ws (w_ar ws (n_v vs 0) 88)) (w_ei ws (w_ar ws (n_v vs 0) 89)) (w_ei ws (w_ar ws (n_v vs 0) 90)) (w_ei ws (w_ar ws (n_v vs 0) 93)) k2 k3 k4 k5 k6 k8 k10 k11 k12 k13 k14 d0 d1 d5 f0 f7 h8 f10 f11 f13 h14 g16 f17 f18 f19 f20 fe_0_79_1 fe_0_80_1 fe_0_81_1 hE_0_82_1 hE_0_83_1 hE_0_84_1 hE_0_85_1 hE_0_86_1 hE_0_87_1 hE_0_88_1 hE_0_89_1 hE_0_90_1 hE_0_93_1 kz_0_79 kz_0_80 kz_0_81
  have nf1 : fc_1 PRD (20, [14, 1], [50, 1, 0, 1079, 0, 2, 1, 0, 2, 1, 79]) ws (vs) := by
    refine ⟨nf_in hl rfl, sgq_1164 ?_⟩
    · show v_iv (n_v vs 14) ≤ w_fi ws (n_v vs 1) 79
      rw [q1]
      exact vc_Mo_up_22_1 (v_iv (n_v vs 5)) (v_iv (n_v vs 6)) (v_iv (n_v vs 14)) (w_fi ws (n_v vs 0) 79) (w_ei w1 (w_ar ws (n_v vs 0) 93)) (w_fi w1 (n_v vs 0) 79) (w_ei w1 (w_ar ws (n_v vs 0) 82)) (w_ei w1 (w_ar ws (n_v vs 0) 83)) (w_ei w1 (w_ar ws (n_v vs 0) 84)) (w_ei w1 (w_ar ws (n_v vs 0) 85)) (w_ei w1 (w_ar ws (n_v vs 0) 86)) (w_ei w1 (w_ar ws (n_v vs 0) 87)) (w_ei w1 (w_ar ws (n_v vs 0) 88)) (w_ei w1 (w_ar ws (n_v vs 0) 89)) (w_fi w1 (n_v vs 0) 80) (w_fi w1 (n_v vs 0) 81) (w_fi ws (n_v vs 0) 80) (w_fi ws (n_v vs 0) 81) (w_ei ws (w_ar ws (n_v vs 0) 82)) (w_ei ws (w_ar ws (n_v vs 0) 83)) (w_ei ws (w_ar ws (n_v vs 0) 84)) (w_ei ws (w_ar ws (n_v vs 0) 85)) (w_ei ws (w_ar ws (n_v vs 0) 86)) (w_ei ws (w_ar ws (n_v vs 0) 87)) (w_ei ws (w_ar ws (n_v vs 0) 88)) (w_ei ws (w_ar ws (n_v vs 0) 89)) (w_ei ws (w_ar ws (n_v vs 0) 93)) k5 k6 k14 d0 d1 d5 g16 fe_0_79_1 fe_0_80_1 fe_0_81_1 hE_0_82_1 hE_0_83_1 hE_0_84_1 hE_0_85_1 hE_0_86_1 hE_0_87_1 hE_0_88_1 hE_0_89_1 hE_0_93_1 kz_0_79 kz_0_80 kz_0_81
  refine ⟨(fun _ h => (by cases h)), [], trivial, ?_, (fun _ h => (by cases h))⟩
  rw [List.append_nil]
  exact List.forall_mem_cons.mpr ⟨⟨show (20 : Nat) < 100 from by decide, nf0⟩, List.forall_mem_cons.mpr ⟨⟨show (20 : Nat) < 100 from by decide, nf1⟩, (fun _ h => (by cases h))⟩⟩
set_option maxHeartbeats 4000000 in
theorem vc_Mo_up_23_0 (x2 : Int) (pointMany_0 : Int) (k2 : 2 ≤ x2 ∧ x2 ≤ 78) (f2 : x2 = (pointMany_0 + 2)) (kz_0_79 : 0 ≤ pointMany_0 ∧ pointMany_0 ≤ 76) : x2 = (pointMany_0 + 2) := by
  omega
set_option maxHeartbeats 4000000 in
theorem vc_Mo_up_23_1 (x3 : Int) (pointMany_0 : Int) (k3 : 0 ≤ x3 ∧ x3 ≤ 76) (f3 : x3 = pointMany_0) (kz_0_79 : 0 ≤ pointMany_0 ∧ pointMany_0 ≤ 76) : x3 = pointMany_0 := by
  omega
set_option maxHeartbeats 4000000 in
theorem vc_Mo_up_23_2 (x4 : Int) (pointMany_0 : Int) (k4 : 1 ≤ x4 ∧ x4 ≤ 77) (f4 : x4 = (pointMany_0 + 1)) (kz_0_79 : 0 ≤ pointMany_0 ∧ pointMany_0 ≤ 76) : x4 = (pointMany_0 + 1) := by
  omega
set_option maxHeartbeats 4000000 in
theorem vc_Mo_up_23_3 (x5 : Int) (x6 : Int) (apartMany_0 : Int) (pointMany_0 : Int) (flow_0 : Int → Int) (spot_0 : Int → Int) (costA_0 : Int → Int) (costB_0 : Int → Int) (costW_0 : Int → Int) (costPlain_0 : Int → Int) (apartA_0 : Int → Int) (apartB_0 : Int → Int) (apart_0 : Int → Int) (costMany_0 : Int) (k5 : 0 ≤ x5 ∧ x5 ≤ 200) (k6 : 0 ≤ x6 ∧ x6 ≤ 200) (d0 : x6 + 0 ≤ x5 ∧ x5 ≤ x6 + 4294967296) (g1 : x6 = apartMany_0) (f5 : UPA (pointMany_0) (costMany_0) (apartMany_0) (flow_0) (spot_0) (costA_0) (costB_0) (costW_0) (costPlain_0) (apartA_0) (apartB_0) (apart_0) (x5)) (f6 : x5 ≤ apartMany_0) (kz_0_79 : 0 ≤ pointMany_0 ∧ pointMany_0 ≤ 76) (kz_0_80 : 0 ≤ costMany_0 ∧ costMany_0 ≤ 200) (kz_0_81 : 0 ≤ apartMany_0 ∧ apartMany_0 ≤ 200) : FLO (pointMany_0) (costMany_0) (apartMany_0) (flow_0) (spot_0) (costA_0) (costB_0) (costW_0) (costPlain_0) (apartA_0) (apartB_0) (apart_0) := by
  first
    | assumption
    | exact (flo_of ‹UPA _ _ _ _ _ _ _ _ _ _ _ _ _› (by omega) (by omega)).1
set_option maxHeartbeats 4000000 in
theorem vc_Mo_up_23_4 (x5 : Int) (x6 : Int) (apartMany_0 : Int) (pointMany_0 : Int) (flow_0 : Int → Int) (spot_0 : Int → Int) (costA_0 : Int → Int) (costB_0 : Int → Int) (costW_0 : Int → Int) (costPlain_0 : Int → Int) (apartA_0 : Int → Int) (apartB_0 : Int → Int) (apart_0 : Int → Int) (costMany_0 : Int) (gx : Int) (k5 : 0 ≤ x5 ∧ x5 ≤ 200) (k6 : 0 ≤ x6 ∧ x6 ≤ 200) (d0 : x6 + 0 ≤ x5 ∧ x5 ≤ x6 + 4294967296) (g1 : x6 = apartMany_0) (f5 : UPA (pointMany_0) (costMany_0) (apartMany_0) (flow_0) (spot_0) (costA_0) (costB_0) (costW_0) (costPlain_0) (apartA_0) (apartB_0) (apart_0) (x5)) (f6 : x5 ≤ apartMany_0) (kz_0_79 : 0 ≤ pointMany_0 ∧ pointMany_0 ≤ 76) (kz_0_80 : 0 ≤ costMany_0 ∧ costMany_0 ≤ 200) (kz_0_81 : 0 ≤ apartMany_0 ∧ apartMany_0 ≤ 200) (ex2 : gx = 180000000) : XLE (pointMany_0) (flow_0) (gx) := by
  first
    | (have h := (flo_of ‹UPA _ _ _ _ _ _ _ _ _ _ _ _ _› (by omega) (by omega)).2; unfold XLE; omega)
    | (have h := ‹XLB _ _ _›; unfold XLB XLE at h; unfold XLE; omega)
def o_Mo_up_23 : or_T := (429, 7, [(0, (2, 0, 0, [165])), (2, (0, 2, 78, [])), (3, (0, 0, 76, [])), (4, (0, 1, 77, [])), (5, (0, 0, 200, [])), (6, (0, 0, 200, []))], [(9, [6, 1], [81]), (20, [2, 1], [50, 1, 0, 1079, 1, 2, 1, 0, 4, 3, 2, 1, 79, 0, 2]), (20, [3, 1], [50, 1, 0, 1079, 1, 2, 1, 0, 2, 1, 79]), (20, [4, 1], [50, 1, 0, 1079, 1, 2, 1, 0, 4, 3, 2, 1, 79, 0, 1]), (20, [1, 5], [60, 3, 9, 415, 79, 80, 81, 90, 82, 83, 84, 85, 86, 87, 88, 89]), (20, [5, 1], [50, 1, 0, 1081, 0, 2, 1, 0, 2, 1, 81]), (24, [0, 1], [])], [], [(0, -2, 180000001, [])], [(20, [2, 1], [50, 1, 0, 1079, 1, 2, 1, 0, 4, 3, 2, 1, 79, 0, 2]), (20, [3, 1], [50, 1, 0, 1079, 1, 2, 1, 0, 2, 1, 79]), (20, [4, 1], [50, 1, 0, 1079, 1, 2, 1, 0, 4, 3, 2, 1, 79, 0, 1]), (20, [1], [60, 3, 9, 397, 79, 80, 81, 90, 82, 83, 84, 85, 86, 87, 88, 89]), (20, [1, 7], [60, 1, 1, 398, 79, 90]), (24, [0, 1], [])], [], [(5, 6, 0, 4294967296)])
theorem oo_Mo_up_23 {kA : Nat → ClassId} : or_ok PRD kA GG o_Mo_up_23 := by
  refine or_mk fun A ta ws vs hD hth hl => ?_
  intro t0 r0 t2 k2 t3 k3 t4 k4 t5 k5 t6 k6 d0 f1 f2 f3 f4 f5 f6 f7
  replace f1 := shm_497 f1
  replace f2 := shm_942 f2
  replace f3 := shm_943 f3
  replace f4 := shm_944 f4
  replace f5 := shm_1166 f5
  replace f6 := shm_1167 f6
  replace f7 := shm_5 f7
  have q1 : n_v vs 1 = n_v vs 0 := f7.symm
  simp only [q1] at f1 f2 f3 f4 f5 f6
  have g1 : v_iv (n_v vs 6) = w_fi ws (n_v vs 0) 81 := congrArg v_iv f1
  have kz_0_79 := fdq_147 hD hth r0
  have kz_0_80 := fdq_131 hD hth r0
  have kz_0_81 := fdq_124 hD hth r0
  obtain ⟨x, ex, hx⟩ := iv_ex (ta := ta) (lo := (-2)) (hi := 180000001) (z := 180000000) (by omega) (by omega) (by omega) (by omega)
  have ex2 : v_iv (Value.int x) = 180000000 := ex
  have ex3 : (-2) ≤ v_iv (Value.int x) ∧ v_iv (Value.int x) ≤ 180000001 := tv_rng hx
  have e_0 : n_v (vs ++ [Value.int x]) 0 = n_v vs 0 := n_v_old (by rw [hl]; decide)
  have e_1 : n_v (vs ++ [Value.int x]) 1 = n_v vs 1 := n_v_old (by rw [hl]; decide)
  have e_2 : n_v (vs ++ [Value.int x]) 2 = n_v vs 2 := n_v_old (by rw [hl]; decide)
  have e_3 : n_v (vs ++ [Value.int x]) 3 = n_v vs 3 := n_v_old (by rw [hl]; decide)
  have e_4 : n_v (vs ++ [Value.int x]) 4 = n_v vs 4 := n_v_old (by rw [hl]; decide)
  have e_7 : n_v (vs ++ [Value.int x]) 7 = Value.int x := n_v_new hl
  have nf0 : fc_1 PRD (20, [2, 1], [50, 1, 0, 1079, 1, 2, 1, 0, 4, 3, 2, 1, 79, 0, 2]) ws (vs ++ [Value.int x]) := by
    refine ⟨nf_inA hl rfl, sgq_942 ?_⟩
    · show v_iv (n_v (vs ++ [Value.int x]) 2) = (w_fi ws (n_v (vs ++ [Value.int x]) 1) 79 + 2)
      simp only [e_1, e_2, q1]
      exact vc_Mo_up_23_0 (v_iv (n_v vs 2)) (w_fi ws (n_v vs 0) 79) k2 f2 kz_0_79
  have nf1 : fc_1 PRD (20, [3, 1], [50, 1, 0, 1079, 1, 2, 1, 0, 2, 1, 79]) ws (vs ++ [Value.int x]) := by
    refine ⟨nf_inA hl rfl, sgq_943 ?_⟩
    · show v_iv (n_v (vs ++ [Value.int x]) 3) = w_fi ws (n_v (vs ++ [Value.int x]) 1) 79
      simp only [e_1, e_3, q1]
      exact vc_Mo_up_23_1 (v_iv (n_v vs 3)) (w_fi ws (n_v vs 0) 79) k3 f3 kz_0_79
  have nf2 : fc_1 PRD (20, [4, 1], [50, 1, 0, 1079, 1, 2, 1, 0, 4, 3, 2, 1, 79, 0, 1]) ws (vs ++ [Value.int x]) := by
    refine ⟨nf_inA hl rfl, sgq_944 ?_⟩
    · show v_iv (n_v (vs ++ [Value.int x]) 4) = (w_fi ws (n_v (vs ++ [Value.int x]) 1) 79 + 1)
      simp only [e_1, e_4, q1]
      exact vc_Mo_up_23_2 (v_iv (n_v vs 4)) (w_fi ws (n_v vs 0) 79) k4 f4 kz_0_79
  have nf3 : fc_1 PRD (20, [1], [60, 3, 9, 397, 79, 80, 81, 90, 82, 83, 84, 85, 86, 87, 88, 89]) ws (vs ++ [Value.int x]) := by
    refine ⟨nf_inA hl rfl, sgq_945 ?_⟩
    · show FLO (w_fi ws (n_v (vs ++ [Value.int x]) 1) 79) (w_fi ws (n_v (vs ++ [Value.int x]) 1) 80) (w_fi ws (n_v (vs ++ [Value.int x]) 1) 81) (w_ei ws (w_ar ws (n_v (vs ++ [Value.int x]) 1) 90)) (w_ei ws (w_ar ws (n_v (vs ++ [Value.int x]) 1) 82)) (w_ei ws (w_ar ws (n_v (vs ++ [Value.int x]) 1) 83)) (w_ei ws (w_ar ws (n_v (vs ++ [Value.int x]) 1) 84)) (w_ei ws (w_ar ws (n_v (vs ++ [Value.int x]) 1) 85)) (w_ei ws (w_ar ws (n_v (vs ++ [Value.int x]) 1) 86)) (w_ei ws (w_ar ws (n_v (vs ++ [Value.int x]) 1) 87)) (w_ei ws (w_ar ws (n_v (vs ++ [Value.int x]) 1) 88)) (w_ei ws (w_ar ws (n_v (vs ++ [Value.int x]) 1) 89))
      simp only [e_1, q1]
      exact vc_Mo_up_23_3 (v_iv (n_v vs 5)) (v_iv (n_v vs 6)) (w_fi ws (n_v vs 0) 81) (w_fi ws (n_v vs 0) 79) (w_ei ws (w_ar ws (n_v vs 0) 90)) (w_ei ws (w_ar ws (n_v vs 0) 82)) (w_ei ws (w_ar ws (n_v vs 0) 83)) (w_ei ws (w_ar ws (n_v vs 0) 84)) (w_ei ws (w_ar ws (n_v vs 0) 85)) (w_ei ws (w_ar ws (n_v vs 0) 86)) (w_ei ws (w_ar ws (n_v vs 0) 87)) (w_ei ws (w_ar ws (n_v vs 0) 88)) (w_ei ws (w_ar ws (n_v vs 0) 89)) (w_fi ws (n_v vs 0) 80) k5 k6 d0 g1 f5 f6 kz_0_79 kz_0_80 kz_0_81
  have nf4 : fc_1 PRD (20, [1, 7], [60, 1, 1, 398, 79, 90]) ws (vs ++ [Value.int x]) := by
    refine ⟨nf_inA hl rfl, sgq_946 ?_⟩
    · show XLE (w_fi ws (n_v (vs ++ [Value.int x]) 1) 79) (w_ei ws (w_ar ws (n_v (vs ++ [Value.int x]) 1) 90)) (v_iv (n_v (vs ++ [Value.int x]) 7))
      simp only [e_1, e_7, q1]
      exact vc_Mo_up_23_4 (v_iv (n_v vs 5)) (v_iv (n_v vs 6)) (w_fi ws (n_v vs 0) 81) (w_fi ws (n_v vs 0) 79) (w_ei ws (w_ar ws (n_v vs 0) 90)) (w_ei ws (w_ar ws (n_v vs 0) 82)) (w_ei ws (w_ar ws (n_v vs 0) 83)) (w_ei ws (w_ar ws (n_v vs 0) 84)) (w_ei ws (w_ar ws (n_v vs 0) 85)) (w_ei ws (w_ar ws (n_v vs 0) 86)) (w_ei ws (w_ar ws (n_v vs 0) 87)) (w_ei ws (w_ar ws (n_v vs 0) 88)) (w_ei ws (w_ar ws (n_v vs 0) 89)) (w_fi ws (n_v vs 0) 80) (v_iv (Value.int x)) k5 k6 d0 g1 f5 f6 kz_0_79 kz_0_80 kz_0_81 ex2
  have nf5 : fc_1 PRD (24, [0, 1], []) ws (vs ++ [Value.int x]) := by
    refine ⟨nf_inA hl rfl, sgq_5 ?_⟩
    · show n_v (vs ++ [Value.int x]) 0 = n_v (vs ++ [Value.int x]) 1
      first | rfl | simp only [e_0, e_1, q1]
  exact ⟨(fun _ h => (by cases h)), [Value.int x], ag_one hx, List.forall_mem_cons.mpr ⟨⟨show (20 : Nat) < 100 from by decide, nf0⟩, List.forall_mem_cons.mpr ⟨⟨show (20 : Nat) < 100 from by decide, nf1⟩, List.forall_mem_cons.mpr ⟨⟨show (20 : Nat) < 100 from by decide, nf2⟩, List.forall_mem_cons.mpr ⟨⟨show (20 : Nat) < 100 from by decide, nf3⟩, List.forall_mem_cons.mpr ⟨⟨show (20 : Nat) < 100 from by decide, nf4⟩, List.forall_mem_cons.mpr ⟨⟨show (24 : Nat) < 100 from by decide, nf5⟩, (fun _ h => (by cases h))⟩⟩⟩⟩⟩⟩, (fun _ h => (by cases h))⟩
set_option maxHeartbeats 4000000 in
theorem vc_Mo_up_24_0 (x5 : Int) (x9 : Int) (x10 : Int) (x12 : Int) (x13 : Int) (x14 : Int) (x16 : Int) (x17 : Int) (apart_0 : Int → Int) (spot_0 : Int → Int) (apartA_0 : Int → Int) (apartB_0 : Int → Int) (apartMany_0 : Int) (pointMany_0 : Int) (flow_0 : Int → Int) (costA_0 : Int → Int) (costB_0 : Int → Int) (costW_0 : Int → Int) (costPlain_0 : Int → Int) (costMany_0 : Int) (k5 : 0 ≤ x5 ∧ x5 ≤ 199) (k9 : 0 ≤ x9 ∧ x9 ≤ 75) (k10 : 0 ≤ x10 ∧ x10 ≤ 221100000) (k12 : 0 ≤ x12 ∧ x12 ≤ 75) (k13 : 0 ≤ x13 ∧ x13 ≤ 221100000) (k14 : (-221100000) ≤ x14 ∧ x14 ≤ 221100000) (k16 : 0 ≤ x16 ∧ x16 ≤ 202) (k17 : 1 ≤ x17 ∧ x17 ≤ 200) (d0 : x5 + 1 ≤ x17 ∧ x17 ≤ x5 + 1) (f0 : x17 = x5 + 1) (f1 : x14 ≠ x16) (h2 : x16 = apart_0 (x5)) (f4 : x14 = x10 - x13) (h5 : x13 = spot_0 (x12)) (h6 : x12 = apartA_0 (x5)) (h9 : x10 = spot_0 (x9)) (h10 : x9 = apartB_0 (x5)) (f17 : UPA (pointMany_0) (costMany_0) (apartMany_0) (flow_0) (spot_0) (costA_0) (costB_0) (costW_0) (costPlain_0) (apartA_0) (apartB_0) (apart_0) (x5)) (kz_0_79 : 0 ≤ pointMany_0 ∧ pointMany_0 ≤ 76) (kz_0_80 : 0 ≤ costMany_0 ∧ costMany_0 ≤ 200) (kz_0_81 : 0 ≤ apartMany_0 ∧ apartMany_0 ≤ 200) : UPA (pointMany_0) (costMany_0) (apartMany_0) (flow_0) (spot_0) (costA_0) (costB_0) (costW_0) (costPlain_0) (apartA_0) (apartB_0) (apart_0) (x17) := by
  first
    | exact upa_start ‹UPI _ _ _ _ _ _ _ _ _ _ _ _ _ _› (by omega) (by omega)
    | exact upa_skip2 (b := x9) (yb := x10) (a := x12) (ya := x13) (c := x14) (d := x16) ‹UPA _ _ _ _ _ _ _ _ _ _ _ _ _› (by omega) (by assumption) (by assumption) (by assumption) (by assumption) (by assumption) (by assumption) (by assumption) (by assumption)
    | exact upa_step3 (b_zq := x9) (yb := x10) (a_zq := x12) (ya := x13) (c := x14) (d := x16) (a := x18) (b := x20) (r := x19) (q := x21) (o := x22) (v := x24) ‹UPA _ _ _ _ _ _ _ _ _ _ _ _ _› (by omega) (by omega) (by assumption) (by omega) (by assumption) (by assumption) (by assumption) (by assumption) (by assumption) (by assumption) (by assumption) (by assumption) (by assumption) (by assumption) (by assumption) (by assumption) (by omega) (by assumption)
  
set_option maxHeartbeats 4000000 in
theorem vc_Mo_up_24_1 (x5 : Int) (x6 : Int) (x17 : Int) (apartMany_0 : Int) (k5 : 0 ≤ x5 ∧ x5 ≤ 199) (k6 : 1 ≤ x6 ∧ x6 ≤ 200) (k17 : 1 ≤ x17 ∧ x17 ≤ 200) (d0 : x5 + 1 ≤ x17 ∧ x17 ≤ x5 + 1) (d1 : x6 + (-4294967296) ≤ x17 ∧ x17 ≤ x6 + 0) (d3 : x6 + (-4294967296) ≤ x5 ∧ x5 ≤ x6 + (-1)) (g13 : x6 = apartMany_0) (kz_0_81 : 0 ≤ apartMany_0 ∧ apartMany_0 ≤ 200) : x17 ≤ apartMany_0 := by
  omega
def o_Mo_up_24 : or_T := (351, 18, [(0, (2, 0, 0, [165])), (5, (0, 0, 199, [])), (6, (0, 1, 200, [])), (9, (0, 0, 75, [])), (10, (0, 0, 221100000, [])), (12, (0, 0, 75, [])), (13, (0, 0, 221100000, [])), (14, (0, -221100000, 221100000, [])), (16, (0, 0, 202, [])), (17, (0, 1, 200, []))], [(6, [17, 5], [1]), (7, [14, 16], [1]), (10, [16, 15, 5], []), (9, [15, 1], [89]), (2, [14, 10, 13], []), (10, [13, 7, 12], []), (10, [12, 11, 5], []), (9, [11, 1], [87]), (9, [7, 1], [82]), (10, [10, 7, 9], []), (10, [9, 8, 5], []), (9, [8, 1], [88]), (9, [6, 1], [81]), (20, [1, 5], [60, 3, 9, 415, 79, 80, 81, 90, 82, 83, 84, 85, 86, 87, 88, 89]), (24, [0, 1], [])], [], [], [(20, [1, 17], [60, 3, 9, 415, 79, 80, 81, 90, 82, 83, 84, 85, 86, 87, 88, 89]), (20, [17, 1], [50, 1, 0, 1081, 0, 2, 1, 0, 2, 1, 81])], [], [(17, 5, 1, 1), (17, 6, -4294967296, 0), (5, 6, -4294967296, -1)])
theorem oo_Mo_up_24 {kA : Nat → ClassId} : or_ok PRD kA GG o_Mo_up_24 := by
  refine or_mk fun A ta ws vs hD hth hl => ?_
  intro t0 r0 t5 k5 t6 k6 t9 k9 t10 k10 t12 k12 t13 k13 t14 k14 t16 k16 t17 k17 d0 d1 d3 f0 f1 f2 f3 f4 f5 f6 f7 f8 f9 f10 f11 f13 f17 f19
  replace f0 := shm_4 f0
  replace f1 := shm_40 f1
  replace f2 := shm_107 f2
  replace f3 := shm_503 f3
  replace f4 := shm_14 f4
  replace f5 := shm_107 f5
  replace f6 := shm_107 f6
  replace f7 := shm_498 f7
  replace f8 := shm_1165 f8
  replace f9 := shm_107 f9
  replace f10 := shm_107 f10
  replace f11 := shm_504 f11
  replace f13 := shm_497 f13
  replace f17 := shm_1166 f17
  replace f19 := shm_5 f19
  have q1 : n_v vs 1 = n_v vs 0 := f19.symm
  simp only [q1] at f3 f7 f8 f11 f13 f17
  have ad_15 : v_ad (n_v vs 15) = w_ar ws (n_v vs 0) 89 := congrArg v_ad f3
  have ad_11 : v_ad (n_v vs 11) = w_ar ws (n_v vs 0) 87 := congrArg v_ad f7
  have ad_7 : v_ad (n_v vs 7) = w_ar ws (n_v vs 0) 82 := congrArg v_ad f8
  have ad_8 : v_ad (n_v vs 8) = w_ar ws (n_v vs 0) 88 := congrArg v_ad f11
  simp only [ad_15] at f2
  have h2 : v_iv (n_v vs 16) = w_ei ws (w_ar ws (n_v vs 0) 89) (v_iv (n_v vs 5)) := f2
  simp only [ad_7] at f5
  have h5 : v_iv (n_v vs 13) = w_ei ws (w_ar ws (n_v vs 0) 82) (v_iv (n_v vs 12)) := f5
  simp only [ad_11] at f6
  have h6 : v_iv (n_v vs 12) = w_ei ws (w_ar ws (n_v vs 0) 87) (v_iv (n_v vs 5)) := f6
  simp only [ad_7] at f9
  have h9 : v_iv (n_v vs 10) = w_ei ws (w_ar ws (n_v vs 0) 82) (v_iv (n_v vs 9)) := f9
  simp only [ad_8] at f10
  have h10 : v_iv (n_v vs 9) = w_ei ws (w_ar ws (n_v vs 0) 88) (v_iv (n_v vs 5)) := f10
  have g13 : v_iv (n_v vs 6) = w_fi ws (n_v vs 0) 81 := congrArg v_iv f13
  have kz_0_79 := fdq_147 hD hth r0
  have kz_0_80 := fdq_131 hD hth r0
  have kz_0_81 := fdq_124 hD hth r0
  have nf0 : fc_1 PRD (20, [1, 17], [60, 3, 9, 415, 79, 80, 81, 90, 82, 83, 84, 85, 86, 87, 88, 89]) ws (vs) := by
    refine ⟨nf_in hl rfl, sgq_1166 ?_⟩
    · show UPA (w_fi ws (n_v vs 1) 79) (w_fi ws (n_v vs 1) 80) (w_fi ws (n_v vs 1) 81) (w_ei ws (w_ar ws (n_v vs 1) 90)) (w_ei ws (w_ar ws (n_v vs 1) 82)) (w_ei ws (w_ar ws (n_v vs 1) 83)) (w_ei ws (w_ar ws (n_v vs 1) 84)) (w_ei ws (w_ar ws (n_v vs 1) 85)) (w_ei ws (w_ar ws (n_v vs 1) 86)) (w_ei ws (w_ar ws (n_v vs 1) 87)) (w_ei ws (w_ar ws (n_v vs 1) 88)) (w_ei ws (w_ar ws (n_v vs 1) 89)) (v_iv (n_v vs 17))
      rw [q1]
      exact vc_Mo_up_24_0 (v_iv (n_v vs 5)) (v_iv (n_v vs 9)) (v_iv (n_v vs 10)) (v_iv (n_v vs 12)) (v_iv (n_v vs 13)) (v_iv (n_v vs 14)) (v_iv (n_v vs 16)) (v_iv (n_v vs 17)) (w_ei ws (w_ar ws (n_v vs 0) 89)) (w_ei ws (w_ar ws (n_v vs 0) 82)) (w_ei ws (w_ar ws (n_v vs 0) 87)) (w_ei ws (w_ar ws (n_v vs 0) 88)) (w_fi ws (n_v vs 0) 81) (w_fi ws (n_v vs 0) 79) (w_ei ws (w_ar ws (n_v vs 0) 90)) (w_ei ws (w_ar ws (n_v vs 0) 83)) (w_ei ws (w_ar ws (n_v vs 0) 84)) (w_ei ws (w_ar ws (n_v vs 0) 85)) (w_ei ws (w_ar ws (n_v vs 0) 86)) (w_fi ws (n_v vs 0) 80) k5 k9 k10 k12 k13 k14 k16 k17 d0 f0 f1 h2 f4 h5 h6 h9 h10 f17 kz_0_79 kz_0_80 kz_0_81
  have nf1 : fc_1 PRD (20, [17, 1], [50, 1, 0, 1081, 0, 2, 1, 0, 2, 1, 81]) ws (vs) := by
    refine ⟨nf_in hl rfl, sgq_1167 ?_⟩
    · show v_iv (n_v vs 17) ≤ w_fi ws (n_v vs 1) 81
      rw [q1]
      exact vc_Mo_up_24_1 (v_iv (n_v vs 5)) (v_iv (n_v vs 6)) (v_iv (n_v vs 17)) (w_fi ws (n_v vs 0) 81) k5 k6 k17 d0 d1 d3 g13 kz_0_81
  refine ⟨(fun _ h => (by cases h)), [], trivial, ?_, (fun _ h => (by cases h))⟩
  rw [List.append_nil]
  exact List.forall_mem_cons.mpr ⟨⟨show (20 : Nat) < 100 from by decide, nf0⟩, List.forall_mem_cons.mpr ⟨⟨show (20 : Nat) < 100 from by decide, nf1⟩, (fun _ h => (by cases h))⟩⟩
set_option maxHeartbeats 4000000 in
theorem vc_Mo_up_25_r0 (x2 : Int) (x5 : Int) (x6 : Int) (x18 : Int) (x19 : Int) (x20 : Int) (x21 : Int) (x22 : Int) (x24 : Int) (flow_0 : Int → Int) (apartB_0 : Int → Int) (apartA_0 : Int → Int) (apart_0 : Int → Int) (spot_0 : Int → Int) (apartMany_0 : Int) (pointMany_0 : Int) (costA_0 : Int → Int) (costB_0 : Int → Int) (costW_0 : Int → Int) (costPlain_0 : Int → Int) (costMany_0 : Int) (k2 : 2 ≤ x2 ∧ x2 ≤ 78) (k5 : 0 ≤ x5 ∧ x5 ≤ 199) (k6 : 1 ≤ x6 ∧ x6 ≤ 200) (k18 : 0 ≤ x18 ∧ x18 ≤ 75) (k19 : 0 ≤ x19 ∧ x19 ≤ 5850) (k20 : 0 ≤ x20 ∧ x20 ≤ 75) (k21 : 0 ≤ x21 ∧ x21 ≤ 5925) (k22 : 0 ≤ x22 ∧ x22 ≤ 410000000) (k24 : 1000000 ≤ x24 ∧ x24 ≤ 411000000) (d0 : x22 + 1000000 ≤ x24 ∧ x24 ≤ x22 + 1000000) (d5 : x6 + (-4294967296) ≤ x5 ∧ x5 ≤ x6 + (-1)) (h1 : x22 = flow_0 (x21)) (f2 : x21 = x19 + x20) (h3 : x20 = apartB_0 (x5)) (f5 : x19 = x2 * x18) (h6 : x18 = apartA_0 (x5)) (g19 : x6 = apartMany_0) (f20 : x2 = (pointMany_0 + 2)) (f23 : UPA (pointMany_0) (costMany_0) (apartMany_0) (flow_0) (spot_0) (costA_0) (costB_0) (costW_0) (costPlain_0) (apartA_0) (apartB_0) (apart_0) (x5)) (kz_0_79 : 0 ≤ pointMany_0 ∧ pointMany_0 ≤ 76) (kz_0_80 : 0 ≤ costMany_0 ∧ costMany_0 ≤ 200) (kz_0_81 : 0 ≤ apartMany_0 ∧ apartMany_0 ≤ 200) : 1000000 ≤ x24 ∧ x24 ≤ 410000000 := by
  have h := upa_f (a := x18) (b := x20) (r := x19) (q := x21) (o := x22) ‹UPA _ _ _ _ _ _ _ _ _ _ _ _ _› (by omega) (by omega) (by omega) (by assumption) (by assumption) (by assumption) (by assumption) (by assumption)
  omega
def o_Mo_up_25 : or_T := (422, 25, [(0, (2, 0, 0, [165])), (1, (2, 0, 0, [165])), (2, (0, 2, 78, [])), (3, (0, 0, 76, [])), (4, (0, 1, 77, [])), (5, (0, 0, 199, [])), (6, (0, 1, 200, [])), (7, (2, 0, 0, [219])), (8, (2, 0, 0, [225])), (9, (0, 0, 75, [])), (10, (0, 0, 221100000, [])), (11, (2, 0, 0, [224])), (12, (0, 0, 75, [])), (13, (0, 0, 221100000, [])), (14, (0, 0, 202, [])), (15, (2, 0, 0, [226])), (16, (0, 0, 202, [])), (17, (2, 0, 0, [227])), (18, (0, 0, 75, [])), (19, (0, 0, 5850, [])), (20, (0, 0, 75, [])), (21, (0, 0, 5925, [])), (22, (0, 0, 410000000, [])), (23, (0, 1000000, 1000000, [])), (24, (0, 1000000, 411000000, []))], [(1, [24, 22, 23], []), (10, [22, 17, 21], []), (1, [21, 19, 20], []), (10, [20, 8, 5], []), (9, [8, 1], [88]), (3, [19, 2, 18], []), (10, [18, 11, 5], []), (9, [11, 1], [87]), (9, [17, 1], [90]), (7, [14, 16], [0]), (10, [16, 15, 5], []), (9, [15, 1], [89]), (2, [14, 10, 13], []), (10, [13, 7, 12], []), (10, [12, 11, 5], []), (9, [7, 1], [82]), (10, [10, 7, 9], []), (10, [9, 8, 5], []), (7, [5, 6], [2]), (9, [6, 1], [81]), (20, [2, 1], [50, 1, 0, 1079, 1, 2, 1, 0, 4, 3, 2, 1, 79, 0, 2]), (20, [3, 1], [50, 1, 0, 1079, 1, 2, 1, 0, 2, 1, 79]), (20, [4, 1], [50, 1, 0, 1079, 1, 2, 1, 0, 4, 3, 2, 1, 79, 0, 1]), (20, [1, 5], [60, 3, 9, 415, 79, 80, 81, 90, 82, 83, 84, 85, 86, 87, 88, 89]), (20, [5, 1], [50, 1, 0, 1081, 0, 2, 1, 0, 2, 1, 81]), (24, [0, 1], [])], [(24, (0, 1000000, 410000000, []))], [], [], [], [(24, 22, 1000000, 1000000), (21, 20, 0, 5850), (21, 19, 0, 75), (14, 16, 0, 0), (14, 10, -221100000, 0), (5, 6, -4294967296, -1), (2, 3, -4294967296, 2), (2, 4, -4294967296, 1), (3, 2, -4294967296, -2), (3, 4, -4294967296, -1), (4, 2, -4294967296, -1), (4, 3, -4294967296, 1)])
theorem oo_Mo_up_25 {kA : Nat → ClassId} : or_ok PRD kA GG o_Mo_up_25 := by
  refine or_mk fun A ta ws vs hD hth hl => ?_
  intro t0 r0 t1 r1 t2 k2 t3 k3 t4 k4 t5 k5 t6 k6 t7 r7 t8 r8 t9 k9 t10 k10 t11 r11 t12 k12 t13 k13 t14 k14 t15 r15 t16 k16 t17 r17 t18 k18 t19 k19 t20 k20 t21 k21 t22 k22 t23 k23 t24 k24 d0 d1 d2 d3 d4 d5 d6 d7 d8 d9 d10 d11 f0 f1 f2 f3 f4 f5 f6 f7 f8 f9 f10 f11 f12 f13 f14 f15 f16 f17 f18 f19 f20 f21 f22 f23 f24 f25
  replace f1 := shm_107 f1
  replace f3 := shm_107 f3
  replace f4 := shm_504 f4
  replace f6 := shm_107 f6
  replace f7 := shm_498 f7
  replace f8 := shm_962 f8
  replace f19 := shm_497 f19
  replace f20 := shm_942 f20
  replace f23 := shm_1166 f23
  replace f25 := shm_5 f25
  have q1 : n_v vs 1 = n_v vs 0 := f25.symm
  simp only [q1] at f4 f7 f8 f19 f20 f23
  have ad_8 : v_ad (n_v vs 8) = w_ar ws (n_v vs 0) 88 := congrArg v_ad f4
  have ad_11 : v_ad (n_v vs 11) = w_ar ws (n_v vs 0) 87 := congrArg v_ad f7
  have ad_17 : v_ad (n_v vs 17) = w_ar ws (n_v vs 0) 90 := congrArg v_ad f8
  simp only [ad_17] at f1
  have h1 : v_iv (n_v vs 22) = w_ei ws (w_ar ws (n_v vs 0) 90) (v_iv (n_v vs 21)) := f1
  simp only [ad_8] at f3
  have h3 : v_iv (n_v vs 20) = w_ei ws (w_ar ws (n_v vs 0) 88) (v_iv (n_v vs 5)) := f3
  simp only [ad_11] at f6
  have h6 : v_iv (n_v vs 18) = w_ei ws (w_ar ws (n_v vs 0) 87) (v_iv (n_v vs 5)) := f6
  have g19 : v_iv (n_v vs 6) = w_fi ws (n_v vs 0) 81 := congrArg v_iv f19
  have kz_0_79 := fdq_147 hD hth r0
  have kz_0_80 := fdq_131 hD hth r0
  have kz_0_81 := fdq_124 hD hth r0
  have hrf0 : 1000000 ≤ v_iv (n_v vs 24) ∧ v_iv (n_v vs 24) ≤ 410000000 := vc_Mo_up_25_r0 (v_iv (n_v vs 2)) (v_iv (n_v vs 5)) (v_iv (n_v vs 6)) (v_iv (n_v vs 18)) (v_iv (n_v vs 19)) (v_iv (n_v vs 20)) (v_iv (n_v vs 21)) (v_iv (n_v vs 22)) (v_iv (n_v vs 24)) (w_ei ws (w_ar ws (n_v vs 0) 90)) (w_ei ws (w_ar ws (n_v vs 0) 88)) (w_ei ws (w_ar ws (n_v vs 0) 87)) (w_ei ws (w_ar ws (n_v vs 0) 89)) (w_ei ws (w_ar ws (n_v vs 0) 82)) (w_fi ws (n_v vs 0) 81) (w_fi ws (n_v vs 0) 79) (w_ei ws (w_ar ws (n_v vs 0) 83)) (w_ei ws (w_ar ws (n_v vs 0) 84)) (w_ei ws (w_ar ws (n_v vs 0) 85)) (w_ei ws (w_ar ws (n_v vs 0) 86)) (w_fi ws (n_v vs 0) 80) k2 k5 k6 k18 k19 k20 k21 k22 k24 d0 d5 h1 (shm_12 f2) h3 (shm_38 f5) h6 g19 f20 f23 kz_0_79 kz_0_80 kz_0_81
  have rf24 : tv_ok ta (0, 1000000, 410000000, []) (n_v vs 24) := tv_in t24 (by first | omega | grind) (by first | omega | grind)
  refine ⟨List.forall_mem_cons.mpr ⟨rf24, (fun _ h => (by cases h))⟩, [], trivial, ?_, (fun _ h => (by cases h))⟩
  rw [List.append_nil]
  exact (fun _ h => (by cases h))
set_option maxHeartbeats 4000000 in
theorem vc_Mo_up_26_0 (x2 : Int) (x5 : Int) (x6 : Int) (x9 : Int) (x10 : Int) (x12 : Int) (x13 : Int) (x14 : Int) (x16 : Int) (x18 : Int) (x19 : Int) (x20 : Int) (x21 : Int) (x22 : Int) (x24 : Int) (x25 : Int) (pointMany_0 : Int) (apartMany_0 : Int) (flow_1 : Int → Int) (apartB_1 : Int → Int) (apartA_1 : Int → Int) (apart_1 : Int → Int) (spot_1 : Int → Int) (apartMany_1 : Int) (pointMany_1 : Int) (costA_1 : Int → Int) (costB_1 : Int → Int) (costW_1 : Int → Int) (costPlain_1 : Int → Int) (costMany_1 : Int) (costMany_0 : Int) (spot_0 : Int → Int) (costA_0 : Int → Int) (costB_0 : Int → Int) (costW_0 : Int → Int) (costPlain_0 : Int → Int) (apartA_0 : Int → Int) (apartB_0 : Int → Int) (apart_0 : Int → Int) (flow_0 : Int → Int) (k2 : 2 ≤ x2 ∧ x2 ≤ 78) (k5 : 0 ≤ x5 ∧ x5 ≤ 199) (k6 : 1 ≤ x6 ∧ x6 ≤ 200) (k9 : 0 ≤ x9 ∧ x9 ≤ 75) (k10 : 0 ≤ x10 ∧ x10 ≤ 221100000) (k12 : 0 ≤ x12 ∧ x12 ≤ 75) (k13 : 0 ≤ x13 ∧ x13 ≤ 221100000) (k14 : 0 ≤ x14 ∧ x14 ≤ 202) (k16 : 0 ≤ x16 ∧ x16 ≤ 202) (k18 : 0 ≤ x18 ∧ x18 ≤ 75) (k19 : 0 ≤ x19 ∧ x19 ≤ 5850) (k20 : 0 ≤ x20 ∧ x20 ≤ 75) (k21 : 0 ≤ x21 ∧ x21 ≤ 5925) (k22 : 0 ≤ x22 ∧ x22 ≤ 410000000) (k24 : 1000000 ≤ x24 ∧ x24 ≤ 410000000) (k25 : 1 ≤ x25 ∧ x25 ≤ 200) (d0 : x5 + 1 ≤ x25 ∧ x25 ≤ x5 + 1) (d1 : x6 + (-4294967296) ≤ x25 ∧ x25 ≤ x6 + 0) (d2 : x22 + 1000000 ≤ x24 ∧ x24 ≤ x22 + 1000000) (d7 : x6 + (-4294967296) ≤ x5 ∧ x5 ≤ x6 + (-1)) (f0 : x25 = x5 + 1) (h8 : x22 = flow_1 (x21)) (f9 : x21 = x19 + x20) (h10 : x20 = apartB_1 (x5)) (f12 : x19 = x2 * x18) (h13 : x18 = apartA_1 (x5)) (f16 : x14 = x16) (h17 : x16 = apart_1 (x5)) (f19 : x14 = x10 - x13) (h20 : x13 = spot_1 (x12)) (h21 : x12 = apartA_1 (x5)) (h23 : x10 = spot_1 (x9)) (h24 : x9 = apartB_1 (x5)) (g26 : x6 = apartMany_1) (f27 : x2 = (pointMany_1 + 2)) (f30 : UPA (pointMany_1) (costMany_1) (apartMany_1) (flow_1) (spot_1) (costA_1) (costB_1) (costW_1) (costPlain_1) (apartA_1) (apartB_1) (apart_1) (x5)) (fe_0_79_1 : pointMany_0 = pointMany_1) (fe_0_80_1 : costMany_0 = costMany_1) (fe_0_81_1 : apartMany_0 = apartMany_1) (hE_0_82_1 : ∀ j : Int, spot_0 j = spot_1 j) (hE_0_83_1 : ∀ j : Int, costA_0 j = costA_1 j) (hE_0_84_1 : ∀ j : Int, costB_0 j = costB_1 j) (hE_0_85_1 : ∀ j : Int, costW_0 j = costW_1 j) (hE_0_86_1 : ∀ j : Int, costPlain_0 j = costPlain_1 j) (hE_0_87_1 : ∀ j : Int, apartA_0 j = apartA_1 j) (hE_0_88_1 : ∀ j : Int, apartB_0 j = apartB_1 j) (hE_0_89_1 : ∀ j : Int, apart_0 j = apart_1 j) (hE_0_90_1 : ∀ j : Int, 0 ≤ j → (j = x21 → flow_0 j = x24) ∧ (j ≠ x21 → flow_0 j = flow_1 j)) (kz_0_79 : 0 ≤ pointMany_0 ∧ pointMany_0 ≤ 76) (kz_0_80 : 0 ≤ costMany_0 ∧ costMany_0 ≤ 200) (kz_0_81 : 0 ≤ apartMany_0 ∧ apartMany_0 ≤ 200) : UPA (pointMany_0) (costMany_0) (apartMany_0) (flow_0) (spot_0) (costA_0) (costB_0) (costW_0) (costPlain_0) (apartA_0) (apartB_0) (apart_0) (x25) := by
  subst fe_0_79_1
  subst fe_0_80_1
  subst fe_0_81_1
  have e_hE_0_82_1 := funext hE_0_82_1; subst e_hE_0_82_1
  have e_hE_0_83_1 := funext hE_0_83_1; subst e_hE_0_83_1
  have e_hE_0_84_1 := funext hE_0_84_1; subst e_hE_0_84_1
  have e_hE_0_85_1 := funext hE_0_85_1; subst e_hE_0_85_1
  have e_hE_0_86_1 := funext hE_0_86_1; subst e_hE_0_86_1
  have e_hE_0_87_1 := funext hE_0_87_1; subst e_hE_0_87_1
  have e_hE_0_88_1 := funext hE_0_88_1; subst e_hE_0_88_1
  have e_hE_0_89_1 := funext hE_0_89_1; subst e_hE_0_89_1
  first
    | exact upa_start ‹UPI _ _ _ _ _ _ _ _ _ _ _ _ _ _› (by omega) (by omega)
    | exact upa_skip2 (b := x9) (yb := x10) (a := x12) (ya := x13) (c := x14) (d := x16) ‹UPA _ _ _ _ _ _ _ _ _ _ _ _ _› (by omega) (by assumption) (by assumption) (by assumption) (by assumption) (by assumption) (by assumption) (by assumption) (by assumption)
    | exact upa_step3 (b_zq := x9) (yb := x10) (a_zq := x12) (ya := x13) (c := x14) (d := x16) (a := x18) (b := x20) (r := x19) (q := x21) (o := x22) (v := x24) ‹UPA _ _ _ _ _ _ _ _ _ _ _ _ _› (by omega) (by omega) (by assumption) (by omega) (by assumption) (by assumption) (by assumption) (by assumption) (by assumption) (by assumption) (by assumption) (by assumption) (by assumption) (by assumption) (by assumption) (by assumption) (by omega) (by assumption)
  
set_option maxHeartbeats 4000000 in
theorem vc_Mo_up_26_1 (x5 : Int) (x6 : Int) (x25 : Int) (pointMany_0 : Int) (apartMany_0 : Int) (apartB_1 : Int → Int) (apartA_1 : Int → Int) (apart_1 : Int → Int) (spot_1 : Int → Int) (apartMany_1 : Int) (pointMany_1 : Int) (costA_1 : Int → Int) (costB_1 : Int → Int) (costW_1 : Int → Int) (costPlain_1 : Int → Int) (costMany_1 : Int) (costMany_0 : Int) (spot_0 : Int → Int) (costA_0 : Int → Int) (costB_0 : Int → Int) (costW_0 : Int → Int) (costPlain_0 : Int → Int) (apartA_0 : Int → Int) (apartB_0 : Int → Int) (apart_0 : Int → Int) (k5 : 0 ≤ x5 ∧ x5 ≤ 199) (k6 : 1 ≤ x6 ∧ x6 ≤ 200) (k25 : 1 ≤ x25 ∧ x25 ≤ 200) (d0 : x5 + 1 ≤ x25 ∧ x25 ≤ x5 + 1) (d1 : x6 + (-4294967296) ≤ x25 ∧ x25 ≤ x6 + 0) (d7 : x6 + (-4294967296) ≤ x5 ∧ x5 ≤ x6 + (-1)) (g26 : x6 = apartMany_1) (fe_0_79_1 : pointMany_0 = pointMany_1) (fe_0_80_1 : costMany_0 = costMany_1) (fe_0_81_1 : apartMany_0 = apartMany_1) (hE_0_82_1 : ∀ j : Int, spot_0 j = spot_1 j) (hE_0_83_1 : ∀ j : Int, costA_0 j = costA_1 j) (hE_0_84_1 : ∀ j : Int, costB_0 j = costB_1 j) (hE_0_85_1 : ∀ j : Int, costW_0 j = costW_1 j) (hE_0_86_1 : ∀ j : Int, costPlain_0 j = costPlain_1 j) (hE_0_87_1 : ∀ j : Int, apartA_0 j = apartA_1 j) (hE_0_88_1 : ∀ j : Int, apartB_0 j = apartB_1 j) (hE_0_89_1 : ∀ j : Int, apart_0 j = apart_1 j) (kz_0_79 : 0 ≤ pointMany_0 ∧ pointMany_0 ≤ 76) (kz_0_80 : 0 ≤ costMany_0 ∧ costMany_0 ≤ 200) (kz_0_81 : 0 ≤ apartMany_0 ∧ apartMany_0 ≤ 200) : x25 ≤ apartMany_0 := by
  subst fe_0_79_1
  subst fe_0_80_1
  subst fe_0_81_1
  have e_hE_0_82_1 := funext hE_0_82_1; subst e_hE_0_82_1
  have e_hE_0_83_1 := funext hE_0_83_1; subst e_hE_0_83_1
  have e_hE_0_84_1 := funext hE_0_84_1; subst e_hE_0_84_1
  have e_hE_0_85_1 := funext hE_0_85_1; subst e_hE_0_85_1
  have e_hE_0_86_1 := funext hE_0_86_1; subst e_hE_0_86_1
  have e_hE_0_87_1 := funext hE_0_87_1; subst e_hE_0_87_1
  have e_hE_0_88_1 := funext hE_0_88_1; subst e_hE_0_88_1
  have e_hE_0_89_1 := funext hE_0_89_1; subst e_hE_0_89_1
  omega
def o_Mo_up_26 : or_T := (351, 26, [(0, (2, 0, 0, [165])), (2, (0, 2, 78, [])), (5, (0, 0, 199, [])), (6, (0, 1, 200, [])), (9, (0, 0, 75, [])), (10, (0, 0, 221100000, [])), (12, (0, 0, 75, [])), (13, (0, 0, 221100000, [])), (14, (0, 0, 202, [])), (16, (0, 0, 202, [])), (17, (2, 0, 0, [227])), (18, (0, 0, 75, [])), (19, (0, 0, 5850, [])), (20, (0, 0, 75, [])), (21, (0, 0, 5925, [])), (22, (0, 0, 410000000, [])), (24, (0, 1000000, 410000000, [])), (25, (0, 1, 200, []))], [(6, [25, 5], [1]), (24, [0, 1], []), (100, [17, 21, 24], []), (10, [22, 17, 21], []), (1, [21, 19, 20], []), (10, [20, 8, 5], []), (9, [8, 1], [88]), (3, [19, 2, 18], []), (10, [18, 11, 5], []), (9, [11, 1], [87]), (9, [17, 1], [90]), (7, [14, 16], [0]), (10, [16, 15, 5], []), (9, [15, 1], [89]), (2, [14, 10, 13], []), (10, [13, 7, 12], []), (10, [12, 11, 5], []), (9, [7, 1], [82]), (10, [10, 7, 9], []), (10, [9, 8, 5], []), (9, [6, 1], [81]), (20, [2, 1], [50, 1, 0, 1079, 1, 2, 1, 0, 4, 3, 2, 1, 79, 0, 2]), (20, [1, 5], [60, 3, 9, 415, 79, 80, 81, 90, 82, 83, 84, 85, 86, 87, 88, 89])], [], [], [(20, [1, 25], [60, 3, 9, 415, 79, 80, 81, 90, 82, 83, 84, 85, 86, 87, 88, 89]), (20, [25, 1], [50, 1, 0, 1081, 0, 2, 1, 0, 2, 1, 81])], [], [(25, 5, 1, 1), (25, 6, -4294967296, 0), (24, 22, 1000000, 1000000), (21, 20, 0, 5850), (21, 19, 0, 75), (5, 6, -4294967296, -1)])
theorem oo_Mo_up_26 {kA : Nat → ClassId} : or_ok PRD kA GG o_Mo_up_26 := by
  refine or_mk fun A ta ws vs hD hth hl => ?_
  intro t0 r0 t2 k2 t5 k5 t6 k6 t9 k9 t10 k10 t12 k12 t13 k13 t14 k14 t16 k16 t17 r17 t18 k18 t19 k19 t20 k20 t21 k21 t22 k22 t24 k24 t25 k25 d0 d1 d2 d3 d4 d7 f0 f5 ta1 w1 le1 s1 f8 f9 f10 f11 f12 f13 f14 f15 f16 f17 f18 f19 f20 f21 f22 f23 f24 f26 f27 f30
  replace f0 := shm_4 f0
  replace f5 := shm_5 f5
  have s1 : (∀ b j, w_el ws b j = if b = v_ad (n_v vs 17) ∧ j = (v_iv (n_v vs 21)).toNat then v_iv (n_v vs 24) else w_el w1 b j) ∧ ∀ b k, w_fd ws b k = w_fd w1 b k := s1.2
  replace f8 := shm_107 f8
  replace f9 := shm_12 f9
  replace f10 := shm_107 f10
  replace f11 := shm_504 f11
  replace f12 := shm_38 f12
  replace f13 := shm_107 f13
  replace f14 := shm_498 f14
  replace f15 := shm_962 f15
  replace f16 := shm_37 f16
  replace f17 := shm_107 f17
  replace f18 := shm_503 f18
  replace f19 := shm_14 f19
  replace f20 := shm_107 f20
  replace f21 := shm_107 f21
  replace f22 := shm_1165 f22
  replace f23 := shm_107 f23
  replace f24 := shm_107 f24
  replace f26 := shm_497 f26
  replace f27 := shm_942 f27
  replace f30 := shm_1166 f30
  have q1 : n_v vs 1 = n_v vs 0 := f5.symm
  simp only [q1] at f11 f14 f15 f18 f22 f26 f27 f30
  have ar_0_82_1 : w_ar w1 (n_v vs 0) 82 = w_ar ws (n_v vs 0) 82 := congrArg v_ad (s1.2 _ _).symm
  have cr_0_82 := fdq_230 hD hth r0
  have ar_0_83_1 : w_ar w1 (n_v vs 0) 83 = w_ar ws (n_v vs 0) 83 := congrArg v_ad (s1.2 _ _).symm
  have cr_0_83 := fdq_126 hD hth r0
  have ar_0_84_1 : w_ar w1 (n_v vs 0) 84 = w_ar ws (n_v vs 0) 84 := congrArg v_ad (s1.2 _ _).symm
  have cr_0_84 := fdq_127 hD hth r0
  have ar_0_85_1 : w_ar w1 (n_v vs 0) 85 = w_ar ws (n_v vs 0) 85 := congrArg v_ad (s1.2 _ _).symm
  have cr_0_85 := fdq_128 hD hth r0
  have ar_0_86_1 : w_ar w1 (n_v vs 0) 86 = w_ar ws (n_v vs 0) 86 := congrArg v_ad (s1.2 _ _).symm
  have cr_0_86 := fdq_129 hD hth r0
  have ar_0_87_1 : w_ar w1 (n_v vs 0) 87 = w_ar ws (n_v vs 0) 87 := congrArg v_ad (s1.2 _ _).symm
  have cr_0_87 := fdq_119 hD hth r0
  have ar_0_88_1 : w_ar w1 (n_v vs 0) 88 = w_ar ws (n_v vs 0) 88 := congrArg v_ad (s1.2 _ _).symm
  have cr_0_88 := fdq_120 hD hth r0
  have ar_0_89_1 : w_ar w1 (n_v vs 0) 89 = w_ar ws (n_v vs 0) 89 := congrArg v_ad (s1.2 _ _).symm
  have cr_0_89 := fdq_121 hD hth r0
  have ar_0_90_1 : w_ar w1 (n_v vs 0) 90 = w_ar ws (n_v vs 0) 90 := congrArg v_ad (s1.2 _ _).symm
  have ad_8 : v_ad (n_v vs 8) = w_ar ws (n_v vs 0) 88 := (congrArg v_ad f11).trans ar_0_88_1
  have ad_11 : v_ad (n_v vs 11) = w_ar ws (n_v vs 0) 87 := (congrArg v_ad f14).trans ar_0_87_1
  have ad_17 : v_ad (n_v vs 17) = w_ar ws (n_v vs 0) 90 := (congrArg v_ad f15).trans ar_0_90_1
  have ad_15 : v_ad (n_v vs 15) = w_ar ws (n_v vs 0) 89 := (congrArg v_ad f18).trans ar_0_89_1
  have ad_7 : v_ad (n_v vs 7) = w_ar ws (n_v vs 0) 82 := (congrArg v_ad f22).trans ar_0_82_1
  simp only [ad_17] at f8
  have h8 : v_iv (n_v vs 22) = w_ei w1 (w_ar ws (n_v vs 0) 90) (v_iv (n_v vs 21)) := f8
  simp only [ad_8] at f10
  have h10 : v_iv (n_v vs 20) = w_ei w1 (w_ar ws (n_v vs 0) 88) (v_iv (n_v vs 5)) := f10
  simp only [ad_11] at f13
  have h13 : v_iv (n_v vs 18) = w_ei w1 (w_ar ws (n_v vs 0) 87) (v_iv (n_v vs 5)) := f13
  simp only [ad_15] at f17
  have h17 : v_iv (n_v vs 16) = w_ei w1 (w_ar ws (n_v vs 0) 89) (v_iv (n_v vs 5)) := f17
  simp only [ad_7] at f20
  have h20 : v_iv (n_v vs 13) = w_ei w1 (w_ar ws (n_v vs 0) 82) (v_iv (n_v vs 12)) := f20
  simp only [ad_11] at f21
  have h21 : v_iv (n_v vs 12) = w_ei w1 (w_ar ws (n_v vs 0) 87) (v_iv (n_v vs 5)) := f21
  simp only [ad_7] at f23
  have h23 : v_iv (n_v vs 10) = w_ei w1 (w_ar ws (n_v vs 0) 82) (v_iv (n_v vs 9)) := f23
  simp only [ad_8] at f24
  have h24 : v_iv (n_v vs 9) = w_ei w1 (w_ar ws (n_v vs 0) 88) (v_iv (n_v vs 5)) := f24
  have g26 : v_iv (n_v vs 6) = w_fi w1 (n_v vs 0) 81 := congrArg v_iv f26
  simp only [ar_0_82_1, ar_0_83_1, ar_0_84_1, ar_0_85_1, ar_0_86_1, ar_0_87_1, ar_0_88_1, ar_0_89_1, ar_0_90_1] at f30
  have fe_0_79_1 : w_fi ws (n_v vs 0) 79 = w_fi w1 (n_v vs 0) 79 := congrArg v_iv (s1.2 _ _)
  have fe_0_80_1 : w_fi ws (n_v vs 0) 80 = w_fi w1 (n_v vs 0) 80 := congrArg v_iv (s1.2 _ _)
  have fe_0_81_1 : w_fi ws (n_v vs 0) 81 = w_fi w1 (n_v vs 0) 81 := congrArg v_iv (s1.2 _ _)
  have hE_0_82_1 : ∀ j : Int, w_ei ws (w_ar ws (n_v vs 0) 82) j = w_ei w1 (w_ar ws (n_v vs 0) 82) j := el_kp s1.1 r17 cr_0_82 (by decide)
  have hE_0_83_1 : ∀ j : Int, w_ei ws (w_ar ws (n_v vs 0) 83) j = w_ei w1 (w_ar ws (n_v vs 0) 83) j := el_kp s1.1 r17 cr_0_83 (by decide)
  have hE_0_84_1 : ∀ j : Int, w_ei ws (w_ar ws (n_v vs 0) 84) j = w_ei w1 (w_ar ws (n_v vs 0) 84) j := el_kp s1.1 r17 cr_0_84 (by decide)
  have hE_0_85_1 : ∀ j : Int, w_ei ws (w_ar ws (n_v vs 0) 85) j = w_ei w1 (w_ar ws (n_v vs 0) 85) j := el_kp s1.1 r17 cr_0_85 (by decide)
  have hE_0_86_1 : ∀ j : Int, w_ei ws (w_ar ws (n_v vs 0) 86) j = w_ei w1 (w_ar ws (n_v vs 0) 86) j := el_kp s1.1 r17 cr_0_86 (by decide)
  have hE_0_87_1 : ∀ j : Int, w_ei ws (w_ar ws (n_v vs 0) 87) j = w_ei w1 (w_ar ws (n_v vs 0) 87) j := el_kp s1.1 r17 cr_0_87 (by decide)
  have hE_0_88_1 : ∀ j : Int, w_ei ws (w_ar ws (n_v vs 0) 88) j = w_ei w1 (w_ar ws (n_v vs 0) 88) j := el_kp s1.1 r17 cr_0_88 (by decide)
  have hE_0_89_1 : ∀ j : Int, w_ei ws (w_ar ws (n_v vs 0) 89) j = w_ei w1 (w_ar ws (n_v vs 0) 89) j := el_kp s1.1 r17 cr_0_89 (by decide)
  have hE_0_90_1 : ∀ j : Int, 0 ≤ j → (j = v_iv (n_v vs 21) → w_ei ws (w_ar ws (n_v vs 0) 90) j = v_iv (n_v vs 24)) ∧ (j ≠ v_iv (n_v vs 21) → w_ei ws (w_ar ws (n_v vs 0) 90) j = w_ei w1 (w_ar ws (n_v vs 0) 90) j) := fun j hj => ⟨fun h => by unfold w_ei; rw [s1.1, if_pos ⟨ad_17.symm, by rw [h]⟩], fun h => by unfold w_ei; rw [s1.1, if_neg (fun e => h (by have := e.2; omega))]⟩
  have kz_0_79 := fdq_147 hD hth r0
  have kz_0_80 := fdq_131 hD hth r0
  have kz_0_81 := fdq_124 hD hth r0
  have nf0 : fc_1 PRD (20, [1, 25], [60, 3, 9, 415, 79, 80, 81, 90, 82, 83, 84, 85, 86, 87, 88, 89]) ws (vs) := by
    refine ⟨nf_in hl rfl, sgq_1166 ?_⟩
    · show UPA (w_fi ws (n_v vs 1) 79) (w_fi ws (n_v vs 1) 80) (w_fi ws (n_v vs 1) 81) (w_ei ws (w_ar ws (n_v vs 1) 90)) (w_ei ws (w_ar ws (n_v vs 1) 82)) (w_ei ws (w_ar ws (n_v vs 1) 83)) (w_ei ws (w_ar ws (n_v vs 1) 84)) (w_ei ws (w_ar ws (n_v vs 1) 85)) (w_ei ws (w_ar ws (n_v vs 1) 86)) (w_ei ws (w_ar ws (n_v vs 1) 87)) (w_ei ws (w_ar ws (n_v vs 1) 88)) (w_ei ws (w_ar ws (n_v vs 1) 89)) (v_iv (n_v vs 25))
      rw [q1]
      exact vc_Mo_up_26_0 (v_iv (n_v vs 2)) (v_iv (n_v vs 5)) (v_iv (n_v vs 6)) (v_iv (n_v vs 9)) (v_iv (n_v vs 10)) (v_iv (n_v vs 12)) (v_iv (n_v vs 13)) (v_iv (n_v vs 14)) (v_iv (n_v vs 16)) (v_iv (n_v vs 18)) (v_iv (n_v vs 19)) (v_iv (n_v vs 20)) (v_iv (n_v vs 21)) (v_iv (n_v vs 22)) (v_iv (n_v vs 24)) (v_iv (n_v vs 25)) (w_fi ws (n_v vs 0) 79) (w_fi ws (n_v vs 0) 81) (w_ei w1 (w_ar ws (n_v vs 0) 90)) (w_ei w1 (w_ar ws (n_v vs 0) 88)) (w_ei w1 (w_ar ws (n_v vs 0) 87)) (w_ei w1 (w_ar ws (n_v vs 0) 89)) (w_ei w1 (w_ar ws (n_v vs 0) 82)) (w_fi w1 (n_v vs 0) 81) (w_fi w1 (n_v vs 0) 79) (w_ei w1 (w_ar ws (n_v vs 0) 83)) (w_ei w1 (w_ar ws (n_v vs 0) 84)) (w_ei w1 (w_ar ws (n_v vs 0) 85)) (w_ei w1 (w_ar ws (n_v vs 0) 86)) (w_fi w1 (n_v vs 0) 80) (w_fi ws (n_v vs 0) 80) (w_ei ws (w_ar ws (n_v vs 0) 82)) (w_ei ws (w_ar ws (n_v vs 0) 83)) (w_ei ws (w_ar ws (n_v vs 0) 84)) (w_ei ws (w_ar ws (n_v vs 0) 85)) (w_ei ws (w_ar ws (n_v vs 0) 86)) (w_ei ws (w_ar ws (n_v vs 0) 87)) (w_ei ws (w_ar ws (n_v vs 0) 88)) (w_ei ws (w_ar ws (n_v vs 0) 89)) (w_ei ws (w_ar ws (n_v vs 0) 90)) k2 k5 k6 k9 k10 k12 k13 k14 k16 k18 k19 k20 k21 k22 k24 k25 d0 d1 d2 d7 f0 h8 f9 h10 f12 h13 f16 h17 f19 h20 h21 h23 h24 g26 f27 f30 fe_0_79_1 fe_0_80_1 fe_0_81_1 hE_0_82_1 hE_0_83_1 hE_0_84_1 hE_0_85_1 hE_0_86_1 hE_0_87_1 hE_0_88_1 hE_0_89_1 hE_0_90_1 kz_0_79 kz_0_80 kz_0_81
  have nf1 : fc_1 PRD (20, [25, 1], [50, 1, 0, 1081, 0, 2, 1, 0, 2, 1, 81]) ws (vs) := by
    refine ⟨nf_in hl rfl, sgq_1167 ?_⟩
    · show v_iv (n_v vs 25) ≤ w_fi ws (n_v vs 1) 81
      rw [q1]
      exact vc_Mo_up_26_1 (v_iv (n_v vs 5)) (v_iv (n_v vs 6)) (v_iv (n_v vs 25)) (w_fi ws (n_v vs 0) 79) (w_fi ws (n_v vs 0) 81) (w_ei w1 (w_ar ws (n_v vs 0) 88)) (w_ei w1 (w_ar ws (n_v vs 0) 87)) (w_ei w1 (w_ar ws (n_v vs 0) 89)) (w_ei w1 (w_ar ws (n_v vs 0) 82)) (w_fi w1 (n_v vs 0) 81) (w_fi w1 (n_v vs 0) 79) (w_ei w1 (w_ar ws (n_v vs 0) 83)) (w_ei w1 (w_ar ws (n_v vs 0) 84)) (w_ei w1 (w_ar ws (n_v vs 0) 85)) (w_ei w1 (w_ar ws (n_v vs 0) 86)) (w_fi w1 (n_v vs 0) 80) (w_fi ws (n_v vs 0) 80) (w_ei ws (w_ar ws (n_v vs 0) 82)) (w_ei ws (w_ar ws (n_v vs 0) 83)) (w_ei ws (w_ar ws (n_v vs 0) 84)) (w_ei ws (w_ar ws (n_v vs 0) 85)) (w_ei ws (w_ar ws (n_v vs 0) 86)) (w_ei ws (w_ar ws (n_v vs 0) 87)) (w_ei ws (w_ar ws (n_v vs 0) 88)) (w_ei ws (w_ar ws (n_v vs 0) 89)) k5 k6 k25 d0 d1 d7 g26 fe_0_79_1 fe_0_80_1 fe_0_81_1 hE_0_82_1 hE_0_83_1 hE_0_84_1 hE_0_85_1 hE_0_86_1 hE_0_87_1 hE_0_88_1 hE_0_89_1 kz_0_79 kz_0_80 kz_0_81
  refine ⟨(fun _ h => (by cases h)), [], trivial, ?_, (fun _ h => (by cases h))⟩
  rw [List.append_nil]
  exact List.forall_mem_cons.mpr ⟨⟨show (20 : Nat) < 100 from by decide, nf0⟩, List.forall_mem_cons.mpr ⟨⟨show (20 : Nat) < 100 from by decide, nf1⟩, (fun _ h => (by cases h))⟩⟩
set_option maxHeartbeats 4000000 in
theorem vc_Mo_up_27_0 (x7 : Int) (gx : Int) (k7 : (-2) ≤ x7 ∧ x7 ≤ 180000001) (ex2 : gx = x7) : 1 * gx + ((-1) * x7 + 0) ≤ 0 := by
  omega
set_option maxHeartbeats 4000000 in
theorem vc_Mo_up_27_1 (x7 : Int) (gx : Int) (k7 : (-2) ≤ x7 ∧ x7 ≤ 180000001) (ex2 : gx = x7) : (-1) * gx + (1 * x7 + 0) ≤ 0 := by
  omega
set_option maxHeartbeats 4000000 in
theorem vc_Mo_up_27_2 (x2 : Int) (x3 : Int) (k2 : 2 ≤ x2 ∧ x2 ≤ 78) (k3 : 0 ≤ x3 ∧ x3 ≤ 76) (d0 : x3 + (-4294967296) ≤ x2 ∧ x2 ≤ x3 + 2) (d2 : x2 + (-4294967296) ≤ x3 ∧ x3 ≤ x2 + (-2)) : (x3 + 1) ≤ x2 := by
  omega
set_option maxHeartbeats 4000000 in
theorem vc_Mo_up_27_3 (x2 : Int) (x3 : Int) (x4 : Int) (k2 : 2 ≤ x2 ∧ x2 ≤ 78) (k3 : 0 ≤ x3 ∧ x3 ≤ 76) (k4 : 1 ≤ x4 ∧ x4 ≤ 77) (d0 : x3 + (-4294967296) ≤ x2 ∧ x2 ≤ x3 + 2) (d1 : x4 + (-4294967296) ≤ x2 ∧ x2 ≤ x4 + 1) (d2 : x2 + (-4294967296) ≤ x3 ∧ x3 ≤ x2 + (-2)) (d3 : x4 + (-4294967296) ≤ x3 ∧ x3 ≤ x4 + (-1)) (d4 : x2 + (-4294967296) ≤ x4 ∧ x4 ≤ x2 + (-1)) : (x4 + 1) ≤ x2 := by
  omega
set_option maxHeartbeats 4000000 in
theorem vc_Mo_up_27_4 (x2 : Int) (x3 : Int) (x4 : Int) (pointMany_0 : Int) (k2 : 2 ≤ x2 ∧ x2 ≤ 78) (k3 : 0 ≤ x3 ∧ x3 ≤ 76) (k4 : 1 ≤ x4 ∧ x4 ≤ 77) (d0 : x3 + (-4294967296) ≤ x2 ∧ x2 ≤ x3 + 2) (d1 : x4 + (-4294967296) ≤ x2 ∧ x2 ≤ x4 + 1) (d2 : x2 + (-4294967296) ≤ x3 ∧ x3 ≤ x2 + (-2)) (d3 : x4 + (-4294967296) ≤ x3 ∧ x3 ≤ x4 + (-1)) (d4 : x2 + (-4294967296) ≤ x4 ∧ x4 ≤ x2 + (-1)) (f0 : x2 = (pointMany_0 + 2)) (kz_0_79 : 0 ≤ pointMany_0 ∧ pointMany_0 ≤ 76) : x2 ≤ 78 := by
  omega
set_option maxHeartbeats 4000000 in
theorem vc_Mo_up_27_5 (x2 : Int) (pointMany_0 : Int) (k2 : 2 ≤ x2 ∧ x2 ≤ 78) (f0 : x2 = (pointMany_0 + 2)) (kz_0_79 : 0 ≤ pointMany_0 ∧ pointMany_0 ≤ 76) : x2 = (pointMany_0 + 2) := by
  omega
set_option maxHeartbeats 4000000 in
theorem vc_Mo_up_27_6 (x3 : Int) (pointMany_0 : Int) (k3 : 0 ≤ x3 ∧ x3 ≤ 76) (f1 : x3 = pointMany_0) (kz_0_79 : 0 ≤ pointMany_0 ∧ pointMany_0 ≤ 76) : x3 = pointMany_0 := by
  omega
set_option maxHeartbeats 4000000 in
theorem vc_Mo_up_27_7 (x4 : Int) (pointMany_0 : Int) (k4 : 1 ≤ x4 ∧ x4 ≤ 77) (f2 : x4 = (pointMany_0 + 1)) (kz_0_79 : 0 ≤ pointMany_0 ∧ pointMany_0 ≤ 76) : x4 = (pointMany_0 + 1) := by
  omega
set_option maxHeartbeats 4000000 in
theorem vc_Mo_up_27_8 (pointMany_0 : Int) (flow_0 : Int → Int) (spot_0 : Int → Int) (costA_0 : Int → Int) (costB_0 : Int → Int) (costW_0 : Int → Int) (costPlain_0 : Int → Int) (apartA_0 : Int → Int) (apartB_0 : Int → Int) (apart_0 : Int → Int) (costMany_0 : Int) (apartMany_0 : Int) (f3 : FLO (pointMany_0) (costMany_0) (apartMany_0) (flow_0) (spot_0) (costA_0) (costB_0) (costW_0) (costPlain_0) (apartA_0) (apartB_0) (apart_0)) (kz_0_79 : 0 ≤ pointMany_0 ∧ pointMany_0 ≤ 76) (kz_0_80 : 0 ≤ costMany_0 ∧ costMany_0 ≤ 200) (kz_0_81 : 0 ≤ apartMany_0 ∧ apartMany_0 ≤ 200) : FLO (pointMany_0) (costMany_0) (apartMany_0) (flow_0) (spot_0) (costA_0) (costB_0) (costW_0) (costPlain_0) (apartA_0) (apartB_0) (apart_0) := by
  assumption
set_option maxHeartbeats 4000000 in
theorem vc_Mo_up_27_9 (x7 : Int) (pointMany_0 : Int) (flow_0 : Int → Int) (gx : Int) (k7 : (-2) ≤ x7 ∧ x7 ≤ 180000001) (f4 : XLE (pointMany_0) (flow_0) (x7)) (kz_0_79 : 0 ≤ pointMany_0 ∧ pointMany_0 ≤ 76) (ex2 : gx = x7) : XLE (pointMany_0) (flow_0) (gx) := by
  have h := ‹XLE _ _ _›
  rw [show gx = x7 by omega]; exact h
def o_Mo_up_27 : or_T := (433, 8, [(0, (2, 0, 0, [165])), (2, (0, 2, 78, [])), (3, (0, 0, 76, [])), (4, (0, 1, 77, [])), (7, (0, -2, 180000001, []))], [(20, [2, 1], [50, 1, 0, 1079, 1, 2, 1, 0, 4, 3, 2, 1, 79, 0, 2]), (20, [3, 1], [50, 1, 0, 1079, 1, 2, 1, 0, 2, 1, 79]), (20, [4, 1], [50, 1, 0, 1079, 1, 2, 1, 0, 4, 3, 2, 1, 79, 0, 1]), (20, [1], [60, 3, 9, 397, 79, 80, 81, 90, 82, 83, 84, 85, 86, 87, 88, 89]), (20, [1, 7], [60, 1, 1, 398, 79, 90]), (24, [0, 1], [])], [], [(0, -2, 180000001, [])], [(23, [8, 7], [0, 1, -1]), (23, [8, 7], [0, -1, 1]), (20, [3, 2], [50, 0, 0, 0, 6, 4, 2, 1, 0, 0, 1, 1, 1]), (20, [4, 2], [50, 0, 0, 0, 6, 4, 2, 1, 0, 0, 1, 1, 1]), (20, [2], [50, 0, 0, 0, 2, 1, 0, 0, 78]), (20, [2, 1], [50, 1, 0, 1079, 1, 2, 1, 0, 4, 3, 2, 1, 79, 0, 2]), (20, [3, 1], [50, 1, 0, 1079, 1, 2, 1, 0, 2, 1, 79]), (20, [4, 1], [50, 1, 0, 1079, 1, 2, 1, 0, 4, 3, 2, 1, 79, 0, 1]), (20, [1], [60, 3, 9, 397, 79, 80, 81, 90, 82, 83, 84, 85, 86, 87, 88, 89]), (20, [1, 8], [60, 1, 1, 398, 79, 90])], [], [(2, 3, -4294967296, 2), (2, 4, -4294967296, 1), (3, 2, -4294967296, -2), (3, 4, -4294967296, -1), (4, 2, -4294967296, -1)])
theorem oo_Mo_up_27 {kA : Nat → ClassId} : or_ok PRD kA GG o_Mo_up_27 := by
  refine or_mk fun A ta ws vs hD hth hl => ?_
  intro t0 r0 t2 k2 t3 k3 t4 k4 t7 k7 d0 d1 d2 d3 d4 f0 f1 f2 f3 f4 f5
  replace f0 := shm_942 f0
  replace f1 := shm_943 f1
  replace f2 := shm_944 f2
  replace f3 := shm_945 f3
  replace f4 := shm_946 f4
  replace f5 := shm_5 f5
  have q1 : n_v vs 1 = n_v vs 0 := f5.symm
  simp only [q1] at f0 f1 f2 f3 f4
  have kz_0_79 := fdq_147 hD hth r0
  have kz_0_80 := fdq_131 hD hth r0
  have kz_0_81 := fdq_124 hD hth r0
  obtain ⟨x, ex, hx⟩ := iv_ex (ta := ta) (lo := (-2)) (hi := 180000001) (z := v_iv (n_v vs 7)) (by omega) (by omega) (by omega) (by omega)
  have ex2 : v_iv (Value.int x) = v_iv (n_v vs 7) := ex
  have ex3 : (-2) ≤ v_iv (Value.int x) ∧ v_iv (Value.int x) ≤ 180000001 := tv_rng hx
  have e_1 : n_v (vs ++ [Value.int x]) 1 = n_v vs 1 := n_v_old (by rw [hl]; decide)
  have e_2 : n_v (vs ++ [Value.int x]) 2 = n_v vs 2 := n_v_old (by rw [hl]; decide)
  have e_3 : n_v (vs ++ [Value.int x]) 3 = n_v vs 3 := n_v_old (by rw [hl]; decide)
  have e_4 : n_v (vs ++ [Value.int x]) 4 = n_v vs 4 := n_v_old (by rw [hl]; decide)
  have e_7 : n_v (vs ++ [Value.int x]) 7 = n_v vs 7 := n_v_old (by rw [hl]; decide)
  have e_8 : n_v (vs ++ [Value.int x]) 8 = Value.int x := n_v_new hl
  have nf0 : fc_1 PRD (23, [8, 7], [0, 1, -1]) ws (vs ++ [Value.int x]) := by
    refine ⟨nf_inA hl rfl, sgq_7 ?_⟩
    · show 1 * v_iv (n_v (vs ++ [Value.int x]) 8) + ((-1) * v_iv (n_v (vs ++ [Value.int x]) 7) + 0) ≤ 0
      simp only [e_7, e_8]
      exact vc_Mo_up_27_0 (v_iv (n_v vs 7)) (v_iv (Value.int x)) k7 ex2
  have nf1 : fc_1 PRD (23, [8, 7], [0, -1, 1]) ws (vs ++ [Value.int x]) := by
    refine ⟨nf_inA hl rfl, sgq_22 ?_⟩
    · show (-1) * v_iv (n_v (vs ++ [Value.int x]) 8) + (1 * v_iv (n_v (vs ++ [Value.int x]) 7) + 0) ≤ 0
      simp only [e_7, e_8]
      exact vc_Mo_up_27_1 (v_iv (n_v vs 7)) (v_iv (Value.int x)) k7 ex2
  have nf2 : fc_1 PRD (20, [3, 2], [50, 0, 0, 0, 6, 4, 2, 1, 0, 0, 1, 1, 1]) ws (vs ++ [Value.int x]) := by
    refine ⟨nf_inA hl rfl, sgq_396 ?_⟩
    · show (v_iv (n_v (vs ++ [Value.int x]) 3) + 1) ≤ v_iv (n_v (vs ++ [Value.int x]) 2)
      simp only [e_2, e_3]
      exact vc_Mo_up_27_2 (v_iv (n_v vs 2)) (v_iv (n_v vs 3)) k2 k3 d0 d2
  have nf3 : fc_1 PRD (20, [4, 2], [50, 0, 0, 0, 6, 4, 2, 1, 0, 0, 1, 1, 1]) ws (vs ++ [Value.int x]) := by
    refine ⟨nf_inA hl rfl, sgq_396 ?_⟩
    · show (v_iv (n_v (vs ++ [Value.int x]) 4) + 1) ≤ v_iv (n_v (vs ++ [Value.int x]) 2)
      simp only [e_2, e_4]
      exact vc_Mo_up_27_3 (v_iv (n_v vs 2)) (v_iv (n_v vs 3)) (v_iv (n_v vs 4)) k2 k3 k4 d0 d1 d2 d3 d4
  have nf4 : fc_1 PRD (20, [2], [50, 0, 0, 0, 2, 1, 0, 0, 78]) ws (vs ++ [Value.int x]) := by
    refine ⟨nf_inA hl rfl, sgq_941 ?_⟩
    · show v_iv (n_v (vs ++ [Value.int x]) 2) ≤ 78
      rw [e_2]
      exact vc_Mo_up_27_4 (v_iv (n_v vs 2)) (v_iv (n_v vs 3)) (v_iv (n_v vs 4)) (w_fi ws (n_v vs 0) 79) k2 k3 k4 d0 d1 d2 d3 d4 f0 kz_0_79
  have nf5 : fc_1 PRD (20, [2, 1], [50, 1, 0, 1079, 1, 2, 1, 0, 4, 3, 2, 1, 79, 0, 2]) ws (vs ++ [Value.int x]) := by
    refine ⟨nf_inA hl rfl, sgq_942 ?_⟩
    · show v_iv (n_v (vs ++ [Value.int x]) 2) = (w_fi ws (n_v (vs ++ [Value.int x]) 1) 79 + 2)
      simp only [e_1, e_2, q1]
      exact vc_Mo_up_27_5 (v_iv (n_v vs 2)) (w_fi ws (n_v vs 0) 79) k2 f0 kz_0_79
  have nf6 : fc_1 PRD (20, [3, 1], [50, 1, 0, 1079, 1, 2, 1, 0, 2, 1, 79]) ws (vs ++ [Value.int x]) := by
    refine ⟨nf_inA hl rfl, sgq_943 ?_⟩
    · show v_iv (n_v (vs ++ [Value.int x]) 3) = w_fi ws (n_v (vs ++ [Value.int x]) 1) 79
      simp only [e_1, e_3, q1]
      exact vc_Mo_up_27_6 (v_iv (n_v vs 3)) (w_fi ws (n_v vs 0) 79) k3 f1 kz_0_79
  have nf7 : fc_1 PRD (20, [4, 1], [50, 1, 0, 1079, 1, 2, 1, 0, 4, 3, 2, 1, 79, 0, 1]) ws (vs ++ [Value.int x]) := by
    refine ⟨nf_inA hl rfl, sgq_944 ?_⟩
    · show v_iv (n_v (vs ++ [Value.int x]) 4) = (w_fi ws (n_v (vs ++ [Value.int x]) 1) 79 + 1)
      simp only [e_1, e_4, q1]
      exact vc_Mo_up_27_7 (v_iv (n_v vs 4)) (w_fi ws (n_v vs 0) 79) k4 f2 kz_0_79
  have nf8 : fc_1 PRD (20, [1], [60, 3, 9, 397, 79, 80, 81, 90, 82, 83, 84, 85, 86, 87, 88, 89]) ws (vs ++ [Value.int x]) := by
    refine ⟨nf_inA hl rfl, sgq_945 ?_⟩
    · show FLO (w_fi ws (n_v (vs ++ [Value.int x]) 1) 79) (w_fi ws (n_v (vs ++ [Value.int x]) 1) 80) (w_fi ws (n_v (vs ++ [Value.int x]) 1) 81) (w_ei ws (w_ar ws (n_v (vs ++ [Value.int x]) 1) 90)) (w_ei ws (w_ar ws (n_v (vs ++ [Value.int x]) 1) 82)) (w_ei ws (w_ar ws (n_v (vs ++ [Value.int x]) 1) 83)) (w_ei ws (w_ar ws (n_v (vs ++ [Value.int x]) 1) 84)) (w_ei ws (w_ar ws (n_v (vs ++ [Value.int x]) 1) 85)) (w_ei ws (w_ar ws (n_v (vs ++ [Value.int x]) 1) 86)) (w_ei ws (w_ar ws (n_v (vs ++ [Value.int x]) 1) 87)) (w_ei ws (w_ar ws (n_v (vs ++ [Value.int x]) 1) 88)) (w_ei ws (w_ar ws (n_v (vs ++ [Value.int x]) 1) 89))
      simp only [e_1, q1]
      exact vc_Mo_up_27_8 (w_fi ws (n_v vs 0) 79) (w_ei ws (w_ar ws (n_v vs 0) 90)) (w_ei ws (w_ar ws (n_v vs 0) 82)) (w_ei ws (w_ar ws (n_v vs 0) 83)) (w_ei ws (w_ar ws (n_v vs 0) 84)) (w_ei ws (w_ar ws (n_v vs 0) 85)) (w_ei ws (w_ar ws (n_v vs 0) 86)) (w_ei ws (w_ar ws (n_v vs 0) 87)) (w_ei ws (w_ar ws (n_v vs 0) 88)) (w_ei ws (w_ar ws (n_v vs 0) 89)) (w_fi ws (n_v vs 0) 80) (w_fi ws (n_v vs 0) 81) f3 kz_0_79 kz_0_80 kz_0_81
  have nf9 : fc_1 PRD (20, [1, 8], [60, 1, 1, 398, 79, 90]) ws (vs ++ [Value.int x]) := by
    refine ⟨nf_inA hl rfl, sgq_946 ?_⟩
    · show XLE (w_fi ws (n_v (vs ++ [Value.int x]) 1) 79) (w_ei ws (w_ar ws (n_v (vs ++ [Value.int x]) 1) 90)) (v_iv (n_v (vs ++ [Value.int x]) 8))
      simp only [e_1, e_8, q1]
      exact vc_Mo_up_27_9 (v_iv (n_v vs 7)) (w_fi ws (n_v vs 0) 79) (w_ei ws (w_ar ws (n_v vs 0) 90)) (v_iv (Value.int x)) k7 f4 kz_0_79 ex2
  exact ⟨(fun _ h => (by cases h)), [Value.int x], ag_one hx, List.forall_mem_cons.mpr ⟨⟨show (23 : Nat) < 100 from by decide, nf0⟩, List.forall_mem_cons.mpr ⟨⟨show (23 : Nat) < 100 from by decide, nf1⟩, List.forall_mem_cons.mpr ⟨⟨show (20 : Nat) < 100 from by decide, nf2⟩, List.forall_mem_cons.mpr ⟨⟨show (20 : Nat) < 100 from by decide, nf3⟩, List.forall_mem_cons.mpr ⟨⟨show (20 : Nat) < 100 from by decide, nf4⟩, List.forall_mem_cons.mpr ⟨⟨show (20 : Nat) < 100 from by decide, nf5⟩, List.forall_mem_cons.mpr ⟨⟨show (20 : Nat) < 100 from by decide, nf6⟩, List.forall_mem_cons.mpr ⟨⟨show (20 : Nat) < 100 from by decide, nf7⟩, List.forall_mem_cons.mpr ⟨⟨show (20 : Nat) < 100 from by decide, nf8⟩, List.forall_mem_cons.mpr ⟨⟨show (20 : Nat) < 100 from by decide, nf9⟩, (fun _ h => (by cases h))⟩⟩⟩⟩⟩⟩⟩⟩⟩⟩, (fun _ h => (by cases h))⟩
set_option maxHeartbeats 4000000 in
theorem vc_Mo_up_28_0 (x2 : Int) (x3 : Int) (x4 : Int) (x9 : Int) (flow_0 : Int → Int) (cameBy_0 : Int → Int) (k2 : 2 ≤ x2 ∧ x2 ≤ 78) (k3 : 0 ≤ x3 ∧ x3 ≤ 76) (k4 : 1 ≤ x4 ∧ x4 ≤ 77) (k9 : 0 ≤ x9 ∧ x9 ≤ 0) (f0 : x9 = 0) (f15 : CTA (flow_0) (cameBy_0) (x2) (x3) (x4) (x9)) : CUT (flow_0) (cameBy_0) (x2) (x3) (x4) := by
  first
    | assumption
    | exact ‹CTA _ _ _ _ _ _› (by omega)
set_option maxHeartbeats 4000000 in
theorem vc_Mo_up_28_1 (x10 : Int) (x11 : Int) (cameBy_0 : Int → Int) (goes_0 : Int → Int) (k10 : 0 ≤ x10 ∧ x10 ≤ 0) (k11 : 0 ≤ x11 ∧ x11 ≤ 0) : UPE (goes_0) (cameBy_0) (x11) (x10) := by
  first
    | exact upe_zero (by omega) (by omega)
    | exact upe_step ‹UPE _ _ _ _› (by omega) (by assumption) (by assumption) rfl (by first | (left; constructor <;> omega) | (right; constructor <;> omega)) (by assumption) (by assumption)
  
set_option maxHeartbeats 4000000 in
theorem vc_Mo_up_28_2 (x2 : Int) (x3 : Int) (x4 : Int) (x11 : Int) (pointMany_0 : Int) (k2 : 2 ≤ x2 ∧ x2 ≤ 78) (k3 : 0 ≤ x3 ∧ x3 ≤ 76) (k4 : 1 ≤ x4 ∧ x4 ≤ 77) (k11 : 0 ≤ x11 ∧ x11 ≤ 0) (d0 : x3 + (-4294967296) ≤ x2 ∧ x2 ≤ x3 + 2) (d1 : x4 + (-4294967296) ≤ x2 ∧ x2 ≤ x4 + 1) (d2 : x2 + (-4294967296) ≤ x3 ∧ x3 ≤ x2 + (-2)) (d3 : x4 + (-4294967296) ≤ x3 ∧ x3 ≤ x4 + (-1)) (d4 : x2 + (-4294967296) ≤ x4 ∧ x4 ≤ x2 + (-1)) (f6 : x2 = (pointMany_0 + 2)) (kz_0_79 : 0 ≤ pointMany_0 ∧ pointMany_0 ≤ 76) : x11 ≤ pointMany_0 := by
  omega
def o_Mo_up_28 : or_T := (458, 12, [(0, (2, 0, 0, [165])), (2, (0, 2, 78, [])), (3, (0, 0, 76, [])), (4, (0, 1, 77, [])), (9, (0, 0, 0, [])), (10, (0, 0, 0, [])), (11, (0, 0, 0, []))], [(8, [9], [0]), (20, [2, 1], [50, 1, 0, 1079, 1, 2, 1, 0, 4, 3, 2, 1, 79, 0, 2]), (24, [0, 1], []), (20, [1, 2, 3, 4, 9], [60, 0, 2, 405, 90, 91])], [], [], [(20, [1, 2, 3, 4], [60, 0, 2, 406, 90, 91]), (20, [1, 11, 10], [60, 0, 2, 416, 93, 91]), (20, [11, 1], [50, 1, 0, 1079, 0, 2, 1, 0, 2, 1, 79])], [], [(2, 3, -4294967296, 2), (2, 4, -4294967296, 1), (3, 2, -4294967296, -2), (3, 4, -4294967296, -1), (4, 2, -4294967296, -1)])
theorem oo_Mo_up_28 {kA : Nat → ClassId} : or_ok PRD kA GG o_Mo_up_28 := by
  refine or_mk fun A ta ws vs hD hth hl => ?_
  intro t0 r0 t2 k2 t3 k3 t4 k4 t9 k9 t10 k10 t11 k11 d0 d1 d2 d3 d4 f0 f6 f12 f15
  replace f0 := shm_192 f0
  replace f6 := shm_942 f6
  replace f12 := shm_5 f12
  replace f15 := shm_958 f15
  have q1 : n_v vs 1 = n_v vs 0 := f12.symm
  simp only [q1] at f6 f15
  have kz_0_79 := fdq_147 hD hth r0
  have nf0 : fc_1 PRD (20, [1, 2, 3, 4], [60, 0, 2, 406, 90, 91]) ws (vs) := by
    refine ⟨nf_in hl rfl, sgq_1168 ?_⟩
    · show CUT (w_ei ws (w_ar ws (n_v vs 1) 90)) (w_ei ws (w_ar ws (n_v vs 1) 91)) (v_iv (n_v vs 2)) (v_iv (n_v vs 3)) (v_iv (n_v vs 4))
      rw [q1]
      exact vc_Mo_up_28_0 (v_iv (n_v vs 2)) (v_iv (n_v vs 3)) (v_iv (n_v vs 4)) (v_iv (n_v vs 9)) (w_ei ws (w_ar ws (n_v vs 0) 90)) (w_ei ws (w_ar ws (n_v vs 0) 91)) k2 k3 k4 k9 f0 f15
  have nf1 : fc_1 PRD (20, [1, 11, 10], [60, 0, 2, 416, 93, 91]) ws (vs) := by
    refine ⟨nf_in hl rfl, sgq_1169 ?_⟩
    · show UPE (w_ei ws (w_ar ws (n_v vs 1) 93)) (w_ei ws (w_ar ws (n_v vs 1) 91)) (v_iv (n_v vs 11)) (v_iv (n_v vs 10))
      rw [q1]
      exact vc_Mo_up_28_1 (v_iv (n_v vs 10)) (v_iv (n_v vs 11)) (w_ei ws (w_ar ws (n_v vs 0) 91)) (w_ei ws (w_ar ws (n_v vs 0) 93)) k10 k11
  have nf2 : fc_1 PRD (20, [11, 1], [50, 1, 0, 1079, 0, 2, 1, 0, 2, 1, 79]) ws (vs) := by
    refine ⟨nf_in hl rfl, sgq_1164 ?_⟩
    · show v_iv (n_v vs 11) ≤ w_fi ws (n_v vs 1) 79
      rw [q1]
      exact vc_Mo_up_28_2 (v_iv (n_v vs 2)) (v_iv (n_v vs 3)) (v_iv (n_v vs 4)) (v_iv (n_v vs 11)) (w_fi ws (n_v vs 0) 79) k2 k3 k4 k11 d0 d1 d2 d3 d4 f6 kz_0_79
  refine ⟨(fun _ h => (by cases h)), [], trivial, ?_, (fun _ h => (by cases h))⟩
  rw [List.append_nil]
  exact List.forall_mem_cons.mpr ⟨⟨show (20 : Nat) < 100 from by decide, nf0⟩, List.forall_mem_cons.mpr ⟨⟨show (20 : Nat) < 100 from by decide, nf1⟩, List.forall_mem_cons.mpr ⟨⟨show (20 : Nat) < 100 from by decide, nf2⟩, (fun _ h => (by cases h))⟩⟩⟩
set_option maxHeartbeats 4000000 in
theorem vc_Mo_up_29_0 (x2 : Int) (pointMany_0 : Int) (flow_0 : Int → Int) (spot_0 : Int → Int) (costA_0 : Int → Int) (costB_0 : Int → Int) (costW_0 : Int → Int) (costPlain_0 : Int → Int) (apartA_0 : Int → Int) (apartB_0 : Int → Int) (apart_0 : Int → Int) (costMany_0 : Int) (apartMany_0 : Int) (cameBy_0 : Int → Int) (pointMany_1 : Int) (flow_1 : Int → Int) (spot_1 : Int → Int) (costA_1 : Int → Int) (costB_1 : Int → Int) (costW_1 : Int → Int) (costPlain_1 : Int → Int) (apartA_1 : Int → Int) (apartB_1 : Int → Int) (apart_1 : Int → Int) (costMany_1 : Int) (apartMany_1 : Int) (cameBy_1 : Int → Int) (gx : Int) (k2 : 2 ≤ x2 ∧ x2 ≤ 78) (f25 : x2 = (pointMany_1 + 2)) (fe_0_79_1 : pointMany_0 = pointMany_1) (fe_0_80_1 : costMany_0 = costMany_1) (fe_0_81_1 : apartMany_0 = apartMany_1) (hE_0_82_1 : ∀ j : Int, spot_0 j = spot_1 j) (hE_0_83_1 : ∀ j : Int, costA_0 j = costA_1 j) (hE_0_84_1 : ∀ j : Int, costB_0 j = costB_1 j) (hE_0_85_1 : ∀ j : Int, costW_0 j = costW_1 j) (hE_0_86_1 : ∀ j : Int, costPlain_0 j = costPlain_1 j) (hE_0_87_1 : ∀ j : Int, apartA_0 j = apartA_1 j) (hE_0_88_1 : ∀ j : Int, apartB_0 j = apartB_1 j) (hE_0_89_1 : ∀ j : Int, apart_0 j = apart_1 j) (hE_0_90_1 : ∀ j : Int, flow_0 j = flow_1 j) (hE_0_91_1 : ∀ j : Int, cameBy_0 j = cameBy_1 j) (kz_0_79 : 0 ≤ pointMany_0 ∧ pointMany_0 ≤ 76) (kz_0_80 : 0 ≤ costMany_0 ∧ costMany_0 ≤ 200) (kz_0_81 : 0 ≤ apartMany_0 ∧ apartMany_0 ≤ 200) : x2 = (pointMany_0 + 2) := by
  subst fe_0_79_1
  subst fe_0_80_1
  subst fe_0_81_1
  have e_hE_0_82_1 := funext hE_0_82_1; subst e_hE_0_82_1
  have e_hE_0_83_1 := funext hE_0_83_1; subst e_hE_0_83_1
  have e_hE_0_84_1 := funext hE_0_84_1; subst e_hE_0_84_1
  have e_hE_0_85_1 := funext hE_0_85_1; subst e_hE_0_85_1
  have e_hE_0_86_1 := funext hE_0_86_1; subst e_hE_0_86_1
  have e_hE_0_87_1 := funext hE_0_87_1; subst e_hE_0_87_1
  have e_hE_0_88_1 := funext hE_0_88_1; subst e_hE_0_88_1
  have e_hE_0_89_1 := funext hE_0_89_1; subst e_hE_0_89_1
  have e_hE_0_90_1 := funext hE_0_90_1; subst e_hE_0_90_1
  have e_hE_0_91_1 := funext hE_0_91_1; subst e_hE_0_91_1
  first
    | omega
    | (have h := ‹XLA _ _ _ _› (by omega); have h2 := xle_nn ‹FLO _ _ _ _ _ _ _ _ _ _ _ _› (g := gx - 1) (by unfold XLE; omega); omega)
set_option maxHeartbeats 4000000 in
theorem vc_Mo_up_29_1 (x3 : Int) (pointMany_0 : Int) (flow_0 : Int → Int) (spot_0 : Int → Int) (costA_0 : Int → Int) (costB_0 : Int → Int) (costW_0 : Int → Int) (costPlain_0 : Int → Int) (apartA_0 : Int → Int) (apartB_0 : Int → Int) (apart_0 : Int → Int) (costMany_0 : Int) (apartMany_0 : Int) (cameBy_0 : Int → Int) (pointMany_1 : Int) (flow_1 : Int → Int) (spot_1 : Int → Int) (costA_1 : Int → Int) (costB_1 : Int → Int) (costW_1 : Int → Int) (costPlain_1 : Int → Int) (apartA_1 : Int → Int) (apartB_1 : Int → Int) (apart_1 : Int → Int) (costMany_1 : Int) (apartMany_1 : Int) (cameBy_1 : Int → Int) (gx : Int) (k3 : 0 ≤ x3 ∧ x3 ≤ 76) (f26 : x3 = pointMany_1) (fe_0_79_1 : pointMany_0 = pointMany_1) (fe_0_80_1 : costMany_0 = costMany_1) (fe_0_81_1 : apartMany_0 = apartMany_1) (hE_0_82_1 : ∀ j : Int, spot_0 j = spot_1 j) (hE_0_83_1 : ∀ j : Int, costA_0 j = costA_1 j) (hE_0_84_1 : ∀ j : Int, costB_0 j = costB_1 j) (hE_0_85_1 : ∀ j : Int, costW_0 j = costW_1 j) (hE_0_86_1 : ∀ j : Int, costPlain_0 j = costPlain_1 j) (hE_0_87_1 : ∀ j : Int, apartA_0 j = apartA_1 j) (hE_0_88_1 : ∀ j : Int, apartB_0 j = apartB_1 j) (hE_0_89_1 : ∀ j : Int, apart_0 j = apart_1 j) (hE_0_90_1 : ∀ j : Int, flow_0 j = flow_1 j) (hE_0_91_1 : ∀ j : Int, cameBy_0 j = cameBy_1 j) (kz_0_79 : 0 ≤ pointMany_0 ∧ pointMany_0 ≤ 76) (kz_0_80 : 0 ≤ costMany_0 ∧ costMany_0 ≤ 200) (kz_0_81 : 0 ≤ apartMany_0 ∧ apartMany_0 ≤ 200) : x3 = pointMany_0 := by
  subst fe_0_79_1
  subst fe_0_80_1
  subst fe_0_81_1
  have e_hE_0_82_1 := funext hE_0_82_1; subst e_hE_0_82_1
  have e_hE_0_83_1 := funext hE_0_83_1; subst e_hE_0_83_1
  have e_hE_0_84_1 := funext hE_0_84_1; subst e_hE_0_84_1
  have e_hE_0_85_1 := funext hE_0_85_1; subst e_hE_0_85_1
  have e_hE_0_86_1 := funext hE_0_86_1; subst e_hE_0_86_1
  have e_hE_0_87_1 := funext hE_0_87_1; subst e_hE_0_87_1
  have e_hE_0_88_1 := funext hE_0_88_1; subst e_hE_0_88_1
  have e_hE_0_89_1 := funext hE_0_89_1; subst e_hE_0_89_1
  have e_hE_0_90_1 := funext hE_0_90_1; subst e_hE_0_90_1
  have e_hE_0_91_1 := funext hE_0_91_1; subst e_hE_0_91_1
  first
    | omega
    | (have h := ‹XLA _ _ _ _› (by omega); have h2 := xle_nn ‹FLO _ _ _ _ _ _ _ _ _ _ _ _› (g := gx - 1) (by unfold XLE; omega); omega)
set_option maxHeartbeats 4000000 in
theorem vc_Mo_up_29_2 (x4 : Int) (pointMany_0 : Int) (flow_0 : Int → Int) (spot_0 : Int → Int) (costA_0 : Int → Int) (costB_0 : Int → Int) (costW_0 : Int → Int) (costPlain_0 : Int → Int) (apartA_0 : Int → Int) (apartB_0 : Int → Int) (apart_0 : Int → Int) (costMany_0 : Int) (apartMany_0 : Int) (cameBy_0 : Int → Int) (pointMany_1 : Int) (flow_1 : Int → Int) (spot_1 : Int → Int) (costA_1 : Int → Int) (costB_1 : Int → Int) (costW_1 : Int → Int) (costPlain_1 : Int → Int) (apartA_1 : Int → Int) (apartB_1 : Int → Int) (apart_1 : Int → Int) (costMany_1 : Int) (apartMany_1 : Int) (cameBy_1 : Int → Int) (gx : Int) (k4 : 1 ≤ x4 ∧ x4 ≤ 77) (f27 : x4 = (pointMany_1 + 1)) (fe_0_79_1 : pointMany_0 = pointMany_1) (fe_0_80_1 : costMany_0 = costMany_1) (fe_0_81_1 : apartMany_0 = apartMany_1) (hE_0_82_1 : ∀ j : Int, spot_0 j = spot_1 j) (hE_0_83_1 : ∀ j : Int, costA_0 j = costA_1 j) (hE_0_84_1 : ∀ j : Int, costB_0 j = costB_1 j) (hE_0_85_1 : ∀ j : Int, costW_0 j = costW_1 j) (hE_0_86_1 : ∀ j : Int, costPlain_0 j = costPlain_1 j) (hE_0_87_1 : ∀ j : Int, apartA_0 j = apartA_1 j) (hE_0_88_1 : ∀ j : Int, apartB_0 j = apartB_1 j) (hE_0_89_1 : ∀ j : Int, apart_0 j = apart_1 j) (hE_0_90_1 : ∀ j : Int, flow_0 j = flow_1 j) (hE_0_91_1 : ∀ j : Int, cameBy_0 j = cameBy_1 j) (kz_0_79 : 0 ≤ pointMany_0 ∧ pointMany_0 ≤ 76) (kz_0_80 : 0 ≤ costMany_0 ∧ costMany_0 ≤ 200) (kz_0_81 : 0 ≤ apartMany_0 ∧ apartMany_0 ≤ 200) : x4 = (pointMany_0 + 1) := by
  subst fe_0_79_1
  subst fe_0_80_1
  subst fe_0_81_1
  have e_hE_0_82_1 := funext hE_0_82_1; subst e_hE_0_82_1
  have e_hE_0_83_1 := funext hE_0_83_1; subst e_hE_0_83_1
  have e_hE_0_84_1 := funext hE_0_84_1; subst e_hE_0_84_1
  have e_hE_0_85_1 := funext hE_0_85_1; subst e_hE_0_85_1
  have e_hE_0_86_1 := funext hE_0_86_1; subst e_hE_0_86_1
  have e_hE_0_87_1 := funext hE_0_87_1; subst e_hE_0_87_1
  have e_hE_0_88_1 := funext hE_0_88_1; subst e_hE_0_88_1
  have e_hE_0_89_1 := funext hE_0_89_1; subst e_hE_0_89_1
  have e_hE_0_90_1 := funext hE_0_90_1; subst e_hE_0_90_1
  have e_hE_0_91_1 := funext hE_0_91_1; subst e_hE_0_91_1
  first
    | omega
    | (have h := ‹XLA _ _ _ _› (by omega); have h2 := xle_nn ‹FLO _ _ _ _ _ _ _ _ _ _ _ _› (g := gx - 1) (by unfold XLE; omega); omega)
set_option maxHeartbeats 4000000 in
theorem vc_Mo_up_29_3 (pointMany_0 : Int) (flow_0 : Int → Int) (spot_0 : Int → Int) (costA_0 : Int → Int) (costB_0 : Int → Int) (costW_0 : Int → Int) (costPlain_0 : Int → Int) (apartA_0 : Int → Int) (apartB_0 : Int → Int) (apart_0 : Int → Int) (costMany_0 : Int) (apartMany_0 : Int) (cameBy_0 : Int → Int) (pointMany_1 : Int) (flow_1 : Int → Int) (spot_1 : Int → Int) (costA_1 : Int → Int) (costB_1 : Int → Int) (costW_1 : Int → Int) (costPlain_1 : Int → Int) (apartA_1 : Int → Int) (apartB_1 : Int → Int) (apart_1 : Int → Int) (costMany_1 : Int) (apartMany_1 : Int) (cameBy_1 : Int → Int) (f28 : FLO (pointMany_1) (costMany_1) (apartMany_1) (flow_1) (spot_1) (costA_1) (costB_1) (costW_1) (costPlain_1) (apartA_1) (apartB_1) (apart_1)) (fe_0_79_1 : pointMany_0 = pointMany_1) (fe_0_80_1 : costMany_0 = costMany_1) (fe_0_81_1 : apartMany_0 = apartMany_1) (hE_0_82_1 : ∀ j : Int, spot_0 j = spot_1 j) (hE_0_83_1 : ∀ j : Int, costA_0 j = costA_1 j) (hE_0_84_1 : ∀ j : Int, costB_0 j = costB_1 j) (hE_0_85_1 : ∀ j : Int, costW_0 j = costW_1 j) (hE_0_86_1 : ∀ j : Int, costPlain_0 j = costPlain_1 j) (hE_0_87_1 : ∀ j : Int, apartA_0 j = apartA_1 j) (hE_0_88_1 : ∀ j : Int, apartB_0 j = apartB_1 j) (hE_0_89_1 : ∀ j : Int, apart_0 j = apart_1 j) (hE_0_90_1 : ∀ j : Int, flow_0 j = flow_1 j) (hE_0_91_1 : ∀ j : Int, cameBy_0 j = cameBy_1 j) (kz_0_79 : 0 ≤ pointMany_0 ∧ pointMany_0 ≤ 76) (kz_0_80 : 0 ≤ costMany_0 ∧ costMany_0 ≤ 200) (kz_0_81 : 0 ≤ apartMany_0 ∧ apartMany_0 ≤ 200) : FLO (pointMany_0) (costMany_0) (apartMany_0) (flow_0) (spot_0) (costA_0) (costB_0) (costW_0) (costPlain_0) (apartA_0) (apartB_0) (apart_0) := by
  subst fe_0_79_1
  subst fe_0_80_1
  subst fe_0_81_1
  have e_hE_0_82_1 := funext hE_0_82_1; subst e_hE_0_82_1
  have e_hE_0_83_1 := funext hE_0_83_1; subst e_hE_0_83_1
  have e_hE_0_84_1 := funext hE_0_84_1; subst e_hE_0_84_1
  have e_hE_0_85_1 := funext hE_0_85_1; subst e_hE_0_85_1
  have e_hE_0_86_1 := funext hE_0_86_1; subst e_hE_0_86_1
  have e_hE_0_87_1 := funext hE_0_87_1; subst e_hE_0_87_1
  have e_hE_0_88_1 := funext hE_0_88_1; subst e_hE_0_88_1
  have e_hE_0_89_1 := funext hE_0_89_1; subst e_hE_0_89_1
  have e_hE_0_90_1 := funext hE_0_90_1; subst e_hE_0_90_1
  have e_hE_0_91_1 := funext hE_0_91_1; subst e_hE_0_91_1
  assumption
set_option maxHeartbeats 4000000 in
theorem vc_Mo_up_29_4 (x7 : Int) (x8 : Int) (x9 : Int) (pointMany_0 : Int) (flow_0 : Int → Int) (spot_0 : Int → Int) (costA_0 : Int → Int) (costB_0 : Int → Int) (costW_0 : Int → Int) (costPlain_0 : Int → Int) (apartA_0 : Int → Int) (apartB_0 : Int → Int) (apart_0 : Int → Int) (costMany_0 : Int) (apartMany_0 : Int) (cameBy_0 : Int → Int) (pointMany_1 : Int) (flow_1 : Int → Int) (spot_1 : Int → Int) (costA_1 : Int → Int) (costB_1 : Int → Int) (costW_1 : Int → Int) (costPlain_1 : Int → Int) (apartA_1 : Int → Int) (apartB_1 : Int → Int) (apart_1 : Int → Int) (costMany_1 : Int) (apartMany_1 : Int) (cameBy_1 : Int → Int) (gx : Int) (k7 : (-2) ≤ x7 ∧ x7 ≤ 180000001) (k8 : (-2) ≤ x8 ∧ x8 ≤ 180000001) (k9 : 1 ≤ x9 ∧ x9 ≤ 1) (f0 : 1 * x8 + ((-1) * x7 + 0) ≤ 0) (f1 : (-1) * x8 + (1 * x7 + 0) ≤ 0) (f16 : x9 ≠ 0) (f29 : XLA (pointMany_1) (flow_1) (x9) (x8)) (fe_0_79_1 : pointMany_0 = pointMany_1) (fe_0_80_1 : costMany_0 = costMany_1) (fe_0_81_1 : apartMany_0 = apartMany_1) (hE_0_82_1 : ∀ j : Int, spot_0 j = spot_1 j) (hE_0_83_1 : ∀ j : Int, costA_0 j = costA_1 j) (hE_0_84_1 : ∀ j : Int, costB_0 j = costB_1 j) (hE_0_85_1 : ∀ j : Int, costW_0 j = costW_1 j) (hE_0_86_1 : ∀ j : Int, costPlain_0 j = costPlain_1 j) (hE_0_87_1 : ∀ j : Int, apartA_0 j = apartA_1 j) (hE_0_88_1 : ∀ j : Int, apartB_0 j = apartB_1 j) (hE_0_89_1 : ∀ j : Int, apart_0 j = apart_1 j) (hE_0_90_1 : ∀ j : Int, flow_0 j = flow_1 j) (hE_0_91_1 : ∀ j : Int, cameBy_0 j = cameBy_1 j) (kz_0_79 : 0 ≤ pointMany_0 ∧ pointMany_0 ≤ 76) (kz_0_80 : 0 ≤ costMany_0 ∧ costMany_0 ≤ 200) (kz_0_81 : 0 ≤ apartMany_0 ∧ apartMany_0 ≤ 200) (ex2 : gx = 0 + (1 * x7 + 0)) : XLB (pointMany_0) (flow_0) (gx) := by
  subst fe_0_79_1
  subst fe_0_80_1
  subst fe_0_81_1
  have e_hE_0_82_1 := funext hE_0_82_1; subst e_hE_0_82_1
  have e_hE_0_83_1 := funext hE_0_83_1; subst e_hE_0_83_1
  have e_hE_0_84_1 := funext hE_0_84_1; subst e_hE_0_84_1
  have e_hE_0_85_1 := funext hE_0_85_1; subst e_hE_0_85_1
  have e_hE_0_86_1 := funext hE_0_86_1; subst e_hE_0_86_1
  have e_hE_0_87_1 := funext hE_0_87_1; subst e_hE_0_87_1
  have e_hE_0_88_1 := funext hE_0_88_1; subst e_hE_0_88_1
  have e_hE_0_89_1 := funext hE_0_89_1; subst e_hE_0_89_1
  have e_hE_0_90_1 := funext hE_0_90_1; subst e_hE_0_90_1
  have e_hE_0_91_1 := funext hE_0_91_1; subst e_hE_0_91_1
  have h := ‹XLA _ _ _ _› (by omega)
  unfold XLB XLE; omega
set_option maxHeartbeats 4000000 in
theorem vc_Mo_up_29_5 (x7 : Int) (x8 : Int) (x9 : Int) (pointMany_0 : Int) (flow_0 : Int → Int) (spot_0 : Int → Int) (costA_0 : Int → Int) (costB_0 : Int → Int) (costW_0 : Int → Int) (costPlain_0 : Int → Int) (apartA_0 : Int → Int) (apartB_0 : Int → Int) (apart_0 : Int → Int) (costMany_0 : Int) (apartMany_0 : Int) (cameBy_0 : Int → Int) (pointMany_1 : Int) (flow_1 : Int → Int) (spot_1 : Int → Int) (costA_1 : Int → Int) (costB_1 : Int → Int) (costW_1 : Int → Int) (costPlain_1 : Int → Int) (apartA_1 : Int → Int) (apartB_1 : Int → Int) (apart_1 : Int → Int) (costMany_1 : Int) (apartMany_1 : Int) (cameBy_1 : Int → Int) (gx : Int) (k7 : (-2) ≤ x7 ∧ x7 ≤ 180000001) (k8 : (-2) ≤ x8 ∧ x8 ≤ 180000001) (k9 : 1 ≤ x9 ∧ x9 ≤ 1) (f0 : 1 * x8 + ((-1) * x7 + 0) ≤ 0) (f1 : (-1) * x8 + (1 * x7 + 0) ≤ 0) (f16 : x9 ≠ 0) (f28 : FLO (pointMany_1) (costMany_1) (apartMany_1) (flow_1) (spot_1) (costA_1) (costB_1) (costW_1) (costPlain_1) (apartA_1) (apartB_1) (apart_1)) (f29 : XLA (pointMany_1) (flow_1) (x9) (x8)) (fe_0_79_1 : pointMany_0 = pointMany_1) (fe_0_80_1 : costMany_0 = costMany_1) (fe_0_81_1 : apartMany_0 = apartMany_1) (hE_0_82_1 : ∀ j : Int, spot_0 j = spot_1 j) (hE_0_83_1 : ∀ j : Int, costA_0 j = costA_1 j) (hE_0_84_1 : ∀ j : Int, costB_0 j = costB_1 j) (hE_0_85_1 : ∀ j : Int, costW_0 j = costW_1 j) (hE_0_86_1 : ∀ j : Int, costPlain_0 j = costPlain_1 j) (hE_0_87_1 : ∀ j : Int, apartA_0 j = apartA_1 j) (hE_0_88_1 : ∀ j : Int, apartB_0 j = apartB_1 j) (hE_0_89_1 : ∀ j : Int, apart_0 j = apart_1 j) (hE_0_90_1 : ∀ j : Int, flow_0 j = flow_1 j) (hE_0_91_1 : ∀ j : Int, cameBy_0 j = cameBy_1 j) (kz_0_79 : 0 ≤ pointMany_0 ∧ pointMany_0 ≤ 76) (kz_0_80 : 0 ≤ costMany_0 ∧ costMany_0 ≤ 200) (kz_0_81 : 0 ≤ apartMany_0 ∧ apartMany_0 ≤ 200) (ex2 : gx = 0 + (1 * x7 + 0)) : (-1) * gx + 0 ≤ (-1) := by
  subst fe_0_79_1
  subst fe_0_80_1
  subst fe_0_81_1
  have e_hE_0_82_1 := funext hE_0_82_1; subst e_hE_0_82_1
  have e_hE_0_83_1 := funext hE_0_83_1; subst e_hE_0_83_1
  have e_hE_0_84_1 := funext hE_0_84_1; subst e_hE_0_84_1
  have e_hE_0_85_1 := funext hE_0_85_1; subst e_hE_0_85_1
  have e_hE_0_86_1 := funext hE_0_86_1; subst e_hE_0_86_1
  have e_hE_0_87_1 := funext hE_0_87_1; subst e_hE_0_87_1
  have e_hE_0_88_1 := funext hE_0_88_1; subst e_hE_0_88_1
  have e_hE_0_89_1 := funext hE_0_89_1; subst e_hE_0_89_1
  have e_hE_0_90_1 := funext hE_0_90_1; subst e_hE_0_90_1
  have e_hE_0_91_1 := funext hE_0_91_1; subst e_hE_0_91_1
  first
    | omega
    | (have h := ‹XLA _ _ _ _› (by omega); have h2 := xle_nn ‹FLO _ _ _ _ _ _ _ _ _ _ _ _› (g := gx - 1) (by unfold XLE; omega); omega)
def o_Mo_up_29 : or_T := (449, 12, [(0, (2, 0, 0, [165])), (1, (2, 0, 0, [165])), (2, (0, 2, 78, [])), (3, (0, 0, 76, [])), (4, (0, 1, 77, [])), (7, (0, -2, 180000001, [])), (8, (0, -2, 180000001, [])), (9, (0, 1, 1, []))], [(23, [8, 7], [0, 1, -1]), (23, [8, 7], [0, -1, 1]), (20, [3, 2], [50, 0, 0, 0, 6, 4, 2, 1, 0, 0, 1, 1, 1]), (20, [4, 2], [50, 0, 0, 0, 6, 4, 2, 1, 0, 0, 1, 1, 1]), (20, [2], [50, 0, 0, 0, 2, 1, 0, 0, 78]), (20, [2, 1], [50, 1, 0, 1079, 1, 2, 1, 0, 4, 3, 2, 1, 79, 0, 2]), (20, [3, 1], [50, 1, 0, 1079, 1, 2, 1, 0, 2, 1, 79]), (20, [4, 1], [50, 1, 0, 1079, 1, 2, 1, 0, 4, 3, 2, 1, 79, 0, 1]), (20, [2, 1], [50, 1, 0, 1079, 1, 2, 1, 0, 4, 3, 2, 1, 79, 0, 2]), (20, [3, 1], [50, 1, 0, 1079, 1, 2, 1, 0, 2, 1, 79]), (20, [4, 1], [50, 1, 0, 1079, 1, 2, 1, 0, 4, 3, 2, 1, 79, 0, 1]), (24, [0, 1], []), (20, [1], [60, 3, 9, 397, 79, 80, 81, 90, 82, 83, 84, 85, 86, 87, 88, 89]), (20, [1, 9, 8], [60, 1, 1, 400, 79, 90]), (20, [1, 2, 3, 4, 9], [60, 0, 2, 405, 90, 91]), (101, [1, 11], [94]), (8, [9], [1]), (23, [8, 7], [0, 1, -1]), (23, [8, 7], [0, -1, 1]), (20, [3, 2], [50, 0, 0, 0, 6, 4, 2, 1, 0, 0, 1, 1, 1]), (20, [4, 2], [50, 0, 0, 0, 6, 4, 2, 1, 0, 0, 1, 1, 1]), (20, [2], [50, 0, 0, 0, 2, 1, 0, 0, 78]), (20, [2, 1], [50, 1, 0, 1079, 1, 2, 1, 0, 4, 3, 2, 1, 79, 0, 2]), (20, [3, 1], [50, 1, 0, 1079, 1, 2, 1, 0, 2, 1, 79]), (20, [4, 1], [50, 1, 0, 1079, 1, 2, 1, 0, 4, 3, 2, 1, 79, 0, 1]), (20, [2, 1], [50, 1, 0, 1079, 1, 2, 1, 0, 4, 3, 2, 1, 79, 0, 2]), (20, [3, 1], [50, 1, 0, 1079, 1, 2, 1, 0, 2, 1, 79]), (20, [4, 1], [50, 1, 0, 1079, 1, 2, 1, 0, 4, 3, 2, 1, 79, 0, 1]), (20, [1], [60, 3, 9, 397, 79, 80, 81, 90, 82, 83, 84, 85, 86, 87, 88, 89]), (20, [1, 9, 8], [60, 1, 1, 400, 79, 90]), (20, [1, 2, 3, 4, 9], [60, 0, 2, 405, 90, 91]), (102, [8], [1509757013360435828501352844873099317723680087662272058941802173956096]), (23, [8, 7], [0, 1, -1]), (23, [8, 7], [0, -1, 1])], [], [(0, -2, 180000001, [])], [(20, [2, 1], [50, 1, 0, 1079, 1, 2, 1, 0, 4, 3, 2, 1, 79, 0, 2]), (20, [3, 1], [50, 1, 0, 1079, 1, 2, 1, 0, 2, 1, 79]), (20, [4, 1], [50, 1, 0, 1079, 1, 2, 1, 0, 4, 3, 2, 1, 79, 0, 1]), (20, [1], [60, 3, 9, 397, 79, 80, 81, 90, 82, 83, 84, 85, 86, 87, 88, 89]), (20, [1, 12], [60, 1, 1, 399, 79, 90]), (23, [12], [-1, -1]), (24, [0, 1], [])], [(12, 7, 0, 0)], [(2, 3, -4294967296, 2), (2, 4, -4294967296, 1), (3, 2, -4294967296, -2), (3, 4, -4294967296, -1), (4, 2, -4294967296, -1), (4, 3, -4294967296, 1)])
theorem oo_Mo_up_29 {kA : Nat → ClassId} : or_ok PRD kA GG o_Mo_up_29 := by
  refine or_mk fun A ta ws vs hD hth hl => ?_
  intro t0 r0 t1 r1 t2 k2 t3 k3 t4 k4 t7 k7 t8 k8 t9 k9 d0 d1 d2 d3 d4 d5 f0 f1 f2 f3 f4 f5 f6 f7 f8 f9 f10 f11 f12 f13 f14 ta1 w1 le1 s1 f16 f17 f18 f19 f20 f21 f22 f23 f24 f25 f26 f27 f28 f29 f30 ta2 w2 le2 s2 f32 f33
  replace f0 := shm_7 f0
  replace f1 := shm_22 f1
  replace f2 := shm_396 f2
  replace f3 := shm_396 f3
  replace f4 := shm_941 f4
  replace f5 := shm_942 f5
  replace f6 := shm_943 f6
  replace f7 := shm_944 f7
  replace f8 := shm_942 f8
  replace f9 := shm_943 f9
  replace f10 := shm_944 f10
  replace f11 := shm_5 f11
  replace f12 := shm_945 f12
  replace f13 := shm_957 f13
  replace f14 := shm_958 f14
  have s1 : (∀ b j, w_el ws b j = w_el w1 b j) ∧ ∀ b j, w_fd ws b j = if b = v_ad (n_v vs 1) ∧ j = 94 then n_v vs 11 else w_fd w1 b j := s1.2
  replace f16 := shm_142 f16
  replace f17 := shm_7 f17
  replace f18 := shm_22 f18
  replace f19 := shm_396 f19
  replace f20 := shm_396 f20
  replace f21 := shm_941 f21
  replace f22 := shm_942 f22
  replace f23 := shm_943 f23
  replace f24 := shm_944 f24
  replace f25 := shm_942 f25
  replace f26 := shm_943 f26
  replace f27 := shm_944 f27
  replace f28 := shm_945 f28
  replace f29 := shm_957 f29
  replace f30 := shm_958 f30
  replace f32 := shm_7 f32
  replace f33 := shm_22 f33
  have q1 : n_v vs 1 = n_v vs 0 := f11.symm
  simp only [q1] at f5 f6 f7 f8 f9 f10 f12 f13 f14
  rw [q1] at s1
  simp only [q1] at f22 f23 f24 f25 f26 f27 f28 f29 f30
  have ar_0_82_1 : w_ar w1 (n_v vs 0) 82 = w_ar ws (n_v vs 0) 82 := by show v_ad (w_fd w1 _ _) = v_ad (w_fd ws _ _); rw [s1.2, if_neg (fun e => absurd e.2 (by decide))]
  have cr_0_82 := fdq_230 hD hth r0
  have ar_0_83_1 : w_ar w1 (n_v vs 0) 83 = w_ar ws (n_v vs 0) 83 := by show v_ad (w_fd w1 _ _) = v_ad (w_fd ws _ _); rw [s1.2, if_neg (fun e => absurd e.2 (by decide))]
  have cr_0_83 := fdq_126 hD hth r0
  have ar_0_84_1 : w_ar w1 (n_v vs 0) 84 = w_ar ws (n_v vs 0) 84 := by show v_ad (w_fd w1 _ _) = v_ad (w_fd ws _ _); rw [s1.2, if_neg (fun e => absurd e.2 (by decide))]
  have cr_0_84 := fdq_127 hD hth r0
  have ar_0_85_1 : w_ar w1 (n_v vs 0) 85 = w_ar ws (n_v vs 0) 85 := by show v_ad (w_fd w1 _ _) = v_ad (w_fd ws _ _); rw [s1.2, if_neg (fun e => absurd e.2 (by decide))]
  have cr_0_85 := fdq_128 hD hth r0
  have ar_0_86_1 : w_ar w1 (n_v vs 0) 86 = w_ar ws (n_v vs 0) 86 := by show v_ad (w_fd w1 _ _) = v_ad (w_fd ws _ _); rw [s1.2, if_neg (fun e => absurd e.2 (by decide))]
  have cr_0_86 := fdq_129 hD hth r0
  have ar_0_87_1 : w_ar w1 (n_v vs 0) 87 = w_ar ws (n_v vs 0) 87 := by show v_ad (w_fd w1 _ _) = v_ad (w_fd ws _ _); rw [s1.2, if_neg (fun e => absurd e.2 (by decide))]
  have cr_0_87 := fdq_119 hD hth r0
  have ar_0_88_1 : w_ar w1 (n_v vs 0) 88 = w_ar ws (n_v vs 0) 88 := by show v_ad (w_fd w1 _ _) = v_ad (w_fd ws _ _); rw [s1.2, if_neg (fun e => absurd e.2 (by decide))]
  have cr_0_88 := fdq_120 hD hth r0
  have ar_0_89_1 : w_ar w1 (n_v vs 0) 89 = w_ar ws (n_v vs 0) 89 := by show v_ad (w_fd w1 _ _) = v_ad (w_fd ws _ _); rw [s1.2, if_neg (fun e => absurd e.2 (by decide))]
  have cr_0_89 := fdq_121 hD hth r0
  have ar_0_90_1 : w_ar w1 (n_v vs 0) 90 = w_ar ws (n_v vs 0) 90 := by show v_ad (w_fd w1 _ _) = v_ad (w_fd ws _ _); rw [s1.2, if_neg (fun e => absurd e.2 (by decide))]
  have cr_0_90 := fdq_231 hD hth r0
  have ar_0_91_1 : w_ar w1 (n_v vs 0) 91 = w_ar ws (n_v vs 0) 91 := by show v_ad (w_fd w1 _ _) = v_ad (w_fd ws _ _); rw [s1.2, if_neg (fun e => absurd e.2 (by decide))]
  have cr_0_91 := fdq_232 hD hth r0
  simp only [ar_0_82_1, ar_0_83_1, ar_0_84_1, ar_0_85_1, ar_0_86_1, ar_0_87_1, ar_0_88_1, ar_0_89_1, ar_0_90_1, ar_0_91_1] at f28 f29 f30
  have fe_0_79_1 : w_fi ws (n_v vs 0) 79 = w_fi w1 (n_v vs 0) 79 := by show v_iv (w_fd _ _ _) = v_iv (w_fd _ _ _); rw [s1.2, if_neg (fun e => absurd e.2 (by decide))]
  have fe_0_80_1 : w_fi ws (n_v vs 0) 80 = w_fi w1 (n_v vs 0) 80 := by show v_iv (w_fd _ _ _) = v_iv (w_fd _ _ _); rw [s1.2, if_neg (fun e => absurd e.2 (by decide))]
  have fe_0_81_1 : w_fi ws (n_v vs 0) 81 = w_fi w1 (n_v vs 0) 81 := by show v_iv (w_fd _ _ _) = v_iv (w_fd _ _ _); rw [s1.2, if_neg (fun e => absurd e.2 (by decide))]
  have hE_0_82_1 : ∀ j : Int, w_ei ws (w_ar ws (n_v vs 0) 82) j = w_ei w1 (w_ar ws (n_v vs 0) 82) j := fun j => s1.1 _ _
  have hK_0_82 := elq_143 hD hth cr_0_82
  have hE_0_83_1 : ∀ j : Int, w_ei ws (w_ar ws (n_v vs 0) 83) j = w_ei w1 (w_ar ws (n_v vs 0) 83) j := fun j => s1.1 _ _
  have hK_0_83 := elq_67 hD hth cr_0_83
  have hE_0_84_1 : ∀ j : Int, w_ei ws (w_ar ws (n_v vs 0) 84) j = w_ei w1 (w_ar ws (n_v vs 0) 84) j := fun j => s1.1 _ _
  have hK_0_84 := elq_68 hD hth cr_0_84
  have hE_0_85_1 : ∀ j : Int, w_ei ws (w_ar ws (n_v vs 0) 85) j = w_ei w1 (w_ar ws (n_v vs 0) 85) j := fun j => s1.1 _ _
  have hK_0_85 := elq_69 hD hth cr_0_85
  have hE_0_86_1 : ∀ j : Int, w_ei ws (w_ar ws (n_v vs 0) 86) j = w_ei w1 (w_ar ws (n_v vs 0) 86) j := fun j => s1.1 _ _
  have hK_0_86 := elq_70 hD hth cr_0_86
  have hE_0_87_1 : ∀ j : Int, w_ei ws (w_ar ws (n_v vs 0) 87) j = w_ei w1 (w_ar ws (n_v vs 0) 87) j := fun j => s1.1 _ _
  have hK_0_87 := elq_62 hD hth cr_0_87
  have hE_0_88_1 : ∀ j : Int, w_ei ws (w_ar ws (n_v vs 0) 88) j = w_ei w1 (w_ar ws (n_v vs 0) 88) j := fun j => s1.1 _ _
  have hK_0_88 := elq_63 hD hth cr_0_88
  have hE_0_89_1 : ∀ j : Int, w_ei ws (w_ar ws (n_v vs 0) 89) j = w_ei w1 (w_ar ws (n_v vs 0) 89) j := fun j => s1.1 _ _
  have hK_0_89 := elq_64 hD hth cr_0_89
  have hE_0_90_1 : ∀ j : Int, w_ei ws (w_ar ws (n_v vs 0) 90) j = w_ei w1 (w_ar ws (n_v vs 0) 90) j := fun j => s1.1 _ _
  have hK_0_90 := elq_144 hD hth cr_0_90
  have hE_0_91_1 : ∀ j : Int, w_ei ws (w_ar ws (n_v vs 0) 91) j = w_ei w1 (w_ar ws (n_v vs 0) 91) j := fun j => s1.1 _ _
  have hK_0_91 := elq_145 hD hth cr_0_91
  have kz_0_79 := fdq_147 hD hth r0
  have kz_0_80 := fdq_131 hD hth r0
  have kz_0_81 := fdq_124 hD hth r0
  obtain ⟨x, ex, hx⟩ := iv_ex (ta := ta) (lo := (-2)) (hi := 180000001) (z := 0 + (1 * v_iv (n_v vs 7) + 0)) (by omega) (by omega) (by omega) (by omega)
  have ex2 : v_iv (Value.int x) = 0 + (1 * v_iv (n_v vs 7) + 0) := ex
  have ex3 : (-2) ≤ v_iv (Value.int x) ∧ v_iv (Value.int x) ≤ 180000001 := tv_rng hx
  have e_0 : n_v (vs ++ [Value.int x]) 0 = n_v vs 0 := n_v_old (by rw [hl]; decide)
  have e_1 : n_v (vs ++ [Value.int x]) 1 = n_v vs 1 := n_v_old (by rw [hl]; decide)
  have e_2 : n_v (vs ++ [Value.int x]) 2 = n_v vs 2 := n_v_old (by rw [hl]; decide)
  have e_3 : n_v (vs ++ [Value.int x]) 3 = n_v vs 3 := n_v_old (by rw [hl]; decide)
  have e_4 : n_v (vs ++ [Value.int x]) 4 = n_v vs 4 := n_v_old (by rw [hl]; decide)
  have e_12 : n_v (vs ++ [Value.int x]) 12 = Value.int x := n_v_new hl
  have nf0 : fc_1 PRD (20, [2, 1], [50, 1, 0, 1079, 1, 2, 1, 0, 4, 3, 2, 1, 79, 0, 2]) ws (vs ++ [Value.int x]) := by
    refine ⟨nf_inA hl rfl, sgq_942 ?_⟩
    · show v_iv (n_v (vs ++ [Value.int x]) 2) = (w_fi ws (n_v (vs ++ [Value.int x]) 1) 79 + 2)
      simp only [e_1, e_2, q1]
      exact vc_Mo_up_29_0 (v_iv (n_v vs 2)) (w_fi ws (n_v vs 0) 79) (w_ei ws (w_ar ws (n_v vs 0) 90)) (w_ei ws (w_ar ws (n_v vs 0) 82)) (w_ei ws (w_ar ws (n_v vs 0) 83)) (w_ei ws (w_ar ws (n_v vs 0) 84)) (w_ei ws (w_ar ws (n_v vs 0) 85)) (w_ei ws (w_ar ws (n_v vs 0) 86)) (w_ei ws (w_ar ws (n_v vs 0) 87)) (w_ei ws (w_ar ws (n_v vs 0) 88)) (w_ei ws (w_ar ws (n_v vs 0) 89)) (w_fi ws (n_v vs 0) 80) (w_fi ws (n_v vs 0) 81) (w_ei ws (w_ar ws (n_v vs 0) 91)) (w_fi w1 (n_v vs 0) 79) (w_ei w1 (w_ar ws (n_v vs 0) 90)) (w_ei w1 (w_ar ws (n_v vs 0) 82)) (w_ei w1 (w_ar ws (n_v vs 0) 83)) (w_ei w1 (w_ar ws (n_v vs 0) 84)) (w_ei w1 (w_ar ws (n_v vs 0) 85)) (w_ei w1 (w_ar ws (n_v vs 0) 86)) (w_ei w1 (w_ar ws (n_v vs 0) 87)) (w_ei w1 (w_ar ws (n_v vs 0) 88)) (w_ei w1 (w_ar ws (n_v vs 0) 89)) (w_fi w1 (n_v vs 0) 80) (w_fi w1 (n_v vs 0) 81) (w_ei w1 (w_ar ws (n_v vs 0) 91)) (v_iv (Value.int x)) k2 f25 fe_0_79_1 fe_0_80_1 fe_0_81_1 hE_0_82_1 hE_0_83_1 hE_0_84_1 hE_0_85_1 hE_0_86_1 hE_0_87_1 hE_0_88_1 hE_0_89_1 hE_0_90_1 hE_0_91_1 kz_0_79 kz_0_80 kz_0_81
  have nf1 : fc_1 PRD (20, [3, 1], [50, 1, 0, 1079, 1, 2, 1, 0, 2, 1, 79]) ws (vs ++ [Value.int x]) := by
    refine ⟨nf_inA hl rfl, sgq_943 ?_⟩
    · show v_iv (n_v (vs ++ [Value.int x]) 3) = w_fi ws (n_v (vs ++ [Value.int x]) 1) 79
      simp only [e_1, e_3, q1]
      exact vc_Mo_up_29_1 (v_iv (n_v vs 3)) (w_fi ws (n_v vs 0) 79) (w_ei ws (w_ar ws (n_v vs 0) 90)) (w_ei ws (w_ar ws (n_v vs 0) 82)) (w_ei ws (w_ar ws (n_v vs 0) 83)) (w_ei ws (w_ar ws (n_v vs 0) 84)) (w_ei ws (w_ar ws (n_v vs 0) 85)) (w_ei ws (w_ar ws (n_v vs 0) 86)) (w_ei ws (w_ar ws (n_v vs 0) 87)) (w_ei ws (w_ar ws (n_v vs 0) 88)) (w_ei ws (w_ar ws (n_v vs 0) 89)) (w_fi ws (n_v vs 0) 80) (w_fi ws (n_v vs 0) 81) (w_ei ws (w_ar ws (n_v vs 0) 91)) (w_fi w1 (n_v vs 0) 79) (w_ei w1 (w_ar ws (n_v vs 0) 90)) (w_ei w1 (w_ar ws (n_v vs 0) 82)) (w_ei w1 (w_ar ws (n_v vs 0) 83)) (w_ei w1 (w_ar ws (n_v vs 0) 84)) (w_ei w1 (w_ar ws (n_v vs 0) 85)) (w_ei w1 (w_ar ws (n_v vs 0) 86)) (w_ei w1 (w_ar ws (n_v vs 0) 87)) (w_ei w1 (w_ar ws (n_v vs 0) 88)) (w_ei w1 (w_ar ws (n_v vs 0) 89)) (w_fi w1 (n_v vs 0) 80) (w_fi w1 (n_v vs 0) 81) (w_ei w1 (w_ar ws (n_v vs 0) 91)) (v_iv (Value.int x)) k3 f26 fe_0_79_1 fe_0_80_1 fe_0_81_1 hE_0_82_1 hE_0_83_1 hE_0_84_1 hE_0_85_1 hE_0_86_1 hE_0_87_1 hE_0_88_1 hE_0_89_1 hE_0_90_1 hE_0_91_1 kz_0_79 kz_0_80 kz_0_81
  have nf2 : fc_1 PRD (20, [4, 1], [50, 1, 0, 1079, 1, 2, 1, 0, 4, 3, 2, 1, 79, 0, 1]) ws (vs ++ [Value.int x]) := by
    refine ⟨nf_inA hl rfl, sgq_944 ?_⟩
    · show v_iv (n_v (vs ++ [Value.int x]) 4) = (w_fi ws (n_v (vs ++ [Value.int x]) 1) 79 + 1)
      simp only [e_1, e_4, q1]
      exact vc_Mo_up_29_2 (v_iv (n_v vs 4)) (w_fi ws (n_v vs 0) 79) (w_ei ws (w_ar ws (n_v vs 0) 90)) (w_ei ws (w_ar ws (n_v vs 0) 82)) (w_ei ws (w_ar ws (n_v vs 0) 83)) (w_ei ws (w_ar ws (n_v vs 0) 84)) (w_ei ws (w_ar ws (n_v vs 0) 85)) (w_ei ws (w_ar ws (n_v vs 0) 86)) (w_ei ws (w_ar ws (n_v vs 0) 87)) (w_ei ws (w_ar ws (n_v vs 0) 88)) (w_ei ws (w_ar ws (n_v vs 0) 89)) (w_fi ws (n_v vs 0) 80) (w_fi ws (n_v vs 0) 81) (w_ei ws (w_ar ws (n_v vs 0) 91)) (w_fi w1 (n_v vs 0) 79) (w_ei w1 (w_ar ws (n_v vs 0) 90)) (w_ei w1 (w_ar ws (n_v vs 0) 82)) (w_ei w1 (w_ar ws (n_v vs 0) 83)) (w_ei w1 (w_ar ws (n_v vs 0) 84)) (w_ei w1 (w_ar ws (n_v vs 0) 85)) (w_ei w1 (w_ar ws (n_v vs 0) 86)) (w_ei w1 (w_ar ws (n_v vs 0) 87)) (w_ei w1 (w_ar ws (n_v vs 0) 88)) (w_ei w1 (w_ar ws (n_v vs 0) 89)) (w_fi w1 (n_v vs 0) 80) (w_fi w1 (n_v vs 0) 81) (w_ei w1 (w_ar ws (n_v vs 0) 91)) (v_iv (Value.int x)) k4 f27 fe_0_79_1 fe_0_80_1 fe_0_81_1 hE_0_82_1 hE_0_83_1 hE_0_84_1 hE_0_85_1 hE_0_86_1 hE_0_87_1 hE_0_88_1 hE_0_89_1 hE_0_90_1 hE_0_91_1 kz_0_79 kz_0_80 kz_0_81
  have nf3 : fc_1 PRD (20, [1], [60, 3, 9, 397, 79, 80, 81, 90, 82, 83, 84, 85, 86, 87, 88, 89]) ws (vs ++ [Value.int x]) := by
    refine ⟨nf_inA hl rfl, sgq_945 ?_⟩
    · show FLO (w_fi ws (n_v (vs ++ [Value.int x]) 1) 79) (w_fi ws (n_v (vs ++ [Value.int x]) 1) 80) (w_fi ws (n_v (vs ++ [Value.int x]) 1) 81) (w_ei ws (w_ar ws (n_v (vs ++ [Value.int x]) 1) 90)) (w_ei ws (w_ar ws (n_v (vs ++ [Value.int x]) 1) 82)) (w_ei ws (w_ar ws (n_v (vs ++ [Value.int x]) 1) 83)) (w_ei ws (w_ar ws (n_v (vs ++ [Value.int x]) 1) 84)) (w_ei ws (w_ar ws (n_v (vs ++ [Value.int x]) 1) 85)) (w_ei ws (w_ar ws (n_v (vs ++ [Value.int x]) 1) 86)) (w_ei ws (w_ar ws (n_v (vs ++ [Value.int x]) 1) 87)) (w_ei ws (w_ar ws (n_v (vs ++ [Value.int x]) 1) 88)) (w_ei ws (w_ar ws (n_v (vs ++ [Value.int x]) 1) 89))
      simp only [e_1, q1]
      exact vc_Mo_up_29_3 (w_fi ws (n_v vs 0) 79) (w_ei ws (w_ar ws (n_v vs 0) 90)) (w_ei ws (w_ar ws (n_v vs 0) 82)) (w_ei ws (w_ar ws (n_v vs 0) 83)) (w_ei ws (w_ar ws (n_v vs 0) 84)) (w_ei ws (w_ar ws (n_v vs 0) 85)) (w_ei ws (w_ar ws (n_v vs 0) 86)) (w_ei ws (w_ar ws (n_v vs 0) 87)) (w_ei ws (w_ar ws (n_v vs 0) 88)) (w_ei ws (w_ar ws (n_v vs 0) 89)) (w_fi ws (n_v vs 0) 80) (w_fi ws (n_v vs 0) 81) (w_ei ws (w_ar ws (n_v vs 0) 91)) (w_fi w1 (n_v vs 0) 79) (w_ei w1 (w_ar ws (n_v vs 0) 90)) (w_ei w1 (w_ar ws (n_v vs 0) 82)) (w_ei w1 (w_ar ws (n_v vs 0) 83)) (w_ei w1 (w_ar ws (n_v vs 0) 84)) (w_ei w1 (w_ar ws (n_v vs 0) 85)) (w_ei w1 (w_ar ws (n_v vs 0) 86)) (w_ei w1 (w_ar ws (n_v vs 0) 87)) (w_ei w1 (w_ar ws (n_v vs 0) 88)) (w_ei w1 (w_ar ws (n_v vs 0) 89)) (w_fi w1 (n_v vs 0) 80) (w_fi w1 (n_v vs 0) 81) (w_ei w1 (w_ar ws (n_v vs 0) 91)) f28 fe_0_79_1 fe_0_80_1 fe_0_81_1 hE_0_82_1 hE_0_83_1 hE_0_84_1 hE_0_85_1 hE_0_86_1 hE_0_87_1 hE_0_88_1 hE_0_89_1 hE_0_90_1 hE_0_91_1 kz_0_79 kz_0_80 kz_0_81
  have nf4 : fc_1 PRD (20, [1, 12], [60, 1, 1, 399, 79, 90]) ws (vs ++ [Value.int x]) := by
    refine ⟨nf_inA hl rfl, sgq_1170 ?_⟩
    · show XLB (w_fi ws (n_v (vs ++ [Value.int x]) 1) 79) (w_ei ws (w_ar ws (n_v (vs ++ [Value.int x]) 1) 90)) (v_iv (n_v (vs ++ [Value.int x]) 12))
      simp only [e_1, e_12, q1]
      exact vc_Mo_up_29_4 (v_iv (n_v vs 7)) (v_iv (n_v vs 8)) (v_iv (n_v vs 9)) (w_fi ws (n_v vs 0) 79) (w_ei ws (w_ar ws (n_v vs 0) 90)) (w_ei ws (w_ar ws (n_v vs 0) 82)) (w_ei ws (w_ar ws (n_v vs 0) 83)) (w_ei ws (w_ar ws (n_v vs 0) 84)) (w_ei ws (w_ar ws (n_v vs 0) 85)) (w_ei ws (w_ar ws (n_v vs 0) 86)) (w_ei ws (w_ar ws (n_v vs 0) 87)) (w_ei ws (w_ar ws (n_v vs 0) 88)) (w_ei ws (w_ar ws (n_v vs 0) 89)) (w_fi ws (n_v vs 0) 80) (w_fi ws (n_v vs 0) 81) (w_ei ws (w_ar ws (n_v vs 0) 91)) (w_fi w1 (n_v vs 0) 79) (w_ei w1 (w_ar ws (n_v vs 0) 90)) (w_ei w1 (w_ar ws (n_v vs 0) 82)) (w_ei w1 (w_ar ws (n_v vs 0) 83)) (w_ei w1 (w_ar ws (n_v vs 0) 84)) (w_ei w1 (w_ar ws (n_v vs 0) 85)) (w_ei w1 (w_ar ws (n_v vs 0) 86)) (w_ei w1 (w_ar ws (n_v vs 0) 87)) (w_ei w1 (w_ar ws (n_v vs 0) 88)) (w_ei w1 (w_ar ws (n_v vs 0) 89)) (w_fi w1 (n_v vs 0) 80) (w_fi w1 (n_v vs 0) 81) (w_ei w1 (w_ar ws (n_v vs 0) 91)) (v_iv (Value.int x)) k7 k8 k9 f0 f1 f16 f29 fe_0_79_1 fe_0_80_1 fe_0_81_1 hE_0_82_1 hE_0_83_1 hE_0_84_1 hE_0_85_1 hE_0_86_1 hE_0_87_1 hE_0_88_1 hE_0_89_1 hE_0_90_1 hE_0_91_1 kz_0_79 kz_0_80 kz_0_81 ex2
  have nf5 : fc_1 PRD (23, [12], [-1, -1]) ws (vs ++ [Value.int x]) := by
    refine ⟨nf_inA hl rfl, sgq_626 ?_⟩
    · show (-1) * v_iv (n_v (vs ++ [Value.int x]) 12) + 0 ≤ (-1)
      rw [e_12]
      exact vc_Mo_up_29_5 (v_iv (n_v vs 7)) (v_iv (n_v vs 8)) (v_iv (n_v vs 9)) (w_fi ws (n_v vs 0) 79) (w_ei ws (w_ar ws (n_v vs 0) 90)) (w_ei ws (w_ar ws (n_v vs 0) 82)) (w_ei ws (w_ar ws (n_v vs 0) 83)) (w_ei ws (w_ar ws (n_v vs 0) 84)) (w_ei ws (w_ar ws (n_v vs 0) 85)) (w_ei ws (w_ar ws (n_v vs 0) 86)) (w_ei ws (w_ar ws (n_v vs 0) 87)) (w_ei ws (w_ar ws (n_v vs 0) 88)) (w_ei ws (w_ar ws (n_v vs 0) 89)) (w_fi ws (n_v vs 0) 80) (w_fi ws (n_v vs 0) 81) (w_ei ws (w_ar ws (n_v vs 0) 91)) (w_fi w1 (n_v vs 0) 79) (w_ei w1 (w_ar ws (n_v vs 0) 90)) (w_ei w1 (w_ar ws (n_v vs 0) 82)) (w_ei w1 (w_ar ws (n_v vs 0) 83)) (w_ei w1 (w_ar ws (n_v vs 0) 84)) (w_ei w1 (w_ar ws (n_v vs 0) 85)) (w_ei w1 (w_ar ws (n_v vs 0) 86)) (w_ei w1 (w_ar ws (n_v vs 0) 87)) (w_ei w1 (w_ar ws (n_v vs 0) 88)) (w_ei w1 (w_ar ws (n_v vs 0) 89)) (w_fi w1 (n_v vs 0) 80) (w_fi w1 (n_v vs 0) 81) (w_ei w1 (w_ar ws (n_v vs 0) 91)) (v_iv (Value.int x)) k7 k8 k9 f0 f1 f16 f28 f29 fe_0_79_1 fe_0_80_1 fe_0_81_1 hE_0_82_1 hE_0_83_1 hE_0_84_1 hE_0_85_1 hE_0_86_1 hE_0_87_1 hE_0_88_1 hE_0_89_1 hE_0_90_1 hE_0_91_1 kz_0_79 kz_0_80 kz_0_81 ex2
  have nf6 : fc_1 PRD (24, [0, 1], []) ws (vs ++ [Value.int x]) := by
    refine ⟨nf_inA hl rfl, sgq_5 ?_⟩
    · show n_v (vs ++ [Value.int x]) 0 = n_v (vs ++ [Value.int x]) 1
      first | rfl | simp only [e_0, e_1, q1]
  obtain ⟨x0, e0, _, _⟩ := tv_int t7 rfl
  have e1 : v_iv (n_v vs 7) = x0.toInt := by rw [e0]; rfl
  have ho : sy_ofs (vs ++ [Value.int x]) (12, 7, 0, 0) := by
    refine ⟨x, x0, by rw [List.getElem?_append_right (by rw [hl]; decide), hl]; rfl, ?_, ?_, ?_⟩
    · rw [List.getElem?_append_left (by rw [hl]; decide)]; exact n_v_some (by rw [hl]; decide) e0
    · show x0.toInt + 0 ≤ x.toInt; omega
    · show x.toInt ≤ x0.toInt + 0; omega
  exact ⟨(fun _ h => (by cases h)), [Value.int x], ag_one hx, List.forall_mem_cons.mpr ⟨⟨show (20 : Nat) < 100 from by decide, nf0⟩, List.forall_mem_cons.mpr ⟨⟨show (20 : Nat) < 100 from by decide, nf1⟩, List.forall_mem_cons.mpr ⟨⟨show (20 : Nat) < 100 from by decide, nf2⟩, List.forall_mem_cons.mpr ⟨⟨show (20 : Nat) < 100 from by decide, nf3⟩, List.forall_mem_cons.mpr ⟨⟨show (20 : Nat) < 100 from by decide, nf4⟩, List.forall_mem_cons.mpr ⟨⟨show (23 : Nat) < 100 from by decide, nf5⟩, List.forall_mem_cons.mpr ⟨⟨show (24 : Nat) < 100 from by decide, nf6⟩, (fun _ h => (by cases h))⟩⟩⟩⟩⟩⟩⟩, List.forall_mem_cons.mpr ⟨ho, (fun _ h => (by cases h))⟩⟩
set_option maxHeartbeats 4000000 in
theorem vc_Mo_up_30_0 (x2 : Int) (pointMany_0 : Int) (k2 : 2 ≤ x2 ∧ x2 ≤ 78) (f0 : x2 = (pointMany_0 + 2)) (kz_0_79 : 0 ≤ pointMany_0 ∧ pointMany_0 ≤ 76) : x2 = (pointMany_0 + 2) := by
  omega
set_option maxHeartbeats 4000000 in
theorem vc_Mo_up_30_1 (x3 : Int) (pointMany_0 : Int) (k3 : 0 ≤ x3 ∧ x3 ≤ 76) (f1 : x3 = pointMany_0) (kz_0_79 : 0 ≤ pointMany_0 ∧ pointMany_0 ≤ 76) : x3 = pointMany_0 := by
  omega
set_option maxHeartbeats 4000000 in
theorem vc_Mo_up_30_2 (x4 : Int) (pointMany_0 : Int) (k4 : 1 ≤ x4 ∧ x4 ≤ 77) (f2 : x4 = (pointMany_0 + 1)) (kz_0_79 : 0 ≤ pointMany_0 ∧ pointMany_0 ≤ 76) : x4 = (pointMany_0 + 1) := by
  omega
set_option maxHeartbeats 4000000 in
theorem vc_Mo_up_30_3 (pointMany_0 : Int) (flow_0 : Int → Int) (spot_0 : Int → Int) (costA_0 : Int → Int) (costB_0 : Int → Int) (costW_0 : Int → Int) (costPlain_0 : Int → Int) (apartA_0 : Int → Int) (apartB_0 : Int → Int) (apart_0 : Int → Int) (costMany_0 : Int) (apartMany_0 : Int) (f3 : FLO (pointMany_0) (costMany_0) (apartMany_0) (flow_0) (spot_0) (costA_0) (costB_0) (costW_0) (costPlain_0) (apartA_0) (apartB_0) (apart_0)) (kz_0_79 : 0 ≤ pointMany_0 ∧ pointMany_0 ≤ 76) (kz_0_80 : 0 ≤ costMany_0 ∧ costMany_0 ≤ 200) (kz_0_81 : 0 ≤ apartMany_0 ∧ apartMany_0 ≤ 200) : FLO (pointMany_0) (costMany_0) (apartMany_0) (flow_0) (spot_0) (costA_0) (costB_0) (costW_0) (costPlain_0) (apartA_0) (apartB_0) (apart_0) := by
  first
    | assumption
    | exact (flo_of ‹UPA _ _ _ _ _ _ _ _ _ _ _ _ _› (by omega) (by omega)).1
set_option maxHeartbeats 4000000 in
theorem vc_Mo_up_30_4 (x7 : Int) (pointMany_0 : Int) (flow_0 : Int → Int) (gx : Int) (k7 : (-2) ≤ x7 ∧ x7 ≤ 180000001) (f4 : XLB (pointMany_0) (flow_0) (x7)) (kz_0_79 : 0 ≤ pointMany_0 ∧ pointMany_0 ≤ 76) (ex2 : gx = (-1) + (1 * x7 + 0)) : XLE (pointMany_0) (flow_0) (gx) := by
  first
    | (have h := (flo_of ‹UPA _ _ _ _ _ _ _ _ _ _ _ _ _› (by omega) (by omega)).2; unfold XLE; omega)
    | (have h := ‹XLB _ _ _›; unfold XLB XLE at h; unfold XLE; omega)
def o_Mo_up_30 : or_T := (429, 8, [(0, (2, 0, 0, [165])), (1, (2, 0, 0, [165])), (2, (0, 2, 78, [])), (3, (0, 0, 76, [])), (4, (0, 1, 77, [])), (7, (0, -2, 180000001, []))], [(20, [2, 1], [50, 1, 0, 1079, 1, 2, 1, 0, 4, 3, 2, 1, 79, 0, 2]), (20, [3, 1], [50, 1, 0, 1079, 1, 2, 1, 0, 2, 1, 79]), (20, [4, 1], [50, 1, 0, 1079, 1, 2, 1, 0, 4, 3, 2, 1, 79, 0, 1]), (20, [1], [60, 3, 9, 397, 79, 80, 81, 90, 82, 83, 84, 85, 86, 87, 88, 89]), (20, [1, 7], [60, 1, 1, 399, 79, 90]), (23, [7], [-1, -1]), (24, [0, 1], [])], [], [(0, -2, 180000001, [])], [(20, [2, 1], [50, 1, 0, 1079, 1, 2, 1, 0, 4, 3, 2, 1, 79, 0, 2]), (20, [3, 1], [50, 1, 0, 1079, 1, 2, 1, 0, 2, 1, 79]), (20, [4, 1], [50, 1, 0, 1079, 1, 2, 1, 0, 4, 3, 2, 1, 79, 0, 1]), (20, [1], [60, 3, 9, 397, 79, 80, 81, 90, 82, 83, 84, 85, 86, 87, 88, 89]), (20, [1, 8], [60, 1, 1, 398, 79, 90]), (24, [0, 1], [])], [(8, 7, -1000000000000, -1)], [(2, 3, -4294967296, 2), (2, 4, -4294967296, 1), (3, 2, -4294967296, -2), (3, 4, -4294967296, -1), (4, 2, -4294967296, -1), (4, 3, -4294967296, 1)])
theorem oo_Mo_up_30 {kA : Nat → ClassId} : or_ok PRD kA GG o_Mo_up_30 := by
  refine or_mk fun A ta ws vs hD hth hl => ?_
  intro t0 r0 t1 r1 t2 k2 t3 k3 t4 k4 t7 k7 d0 d1 d2 d3 d4 d5 f0 f1 f2 f3 f4 f5 f6
  replace f0 := shm_942 f0
  replace f1 := shm_943 f1
  replace f2 := shm_944 f2
  replace f3 := shm_945 f3
  replace f4 := shm_1170 f4
  replace f5 := shm_626 f5
  replace f6 := shm_5 f6
  have q1 : n_v vs 1 = n_v vs 0 := f6.symm
  simp only [q1] at f0 f1 f2 f3 f4
  have cr_0_82 := fdq_230 hD hth r0
  have cr_0_83 := fdq_126 hD hth r0
  have cr_0_84 := fdq_127 hD hth r0
  have cr_0_85 := fdq_128 hD hth r0
  have cr_0_86 := fdq_129 hD hth r0
  have cr_0_87 := fdq_119 hD hth r0
  have cr_0_88 := fdq_120 hD hth r0
  have cr_0_89 := fdq_121 hD hth r0
  have cr_0_90 := fdq_231 hD hth r0
  have hK_0_82 := elq_143 hD hth cr_0_82
  have hK_0_83 := elq_67 hD hth cr_0_83
  have hK_0_84 := elq_68 hD hth cr_0_84
  have hK_0_85 := elq_69 hD hth cr_0_85
  have hK_0_86 := elq_70 hD hth cr_0_86
  have hK_0_87 := elq_62 hD hth cr_0_87
  have hK_0_88 := elq_63 hD hth cr_0_88
  have hK_0_89 := elq_64 hD hth cr_0_89
  have hK_0_90 := elq_144 hD hth cr_0_90
  have kz_0_79 := fdq_147 hD hth r0
  have kz_0_80 := fdq_131 hD hth r0
  have kz_0_81 := fdq_124 hD hth r0
  obtain ⟨x, ex, hx⟩ := iv_ex (ta := ta) (lo := (-2)) (hi := 180000001) (z := (-1) + (1 * v_iv (n_v vs 7) + 0)) (by omega) (by omega) (by omega) (by omega)
  have ex2 : v_iv (Value.int x) = (-1) + (1 * v_iv (n_v vs 7) + 0) := ex
  have ex3 : (-2) ≤ v_iv (Value.int x) ∧ v_iv (Value.int x) ≤ 180000001 := tv_rng hx
  have e_0 : n_v (vs ++ [Value.int x]) 0 = n_v vs 0 := n_v_old (by rw [hl]; decide)
  have e_1 : n_v (vs ++ [Value.int x]) 1 = n_v vs 1 := n_v_old (by rw [hl]; decide)
  have e_2 : n_v (vs ++ [Value.int x]) 2 = n_v vs 2 := n_v_old (by rw [hl]; decide)
  have e_3 : n_v (vs ++ [Value.int x]) 3 = n_v vs 3 := n_v_old (by rw [hl]; decide)
  have e_4 : n_v (vs ++ [Value.int x]) 4 = n_v vs 4 := n_v_old (by rw [hl]; decide)
  have e_8 : n_v (vs ++ [Value.int x]) 8 = Value.int x := n_v_new hl
  have nf0 : fc_1 PRD (20, [2, 1], [50, 1, 0, 1079, 1, 2, 1, 0, 4, 3, 2, 1, 79, 0, 2]) ws (vs ++ [Value.int x]) := by
    refine ⟨nf_inA hl rfl, sgq_942 ?_⟩
    · show v_iv (n_v (vs ++ [Value.int x]) 2) = (w_fi ws (n_v (vs ++ [Value.int x]) 1) 79 + 2)
      simp only [e_1, e_2, q1]
      exact vc_Mo_up_30_0 (v_iv (n_v vs 2)) (w_fi ws (n_v vs 0) 79) k2 f0 kz_0_79
  have nf1 : fc_1 PRD (20, [3, 1], [50, 1, 0, 1079, 1, 2, 1, 0, 2, 1, 79]) ws (vs ++ [Value.int x]) := by
    refine ⟨nf_inA hl rfl, sgq_943 ?_⟩
    · show v_iv (n_v (vs ++ [Value.int x]) 3) = w_fi ws (n_v (vs ++ [Value.int x]) 1) 79
      simp only [e_1, e_3, q1]
      exact vc_Mo_up_30_1 (v_iv (n_v vs 3)) (w_fi ws (n_v vs 0) 79) k3 f1 kz_0_79
  have nf2 : fc_1 PRD (20, [4, 1], [50, 1, 0, 1079, 1, 2, 1, 0, 4, 3, 2, 1, 79, 0, 1]) ws (vs ++ [Value.int x]) := by
    refine ⟨nf_inA hl rfl, sgq_944 ?_⟩
    · show v_iv (n_v (vs ++ [Value.int x]) 4) = (w_fi ws (n_v (vs ++ [Value.int x]) 1) 79 + 1)
      simp only [e_1, e_4, q1]
      exact vc_Mo_up_30_2 (v_iv (n_v vs 4)) (w_fi ws (n_v vs 0) 79) k4 f2 kz_0_79
  have nf3 : fc_1 PRD (20, [1], [60, 3, 9, 397, 79, 80, 81, 90, 82, 83, 84, 85, 86, 87, 88, 89]) ws (vs ++ [Value.int x]) := by
    refine ⟨nf_inA hl rfl, sgq_945 ?_⟩
    · show FLO (w_fi ws (n_v (vs ++ [Value.int x]) 1) 79) (w_fi ws (n_v (vs ++ [Value.int x]) 1) 80) (w_fi ws (n_v (vs ++ [Value.int x]) 1) 81) (w_ei ws (w_ar ws (n_v (vs ++ [Value.int x]) 1) 90)) (w_ei ws (w_ar ws (n_v (vs ++ [Value.int x]) 1) 82)) (w_ei ws (w_ar ws (n_v (vs ++ [Value.int x]) 1) 83)) (w_ei ws (w_ar ws (n_v (vs ++ [Value.int x]) 1) 84)) (w_ei ws (w_ar ws (n_v (vs ++ [Value.int x]) 1) 85)) (w_ei ws (w_ar ws (n_v (vs ++ [Value.int x]) 1) 86)) (w_ei ws (w_ar ws (n_v (vs ++ [Value.int x]) 1) 87)) (w_ei ws (w_ar ws (n_v (vs ++ [Value.int x]) 1) 88)) (w_ei ws (w_ar ws (n_v (vs ++ [Value.int x]) 1) 89))
      simp only [e_1, q1]
      exact vc_Mo_up_30_3 (w_fi ws (n_v vs 0) 79) (w_ei ws (w_ar ws (n_v vs 0) 90)) (w_ei ws (w_ar ws (n_v vs 0) 82)) (w_ei ws (w_ar ws (n_v vs 0) 83)) (w_ei ws (w_ar ws (n_v vs 0) 84)) (w_ei ws (w_ar ws (n_v vs 0) 85)) (w_ei ws (w_ar ws (n_v vs 0) 86)) (w_ei ws (w_ar ws (n_v vs 0) 87)) (w_ei ws (w_ar ws (n_v vs 0) 88)) (w_ei ws (w_ar ws (n_v vs 0) 89)) (w_fi ws (n_v vs 0) 80) (w_fi ws (n_v vs 0) 81) f3 kz_0_79 kz_0_80 kz_0_81
  have nf4 : fc_1 PRD (20, [1, 8], [60, 1, 1, 398, 79, 90]) ws (vs ++ [Value.int x]) := by
    refine ⟨nf_inA hl rfl, sgq_946 ?_⟩
    · show XLE (w_fi ws (n_v (vs ++ [Value.int x]) 1) 79) (w_ei ws (w_ar ws (n_v (vs ++ [Value.int x]) 1) 90)) (v_iv (n_v (vs ++ [Value.int x]) 8))
      simp only [e_1, e_8, q1]
      exact vc_Mo_up_30_4 (v_iv (n_v vs 7)) (w_fi ws (n_v vs 0) 79) (w_ei ws (w_ar ws (n_v vs 0) 90)) (v_iv (Value.int x)) k7 f4 kz_0_79 ex2
  have nf5 : fc_1 PRD (24, [0, 1], []) ws (vs ++ [Value.int x]) := by
    refine ⟨nf_inA hl rfl, sgq_5 ?_⟩
    · show n_v (vs ++ [Value.int x]) 0 = n_v (vs ++ [Value.int x]) 1
      first | rfl | simp only [e_0, e_1, q1]
  obtain ⟨x0, e0, _, _⟩ := tv_int t7 rfl
  have e1 : v_iv (n_v vs 7) = x0.toInt := by rw [e0]; rfl
  have ho : sy_ofs (vs ++ [Value.int x]) (8, 7, -1000000000000, -1) := by
    refine ⟨x, x0, by rw [List.getElem?_append_right (by rw [hl]; decide), hl]; rfl, ?_, ?_, ?_⟩
    · rw [List.getElem?_append_left (by rw [hl]; decide)]; exact n_v_some (by rw [hl]; decide) e0
    · show x0.toInt + (-1000000000000) ≤ x.toInt; omega
    · show x.toInt ≤ x0.toInt + (-1); omega
  exact ⟨(fun _ h => (by cases h)), [Value.int x], ag_one hx, List.forall_mem_cons.mpr ⟨⟨show (20 : Nat) < 100 from by decide, nf0⟩, List.forall_mem_cons.mpr ⟨⟨show (20 : Nat) < 100 from by decide, nf1⟩, List.forall_mem_cons.mpr ⟨⟨show (20 : Nat) < 100 from by decide, nf2⟩, List.forall_mem_cons.mpr ⟨⟨show (20 : Nat) < 100 from by decide, nf3⟩, List.forall_mem_cons.mpr ⟨⟨show (20 : Nat) < 100 from by decide, nf4⟩, List.forall_mem_cons.mpr ⟨⟨show (24 : Nat) < 100 from by decide, nf5⟩, (fun _ h => (by cases h))⟩⟩⟩⟩⟩⟩, List.forall_mem_cons.mpr ⟨ho, (fun _ h => (by cases h))⟩⟩
set_option maxHeartbeats 4000000 in
theorem vc_Mo_up_31_0 (x2 : Int) (x3 : Int) (x4 : Int) (x5 : Int) (x6 : Int) (x7 : Int) (pointMany_0 : Int) (flow_0 : Int → Int) (spot_0 : Int → Int) (costA_0 : Int → Int) (costB_0 : Int → Int) (costW_0 : Int → Int) (costPlain_0 : Int → Int) (apartA_0 : Int → Int) (apartB_0 : Int → Int) (apart_0 : Int → Int) (costMany_0 : Int) (apartMany_0 : Int) (cameBy_0 : Int → Int) (goes_0 : Int → Int) (k2 : 2 ≤ x2 ∧ x2 ≤ 78) (k3 : 0 ≤ x3 ∧ x3 ≤ 76) (k4 : 1 ≤ x4 ∧ x4 ≤ 77) (k5 : 0 ≤ x5 ∧ x5 ≤ 76) (k6 : 0 ≤ x6 ∧ x6 ≤ 76) (k7 : 0 ≤ x7 ∧ x7 ≤ 76) (d0 : x7 + 0 ≤ x6 ∧ x6 ≤ x7 + 4294967296) (g1 : x7 = pointMany_0) (f2 : x2 = (pointMany_0 + 2)) (f3 : x3 = pointMany_0) (f4 : x4 = (pointMany_0 + 1)) (f5 : FLO (pointMany_0) (costMany_0) (apartMany_0) (flow_0) (spot_0) (costA_0) (costB_0) (costW_0) (costPlain_0) (apartA_0) (apartB_0) (apart_0)) (f6 : CUT (flow_0) (cameBy_0) (x2) (x3) (x4)) (f7 : UPE (goes_0) (cameBy_0) (x6) (x5)) (f8 : x6 ≤ pointMany_0) (kz_0_79 : 0 ≤ pointMany_0 ∧ pointMany_0 ≤ 76) (kz_0_80 : 0 ≤ costMany_0 ∧ costMany_0 ≤ 200) (kz_0_81 : 0 ≤ apartMany_0 ∧ apartMany_0 ≤ 200) : UPP (pointMany_0) (costMany_0) (apartMany_0) (goes_0) (spot_0) (costA_0) (costB_0) (costW_0) (costPlain_0) (apartA_0) (apartB_0) (apart_0) (x5) := by
  exact upp_of ‹FLO _ _ _ _ _ _ _ _ _ _ _ _› ‹CUT _ _ _ _ _› (by omega) (by omega) (by omega) ‹UPE _ _ _ _› (by omega) (by omega)
def o_Mo_up_31 : or_T := (509, 8, [(0, (2, 0, 0, [165])), (2, (0, 2, 78, [])), (3, (0, 0, 76, [])), (4, (0, 1, 77, [])), (5, (0, 0, 76, [])), (6, (0, 0, 76, [])), (7, (0, 0, 76, []))], [(9, [7, 1], [79]), (20, [2, 1], [50, 1, 0, 1079, 1, 2, 1, 0, 4, 3, 2, 1, 79, 0, 2]), (20, [3, 1], [50, 1, 0, 1079, 1, 2, 1, 0, 2, 1, 79]), (20, [4, 1], [50, 1, 0, 1079, 1, 2, 1, 0, 4, 3, 2, 1, 79, 0, 1]), (20, [1], [60, 3, 9, 397, 79, 80, 81, 90, 82, 83, 84, 85, 86, 87, 88, 89]), (20, [1, 2, 3, 4], [60, 0, 2, 406, 90, 91]), (20, [1, 6, 5], [60, 0, 2, 416, 93, 91]), (20, [6, 1], [50, 1, 0, 1079, 0, 2, 1, 0, 2, 1, 79]), (24, [0, 1], [])], [], [], [(20, [0, 5], [60, 3, 9, 417, 79, 80, 81, 93, 82, 83, 84, 85, 86, 87, 88, 89])], [], [(6, 7, 0, 4294967296)])
theorem oo_Mo_up_31 {kA : Nat → ClassId} : or_ok PRD kA GG o_Mo_up_31 := by
  refine or_mk fun A ta ws vs hD hth hl => ?_
  intro t0 r0 t2 k2 t3 k3 t4 k4 t5 k5 t6 k6 t7 k7 d0 f1 f2 f3 f4 f5 f6 f7 f8 f9
  replace f1 := shm_1155 f1
  replace f2 := shm_942 f2
  replace f3 := shm_943 f3
  replace f4 := shm_944 f4
  replace f5 := shm_945 f5
  replace f6 := shm_1168 f6
  replace f7 := shm_1169 f7
  replace f8 := shm_1164 f8
  replace f9 := shm_5 f9
  have q1 : n_v vs 1 = n_v vs 0 := f9.symm
  simp only [q1] at f1 f2 f3 f4 f5 f6 f7 f8
  have g1 : v_iv (n_v vs 7) = w_fi ws (n_v vs 0) 79 := congrArg v_iv f1
  have kz_0_79 := fdq_147 hD hth r0
  have kz_0_80 := fdq_131 hD hth r0
  have kz_0_81 := fdq_124 hD hth r0
  have nf0 : fc_1 PRD (20, [0, 5], [60, 3, 9, 417, 79, 80, 81, 93, 82, 83, 84, 85, 86, 87, 88, 89]) ws (vs) := ⟨nf_in hl rfl, sgq_1171 (vc_Mo_up_31_0 (v_iv (n_v vs 2)) (v_iv (n_v vs 3)) (v_iv (n_v vs 4)) (v_iv (n_v vs 5)) (v_iv (n_v vs 6)) (v_iv (n_v vs 7)) (w_fi ws (n_v vs 0) 79) (w_ei ws (w_ar ws (n_v vs 0) 90)) (w_ei ws (w_ar ws (n_v vs 0) 82)) (w_ei ws (w_ar ws (n_v vs 0) 83)) (w_ei ws (w_ar ws (n_v vs 0) 84)) (w_ei ws (w_ar ws (n_v vs 0) 85)) (w_ei ws (w_ar ws (n_v vs 0) 86)) (w_ei ws (w_ar ws (n_v vs 0) 87)) (w_ei ws (w_ar ws (n_v vs 0) 88)) (w_ei ws (w_ar ws (n_v vs 0) 89)) (w_fi ws (n_v vs 0) 80) (w_fi ws (n_v vs 0) 81) (w_ei ws (w_ar ws (n_v vs 0) 91)) (w_ei ws (w_ar ws (n_v vs 0) 93)) k2 k3 k4 k5 k6 k7 d0 g1 f2 f3 f4 f5 f6 f7 f8 kz_0_79 kz_0_80 kz_0_81)⟩
  refine ⟨(fun _ h => (by cases h)), [], trivial, ?_, (fun _ h => (by cases h))⟩
  rw [List.append_nil]
  exact List.forall_mem_cons.mpr ⟨⟨show (20 : Nat) < 100 from by decide, nf0⟩, (fun _ h => (by cases h))⟩
set_option maxHeartbeats 4000000 in
theorem vc_Mo_up_32_r0 (x6 : Int) (x11 : Int) (x12 : Int) (goes_0 : Int → Int) (pointMany_0 : Int) (flow_0 : Int → Int) (spot_0 : Int → Int) (costA_0 : Int → Int) (costB_0 : Int → Int) (costW_0 : Int → Int) (costPlain_0 : Int → Int) (apartA_0 : Int → Int) (apartB_0 : Int → Int) (apart_0 : Int → Int) (costMany_0 : Int) (apartMany_0 : Int) (cameBy_0 : Int → Int) (cameBy_1 : Int → Int) (pointMany_1 : Int) (flow_1 : Int → Int) (spot_1 : Int → Int) (costA_1 : Int → Int) (costB_1 : Int → Int) (costW_1 : Int → Int) (costPlain_1 : Int → Int) (apartA_1 : Int → Int) (apartB_1 : Int → Int) (apart_1 : Int → Int) (costMany_1 : Int) (apartMany_1 : Int) (goes_1 : Int → Int) (k6 : 0 ≤ x6 ∧ x6 ≤ 75) (k11 : 0 ≤ x11 ∧ x11 ≤ 0) (k12 : (-14400) ≤ x12 ∧ x12 ≤ 14400) (h0 : x12 = goes_0 (x6)) (fe_0_79_1 : pointMany_0 = pointMany_1) (fe_0_80_1 : costMany_0 = costMany_1) (fe_0_81_1 : apartMany_0 = apartMany_1) (hE_0_82_1 : ∀ j : Int, spot_0 j = spot_1 j) (hE_0_83_1 : ∀ j : Int, costA_0 j = costA_1 j) (hE_0_84_1 : ∀ j : Int, costB_0 j = costB_1 j) (hE_0_85_1 : ∀ j : Int, costW_0 j = costW_1 j) (hE_0_86_1 : ∀ j : Int, costPlain_0 j = costPlain_1 j) (hE_0_87_1 : ∀ j : Int, apartA_0 j = apartA_1 j) (hE_0_88_1 : ∀ j : Int, apartB_0 j = apartB_1 j) (hE_0_89_1 : ∀ j : Int, apart_0 j = apart_1 j) (hE_0_90_1 : ∀ j : Int, flow_0 j = flow_1 j) (hE_0_91_1 : ∀ j : Int, cameBy_0 j = cameBy_1 j) (hE_0_93_1 : ∀ j : Int, 0 ≤ j → (j = x6 → goes_0 j = x11) ∧ (j ≠ x6 → goes_0 j = goes_1 j)) (kz_0_79 : 0 ≤ pointMany_0 ∧ pointMany_0 ≤ 76) (kz_0_80 : 0 ≤ costMany_0 ∧ costMany_0 ≤ 200) (kz_0_81 : 0 ≤ apartMany_0 ∧ apartMany_0 ≤ 200) : 0 ≤ x12 ∧ x12 ≤ 1 := by
  subst fe_0_79_1
  subst fe_0_80_1
  subst fe_0_81_1
  have e_hE_0_82_1 := funext hE_0_82_1; subst e_hE_0_82_1
  have e_hE_0_83_1 := funext hE_0_83_1; subst e_hE_0_83_1
  have e_hE_0_84_1 := funext hE_0_84_1; subst e_hE_0_84_1
  have e_hE_0_85_1 := funext hE_0_85_1; subst e_hE_0_85_1
  have e_hE_0_86_1 := funext hE_0_86_1; subst e_hE_0_86_1
  have e_hE_0_87_1 := funext hE_0_87_1; subst e_hE_0_87_1
  have e_hE_0_88_1 := funext hE_0_88_1; subst e_hE_0_88_1
  have e_hE_0_89_1 := funext hE_0_89_1; subst e_hE_0_89_1
  have e_hE_0_90_1 := funext hE_0_90_1; subst e_hE_0_90_1
  have e_hE_0_91_1 := funext hE_0_91_1; subst e_hE_0_91_1
  first
    | omega
    | (have h := ‹UPE _ _ _ _›; have h2 := h.2.1; omega)
    | (have h := (hE_0_93_1 x6 (by omega)).1 rfl; omega)
def o_Mo_up_32 : or_T := (498, 13, [(0, (2, 0, 0, [165])), (1, (2, 0, 0, [165])), (2, (0, 2, 78, [])), (3, (0, 0, 76, [])), (4, (0, 1, 77, [])), (5, (0, 0, 75, [])), (6, (0, 0, 75, [])), (7, (0, 1, 76, [])), (8, (2, 0, 0, [230])), (9, (2, 0, 0, [228])), (10, (0, -1, -1, [])), (11, (0, 0, 0, [])), (12, (0, -14400, 14400, []))], [(10, [12, 8, 6], []), (9, [8, 1], [93]), (20, [2, 1], [50, 1, 0, 1079, 1, 2, 1, 0, 4, 3, 2, 1, 79, 0, 2]), (20, [3, 1], [50, 1, 0, 1079, 1, 2, 1, 0, 2, 1, 79]), (20, [4, 1], [50, 1, 0, 1079, 1, 2, 1, 0, 4, 3, 2, 1, 79, 0, 1]), (20, [1], [60, 3, 9, 397, 79, 80, 81, 90, 82, 83, 84, 85, 86, 87, 88, 89]), (20, [1, 2, 3, 4], [60, 0, 2, 406, 90, 91]), (20, [6, 1], [50, 1, 0, 1079, 0, 2, 1, 0, 2, 1, 79]), (24, [0, 1], []), (100, [8, 6, 11], []), (8, [10], [2]), (10, [10, 9, 6], []), (9, [9, 1], [91]), (7, [6, 7], [2]), (9, [7, 1], [79]), (20, [2, 1], [50, 1, 0, 1079, 1, 2, 1, 0, 4, 3, 2, 1, 79, 0, 2]), (20, [3, 1], [50, 1, 0, 1079, 1, 2, 1, 0, 2, 1, 79]), (20, [4, 1], [50, 1, 0, 1079, 1, 2, 1, 0, 4, 3, 2, 1, 79, 0, 1]), (20, [1], [60, 3, 9, 397, 79, 80, 81, 90, 82, 83, 84, 85, 86, 87, 88, 89]), (20, [1, 2, 3, 4], [60, 0, 2, 406, 90, 91]), (20, [1, 6, 5], [60, 0, 2, 416, 93, 91]), (20, [6, 1], [50, 1, 0, 1079, 0, 2, 1, 0, 2, 1, 79])], [(12, (0, 0, 1, []))], [], [], [], [(6, 7, -4294967296, -1), (2, 3, -4294967296, 2), (2, 4, -4294967296, 1), (3, 2, -4294967296, -2), (3, 4, -4294967296, -1), (4, 2, -4294967296, -1), (4, 3, -4294967296, 1), (5, 6, -4294967296, 0)])
theorem oo_Mo_up_32 {kA : Nat → ClassId} : or_ok PRD kA GG o_Mo_up_32 := by
  refine or_mk fun A ta ws vs hD hth hl => ?_
  intro t0 r0 t1 r1 t2 k2 t3 k3 t4 k4 t5 k5 t6 k6 t7 k7 t8 r8 t9 r9 t10 k10 t11 k11 t12 k12 d0 d1 d2 d3 d4 d5 d6 d7 f0 f1 f2 f3 f4 f5 f6 f7 f8 ta1 w1 le1 s1 f10 f11 f12 f13 f14 f15 f16 f17 f18 f19 f20 f21
  replace f0 := shm_107 f0
  replace f1 := shm_1162 f1
  replace f8 := shm_5 f8
  have s1 : (∀ b j, w_el ws b j = if b = v_ad (n_v vs 8) ∧ j = (v_iv (n_v vs 6)).toNat then v_iv (n_v vs 11) else w_el w1 b j) ∧ ∀ b k, w_fd ws b k = w_fd w1 b k := s1.2
  have q1 : n_v vs 1 = n_v vs 0 := f8.symm
  simp only [q1] at f1
  have cr_0_82 := fdq_230 hD hth r0
  have cr_0_83 := fdq_126 hD hth r0
  have cr_0_84 := fdq_127 hD hth r0
  have cr_0_85 := fdq_128 hD hth r0
  have cr_0_86 := fdq_129 hD hth r0
  have cr_0_87 := fdq_119 hD hth r0
  have cr_0_88 := fdq_120 hD hth r0
  have cr_0_89 := fdq_121 hD hth r0
  have cr_0_90 := fdq_231 hD hth r0
  have cr_0_91 := fdq_232 hD hth r0
  have ad_8 : v_ad (n_v vs 8) = w_ar ws (n_v vs 0) 93 := congrArg v_ad f1
  simp only [ad_8] at f0
  have h0 : v_iv (n_v vs 12) = w_ei ws (w_ar ws (n_v vs 0) 93) (v_iv (n_v vs 6)) := f0
  have fe_0_79_1 : w_fi ws (n_v vs 0) 79 = w_fi w1 (n_v vs 0) 79 := congrArg v_iv (s1.2 _ _)
  have fe_0_80_1 : w_fi ws (n_v vs 0) 80 = w_fi w1 (n_v vs 0) 80 := congrArg v_iv (s1.2 _ _)
  have fe_0_81_1 : w_fi ws (n_v vs 0) 81 = w_fi w1 (n_v vs 0) 81 := congrArg v_iv (s1.2 _ _)
  have hE_0_82_1 : ∀ j : Int, w_ei ws (w_ar ws (n_v vs 0) 82) j = w_ei w1 (w_ar ws (n_v vs 0) 82) j := el_kp s1.1 r8 cr_0_82 (by decide)
  have hE_0_83_1 : ∀ j : Int, w_ei ws (w_ar ws (n_v vs 0) 83) j = w_ei w1 (w_ar ws (n_v vs 0) 83) j := el_kp s1.1 r8 cr_0_83 (by decide)
  have hE_0_84_1 : ∀ j : Int, w_ei ws (w_ar ws (n_v vs 0) 84) j = w_ei w1 (w_ar ws (n_v vs 0) 84) j := el_kp s1.1 r8 cr_0_84 (by decide)
  have hE_0_85_1 : ∀ j : Int, w_ei ws (w_ar ws (n_v vs 0) 85) j = w_ei w1 (w_ar ws (n_v vs 0) 85) j := el_kp s1.1 r8 cr_0_85 (by decide)
  have hE_0_86_1 : ∀ j : Int, w_ei ws (w_ar ws (n_v vs 0) 86) j = w_ei w1 (w_ar ws (n_v vs 0) 86) j := el_kp s1.1 r8 cr_0_86 (by decide)
  have hE_0_87_1 : ∀ j : Int, w_ei ws (w_ar ws (n_v vs 0) 87) j = w_ei w1 (w_ar ws (n_v vs 0) 87) j := el_kp s1.1 r8 cr_0_87 (by decide)
  have hE_0_88_1 : ∀ j : Int, w_ei ws (w_ar ws (n_v vs 0) 88) j = w_ei w1 (w_ar ws (n_v vs 0) 88) j := el_kp s1.1 r8 cr_0_88 (by decide)
  have hE_0_89_1 : ∀ j : Int, w_ei ws (w_ar ws (n_v vs 0) 89) j = w_ei w1 (w_ar ws (n_v vs 0) 89) j := el_kp s1.1 r8 cr_0_89 (by decide)
  have hE_0_90_1 : ∀ j : Int, w_ei ws (w_ar ws (n_v vs 0) 90) j = w_ei w1 (w_ar ws (n_v vs 0) 90) j := el_kp s1.1 r8 cr_0_90 (by decide)
  have hE_0_91_1 : ∀ j : Int, w_ei ws (w_ar ws (n_v vs 0) 91) j = w_ei w1 (w_ar ws (n_v vs 0) 91) j := el_kp s1.1 r8 cr_0_91 (by decide)
  have hE_0_93_1 : ∀ j : Int, 0 ≤ j → (j = v_iv (n_v vs 6) → w_ei ws (w_ar ws (n_v vs 0) 93) j = v_iv (n_v vs 11)) ∧ (j ≠ v_iv (n_v vs 6) → w_ei ws (w_ar ws (n_v vs 0) 93) j = w_ei w1 (w_ar ws (n_v vs 0) 93) j) := fun j hj => ⟨fun h => by unfold w_ei; rw [s1.1, if_pos ⟨ad_8.symm, by rw [h]⟩], fun h => by unfold w_ei; rw [s1.1, if_neg (fun e => h (by have := e.2; omega))]⟩
  have kz_0_79 := fdq_147 hD hth r0
  have kz_0_80 := fdq_131 hD hth r0
  have kz_0_81 := fdq_124 hD hth r0
  have hrf0 : 0 ≤ v_iv (n_v vs 12) ∧ v_iv (n_v vs 12) ≤ 1 := vc_Mo_up_32_r0 (v_iv (n_v vs 6)) (v_iv (n_v vs 11)) (v_iv (n_v vs 12)) (w_ei ws (w_ar ws (n_v vs 0) 93)) (w_fi ws (n_v vs 0) 79) (w_ei ws (w_ar ws (n_v vs 0) 90)) (w_ei ws (w_ar ws (n_v vs 0) 82)) (w_ei ws (w_ar ws (n_v vs 0) 83)) (w_ei ws (w_ar ws (n_v vs 0) 84)) (w_ei ws (w_ar ws (n_v vs 0) 85)) (w_ei ws (w_ar ws (n_v vs 0) 86)) (w_ei ws (w_ar ws (n_v vs 0) 87)) (w_ei ws (w_ar ws (n_v vs 0) 88)) (w_ei ws (w_ar ws (n_v vs 0) 89)) (w_fi ws (n_v vs 0) 80) (w_fi ws (n_v vs 0) 81) (w_ei ws (w_ar ws (n_v vs 0) 91)) (w_ei w1 (w_ar ws (n_v vs 0) 91)) (w_fi w1 (n_v vs 0) 79) (w_ei w1 (w_ar ws (n_v vs 0) 90)) (w_ei w1 (w_ar ws (n_v vs 0) 82)) (w_ei w1 (w_ar ws (n_v vs 0) 83)) (w_ei w1 (w_ar ws (n_v vs 0) 84)) (w_ei w1 (w_ar ws (n_v vs 0) 85)) (w_ei w1 (w_ar ws (n_v vs 0) 86)) (w_ei w1 (w_ar ws (n_v vs 0) 87)) (w_ei w1 (w_ar ws (n_v vs 0) 88)) (w_ei w1 (w_ar ws (n_v vs 0) 89)) (w_fi w1 (n_v vs 0) 80) (w_fi w1 (n_v vs 0) 81) (w_ei w1 (w_ar ws (n_v vs 0) 93)) k6 k11 k12 h0 fe_0_79_1 fe_0_80_1 fe_0_81_1 hE_0_82_1 hE_0_83_1 hE_0_84_1 hE_0_85_1 hE_0_86_1 hE_0_87_1 hE_0_88_1 hE_0_89_1 hE_0_90_1 hE_0_91_1 hE_0_93_1 kz_0_79 kz_0_80 kz_0_81
  have rf12 : tv_ok ta (0, 0, 1, []) (n_v vs 12) := tv_in t12 (by first | omega | grind) (by first | omega | grind)
  refine ⟨List.forall_mem_cons.mpr ⟨rf12, (fun _ h => (by cases h))⟩, [], trivial, ?_, (fun _ h => (by cases h))⟩
  rw [List.append_nil]
  exact (fun _ h => (by cases h))
set_option maxHeartbeats 4000000 in
theorem vc_Mo_up_33_0 (x5 : Int) (x6 : Int) (x10 : Int) (x11 : Int) (x12 : Int) (x13 : Int) (x14 : Int) (goes_0 : Int → Int) (pointMany_0 : Int) (flow_0 : Int → Int) (spot_0 : Int → Int) (costA_0 : Int → Int) (costB_0 : Int → Int) (costW_0 : Int → Int) (costPlain_0 : Int → Int) (apartA_0 : Int → Int) (apartB_0 : Int → Int) (apart_0 : Int → Int) (costMany_0 : Int) (apartMany_0 : Int) (cameBy_0 : Int → Int) (cameBy_1 : Int → Int) (pointMany_1 : Int) (flow_1 : Int → Int) (spot_1 : Int → Int) (costA_1 : Int → Int) (costB_1 : Int → Int) (costW_1 : Int → Int) (costPlain_1 : Int → Int) (apartA_1 : Int → Int) (apartB_1 : Int → Int) (apart_1 : Int → Int) (costMany_1 : Int) (apartMany_1 : Int) (goes_1 : Int → Int) (k5 : 0 ≤ x5 ∧ x5 ≤ 75) (k6 : 0 ≤ x6 ∧ x6 ≤ 75) (k10 : (-1) ≤ x10 ∧ x10 ≤ (-1)) (k11 : 0 ≤ x11 ∧ x11 ≤ 0) (k12 : 0 ≤ x12 ∧ x12 ≤ 1) (k13 : 0 ≤ x13 ∧ x13 ≤ 76) (k14 : 1 ≤ x14 ∧ x14 ≤ 76) (d0 : x6 + 1 ≤ x14 ∧ x14 ≤ x6 + 1) (f0 : x14 = x6 + 1) (f1 : x13 = x5 + x12) (h2 : x12 = goes_0 (x6)) (h13 : x10 = cameBy_1 (x6)) (f22 : UPE (goes_1) (cameBy_1) (x6) (x5)) (fe_0_79_1 : pointMany_0 = pointMany_1) (fe_0_80_1 : costMany_0 = costMany_1) (fe_0_81_1 : apartMany_0 = apartMany_1) (hE_0_82_1 : ∀ j : Int, spot_0 j = spot_1 j) (hE_0_83_1 : ∀ j : Int, costA_0 j = costA_1 j) (hE_0_84_1 : ∀ j : Int, costB_0 j = costB_1 j) (hE_0_85_1 : ∀ j : Int, costW_0 j = costW_1 j) (hE_0_86_1 : ∀ j : Int, costPlain_0 j = costPlain_1 j) (hE_0_87_1 : ∀ j : Int, apartA_0 j = apartA_1 j) (hE_0_88_1 : ∀ j : Int, apartB_0 j = apartB_1 j) (hE_0_89_1 : ∀ j : Int, apart_0 j = apart_1 j) (hE_0_90_1 : ∀ j : Int, flow_0 j = flow_1 j) (hE_0_91_1 : ∀ j : Int, cameBy_0 j = cameBy_1 j) (hE_0_93_1 : ∀ j : Int, 0 ≤ j → (j = x6 → goes_0 j = x11) ∧ (j ≠ x6 → goes_0 j = goes_1 j)) (kz_0_79 : 0 ≤ pointMany_0 ∧ pointMany_0 ≤ 76) (kz_0_80 : 0 ≤ costMany_0 ∧ costMany_0 ≤ 200) (kz_0_81 : 0 ≤ apartMany_0 ∧ apartMany_0 ≤ 200) : UPE (goes_0) (cameBy_0) (x14) (x13) := by
  subst fe_0_79_1
  subst fe_0_80_1
  subst fe_0_81_1
  have e_hE_0_82_1 := funext hE_0_82_1; subst e_hE_0_82_1
  have e_hE_0_83_1 := funext hE_0_83_1; subst e_hE_0_83_1
  have e_hE_0_84_1 := funext hE_0_84_1; subst e_hE_0_84_1
  have e_hE_0_85_1 := funext hE_0_85_1; subst e_hE_0_85_1
  have e_hE_0_86_1 := funext hE_0_86_1; subst e_hE_0_86_1
  have e_hE_0_87_1 := funext hE_0_87_1; subst e_hE_0_87_1
  have e_hE_0_88_1 := funext hE_0_88_1; subst e_hE_0_88_1
  have e_hE_0_89_1 := funext hE_0_89_1; subst e_hE_0_89_1
  have e_hE_0_90_1 := funext hE_0_90_1; subst e_hE_0_90_1
  have e_hE_0_91_1 := funext hE_0_91_1; subst e_hE_0_91_1
  first
    | exact upe_zero (by omega) (by omega)
    | exact upe_step ‹UPE _ _ _ _› (by omega) (by assumption) (by assumption) rfl (by first | (left; constructor <;> omega) | (right; constructor <;> omega)) (by assumption) (by assumption)
  
set_option maxHeartbeats 4000000 in
theorem vc_Mo_up_33_1 (x6 : Int) (x7 : Int) (x14 : Int) (pointMany_0 : Int) (flow_0 : Int → Int) (spot_0 : Int → Int) (costA_0 : Int → Int) (costB_0 : Int → Int) (costW_0 : Int → Int) (costPlain_0 : Int → Int) (apartA_0 : Int → Int) (apartB_0 : Int → Int) (apart_0 : Int → Int) (costMany_0 : Int) (apartMany_0 : Int) (cameBy_0 : Int → Int) (cameBy_1 : Int → Int) (pointMany_1 : Int) (flow_1 : Int → Int) (spot_1 : Int → Int) (costA_1 : Int → Int) (costB_1 : Int → Int) (costW_1 : Int → Int) (costPlain_1 : Int → Int) (apartA_1 : Int → Int) (apartB_1 : Int → Int) (apart_1 : Int → Int) (costMany_1 : Int) (apartMany_1 : Int) (k6 : 0 ≤ x6 ∧ x6 ≤ 75) (k7 : 1 ≤ x7 ∧ x7 ≤ 76) (k14 : 1 ≤ x14 ∧ x14 ≤ 76) (d0 : x6 + 1 ≤ x14 ∧ x14 ≤ x6 + 1) (d1 : x7 + (-4294967296) ≤ x14 ∧ x14 ≤ x7 + 0) (d5 : x7 + (-4294967296) ≤ x6 ∧ x6 ≤ x7 + (-1)) (g16 : x7 = pointMany_1) (fe_0_79_1 : pointMany_0 = pointMany_1) (fe_0_80_1 : costMany_0 = costMany_1) (fe_0_81_1 : apartMany_0 = apartMany_1) (hE_0_82_1 : ∀ j : Int, spot_0 j = spot_1 j) (hE_0_83_1 : ∀ j : Int, costA_0 j = costA_1 j) (hE_0_84_1 : ∀ j : Int, costB_0 j = costB_1 j) (hE_0_85_1 : ∀ j : Int, costW_0 j = costW_1 j) (hE_0_86_1 : ∀ j : Int, costPlain_0 j = costPlain_1 j) (hE_0_87_1 : ∀ j : Int, apartA_0 j = apartA_1 j) (hE_0_88_1 : ∀ j : Int, apartB_0 j = apartB_1 j) (hE_0_89_1 : ∀ j : Int, apart_0 j = apart_1 j) (hE_0_90_1 : ∀ j : Int, flow_0 j = flow_1 j) (hE_0_91_1 : ∀ j : Int, cameBy_0 j = cameBy_1 j) (kz_0_79 : 0 ≤ pointMany_0 ∧ pointMany_0 ≤ 76) (kz_0_80 : 0 ≤ costMany_0 ∧ costMany_0 ≤ 200) (kz_0_81 : 0 ≤ apartMany_0 ∧ apartMany_0 ≤ 200) : x14 ≤ pointMany_0 := by
  subst fe_0_79_1
  subst fe_0_80_1
  subst fe_0_81_1
  have e_hE_0_82_1 := funext hE_0_82_1; subst e_hE_0_82_1
  have e_hE_0_83_1 := funext hE_0_83_1; subst e_hE_0_83_1
  have e_hE_0_84_1 := funext hE_0_84_1; subst e_hE_0_84_1
  have e_hE_0_85_1 := funext hE_0_85_1; subst e_hE_0_85_1
  have e_hE_0_86_1 := funext hE_0_86_1; subst e_hE_0_86_1
  have e_hE_0_87_1 := funext hE_0_87_1; subst e_hE_0_87_1
  have e_hE_0_88_1 := funext hE_0_88_1; subst e_hE_0_88_1
  have e_hE_0_89_1 := funext hE_0_89_1; subst e_hE_0_89_1
  have e_hE_0_90_1 := funext hE_0_90_1; subst e_hE_0_90_1
  have e_hE_0_91_1 := funext hE_0_91_1; subst e_hE_0_91_1
  omega
def o_Mo_up_33 : or_T := (458, 15, [(0, (2, 0, 0, [165])), (1, (2, 0, 0, [165])), (2, (0, 2, 78, [])), (3, (0, 0, 76, [])), (4, (0, 1, 77, [])), (5, (0, 0, 75, [])), (6, (0, 0, 75, [])), (7, (0, 1, 76, [])), (8, (2, 0, 0, [230])), (9, (2, 0, 0, [228])), (10, (0, -1, -1, [])), (11, (0, 0, 0, [])), (12, (0, 0, 1, [])), (13, (0, 0, 76, [])), (14, (0, 1, 76, []))], [(6, [14, 6], [1]), (1, [13, 5, 12], []), (10, [12, 8, 6], []), (9, [8, 1], [93]), (20, [2, 1], [50, 1, 0, 1079, 1, 2, 1, 0, 4, 3, 2, 1, 79, 0, 2]), (20, [3, 1], [50, 1, 0, 1079, 1, 2, 1, 0, 2, 1, 79]), (20, [4, 1], [50, 1, 0, 1079, 1, 2, 1, 0, 4, 3, 2, 1, 79, 0, 1]), (20, [1], [60, 3, 9, 397, 79, 80, 81, 90, 82, 83, 84, 85, 86, 87, 88, 89]), (20, [1, 2, 3, 4], [60, 0, 2, 406, 90, 91]), (20, [6, 1], [50, 1, 0, 1079, 0, 2, 1, 0, 2, 1, 79]), (24, [0, 1], []), (100, [8, 6, 11], []), (8, [10], [2]), (10, [10, 9, 6], []), (9, [9, 1], [91]), (7, [6, 7], [2]), (9, [7, 1], [79]), (20, [2, 1], [50, 1, 0, 1079, 1, 2, 1, 0, 4, 3, 2, 1, 79, 0, 2]), (20, [3, 1], [50, 1, 0, 1079, 1, 2, 1, 0, 2, 1, 79]), (20, [4, 1], [50, 1, 0, 1079, 1, 2, 1, 0, 4, 3, 2, 1, 79, 0, 1]), (20, [1], [60, 3, 9, 397, 79, 80, 81, 90, 82, 83, 84, 85, 86, 87, 88, 89]), (20, [1, 2, 3, 4], [60, 0, 2, 406, 90, 91]), (20, [1, 6, 5], [60, 0, 2, 416, 93, 91]), (20, [6, 1], [50, 1, 0, 1079, 0, 2, 1, 0, 2, 1, 79])], [], [], [(20, [1, 14, 13], [60, 0, 2, 416, 93, 91]), (20, [14, 1], [50, 1, 0, 1079, 0, 2, 1, 0, 2, 1, 79])], [], [(14, 6, 1, 1), (14, 7, -4294967296, 0), (13, 12, 0, 75), (13, 5, 0, 1), (13, 6, -4294967296, 1), (6, 7, -4294967296, -1), (2, 3, -4294967296, 2), (2, 4, -4294967296, 1), (3, 2, -4294967296, -2), (3, 4, -4294967296, -1), (4, 2, -4294967296, -1), (4, 3, -4294967296, 1), (5, 6, -4294967296, 0)])
theorem oo_Mo_up_33 {kA : Nat → ClassId} : or_ok PRD kA GG o_Mo_up_33 := by
  refine or_mk fun A ta ws vs hD hth hl => ?_
  intro t0 r0 t1 r1 t2 k2 t3 k3 t4 k4 t5 k5 t6 k6 t7 k7 t8 r8 t9 r9 t10 k10 t11 k11 t12 k12 t13 k13 t14 k14 d0 d1 d2 d3 d4 d5 d6 d7 d8 d9 d10 d11 d12 f0 f1 f2 f3 f4 f5 f6 f7 f8 f9 f10 ta1 w1 le1 s1 f12 f13 f14 f15 f16 f17 f18 f19 f20 f21 f22 f23
  replace f0 := shm_4 f0
  replace f1 := shm_12 f1
  replace f2 := shm_107 f2
  replace f3 := shm_1162 f3
  replace f10 := shm_5 f10
  have s1 : (∀ b j, w_el ws b j = if b = v_ad (n_v vs 8) ∧ j = (v_iv (n_v vs 6)).toNat then v_iv (n_v vs 11) else w_el w1 b j) ∧ ∀ b k, w_fd ws b k = w_fd w1 b k := s1.2
  replace f13 := shm_107 f13
  replace f14 := shm_949 f14
  replace f16 := shm_1155 f16
  replace f22 := shm_1169 f22
  have q1 : n_v vs 1 = n_v vs 0 := f10.symm
  simp only [q1] at f3 f14 f16 f22
  have ar_0_82_1 : w_ar w1 (n_v vs 0) 82 = w_ar ws (n_v vs 0) 82 := congrArg v_ad (s1.2 _ _).symm
  have cr_0_82 := fdq_230 hD hth r0
  have ar_0_83_1 : w_ar w1 (n_v vs 0) 83 = w_ar ws (n_v vs 0) 83 := congrArg v_ad (s1.2 _ _).symm
  have cr_0_83 := fdq_126 hD hth r0
  have ar_0_84_1 : w_ar w1 (n_v vs 0) 84 = w_ar ws (n_v vs 0) 84 := congrArg v_ad (s1.2 _ _).symm
  have cr_0_84 := fdq_127 hD hth r0
  have ar_0_85_1 : w_ar w1 (n_v vs 0) 85 = w_ar ws (n_v vs 0) 85 := congrArg v_ad (s1.2 _ _).symm
  have cr_0_85 := fdq_128 hD hth r0
  have ar_0_86_1 : w_ar w1 (n_v vs 0) 86 = w_ar ws (n_v vs 0) 86 := congrArg v_ad (s1.2 _ _).symm
  have cr_0_86 := fdq_129 hD hth r0
  have ar_0_87_1 : w_ar w1 (n_v vs 0) 87 = w_ar ws (n_v vs 0) 87 := congrArg v_ad (s1.2 _ _).symm
  have cr_0_87 := fdq_119 hD hth r0
  have ar_0_88_1 : w_ar w1 (n_v vs 0) 88 = w_ar ws (n_v vs 0) 88 := congrArg v_ad (s1.2 _ _).symm
  have cr_0_88 := fdq_120 hD hth r0
  have ar_0_89_1 : w_ar w1 (n_v vs 0) 89 = w_ar ws (n_v vs 0) 89 := congrArg v_ad (s1.2 _ _).symm
  have cr_0_89 := fdq_121 hD hth r0
  have ar_0_90_1 : w_ar w1 (n_v vs 0) 90 = w_ar ws (n_v vs 0) 90 := congrArg v_ad (s1.2 _ _).symm
  have cr_0_90 := fdq_231 hD hth r0
  have ar_0_91_1 : w_ar w1 (n_v vs 0) 91 = w_ar ws (n_v vs 0) 91 := congrArg v_ad (s1.2 _ _).symm
  have cr_0_91 := fdq_232 hD hth r0
  have ar_0_93_1 : w_ar w1 (n_v vs 0) 93 = w_ar ws (n_v vs 0) 93 := congrArg v_ad (s1.2 _ _).symm
  have ad_8 : v_ad (n_v vs 8) = w_ar ws (n_v vs 0) 93 := congrArg v_ad f3
  have ad_9 : v_ad (n_v vs 9) = w_ar ws (n_v vs 0) 91 := (congrArg v_ad f14).trans ar_0_91_1
  simp only [ad_8] at f2
  have h2 : v_iv (n_v vs 12) = w_ei ws (w_ar ws (n_v vs 0) 93) (v_iv (n_v vs 6)) := f2
  simp only [ad_9] at f13
  have h13 : v_iv (n_v vs 10) = w_ei w1 (w_ar ws (n_v vs 0) 91) (v_iv (n_v vs 6)) := f13
  have g16 : v_iv (n_v vs 7) = w_fi w1 (n_v vs 0) 79 := congrArg v_iv f16
  simp only [ar_0_82_1, ar_0_83_1, ar_0_84_1, ar_0_85_1, ar_0_86_1, ar_0_87_1, ar_0_88_1, ar_0_89_1, ar_0_90_1, ar_0_91_1, ar_0_93_1] at f22
  have fe_0_79_1 : w_fi ws (n_v vs 0) 79 = w_fi w1 (n_v vs 0) 79 := congrArg v_iv (s1.2 _ _)
  have fe_0_80_1 : w_fi ws (n_v vs 0) 80 = w_fi w1 (n_v vs 0) 80 := congrArg v_iv (s1.2 _ _)
  have fe_0_81_1 : w_fi ws (n_v vs 0) 81 = w_fi w1 (n_v vs 0) 81 := congrArg v_iv (s1.2 _ _)
  have hE_0_82_1 : ∀ j : Int, w_ei ws (w_ar ws (n_v vs 0) 82) j = w_ei w1 (w_ar ws (n_v vs 0) 82) j := el_kp s1.1 r8 cr_0_82 (by decide)
  have hE_0_83_1 : ∀ j : Int, w_ei ws (w_ar ws (n_v vs 0) 83) j = w_ei w1 (w_ar ws (n_v vs 0) 83) j := el_kp s1.1 r8 cr_0_83 (by decide)
  have hE_0_84_1 : ∀ j : Int, w_ei ws (w_ar ws (n_v vs 0) 84) j = w_ei w1 (w_ar ws (n_v vs 0) 84) j := el_kp s1.1 r8 cr_0_84 (by decide)
  have hE_0_85_1 : ∀ j : Int, w_ei ws (w_ar ws (n_v vs 0) 85) j = w_ei w1 (w_ar ws (n_v vs 0) 85) j := el_kp s1.1 r8 cr_0_85 (by decide)
  have hE_0_86_1 : ∀ j : Int, w_ei ws (w_ar ws (n_v vs 0) 86) j = w_ei w1 (w_ar ws (n_v vs 0) 86) j := el_kp s1.1 r8 cr_0_86 (by decide)
  have hE_0_87_1 : ∀ j : Int, w_ei ws (w_ar ws (n_v vs 0) 87) j = w_ei w1 (w_ar ws (n_v vs 0) 87) j := el_kp s1.1 r8 cr_0_87 (by decide)
  have hE_0_88_1 : ∀ j : Int, w_ei ws (w_ar ws (n_v vs 0) 88) j = w_ei w1 (w_ar ws (n_v vs 0) 88) j := el_kp s1.1 r8 cr_0_88 (by decide)
  have hE_0_89_1 : ∀ j : Int, w_ei ws (w_ar ws (n_v vs 0) 89) j = w_ei w1 (w_ar ws (n_v vs 0) 89) j := el_kp s1.1 r8 cr_0_89 (by decide)
  have hE_0_90_1 : ∀ j : Int, w_ei ws (w_ar ws (n_v vs 0) 90) j = w_ei w1 (w_ar ws (n_v vs 0) 90) j := el_kp s1.1 r8 cr_0_90 (by decide)
  have hE_0_91_1 : ∀ j : Int, w_ei ws (w_ar ws (n_v vs 0) 91) j = w_ei w1 (w_ar ws (n_v vs 0) 91) j := el_kp s1.1 r8 cr_0_91 (by decide)
  have hE_0_93_1 : ∀ j : Int, 0 ≤ j → (j = v_iv (n_v vs 6) → w_ei ws (w_ar ws (n_v vs 0) 93) j = v_iv (n_v vs 11)) ∧ (j ≠ v_iv (n_v vs 6) → w_ei ws (w_ar ws (n_v vs 0) 93) j = w_ei w1 (w_ar ws (n_v vs 0) 93) j) := fun j hj => ⟨fun h => by unfold w_ei; rw [s1.1, if_pos ⟨ad_8.symm, by rw [h]⟩], fun h => by unfold w_ei; rw [s1.1, if_neg (fun e => h (by have := e.2; omega))]⟩
  have kz_0_79 := fdq_147 hD hth r0
  have kz_0_80 := fdq_131 hD hth r0
  have kz_0_81 := fdq_124 hD hth r0
  have nf0 : fc_1 PRD (20, [1, 14, 13], [60, 0, 2, 416, 93, 91]) ws (vs) := by
    refine ⟨nf_in hl rfl, sgq_1169 ?_⟩
    · show UPE (w_ei ws (w_ar ws (n_v vs 1) 93)) (w_ei ws (w_ar ws (n_v vs 1) 91)) (v_iv (n_v vs 14)) (v_iv (n_v vs 13))
      rw [q1]
      exact vc_Mo_up_33_0 (v_iv (n_v vs 5)) (v_iv (n_v vs 6)) (v_iv (n_v vs 10)) (v_iv (n_v vs 11)) (v_iv (n_v vs 12)) (v_iv (n_v vs 13)) (v_iv (n_v vs 14)) (w_ei ws (w_ar ws (n_v vs 0) 93)) (w_fi ws (n_v vs 0) 79) (w_ei ws (w_ar ws (n_v vs 0) 90)) (w_ei ws (w_ar ws (n_v vs 0) 82)) (w_ei ws (w_ar ws (n_v vs 0) 83)) (w_ei ws (w_ar ws (n_v vs 0) 84)) (w_ei ws (w_ar ws (n_v vs 0) 85)) (w_ei ws (w_ar ws (n_v vs 0) 86)) (w_ei ws (w_ar ws (n_v vs 0) 87)) (w_ei ws (w_ar ws (n_v vs 0) 88)) (w_ei ws (w_ar ws (n_v vs 0) 89)) (w_fi ws (n_v vs 0) 80) (w_fi ws (n_v vs 0) 81) (w_ei ws (w_ar ws (n_v vs 0) 91)) (w_ei w1 (w_ar ws (n_v vs 0) 91)) (w_fi w1 (n_v vs 0) 79) (w_ei w1 (w_ar ws (n_v vs 0) 90)) (w_ei w1 (w_ar ws (n_v vs 0) 82)) (w_ei w1 (w_ar ws (n_v vs 0) 83)) (w_ei w1 (w_ar ws (n_v vs 0) 84)) (w_ei w1 (w_ar ws (n_v vs 0) 85)) (w_ei w1 (w_ar ws (n_v vs 0) 86)) (w_ei w1 (w_ar ws (n_v vs 0) 87)) (w_ei w1 (w_ar ws (n_v vs 0) 88)) (w_ei w1 (w_ar ws (n_v vs 0) 89)) (w_fi w1 (n_v vs 0) 80) (w_fi w1 (n_v vs 0) 81) (w_ei w1 (w_ar ws (n_v vs 0) 93)) k5 k6 k10 k11 k12 k13 k14 d0 f0 f1 h2 h13 f22 fe_0_79_1 fe_0_80_1 fe_0_81_1 hE_0_82_1 hE_0_83_1 hE_0_84_1 hE_0_85_1 hE_0_86_1 hE_0_87_1 hE_0_88_1 hE_0_89_1 hE_0_90_1 hE_0_91_1 hE_0_93_1 kz_0_79 kz_0_80 kz_0_81
  have nf1 : fc_1 PRD (20, [14, 1], [50, 1, 0, 1079, 0, 2, 1, 0, 2, 1, 79]) ws (vs) := by
    refine ⟨nf_in hl rfl, sgq_1164 ?_⟩
    · show v_iv (n_v vs 14) ≤ w_fi ws (n_v vs 1) 79
      rw [q1]
      exact vc_Mo_up_33_1 (v_iv (n_v vs 6)) (v_iv (n_v vs 7)) (v_iv (n_v vs 14)) (w_fi ws (n_v vs 0) 79) (w_ei ws (w_ar ws (n_v vs 0) 90)) (w_ei ws (w_ar ws (n_v vs 0) 82)) (w_ei ws (w_ar ws (n_v vs 0) 83)) (w_ei ws (w_ar ws (n_v vs 0) 84)) (w_ei ws (w_ar ws (n_v vs 0) 85)) (w_ei ws (w_ar ws (n_v vs 0) 86)) (w_ei ws (w_ar ws (n_v vs 0) 87)) (w_ei ws (w_ar ws (n_v vs 0) 88)) (w_ei ws (w_ar ws (n_v vs 0) 89)) (w_fi ws (n_v vs 0) 80) (w_fi ws (n_v vs 0) 81) (w_ei ws (w_ar ws (n_v vs 0) 91)) (w_ei w1 (w_ar ws (n_v vs 0) 91)) (w_fi w1 (n_v vs 0) 79) (w_ei w1 (w_ar ws (n_v vs 0) 90)) (w_ei w1 (w_ar ws (n_v vs 0) 82)) (w_ei w1 (w_ar ws (n_v vs 0) 83)) (w_ei w1 (w_ar ws (n_v vs 0) 84)) (w_ei w1 (w_ar ws (n_v vs 0) 85)) (w_ei w1 (w_ar ws (n_v vs 0) 86)) (w_ei w1 (w_ar ws (n_v vs 0) 87)) (w_ei w1 (w_ar ws (n_v vs 0) 88)) (w_ei w1 (w_ar ws (n_v vs 0) 89)) (w_fi w1 (n_v vs 0) 80) (w_fi w1 (n_v vs 0) 81) k6 k7 k14 d0 d1 d5 g16 fe_0_79_1 fe_0_80_1 fe_0_81_1 hE_0_82_1 hE_0_83_1 hE_0_84_1 hE_0_85_1 hE_0_86_1 hE_0_87_1 hE_0_88_1 hE_0_89_1 hE_0_90_1 hE_0_91_1 kz_0_79 kz_0_80 kz_0_81
  refine ⟨(fun _ h => (by cases h)), [], trivial, ?_, (fun _ h => (by cases h))⟩
  rw [List.append_nil]
  exact List.forall_mem_cons.mpr ⟨⟨show (20 : Nat) < 100 from by decide, nf0⟩, List.forall_mem_cons.mpr ⟨⟨show (20 : Nat) < 100 from by decide, nf1⟩, (fun _ h => (by cases h))⟩⟩
