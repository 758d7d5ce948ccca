set_option maxRecDepth 100000 in
theorem c_Mo_told {l : Launch} {D : va_G} {kA : Nat → ClassId} (h_Mo_edges : ct_ok PRD l D kA GG y_Mo_edges z_Mo_edges e_Mo_edges) (h_Mo_groups : ct_ok PRD l D kA GG y_Mo_groups z_Mo_groups e_Mo_groups) (h_Mo_in : ct_ok PRD l D kA GG y_Mo_in z_Mo_in e_Mo_in) (h_Mo_isPlace : ct_ok PRD l D kA GG y_Mo_isPlace z_Mo_isPlace e_Mo_isPlace) (h_Mo_nodes : ct_ok PRD l D kA GG y_Mo_nodes z_Mo_nodes e_Mo_nodes) (h_Mo_take : ct_ok PRD l D kA GG y_Mo_take z_Mo_take e_Mo_take) : ct_ok PRD l D kA GG y_Mo_told z_Mo_told e_Mo_told := chk_all_ok (FT := [(120, 13, 61), (138, 13, 67), (141, 13, 68), (144, 13, 69), (147, 13, 70), (150, 13, 71), (153, 13, 72)]) (PT := []) (CT := t_Mo_told_ct) (KT := []) (NT := []) (AN := n_Mo_told_an) (OT := []) 0 2280 (List.forall_mem_nil _) (by decide +kernel) ⟨List.forall_mem_cons.mpr ⟨gf_Mo_120, List.forall_mem_cons.mpr ⟨gf_Mo_138, List.forall_mem_cons.mpr ⟨gf_Mo_141, List.forall_mem_cons.mpr ⟨gf_Mo_144, List.forall_mem_cons.mpr ⟨gf_Mo_147, List.forall_mem_cons.mpr ⟨gf_Mo_150, List.forall_mem_cons.mpr ⟨gf_Mo_153, List.forall_mem_nil _⟩⟩⟩⟩⟩⟩⟩, List.forall_mem_nil _, List.forall_mem_cons.mpr ⟨cl_static (y := y_Mo_in) h_Mo_in wm_2971 wm_9 wm_2969 wm_2970 ⟨by decide, by decide, by decide +kernel⟩ (by decide), List.forall_mem_cons.mpr ⟨cl_static (y := y_Mo_isPlace) h_Mo_isPlace wm_2978 wm_9 wm_2976 wm_2977 ⟨by decide, by decide, by decide +kernel⟩ (by decide), List.forall_mem_cons.mpr ⟨cl_virtual (y := y_Mo_edges) (ci := 13) rfl rfl ⟨_, _, rfl⟩ (by decide +kernel) h_Mo_edges wm_3037 wm_9 wm_3034 wm_3036 wv_13_6 ⟨by decide, by decide, by decide +kernel⟩ (by decide), List.forall_mem_cons.mpr ⟨cl_virtual (y := y_Mo_nodes) (ci := 13) rfl rfl ⟨_, _, rfl⟩ (by decide +kernel) h_Mo_nodes wm_3025 wm_9 wm_3022 wm_3024 wv_13_3 ⟨by decide, by decide, by decide +kernel⟩ (by decide), List.forall_mem_cons.mpr ⟨cl_virtual (y := y_Mo_groups) (ci := 13) rfl rfl ⟨_, _, rfl⟩ (by decide +kernel) h_Mo_groups wm_3070 wm_9 wm_3067 wm_3069 wv_13_14 ⟨by decide, by decide, by decide +kernel⟩ (by decide), List.forall_mem_cons.mpr ⟨cl_virtual (y := y_Mo_take) (ci := 13) rfl rfl ⟨_, _, rfl⟩ (by decide +kernel) h_Mo_take wm_3091 wm_9 wm_3088 wm_3090 wv_14_2 ⟨by decide, by decide, by decide +kernel⟩ (by decide), List.forall_mem_nil _⟩⟩⟩⟩⟩⟩, List.forall_mem_nil _, List.forall_mem_nil _, GG_pl⟩ (by decide +kernel)
def o_Ho_same_0 : or_T := (105, 20, [(9, (0, 0, 24, [])), (10, (0, 0, 24, [])), (17, (0, 0, 0, [])), (19, (0, 0, 0, []))], [(101, [0, 9], [7]), (102, [14], [63657374260452690195888927762793067532858387302060507832379389042324415617604272068231168, 12008]), (102, [13], [0]), (7, [9, 10], [0])], [], [], [(21, [17, 9], [24]), (21, [19, 9], [24])], [], [(9, 10, 0, 0)])
theorem oo_Ho_same_0 {kA : Nat → ClassId} : or_ok PRD kA GG o_Ho_same_0 := by
  refine or_mk fun A ta ws vs hD hth hl => ?_
  intro t9 k9 t10 k10 t17 k17 t19 k19 d0 ta1 w1 le1 s1 ta2 w2 le2 s2 ta3 w3 le3 s3 f3
  have s1 : (∀ b j, w_el ws b j = w_el w1 b j) ∧ ∀ b j, w_fd ws b j = if b = v_ad (n_v vs 0) ∧ j = 7 then n_v vs 9 else w_fd w1 b j := s1.2
  replace f3 := shm_37 f3
  have nf0 : fc_1 PRD (21, [17, 9], [24]) ws (vs) := by
    refine ⟨nf_in hl rfl, sgq_140 ?_⟩
    · show v_iv (n_v vs 17) + v_iv (n_v vs 9) ≤ 24
      omega
  have nf1 : fc_1 PRD (21, [19, 9], [24]) ws (vs) := by
    refine ⟨nf_in hl rfl, sgq_140 ?_⟩
    · show v_iv (n_v vs 19) + v_iv (n_v vs 9) ≤ 24
      omega
  refine ⟨(fun _ h => (by cases h)), [], trivial, ?_, (fun _ h => (by cases h))⟩
  rw [List.append_nil]
  exact List.forall_mem_cons.mpr ⟨⟨show (21 : Nat) < 100 from by decide, nf0⟩, List.forall_mem_cons.mpr ⟨⟨show (21 : Nat) < 100 from by decide, nf1⟩, (fun _ h => (by cases h))⟩⟩
def n_Ho_same_an : List an_T := []
def t_Ho_same_ct : ct_L := [(0, 115, e_Ho_isPlace), (1, 251, e_Ho_searchMap), (318, 255, e_acp_82)]
set_option maxRecDepth 100000 in
theorem c_Ho_same {l : Launch} {D : va_G} {kA : Nat → ClassId} (h_Ho_isPlace : ct_ok PRD l D kA GG y_Ho_isPlace z_Ho_isPlace e_Ho_isPlace) (h_Ho_searchMap : ct_ok PRD l D kA GG y_Ho_searchMap z_Ho_searchMap e_Ho_searchMap) : ct_ok PRD l D kA GG y_Ho_same z_Ho_same e_Ho_same := chk_all_ok (FT := [(13, 12, 0), (49, 12, 6), (132, 3, 0), (141, 3, 1)]) (PT := [(53, 12, 7, .int), (57, 12, 8, .int)]) (CT := t_Ho_same_ct) (KT := []) (NT := [(64, 295, .int)]) (AN := n_Ho_same_an) (OT := [o_Ho_same_0]) 0 292 (List.forall_mem_cons.mpr ⟨oo_Ho_same_0, List.forall_mem_nil _⟩) (by decide +kernel) ⟨List.forall_mem_cons.mpr ⟨gf_Ho_13, List.forall_mem_cons.mpr ⟨gf_Ho_49, List.forall_mem_cons.mpr ⟨gf_Ho_132, List.forall_mem_cons.mpr ⟨gf_Ho_141, List.forall_mem_nil _⟩⟩⟩⟩, List.forall_mem_cons.mpr ⟨pf_Ho_53, List.forall_mem_cons.mpr ⟨pf_Ho_57, List.forall_mem_nil _⟩⟩, List.forall_mem_cons.mpr ⟨cl_static (y := y_Ho_isPlace) h_Ho_isPlace wm_633 wm_1 wm_631 wm_632 ⟨by decide, by decide, by decide +kernel⟩ (by decide), List.forall_mem_cons.mpr ⟨cl_virtual (y := y_Ho_searchMap) (ci := 12) rfl rfl ⟨_, _, rfl⟩ (by decide +kernel) h_Ho_searchMap wm_1030 wm_1 wm_1027 wm_1029 wv_3_5 ⟨by decide, by decide, by decide +kernel⟩ (by decide), List.forall_mem_cons.mpr ⟨cl_copy rfl rfl (by decide) (by decide) (by decide) wm_1040 wm_750 wm_749 wm_15, List.forall_mem_nil _⟩⟩⟩, List.forall_mem_nil _, List.forall_mem_cons.mpr ⟨wm_193, List.forall_mem_nil _⟩, GG_pl⟩ (by decide +kernel)
def n_Dr_labelOf_an : List an_T := [(2, [(0, (2, 0, 0, [0])), (1, (0, 0, 47, [])), (2, (0, 0, 1, [])), (3, (0, 0, 48, []))], [], (0, 0), [(0, 0, 99998), (1, 3, 48), (0, 0, 100000)], [], [], [], 0, [], [])]
def t_Dr_labelOf_ct : ct_L := [(1, 124, e_Dr_putLabel)]
set_option maxRecDepth 100000 in
theorem c_Dr_labelOf {l : Launch} {D : va_G} {kA : Nat → ClassId} (h_Dr_putLabel : ct_ok PRD l D kA GG y_Dr_putLabel z_Dr_putLabel e_Dr_putLabel) : ct_ok PRD l D kA GG y_Dr_labelOf z_Dr_labelOf e_Dr_labelOf := chk_all_ok (FT := [(56, 0, 15), (59, 0, 16), (74, 0, 0), (121, 3, 9)]) (PT := []) (CT := t_Dr_labelOf_ct) (KT := [(0, 84, .int (Int32.ofInt (-2147483648)), (0, -2147483648, -2147483648, []))]) (NT := []) (AN := n_Dr_labelOf_an) (OT := []) 3 200 (List.forall_mem_nil _) (by decide +kernel) ⟨List.forall_mem_cons.mpr ⟨gf_Dr_56, List.forall_mem_cons.mpr ⟨gf_Dr_59, List.forall_mem_cons.mpr ⟨gf_Dr_74, List.forall_mem_cons.mpr ⟨gf_Dr_121, List.forall_mem_nil _⟩⟩⟩⟩, List.forall_mem_nil _, List.forall_mem_cons.mpr ⟨cl_virtual (y := y_Dr_putLabel) (ci := 0) rfl rfl ⟨_, _, rfl⟩ (by decide +kernel) h_Dr_putLabel wm_1982 wm_8 wm_1979 wm_1981 wv_9_9 ⟨by decide, by decide, by decide +kernel⟩ (by decide), List.forall_mem_nil _⟩, List.forall_mem_cons.mpr ⟨kx_Dr_0_84, List.forall_mem_nil _⟩, List.forall_mem_nil _, GG_pl⟩ (by decide +kernel)
def o_Pl_layRing_0 : or_T := (2, 6, [], [], [], [], [(24, [0, 0], [])], [], [])
theorem oo_Pl_layRing_0 {kA : Nat → ClassId} : or_ok PRD kA GG o_Pl_layRing_0 := by
  refine or_mk fun A ta ws vs hD hth hl => ?_
  have nf0 : fc_1 PRD (24, [0, 0], []) ws (vs) := by
    refine ⟨nf_in hl rfl, sgq_1 ?_⟩
    · show n_v vs 0 = n_v vs 0
      first | rfl | simp only [true_and]
  refine ⟨(fun _ h => (by cases h)), [], trivial, ?_, (fun _ h => (by cases h))⟩
  rw [List.append_nil]
  exact List.forall_mem_cons.mpr ⟨⟨show (24 : Nat) < 100 from by decide, nf0⟩, (fun _ h => (by cases h))⟩
set_option maxHeartbeats 4000000 in
theorem vc_Pl_layRing_1_0 (x9 : Int) (x12 : Int) (nodes_0o7 : Int) (k9 : 0 ≤ x9 ∧ x9 ≤ 24) (k12 : 0 ≤ x12 ∧ x12 ≤ 0) (g0 : x9 = nodes_0o7) (kz_7_0 : 0 ≤ nodes_0o7 ∧ nodes_0o7 ≤ 24) : x12 + x9 ≤ 24 := by
  first | assumption | omega | grind
set_option maxHeartbeats 4000000 in
theorem vc_Pl_layRing_1_1 (x9 : Int) (x14 : Int) (nodes_0o7 : Int) (k9 : 0 ≤ x9 ∧ x9 ≤ 24) (k14 : 0 ≤ x14 ∧ x14 ≤ 0) (g0 : x9 = nodes_0o7) (kz_7_0 : 0 ≤ nodes_0o7 ∧ nodes_0o7 ≤ 24) : x14 + x9 ≤ 24 := by
  first | assumption | omega | grind
def o_Pl_layRing_1 : or_T := (134, 15, [(7, (2, 0, 0, [3])), (9, (0, 0, 24, [])), (12, (0, 0, 0, [])), (14, (0, 0, 0, []))], [(9, [9, 7], [0])], [], [], [(21, [12, 9], [24]), (21, [14, 9], [24])], [], [])
theorem oo_Pl_layRing_1 {kA : Nat → ClassId} : or_ok PRD kA GG o_Pl_layRing_1 := by
  refine or_mk fun A ta ws vs hD hth hl => ?_
  intro t7 r7 t9 k9 t12 k12 t14 k14 f0
  replace f0 := shm_163 f0
  have g0 : v_iv (n_v vs 9) = w_fi ws (n_v vs 7) 0 := congrArg v_iv f0
  have kz_7_0 := fdq_21 hD hth r7
  have nf0 : fc_1 PRD (21, [12, 9], [24]) ws (vs) := ⟨nf_in hl rfl, sgq_140 (vc_Pl_layRing_1_0 (v_iv (n_v vs 9)) (v_iv (n_v vs 12)) (w_fi ws (n_v vs 7) 0) k9 k12 g0 kz_7_0)⟩
  have nf1 : fc_1 PRD (21, [14, 9], [24]) ws (vs) := ⟨nf_in hl rfl, sgq_140 (vc_Pl_layRing_1_1 (v_iv (n_v vs 9)) (v_iv (n_v vs 14)) (w_fi ws (n_v vs 7) 0) k9 k14 g0 kz_7_0)⟩
  refine ⟨(fun _ h => (by cases h)), [], trivial, ?_, (fun _ h => (by cases h))⟩
  rw [List.append_nil]
  exact List.forall_mem_cons.mpr ⟨⟨show (21 : Nat) < 100 from by decide, nf0⟩, List.forall_mem_cons.mpr ⟨⟨show (21 : Nat) < 100 from by decide, nf1⟩, (fun _ h => (by cases h))⟩⟩
def o_Pl_layRing_2 : or_T := (241, 32, [(3, (2, 0, 0, [12])), (4, (0, 0, 3072, [])), (14, (0, 0, 23, [])), (23, (2, 0, 0, [15])), (24, (0, 0, 0, [])), (30, (0, -736, 192, [])), (31, (0, 0, 192, []))], [(100, [23, 14, 31], []), (23, [24, 31], [0, 1, -1]), (23, [30, 31], [0, 1, -1]), (20, [3, 4], [62, 2000000])], [], [], [(20, [3, 4], [62, 2000000])], [], [])
theorem oo_Pl_layRing_2 {kA : Nat → ClassId} : or_ok PRD kA GG o_Pl_layRing_2 := by
  refine or_mk fun A ta ws vs hD hth hl => ?_
  intro t3 r3 t4 k4 t14 k14 t23 r23 t24 k24 t30 k30 t31 k31 ta1 w1 le1 s1 f1 f2 f3
  have s1 : (∀ b j, w_el ws b j = if b = v_ad (n_v vs 23) ∧ j = (v_iv (n_v vs 14)).toNat then v_iv (n_v vs 31) else w_el w1 b j) ∧ ∀ b k, w_fd ws b k = w_fd w1 b k := s1.2
  replace f1 := shm_7 f1
  replace f2 := shm_7 f2
  replace f3 := shm_161 f3
  have nf0 : fc_1 PRD (20, [3, 4], [62, 2000000]) ws (vs) := by
    refine ⟨nf_in hl rfl, sgq_161 ?_⟩
    · show HY ws (n_v vs 3) (v_iv (n_v vs 4) + (((2000000 : Nat) : Int) - 2000000))
      have hn := hy_ne (k := 3) (g := GG_12) hD hth r3 rfl (by decide) rfl rfl r23 (by decide) s1.2
      have hn0 := hy_ne (k := 0) (g := GG_12) hD hth r3 rfl (by decide) rfl rfl r23 (by decide) s1.2
      exact hy_st (hy_le f3 (by omega)) s1 hn hn0 (by omega) (by omega)
  refine ⟨(fun _ h => (by cases h)), [], trivial, ?_, (fun _ h => (by cases h))⟩
  rw [List.append_nil]
  exact List.forall_mem_cons.mpr ⟨⟨show (20 : Nat) < 100 from by decide, nf0⟩, (fun _ h => (by cases h))⟩
def t_Pl_layRing_ct : ct_L := [(1, 217, e_Pl_moveOnRing), (1, 220, e_Pl_ringCrossings), (169, 213, e_Pl_tryRing_at_k1), (405, 175, e_acp_68), (405, 175, e_acp_69), (405, 175, e_acp_70), (405, 175, e_acp_71), (405, 175, e_acp_74), (405, 175, e_acp_75), (405, 175, e_acp_83), (405, 175, e_acp_84), (405, 175, e_acp_85), (405, 175, e_acp_86), (594, 130, e_jMath_min1_v190), (594, 130, e_jMath_min1_v192), (594, 130, e_jMath_min1_v197), (594, 130, e_jMath_min1_v202), (594, 130, e_jMath_min1_v207), (594, 130, e_jMath_min1_v212), (594, 130, e_jMath_min1_v217), (594, 130, e_jMath_min1_v222), (594, 130, e_jMath_min1_v227), (594, 130, e_jMath_min1_v232), (594, 130, e_jMath_min1_v237), (594, 130, e_jMath_min1_v242), (594, 130, e_jMath_min1_v252), (594, 130, e_jMath_min1_v247), (618, 130, e_jMath_min1_v190), (618, 130, e_jMath_min1_v193), (618, 130, e_jMath_min1_v198), (618, 130, e_jMath_min1_v203), (618, 130, e_jMath_min1_v208), (618, 130, e_jMath_min1_v213), (618, 130, e_jMath_min1_v218), (618, 130, e_jMath_min1_v223), (618, 130, e_jMath_min1_v228), (618, 130, e_jMath_min1_v233), (618, 130, e_jMath_min1_v238), (618, 130, e_jMath_min1_v243), (618, 130, e_jMath_min1_v253), (618, 130, e_jMath_min1_v248), (627, 150, e_jMath_max1_v191), (627, 150, e_jMath_max1_v194), (627, 150, e_jMath_max1_v199), (627, 150, e_jMath_max1_v204), (627, 150, e_jMath_max1_v209), (627, 150, e_jMath_max1_v214), (627, 150, e_jMath_max1_v219), (627, 150, e_jMath_max1_v224), (627, 150, e_jMath_max1_v229), (627, 150, e_jMath_max1_v234), (627, 150, e_jMath_max1_v239), (627, 150, e_jMath_max1_v244), (627, 150, e_jMath_max1_v254), (627, 150, e_jMath_max1_v249), (681, 130, e_jMath_min1_v190), (681, 130, e_jMath_min1_v195), (681, 130, e_jMath_min1_v200), (681, 130, e_jMath_min1_v205), (681, 130, e_jMath_min1_v210), (681, 130, e_jMath_min1_v215), (681, 130, e_jMath_min1_v220), (681, 130, e_jMath_min1_v225), (681, 130, e_jMath_min1_v230), (681, 130, e_jMath_min1_v235), (681, 130, e_jMath_min1_v240), (681, 130, e_jMath_min1_v245), (681, 130, e_jMath_min1_v255), (681, 130, e_jMath_min1_v250), (705, 130, e_jMath_min1_v190), (705, 130, e_jMath_min1_v196), (705, 130, e_jMath_min1_v201), (705, 130, e_jMath_min1_v206), (705, 130, e_jMath_min1_v211), (705, 130, e_jMath_min1_v216), (705, 130, e_jMath_min1_v221), (705, 130, e_jMath_min1_v226), (705, 130, e_jMath_min1_v231), (705, 130, e_jMath_min1_v236), (705, 130, e_jMath_min1_v241), (705, 130, e_jMath_min1_v246), (705, 130, e_jMath_min1_v256), (705, 130, e_jMath_min1_v251), (714, 150, e_jMath_max1_v191), (714, 150, e_jMath_max1_v194), (714, 150, e_jMath_max1_v199), (714, 150, e_jMath_max1_v204), (714, 150, e_jMath_max1_v209), (714, 150, e_jMath_max1_v214), (714, 150, e_jMath_max1_v219), (714, 150, e_jMath_max1_v224), (714, 150, e_jMath_max1_v229), (714, 150, e_jMath_max1_v234), (714, 150, e_jMath_max1_v239), (714, 150, e_jMath_max1_v244), (714, 150, e_jMath_max1_v254), (714, 150, e_jMath_max1_v249)]
def n_Pl_layRing_a0 : an_T := (2, [(0, (2, 0, 0, [6])), (1, (0, 0, 24, []))], [], (0, 0), [(0, 0, 99998), (1, 6, 24), (0, 0, 100000)], [], [((0, 0), (2, 0, 0, [3])), ((0, 1), (2, 0, 0, [0]))], [(2, 0, 0, [6]), (2, 0, 0, [3]), (2, 0, 0, [0]), (2, 0, 0, [12]), (0, 0, 3072, [])], 0, [], [(20, [3, 4], [62, 2000000]), (24, [0, 5], [])])
def n_Pl_layRing_a1 : an_T := (63, [(0, (2, 0, 0, [6])), (1, (0, 1, 24, []))], [], (0, 0), [(0, 0, 99937), (1, 6, 24), (0, 0, 100000)], [], [((0, 0), (2, 0, 0, [3])), ((0, 1), (2, 0, 0, [0]))], [(2, 0, 0, [6]), (2, 0, 0, [3]), (2, 0, 0, [0]), (2, 0, 0, [12]), (0, 0, 3072, [])], 0, [], [(20, [3, 4], [62, 2000000]), (24, [0, 5], [])])
def n_Pl_layRing_a2 : an_T := (87, [(0, (2, 0, 0, [6])), (1, (0, 1, 24, []))], [], (0, 0), [(0, 0, 99913), (1, 6, 24), (0, 0, 100000)], [], [((0, 0), (2, 0, 0, [3])), ((0, 1), (2, 0, 0, [0]))], [(2, 0, 0, [6]), (2, 0, 0, [3]), (2, 0, 0, [0]), (2, 0, 0, [12]), (0, 0, 3072, [])], 0, [], [(20, [3, 4], [62, 2000000]), (24, [0, 5], [])])
def n_Pl_layRing_a3 : an_T := (161, [(0, (2, 0, 0, [6])), (1, (0, 0, 192, [])), (2, (0, 0, 24, []))], [], (0, 0), [(0, 0, 99839), (1, 7, 24), (0, 0, 100000)], [], [((0, 0), (2, 0, 0, [3])), ((0, 1), (2, 0, 0, [0]))], [(2, 0, 0, [6]), (2, 0, 0, [3]), (2, 0, 0, [0]), (2, 0, 0, [12]), (0, 0, 3072, [])], 0, [], [(20, [3, 4], [62, 2000000]), (24, [0, 5], [])])
def n_Pl_layRing_an : List an_T := [n_Pl_layRing_a0, n_Pl_layRing_a1, n_Pl_layRing_a2, n_Pl_layRing_a3]
def x_Pl_layRing_ft : ft_L := [(9, 6, 0), (15, 6, 1), (19, 6, 2), (23, 6, 3), (38, 6, 8), (74, 3, 0), (127, 0, 2), (135, 0, 3)]
def x_Pl_layRing_pt : pt_L := [(38, 6, 8, .int), (224, 0, 7, .int)]
def x_Pl_layRing_kt : kt_L := [(0, 212, .int (1000000000), (0, 1000000000, 1000000000, []))]
def x_Pl_layRing_nt : nt_L := []
def x_Pl_layRing_ot : List or_T := [o_Pl_layRing_0, o_Pl_layRing_1, o_Pl_layRing_2]
set_option maxRecDepth 100000 in
theorem g_Pl_layRing_0 : chk_an b_Pl_layRing 5 none e_Pl_layRing GG x_Pl_layRing_ft x_Pl_layRing_pt t_Pl_layRing_ct x_Pl_layRing_kt x_Pl_layRing_nt n_Pl_layRing_an x_Pl_layRing_ot 3 592 n_Pl_layRing_a0 = true := by decide +kernel
set_option maxRecDepth 100000 in
theorem g_Pl_layRing_1 : chk_an b_Pl_layRing 5 none e_Pl_layRing GG x_Pl_layRing_ft x_Pl_layRing_pt t_Pl_layRing_ct x_Pl_layRing_kt x_Pl_layRing_nt n_Pl_layRing_an x_Pl_layRing_ot 3 592 n_Pl_layRing_a1 = true := by decide +kernel
set_option maxRecDepth 100000 in
theorem g_Pl_layRing_2 : chk_an b_Pl_layRing 5 none e_Pl_layRing GG x_Pl_layRing_ft x_Pl_layRing_pt t_Pl_layRing_ct x_Pl_layRing_kt x_Pl_layRing_nt n_Pl_layRing_an x_Pl_layRing_ot 3 592 n_Pl_layRing_a2 = true := by decide +kernel
set_option maxRecDepth 100000 in
theorem g_Pl_layRing_3 : chk_an b_Pl_layRing 5 none e_Pl_layRing GG x_Pl_layRing_ft x_Pl_layRing_pt t_Pl_layRing_ct x_Pl_layRing_kt x_Pl_layRing_nt n_Pl_layRing_an x_Pl_layRing_ot 3 592 n_Pl_layRing_a3 = true := by decide +kernel
set_option maxRecDepth 100000 in
theorem g_Pl_layRing_s : chk b_Pl_layRing 5 none e_Pl_layRing GG x_Pl_layRing_ft x_Pl_layRing_pt t_Pl_layRing_ct x_Pl_layRing_kt x_Pl_layRing_nt n_Pl_layRing_an x_Pl_layRing_ot 100000 (List.replicate 3 me_0) 592 true (0, en_y e_Pl_layRing, 0, 0, an_fs x_Pl_layRing_ot e_Pl_layRing.2.2.2.2.2.2.2.2.2.2.1) = true := by decide +kernel
set_option maxRecDepth 100000 in
theorem c_Pl_layRing {l : Launch} {D : va_G} {kA : Nat → ClassId} (h_Pl_moveOnRing : ct_ok PRD l D kA GG y_Pl_moveOnRing z_Pl_moveOnRing e_Pl_moveOnRing) (h_Pl_ringCrossings : ct_ok PRD l D kA GG y_Pl_ringCrossings z_Pl_ringCrossings e_Pl_ringCrossings) (h_Pl_tryRing_at_k1 : ct_ok PRD l D kA GG y_Pl_tryRing_at_k1 z_Pl_tryRing_at_k1 e_Pl_tryRing_at_k1) : ct_ok PRD l D kA GG y_Pl_layRing z_Pl_layRing e_Pl_layRing := chk_all_ok (FT := [(9, 6, 0), (15, 6, 1), (19, 6, 2), (23, 6, 3), (38, 6, 8), (74, 3, 0), (127, 0, 2), (135, 0, 3)]) (PT := [(38, 6, 8, .int), (224, 0, 7, .int)]) (CT := t_Pl_layRing_ct) (KT := [(0, 212, .int (1000000000), (0, 1000000000, 1000000000, []))]) (NT := []) (AN := n_Pl_layRing_an) (OT := [o_Pl_layRing_0, o_Pl_layRing_1, o_Pl_layRing_2]) 3 592 (List.forall_mem_cons.mpr ⟨oo_Pl_layRing_0, List.forall_mem_cons.mpr ⟨oo_Pl_layRing_1, List.forall_mem_cons.mpr ⟨oo_Pl_layRing_2, List.forall_mem_nil _⟩⟩⟩) (by decide +kernel) ⟨List.forall_mem_cons.mpr ⟨gf_Pl_9, List.forall_mem_cons.mpr ⟨gf_Pl_15, List.forall_mem_cons.mpr ⟨gf_Pl_19, List.forall_mem_cons.mpr ⟨gf_Pl_23, List.forall_mem_cons.mpr ⟨gf_Pl_38, List.forall_mem_cons.mpr ⟨gf_Pl_74, List.forall_mem_cons.mpr ⟨gf_Pl_127, List.forall_mem_cons.mpr ⟨gf_Pl_135, List.forall_mem_nil _⟩⟩⟩⟩⟩⟩⟩⟩, List.forall_mem_cons.mpr ⟨pf_Pl_38, List.forall_mem_cons.mpr ⟨pf_Pl_224, List.forall_mem_nil _⟩⟩, List.forall_mem_cons.mpr ⟨cl_virtual (y := y_Pl_moveOnRing) (ci := 6) rfl rfl ⟨_, _, rfl⟩ (by decide +kernel) h_Pl_moveOnRing wm_1775 wm_21 wm_1772 wm_1774 wv_8_7 ⟨by decide, by decide, by decide +kernel⟩ (by decide), List.forall_mem_cons.mpr ⟨cl_virtual (y := y_Pl_ringCrossings) (ci := 6) rfl rfl ⟨_, _, rfl⟩ (by decide +kernel) h_Pl_ringCrossings wm_1779 wm_21 wm_1776 wm_1778 wv_8_8 ⟨by decide, by decide, by decide +kernel⟩ (by decide), List.forall_mem_cons.mpr ⟨cl_virtual (y := y_Pl_tryRing_at_k1) (ci := 6) rfl rfl ⟨_, _, rfl⟩ (by decide +kernel) h_Pl_tryRing_at_k1 wm_1766 wm_21 wm_1763 wm_1765 wv_8_5 ⟨by decide, by decide, by decide +kernel⟩ (by decide), List.forall_mem_cons.mpr ⟨cl_copy rfl rfl (by decide) (by decide) (by decide) wm_1735 wm_750 wm_749 wm_15, List.forall_mem_cons.mpr ⟨cl_copy rfl rfl (by decide) (by decide) (by decide) wm_1735 wm_750 wm_749 wm_15, List.forall_mem_cons.mpr ⟨cl_copy rfl rfl (by decide) (by decide) (by decide) wm_1735 wm_750 wm_749 wm_15, List.forall_mem_cons.mpr ⟨cl_copy rfl rfl (by decide) (by decide) (by decide) wm_1735 wm_750 wm_749 wm_15, List.forall_mem_cons.mpr ⟨cl_copy rfl rfl (by decide) (by decide) (by decide) wm_1735 wm_750 wm_749 wm_15, List.forall_mem_cons.mpr ⟨cl_copy rfl rfl (by decide) (by decide) (by decide) wm_1735 wm_750 wm_749 wm_15, List.forall_mem_cons.mpr ⟨cl_copy rfl rfl (by decide) (by decide) (by decide) wm_1735 wm_750 wm_749 wm_15, List.forall_mem_cons.mpr ⟨cl_copy rfl rfl (by decide) (by decide) (by decide) wm_1735 wm_750 wm_749 wm_15, List.forall_mem_cons.mpr ⟨cl_copy rfl rfl (by decide) (by decide) (by decide) wm_1735 wm_750 wm_749 wm_15, List.forall_mem_cons.mpr ⟨cl_copy rfl rfl (by decide) (by decide) (by decide) wm_1735 wm_750 wm_749 wm_15, List.forall_mem_cons.mpr ⟨cl_static (y := y_jMath_min1) c_jMath_min1_v190 wm_658 wm_10 wm_1716 wm_657 ⟨by decide, by decide, by decide +kernel⟩ (by decide), List.forall_mem_cons.mpr ⟨cl_static (y := y_jMath_min1) c_jMath_min1_v192 wm_658 wm_10 wm_1716 wm_657 ⟨by decide, by decide, by decide +kernel⟩ (by decide), List.forall_mem_cons.mpr ⟨cl_static (y := y_jMath_min1) c_jMath_min1_v197 wm_658 wm_10 wm_1716 wm_657 ⟨by decide, by decide, by decide +kernel⟩ (by decide), List.forall_mem_cons.mpr ⟨cl_static (y := y_jMath_min1) c_jMath_min1_v202 wm_658 wm_10 wm_1716 wm_657 ⟨by decide, by decide, by decide +kernel⟩ (by decide), List.forall_mem_cons.mpr ⟨cl_static (y := y_jMath_min1) c_jMath_min1_v207 wm_658 wm_10 wm_1716 wm_657 ⟨by decide, by decide, by decide +kernel⟩ (by decide), List.forall_mem_cons.mpr ⟨cl_static (y := y_jMath_min1) c_jMath_min1_v212 wm_658 wm_10 wm_1716 wm_657 ⟨by decide, by decide, by decide +kernel⟩ (by decide), List.forall_mem_cons.mpr ⟨cl_static (y := y_jMath_min1) c_jMath_min1_v217 wm_658 wm_10 wm_1716 wm_657 ⟨by decide, by decide, by decide +kernel⟩ (by decide), List.forall_mem_cons.mpr ⟨cl_static (y := y_jMath_min1) c_jMath_min1_v222 wm_658 wm_10 wm_1716 wm_657 ⟨by decide, by decide, by decide +kernel⟩ (by decide), List.forall_mem_cons.mpr ⟨cl_static (y := y_jMath_min1) c_jMath_min1_v227 wm_658 wm_10 wm_1716 wm_657 ⟨by decide, by decide, by decide +kernel⟩ (by decide), List.forall_mem_cons.mpr ⟨cl_static (y := y_jMath_min1) c_jMath_min1_v232 wm_658 wm_10 wm_1716 wm_657 ⟨by decide, by decide, by decide +kernel⟩ (by decide), List.forall_mem_cons.mpr ⟨cl_static (y := y_jMath_min1) c_jMath_min1_v237 wm_658 wm_10 wm_1716 wm_657 ⟨by decide, by decide, by decide +kernel⟩ (by decide), List.forall_mem_cons.mpr ⟨cl_static (y := y_jMath_min1) c_jMath_min1_v242 wm_658 wm_10 wm_1716 wm_657 ⟨by decide, by decide, by decide +kernel⟩ (by decide), List.forall_mem_cons.mpr ⟨cl_static (y := y_jMath_min1) c_jMath_min1_v252 wm_658 wm_10 wm_1716 wm_657 ⟨by decide, by decide, by decide +kernel⟩ (by decide), List.forall_mem_cons.mpr ⟨cl_static (y := y_jMath_min1) c_jMath_min1_v247 wm_658 wm_10 wm_1716 wm_657 ⟨by decide, by decide, by decide +kernel⟩ (by decide), List.forall_mem_cons.mpr ⟨cl_static (y := y_jMath_min1) c_jMath_min1_v190 wm_658 wm_10 wm_1716 wm_657 ⟨by decide, by decide, by decide +kernel⟩ (by decide), List.forall_mem_cons.mpr ⟨cl_static (y := y_jMath_min1) c_jMath_min1_v193 wm_658 wm_10 wm_1716 wm_657 ⟨by decide, by decide, by decide +kernel⟩ (by decide), List.forall_mem_cons.mpr ⟨cl_static (y := y_jMath_min1) c_jMath_min1_v198 wm_658 wm_10 wm_1716 wm_657 ⟨by decide, by decide, by decide +kernel⟩ (by decide), List.forall_mem_cons.mpr ⟨cl_static (y := y_jMath_min1) c_jMath_min1_v203 wm_658 wm_10 wm_1716 wm_657 ⟨by decide, by decide, by decide +kernel⟩ (by decide), List.forall_mem_cons.mpr ⟨cl_static (y := y_jMath_min1) c_jMath_min1_v208 wm_658 wm_10 wm_1716 wm_657 ⟨by decide, by decide, by decide +kernel⟩ (by decide), List.forall_mem_cons.mpr ⟨cl_static (y := y_jMath_min1) c_jMath_min1_v213 wm_658 wm_10 wm_1716 wm_657 ⟨by decide, by decide, by decide +kernel⟩ (by decide), List.forall_mem_cons.mpr ⟨cl_static (y := y_jMath_min1) c_jMath_min1_v218 wm_658 wm_10 wm_1716 wm_657 ⟨by decide, by decide, by decide +kernel⟩ (by decide), List.forall_mem_cons.mpr ⟨cl_static (y := y_jMath_min1) c_jMath_min1_v223 wm_658 wm_10 wm_1716 wm_657 ⟨by decide, by decide, by decide +kernel⟩ (by decide), List.forall_mem_cons.mpr ⟨cl_static (y := y_jMath_min1) c_jMath_min1_v228 wm_658 wm_10 wm_1716 wm_657 ⟨by decide, by decide, by decide +kernel⟩ (by decide), List.forall_mem_cons.mpr ⟨cl_static (y := y_jMath_min1) c_jMath_min1_v233 wm_658 wm_10 wm_1716 wm_657 ⟨by decide, by decide, by decide +kernel⟩ (by decide), List.forall_mem_cons.mpr ⟨cl_static (y := y_jMath_min1) c_jMath_min1_v238 wm_658 wm_10 wm_1716 wm_657 ⟨by decide, by decide, by decide +kernel⟩ (by decide), List.forall_mem_cons.mpr ⟨cl_static (y := y_jMath_min1) c_jMath_min1_v243 wm_658 wm_10 wm_1716 wm_657 ⟨by decide, by decide, by decide +kernel⟩ (by decide), List.forall_mem_cons.mpr ⟨cl_static (y := y_jMath_min1) c_jMath_min1_v253 wm_658 wm_10 wm_1716 wm_657 ⟨by decide, by decide, by decide +kernel⟩ (by decide), List.forall_mem_cons.mpr ⟨cl_static (y := y_jMath_min1) c_jMath_min1_v248 wm_658 wm_10 wm_1716 wm_657 ⟨by decide, by decide, by decide +kernel⟩ (by decide), List.forall_mem_cons.mpr ⟨cl_static (y := y_jMath_max1) c_jMath_max1_v191 wm_836 wm_10 wm_1714 wm_835 ⟨by decide, by decide, by decide +kernel⟩ (by decide), List.forall_mem_cons.mpr ⟨cl_static (y := y_jMath_max1) c_jMath_max1_v194 wm_836 wm_10 wm_1714 wm_835 ⟨by decide, by decide, by decide +kernel⟩ (by decide), List.forall_mem_cons.mpr ⟨cl_static (y := y_jMath_max1) c_jMath_max1_v199 wm_836 wm_10 wm_1714 wm_835 ⟨by decide, by decide, by decide +kernel⟩ (by decide), List.forall_mem_cons.mpr ⟨cl_static (y := y_jMath_max1) c_jMath_max1_v204 wm_836 wm_10 wm_1714 wm_835 ⟨by decide, by decide, by decide +kernel⟩ (by decide), List.forall_mem_cons.mpr ⟨cl_static (y := y_jMath_max1) c_jMath_max1_v209 wm_836 wm_10 wm_1714 wm_835 ⟨by decide, by decide, by decide +kernel⟩ (by decide), List.forall_mem_cons.mpr ⟨cl_static (y := y_jMath_max1) c_jMath_max1_v214 wm_836 wm_10 wm_1714 wm_835 ⟨by decide, by decide, by decide +kernel⟩ (by decide), List.forall_mem_cons.mpr ⟨cl_static (y := y_jMath_max1) c_jMath_max1_v219 wm_836 wm_10 wm_1714 wm_835 ⟨by decide, by decide, by decide +kernel⟩ (by decide), List.forall_mem_cons.mpr ⟨cl_static (y := y_jMath_max1) c_jMath_max1_v224 wm_836 wm_10 wm_1714 wm_835 ⟨by decide, by decide, by decide +kernel⟩ (by decide), List.forall_mem_cons.mpr ⟨cl_static (y := y_jMath_max1) c_jMath_max1_v229 wm_836 wm_10 wm_1714 wm_835 ⟨by decide, by decide, by decide +kernel⟩ (by decide), List.forall_mem_cons.mpr ⟨cl_static (y := y_jMath_max1) c_jMath_max1_v234 wm_836 wm_10 wm_1714 wm_835 ⟨by decide, by decide, by decide +kernel⟩ (by decide), List.forall_mem_cons.mpr ⟨cl_static (y := y_jMath_max1) c_jMath_max1_v239 wm_836 wm_10 wm_1714 wm_835 ⟨by decide, by decide, by decide +kernel⟩ (by decide), List.forall_mem_cons.mpr ⟨cl_static (y := y_jMath_max1) c_jMath_max1_v244 wm_836 wm_10 wm_1714 wm_835 ⟨by decide, by decide, by decide +kernel⟩ (by decide), List.forall_mem_cons.mpr ⟨cl_static (y := y_jMath_max1) c_jMath_max1_v254 wm_836 wm_10 wm_1714 wm_835 ⟨by decide, by decide, by decide +kernel⟩ (by decide), List.forall_mem_cons.mpr ⟨cl_static (y := y_jMath_max1) c_jMath_max1_v249 wm_836 wm_10 wm_1714 wm_835 ⟨by decide, by decide, by decide +kernel⟩ (by decide), List.forall_mem_cons.mpr ⟨cl_static (y := y_jMath_min1) c_jMath_min1_v190 wm_658 wm_10 wm_1716 wm_657 ⟨by decide, by decide, by decide +kernel⟩ (by decide), List.forall_mem_cons.mpr ⟨cl_static (y := y_jMath_min1) c_jMath_min1_v195 wm_658 wm_10 wm_1716 wm_657 ⟨by decide, by decide, by decide +kernel⟩ (by decide), List.forall_mem_cons.mpr ⟨cl_static (y := y_jMath_min1) c_jMath_min1_v200 wm_658 wm_10 wm_1716 wm_657 ⟨by decide, by decide, by decide +kernel⟩ (by decide), List.forall_mem_cons.mpr ⟨cl_static (y := y_jMath_min1) c_jMath_min1_v205 wm_658 wm_10 wm_1716 wm_657 ⟨by decide, by decide, by decide +kernel⟩ (by decide), List.forall_mem_cons.mpr ⟨cl_static (y := y_jMath_min1) c_jMath_min1_v210 wm_658 wm_10 wm_1716 wm_657 ⟨by decide, by decide, by decide +kernel⟩ (by decide), List.forall_mem_cons.mpr ⟨cl_static (y := y_jMath_min1) c_jMath_min1_v215 wm_658 wm_10 wm_1716 wm_657 ⟨by decide, by decide, by decide +kernel⟩ (by decide), List.forall_mem_cons.mpr ⟨cl_static (y := y_jMath_min1) c_jMath_min1_v220 wm_658 wm_10 wm_1716 wm_657 ⟨by decide, by decide, by decide +kernel⟩ (by decide), List.forall_mem_cons.mpr ⟨cl_static (y := y_jMath_min1) c_jMath_min1_v225 wm_658 wm_10 wm_1716 wm_657 ⟨by decide, by decide, by decide +kernel⟩ (by decide), List.forall_mem_cons.mpr ⟨cl_static (y := y_jMath_min1) c_jMath_min1_v230 wm_658 wm_10 wm_1716 wm_657 ⟨by decide, by decide, by decide +kernel⟩ (by decide), List.forall_mem_cons.mpr ⟨cl_static (y := y_jMath_min1) c_jMath_min1_v235 wm_658 wm_10 wm_1716 wm_657 ⟨by decide, by decide, by decide +kernel⟩ (by decide), List.forall_mem_cons.mpr ⟨cl_static (y := y_jMath_min1) c_jMath_min1_v240 wm_658 wm_10 wm_1716 wm_657 ⟨by decide, by decide, by decide +kernel⟩ (by decide), List.forall_mem_cons.mpr ⟨cl_static (y := y_jMath_min1) c_jMath_min1_v245 wm_658 wm_10 wm_1716 wm_657 ⟨by decide, by decide, by decide +kernel⟩ (by decide), List.forall_mem_cons.mpr ⟨cl_static (y := y_jMath_min1) c_jMath_min1_v255 wm_658 wm_10 wm_1716 wm_657 ⟨by decide, by decide, by decide +kernel⟩ (by decide), List.forall_mem_cons.mpr ⟨cl_static (y := y_jMath_min1) c_jMath_min1_v250 wm_658 wm_10 wm_1716 wm_657 ⟨by decide, by decide, by decide +kernel⟩ (by decide), List.forall_mem_cons.mpr ⟨cl_static (y := y_jMath_min1) c_jMath_min1_v190 wm_658 wm_10 wm_1716 wm_657 ⟨by decide, by decide, by decide +kernel⟩ (by decide), List.forall_mem_cons.mpr ⟨cl_static (y := y_jMath_min1) c_jMath_min1_v196 wm_658 wm_10 wm_1716 wm_657 ⟨by decide, by decide, by decide +kernel⟩ (by decide), List.forall_mem_cons.mpr ⟨cl_static (y := y_jMath_min1) c_jMath_min1_v201 wm_658 wm_10 wm_1716 wm_657 ⟨by decide, by decide, by decide +kernel⟩ (by decide), List.forall_mem_cons.mpr ⟨cl_static (y := y_jMath_min1) c_jMath_min1_v206 wm_658 wm_10 wm_1716 wm_657 ⟨by decide, by decide, by decide +kernel⟩ (by decide), List.forall_mem_cons.mpr ⟨cl_static (y := y_jMath_min1) c_jMath_min1_v211 wm_658 wm_10 wm_1716 wm_657 ⟨by decide, by decide, by decide +kernel⟩ (by decide), List.forall_mem_cons.mpr ⟨cl_static (y := y_jMath_min1) c_jMath_min1_v216 wm_658 wm_10 wm_1716 wm_657 ⟨by decide, by decide, by decide +kernel⟩ (by decide), List.forall_mem_cons.mpr ⟨cl_static (y := y_jMath_min1) c_jMath_min1_v221 wm_658 wm_10 wm_1716 wm_657 ⟨by decide, by decide, by decide +kernel⟩ (by decide), List.forall_mem_cons.mpr ⟨cl_static (y := y_jMath_min1) c_jMath_min1_v226 wm_658 wm_10 wm_1716 wm_657 ⟨by decide, by decide, by decide +kernel⟩ (by decide), List.forall_mem_cons.mpr ⟨cl_static (y := y_jMath_min1) c_jMath_min1_v231 wm_658 wm_10 wm_1716 wm_657 ⟨by decide, by decide, by decide +kernel⟩ (by decide), List.forall_mem_cons.mpr ⟨cl_static (y := y_jMath_min1) c_jMath_min1_v236 wm_658 wm_10 wm_1716 wm_657 ⟨by decide, by decide, by decide +kernel⟩ (by decide), List.forall_mem_cons.mpr ⟨cl_static (y := y_jMath_min1) c_jMath_min1_v241 wm_658 wm_10 wm_1716 wm_657 ⟨by decide, by decide, by decide +kernel⟩ (by decide), List.forall_mem_cons.mpr ⟨cl_static (y := y_jMath_min1) c_jMath_min1_v246 wm_658 wm_10 wm_1716 wm_657 ⟨by decide, by decide, by decide +kernel⟩ (by decide), List.forall_mem_cons.mpr ⟨cl_static (y := y_jMath_min1) c_jMath_min1_v256 wm_658 wm_10 wm_1716 wm_657 ⟨by decide, by decide, by decide +kernel⟩ (by decide), List.forall_mem_cons.mpr ⟨cl_static (y := y_jMath_min1) c_jMath_min1_v251 wm_658 wm_10 wm_1716 wm_657 ⟨by decide, by decide, by decide +kernel⟩ (by decide), List.forall_mem_cons.mpr ⟨cl_static (y := y_jMath_max1) c_jMath_max1_v191 wm_836 wm_10 wm_1714 wm_835 ⟨by decide, by decide, by decide +kernel⟩ (by decide), List.forall_mem_cons.mpr ⟨cl_static (y := y_jMath_max1) c_jMath_max1_v194 wm_836 wm_10 wm_1714 wm_835 ⟨by decide, by decide, by decide +kernel⟩ (by decide), List.forall_mem_cons.mpr ⟨cl_static (y := y_jMath_max1) c_jMath_max1_v199 wm_836 wm_10 wm_1714 wm_835 ⟨by decide, by decide, by decide +kernel⟩ (by decide), List.forall_mem_cons.mpr ⟨cl_static (y := y_jMath_max1) c_jMath_max1_v204 wm_836 wm_10 wm_1714 wm_835 ⟨by decide, by decide, by decide +kernel⟩ (by decide), List.forall_mem_cons.mpr ⟨cl_static (y := y_jMath_max1) c_jMath_max1_v209 wm_836 wm_10 wm_1714 wm_835 ⟨by decide, by decide, by decide +kernel⟩ (by decide), List.forall_mem_cons.mpr ⟨cl_static (y := y_jMath_max1) c_jMath_max1_v214 wm_836 wm_10 wm_1714 wm_835 ⟨by decide, by decide, by decide +kernel⟩ (by decide), List.forall_mem_cons.mpr ⟨cl_static (y := y_jMath_max1) c_jMath_max1_v219 wm_836 wm_10 wm_1714 wm_835 ⟨by decide, by decide, by decide +kernel⟩ (by decide), List.forall_mem_cons.mpr ⟨cl_static (y := y_jMath_max1) c_jMath_max1_v224 wm_836 wm_10 wm_1714 wm_835 ⟨by decide, by decide, by decide +kernel⟩ (by decide), List.forall_mem_cons.mpr ⟨cl_static (y := y_jMath_max1) c_jMath_max1_v229 wm_836 wm_10 wm_1714 wm_835 ⟨by decide, by decide, by decide +kernel⟩ (by decide), List.forall_mem_cons.mpr ⟨cl_static (y := y_jMath_max1) c_jMath_max1_v234 wm_836 wm_10 wm_1714 wm_835 ⟨by decide, by decide, by decide +kernel⟩ (by decide), List.forall_mem_cons.mpr ⟨cl_static (y := y_jMath_max1) c_jMath_max1_v239 wm_836 wm_10 wm_1714 wm_835 ⟨by decide, by decide, by decide +kernel⟩ (by decide), List.forall_mem_cons.mpr ⟨cl_static (y := y_jMath_max1) c_jMath_max1_v244 wm_836 wm_10 wm_1714 wm_835 ⟨by decide, by decide, by decide +kernel⟩ (by decide), List.forall_mem_cons.mpr ⟨cl_static (y := y_jMath_max1) c_jMath_max1_v254 wm_836 wm_10 wm_1714 wm_835 ⟨by decide, by decide, by decide +kernel⟩ (by decide), List.forall_mem_cons.mpr ⟨cl_static (y := y_jMath_max1) c_jMath_max1_v249 wm_836 wm_10 wm_1714 wm_835 ⟨by decide, by decide, by decide +kernel⟩ (by decide), List.forall_mem_nil _⟩⟩⟩⟩⟩⟩⟩⟩⟩⟩⟩⟩⟩⟩⟩⟩⟩⟩⟩⟩⟩⟩⟩⟩⟩⟩⟩⟩⟩⟩⟩⟩⟩⟩⟩⟩⟩⟩⟩⟩⟩⟩⟩⟩⟩⟩⟩⟩⟩⟩⟩⟩⟩⟩⟩⟩⟩⟩⟩⟩⟩⟩⟩⟩⟩⟩⟩⟩⟩⟩⟩⟩⟩⟩⟩⟩⟩⟩⟩⟩⟩⟩⟩⟩⟩⟩⟩⟩⟩⟩⟩⟩⟩⟩⟩⟩⟩, List.forall_mem_cons.mpr ⟨kx_Pl_0_212, List.forall_mem_nil _⟩, List.forall_mem_nil _, GG_pl⟩ (chk_mk (by decide +kernel) (List.forall_mem_cons.mpr ⟨g_Pl_layRing_0, List.forall_mem_cons.mpr ⟨g_Pl_layRing_1, List.forall_mem_cons.mpr ⟨g_Pl_layRing_2, List.forall_mem_cons.mpr ⟨g_Pl_layRing_3, List.forall_mem_nil _⟩⟩⟩⟩) g_Pl_layRing_s)
set_option maxHeartbeats 4000000 in
theorem vc_Mo_ofEdgeWord_0_r0 (x2 : Int) (styleOne_0 : Int) (k2 : (-1) ≤ x2 ∧ x2 ≤ 47) (g0 : x2 = styleOne_0) (f1 : (-1) * styleOne_0 + 0 ≤ 0) (kz_0_165 : (-1) ≤ styleOne_0 ∧ styleOne_0 ≤ 47) : 0 ≤ x2 ∧ x2 ≤ 47 := by
  first | assumption | omega | grind
def o_Mo_ofEdgeWord_0 : or_T := (4, 3, [(0, (2, 0, 0, [165])), (2, (0, -1, 47, []))], [(9, [2, 0], [165]), (20, [0], [30, 0, -1, 1, 165])], [(2, (0, 0, 47, []))], [], [], [], [])
theorem oo_Mo_ofEdgeWord_0 {kA : Nat → ClassId} : or_ok PRD kA GG o_Mo_ofEdgeWord_0 := by
  refine or_mk fun A ta ws vs hD hth hl => ?_
  intro t0 r0 t2 k2 f0 f1
  replace f0 := shm_195 f0
  have g0 : v_iv (n_v vs 2) = w_fi ws (n_v vs 0) 165 := congrArg v_iv f0
  have kz_0_165 := fdq_27 hD hth r0
  have hrf0 : 0 ≤ v_iv (n_v vs 2) ∧ v_iv (n_v vs 2) ≤ 47 := vc_Mo_ofEdgeWord_0_r0 (v_iv (n_v vs 2)) (w_fi ws (n_v vs 0) 165) k2 g0 (shm_196 f1) kz_0_165
  have rf2 : tv_ok ta (0, 0, 47, []) (n_v vs 2) := tv_in t2 (by omega) (by omega)
  refine ⟨List.forall_mem_cons.mpr ⟨rf2, (fun _ h => (by cases h))⟩, [], trivial, ?_, (fun _ h => (by cases h))⟩
  rw [List.append_nil]
  exact (fun _ h => (by cases h))
def n_Mo_ofEdgeWord_an : List an_T := []
def t_Mo_ofEdgeWord_ct : ct_L := [(1, 394, e_Mo_tail), (1, 398, e_Mo_head), (1, 553, e_Mo_one), (1, 737, e_Mo_weight), (1, 739, e_Mo_isBridge), (1, 1023, e_Mo_px), (1, 1029, e_Mo_py), (432, 1137, e_jMath_abs2_v144), (504, 1137, e_jMath_abs2_v144)]
set_option maxRecDepth 100000 in
theorem c_Mo_ofEdgeWord {l : Launch} {D : va_G} {kA : Nat → ClassId} (h_Mo_head : ct_ok PRD l D kA GG y_Mo_head z_Mo_head e_Mo_head) (h_Mo_isBridge : ct_ok PRD l D kA GG y_Mo_isBridge z_Mo_isBridge e_Mo_isBridge) (h_Mo_one : ct_ok PRD l D kA GG y_Mo_one z_Mo_one e_Mo_one) (h_Mo_px : ct_ok PRD l D kA GG y_Mo_px z_Mo_px e_Mo_px) (h_Mo_py : ct_ok PRD l D kA GG y_Mo_py z_Mo_py e_Mo_py) (h_Mo_tail : ct_ok PRD l D kA GG y_Mo_tail z_Mo_tail e_Mo_tail) (h_Mo_weight : ct_ok PRD l D kA GG y_Mo_weight z_Mo_weight e_Mo_weight) : ct_ok PRD l D kA GG y_Mo_ofEdgeWord z_Mo_ofEdgeWord e_Mo_ofEdgeWord := chk_all_ok (FT := [(32, 13, 17), (120, 13, 61), (360, 13, 168), (1020, 13, 139), (1181, 13, 165)]) (PT := []) (CT := t_Mo_ofEdgeWord_ct) (KT := []) (NT := []) (AN := n_Mo_ofEdgeWord_an) (OT := [o_Mo_ofEdgeWord_0]) 0 356 (List.forall_mem_cons.mpr ⟨oo_Mo_ofEdgeWord_0, List.forall_mem_nil _⟩) (by decide +kernel) ⟨List.forall_mem_cons.mpr ⟨gf_Mo_32, List.forall_mem_cons.mpr ⟨gf_Mo_120, List.forall_mem_cons.mpr ⟨gf_Mo_360, List.forall_mem_cons.mpr ⟨gf_Mo_1020, List.forall_mem_cons.mpr ⟨gf_Mo_1181, List.forall_mem_nil _⟩⟩⟩⟩⟩, List.forall_mem_nil _, List.forall_mem_cons.mpr ⟨cl_virtual (y := y_Mo_tail) (ci := 13) rfl rfl ⟨_, _, rfl⟩ (by decide +kernel) h_Mo_tail wm_3045 wm_9 wm_3042 wm_3044 wv_13_8 ⟨by decide, by decide, by decide +kernel⟩ (by decide), List.forall_mem_cons.mpr ⟨cl_virtual (y := y_Mo_head) (ci := 13) rfl rfl ⟨_, _, rfl⟩ (by decide +kernel) h_Mo_head wm_3049 wm_9 wm_3046 wm_3048 wv_13_9 ⟨by decide, by decide, by decide +kernel⟩ (by decide), List.forall_mem_cons.mpr ⟨cl_virtual (y := y_Mo_one) (ci := 13) rfl rfl ⟨_, _, rfl⟩ (by decide +kernel) h_Mo_one wm_3299 wm_9 wm_3296 wm_3298 wv_16_15 ⟨by decide, by decide, by decide +kernel⟩ (by decide), List.forall_mem_cons.mpr ⟨cl_virtual (y := y_Mo_weight) (ci := 13) rfl rfl ⟨_, _, rfl⟩ (by decide +kernel) h_Mo_weight wm_3339 wm_9 wm_3336 wm_3338 wv_17_7 ⟨by decide, by decide, by decide +kernel⟩ (by decide), List.forall_mem_cons.mpr ⟨cl_virtual (y := y_Mo_isBridge) (ci := 13) rfl rfl ⟨_, _, rfl⟩ (by decide +kernel) h_Mo_isBridge wm_3343 wm_9 wm_3340 wm_3342 wv_17_8 ⟨by decide, by decide, by decide +kernel⟩ (by decide), List.forall_mem_cons.mpr ⟨cl_virtual (y := y_Mo_px) (ci := 13) rfl rfl ⟨_, _, rfl⟩ (by decide +kernel) h_Mo_px wm_3675 wm_9 wm_3672 wm_3674 wv_21_14 ⟨by decide, by decide, by decide +kernel⟩ (by decide), List.forall_mem_cons.mpr ⟨cl_virtual (y := y_Mo_py) (ci := 13) rfl rfl ⟨_, _, rfl⟩ (by decide +kernel) h_Mo_py wm_3679 wm_9 wm_3676 wm_3678 wv_21_15 ⟨by decide, by decide, by decide +kernel⟩ (by decide), List.forall_mem_cons.mpr ⟨cl_static (y := y_jMath_abs2) c_jMath_abs2_v144 wm_2082 wm_10 wm_3769 wm_2081 ⟨by decide, by decide, by decide +kernel⟩ (by decide), List.forall_mem_cons.mpr ⟨cl_static (y := y_jMath_abs2) c_jMath_abs2_v144 wm_2082 wm_10 wm_3769 wm_2081 ⟨by decide, by decide, by decide +kernel⟩ (by decide), List.forall_mem_nil _⟩⟩⟩⟩⟩⟩⟩⟩⟩, List.forall_mem_nil _, List.forall_mem_nil _, GG_pl⟩ (by decide +kernel)
def n_Dr_countCrossings_an : List an_T := [(4, [(0, (2, 0, 0, [0])), (1, (1, (Int.negSucc 9223372036854775807), 9223372036854775807, [])), (3, (0, 0, 48, []))], [], (0, 0), [(0, 0, 99996), (1, 2, 48), (0, 0, 100000), (0, 0, 0), (0, 0, 0), (0, 0, 0), (0, 0, 0), (0, 0, 0), (0, 0, 0)], [], [], [], 0, [], []), (20, [(0, (2, 0, 0, [0])), (1, (1, (Int.negSucc 9223372036854775807), 9223372036854775807, [])), (3, (0, 0, 47, [])), (4, (0, 1, 48, []))], [], (0, 0), [(0, 0, 99996), (1, 2, 48), (0, 0, 99980), (1, 3, 48), (0, 0, 100000), (0, 0, 0), (0, 0, 0), (0, 0, 0), (0, 0, 0)], [], [], [], 0, [], []), (44, [(0, (2, 0, 0, [0])), (1, (1, (Int.negSucc 9223372036854775807), 9223372036854775807, [])), (3, (0, 0, 47, [])), (4, (0, 1, 47, [])), (5, (0, (Int.negSucc 0), 23, [])), (6, (0, 0, 25, []))], [], (0, 0), [(0, 0, 99996), (1, 2, 48), (0, 0, 99980), (1, 3, 48), (0, 0, 99956), (1, 5, 25), (0, 0, 100000), (0, 0, 0), (0, 0, 0)], [], [], [], 0, [], []), (58, [(0, (2, 0, 0, [0])), (1, (1, (Int.negSucc 9223372036854775807), 9223372036854775807, [])), (3, (0, 0, 47, [])), (4, (0, 1, 47, [])), (5, (0, (Int.negSucc 0), 23, [])), (6, (0, 0, 24, [])), (7, (0, 0, 25, []))], [], (0, 0), [(0, 0, 99996), (1, 2, 48), (0, 0, 99980), (1, 3, 48), (0, 0, 99956), (1, 5, 25), (0, 0, 99942), (1, 6, 25), (0, 0, 100000)], [], [], [], 0, [], [])]
def t_Dr_countCrossings_ct : ct_L := [(1, 191, e_Dr_sharedNode), (1, 194, e_Dr_clash)]
set_option maxRecDepth 100000 in
theorem c_Dr_countCrossings {l : Launch} {D : va_G} {kA : Nat → ClassId} (h_Dr_clash : ct_ok PRD l D kA GG y_Dr_clash z_Dr_clash e_Dr_clash) (h_Dr_sharedNode : ct_ok PRD l D kA GG y_Dr_sharedNode z_Dr_sharedNode e_Dr_sharedNode) : ct_ok PRD l D kA GG y_Dr_countCrossings z_Dr_countCrossings e_Dr_countCrossings := chk_all_ok (FT := [(22, 0, 4), (74, 0, 0), (151, 3, 1)]) (PT := []) (CT := t_Dr_countCrossings_ct) (KT := []) (NT := []) (AN := n_Dr_countCrossings_an) (OT := []) 9 268 (List.forall_mem_nil _) (by decide +kernel) ⟨List.forall_mem_cons.mpr ⟨gf_Dr_22, List.forall_mem_cons.mpr ⟨gf_Dr_74, List.forall_mem_cons.mpr ⟨gf_Dr_151, List.forall_mem_nil _⟩⟩⟩, List.forall_mem_nil _, List.forall_mem_cons.mpr ⟨cl_virtual (y := y_Dr_sharedNode) (ci := 0) rfl rfl ⟨_, _, rfl⟩ (by decide +kernel) h_Dr_sharedNode wm_2017 wm_8 wm_2014 wm_2016 wv_9_12 ⟨by decide, by decide, by decide +kernel⟩ (by decide), List.forall_mem_cons.mpr ⟨cl_virtual (y := y_Dr_clash) (ci := 0) rfl rfl ⟨_, _, rfl⟩ (by decide +kernel) h_Dr_clash wm_2021 wm_8 wm_2018 wm_2020 wv_9_13 ⟨by decide, by decide, by decide +kernel⟩ (by decide), List.forall_mem_nil _⟩⟩, List.forall_mem_nil _, List.forall_mem_nil _, GG_pl⟩ (by decide +kernel)
def n_Pn_fillFaces_an : List an_T := [(2, [(0, (2, 0, 0, [7])), (1, (0, 0, 72, []))], [], (0, 0), [(0, 0, 99998), (1, 1, 72), (0, 0, 100000)], [], [], [], 0, [], [])]
def t_Pn_fillFaces_ct : ct_L := [(1, 114, e_Pn_firstLongFace), (1, 118, e_Pn_cutFace), (97, 111, e_Ne_traceFaces_at_Nq)]
set_option maxRecDepth 100000 in
theorem c_Pn_fillFaces {l : Launch} {D : va_G} {kA : Nat → ClassId} (h_Ne_traceFaces_at_Nq : ct_ok PRD l D kA GG y_Ne_traceFaces_at_Nq z_Ne_traceFaces_at_Nq e_Ne_traceFaces_at_Nq) (h_Pn_cutFace : ct_ok PRD l D kA GG y_Pn_cutFace z_Pn_cutFace e_Pn_cutFace) (h_Pn_firstLongFace : ct_ok PRD l D kA GG y_Pn_firstLongFace z_Pn_firstLongFace e_Pn_firstLongFace) : ct_ok PRD l D kA GG y_Pn_fillFaces z_Pn_fillFaces e_Pn_fillFaces := chk_all_ok (FT := [(12, 7, 0)]) (PT := []) (CT := t_Pn_fillFaces_ct) (KT := []) (NT := []) (AN := n_Pn_fillFaces_an) (OT := []) 3 200 (List.forall_mem_nil _) (by decide +kernel) ⟨List.forall_mem_cons.mpr ⟨gf_Pn_12, List.forall_mem_nil _⟩, List.forall_mem_nil _, List.forall_mem_cons.mpr ⟨cl_virtual (y := y_Pn_firstLongFace) (ci := 7) rfl rfl ⟨_, _, rfl⟩ (by decide +kernel) h_Pn_firstLongFace wm_1539 wm_20 wm_1536 wm_1538 wv_6_7 ⟨by decide, by decide, by decide +kernel⟩ (by decide), List.forall_mem_cons.mpr ⟨cl_virtual (y := y_Pn_cutFace) (ci := 7) rfl rfl ⟨_, _, rfl⟩ (by decide +kernel) h_Pn_cutFace wm_1543 wm_20 wm_1540 wm_1542 wv_6_8 ⟨by decide, by decide, by decide +kernel⟩ (by decide), List.forall_mem_cons.mpr ⟨cl_virtual (y := y_Ne_traceFaces_at_Nq) (ci := 5) rfl rfl ⟨_, _, rfl⟩ (by decide +kernel) h_Ne_traceFaces_at_Nq wm_1150 wm_6 wm_1531 wm_1148 wm_1149 ⟨by decide, by decide, by decide +kernel⟩ (by decide), List.forall_mem_nil _⟩⟩⟩, List.forall_mem_nil _, List.forall_mem_nil _, GG_pl⟩ (by decide +kernel)
set_option maxHeartbeats 4000000 in
theorem vc_Sy_isWordAt_at_s5004_0_0 (x2 : Int) (x3 : Int) (x5 : Int) (x6 : Int) (x7 : Int) (x8 : Int) (begin_0 : Int) (next_0 : Int) (k2 : 0 ≤ x2 ∧ x2 ≤ 38) (k3 : 0 ≤ x3 ∧ x3 ≤ 38) (k5 : 0 ≤ x5 ∧ x5 ≤ 2000) (k6 : 0 ≤ x6 ∧ x6 ≤ 2000) (k7 : (-38) ≤ x7 ∧ x7 ≤ 38) (k8 : (-38) ≤ x8 ∧ x8 ≤ 38) (d0 : x8 + 0 ≤ x7 ∧ x7 ≤ x8 + 0) (f1 : x8 = x3 - x2) (f2 : x7 = x5 - x6) (g3 : x6 = begin_0) (g4 : x5 = next_0) (kz_0_5 : 0 ≤ next_0 ∧ next_0 ≤ 2000) (kz_0_7 : 0 ≤ begin_0 ∧ begin_0 ≤ 2000) : 1 * begin_0 + (1 * x3 + ((-1) * x2 + 0)) ≤ 2000 := by
  first | assumption | omega | grind
set_option maxHeartbeats 4000000 in
theorem vc_Sy_isWordAt_at_s5004_0_1 (x2 : Int) (k2 : 0 ≤ x2 ∧ x2 ≤ 38) : 1 * x2 + ((-1) * x2 + 0) ≤ 0 := by
  first | assumption | omega | grind
def o_Sy_isWordAt_at_s5004_0 : or_T := (20, 9, [(0, (2, 0, 0, [11])), (2, (0, 0, 38, [])), (3, (0, 0, 38, [])), (5, (0, 0, 2000, [])), (6, (0, 0, 2000, [])), (7, (0, -38, 38, [])), (8, (0, -38, 38, []))], [(2, [8, 3, 2], []), (2, [7, 5, 6], []), (9, [6, 0], [7]), (9, [5, 0], [5])], [], [], [(20, [0, 3, 2], [30, 2000, 1, 1, 7, 1, 0, 0, -1, 0, 0]), (20, [2, 2], [30, 0, 1, 0, 0, -1, 0, 0])], [], [(7, 8, 0, 0)])
theorem oo_Sy_isWordAt_at_s5004_0 {kA : Nat → ClassId} : or_ok PRD kA GG o_Sy_isWordAt_at_s5004_0 := by
  refine or_mk fun A ta ws vs hD hth hl => ?_
  intro t0 r0 t2 k2 t3 k3 t5 k5 t6 k6 t7 k7 t8 k8 d0 f1 f2 f3 f4
  replace f3 := shm_198 f3
  replace f4 := shm_110 f4
  have g3 : v_iv (n_v vs 6) = w_fi ws (n_v vs 0) 7 := congrArg v_iv f3
  have g4 : v_iv (n_v vs 5) = w_fi ws (n_v vs 0) 5 := congrArg v_iv f4
  have kz_0_5 := fdq_28 hD hth r0
  have kz_0_7 := fdq_29 hD hth r0
  have nf0 : fc_1 PRD (20, [0, 3, 2], [30, 2000, 1, 1, 7, 1, 0, 0, -1, 0, 0]) ws (vs) := ⟨nf_in hl rfl, sgq_199 (vc_Sy_isWordAt_at_s5004_0_0 (v_iv (n_v vs 2)) (v_iv (n_v vs 3)) (v_iv (n_v vs 5)) (v_iv (n_v vs 6)) (v_iv (n_v vs 7)) (v_iv (n_v vs 8)) (w_fi ws (n_v vs 0) 7) (w_fi ws (n_v vs 0) 5) k2 k3 k5 k6 k7 k8 d0 (shm_14 f1) (shm_14 f2) g3 g4 kz_0_5 kz_0_7)⟩
  have nf1 : fc_1 PRD (20, [2, 2], [30, 0, 1, 0, 0, -1, 0, 0]) ws (vs) := ⟨nf_in hl rfl, sgq_200 (vc_Sy_isWordAt_at_s5004_0_1 (v_iv (n_v vs 2)) k2)⟩
  refine ⟨(fun _ h => (by cases h)), [], trivial, ?_, (fun _ h => (by cases h))⟩
  rw [List.append_nil]
  exact List.forall_mem_cons.mpr ⟨⟨show (20 : Nat) < 100 from by decide, nf0⟩, List.forall_mem_cons.mpr ⟨⟨show (20 : Nat) < 100 from by decide, nf1⟩, (fun _ h => (by cases h))⟩⟩
set_option maxHeartbeats 4000000 in
theorem vc_Sy_isWordAt_at_s5004_1_r0 (x2 : Int) (x3 : Int) (x4 : Int) (x7 : Int) (x8 : Int) (x9 : Int) (begin_0 : Int) (k2 : 0 ≤ x2 ∧ x2 ≤ 37) (k3 : 1 ≤ x3 ∧ x3 ≤ 38) (k4 : 0 ≤ x4 ∧ x4 ≤ 37) (k7 : 0 ≤ x7 ∧ x7 ≤ 2000) (k8 : 0 ≤ x8 ∧ x8 ≤ 2037) (k9 : (-37) ≤ x9 ∧ x9 ≤ 2037) (d1 : x4 + (-37) ≤ x9 ∧ x9 ≤ x4 + 2000) (d3 : x7 + (-37) ≤ x9 ∧ x9 ≤ x7 + 37) (d6 : x7 + 0 ≤ x8 ∧ x8 ≤ x7 + 37) (d7 : x3 + (-4294967296) ≤ x4 ∧ x4 ≤ x3 + (-1)) (d8 : x4 + (-4294967296) ≤ x2 ∧ x2 ≤ x4 + 0) (f0 : x9 = x8 - x2) (f1 : x8 = x7 + x4) (g2 : x7 = begin_0) (f4 : 1 * begin_0 + (1 * x3 + ((-1) * x2 + 0)) ≤ 2000) (kz_0_7 : 0 ≤ begin_0 ∧ begin_0 ≤ 2000) : 0 ≤ x9 ∧ x9 ≤ 1999 := by
  first | assumption | omega | grind
def o_Sy_isWordAt_at_s5004_1 : or_T := (45, 10, [(0, (2, 0, 0, [11])), (2, (0, 0, 37, [])), (3, (0, 1, 38, [])), (4, (0, 0, 37, [])), (7, (0, 0, 2000, [])), (8, (0, 0, 2037, [])), (9, (0, -37, 2037, []))], [(2, [9, 8, 2], []), (1, [8, 7, 4], []), (9, [7, 0], [7]), (7, [4, 3], [2]), (20, [0, 3, 2], [30, 2000, 1, 1, 7, 1, 0, 0, -1, 0, 0]), (20, [2, 4], [30, 0, 1, 0, 0, -1, 0, 0])], [(9, (0, 0, 1999, []))], [], [], [], [(9, 8, -37, 0), (9, 4, -37, 2000), (9, 3, -4294967296, 1999), (9, 7, -37, 37), (8, 4, 0, 2000), (8, 3, -4294967296, 1999), (8, 7, 0, 37), (4, 3, -4294967296, -1), (2, 4, -4294967296, 0)])
theorem oo_Sy_isWordAt_at_s5004_1 {kA : Nat → ClassId} : or_ok PRD kA GG o_Sy_isWordAt_at_s5004_1 := by
  refine or_mk fun A ta ws vs hD hth hl => ?_
  intro t0 r0 t2 k2 t3 k3 t4 k4 t7 k7 t8 k8 t9 k9 d0 d1 d2 d3 d4 d5 d6 d7 d8 f0 f1 f2 f3 f4 f5
  replace f2 := shm_198 f2
  have g2 : v_iv (n_v vs 7) = w_fi ws (n_v vs 0) 7 := congrArg v_iv f2
  have kz_0_7 := fdq_29 hD hth r0
  have hrf0 : 0 ≤ v_iv (n_v vs 9) ∧ v_iv (n_v vs 9) ≤ 1999 := vc_Sy_isWordAt_at_s5004_1_r0 (v_iv (n_v vs 2)) (v_iv (n_v vs 3)) (v_iv (n_v vs 4)) (v_iv (n_v vs 7)) (v_iv (n_v vs 8)) (v_iv (n_v vs 9)) (w_fi ws (n_v vs 0) 7) k2 k3 k4 k7 k8 k9 d1 d3 d6 d7 d8 (shm_14 f0) (shm_12 f1) g2 (shm_199 f4) kz_0_7
  have rf9 : tv_ok ta (0, 0, 1999, []) (n_v vs 9) := tv_in t9 (by omega) (by omega)
  refine ⟨List.forall_mem_cons.mpr ⟨rf9, (fun _ h => (by cases h))⟩, [], trivial, ?_, (fun _ h => (by cases h))⟩
  rw [List.append_nil]
  exact (fun _ h => (by cases h))
set_option maxHeartbeats 4000000 in
theorem vc_Sy_isWordAt_at_s5004_2_0 (x2 : Int) (x4 : Int) (x7 : Int) (x8 : Int) (x9 : Int) (x11 : Int) (begin_0 : Int) (k2 : 0 ≤ x2 ∧ x2 ≤ 37) (k4 : 0 ≤ x4 ∧ x4 ≤ 37) (k7 : 0 ≤ x7 ∧ x7 ≤ 2000) (k8 : 0 ≤ x8 ∧ x8 ≤ 2037) (k9 : 0 ≤ x9 ∧ x9 ≤ 1999) (k11 : 1 ≤ x11 ∧ x11 ≤ 38) (d0 : x4 + 1 ≤ x11 ∧ x11 ≤ x4 + 1) (d3 : x7 + (-37) ≤ x9 ∧ x9 ≤ x7 + 37) (d8 : x4 + (-4294967296) ≤ x2 ∧ x2 ≤ x4 + 0) (f1 : x9 = x8 - x2) (f2 : x8 = x7 + x4) (g3 : x7 = begin_0) (kz_0_7 : 0 ≤ begin_0 ∧ begin_0 ≤ 2000) : 1 * x2 + ((-1) * x11 + 0) ≤ 0 := by
  first | assumption | omega | grind
def o_Sy_isWordAt_at_s5004_2 : or_T := (20, 12, [(0, (2, 0, 0, [11])), (2, (0, 0, 37, [])), (4, (0, 0, 37, [])), (7, (0, 0, 2000, [])), (8, (0, 0, 2037, [])), (9, (0, 0, 1999, [])), (11, (0, 1, 38, []))], [(2, [9, 8, 2], []), (1, [8, 7, 4], []), (9, [7, 0], [7])], [], [], [(20, [2, 11], [30, 0, 1, 0, 0, -1, 0, 0])], [], [(11, 4, 1, 1), (9, 7, -37, 37), (2, 4, -4294967296, 0)])
theorem oo_Sy_isWordAt_at_s5004_2 {kA : Nat → ClassId} : or_ok PRD kA GG o_Sy_isWordAt_at_s5004_2 := by
  refine or_mk fun A ta ws vs hD hth hl => ?_
  intro t0 r0 t2 k2 t4 k4 t7 k7 t8 k8 t9 k9 t11 k11 d0 d3 d8 f1 f2 f3
  replace f3 := shm_198 f3
  have g3 : v_iv (n_v vs 7) = w_fi ws (n_v vs 0) 7 := congrArg v_iv f3
  have kz_0_7 := fdq_29 hD hth r0
  have nf0 : fc_1 PRD (20, [2, 11], [30, 0, 1, 0, 0, -1, 0, 0]) ws (vs) := ⟨nf_in hl rfl, sgq_201 (vc_Sy_isWordAt_at_s5004_2_0 (v_iv (n_v vs 2)) (v_iv (n_v vs 4)) (v_iv (n_v vs 7)) (v_iv (n_v vs 8)) (v_iv (n_v vs 9)) (v_iv (n_v vs 11)) (w_fi ws (n_v vs 0) 7) k2 k4 k7 k8 k9 k11 d0 d3 d8 (shm_14 f1) (shm_12 f2) g3 kz_0_7)⟩
  refine ⟨(fun _ h => (by cases h)), [], trivial, ?_, (fun _ h => (by cases h))⟩
  rw [List.append_nil]
  exact List.forall_mem_cons.mpr ⟨⟨show (20 : Nat) < 100 from by decide, nf0⟩, (fun _ h => (by cases h))⟩
def n_Sy_isWordAt_at_s5004_an : List an_T := [(20, [(0, (2, 0, 0, [11])), (1, (2, 0, 0, [5004])), (2, (0, 0, 38, [])), (3, (0, 0, 38, [])), (4, (0, 0, 38, []))], [], (0, 0), [(0, 0, 99980), (1, 4, 38), (0, 0, 100000)], [(2, 4, (Int.negSucc 999999999999), 0)], [((0, 3), (2, 0, 0, [109]))], [], 0, [], [(20, [0, 3, 2], [30, 2000, 1, 1, 7, 1, 0, 0, (Int.negSucc 0), 0, 0]), (20, [2, 4], [30, 0, 1, 0, 0, (Int.negSucc 0), 0, 0])])]
def t_Sy_isWordAt_at_s5004_ct : ct_L := [(91, 104, e_jStr_charAt_v258)]
set_option maxRecDepth 100000 in
theorem c_Sy_isWordAt_at_s5004 {l : Launch} {D : va_G} {kA : Nat → ClassId} : ct_ok PRD l D kA GG y_Sy_isWordAt_at_s5004 z_Sy_isWordAt_at_s5004 e_Sy_isWordAt_at_s5004 := chk_all_ok (FT := [(21, 11, 3), (28, 11, 5), (34, 11, 7)]) (PT := []) (CT := t_Sy_isWordAt_at_s5004_ct) (KT := []) (NT := []) (AN := n_Sy_isWordAt_at_s5004_an) (OT := [o_Sy_isWordAt_at_s5004_0, o_Sy_isWordAt_at_s5004_1, o_Sy_isWordAt_at_s5004_2]) 3 200 (List.forall_mem_cons.mpr ⟨oo_Sy_isWordAt_at_s5004_0, List.forall_mem_cons.mpr ⟨oo_Sy_isWordAt_at_s5004_1, List.forall_mem_cons.mpr ⟨oo_Sy_isWordAt_at_s5004_2, List.forall_mem_nil _⟩⟩⟩) (by decide +kernel) ⟨List.forall_mem_cons.mpr ⟨gf_Sy_21, List.forall_mem_cons.mpr ⟨gf_Sy_28, List.forall_mem_cons.mpr ⟨gf_Sy_34, List.forall_mem_nil _⟩⟩⟩, List.forall_mem_nil _, List.forall_mem_cons.mpr ⟨cl_string (y := y_jStr_charAt) (i := 4) rfl rfl (by decide +kernel) rfl c_jStr_charAt_v258 wm_684 wm_11 wm_2231 wm_682 wm_683 ⟨by decide, by decide, by decide +kernel⟩ (by decide), List.forall_mem_nil _⟩, List.forall_mem_nil _, List.forall_mem_nil _, GG_pl⟩ (by decide +kernel)
set_option maxHeartbeats 4000000 in
theorem vc_Sy_isWordAt_at_s5006_0_0 (x2 : Int) (x3 : Int) (x5 : Int) (x6 : Int) (x7 : Int) (x8 : Int) (begin_0 : Int) (next_0 : Int) (k2 : 0 ≤ x2 ∧ x2 ≤ 5) (k3 : 4 ≤ x3 ∧ x3 ≤ 9) (k5 : 0 ≤ x5 ∧ x5 ≤ 2000) (k6 : 0 ≤ x6 ∧ x6 ≤ 2000) (k7 : (-1) ≤ x7 ∧ x7 ≤ 9) (k8 : (-1) ≤ x8 ∧ x8 ≤ 9) (d0 : x8 + 0 ≤ x7 ∧ x7 ≤ x8 + 0) (f1 : x8 = x3 - x2) (f2 : x7 = x5 - x6) (g3 : x6 = begin_0) (g4 : x5 = next_0) (kz_0_5 : 0 ≤ next_0 ∧ next_0 ≤ 2000) (kz_0_7 : 0 ≤ begin_0 ∧ begin_0 ≤ 2000) : 1 * begin_0 + (1 * x3 + ((-1) * x2 + 0)) ≤ 2000 := by
  first | assumption | omega | grind
set_option maxHeartbeats 4000000 in
theorem vc_Sy_isWordAt_at_s5006_0_1 (x2 : Int) (k2 : 0 ≤ x2 ∧ x2 ≤ 5) : 1 * x2 + ((-1) * x2 + 0) ≤ 0 := by
  first | assumption | omega | grind
def o_Sy_isWordAt_at_s5006_0 : or_T := (20, 9, [(0, (2, 0, 0, [11])), (2, (0, 0, 5, [])), (3, (0, 4, 9, [])), (5, (0, 0, 2000, [])), (6, (0, 0, 2000, [])), (7, (0, -1, 9, [])), (8, (0, -1, 9, []))], [(2, [8, 3, 2], []), (2, [7, 5, 6], []), (9, [6, 0], [7]), (9, [5, 0], [5])], [], [], [(20, [0, 3, 2], [30, 2000, 1, 1, 7, 1, 0, 0, -1, 0, 0]), (20, [2, 2], [30, 0, 1, 0, 0, -1, 0, 0])], [], [(7, 8, 0, 0)])
theorem oo_Sy_isWordAt_at_s5006_0 {kA : Nat → ClassId} : or_ok PRD kA GG o_Sy_isWordAt_at_s5006_0 := by
  refine or_mk fun A ta ws vs hD hth hl => ?_
  intro t0 r0 t2 k2 t3 k3 t5 k5 t6 k6 t7 k7 t8 k8 d0 f1 f2 f3 f4
  replace f3 := shm_198 f3
  replace f4 := shm_110 f4
  have g3 : v_iv (n_v vs 6) = w_fi ws (n_v vs 0) 7 := congrArg v_iv f3
  have g4 : v_iv (n_v vs 5) = w_fi ws (n_v vs 0) 5 := congrArg v_iv f4
  have kz_0_5 := fdq_28 hD hth r0
  have kz_0_7 := fdq_29 hD hth r0
  have nf0 : fc_1 PRD (20, [0, 3, 2], [30, 2000, 1, 1, 7, 1, 0, 0, -1, 0, 0]) ws (vs) := ⟨nf_in hl rfl, sgq_199 (vc_Sy_isWordAt_at_s5006_0_0 (v_iv (n_v vs 2)) (v_iv (n_v vs 3)) (v_iv (n_v vs 5)) (v_iv (n_v vs 6)) (v_iv (n_v vs 7)) (v_iv (n_v vs 8)) (w_fi ws (n_v vs 0) 7) (w_fi ws (n_v vs 0) 5) k2 k3 k5 k6 k7 k8 d0 (shm_14 f1) (shm_14 f2) g3 g4 kz_0_5 kz_0_7)⟩
  have nf1 : fc_1 PRD (20, [2, 2], [30, 0, 1, 0, 0, -1, 0, 0]) ws (vs) := ⟨nf_in hl rfl, sgq_200 (vc_Sy_isWordAt_at_s5006_0_1 (v_iv (n_v vs 2)) k2)⟩
  refine ⟨(fun _ h => (by cases h)), [], trivial, ?_, (fun _ h => (by cases h))⟩
  rw [List.append_nil]
  exact List.forall_mem_cons.mpr ⟨⟨show (20 : Nat) < 100 from by decide, nf0⟩, List.forall_mem_cons.mpr ⟨⟨show (20 : Nat) < 100 from by decide, nf1⟩, (fun _ h => (by cases h))⟩⟩
set_option maxHeartbeats 4000000 in
theorem vc_Sy_isWordAt_at_s5006_1_r0 (x2 : Int) (x3 : Int) (x4 : Int) (x7 : Int) (x8 : Int) (x9 : Int) (begin_0 : Int) (k2 : 0 ≤ x2 ∧ x2 ≤ 5) (k3 : 4 ≤ x3 ∧ x3 ≤ 9) (k4 : 0 ≤ x4 ∧ x4 ≤ 8) (k7 : 0 ≤ x7 ∧ x7 ≤ 2000) (k8 : 0 ≤ x8 ∧ x8 ≤ 2008) (k9 : (-5) ≤ x9 ∧ x9 ≤ 2008) (d1 : x4 + (-5) ≤ x9 ∧ x9 ≤ x4 + 2000) (d4 : x7 + (-5) ≤ x9 ∧ x9 ≤ x7 + 8) (d8 : x7 + 0 ≤ x8 ∧ x8 ≤ x7 + 8) (d9 : x3 + (-4294967296) ≤ x4 ∧ x4 ≤ x3 + (-1)) (d10 : x4 + (-4294967296) ≤ x2 ∧ x2 ≤ x4 + 0) (f0 : x9 = x8 - x2) (f1 : x8 = x7 + x4) (g2 : x7 = begin_0) (f4 : 1 * begin_0 + (1 * x3 + ((-1) * x2 + 0)) ≤ 2000) (kz_0_7 : 0 ≤ begin_0 ∧ begin_0 ≤ 2000) : 0 ≤ x9 ∧ x9 ≤ 1999 := by
  first | assumption | omega | grind
def o_Sy_isWordAt_at_s5006_1 : or_T := (45, 10, [(0, (2, 0, 0, [11])), (2, (0, 0, 5, [])), (3, (0, 4, 9, [])), (4, (0, 0, 8, [])), (7, (0, 0, 2000, [])), (8, (0, 0, 2008, [])), (9, (0, -5, 2008, []))], [(2, [9, 8, 2], []), (1, [8, 7, 4], []), (9, [7, 0], [7]), (7, [4, 3], [2]), (20, [0, 3, 2], [30, 2000, 1, 1, 7, 1, 0, 0, -1, 0, 0]), (20, [2, 4], [30, 0, 1, 0, 0, -1, 0, 0])], [(9, (0, 0, 1999, []))], [], [], [], [(9, 8, -5, 0), (9, 4, -5, 2000), (9, 3, -4294967296, 1999), (9, 3, -4294967296, 2001), (9, 7, -5, 8), (8, 4, 0, 2000), (8, 3, -4294967296, 1999), (8, 3, -4294967296, 2001), (8, 7, 0, 8), (4, 3, -4294967296, -1), (2, 4, -4294967296, 0), (4, 3, -4294967296, 1)])
theorem oo_Sy_isWordAt_at_s5006_1 {kA : Nat → ClassId} : or_ok PRD kA GG o_Sy_isWordAt_at_s5006_1 := by
  refine or_mk fun A ta ws vs hD hth hl => ?_
  intro t0 r0 t2 k2 t3 k3 t4 k4 t7 k7 t8 k8 t9 k9 d0 d1 d2 d3 d4 d5 d6 d7 d8 d9 d10 d11 f0 f1 f2 f3 f4 f5
  replace f2 := shm_198 f2
  have g2 : v_iv (n_v vs 7) = w_fi ws (n_v vs 0) 7 := congrArg v_iv f2
  have kz_0_7 := fdq_29 hD hth r0
  have hrf0 : 0 ≤ v_iv (n_v vs 9) ∧ v_iv (n_v vs 9) ≤ 1999 := vc_Sy_isWordAt_at_s5006_1_r0 (v_iv (n_v vs 2)) (v_iv (n_v vs 3)) (v_iv (n_v vs 4)) (v_iv (n_v vs 7)) (v_iv (n_v vs 8)) (v_iv (n_v vs 9)) (w_fi ws (n_v vs 0) 7) k2 k3 k4 k7 k8 k9 d1 d4 d8 d9 d10 (shm_14 f0) (shm_12 f1) g2 (shm_199 f4) kz_0_7
  have rf9 : tv_ok ta (0, 0, 1999, []) (n_v vs 9) := tv_in t9 (by omega) (by omega)
  refine ⟨List.forall_mem_cons.mpr ⟨rf9, (fun _ h => (by cases h))⟩, [], trivial, ?_, (fun _ h => (by cases h))⟩
  rw [List.append_nil]
  exact (fun _ h => (by cases h))
set_option maxHeartbeats 4000000 in
theorem vc_Sy_isWordAt_at_s5006_2_0 (x2 : Int) (x4 : Int) (x7 : Int) (x8 : Int) (x9 : Int) (x11 : Int) (begin_0 : Int) (k2 : 0 ≤ x2 ∧ x2 ≤ 5) (k4 : 0 ≤ x4 ∧ x4 ≤ 8) (k7 : 0 ≤ x7 ∧ x7 ≤ 2000) (k8 : 0 ≤ x8 ∧ x8 ≤ 2008) (k9 : 0 ≤ x9 ∧ x9 ≤ 1999) (k11 : 1 ≤ x11 ∧ x11 ≤ 9) (d0 : x4 + 1 ≤ x11 ∧ x11 ≤ x4 + 1) (d5 : x7 + (-5) ≤ x9 ∧ x9 ≤ x7 + 8) (d11 : x4 + (-4294967296) ≤ x2 ∧ x2 ≤ x4 + 0) (f1 : x9 = x8 - x2) (f2 : x8 = x7 + x4) (g3 : x7 = begin_0) (kz_0_7 : 0 ≤ begin_0 ∧ begin_0 ≤ 2000) : 1 * x2 + ((-1) * x11 + 0) ≤ 0 := by
  first | assumption | omega | grind
def o_Sy_isWordAt_at_s5006_2 : or_T := (20, 12, [(0, (2, 0, 0, [11])), (2, (0, 0, 5, [])), (4, (0, 0, 8, [])), (7, (0, 0, 2000, [])), (8, (0, 0, 2008, [])), (9, (0, 0, 1999, [])), (11, (0, 1, 9, []))], [(2, [9, 8, 2], []), (1, [8, 7, 4], []), (9, [7, 0], [7])], [], [], [(20, [2, 11], [30, 0, 1, 0, 0, -1, 0, 0])], [], [(11, 4, 1, 1), (9, 7, -5, 8), (2, 4, -4294967296, 0)])
theorem oo_Sy_isWordAt_at_s5006_2 {kA : Nat → ClassId} : or_ok PRD kA GG o_Sy_isWordAt_at_s5006_2 := by
  refine or_mk fun A ta ws vs hD hth hl => ?_
  intro t0 r0 t2 k2 t4 k4 t7 k7 t8 k8 t9 k9 t11 k11 d0 d5 d11 f1 f2 f3
  replace f3 := shm_198 f3
  have g3 : v_iv (n_v vs 7) = w_fi ws (n_v vs 0) 7 := congrArg v_iv f3
  have kz_0_7 := fdq_29 hD hth r0
  have nf0 : fc_1 PRD (20, [2, 11], [30, 0, 1, 0, 0, -1, 0, 0]) ws (vs) := ⟨nf_in hl rfl, sgq_201 (vc_Sy_isWordAt_at_s5006_2_0 (v_iv (n_v vs 2)) (v_iv (n_v vs 4)) (v_iv (n_v vs 7)) (v_iv (n_v vs 8)) (v_iv (n_v vs 9)) (v_iv (n_v vs 11)) (w_fi ws (n_v vs 0) 7) k2 k4 k7 k8 k9 k11 d0 d5 d11 (shm_14 f1) (shm_12 f2) g3 kz_0_7)⟩
  refine ⟨(fun _ h => (by cases h)), [], trivial, ?_, (fun _ h => (by cases h))⟩
  rw [List.append_nil]
  exact List.forall_mem_cons.mpr ⟨⟨show (20 : Nat) < 100 from by decide, nf0⟩, (fun _ h => (by cases h))⟩
def n_Sy_isWordAt_at_s5006_an : List an_T := [(20, [(0, (2, 0, 0, [11])), (1, (2, 0, 0, [5006])), (2, (0, 0, 5, [])), (3, (0, 4, 9, [])), (4, (0, 0, 9, []))], [], (0, 0), [(0, 0, 99980), (1, 4, 9), (0, 0, 100000)], [(2, 4, (Int.negSucc 999999999999), 0), (4, 3, (Int.negSucc 999999999999), 1)], [((0, 3), (2, 0, 0, [109]))], [], 0, [], [(20, [0, 3, 2], [30, 2000, 1, 1, 7, 1, 0, 0, (Int.negSucc 0), 0, 0]), (20, [2, 4], [30, 0, 1, 0, 0, (Int.negSucc 0), 0, 0])])]
def t_Sy_isWordAt_at_s5006_ct : ct_L := [(91, 104, e_jStr_charAt_v263)]
set_option maxRecDepth 100000 in
theorem c_Sy_isWordAt_at_s5006 {l : Launch} {D : va_G} {kA : Nat → ClassId} : ct_ok PRD l D kA GG y_Sy_isWordAt_at_s5006 z_Sy_isWordAt_at_s5006 e_Sy_isWordAt_at_s5006 := chk_all_ok (FT := [(21, 11, 3), (28, 11, 5), (34, 11, 7)]) (PT := []) (CT := t_Sy_isWordAt_at_s5006_ct) (KT := []) (NT := []) (AN := n_Sy_isWordAt_at_s5006_an) (OT := [o_Sy_isWordAt_at_s5006_0, o_Sy_isWordAt_at_s5006_1, o_Sy_isWordAt_at_s5006_2]) 3 200 (List.forall_mem_cons.mpr ⟨oo_Sy_isWordAt_at_s5006_0, List.forall_mem_cons.mpr ⟨oo_Sy_isWordAt_at_s5006_1, List.forall_mem_cons.mpr ⟨oo_Sy_isWordAt_at_s5006_2, List.forall_mem_nil _⟩⟩⟩) (by decide +kernel) ⟨List.forall_mem_cons.mpr ⟨gf_Sy_21, List.forall_mem_cons.mpr ⟨gf_Sy_28, List.forall_mem_cons.mpr ⟨gf_Sy_34, List.forall_mem_nil _⟩⟩⟩, List.forall_mem_nil _, List.forall_mem_cons.mpr ⟨cl_string (y := y_jStr_charAt) (i := 6) rfl rfl (by decide +kernel) rfl c_jStr_charAt_v263 wm_684 wm_11 wm_2231 wm_682 wm_683 ⟨by decide, by decide, by decide +kernel⟩ (by decide), List.forall_mem_nil _⟩, List.forall_mem_nil _, List.forall_mem_nil _, GG_pl⟩ (by decide +kernel)
set_option maxHeartbeats 4000000 in
theorem vc_Sy_isWordAt_at_s5007_0_0 (x2 : Int) (x3 : Int) (x5 : Int) (x6 : Int) (x7 : Int) (x8 : Int) (begin_0 : Int) (next_0 : Int) (k2 : 0 ≤ x2 ∧ x2 ≤ 43) (k3 : 0 ≤ x3 ∧ x3 ≤ 43) (k5 : 0 ≤ x5 ∧ x5 ≤ 2000) (k6 : 0 ≤ x6 ∧ x6 ≤ 2000) (k7 : (-43) ≤ x7 ∧ x7 ≤ 43) (k8 : (-43) ≤ x8 ∧ x8 ≤ 43) (d0 : x8 + 0 ≤ x7 ∧ x7 ≤ x8 + 0) (f1 : x8 = x3 - x2) (f2 : x7 = x5 - x6) (g3 : x6 = begin_0) (g4 : x5 = next_0) (kz_0_5 : 0 ≤ next_0 ∧ next_0 ≤ 2000) (kz_0_7 : 0 ≤ begin_0 ∧ begin_0 ≤ 2000) : 1 * begin_0 + (1 * x3 + ((-1) * x2 + 0)) ≤ 2000 := by
  first | assumption | omega | grind
set_option maxHeartbeats 4000000 in
theorem vc_Sy_isWordAt_at_s5007_0_1 (x2 : Int) (k2 : 0 ≤ x2 ∧ x2 ≤ 43) : 1 * x2 + ((-1) * x2 + 0) ≤ 0 := by
  first | assumption | omega | grind
def o_Sy_isWordAt_at_s5007_0 : or_T := (20, 9, [(0, (2, 0, 0, [11])), (2, (0, 0, 43, [])), (3, (0, 0, 43, [])), (5, (0, 0, 2000, [])), (6, (0, 0, 2000, [])), (7, (0, -43, 43, [])), (8, (0, -43, 43, []))], [(2, [8, 3, 2], []), (2, [7, 5, 6], []), (9, [6, 0], [7]), (9, [5, 0], [5])], [], [], [(20, [0, 3, 2], [30, 2000, 1, 1, 7, 1, 0, 0, -1, 0, 0]), (20, [2, 2], [30, 0, 1, 0, 0, -1, 0, 0])], [], [(7, 8, 0, 0)])
theorem oo_Sy_isWordAt_at_s5007_0 {kA : Nat → ClassId} : or_ok PRD kA GG o_Sy_isWordAt_at_s5007_0 := by
  refine or_mk fun A ta ws vs hD hth hl => ?_
  intro t0 r0 t2 k2 t3 k3 t5 k5 t6 k6 t7 k7 t8 k8 d0 f1 f2 f3 f4
  replace f3 := shm_198 f3
  replace f4 := shm_110 f4
  have g3 : v_iv (n_v vs 6) = w_fi ws (n_v vs 0) 7 := congrArg v_iv f3
  have g4 : v_iv (n_v vs 5) = w_fi ws (n_v vs 0) 5 := congrArg v_iv f4
  have kz_0_5 := fdq_28 hD hth r0
  have kz_0_7 := fdq_29 hD hth r0
  have nf0 : fc_1 PRD (20, [0, 3, 2], [30, 2000, 1, 1, 7, 1, 0, 0, -1, 0, 0]) ws (vs) := ⟨nf_in hl rfl, sgq_199 (vc_Sy_isWordAt_at_s5007_0_0 (v_iv (n_v vs 2)) (v_iv (n_v vs 3)) (v_iv (n_v vs 5)) (v_iv (n_v vs 6)) (v_iv (n_v vs 7)) (v_iv (n_v vs 8)) (w_fi ws (n_v vs 0) 7) (w_fi ws (n_v vs 0) 5) k2 k3 k5 k6 k7 k8 d0 (shm_14 f1) (shm_14 f2) g3 g4 kz_0_5 kz_0_7)⟩
  have nf1 : fc_1 PRD (20, [2, 2], [30, 0, 1, 0, 0, -1, 0, 0]) ws (vs) := ⟨nf_in hl rfl, sgq_200 (vc_Sy_isWordAt_at_s5007_0_1 (v_iv (n_v vs 2)) k2)⟩
  refine ⟨(fun _ h => (by cases h)), [], trivial, ?_, (fun _ h => (by cases h))⟩
  rw [List.append_nil]
  exact List.forall_mem_cons.mpr ⟨⟨show (20 : Nat) < 100 from by decide, nf0⟩, List.forall_mem_cons.mpr ⟨⟨show (20 : Nat) < 100 from by decide, nf1⟩, (fun _ h => (by cases h))⟩⟩
set_option maxHeartbeats 4000000 in
theorem vc_Sy_isWordAt_at_s5007_1_r0 (x2 : Int) (x3 : Int) (x4 : Int) (x7 : Int) (x8 : Int) (x9 : Int) (begin_0 : Int) (k2 : 0 ≤ x2 ∧ x2 ≤ 42) (k3 : 1 ≤ x3 ∧ x3 ≤ 43) (k4 : 0 ≤ x4 ∧ x4 ≤ 42) (k7 : 0 ≤ x7 ∧ x7 ≤ 2000) (k8 : 0 ≤ x8 ∧ x8 ≤ 2042) (k9 : (-42) ≤ x9 ∧ x9 ≤ 2042) (d1 : x4 + (-42) ≤ x9 ∧ x9 ≤ x4 + 2000) (d3 : x7 + (-42) ≤ x9 ∧ x9 ≤ x7 + 42) (d6 : x7 + 0 ≤ x8 ∧ x8 ≤ x7 + 42) (d7 : x3 + (-4294967296) ≤ x4 ∧ x4 ≤ x3 + (-1)) (d8 : x4 + (-4294967296) ≤ x2 ∧ x2 ≤ x4 + 0) (f0 : x9 = x8 - x2) (f1 : x8 = x7 + x4) (g2 : x7 = begin_0) (f4 : 1 * begin_0 + (1 * x3 + ((-1) * x2 + 0)) ≤ 2000) (kz_0_7 : 0 ≤ begin_0 ∧ begin_0 ≤ 2000) : 0 ≤ x9 ∧ x9 ≤ 1999 := by
  first | assumption | omega | grind
def o_Sy_isWordAt_at_s5007_1 : or_T := (45, 10, [(0, (2, 0, 0, [11])), (2, (0, 0, 42, [])), (3, (0, 1, 43, [])), (4, (0, 0, 42, [])), (7, (0, 0, 2000, [])), (8, (0, 0, 2042, [])), (9, (0, -42, 2042, []))], [(2, [9, 8, 2], []), (1, [8, 7, 4], []), (9, [7, 0], [7]), (7, [4, 3], [2]), (20, [0, 3, 2], [30, 2000, 1, 1, 7, 1, 0, 0, -1, 0, 0]), (20, [2, 4], [30, 0, 1, 0, 0, -1, 0, 0])], [(9, (0, 0, 1999, []))], [], [], [], [(9, 8, -42, 0), (9, 4, -42, 2000), (9, 3, -4294967296, 1999), (9, 7, -42, 42), (8, 4, 0, 2000), (8, 3, -4294967296, 1999), (8, 7, 0, 42), (4, 3, -4294967296, -1), (2, 4, -4294967296, 0)])
theorem oo_Sy_isWordAt_at_s5007_1 {kA : Nat → ClassId} : or_ok PRD kA GG o_Sy_isWordAt_at_s5007_1 := by
  refine or_mk fun A ta ws vs hD hth hl => ?_
  intro t0 r0 t2 k2 t3 k3 t4 k4 t7 k7 t8 k8 t9 k9 d0 d1 d2 d3 d4 d5 d6 d7 d8 f0 f1 f2 f3 f4 f5
  replace f2 := shm_198 f2
  have g2 : v_iv (n_v vs 7) = w_fi ws (n_v vs 0) 7 := congrArg v_iv f2
  have kz_0_7 := fdq_29 hD hth r0
  have hrf0 : 0 ≤ v_iv (n_v vs 9) ∧ v_iv (n_v vs 9) ≤ 1999 := vc_Sy_isWordAt_at_s5007_1_r0 (v_iv (n_v vs 2)) (v_iv (n_v vs 3)) (v_iv (n_v vs 4)) (v_iv (n_v vs 7)) (v_iv (n_v vs 8)) (v_iv (n_v vs 9)) (w_fi ws (n_v vs 0) 7) k2 k3 k4 k7 k8 k9 d1 d3 d6 d7 d8 (shm_14 f0) (shm_12 f1) g2 (shm_199 f4) kz_0_7
  have rf9 : tv_ok ta (0, 0, 1999, []) (n_v vs 9) := tv_in t9 (by omega) (by omega)
  refine ⟨List.forall_mem_cons.mpr ⟨rf9, (fun _ h => (by cases h))⟩, [], trivial, ?_, (fun _ h => (by cases h))⟩
  rw [List.append_nil]
  exact (fun _ h => (by cases h))
set_option maxHeartbeats 4000000 in
theorem vc_Sy_isWordAt_at_s5007_2_0 (x2 : Int) (x4 : Int) (x7 : Int) (x8 : Int) (x9 : Int) (x11 : Int) (begin_0 : Int) (k2 : 0 ≤ x2 ∧ x2 ≤ 42) (k4 : 0 ≤ x4 ∧ x4 ≤ 42) (k7 : 0 ≤ x7 ∧ x7 ≤ 2000) (k8 : 0 ≤ x8 ∧ x8 ≤ 2042) (k9 : 0 ≤ x9 ∧ x9 ≤ 1999) (k11 : 1 ≤ x11 ∧ x11 ≤ 43) (d0 : x4 + 1 ≤ x11 ∧ x11 ≤ x4 + 1) (d3 : x7 + (-42) ≤ x9 ∧ x9 ≤ x7 + 42) (d8 : x4 + (-4294967296) ≤ x2 ∧ x2 ≤ x4 + 0) (f1 : x9 = x8 - x2) (f2 : x8 = x7 + x4) (g3 : x7 = begin_0) (kz_0_7 : 0 ≤ begin_0 ∧ begin_0 ≤ 2000) : 1 * x2 + ((-1) * x11 + 0) ≤ 0 := by
  first | assumption | omega | grind
def o_Sy_isWordAt_at_s5007_2 : or_T := (20, 12, [(0, (2, 0, 0, [11])), (2, (0, 0, 42, [])), (4, (0, 0, 42, [])), (7, (0, 0, 2000, [])), (8, (0, 0, 2042, [])), (9, (0, 0, 1999, [])), (11, (0, 1, 43, []))], [(2, [9, 8, 2], []), (1, [8, 7, 4], []), (9, [7, 0], [7])], [], [], [(20, [2, 11], [30, 0, 1, 0, 0, -1, 0, 0])], [], [(11, 4, 1, 1), (9, 7, -42, 42), (2, 4, -4294967296, 0)])
theorem oo_Sy_isWordAt_at_s5007_2 {kA : Nat → ClassId} : or_ok PRD kA GG o_Sy_isWordAt_at_s5007_2 := by
  refine or_mk fun A ta ws vs hD hth hl => ?_
  intro t0 r0 t2 k2 t4 k4 t7 k7 t8 k8 t9 k9 t11 k11 d0 d3 d8 f1 f2 f3
  replace f3 := shm_198 f3
  have g3 : v_iv (n_v vs 7) = w_fi ws (n_v vs 0) 7 := congrArg v_iv f3
  have kz_0_7 := fdq_29 hD hth r0
  have nf0 : fc_1 PRD (20, [2, 11], [30, 0, 1, 0, 0, -1, 0, 0]) ws (vs) := ⟨nf_in hl rfl, sgq_201 (vc_Sy_isWordAt_at_s5007_2_0 (v_iv (n_v vs 2)) (v_iv (n_v vs 4)) (v_iv (n_v vs 7)) (v_iv (n_v vs 8)) (v_iv (n_v vs 9)) (v_iv (n_v vs 11)) (w_fi ws (n_v vs 0) 7) k2 k4 k7 k8 k9 k11 d0 d3 d8 (shm_14 f1) (shm_12 f2) g3 kz_0_7)⟩
  refine ⟨(fun _ h => (by cases h)), [], trivial, ?_, (fun _ h => (by cases h))⟩
  rw [List.append_nil]
  exact List.forall_mem_cons.mpr ⟨⟨show (20 : Nat) < 100 from by decide, nf0⟩, (fun _ h => (by cases h))⟩
def n_Sy_isWordAt_at_s5007_an : List an_T := [(20, [(0, (2, 0, 0, [11])), (1, (2, 0, 0, [5007])), (2, (0, 0, 43, [])), (3, (0, 0, 43, [])), (4, (0, 0, 43, []))], [], (0, 0), [(0, 0, 99980), (1, 4, 43), (0, 0, 100000)], [(2, 4, (Int.negSucc 999999999999), 0)], [((0, 3), (2, 0, 0, [109]))], [], 0, [], [(20, [0, 3, 2], [30, 2000, 1, 1, 7, 1, 0, 0, (Int.negSucc 0), 0, 0]), (20, [2, 4], [30, 0, 1, 0, 0, (Int.negSucc 0), 0, 0])])]
def t_Sy_isWordAt_at_s5007_ct : ct_L := [(91, 104, e_jStr_charAt_v267)]
set_option maxRecDepth 100000 in
theorem c_Sy_isWordAt_at_s5007 {l : Launch} {D : va_G} {kA : Nat → ClassId} : ct_ok PRD l D kA GG y_Sy_isWordAt_at_s5007 z_Sy_isWordAt_at_s5007 e_Sy_isWordAt_at_s5007 := chk_all_ok (FT := [(21, 11, 3), (28, 11, 5), (34, 11, 7)]) (PT := []) (CT := t_Sy_isWordAt_at_s5007_ct) (KT := []) (NT := []) (AN := n_Sy_isWordAt_at_s5007_an) (OT := [o_Sy_isWordAt_at_s5007_0, o_Sy_isWordAt_at_s5007_1, o_Sy_isWordAt_at_s5007_2]) 3 200 (List.forall_mem_cons.mpr ⟨oo_Sy_isWordAt_at_s5007_0, List.forall_mem_cons.mpr ⟨oo_Sy_isWordAt_at_s5007_1, List.forall_mem_cons.mpr ⟨oo_Sy_isWordAt_at_s5007_2, List.forall_mem_nil _⟩⟩⟩) (by decide +kernel) ⟨List.forall_mem_cons.mpr ⟨gf_Sy_21, List.forall_mem_cons.mpr ⟨gf_Sy_28, List.forall_mem_cons.mpr ⟨gf_Sy_34, List.forall_mem_nil _⟩⟩⟩, List.forall_mem_nil _, List.forall_mem_cons.mpr ⟨cl_string (y := y_jStr_charAt) (i := 7) rfl rfl (by decide +kernel) rfl c_jStr_charAt_v267 wm_684 wm_11 wm_2231 wm_682 wm_683 ⟨by decide, by decide, by decide +kernel⟩ (by decide), List.forall_mem_nil _⟩, List.forall_mem_nil _, List.forall_mem_nil _, GG_pl⟩ (by decide +kernel)
set_option maxHeartbeats 4000000 in
theorem vc_Sy_isWordAt_at_s5008_0_0 (x2 : Int) (x3 : Int) (x5 : Int) (x6 : Int) (x7 : Int) (begin_0 : Int) (next_0 : Int) (k2 : 0 ≤ x2 ∧ x2 ≤ 0) (k3 : 2 ≤ x3 ∧ x3 ≤ 2) (k5 : 2 ≤ x5 ∧ x5 ≤ 2000) (k6 : 0 ≤ x6 ∧ x6 ≤ 2000) (k7 : 2 ≤ x7 ∧ x7 ≤ 2) (f2 : x7 = x5 - x6) (g3 : x6 = begin_0) (g4 : x5 = next_0) (kz_0_5 : 0 ≤ next_0 ∧ next_0 ≤ 2000) (kz_0_7 : 0 ≤ begin_0 ∧ begin_0 ≤ 2000) : 1 * begin_0 + (1 * x3 + ((-1) * x2 + 0)) ≤ 2000 := by
  first | assumption | omega | grind
set_option maxHeartbeats 4000000 in
theorem vc_Sy_isWordAt_at_s5008_0_1 (x2 : Int) (k2 : 0 ≤ x2 ∧ x2 ≤ 0) : 1 * x2 + ((-1) * x2 + 0) ≤ 0 := by
  first | assumption | omega | grind
def o_Sy_isWordAt_at_s5008_0 : or_T := (20, 9, [(0, (2, 0, 0, [11])), (2, (0, 0, 0, [])), (3, (0, 2, 2, [])), (5, (0, 2, 2000, [])), (6, (0, 0, 2000, [])), (7, (0, 2, 2, []))], [(2, [7, 5, 6], []), (9, [6, 0], [7]), (9, [5, 0], [5])], [], [], [(20, [0, 3, 2], [30, 2000, 1, 1, 7, 1, 0, 0, -1, 0, 0]), (20, [2, 2], [30, 0, 1, 0, 0, -1, 0, 0])], [], [])
theorem oo_Sy_isWordAt_at_s5008_0 {kA : Nat → ClassId} : or_ok PRD kA GG o_Sy_isWordAt_at_s5008_0 := by
  refine or_mk fun A ta ws vs hD hth hl => ?_
  intro t0 r0 t2 k2 t3 k3 t5 k5 t6 k6 t7 k7 f2 f3 f4
  replace f3 := shm_198 f3
  replace f4 := shm_110 f4
  have g3 : v_iv (n_v vs 6) = w_fi ws (n_v vs 0) 7 := congrArg v_iv f3
  have g4 : v_iv (n_v vs 5) = w_fi ws (n_v vs 0) 5 := congrArg v_iv f4
  have kz_0_5 := fdq_28 hD hth r0
  have kz_0_7 := fdq_29 hD hth r0
  have nf0 : fc_1 PRD (20, [0, 3, 2], [30, 2000, 1, 1, 7, 1, 0, 0, -1, 0, 0]) ws (vs) := ⟨nf_in hl rfl, sgq_199 (vc_Sy_isWordAt_at_s5008_0_0 (v_iv (n_v vs 2)) (v_iv (n_v vs 3)) (v_iv (n_v vs 5)) (v_iv (n_v vs 6)) (v_iv (n_v vs 7)) (w_fi ws (n_v vs 0) 7) (w_fi ws (n_v vs 0) 5) k2 k3 k5 k6 k7 (shm_14 f2) g3 g4 kz_0_5 kz_0_7)⟩
  have nf1 : fc_1 PRD (20, [2, 2], [30, 0, 1, 0, 0, -1, 0, 0]) ws (vs) := ⟨nf_in hl rfl, sgq_200 (vc_Sy_isWordAt_at_s5008_0_1 (v_iv (n_v vs 2)) k2)⟩
  refine ⟨(fun _ h => (by cases h)), [], trivial, ?_, (fun _ h => (by cases h))⟩
  rw [List.append_nil]
  exact List.forall_mem_cons.mpr ⟨⟨show (20 : Nat) < 100 from by decide, nf0⟩, List.forall_mem_cons.mpr ⟨⟨show (20 : Nat) < 100 from by decide, nf1⟩, (fun _ h => (by cases h))⟩⟩
set_option maxHeartbeats 4000000 in
theorem vc_Sy_isWordAt_at_s5008_1_r0 (x2 : Int) (x3 : Int) (x4 : Int) (x7 : Int) (x8 : Int) (x9 : Int) (begin_0 : Int) (k2 : 0 ≤ x2 ∧ x2 ≤ 0) (k3 : 2 ≤ x3 ∧ x3 ≤ 2) (k4 : 0 ≤ x4 ∧ x4 ≤ 1) (k7 : 0 ≤ x7 ∧ x7 ≤ 2000) (k8 : 0 ≤ x8 ∧ x8 ≤ 2001) (k9 : 0 ≤ x9 ∧ x9 ≤ 2001) (d0 : x8 + 0 ≤ x9 ∧ x9 ≤ x8 + 0) (f1 : x8 = x7 + x4) (g2 : x7 = begin_0) (f4 : 1 * begin_0 + (1 * x3 + ((-1) * x2 + 0)) ≤ 2000) (kz_0_7 : 0 ≤ begin_0 ∧ begin_0 ≤ 2000) : 0 ≤ x9 ∧ x9 ≤ 1999 := by
  first | assumption | omega | grind
def o_Sy_isWordAt_at_s5008_1 : or_T := (45, 10, [(0, (2, 0, 0, [11])), (2, (0, 0, 0, [])), (3, (0, 2, 2, [])), (4, (0, 0, 1, [])), (7, (0, 0, 2000, [])), (8, (0, 0, 2001, [])), (9, (0, 0, 2001, []))], [(2, [9, 8, 2], []), (1, [8, 7, 4], []), (9, [7, 0], [7]), (7, [4, 3], [2]), (20, [0, 3, 2], [30, 2000, 1, 1, 7, 1, 0, 0, -1, 0, 0]), (20, [2, 4], [30, 0, 1, 0, 0, -1, 0, 0])], [(9, (0, 0, 1999, []))], [], [], [], [(9, 8, 0, 0), (9, 4, 0, 2000), (9, 7, 0, 1), (8, 4, 0, 2000), (8, 7, 0, 1)])
theorem oo_Sy_isWordAt_at_s5008_1 {kA : Nat → ClassId} : or_ok PRD kA GG o_Sy_isWordAt_at_s5008_1 := by
  refine or_mk fun A ta ws vs hD hth hl => ?_
  intro t0 r0 t2 k2 t3 k3 t4 k4 t7 k7 t8 k8 t9 k9 d0 d1 d2 d3 d4 f0 f1 f2 f3 f4 f5
  replace f2 := shm_198 f2
  have g2 : v_iv (n_v vs 7) = w_fi ws (n_v vs 0) 7 := congrArg v_iv f2
  have kz_0_7 := fdq_29 hD hth r0
  have hrf0 : 0 ≤ v_iv (n_v vs 9) ∧ v_iv (n_v vs 9) ≤ 1999 := vc_Sy_isWordAt_at_s5008_1_r0 (v_iv (n_v vs 2)) (v_iv (n_v vs 3)) (v_iv (n_v vs 4)) (v_iv (n_v vs 7)) (v_iv (n_v vs 8)) (v_iv (n_v vs 9)) (w_fi ws (n_v vs 0) 7) k2 k3 k4 k7 k8 k9 d0 (shm_12 f1) g2 (shm_199 f4) kz_0_7
  have rf9 : tv_ok ta (0, 0, 1999, []) (n_v vs 9) := tv_in t9 (by omega) (by omega)
  refine ⟨List.forall_mem_cons.mpr ⟨rf9, (fun _ h => (by cases h))⟩, [], trivial, ?_, (fun _ h => (by cases h))⟩
  rw [List.append_nil]
  exact (fun _ h => (by cases h))
set_option maxHeartbeats 4000000 in
theorem vc_Sy_isWordAt_at_s5008_2_0 (x2 : Int) (x11 : Int) (k2 : 0 ≤ x2 ∧ x2 ≤ 0) (k11 : 1 ≤ x11 ∧ x11 ≤ 2) : 1 * x2 + ((-1) * x11 + 0) ≤ 0 := by
  first | assumption | omega | grind
def o_Sy_isWordAt_at_s5008_2 : or_T := (20, 12, [(2, (0, 0, 0, [])), (11, (0, 1, 2, []))], [], [], [], [(20, [2, 11], [30, 0, 1, 0, 0, -1, 0, 0])], [], [])
theorem oo_Sy_isWordAt_at_s5008_2 {kA : Nat → ClassId} : or_ok PRD kA GG o_Sy_isWordAt_at_s5008_2 := by
  refine or_mk fun A ta ws vs hD hth hl => ?_
  intro t2 k2 t11 k11
  have nf0 : fc_1 PRD (20, [2, 11], [30, 0, 1, 0, 0, -1, 0, 0]) ws (vs) := ⟨nf_in hl rfl, sgq_201 (vc_Sy_isWordAt_at_s5008_2_0 (v_iv (n_v vs 2)) (v_iv (n_v vs 11)) k2 k11)⟩
  refine ⟨(fun _ h => (by cases h)), [], trivial, ?_, (fun _ h => (by cases h))⟩
  rw [List.append_nil]
  exact List.forall_mem_cons.mpr ⟨⟨show (20 : Nat) < 100 from by decide, nf0⟩, (fun _ h => (by cases h))⟩
def n_Sy_isWordAt_at_s5008_an : List an_T := [(20, [(0, (2, 0, 0, [11])), (1, (2, 0, 0, [5008])), (2, (0, 0, 0, [])), (3, (0, 2, 2, [])), (4, (0, 0, 2, []))], [], (0, 0), [(0, 0, 99980), (1, 4, 2), (0, 0, 100000)], [], [((0, 3), (2, 0, 0, [109]))], [], 0, [], [(20, [0, 3, 2], [30, 2000, 1, 1, 7, 1, 0, 0, (Int.negSucc 0), 0, 0]), (20, [2, 4], [30, 0, 1, 0, 0, (Int.negSucc 0), 0, 0])])]
def t_Sy_isWordAt_at_s5008_ct : ct_L := [(91, 104, e_jStr_charAt_v271)]
set_option maxRecDepth 100000 in
theorem c_Sy_isWordAt_at_s5008 {l : Launch} {D : va_G} {kA : Nat → ClassId} : ct_ok PRD l D kA GG y_Sy_isWordAt_at_s5008 z_Sy_isWordAt_at_s5008 e_Sy_isWordAt_at_s5008 := chk_all_ok (FT := [(21, 11, 3), (28, 11, 5), (34, 11, 7)]) (PT := []) (CT := t_Sy_isWordAt_at_s5008_ct) (KT := []) (NT := []) (AN := n_Sy_isWordAt_at_s5008_an) (OT := [o_Sy_isWordAt_at_s5008_0, o_Sy_isWordAt_at_s5008_1, o_Sy_isWordAt_at_s5008_2]) 3 200 (List.forall_mem_cons.mpr ⟨oo_Sy_isWordAt_at_s5008_0, List.forall_mem_cons.mpr ⟨oo_Sy_isWordAt_at_s5008_1, List.forall_mem_cons.mpr ⟨oo_Sy_isWordAt_at_s5008_2, List.forall_mem_nil _⟩⟩⟩) (by decide +kernel) ⟨List.forall_mem_cons.mpr ⟨gf_Sy_21, List.forall_mem_cons.mpr ⟨gf_Sy_28, List.forall_mem_cons.mpr ⟨gf_Sy_34, List.forall_mem_nil _⟩⟩⟩, List.forall_mem_nil _, List.forall_mem_cons.mpr ⟨cl_string (y := y_jStr_charAt) (i := 8) rfl rfl (by decide +kernel) rfl c_jStr_charAt_v271 wm_684 wm_11 wm_2231 wm_682 wm_683 ⟨by decide, by decide, by decide +kernel⟩ (by decide), List.forall_mem_nil _⟩, List.forall_mem_nil _, List.forall_mem_nil _, GG_pl⟩ (by decide +kernel)
set_option maxHeartbeats 4000000 in
theorem vc_Sy_isWordAt_at_s5009_0_0 (x2 : Int) (x3 : Int) (x5 : Int) (x6 : Int) (x7 : Int) (begin_0 : Int) (next_0 : Int) (k2 : 0 ≤ x2 ∧ x2 ≤ 0) (k3 : 3 ≤ x3 ∧ x3 ≤ 3) (k5 : 3 ≤ x5 ∧ x5 ≤ 2000) (k6 : 0 ≤ x6 ∧ x6 ≤ 2000) (k7 : 3 ≤ x7 ∧ x7 ≤ 3) (f2 : x7 = x5 - x6) (g3 : x6 = begin_0) (g4 : x5 = next_0) (kz_0_5 : 0 ≤ next_0 ∧ next_0 ≤ 2000) (kz_0_7 : 0 ≤ begin_0 ∧ begin_0 ≤ 2000) : 1 * begin_0 + (1 * x3 + ((-1) * x2 + 0)) ≤ 2000 := by
  first | assumption | omega | grind
set_option maxHeartbeats 4000000 in
theorem vc_Sy_isWordAt_at_s5009_0_1 (x2 : Int) (k2 : 0 ≤ x2 ∧ x2 ≤ 0) : 1 * x2 + ((-1) * x2 + 0) ≤ 0 := by
  first | assumption | omega | grind
def o_Sy_isWordAt_at_s5009_0 : or_T := (20, 9, [(0, (2, 0, 0, [11])), (2, (0, 0, 0, [])), (3, (0, 3, 3, [])), (5, (0, 3, 2000, [])), (6, (0, 0, 2000, [])), (7, (0, 3, 3, []))], [(2, [7, 5, 6], []), (9, [6, 0], [7]), (9, [5, 0], [5])], [], [], [(20, [0, 3, 2], [30, 2000, 1, 1, 7, 1, 0, 0, -1, 0, 0]), (20, [2, 2], [30, 0, 1, 0, 0, -1, 0, 0])], [], [])
theorem oo_Sy_isWordAt_at_s5009_0 {kA : Nat → ClassId} : or_ok PRD kA GG o_Sy_isWordAt_at_s5009_0 := by
  refine or_mk fun A ta ws vs hD hth hl => ?_
  intro t0 r0 t2 k2 t3 k3 t5 k5 t6 k6 t7 k7 f2 f3 f4
  replace f3 := shm_198 f3
  replace f4 := shm_110 f4
  have g3 : v_iv (n_v vs 6) = w_fi ws (n_v vs 0) 7 := congrArg v_iv f3
  have g4 : v_iv (n_v vs 5) = w_fi ws (n_v vs 0) 5 := congrArg v_iv f4
  have kz_0_5 := fdq_28 hD hth r0
  have kz_0_7 := fdq_29 hD hth r0
  have nf0 : fc_1 PRD (20, [0, 3, 2], [30, 2000, 1, 1, 7, 1, 0, 0, -1, 0, 0]) ws (vs) := ⟨nf_in hl rfl, sgq_199 (vc_Sy_isWordAt_at_s5009_0_0 (v_iv (n_v vs 2)) (v_iv (n_v vs 3)) (v_iv (n_v vs 5)) (v_iv (n_v vs 6)) (v_iv (n_v vs 7)) (w_fi ws (n_v vs 0) 7) (w_fi ws (n_v vs 0) 5) k2 k3 k5 k6 k7 (shm_14 f2) g3 g4 kz_0_5 kz_0_7)⟩
  have nf1 : fc_1 PRD (20, [2, 2], [30, 0, 1, 0, 0, -1, 0, 0]) ws (vs) := ⟨nf_in hl rfl, sgq_200 (vc_Sy_isWordAt_at_s5009_0_1 (v_iv (n_v vs 2)) k2)⟩
  refine ⟨(fun _ h => (by cases h)), [], trivial, ?_, (fun _ h => (by cases h))⟩
  rw [List.append_nil]
  exact List.forall_mem_cons.mpr ⟨⟨show (20 : Nat) < 100 from by decide, nf0⟩, List.forall_mem_cons.mpr ⟨⟨show (20 : Nat) < 100 from by decide, nf1⟩, (fun _ h => (by cases h))⟩⟩
set_option maxHeartbeats 4000000 in
theorem vc_Sy_isWordAt_at_s5009_1_r0 (x2 : Int) (x3 : Int) (x4 : Int) (x7 : Int) (x8 : Int) (x9 : Int) (begin_0 : Int) (k2 : 0 ≤ x2 ∧ x2 ≤ 0) (k3 : 3 ≤ x3 ∧ x3 ≤ 3) (k4 : 0 ≤ x4 ∧ x4 ≤ 2) (k7 : 0 ≤ x7 ∧ x7 ≤ 2000) (k8 : 0 ≤ x8 ∧ x8 ≤ 2002) (k9 : 0 ≤ x9 ∧ x9 ≤ 2002) (d0 : x8 + 0 ≤ x9 ∧ x9 ≤ x8 + 0) (f1 : x8 = x7 + x4) (g2 : x7 = begin_0) (f4 : 1 * begin_0 + (1 * x3 + ((-1) * x2 + 0)) ≤ 2000) (kz_0_7 : 0 ≤ begin_0 ∧ begin_0 ≤ 2000) : 0 ≤ x9 ∧ x9 ≤ 1999 := by
  first | assumption | omega | grind
def o_Sy_isWordAt_at_s5009_1 : or_T := (45, 10, [(0, (2, 0, 0, [11])), (2, (0, 0, 0, [])), (3, (0, 3, 3, [])), (4, (0, 0, 2, [])), (7, (0, 0, 2000, [])), (8, (0, 0, 2002, [])), (9, (0, 0, 2002, []))], [(2, [9, 8, 2], []), (1, [8, 7, 4], []), (9, [7, 0], [7]), (7, [4, 3], [2]), (20, [0, 3, 2], [30, 2000, 1, 1, 7, 1, 0, 0, -1, 0, 0]), (20, [2, 4], [30, 0, 1, 0, 0, -1, 0, 0])], [(9, (0, 0, 1999, []))], [], [], [], [(9, 8, 0, 0), (9, 4, 0, 2000), (9, 7, 0, 2), (8, 4, 0, 2000), (8, 7, 0, 2)])
theorem oo_Sy_isWordAt_at_s5009_1 {kA : Nat → ClassId} : or_ok PRD kA GG o_Sy_isWordAt_at_s5009_1 := by
  refine or_mk fun A ta ws vs hD hth hl => ?_
  intro t0 r0 t2 k2 t3 k3 t4 k4 t7 k7 t8 k8 t9 k9 d0 d1 d2 d3 d4 f0 f1 f2 f3 f4 f5
  replace f2 := shm_198 f2
  have g2 : v_iv (n_v vs 7) = w_fi ws (n_v vs 0) 7 := congrArg v_iv f2
  have kz_0_7 := fdq_29 hD hth r0
  have hrf0 : 0 ≤ v_iv (n_v vs 9) ∧ v_iv (n_v vs 9) ≤ 1999 := vc_Sy_isWordAt_at_s5009_1_r0 (v_iv (n_v vs 2)) (v_iv (n_v vs 3)) (v_iv (n_v vs 4)) (v_iv (n_v vs 7)) (v_iv (n_v vs 8)) (v_iv (n_v vs 9)) (w_fi ws (n_v vs 0) 7) k2 k3 k4 k7 k8 k9 d0 (shm_12 f1) g2 (shm_199 f4) kz_0_7
  have rf9 : tv_ok ta (0, 0, 1999, []) (n_v vs 9) := tv_in t9 (by omega) (by omega)
  refine ⟨List.forall_mem_cons.mpr ⟨rf9, (fun _ h => (by cases h))⟩, [], trivial, ?_, (fun _ h => (by cases h))⟩
  rw [List.append_nil]
  exact (fun _ h => (by cases h))
set_option maxHeartbeats 4000000 in
theorem vc_Sy_isWordAt_at_s5009_2_0 (x2 : Int) (x11 : Int) (k2 : 0 ≤ x2 ∧ x2 ≤ 0) (k11 : 1 ≤ x11 ∧ x11 ≤ 3) : 1 * x2 + ((-1) * x11 + 0) ≤ 0 := by
  first | assumption | omega | grind
def o_Sy_isWordAt_at_s5009_2 : or_T := (20, 12, [(2, (0, 0, 0, [])), (11, (0, 1, 3, []))], [], [], [], [(20, [2, 11], [30, 0, 1, 0, 0, -1, 0, 0])], [], [])
theorem oo_Sy_isWordAt_at_s5009_2 {kA : Nat → ClassId} : or_ok PRD kA GG o_Sy_isWordAt_at_s5009_2 := by
  refine or_mk fun A ta ws vs hD hth hl => ?_
  intro t2 k2 t11 k11
  have nf0 : fc_1 PRD (20, [2, 11], [30, 0, 1, 0, 0, -1, 0, 0]) ws (vs) := ⟨nf_in hl rfl, sgq_201 (vc_Sy_isWordAt_at_s5009_2_0 (v_iv (n_v vs 2)) (v_iv (n_v vs 11)) k2 k11)⟩
  refine ⟨(fun _ h => (by cases h)), [], trivial, ?_, (fun _ h => (by cases h))⟩
  rw [List.append_nil]
  exact List.forall_mem_cons.mpr ⟨⟨show (20 : Nat) < 100 from by decide, nf0⟩, (fun _ h => (by cases h))⟩
def n_Sy_isWordAt_at_s5009_an : List an_T := [(20, [(0, (2, 0, 0, [11])), (1, (2, 0, 0, [5009])), (2, (0, 0, 0, [])), (3, (0, 3, 3, [])), (4, (0, 0, 3, []))], [], (0, 0), [(0, 0, 99980), (1, 4, 3), (0, 0, 100000)], [], [((0, 3), (2, 0, 0, [109]))], [], 0, [], [(20, [0, 3, 2], [30, 2000, 1, 1, 7, 1, 0, 0, (Int.negSucc 0), 0, 0]), (20, [2, 4], [30, 0, 1, 0, 0, (Int.negSucc 0), 0, 0])])]
def t_Sy_isWordAt_at_s5009_ct : ct_L := [(91, 104, e_jStr_charAt_v275)]
set_option maxRecDepth 100000 in
theorem c_Sy_isWordAt_at_s5009 {l : Launch} {D : va_G} {kA : Nat → ClassId} : ct_ok PRD l D kA GG y_Sy_isWordAt_at_s5009 z_Sy_isWordAt_at_s5009 e_Sy_isWordAt_at_s5009 := chk_all_ok (FT := [(21, 11, 3), (28, 11, 5), (34, 11, 7)]) (PT := []) (CT := t_Sy_isWordAt_at_s5009_ct) (KT := []) (NT := []) (AN := n_Sy_isWordAt_at_s5009_an) (OT := [o_Sy_isWordAt_at_s5009_0, o_Sy_isWordAt_at_s5009_1, o_Sy_isWordAt_at_s5009_2]) 3 200 (List.forall_mem_cons.mpr ⟨oo_Sy_isWordAt_at_s5009_0, List.forall_mem_cons.mpr ⟨oo_Sy_isWordAt_at_s5009_1, List.forall_mem_cons.mpr ⟨oo_Sy_isWordAt_at_s5009_2, List.forall_mem_nil _⟩⟩⟩) (by decide +kernel) ⟨List.forall_mem_cons.mpr ⟨gf_Sy_21, List.forall_mem_cons.mpr ⟨gf_Sy_28, List.forall_mem_cons.mpr ⟨gf_Sy_34, List.forall_mem_nil _⟩⟩⟩, List.forall_mem_nil _, List.forall_mem_cons.mpr ⟨cl_string (y := y_jStr_charAt) (i := 9) rfl rfl (by decide +kernel) rfl c_jStr_charAt_v275 wm_684 wm_11 wm_2231 wm_682 wm_683 ⟨by decide, by decide, by decide +kernel⟩ (by decide), List.forall_mem_nil _⟩, List.forall_mem_nil _, List.forall_mem_nil _, GG_pl⟩ (by decide +kernel)
set_option maxHeartbeats 4000000 in
theorem vc_Sy_isWordAt_at_s5010_0_0 (x2 : Int) (x3 : Int) (x5 : Int) (x6 : Int) (x7 : Int) (begin_0 : Int) (next_0 : Int) (k2 : 0 ≤ x2 ∧ x2 ≤ 0) (k3 : 3 ≤ x3 ∧ x3 ≤ 3) (k5 : 3 ≤ x5 ∧ x5 ≤ 2000) (k6 : 0 ≤ x6 ∧ x6 ≤ 2000) (k7 : 3 ≤ x7 ∧ x7 ≤ 3) (f2 : x7 = x5 - x6) (g3 : x6 = begin_0) (g4 : x5 = next_0) (kz_0_5 : 0 ≤ next_0 ∧ next_0 ≤ 2000) (kz_0_7 : 0 ≤ begin_0 ∧ begin_0 ≤ 2000) : 1 * begin_0 + (1 * x3 + ((-1) * x2 + 0)) ≤ 2000 := by
  first | assumption | omega | grind
set_option maxHeartbeats 4000000 in
theorem vc_Sy_isWordAt_at_s5010_0_1 (x2 : Int) (k2 : 0 ≤ x2 ∧ x2 ≤ 0) : 1 * x2 + ((-1) * x2 + 0) ≤ 0 := by
  first | assumption | omega | grind
def o_Sy_isWordAt_at_s5010_0 : or_T := (20, 9, [(0, (2, 0, 0, [11])), (2, (0, 0, 0, [])), (3, (0, 3, 3, [])), (5, (0, 3, 2000, [])), (6, (0, 0, 2000, [])), (7, (0, 3, 3, []))], [(2, [7, 5, 6], []), (9, [6, 0], [7]), (9, [5, 0], [5])], [], [], [(20, [0, 3, 2], [30, 2000, 1, 1, 7, 1, 0, 0, -1, 0, 0]), (20, [2, 2], [30, 0, 1, 0, 0, -1, 0, 0])], [], [])
theorem oo_Sy_isWordAt_at_s5010_0 {kA : Nat → ClassId} : or_ok PRD kA GG o_Sy_isWordAt_at_s5010_0 := by
  refine or_mk fun A ta ws vs hD hth hl => ?_
  intro t0 r0 t2 k2 t3 k3 t5 k5 t6 k6 t7 k7 f2 f3 f4
  replace f3 := shm_198 f3
  replace f4 := shm_110 f4
  have g3 : v_iv (n_v vs 6) = w_fi ws (n_v vs 0) 7 := congrArg v_iv f3
  have g4 : v_iv (n_v vs 5) = w_fi ws (n_v vs 0) 5 := congrArg v_iv f4
  have kz_0_5 := fdq_28 hD hth r0
  have kz_0_7 := fdq_29 hD hth r0
  have nf0 : fc_1 PRD (20, [0, 3, 2], [30, 2000, 1, 1, 7, 1, 0, 0, -1, 0, 0]) ws (vs) := ⟨nf_in hl rfl, sgq_199 (vc_Sy_isWordAt_at_s5010_0_0 (v_iv (n_v vs 2)) (v_iv (n_v vs 3)) (v_iv (n_v vs 5)) (v_iv (n_v vs 6)) (v_iv (n_v vs 7)) (w_fi ws (n_v vs 0) 7) (w_fi ws (n_v vs 0) 5) k2 k3 k5 k6 k7 (shm_14 f2) g3 g4 kz_0_5 kz_0_7)⟩
  have nf1 : fc_1 PRD (20, [2, 2], [30, 0, 1, 0, 0, -1, 0, 0]) ws (vs) := ⟨nf_in hl rfl, sgq_200 (vc_Sy_isWordAt_at_s5010_0_1 (v_iv (n_v vs 2)) k2)⟩
  refine ⟨(fun _ h => (by cases h)), [], trivial, ?_, (fun _ h => (by cases h))⟩
  rw [List.append_nil]
  exact List.forall_mem_cons.mpr ⟨⟨show (20 : Nat) < 100 from by decide, nf0⟩, List.forall_mem_cons.mpr ⟨⟨show (20 : Nat) < 100 from by decide, nf1⟩, (fun _ h => (by cases h))⟩⟩
set_option maxHeartbeats 4000000 in
theorem vc_Sy_isWordAt_at_s5010_1_r0 (x2 : Int) (x3 : Int) (x4 : Int) (x7 : Int) (x8 : Int) (x9 : Int) (begin_0 : Int) (k2 : 0 ≤ x2 ∧ x2 ≤ 0) (k3 : 3 ≤ x3 ∧ x3 ≤ 3) (k4 : 0 ≤ x4 ∧ x4 ≤ 2) (k7 : 0 ≤ x7 ∧ x7 ≤ 2000) (k8 : 0 ≤ x8 ∧ x8 ≤ 2002) (k9 : 0 ≤ x9 ∧ x9 ≤ 2002) (d0 : x8 + 0 ≤ x9 ∧ x9 ≤ x8 + 0) (f1 : x8 = x7 + x4) (g2 : x7 = begin_0) (f4 : 1 * begin_0 + (1 * x3 + ((-1) * x2 + 0)) ≤ 2000) (kz_0_7 : 0 ≤ begin_0 ∧ begin_0 ≤ 2000) : 0 ≤ x9 ∧ x9 ≤ 1999 := by
  first | assumption | omega | grind
def o_Sy_isWordAt_at_s5010_1 : or_T := (45, 10, [(0, (2, 0, 0, [11])), (2, (0, 0, 0, [])), (3, (0, 3, 3, [])), (4, (0, 0, 2, [])), (7, (0, 0, 2000, [])), (8, (0, 0, 2002, [])), (9, (0, 0, 2002, []))], [(2, [9, 8, 2], []), (1, [8, 7, 4], []), (9, [7, 0], [7]), (7, [4, 3], [2]), (20, [0, 3, 2], [30, 2000, 1, 1, 7, 1, 0, 0, -1, 0, 0]), (20, [2, 4], [30, 0, 1, 0, 0, -1, 0, 0])], [(9, (0, 0, 1999, []))], [], [], [], [(9, 8, 0, 0), (9, 4, 0, 2000), (9, 7, 0, 2), (8, 4, 0, 2000), (8, 7, 0, 2)])
theorem oo_Sy_isWordAt_at_s5010_1 {kA : Nat → ClassId} : or_ok PRD kA GG o_Sy_isWordAt_at_s5010_1 := by
  refine or_mk fun A ta ws vs hD hth hl => ?_
  intro t0 r0 t2 k2 t3 k3 t4 k4 t7 k7 t8 k8 t9 k9 d0 d1 d2 d3 d4 f0 f1 f2 f3 f4 f5
  replace f2 := shm_198 f2
  have g2 : v_iv (n_v vs 7) = w_fi ws (n_v vs 0) 7 := congrArg v_iv f2
  have kz_0_7 := fdq_29 hD hth r0
  have hrf0 : 0 ≤ v_iv (n_v vs 9) ∧ v_iv (n_v vs 9) ≤ 1999 := vc_Sy_isWordAt_at_s5010_1_r0 (v_iv (n_v vs 2)) (v_iv (n_v vs 3)) (v_iv (n_v vs 4)) (v_iv (n_v vs 7)) (v_iv (n_v vs 8)) (v_iv (n_v vs 9)) (w_fi ws (n_v vs 0) 7) k2 k3 k4 k7 k8 k9 d0 (shm_12 f1) g2 (shm_199 f4) kz_0_7
  have rf9 : tv_ok ta (0, 0, 1999, []) (n_v vs 9) := tv_in t9 (by omega) (by omega)
  refine ⟨List.forall_mem_cons.mpr ⟨rf9, (fun _ h => (by cases h))⟩, [], trivial, ?_, (fun _ h => (by cases h))⟩
  rw [List.append_nil]
  exact (fun _ h => (by cases h))
set_option maxHeartbeats 4000000 in
theorem vc_Sy_isWordAt_at_s5010_2_0 (x2 : Int) (x11 : Int) (k2 : 0 ≤ x2 ∧ x2 ≤ 0) (k11 : 1 ≤ x11 ∧ x11 ≤ 3) : 1 * x2 + ((-1) * x11 + 0) ≤ 0 := by
  first | assumption | omega | grind
def o_Sy_isWordAt_at_s5010_2 : or_T := (20, 12, [(2, (0, 0, 0, [])), (11, (0, 1, 3, []))], [], [], [], [(20, [2, 11], [30, 0, 1, 0, 0, -1, 0, 0])], [], [])
theorem oo_Sy_isWordAt_at_s5010_2 {kA : Nat → ClassId} : or_ok PRD kA GG o_Sy_isWordAt_at_s5010_2 := by
  refine or_mk fun A ta ws vs hD hth hl => ?_
  intro t2 k2 t11 k11
  have nf0 : fc_1 PRD (20, [2, 11], [30, 0, 1, 0, 0, -1, 0, 0]) ws (vs) := ⟨nf_in hl rfl, sgq_201 (vc_Sy_isWordAt_at_s5010_2_0 (v_iv (n_v vs 2)) (v_iv (n_v vs 11)) k2 k11)⟩
  refine ⟨(fun _ h => (by cases h)), [], trivial, ?_, (fun _ h => (by cases h))⟩
  rw [List.append_nil]
  exact List.forall_mem_cons.mpr ⟨⟨show (20 : Nat) < 100 from by decide, nf0⟩, (fun _ h => (by cases h))⟩
def n_Sy_isWordAt_at_s5010_an : List an_T := [(20, [(0, (2, 0, 0, [11])), (1, (2, 0, 0, [5010])), (2, (0, 0, 0, [])), (3, (0, 3, 3, [])), (4, (0, 0, 3, []))], [], (0, 0), [(0, 0, 99980), (1, 4, 3), (0, 0, 100000)], [], [((0, 3), (2, 0, 0, [109]))], [], 0, [], [(20, [0, 3, 2], [30, 2000, 1, 1, 7, 1, 0, 0, (Int.negSucc 0), 0, 0]), (20, [2, 4], [30, 0, 1, 0, 0, (Int.negSucc 0), 0, 0])])]
def t_Sy_isWordAt_at_s5010_ct : ct_L := [(91, 104, e_jStr_charAt_v279)]
set_option maxRecDepth 100000 in
theorem c_Sy_isWordAt_at_s5010 {l : Launch} {D : va_G} {kA : Nat → ClassId} : ct_ok PRD l D kA GG y_Sy_isWordAt_at_s5010 z_Sy_isWordAt_at_s5010 e_Sy_isWordAt_at_s5010 := chk_all_ok (FT := [(21, 11, 3), (28, 11, 5), (34, 11, 7)]) (PT := []) (CT := t_Sy_isWordAt_at_s5010_ct) (KT := []) (NT := []) (AN := n_Sy_isWordAt_at_s5010_an) (OT := [o_Sy_isWordAt_at_s5010_0, o_Sy_isWordAt_at_s5010_1, o_Sy_isWordAt_at_s5010_2]) 3 200 (List.forall_mem_cons.mpr ⟨oo_Sy_isWordAt_at_s5010_0, List.forall_mem_cons.mpr ⟨oo_Sy_isWordAt_at_s5010_1, List.forall_mem_cons.mpr ⟨oo_Sy_isWordAt_at_s5010_2, List.forall_mem_nil _⟩⟩⟩) (by decide +kernel) ⟨List.forall_mem_cons.mpr ⟨gf_Sy_21, List.forall_mem_cons.mpr ⟨gf_Sy_28, List.forall_mem_cons.mpr ⟨gf_Sy_34, List.forall_mem_nil _⟩⟩⟩, List.forall_mem_nil _, List.forall_mem_cons.mpr ⟨cl_string (y := y_jStr_charAt) (i := 10) rfl rfl (by decide +kernel) rfl c_jStr_charAt_v279 wm_684 wm_11 wm_2231 wm_682 wm_683 ⟨by decide, by decide, by decide +kernel⟩ (by decide), List.forall_mem_nil _⟩, List.forall_mem_nil _, List.forall_mem_nil _, GG_pl⟩ (by decide +kernel)
set_option maxHeartbeats 4000000 in
theorem vc_Sy_isWordAt_at_s5011_0_0 (x2 : Int) (x3 : Int) (x5 : Int) (x6 : Int) (x7 : Int) (begin_0 : Int) (next_0 : Int) (k2 : 0 ≤ x2 ∧ x2 ≤ 0) (k3 : 2 ≤ x3 ∧ x3 ≤ 2) (k5 : 2 ≤ x5 ∧ x5 ≤ 2000) (k6 : 0 ≤ x6 ∧ x6 ≤ 2000) (k7 : 2 ≤ x7 ∧ x7 ≤ 2) (f2 : x7 = x5 - x6) (g3 : x6 = begin_0) (g4 : x5 = next_0) (kz_0_5 : 0 ≤ next_0 ∧ next_0 ≤ 2000) (kz_0_7 : 0 ≤ begin_0 ∧ begin_0 ≤ 2000) : 1 * begin_0 + (1 * x3 + ((-1) * x2 + 0)) ≤ 2000 := by
  first | assumption | omega | grind
set_option maxHeartbeats 4000000 in
theorem vc_Sy_isWordAt_at_s5011_0_1 (x2 : Int) (k2 : 0 ≤ x2 ∧ x2 ≤ 0) : 1 * x2 + ((-1) * x2 + 0) ≤ 0 := by
  first | assumption | omega | grind
def o_Sy_isWordAt_at_s5011_0 : or_T := (20, 9, [(0, (2, 0, 0, [11])), (2, (0, 0, 0, [])), (3, (0, 2, 2, [])), (5, (0, 2, 2000, [])), (6, (0, 0, 2000, [])), (7, (0, 2, 2, []))], [(2, [7, 5, 6], []), (9, [6, 0], [7]), (9, [5, 0], [5])], [], [], [(20, [0, 3, 2], [30, 2000, 1, 1, 7, 1, 0, 0, -1, 0, 0]), (20, [2, 2], [30, 0, 1, 0, 0, -1, 0, 0])], [], [])
theorem oo_Sy_isWordAt_at_s5011_0 {kA : Nat → ClassId} : or_ok PRD kA GG o_Sy_isWordAt_at_s5011_0 := by
  refine or_mk fun A ta ws vs hD hth hl => ?_
  intro t0 r0 t2 k2 t3 k3 t5 k5 t6 k6 t7 k7 f2 f3 f4
  replace f3 := shm_198 f3
  replace f4 := shm_110 f4
  have g3 : v_iv (n_v vs 6) = w_fi ws (n_v vs 0) 7 := congrArg v_iv f3
  have g4 : v_iv (n_v vs 5) = w_fi ws (n_v vs 0) 5 := congrArg v_iv f4
  have kz_0_5 := fdq_28 hD hth r0
  have kz_0_7 := fdq_29 hD hth r0
  have nf0 : fc_1 PRD (20, [0, 3, 2], [30, 2000, 1, 1, 7, 1, 0, 0, -1, 0, 0]) ws (vs) := ⟨nf_in hl rfl, sgq_199 (vc_Sy_isWordAt_at_s5011_0_0 (v_iv (n_v vs 2)) (v_iv (n_v vs 3)) (v_iv (n_v vs 5)) (v_iv (n_v vs 6)) (v_iv (n_v vs 7)) (w_fi ws (n_v vs 0) 7) (w_fi ws (n_v vs 0) 5) k2 k3 k5 k6 k7 (shm_14 f2) g3 g4 kz_0_5 kz_0_7)⟩
  have nf1 : fc_1 PRD (20, [2, 2], [30, 0, 1, 0, 0, -1, 0, 0]) ws (vs) := ⟨nf_in hl rfl, sgq_200 (vc_Sy_isWordAt_at_s5011_0_1 (v_iv (n_v vs 2)) k2)⟩
  refine ⟨(fun _ h => (by cases h)), [], trivial, ?_, (fun _ h => (by cases h))⟩
  rw [List.append_nil]
  exact List.forall_mem_cons.mpr ⟨⟨show (20 : Nat) < 100 from by decide, nf0⟩, List.forall_mem_cons.mpr ⟨⟨show (20 : Nat) < 100 from by decide, nf1⟩, (fun _ h => (by cases h))⟩⟩
set_option maxHeartbeats 4000000 in
theorem vc_Sy_isWordAt_at_s5011_1_r0 (x2 : Int) (x3 : Int) (x4 : Int) (x7 : Int) (x8 : Int) (x9 : Int) (begin_0 : Int) (k2 : 0 ≤ x2 ∧ x2 ≤ 0) (k3 : 2 ≤ x3 ∧ x3 ≤ 2) (k4 : 0 ≤ x4 ∧ x4 ≤ 1) (k7 : 0 ≤ x7 ∧ x7 ≤ 2000) (k8 : 0 ≤ x8 ∧ x8 ≤ 2001) (k9 : 0 ≤ x9 ∧ x9 ≤ 2001) (d0 : x8 + 0 ≤ x9 ∧ x9 ≤ x8 + 0) (f1 : x8 = x7 + x4) (g2 : x7 = begin_0) (f4 : 1 * begin_0 + (1 * x3 + ((-1) * x2 + 0)) ≤ 2000) (kz_0_7 : 0 ≤ begin_0 ∧ begin_0 ≤ 2000) : 0 ≤ x9 ∧ x9 ≤ 1999 := by
  first | assumption | omega | grind
def o_Sy_isWordAt_at_s5011_1 : or_T := (45, 10, [(0, (2, 0, 0, [11])), (2, (0, 0, 0, [])), (3, (0, 2, 2, [])), (4, (0, 0, 1, [])), (7, (0, 0, 2000, [])), (8, (0, 0, 2001, [])), (9, (0, 0, 2001, []))], [(2, [9, 8, 2], []), (1, [8, 7, 4], []), (9, [7, 0], [7]), (7, [4, 3], [2]), (20, [0, 3, 2], [30, 2000, 1, 1, 7, 1, 0, 0, -1, 0, 0]), (20, [2, 4], [30, 0, 1, 0, 0, -1, 0, 0])], [(9, (0, 0, 1999, []))], [], [], [], [(9, 8, 0, 0), (9, 4, 0, 2000), (9, 7, 0, 1), (8, 4, 0, 2000), (8, 7, 0, 1)])
theorem oo_Sy_isWordAt_at_s5011_1 {kA : Nat → ClassId} : or_ok PRD kA GG o_Sy_isWordAt_at_s5011_1 := by
  refine or_mk fun A ta ws vs hD hth hl => ?_
  intro t0 r0 t2 k2 t3 k3 t4 k4 t7 k7 t8 k8 t9 k9 d0 d1 d2 d3 d4 f0 f1 f2 f3 f4 f5
  replace f2 := shm_198 f2
  have g2 : v_iv (n_v vs 7) = w_fi ws (n_v vs 0) 7 := congrArg v_iv f2
  have kz_0_7 := fdq_29 hD hth r0
  have hrf0 : 0 ≤ v_iv (n_v vs 9) ∧ v_iv (n_v vs 9) ≤ 1999 := vc_Sy_isWordAt_at_s5011_1_r0 (v_iv (n_v vs 2)) (v_iv (n_v vs 3)) (v_iv (n_v vs 4)) (v_iv (n_v vs 7)) (v_iv (n_v vs 8)) (v_iv (n_v vs 9)) (w_fi ws (n_v vs 0) 7) k2 k3 k4 k7 k8 k9 d0 (shm_12 f1) g2 (shm_199 f4) kz_0_7
  have rf9 : tv_ok ta (0, 0, 1999, []) (n_v vs 9) := tv_in t9 (by omega) (by omega)
  refine ⟨List.forall_mem_cons.mpr ⟨rf9, (fun _ h => (by cases h))⟩, [], trivial, ?_, (fun _ h => (by cases h))⟩
  rw [List.append_nil]
  exact (fun _ h => (by cases h))
set_option maxHeartbeats 4000000 in
theorem vc_Sy_isWordAt_at_s5011_2_0 (x2 : Int) (x11 : Int) (k2 : 0 ≤ x2 ∧ x2 ≤ 0) (k11 : 1 ≤ x11 ∧ x11 ≤ 2) : 1 * x2 + ((-1) * x11 + 0) ≤ 0 := by
  first | assumption | omega | grind
def o_Sy_isWordAt_at_s5011_2 : or_T := (20, 12, [(2, (0, 0, 0, [])), (11, (0, 1, 2, []))], [], [], [], [(20, [2, 11], [30, 0, 1, 0, 0, -1, 0, 0])], [], [])
theorem oo_Sy_isWordAt_at_s5011_2 {kA : Nat → ClassId} : or_ok PRD kA GG o_Sy_isWordAt_at_s5011_2 := by
  refine or_mk fun A ta ws vs hD hth hl => ?_
  intro t2 k2 t11 k11
  have nf0 : fc_1 PRD (20, [2, 11], [30, 0, 1, 0, 0, -1, 0, 0]) ws (vs) := ⟨nf_in hl rfl, sgq_201 (vc_Sy_isWordAt_at_s5011_2_0 (v_iv (n_v vs 2)) (v_iv (n_v vs 11)) k2 k11)⟩
  refine ⟨(fun _ h => (by cases h)), [], trivial, ?_, (fun _ h => (by cases h))⟩
  rw [List.append_nil]
  exact List.forall_mem_cons.mpr ⟨⟨show (20 : Nat) < 100 from by decide, nf0⟩, (fun _ h => (by cases h))⟩
def n_Sy_isWordAt_at_s5011_an : List an_T := [(20, [(0, (2, 0, 0, [11])), (1, (2, 0, 0, [5011])), (2, (0, 0, 0, [])), (3, (0, 2, 2, [])), (4, (0, 0, 2, []))], [], (0, 0), [(0, 0, 99980), (1, 4, 2), (0, 0, 100000)], [], [((0, 3), (2, 0, 0, [109]))], [], 0, [], [(20, [0, 3, 2], [30, 2000, 1, 1, 7, 1, 0, 0, (Int.negSucc 0), 0, 0]), (20, [2, 4], [30, 0, 1, 0, 0, (Int.negSucc 0), 0, 0])])]
def t_Sy_isWordAt_at_s5011_ct : ct_L := [(91, 104, e_jStr_charAt_v281)]
set_option maxRecDepth 100000 in
theorem c_Sy_isWordAt_at_s5011 {l : Launch} {D : va_G} {kA : Nat → ClassId} : ct_ok PRD l D kA GG y_Sy_isWordAt_at_s5011 z_Sy_isWordAt_at_s5011 e_Sy_isWordAt_at_s5011 := chk_all_ok (FT := [(21, 11, 3), (28, 11, 5), (34, 11, 7)]) (PT := []) (CT := t_Sy_isWordAt_at_s5011_ct) (KT := []) (NT := []) (AN := n_Sy_isWordAt_at_s5011_an) (OT := [o_Sy_isWordAt_at_s5011_0, o_Sy_isWordAt_at_s5011_1, o_Sy_isWordAt_at_s5011_2]) 3 200 (List.forall_mem_cons.mpr ⟨oo_Sy_isWordAt_at_s5011_0, List.forall_mem_cons.mpr ⟨oo_Sy_isWordAt_at_s5011_1, List.forall_mem_cons.mpr ⟨oo_Sy_isWordAt_at_s5011_2, List.forall_mem_nil _⟩⟩⟩) (by decide +kernel) ⟨List.forall_mem_cons.mpr ⟨gf_Sy_21, List.forall_mem_cons.mpr ⟨gf_Sy_28, List.forall_mem_cons.mpr ⟨gf_Sy_34, List.forall_mem_nil _⟩⟩⟩, List.forall_mem_nil _, List.forall_mem_cons.mpr ⟨cl_string (y := y_jStr_charAt) (i := 11) rfl rfl (by decide +kernel) rfl c_jStr_charAt_v281 wm_684 wm_11 wm_2231 wm_682 wm_683 ⟨by decide, by decide, by decide +kernel⟩ (by decide), List.forall_mem_nil _⟩, List.forall_mem_nil _, List.forall_mem_nil _, GG_pl⟩ (by decide +kernel)
set_option maxHeartbeats 4000000 in
theorem vc_Sy_isWordAt_at_s5012_0_0 (x2 : Int) (x3 : Int) (x5 : Int) (x6 : Int) (x7 : Int) (x8 : Int) (begin_0 : Int) (next_0 : Int) (k2 : 0 ≤ x2 ∧ x2 ≤ 12) (k3 : 5 ≤ x3 ∧ x3 ≤ 16) (k5 : 0 ≤ x5 ∧ x5 ≤ 2000) (k6 : 0 ≤ x6 ∧ x6 ≤ 2000) (k7 : (-7) ≤ x7 ∧ x7 ≤ 16) (k8 : (-7) ≤ x8 ∧ x8 ≤ 16) (d0 : x8 + 0 ≤ x7 ∧ x7 ≤ x8 + 0) (f1 : x8 = x3 - x2) (f2 : x7 = x5 - x6) (g3 : x6 = begin_0) (g4 : x5 = next_0) (kz_0_5 : 0 ≤ next_0 ∧ next_0 ≤ 2000) (kz_0_7 : 0 ≤ begin_0 ∧ begin_0 ≤ 2000) : 1 * begin_0 + (1 * x3 + ((-1) * x2 + 0)) ≤ 2000 := by
  first | assumption | omega | grind
set_option maxHeartbeats 4000000 in
theorem vc_Sy_isWordAt_at_s5012_0_1 (x2 : Int) (k2 : 0 ≤ x2 ∧ x2 ≤ 12) : 1 * x2 + ((-1) * x2 + 0) ≤ 0 := by
  first | assumption | omega | grind
def o_Sy_isWordAt_at_s5012_0 : or_T := (20, 9, [(0, (2, 0, 0, [11])), (2, (0, 0, 12, [])), (3, (0, 5, 16, [])), (5, (0, 0, 2000, [])), (6, (0, 0, 2000, [])), (7, (0, -7, 16, [])), (8, (0, -7, 16, []))], [(2, [8, 3, 2], []), (2, [7, 5, 6], []), (9, [6, 0], [7]), (9, [5, 0], [5])], [], [], [(20, [0, 3, 2], [30, 2000, 1, 1, 7, 1, 0, 0, -1, 0, 0]), (20, [2, 2], [30, 0, 1, 0, 0, -1, 0, 0])], [], [(7, 8, 0, 0)])
theorem oo_Sy_isWordAt_at_s5012_0 {kA : Nat → ClassId} : or_ok PRD kA GG o_Sy_isWordAt_at_s5012_0 := by
  refine or_mk fun A ta ws vs hD hth hl => ?_
  intro t0 r0 t2 k2 t3 k3 t5 k5 t6 k6 t7 k7 t8 k8 d0 f1 f2 f3 f4
  replace f3 := shm_198 f3
  replace f4 := shm_110 f4
  have g3 : v_iv (n_v vs 6) = w_fi ws (n_v vs 0) 7 := congrArg v_iv f3
  have g4 : v_iv (n_v vs 5) = w_fi ws (n_v vs 0) 5 := congrArg v_iv f4
  have kz_0_5 := fdq_28 hD hth r0
  have kz_0_7 := fdq_29 hD hth r0
  have nf0 : fc_1 PRD (20, [0, 3, 2], [30, 2000, 1, 1, 7, 1, 0, 0, -1, 0, 0]) ws (vs) := ⟨nf_in hl rfl, sgq_199 (vc_Sy_isWordAt_at_s5012_0_0 (v_iv (n_v vs 2)) (v_iv (n_v vs 3)) (v_iv (n_v vs 5)) (v_iv (n_v vs 6)) (v_iv (n_v vs 7)) (v_iv (n_v vs 8)) (w_fi ws (n_v vs 0) 7) (w_fi ws (n_v vs 0) 5) k2 k3 k5 k6 k7 k8 d0 (shm_14 f1) (shm_14 f2) g3 g4 kz_0_5 kz_0_7)⟩
  have nf1 : fc_1 PRD (20, [2, 2], [30, 0, 1, 0, 0, -1, 0, 0]) ws (vs) := ⟨nf_in hl rfl, sgq_200 (vc_Sy_isWordAt_at_s5012_0_1 (v_iv (n_v vs 2)) k2)⟩
  refine ⟨(fun _ h => (by cases h)), [], trivial, ?_, (fun _ h => (by cases h))⟩
  rw [List.append_nil]
  exact List.forall_mem_cons.mpr ⟨⟨show (20 : Nat) < 100 from by decide, nf0⟩, List.forall_mem_cons.mpr ⟨⟨show (20 : Nat) < 100 from by decide, nf1⟩, (fun _ h => (by cases h))⟩⟩
set_option maxHeartbeats 4000000 in
theorem vc_Sy_isWordAt_at_s5012_1_r0 (x2 : Int) (x3 : Int) (x4 : Int) (x7 : Int) (x8 : Int) (x9 : Int) (begin_0 : Int) (k2 : 0 ≤ x2 ∧ x2 ≤ 12) (k3 : 5 ≤ x3 ∧ x3 ≤ 16) (k4 : 0 ≤ x4 ∧ x4 ≤ 15) (k7 : 0 ≤ x7 ∧ x7 ≤ 2000) (k8 : 0 ≤ x8 ∧ x8 ≤ 2015) (k9 : (-12) ≤ x9 ∧ x9 ≤ 2015) (d1 : x4 + (-12) ≤ x9 ∧ x9 ≤ x4 + 2000) (d4 : x7 + (-12) ≤ x9 ∧ x9 ≤ x7 + 15) (d8 : x7 + 0 ≤ x8 ∧ x8 ≤ x7 + 15) (d9 : x3 + (-4294967296) ≤ x4 ∧ x4 ≤ x3 + (-1)) (d10 : x4 + (-4294967296) ≤ x2 ∧ x2 ≤ x4 + 0) (f0 : x9 = x8 - x2) (f1 : x8 = x7 + x4) (g2 : x7 = begin_0) (f4 : 1 * begin_0 + (1 * x3 + ((-1) * x2 + 0)) ≤ 2000) (kz_0_7 : 0 ≤ begin_0 ∧ begin_0 ≤ 2000) : 0 ≤ x9 ∧ x9 ≤ 1999 := by
  first | assumption | omega | grind
def o_Sy_isWordAt_at_s5012_1 : or_T := (45, 10, [(0, (2, 0, 0, [11])), (2, (0, 0, 12, [])), (3, (0, 5, 16, [])), (4, (0, 0, 15, [])), (7, (0, 0, 2000, [])), (8, (0, 0, 2015, [])), (9, (0, -12, 2015, []))], [(2, [9, 8, 2], []), (1, [8, 7, 4], []), (9, [7, 0], [7]), (7, [4, 3], [2]), (20, [0, 3, 2], [30, 2000, 1, 1, 7, 1, 0, 0, -1, 0, 0]), (20, [2, 4], [30, 0, 1, 0, 0, -1, 0, 0])], [(9, (0, 0, 1999, []))], [], [], [], [(9, 8, -12, 0), (9, 4, -12, 2000), (9, 3, -4294967296, 1999), (9, 3, -4294967296, 2007), (9, 7, -12, 15), (8, 4, 0, 2000), (8, 3, -4294967296, 1999), (8, 3, -4294967296, 2007), (8, 7, 0, 15), (4, 3, -4294967296, -1), (2, 4, -4294967296, 0), (4, 3, -4294967296, 7)])
theorem oo_Sy_isWordAt_at_s5012_1 {kA : Nat → ClassId} : or_ok PRD kA GG o_Sy_isWordAt_at_s5012_1 := by
  refine or_mk fun A ta ws vs hD hth hl => ?_
  intro t0 r0 t2 k2 t3 k3 t4 k4 t7 k7 t8 k8 t9 k9 d0 d1 d2 d3 d4 d5 d6 d7 d8 d9 d10 d11 f0 f1 f2 f3 f4 f5
  replace f2 := shm_198 f2
  have g2 : v_iv (n_v vs 7) = w_fi ws (n_v vs 0) 7 := congrArg v_iv f2
  have kz_0_7 := fdq_29 hD hth r0
  have hrf0 : 0 ≤ v_iv (n_v vs 9) ∧ v_iv (n_v vs 9) ≤ 1999 := vc_Sy_isWordAt_at_s5012_1_r0 (v_iv (n_v vs 2)) (v_iv (n_v vs 3)) (v_iv (n_v vs 4)) (v_iv (n_v vs 7)) (v_iv (n_v vs 8)) (v_iv (n_v vs 9)) (w_fi ws (n_v vs 0) 7) k2 k3 k4 k7 k8 k9 d1 d4 d8 d9 d10 (shm_14 f0) (shm_12 f1) g2 (shm_199 f4) kz_0_7
  have rf9 : tv_ok ta (0, 0, 1999, []) (n_v vs 9) := tv_in t9 (by omega) (by omega)
  refine ⟨List.forall_mem_cons.mpr ⟨rf9, (fun _ h => (by cases h))⟩, [], trivial, ?_, (fun _ h => (by cases h))⟩
  rw [List.append_nil]
  exact (fun _ h => (by cases h))
set_option maxHeartbeats 4000000 in
theorem vc_Sy_isWordAt_at_s5012_2_0 (x2 : Int) (x4 : Int) (x7 : Int) (x8 : Int) (x9 : Int) (x11 : Int) (begin_0 : Int) (k2 : 0 ≤ x2 ∧ x2 ≤ 12) (k4 : 0 ≤ x4 ∧ x4 ≤ 15) (k7 : 0 ≤ x7 ∧ x7 ≤ 2000) (k8 : 0 ≤ x8 ∧ x8 ≤ 2015) (k9 : 0 ≤ x9 ∧ x9 ≤ 1999) (k11 : 1 ≤ x11 ∧ x11 ≤ 16) (d0 : x4 + 1 ≤ x11 ∧ x11 ≤ x4 + 1) (d5 : x7 + (-12) ≤ x9 ∧ x9 ≤ x7 + 15) (d11 : x4 + (-4294967296) ≤ x2 ∧ x2 ≤ x4 + 0) (f1 : x9 = x8 - x2) (f2 : x8 = x7 + x4) (g3 : x7 = begin_0) (kz_0_7 : 0 ≤ begin_0 ∧ begin_0 ≤ 2000) : 1 * x2 + ((-1) * x11 + 0) ≤ 0 := by
  first | assumption | omega | grind
def o_Sy_isWordAt_at_s5012_2 : or_T := (20, 12, [(0, (2, 0, 0, [11])), (2, (0, 0, 12, [])), (4, (0, 0, 15, [])), (7, (0, 0, 2000, [])), (8, (0, 0, 2015, [])), (9, (0, 0, 1999, [])), (11, (0, 1, 16, []))], [(2, [9, 8, 2], []), (1, [8, 7, 4], []), (9, [7, 0], [7])], [], [], [(20, [2, 11], [30, 0, 1, 0, 0, -1, 0, 0])], [], [(11, 4, 1, 1), (9, 7, -12, 15), (2, 4, -4294967296, 0)])
theorem oo_Sy_isWordAt_at_s5012_2 {kA : Nat → ClassId} : or_ok PRD kA GG o_Sy_isWordAt_at_s5012_2 := by
  refine or_mk fun A ta ws vs hD hth hl => ?_
  intro t0 r0 t2 k2 t4 k4 t7 k7 t8 k8 t9 k9 t11 k11 d0 d5 d11 f1 f2 f3
  replace f3 := shm_198 f3
  have g3 : v_iv (n_v vs 7) = w_fi ws (n_v vs 0) 7 := congrArg v_iv f3
  have kz_0_7 := fdq_29 hD hth r0
  have nf0 : fc_1 PRD (20, [2, 11], [30, 0, 1, 0, 0, -1, 0, 0]) ws (vs) := ⟨nf_in hl rfl, sgq_201 (vc_Sy_isWordAt_at_s5012_2_0 (v_iv (n_v vs 2)) (v_iv (n_v vs 4)) (v_iv (n_v vs 7)) (v_iv (n_v vs 8)) (v_iv (n_v vs 9)) (v_iv (n_v vs 11)) (w_fi ws (n_v vs 0) 7) k2 k4 k7 k8 k9 k11 d0 d5 d11 (shm_14 f1) (shm_12 f2) g3 kz_0_7)⟩
  refine ⟨(fun _ h => (by cases h)), [], trivial, ?_, (fun _ h => (by cases h))⟩
  rw [List.append_nil]
  exact List.forall_mem_cons.mpr ⟨⟨show (20 : Nat) < 100 from by decide, nf0⟩, (fun _ h => (by cases h))⟩
def n_Sy_isWordAt_at_s5012_an : List an_T := [(20, [(0, (2, 0, 0, [11])), (1, (2, 0, 0, [5012])), (2, (0, 0, 12, [])), (3, (0, 5, 16, [])), (4, (0, 0, 16, []))], [], (0, 0), [(0, 0, 99980), (1, 4, 16), (0, 0, 100000)], [(2, 4, (Int.negSucc 999999999999), 0), (4, 3, (Int.negSucc 999999999999), 7)], [((0, 3), (2, 0, 0, [109]))], [], 0, [], [(20, [0, 3, 2], [30, 2000, 1, 1, 7, 1, 0, 0, (Int.negSucc 0), 0, 0]), (20, [2, 4], [30, 0, 1, 0, 0, (Int.negSucc 0), 0, 0])])]
def t_Sy_isWordAt_at_s5012_ct : ct_L := [(91, 104, e_jStr_charAt_v283)]
set_option maxRecDepth 100000 in
theorem c_Sy_isWordAt_at_s5012 {l : Launch} {D : va_G} {kA : Nat → ClassId} : ct_ok PRD l D kA GG y_Sy_isWordAt_at_s5012 z_Sy_isWordAt_at_s5012 e_Sy_isWordAt_at_s5012 := chk_all_ok (FT := [(21, 11, 3), (28, 11, 5), (34, 11, 7)]) (PT := []) (CT := t_Sy_isWordAt_at_s5012_ct) (KT := []) (NT := []) (AN := n_Sy_isWordAt_at_s5012_an) (OT := [o_Sy_isWordAt_at_s5012_0, o_Sy_isWordAt_at_s5012_1, o_Sy_isWordAt_at_s5012_2]) 3 200 (List.forall_mem_cons.mpr ⟨oo_Sy_isWordAt_at_s5012_0, List.forall_mem_cons.mpr ⟨oo_Sy_isWordAt_at_s5012_1, List.forall_mem_cons.mpr ⟨oo_Sy_isWordAt_at_s5012_2, List.forall_mem_nil _⟩⟩⟩) (by decide +kernel) ⟨List.forall_mem_cons.mpr ⟨gf_Sy_21, List.forall_mem_cons.mpr ⟨gf_Sy_28, List.forall_mem_cons.mpr ⟨gf_Sy_34, List.forall_mem_nil _⟩⟩⟩, List.forall_mem_nil _, List.forall_mem_cons.mpr ⟨cl_string (y := y_jStr_charAt) (i := 12) rfl rfl (by decide +kernel) rfl c_jStr_charAt_v283 wm_684 wm_11 wm_2231 wm_682 wm_683 ⟨by decide, by decide, by decide +kernel⟩ (by decide), List.forall_mem_nil _⟩, List.forall_mem_nil _, List.forall_mem_nil _, GG_pl⟩ (by decide +kernel)
def n_Mo_isBarred_an : List an_T := [(3, [(0, (2, 0, 0, [165])), (1, (0, 0, 47, [])), (2, (0, (Int.negSucc 300000010), 2005999, [])), (3, (0, (Int.negSucc 300000002), 2005999, [])), (4, (0, 0, 24, []))], [], (0, 0), [(0, 0, 99997), (1, 4, 24), (0, 0, 100000)], [], [], [], 0, [], [])]
def t_Mo_isBarred_ct : ct_L := [(1, 405, e_Mo_has), (1, 475, e_Mo_nodes), (1, 1061, e_Mo_isInBox)]
set_option maxRecDepth 100000 in
theorem c_Mo_isBarred {l : Launch} {D : va_G} {kA : Nat → ClassId} (h_Mo_has : ct_ok PRD l D kA GG y_Mo_has z_Mo_has e_Mo_has) (h_Mo_isInBox : ct_ok PRD l D kA GG y_Mo_isInBox z_Mo_isInBox e_Mo_isInBox) (h_Mo_nodes : ct_ok PRD l D kA GG y_Mo_nodes z_Mo_nodes e_Mo_nodes) : ct_ok PRD l D kA GG y_Mo_isBarred z_Mo_isBarred e_Mo_isBarred := chk_all_ok (FT := []) (PT := []) (CT := t_Mo_isBarred_ct) (KT := []) (NT := []) (AN := n_Mo_isBarred_an) (OT := []) 3 200 (List.forall_mem_nil _) (by decide +kernel) ⟨List.forall_mem_nil _, List.forall_mem_nil _, List.forall_mem_cons.mpr ⟨cl_virtual (y := y_Mo_has) (ci := 13) rfl rfl ⟨_, _, rfl⟩ (by decide +kernel) h_Mo_has wm_3041 wm_9 wm_3038 wm_3040 wv_13_7 ⟨by decide, by decide, by decide +kernel⟩ (by decide), List.forall_mem_cons.mpr ⟨cl_virtual (y := y_Mo_nodes) (ci := 13) rfl rfl ⟨_, _, rfl⟩ (by decide +kernel) h_Mo_nodes wm_3025 wm_9 wm_3022 wm_3024 wv_13_3 ⟨by decide, by decide, by decide +kernel⟩ (by decide), List.forall_mem_cons.mpr ⟨cl_virtual (y := y_Mo_isInBox) (ci := 13) rfl rfl ⟨_, _, rfl⟩ (by decide +kernel) h_Mo_isInBox wm_3688 wm_9 wm_3685 wm_3687 wv_22_1 ⟨by decide, by decide, by decide +kernel⟩ (by decide), List.forall_mem_nil _⟩⟩⟩, List.forall_mem_nil _, List.forall_mem_nil _, GG_pl⟩ (by decide +kernel)
def n_Mo_crossAtShared_an : List an_T := [(3, [(0, (2, 0, 0, [165])), (1, (0, 0, 47, [])), (2, (0, 0, 47, [])), (3, (1, (Int.negSucc 300000010), 300000000, [])), (5, (1, (Int.negSucc 899999999), 900000000, [])), (7, (1, (Int.negSucc 300000010), 300000000, [])), (9, (1, (Int.negSucc 899999999), 900000000, [])), (11, (1, (Int.negSucc 300000010), 300000000, [])), (13, (1, (Int.negSucc 899999999), 900000000, [])), (15, (1, (Int.negSucc 300000010), 300000000, [])), (17, (1, (Int.negSucc 899999999), 900000000, [])), (19, (0, 0, 24, []))], [], (0, 0), [(0, 0, 99997), (1, 11, 24), (0, 0, 100000)], [], [], [], 0, [], [])]
def t_Mo_crossAtShared_ct : ct_L := [(0, 1107, e_Mo_isOn), (1, 405, e_Mo_has), (1, 475, e_Mo_nodes), (1, 1023, e_Mo_px), (1, 1029, e_Mo_py)]
set_option maxRecDepth 100000 in
theorem c_Mo_crossAtShared {l : Launch} {D : va_G} {kA : Nat → ClassId} (h_Mo_has : ct_ok PRD l D kA GG y_Mo_has z_Mo_has e_Mo_has) (h_Mo_isOn : ct_ok PRD l D kA GG y_Mo_isOn z_Mo_isOn e_Mo_isOn) (h_Mo_nodes : ct_ok PRD l D kA GG y_Mo_nodes z_Mo_nodes e_Mo_nodes) (h_Mo_px : ct_ok PRD l D kA GG y_Mo_px z_Mo_px e_Mo_px) (h_Mo_py : ct_ok PRD l D kA GG y_Mo_py z_Mo_py e_Mo_py) : ct_ok PRD l D kA GG y_Mo_crossAtShared z_Mo_crossAtShared e_Mo_crossAtShared := chk_all_ok (FT := []) (PT := []) (CT := t_Mo_crossAtShared_ct) (KT := []) (NT := []) (AN := n_Mo_crossAtShared_an) (OT := []) 3 336 (List.forall_mem_nil _) (by decide +kernel) ⟨List.forall_mem_nil _, List.forall_mem_nil _, List.forall_mem_cons.mpr ⟨cl_static (y := y_Mo_isOn) h_Mo_isOn wm_3755 wm_9 wm_3753 wm_3754 ⟨by decide, by decide, by decide +kernel⟩ (by decide), List.forall_mem_cons.mpr ⟨cl_virtual (y := y_Mo_has) (ci := 13) rfl rfl ⟨_, _, rfl⟩ (by decide +kernel) h_Mo_has wm_3041 wm_9 wm_3038 wm_3040 wv_13_7 ⟨by decide, by decide, by decide +kernel⟩ (by decide), List.forall_mem_cons.mpr ⟨cl_virtual (y := y_Mo_nodes) (ci := 13) rfl rfl ⟨_, _, rfl⟩ (by decide +kernel) h_Mo_nodes wm_3025 wm_9 wm_3022 wm_3024 wv_13_3 ⟨by decide, by decide, by decide +kernel⟩ (by decide), List.forall_mem_cons.mpr ⟨cl_virtual (y := y_Mo_px) (ci := 13) rfl rfl ⟨_, _, rfl⟩ (by decide +kernel) h_Mo_px wm_3675 wm_9 wm_3672 wm_3674 wv_21_14 ⟨by decide, by decide, by decide +kernel⟩ (by decide), List.forall_mem_cons.mpr ⟨cl_virtual (y := y_Mo_py) (ci := 13) rfl rfl ⟨_, _, rfl⟩ (by decide +kernel) h_Mo_py wm_3679 wm_9 wm_3676 wm_3678 wv_21_15 ⟨by decide, by decide, by decide +kernel⟩ (by decide), List.forall_mem_nil _⟩⟩⟩⟩⟩, List.forall_mem_nil _, List.forall_mem_nil _, GG_pl⟩ (by decide +kernel)
def n_Mo_far_an : List an_T := []
def t_Mo_far_ct : ct_L := [(0, 387, e_Mo_in), (0, 521, e_Mo_isPlace), (1, 475, e_Mo_nodes), (1, 527, e_Mo_take), (1, 550, e_Mo_farFrom)]
set_option maxRecDepth 100000 in
theorem c_Mo_far {l : Launch} {D : va_G} {kA : Nat → ClassId} (h_Mo_farFrom : ct_ok PRD l D kA GG y_Mo_farFrom z_Mo_farFrom e_Mo_farFrom) (h_Mo_in : ct_ok PRD l D kA GG y_Mo_in z_Mo_in e_Mo_in) (h_Mo_isPlace : ct_ok PRD l D kA GG y_Mo_isPlace z_Mo_isPlace e_Mo_isPlace) (h_Mo_nodes : ct_ok PRD l D kA GG y_Mo_nodes z_Mo_nodes e_Mo_nodes) (h_Mo_take : ct_ok PRD l D kA GG y_Mo_take z_Mo_take e_Mo_take) : ct_ok PRD l D kA GG y_Mo_far z_Mo_far e_Mo_far := chk_all_ok (FT := [(38, 13, 19)]) (PT := []) (CT := t_Mo_far_ct) (KT := [(1, 546, .int (1000000), (0, 1000000, 1000000, []))]) (NT := []) (AN := n_Mo_far_an) (OT := []) 0 228 (List.forall_mem_nil _) (by decide +kernel) ⟨List.forall_mem_cons.mpr ⟨gf_Mo_38, List.forall_mem_nil _⟩, List.forall_mem_nil _, List.forall_mem_cons.mpr ⟨cl_static (y := y_Mo_in) h_Mo_in wm_2971 wm_9 wm_2969 wm_2970 ⟨by decide, by decide, by decide +kernel⟩ (by decide), List.forall_mem_cons.mpr ⟨cl_static (y := y_Mo_isPlace) h_Mo_isPlace wm_2978 wm_9 wm_2976 wm_2977 ⟨by decide, by decide, by decide +kernel⟩ (by decide), List.forall_mem_cons.mpr ⟨cl_virtual (y := y_Mo_nodes) (ci := 13) rfl rfl ⟨_, _, rfl⟩ (by decide +kernel) h_Mo_nodes wm_3025 wm_9 wm_3022 wm_3024 wv_13_3 ⟨by decide, by decide, by decide +kernel⟩ (by decide), List.forall_mem_cons.mpr ⟨cl_virtual (y := y_Mo_take) (ci := 13) rfl rfl ⟨_, _, rfl⟩ (by decide +kernel) h_Mo_take wm_3091 wm_9 wm_3088 wm_3090 wv_14_2 ⟨by decide, by decide, by decide +kernel⟩ (by decide), List.forall_mem_cons.mpr ⟨cl_virtual (y := y_Mo_farFrom) (ci := 13) rfl rfl ⟨_, _, rfl⟩ (by decide +kernel) h_Mo_farFrom wm_3287 wm_9 wm_3284 wm_3286 wv_16_12 ⟨by decide, by decide, by decide +kernel⟩ (by decide), List.forall_mem_nil _⟩⟩⟩⟩⟩, List.forall_mem_cons.mpr ⟨kx_Mo_1_546, List.forall_mem_nil _⟩, List.forall_mem_nil _, GG_pl⟩ (by decide +kernel)
def n_Mo_group_an : List an_T := []
def t_Mo_group_ct : ct_L := [(0, 387, e_Mo_in), (0, 521, e_Mo_isPlace), (1, 509, e_Mo_groups), (1, 527, e_Mo_take), (1, 745, e_Mo_sizeOfGroup)]
set_option maxRecDepth 100000 in
theorem c_Mo_group {l : Launch} {D : va_G} {kA : Nat → ClassId} (h_Mo_groups : ct_ok PRD l D kA GG y_Mo_groups z_Mo_groups e_Mo_groups) (h_Mo_in : ct_ok PRD l D kA GG y_Mo_in z_Mo_in e_Mo_in) (h_Mo_isPlace : ct_ok PRD l D kA GG y_Mo_isPlace z_Mo_isPlace e_Mo_isPlace) (h_Mo_sizeOfGroup : ct_ok PRD l D kA GG y_Mo_sizeOfGroup z_Mo_sizeOfGroup e_Mo_sizeOfGroup) (h_Mo_take : ct_ok PRD l D kA GG y_Mo_take z_Mo_take e_Mo_take) : ct_ok PRD l D kA GG y_Mo_group z_Mo_group e_Mo_group := chk_all_ok (FT := [(16, 13, 2), (391, 13, 5)]) (PT := []) (CT := t_Mo_group_ct) (KT := []) (NT := []) (AN := n_Mo_group_an) (OT := []) 0 252 (List.forall_mem_nil _) (by decide +kernel) ⟨List.forall_mem_cons.mpr ⟨gf_Mo_16, List.forall_mem_cons.mpr ⟨gf_Mo_391, List.forall_mem_nil _⟩⟩, List.forall_mem_nil _, List.forall_mem_cons.mpr ⟨cl_static (y := y_Mo_in) h_Mo_in wm_2971 wm_9 wm_2969 wm_2970 ⟨by decide, by decide, by decide +kernel⟩ (by decide), List.forall_mem_cons.mpr ⟨cl_static (y := y_Mo_isPlace) h_Mo_isPlace wm_2978 wm_9 wm_2976 wm_2977 ⟨by decide, by decide, by decide +kernel⟩ (by decide), List.forall_mem_cons.mpr ⟨cl_virtual (y := y_Mo_groups) (ci := 13) rfl rfl ⟨_, _, rfl⟩ (by decide +kernel) h_Mo_groups wm_3070 wm_9 wm_3067 wm_3069 wv_13_14 ⟨by decide, by decide, by decide +kernel⟩ (by decide), List.forall_mem_cons.mpr ⟨cl_virtual (y := y_Mo_take) (ci := 13) rfl rfl ⟨_, _, rfl⟩ (by decide +kernel) h_Mo_take wm_3091 wm_9 wm_3088 wm_3090 wv_14_2 ⟨by decide, by decide, by decide +kernel⟩ (by decide), List.forall_mem_cons.mpr ⟨cl_virtual (y := y_Mo_sizeOfGroup) (ci := 13) rfl rfl ⟨_, _, rfl⟩ (by decide +kernel) h_Mo_sizeOfGroup wm_3351 wm_9 wm_3348 wm_3350 wv_17_9 ⟨by decide, by decide, by decide +kernel⟩ (by decide), List.forall_mem_nil _⟩⟩⟩⟩⟩, List.forall_mem_nil _, List.forall_mem_nil _, GG_pl⟩ (by decide +kernel)
def n_Mo_leastTriangle_an : List an_T := [(6, [(0, (2, 0, 0, [165])), (1, (1, (Int.negSucc 0), 2160000039600000000, [])), (3, (0, 0, 24, []))], [], (0, 0), [(0, 0, 99994), (1, 2, 24), (0, 0, 100000), (0, 0, 0), (0, 0, 0), (0, 0, 0), (0, 0, 0)], [], [], [], 0, [], []), (17, [(0, (2, 0, 0, [165])), (1, (1, (Int.negSucc 0), 2160000039600000000, [])), (3, (0, 0, 23, [])), (4, (0, 0, 23, []))], [], (0, 0), [(0, 0, 99994), (1, 2, 24), (0, 0, 99983), (1, 3, 23), (0, 0, 100000), (0, 0, 0), (0, 0, 0)], [], [], [], 0, [], []), (26, [(0, (2, 0, 0, [165])), (1, (1, (Int.negSucc 0), 2160000039600000000, [])), (3, (0, 1, 23, [])), (4, (0, 0, 22, [])), (5, (0, 0, 22, []))], [], (0, 0), [(0, 0, 99994), (1, 2, 24), (0, 0, 99983), (1, 3, 23), (0, 0, 99974), (1, 4, 22), (0, 0, 100000)], [], [], [], 0, [], [])]
def t_Mo_leastTriangle_ct : ct_L := [(0, 1091, e_Mo_turnOf), (1, 475, e_Mo_nodes), (1, 488, e_Mo_between), (1, 1023, e_Mo_px), (1, 1029, e_Mo_py), (333, 1137, e_jMath_abs2_v287)]
set_option maxRecDepth 100000 in
theorem c_Mo_leastTriangle {l : Launch} {D : va_G} {kA : Nat → ClassId} (h_Mo_between : ct_ok PRD l D kA GG y_Mo_between z_Mo_between e_Mo_between) (h_Mo_nodes : ct_ok PRD l D kA GG y_Mo_nodes z_Mo_nodes e_Mo_nodes) (h_Mo_px : ct_ok PRD l D kA GG y_Mo_px z_Mo_px e_Mo_px) (h_Mo_py : ct_ok PRD l D kA GG y_Mo_py z_Mo_py e_Mo_py) (h_Mo_turnOf : ct_ok PRD l D kA GG y_Mo_turnOf z_Mo_turnOf e_Mo_turnOf) : ct_ok PRD l D kA GG y_Mo_leastTriangle z_Mo_leastTriangle e_Mo_leastTriangle := chk_all_ok (FT := []) (PT := []) (CT := t_Mo_leastTriangle_ct) (KT := [(2, 1007, .long (-1), (1, -1, -1, []))]) (NT := []) (AN := n_Mo_leastTriangle_an) (OT := []) 7 356 (List.forall_mem_nil _) (by decide +kernel) ⟨List.forall_mem_nil _, List.forall_mem_nil _, List.forall_mem_cons.mpr ⟨cl_static (y := y_Mo_turnOf) h_Mo_turnOf wm_3745 wm_9 wm_3743 wm_3744 ⟨by decide, by decide, by decide +kernel⟩ (by decide), List.forall_mem_cons.mpr ⟨cl_virtual (y := y_Mo_nodes) (ci := 13) rfl rfl ⟨_, _, rfl⟩ (by decide +kernel) h_Mo_nodes wm_3025 wm_9 wm_3022 wm_3024 wv_13_3 ⟨by decide, by decide, by decide +kernel⟩ (by decide), List.forall_mem_cons.mpr ⟨cl_virtual (y := y_Mo_between) (ci := 13) rfl rfl ⟨_, _, rfl⟩ (by decide +kernel) h_Mo_between wm_3033 wm_9 wm_3030 wm_3032 wv_13_5 ⟨by decide, by decide, by decide +kernel⟩ (by decide), List.forall_mem_cons.mpr ⟨cl_virtual (y := y_Mo_px) (ci := 13) rfl rfl ⟨_, _, rfl⟩ (by decide +kernel) h_Mo_px wm_3675 wm_9 wm_3672 wm_3674 wv_21_14 ⟨by decide, by decide, by decide +kernel⟩ (by decide), List.forall_mem_cons.mpr ⟨cl_virtual (y := y_Mo_py) (ci := 13) rfl rfl ⟨_, _, rfl⟩ (by decide +kernel) h_Mo_py wm_3679 wm_9 wm_3676 wm_3678 wv_21_15 ⟨by decide, by decide, by decide +kernel⟩ (by decide), List.forall_mem_cons.mpr ⟨cl_static (y := y_jMath_abs2) c_jMath_abs2_v287 wm_2082 wm_10 wm_3769 wm_2081 ⟨by decide, by decide, by decide +kernel⟩ (by decide), List.forall_mem_nil _⟩⟩⟩⟩⟩⟩, List.forall_mem_cons.mpr ⟨⟨kt_mk2 wm_3625, fun _ => Or.inr (Or.inl ⟨rfl, _, rfl, by decide, by decide⟩)⟩, List.forall_mem_nil _⟩, List.forall_mem_nil _, GG_pl⟩ (by decide +kernel)
def n_Ho_label_an : List an_T := []
def t_Ho_label_ct : ct_L := [(1, 197, e_Gr_hasEdge), (1, 323, e_Ho_hasDrawing), (1, 333, e_Dr_labelOf)]
set_option maxRecDepth 100000 in
theorem c_Ho_label {l : Launch} {D : va_G} {kA : Nat → ClassId} (h_Dr_labelOf : ct_ok PRD l D kA GG y_Dr_labelOf z_Dr_labelOf e_Dr_labelOf) (h_Gr_hasEdge : ct_ok PRD l D kA GG y_Gr_hasEdge z_Gr_hasEdge e_Gr_hasEdge) (h_Ho_hasDrawing : ct_ok PRD l D kA GG y_Ho_hasDrawing z_Ho_hasDrawing e_Ho_hasDrawing) : ct_ok PRD l D kA GG y_Ho_label z_Ho_label e_Ho_label := chk_all_ok (FT := [(13, 12, 0), (31, 12, 3)]) (PT := []) (CT := t_Ho_label_ct) (KT := [(1, 315, .int (Int32.ofInt (-2147483648)), (0, -2147483648, -2147483648, []))]) (NT := []) (AN := n_Ho_label_an) (OT := []) 0 200 (List.forall_mem_nil _) (by decide +kernel) ⟨List.forall_mem_cons.mpr ⟨gf_Ho_13, List.forall_mem_cons.mpr ⟨gf_Ho_31, List.forall_mem_nil _⟩⟩, List.forall_mem_nil _, List.forall_mem_cons.mpr ⟨cl_virtual (y := y_Gr_hasEdge) (ci := 3) rfl rfl ⟨_, _, rfl⟩ (by decide +kernel) h_Gr_hasEdge wm_930 wm_3 wm_927 wm_928 wm_929 ⟨by decide, by decide, by decide +kernel⟩ (by decide), List.forall_mem_cons.mpr ⟨cl_virtual (y := y_Ho_hasDrawing) (ci := 12) rfl rfl ⟨_, _, rfl⟩ (by decide +kernel) h_Ho_hasDrawing wm_1859 wm_1 wm_1856 wm_1858 wv_8_15 ⟨by decide, by decide, by decide +kernel⟩ (by decide), List.forall_mem_cons.mpr ⟨cl_virtual (y := y_Dr_labelOf) (ci := 0) rfl rfl ⟨_, _, rfl⟩ (by decide +kernel) h_Dr_labelOf wm_1978 wm_8 wm_1975 wm_1976 wm_1977 ⟨by decide, by decide, by decide +kernel⟩ (by decide), List.forall_mem_nil _⟩⟩⟩, List.forall_mem_cons.mpr ⟨kx_Ho_1_315, List.forall_mem_nil _⟩, List.forall_mem_nil _, GG_pl⟩ (by decide +kernel)
set_option maxHeartbeats 4000000 in
theorem vc_Ho_writeWord_at_s5013_0_0 (x2 : Int) (x3 : Int) (spareLength_0 : Int) (k2 : 0 ≤ x2 ∧ x2 ≤ 99999995) (k3 : 0 ≤ x3 ∧ x3 ≤ 0) (f0 : 1 * spareLength_0 + ((-1) * x2 + 0) ≤ 0) (kz_0_12 : 0 ≤ spareLength_0 ∧ spareLength_0 ≤ 100000000) : 1 * spareLength_0 + ((-1) * x2 + ((-1) * x3 + 0)) ≤ 0 := by
  first | assumption | omega | grind
def o_Ho_writeWord_at_s5013_0 : or_T := (2, 4, [(0, (2, 0, 0, [12])), (2, (0, 0, 99999995, [])), (3, (0, 0, 0, []))], [(20, [0, 2], [30, 0, 1, 1, 12, -1, 0, 0])], [], [], [(20, [0, 2, 3], [30, 0, 1, 1, 12, -1, 0, 0, -1, 0, 0]), (24, [0, 0], [])], [], [])
theorem oo_Ho_writeWord_at_s5013_0 {kA : Nat → ClassId} : or_ok PRD kA GG o_Ho_writeWord_at_s5013_0 := by
  refine or_mk fun A ta ws vs hD hth hl => ?_
  intro t0 r0 t2 k2 t3 k3 f0
  have kz_0_12 := fdq_0 hD hth r0
  have nf0 : fc_1 PRD (20, [0, 2, 3], [30, 0, 1, 1, 12, -1, 0, 0, -1, 0, 0]) ws (vs) := ⟨nf_in hl rfl, sgq_134 (vc_Ho_writeWord_at_s5013_0_0 (v_iv (n_v vs 2)) (v_iv (n_v vs 3)) (w_fi ws (n_v vs 0) 12) k2 k3 (shm_104 f0) kz_0_12)⟩
  have nf1 : fc_1 PRD (24, [0, 0], []) ws (vs) := by
    refine ⟨nf_in hl rfl, sgq_1 ?_⟩
    · show n_v vs 0 = n_v vs 0
      first | rfl | simp only [true_and]
  refine ⟨(fun _ h => (by cases h)), [], trivial, ?_, (fun _ h => (by cases h))⟩
  rw [List.append_nil]
  exact List.forall_mem_cons.mpr ⟨⟨show (20 : Nat) < 100 from by decide, nf0⟩, List.forall_mem_cons.mpr ⟨⟨show (24 : Nat) < 100 from by decide, nf1⟩, (fun _ h => (by cases h))⟩⟩
set_option maxHeartbeats 4000000 in
theorem vc_Ho_writeWord_at_s5013_1_0 (x2 : Int) (x5 : Int) (spareLength_0 : Int) (k2 : 0 ≤ x2 ∧ x2 ≤ 99999995) (k5 : 5 ≤ x5 ∧ x5 ≤ 5) (f1 : 1 * spareLength_0 + ((-1) * x2 + ((-1) * x5 + 0)) ≤ 0) (kz_0_12 : 0 ≤ spareLength_0 ∧ spareLength_0 ≤ 100000000) : 1 * spareLength_0 + ((-1) * x2 + 0) ≤ 5 := by
  first | assumption | omega | grind
def o_Ho_writeWord_at_s5013_1 : or_T := (25, 7, [(0, (2, 0, 0, [12])), (2, (0, 0, 99999995, [])), (5, (0, 5, 5, []))], [(20, [3, 2, 5], [30, 0, 1, 1, 12, -1, 0, 0, -1, 0, 0]), (24, [0, 3], [])], [], [], [(20, [0, 2], [30, 5, 1, 1, 12, -1, 0, 0])], [], [])
theorem oo_Ho_writeWord_at_s5013_1 {kA : Nat → ClassId} : or_ok PRD kA GG o_Ho_writeWord_at_s5013_1 := by
  refine or_mk fun A ta ws vs hD hth hl => ?_
  intro t0 r0 t2 k2 t5 k5 f1 f2
  replace f1 := shm_134 f1
  replace f2 := shm_5 f2
  have q3 : n_v vs 3 = n_v vs 0 := f2.symm
  simp only [q3] at f1
  have kz_0_12 := fdq_0 hD hth r0
  have nf0 : fc_1 PRD (20, [0, 2], [30, 5, 1, 1, 12, -1, 0, 0]) ws (vs) := ⟨nf_in hl rfl, sgq_202 (vc_Ho_writeWord_at_s5013_1_0 (v_iv (n_v vs 2)) (v_iv (n_v vs 5)) (w_fi ws (n_v vs 0) 12) k2 k5 f1 kz_0_12)⟩
  refine ⟨(fun _ h => (by cases h)), [], trivial, ?_, (fun _ h => (by cases h))⟩
  rw [List.append_nil]
  exact List.forall_mem_cons.mpr ⟨⟨show (20 : Nat) < 100 from by decide, nf0⟩, (fun _ h => (by cases h))⟩
set_option maxHeartbeats 4000000 in
theorem vc_Ho_writeWord_at_s5013_2_0 (spareLength_0 : Int) (gx : Int) (kz_0_12 : 0 ≤ spareLength_0 ∧ spareLength_0 ≤ 100000000) (ex2 : gx = spareLength_0) : 1 * spareLength_0 + ((-1) * gx + 0) ≤ 0 := by
  first | assumption | omega | grind
set_option maxHeartbeats 4000000 in
theorem vc_Ho_writeWord_at_s5013_2_1 (x2 : Int) (x5 : Int) (spareLength_0 : Int) (gx : Int) (k2 : 0 ≤ x2 ∧ x2 ≤ 99999995) (k5 : 0 ≤ x5 ∧ x5 ≤ 4) (f1 : 1 * spareLength_0 + ((-1) * x2 + ((-1) * x5 + 0)) ≤ 0) (kz_0_12 : 0 ≤ spareLength_0 ∧ spareLength_0 ≤ 100000000) (ex2 : gx = spareLength_0) : 1 * gx + ((-1) * x2 + ((-1) * x5 + 0)) ≤ 0 := by
  first | assumption | omega | grind
def o_Ho_writeWord_at_s5013_2 : or_T := (16, 8, [(0, (2, 0, 0, [12])), (2, (0, 0, 99999995, [])), (3, (2, 0, 0, [12])), (5, (0, 0, 4, [])), (6, (0, 5, 5, []))], [(7, [5, 6], [2]), (20, [3, 2, 5], [30, 0, 1, 1, 12, -1, 0, 0, -1, 0, 0]), (24, [0, 3], [])], [], [(0, 0, 99999999, [])], [(20, [3, 8], [30, 0, 1, 1, 12, -1, 0, 0]), (23, [8, 2, 5], [0, 1, -1, -1])], [], [])
theorem oo_Ho_writeWord_at_s5013_2 {kA : Nat → ClassId} : or_ok PRD kA GG o_Ho_writeWord_at_s5013_2 := by
  refine or_mk fun A ta ws vs hD hth hl => ?_
  intro t0 r0 t2 k2 t3 r3 t5 k5 t6 k6 f0 f1 f2
  replace f0 := shm_6 f0
  replace f1 := shm_134 f1
  replace f2 := shm_5 f2
  have q3 : n_v vs 3 = n_v vs 0 := f2.symm
  simp only [q3] at f1
  have kz_0_12 := fdq_0 hD hth r0
  have kv0 := fdq_0 hD hth r0
  obtain ⟨x, ex, hx⟩ := iv_ex (ta := ta) (lo := 0) (hi := 99999999) (z := w_fi ws (n_v vs 0) 12) (by omega) (by omega) (by omega) (by omega)
  have ex2 : v_iv (Value.int x) = w_fi ws (n_v vs 0) 12 := ex
  have ex3 : 0 ≤ v_iv (Value.int x) ∧ v_iv (Value.int x) ≤ 99999999 := tv_rng hx
  have e_2 : n_v (vs ++ [Value.int x]) 2 = n_v vs 2 := n_v_old (by rw [hl]; decide)
  have e_3 : n_v (vs ++ [Value.int x]) 3 = n_v vs 3 := n_v_old (by rw [hl]; decide)
  have e_5 : n_v (vs ++ [Value.int x]) 5 = n_v vs 5 := n_v_old (by rw [hl]; decide)
  have e_8 : n_v (vs ++ [Value.int x]) 8 = Value.int x := n_v_new hl
  have nf0 : fc_1 PRD (20, [3, 8], [30, 0, 1, 1, 12, -1, 0, 0]) ws (vs ++ [Value.int x]) := by
    refine ⟨nf_inA hl rfl, sgq_104 ?_⟩
    · show 1 * w_fi ws (n_v (vs ++ [Value.int x]) 3) 12 + ((-1) * v_iv (n_v (vs ++ [Value.int x]) 8) + 0) ≤ 0
      simp only [e_3, e_8, q3]
      exact vc_Ho_writeWord_at_s5013_2_0 (w_fi ws (n_v vs 0) 12) (v_iv (Value.int x)) kz_0_12 ex2
  have nf1 : fc_1 PRD (23, [8, 2, 5], [0, 1, -1, -1]) ws (vs ++ [Value.int x]) := by
    refine ⟨nf_inA hl rfl, sgq_136 ?_⟩
    · show 1 * v_iv (n_v (vs ++ [Value.int x]) 8) + ((-1) * v_iv (n_v (vs ++ [Value.int x]) 2) + ((-1) * v_iv (n_v (vs ++ [Value.int x]) 5) + 0)) ≤ 0
      simp only [e_2, e_5, e_8]
      exact vc_Ho_writeWord_at_s5013_2_1 (v_iv (n_v vs 2)) (v_iv (n_v vs 5)) (w_fi ws (n_v vs 0) 12) (v_iv (Value.int x)) k2 k5 f1 kz_0_12 ex2
  exact ⟨(fun _ h => (by cases h)), [Value.int x], ag_one hx, List.forall_mem_cons.mpr ⟨⟨show (20 : Nat) < 100 from by decide, nf0⟩, List.forall_mem_cons.mpr ⟨⟨show (23 : Nat) < 100 from by decide, nf1⟩, (fun _ h => (by cases h))⟩⟩, (fun _ h => (by cases h))⟩
set_option maxHeartbeats 4000000 in
theorem vc_Ho_writeWord_at_s5013_3_0 (x2 : Int) (x5 : Int) (x8 : Int) (x9 : Int) (spareLength_0 : Int) (k2 : 0 ≤ x2 ∧ x2 ≤ 99999995) (k5 : 0 ≤ x5 ∧ x5 ≤ 4) (k8 : 0 ≤ x8 ∧ x8 ≤ 99999999) (k9 : 1 ≤ x9 ∧ x9 ≤ 5) (d0 : x5 + 1 ≤ x9 ∧ x9 ≤ x5 + 1) (f1 : 1 * x8 + ((-1) * x2 + ((-1) * x5 + 0)) ≤ 0) (f3 : 1 * spareLength_0 + ((-1) * x8 + 0) ≤ 1) (kz_0_12 : 0 ≤ spareLength_0 ∧ spareLength_0 ≤ 100000000) : 1 * spareLength_0 + ((-1) * x2 + ((-1) * x9 + 0)) ≤ 0 := by
  first | assumption | omega | grind
def o_Ho_writeWord_at_s5013_3 : or_T := (2, 10, [(0, (2, 0, 0, [12])), (2, (0, 0, 99999995, [])), (5, (0, 0, 4, [])), (8, (0, 0, 99999999, [])), (9, (0, 1, 5, []))], [(23, [8, 2, 5], [0, 1, -1, -1]), (24, [0, 3], []), (20, [3, 8], [30, 1, 1, 1, 12, -1, 0, 0])], [], [], [(20, [3, 2, 9], [30, 0, 1, 1, 12, -1, 0, 0, -1, 0, 0])], [], [(9, 5, 1, 1)])
theorem oo_Ho_writeWord_at_s5013_3 {kA : Nat → ClassId} : or_ok PRD kA GG o_Ho_writeWord_at_s5013_3 := by
  refine or_mk fun A ta ws vs hD hth hl => ?_
  intro t0 r0 t2 k2 t5 k5 t8 k8 t9 k9 d0 f1 f2 f3
  replace f1 := shm_136 f1
  replace f2 := shm_5 f2
  replace f3 := shm_105 f3
  have q3 : n_v vs 3 = n_v vs 0 := f2.symm
  simp only [q3] at f3
  have kz_0_12 := fdq_0 hD hth r0
  have nf0 : fc_1 PRD (20, [3, 2, 9], [30, 0, 1, 1, 12, -1, 0, 0, -1, 0, 0]) ws (vs) := by
    refine ⟨nf_in hl rfl, sgq_134 ?_⟩
    · show 1 * w_fi ws (n_v vs 3) 12 + ((-1) * v_iv (n_v vs 2) + ((-1) * v_iv (n_v vs 9) + 0)) ≤ 0
      rw [q3]
      exact vc_Ho_writeWord_at_s5013_3_0 (v_iv (n_v vs 2)) (v_iv (n_v vs 5)) (v_iv (n_v vs 8)) (v_iv (n_v vs 9)) (w_fi ws (n_v vs 0) 12) k2 k5 k8 k9 d0 f1 f3 kz_0_12
  refine ⟨(fun _ h => (by cases h)), [], trivial, ?_, (fun _ h => (by cases h))⟩
  rw [List.append_nil]
  exact List.forall_mem_cons.mpr ⟨⟨show (20 : Nat) < 100 from by decide, nf0⟩, (fun _ h => (by cases h))⟩
def n_Ho_writeWord_at_s5013_an : List an_T := [(2, [(0, (2, 0, 0, [12])), (1, (2, 0, 0, [5013])), (2, (0, 0, 5, []))], [], (0, 0), [(0, 0, 99998), (1, 5, 5), (0, 0, 100000)], [], [], [(2, 0, 0, [12]), (2, 0, 0, [5013]), (0, 0, 99999995, [])], 0, [], [(20, [3, 2, 5], [30, 0, 1, 1, 12, (Int.negSucc 0), 0, 0, (Int.negSucc 0), 0, 0]), (24, [0, 3], [])])]
def t_Ho_writeWord_at_s5013_ct : ct_L := [(1, 447, e_Ho_writeByte), (16, 438, e_jStr_length_v361), (43, 443, e_jStr_charAt_v362)]
set_option maxRecDepth 100000 in
theorem c_Ho_writeWord_at_s5013 {l : Launch} {D : va_G} {kA : Nat → ClassId} (h_Ho_writeByte : ct_ok PRD l D kA GG y_Ho_writeByte z_Ho_writeByte e_Ho_writeByte) : ct_ok PRD l D kA GG y_Ho_writeWord_at_s5013 z_Ho_writeWord_at_s5013 e_Ho_writeWord_at_s5013 := chk_all_ok (FT := []) (PT := []) (CT := t_Ho_writeWord_at_s5013_ct) (KT := []) (NT := []) (AN := n_Ho_writeWord_at_s5013_an) (OT := [o_Ho_writeWord_at_s5013_0, o_Ho_writeWord_at_s5013_1, o_Ho_writeWord_at_s5013_2, o_Ho_writeWord_at_s5013_3]) 3 200 (List.forall_mem_cons.mpr ⟨oo_Ho_writeWord_at_s5013_0, List.forall_mem_cons.mpr ⟨oo_Ho_writeWord_at_s5013_1, List.forall_mem_cons.mpr ⟨oo_Ho_writeWord_at_s5013_2, List.forall_mem_cons.mpr ⟨oo_Ho_writeWord_at_s5013_3, List.forall_mem_nil _⟩⟩⟩⟩) (by decide +kernel) ⟨List.forall_mem_nil _, List.forall_mem_nil _, List.forall_mem_cons.mpr ⟨cl_virtual (y := y_Ho_writeByte) (ci := 12) rfl rfl ⟨_, _, rfl⟩ (by decide +kernel) h_Ho_writeByte wm_2345 wm_1 wm_2342 wm_2344 wv_12_0 ⟨by decide, by decide, by decide +kernel⟩ (by decide), List.forall_mem_cons.mpr ⟨cl_string (y := y_jStr_length) (i := 13) rfl rfl (by decide +kernel) rfl c_jStr_length_v361 wm_674 wm_11 wm_2340 wm_672 wm_673 ⟨by decide, by decide, by decide +kernel⟩ (by decide), List.forall_mem_cons.mpr ⟨cl_string (y := y_jStr_charAt) (i := 13) rfl rfl (by decide +kernel) rfl c_jStr_charAt_v362 wm_684 wm_11 wm_2341 wm_682 wm_683 ⟨by decide, by decide, by decide +kernel⟩ (by decide), List.forall_mem_nil _⟩⟩⟩, List.forall_mem_nil _, List.forall_mem_nil _, GG_pl⟩ (by decide +kernel)
set_option maxHeartbeats 4000000 in
theorem vc_Ho_writeWord_at_s5014_0_0 (x2 : Int) (x3 : Int) (spareLength_0 : Int) (k2 : 0 ≤ x2 ∧ x2 ≤ 99999993) (k3 : 0 ≤ x3 ∧ x3 ≤ 0) (f0 : 1 * spareLength_0 + ((-1) * x2 + 0) ≤ 0) (kz_0_12 : 0 ≤ spareLength_0 ∧ spareLength_0 ≤ 100000000) : 1 * spareLength_0 + ((-1) * x2 + ((-1) * x3 + 0)) ≤ 0 := by
  first | assumption | omega | grind
def o_Ho_writeWord_at_s5014_0 : or_T := (2, 4, [(0, (2, 0, 0, [12])), (2, (0, 0, 99999993, [])), (3, (0, 0, 0, []))], [(20, [0, 2], [30, 0, 1, 1, 12, -1, 0, 0])], [], [], [(20, [0, 2, 3], [30, 0, 1, 1, 12, -1, 0, 0, -1, 0, 0]), (24, [0, 0], [])], [], [])
theorem oo_Ho_writeWord_at_s5014_0 {kA : Nat → ClassId} : or_ok PRD kA GG o_Ho_writeWord_at_s5014_0 := by
  refine or_mk fun A ta ws vs hD hth hl => ?_
  intro t0 r0 t2 k2 t3 k3 f0
  have kz_0_12 := fdq_0 hD hth r0
  have nf0 : fc_1 PRD (20, [0, 2, 3], [30, 0, 1, 1, 12, -1, 0, 0, -1, 0, 0]) ws (vs) := ⟨nf_in hl rfl, sgq_134 (vc_Ho_writeWord_at_s5014_0_0 (v_iv (n_v vs 2)) (v_iv (n_v vs 3)) (w_fi ws (n_v vs 0) 12) k2 k3 (shm_104 f0) kz_0_12)⟩
  have nf1 : fc_1 PRD (24, [0, 0], []) ws (vs) := by
    refine ⟨nf_in hl rfl, sgq_1 ?_⟩
    · show n_v vs 0 = n_v vs 0
      first | rfl | simp only [true_and]
  refine ⟨(fun _ h => (by cases h)), [], trivial, ?_, (fun _ h => (by cases h))⟩
  rw [List.append_nil]
  exact List.forall_mem_cons.mpr ⟨⟨show (20 : Nat) < 100 from by decide, nf0⟩, List.forall_mem_cons.mpr ⟨⟨show (24 : Nat) < 100 from by decide, nf1⟩, (fun _ h => (by cases h))⟩⟩
set_option maxHeartbeats 4000000 in
theorem vc_Ho_writeWord_at_s5014_1_0 (x2 : Int) (x5 : Int) (spareLength_0 : Int) (k2 : 0 ≤ x2 ∧ x2 ≤ 99999993) (k5 : 7 ≤ x5 ∧ x5 ≤ 7) (f1 : 1 * spareLength_0 + ((-1) * x2 + ((-1) * x5 + 0)) ≤ 0) (kz_0_12 : 0 ≤ spareLength_0 ∧ spareLength_0 ≤ 100000000) : 1 * spareLength_0 + ((-1) * x2 + 0) ≤ 7 := by
  first | assumption | omega | grind
def o_Ho_writeWord_at_s5014_1 : or_T := (25, 7, [(0, (2, 0, 0, [12])), (2, (0, 0, 99999993, [])), (5, (0, 7, 7, []))], [(20, [3, 2, 5], [30, 0, 1, 1, 12, -1, 0, 0, -1, 0, 0]), (24, [0, 3], [])], [], [], [(20, [0, 2], [30, 7, 1, 1, 12, -1, 0, 0])], [], [])
theorem oo_Ho_writeWord_at_s5014_1 {kA : Nat → ClassId} : or_ok PRD kA GG o_Ho_writeWord_at_s5014_1 := by
  refine or_mk fun A ta ws vs hD hth hl => ?_
  intro t0 r0 t2 k2 t5 k5 f1 f2
  replace f1 := shm_134 f1
  replace f2 := shm_5 f2
  have q3 : n_v vs 3 = n_v vs 0 := f2.symm
  simp only [q3] at f1
  have kz_0_12 := fdq_0 hD hth r0
  have nf0 : fc_1 PRD (20, [0, 2], [30, 7, 1, 1, 12, -1, 0, 0]) ws (vs) := ⟨nf_in hl rfl, sgq_203 (vc_Ho_writeWord_at_s5014_1_0 (v_iv (n_v vs 2)) (v_iv (n_v vs 5)) (w_fi ws (n_v vs 0) 12) k2 k5 f1 kz_0_12)⟩
  refine ⟨(fun _ h => (by cases h)), [], trivial, ?_, (fun _ h => (by cases h))⟩
  rw [List.append_nil]
  exact List.forall_mem_cons.mpr ⟨⟨show (20 : Nat) < 100 from by decide, nf0⟩, (fun _ h => (by cases h))⟩
set_option maxHeartbeats 4000000 in
theorem vc_Ho_writeWord_at_s5014_2_0 (spareLength_0 : Int) (gx : Int) (kz_0_12 : 0 ≤ spareLength_0 ∧ spareLength_0 ≤ 100000000) (ex2 : gx = spareLength_0) : 1 * spareLength_0 + ((-1) * gx + 0) ≤ 0 := by
  first | assumption | omega | grind
set_option maxHeartbeats 4000000 in
theorem vc_Ho_writeWord_at_s5014_2_1 (x2 : Int) (x5 : Int) (spareLength_0 : Int) (gx : Int) (k2 : 0 ≤ x2 ∧ x2 ≤ 99999993) (k5 : 0 ≤ x5 ∧ x5 ≤ 6) (f1 : 1 * spareLength_0 + ((-1) * x2 + ((-1) * x5 + 0)) ≤ 0) (kz_0_12 : 0 ≤ spareLength_0 ∧ spareLength_0 ≤ 100000000) (ex2 : gx = spareLength_0) : 1 * gx + ((-1) * x2 + ((-1) * x5 + 0)) ≤ 0 := by
  first | assumption | omega | grind
def o_Ho_writeWord_at_s5014_2 : or_T := (16, 8, [(0, (2, 0, 0, [12])), (2, (0, 0, 99999993, [])), (3, (2, 0, 0, [12])), (5, (0, 0, 6, [])), (6, (0, 7, 7, []))], [(7, [5, 6], [2]), (20, [3, 2, 5], [30, 0, 1, 1, 12, -1, 0, 0, -1, 0, 0]), (24, [0, 3], [])], [], [(0, 0, 99999999, [])], [(20, [3, 8], [30, 0, 1, 1, 12, -1, 0, 0]), (23, [8, 2, 5], [0, 1, -1, -1])], [], [])
theorem oo_Ho_writeWord_at_s5014_2 {kA : Nat → ClassId} : or_ok PRD kA GG o_Ho_writeWord_at_s5014_2 := by
  refine or_mk fun A ta ws vs hD hth hl => ?_
  intro t0 r0 t2 k2 t3 r3 t5 k5 t6 k6 f0 f1 f2
  replace f0 := shm_6 f0
  replace f1 := shm_134 f1
  replace f2 := shm_5 f2
  have q3 : n_v vs 3 = n_v vs 0 := f2.symm
  simp only [q3] at f1
  have kz_0_12 := fdq_0 hD hth r0
  have kv0 := fdq_0 hD hth r0
  obtain ⟨x, ex, hx⟩ := iv_ex (ta := ta) (lo := 0) (hi := 99999999) (z := w_fi ws (n_v vs 0) 12) (by omega) (by omega) (by omega) (by omega)
  have ex2 : v_iv (Value.int x) = w_fi ws (n_v vs 0) 12 := ex
  have ex3 : 0 ≤ v_iv (Value.int x) ∧ v_iv (Value.int x) ≤ 99999999 := tv_rng hx
  have e_2 : n_v (vs ++ [Value.int x]) 2 = n_v vs 2 := n_v_old (by rw [hl]; decide)
  have e_3 : n_v (vs ++ [Value.int x]) 3 = n_v vs 3 := n_v_old (by rw [hl]; decide)
  have e_5 : n_v (vs ++ [Value.int x]) 5 = n_v vs 5 := n_v_old (by rw [hl]; decide)
  have e_8 : n_v (vs ++ [Value.int x]) 8 = Value.int x := n_v_new hl
  have nf0 : fc_1 PRD (20, [3, 8], [30, 0, 1, 1, 12, -1, 0, 0]) ws (vs ++ [Value.int x]) := by
    refine ⟨nf_inA hl rfl, sgq_104 ?_⟩
    · show 1 * w_fi ws (n_v (vs ++ [Value.int x]) 3) 12 + ((-1) * v_iv (n_v (vs ++ [Value.int x]) 8) + 0) ≤ 0
      simp only [e_3, e_8, q3]
      exact vc_Ho_writeWord_at_s5014_2_0 (w_fi ws (n_v vs 0) 12) (v_iv (Value.int x)) kz_0_12 ex2
  have nf1 : fc_1 PRD (23, [8, 2, 5], [0, 1, -1, -1]) ws (vs ++ [Value.int x]) := by
    refine ⟨nf_inA hl rfl, sgq_136 ?_⟩
    · show 1 * v_iv (n_v (vs ++ [Value.int x]) 8) + ((-1) * v_iv (n_v (vs ++ [Value.int x]) 2) + ((-1) * v_iv (n_v (vs ++ [Value.int x]) 5) + 0)) ≤ 0
      simp only [e_2, e_5, e_8]
      exact vc_Ho_writeWord_at_s5014_2_1 (v_iv (n_v vs 2)) (v_iv (n_v vs 5)) (w_fi ws (n_v vs 0) 12) (v_iv (Value.int x)) k2 k5 f1 kz_0_12 ex2
  exact ⟨(fun _ h => (by cases h)), [Value.int x], ag_one hx, List.forall_mem_cons.mpr ⟨⟨show (20 : Nat) < 100 from by decide, nf0⟩, List.forall_mem_cons.mpr ⟨⟨show (23 : Nat) < 100 from by decide, nf1⟩, (fun _ h => (by cases h))⟩⟩, (fun _ h => (by cases h))⟩
set_option maxHeartbeats 4000000 in
theorem vc_Ho_writeWord_at_s5014_3_0 (x2 : Int) (x5 : Int) (x8 : Int) (x9 : Int) (spareLength_0 : Int) (k2 : 0 ≤ x2 ∧ x2 ≤ 99999993) (k5 : 0 ≤ x5 ∧ x5 ≤ 6) (k8 : 0 ≤ x8 ∧ x8 ≤ 99999999) (k9 : 1 ≤ x9 ∧ x9 ≤ 7) (d0 : x5 + 1 ≤ x9 ∧ x9 ≤ x5 + 1) (f1 : 1 * x8 + ((-1) * x2 + ((-1) * x5 + 0)) ≤ 0) (f3 : 1 * spareLength_0 + ((-1) * x8 + 0) ≤ 1) (kz_0_12 : 0 ≤ spareLength_0 ∧ spareLength_0 ≤ 100000000) : 1 * spareLength_0 + ((-1) * x2 + ((-1) * x9 + 0)) ≤ 0 := by
  first | assumption | omega | grind
def o_Ho_writeWord_at_s5014_3 : or_T := (2, 10, [(0, (2, 0, 0, [12])), (2, (0, 0, 99999993, [])), (5, (0, 0, 6, [])), (8, (0, 0, 99999999, [])), (9, (0, 1, 7, []))], [(23, [8, 2, 5], [0, 1, -1, -1]), (24, [0, 3], []), (20, [3, 8], [30, 1, 1, 1, 12, -1, 0, 0])], [], [], [(20, [3, 2, 9], [30, 0, 1, 1, 12, -1, 0, 0, -1, 0, 0])], [], [(9, 5, 1, 1)])
theorem oo_Ho_writeWord_at_s5014_3 {kA : Nat → ClassId} : or_ok PRD kA GG o_Ho_writeWord_at_s5014_3 := by
  refine or_mk fun A ta ws vs hD hth hl => ?_
  intro t0 r0 t2 k2 t5 k5 t8 k8 t9 k9 d0 f1 f2 f3
  replace f1 := shm_136 f1
  replace f2 := shm_5 f2
  replace f3 := shm_105 f3
  have q3 : n_v vs 3 = n_v vs 0 := f2.symm
  simp only [q3] at f3
  have kz_0_12 := fdq_0 hD hth r0
  have nf0 : fc_1 PRD (20, [3, 2, 9], [30, 0, 1, 1, 12, -1, 0, 0, -1, 0, 0]) ws (vs) := by
    refine ⟨nf_in hl rfl, sgq_134 ?_⟩
    · show 1 * w_fi ws (n_v vs 3) 12 + ((-1) * v_iv (n_v vs 2) + ((-1) * v_iv (n_v vs 9) + 0)) ≤ 0
      rw [q3]
      exact vc_Ho_writeWord_at_s5014_3_0 (v_iv (n_v vs 2)) (v_iv (n_v vs 5)) (v_iv (n_v vs 8)) (v_iv (n_v vs 9)) (w_fi ws (n_v vs 0) 12) k2 k5 k8 k9 d0 f1 f3 kz_0_12
  refine ⟨(fun _ h => (by cases h)), [], trivial, ?_, (fun _ h => (by cases h))⟩
  rw [List.append_nil]
  exact List.forall_mem_cons.mpr ⟨⟨show (20 : Nat) < 100 from by decide, nf0⟩, (fun _ h => (by cases h))⟩
def n_Ho_writeWord_at_s5014_an : List an_T := [(2, [(0, (2, 0, 0, [12])), (1, (2, 0, 0, [5014])), (2, (0, 0, 7, []))], [], (0, 0), [(0, 0, 99998), (1, 5, 7), (0, 0, 100000)], [], [], [(2, 0, 0, [12]), (2, 0, 0, [5014]), (0, 0, 99999993, [])], 0, [], [(20, [3, 2, 5], [30, 0, 1, 1, 12, (Int.negSucc 0), 0, 0, (Int.negSucc 0), 0, 0]), (24, [0, 3], [])])]
def t_Ho_writeWord_at_s5014_ct : ct_L := [(1, 447, e_Ho_writeByte), (16, 438, e_jStr_length_v366), (43, 443, e_jStr_charAt_v367)]
set_option maxRecDepth 100000 in
theorem c_Ho_writeWord_at_s5014 {l : Launch} {D : va_G} {kA : Nat → ClassId} (h_Ho_writeByte : ct_ok PRD l D kA GG y_Ho_writeByte z_Ho_writeByte e_Ho_writeByte) : ct_ok PRD l D kA GG y_Ho_writeWord_at_s5014 z_Ho_writeWord_at_s5014 e_Ho_writeWord_at_s5014 := chk_all_ok (FT := []) (PT := []) (CT := t_Ho_writeWord_at_s5014_ct) (KT := []) (NT := []) (AN := n_Ho_writeWord_at_s5014_an) (OT := [o_Ho_writeWord_at_s5014_0, o_Ho_writeWord_at_s5014_1, o_Ho_writeWord_at_s5014_2, o_Ho_writeWord_at_s5014_3]) 3 200 (List.forall_mem_cons.mpr ⟨oo_Ho_writeWord_at_s5014_0, List.forall_mem_cons.mpr ⟨oo_Ho_writeWord_at_s5014_1, List.forall_mem_cons.mpr ⟨oo_Ho_writeWord_at_s5014_2, List.forall_mem_cons.mpr ⟨oo_Ho_writeWord_at_s5014_3, List.forall_mem_nil _⟩⟩⟩⟩) (by decide +kernel) ⟨List.forall_mem_nil _, List.forall_mem_nil _, List.forall_mem_cons.mpr ⟨cl_virtual (y := y_Ho_writeByte) (ci := 12) rfl rfl ⟨_, _, rfl⟩ (by decide +kernel) h_Ho_writeByte wm_2345 wm_1 wm_2342 wm_2344 wv_12_0 ⟨by decide, by decide, by decide +kernel⟩ (by decide), List.forall_mem_cons.mpr ⟨cl_string (y := y_jStr_length) (i := 14) rfl rfl (by decide +kernel) rfl c_jStr_length_v366 wm_674 wm_11 wm_2340 wm_672 wm_673 ⟨by decide, by decide, by decide +kernel⟩ (by decide), List.forall_mem_cons.mpr ⟨cl_string (y := y_jStr_charAt) (i := 14) rfl rfl (by decide +kernel) rfl c_jStr_charAt_v367 wm_684 wm_11 wm_2341 wm_682 wm_683 ⟨by decide, by decide, by decide +kernel⟩ (by decide), List.forall_mem_nil _⟩⟩⟩, List.forall_mem_nil _, List.forall_mem_nil _, GG_pl⟩ (by decide +kernel)
set_option maxHeartbeats 4000000 in
theorem vc_Ho_writeWord_at_s5015_0_0 (x2 : Int) (x3 : Int) (spareLength_0 : Int) (k2 : 0 ≤ x2 ∧ x2 ≤ 99999998) (k3 : 0 ≤ x3 ∧ x3 ≤ 0) (f0 : 1 * spareLength_0 + ((-1) * x2 + 0) ≤ 0) (kz_0_12 : 0 ≤ spareLength_0 ∧ spareLength_0 ≤ 100000000) : 1 * spareLength_0 + ((-1) * x2 + ((-1) * x3 + 0)) ≤ 0 := by
  first | assumption | omega | grind
def o_Ho_writeWord_at_s5015_0 : or_T := (2, 4, [(0, (2, 0, 0, [12])), (2, (0, 0, 99999998, [])), (3, (0, 0, 0, []))], [(20, [0, 2], [30, 0, 1, 1, 12, -1, 0, 0])], [], [], [(20, [0, 2, 3], [30, 0, 1, 1, 12, -1, 0, 0, -1, 0, 0]), (24, [0, 0], [])], [], [])
theorem oo_Ho_writeWord_at_s5015_0 {kA : Nat → ClassId} : or_ok PRD kA GG o_Ho_writeWord_at_s5015_0 := by
  refine or_mk fun A ta ws vs hD hth hl => ?_
  intro t0 r0 t2 k2 t3 k3 f0
  have kz_0_12 := fdq_0 hD hth r0
  have nf0 : fc_1 PRD (20, [0, 2, 3], [30, 0, 1, 1, 12, -1, 0, 0, -1, 0, 0]) ws (vs) := ⟨nf_in hl rfl, sgq_134 (vc_Ho_writeWord_at_s5015_0_0 (v_iv (n_v vs 2)) (v_iv (n_v vs 3)) (w_fi ws (n_v vs 0) 12) k2 k3 (shm_104 f0) kz_0_12)⟩
  have nf1 : fc_1 PRD (24, [0, 0], []) ws (vs) := by
    refine ⟨nf_in hl rfl, sgq_1 ?_⟩
    · show n_v vs 0 = n_v vs 0
      first | rfl | simp only [true_and]
  refine ⟨(fun _ h => (by cases h)), [], trivial, ?_, (fun _ h => (by cases h))⟩
  rw [List.append_nil]
  exact List.forall_mem_cons.mpr ⟨⟨show (20 : Nat) < 100 from by decide, nf0⟩, List.forall_mem_cons.mpr ⟨⟨show (24 : Nat) < 100 from by decide, nf1⟩, (fun _ h => (by cases h))⟩⟩
set_option maxHeartbeats 4000000 in
theorem vc_Ho_writeWord_at_s5015_1_0 (x2 : Int) (x5 : Int) (spareLength_0 : Int) (k2 : 0 ≤ x2 ∧ x2 ≤ 99999998) (k5 : 2 ≤ x5 ∧ x5 ≤ 2) (f1 : 1 * spareLength_0 + ((-1) * x2 + ((-1) * x5 + 0)) ≤ 0) (kz_0_12 : 0 ≤ spareLength_0 ∧ spareLength_0 ≤ 100000000) : 1 * spareLength_0 + ((-1) * x2 + 0) ≤ 2 := by
  first | assumption | omega | grind
def o_Ho_writeWord_at_s5015_1 : or_T := (25, 7, [(0, (2, 0, 0, [12])), (2, (0, 0, 99999998, [])), (5, (0, 2, 2, []))], [(20, [3, 2, 5], [30, 0, 1, 1, 12, -1, 0, 0, -1, 0, 0]), (24, [0, 3], [])], [], [], [(20, [0, 2], [30, 2, 1, 1, 12, -1, 0, 0])], [], [])
theorem oo_Ho_writeWord_at_s5015_1 {kA : Nat → ClassId} : or_ok PRD kA GG o_Ho_writeWord_at_s5015_1 := by
  refine or_mk fun A ta ws vs hD hth hl => ?_
  intro t0 r0 t2 k2 t5 k5 f1 f2
  replace f1 := shm_134 f1
  replace f2 := shm_5 f2
  have q3 : n_v vs 3 = n_v vs 0 := f2.symm
  simp only [q3] at f1
  have kz_0_12 := fdq_0 hD hth r0
  have nf0 : fc_1 PRD (20, [0, 2], [30, 2, 1, 1, 12, -1, 0, 0]) ws (vs) := ⟨nf_in hl rfl, sgq_204 (vc_Ho_writeWord_at_s5015_1_0 (v_iv (n_v vs 2)) (v_iv (n_v vs 5)) (w_fi ws (n_v vs 0) 12) k2 k5 f1 kz_0_12)⟩
  refine ⟨(fun _ h => (by cases h)), [], trivial, ?_, (fun _ h => (by cases h))⟩
  rw [List.append_nil]
  exact List.forall_mem_cons.mpr ⟨⟨show (20 : Nat) < 100 from by decide, nf0⟩, (fun _ h => (by cases h))⟩
set_option maxHeartbeats 4000000 in
theorem vc_Ho_writeWord_at_s5015_2_0 (spareLength_0 : Int) (gx : Int) (kz_0_12 : 0 ≤ spareLength_0 ∧ spareLength_0 ≤ 100000000) (ex2 : gx = spareLength_0) : 1 * spareLength_0 + ((-1) * gx + 0) ≤ 0 := by
  first | assumption | omega | grind
set_option maxHeartbeats 4000000 in
theorem vc_Ho_writeWord_at_s5015_2_1 (x2 : Int) (x5 : Int) (spareLength_0 : Int) (gx : Int) (k2 : 0 ≤ x2 ∧ x2 ≤ 99999998) (k5 : 0 ≤ x5 ∧ x5 ≤ 1) (f1 : 1 * spareLength_0 + ((-1) * x2 + ((-1) * x5 + 0)) ≤ 0) (kz_0_12 : 0 ≤ spareLength_0 ∧ spareLength_0 ≤ 100000000) (ex2 : gx = spareLength_0) : 1 * gx + ((-1) * x2 + ((-1) * x5 + 0)) ≤ 0 := by
  first | assumption | omega | grind
def o_Ho_writeWord_at_s5015_2 : or_T := (16, 8, [(0, (2, 0, 0, [12])), (2, (0, 0, 99999998, [])), (3, (2, 0, 0, [12])), (5, (0, 0, 1, [])), (6, (0, 2, 2, []))], [(7, [5, 6], [2]), (20, [3, 2, 5], [30, 0, 1, 1, 12, -1, 0, 0, -1, 0, 0]), (24, [0, 3], [])], [], [(0, 0, 99999999, [])], [(20, [3, 8], [30, 0, 1, 1, 12, -1, 0, 0]), (23, [8, 2, 5], [0, 1, -1, -1])], [], [])
theorem oo_Ho_writeWord_at_s5015_2 {kA : Nat → ClassId} : or_ok PRD kA GG o_Ho_writeWord_at_s5015_2 := by
  refine or_mk fun A ta ws vs hD hth hl => ?_
  intro t0 r0 t2 k2 t3 r3 t5 k5 t6 k6 f0 f1 f2
  replace f0 := shm_6 f0
  replace f1 := shm_134 f1
  replace f2 := shm_5 f2
  have q3 : n_v vs 3 = n_v vs 0 := f2.symm
  simp only [q3] at f1
  have kz_0_12 := fdq_0 hD hth r0
  have kv0 := fdq_0 hD hth r0
  obtain ⟨x, ex, hx⟩ := iv_ex (ta := ta) (lo := 0) (hi := 99999999) (z := w_fi ws (n_v vs 0) 12) (by omega) (by omega) (by omega) (by omega)
  have ex2 : v_iv (Value.int x) = w_fi ws (n_v vs 0) 12 := ex
  have ex3 : 0 ≤ v_iv (Value.int x) ∧ v_iv (Value.int x) ≤ 99999999 := tv_rng hx
  have e_2 : n_v (vs ++ [Value.int x]) 2 = n_v vs 2 := n_v_old (by rw [hl]; decide)
  have e_3 : n_v (vs ++ [Value.int x]) 3 = n_v vs 3 := n_v_old (by rw [hl]; decide)
  have e_5 : n_v (vs ++ [Value.int x]) 5 = n_v vs 5 := n_v_old (by rw [hl]; decide)
  have e_8 : n_v (vs ++ [Value.int x]) 8 = Value.int x := n_v_new hl
  have nf0 : fc_1 PRD (20, [3, 8], [30, 0, 1, 1, 12, -1, 0, 0]) ws (vs ++ [Value.int x]) := by
    refine ⟨nf_inA hl rfl, sgq_104 ?_⟩
    · show 1 * w_fi ws (n_v (vs ++ [Value.int x]) 3) 12 + ((-1) * v_iv (n_v (vs ++ [Value.int x]) 8) + 0) ≤ 0
      simp only [e_3, e_8, q3]
      exact vc_Ho_writeWord_at_s5015_2_0 (w_fi ws (n_v vs 0) 12) (v_iv (Value.int x)) kz_0_12 ex2
  have nf1 : fc_1 PRD (23, [8, 2, 5], [0, 1, -1, -1]) ws (vs ++ [Value.int x]) := by
    refine ⟨nf_inA hl rfl, sgq_136 ?_⟩
    · show 1 * v_iv (n_v (vs ++ [Value.int x]) 8) + ((-1) * v_iv (n_v (vs ++ [Value.int x]) 2) + ((-1) * v_iv (n_v (vs ++ [Value.int x]) 5) + 0)) ≤ 0
      simp only [e_2, e_5, e_8]
      exact vc_Ho_writeWord_at_s5015_2_1 (v_iv (n_v vs 2)) (v_iv (n_v vs 5)) (w_fi ws (n_v vs 0) 12) (v_iv (Value.int x)) k2 k5 f1 kz_0_12 ex2
  exact ⟨(fun _ h => (by cases h)), [Value.int x], ag_one hx, List.forall_mem_cons.mpr ⟨⟨show (20 : Nat) < 100 from by decide, nf0⟩, List.forall_mem_cons.mpr ⟨⟨show (23 : Nat) < 100 from by decide, nf1⟩, (fun _ h => (by cases h))⟩⟩, (fun _ h => (by cases h))⟩
set_option maxHeartbeats 4000000 in
theorem vc_Ho_writeWord_at_s5015_3_0 (x2 : Int) (x5 : Int) (x8 : Int) (x9 : Int) (spareLength_0 : Int) (k2 : 0 ≤ x2 ∧ x2 ≤ 99999998) (k5 : 0 ≤ x5 ∧ x5 ≤ 1) (k8 : 0 ≤ x8 ∧ x8 ≤ 99999999) (k9 : 1 ≤ x9 ∧ x9 ≤ 2) (d0 : x5 + 1 ≤ x9 ∧ x9 ≤ x5 + 1) (f1 : 1 * x8 + ((-1) * x2 + ((-1) * x5 + 0)) ≤ 0) (f3 : 1 * spareLength_0 + ((-1) * x8 + 0) ≤ 1) (kz_0_12 : 0 ≤ spareLength_0 ∧ spareLength_0 ≤ 100000000) : 1 * spareLength_0 + ((-1) * x2 + ((-1) * x9 + 0)) ≤ 0 := by
  first | assumption | omega | grind
def o_Ho_writeWord_at_s5015_3 : or_T := (2, 10, [(0, (2, 0, 0, [12])), (2, (0, 0, 99999998, [])), (5, (0, 0, 1, [])), (8, (0, 0, 99999999, [])), (9, (0, 1, 2, []))], [(23, [8, 2, 5], [0, 1, -1, -1]), (24, [0, 3], []), (20, [3, 8], [30, 1, 1, 1, 12, -1, 0, 0])], [], [], [(20, [3, 2, 9], [30, 0, 1, 1, 12, -1, 0, 0, -1, 0, 0])], [], [(9, 5, 1, 1)])
theorem oo_Ho_writeWord_at_s5015_3 {kA : Nat → ClassId} : or_ok PRD kA GG o_Ho_writeWord_at_s5015_3 := by
  refine or_mk fun A ta ws vs hD hth hl => ?_
  intro t0 r0 t2 k2 t5 k5 t8 k8 t9 k9 d0 f1 f2 f3
  replace f1 := shm_136 f1
  replace f2 := shm_5 f2
  replace f3 := shm_105 f3
  have q3 : n_v vs 3 = n_v vs 0 := f2.symm
  simp only [q3] at f3
  have kz_0_12 := fdq_0 hD hth r0
  have nf0 : fc_1 PRD (20, [3, 2, 9], [30, 0, 1, 1, 12, -1, 0, 0, -1, 0, 0]) ws (vs) := by
    refine ⟨nf_in hl rfl, sgq_134 ?_⟩
    · show 1 * w_fi ws (n_v vs 3) 12 + ((-1) * v_iv (n_v vs 2) + ((-1) * v_iv (n_v vs 9) + 0)) ≤ 0
      rw [q3]
      exact vc_Ho_writeWord_at_s5015_3_0 (v_iv (n_v vs 2)) (v_iv (n_v vs 5)) (v_iv (n_v vs 8)) (v_iv (n_v vs 9)) (w_fi ws (n_v vs 0) 12) k2 k5 k8 k9 d0 f1 f3 kz_0_12
  refine ⟨(fun _ h => (by cases h)), [], trivial, ?_, (fun _ h => (by cases h))⟩
  rw [List.append_nil]
  exact List.forall_mem_cons.mpr ⟨⟨show (20 : Nat) < 100 from by decide, nf0⟩, (fun _ h => (by cases h))⟩
def n_Ho_writeWord_at_s5015_an : List an_T := [(2, [(0, (2, 0, 0, [12])), (1, (2, 0, 0, [5015])), (2, (0, 0, 2, []))], [], (0, 0), [(0, 0, 99998), (1, 5, 2), (0, 0, 100000)], [], [], [(2, 0, 0, [12]), (2, 0, 0, [5015]), (0, 0, 99999998, [])], 0, [], [(20, [3, 2, 5], [30, 0, 1, 1, 12, (Int.negSucc 0), 0, 0, (Int.negSucc 0), 0, 0]), (24, [0, 3], [])])]
def t_Ho_writeWord_at_s5015_ct : ct_L := [(1, 447, e_Ho_writeByte), (16, 438, e_jStr_length_v371), (43, 443, e_jStr_charAt_v372)]
set_option maxRecDepth 100000 in
theorem c_Ho_writeWord_at_s5015 {l : Launch} {D : va_G} {kA : Nat → ClassId} (h_Ho_writeByte : ct_ok PRD l D kA GG y_Ho_writeByte z_Ho_writeByte e_Ho_writeByte) : ct_ok PRD l D kA GG y_Ho_writeWord_at_s5015 z_Ho_writeWord_at_s5015 e_Ho_writeWord_at_s5015 := chk_all_ok (FT := []) (PT := []) (CT := t_Ho_writeWord_at_s5015_ct) (KT := []) (NT := []) (AN := n_Ho_writeWord_at_s5015_an) (OT := [o_Ho_writeWord_at_s5015_0, o_Ho_writeWord_at_s5015_1, o_Ho_writeWord_at_s5015_2, o_Ho_writeWord_at_s5015_3]) 3 200 (List.forall_mem_cons.mpr ⟨oo_Ho_writeWord_at_s5015_0, List.forall_mem_cons.mpr ⟨oo_Ho_writeWord_at_s5015_1, List.forall_mem_cons.mpr ⟨oo_Ho_writeWord_at_s5015_2, List.forall_mem_cons.mpr ⟨oo_Ho_writeWord_at_s5015_3, List.forall_mem_nil _⟩⟩⟩⟩) (by decide +kernel) ⟨List.forall_mem_nil _, List.forall_mem_nil _, List.forall_mem_cons.mpr ⟨cl_virtual (y := y_Ho_writeByte) (ci := 12) rfl rfl ⟨_, _, rfl⟩ (by decide +kernel) h_Ho_writeByte wm_2345 wm_1 wm_2342 wm_2344 wv_12_0 ⟨by decide, by decide, by decide +kernel⟩ (by decide), List.forall_mem_cons.mpr ⟨cl_string (y := y_jStr_length) (i := 15) rfl rfl (by decide +kernel) rfl c_jStr_length_v371 wm_674 wm_11 wm_2340 wm_672 wm_673 ⟨by decide, by decide, by decide +kernel⟩ (by decide), List.forall_mem_cons.mpr ⟨cl_string (y := y_jStr_charAt) (i := 15) rfl rfl (by decide +kernel) rfl c_jStr_charAt_v372 wm_684 wm_11 wm_2341 wm_682 wm_683 ⟨by decide, by decide, by decide +kernel⟩ (by decide), List.forall_mem_nil _⟩⟩⟩, List.forall_mem_nil _, List.forall_mem_nil _, GG_pl⟩ (by decide +kernel)
set_option maxHeartbeats 4000000 in
theorem vc_Ho_writeWord_at_s5016_0_0 (x2 : Int) (x3 : Int) (spareLength_0 : Int) (k2 : 0 ≤ x2 ∧ x2 ≤ 99999994) (k3 : 0 ≤ x3 ∧ x3 ≤ 0) (f0 : 1 * spareLength_0 + ((-1) * x2 + 0) ≤ 0) (kz_0_12 : 0 ≤ spareLength_0 ∧ spareLength_0 ≤ 100000000) : 1 * spareLength_0 + ((-1) * x2 + ((-1) * x3 + 0)) ≤ 0 := by
  first | assumption | omega | grind
def o_Ho_writeWord_at_s5016_0 : or_T := (2, 4, [(0, (2, 0, 0, [12])), (2, (0, 0, 99999994, [])), (3, (0, 0, 0, []))], [(20, [0, 2], [30, 0, 1, 1, 12, -1, 0, 0])], [], [], [(20, [0, 2, 3], [30, 0, 1, 1, 12, -1, 0, 0, -1, 0, 0]), (24, [0, 0], [])], [], [])
theorem oo_Ho_writeWord_at_s5016_0 {kA : Nat → ClassId} : or_ok PRD kA GG o_Ho_writeWord_at_s5016_0 := by
  refine or_mk fun A ta ws vs hD hth hl => ?_
  intro t0 r0 t2 k2 t3 k3 f0
  have kz_0_12 := fdq_0 hD hth r0
  have nf0 : fc_1 PRD (20, [0, 2, 3], [30, 0, 1, 1, 12, -1, 0, 0, -1, 0, 0]) ws (vs) := ⟨nf_in hl rfl, sgq_134 (vc_Ho_writeWord_at_s5016_0_0 (v_iv (n_v vs 2)) (v_iv (n_v vs 3)) (w_fi ws (n_v vs 0) 12) k2 k3 (shm_104 f0) kz_0_12)⟩
  have nf1 : fc_1 PRD (24, [0, 0], []) ws (vs) := by
    refine ⟨nf_in hl rfl, sgq_1 ?_⟩
    · show n_v vs 0 = n_v vs 0
      first | rfl | simp only [true_and]
  refine ⟨(fun _ h => (by cases h)), [], trivial, ?_, (fun _ h => (by cases h))⟩
  rw [List.append_nil]
  exact List.forall_mem_cons.mpr ⟨⟨show (20 : Nat) < 100 from by decide, nf0⟩, List.forall_mem_cons.mpr ⟨⟨show (24 : Nat) < 100 from by decide, nf1⟩, (fun _ h => (by cases h))⟩⟩
set_option maxHeartbeats 4000000 in
theorem vc_Ho_writeWord_at_s5016_1_0 (x2 : Int) (x5 : Int) (spareLength_0 : Int) (k2 : 0 ≤ x2 ∧ x2 ≤ 99999994) (k5 : 6 ≤ x5 ∧ x5 ≤ 6) (f1 : 1 * spareLength_0 + ((-1) * x2 + ((-1) * x5 + 0)) ≤ 0) (kz_0_12 : 0 ≤ spareLength_0 ∧ spareLength_0 ≤ 100000000) : 1 * spareLength_0 + ((-1) * x2 + 0) ≤ 6 := by
  first | assumption | omega | grind
def o_Ho_writeWord_at_s5016_1 : or_T := (25, 7, [(0, (2, 0, 0, [12])), (2, (0, 0, 99999994, [])), (5, (0, 6, 6, []))], [(20, [3, 2, 5], [30, 0, 1, 1, 12, -1, 0, 0, -1, 0, 0]), (24, [0, 3], [])], [], [], [(20, [0, 2], [30, 6, 1, 1, 12, -1, 0, 0])], [], [])
theorem oo_Ho_writeWord_at_s5016_1 {kA : Nat → ClassId} : or_ok PRD kA GG o_Ho_writeWord_at_s5016_1 := by
  refine or_mk fun A ta ws vs hD hth hl => ?_
  intro t0 r0 t2 k2 t5 k5 f1 f2
  replace f1 := shm_134 f1
  replace f2 := shm_5 f2
  have q3 : n_v vs 3 = n_v vs 0 := f2.symm
  simp only [q3] at f1
  have kz_0_12 := fdq_0 hD hth r0
  have nf0 : fc_1 PRD (20, [0, 2], [30, 6, 1, 1, 12, -1, 0, 0]) ws (vs) := ⟨nf_in hl rfl, sgq_205 (vc_Ho_writeWord_at_s5016_1_0 (v_iv (n_v vs 2)) (v_iv (n_v vs 5)) (w_fi ws (n_v vs 0) 12) k2 k5 f1 kz_0_12)⟩
  refine ⟨(fun _ h => (by cases h)), [], trivial, ?_, (fun _ h => (by cases h))⟩
  rw [List.append_nil]
  exact List.forall_mem_cons.mpr ⟨⟨show (20 : Nat) < 100 from by decide, nf0⟩, (fun _ h => (by cases h))⟩
set_option maxHeartbeats 4000000 in
theorem vc_Ho_writeWord_at_s5016_2_0 (spareLength_0 : Int) (gx : Int) (kz_0_12 : 0 ≤ spareLength_0 ∧ spareLength_0 ≤ 100000000) (ex2 : gx = spareLength_0) : 1 * spareLength_0 + ((-1) * gx + 0) ≤ 0 := by
  first | assumption | omega | grind
set_option maxHeartbeats 4000000 in
theorem vc_Ho_writeWord_at_s5016_2_1 (x2 : Int) (x5 : Int) (spareLength_0 : Int) (gx : Int) (k2 : 0 ≤ x2 ∧ x2 ≤ 99999994) (k5 : 0 ≤ x5 ∧ x5 ≤ 5) (f1 : 1 * spareLength_0 + ((-1) * x2 + ((-1) * x5 + 0)) ≤ 0) (kz_0_12 : 0 ≤ spareLength_0 ∧ spareLength_0 ≤ 100000000) (ex2 : gx = spareLength_0) : 1 * gx + ((-1) * x2 + ((-1) * x5 + 0)) ≤ 0 := by
  first | assumption | omega | grind
def o_Ho_writeWord_at_s5016_2 : or_T := (16, 8, [(0, (2, 0, 0, [12])), (2, (0, 0, 99999994, [])), (3, (2, 0, 0, [12])), (5, (0, 0, 5, [])), (6, (0, 6, 6, []))], [(7, [5, 6], [2]), (20, [3, 2, 5], [30, 0, 1, 1, 12, -1, 0, 0, -1, 0, 0]), (24, [0, 3], [])], [], [(0, 0, 99999999, [])], [(20, [3, 8], [30, 0, 1, 1, 12, -1, 0, 0]), (23, [8, 2, 5], [0, 1, -1, -1])], [], [])
theorem oo_Ho_writeWord_at_s5016_2 {kA : Nat → ClassId} : or_ok PRD kA GG o_Ho_writeWord_at_s5016_2 := by
  refine or_mk fun A ta ws vs hD hth hl => ?_
  intro t0 r0 t2 k2 t3 r3 t5 k5 t6 k6 f0 f1 f2
  replace f0 := shm_6 f0
  replace f1 := shm_134 f1
  replace f2 := shm_5 f2
  have q3 : n_v vs 3 = n_v vs 0 := f2.symm
  simp only [q3] at f1
  have kz_0_12 := fdq_0 hD hth r0
  have kv0 := fdq_0 hD hth r0
  obtain ⟨x, ex, hx⟩ := iv_ex (ta := ta) (lo := 0) (hi := 99999999) (z := w_fi ws (n_v vs 0) 12) (by omega) (by omega) (by omega) (by omega)
  have ex2 : v_iv (Value.int x) = w_fi ws (n_v vs 0) 12 := ex
  have ex3 : 0 ≤ v_iv (Value.int x) ∧ v_iv (Value.int x) ≤ 99999999 := tv_rng hx
  have e_2 : n_v (vs ++ [Value.int x]) 2 = n_v vs 2 := n_v_old (by rw [hl]; decide)
  have e_3 : n_v (vs ++ [Value.int x]) 3 = n_v vs 3 := n_v_old (by rw [hl]; decide)
  have e_5 : n_v (vs ++ [Value.int x]) 5 = n_v vs 5 := n_v_old (by rw [hl]; decide)
  have e_8 : n_v (vs ++ [Value.int x]) 8 = Value.int x := n_v_new hl
  have nf0 : fc_1 PRD (20, [3, 8], [30, 0, 1, 1, 12, -1, 0, 0]) ws (vs ++ [Value.int x]) := by
    refine ⟨nf_inA hl rfl, sgq_104 ?_⟩
    · show 1 * w_fi ws (n_v (vs ++ [Value.int x]) 3) 12 + ((-1) * v_iv (n_v (vs ++ [Value.int x]) 8) + 0) ≤ 0
      simp only [e_3, e_8, q3]
      exact vc_Ho_writeWord_at_s5016_2_0 (w_fi ws (n_v vs 0) 12) (v_iv (Value.int x)) kz_0_12 ex2
  have nf1 : fc_1 PRD (23, [8, 2, 5], [0, 1, -1, -1]) ws (vs ++ [Value.int x]) := by
    refine ⟨nf_inA hl rfl, sgq_136 ?_⟩
    · show 1 * v_iv (n_v (vs ++ [Value.int x]) 8) + ((-1) * v_iv (n_v (vs ++ [Value.int x]) 2) + ((-1) * v_iv (n_v (vs ++ [Value.int x]) 5) + 0)) ≤ 0
      simp only [e_2, e_5, e_8]
      exact vc_Ho_writeWord_at_s5016_2_1 (v_iv (n_v vs 2)) (v_iv (n_v vs 5)) (w_fi ws (n_v vs 0) 12) (v_iv (Value.int x)) k2 k5 f1 kz_0_12 ex2
  exact ⟨(fun _ h => (by cases h)), [Value.int x], ag_one hx, List.forall_mem_cons.mpr ⟨⟨show (20 : Nat) < 100 from by decide, nf0⟩, List.forall_mem_cons.mpr ⟨⟨show (23 : Nat) < 100 from by decide, nf1⟩, (fun _ h => (by cases h))⟩⟩, (fun _ h => (by cases h))⟩
set_option maxHeartbeats 4000000 in
theorem vc_Ho_writeWord_at_s5016_3_0 (x2 : Int) (x5 : Int) (x8 : Int) (x9 : Int) (spareLength_0 : Int) (k2 : 0 ≤ x2 ∧ x2 ≤ 99999994) (k5 : 0 ≤ x5 ∧ x5 ≤ 5) (k8 : 0 ≤ x8 ∧ x8 ≤ 99999999) (k9 : 1 ≤ x9 ∧ x9 ≤ 6) (d0 : x5 + 1 ≤ x9 ∧ x9 ≤ x5 + 1) (f1 : 1 * x8 + ((-1) * x2 + ((-1) * x5 + 0)) ≤ 0) (f3 : 1 * spareLength_0 + ((-1) * x8 + 0) ≤ 1) (kz_0_12 : 0 ≤ spareLength_0 ∧ spareLength_0 ≤ 100000000) : 1 * spareLength_0 + ((-1) * x2 + ((-1) * x9 + 0)) ≤ 0 := by
  first | assumption | omega | grind
def o_Ho_writeWord_at_s5016_3 : or_T := (2, 10, [(0, (2, 0, 0, [12])), (2, (0, 0, 99999994, [])), (5, (0, 0, 5, [])), (8, (0, 0, 99999999, [])), (9, (0, 1, 6, []))], [(23, [8, 2, 5], [0, 1, -1, -1]), (24, [0, 3], []), (20, [3, 8], [30, 1, 1, 1, 12, -1, 0, 0])], [], [], [(20, [3, 2, 9], [30, 0, 1, 1, 12, -1, 0, 0, -1, 0, 0])], [], [(9, 5, 1, 1)])
theorem oo_Ho_writeWord_at_s5016_3 {kA : Nat → ClassId} : or_ok PRD kA GG o_Ho_writeWord_at_s5016_3 := by
  refine or_mk fun A ta ws vs hD hth hl => ?_
  intro t0 r0 t2 k2 t5 k5 t8 k8 t9 k9 d0 f1 f2 f3
  replace f1 := shm_136 f1
  replace f2 := shm_5 f2
  replace f3 := shm_105 f3
  have q3 : n_v vs 3 = n_v vs 0 := f2.symm
  simp only [q3] at f3
  have kz_0_12 := fdq_0 hD hth r0
  have nf0 : fc_1 PRD (20, [3, 2, 9], [30, 0, 1, 1, 12, -1, 0, 0, -1, 0, 0]) ws (vs) := by
    refine ⟨nf_in hl rfl, sgq_134 ?_⟩
    · show 1 * w_fi ws (n_v vs 3) 12 + ((-1) * v_iv (n_v vs 2) + ((-1) * v_iv (n_v vs 9) + 0)) ≤ 0
      rw [q3]
      exact vc_Ho_writeWord_at_s5016_3_0 (v_iv (n_v vs 2)) (v_iv (n_v vs 5)) (v_iv (n_v vs 8)) (v_iv (n_v vs 9)) (w_fi ws (n_v vs 0) 12) k2 k5 k8 k9 d0 f1 f3 kz_0_12
  refine ⟨(fun _ h => (by cases h)), [], trivial, ?_, (fun _ h => (by cases h))⟩
  rw [List.append_nil]
  exact List.forall_mem_cons.mpr ⟨⟨show (20 : Nat) < 100 from by decide, nf0⟩, (fun _ h => (by cases h))⟩
def n_Ho_writeWord_at_s5016_an : List an_T := [(2, [(0, (2, 0, 0, [12])), (1, (2, 0, 0, [5016])), (2, (0, 0, 6, []))], [], (0, 0), [(0, 0, 99998), (1, 5, 6), (0, 0, 100000)], [], [], [(2, 0, 0, [12]), (2, 0, 0, [5016]), (0, 0, 99999994, [])], 0, [], [(20, [3, 2, 5], [30, 0, 1, 1, 12, (Int.negSucc 0), 0, 0, (Int.negSucc 0), 0, 0]), (24, [0, 3], [])])]
def t_Ho_writeWord_at_s5016_ct : ct_L := [(1, 447, e_Ho_writeByte), (16, 438, e_jStr_length_v376), (43, 443, e_jStr_charAt_v377)]
set_option maxRecDepth 100000 in
theorem c_Ho_writeWord_at_s5016 {l : Launch} {D : va_G} {kA : Nat → ClassId} (h_Ho_writeByte : ct_ok PRD l D kA GG y_Ho_writeByte z_Ho_writeByte e_Ho_writeByte) : ct_ok PRD l D kA GG y_Ho_writeWord_at_s5016 z_Ho_writeWord_at_s5016 e_Ho_writeWord_at_s5016 := chk_all_ok (FT := []) (PT := []) (CT := t_Ho_writeWord_at_s5016_ct) (KT := []) (NT := []) (AN := n_Ho_writeWord_at_s5016_an) (OT := [o_Ho_writeWord_at_s5016_0, o_Ho_writeWord_at_s5016_1, o_Ho_writeWord_at_s5016_2, o_Ho_writeWord_at_s5016_3]) 3 200 (List.forall_mem_cons.mpr ⟨oo_Ho_writeWord_at_s5016_0, List.forall_mem_cons.mpr ⟨oo_Ho_writeWord_at_s5016_1, List.forall_mem_cons.mpr ⟨oo_Ho_writeWord_at_s5016_2, List.forall_mem_cons.mpr ⟨oo_Ho_writeWord_at_s5016_3, List.forall_mem_nil _⟩⟩⟩⟩) (by decide +kernel) ⟨List.forall_mem_nil _, List.forall_mem_nil _, List.forall_mem_cons.mpr ⟨cl_virtual (y := y_Ho_writeByte) (ci := 12) rfl rfl ⟨_, _, rfl⟩ (by decide +kernel) h_Ho_writeByte wm_2345 wm_1 wm_2342 wm_2344 wv_12_0 ⟨by decide, by decide, by decide +kernel⟩ (by decide), List.forall_mem_cons.mpr ⟨cl_string (y := y_jStr_length) (i := 16) rfl rfl (by decide +kernel) rfl c_jStr_length_v376 wm_674 wm_11 wm_2340 wm_672 wm_673 ⟨by decide, by decide, by decide +kernel⟩ (by decide), List.forall_mem_cons.mpr ⟨cl_string (y := y_jStr_charAt) (i := 16) rfl rfl (by decide +kernel) rfl c_jStr_charAt_v377 wm_684 wm_11 wm_2341 wm_682 wm_683 ⟨by decide, by decide, by decide +kernel⟩ (by decide), List.forall_mem_nil _⟩⟩⟩, List.forall_mem_nil _, List.forall_mem_nil _, GG_pl⟩ (by decide +kernel)
set_option maxHeartbeats 4000000 in
theorem vc_Ho_writeWord_at_s5017_0_0 (x2 : Int) (x3 : Int) (spareLength_0 : Int) (k2 : 0 ≤ x2 ∧ x2 ≤ 99999997) (k3 : 0 ≤ x3 ∧ x3 ≤ 0) (f0 : 1 * spareLength_0 + ((-1) * x2 + 0) ≤ 0) (kz_0_12 : 0 ≤ spareLength_0 ∧ spareLength_0 ≤ 100000000) : 1 * spareLength_0 + ((-1) * x2 + ((-1) * x3 + 0)) ≤ 0 := by
  first | assumption | omega | grind
def o_Ho_writeWord_at_s5017_0 : or_T := (2, 4, [(0, (2, 0, 0, [12])), (2, (0, 0, 99999997, [])), (3, (0, 0, 0, []))], [(20, [0, 2], [30, 0, 1, 1, 12, -1, 0, 0])], [], [], [(20, [0, 2, 3], [30, 0, 1, 1, 12, -1, 0, 0, -1, 0, 0]), (24, [0, 0], [])], [], [])
theorem oo_Ho_writeWord_at_s5017_0 {kA : Nat → ClassId} : or_ok PRD kA GG o_Ho_writeWord_at_s5017_0 := by
  refine or_mk fun A ta ws vs hD hth hl => ?_
  intro t0 r0 t2 k2 t3 k3 f0
  have kz_0_12 := fdq_0 hD hth r0
  have nf0 : fc_1 PRD (20, [0, 2, 3], [30, 0, 1, 1, 12, -1, 0, 0, -1, 0, 0]) ws (vs) := ⟨nf_in hl rfl, sgq_134 (vc_Ho_writeWord_at_s5017_0_0 (v_iv (n_v vs 2)) (v_iv (n_v vs 3)) (w_fi ws (n_v vs 0) 12) k2 k3 (shm_104 f0) kz_0_12)⟩
  have nf1 : fc_1 PRD (24, [0, 0], []) ws (vs) := by
    refine ⟨nf_in hl rfl, sgq_1 ?_⟩
    · show n_v vs 0 = n_v vs 0
      first | rfl | simp only [true_and]
  refine ⟨(fun _ h => (by cases h)), [], trivial, ?_, (fun _ h => (by cases h))⟩
  rw [List.append_nil]
  exact List.forall_mem_cons.mpr ⟨⟨show (20 : Nat) < 100 from by decide, nf0⟩, List.forall_mem_cons.mpr ⟨⟨show (24 : Nat) < 100 from by decide, nf1⟩, (fun _ h => (by cases h))⟩⟩
set_option maxHeartbeats 4000000 in
theorem vc_Ho_writeWord_at_s5017_1_0 (x2 : Int) (x5 : Int) (spareLength_0 : Int) (k2 : 0 ≤ x2 ∧ x2 ≤ 99999997) (k5 : 3 ≤ x5 ∧ x5 ≤ 3) (f1 : 1 * spareLength_0 + ((-1) * x2 + ((-1) * x5 + 0)) ≤ 0) (kz_0_12 : 0 ≤ spareLength_0 ∧ spareLength_0 ≤ 100000000) : 1 * spareLength_0 + ((-1) * x2 + 0) ≤ 3 := by
  first | assumption | omega | grind
def o_Ho_writeWord_at_s5017_1 : or_T := (25, 7, [(0, (2, 0, 0, [12])), (2, (0, 0, 99999997, [])), (5, (0, 3, 3, []))], [(20, [3, 2, 5], [30, 0, 1, 1, 12, -1, 0, 0, -1, 0, 0]), (24, [0, 3], [])], [], [], [(20, [0, 2], [30, 3, 1, 1, 12, -1, 0, 0])], [], [])
theorem oo_Ho_writeWord_at_s5017_1 {kA : Nat → ClassId} : or_ok PRD kA GG o_Ho_writeWord_at_s5017_1 := by
  refine or_mk fun A ta ws vs hD hth hl => ?_
  intro t0 r0 t2 k2 t5 k5 f1 f2
  replace f1 := shm_134 f1
  replace f2 := shm_5 f2
  have q3 : n_v vs 3 = n_v vs 0 := f2.symm
  simp only [q3] at f1
  have kz_0_12 := fdq_0 hD hth r0
  have nf0 : fc_1 PRD (20, [0, 2], [30, 3, 1, 1, 12, -1, 0, 0]) ws (vs) := ⟨nf_in hl rfl, sgq_206 (vc_Ho_writeWord_at_s5017_1_0 (v_iv (n_v vs 2)) (v_iv (n_v vs 5)) (w_fi ws (n_v vs 0) 12) k2 k5 f1 kz_0_12)⟩
  refine ⟨(fun _ h => (by cases h)), [], trivial, ?_, (fun _ h => (by cases h))⟩
  rw [List.append_nil]
  exact List.forall_mem_cons.mpr ⟨⟨show (20 : Nat) < 100 from by decide, nf0⟩, (fun _ h => (by cases h))⟩
set_option maxHeartbeats 4000000 in
theorem vc_Ho_writeWord_at_s5017_2_0 (spareLength_0 : Int) (gx : Int) (kz_0_12 : 0 ≤ spareLength_0 ∧ spareLength_0 ≤ 100000000) (ex2 : gx = spareLength_0) : 1 * spareLength_0 + ((-1) * gx + 0) ≤ 0 := by
  first | assumption | omega | grind
set_option maxHeartbeats 4000000 in
theorem vc_Ho_writeWord_at_s5017_2_1 (x2 : Int) (x5 : Int) (spareLength_0 : Int) (gx : Int) (k2 : 0 ≤ x2 ∧ x2 ≤ 99999997) (k5 : 0 ≤ x5 ∧ x5 ≤ 2) (f1 : 1 * spareLength_0 + ((-1) * x2 + ((-1) * x5 + 0)) ≤ 0) (kz_0_12 : 0 ≤ spareLength_0 ∧ spareLength_0 ≤ 100000000) (ex2 : gx = spareLength_0) : 1 * gx + ((-1) * x2 + ((-1) * x5 + 0)) ≤ 0 := by
  first | assumption | omega | grind
def o_Ho_writeWord_at_s5017_2 : or_T := (16, 8, [(0, (2, 0, 0, [12])), (2, (0, 0, 99999997, [])), (3, (2, 0, 0, [12])), (5, (0, 0, 2, [])), (6, (0, 3, 3, []))], [(7, [5, 6], [2]), (20, [3, 2, 5], [30, 0, 1, 1, 12, -1, 0, 0, -1, 0, 0]), (24, [0, 3], [])], [], [(0, 0, 99999999, [])], [(20, [3, 8], [30, 0, 1, 1, 12, -1, 0, 0]), (23, [8, 2, 5], [0, 1, -1, -1])], [], [])
theorem oo_Ho_writeWord_at_s5017_2 {kA : Nat → ClassId} : or_ok PRD kA GG o_Ho_writeWord_at_s5017_2 := by
  refine or_mk fun A ta ws vs hD hth hl => ?_
  intro t0 r0 t2 k2 t3 r3 t5 k5 t6 k6 f0 f1 f2
  replace f0 := shm_6 f0
  replace f1 := shm_134 f1
  replace f2 := shm_5 f2
  have q3 : n_v vs 3 = n_v vs 0 := f2.symm
  simp only [q3] at f1
  have kz_0_12 := fdq_0 hD hth r0
  have kv0 := fdq_0 hD hth r0
  obtain ⟨x, ex, hx⟩ := iv_ex (ta := ta) (lo := 0) (hi := 99999999) (z := w_fi ws (n_v vs 0) 12) (by omega) (by omega) (by omega) (by omega)
  have ex2 : v_iv (Value.int x) = w_fi ws (n_v vs 0) 12 := ex
  have ex3 : 0 ≤ v_iv (Value.int x) ∧ v_iv (Value.int x) ≤ 99999999 := tv_rng hx
  have e_2 : n_v (vs ++ [Value.int x]) 2 = n_v vs 2 := n_v_old (by rw [hl]; decide)
  have e_3 : n_v (vs ++ [Value.int x]) 3 = n_v vs 3 := n_v_old (by rw [hl]; decide)
  have e_5 : n_v (vs ++ [Value.int x]) 5 = n_v vs 5 := n_v_old (by rw [hl]; decide)
  have e_8 : n_v (vs ++ [Value.int x]) 8 = Value.int x := n_v_new hl
  have nf0 : fc_1 PRD (20, [3, 8], [30, 0, 1, 1, 12, -1, 0, 0]) ws (vs ++ [Value.int x]) := by
    refine ⟨nf_inA hl rfl, sgq_104 ?_⟩
    · show 1 * w_fi ws (n_v (vs ++ [Value.int x]) 3) 12 + ((-1) * v_iv (n_v (vs ++ [Value.int x]) 8) + 0) ≤ 0
      simp only [e_3, e_8, q3]
      exact vc_Ho_writeWord_at_s5017_2_0 (w_fi ws (n_v vs 0) 12) (v_iv (Value.int x)) kz_0_12 ex2
  have nf1 : fc_1 PRD (23, [8, 2, 5], [0, 1, -1, -1]) ws (vs ++ [Value.int x]) := by
    refine ⟨nf_inA hl rfl, sgq_136 ?_⟩
    · show 1 * v_iv (n_v (vs ++ [Value.int x]) 8) + ((-1) * v_iv (n_v (vs ++ [Value.int x]) 2) + ((-1) * v_iv (n_v (vs ++ [Value.int x]) 5) + 0)) ≤ 0
      simp only [e_2, e_5, e_8]
      exact vc_Ho_writeWord_at_s5017_2_1 (v_iv (n_v vs 2)) (v_iv (n_v vs 5)) (w_fi ws (n_v vs 0) 12) (v_iv (Value.int x)) k2 k5 f1 kz_0_12 ex2
  exact ⟨(fun _ h => (by cases h)), [Value.int x], ag_one hx, List.forall_mem_cons.mpr ⟨⟨show (20 : Nat) < 100 from by decide, nf0⟩, List.forall_mem_cons.mpr ⟨⟨show (23 : Nat) < 100 from by decide, nf1⟩, (fun _ h => (by cases h))⟩⟩, (fun _ h => (by cases h))⟩
set_option maxHeartbeats 4000000 in
theorem vc_Ho_writeWord_at_s5017_3_0 (x2 : Int) (x5 : Int) (x8 : Int) (x9 : Int) (spareLength_0 : Int) (k2 : 0 ≤ x2 ∧ x2 ≤ 99999997) (k5 : 0 ≤ x5 ∧ x5 ≤ 2) (k8 : 0 ≤ x8 ∧ x8 ≤ 99999999) (k9 : 1 ≤ x9 ∧ x9 ≤ 3) (d0 : x5 + 1 ≤ x9 ∧ x9 ≤ x5 + 1) (f1 : 1 * x8 + ((-1) * x2 + ((-1) * x5 + 0)) ≤ 0) (f3 : 1 * spareLength_0 + ((-1) * x8 + 0) ≤ 1) (kz_0_12 : 0 ≤ spareLength_0 ∧ spareLength_0 ≤ 100000000) : 1 * spareLength_0 + ((-1) * x2 + ((-1) * x9 + 0)) ≤ 0 := by
  first | assumption | omega | grind
def o_Ho_writeWord_at_s5017_3 : or_T := (2, 10, [(0, (2, 0, 0, [12])), (2, (0, 0, 99999997, [])), (5, (0, 0, 2, [])), (8, (0, 0, 99999999, [])), (9, (0, 1, 3, []))], [(23, [8, 2, 5], [0, 1, -1, -1]), (24, [0, 3], []), (20, [3, 8], [30, 1, 1, 1, 12, -1, 0, 0])], [], [], [(20, [3, 2, 9], [30, 0, 1, 1, 12, -1, 0, 0, -1, 0, 0])], [], [(9, 5, 1, 1)])
theorem oo_Ho_writeWord_at_s5017_3 {kA : Nat → ClassId} : or_ok PRD kA GG o_Ho_writeWord_at_s5017_3 := by
  refine or_mk fun A ta ws vs hD hth hl => ?_
  intro t0 r0 t2 k2 t5 k5 t8 k8 t9 k9 d0 f1 f2 f3
  replace f1 := shm_136 f1
  replace f2 := shm_5 f2
  replace f3 := shm_105 f3
  have q3 : n_v vs 3 = n_v vs 0 := f2.symm
  simp only [q3] at f3
  have kz_0_12 := fdq_0 hD hth r0
  have nf0 : fc_1 PRD (20, [3, 2, 9], [30, 0, 1, 1, 12, -1, 0, 0, -1, 0, 0]) ws (vs) := by
    refine ⟨nf_in hl rfl, sgq_134 ?_⟩
    · show 1 * w_fi ws (n_v vs 3) 12 + ((-1) * v_iv (n_v vs 2) + ((-1) * v_iv (n_v vs 9) + 0)) ≤ 0
      rw [q3]
      exact vc_Ho_writeWord_at_s5017_3_0 (v_iv (n_v vs 2)) (v_iv (n_v vs 5)) (v_iv (n_v vs 8)) (v_iv (n_v vs 9)) (w_fi ws (n_v vs 0) 12) k2 k5 k8 k9 d0 f1 f3 kz_0_12
  refine ⟨(fun _ h => (by cases h)), [], trivial, ?_, (fun _ h => (by cases h))⟩
  rw [List.append_nil]
  exact List.forall_mem_cons.mpr ⟨⟨show (20 : Nat) < 100 from by decide, nf0⟩, (fun _ h => (by cases h))⟩
def n_Ho_writeWord_at_s5017_an : List an_T := [(2, [(0, (2, 0, 0, [12])), (1, (2, 0, 0, [5017])), (2, (0, 0, 3, []))], [], (0, 0), [(0, 0, 99998), (1, 5, 3), (0, 0, 100000)], [], [], [(2, 0, 0, [12]), (2, 0, 0, [5017]), (0, 0, 99999997, [])], 0, [], [(20, [3, 2, 5], [30, 0, 1, 1, 12, (Int.negSucc 0), 0, 0, (Int.negSucc 0), 0, 0]), (24, [0, 3], [])])]
def t_Ho_writeWord_at_s5017_ct : ct_L := [(1, 447, e_Ho_writeByte), (16, 438, e_jStr_length_v381), (43, 443, e_jStr_charAt_v382)]
set_option maxRecDepth 100000 in
theorem c_Ho_writeWord_at_s5017 {l : Launch} {D : va_G} {kA : Nat → ClassId} (h_Ho_writeByte : ct_ok PRD l D kA GG y_Ho_writeByte z_Ho_writeByte e_Ho_writeByte) : ct_ok PRD l D kA GG y_Ho_writeWord_at_s5017 z_Ho_writeWord_at_s5017 e_Ho_writeWord_at_s5017 := chk_all_ok (FT := []) (PT := []) (CT := t_Ho_writeWord_at_s5017_ct) (KT := []) (NT := []) (AN := n_Ho_writeWord_at_s5017_an) (OT := [o_Ho_writeWord_at_s5017_0, o_Ho_writeWord_at_s5017_1, o_Ho_writeWord_at_s5017_2, o_Ho_writeWord_at_s5017_3]) 3 200 (List.forall_mem_cons.mpr ⟨oo_Ho_writeWord_at_s5017_0, List.forall_mem_cons.mpr ⟨oo_Ho_writeWord_at_s5017_1, List.forall_mem_cons.mpr ⟨oo_Ho_writeWord_at_s5017_2, List.forall_mem_cons.mpr ⟨oo_Ho_writeWord_at_s5017_3, List.forall_mem_nil _⟩⟩⟩⟩) (by decide +kernel) ⟨List.forall_mem_nil _, List.forall_mem_nil _, List.forall_mem_cons.mpr ⟨cl_virtual (y := y_Ho_writeByte) (ci := 12) rfl rfl ⟨_, _, rfl⟩ (by decide +kernel) h_Ho_writeByte wm_2345 wm_1 wm_2342 wm_2344 wv_12_0 ⟨by decide, by decide, by decide +kernel⟩ (by decide), List.forall_mem_cons.mpr ⟨cl_string (y := y_jStr_length) (i := 17) rfl rfl (by decide +kernel) rfl c_jStr_length_v381 wm_674 wm_11 wm_2340 wm_672 wm_673 ⟨by decide, by decide, by decide +kernel⟩ (by decide), List.forall_mem_cons.mpr ⟨cl_string (y := y_jStr_charAt) (i := 17) rfl rfl (by decide +kernel) rfl c_jStr_charAt_v382 wm_684 wm_11 wm_2341 wm_682 wm_683 ⟨by decide, by decide, by decide +kernel⟩ (by decide), List.forall_mem_nil _⟩⟩⟩, List.forall_mem_nil _, List.forall_mem_nil _, GG_pl⟩ (by decide +kernel)
set_option maxHeartbeats 4000000 in
theorem vc_Ho_writeWord_at_s5018_0_0 (x2 : Int) (x3 : Int) (spareLength_0 : Int) (k2 : 0 ≤ x2 ∧ x2 ≤ 99999998) (k3 : 0 ≤ x3 ∧ x3 ≤ 0) (f0 : 1 * spareLength_0 + ((-1) * x2 + 0) ≤ 0) (kz_0_12 : 0 ≤ spareLength_0 ∧ spareLength_0 ≤ 100000000) : 1 * spareLength_0 + ((-1) * x2 + ((-1) * x3 + 0)) ≤ 0 := by
  first | assumption | omega | grind
def o_Ho_writeWord_at_s5018_0 : or_T := (2, 4, [(0, (2, 0, 0, [12])), (2, (0, 0, 99999998, [])), (3, (0, 0, 0, []))], [(20, [0, 2], [30, 0, 1, 1, 12, -1, 0, 0])], [], [], [(20, [0, 2, 3], [30, 0, 1, 1, 12, -1, 0, 0, -1, 0, 0]), (24, [0, 0], [])], [], [])
theorem oo_Ho_writeWord_at_s5018_0 {kA : Nat → ClassId} : or_ok PRD kA GG o_Ho_writeWord_at_s5018_0 := by
  refine or_mk fun A ta ws vs hD hth hl => ?_
  intro t0 r0 t2 k2 t3 k3 f0
  have kz_0_12 := fdq_0 hD hth r0
  have nf0 : fc_1 PRD (20, [0, 2, 3], [30, 0, 1, 1, 12, -1, 0, 0, -1, 0, 0]) ws (vs) := ⟨nf_in hl rfl, sgq_134 (vc_Ho_writeWord_at_s5018_0_0 (v_iv (n_v vs 2)) (v_iv (n_v vs 3)) (w_fi ws (n_v vs 0) 12) k2 k3 (shm_104 f0) kz_0_12)⟩
  have nf1 : fc_1 PRD (24, [0, 0], []) ws (vs) := by
    refine ⟨nf_in hl rfl, sgq_1 ?_⟩
    · show n_v vs 0 = n_v vs 0
      first | rfl | simp only [true_and]
  refine ⟨(fun _ h => (by cases h)), [], trivial, ?_, (fun _ h => (by cases h))⟩
  rw [List.append_nil]
  exact List.forall_mem_cons.mpr ⟨⟨show (20 : Nat) < 100 from by decide, nf0⟩, List.forall_mem_cons.mpr ⟨⟨show (24 : Nat) < 100 from by decide, nf1⟩, (fun _ h => (by cases h))⟩⟩
set_option maxHeartbeats 4000000 in
theorem vc_Ho_writeWord_at_s5018_1_0 (x2 : Int) (x5 : Int) (spareLength_0 : Int) (k2 : 0 ≤ x2 ∧ x2 ≤ 99999998) (k5 : 2 ≤ x5 ∧ x5 ≤ 2) (f1 : 1 * spareLength_0 + ((-1) * x2 + ((-1) * x5 + 0)) ≤ 0) (kz_0_12 : 0 ≤ spareLength_0 ∧ spareLength_0 ≤ 100000000) : 1 * spareLength_0 + ((-1) * x2 + 0) ≤ 2 := by
  first | assumption | omega | grind
def o_Ho_writeWord_at_s5018_1 : or_T := (25, 7, [(0, (2, 0, 0, [12])), (2, (0, 0, 99999998, [])), (5, (0, 2, 2, []))], [(20, [3, 2, 5], [30, 0, 1, 1, 12, -1, 0, 0, -1, 0, 0]), (24, [0, 3], [])], [], [], [(20, [0, 2], [30, 2, 1, 1, 12, -1, 0, 0])], [], [])
theorem oo_Ho_writeWord_at_s5018_1 {kA : Nat → ClassId} : or_ok PRD kA GG o_Ho_writeWord_at_s5018_1 := by
  refine or_mk fun A ta ws vs hD hth hl => ?_
  intro t0 r0 t2 k2 t5 k5 f1 f2
  replace f1 := shm_134 f1
  replace f2 := shm_5 f2
  have q3 : n_v vs 3 = n_v vs 0 := f2.symm
  simp only [q3] at f1
  have kz_0_12 := fdq_0 hD hth r0
  have nf0 : fc_1 PRD (20, [0, 2], [30, 2, 1, 1, 12, -1, 0, 0]) ws (vs) := ⟨nf_in hl rfl, sgq_204 (vc_Ho_writeWord_at_s5018_1_0 (v_iv (n_v vs 2)) (v_iv (n_v vs 5)) (w_fi ws (n_v vs 0) 12) k2 k5 f1 kz_0_12)⟩
  refine ⟨(fun _ h => (by cases h)), [], trivial, ?_, (fun _ h => (by cases h))⟩
  rw [List.append_nil]
  exact List.forall_mem_cons.mpr ⟨⟨show (20 : Nat) < 100 from by decide, nf0⟩, (fun _ h => (by cases h))⟩
set_option maxHeartbeats 4000000 in
theorem vc_Ho_writeWord_at_s5018_2_0 (spareLength_0 : Int) (gx : Int) (kz_0_12 : 0 ≤ spareLength_0 ∧ spareLength_0 ≤ 100000000) (ex2 : gx = spareLength_0) : 1 * spareLength_0 + ((-1) * gx + 0) ≤ 0 := by
  first | assumption | omega | grind
set_option maxHeartbeats 4000000 in
theorem vc_Ho_writeWord_at_s5018_2_1 (x2 : Int) (x5 : Int) (spareLength_0 : Int) (gx : Int) (k2 : 0 ≤ x2 ∧ x2 ≤ 99999998) (k5 : 0 ≤ x5 ∧ x5 ≤ 1) (f1 : 1 * spareLength_0 + ((-1) * x2 + ((-1) * x5 + 0)) ≤ 0) (kz_0_12 : 0 ≤ spareLength_0 ∧ spareLength_0 ≤ 100000000) (ex2 : gx = spareLength_0) : 1 * gx + ((-1) * x2 + ((-1) * x5 + 0)) ≤ 0 := by
  first | assumption | omega | grind
def o_Ho_writeWord_at_s5018_2 : or_T := (16, 8, [(0, (2, 0, 0, [12])), (2, (0, 0, 99999998, [])), (3, (2, 0, 0, [12])), (5, (0, 0, 1, [])), (6, (0, 2, 2, []))], [(7, [5, 6], [2]), (20, [3, 2, 5], [30, 0, 1, 1, 12, -1, 0, 0, -1, 0, 0]), (24, [0, 3], [])], [], [(0, 0, 99999999, [])], [(20, [3, 8], [30, 0, 1, 1, 12, -1, 0, 0]), (23, [8, 2, 5], [0, 1, -1, -1])], [], [])
theorem oo_Ho_writeWord_at_s5018_2 {kA : Nat → ClassId} : or_ok PRD kA GG o_Ho_writeWord_at_s5018_2 := by
  refine or_mk fun A ta ws vs hD hth hl => ?_
  intro t0 r0 t2 k2 t3 r3 t5 k5 t6 k6 f0 f1 f2
  replace f0 := shm_6 f0
  replace f1 := shm_134 f1
  replace f2 := shm_5 f2
  have q3 : n_v vs 3 = n_v vs 0 := f2.symm
  simp only [q3] at f1
  have kz_0_12 := fdq_0 hD hth r0
  have kv0 := fdq_0 hD hth r0
  obtain ⟨x, ex, hx⟩ := iv_ex (ta := ta) (lo := 0) (hi := 99999999) (z := w_fi ws (n_v vs 0) 12) (by omega) (by omega) (by omega) (by omega)
  have ex2 : v_iv (Value.int x) = w_fi ws (n_v vs 0) 12 := ex
  have ex3 : 0 ≤ v_iv (Value.int x) ∧ v_iv (Value.int x) ≤ 99999999 := tv_rng hx
  have e_2 : n_v (vs ++ [Value.int x]) 2 = n_v vs 2 := n_v_old (by rw [hl]; decide)
  have e_3 : n_v (vs ++ [Value.int x]) 3 = n_v vs 3 := n_v_old (by rw [hl]; decide)
  have e_5 : n_v (vs ++ [Value.int x]) 5 = n_v vs 5 := n_v_old (by rw [hl]; decide)
  have e_8 : n_v (vs ++ [Value.int x]) 8 = Value.int x := n_v_new hl
  have nf0 : fc_1 PRD (20, [3, 8], [30, 0, 1, 1, 12, -1, 0, 0]) ws (vs ++ [Value.int x]) := by
    refine ⟨nf_inA hl rfl, sgq_104 ?_⟩
    · show 1 * w_fi ws (n_v (vs ++ [Value.int x]) 3) 12 + ((-1) * v_iv (n_v (vs ++ [Value.int x]) 8) + 0) ≤ 0
      simp only [e_3, e_8, q3]
      exact vc_Ho_writeWord_at_s5018_2_0 (w_fi ws (n_v vs 0) 12) (v_iv (Value.int x)) kz_0_12 ex2
  have nf1 : fc_1 PRD (23, [8, 2, 5], [0, 1, -1, -1]) ws (vs ++ [Value.int x]) := by
    refine ⟨nf_inA hl rfl, sgq_136 ?_⟩
    · show 1 * v_iv (n_v (vs ++ [Value.int x]) 8) + ((-1) * v_iv (n_v (vs ++ [Value.int x]) 2) + ((-1) * v_iv (n_v (vs ++ [Value.int x]) 5) + 0)) ≤ 0
      simp only [e_2, e_5, e_8]
      exact vc_Ho_writeWord_at_s5018_2_1 (v_iv (n_v vs 2)) (v_iv (n_v vs 5)) (w_fi ws (n_v vs 0) 12) (v_iv (Value.int x)) k2 k5 f1 kz_0_12 ex2
  exact ⟨(fun _ h => (by cases h)), [Value.int x], ag_one hx, List.forall_mem_cons.mpr ⟨⟨show (20 : Nat) < 100 from by decide, nf0⟩, List.forall_mem_cons.mpr ⟨⟨show (23 : Nat) < 100 from by decide, nf1⟩, (fun _ h => (by cases h))⟩⟩, (fun _ h => (by cases h))⟩
set_option maxHeartbeats 4000000 in
theorem vc_Ho_writeWord_at_s5018_3_0 (x2 : Int) (x5 : Int) (x8 : Int) (x9 : Int) (spareLength_0 : Int) (k2 : 0 ≤ x2 ∧ x2 ≤ 99999998) (k5 : 0 ≤ x5 ∧ x5 ≤ 1) (k8 : 0 ≤ x8 ∧ x8 ≤ 99999999) (k9 : 1 ≤ x9 ∧ x9 ≤ 2) (d0 : x5 + 1 ≤ x9 ∧ x9 ≤ x5 + 1) (f1 : 1 * x8 + ((-1) * x2 + ((-1) * x5 + 0)) ≤ 0) (f3 : 1 * spareLength_0 + ((-1) * x8 + 0) ≤ 1) (kz_0_12 : 0 ≤ spareLength_0 ∧ spareLength_0 ≤ 100000000) : 1 * spareLength_0 + ((-1) * x2 + ((-1) * x9 + 0)) ≤ 0 := by
  first | assumption | omega | grind
def o_Ho_writeWord_at_s5018_3 : or_T := (2, 10, [(0, (2, 0, 0, [12])), (2, (0, 0, 99999998, [])), (5, (0, 0, 1, [])), (8, (0, 0, 99999999, [])), (9, (0, 1, 2, []))], [(23, [8, 2, 5], [0, 1, -1, -1]), (24, [0, 3], []), (20, [3, 8], [30, 1, 1, 1, 12, -1, 0, 0])], [], [], [(20, [3, 2, 9], [30, 0, 1, 1, 12, -1, 0, 0, -1, 0, 0])], [], [(9, 5, 1, 1)])
theorem oo_Ho_writeWord_at_s5018_3 {kA : Nat → ClassId} : or_ok PRD kA GG o_Ho_writeWord_at_s5018_3 := by
  refine or_mk fun A ta ws vs hD hth hl => ?_
  intro t0 r0 t2 k2 t5 k5 t8 k8 t9 k9 d0 f1 f2 f3
  replace f1 := shm_136 f1
  replace f2 := shm_5 f2
  replace f3 := shm_105 f3
  have q3 : n_v vs 3 = n_v vs 0 := f2.symm
  simp only [q3] at f3
  have kz_0_12 := fdq_0 hD hth r0
  have nf0 : fc_1 PRD (20, [3, 2, 9], [30, 0, 1, 1, 12, -1, 0, 0, -1, 0, 0]) ws (vs) := by
    refine ⟨nf_in hl rfl, sgq_134 ?_⟩
    · show 1 * w_fi ws (n_v vs 3) 12 + ((-1) * v_iv (n_v vs 2) + ((-1) * v_iv (n_v vs 9) + 0)) ≤ 0
      rw [q3]
      exact vc_Ho_writeWord_at_s5018_3_0 (v_iv (n_v vs 2)) (v_iv (n_v vs 5)) (v_iv (n_v vs 8)) (v_iv (n_v vs 9)) (w_fi ws (n_v vs 0) 12) k2 k5 k8 k9 d0 f1 f3 kz_0_12
  refine ⟨(fun _ h => (by cases h)), [], trivial, ?_, (fun _ h => (by cases h))⟩
  rw [List.append_nil]
  exact List.forall_mem_cons.mpr ⟨⟨show (20 : Nat) < 100 from by decide, nf0⟩, (fun _ h => (by cases h))⟩
def n_Ho_writeWord_at_s5018_an : List an_T := [(2, [(0, (2, 0, 0, [12])), (1, (2, 0, 0, [5018])), (2, (0, 0, 2, []))], [], (0, 0), [(0, 0, 99998), (1, 5, 2), (0, 0, 100000)], [], [], [(2, 0, 0, [12]), (2, 0, 0, [5018]), (0, 0, 99999998, [])], 0, [], [(20, [3, 2, 5], [30, 0, 1, 1, 12, (Int.negSucc 0), 0, 0, (Int.negSucc 0), 0, 0]), (24, [0, 3], [])])]
def t_Ho_writeWord_at_s5018_ct : ct_L := [(1, 447, e_Ho_writeByte), (16, 438, e_jStr_length_v384), (43, 443, e_jStr_charAt_v385)]
set_option maxRecDepth 100000 in
theorem c_Ho_writeWord_at_s5018 {l : Launch} {D : va_G} {kA : Nat → ClassId} (h_Ho_writeByte : ct_ok PRD l D kA GG y_Ho_writeByte z_Ho_writeByte e_Ho_writeByte) : ct_ok PRD l D kA GG y_Ho_writeWord_at_s5018 z_Ho_writeWord_at_s5018 e_Ho_writeWord_at_s5018 := chk_all_ok (FT := []) (PT := []) (CT := t_Ho_writeWord_at_s5018_ct) (KT := []) (NT := []) (AN := n_Ho_writeWord_at_s5018_an) (OT := [o_Ho_writeWord_at_s5018_0, o_Ho_writeWord_at_s5018_1, o_Ho_writeWord_at_s5018_2, o_Ho_writeWord_at_s5018_3]) 3 200 (List.forall_mem_cons.mpr ⟨oo_Ho_writeWord_at_s5018_0, List.forall_mem_cons.mpr ⟨oo_Ho_writeWord_at_s5018_1, List.forall_mem_cons.mpr ⟨oo_Ho_writeWord_at_s5018_2, List.forall_mem_cons.mpr ⟨oo_Ho_writeWord_at_s5018_3, List.forall_mem_nil _⟩⟩⟩⟩) (by decide +kernel) ⟨List.forall_mem_nil _, List.forall_mem_nil _, List.forall_mem_cons.mpr ⟨cl_virtual (y := y_Ho_writeByte) (ci := 12) rfl rfl ⟨_, _, rfl⟩ (by decide +kernel) h_Ho_writeByte wm_2345 wm_1 wm_2342 wm_2344 wv_12_0 ⟨by decide, by decide, by decide +kernel⟩ (by decide), List.forall_mem_cons.mpr ⟨cl_string (y := y_jStr_length) (i := 18) rfl rfl (by decide +kernel) rfl c_jStr_length_v384 wm_674 wm_11 wm_2340 wm_672 wm_673 ⟨by decide, by decide, by decide +kernel⟩ (by decide), List.forall_mem_cons.mpr ⟨cl_string (y := y_jStr_charAt) (i := 18) rfl rfl (by decide +kernel) rfl c_jStr_charAt_v385 wm_684 wm_11 wm_2341 wm_682 wm_683 ⟨by decide, by decide, by decide +kernel⟩ (by decide), List.forall_mem_nil _⟩⟩⟩, List.forall_mem_nil _, List.forall_mem_nil _, GG_pl⟩ (by decide +kernel)
set_option maxHeartbeats 4000000 in
theorem vc_Ho_writeWord_at_s5019_0_0 (x2 : Int) (x3 : Int) (spareLength_0 : Int) (k2 : 0 ≤ x2 ∧ x2 ≤ 99999997) (k3 : 0 ≤ x3 ∧ x3 ≤ 0) (f0 : 1 * spareLength_0 + ((-1) * x2 + 0) ≤ 0) (kz_0_12 : 0 ≤ spareLength_0 ∧ spareLength_0 ≤ 100000000) : 1 * spareLength_0 + ((-1) * x2 + ((-1) * x3 + 0)) ≤ 0 := by
  first | assumption | omega | grind
def o_Ho_writeWord_at_s5019_0 : or_T := (2, 4, [(0, (2, 0, 0, [12])), (2, (0, 0, 99999997, [])), (3, (0, 0, 0, []))], [(20, [0, 2], [30, 0, 1, 1, 12, -1, 0, 0])], [], [], [(20, [0, 2, 3], [30, 0, 1, 1, 12, -1, 0, 0, -1, 0, 0]), (24, [0, 0], [])], [], [])
theorem oo_Ho_writeWord_at_s5019_0 {kA : Nat → ClassId} : or_ok PRD kA GG o_Ho_writeWord_at_s5019_0 := by
  refine or_mk fun A ta ws vs hD hth hl => ?_
  intro t0 r0 t2 k2 t3 k3 f0
  have kz_0_12 := fdq_0 hD hth r0
  have nf0 : fc_1 PRD (20, [0, 2, 3], [30, 0, 1, 1, 12, -1, 0, 0, -1, 0, 0]) ws (vs) := ⟨nf_in hl rfl, sgq_134 (vc_Ho_writeWord_at_s5019_0_0 (v_iv (n_v vs 2)) (v_iv (n_v vs 3)) (w_fi ws (n_v vs 0) 12) k2 k3 (shm_104 f0) kz_0_12)⟩
  have nf1 : fc_1 PRD (24, [0, 0], []) ws (vs) := by
    refine ⟨nf_in hl rfl, sgq_1 ?_⟩
    · show n_v vs 0 = n_v vs 0
      first | rfl | simp only [true_and]
  refine ⟨(fun _ h => (by cases h)), [], trivial, ?_, (fun _ h => (by cases h))⟩
  rw [List.append_nil]
  exact List.forall_mem_cons.mpr ⟨⟨show (20 : Nat) < 100 from by decide, nf0⟩, List.forall_mem_cons.mpr ⟨⟨show (24 : Nat) < 100 from by decide, nf1⟩, (fun _ h => (by cases h))⟩⟩
set_option maxHeartbeats 4000000 in
theorem vc_Ho_writeWord_at_s5019_1_0 (x2 : Int) (x5 : Int) (spareLength_0 : Int) (k2 : 0 ≤ x2 ∧ x2 ≤ 99999997) (k5 : 3 ≤ x5 ∧ x5 ≤ 3) (f1 : 1 * spareLength_0 + ((-1) * x2 + ((-1) * x5 + 0)) ≤ 0) (kz_0_12 : 0 ≤ spareLength_0 ∧ spareLength_0 ≤ 100000000) : 1 * spareLength_0 + ((-1) * x2 + 0) ≤ 3 := by
  first | assumption | omega | grind
def o_Ho_writeWord_at_s5019_1 : or_T := (25, 7, [(0, (2, 0, 0, [12])), (2, (0, 0, 99999997, [])), (5, (0, 3, 3, []))], [(20, [3, 2, 5], [30, 0, 1, 1, 12, -1, 0, 0, -1, 0, 0]), (24, [0, 3], [])], [], [], [(20, [0, 2], [30, 3, 1, 1, 12, -1, 0, 0])], [], [])
theorem oo_Ho_writeWord_at_s5019_1 {kA : Nat → ClassId} : or_ok PRD kA GG o_Ho_writeWord_at_s5019_1 := by
  refine or_mk fun A ta ws vs hD hth hl => ?_
  intro t0 r0 t2 k2 t5 k5 f1 f2
  replace f1 := shm_134 f1
  replace f2 := shm_5 f2
  have q3 : n_v vs 3 = n_v vs 0 := f2.symm
  simp only [q3] at f1
  have kz_0_12 := fdq_0 hD hth r0
  have nf0 : fc_1 PRD (20, [0, 2], [30, 3, 1, 1, 12, -1, 0, 0]) ws (vs) := ⟨nf_in hl rfl, sgq_206 (vc_Ho_writeWord_at_s5019_1_0 (v_iv (n_v vs 2)) (v_iv (n_v vs 5)) (w_fi ws (n_v vs 0) 12) k2 k5 f1 kz_0_12)⟩
  refine ⟨(fun _ h => (by cases h)), [], trivial, ?_, (fun _ h => (by cases h))⟩
  rw [List.append_nil]
  exact List.forall_mem_cons.mpr ⟨⟨show (20 : Nat) < 100 from by decide, nf0⟩, (fun _ h => (by cases h))⟩
set_option maxHeartbeats 4000000 in
theorem vc_Ho_writeWord_at_s5019_2_0 (spareLength_0 : Int) (gx : Int) (kz_0_12 : 0 ≤ spareLength_0 ∧ spareLength_0 ≤ 100000000) (ex2 : gx = spareLength_0) : 1 * spareLength_0 + ((-1) * gx + 0) ≤ 0 := by
  first | assumption | omega | grind
set_option maxHeartbeats 4000000 in
theorem vc_Ho_writeWord_at_s5019_2_1 (x2 : Int) (x5 : Int) (spareLength_0 : Int) (gx : Int) (k2 : 0 ≤ x2 ∧ x2 ≤ 99999997) (k5 : 0 ≤ x5 ∧ x5 ≤ 2) (f1 : 1 * spareLength_0 + ((-1) * x2 + ((-1) * x5 + 0)) ≤ 0) (kz_0_12 : 0 ≤ spareLength_0 ∧ spareLength_0 ≤ 100000000) (ex2 : gx = spareLength_0) : 1 * gx + ((-1) * x2 + ((-1) * x5 + 0)) ≤ 0 := by
  first | assumption | omega | grind
def o_Ho_writeWord_at_s5019_2 : or_T := (16, 8, [(0, (2, 0, 0, [12])), (2, (0, 0, 99999997, [])), (3, (2, 0, 0, [12])), (5, (0, 0, 2, [])), (6, (0, 3, 3, []))], [(7, [5, 6], [2]), (20, [3, 2, 5], [30, 0, 1, 1, 12, -1, 0, 0, -1, 0, 0]), (24, [0, 3], [])], [], [(0, 0, 99999999, [])], [(20, [3, 8], [30, 0, 1, 1, 12, -1, 0, 0]), (23, [8, 2, 5], [0, 1, -1, -1])], [], [])
theorem oo_Ho_writeWord_at_s5019_2 {kA : Nat → ClassId} : or_ok PRD kA GG o_Ho_writeWord_at_s5019_2 := by
  refine or_mk fun A ta ws vs hD hth hl => ?_
  intro t0 r0 t2 k2 t3 r3 t5 k5 t6 k6 f0 f1 f2
  replace f0 := shm_6 f0
  replace f1 := shm_134 f1
  replace f2 := shm_5 f2
  have q3 : n_v vs 3 = n_v vs 0 := f2.symm
  simp only [q3] at f1
  have kz_0_12 := fdq_0 hD hth r0
  have kv0 := fdq_0 hD hth r0
  obtain ⟨x, ex, hx⟩ := iv_ex (ta := ta) (lo := 0) (hi := 99999999) (z := w_fi ws (n_v vs 0) 12) (by omega) (by omega) (by omega) (by omega)
  have ex2 : v_iv (Value.int x) = w_fi ws (n_v vs 0) 12 := ex
  have ex3 : 0 ≤ v_iv (Value.int x) ∧ v_iv (Value.int x) ≤ 99999999 := tv_rng hx
  have e_2 : n_v (vs ++ [Value.int x]) 2 = n_v vs 2 := n_v_old (by rw [hl]; decide)
  have e_3 : n_v (vs ++ [Value.int x]) 3 = n_v vs 3 := n_v_old (by rw [hl]; decide)
  have e_5 : n_v (vs ++ [Value.int x]) 5 = n_v vs 5 := n_v_old (by rw [hl]; decide)
  have e_8 : n_v (vs ++ [Value.int x]) 8 = Value.int x := n_v_new hl
  have nf0 : fc_1 PRD (20, [3, 8], [30, 0, 1, 1, 12, -1, 0, 0]) ws (vs ++ [Value.int x]) := by
    refine ⟨nf_inA hl rfl, sgq_104 ?_⟩
    · show 1 * w_fi ws (n_v (vs ++ [Value.int x]) 3) 12 + ((-1) * v_iv (n_v (vs ++ [Value.int x]) 8) + 0) ≤ 0
      simp only [e_3, e_8, q3]
      exact vc_Ho_writeWord_at_s5019_2_0 (w_fi ws (n_v vs 0) 12) (v_iv (Value.int x)) kz_0_12 ex2
  have nf1 : fc_1 PRD (23, [8, 2, 5], [0, 1, -1, -1]) ws (vs ++ [Value.int x]) := by
    refine ⟨nf_inA hl rfl, sgq_136 ?_⟩
    · show 1 * v_iv (n_v (vs ++ [Value.int x]) 8) + ((-1) * v_iv (n_v (vs ++ [Value.int x]) 2) + ((-1) * v_iv (n_v (vs ++ [Value.int x]) 5) + 0)) ≤ 0
      simp only [e_2, e_5, e_8]
      exact vc_Ho_writeWord_at_s5019_2_1 (v_iv (n_v vs 2)) (v_iv (n_v vs 5)) (w_fi ws (n_v vs 0) 12) (v_iv (Value.int x)) k2 k5 f1 kz_0_12 ex2
  exact ⟨(fun _ h => (by cases h)), [Value.int x], ag_one hx, List.forall_mem_cons.mpr ⟨⟨show (20 : Nat) < 100 from by decide, nf0⟩, List.forall_mem_cons.mpr ⟨⟨show (23 : Nat) < 100 from by decide, nf1⟩, (fun _ h => (by cases h))⟩⟩, (fun _ h => (by cases h))⟩
set_option maxHeartbeats 4000000 in
theorem vc_Ho_writeWord_at_s5019_3_0 (x2 : Int) (x5 : Int) (x8 : Int) (x9 : Int) (spareLength_0 : Int) (k2 : 0 ≤ x2 ∧ x2 ≤ 99999997) (k5 : 0 ≤ x5 ∧ x5 ≤ 2) (k8 : 0 ≤ x8 ∧ x8 ≤ 99999999) (k9 : 1 ≤ x9 ∧ x9 ≤ 3) (d0 : x5 + 1 ≤ x9 ∧ x9 ≤ x5 + 1) (f1 : 1 * x8 + ((-1) * x2 + ((-1) * x5 + 0)) ≤ 0) (f3 : 1 * spareLength_0 + ((-1) * x8 + 0) ≤ 1) (kz_0_12 : 0 ≤ spareLength_0 ∧ spareLength_0 ≤ 100000000) : 1 * spareLength_0 + ((-1) * x2 + ((-1) * x9 + 0)) ≤ 0 := by
  first | assumption | omega | grind
def o_Ho_writeWord_at_s5019_3 : or_T := (2, 10, [(0, (2, 0, 0, [12])), (2, (0, 0, 99999997, [])), (5, (0, 0, 2, [])), (8, (0, 0, 99999999, [])), (9, (0, 1, 3, []))], [(23, [8, 2, 5], [0, 1, -1, -1]), (24, [0, 3], []), (20, [3, 8], [30, 1, 1, 1, 12, -1, 0, 0])], [], [], [(20, [3, 2, 9], [30, 0, 1, 1, 12, -1, 0, 0, -1, 0, 0])], [], [(9, 5, 1, 1)])
theorem oo_Ho_writeWord_at_s5019_3 {kA : Nat → ClassId} : or_ok PRD kA GG o_Ho_writeWord_at_s5019_3 := by
  refine or_mk fun A ta ws vs hD hth hl => ?_
  intro t0 r0 t2 k2 t5 k5 t8 k8 t9 k9 d0 f1 f2 f3
  replace f1 := shm_136 f1
  replace f2 := shm_5 f2
  replace f3 := shm_105 f3
  have q3 : n_v vs 3 = n_v vs 0 := f2.symm
  simp only [q3] at f3
  have kz_0_12 := fdq_0 hD hth r0
  have nf0 : fc_1 PRD (20, [3, 2, 9], [30, 0, 1, 1, 12, -1, 0, 0, -1, 0, 0]) ws (vs) := by
    refine ⟨nf_in hl rfl, sgq_134 ?_⟩
    · show 1 * w_fi ws (n_v vs 3) 12 + ((-1) * v_iv (n_v vs 2) + ((-1) * v_iv (n_v vs 9) + 0)) ≤ 0
      rw [q3]
      exact vc_Ho_writeWord_at_s5019_3_0 (v_iv (n_v vs 2)) (v_iv (n_v vs 5)) (v_iv (n_v vs 8)) (v_iv (n_v vs 9)) (w_fi ws (n_v vs 0) 12) k2 k5 k8 k9 d0 f1 f3 kz_0_12
  refine ⟨(fun _ h => (by cases h)), [], trivial, ?_, (fun _ h => (by cases h))⟩
  rw [List.append_nil]
  exact List.forall_mem_cons.mpr ⟨⟨show (20 : Nat) < 100 from by decide, nf0⟩, (fun _ h => (by cases h))⟩
def n_Ho_writeWord_at_s5019_an : List an_T := [(2, [(0, (2, 0, 0, [12])), (1, (2, 0, 0, [5019])), (2, (0, 0, 3, []))], [], (0, 0), [(0, 0, 99998), (1, 5, 3), (0, 0, 100000)], [], [], [(2, 0, 0, [12]), (2, 0, 0, [5019]), (0, 0, 99999997, [])], 0, [], [(20, [3, 2, 5], [30, 0, 1, 1, 12, (Int.negSucc 0), 0, 0, (Int.negSucc 0), 0, 0]), (24, [0, 3], [])])]
def t_Ho_writeWord_at_s5019_ct : ct_L := [(1, 447, e_Ho_writeByte), (16, 438, e_jStr_length_v387), (43, 443, e_jStr_charAt_v388)]
set_option maxRecDepth 100000 in
theorem c_Ho_writeWord_at_s5019 {l : Launch} {D : va_G} {kA : Nat → ClassId} (h_Ho_writeByte : ct_ok PRD l D kA GG y_Ho_writeByte z_Ho_writeByte e_Ho_writeByte) : ct_ok PRD l D kA GG y_Ho_writeWord_at_s5019 z_Ho_writeWord_at_s5019 e_Ho_writeWord_at_s5019 := chk_all_ok (FT := []) (PT := []) (CT := t_Ho_writeWord_at_s5019_ct) (KT := []) (NT := []) (AN := n_Ho_writeWord_at_s5019_an) (OT := [o_Ho_writeWord_at_s5019_0, o_Ho_writeWord_at_s5019_1, o_Ho_writeWord_at_s5019_2, o_Ho_writeWord_at_s5019_3]) 3 200 (List.forall_mem_cons.mpr ⟨oo_Ho_writeWord_at_s5019_0, List.forall_mem_cons.mpr ⟨oo_Ho_writeWord_at_s5019_1, List.forall_mem_cons.mpr ⟨oo_Ho_writeWord_at_s5019_2, List.forall_mem_cons.mpr ⟨oo_Ho_writeWord_at_s5019_3, List.forall_mem_nil _⟩⟩⟩⟩) (by decide +kernel) ⟨List.forall_mem_nil _, List.forall_mem_nil _, List.forall_mem_cons.mpr ⟨cl_virtual (y := y_Ho_writeByte) (ci := 12) rfl rfl ⟨_, _, rfl⟩ (by decide +kernel) h_Ho_writeByte wm_2345 wm_1 wm_2342 wm_2344 wv_12_0 ⟨by decide, by decide, by decide +kernel⟩ (by decide), List.forall_mem_cons.mpr ⟨cl_string (y := y_jStr_length) (i := 19) rfl rfl (by decide +kernel) rfl c_jStr_length_v387 wm_674 wm_11 wm_2340 wm_672 wm_673 ⟨by decide, by decide, by decide +kernel⟩ (by decide), List.forall_mem_cons.mpr ⟨cl_string (y := y_jStr_charAt) (i := 19) rfl rfl (by decide +kernel) rfl c_jStr_charAt_v388 wm_684 wm_11 wm_2341 wm_682 wm_683 ⟨by decide, by decide, by decide +kernel⟩ (by decide), List.forall_mem_nil _⟩⟩⟩, List.forall_mem_nil _, List.forall_mem_nil _, GG_pl⟩ (by decide +kernel)
set_option maxHeartbeats 4000000 in
theorem vc_Ho_writeWord_at_s5020_0_0 (x2 : Int) (x3 : Int) (spareLength_0 : Int) (k2 : 0 ≤ x2 ∧ x2 ≤ 99999997) (k3 : 0 ≤ x3 ∧ x3 ≤ 0) (f0 : 1 * spareLength_0 + ((-1) * x2 + 0) ≤ 0) (kz_0_12 : 0 ≤ spareLength_0 ∧ spareLength_0 ≤ 100000000) : 1 * spareLength_0 + ((-1) * x2 + ((-1) * x3 + 0)) ≤ 0 := by
  first | assumption | omega | grind
def o_Ho_writeWord_at_s5020_0 : or_T := (2, 4, [(0, (2, 0, 0, [12])), (2, (0, 0, 99999997, [])), (3, (0, 0, 0, []))], [(20, [0, 2], [30, 0, 1, 1, 12, -1, 0, 0])], [], [], [(20, [0, 2, 3], [30, 0, 1, 1, 12, -1, 0, 0, -1, 0, 0]), (24, [0, 0], [])], [], [])
theorem oo_Ho_writeWord_at_s5020_0 {kA : Nat → ClassId} : or_ok PRD kA GG o_Ho_writeWord_at_s5020_0 := by
  refine or_mk fun A ta ws vs hD hth hl => ?_
  intro t0 r0 t2 k2 t3 k3 f0
  have kz_0_12 := fdq_0 hD hth r0
  have nf0 : fc_1 PRD (20, [0, 2, 3], [30, 0, 1, 1, 12, -1, 0, 0, -1, 0, 0]) ws (vs) := ⟨nf_in hl rfl, sgq_134 (vc_Ho_writeWord_at_s5020_0_0 (v_iv (n_v vs 2)) (v_iv (n_v vs 3)) (w_fi ws (n_v vs 0) 12) k2 k3 (shm_104 f0) kz_0_12)⟩
  have nf1 : fc_1 PRD (24, [0, 0], []) ws (vs) := by
    refine ⟨nf_in hl rfl, sgq_1 ?_⟩
    · show n_v vs 0 = n_v vs 0
      first | rfl | simp only [true_and]
  refine ⟨(fun _ h => (by cases h)), [], trivial, ?_, (fun _ h => (by cases h))⟩
  rw [List.append_nil]
  exact List.forall_mem_cons.mpr ⟨⟨show (20 : Nat) < 100 from by decide, nf0⟩, List.forall_mem_cons.mpr ⟨⟨show (24 : Nat) < 100 from by decide, nf1⟩, (fun _ h => (by cases h))⟩⟩
set_option maxHeartbeats 4000000 in
theorem vc_Ho_writeWord_at_s5020_1_0 (x2 : Int) (x5 : Int) (spareLength_0 : Int) (k2 : 0 ≤ x2 ∧ x2 ≤ 99999997) (k5 : 3 ≤ x5 ∧ x5 ≤ 3) (f1 : 1 * spareLength_0 + ((-1) * x2 + ((-1) * x5 + 0)) ≤ 0) (kz_0_12 : 0 ≤ spareLength_0 ∧ spareLength_0 ≤ 100000000) : 1 * spareLength_0 + ((-1) * x2 + 0) ≤ 3 := by
  first | assumption | omega | grind
def o_Ho_writeWord_at_s5020_1 : or_T := (25, 7, [(0, (2, 0, 0, [12])), (2, (0, 0, 99999997, [])), (5, (0, 3, 3, []))], [(20, [3, 2, 5], [30, 0, 1, 1, 12, -1, 0, 0, -1, 0, 0]), (24, [0, 3], [])], [], [], [(20, [0, 2], [30, 3, 1, 1, 12, -1, 0, 0])], [], [])
theorem oo_Ho_writeWord_at_s5020_1 {kA : Nat → ClassId} : or_ok PRD kA GG o_Ho_writeWord_at_s5020_1 := by
  refine or_mk fun A ta ws vs hD hth hl => ?_
  intro t0 r0 t2 k2 t5 k5 f1 f2
  replace f1 := shm_134 f1
  replace f2 := shm_5 f2
  have q3 : n_v vs 3 = n_v vs 0 := f2.symm
  simp only [q3] at f1
  have kz_0_12 := fdq_0 hD hth r0
  have nf0 : fc_1 PRD (20, [0, 2], [30, 3, 1, 1, 12, -1, 0, 0]) ws (vs) := ⟨nf_in hl rfl, sgq_206 (vc_Ho_writeWord_at_s5020_1_0 (v_iv (n_v vs 2)) (v_iv (n_v vs 5)) (w_fi ws (n_v vs 0) 12) k2 k5 f1 kz_0_12)⟩
  refine ⟨(fun _ h => (by cases h)), [], trivial, ?_, (fun _ h => (by cases h))⟩
  rw [List.append_nil]
  exact List.forall_mem_cons.mpr ⟨⟨show (20 : Nat) < 100 from by decide, nf0⟩, (fun _ h => (by cases h))⟩
set_option maxHeartbeats 4000000 in
theorem vc_Ho_writeWord_at_s5020_2_0 (spareLength_0 : Int) (gx : Int) (kz_0_12 : 0 ≤ spareLength_0 ∧ spareLength_0 ≤ 100000000) (ex2 : gx = spareLength_0) : 1 * spareLength_0 + ((-1) * gx + 0) ≤ 0 := by
  first | assumption | omega | grind
set_option maxHeartbeats 4000000 in
theorem vc_Ho_writeWord_at_s5020_2_1 (x2 : Int) (x5 : Int) (spareLength_0 : Int) (gx : Int) (k2 : 0 ≤ x2 ∧ x2 ≤ 99999997) (k5 : 0 ≤ x5 ∧ x5 ≤ 2) (f1 : 1 * spareLength_0 + ((-1) * x2 + ((-1) * x5 + 0)) ≤ 0) (kz_0_12 : 0 ≤ spareLength_0 ∧ spareLength_0 ≤ 100000000) (ex2 : gx = spareLength_0) : 1 * gx + ((-1) * x2 + ((-1) * x5 + 0)) ≤ 0 := by
  first | assumption | omega | grind
def o_Ho_writeWord_at_s5020_2 : or_T := (16, 8, [(0, (2, 0, 0, [12])), (2, (0, 0, 99999997, [])), (3, (2, 0, 0, [12])), (5, (0, 0, 2, [])), (6, (0, 3, 3, []))], [(7, [5, 6], [2]), (20, [3, 2, 5], [30, 0, 1, 1, 12, -1, 0, 0, -1, 0, 0]), (24, [0, 3], [])], [], [(0, 0, 99999999, [])], [(20, [3, 8], [30, 0, 1, 1, 12, -1, 0, 0]), (23, [8, 2, 5], [0, 1, -1, -1])], [], [])
theorem oo_Ho_writeWord_at_s5020_2 {kA : Nat → ClassId} : or_ok PRD kA GG o_Ho_writeWord_at_s5020_2 := by
  refine or_mk fun A ta ws vs hD hth hl => ?_
  intro t0 r0 t2 k2 t3 r3 t5 k5 t6 k6 f0 f1 f2
  replace f0 := shm_6 f0
  replace f1 := shm_134 f1
  replace f2 := shm_5 f2
  have q3 : n_v vs 3 = n_v vs 0 := f2.symm
  simp only [q3] at f1
  have kz_0_12 := fdq_0 hD hth r0
  have kv0 := fdq_0 hD hth r0
  obtain ⟨x, ex, hx⟩ := iv_ex (ta := ta) (lo := 0) (hi := 99999999) (z := w_fi ws (n_v vs 0) 12) (by omega) (by omega) (by omega) (by omega)
  have ex2 : v_iv (Value.int x) = w_fi ws (n_v vs 0) 12 := ex
  have ex3 : 0 ≤ v_iv (Value.int x) ∧ v_iv (Value.int x) ≤ 99999999 := tv_rng hx
  have e_2 : n_v (vs ++ [Value.int x]) 2 = n_v vs 2 := n_v_old (by rw [hl]; decide)
  have e_3 : n_v (vs ++ [Value.int x]) 3 = n_v vs 3 := n_v_old (by rw [hl]; decide)
  have e_5 : n_v (vs ++ [Value.int x]) 5 = n_v vs 5 := n_v_old (by rw [hl]; decide)
  have e_8 : n_v (vs ++ [Value.int x]) 8 = Value.int x := n_v_new hl
  have nf0 : fc_1 PRD (20, [3, 8], [30, 0, 1, 1, 12, -1, 0, 0]) ws (vs ++ [Value.int x]) := by
    refine ⟨nf_inA hl rfl, sgq_104 ?_⟩
    · show 1 * w_fi ws (n_v (vs ++ [Value.int x]) 3) 12 + ((-1) * v_iv (n_v (vs ++ [Value.int x]) 8) + 0) ≤ 0
      simp only [e_3, e_8, q3]
      exact vc_Ho_writeWord_at_s5020_2_0 (w_fi ws (n_v vs 0) 12) (v_iv (Value.int x)) kz_0_12 ex2
  have nf1 : fc_1 PRD (23, [8, 2, 5], [0, 1, -1, -1]) ws (vs ++ [Value.int x]) := by
    refine ⟨nf_inA hl rfl, sgq_136 ?_⟩
    · show 1 * v_iv (n_v (vs ++ [Value.int x]) 8) + ((-1) * v_iv (n_v (vs ++ [Value.int x]) 2) + ((-1) * v_iv (n_v (vs ++ [Value.int x]) 5) + 0)) ≤ 0
      simp only [e_2, e_5, e_8]
      exact vc_Ho_writeWord_at_s5020_2_1 (v_iv (n_v vs 2)) (v_iv (n_v vs 5)) (w_fi ws (n_v vs 0) 12) (v_iv (Value.int x)) k2 k5 f1 kz_0_12 ex2
  exact ⟨(fun _ h => (by cases h)), [Value.int x], ag_one hx, List.forall_mem_cons.mpr ⟨⟨show (20 : Nat) < 100 from by decide, nf0⟩, List.forall_mem_cons.mpr ⟨⟨show (23 : Nat) < 100 from by decide, nf1⟩, (fun _ h => (by cases h))⟩⟩, (fun _ h => (by cases h))⟩
set_option maxHeartbeats 4000000 in
theorem vc_Ho_writeWord_at_s5020_3_0 (x2 : Int) (x5 : Int) (x8 : Int) (x9 : Int) (spareLength_0 : Int) (k2 : 0 ≤ x2 ∧ x2 ≤ 99999997) (k5 : 0 ≤ x5 ∧ x5 ≤ 2) (k8 : 0 ≤ x8 ∧ x8 ≤ 99999999) (k9 : 1 ≤ x9 ∧ x9 ≤ 3) (d0 : x5 + 1 ≤ x9 ∧ x9 ≤ x5 + 1) (f1 : 1 * x8 + ((-1) * x2 + ((-1) * x5 + 0)) ≤ 0) (f3 : 1 * spareLength_0 + ((-1) * x8 + 0) ≤ 1) (kz_0_12 : 0 ≤ spareLength_0 ∧ spareLength_0 ≤ 100000000) : 1 * spareLength_0 + ((-1) * x2 + ((-1) * x9 + 0)) ≤ 0 := by
  first | assumption | omega | grind
def o_Ho_writeWord_at_s5020_3 : or_T := (2, 10, [(0, (2, 0, 0, [12])), (2, (0, 0, 99999997, [])), (5, (0, 0, 2, [])), (8, (0, 0, 99999999, [])), (9, (0, 1, 3, []))], [(23, [8, 2, 5], [0, 1, -1, -1]), (24, [0, 3], []), (20, [3, 8], [30, 1, 1, 1, 12, -1, 0, 0])], [], [], [(20, [3, 2, 9], [30, 0, 1, 1, 12, -1, 0, 0, -1, 0, 0])], [], [(9, 5, 1, 1)])
theorem oo_Ho_writeWord_at_s5020_3 {kA : Nat → ClassId} : or_ok PRD kA GG o_Ho_writeWord_at_s5020_3 := by
  refine or_mk fun A ta ws vs hD hth hl => ?_
  intro t0 r0 t2 k2 t5 k5 t8 k8 t9 k9 d0 f1 f2 f3
  replace f1 := shm_136 f1
  replace f2 := shm_5 f2
  replace f3 := shm_105 f3
  have q3 : n_v vs 3 = n_v vs 0 := f2.symm
  simp only [q3] at f3
  have kz_0_12 := fdq_0 hD hth r0
  have nf0 : fc_1 PRD (20, [3, 2, 9], [30, 0, 1, 1, 12, -1, 0, 0, -1, 0, 0]) ws (vs) := by
    refine ⟨nf_in hl rfl, sgq_134 ?_⟩
    · show 1 * w_fi ws (n_v vs 3) 12 + ((-1) * v_iv (n_v vs 2) + ((-1) * v_iv (n_v vs 9) + 0)) ≤ 0
      rw [q3]
      exact vc_Ho_writeWord_at_s5020_3_0 (v_iv (n_v vs 2)) (v_iv (n_v vs 5)) (v_iv (n_v vs 8)) (v_iv (n_v vs 9)) (w_fi ws (n_v vs 0) 12) k2 k5 k8 k9 d0 f1 f3 kz_0_12
  refine ⟨(fun _ h => (by cases h)), [], trivial, ?_, (fun _ h => (by cases h))⟩
  rw [List.append_nil]
  exact List.forall_mem_cons.mpr ⟨⟨show (20 : Nat) < 100 from by decide, nf0⟩, (fun _ h => (by cases h))⟩
def n_Ho_writeWord_at_s5020_an : List an_T := [(2, [(0, (2, 0, 0, [12])), (1, (2, 0, 0, [5020])), (2, (0, 0, 3, []))], [], (0, 0), [(0, 0, 99998), (1, 5, 3), (0, 0, 100000)], [], [], [(2, 0, 0, [12]), (2, 0, 0, [5020]), (0, 0, 99999997, [])], 0, [], [(20, [3, 2, 5], [30, 0, 1, 1, 12, (Int.negSucc 0), 0, 0, (Int.negSucc 0), 0, 0]), (24, [0, 3], [])])]
def t_Ho_writeWord_at_s5020_ct : ct_L := [(1, 447, e_Ho_writeByte), (16, 438, e_jStr_length_v390), (43, 443, e_jStr_charAt_v391)]
set_option maxRecDepth 100000 in
theorem c_Ho_writeWord_at_s5020 {l : Launch} {D : va_G} {kA : Nat → ClassId} (h_Ho_writeByte : ct_ok PRD l D kA GG y_Ho_writeByte z_Ho_writeByte e_Ho_writeByte) : ct_ok PRD l D kA GG y_Ho_writeWord_at_s5020 z_Ho_writeWord_at_s5020 e_Ho_writeWord_at_s5020 := chk_all_ok (FT := []) (PT := []) (CT := t_Ho_writeWord_at_s5020_ct) (KT := []) (NT := []) (AN := n_Ho_writeWord_at_s5020_an) (OT := [o_Ho_writeWord_at_s5020_0, o_Ho_writeWord_at_s5020_1, o_Ho_writeWord_at_s5020_2, o_Ho_writeWord_at_s5020_3]) 3 200 (List.forall_mem_cons.mpr ⟨oo_Ho_writeWord_at_s5020_0, List.forall_mem_cons.mpr ⟨oo_Ho_writeWord_at_s5020_1, List.forall_mem_cons.mpr ⟨oo_Ho_writeWord_at_s5020_2, List.forall_mem_cons.mpr ⟨oo_Ho_writeWord_at_s5020_3, List.forall_mem_nil _⟩⟩⟩⟩) (by decide +kernel) ⟨List.forall_mem_nil _, List.forall_mem_nil _, List.forall_mem_cons.mpr ⟨cl_virtual (y := y_Ho_writeByte) (ci := 12) rfl rfl ⟨_, _, rfl⟩ (by decide +kernel) h_Ho_writeByte wm_2345 wm_1 wm_2342 wm_2344 wv_12_0 ⟨by decide, by decide, by decide +kernel⟩ (by decide), List.forall_mem_cons.mpr ⟨cl_string (y := y_jStr_length) (i := 20) rfl rfl (by decide +kernel) rfl c_jStr_length_v390 wm_674 wm_11 wm_2340 wm_672 wm_673 ⟨by decide, by decide, by decide +kernel⟩ (by decide), List.forall_mem_cons.mpr ⟨cl_string (y := y_jStr_charAt) (i := 20) rfl rfl (by decide +kernel) rfl c_jStr_charAt_v391 wm_684 wm_11 wm_2341 wm_682 wm_683 ⟨by decide, by decide, by decide +kernel⟩ (by decide), List.forall_mem_nil _⟩⟩⟩, List.forall_mem_nil _, List.forall_mem_nil _, GG_pl⟩ (by decide +kernel)
set_option maxHeartbeats 4000000 in
theorem vc_Ho_writeWord_at_s5021_0_0 (x2 : Int) (x3 : Int) (spareLength_0 : Int) (k2 : 0 ≤ x2 ∧ x2 ≤ 99999991) (k3 : 0 ≤ x3 ∧ x3 ≤ 0) (f0 : 1 * spareLength_0 + ((-1) * x2 + 0) ≤ 0) (kz_0_12 : 0 ≤ spareLength_0 ∧ spareLength_0 ≤ 100000000) : 1 * spareLength_0 + ((-1) * x2 + ((-1) * x3 + 0)) ≤ 0 := by
  first | assumption | omega | grind
def o_Ho_writeWord_at_s5021_0 : or_T := (2, 4, [(0, (2, 0, 0, [12])), (2, (0, 0, 99999991, [])), (3, (0, 0, 0, []))], [(20, [0, 2], [30, 0, 1, 1, 12, -1, 0, 0])], [], [], [(20, [0, 2, 3], [30, 0, 1, 1, 12, -1, 0, 0, -1, 0, 0]), (24, [0, 0], [])], [], [])
theorem oo_Ho_writeWord_at_s5021_0 {kA : Nat → ClassId} : or_ok PRD kA GG o_Ho_writeWord_at_s5021_0 := by
  refine or_mk fun A ta ws vs hD hth hl => ?_
  intro t0 r0 t2 k2 t3 k3 f0
  have kz_0_12 := fdq_0 hD hth r0
  have nf0 : fc_1 PRD (20, [0, 2, 3], [30, 0, 1, 1, 12, -1, 0, 0, -1, 0, 0]) ws (vs) := ⟨nf_in hl rfl, sgq_134 (vc_Ho_writeWord_at_s5021_0_0 (v_iv (n_v vs 2)) (v_iv (n_v vs 3)) (w_fi ws (n_v vs 0) 12) k2 k3 (shm_104 f0) kz_0_12)⟩
  have nf1 : fc_1 PRD (24, [0, 0], []) ws (vs) := by
    refine ⟨nf_in hl rfl, sgq_1 ?_⟩
    · show n_v vs 0 = n_v vs 0
      first | rfl | simp only [true_and]
  refine ⟨(fun _ h => (by cases h)), [], trivial, ?_, (fun _ h => (by cases h))⟩
  rw [List.append_nil]
  exact List.forall_mem_cons.mpr ⟨⟨show (20 : Nat) < 100 from by decide, nf0⟩, List.forall_mem_cons.mpr ⟨⟨show (24 : Nat) < 100 from by decide, nf1⟩, (fun _ h => (by cases h))⟩⟩
set_option maxHeartbeats 4000000 in
theorem vc_Ho_writeWord_at_s5021_1_0 (x2 : Int) (x5 : Int) (spareLength_0 : Int) (k2 : 0 ≤ x2 ∧ x2 ≤ 99999991) (k5 : 9 ≤ x5 ∧ x5 ≤ 9) (f1 : 1 * spareLength_0 + ((-1) * x2 + ((-1) * x5 + 0)) ≤ 0) (kz_0_12 : 0 ≤ spareLength_0 ∧ spareLength_0 ≤ 100000000) : 1 * spareLength_0 + ((-1) * x2 + 0) ≤ 9 := by
  first | assumption | omega | grind
def o_Ho_writeWord_at_s5021_1 : or_T := (25, 7, [(0, (2, 0, 0, [12])), (2, (0, 0, 99999991, [])), (5, (0, 9, 9, []))], [(20, [3, 2, 5], [30, 0, 1, 1, 12, -1, 0, 0, -1, 0, 0]), (24, [0, 3], [])], [], [], [(20, [0, 2], [30, 9, 1, 1, 12, -1, 0, 0])], [], [])
theorem oo_Ho_writeWord_at_s5021_1 {kA : Nat → ClassId} : or_ok PRD kA GG o_Ho_writeWord_at_s5021_1 := by
  refine or_mk fun A ta ws vs hD hth hl => ?_
  intro t0 r0 t2 k2 t5 k5 f1 f2
  replace f1 := shm_134 f1
  replace f2 := shm_5 f2
  have q3 : n_v vs 3 = n_v vs 0 := f2.symm
  simp only [q3] at f1
  have kz_0_12 := fdq_0 hD hth r0
  have nf0 : fc_1 PRD (20, [0, 2], [30, 9, 1, 1, 12, -1, 0, 0]) ws (vs) := ⟨nf_in hl rfl, sgq_207 (vc_Ho_writeWord_at_s5021_1_0 (v_iv (n_v vs 2)) (v_iv (n_v vs 5)) (w_fi ws (n_v vs 0) 12) k2 k5 f1 kz_0_12)⟩
  refine ⟨(fun _ h => (by cases h)), [], trivial, ?_, (fun _ h => (by cases h))⟩
  rw [List.append_nil]
  exact List.forall_mem_cons.mpr ⟨⟨show (20 : Nat) < 100 from by decide, nf0⟩, (fun _ h => (by cases h))⟩
set_option maxHeartbeats 4000000 in
theorem vc_Ho_writeWord_at_s5021_2_0 (spareLength_0 : Int) (gx : Int) (kz_0_12 : 0 ≤ spareLength_0 ∧ spareLength_0 ≤ 100000000) (ex2 : gx = spareLength_0) : 1 * spareLength_0 + ((-1) * gx + 0) ≤ 0 := by
  first | assumption | omega | grind
set_option maxHeartbeats 4000000 in
theorem vc_Ho_writeWord_at_s5021_2_1 (x2 : Int) (x5 : Int) (spareLength_0 : Int) (gx : Int) (k2 : 0 ≤ x2 ∧ x2 ≤ 99999991) (k5 : 0 ≤ x5 ∧ x5 ≤ 8) (f1 : 1 * spareLength_0 + ((-1) * x2 + ((-1) * x5 + 0)) ≤ 0) (kz_0_12 : 0 ≤ spareLength_0 ∧ spareLength_0 ≤ 100000000) (ex2 : gx = spareLength_0) : 1 * gx + ((-1) * x2 + ((-1) * x5 + 0)) ≤ 0 := by
  first | assumption | omega | grind
def o_Ho_writeWord_at_s5021_2 : or_T := (16, 8, [(0, (2, 0, 0, [12])), (2, (0, 0, 99999991, [])), (3, (2, 0, 0, [12])), (5, (0, 0, 8, [])), (6, (0, 9, 9, []))], [(7, [5, 6], [2]), (20, [3, 2, 5], [30, 0, 1, 1, 12, -1, 0, 0, -1, 0, 0]), (24, [0, 3], [])], [], [(0, 0, 99999999, [])], [(20, [3, 8], [30, 0, 1, 1, 12, -1, 0, 0]), (23, [8, 2, 5], [0, 1, -1, -1])], [], [])
theorem oo_Ho_writeWord_at_s5021_2 {kA : Nat → ClassId} : or_ok PRD kA GG o_Ho_writeWord_at_s5021_2 := by
  refine or_mk fun A ta ws vs hD hth hl => ?_
  intro t0 r0 t2 k2 t3 r3 t5 k5 t6 k6 f0 f1 f2
  replace f0 := shm_6 f0
  replace f1 := shm_134 f1
  replace f2 := shm_5 f2
  have q3 : n_v vs 3 = n_v vs 0 := f2.symm
  simp only [q3] at f1
  have kz_0_12 := fdq_0 hD hth r0
  have kv0 := fdq_0 hD hth r0
  obtain ⟨x, ex, hx⟩ := iv_ex (ta := ta) (lo := 0) (hi := 99999999) (z := w_fi ws (n_v vs 0) 12) (by omega) (by omega) (by omega) (by omega)
  have ex2 : v_iv (Value.int x) = w_fi ws (n_v vs 0) 12 := ex
  have ex3 : 0 ≤ v_iv (Value.int x) ∧ v_iv (Value.int x) ≤ 99999999 := tv_rng hx
  have e_2 : n_v (vs ++ [Value.int x]) 2 = n_v vs 2 := n_v_old (by rw [hl]; decide)
  have e_3 : n_v (vs ++ [Value.int x]) 3 = n_v vs 3 := n_v_old (by rw [hl]; decide)
  have e_5 : n_v (vs ++ [Value.int x]) 5 = n_v vs 5 := n_v_old (by rw [hl]; decide)
  have e_8 : n_v (vs ++ [Value.int x]) 8 = Value.int x := n_v_new hl
  have nf0 : fc_1 PRD (20, [3, 8], [30, 0, 1, 1, 12, -1, 0, 0]) ws (vs ++ [Value.int x]) := by
    refine ⟨nf_inA hl rfl, sgq_104 ?_⟩
    · show 1 * w_fi ws (n_v (vs ++ [Value.int x]) 3) 12 + ((-1) * v_iv (n_v (vs ++ [Value.int x]) 8) + 0) ≤ 0
      simp only [e_3, e_8, q3]
      exact vc_Ho_writeWord_at_s5021_2_0 (w_fi ws (n_v vs 0) 12) (v_iv (Value.int x)) kz_0_12 ex2
  have nf1 : fc_1 PRD (23, [8, 2, 5], [0, 1, -1, -1]) ws (vs ++ [Value.int x]) := by
    refine ⟨nf_inA hl rfl, sgq_136 ?_⟩
    · show 1 * v_iv (n_v (vs ++ [Value.int x]) 8) + ((-1) * v_iv (n_v (vs ++ [Value.int x]) 2) + ((-1) * v_iv (n_v (vs ++ [Value.int x]) 5) + 0)) ≤ 0
      simp only [e_2, e_5, e_8]
      exact vc_Ho_writeWord_at_s5021_2_1 (v_iv (n_v vs 2)) (v_iv (n_v vs 5)) (w_fi ws (n_v vs 0) 12) (v_iv (Value.int x)) k2 k5 f1 kz_0_12 ex2
  exact ⟨(fun _ h => (by cases h)), [Value.int x], ag_one hx, List.forall_mem_cons.mpr ⟨⟨show (20 : Nat) < 100 from by decide, nf0⟩, List.forall_mem_cons.mpr ⟨⟨show (23 : Nat) < 100 from by decide, nf1⟩, (fun _ h => (by cases h))⟩⟩, (fun _ h => (by cases h))⟩
set_option maxHeartbeats 4000000 in
theorem vc_Ho_writeWord_at_s5021_3_0 (x2 : Int) (x5 : Int) (x8 : Int) (x9 : Int) (spareLength_0 : Int) (k2 : 0 ≤ x2 ∧ x2 ≤ 99999991) (k5 : 0 ≤ x5 ∧ x5 ≤ 8) (k8 : 0 ≤ x8 ∧ x8 ≤ 99999999) (k9 : 1 ≤ x9 ∧ x9 ≤ 9) (d0 : x5 + 1 ≤ x9 ∧ x9 ≤ x5 + 1) (f1 : 1 * x8 + ((-1) * x2 + ((-1) * x5 + 0)) ≤ 0) (f3 : 1 * spareLength_0 + ((-1) * x8 + 0) ≤ 1) (kz_0_12 : 0 ≤ spareLength_0 ∧ spareLength_0 ≤ 100000000) : 1 * spareLength_0 + ((-1) * x2 + ((-1) * x9 + 0)) ≤ 0 := by
  first | assumption | omega | grind
def o_Ho_writeWord_at_s5021_3 : or_T := (2, 10, [(0, (2, 0, 0, [12])), (2, (0, 0, 99999991, [])), (5, (0, 0, 8, [])), (8, (0, 0, 99999999, [])), (9, (0, 1, 9, []))], [(23, [8, 2, 5], [0, 1, -1, -1]), (24, [0, 3], []), (20, [3, 8], [30, 1, 1, 1, 12, -1, 0, 0])], [], [], [(20, [3, 2, 9], [30, 0, 1, 1, 12, -1, 0, 0, -1, 0, 0])], [], [(9, 5, 1, 1)])
theorem oo_Ho_writeWord_at_s5021_3 {kA : Nat → ClassId} : or_ok PRD kA GG o_Ho_writeWord_at_s5021_3 := by
  refine or_mk fun A ta ws vs hD hth hl => ?_
  intro t0 r0 t2 k2 t5 k5 t8 k8 t9 k9 d0 f1 f2 f3
  replace f1 := shm_136 f1
  replace f2 := shm_5 f2
  replace f3 := shm_105 f3
  have q3 : n_v vs 3 = n_v vs 0 := f2.symm
  simp only [q3] at f3
  have kz_0_12 := fdq_0 hD hth r0
  have nf0 : fc_1 PRD (20, [3, 2, 9], [30, 0, 1, 1, 12, -1, 0, 0, -1, 0, 0]) ws (vs) := by
    refine ⟨nf_in hl rfl, sgq_134 ?_⟩
    · show 1 * w_fi ws (n_v vs 3) 12 + ((-1) * v_iv (n_v vs 2) + ((-1) * v_iv (n_v vs 9) + 0)) ≤ 0
      rw [q3]
      exact vc_Ho_writeWord_at_s5021_3_0 (v_iv (n_v vs 2)) (v_iv (n_v vs 5)) (v_iv (n_v vs 8)) (v_iv (n_v vs 9)) (w_fi ws (n_v vs 0) 12) k2 k5 k8 k9 d0 f1 f3 kz_0_12
  refine ⟨(fun _ h => (by cases h)), [], trivial, ?_, (fun _ h => (by cases h))⟩
  rw [List.append_nil]
  exact List.forall_mem_cons.mpr ⟨⟨show (20 : Nat) < 100 from by decide, nf0⟩, (fun _ h => (by cases h))⟩
def n_Ho_writeWord_at_s5021_an : List an_T := [(2, [(0, (2, 0, 0, [12])), (1, (2, 0, 0, [5021])), (2, (0, 0, 9, []))], [], (0, 0), [(0, 0, 99998), (1, 5, 9), (0, 0, 100000)], [], [], [(2, 0, 0, [12]), (2, 0, 0, [5021]), (0, 0, 99999991, [])], 0, [], [(20, [3, 2, 5], [30, 0, 1, 1, 12, (Int.negSucc 0), 0, 0, (Int.negSucc 0), 0, 0]), (24, [0, 3], [])])]
def t_Ho_writeWord_at_s5021_ct : ct_L := [(1, 447, e_Ho_writeByte), (16, 438, e_jStr_length_v393), (43, 443, e_jStr_charAt_v394)]
set_option maxRecDepth 100000 in
theorem c_Ho_writeWord_at_s5021 {l : Launch} {D : va_G} {kA : Nat → ClassId} (h_Ho_writeByte : ct_ok PRD l D kA GG y_Ho_writeByte z_Ho_writeByte e_Ho_writeByte) : ct_ok PRD l D kA GG y_Ho_writeWord_at_s5021 z_Ho_writeWord_at_s5021 e_Ho_writeWord_at_s5021 := chk_all_ok (FT := []) (PT := []) (CT := t_Ho_writeWord_at_s5021_ct) (KT := []) (NT := []) (AN := n_Ho_writeWord_at_s5021_an) (OT := [o_Ho_writeWord_at_s5021_0, o_Ho_writeWord_at_s5021_1, o_Ho_writeWord_at_s5021_2, o_Ho_writeWord_at_s5021_3]) 3 200 (List.forall_mem_cons.mpr ⟨oo_Ho_writeWord_at_s5021_0, List.forall_mem_cons.mpr ⟨oo_Ho_writeWord_at_s5021_1, List.forall_mem_cons.mpr ⟨oo_Ho_writeWord_at_s5021_2, List.forall_mem_cons.mpr ⟨oo_Ho_writeWord_at_s5021_3, List.forall_mem_nil _⟩⟩⟩⟩) (by decide +kernel) ⟨List.forall_mem_nil _, List.forall_mem_nil _, List.forall_mem_cons.mpr ⟨cl_virtual (y := y_Ho_writeByte) (ci := 12) rfl rfl ⟨_, _, rfl⟩ (by decide +kernel) h_Ho_writeByte wm_2345 wm_1 wm_2342 wm_2344 wv_12_0 ⟨by decide, by decide, by decide +kernel⟩ (by decide), List.forall_mem_cons.mpr ⟨cl_string (y := y_jStr_length) (i := 21) rfl rfl (by decide +kernel) rfl c_jStr_length_v393 wm_674 wm_11 wm_2340 wm_672 wm_673 ⟨by decide, by decide, by decide +kernel⟩ (by decide), List.forall_mem_cons.mpr ⟨cl_string (y := y_jStr_charAt) (i := 21) rfl rfl (by decide +kernel) rfl c_jStr_charAt_v394 wm_684 wm_11 wm_2341 wm_682 wm_683 ⟨by decide, by decide, by decide +kernel⟩ (by decide), List.forall_mem_nil _⟩⟩⟩, List.forall_mem_nil _, List.forall_mem_nil _, GG_pl⟩ (by decide +kernel)
def o_Sy_wordIn_at_s5004_0 : or_T := (1000000, 0, [], [], [], [], [], [], [])
theorem oo_Sy_wordIn_at_s5004_0 {kA : Nat → ClassId} : or_ok PRD kA GG o_Sy_wordIn_at_s5004_0 := fun _ _ _ _ _ _ _ _ _ _ => ⟨fun q h => (by cases h), [], trivial, fun f h => (by cases h), fun q h => (by cases h)⟩
def n_Sy_wordIn_at_s5004_an : List an_T := [(7, [(0, (2, 0, 0, [11])), (1, (2, 0, 0, [5004])), (2, (0, 0, 39, [])), (3, (0, 0, 39, [])), (4, (0, 0, 39, []))], [], (0, 0), [(0, 0, 99993), (1, 4, 39), (0, 0, 100000)], [(2, 3, (Int.negSucc 999999999999), 0), (2, 4, (Int.negSucc 999999999999), 0), (3, 4, (Int.negSucc 999999999999), 0)], [((0, 3), (2, 0, 0, [109]))], [], 0, [], [])]
def t_Sy_wordIn_at_s5004_ct : ct_L := [(34, 100, e_jStr_length_v411), (85, 104, e_jStr_charAt_v258), (124, 108, e_Sy_isWordAt_at_s5004)]
set_option maxRecDepth 100000 in
theorem c_Sy_wordIn_at_s5004 {l : Launch} {D : va_G} {kA : Nat → ClassId} (h_Sy_isWordAt_at_s5004 : ct_ok PRD l D kA GG y_Sy_isWordAt_at_s5004 z_Sy_isWordAt_at_s5004 e_Sy_isWordAt_at_s5004) : ct_ok PRD l D kA GG y_Sy_wordIn_at_s5004 z_Sy_wordIn_at_s5004 e_Sy_wordIn_at_s5004 := chk_all_ok (FT := [(31, 11, 6)]) (PT := []) (CT := t_Sy_wordIn_at_s5004_ct) (KT := []) (NT := []) (AN := n_Sy_wordIn_at_s5004_an) (OT := [o_Sy_wordIn_at_s5004_0]) 3 200 (List.forall_mem_cons.mpr ⟨oo_Sy_wordIn_at_s5004_0, List.forall_mem_nil _⟩) (by decide +kernel) ⟨List.forall_mem_cons.mpr ⟨gf_Sy_31, List.forall_mem_nil _⟩, List.forall_mem_nil _, List.forall_mem_cons.mpr ⟨cl_string (y := y_jStr_length) (i := 4) rfl rfl (by decide +kernel) rfl c_jStr_length_v411 wm_674 wm_11 wm_2230 wm_672 wm_673 ⟨by decide, by decide, by decide +kernel⟩ (by decide), List.forall_mem_cons.mpr ⟨cl_string (y := y_jStr_charAt) (i := 4) rfl rfl (by decide +kernel) rfl c_jStr_charAt_v258 wm_684 wm_11 wm_2231 wm_682 wm_683 ⟨by decide, by decide, by decide +kernel⟩ (by decide), List.forall_mem_cons.mpr ⟨cl_virtual (y := y_Sy_isWordAt_at_s5004) (ci := 11) rfl rfl ⟨_, _, rfl⟩ (by decide +kernel) h_Sy_isWordAt_at_s5004 wm_2235 wm_23 wm_2232 wm_2234 wv_10_13 ⟨by decide, by decide, by decide +kernel⟩ (by decide), List.forall_mem_nil _⟩⟩⟩, List.forall_mem_nil _, List.forall_mem_nil _, GG_pl⟩ (by decide +kernel)

def o_Sy_wordIn_at_s5006_0 : or_T := (30, 10, [(9, (0, 0, 65535, []))], [(23, [9], [110, 1]), (23, [9], [-110, -1])], [(9, (0, 110, 110, []))], [], [], [], [])
theorem oo_Sy_wordIn_at_s5006_0 {kA : Nat → ClassId} : or_ok PRD kA GG o_Sy_wordIn_at_s5006_0 := by
  refine or_mk fun A ta ws vs hD hth hl => ?_
  intro t9 k9 f0 f1
  replace f0 := shm_53 f0
  replace f1 := shm_54 f1
  have rf9 : tv_ok ta (0, 110, 110, []) (n_v vs 9) := tv_in t9 (by omega) (by omega)
  refine ⟨List.forall_mem_cons.mpr ⟨rf9, (fun _ h => (by cases h))⟩, [], trivial, ?_, (fun _ h => (by cases h))⟩
  rw [List.append_nil]
  exact (fun _ h => (by cases h))
def o_Sy_wordIn_at_s5006_1 : or_T := (30, 15, [(14, (0, 0, 65535, []))], [(23, [14], [111, 1]), (23, [14], [-111, -1])], [(14, (0, 111, 111, []))], [], [], [], [])
theorem oo_Sy_wordIn_at_s5006_1 {kA : Nat → ClassId} : or_ok PRD kA GG o_Sy_wordIn_at_s5006_1 := by
  refine or_mk fun A ta ws vs hD hth hl => ?_
  intro t14 k14 f0 f1
  replace f0 := shm_55 f0
  replace f1 := shm_56 f1
  have rf14 : tv_ok ta (0, 111, 111, []) (n_v vs 14) := tv_in t14 (by omega) (by omega)
  refine ⟨List.forall_mem_cons.mpr ⟨rf14, (fun _ h => (by cases h))⟩, [], trivial, ?_, (fun _ h => (by cases h))⟩
  rw [List.append_nil]
  exact (fun _ h => (by cases h))
def o_Sy_wordIn_at_s5006_2 : or_T := (30, 20, [(19, (0, 0, 65535, []))], [(23, [19], [100, 1]), (23, [19], [-100, -1])], [(19, (0, 100, 100, []))], [], [], [], [])
theorem oo_Sy_wordIn_at_s5006_2 {kA : Nat → ClassId} : or_ok PRD kA GG o_Sy_wordIn_at_s5006_2 := by
  refine or_mk fun A ta ws vs hD hth hl => ?_
  intro t19 k19 f0 f1
  replace f0 := shm_57 f0
  replace f1 := shm_58 f1
  have rf19 : tv_ok ta (0, 100, 100, []) (n_v vs 19) := tv_in t19 (by omega) (by omega)
  refine ⟨List.forall_mem_cons.mpr ⟨rf19, (fun _ h => (by cases h))⟩, [], trivial, ?_, (fun _ h => (by cases h))⟩
  rw [List.append_nil]
  exact (fun _ h => (by cases h))
def o_Sy_wordIn_at_s5006_3 : or_T := (30, 25, [(24, (0, 0, 65535, []))], [(23, [24], [101, 1]), (23, [24], [-101, -1])], [(24, (0, 101, 101, []))], [], [], [], [])
theorem oo_Sy_wordIn_at_s5006_3 {kA : Nat → ClassId} : or_ok PRD kA GG o_Sy_wordIn_at_s5006_3 := by
  refine or_mk fun A ta ws vs hD hth hl => ?_
  intro t24 k24 f0 f1
  replace f0 := shm_59 f0
  replace f1 := shm_60 f1
  have rf24 : tv_ok ta (0, 101, 101, []) (n_v vs 24) := tv_in t24 (by omega) (by omega)
  refine ⟨List.forall_mem_cons.mpr ⟨rf24, (fun _ h => (by cases h))⟩, [], trivial, ?_, (fun _ h => (by cases h))⟩
  rw [List.append_nil]
  exact (fun _ h => (by cases h))
def o_Sy_wordIn_at_s5006_4 : or_T := (30, 30, [(29, (0, 0, 65535, []))], [(23, [29], [32, 1]), (23, [29], [-32, -1])], [(29, (0, 32, 32, []))], [], [], [], [])
theorem oo_Sy_wordIn_at_s5006_4 {kA : Nat → ClassId} : or_ok PRD kA GG o_Sy_wordIn_at_s5006_4 := by
  refine or_mk fun A ta ws vs hD hth hl => ?_
  intro t29 k29 f0 f1
  replace f0 := shm_81 f0
  replace f1 := shm_82 f1
  have rf29 : tv_ok ta (0, 32, 32, []) (n_v vs 29) := tv_in t29 (by omega) (by omega)
  refine ⟨List.forall_mem_cons.mpr ⟨rf29, (fun _ h => (by cases h))⟩, [], trivial, ?_, (fun _ h => (by cases h))⟩
  rw [List.append_nil]
  exact (fun _ h => (by cases h))
def o_Sy_wordIn_at_s5006_5 : or_T := (30, 39, [(38, (0, 0, 65535, []))], [(23, [38], [101, 1]), (23, [38], [-101, -1])], [(38, (0, 101, 101, []))], [], [], [], [])
theorem oo_Sy_wordIn_at_s5006_5 {kA : Nat → ClassId} : or_ok PRD kA GG o_Sy_wordIn_at_s5006_5 := by
  refine or_mk fun A ta ws vs hD hth hl => ?_
  intro t38 k38 f0 f1
  replace f0 := shm_59 f0
  replace f1 := shm_60 f1
  have rf38 : tv_ok ta (0, 101, 101, []) (n_v vs 38) := tv_in t38 (by omega) (by omega)
  refine ⟨List.forall_mem_cons.mpr ⟨rf38, (fun _ h => (by cases h))⟩, [], trivial, ?_, (fun _ h => (by cases h))⟩
  rw [List.append_nil]
  exact (fun _ h => (by cases h))
def o_Sy_wordIn_at_s5006_6 : or_T := (30, 44, [(43, (0, 0, 65535, []))], [(23, [43], [100, 1]), (23, [43], [-100, -1])], [(43, (0, 100, 100, []))], [], [], [], [])
theorem oo_Sy_wordIn_at_s5006_6 {kA : Nat → ClassId} : or_ok PRD kA GG o_Sy_wordIn_at_s5006_6 := by
  refine or_mk fun A ta ws vs hD hth hl => ?_
  intro t43 k43 f0 f1
  replace f0 := shm_57 f0
  replace f1 := shm_58 f1
  have rf43 : tv_ok ta (0, 100, 100, []) (n_v vs 43) := tv_in t43 (by omega) (by omega)
  refine ⟨List.forall_mem_cons.mpr ⟨rf43, (fun _ h => (by cases h))⟩, [], trivial, ?_, (fun _ h => (by cases h))⟩
  rw [List.append_nil]
  exact (fun _ h => (by cases h))
def o_Sy_wordIn_at_s5006_7 : or_T := (30, 49, [(48, (0, 0, 65535, []))], [(23, [48], [103, 1]), (23, [48], [-103, -1])], [(48, (0, 103, 103, []))], [], [], [], [])
theorem oo_Sy_wordIn_at_s5006_7 {kA : Nat → ClassId} : or_ok PRD kA GG o_Sy_wordIn_at_s5006_7 := by
  refine or_mk fun A ta ws vs hD hth hl => ?_
  intro t48 k48 f0 f1
  replace f0 := shm_61 f0
  replace f1 := shm_62 f1
  have rf48 : tv_ok ta (0, 103, 103, []) (n_v vs 48) := tv_in t48 (by omega) (by omega)
  refine ⟨List.forall_mem_cons.mpr ⟨rf48, (fun _ h => (by cases h))⟩, [], trivial, ?_, (fun _ h => (by cases h))⟩
  rw [List.append_nil]
  exact (fun _ h => (by cases h))
def o_Sy_wordIn_at_s5006_8 : or_T := (30, 54, [(53, (0, 0, 65535, []))], [(23, [53], [101, 1]), (23, [53], [-101, -1])], [(53, (0, 101, 101, []))], [], [], [], [])
theorem oo_Sy_wordIn_at_s5006_8 {kA : Nat → ClassId} : or_ok PRD kA GG o_Sy_wordIn_at_s5006_8 := by
  refine or_mk fun A ta ws vs hD hth hl => ?_
  intro t53 k53 f0 f1
  replace f0 := shm_59 f0
  replace f1 := shm_60 f1
  have rf53 : tv_ok ta (0, 101, 101, []) (n_v vs 53) := tv_in t53 (by omega) (by omega)
  refine ⟨List.forall_mem_cons.mpr ⟨rf53, (fun _ h => (by cases h))⟩, [], trivial, ?_, (fun _ h => (by cases h))⟩
  rw [List.append_nil]
  exact (fun _ h => (by cases h))
def o_Sy_wordIn_at_s5006_9 : or_T := (30, 59, [(58, (0, 0, 65535, []))], [(23, [58], [32, 1]), (23, [58], [-32, -1])], [(58, (0, 32, 32, []))], [], [], [], [])
theorem oo_Sy_wordIn_at_s5006_9 {kA : Nat → ClassId} : or_ok PRD kA GG o_Sy_wordIn_at_s5006_9 := by
  refine or_mk fun A ta ws vs hD hth hl => ?_
  intro t58 k58 f0 f1
  replace f0 := shm_81 f0
  replace f1 := shm_82 f1
  have rf58 : tv_ok ta (0, 32, 32, []) (n_v vs 58) := tv_in t58 (by omega) (by omega)
  refine ⟨List.forall_mem_cons.mpr ⟨rf58, (fun _ h => (by cases h))⟩, [], trivial, ?_, (fun _ h => (by cases h))⟩
  rw [List.append_nil]
  exact (fun _ h => (by cases h))
def n_Sy_wordIn_at_s5006_an : List an_T := []
def t_Sy_wordIn_at_s5006_ct : ct_L := [(34, 100, e_jStr_length_v412), (85, 104, e_jStr_charAt_v413), (85, 104, e_jStr_charAt_v417), (85, 104, e_jStr_charAt_v421), (85, 104, e_jStr_charAt_v425), (85, 104, e_jStr_charAt_v429), (85, 104, e_jStr_charAt_v433), (85, 104, e_jStr_charAt_v437), (85, 104, e_jStr_charAt_v441), (85, 104, e_jStr_charAt_v445), (85, 104, e_jStr_charAt_v449), (124, 108, e_Sy_isWordAt_at_s5006)]
set_option maxRecDepth 100000 in
theorem c_Sy_wordIn_at_s5006 {l : Launch} {D : va_G} {kA : Nat → ClassId} (h_Sy_isWordAt_at_s5006 : ct_ok PRD l D kA GG y_Sy_isWordAt_at_s5006 z_Sy_isWordAt_at_s5006 e_Sy_isWordAt_at_s5006) : ct_ok PRD l D kA GG y_Sy_wordIn_at_s5006 z_Sy_wordIn_at_s5006 e_Sy_wordIn_at_s5006 := chk_all_ok (FT := [(31, 11, 6)]) (PT := []) (CT := t_Sy_wordIn_at_s5006_ct) (KT := []) (NT := []) (AN := n_Sy_wordIn_at_s5006_an) (OT := [o_Sy_wordIn_at_s5006_0, o_Sy_wordIn_at_s5006_1, o_Sy_wordIn_at_s5006_2, o_Sy_wordIn_at_s5006_3, o_Sy_wordIn_at_s5006_4, o_Sy_wordIn_at_s5006_5, o_Sy_wordIn_at_s5006_6, o_Sy_wordIn_at_s5006_7, o_Sy_wordIn_at_s5006_8, o_Sy_wordIn_at_s5006_9]) 0 760 (List.forall_mem_cons.mpr ⟨oo_Sy_wordIn_at_s5006_0, List.forall_mem_cons.mpr ⟨oo_Sy_wordIn_at_s5006_1, List.forall_mem_cons.mpr ⟨oo_Sy_wordIn_at_s5006_2, List.forall_mem_cons.mpr ⟨oo_Sy_wordIn_at_s5006_3, List.forall_mem_cons.mpr ⟨oo_Sy_wordIn_at_s5006_4, List.forall_mem_cons.mpr ⟨oo_Sy_wordIn_at_s5006_5, List.forall_mem_cons.mpr ⟨oo_Sy_wordIn_at_s5006_6, List.forall_mem_cons.mpr ⟨oo_Sy_wordIn_at_s5006_7, List.forall_mem_cons.mpr ⟨oo_Sy_wordIn_at_s5006_8, List.forall_mem_cons.mpr ⟨oo_Sy_wordIn_at_s5006_9, List.forall_mem_nil _⟩⟩⟩⟩⟩⟩⟩⟩⟩⟩) (by decide +kernel) ⟨List.forall_mem_cons.mpr ⟨gf_Sy_31, List.forall_mem_nil _⟩, List.forall_mem_nil _, List.forall_mem_cons.mpr ⟨cl_string (y := y_jStr_length) (i := 6) rfl rfl (by decide +kernel) rfl c_jStr_length_v412 wm_674 wm_11 wm_2230 wm_672 wm_673 ⟨by decide, by decide, by decide +kernel⟩ (by decide), List.forall_mem_cons.mpr ⟨cl_string (y := y_jStr_charAt) (i := 6) rfl rfl (by decide +kernel) rfl c_jStr_charAt_v413 wm_684 wm_11 wm_2231 wm_682 wm_683 ⟨by decide, by decide, by decide +kernel⟩ (by decide), List.forall_mem_cons.mpr ⟨cl_string (y := y_jStr_charAt) (i := 6) rfl rfl (by decide +kernel) rfl c_jStr_charAt_v417 wm_684 wm_11 wm_2231 wm_682 wm_683 ⟨by decide, by decide, by decide +kernel⟩ (by decide), List.forall_mem_cons.mpr ⟨cl_string (y := y_jStr_charAt) (i := 6) rfl rfl (by decide +kernel) rfl c_jStr_charAt_v421 wm_684 wm_11 wm_2231 wm_682 wm_683 ⟨by decide, by decide, by decide +kernel⟩ (by decide), List.forall_mem_cons.mpr ⟨cl_string (y := y_jStr_charAt) (i := 6) rfl rfl (by decide +kernel) rfl c_jStr_charAt_v425 wm_684 wm_11 wm_2231 wm_682 wm_683 ⟨by decide, by decide, by decide +kernel⟩ (by decide), List.forall_mem_cons.mpr ⟨cl_string (y := y_jStr_charAt) (i := 6) rfl rfl (by decide +kernel) rfl c_jStr_charAt_v429 wm_684 wm_11 wm_2231 wm_682 wm_683 ⟨by decide, by decide, by decide +kernel⟩ (by decide), List.forall_mem_cons.mpr ⟨cl_string (y := y_jStr_charAt) (i := 6) rfl rfl (by decide +kernel) rfl c_jStr_charAt_v433 wm_684 wm_11 wm_2231 wm_682 wm_683 ⟨by decide, by decide, by decide +kernel⟩ (by decide), List.forall_mem_cons.mpr ⟨cl_string (y := y_jStr_charAt) (i := 6) rfl rfl (by decide +kernel) rfl c_jStr_charAt_v437 wm_684 wm_11 wm_2231 wm_682 wm_683 ⟨by decide, by decide, by decide +kernel⟩ (by decide), List.forall_mem_cons.mpr ⟨cl_string (y := y_jStr_charAt) (i := 6) rfl rfl (by decide +kernel) rfl c_jStr_charAt_v441 wm_684 wm_11 wm_2231 wm_682 wm_683 ⟨by decide, by decide, by decide +kernel⟩ (by decide), List.forall_mem_cons.mpr ⟨cl_string (y := y_jStr_charAt) (i := 6) rfl rfl (by decide +kernel) rfl c_jStr_charAt_v445 wm_684 wm_11 wm_2231 wm_682 wm_683 ⟨by decide, by decide, by decide +kernel⟩ (by decide), List.forall_mem_cons.mpr ⟨cl_string (y := y_jStr_charAt) (i := 6) rfl rfl (by decide +kernel) rfl c_jStr_charAt_v449 wm_684 wm_11 wm_2231 wm_682 wm_683 ⟨by decide, by decide, by decide +kernel⟩ (by decide), List.forall_mem_cons.mpr ⟨cl_virtual (y := y_Sy_isWordAt_at_s5006) (ci := 11) rfl rfl ⟨_, _, rfl⟩ (by decide +kernel) h_Sy_isWordAt_at_s5006 wm_2235 wm_23 wm_2232 wm_2234 wv_10_13 ⟨by decide, by decide, by decide +kernel⟩ (by decide), List.forall_mem_nil _⟩⟩⟩⟩⟩⟩⟩⟩⟩⟩⟩⟩, List.forall_mem_nil _, List.forall_mem_nil _, GG_pl⟩ (by decide +kernel)
def o_Sy_wordIn_at_s5007_0 : or_T := (1000000, 0, [], [], [], [], [], [], [])
theorem oo_Sy_wordIn_at_s5007_0 {kA : Nat → ClassId} : or_ok PRD kA GG o_Sy_wordIn_at_s5007_0 := fun _ _ _ _ _ _ _ _ _ _ => ⟨fun q h => (by cases h), [], trivial, fun f h => (by cases h), fun q h => (by cases h)⟩
def n_Sy_wordIn_at_s5007_an : List an_T := [(7, [(0, (2, 0, 0, [11])), (1, (2, 0, 0, [5007])), (2, (0, 0, 44, [])), (3, (0, 0, 44, [])), (4, (0, 0, 44, []))], [], (0, 0), [(0, 0, 99993), (1, 4, 44), (0, 0, 100000)], [(2, 3, (Int.negSucc 999999999999), 0), (2, 4, (Int.negSucc 999999999999), 0), (3, 4, (Int.negSucc 999999999999), 0)], [((0, 3), (2, 0, 0, [109]))], [], 0, [], [])]
def t_Sy_wordIn_at_s5007_ct : ct_L := [(34, 100, e_jStr_length_v453), (85, 104, e_jStr_charAt_v267), (124, 108, e_Sy_isWordAt_at_s5007)]
set_option maxRecDepth 100000 in
theorem c_Sy_wordIn_at_s5007 {l : Launch} {D : va_G} {kA : Nat → ClassId} (h_Sy_isWordAt_at_s5007 : ct_ok PRD l D kA GG y_Sy_isWordAt_at_s5007 z_Sy_isWordAt_at_s5007 e_Sy_isWordAt_at_s5007) : ct_ok PRD l D kA GG y_Sy_wordIn_at_s5007 z_Sy_wordIn_at_s5007 e_Sy_wordIn_at_s5007 := chk_all_ok (FT := [(31, 11, 6)]) (PT := []) (CT := t_Sy_wordIn_at_s5007_ct) (KT := []) (NT := []) (AN := n_Sy_wordIn_at_s5007_an) (OT := [o_Sy_wordIn_at_s5007_0]) 3 200 (List.forall_mem_cons.mpr ⟨oo_Sy_wordIn_at_s5007_0, List.forall_mem_nil _⟩) (by decide +kernel) ⟨List.forall_mem_cons.mpr ⟨gf_Sy_31, List.forall_mem_nil _⟩, List.forall_mem_nil _, List.forall_mem_cons.mpr ⟨cl_string (y := y_jStr_length) (i := 7) rfl rfl (by decide +kernel) rfl c_jStr_length_v453 wm_674 wm_11 wm_2230 wm_672 wm_673 ⟨by decide, by decide, by decide +kernel⟩ (by decide), List.forall_mem_cons.mpr ⟨cl_string (y := y_jStr_charAt) (i := 7) rfl rfl (by decide +kernel) rfl c_jStr_charAt_v267 wm_684 wm_11 wm_2231 wm_682 wm_683 ⟨by decide, by decide, by decide +kernel⟩ (by decide), List.forall_mem_cons.mpr ⟨cl_virtual (y := y_Sy_isWordAt_at_s5007) (ci := 11) rfl rfl ⟨_, _, rfl⟩ (by decide +kernel) h_Sy_isWordAt_at_s5007 wm_2235 wm_23 wm_2232 wm_2234 wv_10_13 ⟨by decide, by decide, by decide +kernel⟩ (by decide), List.forall_mem_nil _⟩⟩⟩, List.forall_mem_nil _, List.forall_mem_nil _, GG_pl⟩ (by decide +kernel)
def o_Sy_wordIn_at_s5008_0 : or_T := (30, 10, [(9, (0, 0, 65535, []))], [(23, [9], [105, 1]), (23, [9], [-105, -1])], [(9, (0, 105, 105, []))], [], [], [], [])
theorem oo_Sy_wordIn_at_s5008_0 {kA : Nat → ClassId} : or_ok PRD kA GG o_Sy_wordIn_at_s5008_0 := by
  refine or_mk fun A ta ws vs hD hth hl => ?_
  intro t9 k9 f0 f1
  replace f0 := shm_71 f0
  replace f1 := shm_72 f1
  have rf9 : tv_ok ta (0, 105, 105, []) (n_v vs 9) := tv_in t9 (by omega) (by omega)
  refine ⟨List.forall_mem_cons.mpr ⟨rf9, (fun _ h => (by cases h))⟩, [], trivial, ?_, (fun _ h => (by cases h))⟩
  rw [List.append_nil]
  exact (fun _ h => (by cases h))
def o_Sy_wordIn_at_s5008_1 : or_T := (30, 15, [(14, (0, 0, 65535, []))], [(23, [14], [102, 1]), (23, [14], [-102, -1])], [(14, (0, 102, 102, []))], [], [], [], [])
theorem oo_Sy_wordIn_at_s5008_1 {kA : Nat → ClassId} : or_ok PRD kA GG o_Sy_wordIn_at_s5008_1 := by
  refine or_mk fun A ta ws vs hD hth hl => ?_
  intro t14 k14 f0 f1
  replace f0 := shm_83 f0
  replace f1 := shm_84 f1
  have rf14 : tv_ok ta (0, 102, 102, []) (n_v vs 14) := tv_in t14 (by omega) (by omega)
  refine ⟨List.forall_mem_cons.mpr ⟨rf14, (fun _ h => (by cases h))⟩, [], trivial, ?_, (fun _ h => (by cases h))⟩
  rw [List.append_nil]
  exact (fun _ h => (by cases h))
def o_Sy_wordIn_at_s5008_2 : or_T := (30, 20, [(19, (0, 0, 65535, []))], [(23, [19], [32, 1]), (23, [19], [-32, -1])], [(19, (0, 32, 32, []))], [], [], [], [])
theorem oo_Sy_wordIn_at_s5008_2 {kA : Nat → ClassId} : or_ok PRD kA GG o_Sy_wordIn_at_s5008_2 := by
  refine or_mk fun A ta ws vs hD hth hl => ?_
  intro t19 k19 f0 f1
  replace f0 := shm_81 f0
  replace f1 := shm_82 f1
  have rf19 : tv_ok ta (0, 32, 32, []) (n_v vs 19) := tv_in t19 (by omega) (by omega)
  refine ⟨List.forall_mem_cons.mpr ⟨rf19, (fun _ h => (by cases h))⟩, [], trivial, ?_, (fun _ h => (by cases h))⟩
  rw [List.append_nil]
  exact (fun _ h => (by cases h))
def n_Sy_wordIn_at_s5008_an : List an_T := []
def t_Sy_wordIn_at_s5008_ct : ct_L := [(34, 100, e_jStr_length_v454), (85, 104, e_jStr_charAt_v455), (85, 104, e_jStr_charAt_v459), (85, 104, e_jStr_charAt_v463), (124, 108, e_Sy_isWordAt_at_s5008)]
set_option maxRecDepth 100000 in
theorem c_Sy_wordIn_at_s5008 {l : Launch} {D : va_G} {kA : Nat → ClassId} (h_Sy_isWordAt_at_s5008 : ct_ok PRD l D kA GG y_Sy_isWordAt_at_s5008 z_Sy_isWordAt_at_s5008 e_Sy_isWordAt_at_s5008) : ct_ok PRD l D kA GG y_Sy_wordIn_at_s5008 z_Sy_wordIn_at_s5008 e_Sy_wordIn_at_s5008 := chk_all_ok (FT := [(31, 11, 6)]) (PT := []) (CT := t_Sy_wordIn_at_s5008_ct) (KT := []) (NT := []) (AN := n_Sy_wordIn_at_s5008_an) (OT := [o_Sy_wordIn_at_s5008_0, o_Sy_wordIn_at_s5008_1, o_Sy_wordIn_at_s5008_2]) 0 288 (List.forall_mem_cons.mpr ⟨oo_Sy_wordIn_at_s5008_0, List.forall_mem_cons.mpr ⟨oo_Sy_wordIn_at_s5008_1, List.forall_mem_cons.mpr ⟨oo_Sy_wordIn_at_s5008_2, List.forall_mem_nil _⟩⟩⟩) (by decide +kernel) ⟨List.forall_mem_cons.mpr ⟨gf_Sy_31, List.forall_mem_nil _⟩, List.forall_mem_nil _, List.forall_mem_cons.mpr ⟨cl_string (y := y_jStr_length) (i := 8) rfl rfl (by decide +kernel) rfl c_jStr_length_v454 wm_674 wm_11 wm_2230 wm_672 wm_673 ⟨by decide, by decide, by decide +kernel⟩ (by decide), List.forall_mem_cons.mpr ⟨cl_string (y := y_jStr_charAt) (i := 8) rfl rfl (by decide +kernel) rfl c_jStr_charAt_v455 wm_684 wm_11 wm_2231 wm_682 wm_683 ⟨by decide, by decide, by decide +kernel⟩ (by decide), List.forall_mem_cons.mpr ⟨cl_string (y := y_jStr_charAt) (i := 8) rfl rfl (by decide +kernel) rfl c_jStr_charAt_v459 wm_684 wm_11 wm_2231 wm_682 wm_683 ⟨by decide, by decide, by decide +kernel⟩ (by decide), List.forall_mem_cons.mpr ⟨cl_string (y := y_jStr_charAt) (i := 8) rfl rfl (by decide +kernel) rfl c_jStr_charAt_v463 wm_684 wm_11 wm_2231 wm_682 wm_683 ⟨by decide, by decide, by decide +kernel⟩ (by decide), List.forall_mem_cons.mpr ⟨cl_virtual (y := y_Sy_isWordAt_at_s5008) (ci := 11) rfl rfl ⟨_, _, rfl⟩ (by decide +kernel) h_Sy_isWordAt_at_s5008 wm_2235 wm_23 wm_2232 wm_2234 wv_10_13 ⟨by decide, by decide, by decide +kernel⟩ (by decide), List.forall_mem_nil _⟩⟩⟩⟩⟩, List.forall_mem_nil _, List.forall_mem_nil _, GG_pl⟩ (by decide +kernel)
def o_Sy_wordIn_at_s5009_0 : or_T := (30, 10, [(9, (0, 0, 65535, []))], [(23, [9], [110, 1]), (23, [9], [-110, -1])], [(9, (0, 110, 110, []))], [], [], [], [])
theorem oo_Sy_wordIn_at_s5009_0 {kA : Nat → ClassId} : or_ok PRD kA GG o_Sy_wordIn_at_s5009_0 := by
  refine or_mk fun A ta ws vs hD hth hl => ?_
  intro t9 k9 f0 f1
  replace f0 := shm_53 f0
  replace f1 := shm_54 f1
  have rf9 : tv_ok ta (0, 110, 110, []) (n_v vs 9) := tv_in t9 (by omega) (by omega)
  refine ⟨List.forall_mem_cons.mpr ⟨rf9, (fun _ h => (by cases h))⟩, [], trivial, ?_, (fun _ h => (by cases h))⟩
  rw [List.append_nil]
  exact (fun _ h => (by cases h))
def o_Sy_wordIn_at_s5009_1 : or_T := (30, 15, [(14, (0, 0, 65535, []))], [(23, [14], [111, 1]), (23, [14], [-111, -1])], [(14, (0, 111, 111, []))], [], [], [], [])
theorem oo_Sy_wordIn_at_s5009_1 {kA : Nat → ClassId} : or_ok PRD kA GG o_Sy_wordIn_at_s5009_1 := by
  refine or_mk fun A ta ws vs hD hth hl => ?_
  intro t14 k14 f0 f1
  replace f0 := shm_55 f0
  replace f1 := shm_56 f1
  have rf14 : tv_ok ta (0, 111, 111, []) (n_v vs 14) := tv_in t14 (by omega) (by omega)
  refine ⟨List.forall_mem_cons.mpr ⟨rf14, (fun _ h => (by cases h))⟩, [], trivial, ?_, (fun _ h => (by cases h))⟩
  rw [List.append_nil]
  exact (fun _ h => (by cases h))
def o_Sy_wordIn_at_s5009_2 : or_T := (30, 20, [(19, (0, 0, 65535, []))], [(23, [19], [116, 1]), (23, [19], [-116, -1])], [(19, (0, 116, 116, []))], [], [], [], [])
theorem oo_Sy_wordIn_at_s5009_2 {kA : Nat → ClassId} : or_ok PRD kA GG o_Sy_wordIn_at_s5009_2 := by
  refine or_mk fun A ta ws vs hD hth hl => ?_
  intro t19 k19 f0 f1
  replace f0 := shm_79 f0
  replace f1 := shm_80 f1
  have rf19 : tv_ok ta (0, 116, 116, []) (n_v vs 19) := tv_in t19 (by omega) (by omega)
  refine ⟨List.forall_mem_cons.mpr ⟨rf19, (fun _ h => (by cases h))⟩, [], trivial, ?_, (fun _ h => (by cases h))⟩
  rw [List.append_nil]
  exact (fun _ h => (by cases h))
def o_Sy_wordIn_at_s5009_3 : or_T := (30, 25, [(24, (0, 0, 65535, []))], [(23, [24], [32, 1]), (23, [24], [-32, -1])], [(24, (0, 32, 32, []))], [], [], [], [])
theorem oo_Sy_wordIn_at_s5009_3 {kA : Nat → ClassId} : or_ok PRD kA GG o_Sy_wordIn_at_s5009_3 := by
  refine or_mk fun A ta ws vs hD hth hl => ?_
  intro t24 k24 f0 f1
  replace f0 := shm_81 f0
  replace f1 := shm_82 f1
  have rf24 : tv_ok ta (0, 32, 32, []) (n_v vs 24) := tv_in t24 (by omega) (by omega)
  refine ⟨List.forall_mem_cons.mpr ⟨rf24, (fun _ h => (by cases h))⟩, [], trivial, ?_, (fun _ h => (by cases h))⟩
  rw [List.append_nil]
  exact (fun _ h => (by cases h))
def n_Sy_wordIn_at_s5009_an : List an_T := []
def t_Sy_wordIn_at_s5009_ct : ct_L := [(34, 100, e_jStr_length_v467), (85, 104, e_jStr_charAt_v468), (85, 104, e_jStr_charAt_v470), (85, 104, e_jStr_charAt_v472), (85, 104, e_jStr_charAt_v474), (124, 108, e_Sy_isWordAt_at_s5009)]
set_option maxRecDepth 100000 in
theorem c_Sy_wordIn_at_s5009 {l : Launch} {D : va_G} {kA : Nat → ClassId} (h_Sy_isWordAt_at_s5009 : ct_ok PRD l D kA GG y_Sy_isWordAt_at_s5009 z_Sy_isWordAt_at_s5009 e_Sy_isWordAt_at_s5009) : ct_ok PRD l D kA GG y_Sy_wordIn_at_s5009 z_Sy_wordIn_at_s5009 e_Sy_wordIn_at_s5009 := chk_all_ok (FT := [(31, 11, 6)]) (PT := []) (CT := t_Sy_wordIn_at_s5009_ct) (KT := []) (NT := []) (AN := n_Sy_wordIn_at_s5009_an) (OT := [o_Sy_wordIn_at_s5009_0, o_Sy_wordIn_at_s5009_1, o_Sy_wordIn_at_s5009_2, o_Sy_wordIn_at_s5009_3]) 0 348 (List.forall_mem_cons.mpr ⟨oo_Sy_wordIn_at_s5009_0, List.forall_mem_cons.mpr ⟨oo_Sy_wordIn_at_s5009_1, List.forall_mem_cons.mpr ⟨oo_Sy_wordIn_at_s5009_2, List.forall_mem_cons.mpr ⟨oo_Sy_wordIn_at_s5009_3, List.forall_mem_nil _⟩⟩⟩⟩) (by decide +kernel) ⟨List.forall_mem_cons.mpr ⟨gf_Sy_31, List.forall_mem_nil _⟩, List.forall_mem_nil _, List.forall_mem_cons.mpr ⟨cl_string (y := y_jStr_length) (i := 9) rfl rfl (by decide +kernel) rfl c_jStr_length_v467 wm_674 wm_11 wm_2230 wm_672 wm_673 ⟨by decide, by decide, by decide +kernel⟩ (by decide), List.forall_mem_cons.mpr ⟨cl_string (y := y_jStr_charAt) (i := 9) rfl rfl (by decide +kernel) rfl c_jStr_charAt_v468 wm_684 wm_11 wm_2231 wm_682 wm_683 ⟨by decide, by decide, by decide +kernel⟩ (by decide), List.forall_mem_cons.mpr ⟨cl_string (y := y_jStr_charAt) (i := 9) rfl rfl (by decide +kernel) rfl c_jStr_charAt_v470 wm_684 wm_11 wm_2231 wm_682 wm_683 ⟨by decide, by decide, by decide +kernel⟩ (by decide), List.forall_mem_cons.mpr ⟨cl_string (y := y_jStr_charAt) (i := 9) rfl rfl (by decide +kernel) rfl c_jStr_charAt_v472 wm_684 wm_11 wm_2231 wm_682 wm_683 ⟨by decide, by decide, by decide +kernel⟩ (by decide), List.forall_mem_cons.mpr ⟨cl_string (y := y_jStr_charAt) (i := 9) rfl rfl (by decide +kernel) rfl c_jStr_charAt_v474 wm_684 wm_11 wm_2231 wm_682 wm_683 ⟨by decide, by decide, by decide +kernel⟩ (by decide), List.forall_mem_cons.mpr ⟨cl_virtual (y := y_Sy_isWordAt_at_s5009) (ci := 11) rfl rfl ⟨_, _, rfl⟩ (by decide +kernel) h_Sy_isWordAt_at_s5009 wm_2235 wm_23 wm_2232 wm_2234 wv_10_13 ⟨by decide, by decide, by decide +kernel⟩ (by decide), List.forall_mem_nil _⟩⟩⟩⟩⟩⟩, List.forall_mem_nil _, List.forall_mem_nil _, GG_pl⟩ (by decide +kernel)
def o_Sy_wordIn_at_s5010_0 : or_T := (30, 10, [(9, (0, 0, 65535, []))], [(23, [9], [97, 1]), (23, [9], [-97, -1])], [(9, (0, 97, 97, []))], [], [], [], [])
theorem oo_Sy_wordIn_at_s5010_0 {kA : Nat → ClassId} : or_ok PRD kA GG o_Sy_wordIn_at_s5010_0 := by
  refine or_mk fun A ta ws vs hD hth hl => ?_
  intro t9 k9 f0 f1
  replace f0 := shm_85 f0
  replace f1 := shm_86 f1
  have rf9 : tv_ok ta (0, 97, 97, []) (n_v vs 9) := tv_in t9 (by omega) (by omega)
  refine ⟨List.forall_mem_cons.mpr ⟨rf9, (fun _ h => (by cases h))⟩, [], trivial, ?_, (fun _ h => (by cases h))⟩
  rw [List.append_nil]
  exact (fun _ h => (by cases h))
def o_Sy_wordIn_at_s5010_1 : or_T := (30, 15, [(14, (0, 0, 65535, []))], [(23, [14], [110, 1]), (23, [14], [-110, -1])], [(14, (0, 110, 110, []))], [], [], [], [])
theorem oo_Sy_wordIn_at_s5010_1 {kA : Nat → ClassId} : or_ok PRD kA GG o_Sy_wordIn_at_s5010_1 := by
  refine or_mk fun A ta ws vs hD hth hl => ?_
  intro t14 k14 f0 f1
  replace f0 := shm_53 f0
  replace f1 := shm_54 f1
  have rf14 : tv_ok ta (0, 110, 110, []) (n_v vs 14) := tv_in t14 (by omega) (by omega)
  refine ⟨List.forall_mem_cons.mpr ⟨rf14, (fun _ h => (by cases h))⟩, [], trivial, ?_, (fun _ h => (by cases h))⟩
  rw [List.append_nil]
  exact (fun _ h => (by cases h))
def o_Sy_wordIn_at_s5010_2 : or_T := (30, 20, [(19, (0, 0, 65535, []))], [(23, [19], [100, 1]), (23, [19], [-100, -1])], [(19, (0, 100, 100, []))], [], [], [], [])
theorem oo_Sy_wordIn_at_s5010_2 {kA : Nat → ClassId} : or_ok PRD kA GG o_Sy_wordIn_at_s5010_2 := by
  refine or_mk fun A ta ws vs hD hth hl => ?_
  intro t19 k19 f0 f1
  replace f0 := shm_57 f0
  replace f1 := shm_58 f1
  have rf19 : tv_ok ta (0, 100, 100, []) (n_v vs 19) := tv_in t19 (by omega) (by omega)
  refine ⟨List.forall_mem_cons.mpr ⟨rf19, (fun _ h => (by cases h))⟩, [], trivial, ?_, (fun _ h => (by cases h))⟩
  rw [List.append_nil]
  exact (fun _ h => (by cases h))
def o_Sy_wordIn_at_s5010_3 : or_T := (30, 25, [(24, (0, 0, 65535, []))], [(23, [24], [32, 1]), (23, [24], [-32, -1])], [(24, (0, 32, 32, []))], [], [], [], [])
theorem oo_Sy_wordIn_at_s5010_3 {kA : Nat → ClassId} : or_ok PRD kA GG o_Sy_wordIn_at_s5010_3 := by
  refine or_mk fun A ta ws vs hD hth hl => ?_
  intro t24 k24 f0 f1
  replace f0 := shm_81 f0
  replace f1 := shm_82 f1
  have rf24 : tv_ok ta (0, 32, 32, []) (n_v vs 24) := tv_in t24 (by omega) (by omega)
  refine ⟨List.forall_mem_cons.mpr ⟨rf24, (fun _ h => (by cases h))⟩, [], trivial, ?_, (fun _ h => (by cases h))⟩
  rw [List.append_nil]
  exact (fun _ h => (by cases h))
def n_Sy_wordIn_at_s5010_an : List an_T := []
def t_Sy_wordIn_at_s5010_ct : ct_L := [(34, 100, e_jStr_length_v476), (85, 104, e_jStr_charAt_v477), (85, 104, e_jStr_charAt_v479), (85, 104, e_jStr_charAt_v481), (85, 104, e_jStr_charAt_v483), (124, 108, e_Sy_isWordAt_at_s5010)]
set_option maxRecDepth 100000 in
theorem c_Sy_wordIn_at_s5010 {l : Launch} {D : va_G} {kA : Nat → ClassId} (h_Sy_isWordAt_at_s5010 : ct_ok PRD l D kA GG y_Sy_isWordAt_at_s5010 z_Sy_isWordAt_at_s5010 e_Sy_isWordAt_at_s5010) : ct_ok PRD l D kA GG y_Sy_wordIn_at_s5010 z_Sy_wordIn_at_s5010 e_Sy_wordIn_at_s5010 := chk_all_ok (FT := [(31, 11, 6)]) (PT := []) (CT := t_Sy_wordIn_at_s5010_ct) (KT := []) (NT := []) (AN := n_Sy_wordIn_at_s5010_an) (OT := [o_Sy_wordIn_at_s5010_0, o_Sy_wordIn_at_s5010_1, o_Sy_wordIn_at_s5010_2, o_Sy_wordIn_at_s5010_3]) 0 348 (List.forall_mem_cons.mpr ⟨oo_Sy_wordIn_at_s5010_0, List.forall_mem_cons.mpr ⟨oo_Sy_wordIn_at_s5010_1, List.forall_mem_cons.mpr ⟨oo_Sy_wordIn_at_s5010_2, List.forall_mem_cons.mpr ⟨oo_Sy_wordIn_at_s5010_3, List.forall_mem_nil _⟩⟩⟩⟩) (by decide +kernel) ⟨List.forall_mem_cons.mpr ⟨gf_Sy_31, List.forall_mem_nil _⟩, List.forall_mem_nil _, List.forall_mem_cons.mpr ⟨cl_string (y := y_jStr_length) (i := 10) rfl rfl (by decide +kernel) rfl c_jStr_length_v476 wm_674 wm_11 wm_2230 wm_672 wm_673 ⟨by decide, by decide, by decide +kernel⟩ (by decide), List.forall_mem_cons.mpr ⟨cl_string (y := y_jStr_charAt) (i := 10) rfl rfl (by decide +kernel) rfl c_jStr_charAt_v477 wm_684 wm_11 wm_2231 wm_682 wm_683 ⟨by decide, by decide, by decide +kernel⟩ (by decide), List.forall_mem_cons.mpr ⟨cl_string (y := y_jStr_charAt) (i := 10) rfl rfl (by decide +kernel) rfl c_jStr_charAt_v479 wm_684 wm_11 wm_2231 wm_682 wm_683 ⟨by decide, by decide, by decide +kernel⟩ (by decide), List.forall_mem_cons.mpr ⟨cl_string (y := y_jStr_charAt) (i := 10) rfl rfl (by decide +kernel) rfl c_jStr_charAt_v481 wm_684 wm_11 wm_2231 wm_682 wm_683 ⟨by decide, by decide, by decide +kernel⟩ (by decide), List.forall_mem_cons.mpr ⟨cl_string (y := y_jStr_charAt) (i := 10) rfl rfl (by decide +kernel) rfl c_jStr_charAt_v483 wm_684 wm_11 wm_2231 wm_682 wm_683 ⟨by decide, by decide, by decide +kernel⟩ (by decide), List.forall_mem_cons.mpr ⟨cl_virtual (y := y_Sy_isWordAt_at_s5010) (ci := 11) rfl rfl ⟨_, _, rfl⟩ (by decide +kernel) h_Sy_isWordAt_at_s5010 wm_2235 wm_23 wm_2232 wm_2234 wv_10_13 ⟨by decide, by decide, by decide +kernel⟩ (by decide), List.forall_mem_nil _⟩⟩⟩⟩⟩⟩, List.forall_mem_nil _, List.forall_mem_nil _, GG_pl⟩ (by decide +kernel)
def o_Sy_wordIn_at_s5011_0 : or_T := (30, 10, [(9, (0, 0, 65535, []))], [(23, [9], [111, 1]), (23, [9], [-111, -1])], [(9, (0, 111, 111, []))], [], [], [], [])
theorem oo_Sy_wordIn_at_s5011_0 {kA : Nat → ClassId} : or_ok PRD kA GG o_Sy_wordIn_at_s5011_0 := by
  refine or_mk fun A ta ws vs hD hth hl => ?_
  intro t9 k9 f0 f1
  replace f0 := shm_55 f0
  replace f1 := shm_56 f1
  have rf9 : tv_ok ta (0, 111, 111, []) (n_v vs 9) := tv_in t9 (by omega) (by omega)
  refine ⟨List.forall_mem_cons.mpr ⟨rf9, (fun _ h => (by cases h))⟩, [], trivial, ?_, (fun _ h => (by cases h))⟩
  rw [List.append_nil]
  exact (fun _ h => (by cases h))
def o_Sy_wordIn_at_s5011_1 : or_T := (30, 15, [(14, (0, 0, 65535, []))], [(23, [14], [114, 1]), (23, [14], [-114, -1])], [(14, (0, 114, 114, []))], [], [], [], [])
theorem oo_Sy_wordIn_at_s5011_1 {kA : Nat → ClassId} : or_ok PRD kA GG o_Sy_wordIn_at_s5011_1 := by
  refine or_mk fun A ta ws vs hD hth hl => ?_
  intro t14 k14 f0 f1
  replace f0 := shm_63 f0
  replace f1 := shm_64 f1
  have rf14 : tv_ok ta (0, 114, 114, []) (n_v vs 14) := tv_in t14 (by omega) (by omega)
  refine ⟨List.forall_mem_cons.mpr ⟨rf14, (fun _ h => (by cases h))⟩, [], trivial, ?_, (fun _ h => (by cases h))⟩
  rw [List.append_nil]
  exact (fun _ h => (by cases h))
def o_Sy_wordIn_at_s5011_2 : or_T := (30, 20, [(19, (0, 0, 65535, []))], [(23, [19], [32, 1]), (23, [19], [-32, -1])], [(19, (0, 32, 32, []))], [], [], [], [])
theorem oo_Sy_wordIn_at_s5011_2 {kA : Nat → ClassId} : or_ok PRD kA GG o_Sy_wordIn_at_s5011_2 := by
  refine or_mk fun A ta ws vs hD hth hl => ?_
  intro t19 k19 f0 f1
  replace f0 := shm_81 f0
  replace f1 := shm_82 f1
  have rf19 : tv_ok ta (0, 32, 32, []) (n_v vs 19) := tv_in t19 (by omega) (by omega)
  refine ⟨List.forall_mem_cons.mpr ⟨rf19, (fun _ h => (by cases h))⟩, [], trivial, ?_, (fun _ h => (by cases h))⟩
  rw [List.append_nil]
  exact (fun _ h => (by cases h))
def n_Sy_wordIn_at_s5011_an : List an_T := []
def t_Sy_wordIn_at_s5011_ct : ct_L := [(34, 100, e_jStr_length_v485), (85, 104, e_jStr_charAt_v486), (85, 104, e_jStr_charAt_v488), (85, 104, e_jStr_charAt_v490), (124, 108, e_Sy_isWordAt_at_s5011)]
set_option maxRecDepth 100000 in
theorem c_Sy_wordIn_at_s5011 {l : Launch} {D : va_G} {kA : Nat → ClassId} (h_Sy_isWordAt_at_s5011 : ct_ok PRD l D kA GG y_Sy_isWordAt_at_s5011 z_Sy_isWordAt_at_s5011 e_Sy_isWordAt_at_s5011) : ct_ok PRD l D kA GG y_Sy_wordIn_at_s5011 z_Sy_wordIn_at_s5011 e_Sy_wordIn_at_s5011 := chk_all_ok (FT := [(31, 11, 6)]) (PT := []) (CT := t_Sy_wordIn_at_s5011_ct) (KT := []) (NT := []) (AN := n_Sy_wordIn_at_s5011_an) (OT := [o_Sy_wordIn_at_s5011_0, o_Sy_wordIn_at_s5011_1, o_Sy_wordIn_at_s5011_2]) 0 288 (List.forall_mem_cons.mpr ⟨oo_Sy_wordIn_at_s5011_0, List.forall_mem_cons.mpr ⟨oo_Sy_wordIn_at_s5011_1, List.forall_mem_cons.mpr ⟨oo_Sy_wordIn_at_s5011_2, List.forall_mem_nil _⟩⟩⟩) (by decide +kernel) ⟨List.forall_mem_cons.mpr ⟨gf_Sy_31, List.forall_mem_nil _⟩, List.forall_mem_nil _, List.forall_mem_cons.mpr ⟨cl_string (y := y_jStr_length) (i := 11) rfl rfl (by decide +kernel) rfl c_jStr_length_v485 wm_674 wm_11 wm_2230 wm_672 wm_673 ⟨by decide, by decide, by decide +kernel⟩ (by decide), List.forall_mem_cons.mpr ⟨cl_string (y := y_jStr_charAt) (i := 11) rfl rfl (by decide +kernel) rfl c_jStr_charAt_v486 wm_684 wm_11 wm_2231 wm_682 wm_683 ⟨by decide, by decide, by decide +kernel⟩ (by decide), List.forall_mem_cons.mpr ⟨cl_string (y := y_jStr_charAt) (i := 11) rfl rfl (by decide +kernel) rfl c_jStr_charAt_v488 wm_684 wm_11 wm_2231 wm_682 wm_683 ⟨by decide, by decide, by decide +kernel⟩ (by decide), List.forall_mem_cons.mpr ⟨cl_string (y := y_jStr_charAt) (i := 11) rfl rfl (by decide +kernel) rfl c_jStr_charAt_v490 wm_684 wm_11 wm_2231 wm_682 wm_683 ⟨by decide, by decide, by decide +kernel⟩ (by decide), List.forall_mem_cons.mpr ⟨cl_virtual (y := y_Sy_isWordAt_at_s5011) (ci := 11) rfl rfl ⟨_, _, rfl⟩ (by decide +kernel) h_Sy_isWordAt_at_s5011 wm_2235 wm_23 wm_2232 wm_2234 wv_10_13 ⟨by decide, by decide, by decide +kernel⟩ (by decide), List.forall_mem_nil _⟩⟩⟩⟩⟩, List.forall_mem_nil _, List.forall_mem_nil _, GG_pl⟩ (by decide +kernel)
def o_Sy_wordIn_at_s5012_0 : or_T := (30, 10, [(9, (0, 0, 65535, []))], [(23, [9], [99, 1]), (23, [9], [-99, -1])], [(9, (0, 99, 99, []))], [], [], [], [])
theorem oo_Sy_wordIn_at_s5012_0 {kA : Nat → ClassId} : or_ok PRD kA GG o_Sy_wordIn_at_s5012_0 := by
  refine or_mk fun A ta ws vs hD hth hl => ?_
  intro t9 k9 f0 f1
  replace f0 := shm_87 f0
  replace f1 := shm_88 f1
  have rf9 : tv_ok ta (0, 99, 99, []) (n_v vs 9) := tv_in t9 (by omega) (by omega)
  refine ⟨List.forall_mem_cons.mpr ⟨rf9, (fun _ h => (by cases h))⟩, [], trivial, ?_, (fun _ h => (by cases h))⟩
  rw [List.append_nil]
  exact (fun _ h => (by cases h))
def o_Sy_wordIn_at_s5012_1 : or_T := (30, 15, [(14, (0, 0, 65535, []))], [(23, [14], [111, 1]), (23, [14], [-111, -1])], [(14, (0, 111, 111, []))], [], [], [], [])
theorem oo_Sy_wordIn_at_s5012_1 {kA : Nat → ClassId} : or_ok PRD kA GG o_Sy_wordIn_at_s5012_1 := by
  refine or_mk fun A ta ws vs hD hth hl => ?_
  intro t14 k14 f0 f1
  replace f0 := shm_55 f0
  replace f1 := shm_56 f1
  have rf14 : tv_ok ta (0, 111, 111, []) (n_v vs 14) := tv_in t14 (by omega) (by omega)
  refine ⟨List.forall_mem_cons.mpr ⟨rf14, (fun _ h => (by cases h))⟩, [], trivial, ?_, (fun _ h => (by cases h))⟩
  rw [List.append_nil]
  exact (fun _ h => (by cases h))
def o_Sy_wordIn_at_s5012_2 : or_T := (30, 20, [(19, (0, 0, 65535, []))], [(23, [19], [108, 1]), (23, [19], [-108, -1])], [(19, (0, 108, 108, []))], [], [], [], [])
theorem oo_Sy_wordIn_at_s5012_2 {kA : Nat → ClassId} : or_ok PRD kA GG o_Sy_wordIn_at_s5012_2 := by
  refine or_mk fun A ta ws vs hD hth hl => ?_
  intro t19 k19 f0 f1
  replace f0 := shm_89 f0
  replace f1 := shm_90 f1
  have rf19 : tv_ok ta (0, 108, 108, []) (n_v vs 19) := tv_in t19 (by omega) (by omega)
  refine ⟨List.forall_mem_cons.mpr ⟨rf19, (fun _ h => (by cases h))⟩, [], trivial, ?_, (fun _ h => (by cases h))⟩
  rw [List.append_nil]
  exact (fun _ h => (by cases h))
def o_Sy_wordIn_at_s5012_3 : or_T := (30, 25, [(24, (0, 0, 65535, []))], [(23, [24], [111, 1]), (23, [24], [-111, -1])], [(24, (0, 111, 111, []))], [], [], [], [])
theorem oo_Sy_wordIn_at_s5012_3 {kA : Nat → ClassId} : or_ok PRD kA GG o_Sy_wordIn_at_s5012_3 := by
  refine or_mk fun A ta ws vs hD hth hl => ?_
  intro t24 k24 f0 f1
  replace f0 := shm_55 f0
  replace f1 := shm_56 f1
  have rf24 : tv_ok ta (0, 111, 111, []) (n_v vs 24) := tv_in t24 (by omega) (by omega)
  refine ⟨List.forall_mem_cons.mpr ⟨rf24, (fun _ h => (by cases h))⟩, [], trivial, ?_, (fun _ h => (by cases h))⟩
  rw [List.append_nil]
  exact (fun _ h => (by cases h))
def o_Sy_wordIn_at_s5012_4 : or_T := (30, 30, [(29, (0, 0, 65535, []))], [(23, [29], [114, 1]), (23, [29], [-114, -1])], [(29, (0, 114, 114, []))], [], [], [], [])
theorem oo_Sy_wordIn_at_s5012_4 {kA : Nat → ClassId} : or_ok PRD kA GG o_Sy_wordIn_at_s5012_4 := by
  refine or_mk fun A ta ws vs hD hth hl => ?_
  intro t29 k29 f0 f1
  replace f0 := shm_63 f0
  replace f1 := shm_64 f1
  have rf29 : tv_ok ta (0, 114, 114, []) (n_v vs 29) := tv_in t29 (by omega) (by omega)
  refine ⟨List.forall_mem_cons.mpr ⟨rf29, (fun _ h => (by cases h))⟩, [], trivial, ?_, (fun _ h => (by cases h))⟩
  rw [List.append_nil]
  exact (fun _ h => (by cases h))
def o_Sy_wordIn_at_s5012_5 : or_T := (30, 35, [(34, (0, 0, 65535, []))], [(23, [34], [32, 1]), (23, [34], [-32, -1])], [(34, (0, 32, 32, []))], [], [], [], [])
theorem oo_Sy_wordIn_at_s5012_5 {kA : Nat → ClassId} : or_ok PRD kA GG o_Sy_wordIn_at_s5012_5 := by
  refine or_mk fun A ta ws vs hD hth hl => ?_
  intro t34 k34 f0 f1
  replace f0 := shm_81 f0
  replace f1 := shm_82 f1
  have rf34 : tv_ok ta (0, 32, 32, []) (n_v vs 34) := tv_in t34 (by omega) (by omega)
  refine ⟨List.forall_mem_cons.mpr ⟨rf34, (fun _ h => (by cases h))⟩, [], trivial, ?_, (fun _ h => (by cases h))⟩
  rw [List.append_nil]
  exact (fun _ h => (by cases h))
def o_Sy_wordIn_at_s5012_6 : or_T := (30, 44, [(43, (0, 0, 65535, []))], [(23, [43], [119, 1]), (23, [43], [-119, -1])], [(43, (0, 119, 119, []))], [], [], [], [])
theorem oo_Sy_wordIn_at_s5012_6 {kA : Nat → ClassId} : or_ok PRD kA GG o_Sy_wordIn_at_s5012_6 := by
  refine or_mk fun A ta ws vs hD hth hl => ?_
  intro t43 k43 f0 f1
  replace f0 := shm_75 f0
  replace f1 := shm_76 f1
  have rf43 : tv_ok ta (0, 119, 119, []) (n_v vs 43) := tv_in t43 (by omega) (by omega)
  refine ⟨List.forall_mem_cons.mpr ⟨rf43, (fun _ h => (by cases h))⟩, [], trivial, ?_, (fun _ h => (by cases h))⟩
  rw [List.append_nil]
  exact (fun _ h => (by cases h))
def o_Sy_wordIn_at_s5012_7 : or_T := (30, 49, [(48, (0, 0, 65535, []))], [(23, [48], [105, 1]), (23, [48], [-105, -1])], [(48, (0, 105, 105, []))], [], [], [], [])
theorem oo_Sy_wordIn_at_s5012_7 {kA : Nat → ClassId} : or_ok PRD kA GG o_Sy_wordIn_at_s5012_7 := by
  refine or_mk fun A ta ws vs hD hth hl => ?_
  intro t48 k48 f0 f1
  replace f0 := shm_71 f0
  replace f1 := shm_72 f1
  have rf48 : tv_ok ta (0, 105, 105, []) (n_v vs 48) := tv_in t48 (by omega) (by omega)
  refine ⟨List.forall_mem_cons.mpr ⟨rf48, (fun _ h => (by cases h))⟩, [], trivial, ?_, (fun _ h => (by cases h))⟩
  rw [List.append_nil]
  exact (fun _ h => (by cases h))
def o_Sy_wordIn_at_s5012_8 : or_T := (30, 54, [(53, (0, 0, 65535, []))], [(23, [53], [100, 1]), (23, [53], [-100, -1])], [(53, (0, 100, 100, []))], [], [], [], [])
theorem oo_Sy_wordIn_at_s5012_8 {kA : Nat → ClassId} : or_ok PRD kA GG o_Sy_wordIn_at_s5012_8 := by
  refine or_mk fun A ta ws vs hD hth hl => ?_
  intro t53 k53 f0 f1
  replace f0 := shm_57 f0
  replace f1 := shm_58 f1
  have rf53 : tv_ok ta (0, 100, 100, []) (n_v vs 53) := tv_in t53 (by omega) (by omega)
  refine ⟨List.forall_mem_cons.mpr ⟨rf53, (fun _ h => (by cases h))⟩, [], trivial, ?_, (fun _ h => (by cases h))⟩
  rw [List.append_nil]
  exact (fun _ h => (by cases h))
def o_Sy_wordIn_at_s5012_9 : or_T := (30, 59, [(58, (0, 0, 65535, []))], [(23, [58], [116, 1]), (23, [58], [-116, -1])], [(58, (0, 116, 116, []))], [], [], [], [])
theorem oo_Sy_wordIn_at_s5012_9 {kA : Nat → ClassId} : or_ok PRD kA GG o_Sy_wordIn_at_s5012_9 := by
  refine or_mk fun A ta ws vs hD hth hl => ?_
  intro t58 k58 f0 f1
  replace f0 := shm_79 f0
  replace f1 := shm_80 f1
  have rf58 : tv_ok ta (0, 116, 116, []) (n_v vs 58) := tv_in t58 (by omega) (by omega)
  refine ⟨List.forall_mem_cons.mpr ⟨rf58, (fun _ h => (by cases h))⟩, [], trivial, ?_, (fun _ h => (by cases h))⟩
  rw [List.append_nil]
  exact (fun _ h => (by cases h))
def o_Sy_wordIn_at_s5012_10 : or_T := (30, 64, [(63, (0, 0, 65535, []))], [(23, [63], [104, 1]), (23, [63], [-104, -1])], [(63, (0, 104, 104, []))], [], [], [], [])
theorem oo_Sy_wordIn_at_s5012_10 {kA : Nat → ClassId} : or_ok PRD kA GG o_Sy_wordIn_at_s5012_10 := by
  refine or_mk fun A ta ws vs hD hth hl => ?_
  intro t63 k63 f0 f1
  replace f0 := shm_77 f0
  replace f1 := shm_78 f1
  have rf63 : tv_ok ta (0, 104, 104, []) (n_v vs 63) := tv_in t63 (by omega) (by omega)
  refine ⟨List.forall_mem_cons.mpr ⟨rf63, (fun _ h => (by cases h))⟩, [], trivial, ?_, (fun _ h => (by cases h))⟩
  rw [List.append_nil]
  exact (fun _ h => (by cases h))
def o_Sy_wordIn_at_s5012_11 : or_T := (30, 69, [(68, (0, 0, 65535, []))], [(23, [68], [32, 1]), (23, [68], [-32, -1])], [(68, (0, 32, 32, []))], [], [], [], [])
theorem oo_Sy_wordIn_at_s5012_11 {kA : Nat → ClassId} : or_ok PRD kA GG o_Sy_wordIn_at_s5012_11 := by
  refine or_mk fun A ta ws vs hD hth hl => ?_
  intro t68 k68 f0 f1
  replace f0 := shm_81 f0
  replace f1 := shm_82 f1
  have rf68 : tv_ok ta (0, 32, 32, []) (n_v vs 68) := tv_in t68 (by omega) (by omega)
  refine ⟨List.forall_mem_cons.mpr ⟨rf68, (fun _ h => (by cases h))⟩, [], trivial, ?_, (fun _ h => (by cases h))⟩
  rw [List.append_nil]
  exact (fun _ h => (by cases h))
def o_Sy_wordIn_at_s5012_12 : or_T := (30, 78, [(77, (0, 0, 65535, []))], [(23, [77], [102, 1]), (23, [77], [-102, -1])], [(77, (0, 102, 102, []))], [], [], [], [])
theorem oo_Sy_wordIn_at_s5012_12 {kA : Nat → ClassId} : or_ok PRD kA GG o_Sy_wordIn_at_s5012_12 := by
  refine or_mk fun A ta ws vs hD hth hl => ?_
  intro t77 k77 f0 f1
  replace f0 := shm_83 f0
  replace f1 := shm_84 f1
  have rf77 : tv_ok ta (0, 102, 102, []) (n_v vs 77) := tv_in t77 (by omega) (by omega)
  refine ⟨List.forall_mem_cons.mpr ⟨rf77, (fun _ h => (by cases h))⟩, [], trivial, ?_, (fun _ h => (by cases h))⟩
  rw [List.append_nil]
  exact (fun _ h => (by cases h))
def o_Sy_wordIn_at_s5012_13 : or_T := (30, 83, [(82, (0, 0, 65535, []))], [(23, [82], [111, 1]), (23, [82], [-111, -1])], [(82, (0, 111, 111, []))], [], [], [], [])
theorem oo_Sy_wordIn_at_s5012_13 {kA : Nat → ClassId} : or_ok PRD kA GG o_Sy_wordIn_at_s5012_13 := by
  refine or_mk fun A ta ws vs hD hth hl => ?_
  intro t82 k82 f0 f1
  replace f0 := shm_55 f0
  replace f1 := shm_56 f1
  have rf82 : tv_ok ta (0, 111, 111, []) (n_v vs 82) := tv_in t82 (by omega) (by omega)
  refine ⟨List.forall_mem_cons.mpr ⟨rf82, (fun _ h => (by cases h))⟩, [], trivial, ?_, (fun _ h => (by cases h))⟩
  rw [List.append_nil]
  exact (fun _ h => (by cases h))
def o_Sy_wordIn_at_s5012_14 : or_T := (30, 88, [(87, (0, 0, 65535, []))], [(23, [87], [114, 1]), (23, [87], [-114, -1])], [(87, (0, 114, 114, []))], [], [], [], [])
theorem oo_Sy_wordIn_at_s5012_14 {kA : Nat → ClassId} : or_ok PRD kA GG o_Sy_wordIn_at_s5012_14 := by
  refine or_mk fun A ta ws vs hD hth hl => ?_
  intro t87 k87 f0 f1
  replace f0 := shm_63 f0
  replace f1 := shm_64 f1
  have rf87 : tv_ok ta (0, 114, 114, []) (n_v vs 87) := tv_in t87 (by omega) (by omega)
  refine ⟨List.forall_mem_cons.mpr ⟨rf87, (fun _ h => (by cases h))⟩, [], trivial, ?_, (fun _ h => (by cases h))⟩
  rw [List.append_nil]
  exact (fun _ h => (by cases h))
def o_Sy_wordIn_at_s5012_15 : or_T := (30, 93, [(92, (0, 0, 65535, []))], [(23, [92], [109, 1]), (23, [92], [-109, -1])], [(92, (0, 109, 109, []))], [], [], [], [])
theorem oo_Sy_wordIn_at_s5012_15 {kA : Nat → ClassId} : or_ok PRD kA GG o_Sy_wordIn_at_s5012_15 := by
  refine or_mk fun A ta ws vs hD hth hl => ?_
  intro t92 k92 f0 f1
  replace f0 := shm_91 f0
  replace f1 := shm_92 f1
  have rf92 : tv_ok ta (0, 109, 109, []) (n_v vs 92) := tv_in t92 (by omega) (by omega)
  refine ⟨List.forall_mem_cons.mpr ⟨rf92, (fun _ h => (by cases h))⟩, [], trivial, ?_, (fun _ h => (by cases h))⟩
  rw [List.append_nil]
  exact (fun _ h => (by cases h))
def o_Sy_wordIn_at_s5012_16 : or_T := (30, 98, [(97, (0, 0, 65535, []))], [(23, [97], [32, 1]), (23, [97], [-32, -1])], [(97, (0, 32, 32, []))], [], [], [], [])
theorem oo_Sy_wordIn_at_s5012_16 {kA : Nat → ClassId} : or_ok PRD kA GG o_Sy_wordIn_at_s5012_16 := by
  refine or_mk fun A ta ws vs hD hth hl => ?_
  intro t97 k97 f0 f1
  replace f0 := shm_81 f0
  replace f1 := shm_82 f1
  have rf97 : tv_ok ta (0, 32, 32, []) (n_v vs 97) := tv_in t97 (by omega) (by omega)
  refine ⟨List.forall_mem_cons.mpr ⟨rf97, (fun _ h => (by cases h))⟩, [], trivial, ?_, (fun _ h => (by cases h))⟩
  rw [List.append_nil]
  exact (fun _ h => (by cases h))
def n_Sy_wordIn_at_s5012_an : List an_T := []
def t_Sy_wordIn_at_s5012_ct : ct_L := [(34, 100, e_jStr_length_v492), (85, 104, e_jStr_charAt_v493), (85, 104, e_jStr_charAt_v497), (85, 104, e_jStr_charAt_v533), (85, 104, e_jStr_charAt_v537), (85, 104, e_jStr_charAt_v541), (85, 104, e_jStr_charAt_v545), (85, 104, e_jStr_charAt_v549), (85, 104, e_jStr_charAt_v553), (85, 104, e_jStr_charAt_v557), (85, 104, e_jStr_charAt_v501), (85, 104, e_jStr_charAt_v505), (85, 104, e_jStr_charAt_v509), (85, 104, e_jStr_charAt_v513), (85, 104, e_jStr_charAt_v517), (85, 104, e_jStr_charAt_v521), (85, 104, e_jStr_charAt_v525), (85, 104, e_jStr_charAt_v529), (124, 108, e_Sy_isWordAt_at_s5012)]
set_option maxRecDepth 100000 in
theorem c_Sy_wordIn_at_s5012 {l : Launch} {D : va_G} {kA : Nat → ClassId} (h_Sy_isWordAt_at_s5012 : ct_ok PRD l D kA GG y_Sy_isWordAt_at_s5012 z_Sy_isWordAt_at_s5012 e_Sy_isWordAt_at_s5012) : ct_ok PRD l D kA GG y_Sy_wordIn_at_s5012 z_Sy_wordIn_at_s5012 e_Sy_wordIn_at_s5012 := chk_all_ok (FT := [(31, 11, 6)]) (PT := []) (CT := t_Sy_wordIn_at_s5012_ct) (KT := []) (NT := []) (AN := n_Sy_wordIn_at_s5012_an) (OT := [o_Sy_wordIn_at_s5012_0, o_Sy_wordIn_at_s5012_1, o_Sy_wordIn_at_s5012_2, o_Sy_wordIn_at_s5012_3, o_Sy_wordIn_at_s5012_4, o_Sy_wordIn_at_s5012_5, o_Sy_wordIn_at_s5012_6, o_Sy_wordIn_at_s5012_7, o_Sy_wordIn_at_s5012_8, o_Sy_wordIn_at_s5012_9, o_Sy_wordIn_at_s5012_10, o_Sy_wordIn_at_s5012_11, o_Sy_wordIn_at_s5012_12, o_Sy_wordIn_at_s5012_13, o_Sy_wordIn_at_s5012_14, o_Sy_wordIn_at_s5012_15, o_Sy_wordIn_at_s5012_16]) 0 1232 (List.forall_mem_cons.mpr ⟨oo_Sy_wordIn_at_s5012_0, List.forall_mem_cons.mpr ⟨oo_Sy_wordIn_at_s5012_1, List.forall_mem_cons.mpr ⟨oo_Sy_wordIn_at_s5012_2, List.forall_mem_cons.mpr ⟨oo_Sy_wordIn_at_s5012_3, List.forall_mem_cons.mpr ⟨oo_Sy_wordIn_at_s5012_4, List.forall_mem_cons.mpr ⟨oo_Sy_wordIn_at_s5012_5, List.forall_mem_cons.mpr ⟨oo_Sy_wordIn_at_s5012_6, List.forall_mem_cons.mpr ⟨oo_Sy_wordIn_at_s5012_7, List.forall_mem_cons.mpr ⟨oo_Sy_wordIn_at_s5012_8, List.forall_mem_cons.mpr ⟨oo_Sy_wordIn_at_s5012_9, List.forall_mem_cons.mpr ⟨oo_Sy_wordIn_at_s5012_10, List.forall_mem_cons.mpr ⟨oo_Sy_wordIn_at_s5012_11, List.forall_mem_cons.mpr ⟨oo_Sy_wordIn_at_s5012_12, List.forall_mem_cons.mpr ⟨oo_Sy_wordIn_at_s5012_13, List.forall_mem_cons.mpr ⟨oo_Sy_wordIn_at_s5012_14, List.forall_mem_cons.mpr ⟨oo_Sy_wordIn_at_s5012_15, List.forall_mem_cons.mpr ⟨oo_Sy_wordIn_at_s5012_16, List.forall_mem_nil _⟩⟩⟩⟩⟩⟩⟩⟩⟩⟩⟩⟩⟩⟩⟩⟩⟩) (by decide +kernel) ⟨List.forall_mem_cons.mpr ⟨gf_Sy_31, List.forall_mem_nil _⟩, List.forall_mem_nil _, List.forall_mem_cons.mpr ⟨cl_string (y := y_jStr_length) (i := 12) rfl rfl (by decide +kernel) rfl c_jStr_length_v492 wm_674 wm_11 wm_2230 wm_672 wm_673 ⟨by decide, by decide, by decide +kernel⟩ (by decide), List.forall_mem_cons.mpr ⟨cl_string (y := y_jStr_charAt) (i := 12) rfl rfl (by decide +kernel) rfl c_jStr_charAt_v493 wm_684 wm_11 wm_2231 wm_682 wm_683 ⟨by decide, by decide, by decide +kernel⟩ (by decide), List.forall_mem_cons.mpr ⟨cl_string (y := y_jStr_charAt) (i := 12) rfl rfl (by decide +kernel) rfl c_jStr_charAt_v497 wm_684 wm_11 wm_2231 wm_682 wm_683 ⟨by decide, by decide, by decide +kernel⟩ (by decide), List.forall_mem_cons.mpr ⟨cl_string (y := y_jStr_charAt) (i := 12) rfl rfl (by decide +kernel) rfl c_jStr_charAt_v533 wm_684 wm_11 wm_2231 wm_682 wm_683 ⟨by decide, by decide, by decide +kernel⟩ (by decide), List.forall_mem_cons.mpr ⟨cl_string (y := y_jStr_charAt) (i := 12) rfl rfl (by decide +kernel) rfl c_jStr_charAt_v537 wm_684 wm_11 wm_2231 wm_682 wm_683 ⟨by decide, by decide, by decide +kernel⟩ (by decide), List.forall_mem_cons.mpr ⟨cl_string (y := y_jStr_charAt) (i := 12) rfl rfl (by decide +kernel) rfl c_jStr_charAt_v541 wm_684 wm_11 wm_2231 wm_682 wm_683 ⟨by decide, by decide, by decide +kernel⟩ (by decide), List.forall_mem_cons.mpr ⟨cl_string (y := y_jStr_charAt) (i := 12) rfl rfl (by decide +kernel) rfl c_jStr_charAt_v545 wm_684 wm_11 wm_2231 wm_682 wm_683 ⟨by decide, by decide, by decide +kernel⟩ (by decide), List.forall_mem_cons.mpr ⟨cl_string (y := y_jStr_charAt) (i := 12) rfl rfl (by decide +kernel) rfl c_jStr_charAt_v549 wm_684 wm_11 wm_2231 wm_682 wm_683 ⟨by decide, by decide, by decide +kernel⟩ (by decide), List.forall_mem_cons.mpr ⟨cl_string (y := y_jStr_charAt) (i := 12) rfl rfl (by decide +kernel) rfl c_jStr_charAt_v553 wm_684 wm_11 wm_2231 wm_682 wm_683 ⟨by decide, by decide, by decide +kernel⟩ (by decide), List.forall_mem_cons.mpr ⟨cl_string (y := y_jStr_charAt) (i := 12) rfl rfl (by decide +kernel) rfl c_jStr_charAt_v557 wm_684 wm_11 wm_2231 wm_682 wm_683 ⟨by decide, by decide, by decide +kernel⟩ (by decide), List.forall_mem_cons.mpr ⟨cl_string (y := y_jStr_charAt) (i := 12) rfl rfl (by decide +kernel) rfl c_jStr_charAt_v501 wm_684 wm_11 wm_2231 wm_682 wm_683 ⟨by decide, by decide, by decide +kernel⟩ (by decide), List.forall_mem_cons.mpr ⟨cl_string (y := y_jStr_charAt) (i := 12) rfl rfl (by decide +kernel) rfl c_jStr_charAt_v505 wm_684 wm_11 wm_2231 wm_682 wm_683 ⟨by decide, by decide, by decide +kernel⟩ (by decide), List.forall_mem_cons.mpr ⟨cl_string (y := y_jStr_charAt) (i := 12) rfl rfl (by decide +kernel) rfl c_jStr_charAt_v509 wm_684 wm_11 wm_2231 wm_682 wm_683 ⟨by decide, by decide, by decide +kernel⟩ (by decide), List.forall_mem_cons.mpr ⟨cl_string (y := y_jStr_charAt) (i := 12) rfl rfl (by decide +kernel) rfl c_jStr_charAt_v513 wm_684 wm_11 wm_2231 wm_682 wm_683 ⟨by decide, by decide, by decide +kernel⟩ (by decide), List.forall_mem_cons.mpr ⟨cl_string (y := y_jStr_charAt) (i := 12) rfl rfl (by decide +kernel) rfl c_jStr_charAt_v517 wm_684 wm_11 wm_2231 wm_682 wm_683 ⟨by decide, by decide, by decide +kernel⟩ (by decide), List.forall_mem_cons.mpr ⟨cl_string (y := y_jStr_charAt) (i := 12) rfl rfl (by decide +kernel) rfl c_jStr_charAt_v521 wm_684 wm_11 wm_2231 wm_682 wm_683 ⟨by decide, by decide, by decide +kernel⟩ (by decide), List.forall_mem_cons.mpr ⟨cl_string (y := y_jStr_charAt) (i := 12) rfl rfl (by decide +kernel) rfl c_jStr_charAt_v525 wm_684 wm_11 wm_2231 wm_682 wm_683 ⟨by decide, by decide, by decide +kernel⟩ (by decide), List.forall_mem_cons.mpr ⟨cl_string (y := y_jStr_charAt) (i := 12) rfl rfl (by decide +kernel) rfl c_jStr_charAt_v529 wm_684 wm_11 wm_2231 wm_682 wm_683 ⟨by decide, by decide, by decide +kernel⟩ (by decide), List.forall_mem_cons.mpr ⟨cl_virtual (y := y_Sy_isWordAt_at_s5012) (ci := 11) rfl rfl ⟨_, _, rfl⟩ (by decide +kernel) h_Sy_isWordAt_at_s5012 wm_2235 wm_23 wm_2232 wm_2234 wv_10_13 ⟨by decide, by decide, by decide +kernel⟩ (by decide), List.forall_mem_nil _⟩⟩⟩⟩⟩⟩⟩⟩⟩⟩⟩⟩⟩⟩⟩⟩⟩⟩⟩, List.forall_mem_nil _, List.forall_mem_nil _, GG_pl⟩ (by decide +kernel)
set_option maxHeartbeats 4000000 in
theorem vc_Mo_write_at_s5013_0_0 (x2 : Int) (x3 : Int) (texts_0 : Int) (k2 : 0 ≤ x2 ∧ x2 ≤ 99999995) (k3 : 0 ≤ x3 ∧ x3 ≤ 0) (f0 : 1 * texts_0 + ((-1) * x2 + 0) ≤ 0) (kz_0_170 : 0 ≤ texts_0 ∧ texts_0 ≤ 100000000) : 1 * texts_0 + ((-1) * x2 + ((-1) * x3 + 0)) ≤ 0 := by
  first | assumption | omega | grind
def o_Mo_write_at_s5013_0 : or_T := (2, 4, [(0, (2, 0, 0, [165])), (2, (0, 0, 99999995, [])), (3, (0, 0, 0, []))], [(20, [0, 2], [30, 0, 1, 1, 170, -1, 0, 0])], [], [], [(20, [0, 2, 3], [30, 0, 1, 1, 170, -1, 0, 0, -1, 0, 0]), (24, [0, 0], [])], [], [])
theorem oo_Mo_write_at_s5013_0 {kA : Nat → ClassId} : or_ok PRD kA GG o_Mo_write_at_s5013_0 := by
  refine or_mk fun A ta ws vs hD hth hl => ?_
  intro t0 r0 t2 k2 t3 k3 f0
  have kz_0_170 := fdq_11 hD hth r0
  have nf0 : fc_1 PRD (20, [0, 2, 3], [30, 0, 1, 1, 170, -1, 0, 0, -1, 0, 0]) ws (vs) := ⟨nf_in hl rfl, sgq_159 (vc_Mo_write_at_s5013_0_0 (v_iv (n_v vs 2)) (v_iv (n_v vs 3)) (w_fi ws (n_v vs 0) 170) k2 k3 (shm_131 f0) kz_0_170)⟩
  have nf1 : fc_1 PRD (24, [0, 0], []) ws (vs) := by
    refine ⟨nf_in hl rfl, sgq_1 ?_⟩
    · show n_v vs 0 = n_v vs 0
      first | rfl | simp only [true_and]
  refine ⟨(fun _ h => (by cases h)), [], trivial, ?_, (fun _ h => (by cases h))⟩
  rw [List.append_nil]
  exact List.forall_mem_cons.mpr ⟨⟨show (20 : Nat) < 100 from by decide, nf0⟩, List.forall_mem_cons.mpr ⟨⟨show (24 : Nat) < 100 from by decide, nf1⟩, (fun _ h => (by cases h))⟩⟩
set_option maxHeartbeats 4000000 in
theorem vc_Mo_write_at_s5013_1_0 (x2 : Int) (x5 : Int) (texts_0 : Int) (k2 : 0 ≤ x2 ∧ x2 ≤ 99999995) (k5 : 5 ≤ x5 ∧ x5 ≤ 5) (f1 : 1 * texts_0 + ((-1) * x2 + ((-1) * x5 + 0)) ≤ 0) (kz_0_170 : 0 ≤ texts_0 ∧ texts_0 ≤ 100000000) : 1 * texts_0 + ((-1) * x2 + 0) ≤ 5 := by
  first | assumption | omega | grind
def o_Mo_write_at_s5013_1 : or_T := (25, 7, [(0, (2, 0, 0, [165])), (2, (0, 0, 99999995, [])), (5, (0, 5, 5, []))], [(20, [3, 2, 5], [30, 0, 1, 1, 170, -1, 0, 0, -1, 0, 0]), (24, [0, 3], [])], [], [], [(20, [0, 2], [30, 5, 1, 1, 170, -1, 0, 0])], [], [])
theorem oo_Mo_write_at_s5013_1 {kA : Nat → ClassId} : or_ok PRD kA GG o_Mo_write_at_s5013_1 := by
  refine or_mk fun A ta ws vs hD hth hl => ?_
  intro t0 r0 t2 k2 t5 k5 f1 f2
  replace f1 := shm_159 f1
  replace f2 := shm_5 f2
  have q3 : n_v vs 3 = n_v vs 0 := f2.symm
  simp only [q3] at f1
  have kz_0_170 := fdq_11 hD hth r0
  have nf0 : fc_1 PRD (20, [0, 2], [30, 5, 1, 1, 170, -1, 0, 0]) ws (vs) := ⟨nf_in hl rfl, sgq_208 (vc_Mo_write_at_s5013_1_0 (v_iv (n_v vs 2)) (v_iv (n_v vs 5)) (w_fi ws (n_v vs 0) 170) k2 k5 f1 kz_0_170)⟩
  refine ⟨(fun _ h => (by cases h)), [], trivial, ?_, (fun _ h => (by cases h))⟩
  rw [List.append_nil]
  exact List.forall_mem_cons.mpr ⟨⟨show (20 : Nat) < 100 from by decide, nf0⟩, (fun _ h => (by cases h))⟩
set_option maxHeartbeats 4000000 in
theorem vc_Mo_write_at_s5013_2_0 (texts_0 : Int) (gx : Int) (kz_0_170 : 0 ≤ texts_0 ∧ texts_0 ≤ 100000000) (ex2 : gx = texts_0) : 1 * texts_0 + ((-1) * gx + 0) ≤ 0 := by
  first | assumption | omega | grind
set_option maxHeartbeats 4000000 in
theorem vc_Mo_write_at_s5013_2_1 (x2 : Int) (x5 : Int) (texts_0 : Int) (gx : Int) (k2 : 0 ≤ x2 ∧ x2 ≤ 99999995) (k5 : 0 ≤ x5 ∧ x5 ≤ 4) (f1 : 1 * texts_0 + ((-1) * x2 + ((-1) * x5 + 0)) ≤ 0) (kz_0_170 : 0 ≤ texts_0 ∧ texts_0 ≤ 100000000) (ex2 : gx = texts_0) : 1 * gx + ((-1) * x2 + ((-1) * x5 + 0)) ≤ 0 := by
  first | assumption | omega | grind
def o_Mo_write_at_s5013_2 : or_T := (16, 8, [(0, (2, 0, 0, [165])), (2, (0, 0, 99999995, [])), (3, (2, 0, 0, [165])), (5, (0, 0, 4, [])), (6, (0, 5, 5, []))], [(7, [5, 6], [2]), (20, [3, 2, 5], [30, 0, 1, 1, 170, -1, 0, 0, -1, 0, 0]), (24, [0, 3], [])], [], [(0, 0, 99999999, [])], [(20, [3, 8], [30, 0, 1, 1, 170, -1, 0, 0]), (23, [8, 2, 5], [0, 1, -1, -1])], [], [])
theorem oo_Mo_write_at_s5013_2 {kA : Nat → ClassId} : or_ok PRD kA GG o_Mo_write_at_s5013_2 := by
  refine or_mk fun A ta ws vs hD hth hl => ?_
  intro t0 r0 t2 k2 t3 r3 t5 k5 t6 k6 f0 f1 f2
  replace f0 := shm_6 f0
  replace f1 := shm_159 f1
  replace f2 := shm_5 f2
  have q3 : n_v vs 3 = n_v vs 0 := f2.symm
  simp only [q3] at f1
  have kz_0_170 := fdq_11 hD hth r0
  have kv0 := fdq_11 hD hth r0
  obtain ⟨x, ex, hx⟩ := iv_ex (ta := ta) (lo := 0) (hi := 99999999) (z := w_fi ws (n_v vs 0) 170) (by omega) (by omega) (by omega) (by omega)
  have ex2 : v_iv (Value.int x) = w_fi ws (n_v vs 0) 170 := ex
  have ex3 : 0 ≤ v_iv (Value.int x) ∧ v_iv (Value.int x) ≤ 99999999 := tv_rng hx
  have e_2 : n_v (vs ++ [Value.int x]) 2 = n_v vs 2 := n_v_old (by rw [hl]; decide)
  have e_3 : n_v (vs ++ [Value.int x]) 3 = n_v vs 3 := n_v_old (by rw [hl]; decide)
  have e_5 : n_v (vs ++ [Value.int x]) 5 = n_v vs 5 := n_v_old (by rw [hl]; decide)
  have e_8 : n_v (vs ++ [Value.int x]) 8 = Value.int x := n_v_new hl
  have nf0 : fc_1 PRD (20, [3, 8], [30, 0, 1, 1, 170, -1, 0, 0]) ws (vs ++ [Value.int x]) := by
    refine ⟨nf_inA hl rfl, sgq_131 ?_⟩
    · show 1 * w_fi ws (n_v (vs ++ [Value.int x]) 3) 170 + ((-1) * v_iv (n_v (vs ++ [Value.int x]) 8) + 0) ≤ 0
      simp only [e_3, e_8, q3]
      exact vc_Mo_write_at_s5013_2_0 (w_fi ws (n_v vs 0) 170) (v_iv (Value.int x)) kz_0_170 ex2
  have nf1 : fc_1 PRD (23, [8, 2, 5], [0, 1, -1, -1]) ws (vs ++ [Value.int x]) := by
    refine ⟨nf_inA hl rfl, sgq_136 ?_⟩
    · show 1 * v_iv (n_v (vs ++ [Value.int x]) 8) + ((-1) * v_iv (n_v (vs ++ [Value.int x]) 2) + ((-1) * v_iv (n_v (vs ++ [Value.int x]) 5) + 0)) ≤ 0
      simp only [e_2, e_5, e_8]
      exact vc_Mo_write_at_s5013_2_1 (v_iv (n_v vs 2)) (v_iv (n_v vs 5)) (w_fi ws (n_v vs 0) 170) (v_iv (Value.int x)) k2 k5 f1 kz_0_170 ex2
  exact ⟨(fun _ h => (by cases h)), [Value.int x], ag_one hx, List.forall_mem_cons.mpr ⟨⟨show (20 : Nat) < 100 from by decide, nf0⟩, List.forall_mem_cons.mpr ⟨⟨show (23 : Nat) < 100 from by decide, nf1⟩, (fun _ h => (by cases h))⟩⟩, (fun _ h => (by cases h))⟩
set_option maxHeartbeats 4000000 in
theorem vc_Mo_write_at_s5013_3_0 (x2 : Int) (x5 : Int) (x8 : Int) (x9 : Int) (texts_0 : Int) (k2 : 0 ≤ x2 ∧ x2 ≤ 99999995) (k5 : 0 ≤ x5 ∧ x5 ≤ 4) (k8 : 0 ≤ x8 ∧ x8 ≤ 99999999) (k9 : 1 ≤ x9 ∧ x9 ≤ 5) (d0 : x5 + 1 ≤ x9 ∧ x9 ≤ x5 + 1) (f1 : 1 * x8 + ((-1) * x2 + ((-1) * x5 + 0)) ≤ 0) (f3 : 1 * texts_0 + ((-1) * x8 + 0) ≤ 1) (kz_0_170 : 0 ≤ texts_0 ∧ texts_0 ≤ 100000000) : 1 * texts_0 + ((-1) * x2 + ((-1) * x9 + 0)) ≤ 0 := by
  first | assumption | omega | grind
def o_Mo_write_at_s5013_3 : or_T := (2, 10, [(0, (2, 0, 0, [165])), (2, (0, 0, 99999995, [])), (5, (0, 0, 4, [])), (8, (0, 0, 99999999, [])), (9, (0, 1, 5, []))], [(23, [8, 2, 5], [0, 1, -1, -1]), (24, [0, 3], []), (20, [3, 8], [30, 1, 1, 1, 170, -1, 0, 0])], [], [], [(20, [3, 2, 9], [30, 0, 1, 1, 170, -1, 0, 0, -1, 0, 0])], [], [(9, 5, 1, 1)])
theorem oo_Mo_write_at_s5013_3 {kA : Nat → ClassId} : or_ok PRD kA GG o_Mo_write_at_s5013_3 := by
  refine or_mk fun A ta ws vs hD hth hl => ?_
  intro t0 r0 t2 k2 t5 k5 t8 k8 t9 k9 d0 f1 f2 f3
  replace f1 := shm_136 f1
  replace f2 := shm_5 f2
  replace f3 := shm_132 f3
  have q3 : n_v vs 3 = n_v vs 0 := f2.symm
  simp only [q3] at f3
  have kz_0_170 := fdq_11 hD hth r0
  have nf0 : fc_1 PRD (20, [3, 2, 9], [30, 0, 1, 1, 170, -1, 0, 0, -1, 0, 0]) ws (vs) := by
    refine ⟨nf_in hl rfl, sgq_159 ?_⟩
    · show 1 * w_fi ws (n_v vs 3) 170 + ((-1) * v_iv (n_v vs 2) + ((-1) * v_iv (n_v vs 9) + 0)) ≤ 0
      rw [q3]
      exact vc_Mo_write_at_s5013_3_0 (v_iv (n_v vs 2)) (v_iv (n_v vs 5)) (v_iv (n_v vs 8)) (v_iv (n_v vs 9)) (w_fi ws (n_v vs 0) 170) k2 k5 k8 k9 d0 f1 f3 kz_0_170
  refine ⟨(fun _ h => (by cases h)), [], trivial, ?_, (fun _ h => (by cases h))⟩
  rw [List.append_nil]
  exact List.forall_mem_cons.mpr ⟨⟨show (20 : Nat) < 100 from by decide, nf0⟩, (fun _ h => (by cases h))⟩
def n_Mo_write_at_s5013_an : List an_T := [(2, [(0, (2, 0, 0, [165])), (1, (2, 0, 0, [5013])), (2, (0, 0, 5, []))], [], (0, 0), [(0, 0, 99998), (1, 5, 5), (0, 0, 100000)], [], [], [(2, 0, 0, [165]), (2, 0, 0, [5013]), (0, 0, 99999995, [])], 0, [], [(20, [3, 2, 5], [30, 0, 1, 1, 170, (Int.negSucc 0), 0, 0, (Int.negSucc 0), 0, 0]), (24, [0, 3], [])])]
def t_Mo_write_at_s5013_ct : ct_L := [(16, 448, e_jStr_length_v361), (43, 453, e_jStr_charAt_v362), (52, 1280, e_Mo_write1)]
set_option maxRecDepth 100000 in
theorem c_Mo_write_at_s5013 {l : Launch} {D : va_G} {kA : Nat → ClassId} (h_Mo_write1 : ct_ok PRD l D kA GG y_Mo_write1 z_Mo_write1 e_Mo_write1) : ct_ok PRD l D kA GG y_Mo_write_at_s5013 z_Mo_write_at_s5013 e_Mo_write_at_s5013 := chk_all_ok (FT := []) (PT := []) (CT := t_Mo_write_at_s5013_ct) (KT := []) (NT := []) (AN := n_Mo_write_at_s5013_an) (OT := [o_Mo_write_at_s5013_0, o_Mo_write_at_s5013_1, o_Mo_write_at_s5013_2, o_Mo_write_at_s5013_3]) 3 200 (List.forall_mem_cons.mpr ⟨oo_Mo_write_at_s5013_0, List.forall_mem_cons.mpr ⟨oo_Mo_write_at_s5013_1, List.forall_mem_cons.mpr ⟨oo_Mo_write_at_s5013_2, List.forall_mem_cons.mpr ⟨oo_Mo_write_at_s5013_3, List.forall_mem_nil _⟩⟩⟩⟩) (by decide +kernel) ⟨List.forall_mem_nil _, List.forall_mem_nil _, List.forall_mem_cons.mpr ⟨cl_string (y := y_jStr_length) (i := 13) rfl rfl (by decide +kernel) rfl c_jStr_length_v361 wm_674 wm_11 wm_3003 wm_672 wm_673 ⟨by decide, by decide, by decide +kernel⟩ (by decide), List.forall_mem_cons.mpr ⟨cl_string (y := y_jStr_charAt) (i := 13) rfl rfl (by decide +kernel) rfl c_jStr_charAt_v362 wm_684 wm_11 wm_3004 wm_682 wm_683 ⟨by decide, by decide, by decide +kernel⟩ (by decide), List.forall_mem_cons.mpr ⟨cl_virtual (y := y_Mo_write1) (ci := 13) rfl rfl ⟨_, _, rfl⟩ (by decide +kernel) h_Mo_write1 wm_3914 wm_9 wm_3911 wm_3913 wv_24_8 ⟨by decide, by decide, by decide +kernel⟩ (by decide), List.forall_mem_nil _⟩⟩⟩, List.forall_mem_nil _, List.forall_mem_nil _, GG_pl⟩ (by decide +kernel)
set_option maxHeartbeats 4000000 in
theorem vc_Mo_write_at_s5014_0_0 (x2 : Int) (x3 : Int) (texts_0 : Int) (k2 : 0 ≤ x2 ∧ x2 ≤ 99999993) (k3 : 0 ≤ x3 ∧ x3 ≤ 0) (f0 : 1 * texts_0 + ((-1) * x2 + 0) ≤ 0) (kz_0_170 : 0 ≤ texts_0 ∧ texts_0 ≤ 100000000) : 1 * texts_0 + ((-1) * x2 + ((-1) * x3 + 0)) ≤ 0 := by
  first | assumption | omega | grind
def o_Mo_write_at_s5014_0 : or_T := (2, 4, [(0, (2, 0, 0, [165])), (2, (0, 0, 99999993, [])), (3, (0, 0, 0, []))], [(20, [0, 2], [30, 0, 1, 1, 170, -1, 0, 0])], [], [], [(20, [0, 2, 3], [30, 0, 1, 1, 170, -1, 0, 0, -1, 0, 0]), (24, [0, 0], [])], [], [])
theorem oo_Mo_write_at_s5014_0 {kA : Nat → ClassId} : or_ok PRD kA GG o_Mo_write_at_s5014_0 := by
  refine or_mk fun A ta ws vs hD hth hl => ?_
  intro t0 r0 t2 k2 t3 k3 f0
  have kz_0_170 := fdq_11 hD hth r0
  have nf0 : fc_1 PRD (20, [0, 2, 3], [30, 0, 1, 1, 170, -1, 0, 0, -1, 0, 0]) ws (vs) := ⟨nf_in hl rfl, sgq_159 (vc_Mo_write_at_s5014_0_0 (v_iv (n_v vs 2)) (v_iv (n_v vs 3)) (w_fi ws (n_v vs 0) 170) k2 k3 (shm_131 f0) kz_0_170)⟩
  have nf1 : fc_1 PRD (24, [0, 0], []) ws (vs) := by
    refine ⟨nf_in hl rfl, sgq_1 ?_⟩
    · show n_v vs 0 = n_v vs 0
      first | rfl | simp only [true_and]
  refine ⟨(fun _ h => (by cases h)), [], trivial, ?_, (fun _ h => (by cases h))⟩
  rw [List.append_nil]
  exact List.forall_mem_cons.mpr ⟨⟨show (20 : Nat) < 100 from by decide, nf0⟩, List.forall_mem_cons.mpr ⟨⟨show (24 : Nat) < 100 from by decide, nf1⟩, (fun _ h => (by cases h))⟩⟩
set_option maxHeartbeats 4000000 in
theorem vc_Mo_write_at_s5014_1_0 (x2 : Int) (x5 : Int) (texts_0 : Int) (k2 : 0 ≤ x2 ∧ x2 ≤ 99999993) (k5 : 7 ≤ x5 ∧ x5 ≤ 7) (f1 : 1 * texts_0 + ((-1) * x2 + ((-1) * x5 + 0)) ≤ 0) (kz_0_170 : 0 ≤ texts_0 ∧ texts_0 ≤ 100000000) : 1 * texts_0 + ((-1) * x2 + 0) ≤ 7 := by
  first | assumption | omega | grind
def o_Mo_write_at_s5014_1 : or_T := (25, 7, [(0, (2, 0, 0, [165])), (2, (0, 0, 99999993, [])), (5, (0, 7, 7, []))], [(20, [3, 2, 5], [30, 0, 1, 1, 170, -1, 0, 0, -1, 0, 0]), (24, [0, 3], [])], [], [], [(20, [0, 2], [30, 7, 1, 1, 170, -1, 0, 0])], [], [])
theorem oo_Mo_write_at_s5014_1 {kA : Nat → ClassId} : or_ok PRD kA GG o_Mo_write_at_s5014_1 := by
  refine or_mk fun A ta ws vs hD hth hl => ?_
  intro t0 r0 t2 k2 t5 k5 f1 f2
  replace f1 := shm_159 f1
  replace f2 := shm_5 f2
  have q3 : n_v vs 3 = n_v vs 0 := f2.symm
  simp only [q3] at f1
  have kz_0_170 := fdq_11 hD hth r0
  have nf0 : fc_1 PRD (20, [0, 2], [30, 7, 1, 1, 170, -1, 0, 0]) ws (vs) := ⟨nf_in hl rfl, sgq_209 (vc_Mo_write_at_s5014_1_0 (v_iv (n_v vs 2)) (v_iv (n_v vs 5)) (w_fi ws (n_v vs 0) 170) k2 k5 f1 kz_0_170)⟩
  refine ⟨(fun _ h => (by cases h)), [], trivial, ?_, (fun _ h => (by cases h))⟩
  rw [List.append_nil]
  exact List.forall_mem_cons.mpr ⟨⟨show (20 : Nat) < 100 from by decide, nf0⟩, (fun _ h => (by cases h))⟩
set_option maxHeartbeats 4000000 in
theorem vc_Mo_write_at_s5014_2_0 (texts_0 : Int) (gx : Int) (kz_0_170 : 0 ≤ texts_0 ∧ texts_0 ≤ 100000000) (ex2 : gx = texts_0) : 1 * texts_0 + ((-1) * gx + 0) ≤ 0 := by
  first | assumption | omega | grind
set_option maxHeartbeats 4000000 in
theorem vc_Mo_write_at_s5014_2_1 (x2 : Int) (x5 : Int) (texts_0 : Int) (gx : Int) (k2 : 0 ≤ x2 ∧ x2 ≤ 99999993) (k5 : 0 ≤ x5 ∧ x5 ≤ 6) (f1 : 1 * texts_0 + ((-1) * x2 + ((-1) * x5 + 0)) ≤ 0) (kz_0_170 : 0 ≤ texts_0 ∧ texts_0 ≤ 100000000) (ex2 : gx = texts_0) : 1 * gx + ((-1) * x2 + ((-1) * x5 + 0)) ≤ 0 := by
  first | assumption | omega | grind
def o_Mo_write_at_s5014_2 : or_T := (16, 8, [(0, (2, 0, 0, [165])), (2, (0, 0, 99999993, [])), (3, (2, 0, 0, [165])), (5, (0, 0, 6, [])), (6, (0, 7, 7, []))], [(7, [5, 6], [2]), (20, [3, 2, 5], [30, 0, 1, 1, 170, -1, 0, 0, -1, 0, 0]), (24, [0, 3], [])], [], [(0, 0, 99999999, [])], [(20, [3, 8], [30, 0, 1, 1, 170, -1, 0, 0]), (23, [8, 2, 5], [0, 1, -1, -1])], [], [])
theorem oo_Mo_write_at_s5014_2 {kA : Nat → ClassId} : or_ok PRD kA GG o_Mo_write_at_s5014_2 := by
  refine or_mk fun A ta ws vs hD hth hl => ?_
  intro t0 r0 t2 k2 t3 r3 t5 k5 t6 k6 f0 f1 f2
  replace f0 := shm_6 f0
  replace f1 := shm_159 f1
  replace f2 := shm_5 f2
  have q3 : n_v vs 3 = n_v vs 0 := f2.symm
  simp only [q3] at f1
  have kz_0_170 := fdq_11 hD hth r0
  have kv0 := fdq_11 hD hth r0
  obtain ⟨x, ex, hx⟩ := iv_ex (ta := ta) (lo := 0) (hi := 99999999) (z := w_fi ws (n_v vs 0) 170) (by omega) (by omega) (by omega) (by omega)
  have ex2 : v_iv (Value.int x) = w_fi ws (n_v vs 0) 170 := ex
  have ex3 : 0 ≤ v_iv (Value.int x) ∧ v_iv (Value.int x) ≤ 99999999 := tv_rng hx
  have e_2 : n_v (vs ++ [Value.int x]) 2 = n_v vs 2 := n_v_old (by rw [hl]; decide)
  have e_3 : n_v (vs ++ [Value.int x]) 3 = n_v vs 3 := n_v_old (by rw [hl]; decide)
  have e_5 : n_v (vs ++ [Value.int x]) 5 = n_v vs 5 := n_v_old (by rw [hl]; decide)
  have e_8 : n_v (vs ++ [Value.int x]) 8 = Value.int x := n_v_new hl
  have nf0 : fc_1 PRD (20, [3, 8], [30, 0, 1, 1, 170, -1, 0, 0]) ws (vs ++ [Value.int x]) := by
    refine ⟨nf_inA hl rfl, sgq_131 ?_⟩
    · show 1 * w_fi ws (n_v (vs ++ [Value.int x]) 3) 170 + ((-1) * v_iv (n_v (vs ++ [Value.int x]) 8) + 0) ≤ 0
      simp only [e_3, e_8, q3]
      exact vc_Mo_write_at_s5014_2_0 (w_fi ws (n_v vs 0) 170) (v_iv (Value.int x)) kz_0_170 ex2
  have nf1 : fc_1 PRD (23, [8, 2, 5], [0, 1, -1, -1]) ws (vs ++ [Value.int x]) := by
    refine ⟨nf_inA hl rfl, sgq_136 ?_⟩
    · show 1 * v_iv (n_v (vs ++ [Value.int x]) 8) + ((-1) * v_iv (n_v (vs ++ [Value.int x]) 2) + ((-1) * v_iv (n_v (vs ++ [Value.int x]) 5) + 0)) ≤ 0
      simp only [e_2, e_5, e_8]
      exact vc_Mo_write_at_s5014_2_1 (v_iv (n_v vs 2)) (v_iv (n_v vs 5)) (w_fi ws (n_v vs 0) 170) (v_iv (Value.int x)) k2 k5 f1 kz_0_170 ex2
  exact ⟨(fun _ h => (by cases h)), [Value.int x], ag_one hx, List.forall_mem_cons.mpr ⟨⟨show (20 : Nat) < 100 from by decide, nf0⟩, List.forall_mem_cons.mpr ⟨⟨show (23 : Nat) < 100 from by decide, nf1⟩, (fun _ h => (by cases h))⟩⟩, (fun _ h => (by cases h))⟩
set_option maxHeartbeats 4000000 in
theorem vc_Mo_write_at_s5014_3_0 (x2 : Int) (x5 : Int) (x8 : Int) (x9 : Int) (texts_0 : Int) (k2 : 0 ≤ x2 ∧ x2 ≤ 99999993) (k5 : 0 ≤ x5 ∧ x5 ≤ 6) (k8 : 0 ≤ x8 ∧ x8 ≤ 99999999) (k9 : 1 ≤ x9 ∧ x9 ≤ 7) (d0 : x5 + 1 ≤ x9 ∧ x9 ≤ x5 + 1) (f1 : 1 * x8 + ((-1) * x2 + ((-1) * x5 + 0)) ≤ 0) (f3 : 1 * texts_0 + ((-1) * x8 + 0) ≤ 1) (kz_0_170 : 0 ≤ texts_0 ∧ texts_0 ≤ 100000000) : 1 * texts_0 + ((-1) * x2 + ((-1) * x9 + 0)) ≤ 0 := by
  first | assumption | omega | grind
def o_Mo_write_at_s5014_3 : or_T := (2, 10, [(0, (2, 0, 0, [165])), (2, (0, 0, 99999993, [])), (5, (0, 0, 6, [])), (8, (0, 0, 99999999, [])), (9, (0, 1, 7, []))], [(23, [8, 2, 5], [0, 1, -1, -1]), (24, [0, 3], []), (20, [3, 8], [30, 1, 1, 1, 170, -1, 0, 0])], [], [], [(20, [3, 2, 9], [30, 0, 1, 1, 170, -1, 0, 0, -1, 0, 0])], [], [(9, 5, 1, 1)])
theorem oo_Mo_write_at_s5014_3 {kA : Nat → ClassId} : or_ok PRD kA GG o_Mo_write_at_s5014_3 := by
  refine or_mk fun A ta ws vs hD hth hl => ?_
  intro t0 r0 t2 k2 t5 k5 t8 k8 t9 k9 d0 f1 f2 f3
  replace f1 := shm_136 f1
  replace f2 := shm_5 f2
  replace f3 := shm_132 f3
  have q3 : n_v vs 3 = n_v vs 0 := f2.symm
  simp only [q3] at f3
  have kz_0_170 := fdq_11 hD hth r0
  have nf0 : fc_1 PRD (20, [3, 2, 9], [30, 0, 1, 1, 170, -1, 0, 0, -1, 0, 0]) ws (vs) := by
    refine ⟨nf_in hl rfl, sgq_159 ?_⟩
    · show 1 * w_fi ws (n_v vs 3) 170 + ((-1) * v_iv (n_v vs 2) + ((-1) * v_iv (n_v vs 9) + 0)) ≤ 0
      rw [q3]
      exact vc_Mo_write_at_s5014_3_0 (v_iv (n_v vs 2)) (v_iv (n_v vs 5)) (v_iv (n_v vs 8)) (v_iv (n_v vs 9)) (w_fi ws (n_v vs 0) 170) k2 k5 k8 k9 d0 f1 f3 kz_0_170
  refine ⟨(fun _ h => (by cases h)), [], trivial, ?_, (fun _ h => (by cases h))⟩
  rw [List.append_nil]
  exact List.forall_mem_cons.mpr ⟨⟨show (20 : Nat) < 100 from by decide, nf0⟩, (fun _ h => (by cases h))⟩
def n_Mo_write_at_s5014_an : List an_T := [(2, [(0, (2, 0, 0, [165])), (1, (2, 0, 0, [5014])), (2, (0, 0, 7, []))], [], (0, 0), [(0, 0, 99998), (1, 5, 7), (0, 0, 100000)], [], [], [(2, 0, 0, [165]), (2, 0, 0, [5014]), (0, 0, 99999993, [])], 0, [], [(20, [3, 2, 5], [30, 0, 1, 1, 170, (Int.negSucc 0), 0, 0, (Int.negSucc 0), 0, 0]), (24, [0, 3], [])])]
def t_Mo_write_at_s5014_ct : ct_L := [(16, 448, e_jStr_length_v366), (43, 453, e_jStr_charAt_v367), (52, 1280, e_Mo_write1)]
set_option maxRecDepth 100000 in
theorem c_Mo_write_at_s5014 {l : Launch} {D : va_G} {kA : Nat → ClassId} (h_Mo_write1 : ct_ok PRD l D kA GG y_Mo_write1 z_Mo_write1 e_Mo_write1) : ct_ok PRD l D kA GG y_Mo_write_at_s5014 z_Mo_write_at_s5014 e_Mo_write_at_s5014 := chk_all_ok (FT := []) (PT := []) (CT := t_Mo_write_at_s5014_ct) (KT := []) (NT := []) (AN := n_Mo_write_at_s5014_an) (OT := [o_Mo_write_at_s5014_0, o_Mo_write_at_s5014_1, o_Mo_write_at_s5014_2, o_Mo_write_at_s5014_3]) 3 200 (List.forall_mem_cons.mpr ⟨oo_Mo_write_at_s5014_0, List.forall_mem_cons.mpr ⟨oo_Mo_write_at_s5014_1, List.forall_mem_cons.mpr ⟨oo_Mo_write_at_s5014_2, List.forall_mem_cons.mpr ⟨oo_Mo_write_at_s5014_3, List.forall_mem_nil _⟩⟩⟩⟩) (by decide +kernel) ⟨List.forall_mem_nil _, List.forall_mem_nil _, List.forall_mem_cons.mpr ⟨cl_string (y := y_jStr_length) (i := 14) rfl rfl (by decide +kernel) rfl c_jStr_length_v366 wm_674 wm_11 wm_3003 wm_672 wm_673 ⟨by decide, by decide, by decide +kernel⟩ (by decide), List.forall_mem_cons.mpr ⟨cl_string (y := y_jStr_charAt) (i := 14) rfl rfl (by decide +kernel) rfl c_jStr_charAt_v367 wm_684 wm_11 wm_3004 wm_682 wm_683 ⟨by decide, by decide, by decide +kernel⟩ (by decide), List.forall_mem_cons.mpr ⟨cl_virtual (y := y_Mo_write1) (ci := 13) rfl rfl ⟨_, _, rfl⟩ (by decide +kernel) h_Mo_write1 wm_3914 wm_9 wm_3911 wm_3913 wv_24_8 ⟨by decide, by decide, by decide +kernel⟩ (by decide), List.forall_mem_nil _⟩⟩⟩, List.forall_mem_nil _, List.forall_mem_nil _, GG_pl⟩ (by decide +kernel)
set_option maxHeartbeats 4000000 in
theorem vc_Mo_write_at_s5015_0_0 (x2 : Int) (x3 : Int) (texts_0 : Int) (k2 : 0 ≤ x2 ∧ x2 ≤ 99999998) (k3 : 0 ≤ x3 ∧ x3 ≤ 0) (f0 : 1 * texts_0 + ((-1) * x2 + 0) ≤ 0) (kz_0_170 : 0 ≤ texts_0 ∧ texts_0 ≤ 100000000) : 1 * texts_0 + ((-1) * x2 + ((-1) * x3 + 0)) ≤ 0 := by
  first | assumption | omega | grind
def o_Mo_write_at_s5015_0 : or_T := (2, 4, [(0, (2, 0, 0, [165])), (2, (0, 0, 99999998, [])), (3, (0, 0, 0, []))], [(20, [0, 2], [30, 0, 1, 1, 170, -1, 0, 0])], [], [], [(20, [0, 2, 3], [30, 0, 1, 1, 170, -1, 0, 0, -1, 0, 0]), (24, [0, 0], [])], [], [])
theorem oo_Mo_write_at_s5015_0 {kA : Nat → ClassId} : or_ok PRD kA GG o_Mo_write_at_s5015_0 := by
  refine or_mk fun A ta ws vs hD hth hl => ?_
  intro t0 r0 t2 k2 t3 k3 f0
  have kz_0_170 := fdq_11 hD hth r0
  have nf0 : fc_1 PRD (20, [0, 2, 3], [30, 0, 1, 1, 170, -1, 0, 0, -1, 0, 0]) ws (vs) := ⟨nf_in hl rfl, sgq_159 (vc_Mo_write_at_s5015_0_0 (v_iv (n_v vs 2)) (v_iv (n_v vs 3)) (w_fi ws (n_v vs 0) 170) k2 k3 (shm_131 f0) kz_0_170)⟩
  have nf1 : fc_1 PRD (24, [0, 0], []) ws (vs) := by
    refine ⟨nf_in hl rfl, sgq_1 ?_⟩
    · show n_v vs 0 = n_v vs 0
      first | rfl | simp only [true_and]
  refine ⟨(fun _ h => (by cases h)), [], trivial, ?_, (fun _ h => (by cases h))⟩
  rw [List.append_nil]
  exact List.forall_mem_cons.mpr ⟨⟨show (20 : Nat) < 100 from by decide, nf0⟩, List.forall_mem_cons.mpr ⟨⟨show (24 : Nat) < 100 from by decide, nf1⟩, (fun _ h => (by cases h))⟩⟩
set_option maxHeartbeats 4000000 in
theorem vc_Mo_write_at_s5015_1_0 (x2 : Int) (x5 : Int) (texts_0 : Int) (k2 : 0 ≤ x2 ∧ x2 ≤ 99999998) (k5 : 2 ≤ x5 ∧ x5 ≤ 2) (f1 : 1 * texts_0 + ((-1) * x2 + ((-1) * x5 + 0)) ≤ 0) (kz_0_170 : 0 ≤ texts_0 ∧ texts_0 ≤ 100000000) : 1 * texts_0 + ((-1) * x2 + 0) ≤ 2 := by
  first | assumption | omega | grind
def o_Mo_write_at_s5015_1 : or_T := (25, 7, [(0, (2, 0, 0, [165])), (2, (0, 0, 99999998, [])), (5, (0, 2, 2, []))], [(20, [3, 2, 5], [30, 0, 1, 1, 170, -1, 0, 0, -1, 0, 0]), (24, [0, 3], [])], [], [], [(20, [0, 2], [30, 2, 1, 1, 170, -1, 0, 0])], [], [])
theorem oo_Mo_write_at_s5015_1 {kA : Nat → ClassId} : or_ok PRD kA GG o_Mo_write_at_s5015_1 := by
  refine or_mk fun A ta ws vs hD hth hl => ?_
  intro t0 r0 t2 k2 t5 k5 f1 f2
  replace f1 := shm_159 f1
  replace f2 := shm_5 f2
  have q3 : n_v vs 3 = n_v vs 0 := f2.symm
  simp only [q3] at f1
  have kz_0_170 := fdq_11 hD hth r0
  have nf0 : fc_1 PRD (20, [0, 2], [30, 2, 1, 1, 170, -1, 0, 0]) ws (vs) := ⟨nf_in hl rfl, sgq_210 (vc_Mo_write_at_s5015_1_0 (v_iv (n_v vs 2)) (v_iv (n_v vs 5)) (w_fi ws (n_v vs 0) 170) k2 k5 f1 kz_0_170)⟩
  refine ⟨(fun _ h => (by cases h)), [], trivial, ?_, (fun _ h => (by cases h))⟩
  rw [List.append_nil]
  exact List.forall_mem_cons.mpr ⟨⟨show (20 : Nat) < 100 from by decide, nf0⟩, (fun _ h => (by cases h))⟩
set_option maxHeartbeats 4000000 in
theorem vc_Mo_write_at_s5015_2_0 (texts_0 : Int) (gx : Int) (kz_0_170 : 0 ≤ texts_0 ∧ texts_0 ≤ 100000000) (ex2 : gx = texts_0) : 1 * texts_0 + ((-1) * gx + 0) ≤ 0 := by
  first | assumption | omega | grind
set_option maxHeartbeats 4000000 in
theorem vc_Mo_write_at_s5015_2_1 (x2 : Int) (x5 : Int) (texts_0 : Int) (gx : Int) (k2 : 0 ≤ x2 ∧ x2 ≤ 99999998) (k5 : 0 ≤ x5 ∧ x5 ≤ 1) (f1 : 1 * texts_0 + ((-1) * x2 + ((-1) * x5 + 0)) ≤ 0) (kz_0_170 : 0 ≤ texts_0 ∧ texts_0 ≤ 100000000) (ex2 : gx = texts_0) : 1 * gx + ((-1) * x2 + ((-1) * x5 + 0)) ≤ 0 := by
  first | assumption | omega | grind
def o_Mo_write_at_s5015_2 : or_T := (16, 8, [(0, (2, 0, 0, [165])), (2, (0, 0, 99999998, [])), (3, (2, 0, 0, [165])), (5, (0, 0, 1, [])), (6, (0, 2, 2, []))], [(7, [5, 6], [2]), (20, [3, 2, 5], [30, 0, 1, 1, 170, -1, 0, 0, -1, 0, 0]), (24, [0, 3], [])], [], [(0, 0, 99999999, [])], [(20, [3, 8], [30, 0, 1, 1, 170, -1, 0, 0]), (23, [8, 2, 5], [0, 1, -1, -1])], [], [])
theorem oo_Mo_write_at_s5015_2 {kA : Nat → ClassId} : or_ok PRD kA GG o_Mo_write_at_s5015_2 := by
  refine or_mk fun A ta ws vs hD hth hl => ?_
  intro t0 r0 t2 k2 t3 r3 t5 k5 t6 k6 f0 f1 f2
  replace f0 := shm_6 f0
  replace f1 := shm_159 f1
  replace f2 := shm_5 f2
  have q3 : n_v vs 3 = n_v vs 0 := f2.symm
  simp only [q3] at f1
  have kz_0_170 := fdq_11 hD hth r0
  have kv0 := fdq_11 hD hth r0
  obtain ⟨x, ex, hx⟩ := iv_ex (ta := ta) (lo := 0) (hi := 99999999) (z := w_fi ws (n_v vs 0) 170) (by omega) (by omega) (by omega) (by omega)
  have ex2 : v_iv (Value.int x) = w_fi ws (n_v vs 0) 170 := ex
  have ex3 : 0 ≤ v_iv (Value.int x) ∧ v_iv (Value.int x) ≤ 99999999 := tv_rng hx
  have e_2 : n_v (vs ++ [Value.int x]) 2 = n_v vs 2 := n_v_old (by rw [hl]; decide)
  have e_3 : n_v (vs ++ [Value.int x]) 3 = n_v vs 3 := n_v_old (by rw [hl]; decide)
  have e_5 : n_v (vs ++ [Value.int x]) 5 = n_v vs 5 := n_v_old (by rw [hl]; decide)
  have e_8 : n_v (vs ++ [Value.int x]) 8 = Value.int x := n_v_new hl
  have nf0 : fc_1 PRD (20, [3, 8], [30, 0, 1, 1, 170, -1, 0, 0]) ws (vs ++ [Value.int x]) := by
    refine ⟨nf_inA hl rfl, sgq_131 ?_⟩
    · show 1 * w_fi ws (n_v (vs ++ [Value.int x]) 3) 170 + ((-1) * v_iv (n_v (vs ++ [Value.int x]) 8) + 0) ≤ 0
      simp only [e_3, e_8, q3]
      exact vc_Mo_write_at_s5015_2_0 (w_fi ws (n_v vs 0) 170) (v_iv (Value.int x)) kz_0_170 ex2
  have nf1 : fc_1 PRD (23, [8, 2, 5], [0, 1, -1, -1]) ws (vs ++ [Value.int x]) := by
    refine ⟨nf_inA hl rfl, sgq_136 ?_⟩
    · show 1 * v_iv (n_v (vs ++ [Value.int x]) 8) + ((-1) * v_iv (n_v (vs ++ [Value.int x]) 2) + ((-1) * v_iv (n_v (vs ++ [Value.int x]) 5) + 0)) ≤ 0
      simp only [e_2, e_5, e_8]
      exact vc_Mo_write_at_s5015_2_1 (v_iv (n_v vs 2)) (v_iv (n_v vs 5)) (w_fi ws (n_v vs 0) 170) (v_iv (Value.int x)) k2 k5 f1 kz_0_170 ex2
  exact ⟨(fun _ h => (by cases h)), [Value.int x], ag_one hx, List.forall_mem_cons.mpr ⟨⟨show (20 : Nat) < 100 from by decide, nf0⟩, List.forall_mem_cons.mpr ⟨⟨show (23 : Nat) < 100 from by decide, nf1⟩, (fun _ h => (by cases h))⟩⟩, (fun _ h => (by cases h))⟩
set_option maxHeartbeats 4000000 in
theorem vc_Mo_write_at_s5015_3_0 (x2 : Int) (x5 : Int) (x8 : Int) (x9 : Int) (texts_0 : Int) (k2 : 0 ≤ x2 ∧ x2 ≤ 99999998) (k5 : 0 ≤ x5 ∧ x5 ≤ 1) (k8 : 0 ≤ x8 ∧ x8 ≤ 99999999) (k9 : 1 ≤ x9 ∧ x9 ≤ 2) (d0 : x5 + 1 ≤ x9 ∧ x9 ≤ x5 + 1) (f1 : 1 * x8 + ((-1) * x2 + ((-1) * x5 + 0)) ≤ 0) (f3 : 1 * texts_0 + ((-1) * x8 + 0) ≤ 1) (kz_0_170 : 0 ≤ texts_0 ∧ texts_0 ≤ 100000000) : 1 * texts_0 + ((-1) * x2 + ((-1) * x9 + 0)) ≤ 0 := by
  first | assumption | omega | grind
def o_Mo_write_at_s5015_3 : or_T := (2, 10, [(0, (2, 0, 0, [165])), (2, (0, 0, 99999998, [])), (5, (0, 0, 1, [])), (8, (0, 0, 99999999, [])), (9, (0, 1, 2, []))], [(23, [8, 2, 5], [0, 1, -1, -1]), (24, [0, 3], []), (20, [3, 8], [30, 1, 1, 1, 170, -1, 0, 0])], [], [], [(20, [3, 2, 9], [30, 0, 1, 1, 170, -1, 0, 0, -1, 0, 0])], [], [(9, 5, 1, 1)])
theorem oo_Mo_write_at_s5015_3 {kA : Nat → ClassId} : or_ok PRD kA GG o_Mo_write_at_s5015_3 := by
  refine or_mk fun A ta ws vs hD hth hl => ?_
  intro t0 r0 t2 k2 t5 k5 t8 k8 t9 k9 d0 f1 f2 f3
  replace f1 := shm_136 f1
  replace f2 := shm_5 f2
  replace f3 := shm_132 f3
  have q3 : n_v vs 3 = n_v vs 0 := f2.symm
  simp only [q3] at f3
  have kz_0_170 := fdq_11 hD hth r0
  have nf0 : fc_1 PRD (20, [3, 2, 9], [30, 0, 1, 1, 170, -1, 0, 0, -1, 0, 0]) ws (vs) := by
    refine ⟨nf_in hl rfl, sgq_159 ?_⟩
    · show 1 * w_fi ws (n_v vs 3) 170 + ((-1) * v_iv (n_v vs 2) + ((-1) * v_iv (n_v vs 9) + 0)) ≤ 0
      rw [q3]
      exact vc_Mo_write_at_s5015_3_0 (v_iv (n_v vs 2)) (v_iv (n_v vs 5)) (v_iv (n_v vs 8)) (v_iv (n_v vs 9)) (w_fi ws (n_v vs 0) 170) k2 k5 k8 k9 d0 f1 f3 kz_0_170
  refine ⟨(fun _ h => (by cases h)), [], trivial, ?_, (fun _ h => (by cases h))⟩
  rw [List.append_nil]
  exact List.forall_mem_cons.mpr ⟨⟨show (20 : Nat) < 100 from by decide, nf0⟩, (fun _ h => (by cases h))⟩
def n_Mo_write_at_s5015_an : List an_T := [(2, [(0, (2, 0, 0, [165])), (1, (2, 0, 0, [5015])), (2, (0, 0, 2, []))], [], (0, 0), [(0, 0, 99998), (1, 5, 2), (0, 0, 100000)], [], [], [(2, 0, 0, [165]), (2, 0, 0, [5015]), (0, 0, 99999998, [])], 0, [], [(20, [3, 2, 5], [30, 0, 1, 1, 170, (Int.negSucc 0), 0, 0, (Int.negSucc 0), 0, 0]), (24, [0, 3], [])])]
def t_Mo_write_at_s5015_ct : ct_L := [(16, 448, e_jStr_length_v371), (43, 453, e_jStr_charAt_v372), (52, 1280, e_Mo_write1)]
set_option maxRecDepth 100000 in
theorem c_Mo_write_at_s5015 {l : Launch} {D : va_G} {kA : Nat → ClassId} (h_Mo_write1 : ct_ok PRD l D kA GG y_Mo_write1 z_Mo_write1 e_Mo_write1) : ct_ok PRD l D kA GG y_Mo_write_at_s5015 z_Mo_write_at_s5015 e_Mo_write_at_s5015 := chk_all_ok (FT := []) (PT := []) (CT := t_Mo_write_at_s5015_ct) (KT := []) (NT := []) (AN := n_Mo_write_at_s5015_an) (OT := [o_Mo_write_at_s5015_0, o_Mo_write_at_s5015_1, o_Mo_write_at_s5015_2, o_Mo_write_at_s5015_3]) 3 200 (List.forall_mem_cons.mpr ⟨oo_Mo_write_at_s5015_0, List.forall_mem_cons.mpr ⟨oo_Mo_write_at_s5015_1, List.forall_mem_cons.mpr ⟨oo_Mo_write_at_s5015_2, List.forall_mem_cons.mpr ⟨oo_Mo_write_at_s5015_3, List.forall_mem_nil _⟩⟩⟩⟩) (by decide +kernel) ⟨List.forall_mem_nil _, List.forall_mem_nil _, List.forall_mem_cons.mpr ⟨cl_string (y := y_jStr_length) (i := 15) rfl rfl (by decide +kernel) rfl c_jStr_length_v371 wm_674 wm_11 wm_3003 wm_672 wm_673 ⟨by decide, by decide, by decide +kernel⟩ (by decide), List.forall_mem_cons.mpr ⟨cl_string (y := y_jStr_charAt) (i := 15) rfl rfl (by decide +kernel) rfl c_jStr_charAt_v372 wm_684 wm_11 wm_3004 wm_682 wm_683 ⟨by decide, by decide, by decide +kernel⟩ (by decide), List.forall_mem_cons.mpr ⟨cl_virtual (y := y_Mo_write1) (ci := 13) rfl rfl ⟨_, _, rfl⟩ (by decide +kernel) h_Mo_write1 wm_3914 wm_9 wm_3911 wm_3913 wv_24_8 ⟨by decide, by decide, by decide +kernel⟩ (by decide), List.forall_mem_nil _⟩⟩⟩, List.forall_mem_nil _, List.forall_mem_nil _, GG_pl⟩ (by decide +kernel)
set_option maxHeartbeats 4000000 in
theorem vc_Mo_write_at_s5016_0_0 (x2 : Int) (x3 : Int) (texts_0 : Int) (k2 : 0 ≤ x2 ∧ x2 ≤ 99999994) (k3 : 0 ≤ x3 ∧ x3 ≤ 0) (f0 : 1 * texts_0 + ((-1) * x2 + 0) ≤ 0) (kz_0_170 : 0 ≤ texts_0 ∧ texts_0 ≤ 100000000) : 1 * texts_0 + ((-1) * x2 + ((-1) * x3 + 0)) ≤ 0 := by
  first | assumption | omega | grind
def o_Mo_write_at_s5016_0 : or_T := (2, 4, [(0, (2, 0, 0, [165])), (2, (0, 0, 99999994, [])), (3, (0, 0, 0, []))], [(20, [0, 2], [30, 0, 1, 1, 170, -1, 0, 0])], [], [], [(20, [0, 2, 3], [30, 0, 1, 1, 170, -1, 0, 0, -1, 0, 0]), (24, [0, 0], [])], [], [])
theorem oo_Mo_write_at_s5016_0 {kA : Nat → ClassId} : or_ok PRD kA GG o_Mo_write_at_s5016_0 := by
  refine or_mk fun A ta ws vs hD hth hl => ?_
  intro t0 r0 t2 k2 t3 k3 f0
  have kz_0_170 := fdq_11 hD hth r0
  have nf0 : fc_1 PRD (20, [0, 2, 3], [30, 0, 1, 1, 170, -1, 0, 0, -1, 0, 0]) ws (vs) := ⟨nf_in hl rfl, sgq_159 (vc_Mo_write_at_s5016_0_0 (v_iv (n_v vs 2)) (v_iv (n_v vs 3)) (w_fi ws (n_v vs 0) 170) k2 k3 (shm_131 f0) kz_0_170)⟩
  have nf1 : fc_1 PRD (24, [0, 0], []) ws (vs) := by
    refine ⟨nf_in hl rfl, sgq_1 ?_⟩
    · show n_v vs 0 = n_v vs 0
      first | rfl | simp only [true_and]
  refine ⟨(fun _ h => (by cases h)), [], trivial, ?_, (fun _ h => (by cases h))⟩
  rw [List.append_nil]
  exact List.forall_mem_cons.mpr ⟨⟨show (20 : Nat) < 100 from by decide, nf0⟩, List.forall_mem_cons.mpr ⟨⟨show (24 : Nat) < 100 from by decide, nf1⟩, (fun _ h => (by cases h))⟩⟩
set_option maxHeartbeats 4000000 in
theorem vc_Mo_write_at_s5016_1_0 (x2 : Int) (x5 : Int) (texts_0 : Int) (k2 : 0 ≤ x2 ∧ x2 ≤ 99999994) (k5 : 6 ≤ x5 ∧ x5 ≤ 6) (f1 : 1 * texts_0 + ((-1) * x2 + ((-1) * x5 + 0)) ≤ 0) (kz_0_170 : 0 ≤ texts_0 ∧ texts_0 ≤ 100000000) : 1 * texts_0 + ((-1) * x2 + 0) ≤ 6 := by
  first | assumption | omega | grind
def o_Mo_write_at_s5016_1 : or_T := (25, 7, [(0, (2, 0, 0, [165])), (2, (0, 0, 99999994, [])), (5, (0, 6, 6, []))], [(20, [3, 2, 5], [30, 0, 1, 1, 170, -1, 0, 0, -1, 0, 0]), (24, [0, 3], [])], [], [], [(20, [0, 2], [30, 6, 1, 1, 170, -1, 0, 0])], [], [])
theorem oo_Mo_write_at_s5016_1 {kA : Nat → ClassId} : or_ok PRD kA GG o_Mo_write_at_s5016_1 := by
  refine or_mk fun A ta ws vs hD hth hl => ?_
  intro t0 r0 t2 k2 t5 k5 f1 f2
  replace f1 := shm_159 f1
  replace f2 := shm_5 f2
  have q3 : n_v vs 3 = n_v vs 0 := f2.symm
  simp only [q3] at f1
  have kz_0_170 := fdq_11 hD hth r0
  have nf0 : fc_1 PRD (20, [0, 2], [30, 6, 1, 1, 170, -1, 0, 0]) ws (vs) := ⟨nf_in hl rfl, sgq_211 (vc_Mo_write_at_s5016_1_0 (v_iv (n_v vs 2)) (v_iv (n_v vs 5)) (w_fi ws (n_v vs 0) 170) k2 k5 f1 kz_0_170)⟩
  refine ⟨(fun _ h => (by cases h)), [], trivial, ?_, (fun _ h => (by cases h))⟩
  rw [List.append_nil]
  exact List.forall_mem_cons.mpr ⟨⟨show (20 : Nat) < 100 from by decide, nf0⟩, (fun _ h => (by cases h))⟩
set_option maxHeartbeats 4000000 in
theorem vc_Mo_write_at_s5016_2_0 (texts_0 : Int) (gx : Int) (kz_0_170 : 0 ≤ texts_0 ∧ texts_0 ≤ 100000000) (ex2 : gx = texts_0) : 1 * texts_0 + ((-1) * gx + 0) ≤ 0 := by
  first | assumption | omega | grind
set_option maxHeartbeats 4000000 in
theorem vc_Mo_write_at_s5016_2_1 (x2 : Int) (x5 : Int) (texts_0 : Int) (gx : Int) (k2 : 0 ≤ x2 ∧ x2 ≤ 99999994) (k5 : 0 ≤ x5 ∧ x5 ≤ 5) (f1 : 1 * texts_0 + ((-1) * x2 + ((-1) * x5 + 0)) ≤ 0) (kz_0_170 : 0 ≤ texts_0 ∧ texts_0 ≤ 100000000) (ex2 : gx = texts_0) : 1 * gx + ((-1) * x2 + ((-1) * x5 + 0)) ≤ 0 := by
  first | assumption | omega | grind
def o_Mo_write_at_s5016_2 : or_T := (16, 8, [(0, (2, 0, 0, [165])), (2, (0, 0, 99999994, [])), (3, (2, 0, 0, [165])), (5, (0, 0, 5, [])), (6, (0, 6, 6, []))], [(7, [5, 6], [2]), (20, [3, 2, 5], [30, 0, 1, 1, 170, -1, 0, 0, -1, 0, 0]), (24, [0, 3], [])], [], [(0, 0, 99999999, [])], [(20, [3, 8], [30, 0, 1, 1, 170, -1, 0, 0]), (23, [8, 2, 5], [0, 1, -1, -1])], [], [])
theorem oo_Mo_write_at_s5016_2 {kA : Nat → ClassId} : or_ok PRD kA GG o_Mo_write_at_s5016_2 := by
  refine or_mk fun A ta ws vs hD hth hl => ?_
  intro t0 r0 t2 k2 t3 r3 t5 k5 t6 k6 f0 f1 f2
  replace f0 := shm_6 f0
  replace f1 := shm_159 f1
  replace f2 := shm_5 f2
  have q3 : n_v vs 3 = n_v vs 0 := f2.symm
  simp only [q3] at f1
  have kz_0_170 := fdq_11 hD hth r0
  have kv0 := fdq_11 hD hth r0
  obtain ⟨x, ex, hx⟩ := iv_ex (ta := ta) (lo := 0) (hi := 99999999) (z := w_fi ws (n_v vs 0) 170) (by omega) (by omega) (by omega) (by omega)
  have ex2 : v_iv (Value.int x) = w_fi ws (n_v vs 0) 170 := ex
  have ex3 : 0 ≤ v_iv (Value.int x) ∧ v_iv (Value.int x) ≤ 99999999 := tv_rng hx
  have e_2 : n_v (vs ++ [Value.int x]) 2 = n_v vs 2 := n_v_old (by rw [hl]; decide)
  have e_3 : n_v (vs ++ [Value.int x]) 3 = n_v vs 3 := n_v_old (by rw [hl]; decide)
  have e_5 : n_v (vs ++ [Value.int x]) 5 = n_v vs 5 := n_v_old (by rw [hl]; decide)
  have e_8 : n_v (vs ++ [Value.int x]) 8 = Value.int x := n_v_new hl
  have nf0 : fc_1 PRD (20, [3, 8], [30, 0, 1, 1, 170, -1, 0, 0]) ws (vs ++ [Value.int x]) := by
    refine ⟨nf_inA hl rfl, sgq_131 ?_⟩
    · show 1 * w_fi ws (n_v (vs ++ [Value.int x]) 3) 170 + ((-1) * v_iv (n_v (vs ++ [Value.int x]) 8) + 0) ≤ 0
      simp only [e_3, e_8, q3]
      exact vc_Mo_write_at_s5016_2_0 (w_fi ws (n_v vs 0) 170) (v_iv (Value.int x)) kz_0_170 ex2
  have nf1 : fc_1 PRD (23, [8, 2, 5], [0, 1, -1, -1]) ws (vs ++ [Value.int x]) := by
    refine ⟨nf_inA hl rfl, sgq_136 ?_⟩
    · show 1 * v_iv (n_v (vs ++ [Value.int x]) 8) + ((-1) * v_iv (n_v (vs ++ [Value.int x]) 2) + ((-1) * v_iv (n_v (vs ++ [Value.int x]) 5) + 0)) ≤ 0
      simp only [e_2, e_5, e_8]
      exact vc_Mo_write_at_s5016_2_1 (v_iv (n_v vs 2)) (v_iv (n_v vs 5)) (w_fi ws (n_v vs 0) 170) (v_iv (Value.int x)) k2 k5 f1 kz_0_170 ex2
  exact ⟨(fun _ h => (by cases h)), [Value.int x], ag_one hx, List.forall_mem_cons.mpr ⟨⟨show (20 : Nat) < 100 from by decide, nf0⟩, List.forall_mem_cons.mpr ⟨⟨show (23 : Nat) < 100 from by decide, nf1⟩, (fun _ h => (by cases h))⟩⟩, (fun _ h => (by cases h))⟩
set_option maxHeartbeats 4000000 in
theorem vc_Mo_write_at_s5016_3_0 (x2 : Int) (x5 : Int) (x8 : Int) (x9 : Int) (texts_0 : Int) (k2 : 0 ≤ x2 ∧ x2 ≤ 99999994) (k5 : 0 ≤ x5 ∧ x5 ≤ 5) (k8 : 0 ≤ x8 ∧ x8 ≤ 99999999) (k9 : 1 ≤ x9 ∧ x9 ≤ 6) (d0 : x5 + 1 ≤ x9 ∧ x9 ≤ x5 + 1) (f1 : 1 * x8 + ((-1) * x2 + ((-1) * x5 + 0)) ≤ 0) (f3 : 1 * texts_0 + ((-1) * x8 + 0) ≤ 1) (kz_0_170 : 0 ≤ texts_0 ∧ texts_0 ≤ 100000000) : 1 * texts_0 + ((-1) * x2 + ((-1) * x9 + 0)) ≤ 0 := by
  first | assumption | omega | grind
def o_Mo_write_at_s5016_3 : or_T := (2, 10, [(0, (2, 0, 0, [165])), (2, (0, 0, 99999994, [])), (5, (0, 0, 5, [])), (8, (0, 0, 99999999, [])), (9, (0, 1, 6, []))], [(23, [8, 2, 5], [0, 1, -1, -1]), (24, [0, 3], []), (20, [3, 8], [30, 1, 1, 1, 170, -1, 0, 0])], [], [], [(20, [3, 2, 9], [30, 0, 1, 1, 170, -1, 0, 0, -1, 0, 0])], [], [(9, 5, 1, 1)])
theorem oo_Mo_write_at_s5016_3 {kA : Nat → ClassId} : or_ok PRD kA GG o_Mo_write_at_s5016_3 := by
  refine or_mk fun A ta ws vs hD hth hl => ?_
  intro t0 r0 t2 k2 t5 k5 t8 k8 t9 k9 d0 f1 f2 f3
  replace f1 := shm_136 f1
  replace f2 := shm_5 f2
  replace f3 := shm_132 f3
  have q3 : n_v vs 3 = n_v vs 0 := f2.symm
  simp only [q3] at f3
  have kz_0_170 := fdq_11 hD hth r0
  have nf0 : fc_1 PRD (20, [3, 2, 9], [30, 0, 1, 1, 170, -1, 0, 0, -1, 0, 0]) ws (vs) := by
    refine ⟨nf_in hl rfl, sgq_159 ?_⟩
    · show 1 * w_fi ws (n_v vs 3) 170 + ((-1) * v_iv (n_v vs 2) + ((-1) * v_iv (n_v vs 9) + 0)) ≤ 0
      rw [q3]
      exact vc_Mo_write_at_s5016_3_0 (v_iv (n_v vs 2)) (v_iv (n_v vs 5)) (v_iv (n_v vs 8)) (v_iv (n_v vs 9)) (w_fi ws (n_v vs 0) 170) k2 k5 k8 k9 d0 f1 f3 kz_0_170
  refine ⟨(fun _ h => (by cases h)), [], trivial, ?_, (fun _ h => (by cases h))⟩
  rw [List.append_nil]
  exact List.forall_mem_cons.mpr ⟨⟨show (20 : Nat) < 100 from by decide, nf0⟩, (fun _ h => (by cases h))⟩
def n_Mo_write_at_s5016_an : List an_T := [(2, [(0, (2, 0, 0, [165])), (1, (2, 0, 0, [5016])), (2, (0, 0, 6, []))], [], (0, 0), [(0, 0, 99998), (1, 5, 6), (0, 0, 100000)], [], [], [(2, 0, 0, [165]), (2, 0, 0, [5016]), (0, 0, 99999994, [])], 0, [], [(20, [3, 2, 5], [30, 0, 1, 1, 170, (Int.negSucc 0), 0, 0, (Int.negSucc 0), 0, 0]), (24, [0, 3], [])])]
def t_Mo_write_at_s5016_ct : ct_L := [(16, 448, e_jStr_length_v376), (43, 453, e_jStr_charAt_v377), (52, 1280, e_Mo_write1)]
set_option maxRecDepth 100000 in
theorem c_Mo_write_at_s5016 {l : Launch} {D : va_G} {kA : Nat → ClassId} (h_Mo_write1 : ct_ok PRD l D kA GG y_Mo_write1 z_Mo_write1 e_Mo_write1) : ct_ok PRD l D kA GG y_Mo_write_at_s5016 z_Mo_write_at_s5016 e_Mo_write_at_s5016 := chk_all_ok (FT := []) (PT := []) (CT := t_Mo_write_at_s5016_ct) (KT := []) (NT := []) (AN := n_Mo_write_at_s5016_an) (OT := [o_Mo_write_at_s5016_0, o_Mo_write_at_s5016_1, o_Mo_write_at_s5016_2, o_Mo_write_at_s5016_3]) 3 200 (List.forall_mem_cons.mpr ⟨oo_Mo_write_at_s5016_0, List.forall_mem_cons.mpr ⟨oo_Mo_write_at_s5016_1, List.forall_mem_cons.mpr ⟨oo_Mo_write_at_s5016_2, List.forall_mem_cons.mpr ⟨oo_Mo_write_at_s5016_3, List.forall_mem_nil _⟩⟩⟩⟩) (by decide +kernel) ⟨List.forall_mem_nil _, List.forall_mem_nil _, List.forall_mem_cons.mpr ⟨cl_string (y := y_jStr_length) (i := 16) rfl rfl (by decide +kernel) rfl c_jStr_length_v376 wm_674 wm_11 wm_3003 wm_672 wm_673 ⟨by decide, by decide, by decide +kernel⟩ (by decide), List.forall_mem_cons.mpr ⟨cl_string (y := y_jStr_charAt) (i := 16) rfl rfl (by decide +kernel) rfl c_jStr_charAt_v377 wm_684 wm_11 wm_3004 wm_682 wm_683 ⟨by decide, by decide, by decide +kernel⟩ (by decide), List.forall_mem_cons.mpr ⟨cl_virtual (y := y_Mo_write1) (ci := 13) rfl rfl ⟨_, _, rfl⟩ (by decide +kernel) h_Mo_write1 wm_3914 wm_9 wm_3911 wm_3913 wv_24_8 ⟨by decide, by decide, by decide +kernel⟩ (by decide), List.forall_mem_nil _⟩⟩⟩, List.forall_mem_nil _, List.forall_mem_nil _, GG_pl⟩ (by decide +kernel)
set_option maxHeartbeats 4000000 in
theorem vc_Mo_write_at_s5017_0_0 (x2 : Int) (x3 : Int) (texts_0 : Int) (k2 : 0 ≤ x2 ∧ x2 ≤ 99999997) (k3 : 0 ≤ x3 ∧ x3 ≤ 0) (f0 : 1 * texts_0 + ((-1) * x2 + 0) ≤ 0) (kz_0_170 : 0 ≤ texts_0 ∧ texts_0 ≤ 100000000) : 1 * texts_0 + ((-1) * x2 + ((-1) * x3 + 0)) ≤ 0 := by
  first | assumption | omega | grind
def o_Mo_write_at_s5017_0 : or_T := (2, 4, [(0, (2, 0, 0, [165])), (2, (0, 0, 99999997, [])), (3, (0, 0, 0, []))], [(20, [0, 2], [30, 0, 1, 1, 170, -1, 0, 0])], [], [], [(20, [0, 2, 3], [30, 0, 1, 1, 170, -1, 0, 0, -1, 0, 0]), (24, [0, 0], [])], [], [])
theorem oo_Mo_write_at_s5017_0 {kA : Nat → ClassId} : or_ok PRD kA GG o_Mo_write_at_s5017_0 := by
  refine or_mk fun A ta ws vs hD hth hl => ?_
  intro t0 r0 t2 k2 t3 k3 f0
  have kz_0_170 := fdq_11 hD hth r0
  have nf0 : fc_1 PRD (20, [0, 2, 3], [30, 0, 1, 1, 170, -1, 0, 0, -1, 0, 0]) ws (vs) := ⟨nf_in hl rfl, sgq_159 (vc_Mo_write_at_s5017_0_0 (v_iv (n_v vs 2)) (v_iv (n_v vs 3)) (w_fi ws (n_v vs 0) 170) k2 k3 (shm_131 f0) kz_0_170)⟩
  have nf1 : fc_1 PRD (24, [0, 0], []) ws (vs) := by
    refine ⟨nf_in hl rfl, sgq_1 ?_⟩
    · show n_v vs 0 = n_v vs 0
      first | rfl | simp only [true_and]
  refine ⟨(fun _ h => (by cases h)), [], trivial, ?_, (fun _ h => (by cases h))⟩
  rw [List.append_nil]
  exact List.forall_mem_cons.mpr ⟨⟨show (20 : Nat) < 100 from by decide, nf0⟩, List.forall_mem_cons.mpr ⟨⟨show (24 : Nat) < 100 from by decide, nf1⟩, (fun _ h => (by cases h))⟩⟩
set_option maxHeartbeats 4000000 in
theorem vc_Mo_write_at_s5017_1_0 (x2 : Int) (x5 : Int) (texts_0 : Int) (k2 : 0 ≤ x2 ∧ x2 ≤ 99999997) (k5 : 3 ≤ x5 ∧ x5 ≤ 3) (f1 : 1 * texts_0 + ((-1) * x2 + ((-1) * x5 + 0)) ≤ 0) (kz_0_170 : 0 ≤ texts_0 ∧ texts_0 ≤ 100000000) : 1 * texts_0 + ((-1) * x2 + 0) ≤ 3 := by
  first | assumption | omega | grind
def o_Mo_write_at_s5017_1 : or_T := (25, 7, [(0, (2, 0, 0, [165])), (2, (0, 0, 99999997, [])), (5, (0, 3, 3, []))], [(20, [3, 2, 5], [30, 0, 1, 1, 170, -1, 0, 0, -1, 0, 0]), (24, [0, 3], [])], [], [], [(20, [0, 2], [30, 3, 1, 1, 170, -1, 0, 0])], [], [])
theorem oo_Mo_write_at_s5017_1 {kA : Nat → ClassId} : or_ok PRD kA GG o_Mo_write_at_s5017_1 := by
  refine or_mk fun A ta ws vs hD hth hl => ?_
  intro t0 r0 t2 k2 t5 k5 f1 f2
  replace f1 := shm_159 f1
  replace f2 := shm_5 f2
  have q3 : n_v vs 3 = n_v vs 0 := f2.symm
  simp only [q3] at f1
  have kz_0_170 := fdq_11 hD hth r0
  have nf0 : fc_1 PRD (20, [0, 2], [30, 3, 1, 1, 170, -1, 0, 0]) ws (vs) := ⟨nf_in hl rfl, sgq_212 (vc_Mo_write_at_s5017_1_0 (v_iv (n_v vs 2)) (v_iv (n_v vs 5)) (w_fi ws (n_v vs 0) 170) k2 k5 f1 kz_0_170)⟩
  refine ⟨(fun _ h => (by cases h)), [], trivial, ?_, (fun _ h => (by cases h))⟩
  rw [List.append_nil]
  exact List.forall_mem_cons.mpr ⟨⟨show (20 : Nat) < 100 from by decide, nf0⟩, (fun _ h => (by cases h))⟩
set_option maxHeartbeats 4000000 in
theorem vc_Mo_write_at_s5017_2_0 (texts_0 : Int) (gx : Int) (kz_0_170 : 0 ≤ texts_0 ∧ texts_0 ≤ 100000000) (ex2 : gx = texts_0) : 1 * texts_0 + ((-1) * gx + 0) ≤ 0 := by
  first | assumption | omega | grind
set_option maxHeartbeats 4000000 in
theorem vc_Mo_write_at_s5017_2_1 (x2 : Int) (x5 : Int) (texts_0 : Int) (gx : Int) (k2 : 0 ≤ x2 ∧ x2 ≤ 99999997) (k5 : 0 ≤ x5 ∧ x5 ≤ 2) (f1 : 1 * texts_0 + ((-1) * x2 + ((-1) * x5 + 0)) ≤ 0) (kz_0_170 : 0 ≤ texts_0 ∧ texts_0 ≤ 100000000) (ex2 : gx = texts_0) : 1 * gx + ((-1) * x2 + ((-1) * x5 + 0)) ≤ 0 := by
  first | assumption | omega | grind
def o_Mo_write_at_s5017_2 : or_T := (16, 8, [(0, (2, 0, 0, [165])), (2, (0, 0, 99999997, [])), (3, (2, 0, 0, [165])), (5, (0, 0, 2, [])), (6, (0, 3, 3, []))], [(7, [5, 6], [2]), (20, [3, 2, 5], [30, 0, 1, 1, 170, -1, 0, 0, -1, 0, 0]), (24, [0, 3], [])], [], [(0, 0, 99999999, [])], [(20, [3, 8], [30, 0, 1, 1, 170, -1, 0, 0]), (23, [8, 2, 5], [0, 1, -1, -1])], [], [])
theorem oo_Mo_write_at_s5017_2 {kA : Nat → ClassId} : or_ok PRD kA GG o_Mo_write_at_s5017_2 := by
  refine or_mk fun A ta ws vs hD hth hl => ?_
  intro t0 r0 t2 k2 t3 r3 t5 k5 t6 k6 f0 f1 f2
  replace f0 := shm_6 f0
  replace f1 := shm_159 f1
  replace f2 := shm_5 f2
  have q3 : n_v vs 3 = n_v vs 0 := f2.symm
  simp only [q3] at f1
  have kz_0_170 := fdq_11 hD hth r0
  have kv0 := fdq_11 hD hth r0
  obtain ⟨x, ex, hx⟩ := iv_ex (ta := ta) (lo := 0) (hi := 99999999) (z := w_fi ws (n_v vs 0) 170) (by omega) (by omega) (by omega) (by omega)
  have ex2 : v_iv (Value.int x) = w_fi ws (n_v vs 0) 170 := ex
  have ex3 : 0 ≤ v_iv (Value.int x) ∧ v_iv (Value.int x) ≤ 99999999 := tv_rng hx
  have e_2 : n_v (vs ++ [Value.int x]) 2 = n_v vs 2 := n_v_old (by rw [hl]; decide)
  have e_3 : n_v (vs ++ [Value.int x]) 3 = n_v vs 3 := n_v_old (by rw [hl]; decide)
  have e_5 : n_v (vs ++ [Value.int x]) 5 = n_v vs 5 := n_v_old (by rw [hl]; decide)
  have e_8 : n_v (vs ++ [Value.int x]) 8 = Value.int x := n_v_new hl
  have nf0 : fc_1 PRD (20, [3, 8], [30, 0, 1, 1, 170, -1, 0, 0]) ws (vs ++ [Value.int x]) := by
    refine ⟨nf_inA hl rfl, sgq_131 ?_⟩
    · show 1 * w_fi ws (n_v (vs ++ [Value.int x]) 3) 170 + ((-1) * v_iv (n_v (vs ++ [Value.int x]) 8) + 0) ≤ 0
      simp only [e_3, e_8, q3]
      exact vc_Mo_write_at_s5017_2_0 (w_fi ws (n_v vs 0) 170) (v_iv (Value.int x)) kz_0_170 ex2
  have nf1 : fc_1 PRD (23, [8, 2, 5], [0, 1, -1, -1]) ws (vs ++ [Value.int x]) := by
    refine ⟨nf_inA hl rfl, sgq_136 ?_⟩
    · show 1 * v_iv (n_v (vs ++ [Value.int x]) 8) + ((-1) * v_iv (n_v (vs ++ [Value.int x]) 2) + ((-1) * v_iv (n_v (vs ++ [Value.int x]) 5) + 0)) ≤ 0
      simp only [e_2, e_5, e_8]
      exact vc_Mo_write_at_s5017_2_1 (v_iv (n_v vs 2)) (v_iv (n_v vs 5)) (w_fi ws (n_v vs 0) 170) (v_iv (Value.int x)) k2 k5 f1 kz_0_170 ex2
  exact ⟨(fun _ h => (by cases h)), [Value.int x], ag_one hx, List.forall_mem_cons.mpr ⟨⟨show (20 : Nat) < 100 from by decide, nf0⟩, List.forall_mem_cons.mpr ⟨⟨show (23 : Nat) < 100 from by decide, nf1⟩, (fun _ h => (by cases h))⟩⟩, (fun _ h => (by cases h))⟩
set_option maxHeartbeats 4000000 in
theorem vc_Mo_write_at_s5017_3_0 (x2 : Int) (x5 : Int) (x8 : Int) (x9 : Int) (texts_0 : Int) (k2 : 0 ≤ x2 ∧ x2 ≤ 99999997) (k5 : 0 ≤ x5 ∧ x5 ≤ 2) (k8 : 0 ≤ x8 ∧ x8 ≤ 99999999) (k9 : 1 ≤ x9 ∧ x9 ≤ 3) (d0 : x5 + 1 ≤ x9 ∧ x9 ≤ x5 + 1) (f1 : 1 * x8 + ((-1) * x2 + ((-1) * x5 + 0)) ≤ 0) (f3 : 1 * texts_0 + ((-1) * x8 + 0) ≤ 1) (kz_0_170 : 0 ≤ texts_0 ∧ texts_0 ≤ 100000000) : 1 * texts_0 + ((-1) * x2 + ((-1) * x9 + 0)) ≤ 0 := by
  first | assumption | omega | grind
def o_Mo_write_at_s5017_3 : or_T := (2, 10, [(0, (2, 0, 0, [165])), (2, (0, 0, 99999997, [])), (5, (0, 0, 2, [])), (8, (0, 0, 99999999, [])), (9, (0, 1, 3, []))], [(23, [8, 2, 5], [0, 1, -1, -1]), (24, [0, 3], []), (20, [3, 8], [30, 1, 1, 1, 170, -1, 0, 0])], [], [], [(20, [3, 2, 9], [30, 0, 1, 1, 170, -1, 0, 0, -1, 0, 0])], [], [(9, 5, 1, 1)])
theorem oo_Mo_write_at_s5017_3 {kA : Nat → ClassId} : or_ok PRD kA GG o_Mo_write_at_s5017_3 := by
  refine or_mk fun A ta ws vs hD hth hl => ?_
  intro t0 r0 t2 k2 t5 k5 t8 k8 t9 k9 d0 f1 f2 f3
  replace f1 := shm_136 f1
  replace f2 := shm_5 f2
  replace f3 := shm_132 f3
  have q3 : n_v vs 3 = n_v vs 0 := f2.symm
  simp only [q3] at f3
  have kz_0_170 := fdq_11 hD hth r0
  have nf0 : fc_1 PRD (20, [3, 2, 9], [30, 0, 1, 1, 170, -1, 0, 0, -1, 0, 0]) ws (vs) := by
    refine ⟨nf_in hl rfl, sgq_159 ?_⟩
    · show 1 * w_fi ws (n_v vs 3) 170 + ((-1) * v_iv (n_v vs 2) + ((-1) * v_iv (n_v vs 9) + 0)) ≤ 0
      rw [q3]
      exact vc_Mo_write_at_s5017_3_0 (v_iv (n_v vs 2)) (v_iv (n_v vs 5)) (v_iv (n_v vs 8)) (v_iv (n_v vs 9)) (w_fi ws (n_v vs 0) 170) k2 k5 k8 k9 d0 f1 f3 kz_0_170
  refine ⟨(fun _ h => (by cases h)), [], trivial, ?_, (fun _ h => (by cases h))⟩
  rw [List.append_nil]
  exact List.forall_mem_cons.mpr ⟨⟨show (20 : Nat) < 100 from by decide, nf0⟩, (fun _ h => (by cases h))⟩
def n_Mo_write_at_s5017_an : List an_T := [(2, [(0, (2, 0, 0, [165])), (1, (2, 0, 0, [5017])), (2, (0, 0, 3, []))], [], (0, 0), [(0, 0, 99998), (1, 5, 3), (0, 0, 100000)], [], [], [(2, 0, 0, [165]), (2, 0, 0, [5017]), (0, 0, 99999997, [])], 0, [], [(20, [3, 2, 5], [30, 0, 1, 1, 170, (Int.negSucc 0), 0, 0, (Int.negSucc 0), 0, 0]), (24, [0, 3], [])])]
def t_Mo_write_at_s5017_ct : ct_L := [(16, 448, e_jStr_length_v381), (43, 453, e_jStr_charAt_v382), (52, 1280, e_Mo_write1)]
set_option maxRecDepth 100000 in
theorem c_Mo_write_at_s5017 {l : Launch} {D : va_G} {kA : Nat → ClassId} (h_Mo_write1 : ct_ok PRD l D kA GG y_Mo_write1 z_Mo_write1 e_Mo_write1) : ct_ok PRD l D kA GG y_Mo_write_at_s5017 z_Mo_write_at_s5017 e_Mo_write_at_s5017 := chk_all_ok (FT := []) (PT := []) (CT := t_Mo_write_at_s5017_ct) (KT := []) (NT := []) (AN := n_Mo_write_at_s5017_an) (OT := [o_Mo_write_at_s5017_0, o_Mo_write_at_s5017_1, o_Mo_write_at_s5017_2, o_Mo_write_at_s5017_3]) 3 200 (List.forall_mem_cons.mpr ⟨oo_Mo_write_at_s5017_0, List.forall_mem_cons.mpr ⟨oo_Mo_write_at_s5017_1, List.forall_mem_cons.mpr ⟨oo_Mo_write_at_s5017_2, List.forall_mem_cons.mpr ⟨oo_Mo_write_at_s5017_3, List.forall_mem_nil _⟩⟩⟩⟩) (by decide +kernel) ⟨List.forall_mem_nil _, List.forall_mem_nil _, List.forall_mem_cons.mpr ⟨cl_string (y := y_jStr_length) (i := 17) rfl rfl (by decide +kernel) rfl c_jStr_length_v381 wm_674 wm_11 wm_3003 wm_672 wm_673 ⟨by decide, by decide, by decide +kernel⟩ (by decide), List.forall_mem_cons.mpr ⟨cl_string (y := y_jStr_charAt) (i := 17) rfl rfl (by decide +kernel) rfl c_jStr_charAt_v382 wm_684 wm_11 wm_3004 wm_682 wm_683 ⟨by decide, by decide, by decide +kernel⟩ (by decide), List.forall_mem_cons.mpr ⟨cl_virtual (y := y_Mo_write1) (ci := 13) rfl rfl ⟨_, _, rfl⟩ (by decide +kernel) h_Mo_write1 wm_3914 wm_9 wm_3911 wm_3913 wv_24_8 ⟨by decide, by decide, by decide +kernel⟩ (by decide), List.forall_mem_nil _⟩⟩⟩, List.forall_mem_nil _, List.forall_mem_nil _, GG_pl⟩ (by decide +kernel)
set_option maxHeartbeats 4000000 in
theorem vc_Mo_write_at_s5018_0_0 (x2 : Int) (x3 : Int) (texts_0 : Int) (k2 : 0 ≤ x2 ∧ x2 ≤ 99999998) (k3 : 0 ≤ x3 ∧ x3 ≤ 0) (f0 : 1 * texts_0 + ((-1) * x2 + 0) ≤ 0) (kz_0_170 : 0 ≤ texts_0 ∧ texts_0 ≤ 100000000) : 1 * texts_0 + ((-1) * x2 + ((-1) * x3 + 0)) ≤ 0 := by
  first | assumption | omega | grind
def o_Mo_write_at_s5018_0 : or_T := (2, 4, [(0, (2, 0, 0, [165])), (2, (0, 0, 99999998, [])), (3, (0, 0, 0, []))], [(20, [0, 2], [30, 0, 1, 1, 170, -1, 0, 0])], [], [], [(20, [0, 2, 3], [30, 0, 1, 1, 170, -1, 0, 0, -1, 0, 0]), (24, [0, 0], [])], [], [])
theorem oo_Mo_write_at_s5018_0 {kA : Nat → ClassId} : or_ok PRD kA GG o_Mo_write_at_s5018_0 := by
  refine or_mk fun A ta ws vs hD hth hl => ?_
  intro t0 r0 t2 k2 t3 k3 f0
  have kz_0_170 := fdq_11 hD hth r0
  have nf0 : fc_1 PRD (20, [0, 2, 3], [30, 0, 1, 1, 170, -1, 0, 0, -1, 0, 0]) ws (vs) := ⟨nf_in hl rfl, sgq_159 (vc_Mo_write_at_s5018_0_0 (v_iv (n_v vs 2)) (v_iv (n_v vs 3)) (w_fi ws (n_v vs 0) 170) k2 k3 (shm_131 f0) kz_0_170)⟩
  have nf1 : fc_1 PRD (24, [0, 0], []) ws (vs) := by
    refine ⟨nf_in hl rfl, sgq_1 ?_⟩
    · show n_v vs 0 = n_v vs 0
      first | rfl | simp only [true_and]
  refine ⟨(fun _ h => (by cases h)), [], trivial, ?_, (fun _ h => (by cases h))⟩
  rw [List.append_nil]
  exact List.forall_mem_cons.mpr ⟨⟨show (20 : Nat) < 100 from by decide, nf0⟩, List.forall_mem_cons.mpr ⟨⟨show (24 : Nat) < 100 from by decide, nf1⟩, (fun _ h => (by cases h))⟩⟩
set_option maxHeartbeats 4000000 in
theorem vc_Mo_write_at_s5018_1_0 (x2 : Int) (x5 : Int) (texts_0 : Int) (k2 : 0 ≤ x2 ∧ x2 ≤ 99999998) (k5 : 2 ≤ x5 ∧ x5 ≤ 2) (f1 : 1 * texts_0 + ((-1) * x2 + ((-1) * x5 + 0)) ≤ 0) (kz_0_170 : 0 ≤ texts_0 ∧ texts_0 ≤ 100000000) : 1 * texts_0 + ((-1) * x2 + 0) ≤ 2 := by
  first | assumption | omega | grind
def o_Mo_write_at_s5018_1 : or_T := (25, 7, [(0, (2, 0, 0, [165])), (2, (0, 0, 99999998, [])), (5, (0, 2, 2, []))], [(20, [3, 2, 5], [30, 0, 1, 1, 170, -1, 0, 0, -1, 0, 0]), (24, [0, 3], [])], [], [], [(20, [0, 2], [30, 2, 1, 1, 170, -1, 0, 0])], [], [])
theorem oo_Mo_write_at_s5018_1 {kA : Nat → ClassId} : or_ok PRD kA GG o_Mo_write_at_s5018_1 := by
  refine or_mk fun A ta ws vs hD hth hl => ?_
  intro t0 r0 t2 k2 t5 k5 f1 f2
  replace f1 := shm_159 f1
  replace f2 := shm_5 f2
  have q3 : n_v vs 3 = n_v vs 0 := f2.symm
  simp only [q3] at f1
  have kz_0_170 := fdq_11 hD hth r0
  have nf0 : fc_1 PRD (20, [0, 2], [30, 2, 1, 1, 170, -1, 0, 0]) ws (vs) := ⟨nf_in hl rfl, sgq_210 (vc_Mo_write_at_s5018_1_0 (v_iv (n_v vs 2)) (v_iv (n_v vs 5)) (w_fi ws (n_v vs 0) 170) k2 k5 f1 kz_0_170)⟩
  refine ⟨(fun _ h => (by cases h)), [], trivial, ?_, (fun _ h => (by cases h))⟩
  rw [List.append_nil]
  exact List.forall_mem_cons.mpr ⟨⟨show (20 : Nat) < 100 from by decide, nf0⟩, (fun _ h => (by cases h))⟩
set_option maxHeartbeats 4000000 in
theorem vc_Mo_write_at_s5018_2_0 (texts_0 : Int) (gx : Int) (kz_0_170 : 0 ≤ texts_0 ∧ texts_0 ≤ 100000000) (ex2 : gx = texts_0) : 1 * texts_0 + ((-1) * gx + 0) ≤ 0 := by
  first | assumption | omega | grind
set_option maxHeartbeats 4000000 in
theorem vc_Mo_write_at_s5018_2_1 (x2 : Int) (x5 : Int) (texts_0 : Int) (gx : Int) (k2 : 0 ≤ x2 ∧ x2 ≤ 99999998) (k5 : 0 ≤ x5 ∧ x5 ≤ 1) (f1 : 1 * texts_0 + ((-1) * x2 + ((-1) * x5 + 0)) ≤ 0) (kz_0_170 : 0 ≤ texts_0 ∧ texts_0 ≤ 100000000) (ex2 : gx = texts_0) : 1 * gx + ((-1) * x2 + ((-1) * x5 + 0)) ≤ 0 := by
  first | assumption | omega | grind
def o_Mo_write_at_s5018_2 : or_T := (16, 8, [(0, (2, 0, 0, [165])), (2, (0, 0, 99999998, [])), (3, (2, 0, 0, [165])), (5, (0, 0, 1, [])), (6, (0, 2, 2, []))], [(7, [5, 6], [2]), (20, [3, 2, 5], [30, 0, 1, 1, 170, -1, 0, 0, -1, 0, 0]), (24, [0, 3], [])], [], [(0, 0, 99999999, [])], [(20, [3, 8], [30, 0, 1, 1, 170, -1, 0, 0]), (23, [8, 2, 5], [0, 1, -1, -1])], [], [])
theorem oo_Mo_write_at_s5018_2 {kA : Nat → ClassId} : or_ok PRD kA GG o_Mo_write_at_s5018_2 := by
  refine or_mk fun A ta ws vs hD hth hl => ?_
  intro t0 r0 t2 k2 t3 r3 t5 k5 t6 k6 f0 f1 f2
  replace f0 := shm_6 f0
  replace f1 := shm_159 f1
  replace f2 := shm_5 f2
  have q3 : n_v vs 3 = n_v vs 0 := f2.symm
  simp only [q3] at f1
  have kz_0_170 := fdq_11 hD hth r0
  have kv0 := fdq_11 hD hth r0
  obtain ⟨x, ex, hx⟩ := iv_ex (ta := ta) (lo := 0) (hi := 99999999) (z := w_fi ws (n_v vs 0) 170) (by omega) (by omega) (by omega) (by omega)
  have ex2 : v_iv (Value.int x) = w_fi ws (n_v vs 0) 170 := ex
  have ex3 : 0 ≤ v_iv (Value.int x) ∧ v_iv (Value.int x) ≤ 99999999 := tv_rng hx
  have e_2 : n_v (vs ++ [Value.int x]) 2 = n_v vs 2 := n_v_old (by rw [hl]; decide)
  have e_3 : n_v (vs ++ [Value.int x]) 3 = n_v vs 3 := n_v_old (by rw [hl]; decide)
  have e_5 : n_v (vs ++ [Value.int x]) 5 = n_v vs 5 := n_v_old (by rw [hl]; decide)
  have e_8 : n_v (vs ++ [Value.int x]) 8 = Value.int x := n_v_new hl
  have nf0 : fc_1 PRD (20, [3, 8], [30, 0, 1, 1, 170, -1, 0, 0]) ws (vs ++ [Value.int x]) := by
    refine ⟨nf_inA hl rfl, sgq_131 ?_⟩
    · show 1 * w_fi ws (n_v (vs ++ [Value.int x]) 3) 170 + ((-1) * v_iv (n_v (vs ++ [Value.int x]) 8) + 0) ≤ 0
      simp only [e_3, e_8, q3]
      exact vc_Mo_write_at_s5018_2_0 (w_fi ws (n_v vs 0) 170) (v_iv (Value.int x)) kz_0_170 ex2
  have nf1 : fc_1 PRD (23, [8, 2, 5], [0, 1, -1, -1]) ws (vs ++ [Value.int x]) := by
    refine ⟨nf_inA hl rfl, sgq_136 ?_⟩
    · show 1 * v_iv (n_v (vs ++ [Value.int x]) 8) + ((-1) * v_iv (n_v (vs ++ [Value.int x]) 2) + ((-1) * v_iv (n_v (vs ++ [Value.int x]) 5) + 0)) ≤ 0
      simp only [e_2, e_5, e_8]
      exact vc_Mo_write_at_s5018_2_1 (v_iv (n_v vs 2)) (v_iv (n_v vs 5)) (w_fi ws (n_v vs 0) 170) (v_iv (Value.int x)) k2 k5 f1 kz_0_170 ex2
  exact ⟨(fun _ h => (by cases h)), [Value.int x], ag_one hx, List.forall_mem_cons.mpr ⟨⟨show (20 : Nat) < 100 from by decide, nf0⟩, List.forall_mem_cons.mpr ⟨⟨show (23 : Nat) < 100 from by decide, nf1⟩, (fun _ h => (by cases h))⟩⟩, (fun _ h => (by cases h))⟩
set_option maxHeartbeats 4000000 in
theorem vc_Mo_write_at_s5018_3_0 (x2 : Int) (x5 : Int) (x8 : Int) (x9 : Int) (texts_0 : Int) (k2 : 0 ≤ x2 ∧ x2 ≤ 99999998) (k5 : 0 ≤ x5 ∧ x5 ≤ 1) (k8 : 0 ≤ x8 ∧ x8 ≤ 99999999) (k9 : 1 ≤ x9 ∧ x9 ≤ 2) (d0 : x5 + 1 ≤ x9 ∧ x9 ≤ x5 + 1) (f1 : 1 * x8 + ((-1) * x2 + ((-1) * x5 + 0)) ≤ 0) (f3 : 1 * texts_0 + ((-1) * x8 + 0) ≤ 1) (kz_0_170 : 0 ≤ texts_0 ∧ texts_0 ≤ 100000000) : 1 * texts_0 + ((-1) * x2 + ((-1) * x9 + 0)) ≤ 0 := by
  first | assumption | omega | grind
def o_Mo_write_at_s5018_3 : or_T := (2, 10, [(0, (2, 0, 0, [165])), (2, (0, 0, 99999998, [])), (5, (0, 0, 1, [])), (8, (0, 0, 99999999, [])), (9, (0, 1, 2, []))], [(23, [8, 2, 5], [0, 1, -1, -1]), (24, [0, 3], []), (20, [3, 8], [30, 1, 1, 1, 170, -1, 0, 0])], [], [], [(20, [3, 2, 9], [30, 0, 1, 1, 170, -1, 0, 0, -1, 0, 0])], [], [(9, 5, 1, 1)])
theorem oo_Mo_write_at_s5018_3 {kA : Nat → ClassId} : or_ok PRD kA GG o_Mo_write_at_s5018_3 := by
  refine or_mk fun A ta ws vs hD hth hl => ?_
  intro t0 r0 t2 k2 t5 k5 t8 k8 t9 k9 d0 f1 f2 f3
  replace f1 := shm_136 f1
  replace f2 := shm_5 f2
  replace f3 := shm_132 f3
  have q3 : n_v vs 3 = n_v vs 0 := f2.symm
  simp only [q3] at f3
  have kz_0_170 := fdq_11 hD hth r0
  have nf0 : fc_1 PRD (20, [3, 2, 9], [30, 0, 1, 1, 170, -1, 0, 0, -1, 0, 0]) ws (vs) := by
    refine ⟨nf_in hl rfl, sgq_159 ?_⟩
    · show 1 * w_fi ws (n_v vs 3) 170 + ((-1) * v_iv (n_v vs 2) + ((-1) * v_iv (n_v vs 9) + 0)) ≤ 0
      rw [q3]
      exact vc_Mo_write_at_s5018_3_0 (v_iv (n_v vs 2)) (v_iv (n_v vs 5)) (v_iv (n_v vs 8)) (v_iv (n_v vs 9)) (w_fi ws (n_v vs 0) 170) k2 k5 k8 k9 d0 f1 f3 kz_0_170
  refine ⟨(fun _ h => (by cases h)), [], trivial, ?_, (fun _ h => (by cases h))⟩
  rw [List.append_nil]
  exact List.forall_mem_cons.mpr ⟨⟨show (20 : Nat) < 100 from by decide, nf0⟩, (fun _ h => (by cases h))⟩
def n_Mo_write_at_s5018_an : List an_T := [(2, [(0, (2, 0, 0, [165])), (1, (2, 0, 0, [5018])), (2, (0, 0, 2, []))], [], (0, 0), [(0, 0, 99998), (1, 5, 2), (0, 0, 100000)], [], [], [(2, 0, 0, [165]), (2, 0, 0, [5018]), (0, 0, 99999998, [])], 0, [], [(20, [3, 2, 5], [30, 0, 1, 1, 170, (Int.negSucc 0), 0, 0, (Int.negSucc 0), 0, 0]), (24, [0, 3], [])])]
def t_Mo_write_at_s5018_ct : ct_L := [(16, 448, e_jStr_length_v384), (43, 453, e_jStr_charAt_v385), (52, 1280, e_Mo_write1)]
set_option maxRecDepth 100000 in
theorem c_Mo_write_at_s5018 {l : Launch} {D : va_G} {kA : Nat → ClassId} (h_Mo_write1 : ct_ok PRD l D kA GG y_Mo_write1 z_Mo_write1 e_Mo_write1) : ct_ok PRD l D kA GG y_Mo_write_at_s5018 z_Mo_write_at_s5018 e_Mo_write_at_s5018 := chk_all_ok (FT := []) (PT := []) (CT := t_Mo_write_at_s5018_ct) (KT := []) (NT := []) (AN := n_Mo_write_at_s5018_an) (OT := [o_Mo_write_at_s5018_0, o_Mo_write_at_s5018_1, o_Mo_write_at_s5018_2, o_Mo_write_at_s5018_3]) 3 200 (List.forall_mem_cons.mpr ⟨oo_Mo_write_at_s5018_0, List.forall_mem_cons.mpr ⟨oo_Mo_write_at_s5018_1, List.forall_mem_cons.mpr ⟨oo_Mo_write_at_s5018_2, List.forall_mem_cons.mpr ⟨oo_Mo_write_at_s5018_3, List.forall_mem_nil _⟩⟩⟩⟩) (by decide +kernel) ⟨List.forall_mem_nil _, List.forall_mem_nil _, List.forall_mem_cons.mpr ⟨cl_string (y := y_jStr_length) (i := 18) rfl rfl (by decide +kernel) rfl c_jStr_length_v384 wm_674 wm_11 wm_3003 wm_672 wm_673 ⟨by decide, by decide, by decide +kernel⟩ (by decide), List.forall_mem_cons.mpr ⟨cl_string (y := y_jStr_charAt) (i := 18) rfl rfl (by decide +kernel) rfl c_jStr_charAt_v385 wm_684 wm_11 wm_3004 wm_682 wm_683 ⟨by decide, by decide, by decide +kernel⟩ (by decide), List.forall_mem_cons.mpr ⟨cl_virtual (y := y_Mo_write1) (ci := 13) rfl rfl ⟨_, _, rfl⟩ (by decide +kernel) h_Mo_write1 wm_3914 wm_9 wm_3911 wm_3913 wv_24_8 ⟨by decide, by decide, by decide +kernel⟩ (by decide), List.forall_mem_nil _⟩⟩⟩, List.forall_mem_nil _, List.forall_mem_nil _, GG_pl⟩ (by decide +kernel)
set_option maxHeartbeats 4000000 in
theorem vc_Mo_write_at_s5019_0_0 (x2 : Int) (x3 : Int) (texts_0 : Int) (k2 : 0 ≤ x2 ∧ x2 ≤ 99999997) (k3 : 0 ≤ x3 ∧ x3 ≤ 0) (f0 : 1 * texts_0 + ((-1) * x2 + 0) ≤ 0) (kz_0_170 : 0 ≤ texts_0 ∧ texts_0 ≤ 100000000) : 1 * texts_0 + ((-1) * x2 + ((-1) * x3 + 0)) ≤ 0 := by
  first | assumption | omega | grind
def o_Mo_write_at_s5019_0 : or_T := (2, 4, [(0, (2, 0, 0, [165])), (2, (0, 0, 99999997, [])), (3, (0, 0, 0, []))], [(20, [0, 2], [30, 0, 1, 1, 170, -1, 0, 0])], [], [], [(20, [0, 2, 3], [30, 0, 1, 1, 170, -1, 0, 0, -1, 0, 0]), (24, [0, 0], [])], [], [])
theorem oo_Mo_write_at_s5019_0 {kA : Nat → ClassId} : or_ok PRD kA GG o_Mo_write_at_s5019_0 := by
  refine or_mk fun A ta ws vs hD hth hl => ?_
  intro t0 r0 t2 k2 t3 k3 f0
  have kz_0_170 := fdq_11 hD hth r0
  have nf0 : fc_1 PRD (20, [0, 2, 3], [30, 0, 1, 1, 170, -1, 0, 0, -1, 0, 0]) ws (vs) := ⟨nf_in hl rfl, sgq_159 (vc_Mo_write_at_s5019_0_0 (v_iv (n_v vs 2)) (v_iv (n_v vs 3)) (w_fi ws (n_v vs 0) 170) k2 k3 (shm_131 f0) kz_0_170)⟩
  have nf1 : fc_1 PRD (24, [0, 0], []) ws (vs) := by
    refine ⟨nf_in hl rfl, sgq_1 ?_⟩
    · show n_v vs 0 = n_v vs 0
      first | rfl | simp only [true_and]
  refine ⟨(fun _ h => (by cases h)), [], trivial, ?_, (fun _ h => (by cases h))⟩
  rw [List.append_nil]
  exact List.forall_mem_cons.mpr ⟨⟨show (20 : Nat) < 100 from by decide, nf0⟩, List.forall_mem_cons.mpr ⟨⟨show (24 : Nat) < 100 from by decide, nf1⟩, (fun _ h => (by cases h))⟩⟩
set_option maxHeartbeats 4000000 in
theorem vc_Mo_write_at_s5019_1_0 (x2 : Int) (x5 : Int) (texts_0 : Int) (k2 : 0 ≤ x2 ∧ x2 ≤ 99999997) (k5 : 3 ≤ x5 ∧ x5 ≤ 3) (f1 : 1 * texts_0 + ((-1) * x2 + ((-1) * x5 + 0)) ≤ 0) (kz_0_170 : 0 ≤ texts_0 ∧ texts_0 ≤ 100000000) : 1 * texts_0 + ((-1) * x2 + 0) ≤ 3 := by
  first | assumption | omega | grind
def o_Mo_write_at_s5019_1 : or_T := (25, 7, [(0, (2, 0, 0, [165])), (2, (0, 0, 99999997, [])), (5, (0, 3, 3, []))], [(20, [3, 2, 5], [30, 0, 1, 1, 170, -1, 0, 0, -1, 0, 0]), (24, [0, 3], [])], [], [], [(20, [0, 2], [30, 3, 1, 1, 170, -1, 0, 0])], [], [])
theorem oo_Mo_write_at_s5019_1 {kA : Nat → ClassId} : or_ok PRD kA GG o_Mo_write_at_s5019_1 := by
  refine or_mk fun A ta ws vs hD hth hl => ?_
  intro t0 r0 t2 k2 t5 k5 f1 f2
  replace f1 := shm_159 f1
  replace f2 := shm_5 f2
  have q3 : n_v vs 3 = n_v vs 0 := f2.symm
  simp only [q3] at f1
  have kz_0_170 := fdq_11 hD hth r0
  have nf0 : fc_1 PRD (20, [0, 2], [30, 3, 1, 1, 170, -1, 0, 0]) ws (vs) := ⟨nf_in hl rfl, sgq_212 (vc_Mo_write_at_s5019_1_0 (v_iv (n_v vs 2)) (v_iv (n_v vs 5)) (w_fi ws (n_v vs 0) 170) k2 k5 f1 kz_0_170)⟩
  refine ⟨(fun _ h => (by cases h)), [], trivial, ?_, (fun _ h => (by cases h))⟩
  rw [List.append_nil]
  exact List.forall_mem_cons.mpr ⟨⟨show (20 : Nat) < 100 from by decide, nf0⟩, (fun _ h => (by cases h))⟩
set_option maxHeartbeats 4000000 in
theorem vc_Mo_write_at_s5019_2_0 (texts_0 : Int) (gx : Int) (kz_0_170 : 0 ≤ texts_0 ∧ texts_0 ≤ 100000000) (ex2 : gx = texts_0) : 1 * texts_0 + ((-1) * gx + 0) ≤ 0 := by
  first | assumption | omega | grind
set_option maxHeartbeats 4000000 in
theorem vc_Mo_write_at_s5019_2_1 (x2 : Int) (x5 : Int) (texts_0 : Int) (gx : Int) (k2 : 0 ≤ x2 ∧ x2 ≤ 99999997) (k5 : 0 ≤ x5 ∧ x5 ≤ 2) (f1 : 1 * texts_0 + ((-1) * x2 + ((-1) * x5 + 0)) ≤ 0) (kz_0_170 : 0 ≤ texts_0 ∧ texts_0 ≤ 100000000) (ex2 : gx = texts_0) : 1 * gx + ((-1) * x2 + ((-1) * x5 + 0)) ≤ 0 := by
  first | assumption | omega | grind
def o_Mo_write_at_s5019_2 : or_T := (16, 8, [(0, (2, 0, 0, [165])), (2, (0, 0, 99999997, [])), (3, (2, 0, 0, [165])), (5, (0, 0, 2, [])), (6, (0, 3, 3, []))], [(7, [5, 6], [2]), (20, [3, 2, 5], [30, 0, 1, 1, 170, -1, 0, 0, -1, 0, 0]), (24, [0, 3], [])], [], [(0, 0, 99999999, [])], [(20, [3, 8], [30, 0, 1, 1, 170, -1, 0, 0]), (23, [8, 2, 5], [0, 1, -1, -1])], [], [])
theorem oo_Mo_write_at_s5019_2 {kA : Nat → ClassId} : or_ok PRD kA GG o_Mo_write_at_s5019_2 := by
  refine or_mk fun A ta ws vs hD hth hl => ?_
  intro t0 r0 t2 k2 t3 r3 t5 k5 t6 k6 f0 f1 f2
  replace f0 := shm_6 f0
  replace f1 := shm_159 f1
  replace f2 := shm_5 f2
  have q3 : n_v vs 3 = n_v vs 0 := f2.symm
  simp only [q3] at f1
  have kz_0_170 := fdq_11 hD hth r0
  have kv0 := fdq_11 hD hth r0
  obtain ⟨x, ex, hx⟩ := iv_ex (ta := ta) (lo := 0) (hi := 99999999) (z := w_fi ws (n_v vs 0) 170) (by omega) (by omega) (by omega) (by omega)
  have ex2 : v_iv (Value.int x) = w_fi ws (n_v vs 0) 170 := ex
  have ex3 : 0 ≤ v_iv (Value.int x) ∧ v_iv (Value.int x) ≤ 99999999 := tv_rng hx
  have e_2 : n_v (vs ++ [Value.int x]) 2 = n_v vs 2 := n_v_old (by rw [hl]; decide)
  have e_3 : n_v (vs ++ [Value.int x]) 3 = n_v vs 3 := n_v_old (by rw [hl]; decide)
  have e_5 : n_v (vs ++ [Value.int x]) 5 = n_v vs 5 := n_v_old (by rw [hl]; decide)
  have e_8 : n_v (vs ++ [Value.int x]) 8 = Value.int x := n_v_new hl
  have nf0 : fc_1 PRD (20, [3, 8], [30, 0, 1, 1, 170, -1, 0, 0]) ws (vs ++ [Value.int x]) := by
    refine ⟨nf_inA hl rfl, sgq_131 ?_⟩
    · show 1 * w_fi ws (n_v (vs ++ [Value.int x]) 3) 170 + ((-1) * v_iv (n_v (vs ++ [Value.int x]) 8) + 0) ≤ 0
      simp only [e_3, e_8, q3]
      exact vc_Mo_write_at_s5019_2_0 (w_fi ws (n_v vs 0) 170) (v_iv (Value.int x)) kz_0_170 ex2
  have nf1 : fc_1 PRD (23, [8, 2, 5], [0, 1, -1, -1]) ws (vs ++ [Value.int x]) := by
    refine ⟨nf_inA hl rfl, sgq_136 ?_⟩
    · show 1 * v_iv (n_v (vs ++ [Value.int x]) 8) + ((-1) * v_iv (n_v (vs ++ [Value.int x]) 2) + ((-1) * v_iv (n_v (vs ++ [Value.int x]) 5) + 0)) ≤ 0
      simp only [e_2, e_5, e_8]
      exact vc_Mo_write_at_s5019_2_1 (v_iv (n_v vs 2)) (v_iv (n_v vs 5)) (w_fi ws (n_v vs 0) 170) (v_iv (Value.int x)) k2 k5 f1 kz_0_170 ex2
  exact ⟨(fun _ h => (by cases h)), [Value.int x], ag_one hx, List.forall_mem_cons.mpr ⟨⟨show (20 : Nat) < 100 from by decide, nf0⟩, List.forall_mem_cons.mpr ⟨⟨show (23 : Nat) < 100 from by decide, nf1⟩, (fun _ h => (by cases h))⟩⟩, (fun _ h => (by cases h))⟩
set_option maxHeartbeats 4000000 in
theorem vc_Mo_write_at_s5019_3_0 (x2 : Int) (x5 : Int) (x8 : Int) (x9 : Int) (texts_0 : Int) (k2 : 0 ≤ x2 ∧ x2 ≤ 99999997) (k5 : 0 ≤ x5 ∧ x5 ≤ 2) (k8 : 0 ≤ x8 ∧ x8 ≤ 99999999) (k9 : 1 ≤ x9 ∧ x9 ≤ 3) (d0 : x5 + 1 ≤ x9 ∧ x9 ≤ x5 + 1) (f1 : 1 * x8 + ((-1) * x2 + ((-1) * x5 + 0)) ≤ 0) (f3 : 1 * texts_0 + ((-1) * x8 + 0) ≤ 1) (kz_0_170 : 0 ≤ texts_0 ∧ texts_0 ≤ 100000000) : 1 * texts_0 + ((-1) * x2 + ((-1) * x9 + 0)) ≤ 0 := by
  first | assumption | omega | grind
def o_Mo_write_at_s5019_3 : or_T := (2, 10, [(0, (2, 0, 0, [165])), (2, (0, 0, 99999997, [])), (5, (0, 0, 2, [])), (8, (0, 0, 99999999, [])), (9, (0, 1, 3, []))], [(23, [8, 2, 5], [0, 1, -1, -1]), (24, [0, 3], []), (20, [3, 8], [30, 1, 1, 1, 170, -1, 0, 0])], [], [], [(20, [3, 2, 9], [30, 0, 1, 1, 170, -1, 0, 0, -1, 0, 0])], [], [(9, 5, 1, 1)])
theorem oo_Mo_write_at_s5019_3 {kA : Nat → ClassId} : or_ok PRD kA GG o_Mo_write_at_s5019_3 := by
  refine or_mk fun A ta ws vs hD hth hl => ?_
  intro t0 r0 t2 k2 t5 k5 t8 k8 t9 k9 d0 f1 f2 f3
  replace f1 := shm_136 f1
  replace f2 := shm_5 f2
  replace f3 := shm_132 f3
  have q3 : n_v vs 3 = n_v vs 0 := f2.symm
  simp only [q3] at f3
  have kz_0_170 := fdq_11 hD hth r0
  have nf0 : fc_1 PRD (20, [3, 2, 9], [30, 0, 1, 1, 170, -1, 0, 0, -1, 0, 0]) ws (vs) := by
    refine ⟨nf_in hl rfl, sgq_159 ?_⟩
    · show 1 * w_fi ws (n_v vs 3) 170 + ((-1) * v_iv (n_v vs 2) + ((-1) * v_iv (n_v vs 9) + 0)) ≤ 0
      rw [q3]
      exact vc_Mo_write_at_s5019_3_0 (v_iv (n_v vs 2)) (v_iv (n_v vs 5)) (v_iv (n_v vs 8)) (v_iv (n_v vs 9)) (w_fi ws (n_v vs 0) 170) k2 k5 k8 k9 d0 f1 f3 kz_0_170
  refine ⟨(fun _ h => (by cases h)), [], trivial, ?_, (fun _ h => (by cases h))⟩
  rw [List.append_nil]
  exact List.forall_mem_cons.mpr ⟨⟨show (20 : Nat) < 100 from by decide, nf0⟩, (fun _ h => (by cases h))⟩
def n_Mo_write_at_s5019_an : List an_T := [(2, [(0, (2, 0, 0, [165])), (1, (2, 0, 0, [5019])), (2, (0, 0, 3, []))], [], (0, 0), [(0, 0, 99998), (1, 5, 3), (0, 0, 100000)], [], [], [(2, 0, 0, [165]), (2, 0, 0, [5019]), (0, 0, 99999997, [])], 0, [], [(20, [3, 2, 5], [30, 0, 1, 1, 170, (Int.negSucc 0), 0, 0, (Int.negSucc 0), 0, 0]), (24, [0, 3], [])])]
def t_Mo_write_at_s5019_ct : ct_L := [(16, 448, e_jStr_length_v387), (43, 453, e_jStr_charAt_v388), (52, 1280, e_Mo_write1)]
set_option maxRecDepth 100000 in
theorem c_Mo_write_at_s5019 {l : Launch} {D : va_G} {kA : Nat → ClassId} (h_Mo_write1 : ct_ok PRD l D kA GG y_Mo_write1 z_Mo_write1 e_Mo_write1) : ct_ok PRD l D kA GG y_Mo_write_at_s5019 z_Mo_write_at_s5019 e_Mo_write_at_s5019 := chk_all_ok (FT := []) (PT := []) (CT := t_Mo_write_at_s5019_ct) (KT := []) (NT := []) (AN := n_Mo_write_at_s5019_an) (OT := [o_Mo_write_at_s5019_0, o_Mo_write_at_s5019_1, o_Mo_write_at_s5019_2, o_Mo_write_at_s5019_3]) 3 200 (List.forall_mem_cons.mpr ⟨oo_Mo_write_at_s5019_0, List.forall_mem_cons.mpr ⟨oo_Mo_write_at_s5019_1, List.forall_mem_cons.mpr ⟨oo_Mo_write_at_s5019_2, List.forall_mem_cons.mpr ⟨oo_Mo_write_at_s5019_3, List.forall_mem_nil _⟩⟩⟩⟩) (by decide +kernel) ⟨List.forall_mem_nil _, List.forall_mem_nil _, List.forall_mem_cons.mpr ⟨cl_string (y := y_jStr_length) (i := 19) rfl rfl (by decide +kernel) rfl c_jStr_length_v387 wm_674 wm_11 wm_3003 wm_672 wm_673 ⟨by decide, by decide, by decide +kernel⟩ (by decide), List.forall_mem_cons.mpr ⟨cl_string (y := y_jStr_charAt) (i := 19) rfl rfl (by decide +kernel) rfl c_jStr_charAt_v388 wm_684 wm_11 wm_3004 wm_682 wm_683 ⟨by decide, by decide, by decide +kernel⟩ (by decide), List.forall_mem_cons.mpr ⟨cl_virtual (y := y_Mo_write1) (ci := 13) rfl rfl ⟨_, _, rfl⟩ (by decide +kernel) h_Mo_write1 wm_3914 wm_9 wm_3911 wm_3913 wv_24_8 ⟨by decide, by decide, by decide +kernel⟩ (by decide), List.forall_mem_nil _⟩⟩⟩, List.forall_mem_nil _, List.forall_mem_nil _, GG_pl⟩ (by decide +kernel)
set_option maxHeartbeats 4000000 in
theorem vc_Mo_write_at_s5020_0_0 (x2 : Int) (x3 : Int) (texts_0 : Int) (k2 : 0 ≤ x2 ∧ x2 ≤ 99999997) (k3 : 0 ≤ x3 ∧ x3 ≤ 0) (f0 : 1 * texts_0 + ((-1) * x2 + 0) ≤ 0) (kz_0_170 : 0 ≤ texts_0 ∧ texts_0 ≤ 100000000) : 1 * texts_0 + ((-1) * x2 + ((-1) * x3 + 0)) ≤ 0 := by
  first | assumption | omega | grind
def o_Mo_write_at_s5020_0 : or_T := (2, 4, [(0, (2, 0, 0, [165])), (2, (0, 0, 99999997, [])), (3, (0, 0, 0, []))], [(20, [0, 2], [30, 0, 1, 1, 170, -1, 0, 0])], [], [], [(20, [0, 2, 3], [30, 0, 1, 1, 170, -1, 0, 0, -1, 0, 0]), (24, [0, 0], [])], [], [])
theorem oo_Mo_write_at_s5020_0 {kA : Nat → ClassId} : or_ok PRD kA GG o_Mo_write_at_s5020_0 := by
  refine or_mk fun A ta ws vs hD hth hl => ?_
  intro t0 r0 t2 k2 t3 k3 f0
  have kz_0_170 := fdq_11 hD hth r0
  have nf0 : fc_1 PRD (20, [0, 2, 3], [30, 0, 1, 1, 170, -1, 0, 0, -1, 0, 0]) ws (vs) := ⟨nf_in hl rfl, sgq_159 (vc_Mo_write_at_s5020_0_0 (v_iv (n_v vs 2)) (v_iv (n_v vs 3)) (w_fi ws (n_v vs 0) 170) k2 k3 (shm_131 f0) kz_0_170)⟩
  have nf1 : fc_1 PRD (24, [0, 0], []) ws (vs) := by
    refine ⟨nf_in hl rfl, sgq_1 ?_⟩
    · show n_v vs 0 = n_v vs 0
      first | rfl | simp only [true_and]
  refine ⟨(fun _ h => (by cases h)), [], trivial, ?_, (fun _ h => (by cases h))⟩
  rw [List.append_nil]
  exact List.forall_mem_cons.mpr ⟨⟨show (20 : Nat) < 100 from by decide, nf0⟩, List.forall_mem_cons.mpr ⟨⟨show (24 : Nat) < 100 from by decide, nf1⟩, (fun _ h => (by cases h))⟩⟩
set_option maxHeartbeats 4000000 in
theorem vc_Mo_write_at_s5020_1_0 (x2 : Int) (x5 : Int) (texts_0 : Int) (k2 : 0 ≤ x2 ∧ x2 ≤ 99999997) (k5 : 3 ≤ x5 ∧ x5 ≤ 3) (f1 : 1 * texts_0 + ((-1) * x2 + ((-1) * x5 + 0)) ≤ 0) (kz_0_170 : 0 ≤ texts_0 ∧ texts_0 ≤ 100000000) : 1 * texts_0 + ((-1) * x2 + 0) ≤ 3 := by
  first | assumption | omega | grind
def o_Mo_write_at_s5020_1 : or_T := (25, 7, [(0, (2, 0, 0, [165])), (2, (0, 0, 99999997, [])), (5, (0, 3, 3, []))], [(20, [3, 2, 5], [30, 0, 1, 1, 170, -1, 0, 0, -1, 0, 0]), (24, [0, 3], [])], [], [], [(20, [0, 2], [30, 3, 1, 1, 170, -1, 0, 0])], [], [])
theorem oo_Mo_write_at_s5020_1 {kA : Nat → ClassId} : or_ok PRD kA GG o_Mo_write_at_s5020_1 := by
  refine or_mk fun A ta ws vs hD hth hl => ?_
  intro t0 r0 t2 k2 t5 k5 f1 f2
  replace f1 := shm_159 f1
  replace f2 := shm_5 f2
  have q3 : n_v vs 3 = n_v vs 0 := f2.symm
  simp only [q3] at f1
  have kz_0_170 := fdq_11 hD hth r0
  have nf0 : fc_1 PRD (20, [0, 2], [30, 3, 1, 1, 170, -1, 0, 0]) ws (vs) := ⟨nf_in hl rfl, sgq_212 (vc_Mo_write_at_s5020_1_0 (v_iv (n_v vs 2)) (v_iv (n_v vs 5)) (w_fi ws (n_v vs 0) 170) k2 k5 f1 kz_0_170)⟩
  refine ⟨(fun _ h => (by cases h)), [], trivial, ?_, (fun _ h => (by cases h))⟩
  rw [List.append_nil]
  exact List.forall_mem_cons.mpr ⟨⟨show (20 : Nat) < 100 from by decide, nf0⟩, (fun _ h => (by cases h))⟩
set_option maxHeartbeats 4000000 in
theorem vc_Mo_write_at_s5020_2_0 (texts_0 : Int) (gx : Int) (kz_0_170 : 0 ≤ texts_0 ∧ texts_0 ≤ 100000000) (ex2 : gx = texts_0) : 1 * texts_0 + ((-1) * gx + 0) ≤ 0 := by
  first | assumption | omega | grind
set_option maxHeartbeats 4000000 in
theorem vc_Mo_write_at_s5020_2_1 (x2 : Int) (x5 : Int) (texts_0 : Int) (gx : Int) (k2 : 0 ≤ x2 ∧ x2 ≤ 99999997) (k5 : 0 ≤ x5 ∧ x5 ≤ 2) (f1 : 1 * texts_0 + ((-1) * x2 + ((-1) * x5 + 0)) ≤ 0) (kz_0_170 : 0 ≤ texts_0 ∧ texts_0 ≤ 100000000) (ex2 : gx = texts_0) : 1 * gx + ((-1) * x2 + ((-1) * x5 + 0)) ≤ 0 := by
  first | assumption | omega | grind
def o_Mo_write_at_s5020_2 : or_T := (16, 8, [(0, (2, 0, 0, [165])), (2, (0, 0, 99999997, [])), (3, (2, 0, 0, [165])), (5, (0, 0, 2, [])), (6, (0, 3, 3, []))], [(7, [5, 6], [2]), (20, [3, 2, 5], [30, 0, 1, 1, 170, -1, 0, 0, -1, 0, 0]), (24, [0, 3], [])], [], [(0, 0, 99999999, [])], [(20, [3, 8], [30, 0, 1, 1, 170, -1, 0, 0]), (23, [8, 2, 5], [0, 1, -1, -1])], [], [])
theorem oo_Mo_write_at_s5020_2 {kA : Nat → ClassId} : or_ok PRD kA GG o_Mo_write_at_s5020_2 := by
  refine or_mk fun A ta ws vs hD hth hl => ?_
  intro t0 r0 t2 k2 t3 r3 t5 k5 t6 k6 f0 f1 f2
  replace f0 := shm_6 f0
  replace f1 := shm_159 f1
  replace f2 := shm_5 f2
  have q3 : n_v vs 3 = n_v vs 0 := f2.symm
  simp only [q3] at f1
  have kz_0_170 := fdq_11 hD hth r0
  have kv0 := fdq_11 hD hth r0
  obtain ⟨x, ex, hx⟩ := iv_ex (ta := ta) (lo := 0) (hi := 99999999) (z := w_fi ws (n_v vs 0) 170) (by omega) (by omega) (by omega) (by omega)
  have ex2 : v_iv (Value.int x) = w_fi ws (n_v vs 0) 170 := ex
  have ex3 : 0 ≤ v_iv (Value.int x) ∧ v_iv (Value.int x) ≤ 99999999 := tv_rng hx
  have e_2 : n_v (vs ++ [Value.int x]) 2 = n_v vs 2 := n_v_old (by rw [hl]; decide)
  have e_3 : n_v (vs ++ [Value.int x]) 3 = n_v vs 3 := n_v_old (by rw [hl]; decide)
  have e_5 : n_v (vs ++ [Value.int x]) 5 = n_v vs 5 := n_v_old (by rw [hl]; decide)
  have e_8 : n_v (vs ++ [Value.int x]) 8 = Value.int x := n_v_new hl
  have nf0 : fc_1 PRD (20, [3, 8], [30, 0, 1, 1, 170, -1, 0, 0]) ws (vs ++ [Value.int x]) := by
    refine ⟨nf_inA hl rfl, sgq_131 ?_⟩
    · show 1 * w_fi ws (n_v (vs ++ [Value.int x]) 3) 170 + ((-1) * v_iv (n_v (vs ++ [Value.int x]) 8) + 0) ≤ 0
      simp only [e_3, e_8, q3]
      exact vc_Mo_write_at_s5020_2_0 (w_fi ws (n_v vs 0) 170) (v_iv (Value.int x)) kz_0_170 ex2
  have nf1 : fc_1 PRD (23, [8, 2, 5], [0, 1, -1, -1]) ws (vs ++ [Value.int x]) := by
    refine ⟨nf_inA hl rfl, sgq_136 ?_⟩
    · show 1 * v_iv (n_v (vs ++ [Value.int x]) 8) + ((-1) * v_iv (n_v (vs ++ [Value.int x]) 2) + ((-1) * v_iv (n_v (vs ++ [Value.int x]) 5) + 0)) ≤ 0
      simp only [e_2, e_5, e_8]
      exact vc_Mo_write_at_s5020_2_1 (v_iv (n_v vs 2)) (v_iv (n_v vs 5)) (w_fi ws (n_v vs 0) 170) (v_iv (Value.int x)) k2 k5 f1 kz_0_170 ex2
  exact ⟨(fun _ h => (by cases h)), [Value.int x], ag_one hx, List.forall_mem_cons.mpr ⟨⟨show (20 : Nat) < 100 from by decide, nf0⟩, List.forall_mem_cons.mpr ⟨⟨show (23 : Nat) < 100 from by decide, nf1⟩, (fun _ h => (by cases h))⟩⟩, (fun _ h => (by cases h))⟩
set_option maxHeartbeats 4000000 in
theorem vc_Mo_write_at_s5020_3_0 (x2 : Int) (x5 : Int) (x8 : Int) (x9 : Int) (texts_0 : Int) (k2 : 0 ≤ x2 ∧ x2 ≤ 99999997) (k5 : 0 ≤ x5 ∧ x5 ≤ 2) (k8 : 0 ≤ x8 ∧ x8 ≤ 99999999) (k9 : 1 ≤ x9 ∧ x9 ≤ 3) (d0 : x5 + 1 ≤ x9 ∧ x9 ≤ x5 + 1) (f1 : 1 * x8 + ((-1) * x2 + ((-1) * x5 + 0)) ≤ 0) (f3 : 1 * texts_0 + ((-1) * x8 + 0) ≤ 1) (kz_0_170 : 0 ≤ texts_0 ∧ texts_0 ≤ 100000000) : 1 * texts_0 + ((-1) * x2 + ((-1) * x9 + 0)) ≤ 0 := by
  first | assumption | omega | grind
def o_Mo_write_at_s5020_3 : or_T := (2, 10, [(0, (2, 0, 0, [165])), (2, (0, 0, 99999997, [])), (5, (0, 0, 2, [])), (8, (0, 0, 99999999, [])), (9, (0, 1, 3, []))], [(23, [8, 2, 5], [0, 1, -1, -1]), (24, [0, 3], []), (20, [3, 8], [30, 1, 1, 1, 170, -1, 0, 0])], [], [], [(20, [3, 2, 9], [30, 0, 1, 1, 170, -1, 0, 0, -1, 0, 0])], [], [(9, 5, 1, 1)])
theorem oo_Mo_write_at_s5020_3 {kA : Nat → ClassId} : or_ok PRD kA GG o_Mo_write_at_s5020_3 := by
  refine or_mk fun A ta ws vs hD hth hl => ?_
  intro t0 r0 t2 k2 t5 k5 t8 k8 t9 k9 d0 f1 f2 f3
  replace f1 := shm_136 f1
  replace f2 := shm_5 f2
  replace f3 := shm_132 f3
  have q3 : n_v vs 3 = n_v vs 0 := f2.symm
  simp only [q3] at f3
  have kz_0_170 := fdq_11 hD hth r0
  have nf0 : fc_1 PRD (20, [3, 2, 9], [30, 0, 1, 1, 170, -1, 0, 0, -1, 0, 0]) ws (vs) := by
    refine ⟨nf_in hl rfl, sgq_159 ?_⟩
    · show 1 * w_fi ws (n_v vs 3) 170 + ((-1) * v_iv (n_v vs 2) + ((-1) * v_iv (n_v vs 9) + 0)) ≤ 0
      rw [q3]
      exact vc_Mo_write_at_s5020_3_0 (v_iv (n_v vs 2)) (v_iv (n_v vs 5)) (v_iv (n_v vs 8)) (v_iv (n_v vs 9)) (w_fi ws (n_v vs 0) 170) k2 k5 k8 k9 d0 f1 f3 kz_0_170
  refine ⟨(fun _ h => (by cases h)), [], trivial, ?_, (fun _ h => (by cases h))⟩
  rw [List.append_nil]
  exact List.forall_mem_cons.mpr ⟨⟨show (20 : Nat) < 100 from by decide, nf0⟩, (fun _ h => (by cases h))⟩
def n_Mo_write_at_s5020_an : List an_T := [(2, [(0, (2, 0, 0, [165])), (1, (2, 0, 0, [5020])), (2, (0, 0, 3, []))], [], (0, 0), [(0, 0, 99998), (1, 5, 3), (0, 0, 100000)], [], [], [(2, 0, 0, [165]), (2, 0, 0, [5020]), (0, 0, 99999997, [])], 0, [], [(20, [3, 2, 5], [30, 0, 1, 1, 170, (Int.negSucc 0), 0, 0, (Int.negSucc 0), 0, 0]), (24, [0, 3], [])])]
def t_Mo_write_at_s5020_ct : ct_L := [(16, 448, e_jStr_length_v390), (43, 453, e_jStr_charAt_v391), (52, 1280, e_Mo_write1)]
set_option maxRecDepth 100000 in
theorem c_Mo_write_at_s5020 {l : Launch} {D : va_G} {kA : Nat → ClassId} (h_Mo_write1 : ct_ok PRD l D kA GG y_Mo_write1 z_Mo_write1 e_Mo_write1) : ct_ok PRD l D kA GG y_Mo_write_at_s5020 z_Mo_write_at_s5020 e_Mo_write_at_s5020 := chk_all_ok (FT := []) (PT := []) (CT := t_Mo_write_at_s5020_ct) (KT := []) (NT := []) (AN := n_Mo_write_at_s5020_an) (OT := [o_Mo_write_at_s5020_0, o_Mo_write_at_s5020_1, o_Mo_write_at_s5020_2, o_Mo_write_at_s5020_3]) 3 200 (List.forall_mem_cons.mpr ⟨oo_Mo_write_at_s5020_0, List.forall_mem_cons.mpr ⟨oo_Mo_write_at_s5020_1, List.forall_mem_cons.mpr ⟨oo_Mo_write_at_s5020_2, List.forall_mem_cons.mpr ⟨oo_Mo_write_at_s5020_3, List.forall_mem_nil _⟩⟩⟩⟩) (by decide +kernel) ⟨List.forall_mem_nil _, List.forall_mem_nil _, List.forall_mem_cons.mpr ⟨cl_string (y := y_jStr_length) (i := 20) rfl rfl (by decide +kernel) rfl c_jStr_length_v390 wm_674 wm_11 wm_3003 wm_672 wm_673 ⟨by decide, by decide, by decide +kernel⟩ (by decide), List.forall_mem_cons.mpr ⟨cl_string (y := y_jStr_charAt) (i := 20) rfl rfl (by decide +kernel) rfl c_jStr_charAt_v391 wm_684 wm_11 wm_3004 wm_682 wm_683 ⟨by decide, by decide, by decide +kernel⟩ (by decide), List.forall_mem_cons.mpr ⟨cl_virtual (y := y_Mo_write1) (ci := 13) rfl rfl ⟨_, _, rfl⟩ (by decide +kernel) h_Mo_write1 wm_3914 wm_9 wm_3911 wm_3913 wv_24_8 ⟨by decide, by decide, by decide +kernel⟩ (by decide), List.forall_mem_nil _⟩⟩⟩, List.forall_mem_nil _, List.forall_mem_nil _, GG_pl⟩ (by decide +kernel)
set_option maxHeartbeats 4000000 in
theorem vc_Mo_write_at_s5021_0_0 (x2 : Int) (x3 : Int) (texts_0 : Int) (k2 : 0 ≤ x2 ∧ x2 ≤ 99999991) (k3 : 0 ≤ x3 ∧ x3 ≤ 0) (f0 : 1 * texts_0 + ((-1) * x2 + 0) ≤ 0) (kz_0_170 : 0 ≤ texts_0 ∧ texts_0 ≤ 100000000) : 1 * texts_0 + ((-1) * x2 + ((-1) * x3 + 0)) ≤ 0 := by
  first | assumption | omega | grind
def o_Mo_write_at_s5021_0 : or_T := (2, 4, [(0, (2, 0, 0, [165])), (2, (0, 0, 99999991, [])), (3, (0, 0, 0, []))], [(20, [0, 2], [30, 0, 1, 1, 170, -1, 0, 0])], [], [], [(20, [0, 2, 3], [30, 0, 1, 1, 170, -1, 0, 0, -1, 0, 0]), (24, [0, 0], [])], [], [])
theorem oo_Mo_write_at_s5021_0 {kA : Nat → ClassId} : or_ok PRD kA GG o_Mo_write_at_s5021_0 := by
  refine or_mk fun A ta ws vs hD hth hl => ?_
  intro t0 r0 t2 k2 t3 k3 f0
  have kz_0_170 := fdq_11 hD hth r0
  have nf0 : fc_1 PRD (20, [0, 2, 3], [30, 0, 1, 1, 170, -1, 0, 0, -1, 0, 0]) ws (vs) := ⟨nf_in hl rfl, sgq_159 (vc_Mo_write_at_s5021_0_0 (v_iv (n_v vs 2)) (v_iv (n_v vs 3)) (w_fi ws (n_v vs 0) 170) k2 k3 (shm_131 f0) kz_0_170)⟩
  have nf1 : fc_1 PRD (24, [0, 0], []) ws (vs) := by
    refine ⟨nf_in hl rfl, sgq_1 ?_⟩
    · show n_v vs 0 = n_v vs 0
      first | rfl | simp only [true_and]
  refine ⟨(fun _ h => (by cases h)), [], trivial, ?_, (fun _ h => (by cases h))⟩
  rw [List.append_nil]
  exact List.forall_mem_cons.mpr ⟨⟨show (20 : Nat) < 100 from by decide, nf0⟩, List.forall_mem_cons.mpr ⟨⟨show (24 : Nat) < 100 from by decide, nf1⟩, (fun _ h => (by cases h))⟩⟩
set_option maxHeartbeats 4000000 in
theorem vc_Mo_write_at_s5021_1_0 (x2 : Int) (x5 : Int) (texts_0 : Int) (k2 : 0 ≤ x2 ∧ x2 ≤ 99999991) (k5 : 9 ≤ x5 ∧ x5 ≤ 9) (f1 : 1 * texts_0 + ((-1) * x2 + ((-1) * x5 + 0)) ≤ 0) (kz_0_170 : 0 ≤ texts_0 ∧ texts_0 ≤ 100000000) : 1 * texts_0 + ((-1) * x2 + 0) ≤ 9 := by
  first | assumption | omega | grind
def o_Mo_write_at_s5021_1 : or_T := (25, 7, [(0, (2, 0, 0, [165])), (2, (0, 0, 99999991, [])), (5, (0, 9, 9, []))], [(20, [3, 2, 5], [30, 0, 1, 1, 170, -1, 0, 0, -1, 0, 0]), (24, [0, 3], [])], [], [], [(20, [0, 2], [30, 9, 1, 1, 170, -1, 0, 0])], [], [])
theorem oo_Mo_write_at_s5021_1 {kA : Nat → ClassId} : or_ok PRD kA GG o_Mo_write_at_s5021_1 := by
  refine or_mk fun A ta ws vs hD hth hl => ?_
  intro t0 r0 t2 k2 t5 k5 f1 f2
  replace f1 := shm_159 f1
  replace f2 := shm_5 f2
  have q3 : n_v vs 3 = n_v vs 0 := f2.symm
  simp only [q3] at f1
  have kz_0_170 := fdq_11 hD hth r0
  have nf0 : fc_1 PRD (20, [0, 2], [30, 9, 1, 1, 170, -1, 0, 0]) ws (vs) := ⟨nf_in hl rfl, sgq_213 (vc_Mo_write_at_s5021_1_0 (v_iv (n_v vs 2)) (v_iv (n_v vs 5)) (w_fi ws (n_v vs 0) 170) k2 k5 f1 kz_0_170)⟩
  refine ⟨(fun _ h => (by cases h)), [], trivial, ?_, (fun _ h => (by cases h))⟩
  rw [List.append_nil]
  exact List.forall_mem_cons.mpr ⟨⟨show (20 : Nat) < 100 from by decide, nf0⟩, (fun _ h => (by cases h))⟩
set_option maxHeartbeats 4000000 in
theorem vc_Mo_write_at_s5021_2_0 (texts_0 : Int) (gx : Int) (kz_0_170 : 0 ≤ texts_0 ∧ texts_0 ≤ 100000000) (ex2 : gx = texts_0) : 1 * texts_0 + ((-1) * gx + 0) ≤ 0 := by
  first | assumption | omega | grind
set_option maxHeartbeats 4000000 in
theorem vc_Mo_write_at_s5021_2_1 (x2 : Int) (x5 : Int) (texts_0 : Int) (gx : Int) (k2 : 0 ≤ x2 ∧ x2 ≤ 99999991) (k5 : 0 ≤ x5 ∧ x5 ≤ 8) (f1 : 1 * texts_0 + ((-1) * x2 + ((-1) * x5 + 0)) ≤ 0) (kz_0_170 : 0 ≤ texts_0 ∧ texts_0 ≤ 100000000) (ex2 : gx = texts_0) : 1 * gx + ((-1) * x2 + ((-1) * x5 + 0)) ≤ 0 := by
  first | assumption | omega | grind
def o_Mo_write_at_s5021_2 : or_T := (16, 8, [(0, (2, 0, 0, [165])), (2, (0, 0, 99999991, [])), (3, (2, 0, 0, [165])), (5, (0, 0, 8, [])), (6, (0, 9, 9, []))], [(7, [5, 6], [2]), (20, [3, 2, 5], [30, 0, 1, 1, 170, -1, 0, 0, -1, 0, 0]), (24, [0, 3], [])], [], [(0, 0, 99999999, [])], [(20, [3, 8], [30, 0, 1, 1, 170, -1, 0, 0]), (23, [8, 2, 5], [0, 1, -1, -1])], [], [])
theorem oo_Mo_write_at_s5021_2 {kA : Nat → ClassId} : or_ok PRD kA GG o_Mo_write_at_s5021_2 := by
  refine or_mk fun A ta ws vs hD hth hl => ?_
  intro t0 r0 t2 k2 t3 r3 t5 k5 t6 k6 f0 f1 f2
  replace f0 := shm_6 f0
  replace f1 := shm_159 f1
  replace f2 := shm_5 f2
  have q3 : n_v vs 3 = n_v vs 0 := f2.symm
  simp only [q3] at f1
  have kz_0_170 := fdq_11 hD hth r0
  have kv0 := fdq_11 hD hth r0
  obtain ⟨x, ex, hx⟩ := iv_ex (ta := ta) (lo := 0) (hi := 99999999) (z := w_fi ws (n_v vs 0) 170) (by omega) (by omega) (by omega) (by omega)
  have ex2 : v_iv (Value.int x) = w_fi ws (n_v vs 0) 170 := ex
  have ex3 : 0 ≤ v_iv (Value.int x) ∧ v_iv (Value.int x) ≤ 99999999 := tv_rng hx
  have e_2 : n_v (vs ++ [Value.int x]) 2 = n_v vs 2 := n_v_old (by rw [hl]; decide)
  have e_3 : n_v (vs ++ [Value.int x]) 3 = n_v vs 3 := n_v_old (by rw [hl]; decide)
  have e_5 : n_v (vs ++ [Value.int x]) 5 = n_v vs 5 := n_v_old (by rw [hl]; decide)
  have e_8 : n_v (vs ++ [Value.int x]) 8 = Value.int x := n_v_new hl
  have nf0 : fc_1 PRD (20, [3, 8], [30, 0, 1, 1, 170, -1, 0, 0]) ws (vs ++ [Value.int x]) := by
    refine ⟨nf_inA hl rfl, sgq_131 ?_⟩
    · show 1 * w_fi ws (n_v (vs ++ [Value.int x]) 3) 170 + ((-1) * v_iv (n_v (vs ++ [Value.int x]) 8) + 0) ≤ 0
      simp only [e_3, e_8, q3]
      exact vc_Mo_write_at_s5021_2_0 (w_fi ws (n_v vs 0) 170) (v_iv (Value.int x)) kz_0_170 ex2
  have nf1 : fc_1 PRD (23, [8, 2, 5], [0, 1, -1, -1]) ws (vs ++ [Value.int x]) := by
    refine ⟨nf_inA hl rfl, sgq_136 ?_⟩
    · show 1 * v_iv (n_v (vs ++ [Value.int x]) 8) + ((-1) * v_iv (n_v (vs ++ [Value.int x]) 2) + ((-1) * v_iv (n_v (vs ++ [Value.int x]) 5) + 0)) ≤ 0
      simp only [e_2, e_5, e_8]
      exact vc_Mo_write_at_s5021_2_1 (v_iv (n_v vs 2)) (v_iv (n_v vs 5)) (w_fi ws (n_v vs 0) 170) (v_iv (Value.int x)) k2 k5 f1 kz_0_170 ex2
  exact ⟨(fun _ h => (by cases h)), [Value.int x], ag_one hx, List.forall_mem_cons.mpr ⟨⟨show (20 : Nat) < 100 from by decide, nf0⟩, List.forall_mem_cons.mpr ⟨⟨show (23 : Nat) < 100 from by decide, nf1⟩, (fun _ h => (by cases h))⟩⟩, (fun _ h => (by cases h))⟩
set_option maxHeartbeats 4000000 in
theorem vc_Mo_write_at_s5021_3_0 (x2 : Int) (x5 : Int) (x8 : Int) (x9 : Int) (texts_0 : Int) (k2 : 0 ≤ x2 ∧ x2 ≤ 99999991) (k5 : 0 ≤ x5 ∧ x5 ≤ 8) (k8 : 0 ≤ x8 ∧ x8 ≤ 99999999) (k9 : 1 ≤ x9 ∧ x9 ≤ 9) (d0 : x5 + 1 ≤ x9 ∧ x9 ≤ x5 + 1) (f1 : 1 * x8 + ((-1) * x2 + ((-1) * x5 + 0)) ≤ 0) (f3 : 1 * texts_0 + ((-1) * x8 + 0) ≤ 1) (kz_0_170 : 0 ≤ texts_0 ∧ texts_0 ≤ 100000000) : 1 * texts_0 + ((-1) * x2 + ((-1) * x9 + 0)) ≤ 0 := by
  first | assumption | omega | grind
def o_Mo_write_at_s5021_3 : or_T := (2, 10, [(0, (2, 0, 0, [165])), (2, (0, 0, 99999991, [])), (5, (0, 0, 8, [])), (8, (0, 0, 99999999, [])), (9, (0, 1, 9, []))], [(23, [8, 2, 5], [0, 1, -1, -1]), (24, [0, 3], []), (20, [3, 8], [30, 1, 1, 1, 170, -1, 0, 0])], [], [], [(20, [3, 2, 9], [30, 0, 1, 1, 170, -1, 0, 0, -1, 0, 0])], [], [(9, 5, 1, 1)])
theorem oo_Mo_write_at_s5021_3 {kA : Nat → ClassId} : or_ok PRD kA GG o_Mo_write_at_s5021_3 := by
  refine or_mk fun A ta ws vs hD hth hl => ?_
  intro t0 r0 t2 k2 t5 k5 t8 k8 t9 k9 d0 f1 f2 f3
  replace f1 := shm_136 f1
  replace f2 := shm_5 f2
  replace f3 := shm_132 f3
  have q3 : n_v vs 3 = n_v vs 0 := f2.symm
  simp only [q3] at f3
  have kz_0_170 := fdq_11 hD hth r0
  have nf0 : fc_1 PRD (20, [3, 2, 9], [30, 0, 1, 1, 170, -1, 0, 0, -1, 0, 0]) ws (vs) := by
    refine ⟨nf_in hl rfl, sgq_159 ?_⟩
    · show 1 * w_fi ws (n_v vs 3) 170 + ((-1) * v_iv (n_v vs 2) + ((-1) * v_iv (n_v vs 9) + 0)) ≤ 0
      rw [q3]
      exact vc_Mo_write_at_s5021_3_0 (v_iv (n_v vs 2)) (v_iv (n_v vs 5)) (v_iv (n_v vs 8)) (v_iv (n_v vs 9)) (w_fi ws (n_v vs 0) 170) k2 k5 k8 k9 d0 f1 f3 kz_0_170
  refine ⟨(fun _ h => (by cases h)), [], trivial, ?_, (fun _ h => (by cases h))⟩
  rw [List.append_nil]
  exact List.forall_mem_cons.mpr ⟨⟨show (20 : Nat) < 100 from by decide, nf0⟩, (fun _ h => (by cases h))⟩
def n_Mo_write_at_s5021_an : List an_T := [(2, [(0, (2, 0, 0, [165])), (1, (2, 0, 0, [5021])), (2, (0, 0, 9, []))], [], (0, 0), [(0, 0, 99998), (1, 5, 9), (0, 0, 100000)], [], [], [(2, 0, 0, [165]), (2, 0, 0, [5021]), (0, 0, 99999991, [])], 0, [], [(20, [3, 2, 5], [30, 0, 1, 1, 170, (Int.negSucc 0), 0, 0, (Int.negSucc 0), 0, 0]), (24, [0, 3], [])])]
def t_Mo_write_at_s5021_ct : ct_L := [(16, 448, e_jStr_length_v393), (43, 453, e_jStr_charAt_v394), (52, 1280, e_Mo_write1)]
set_option maxRecDepth 100000 in
theorem c_Mo_write_at_s5021 {l : Launch} {D : va_G} {kA : Nat → ClassId} (h_Mo_write1 : ct_ok PRD l D kA GG y_Mo_write1 z_Mo_write1 e_Mo_write1) : ct_ok PRD l D kA GG y_Mo_write_at_s5021 z_Mo_write_at_s5021 e_Mo_write_at_s5021 := chk_all_ok (FT := []) (PT := []) (CT := t_Mo_write_at_s5021_ct) (KT := []) (NT := []) (AN := n_Mo_write_at_s5021_an) (OT := [o_Mo_write_at_s5021_0, o_Mo_write_at_s5021_1, o_Mo_write_at_s5021_2, o_Mo_write_at_s5021_3]) 3 200 (List.forall_mem_cons.mpr ⟨oo_Mo_write_at_s5021_0, List.forall_mem_cons.mpr ⟨oo_Mo_write_at_s5021_1, List.forall_mem_cons.mpr ⟨oo_Mo_write_at_s5021_2, List.forall_mem_cons.mpr ⟨oo_Mo_write_at_s5021_3, List.forall_mem_nil _⟩⟩⟩⟩) (by decide +kernel) ⟨List.forall_mem_nil _, List.forall_mem_nil _, List.forall_mem_cons.mpr ⟨cl_string (y := y_jStr_length) (i := 21) rfl rfl (by decide +kernel) rfl c_jStr_length_v393 wm_674 wm_11 wm_3003 wm_672 wm_673 ⟨by decide, by decide, by decide +kernel⟩ (by decide), List.forall_mem_cons.mpr ⟨cl_string (y := y_jStr_charAt) (i := 21) rfl rfl (by decide +kernel) rfl c_jStr_charAt_v394 wm_684 wm_11 wm_3004 wm_682 wm_683 ⟨by decide, by decide, by decide +kernel⟩ (by decide), List.forall_mem_cons.mpr ⟨cl_virtual (y := y_Mo_write1) (ci := 13) rfl rfl ⟨_, _, rfl⟩ (by decide +kernel) h_Mo_write1 wm_3914 wm_9 wm_3911 wm_3913 wv_24_8 ⟨by decide, by decide, by decide +kernel⟩ (by decide), List.forall_mem_nil _⟩⟩⟩, List.forall_mem_nil _, List.forall_mem_nil _, GG_pl⟩ (by decide +kernel)
set_option maxHeartbeats 4000000 in
theorem vc_Mo_write_at_s5045_0_0 (x2 : Int) (x3 : Int) (texts_0 : Int) (k2 : 0 ≤ x2 ∧ x2 ≤ 99999999) (k3 : 0 ≤ x3 ∧ x3 ≤ 0) (f0 : 1 * texts_0 + ((-1) * x2 + 0) ≤ 0) (kz_0_170 : 0 ≤ texts_0 ∧ texts_0 ≤ 100000000) : 1 * texts_0 + ((-1) * x2 + ((-1) * x3 + 0)) ≤ 0 := by
  first | assumption | omega | grind
def o_Mo_write_at_s5045_0 : or_T := (2, 4, [(0, (2, 0, 0, [165])), (2, (0, 0, 99999999, [])), (3, (0, 0, 0, []))], [(20, [0, 2], [30, 0, 1, 1, 170, -1, 0, 0])], [], [], [(20, [0, 2, 3], [30, 0, 1, 1, 170, -1, 0, 0, -1, 0, 0]), (24, [0, 0], [])], [], [])
theorem oo_Mo_write_at_s5045_0 {kA : Nat → ClassId} : or_ok PRD kA GG o_Mo_write_at_s5045_0 := by
  refine or_mk fun A ta ws vs hD hth hl => ?_
  intro t0 r0 t2 k2 t3 k3 f0
  have kz_0_170 := fdq_11 hD hth r0
  have nf0 : fc_1 PRD (20, [0, 2, 3], [30, 0, 1, 1, 170, -1, 0, 0, -1, 0, 0]) ws (vs) := ⟨nf_in hl rfl, sgq_159 (vc_Mo_write_at_s5045_0_0 (v_iv (n_v vs 2)) (v_iv (n_v vs 3)) (w_fi ws (n_v vs 0) 170) k2 k3 (shm_131 f0) kz_0_170)⟩
  have nf1 : fc_1 PRD (24, [0, 0], []) ws (vs) := by
    refine ⟨nf_in hl rfl, sgq_1 ?_⟩
    · show n_v vs 0 = n_v vs 0
      first | rfl | simp only [true_and]
  refine ⟨(fun _ h => (by cases h)), [], trivial, ?_, (fun _ h => (by cases h))⟩
  rw [List.append_nil]
  exact List.forall_mem_cons.mpr ⟨⟨show (20 : Nat) < 100 from by decide, nf0⟩, List.forall_mem_cons.mpr ⟨⟨show (24 : Nat) < 100 from by decide, nf1⟩, (fun _ h => (by cases h))⟩⟩
set_option maxHeartbeats 4000000 in
theorem vc_Mo_write_at_s5045_1_0 (x2 : Int) (x5 : Int) (texts_0 : Int) (k2 : 0 ≤ x2 ∧ x2 ≤ 99999999) (k5 : 1 ≤ x5 ∧ x5 ≤ 1) (f1 : 1 * texts_0 + ((-1) * x2 + ((-1) * x5 + 0)) ≤ 0) (kz_0_170 : 0 ≤ texts_0 ∧ texts_0 ≤ 100000000) : 1 * texts_0 + ((-1) * x2 + 0) ≤ 1 := by
  first | assumption | omega | grind
def o_Mo_write_at_s5045_1 : or_T := (25, 7, [(0, (2, 0, 0, [165])), (2, (0, 0, 99999999, [])), (5, (0, 1, 1, []))], [(20, [3, 2, 5], [30, 0, 1, 1, 170, -1, 0, 0, -1, 0, 0]), (24, [0, 3], [])], [], [], [(20, [0, 2], [30, 1, 1, 1, 170, -1, 0, 0])], [], [])
theorem oo_Mo_write_at_s5045_1 {kA : Nat → ClassId} : or_ok PRD kA GG o_Mo_write_at_s5045_1 := by
  refine or_mk fun A ta ws vs hD hth hl => ?_
  intro t0 r0 t2 k2 t5 k5 f1 f2
  replace f1 := shm_159 f1
  replace f2 := shm_5 f2
  have q3 : n_v vs 3 = n_v vs 0 := f2.symm
  simp only [q3] at f1
  have kz_0_170 := fdq_11 hD hth r0
  have nf0 : fc_1 PRD (20, [0, 2], [30, 1, 1, 1, 170, -1, 0, 0]) ws (vs) := ⟨nf_in hl rfl, sgq_132 (vc_Mo_write_at_s5045_1_0 (v_iv (n_v vs 2)) (v_iv (n_v vs 5)) (w_fi ws (n_v vs 0) 170) k2 k5 f1 kz_0_170)⟩
  refine ⟨(fun _ h => (by cases h)), [], trivial, ?_, (fun _ h => (by cases h))⟩
  rw [List.append_nil]
  exact List.forall_mem_cons.mpr ⟨⟨show (20 : Nat) < 100 from by decide, nf0⟩, (fun _ h => (by cases h))⟩
set_option maxHeartbeats 4000000 in
theorem vc_Mo_write_at_s5045_2_0 (texts_0 : Int) (gx : Int) (kz_0_170 : 0 ≤ texts_0 ∧ texts_0 ≤ 100000000) (ex2 : gx = texts_0) : 1 * texts_0 + ((-1) * gx + 0) ≤ 0 := by
  first | assumption | omega | grind
set_option maxHeartbeats 4000000 in
theorem vc_Mo_write_at_s5045_2_1 (x2 : Int) (x5 : Int) (texts_0 : Int) (gx : Int) (k2 : 0 ≤ x2 ∧ x2 ≤ 99999999) (k5 : 0 ≤ x5 ∧ x5 ≤ 0) (f1 : 1 * texts_0 + ((-1) * x2 + ((-1) * x5 + 0)) ≤ 0) (kz_0_170 : 0 ≤ texts_0 ∧ texts_0 ≤ 100000000) (ex2 : gx = texts_0) : 1 * gx + ((-1) * x2 + ((-1) * x5 + 0)) ≤ 0 := by
  first | assumption | omega | grind
def o_Mo_write_at_s5045_2 : or_T := (16, 8, [(0, (2, 0, 0, [165])), (2, (0, 0, 99999999, [])), (3, (2, 0, 0, [165])), (5, (0, 0, 0, [])), (6, (0, 1, 1, []))], [(7, [5, 6], [2]), (20, [3, 2, 5], [30, 0, 1, 1, 170, -1, 0, 0, -1, 0, 0]), (24, [0, 3], [])], [], [(0, 0, 99999999, [])], [(20, [3, 8], [30, 0, 1, 1, 170, -1, 0, 0]), (23, [8, 2, 5], [0, 1, -1, -1])], [], [])
theorem oo_Mo_write_at_s5045_2 {kA : Nat → ClassId} : or_ok PRD kA GG o_Mo_write_at_s5045_2 := by
  refine or_mk fun A ta ws vs hD hth hl => ?_
  intro t0 r0 t2 k2 t3 r3 t5 k5 t6 k6 f0 f1 f2
  replace f0 := shm_6 f0
  replace f1 := shm_159 f1
  replace f2 := shm_5 f2
  have q3 : n_v vs 3 = n_v vs 0 := f2.symm
  simp only [q3] at f1
  have kz_0_170 := fdq_11 hD hth r0
  have kv0 := fdq_11 hD hth r0
  obtain ⟨x, ex, hx⟩ := iv_ex (ta := ta) (lo := 0) (hi := 99999999) (z := w_fi ws (n_v vs 0) 170) (by omega) (by omega) (by omega) (by omega)
  have ex2 : v_iv (Value.int x) = w_fi ws (n_v vs 0) 170 := ex
  have ex3 : 0 ≤ v_iv (Value.int x) ∧ v_iv (Value.int x) ≤ 99999999 := tv_rng hx
  have e_2 : n_v (vs ++ [Value.int x]) 2 = n_v vs 2 := n_v_old (by rw [hl]; decide)
  have e_3 : n_v (vs ++ [Value.int x]) 3 = n_v vs 3 := n_v_old (by rw [hl]; decide)
  have e_5 : n_v (vs ++ [Value.int x]) 5 = n_v vs 5 := n_v_old (by rw [hl]; decide)
  have e_8 : n_v (vs ++ [Value.int x]) 8 = Value.int x := n_v_new hl
  have nf0 : fc_1 PRD (20, [3, 8], [30, 0, 1, 1, 170, -1, 0, 0]) ws (vs ++ [Value.int x]) := by
    refine ⟨nf_inA hl rfl, sgq_131 ?_⟩
    · show 1 * w_fi ws (n_v (vs ++ [Value.int x]) 3) 170 + ((-1) * v_iv (n_v (vs ++ [Value.int x]) 8) + 0) ≤ 0
      simp only [e_3, e_8, q3]
      exact vc_Mo_write_at_s5045_2_0 (w_fi ws (n_v vs 0) 170) (v_iv (Value.int x)) kz_0_170 ex2
  have nf1 : fc_1 PRD (23, [8, 2, 5], [0, 1, -1, -1]) ws (vs ++ [Value.int x]) := by
    refine ⟨nf_inA hl rfl, sgq_136 ?_⟩
    · show 1 * v_iv (n_v (vs ++ [Value.int x]) 8) + ((-1) * v_iv (n_v (vs ++ [Value.int x]) 2) + ((-1) * v_iv (n_v (vs ++ [Value.int x]) 5) + 0)) ≤ 0
      simp only [e_2, e_5, e_8]
      exact vc_Mo_write_at_s5045_2_1 (v_iv (n_v vs 2)) (v_iv (n_v vs 5)) (w_fi ws (n_v vs 0) 170) (v_iv (Value.int x)) k2 k5 f1 kz_0_170 ex2
  exact ⟨(fun _ h => (by cases h)), [Value.int x], ag_one hx, List.forall_mem_cons.mpr ⟨⟨show (20 : Nat) < 100 from by decide, nf0⟩, List.forall_mem_cons.mpr ⟨⟨show (23 : Nat) < 100 from by decide, nf1⟩, (fun _ h => (by cases h))⟩⟩, (fun _ h => (by cases h))⟩
set_option maxHeartbeats 4000000 in
theorem vc_Mo_write_at_s5045_3_0 (x2 : Int) (x5 : Int) (x8 : Int) (x9 : Int) (texts_0 : Int) (k2 : 0 ≤ x2 ∧ x2 ≤ 99999999) (k5 : 0 ≤ x5 ∧ x5 ≤ 0) (k8 : 0 ≤ x8 ∧ x8 ≤ 99999999) (k9 : 1 ≤ x9 ∧ x9 ≤ 1) (f1 : 1 * x8 + ((-1) * x2 + ((-1) * x5 + 0)) ≤ 0) (f3 : 1 * texts_0 + ((-1) * x8 + 0) ≤ 1) (kz_0_170 : 0 ≤ texts_0 ∧ texts_0 ≤ 100000000) : 1 * texts_0 + ((-1) * x2 + ((-1) * x9 + 0)) ≤ 0 := by
  first | assumption | omega | grind
def o_Mo_write_at_s5045_3 : or_T := (2, 10, [(0, (2, 0, 0, [165])), (2, (0, 0, 99999999, [])), (5, (0, 0, 0, [])), (8, (0, 0, 99999999, [])), (9, (0, 1, 1, []))], [(23, [8, 2, 5], [0, 1, -1, -1]), (24, [0, 3], []), (20, [3, 8], [30, 1, 1, 1, 170, -1, 0, 0])], [], [], [(20, [3, 2, 9], [30, 0, 1, 1, 170, -1, 0, 0, -1, 0, 0])], [], [])
theorem oo_Mo_write_at_s5045_3 {kA : Nat → ClassId} : or_ok PRD kA GG o_Mo_write_at_s5045_3 := by
  refine or_mk fun A ta ws vs hD hth hl => ?_
  intro t0 r0 t2 k2 t5 k5 t8 k8 t9 k9 f1 f2 f3
  replace f1 := shm_136 f1
  replace f2 := shm_5 f2
  replace f3 := shm_132 f3
  have q3 : n_v vs 3 = n_v vs 0 := f2.symm
  simp only [q3] at f3
  have kz_0_170 := fdq_11 hD hth r0
  have nf0 : fc_1 PRD (20, [3, 2, 9], [30, 0, 1, 1, 170, -1, 0, 0, -1, 0, 0]) ws (vs) := by
    refine ⟨nf_in hl rfl, sgq_159 ?_⟩
    · show 1 * w_fi ws (n_v vs 3) 170 + ((-1) * v_iv (n_v vs 2) + ((-1) * v_iv (n_v vs 9) + 0)) ≤ 0
      rw [q3]
      exact vc_Mo_write_at_s5045_3_0 (v_iv (n_v vs 2)) (v_iv (n_v vs 5)) (v_iv (n_v vs 8)) (v_iv (n_v vs 9)) (w_fi ws (n_v vs 0) 170) k2 k5 k8 k9 f1 f3 kz_0_170
  refine ⟨(fun _ h => (by cases h)), [], trivial, ?_, (fun _ h => (by cases h))⟩
  rw [List.append_nil]
  exact List.forall_mem_cons.mpr ⟨⟨show (20 : Nat) < 100 from by decide, nf0⟩, (fun _ h => (by cases h))⟩
def n_Mo_write_at_s5045_an : List an_T := [(2, [(0, (2, 0, 0, [165])), (1, (2, 0, 0, [5045])), (2, (0, 0, 1, []))], [], (0, 0), [(0, 0, 99998), (1, 5, 1), (0, 0, 100000)], [], [], [(2, 0, 0, [165]), (2, 0, 0, [5045]), (0, 0, 99999999, [])], 0, [], [(20, [3, 2, 5], [30, 0, 1, 1, 170, (Int.negSucc 0), 0, 0, (Int.negSucc 0), 0, 0]), (24, [0, 3], [])])]
def t_Mo_write_at_s5045_ct : ct_L := [(16, 448, e_jStr_length_v751), (43, 453, e_jStr_charAt_v752), (52, 1280, e_Mo_write1)]
set_option maxRecDepth 100000 in
theorem c_Mo_write_at_s5045 {l : Launch} {D : va_G} {kA : Nat → ClassId} (h_Mo_write1 : ct_ok PRD l D kA GG y_Mo_write1 z_Mo_write1 e_Mo_write1) : ct_ok PRD l D kA GG y_Mo_write_at_s5045 z_Mo_write_at_s5045 e_Mo_write_at_s5045 := chk_all_ok (FT := []) (PT := []) (CT := t_Mo_write_at_s5045_ct) (KT := []) (NT := []) (AN := n_Mo_write_at_s5045_an) (OT := [o_Mo_write_at_s5045_0, o_Mo_write_at_s5045_1, o_Mo_write_at_s5045_2, o_Mo_write_at_s5045_3]) 3 200 (List.forall_mem_cons.mpr ⟨oo_Mo_write_at_s5045_0, List.forall_mem_cons.mpr ⟨oo_Mo_write_at_s5045_1, List.forall_mem_cons.mpr ⟨oo_Mo_write_at_s5045_2, List.forall_mem_cons.mpr ⟨oo_Mo_write_at_s5045_3, List.forall_mem_nil _⟩⟩⟩⟩) (by decide +kernel) ⟨List.forall_mem_nil _, List.forall_mem_nil _, List.forall_mem_cons.mpr ⟨cl_string (y := y_jStr_length) (i := 45) rfl rfl (by decide +kernel) rfl c_jStr_length_v751 wm_674 wm_11 wm_3003 wm_672 wm_673 ⟨by decide, by decide, by decide +kernel⟩ (by decide), List.forall_mem_cons.mpr ⟨cl_string (y := y_jStr_charAt) (i := 45) rfl rfl (by decide +kernel) rfl c_jStr_charAt_v752 wm_684 wm_11 wm_3004 wm_682 wm_683 ⟨by decide, by decide, by decide +kernel⟩ (by decide), List.forall_mem_cons.mpr ⟨cl_virtual (y := y_Mo_write1) (ci := 13) rfl rfl ⟨_, _, rfl⟩ (by decide +kernel) h_Mo_write1 wm_3914 wm_9 wm_3911 wm_3913 wv_24_8 ⟨by decide, by decide, by decide +kernel⟩ (by decide), List.forall_mem_nil _⟩⟩⟩, List.forall_mem_nil _, List.forall_mem_nil _, GG_pl⟩ (by decide +kernel)
def n_Mo_areaOf_an : List an_T := []
def t_Mo_areaOf_ct : ct_L := [(1, 1157, e_Mo_bounds)]
set_option maxRecDepth 100000 in
theorem c_Mo_areaOf {l : Launch} {D : va_G} {kA : Nat → ClassId} (h_Mo_bounds : ct_ok PRD l D kA GG y_Mo_bounds z_Mo_bounds e_Mo_bounds) : ct_ok PRD l D kA GG y_Mo_areaOf z_Mo_areaOf e_Mo_areaOf := chk_all_ok (FT := [(1142, 13, 153), (1145, 13, 154), (1148, 13, 155), (1151, 13, 156)]) (PT := []) (CT := t_Mo_areaOf_ct) (KT := []) (NT := []) (AN := n_Mo_areaOf_an) (OT := []) 0 200 (List.forall_mem_nil _) (by decide +kernel) ⟨List.forall_mem_cons.mpr ⟨gf_Mo_1142, List.forall_mem_cons.mpr ⟨gf_Mo_1145, List.forall_mem_cons.mpr ⟨gf_Mo_1148, List.forall_mem_cons.mpr ⟨gf_Mo_1151, List.forall_mem_nil _⟩⟩⟩⟩, List.forall_mem_nil _, List.forall_mem_cons.mpr ⟨cl_virtual (y := y_Mo_bounds) (ci := 13) rfl rfl ⟨_, _, rfl⟩ (by decide +kernel) h_Mo_bounds wm_3778 wm_9 wm_3775 wm_3777 wv_23_0 ⟨by decide, by decide, by decide +kernel⟩ (by decide), List.forall_mem_nil _⟩, List.forall_mem_nil _, List.forall_mem_nil _, GG_pl⟩ (by decide +kernel)
def o_Sy_closes_0 : or_T := (1000000, 0, [], [], [], [], [], [], [])
theorem oo_Sy_closes_0 {kA : Nat → ClassId} : or_ok PRD kA GG o_Sy_closes_0 := fun _ _ _ _ _ _ _ _ _ _ => ⟨fun q h => (by cases h), [], trivial, fun f h => (by cases h), fun q h => (by cases h)⟩
def n_Sy_closes_an : List an_T := []
def t_Sy_closes_ct : ct_L := [(1, 69, e_Sy_advance), (1, 118, e_Sy_fail)]
set_option maxRecDepth 100000 in
theorem c_Sy_closes {l : Launch} {D : va_G} {kA : Nat → ClassId} (h_Sy_advance : ct_ok PRD l D kA GG y_Sy_advance z_Sy_advance e_Sy_advance) (h_Sy_fail : ct_ok PRD l D kA GG y_Sy_fail z_Sy_fail e_Sy_fail) : ct_ok PRD l D kA GG y_Sy_closes z_Sy_closes e_Sy_closes := chk_all_ok (FT := [(31, 11, 6)]) (PT := []) (CT := t_Sy_closes_ct) (KT := []) (NT := []) (AN := n_Sy_closes_an) (OT := [o_Sy_closes_0]) 0 200 (List.forall_mem_cons.mpr ⟨oo_Sy_closes_0, List.forall_mem_nil _⟩) (by decide +kernel) ⟨List.forall_mem_cons.mpr ⟨gf_Sy_31, List.forall_mem_nil _⟩, List.forall_mem_nil _, List.forall_mem_cons.mpr ⟨cl_virtual (y := y_Sy_advance) (ci := 11) rfl rfl ⟨_, _, rfl⟩ (by decide +kernel) h_Sy_advance wm_2158 wm_23 wm_2155 wm_2157 wv_10_10 ⟨by decide, by decide, by decide +kernel⟩ (by decide), List.forall_mem_cons.mpr ⟨cl_virtual (y := y_Sy_fail) (ci := 11) rfl rfl ⟨_, _, rfl⟩ (by decide +kernel) h_Sy_fail wm_2239 wm_23 wm_2236 wm_2238 wv_10_14 ⟨by decide, by decide, by decide +kernel⟩ (by decide), List.forall_mem_nil _⟩⟩, List.forall_mem_nil _, List.forall_mem_nil _, GG_pl⟩ (by decide +kernel)
def n_Sy_apply_an : List an_T := [(11, [(0, (2, 0, 0, [11])), (1, (2, 0, 0, [3])), (2, (2, 0, 0, [2])), (3, (2, 0, 0, [0])), (4, (0, 0, 24, []))], [], (0, 0), [(0, 0, 99989), (1, 4, 24), (0, 0, 100000)], [], [], [], 0, [], []), (51, [(0, (2, 0, 0, [11])), (1, (2, 0, 0, [3])), (2, (2, 0, 0, [2])), (3, (2, 0, 0, [0])), (4, (0, 0, 48, []))], [], (0, 0), [(0, 0, 99949), (1, 4, 48), (0, 0, 100000)], [], [], [], 0, [], [])]
def t_Sy_apply_ct : ct_L := [(1, 177, e_Sy_lookAtNode), (1, 181, e_Sy_runRules), (1, 188, e_Sy_lookAtEdge), (18, 166, e_jArr_fill1_v2)]
set_option maxRecDepth 100000 in
theorem c_Sy_apply {l : Launch} {D : va_G} {kA : Nat → ClassId} (h_Sy_lookAtEdge : ct_ok PRD l D kA GG y_Sy_lookAtEdge z_Sy_lookAtEdge e_Sy_lookAtEdge) (h_Sy_lookAtNode : ct_ok PRD l D kA GG y_Sy_lookAtNode z_Sy_lookAtNode e_Sy_lookAtNode) (h_Sy_runRules : ct_ok PRD l D kA GG y_Sy_runRules z_Sy_runRules e_Sy_runRules) : ct_ok PRD l D kA GG y_Sy_apply z_Sy_apply e_Sy_apply := chk_all_ok (FT := [(161, 0, 14), (172, 3, 0), (185, 3, 1)]) (PT := []) (CT := t_Sy_apply_ct) (KT := []) (NT := []) (AN := n_Sy_apply_an) (OT := []) 3 204 (List.forall_mem_nil _) (by decide +kernel) ⟨List.forall_mem_cons.mpr ⟨gf_Sy_161, List.forall_mem_cons.mpr ⟨gf_Sy_172, List.forall_mem_cons.mpr ⟨gf_Sy_185, List.forall_mem_nil _⟩⟩⟩, List.forall_mem_nil _, List.forall_mem_cons.mpr ⟨cl_virtual (y := y_Sy_lookAtNode) (ci := 11) rfl rfl ⟨_, _, rfl⟩ (by decide +kernel) h_Sy_lookAtNode wm_2290 wm_23 wm_2287 wm_2289 wv_11_8 ⟨by decide, by decide, by decide +kernel⟩ (by decide), List.forall_mem_cons.mpr ⟨cl_virtual (y := y_Sy_runRules) (ci := 11) rfl rfl ⟨_, _, rfl⟩ (by decide +kernel) h_Sy_runRules wm_2296 wm_23 wm_2293 wm_2295 wv_11_9 ⟨by decide, by decide, by decide +kernel⟩ (by decide), List.forall_mem_cons.mpr ⟨cl_virtual (y := y_Sy_lookAtEdge) (ci := 11) rfl rfl ⟨_, _, rfl⟩ (by decide +kernel) h_Sy_lookAtEdge wm_2320 wm_23 wm_2317 wm_2319 wv_11_13 ⟨by decide, by decide, by decide +kernel⟩ (by decide), List.forall_mem_cons.mpr ⟨cl_static (y := y_jArr_fill1) c_jArr_fill1_v2 wm_55 wm_4 wm_2286 wm_54 ⟨by decide, by decide, by decide +kernel⟩ (by decide), List.forall_mem_nil _⟩⟩⟩⟩, List.forall_mem_nil _, List.forall_mem_nil _, GG_pl⟩ (by decide +kernel)

set_option maxHeartbeats 4000000 in
theorem vc_Ho_writeEdges_0_0 (x2 : Int) (x3 : Int) (spareLength_0 : Int) (k2 : 0 ≤ x2 ∧ x2 ≤ 99998128) (k3 : 0 ≤ x3 ∧ x3 ≤ 0) (f0 : 1 * spareLength_0 + ((-1) * x2 + 0) ≤ 0) (kz_0_12 : 0 ≤ spareLength_0 ∧ spareLength_0 ≤ 100000000) : 1 * spareLength_0 + ((-1) * x2 + ((-39) * x3 + 0)) ≤ 0 := by
  first | assumption | omega | grind
def o_Ho_writeEdges_0 : or_T := (2, 4, [(0, (2, 0, 0, [12])), (2, (0, 0, 99998128, [])), (3, (0, 0, 0, []))], [(20, [0, 2], [30, 0, 1, 1, 12, -1, 0, 0])], [], [], [(20, [0, 2, 3], [30, 0, 1, 1, 12, -1, 0, 0, -39, 0, 0]), (24, [0, 0], [])], [], [])
theorem oo_Ho_writeEdges_0 {kA : Nat → ClassId} : or_ok PRD kA GG o_Ho_writeEdges_0 := by
  refine or_mk fun A ta ws vs hD hth hl => ?_
  intro t0 r0 t2 k2 t3 k3 f0
  have kz_0_12 := fdq_0 hD hth r0
  have nf0 : fc_1 PRD (20, [0, 2, 3], [30, 0, 1, 1, 12, -1, 0, 0, -39, 0, 0]) ws (vs) := ⟨nf_in hl rfl, sgq_214 (vc_Ho_writeEdges_0_0 (v_iv (n_v vs 2)) (v_iv (n_v vs 3)) (w_fi ws (n_v vs 0) 12) k2 k3 (shm_104 f0) kz_0_12)⟩
  have nf1 : fc_1 PRD (24, [0, 0], []) ws (vs) := by
    refine ⟨nf_in hl rfl, sgq_1 ?_⟩
    · show n_v vs 0 = n_v vs 0
      first | rfl | simp only [true_and]
  refine ⟨(fun _ h => (by cases h)), [], trivial, ?_, (fun _ h => (by cases h))⟩
  rw [List.append_nil]
  exact List.forall_mem_cons.mpr ⟨⟨show (20 : Nat) < 100 from by decide, nf0⟩, List.forall_mem_cons.mpr ⟨⟨show (24 : Nat) < 100 from by decide, nf1⟩, (fun _ h => (by cases h))⟩⟩
set_option maxHeartbeats 4000000 in
theorem vc_Ho_writeEdges_1_0 (x2 : Int) (x5 : Int) (spareLength_0 : Int) (k2 : 0 ≤ x2 ∧ x2 ≤ 99998128) (k5 : 0 ≤ x5 ∧ x5 ≤ 48) (f2 : 1 * spareLength_0 + ((-1) * x2 + ((-39) * x5 + 0)) ≤ 0) (kz_0_12 : 0 ≤ spareLength_0 ∧ spareLength_0 ≤ 100000000) : 1 * spareLength_0 + ((-1) * x2 + 0) ≤ 1872 := by
  first | assumption | omega | grind
def o_Ho_writeEdges_1 : or_T := (129, 7, [(0, (2, 0, 0, [12])), (2, (0, 0, 99998128, [])), (5, (0, 0, 48, []))], [(20, [3, 2, 5], [30, 0, 1, 1, 12, -1, 0, 0, -39, 0, 0]), (24, [0, 3], [])], [], [], [(20, [0, 2], [30, 1872, 1, 1, 12, -1, 0, 0])], [], [])
theorem oo_Ho_writeEdges_1 {kA : Nat → ClassId} : or_ok PRD kA GG o_Ho_writeEdges_1 := by
  refine or_mk fun A ta ws vs hD hth hl => ?_
  intro t0 r0 t2 k2 t5 k5 f2 f3
  replace f2 := shm_214 f2
  replace f3 := shm_5 f3
  have q3 : n_v vs 3 = n_v vs 0 := f3.symm
  simp only [q3] at f2
  have kz_0_12 := fdq_0 hD hth r0
  have nf0 : fc_1 PRD (20, [0, 2], [30, 1872, 1, 1, 12, -1, 0, 0]) ws (vs) := ⟨nf_in hl rfl, sgq_216 (vc_Ho_writeEdges_1_0 (v_iv (n_v vs 2)) (v_iv (n_v vs 5)) (w_fi ws (n_v vs 0) 12) k2 k5 f2 kz_0_12)⟩
  refine ⟨(fun _ h => (by cases h)), [], trivial, ?_, (fun _ h => (by cases h))⟩
  rw [List.append_nil]
  exact List.forall_mem_cons.mpr ⟨⟨show (20 : Nat) < 100 from by decide, nf0⟩, (fun _ h => (by cases h))⟩
set_option maxHeartbeats 4000000 in
theorem vc_Ho_writeEdges_2_0 (spareLength_0 : Int) (gx : Int) (kz_0_12 : 0 ≤ spareLength_0 ∧ spareLength_0 ≤ 100000000) (ex2 : gx = spareLength_0) : 1 * spareLength_0 + ((-1) * gx + 0) ≤ 0 := by
  first | assumption | omega | grind
set_option maxHeartbeats 4000000 in
theorem vc_Ho_writeEdges_2_1 (x2 : Int) (x5 : Int) (spareLength_0 : Int) (gx : Int) (k2 : 0 ≤ x2 ∧ x2 ≤ 99998128) (k5 : 0 ≤ x5 ∧ x5 ≤ 47) (f2 : 1 * spareLength_0 + ((-1) * x2 + ((-39) * x5 + 0)) ≤ 0) (kz_0_12 : 0 ≤ spareLength_0 ∧ spareLength_0 ≤ 100000000) (ex2 : gx = spareLength_0) : 1 * gx + ((-1) * x2 + ((-39) * x5 + 0)) ≤ 0 := by
  first | assumption | omega | grind
def o_Ho_writeEdges_2 : or_T := (32, 13, [(0, (2, 0, 0, [12])), (2, (0, 0, 99998128, [])), (3, (2, 0, 0, [12])), (4, (2, 0, 0, [3])), (5, (0, 0, 47, [])), (6, (0, 1, 48, []))], [(7, [5, 6], [2]), (9, [6, 4], [1]), (20, [3, 2, 5], [30, 0, 1, 1, 12, -1, 0, 0, -39, 0, 0]), (24, [0, 3], [])], [], [(0, 0, 99999992, [])], [(20, [3, 13], [30, 0, 1, 1, 12, -1, 0, 0]), (23, [13, 2, 5], [0, 1, -1, -39])], [], [(5, 6, -4294967296, -1)])
theorem oo_Ho_writeEdges_2 {kA : Nat → ClassId} : or_ok PRD kA GG o_Ho_writeEdges_2 := by
  refine or_mk fun A ta ws vs hD hth hl => ?_
  intro t0 r0 t2 k2 t3 r3 t4 r4 t5 k5 t6 k6 d0 f0 f1 f2 f3
  replace f0 := shm_6 f0
  replace f1 := shm_215 f1
  replace f2 := shm_214 f2
  replace f3 := shm_5 f3
  have q3 : n_v vs 3 = n_v vs 0 := f3.symm
  simp only [q3] at f2
  have g1 : v_iv (n_v vs 6) = w_fi ws (n_v vs 4) 1 := congrArg v_iv f1
  have kz_0_12 := fdq_0 hD hth r0
  have kz_4_1 := fdq_30 hD hth r4
  have kv0 := fdq_0 hD hth r0
  obtain ⟨x, ex, hx⟩ := iv_ex (ta := ta) (lo := 0) (hi := 99999992) (z := w_fi ws (n_v vs 0) 12) (by omega) (by omega) (by omega) (by omega)
  have ex2 : v_iv (Value.int x) = w_fi ws (n_v vs 0) 12 := ex
  have ex3 : 0 ≤ v_iv (Value.int x) ∧ v_iv (Value.int x) ≤ 99999992 := tv_rng hx
  have e_2 : n_v (vs ++ [Value.int x]) 2 = n_v vs 2 := n_v_old (by rw [hl]; decide)
  have e_3 : n_v (vs ++ [Value.int x]) 3 = n_v vs 3 := n_v_old (by rw [hl]; decide)
  have e_5 : n_v (vs ++ [Value.int x]) 5 = n_v vs 5 := n_v_old (by rw [hl]; decide)
  have e_13 : n_v (vs ++ [Value.int x]) 13 = Value.int x := n_v_new hl
  have nf0 : fc_1 PRD (20, [3, 13], [30, 0, 1, 1, 12, -1, 0, 0]) ws (vs ++ [Value.int x]) := by
    refine ⟨nf_inA hl rfl, sgq_104 ?_⟩
    · show 1 * w_fi ws (n_v (vs ++ [Value.int x]) 3) 12 + ((-1) * v_iv (n_v (vs ++ [Value.int x]) 13) + 0) ≤ 0
      simp only [e_3, e_13, q3]
      exact vc_Ho_writeEdges_2_0 (w_fi ws (n_v vs 0) 12) (v_iv (Value.int x)) kz_0_12 ex2
  have nf1 : fc_1 PRD (23, [13, 2, 5], [0, 1, -1, -39]) ws (vs ++ [Value.int x]) := by
    refine ⟨nf_inA hl rfl, sgq_217 ?_⟩
    · show 1 * v_iv (n_v (vs ++ [Value.int x]) 13) + ((-1) * v_iv (n_v (vs ++ [Value.int x]) 2) + ((-39) * v_iv (n_v (vs ++ [Value.int x]) 5) + 0)) ≤ 0
      simp only [e_2, e_5, e_13]
      exact vc_Ho_writeEdges_2_1 (v_iv (n_v vs 2)) (v_iv (n_v vs 5)) (w_fi ws (n_v vs 0) 12) (v_iv (Value.int x)) k2 k5 f2 kz_0_12 ex2
  exact ⟨(fun _ h => (by cases h)), [Value.int x], ag_one hx, List.forall_mem_cons.mpr ⟨⟨show (20 : Nat) < 100 from by decide, nf0⟩, List.forall_mem_cons.mpr ⟨⟨show (23 : Nat) < 100 from by decide, nf1⟩, (fun _ h => (by cases h))⟩⟩, (fun _ h => (by cases h))⟩
set_option maxHeartbeats 4000000 in
theorem vc_Ho_writeEdges_3_0 (spareLength_0 : Int) (gx : Int) (kz_0_12 : 0 ≤ spareLength_0 ∧ spareLength_0 ≤ 100000000) (ex2 : gx = spareLength_0) : 1 * spareLength_0 + ((-1) * gx + 0) ≤ 0 := by
  first | assumption | omega | grind
set_option maxHeartbeats 4000000 in
theorem vc_Ho_writeEdges_3_1 (x2 : Int) (x5 : Int) (x13 : Int) (spareLength_0 : Int) (gx : Int) (k2 : 0 ≤ x2 ∧ x2 ≤ 99998128) (k5 : 0 ≤ x5 ∧ x5 ≤ 47) (k13 : 0 ≤ x13 ∧ x13 ≤ 99999992) (f0 : 1 * x13 + ((-1) * x2 + ((-39) * x5 + 0)) ≤ 0) (f2 : 1 * spareLength_0 + ((-1) * x13 + 0) ≤ 8) (kz_0_12 : 0 ≤ spareLength_0 ∧ spareLength_0 ≤ 100000000) (ex2 : gx = spareLength_0) : 1 * gx + ((-1) * x2 + ((-39) * x5 + 0)) ≤ 8 := by
  first | assumption | omega | grind
def o_Ho_writeEdges_3 : or_T := (55, 18, [(0, (2, 0, 0, [12])), (2, (0, 0, 99998128, [])), (3, (2, 0, 0, [12])), (5, (0, 0, 47, [])), (6, (0, 1, 48, [])), (13, (0, 0, 99999992, []))], [(23, [13, 2, 5], [0, 1, -1, -39]), (24, [0, 3], []), (20, [3, 13], [30, 8, 1, 1, 12, -1, 0, 0]), (102, [13], [261336857795280739939871698507597986398208, 12012]), (23, [13, 2, 5], [0, 1, -1, -39]), (7, [5, 6], [2])], [], [(0, 0, 99999997, [])], [(20, [3, 18], [30, 0, 1, 1, 12, -1, 0, 0]), (23, [18, 2, 5], [8, 1, -1, -39])], [], [(5, 6, -4294967296, -1)])
theorem oo_Ho_writeEdges_3 {kA : Nat → ClassId} : or_ok PRD kA GG o_Ho_writeEdges_3 := by
  refine or_mk fun A ta ws vs hD hth hl => ?_
  intro t0 r0 t2 k2 t3 r3 t5 k5 t6 k6 t13 k13 d0 f0 f1 f2 ta1 w1 le1 s1 f4 f5
  replace f0 := shm_217 f0
  replace f1 := shm_5 f1
  replace f2 := shm_135 f2
  replace f4 := shm_217 f4
  replace f5 := shm_6 f5
  have q3 : n_v vs 3 = n_v vs 0 := f1.symm
  simp only [q3] at f2
  have kz_0_12 := fdq_0 hD hth r0
  have kv0 := fdq_0 hD hth r0
  obtain ⟨x, ex, hx⟩ := iv_ex (ta := ta) (lo := 0) (hi := 99999997) (z := w_fi ws (n_v vs 0) 12) (by omega) (by omega) (by omega) (by omega)
  have ex2 : v_iv (Value.int x) = w_fi ws (n_v vs 0) 12 := ex
  have ex3 : 0 ≤ v_iv (Value.int x) ∧ v_iv (Value.int x) ≤ 99999997 := tv_rng hx
  have e_2 : n_v (vs ++ [Value.int x]) 2 = n_v vs 2 := n_v_old (by rw [hl]; decide)
  have e_3 : n_v (vs ++ [Value.int x]) 3 = n_v vs 3 := n_v_old (by rw [hl]; decide)
  have e_5 : n_v (vs ++ [Value.int x]) 5 = n_v vs 5 := n_v_old (by rw [hl]; decide)
  have e_18 : n_v (vs ++ [Value.int x]) 18 = Value.int x := n_v_new hl
  have nf0 : fc_1 PRD (20, [3, 18], [30, 0, 1, 1, 12, -1, 0, 0]) ws (vs ++ [Value.int x]) := by
    refine ⟨nf_inA hl rfl, sgq_104 ?_⟩
    · show 1 * w_fi ws (n_v (vs ++ [Value.int x]) 3) 12 + ((-1) * v_iv (n_v (vs ++ [Value.int x]) 18) + 0) ≤ 0
      simp only [e_3, e_18, q3]
      exact vc_Ho_writeEdges_3_0 (w_fi ws (n_v vs 0) 12) (v_iv (Value.int x)) kz_0_12 ex2
  have nf1 : fc_1 PRD (23, [18, 2, 5], [8, 1, -1, -39]) ws (vs ++ [Value.int x]) := by
    refine ⟨nf_inA hl rfl, sgq_218 ?_⟩
    · show 1 * v_iv (n_v (vs ++ [Value.int x]) 18) + ((-1) * v_iv (n_v (vs ++ [Value.int x]) 2) + ((-39) * v_iv (n_v (vs ++ [Value.int x]) 5) + 0)) ≤ 8
      simp only [e_2, e_5, e_18]
      exact vc_Ho_writeEdges_3_1 (v_iv (n_v vs 2)) (v_iv (n_v vs 5)) (v_iv (n_v vs 13)) (w_fi ws (n_v vs 0) 12) (v_iv (Value.int x)) k2 k5 k13 f0 f2 kz_0_12 ex2
  exact ⟨(fun _ h => (by cases h)), [Value.int x], ag_one hx, List.forall_mem_cons.mpr ⟨⟨show (20 : Nat) < 100 from by decide, nf0⟩, List.forall_mem_cons.mpr ⟨⟨show (23 : Nat) < 100 from by decide, nf1⟩, (fun _ h => (by cases h))⟩⟩, (fun _ h => (by cases h))⟩
set_option maxHeartbeats 4000000 in
theorem vc_Ho_writeEdges_4_0 (spareLength_0 : Int) (gx : Int) (kz_0_12 : 0 ≤ spareLength_0 ∧ spareLength_0 ≤ 100000000) (ex2 : gx = spareLength_0) : 1 * spareLength_0 + ((-1) * gx + 0) ≤ 0 := by
  first | assumption | omega | grind
set_option maxHeartbeats 4000000 in
theorem vc_Ho_writeEdges_4_1 (x2 : Int) (x5 : Int) (x18 : Int) (spareLength_0 : Int) (gx : Int) (k2 : 0 ≤ x2 ∧ x2 ≤ 99998128) (k5 : 0 ≤ x5 ∧ x5 ≤ 47) (k18 : 0 ≤ x18 ∧ x18 ≤ 99999997) (f0 : 1 * x18 + ((-1) * x2 + ((-39) * x5 + 0)) ≤ 8) (f3 : 1 * spareLength_0 + ((-1) * x18 + 0) ≤ 3) (kz_0_12 : 0 ≤ spareLength_0 ∧ spareLength_0 ≤ 100000000) (ex2 : gx = spareLength_0) : 1 * gx + ((-1) * x2 + ((-39) * x5 + 0)) ≤ 11 := by
  first | assumption | omega | grind
def o_Ho_writeEdges_4 : or_T := (80, 23, [(0, (2, 0, 0, [12])), (2, (0, 0, 99998128, [])), (3, (2, 0, 0, [12])), (5, (0, 0, 47, [])), (6, (0, 1, 48, [])), (13, (0, 0, 99999992, [])), (18, (0, 0, 99999997, []))], [(23, [18, 2, 5], [8, 1, -1, -39]), (23, [13, 2, 5], [0, 1, -1, -39]), (24, [0, 3], []), (20, [3, 18], [30, 3, 1, 1, 12, -1, 0, 0]), (102, [18], [261336857795280739939871698507597986398208, 12012]), (23, [18, 2, 5], [8, 1, -1, -39]), (23, [13, 2, 5], [0, 1, -1, -39]), (102, [13], [261336857795280739939871698507597986398208, 12012]), (23, [13, 2, 5], [0, 1, -1, -39]), (7, [5, 6], [2])], [], [(0, 0, 99999992, [])], [(20, [3, 23], [30, 0, 1, 1, 12, -1, 0, 0]), (23, [23, 2, 5], [11, 1, -1, -39])], [], [(5, 6, -4294967296, -1)])
theorem oo_Ho_writeEdges_4 {kA : Nat → ClassId} : or_ok PRD kA GG o_Ho_writeEdges_4 := by
  refine or_mk fun A ta ws vs hD hth hl => ?_
  intro t0 r0 t2 k2 t3 r3 t5 k5 t6 k6 t13 k13 t18 k18 d0 f0 f1 f2 f3 ta1 w1 le1 s1 f5 f6 ta2 w2 le2 s2 f8 f9
  replace f0 := shm_218 f0
  replace f1 := shm_217 f1
  replace f2 := shm_5 f2
  replace f3 := shm_206 f3
  replace f5 := shm_218 f5
  replace f6 := shm_217 f6
  replace f8 := shm_217 f8
  replace f9 := shm_6 f9
  have q3 : n_v vs 3 = n_v vs 0 := f2.symm
  simp only [q3] at f3
  have kz_0_12 := fdq_0 hD hth r0
  have kv0 := fdq_0 hD hth r0
  obtain ⟨x, ex, hx⟩ := iv_ex (ta := ta) (lo := 0) (hi := 99999992) (z := w_fi ws (n_v vs 0) 12) (by omega) (by omega) (by omega) (by omega)
  have ex2 : v_iv (Value.int x) = w_fi ws (n_v vs 0) 12 := ex
  have ex3 : 0 ≤ v_iv (Value.int x) ∧ v_iv (Value.int x) ≤ 99999992 := tv_rng hx
  have e_2 : n_v (vs ++ [Value.int x]) 2 = n_v vs 2 := n_v_old (by rw [hl]; decide)
  have e_3 : n_v (vs ++ [Value.int x]) 3 = n_v vs 3 := n_v_old (by rw [hl]; decide)
  have e_5 : n_v (vs ++ [Value.int x]) 5 = n_v vs 5 := n_v_old (by rw [hl]; decide)
  have e_23 : n_v (vs ++ [Value.int x]) 23 = Value.int x := n_v_new hl
  have nf0 : fc_1 PRD (20, [3, 23], [30, 0, 1, 1, 12, -1, 0, 0]) ws (vs ++ [Value.int x]) := by
    refine ⟨nf_inA hl rfl, sgq_104 ?_⟩
    · show 1 * w_fi ws (n_v (vs ++ [Value.int x]) 3) 12 + ((-1) * v_iv (n_v (vs ++ [Value.int x]) 23) + 0) ≤ 0
      simp only [e_3, e_23, q3]
      exact vc_Ho_writeEdges_4_0 (w_fi ws (n_v vs 0) 12) (v_iv (Value.int x)) kz_0_12 ex2
  have nf1 : fc_1 PRD (23, [23, 2, 5], [11, 1, -1, -39]) ws (vs ++ [Value.int x]) := by
    refine ⟨nf_inA hl rfl, sgq_219 ?_⟩
    · show 1 * v_iv (n_v (vs ++ [Value.int x]) 23) + ((-1) * v_iv (n_v (vs ++ [Value.int x]) 2) + ((-39) * v_iv (n_v (vs ++ [Value.int x]) 5) + 0)) ≤ 11
      simp only [e_2, e_5, e_23]
      exact vc_Ho_writeEdges_4_1 (v_iv (n_v vs 2)) (v_iv (n_v vs 5)) (v_iv (n_v vs 18)) (w_fi ws (n_v vs 0) 12) (v_iv (Value.int x)) k2 k5 k18 f0 f3 kz_0_12 ex2
  exact ⟨(fun _ h => (by cases h)), [Value.int x], ag_one hx, List.forall_mem_cons.mpr ⟨⟨show (20 : Nat) < 100 from by decide, nf0⟩, List.forall_mem_cons.mpr ⟨⟨show (23 : Nat) < 100 from by decide, nf1⟩, (fun _ h => (by cases h))⟩⟩, (fun _ h => (by cases h))⟩
set_option maxHeartbeats 4000000 in
theorem vc_Ho_writeEdges_5_0 (spareLength_0 : Int) (gx : Int) (kz_0_12 : 0 ≤ spareLength_0 ∧ spareLength_0 ≤ 100000000) (ex2 : gx = spareLength_0) : 1 * spareLength_0 + ((-1) * gx + 0) ≤ 0 := by
  first | assumption | omega | grind
set_option maxHeartbeats 4000000 in
theorem vc_Ho_writeEdges_5_1 (x2 : Int) (x5 : Int) (x23 : Int) (spareLength_0 : Int) (gx : Int) (k2 : 0 ≤ x2 ∧ x2 ≤ 99998128) (k5 : 0 ≤ x5 ∧ x5 ≤ 47) (k23 : 0 ≤ x23 ∧ x23 ≤ 99999992) (f0 : 1 * x23 + ((-1) * x2 + ((-39) * x5 + 0)) ≤ 11) (f4 : 1 * spareLength_0 + ((-1) * x23 + 0) ≤ 8) (kz_0_12 : 0 ≤ spareLength_0 ∧ spareLength_0 ≤ 100000000) (ex2 : gx = spareLength_0) : 1 * gx + ((-1) * x2 + ((-39) * x5 + 0)) ≤ 37 := by
  first | assumption | omega | grind
def o_Ho_writeEdges_5 : or_T := (120, 28, [(0, (2, 0, 0, [12])), (2, (0, 0, 99998128, [])), (3, (2, 0, 0, [12])), (5, (0, 0, 47, [])), (6, (0, 1, 48, [])), (13, (0, 0, 99999992, [])), (18, (0, 0, 99999997, [])), (23, (0, 0, 99999992, []))], [(23, [23, 2, 5], [11, 1, -1, -39]), (23, [18, 2, 5], [8, 1, -1, -39]), (23, [13, 2, 5], [0, 1, -1, -39]), (24, [0, 3], []), (20, [3, 23], [30, 8, 1, 1, 12, -1, 0, 0]), (102, [23], [261336857795280739939871698507597986398208, 12012]), (23, [23, 2, 5], [11, 1, -1, -39]), (23, [18, 2, 5], [8, 1, -1, -39]), (23, [13, 2, 5], [0, 1, -1, -39]), (102, [18], [261336857795280739939871698507597986398208, 12012]), (23, [18, 2, 5], [8, 1, -1, -39]), (23, [13, 2, 5], [0, 1, -1, -39]), (102, [13], [261336857795280739939871698507597986398208, 12012]), (23, [13, 2, 5], [0, 1, -1, -39]), (7, [5, 6], [2])], [], [(0, 0, 99999998, [])], [(20, [3, 28], [30, 0, 1, 1, 12, -1, 0, 0]), (23, [28, 2, 5], [37, 1, -1, -39])], [], [(5, 6, -4294967296, -1)])
theorem oo_Ho_writeEdges_5 {kA : Nat → ClassId} : or_ok PRD kA GG o_Ho_writeEdges_5 := by
  refine or_mk fun A ta ws vs hD hth hl => ?_
  intro t0 r0 t2 k2 t3 r3 t5 k5 t6 k6 t13 k13 t18 k18 t23 k23 d0 f0 f1 f2 f3 f4 ta1 w1 le1 s1 f6 f7 f8 ta2 w2 le2 s2 f10 f11 ta3 w3 le3 s3 f13 f14
  replace f0 := shm_219 f0
  replace f1 := shm_218 f1
  replace f2 := shm_217 f2
  replace f3 := shm_5 f3
  replace f4 := shm_135 f4
  replace f6 := shm_219 f6
  replace f7 := shm_218 f7
  replace f8 := shm_217 f8
  replace f10 := shm_218 f10
  replace f11 := shm_217 f11
  replace f13 := shm_217 f13
  replace f14 := shm_6 f14
  have q3 : n_v vs 3 = n_v vs 0 := f3.symm
  simp only [q3] at f4
  have kz_0_12 := fdq_0 hD hth r0
  have kv0 := fdq_0 hD hth r0
  obtain ⟨x, ex, hx⟩ := iv_ex (ta := ta) (lo := 0) (hi := 99999998) (z := w_fi ws (n_v vs 0) 12) (by omega) (by omega) (by omega) (by omega)
  have ex2 : v_iv (Value.int x) = w_fi ws (n_v vs 0) 12 := ex
  have ex3 : 0 ≤ v_iv (Value.int x) ∧ v_iv (Value.int x) ≤ 99999998 := tv_rng hx
  have e_2 : n_v (vs ++ [Value.int x]) 2 = n_v vs 2 := n_v_old (by rw [hl]; decide)
  have e_3 : n_v (vs ++ [Value.int x]) 3 = n_v vs 3 := n_v_old (by rw [hl]; decide)
  have e_5 : n_v (vs ++ [Value.int x]) 5 = n_v vs 5 := n_v_old (by rw [hl]; decide)
  have e_28 : n_v (vs ++ [Value.int x]) 28 = Value.int x := n_v_new hl
  have nf0 : fc_1 PRD (20, [3, 28], [30, 0, 1, 1, 12, -1, 0, 0]) ws (vs ++ [Value.int x]) := by
    refine ⟨nf_inA hl rfl, sgq_104 ?_⟩
    · show 1 * w_fi ws (n_v (vs ++ [Value.int x]) 3) 12 + ((-1) * v_iv (n_v (vs ++ [Value.int x]) 28) + 0) ≤ 0
      simp only [e_3, e_28, q3]
      exact vc_Ho_writeEdges_5_0 (w_fi ws (n_v vs 0) 12) (v_iv (Value.int x)) kz_0_12 ex2
  have nf1 : fc_1 PRD (23, [28, 2, 5], [37, 1, -1, -39]) ws (vs ++ [Value.int x]) := by
    refine ⟨nf_inA hl rfl, sgq_220 ?_⟩
    · show 1 * v_iv (n_v (vs ++ [Value.int x]) 28) + ((-1) * v_iv (n_v (vs ++ [Value.int x]) 2) + ((-39) * v_iv (n_v (vs ++ [Value.int x]) 5) + 0)) ≤ 37
      simp only [e_2, e_5, e_28]
      exact vc_Ho_writeEdges_5_1 (v_iv (n_v vs 2)) (v_iv (n_v vs 5)) (v_iv (n_v vs 23)) (w_fi ws (n_v vs 0) 12) (v_iv (Value.int x)) k2 k5 k23 f0 f4 kz_0_12 ex2
  exact ⟨(fun _ h => (by cases h)), [Value.int x], ag_one hx, List.forall_mem_cons.mpr ⟨⟨show (20 : Nat) < 100 from by decide, nf0⟩, List.forall_mem_cons.mpr ⟨⟨show (23 : Nat) < 100 from by decide, nf1⟩, (fun _ h => (by cases h))⟩⟩, (fun _ h => (by cases h))⟩
set_option maxHeartbeats 4000000 in
theorem vc_Ho_writeEdges_6_0 (x2 : Int) (x5 : Int) (x28 : Int) (x29 : Int) (spareLength_0 : Int) (k2 : 0 ≤ x2 ∧ x2 ≤ 99998128) (k5 : 0 ≤ x5 ∧ x5 ≤ 47) (k28 : 0 ≤ x28 ∧ x28 ≤ 99999998) (k29 : 1 ≤ x29 ∧ x29 ≤ 48) (d0 : x5 + 1 ≤ x29 ∧ x29 ≤ x5 + 1) (f1 : 1 * x28 + ((-1) * x2 + ((-39) * x5 + 0)) ≤ 37) (f6 : 1 * spareLength_0 + ((-1) * x28 + 0) ≤ 2) (kz_0_12 : 0 ≤ spareLength_0 ∧ spareLength_0 ≤ 100000000) : 1 * spareLength_0 + ((-1) * x2 + ((-39) * x29 + 0)) ≤ 0 := by
  first | assumption | omega | grind
def o_Ho_writeEdges_6 : or_T := (2, 30, [(0, (2, 0, 0, [12])), (2, (0, 0, 99998128, [])), (5, (0, 0, 47, [])), (28, (0, 0, 99999998, [])), (29, (0, 1, 48, []))], [(23, [28, 2, 5], [37, 1, -1, -39]), (24, [0, 3], []), (20, [3, 28], [30, 2, 1, 1, 12, -1, 0, 0])], [], [], [(20, [3, 2, 29], [30, 0, 1, 1, 12, -1, 0, 0, -39, 0, 0])], [], [(29, 5, 1, 1)])
theorem oo_Ho_writeEdges_6 {kA : Nat → ClassId} : or_ok PRD kA GG o_Ho_writeEdges_6 := by
  refine or_mk fun A ta ws vs hD hth hl => ?_
  intro t0 r0 t2 k2 t5 k5 t28 k28 t29 k29 d0 f1 f5 f6
  replace f1 := shm_220 f1
  replace f5 := shm_5 f5
  replace f6 := shm_204 f6
  have q3 : n_v vs 3 = n_v vs 0 := f5.symm
  simp only [q3] at f6
  have kz_0_12 := fdq_0 hD hth r0
  have nf0 : fc_1 PRD (20, [3, 2, 29], [30, 0, 1, 1, 12, -1, 0, 0, -39, 0, 0]) ws (vs) := by
    refine ⟨nf_in hl rfl, sgq_214 ?_⟩
    · show 1 * w_fi ws (n_v vs 3) 12 + ((-1) * v_iv (n_v vs 2) + ((-39) * v_iv (n_v vs 29) + 0)) ≤ 0
      rw [q3]
      exact vc_Ho_writeEdges_6_0 (v_iv (n_v vs 2)) (v_iv (n_v vs 5)) (v_iv (n_v vs 28)) (v_iv (n_v vs 29)) (w_fi ws (n_v vs 0) 12) k2 k5 k28 k29 d0 f1 f6 kz_0_12
  refine ⟨(fun _ h => (by cases h)), [], trivial, ?_, (fun _ h => (by cases h))⟩
  rw [List.append_nil]
  exact List.forall_mem_cons.mpr ⟨⟨show (20 : Nat) < 100 from by decide, nf0⟩, (fun _ h => (by cases h))⟩
set_option maxHeartbeats 4000000 in
theorem vc_Ho_writeEdges_7_0 (spareLength_0 : Int) (gx : Int) (kz_0_12 : 0 ≤ spareLength_0 ∧ spareLength_0 ≤ 100000000) (ex2 : gx = spareLength_0) : 1 * spareLength_0 + ((-1) * gx + 0) ≤ 0 := by
  first | assumption | omega | grind
set_option maxHeartbeats 4000000 in
theorem vc_Ho_writeEdges_7_1 (x2 : Int) (x5 : Int) (x23 : Int) (spareLength_0 : Int) (gx : Int) (k2 : 0 ≤ x2 ∧ x2 ≤ 99998128) (k5 : 0 ≤ x5 ∧ x5 ≤ 47) (k23 : 0 ≤ x23 ∧ x23 ≤ 99999992) (f0 : 1 * x23 + ((-1) * x2 + ((-39) * x5 + 0)) ≤ 11) (f4 : 1 * spareLength_0 + ((-1) * x23 + 0) ≤ 8) (kz_0_12 : 0 ≤ spareLength_0 ∧ spareLength_0 ≤ 100000000) (ex2 : gx = spareLength_0) : 1 * gx + ((-1) * x2 + ((-39) * x5 + 0)) ≤ 19 := by
  first | assumption | omega | grind
def o_Ho_writeEdges_7 : or_T := (97, 28, [(0, (2, 0, 0, [12])), (2, (0, 0, 99998128, [])), (3, (2, 0, 0, [12])), (5, (0, 0, 47, [])), (6, (0, 1, 48, [])), (13, (0, 0, 99999992, [])), (18, (0, 0, 99999997, [])), (23, (0, 0, 99999992, []))], [(23, [23, 2, 5], [11, 1, -1, -39]), (23, [18, 2, 5], [8, 1, -1, -39]), (23, [13, 2, 5], [0, 1, -1, -39]), (24, [0, 3], []), (20, [3, 23], [30, 8, 1, 1, 12, -1, 0, 0]), (102, [23], [261336857795280739939871698507597986398208, 12012]), (23, [23, 2, 5], [11, 1, -1, -39]), (23, [18, 2, 5], [8, 1, -1, -39]), (23, [13, 2, 5], [0, 1, -1, -39]), (102, [18], [261336857795280739939871698507597986398208, 12012]), (23, [18, 2, 5], [8, 1, -1, -39]), (23, [13, 2, 5], [0, 1, -1, -39]), (102, [13], [261336857795280739939871698507597986398208, 12012]), (23, [13, 2, 5], [0, 1, -1, -39]), (7, [5, 6], [2])], [], [(0, 0, 99999991, [])], [(20, [3, 28], [30, 0, 1, 1, 12, -1, 0, 0]), (23, [28, 2, 5], [19, 1, -1, -39])], [], [(5, 6, -4294967296, -1)])
theorem oo_Ho_writeEdges_7 {kA : Nat → ClassId} : or_ok PRD kA GG o_Ho_writeEdges_7 := by
  refine or_mk fun A ta ws vs hD hth hl => ?_
  intro t0 r0 t2 k2 t3 r3 t5 k5 t6 k6 t13 k13 t18 k18 t23 k23 d0 f0 f1 f2 f3 f4 ta1 w1 le1 s1 f6 f7 f8 ta2 w2 le2 s2 f10 f11 ta3 w3 le3 s3 f13 f14
  replace f0 := shm_219 f0
  replace f1 := shm_218 f1
  replace f2 := shm_217 f2
  replace f3 := shm_5 f3
  replace f4 := shm_135 f4
  replace f6 := shm_219 f6
  replace f7 := shm_218 f7
  replace f8 := shm_217 f8
  replace f10 := shm_218 f10
  replace f11 := shm_217 f11
  replace f13 := shm_217 f13
  replace f14 := shm_6 f14
  have q3 : n_v vs 3 = n_v vs 0 := f3.symm
  simp only [q3] at f4
  have kz_0_12 := fdq_0 hD hth r0
  have kv0 := fdq_0 hD hth r0
  obtain ⟨x, ex, hx⟩ := iv_ex (ta := ta) (lo := 0) (hi := 99999991) (z := w_fi ws (n_v vs 0) 12) (by omega) (by omega) (by omega) (by omega)
  have ex2 : v_iv (Value.int x) = w_fi ws (n_v vs 0) 12 := ex
  have ex3 : 0 ≤ v_iv (Value.int x) ∧ v_iv (Value.int x) ≤ 99999991 := tv_rng hx
  have e_2 : n_v (vs ++ [Value.int x]) 2 = n_v vs 2 := n_v_old (by rw [hl]; decide)
  have e_3 : n_v (vs ++ [Value.int x]) 3 = n_v vs 3 := n_v_old (by rw [hl]; decide)
  have e_5 : n_v (vs ++ [Value.int x]) 5 = n_v vs 5 := n_v_old (by rw [hl]; decide)
  have e_28 : n_v (vs ++ [Value.int x]) 28 = Value.int x := n_v_new hl
  have nf0 : fc_1 PRD (20, [3, 28], [30, 0, 1, 1, 12, -1, 0, 0]) ws (vs ++ [Value.int x]) := by
    refine ⟨nf_inA hl rfl, sgq_104 ?_⟩
    · show 1 * w_fi ws (n_v (vs ++ [Value.int x]) 3) 12 + ((-1) * v_iv (n_v (vs ++ [Value.int x]) 28) + 0) ≤ 0
      simp only [e_3, e_28, q3]
      exact vc_Ho_writeEdges_7_0 (w_fi ws (n_v vs 0) 12) (v_iv (Value.int x)) kz_0_12 ex2
  have nf1 : fc_1 PRD (23, [28, 2, 5], [19, 1, -1, -39]) ws (vs ++ [Value.int x]) := by
    refine ⟨nf_inA hl rfl, sgq_221 ?_⟩
    · show 1 * v_iv (n_v (vs ++ [Value.int x]) 28) + ((-1) * v_iv (n_v (vs ++ [Value.int x]) 2) + ((-39) * v_iv (n_v (vs ++ [Value.int x]) 5) + 0)) ≤ 19
      simp only [e_2, e_5, e_28]
      exact vc_Ho_writeEdges_7_1 (v_iv (n_v vs 2)) (v_iv (n_v vs 5)) (v_iv (n_v vs 23)) (w_fi ws (n_v vs 0) 12) (v_iv (Value.int x)) k2 k5 k23 f0 f4 kz_0_12 ex2
  exact ⟨(fun _ h => (by cases h)), [Value.int x], ag_one hx, List.forall_mem_cons.mpr ⟨⟨show (20 : Nat) < 100 from by decide, nf0⟩, List.forall_mem_cons.mpr ⟨⟨show (23 : Nat) < 100 from by decide, nf1⟩, (fun _ h => (by cases h))⟩⟩, (fun _ h => (by cases h))⟩
set_option maxHeartbeats 4000000 in
theorem vc_Ho_writeEdges_8_0 (spareLength_0 : Int) (gx : Int) (kz_0_12 : 0 ≤ spareLength_0 ∧ spareLength_0 ≤ 100000000) (ex2 : gx = spareLength_0) : 1 * spareLength_0 + ((-1) * gx + 0) ≤ 0 := by
  first | assumption | omega | grind
set_option maxHeartbeats 4000000 in
theorem vc_Ho_writeEdges_8_1 (x2 : Int) (x5 : Int) (x28 : Int) (spareLength_0 : Int) (gx : Int) (k2 : 0 ≤ x2 ∧ x2 ≤ 99998128) (k5 : 0 ≤ x5 ∧ x5 ≤ 47) (k28 : 0 ≤ x28 ∧ x28 ≤ 99999991) (f0 : 1 * x28 + ((-1) * x2 + ((-39) * x5 + 0)) ≤ 19) (f5 : 1 * spareLength_0 + ((-1) * x28 + 0) ≤ 9) (kz_0_12 : 0 ≤ spareLength_0 ∧ spareLength_0 ≤ 100000000) (ex2 : gx = spareLength_0) : 1 * gx + ((-1) * x2 + ((-39) * x5 + 0)) ≤ 28 := by
  first | assumption | omega | grind
def o_Ho_writeEdges_8 : or_T := (107, 30, [(0, (2, 0, 0, [12])), (2, (0, 0, 99998128, [])), (3, (2, 0, 0, [12])), (5, (0, 0, 47, [])), (6, (0, 1, 48, [])), (13, (0, 0, 99999992, [])), (18, (0, 0, 99999997, [])), (23, (0, 0, 99999992, [])), (28, (0, 0, 99999991, []))], [(23, [28, 2, 5], [19, 1, -1, -39]), (23, [23, 2, 5], [11, 1, -1, -39]), (23, [18, 2, 5], [8, 1, -1, -39]), (23, [13, 2, 5], [0, 1, -1, -39]), (24, [0, 3], []), (20, [3, 28], [30, 9, 1, 1, 12, -1, 0, 0]), (102, [28], [261336857795280739939871698507597986398208, 12012]), (23, [28, 2, 5], [19, 1, -1, -39]), (23, [23, 2, 5], [11, 1, -1, -39]), (23, [18, 2, 5], [8, 1, -1, -39]), (23, [13, 2, 5], [0, 1, -1, -39]), (102, [23], [261336857795280739939871698507597986398208, 12012]), (23, [23, 2, 5], [11, 1, -1, -39]), (23, [18, 2, 5], [8, 1, -1, -39]), (23, [13, 2, 5], [0, 1, -1, -39]), (102, [18], [261336857795280739939871698507597986398208, 12012]), (23, [18, 2, 5], [8, 1, -1, -39]), (23, [13, 2, 5], [0, 1, -1, -39]), (102, [13], [261336857795280739939871698507597986398208, 12012]), (23, [13, 2, 5], [0, 1, -1, -39]), (7, [5, 6], [2])], [], [(0, 0, 99999992, [])], [(20, [3, 30], [30, 0, 1, 1, 12, -1, 0, 0]), (23, [30, 2, 5], [28, 1, -1, -39])], [], [(5, 6, -4294967296, -1)])
theorem oo_Ho_writeEdges_8 {kA : Nat → ClassId} : or_ok PRD kA GG o_Ho_writeEdges_8 := by
  refine or_mk fun A ta ws vs hD hth hl => ?_
  intro t0 r0 t2 k2 t3 r3 t5 k5 t6 k6 t13 k13 t18 k18 t23 k23 t28 k28 d0 f0 f1 f2 f3 f4 f5 ta1 w1 le1 s1 f7 f8 f9 f10 ta2 w2 le2 s2 f12 f13 f14 ta3 w3 le3 s3 f16 f17 ta4 w4 le4 s4 f19 f20
  replace f0 := shm_221 f0
  replace f1 := shm_219 f1
  replace f2 := shm_218 f2
  replace f3 := shm_217 f3
  replace f4 := shm_5 f4
  replace f5 := shm_207 f5
  replace f7 := shm_221 f7
  replace f8 := shm_219 f8
  replace f9 := shm_218 f9
  replace f10 := shm_217 f10
  replace f12 := shm_219 f12
  replace f13 := shm_218 f13
  replace f14 := shm_217 f14
  replace f16 := shm_218 f16
  replace f17 := shm_217 f17
  replace f19 := shm_217 f19
  replace f20 := shm_6 f20
  have q3 : n_v vs 3 = n_v vs 0 := f4.symm
  simp only [q3] at f5
  have kz_0_12 := fdq_0 hD hth r0
  have kv0 := fdq_0 hD hth r0
  obtain ⟨x, ex, hx⟩ := iv_ex (ta := ta) (lo := 0) (hi := 99999992) (z := w_fi ws (n_v vs 0) 12) (by omega) (by omega) (by omega) (by omega)
  have ex2 : v_iv (Value.int x) = w_fi ws (n_v vs 0) 12 := ex
  have ex3 : 0 ≤ v_iv (Value.int x) ∧ v_iv (Value.int x) ≤ 99999992 := tv_rng hx
  have e_2 : n_v (vs ++ [Value.int x]) 2 = n_v vs 2 := n_v_old (by rw [hl]; decide)
  have e_3 : n_v (vs ++ [Value.int x]) 3 = n_v vs 3 := n_v_old (by rw [hl]; decide)
  have e_5 : n_v (vs ++ [Value.int x]) 5 = n_v vs 5 := n_v_old (by rw [hl]; decide)
  have e_30 : n_v (vs ++ [Value.int x]) 30 = Value.int x := n_v_new hl
  have nf0 : fc_1 PRD (20, [3, 30], [30, 0, 1, 1, 12, -1, 0, 0]) ws (vs ++ [Value.int x]) := by
    refine ⟨nf_inA hl rfl, sgq_104 ?_⟩
    · show 1 * w_fi ws (n_v (vs ++ [Value.int x]) 3) 12 + ((-1) * v_iv (n_v (vs ++ [Value.int x]) 30) + 0) ≤ 0
      simp only [e_3, e_30, q3]
      exact vc_Ho_writeEdges_8_0 (w_fi ws (n_v vs 0) 12) (v_iv (Value.int x)) kz_0_12 ex2
  have nf1 : fc_1 PRD (23, [30, 2, 5], [28, 1, -1, -39]) ws (vs ++ [Value.int x]) := by
    refine ⟨nf_inA hl rfl, sgq_222 ?_⟩
    · show 1 * v_iv (n_v (vs ++ [Value.int x]) 30) + ((-1) * v_iv (n_v (vs ++ [Value.int x]) 2) + ((-39) * v_iv (n_v (vs ++ [Value.int x]) 5) + 0)) ≤ 28
      simp only [e_2, e_5, e_30]
      exact vc_Ho_writeEdges_8_1 (v_iv (n_v vs 2)) (v_iv (n_v vs 5)) (v_iv (n_v vs 28)) (w_fi ws (n_v vs 0) 12) (v_iv (Value.int x)) k2 k5 k28 f0 f5 kz_0_12 ex2
  exact ⟨(fun _ h => (by cases h)), [Value.int x], ag_one hx, List.forall_mem_cons.mpr ⟨⟨show (20 : Nat) < 100 from by decide, nf0⟩, List.forall_mem_cons.mpr ⟨⟨show (23 : Nat) < 100 from by decide, nf1⟩, (fun _ h => (by cases h))⟩⟩, (fun _ h => (by cases h))⟩
set_option maxHeartbeats 4000000 in
theorem vc_Ho_writeEdges_9_0 (spareLength_0 : Int) (gx : Int) (kz_0_12 : 0 ≤ spareLength_0 ∧ spareLength_0 ≤ 100000000) (ex2 : gx = spareLength_0) : 1 * spareLength_0 + ((-1) * gx + 0) ≤ 0 := by
  first | assumption | omega | grind
set_option maxHeartbeats 4000000 in
theorem vc_Ho_writeEdges_9_1 (x2 : Int) (x5 : Int) (x30 : Int) (spareLength_0 : Int) (gx : Int) (k2 : 0 ≤ x2 ∧ x2 ≤ 99998128) (k5 : 0 ≤ x5 ∧ x5 ≤ 47) (k30 : 0 ≤ x30 ∧ x30 ≤ 99999992) (f0 : 1 * x30 + ((-1) * x2 + ((-39) * x5 + 0)) ≤ 28) (f6 : 1 * spareLength_0 + ((-1) * x30 + 0) ≤ 8) (kz_0_12 : 0 ≤ spareLength_0 ∧ spareLength_0 ≤ 100000000) (ex2 : gx = spareLength_0) : 1 * gx + ((-1) * x2 + ((-39) * x5 + 0)) ≤ 36 := by
  first | assumption | omega | grind
def o_Ho_writeEdges_9 : or_T := (113, 32, [(0, (2, 0, 0, [12])), (2, (0, 0, 99998128, [])), (3, (2, 0, 0, [12])), (5, (0, 0, 47, [])), (6, (0, 1, 48, [])), (13, (0, 0, 99999992, [])), (18, (0, 0, 99999997, [])), (23, (0, 0, 99999992, [])), (28, (0, 0, 99999991, [])), (30, (0, 0, 99999992, []))], [(23, [30, 2, 5], [28, 1, -1, -39]), (23, [28, 2, 5], [19, 1, -1, -39]), (23, [23, 2, 5], [11, 1, -1, -39]), (23, [18, 2, 5], [8, 1, -1, -39]), (23, [13, 2, 5], [0, 1, -1, -39]), (24, [0, 3], []), (20, [3, 30], [30, 8, 1, 1, 12, -1, 0, 0]), (102, [30], [261336857795280739939871698507597986398208, 12012]), (23, [30, 2, 5], [28, 1, -1, -39]), (23, [28, 2, 5], [19, 1, -1, -39]), (23, [23, 2, 5], [11, 1, -1, -39]), (23, [18, 2, 5], [8, 1, -1, -39]), (23, [13, 2, 5], [0, 1, -1, -39]), (102, [28], [261336857795280739939871698507597986398208, 12012]), (23, [28, 2, 5], [19, 1, -1, -39]), (23, [23, 2, 5], [11, 1, -1, -39]), (23, [18, 2, 5], [8, 1, -1, -39]), (23, [13, 2, 5], [0, 1, -1, -39]), (102, [23], [261336857795280739939871698507597986398208, 12012]), (23, [23, 2, 5], [11, 1, -1, -39]), (23, [18, 2, 5], [8, 1, -1, -39]), (23, [13, 2, 5], [0, 1, -1, -39]), (102, [18], [261336857795280739939871698507597986398208, 12012]), (23, [18, 2, 5], [8, 1, -1, -39]), (23, [13, 2, 5], [0, 1, -1, -39]), (102, [13], [261336857795280739939871698507597986398208, 12012]), (23, [13, 2, 5], [0, 1, -1, -39]), (7, [5, 6], [2])], [], [(0, 0, 99999999, [])], [(20, [3, 32], [30, 0, 1, 1, 12, -1, 0, 0]), (23, [32, 2, 5], [36, 1, -1, -39])], [], [(5, 6, -4294967296, -1)])
theorem oo_Ho_writeEdges_9 {kA : Nat → ClassId} : or_ok PRD kA GG o_Ho_writeEdges_9 := by
  refine or_mk fun A ta ws vs hD hth hl => ?_
  intro t0 r0 t2 k2 t3 r3 t5 k5 t6 k6 t13 k13 t18 k18 t23 k23 t28 k28 t30 k30 d0 f0 f1 f2 f3 f4 f5 f6 ta1 w1 le1 s1 f8 f9 f10 f11 f12 ta2 w2 le2 s2 f14 f15 f16 f17 ta3 w3 le3 s3 f19 f20 f21 ta4 w4 le4 s4 f23 f24 ta5 w5 le5 s5 f26 f27
  replace f0 := shm_222 f0
  replace f1 := shm_221 f1
  replace f2 := shm_219 f2
  replace f3 := shm_218 f3
  replace f4 := shm_217 f4
  replace f5 := shm_5 f5
  replace f6 := shm_135 f6
  replace f8 := shm_222 f8
  replace f9 := shm_221 f9
  replace f10 := shm_219 f10
  replace f11 := shm_218 f11
  replace f12 := shm_217 f12
  replace f14 := shm_221 f14
  replace f15 := shm_219 f15
  replace f16 := shm_218 f16
  replace f17 := shm_217 f17
  replace f19 := shm_219 f19
  replace f20 := shm_218 f20
  replace f21 := shm_217 f21
  replace f23 := shm_218 f23
  replace f24 := shm_217 f24
  replace f26 := shm_217 f26
  replace f27 := shm_6 f27
  have q3 : n_v vs 3 = n_v vs 0 := f5.symm
  simp only [q3] at f6
  have kz_0_12 := fdq_0 hD hth r0
  have kv0 := fdq_0 hD hth r0
  obtain ⟨x, ex, hx⟩ := iv_ex (ta := ta) (lo := 0) (hi := 99999999) (z := w_fi ws (n_v vs 0) 12) (by omega) (by omega) (by omega) (by omega)
  have ex2 : v_iv (Value.int x) = w_fi ws (n_v vs 0) 12 := ex
  have ex3 : 0 ≤ v_iv (Value.int x) ∧ v_iv (Value.int x) ≤ 99999999 := tv_rng hx
  have e_2 : n_v (vs ++ [Value.int x]) 2 = n_v vs 2 := n_v_old (by rw [hl]; decide)
  have e_3 : n_v (vs ++ [Value.int x]) 3 = n_v vs 3 := n_v_old (by rw [hl]; decide)
  have e_5 : n_v (vs ++ [Value.int x]) 5 = n_v vs 5 := n_v_old (by rw [hl]; decide)
  have e_32 : n_v (vs ++ [Value.int x]) 32 = Value.int x := n_v_new hl
  have nf0 : fc_1 PRD (20, [3, 32], [30, 0, 1, 1, 12, -1, 0, 0]) ws (vs ++ [Value.int x]) := by
    refine ⟨nf_inA hl rfl, sgq_104 ?_⟩
    · show 1 * w_fi ws (n_v (vs ++ [Value.int x]) 3) 12 + ((-1) * v_iv (n_v (vs ++ [Value.int x]) 32) + 0) ≤ 0
      simp only [e_3, e_32, q3]
      exact vc_Ho_writeEdges_9_0 (w_fi ws (n_v vs 0) 12) (v_iv (Value.int x)) kz_0_12 ex2
  have nf1 : fc_1 PRD (23, [32, 2, 5], [36, 1, -1, -39]) ws (vs ++ [Value.int x]) := by
    refine ⟨nf_inA hl rfl, sgq_223 ?_⟩
    · show 1 * v_iv (n_v (vs ++ [Value.int x]) 32) + ((-1) * v_iv (n_v (vs ++ [Value.int x]) 2) + ((-39) * v_iv (n_v (vs ++ [Value.int x]) 5) + 0)) ≤ 36
      simp only [e_2, e_5, e_32]
      exact vc_Ho_writeEdges_9_1 (v_iv (n_v vs 2)) (v_iv (n_v vs 5)) (v_iv (n_v vs 30)) (w_fi ws (n_v vs 0) 12) (v_iv (Value.int x)) k2 k5 k30 f0 f6 kz_0_12 ex2
  exact ⟨(fun _ h => (by cases h)), [Value.int x], ag_one hx, List.forall_mem_cons.mpr ⟨⟨show (20 : Nat) < 100 from by decide, nf0⟩, List.forall_mem_cons.mpr ⟨⟨show (23 : Nat) < 100 from by decide, nf1⟩, (fun _ h => (by cases h))⟩⟩, (fun _ h => (by cases h))⟩
set_option maxHeartbeats 4000000 in
theorem vc_Ho_writeEdges_10_0 (spareLength_0 : Int) (gx : Int) (kz_0_12 : 0 ≤ spareLength_0 ∧ spareLength_0 ≤ 100000000) (ex2 : gx = spareLength_0) : 1 * spareLength_0 + ((-1) * gx + 0) ≤ 0 := by
  first | assumption | omega | grind
set_option maxHeartbeats 4000000 in
theorem vc_Ho_writeEdges_10_1 (x2 : Int) (x5 : Int) (x32 : Int) (spareLength_0 : Int) (gx : Int) (k2 : 0 ≤ x2 ∧ x2 ≤ 99998128) (k5 : 0 ≤ x5 ∧ x5 ≤ 47) (k32 : 0 ≤ x32 ∧ x32 ≤ 99999999) (f0 : 1 * x32 + ((-1) * x2 + ((-39) * x5 + 0)) ≤ 36) (f7 : 1 * spareLength_0 + ((-1) * x32 + 0) ≤ 1) (kz_0_12 : 0 ≤ spareLength_0 ∧ spareLength_0 ≤ 100000000) (ex2 : gx = spareLength_0) : 1 * gx + ((-1) * x2 + ((-39) * x5 + 0)) ≤ 37 := by
  first | assumption | omega | grind
def o_Ho_writeEdges_10 : or_T := (120, 34, [(0, (2, 0, 0, [12])), (2, (0, 0, 99998128, [])), (3, (2, 0, 0, [12])), (5, (0, 0, 47, [])), (6, (0, 1, 48, [])), (13, (0, 0, 99999992, [])), (18, (0, 0, 99999997, [])), (23, (0, 0, 99999992, [])), (28, (0, 0, 99999991, [])), (30, (0, 0, 99999992, [])), (32, (0, 0, 99999999, []))], [(23, [32, 2, 5], [36, 1, -1, -39]), (23, [30, 2, 5], [28, 1, -1, -39]), (23, [28, 2, 5], [19, 1, -1, -39]), (23, [23, 2, 5], [11, 1, -1, -39]), (23, [18, 2, 5], [8, 1, -1, -39]), (23, [13, 2, 5], [0, 1, -1, -39]), (24, [0, 3], []), (20, [3, 32], [30, 1, 1, 1, 12, -1, 0, 0]), (102, [32], [261336857795280739939871698507597986398208, 12012]), (23, [32, 2, 5], [36, 1, -1, -39]), (23, [30, 2, 5], [28, 1, -1, -39]), (23, [28, 2, 5], [19, 1, -1, -39]), (23, [23, 2, 5], [11, 1, -1, -39]), (23, [18, 2, 5], [8, 1, -1, -39]), (23, [13, 2, 5], [0, 1, -1, -39]), (102, [30], [261336857795280739939871698507597986398208, 12012]), (23, [30, 2, 5], [28, 1, -1, -39]), (23, [28, 2, 5], [19, 1, -1, -39]), (23, [23, 2, 5], [11, 1, -1, -39]), (23, [18, 2, 5], [8, 1, -1, -39]), (23, [13, 2, 5], [0, 1, -1, -39]), (102, [28], [261336857795280739939871698507597986398208, 12012]), (23, [28, 2, 5], [19, 1, -1, -39]), (23, [23, 2, 5], [11, 1, -1, -39]), (23, [18, 2, 5], [8, 1, -1, -39]), (23, [13, 2, 5], [0, 1, -1, -39]), (102, [23], [261336857795280739939871698507597986398208, 12012]), (23, [23, 2, 5], [11, 1, -1, -39]), (23, [18, 2, 5], [8, 1, -1, -39]), (23, [13, 2, 5], [0, 1, -1, -39]), (102, [18], [261336857795280739939871698507597986398208, 12012]), (23, [18, 2, 5], [8, 1, -1, -39]), (23, [13, 2, 5], [0, 1, -1, -39]), (102, [13], [261336857795280739939871698507597986398208, 12012]), (23, [13, 2, 5], [0, 1, -1, -39]), (7, [5, 6], [2])], [], [(0, 0, 99999998, [])], [(20, [3, 34], [30, 0, 1, 1, 12, -1, 0, 0]), (23, [34, 2, 5], [37, 1, -1, -39])], [], [(5, 6, -4294967296, -1)])
theorem oo_Ho_writeEdges_10 {kA : Nat → ClassId} : or_ok PRD kA GG o_Ho_writeEdges_10 := by
  refine or_mk fun A ta ws vs hD hth hl => ?_
  intro t0 r0 t2 k2 t3 r3 t5 k5 t6 k6 t13 k13 t18 k18 t23 k23 t28 k28 t30 k30 t32 k32 d0 f0 f1 f2 f3 f4 f5 f6 f7 ta1 w1 le1 s1 f9 f10 f11 f12 f13 f14 ta2 w2 le2 s2 f16 f17 f18 f19 f20 ta3 w3 le3 s3 f22 f23 f24 f25 ta4 w4 le4 s4 f27 f28 f29 ta5 w5 le5 s5 f31 f32 ta6 w6 le6 s6 f34 f35
  replace f0 := shm_223 f0
  replace f1 := shm_222 f1
  replace f2 := shm_221 f2
  replace f3 := shm_219 f3
  replace f4 := shm_218 f4
  replace f5 := shm_217 f5
  replace f6 := shm_5 f6
  replace f7 := shm_105 f7
  replace f9 := shm_223 f9
  replace f10 := shm_222 f10
  replace f11 := shm_221 f11
  replace f12 := shm_219 f12
  replace f13 := shm_218 f13
  replace f14 := shm_217 f14
  replace f16 := shm_222 f16
  replace f17 := shm_221 f17
  replace f18 := shm_219 f18
  replace f19 := shm_218 f19
  replace f20 := shm_217 f20
  replace f22 := shm_221 f22
  replace f23 := shm_219 f23
  replace f24 := shm_218 f24
  replace f25 := shm_217 f25
  replace f27 := shm_219 f27
  replace f28 := shm_218 f28
  replace f29 := shm_217 f29
  replace f31 := shm_218 f31
  replace f32 := shm_217 f32
  replace f34 := shm_217 f34
  replace f35 := shm_6 f35
  have q3 : n_v vs 3 = n_v vs 0 := f6.symm
  simp only [q3] at f7
  have kz_0_12 := fdq_0 hD hth r0
  have kv0 := fdq_0 hD hth r0
  obtain ⟨x, ex, hx⟩ := iv_ex (ta := ta) (lo := 0) (hi := 99999998) (z := w_fi ws (n_v vs 0) 12) (by omega) (by omega) (by omega) (by omega)
  have ex2 : v_iv (Value.int x) = w_fi ws (n_v vs 0) 12 := ex
  have ex3 : 0 ≤ v_iv (Value.int x) ∧ v_iv (Value.int x) ≤ 99999998 := tv_rng hx
  have e_2 : n_v (vs ++ [Value.int x]) 2 = n_v vs 2 := n_v_old (by rw [hl]; decide)
  have e_3 : n_v (vs ++ [Value.int x]) 3 = n_v vs 3 := n_v_old (by rw [hl]; decide)
  have e_5 : n_v (vs ++ [Value.int x]) 5 = n_v vs 5 := n_v_old (by rw [hl]; decide)
  have e_34 : n_v (vs ++ [Value.int x]) 34 = Value.int x := n_v_new hl
  have nf0 : fc_1 PRD (20, [3, 34], [30, 0, 1, 1, 12, -1, 0, 0]) ws (vs ++ [Value.int x]) := by
    refine ⟨nf_inA hl rfl, sgq_104 ?_⟩
    · show 1 * w_fi ws (n_v (vs ++ [Value.int x]) 3) 12 + ((-1) * v_iv (n_v (vs ++ [Value.int x]) 34) + 0) ≤ 0
      simp only [e_3, e_34, q3]
      exact vc_Ho_writeEdges_10_0 (w_fi ws (n_v vs 0) 12) (v_iv (Value.int x)) kz_0_12 ex2
  have nf1 : fc_1 PRD (23, [34, 2, 5], [37, 1, -1, -39]) ws (vs ++ [Value.int x]) := by
    refine ⟨nf_inA hl rfl, sgq_220 ?_⟩
    · show 1 * v_iv (n_v (vs ++ [Value.int x]) 34) + ((-1) * v_iv (n_v (vs ++ [Value.int x]) 2) + ((-39) * v_iv (n_v (vs ++ [Value.int x]) 5) + 0)) ≤ 37
      simp only [e_2, e_5, e_34]
      exact vc_Ho_writeEdges_10_1 (v_iv (n_v vs 2)) (v_iv (n_v vs 5)) (v_iv (n_v vs 32)) (w_fi ws (n_v vs 0) 12) (v_iv (Value.int x)) k2 k5 k32 f0 f7 kz_0_12 ex2
  exact ⟨(fun _ h => (by cases h)), [Value.int x], ag_one hx, List.forall_mem_cons.mpr ⟨⟨show (20 : Nat) < 100 from by decide, nf0⟩, List.forall_mem_cons.mpr ⟨⟨show (23 : Nat) < 100 from by decide, nf1⟩, (fun _ h => (by cases h))⟩⟩, (fun _ h => (by cases h))⟩
set_option maxHeartbeats 4000000 in
theorem vc_Ho_writeEdges_11_0 (x2 : Int) (x5 : Int) (x34 : Int) (x35 : Int) (spareLength_0 : Int) (k2 : 0 ≤ x2 ∧ x2 ≤ 99998128) (k5 : 0 ≤ x5 ∧ x5 ≤ 47) (k34 : 0 ≤ x34 ∧ x34 ≤ 99999998) (k35 : 1 ≤ x35 ∧ x35 ≤ 48) (d0 : x5 + 1 ≤ x35 ∧ x35 ≤ x5 + 1) (f1 : 1 * x34 + ((-1) * x2 + ((-39) * x5 + 0)) ≤ 37) (f9 : 1 * spareLength_0 + ((-1) * x34 + 0) ≤ 2) (kz_0_12 : 0 ≤ spareLength_0 ∧ spareLength_0 ≤ 100000000) : 1 * spareLength_0 + ((-1) * x2 + ((-39) * x35 + 0)) ≤ 0 := by
  first | assumption | omega | grind
def o_Ho_writeEdges_11 : or_T := (2, 36, [(0, (2, 0, 0, [12])), (2, (0, 0, 99998128, [])), (5, (0, 0, 47, [])), (34, (0, 0, 99999998, [])), (35, (0, 1, 48, []))], [(23, [34, 2, 5], [37, 1, -1, -39]), (24, [0, 3], []), (20, [3, 34], [30, 2, 1, 1, 12, -1, 0, 0])], [], [], [(20, [3, 2, 35], [30, 0, 1, 1, 12, -1, 0, 0, -39, 0, 0])], [], [(35, 5, 1, 1)])
theorem oo_Ho_writeEdges_11 {kA : Nat → ClassId} : or_ok PRD kA GG o_Ho_writeEdges_11 := by
  refine or_mk fun A ta ws vs hD hth hl => ?_
  intro t0 r0 t2 k2 t5 k5 t34 k34 t35 k35 d0 f1 f8 f9
  replace f1 := shm_220 f1
  replace f8 := shm_5 f8
  replace f9 := shm_204 f9
  have q3 : n_v vs 3 = n_v vs 0 := f8.symm
  simp only [q3] at f9
  have kz_0_12 := fdq_0 hD hth r0
  have nf0 : fc_1 PRD (20, [3, 2, 35], [30, 0, 1, 1, 12, -1, 0, 0, -39, 0, 0]) ws (vs) := by
    refine ⟨nf_in hl rfl, sgq_214 ?_⟩
    · show 1 * w_fi ws (n_v vs 3) 12 + ((-1) * v_iv (n_v vs 2) + ((-39) * v_iv (n_v vs 35) + 0)) ≤ 0
      rw [q3]
      exact vc_Ho_writeEdges_11_0 (v_iv (n_v vs 2)) (v_iv (n_v vs 5)) (v_iv (n_v vs 34)) (v_iv (n_v vs 35)) (w_fi ws (n_v vs 0) 12) k2 k5 k34 k35 d0 f1 f9 kz_0_12
  refine ⟨(fun _ h => (by cases h)), [], trivial, ?_, (fun _ h => (by cases h))⟩
  rw [List.append_nil]
  exact List.forall_mem_cons.mpr ⟨⟨show (20 : Nat) < 100 from by decide, nf0⟩, (fun _ h => (by cases h))⟩
def n_Ho_writeEdges_an : List an_T := [(2, [(0, (2, 0, 0, [12])), (1, (2, 0, 0, [3])), (2, (0, 0, 48, []))], [], (0, 0), [(0, 0, 99998), (1, 5, 48), (0, 0, 100000)], [], [], [(2, 0, 0, [12]), (2, 0, 0, [3]), (0, 0, 99998128, [])], 0, [], [(20, [3, 2, 5], [30, 0, 1, 1, 12, (Int.negSucc 0), 0, 0, (Int.negSucc 38), 0, 0]), (24, [0, 3], [])])]
def t_Ho_writeEdges_ct : ct_L := [(1, 447, e_Ho_writeByte), (1, 471, e_Ho_writeNumber), (100, 465, e_Ho_writeName_at_Grname), (169, 461, e_Ho_writeWord_at_s5019), (169, 461, e_Ho_writeWord_at_s5020), (244, 465, e_Ho_writeName_at_Grname), (295, 461, e_Ho_writeWord_at_s5021), (364, 461, e_Ho_writeWord_at_s5015), (1000001, 474, en_ro [] (2, 0, 0, [5015])), (1000001, 482, en_ro [] (2, 0, 0, [5019])), (1000001, 484, en_ro [] (2, 0, 0, [5020])), (1000001, 486, en_ro [] (2, 0, 0, [5021]))]
set_option maxRecDepth 100000 in
theorem c_Ho_writeEdges {l : Launch} {D : va_G} {kA : Nat → ClassId} (h_Ho_writeByte : ct_ok PRD l D kA GG y_Ho_writeByte z_Ho_writeByte e_Ho_writeByte) (h_Ho_writeName_at_Grname : ct_ok PRD l D kA GG y_Ho_writeName_at_Grname z_Ho_writeName_at_Grname e_Ho_writeName_at_Grname) (h_Ho_writeNumber : ct_ok PRD l D kA GG y_Ho_writeNumber z_Ho_writeNumber e_Ho_writeNumber) (h_Ho_writeWord_at_s5015 : ct_ok PRD l D kA GG y_Ho_writeWord_at_s5015 z_Ho_writeWord_at_s5015 e_Ho_writeWord_at_s5015) (h_Ho_writeWord_at_s5019 : ct_ok PRD l D kA GG y_Ho_writeWord_at_s5019 z_Ho_writeWord_at_s5019 e_Ho_writeWord_at_s5019) (h_Ho_writeWord_at_s5020 : ct_ok PRD l D kA GG y_Ho_writeWord_at_s5020 z_Ho_writeWord_at_s5020 e_Ho_writeWord_at_s5020) (h_Ho_writeWord_at_s5021 : ct_ok PRD l D kA GG y_Ho_writeWord_at_s5021 z_Ho_writeWord_at_s5021 e_Ho_writeWord_at_s5021) : ct_ok PRD l D kA GG y_Ho_writeEdges z_Ho_writeEdges e_Ho_writeEdges := chk_all_ok (FT := [(141, 3, 1), (169, 3, 4), (200, 3, 7), (203, 3, 8), (206, 3, 9), (209, 3, 10), (230, 3, 3)]) (PT := []) (CT := t_Ho_writeEdges_ct) (KT := []) (NT := []) (AN := n_Ho_writeEdges_an) (OT := [o_Ho_writeEdges_0, o_Ho_writeEdges_1, o_Ho_writeEdges_2, o_Ho_writeEdges_3, o_Ho_writeEdges_4, o_Ho_writeEdges_5, o_Ho_writeEdges_6, o_Ho_writeEdges_7, o_Ho_writeEdges_8, o_Ho_writeEdges_9, o_Ho_writeEdges_10, o_Ho_writeEdges_11]) 3 480 (List.forall_mem_cons.mpr ⟨oo_Ho_writeEdges_0, List.forall_mem_cons.mpr ⟨oo_Ho_writeEdges_1, List.forall_mem_cons.mpr ⟨oo_Ho_writeEdges_2, List.forall_mem_cons.mpr ⟨oo_Ho_writeEdges_3, List.forall_mem_cons.mpr ⟨oo_Ho_writeEdges_4, List.forall_mem_cons.mpr ⟨oo_Ho_writeEdges_5, List.forall_mem_cons.mpr ⟨oo_Ho_writeEdges_6, List.forall_mem_cons.mpr ⟨oo_Ho_writeEdges_7, List.forall_mem_cons.mpr ⟨oo_Ho_writeEdges_8, List.forall_mem_cons.mpr ⟨oo_Ho_writeEdges_9, List.forall_mem_cons.mpr ⟨oo_Ho_writeEdges_10, List.forall_mem_cons.mpr ⟨oo_Ho_writeEdges_11, List.forall_mem_nil _⟩⟩⟩⟩⟩⟩⟩⟩⟩⟩⟩⟩) (by decide +kernel) ⟨List.forall_mem_cons.mpr ⟨gf_Ho_141, List.forall_mem_cons.mpr ⟨gf_Ho_169, List.forall_mem_cons.mpr ⟨gf_Ho_200, List.forall_mem_cons.mpr ⟨gf_Ho_203, List.forall_mem_cons.mpr ⟨gf_Ho_206, List.forall_mem_cons.mpr ⟨gf_Ho_209, List.forall_mem_cons.mpr ⟨gf_Ho_230, List.forall_mem_nil _⟩⟩⟩⟩⟩⟩⟩, List.forall_mem_nil _, List.forall_mem_cons.mpr ⟨cl_virtual (y := y_Ho_writeByte) (ci := 12) rfl rfl ⟨_, _, rfl⟩ (by decide +kernel) h_Ho_writeByte wm_2345 wm_1 wm_2342 wm_2344 wv_12_0 ⟨by decide, by decide, by decide +kernel⟩ (by decide), List.forall_mem_cons.mpr ⟨cl_virtual (y := y_Ho_writeNumber) (ci := 12) rfl rfl ⟨_, _, rfl⟩ (by decide +kernel) h_Ho_writeNumber wm_2354 wm_1 wm_2351 wm_2353 wv_12_2 ⟨by decide, by decide, by decide +kernel⟩ (by decide), List.forall_mem_cons.mpr ⟨cl_virtual (y := y_Ho_writeName_at_Grname) (ci := 12) rfl rfl ⟨_, _, rfl⟩ (by decide +kernel) h_Ho_writeName_at_Grname wm_2349 wm_1 wm_2346 wm_2348 wv_12_1 ⟨by decide, by decide, by decide +kernel⟩ (by decide), List.forall_mem_cons.mpr ⟨cl_virtual (y := y_Ho_writeWord_at_s5019) (ci := 12) rfl rfl ⟨_, _, rfl⟩ (by decide +kernel) h_Ho_writeWord_at_s5019 wm_2339 wm_1 wm_2336 wm_2338 wv_11_15 ⟨by decide, by decide, by decide +kernel⟩ (by decide), List.forall_mem_cons.mpr ⟨cl_virtual (y := y_Ho_writeWord_at_s5020) (ci := 12) rfl rfl ⟨_, _, rfl⟩ (by decide +kernel) h_Ho_writeWord_at_s5020 wm_2339 wm_1 wm_2336 wm_2338 wv_11_15 ⟨by decide, by decide, by decide +kernel⟩ (by decide), List.forall_mem_cons.mpr ⟨cl_virtual (y := y_Ho_writeName_at_Grname) (ci := 12) rfl rfl ⟨_, _, rfl⟩ (by decide +kernel) h_Ho_writeName_at_Grname wm_2349 wm_1 wm_2346 wm_2348 wv_12_1 ⟨by decide, by decide, by decide +kernel⟩ (by decide), List.forall_mem_cons.mpr ⟨cl_virtual (y := y_Ho_writeWord_at_s5021) (ci := 12) rfl rfl ⟨_, _, rfl⟩ (by decide +kernel) h_Ho_writeWord_at_s5021 wm_2339 wm_1 wm_2336 wm_2338 wv_11_15 ⟨by decide, by decide, by decide +kernel⟩ (by decide), List.forall_mem_cons.mpr ⟨cl_virtual (y := y_Ho_writeWord_at_s5015) (ci := 12) rfl rfl ⟨_, _, rfl⟩ (by decide +kernel) h_Ho_writeWord_at_s5015 wm_2339 wm_1 wm_2336 wm_2338 wv_11_15 ⟨by decide, by decide, by decide +kernel⟩ (by decide), List.forall_mem_cons.mpr ⟨cl_ldcw (own := "DrawingHouse") (idx := 474) (i := 15) (tx := ";\n") (by decide +kernel) (by decide +kernel) (by decide +kernel), List.forall_mem_cons.mpr ⟨cl_ldcw (own := "DrawingHouse") (idx := 482) (i := 19) (tx := " > ") (by decide +kernel) (by decide +kernel) (by decide +kernel), List.forall_mem_cons.mpr ⟨cl_ldcw (own := "DrawingHouse") (idx := 484) (i := 20) (tx := " - ") (by decide +kernel) (by decide +kernel) (by decide +kernel), List.forall_mem_cons.mpr ⟨cl_ldcw (own := "DrawingHouse") (idx := 486) (i := 21) (tx := " [weight=") (by decide +kernel) (by decide +kernel) (by decide +kernel), List.forall_mem_nil _⟩⟩⟩⟩⟩⟩⟩⟩⟩⟩⟩⟩, List.forall_mem_nil _, List.forall_mem_nil _, GG_pl⟩ (by decide +kernel)
set_option maxHeartbeats 4000000 in
theorem vc_Ho_writeGroup_at_k0_0_0 (x4 : Int) (x5 : Int) (spareLength_0 : Int) (k4 : 0 ≤ x4 ∧ x4 ≤ 71426432) (k5 : 0 ≤ x5 ∧ x5 ≤ 0) (f0 : 1 * spareLength_0 + ((-1) * x4 + 0) ≤ 0) (kz_0_12 : 0 ≤ spareLength_0 ∧ spareLength_0 ≤ 100000000) : 1 * spareLength_0 + ((-1) * x4 + ((-31) * x5 + 0)) ≤ 0 := by
  first | assumption | omega | grind
def o_Ho_writeGroup_at_k0_0 : or_T := (3, 6, [(0, (2, 0, 0, [12])), (4, (0, 0, 71426432, [])), (5, (0, 0, 0, []))], [(20, [0, 4], [30, 0, 1, 1, 12, -1, 0, 0])], [], [], [(20, [0, 4, 5], [30, 0, 1, 1, 12, -1, 0, 0, -31, 0, 0]), (24, [0, 0], [])], [], [])
theorem oo_Ho_writeGroup_at_k0_0 {kA : Nat → ClassId} : or_ok PRD kA GG o_Ho_writeGroup_at_k0_0 := by
  refine or_mk fun A ta ws vs hD hth hl => ?_
  intro t0 r0 t4 k4 t5 k5 f0
  have kz_0_12 := fdq_0 hD hth r0
  have nf0 : fc_1 PRD (20, [0, 4, 5], [30, 0, 1, 1, 12, -1, 0, 0, -31, 0, 0]) ws (vs) := ⟨nf_in hl rfl, sgq_224 (vc_Ho_writeGroup_at_k0_0_0 (v_iv (n_v vs 4)) (v_iv (n_v vs 5)) (w_fi ws (n_v vs 0) 12) k4 k5 (shm_104 f0) kz_0_12)⟩
  have nf1 : fc_1 PRD (24, [0, 0], []) ws (vs) := by
    refine ⟨nf_in hl rfl, sgq_1 ?_⟩
    · show n_v vs 0 = n_v vs 0
      first | rfl | simp only [true_and]
  refine ⟨(fun _ h => (by cases h)), [], trivial, ?_, (fun _ h => (by cases h))⟩
  rw [List.append_nil]
  exact List.forall_mem_cons.mpr ⟨⟨show (20 : Nat) < 100 from by decide, nf0⟩, List.forall_mem_cons.mpr ⟨⟨show (24 : Nat) < 100 from by decide, nf1⟩, (fun _ h => (by cases h))⟩⟩
set_option maxHeartbeats 4000000 in
theorem vc_Ho_writeGroup_at_k0_1_0 (x4 : Int) (x7 : Int) (x9 : Int) (x12 : Int) (spareLength_0 : Int) (k4 : 0 ≤ x4 ∧ x4 ≤ 71426432) (k7 : 0 ≤ x7 ∧ x7 ≤ 0) (k9 : 0 ≤ x9 ∧ x9 ≤ 24) (k12 : 1 ≤ x12 ∧ x12 ≤ 1) (f3 : 1 * spareLength_0 + ((-1) * x4 + ((-31) * x9 + 0)) ≤ 0) (kz_0_12 : 0 ≤ spareLength_0 ∧ spareLength_0 ≤ 100000000) : 1 * spareLength_0 + ((-1) * x4 + ((-3571603) * x12 + (3571603 * x7 + 0))) ≤ (-3570859) := by
  first | assumption | omega | grind
def o_Ho_writeGroup_at_k0_1 : or_T := (100, 13, [(0, (2, 0, 0, [12])), (4, (0, 0, 71426432, [])), (7, (0, 0, 0, [])), (9, (0, 0, 24, [])), (12, (0, 1, 1, []))], [(20, [5, 4, 9], [30, 0, 1, 1, 12, -1, 0, 0, -31, 0, 0]), (24, [0, 5], [])], [], [], [(20, [5, 4, 12, 7], [30, -3570859, 1, 1, 12, -1, 0, 0, -3571603, 0, 0, 3571603, 0, 0])], [], [])
theorem oo_Ho_writeGroup_at_k0_1 {kA : Nat → ClassId} : or_ok PRD kA GG o_Ho_writeGroup_at_k0_1 := by
  refine or_mk fun A ta ws vs hD hth hl => ?_
  intro t0 r0 t4 k4 t7 k7 t9 k9 t12 k12 f3 f4
  replace f3 := shm_224 f3
  replace f4 := shm_5 f4
  have q5 : n_v vs 5 = n_v vs 0 := f4.symm
  simp only [q5] at f3
  have kz_0_12 := fdq_0 hD hth r0
  have nf0 : fc_1 PRD (20, [5, 4, 12, 7], [30, -3570859, 1, 1, 12, -1, 0, 0, -3571603, 0, 0, 3571603, 0, 0]) ws (vs) := by
    refine ⟨nf_in hl rfl, sgq_225 ?_⟩
    · show 1 * w_fi ws (n_v vs 5) 12 + ((-1) * v_iv (n_v vs 4) + ((-3571603) * v_iv (n_v vs 12) + (3571603 * v_iv (n_v vs 7) + 0))) ≤ (-3570859)
      rw [q5]
      exact vc_Ho_writeGroup_at_k0_1_0 (v_iv (n_v vs 4)) (v_iv (n_v vs 7)) (v_iv (n_v vs 9)) (v_iv (n_v vs 12)) (w_fi ws (n_v vs 0) 12) k4 k7 k9 k12 f3 kz_0_12
  refine ⟨(fun _ h => (by cases h)), [], trivial, ?_, (fun _ h => (by cases h))⟩
  rw [List.append_nil]
  exact List.forall_mem_cons.mpr ⟨⟨show (20 : Nat) < 100 from by decide, nf0⟩, (fun _ h => (by cases h))⟩
set_option maxHeartbeats 4000000 in
theorem vc_Ho_writeGroup_at_k0_2_0 (x4 : Int) (x9 : Int) (x13 : Int) (spareLength_0 : Int) (k4 : 0 ≤ x4 ∧ x4 ≤ 71426432) (k9 : 0 ≤ x9 ∧ x9 ≤ 23) (k13 : 1 ≤ x13 ∧ x13 ≤ 24) (d0 : x9 + 1 ≤ x13 ∧ x13 ≤ x9 + 1) (f3 : 1 * spareLength_0 + ((-1) * x4 + ((-31) * x9 + 0)) ≤ 0) (kz_0_12 : 0 ≤ spareLength_0 ∧ spareLength_0 ≤ 100000000) : 1 * spareLength_0 + ((-1) * x4 + ((-31) * x13 + 0)) ≤ 0 := by
  first | assumption | omega | grind
def o_Ho_writeGroup_at_k0_2 : or_T := (3, 14, [(0, (2, 0, 0, [12])), (4, (0, 0, 71426432, [])), (9, (0, 0, 23, [])), (13, (0, 1, 24, []))], [(20, [5, 4, 9], [30, 0, 1, 1, 12, -1, 0, 0, -31, 0, 0]), (24, [0, 5], [])], [], [], [(20, [5, 4, 13], [30, 0, 1, 1, 12, -1, 0, 0, -31, 0, 0])], [], [(13, 9, 1, 1)])
theorem oo_Ho_writeGroup_at_k0_2 {kA : Nat → ClassId} : or_ok PRD kA GG o_Ho_writeGroup_at_k0_2 := by
  refine or_mk fun A ta ws vs hD hth hl => ?_
  intro t0 r0 t4 k4 t9 k9 t13 k13 d0 f3 f4
  replace f3 := shm_224 f3
  replace f4 := shm_5 f4
  have q5 : n_v vs 5 = n_v vs 0 := f4.symm
  simp only [q5] at f3
  have kz_0_12 := fdq_0 hD hth r0
  have nf0 : fc_1 PRD (20, [5, 4, 13], [30, 0, 1, 1, 12, -1, 0, 0, -31, 0, 0]) ws (vs) := by
    refine ⟨nf_in hl rfl, sgq_224 ?_⟩
    · show 1 * w_fi ws (n_v vs 5) 12 + ((-1) * v_iv (n_v vs 4) + ((-31) * v_iv (n_v vs 13) + 0)) ≤ 0
      rw [q5]
      exact vc_Ho_writeGroup_at_k0_2_0 (v_iv (n_v vs 4)) (v_iv (n_v vs 9)) (v_iv (n_v vs 13)) (w_fi ws (n_v vs 0) 12) k4 k9 k13 d0 f3 kz_0_12
  refine ⟨(fun _ h => (by cases h)), [], trivial, ?_, (fun _ h => (by cases h))⟩
  rw [List.append_nil]
  exact List.forall_mem_cons.mpr ⟨⟨show (20 : Nat) < 100 from by decide, nf0⟩, (fun _ h => (by cases h))⟩
set_option maxHeartbeats 4000000 in
theorem vc_Ho_writeGroup_at_k0_3_0 (spareLength_0 : Int) (gx : Int) (kz_0_12 : 0 ≤ spareLength_0 ∧ spareLength_0 ≤ 100000000) (ex2 : gx = spareLength_0) : 1 * spareLength_0 + ((-1) * gx + 0) ≤ 0 := by
  first | assumption | omega | grind
set_option maxHeartbeats 4000000 in
theorem vc_Ho_writeGroup_at_k0_3_1 (x4 : Int) (x9 : Int) (spareLength_0 : Int) (gx : Int) (k4 : 0 ≤ x4 ∧ x4 ≤ 71426432) (k9 : 0 ≤ x9 ∧ x9 ≤ 23) (f2 : 1 * spareLength_0 + ((-1) * x4 + ((-31) * x9 + 0)) ≤ 0) (kz_0_12 : 0 ≤ spareLength_0 ∧ spareLength_0 ≤ 100000000) (ex2 : gx = spareLength_0) : 1 * gx + ((-1) * x4 + ((-31) * x9 + 0)) ≤ 0 := by
  first | assumption | omega | grind
def o_Ho_writeGroup_at_k0_3 : or_T := (27, 14, [(0, (2, 0, 0, [12])), (4, (0, 0, 71426432, [])), (5, (2, 0, 0, [12])), (6, (2, 0, 0, [3])), (9, (0, 0, 23, [])), (10, (0, 1, 24, []))], [(7, [9, 10], [2]), (9, [10, 6], [0]), (20, [5, 4, 9], [30, 0, 1, 1, 12, -1, 0, 0, -31, 0, 0]), (24, [0, 5], [])], [], [(0, 0, 99999995, [])], [(20, [5, 14], [30, 0, 1, 1, 12, -1, 0, 0]), (23, [14, 4, 9], [0, 1, -1, -31])], [], [(9, 10, -4294967296, -1)])
theorem oo_Ho_writeGroup_at_k0_3 {kA : Nat → ClassId} : or_ok PRD kA GG o_Ho_writeGroup_at_k0_3 := by
  refine or_mk fun A ta ws vs hD hth hl => ?_
  intro t0 r0 t4 k4 t5 r5 t6 r6 t9 k9 t10 k10 d0 f0 f1 f2 f3
  replace f0 := shm_6 f0
  replace f1 := shm_163 f1
  replace f2 := shm_224 f2
  replace f3 := shm_5 f3
  have q5 : n_v vs 5 = n_v vs 0 := f3.symm
  simp only [q5] at f2
  have g1 : v_iv (n_v vs 10) = w_fi ws (n_v vs 6) 0 := congrArg v_iv f1
  have kz_0_12 := fdq_0 hD hth r0
  have kz_6_0 := fdq_21 hD hth r6
  have kv0 := fdq_0 hD hth r0
  obtain ⟨x, ex, hx⟩ := iv_ex (ta := ta) (lo := 0) (hi := 99999995) (z := w_fi ws (n_v vs 0) 12) (by omega) (by omega) (by omega) (by omega)
  have ex2 : v_iv (Value.int x) = w_fi ws (n_v vs 0) 12 := ex
  have ex3 : 0 ≤ v_iv (Value.int x) ∧ v_iv (Value.int x) ≤ 99999995 := tv_rng hx
  have e_4 : n_v (vs ++ [Value.int x]) 4 = n_v vs 4 := n_v_old (by rw [hl]; decide)
  have e_5 : n_v (vs ++ [Value.int x]) 5 = n_v vs 5 := n_v_old (by rw [hl]; decide)
  have e_9 : n_v (vs ++ [Value.int x]) 9 = n_v vs 9 := n_v_old (by rw [hl]; decide)
  have e_14 : n_v (vs ++ [Value.int x]) 14 = Value.int x := n_v_new hl
  have nf0 : fc_1 PRD (20, [5, 14], [30, 0, 1, 1, 12, -1, 0, 0]) ws (vs ++ [Value.int x]) := by
    refine ⟨nf_inA hl rfl, sgq_104 ?_⟩
    · show 1 * w_fi ws (n_v (vs ++ [Value.int x]) 5) 12 + ((-1) * v_iv (n_v (vs ++ [Value.int x]) 14) + 0) ≤ 0
      simp only [e_5, e_14, q5]
      exact vc_Ho_writeGroup_at_k0_3_0 (w_fi ws (n_v vs 0) 12) (v_iv (Value.int x)) kz_0_12 ex2
  have nf1 : fc_1 PRD (23, [14, 4, 9], [0, 1, -1, -31]) ws (vs ++ [Value.int x]) := by
    refine ⟨nf_inA hl rfl, sgq_226 ?_⟩
    · show 1 * v_iv (n_v (vs ++ [Value.int x]) 14) + ((-1) * v_iv (n_v (vs ++ [Value.int x]) 4) + ((-31) * v_iv (n_v (vs ++ [Value.int x]) 9) + 0)) ≤ 0
      simp only [e_4, e_9, e_14]
      exact vc_Ho_writeGroup_at_k0_3_1 (v_iv (n_v vs 4)) (v_iv (n_v vs 9)) (w_fi ws (n_v vs 0) 12) (v_iv (Value.int x)) k4 k9 f2 kz_0_12 ex2
  exact ⟨(fun _ h => (by cases h)), [Value.int x], ag_one hx, List.forall_mem_cons.mpr ⟨⟨show (20 : Nat) < 100 from by decide, nf0⟩, List.forall_mem_cons.mpr ⟨⟨show (23 : Nat) < 100 from by decide, nf1⟩, (fun _ h => (by cases h))⟩⟩, (fun _ h => (by cases h))⟩
set_option maxHeartbeats 4000000 in
theorem vc_Ho_writeGroup_at_k0_4_0 (spareLength_0 : Int) (gx : Int) (kz_0_12 : 0 ≤ spareLength_0 ∧ spareLength_0 ≤ 100000000) (ex2 : gx = spareLength_0) : 1 * spareLength_0 + ((-1) * gx + 0) ≤ 0 := by
  first | assumption | omega | grind
set_option maxHeartbeats 4000000 in
theorem vc_Ho_writeGroup_at_k0_4_1 (x4 : Int) (x9 : Int) (x14 : Int) (spareLength_0 : Int) (gx : Int) (k4 : 0 ≤ x4 ∧ x4 ≤ 71426432) (k9 : 0 ≤ x9 ∧ x9 ≤ 23) (k14 : 0 ≤ x14 ∧ x14 ≤ 99999995) (f0 : 1 * x14 + ((-1) * x4 + ((-31) * x9 + 0)) ≤ 0) (f2 : 1 * spareLength_0 + ((-1) * x14 + 0) ≤ 5) (kz_0_12 : 0 ≤ spareLength_0 ∧ spareLength_0 ≤ 100000000) (ex2 : gx = spareLength_0) : 1 * gx + ((-1) * x4 + ((-31) * x9 + 0)) ≤ 5 := by
  first | assumption | omega | grind
def o_Ho_writeGroup_at_k0_4 : or_T := (44, 18, [(0, (2, 0, 0, [12])), (4, (0, 0, 71426432, [])), (5, (2, 0, 0, [12])), (9, (0, 0, 23, [])), (10, (0, 1, 24, [])), (14, (0, 0, 99999995, []))], [(23, [14, 4, 9], [0, 1, -1, -31]), (24, [0, 5], []), (20, [5, 14], [30, 5, 1, 1, 12, -1, 0, 0]), (102, [14], [261336857795280739939871698507597986398208, 12012]), (23, [14, 4, 9], [0, 1, -1, -31]), (7, [9, 10], [2])], [], [(0, 0, 99999992, [])], [(20, [5, 18], [30, 0, 1, 1, 12, -1, 0, 0]), (23, [18, 4, 9], [5, 1, -1, -31])], [], [(9, 10, -4294967296, -1)])
theorem oo_Ho_writeGroup_at_k0_4 {kA : Nat → ClassId} : or_ok PRD kA GG o_Ho_writeGroup_at_k0_4 := by
  refine or_mk fun A ta ws vs hD hth hl => ?_
  intro t0 r0 t4 k4 t5 r5 t9 k9 t10 k10 t14 k14 d0 f0 f1 f2 ta1 w1 le1 s1 f4 f5
  replace f0 := shm_226 f0
  replace f1 := shm_5 f1
  replace f2 := shm_202 f2
  replace f4 := shm_226 f4
  replace f5 := shm_6 f5
  have q5 : n_v vs 5 = n_v vs 0 := f1.symm
  simp only [q5] at f2
  have kz_0_12 := fdq_0 hD hth r0
  have kv0 := fdq_0 hD hth r0
  obtain ⟨x, ex, hx⟩ := iv_ex (ta := ta) (lo := 0) (hi := 99999992) (z := w_fi ws (n_v vs 0) 12) (by omega) (by omega) (by omega) (by omega)
  have ex2 : v_iv (Value.int x) = w_fi ws (n_v vs 0) 12 := ex
  have ex3 : 0 ≤ v_iv (Value.int x) ∧ v_iv (Value.int x) ≤ 99999992 := tv_rng hx
  have e_4 : n_v (vs ++ [Value.int x]) 4 = n_v vs 4 := n_v_old (by rw [hl]; decide)
  have e_5 : n_v (vs ++ [Value.int x]) 5 = n_v vs 5 := n_v_old (by rw [hl]; decide)
  have e_9 : n_v (vs ++ [Value.int x]) 9 = n_v vs 9 := n_v_old (by rw [hl]; decide)
  have e_18 : n_v (vs ++ [Value.int x]) 18 = Value.int x := n_v_new hl
  have nf0 : fc_1 PRD (20, [5, 18], [30, 0, 1, 1, 12, -1, 0, 0]) ws (vs ++ [Value.int x]) := by
    refine ⟨nf_inA hl rfl, sgq_104 ?_⟩
    · show 1 * w_fi ws (n_v (vs ++ [Value.int x]) 5) 12 + ((-1) * v_iv (n_v (vs ++ [Value.int x]) 18) + 0) ≤ 0
      simp only [e_5, e_18, q5]
      exact vc_Ho_writeGroup_at_k0_4_0 (w_fi ws (n_v vs 0) 12) (v_iv (Value.int x)) kz_0_12 ex2
  have nf1 : fc_1 PRD (23, [18, 4, 9], [5, 1, -1, -31]) ws (vs ++ [Value.int x]) := by
    refine ⟨nf_inA hl rfl, sgq_227 ?_⟩
    · show 1 * v_iv (n_v (vs ++ [Value.int x]) 18) + ((-1) * v_iv (n_v (vs ++ [Value.int x]) 4) + ((-31) * v_iv (n_v (vs ++ [Value.int x]) 9) + 0)) ≤ 5
      simp only [e_4, e_9, e_18]
      exact vc_Ho_writeGroup_at_k0_4_1 (v_iv (n_v vs 4)) (v_iv (n_v vs 9)) (v_iv (n_v vs 14)) (w_fi ws (n_v vs 0) 12) (v_iv (Value.int x)) k4 k9 k14 f0 f2 kz_0_12 ex2
  exact ⟨(fun _ h => (by cases h)), [Value.int x], ag_one hx, List.forall_mem_cons.mpr ⟨⟨show (20 : Nat) < 100 from by decide, nf0⟩, List.forall_mem_cons.mpr ⟨⟨show (23 : Nat) < 100 from by decide, nf1⟩, (fun _ h => (by cases h))⟩⟩, (fun _ h => (by cases h))⟩
set_option maxHeartbeats 4000000 in
theorem vc_Ho_writeGroup_at_k0_5_0 (spareLength_0 : Int) (gx : Int) (kz_0_12 : 0 ≤ spareLength_0 ∧ spareLength_0 ≤ 100000000) (ex2 : gx = spareLength_0) : 1 * spareLength_0 + ((-1) * gx + 0) ≤ 0 := by
  first | assumption | omega | grind
set_option maxHeartbeats 4000000 in
theorem vc_Ho_writeGroup_at_k0_5_1 (x4 : Int) (x9 : Int) (x18 : Int) (spareLength_0 : Int) (gx : Int) (k4 : 0 ≤ x4 ∧ x4 ≤ 71426432) (k9 : 0 ≤ x9 ∧ x9 ≤ 23) (k18 : 0 ≤ x18 ∧ x18 ≤ 99999992) (f0 : 1 * x18 + ((-1) * x4 + ((-31) * x9 + 0)) ≤ 5) (f3 : 1 * spareLength_0 + ((-1) * x18 + 0) ≤ 8) (kz_0_12 : 0 ≤ spareLength_0 ∧ spareLength_0 ≤ 100000000) (ex2 : gx = spareLength_0) : 1 * gx + ((-1) * x4 + ((-31) * x9 + 0)) ≤ 29 := by
  first | assumption | omega | grind
def o_Ho_writeGroup_at_k0_5 : or_T := (86, 23, [(0, (2, 0, 0, [12])), (4, (0, 0, 71426432, [])), (5, (2, 0, 0, [12])), (9, (0, 0, 23, [])), (10, (0, 1, 24, [])), (14, (0, 0, 99999995, [])), (18, (0, 0, 99999992, []))], [(23, [18, 4, 9], [5, 1, -1, -31]), (23, [14, 4, 9], [0, 1, -1, -31]), (24, [0, 5], []), (20, [5, 18], [30, 8, 1, 1, 12, -1, 0, 0]), (102, [18], [261336857795280739939871698507597986398208, 12012]), (23, [18, 4, 9], [5, 1, -1, -31]), (23, [14, 4, 9], [0, 1, -1, -31]), (102, [14], [261336857795280739939871698507597986398208, 12012]), (23, [14, 4, 9], [0, 1, -1, -31]), (7, [9, 10], [2])], [], [(0, 0, 99999998, [])], [(20, [5, 23], [30, 0, 1, 1, 12, -1, 0, 0]), (23, [23, 4, 9], [29, 1, -1, -31])], [], [(9, 10, -4294967296, -1)])
theorem oo_Ho_writeGroup_at_k0_5 {kA : Nat → ClassId} : or_ok PRD kA GG o_Ho_writeGroup_at_k0_5 := by
  refine or_mk fun A ta ws vs hD hth hl => ?_
  intro t0 r0 t4 k4 t5 r5 t9 k9 t10 k10 t14 k14 t18 k18 d0 f0 f1 f2 f3 ta1 w1 le1 s1 f5 f6 ta2 w2 le2 s2 f8 f9
  replace f0 := shm_227 f0
  replace f1 := shm_226 f1
  replace f2 := shm_5 f2
  replace f3 := shm_135 f3
  replace f5 := shm_227 f5
  replace f6 := shm_226 f6
  replace f8 := shm_226 f8
  replace f9 := shm_6 f9
  have q5 : n_v vs 5 = n_v vs 0 := f2.symm
  simp only [q5] at f3
  have kz_0_12 := fdq_0 hD hth r0
  have kv0 := fdq_0 hD hth r0
  obtain ⟨x, ex, hx⟩ := iv_ex (ta := ta) (lo := 0) (hi := 99999998) (z := w_fi ws (n_v vs 0) 12) (by omega) (by omega) (by omega) (by omega)
  have ex2 : v_iv (Value.int x) = w_fi ws (n_v vs 0) 12 := ex
  have ex3 : 0 ≤ v_iv (Value.int x) ∧ v_iv (Value.int x) ≤ 99999998 := tv_rng hx
  have e_4 : n_v (vs ++ [Value.int x]) 4 = n_v vs 4 := n_v_old (by rw [hl]; decide)
  have e_5 : n_v (vs ++ [Value.int x]) 5 = n_v vs 5 := n_v_old (by rw [hl]; decide)
  have e_9 : n_v (vs ++ [Value.int x]) 9 = n_v vs 9 := n_v_old (by rw [hl]; decide)
  have e_23 : n_v (vs ++ [Value.int x]) 23 = Value.int x := n_v_new hl
  have nf0 : fc_1 PRD (20, [5, 23], [30, 0, 1, 1, 12, -1, 0, 0]) ws (vs ++ [Value.int x]) := by
    refine ⟨nf_inA hl rfl, sgq_104 ?_⟩
    · show 1 * w_fi ws (n_v (vs ++ [Value.int x]) 5) 12 + ((-1) * v_iv (n_v (vs ++ [Value.int x]) 23) + 0) ≤ 0
      simp only [e_5, e_23, q5]
      exact vc_Ho_writeGroup_at_k0_5_0 (w_fi ws (n_v vs 0) 12) (v_iv (Value.int x)) kz_0_12 ex2
  have nf1 : fc_1 PRD (23, [23, 4, 9], [29, 1, -1, -31]) ws (vs ++ [Value.int x]) := by
    refine ⟨nf_inA hl rfl, sgq_228 ?_⟩
    · show 1 * v_iv (n_v (vs ++ [Value.int x]) 23) + ((-1) * v_iv (n_v (vs ++ [Value.int x]) 4) + ((-31) * v_iv (n_v (vs ++ [Value.int x]) 9) + 0)) ≤ 29
      simp only [e_4, e_9, e_23]
      exact vc_Ho_writeGroup_at_k0_5_1 (v_iv (n_v vs 4)) (v_iv (n_v vs 9)) (v_iv (n_v vs 18)) (w_fi ws (n_v vs 0) 12) (v_iv (Value.int x)) k4 k9 k18 f0 f3 kz_0_12 ex2
  exact ⟨(fun _ h => (by cases h)), [Value.int x], ag_one hx, List.forall_mem_cons.mpr ⟨⟨show (20 : Nat) < 100 from by decide, nf0⟩, List.forall_mem_cons.mpr ⟨⟨show (23 : Nat) < 100 from by decide, nf1⟩, (fun _ h => (by cases h))⟩⟩, (fun _ h => (by cases h))⟩
set_option maxHeartbeats 4000000 in
theorem vc_Ho_writeGroup_at_k0_6_0 (x4 : Int) (x9 : Int) (x23 : Int) (x24 : Int) (spareLength_0 : Int) (k4 : 0 ≤ x4 ∧ x4 ≤ 71426432) (k9 : 0 ≤ x9 ∧ x9 ≤ 23) (k23 : 0 ≤ x23 ∧ x23 ≤ 99999998) (k24 : 1 ≤ x24 ∧ x24 ≤ 24) (d0 : x9 + 1 ≤ x24 ∧ x24 ≤ x9 + 1) (f1 : 1 * x23 + ((-1) * x4 + ((-31) * x9 + 0)) ≤ 29) (f5 : 1 * spareLength_0 + ((-1) * x23 + 0) ≤ 2) (kz_0_12 : 0 ≤ spareLength_0 ∧ spareLength_0 ≤ 100000000) : 1 * spareLength_0 + ((-1) * x4 + ((-31) * x24 + 0)) ≤ 0 := by
  first | assumption | omega | grind
def o_Ho_writeGroup_at_k0_6 : or_T := (3, 25, [(0, (2, 0, 0, [12])), (4, (0, 0, 71426432, [])), (9, (0, 0, 23, [])), (23, (0, 0, 99999998, [])), (24, (0, 1, 24, []))], [(23, [23, 4, 9], [29, 1, -1, -31]), (24, [0, 5], []), (20, [5, 23], [30, 2, 1, 1, 12, -1, 0, 0])], [], [], [(20, [5, 4, 24], [30, 0, 1, 1, 12, -1, 0, 0, -31, 0, 0])], [], [(24, 9, 1, 1)])
theorem oo_Ho_writeGroup_at_k0_6 {kA : Nat → ClassId} : or_ok PRD kA GG o_Ho_writeGroup_at_k0_6 := by
  refine or_mk fun A ta ws vs hD hth hl => ?_
  intro t0 r0 t4 k4 t9 k9 t23 k23 t24 k24 d0 f1 f4 f5
  replace f1 := shm_228 f1
  replace f4 := shm_5 f4
  replace f5 := shm_204 f5
  have q5 : n_v vs 5 = n_v vs 0 := f4.symm
  simp only [q5] at f5
  have kz_0_12 := fdq_0 hD hth r0
  have nf0 : fc_1 PRD (20, [5, 4, 24], [30, 0, 1, 1, 12, -1, 0, 0, -31, 0, 0]) ws (vs) := by
    refine ⟨nf_in hl rfl, sgq_224 ?_⟩
    · show 1 * w_fi ws (n_v vs 5) 12 + ((-1) * v_iv (n_v vs 4) + ((-31) * v_iv (n_v vs 24) + 0)) ≤ 0
      rw [q5]
      exact vc_Ho_writeGroup_at_k0_6_0 (v_iv (n_v vs 4)) (v_iv (n_v vs 9)) (v_iv (n_v vs 23)) (v_iv (n_v vs 24)) (w_fi ws (n_v vs 0) 12) k4 k9 k23 k24 d0 f1 f5 kz_0_12
  refine ⟨(fun _ h => (by cases h)), [], trivial, ?_, (fun _ h => (by cases h))⟩
  rw [List.append_nil]
  exact List.forall_mem_cons.mpr ⟨⟨show (20 : Nat) < 100 from by decide, nf0⟩, (fun _ h => (by cases h))⟩
set_option maxHeartbeats 4000000 in
theorem vc_Ho_writeGroup_at_k0_7_0 (spareLength_0 : Int) (gx : Int) (kz_0_12 : 0 ≤ spareLength_0 ∧ spareLength_0 ≤ 100000000) (ex2 : gx = spareLength_0) : 1 * spareLength_0 + ((-1) * gx + 0) ≤ 0 := by
  first | assumption | omega | grind
set_option maxHeartbeats 4000000 in
theorem vc_Ho_writeGroup_at_k0_7_1 (x4 : Int) (x9 : Int) (x18 : Int) (spareLength_0 : Int) (gx : Int) (k4 : 0 ≤ x4 ∧ x4 ≤ 71426432) (k9 : 0 ≤ x9 ∧ x9 ≤ 23) (k18 : 0 ≤ x18 ∧ x18 ≤ 99999992) (f0 : 1 * x18 + ((-1) * x4 + ((-31) * x9 + 0)) ≤ 5) (f3 : 1 * spareLength_0 + ((-1) * x18 + 0) ≤ 8) (kz_0_12 : 0 ≤ spareLength_0 ∧ spareLength_0 ≤ 100000000) (ex2 : gx = spareLength_0) : 1 * gx + ((-1) * x4 + ((-31) * x9 + 0)) ≤ 13 := by
  first | assumption | omega | grind
def o_Ho_writeGroup_at_k0_7 : or_T := (62, 23, [(0, (2, 0, 0, [12])), (4, (0, 0, 71426432, [])), (5, (2, 0, 0, [12])), (9, (0, 0, 23, [])), (10, (0, 1, 24, [])), (14, (0, 0, 99999995, [])), (18, (0, 0, 99999992, []))], [(23, [18, 4, 9], [5, 1, -1, -31]), (23, [14, 4, 9], [0, 1, -1, -31]), (24, [0, 5], []), (20, [5, 18], [30, 8, 1, 1, 12, -1, 0, 0]), (102, [18], [261336857795280739939871698507597986398208, 12012]), (23, [18, 4, 9], [5, 1, -1, -31]), (23, [14, 4, 9], [0, 1, -1, -31]), (102, [14], [261336857795280739939871698507597986398208, 12012]), (23, [14, 4, 9], [0, 1, -1, -31]), (7, [9, 10], [2])], [], [(0, 0, 99999993, [])], [(20, [5, 23], [30, 0, 1, 1, 12, -1, 0, 0]), (23, [23, 4, 9], [13, 1, -1, -31])], [], [(9, 10, -4294967296, -1)])
theorem oo_Ho_writeGroup_at_k0_7 {kA : Nat → ClassId} : or_ok PRD kA GG o_Ho_writeGroup_at_k0_7 := by
  refine or_mk fun A ta ws vs hD hth hl => ?_
  intro t0 r0 t4 k4 t5 r5 t9 k9 t10 k10 t14 k14 t18 k18 d0 f0 f1 f2 f3 ta1 w1 le1 s1 f5 f6 ta2 w2 le2 s2 f8 f9
  replace f0 := shm_227 f0
  replace f1 := shm_226 f1
  replace f2 := shm_5 f2
  replace f3 := shm_135 f3
  replace f5 := shm_227 f5
  replace f6 := shm_226 f6
  replace f8 := shm_226 f8
  replace f9 := shm_6 f9
  have q5 : n_v vs 5 = n_v vs 0 := f2.symm
  simp only [q5] at f3
  have kz_0_12 := fdq_0 hD hth r0
  have kv0 := fdq_0 hD hth r0
  obtain ⟨x, ex, hx⟩ := iv_ex (ta := ta) (lo := 0) (hi := 99999993) (z := w_fi ws (n_v vs 0) 12) (by omega) (by omega) (by omega) (by omega)
  have ex2 : v_iv (Value.int x) = w_fi ws (n_v vs 0) 12 := ex
  have ex3 : 0 ≤ v_iv (Value.int x) ∧ v_iv (Value.int x) ≤ 99999993 := tv_rng hx
  have e_4 : n_v (vs ++ [Value.int x]) 4 = n_v vs 4 := n_v_old (by rw [hl]; decide)
  have e_5 : n_v (vs ++ [Value.int x]) 5 = n_v vs 5 := n_v_old (by rw [hl]; decide)
  have e_9 : n_v (vs ++ [Value.int x]) 9 = n_v vs 9 := n_v_old (by rw [hl]; decide)
  have e_23 : n_v (vs ++ [Value.int x]) 23 = Value.int x := n_v_new hl
  have nf0 : fc_1 PRD (20, [5, 23], [30, 0, 1, 1, 12, -1, 0, 0]) ws (vs ++ [Value.int x]) := by
    refine ⟨nf_inA hl rfl, sgq_104 ?_⟩
    · show 1 * w_fi ws (n_v (vs ++ [Value.int x]) 5) 12 + ((-1) * v_iv (n_v (vs ++ [Value.int x]) 23) + 0) ≤ 0
      simp only [e_5, e_23, q5]
      exact vc_Ho_writeGroup_at_k0_7_0 (w_fi ws (n_v vs 0) 12) (v_iv (Value.int x)) kz_0_12 ex2
  have nf1 : fc_1 PRD (23, [23, 4, 9], [13, 1, -1, -31]) ws (vs ++ [Value.int x]) := by
    refine ⟨nf_inA hl rfl, sgq_229 ?_⟩
    · show 1 * v_iv (n_v (vs ++ [Value.int x]) 23) + ((-1) * v_iv (n_v (vs ++ [Value.int x]) 4) + ((-31) * v_iv (n_v (vs ++ [Value.int x]) 9) + 0)) ≤ 13
      simp only [e_4, e_9, e_23]
      exact vc_Ho_writeGroup_at_k0_7_1 (v_iv (n_v vs 4)) (v_iv (n_v vs 9)) (v_iv (n_v vs 18)) (w_fi ws (n_v vs 0) 12) (v_iv (Value.int x)) k4 k9 k18 f0 f3 kz_0_12 ex2
  exact ⟨(fun _ h => (by cases h)), [Value.int x], ag_one hx, List.forall_mem_cons.mpr ⟨⟨show (20 : Nat) < 100 from by decide, nf0⟩, List.forall_mem_cons.mpr ⟨⟨show (23 : Nat) < 100 from by decide, nf1⟩, (fun _ h => (by cases h))⟩⟩, (fun _ h => (by cases h))⟩
set_option maxHeartbeats 4000000 in
theorem vc_Ho_writeGroup_at_k0_8_0 (spareLength_0 : Int) (gx : Int) (kz_0_12 : 0 ≤ spareLength_0 ∧ spareLength_0 ≤ 100000000) (ex2 : gx = spareLength_0) : 1 * spareLength_0 + ((-1) * gx + 0) ≤ 0 := by
  first | assumption | omega | grind
set_option maxHeartbeats 4000000 in
theorem vc_Ho_writeGroup_at_k0_8_1 (x4 : Int) (x9 : Int) (x23 : Int) (spareLength_0 : Int) (gx : Int) (k4 : 0 ≤ x4 ∧ x4 ≤ 71426432) (k9 : 0 ≤ x9 ∧ x9 ≤ 23) (k23 : 0 ≤ x23 ∧ x23 ≤ 99999993) (f0 : 1 * x23 + ((-1) * x4 + ((-31) * x9 + 0)) ≤ 13) (f4 : 1 * spareLength_0 + ((-1) * x23 + 0) ≤ 7) (kz_0_12 : 0 ≤ spareLength_0 ∧ spareLength_0 ≤ 100000000) (ex2 : gx = spareLength_0) : 1 * gx + ((-1) * x4 + ((-31) * x9 + 0)) ≤ 20 := by
  first | assumption | omega | grind
def o_Ho_writeGroup_at_k0_8 : or_T := (73, 25, [(0, (2, 0, 0, [12])), (4, (0, 0, 71426432, [])), (5, (2, 0, 0, [12])), (9, (0, 0, 23, [])), (10, (0, 1, 24, [])), (14, (0, 0, 99999995, [])), (18, (0, 0, 99999992, [])), (23, (0, 0, 99999993, []))], [(23, [23, 4, 9], [13, 1, -1, -31]), (23, [18, 4, 9], [5, 1, -1, -31]), (23, [14, 4, 9], [0, 1, -1, -31]), (24, [0, 5], []), (20, [5, 23], [30, 7, 1, 1, 12, -1, 0, 0]), (102, [23], [261336857795280739939871698507597986398208, 12012]), (23, [23, 4, 9], [13, 1, -1, -31]), (23, [18, 4, 9], [5, 1, -1, -31]), (23, [14, 4, 9], [0, 1, -1, -31]), (102, [18], [261336857795280739939871698507597986398208, 12012]), (23, [18, 4, 9], [5, 1, -1, -31]), (23, [14, 4, 9], [0, 1, -1, -31]), (102, [14], [261336857795280739939871698507597986398208, 12012]), (23, [14, 4, 9], [0, 1, -1, -31]), (7, [9, 10], [2])], [], [(0, 0, 99999992, [])], [(20, [5, 25], [30, 0, 1, 1, 12, -1, 0, 0]), (23, [25, 4, 9], [20, 1, -1, -31])], [], [(9, 10, -4294967296, -1)])
theorem oo_Ho_writeGroup_at_k0_8 {kA : Nat → ClassId} : or_ok PRD kA GG o_Ho_writeGroup_at_k0_8 := by
  refine or_mk fun A ta ws vs hD hth hl => ?_
  intro t0 r0 t4 k4 t5 r5 t9 k9 t10 k10 t14 k14 t18 k18 t23 k23 d0 f0 f1 f2 f3 f4 ta1 w1 le1 s1 f6 f7 f8 ta2 w2 le2 s2 f10 f11 ta3 w3 le3 s3 f13 f14
  replace f0 := shm_229 f0
  replace f1 := shm_227 f1
  replace f2 := shm_226 f2
  replace f3 := shm_5 f3
  replace f4 := shm_203 f4
  replace f6 := shm_229 f6
  replace f7 := shm_227 f7
  replace f8 := shm_226 f8
  replace f10 := shm_227 f10
  replace f11 := shm_226 f11
  replace f13 := shm_226 f13
  replace f14 := shm_6 f14
  have q5 : n_v vs 5 = n_v vs 0 := f3.symm
  simp only [q5] at f4
  have kz_0_12 := fdq_0 hD hth r0
  have kv0 := fdq_0 hD hth r0
  obtain ⟨x, ex, hx⟩ := iv_ex (ta := ta) (lo := 0) (hi := 99999992) (z := w_fi ws (n_v vs 0) 12) (by omega) (by omega) (by omega) (by omega)
  have ex2 : v_iv (Value.int x) = w_fi ws (n_v vs 0) 12 := ex
  have ex3 : 0 ≤ v_iv (Value.int x) ∧ v_iv (Value.int x) ≤ 99999992 := tv_rng hx
  have e_4 : n_v (vs ++ [Value.int x]) 4 = n_v vs 4 := n_v_old (by rw [hl]; decide)
  have e_5 : n_v (vs ++ [Value.int x]) 5 = n_v vs 5 := n_v_old (by rw [hl]; decide)
  have e_9 : n_v (vs ++ [Value.int x]) 9 = n_v vs 9 := n_v_old (by rw [hl]; decide)
  have e_25 : n_v (vs ++ [Value.int x]) 25 = Value.int x := n_v_new hl
  have nf0 : fc_1 PRD (20, [5, 25], [30, 0, 1, 1, 12, -1, 0, 0]) ws (vs ++ [Value.int x]) := by
    refine ⟨nf_inA hl rfl, sgq_104 ?_⟩
    · show 1 * w_fi ws (n_v (vs ++ [Value.int x]) 5) 12 + ((-1) * v_iv (n_v (vs ++ [Value.int x]) 25) + 0) ≤ 0
      simp only [e_5, e_25, q5]
      exact vc_Ho_writeGroup_at_k0_8_0 (w_fi ws (n_v vs 0) 12) (v_iv (Value.int x)) kz_0_12 ex2
  have nf1 : fc_1 PRD (23, [25, 4, 9], [20, 1, -1, -31]) ws (vs ++ [Value.int x]) := by
    refine ⟨nf_inA hl rfl, sgq_230 ?_⟩
    · show 1 * v_iv (n_v (vs ++ [Value.int x]) 25) + ((-1) * v_iv (n_v (vs ++ [Value.int x]) 4) + ((-31) * v_iv (n_v (vs ++ [Value.int x]) 9) + 0)) ≤ 20
      simp only [e_4, e_9, e_25]
      exact vc_Ho_writeGroup_at_k0_8_1 (v_iv (n_v vs 4)) (v_iv (n_v vs 9)) (v_iv (n_v vs 23)) (w_fi ws (n_v vs 0) 12) (v_iv (Value.int x)) k4 k9 k23 f0 f4 kz_0_12 ex2
  exact ⟨(fun _ h => (by cases h)), [Value.int x], ag_one hx, List.forall_mem_cons.mpr ⟨⟨show (20 : Nat) < 100 from by decide, nf0⟩, List.forall_mem_cons.mpr ⟨⟨show (23 : Nat) < 100 from by decide, nf1⟩, (fun _ h => (by cases h))⟩⟩, (fun _ h => (by cases h))⟩
set_option maxHeartbeats 4000000 in
theorem vc_Ho_writeGroup_at_k0_9_0 (spareLength_0 : Int) (gx : Int) (kz_0_12 : 0 ≤ spareLength_0 ∧ spareLength_0 ≤ 100000000) (ex2 : gx = spareLength_0) : 1 * spareLength_0 + ((-1) * gx + 0) ≤ 0 := by
  first | assumption | omega | grind
set_option maxHeartbeats 4000000 in
theorem vc_Ho_writeGroup_at_k0_9_1 (x4 : Int) (x9 : Int) (x25 : Int) (spareLength_0 : Int) (gx : Int) (k4 : 0 ≤ x4 ∧ x4 ≤ 71426432) (k9 : 0 ≤ x9 ∧ x9 ≤ 23) (k25 : 0 ≤ x25 ∧ x25 ≤ 99999992) (f0 : 1 * x25 + ((-1) * x4 + ((-31) * x9 + 0)) ≤ 20) (f5 : 1 * spareLength_0 + ((-1) * x25 + 0) ≤ 8) (kz_0_12 : 0 ≤ spareLength_0 ∧ spareLength_0 ≤ 100000000) (ex2 : gx = spareLength_0) : 1 * gx + ((-1) * x4 + ((-31) * x9 + 0)) ≤ 28 := by
  first | assumption | omega | grind
def o_Ho_writeGroup_at_k0_9 : or_T := (79, 27, [(0, (2, 0, 0, [12])), (4, (0, 0, 71426432, [])), (5, (2, 0, 0, [12])), (9, (0, 0, 23, [])), (10, (0, 1, 24, [])), (14, (0, 0, 99999995, [])), (18, (0, 0, 99999992, [])), (23, (0, 0, 99999993, [])), (25, (0, 0, 99999992, []))], [(23, [25, 4, 9], [20, 1, -1, -31]), (23, [23, 4, 9], [13, 1, -1, -31]), (23, [18, 4, 9], [5, 1, -1, -31]), (23, [14, 4, 9], [0, 1, -1, -31]), (24, [0, 5], []), (20, [5, 25], [30, 8, 1, 1, 12, -1, 0, 0]), (102, [25], [261336857795280739939871698507597986398208, 12012]), (23, [25, 4, 9], [20, 1, -1, -31]), (23, [23, 4, 9], [13, 1, -1, -31]), (23, [18, 4, 9], [5, 1, -1, -31]), (23, [14, 4, 9], [0, 1, -1, -31]), (102, [23], [261336857795280739939871698507597986398208, 12012]), (23, [23, 4, 9], [13, 1, -1, -31]), (23, [18, 4, 9], [5, 1, -1, -31]), (23, [14, 4, 9], [0, 1, -1, -31]), (102, [18], [261336857795280739939871698507597986398208, 12012]), (23, [18, 4, 9], [5, 1, -1, -31]), (23, [14, 4, 9], [0, 1, -1, -31]), (102, [14], [261336857795280739939871698507597986398208, 12012]), (23, [14, 4, 9], [0, 1, -1, -31]), (7, [9, 10], [2])], [], [(0, 0, 99999999, [])], [(20, [5, 27], [30, 0, 1, 1, 12, -1, 0, 0]), (23, [27, 4, 9], [28, 1, -1, -31])], [], [(9, 10, -4294967296, -1)])
theorem oo_Ho_writeGroup_at_k0_9 {kA : Nat → ClassId} : or_ok PRD kA GG o_Ho_writeGroup_at_k0_9 := by
  refine or_mk fun A ta ws vs hD hth hl => ?_
  intro t0 r0 t4 k4 t5 r5 t9 k9 t10 k10 t14 k14 t18 k18 t23 k23 t25 k25 d0 f0 f1 f2 f3 f4 f5 ta1 w1 le1 s1 f7 f8 f9 f10 ta2 w2 le2 s2 f12 f13 f14 ta3 w3 le3 s3 f16 f17 ta4 w4 le4 s4 f19 f20
  replace f0 := shm_230 f0
  replace f1 := shm_229 f1
  replace f2 := shm_227 f2
  replace f3 := shm_226 f3
  replace f4 := shm_5 f4
  replace f5 := shm_135 f5
  replace f7 := shm_230 f7
  replace f8 := shm_229 f8
  replace f9 := shm_227 f9
  replace f10 := shm_226 f10
  replace f12 := shm_229 f12
  replace f13 := shm_227 f13
  replace f14 := shm_226 f14
  replace f16 := shm_227 f16
  replace f17 := shm_226 f17
  replace f19 := shm_226 f19
  replace f20 := shm_6 f20
  have q5 : n_v vs 5 = n_v vs 0 := f4.symm
  simp only [q5] at f5
  have kz_0_12 := fdq_0 hD hth r0
  have kv0 := fdq_0 hD hth r0
  obtain ⟨x, ex, hx⟩ := iv_ex (ta := ta) (lo := 0) (hi := 99999999) (z := w_fi ws (n_v vs 0) 12) (by omega) (by omega) (by omega) (by omega)
  have ex2 : v_iv (Value.int x) = w_fi ws (n_v vs 0) 12 := ex
  have ex3 : 0 ≤ v_iv (Value.int x) ∧ v_iv (Value.int x) ≤ 99999999 := tv_rng hx
  have e_4 : n_v (vs ++ [Value.int x]) 4 = n_v vs 4 := n_v_old (by rw [hl]; decide)
  have e_5 : n_v (vs ++ [Value.int x]) 5 = n_v vs 5 := n_v_old (by rw [hl]; decide)
  have e_9 : n_v (vs ++ [Value.int x]) 9 = n_v vs 9 := n_v_old (by rw [hl]; decide)
  have e_27 : n_v (vs ++ [Value.int x]) 27 = Value.int x := n_v_new hl
  have nf0 : fc_1 PRD (20, [5, 27], [30, 0, 1, 1, 12, -1, 0, 0]) ws (vs ++ [Value.int x]) := by
    refine ⟨nf_inA hl rfl, sgq_104 ?_⟩
    · show 1 * w_fi ws (n_v (vs ++ [Value.int x]) 5) 12 + ((-1) * v_iv (n_v (vs ++ [Value.int x]) 27) + 0) ≤ 0
      simp only [e_5, e_27, q5]
      exact vc_Ho_writeGroup_at_k0_9_0 (w_fi ws (n_v vs 0) 12) (v_iv (Value.int x)) kz_0_12 ex2
  have nf1 : fc_1 PRD (23, [27, 4, 9], [28, 1, -1, -31]) ws (vs ++ [Value.int x]) := by
    refine ⟨nf_inA hl rfl, sgq_231 ?_⟩
    · show 1 * v_iv (n_v (vs ++ [Value.int x]) 27) + ((-1) * v_iv (n_v (vs ++ [Value.int x]) 4) + ((-31) * v_iv (n_v (vs ++ [Value.int x]) 9) + 0)) ≤ 28
      simp only [e_4, e_9, e_27]
      exact vc_Ho_writeGroup_at_k0_9_1 (v_iv (n_v vs 4)) (v_iv (n_v vs 9)) (v_iv (n_v vs 25)) (w_fi ws (n_v vs 0) 12) (v_iv (Value.int x)) k4 k9 k25 f0 f5 kz_0_12 ex2
  exact ⟨(fun _ h => (by cases h)), [Value.int x], ag_one hx, List.forall_mem_cons.mpr ⟨⟨show (20 : Nat) < 100 from by decide, nf0⟩, List.forall_mem_cons.mpr ⟨⟨show (23 : Nat) < 100 from by decide, nf1⟩, (fun _ h => (by cases h))⟩⟩, (fun _ h => (by cases h))⟩
set_option maxHeartbeats 4000000 in
theorem vc_Ho_writeGroup_at_k0_10_0 (spareLength_0 : Int) (gx : Int) (kz_0_12 : 0 ≤ spareLength_0 ∧ spareLength_0 ≤ 100000000) (ex2 : gx = spareLength_0) : 1 * spareLength_0 + ((-1) * gx + 0) ≤ 0 := by
  first | assumption | omega | grind
set_option maxHeartbeats 4000000 in
theorem vc_Ho_writeGroup_at_k0_10_1 (x4 : Int) (x9 : Int) (x27 : Int) (spareLength_0 : Int) (gx : Int) (k4 : 0 ≤ x4 ∧ x4 ≤ 71426432) (k9 : 0 ≤ x9 ∧ x9 ≤ 23) (k27 : 0 ≤ x27 ∧ x27 ≤ 99999999) (f0 : 1 * x27 + ((-1) * x4 + ((-31) * x9 + 0)) ≤ 28) (f6 : 1 * spareLength_0 + ((-1) * x27 + 0) ≤ 1) (kz_0_12 : 0 ≤ spareLength_0 ∧ spareLength_0 ≤ 100000000) (ex2 : gx = spareLength_0) : 1 * gx + ((-1) * x4 + ((-31) * x9 + 0)) ≤ 29 := by
  first | assumption | omega | grind
def o_Ho_writeGroup_at_k0_10 : or_T := (86, 29, [(0, (2, 0, 0, [12])), (4, (0, 0, 71426432, [])), (5, (2, 0, 0, [12])), (9, (0, 0, 23, [])), (10, (0, 1, 24, [])), (14, (0, 0, 99999995, [])), (18, (0, 0, 99999992, [])), (23, (0, 0, 99999993, [])), (25, (0, 0, 99999992, [])), (27, (0, 0, 99999999, []))], [(23, [27, 4, 9], [28, 1, -1, -31]), (23, [25, 4, 9], [20, 1, -1, -31]), (23, [23, 4, 9], [13, 1, -1, -31]), (23, [18, 4, 9], [5, 1, -1, -31]), (23, [14, 4, 9], [0, 1, -1, -31]), (24, [0, 5], []), (20, [5, 27], [30, 1, 1, 1, 12, -1, 0, 0]), (102, [27], [261336857795280739939871698507597986398208, 12012]), (23, [27, 4, 9], [28, 1, -1, -31]), (23, [25, 4, 9], [20, 1, -1, -31]), (23, [23, 4, 9], [13, 1, -1, -31]), (23, [18, 4, 9], [5, 1, -1, -31]), (23, [14, 4, 9], [0, 1, -1, -31]), (102, [25], [261336857795280739939871698507597986398208, 12012]), (23, [25, 4, 9], [20, 1, -1, -31]), (23, [23, 4, 9], [13, 1, -1, -31]), (23, [18, 4, 9], [5, 1, -1, -31]), (23, [14, 4, 9], [0, 1, -1, -31]), (102, [23], [261336857795280739939871698507597986398208, 12012]), (23, [23, 4, 9], [13, 1, -1, -31]), (23, [18, 4, 9], [5, 1, -1, -31]), (23, [14, 4, 9], [0, 1, -1, -31]), (102, [18], [261336857795280739939871698507597986398208, 12012]), (23, [18, 4, 9], [5, 1, -1, -31]), (23, [14, 4, 9], [0, 1, -1, -31]), (102, [14], [261336857795280739939871698507597986398208, 12012]), (23, [14, 4, 9], [0, 1, -1, -31]), (7, [9, 10], [2])], [], [(0, 0, 99999998, [])], [(20, [5, 29], [30, 0, 1, 1, 12, -1, 0, 0]), (23, [29, 4, 9], [29, 1, -1, -31])], [], [(9, 10, -4294967296, -1)])
theorem oo_Ho_writeGroup_at_k0_10 {kA : Nat → ClassId} : or_ok PRD kA GG o_Ho_writeGroup_at_k0_10 := by
  refine or_mk fun A ta ws vs hD hth hl => ?_
  intro t0 r0 t4 k4 t5 r5 t9 k9 t10 k10 t14 k14 t18 k18 t23 k23 t25 k25 t27 k27 d0 f0 f1 f2 f3 f4 f5 f6 ta1 w1 le1 s1 f8 f9 f10 f11 f12 ta2 w2 le2 s2 f14 f15 f16 f17 ta3 w3 le3 s3 f19 f20 f21 ta4 w4 le4 s4 f23 f24 ta5 w5 le5 s5 f26 f27
  replace f0 := shm_231 f0
  replace f1 := shm_230 f1
  replace f2 := shm_229 f2
  replace f3 := shm_227 f3
  replace f4 := shm_226 f4
  replace f5 := shm_5 f5
  replace f6 := shm_105 f6
  replace f8 := shm_231 f8
  replace f9 := shm_230 f9
  replace f10 := shm_229 f10
  replace f11 := shm_227 f11
  replace f12 := shm_226 f12
  replace f14 := shm_230 f14
  replace f15 := shm_229 f15
  replace f16 := shm_227 f16
  replace f17 := shm_226 f17
  replace f19 := shm_229 f19
  replace f20 := shm_227 f20
  replace f21 := shm_226 f21
  replace f23 := shm_227 f23
  replace f24 := shm_226 f24
  replace f26 := shm_226 f26
  replace f27 := shm_6 f27
  have q5 : n_v vs 5 = n_v vs 0 := f5.symm
  simp only [q5] at f6
  have kz_0_12 := fdq_0 hD hth r0
  have kv0 := fdq_0 hD hth r0
  obtain ⟨x, ex, hx⟩ := iv_ex (ta := ta) (lo := 0) (hi := 99999998) (z := w_fi ws (n_v vs 0) 12) (by omega) (by omega) (by omega) (by omega)
  have ex2 : v_iv (Value.int x) = w_fi ws (n_v vs 0) 12 := ex
  have ex3 : 0 ≤ v_iv (Value.int x) ∧ v_iv (Value.int x) ≤ 99999998 := tv_rng hx
  have e_4 : n_v (vs ++ [Value.int x]) 4 = n_v vs 4 := n_v_old (by rw [hl]; decide)
  have e_5 : n_v (vs ++ [Value.int x]) 5 = n_v vs 5 := n_v_old (by rw [hl]; decide)
  have e_9 : n_v (vs ++ [Value.int x]) 9 = n_v vs 9 := n_v_old (by rw [hl]; decide)
  have e_29 : n_v (vs ++ [Value.int x]) 29 = Value.int x := n_v_new hl
  have nf0 : fc_1 PRD (20, [5, 29], [30, 0, 1, 1, 12, -1, 0, 0]) ws (vs ++ [Value.int x]) := by
    refine ⟨nf_inA hl rfl, sgq_104 ?_⟩
    · show 1 * w_fi ws (n_v (vs ++ [Value.int x]) 5) 12 + ((-1) * v_iv (n_v (vs ++ [Value.int x]) 29) + 0) ≤ 0
      simp only [e_5, e_29, q5]
      exact vc_Ho_writeGroup_at_k0_10_0 (w_fi ws (n_v vs 0) 12) (v_iv (Value.int x)) kz_0_12 ex2
  have nf1 : fc_1 PRD (23, [29, 4, 9], [29, 1, -1, -31]) ws (vs ++ [Value.int x]) := by
    refine ⟨nf_inA hl rfl, sgq_228 ?_⟩
    · show 1 * v_iv (n_v (vs ++ [Value.int x]) 29) + ((-1) * v_iv (n_v (vs ++ [Value.int x]) 4) + ((-31) * v_iv (n_v (vs ++ [Value.int x]) 9) + 0)) ≤ 29
      simp only [e_4, e_9, e_29]
      exact vc_Ho_writeGroup_at_k0_10_1 (v_iv (n_v vs 4)) (v_iv (n_v vs 9)) (v_iv (n_v vs 27)) (w_fi ws (n_v vs 0) 12) (v_iv (Value.int x)) k4 k9 k27 f0 f6 kz_0_12 ex2
  exact ⟨(fun _ h => (by cases h)), [Value.int x], ag_one hx, List.forall_mem_cons.mpr ⟨⟨show (20 : Nat) < 100 from by decide, nf0⟩, List.forall_mem_cons.mpr ⟨⟨show (23 : Nat) < 100 from by decide, nf1⟩, (fun _ h => (by cases h))⟩⟩, (fun _ h => (by cases h))⟩
set_option maxHeartbeats 4000000 in
theorem vc_Ho_writeGroup_at_k0_11_0 (x4 : Int) (x9 : Int) (x29 : Int) (x30 : Int) (spareLength_0 : Int) (k4 : 0 ≤ x4 ∧ x4 ≤ 71426432) (k9 : 0 ≤ x9 ∧ x9 ≤ 23) (k29 : 0 ≤ x29 ∧ x29 ≤ 99999998) (k30 : 1 ≤ x30 ∧ x30 ≤ 24) (d0 : x9 + 1 ≤ x30 ∧ x30 ≤ x9 + 1) (f1 : 1 * x29 + ((-1) * x4 + ((-31) * x9 + 0)) ≤ 29) (f8 : 1 * spareLength_0 + ((-1) * x29 + 0) ≤ 2) (kz_0_12 : 0 ≤ spareLength_0 ∧ spareLength_0 ≤ 100000000) : 1 * spareLength_0 + ((-1) * x4 + ((-31) * x30 + 0)) ≤ 0 := by
  first | assumption | omega | grind
def o_Ho_writeGroup_at_k0_11 : or_T := (3, 31, [(0, (2, 0, 0, [12])), (4, (0, 0, 71426432, [])), (9, (0, 0, 23, [])), (29, (0, 0, 99999998, [])), (30, (0, 1, 24, []))], [(23, [29, 4, 9], [29, 1, -1, -31]), (24, [0, 5], []), (20, [5, 29], [30, 2, 1, 1, 12, -1, 0, 0])], [], [], [(20, [5, 4, 30], [30, 0, 1, 1, 12, -1, 0, 0, -31, 0, 0])], [], [(30, 9, 1, 1)])
theorem oo_Ho_writeGroup_at_k0_11 {kA : Nat → ClassId} : or_ok PRD kA GG o_Ho_writeGroup_at_k0_11 := by
  refine or_mk fun A ta ws vs hD hth hl => ?_
  intro t0 r0 t4 k4 t9 k9 t29 k29 t30 k30 d0 f1 f7 f8
  replace f1 := shm_228 f1
  replace f7 := shm_5 f7
  replace f8 := shm_204 f8
  have q5 : n_v vs 5 = n_v vs 0 := f7.symm
  simp only [q5] at f8
  have kz_0_12 := fdq_0 hD hth r0
  have nf0 : fc_1 PRD (20, [5, 4, 30], [30, 0, 1, 1, 12, -1, 0, 0, -31, 0, 0]) ws (vs) := by
    refine ⟨nf_in hl rfl, sgq_224 ?_⟩
    · show 1 * w_fi ws (n_v vs 5) 12 + ((-1) * v_iv (n_v vs 4) + ((-31) * v_iv (n_v vs 30) + 0)) ≤ 0
      rw [q5]
      exact vc_Ho_writeGroup_at_k0_11_0 (v_iv (n_v vs 4)) (v_iv (n_v vs 9)) (v_iv (n_v vs 29)) (v_iv (n_v vs 30)) (w_fi ws (n_v vs 0) 12) k4 k9 k29 k30 d0 f1 f8 kz_0_12
  refine ⟨(fun _ h => (by cases h)), [], trivial, ?_, (fun _ h => (by cases h))⟩
  rw [List.append_nil]
  exact List.forall_mem_cons.mpr ⟨⟨show (20 : Nat) < 100 from by decide, nf0⟩, (fun _ h => (by cases h))⟩
set_option maxHeartbeats 4000000 in
theorem vc_Ho_writeGroup_at_k0_12_0 (x4 : Int) (x7 : Int) (x9 : Int) (spareLength_0 : Int) (k4 : 0 ≤ x4 ∧ x4 ≤ 71426432) (k7 : 0 ≤ x7 ∧ x7 ≤ 0) (k9 : 1 ≤ x9 ∧ x9 ≤ 8) (f2 : 1 * spareLength_0 + ((-1) * x4 + ((-3571603) * x9 + (3571603 * x7 + 0))) ≤ (-3570859)) (kz_0_12 : 0 ≤ spareLength_0 ∧ spareLength_0 ≤ 100000000) : 1 * spareLength_0 + ((-1) * x4 + 0) ≤ 28573568 := by
  first | assumption | omega | grind
def o_Ho_writeGroup_at_k0_12 : or_T := (179, 11, [(0, (2, 0, 0, [12])), (4, (0, 0, 71426432, [])), (7, (0, 0, 0, [])), (9, (0, 1, 8, []))], [(20, [5, 4, 9, 7], [30, -3570859, 1, 1, 12, -1, 0, 0, -3571603, 0, 0, 3571603, 0, 0]), (24, [0, 5], [])], [], [], [(20, [0, 4], [30, 28573568, 1, 1, 12, -1, 0, 0])], [], [])
theorem oo_Ho_writeGroup_at_k0_12 {kA : Nat → ClassId} : or_ok PRD kA GG o_Ho_writeGroup_at_k0_12 := by
  refine or_mk fun A ta ws vs hD hth hl => ?_
  intro t0 r0 t4 k4 t7 k7 t9 k9 f2 f3
  replace f2 := shm_225 f2
  replace f3 := shm_5 f3
  have q5 : n_v vs 5 = n_v vs 0 := f3.symm
  simp only [q5] at f2
  have kz_0_12 := fdq_0 hD hth r0
  have nf0 : fc_1 PRD (20, [0, 4], [30, 28573568, 1, 1, 12, -1, 0, 0]) ws (vs) := ⟨nf_in hl rfl, sgq_232 (vc_Ho_writeGroup_at_k0_12_0 (v_iv (n_v vs 4)) (v_iv (n_v vs 7)) (v_iv (n_v vs 9)) (w_fi ws (n_v vs 0) 12) k4 k7 k9 f2 kz_0_12)⟩
  refine ⟨(fun _ h => (by cases h)), [], trivial, ?_, (fun _ h => (by cases h))⟩
  rw [List.append_nil]
  exact List.forall_mem_cons.mpr ⟨⟨show (20 : Nat) < 100 from by decide, nf0⟩, (fun _ h => (by cases h))⟩
set_option maxHeartbeats 4000000 in
theorem vc_Ho_writeGroup_at_k0_13_0 (x4 : Int) (x7 : Int) (x9 : Int) (x13 : Int) (spareLength_0 : Int) (k4 : 0 ≤ x4 ∧ x4 ≤ 71426432) (k7 : 0 ≤ x7 ∧ x7 ≤ 0) (k9 : 1 ≤ x9 ∧ x9 ≤ 7) (k13 : 2 ≤ x13 ∧ x13 ≤ 8) (d0 : x9 + 1 ≤ x13 ∧ x13 ≤ x9 + 1) (f6 : 1 * spareLength_0 + ((-1) * x4 + ((-3571603) * x9 + (3571603 * x7 + 0))) ≤ (-3570859)) (kz_0_12 : 0 ≤ spareLength_0 ∧ spareLength_0 ≤ 100000000) : 1 * spareLength_0 + ((-1) * x4 + ((-3571603) * x13 + (3571603 * x7 + 0))) ≤ (-3570859) := by
  first | assumption | omega | grind
def o_Ho_writeGroup_at_k0_13 : or_T := (100, 14, [(0, (2, 0, 0, [12])), (4, (0, 0, 71426432, [])), (7, (0, 0, 0, [])), (9, (0, 1, 7, [])), (13, (0, 2, 8, []))], [(20, [5, 4, 9, 7], [30, -3570859, 1, 1, 12, -1, 0, 0, -3571603, 0, 0, 3571603, 0, 0]), (24, [0, 5], [])], [], [], [(20, [5, 4, 13, 7], [30, -3570859, 1, 1, 12, -1, 0, 0, -3571603, 0, 0, 3571603, 0, 0])], [], [(13, 9, 1, 1)])
theorem oo_Ho_writeGroup_at_k0_13 {kA : Nat → ClassId} : or_ok PRD kA GG o_Ho_writeGroup_at_k0_13 := by
  refine or_mk fun A ta ws vs hD hth hl => ?_
  intro t0 r0 t4 k4 t7 k7 t9 k9 t13 k13 d0 f6 f7
  replace f6 := shm_225 f6
  replace f7 := shm_5 f7
  have q5 : n_v vs 5 = n_v vs 0 := f7.symm
  simp only [q5] at f6
  have kz_0_12 := fdq_0 hD hth r0
  have nf0 : fc_1 PRD (20, [5, 4, 13, 7], [30, -3570859, 1, 1, 12, -1, 0, 0, -3571603, 0, 0, 3571603, 0, 0]) ws (vs) := by
    refine ⟨nf_in hl rfl, sgq_225 ?_⟩
    · show 1 * w_fi ws (n_v vs 5) 12 + ((-1) * v_iv (n_v vs 4) + ((-3571603) * v_iv (n_v vs 13) + (3571603 * v_iv (n_v vs 7) + 0))) ≤ (-3570859)
      rw [q5]
      exact vc_Ho_writeGroup_at_k0_13_0 (v_iv (n_v vs 4)) (v_iv (n_v vs 7)) (v_iv (n_v vs 9)) (v_iv (n_v vs 13)) (w_fi ws (n_v vs 0) 12) k4 k7 k9 k13 d0 f6 kz_0_12
  refine ⟨(fun _ h => (by cases h)), [], trivial, ?_, (fun _ h => (by cases h))⟩
  rw [List.append_nil]
  exact List.forall_mem_cons.mpr ⟨⟨show (20 : Nat) < 100 from by decide, nf0⟩, (fun _ h => (by cases h))⟩
set_option maxHeartbeats 4000000 in
theorem vc_Ho_writeGroup_at_k0_14_0 (spareLength_0 : Int) (gx : Int) (kz_0_12 : 0 ≤ spareLength_0 ∧ spareLength_0 ≤ 100000000) (ex2 : gx = spareLength_0) : 1 * spareLength_0 + ((-1) * gx + 0) ≤ 0 := by
  first | assumption | omega | grind
set_option maxHeartbeats 4000000 in
theorem vc_Ho_writeGroup_at_k0_14_1 (x4 : Int) (x7 : Int) (x9 : Int) (spareLength_0 : Int) (gx : Int) (k4 : 0 ≤ x4 ∧ x4 ≤ 71426432) (k7 : 0 ≤ x7 ∧ x7 ≤ 0) (k9 : 1 ≤ x9 ∧ x9 ≤ 7) (f5 : 1 * spareLength_0 + ((-1) * x4 + ((-3571603) * x9 + (3571603 * x7 + 0))) ≤ (-3570859)) (kz_0_12 : 0 ≤ spareLength_0 ∧ spareLength_0 ≤ 100000000) (ex2 : gx = spareLength_0) : 1 * gx + ((-1) * x4 + ((-3571603) * x9 + (3571603 * x7 + 0))) ≤ (-3570859) := by
  first | assumption | omega | grind
def o_Ho_writeGroup_at_k0_14 : or_T := (129, 15, [(0, (2, 0, 0, [12])), (4, (0, 0, 71426432, [])), (5, (2, 0, 0, [12])), (6, (2, 0, 0, [3])), (7, (0, 0, 0, [])), (9, (0, 1, 7, [])), (10, (0, 2, 8, [])), (11, (2, 0, 0, [56])), (12, (0, 0, 0, []))], [(7, [12, 7], [0]), (10, [12, 11, 9], []), (9, [11, 6], [11]), (7, [9, 10], [2]), (9, [10, 6], [2]), (20, [5, 4, 9, 7], [30, -3570859, 1, 1, 12, -1, 0, 0, -3571603, 0, 0, 3571603, 0, 0]), (24, [0, 5], [])], [], [(0, 0, 99999994, [])], [(20, [5, 15], [30, 0, 1, 1, 12, -1, 0, 0]), (23, [15, 4, 9, 7], [-3570859, 1, -1, -3571603, 3571603])], [], [(9, 10, -4294967296, -1)])
theorem oo_Ho_writeGroup_at_k0_14 {kA : Nat → ClassId} : or_ok PRD kA GG o_Ho_writeGroup_at_k0_14 := by
  refine or_mk fun A ta ws vs hD hth hl => ?_
  intro t0 r0 t4 k4 t5 r5 t6 r6 t7 k7 t9 k9 t10 k10 t11 r11 t12 k12 d0 f0 f1 f2 f3 f4 f5 f6
  replace f0 := shm_37 f0
  replace f1 := shm_107 f1
  replace f2 := shm_116 f2
  replace f3 := shm_6 f3
  replace f4 := shm_120 f4
  replace f5 := shm_225 f5
  replace f6 := shm_5 f6
  have q5 : n_v vs 5 = n_v vs 0 := f6.symm
  simp only [q5] at f5
  have cr_6_11 := fdq_31 hD hth r6
  have ad_11 : v_ad (n_v vs 11) = w_ar ws (n_v vs 6) 11 := congrArg v_ad f2
  simp only [ad_11] at f1
  have h1 : v_iv (n_v vs 12) = w_ei ws (w_ar ws (n_v vs 6) 11) (v_iv (n_v vs 9)) := f1
  have g4 : v_iv (n_v vs 10) = w_fi ws (n_v vs 6) 2 := congrArg v_iv f4
  have kz_0_12 := fdq_0 hD hth r0
  have kz_6_2 := fdq_20 hD hth r6
  have kv0 := fdq_0 hD hth r0
  obtain ⟨x, ex, hx⟩ := iv_ex (ta := ta) (lo := 0) (hi := 99999994) (z := w_fi ws (n_v vs 0) 12) (by omega) (by omega) (by omega) (by omega)
  have ex2 : v_iv (Value.int x) = w_fi ws (n_v vs 0) 12 := ex
  have ex3 : 0 ≤ v_iv (Value.int x) ∧ v_iv (Value.int x) ≤ 99999994 := tv_rng hx
  have e_4 : n_v (vs ++ [Value.int x]) 4 = n_v vs 4 := n_v_old (by rw [hl]; decide)
  have e_5 : n_v (vs ++ [Value.int x]) 5 = n_v vs 5 := n_v_old (by rw [hl]; decide)
  have e_7 : n_v (vs ++ [Value.int x]) 7 = n_v vs 7 := n_v_old (by rw [hl]; decide)
  have e_9 : n_v (vs ++ [Value.int x]) 9 = n_v vs 9 := n_v_old (by rw [hl]; decide)
  have e_15 : n_v (vs ++ [Value.int x]) 15 = Value.int x := n_v_new hl
  have nf0 : fc_1 PRD (20, [5, 15], [30, 0, 1, 1, 12, -1, 0, 0]) ws (vs ++ [Value.int x]) := by
    refine ⟨nf_inA hl rfl, sgq_104 ?_⟩
    · show 1 * w_fi ws (n_v (vs ++ [Value.int x]) 5) 12 + ((-1) * v_iv (n_v (vs ++ [Value.int x]) 15) + 0) ≤ 0
      simp only [e_5, e_15, q5]
      exact vc_Ho_writeGroup_at_k0_14_0 (w_fi ws (n_v vs 0) 12) (v_iv (Value.int x)) kz_0_12 ex2
  have nf1 : fc_1 PRD (23, [15, 4, 9, 7], [-3570859, 1, -1, -3571603, 3571603]) ws (vs ++ [Value.int x]) := by
    refine ⟨nf_inA hl rfl, sgq_233 ?_⟩
    · show 1 * v_iv (n_v (vs ++ [Value.int x]) 15) + ((-1) * v_iv (n_v (vs ++ [Value.int x]) 4) + ((-3571603) * v_iv (n_v (vs ++ [Value.int x]) 9) + (3571603 * v_iv (n_v (vs ++ [Value.int x]) 7) + 0))) ≤ (-3570859)
      simp only [e_4, e_7, e_9, e_15]
      exact vc_Ho_writeGroup_at_k0_14_1 (v_iv (n_v vs 4)) (v_iv (n_v vs 7)) (v_iv (n_v vs 9)) (w_fi ws (n_v vs 0) 12) (v_iv (Value.int x)) k4 k7 k9 f5 kz_0_12 ex2
  exact ⟨(fun _ h => (by cases h)), [Value.int x], ag_one hx, List.forall_mem_cons.mpr ⟨⟨show (20 : Nat) < 100 from by decide, nf0⟩, List.forall_mem_cons.mpr ⟨⟨show (23 : Nat) < 100 from by decide, nf1⟩, (fun _ h => (by cases h))⟩⟩, (fun _ h => (by cases h))⟩
set_option maxHeartbeats 4000000 in
theorem vc_Ho_writeGroup_at_k0_15_0 (spareLength_0 : Int) (gx : Int) (kz_0_12 : 0 ≤ spareLength_0 ∧ spareLength_0 ≤ 100000000) (ex2 : gx = spareLength_0) : 1 * spareLength_0 + ((-1) * gx + 0) ≤ 0 := by
  first | assumption | omega | grind
set_option maxHeartbeats 4000000 in
theorem vc_Ho_writeGroup_at_k0_15_1 (x4 : Int) (x7 : Int) (x9 : Int) (x15 : Int) (spareLength_0 : Int) (gx : Int) (k4 : 0 ≤ x4 ∧ x4 ≤ 71426432) (k7 : 0 ≤ x7 ∧ x7 ≤ 0) (k9 : 1 ≤ x9 ∧ x9 ≤ 7) (k15 : 0 ≤ x15 ∧ x15 ≤ 99999994) (f0 : 1 * x15 + ((-1) * x4 + ((-3571603) * x9 + (3571603 * x7 + 0))) ≤ (-3570859)) (f2 : 1 * spareLength_0 + ((-1) * x15 + 0) ≤ 6) (kz_0_12 : 0 ≤ spareLength_0 ∧ spareLength_0 ≤ 100000000) (ex2 : gx = spareLength_0) : 1 * gx + ((-1) * x4 + ((-3571603) * x9 + (3571603 * x7 + 0))) ≤ (-3570853) := by
  first | assumption | omega | grind
def o_Ho_writeGroup_at_k0_15 : or_T := (146, 19, [(0, (2, 0, 0, [12])), (4, (0, 0, 71426432, [])), (5, (2, 0, 0, [12])), (7, (0, 0, 0, [])), (9, (0, 1, 7, [])), (10, (0, 2, 8, [])), (12, (0, 0, 0, [])), (15, (0, 0, 99999994, []))], [(23, [15, 4, 9, 7], [-3570859, 1, -1, -3571603, 3571603]), (24, [0, 5], []), (20, [5, 15], [30, 6, 1, 1, 12, -1, 0, 0]), (102, [15], [261336857795280739939871698507597986398208, 12012]), (23, [15, 4, 9, 7], [-3570859, 1, -1, -3571603, 3571603]), (7, [12, 7], [0]), (7, [9, 10], [2])], [], [(0, 0, 99999992, [])], [(20, [5, 19], [30, 0, 1, 1, 12, -1, 0, 0]), (23, [19, 4, 9, 7], [-3570853, 1, -1, -3571603, 3571603])], [], [(9, 10, -4294967296, -1)])
theorem oo_Ho_writeGroup_at_k0_15 {kA : Nat → ClassId} : or_ok PRD kA GG o_Ho_writeGroup_at_k0_15 := by
  refine or_mk fun A ta ws vs hD hth hl => ?_
  intro t0 r0 t4 k4 t5 r5 t7 k7 t9 k9 t10 k10 t12 k12 t15 k15 d0 f0 f1 f2 ta1 w1 le1 s1 f4 f5 f6
  replace f0 := shm_233 f0
  replace f1 := shm_5 f1
  replace f2 := shm_205 f2
  replace f4 := shm_233 f4
  replace f5 := shm_37 f5
  replace f6 := shm_6 f6
  have q5 : n_v vs 5 = n_v vs 0 := f1.symm
  simp only [q5] at f2
  have kz_0_12 := fdq_0 hD hth r0
  have kv0 := fdq_0 hD hth r0
  obtain ⟨x, ex, hx⟩ := iv_ex (ta := ta) (lo := 0) (hi := 99999992) (z := w_fi ws (n_v vs 0) 12) (by omega) (by omega) (by omega) (by omega)
  have ex2 : v_iv (Value.int x) = w_fi ws (n_v vs 0) 12 := ex
  have ex3 : 0 ≤ v_iv (Value.int x) ∧ v_iv (Value.int x) ≤ 99999992 := tv_rng hx
  have e_4 : n_v (vs ++ [Value.int x]) 4 = n_v vs 4 := n_v_old (by rw [hl]; decide)
  have e_5 : n_v (vs ++ [Value.int x]) 5 = n_v vs 5 := n_v_old (by rw [hl]; decide)
  have e_7 : n_v (vs ++ [Value.int x]) 7 = n_v vs 7 := n_v_old (by rw [hl]; decide)
  have e_9 : n_v (vs ++ [Value.int x]) 9 = n_v vs 9 := n_v_old (by rw [hl]; decide)
  have e_19 : n_v (vs ++ [Value.int x]) 19 = Value.int x := n_v_new hl
  have nf0 : fc_1 PRD (20, [5, 19], [30, 0, 1, 1, 12, -1, 0, 0]) ws (vs ++ [Value.int x]) := by
    refine ⟨nf_inA hl rfl, sgq_104 ?_⟩
    · show 1 * w_fi ws (n_v (vs ++ [Value.int x]) 5) 12 + ((-1) * v_iv (n_v (vs ++ [Value.int x]) 19) + 0) ≤ 0
      simp only [e_5, e_19, q5]
      exact vc_Ho_writeGroup_at_k0_15_0 (w_fi ws (n_v vs 0) 12) (v_iv (Value.int x)) kz_0_12 ex2
  have nf1 : fc_1 PRD (23, [19, 4, 9, 7], [-3570853, 1, -1, -3571603, 3571603]) ws (vs ++ [Value.int x]) := by
    refine ⟨nf_inA hl rfl, sgq_234 ?_⟩
    · show 1 * v_iv (n_v (vs ++ [Value.int x]) 19) + ((-1) * v_iv (n_v (vs ++ [Value.int x]) 4) + ((-3571603) * v_iv (n_v (vs ++ [Value.int x]) 9) + (3571603 * v_iv (n_v (vs ++ [Value.int x]) 7) + 0))) ≤ (-3570853)
      simp only [e_4, e_7, e_9, e_19]
      exact vc_Ho_writeGroup_at_k0_15_1 (v_iv (n_v vs 4)) (v_iv (n_v vs 7)) (v_iv (n_v vs 9)) (v_iv (n_v vs 15)) (w_fi ws (n_v vs 0) 12) (v_iv (Value.int x)) k4 k7 k9 k15 f0 f2 kz_0_12 ex2
  exact ⟨(fun _ h => (by cases h)), [Value.int x], ag_one hx, List.forall_mem_cons.mpr ⟨⟨show (20 : Nat) < 100 from by decide, nf0⟩, List.forall_mem_cons.mpr ⟨⟨show (23 : Nat) < 100 from by decide, nf1⟩, (fun _ h => (by cases h))⟩⟩, (fun _ h => (by cases h))⟩
set_option maxHeartbeats 4000000 in
theorem vc_Ho_writeGroup_at_k0_16_0 (spareLength_0 : Int) (gx : Int) (kz_0_12 : 0 ≤ spareLength_0 ∧ spareLength_0 ≤ 100000000) (ex2 : gx = spareLength_0) : 1 * spareLength_0 + ((-1) * gx + 0) ≤ 0 := by
  first | assumption | omega | grind
set_option maxHeartbeats 4000000 in
theorem vc_Ho_writeGroup_at_k0_16_1 (x4 : Int) (x7 : Int) (x9 : Int) (x19 : Int) (spareLength_0 : Int) (gx : Int) (k4 : 0 ≤ x4 ∧ x4 ≤ 71426432) (k7 : 0 ≤ x7 ∧ x7 ≤ 0) (k9 : 1 ≤ x9 ∧ x9 ≤ 7) (k19 : 0 ≤ x19 ∧ x19 ≤ 99999992) (f0 : 1 * x19 + ((-1) * x4 + ((-3571603) * x9 + (3571603 * x7 + 0))) ≤ (-3570853)) (f3 : 1 * spareLength_0 + ((-1) * x19 + 0) ≤ 8) (kz_0_12 : 0 ≤ spareLength_0 ∧ spareLength_0 ≤ 100000000) (ex2 : gx = spareLength_0) : 1 * gx + ((-1) * x4 + ((-3571603) * x9 + (3571603 * x7 + 0))) ≤ (-3570845) := by
  first | assumption | omega | grind
def o_Ho_writeGroup_at_k0_16 : or_T := (153, 21, [(0, (2, 0, 0, [12])), (4, (0, 0, 71426432, [])), (5, (2, 0, 0, [12])), (7, (0, 0, 0, [])), (9, (0, 1, 7, [])), (10, (0, 2, 8, [])), (12, (0, 0, 0, [])), (15, (0, 0, 99999994, [])), (19, (0, 0, 99999992, []))], [(23, [19, 4, 9, 7], [-3570853, 1, -1, -3571603, 3571603]), (23, [15, 4, 9, 7], [-3570859, 1, -1, -3571603, 3571603]), (24, [0, 5], []), (20, [5, 19], [30, 8, 1, 1, 12, -1, 0, 0]), (102, [19], [261336857795280739939871698507597986398208, 12012]), (23, [19, 4, 9, 7], [-3570853, 1, -1, -3571603, 3571603]), (23, [15, 4, 9, 7], [-3570859, 1, -1, -3571603, 3571603]), (102, [15], [261336857795280739939871698507597986398208, 12012]), (23, [15, 4, 9, 7], [-3570859, 1, -1, -3571603, 3571603]), (7, [12, 7], [0]), (7, [9, 10], [2])], [], [(0, 0, 99999997, [])], [(20, [5, 21], [30, 0, 1, 1, 12, -1, 0, 0]), (23, [21, 4, 9, 7], [-3570845, 1, -1, -3571603, 3571603])], [], [(9, 10, -4294967296, -1)])
theorem oo_Ho_writeGroup_at_k0_16 {kA : Nat → ClassId} : or_ok PRD kA GG o_Ho_writeGroup_at_k0_16 := by
  refine or_mk fun A ta ws vs hD hth hl => ?_
  intro t0 r0 t4 k4 t5 r5 t7 k7 t9 k9 t10 k10 t12 k12 t15 k15 t19 k19 d0 f0 f1 f2 f3 ta1 w1 le1 s1 f5 f6 ta2 w2 le2 s2 f8 f9 f10
  replace f0 := shm_234 f0
  replace f1 := shm_233 f1
  replace f2 := shm_5 f2
  replace f3 := shm_135 f3
  replace f5 := shm_234 f5
  replace f6 := shm_233 f6
  replace f8 := shm_233 f8
  replace f9 := shm_37 f9
  replace f10 := shm_6 f10
  have q5 : n_v vs 5 = n_v vs 0 := f2.symm
  simp only [q5] at f3
  have kz_0_12 := fdq_0 hD hth r0
  have kv0 := fdq_0 hD hth r0
  obtain ⟨x, ex, hx⟩ := iv_ex (ta := ta) (lo := 0) (hi := 99999997) (z := w_fi ws (n_v vs 0) 12) (by omega) (by omega) (by omega) (by omega)
  have ex2 : v_iv (Value.int x) = w_fi ws (n_v vs 0) 12 := ex
  have ex3 : 0 ≤ v_iv (Value.int x) ∧ v_iv (Value.int x) ≤ 99999997 := tv_rng hx
  have e_4 : n_v (vs ++ [Value.int x]) 4 = n_v vs 4 := n_v_old (by rw [hl]; decide)
  have e_5 : n_v (vs ++ [Value.int x]) 5 = n_v vs 5 := n_v_old (by rw [hl]; decide)
  have e_7 : n_v (vs ++ [Value.int x]) 7 = n_v vs 7 := n_v_old (by rw [hl]; decide)
  have e_9 : n_v (vs ++ [Value.int x]) 9 = n_v vs 9 := n_v_old (by rw [hl]; decide)
  have e_21 : n_v (vs ++ [Value.int x]) 21 = Value.int x := n_v_new hl
  have nf0 : fc_1 PRD (20, [5, 21], [30, 0, 1, 1, 12, -1, 0, 0]) ws (vs ++ [Value.int x]) := by
    refine ⟨nf_inA hl rfl, sgq_104 ?_⟩
    · show 1 * w_fi ws (n_v (vs ++ [Value.int x]) 5) 12 + ((-1) * v_iv (n_v (vs ++ [Value.int x]) 21) + 0) ≤ 0
      simp only [e_5, e_21, q5]
      exact vc_Ho_writeGroup_at_k0_16_0 (w_fi ws (n_v vs 0) 12) (v_iv (Value.int x)) kz_0_12 ex2
  have nf1 : fc_1 PRD (23, [21, 4, 9, 7], [-3570845, 1, -1, -3571603, 3571603]) ws (vs ++ [Value.int x]) := by
    refine ⟨nf_inA hl rfl, sgq_235 ?_⟩
    · show 1 * v_iv (n_v (vs ++ [Value.int x]) 21) + ((-1) * v_iv (n_v (vs ++ [Value.int x]) 4) + ((-3571603) * v_iv (n_v (vs ++ [Value.int x]) 9) + (3571603 * v_iv (n_v (vs ++ [Value.int x]) 7) + 0))) ≤ (-3570845)
      simp only [e_4, e_7, e_9, e_21]
      exact vc_Ho_writeGroup_at_k0_16_1 (v_iv (n_v vs 4)) (v_iv (n_v vs 7)) (v_iv (n_v vs 9)) (v_iv (n_v vs 19)) (w_fi ws (n_v vs 0) 12) (v_iv (Value.int x)) k4 k7 k9 k19 f0 f3 kz_0_12 ex2
  exact ⟨(fun _ h => (by cases h)), [Value.int x], ag_one hx, List.forall_mem_cons.mpr ⟨⟨show (20 : Nat) < 100 from by decide, nf0⟩, List.forall_mem_cons.mpr ⟨⟨show (23 : Nat) < 100 from by decide, nf1⟩, (fun _ h => (by cases h))⟩⟩, (fun _ h => (by cases h))⟩
set_option maxHeartbeats 4000000 in
theorem vc_Ho_writeGroup_at_k0_17_0 (spareLength_0 : Int) (gx : Int) (kz_0_12 : 0 ≤ spareLength_0 ∧ spareLength_0 ≤ 100000000) (ex2 : gx = spareLength_0) : 1 * spareLength_0 + ((-1) * gx + 0) ≤ 0 := by
  first | assumption | omega | grind
set_option maxHeartbeats 4000000 in
theorem vc_Ho_writeGroup_at_k0_17_1 (x4 : Int) (x7 : Int) (x9 : Int) (x21 : Int) (spareLength_0 : Int) (gx : Int) (k4 : 0 ≤ x4 ∧ x4 ≤ 71426432) (k7 : 0 ≤ x7 ∧ x7 ≤ 0) (k9 : 1 ≤ x9 ∧ x9 ≤ 7) (k21 : 0 ≤ x21 ∧ x21 ≤ 99999997) (f0 : 1 * x21 + ((-1) * x4 + ((-3571603) * x9 + (3571603 * x7 + 0))) ≤ (-3570845)) (f4 : 1 * spareLength_0 + ((-1) * x21 + 0) ≤ 3) (kz_0_12 : 0 ≤ spareLength_0 ∧ spareLength_0 ≤ 100000000) (ex2 : gx = spareLength_0) : 1 * gx + ((-1) * x4 + ((-3571603) * x9 + (3571603 * x7 + 0))) ≤ (-3570842) := by
  first | assumption | omega | grind
def o_Ho_writeGroup_at_k0_17 : or_T := (163, 24, [(0, (2, 0, 0, [12])), (4, (0, 0, 71426432, [])), (5, (2, 0, 0, [12])), (7, (0, 0, 0, [])), (9, (0, 1, 7, [])), (10, (0, 2, 8, [])), (12, (0, 0, 0, [])), (15, (0, 0, 99999994, [])), (19, (0, 0, 99999992, [])), (21, (0, 0, 99999997, []))], [(23, [21, 4, 9, 7], [-3570845, 1, -1, -3571603, 3571603]), (23, [19, 4, 9, 7], [-3570853, 1, -1, -3571603, 3571603]), (23, [15, 4, 9, 7], [-3570859, 1, -1, -3571603, 3571603]), (24, [0, 5], []), (20, [5, 21], [30, 3, 1, 1, 12, -1, 0, 0]), (102, [21], [261336857795280739939871698507597986398208, 12012]), (23, [21, 4, 9, 7], [-3570845, 1, -1, -3571603, 3571603]), (23, [19, 4, 9, 7], [-3570853, 1, -1, -3571603, 3571603]), (23, [15, 4, 9, 7], [-3570859, 1, -1, -3571603, 3571603]), (102, [19], [261336857795280739939871698507597986398208, 12012]), (23, [19, 4, 9, 7], [-3570853, 1, -1, -3571603, 3571603]), (23, [15, 4, 9, 7], [-3570859, 1, -1, -3571603, 3571603]), (102, [15], [261336857795280739939871698507597986398208, 12012]), (23, [15, 4, 9, 7], [-3570859, 1, -1, -3571603, 3571603]), (7, [12, 7], [0]), (7, [9, 10], [2])], [], [(0, 0, 96428416, [])], [(20, [5, 24], [30, 0, 1, 1, 12, -1, 0, 0]), (23, [24, 4, 9, 7], [-3570842, 1, -1, -3571603, 3571603])], [], [(9, 10, -4294967296, -1)])
theorem oo_Ho_writeGroup_at_k0_17 {kA : Nat → ClassId} : or_ok PRD kA GG o_Ho_writeGroup_at_k0_17 := by
  refine or_mk fun A ta ws vs hD hth hl => ?_
  intro t0 r0 t4 k4 t5 r5 t7 k7 t9 k9 t10 k10 t12 k12 t15 k15 t19 k19 t21 k21 d0 f0 f1 f2 f3 f4 ta1 w1 le1 s1 f6 f7 f8 ta2 w2 le2 s2 f10 f11 ta3 w3 le3 s3 f13 f14 f15
  replace f0 := shm_235 f0
  replace f1 := shm_234 f1
  replace f2 := shm_233 f2
  replace f3 := shm_5 f3
  replace f4 := shm_206 f4
  replace f6 := shm_235 f6
  replace f7 := shm_234 f7
  replace f8 := shm_233 f8
  replace f10 := shm_234 f10
  replace f11 := shm_233 f11
  replace f13 := shm_233 f13
  replace f14 := shm_37 f14
  replace f15 := shm_6 f15
  have q5 : n_v vs 5 = n_v vs 0 := f3.symm
  simp only [q5] at f4
  have kz_0_12 := fdq_0 hD hth r0
  have kv0 := fdq_0 hD hth r0
  obtain ⟨x, ex, hx⟩ := iv_ex (ta := ta) (lo := 0) (hi := 96428416) (z := w_fi ws (n_v vs 0) 12) (by omega) (by omega) (by omega) (by omega)
  have ex2 : v_iv (Value.int x) = w_fi ws (n_v vs 0) 12 := ex
  have ex3 : 0 ≤ v_iv (Value.int x) ∧ v_iv (Value.int x) ≤ 96428416 := tv_rng hx
  have e_4 : n_v (vs ++ [Value.int x]) 4 = n_v vs 4 := n_v_old (by rw [hl]; decide)
  have e_5 : n_v (vs ++ [Value.int x]) 5 = n_v vs 5 := n_v_old (by rw [hl]; decide)
  have e_7 : n_v (vs ++ [Value.int x]) 7 = n_v vs 7 := n_v_old (by rw [hl]; decide)
  have e_9 : n_v (vs ++ [Value.int x]) 9 = n_v vs 9 := n_v_old (by rw [hl]; decide)
  have e_24 : n_v (vs ++ [Value.int x]) 24 = Value.int x := n_v_new hl
  have nf0 : fc_1 PRD (20, [5, 24], [30, 0, 1, 1, 12, -1, 0, 0]) ws (vs ++ [Value.int x]) := by
    refine ⟨nf_inA hl rfl, sgq_104 ?_⟩
    · show 1 * w_fi ws (n_v (vs ++ [Value.int x]) 5) 12 + ((-1) * v_iv (n_v (vs ++ [Value.int x]) 24) + 0) ≤ 0
      simp only [e_5, e_24, q5]
      exact vc_Ho_writeGroup_at_k0_17_0 (w_fi ws (n_v vs 0) 12) (v_iv (Value.int x)) kz_0_12 ex2
  have nf1 : fc_1 PRD (23, [24, 4, 9, 7], [-3570842, 1, -1, -3571603, 3571603]) ws (vs ++ [Value.int x]) := by
    refine ⟨nf_inA hl rfl, sgq_236 ?_⟩
    · show 1 * v_iv (n_v (vs ++ [Value.int x]) 24) + ((-1) * v_iv (n_v (vs ++ [Value.int x]) 4) + ((-3571603) * v_iv (n_v (vs ++ [Value.int x]) 9) + (3571603 * v_iv (n_v (vs ++ [Value.int x]) 7) + 0))) ≤ (-3570842)
      simp only [e_4, e_7, e_9, e_24]
      exact vc_Ho_writeGroup_at_k0_17_1 (v_iv (n_v vs 4)) (v_iv (n_v vs 7)) (v_iv (n_v vs 9)) (v_iv (n_v vs 21)) (w_fi ws (n_v vs 0) 12) (v_iv (Value.int x)) k4 k7 k9 k21 f0 f4 kz_0_12 ex2
  exact ⟨(fun _ h => (by cases h)), [Value.int x], ag_one hx, List.forall_mem_cons.mpr ⟨⟨show (20 : Nat) < 100 from by decide, nf0⟩, List.forall_mem_cons.mpr ⟨⟨show (23 : Nat) < 100 from by decide, nf1⟩, (fun _ h => (by cases h))⟩⟩, (fun _ h => (by cases h))⟩
set_option maxHeartbeats 4000000 in
theorem vc_Ho_writeGroup_at_k0_18_0 (spareLength_0 : Int) (gx : Int) (kz_0_12 : 0 ≤ spareLength_0 ∧ spareLength_0 ≤ 100000000) (ex2 : gx = spareLength_0) : 1 * spareLength_0 + ((-1) * gx + 0) ≤ 0 := by
  first | assumption | omega | grind
set_option maxHeartbeats 4000000 in
theorem vc_Ho_writeGroup_at_k0_18_1 (x4 : Int) (x7 : Int) (x9 : Int) (x24 : Int) (spareLength_0 : Int) (gx : Int) (k4 : 0 ≤ x4 ∧ x4 ≤ 71426432) (k7 : 0 ≤ x7 ∧ x7 ≤ 0) (k9 : 1 ≤ x9 ∧ x9 ≤ 7) (k24 : 0 ≤ x24 ∧ x24 ≤ 96428416) (f0 : 1 * x24 + ((-1) * x4 + ((-3571603) * x9 + (3571603 * x7 + 0))) ≤ (-3570842)) (f5 : 1 * spareLength_0 + ((-1) * x24 + 0) ≤ 3571584) (kz_0_12 : 0 ≤ spareLength_0 ∧ spareLength_0 ≤ 100000000) (ex2 : gx = spareLength_0) : 1 * gx + ((-1) * x4 + ((-3571603) * x9 + (3571603 * x7 + 0))) ≤ 742 := by
  first | assumption | omega | grind
def o_Ho_writeGroup_at_k0_18 : or_T := (170, 26, [(0, (2, 0, 0, [12])), (4, (0, 0, 71426432, [])), (5, (2, 0, 0, [12])), (7, (0, 0, 0, [])), (9, (0, 1, 7, [])), (10, (0, 2, 8, [])), (12, (0, 0, 0, [])), (15, (0, 0, 99999994, [])), (19, (0, 0, 99999992, [])), (21, (0, 0, 99999997, [])), (24, (0, 0, 96428416, []))], [(23, [24, 4, 9, 7], [-3570842, 1, -1, -3571603, 3571603]), (23, [21, 4, 9, 7], [-3570845, 1, -1, -3571603, 3571603]), (23, [19, 4, 9, 7], [-3570853, 1, -1, -3571603, 3571603]), (23, [15, 4, 9, 7], [-3570859, 1, -1, -3571603, 3571603]), (24, [0, 5], []), (20, [5, 24], [30, 3571584, 1, 1, 12, -1, 0, 0]), (102, [24], [261336857795280739939871698507597986398208, 12012]), (23, [24, 4, 9, 7], [-3570842, 1, -1, -3571603, 3571603]), (23, [21, 4, 9, 7], [-3570845, 1, -1, -3571603, 3571603]), (23, [19, 4, 9, 7], [-3570853, 1, -1, -3571603, 3571603]), (23, [15, 4, 9, 7], [-3570859, 1, -1, -3571603, 3571603]), (102, [21], [261336857795280739939871698507597986398208, 12012]), (23, [21, 4, 9, 7], [-3570845, 1, -1, -3571603, 3571603]), (23, [19, 4, 9, 7], [-3570853, 1, -1, -3571603, 3571603]), (23, [15, 4, 9, 7], [-3570859, 1, -1, -3571603, 3571603]), (102, [19], [261336857795280739939871698507597986398208, 12012]), (23, [19, 4, 9, 7], [-3570853, 1, -1, -3571603, 3571603]), (23, [15, 4, 9, 7], [-3570859, 1, -1, -3571603, 3571603]), (102, [15], [261336857795280739939871698507597986398208, 12012]), (23, [15, 4, 9, 7], [-3570859, 1, -1, -3571603, 3571603]), (7, [12, 7], [0]), (7, [9, 10], [2])], [], [(0, 0, 99999998, [])], [(20, [5, 26], [30, 0, 1, 1, 12, -1, 0, 0]), (23, [26, 4, 9, 7], [742, 1, -1, -3571603, 3571603])], [], [(9, 10, -4294967296, -1)])
theorem oo_Ho_writeGroup_at_k0_18 {kA : Nat → ClassId} : or_ok PRD kA GG o_Ho_writeGroup_at_k0_18 := by
  refine or_mk fun A ta ws vs hD hth hl => ?_
  intro t0 r0 t4 k4 t5 r5 t7 k7 t9 k9 t10 k10 t12 k12 t15 k15 t19 k19 t21 k21 t24 k24 d0 f0 f1 f2 f3 f4 f5 ta1 w1 le1 s1 f7 f8 f9 f10 ta2 w2 le2 s2 f12 f13 f14 ta3 w3 le3 s3 f16 f17 ta4 w4 le4 s4 f19 f20 f21
  replace f0 := shm_236 f0
  replace f1 := shm_235 f1
  replace f2 := shm_234 f2
  replace f3 := shm_233 f3
  replace f4 := shm_5 f4
  replace f5 := shm_237 f5
  replace f7 := shm_236 f7
  replace f8 := shm_235 f8
  replace f9 := shm_234 f9
  replace f10 := shm_233 f10
  replace f12 := shm_235 f12
  replace f13 := shm_234 f13
  replace f14 := shm_233 f14
  replace f16 := shm_234 f16
  replace f17 := shm_233 f17
  replace f19 := shm_233 f19
  replace f20 := shm_37 f20
  replace f21 := shm_6 f21
  have q5 : n_v vs 5 = n_v vs 0 := f4.symm
  simp only [q5] at f5
  have kz_0_12 := fdq_0 hD hth r0
  have kv0 := fdq_0 hD hth r0
  obtain ⟨x, ex, hx⟩ := iv_ex (ta := ta) (lo := 0) (hi := 99999998) (z := w_fi ws (n_v vs 0) 12) (by omega) (by omega) (by omega) (by omega)
  have ex2 : v_iv (Value.int x) = w_fi ws (n_v vs 0) 12 := ex
  have ex3 : 0 ≤ v_iv (Value.int x) ∧ v_iv (Value.int x) ≤ 99999998 := tv_rng hx
  have e_4 : n_v (vs ++ [Value.int x]) 4 = n_v vs 4 := n_v_old (by rw [hl]; decide)
  have e_5 : n_v (vs ++ [Value.int x]) 5 = n_v vs 5 := n_v_old (by rw [hl]; decide)
  have e_7 : n_v (vs ++ [Value.int x]) 7 = n_v vs 7 := n_v_old (by rw [hl]; decide)
  have e_9 : n_v (vs ++ [Value.int x]) 9 = n_v vs 9 := n_v_old (by rw [hl]; decide)
  have e_26 : n_v (vs ++ [Value.int x]) 26 = Value.int x := n_v_new hl
  have nf0 : fc_1 PRD (20, [5, 26], [30, 0, 1, 1, 12, -1, 0, 0]) ws (vs ++ [Value.int x]) := by
    refine ⟨nf_inA hl rfl, sgq_104 ?_⟩
    · show 1 * w_fi ws (n_v (vs ++ [Value.int x]) 5) 12 + ((-1) * v_iv (n_v (vs ++ [Value.int x]) 26) + 0) ≤ 0
      simp only [e_5, e_26, q5]
      exact vc_Ho_writeGroup_at_k0_18_0 (w_fi ws (n_v vs 0) 12) (v_iv (Value.int x)) kz_0_12 ex2
  have nf1 : fc_1 PRD (23, [26, 4, 9, 7], [742, 1, -1, -3571603, 3571603]) ws (vs ++ [Value.int x]) := by
    refine ⟨nf_inA hl rfl, sgq_238 ?_⟩
    · show 1 * v_iv (n_v (vs ++ [Value.int x]) 26) + ((-1) * v_iv (n_v (vs ++ [Value.int x]) 4) + ((-3571603) * v_iv (n_v (vs ++ [Value.int x]) 9) + (3571603 * v_iv (n_v (vs ++ [Value.int x]) 7) + 0))) ≤ 742
      simp only [e_4, e_7, e_9, e_26]
      exact vc_Ho_writeGroup_at_k0_18_1 (v_iv (n_v vs 4)) (v_iv (n_v vs 7)) (v_iv (n_v vs 9)) (v_iv (n_v vs 24)) (w_fi ws (n_v vs 0) 12) (v_iv (Value.int x)) k4 k7 k9 k24 f0 f5 kz_0_12 ex2
  exact ⟨(fun _ h => (by cases h)), [Value.int x], ag_one hx, List.forall_mem_cons.mpr ⟨⟨show (20 : Nat) < 100 from by decide, nf0⟩, List.forall_mem_cons.mpr ⟨⟨show (23 : Nat) < 100 from by decide, nf1⟩, (fun _ h => (by cases h))⟩⟩, (fun _ h => (by cases h))⟩
set_option maxHeartbeats 4000000 in
theorem vc_Ho_writeGroup_at_k0_19_0 (x4 : Int) (x7 : Int) (x9 : Int) (x26 : Int) (x27 : Int) (spareLength_0 : Int) (k4 : 0 ≤ x4 ∧ x4 ≤ 71426432) (k7 : 0 ≤ x7 ∧ x7 ≤ 0) (k9 : 1 ≤ x9 ∧ x9 ≤ 7) (k26 : 0 ≤ x26 ∧ x26 ≤ 99999998) (k27 : 2 ≤ x27 ∧ x27 ≤ 8) (d0 : x9 + 1 ≤ x27 ∧ x27 ≤ x9 + 1) (f1 : 1 * x26 + ((-1) * x4 + ((-3571603) * x9 + (3571603 * x7 + 0))) ≤ 742) (f7 : 1 * spareLength_0 + ((-1) * x26 + 0) ≤ 2) (kz_0_12 : 0 ≤ spareLength_0 ∧ spareLength_0 ≤ 100000000) : 1 * spareLength_0 + ((-1) * x4 + ((-3571603) * x27 + (3571603 * x7 + 0))) ≤ (-3570859) := by
  first | assumption | omega | grind
def o_Ho_writeGroup_at_k0_19 : or_T := (100, 28, [(0, (2, 0, 0, [12])), (4, (0, 0, 71426432, [])), (7, (0, 0, 0, [])), (9, (0, 1, 7, [])), (26, (0, 0, 99999998, [])), (27, (0, 2, 8, []))], [(23, [26, 4, 9, 7], [742, 1, -1, -3571603, 3571603]), (24, [0, 5], []), (20, [5, 26], [30, 2, 1, 1, 12, -1, 0, 0])], [], [], [(20, [5, 4, 27, 7], [30, -3570859, 1, 1, 12, -1, 0, 0, -3571603, 0, 0, 3571603, 0, 0])], [], [(27, 9, 1, 1)])
theorem oo_Ho_writeGroup_at_k0_19 {kA : Nat → ClassId} : or_ok PRD kA GG o_Ho_writeGroup_at_k0_19 := by
  refine or_mk fun A ta ws vs hD hth hl => ?_
  intro t0 r0 t4 k4 t7 k7 t9 k9 t26 k26 t27 k27 d0 f1 f6 f7
  replace f1 := shm_238 f1
  replace f6 := shm_5 f6
  replace f7 := shm_204 f7
  have q5 : n_v vs 5 = n_v vs 0 := f6.symm
  simp only [q5] at f7
  have kz_0_12 := fdq_0 hD hth r0
  have nf0 : fc_1 PRD (20, [5, 4, 27, 7], [30, -3570859, 1, 1, 12, -1, 0, 0, -3571603, 0, 0, 3571603, 0, 0]) ws (vs) := by
    refine ⟨nf_in hl rfl, sgq_225 ?_⟩
    · show 1 * w_fi ws (n_v vs 5) 12 + ((-1) * v_iv (n_v vs 4) + ((-3571603) * v_iv (n_v vs 27) + (3571603 * v_iv (n_v vs 7) + 0))) ≤ (-3570859)
      rw [q5]
      exact vc_Ho_writeGroup_at_k0_19_0 (v_iv (n_v vs 4)) (v_iv (n_v vs 7)) (v_iv (n_v vs 9)) (v_iv (n_v vs 26)) (v_iv (n_v vs 27)) (w_fi ws (n_v vs 0) 12) k4 k7 k9 k26 k27 d0 f1 f7 kz_0_12
  refine ⟨(fun _ h => (by cases h)), [], trivial, ?_, (fun _ h => (by cases h))⟩
  rw [List.append_nil]
  exact List.forall_mem_cons.mpr ⟨⟨show (20 : Nat) < 100 from by decide, nf0⟩, (fun _ h => (by cases h))⟩
def n_Ho_writeGroup_at_k0_an : List an_T := [(3, [(0, (2, 0, 0, [12])), (1, (2, 0, 0, [3])), (2, (0, 0, 0, [])), (3, (0, 0, 0, [])), (4, (0, 0, 24, []))], [], (0, 0), [(0, 0, 99997), (1, 9, 24), (0, 0, 100000)], [], [], [(2, 0, 0, [12]), (2, 0, 0, [3]), (0, 0, 0, []), (0, 0, 0, []), (0, 0, 71426432, [])], 0, [], [(20, [5, 4, 9], [30, 0, 1, 1, 12, (Int.negSucc 0), 0, 0, (Int.negSucc 30), 0, 0]), (24, [0, 5], [])]), (100, [(0, (2, 0, 0, [12])), (1, (2, 0, 0, [3])), (2, (0, 0, 0, [])), (3, (0, 0, 0, [])), (4, (0, 1, 8, []))], [], (0, 0), [(0, 0, 99900), (1, 9, 8), (0, 0, 100000)], [], [], [(2, 0, 0, [12]), (2, 0, 0, [3]), (0, 0, 0, []), (0, 0, 0, []), (0, 0, 71426432, [])], 0, [], [(20, [5, 4, 9, 7], [30, (Int.negSucc 3570858), 1, 1, 12, (Int.negSucc 0), 0, 0, (Int.negSucc 3571602), 0, 0, 3571603, 0, 0]), (24, [0, 5], [])])]
def t_Ho_writeGroup_at_k0_ct : ct_L := [(1, 447, e_Ho_writeByte), (1, 471, e_Ho_writeNumber), (85, 461, e_Ho_writeWord_at_s5013), (136, 465, e_Ho_writeName_at_Grname), (190, 461, e_Ho_writeWord_at_s5014), (262, 461, e_Ho_writeWord_at_s5015), (391, 461, e_Ho_writeWord_at_s5016), (442, 465, e_Ho_writeName_at_GrgroupName), (463, 461, e_Ho_writeWord_at_s5017), (493, 364, e_Ho_writeGroup_at_k1), (514, 461, e_Ho_writeWord_at_s5018), (1000001, 459, en_ro [] (2, 0, 0, [5013])), (1000001, 469, en_ro [] (2, 0, 0, [5014])), (1000001, 474, en_ro [] (2, 0, 0, [5015])), (1000001, 476, en_ro [] (2, 0, 0, [5016])), (1000001, 478, en_ro [] (2, 0, 0, [5017])), (1000001, 480, en_ro [] (2, 0, 0, [5018]))]
set_option maxRecDepth 100000 in
theorem c_Ho_writeGroup_at_k0 {l : Launch} {D : va_G} {kA : Nat → ClassId} (h_Ho_writeByte : ct_ok PRD l D kA GG y_Ho_writeByte z_Ho_writeByte e_Ho_writeByte) (h_Ho_writeGroup_at_k1 : ct_ok PRD l D kA GG y_Ho_writeGroup_at_k1 z_Ho_writeGroup_at_k1 e_Ho_writeGroup_at_k1) (h_Ho_writeName_at_GrgroupName : ct_ok PRD l D kA GG y_Ho_writeName_at_GrgroupName z_Ho_writeName_at_GrgroupName e_Ho_writeName_at_GrgroupName) (h_Ho_writeName_at_Grname : ct_ok PRD l D kA GG y_Ho_writeName_at_Grname z_Ho_writeName_at_Grname e_Ho_writeName_at_Grname) (h_Ho_writeNumber : ct_ok PRD l D kA GG y_Ho_writeNumber z_Ho_writeNumber e_Ho_writeNumber) (h_Ho_writeWord_at_s5013 : ct_ok PRD l D kA GG y_Ho_writeWord_at_s5013 z_Ho_writeWord_at_s5013 e_Ho_writeWord_at_s5013) (h_Ho_writeWord_at_s5014 : ct_ok PRD l D kA GG y_Ho_writeWord_at_s5014 z_Ho_writeWord_at_s5014 e_Ho_writeWord_at_s5014) (h_Ho_writeWord_at_s5015 : ct_ok PRD l D kA GG y_Ho_writeWord_at_s5015 z_Ho_writeWord_at_s5015 e_Ho_writeWord_at_s5015) (h_Ho_writeWord_at_s5016 : ct_ok PRD l D kA GG y_Ho_writeWord_at_s5016 z_Ho_writeWord_at_s5016 e_Ho_writeWord_at_s5016) (h_Ho_writeWord_at_s5017 : ct_ok PRD l D kA GG y_Ho_writeWord_at_s5017 z_Ho_writeWord_at_s5017 e_Ho_writeWord_at_s5017) (h_Ho_writeWord_at_s5018 : ct_ok PRD l D kA GG y_Ho_writeWord_at_s5018 z_Ho_writeWord_at_s5018 e_Ho_writeWord_at_s5018) : ct_ok PRD l D kA GG y_Ho_writeGroup_at_k0 z_Ho_writeGroup_at_k0 e_Ho_writeGroup_at_k0 := chk_all_ok (FT := [(132, 3, 0), (144, 3, 2), (169, 3, 4), (172, 3, 5), (175, 3, 6), (221, 3, 11), (224, 3, 13), (230, 3, 3), (233, 3, 12)]) (PT := []) (CT := t_Ho_writeGroup_at_k0_ct) (KT := []) (NT := []) (AN := n_Ho_writeGroup_at_k0_an) (OT := [o_Ho_writeGroup_at_k0_0, o_Ho_writeGroup_at_k0_1, o_Ho_writeGroup_at_k0_2, o_Ho_writeGroup_at_k0_3, o_Ho_writeGroup_at_k0_4, o_Ho_writeGroup_at_k0_5, o_Ho_writeGroup_at_k0_6, o_Ho_writeGroup_at_k0_7, o_Ho_writeGroup_at_k0_8, o_Ho_writeGroup_at_k0_9, o_Ho_writeGroup_at_k0_10, o_Ho_writeGroup_at_k0_11, o_Ho_writeGroup_at_k0_12, o_Ho_writeGroup_at_k0_13, o_Ho_writeGroup_at_k0_14, o_Ho_writeGroup_at_k0_15, o_Ho_writeGroup_at_k0_16, o_Ho_writeGroup_at_k0_17, o_Ho_writeGroup_at_k0_18, o_Ho_writeGroup_at_k0_19]) 3 404 (List.forall_mem_cons.mpr ⟨oo_Ho_writeGroup_at_k0_0, List.forall_mem_cons.mpr ⟨oo_Ho_writeGroup_at_k0_1, List.forall_mem_cons.mpr ⟨oo_Ho_writeGroup_at_k0_2, List.forall_mem_cons.mpr ⟨oo_Ho_writeGroup_at_k0_3, List.forall_mem_cons.mpr ⟨oo_Ho_writeGroup_at_k0_4, List.forall_mem_cons.mpr ⟨oo_Ho_writeGroup_at_k0_5, List.forall_mem_cons.mpr ⟨oo_Ho_writeGroup_at_k0_6, List.forall_mem_cons.mpr ⟨oo_Ho_writeGroup_at_k0_7, List.forall_mem_cons.mpr ⟨oo_Ho_writeGroup_at_k0_8, List.forall_mem_cons.mpr ⟨oo_Ho_writeGroup_at_k0_9, List.forall_mem_cons.mpr ⟨oo_Ho_writeGroup_at_k0_10, List.forall_mem_cons.mpr ⟨oo_Ho_writeGroup_at_k0_11, List.forall_mem_cons.mpr ⟨oo_Ho_writeGroup_at_k0_12, List.forall_mem_cons.mpr ⟨oo_Ho_writeGroup_at_k0_13, List.forall_mem_cons.mpr ⟨oo_Ho_writeGroup_at_k0_14, List.forall_mem_cons.mpr ⟨oo_Ho_writeGroup_at_k0_15, List.forall_mem_cons.mpr ⟨oo_Ho_writeGroup_at_k0_16, List.forall_mem_cons.mpr ⟨oo_Ho_writeGroup_at_k0_17, List.forall_mem_cons.mpr ⟨oo_Ho_writeGroup_at_k0_18, List.forall_mem_cons.mpr ⟨oo_Ho_writeGroup_at_k0_19, List.forall_mem_nil _⟩⟩⟩⟩⟩⟩⟩⟩⟩⟩⟩⟩⟩⟩⟩⟩⟩⟩⟩⟩) (by decide +kernel) ⟨List.forall_mem_cons.mpr ⟨gf_Ho_132, List.forall_mem_cons.mpr ⟨gf_Ho_144, List.forall_mem_cons.mpr ⟨gf_Ho_169, List.forall_mem_cons.mpr ⟨gf_Ho_172, List.forall_mem_cons.mpr ⟨gf_Ho_175, List.forall_mem_cons.mpr ⟨gf_Ho_221, List.forall_mem_cons.mpr ⟨gf_Ho_224, List.forall_mem_cons.mpr ⟨gf_Ho_230, List.forall_mem_cons.mpr ⟨gf_Ho_233, List.forall_mem_nil _⟩⟩⟩⟩⟩⟩⟩⟩⟩, List.forall_mem_nil _, List.forall_mem_cons.mpr ⟨cl_virtual (y := y_Ho_writeByte) (ci := 12) rfl rfl ⟨_, _, rfl⟩ (by decide +kernel) h_Ho_writeByte wm_2345 wm_1 wm_2342 wm_2344 wv_12_0 ⟨by decide, by decide, by decide +kernel⟩ (by decide), List.forall_mem_cons.mpr ⟨cl_virtual (y := y_Ho_writeNumber) (ci := 12) rfl rfl ⟨_, _, rfl⟩ (by decide +kernel) h_Ho_writeNumber wm_2354 wm_1 wm_2351 wm_2353 wv_12_2 ⟨by decide, by decide, by decide +kernel⟩ (by decide), List.forall_mem_cons.mpr ⟨cl_virtual (y := y_Ho_writeWord_at_s5013) (ci := 12) rfl rfl ⟨_, _, rfl⟩ (by decide +kernel) h_Ho_writeWord_at_s5013 wm_2339 wm_1 wm_2336 wm_2338 wv_11_15 ⟨by decide, by decide, by decide +kernel⟩ (by decide), List.forall_mem_cons.mpr ⟨cl_virtual (y := y_Ho_writeName_at_Grname) (ci := 12) rfl rfl ⟨_, _, rfl⟩ (by decide +kernel) h_Ho_writeName_at_Grname wm_2349 wm_1 wm_2346 wm_2348 wv_12_1 ⟨by decide, by decide, by decide +kernel⟩ (by decide), List.forall_mem_cons.mpr ⟨cl_virtual (y := y_Ho_writeWord_at_s5014) (ci := 12) rfl rfl ⟨_, _, rfl⟩ (by decide +kernel) h_Ho_writeWord_at_s5014 wm_2339 wm_1 wm_2336 wm_2338 wv_11_15 ⟨by decide, by decide, by decide +kernel⟩ (by decide), List.forall_mem_cons.mpr ⟨cl_virtual (y := y_Ho_writeWord_at_s5015) (ci := 12) rfl rfl ⟨_, _, rfl⟩ (by decide +kernel) h_Ho_writeWord_at_s5015 wm_2339 wm_1 wm_2336 wm_2338 wv_11_15 ⟨by decide, by decide, by decide +kernel⟩ (by decide), List.forall_mem_cons.mpr ⟨cl_virtual (y := y_Ho_writeWord_at_s5016) (ci := 12) rfl rfl ⟨_, _, rfl⟩ (by decide +kernel) h_Ho_writeWord_at_s5016 wm_2339 wm_1 wm_2336 wm_2338 wv_11_15 ⟨by decide, by decide, by decide +kernel⟩ (by decide), List.forall_mem_cons.mpr ⟨cl_virtual (y := y_Ho_writeName_at_GrgroupName) (ci := 12) rfl rfl ⟨_, _, rfl⟩ (by decide +kernel) h_Ho_writeName_at_GrgroupName wm_2349 wm_1 wm_2346 wm_2348 wv_12_1 ⟨by decide, by decide, by decide +kernel⟩ (by decide), List.forall_mem_cons.mpr ⟨cl_virtual (y := y_Ho_writeWord_at_s5017) (ci := 12) rfl rfl ⟨_, _, rfl⟩ (by decide +kernel) h_Ho_writeWord_at_s5017 wm_2339 wm_1 wm_2336 wm_2338 wv_11_15 ⟨by decide, by decide, by decide +kernel⟩ (by decide), List.forall_mem_cons.mpr ⟨cl_virtual (y := y_Ho_writeGroup_at_k1) (ci := 12) rfl rfl ⟨_, _, rfl⟩ (by decide +kernel) h_Ho_writeGroup_at_k1 wm_2334 wm_1 wm_2331 wm_2333 wv_11_14 ⟨by decide, by decide, by decide +kernel⟩ (by decide), List.forall_mem_cons.mpr ⟨cl_virtual (y := y_Ho_writeWord_at_s5018) (ci := 12) rfl rfl ⟨_, _, rfl⟩ (by decide +kernel) h_Ho_writeWord_at_s5018 wm_2339 wm_1 wm_2336 wm_2338 wv_11_15 ⟨by decide, by decide, by decide +kernel⟩ (by decide), List.forall_mem_cons.mpr ⟨cl_ldcw (own := "DrawingHouse") (idx := 459) (i := 13) (tx := "node ") (by decide +kernel) (by decide +kernel) (by decide +kernel), List.forall_mem_cons.mpr ⟨cl_ldcw (own := "DrawingHouse") (idx := 469) (i := 14) (tx := " [size=") (by decide +kernel) (by decide +kernel) (by decide +kernel), List.forall_mem_cons.mpr ⟨cl_ldcw (own := "DrawingHouse") (idx := 474) (i := 15) (tx := ";\n") (by decide +kernel) (by decide +kernel) (by decide +kernel), List.forall_mem_cons.mpr ⟨cl_ldcw (own := "DrawingHouse") (idx := 476) (i := 16) (tx := "group ") (by decide +kernel) (by decide +kernel) (by decide +kernel), List.forall_mem_cons.mpr ⟨cl_ldcw (own := "DrawingHouse") (idx := 478) (i := 17) (tx := " {\n") (by decide +kernel) (by decide +kernel) (by decide +kernel), List.forall_mem_cons.mpr ⟨cl_ldcw (own := "DrawingHouse") (idx := 480) (i := 18) (tx := "}\n") (by decide +kernel) (by decide +kernel) (by decide +kernel), List.forall_mem_nil _⟩⟩⟩⟩⟩⟩⟩⟩⟩⟩⟩⟩⟩⟩⟩⟩⟩, List.forall_mem_nil _, List.forall_mem_nil _, GG_pl⟩ (by decide +kernel)

set_option maxHeartbeats 4000000 in
theorem vc_Ho_writeGroup_at_k1_0_0 (x4 : Int) (x5 : Int) (spareLength_0 : Int) (k4 : 0 ≤ x4 ∧ x4 ≤ 96428416) (k5 : 0 ≤ x5 ∧ x5 ≤ 0) (f0 : 1 * spareLength_0 + ((-1) * x4 + 0) ≤ 0) (kz_0_12 : 0 ≤ spareLength_0 ∧ spareLength_0 ≤ 100000000) : 1 * spareLength_0 + ((-1) * x4 + ((-31) * x5 + 0)) ≤ 0 := by
  first | assumption | omega | grind
def o_Ho_writeGroup_at_k1_0 : or_T := (3, 6, [(0, (2, 0, 0, [12])), (4, (0, 0, 96428416, [])), (5, (0, 0, 0, []))], [(20, [0, 4], [30, 0, 1, 1, 12, -1, 0, 0])], [], [], [(20, [0, 4, 5], [30, 0, 1, 1, 12, -1, 0, 0, -31, 0, 0]), (24, [0, 0], [])], [], [])
theorem oo_Ho_writeGroup_at_k1_0 {kA : Nat → ClassId} : or_ok PRD kA GG o_Ho_writeGroup_at_k1_0 := by
  refine or_mk fun A ta ws vs hD hth hl => ?_
  intro t0 r0 t4 k4 t5 k5 f0
  have kz_0_12 := fdq_0 hD hth r0
  have nf0 : fc_1 PRD (20, [0, 4, 5], [30, 0, 1, 1, 12, -1, 0, 0, -31, 0, 0]) ws (vs) := ⟨nf_in hl rfl, sgq_224 (vc_Ho_writeGroup_at_k1_0_0 (v_iv (n_v vs 4)) (v_iv (n_v vs 5)) (w_fi ws (n_v vs 0) 12) k4 k5 (shm_104 f0) kz_0_12)⟩
  have nf1 : fc_1 PRD (24, [0, 0], []) ws (vs) := by
    refine ⟨nf_in hl rfl, sgq_1 ?_⟩
    · show n_v vs 0 = n_v vs 0
      first | rfl | simp only [true_and]
  refine ⟨(fun _ h => (by cases h)), [], trivial, ?_, (fun _ h => (by cases h))⟩
  rw [List.append_nil]
  exact List.forall_mem_cons.mpr ⟨⟨show (20 : Nat) < 100 from by decide, nf0⟩, List.forall_mem_cons.mpr ⟨⟨show (24 : Nat) < 100 from by decide, nf1⟩, (fun _ h => (by cases h))⟩⟩
set_option maxHeartbeats 4000000 in
theorem vc_Ho_writeGroup_at_k1_1_0 (x4 : Int) (x7 : Int) (x9 : Int) (x12 : Int) (spareLength_0 : Int) (k4 : 0 ≤ x4 ∧ x4 ≤ 96428416) (k7 : 1 ≤ x7 ∧ x7 ≤ 7) (k9 : 0 ≤ x9 ∧ x9 ≤ 24) (k12 : 2 ≤ x12 ∧ x12 ≤ 8) (d0 : x7 + 1 ≤ x12 ∧ x12 ≤ x7 + 1) (f3 : 1 * spareLength_0 + ((-1) * x4 + ((-31) * x9 + 0)) ≤ 0) (kz_0_12 : 0 ≤ spareLength_0 ∧ spareLength_0 ≤ 100000000) : 1 * spareLength_0 + ((-1) * x4 + ((-446355) * x12 + (446355 * x7 + 0))) ≤ (-445611) := by
  first | assumption | omega | grind
def o_Ho_writeGroup_at_k1_1 : or_T := (100, 13, [(0, (2, 0, 0, [12])), (4, (0, 0, 96428416, [])), (7, (0, 1, 7, [])), (9, (0, 0, 24, [])), (12, (0, 2, 8, []))], [(20, [5, 4, 9], [30, 0, 1, 1, 12, -1, 0, 0, -31, 0, 0]), (24, [0, 5], [])], [], [], [(20, [5, 4, 12, 7], [30, -445611, 1, 1, 12, -1, 0, 0, -446355, 0, 0, 446355, 0, 0])], [], [(12, 7, 1, 1)])
theorem oo_Ho_writeGroup_at_k1_1 {kA : Nat → ClassId} : or_ok PRD kA GG o_Ho_writeGroup_at_k1_1 := by
  refine or_mk fun A ta ws vs hD hth hl => ?_
  intro t0 r0 t4 k4 t7 k7 t9 k9 t12 k12 d0 f3 f4
  replace f3 := shm_224 f3
  replace f4 := shm_5 f4
  have q5 : n_v vs 5 = n_v vs 0 := f4.symm
  simp only [q5] at f3
  have kz_0_12 := fdq_0 hD hth r0
  have nf0 : fc_1 PRD (20, [5, 4, 12, 7], [30, -445611, 1, 1, 12, -1, 0, 0, -446355, 0, 0, 446355, 0, 0]) ws (vs) := by
    refine ⟨nf_in hl rfl, sgq_239 ?_⟩
    · show 1 * w_fi ws (n_v vs 5) 12 + ((-1) * v_iv (n_v vs 4) + ((-446355) * v_iv (n_v vs 12) + (446355 * v_iv (n_v vs 7) + 0))) ≤ (-445611)
      rw [q5]
      exact vc_Ho_writeGroup_at_k1_1_0 (v_iv (n_v vs 4)) (v_iv (n_v vs 7)) (v_iv (n_v vs 9)) (v_iv (n_v vs 12)) (w_fi ws (n_v vs 0) 12) k4 k7 k9 k12 d0 f3 kz_0_12
  refine ⟨(fun _ h => (by cases h)), [], trivial, ?_, (fun _ h => (by cases h))⟩
  rw [List.append_nil]
  exact List.forall_mem_cons.mpr ⟨⟨show (20 : Nat) < 100 from by decide, nf0⟩, (fun _ h => (by cases h))⟩
set_option maxHeartbeats 4000000 in
theorem vc_Ho_writeGroup_at_k1_2_0 (x4 : Int) (x9 : Int) (x13 : Int) (spareLength_0 : Int) (k4 : 0 ≤ x4 ∧ x4 ≤ 96428416) (k9 : 0 ≤ x9 ∧ x9 ≤ 23) (k13 : 1 ≤ x13 ∧ x13 ≤ 24) (d0 : x9 + 1 ≤ x13 ∧ x13 ≤ x9 + 1) (f3 : 1 * spareLength_0 + ((-1) * x4 + ((-31) * x9 + 0)) ≤ 0) (kz_0_12 : 0 ≤ spareLength_0 ∧ spareLength_0 ≤ 100000000) : 1 * spareLength_0 + ((-1) * x4 + ((-31) * x13 + 0)) ≤ 0 := by
  first | assumption | omega | grind
def o_Ho_writeGroup_at_k1_2 : or_T := (3, 14, [(0, (2, 0, 0, [12])), (4, (0, 0, 96428416, [])), (9, (0, 0, 23, [])), (13, (0, 1, 24, []))], [(20, [5, 4, 9], [30, 0, 1, 1, 12, -1, 0, 0, -31, 0, 0]), (24, [0, 5], [])], [], [], [(20, [5, 4, 13], [30, 0, 1, 1, 12, -1, 0, 0, -31, 0, 0])], [], [(13, 9, 1, 1)])
theorem oo_Ho_writeGroup_at_k1_2 {kA : Nat → ClassId} : or_ok PRD kA GG o_Ho_writeGroup_at_k1_2 := by
  refine or_mk fun A ta ws vs hD hth hl => ?_
  intro t0 r0 t4 k4 t9 k9 t13 k13 d0 f3 f4
  replace f3 := shm_224 f3
  replace f4 := shm_5 f4
  have q5 : n_v vs 5 = n_v vs 0 := f4.symm
  simp only [q5] at f3
  have kz_0_12 := fdq_0 hD hth r0
  have nf0 : fc_1 PRD (20, [5, 4, 13], [30, 0, 1, 1, 12, -1, 0, 0, -31, 0, 0]) ws (vs) := by
    refine ⟨nf_in hl rfl, sgq_224 ?_⟩
    · show 1 * w_fi ws (n_v vs 5) 12 + ((-1) * v_iv (n_v vs 4) + ((-31) * v_iv (n_v vs 13) + 0)) ≤ 0
      rw [q5]
      exact vc_Ho_writeGroup_at_k1_2_0 (v_iv (n_v vs 4)) (v_iv (n_v vs 9)) (v_iv (n_v vs 13)) (w_fi ws (n_v vs 0) 12) k4 k9 k13 d0 f3 kz_0_12
  refine ⟨(fun _ h => (by cases h)), [], trivial, ?_, (fun _ h => (by cases h))⟩
  rw [List.append_nil]
  exact List.forall_mem_cons.mpr ⟨⟨show (20 : Nat) < 100 from by decide, nf0⟩, (fun _ h => (by cases h))⟩
set_option maxHeartbeats 4000000 in
theorem vc_Ho_writeGroup_at_k1_3_0 (spareLength_0 : Int) (gx : Int) (kz_0_12 : 0 ≤ spareLength_0 ∧ spareLength_0 ≤ 100000000) (ex2 : gx = spareLength_0) : 1 * spareLength_0 + ((-1) * gx + 0) ≤ 0 := by
  first | assumption | omega | grind
set_option maxHeartbeats 4000000 in
theorem vc_Ho_writeGroup_at_k1_3_1 (x4 : Int) (x9 : Int) (spareLength_0 : Int) (gx : Int) (k4 : 0 ≤ x4 ∧ x4 ≤ 96428416) (k9 : 0 ≤ x9 ∧ x9 ≤ 23) (f2 : 1 * spareLength_0 + ((-1) * x4 + ((-31) * x9 + 0)) ≤ 0) (kz_0_12 : 0 ≤ spareLength_0 ∧ spareLength_0 ≤ 100000000) (ex2 : gx = spareLength_0) : 1 * gx + ((-1) * x4 + ((-31) * x9 + 0)) ≤ 0 := by
  first | assumption | omega | grind
def o_Ho_writeGroup_at_k1_3 : or_T := (27, 14, [(0, (2, 0, 0, [12])), (4, (0, 0, 96428416, [])), (5, (2, 0, 0, [12])), (6, (2, 0, 0, [3])), (9, (0, 0, 23, [])), (10, (0, 1, 24, []))], [(7, [9, 10], [2]), (9, [10, 6], [0]), (20, [5, 4, 9], [30, 0, 1, 1, 12, -1, 0, 0, -31, 0, 0]), (24, [0, 5], [])], [], [(0, 0, 99999995, [])], [(20, [5, 14], [30, 0, 1, 1, 12, -1, 0, 0]), (23, [14, 4, 9], [0, 1, -1, -31])], [], [(9, 10, -4294967296, -1)])
theorem oo_Ho_writeGroup_at_k1_3 {kA : Nat → ClassId} : or_ok PRD kA GG o_Ho_writeGroup_at_k1_3 := by
  refine or_mk fun A ta ws vs hD hth hl => ?_
  intro t0 r0 t4 k4 t5 r5 t6 r6 t9 k9 t10 k10 d0 f0 f1 f2 f3
  replace f0 := shm_6 f0
  replace f1 := shm_163 f1
  replace f2 := shm_224 f2
  replace f3 := shm_5 f3
  have q5 : n_v vs 5 = n_v vs 0 := f3.symm
  simp only [q5] at f2
  have g1 : v_iv (n_v vs 10) = w_fi ws (n_v vs 6) 0 := congrArg v_iv f1
  have kz_0_12 := fdq_0 hD hth r0
  have kz_6_0 := fdq_21 hD hth r6
  have kv0 := fdq_0 hD hth r0
  obtain ⟨x, ex, hx⟩ := iv_ex (ta := ta) (lo := 0) (hi := 99999995) (z := w_fi ws (n_v vs 0) 12) (by omega) (by omega) (by omega) (by omega)
  have ex2 : v_iv (Value.int x) = w_fi ws (n_v vs 0) 12 := ex
  have ex3 : 0 ≤ v_iv (Value.int x) ∧ v_iv (Value.int x) ≤ 99999995 := tv_rng hx
  have e_4 : n_v (vs ++ [Value.int x]) 4 = n_v vs 4 := n_v_old (by rw [hl]; decide)
  have e_5 : n_v (vs ++ [Value.int x]) 5 = n_v vs 5 := n_v_old (by rw [hl]; decide)
  have e_9 : n_v (vs ++ [Value.int x]) 9 = n_v vs 9 := n_v_old (by rw [hl]; decide)
  have e_14 : n_v (vs ++ [Value.int x]) 14 = Value.int x := n_v_new hl
  have nf0 : fc_1 PRD (20, [5, 14], [30, 0, 1, 1, 12, -1, 0, 0]) ws (vs ++ [Value.int x]) := by
    refine ⟨nf_inA hl rfl, sgq_104 ?_⟩
    · show 1 * w_fi ws (n_v (vs ++ [Value.int x]) 5) 12 + ((-1) * v_iv (n_v (vs ++ [Value.int x]) 14) + 0) ≤ 0
      simp only [e_5, e_14, q5]
      exact vc_Ho_writeGroup_at_k1_3_0 (w_fi ws (n_v vs 0) 12) (v_iv (Value.int x)) kz_0_12 ex2
  have nf1 : fc_1 PRD (23, [14, 4, 9], [0, 1, -1, -31]) ws (vs ++ [Value.int x]) := by
    refine ⟨nf_inA hl rfl, sgq_226 ?_⟩
    · show 1 * v_iv (n_v (vs ++ [Value.int x]) 14) + ((-1) * v_iv (n_v (vs ++ [Value.int x]) 4) + ((-31) * v_iv (n_v (vs ++ [Value.int x]) 9) + 0)) ≤ 0
      simp only [e_4, e_9, e_14]
      exact vc_Ho_writeGroup_at_k1_3_1 (v_iv (n_v vs 4)) (v_iv (n_v vs 9)) (w_fi ws (n_v vs 0) 12) (v_iv (Value.int x)) k4 k9 f2 kz_0_12 ex2
  exact ⟨(fun _ h => (by cases h)), [Value.int x], ag_one hx, List.forall_mem_cons.mpr ⟨⟨show (20 : Nat) < 100 from by decide, nf0⟩, List.forall_mem_cons.mpr ⟨⟨show (23 : Nat) < 100 from by decide, nf1⟩, (fun _ h => (by cases h))⟩⟩, (fun _ h => (by cases h))⟩
set_option maxHeartbeats 4000000 in
theorem vc_Ho_writeGroup_at_k1_4_0 (spareLength_0 : Int) (gx : Int) (kz_0_12 : 0 ≤ spareLength_0 ∧ spareLength_0 ≤ 100000000) (ex2 : gx = spareLength_0) : 1 * spareLength_0 + ((-1) * gx + 0) ≤ 0 := by
  first | assumption | omega | grind
set_option maxHeartbeats 4000000 in
theorem vc_Ho_writeGroup_at_k1_4_1 (x4 : Int) (x9 : Int) (x14 : Int) (spareLength_0 : Int) (gx : Int) (k4 : 0 ≤ x4 ∧ x4 ≤ 96428416) (k9 : 0 ≤ x9 ∧ x9 ≤ 23) (k14 : 0 ≤ x14 ∧ x14 ≤ 99999995) (f0 : 1 * x14 + ((-1) * x4 + ((-31) * x9 + 0)) ≤ 0) (f2 : 1 * spareLength_0 + ((-1) * x14 + 0) ≤ 5) (kz_0_12 : 0 ≤ spareLength_0 ∧ spareLength_0 ≤ 100000000) (ex2 : gx = spareLength_0) : 1 * gx + ((-1) * x4 + ((-31) * x9 + 0)) ≤ 5 := by
  first | assumption | omega | grind
def o_Ho_writeGroup_at_k1_4 : or_T := (44, 18, [(0, (2, 0, 0, [12])), (4, (0, 0, 96428416, [])), (5, (2, 0, 0, [12])), (9, (0, 0, 23, [])), (10, (0, 1, 24, [])), (14, (0, 0, 99999995, []))], [(23, [14, 4, 9], [0, 1, -1, -31]), (24, [0, 5], []), (20, [5, 14], [30, 5, 1, 1, 12, -1, 0, 0]), (102, [14], [261336857795280739939871698507597986398208, 12012]), (23, [14, 4, 9], [0, 1, -1, -31]), (7, [9, 10], [2])], [], [(0, 0, 99999992, [])], [(20, [5, 18], [30, 0, 1, 1, 12, -1, 0, 0]), (23, [18, 4, 9], [5, 1, -1, -31])], [], [(9, 10, -4294967296, -1)])
theorem oo_Ho_writeGroup_at_k1_4 {kA : Nat → ClassId} : or_ok PRD kA GG o_Ho_writeGroup_at_k1_4 := by
  refine or_mk fun A ta ws vs hD hth hl => ?_
  intro t0 r0 t4 k4 t5 r5 t9 k9 t10 k10 t14 k14 d0 f0 f1 f2 ta1 w1 le1 s1 f4 f5
  replace f0 := shm_226 f0
  replace f1 := shm_5 f1
  replace f2 := shm_202 f2
  replace f4 := shm_226 f4
  replace f5 := shm_6 f5
  have q5 : n_v vs 5 = n_v vs 0 := f1.symm
  simp only [q5] at f2
  have kz_0_12 := fdq_0 hD hth r0
  have kv0 := fdq_0 hD hth r0
  obtain ⟨x, ex, hx⟩ := iv_ex (ta := ta) (lo := 0) (hi := 99999992) (z := w_fi ws (n_v vs 0) 12) (by omega) (by omega) (by omega) (by omega)
  have ex2 : v_iv (Value.int x) = w_fi ws (n_v vs 0) 12 := ex
  have ex3 : 0 ≤ v_iv (Value.int x) ∧ v_iv (Value.int x) ≤ 99999992 := tv_rng hx
  have e_4 : n_v (vs ++ [Value.int x]) 4 = n_v vs 4 := n_v_old (by rw [hl]; decide)
  have e_5 : n_v (vs ++ [Value.int x]) 5 = n_v vs 5 := n_v_old (by rw [hl]; decide)
  have e_9 : n_v (vs ++ [Value.int x]) 9 = n_v vs 9 := n_v_old (by rw [hl]; decide)
  have e_18 : n_v (vs ++ [Value.int x]) 18 = Value.int x := n_v_new hl
  have nf0 : fc_1 PRD (20, [5, 18], [30, 0, 1, 1, 12, -1, 0, 0]) ws (vs ++ [Value.int x]) := by
    refine ⟨nf_inA hl rfl, sgq_104 ?_⟩
    · show 1 * w_fi ws (n_v (vs ++ [Value.int x]) 5) 12 + ((-1) * v_iv (n_v (vs ++ [Value.int x]) 18) + 0) ≤ 0
      simp only [e_5, e_18, q5]
      exact vc_Ho_writeGroup_at_k1_4_0 (w_fi ws (n_v vs 0) 12) (v_iv (Value.int x)) kz_0_12 ex2
  have nf1 : fc_1 PRD (23, [18, 4, 9], [5, 1, -1, -31]) ws (vs ++ [Value.int x]) := by
    refine ⟨nf_inA hl rfl, sgq_227 ?_⟩
    · show 1 * v_iv (n_v (vs ++ [Value.int x]) 18) + ((-1) * v_iv (n_v (vs ++ [Value.int x]) 4) + ((-31) * v_iv (n_v (vs ++ [Value.int x]) 9) + 0)) ≤ 5
      simp only [e_4, e_9, e_18]
      exact vc_Ho_writeGroup_at_k1_4_1 (v_iv (n_v vs 4)) (v_iv (n_v vs 9)) (v_iv (n_v vs 14)) (w_fi ws (n_v vs 0) 12) (v_iv (Value.int x)) k4 k9 k14 f0 f2 kz_0_12 ex2
  exact ⟨(fun _ h => (by cases h)), [Value.int x], ag_one hx, List.forall_mem_cons.mpr ⟨⟨show (20 : Nat) < 100 from by decide, nf0⟩, List.forall_mem_cons.mpr ⟨⟨show (23 : Nat) < 100 from by decide, nf1⟩, (fun _ h => (by cases h))⟩⟩, (fun _ h => (by cases h))⟩
set_option maxHeartbeats 4000000 in
theorem vc_Ho_writeGroup_at_k1_5_0 (spareLength_0 : Int) (gx : Int) (kz_0_12 : 0 ≤ spareLength_0 ∧ spareLength_0 ≤ 100000000) (ex2 : gx = spareLength_0) : 1 * spareLength_0 + ((-1) * gx + 0) ≤ 0 := by
  first | assumption | omega | grind
set_option maxHeartbeats 4000000 in
theorem vc_Ho_writeGroup_at_k1_5_1 (x4 : Int) (x9 : Int) (x18 : Int) (spareLength_0 : Int) (gx : Int) (k4 : 0 ≤ x4 ∧ x4 ≤ 96428416) (k9 : 0 ≤ x9 ∧ x9 ≤ 23) (k18 : 0 ≤ x18 ∧ x18 ≤ 99999992) (f0 : 1 * x18 + ((-1) * x4 + ((-31) * x9 + 0)) ≤ 5) (f3 : 1 * spareLength_0 + ((-1) * x18 + 0) ≤ 8) (kz_0_12 : 0 ≤ spareLength_0 ∧ spareLength_0 ≤ 100000000) (ex2 : gx = spareLength_0) : 1 * gx + ((-1) * x4 + ((-31) * x9 + 0)) ≤ 29 := by
  first | assumption | omega | grind
def o_Ho_writeGroup_at_k1_5 : or_T := (86, 23, [(0, (2, 0, 0, [12])), (4, (0, 0, 96428416, [])), (5, (2, 0, 0, [12])), (9, (0, 0, 23, [])), (10, (0, 1, 24, [])), (14, (0, 0, 99999995, [])), (18, (0, 0, 99999992, []))], [(23, [18, 4, 9], [5, 1, -1, -31]), (23, [14, 4, 9], [0, 1, -1, -31]), (24, [0, 5], []), (20, [5, 18], [30, 8, 1, 1, 12, -1, 0, 0]), (102, [18], [261336857795280739939871698507597986398208, 12012]), (23, [18, 4, 9], [5, 1, -1, -31]), (23, [14, 4, 9], [0, 1, -1, -31]), (102, [14], [261336857795280739939871698507597986398208, 12012]), (23, [14, 4, 9], [0, 1, -1, -31]), (7, [9, 10], [2])], [], [(0, 0, 99999998, [])], [(20, [5, 23], [30, 0, 1, 1, 12, -1, 0, 0]), (23, [23, 4, 9], [29, 1, -1, -31])], [], [(9, 10, -4294967296, -1)])
theorem oo_Ho_writeGroup_at_k1_5 {kA : Nat → ClassId} : or_ok PRD kA GG o_Ho_writeGroup_at_k1_5 := by
  refine or_mk fun A ta ws vs hD hth hl => ?_
  intro t0 r0 t4 k4 t5 r5 t9 k9 t10 k10 t14 k14 t18 k18 d0 f0 f1 f2 f3 ta1 w1 le1 s1 f5 f6 ta2 w2 le2 s2 f8 f9
  replace f0 := shm_227 f0
  replace f1 := shm_226 f1
  replace f2 := shm_5 f2
  replace f3 := shm_135 f3
  replace f5 := shm_227 f5
  replace f6 := shm_226 f6
  replace f8 := shm_226 f8
  replace f9 := shm_6 f9
  have q5 : n_v vs 5 = n_v vs 0 := f2.symm
  simp only [q5] at f3
  have kz_0_12 := fdq_0 hD hth r0
  have kv0 := fdq_0 hD hth r0
  obtain ⟨x, ex, hx⟩ := iv_ex (ta := ta) (lo := 0) (hi := 99999998) (z := w_fi ws (n_v vs 0) 12) (by omega) (by omega) (by omega) (by omega)
  have ex2 : v_iv (Value.int x) = w_fi ws (n_v vs 0) 12 := ex
  have ex3 : 0 ≤ v_iv (Value.int x) ∧ v_iv (Value.int x) ≤ 99999998 := tv_rng hx
  have e_4 : n_v (vs ++ [Value.int x]) 4 = n_v vs 4 := n_v_old (by rw [hl]; decide)
  have e_5 : n_v (vs ++ [Value.int x]) 5 = n_v vs 5 := n_v_old (by rw [hl]; decide)
  have e_9 : n_v (vs ++ [Value.int x]) 9 = n_v vs 9 := n_v_old (by rw [hl]; decide)
  have e_23 : n_v (vs ++ [Value.int x]) 23 = Value.int x := n_v_new hl
  have nf0 : fc_1 PRD (20, [5, 23], [30, 0, 1, 1, 12, -1, 0, 0]) ws (vs ++ [Value.int x]) := by
    refine ⟨nf_inA hl rfl, sgq_104 ?_⟩
    · show 1 * w_fi ws (n_v (vs ++ [Value.int x]) 5) 12 + ((-1) * v_iv (n_v (vs ++ [Value.int x]) 23) + 0) ≤ 0
      simp only [e_5, e_23, q5]
      exact vc_Ho_writeGroup_at_k1_5_0 (w_fi ws (n_v vs 0) 12) (v_iv (Value.int x)) kz_0_12 ex2
  have nf1 : fc_1 PRD (23, [23, 4, 9], [29, 1, -1, -31]) ws (vs ++ [Value.int x]) := by
    refine ⟨nf_inA hl rfl, sgq_228 ?_⟩
    · show 1 * v_iv (n_v (vs ++ [Value.int x]) 23) + ((-1) * v_iv (n_v (vs ++ [Value.int x]) 4) + ((-31) * v_iv (n_v (vs ++ [Value.int x]) 9) + 0)) ≤ 29
      simp only [e_4, e_9, e_23]
      exact vc_Ho_writeGroup_at_k1_5_1 (v_iv (n_v vs 4)) (v_iv (n_v vs 9)) (v_iv (n_v vs 18)) (w_fi ws (n_v vs 0) 12) (v_iv (Value.int x)) k4 k9 k18 f0 f3 kz_0_12 ex2
  exact ⟨(fun _ h => (by cases h)), [Value.int x], ag_one hx, List.forall_mem_cons.mpr ⟨⟨show (20 : Nat) < 100 from by decide, nf0⟩, List.forall_mem_cons.mpr ⟨⟨show (23 : Nat) < 100 from by decide, nf1⟩, (fun _ h => (by cases h))⟩⟩, (fun _ h => (by cases h))⟩
set_option maxHeartbeats 4000000 in
theorem vc_Ho_writeGroup_at_k1_6_0 (x4 : Int) (x9 : Int) (x23 : Int) (x24 : Int) (spareLength_0 : Int) (k4 : 0 ≤ x4 ∧ x4 ≤ 96428416) (k9 : 0 ≤ x9 ∧ x9 ≤ 23) (k23 : 0 ≤ x23 ∧ x23 ≤ 99999998) (k24 : 1 ≤ x24 ∧ x24 ≤ 24) (d0 : x9 + 1 ≤ x24 ∧ x24 ≤ x9 + 1) (f1 : 1 * x23 + ((-1) * x4 + ((-31) * x9 + 0)) ≤ 29) (f5 : 1 * spareLength_0 + ((-1) * x23 + 0) ≤ 2) (kz_0_12 : 0 ≤ spareLength_0 ∧ spareLength_0 ≤ 100000000) : 1 * spareLength_0 + ((-1) * x4 + ((-31) * x24 + 0)) ≤ 0 := by
  first | assumption | omega | grind
def o_Ho_writeGroup_at_k1_6 : or_T := (3, 25, [(0, (2, 0, 0, [12])), (4, (0, 0, 96428416, [])), (9, (0, 0, 23, [])), (23, (0, 0, 99999998, [])), (24, (0, 1, 24, []))], [(23, [23, 4, 9], [29, 1, -1, -31]), (24, [0, 5], []), (20, [5, 23], [30, 2, 1, 1, 12, -1, 0, 0])], [], [], [(20, [5, 4, 24], [30, 0, 1, 1, 12, -1, 0, 0, -31, 0, 0])], [], [(24, 9, 1, 1)])
theorem oo_Ho_writeGroup_at_k1_6 {kA : Nat → ClassId} : or_ok PRD kA GG o_Ho_writeGroup_at_k1_6 := by
  refine or_mk fun A ta ws vs hD hth hl => ?_
  intro t0 r0 t4 k4 t9 k9 t23 k23 t24 k24 d0 f1 f4 f5
  replace f1 := shm_228 f1
  replace f4 := shm_5 f4
  replace f5 := shm_204 f5
  have q5 : n_v vs 5 = n_v vs 0 := f4.symm
  simp only [q5] at f5
  have kz_0_12 := fdq_0 hD hth r0
  have nf0 : fc_1 PRD (20, [5, 4, 24], [30, 0, 1, 1, 12, -1, 0, 0, -31, 0, 0]) ws (vs) := by
    refine ⟨nf_in hl rfl, sgq_224 ?_⟩
    · show 1 * w_fi ws (n_v vs 5) 12 + ((-1) * v_iv (n_v vs 4) + ((-31) * v_iv (n_v vs 24) + 0)) ≤ 0
      rw [q5]
      exact vc_Ho_writeGroup_at_k1_6_0 (v_iv (n_v vs 4)) (v_iv (n_v vs 9)) (v_iv (n_v vs 23)) (v_iv (n_v vs 24)) (w_fi ws (n_v vs 0) 12) k4 k9 k23 k24 d0 f1 f5 kz_0_12
  refine ⟨(fun _ h => (by cases h)), [], trivial, ?_, (fun _ h => (by cases h))⟩
  rw [List.append_nil]
  exact List.forall_mem_cons.mpr ⟨⟨show (20 : Nat) < 100 from by decide, nf0⟩, (fun _ h => (by cases h))⟩
set_option maxHeartbeats 4000000 in
theorem vc_Ho_writeGroup_at_k1_7_0 (spareLength_0 : Int) (gx : Int) (kz_0_12 : 0 ≤ spareLength_0 ∧ spareLength_0 ≤ 100000000) (ex2 : gx = spareLength_0) : 1 * spareLength_0 + ((-1) * gx + 0) ≤ 0 := by
  first | assumption | omega | grind
set_option maxHeartbeats 4000000 in
theorem vc_Ho_writeGroup_at_k1_7_1 (x4 : Int) (x9 : Int) (x18 : Int) (spareLength_0 : Int) (gx : Int) (k4 : 0 ≤ x4 ∧ x4 ≤ 96428416) (k9 : 0 ≤ x9 ∧ x9 ≤ 23) (k18 : 0 ≤ x18 ∧ x18 ≤ 99999992) (f0 : 1 * x18 + ((-1) * x4 + ((-31) * x9 + 0)) ≤ 5) (f3 : 1 * spareLength_0 + ((-1) * x18 + 0) ≤ 8) (kz_0_12 : 0 ≤ spareLength_0 ∧ spareLength_0 ≤ 100000000) (ex2 : gx = spareLength_0) : 1 * gx + ((-1) * x4 + ((-31) * x9 + 0)) ≤ 13 := by
  first | assumption | omega | grind
def o_Ho_writeGroup_at_k1_7 : or_T := (62, 23, [(0, (2, 0, 0, [12])), (4, (0, 0, 96428416, [])), (5, (2, 0, 0, [12])), (9, (0, 0, 23, [])), (10, (0, 1, 24, [])), (14, (0, 0, 99999995, [])), (18, (0, 0, 99999992, []))], [(23, [18, 4, 9], [5, 1, -1, -31]), (23, [14, 4, 9], [0, 1, -1, -31]), (24, [0, 5], []), (20, [5, 18], [30, 8, 1, 1, 12, -1, 0, 0]), (102, [18], [261336857795280739939871698507597986398208, 12012]), (23, [18, 4, 9], [5, 1, -1, -31]), (23, [14, 4, 9], [0, 1, -1, -31]), (102, [14], [261336857795280739939871698507597986398208, 12012]), (23, [14, 4, 9], [0, 1, -1, -31]), (7, [9, 10], [2])], [], [(0, 0, 99999993, [])], [(20, [5, 23], [30, 0, 1, 1, 12, -1, 0, 0]), (23, [23, 4, 9], [13, 1, -1, -31])], [], [(9, 10, -4294967296, -1)])
theorem oo_Ho_writeGroup_at_k1_7 {kA : Nat → ClassId} : or_ok PRD kA GG o_Ho_writeGroup_at_k1_7 := by
  refine or_mk fun A ta ws vs hD hth hl => ?_
  intro t0 r0 t4 k4 t5 r5 t9 k9 t10 k10 t14 k14 t18 k18 d0 f0 f1 f2 f3 ta1 w1 le1 s1 f5 f6 ta2 w2 le2 s2 f8 f9
  replace f0 := shm_227 f0
  replace f1 := shm_226 f1
  replace f2 := shm_5 f2
  replace f3 := shm_135 f3
  replace f5 := shm_227 f5
  replace f6 := shm_226 f6
  replace f8 := shm_226 f8
  replace f9 := shm_6 f9
  have q5 : n_v vs 5 = n_v vs 0 := f2.symm
  simp only [q5] at f3
  have kz_0_12 := fdq_0 hD hth r0
  have kv0 := fdq_0 hD hth r0
  obtain ⟨x, ex, hx⟩ := iv_ex (ta := ta) (lo := 0) (hi := 99999993) (z := w_fi ws (n_v vs 0) 12) (by omega) (by omega) (by omega) (by omega)
  have ex2 : v_iv (Value.int x) = w_fi ws (n_v vs 0) 12 := ex
  have ex3 : 0 ≤ v_iv (Value.int x) ∧ v_iv (Value.int x) ≤ 99999993 := tv_rng hx
  have e_4 : n_v (vs ++ [Value.int x]) 4 = n_v vs 4 := n_v_old (by rw [hl]; decide)
  have e_5 : n_v (vs ++ [Value.int x]) 5 = n_v vs 5 := n_v_old (by rw [hl]; decide)
  have e_9 : n_v (vs ++ [Value.int x]) 9 = n_v vs 9 := n_v_old (by rw [hl]; decide)
  have e_23 : n_v (vs ++ [Value.int x]) 23 = Value.int x := n_v_new hl
  have nf0 : fc_1 PRD (20, [5, 23], [30, 0, 1, 1, 12, -1, 0, 0]) ws (vs ++ [Value.int x]) := by
    refine ⟨nf_inA hl rfl, sgq_104 ?_⟩
    · show 1 * w_fi ws (n_v (vs ++ [Value.int x]) 5) 12 + ((-1) * v_iv (n_v (vs ++ [Value.int x]) 23) + 0) ≤ 0
      simp only [e_5, e_23, q5]
      exact vc_Ho_writeGroup_at_k1_7_0 (w_fi ws (n_v vs 0) 12) (v_iv (Value.int x)) kz_0_12 ex2
  have nf1 : fc_1 PRD (23, [23, 4, 9], [13, 1, -1, -31]) ws (vs ++ [Value.int x]) := by
    refine ⟨nf_inA hl rfl, sgq_229 ?_⟩
    · show 1 * v_iv (n_v (vs ++ [Value.int x]) 23) + ((-1) * v_iv (n_v (vs ++ [Value.int x]) 4) + ((-31) * v_iv (n_v (vs ++ [Value.int x]) 9) + 0)) ≤ 13
      simp only [e_4, e_9, e_23]
      exact vc_Ho_writeGroup_at_k1_7_1 (v_iv (n_v vs 4)) (v_iv (n_v vs 9)) (v_iv (n_v vs 18)) (w_fi ws (n_v vs 0) 12) (v_iv (Value.int x)) k4 k9 k18 f0 f3 kz_0_12 ex2
  exact ⟨(fun _ h => (by cases h)), [Value.int x], ag_one hx, List.forall_mem_cons.mpr ⟨⟨show (20 : Nat) < 100 from by decide, nf0⟩, List.forall_mem_cons.mpr ⟨⟨show (23 : Nat) < 100 from by decide, nf1⟩, (fun _ h => (by cases h))⟩⟩, (fun _ h => (by cases h))⟩
set_option maxHeartbeats 4000000 in
theorem vc_Ho_writeGroup_at_k1_8_0 (spareLength_0 : Int) (gx : Int) (kz_0_12 : 0 ≤ spareLength_0 ∧ spareLength_0 ≤ 100000000) (ex2 : gx = spareLength_0) : 1 * spareLength_0 + ((-1) * gx + 0) ≤ 0 := by
  first | assumption | omega | grind
set_option maxHeartbeats 4000000 in
theorem vc_Ho_writeGroup_at_k1_8_1 (x4 : Int) (x9 : Int) (x23 : Int) (spareLength_0 : Int) (gx : Int) (k4 : 0 ≤ x4 ∧ x4 ≤ 96428416) (k9 : 0 ≤ x9 ∧ x9 ≤ 23) (k23 : 0 ≤ x23 ∧ x23 ≤ 99999993) (f0 : 1 * x23 + ((-1) * x4 + ((-31) * x9 + 0)) ≤ 13) (f4 : 1 * spareLength_0 + ((-1) * x23 + 0) ≤ 7) (kz_0_12 : 0 ≤ spareLength_0 ∧ spareLength_0 ≤ 100000000) (ex2 : gx = spareLength_0) : 1 * gx + ((-1) * x4 + ((-31) * x9 + 0)) ≤ 20 := by
  first | assumption | omega | grind
def o_Ho_writeGroup_at_k1_8 : or_T := (73, 25, [(0, (2, 0, 0, [12])), (4, (0, 0, 96428416, [])), (5, (2, 0, 0, [12])), (9, (0, 0, 23, [])), (10, (0, 1, 24, [])), (14, (0, 0, 99999995, [])), (18, (0, 0, 99999992, [])), (23, (0, 0, 99999993, []))], [(23, [23, 4, 9], [13, 1, -1, -31]), (23, [18, 4, 9], [5, 1, -1, -31]), (23, [14, 4, 9], [0, 1, -1, -31]), (24, [0, 5], []), (20, [5, 23], [30, 7, 1, 1, 12, -1, 0, 0]), (102, [23], [261336857795280739939871698507597986398208, 12012]), (23, [23, 4, 9], [13, 1, -1, -31]), (23, [18, 4, 9], [5, 1, -1, -31]), (23, [14, 4, 9], [0, 1, -1, -31]), (102, [18], [261336857795280739939871698507597986398208, 12012]), (23, [18, 4, 9], [5, 1, -1, -31]), (23, [14, 4, 9], [0, 1, -1, -31]), (102, [14], [261336857795280739939871698507597986398208, 12012]), (23, [14, 4, 9], [0, 1, -1, -31]), (7, [9, 10], [2])], [], [(0, 0, 99999992, [])], [(20, [5, 25], [30, 0, 1, 1, 12, -1, 0, 0]), (23, [25, 4, 9], [20, 1, -1, -31])], [], [(9, 10, -4294967296, -1)])
theorem oo_Ho_writeGroup_at_k1_8 {kA : Nat → ClassId} : or_ok PRD kA GG o_Ho_writeGroup_at_k1_8 := by
  refine or_mk fun A ta ws vs hD hth hl => ?_
  intro t0 r0 t4 k4 t5 r5 t9 k9 t10 k10 t14 k14 t18 k18 t23 k23 d0 f0 f1 f2 f3 f4 ta1 w1 le1 s1 f6 f7 f8 ta2 w2 le2 s2 f10 f11 ta3 w3 le3 s3 f13 f14
  replace f0 := shm_229 f0
  replace f1 := shm_227 f1
  replace f2 := shm_226 f2
  replace f3 := shm_5 f3
  replace f4 := shm_203 f4
  replace f6 := shm_229 f6
  replace f7 := shm_227 f7
  replace f8 := shm_226 f8
  replace f10 := shm_227 f10
  replace f11 := shm_226 f11
  replace f13 := shm_226 f13
  replace f14 := shm_6 f14
  have q5 : n_v vs 5 = n_v vs 0 := f3.symm
  simp only [q5] at f4
  have kz_0_12 := fdq_0 hD hth r0
  have kv0 := fdq_0 hD hth r0
  obtain ⟨x, ex, hx⟩ := iv_ex (ta := ta) (lo := 0) (hi := 99999992) (z := w_fi ws (n_v vs 0) 12) (by omega) (by omega) (by omega) (by omega)
  have ex2 : v_iv (Value.int x) = w_fi ws (n_v vs 0) 12 := ex
  have ex3 : 0 ≤ v_iv (Value.int x) ∧ v_iv (Value.int x) ≤ 99999992 := tv_rng hx
  have e_4 : n_v (vs ++ [Value.int x]) 4 = n_v vs 4 := n_v_old (by rw [hl]; decide)
  have e_5 : n_v (vs ++ [Value.int x]) 5 = n_v vs 5 := n_v_old (by rw [hl]; decide)
  have e_9 : n_v (vs ++ [Value.int x]) 9 = n_v vs 9 := n_v_old (by rw [hl]; decide)
  have e_25 : n_v (vs ++ [Value.int x]) 25 = Value.int x := n_v_new hl
  have nf0 : fc_1 PRD (20, [5, 25], [30, 0, 1, 1, 12, -1, 0, 0]) ws (vs ++ [Value.int x]) := by
    refine ⟨nf_inA hl rfl, sgq_104 ?_⟩
    · show 1 * w_fi ws (n_v (vs ++ [Value.int x]) 5) 12 + ((-1) * v_iv (n_v (vs ++ [Value.int x]) 25) + 0) ≤ 0
      simp only [e_5, e_25, q5]
      exact vc_Ho_writeGroup_at_k1_8_0 (w_fi ws (n_v vs 0) 12) (v_iv (Value.int x)) kz_0_12 ex2
  have nf1 : fc_1 PRD (23, [25, 4, 9], [20, 1, -1, -31]) ws (vs ++ [Value.int x]) := by
    refine ⟨nf_inA hl rfl, sgq_230 ?_⟩
    · show 1 * v_iv (n_v (vs ++ [Value.int x]) 25) + ((-1) * v_iv (n_v (vs ++ [Value.int x]) 4) + ((-31) * v_iv (n_v (vs ++ [Value.int x]) 9) + 0)) ≤ 20
      simp only [e_4, e_9, e_25]
      exact vc_Ho_writeGroup_at_k1_8_1 (v_iv (n_v vs 4)) (v_iv (n_v vs 9)) (v_iv (n_v vs 23)) (w_fi ws (n_v vs 0) 12) (v_iv (Value.int x)) k4 k9 k23 f0 f4 kz_0_12 ex2
  exact ⟨(fun _ h => (by cases h)), [Value.int x], ag_one hx, List.forall_mem_cons.mpr ⟨⟨show (20 : Nat) < 100 from by decide, nf0⟩, List.forall_mem_cons.mpr ⟨⟨show (23 : Nat) < 100 from by decide, nf1⟩, (fun _ h => (by cases h))⟩⟩, (fun _ h => (by cases h))⟩
set_option maxHeartbeats 4000000 in
theorem vc_Ho_writeGroup_at_k1_9_0 (spareLength_0 : Int) (gx : Int) (kz_0_12 : 0 ≤ spareLength_0 ∧ spareLength_0 ≤ 100000000) (ex2 : gx = spareLength_0) : 1 * spareLength_0 + ((-1) * gx + 0) ≤ 0 := by
  first | assumption | omega | grind
set_option maxHeartbeats 4000000 in
theorem vc_Ho_writeGroup_at_k1_9_1 (x4 : Int) (x9 : Int) (x25 : Int) (spareLength_0 : Int) (gx : Int) (k4 : 0 ≤ x4 ∧ x4 ≤ 96428416) (k9 : 0 ≤ x9 ∧ x9 ≤ 23) (k25 : 0 ≤ x25 ∧ x25 ≤ 99999992) (f0 : 1 * x25 + ((-1) * x4 + ((-31) * x9 + 0)) ≤ 20) (f5 : 1 * spareLength_0 + ((-1) * x25 + 0) ≤ 8) (kz_0_12 : 0 ≤ spareLength_0 ∧ spareLength_0 ≤ 100000000) (ex2 : gx = spareLength_0) : 1 * gx + ((-1) * x4 + ((-31) * x9 + 0)) ≤ 28 := by
  first | assumption | omega | grind
def o_Ho_writeGroup_at_k1_9 : or_T := (79, 27, [(0, (2, 0, 0, [12])), (4, (0, 0, 96428416, [])), (5, (2, 0, 0, [12])), (9, (0, 0, 23, [])), (10, (0, 1, 24, [])), (14, (0, 0, 99999995, [])), (18, (0, 0, 99999992, [])), (23, (0, 0, 99999993, [])), (25, (0, 0, 99999992, []))], [(23, [25, 4, 9], [20, 1, -1, -31]), (23, [23, 4, 9], [13, 1, -1, -31]), (23, [18, 4, 9], [5, 1, -1, -31]), (23, [14, 4, 9], [0, 1, -1, -31]), (24, [0, 5], []), (20, [5, 25], [30, 8, 1, 1, 12, -1, 0, 0]), (102, [25], [261336857795280739939871698507597986398208, 12012]), (23, [25, 4, 9], [20, 1, -1, -31]), (23, [23, 4, 9], [13, 1, -1, -31]), (23, [18, 4, 9], [5, 1, -1, -31]), (23, [14, 4, 9], [0, 1, -1, -31]), (102, [23], [261336857795280739939871698507597986398208, 12012]), (23, [23, 4, 9], [13, 1, -1, -31]), (23, [18, 4, 9], [5, 1, -1, -31]), (23, [14, 4, 9], [0, 1, -1, -31]), (102, [18], [261336857795280739939871698507597986398208, 12012]), (23, [18, 4, 9], [5, 1, -1, -31]), (23, [14, 4, 9], [0, 1, -1, -31]), (102, [14], [261336857795280739939871698507597986398208, 12012]), (23, [14, 4, 9], [0, 1, -1, -31]), (7, [9, 10], [2])], [], [(0, 0, 99999999, [])], [(20, [5, 27], [30, 0, 1, 1, 12, -1, 0, 0]), (23, [27, 4, 9], [28, 1, -1, -31])], [], [(9, 10, -4294967296, -1)])
theorem oo_Ho_writeGroup_at_k1_9 {kA : Nat → ClassId} : or_ok PRD kA GG o_Ho_writeGroup_at_k1_9 := by
  refine or_mk fun A ta ws vs hD hth hl => ?_
  intro t0 r0 t4 k4 t5 r5 t9 k9 t10 k10 t14 k14 t18 k18 t23 k23 t25 k25 d0 f0 f1 f2 f3 f4 f5 ta1 w1 le1 s1 f7 f8 f9 f10 ta2 w2 le2 s2 f12 f13 f14 ta3 w3 le3 s3 f16 f17 ta4 w4 le4 s4 f19 f20
  replace f0 := shm_230 f0
  replace f1 := shm_229 f1
  replace f2 := shm_227 f2
  replace f3 := shm_226 f3
  replace f4 := shm_5 f4
  replace f5 := shm_135 f5
  replace f7 := shm_230 f7
  replace f8 := shm_229 f8
  replace f9 := shm_227 f9
  replace f10 := shm_226 f10
  replace f12 := shm_229 f12
  replace f13 := shm_227 f13
  replace f14 := shm_226 f14
  replace f16 := shm_227 f16
  replace f17 := shm_226 f17
  replace f19 := shm_226 f19
  replace f20 := shm_6 f20
  have q5 : n_v vs 5 = n_v vs 0 := f4.symm
  simp only [q5] at f5
  have kz_0_12 := fdq_0 hD hth r0
  have kv0 := fdq_0 hD hth r0
  obtain ⟨x, ex, hx⟩ := iv_ex (ta := ta) (lo := 0) (hi := 99999999) (z := w_fi ws (n_v vs 0) 12) (by omega) (by omega) (by omega) (by omega)
  have ex2 : v_iv (Value.int x) = w_fi ws (n_v vs 0) 12 := ex
  have ex3 : 0 ≤ v_iv (Value.int x) ∧ v_iv (Value.int x) ≤ 99999999 := tv_rng hx
  have e_4 : n_v (vs ++ [Value.int x]) 4 = n_v vs 4 := n_v_old (by rw [hl]; decide)
  have e_5 : n_v (vs ++ [Value.int x]) 5 = n_v vs 5 := n_v_old (by rw [hl]; decide)
  have e_9 : n_v (vs ++ [Value.int x]) 9 = n_v vs 9 := n_v_old (by rw [hl]; decide)
  have e_27 : n_v (vs ++ [Value.int x]) 27 = Value.int x := n_v_new hl
  have nf0 : fc_1 PRD (20, [5, 27], [30, 0, 1, 1, 12, -1, 0, 0]) ws (vs ++ [Value.int x]) := by
    refine ⟨nf_inA hl rfl, sgq_104 ?_⟩
    · show 1 * w_fi ws (n_v (vs ++ [Value.int x]) 5) 12 + ((-1) * v_iv (n_v (vs ++ [Value.int x]) 27) + 0) ≤ 0
      simp only [e_5, e_27, q5]
      exact vc_Ho_writeGroup_at_k1_9_0 (w_fi ws (n_v vs 0) 12) (v_iv (Value.int x)) kz_0_12 ex2
  have nf1 : fc_1 PRD (23, [27, 4, 9], [28, 1, -1, -31]) ws (vs ++ [Value.int x]) := by
    refine ⟨nf_inA hl rfl, sgq_231 ?_⟩
    · show 1 * v_iv (n_v (vs ++ [Value.int x]) 27) + ((-1) * v_iv (n_v (vs ++ [Value.int x]) 4) + ((-31) * v_iv (n_v (vs ++ [Value.int x]) 9) + 0)) ≤ 28
      simp only [e_4, e_9, e_27]
      exact vc_Ho_writeGroup_at_k1_9_1 (v_iv (n_v vs 4)) (v_iv (n_v vs 9)) (v_iv (n_v vs 25)) (w_fi ws (n_v vs 0) 12) (v_iv (Value.int x)) k4 k9 k25 f0 f5 kz_0_12 ex2
  exact ⟨(fun _ h => (by cases h)), [Value.int x], ag_one hx, List.forall_mem_cons.mpr ⟨⟨show (20 : Nat) < 100 from by decide, nf0⟩, List.forall_mem_cons.mpr ⟨⟨show (23 : Nat) < 100 from by decide, nf1⟩, (fun _ h => (by cases h))⟩⟩, (fun _ h => (by cases h))⟩
set_option maxHeartbeats 4000000 in
theorem vc_Ho_writeGroup_at_k1_10_0 (spareLength_0 : Int) (gx : Int) (kz_0_12 : 0 ≤ spareLength_0 ∧ spareLength_0 ≤ 100000000) (ex2 : gx = spareLength_0) : 1 * spareLength_0 + ((-1) * gx + 0) ≤ 0 := by
  first | assumption | omega | grind
set_option maxHeartbeats 4000000 in
theorem vc_Ho_writeGroup_at_k1_10_1 (x4 : Int) (x9 : Int) (x27 : Int) (spareLength_0 : Int) (gx : Int) (k4 : 0 ≤ x4 ∧ x4 ≤ 96428416) (k9 : 0 ≤ x9 ∧ x9 ≤ 23) (k27 : 0 ≤ x27 ∧ x27 ≤ 99999999) (f0 : 1 * x27 + ((-1) * x4 + ((-31) * x9 + 0)) ≤ 28) (f6 : 1 * spareLength_0 + ((-1) * x27 + 0) ≤ 1) (kz_0_12 : 0 ≤ spareLength_0 ∧ spareLength_0 ≤ 100000000) (ex2 : gx = spareLength_0) : 1 * gx + ((-1) * x4 + ((-31) * x9 + 0)) ≤ 29 := by
  first | assumption | omega | grind
def o_Ho_writeGroup_at_k1_10 : or_T := (86, 29, [(0, (2, 0, 0, [12])), (4, (0, 0, 96428416, [])), (5, (2, 0, 0, [12])), (9, (0, 0, 23, [])), (10, (0, 1, 24, [])), (14, (0, 0, 99999995, [])), (18, (0, 0, 99999992, [])), (23, (0, 0, 99999993, [])), (25, (0, 0, 99999992, [])), (27, (0, 0, 99999999, []))], [(23, [27, 4, 9], [28, 1, -1, -31]), (23, [25, 4, 9], [20, 1, -1, -31]), (23, [23, 4, 9], [13, 1, -1, -31]), (23, [18, 4, 9], [5, 1, -1, -31]), (23, [14, 4, 9], [0, 1, -1, -31]), (24, [0, 5], []), (20, [5, 27], [30, 1, 1, 1, 12, -1, 0, 0]), (102, [27], [261336857795280739939871698507597986398208, 12012]), (23, [27, 4, 9], [28, 1, -1, -31]), (23, [25, 4, 9], [20, 1, -1, -31]), (23, [23, 4, 9], [13, 1, -1, -31]), (23, [18, 4, 9], [5, 1, -1, -31]), (23, [14, 4, 9], [0, 1, -1, -31]), (102, [25], [261336857795280739939871698507597986398208, 12012]), (23, [25, 4, 9], [20, 1, -1, -31]), (23, [23, 4, 9], [13, 1, -1, -31]), (23, [18, 4, 9], [5, 1, -1, -31]), (23, [14, 4, 9], [0, 1, -1, -31]), (102, [23], [261336857795280739939871698507597986398208, 12012]), (23, [23, 4, 9], [13, 1, -1, -31]), (23, [18, 4, 9], [5, 1, -1, -31]), (23, [14, 4, 9], [0, 1, -1, -31]), (102, [18], [261336857795280739939871698507597986398208, 12012]), (23, [18, 4, 9], [5, 1, -1, -31]), (23, [14, 4, 9], [0, 1, -1, -31]), (102, [14], [261336857795280739939871698507597986398208, 12012]), (23, [14, 4, 9], [0, 1, -1, -31]), (7, [9, 10], [2])], [], [(0, 0, 99999998, [])], [(20, [5, 29], [30, 0, 1, 1, 12, -1, 0, 0]), (23, [29, 4, 9], [29, 1, -1, -31])], [], [(9, 10, -4294967296, -1)])
theorem oo_Ho_writeGroup_at_k1_10 {kA : Nat → ClassId} : or_ok PRD kA GG o_Ho_writeGroup_at_k1_10 := by
  refine or_mk fun A ta ws vs hD hth hl => ?_
  intro t0 r0 t4 k4 t5 r5 t9 k9 t10 k10 t14 k14 t18 k18 t23 k23 t25 k25 t27 k27 d0 f0 f1 f2 f3 f4 f5 f6 ta1 w1 le1 s1 f8 f9 f10 f11 f12 ta2 w2 le2 s2 f14 f15 f16 f17 ta3 w3 le3 s3 f19 f20 f21 ta4 w4 le4 s4 f23 f24 ta5 w5 le5 s5 f26 f27
  replace f0 := shm_231 f0
  replace f1 := shm_230 f1
  replace f2 := shm_229 f2
  replace f3 := shm_227 f3
  replace f4 := shm_226 f4
  replace f5 := shm_5 f5
  replace f6 := shm_105 f6
  replace f8 := shm_231 f8
  replace f9 := shm_230 f9
  replace f10 := shm_229 f10
  replace f11 := shm_227 f11
  replace f12 := shm_226 f12
  replace f14 := shm_230 f14
  replace f15 := shm_229 f15
  replace f16 := shm_227 f16
  replace f17 := shm_226 f17
  replace f19 := shm_229 f19
  replace f20 := shm_227 f20
  replace f21 := shm_226 f21
  replace f23 := shm_227 f23
  replace f24 := shm_226 f24
  replace f26 := shm_226 f26
  replace f27 := shm_6 f27
  have q5 : n_v vs 5 = n_v vs 0 := f5.symm
  simp only [q5] at f6
  have kz_0_12 := fdq_0 hD hth r0
  have kv0 := fdq_0 hD hth r0
  obtain ⟨x, ex, hx⟩ := iv_ex (ta := ta) (lo := 0) (hi := 99999998) (z := w_fi ws (n_v vs 0) 12) (by omega) (by omega) (by omega) (by omega)
  have ex2 : v_iv (Value.int x) = w_fi ws (n_v vs 0) 12 := ex
  have ex3 : 0 ≤ v_iv (Value.int x) ∧ v_iv (Value.int x) ≤ 99999998 := tv_rng hx
  have e_4 : n_v (vs ++ [Value.int x]) 4 = n_v vs 4 := n_v_old (by rw [hl]; decide)
  have e_5 : n_v (vs ++ [Value.int x]) 5 = n_v vs 5 := n_v_old (by rw [hl]; decide)
  have e_9 : n_v (vs ++ [Value.int x]) 9 = n_v vs 9 := n_v_old (by rw [hl]; decide)
  have e_29 : n_v (vs ++ [Value.int x]) 29 = Value.int x := n_v_new hl
  have nf0 : fc_1 PRD (20, [5, 29], [30, 0, 1, 1, 12, -1, 0, 0]) ws (vs ++ [Value.int x]) := by
    refine ⟨nf_inA hl rfl, sgq_104 ?_⟩
    · show 1 * w_fi ws (n_v (vs ++ [Value.int x]) 5) 12 + ((-1) * v_iv (n_v (vs ++ [Value.int x]) 29) + 0) ≤ 0
      simp only [e_5, e_29, q5]
      exact vc_Ho_writeGroup_at_k1_10_0 (w_fi ws (n_v vs 0) 12) (v_iv (Value.int x)) kz_0_12 ex2
  have nf1 : fc_1 PRD (23, [29, 4, 9], [29, 1, -1, -31]) ws (vs ++ [Value.int x]) := by
    refine ⟨nf_inA hl rfl, sgq_228 ?_⟩
    · show 1 * v_iv (n_v (vs ++ [Value.int x]) 29) + ((-1) * v_iv (n_v (vs ++ [Value.int x]) 4) + ((-31) * v_iv (n_v (vs ++ [Value.int x]) 9) + 0)) ≤ 29
      simp only [e_4, e_9, e_29]
      exact vc_Ho_writeGroup_at_k1_10_1 (v_iv (n_v vs 4)) (v_iv (n_v vs 9)) (v_iv (n_v vs 27)) (w_fi ws (n_v vs 0) 12) (v_iv (Value.int x)) k4 k9 k27 f0 f6 kz_0_12 ex2
  exact ⟨(fun _ h => (by cases h)), [Value.int x], ag_one hx, List.forall_mem_cons.mpr ⟨⟨show (20 : Nat) < 100 from by decide, nf0⟩, List.forall_mem_cons.mpr ⟨⟨show (23 : Nat) < 100 from by decide, nf1⟩, (fun _ h => (by cases h))⟩⟩, (fun _ h => (by cases h))⟩
set_option maxHeartbeats 4000000 in
theorem vc_Ho_writeGroup_at_k1_11_0 (x4 : Int) (x9 : Int) (x29 : Int) (x30 : Int) (spareLength_0 : Int) (k4 : 0 ≤ x4 ∧ x4 ≤ 96428416) (k9 : 0 ≤ x9 ∧ x9 ≤ 23) (k29 : 0 ≤ x29 ∧ x29 ≤ 99999998) (k30 : 1 ≤ x30 ∧ x30 ≤ 24) (d0 : x9 + 1 ≤ x30 ∧ x30 ≤ x9 + 1) (f1 : 1 * x29 + ((-1) * x4 + ((-31) * x9 + 0)) ≤ 29) (f8 : 1 * spareLength_0 + ((-1) * x29 + 0) ≤ 2) (kz_0_12 : 0 ≤ spareLength_0 ∧ spareLength_0 ≤ 100000000) : 1 * spareLength_0 + ((-1) * x4 + ((-31) * x30 + 0)) ≤ 0 := by
  first | assumption | omega | grind
def o_Ho_writeGroup_at_k1_11 : or_T := (3, 31, [(0, (2, 0, 0, [12])), (4, (0, 0, 96428416, [])), (9, (0, 0, 23, [])), (29, (0, 0, 99999998, [])), (30, (0, 1, 24, []))], [(23, [29, 4, 9], [29, 1, -1, -31]), (24, [0, 5], []), (20, [5, 29], [30, 2, 1, 1, 12, -1, 0, 0])], [], [], [(20, [5, 4, 30], [30, 0, 1, 1, 12, -1, 0, 0, -31, 0, 0])], [], [(30, 9, 1, 1)])
theorem oo_Ho_writeGroup_at_k1_11 {kA : Nat → ClassId} : or_ok PRD kA GG o_Ho_writeGroup_at_k1_11 := by
  refine or_mk fun A ta ws vs hD hth hl => ?_
  intro t0 r0 t4 k4 t9 k9 t29 k29 t30 k30 d0 f1 f7 f8
  replace f1 := shm_228 f1
  replace f7 := shm_5 f7
  replace f8 := shm_204 f8
  have q5 : n_v vs 5 = n_v vs 0 := f7.symm
  simp only [q5] at f8
  have kz_0_12 := fdq_0 hD hth r0
  have nf0 : fc_1 PRD (20, [5, 4, 30], [30, 0, 1, 1, 12, -1, 0, 0, -31, 0, 0]) ws (vs) := by
    refine ⟨nf_in hl rfl, sgq_224 ?_⟩
    · show 1 * w_fi ws (n_v vs 5) 12 + ((-1) * v_iv (n_v vs 4) + ((-31) * v_iv (n_v vs 30) + 0)) ≤ 0
      rw [q5]
      exact vc_Ho_writeGroup_at_k1_11_0 (v_iv (n_v vs 4)) (v_iv (n_v vs 9)) (v_iv (n_v vs 29)) (v_iv (n_v vs 30)) (w_fi ws (n_v vs 0) 12) k4 k9 k29 k30 d0 f1 f8 kz_0_12
  refine ⟨(fun _ h => (by cases h)), [], trivial, ?_, (fun _ h => (by cases h))⟩
  rw [List.append_nil]
  exact List.forall_mem_cons.mpr ⟨⟨show (20 : Nat) < 100 from by decide, nf0⟩, (fun _ h => (by cases h))⟩
set_option maxHeartbeats 4000000 in
theorem vc_Ho_writeGroup_at_k1_12_0 (x4 : Int) (x7 : Int) (x9 : Int) (spareLength_0 : Int) (k4 : 0 ≤ x4 ∧ x4 ≤ 96428416) (k7 : 1 ≤ x7 ∧ x7 ≤ 7) (k9 : 2 ≤ x9 ∧ x9 ≤ 8) (f2 : 1 * spareLength_0 + ((-1) * x4 + ((-446355) * x9 + (446355 * x7 + 0))) ≤ (-445611)) (kz_0_12 : 0 ≤ spareLength_0 ∧ spareLength_0 ≤ 100000000) : 1 * spareLength_0 + ((-1) * x4 + 0) ≤ 3571584 := by
  first | assumption | omega | grind
def o_Ho_writeGroup_at_k1_12 : or_T := (179, 11, [(0, (2, 0, 0, [12])), (4, (0, 0, 96428416, [])), (7, (0, 1, 7, [])), (9, (0, 2, 8, []))], [(20, [5, 4, 9, 7], [30, -445611, 1, 1, 12, -1, 0, 0, -446355, 0, 0, 446355, 0, 0]), (24, [0, 5], [])], [], [], [(20, [0, 4], [30, 3571584, 1, 1, 12, -1, 0, 0])], [], [])
theorem oo_Ho_writeGroup_at_k1_12 {kA : Nat → ClassId} : or_ok PRD kA GG o_Ho_writeGroup_at_k1_12 := by
  refine or_mk fun A ta ws vs hD hth hl => ?_
  intro t0 r0 t4 k4 t7 k7 t9 k9 f2 f3
  replace f2 := shm_239 f2
  replace f3 := shm_5 f3
  have q5 : n_v vs 5 = n_v vs 0 := f3.symm
  simp only [q5] at f2
  have kz_0_12 := fdq_0 hD hth r0
  have nf0 : fc_1 PRD (20, [0, 4], [30, 3571584, 1, 1, 12, -1, 0, 0]) ws (vs) := ⟨nf_in hl rfl, sgq_237 (vc_Ho_writeGroup_at_k1_12_0 (v_iv (n_v vs 4)) (v_iv (n_v vs 7)) (v_iv (n_v vs 9)) (w_fi ws (n_v vs 0) 12) k4 k7 k9 f2 kz_0_12)⟩
  refine ⟨(fun _ h => (by cases h)), [], trivial, ?_, (fun _ h => (by cases h))⟩
  rw [List.append_nil]
  exact List.forall_mem_cons.mpr ⟨⟨show (20 : Nat) < 100 from by decide, nf0⟩, (fun _ h => (by cases h))⟩
set_option maxHeartbeats 4000000 in
theorem vc_Ho_writeGroup_at_k1_13_0 (x4 : Int) (x7 : Int) (x9 : Int) (x13 : Int) (spareLength_0 : Int) (k4 : 0 ≤ x4 ∧ x4 ≤ 96428416) (k7 : 1 ≤ x7 ∧ x7 ≤ 6) (k9 : 2 ≤ x9 ∧ x9 ≤ 7) (k13 : 3 ≤ x13 ∧ x13 ≤ 8) (d0 : x9 + 1 ≤ x13 ∧ x13 ≤ x9 + 1) (f6 : 1 * spareLength_0 + ((-1) * x4 + ((-446355) * x9 + (446355 * x7 + 0))) ≤ (-445611)) (kz_0_12 : 0 ≤ spareLength_0 ∧ spareLength_0 ≤ 100000000) : 1 * spareLength_0 + ((-1) * x4 + ((-446355) * x13 + (446355 * x7 + 0))) ≤ (-445611) := by
  first | assumption | omega | grind
def o_Ho_writeGroup_at_k1_13 : or_T := (100, 14, [(0, (2, 0, 0, [12])), (4, (0, 0, 96428416, [])), (7, (0, 1, 6, [])), (9, (0, 2, 7, [])), (13, (0, 3, 8, []))], [(20, [5, 4, 9, 7], [30, -445611, 1, 1, 12, -1, 0, 0, -446355, 0, 0, 446355, 0, 0]), (24, [0, 5], [])], [], [], [(20, [5, 4, 13, 7], [30, -445611, 1, 1, 12, -1, 0, 0, -446355, 0, 0, 446355, 0, 0])], [], [(13, 9, 1, 1)])
theorem oo_Ho_writeGroup_at_k1_13 {kA : Nat → ClassId} : or_ok PRD kA GG o_Ho_writeGroup_at_k1_13 := by
  refine or_mk fun A ta ws vs hD hth hl => ?_
  intro t0 r0 t4 k4 t7 k7 t9 k9 t13 k13 d0 f6 f7
  replace f6 := shm_239 f6
  replace f7 := shm_5 f7
  have q5 : n_v vs 5 = n_v vs 0 := f7.symm
  simp only [q5] at f6
  have kz_0_12 := fdq_0 hD hth r0
  have nf0 : fc_1 PRD (20, [5, 4, 13, 7], [30, -445611, 1, 1, 12, -1, 0, 0, -446355, 0, 0, 446355, 0, 0]) ws (vs) := by
    refine ⟨nf_in hl rfl, sgq_239 ?_⟩
    · show 1 * w_fi ws (n_v vs 5) 12 + ((-1) * v_iv (n_v vs 4) + ((-446355) * v_iv (n_v vs 13) + (446355 * v_iv (n_v vs 7) + 0))) ≤ (-445611)
      rw [q5]
      exact vc_Ho_writeGroup_at_k1_13_0 (v_iv (n_v vs 4)) (v_iv (n_v vs 7)) (v_iv (n_v vs 9)) (v_iv (n_v vs 13)) (w_fi ws (n_v vs 0) 12) k4 k7 k9 k13 d0 f6 kz_0_12
  refine ⟨(fun _ h => (by cases h)), [], trivial, ?_, (fun _ h => (by cases h))⟩
  rw [List.append_nil]
  exact List.forall_mem_cons.mpr ⟨⟨show (20 : Nat) < 100 from by decide, nf0⟩, (fun _ h => (by cases h))⟩
set_option maxHeartbeats 4000000 in
theorem vc_Ho_writeGroup_at_k1_14_0 (spareLength_0 : Int) (gx : Int) (kz_0_12 : 0 ≤ spareLength_0 ∧ spareLength_0 ≤ 100000000) (ex2 : gx = spareLength_0) : 1 * spareLength_0 + ((-1) * gx + 0) ≤ 0 := by
  first | assumption | omega | grind
set_option maxHeartbeats 4000000 in
theorem vc_Ho_writeGroup_at_k1_14_1 (x4 : Int) (x7 : Int) (x9 : Int) (x12 : Int) (within_0o6 : Int → Int) (spareLength_0 : Int) (gx : Int) (k4 : 0 ≤ x4 ∧ x4 ≤ 96428416) (k7 : 1 ≤ x7 ∧ x7 ≤ 6) (k9 : 2 ≤ x9 ∧ x9 ≤ 7) (k12 : 1 ≤ x12 ∧ x12 ≤ 6) (d0 : x7 + 0 ≤ x12 ∧ x12 ≤ x7 + 0) (h1 : x12 = within_0o6 (x9)) (f5 : 1 * spareLength_0 + ((-1) * x4 + ((-446355) * x9 + (446355 * x7 + 0))) ≤ (-445611)) (kz_0_12 : 0 ≤ spareLength_0 ∧ spareLength_0 ≤ 100000000) (ex2 : gx = spareLength_0) : 1 * gx + ((-1) * x4 + ((-446355) * x9 + (446355 * x7 + 0))) ≤ (-445611) := by
  first | assumption | omega | grind
def o_Ho_writeGroup_at_k1_14 : or_T := (129, 15, [(0, (2, 0, 0, [12])), (4, (0, 0, 96428416, [])), (5, (2, 0, 0, [12])), (6, (2, 0, 0, [3])), (7, (0, 1, 6, [])), (9, (0, 2, 7, [])), (10, (0, 3, 8, [])), (11, (2, 0, 0, [56])), (12, (0, 1, 6, []))], [(7, [12, 7], [0]), (10, [12, 11, 9], []), (9, [11, 6], [11]), (7, [9, 10], [2]), (9, [10, 6], [2]), (20, [5, 4, 9, 7], [30, -445611, 1, 1, 12, -1, 0, 0, -446355, 0, 0, 446355, 0, 0]), (24, [0, 5], [])], [], [(0, 0, 99999994, [])], [(20, [5, 15], [30, 0, 1, 1, 12, -1, 0, 0]), (23, [15, 4, 9, 7], [-445611, 1, -1, -446355, 446355])], [], [(12, 7, 0, 0), (9, 10, -4294967296, -1), (7, 9, -4294967296, -1)])
theorem oo_Ho_writeGroup_at_k1_14 {kA : Nat → ClassId} : or_ok PRD kA GG o_Ho_writeGroup_at_k1_14 := by
  refine or_mk fun A ta ws vs hD hth hl => ?_
  intro t0 r0 t4 k4 t5 r5 t6 r6 t7 k7 t9 k9 t10 k10 t11 r11 t12 k12 d0 d1 d2 f0 f1 f2 f3 f4 f5 f6
  replace f0 := shm_37 f0
  replace f1 := shm_107 f1
  replace f2 := shm_116 f2
  replace f3 := shm_6 f3
  replace f4 := shm_120 f4
  replace f5 := shm_239 f5
  replace f6 := shm_5 f6
  have q5 : n_v vs 5 = n_v vs 0 := f6.symm
  simp only [q5] at f5
  have cr_6_11 := fdq_31 hD hth r6
  have ad_11 : v_ad (n_v vs 11) = w_ar ws (n_v vs 6) 11 := congrArg v_ad f2
  simp only [ad_11] at f1
  have h1 : v_iv (n_v vs 12) = w_ei ws (w_ar ws (n_v vs 6) 11) (v_iv (n_v vs 9)) := f1
  have g4 : v_iv (n_v vs 10) = w_fi ws (n_v vs 6) 2 := congrArg v_iv f4
  have kz_0_12 := fdq_0 hD hth r0
  have kz_6_2 := fdq_20 hD hth r6
  have kv0 := fdq_0 hD hth r0
  obtain ⟨x, ex, hx⟩ := iv_ex (ta := ta) (lo := 0) (hi := 99999994) (z := w_fi ws (n_v vs 0) 12) (by omega) (by omega) (by omega) (by omega)
  have ex2 : v_iv (Value.int x) = w_fi ws (n_v vs 0) 12 := ex
  have ex3 : 0 ≤ v_iv (Value.int x) ∧ v_iv (Value.int x) ≤ 99999994 := tv_rng hx
  have e_4 : n_v (vs ++ [Value.int x]) 4 = n_v vs 4 := n_v_old (by rw [hl]; decide)
  have e_5 : n_v (vs ++ [Value.int x]) 5 = n_v vs 5 := n_v_old (by rw [hl]; decide)
  have e_7 : n_v (vs ++ [Value.int x]) 7 = n_v vs 7 := n_v_old (by rw [hl]; decide)
  have e_9 : n_v (vs ++ [Value.int x]) 9 = n_v vs 9 := n_v_old (by rw [hl]; decide)
  have e_15 : n_v (vs ++ [Value.int x]) 15 = Value.int x := n_v_new hl
  have nf0 : fc_1 PRD (20, [5, 15], [30, 0, 1, 1, 12, -1, 0, 0]) ws (vs ++ [Value.int x]) := by
    refine ⟨nf_inA hl rfl, sgq_104 ?_⟩
    · show 1 * w_fi ws (n_v (vs ++ [Value.int x]) 5) 12 + ((-1) * v_iv (n_v (vs ++ [Value.int x]) 15) + 0) ≤ 0
      simp only [e_5, e_15, q5]
      exact vc_Ho_writeGroup_at_k1_14_0 (w_fi ws (n_v vs 0) 12) (v_iv (Value.int x)) kz_0_12 ex2
  have nf1 : fc_1 PRD (23, [15, 4, 9, 7], [-445611, 1, -1, -446355, 446355]) ws (vs ++ [Value.int x]) := by
    refine ⟨nf_inA hl rfl, sgq_240 ?_⟩
    · show 1 * v_iv (n_v (vs ++ [Value.int x]) 15) + ((-1) * v_iv (n_v (vs ++ [Value.int x]) 4) + ((-446355) * v_iv (n_v (vs ++ [Value.int x]) 9) + (446355 * v_iv (n_v (vs ++ [Value.int x]) 7) + 0))) ≤ (-445611)
      simp only [e_4, e_7, e_9, e_15]
      exact vc_Ho_writeGroup_at_k1_14_1 (v_iv (n_v vs 4)) (v_iv (n_v vs 7)) (v_iv (n_v vs 9)) (v_iv (n_v vs 12)) (w_ei ws (w_ar ws (n_v vs 6) 11)) (w_fi ws (n_v vs 0) 12) (v_iv (Value.int x)) k4 k7 k9 k12 d0 h1 f5 kz_0_12 ex2
  exact ⟨(fun _ h => (by cases h)), [Value.int x], ag_one hx, List.forall_mem_cons.mpr ⟨⟨show (20 : Nat) < 100 from by decide, nf0⟩, List.forall_mem_cons.mpr ⟨⟨show (23 : Nat) < 100 from by decide, nf1⟩, (fun _ h => (by cases h))⟩⟩, (fun _ h => (by cases h))⟩
set_option maxHeartbeats 4000000 in
theorem vc_Ho_writeGroup_at_k1_15_0 (spareLength_0 : Int) (gx : Int) (kz_0_12 : 0 ≤ spareLength_0 ∧ spareLength_0 ≤ 100000000) (ex2 : gx = spareLength_0) : 1 * spareLength_0 + ((-1) * gx + 0) ≤ 0 := by
  first | assumption | omega | grind
set_option maxHeartbeats 4000000 in
theorem vc_Ho_writeGroup_at_k1_15_1 (x4 : Int) (x7 : Int) (x9 : Int) (x12 : Int) (x15 : Int) (spareLength_0 : Int) (gx : Int) (k4 : 0 ≤ x4 ∧ x4 ≤ 96428416) (k7 : 1 ≤ x7 ∧ x7 ≤ 6) (k9 : 2 ≤ x9 ∧ x9 ≤ 7) (k12 : 1 ≤ x12 ∧ x12 ≤ 6) (k15 : 0 ≤ x15 ∧ x15 ≤ 99999994) (d0 : x7 + 0 ≤ x12 ∧ x12 ≤ x7 + 0) (f0 : 1 * x15 + ((-1) * x4 + ((-446355) * x9 + (446355 * x7 + 0))) ≤ (-445611)) (f2 : 1 * spareLength_0 + ((-1) * x15 + 0) ≤ 6) (kz_0_12 : 0 ≤ spareLength_0 ∧ spareLength_0 ≤ 100000000) (ex2 : gx = spareLength_0) : 1 * gx + ((-1) * x4 + ((-446355) * x9 + (446355 * x7 + 0))) ≤ (-445605) := by
  first | assumption | omega | grind
def o_Ho_writeGroup_at_k1_15 : or_T := (146, 19, [(0, (2, 0, 0, [12])), (4, (0, 0, 96428416, [])), (5, (2, 0, 0, [12])), (7, (0, 1, 6, [])), (9, (0, 2, 7, [])), (10, (0, 3, 8, [])), (12, (0, 1, 6, [])), (15, (0, 0, 99999994, []))], [(23, [15, 4, 9, 7], [-445611, 1, -1, -446355, 446355]), (24, [0, 5], []), (20, [5, 15], [30, 6, 1, 1, 12, -1, 0, 0]), (102, [15], [261336857795280739939871698507597986398208, 12012]), (23, [15, 4, 9, 7], [-445611, 1, -1, -446355, 446355]), (7, [12, 7], [0]), (7, [9, 10], [2])], [], [(0, 0, 99999992, [])], [(20, [5, 19], [30, 0, 1, 1, 12, -1, 0, 0]), (23, [19, 4, 9, 7], [-445605, 1, -1, -446355, 446355])], [], [(12, 7, 0, 0), (9, 10, -4294967296, -1), (7, 9, -4294967296, -1)])
theorem oo_Ho_writeGroup_at_k1_15 {kA : Nat → ClassId} : or_ok PRD kA GG o_Ho_writeGroup_at_k1_15 := by
  refine or_mk fun A ta ws vs hD hth hl => ?_
  intro t0 r0 t4 k4 t5 r5 t7 k7 t9 k9 t10 k10 t12 k12 t15 k15 d0 d1 d2 f0 f1 f2 ta1 w1 le1 s1 f4 f5 f6
  replace f0 := shm_240 f0
  replace f1 := shm_5 f1
  replace f2 := shm_205 f2
  replace f4 := shm_240 f4
  replace f5 := shm_37 f5
  replace f6 := shm_6 f6
  have q5 : n_v vs 5 = n_v vs 0 := f1.symm
  simp only [q5] at f2
  have kz_0_12 := fdq_0 hD hth r0
  have kv0 := fdq_0 hD hth r0
  obtain ⟨x, ex, hx⟩ := iv_ex (ta := ta) (lo := 0) (hi := 99999992) (z := w_fi ws (n_v vs 0) 12) (by omega) (by omega) (by omega) (by omega)
  have ex2 : v_iv (Value.int x) = w_fi ws (n_v vs 0) 12 := ex
  have ex3 : 0 ≤ v_iv (Value.int x) ∧ v_iv (Value.int x) ≤ 99999992 := tv_rng hx
  have e_4 : n_v (vs ++ [Value.int x]) 4 = n_v vs 4 := n_v_old (by rw [hl]; decide)
  have e_5 : n_v (vs ++ [Value.int x]) 5 = n_v vs 5 := n_v_old (by rw [hl]; decide)
  have e_7 : n_v (vs ++ [Value.int x]) 7 = n_v vs 7 := n_v_old (by rw [hl]; decide)
  have e_9 : n_v (vs ++ [Value.int x]) 9 = n_v vs 9 := n_v_old (by rw [hl]; decide)
  have e_19 : n_v (vs ++ [Value.int x]) 19 = Value.int x := n_v_new hl
  have nf0 : fc_1 PRD (20, [5, 19], [30, 0, 1, 1, 12, -1, 0, 0]) ws (vs ++ [Value.int x]) := by
    refine ⟨nf_inA hl rfl, sgq_104 ?_⟩
    · show 1 * w_fi ws (n_v (vs ++ [Value.int x]) 5) 12 + ((-1) * v_iv (n_v (vs ++ [Value.int x]) 19) + 0) ≤ 0
      simp only [e_5, e_19, q5]
      exact vc_Ho_writeGroup_at_k1_15_0 (w_fi ws (n_v vs 0) 12) (v_iv (Value.int x)) kz_0_12 ex2
  have nf1 : fc_1 PRD (23, [19, 4, 9, 7], [-445605, 1, -1, -446355, 446355]) ws (vs ++ [Value.int x]) := by
    refine ⟨nf_inA hl rfl, sgq_241 ?_⟩
    · show 1 * v_iv (n_v (vs ++ [Value.int x]) 19) + ((-1) * v_iv (n_v (vs ++ [Value.int x]) 4) + ((-446355) * v_iv (n_v (vs ++ [Value.int x]) 9) + (446355 * v_iv (n_v (vs ++ [Value.int x]) 7) + 0))) ≤ (-445605)
      simp only [e_4, e_7, e_9, e_19]
      exact vc_Ho_writeGroup_at_k1_15_1 (v_iv (n_v vs 4)) (v_iv (n_v vs 7)) (v_iv (n_v vs 9)) (v_iv (n_v vs 12)) (v_iv (n_v vs 15)) (w_fi ws (n_v vs 0) 12) (v_iv (Value.int x)) k4 k7 k9 k12 k15 d0 f0 f2 kz_0_12 ex2
  exact ⟨(fun _ h => (by cases h)), [Value.int x], ag_one hx, List.forall_mem_cons.mpr ⟨⟨show (20 : Nat) < 100 from by decide, nf0⟩, List.forall_mem_cons.mpr ⟨⟨show (23 : Nat) < 100 from by decide, nf1⟩, (fun _ h => (by cases h))⟩⟩, (fun _ h => (by cases h))⟩
set_option maxHeartbeats 4000000 in
theorem vc_Ho_writeGroup_at_k1_16_0 (spareLength_0 : Int) (gx : Int) (kz_0_12 : 0 ≤ spareLength_0 ∧ spareLength_0 ≤ 100000000) (ex2 : gx = spareLength_0) : 1 * spareLength_0 + ((-1) * gx + 0) ≤ 0 := by
  first | assumption | omega | grind
set_option maxHeartbeats 4000000 in
theorem vc_Ho_writeGroup_at_k1_16_1 (x4 : Int) (x7 : Int) (x9 : Int) (x12 : Int) (x19 : Int) (spareLength_0 : Int) (gx : Int) (k4 : 0 ≤ x4 ∧ x4 ≤ 96428416) (k7 : 1 ≤ x7 ∧ x7 ≤ 6) (k9 : 2 ≤ x9 ∧ x9 ≤ 7) (k12 : 1 ≤ x12 ∧ x12 ≤ 6) (k19 : 0 ≤ x19 ∧ x19 ≤ 99999992) (d0 : x7 + 0 ≤ x12 ∧ x12 ≤ x7 + 0) (f0 : 1 * x19 + ((-1) * x4 + ((-446355) * x9 + (446355 * x7 + 0))) ≤ (-445605)) (f3 : 1 * spareLength_0 + ((-1) * x19 + 0) ≤ 8) (kz_0_12 : 0 ≤ spareLength_0 ∧ spareLength_0 ≤ 100000000) (ex2 : gx = spareLength_0) : 1 * gx + ((-1) * x4 + ((-446355) * x9 + (446355 * x7 + 0))) ≤ (-445597) := by
  first | assumption | omega | grind
def o_Ho_writeGroup_at_k1_16 : or_T := (153, 21, [(0, (2, 0, 0, [12])), (4, (0, 0, 96428416, [])), (5, (2, 0, 0, [12])), (7, (0, 1, 6, [])), (9, (0, 2, 7, [])), (10, (0, 3, 8, [])), (12, (0, 1, 6, [])), (15, (0, 0, 99999994, [])), (19, (0, 0, 99999992, []))], [(23, [19, 4, 9, 7], [-445605, 1, -1, -446355, 446355]), (23, [15, 4, 9, 7], [-445611, 1, -1, -446355, 446355]), (24, [0, 5], []), (20, [5, 19], [30, 8, 1, 1, 12, -1, 0, 0]), (102, [19], [261336857795280739939871698507597986398208, 12012]), (23, [19, 4, 9, 7], [-445605, 1, -1, -446355, 446355]), (23, [15, 4, 9, 7], [-445611, 1, -1, -446355, 446355]), (102, [15], [261336857795280739939871698507597986398208, 12012]), (23, [15, 4, 9, 7], [-445611, 1, -1, -446355, 446355]), (7, [12, 7], [0]), (7, [9, 10], [2])], [], [(0, 0, 99999997, [])], [(20, [5, 21], [30, 0, 1, 1, 12, -1, 0, 0]), (23, [21, 4, 9, 7], [-445597, 1, -1, -446355, 446355])], [], [(12, 7, 0, 0), (9, 10, -4294967296, -1), (7, 9, -4294967296, -1)])
theorem oo_Ho_writeGroup_at_k1_16 {kA : Nat → ClassId} : or_ok PRD kA GG o_Ho_writeGroup_at_k1_16 := by
  refine or_mk fun A ta ws vs hD hth hl => ?_
  intro t0 r0 t4 k4 t5 r5 t7 k7 t9 k9 t10 k10 t12 k12 t15 k15 t19 k19 d0 d1 d2 f0 f1 f2 f3 ta1 w1 le1 s1 f5 f6 ta2 w2 le2 s2 f8 f9 f10
  replace f0 := shm_241 f0
  replace f1 := shm_240 f1
  replace f2 := shm_5 f2
  replace f3 := shm_135 f3
  replace f5 := shm_241 f5
  replace f6 := shm_240 f6
  replace f8 := shm_240 f8
  replace f9 := shm_37 f9
  replace f10 := shm_6 f10
  have q5 : n_v vs 5 = n_v vs 0 := f2.symm
  simp only [q5] at f3
  have kz_0_12 := fdq_0 hD hth r0
  have kv0 := fdq_0 hD hth r0
  obtain ⟨x, ex, hx⟩ := iv_ex (ta := ta) (lo := 0) (hi := 99999997) (z := w_fi ws (n_v vs 0) 12) (by omega) (by omega) (by omega) (by omega)
  have ex2 : v_iv (Value.int x) = w_fi ws (n_v vs 0) 12 := ex
  have ex3 : 0 ≤ v_iv (Value.int x) ∧ v_iv (Value.int x) ≤ 99999997 := tv_rng hx
  have e_4 : n_v (vs ++ [Value.int x]) 4 = n_v vs 4 := n_v_old (by rw [hl]; decide)
  have e_5 : n_v (vs ++ [Value.int x]) 5 = n_v vs 5 := n_v_old (by rw [hl]; decide)
  have e_7 : n_v (vs ++ [Value.int x]) 7 = n_v vs 7 := n_v_old (by rw [hl]; decide)
  have e_9 : n_v (vs ++ [Value.int x]) 9 = n_v vs 9 := n_v_old (by rw [hl]; decide)
  have e_21 : n_v (vs ++ [Value.int x]) 21 = Value.int x := n_v_new hl
  have nf0 : fc_1 PRD (20, [5, 21], [30, 0, 1, 1, 12, -1, 0, 0]) ws (vs ++ [Value.int x]) := by
    refine ⟨nf_inA hl rfl, sgq_104 ?_⟩
    · show 1 * w_fi ws (n_v (vs ++ [Value.int x]) 5) 12 + ((-1) * v_iv (n_v (vs ++ [Value.int x]) 21) + 0) ≤ 0
      simp only [e_5, e_21, q5]
      exact vc_Ho_writeGroup_at_k1_16_0 (w_fi ws (n_v vs 0) 12) (v_iv (Value.int x)) kz_0_12 ex2
  have nf1 : fc_1 PRD (23, [21, 4, 9, 7], [-445597, 1, -1, -446355, 446355]) ws (vs ++ [Value.int x]) := by
    refine ⟨nf_inA hl rfl, sgq_242 ?_⟩
    · show 1 * v_iv (n_v (vs ++ [Value.int x]) 21) + ((-1) * v_iv (n_v (vs ++ [Value.int x]) 4) + ((-446355) * v_iv (n_v (vs ++ [Value.int x]) 9) + (446355 * v_iv (n_v (vs ++ [Value.int x]) 7) + 0))) ≤ (-445597)
      simp only [e_4, e_7, e_9, e_21]
      exact vc_Ho_writeGroup_at_k1_16_1 (v_iv (n_v vs 4)) (v_iv (n_v vs 7)) (v_iv (n_v vs 9)) (v_iv (n_v vs 12)) (v_iv (n_v vs 19)) (w_fi ws (n_v vs 0) 12) (v_iv (Value.int x)) k4 k7 k9 k12 k19 d0 f0 f3 kz_0_12 ex2
  exact ⟨(fun _ h => (by cases h)), [Value.int x], ag_one hx, List.forall_mem_cons.mpr ⟨⟨show (20 : Nat) < 100 from by decide, nf0⟩, List.forall_mem_cons.mpr ⟨⟨show (23 : Nat) < 100 from by decide, nf1⟩, (fun _ h => (by cases h))⟩⟩, (fun _ h => (by cases h))⟩
set_option maxHeartbeats 4000000 in
theorem vc_Ho_writeGroup_at_k1_17_0 (spareLength_0 : Int) (gx : Int) (kz_0_12 : 0 ≤ spareLength_0 ∧ spareLength_0 ≤ 100000000) (ex2 : gx = spareLength_0) : 1 * spareLength_0 + ((-1) * gx + 0) ≤ 0 := by
  first | assumption | omega | grind
set_option maxHeartbeats 4000000 in
theorem vc_Ho_writeGroup_at_k1_17_1 (x4 : Int) (x7 : Int) (x9 : Int) (x12 : Int) (x21 : Int) (spareLength_0 : Int) (gx : Int) (k4 : 0 ≤ x4 ∧ x4 ≤ 96428416) (k7 : 1 ≤ x7 ∧ x7 ≤ 6) (k9 : 2 ≤ x9 ∧ x9 ≤ 7) (k12 : 1 ≤ x12 ∧ x12 ≤ 6) (k21 : 0 ≤ x21 ∧ x21 ≤ 99999997) (d0 : x7 + 0 ≤ x12 ∧ x12 ≤ x7 + 0) (f0 : 1 * x21 + ((-1) * x4 + ((-446355) * x9 + (446355 * x7 + 0))) ≤ (-445597)) (f4 : 1 * spareLength_0 + ((-1) * x21 + 0) ≤ 3) (kz_0_12 : 0 ≤ spareLength_0 ∧ spareLength_0 ≤ 100000000) (ex2 : gx = spareLength_0) : 1 * gx + ((-1) * x4 + ((-446355) * x9 + (446355 * x7 + 0))) ≤ (-445594) := by
  first | assumption | omega | grind
def o_Ho_writeGroup_at_k1_17 : or_T := (163, 24, [(0, (2, 0, 0, [12])), (4, (0, 0, 96428416, [])), (5, (2, 0, 0, [12])), (7, (0, 1, 6, [])), (9, (0, 2, 7, [])), (10, (0, 3, 8, [])), (12, (0, 1, 6, [])), (15, (0, 0, 99999994, [])), (19, (0, 0, 99999992, [])), (21, (0, 0, 99999997, []))], [(23, [21, 4, 9, 7], [-445597, 1, -1, -446355, 446355]), (23, [19, 4, 9, 7], [-445605, 1, -1, -446355, 446355]), (23, [15, 4, 9, 7], [-445611, 1, -1, -446355, 446355]), (24, [0, 5], []), (20, [5, 21], [30, 3, 1, 1, 12, -1, 0, 0]), (102, [21], [261336857795280739939871698507597986398208, 12012]), (23, [21, 4, 9, 7], [-445597, 1, -1, -446355, 446355]), (23, [19, 4, 9, 7], [-445605, 1, -1, -446355, 446355]), (23, [15, 4, 9, 7], [-445611, 1, -1, -446355, 446355]), (102, [19], [261336857795280739939871698507597986398208, 12012]), (23, [19, 4, 9, 7], [-445605, 1, -1, -446355, 446355]), (23, [15, 4, 9, 7], [-445611, 1, -1, -446355, 446355]), (102, [15], [261336857795280739939871698507597986398208, 12012]), (23, [15, 4, 9, 7], [-445611, 1, -1, -446355, 446355]), (7, [12, 7], [0]), (7, [9, 10], [2])], [], [(0, 0, 99553664, [])], [(20, [5, 24], [30, 0, 1, 1, 12, -1, 0, 0]), (23, [24, 4, 9, 7], [-445594, 1, -1, -446355, 446355])], [], [(12, 7, 0, 0), (9, 10, -4294967296, -1), (7, 9, -4294967296, -1)])
theorem oo_Ho_writeGroup_at_k1_17 {kA : Nat → ClassId} : or_ok PRD kA GG o_Ho_writeGroup_at_k1_17 := by
  refine or_mk fun A ta ws vs hD hth hl => ?_
  intro t0 r0 t4 k4 t5 r5 t7 k7 t9 k9 t10 k10 t12 k12 t15 k15 t19 k19 t21 k21 d0 d1 d2 f0 f1 f2 f3 f4 ta1 w1 le1 s1 f6 f7 f8 ta2 w2 le2 s2 f10 f11 ta3 w3 le3 s3 f13 f14 f15
  replace f0 := shm_242 f0
  replace f1 := shm_241 f1
  replace f2 := shm_240 f2
  replace f3 := shm_5 f3
  replace f4 := shm_206 f4
  replace f6 := shm_242 f6
  replace f7 := shm_241 f7
  replace f8 := shm_240 f8
  replace f10 := shm_241 f10
  replace f11 := shm_240 f11
  replace f13 := shm_240 f13
  replace f14 := shm_37 f14
  replace f15 := shm_6 f15
  have q5 : n_v vs 5 = n_v vs 0 := f3.symm
  simp only [q5] at f4
  have kz_0_12 := fdq_0 hD hth r0
  have kv0 := fdq_0 hD hth r0
  obtain ⟨x, ex, hx⟩ := iv_ex (ta := ta) (lo := 0) (hi := 99553664) (z := w_fi ws (n_v vs 0) 12) (by omega) (by omega) (by omega) (by omega)
  have ex2 : v_iv (Value.int x) = w_fi ws (n_v vs 0) 12 := ex
  have ex3 : 0 ≤ v_iv (Value.int x) ∧ v_iv (Value.int x) ≤ 99553664 := tv_rng hx
  have e_4 : n_v (vs ++ [Value.int x]) 4 = n_v vs 4 := n_v_old (by rw [hl]; decide)
  have e_5 : n_v (vs ++ [Value.int x]) 5 = n_v vs 5 := n_v_old (by rw [hl]; decide)
  have e_7 : n_v (vs ++ [Value.int x]) 7 = n_v vs 7 := n_v_old (by rw [hl]; decide)
  have e_9 : n_v (vs ++ [Value.int x]) 9 = n_v vs 9 := n_v_old (by rw [hl]; decide)
  have e_24 : n_v (vs ++ [Value.int x]) 24 = Value.int x := n_v_new hl
  have nf0 : fc_1 PRD (20, [5, 24], [30, 0, 1, 1, 12, -1, 0, 0]) ws (vs ++ [Value.int x]) := by
    refine ⟨nf_inA hl rfl, sgq_104 ?_⟩
    · show 1 * w_fi ws (n_v (vs ++ [Value.int x]) 5) 12 + ((-1) * v_iv (n_v (vs ++ [Value.int x]) 24) + 0) ≤ 0
      simp only [e_5, e_24, q5]
      exact vc_Ho_writeGroup_at_k1_17_0 (w_fi ws (n_v vs 0) 12) (v_iv (Value.int x)) kz_0_12 ex2
  have nf1 : fc_1 PRD (23, [24, 4, 9, 7], [-445594, 1, -1, -446355, 446355]) ws (vs ++ [Value.int x]) := by
    refine ⟨nf_inA hl rfl, sgq_243 ?_⟩
    · show 1 * v_iv (n_v (vs ++ [Value.int x]) 24) + ((-1) * v_iv (n_v (vs ++ [Value.int x]) 4) + ((-446355) * v_iv (n_v (vs ++ [Value.int x]) 9) + (446355 * v_iv (n_v (vs ++ [Value.int x]) 7) + 0))) ≤ (-445594)
      simp only [e_4, e_7, e_9, e_24]
      exact vc_Ho_writeGroup_at_k1_17_1 (v_iv (n_v vs 4)) (v_iv (n_v vs 7)) (v_iv (n_v vs 9)) (v_iv (n_v vs 12)) (v_iv (n_v vs 21)) (w_fi ws (n_v vs 0) 12) (v_iv (Value.int x)) k4 k7 k9 k12 k21 d0 f0 f4 kz_0_12 ex2
  exact ⟨(fun _ h => (by cases h)), [Value.int x], ag_one hx, List.forall_mem_cons.mpr ⟨⟨show (20 : Nat) < 100 from by decide, nf0⟩, List.forall_mem_cons.mpr ⟨⟨show (23 : Nat) < 100 from by decide, nf1⟩, (fun _ h => (by cases h))⟩⟩, (fun _ h => (by cases h))⟩
set_option maxHeartbeats 4000000 in
theorem vc_Ho_writeGroup_at_k1_18_0 (spareLength_0 : Int) (gx : Int) (kz_0_12 : 0 ≤ spareLength_0 ∧ spareLength_0 ≤ 100000000) (ex2 : gx = spareLength_0) : 1 * spareLength_0 + ((-1) * gx + 0) ≤ 0 := by
  first | assumption | omega | grind
set_option maxHeartbeats 4000000 in
theorem vc_Ho_writeGroup_at_k1_18_1 (x4 : Int) (x7 : Int) (x9 : Int) (x12 : Int) (x24 : Int) (spareLength_0 : Int) (gx : Int) (k4 : 0 ≤ x4 ∧ x4 ≤ 96428416) (k7 : 1 ≤ x7 ∧ x7 ≤ 6) (k9 : 2 ≤ x9 ∧ x9 ≤ 7) (k12 : 1 ≤ x12 ∧ x12 ≤ 6) (k24 : 0 ≤ x24 ∧ x24 ≤ 99553664) (d0 : x7 + 0 ≤ x12 ∧ x12 ≤ x7 + 0) (f0 : 1 * x24 + ((-1) * x4 + ((-446355) * x9 + (446355 * x7 + 0))) ≤ (-445594)) (f5 : 1 * spareLength_0 + ((-1) * x24 + 0) ≤ 446336) (kz_0_12 : 0 ≤ spareLength_0 ∧ spareLength_0 ≤ 100000000) (ex2 : gx = spareLength_0) : 1 * gx + ((-1) * x4 + ((-446355) * x9 + (446355 * x7 + 0))) ≤ 742 := by
  first | assumption | omega | grind
def o_Ho_writeGroup_at_k1_18 : or_T := (170, 26, [(0, (2, 0, 0, [12])), (4, (0, 0, 96428416, [])), (5, (2, 0, 0, [12])), (7, (0, 1, 6, [])), (9, (0, 2, 7, [])), (10, (0, 3, 8, [])), (12, (0, 1, 6, [])), (15, (0, 0, 99999994, [])), (19, (0, 0, 99999992, [])), (21, (0, 0, 99999997, [])), (24, (0, 0, 99553664, []))], [(23, [24, 4, 9, 7], [-445594, 1, -1, -446355, 446355]), (23, [21, 4, 9, 7], [-445597, 1, -1, -446355, 446355]), (23, [19, 4, 9, 7], [-445605, 1, -1, -446355, 446355]), (23, [15, 4, 9, 7], [-445611, 1, -1, -446355, 446355]), (24, [0, 5], []), (20, [5, 24], [30, 446336, 1, 1, 12, -1, 0, 0]), (102, [24], [261336857795280739939871698507597986398208, 12012]), (23, [24, 4, 9, 7], [-445594, 1, -1, -446355, 446355]), (23, [21, 4, 9, 7], [-445597, 1, -1, -446355, 446355]), (23, [19, 4, 9, 7], [-445605, 1, -1, -446355, 446355]), (23, [15, 4, 9, 7], [-445611, 1, -1, -446355, 446355]), (102, [21], [261336857795280739939871698507597986398208, 12012]), (23, [21, 4, 9, 7], [-445597, 1, -1, -446355, 446355]), (23, [19, 4, 9, 7], [-445605, 1, -1, -446355, 446355]), (23, [15, 4, 9, 7], [-445611, 1, -1, -446355, 446355]), (102, [19], [261336857795280739939871698507597986398208, 12012]), (23, [19, 4, 9, 7], [-445605, 1, -1, -446355, 446355]), (23, [15, 4, 9, 7], [-445611, 1, -1, -446355, 446355]), (102, [15], [261336857795280739939871698507597986398208, 12012]), (23, [15, 4, 9, 7], [-445611, 1, -1, -446355, 446355]), (7, [12, 7], [0]), (7, [9, 10], [2])], [], [(0, 0, 99999998, [])], [(20, [5, 26], [30, 0, 1, 1, 12, -1, 0, 0]), (23, [26, 4, 9, 7], [742, 1, -1, -446355, 446355])], [], [(12, 7, 0, 0), (9, 10, -4294967296, -1), (7, 9, -4294967296, -1)])
theorem oo_Ho_writeGroup_at_k1_18 {kA : Nat → ClassId} : or_ok PRD kA GG o_Ho_writeGroup_at_k1_18 := by
  refine or_mk fun A ta ws vs hD hth hl => ?_
  intro t0 r0 t4 k4 t5 r5 t7 k7 t9 k9 t10 k10 t12 k12 t15 k15 t19 k19 t21 k21 t24 k24 d0 d1 d2 f0 f1 f2 f3 f4 f5 ta1 w1 le1 s1 f7 f8 f9 f10 ta2 w2 le2 s2 f12 f13 f14 ta3 w3 le3 s3 f16 f17 ta4 w4 le4 s4 f19 f20 f21
  replace f0 := shm_243 f0
  replace f1 := shm_242 f1
  replace f2 := shm_241 f2
  replace f3 := shm_240 f3
  replace f4 := shm_5 f4
  replace f5 := shm_244 f5
  replace f7 := shm_243 f7
  replace f8 := shm_242 f8
  replace f9 := shm_241 f9
  replace f10 := shm_240 f10
  replace f12 := shm_242 f12
  replace f13 := shm_241 f13
  replace f14 := shm_240 f14
  replace f16 := shm_241 f16
  replace f17 := shm_240 f17
  replace f19 := shm_240 f19
  replace f20 := shm_37 f20
  replace f21 := shm_6 f21
  have q5 : n_v vs 5 = n_v vs 0 := f4.symm
  simp only [q5] at f5
  have kz_0_12 := fdq_0 hD hth r0
  have kv0 := fdq_0 hD hth r0
  obtain ⟨x, ex, hx⟩ := iv_ex (ta := ta) (lo := 0) (hi := 99999998) (z := w_fi ws (n_v vs 0) 12) (by omega) (by omega) (by omega) (by omega)
  have ex2 : v_iv (Value.int x) = w_fi ws (n_v vs 0) 12 := ex
  have ex3 : 0 ≤ v_iv (Value.int x) ∧ v_iv (Value.int x) ≤ 99999998 := tv_rng hx
  have e_4 : n_v (vs ++ [Value.int x]) 4 = n_v vs 4 := n_v_old (by rw [hl]; decide)
  have e_5 : n_v (vs ++ [Value.int x]) 5 = n_v vs 5 := n_v_old (by rw [hl]; decide)
  have e_7 : n_v (vs ++ [Value.int x]) 7 = n_v vs 7 := n_v_old (by rw [hl]; decide)
  have e_9 : n_v (vs ++ [Value.int x]) 9 = n_v vs 9 := n_v_old (by rw [hl]; decide)
  have e_26 : n_v (vs ++ [Value.int x]) 26 = Value.int x := n_v_new hl
  have nf0 : fc_1 PRD (20, [5, 26], [30, 0, 1, 1, 12, -1, 0, 0]) ws (vs ++ [Value.int x]) := by
    refine ⟨nf_inA hl rfl, sgq_104 ?_⟩
    · show 1 * w_fi ws (n_v (vs ++ [Value.int x]) 5) 12 + ((-1) * v_iv (n_v (vs ++ [Value.int x]) 26) + 0) ≤ 0
      simp only [e_5, e_26, q5]
      exact vc_Ho_writeGroup_at_k1_18_0 (w_fi ws (n_v vs 0) 12) (v_iv (Value.int x)) kz_0_12 ex2
  have nf1 : fc_1 PRD (23, [26, 4, 9, 7], [742, 1, -1, -446355, 446355]) ws (vs ++ [Value.int x]) := by
    refine ⟨nf_inA hl rfl, sgq_245 ?_⟩
    · show 1 * v_iv (n_v (vs ++ [Value.int x]) 26) + ((-1) * v_iv (n_v (vs ++ [Value.int x]) 4) + ((-446355) * v_iv (n_v (vs ++ [Value.int x]) 9) + (446355 * v_iv (n_v (vs ++ [Value.int x]) 7) + 0))) ≤ 742
      simp only [e_4, e_7, e_9, e_26]
      exact vc_Ho_writeGroup_at_k1_18_1 (v_iv (n_v vs 4)) (v_iv (n_v vs 7)) (v_iv (n_v vs 9)) (v_iv (n_v vs 12)) (v_iv (n_v vs 24)) (w_fi ws (n_v vs 0) 12) (v_iv (Value.int x)) k4 k7 k9 k12 k24 d0 f0 f5 kz_0_12 ex2
  exact ⟨(fun _ h => (by cases h)), [Value.int x], ag_one hx, List.forall_mem_cons.mpr ⟨⟨show (20 : Nat) < 100 from by decide, nf0⟩, List.forall_mem_cons.mpr ⟨⟨show (23 : Nat) < 100 from by decide, nf1⟩, (fun _ h => (by cases h))⟩⟩, (fun _ h => (by cases h))⟩
set_option maxHeartbeats 4000000 in
theorem vc_Ho_writeGroup_at_k1_19_0 (x4 : Int) (x7 : Int) (x9 : Int) (x12 : Int) (x26 : Int) (x27 : Int) (spareLength_0 : Int) (k4 : 0 ≤ x4 ∧ x4 ≤ 96428416) (k7 : 1 ≤ x7 ∧ x7 ≤ 6) (k9 : 2 ≤ x9 ∧ x9 ≤ 7) (k12 : 1 ≤ x12 ∧ x12 ≤ 6) (k26 : 0 ≤ x26 ∧ x26 ≤ 99999998) (k27 : 3 ≤ x27 ∧ x27 ≤ 8) (d0 : x9 + 1 ≤ x27 ∧ x27 ≤ x9 + 1) (d2 : x7 + 0 ≤ x12 ∧ x12 ≤ x7 + 0) (f1 : 1 * x26 + ((-1) * x4 + ((-446355) * x9 + (446355 * x7 + 0))) ≤ 742) (f7 : 1 * spareLength_0 + ((-1) * x26 + 0) ≤ 2) (kz_0_12 : 0 ≤ spareLength_0 ∧ spareLength_0 ≤ 100000000) : 1 * spareLength_0 + ((-1) * x4 + ((-446355) * x27 + (446355 * x7 + 0))) ≤ (-445611) := by
  first | assumption | omega | grind
def o_Ho_writeGroup_at_k1_19 : or_T := (100, 28, [(0, (2, 0, 0, [12])), (4, (0, 0, 96428416, [])), (7, (0, 1, 6, [])), (9, (0, 2, 7, [])), (12, (0, 1, 6, [])), (26, (0, 0, 99999998, [])), (27, (0, 3, 8, []))], [(23, [26, 4, 9, 7], [742, 1, -1, -446355, 446355]), (24, [0, 5], []), (20, [5, 26], [30, 2, 1, 1, 12, -1, 0, 0])], [], [], [(20, [5, 4, 27, 7], [30, -445611, 1, 1, 12, -1, 0, 0, -446355, 0, 0, 446355, 0, 0])], [], [(27, 9, 1, 1), (12, 7, 0, 0)])
theorem oo_Ho_writeGroup_at_k1_19 {kA : Nat → ClassId} : or_ok PRD kA GG o_Ho_writeGroup_at_k1_19 := by
  refine or_mk fun A ta ws vs hD hth hl => ?_
  intro t0 r0 t4 k4 t7 k7 t9 k9 t12 k12 t26 k26 t27 k27 d0 d2 f1 f6 f7
  replace f1 := shm_245 f1
  replace f6 := shm_5 f6
  replace f7 := shm_204 f7
  have q5 : n_v vs 5 = n_v vs 0 := f6.symm
  simp only [q5] at f7
  have kz_0_12 := fdq_0 hD hth r0
  have nf0 : fc_1 PRD (20, [5, 4, 27, 7], [30, -445611, 1, 1, 12, -1, 0, 0, -446355, 0, 0, 446355, 0, 0]) ws (vs) := by
    refine ⟨nf_in hl rfl, sgq_239 ?_⟩
    · show 1 * w_fi ws (n_v vs 5) 12 + ((-1) * v_iv (n_v vs 4) + ((-446355) * v_iv (n_v vs 27) + (446355 * v_iv (n_v vs 7) + 0))) ≤ (-445611)
      rw [q5]
      exact vc_Ho_writeGroup_at_k1_19_0 (v_iv (n_v vs 4)) (v_iv (n_v vs 7)) (v_iv (n_v vs 9)) (v_iv (n_v vs 12)) (v_iv (n_v vs 26)) (v_iv (n_v vs 27)) (w_fi ws (n_v vs 0) 12) k4 k7 k9 k12 k26 k27 d0 d2 f1 f7 kz_0_12
  refine ⟨(fun _ h => (by cases h)), [], trivial, ?_, (fun _ h => (by cases h))⟩
  rw [List.append_nil]
  exact List.forall_mem_cons.mpr ⟨⟨show (20 : Nat) < 100 from by decide, nf0⟩, (fun _ h => (by cases h))⟩
def n_Ho_writeGroup_at_k1_an : List an_T := [(3, [(0, (2, 0, 0, [12])), (1, (2, 0, 0, [3])), (2, (0, 1, 7, [])), (3, (0, 1, 1, [])), (4, (0, 0, 24, []))], [], (0, 0), [(0, 0, 99997), (1, 9, 24), (0, 0, 100000)], [(2, 7, (Int.negSucc 999999999999), 0), (7, 2, (Int.negSucc 999999999999), 0)], [], [(2, 0, 0, [12]), (2, 0, 0, [3]), (0, 1, 7, []), (0, 1, 1, []), (0, 0, 96428416, [])], 0, [], [(20, [5, 4, 9], [30, 0, 1, 1, 12, (Int.negSucc 0), 0, 0, (Int.negSucc 30), 0, 0]), (24, [0, 5], [])]), (100, [(0, (2, 0, 0, [12])), (1, (2, 0, 0, [3])), (2, (0, 1, 7, [])), (3, (0, 1, 1, [])), (4, (0, 2, 8, []))], [], (0, 0), [(0, 0, 99900), (1, 9, 8), (0, 0, 100000)], [(2, 7, (Int.negSucc 999999999999), 0), (2, 9, (Int.negSucc 999999999999), (Int.negSucc 0)), (7, 2, (Int.negSucc 999999999999), 0), (7, 9, (Int.negSucc 999999999999), (Int.negSucc 0))], [], [(2, 0, 0, [12]), (2, 0, 0, [3]), (0, 1, 7, []), (0, 1, 1, []), (0, 0, 96428416, [])], 0, [], [(20, [5, 4, 9, 7], [30, (Int.negSucc 445610), 1, 1, 12, (Int.negSucc 0), 0, 0, (Int.negSucc 446354), 0, 0, 446355, 0, 0]), (24, [0, 5], [])])]
def t_Ho_writeGroup_at_k1_ct : ct_L := [(1, 447, e_Ho_writeByte), (1, 471, e_Ho_writeNumber), (85, 461, e_Ho_writeWord_at_s5013), (136, 465, e_Ho_writeName_at_Grname), (190, 461, e_Ho_writeWord_at_s5014), (262, 461, e_Ho_writeWord_at_s5015), (391, 461, e_Ho_writeWord_at_s5016), (442, 465, e_Ho_writeName_at_GrgroupName), (463, 461, e_Ho_writeWord_at_s5017), (493, 364, e_Ho_writeGroup_at_k2), (514, 461, e_Ho_writeWord_at_s5018), (1000001, 459, en_ro [] (2, 0, 0, [5013])), (1000001, 469, en_ro [] (2, 0, 0, [5014])), (1000001, 474, en_ro [] (2, 0, 0, [5015])), (1000001, 476, en_ro [] (2, 0, 0, [5016])), (1000001, 478, en_ro [] (2, 0, 0, [5017])), (1000001, 480, en_ro [] (2, 0, 0, [5018]))]
set_option maxRecDepth 100000 in
theorem c_Ho_writeGroup_at_k1 {l : Launch} {D : va_G} {kA : Nat → ClassId} (h_Ho_writeByte : ct_ok PRD l D kA GG y_Ho_writeByte z_Ho_writeByte e_Ho_writeByte) (h_Ho_writeGroup_at_k2 : ct_ok PRD l D kA GG y_Ho_writeGroup_at_k2 z_Ho_writeGroup_at_k2 e_Ho_writeGroup_at_k2) (h_Ho_writeName_at_GrgroupName : ct_ok PRD l D kA GG y_Ho_writeName_at_GrgroupName z_Ho_writeName_at_GrgroupName e_Ho_writeName_at_GrgroupName) (h_Ho_writeName_at_Grname : ct_ok PRD l D kA GG y_Ho_writeName_at_Grname z_Ho_writeName_at_Grname e_Ho_writeName_at_Grname) (h_Ho_writeNumber : ct_ok PRD l D kA GG y_Ho_writeNumber z_Ho_writeNumber e_Ho_writeNumber) (h_Ho_writeWord_at_s5013 : ct_ok PRD l D kA GG y_Ho_writeWord_at_s5013 z_Ho_writeWord_at_s5013 e_Ho_writeWord_at_s5013) (h_Ho_writeWord_at_s5014 : ct_ok PRD l D kA GG y_Ho_writeWord_at_s5014 z_Ho_writeWord_at_s5014 e_Ho_writeWord_at_s5014) (h_Ho_writeWord_at_s5015 : ct_ok PRD l D kA GG y_Ho_writeWord_at_s5015 z_Ho_writeWord_at_s5015 e_Ho_writeWord_at_s5015) (h_Ho_writeWord_at_s5016 : ct_ok PRD l D kA GG y_Ho_writeWord_at_s5016 z_Ho_writeWord_at_s5016 e_Ho_writeWord_at_s5016) (h_Ho_writeWord_at_s5017 : ct_ok PRD l D kA GG y_Ho_writeWord_at_s5017 z_Ho_writeWord_at_s5017 e_Ho_writeWord_at_s5017) (h_Ho_writeWord_at_s5018 : ct_ok PRD l D kA GG y_Ho_writeWord_at_s5018 z_Ho_writeWord_at_s5018 e_Ho_writeWord_at_s5018) : ct_ok PRD l D kA GG y_Ho_writeGroup_at_k1 z_Ho_writeGroup_at_k1 e_Ho_writeGroup_at_k1 := chk_all_ok (FT := [(132, 3, 0), (144, 3, 2), (169, 3, 4), (172, 3, 5), (175, 3, 6), (221, 3, 11), (224, 3, 13), (230, 3, 3), (233, 3, 12)]) (PT := []) (CT := t_Ho_writeGroup_at_k1_ct) (KT := []) (NT := []) (AN := n_Ho_writeGroup_at_k1_an) (OT := [o_Ho_writeGroup_at_k1_0, o_Ho_writeGroup_at_k1_1, o_Ho_writeGroup_at_k1_2, o_Ho_writeGroup_at_k1_3, o_Ho_writeGroup_at_k1_4, o_Ho_writeGroup_at_k1_5, o_Ho_writeGroup_at_k1_6, o_Ho_writeGroup_at_k1_7, o_Ho_writeGroup_at_k1_8, o_Ho_writeGroup_at_k1_9, o_Ho_writeGroup_at_k1_10, o_Ho_writeGroup_at_k1_11, o_Ho_writeGroup_at_k1_12, o_Ho_writeGroup_at_k1_13, o_Ho_writeGroup_at_k1_14, o_Ho_writeGroup_at_k1_15, o_Ho_writeGroup_at_k1_16, o_Ho_writeGroup_at_k1_17, o_Ho_writeGroup_at_k1_18, o_Ho_writeGroup_at_k1_19]) 3 404 (List.forall_mem_cons.mpr ⟨oo_Ho_writeGroup_at_k1_0, List.forall_mem_cons.mpr ⟨oo_Ho_writeGroup_at_k1_1, List.forall_mem_cons.mpr ⟨oo_Ho_writeGroup_at_k1_2, List.forall_mem_cons.mpr ⟨oo_Ho_writeGroup_at_k1_3, List.forall_mem_cons.mpr ⟨oo_Ho_writeGroup_at_k1_4, List.forall_mem_cons.mpr ⟨oo_Ho_writeGroup_at_k1_5, List.forall_mem_cons.mpr ⟨oo_Ho_writeGroup_at_k1_6, List.forall_mem_cons.mpr ⟨oo_Ho_writeGroup_at_k1_7, List.forall_mem_cons.mpr ⟨oo_Ho_writeGroup_at_k1_8, List.forall_mem_cons.mpr ⟨oo_Ho_writeGroup_at_k1_9, List.forall_mem_cons.mpr ⟨oo_Ho_writeGroup_at_k1_10, List.forall_mem_cons.mpr ⟨oo_Ho_writeGroup_at_k1_11, List.forall_mem_cons.mpr ⟨oo_Ho_writeGroup_at_k1_12, List.forall_mem_cons.mpr ⟨oo_Ho_writeGroup_at_k1_13, List.forall_mem_cons.mpr ⟨oo_Ho_writeGroup_at_k1_14, List.forall_mem_cons.mpr ⟨oo_Ho_writeGroup_at_k1_15, List.forall_mem_cons.mpr ⟨oo_Ho_writeGroup_at_k1_16, List.forall_mem_cons.mpr ⟨oo_Ho_writeGroup_at_k1_17, List.forall_mem_cons.mpr ⟨oo_Ho_writeGroup_at_k1_18, List.forall_mem_cons.mpr ⟨oo_Ho_writeGroup_at_k1_19, List.forall_mem_nil _⟩⟩⟩⟩⟩⟩⟩⟩⟩⟩⟩⟩⟩⟩⟩⟩⟩⟩⟩⟩) (by decide +kernel) ⟨List.forall_mem_cons.mpr ⟨gf_Ho_132, List.forall_mem_cons.mpr ⟨gf_Ho_144, List.forall_mem_cons.mpr ⟨gf_Ho_169, List.forall_mem_cons.mpr ⟨gf_Ho_172, List.forall_mem_cons.mpr ⟨gf_Ho_175, List.forall_mem_cons.mpr ⟨gf_Ho_221, List.forall_mem_cons.mpr ⟨gf_Ho_224, List.forall_mem_cons.mpr ⟨gf_Ho_230, List.forall_mem_cons.mpr ⟨gf_Ho_233, List.forall_mem_nil _⟩⟩⟩⟩⟩⟩⟩⟩⟩, List.forall_mem_nil _, List.forall_mem_cons.mpr ⟨cl_virtual (y := y_Ho_writeByte) (ci := 12) rfl rfl ⟨_, _, rfl⟩ (by decide +kernel) h_Ho_writeByte wm_2345 wm_1 wm_2342 wm_2344 wv_12_0 ⟨by decide, by decide, by decide +kernel⟩ (by decide), List.forall_mem_cons.mpr ⟨cl_virtual (y := y_Ho_writeNumber) (ci := 12) rfl rfl ⟨_, _, rfl⟩ (by decide +kernel) h_Ho_writeNumber wm_2354 wm_1 wm_2351 wm_2353 wv_12_2 ⟨by decide, by decide, by decide +kernel⟩ (by decide), List.forall_mem_cons.mpr ⟨cl_virtual (y := y_Ho_writeWord_at_s5013) (ci := 12) rfl rfl ⟨_, _, rfl⟩ (by decide +kernel) h_Ho_writeWord_at_s5013 wm_2339 wm_1 wm_2336 wm_2338 wv_11_15 ⟨by decide, by decide, by decide +kernel⟩ (by decide), List.forall_mem_cons.mpr ⟨cl_virtual (y := y_Ho_writeName_at_Grname) (ci := 12) rfl rfl ⟨_, _, rfl⟩ (by decide +kernel) h_Ho_writeName_at_Grname wm_2349 wm_1 wm_2346 wm_2348 wv_12_1 ⟨by decide, by decide, by decide +kernel⟩ (by decide), List.forall_mem_cons.mpr ⟨cl_virtual (y := y_Ho_writeWord_at_s5014) (ci := 12) rfl rfl ⟨_, _, rfl⟩ (by decide +kernel) h_Ho_writeWord_at_s5014 wm_2339 wm_1 wm_2336 wm_2338 wv_11_15 ⟨by decide, by decide, by decide +kernel⟩ (by decide), List.forall_mem_cons.mpr ⟨cl_virtual (y := y_Ho_writeWord_at_s5015) (ci := 12) rfl rfl ⟨_, _, rfl⟩ (by decide +kernel) h_Ho_writeWord_at_s5015 wm_2339 wm_1 wm_2336 wm_2338 wv_11_15 ⟨by decide, by decide, by decide +kernel⟩ (by decide), List.forall_mem_cons.mpr ⟨cl_virtual (y := y_Ho_writeWord_at_s5016) (ci := 12) rfl rfl ⟨_, _, rfl⟩ (by decide +kernel) h_Ho_writeWord_at_s5016 wm_2339 wm_1 wm_2336 wm_2338 wv_11_15 ⟨by decide, by decide, by decide +kernel⟩ (by decide), List.forall_mem_cons.mpr ⟨cl_virtual (y := y_Ho_writeName_at_GrgroupName) (ci := 12) rfl rfl ⟨_, _, rfl⟩ (by decide +kernel) h_Ho_writeName_at_GrgroupName wm_2349 wm_1 wm_2346 wm_2348 wv_12_1 ⟨by decide, by decide, by decide +kernel⟩ (by decide), List.forall_mem_cons.mpr ⟨cl_virtual (y := y_Ho_writeWord_at_s5017) (ci := 12) rfl rfl ⟨_, _, rfl⟩ (by decide +kernel) h_Ho_writeWord_at_s5017 wm_2339 wm_1 wm_2336 wm_2338 wv_11_15 ⟨by decide, by decide, by decide +kernel⟩ (by decide), List.forall_mem_cons.mpr ⟨cl_virtual (y := y_Ho_writeGroup_at_k2) (ci := 12) rfl rfl ⟨_, _, rfl⟩ (by decide +kernel) h_Ho_writeGroup_at_k2 wm_2334 wm_1 wm_2331 wm_2333 wv_11_14 ⟨by decide, by decide, by decide +kernel⟩ (by decide), List.forall_mem_cons.mpr ⟨cl_virtual (y := y_Ho_writeWord_at_s5018) (ci := 12) rfl rfl ⟨_, _, rfl⟩ (by decide +kernel) h_Ho_writeWord_at_s5018 wm_2339 wm_1 wm_2336 wm_2338 wv_11_15 ⟨by decide, by decide, by decide +kernel⟩ (by decide), List.forall_mem_cons.mpr ⟨cl_ldcw (own := "DrawingHouse") (idx := 459) (i := 13) (tx := "node ") (by decide +kernel) (by decide +kernel) (by decide +kernel), List.forall_mem_cons.mpr ⟨cl_ldcw (own := "DrawingHouse") (idx := 469) (i := 14) (tx := " [size=") (by decide +kernel) (by decide +kernel) (by decide +kernel), List.forall_mem_cons.mpr ⟨cl_ldcw (own := "DrawingHouse") (idx := 474) (i := 15) (tx := ";\n") (by decide +kernel) (by decide +kernel) (by decide +kernel), List.forall_mem_cons.mpr ⟨cl_ldcw (own := "DrawingHouse") (idx := 476) (i := 16) (tx := "group ") (by decide +kernel) (by decide +kernel) (by decide +kernel), List.forall_mem_cons.mpr ⟨cl_ldcw (own := "DrawingHouse") (idx := 478) (i := 17) (tx := " {\n") (by decide +kernel) (by decide +kernel) (by decide +kernel), List.forall_mem_cons.mpr ⟨cl_ldcw (own := "DrawingHouse") (idx := 480) (i := 18) (tx := "}\n") (by decide +kernel) (by decide +kernel) (by decide +kernel), List.forall_mem_nil _⟩⟩⟩⟩⟩⟩⟩⟩⟩⟩⟩⟩⟩⟩⟩⟩⟩, List.forall_mem_nil _, List.forall_mem_nil _, GG_pl⟩ (by decide +kernel)
set_option maxHeartbeats 4000000 in
theorem vc_Ho_writeGroup_at_k2_0_0 (x4 : Int) (x5 : Int) (spareLength_0 : Int) (k4 : 0 ≤ x4 ∧ x4 ≤ 99553664) (k5 : 0 ≤ x5 ∧ x5 ≤ 0) (f0 : 1 * spareLength_0 + ((-1) * x4 + 0) ≤ 0) (kz_0_12 : 0 ≤ spareLength_0 ∧ spareLength_0 ≤ 100000000) : 1 * spareLength_0 + ((-1) * x4 + ((-31) * x5 + 0)) ≤ 0 := by
  first | assumption | omega | grind
def o_Ho_writeGroup_at_k2_0 : or_T := (3, 6, [(0, (2, 0, 0, [12])), (4, (0, 0, 99553664, [])), (5, (0, 0, 0, []))], [(20, [0, 4], [30, 0, 1, 1, 12, -1, 0, 0])], [], [], [(20, [0, 4, 5], [30, 0, 1, 1, 12, -1, 0, 0, -31, 0, 0]), (24, [0, 0], [])], [], [])
theorem oo_Ho_writeGroup_at_k2_0 {kA : Nat → ClassId} : or_ok PRD kA GG o_Ho_writeGroup_at_k2_0 := by
  refine or_mk fun A ta ws vs hD hth hl => ?_
  intro t0 r0 t4 k4 t5 k5 f0
  have kz_0_12 := fdq_0 hD hth r0
  have nf0 : fc_1 PRD (20, [0, 4, 5], [30, 0, 1, 1, 12, -1, 0, 0, -31, 0, 0]) ws (vs) := ⟨nf_in hl rfl, sgq_224 (vc_Ho_writeGroup_at_k2_0_0 (v_iv (n_v vs 4)) (v_iv (n_v vs 5)) (w_fi ws (n_v vs 0) 12) k4 k5 (shm_104 f0) kz_0_12)⟩
  have nf1 : fc_1 PRD (24, [0, 0], []) ws (vs) := by
    refine ⟨nf_in hl rfl, sgq_1 ?_⟩
    · show n_v vs 0 = n_v vs 0
      first | rfl | simp only [true_and]
  refine ⟨(fun _ h => (by cases h)), [], trivial, ?_, (fun _ h => (by cases h))⟩
  rw [List.append_nil]
  exact List.forall_mem_cons.mpr ⟨⟨show (20 : Nat) < 100 from by decide, nf0⟩, List.forall_mem_cons.mpr ⟨⟨show (24 : Nat) < 100 from by decide, nf1⟩, (fun _ h => (by cases h))⟩⟩
set_option maxHeartbeats 4000000 in
theorem vc_Ho_writeGroup_at_k2_1_0 (x4 : Int) (x7 : Int) (x9 : Int) (x12 : Int) (spareLength_0 : Int) (k4 : 0 ≤ x4 ∧ x4 ≤ 99553664) (k7 : 2 ≤ x7 ∧ x7 ≤ 7) (k9 : 0 ≤ x9 ∧ x9 ≤ 24) (k12 : 3 ≤ x12 ∧ x12 ≤ 8) (d0 : x7 + 1 ≤ x12 ∧ x12 ≤ x7 + 1) (f3 : 1 * spareLength_0 + ((-1) * x4 + ((-31) * x9 + 0)) ≤ 0) (kz_0_12 : 0 ≤ spareLength_0 ∧ spareLength_0 ≤ 100000000) : 1 * spareLength_0 + ((-1) * x4 + ((-55699) * x12 + (55699 * x7 + 0))) ≤ (-54955) := by
  first | assumption | omega | grind
def o_Ho_writeGroup_at_k2_1 : or_T := (100, 13, [(0, (2, 0, 0, [12])), (4, (0, 0, 99553664, [])), (7, (0, 2, 7, [])), (9, (0, 0, 24, [])), (12, (0, 3, 8, []))], [(20, [5, 4, 9], [30, 0, 1, 1, 12, -1, 0, 0, -31, 0, 0]), (24, [0, 5], [])], [], [], [(20, [5, 4, 12, 7], [30, -54955, 1, 1, 12, -1, 0, 0, -55699, 0, 0, 55699, 0, 0])], [], [(12, 7, 1, 1)])
theorem oo_Ho_writeGroup_at_k2_1 {kA : Nat → ClassId} : or_ok PRD kA GG o_Ho_writeGroup_at_k2_1 := by
  refine or_mk fun A ta ws vs hD hth hl => ?_
  intro t0 r0 t4 k4 t7 k7 t9 k9 t12 k12 d0 f3 f4
  replace f3 := shm_224 f3
  replace f4 := shm_5 f4
  have q5 : n_v vs 5 = n_v vs 0 := f4.symm
  simp only [q5] at f3
  have kz_0_12 := fdq_0 hD hth r0
  have nf0 : fc_1 PRD (20, [5, 4, 12, 7], [30, -54955, 1, 1, 12, -1, 0, 0, -55699, 0, 0, 55699, 0, 0]) ws (vs) := by
    refine ⟨nf_in hl rfl, sgq_246 ?_⟩
    · show 1 * w_fi ws (n_v vs 5) 12 + ((-1) * v_iv (n_v vs 4) + ((-55699) * v_iv (n_v vs 12) + (55699 * v_iv (n_v vs 7) + 0))) ≤ (-54955)
      rw [q5]
      exact vc_Ho_writeGroup_at_k2_1_0 (v_iv (n_v vs 4)) (v_iv (n_v vs 7)) (v_iv (n_v vs 9)) (v_iv (n_v vs 12)) (w_fi ws (n_v vs 0) 12) k4 k7 k9 k12 d0 f3 kz_0_12
  refine ⟨(fun _ h => (by cases h)), [], trivial, ?_, (fun _ h => (by cases h))⟩
  rw [List.append_nil]
  exact List.forall_mem_cons.mpr ⟨⟨show (20 : Nat) < 100 from by decide, nf0⟩, (fun _ h => (by cases h))⟩
set_option maxHeartbeats 4000000 in
theorem vc_Ho_writeGroup_at_k2_2_0 (x4 : Int) (x9 : Int) (x13 : Int) (spareLength_0 : Int) (k4 : 0 ≤ x4 ∧ x4 ≤ 99553664) (k9 : 0 ≤ x9 ∧ x9 ≤ 23) (k13 : 1 ≤ x13 ∧ x13 ≤ 24) (d0 : x9 + 1 ≤ x13 ∧ x13 ≤ x9 + 1) (f3 : 1 * spareLength_0 + ((-1) * x4 + ((-31) * x9 + 0)) ≤ 0) (kz_0_12 : 0 ≤ spareLength_0 ∧ spareLength_0 ≤ 100000000) : 1 * spareLength_0 + ((-1) * x4 + ((-31) * x13 + 0)) ≤ 0 := by
  first | assumption | omega | grind
def o_Ho_writeGroup_at_k2_2 : or_T := (3, 14, [(0, (2, 0, 0, [12])), (4, (0, 0, 99553664, [])), (9, (0, 0, 23, [])), (13, (0, 1, 24, []))], [(20, [5, 4, 9], [30, 0, 1, 1, 12, -1, 0, 0, -31, 0, 0]), (24, [0, 5], [])], [], [], [(20, [5, 4, 13], [30, 0, 1, 1, 12, -1, 0, 0, -31, 0, 0])], [], [(13, 9, 1, 1)])
theorem oo_Ho_writeGroup_at_k2_2 {kA : Nat → ClassId} : or_ok PRD kA GG o_Ho_writeGroup_at_k2_2 := by
  refine or_mk fun A ta ws vs hD hth hl => ?_
  intro t0 r0 t4 k4 t9 k9 t13 k13 d0 f3 f4
  replace f3 := shm_224 f3
  replace f4 := shm_5 f4
  have q5 : n_v vs 5 = n_v vs 0 := f4.symm
  simp only [q5] at f3
  have kz_0_12 := fdq_0 hD hth r0
  have nf0 : fc_1 PRD (20, [5, 4, 13], [30, 0, 1, 1, 12, -1, 0, 0, -31, 0, 0]) ws (vs) := by
    refine ⟨nf_in hl rfl, sgq_224 ?_⟩
    · show 1 * w_fi ws (n_v vs 5) 12 + ((-1) * v_iv (n_v vs 4) + ((-31) * v_iv (n_v vs 13) + 0)) ≤ 0
      rw [q5]
      exact vc_Ho_writeGroup_at_k2_2_0 (v_iv (n_v vs 4)) (v_iv (n_v vs 9)) (v_iv (n_v vs 13)) (w_fi ws (n_v vs 0) 12) k4 k9 k13 d0 f3 kz_0_12
  refine ⟨(fun _ h => (by cases h)), [], trivial, ?_, (fun _ h => (by cases h))⟩
  rw [List.append_nil]
  exact List.forall_mem_cons.mpr ⟨⟨show (20 : Nat) < 100 from by decide, nf0⟩, (fun _ h => (by cases h))⟩
set_option maxHeartbeats 4000000 in
theorem vc_Ho_writeGroup_at_k2_3_0 (spareLength_0 : Int) (gx : Int) (kz_0_12 : 0 ≤ spareLength_0 ∧ spareLength_0 ≤ 100000000) (ex2 : gx = spareLength_0) : 1 * spareLength_0 + ((-1) * gx + 0) ≤ 0 := by
  first | assumption | omega | grind
set_option maxHeartbeats 4000000 in
theorem vc_Ho_writeGroup_at_k2_3_1 (x4 : Int) (x9 : Int) (spareLength_0 : Int) (gx : Int) (k4 : 0 ≤ x4 ∧ x4 ≤ 99553664) (k9 : 0 ≤ x9 ∧ x9 ≤ 23) (f2 : 1 * spareLength_0 + ((-1) * x4 + ((-31) * x9 + 0)) ≤ 0) (kz_0_12 : 0 ≤ spareLength_0 ∧ spareLength_0 ≤ 100000000) (ex2 : gx = spareLength_0) : 1 * gx + ((-1) * x4 + ((-31) * x9 + 0)) ≤ 0 := by
  first | assumption | omega | grind
def o_Ho_writeGroup_at_k2_3 : or_T := (27, 14, [(0, (2, 0, 0, [12])), (4, (0, 0, 99553664, [])), (5, (2, 0, 0, [12])), (6, (2, 0, 0, [3])), (9, (0, 0, 23, [])), (10, (0, 1, 24, []))], [(7, [9, 10], [2]), (9, [10, 6], [0]), (20, [5, 4, 9], [30, 0, 1, 1, 12, -1, 0, 0, -31, 0, 0]), (24, [0, 5], [])], [], [(0, 0, 99999995, [])], [(20, [5, 14], [30, 0, 1, 1, 12, -1, 0, 0]), (23, [14, 4, 9], [0, 1, -1, -31])], [], [(9, 10, -4294967296, -1)])
theorem oo_Ho_writeGroup_at_k2_3 {kA : Nat → ClassId} : or_ok PRD kA GG o_Ho_writeGroup_at_k2_3 := by
  refine or_mk fun A ta ws vs hD hth hl => ?_
  intro t0 r0 t4 k4 t5 r5 t6 r6 t9 k9 t10 k10 d0 f0 f1 f2 f3
  replace f0 := shm_6 f0
  replace f1 := shm_163 f1
  replace f2 := shm_224 f2
  replace f3 := shm_5 f3
  have q5 : n_v vs 5 = n_v vs 0 := f3.symm
  simp only [q5] at f2
  have g1 : v_iv (n_v vs 10) = w_fi ws (n_v vs 6) 0 := congrArg v_iv f1
  have kz_0_12 := fdq_0 hD hth r0
  have kz_6_0 := fdq_21 hD hth r6
  have kv0 := fdq_0 hD hth r0
  obtain ⟨x, ex, hx⟩ := iv_ex (ta := ta) (lo := 0) (hi := 99999995) (z := w_fi ws (n_v vs 0) 12) (by omega) (by omega) (by omega) (by omega)
  have ex2 : v_iv (Value.int x) = w_fi ws (n_v vs 0) 12 := ex
  have ex3 : 0 ≤ v_iv (Value.int x) ∧ v_iv (Value.int x) ≤ 99999995 := tv_rng hx
  have e_4 : n_v (vs ++ [Value.int x]) 4 = n_v vs 4 := n_v_old (by rw [hl]; decide)
  have e_5 : n_v (vs ++ [Value.int x]) 5 = n_v vs 5 := n_v_old (by rw [hl]; decide)
  have e_9 : n_v (vs ++ [Value.int x]) 9 = n_v vs 9 := n_v_old (by rw [hl]; decide)
  have e_14 : n_v (vs ++ [Value.int x]) 14 = Value.int x := n_v_new hl
  have nf0 : fc_1 PRD (20, [5, 14], [30, 0, 1, 1, 12, -1, 0, 0]) ws (vs ++ [Value.int x]) := by
    refine ⟨nf_inA hl rfl, sgq_104 ?_⟩
    · show 1 * w_fi ws (n_v (vs ++ [Value.int x]) 5) 12 + ((-1) * v_iv (n_v (vs ++ [Value.int x]) 14) + 0) ≤ 0
      simp only [e_5, e_14, q5]
      exact vc_Ho_writeGroup_at_k2_3_0 (w_fi ws (n_v vs 0) 12) (v_iv (Value.int x)) kz_0_12 ex2
  have nf1 : fc_1 PRD (23, [14, 4, 9], [0, 1, -1, -31]) ws (vs ++ [Value.int x]) := by
    refine ⟨nf_inA hl rfl, sgq_226 ?_⟩
    · show 1 * v_iv (n_v (vs ++ [Value.int x]) 14) + ((-1) * v_iv (n_v (vs ++ [Value.int x]) 4) + ((-31) * v_iv (n_v (vs ++ [Value.int x]) 9) + 0)) ≤ 0
      simp only [e_4, e_9, e_14]
      exact vc_Ho_writeGroup_at_k2_3_1 (v_iv (n_v vs 4)) (v_iv (n_v vs 9)) (w_fi ws (n_v vs 0) 12) (v_iv (Value.int x)) k4 k9 f2 kz_0_12 ex2
  exact ⟨(fun _ h => (by cases h)), [Value.int x], ag_one hx, List.forall_mem_cons.mpr ⟨⟨show (20 : Nat) < 100 from by decide, nf0⟩, List.forall_mem_cons.mpr ⟨⟨show (23 : Nat) < 100 from by decide, nf1⟩, (fun _ h => (by cases h))⟩⟩, (fun _ h => (by cases h))⟩
set_option maxHeartbeats 4000000 in
theorem vc_Ho_writeGroup_at_k2_4_0 (spareLength_0 : Int) (gx : Int) (kz_0_12 : 0 ≤ spareLength_0 ∧ spareLength_0 ≤ 100000000) (ex2 : gx = spareLength_0) : 1 * spareLength_0 + ((-1) * gx + 0) ≤ 0 := by
  first | assumption | omega | grind
set_option maxHeartbeats 4000000 in
theorem vc_Ho_writeGroup_at_k2_4_1 (x4 : Int) (x9 : Int) (x14 : Int) (spareLength_0 : Int) (gx : Int) (k4 : 0 ≤ x4 ∧ x4 ≤ 99553664) (k9 : 0 ≤ x9 ∧ x9 ≤ 23) (k14 : 0 ≤ x14 ∧ x14 ≤ 99999995) (f0 : 1 * x14 + ((-1) * x4 + ((-31) * x9 + 0)) ≤ 0) (f2 : 1 * spareLength_0 + ((-1) * x14 + 0) ≤ 5) (kz_0_12 : 0 ≤ spareLength_0 ∧ spareLength_0 ≤ 100000000) (ex2 : gx = spareLength_0) : 1 * gx + ((-1) * x4 + ((-31) * x9 + 0)) ≤ 5 := by
  first | assumption | omega | grind
def o_Ho_writeGroup_at_k2_4 : or_T := (44, 18, [(0, (2, 0, 0, [12])), (4, (0, 0, 99553664, [])), (5, (2, 0, 0, [12])), (9, (0, 0, 23, [])), (10, (0, 1, 24, [])), (14, (0, 0, 99999995, []))], [(23, [14, 4, 9], [0, 1, -1, -31]), (24, [0, 5], []), (20, [5, 14], [30, 5, 1, 1, 12, -1, 0, 0]), (102, [14], [261336857795280739939871698507597986398208, 12012]), (23, [14, 4, 9], [0, 1, -1, -31]), (7, [9, 10], [2])], [], [(0, 0, 99999992, [])], [(20, [5, 18], [30, 0, 1, 1, 12, -1, 0, 0]), (23, [18, 4, 9], [5, 1, -1, -31])], [], [(9, 10, -4294967296, -1)])
theorem oo_Ho_writeGroup_at_k2_4 {kA : Nat → ClassId} : or_ok PRD kA GG o_Ho_writeGroup_at_k2_4 := by
  refine or_mk fun A ta ws vs hD hth hl => ?_
  intro t0 r0 t4 k4 t5 r5 t9 k9 t10 k10 t14 k14 d0 f0 f1 f2 ta1 w1 le1 s1 f4 f5
  replace f0 := shm_226 f0
  replace f1 := shm_5 f1
  replace f2 := shm_202 f2
  replace f4 := shm_226 f4
  replace f5 := shm_6 f5
  have q5 : n_v vs 5 = n_v vs 0 := f1.symm
  simp only [q5] at f2
  have kz_0_12 := fdq_0 hD hth r0
  have kv0 := fdq_0 hD hth r0
  obtain ⟨x, ex, hx⟩ := iv_ex (ta := ta) (lo := 0) (hi := 99999992) (z := w_fi ws (n_v vs 0) 12) (by omega) (by omega) (by omega) (by omega)
  have ex2 : v_iv (Value.int x) = w_fi ws (n_v vs 0) 12 := ex
  have ex3 : 0 ≤ v_iv (Value.int x) ∧ v_iv (Value.int x) ≤ 99999992 := tv_rng hx
  have e_4 : n_v (vs ++ [Value.int x]) 4 = n_v vs 4 := n_v_old (by rw [hl]; decide)
  have e_5 : n_v (vs ++ [Value.int x]) 5 = n_v vs 5 := n_v_old (by rw [hl]; decide)
  have e_9 : n_v (vs ++ [Value.int x]) 9 = n_v vs 9 := n_v_old (by rw [hl]; decide)
  have e_18 : n_v (vs ++ [Value.int x]) 18 = Value.int x := n_v_new hl
  have nf0 : fc_1 PRD (20, [5, 18], [30, 0, 1, 1, 12, -1, 0, 0]) ws (vs ++ [Value.int x]) := by
    refine ⟨nf_inA hl rfl, sgq_104 ?_⟩
    · show 1 * w_fi ws (n_v (vs ++ [Value.int x]) 5) 12 + ((-1) * v_iv (n_v (vs ++ [Value.int x]) 18) + 0) ≤ 0
      simp only [e_5, e_18, q5]
      exact vc_Ho_writeGroup_at_k2_4_0 (w_fi ws (n_v vs 0) 12) (v_iv (Value.int x)) kz_0_12 ex2
  have nf1 : fc_1 PRD (23, [18, 4, 9], [5, 1, -1, -31]) ws (vs ++ [Value.int x]) := by
    refine ⟨nf_inA hl rfl, sgq_227 ?_⟩
    · show 1 * v_iv (n_v (vs ++ [Value.int x]) 18) + ((-1) * v_iv (n_v (vs ++ [Value.int x]) 4) + ((-31) * v_iv (n_v (vs ++ [Value.int x]) 9) + 0)) ≤ 5
      simp only [e_4, e_9, e_18]
      exact vc_Ho_writeGroup_at_k2_4_1 (v_iv (n_v vs 4)) (v_iv (n_v vs 9)) (v_iv (n_v vs 14)) (w_fi ws (n_v vs 0) 12) (v_iv (Value.int x)) k4 k9 k14 f0 f2 kz_0_12 ex2
  exact ⟨(fun _ h => (by cases h)), [Value.int x], ag_one hx, List.forall_mem_cons.mpr ⟨⟨show (20 : Nat) < 100 from by decide, nf0⟩, List.forall_mem_cons.mpr ⟨⟨show (23 : Nat) < 100 from by decide, nf1⟩, (fun _ h => (by cases h))⟩⟩, (fun _ h => (by cases h))⟩
set_option maxHeartbeats 4000000 in
theorem vc_Ho_writeGroup_at_k2_5_0 (spareLength_0 : Int) (gx : Int) (kz_0_12 : 0 ≤ spareLength_0 ∧ spareLength_0 ≤ 100000000) (ex2 : gx = spareLength_0) : 1 * spareLength_0 + ((-1) * gx + 0) ≤ 0 := by
  first | assumption | omega | grind
set_option maxHeartbeats 4000000 in
theorem vc_Ho_writeGroup_at_k2_5_1 (x4 : Int) (x9 : Int) (x18 : Int) (spareLength_0 : Int) (gx : Int) (k4 : 0 ≤ x4 ∧ x4 ≤ 99553664) (k9 : 0 ≤ x9 ∧ x9 ≤ 23) (k18 : 0 ≤ x18 ∧ x18 ≤ 99999992) (f0 : 1 * x18 + ((-1) * x4 + ((-31) * x9 + 0)) ≤ 5) (f3 : 1 * spareLength_0 + ((-1) * x18 + 0) ≤ 8) (kz_0_12 : 0 ≤ spareLength_0 ∧ spareLength_0 ≤ 100000000) (ex2 : gx = spareLength_0) : 1 * gx + ((-1) * x4 + ((-31) * x9 + 0)) ≤ 29 := by
  first | assumption | omega | grind
def o_Ho_writeGroup_at_k2_5 : or_T := (86, 23, [(0, (2, 0, 0, [12])), (4, (0, 0, 99553664, [])), (5, (2, 0, 0, [12])), (9, (0, 0, 23, [])), (10, (0, 1, 24, [])), (14, (0, 0, 99999995, [])), (18, (0, 0, 99999992, []))], [(23, [18, 4, 9], [5, 1, -1, -31]), (23, [14, 4, 9], [0, 1, -1, -31]), (24, [0, 5], []), (20, [5, 18], [30, 8, 1, 1, 12, -1, 0, 0]), (102, [18], [261336857795280739939871698507597986398208, 12012]), (23, [18, 4, 9], [5, 1, -1, -31]), (23, [14, 4, 9], [0, 1, -1, -31]), (102, [14], [261336857795280739939871698507597986398208, 12012]), (23, [14, 4, 9], [0, 1, -1, -31]), (7, [9, 10], [2])], [], [(0, 0, 99999998, [])], [(20, [5, 23], [30, 0, 1, 1, 12, -1, 0, 0]), (23, [23, 4, 9], [29, 1, -1, -31])], [], [(9, 10, -4294967296, -1)])
theorem oo_Ho_writeGroup_at_k2_5 {kA : Nat → ClassId} : or_ok PRD kA GG o_Ho_writeGroup_at_k2_5 := by
  refine or_mk fun A ta ws vs hD hth hl => ?_
  intro t0 r0 t4 k4 t5 r5 t9 k9 t10 k10 t14 k14 t18 k18 d0 f0 f1 f2 f3 ta1 w1 le1 s1 f5 f6 ta2 w2 le2 s2 f8 f9
  replace f0 := shm_227 f0
  replace f1 := shm_226 f1
  replace f2 := shm_5 f2
  replace f3 := shm_135 f3
  replace f5 := shm_227 f5
  replace f6 := shm_226 f6
  replace f8 := shm_226 f8
  replace f9 := shm_6 f9
  have q5 : n_v vs 5 = n_v vs 0 := f2.symm
  simp only [q5] at f3
  have kz_0_12 := fdq_0 hD hth r0
  have kv0 := fdq_0 hD hth r0
  obtain ⟨x, ex, hx⟩ := iv_ex (ta := ta) (lo := 0) (hi := 99999998) (z := w_fi ws (n_v vs 0) 12) (by omega) (by omega) (by omega) (by omega)
  have ex2 : v_iv (Value.int x) = w_fi ws (n_v vs 0) 12 := ex
  have ex3 : 0 ≤ v_iv (Value.int x) ∧ v_iv (Value.int x) ≤ 99999998 := tv_rng hx
  have e_4 : n_v (vs ++ [Value.int x]) 4 = n_v vs 4 := n_v_old (by rw [hl]; decide)
  have e_5 : n_v (vs ++ [Value.int x]) 5 = n_v vs 5 := n_v_old (by rw [hl]; decide)
  have e_9 : n_v (vs ++ [Value.int x]) 9 = n_v vs 9 := n_v_old (by rw [hl]; decide)
  have e_23 : n_v (vs ++ [Value.int x]) 23 = Value.int x := n_v_new hl
  have nf0 : fc_1 PRD (20, [5, 23], [30, 0, 1, 1, 12, -1, 0, 0]) ws (vs ++ [Value.int x]) := by
    refine ⟨nf_inA hl rfl, sgq_104 ?_⟩
    · show 1 * w_fi ws (n_v (vs ++ [Value.int x]) 5) 12 + ((-1) * v_iv (n_v (vs ++ [Value.int x]) 23) + 0) ≤ 0
      simp only [e_5, e_23, q5]
      exact vc_Ho_writeGroup_at_k2_5_0 (w_fi ws (n_v vs 0) 12) (v_iv (Value.int x)) kz_0_12 ex2
  have nf1 : fc_1 PRD (23, [23, 4, 9], [29, 1, -1, -31]) ws (vs ++ [Value.int x]) := by
    refine ⟨nf_inA hl rfl, sgq_228 ?_⟩
    · show 1 * v_iv (n_v (vs ++ [Value.int x]) 23) + ((-1) * v_iv (n_v (vs ++ [Value.int x]) 4) + ((-31) * v_iv (n_v (vs ++ [Value.int x]) 9) + 0)) ≤ 29
      simp only [e_4, e_9, e_23]
      exact vc_Ho_writeGroup_at_k2_5_1 (v_iv (n_v vs 4)) (v_iv (n_v vs 9)) (v_iv (n_v vs 18)) (w_fi ws (n_v vs 0) 12) (v_iv (Value.int x)) k4 k9 k18 f0 f3 kz_0_12 ex2
  exact ⟨(fun _ h => (by cases h)), [Value.int x], ag_one hx, List.forall_mem_cons.mpr ⟨⟨show (20 : Nat) < 100 from by decide, nf0⟩, List.forall_mem_cons.mpr ⟨⟨show (23 : Nat) < 100 from by decide, nf1⟩, (fun _ h => (by cases h))⟩⟩, (fun _ h => (by cases h))⟩
set_option maxHeartbeats 4000000 in
theorem vc_Ho_writeGroup_at_k2_6_0 (x4 : Int) (x9 : Int) (x23 : Int) (x24 : Int) (spareLength_0 : Int) (k4 : 0 ≤ x4 ∧ x4 ≤ 99553664) (k9 : 0 ≤ x9 ∧ x9 ≤ 23) (k23 : 0 ≤ x23 ∧ x23 ≤ 99999998) (k24 : 1 ≤ x24 ∧ x24 ≤ 24) (d0 : x9 + 1 ≤ x24 ∧ x24 ≤ x9 + 1) (f1 : 1 * x23 + ((-1) * x4 + ((-31) * x9 + 0)) ≤ 29) (f5 : 1 * spareLength_0 + ((-1) * x23 + 0) ≤ 2) (kz_0_12 : 0 ≤ spareLength_0 ∧ spareLength_0 ≤ 100000000) : 1 * spareLength_0 + ((-1) * x4 + ((-31) * x24 + 0)) ≤ 0 := by
  first | assumption | omega | grind
def o_Ho_writeGroup_at_k2_6 : or_T := (3, 25, [(0, (2, 0, 0, [12])), (4, (0, 0, 99553664, [])), (9, (0, 0, 23, [])), (23, (0, 0, 99999998, [])), (24, (0, 1, 24, []))], [(23, [23, 4, 9], [29, 1, -1, -31]), (24, [0, 5], []), (20, [5, 23], [30, 2, 1, 1, 12, -1, 0, 0])], [], [], [(20, [5, 4, 24], [30, 0, 1, 1, 12, -1, 0, 0, -31, 0, 0])], [], [(24, 9, 1, 1)])
theorem oo_Ho_writeGroup_at_k2_6 {kA : Nat → ClassId} : or_ok PRD kA GG o_Ho_writeGroup_at_k2_6 := by
  refine or_mk fun A ta ws vs hD hth hl => ?_
  intro t0 r0 t4 k4 t9 k9 t23 k23 t24 k24 d0 f1 f4 f5
  replace f1 := shm_228 f1
  replace f4 := shm_5 f4
  replace f5 := shm_204 f5
  have q5 : n_v vs 5 = n_v vs 0 := f4.symm
  simp only [q5] at f5
  have kz_0_12 := fdq_0 hD hth r0
  have nf0 : fc_1 PRD (20, [5, 4, 24], [30, 0, 1, 1, 12, -1, 0, 0, -31, 0, 0]) ws (vs) := by
    refine ⟨nf_in hl rfl, sgq_224 ?_⟩
    · show 1 * w_fi ws (n_v vs 5) 12 + ((-1) * v_iv (n_v vs 4) + ((-31) * v_iv (n_v vs 24) + 0)) ≤ 0
      rw [q5]
      exact vc_Ho_writeGroup_at_k2_6_0 (v_iv (n_v vs 4)) (v_iv (n_v vs 9)) (v_iv (n_v vs 23)) (v_iv (n_v vs 24)) (w_fi ws (n_v vs 0) 12) k4 k9 k23 k24 d0 f1 f5 kz_0_12
  refine ⟨(fun _ h => (by cases h)), [], trivial, ?_, (fun _ h => (by cases h))⟩
  rw [List.append_nil]
  exact List.forall_mem_cons.mpr ⟨⟨show (20 : Nat) < 100 from by decide, nf0⟩, (fun _ h => (by cases h))⟩
set_option maxHeartbeats 4000000 in
theorem vc_Ho_writeGroup_at_k2_7_0 (spareLength_0 : Int) (gx : Int) (kz_0_12 : 0 ≤ spareLength_0 ∧ spareLength_0 ≤ 100000000) (ex2 : gx = spareLength_0) : 1 * spareLength_0 + ((-1) * gx + 0) ≤ 0 := by
  first | assumption | omega | grind
set_option maxHeartbeats 4000000 in
theorem vc_Ho_writeGroup_at_k2_7_1 (x4 : Int) (x9 : Int) (x18 : Int) (spareLength_0 : Int) (gx : Int) (k4 : 0 ≤ x4 ∧ x4 ≤ 99553664) (k9 : 0 ≤ x9 ∧ x9 ≤ 23) (k18 : 0 ≤ x18 ∧ x18 ≤ 99999992) (f0 : 1 * x18 + ((-1) * x4 + ((-31) * x9 + 0)) ≤ 5) (f3 : 1 * spareLength_0 + ((-1) * x18 + 0) ≤ 8) (kz_0_12 : 0 ≤ spareLength_0 ∧ spareLength_0 ≤ 100000000) (ex2 : gx = spareLength_0) : 1 * gx + ((-1) * x4 + ((-31) * x9 + 0)) ≤ 13 := by
  first | assumption | omega | grind
def o_Ho_writeGroup_at_k2_7 : or_T := (62, 23, [(0, (2, 0, 0, [12])), (4, (0, 0, 99553664, [])), (5, (2, 0, 0, [12])), (9, (0, 0, 23, [])), (10, (0, 1, 24, [])), (14, (0, 0, 99999995, [])), (18, (0, 0, 99999992, []))], [(23, [18, 4, 9], [5, 1, -1, -31]), (23, [14, 4, 9], [0, 1, -1, -31]), (24, [0, 5], []), (20, [5, 18], [30, 8, 1, 1, 12, -1, 0, 0]), (102, [18], [261336857795280739939871698507597986398208, 12012]), (23, [18, 4, 9], [5, 1, -1, -31]), (23, [14, 4, 9], [0, 1, -1, -31]), (102, [14], [261336857795280739939871698507597986398208, 12012]), (23, [14, 4, 9], [0, 1, -1, -31]), (7, [9, 10], [2])], [], [(0, 0, 99999993, [])], [(20, [5, 23], [30, 0, 1, 1, 12, -1, 0, 0]), (23, [23, 4, 9], [13, 1, -1, -31])], [], [(9, 10, -4294967296, -1)])
theorem oo_Ho_writeGroup_at_k2_7 {kA : Nat → ClassId} : or_ok PRD kA GG o_Ho_writeGroup_at_k2_7 := by
  refine or_mk fun A ta ws vs hD hth hl => ?_
  intro t0 r0 t4 k4 t5 r5 t9 k9 t10 k10 t14 k14 t18 k18 d0 f0 f1 f2 f3 ta1 w1 le1 s1 f5 f6 ta2 w2 le2 s2 f8 f9
  replace f0 := shm_227 f0
  replace f1 := shm_226 f1
  replace f2 := shm_5 f2
  replace f3 := shm_135 f3
  replace f5 := shm_227 f5
  replace f6 := shm_226 f6
  replace f8 := shm_226 f8
  replace f9 := shm_6 f9
  have q5 : n_v vs 5 = n_v vs 0 := f2.symm
  simp only [q5] at f3
  have kz_0_12 := fdq_0 hD hth r0
  have kv0 := fdq_0 hD hth r0
  obtain ⟨x, ex, hx⟩ := iv_ex (ta := ta) (lo := 0) (hi := 99999993) (z := w_fi ws (n_v vs 0) 12) (by omega) (by omega) (by omega) (by omega)
  have ex2 : v_iv (Value.int x) = w_fi ws (n_v vs 0) 12 := ex
  have ex3 : 0 ≤ v_iv (Value.int x) ∧ v_iv (Value.int x) ≤ 99999993 := tv_rng hx
  have e_4 : n_v (vs ++ [Value.int x]) 4 = n_v vs 4 := n_v_old (by rw [hl]; decide)
  have e_5 : n_v (vs ++ [Value.int x]) 5 = n_v vs 5 := n_v_old (by rw [hl]; decide)
  have e_9 : n_v (vs ++ [Value.int x]) 9 = n_v vs 9 := n_v_old (by rw [hl]; decide)
  have e_23 : n_v (vs ++ [Value.int x]) 23 = Value.int x := n_v_new hl
  have nf0 : fc_1 PRD (20, [5, 23], [30, 0, 1, 1, 12, -1, 0, 0]) ws (vs ++ [Value.int x]) := by
    refine ⟨nf_inA hl rfl, sgq_104 ?_⟩
    · show 1 * w_fi ws (n_v (vs ++ [Value.int x]) 5) 12 + ((-1) * v_iv (n_v (vs ++ [Value.int x]) 23) + 0) ≤ 0
      simp only [e_5, e_23, q5]
      exact vc_Ho_writeGroup_at_k2_7_0 (w_fi ws (n_v vs 0) 12) (v_iv (Value.int x)) kz_0_12 ex2
  have nf1 : fc_1 PRD (23, [23, 4, 9], [13, 1, -1, -31]) ws (vs ++ [Value.int x]) := by
    refine ⟨nf_inA hl rfl, sgq_229 ?_⟩
    · show 1 * v_iv (n_v (vs ++ [Value.int x]) 23) + ((-1) * v_iv (n_v (vs ++ [Value.int x]) 4) + ((-31) * v_iv (n_v (vs ++ [Value.int x]) 9) + 0)) ≤ 13
      simp only [e_4, e_9, e_23]
      exact vc_Ho_writeGroup_at_k2_7_1 (v_iv (n_v vs 4)) (v_iv (n_v vs 9)) (v_iv (n_v vs 18)) (w_fi ws (n_v vs 0) 12) (v_iv (Value.int x)) k4 k9 k18 f0 f3 kz_0_12 ex2
  exact ⟨(fun _ h => (by cases h)), [Value.int x], ag_one hx, List.forall_mem_cons.mpr ⟨⟨show (20 : Nat) < 100 from by decide, nf0⟩, List.forall_mem_cons.mpr ⟨⟨show (23 : Nat) < 100 from by decide, nf1⟩, (fun _ h => (by cases h))⟩⟩, (fun _ h => (by cases h))⟩
set_option maxHeartbeats 4000000 in
theorem vc_Ho_writeGroup_at_k2_8_0 (spareLength_0 : Int) (gx : Int) (kz_0_12 : 0 ≤ spareLength_0 ∧ spareLength_0 ≤ 100000000) (ex2 : gx = spareLength_0) : 1 * spareLength_0 + ((-1) * gx + 0) ≤ 0 := by
  first | assumption | omega | grind
set_option maxHeartbeats 4000000 in
theorem vc_Ho_writeGroup_at_k2_8_1 (x4 : Int) (x9 : Int) (x23 : Int) (spareLength_0 : Int) (gx : Int) (k4 : 0 ≤ x4 ∧ x4 ≤ 99553664) (k9 : 0 ≤ x9 ∧ x9 ≤ 23) (k23 : 0 ≤ x23 ∧ x23 ≤ 99999993) (f0 : 1 * x23 + ((-1) * x4 + ((-31) * x9 + 0)) ≤ 13) (f4 : 1 * spareLength_0 + ((-1) * x23 + 0) ≤ 7) (kz_0_12 : 0 ≤ spareLength_0 ∧ spareLength_0 ≤ 100000000) (ex2 : gx = spareLength_0) : 1 * gx + ((-1) * x4 + ((-31) * x9 + 0)) ≤ 20 := by
  first | assumption | omega | grind
def o_Ho_writeGroup_at_k2_8 : or_T := (73, 25, [(0, (2, 0, 0, [12])), (4, (0, 0, 99553664, [])), (5, (2, 0, 0, [12])), (9, (0, 0, 23, [])), (10, (0, 1, 24, [])), (14, (0, 0, 99999995, [])), (18, (0, 0, 99999992, [])), (23, (0, 0, 99999993, []))], [(23, [23, 4, 9], [13, 1, -1, -31]), (23, [18, 4, 9], [5, 1, -1, -31]), (23, [14, 4, 9], [0, 1, -1, -31]), (24, [0, 5], []), (20, [5, 23], [30, 7, 1, 1, 12, -1, 0, 0]), (102, [23], [261336857795280739939871698507597986398208, 12012]), (23, [23, 4, 9], [13, 1, -1, -31]), (23, [18, 4, 9], [5, 1, -1, -31]), (23, [14, 4, 9], [0, 1, -1, -31]), (102, [18], [261336857795280739939871698507597986398208, 12012]), (23, [18, 4, 9], [5, 1, -1, -31]), (23, [14, 4, 9], [0, 1, -1, -31]), (102, [14], [261336857795280739939871698507597986398208, 12012]), (23, [14, 4, 9], [0, 1, -1, -31]), (7, [9, 10], [2])], [], [(0, 0, 99999992, [])], [(20, [5, 25], [30, 0, 1, 1, 12, -1, 0, 0]), (23, [25, 4, 9], [20, 1, -1, -31])], [], [(9, 10, -4294967296, -1)])
theorem oo_Ho_writeGroup_at_k2_8 {kA : Nat → ClassId} : or_ok PRD kA GG o_Ho_writeGroup_at_k2_8 := by
  refine or_mk fun A ta ws vs hD hth hl => ?_
  intro t0 r0 t4 k4 t5 r5 t9 k9 t10 k10 t14 k14 t18 k18 t23 k23 d0 f0 f1 f2 f3 f4 ta1 w1 le1 s1 f6 f7 f8 ta2 w2 le2 s2 f10 f11 ta3 w3 le3 s3 f13 f14
  replace f0 := shm_229 f0
  replace f1 := shm_227 f1
  replace f2 := shm_226 f2
  replace f3 := shm_5 f3
  replace f4 := shm_203 f4
  replace f6 := shm_229 f6
  replace f7 := shm_227 f7
  replace f8 := shm_226 f8
  replace f10 := shm_227 f10
  replace f11 := shm_226 f11
  replace f13 := shm_226 f13
  replace f14 := shm_6 f14
  have q5 : n_v vs 5 = n_v vs 0 := f3.symm
  simp only [q5] at f4
  have kz_0_12 := fdq_0 hD hth r0
  have kv0 := fdq_0 hD hth r0
  obtain ⟨x, ex, hx⟩ := iv_ex (ta := ta) (lo := 0) (hi := 99999992) (z := w_fi ws (n_v vs 0) 12) (by omega) (by omega) (by omega) (by omega)
  have ex2 : v_iv (Value.int x) = w_fi ws (n_v vs 0) 12 := ex
  have ex3 : 0 ≤ v_iv (Value.int x) ∧ v_iv (Value.int x) ≤ 99999992 := tv_rng hx
  have e_4 : n_v (vs ++ [Value.int x]) 4 = n_v vs 4 := n_v_old (by rw [hl]; decide)
  have e_5 : n_v (vs ++ [Value.int x]) 5 = n_v vs 5 := n_v_old (by rw [hl]; decide)
  have e_9 : n_v (vs ++ [Value.int x]) 9 = n_v vs 9 := n_v_old (by rw [hl]; decide)
  have e_25 : n_v (vs ++ [Value.int x]) 25 = Value.int x := n_v_new hl
  have nf0 : fc_1 PRD (20, [5, 25], [30, 0, 1, 1, 12, -1, 0, 0]) ws (vs ++ [Value.int x]) := by
    refine ⟨nf_inA hl rfl, sgq_104 ?_⟩
    · show 1 * w_fi ws (n_v (vs ++ [Value.int x]) 5) 12 + ((-1) * v_iv (n_v (vs ++ [Value.int x]) 25) + 0) ≤ 0
      simp only [e_5, e_25, q5]
      exact vc_Ho_writeGroup_at_k2_8_0 (w_fi ws (n_v vs 0) 12) (v_iv (Value.int x)) kz_0_12 ex2
  have nf1 : fc_1 PRD (23, [25, 4, 9], [20, 1, -1, -31]) ws (vs ++ [Value.int x]) := by
    refine ⟨nf_inA hl rfl, sgq_230 ?_⟩
    · show 1 * v_iv (n_v (vs ++ [Value.int x]) 25) + ((-1) * v_iv (n_v (vs ++ [Value.int x]) 4) + ((-31) * v_iv (n_v (vs ++ [Value.int x]) 9) + 0)) ≤ 20
      simp only [e_4, e_9, e_25]
      exact vc_Ho_writeGroup_at_k2_8_1 (v_iv (n_v vs 4)) (v_iv (n_v vs 9)) (v_iv (n_v vs 23)) (w_fi ws (n_v vs 0) 12) (v_iv (Value.int x)) k4 k9 k23 f0 f4 kz_0_12 ex2
  exact ⟨(fun _ h => (by cases h)), [Value.int x], ag_one hx, List.forall_mem_cons.mpr ⟨⟨show (20 : Nat) < 100 from by decide, nf0⟩, List.forall_mem_cons.mpr ⟨⟨show (23 : Nat) < 100 from by decide, nf1⟩, (fun _ h => (by cases h))⟩⟩, (fun _ h => (by cases h))⟩
set_option maxHeartbeats 4000000 in
theorem vc_Ho_writeGroup_at_k2_9_0 (spareLength_0 : Int) (gx : Int) (kz_0_12 : 0 ≤ spareLength_0 ∧ spareLength_0 ≤ 100000000) (ex2 : gx = spareLength_0) : 1 * spareLength_0 + ((-1) * gx + 0) ≤ 0 := by
  first | assumption | omega | grind
set_option maxHeartbeats 4000000 in
theorem vc_Ho_writeGroup_at_k2_9_1 (x4 : Int) (x9 : Int) (x25 : Int) (spareLength_0 : Int) (gx : Int) (k4 : 0 ≤ x4 ∧ x4 ≤ 99553664) (k9 : 0 ≤ x9 ∧ x9 ≤ 23) (k25 : 0 ≤ x25 ∧ x25 ≤ 99999992) (f0 : 1 * x25 + ((-1) * x4 + ((-31) * x9 + 0)) ≤ 20) (f5 : 1 * spareLength_0 + ((-1) * x25 + 0) ≤ 8) (kz_0_12 : 0 ≤ spareLength_0 ∧ spareLength_0 ≤ 100000000) (ex2 : gx = spareLength_0) : 1 * gx + ((-1) * x4 + ((-31) * x9 + 0)) ≤ 28 := by
  first | assumption | omega | grind
def o_Ho_writeGroup_at_k2_9 : or_T := (79, 27, [(0, (2, 0, 0, [12])), (4, (0, 0, 99553664, [])), (5, (2, 0, 0, [12])), (9, (0, 0, 23, [])), (10, (0, 1, 24, [])), (14, (0, 0, 99999995, [])), (18, (0, 0, 99999992, [])), (23, (0, 0, 99999993, [])), (25, (0, 0, 99999992, []))], [(23, [25, 4, 9], [20, 1, -1, -31]), (23, [23, 4, 9], [13, 1, -1, -31]), (23, [18, 4, 9], [5, 1, -1, -31]), (23, [14, 4, 9], [0, 1, -1, -31]), (24, [0, 5], []), (20, [5, 25], [30, 8, 1, 1, 12, -1, 0, 0]), (102, [25], [261336857795280739939871698507597986398208, 12012]), (23, [25, 4, 9], [20, 1, -1, -31]), (23, [23, 4, 9], [13, 1, -1, -31]), (23, [18, 4, 9], [5, 1, -1, -31]), (23, [14, 4, 9], [0, 1, -1, -31]), (102, [23], [261336857795280739939871698507597986398208, 12012]), (23, [23, 4, 9], [13, 1, -1, -31]), (23, [18, 4, 9], [5, 1, -1, -31]), (23, [14, 4, 9], [0, 1, -1, -31]), (102, [18], [261336857795280739939871698507597986398208, 12012]), (23, [18, 4, 9], [5, 1, -1, -31]), (23, [14, 4, 9], [0, 1, -1, -31]), (102, [14], [261336857795280739939871698507597986398208, 12012]), (23, [14, 4, 9], [0, 1, -1, -31]), (7, [9, 10], [2])], [], [(0, 0, 99999999, [])], [(20, [5, 27], [30, 0, 1, 1, 12, -1, 0, 0]), (23, [27, 4, 9], [28, 1, -1, -31])], [], [(9, 10, -4294967296, -1)])
theorem oo_Ho_writeGroup_at_k2_9 {kA : Nat → ClassId} : or_ok PRD kA GG o_Ho_writeGroup_at_k2_9 := by
  refine or_mk fun A ta ws vs hD hth hl => ?_
  intro t0 r0 t4 k4 t5 r5 t9 k9 t10 k10 t14 k14 t18 k18 t23 k23 t25 k25 d0 f0 f1 f2 f3 f4 f5 ta1 w1 le1 s1 f7 f8 f9 f10 ta2 w2 le2 s2 f12 f13 f14 ta3 w3 le3 s3 f16 f17 ta4 w4 le4 s4 f19 f20
  replace f0 := shm_230 f0
  replace f1 := shm_229 f1
  replace f2 := shm_227 f2
  replace f3 := shm_226 f3
  replace f4 := shm_5 f4
  replace f5 := shm_135 f5
  replace f7 := shm_230 f7
  replace f8 := shm_229 f8
  replace f9 := shm_227 f9
  replace f10 := shm_226 f10
  replace f12 := shm_229 f12
  replace f13 := shm_227 f13
  replace f14 := shm_226 f14
  replace f16 := shm_227 f16
  replace f17 := shm_226 f17
  replace f19 := shm_226 f19
  replace f20 := shm_6 f20
  have q5 : n_v vs 5 = n_v vs 0 := f4.symm
  simp only [q5] at f5
  have kz_0_12 := fdq_0 hD hth r0
  have kv0 := fdq_0 hD hth r0
  obtain ⟨x, ex, hx⟩ := iv_ex (ta := ta) (lo := 0) (hi := 99999999) (z := w_fi ws (n_v vs 0) 12) (by omega) (by omega) (by omega) (by omega)
  have ex2 : v_iv (Value.int x) = w_fi ws (n_v vs 0) 12 := ex
  have ex3 : 0 ≤ v_iv (Value.int x) ∧ v_iv (Value.int x) ≤ 99999999 := tv_rng hx
  have e_4 : n_v (vs ++ [Value.int x]) 4 = n_v vs 4 := n_v_old (by rw [hl]; decide)
  have e_5 : n_v (vs ++ [Value.int x]) 5 = n_v vs 5 := n_v_old (by rw [hl]; decide)
  have e_9 : n_v (vs ++ [Value.int x]) 9 = n_v vs 9 := n_v_old (by rw [hl]; decide)
  have e_27 : n_v (vs ++ [Value.int x]) 27 = Value.int x := n_v_new hl
  have nf0 : fc_1 PRD (20, [5, 27], [30, 0, 1, 1, 12, -1, 0, 0]) ws (vs ++ [Value.int x]) := by
    refine ⟨nf_inA hl rfl, sgq_104 ?_⟩
    · show 1 * w_fi ws (n_v (vs ++ [Value.int x]) 5) 12 + ((-1) * v_iv (n_v (vs ++ [Value.int x]) 27) + 0) ≤ 0
      simp only [e_5, e_27, q5]
      exact vc_Ho_writeGroup_at_k2_9_0 (w_fi ws (n_v vs 0) 12) (v_iv (Value.int x)) kz_0_12 ex2
  have nf1 : fc_1 PRD (23, [27, 4, 9], [28, 1, -1, -31]) ws (vs ++ [Value.int x]) := by
    refine ⟨nf_inA hl rfl, sgq_231 ?_⟩
    · show 1 * v_iv (n_v (vs ++ [Value.int x]) 27) + ((-1) * v_iv (n_v (vs ++ [Value.int x]) 4) + ((-31) * v_iv (n_v (vs ++ [Value.int x]) 9) + 0)) ≤ 28
      simp only [e_4, e_9, e_27]
      exact vc_Ho_writeGroup_at_k2_9_1 (v_iv (n_v vs 4)) (v_iv (n_v vs 9)) (v_iv (n_v vs 25)) (w_fi ws (n_v vs 0) 12) (v_iv (Value.int x)) k4 k9 k25 f0 f5 kz_0_12 ex2
  exact ⟨(fun _ h => (by cases h)), [Value.int x], ag_one hx, List.forall_mem_cons.mpr ⟨⟨show (20 : Nat) < 100 from by decide, nf0⟩, List.forall_mem_cons.mpr ⟨⟨show (23 : Nat) < 100 from by decide, nf1⟩, (fun _ h => (by cases h))⟩⟩, (fun _ h => (by cases h))⟩
set_option maxHeartbeats 4000000 in
theorem vc_Ho_writeGroup_at_k2_10_0 (spareLength_0 : Int) (gx : Int) (kz_0_12 : 0 ≤ spareLength_0 ∧ spareLength_0 ≤ 100000000) (ex2 : gx = spareLength_0) : 1 * spareLength_0 + ((-1) * gx + 0) ≤ 0 := by
  first | assumption | omega | grind
set_option maxHeartbeats 4000000 in
theorem vc_Ho_writeGroup_at_k2_10_1 (x4 : Int) (x9 : Int) (x27 : Int) (spareLength_0 : Int) (gx : Int) (k4 : 0 ≤ x4 ∧ x4 ≤ 99553664) (k9 : 0 ≤ x9 ∧ x9 ≤ 23) (k27 : 0 ≤ x27 ∧ x27 ≤ 99999999) (f0 : 1 * x27 + ((-1) * x4 + ((-31) * x9 + 0)) ≤ 28) (f6 : 1 * spareLength_0 + ((-1) * x27 + 0) ≤ 1) (kz_0_12 : 0 ≤ spareLength_0 ∧ spareLength_0 ≤ 100000000) (ex2 : gx = spareLength_0) : 1 * gx + ((-1) * x4 + ((-31) * x9 + 0)) ≤ 29 := by
  first | assumption | omega | grind
def o_Ho_writeGroup_at_k2_10 : or_T := (86, 29, [(0, (2, 0, 0, [12])), (4, (0, 0, 99553664, [])), (5, (2, 0, 0, [12])), (9, (0, 0, 23, [])), (10, (0, 1, 24, [])), (14, (0, 0, 99999995, [])), (18, (0, 0, 99999992, [])), (23, (0, 0, 99999993, [])), (25, (0, 0, 99999992, [])), (27, (0, 0, 99999999, []))], [(23, [27, 4, 9], [28, 1, -1, -31]), (23, [25, 4, 9], [20, 1, -1, -31]), (23, [23, 4, 9], [13, 1, -1, -31]), (23, [18, 4, 9], [5, 1, -1, -31]), (23, [14, 4, 9], [0, 1, -1, -31]), (24, [0, 5], []), (20, [5, 27], [30, 1, 1, 1, 12, -1, 0, 0]), (102, [27], [261336857795280739939871698507597986398208, 12012]), (23, [27, 4, 9], [28, 1, -1, -31]), (23, [25, 4, 9], [20, 1, -1, -31]), (23, [23, 4, 9], [13, 1, -1, -31]), (23, [18, 4, 9], [5, 1, -1, -31]), (23, [14, 4, 9], [0, 1, -1, -31]), (102, [25], [261336857795280739939871698507597986398208, 12012]), (23, [25, 4, 9], [20, 1, -1, -31]), (23, [23, 4, 9], [13, 1, -1, -31]), (23, [18, 4, 9], [5, 1, -1, -31]), (23, [14, 4, 9], [0, 1, -1, -31]), (102, [23], [261336857795280739939871698507597986398208, 12012]), (23, [23, 4, 9], [13, 1, -1, -31]), (23, [18, 4, 9], [5, 1, -1, -31]), (23, [14, 4, 9], [0, 1, -1, -31]), (102, [18], [261336857795280739939871698507597986398208, 12012]), (23, [18, 4, 9], [5, 1, -1, -31]), (23, [14, 4, 9], [0, 1, -1, -31]), (102, [14], [261336857795280739939871698507597986398208, 12012]), (23, [14, 4, 9], [0, 1, -1, -31]), (7, [9, 10], [2])], [], [(0, 0, 99999998, [])], [(20, [5, 29], [30, 0, 1, 1, 12, -1, 0, 0]), (23, [29, 4, 9], [29, 1, -1, -31])], [], [(9, 10, -4294967296, -1)])
theorem oo_Ho_writeGroup_at_k2_10 {kA : Nat → ClassId} : or_ok PRD kA GG o_Ho_writeGroup_at_k2_10 := by
  refine or_mk fun A ta ws vs hD hth hl => ?_
  intro t0 r0 t4 k4 t5 r5 t9 k9 t10 k10 t14 k14 t18 k18 t23 k23 t25 k25 t27 k27 d0 f0 f1 f2 f3 f4 f5 f6 ta1 w1 le1 s1 f8 f9 f10 f11 f12 ta2 w2 le2 s2 f14 f15 f16 f17 ta3 w3 le3 s3 f19 f20 f21 ta4 w4 le4 s4 f23 f24 ta5 w5 le5 s5 f26 f27
  replace f0 := shm_231 f0
  replace f1 := shm_230 f1
  replace f2 := shm_229 f2
  replace f3 := shm_227 f3
  replace f4 := shm_226 f4
  replace f5 := shm_5 f5
  replace f6 := shm_105 f6
  replace f8 := shm_231 f8
  replace f9 := shm_230 f9
  replace f10 := shm_229 f10
  replace f11 := shm_227 f11
  replace f12 := shm_226 f12
  replace f14 := shm_230 f14
  replace f15 := shm_229 f15
  replace f16 := shm_227 f16
  replace f17 := shm_226 f17
  replace f19 := shm_229 f19
  replace f20 := shm_227 f20
  replace f21 := shm_226 f21
  replace f23 := shm_227 f23
  replace f24 := shm_226 f24
  replace f26 := shm_226 f26
  replace f27 := shm_6 f27
  have q5 : n_v vs 5 = n_v vs 0 := f5.symm
  simp only [q5] at f6
  have kz_0_12 := fdq_0 hD hth r0
  have kv0 := fdq_0 hD hth r0
  obtain ⟨x, ex, hx⟩ := iv_ex (ta := ta) (lo := 0) (hi := 99999998) (z := w_fi ws (n_v vs 0) 12) (by omega) (by omega) (by omega) (by omega)
  have ex2 : v_iv (Value.int x) = w_fi ws (n_v vs 0) 12 := ex
  have ex3 : 0 ≤ v_iv (Value.int x) ∧ v_iv (Value.int x) ≤ 99999998 := tv_rng hx
  have e_4 : n_v (vs ++ [Value.int x]) 4 = n_v vs 4 := n_v_old (by rw [hl]; decide)
  have e_5 : n_v (vs ++ [Value.int x]) 5 = n_v vs 5 := n_v_old (by rw [hl]; decide)
  have e_9 : n_v (vs ++ [Value.int x]) 9 = n_v vs 9 := n_v_old (by rw [hl]; decide)
  have e_29 : n_v (vs ++ [Value.int x]) 29 = Value.int x := n_v_new hl
  have nf0 : fc_1 PRD (20, [5, 29], [30, 0, 1, 1, 12, -1, 0, 0]) ws (vs ++ [Value.int x]) := by
    refine ⟨nf_inA hl rfl, sgq_104 ?_⟩
    · show 1 * w_fi ws (n_v (vs ++ [Value.int x]) 5) 12 + ((-1) * v_iv (n_v (vs ++ [Value.int x]) 29) + 0) ≤ 0
      simp only [e_5, e_29, q5]
      exact vc_Ho_writeGroup_at_k2_10_0 (w_fi ws (n_v vs 0) 12) (v_iv (Value.int x)) kz_0_12 ex2
  have nf1 : fc_1 PRD (23, [29, 4, 9], [29, 1, -1, -31]) ws (vs ++ [Value.int x]) := by
    refine ⟨nf_inA hl rfl, sgq_228 ?_⟩
    · show 1 * v_iv (n_v (vs ++ [Value.int x]) 29) + ((-1) * v_iv (n_v (vs ++ [Value.int x]) 4) + ((-31) * v_iv (n_v (vs ++ [Value.int x]) 9) + 0)) ≤ 29
      simp only [e_4, e_9, e_29]
      exact vc_Ho_writeGroup_at_k2_10_1 (v_iv (n_v vs 4)) (v_iv (n_v vs 9)) (v_iv (n_v vs 27)) (w_fi ws (n_v vs 0) 12) (v_iv (Value.int x)) k4 k9 k27 f0 f6 kz_0_12 ex2
  exact ⟨(fun _ h => (by cases h)), [Value.int x], ag_one hx, List.forall_mem_cons.mpr ⟨⟨show (20 : Nat) < 100 from by decide, nf0⟩, List.forall_mem_cons.mpr ⟨⟨show (23 : Nat) < 100 from by decide, nf1⟩, (fun _ h => (by cases h))⟩⟩, (fun _ h => (by cases h))⟩
set_option maxHeartbeats 4000000 in
theorem vc_Ho_writeGroup_at_k2_11_0 (x4 : Int) (x9 : Int) (x29 : Int) (x30 : Int) (spareLength_0 : Int) (k4 : 0 ≤ x4 ∧ x4 ≤ 99553664) (k9 : 0 ≤ x9 ∧ x9 ≤ 23) (k29 : 0 ≤ x29 ∧ x29 ≤ 99999998) (k30 : 1 ≤ x30 ∧ x30 ≤ 24) (d0 : x9 + 1 ≤ x30 ∧ x30 ≤ x9 + 1) (f1 : 1 * x29 + ((-1) * x4 + ((-31) * x9 + 0)) ≤ 29) (f8 : 1 * spareLength_0 + ((-1) * x29 + 0) ≤ 2) (kz_0_12 : 0 ≤ spareLength_0 ∧ spareLength_0 ≤ 100000000) : 1 * spareLength_0 + ((-1) * x4 + ((-31) * x30 + 0)) ≤ 0 := by
  first | assumption | omega | grind
def o_Ho_writeGroup_at_k2_11 : or_T := (3, 31, [(0, (2, 0, 0, [12])), (4, (0, 0, 99553664, [])), (9, (0, 0, 23, [])), (29, (0, 0, 99999998, [])), (30, (0, 1, 24, []))], [(23, [29, 4, 9], [29, 1, -1, -31]), (24, [0, 5], []), (20, [5, 29], [30, 2, 1, 1, 12, -1, 0, 0])], [], [], [(20, [5, 4, 30], [30, 0, 1, 1, 12, -1, 0, 0, -31, 0, 0])], [], [(30, 9, 1, 1)])
theorem oo_Ho_writeGroup_at_k2_11 {kA : Nat → ClassId} : or_ok PRD kA GG o_Ho_writeGroup_at_k2_11 := by
  refine or_mk fun A ta ws vs hD hth hl => ?_
  intro t0 r0 t4 k4 t9 k9 t29 k29 t30 k30 d0 f1 f7 f8
  replace f1 := shm_228 f1
  replace f7 := shm_5 f7
  replace f8 := shm_204 f8
  have q5 : n_v vs 5 = n_v vs 0 := f7.symm
  simp only [q5] at f8
  have kz_0_12 := fdq_0 hD hth r0
  have nf0 : fc_1 PRD (20, [5, 4, 30], [30, 0, 1, 1, 12, -1, 0, 0, -31, 0, 0]) ws (vs) := by
    refine ⟨nf_in hl rfl, sgq_224 ?_⟩
    · show 1 * w_fi ws (n_v vs 5) 12 + ((-1) * v_iv (n_v vs 4) + ((-31) * v_iv (n_v vs 30) + 0)) ≤ 0
      rw [q5]
      exact vc_Ho_writeGroup_at_k2_11_0 (v_iv (n_v vs 4)) (v_iv (n_v vs 9)) (v_iv (n_v vs 29)) (v_iv (n_v vs 30)) (w_fi ws (n_v vs 0) 12) k4 k9 k29 k30 d0 f1 f8 kz_0_12
  refine ⟨(fun _ h => (by cases h)), [], trivial, ?_, (fun _ h => (by cases h))⟩
  rw [List.append_nil]
  exact List.forall_mem_cons.mpr ⟨⟨show (20 : Nat) < 100 from by decide, nf0⟩, (fun _ h => (by cases h))⟩
set_option maxHeartbeats 4000000 in
theorem vc_Ho_writeGroup_at_k2_12_0 (x4 : Int) (x7 : Int) (x9 : Int) (spareLength_0 : Int) (k4 : 0 ≤ x4 ∧ x4 ≤ 99553664) (k7 : 2 ≤ x7 ∧ x7 ≤ 7) (k9 : 3 ≤ x9 ∧ x9 ≤ 8) (f2 : 1 * spareLength_0 + ((-1) * x4 + ((-55699) * x9 + (55699 * x7 + 0))) ≤ (-54955)) (kz_0_12 : 0 ≤ spareLength_0 ∧ spareLength_0 ≤ 100000000) : 1 * spareLength_0 + ((-1) * x4 + 0) ≤ 446336 := by
  first | assumption | omega | grind
def o_Ho_writeGroup_at_k2_12 : or_T := (179, 11, [(0, (2, 0, 0, [12])), (4, (0, 0, 99553664, [])), (7, (0, 2, 7, [])), (9, (0, 3, 8, []))], [(20, [5, 4, 9, 7], [30, -54955, 1, 1, 12, -1, 0, 0, -55699, 0, 0, 55699, 0, 0]), (24, [0, 5], [])], [], [], [(20, [0, 4], [30, 446336, 1, 1, 12, -1, 0, 0])], [], [])
theorem oo_Ho_writeGroup_at_k2_12 {kA : Nat → ClassId} : or_ok PRD kA GG o_Ho_writeGroup_at_k2_12 := by
  refine or_mk fun A ta ws vs hD hth hl => ?_
  intro t0 r0 t4 k4 t7 k7 t9 k9 f2 f3
  replace f2 := shm_246 f2
  replace f3 := shm_5 f3
  have q5 : n_v vs 5 = n_v vs 0 := f3.symm
  simp only [q5] at f2
  have kz_0_12 := fdq_0 hD hth r0
  have nf0 : fc_1 PRD (20, [0, 4], [30, 446336, 1, 1, 12, -1, 0, 0]) ws (vs) := ⟨nf_in hl rfl, sgq_244 (vc_Ho_writeGroup_at_k2_12_0 (v_iv (n_v vs 4)) (v_iv (n_v vs 7)) (v_iv (n_v vs 9)) (w_fi ws (n_v vs 0) 12) k4 k7 k9 f2 kz_0_12)⟩
  refine ⟨(fun _ h => (by cases h)), [], trivial, ?_, (fun _ h => (by cases h))⟩
  rw [List.append_nil]
  exact List.forall_mem_cons.mpr ⟨⟨show (20 : Nat) < 100 from by decide, nf0⟩, (fun _ h => (by cases h))⟩
set_option maxHeartbeats 4000000 in
theorem vc_Ho_writeGroup_at_k2_13_0 (x4 : Int) (x7 : Int) (x9 : Int) (x13 : Int) (spareLength_0 : Int) (k4 : 0 ≤ x4 ∧ x4 ≤ 99553664) (k7 : 2 ≤ x7 ∧ x7 ≤ 6) (k9 : 3 ≤ x9 ∧ x9 ≤ 7) (k13 : 4 ≤ x13 ∧ x13 ≤ 8) (d0 : x9 + 1 ≤ x13 ∧ x13 ≤ x9 + 1) (f6 : 1 * spareLength_0 + ((-1) * x4 + ((-55699) * x9 + (55699 * x7 + 0))) ≤ (-54955)) (kz_0_12 : 0 ≤ spareLength_0 ∧ spareLength_0 ≤ 100000000) : 1 * spareLength_0 + ((-1) * x4 + ((-55699) * x13 + (55699 * x7 + 0))) ≤ (-54955) := by
  first | assumption | omega | grind
def o_Ho_writeGroup_at_k2_13 : or_T := (100, 14, [(0, (2, 0, 0, [12])), (4, (0, 0, 99553664, [])), (7, (0, 2, 6, [])), (9, (0, 3, 7, [])), (13, (0, 4, 8, []))], [(20, [5, 4, 9, 7], [30, -54955, 1, 1, 12, -1, 0, 0, -55699, 0, 0, 55699, 0, 0]), (24, [0, 5], [])], [], [], [(20, [5, 4, 13, 7], [30, -54955, 1, 1, 12, -1, 0, 0, -55699, 0, 0, 55699, 0, 0])], [], [(13, 9, 1, 1)])
theorem oo_Ho_writeGroup_at_k2_13 {kA : Nat → ClassId} : or_ok PRD kA GG o_Ho_writeGroup_at_k2_13 := by
  refine or_mk fun A ta ws vs hD hth hl => ?_
  intro t0 r0 t4 k4 t7 k7 t9 k9 t13 k13 d0 f6 f7
  replace f6 := shm_246 f6
  replace f7 := shm_5 f7
  have q5 : n_v vs 5 = n_v vs 0 := f7.symm
  simp only [q5] at f6
  have kz_0_12 := fdq_0 hD hth r0
  have nf0 : fc_1 PRD (20, [5, 4, 13, 7], [30, -54955, 1, 1, 12, -1, 0, 0, -55699, 0, 0, 55699, 0, 0]) ws (vs) := by
    refine ⟨nf_in hl rfl, sgq_246 ?_⟩
    · show 1 * w_fi ws (n_v vs 5) 12 + ((-1) * v_iv (n_v vs 4) + ((-55699) * v_iv (n_v vs 13) + (55699 * v_iv (n_v vs 7) + 0))) ≤ (-54955)
      rw [q5]
      exact vc_Ho_writeGroup_at_k2_13_0 (v_iv (n_v vs 4)) (v_iv (n_v vs 7)) (v_iv (n_v vs 9)) (v_iv (n_v vs 13)) (w_fi ws (n_v vs 0) 12) k4 k7 k9 k13 d0 f6 kz_0_12
  refine ⟨(fun _ h => (by cases h)), [], trivial, ?_, (fun _ h => (by cases h))⟩
  rw [List.append_nil]
  exact List.forall_mem_cons.mpr ⟨⟨show (20 : Nat) < 100 from by decide, nf0⟩, (fun _ h => (by cases h))⟩
set_option maxHeartbeats 4000000 in
theorem vc_Ho_writeGroup_at_k2_14_0 (spareLength_0 : Int) (gx : Int) (kz_0_12 : 0 ≤ spareLength_0 ∧ spareLength_0 ≤ 100000000) (ex2 : gx = spareLength_0) : 1 * spareLength_0 + ((-1) * gx + 0) ≤ 0 := by
  first | assumption | omega | grind
set_option maxHeartbeats 4000000 in
theorem vc_Ho_writeGroup_at_k2_14_1 (x4 : Int) (x7 : Int) (x9 : Int) (x12 : Int) (within_0o6 : Int → Int) (spareLength_0 : Int) (gx : Int) (k4 : 0 ≤ x4 ∧ x4 ≤ 99553664) (k7 : 2 ≤ x7 ∧ x7 ≤ 6) (k9 : 3 ≤ x9 ∧ x9 ≤ 7) (k12 : 2 ≤ x12 ∧ x12 ≤ 6) (d0 : x7 + 0 ≤ x12 ∧ x12 ≤ x7 + 0) (h1 : x12 = within_0o6 (x9)) (f5 : 1 * spareLength_0 + ((-1) * x4 + ((-55699) * x9 + (55699 * x7 + 0))) ≤ (-54955)) (kz_0_12 : 0 ≤ spareLength_0 ∧ spareLength_0 ≤ 100000000) (ex2 : gx = spareLength_0) : 1 * gx + ((-1) * x4 + ((-55699) * x9 + (55699 * x7 + 0))) ≤ (-54955) := by
  first | assumption | omega | grind
def o_Ho_writeGroup_at_k2_14 : or_T := (129, 15, [(0, (2, 0, 0, [12])), (4, (0, 0, 99553664, [])), (5, (2, 0, 0, [12])), (6, (2, 0, 0, [3])), (7, (0, 2, 6, [])), (9, (0, 3, 7, [])), (10, (0, 4, 8, [])), (11, (2, 0, 0, [56])), (12, (0, 2, 6, []))], [(7, [12, 7], [0]), (10, [12, 11, 9], []), (9, [11, 6], [11]), (7, [9, 10], [2]), (9, [10, 6], [2]), (20, [5, 4, 9, 7], [30, -54955, 1, 1, 12, -1, 0, 0, -55699, 0, 0, 55699, 0, 0]), (24, [0, 5], [])], [], [(0, 0, 99999994, [])], [(20, [5, 15], [30, 0, 1, 1, 12, -1, 0, 0]), (23, [15, 4, 9, 7], [-54955, 1, -1, -55699, 55699])], [], [(12, 7, 0, 0), (9, 10, -4294967296, -1), (7, 9, -4294967296, -1)])
theorem oo_Ho_writeGroup_at_k2_14 {kA : Nat → ClassId} : or_ok PRD kA GG o_Ho_writeGroup_at_k2_14 := by
  refine or_mk fun A ta ws vs hD hth hl => ?_
  intro t0 r0 t4 k4 t5 r5 t6 r6 t7 k7 t9 k9 t10 k10 t11 r11 t12 k12 d0 d1 d2 f0 f1 f2 f3 f4 f5 f6
  replace f0 := shm_37 f0
  replace f1 := shm_107 f1
  replace f2 := shm_116 f2
  replace f3 := shm_6 f3
  replace f4 := shm_120 f4
  replace f5 := shm_246 f5
  replace f6 := shm_5 f6
  have q5 : n_v vs 5 = n_v vs 0 := f6.symm
  simp only [q5] at f5
  have cr_6_11 := fdq_31 hD hth r6
  have ad_11 : v_ad (n_v vs 11) = w_ar ws (n_v vs 6) 11 := congrArg v_ad f2
  simp only [ad_11] at f1
  have h1 : v_iv (n_v vs 12) = w_ei ws (w_ar ws (n_v vs 6) 11) (v_iv (n_v vs 9)) := f1
  have g4 : v_iv (n_v vs 10) = w_fi ws (n_v vs 6) 2 := congrArg v_iv f4
  have kz_0_12 := fdq_0 hD hth r0
  have kz_6_2 := fdq_20 hD hth r6
  have kv0 := fdq_0 hD hth r0
  obtain ⟨x, ex, hx⟩ := iv_ex (ta := ta) (lo := 0) (hi := 99999994) (z := w_fi ws (n_v vs 0) 12) (by omega) (by omega) (by omega) (by omega)
  have ex2 : v_iv (Value.int x) = w_fi ws (n_v vs 0) 12 := ex
  have ex3 : 0 ≤ v_iv (Value.int x) ∧ v_iv (Value.int x) ≤ 99999994 := tv_rng hx
  have e_4 : n_v (vs ++ [Value.int x]) 4 = n_v vs 4 := n_v_old (by rw [hl]; decide)
  have e_5 : n_v (vs ++ [Value.int x]) 5 = n_v vs 5 := n_v_old (by rw [hl]; decide)
  have e_7 : n_v (vs ++ [Value.int x]) 7 = n_v vs 7 := n_v_old (by rw [hl]; decide)
  have e_9 : n_v (vs ++ [Value.int x]) 9 = n_v vs 9 := n_v_old (by rw [hl]; decide)
  have e_15 : n_v (vs ++ [Value.int x]) 15 = Value.int x := n_v_new hl
  have nf0 : fc_1 PRD (20, [5, 15], [30, 0, 1, 1, 12, -1, 0, 0]) ws (vs ++ [Value.int x]) := by
    refine ⟨nf_inA hl rfl, sgq_104 ?_⟩
    · show 1 * w_fi ws (n_v (vs ++ [Value.int x]) 5) 12 + ((-1) * v_iv (n_v (vs ++ [Value.int x]) 15) + 0) ≤ 0
      simp only [e_5, e_15, q5]
      exact vc_Ho_writeGroup_at_k2_14_0 (w_fi ws (n_v vs 0) 12) (v_iv (Value.int x)) kz_0_12 ex2
  have nf1 : fc_1 PRD (23, [15, 4, 9, 7], [-54955, 1, -1, -55699, 55699]) ws (vs ++ [Value.int x]) := by
    refine ⟨nf_inA hl rfl, sgq_247 ?_⟩
    · show 1 * v_iv (n_v (vs ++ [Value.int x]) 15) + ((-1) * v_iv (n_v (vs ++ [Value.int x]) 4) + ((-55699) * v_iv (n_v (vs ++ [Value.int x]) 9) + (55699 * v_iv (n_v (vs ++ [Value.int x]) 7) + 0))) ≤ (-54955)
      simp only [e_4, e_7, e_9, e_15]
      exact vc_Ho_writeGroup_at_k2_14_1 (v_iv (n_v vs 4)) (v_iv (n_v vs 7)) (v_iv (n_v vs 9)) (v_iv (n_v vs 12)) (w_ei ws (w_ar ws (n_v vs 6) 11)) (w_fi ws (n_v vs 0) 12) (v_iv (Value.int x)) k4 k7 k9 k12 d0 h1 f5 kz_0_12 ex2
  exact ⟨(fun _ h => (by cases h)), [Value.int x], ag_one hx, List.forall_mem_cons.mpr ⟨⟨show (20 : Nat) < 100 from by decide, nf0⟩, List.forall_mem_cons.mpr ⟨⟨show (23 : Nat) < 100 from by decide, nf1⟩, (fun _ h => (by cases h))⟩⟩, (fun _ h => (by cases h))⟩
set_option maxHeartbeats 4000000 in
theorem vc_Ho_writeGroup_at_k2_15_0 (spareLength_0 : Int) (gx : Int) (kz_0_12 : 0 ≤ spareLength_0 ∧ spareLength_0 ≤ 100000000) (ex2 : gx = spareLength_0) : 1 * spareLength_0 + ((-1) * gx + 0) ≤ 0 := by
  first | assumption | omega | grind
set_option maxHeartbeats 4000000 in
theorem vc_Ho_writeGroup_at_k2_15_1 (x4 : Int) (x7 : Int) (x9 : Int) (x12 : Int) (x15 : Int) (spareLength_0 : Int) (gx : Int) (k4 : 0 ≤ x4 ∧ x4 ≤ 99553664) (k7 : 2 ≤ x7 ∧ x7 ≤ 6) (k9 : 3 ≤ x9 ∧ x9 ≤ 7) (k12 : 2 ≤ x12 ∧ x12 ≤ 6) (k15 : 0 ≤ x15 ∧ x15 ≤ 99999994) (d0 : x7 + 0 ≤ x12 ∧ x12 ≤ x7 + 0) (f0 : 1 * x15 + ((-1) * x4 + ((-55699) * x9 + (55699 * x7 + 0))) ≤ (-54955)) (f2 : 1 * spareLength_0 + ((-1) * x15 + 0) ≤ 6) (kz_0_12 : 0 ≤ spareLength_0 ∧ spareLength_0 ≤ 100000000) (ex2 : gx = spareLength_0) : 1 * gx + ((-1) * x4 + ((-55699) * x9 + (55699 * x7 + 0))) ≤ (-54949) := by
  first | assumption | omega | grind
def o_Ho_writeGroup_at_k2_15 : or_T := (146, 19, [(0, (2, 0, 0, [12])), (4, (0, 0, 99553664, [])), (5, (2, 0, 0, [12])), (7, (0, 2, 6, [])), (9, (0, 3, 7, [])), (10, (0, 4, 8, [])), (12, (0, 2, 6, [])), (15, (0, 0, 99999994, []))], [(23, [15, 4, 9, 7], [-54955, 1, -1, -55699, 55699]), (24, [0, 5], []), (20, [5, 15], [30, 6, 1, 1, 12, -1, 0, 0]), (102, [15], [261336857795280739939871698507597986398208, 12012]), (23, [15, 4, 9, 7], [-54955, 1, -1, -55699, 55699]), (7, [12, 7], [0]), (7, [9, 10], [2])], [], [(0, 0, 99999992, [])], [(20, [5, 19], [30, 0, 1, 1, 12, -1, 0, 0]), (23, [19, 4, 9, 7], [-54949, 1, -1, -55699, 55699])], [], [(12, 7, 0, 0), (9, 10, -4294967296, -1), (7, 9, -4294967296, -1)])
theorem oo_Ho_writeGroup_at_k2_15 {kA : Nat → ClassId} : or_ok PRD kA GG o_Ho_writeGroup_at_k2_15 := by
  refine or_mk fun A ta ws vs hD hth hl => ?_
  intro t0 r0 t4 k4 t5 r5 t7 k7 t9 k9 t10 k10 t12 k12 t15 k15 d0 d1 d2 f0 f1 f2 ta1 w1 le1 s1 f4 f5 f6
  replace f0 := shm_247 f0
  replace f1 := shm_5 f1
  replace f2 := shm_205 f2
  replace f4 := shm_247 f4
  replace f5 := shm_37 f5
  replace f6 := shm_6 f6
  have q5 : n_v vs 5 = n_v vs 0 := f1.symm
  simp only [q5] at f2
  have kz_0_12 := fdq_0 hD hth r0
  have kv0 := fdq_0 hD hth r0
  obtain ⟨x, ex, hx⟩ := iv_ex (ta := ta) (lo := 0) (hi := 99999992) (z := w_fi ws (n_v vs 0) 12) (by omega) (by omega) (by omega) (by omega)
  have ex2 : v_iv (Value.int x) = w_fi ws (n_v vs 0) 12 := ex
  have ex3 : 0 ≤ v_iv (Value.int x) ∧ v_iv (Value.int x) ≤ 99999992 := tv_rng hx
  have e_4 : n_v (vs ++ [Value.int x]) 4 = n_v vs 4 := n_v_old (by rw [hl]; decide)
  have e_5 : n_v (vs ++ [Value.int x]) 5 = n_v vs 5 := n_v_old (by rw [hl]; decide)
  have e_7 : n_v (vs ++ [Value.int x]) 7 = n_v vs 7 := n_v_old (by rw [hl]; decide)
  have e_9 : n_v (vs ++ [Value.int x]) 9 = n_v vs 9 := n_v_old (by rw [hl]; decide)
  have e_19 : n_v (vs ++ [Value.int x]) 19 = Value.int x := n_v_new hl
  have nf0 : fc_1 PRD (20, [5, 19], [30, 0, 1, 1, 12, -1, 0, 0]) ws (vs ++ [Value.int x]) := by
    refine ⟨nf_inA hl rfl, sgq_104 ?_⟩
    · show 1 * w_fi ws (n_v (vs ++ [Value.int x]) 5) 12 + ((-1) * v_iv (n_v (vs ++ [Value.int x]) 19) + 0) ≤ 0
      simp only [e_5, e_19, q5]
      exact vc_Ho_writeGroup_at_k2_15_0 (w_fi ws (n_v vs 0) 12) (v_iv (Value.int x)) kz_0_12 ex2
  have nf1 : fc_1 PRD (23, [19, 4, 9, 7], [-54949, 1, -1, -55699, 55699]) ws (vs ++ [Value.int x]) := by
    refine ⟨nf_inA hl rfl, sgq_248 ?_⟩
    · show 1 * v_iv (n_v (vs ++ [Value.int x]) 19) + ((-1) * v_iv (n_v (vs ++ [Value.int x]) 4) + ((-55699) * v_iv (n_v (vs ++ [Value.int x]) 9) + (55699 * v_iv (n_v (vs ++ [Value.int x]) 7) + 0))) ≤ (-54949)
      simp only [e_4, e_7, e_9, e_19]
      exact vc_Ho_writeGroup_at_k2_15_1 (v_iv (n_v vs 4)) (v_iv (n_v vs 7)) (v_iv (n_v vs 9)) (v_iv (n_v vs 12)) (v_iv (n_v vs 15)) (w_fi ws (n_v vs 0) 12) (v_iv (Value.int x)) k4 k7 k9 k12 k15 d0 f0 f2 kz_0_12 ex2
  exact ⟨(fun _ h => (by cases h)), [Value.int x], ag_one hx, List.forall_mem_cons.mpr ⟨⟨show (20 : Nat) < 100 from by decide, nf0⟩, List.forall_mem_cons.mpr ⟨⟨show (23 : Nat) < 100 from by decide, nf1⟩, (fun _ h => (by cases h))⟩⟩, (fun _ h => (by cases h))⟩
set_option maxHeartbeats 4000000 in
theorem vc_Ho_writeGroup_at_k2_16_0 (spareLength_0 : Int) (gx : Int) (kz_0_12 : 0 ≤ spareLength_0 ∧ spareLength_0 ≤ 100000000) (ex2 : gx = spareLength_0) : 1 * spareLength_0 + ((-1) * gx + 0) ≤ 0 := by
  first | assumption | omega | grind
set_option maxHeartbeats 4000000 in
theorem vc_Ho_writeGroup_at_k2_16_1 (x4 : Int) (x7 : Int) (x9 : Int) (x12 : Int) (x19 : Int) (spareLength_0 : Int) (gx : Int) (k4 : 0 ≤ x4 ∧ x4 ≤ 99553664) (k7 : 2 ≤ x7 ∧ x7 ≤ 6) (k9 : 3 ≤ x9 ∧ x9 ≤ 7) (k12 : 2 ≤ x12 ∧ x12 ≤ 6) (k19 : 0 ≤ x19 ∧ x19 ≤ 99999992) (d0 : x7 + 0 ≤ x12 ∧ x12 ≤ x7 + 0) (f0 : 1 * x19 + ((-1) * x4 + ((-55699) * x9 + (55699 * x7 + 0))) ≤ (-54949)) (f3 : 1 * spareLength_0 + ((-1) * x19 + 0) ≤ 8) (kz_0_12 : 0 ≤ spareLength_0 ∧ spareLength_0 ≤ 100000000) (ex2 : gx = spareLength_0) : 1 * gx + ((-1) * x4 + ((-55699) * x9 + (55699 * x7 + 0))) ≤ (-54941) := by
  first | assumption | omega | grind
def o_Ho_writeGroup_at_k2_16 : or_T := (153, 21, [(0, (2, 0, 0, [12])), (4, (0, 0, 99553664, [])), (5, (2, 0, 0, [12])), (7, (0, 2, 6, [])), (9, (0, 3, 7, [])), (10, (0, 4, 8, [])), (12, (0, 2, 6, [])), (15, (0, 0, 99999994, [])), (19, (0, 0, 99999992, []))], [(23, [19, 4, 9, 7], [-54949, 1, -1, -55699, 55699]), (23, [15, 4, 9, 7], [-54955, 1, -1, -55699, 55699]), (24, [0, 5], []), (20, [5, 19], [30, 8, 1, 1, 12, -1, 0, 0]), (102, [19], [261336857795280739939871698507597986398208, 12012]), (23, [19, 4, 9, 7], [-54949, 1, -1, -55699, 55699]), (23, [15, 4, 9, 7], [-54955, 1, -1, -55699, 55699]), (102, [15], [261336857795280739939871698507597986398208, 12012]), (23, [15, 4, 9, 7], [-54955, 1, -1, -55699, 55699]), (7, [12, 7], [0]), (7, [9, 10], [2])], [], [(0, 0, 99999997, [])], [(20, [5, 21], [30, 0, 1, 1, 12, -1, 0, 0]), (23, [21, 4, 9, 7], [-54941, 1, -1, -55699, 55699])], [], [(12, 7, 0, 0), (9, 10, -4294967296, -1), (7, 9, -4294967296, -1)])
theorem oo_Ho_writeGroup_at_k2_16 {kA : Nat → ClassId} : or_ok PRD kA GG o_Ho_writeGroup_at_k2_16 := by
  refine or_mk fun A ta ws vs hD hth hl => ?_
  intro t0 r0 t4 k4 t5 r5 t7 k7 t9 k9 t10 k10 t12 k12 t15 k15 t19 k19 d0 d1 d2 f0 f1 f2 f3 ta1 w1 le1 s1 f5 f6 ta2 w2 le2 s2 f8 f9 f10
  replace f0 := shm_248 f0
  replace f1 := shm_247 f1
  replace f2 := shm_5 f2
  replace f3 := shm_135 f3
  replace f5 := shm_248 f5
  replace f6 := shm_247 f6
  replace f8 := shm_247 f8
  replace f9 := shm_37 f9
  replace f10 := shm_6 f10
  have q5 : n_v vs 5 = n_v vs 0 := f2.symm
  simp only [q5] at f3
  have kz_0_12 := fdq_0 hD hth r0
  have kv0 := fdq_0 hD hth r0
  obtain ⟨x, ex, hx⟩ := iv_ex (ta := ta) (lo := 0) (hi := 99999997) (z := w_fi ws (n_v vs 0) 12) (by omega) (by omega) (by omega) (by omega)
  have ex2 : v_iv (Value.int x) = w_fi ws (n_v vs 0) 12 := ex
  have ex3 : 0 ≤ v_iv (Value.int x) ∧ v_iv (Value.int x) ≤ 99999997 := tv_rng hx
  have e_4 : n_v (vs ++ [Value.int x]) 4 = n_v vs 4 := n_v_old (by rw [hl]; decide)
  have e_5 : n_v (vs ++ [Value.int x]) 5 = n_v vs 5 := n_v_old (by rw [hl]; decide)
  have e_7 : n_v (vs ++ [Value.int x]) 7 = n_v vs 7 := n_v_old (by rw [hl]; decide)
  have e_9 : n_v (vs ++ [Value.int x]) 9 = n_v vs 9 := n_v_old (by rw [hl]; decide)
  have e_21 : n_v (vs ++ [Value.int x]) 21 = Value.int x := n_v_new hl
  have nf0 : fc_1 PRD (20, [5, 21], [30, 0, 1, 1, 12, -1, 0, 0]) ws (vs ++ [Value.int x]) := by
    refine ⟨nf_inA hl rfl, sgq_104 ?_⟩
    · show 1 * w_fi ws (n_v (vs ++ [Value.int x]) 5) 12 + ((-1) * v_iv (n_v (vs ++ [Value.int x]) 21) + 0) ≤ 0
      simp only [e_5, e_21, q5]
      exact vc_Ho_writeGroup_at_k2_16_0 (w_fi ws (n_v vs 0) 12) (v_iv (Value.int x)) kz_0_12 ex2
  have nf1 : fc_1 PRD (23, [21, 4, 9, 7], [-54941, 1, -1, -55699, 55699]) ws (vs ++ [Value.int x]) := by
    refine ⟨nf_inA hl rfl, sgq_249 ?_⟩
    · show 1 * v_iv (n_v (vs ++ [Value.int x]) 21) + ((-1) * v_iv (n_v (vs ++ [Value.int x]) 4) + ((-55699) * v_iv (n_v (vs ++ [Value.int x]) 9) + (55699 * v_iv (n_v (vs ++ [Value.int x]) 7) + 0))) ≤ (-54941)
      simp only [e_4, e_7, e_9, e_21]
      exact vc_Ho_writeGroup_at_k2_16_1 (v_iv (n_v vs 4)) (v_iv (n_v vs 7)) (v_iv (n_v vs 9)) (v_iv (n_v vs 12)) (v_iv (n_v vs 19)) (w_fi ws (n_v vs 0) 12) (v_iv (Value.int x)) k4 k7 k9 k12 k19 d0 f0 f3 kz_0_12 ex2
  exact ⟨(fun _ h => (by cases h)), [Value.int x], ag_one hx, List.forall_mem_cons.mpr ⟨⟨show (20 : Nat) < 100 from by decide, nf0⟩, List.forall_mem_cons.mpr ⟨⟨show (23 : Nat) < 100 from by decide, nf1⟩, (fun _ h => (by cases h))⟩⟩, (fun _ h => (by cases h))⟩
set_option maxHeartbeats 4000000 in
theorem vc_Ho_writeGroup_at_k2_17_0 (spareLength_0 : Int) (gx : Int) (kz_0_12 : 0 ≤ spareLength_0 ∧ spareLength_0 ≤ 100000000) (ex2 : gx = spareLength_0) : 1 * spareLength_0 + ((-1) * gx + 0) ≤ 0 := by
  first | assumption | omega | grind
set_option maxHeartbeats 4000000 in
theorem vc_Ho_writeGroup_at_k2_17_1 (x4 : Int) (x7 : Int) (x9 : Int) (x12 : Int) (x21 : Int) (spareLength_0 : Int) (gx : Int) (k4 : 0 ≤ x4 ∧ x4 ≤ 99553664) (k7 : 2 ≤ x7 ∧ x7 ≤ 6) (k9 : 3 ≤ x9 ∧ x9 ≤ 7) (k12 : 2 ≤ x12 ∧ x12 ≤ 6) (k21 : 0 ≤ x21 ∧ x21 ≤ 99999997) (d0 : x7 + 0 ≤ x12 ∧ x12 ≤ x7 + 0) (f0 : 1 * x21 + ((-1) * x4 + ((-55699) * x9 + (55699 * x7 + 0))) ≤ (-54941)) (f4 : 1 * spareLength_0 + ((-1) * x21 + 0) ≤ 3) (kz_0_12 : 0 ≤ spareLength_0 ∧ spareLength_0 ≤ 100000000) (ex2 : gx = spareLength_0) : 1 * gx + ((-1) * x4 + ((-55699) * x9 + (55699 * x7 + 0))) ≤ (-54938) := by
  first | assumption | omega | grind
def o_Ho_writeGroup_at_k2_17 : or_T := (163, 24, [(0, (2, 0, 0, [12])), (4, (0, 0, 99553664, [])), (5, (2, 0, 0, [12])), (7, (0, 2, 6, [])), (9, (0, 3, 7, [])), (10, (0, 4, 8, [])), (12, (0, 2, 6, [])), (15, (0, 0, 99999994, [])), (19, (0, 0, 99999992, [])), (21, (0, 0, 99999997, []))], [(23, [21, 4, 9, 7], [-54941, 1, -1, -55699, 55699]), (23, [19, 4, 9, 7], [-54949, 1, -1, -55699, 55699]), (23, [15, 4, 9, 7], [-54955, 1, -1, -55699, 55699]), (24, [0, 5], []), (20, [5, 21], [30, 3, 1, 1, 12, -1, 0, 0]), (102, [21], [261336857795280739939871698507597986398208, 12012]), (23, [21, 4, 9, 7], [-54941, 1, -1, -55699, 55699]), (23, [19, 4, 9, 7], [-54949, 1, -1, -55699, 55699]), (23, [15, 4, 9, 7], [-54955, 1, -1, -55699, 55699]), (102, [19], [261336857795280739939871698507597986398208, 12012]), (23, [19, 4, 9, 7], [-54949, 1, -1, -55699, 55699]), (23, [15, 4, 9, 7], [-54955, 1, -1, -55699, 55699]), (102, [15], [261336857795280739939871698507597986398208, 12012]), (23, [15, 4, 9, 7], [-54955, 1, -1, -55699, 55699]), (7, [12, 7], [0]), (7, [9, 10], [2])], [], [(0, 0, 99944320, [])], [(20, [5, 24], [30, 0, 1, 1, 12, -1, 0, 0]), (23, [24, 4, 9, 7], [-54938, 1, -1, -55699, 55699])], [], [(12, 7, 0, 0), (9, 10, -4294967296, -1), (7, 9, -4294967296, -1)])
theorem oo_Ho_writeGroup_at_k2_17 {kA : Nat → ClassId} : or_ok PRD kA GG o_Ho_writeGroup_at_k2_17 := by
  refine or_mk fun A ta ws vs hD hth hl => ?_
  intro t0 r0 t4 k4 t5 r5 t7 k7 t9 k9 t10 k10 t12 k12 t15 k15 t19 k19 t21 k21 d0 d1 d2 f0 f1 f2 f3 f4 ta1 w1 le1 s1 f6 f7 f8 ta2 w2 le2 s2 f10 f11 ta3 w3 le3 s3 f13 f14 f15
  replace f0 := shm_249 f0
  replace f1 := shm_248 f1
  replace f2 := shm_247 f2
  replace f3 := shm_5 f3
  replace f4 := shm_206 f4
  replace f6 := shm_249 f6
  replace f7 := shm_248 f7
  replace f8 := shm_247 f8
  replace f10 := shm_248 f10
  replace f11 := shm_247 f11
  replace f13 := shm_247 f13
  replace f14 := shm_37 f14
  replace f15 := shm_6 f15
  have q5 : n_v vs 5 = n_v vs 0 := f3.symm
  simp only [q5] at f4
  have kz_0_12 := fdq_0 hD hth r0
  have kv0 := fdq_0 hD hth r0
  obtain ⟨x, ex, hx⟩ := iv_ex (ta := ta) (lo := 0) (hi := 99944320) (z := w_fi ws (n_v vs 0) 12) (by omega) (by omega) (by omega) (by omega)
  have ex2 : v_iv (Value.int x) = w_fi ws (n_v vs 0) 12 := ex
  have ex3 : 0 ≤ v_iv (Value.int x) ∧ v_iv (Value.int x) ≤ 99944320 := tv_rng hx
  have e_4 : n_v (vs ++ [Value.int x]) 4 = n_v vs 4 := n_v_old (by rw [hl]; decide)
  have e_5 : n_v (vs ++ [Value.int x]) 5 = n_v vs 5 := n_v_old (by rw [hl]; decide)
  have e_7 : n_v (vs ++ [Value.int x]) 7 = n_v vs 7 := n_v_old (by rw [hl]; decide)
  have e_9 : n_v (vs ++ [Value.int x]) 9 = n_v vs 9 := n_v_old (by rw [hl]; decide)
  have e_24 : n_v (vs ++ [Value.int x]) 24 = Value.int x := n_v_new hl
  have nf0 : fc_1 PRD (20, [5, 24], [30, 0, 1, 1, 12, -1, 0, 0]) ws (vs ++ [Value.int x]) := by
    refine ⟨nf_inA hl rfl, sgq_104 ?_⟩
    · show 1 * w_fi ws (n_v (vs ++ [Value.int x]) 5) 12 + ((-1) * v_iv (n_v (vs ++ [Value.int x]) 24) + 0) ≤ 0
      simp only [e_5, e_24, q5]
      exact vc_Ho_writeGroup_at_k2_17_0 (w_fi ws (n_v vs 0) 12) (v_iv (Value.int x)) kz_0_12 ex2
  have nf1 : fc_1 PRD (23, [24, 4, 9, 7], [-54938, 1, -1, -55699, 55699]) ws (vs ++ [Value.int x]) := by
    refine ⟨nf_inA hl rfl, sgq_250 ?_⟩
    · show 1 * v_iv (n_v (vs ++ [Value.int x]) 24) + ((-1) * v_iv (n_v (vs ++ [Value.int x]) 4) + ((-55699) * v_iv (n_v (vs ++ [Value.int x]) 9) + (55699 * v_iv (n_v (vs ++ [Value.int x]) 7) + 0))) ≤ (-54938)
      simp only [e_4, e_7, e_9, e_24]
      exact vc_Ho_writeGroup_at_k2_17_1 (v_iv (n_v vs 4)) (v_iv (n_v vs 7)) (v_iv (n_v vs 9)) (v_iv (n_v vs 12)) (v_iv (n_v vs 21)) (w_fi ws (n_v vs 0) 12) (v_iv (Value.int x)) k4 k7 k9 k12 k21 d0 f0 f4 kz_0_12 ex2
  exact ⟨(fun _ h => (by cases h)), [Value.int x], ag_one hx, List.forall_mem_cons.mpr ⟨⟨show (20 : Nat) < 100 from by decide, nf0⟩, List.forall_mem_cons.mpr ⟨⟨show (23 : Nat) < 100 from by decide, nf1⟩, (fun _ h => (by cases h))⟩⟩, (fun _ h => (by cases h))⟩
set_option maxHeartbeats 4000000 in
theorem vc_Ho_writeGroup_at_k2_18_0 (spareLength_0 : Int) (gx : Int) (kz_0_12 : 0 ≤ spareLength_0 ∧ spareLength_0 ≤ 100000000) (ex2 : gx = spareLength_0) : 1 * spareLength_0 + ((-1) * gx + 0) ≤ 0 := by
  first | assumption | omega | grind
set_option maxHeartbeats 4000000 in
theorem vc_Ho_writeGroup_at_k2_18_1 (x4 : Int) (x7 : Int) (x9 : Int) (x12 : Int) (x24 : Int) (spareLength_0 : Int) (gx : Int) (k4 : 0 ≤ x4 ∧ x4 ≤ 99553664) (k7 : 2 ≤ x7 ∧ x7 ≤ 6) (k9 : 3 ≤ x9 ∧ x9 ≤ 7) (k12 : 2 ≤ x12 ∧ x12 ≤ 6) (k24 : 0 ≤ x24 ∧ x24 ≤ 99944320) (d0 : x7 + 0 ≤ x12 ∧ x12 ≤ x7 + 0) (f0 : 1 * x24 + ((-1) * x4 + ((-55699) * x9 + (55699 * x7 + 0))) ≤ (-54938)) (f5 : 1 * spareLength_0 + ((-1) * x24 + 0) ≤ 55680) (kz_0_12 : 0 ≤ spareLength_0 ∧ spareLength_0 ≤ 100000000) (ex2 : gx = spareLength_0) : 1 * gx + ((-1) * x4 + ((-55699) * x9 + (55699 * x7 + 0))) ≤ 742 := by
  first | assumption | omega | grind
def o_Ho_writeGroup_at_k2_18 : or_T := (170, 26, [(0, (2, 0, 0, [12])), (4, (0, 0, 99553664, [])), (5, (2, 0, 0, [12])), (7, (0, 2, 6, [])), (9, (0, 3, 7, [])), (10, (0, 4, 8, [])), (12, (0, 2, 6, [])), (15, (0, 0, 99999994, [])), (19, (0, 0, 99999992, [])), (21, (0, 0, 99999997, [])), (24, (0, 0, 99944320, []))], [(23, [24, 4, 9, 7], [-54938, 1, -1, -55699, 55699]), (23, [21, 4, 9, 7], [-54941, 1, -1, -55699, 55699]), (23, [19, 4, 9, 7], [-54949, 1, -1, -55699, 55699]), (23, [15, 4, 9, 7], [-54955, 1, -1, -55699, 55699]), (24, [0, 5], []), (20, [5, 24], [30, 55680, 1, 1, 12, -1, 0, 0]), (102, [24], [261336857795280739939871698507597986398208, 12012]), (23, [24, 4, 9, 7], [-54938, 1, -1, -55699, 55699]), (23, [21, 4, 9, 7], [-54941, 1, -1, -55699, 55699]), (23, [19, 4, 9, 7], [-54949, 1, -1, -55699, 55699]), (23, [15, 4, 9, 7], [-54955, 1, -1, -55699, 55699]), (102, [21], [261336857795280739939871698507597986398208, 12012]), (23, [21, 4, 9, 7], [-54941, 1, -1, -55699, 55699]), (23, [19, 4, 9, 7], [-54949, 1, -1, -55699, 55699]), (23, [15, 4, 9, 7], [-54955, 1, -1, -55699, 55699]), (102, [19], [261336857795280739939871698507597986398208, 12012]), (23, [19, 4, 9, 7], [-54949, 1, -1, -55699, 55699]), (23, [15, 4, 9, 7], [-54955, 1, -1, -55699, 55699]), (102, [15], [261336857795280739939871698507597986398208, 12012]), (23, [15, 4, 9, 7], [-54955, 1, -1, -55699, 55699]), (7, [12, 7], [0]), (7, [9, 10], [2])], [], [(0, 0, 99999998, [])], [(20, [5, 26], [30, 0, 1, 1, 12, -1, 0, 0]), (23, [26, 4, 9, 7], [742, 1, -1, -55699, 55699])], [], [(12, 7, 0, 0), (9, 10, -4294967296, -1), (7, 9, -4294967296, -1)])
theorem oo_Ho_writeGroup_at_k2_18 {kA : Nat → ClassId} : or_ok PRD kA GG o_Ho_writeGroup_at_k2_18 := by
  refine or_mk fun A ta ws vs hD hth hl => ?_
  intro t0 r0 t4 k4 t5 r5 t7 k7 t9 k9 t10 k10 t12 k12 t15 k15 t19 k19 t21 k21 t24 k24 d0 d1 d2 f0 f1 f2 f3 f4 f5 ta1 w1 le1 s1 f7 f8 f9 f10 ta2 w2 le2 s2 f12 f13 f14 ta3 w3 le3 s3 f16 f17 ta4 w4 le4 s4 f19 f20 f21
  replace f0 := shm_250 f0
  replace f1 := shm_249 f1
  replace f2 := shm_248 f2
  replace f3 := shm_247 f3
  replace f4 := shm_5 f4
  replace f5 := shm_251 f5
  replace f7 := shm_250 f7
  replace f8 := shm_249 f8
  replace f9 := shm_248 f9
  replace f10 := shm_247 f10
  replace f12 := shm_249 f12
  replace f13 := shm_248 f13
  replace f14 := shm_247 f14
  replace f16 := shm_248 f16
  replace f17 := shm_247 f17
  replace f19 := shm_247 f19
  replace f20 := shm_37 f20
  replace f21 := shm_6 f21
  have q5 : n_v vs 5 = n_v vs 0 := f4.symm
  simp only [q5] at f5
  have kz_0_12 := fdq_0 hD hth r0
  have kv0 := fdq_0 hD hth r0
  obtain ⟨x, ex, hx⟩ := iv_ex (ta := ta) (lo := 0) (hi := 99999998) (z := w_fi ws (n_v vs 0) 12) (by omega) (by omega) (by omega) (by omega)
  have ex2 : v_iv (Value.int x) = w_fi ws (n_v vs 0) 12 := ex
  have ex3 : 0 ≤ v_iv (Value.int x) ∧ v_iv (Value.int x) ≤ 99999998 := tv_rng hx
  have e_4 : n_v (vs ++ [Value.int x]) 4 = n_v vs 4 := n_v_old (by rw [hl]; decide)
  have e_5 : n_v (vs ++ [Value.int x]) 5 = n_v vs 5 := n_v_old (by rw [hl]; decide)
  have e_7 : n_v (vs ++ [Value.int x]) 7 = n_v vs 7 := n_v_old (by rw [hl]; decide)
  have e_9 : n_v (vs ++ [Value.int x]) 9 = n_v vs 9 := n_v_old (by rw [hl]; decide)
  have e_26 : n_v (vs ++ [Value.int x]) 26 = Value.int x := n_v_new hl
  have nf0 : fc_1 PRD (20, [5, 26], [30, 0, 1, 1, 12, -1, 0, 0]) ws (vs ++ [Value.int x]) := by
    refine ⟨nf_inA hl rfl, sgq_104 ?_⟩
    · show 1 * w_fi ws (n_v (vs ++ [Value.int x]) 5) 12 + ((-1) * v_iv (n_v (vs ++ [Value.int x]) 26) + 0) ≤ 0
      simp only [e_5, e_26, q5]
      exact vc_Ho_writeGroup_at_k2_18_0 (w_fi ws (n_v vs 0) 12) (v_iv (Value.int x)) kz_0_12 ex2
  have nf1 : fc_1 PRD (23, [26, 4, 9, 7], [742, 1, -1, -55699, 55699]) ws (vs ++ [Value.int x]) := by
    refine ⟨nf_inA hl rfl, sgq_252 ?_⟩
    · show 1 * v_iv (n_v (vs ++ [Value.int x]) 26) + ((-1) * v_iv (n_v (vs ++ [Value.int x]) 4) + ((-55699) * v_iv (n_v (vs ++ [Value.int x]) 9) + (55699 * v_iv (n_v (vs ++ [Value.int x]) 7) + 0))) ≤ 742
      simp only [e_4, e_7, e_9, e_26]
      exact vc_Ho_writeGroup_at_k2_18_1 (v_iv (n_v vs 4)) (v_iv (n_v vs 7)) (v_iv (n_v vs 9)) (v_iv (n_v vs 12)) (v_iv (n_v vs 24)) (w_fi ws (n_v vs 0) 12) (v_iv (Value.int x)) k4 k7 k9 k12 k24 d0 f0 f5 kz_0_12 ex2
  exact ⟨(fun _ h => (by cases h)), [Value.int x], ag_one hx, List.forall_mem_cons.mpr ⟨⟨show (20 : Nat) < 100 from by decide, nf0⟩, List.forall_mem_cons.mpr ⟨⟨show (23 : Nat) < 100 from by decide, nf1⟩, (fun _ h => (by cases h))⟩⟩, (fun _ h => (by cases h))⟩
set_option maxHeartbeats 4000000 in
theorem vc_Ho_writeGroup_at_k2_19_0 (x4 : Int) (x7 : Int) (x9 : Int) (x12 : Int) (x26 : Int) (x27 : Int) (spareLength_0 : Int) (k4 : 0 ≤ x4 ∧ x4 ≤ 99553664) (k7 : 2 ≤ x7 ∧ x7 ≤ 6) (k9 : 3 ≤ x9 ∧ x9 ≤ 7) (k12 : 2 ≤ x12 ∧ x12 ≤ 6) (k26 : 0 ≤ x26 ∧ x26 ≤ 99999998) (k27 : 4 ≤ x27 ∧ x27 ≤ 8) (d0 : x9 + 1 ≤ x27 ∧ x27 ≤ x9 + 1) (d2 : x7 + 0 ≤ x12 ∧ x12 ≤ x7 + 0) (f1 : 1 * x26 + ((-1) * x4 + ((-55699) * x9 + (55699 * x7 + 0))) ≤ 742) (f7 : 1 * spareLength_0 + ((-1) * x26 + 0) ≤ 2) (kz_0_12 : 0 ≤ spareLength_0 ∧ spareLength_0 ≤ 100000000) : 1 * spareLength_0 + ((-1) * x4 + ((-55699) * x27 + (55699 * x7 + 0))) ≤ (-54955) := by
  first | assumption | omega | grind
def o_Ho_writeGroup_at_k2_19 : or_T := (100, 28, [(0, (2, 0, 0, [12])), (4, (0, 0, 99553664, [])), (7, (0, 2, 6, [])), (9, (0, 3, 7, [])), (12, (0, 2, 6, [])), (26, (0, 0, 99999998, [])), (27, (0, 4, 8, []))], [(23, [26, 4, 9, 7], [742, 1, -1, -55699, 55699]), (24, [0, 5], []), (20, [5, 26], [30, 2, 1, 1, 12, -1, 0, 0])], [], [], [(20, [5, 4, 27, 7], [30, -54955, 1, 1, 12, -1, 0, 0, -55699, 0, 0, 55699, 0, 0])], [], [(27, 9, 1, 1), (12, 7, 0, 0)])
theorem oo_Ho_writeGroup_at_k2_19 {kA : Nat → ClassId} : or_ok PRD kA GG o_Ho_writeGroup_at_k2_19 := by
  refine or_mk fun A ta ws vs hD hth hl => ?_
  intro t0 r0 t4 k4 t7 k7 t9 k9 t12 k12 t26 k26 t27 k27 d0 d2 f1 f6 f7
  replace f1 := shm_252 f1
  replace f6 := shm_5 f6
  replace f7 := shm_204 f7
  have q5 : n_v vs 5 = n_v vs 0 := f6.symm
  simp only [q5] at f7
  have kz_0_12 := fdq_0 hD hth r0
  have nf0 : fc_1 PRD (20, [5, 4, 27, 7], [30, -54955, 1, 1, 12, -1, 0, 0, -55699, 0, 0, 55699, 0, 0]) ws (vs) := by
    refine ⟨nf_in hl rfl, sgq_246 ?_⟩
    · show 1 * w_fi ws (n_v vs 5) 12 + ((-1) * v_iv (n_v vs 4) + ((-55699) * v_iv (n_v vs 27) + (55699 * v_iv (n_v vs 7) + 0))) ≤ (-54955)
      rw [q5]
      exact vc_Ho_writeGroup_at_k2_19_0 (v_iv (n_v vs 4)) (v_iv (n_v vs 7)) (v_iv (n_v vs 9)) (v_iv (n_v vs 12)) (v_iv (n_v vs 26)) (v_iv (n_v vs 27)) (w_fi ws (n_v vs 0) 12) k4 k7 k9 k12 k26 k27 d0 d2 f1 f7 kz_0_12
  refine ⟨(fun _ h => (by cases h)), [], trivial, ?_, (fun _ h => (by cases h))⟩
  rw [List.append_nil]
  exact List.forall_mem_cons.mpr ⟨⟨show (20 : Nat) < 100 from by decide, nf0⟩, (fun _ h => (by cases h))⟩
def n_Ho_writeGroup_at_k2_an : List an_T := [(3, [(0, (2, 0, 0, [12])), (1, (2, 0, 0, [3])), (2, (0, 2, 7, [])), (3, (0, 2, 2, [])), (4, (0, 0, 24, []))], [], (0, 0), [(0, 0, 99997), (1, 9, 24), (0, 0, 100000)], [(2, 7, (Int.negSucc 999999999999), 0), (7, 2, (Int.negSucc 999999999999), 0)], [], [(2, 0, 0, [12]), (2, 0, 0, [3]), (0, 2, 7, []), (0, 2, 2, []), (0, 0, 99553664, [])], 0, [], [(20, [5, 4, 9], [30, 0, 1, 1, 12, (Int.negSucc 0), 0, 0, (Int.negSucc 30), 0, 0]), (24, [0, 5], [])]), (100, [(0, (2, 0, 0, [12])), (1, (2, 0, 0, [3])), (2, (0, 2, 7, [])), (3, (0, 2, 2, [])), (4, (0, 3, 8, []))], [], (0, 0), [(0, 0, 99900), (1, 9, 8), (0, 0, 100000)], [(2, 7, (Int.negSucc 999999999999), 0), (2, 9, (Int.negSucc 999999999999), (Int.negSucc 0)), (7, 2, (Int.negSucc 999999999999), 0), (7, 9, (Int.negSucc 999999999999), (Int.negSucc 0))], [], [(2, 0, 0, [12]), (2, 0, 0, [3]), (0, 2, 7, []), (0, 2, 2, []), (0, 0, 99553664, [])], 0, [], [(20, [5, 4, 9, 7], [30, (Int.negSucc 54954), 1, 1, 12, (Int.negSucc 0), 0, 0, (Int.negSucc 55698), 0, 0, 55699, 0, 0]), (24, [0, 5], [])])]
def t_Ho_writeGroup_at_k2_ct : ct_L := [(1, 447, e_Ho_writeByte), (1, 471, e_Ho_writeNumber), (85, 461, e_Ho_writeWord_at_s5013), (136, 465, e_Ho_writeName_at_Grname), (190, 461, e_Ho_writeWord_at_s5014), (262, 461, e_Ho_writeWord_at_s5015), (391, 461, e_Ho_writeWord_at_s5016), (442, 465, e_Ho_writeName_at_GrgroupName), (463, 461, e_Ho_writeWord_at_s5017), (493, 364, e_Ho_writeGroup_at_k3), (514, 461, e_Ho_writeWord_at_s5018), (1000001, 459, en_ro [] (2, 0, 0, [5013])), (1000001, 469, en_ro [] (2, 0, 0, [5014])), (1000001, 474, en_ro [] (2, 0, 0, [5015])), (1000001, 476, en_ro [] (2, 0, 0, [5016])), (1000001, 478, en_ro [] (2, 0, 0, [5017])), (1000001, 480, en_ro [] (2, 0, 0, [5018]))]
set_option maxRecDepth 100000 in
theorem c_Ho_writeGroup_at_k2 {l : Launch} {D : va_G} {kA : Nat → ClassId} (h_Ho_writeByte : ct_ok PRD l D kA GG y_Ho_writeByte z_Ho_writeByte e_Ho_writeByte) (h_Ho_writeGroup_at_k3 : ct_ok PRD l D kA GG y_Ho_writeGroup_at_k3 z_Ho_writeGroup_at_k3 e_Ho_writeGroup_at_k3) (h_Ho_writeName_at_GrgroupName : ct_ok PRD l D kA GG y_Ho_writeName_at_GrgroupName z_Ho_writeName_at_GrgroupName e_Ho_writeName_at_GrgroupName) (h_Ho_writeName_at_Grname : ct_ok PRD l D kA GG y_Ho_writeName_at_Grname z_Ho_writeName_at_Grname e_Ho_writeName_at_Grname) (h_Ho_writeNumber : ct_ok PRD l D kA GG y_Ho_writeNumber z_Ho_writeNumber e_Ho_writeNumber) (h_Ho_writeWord_at_s5013 : ct_ok PRD l D kA GG y_Ho_writeWord_at_s5013 z_Ho_writeWord_at_s5013 e_Ho_writeWord_at_s5013) (h_Ho_writeWord_at_s5014 : ct_ok PRD l D kA GG y_Ho_writeWord_at_s5014 z_Ho_writeWord_at_s5014 e_Ho_writeWord_at_s5014) (h_Ho_writeWord_at_s5015 : ct_ok PRD l D kA GG y_Ho_writeWord_at_s5015 z_Ho_writeWord_at_s5015 e_Ho_writeWord_at_s5015) (h_Ho_writeWord_at_s5016 : ct_ok PRD l D kA GG y_Ho_writeWord_at_s5016 z_Ho_writeWord_at_s5016 e_Ho_writeWord_at_s5016) (h_Ho_writeWord_at_s5017 : ct_ok PRD l D kA GG y_Ho_writeWord_at_s5017 z_Ho_writeWord_at_s5017 e_Ho_writeWord_at_s5017) (h_Ho_writeWord_at_s5018 : ct_ok PRD l D kA GG y_Ho_writeWord_at_s5018 z_Ho_writeWord_at_s5018 e_Ho_writeWord_at_s5018) : ct_ok PRD l D kA GG y_Ho_writeGroup_at_k2 z_Ho_writeGroup_at_k2 e_Ho_writeGroup_at_k2 := chk_all_ok (FT := [(132, 3, 0), (144, 3, 2), (169, 3, 4), (172, 3, 5), (175, 3, 6), (221, 3, 11), (224, 3, 13), (230, 3, 3), (233, 3, 12)]) (PT := []) (CT := t_Ho_writeGroup_at_k2_ct) (KT := []) (NT := []) (AN := n_Ho_writeGroup_at_k2_an) (OT := [o_Ho_writeGroup_at_k2_0, o_Ho_writeGroup_at_k2_1, o_Ho_writeGroup_at_k2_2, o_Ho_writeGroup_at_k2_3, o_Ho_writeGroup_at_k2_4, o_Ho_writeGroup_at_k2_5, o_Ho_writeGroup_at_k2_6, o_Ho_writeGroup_at_k2_7, o_Ho_writeGroup_at_k2_8, o_Ho_writeGroup_at_k2_9, o_Ho_writeGroup_at_k2_10, o_Ho_writeGroup_at_k2_11, o_Ho_writeGroup_at_k2_12, o_Ho_writeGroup_at_k2_13, o_Ho_writeGroup_at_k2_14, o_Ho_writeGroup_at_k2_15, o_Ho_writeGroup_at_k2_16, o_Ho_writeGroup_at_k2_17, o_Ho_writeGroup_at_k2_18, o_Ho_writeGroup_at_k2_19]) 3 404 (List.forall_mem_cons.mpr ⟨oo_Ho_writeGroup_at_k2_0, List.forall_mem_cons.mpr ⟨oo_Ho_writeGroup_at_k2_1, List.forall_mem_cons.mpr ⟨oo_Ho_writeGroup_at_k2_2, List.forall_mem_cons.mpr ⟨oo_Ho_writeGroup_at_k2_3, List.forall_mem_cons.mpr ⟨oo_Ho_writeGroup_at_k2_4, List.forall_mem_cons.mpr ⟨oo_Ho_writeGroup_at_k2_5, List.forall_mem_cons.mpr ⟨oo_Ho_writeGroup_at_k2_6, List.forall_mem_cons.mpr ⟨oo_Ho_writeGroup_at_k2_7, List.forall_mem_cons.mpr ⟨oo_Ho_writeGroup_at_k2_8, List.forall_mem_cons.mpr ⟨oo_Ho_writeGroup_at_k2_9, List.forall_mem_cons.mpr ⟨oo_Ho_writeGroup_at_k2_10, List.forall_mem_cons.mpr ⟨oo_Ho_writeGroup_at_k2_11, List.forall_mem_cons.mpr ⟨oo_Ho_writeGroup_at_k2_12, List.forall_mem_cons.mpr ⟨oo_Ho_writeGroup_at_k2_13, List.forall_mem_cons.mpr ⟨oo_Ho_writeGroup_at_k2_14, List.forall_mem_cons.mpr ⟨oo_Ho_writeGroup_at_k2_15, List.forall_mem_cons.mpr ⟨oo_Ho_writeGroup_at_k2_16, List.forall_mem_cons.mpr ⟨oo_Ho_writeGroup_at_k2_17, List.forall_mem_cons.mpr ⟨oo_Ho_writeGroup_at_k2_18, List.forall_mem_cons.mpr ⟨oo_Ho_writeGroup_at_k2_19, List.forall_mem_nil _⟩⟩⟩⟩⟩⟩⟩⟩⟩⟩⟩⟩⟩⟩⟩⟩⟩⟩⟩⟩) (by decide +kernel) ⟨List.forall_mem_cons.mpr ⟨gf_Ho_132, List.forall_mem_cons.mpr ⟨gf_Ho_144, List.forall_mem_cons.mpr ⟨gf_Ho_169, List.forall_mem_cons.mpr ⟨gf_Ho_172, List.forall_mem_cons.mpr ⟨gf_Ho_175, List.forall_mem_cons.mpr ⟨gf_Ho_221, List.forall_mem_cons.mpr ⟨gf_Ho_224, List.forall_mem_cons.mpr ⟨gf_Ho_230, List.forall_mem_cons.mpr ⟨gf_Ho_233, List.forall_mem_nil _⟩⟩⟩⟩⟩⟩⟩⟩⟩, List.forall_mem_nil _, List.forall_mem_cons.mpr ⟨cl_virtual (y := y_Ho_writeByte) (ci := 12) rfl rfl ⟨_, _, rfl⟩ (by decide +kernel) h_Ho_writeByte wm_2345 wm_1 wm_2342 wm_2344 wv_12_0 ⟨by decide, by decide, by decide +kernel⟩ (by decide), List.forall_mem_cons.mpr ⟨cl_virtual (y := y_Ho_writeNumber) (ci := 12) rfl rfl ⟨_, _, rfl⟩ (by decide +kernel) h_Ho_writeNumber wm_2354 wm_1 wm_2351 wm_2353 wv_12_2 ⟨by decide, by decide, by decide +kernel⟩ (by decide), List.forall_mem_cons.mpr ⟨cl_virtual (y := y_Ho_writeWord_at_s5013) (ci := 12) rfl rfl ⟨_, _, rfl⟩ (by decide +kernel) h_Ho_writeWord_at_s5013 wm_2339 wm_1 wm_2336 wm_2338 wv_11_15 ⟨by decide, by decide, by decide +kernel⟩ (by decide), List.forall_mem_cons.mpr ⟨cl_virtual (y := y_Ho_writeName_at_Grname) (ci := 12) rfl rfl ⟨_, _, rfl⟩ (by decide +kernel) h_Ho_writeName_at_Grname wm_2349 wm_1 wm_2346 wm_2348 wv_12_1 ⟨by decide, by decide, by decide +kernel⟩ (by decide), List.forall_mem_cons.mpr ⟨cl_virtual (y := y_Ho_writeWord_at_s5014) (ci := 12) rfl rfl ⟨_, _, rfl⟩ (by decide +kernel) h_Ho_writeWord_at_s5014 wm_2339 wm_1 wm_2336 wm_2338 wv_11_15 ⟨by decide, by decide, by decide +kernel⟩ (by decide), List.forall_mem_cons.mpr ⟨cl_virtual (y := y_Ho_writeWord_at_s5015) (ci := 12) rfl rfl ⟨_, _, rfl⟩ (by decide +kernel) h_Ho_writeWord_at_s5015 wm_2339 wm_1 wm_2336 wm_2338 wv_11_15 ⟨by decide, by decide, by decide +kernel⟩ (by decide), List.forall_mem_cons.mpr ⟨cl_virtual (y := y_Ho_writeWord_at_s5016) (ci := 12) rfl rfl ⟨_, _, rfl⟩ (by decide +kernel) h_Ho_writeWord_at_s5016 wm_2339 wm_1 wm_2336 wm_2338 wv_11_15 ⟨by decide, by decide, by decide +kernel⟩ (by decide), List.forall_mem_cons.mpr ⟨cl_virtual (y := y_Ho_writeName_at_GrgroupName) (ci := 12) rfl rfl ⟨_, _, rfl⟩ (by decide +kernel) h_Ho_writeName_at_GrgroupName wm_2349 wm_1 wm_2346 wm_2348 wv_12_1 ⟨by decide, by decide, by decide +kernel⟩ (by decide), List.forall_mem_cons.mpr ⟨cl_virtual (y := y_Ho_writeWord_at_s5017) (ci := 12) rfl rfl ⟨_, _, rfl⟩ (by decide +kernel) h_Ho_writeWord_at_s5017 wm_2339 wm_1 wm_2336 wm_2338 wv_11_15 ⟨by decide, by decide, by decide +kernel⟩ (by decide), List.forall_mem_cons.mpr ⟨cl_virtual (y := y_Ho_writeGroup_at_k3) (ci := 12) rfl rfl ⟨_, _, rfl⟩ (by decide +kernel) h_Ho_writeGroup_at_k3 wm_2334 wm_1 wm_2331 wm_2333 wv_11_14 ⟨by decide, by decide, by decide +kernel⟩ (by decide), List.forall_mem_cons.mpr ⟨cl_virtual (y := y_Ho_writeWord_at_s5018) (ci := 12) rfl rfl ⟨_, _, rfl⟩ (by decide +kernel) h_Ho_writeWord_at_s5018 wm_2339 wm_1 wm_2336 wm_2338 wv_11_15 ⟨by decide, by decide, by decide +kernel⟩ (by decide), List.forall_mem_cons.mpr ⟨cl_ldcw (own := "DrawingHouse") (idx := 459) (i := 13) (tx := "node ") (by decide +kernel) (by decide +kernel) (by decide +kernel), List.forall_mem_cons.mpr ⟨cl_ldcw (own := "DrawingHouse") (idx := 469) (i := 14) (tx := " [size=") (by decide +kernel) (by decide +kernel) (by decide +kernel), List.forall_mem_cons.mpr ⟨cl_ldcw (own := "DrawingHouse") (idx := 474) (i := 15) (tx := ";\n") (by decide +kernel) (by decide +kernel) (by decide +kernel), List.forall_mem_cons.mpr ⟨cl_ldcw (own := "DrawingHouse") (idx := 476) (i := 16) (tx := "group ") (by decide +kernel) (by decide +kernel) (by decide +kernel), List.forall_mem_cons.mpr ⟨cl_ldcw (own := "DrawingHouse") (idx := 478) (i := 17) (tx := " {\n") (by decide +kernel) (by decide +kernel) (by decide +kernel), List.forall_mem_cons.mpr ⟨cl_ldcw (own := "DrawingHouse") (idx := 480) (i := 18) (tx := "}\n") (by decide +kernel) (by decide +kernel) (by decide +kernel), List.forall_mem_nil _⟩⟩⟩⟩⟩⟩⟩⟩⟩⟩⟩⟩⟩⟩⟩⟩⟩, List.forall_mem_nil _, List.forall_mem_nil _, GG_pl⟩ (by decide +kernel)

set_option maxHeartbeats 4000000 in
theorem vc_Ho_writeGroup_at_k3_0_0 (x4 : Int) (x5 : Int) (spareLength_0 : Int) (k4 : 0 ≤ x4 ∧ x4 ≤ 99944320) (k5 : 0 ≤ x5 ∧ x5 ≤ 0) (f0 : 1 * spareLength_0 + ((-1) * x4 + 0) ≤ 0) (kz_0_12 : 0 ≤ spareLength_0 ∧ spareLength_0 ≤ 100000000) : 1 * spareLength_0 + ((-1) * x4 + ((-31) * x5 + 0)) ≤ 0 := by
  first | assumption | omega | grind
def o_Ho_writeGroup_at_k3_0 : or_T := (3, 6, [(0, (2, 0, 0, [12])), (4, (0, 0, 99944320, [])), (5, (0, 0, 0, []))], [(20, [0, 4], [30, 0, 1, 1, 12, -1, 0, 0])], [], [], [(20, [0, 4, 5], [30, 0, 1, 1, 12, -1, 0, 0, -31, 0, 0]), (24, [0, 0], [])], [], [])
theorem oo_Ho_writeGroup_at_k3_0 {kA : Nat → ClassId} : or_ok PRD kA GG o_Ho_writeGroup_at_k3_0 := by
  refine or_mk fun A ta ws vs hD hth hl => ?_
  intro t0 r0 t4 k4 t5 k5 f0
  have kz_0_12 := fdq_0 hD hth r0
  have nf0 : fc_1 PRD (20, [0, 4, 5], [30, 0, 1, 1, 12, -1, 0, 0, -31, 0, 0]) ws (vs) := ⟨nf_in hl rfl, sgq_224 (vc_Ho_writeGroup_at_k3_0_0 (v_iv (n_v vs 4)) (v_iv (n_v vs 5)) (w_fi ws (n_v vs 0) 12) k4 k5 (shm_104 f0) kz_0_12)⟩
  have nf1 : fc_1 PRD (24, [0, 0], []) ws (vs) := by
    refine ⟨nf_in hl rfl, sgq_1 ?_⟩
    · show n_v vs 0 = n_v vs 0
      first | rfl | simp only [true_and]
  refine ⟨(fun _ h => (by cases h)), [], trivial, ?_, (fun _ h => (by cases h))⟩
  rw [List.append_nil]
  exact List.forall_mem_cons.mpr ⟨⟨show (20 : Nat) < 100 from by decide, nf0⟩, List.forall_mem_cons.mpr ⟨⟨show (24 : Nat) < 100 from by decide, nf1⟩, (fun _ h => (by cases h))⟩⟩
set_option maxHeartbeats 4000000 in
theorem vc_Ho_writeGroup_at_k3_1_0 (x4 : Int) (x7 : Int) (x9 : Int) (x12 : Int) (spareLength_0 : Int) (k4 : 0 ≤ x4 ∧ x4 ≤ 99944320) (k7 : 3 ≤ x7 ∧ x7 ≤ 7) (k9 : 0 ≤ x9 ∧ x9 ≤ 24) (k12 : 4 ≤ x12 ∧ x12 ≤ 8) (d0 : x7 + 1 ≤ x12 ∧ x12 ≤ x7 + 1) (f3 : 1 * spareLength_0 + ((-1) * x4 + ((-31) * x9 + 0)) ≤ 0) (kz_0_12 : 0 ≤ spareLength_0 ∧ spareLength_0 ≤ 100000000) : 1 * spareLength_0 + ((-1) * x4 + ((-6867) * x12 + (6867 * x7 + 0))) ≤ (-6123) := by
  first | assumption | omega | grind
def o_Ho_writeGroup_at_k3_1 : or_T := (100, 13, [(0, (2, 0, 0, [12])), (4, (0, 0, 99944320, [])), (7, (0, 3, 7, [])), (9, (0, 0, 24, [])), (12, (0, 4, 8, []))], [(20, [5, 4, 9], [30, 0, 1, 1, 12, -1, 0, 0, -31, 0, 0]), (24, [0, 5], [])], [], [], [(20, [5, 4, 12, 7], [30, -6123, 1, 1, 12, -1, 0, 0, -6867, 0, 0, 6867, 0, 0])], [], [(12, 7, 1, 1)])
theorem oo_Ho_writeGroup_at_k3_1 {kA : Nat → ClassId} : or_ok PRD kA GG o_Ho_writeGroup_at_k3_1 := by
  refine or_mk fun A ta ws vs hD hth hl => ?_
  intro t0 r0 t4 k4 t7 k7 t9 k9 t12 k12 d0 f3 f4
  replace f3 := shm_224 f3
  replace f4 := shm_5 f4
  have q5 : n_v vs 5 = n_v vs 0 := f4.symm
  simp only [q5] at f3
  have kz_0_12 := fdq_0 hD hth r0
  have nf0 : fc_1 PRD (20, [5, 4, 12, 7], [30, -6123, 1, 1, 12, -1, 0, 0, -6867, 0, 0, 6867, 0, 0]) ws (vs) := by
    refine ⟨nf_in hl rfl, sgq_253 ?_⟩
    · show 1 * w_fi ws (n_v vs 5) 12 + ((-1) * v_iv (n_v vs 4) + ((-6867) * v_iv (n_v vs 12) + (6867 * v_iv (n_v vs 7) + 0))) ≤ (-6123)
      rw [q5]
      exact vc_Ho_writeGroup_at_k3_1_0 (v_iv (n_v vs 4)) (v_iv (n_v vs 7)) (v_iv (n_v vs 9)) (v_iv (n_v vs 12)) (w_fi ws (n_v vs 0) 12) k4 k7 k9 k12 d0 f3 kz_0_12
  refine ⟨(fun _ h => (by cases h)), [], trivial, ?_, (fun _ h => (by cases h))⟩
  rw [List.append_nil]
  exact List.forall_mem_cons.mpr ⟨⟨show (20 : Nat) < 100 from by decide, nf0⟩, (fun _ h => (by cases h))⟩
set_option maxHeartbeats 4000000 in
theorem vc_Ho_writeGroup_at_k3_2_0 (x4 : Int) (x9 : Int) (x13 : Int) (spareLength_0 : Int) (k4 : 0 ≤ x4 ∧ x4 ≤ 99944320) (k9 : 0 ≤ x9 ∧ x9 ≤ 23) (k13 : 1 ≤ x13 ∧ x13 ≤ 24) (d0 : x9 + 1 ≤ x13 ∧ x13 ≤ x9 + 1) (f3 : 1 * spareLength_0 + ((-1) * x4 + ((-31) * x9 + 0)) ≤ 0) (kz_0_12 : 0 ≤ spareLength_0 ∧ spareLength_0 ≤ 100000000) : 1 * spareLength_0 + ((-1) * x4 + ((-31) * x13 + 0)) ≤ 0 := by
  first | assumption | omega | grind
def o_Ho_writeGroup_at_k3_2 : or_T := (3, 14, [(0, (2, 0, 0, [12])), (4, (0, 0, 99944320, [])), (9, (0, 0, 23, [])), (13, (0, 1, 24, []))], [(20, [5, 4, 9], [30, 0, 1, 1, 12, -1, 0, 0, -31, 0, 0]), (24, [0, 5], [])], [], [], [(20, [5, 4, 13], [30, 0, 1, 1, 12, -1, 0, 0, -31, 0, 0])], [], [(13, 9, 1, 1)])
theorem oo_Ho_writeGroup_at_k3_2 {kA : Nat → ClassId} : or_ok PRD kA GG o_Ho_writeGroup_at_k3_2 := by
  refine or_mk fun A ta ws vs hD hth hl => ?_
  intro t0 r0 t4 k4 t9 k9 t13 k13 d0 f3 f4
  replace f3 := shm_224 f3
  replace f4 := shm_5 f4
  have q5 : n_v vs 5 = n_v vs 0 := f4.symm
  simp only [q5] at f3
  have kz_0_12 := fdq_0 hD hth r0
  have nf0 : fc_1 PRD (20, [5, 4, 13], [30, 0, 1, 1, 12, -1, 0, 0, -31, 0, 0]) ws (vs) := by
    refine ⟨nf_in hl rfl, sgq_224 ?_⟩
    · show 1 * w_fi ws (n_v vs 5) 12 + ((-1) * v_iv (n_v vs 4) + ((-31) * v_iv (n_v vs 13) + 0)) ≤ 0
      rw [q5]
      exact vc_Ho_writeGroup_at_k3_2_0 (v_iv (n_v vs 4)) (v_iv (n_v vs 9)) (v_iv (n_v vs 13)) (w_fi ws (n_v vs 0) 12) k4 k9 k13 d0 f3 kz_0_12
  refine ⟨(fun _ h => (by cases h)), [], trivial, ?_, (fun _ h => (by cases h))⟩
  rw [List.append_nil]
  exact List.forall_mem_cons.mpr ⟨⟨show (20 : Nat) < 100 from by decide, nf0⟩, (fun _ h => (by cases h))⟩
set_option maxHeartbeats 4000000 in
theorem vc_Ho_writeGroup_at_k3_3_0 (spareLength_0 : Int) (gx : Int) (kz_0_12 : 0 ≤ spareLength_0 ∧ spareLength_0 ≤ 100000000) (ex2 : gx = spareLength_0) : 1 * spareLength_0 + ((-1) * gx + 0) ≤ 0 := by
  first | assumption | omega | grind
set_option maxHeartbeats 4000000 in
theorem vc_Ho_writeGroup_at_k3_3_1 (x4 : Int) (x9 : Int) (spareLength_0 : Int) (gx : Int) (k4 : 0 ≤ x4 ∧ x4 ≤ 99944320) (k9 : 0 ≤ x9 ∧ x9 ≤ 23) (f2 : 1 * spareLength_0 + ((-1) * x4 + ((-31) * x9 + 0)) ≤ 0) (kz_0_12 : 0 ≤ spareLength_0 ∧ spareLength_0 ≤ 100000000) (ex2 : gx = spareLength_0) : 1 * gx + ((-1) * x4 + ((-31) * x9 + 0)) ≤ 0 := by
  first | assumption | omega | grind
def o_Ho_writeGroup_at_k3_3 : or_T := (27, 14, [(0, (2, 0, 0, [12])), (4, (0, 0, 99944320, [])), (5, (2, 0, 0, [12])), (6, (2, 0, 0, [3])), (9, (0, 0, 23, [])), (10, (0, 1, 24, []))], [(7, [9, 10], [2]), (9, [10, 6], [0]), (20, [5, 4, 9], [30, 0, 1, 1, 12, -1, 0, 0, -31, 0, 0]), (24, [0, 5], [])], [], [(0, 0, 99999995, [])], [(20, [5, 14], [30, 0, 1, 1, 12, -1, 0, 0]), (23, [14, 4, 9], [0, 1, -1, -31])], [], [(9, 10, -4294967296, -1)])
theorem oo_Ho_writeGroup_at_k3_3 {kA : Nat → ClassId} : or_ok PRD kA GG o_Ho_writeGroup_at_k3_3 := by
  refine or_mk fun A ta ws vs hD hth hl => ?_
  intro t0 r0 t4 k4 t5 r5 t6 r6 t9 k9 t10 k10 d0 f0 f1 f2 f3
  replace f0 := shm_6 f0
  replace f1 := shm_163 f1
  replace f2 := shm_224 f2
  replace f3 := shm_5 f3
  have q5 : n_v vs 5 = n_v vs 0 := f3.symm
  simp only [q5] at f2
  have g1 : v_iv (n_v vs 10) = w_fi ws (n_v vs 6) 0 := congrArg v_iv f1
  have kz_0_12 := fdq_0 hD hth r0
  have kz_6_0 := fdq_21 hD hth r6
  have kv0 := fdq_0 hD hth r0
  obtain ⟨x, ex, hx⟩ := iv_ex (ta := ta) (lo := 0) (hi := 99999995) (z := w_fi ws (n_v vs 0) 12) (by omega) (by omega) (by omega) (by omega)
  have ex2 : v_iv (Value.int x) = w_fi ws (n_v vs 0) 12 := ex
  have ex3 : 0 ≤ v_iv (Value.int x) ∧ v_iv (Value.int x) ≤ 99999995 := tv_rng hx
  have e_4 : n_v (vs ++ [Value.int x]) 4 = n_v vs 4 := n_v_old (by rw [hl]; decide)
  have e_5 : n_v (vs ++ [Value.int x]) 5 = n_v vs 5 := n_v_old (by rw [hl]; decide)
  have e_9 : n_v (vs ++ [Value.int x]) 9 = n_v vs 9 := n_v_old (by rw [hl]; decide)
  have e_14 : n_v (vs ++ [Value.int x]) 14 = Value.int x := n_v_new hl
  have nf0 : fc_1 PRD (20, [5, 14], [30, 0, 1, 1, 12, -1, 0, 0]) ws (vs ++ [Value.int x]) := by
    refine ⟨nf_inA hl rfl, sgq_104 ?_⟩
    · show 1 * w_fi ws (n_v (vs ++ [Value.int x]) 5) 12 + ((-1) * v_iv (n_v (vs ++ [Value.int x]) 14) + 0) ≤ 0
      simp only [e_5, e_14, q5]
      exact vc_Ho_writeGroup_at_k3_3_0 (w_fi ws (n_v vs 0) 12) (v_iv (Value.int x)) kz_0_12 ex2
  have nf1 : fc_1 PRD (23, [14, 4, 9], [0, 1, -1, -31]) ws (vs ++ [Value.int x]) := by
    refine ⟨nf_inA hl rfl, sgq_226 ?_⟩
    · show 1 * v_iv (n_v (vs ++ [Value.int x]) 14) + ((-1) * v_iv (n_v (vs ++ [Value.int x]) 4) + ((-31) * v_iv (n_v (vs ++ [Value.int x]) 9) + 0)) ≤ 0
      simp only [e_4, e_9, e_14]
      exact vc_Ho_writeGroup_at_k3_3_1 (v_iv (n_v vs 4)) (v_iv (n_v vs 9)) (w_fi ws (n_v vs 0) 12) (v_iv (Value.int x)) k4 k9 f2 kz_0_12 ex2
  exact ⟨(fun _ h => (by cases h)), [Value.int x], ag_one hx, List.forall_mem_cons.mpr ⟨⟨show (20 : Nat) < 100 from by decide, nf0⟩, List.forall_mem_cons.mpr ⟨⟨show (23 : Nat) < 100 from by decide, nf1⟩, (fun _ h => (by cases h))⟩⟩, (fun _ h => (by cases h))⟩
set_option maxHeartbeats 4000000 in
theorem vc_Ho_writeGroup_at_k3_4_0 (spareLength_0 : Int) (gx : Int) (kz_0_12 : 0 ≤ spareLength_0 ∧ spareLength_0 ≤ 100000000) (ex2 : gx = spareLength_0) : 1 * spareLength_0 + ((-1) * gx + 0) ≤ 0 := by
  first | assumption | omega | grind
set_option maxHeartbeats 4000000 in
theorem vc_Ho_writeGroup_at_k3_4_1 (x4 : Int) (x9 : Int) (x14 : Int) (spareLength_0 : Int) (gx : Int) (k4 : 0 ≤ x4 ∧ x4 ≤ 99944320) (k9 : 0 ≤ x9 ∧ x9 ≤ 23) (k14 : 0 ≤ x14 ∧ x14 ≤ 99999995) (f0 : 1 * x14 + ((-1) * x4 + ((-31) * x9 + 0)) ≤ 0) (f2 : 1 * spareLength_0 + ((-1) * x14 + 0) ≤ 5) (kz_0_12 : 0 ≤ spareLength_0 ∧ spareLength_0 ≤ 100000000) (ex2 : gx = spareLength_0) : 1 * gx + ((-1) * x4 + ((-31) * x9 + 0)) ≤ 5 := by
  first | assumption | omega | grind
def o_Ho_writeGroup_at_k3_4 : or_T := (44, 18, [(0, (2, 0, 0, [12])), (4, (0, 0, 99944320, [])), (5, (2, 0, 0, [12])), (9, (0, 0, 23, [])), (10, (0, 1, 24, [])), (14, (0, 0, 99999995, []))], [(23, [14, 4, 9], [0, 1, -1, -31]), (24, [0, 5], []), (20, [5, 14], [30, 5, 1, 1, 12, -1, 0, 0]), (102, [14], [261336857795280739939871698507597986398208, 12012]), (23, [14, 4, 9], [0, 1, -1, -31]), (7, [9, 10], [2])], [], [(0, 0, 99999992, [])], [(20, [5, 18], [30, 0, 1, 1, 12, -1, 0, 0]), (23, [18, 4, 9], [5, 1, -1, -31])], [], [(9, 10, -4294967296, -1)])
theorem oo_Ho_writeGroup_at_k3_4 {kA : Nat → ClassId} : or_ok PRD kA GG o_Ho_writeGroup_at_k3_4 := by
  refine or_mk fun A ta ws vs hD hth hl => ?_
  intro t0 r0 t4 k4 t5 r5 t9 k9 t10 k10 t14 k14 d0 f0 f1 f2 ta1 w1 le1 s1 f4 f5
  replace f0 := shm_226 f0
  replace f1 := shm_5 f1
  replace f2 := shm_202 f2
  replace f4 := shm_226 f4
  replace f5 := shm_6 f5
  have q5 : n_v vs 5 = n_v vs 0 := f1.symm
  simp only [q5] at f2
  have kz_0_12 := fdq_0 hD hth r0
  have kv0 := fdq_0 hD hth r0
  obtain ⟨x, ex, hx⟩ := iv_ex (ta := ta) (lo := 0) (hi := 99999992) (z := w_fi ws (n_v vs 0) 12) (by omega) (by omega) (by omega) (by omega)
  have ex2 : v_iv (Value.int x) = w_fi ws (n_v vs 0) 12 := ex
  have ex3 : 0 ≤ v_iv (Value.int x) ∧ v_iv (Value.int x) ≤ 99999992 := tv_rng hx
  have e_4 : n_v (vs ++ [Value.int x]) 4 = n_v vs 4 := n_v_old (by rw [hl]; decide)
  have e_5 : n_v (vs ++ [Value.int x]) 5 = n_v vs 5 := n_v_old (by rw [hl]; decide)
  have e_9 : n_v (vs ++ [Value.int x]) 9 = n_v vs 9 := n_v_old (by rw [hl]; decide)
  have e_18 : n_v (vs ++ [Value.int x]) 18 = Value.int x := n_v_new hl
  have nf0 : fc_1 PRD (20, [5, 18], [30, 0, 1, 1, 12, -1, 0, 0]) ws (vs ++ [Value.int x]) := by
    refine ⟨nf_inA hl rfl, sgq_104 ?_⟩
    · show 1 * w_fi ws (n_v (vs ++ [Value.int x]) 5) 12 + ((-1) * v_iv (n_v (vs ++ [Value.int x]) 18) + 0) ≤ 0
      simp only [e_5, e_18, q5]
      exact vc_Ho_writeGroup_at_k3_4_0 (w_fi ws (n_v vs 0) 12) (v_iv (Value.int x)) kz_0_12 ex2
  have nf1 : fc_1 PRD (23, [18, 4, 9], [5, 1, -1, -31]) ws (vs ++ [Value.int x]) := by
    refine ⟨nf_inA hl rfl, sgq_227 ?_⟩
    · show 1 * v_iv (n_v (vs ++ [Value.int x]) 18) + ((-1) * v_iv (n_v (vs ++ [Value.int x]) 4) + ((-31) * v_iv (n_v (vs ++ [Value.int x]) 9) + 0)) ≤ 5
      simp only [e_4, e_9, e_18]
      exact vc_Ho_writeGroup_at_k3_4_1 (v_iv (n_v vs 4)) (v_iv (n_v vs 9)) (v_iv (n_v vs 14)) (w_fi ws (n_v vs 0) 12) (v_iv (Value.int x)) k4 k9 k14 f0 f2 kz_0_12 ex2
  exact ⟨(fun _ h => (by cases h)), [Value.int x], ag_one hx, List.forall_mem_cons.mpr ⟨⟨show (20 : Nat) < 100 from by decide, nf0⟩, List.forall_mem_cons.mpr ⟨⟨show (23 : Nat) < 100 from by decide, nf1⟩, (fun _ h => (by cases h))⟩⟩, (fun _ h => (by cases h))⟩
set_option maxHeartbeats 4000000 in
theorem vc_Ho_writeGroup_at_k3_5_0 (spareLength_0 : Int) (gx : Int) (kz_0_12 : 0 ≤ spareLength_0 ∧ spareLength_0 ≤ 100000000) (ex2 : gx = spareLength_0) : 1 * spareLength_0 + ((-1) * gx + 0) ≤ 0 := by
  first | assumption | omega | grind
set_option maxHeartbeats 4000000 in
theorem vc_Ho_writeGroup_at_k3_5_1 (x4 : Int) (x9 : Int) (x18 : Int) (spareLength_0 : Int) (gx : Int) (k4 : 0 ≤ x4 ∧ x4 ≤ 99944320) (k9 : 0 ≤ x9 ∧ x9 ≤ 23) (k18 : 0 ≤ x18 ∧ x18 ≤ 99999992) (f0 : 1 * x18 + ((-1) * x4 + ((-31) * x9 + 0)) ≤ 5) (f3 : 1 * spareLength_0 + ((-1) * x18 + 0) ≤ 8) (kz_0_12 : 0 ≤ spareLength_0 ∧ spareLength_0 ≤ 100000000) (ex2 : gx = spareLength_0) : 1 * gx + ((-1) * x4 + ((-31) * x9 + 0)) ≤ 29 := by
  first | assumption | omega | grind
def o_Ho_writeGroup_at_k3_5 : or_T := (86, 23, [(0, (2, 0, 0, [12])), (4, (0, 0, 99944320, [])), (5, (2, 0, 0, [12])), (9, (0, 0, 23, [])), (10, (0, 1, 24, [])), (14, (0, 0, 99999995, [])), (18, (0, 0, 99999992, []))], [(23, [18, 4, 9], [5, 1, -1, -31]), (23, [14, 4, 9], [0, 1, -1, -31]), (24, [0, 5], []), (20, [5, 18], [30, 8, 1, 1, 12, -1, 0, 0]), (102, [18], [261336857795280739939871698507597986398208, 12012]), (23, [18, 4, 9], [5, 1, -1, -31]), (23, [14, 4, 9], [0, 1, -1, -31]), (102, [14], [261336857795280739939871698507597986398208, 12012]), (23, [14, 4, 9], [0, 1, -1, -31]), (7, [9, 10], [2])], [], [(0, 0, 99999998, [])], [(20, [5, 23], [30, 0, 1, 1, 12, -1, 0, 0]), (23, [23, 4, 9], [29, 1, -1, -31])], [], [(9, 10, -4294967296, -1)])
theorem oo_Ho_writeGroup_at_k3_5 {kA : Nat → ClassId} : or_ok PRD kA GG o_Ho_writeGroup_at_k3_5 := by
  refine or_mk fun A ta ws vs hD hth hl => ?_
  intro t0 r0 t4 k4 t5 r5 t9 k9 t10 k10 t14 k14 t18 k18 d0 f0 f1 f2 f3 ta1 w1 le1 s1 f5 f6 ta2 w2 le2 s2 f8 f9
  replace f0 := shm_227 f0
  replace f1 := shm_226 f1
  replace f2 := shm_5 f2
  replace f3 := shm_135 f3
  replace f5 := shm_227 f5
  replace f6 := shm_226 f6
  replace f8 := shm_226 f8
  replace f9 := shm_6 f9
  have q5 : n_v vs 5 = n_v vs 0 := f2.symm
  simp only [q5] at f3
  have kz_0_12 := fdq_0 hD hth r0
  have kv0 := fdq_0 hD hth r0
  obtain ⟨x, ex, hx⟩ := iv_ex (ta := ta) (lo := 0) (hi := 99999998) (z := w_fi ws (n_v vs 0) 12) (by omega) (by omega) (by omega) (by omega)
  have ex2 : v_iv (Value.int x) = w_fi ws (n_v vs 0) 12 := ex
  have ex3 : 0 ≤ v_iv (Value.int x) ∧ v_iv (Value.int x) ≤ 99999998 := tv_rng hx
  have e_4 : n_v (vs ++ [Value.int x]) 4 = n_v vs 4 := n_v_old (by rw [hl]; decide)
  have e_5 : n_v (vs ++ [Value.int x]) 5 = n_v vs 5 := n_v_old (by rw [hl]; decide)
  have e_9 : n_v (vs ++ [Value.int x]) 9 = n_v vs 9 := n_v_old (by rw [hl]; decide)
  have e_23 : n_v (vs ++ [Value.int x]) 23 = Value.int x := n_v_new hl
  have nf0 : fc_1 PRD (20, [5, 23], [30, 0, 1, 1, 12, -1, 0, 0]) ws (vs ++ [Value.int x]) := by
    refine ⟨nf_inA hl rfl, sgq_104 ?_⟩
    · show 1 * w_fi ws (n_v (vs ++ [Value.int x]) 5) 12 + ((-1) * v_iv (n_v (vs ++ [Value.int x]) 23) + 0) ≤ 0
      simp only [e_5, e_23, q5]
      exact vc_Ho_writeGroup_at_k3_5_0 (w_fi ws (n_v vs 0) 12) (v_iv (Value.int x)) kz_0_12 ex2
  have nf1 : fc_1 PRD (23, [23, 4, 9], [29, 1, -1, -31]) ws (vs ++ [Value.int x]) := by
    refine ⟨nf_inA hl rfl, sgq_228 ?_⟩
    · show 1 * v_iv (n_v (vs ++ [Value.int x]) 23) + ((-1) * v_iv (n_v (vs ++ [Value.int x]) 4) + ((-31) * v_iv (n_v (vs ++ [Value.int x]) 9) + 0)) ≤ 29
      simp only [e_4, e_9, e_23]
      exact vc_Ho_writeGroup_at_k3_5_1 (v_iv (n_v vs 4)) (v_iv (n_v vs 9)) (v_iv (n_v vs 18)) (w_fi ws (n_v vs 0) 12) (v_iv (Value.int x)) k4 k9 k18 f0 f3 kz_0_12 ex2
  exact ⟨(fun _ h => (by cases h)), [Value.int x], ag_one hx, List.forall_mem_cons.mpr ⟨⟨show (20 : Nat) < 100 from by decide, nf0⟩, List.forall_mem_cons.mpr ⟨⟨show (23 : Nat) < 100 from by decide, nf1⟩, (fun _ h => (by cases h))⟩⟩, (fun _ h => (by cases h))⟩
set_option maxHeartbeats 4000000 in
theorem vc_Ho_writeGroup_at_k3_6_0 (x4 : Int) (x9 : Int) (x23 : Int) (x24 : Int) (spareLength_0 : Int) (k4 : 0 ≤ x4 ∧ x4 ≤ 99944320) (k9 : 0 ≤ x9 ∧ x9 ≤ 23) (k23 : 0 ≤ x23 ∧ x23 ≤ 99999998) (k24 : 1 ≤ x24 ∧ x24 ≤ 24) (d0 : x9 + 1 ≤ x24 ∧ x24 ≤ x9 + 1) (f1 : 1 * x23 + ((-1) * x4 + ((-31) * x9 + 0)) ≤ 29) (f5 : 1 * spareLength_0 + ((-1) * x23 + 0) ≤ 2) (kz_0_12 : 0 ≤ spareLength_0 ∧ spareLength_0 ≤ 100000000) : 1 * spareLength_0 + ((-1) * x4 + ((-31) * x24 + 0)) ≤ 0 := by
  first | assumption | omega | grind
def o_Ho_writeGroup_at_k3_6 : or_T := (3, 25, [(0, (2, 0, 0, [12])), (4, (0, 0, 99944320, [])), (9, (0, 0, 23, [])), (23, (0, 0, 99999998, [])), (24, (0, 1, 24, []))], [(23, [23, 4, 9], [29, 1, -1, -31]), (24, [0, 5], []), (20, [5, 23], [30, 2, 1, 1, 12, -1, 0, 0])], [], [], [(20, [5, 4, 24], [30, 0, 1, 1, 12, -1, 0, 0, -31, 0, 0])], [], [(24, 9, 1, 1)])
theorem oo_Ho_writeGroup_at_k3_6 {kA : Nat → ClassId} : or_ok PRD kA GG o_Ho_writeGroup_at_k3_6 := by
  refine or_mk fun A ta ws vs hD hth hl => ?_
  intro t0 r0 t4 k4 t9 k9 t23 k23 t24 k24 d0 f1 f4 f5
  replace f1 := shm_228 f1
  replace f4 := shm_5 f4
  replace f5 := shm_204 f5
  have q5 : n_v vs 5 = n_v vs 0 := f4.symm
  simp only [q5] at f5
  have kz_0_12 := fdq_0 hD hth r0
  have nf0 : fc_1 PRD (20, [5, 4, 24], [30, 0, 1, 1, 12, -1, 0, 0, -31, 0, 0]) ws (vs) := by
    refine ⟨nf_in hl rfl, sgq_224 ?_⟩
    · show 1 * w_fi ws (n_v vs 5) 12 + ((-1) * v_iv (n_v vs 4) + ((-31) * v_iv (n_v vs 24) + 0)) ≤ 0
      rw [q5]
      exact vc_Ho_writeGroup_at_k3_6_0 (v_iv (n_v vs 4)) (v_iv (n_v vs 9)) (v_iv (n_v vs 23)) (v_iv (n_v vs 24)) (w_fi ws (n_v vs 0) 12) k4 k9 k23 k24 d0 f1 f5 kz_0_12
  refine ⟨(fun _ h => (by cases h)), [], trivial, ?_, (fun _ h => (by cases h))⟩
  rw [List.append_nil]
  exact List.forall_mem_cons.mpr ⟨⟨show (20 : Nat) < 100 from by decide, nf0⟩, (fun _ h => (by cases h))⟩
set_option maxHeartbeats 4000000 in
theorem vc_Ho_writeGroup_at_k3_7_0 (spareLength_0 : Int) (gx : Int) (kz_0_12 : 0 ≤ spareLength_0 ∧ spareLength_0 ≤ 100000000) (ex2 : gx = spareLength_0) : 1 * spareLength_0 + ((-1) * gx + 0) ≤ 0 := by
  first | assumption | omega | grind
set_option maxHeartbeats 4000000 in
theorem vc_Ho_writeGroup_at_k3_7_1 (x4 : Int) (x9 : Int) (x18 : Int) (spareLength_0 : Int) (gx : Int) (k4 : 0 ≤ x4 ∧ x4 ≤ 99944320) (k9 : 0 ≤ x9 ∧ x9 ≤ 23) (k18 : 0 ≤ x18 ∧ x18 ≤ 99999992) (f0 : 1 * x18 + ((-1) * x4 + ((-31) * x9 + 0)) ≤ 5) (f3 : 1 * spareLength_0 + ((-1) * x18 + 0) ≤ 8) (kz_0_12 : 0 ≤ spareLength_0 ∧ spareLength_0 ≤ 100000000) (ex2 : gx = spareLength_0) : 1 * gx + ((-1) * x4 + ((-31) * x9 + 0)) ≤ 13 := by
  first | assumption | omega | grind
def o_Ho_writeGroup_at_k3_7 : or_T := (62, 23, [(0, (2, 0, 0, [12])), (4, (0, 0, 99944320, [])), (5, (2, 0, 0, [12])), (9, (0, 0, 23, [])), (10, (0, 1, 24, [])), (14, (0, 0, 99999995, [])), (18, (0, 0, 99999992, []))], [(23, [18, 4, 9], [5, 1, -1, -31]), (23, [14, 4, 9], [0, 1, -1, -31]), (24, [0, 5], []), (20, [5, 18], [30, 8, 1, 1, 12, -1, 0, 0]), (102, [18], [261336857795280739939871698507597986398208, 12012]), (23, [18, 4, 9], [5, 1, -1, -31]), (23, [14, 4, 9], [0, 1, -1, -31]), (102, [14], [261336857795280739939871698507597986398208, 12012]), (23, [14, 4, 9], [0, 1, -1, -31]), (7, [9, 10], [2])], [], [(0, 0, 99999993, [])], [(20, [5, 23], [30, 0, 1, 1, 12, -1, 0, 0]), (23, [23, 4, 9], [13, 1, -1, -31])], [], [(9, 10, -4294967296, -1)])
theorem oo_Ho_writeGroup_at_k3_7 {kA : Nat → ClassId} : or_ok PRD kA GG o_Ho_writeGroup_at_k3_7 := by
  refine or_mk fun A ta ws vs hD hth hl => ?_
  intro t0 r0 t4 k4 t5 r5 t9 k9 t10 k10 t14 k14 t18 k18 d0 f0 f1 f2 f3 ta1 w1 le1 s1 f5 f6 ta2 w2 le2 s2 f8 f9
  replace f0 := shm_227 f0
  replace f1 := shm_226 f1
  replace f2 := shm_5 f2
  replace f3 := shm_135 f3
  replace f5 := shm_227 f5
  replace f6 := shm_226 f6
  replace f8 := shm_226 f8
  replace f9 := shm_6 f9
  have q5 : n_v vs 5 = n_v vs 0 := f2.symm
  simp only [q5] at f3
  have kz_0_12 := fdq_0 hD hth r0
  have kv0 := fdq_0 hD hth r0
  obtain ⟨x, ex, hx⟩ := iv_ex (ta := ta) (lo := 0) (hi := 99999993) (z := w_fi ws (n_v vs 0) 12) (by omega) (by omega) (by omega) (by omega)
  have ex2 : v_iv (Value.int x) = w_fi ws (n_v vs 0) 12 := ex
  have ex3 : 0 ≤ v_iv (Value.int x) ∧ v_iv (Value.int x) ≤ 99999993 := tv_rng hx
  have e_4 : n_v (vs ++ [Value.int x]) 4 = n_v vs 4 := n_v_old (by rw [hl]; decide)
  have e_5 : n_v (vs ++ [Value.int x]) 5 = n_v vs 5 := n_v_old (by rw [hl]; decide)
  have e_9 : n_v (vs ++ [Value.int x]) 9 = n_v vs 9 := n_v_old (by rw [hl]; decide)
  have e_23 : n_v (vs ++ [Value.int x]) 23 = Value.int x := n_v_new hl
  have nf0 : fc_1 PRD (20, [5, 23], [30, 0, 1, 1, 12, -1, 0, 0]) ws (vs ++ [Value.int x]) := by
    refine ⟨nf_inA hl rfl, sgq_104 ?_⟩
    · show 1 * w_fi ws (n_v (vs ++ [Value.int x]) 5) 12 + ((-1) * v_iv (n_v (vs ++ [Value.int x]) 23) + 0) ≤ 0
      simp only [e_5, e_23, q5]
      exact vc_Ho_writeGroup_at_k3_7_0 (w_fi ws (n_v vs 0) 12) (v_iv (Value.int x)) kz_0_12 ex2
  have nf1 : fc_1 PRD (23, [23, 4, 9], [13, 1, -1, -31]) ws (vs ++ [Value.int x]) := by
    refine ⟨nf_inA hl rfl, sgq_229 ?_⟩
    · show 1 * v_iv (n_v (vs ++ [Value.int x]) 23) + ((-1) * v_iv (n_v (vs ++ [Value.int x]) 4) + ((-31) * v_iv (n_v (vs ++ [Value.int x]) 9) + 0)) ≤ 13
      simp only [e_4, e_9, e_23]
      exact vc_Ho_writeGroup_at_k3_7_1 (v_iv (n_v vs 4)) (v_iv (n_v vs 9)) (v_iv (n_v vs 18)) (w_fi ws (n_v vs 0) 12) (v_iv (Value.int x)) k4 k9 k18 f0 f3 kz_0_12 ex2
  exact ⟨(fun _ h => (by cases h)), [Value.int x], ag_one hx, List.forall_mem_cons.mpr ⟨⟨show (20 : Nat) < 100 from by decide, nf0⟩, List.forall_mem_cons.mpr ⟨⟨show (23 : Nat) < 100 from by decide, nf1⟩, (fun _ h => (by cases h))⟩⟩, (fun _ h => (by cases h))⟩
set_option maxHeartbeats 4000000 in
theorem vc_Ho_writeGroup_at_k3_8_0 (spareLength_0 : Int) (gx : Int) (kz_0_12 : 0 ≤ spareLength_0 ∧ spareLength_0 ≤ 100000000) (ex2 : gx = spareLength_0) : 1 * spareLength_0 + ((-1) * gx + 0) ≤ 0 := by
  first | assumption | omega | grind
set_option maxHeartbeats 4000000 in
theorem vc_Ho_writeGroup_at_k3_8_1 (x4 : Int) (x9 : Int) (x23 : Int) (spareLength_0 : Int) (gx : Int) (k4 : 0 ≤ x4 ∧ x4 ≤ 99944320) (k9 : 0 ≤ x9 ∧ x9 ≤ 23) (k23 : 0 ≤ x23 ∧ x23 ≤ 99999993) (f0 : 1 * x23 + ((-1) * x4 + ((-31) * x9 + 0)) ≤ 13) (f4 : 1 * spareLength_0 + ((-1) * x23 + 0) ≤ 7) (kz_0_12 : 0 ≤ spareLength_0 ∧ spareLength_0 ≤ 100000000) (ex2 : gx = spareLength_0) : 1 * gx + ((-1) * x4 + ((-31) * x9 + 0)) ≤ 20 := by
  first | assumption | omega | grind
def o_Ho_writeGroup_at_k3_8 : or_T := (73, 25, [(0, (2, 0, 0, [12])), (4, (0, 0, 99944320, [])), (5, (2, 0, 0, [12])), (9, (0, 0, 23, [])), (10, (0, 1, 24, [])), (14, (0, 0, 99999995, [])), (18, (0, 0, 99999992, [])), (23, (0, 0, 99999993, []))], [(23, [23, 4, 9], [13, 1, -1, -31]), (23, [18, 4, 9], [5, 1, -1, -31]), (23, [14, 4, 9], [0, 1, -1, -31]), (24, [0, 5], []), (20, [5, 23], [30, 7, 1, 1, 12, -1, 0, 0]), (102, [23], [261336857795280739939871698507597986398208, 12012]), (23, [23, 4, 9], [13, 1, -1, -31]), (23, [18, 4, 9], [5, 1, -1, -31]), (23, [14, 4, 9], [0, 1, -1, -31]), (102, [18], [261336857795280739939871698507597986398208, 12012]), (23, [18, 4, 9], [5, 1, -1, -31]), (23, [14, 4, 9], [0, 1, -1, -31]), (102, [14], [261336857795280739939871698507597986398208, 12012]), (23, [14, 4, 9], [0, 1, -1, -31]), (7, [9, 10], [2])], [], [(0, 0, 99999992, [])], [(20, [5, 25], [30, 0, 1, 1, 12, -1, 0, 0]), (23, [25, 4, 9], [20, 1, -1, -31])], [], [(9, 10, -4294967296, -1)])
theorem oo_Ho_writeGroup_at_k3_8 {kA : Nat → ClassId} : or_ok PRD kA GG o_Ho_writeGroup_at_k3_8 := by
  refine or_mk fun A ta ws vs hD hth hl => ?_
  intro t0 r0 t4 k4 t5 r5 t9 k9 t10 k10 t14 k14 t18 k18 t23 k23 d0 f0 f1 f2 f3 f4 ta1 w1 le1 s1 f6 f7 f8 ta2 w2 le2 s2 f10 f11 ta3 w3 le3 s3 f13 f14
  replace f0 := shm_229 f0
  replace f1 := shm_227 f1
  replace f2 := shm_226 f2
  replace f3 := shm_5 f3
  replace f4 := shm_203 f4
  replace f6 := shm_229 f6
  replace f7 := shm_227 f7
  replace f8 := shm_226 f8
  replace f10 := shm_227 f10
  replace f11 := shm_226 f11
  replace f13 := shm_226 f13
  replace f14 := shm_6 f14
  have q5 : n_v vs 5 = n_v vs 0 := f3.symm
  simp only [q5] at f4
  have kz_0_12 := fdq_0 hD hth r0
  have kv0 := fdq_0 hD hth r0
  obtain ⟨x, ex, hx⟩ := iv_ex (ta := ta) (lo := 0) (hi := 99999992) (z := w_fi ws (n_v vs 0) 12) (by omega) (by omega) (by omega) (by omega)
  have ex2 : v_iv (Value.int x) = w_fi ws (n_v vs 0) 12 := ex
  have ex3 : 0 ≤ v_iv (Value.int x) ∧ v_iv (Value.int x) ≤ 99999992 := tv_rng hx
  have e_4 : n_v (vs ++ [Value.int x]) 4 = n_v vs 4 := n_v_old (by rw [hl]; decide)
  have e_5 : n_v (vs ++ [Value.int x]) 5 = n_v vs 5 := n_v_old (by rw [hl]; decide)
  have e_9 : n_v (vs ++ [Value.int x]) 9 = n_v vs 9 := n_v_old (by rw [hl]; decide)
  have e_25 : n_v (vs ++ [Value.int x]) 25 = Value.int x := n_v_new hl
  have nf0 : fc_1 PRD (20, [5, 25], [30, 0, 1, 1, 12, -1, 0, 0]) ws (vs ++ [Value.int x]) := by
    refine ⟨nf_inA hl rfl, sgq_104 ?_⟩
    · show 1 * w_fi ws (n_v (vs ++ [Value.int x]) 5) 12 + ((-1) * v_iv (n_v (vs ++ [Value.int x]) 25) + 0) ≤ 0
      simp only [e_5, e_25, q5]
      exact vc_Ho_writeGroup_at_k3_8_0 (w_fi ws (n_v vs 0) 12) (v_iv (Value.int x)) kz_0_12 ex2
  have nf1 : fc_1 PRD (23, [25, 4, 9], [20, 1, -1, -31]) ws (vs ++ [Value.int x]) := by
    refine ⟨nf_inA hl rfl, sgq_230 ?_⟩
    · show 1 * v_iv (n_v (vs ++ [Value.int x]) 25) + ((-1) * v_iv (n_v (vs ++ [Value.int x]) 4) + ((-31) * v_iv (n_v (vs ++ [Value.int x]) 9) + 0)) ≤ 20
      simp only [e_4, e_9, e_25]
      exact vc_Ho_writeGroup_at_k3_8_1 (v_iv (n_v vs 4)) (v_iv (n_v vs 9)) (v_iv (n_v vs 23)) (w_fi ws (n_v vs 0) 12) (v_iv (Value.int x)) k4 k9 k23 f0 f4 kz_0_12 ex2
  exact ⟨(fun _ h => (by cases h)), [Value.int x], ag_one hx, List.forall_mem_cons.mpr ⟨⟨show (20 : Nat) < 100 from by decide, nf0⟩, List.forall_mem_cons.mpr ⟨⟨show (23 : Nat) < 100 from by decide, nf1⟩, (fun _ h => (by cases h))⟩⟩, (fun _ h => (by cases h))⟩
set_option maxHeartbeats 4000000 in
theorem vc_Ho_writeGroup_at_k3_9_0 (spareLength_0 : Int) (gx : Int) (kz_0_12 : 0 ≤ spareLength_0 ∧ spareLength_0 ≤ 100000000) (ex2 : gx = spareLength_0) : 1 * spareLength_0 + ((-1) * gx + 0) ≤ 0 := by
  first | assumption | omega | grind
set_option maxHeartbeats 4000000 in
theorem vc_Ho_writeGroup_at_k3_9_1 (x4 : Int) (x9 : Int) (x25 : Int) (spareLength_0 : Int) (gx : Int) (k4 : 0 ≤ x4 ∧ x4 ≤ 99944320) (k9 : 0 ≤ x9 ∧ x9 ≤ 23) (k25 : 0 ≤ x25 ∧ x25 ≤ 99999992) (f0 : 1 * x25 + ((-1) * x4 + ((-31) * x9 + 0)) ≤ 20) (f5 : 1 * spareLength_0 + ((-1) * x25 + 0) ≤ 8) (kz_0_12 : 0 ≤ spareLength_0 ∧ spareLength_0 ≤ 100000000) (ex2 : gx = spareLength_0) : 1 * gx + ((-1) * x4 + ((-31) * x9 + 0)) ≤ 28 := by
  first | assumption | omega | grind
def o_Ho_writeGroup_at_k3_9 : or_T := (79, 27, [(0, (2, 0, 0, [12])), (4, (0, 0, 99944320, [])), (5, (2, 0, 0, [12])), (9, (0, 0, 23, [])), (10, (0, 1, 24, [])), (14, (0, 0, 99999995, [])), (18, (0, 0, 99999992, [])), (23, (0, 0, 99999993, [])), (25, (0, 0, 99999992, []))], [(23, [25, 4, 9], [20, 1, -1, -31]), (23, [23, 4, 9], [13, 1, -1, -31]), (23, [18, 4, 9], [5, 1, -1, -31]), (23, [14, 4, 9], [0, 1, -1, -31]), (24, [0, 5], []), (20, [5, 25], [30, 8, 1, 1, 12, -1, 0, 0]), (102, [25], [261336857795280739939871698507597986398208, 12012]), (23, [25, 4, 9], [20, 1, -1, -31]), (23, [23, 4, 9], [13, 1, -1, -31]), (23, [18, 4, 9], [5, 1, -1, -31]), (23, [14, 4, 9], [0, 1, -1, -31]), (102, [23], [261336857795280739939871698507597986398208, 12012]), (23, [23, 4, 9], [13, 1, -1, -31]), (23, [18, 4, 9], [5, 1, -1, -31]), (23, [14, 4, 9], [0, 1, -1, -31]), (102, [18], [261336857795280739939871698507597986398208, 12012]), (23, [18, 4, 9], [5, 1, -1, -31]), (23, [14, 4, 9], [0, 1, -1, -31]), (102, [14], [261336857795280739939871698507597986398208, 12012]), (23, [14, 4, 9], [0, 1, -1, -31]), (7, [9, 10], [2])], [], [(0, 0, 99999999, [])], [(20, [5, 27], [30, 0, 1, 1, 12, -1, 0, 0]), (23, [27, 4, 9], [28, 1, -1, -31])], [], [(9, 10, -4294967296, -1)])
theorem oo_Ho_writeGroup_at_k3_9 {kA : Nat → ClassId} : or_ok PRD kA GG o_Ho_writeGroup_at_k3_9 := by
  refine or_mk fun A ta ws vs hD hth hl => ?_
  intro t0 r0 t4 k4 t5 r5 t9 k9 t10 k10 t14 k14 t18 k18 t23 k23 t25 k25 d0 f0 f1 f2 f3 f4 f5 ta1 w1 le1 s1 f7 f8 f9 f10 ta2 w2 le2 s2 f12 f13 f14 ta3 w3 le3 s3 f16 f17 ta4 w4 le4 s4 f19 f20
  replace f0 := shm_230 f0
  replace f1 := shm_229 f1
  replace f2 := shm_227 f2
  replace f3 := shm_226 f3
  replace f4 := shm_5 f4
  replace f5 := shm_135 f5
  replace f7 := shm_230 f7
  replace f8 := shm_229 f8
  replace f9 := shm_227 f9
  replace f10 := shm_226 f10
  replace f12 := shm_229 f12
  replace f13 := shm_227 f13
  replace f14 := shm_226 f14
  replace f16 := shm_227 f16
  replace f17 := shm_226 f17
  replace f19 := shm_226 f19
  replace f20 := shm_6 f20
  have q5 : n_v vs 5 = n_v vs 0 := f4.symm
  simp only [q5] at f5
  have kz_0_12 := fdq_0 hD hth r0
  have kv0 := fdq_0 hD hth r0
  obtain ⟨x, ex, hx⟩ := iv_ex (ta := ta) (lo := 0) (hi := 99999999) (z := w_fi ws (n_v vs 0) 12) (by omega) (by omega) (by omega) (by omega)
  have ex2 : v_iv (Value.int x) = w_fi ws (n_v vs 0) 12 := ex
  have ex3 : 0 ≤ v_iv (Value.int x) ∧ v_iv (Value.int x) ≤ 99999999 := tv_rng hx
  have e_4 : n_v (vs ++ [Value.int x]) 4 = n_v vs 4 := n_v_old (by rw [hl]; decide)
  have e_5 : n_v (vs ++ [Value.int x]) 5 = n_v vs 5 := n_v_old (by rw [hl]; decide)
  have e_9 : n_v (vs ++ [Value.int x]) 9 = n_v vs 9 := n_v_old (by rw [hl]; decide)
  have e_27 : n_v (vs ++ [Value.int x]) 27 = Value.int x := n_v_new hl
  have nf0 : fc_1 PRD (20, [5, 27], [30, 0, 1, 1, 12, -1, 0, 0]) ws (vs ++ [Value.int x]) := by
    refine ⟨nf_inA hl rfl, sgq_104 ?_⟩
    · show 1 * w_fi ws (n_v (vs ++ [Value.int x]) 5) 12 + ((-1) * v_iv (n_v (vs ++ [Value.int x]) 27) + 0) ≤ 0
      simp only [e_5, e_27, q5]
      exact vc_Ho_writeGroup_at_k3_9_0 (w_fi ws (n_v vs 0) 12) (v_iv (Value.int x)) kz_0_12 ex2
  have nf1 : fc_1 PRD (23, [27, 4, 9], [28, 1, -1, -31]) ws (vs ++ [Value.int x]) := by
    refine ⟨nf_inA hl rfl, sgq_231 ?_⟩
    · show 1 * v_iv (n_v (vs ++ [Value.int x]) 27) + ((-1) * v_iv (n_v (vs ++ [Value.int x]) 4) + ((-31) * v_iv (n_v (vs ++ [Value.int x]) 9) + 0)) ≤ 28
      simp only [e_4, e_9, e_27]
      exact vc_Ho_writeGroup_at_k3_9_1 (v_iv (n_v vs 4)) (v_iv (n_v vs 9)) (v_iv (n_v vs 25)) (w_fi ws (n_v vs 0) 12) (v_iv (Value.int x)) k4 k9 k25 f0 f5 kz_0_12 ex2
  exact ⟨(fun _ h => (by cases h)), [Value.int x], ag_one hx, List.forall_mem_cons.mpr ⟨⟨show (20 : Nat) < 100 from by decide, nf0⟩, List.forall_mem_cons.mpr ⟨⟨show (23 : Nat) < 100 from by decide, nf1⟩, (fun _ h => (by cases h))⟩⟩, (fun _ h => (by cases h))⟩
set_option maxHeartbeats 4000000 in
theorem vc_Ho_writeGroup_at_k3_10_0 (spareLength_0 : Int) (gx : Int) (kz_0_12 : 0 ≤ spareLength_0 ∧ spareLength_0 ≤ 100000000) (ex2 : gx = spareLength_0) : 1 * spareLength_0 + ((-1) * gx + 0) ≤ 0 := by
  first | assumption | omega | grind
set_option maxHeartbeats 4000000 in
theorem vc_Ho_writeGroup_at_k3_10_1 (x4 : Int) (x9 : Int) (x27 : Int) (spareLength_0 : Int) (gx : Int) (k4 : 0 ≤ x4 ∧ x4 ≤ 99944320) (k9 : 0 ≤ x9 ∧ x9 ≤ 23) (k27 : 0 ≤ x27 ∧ x27 ≤ 99999999) (f0 : 1 * x27 + ((-1) * x4 + ((-31) * x9 + 0)) ≤ 28) (f6 : 1 * spareLength_0 + ((-1) * x27 + 0) ≤ 1) (kz_0_12 : 0 ≤ spareLength_0 ∧ spareLength_0 ≤ 100000000) (ex2 : gx = spareLength_0) : 1 * gx + ((-1) * x4 + ((-31) * x9 + 0)) ≤ 29 := by
  first | assumption | omega | grind
def o_Ho_writeGroup_at_k3_10 : or_T := (86, 29, [(0, (2, 0, 0, [12])), (4, (0, 0, 99944320, [])), (5, (2, 0, 0, [12])), (9, (0, 0, 23, [])), (10, (0, 1, 24, [])), (14, (0, 0, 99999995, [])), (18, (0, 0, 99999992, [])), (23, (0, 0, 99999993, [])), (25, (0, 0, 99999992, [])), (27, (0, 0, 99999999, []))], [(23, [27, 4, 9], [28, 1, -1, -31]), (23, [25, 4, 9], [20, 1, -1, -31]), (23, [23, 4, 9], [13, 1, -1, -31]), (23, [18, 4, 9], [5, 1, -1, -31]), (23, [14, 4, 9], [0, 1, -1, -31]), (24, [0, 5], []), (20, [5, 27], [30, 1, 1, 1, 12, -1, 0, 0]), (102, [27], [261336857795280739939871698507597986398208, 12012]), (23, [27, 4, 9], [28, 1, -1, -31]), (23, [25, 4, 9], [20, 1, -1, -31]), (23, [23, 4, 9], [13, 1, -1, -31]), (23, [18, 4, 9], [5, 1, -1, -31]), (23, [14, 4, 9], [0, 1, -1, -31]), (102, [25], [261336857795280739939871698507597986398208, 12012]), (23, [25, 4, 9], [20, 1, -1, -31]), (23, [23, 4, 9], [13, 1, -1, -31]), (23, [18, 4, 9], [5, 1, -1, -31]), (23, [14, 4, 9], [0, 1, -1, -31]), (102, [23], [261336857795280739939871698507597986398208, 12012]), (23, [23, 4, 9], [13, 1, -1, -31]), (23, [18, 4, 9], [5, 1, -1, -31]), (23, [14, 4, 9], [0, 1, -1, -31]), (102, [18], [261336857795280739939871698507597986398208, 12012]), (23, [18, 4, 9], [5, 1, -1, -31]), (23, [14, 4, 9], [0, 1, -1, -31]), (102, [14], [261336857795280739939871698507597986398208, 12012]), (23, [14, 4, 9], [0, 1, -1, -31]), (7, [9, 10], [2])], [], [(0, 0, 99999998, [])], [(20, [5, 29], [30, 0, 1, 1, 12, -1, 0, 0]), (23, [29, 4, 9], [29, 1, -1, -31])], [], [(9, 10, -4294967296, -1)])
theorem oo_Ho_writeGroup_at_k3_10 {kA : Nat → ClassId} : or_ok PRD kA GG o_Ho_writeGroup_at_k3_10 := by
  refine or_mk fun A ta ws vs hD hth hl => ?_
  intro t0 r0 t4 k4 t5 r5 t9 k9 t10 k10 t14 k14 t18 k18 t23 k23 t25 k25 t27 k27 d0 f0 f1 f2 f3 f4 f5 f6 ta1 w1 le1 s1 f8 f9 f10 f11 f12 ta2 w2 le2 s2 f14 f15 f16 f17 ta3 w3 le3 s3 f19 f20 f21 ta4 w4 le4 s4 f23 f24 ta5 w5 le5 s5 f26 f27
  replace f0 := shm_231 f0
  replace f1 := shm_230 f1
  replace f2 := shm_229 f2
  replace f3 := shm_227 f3
  replace f4 := shm_226 f4
  replace f5 := shm_5 f5
  replace f6 := shm_105 f6
  replace f8 := shm_231 f8
  replace f9 := shm_230 f9
  replace f10 := shm_229 f10
  replace f11 := shm_227 f11
  replace f12 := shm_226 f12
  replace f14 := shm_230 f14
  replace f15 := shm_229 f15
  replace f16 := shm_227 f16
  replace f17 := shm_226 f17
  replace f19 := shm_229 f19
  replace f20 := shm_227 f20
  replace f21 := shm_226 f21
  replace f23 := shm_227 f23
  replace f24 := shm_226 f24
  replace f26 := shm_226 f26
  replace f27 := shm_6 f27
  have q5 : n_v vs 5 = n_v vs 0 := f5.symm
  simp only [q5] at f6
  have kz_0_12 := fdq_0 hD hth r0
  have kv0 := fdq_0 hD hth r0
  obtain ⟨x, ex, hx⟩ := iv_ex (ta := ta) (lo := 0) (hi := 99999998) (z := w_fi ws (n_v vs 0) 12) (by omega) (by omega) (by omega) (by omega)
  have ex2 : v_iv (Value.int x) = w_fi ws (n_v vs 0) 12 := ex
  have ex3 : 0 ≤ v_iv (Value.int x) ∧ v_iv (Value.int x) ≤ 99999998 := tv_rng hx
  have e_4 : n_v (vs ++ [Value.int x]) 4 = n_v vs 4 := n_v_old (by rw [hl]; decide)
  have e_5 : n_v (vs ++ [Value.int x]) 5 = n_v vs 5 := n_v_old (by rw [hl]; decide)
  have e_9 : n_v (vs ++ [Value.int x]) 9 = n_v vs 9 := n_v_old (by rw [hl]; decide)
  have e_29 : n_v (vs ++ [Value.int x]) 29 = Value.int x := n_v_new hl
  have nf0 : fc_1 PRD (20, [5, 29], [30, 0, 1, 1, 12, -1, 0, 0]) ws (vs ++ [Value.int x]) := by
    refine ⟨nf_inA hl rfl, sgq_104 ?_⟩
    · show 1 * w_fi ws (n_v (vs ++ [Value.int x]) 5) 12 + ((-1) * v_iv (n_v (vs ++ [Value.int x]) 29) + 0) ≤ 0
      simp only [e_5, e_29, q5]
      exact vc_Ho_writeGroup_at_k3_10_0 (w_fi ws (n_v vs 0) 12) (v_iv (Value.int x)) kz_0_12 ex2
  have nf1 : fc_1 PRD (23, [29, 4, 9], [29, 1, -1, -31]) ws (vs ++ [Value.int x]) := by
    refine ⟨nf_inA hl rfl, sgq_228 ?_⟩
    · show 1 * v_iv (n_v (vs ++ [Value.int x]) 29) + ((-1) * v_iv (n_v (vs ++ [Value.int x]) 4) + ((-31) * v_iv (n_v (vs ++ [Value.int x]) 9) + 0)) ≤ 29
      simp only [e_4, e_9, e_29]
      exact vc_Ho_writeGroup_at_k3_10_1 (v_iv (n_v vs 4)) (v_iv (n_v vs 9)) (v_iv (n_v vs 27)) (w_fi ws (n_v vs 0) 12) (v_iv (Value.int x)) k4 k9 k27 f0 f6 kz_0_12 ex2
  exact ⟨(fun _ h => (by cases h)), [Value.int x], ag_one hx, List.forall_mem_cons.mpr ⟨⟨show (20 : Nat) < 100 from by decide, nf0⟩, List.forall_mem_cons.mpr ⟨⟨show (23 : Nat) < 100 from by decide, nf1⟩, (fun _ h => (by cases h))⟩⟩, (fun _ h => (by cases h))⟩
set_option maxHeartbeats 4000000 in
theorem vc_Ho_writeGroup_at_k3_11_0 (x4 : Int) (x9 : Int) (x29 : Int) (x30 : Int) (spareLength_0 : Int) (k4 : 0 ≤ x4 ∧ x4 ≤ 99944320) (k9 : 0 ≤ x9 ∧ x9 ≤ 23) (k29 : 0 ≤ x29 ∧ x29 ≤ 99999998) (k30 : 1 ≤ x30 ∧ x30 ≤ 24) (d0 : x9 + 1 ≤ x30 ∧ x30 ≤ x9 + 1) (f1 : 1 * x29 + ((-1) * x4 + ((-31) * x9 + 0)) ≤ 29) (f8 : 1 * spareLength_0 + ((-1) * x29 + 0) ≤ 2) (kz_0_12 : 0 ≤ spareLength_0 ∧ spareLength_0 ≤ 100000000) : 1 * spareLength_0 + ((-1) * x4 + ((-31) * x30 + 0)) ≤ 0 := by
  first | assumption | omega | grind
def o_Ho_writeGroup_at_k3_11 : or_T := (3, 31, [(0, (2, 0, 0, [12])), (4, (0, 0, 99944320, [])), (9, (0, 0, 23, [])), (29, (0, 0, 99999998, [])), (30, (0, 1, 24, []))], [(23, [29, 4, 9], [29, 1, -1, -31]), (24, [0, 5], []), (20, [5, 29], [30, 2, 1, 1, 12, -1, 0, 0])], [], [], [(20, [5, 4, 30], [30, 0, 1, 1, 12, -1, 0, 0, -31, 0, 0])], [], [(30, 9, 1, 1)])
theorem oo_Ho_writeGroup_at_k3_11 {kA : Nat → ClassId} : or_ok PRD kA GG o_Ho_writeGroup_at_k3_11 := by
  refine or_mk fun A ta ws vs hD hth hl => ?_
  intro t0 r0 t4 k4 t9 k9 t29 k29 t30 k30 d0 f1 f7 f8
  replace f1 := shm_228 f1
  replace f7 := shm_5 f7
  replace f8 := shm_204 f8
  have q5 : n_v vs 5 = n_v vs 0 := f7.symm
  simp only [q5] at f8
  have kz_0_12 := fdq_0 hD hth r0
  have nf0 : fc_1 PRD (20, [5, 4, 30], [30, 0, 1, 1, 12, -1, 0, 0, -31, 0, 0]) ws (vs) := by
    refine ⟨nf_in hl rfl, sgq_224 ?_⟩
    · show 1 * w_fi ws (n_v vs 5) 12 + ((-1) * v_iv (n_v vs 4) + ((-31) * v_iv (n_v vs 30) + 0)) ≤ 0
      rw [q5]
      exact vc_Ho_writeGroup_at_k3_11_0 (v_iv (n_v vs 4)) (v_iv (n_v vs 9)) (v_iv (n_v vs 29)) (v_iv (n_v vs 30)) (w_fi ws (n_v vs 0) 12) k4 k9 k29 k30 d0 f1 f8 kz_0_12
  refine ⟨(fun _ h => (by cases h)), [], trivial, ?_, (fun _ h => (by cases h))⟩
  rw [List.append_nil]
  exact List.forall_mem_cons.mpr ⟨⟨show (20 : Nat) < 100 from by decide, nf0⟩, (fun _ h => (by cases h))⟩
set_option maxHeartbeats 4000000 in
theorem vc_Ho_writeGroup_at_k3_12_0 (x4 : Int) (x7 : Int) (x9 : Int) (spareLength_0 : Int) (k4 : 0 ≤ x4 ∧ x4 ≤ 99944320) (k7 : 3 ≤ x7 ∧ x7 ≤ 7) (k9 : 4 ≤ x9 ∧ x9 ≤ 8) (f2 : 1 * spareLength_0 + ((-1) * x4 + ((-6867) * x9 + (6867 * x7 + 0))) ≤ (-6123)) (kz_0_12 : 0 ≤ spareLength_0 ∧ spareLength_0 ≤ 100000000) : 1 * spareLength_0 + ((-1) * x4 + 0) ≤ 55680 := by
  first | assumption | omega | grind
def o_Ho_writeGroup_at_k3_12 : or_T := (179, 11, [(0, (2, 0, 0, [12])), (4, (0, 0, 99944320, [])), (7, (0, 3, 7, [])), (9, (0, 4, 8, []))], [(20, [5, 4, 9, 7], [30, -6123, 1, 1, 12, -1, 0, 0, -6867, 0, 0, 6867, 0, 0]), (24, [0, 5], [])], [], [], [(20, [0, 4], [30, 55680, 1, 1, 12, -1, 0, 0])], [], [])
theorem oo_Ho_writeGroup_at_k3_12 {kA : Nat → ClassId} : or_ok PRD kA GG o_Ho_writeGroup_at_k3_12 := by
  refine or_mk fun A ta ws vs hD hth hl => ?_
  intro t0 r0 t4 k4 t7 k7 t9 k9 f2 f3
  replace f2 := shm_253 f2
  replace f3 := shm_5 f3
  have q5 : n_v vs 5 = n_v vs 0 := f3.symm
  simp only [q5] at f2
  have kz_0_12 := fdq_0 hD hth r0
  have nf0 : fc_1 PRD (20, [0, 4], [30, 55680, 1, 1, 12, -1, 0, 0]) ws (vs) := ⟨nf_in hl rfl, sgq_251 (vc_Ho_writeGroup_at_k3_12_0 (v_iv (n_v vs 4)) (v_iv (n_v vs 7)) (v_iv (n_v vs 9)) (w_fi ws (n_v vs 0) 12) k4 k7 k9 f2 kz_0_12)⟩
  refine ⟨(fun _ h => (by cases h)), [], trivial, ?_, (fun _ h => (by cases h))⟩
  rw [List.append_nil]
  exact List.forall_mem_cons.mpr ⟨⟨show (20 : Nat) < 100 from by decide, nf0⟩, (fun _ h => (by cases h))⟩
set_option maxHeartbeats 4000000 in
theorem vc_Ho_writeGroup_at_k3_13_0 (x4 : Int) (x7 : Int) (x9 : Int) (x13 : Int) (spareLength_0 : Int) (k4 : 0 ≤ x4 ∧ x4 ≤ 99944320) (k7 : 3 ≤ x7 ∧ x7 ≤ 6) (k9 : 4 ≤ x9 ∧ x9 ≤ 7) (k13 : 5 ≤ x13 ∧ x13 ≤ 8) (d0 : x9 + 1 ≤ x13 ∧ x13 ≤ x9 + 1) (f6 : 1 * spareLength_0 + ((-1) * x4 + ((-6867) * x9 + (6867 * x7 + 0))) ≤ (-6123)) (kz_0_12 : 0 ≤ spareLength_0 ∧ spareLength_0 ≤ 100000000) : 1 * spareLength_0 + ((-1) * x4 + ((-6867) * x13 + (6867 * x7 + 0))) ≤ (-6123) := by
  first | assumption | omega | grind
def o_Ho_writeGroup_at_k3_13 : or_T := (100, 14, [(0, (2, 0, 0, [12])), (4, (0, 0, 99944320, [])), (7, (0, 3, 6, [])), (9, (0, 4, 7, [])), (13, (0, 5, 8, []))], [(20, [5, 4, 9, 7], [30, -6123, 1, 1, 12, -1, 0, 0, -6867, 0, 0, 6867, 0, 0]), (24, [0, 5], [])], [], [], [(20, [5, 4, 13, 7], [30, -6123, 1, 1, 12, -1, 0, 0, -6867, 0, 0, 6867, 0, 0])], [], [(13, 9, 1, 1)])
theorem oo_Ho_writeGroup_at_k3_13 {kA : Nat → ClassId} : or_ok PRD kA GG o_Ho_writeGroup_at_k3_13 := by
  refine or_mk fun A ta ws vs hD hth hl => ?_
  intro t0 r0 t4 k4 t7 k7 t9 k9 t13 k13 d0 f6 f7
  replace f6 := shm_253 f6
  replace f7 := shm_5 f7
  have q5 : n_v vs 5 = n_v vs 0 := f7.symm
  simp only [q5] at f6
  have kz_0_12 := fdq_0 hD hth r0
  have nf0 : fc_1 PRD (20, [5, 4, 13, 7], [30, -6123, 1, 1, 12, -1, 0, 0, -6867, 0, 0, 6867, 0, 0]) ws (vs) := by
    refine ⟨nf_in hl rfl, sgq_253 ?_⟩
    · show 1 * w_fi ws (n_v vs 5) 12 + ((-1) * v_iv (n_v vs 4) + ((-6867) * v_iv (n_v vs 13) + (6867 * v_iv (n_v vs 7) + 0))) ≤ (-6123)
      rw [q5]
      exact vc_Ho_writeGroup_at_k3_13_0 (v_iv (n_v vs 4)) (v_iv (n_v vs 7)) (v_iv (n_v vs 9)) (v_iv (n_v vs 13)) (w_fi ws (n_v vs 0) 12) k4 k7 k9 k13 d0 f6 kz_0_12
  refine ⟨(fun _ h => (by cases h)), [], trivial, ?_, (fun _ h => (by cases h))⟩
  rw [List.append_nil]
  exact List.forall_mem_cons.mpr ⟨⟨show (20 : Nat) < 100 from by decide, nf0⟩, (fun _ h => (by cases h))⟩
set_option maxHeartbeats 4000000 in
theorem vc_Ho_writeGroup_at_k3_14_0 (spareLength_0 : Int) (gx : Int) (kz_0_12 : 0 ≤ spareLength_0 ∧ spareLength_0 ≤ 100000000) (ex2 : gx = spareLength_0) : 1 * spareLength_0 + ((-1) * gx + 0) ≤ 0 := by
  first | assumption | omega | grind
set_option maxHeartbeats 4000000 in
theorem vc_Ho_writeGroup_at_k3_14_1 (x4 : Int) (x7 : Int) (x9 : Int) (x12 : Int) (within_0o6 : Int → Int) (spareLength_0 : Int) (gx : Int) (k4 : 0 ≤ x4 ∧ x4 ≤ 99944320) (k7 : 3 ≤ x7 ∧ x7 ≤ 6) (k9 : 4 ≤ x9 ∧ x9 ≤ 7) (k12 : 3 ≤ x12 ∧ x12 ≤ 6) (d0 : x7 + 0 ≤ x12 ∧ x12 ≤ x7 + 0) (h1 : x12 = within_0o6 (x9)) (f5 : 1 * spareLength_0 + ((-1) * x4 + ((-6867) * x9 + (6867 * x7 + 0))) ≤ (-6123)) (kz_0_12 : 0 ≤ spareLength_0 ∧ spareLength_0 ≤ 100000000) (ex2 : gx = spareLength_0) : 1 * gx + ((-1) * x4 + ((-6867) * x9 + (6867 * x7 + 0))) ≤ (-6123) := by
  first | assumption | omega | grind
def o_Ho_writeGroup_at_k3_14 : or_T := (129, 15, [(0, (2, 0, 0, [12])), (4, (0, 0, 99944320, [])), (5, (2, 0, 0, [12])), (6, (2, 0, 0, [3])), (7, (0, 3, 6, [])), (9, (0, 4, 7, [])), (10, (0, 5, 8, [])), (11, (2, 0, 0, [56])), (12, (0, 3, 6, []))], [(7, [12, 7], [0]), (10, [12, 11, 9], []), (9, [11, 6], [11]), (7, [9, 10], [2]), (9, [10, 6], [2]), (20, [5, 4, 9, 7], [30, -6123, 1, 1, 12, -1, 0, 0, -6867, 0, 0, 6867, 0, 0]), (24, [0, 5], [])], [], [(0, 0, 99999994, [])], [(20, [5, 15], [30, 0, 1, 1, 12, -1, 0, 0]), (23, [15, 4, 9, 7], [-6123, 1, -1, -6867, 6867])], [], [(12, 7, 0, 0), (9, 10, -4294967296, -1), (7, 9, -4294967296, -1)])
theorem oo_Ho_writeGroup_at_k3_14 {kA : Nat → ClassId} : or_ok PRD kA GG o_Ho_writeGroup_at_k3_14 := by
  refine or_mk fun A ta ws vs hD hth hl => ?_
  intro t0 r0 t4 k4 t5 r5 t6 r6 t7 k7 t9 k9 t10 k10 t11 r11 t12 k12 d0 d1 d2 f0 f1 f2 f3 f4 f5 f6
  replace f0 := shm_37 f0
  replace f1 := shm_107 f1
  replace f2 := shm_116 f2
  replace f3 := shm_6 f3
  replace f4 := shm_120 f4
  replace f5 := shm_253 f5
  replace f6 := shm_5 f6
  have q5 : n_v vs 5 = n_v vs 0 := f6.symm
  simp only [q5] at f5
  have cr_6_11 := fdq_31 hD hth r6
  have ad_11 : v_ad (n_v vs 11) = w_ar ws (n_v vs 6) 11 := congrArg v_ad f2
  simp only [ad_11] at f1
  have h1 : v_iv (n_v vs 12) = w_ei ws (w_ar ws (n_v vs 6) 11) (v_iv (n_v vs 9)) := f1
  have g4 : v_iv (n_v vs 10) = w_fi ws (n_v vs 6) 2 := congrArg v_iv f4
  have kz_0_12 := fdq_0 hD hth r0
  have kz_6_2 := fdq_20 hD hth r6
  have kv0 := fdq_0 hD hth r0
  obtain ⟨x, ex, hx⟩ := iv_ex (ta := ta) (lo := 0) (hi := 99999994) (z := w_fi ws (n_v vs 0) 12) (by omega) (by omega) (by omega) (by omega)
  have ex2 : v_iv (Value.int x) = w_fi ws (n_v vs 0) 12 := ex
  have ex3 : 0 ≤ v_iv (Value.int x) ∧ v_iv (Value.int x) ≤ 99999994 := tv_rng hx
  have e_4 : n_v (vs ++ [Value.int x]) 4 = n_v vs 4 := n_v_old (by rw [hl]; decide)
  have e_5 : n_v (vs ++ [Value.int x]) 5 = n_v vs 5 := n_v_old (by rw [hl]; decide)
  have e_7 : n_v (vs ++ [Value.int x]) 7 = n_v vs 7 := n_v_old (by rw [hl]; decide)
  have e_9 : n_v (vs ++ [Value.int x]) 9 = n_v vs 9 := n_v_old (by rw [hl]; decide)
  have e_15 : n_v (vs ++ [Value.int x]) 15 = Value.int x := n_v_new hl
  have nf0 : fc_1 PRD (20, [5, 15], [30, 0, 1, 1, 12, -1, 0, 0]) ws (vs ++ [Value.int x]) := by
    refine ⟨nf_inA hl rfl, sgq_104 ?_⟩
    · show 1 * w_fi ws (n_v (vs ++ [Value.int x]) 5) 12 + ((-1) * v_iv (n_v (vs ++ [Value.int x]) 15) + 0) ≤ 0
      simp only [e_5, e_15, q5]
      exact vc_Ho_writeGroup_at_k3_14_0 (w_fi ws (n_v vs 0) 12) (v_iv (Value.int x)) kz_0_12 ex2
  have nf1 : fc_1 PRD (23, [15, 4, 9, 7], [-6123, 1, -1, -6867, 6867]) ws (vs ++ [Value.int x]) := by
    refine ⟨nf_inA hl rfl, sgq_254 ?_⟩
    · show 1 * v_iv (n_v (vs ++ [Value.int x]) 15) + ((-1) * v_iv (n_v (vs ++ [Value.int x]) 4) + ((-6867) * v_iv (n_v (vs ++ [Value.int x]) 9) + (6867 * v_iv (n_v (vs ++ [Value.int x]) 7) + 0))) ≤ (-6123)
      simp only [e_4, e_7, e_9, e_15]
      exact vc_Ho_writeGroup_at_k3_14_1 (v_iv (n_v vs 4)) (v_iv (n_v vs 7)) (v_iv (n_v vs 9)) (v_iv (n_v vs 12)) (w_ei ws (w_ar ws (n_v vs 6) 11)) (w_fi ws (n_v vs 0) 12) (v_iv (Value.int x)) k4 k7 k9 k12 d0 h1 f5 kz_0_12 ex2
  exact ⟨(fun _ h => (by cases h)), [Value.int x], ag_one hx, List.forall_mem_cons.mpr ⟨⟨show (20 : Nat) < 100 from by decide, nf0⟩, List.forall_mem_cons.mpr ⟨⟨show (23 : Nat) < 100 from by decide, nf1⟩, (fun _ h => (by cases h))⟩⟩, (fun _ h => (by cases h))⟩
set_option maxHeartbeats 4000000 in
theorem vc_Ho_writeGroup_at_k3_15_0 (spareLength_0 : Int) (gx : Int) (kz_0_12 : 0 ≤ spareLength_0 ∧ spareLength_0 ≤ 100000000) (ex2 : gx = spareLength_0) : 1 * spareLength_0 + ((-1) * gx + 0) ≤ 0 := by
  first | assumption | omega | grind
set_option maxHeartbeats 4000000 in
theorem vc_Ho_writeGroup_at_k3_15_1 (x4 : Int) (x7 : Int) (x9 : Int) (x12 : Int) (x15 : Int) (spareLength_0 : Int) (gx : Int) (k4 : 0 ≤ x4 ∧ x4 ≤ 99944320) (k7 : 3 ≤ x7 ∧ x7 ≤ 6) (k9 : 4 ≤ x9 ∧ x9 ≤ 7) (k12 : 3 ≤ x12 ∧ x12 ≤ 6) (k15 : 0 ≤ x15 ∧ x15 ≤ 99999994) (d0 : x7 + 0 ≤ x12 ∧ x12 ≤ x7 + 0) (f0 : 1 * x15 + ((-1) * x4 + ((-6867) * x9 + (6867 * x7 + 0))) ≤ (-6123)) (f2 : 1 * spareLength_0 + ((-1) * x15 + 0) ≤ 6) (kz_0_12 : 0 ≤ spareLength_0 ∧ spareLength_0 ≤ 100000000) (ex2 : gx = spareLength_0) : 1 * gx + ((-1) * x4 + ((-6867) * x9 + (6867 * x7 + 0))) ≤ (-6117) := by
  first | assumption | omega | grind
def o_Ho_writeGroup_at_k3_15 : or_T := (146, 19, [(0, (2, 0, 0, [12])), (4, (0, 0, 99944320, [])), (5, (2, 0, 0, [12])), (7, (0, 3, 6, [])), (9, (0, 4, 7, [])), (10, (0, 5, 8, [])), (12, (0, 3, 6, [])), (15, (0, 0, 99999994, []))], [(23, [15, 4, 9, 7], [-6123, 1, -1, -6867, 6867]), (24, [0, 5], []), (20, [5, 15], [30, 6, 1, 1, 12, -1, 0, 0]), (102, [15], [261336857795280739939871698507597986398208, 12012]), (23, [15, 4, 9, 7], [-6123, 1, -1, -6867, 6867]), (7, [12, 7], [0]), (7, [9, 10], [2])], [], [(0, 0, 99999992, [])], [(20, [5, 19], [30, 0, 1, 1, 12, -1, 0, 0]), (23, [19, 4, 9, 7], [-6117, 1, -1, -6867, 6867])], [], [(12, 7, 0, 0), (9, 10, -4294967296, -1), (7, 9, -4294967296, -1)])
theorem oo_Ho_writeGroup_at_k3_15 {kA : Nat → ClassId} : or_ok PRD kA GG o_Ho_writeGroup_at_k3_15 := by
  refine or_mk fun A ta ws vs hD hth hl => ?_
  intro t0 r0 t4 k4 t5 r5 t7 k7 t9 k9 t10 k10 t12 k12 t15 k15 d0 d1 d2 f0 f1 f2 ta1 w1 le1 s1 f4 f5 f6
  replace f0 := shm_254 f0
  replace f1 := shm_5 f1
  replace f2 := shm_205 f2
  replace f4 := shm_254 f4
  replace f5 := shm_37 f5
  replace f6 := shm_6 f6
  have q5 : n_v vs 5 = n_v vs 0 := f1.symm
  simp only [q5] at f2
  have kz_0_12 := fdq_0 hD hth r0
  have kv0 := fdq_0 hD hth r0
  obtain ⟨x, ex, hx⟩ := iv_ex (ta := ta) (lo := 0) (hi := 99999992) (z := w_fi ws (n_v vs 0) 12) (by omega) (by omega) (by omega) (by omega)
  have ex2 : v_iv (Value.int x) = w_fi ws (n_v vs 0) 12 := ex
  have ex3 : 0 ≤ v_iv (Value.int x) ∧ v_iv (Value.int x) ≤ 99999992 := tv_rng hx
  have e_4 : n_v (vs ++ [Value.int x]) 4 = n_v vs 4 := n_v_old (by rw [hl]; decide)
  have e_5 : n_v (vs ++ [Value.int x]) 5 = n_v vs 5 := n_v_old (by rw [hl]; decide)
  have e_7 : n_v (vs ++ [Value.int x]) 7 = n_v vs 7 := n_v_old (by rw [hl]; decide)
  have e_9 : n_v (vs ++ [Value.int x]) 9 = n_v vs 9 := n_v_old (by rw [hl]; decide)
  have e_19 : n_v (vs ++ [Value.int x]) 19 = Value.int x := n_v_new hl
  have nf0 : fc_1 PRD (20, [5, 19], [30, 0, 1, 1, 12, -1, 0, 0]) ws (vs ++ [Value.int x]) := by
    refine ⟨nf_inA hl rfl, sgq_104 ?_⟩
    · show 1 * w_fi ws (n_v (vs ++ [Value.int x]) 5) 12 + ((-1) * v_iv (n_v (vs ++ [Value.int x]) 19) + 0) ≤ 0
      simp only [e_5, e_19, q5]
      exact vc_Ho_writeGroup_at_k3_15_0 (w_fi ws (n_v vs 0) 12) (v_iv (Value.int x)) kz_0_12 ex2
  have nf1 : fc_1 PRD (23, [19, 4, 9, 7], [-6117, 1, -1, -6867, 6867]) ws (vs ++ [Value.int x]) := by
    refine ⟨nf_inA hl rfl, sgq_255 ?_⟩
    · show 1 * v_iv (n_v (vs ++ [Value.int x]) 19) + ((-1) * v_iv (n_v (vs ++ [Value.int x]) 4) + ((-6867) * v_iv (n_v (vs ++ [Value.int x]) 9) + (6867 * v_iv (n_v (vs ++ [Value.int x]) 7) + 0))) ≤ (-6117)
      simp only [e_4, e_7, e_9, e_19]
      exact vc_Ho_writeGroup_at_k3_15_1 (v_iv (n_v vs 4)) (v_iv (n_v vs 7)) (v_iv (n_v vs 9)) (v_iv (n_v vs 12)) (v_iv (n_v vs 15)) (w_fi ws (n_v vs 0) 12) (v_iv (Value.int x)) k4 k7 k9 k12 k15 d0 f0 f2 kz_0_12 ex2
  exact ⟨(fun _ h => (by cases h)), [Value.int x], ag_one hx, List.forall_mem_cons.mpr ⟨⟨show (20 : Nat) < 100 from by decide, nf0⟩, List.forall_mem_cons.mpr ⟨⟨show (23 : Nat) < 100 from by decide, nf1⟩, (fun _ h => (by cases h))⟩⟩, (fun _ h => (by cases h))⟩
set_option maxHeartbeats 4000000 in
theorem vc_Ho_writeGroup_at_k3_16_0 (spareLength_0 : Int) (gx : Int) (kz_0_12 : 0 ≤ spareLength_0 ∧ spareLength_0 ≤ 100000000) (ex2 : gx = spareLength_0) : 1 * spareLength_0 + ((-1) * gx + 0) ≤ 0 := by
  first | assumption | omega | grind
set_option maxHeartbeats 4000000 in
theorem vc_Ho_writeGroup_at_k3_16_1 (x4 : Int) (x7 : Int) (x9 : Int) (x12 : Int) (x19 : Int) (spareLength_0 : Int) (gx : Int) (k4 : 0 ≤ x4 ∧ x4 ≤ 99944320) (k7 : 3 ≤ x7 ∧ x7 ≤ 6) (k9 : 4 ≤ x9 ∧ x9 ≤ 7) (k12 : 3 ≤ x12 ∧ x12 ≤ 6) (k19 : 0 ≤ x19 ∧ x19 ≤ 99999992) (d0 : x7 + 0 ≤ x12 ∧ x12 ≤ x7 + 0) (f0 : 1 * x19 + ((-1) * x4 + ((-6867) * x9 + (6867 * x7 + 0))) ≤ (-6117)) (f3 : 1 * spareLength_0 + ((-1) * x19 + 0) ≤ 8) (kz_0_12 : 0 ≤ spareLength_0 ∧ spareLength_0 ≤ 100000000) (ex2 : gx = spareLength_0) : 1 * gx + ((-1) * x4 + ((-6867) * x9 + (6867 * x7 + 0))) ≤ (-6109) := by
  first | assumption | omega | grind
def o_Ho_writeGroup_at_k3_16 : or_T := (153, 21, [(0, (2, 0, 0, [12])), (4, (0, 0, 99944320, [])), (5, (2, 0, 0, [12])), (7, (0, 3, 6, [])), (9, (0, 4, 7, [])), (10, (0, 5, 8, [])), (12, (0, 3, 6, [])), (15, (0, 0, 99999994, [])), (19, (0, 0, 99999992, []))], [(23, [19, 4, 9, 7], [-6117, 1, -1, -6867, 6867]), (23, [15, 4, 9, 7], [-6123, 1, -1, -6867, 6867]), (24, [0, 5], []), (20, [5, 19], [30, 8, 1, 1, 12, -1, 0, 0]), (102, [19], [261336857795280739939871698507597986398208, 12012]), (23, [19, 4, 9, 7], [-6117, 1, -1, -6867, 6867]), (23, [15, 4, 9, 7], [-6123, 1, -1, -6867, 6867]), (102, [15], [261336857795280739939871698507597986398208, 12012]), (23, [15, 4, 9, 7], [-6123, 1, -1, -6867, 6867]), (7, [12, 7], [0]), (7, [9, 10], [2])], [], [(0, 0, 99999997, [])], [(20, [5, 21], [30, 0, 1, 1, 12, -1, 0, 0]), (23, [21, 4, 9, 7], [-6109, 1, -1, -6867, 6867])], [], [(12, 7, 0, 0), (9, 10, -4294967296, -1), (7, 9, -4294967296, -1)])
theorem oo_Ho_writeGroup_at_k3_16 {kA : Nat → ClassId} : or_ok PRD kA GG o_Ho_writeGroup_at_k3_16 := by
  refine or_mk fun A ta ws vs hD hth hl => ?_
  intro t0 r0 t4 k4 t5 r5 t7 k7 t9 k9 t10 k10 t12 k12 t15 k15 t19 k19 d0 d1 d2 f0 f1 f2 f3 ta1 w1 le1 s1 f5 f6 ta2 w2 le2 s2 f8 f9 f10
  replace f0 := shm_255 f0
  replace f1 := shm_254 f1
  replace f2 := shm_5 f2
  replace f3 := shm_135 f3
  replace f5 := shm_255 f5
  replace f6 := shm_254 f6
  replace f8 := shm_254 f8
  replace f9 := shm_37 f9
  replace f10 := shm_6 f10
  have q5 : n_v vs 5 = n_v vs 0 := f2.symm
  simp only [q5] at f3
  have kz_0_12 := fdq_0 hD hth r0
  have kv0 := fdq_0 hD hth r0
  obtain ⟨x, ex, hx⟩ := iv_ex (ta := ta) (lo := 0) (hi := 99999997) (z := w_fi ws (n_v vs 0) 12) (by omega) (by omega) (by omega) (by omega)
  have ex2 : v_iv (Value.int x) = w_fi ws (n_v vs 0) 12 := ex
  have ex3 : 0 ≤ v_iv (Value.int x) ∧ v_iv (Value.int x) ≤ 99999997 := tv_rng hx
  have e_4 : n_v (vs ++ [Value.int x]) 4 = n_v vs 4 := n_v_old (by rw [hl]; decide)
  have e_5 : n_v (vs ++ [Value.int x]) 5 = n_v vs 5 := n_v_old (by rw [hl]; decide)
  have e_7 : n_v (vs ++ [Value.int x]) 7 = n_v vs 7 := n_v_old (by rw [hl]; decide)
  have e_9 : n_v (vs ++ [Value.int x]) 9 = n_v vs 9 := n_v_old (by rw [hl]; decide)
  have e_21 : n_v (vs ++ [Value.int x]) 21 = Value.int x := n_v_new hl
  have nf0 : fc_1 PRD (20, [5, 21], [30, 0, 1, 1, 12, -1, 0, 0]) ws (vs ++ [Value.int x]) := by
    refine ⟨nf_inA hl rfl, sgq_104 ?_⟩
    · show 1 * w_fi ws (n_v (vs ++ [Value.int x]) 5) 12 + ((-1) * v_iv (n_v (vs ++ [Value.int x]) 21) + 0) ≤ 0
      simp only [e_5, e_21, q5]
      exact vc_Ho_writeGroup_at_k3_16_0 (w_fi ws (n_v vs 0) 12) (v_iv (Value.int x)) kz_0_12 ex2
  have nf1 : fc_1 PRD (23, [21, 4, 9, 7], [-6109, 1, -1, -6867, 6867]) ws (vs ++ [Value.int x]) := by
    refine ⟨nf_inA hl rfl, sgq_256 ?_⟩
    · show 1 * v_iv (n_v (vs ++ [Value.int x]) 21) + ((-1) * v_iv (n_v (vs ++ [Value.int x]) 4) + ((-6867) * v_iv (n_v (vs ++ [Value.int x]) 9) + (6867 * v_iv (n_v (vs ++ [Value.int x]) 7) + 0))) ≤ (-6109)
      simp only [e_4, e_7, e_9, e_21]
      exact vc_Ho_writeGroup_at_k3_16_1 (v_iv (n_v vs 4)) (v_iv (n_v vs 7)) (v_iv (n_v vs 9)) (v_iv (n_v vs 12)) (v_iv (n_v vs 19)) (w_fi ws (n_v vs 0) 12) (v_iv (Value.int x)) k4 k7 k9 k12 k19 d0 f0 f3 kz_0_12 ex2
  exact ⟨(fun _ h => (by cases h)), [Value.int x], ag_one hx, List.forall_mem_cons.mpr ⟨⟨show (20 : Nat) < 100 from by decide, nf0⟩, List.forall_mem_cons.mpr ⟨⟨show (23 : Nat) < 100 from by decide, nf1⟩, (fun _ h => (by cases h))⟩⟩, (fun _ h => (by cases h))⟩
set_option maxHeartbeats 4000000 in
theorem vc_Ho_writeGroup_at_k3_17_0 (spareLength_0 : Int) (gx : Int) (kz_0_12 : 0 ≤ spareLength_0 ∧ spareLength_0 ≤ 100000000) (ex2 : gx = spareLength_0) : 1 * spareLength_0 + ((-1) * gx + 0) ≤ 0 := by
  first | assumption | omega | grind
set_option maxHeartbeats 4000000 in
theorem vc_Ho_writeGroup_at_k3_17_1 (x4 : Int) (x7 : Int) (x9 : Int) (x12 : Int) (x21 : Int) (spareLength_0 : Int) (gx : Int) (k4 : 0 ≤ x4 ∧ x4 ≤ 99944320) (k7 : 3 ≤ x7 ∧ x7 ≤ 6) (k9 : 4 ≤ x9 ∧ x9 ≤ 7) (k12 : 3 ≤ x12 ∧ x12 ≤ 6) (k21 : 0 ≤ x21 ∧ x21 ≤ 99999997) (d0 : x7 + 0 ≤ x12 ∧ x12 ≤ x7 + 0) (f0 : 1 * x21 + ((-1) * x4 + ((-6867) * x9 + (6867 * x7 + 0))) ≤ (-6109)) (f4 : 1 * spareLength_0 + ((-1) * x21 + 0) ≤ 3) (kz_0_12 : 0 ≤ spareLength_0 ∧ spareLength_0 ≤ 100000000) (ex2 : gx = spareLength_0) : 1 * gx + ((-1) * x4 + ((-6867) * x9 + (6867 * x7 + 0))) ≤ (-6106) := by
  first | assumption | omega | grind
def o_Ho_writeGroup_at_k3_17 : or_T := (163, 24, [(0, (2, 0, 0, [12])), (4, (0, 0, 99944320, [])), (5, (2, 0, 0, [12])), (7, (0, 3, 6, [])), (9, (0, 4, 7, [])), (10, (0, 5, 8, [])), (12, (0, 3, 6, [])), (15, (0, 0, 99999994, [])), (19, (0, 0, 99999992, [])), (21, (0, 0, 99999997, []))], [(23, [21, 4, 9, 7], [-6109, 1, -1, -6867, 6867]), (23, [19, 4, 9, 7], [-6117, 1, -1, -6867, 6867]), (23, [15, 4, 9, 7], [-6123, 1, -1, -6867, 6867]), (24, [0, 5], []), (20, [5, 21], [30, 3, 1, 1, 12, -1, 0, 0]), (102, [21], [261336857795280739939871698507597986398208, 12012]), (23, [21, 4, 9, 7], [-6109, 1, -1, -6867, 6867]), (23, [19, 4, 9, 7], [-6117, 1, -1, -6867, 6867]), (23, [15, 4, 9, 7], [-6123, 1, -1, -6867, 6867]), (102, [19], [261336857795280739939871698507597986398208, 12012]), (23, [19, 4, 9, 7], [-6117, 1, -1, -6867, 6867]), (23, [15, 4, 9, 7], [-6123, 1, -1, -6867, 6867]), (102, [15], [261336857795280739939871698507597986398208, 12012]), (23, [15, 4, 9, 7], [-6123, 1, -1, -6867, 6867]), (7, [12, 7], [0]), (7, [9, 10], [2])], [], [(0, 0, 99993152, [])], [(20, [5, 24], [30, 0, 1, 1, 12, -1, 0, 0]), (23, [24, 4, 9, 7], [-6106, 1, -1, -6867, 6867])], [], [(12, 7, 0, 0), (9, 10, -4294967296, -1), (7, 9, -4294967296, -1)])
theorem oo_Ho_writeGroup_at_k3_17 {kA : Nat → ClassId} : or_ok PRD kA GG o_Ho_writeGroup_at_k3_17 := by
  refine or_mk fun A ta ws vs hD hth hl => ?_
  intro t0 r0 t4 k4 t5 r5 t7 k7 t9 k9 t10 k10 t12 k12 t15 k15 t19 k19 t21 k21 d0 d1 d2 f0 f1 f2 f3 f4 ta1 w1 le1 s1 f6 f7 f8 ta2 w2 le2 s2 f10 f11 ta3 w3 le3 s3 f13 f14 f15
  replace f0 := shm_256 f0
  replace f1 := shm_255 f1
  replace f2 := shm_254 f2
  replace f3 := shm_5 f3
  replace f4 := shm_206 f4
  replace f6 := shm_256 f6
  replace f7 := shm_255 f7
  replace f8 := shm_254 f8
  replace f10 := shm_255 f10
  replace f11 := shm_254 f11
  replace f13 := shm_254 f13
  replace f14 := shm_37 f14
  replace f15 := shm_6 f15
  have q5 : n_v vs 5 = n_v vs 0 := f3.symm
  simp only [q5] at f4
  have kz_0_12 := fdq_0 hD hth r0
  have kv0 := fdq_0 hD hth r0
  obtain ⟨x, ex, hx⟩ := iv_ex (ta := ta) (lo := 0) (hi := 99993152) (z := w_fi ws (n_v vs 0) 12) (by omega) (by omega) (by omega) (by omega)
  have ex2 : v_iv (Value.int x) = w_fi ws (n_v vs 0) 12 := ex
  have ex3 : 0 ≤ v_iv (Value.int x) ∧ v_iv (Value.int x) ≤ 99993152 := tv_rng hx
  have e_4 : n_v (vs ++ [Value.int x]) 4 = n_v vs 4 := n_v_old (by rw [hl]; decide)
  have e_5 : n_v (vs ++ [Value.int x]) 5 = n_v vs 5 := n_v_old (by rw [hl]; decide)
  have e_7 : n_v (vs ++ [Value.int x]) 7 = n_v vs 7 := n_v_old (by rw [hl]; decide)
  have e_9 : n_v (vs ++ [Value.int x]) 9 = n_v vs 9 := n_v_old (by rw [hl]; decide)
  have e_24 : n_v (vs ++ [Value.int x]) 24 = Value.int x := n_v_new hl
  have nf0 : fc_1 PRD (20, [5, 24], [30, 0, 1, 1, 12, -1, 0, 0]) ws (vs ++ [Value.int x]) := by
    refine ⟨nf_inA hl rfl, sgq_104 ?_⟩
    · show 1 * w_fi ws (n_v (vs ++ [Value.int x]) 5) 12 + ((-1) * v_iv (n_v (vs ++ [Value.int x]) 24) + 0) ≤ 0
      simp only [e_5, e_24, q5]
      exact vc_Ho_writeGroup_at_k3_17_0 (w_fi ws (n_v vs 0) 12) (v_iv (Value.int x)) kz_0_12 ex2
  have nf1 : fc_1 PRD (23, [24, 4, 9, 7], [-6106, 1, -1, -6867, 6867]) ws (vs ++ [Value.int x]) := by
    refine ⟨nf_inA hl rfl, sgq_257 ?_⟩
    · show 1 * v_iv (n_v (vs ++ [Value.int x]) 24) + ((-1) * v_iv (n_v (vs ++ [Value.int x]) 4) + ((-6867) * v_iv (n_v (vs ++ [Value.int x]) 9) + (6867 * v_iv (n_v (vs ++ [Value.int x]) 7) + 0))) ≤ (-6106)
      simp only [e_4, e_7, e_9, e_24]
      exact vc_Ho_writeGroup_at_k3_17_1 (v_iv (n_v vs 4)) (v_iv (n_v vs 7)) (v_iv (n_v vs 9)) (v_iv (n_v vs 12)) (v_iv (n_v vs 21)) (w_fi ws (n_v vs 0) 12) (v_iv (Value.int x)) k4 k7 k9 k12 k21 d0 f0 f4 kz_0_12 ex2
  exact ⟨(fun _ h => (by cases h)), [Value.int x], ag_one hx, List.forall_mem_cons.mpr ⟨⟨show (20 : Nat) < 100 from by decide, nf0⟩, List.forall_mem_cons.mpr ⟨⟨show (23 : Nat) < 100 from by decide, nf1⟩, (fun _ h => (by cases h))⟩⟩, (fun _ h => (by cases h))⟩
set_option maxHeartbeats 4000000 in
theorem vc_Ho_writeGroup_at_k3_18_0 (spareLength_0 : Int) (gx : Int) (kz_0_12 : 0 ≤ spareLength_0 ∧ spareLength_0 ≤ 100000000) (ex2 : gx = spareLength_0) : 1 * spareLength_0 + ((-1) * gx + 0) ≤ 0 := by
  first | assumption | omega | grind
set_option maxHeartbeats 4000000 in
theorem vc_Ho_writeGroup_at_k3_18_1 (x4 : Int) (x7 : Int) (x9 : Int) (x12 : Int) (x24 : Int) (spareLength_0 : Int) (gx : Int) (k4 : 0 ≤ x4 ∧ x4 ≤ 99944320) (k7 : 3 ≤ x7 ∧ x7 ≤ 6) (k9 : 4 ≤ x9 ∧ x9 ≤ 7) (k12 : 3 ≤ x12 ∧ x12 ≤ 6) (k24 : 0 ≤ x24 ∧ x24 ≤ 99993152) (d0 : x7 + 0 ≤ x12 ∧ x12 ≤ x7 + 0) (f0 : 1 * x24 + ((-1) * x4 + ((-6867) * x9 + (6867 * x7 + 0))) ≤ (-6106)) (f5 : 1 * spareLength_0 + ((-1) * x24 + 0) ≤ 6848) (kz_0_12 : 0 ≤ spareLength_0 ∧ spareLength_0 ≤ 100000000) (ex2 : gx = spareLength_0) : 1 * gx + ((-1) * x4 + ((-6867) * x9 + (6867 * x7 + 0))) ≤ 742 := by
  first | assumption | omega | grind
def o_Ho_writeGroup_at_k3_18 : or_T := (170, 26, [(0, (2, 0, 0, [12])), (4, (0, 0, 99944320, [])), (5, (2, 0, 0, [12])), (7, (0, 3, 6, [])), (9, (0, 4, 7, [])), (10, (0, 5, 8, [])), (12, (0, 3, 6, [])), (15, (0, 0, 99999994, [])), (19, (0, 0, 99999992, [])), (21, (0, 0, 99999997, [])), (24, (0, 0, 99993152, []))], [(23, [24, 4, 9, 7], [-6106, 1, -1, -6867, 6867]), (23, [21, 4, 9, 7], [-6109, 1, -1, -6867, 6867]), (23, [19, 4, 9, 7], [-6117, 1, -1, -6867, 6867]), (23, [15, 4, 9, 7], [-6123, 1, -1, -6867, 6867]), (24, [0, 5], []), (20, [5, 24], [30, 6848, 1, 1, 12, -1, 0, 0]), (102, [24], [261336857795280739939871698507597986398208, 12012]), (23, [24, 4, 9, 7], [-6106, 1, -1, -6867, 6867]), (23, [21, 4, 9, 7], [-6109, 1, -1, -6867, 6867]), (23, [19, 4, 9, 7], [-6117, 1, -1, -6867, 6867]), (23, [15, 4, 9, 7], [-6123, 1, -1, -6867, 6867]), (102, [21], [261336857795280739939871698507597986398208, 12012]), (23, [21, 4, 9, 7], [-6109, 1, -1, -6867, 6867]), (23, [19, 4, 9, 7], [-6117, 1, -1, -6867, 6867]), (23, [15, 4, 9, 7], [-6123, 1, -1, -6867, 6867]), (102, [19], [261336857795280739939871698507597986398208, 12012]), (23, [19, 4, 9, 7], [-6117, 1, -1, -6867, 6867]), (23, [15, 4, 9, 7], [-6123, 1, -1, -6867, 6867]), (102, [15], [261336857795280739939871698507597986398208, 12012]), (23, [15, 4, 9, 7], [-6123, 1, -1, -6867, 6867]), (7, [12, 7], [0]), (7, [9, 10], [2])], [], [(0, 0, 99999998, [])], [(20, [5, 26], [30, 0, 1, 1, 12, -1, 0, 0]), (23, [26, 4, 9, 7], [742, 1, -1, -6867, 6867])], [], [(12, 7, 0, 0), (9, 10, -4294967296, -1), (7, 9, -4294967296, -1)])
theorem oo_Ho_writeGroup_at_k3_18 {kA : Nat → ClassId} : or_ok PRD kA GG o_Ho_writeGroup_at_k3_18 := by
  refine or_mk fun A ta ws vs hD hth hl => ?_
  intro t0 r0 t4 k4 t5 r5 t7 k7 t9 k9 t10 k10 t12 k12 t15 k15 t19 k19 t21 k21 t24 k24 d0 d1 d2 f0 f1 f2 f3 f4 f5 ta1 w1 le1 s1 f7 f8 f9 f10 ta2 w2 le2 s2 f12 f13 f14 ta3 w3 le3 s3 f16 f17 ta4 w4 le4 s4 f19 f20 f21
  replace f0 := shm_257 f0
  replace f1 := shm_256 f1
  replace f2 := shm_255 f2
  replace f3 := shm_254 f3
  replace f4 := shm_5 f4
  replace f5 := shm_258 f5
  replace f7 := shm_257 f7
  replace f8 := shm_256 f8
  replace f9 := shm_255 f9
  replace f10 := shm_254 f10
  replace f12 := shm_256 f12
  replace f13 := shm_255 f13
  replace f14 := shm_254 f14
  replace f16 := shm_255 f16
  replace f17 := shm_254 f17
  replace f19 := shm_254 f19
  replace f20 := shm_37 f20
  replace f21 := shm_6 f21
  have q5 : n_v vs 5 = n_v vs 0 := f4.symm
  simp only [q5] at f5
  have kz_0_12 := fdq_0 hD hth r0
  have kv0 := fdq_0 hD hth r0
  obtain ⟨x, ex, hx⟩ := iv_ex (ta := ta) (lo := 0) (hi := 99999998) (z := w_fi ws (n_v vs 0) 12) (by omega) (by omega) (by omega) (by omega)
  have ex2 : v_iv (Value.int x) = w_fi ws (n_v vs 0) 12 := ex
  have ex3 : 0 ≤ v_iv (Value.int x) ∧ v_iv (Value.int x) ≤ 99999998 := tv_rng hx
  have e_4 : n_v (vs ++ [Value.int x]) 4 = n_v vs 4 := n_v_old (by rw [hl]; decide)
  have e_5 : n_v (vs ++ [Value.int x]) 5 = n_v vs 5 := n_v_old (by rw [hl]; decide)
  have e_7 : n_v (vs ++ [Value.int x]) 7 = n_v vs 7 := n_v_old (by rw [hl]; decide)
  have e_9 : n_v (vs ++ [Value.int x]) 9 = n_v vs 9 := n_v_old (by rw [hl]; decide)
  have e_26 : n_v (vs ++ [Value.int x]) 26 = Value.int x := n_v_new hl
  have nf0 : fc_1 PRD (20, [5, 26], [30, 0, 1, 1, 12, -1, 0, 0]) ws (vs ++ [Value.int x]) := by
    refine ⟨nf_inA hl rfl, sgq_104 ?_⟩
    · show 1 * w_fi ws (n_v (vs ++ [Value.int x]) 5) 12 + ((-1) * v_iv (n_v (vs ++ [Value.int x]) 26) + 0) ≤ 0
      simp only [e_5, e_26, q5]
      exact vc_Ho_writeGroup_at_k3_18_0 (w_fi ws (n_v vs 0) 12) (v_iv (Value.int x)) kz_0_12 ex2
  have nf1 : fc_1 PRD (23, [26, 4, 9, 7], [742, 1, -1, -6867, 6867]) ws (vs ++ [Value.int x]) := by
    refine ⟨nf_inA hl rfl, sgq_259 ?_⟩
    · show 1 * v_iv (n_v (vs ++ [Value.int x]) 26) + ((-1) * v_iv (n_v (vs ++ [Value.int x]) 4) + ((-6867) * v_iv (n_v (vs ++ [Value.int x]) 9) + (6867 * v_iv (n_v (vs ++ [Value.int x]) 7) + 0))) ≤ 742
      simp only [e_4, e_7, e_9, e_26]
      exact vc_Ho_writeGroup_at_k3_18_1 (v_iv (n_v vs 4)) (v_iv (n_v vs 7)) (v_iv (n_v vs 9)) (v_iv (n_v vs 12)) (v_iv (n_v vs 24)) (w_fi ws (n_v vs 0) 12) (v_iv (Value.int x)) k4 k7 k9 k12 k24 d0 f0 f5 kz_0_12 ex2
  exact ⟨(fun _ h => (by cases h)), [Value.int x], ag_one hx, List.forall_mem_cons.mpr ⟨⟨show (20 : Nat) < 100 from by decide, nf0⟩, List.forall_mem_cons.mpr ⟨⟨show (23 : Nat) < 100 from by decide, nf1⟩, (fun _ h => (by cases h))⟩⟩, (fun _ h => (by cases h))⟩
set_option maxHeartbeats 4000000 in
theorem vc_Ho_writeGroup_at_k3_19_0 (x4 : Int) (x7 : Int) (x9 : Int) (x12 : Int) (x26 : Int) (x27 : Int) (spareLength_0 : Int) (k4 : 0 ≤ x4 ∧ x4 ≤ 99944320) (k7 : 3 ≤ x7 ∧ x7 ≤ 6) (k9 : 4 ≤ x9 ∧ x9 ≤ 7) (k12 : 3 ≤ x12 ∧ x12 ≤ 6) (k26 : 0 ≤ x26 ∧ x26 ≤ 99999998) (k27 : 5 ≤ x27 ∧ x27 ≤ 8) (d0 : x9 + 1 ≤ x27 ∧ x27 ≤ x9 + 1) (d2 : x7 + 0 ≤ x12 ∧ x12 ≤ x7 + 0) (f1 : 1 * x26 + ((-1) * x4 + ((-6867) * x9 + (6867 * x7 + 0))) ≤ 742) (f7 : 1 * spareLength_0 + ((-1) * x26 + 0) ≤ 2) (kz_0_12 : 0 ≤ spareLength_0 ∧ spareLength_0 ≤ 100000000) : 1 * spareLength_0 + ((-1) * x4 + ((-6867) * x27 + (6867 * x7 + 0))) ≤ (-6123) := by
  first | assumption | omega | grind
def o_Ho_writeGroup_at_k3_19 : or_T := (100, 28, [(0, (2, 0, 0, [12])), (4, (0, 0, 99944320, [])), (7, (0, 3, 6, [])), (9, (0, 4, 7, [])), (12, (0, 3, 6, [])), (26, (0, 0, 99999998, [])), (27, (0, 5, 8, []))], [(23, [26, 4, 9, 7], [742, 1, -1, -6867, 6867]), (24, [0, 5], []), (20, [5, 26], [30, 2, 1, 1, 12, -1, 0, 0])], [], [], [(20, [5, 4, 27, 7], [30, -6123, 1, 1, 12, -1, 0, 0, -6867, 0, 0, 6867, 0, 0])], [], [(27, 9, 1, 1), (12, 7, 0, 0)])
theorem oo_Ho_writeGroup_at_k3_19 {kA : Nat → ClassId} : or_ok PRD kA GG o_Ho_writeGroup_at_k3_19 := by
  refine or_mk fun A ta ws vs hD hth hl => ?_
  intro t0 r0 t4 k4 t7 k7 t9 k9 t12 k12 t26 k26 t27 k27 d0 d2 f1 f6 f7
  replace f1 := shm_259 f1
  replace f6 := shm_5 f6
  replace f7 := shm_204 f7
  have q5 : n_v vs 5 = n_v vs 0 := f6.symm
  simp only [q5] at f7
  have kz_0_12 := fdq_0 hD hth r0
  have nf0 : fc_1 PRD (20, [5, 4, 27, 7], [30, -6123, 1, 1, 12, -1, 0, 0, -6867, 0, 0, 6867, 0, 0]) ws (vs) := by
    refine ⟨nf_in hl rfl, sgq_253 ?_⟩
    · show 1 * w_fi ws (n_v vs 5) 12 + ((-1) * v_iv (n_v vs 4) + ((-6867) * v_iv (n_v vs 27) + (6867 * v_iv (n_v vs 7) + 0))) ≤ (-6123)
      rw [q5]
      exact vc_Ho_writeGroup_at_k3_19_0 (v_iv (n_v vs 4)) (v_iv (n_v vs 7)) (v_iv (n_v vs 9)) (v_iv (n_v vs 12)) (v_iv (n_v vs 26)) (v_iv (n_v vs 27)) (w_fi ws (n_v vs 0) 12) k4 k7 k9 k12 k26 k27 d0 d2 f1 f7 kz_0_12
  refine ⟨(fun _ h => (by cases h)), [], trivial, ?_, (fun _ h => (by cases h))⟩
  rw [List.append_nil]
  exact List.forall_mem_cons.mpr ⟨⟨show (20 : Nat) < 100 from by decide, nf0⟩, (fun _ h => (by cases h))⟩
def n_Ho_writeGroup_at_k3_an : List an_T := [(3, [(0, (2, 0, 0, [12])), (1, (2, 0, 0, [3])), (2, (0, 3, 7, [])), (3, (0, 3, 3, [])), (4, (0, 0, 24, []))], [], (0, 0), [(0, 0, 99997), (1, 9, 24), (0, 0, 100000)], [(2, 7, (Int.negSucc 999999999999), 0), (7, 2, (Int.negSucc 999999999999), 0)], [], [(2, 0, 0, [12]), (2, 0, 0, [3]), (0, 3, 7, []), (0, 3, 3, []), (0, 0, 99944320, [])], 0, [], [(20, [5, 4, 9], [30, 0, 1, 1, 12, (Int.negSucc 0), 0, 0, (Int.negSucc 30), 0, 0]), (24, [0, 5], [])]), (100, [(0, (2, 0, 0, [12])), (1, (2, 0, 0, [3])), (2, (0, 3, 7, [])), (3, (0, 3, 3, [])), (4, (0, 4, 8, []))], [], (0, 0), [(0, 0, 99900), (1, 9, 8), (0, 0, 100000)], [(2, 7, (Int.negSucc 999999999999), 0), (2, 9, (Int.negSucc 999999999999), (Int.negSucc 0)), (7, 2, (Int.negSucc 999999999999), 0), (7, 9, (Int.negSucc 999999999999), (Int.negSucc 0))], [], [(2, 0, 0, [12]), (2, 0, 0, [3]), (0, 3, 7, []), (0, 3, 3, []), (0, 0, 99944320, [])], 0, [], [(20, [5, 4, 9, 7], [30, (Int.negSucc 6122), 1, 1, 12, (Int.negSucc 0), 0, 0, (Int.negSucc 6866), 0, 0, 6867, 0, 0]), (24, [0, 5], [])])]
def t_Ho_writeGroup_at_k3_ct : ct_L := [(1, 447, e_Ho_writeByte), (1, 471, e_Ho_writeNumber), (85, 461, e_Ho_writeWord_at_s5013), (136, 465, e_Ho_writeName_at_Grname), (190, 461, e_Ho_writeWord_at_s5014), (262, 461, e_Ho_writeWord_at_s5015), (391, 461, e_Ho_writeWord_at_s5016), (442, 465, e_Ho_writeName_at_GrgroupName), (463, 461, e_Ho_writeWord_at_s5017), (493, 364, e_Ho_writeGroup_at_k4), (514, 461, e_Ho_writeWord_at_s5018), (1000001, 459, en_ro [] (2, 0, 0, [5013])), (1000001, 469, en_ro [] (2, 0, 0, [5014])), (1000001, 474, en_ro [] (2, 0, 0, [5015])), (1000001, 476, en_ro [] (2, 0, 0, [5016])), (1000001, 478, en_ro [] (2, 0, 0, [5017])), (1000001, 480, en_ro [] (2, 0, 0, [5018]))]
set_option maxRecDepth 100000 in
theorem c_Ho_writeGroup_at_k3 {l : Launch} {D : va_G} {kA : Nat → ClassId} (h_Ho_writeByte : ct_ok PRD l D kA GG y_Ho_writeByte z_Ho_writeByte e_Ho_writeByte) (h_Ho_writeGroup_at_k4 : ct_ok PRD l D kA GG y_Ho_writeGroup_at_k4 z_Ho_writeGroup_at_k4 e_Ho_writeGroup_at_k4) (h_Ho_writeName_at_GrgroupName : ct_ok PRD l D kA GG y_Ho_writeName_at_GrgroupName z_Ho_writeName_at_GrgroupName e_Ho_writeName_at_GrgroupName) (h_Ho_writeName_at_Grname : ct_ok PRD l D kA GG y_Ho_writeName_at_Grname z_Ho_writeName_at_Grname e_Ho_writeName_at_Grname) (h_Ho_writeNumber : ct_ok PRD l D kA GG y_Ho_writeNumber z_Ho_writeNumber e_Ho_writeNumber) (h_Ho_writeWord_at_s5013 : ct_ok PRD l D kA GG y_Ho_writeWord_at_s5013 z_Ho_writeWord_at_s5013 e_Ho_writeWord_at_s5013) (h_Ho_writeWord_at_s5014 : ct_ok PRD l D kA GG y_Ho_writeWord_at_s5014 z_Ho_writeWord_at_s5014 e_Ho_writeWord_at_s5014) (h_Ho_writeWord_at_s5015 : ct_ok PRD l D kA GG y_Ho_writeWord_at_s5015 z_Ho_writeWord_at_s5015 e_Ho_writeWord_at_s5015) (h_Ho_writeWord_at_s5016 : ct_ok PRD l D kA GG y_Ho_writeWord_at_s5016 z_Ho_writeWord_at_s5016 e_Ho_writeWord_at_s5016) (h_Ho_writeWord_at_s5017 : ct_ok PRD l D kA GG y_Ho_writeWord_at_s5017 z_Ho_writeWord_at_s5017 e_Ho_writeWord_at_s5017) (h_Ho_writeWord_at_s5018 : ct_ok PRD l D kA GG y_Ho_writeWord_at_s5018 z_Ho_writeWord_at_s5018 e_Ho_writeWord_at_s5018) : ct_ok PRD l D kA GG y_Ho_writeGroup_at_k3 z_Ho_writeGroup_at_k3 e_Ho_writeGroup_at_k3 := chk_all_ok (FT := [(132, 3, 0), (144, 3, 2), (169, 3, 4), (172, 3, 5), (175, 3, 6), (221, 3, 11), (224, 3, 13), (230, 3, 3), (233, 3, 12)]) (PT := []) (CT := t_Ho_writeGroup_at_k3_ct) (KT := []) (NT := []) (AN := n_Ho_writeGroup_at_k3_an) (OT := [o_Ho_writeGroup_at_k3_0, o_Ho_writeGroup_at_k3_1, o_Ho_writeGroup_at_k3_2, o_Ho_writeGroup_at_k3_3, o_Ho_writeGroup_at_k3_4, o_Ho_writeGroup_at_k3_5, o_Ho_writeGroup_at_k3_6, o_Ho_writeGroup_at_k3_7, o_Ho_writeGroup_at_k3_8, o_Ho_writeGroup_at_k3_9, o_Ho_writeGroup_at_k3_10, o_Ho_writeGroup_at_k3_11, o_Ho_writeGroup_at_k3_12, o_Ho_writeGroup_at_k3_13, o_Ho_writeGroup_at_k3_14, o_Ho_writeGroup_at_k3_15, o_Ho_writeGroup_at_k3_16, o_Ho_writeGroup_at_k3_17, o_Ho_writeGroup_at_k3_18, o_Ho_writeGroup_at_k3_19]) 3 404 (List.forall_mem_cons.mpr ⟨oo_Ho_writeGroup_at_k3_0, List.forall_mem_cons.mpr ⟨oo_Ho_writeGroup_at_k3_1, List.forall_mem_cons.mpr ⟨oo_Ho_writeGroup_at_k3_2, List.forall_mem_cons.mpr ⟨oo_Ho_writeGroup_at_k3_3, List.forall_mem_cons.mpr ⟨oo_Ho_writeGroup_at_k3_4, List.forall_mem_cons.mpr ⟨oo_Ho_writeGroup_at_k3_5, List.forall_mem_cons.mpr ⟨oo_Ho_writeGroup_at_k3_6, List.forall_mem_cons.mpr ⟨oo_Ho_writeGroup_at_k3_7, List.forall_mem_cons.mpr ⟨oo_Ho_writeGroup_at_k3_8, List.forall_mem_cons.mpr ⟨oo_Ho_writeGroup_at_k3_9, List.forall_mem_cons.mpr ⟨oo_Ho_writeGroup_at_k3_10, List.forall_mem_cons.mpr ⟨oo_Ho_writeGroup_at_k3_11, List.forall_mem_cons.mpr ⟨oo_Ho_writeGroup_at_k3_12, List.forall_mem_cons.mpr ⟨oo_Ho_writeGroup_at_k3_13, List.forall_mem_cons.mpr ⟨oo_Ho_writeGroup_at_k3_14, List.forall_mem_cons.mpr ⟨oo_Ho_writeGroup_at_k3_15, List.forall_mem_cons.mpr ⟨oo_Ho_writeGroup_at_k3_16, List.forall_mem_cons.mpr ⟨oo_Ho_writeGroup_at_k3_17, List.forall_mem_cons.mpr ⟨oo_Ho_writeGroup_at_k3_18, List.forall_mem_cons.mpr ⟨oo_Ho_writeGroup_at_k3_19, List.forall_mem_nil _⟩⟩⟩⟩⟩⟩⟩⟩⟩⟩⟩⟩⟩⟩⟩⟩⟩⟩⟩⟩) (by decide +kernel) ⟨List.forall_mem_cons.mpr ⟨gf_Ho_132, List.forall_mem_cons.mpr ⟨gf_Ho_144, List.forall_mem_cons.mpr ⟨gf_Ho_169, List.forall_mem_cons.mpr ⟨gf_Ho_172, List.forall_mem_cons.mpr ⟨gf_Ho_175, List.forall_mem_cons.mpr ⟨gf_Ho_221, List.forall_mem_cons.mpr ⟨gf_Ho_224, List.forall_mem_cons.mpr ⟨gf_Ho_230, List.forall_mem_cons.mpr ⟨gf_Ho_233, List.forall_mem_nil _⟩⟩⟩⟩⟩⟩⟩⟩⟩, List.forall_mem_nil _, List.forall_mem_cons.mpr ⟨cl_virtual (y := y_Ho_writeByte) (ci := 12) rfl rfl ⟨_, _, rfl⟩ (by decide +kernel) h_Ho_writeByte wm_2345 wm_1 wm_2342 wm_2344 wv_12_0 ⟨by decide, by decide, by decide +kernel⟩ (by decide), List.forall_mem_cons.mpr ⟨cl_virtual (y := y_Ho_writeNumber) (ci := 12) rfl rfl ⟨_, _, rfl⟩ (by decide +kernel) h_Ho_writeNumber wm_2354 wm_1 wm_2351 wm_2353 wv_12_2 ⟨by decide, by decide, by decide +kernel⟩ (by decide), List.forall_mem_cons.mpr ⟨cl_virtual (y := y_Ho_writeWord_at_s5013) (ci := 12) rfl rfl ⟨_, _, rfl⟩ (by decide +kernel) h_Ho_writeWord_at_s5013 wm_2339 wm_1 wm_2336 wm_2338 wv_11_15 ⟨by decide, by decide, by decide +kernel⟩ (by decide), List.forall_mem_cons.mpr ⟨cl_virtual (y := y_Ho_writeName_at_Grname) (ci := 12) rfl rfl ⟨_, _, rfl⟩ (by decide +kernel) h_Ho_writeName_at_Grname wm_2349 wm_1 wm_2346 wm_2348 wv_12_1 ⟨by decide, by decide, by decide +kernel⟩ (by decide), List.forall_mem_cons.mpr ⟨cl_virtual (y := y_Ho_writeWord_at_s5014) (ci := 12) rfl rfl ⟨_, _, rfl⟩ (by decide +kernel) h_Ho_writeWord_at_s5014 wm_2339 wm_1 wm_2336 wm_2338 wv_11_15 ⟨by decide, by decide, by decide +kernel⟩ (by decide), List.forall_mem_cons.mpr ⟨cl_virtual (y := y_Ho_writeWord_at_s5015) (ci := 12) rfl rfl ⟨_, _, rfl⟩ (by decide +kernel) h_Ho_writeWord_at_s5015 wm_2339 wm_1 wm_2336 wm_2338 wv_11_15 ⟨by decide, by decide, by decide +kernel⟩ (by decide), List.forall_mem_cons.mpr ⟨cl_virtual (y := y_Ho_writeWord_at_s5016) (ci := 12) rfl rfl ⟨_, _, rfl⟩ (by decide +kernel) h_Ho_writeWord_at_s5016 wm_2339 wm_1 wm_2336 wm_2338 wv_11_15 ⟨by decide, by decide, by decide +kernel⟩ (by decide), List.forall_mem_cons.mpr ⟨cl_virtual (y := y_Ho_writeName_at_GrgroupName) (ci := 12) rfl rfl ⟨_, _, rfl⟩ (by decide +kernel) h_Ho_writeName_at_GrgroupName wm_2349 wm_1 wm_2346 wm_2348 wv_12_1 ⟨by decide, by decide, by decide +kernel⟩ (by decide), List.forall_mem_cons.mpr ⟨cl_virtual (y := y_Ho_writeWord_at_s5017) (ci := 12) rfl rfl ⟨_, _, rfl⟩ (by decide +kernel) h_Ho_writeWord_at_s5017 wm_2339 wm_1 wm_2336 wm_2338 wv_11_15 ⟨by decide, by decide, by decide +kernel⟩ (by decide), List.forall_mem_cons.mpr ⟨cl_virtual (y := y_Ho_writeGroup_at_k4) (ci := 12) rfl rfl ⟨_, _, rfl⟩ (by decide +kernel) h_Ho_writeGroup_at_k4 wm_2334 wm_1 wm_2331 wm_2333 wv_11_14 ⟨by decide, by decide, by decide +kernel⟩ (by decide), List.forall_mem_cons.mpr ⟨cl_virtual (y := y_Ho_writeWord_at_s5018) (ci := 12) rfl rfl ⟨_, _, rfl⟩ (by decide +kernel) h_Ho_writeWord_at_s5018 wm_2339 wm_1 wm_2336 wm_2338 wv_11_15 ⟨by decide, by decide, by decide +kernel⟩ (by decide), List.forall_mem_cons.mpr ⟨cl_ldcw (own := "DrawingHouse") (idx := 459) (i := 13) (tx := "node ") (by decide +kernel) (by decide +kernel) (by decide +kernel), List.forall_mem_cons.mpr ⟨cl_ldcw (own := "DrawingHouse") (idx := 469) (i := 14) (tx := " [size=") (by decide +kernel) (by decide +kernel) (by decide +kernel), List.forall_mem_cons.mpr ⟨cl_ldcw (own := "DrawingHouse") (idx := 474) (i := 15) (tx := ";\n") (by decide +kernel) (by decide +kernel) (by decide +kernel), List.forall_mem_cons.mpr ⟨cl_ldcw (own := "DrawingHouse") (idx := 476) (i := 16) (tx := "group ") (by decide +kernel) (by decide +kernel) (by decide +kernel), List.forall_mem_cons.mpr ⟨cl_ldcw (own := "DrawingHouse") (idx := 478) (i := 17) (tx := " {\n") (by decide +kernel) (by decide +kernel) (by decide +kernel), List.forall_mem_cons.mpr ⟨cl_ldcw (own := "DrawingHouse") (idx := 480) (i := 18) (tx := "}\n") (by decide +kernel) (by decide +kernel) (by decide +kernel), List.forall_mem_nil _⟩⟩⟩⟩⟩⟩⟩⟩⟩⟩⟩⟩⟩⟩⟩⟩⟩, List.forall_mem_nil _, List.forall_mem_nil _, GG_pl⟩ (by decide +kernel)
set_option maxHeartbeats 4000000 in
theorem vc_Ho_writeGroup_at_k4_0_0 (x4 : Int) (x5 : Int) (spareLength_0 : Int) (k4 : 0 ≤ x4 ∧ x4 ≤ 99993152) (k5 : 0 ≤ x5 ∧ x5 ≤ 0) (f0 : 1 * spareLength_0 + ((-1) * x4 + 0) ≤ 0) (kz_0_12 : 0 ≤ spareLength_0 ∧ spareLength_0 ≤ 100000000) : 1 * spareLength_0 + ((-1) * x4 + ((-31) * x5 + 0)) ≤ 0 := by
  first | assumption | omega | grind
def o_Ho_writeGroup_at_k4_0 : or_T := (3, 6, [(0, (2, 0, 0, [12])), (4, (0, 0, 99993152, [])), (5, (0, 0, 0, []))], [(20, [0, 4], [30, 0, 1, 1, 12, -1, 0, 0])], [], [], [(20, [0, 4, 5], [30, 0, 1, 1, 12, -1, 0, 0, -31, 0, 0]), (24, [0, 0], [])], [], [])
theorem oo_Ho_writeGroup_at_k4_0 {kA : Nat → ClassId} : or_ok PRD kA GG o_Ho_writeGroup_at_k4_0 := by
  refine or_mk fun A ta ws vs hD hth hl => ?_
  intro t0 r0 t4 k4 t5 k5 f0
  have kz_0_12 := fdq_0 hD hth r0
  have nf0 : fc_1 PRD (20, [0, 4, 5], [30, 0, 1, 1, 12, -1, 0, 0, -31, 0, 0]) ws (vs) := ⟨nf_in hl rfl, sgq_224 (vc_Ho_writeGroup_at_k4_0_0 (v_iv (n_v vs 4)) (v_iv (n_v vs 5)) (w_fi ws (n_v vs 0) 12) k4 k5 (shm_104 f0) kz_0_12)⟩
  have nf1 : fc_1 PRD (24, [0, 0], []) ws (vs) := by
    refine ⟨nf_in hl rfl, sgq_1 ?_⟩
    · show n_v vs 0 = n_v vs 0
      first | rfl | simp only [true_and]
  refine ⟨(fun _ h => (by cases h)), [], trivial, ?_, (fun _ h => (by cases h))⟩
  rw [List.append_nil]
  exact List.forall_mem_cons.mpr ⟨⟨show (20 : Nat) < 100 from by decide, nf0⟩, List.forall_mem_cons.mpr ⟨⟨show (24 : Nat) < 100 from by decide, nf1⟩, (fun _ h => (by cases h))⟩⟩
set_option maxHeartbeats 4000000 in
theorem vc_Ho_writeGroup_at_k4_1_0 (x4 : Int) (x7 : Int) (x9 : Int) (x12 : Int) (spareLength_0 : Int) (k4 : 0 ≤ x4 ∧ x4 ≤ 99993152) (k7 : 4 ≤ x7 ∧ x7 ≤ 7) (k9 : 0 ≤ x9 ∧ x9 ≤ 24) (k12 : 5 ≤ x12 ∧ x12 ≤ 8) (d0 : x7 + 1 ≤ x12 ∧ x12 ≤ x7 + 1) (f3 : 1 * spareLength_0 + ((-1) * x4 + ((-31) * x9 + 0)) ≤ 0) (kz_0_12 : 0 ≤ spareLength_0 ∧ spareLength_0 ≤ 100000000) : 1 * spareLength_0 + ((-1) * x4 + ((-763) * x12 + (763 * x7 + 0))) ≤ (-19) := by
  first | assumption | omega | grind
def o_Ho_writeGroup_at_k4_1 : or_T := (100, 13, [(0, (2, 0, 0, [12])), (4, (0, 0, 99993152, [])), (7, (0, 4, 7, [])), (9, (0, 0, 24, [])), (12, (0, 5, 8, []))], [(20, [5, 4, 9], [30, 0, 1, 1, 12, -1, 0, 0, -31, 0, 0]), (24, [0, 5], [])], [], [], [(20, [5, 4, 12, 7], [30, -19, 1, 1, 12, -1, 0, 0, -763, 0, 0, 763, 0, 0])], [], [(12, 7, 1, 1)])
theorem oo_Ho_writeGroup_at_k4_1 {kA : Nat → ClassId} : or_ok PRD kA GG o_Ho_writeGroup_at_k4_1 := by
  refine or_mk fun A ta ws vs hD hth hl => ?_
  intro t0 r0 t4 k4 t7 k7 t9 k9 t12 k12 d0 f3 f4
  replace f3 := shm_224 f3
  replace f4 := shm_5 f4
  have q5 : n_v vs 5 = n_v vs 0 := f4.symm
  simp only [q5] at f3
  have kz_0_12 := fdq_0 hD hth r0
  have nf0 : fc_1 PRD (20, [5, 4, 12, 7], [30, -19, 1, 1, 12, -1, 0, 0, -763, 0, 0, 763, 0, 0]) ws (vs) := by
    refine ⟨nf_in hl rfl, sgq_260 ?_⟩
    · show 1 * w_fi ws (n_v vs 5) 12 + ((-1) * v_iv (n_v vs 4) + ((-763) * v_iv (n_v vs 12) + (763 * v_iv (n_v vs 7) + 0))) ≤ (-19)
      rw [q5]
      exact vc_Ho_writeGroup_at_k4_1_0 (v_iv (n_v vs 4)) (v_iv (n_v vs 7)) (v_iv (n_v vs 9)) (v_iv (n_v vs 12)) (w_fi ws (n_v vs 0) 12) k4 k7 k9 k12 d0 f3 kz_0_12
  refine ⟨(fun _ h => (by cases h)), [], trivial, ?_, (fun _ h => (by cases h))⟩
  rw [List.append_nil]
  exact List.forall_mem_cons.mpr ⟨⟨show (20 : Nat) < 100 from by decide, nf0⟩, (fun _ h => (by cases h))⟩
set_option maxHeartbeats 4000000 in
theorem vc_Ho_writeGroup_at_k4_2_0 (x4 : Int) (x9 : Int) (x13 : Int) (spareLength_0 : Int) (k4 : 0 ≤ x4 ∧ x4 ≤ 99993152) (k9 : 0 ≤ x9 ∧ x9 ≤ 23) (k13 : 1 ≤ x13 ∧ x13 ≤ 24) (d0 : x9 + 1 ≤ x13 ∧ x13 ≤ x9 + 1) (f3 : 1 * spareLength_0 + ((-1) * x4 + ((-31) * x9 + 0)) ≤ 0) (kz_0_12 : 0 ≤ spareLength_0 ∧ spareLength_0 ≤ 100000000) : 1 * spareLength_0 + ((-1) * x4 + ((-31) * x13 + 0)) ≤ 0 := by
  first | assumption | omega | grind
def o_Ho_writeGroup_at_k4_2 : or_T := (3, 14, [(0, (2, 0, 0, [12])), (4, (0, 0, 99993152, [])), (9, (0, 0, 23, [])), (13, (0, 1, 24, []))], [(20, [5, 4, 9], [30, 0, 1, 1, 12, -1, 0, 0, -31, 0, 0]), (24, [0, 5], [])], [], [], [(20, [5, 4, 13], [30, 0, 1, 1, 12, -1, 0, 0, -31, 0, 0])], [], [(13, 9, 1, 1)])
theorem oo_Ho_writeGroup_at_k4_2 {kA : Nat → ClassId} : or_ok PRD kA GG o_Ho_writeGroup_at_k4_2 := by
  refine or_mk fun A ta ws vs hD hth hl => ?_
  intro t0 r0 t4 k4 t9 k9 t13 k13 d0 f3 f4
  replace f3 := shm_224 f3
  replace f4 := shm_5 f4
  have q5 : n_v vs 5 = n_v vs 0 := f4.symm
  simp only [q5] at f3
  have kz_0_12 := fdq_0 hD hth r0
  have nf0 : fc_1 PRD (20, [5, 4, 13], [30, 0, 1, 1, 12, -1, 0, 0, -31, 0, 0]) ws (vs) := by
    refine ⟨nf_in hl rfl, sgq_224 ?_⟩
    · show 1 * w_fi ws (n_v vs 5) 12 + ((-1) * v_iv (n_v vs 4) + ((-31) * v_iv (n_v vs 13) + 0)) ≤ 0
      rw [q5]
      exact vc_Ho_writeGroup_at_k4_2_0 (v_iv (n_v vs 4)) (v_iv (n_v vs 9)) (v_iv (n_v vs 13)) (w_fi ws (n_v vs 0) 12) k4 k9 k13 d0 f3 kz_0_12
  refine ⟨(fun _ h => (by cases h)), [], trivial, ?_, (fun _ h => (by cases h))⟩
  rw [List.append_nil]
  exact List.forall_mem_cons.mpr ⟨⟨show (20 : Nat) < 100 from by decide, nf0⟩, (fun _ h => (by cases h))⟩
set_option maxHeartbeats 4000000 in
theorem vc_Ho_writeGroup_at_k4_3_0 (spareLength_0 : Int) (gx : Int) (kz_0_12 : 0 ≤ spareLength_0 ∧ spareLength_0 ≤ 100000000) (ex2 : gx = spareLength_0) : 1 * spareLength_0 + ((-1) * gx + 0) ≤ 0 := by
  first | assumption | omega | grind
set_option maxHeartbeats 4000000 in
theorem vc_Ho_writeGroup_at_k4_3_1 (x4 : Int) (x9 : Int) (spareLength_0 : Int) (gx : Int) (k4 : 0 ≤ x4 ∧ x4 ≤ 99993152) (k9 : 0 ≤ x9 ∧ x9 ≤ 23) (f2 : 1 * spareLength_0 + ((-1) * x4 + ((-31) * x9 + 0)) ≤ 0) (kz_0_12 : 0 ≤ spareLength_0 ∧ spareLength_0 ≤ 100000000) (ex2 : gx = spareLength_0) : 1 * gx + ((-1) * x4 + ((-31) * x9 + 0)) ≤ 0 := by
  first | assumption | omega | grind
def o_Ho_writeGroup_at_k4_3 : or_T := (27, 14, [(0, (2, 0, 0, [12])), (4, (0, 0, 99993152, [])), (5, (2, 0, 0, [12])), (6, (2, 0, 0, [3])), (9, (0, 0, 23, [])), (10, (0, 1, 24, []))], [(7, [9, 10], [2]), (9, [10, 6], [0]), (20, [5, 4, 9], [30, 0, 1, 1, 12, -1, 0, 0, -31, 0, 0]), (24, [0, 5], [])], [], [(0, 0, 99999995, [])], [(20, [5, 14], [30, 0, 1, 1, 12, -1, 0, 0]), (23, [14, 4, 9], [0, 1, -1, -31])], [], [(9, 10, -4294967296, -1)])
theorem oo_Ho_writeGroup_at_k4_3 {kA : Nat → ClassId} : or_ok PRD kA GG o_Ho_writeGroup_at_k4_3 := by
  refine or_mk fun A ta ws vs hD hth hl => ?_
  intro t0 r0 t4 k4 t5 r5 t6 r6 t9 k9 t10 k10 d0 f0 f1 f2 f3
  replace f0 := shm_6 f0
  replace f1 := shm_163 f1
  replace f2 := shm_224 f2
  replace f3 := shm_5 f3
  have q5 : n_v vs 5 = n_v vs 0 := f3.symm
  simp only [q5] at f2
  have g1 : v_iv (n_v vs 10) = w_fi ws (n_v vs 6) 0 := congrArg v_iv f1
  have kz_0_12 := fdq_0 hD hth r0
  have kz_6_0 := fdq_21 hD hth r6
  have kv0 := fdq_0 hD hth r0
  obtain ⟨x, ex, hx⟩ := iv_ex (ta := ta) (lo := 0) (hi := 99999995) (z := w_fi ws (n_v vs 0) 12) (by omega) (by omega) (by omega) (by omega)
  have ex2 : v_iv (Value.int x) = w_fi ws (n_v vs 0) 12 := ex
  have ex3 : 0 ≤ v_iv (Value.int x) ∧ v_iv (Value.int x) ≤ 99999995 := tv_rng hx
  have e_4 : n_v (vs ++ [Value.int x]) 4 = n_v vs 4 := n_v_old (by rw [hl]; decide)
  have e_5 : n_v (vs ++ [Value.int x]) 5 = n_v vs 5 := n_v_old (by rw [hl]; decide)
  have e_9 : n_v (vs ++ [Value.int x]) 9 = n_v vs 9 := n_v_old (by rw [hl]; decide)
  have e_14 : n_v (vs ++ [Value.int x]) 14 = Value.int x := n_v_new hl
  have nf0 : fc_1 PRD (20, [5, 14], [30, 0, 1, 1, 12, -1, 0, 0]) ws (vs ++ [Value.int x]) := by
    refine ⟨nf_inA hl rfl, sgq_104 ?_⟩
    · show 1 * w_fi ws (n_v (vs ++ [Value.int x]) 5) 12 + ((-1) * v_iv (n_v (vs ++ [Value.int x]) 14) + 0) ≤ 0
      simp only [e_5, e_14, q5]
      exact vc_Ho_writeGroup_at_k4_3_0 (w_fi ws (n_v vs 0) 12) (v_iv (Value.int x)) kz_0_12 ex2
  have nf1 : fc_1 PRD (23, [14, 4, 9], [0, 1, -1, -31]) ws (vs ++ [Value.int x]) := by
    refine ⟨nf_inA hl rfl, sgq_226 ?_⟩
    · show 1 * v_iv (n_v (vs ++ [Value.int x]) 14) + ((-1) * v_iv (n_v (vs ++ [Value.int x]) 4) + ((-31) * v_iv (n_v (vs ++ [Value.int x]) 9) + 0)) ≤ 0
      simp only [e_4, e_9, e_14]
      exact vc_Ho_writeGroup_at_k4_3_1 (v_iv (n_v vs 4)) (v_iv (n_v vs 9)) (w_fi ws (n_v vs 0) 12) (v_iv (Value.int x)) k4 k9 f2 kz_0_12 ex2
  exact ⟨(fun _ h => (by cases h)), [Value.int x], ag_one hx, List.forall_mem_cons.mpr ⟨⟨show (20 : Nat) < 100 from by decide, nf0⟩, List.forall_mem_cons.mpr ⟨⟨show (23 : Nat) < 100 from by decide, nf1⟩, (fun _ h => (by cases h))⟩⟩, (fun _ h => (by cases h))⟩
set_option maxHeartbeats 4000000 in
theorem vc_Ho_writeGroup_at_k4_4_0 (spareLength_0 : Int) (gx : Int) (kz_0_12 : 0 ≤ spareLength_0 ∧ spareLength_0 ≤ 100000000) (ex2 : gx = spareLength_0) : 1 * spareLength_0 + ((-1) * gx + 0) ≤ 0 := by
  first | assumption | omega | grind
set_option maxHeartbeats 4000000 in
theorem vc_Ho_writeGroup_at_k4_4_1 (x4 : Int) (x9 : Int) (x14 : Int) (spareLength_0 : Int) (gx : Int) (k4 : 0 ≤ x4 ∧ x4 ≤ 99993152) (k9 : 0 ≤ x9 ∧ x9 ≤ 23) (k14 : 0 ≤ x14 ∧ x14 ≤ 99999995) (f0 : 1 * x14 + ((-1) * x4 + ((-31) * x9 + 0)) ≤ 0) (f2 : 1 * spareLength_0 + ((-1) * x14 + 0) ≤ 5) (kz_0_12 : 0 ≤ spareLength_0 ∧ spareLength_0 ≤ 100000000) (ex2 : gx = spareLength_0) : 1 * gx + ((-1) * x4 + ((-31) * x9 + 0)) ≤ 5 := by
  first | assumption | omega | grind
def o_Ho_writeGroup_at_k4_4 : or_T := (44, 18, [(0, (2, 0, 0, [12])), (4, (0, 0, 99993152, [])), (5, (2, 0, 0, [12])), (9, (0, 0, 23, [])), (10, (0, 1, 24, [])), (14, (0, 0, 99999995, []))], [(23, [14, 4, 9], [0, 1, -1, -31]), (24, [0, 5], []), (20, [5, 14], [30, 5, 1, 1, 12, -1, 0, 0]), (102, [14], [261336857795280739939871698507597986398208, 12012]), (23, [14, 4, 9], [0, 1, -1, -31]), (7, [9, 10], [2])], [], [(0, 0, 99999992, [])], [(20, [5, 18], [30, 0, 1, 1, 12, -1, 0, 0]), (23, [18, 4, 9], [5, 1, -1, -31])], [], [(9, 10, -4294967296, -1)])
theorem oo_Ho_writeGroup_at_k4_4 {kA : Nat → ClassId} : or_ok PRD kA GG o_Ho_writeGroup_at_k4_4 := by
  refine or_mk fun A ta ws vs hD hth hl => ?_
  intro t0 r0 t4 k4 t5 r5 t9 k9 t10 k10 t14 k14 d0 f0 f1 f2 ta1 w1 le1 s1 f4 f5
  replace f0 := shm_226 f0
  replace f1 := shm_5 f1
  replace f2 := shm_202 f2
  replace f4 := shm_226 f4
  replace f5 := shm_6 f5
  have q5 : n_v vs 5 = n_v vs 0 := f1.symm
  simp only [q5] at f2
  have kz_0_12 := fdq_0 hD hth r0
  have kv0 := fdq_0 hD hth r0
  obtain ⟨x, ex, hx⟩ := iv_ex (ta := ta) (lo := 0) (hi := 99999992) (z := w_fi ws (n_v vs 0) 12) (by omega) (by omega) (by omega) (by omega)
  have ex2 : v_iv (Value.int x) = w_fi ws (n_v vs 0) 12 := ex
  have ex3 : 0 ≤ v_iv (Value.int x) ∧ v_iv (Value.int x) ≤ 99999992 := tv_rng hx
  have e_4 : n_v (vs ++ [Value.int x]) 4 = n_v vs 4 := n_v_old (by rw [hl]; decide)
  have e_5 : n_v (vs ++ [Value.int x]) 5 = n_v vs 5 := n_v_old (by rw [hl]; decide)
  have e_9 : n_v (vs ++ [Value.int x]) 9 = n_v vs 9 := n_v_old (by rw [hl]; decide)
  have e_18 : n_v (vs ++ [Value.int x]) 18 = Value.int x := n_v_new hl
  have nf0 : fc_1 PRD (20, [5, 18], [30, 0, 1, 1, 12, -1, 0, 0]) ws (vs ++ [Value.int x]) := by
    refine ⟨nf_inA hl rfl, sgq_104 ?_⟩
    · show 1 * w_fi ws (n_v (vs ++ [Value.int x]) 5) 12 + ((-1) * v_iv (n_v (vs ++ [Value.int x]) 18) + 0) ≤ 0
      simp only [e_5, e_18, q5]
      exact vc_Ho_writeGroup_at_k4_4_0 (w_fi ws (n_v vs 0) 12) (v_iv (Value.int x)) kz_0_12 ex2
  have nf1 : fc_1 PRD (23, [18, 4, 9], [5, 1, -1, -31]) ws (vs ++ [Value.int x]) := by
    refine ⟨nf_inA hl rfl, sgq_227 ?_⟩
    · show 1 * v_iv (n_v (vs ++ [Value.int x]) 18) + ((-1) * v_iv (n_v (vs ++ [Value.int x]) 4) + ((-31) * v_iv (n_v (vs ++ [Value.int x]) 9) + 0)) ≤ 5
      simp only [e_4, e_9, e_18]
      exact vc_Ho_writeGroup_at_k4_4_1 (v_iv (n_v vs 4)) (v_iv (n_v vs 9)) (v_iv (n_v vs 14)) (w_fi ws (n_v vs 0) 12) (v_iv (Value.int x)) k4 k9 k14 f0 f2 kz_0_12 ex2
  exact ⟨(fun _ h => (by cases h)), [Value.int x], ag_one hx, List.forall_mem_cons.mpr ⟨⟨show (20 : Nat) < 100 from by decide, nf0⟩, List.forall_mem_cons.mpr ⟨⟨show (23 : Nat) < 100 from by decide, nf1⟩, (fun _ h => (by cases h))⟩⟩, (fun _ h => (by cases h))⟩
set_option maxHeartbeats 4000000 in
theorem vc_Ho_writeGroup_at_k4_5_0 (spareLength_0 : Int) (gx : Int) (kz_0_12 : 0 ≤ spareLength_0 ∧ spareLength_0 ≤ 100000000) (ex2 : gx = spareLength_0) : 1 * spareLength_0 + ((-1) * gx + 0) ≤ 0 := by
  first | assumption | omega | grind
set_option maxHeartbeats 4000000 in
theorem vc_Ho_writeGroup_at_k4_5_1 (x4 : Int) (x9 : Int) (x18 : Int) (spareLength_0 : Int) (gx : Int) (k4 : 0 ≤ x4 ∧ x4 ≤ 99993152) (k9 : 0 ≤ x9 ∧ x9 ≤ 23) (k18 : 0 ≤ x18 ∧ x18 ≤ 99999992) (f0 : 1 * x18 + ((-1) * x4 + ((-31) * x9 + 0)) ≤ 5) (f3 : 1 * spareLength_0 + ((-1) * x18 + 0) ≤ 8) (kz_0_12 : 0 ≤ spareLength_0 ∧ spareLength_0 ≤ 100000000) (ex2 : gx = spareLength_0) : 1 * gx + ((-1) * x4 + ((-31) * x9 + 0)) ≤ 29 := by
  first | assumption | omega | grind
def o_Ho_writeGroup_at_k4_5 : or_T := (86, 23, [(0, (2, 0, 0, [12])), (4, (0, 0, 99993152, [])), (5, (2, 0, 0, [12])), (9, (0, 0, 23, [])), (10, (0, 1, 24, [])), (14, (0, 0, 99999995, [])), (18, (0, 0, 99999992, []))], [(23, [18, 4, 9], [5, 1, -1, -31]), (23, [14, 4, 9], [0, 1, -1, -31]), (24, [0, 5], []), (20, [5, 18], [30, 8, 1, 1, 12, -1, 0, 0]), (102, [18], [261336857795280739939871698507597986398208, 12012]), (23, [18, 4, 9], [5, 1, -1, -31]), (23, [14, 4, 9], [0, 1, -1, -31]), (102, [14], [261336857795280739939871698507597986398208, 12012]), (23, [14, 4, 9], [0, 1, -1, -31]), (7, [9, 10], [2])], [], [(0, 0, 99999998, [])], [(20, [5, 23], [30, 0, 1, 1, 12, -1, 0, 0]), (23, [23, 4, 9], [29, 1, -1, -31])], [], [(9, 10, -4294967296, -1)])
theorem oo_Ho_writeGroup_at_k4_5 {kA : Nat → ClassId} : or_ok PRD kA GG o_Ho_writeGroup_at_k4_5 := by
  refine or_mk fun A ta ws vs hD hth hl => ?_
  intro t0 r0 t4 k4 t5 r5 t9 k9 t10 k10 t14 k14 t18 k18 d0 f0 f1 f2 f3 ta1 w1 le1 s1 f5 f6 ta2 w2 le2 s2 f8 f9
  replace f0 := shm_227 f0
  replace f1 := shm_226 f1
  replace f2 := shm_5 f2
  replace f3 := shm_135 f3
  replace f5 := shm_227 f5
  replace f6 := shm_226 f6
  replace f8 := shm_226 f8
  replace f9 := shm_6 f9
  have q5 : n_v vs 5 = n_v vs 0 := f2.symm
  simp only [q5] at f3
  have kz_0_12 := fdq_0 hD hth r0
  have kv0 := fdq_0 hD hth r0
  obtain ⟨x, ex, hx⟩ := iv_ex (ta := ta) (lo := 0) (hi := 99999998) (z := w_fi ws (n_v vs 0) 12) (by omega) (by omega) (by omega) (by omega)
  have ex2 : v_iv (Value.int x) = w_fi ws (n_v vs 0) 12 := ex
  have ex3 : 0 ≤ v_iv (Value.int x) ∧ v_iv (Value.int x) ≤ 99999998 := tv_rng hx
  have e_4 : n_v (vs ++ [Value.int x]) 4 = n_v vs 4 := n_v_old (by rw [hl]; decide)
  have e_5 : n_v (vs ++ [Value.int x]) 5 = n_v vs 5 := n_v_old (by rw [hl]; decide)
  have e_9 : n_v (vs ++ [Value.int x]) 9 = n_v vs 9 := n_v_old (by rw [hl]; decide)
  have e_23 : n_v (vs ++ [Value.int x]) 23 = Value.int x := n_v_new hl
  have nf0 : fc_1 PRD (20, [5, 23], [30, 0, 1, 1, 12, -1, 0, 0]) ws (vs ++ [Value.int x]) := by
    refine ⟨nf_inA hl rfl, sgq_104 ?_⟩
    · show 1 * w_fi ws (n_v (vs ++ [Value.int x]) 5) 12 + ((-1) * v_iv (n_v (vs ++ [Value.int x]) 23) + 0) ≤ 0
      simp only [e_5, e_23, q5]
      exact vc_Ho_writeGroup_at_k4_5_0 (w_fi ws (n_v vs 0) 12) (v_iv (Value.int x)) kz_0_12 ex2
  have nf1 : fc_1 PRD (23, [23, 4, 9], [29, 1, -1, -31]) ws (vs ++ [Value.int x]) := by
    refine ⟨nf_inA hl rfl, sgq_228 ?_⟩
    · show 1 * v_iv (n_v (vs ++ [Value.int x]) 23) + ((-1) * v_iv (n_v (vs ++ [Value.int x]) 4) + ((-31) * v_iv (n_v (vs ++ [Value.int x]) 9) + 0)) ≤ 29
      simp only [e_4, e_9, e_23]
      exact vc_Ho_writeGroup_at_k4_5_1 (v_iv (n_v vs 4)) (v_iv (n_v vs 9)) (v_iv (n_v vs 18)) (w_fi ws (n_v vs 0) 12) (v_iv (Value.int x)) k4 k9 k18 f0 f3 kz_0_12 ex2
  exact ⟨(fun _ h => (by cases h)), [Value.int x], ag_one hx, List.forall_mem_cons.mpr ⟨⟨show (20 : Nat) < 100 from by decide, nf0⟩, List.forall_mem_cons.mpr ⟨⟨show (23 : Nat) < 100 from by decide, nf1⟩, (fun _ h => (by cases h))⟩⟩, (fun _ h => (by cases h))⟩
set_option maxHeartbeats 4000000 in
theorem vc_Ho_writeGroup_at_k4_6_0 (x4 : Int) (x9 : Int) (x23 : Int) (x24 : Int) (spareLength_0 : Int) (k4 : 0 ≤ x4 ∧ x4 ≤ 99993152) (k9 : 0 ≤ x9 ∧ x9 ≤ 23) (k23 : 0 ≤ x23 ∧ x23 ≤ 99999998) (k24 : 1 ≤ x24 ∧ x24 ≤ 24) (d0 : x9 + 1 ≤ x24 ∧ x24 ≤ x9 + 1) (f1 : 1 * x23 + ((-1) * x4 + ((-31) * x9 + 0)) ≤ 29) (f5 : 1 * spareLength_0 + ((-1) * x23 + 0) ≤ 2) (kz_0_12 : 0 ≤ spareLength_0 ∧ spareLength_0 ≤ 100000000) : 1 * spareLength_0 + ((-1) * x4 + ((-31) * x24 + 0)) ≤ 0 := by
  first | assumption | omega | grind
def o_Ho_writeGroup_at_k4_6 : or_T := (3, 25, [(0, (2, 0, 0, [12])), (4, (0, 0, 99993152, [])), (9, (0, 0, 23, [])), (23, (0, 0, 99999998, [])), (24, (0, 1, 24, []))], [(23, [23, 4, 9], [29, 1, -1, -31]), (24, [0, 5], []), (20, [5, 23], [30, 2, 1, 1, 12, -1, 0, 0])], [], [], [(20, [5, 4, 24], [30, 0, 1, 1, 12, -1, 0, 0, -31, 0, 0])], [], [(24, 9, 1, 1)])
theorem oo_Ho_writeGroup_at_k4_6 {kA : Nat → ClassId} : or_ok PRD kA GG o_Ho_writeGroup_at_k4_6 := by
  refine or_mk fun A ta ws vs hD hth hl => ?_
  intro t0 r0 t4 k4 t9 k9 t23 k23 t24 k24 d0 f1 f4 f5
  replace f1 := shm_228 f1
  replace f4 := shm_5 f4
  replace f5 := shm_204 f5
  have q5 : n_v vs 5 = n_v vs 0 := f4.symm
  simp only [q5] at f5
  have kz_0_12 := fdq_0 hD hth r0
  have nf0 : fc_1 PRD (20, [5, 4, 24], [30, 0, 1, 1, 12, -1, 0, 0, -31, 0, 0]) ws (vs) := by
    refine ⟨nf_in hl rfl, sgq_224 ?_⟩
    · show 1 * w_fi ws (n_v vs 5) 12 + ((-1) * v_iv (n_v vs 4) + ((-31) * v_iv (n_v vs 24) + 0)) ≤ 0
      rw [q5]
      exact vc_Ho_writeGroup_at_k4_6_0 (v_iv (n_v vs 4)) (v_iv (n_v vs 9)) (v_iv (n_v vs 23)) (v_iv (n_v vs 24)) (w_fi ws (n_v vs 0) 12) k4 k9 k23 k24 d0 f1 f5 kz_0_12
  refine ⟨(fun _ h => (by cases h)), [], trivial, ?_, (fun _ h => (by cases h))⟩
  rw [List.append_nil]
  exact List.forall_mem_cons.mpr ⟨⟨show (20 : Nat) < 100 from by decide, nf0⟩, (fun _ h => (by cases h))⟩
set_option maxHeartbeats 4000000 in
theorem vc_Ho_writeGroup_at_k4_7_0 (spareLength_0 : Int) (gx : Int) (kz_0_12 : 0 ≤ spareLength_0 ∧ spareLength_0 ≤ 100000000) (ex2 : gx = spareLength_0) : 1 * spareLength_0 + ((-1) * gx + 0) ≤ 0 := by
  first | assumption | omega | grind
set_option maxHeartbeats 4000000 in
theorem vc_Ho_writeGroup_at_k4_7_1 (x4 : Int) (x9 : Int) (x18 : Int) (spareLength_0 : Int) (gx : Int) (k4 : 0 ≤ x4 ∧ x4 ≤ 99993152) (k9 : 0 ≤ x9 ∧ x9 ≤ 23) (k18 : 0 ≤ x18 ∧ x18 ≤ 99999992) (f0 : 1 * x18 + ((-1) * x4 + ((-31) * x9 + 0)) ≤ 5) (f3 : 1 * spareLength_0 + ((-1) * x18 + 0) ≤ 8) (kz_0_12 : 0 ≤ spareLength_0 ∧ spareLength_0 ≤ 100000000) (ex2 : gx = spareLength_0) : 1 * gx + ((-1) * x4 + ((-31) * x9 + 0)) ≤ 13 := by
  first | assumption | omega | grind
def o_Ho_writeGroup_at_k4_7 : or_T := (62, 23, [(0, (2, 0, 0, [12])), (4, (0, 0, 99993152, [])), (5, (2, 0, 0, [12])), (9, (0, 0, 23, [])), (10, (0, 1, 24, [])), (14, (0, 0, 99999995, [])), (18, (0, 0, 99999992, []))], [(23, [18, 4, 9], [5, 1, -1, -31]), (23, [14, 4, 9], [0, 1, -1, -31]), (24, [0, 5], []), (20, [5, 18], [30, 8, 1, 1, 12, -1, 0, 0]), (102, [18], [261336857795280739939871698507597986398208, 12012]), (23, [18, 4, 9], [5, 1, -1, -31]), (23, [14, 4, 9], [0, 1, -1, -31]), (102, [14], [261336857795280739939871698507597986398208, 12012]), (23, [14, 4, 9], [0, 1, -1, -31]), (7, [9, 10], [2])], [], [(0, 0, 99999993, [])], [(20, [5, 23], [30, 0, 1, 1, 12, -1, 0, 0]), (23, [23, 4, 9], [13, 1, -1, -31])], [], [(9, 10, -4294967296, -1)])
theorem oo_Ho_writeGroup_at_k4_7 {kA : Nat → ClassId} : or_ok PRD kA GG o_Ho_writeGroup_at_k4_7 := by
  refine or_mk fun A ta ws vs hD hth hl => ?_
  intro t0 r0 t4 k4 t5 r5 t9 k9 t10 k10 t14 k14 t18 k18 d0 f0 f1 f2 f3 ta1 w1 le1 s1 f5 f6 ta2 w2 le2 s2 f8 f9
  replace f0 := shm_227 f0
  replace f1 := shm_226 f1
  replace f2 := shm_5 f2
  replace f3 := shm_135 f3
  replace f5 := shm_227 f5
  replace f6 := shm_226 f6
  replace f8 := shm_226 f8
  replace f9 := shm_6 f9
  have q5 : n_v vs 5 = n_v vs 0 := f2.symm
  simp only [q5] at f3
  have kz_0_12 := fdq_0 hD hth r0
  have kv0 := fdq_0 hD hth r0
  obtain ⟨x, ex, hx⟩ := iv_ex (ta := ta) (lo := 0) (hi := 99999993) (z := w_fi ws (n_v vs 0) 12) (by omega) (by omega) (by omega) (by omega)
  have ex2 : v_iv (Value.int x) = w_fi ws (n_v vs 0) 12 := ex
  have ex3 : 0 ≤ v_iv (Value.int x) ∧ v_iv (Value.int x) ≤ 99999993 := tv_rng hx
  have e_4 : n_v (vs ++ [Value.int x]) 4 = n_v vs 4 := n_v_old (by rw [hl]; decide)
  have e_5 : n_v (vs ++ [Value.int x]) 5 = n_v vs 5 := n_v_old (by rw [hl]; decide)
  have e_9 : n_v (vs ++ [Value.int x]) 9 = n_v vs 9 := n_v_old (by rw [hl]; decide)
  have e_23 : n_v (vs ++ [Value.int x]) 23 = Value.int x := n_v_new hl
  have nf0 : fc_1 PRD (20, [5, 23], [30, 0, 1, 1, 12, -1, 0, 0]) ws (vs ++ [Value.int x]) := by
    refine ⟨nf_inA hl rfl, sgq_104 ?_⟩
    · show 1 * w_fi ws (n_v (vs ++ [Value.int x]) 5) 12 + ((-1) * v_iv (n_v (vs ++ [Value.int x]) 23) + 0) ≤ 0
      simp only [e_5, e_23, q5]
      exact vc_Ho_writeGroup_at_k4_7_0 (w_fi ws (n_v vs 0) 12) (v_iv (Value.int x)) kz_0_12 ex2
  have nf1 : fc_1 PRD (23, [23, 4, 9], [13, 1, -1, -31]) ws (vs ++ [Value.int x]) := by
    refine ⟨nf_inA hl rfl, sgq_229 ?_⟩
    · show 1 * v_iv (n_v (vs ++ [Value.int x]) 23) + ((-1) * v_iv (n_v (vs ++ [Value.int x]) 4) + ((-31) * v_iv (n_v (vs ++ [Value.int x]) 9) + 0)) ≤ 13
      simp only [e_4, e_9, e_23]
      exact vc_Ho_writeGroup_at_k4_7_1 (v_iv (n_v vs 4)) (v_iv (n_v vs 9)) (v_iv (n_v vs 18)) (w_fi ws (n_v vs 0) 12) (v_iv (Value.int x)) k4 k9 k18 f0 f3 kz_0_12 ex2
  exact ⟨(fun _ h => (by cases h)), [Value.int x], ag_one hx, List.forall_mem_cons.mpr ⟨⟨show (20 : Nat) < 100 from by decide, nf0⟩, List.forall_mem_cons.mpr ⟨⟨show (23 : Nat) < 100 from by decide, nf1⟩, (fun _ h => (by cases h))⟩⟩, (fun _ h => (by cases h))⟩
set_option maxHeartbeats 4000000 in
theorem vc_Ho_writeGroup_at_k4_8_0 (spareLength_0 : Int) (gx : Int) (kz_0_12 : 0 ≤ spareLength_0 ∧ spareLength_0 ≤ 100000000) (ex2 : gx = spareLength_0) : 1 * spareLength_0 + ((-1) * gx + 0) ≤ 0 := by
  first | assumption | omega | grind
set_option maxHeartbeats 4000000 in
theorem vc_Ho_writeGroup_at_k4_8_1 (x4 : Int) (x9 : Int) (x23 : Int) (spareLength_0 : Int) (gx : Int) (k4 : 0 ≤ x4 ∧ x4 ≤ 99993152) (k9 : 0 ≤ x9 ∧ x9 ≤ 23) (k23 : 0 ≤ x23 ∧ x23 ≤ 99999993) (f0 : 1 * x23 + ((-1) * x4 + ((-31) * x9 + 0)) ≤ 13) (f4 : 1 * spareLength_0 + ((-1) * x23 + 0) ≤ 7) (kz_0_12 : 0 ≤ spareLength_0 ∧ spareLength_0 ≤ 100000000) (ex2 : gx = spareLength_0) : 1 * gx + ((-1) * x4 + ((-31) * x9 + 0)) ≤ 20 := by
  first | assumption | omega | grind
def o_Ho_writeGroup_at_k4_8 : or_T := (73, 25, [(0, (2, 0, 0, [12])), (4, (0, 0, 99993152, [])), (5, (2, 0, 0, [12])), (9, (0, 0, 23, [])), (10, (0, 1, 24, [])), (14, (0, 0, 99999995, [])), (18, (0, 0, 99999992, [])), (23, (0, 0, 99999993, []))], [(23, [23, 4, 9], [13, 1, -1, -31]), (23, [18, 4, 9], [5, 1, -1, -31]), (23, [14, 4, 9], [0, 1, -1, -31]), (24, [0, 5], []), (20, [5, 23], [30, 7, 1, 1, 12, -1, 0, 0]), (102, [23], [261336857795280739939871698507597986398208, 12012]), (23, [23, 4, 9], [13, 1, -1, -31]), (23, [18, 4, 9], [5, 1, -1, -31]), (23, [14, 4, 9], [0, 1, -1, -31]), (102, [18], [261336857795280739939871698507597986398208, 12012]), (23, [18, 4, 9], [5, 1, -1, -31]), (23, [14, 4, 9], [0, 1, -1, -31]), (102, [14], [261336857795280739939871698507597986398208, 12012]), (23, [14, 4, 9], [0, 1, -1, -31]), (7, [9, 10], [2])], [], [(0, 0, 99999992, [])], [(20, [5, 25], [30, 0, 1, 1, 12, -1, 0, 0]), (23, [25, 4, 9], [20, 1, -1, -31])], [], [(9, 10, -4294967296, -1)])
theorem oo_Ho_writeGroup_at_k4_8 {kA : Nat → ClassId} : or_ok PRD kA GG o_Ho_writeGroup_at_k4_8 := by
  refine or_mk fun A ta ws vs hD hth hl => ?_
  intro t0 r0 t4 k4 t5 r5 t9 k9 t10 k10 t14 k14 t18 k18 t23 k23 d0 f0 f1 f2 f3 f4 ta1 w1 le1 s1 f6 f7 f8 ta2 w2 le2 s2 f10 f11 ta3 w3 le3 s3 f13 f14
  replace f0 := shm_229 f0
  replace f1 := shm_227 f1
  replace f2 := shm_226 f2
  replace f3 := shm_5 f3
  replace f4 := shm_203 f4
  replace f6 := shm_229 f6
  replace f7 := shm_227 f7
  replace f8 := shm_226 f8
  replace f10 := shm_227 f10
  replace f11 := shm_226 f11
  replace f13 := shm_226 f13
  replace f14 := shm_6 f14
  have q5 : n_v vs 5 = n_v vs 0 := f3.symm
  simp only [q5] at f4
  have kz_0_12 := fdq_0 hD hth r0
  have kv0 := fdq_0 hD hth r0
  obtain ⟨x, ex, hx⟩ := iv_ex (ta := ta) (lo := 0) (hi := 99999992) (z := w_fi ws (n_v vs 0) 12) (by omega) (by omega) (by omega) (by omega)
  have ex2 : v_iv (Value.int x) = w_fi ws (n_v vs 0) 12 := ex
  have ex3 : 0 ≤ v_iv (Value.int x) ∧ v_iv (Value.int x) ≤ 99999992 := tv_rng hx
  have e_4 : n_v (vs ++ [Value.int x]) 4 = n_v vs 4 := n_v_old (by rw [hl]; decide)
  have e_5 : n_v (vs ++ [Value.int x]) 5 = n_v vs 5 := n_v_old (by rw [hl]; decide)
  have e_9 : n_v (vs ++ [Value.int x]) 9 = n_v vs 9 := n_v_old (by rw [hl]; decide)
  have e_25 : n_v (vs ++ [Value.int x]) 25 = Value.int x := n_v_new hl
  have nf0 : fc_1 PRD (20, [5, 25], [30, 0, 1, 1, 12, -1, 0, 0]) ws (vs ++ [Value.int x]) := by
    refine ⟨nf_inA hl rfl, sgq_104 ?_⟩
    · show 1 * w_fi ws (n_v (vs ++ [Value.int x]) 5) 12 + ((-1) * v_iv (n_v (vs ++ [Value.int x]) 25) + 0) ≤ 0
      simp only [e_5, e_25, q5]
      exact vc_Ho_writeGroup_at_k4_8_0 (w_fi ws (n_v vs 0) 12) (v_iv (Value.int x)) kz_0_12 ex2
  have nf1 : fc_1 PRD (23, [25, 4, 9], [20, 1, -1, -31]) ws (vs ++ [Value.int x]) := by
    refine ⟨nf_inA hl rfl, sgq_230 ?_⟩
    · show 1 * v_iv (n_v (vs ++ [Value.int x]) 25) + ((-1) * v_iv (n_v (vs ++ [Value.int x]) 4) + ((-31) * v_iv (n_v (vs ++ [Value.int x]) 9) + 0)) ≤ 20
      simp only [e_4, e_9, e_25]
      exact vc_Ho_writeGroup_at_k4_8_1 (v_iv (n_v vs 4)) (v_iv (n_v vs 9)) (v_iv (n_v vs 23)) (w_fi ws (n_v vs 0) 12) (v_iv (Value.int x)) k4 k9 k23 f0 f4 kz_0_12 ex2
  exact ⟨(fun _ h => (by cases h)), [Value.int x], ag_one hx, List.forall_mem_cons.mpr ⟨⟨show (20 : Nat) < 100 from by decide, nf0⟩, List.forall_mem_cons.mpr ⟨⟨show (23 : Nat) < 100 from by decide, nf1⟩, (fun _ h => (by cases h))⟩⟩, (fun _ h => (by cases h))⟩
set_option maxHeartbeats 4000000 in
theorem vc_Ho_writeGroup_at_k4_9_0 (spareLength_0 : Int) (gx : Int) (kz_0_12 : 0 ≤ spareLength_0 ∧ spareLength_0 ≤ 100000000) (ex2 : gx = spareLength_0) : 1 * spareLength_0 + ((-1) * gx + 0) ≤ 0 := by
  first | assumption | omega | grind
set_option maxHeartbeats 4000000 in
theorem vc_Ho_writeGroup_at_k4_9_1 (x4 : Int) (x9 : Int) (x25 : Int) (spareLength_0 : Int) (gx : Int) (k4 : 0 ≤ x4 ∧ x4 ≤ 99993152) (k9 : 0 ≤ x9 ∧ x9 ≤ 23) (k25 : 0 ≤ x25 ∧ x25 ≤ 99999992) (f0 : 1 * x25 + ((-1) * x4 + ((-31) * x9 + 0)) ≤ 20) (f5 : 1 * spareLength_0 + ((-1) * x25 + 0) ≤ 8) (kz_0_12 : 0 ≤ spareLength_0 ∧ spareLength_0 ≤ 100000000) (ex2 : gx = spareLength_0) : 1 * gx + ((-1) * x4 + ((-31) * x9 + 0)) ≤ 28 := by
  first | assumption | omega | grind
def o_Ho_writeGroup_at_k4_9 : or_T := (79, 27, [(0, (2, 0, 0, [12])), (4, (0, 0, 99993152, [])), (5, (2, 0, 0, [12])), (9, (0, 0, 23, [])), (10, (0, 1, 24, [])), (14, (0, 0, 99999995, [])), (18, (0, 0, 99999992, [])), (23, (0, 0, 99999993, [])), (25, (0, 0, 99999992, []))], [(23, [25, 4, 9], [20, 1, -1, -31]), (23, [23, 4, 9], [13, 1, -1, -31]), (23, [18, 4, 9], [5, 1, -1, -31]), (23, [14, 4, 9], [0, 1, -1, -31]), (24, [0, 5], []), (20, [5, 25], [30, 8, 1, 1, 12, -1, 0, 0]), (102, [25], [261336857795280739939871698507597986398208, 12012]), (23, [25, 4, 9], [20, 1, -1, -31]), (23, [23, 4, 9], [13, 1, -1, -31]), (23, [18, 4, 9], [5, 1, -1, -31]), (23, [14, 4, 9], [0, 1, -1, -31]), (102, [23], [261336857795280739939871698507597986398208, 12012]), (23, [23, 4, 9], [13, 1, -1, -31]), (23, [18, 4, 9], [5, 1, -1, -31]), (23, [14, 4, 9], [0, 1, -1, -31]), (102, [18], [261336857795280739939871698507597986398208, 12012]), (23, [18, 4, 9], [5, 1, -1, -31]), (23, [14, 4, 9], [0, 1, -1, -31]), (102, [14], [261336857795280739939871698507597986398208, 12012]), (23, [14, 4, 9], [0, 1, -1, -31]), (7, [9, 10], [2])], [], [(0, 0, 99999999, [])], [(20, [5, 27], [30, 0, 1, 1, 12, -1, 0, 0]), (23, [27, 4, 9], [28, 1, -1, -31])], [], [(9, 10, -4294967296, -1)])
theorem oo_Ho_writeGroup_at_k4_9 {kA : Nat → ClassId} : or_ok PRD kA GG o_Ho_writeGroup_at_k4_9 := by
  refine or_mk fun A ta ws vs hD hth hl => ?_
  intro t0 r0 t4 k4 t5 r5 t9 k9 t10 k10 t14 k14 t18 k18 t23 k23 t25 k25 d0 f0 f1 f2 f3 f4 f5 ta1 w1 le1 s1 f7 f8 f9 f10 ta2 w2 le2 s2 f12 f13 f14 ta3 w3 le3 s3 f16 f17 ta4 w4 le4 s4 f19 f20
  replace f0 := shm_230 f0
  replace f1 := shm_229 f1
  replace f2 := shm_227 f2
  replace f3 := shm_226 f3
  replace f4 := shm_5 f4
  replace f5 := shm_135 f5
  replace f7 := shm_230 f7
  replace f8 := shm_229 f8
  replace f9 := shm_227 f9
  replace f10 := shm_226 f10
  replace f12 := shm_229 f12
  replace f13 := shm_227 f13
  replace f14 := shm_226 f14
  replace f16 := shm_227 f16
  replace f17 := shm_226 f17
  replace f19 := shm_226 f19
  replace f20 := shm_6 f20
  have q5 : n_v vs 5 = n_v vs 0 := f4.symm
  simp only [q5] at f5
  have kz_0_12 := fdq_0 hD hth r0
  have kv0 := fdq_0 hD hth r0
  obtain ⟨x, ex, hx⟩ := iv_ex (ta := ta) (lo := 0) (hi := 99999999) (z := w_fi ws (n_v vs 0) 12) (by omega) (by omega) (by omega) (by omega)
  have ex2 : v_iv (Value.int x) = w_fi ws (n_v vs 0) 12 := ex
  have ex3 : 0 ≤ v_iv (Value.int x) ∧ v_iv (Value.int x) ≤ 99999999 := tv_rng hx
  have e_4 : n_v (vs ++ [Value.int x]) 4 = n_v vs 4 := n_v_old (by rw [hl]; decide)
  have e_5 : n_v (vs ++ [Value.int x]) 5 = n_v vs 5 := n_v_old (by rw [hl]; decide)
  have e_9 : n_v (vs ++ [Value.int x]) 9 = n_v vs 9 := n_v_old (by rw [hl]; decide)
  have e_27 : n_v (vs ++ [Value.int x]) 27 = Value.int x := n_v_new hl
  have nf0 : fc_1 PRD (20, [5, 27], [30, 0, 1, 1, 12, -1, 0, 0]) ws (vs ++ [Value.int x]) := by
    refine ⟨nf_inA hl rfl, sgq_104 ?_⟩
    · show 1 * w_fi ws (n_v (vs ++ [Value.int x]) 5) 12 + ((-1) * v_iv (n_v (vs ++ [Value.int x]) 27) + 0) ≤ 0
      simp only [e_5, e_27, q5]
      exact vc_Ho_writeGroup_at_k4_9_0 (w_fi ws (n_v vs 0) 12) (v_iv (Value.int x)) kz_0_12 ex2
  have nf1 : fc_1 PRD (23, [27, 4, 9], [28, 1, -1, -31]) ws (vs ++ [Value.int x]) := by
    refine ⟨nf_inA hl rfl, sgq_231 ?_⟩
    · show 1 * v_iv (n_v (vs ++ [Value.int x]) 27) + ((-1) * v_iv (n_v (vs ++ [Value.int x]) 4) + ((-31) * v_iv (n_v (vs ++ [Value.int x]) 9) + 0)) ≤ 28
      simp only [e_4, e_9, e_27]
      exact vc_Ho_writeGroup_at_k4_9_1 (v_iv (n_v vs 4)) (v_iv (n_v vs 9)) (v_iv (n_v vs 25)) (w_fi ws (n_v vs 0) 12) (v_iv (Value.int x)) k4 k9 k25 f0 f5 kz_0_12 ex2
  exact ⟨(fun _ h => (by cases h)), [Value.int x], ag_one hx, List.forall_mem_cons.mpr ⟨⟨show (20 : Nat) < 100 from by decide, nf0⟩, List.forall_mem_cons.mpr ⟨⟨show (23 : Nat) < 100 from by decide, nf1⟩, (fun _ h => (by cases h))⟩⟩, (fun _ h => (by cases h))⟩
set_option maxHeartbeats 4000000 in
theorem vc_Ho_writeGroup_at_k4_10_0 (spareLength_0 : Int) (gx : Int) (kz_0_12 : 0 ≤ spareLength_0 ∧ spareLength_0 ≤ 100000000) (ex2 : gx = spareLength_0) : 1 * spareLength_0 + ((-1) * gx + 0) ≤ 0 := by
  first | assumption | omega | grind
set_option maxHeartbeats 4000000 in
theorem vc_Ho_writeGroup_at_k4_10_1 (x4 : Int) (x9 : Int) (x27 : Int) (spareLength_0 : Int) (gx : Int) (k4 : 0 ≤ x4 ∧ x4 ≤ 99993152) (k9 : 0 ≤ x9 ∧ x9 ≤ 23) (k27 : 0 ≤ x27 ∧ x27 ≤ 99999999) (f0 : 1 * x27 + ((-1) * x4 + ((-31) * x9 + 0)) ≤ 28) (f6 : 1 * spareLength_0 + ((-1) * x27 + 0) ≤ 1) (kz_0_12 : 0 ≤ spareLength_0 ∧ spareLength_0 ≤ 100000000) (ex2 : gx = spareLength_0) : 1 * gx + ((-1) * x4 + ((-31) * x9 + 0)) ≤ 29 := by
  first | assumption | omega | grind
def o_Ho_writeGroup_at_k4_10 : or_T := (86, 29, [(0, (2, 0, 0, [12])), (4, (0, 0, 99993152, [])), (5, (2, 0, 0, [12])), (9, (0, 0, 23, [])), (10, (0, 1, 24, [])), (14, (0, 0, 99999995, [])), (18, (0, 0, 99999992, [])), (23, (0, 0, 99999993, [])), (25, (0, 0, 99999992, [])), (27, (0, 0, 99999999, []))], [(23, [27, 4, 9], [28, 1, -1, -31]), (23, [25, 4, 9], [20, 1, -1, -31]), (23, [23, 4, 9], [13, 1, -1, -31]), (23, [18, 4, 9], [5, 1, -1, -31]), (23, [14, 4, 9], [0, 1, -1, -31]), (24, [0, 5], []), (20, [5, 27], [30, 1, 1, 1, 12, -1, 0, 0]), (102, [27], [261336857795280739939871698507597986398208, 12012]), (23, [27, 4, 9], [28, 1, -1, -31]), (23, [25, 4, 9], [20, 1, -1, -31]), (23, [23, 4, 9], [13, 1, -1, -31]), (23, [18, 4, 9], [5, 1, -1, -31]), (23, [14, 4, 9], [0, 1, -1, -31]), (102, [25], [261336857795280739939871698507597986398208, 12012]), (23, [25, 4, 9], [20, 1, -1, -31]), (23, [23, 4, 9], [13, 1, -1, -31]), (23, [18, 4, 9], [5, 1, -1, -31]), (23, [14, 4, 9], [0, 1, -1, -31]), (102, [23], [261336857795280739939871698507597986398208, 12012]), (23, [23, 4, 9], [13, 1, -1, -31]), (23, [18, 4, 9], [5, 1, -1, -31]), (23, [14, 4, 9], [0, 1, -1, -31]), (102, [18], [261336857795280739939871698507597986398208, 12012]), (23, [18, 4, 9], [5, 1, -1, -31]), (23, [14, 4, 9], [0, 1, -1, -31]), (102, [14], [261336857795280739939871698507597986398208, 12012]), (23, [14, 4, 9], [0, 1, -1, -31]), (7, [9, 10], [2])], [], [(0, 0, 99999998, [])], [(20, [5, 29], [30, 0, 1, 1, 12, -1, 0, 0]), (23, [29, 4, 9], [29, 1, -1, -31])], [], [(9, 10, -4294967296, -1)])
theorem oo_Ho_writeGroup_at_k4_10 {kA : Nat → ClassId} : or_ok PRD kA GG o_Ho_writeGroup_at_k4_10 := by
  refine or_mk fun A ta ws vs hD hth hl => ?_
  intro t0 r0 t4 k4 t5 r5 t9 k9 t10 k10 t14 k14 t18 k18 t23 k23 t25 k25 t27 k27 d0 f0 f1 f2 f3 f4 f5 f6 ta1 w1 le1 s1 f8 f9 f10 f11 f12 ta2 w2 le2 s2 f14 f15 f16 f17 ta3 w3 le3 s3 f19 f20 f21 ta4 w4 le4 s4 f23 f24 ta5 w5 le5 s5 f26 f27
  replace f0 := shm_231 f0
  replace f1 := shm_230 f1
  replace f2 := shm_229 f2
  replace f3 := shm_227 f3
  replace f4 := shm_226 f4
  replace f5 := shm_5 f5
  replace f6 := shm_105 f6
  replace f8 := shm_231 f8
  replace f9 := shm_230 f9
  replace f10 := shm_229 f10
  replace f11 := shm_227 f11
  replace f12 := shm_226 f12
  replace f14 := shm_230 f14
  replace f15 := shm_229 f15
  replace f16 := shm_227 f16
  replace f17 := shm_226 f17
  replace f19 := shm_229 f19
  replace f20 := shm_227 f20
  replace f21 := shm_226 f21
  replace f23 := shm_227 f23
  replace f24 := shm_226 f24
  replace f26 := shm_226 f26
  replace f27 := shm_6 f27
  have q5 : n_v vs 5 = n_v vs 0 := f5.symm
  simp only [q5] at f6
  have kz_0_12 := fdq_0 hD hth r0
  have kv0 := fdq_0 hD hth r0
  obtain ⟨x, ex, hx⟩ := iv_ex (ta := ta) (lo := 0) (hi := 99999998) (z := w_fi ws (n_v vs 0) 12) (by omega) (by omega) (by omega) (by omega)
  have ex2 : v_iv (Value.int x) = w_fi ws (n_v vs 0) 12 := ex
  have ex3 : 0 ≤ v_iv (Value.int x) ∧ v_iv (Value.int x) ≤ 99999998 := tv_rng hx
  have e_4 : n_v (vs ++ [Value.int x]) 4 = n_v vs 4 := n_v_old (by rw [hl]; decide)
  have e_5 : n_v (vs ++ [Value.int x]) 5 = n_v vs 5 := n_v_old (by rw [hl]; decide)
  have e_9 : n_v (vs ++ [Value.int x]) 9 = n_v vs 9 := n_v_old (by rw [hl]; decide)
  have e_29 : n_v (vs ++ [Value.int x]) 29 = Value.int x := n_v_new hl
  have nf0 : fc_1 PRD (20, [5, 29], [30, 0, 1, 1, 12, -1, 0, 0]) ws (vs ++ [Value.int x]) := by
    refine ⟨nf_inA hl rfl, sgq_104 ?_⟩
    · show 1 * w_fi ws (n_v (vs ++ [Value.int x]) 5) 12 + ((-1) * v_iv (n_v (vs ++ [Value.int x]) 29) + 0) ≤ 0
      simp only [e_5, e_29, q5]
      exact vc_Ho_writeGroup_at_k4_10_0 (w_fi ws (n_v vs 0) 12) (v_iv (Value.int x)) kz_0_12 ex2
  have nf1 : fc_1 PRD (23, [29, 4, 9], [29, 1, -1, -31]) ws (vs ++ [Value.int x]) := by
    refine ⟨nf_inA hl rfl, sgq_228 ?_⟩
    · show 1 * v_iv (n_v (vs ++ [Value.int x]) 29) + ((-1) * v_iv (n_v (vs ++ [Value.int x]) 4) + ((-31) * v_iv (n_v (vs ++ [Value.int x]) 9) + 0)) ≤ 29
      simp only [e_4, e_9, e_29]
      exact vc_Ho_writeGroup_at_k4_10_1 (v_iv (n_v vs 4)) (v_iv (n_v vs 9)) (v_iv (n_v vs 27)) (w_fi ws (n_v vs 0) 12) (v_iv (Value.int x)) k4 k9 k27 f0 f6 kz_0_12 ex2
  exact ⟨(fun _ h => (by cases h)), [Value.int x], ag_one hx, List.forall_mem_cons.mpr ⟨⟨show (20 : Nat) < 100 from by decide, nf0⟩, List.forall_mem_cons.mpr ⟨⟨show (23 : Nat) < 100 from by decide, nf1⟩, (fun _ h => (by cases h))⟩⟩, (fun _ h => (by cases h))⟩
set_option maxHeartbeats 4000000 in
theorem vc_Ho_writeGroup_at_k4_11_0 (x4 : Int) (x9 : Int) (x29 : Int) (x30 : Int) (spareLength_0 : Int) (k4 : 0 ≤ x4 ∧ x4 ≤ 99993152) (k9 : 0 ≤ x9 ∧ x9 ≤ 23) (k29 : 0 ≤ x29 ∧ x29 ≤ 99999998) (k30 : 1 ≤ x30 ∧ x30 ≤ 24) (d0 : x9 + 1 ≤ x30 ∧ x30 ≤ x9 + 1) (f1 : 1 * x29 + ((-1) * x4 + ((-31) * x9 + 0)) ≤ 29) (f8 : 1 * spareLength_0 + ((-1) * x29 + 0) ≤ 2) (kz_0_12 : 0 ≤ spareLength_0 ∧ spareLength_0 ≤ 100000000) : 1 * spareLength_0 + ((-1) * x4 + ((-31) * x30 + 0)) ≤ 0 := by
  first | assumption | omega | grind
def o_Ho_writeGroup_at_k4_11 : or_T := (3, 31, [(0, (2, 0, 0, [12])), (4, (0, 0, 99993152, [])), (9, (0, 0, 23, [])), (29, (0, 0, 99999998, [])), (30, (0, 1, 24, []))], [(23, [29, 4, 9], [29, 1, -1, -31]), (24, [0, 5], []), (20, [5, 29], [30, 2, 1, 1, 12, -1, 0, 0])], [], [], [(20, [5, 4, 30], [30, 0, 1, 1, 12, -1, 0, 0, -31, 0, 0])], [], [(30, 9, 1, 1)])
theorem oo_Ho_writeGroup_at_k4_11 {kA : Nat → ClassId} : or_ok PRD kA GG o_Ho_writeGroup_at_k4_11 := by
  refine or_mk fun A ta ws vs hD hth hl => ?_
  intro t0 r0 t4 k4 t9 k9 t29 k29 t30 k30 d0 f1 f7 f8
  replace f1 := shm_228 f1
  replace f7 := shm_5 f7
  replace f8 := shm_204 f8
  have q5 : n_v vs 5 = n_v vs 0 := f7.symm
  simp only [q5] at f8
  have kz_0_12 := fdq_0 hD hth r0
  have nf0 : fc_1 PRD (20, [5, 4, 30], [30, 0, 1, 1, 12, -1, 0, 0, -31, 0, 0]) ws (vs) := by
    refine ⟨nf_in hl rfl, sgq_224 ?_⟩
    · show 1 * w_fi ws (n_v vs 5) 12 + ((-1) * v_iv (n_v vs 4) + ((-31) * v_iv (n_v vs 30) + 0)) ≤ 0
      rw [q5]
      exact vc_Ho_writeGroup_at_k4_11_0 (v_iv (n_v vs 4)) (v_iv (n_v vs 9)) (v_iv (n_v vs 29)) (v_iv (n_v vs 30)) (w_fi ws (n_v vs 0) 12) k4 k9 k29 k30 d0 f1 f8 kz_0_12
  refine ⟨(fun _ h => (by cases h)), [], trivial, ?_, (fun _ h => (by cases h))⟩
  rw [List.append_nil]
  exact List.forall_mem_cons.mpr ⟨⟨show (20 : Nat) < 100 from by decide, nf0⟩, (fun _ h => (by cases h))⟩
set_option maxHeartbeats 4000000 in
theorem vc_Ho_writeGroup_at_k4_12_0 (x4 : Int) (x7 : Int) (x9 : Int) (spareLength_0 : Int) (k4 : 0 ≤ x4 ∧ x4 ≤ 99993152) (k7 : 4 ≤ x7 ∧ x7 ≤ 7) (k9 : 5 ≤ x9 ∧ x9 ≤ 8) (f2 : 1 * spareLength_0 + ((-1) * x4 + ((-763) * x9 + (763 * x7 + 0))) ≤ (-19)) (kz_0_12 : 0 ≤ spareLength_0 ∧ spareLength_0 ≤ 100000000) : 1 * spareLength_0 + ((-1) * x4 + 0) ≤ 6848 := by
  first | assumption | omega | grind
def o_Ho_writeGroup_at_k4_12 : or_T := (179, 11, [(0, (2, 0, 0, [12])), (4, (0, 0, 99993152, [])), (7, (0, 4, 7, [])), (9, (0, 5, 8, []))], [(20, [5, 4, 9, 7], [30, -19, 1, 1, 12, -1, 0, 0, -763, 0, 0, 763, 0, 0]), (24, [0, 5], [])], [], [], [(20, [0, 4], [30, 6848, 1, 1, 12, -1, 0, 0])], [], [])
theorem oo_Ho_writeGroup_at_k4_12 {kA : Nat → ClassId} : or_ok PRD kA GG o_Ho_writeGroup_at_k4_12 := by
  refine or_mk fun A ta ws vs hD hth hl => ?_
  intro t0 r0 t4 k4 t7 k7 t9 k9 f2 f3
  replace f2 := shm_260 f2
  replace f3 := shm_5 f3
  have q5 : n_v vs 5 = n_v vs 0 := f3.symm
  simp only [q5] at f2
  have kz_0_12 := fdq_0 hD hth r0
  have nf0 : fc_1 PRD (20, [0, 4], [30, 6848, 1, 1, 12, -1, 0, 0]) ws (vs) := ⟨nf_in hl rfl, sgq_258 (vc_Ho_writeGroup_at_k4_12_0 (v_iv (n_v vs 4)) (v_iv (n_v vs 7)) (v_iv (n_v vs 9)) (w_fi ws (n_v vs 0) 12) k4 k7 k9 f2 kz_0_12)⟩
  refine ⟨(fun _ h => (by cases h)), [], trivial, ?_, (fun _ h => (by cases h))⟩
  rw [List.append_nil]
  exact List.forall_mem_cons.mpr ⟨⟨show (20 : Nat) < 100 from by decide, nf0⟩, (fun _ h => (by cases h))⟩
set_option maxHeartbeats 4000000 in
theorem vc_Ho_writeGroup_at_k4_13_0 (x4 : Int) (x7 : Int) (x9 : Int) (x13 : Int) (spareLength_0 : Int) (k4 : 0 ≤ x4 ∧ x4 ≤ 99993152) (k7 : 4 ≤ x7 ∧ x7 ≤ 6) (k9 : 5 ≤ x9 ∧ x9 ≤ 7) (k13 : 6 ≤ x13 ∧ x13 ≤ 8) (d0 : x9 + 1 ≤ x13 ∧ x13 ≤ x9 + 1) (f6 : 1 * spareLength_0 + ((-1) * x4 + ((-763) * x9 + (763 * x7 + 0))) ≤ (-19)) (kz_0_12 : 0 ≤ spareLength_0 ∧ spareLength_0 ≤ 100000000) : 1 * spareLength_0 + ((-1) * x4 + ((-763) * x13 + (763 * x7 + 0))) ≤ (-19) := by
  first | assumption | omega | grind
def o_Ho_writeGroup_at_k4_13 : or_T := (100, 14, [(0, (2, 0, 0, [12])), (4, (0, 0, 99993152, [])), (7, (0, 4, 6, [])), (9, (0, 5, 7, [])), (13, (0, 6, 8, []))], [(20, [5, 4, 9, 7], [30, -19, 1, 1, 12, -1, 0, 0, -763, 0, 0, 763, 0, 0]), (24, [0, 5], [])], [], [], [(20, [5, 4, 13, 7], [30, -19, 1, 1, 12, -1, 0, 0, -763, 0, 0, 763, 0, 0])], [], [(13, 9, 1, 1)])
theorem oo_Ho_writeGroup_at_k4_13 {kA : Nat → ClassId} : or_ok PRD kA GG o_Ho_writeGroup_at_k4_13 := by
  refine or_mk fun A ta ws vs hD hth hl => ?_
  intro t0 r0 t4 k4 t7 k7 t9 k9 t13 k13 d0 f6 f7
  replace f6 := shm_260 f6
  replace f7 := shm_5 f7
  have q5 : n_v vs 5 = n_v vs 0 := f7.symm
  simp only [q5] at f6
  have kz_0_12 := fdq_0 hD hth r0
  have nf0 : fc_1 PRD (20, [5, 4, 13, 7], [30, -19, 1, 1, 12, -1, 0, 0, -763, 0, 0, 763, 0, 0]) ws (vs) := by
    refine ⟨nf_in hl rfl, sgq_260 ?_⟩
    · show 1 * w_fi ws (n_v vs 5) 12 + ((-1) * v_iv (n_v vs 4) + ((-763) * v_iv (n_v vs 13) + (763 * v_iv (n_v vs 7) + 0))) ≤ (-19)
      rw [q5]
      exact vc_Ho_writeGroup_at_k4_13_0 (v_iv (n_v vs 4)) (v_iv (n_v vs 7)) (v_iv (n_v vs 9)) (v_iv (n_v vs 13)) (w_fi ws (n_v vs 0) 12) k4 k7 k9 k13 d0 f6 kz_0_12
  refine ⟨(fun _ h => (by cases h)), [], trivial, ?_, (fun _ h => (by cases h))⟩
  rw [List.append_nil]
  exact List.forall_mem_cons.mpr ⟨⟨show (20 : Nat) < 100 from by decide, nf0⟩, (fun _ h => (by cases h))⟩
set_option maxHeartbeats 4000000 in
theorem vc_Ho_writeGroup_at_k4_14_0 (spareLength_0 : Int) (gx : Int) (kz_0_12 : 0 ≤ spareLength_0 ∧ spareLength_0 ≤ 100000000) (ex2 : gx = spareLength_0) : 1 * spareLength_0 + ((-1) * gx + 0) ≤ 0 := by
  first | assumption | omega | grind
set_option maxHeartbeats 4000000 in
theorem vc_Ho_writeGroup_at_k4_14_1 (x4 : Int) (x7 : Int) (x9 : Int) (x12 : Int) (within_0o6 : Int → Int) (spareLength_0 : Int) (gx : Int) (k4 : 0 ≤ x4 ∧ x4 ≤ 99993152) (k7 : 4 ≤ x7 ∧ x7 ≤ 6) (k9 : 5 ≤ x9 ∧ x9 ≤ 7) (k12 : 4 ≤ x12 ∧ x12 ≤ 6) (d0 : x7 + 0 ≤ x12 ∧ x12 ≤ x7 + 0) (h1 : x12 = within_0o6 (x9)) (f5 : 1 * spareLength_0 + ((-1) * x4 + ((-763) * x9 + (763 * x7 + 0))) ≤ (-19)) (kz_0_12 : 0 ≤ spareLength_0 ∧ spareLength_0 ≤ 100000000) (ex2 : gx = spareLength_0) : 1 * gx + ((-1) * x4 + ((-763) * x9 + (763 * x7 + 0))) ≤ (-19) := by
  first | assumption | omega | grind
def o_Ho_writeGroup_at_k4_14 : or_T := (129, 15, [(0, (2, 0, 0, [12])), (4, (0, 0, 99993152, [])), (5, (2, 0, 0, [12])), (6, (2, 0, 0, [3])), (7, (0, 4, 6, [])), (9, (0, 5, 7, [])), (10, (0, 6, 8, [])), (11, (2, 0, 0, [56])), (12, (0, 4, 6, []))], [(7, [12, 7], [0]), (10, [12, 11, 9], []), (9, [11, 6], [11]), (7, [9, 10], [2]), (9, [10, 6], [2]), (20, [5, 4, 9, 7], [30, -19, 1, 1, 12, -1, 0, 0, -763, 0, 0, 763, 0, 0]), (24, [0, 5], [])], [], [(0, 0, 99999994, [])], [(20, [5, 15], [30, 0, 1, 1, 12, -1, 0, 0]), (23, [15, 4, 9, 7], [-19, 1, -1, -763, 763])], [], [(12, 7, 0, 0), (9, 10, -4294967296, -1), (7, 9, -4294967296, -1)])
theorem oo_Ho_writeGroup_at_k4_14 {kA : Nat → ClassId} : or_ok PRD kA GG o_Ho_writeGroup_at_k4_14 := by
  refine or_mk fun A ta ws vs hD hth hl => ?_
  intro t0 r0 t4 k4 t5 r5 t6 r6 t7 k7 t9 k9 t10 k10 t11 r11 t12 k12 d0 d1 d2 f0 f1 f2 f3 f4 f5 f6
  replace f0 := shm_37 f0
  replace f1 := shm_107 f1
  replace f2 := shm_116 f2
  replace f3 := shm_6 f3
  replace f4 := shm_120 f4
  replace f5 := shm_260 f5
  replace f6 := shm_5 f6
  have q5 : n_v vs 5 = n_v vs 0 := f6.symm
  simp only [q5] at f5
  have cr_6_11 := fdq_31 hD hth r6
  have ad_11 : v_ad (n_v vs 11) = w_ar ws (n_v vs 6) 11 := congrArg v_ad f2
  simp only [ad_11] at f1
  have h1 : v_iv (n_v vs 12) = w_ei ws (w_ar ws (n_v vs 6) 11) (v_iv (n_v vs 9)) := f1
  have g4 : v_iv (n_v vs 10) = w_fi ws (n_v vs 6) 2 := congrArg v_iv f4
  have kz_0_12 := fdq_0 hD hth r0
  have kz_6_2 := fdq_20 hD hth r6
  have kv0 := fdq_0 hD hth r0
  obtain ⟨x, ex, hx⟩ := iv_ex (ta := ta) (lo := 0) (hi := 99999994) (z := w_fi ws (n_v vs 0) 12) (by omega) (by omega) (by omega) (by omega)
  have ex2 : v_iv (Value.int x) = w_fi ws (n_v vs 0) 12 := ex
  have ex3 : 0 ≤ v_iv (Value.int x) ∧ v_iv (Value.int x) ≤ 99999994 := tv_rng hx
  have e_4 : n_v (vs ++ [Value.int x]) 4 = n_v vs 4 := n_v_old (by rw [hl]; decide)
  have e_5 : n_v (vs ++ [Value.int x]) 5 = n_v vs 5 := n_v_old (by rw [hl]; decide)
  have e_7 : n_v (vs ++ [Value.int x]) 7 = n_v vs 7 := n_v_old (by rw [hl]; decide)
  have e_9 : n_v (vs ++ [Value.int x]) 9 = n_v vs 9 := n_v_old (by rw [hl]; decide)
  have e_15 : n_v (vs ++ [Value.int x]) 15 = Value.int x := n_v_new hl
  have nf0 : fc_1 PRD (20, [5, 15], [30, 0, 1, 1, 12, -1, 0, 0]) ws (vs ++ [Value.int x]) := by
    refine ⟨nf_inA hl rfl, sgq_104 ?_⟩
    · show 1 * w_fi ws (n_v (vs ++ [Value.int x]) 5) 12 + ((-1) * v_iv (n_v (vs ++ [Value.int x]) 15) + 0) ≤ 0
      simp only [e_5, e_15, q5]
      exact vc_Ho_writeGroup_at_k4_14_0 (w_fi ws (n_v vs 0) 12) (v_iv (Value.int x)) kz_0_12 ex2
  have nf1 : fc_1 PRD (23, [15, 4, 9, 7], [-19, 1, -1, -763, 763]) ws (vs ++ [Value.int x]) := by
    refine ⟨nf_inA hl rfl, sgq_261 ?_⟩
    · show 1 * v_iv (n_v (vs ++ [Value.int x]) 15) + ((-1) * v_iv (n_v (vs ++ [Value.int x]) 4) + ((-763) * v_iv (n_v (vs ++ [Value.int x]) 9) + (763 * v_iv (n_v (vs ++ [Value.int x]) 7) + 0))) ≤ (-19)
      simp only [e_4, e_7, e_9, e_15]
      exact vc_Ho_writeGroup_at_k4_14_1 (v_iv (n_v vs 4)) (v_iv (n_v vs 7)) (v_iv (n_v vs 9)) (v_iv (n_v vs 12)) (w_ei ws (w_ar ws (n_v vs 6) 11)) (w_fi ws (n_v vs 0) 12) (v_iv (Value.int x)) k4 k7 k9 k12 d0 h1 f5 kz_0_12 ex2
  exact ⟨(fun _ h => (by cases h)), [Value.int x], ag_one hx, List.forall_mem_cons.mpr ⟨⟨show (20 : Nat) < 100 from by decide, nf0⟩, List.forall_mem_cons.mpr ⟨⟨show (23 : Nat) < 100 from by decide, nf1⟩, (fun _ h => (by cases h))⟩⟩, (fun _ h => (by cases h))⟩
set_option maxHeartbeats 4000000 in
theorem vc_Ho_writeGroup_at_k4_15_0 (spareLength_0 : Int) (gx : Int) (kz_0_12 : 0 ≤ spareLength_0 ∧ spareLength_0 ≤ 100000000) (ex2 : gx = spareLength_0) : 1 * spareLength_0 + ((-1) * gx + 0) ≤ 0 := by
  first | assumption | omega | grind
set_option maxHeartbeats 4000000 in
theorem vc_Ho_writeGroup_at_k4_15_1 (x4 : Int) (x7 : Int) (x9 : Int) (x12 : Int) (x15 : Int) (spareLength_0 : Int) (gx : Int) (k4 : 0 ≤ x4 ∧ x4 ≤ 99993152) (k7 : 4 ≤ x7 ∧ x7 ≤ 6) (k9 : 5 ≤ x9 ∧ x9 ≤ 7) (k12 : 4 ≤ x12 ∧ x12 ≤ 6) (k15 : 0 ≤ x15 ∧ x15 ≤ 99999994) (d0 : x7 + 0 ≤ x12 ∧ x12 ≤ x7 + 0) (f0 : 1 * x15 + ((-1) * x4 + ((-763) * x9 + (763 * x7 + 0))) ≤ (-19)) (f2 : 1 * spareLength_0 + ((-1) * x15 + 0) ≤ 6) (kz_0_12 : 0 ≤ spareLength_0 ∧ spareLength_0 ≤ 100000000) (ex2 : gx = spareLength_0) : 1 * gx + ((-1) * x4 + ((-763) * x9 + (763 * x7 + 0))) ≤ (-13) := by
  first | assumption | omega | grind
def o_Ho_writeGroup_at_k4_15 : or_T := (146, 19, [(0, (2, 0, 0, [12])), (4, (0, 0, 99993152, [])), (5, (2, 0, 0, [12])), (7, (0, 4, 6, [])), (9, (0, 5, 7, [])), (10, (0, 6, 8, [])), (12, (0, 4, 6, [])), (15, (0, 0, 99999994, []))], [(23, [15, 4, 9, 7], [-19, 1, -1, -763, 763]), (24, [0, 5], []), (20, [5, 15], [30, 6, 1, 1, 12, -1, 0, 0]), (102, [15], [261336857795280739939871698507597986398208, 12012]), (23, [15, 4, 9, 7], [-19, 1, -1, -763, 763]), (7, [12, 7], [0]), (7, [9, 10], [2])], [], [(0, 0, 99999992, [])], [(20, [5, 19], [30, 0, 1, 1, 12, -1, 0, 0]), (23, [19, 4, 9, 7], [-13, 1, -1, -763, 763])], [], [(12, 7, 0, 0), (9, 10, -4294967296, -1), (7, 9, -4294967296, -1)])
theorem oo_Ho_writeGroup_at_k4_15 {kA : Nat → ClassId} : or_ok PRD kA GG o_Ho_writeGroup_at_k4_15 := by
  refine or_mk fun A ta ws vs hD hth hl => ?_
  intro t0 r0 t4 k4 t5 r5 t7 k7 t9 k9 t10 k10 t12 k12 t15 k15 d0 d1 d2 f0 f1 f2 ta1 w1 le1 s1 f4 f5 f6
  replace f0 := shm_261 f0
  replace f1 := shm_5 f1
  replace f2 := shm_205 f2
  replace f4 := shm_261 f4
  replace f5 := shm_37 f5
  replace f6 := shm_6 f6
  have q5 : n_v vs 5 = n_v vs 0 := f1.symm
  simp only [q5] at f2
  have kz_0_12 := fdq_0 hD hth r0
  have kv0 := fdq_0 hD hth r0
  obtain ⟨x, ex, hx⟩ := iv_ex (ta := ta) (lo := 0) (hi := 99999992) (z := w_fi ws (n_v vs 0) 12) (by omega) (by omega) (by omega) (by omega)
  have ex2 : v_iv (Value.int x) = w_fi ws (n_v vs 0) 12 := ex
  have ex3 : 0 ≤ v_iv (Value.int x) ∧ v_iv (Value.int x) ≤ 99999992 := tv_rng hx
  have e_4 : n_v (vs ++ [Value.int x]) 4 = n_v vs 4 := n_v_old (by rw [hl]; decide)
  have e_5 : n_v (vs ++ [Value.int x]) 5 = n_v vs 5 := n_v_old (by rw [hl]; decide)
  have e_7 : n_v (vs ++ [Value.int x]) 7 = n_v vs 7 := n_v_old (by rw [hl]; decide)
  have e_9 : n_v (vs ++ [Value.int x]) 9 = n_v vs 9 := n_v_old (by rw [hl]; decide)
  have e_19 : n_v (vs ++ [Value.int x]) 19 = Value.int x := n_v_new hl
  have nf0 : fc_1 PRD (20, [5, 19], [30, 0, 1, 1, 12, -1, 0, 0]) ws (vs ++ [Value.int x]) := by
    refine ⟨nf_inA hl rfl, sgq_104 ?_⟩
    · show 1 * w_fi ws (n_v (vs ++ [Value.int x]) 5) 12 + ((-1) * v_iv (n_v (vs ++ [Value.int x]) 19) + 0) ≤ 0
      simp only [e_5, e_19, q5]
      exact vc_Ho_writeGroup_at_k4_15_0 (w_fi ws (n_v vs 0) 12) (v_iv (Value.int x)) kz_0_12 ex2
  have nf1 : fc_1 PRD (23, [19, 4, 9, 7], [-13, 1, -1, -763, 763]) ws (vs ++ [Value.int x]) := by
    refine ⟨nf_inA hl rfl, sgq_262 ?_⟩
    · show 1 * v_iv (n_v (vs ++ [Value.int x]) 19) + ((-1) * v_iv (n_v (vs ++ [Value.int x]) 4) + ((-763) * v_iv (n_v (vs ++ [Value.int x]) 9) + (763 * v_iv (n_v (vs ++ [Value.int x]) 7) + 0))) ≤ (-13)
      simp only [e_4, e_7, e_9, e_19]
      exact vc_Ho_writeGroup_at_k4_15_1 (v_iv (n_v vs 4)) (v_iv (n_v vs 7)) (v_iv (n_v vs 9)) (v_iv (n_v vs 12)) (v_iv (n_v vs 15)) (w_fi ws (n_v vs 0) 12) (v_iv (Value.int x)) k4 k7 k9 k12 k15 d0 f0 f2 kz_0_12 ex2
  exact ⟨(fun _ h => (by cases h)), [Value.int x], ag_one hx, List.forall_mem_cons.mpr ⟨⟨show (20 : Nat) < 100 from by decide, nf0⟩, List.forall_mem_cons.mpr ⟨⟨show (23 : Nat) < 100 from by decide, nf1⟩, (fun _ h => (by cases h))⟩⟩, (fun _ h => (by cases h))⟩
set_option maxHeartbeats 4000000 in
theorem vc_Ho_writeGroup_at_k4_16_0 (spareLength_0 : Int) (gx : Int) (kz_0_12 : 0 ≤ spareLength_0 ∧ spareLength_0 ≤ 100000000) (ex2 : gx = spareLength_0) : 1 * spareLength_0 + ((-1) * gx + 0) ≤ 0 := by
  first | assumption | omega | grind
set_option maxHeartbeats 4000000 in
theorem vc_Ho_writeGroup_at_k4_16_1 (x4 : Int) (x7 : Int) (x9 : Int) (x12 : Int) (x19 : Int) (spareLength_0 : Int) (gx : Int) (k4 : 0 ≤ x4 ∧ x4 ≤ 99993152) (k7 : 4 ≤ x7 ∧ x7 ≤ 6) (k9 : 5 ≤ x9 ∧ x9 ≤ 7) (k12 : 4 ≤ x12 ∧ x12 ≤ 6) (k19 : 0 ≤ x19 ∧ x19 ≤ 99999992) (d0 : x7 + 0 ≤ x12 ∧ x12 ≤ x7 + 0) (f0 : 1 * x19 + ((-1) * x4 + ((-763) * x9 + (763 * x7 + 0))) ≤ (-13)) (f3 : 1 * spareLength_0 + ((-1) * x19 + 0) ≤ 8) (kz_0_12 : 0 ≤ spareLength_0 ∧ spareLength_0 ≤ 100000000) (ex2 : gx = spareLength_0) : 1 * gx + ((-1) * x4 + ((-763) * x9 + (763 * x7 + 0))) ≤ (-5) := by
  first | assumption | omega | grind
def o_Ho_writeGroup_at_k4_16 : or_T := (153, 21, [(0, (2, 0, 0, [12])), (4, (0, 0, 99993152, [])), (5, (2, 0, 0, [12])), (7, (0, 4, 6, [])), (9, (0, 5, 7, [])), (10, (0, 6, 8, [])), (12, (0, 4, 6, [])), (15, (0, 0, 99999994, [])), (19, (0, 0, 99999992, []))], [(23, [19, 4, 9, 7], [-13, 1, -1, -763, 763]), (23, [15, 4, 9, 7], [-19, 1, -1, -763, 763]), (24, [0, 5], []), (20, [5, 19], [30, 8, 1, 1, 12, -1, 0, 0]), (102, [19], [261336857795280739939871698507597986398208, 12012]), (23, [19, 4, 9, 7], [-13, 1, -1, -763, 763]), (23, [15, 4, 9, 7], [-19, 1, -1, -763, 763]), (102, [15], [261336857795280739939871698507597986398208, 12012]), (23, [15, 4, 9, 7], [-19, 1, -1, -763, 763]), (7, [12, 7], [0]), (7, [9, 10], [2])], [], [(0, 0, 99999997, [])], [(20, [5, 21], [30, 0, 1, 1, 12, -1, 0, 0]), (23, [21, 4, 9, 7], [-5, 1, -1, -763, 763])], [], [(12, 7, 0, 0), (9, 10, -4294967296, -1), (7, 9, -4294967296, -1)])
theorem oo_Ho_writeGroup_at_k4_16 {kA : Nat → ClassId} : or_ok PRD kA GG o_Ho_writeGroup_at_k4_16 := by
  refine or_mk fun A ta ws vs hD hth hl => ?_
  intro t0 r0 t4 k4 t5 r5 t7 k7 t9 k9 t10 k10 t12 k12 t15 k15 t19 k19 d0 d1 d2 f0 f1 f2 f3 ta1 w1 le1 s1 f5 f6 ta2 w2 le2 s2 f8 f9 f10
  replace f0 := shm_262 f0
  replace f1 := shm_261 f1
  replace f2 := shm_5 f2
  replace f3 := shm_135 f3
  replace f5 := shm_262 f5
  replace f6 := shm_261 f6
  replace f8 := shm_261 f8
  replace f9 := shm_37 f9
  replace f10 := shm_6 f10
  have q5 : n_v vs 5 = n_v vs 0 := f2.symm
  simp only [q5] at f3
  have kz_0_12 := fdq_0 hD hth r0
  have kv0 := fdq_0 hD hth r0
  obtain ⟨x, ex, hx⟩ := iv_ex (ta := ta) (lo := 0) (hi := 99999997) (z := w_fi ws (n_v vs 0) 12) (by omega) (by omega) (by omega) (by omega)
  have ex2 : v_iv (Value.int x) = w_fi ws (n_v vs 0) 12 := ex
  have ex3 : 0 ≤ v_iv (Value.int x) ∧ v_iv (Value.int x) ≤ 99999997 := tv_rng hx
  have e_4 : n_v (vs ++ [Value.int x]) 4 = n_v vs 4 := n_v_old (by rw [hl]; decide)
  have e_5 : n_v (vs ++ [Value.int x]) 5 = n_v vs 5 := n_v_old (by rw [hl]; decide)
  have e_7 : n_v (vs ++ [Value.int x]) 7 = n_v vs 7 := n_v_old (by rw [hl]; decide)
  have e_9 : n_v (vs ++ [Value.int x]) 9 = n_v vs 9 := n_v_old (by rw [hl]; decide)
  have e_21 : n_v (vs ++ [Value.int x]) 21 = Value.int x := n_v_new hl
  have nf0 : fc_1 PRD (20, [5, 21], [30, 0, 1, 1, 12, -1, 0, 0]) ws (vs ++ [Value.int x]) := by
    refine ⟨nf_inA hl rfl, sgq_104 ?_⟩
    · show 1 * w_fi ws (n_v (vs ++ [Value.int x]) 5) 12 + ((-1) * v_iv (n_v (vs ++ [Value.int x]) 21) + 0) ≤ 0
      simp only [e_5, e_21, q5]
      exact vc_Ho_writeGroup_at_k4_16_0 (w_fi ws (n_v vs 0) 12) (v_iv (Value.int x)) kz_0_12 ex2
  have nf1 : fc_1 PRD (23, [21, 4, 9, 7], [-5, 1, -1, -763, 763]) ws (vs ++ [Value.int x]) := by
    refine ⟨nf_inA hl rfl, sgq_263 ?_⟩
    · show 1 * v_iv (n_v (vs ++ [Value.int x]) 21) + ((-1) * v_iv (n_v (vs ++ [Value.int x]) 4) + ((-763) * v_iv (n_v (vs ++ [Value.int x]) 9) + (763 * v_iv (n_v (vs ++ [Value.int x]) 7) + 0))) ≤ (-5)
      simp only [e_4, e_7, e_9, e_21]
      exact vc_Ho_writeGroup_at_k4_16_1 (v_iv (n_v vs 4)) (v_iv (n_v vs 7)) (v_iv (n_v vs 9)) (v_iv (n_v vs 12)) (v_iv (n_v vs 19)) (w_fi ws (n_v vs 0) 12) (v_iv (Value.int x)) k4 k7 k9 k12 k19 d0 f0 f3 kz_0_12 ex2
  exact ⟨(fun _ h => (by cases h)), [Value.int x], ag_one hx, List.forall_mem_cons.mpr ⟨⟨show (20 : Nat) < 100 from by decide, nf0⟩, List.forall_mem_cons.mpr ⟨⟨show (23 : Nat) < 100 from by decide, nf1⟩, (fun _ h => (by cases h))⟩⟩, (fun _ h => (by cases h))⟩
