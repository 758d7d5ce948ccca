
def n_Sy_compileValue_at_k11_an : List an_T := []
def t_Sy_compileValue_at_k11_ct : ct_L := [(1, 69, e_Sy_advance), (1, 118, e_Sy_fail), (1, 128, e_Sy_emit), (1, 152, e_Sy_closes), (91, 137, e_Sy_compileSum_at_k12), (169, 114, e_Sy_wordIn_at_s5007), (169, 114, e_Sy_wordIn_at_s5004)]
set_option maxRecDepth 100000 in
theorem c_Sy_compileValue_at_k11 {l : Launch} {D : va_G} {kA : Nat → ClassId} (h_Sy_advance : ct_ok PRD l D kA GG y_Sy_advance z_Sy_advance e_Sy_advance) (h_Sy_closes : ct_ok PRD l D kA GG y_Sy_closes z_Sy_closes e_Sy_closes) (h_Sy_compileSum_at_k12 : ct_ok PRD l D kA GG y_Sy_compileSum_at_k12 z_Sy_compileSum_at_k12 e_Sy_compileSum_at_k12) (h_Sy_emit : ct_ok PRD l D kA GG y_Sy_emit z_Sy_emit e_Sy_emit) (h_Sy_fail : ct_ok PRD l D kA GG y_Sy_fail z_Sy_fail e_Sy_fail) (h_Sy_wordIn_at_s5004 : ct_ok PRD l D kA GG y_Sy_wordIn_at_s5004 z_Sy_wordIn_at_s5004 e_Sy_wordIn_at_s5004) (h_Sy_wordIn_at_s5007 : ct_ok PRD l D kA GG y_Sy_wordIn_at_s5007 z_Sy_wordIn_at_s5007 e_Sy_wordIn_at_s5007) : ct_ok PRD l D kA GG y_Sy_compileValue_at_k11 z_Sy_compileValue_at_k11 e_Sy_compileValue_at_k11 := chk_all_ok (FT := [(31, 11, 6), (37, 11, 8), (42, 11, 9)]) (PT := []) (CT := t_Sy_compileValue_at_k11_ct) (KT := []) (NT := []) (AN := n_Sy_compileValue_at_k11_an) (OT := [o_Sy_compileValue_at_k11_0, o_Sy_compileValue_at_k11_1, o_Sy_compileValue_at_k11_2, o_Sy_compileValue_at_k11_3, o_Sy_compileValue_at_k11_4]) 0 684 (List.forall_mem_cons.mpr ⟨oo_Sy_compileValue_at_k11_0, List.forall_mem_cons.mpr ⟨oo_Sy_compileValue_at_k11_1, List.forall_mem_cons.mpr ⟨oo_Sy_compileValue_at_k11_2, List.forall_mem_cons.mpr ⟨oo_Sy_compileValue_at_k11_3, List.forall_mem_cons.mpr ⟨oo_Sy_compileValue_at_k11_4, List.forall_mem_nil _⟩⟩⟩⟩⟩) (by decide +kernel) ⟨List.forall_mem_cons.mpr ⟨gf_Sy_31, List.forall_mem_cons.mpr ⟨gf_Sy_37, List.forall_mem_cons.mpr ⟨gf_Sy_42, List.forall_mem_nil _⟩⟩⟩, List.forall_mem_nil _, List.forall_mem_cons.mpr ⟨cl_virtual (y := y_Sy_advance) (ci := 11) rfl rfl ⟨_, _, rfl⟩ (by decide +kernel) h_Sy_advance wm_2158 wm_23 wm_2155 wm_2157 wv_10_10 ⟨by decide, by decide, by decide +kernel⟩ (by decide), List.forall_mem_cons.mpr ⟨cl_virtual (y := y_Sy_fail) (ci := 11) rfl rfl ⟨_, _, rfl⟩ (by decide +kernel) h_Sy_fail wm_2239 wm_23 wm_2236 wm_2238 wv_10_14 ⟨by decide, by decide, by decide +kernel⟩ (by decide), List.forall_mem_cons.mpr ⟨cl_virtual (y := y_Sy_emit) (ci := 11) rfl rfl ⟨_, _, rfl⟩ (by decide +kernel) h_Sy_emit wm_2258 wm_23 wm_2255 wm_2257 wv_11_2 ⟨by decide, by decide, by decide +kernel⟩ (by decide), List.forall_mem_cons.mpr ⟨cl_virtual (y := y_Sy_closes) (ci := 11) rfl rfl ⟨_, _, rfl⟩ (by decide +kernel) h_Sy_closes wm_2262 wm_23 wm_2259 wm_2261 wv_11_3 ⟨by decide, by decide, by decide +kernel⟩ (by decide), List.forall_mem_cons.mpr ⟨cl_virtual (y := y_Sy_compileSum_at_k12) (ci := 11) rfl rfl ⟨_, _, rfl⟩ (by decide +kernel) h_Sy_compileSum_at_k12 wm_2266 wm_23 wm_2263 wm_2265 wv_11_4 ⟨by decide, by decide, by decide +kernel⟩ (by decide), List.forall_mem_cons.mpr ⟨cl_virtual (y := y_Sy_wordIn_at_s5007) (ci := 11) rfl rfl ⟨_, _, rfl⟩ (by decide +kernel) h_Sy_wordIn_at_s5007 wm_2229 wm_23 wm_2226 wm_2228 wv_10_12 ⟨by decide, by decide, by decide +kernel⟩ (by decide), List.forall_mem_cons.mpr ⟨cl_virtual (y := y_Sy_wordIn_at_s5004) (ci := 11) rfl rfl ⟨_, _, rfl⟩ (by decide +kernel) h_Sy_wordIn_at_s5004 wm_2229 wm_23 wm_2226 wm_2228 wv_10_12 ⟨by decide, by decide, by decide +kernel⟩ (by decide), List.forall_mem_nil _⟩⟩⟩⟩⟩⟩⟩, List.forall_mem_nil _, List.forall_mem_nil _, GG_pl⟩ (by decide +kernel)
set_option maxHeartbeats 4000000 in
theorem vc_Sy_compileValue_at_k12_0_0 (x3 : Int) (x4 : Int) (x9 : Int) (x11 : Int) (number_0 : Int) (kind_0 : Int) (k3 : 3 ≤ x3 ∧ x3 ≤ 3) (k4 : 40 ≤ x4 ∧ x4 ≤ 40) (k9 : 0 ≤ x9 ∧ x9 ≤ 0) (k11 : 0 ≤ x11 ∧ x11 ≤ 1000000) (g0 : x11 = number_0) (g2 : x3 = kind_0) (f5 : (kind_0 ≠ 3) ∨ (number_0 ≤ 9999)) (f7 : x3 ≠ x4) (kz_0_6 : 0 ≤ kind_0 ∧ kind_0 ≤ 127) (kz_0_8 : 0 ≤ number_0 ∧ number_0 ≤ 1000000) : (0 ≤ x9) ∧ ((0 ≤ x11) ∧ (((x9 * 65536) + x11) ≤ 851970)) := by
  first
    | omega
  
def o_Sy_compileValue_at_k12_0 : or_T := (108, 12, [(0, (2, 0, 0, [11])), (3, (0, 3, 3, [])), (4, (0, 40, 40, [])), (7, (0, 3, 3, [])), (8, (0, 3, 3, [])), (9, (0, 0, 0, [])), (10, (0, 3, 3, [])), (11, (0, 0, 1000000, []))], [(9, [11, 0], [8]), (7, [3, 10], [0]), (9, [3, 0], [6]), (7, [3, 8], [0]), (7, [3, 7], [0]), (20, [0], [50, 2, 0, 6, 8, 3, 7, 7, 3, 2, 0, 6, 0, 3, 0, 3, 2, 0, 8, 0, 9999]), (102, [5], [0]), (7, [3, 4], [1])], [], [], [(20, [9, 11], [50, 0, 0, 2, 6, 0, 2, 0, 0, 1, 0, 2, 6, 0, 2, 0, 0, 1, 1, 0, 10, 4, 6, 6, 2, 1, 0, 0, 65536, 1, 1, 0, 851970])], [], [])
theorem oo_Sy_compileValue_at_k12_0 {kA : Nat → ClassId} : or_ok PRD kA GG o_Sy_compileValue_at_k12_0 := by
  refine or_mk fun A ta ws vs hD hth hl => ?_
  intro t0 r0 t3 k3 t4 k4 t7 k7 t8 k8 t9 k9 t10 k10 t11 k11 f0 f1 f2 f3 f4 f5 ta1 w1 le1 s1 f7
  replace f0 := shm_293 f0
  replace f2 := shm_111 f2
  have g0 : v_iv (n_v vs 11) = w_fi ws (n_v vs 0) 8 := congrArg v_iv f0
  have g2 : v_iv (n_v vs 3) = w_fi ws (n_v vs 0) 6 := congrArg v_iv f2
  have kz_0_6 := fdq_313 hD hth r0
  have kz_0_8 := fdq_314 hD hth r0
  have nf0 : fc_1 PRD (20, [9, 11], [50, 0, 0, 2, 6, 0, 2, 0, 0, 1, 0, 2, 6, 0, 2, 0, 0, 1, 1, 0, 10, 4, 6, 6, 2, 1, 0, 0, 65536, 1, 1, 0, 851970]) ws (vs) := ⟨nf_in hl rfl, sgq_493 (vc_Sy_compileValue_at_k12_0_0 (v_iv (n_v vs 3)) (v_iv (n_v vs 4)) (v_iv (n_v vs 9)) (v_iv (n_v vs 11)) (w_fi ws (n_v vs 0) 8) (w_fi ws (n_v vs 0) 6) k3 k4 k9 k11 g0 g2 (shm_1840 f5) (shm_40 f7) kz_0_6 kz_0_8)⟩
  refine ⟨(fun _ h => (by cases h)), [], trivial, ?_, (fun _ h => (by cases h))⟩
  rw [List.append_nil]
  exact List.forall_mem_cons.mpr ⟨⟨show (20 : Nat) < 100 from by decide, nf0⟩, (fun _ h => (by cases h))⟩
set_option maxHeartbeats 4000000 in
theorem vc_Sy_compileValue_at_k12_1_0 (x3 : Int) (x4 : Int) (x6 : Int) (x7 : Int) (x8 : Int) (x9 : Int) (x10 : Int) (x11 : Int) (kind_0 : Int) (number_0 : Int) (k3 : 0 ≤ x3 ∧ x3 ≤ 127) (k4 : 40 ≤ x4 ∧ x4 ≤ 40) (k6 : 0 ≤ x6 ∧ x6 ≤ 38) (k7 : 3 ≤ x7 ∧ x7 ≤ 3) (k8 : (-1) ≤ x8 ∧ x8 ≤ (-1)) (k9 : 3 ≤ x9 ∧ x9 ≤ 3) (k10 : 1 ≤ x10 ∧ x10 ≤ 1) (k11 : 3 ≤ x11 ∧ x11 ≤ 3) (f0 : x3 ≠ x11) (g1 : x3 = kind_0) (f2 : x3 ≠ x9) (f3 : x6 ≠ x8) (f4 : x3 ≠ x7) (f5 : (kind_0 ≠ 3) ∨ (number_0 ≤ 9999)) (f7 : x3 ≠ x4) (kz_0_6 : 0 ≤ kind_0 ∧ kind_0 ≤ 127) (kz_0_8 : 0 ≤ number_0 ∧ number_0 ≤ 1000000) : (0 ≤ x10) ∧ ((0 ≤ x6) ∧ (((x10 * 65536) + x6) ≤ 851970)) := by
  first
    | omega
  
def o_Sy_compileValue_at_k12_1 : or_T := (108, 12, [(0, (2, 0, 0, [11])), (3, (0, 0, 127, [])), (4, (0, 40, 40, [])), (6, (0, 0, 38, [])), (7, (0, 3, 3, [])), (8, (0, -1, -1, [])), (9, (0, 3, 3, [])), (10, (0, 1, 1, [])), (11, (0, 3, 3, []))], [(7, [3, 11], [1]), (9, [3, 0], [6]), (7, [3, 9], [1]), (7, [6, 8], [1]), (7, [3, 7], [1]), (20, [0], [50, 2, 0, 6, 8, 3, 7, 7, 3, 2, 0, 6, 0, 3, 0, 3, 2, 0, 8, 0, 9999]), (102, [5], [0]), (7, [3, 4], [1])], [], [], [(20, [10, 6], [50, 0, 0, 2, 6, 0, 2, 0, 0, 1, 0, 2, 6, 0, 2, 0, 0, 1, 1, 0, 10, 4, 6, 6, 2, 1, 0, 0, 65536, 1, 1, 0, 851970])], [], [])
theorem oo_Sy_compileValue_at_k12_1 {kA : Nat → ClassId} : or_ok PRD kA GG o_Sy_compileValue_at_k12_1 := by
  refine or_mk fun A ta ws vs hD hth hl => ?_
  intro t0 r0 t3 k3 t4 k4 t6 k6 t7 k7 t8 k8 t9 k9 t10 k10 t11 k11 f0 f1 f2 f3 f4 f5 ta1 w1 le1 s1 f7
  replace f1 := shm_111 f1
  have g1 : v_iv (n_v vs 3) = w_fi ws (n_v vs 0) 6 := congrArg v_iv f1
  have kz_0_6 := fdq_313 hD hth r0
  have kz_0_8 := fdq_314 hD hth r0
  have nf0 : fc_1 PRD (20, [10, 6], [50, 0, 0, 2, 6, 0, 2, 0, 0, 1, 0, 2, 6, 0, 2, 0, 0, 1, 1, 0, 10, 4, 6, 6, 2, 1, 0, 0, 65536, 1, 1, 0, 851970]) ws (vs) := ⟨nf_in hl rfl, sgq_493 (vc_Sy_compileValue_at_k12_1_0 (v_iv (n_v vs 3)) (v_iv (n_v vs 4)) (v_iv (n_v vs 6)) (v_iv (n_v vs 7)) (v_iv (n_v vs 8)) (v_iv (n_v vs 9)) (v_iv (n_v vs 10)) (v_iv (n_v vs 11)) (w_fi ws (n_v vs 0) 6) (w_fi ws (n_v vs 0) 8) k3 k4 k6 k7 k8 k9 k10 k11 (shm_40 f0) g1 (shm_40 f2) (shm_40 f3) (shm_40 f4) (shm_1840 f5) (shm_40 f7) kz_0_6 kz_0_8)⟩
  refine ⟨(fun _ h => (by cases h)), [], trivial, ?_, (fun _ h => (by cases h))⟩
  rw [List.append_nil]
  exact List.forall_mem_cons.mpr ⟨⟨show (20 : Nat) < 100 from by decide, nf0⟩, (fun _ h => (by cases h))⟩
set_option maxHeartbeats 4000000 in
theorem vc_Sy_compileValue_at_k12_2_0 (x3 : Int) (x4 : Int) (x10 : Int) (x12 : Int) (number_0 : Int) (kind_0 : Int) (k3 : 3 ≤ x3 ∧ x3 ≤ 3) (k4 : 40 ≤ x4 ∧ x4 ≤ 40) (k10 : 1 ≤ x10 ∧ x10 ≤ 1) (k12 : 0 ≤ x12 ∧ x12 ≤ 1000000) (g0 : x12 = number_0) (g2 : x3 = kind_0) (f5 : (kind_0 ≠ 3) ∨ (number_0 ≤ 9999)) (f7 : x3 ≠ x4) (kz_0_6 : 0 ≤ kind_0 ∧ kind_0 ≤ 127) (kz_0_8 : 0 ≤ number_0 ∧ number_0 ≤ 1000000) : (0 ≤ x10) ∧ ((0 ≤ x12) ∧ (((x10 * 65536) + x12) ≤ 851970)) := by
  first
    | omega
  
def o_Sy_compileValue_at_k12_2 : or_T := (108, 13, [(0, (2, 0, 0, [11])), (3, (0, 3, 3, [])), (4, (0, 40, 40, [])), (7, (0, 3, 3, [])), (9, (0, 3, 3, [])), (10, (0, 1, 1, [])), (11, (0, 3, 3, [])), (12, (0, 0, 1000000, []))], [(9, [12, 0], [8]), (7, [3, 11], [0]), (9, [3, 0], [6]), (7, [3, 9], [1]), (7, [3, 7], [1]), (20, [0], [50, 2, 0, 6, 8, 3, 7, 7, 3, 2, 0, 6, 0, 3, 0, 3, 2, 0, 8, 0, 9999]), (102, [5], [0]), (7, [3, 4], [1])], [], [], [(20, [10, 12], [50, 0, 0, 2, 6, 0, 2, 0, 0, 1, 0, 2, 6, 0, 2, 0, 0, 1, 1, 0, 10, 4, 6, 6, 2, 1, 0, 0, 65536, 1, 1, 0, 851970])], [], [])
theorem oo_Sy_compileValue_at_k12_2 {kA : Nat → ClassId} : or_ok PRD kA GG o_Sy_compileValue_at_k12_2 := by
  refine or_mk fun A ta ws vs hD hth hl => ?_
  intro t0 r0 t3 k3 t4 k4 t7 k7 t9 k9 t10 k10 t11 k11 t12 k12 f0 f1 f2 f3 f4 f5 ta1 w1 le1 s1 f7
  replace f0 := shm_293 f0
  replace f2 := shm_111 f2
  have g0 : v_iv (n_v vs 12) = w_fi ws (n_v vs 0) 8 := congrArg v_iv f0
  have g2 : v_iv (n_v vs 3) = w_fi ws (n_v vs 0) 6 := congrArg v_iv f2
  have kz_0_6 := fdq_313 hD hth r0
  have kz_0_8 := fdq_314 hD hth r0
  have nf0 : fc_1 PRD (20, [10, 12], [50, 0, 0, 2, 6, 0, 2, 0, 0, 1, 0, 2, 6, 0, 2, 0, 0, 1, 1, 0, 10, 4, 6, 6, 2, 1, 0, 0, 65536, 1, 1, 0, 851970]) ws (vs) := ⟨nf_in hl rfl, sgq_493 (vc_Sy_compileValue_at_k12_2_0 (v_iv (n_v vs 3)) (v_iv (n_v vs 4)) (v_iv (n_v vs 10)) (v_iv (n_v vs 12)) (w_fi ws (n_v vs 0) 8) (w_fi ws (n_v vs 0) 6) k3 k4 k10 k12 g0 g2 (shm_1840 f5) (shm_40 f7) kz_0_6 kz_0_8)⟩
  refine ⟨(fun _ h => (by cases h)), [], trivial, ?_, (fun _ h => (by cases h))⟩
  rw [List.append_nil]
  exact List.forall_mem_cons.mpr ⟨⟨show (20 : Nat) < 100 from by decide, nf0⟩, (fun _ h => (by cases h))⟩
set_option maxHeartbeats 4000000 in
theorem vc_Sy_compileValue_at_k12_3_0 (x3 : Int) (x4 : Int) (x10 : Int) (x12 : Int) (number_0 : Int) (kind_0 : Int) (k3 : 3 ≤ x3 ∧ x3 ≤ 3) (k4 : 40 ≤ x4 ∧ x4 ≤ 40) (k10 : 0 ≤ x10 ∧ x10 ≤ 0) (k12 : 0 ≤ x12 ∧ x12 ≤ 1000000) (g0 : x12 = number_0) (g2 : x3 = kind_0) (f5 : (kind_0 ≠ 3) ∨ (number_0 ≤ 9999)) (f7 : x3 ≠ x4) (kz_0_6 : 0 ≤ kind_0 ∧ kind_0 ≤ 127) (kz_0_8 : 0 ≤ number_0 ∧ number_0 ≤ 1000000) : (0 ≤ x10) ∧ ((0 ≤ x12) ∧ (((x10 * 65536) + x12) ≤ 851970)) := by
  first
    | omega
  
def o_Sy_compileValue_at_k12_3 : or_T := (108, 13, [(0, (2, 0, 0, [11])), (3, (0, 3, 3, [])), (4, (0, 40, 40, [])), (7, (0, 3, 3, [])), (9, (0, 3, 3, [])), (10, (0, 0, 0, [])), (11, (0, 3, 3, [])), (12, (0, 0, 1000000, []))], [(9, [12, 0], [8]), (7, [3, 11], [0]), (9, [3, 0], [6]), (7, [3, 9], [0]), (7, [3, 7], [1]), (20, [0], [50, 2, 0, 6, 8, 3, 7, 7, 3, 2, 0, 6, 0, 3, 0, 3, 2, 0, 8, 0, 9999]), (102, [5], [0]), (7, [3, 4], [1])], [], [], [(20, [10, 12], [50, 0, 0, 2, 6, 0, 2, 0, 0, 1, 0, 2, 6, 0, 2, 0, 0, 1, 1, 0, 10, 4, 6, 6, 2, 1, 0, 0, 65536, 1, 1, 0, 851970])], [], [])
theorem oo_Sy_compileValue_at_k12_3 {kA : Nat → ClassId} : or_ok PRD kA GG o_Sy_compileValue_at_k12_3 := by
  refine or_mk fun A ta ws vs hD hth hl => ?_
  intro t0 r0 t3 k3 t4 k4 t7 k7 t9 k9 t10 k10 t11 k11 t12 k12 f0 f1 f2 f3 f4 f5 ta1 w1 le1 s1 f7
  replace f0 := shm_293 f0
  replace f2 := shm_111 f2
  have g0 : v_iv (n_v vs 12) = w_fi ws (n_v vs 0) 8 := congrArg v_iv f0
  have g2 : v_iv (n_v vs 3) = w_fi ws (n_v vs 0) 6 := congrArg v_iv f2
  have kz_0_6 := fdq_313 hD hth r0
  have kz_0_8 := fdq_314 hD hth r0
  have nf0 : fc_1 PRD (20, [10, 12], [50, 0, 0, 2, 6, 0, 2, 0, 0, 1, 0, 2, 6, 0, 2, 0, 0, 1, 1, 0, 10, 4, 6, 6, 2, 1, 0, 0, 65536, 1, 1, 0, 851970]) ws (vs) := ⟨nf_in hl rfl, sgq_493 (vc_Sy_compileValue_at_k12_3_0 (v_iv (n_v vs 3)) (v_iv (n_v vs 4)) (v_iv (n_v vs 10)) (v_iv (n_v vs 12)) (w_fi ws (n_v vs 0) 8) (w_fi ws (n_v vs 0) 6) k3 k4 k10 k12 g0 g2 (shm_1840 f5) (shm_40 f7) kz_0_6 kz_0_8)⟩
  refine ⟨(fun _ h => (by cases h)), [], trivial, ?_, (fun _ h => (by cases h))⟩
  rw [List.append_nil]
  exact List.forall_mem_cons.mpr ⟨⟨show (20 : Nat) < 100 from by decide, nf0⟩, (fun _ h => (by cases h))⟩
set_option maxHeartbeats 4000000 in
theorem vc_Sy_compileValue_at_k12_4_0 (x3 : Int) (x4 : Int) (x6 : Int) (x7 : Int) (x8 : Int) (x9 : Int) (x10 : Int) (x11 : Int) (kind_0 : Int) (number_0 : Int) (k3 : 0 ≤ x3 ∧ x3 ≤ 127) (k4 : 40 ≤ x4 ∧ x4 ≤ 40) (k6 : 0 ≤ x6 ∧ x6 ≤ 43) (k7 : 3 ≤ x7 ∧ x7 ≤ 3) (k8 : (-1) ≤ x8 ∧ x8 ≤ (-1)) (k9 : 3 ≤ x9 ∧ x9 ≤ 3) (k10 : 1 ≤ x10 ∧ x10 ≤ 1) (k11 : 3 ≤ x11 ∧ x11 ≤ 3) (f0 : x3 ≠ x11) (g1 : x3 = kind_0) (f2 : x3 ≠ x9) (f3 : x6 ≠ x8) (f4 : x3 ≠ x7) (f5 : (kind_0 ≠ 3) ∨ (number_0 ≤ 9999)) (f7 : x3 ≠ x4) (kz_0_6 : 0 ≤ kind_0 ∧ kind_0 ≤ 127) (kz_0_8 : 0 ≤ number_0 ∧ number_0 ≤ 1000000) : (0 ≤ x10) ∧ ((0 ≤ x6) ∧ (((x10 * 65536) + x6) ≤ 851970)) := by
  first
    | omega
  
def o_Sy_compileValue_at_k12_4 : or_T := (108, 12, [(0, (2, 0, 0, [11])), (3, (0, 0, 127, [])), (4, (0, 40, 40, [])), (6, (0, 0, 43, [])), (7, (0, 3, 3, [])), (8, (0, -1, -1, [])), (9, (0, 3, 3, [])), (10, (0, 1, 1, [])), (11, (0, 3, 3, []))], [(7, [3, 11], [1]), (9, [3, 0], [6]), (7, [3, 9], [1]), (7, [6, 8], [1]), (7, [3, 7], [1]), (20, [0], [50, 2, 0, 6, 8, 3, 7, 7, 3, 2, 0, 6, 0, 3, 0, 3, 2, 0, 8, 0, 9999]), (102, [5], [0]), (7, [3, 4], [1])], [], [], [(20, [10, 6], [50, 0, 0, 2, 6, 0, 2, 0, 0, 1, 0, 2, 6, 0, 2, 0, 0, 1, 1, 0, 10, 4, 6, 6, 2, 1, 0, 0, 65536, 1, 1, 0, 851970])], [], [])
theorem oo_Sy_compileValue_at_k12_4 {kA : Nat → ClassId} : or_ok PRD kA GG o_Sy_compileValue_at_k12_4 := by
  refine or_mk fun A ta ws vs hD hth hl => ?_
  intro t0 r0 t3 k3 t4 k4 t6 k6 t7 k7 t8 k8 t9 k9 t10 k10 t11 k11 f0 f1 f2 f3 f4 f5 ta1 w1 le1 s1 f7
  replace f1 := shm_111 f1
  have g1 : v_iv (n_v vs 3) = w_fi ws (n_v vs 0) 6 := congrArg v_iv f1
  have kz_0_6 := fdq_313 hD hth r0
  have kz_0_8 := fdq_314 hD hth r0
  have nf0 : fc_1 PRD (20, [10, 6], [50, 0, 0, 2, 6, 0, 2, 0, 0, 1, 0, 2, 6, 0, 2, 0, 0, 1, 1, 0, 10, 4, 6, 6, 2, 1, 0, 0, 65536, 1, 1, 0, 851970]) ws (vs) := ⟨nf_in hl rfl, sgq_493 (vc_Sy_compileValue_at_k12_4_0 (v_iv (n_v vs 3)) (v_iv (n_v vs 4)) (v_iv (n_v vs 6)) (v_iv (n_v vs 7)) (v_iv (n_v vs 8)) (v_iv (n_v vs 9)) (v_iv (n_v vs 10)) (v_iv (n_v vs 11)) (w_fi ws (n_v vs 0) 6) (w_fi ws (n_v vs 0) 8) k3 k4 k6 k7 k8 k9 k10 k11 (shm_40 f0) g1 (shm_40 f2) (shm_40 f3) (shm_40 f4) (shm_1840 f5) (shm_40 f7) kz_0_6 kz_0_8)⟩
  refine ⟨(fun _ h => (by cases h)), [], trivial, ?_, (fun _ h => (by cases h))⟩
  rw [List.append_nil]
  exact List.forall_mem_cons.mpr ⟨⟨show (20 : Nat) < 100 from by decide, nf0⟩, (fun _ h => (by cases h))⟩
def n_Sy_compileValue_at_k12_an : List an_T := []
def t_Sy_compileValue_at_k12_ct : ct_L := [(1, 69, e_Sy_advance), (1, 118, e_Sy_fail), (1, 128, e_Sy_emit), (169, 114, e_Sy_wordIn_at_s5007), (169, 114, e_Sy_wordIn_at_s5004)]
set_option maxRecDepth 100000 in
theorem c_Sy_compileValue_at_k12 {l : Launch} {D : va_G} {kA : Nat → ClassId} (h_Sy_advance : ct_ok PRD l D kA GG y_Sy_advance z_Sy_advance e_Sy_advance) (h_Sy_emit : ct_ok PRD l D kA GG y_Sy_emit z_Sy_emit e_Sy_emit) (h_Sy_fail : ct_ok PRD l D kA GG y_Sy_fail z_Sy_fail e_Sy_fail) (h_Sy_wordIn_at_s5004 : ct_ok PRD l D kA GG y_Sy_wordIn_at_s5004 z_Sy_wordIn_at_s5004 e_Sy_wordIn_at_s5004) (h_Sy_wordIn_at_s5007 : ct_ok PRD l D kA GG y_Sy_wordIn_at_s5007 z_Sy_wordIn_at_s5007 e_Sy_wordIn_at_s5007) : ct_ok PRD l D kA GG y_Sy_compileValue_at_k12 z_Sy_compileValue_at_k12 e_Sy_compileValue_at_k12 := chk_all_ok (FT := [(31, 11, 6), (37, 11, 8), (42, 11, 9)]) (PT := []) (CT := t_Sy_compileValue_at_k12_ct) (KT := []) (NT := []) (AN := n_Sy_compileValue_at_k12_an) (OT := [o_Sy_compileValue_at_k12_0, o_Sy_compileValue_at_k12_1, o_Sy_compileValue_at_k12_2, o_Sy_compileValue_at_k12_3, o_Sy_compileValue_at_k12_4]) 0 620 (List.forall_mem_cons.mpr ⟨oo_Sy_compileValue_at_k12_0, List.forall_mem_cons.mpr ⟨oo_Sy_compileValue_at_k12_1, List.forall_mem_cons.mpr ⟨oo_Sy_compileValue_at_k12_2, List.forall_mem_cons.mpr ⟨oo_Sy_compileValue_at_k12_3, List.forall_mem_cons.mpr ⟨oo_Sy_compileValue_at_k12_4, List.forall_mem_nil _⟩⟩⟩⟩⟩) (by decide +kernel) ⟨List.forall_mem_cons.mpr ⟨gf_Sy_31, List.forall_mem_cons.mpr ⟨gf_Sy_37, List.forall_mem_cons.mpr ⟨gf_Sy_42, List.forall_mem_nil _⟩⟩⟩, List.forall_mem_nil _, List.forall_mem_cons.mpr ⟨cl_virtual (y := y_Sy_advance) (ci := 11) rfl rfl ⟨_, _, rfl⟩ (by decide +kernel) h_Sy_advance wm_2158 wm_23 wm_2155 wm_2157 wv_10_10 ⟨by decide, by decide, by decide +kernel⟩ (by decide), List.forall_mem_cons.mpr ⟨cl_virtual (y := y_Sy_fail) (ci := 11) rfl rfl ⟨_, _, rfl⟩ (by decide +kernel) h_Sy_fail wm_2239 wm_23 wm_2236 wm_2238 wv_10_14 ⟨by decide, by decide, by decide +kernel⟩ (by decide), List.forall_mem_cons.mpr ⟨cl_virtual (y := y_Sy_emit) (ci := 11) rfl rfl ⟨_, _, rfl⟩ (by decide +kernel) h_Sy_emit wm_2258 wm_23 wm_2255 wm_2257 wv_11_2 ⟨by decide, by decide, by decide +kernel⟩ (by decide), List.forall_mem_cons.mpr ⟨cl_virtual (y := y_Sy_wordIn_at_s5007) (ci := 11) rfl rfl ⟨_, _, rfl⟩ (by decide +kernel) h_Sy_wordIn_at_s5007 wm_2229 wm_23 wm_2226 wm_2228 wv_10_12 ⟨by decide, by decide, by decide +kernel⟩ (by decide), List.forall_mem_cons.mpr ⟨cl_virtual (y := y_Sy_wordIn_at_s5004) (ci := 11) rfl rfl ⟨_, _, rfl⟩ (by decide +kernel) h_Sy_wordIn_at_s5004 wm_2229 wm_23 wm_2226 wm_2228 wv_10_12 ⟨by decide, by decide, by decide +kernel⟩ (by decide), List.forall_mem_nil _⟩⟩⟩⟩⟩, List.forall_mem_nil _, List.forall_mem_nil _, GG_pl⟩ (by decide +kernel)
set_option maxHeartbeats 4000000 in
theorem vc_Sy_compileValue_at_k2_0_0 (x3 : Int) (x4 : Int) (x9 : Int) (x11 : Int) (number_0 : Int) (kind_0 : Int) (k3 : 3 ≤ x3 ∧ x3 ≤ 3) (k4 : 40 ≤ x4 ∧ x4 ≤ 40) (k9 : 0 ≤ x9 ∧ x9 ≤ 0) (k11 : 0 ≤ x11 ∧ x11 ≤ 1000000) (g0 : x11 = number_0) (g2 : x3 = kind_0) (f5 : (kind_0 ≠ 3) ∨ (number_0 ≤ 9999)) (f7 : x3 ≠ x4) (kz_0_6 : 0 ≤ kind_0 ∧ kind_0 ≤ 127) (kz_0_8 : 0 ≤ number_0 ∧ number_0 ≤ 1000000) : (0 ≤ x9) ∧ ((0 ≤ x11) ∧ (((x9 * 65536) + x11) ≤ 851970)) := by
  first
    | omega
  
def o_Sy_compileValue_at_k2_0 : or_T := (108, 12, [(0, (2, 0, 0, [11])), (3, (0, 3, 3, [])), (4, (0, 40, 40, [])), (7, (0, 3, 3, [])), (8, (0, 3, 3, [])), (9, (0, 0, 0, [])), (10, (0, 3, 3, [])), (11, (0, 0, 1000000, []))], [(9, [11, 0], [8]), (7, [3, 10], [0]), (9, [3, 0], [6]), (7, [3, 8], [0]), (7, [3, 7], [0]), (20, [0], [50, 2, 0, 6, 8, 3, 7, 7, 3, 2, 0, 6, 0, 3, 0, 3, 2, 0, 8, 0, 9999]), (102, [5], [0]), (7, [3, 4], [1])], [], [], [(20, [9, 11], [50, 0, 0, 2, 6, 0, 2, 0, 0, 1, 0, 2, 6, 0, 2, 0, 0, 1, 1, 0, 10, 4, 6, 6, 2, 1, 0, 0, 65536, 1, 1, 0, 851970])], [], [])
theorem oo_Sy_compileValue_at_k2_0 {kA : Nat → ClassId} : or_ok PRD kA GG o_Sy_compileValue_at_k2_0 := by
  refine or_mk fun A ta ws vs hD hth hl => ?_
  intro t0 r0 t3 k3 t4 k4 t7 k7 t8 k8 t9 k9 t10 k10 t11 k11 f0 f1 f2 f3 f4 f5 ta1 w1 le1 s1 f7
  replace f0 := shm_293 f0
  replace f2 := shm_111 f2
  have g0 : v_iv (n_v vs 11) = w_fi ws (n_v vs 0) 8 := congrArg v_iv f0
  have g2 : v_iv (n_v vs 3) = w_fi ws (n_v vs 0) 6 := congrArg v_iv f2
  have kz_0_6 := fdq_313 hD hth r0
  have kz_0_8 := fdq_314 hD hth r0
  have nf0 : fc_1 PRD (20, [9, 11], [50, 0, 0, 2, 6, 0, 2, 0, 0, 1, 0, 2, 6, 0, 2, 0, 0, 1, 1, 0, 10, 4, 6, 6, 2, 1, 0, 0, 65536, 1, 1, 0, 851970]) ws (vs) := ⟨nf_in hl rfl, sgq_493 (vc_Sy_compileValue_at_k2_0_0 (v_iv (n_v vs 3)) (v_iv (n_v vs 4)) (v_iv (n_v vs 9)) (v_iv (n_v vs 11)) (w_fi ws (n_v vs 0) 8) (w_fi ws (n_v vs 0) 6) k3 k4 k9 k11 g0 g2 (shm_1840 f5) (shm_40 f7) kz_0_6 kz_0_8)⟩
  refine ⟨(fun _ h => (by cases h)), [], trivial, ?_, (fun _ h => (by cases h))⟩
  rw [List.append_nil]
  exact List.forall_mem_cons.mpr ⟨⟨show (20 : Nat) < 100 from by decide, nf0⟩, (fun _ h => (by cases h))⟩
set_option maxHeartbeats 4000000 in
theorem vc_Sy_compileValue_at_k2_1_0 (x3 : Int) (x4 : Int) (x6 : Int) (x7 : Int) (x8 : Int) (x9 : Int) (x10 : Int) (x11 : Int) (kind_0 : Int) (number_0 : Int) (k3 : 0 ≤ x3 ∧ x3 ≤ 127) (k4 : 40 ≤ x4 ∧ x4 ≤ 40) (k6 : 0 ≤ x6 ∧ x6 ≤ 38) (k7 : 3 ≤ x7 ∧ x7 ≤ 3) (k8 : (-1) ≤ x8 ∧ x8 ≤ (-1)) (k9 : 3 ≤ x9 ∧ x9 ≤ 3) (k10 : 1 ≤ x10 ∧ x10 ≤ 1) (k11 : 3 ≤ x11 ∧ x11 ≤ 3) (f0 : x3 ≠ x11) (g1 : x3 = kind_0) (f2 : x3 ≠ x9) (f3 : x6 ≠ x8) (f4 : x3 ≠ x7) (f5 : (kind_0 ≠ 3) ∨ (number_0 ≤ 9999)) (f7 : x3 ≠ x4) (kz_0_6 : 0 ≤ kind_0 ∧ kind_0 ≤ 127) (kz_0_8 : 0 ≤ number_0 ∧ number_0 ≤ 1000000) : (0 ≤ x10) ∧ ((0 ≤ x6) ∧ (((x10 * 65536) + x6) ≤ 851970)) := by
  first
    | omega
  
def o_Sy_compileValue_at_k2_1 : or_T := (108, 12, [(0, (2, 0, 0, [11])), (3, (0, 0, 127, [])), (4, (0, 40, 40, [])), (6, (0, 0, 38, [])), (7, (0, 3, 3, [])), (8, (0, -1, -1, [])), (9, (0, 3, 3, [])), (10, (0, 1, 1, [])), (11, (0, 3, 3, []))], [(7, [3, 11], [1]), (9, [3, 0], [6]), (7, [3, 9], [1]), (7, [6, 8], [1]), (7, [3, 7], [1]), (20, [0], [50, 2, 0, 6, 8, 3, 7, 7, 3, 2, 0, 6, 0, 3, 0, 3, 2, 0, 8, 0, 9999]), (102, [5], [0]), (7, [3, 4], [1])], [], [], [(20, [10, 6], [50, 0, 0, 2, 6, 0, 2, 0, 0, 1, 0, 2, 6, 0, 2, 0, 0, 1, 1, 0, 10, 4, 6, 6, 2, 1, 0, 0, 65536, 1, 1, 0, 851970])], [], [])
theorem oo_Sy_compileValue_at_k2_1 {kA : Nat → ClassId} : or_ok PRD kA GG o_Sy_compileValue_at_k2_1 := by
  refine or_mk fun A ta ws vs hD hth hl => ?_
  intro t0 r0 t3 k3 t4 k4 t6 k6 t7 k7 t8 k8 t9 k9 t10 k10 t11 k11 f0 f1 f2 f3 f4 f5 ta1 w1 le1 s1 f7
  replace f1 := shm_111 f1
  have g1 : v_iv (n_v vs 3) = w_fi ws (n_v vs 0) 6 := congrArg v_iv f1
  have kz_0_6 := fdq_313 hD hth r0
  have kz_0_8 := fdq_314 hD hth r0
  have nf0 : fc_1 PRD (20, [10, 6], [50, 0, 0, 2, 6, 0, 2, 0, 0, 1, 0, 2, 6, 0, 2, 0, 0, 1, 1, 0, 10, 4, 6, 6, 2, 1, 0, 0, 65536, 1, 1, 0, 851970]) ws (vs) := ⟨nf_in hl rfl, sgq_493 (vc_Sy_compileValue_at_k2_1_0 (v_iv (n_v vs 3)) (v_iv (n_v vs 4)) (v_iv (n_v vs 6)) (v_iv (n_v vs 7)) (v_iv (n_v vs 8)) (v_iv (n_v vs 9)) (v_iv (n_v vs 10)) (v_iv (n_v vs 11)) (w_fi ws (n_v vs 0) 6) (w_fi ws (n_v vs 0) 8) k3 k4 k6 k7 k8 k9 k10 k11 (shm_40 f0) g1 (shm_40 f2) (shm_40 f3) (shm_40 f4) (shm_1840 f5) (shm_40 f7) kz_0_6 kz_0_8)⟩
  refine ⟨(fun _ h => (by cases h)), [], trivial, ?_, (fun _ h => (by cases h))⟩
  rw [List.append_nil]
  exact List.forall_mem_cons.mpr ⟨⟨show (20 : Nat) < 100 from by decide, nf0⟩, (fun _ h => (by cases h))⟩
set_option maxHeartbeats 4000000 in
theorem vc_Sy_compileValue_at_k2_2_0 (x3 : Int) (x4 : Int) (x10 : Int) (x12 : Int) (number_0 : Int) (kind_0 : Int) (k3 : 3 ≤ x3 ∧ x3 ≤ 3) (k4 : 40 ≤ x4 ∧ x4 ≤ 40) (k10 : 1 ≤ x10 ∧ x10 ≤ 1) (k12 : 0 ≤ x12 ∧ x12 ≤ 1000000) (g0 : x12 = number_0) (g2 : x3 = kind_0) (f5 : (kind_0 ≠ 3) ∨ (number_0 ≤ 9999)) (f7 : x3 ≠ x4) (kz_0_6 : 0 ≤ kind_0 ∧ kind_0 ≤ 127) (kz_0_8 : 0 ≤ number_0 ∧ number_0 ≤ 1000000) : (0 ≤ x10) ∧ ((0 ≤ x12) ∧ (((x10 * 65536) + x12) ≤ 851970)) := by
  first
    | omega
  
def o_Sy_compileValue_at_k2_2 : or_T := (108, 13, [(0, (2, 0, 0, [11])), (3, (0, 3, 3, [])), (4, (0, 40, 40, [])), (7, (0, 3, 3, [])), (9, (0, 3, 3, [])), (10, (0, 1, 1, [])), (11, (0, 3, 3, [])), (12, (0, 0, 1000000, []))], [(9, [12, 0], [8]), (7, [3, 11], [0]), (9, [3, 0], [6]), (7, [3, 9], [1]), (7, [3, 7], [1]), (20, [0], [50, 2, 0, 6, 8, 3, 7, 7, 3, 2, 0, 6, 0, 3, 0, 3, 2, 0, 8, 0, 9999]), (102, [5], [0]), (7, [3, 4], [1])], [], [], [(20, [10, 12], [50, 0, 0, 2, 6, 0, 2, 0, 0, 1, 0, 2, 6, 0, 2, 0, 0, 1, 1, 0, 10, 4, 6, 6, 2, 1, 0, 0, 65536, 1, 1, 0, 851970])], [], [])
theorem oo_Sy_compileValue_at_k2_2 {kA : Nat → ClassId} : or_ok PRD kA GG o_Sy_compileValue_at_k2_2 := by
  refine or_mk fun A ta ws vs hD hth hl => ?_
  intro t0 r0 t3 k3 t4 k4 t7 k7 t9 k9 t10 k10 t11 k11 t12 k12 f0 f1 f2 f3 f4 f5 ta1 w1 le1 s1 f7
  replace f0 := shm_293 f0
  replace f2 := shm_111 f2
  have g0 : v_iv (n_v vs 12) = w_fi ws (n_v vs 0) 8 := congrArg v_iv f0
  have g2 : v_iv (n_v vs 3) = w_fi ws (n_v vs 0) 6 := congrArg v_iv f2
  have kz_0_6 := fdq_313 hD hth r0
  have kz_0_8 := fdq_314 hD hth r0
  have nf0 : fc_1 PRD (20, [10, 12], [50, 0, 0, 2, 6, 0, 2, 0, 0, 1, 0, 2, 6, 0, 2, 0, 0, 1, 1, 0, 10, 4, 6, 6, 2, 1, 0, 0, 65536, 1, 1, 0, 851970]) ws (vs) := ⟨nf_in hl rfl, sgq_493 (vc_Sy_compileValue_at_k2_2_0 (v_iv (n_v vs 3)) (v_iv (n_v vs 4)) (v_iv (n_v vs 10)) (v_iv (n_v vs 12)) (w_fi ws (n_v vs 0) 8) (w_fi ws (n_v vs 0) 6) k3 k4 k10 k12 g0 g2 (shm_1840 f5) (shm_40 f7) kz_0_6 kz_0_8)⟩
  refine ⟨(fun _ h => (by cases h)), [], trivial, ?_, (fun _ h => (by cases h))⟩
  rw [List.append_nil]
  exact List.forall_mem_cons.mpr ⟨⟨show (20 : Nat) < 100 from by decide, nf0⟩, (fun _ h => (by cases h))⟩
set_option maxHeartbeats 4000000 in
theorem vc_Sy_compileValue_at_k2_3_0 (x3 : Int) (x4 : Int) (x10 : Int) (x12 : Int) (number_0 : Int) (kind_0 : Int) (k3 : 3 ≤ x3 ∧ x3 ≤ 3) (k4 : 40 ≤ x4 ∧ x4 ≤ 40) (k10 : 0 ≤ x10 ∧ x10 ≤ 0) (k12 : 0 ≤ x12 ∧ x12 ≤ 1000000) (g0 : x12 = number_0) (g2 : x3 = kind_0) (f5 : (kind_0 ≠ 3) ∨ (number_0 ≤ 9999)) (f7 : x3 ≠ x4) (kz_0_6 : 0 ≤ kind_0 ∧ kind_0 ≤ 127) (kz_0_8 : 0 ≤ number_0 ∧ number_0 ≤ 1000000) : (0 ≤ x10) ∧ ((0 ≤ x12) ∧ (((x10 * 65536) + x12) ≤ 851970)) := by
  first
    | omega
  
def o_Sy_compileValue_at_k2_3 : or_T := (108, 13, [(0, (2, 0, 0, [11])), (3, (0, 3, 3, [])), (4, (0, 40, 40, [])), (7, (0, 3, 3, [])), (9, (0, 3, 3, [])), (10, (0, 0, 0, [])), (11, (0, 3, 3, [])), (12, (0, 0, 1000000, []))], [(9, [12, 0], [8]), (7, [3, 11], [0]), (9, [3, 0], [6]), (7, [3, 9], [0]), (7, [3, 7], [1]), (20, [0], [50, 2, 0, 6, 8, 3, 7, 7, 3, 2, 0, 6, 0, 3, 0, 3, 2, 0, 8, 0, 9999]), (102, [5], [0]), (7, [3, 4], [1])], [], [], [(20, [10, 12], [50, 0, 0, 2, 6, 0, 2, 0, 0, 1, 0, 2, 6, 0, 2, 0, 0, 1, 1, 0, 10, 4, 6, 6, 2, 1, 0, 0, 65536, 1, 1, 0, 851970])], [], [])
theorem oo_Sy_compileValue_at_k2_3 {kA : Nat → ClassId} : or_ok PRD kA GG o_Sy_compileValue_at_k2_3 := by
  refine or_mk fun A ta ws vs hD hth hl => ?_
  intro t0 r0 t3 k3 t4 k4 t7 k7 t9 k9 t10 k10 t11 k11 t12 k12 f0 f1 f2 f3 f4 f5 ta1 w1 le1 s1 f7
  replace f0 := shm_293 f0
  replace f2 := shm_111 f2
  have g0 : v_iv (n_v vs 12) = w_fi ws (n_v vs 0) 8 := congrArg v_iv f0
  have g2 : v_iv (n_v vs 3) = w_fi ws (n_v vs 0) 6 := congrArg v_iv f2
  have kz_0_6 := fdq_313 hD hth r0
  have kz_0_8 := fdq_314 hD hth r0
  have nf0 : fc_1 PRD (20, [10, 12], [50, 0, 0, 2, 6, 0, 2, 0, 0, 1, 0, 2, 6, 0, 2, 0, 0, 1, 1, 0, 10, 4, 6, 6, 2, 1, 0, 0, 65536, 1, 1, 0, 851970]) ws (vs) := ⟨nf_in hl rfl, sgq_493 (vc_Sy_compileValue_at_k2_3_0 (v_iv (n_v vs 3)) (v_iv (n_v vs 4)) (v_iv (n_v vs 10)) (v_iv (n_v vs 12)) (w_fi ws (n_v vs 0) 8) (w_fi ws (n_v vs 0) 6) k3 k4 k10 k12 g0 g2 (shm_1840 f5) (shm_40 f7) kz_0_6 kz_0_8)⟩
  refine ⟨(fun _ h => (by cases h)), [], trivial, ?_, (fun _ h => (by cases h))⟩
  rw [List.append_nil]
  exact List.forall_mem_cons.mpr ⟨⟨show (20 : Nat) < 100 from by decide, nf0⟩, (fun _ h => (by cases h))⟩
set_option maxHeartbeats 4000000 in
theorem vc_Sy_compileValue_at_k2_4_0 (x3 : Int) (x4 : Int) (x6 : Int) (x7 : Int) (x8 : Int) (x9 : Int) (x10 : Int) (x11 : Int) (kind_0 : Int) (number_0 : Int) (k3 : 0 ≤ x3 ∧ x3 ≤ 127) (k4 : 40 ≤ x4 ∧ x4 ≤ 40) (k6 : 0 ≤ x6 ∧ x6 ≤ 43) (k7 : 3 ≤ x7 ∧ x7 ≤ 3) (k8 : (-1) ≤ x8 ∧ x8 ≤ (-1)) (k9 : 3 ≤ x9 ∧ x9 ≤ 3) (k10 : 1 ≤ x10 ∧ x10 ≤ 1) (k11 : 3 ≤ x11 ∧ x11 ≤ 3) (f0 : x3 ≠ x11) (g1 : x3 = kind_0) (f2 : x3 ≠ x9) (f3 : x6 ≠ x8) (f4 : x3 ≠ x7) (f5 : (kind_0 ≠ 3) ∨ (number_0 ≤ 9999)) (f7 : x3 ≠ x4) (kz_0_6 : 0 ≤ kind_0 ∧ kind_0 ≤ 127) (kz_0_8 : 0 ≤ number_0 ∧ number_0 ≤ 1000000) : (0 ≤ x10) ∧ ((0 ≤ x6) ∧ (((x10 * 65536) + x6) ≤ 851970)) := by
  first
    | omega
  
def o_Sy_compileValue_at_k2_4 : or_T := (108, 12, [(0, (2, 0, 0, [11])), (3, (0, 0, 127, [])), (4, (0, 40, 40, [])), (6, (0, 0, 43, [])), (7, (0, 3, 3, [])), (8, (0, -1, -1, [])), (9, (0, 3, 3, [])), (10, (0, 1, 1, [])), (11, (0, 3, 3, []))], [(7, [3, 11], [1]), (9, [3, 0], [6]), (7, [3, 9], [1]), (7, [6, 8], [1]), (7, [3, 7], [1]), (20, [0], [50, 2, 0, 6, 8, 3, 7, 7, 3, 2, 0, 6, 0, 3, 0, 3, 2, 0, 8, 0, 9999]), (102, [5], [0]), (7, [3, 4], [1])], [], [], [(20, [10, 6], [50, 0, 0, 2, 6, 0, 2, 0, 0, 1, 0, 2, 6, 0, 2, 0, 0, 1, 1, 0, 10, 4, 6, 6, 2, 1, 0, 0, 65536, 1, 1, 0, 851970])], [], [])
theorem oo_Sy_compileValue_at_k2_4 {kA : Nat → ClassId} : or_ok PRD kA GG o_Sy_compileValue_at_k2_4 := by
  refine or_mk fun A ta ws vs hD hth hl => ?_
  intro t0 r0 t3 k3 t4 k4 t6 k6 t7 k7 t8 k8 t9 k9 t10 k10 t11 k11 f0 f1 f2 f3 f4 f5 ta1 w1 le1 s1 f7
  replace f1 := shm_111 f1
  have g1 : v_iv (n_v vs 3) = w_fi ws (n_v vs 0) 6 := congrArg v_iv f1
  have kz_0_6 := fdq_313 hD hth r0
  have kz_0_8 := fdq_314 hD hth r0
  have nf0 : fc_1 PRD (20, [10, 6], [50, 0, 0, 2, 6, 0, 2, 0, 0, 1, 0, 2, 6, 0, 2, 0, 0, 1, 1, 0, 10, 4, 6, 6, 2, 1, 0, 0, 65536, 1, 1, 0, 851970]) ws (vs) := ⟨nf_in hl rfl, sgq_493 (vc_Sy_compileValue_at_k2_4_0 (v_iv (n_v vs 3)) (v_iv (n_v vs 4)) (v_iv (n_v vs 6)) (v_iv (n_v vs 7)) (v_iv (n_v vs 8)) (v_iv (n_v vs 9)) (v_iv (n_v vs 10)) (v_iv (n_v vs 11)) (w_fi ws (n_v vs 0) 6) (w_fi ws (n_v vs 0) 8) k3 k4 k6 k7 k8 k9 k10 k11 (shm_40 f0) g1 (shm_40 f2) (shm_40 f3) (shm_40 f4) (shm_1840 f5) (shm_40 f7) kz_0_6 kz_0_8)⟩
  refine ⟨(fun _ h => (by cases h)), [], trivial, ?_, (fun _ h => (by cases h))⟩
  rw [List.append_nil]
  exact List.forall_mem_cons.mpr ⟨⟨show (20 : Nat) < 100 from by decide, nf0⟩, (fun _ h => (by cases h))⟩
def n_Sy_compileValue_at_k2_an : List an_T := []
def t_Sy_compileValue_at_k2_ct : ct_L := [(1, 69, e_Sy_advance), (1, 118, e_Sy_fail), (1, 128, e_Sy_emit), (1, 152, e_Sy_closes), (91, 137, e_Sy_compileSum_at_k3), (169, 114, e_Sy_wordIn_at_s5007), (169, 114, e_Sy_wordIn_at_s5004)]
set_option maxRecDepth 100000 in
theorem c_Sy_compileValue_at_k2 {l : Launch} {D : va_G} {kA : Nat → ClassId} (h_Sy_advance : ct_ok PRD l D kA GG y_Sy_advance z_Sy_advance e_Sy_advance) (h_Sy_closes : ct_ok PRD l D kA GG y_Sy_closes z_Sy_closes e_Sy_closes) (h_Sy_compileSum_at_k3 : ct_ok PRD l D kA GG y_Sy_compileSum_at_k3 z_Sy_compileSum_at_k3 e_Sy_compileSum_at_k3) (h_Sy_emit : ct_ok PRD l D kA GG y_Sy_emit z_Sy_emit e_Sy_emit) (h_Sy_fail : ct_ok PRD l D kA GG y_Sy_fail z_Sy_fail e_Sy_fail) (h_Sy_wordIn_at_s5004 : ct_ok PRD l D kA GG y_Sy_wordIn_at_s5004 z_Sy_wordIn_at_s5004 e_Sy_wordIn_at_s5004) (h_Sy_wordIn_at_s5007 : ct_ok PRD l D kA GG y_Sy_wordIn_at_s5007 z_Sy_wordIn_at_s5007 e_Sy_wordIn_at_s5007) : ct_ok PRD l D kA GG y_Sy_compileValue_at_k2 z_Sy_compileValue_at_k2 e_Sy_compileValue_at_k2 := chk_all_ok (FT := [(31, 11, 6), (37, 11, 8), (42, 11, 9)]) (PT := []) (CT := t_Sy_compileValue_at_k2_ct) (KT := []) (NT := []) (AN := n_Sy_compileValue_at_k2_an) (OT := [o_Sy_compileValue_at_k2_0, o_Sy_compileValue_at_k2_1, o_Sy_compileValue_at_k2_2, o_Sy_compileValue_at_k2_3, o_Sy_compileValue_at_k2_4]) 0 684 (List.forall_mem_cons.mpr ⟨oo_Sy_compileValue_at_k2_0, List.forall_mem_cons.mpr ⟨oo_Sy_compileValue_at_k2_1, List.forall_mem_cons.mpr ⟨oo_Sy_compileValue_at_k2_2, List.forall_mem_cons.mpr ⟨oo_Sy_compileValue_at_k2_3, List.forall_mem_cons.mpr ⟨oo_Sy_compileValue_at_k2_4, List.forall_mem_nil _⟩⟩⟩⟩⟩) (by decide +kernel) ⟨List.forall_mem_cons.mpr ⟨gf_Sy_31, List.forall_mem_cons.mpr ⟨gf_Sy_37, List.forall_mem_cons.mpr ⟨gf_Sy_42, List.forall_mem_nil _⟩⟩⟩, List.forall_mem_nil _, List.forall_mem_cons.mpr ⟨cl_virtual (y := y_Sy_advance) (ci := 11) rfl rfl ⟨_, _, rfl⟩ (by decide +kernel) h_Sy_advance wm_2158 wm_23 wm_2155 wm_2157 wv_10_10 ⟨by decide, by decide, by decide +kernel⟩ (by decide), List.forall_mem_cons.mpr ⟨cl_virtual (y := y_Sy_fail) (ci := 11) rfl rfl ⟨_, _, rfl⟩ (by decide +kernel) h_Sy_fail wm_2239 wm_23 wm_2236 wm_2238 wv_10_14 ⟨by decide, by decide, by decide +kernel⟩ (by decide), List.forall_mem_cons.mpr ⟨cl_virtual (y := y_Sy_emit) (ci := 11) rfl rfl ⟨_, _, rfl⟩ (by decide +kernel) h_Sy_emit wm_2258 wm_23 wm_2255 wm_2257 wv_11_2 ⟨by decide, by decide, by decide +kernel⟩ (by decide), List.forall_mem_cons.mpr ⟨cl_virtual (y := y_Sy_closes) (ci := 11) rfl rfl ⟨_, _, rfl⟩ (by decide +kernel) h_Sy_closes wm_2262 wm_23 wm_2259 wm_2261 wv_11_3 ⟨by decide, by decide, by decide +kernel⟩ (by decide), List.forall_mem_cons.mpr ⟨cl_virtual (y := y_Sy_compileSum_at_k3) (ci := 11) rfl rfl ⟨_, _, rfl⟩ (by decide +kernel) h_Sy_compileSum_at_k3 wm_2266 wm_23 wm_2263 wm_2265 wv_11_4 ⟨by decide, by decide, by decide +kernel⟩ (by decide), List.forall_mem_cons.mpr ⟨cl_virtual (y := y_Sy_wordIn_at_s5007) (ci := 11) rfl rfl ⟨_, _, rfl⟩ (by decide +kernel) h_Sy_wordIn_at_s5007 wm_2229 wm_23 wm_2226 wm_2228 wv_10_12 ⟨by decide, by decide, by decide +kernel⟩ (by decide), List.forall_mem_cons.mpr ⟨cl_virtual (y := y_Sy_wordIn_at_s5004) (ci := 11) rfl rfl ⟨_, _, rfl⟩ (by decide +kernel) h_Sy_wordIn_at_s5004 wm_2229 wm_23 wm_2226 wm_2228 wv_10_12 ⟨by decide, by decide, by decide +kernel⟩ (by decide), List.forall_mem_nil _⟩⟩⟩⟩⟩⟩⟩, List.forall_mem_nil _, List.forall_mem_nil _, GG_pl⟩ (by decide +kernel)
set_option maxHeartbeats 4000000 in
theorem vc_Sy_compileValue_at_k3_0_0 (x3 : Int) (x4 : Int) (x9 : Int) (x11 : Int) (number_0 : Int) (kind_0 : Int) (k3 : 3 ≤ x3 ∧ x3 ≤ 3) (k4 : 40 ≤ x4 ∧ x4 ≤ 40) (k9 : 0 ≤ x9 ∧ x9 ≤ 0) (k11 : 0 ≤ x11 ∧ x11 ≤ 1000000) (g0 : x11 = number_0) (g2 : x3 = kind_0) (f5 : (kind_0 ≠ 3) ∨ (number_0 ≤ 9999)) (f7 : x3 ≠ x4) (kz_0_6 : 0 ≤ kind_0 ∧ kind_0 ≤ 127) (kz_0_8 : 0 ≤ number_0 ∧ number_0 ≤ 1000000) : (0 ≤ x9) ∧ ((0 ≤ x11) ∧ (((x9 * 65536) + x11) ≤ 851970)) := by
  first
    | omega
  
def o_Sy_compileValue_at_k3_0 : or_T := (108, 12, [(0, (2, 0, 0, [11])), (3, (0, 3, 3, [])), (4, (0, 40, 40, [])), (7, (0, 3, 3, [])), (8, (0, 3, 3, [])), (9, (0, 0, 0, [])), (10, (0, 3, 3, [])), (11, (0, 0, 1000000, []))], [(9, [11, 0], [8]), (7, [3, 10], [0]), (9, [3, 0], [6]), (7, [3, 8], [0]), (7, [3, 7], [0]), (20, [0], [50, 2, 0, 6, 8, 3, 7, 7, 3, 2, 0, 6, 0, 3, 0, 3, 2, 0, 8, 0, 9999]), (102, [5], [0]), (7, [3, 4], [1])], [], [], [(20, [9, 11], [50, 0, 0, 2, 6, 0, 2, 0, 0, 1, 0, 2, 6, 0, 2, 0, 0, 1, 1, 0, 10, 4, 6, 6, 2, 1, 0, 0, 65536, 1, 1, 0, 851970])], [], [])
theorem oo_Sy_compileValue_at_k3_0 {kA : Nat → ClassId} : or_ok PRD kA GG o_Sy_compileValue_at_k3_0 := by
  refine or_mk fun A ta ws vs hD hth hl => ?_
  intro t0 r0 t3 k3 t4 k4 t7 k7 t8 k8 t9 k9 t10 k10 t11 k11 f0 f1 f2 f3 f4 f5 ta1 w1 le1 s1 f7
  replace f0 := shm_293 f0
  replace f2 := shm_111 f2
  have g0 : v_iv (n_v vs 11) = w_fi ws (n_v vs 0) 8 := congrArg v_iv f0
  have g2 : v_iv (n_v vs 3) = w_fi ws (n_v vs 0) 6 := congrArg v_iv f2
  have kz_0_6 := fdq_313 hD hth r0
  have kz_0_8 := fdq_314 hD hth r0
  have nf0 : fc_1 PRD (20, [9, 11], [50, 0, 0, 2, 6, 0, 2, 0, 0, 1, 0, 2, 6, 0, 2, 0, 0, 1, 1, 0, 10, 4, 6, 6, 2, 1, 0, 0, 65536, 1, 1, 0, 851970]) ws (vs) := ⟨nf_in hl rfl, sgq_493 (vc_Sy_compileValue_at_k3_0_0 (v_iv (n_v vs 3)) (v_iv (n_v vs 4)) (v_iv (n_v vs 9)) (v_iv (n_v vs 11)) (w_fi ws (n_v vs 0) 8) (w_fi ws (n_v vs 0) 6) k3 k4 k9 k11 g0 g2 (shm_1840 f5) (shm_40 f7) kz_0_6 kz_0_8)⟩
  refine ⟨(fun _ h => (by cases h)), [], trivial, ?_, (fun _ h => (by cases h))⟩
  rw [List.append_nil]
  exact List.forall_mem_cons.mpr ⟨⟨show (20 : Nat) < 100 from by decide, nf0⟩, (fun _ h => (by cases h))⟩
set_option maxHeartbeats 4000000 in
theorem vc_Sy_compileValue_at_k3_1_0 (x3 : Int) (x4 : Int) (x6 : Int) (x7 : Int) (x8 : Int) (x9 : Int) (x10 : Int) (x11 : Int) (kind_0 : Int) (number_0 : Int) (k3 : 0 ≤ x3 ∧ x3 ≤ 127) (k4 : 40 ≤ x4 ∧ x4 ≤ 40) (k6 : 0 ≤ x6 ∧ x6 ≤ 38) (k7 : 3 ≤ x7 ∧ x7 ≤ 3) (k8 : (-1) ≤ x8 ∧ x8 ≤ (-1)) (k9 : 3 ≤ x9 ∧ x9 ≤ 3) (k10 : 1 ≤ x10 ∧ x10 ≤ 1) (k11 : 3 ≤ x11 ∧ x11 ≤ 3) (f0 : x3 ≠ x11) (g1 : x3 = kind_0) (f2 : x3 ≠ x9) (f3 : x6 ≠ x8) (f4 : x3 ≠ x7) (f5 : (kind_0 ≠ 3) ∨ (number_0 ≤ 9999)) (f7 : x3 ≠ x4) (kz_0_6 : 0 ≤ kind_0 ∧ kind_0 ≤ 127) (kz_0_8 : 0 ≤ number_0 ∧ number_0 ≤ 1000000) : (0 ≤ x10) ∧ ((0 ≤ x6) ∧ (((x10 * 65536) + x6) ≤ 851970)) := by
  first
    | omega
  
def o_Sy_compileValue_at_k3_1 : or_T := (108, 12, [(0, (2, 0, 0, [11])), (3, (0, 0, 127, [])), (4, (0, 40, 40, [])), (6, (0, 0, 38, [])), (7, (0, 3, 3, [])), (8, (0, -1, -1, [])), (9, (0, 3, 3, [])), (10, (0, 1, 1, [])), (11, (0, 3, 3, []))], [(7, [3, 11], [1]), (9, [3, 0], [6]), (7, [3, 9], [1]), (7, [6, 8], [1]), (7, [3, 7], [1]), (20, [0], [50, 2, 0, 6, 8, 3, 7, 7, 3, 2, 0, 6, 0, 3, 0, 3, 2, 0, 8, 0, 9999]), (102, [5], [0]), (7, [3, 4], [1])], [], [], [(20, [10, 6], [50, 0, 0, 2, 6, 0, 2, 0, 0, 1, 0, 2, 6, 0, 2, 0, 0, 1, 1, 0, 10, 4, 6, 6, 2, 1, 0, 0, 65536, 1, 1, 0, 851970])], [], [])
theorem oo_Sy_compileValue_at_k3_1 {kA : Nat → ClassId} : or_ok PRD kA GG o_Sy_compileValue_at_k3_1 := by
  refine or_mk fun A ta ws vs hD hth hl => ?_
  intro t0 r0 t3 k3 t4 k4 t6 k6 t7 k7 t8 k8 t9 k9 t10 k10 t11 k11 f0 f1 f2 f3 f4 f5 ta1 w1 le1 s1 f7
  replace f1 := shm_111 f1
  have g1 : v_iv (n_v vs 3) = w_fi ws (n_v vs 0) 6 := congrArg v_iv f1
  have kz_0_6 := fdq_313 hD hth r0
  have kz_0_8 := fdq_314 hD hth r0
  have nf0 : fc_1 PRD (20, [10, 6], [50, 0, 0, 2, 6, 0, 2, 0, 0, 1, 0, 2, 6, 0, 2, 0, 0, 1, 1, 0, 10, 4, 6, 6, 2, 1, 0, 0, 65536, 1, 1, 0, 851970]) ws (vs) := ⟨nf_in hl rfl, sgq_493 (vc_Sy_compileValue_at_k3_1_0 (v_iv (n_v vs 3)) (v_iv (n_v vs 4)) (v_iv (n_v vs 6)) (v_iv (n_v vs 7)) (v_iv (n_v vs 8)) (v_iv (n_v vs 9)) (v_iv (n_v vs 10)) (v_iv (n_v vs 11)) (w_fi ws (n_v vs 0) 6) (w_fi ws (n_v vs 0) 8) k3 k4 k6 k7 k8 k9 k10 k11 (shm_40 f0) g1 (shm_40 f2) (shm_40 f3) (shm_40 f4) (shm_1840 f5) (shm_40 f7) kz_0_6 kz_0_8)⟩
  refine ⟨(fun _ h => (by cases h)), [], trivial, ?_, (fun _ h => (by cases h))⟩
  rw [List.append_nil]
  exact List.forall_mem_cons.mpr ⟨⟨show (20 : Nat) < 100 from by decide, nf0⟩, (fun _ h => (by cases h))⟩
set_option maxHeartbeats 4000000 in
theorem vc_Sy_compileValue_at_k3_2_0 (x3 : Int) (x4 : Int) (x10 : Int) (x12 : Int) (number_0 : Int) (kind_0 : Int) (k3 : 3 ≤ x3 ∧ x3 ≤ 3) (k4 : 40 ≤ x4 ∧ x4 ≤ 40) (k10 : 1 ≤ x10 ∧ x10 ≤ 1) (k12 : 0 ≤ x12 ∧ x12 ≤ 1000000) (g0 : x12 = number_0) (g2 : x3 = kind_0) (f5 : (kind_0 ≠ 3) ∨ (number_0 ≤ 9999)) (f7 : x3 ≠ x4) (kz_0_6 : 0 ≤ kind_0 ∧ kind_0 ≤ 127) (kz_0_8 : 0 ≤ number_0 ∧ number_0 ≤ 1000000) : (0 ≤ x10) ∧ ((0 ≤ x12) ∧ (((x10 * 65536) + x12) ≤ 851970)) := by
  first
    | omega
  
def o_Sy_compileValue_at_k3_2 : or_T := (108, 13, [(0, (2, 0, 0, [11])), (3, (0, 3, 3, [])), (4, (0, 40, 40, [])), (7, (0, 3, 3, [])), (9, (0, 3, 3, [])), (10, (0, 1, 1, [])), (11, (0, 3, 3, [])), (12, (0, 0, 1000000, []))], [(9, [12, 0], [8]), (7, [3, 11], [0]), (9, [3, 0], [6]), (7, [3, 9], [1]), (7, [3, 7], [1]), (20, [0], [50, 2, 0, 6, 8, 3, 7, 7, 3, 2, 0, 6, 0, 3, 0, 3, 2, 0, 8, 0, 9999]), (102, [5], [0]), (7, [3, 4], [1])], [], [], [(20, [10, 12], [50, 0, 0, 2, 6, 0, 2, 0, 0, 1, 0, 2, 6, 0, 2, 0, 0, 1, 1, 0, 10, 4, 6, 6, 2, 1, 0, 0, 65536, 1, 1, 0, 851970])], [], [])
theorem oo_Sy_compileValue_at_k3_2 {kA : Nat → ClassId} : or_ok PRD kA GG o_Sy_compileValue_at_k3_2 := by
  refine or_mk fun A ta ws vs hD hth hl => ?_
  intro t0 r0 t3 k3 t4 k4 t7 k7 t9 k9 t10 k10 t11 k11 t12 k12 f0 f1 f2 f3 f4 f5 ta1 w1 le1 s1 f7
  replace f0 := shm_293 f0
  replace f2 := shm_111 f2
  have g0 : v_iv (n_v vs 12) = w_fi ws (n_v vs 0) 8 := congrArg v_iv f0
  have g2 : v_iv (n_v vs 3) = w_fi ws (n_v vs 0) 6 := congrArg v_iv f2
  have kz_0_6 := fdq_313 hD hth r0
  have kz_0_8 := fdq_314 hD hth r0
  have nf0 : fc_1 PRD (20, [10, 12], [50, 0, 0, 2, 6, 0, 2, 0, 0, 1, 0, 2, 6, 0, 2, 0, 0, 1, 1, 0, 10, 4, 6, 6, 2, 1, 0, 0, 65536, 1, 1, 0, 851970]) ws (vs) := ⟨nf_in hl rfl, sgq_493 (vc_Sy_compileValue_at_k3_2_0 (v_iv (n_v vs 3)) (v_iv (n_v vs 4)) (v_iv (n_v vs 10)) (v_iv (n_v vs 12)) (w_fi ws (n_v vs 0) 8) (w_fi ws (n_v vs 0) 6) k3 k4 k10 k12 g0 g2 (shm_1840 f5) (shm_40 f7) kz_0_6 kz_0_8)⟩
  refine ⟨(fun _ h => (by cases h)), [], trivial, ?_, (fun _ h => (by cases h))⟩
  rw [List.append_nil]
  exact List.forall_mem_cons.mpr ⟨⟨show (20 : Nat) < 100 from by decide, nf0⟩, (fun _ h => (by cases h))⟩
set_option maxHeartbeats 4000000 in
theorem vc_Sy_compileValue_at_k3_3_0 (x3 : Int) (x4 : Int) (x10 : Int) (x12 : Int) (number_0 : Int) (kind_0 : Int) (k3 : 3 ≤ x3 ∧ x3 ≤ 3) (k4 : 40 ≤ x4 ∧ x4 ≤ 40) (k10 : 0 ≤ x10 ∧ x10 ≤ 0) (k12 : 0 ≤ x12 ∧ x12 ≤ 1000000) (g0 : x12 = number_0) (g2 : x3 = kind_0) (f5 : (kind_0 ≠ 3) ∨ (number_0 ≤ 9999)) (f7 : x3 ≠ x4) (kz_0_6 : 0 ≤ kind_0 ∧ kind_0 ≤ 127) (kz_0_8 : 0 ≤ number_0 ∧ number_0 ≤ 1000000) : (0 ≤ x10) ∧ ((0 ≤ x12) ∧ (((x10 * 65536) + x12) ≤ 851970)) := by
  first
    | omega
  
def o_Sy_compileValue_at_k3_3 : or_T := (108, 13, [(0, (2, 0, 0, [11])), (3, (0, 3, 3, [])), (4, (0, 40, 40, [])), (7, (0, 3, 3, [])), (9, (0, 3, 3, [])), (10, (0, 0, 0, [])), (11, (0, 3, 3, [])), (12, (0, 0, 1000000, []))], [(9, [12, 0], [8]), (7, [3, 11], [0]), (9, [3, 0], [6]), (7, [3, 9], [0]), (7, [3, 7], [1]), (20, [0], [50, 2, 0, 6, 8, 3, 7, 7, 3, 2, 0, 6, 0, 3, 0, 3, 2, 0, 8, 0, 9999]), (102, [5], [0]), (7, [3, 4], [1])], [], [], [(20, [10, 12], [50, 0, 0, 2, 6, 0, 2, 0, 0, 1, 0, 2, 6, 0, 2, 0, 0, 1, 1, 0, 10, 4, 6, 6, 2, 1, 0, 0, 65536, 1, 1, 0, 851970])], [], [])
theorem oo_Sy_compileValue_at_k3_3 {kA : Nat → ClassId} : or_ok PRD kA GG o_Sy_compileValue_at_k3_3 := by
  refine or_mk fun A ta ws vs hD hth hl => ?_
  intro t0 r0 t3 k3 t4 k4 t7 k7 t9 k9 t10 k10 t11 k11 t12 k12 f0 f1 f2 f3 f4 f5 ta1 w1 le1 s1 f7
  replace f0 := shm_293 f0
  replace f2 := shm_111 f2
  have g0 : v_iv (n_v vs 12) = w_fi ws (n_v vs 0) 8 := congrArg v_iv f0
  have g2 : v_iv (n_v vs 3) = w_fi ws (n_v vs 0) 6 := congrArg v_iv f2
  have kz_0_6 := fdq_313 hD hth r0
  have kz_0_8 := fdq_314 hD hth r0
  have nf0 : fc_1 PRD (20, [10, 12], [50, 0, 0, 2, 6, 0, 2, 0, 0, 1, 0, 2, 6, 0, 2, 0, 0, 1, 1, 0, 10, 4, 6, 6, 2, 1, 0, 0, 65536, 1, 1, 0, 851970]) ws (vs) := ⟨nf_in hl rfl, sgq_493 (vc_Sy_compileValue_at_k3_3_0 (v_iv (n_v vs 3)) (v_iv (n_v vs 4)) (v_iv (n_v vs 10)) (v_iv (n_v vs 12)) (w_fi ws (n_v vs 0) 8) (w_fi ws (n_v vs 0) 6) k3 k4 k10 k12 g0 g2 (shm_1840 f5) (shm_40 f7) kz_0_6 kz_0_8)⟩
  refine ⟨(fun _ h => (by cases h)), [], trivial, ?_, (fun _ h => (by cases h))⟩
  rw [List.append_nil]
  exact List.forall_mem_cons.mpr ⟨⟨show (20 : Nat) < 100 from by decide, nf0⟩, (fun _ h => (by cases h))⟩
set_option maxHeartbeats 4000000 in
theorem vc_Sy_compileValue_at_k3_4_0 (x3 : Int) (x4 : Int) (x6 : Int) (x7 : Int) (x8 : Int) (x9 : Int) (x10 : Int) (x11 : Int) (kind_0 : Int) (number_0 : Int) (k3 : 0 ≤ x3 ∧ x3 ≤ 127) (k4 : 40 ≤ x4 ∧ x4 ≤ 40) (k6 : 0 ≤ x6 ∧ x6 ≤ 43) (k7 : 3 ≤ x7 ∧ x7 ≤ 3) (k8 : (-1) ≤ x8 ∧ x8 ≤ (-1)) (k9 : 3 ≤ x9 ∧ x9 ≤ 3) (k10 : 1 ≤ x10 ∧ x10 ≤ 1) (k11 : 3 ≤ x11 ∧ x11 ≤ 3) (f0 : x3 ≠ x11) (g1 : x3 = kind_0) (f2 : x3 ≠ x9) (f3 : x6 ≠ x8) (f4 : x3 ≠ x7) (f5 : (kind_0 ≠ 3) ∨ (number_0 ≤ 9999)) (f7 : x3 ≠ x4) (kz_0_6 : 0 ≤ kind_0 ∧ kind_0 ≤ 127) (kz_0_8 : 0 ≤ number_0 ∧ number_0 ≤ 1000000) : (0 ≤ x10) ∧ ((0 ≤ x6) ∧ (((x10 * 65536) + x6) ≤ 851970)) := by
  first
    | omega
  
def o_Sy_compileValue_at_k3_4 : or_T := (108, 12, [(0, (2, 0, 0, [11])), (3, (0, 0, 127, [])), (4, (0, 40, 40, [])), (6, (0, 0, 43, [])), (7, (0, 3, 3, [])), (8, (0, -1, -1, [])), (9, (0, 3, 3, [])), (10, (0, 1, 1, [])), (11, (0, 3, 3, []))], [(7, [3, 11], [1]), (9, [3, 0], [6]), (7, [3, 9], [1]), (7, [6, 8], [1]), (7, [3, 7], [1]), (20, [0], [50, 2, 0, 6, 8, 3, 7, 7, 3, 2, 0, 6, 0, 3, 0, 3, 2, 0, 8, 0, 9999]), (102, [5], [0]), (7, [3, 4], [1])], [], [], [(20, [10, 6], [50, 0, 0, 2, 6, 0, 2, 0, 0, 1, 0, 2, 6, 0, 2, 0, 0, 1, 1, 0, 10, 4, 6, 6, 2, 1, 0, 0, 65536, 1, 1, 0, 851970])], [], [])
theorem oo_Sy_compileValue_at_k3_4 {kA : Nat → ClassId} : or_ok PRD kA GG o_Sy_compileValue_at_k3_4 := by
  refine or_mk fun A ta ws vs hD hth hl => ?_
  intro t0 r0 t3 k3 t4 k4 t6 k6 t7 k7 t8 k8 t9 k9 t10 k10 t11 k11 f0 f1 f2 f3 f4 f5 ta1 w1 le1 s1 f7
  replace f1 := shm_111 f1
  have g1 : v_iv (n_v vs 3) = w_fi ws (n_v vs 0) 6 := congrArg v_iv f1
  have kz_0_6 := fdq_313 hD hth r0
  have kz_0_8 := fdq_314 hD hth r0
  have nf0 : fc_1 PRD (20, [10, 6], [50, 0, 0, 2, 6, 0, 2, 0, 0, 1, 0, 2, 6, 0, 2, 0, 0, 1, 1, 0, 10, 4, 6, 6, 2, 1, 0, 0, 65536, 1, 1, 0, 851970]) ws (vs) := ⟨nf_in hl rfl, sgq_493 (vc_Sy_compileValue_at_k3_4_0 (v_iv (n_v vs 3)) (v_iv (n_v vs 4)) (v_iv (n_v vs 6)) (v_iv (n_v vs 7)) (v_iv (n_v vs 8)) (v_iv (n_v vs 9)) (v_iv (n_v vs 10)) (v_iv (n_v vs 11)) (w_fi ws (n_v vs 0) 6) (w_fi ws (n_v vs 0) 8) k3 k4 k6 k7 k8 k9 k10 k11 (shm_40 f0) g1 (shm_40 f2) (shm_40 f3) (shm_40 f4) (shm_1840 f5) (shm_40 f7) kz_0_6 kz_0_8)⟩
  refine ⟨(fun _ h => (by cases h)), [], trivial, ?_, (fun _ h => (by cases h))⟩
  rw [List.append_nil]
  exact List.forall_mem_cons.mpr ⟨⟨show (20 : Nat) < 100 from by decide, nf0⟩, (fun _ h => (by cases h))⟩
def n_Sy_compileValue_at_k3_an : List an_T := []
def t_Sy_compileValue_at_k3_ct : ct_L := [(1, 69, e_Sy_advance), (1, 118, e_Sy_fail), (1, 128, e_Sy_emit), (1, 152, e_Sy_closes), (91, 137, e_Sy_compileSum_at_k4), (169, 114, e_Sy_wordIn_at_s5007), (169, 114, e_Sy_wordIn_at_s5004)]
set_option maxRecDepth 100000 in
theorem c_Sy_compileValue_at_k3 {l : Launch} {D : va_G} {kA : Nat → ClassId} (h_Sy_advance : ct_ok PRD l D kA GG y_Sy_advance z_Sy_advance e_Sy_advance) (h_Sy_closes : ct_ok PRD l D kA GG y_Sy_closes z_Sy_closes e_Sy_closes) (h_Sy_compileSum_at_k4 : ct_ok PRD l D kA GG y_Sy_compileSum_at_k4 z_Sy_compileSum_at_k4 e_Sy_compileSum_at_k4) (h_Sy_emit : ct_ok PRD l D kA GG y_Sy_emit z_Sy_emit e_Sy_emit) (h_Sy_fail : ct_ok PRD l D kA GG y_Sy_fail z_Sy_fail e_Sy_fail) (h_Sy_wordIn_at_s5004 : ct_ok PRD l D kA GG y_Sy_wordIn_at_s5004 z_Sy_wordIn_at_s5004 e_Sy_wordIn_at_s5004) (h_Sy_wordIn_at_s5007 : ct_ok PRD l D kA GG y_Sy_wordIn_at_s5007 z_Sy_wordIn_at_s5007 e_Sy_wordIn_at_s5007) : ct_ok PRD l D kA GG y_Sy_compileValue_at_k3 z_Sy_compileValue_at_k3 e_Sy_compileValue_at_k3 := chk_all_ok (FT := [(31, 11, 6), (37, 11, 8), (42, 11, 9)]) (PT := []) (CT := t_Sy_compileValue_at_k3_ct) (KT := []) (NT := []) (AN := n_Sy_compileValue_at_k3_an) (OT := [o_Sy_compileValue_at_k3_0, o_Sy_compileValue_at_k3_1, o_Sy_compileValue_at_k3_2, o_Sy_compileValue_at_k3_3, o_Sy_compileValue_at_k3_4]) 0 684 (List.forall_mem_cons.mpr ⟨oo_Sy_compileValue_at_k3_0, List.forall_mem_cons.mpr ⟨oo_Sy_compileValue_at_k3_1, List.forall_mem_cons.mpr ⟨oo_Sy_compileValue_at_k3_2, List.forall_mem_cons.mpr ⟨oo_Sy_compileValue_at_k3_3, List.forall_mem_cons.mpr ⟨oo_Sy_compileValue_at_k3_4, List.forall_mem_nil _⟩⟩⟩⟩⟩) (by decide +kernel) ⟨List.forall_mem_cons.mpr ⟨gf_Sy_31, List.forall_mem_cons.mpr ⟨gf_Sy_37, List.forall_mem_cons.mpr ⟨gf_Sy_42, List.forall_mem_nil _⟩⟩⟩, List.forall_mem_nil _, List.forall_mem_cons.mpr ⟨cl_virtual (y := y_Sy_advance) (ci := 11) rfl rfl ⟨_, _, rfl⟩ (by decide +kernel) h_Sy_advance wm_2158 wm_23 wm_2155 wm_2157 wv_10_10 ⟨by decide, by decide, by decide +kernel⟩ (by decide), List.forall_mem_cons.mpr ⟨cl_virtual (y := y_Sy_fail) (ci := 11) rfl rfl ⟨_, _, rfl⟩ (by decide +kernel) h_Sy_fail wm_2239 wm_23 wm_2236 wm_2238 wv_10_14 ⟨by decide, by decide, by decide +kernel⟩ (by decide), List.forall_mem_cons.mpr ⟨cl_virtual (y := y_Sy_emit) (ci := 11) rfl rfl ⟨_, _, rfl⟩ (by decide +kernel) h_Sy_emit wm_2258 wm_23 wm_2255 wm_2257 wv_11_2 ⟨by decide, by decide, by decide +kernel⟩ (by decide), List.forall_mem_cons.mpr ⟨cl_virtual (y := y_Sy_closes) (ci := 11) rfl rfl ⟨_, _, rfl⟩ (by decide +kernel) h_Sy_closes wm_2262 wm_23 wm_2259 wm_2261 wv_11_3 ⟨by decide, by decide, by decide +kernel⟩ (by decide), List.forall_mem_cons.mpr ⟨cl_virtual (y := y_Sy_compileSum_at_k4) (ci := 11) rfl rfl ⟨_, _, rfl⟩ (by decide +kernel) h_Sy_compileSum_at_k4 wm_2266 wm_23 wm_2263 wm_2265 wv_11_4 ⟨by decide, by decide, by decide +kernel⟩ (by decide), List.forall_mem_cons.mpr ⟨cl_virtual (y := y_Sy_wordIn_at_s5007) (ci := 11) rfl rfl ⟨_, _, rfl⟩ (by decide +kernel) h_Sy_wordIn_at_s5007 wm_2229 wm_23 wm_2226 wm_2228 wv_10_12 ⟨by decide, by decide, by decide +kernel⟩ (by decide), List.forall_mem_cons.mpr ⟨cl_virtual (y := y_Sy_wordIn_at_s5004) (ci := 11) rfl rfl ⟨_, _, rfl⟩ (by decide +kernel) h_Sy_wordIn_at_s5004 wm_2229 wm_23 wm_2226 wm_2228 wv_10_12 ⟨by decide, by decide, by decide +kernel⟩ (by decide), List.forall_mem_nil _⟩⟩⟩⟩⟩⟩⟩, List.forall_mem_nil _, List.forall_mem_nil _, GG_pl⟩ (by decide +kernel)
set_option maxHeartbeats 4000000 in
theorem vc_Sy_compileValue_at_k4_0_0 (x3 : Int) (x4 : Int) (x9 : Int) (x11 : Int) (number_0 : Int) (kind_0 : Int) (k3 : 3 ≤ x3 ∧ x3 ≤ 3) (k4 : 40 ≤ x4 ∧ x4 ≤ 40) (k9 : 0 ≤ x9 ∧ x9 ≤ 0) (k11 : 0 ≤ x11 ∧ x11 ≤ 1000000) (g0 : x11 = number_0) (g2 : x3 = kind_0) (f5 : (kind_0 ≠ 3) ∨ (number_0 ≤ 9999)) (f7 : x3 ≠ x4) (kz_0_6 : 0 ≤ kind_0 ∧ kind_0 ≤ 127) (kz_0_8 : 0 ≤ number_0 ∧ number_0 ≤ 1000000) : (0 ≤ x9) ∧ ((0 ≤ x11) ∧ (((x9 * 65536) + x11) ≤ 851970)) := by
  first
    | omega
  
def o_Sy_compileValue_at_k4_0 : or_T := (108, 12, [(0, (2, 0, 0, [11])), (3, (0, 3, 3, [])), (4, (0, 40, 40, [])), (7, (0, 3, 3, [])), (8, (0, 3, 3, [])), (9, (0, 0, 0, [])), (10, (0, 3, 3, [])), (11, (0, 0, 1000000, []))], [(9, [11, 0], [8]), (7, [3, 10], [0]), (9, [3, 0], [6]), (7, [3, 8], [0]), (7, [3, 7], [0]), (20, [0], [50, 2, 0, 6, 8, 3, 7, 7, 3, 2, 0, 6, 0, 3, 0, 3, 2, 0, 8, 0, 9999]), (102, [5], [0]), (7, [3, 4], [1])], [], [], [(20, [9, 11], [50, 0, 0, 2, 6, 0, 2, 0, 0, 1, 0, 2, 6, 0, 2, 0, 0, 1, 1, 0, 10, 4, 6, 6, 2, 1, 0, 0, 65536, 1, 1, 0, 851970])], [], [])
theorem oo_Sy_compileValue_at_k4_0 {kA : Nat → ClassId} : or_ok PRD kA GG o_Sy_compileValue_at_k4_0 := by
  refine or_mk fun A ta ws vs hD hth hl => ?_
  intro t0 r0 t3 k3 t4 k4 t7 k7 t8 k8 t9 k9 t10 k10 t11 k11 f0 f1 f2 f3 f4 f5 ta1 w1 le1 s1 f7
  replace f0 := shm_293 f0
  replace f2 := shm_111 f2
  have g0 : v_iv (n_v vs 11) = w_fi ws (n_v vs 0) 8 := congrArg v_iv f0
  have g2 : v_iv (n_v vs 3) = w_fi ws (n_v vs 0) 6 := congrArg v_iv f2
  have kz_0_6 := fdq_313 hD hth r0
  have kz_0_8 := fdq_314 hD hth r0
  have nf0 : fc_1 PRD (20, [9, 11], [50, 0, 0, 2, 6, 0, 2, 0, 0, 1, 0, 2, 6, 0, 2, 0, 0, 1, 1, 0, 10, 4, 6, 6, 2, 1, 0, 0, 65536, 1, 1, 0, 851970]) ws (vs) := ⟨nf_in hl rfl, sgq_493 (vc_Sy_compileValue_at_k4_0_0 (v_iv (n_v vs 3)) (v_iv (n_v vs 4)) (v_iv (n_v vs 9)) (v_iv (n_v vs 11)) (w_fi ws (n_v vs 0) 8) (w_fi ws (n_v vs 0) 6) k3 k4 k9 k11 g0 g2 (shm_1840 f5) (shm_40 f7) kz_0_6 kz_0_8)⟩
  refine ⟨(fun _ h => (by cases h)), [], trivial, ?_, (fun _ h => (by cases h))⟩
  rw [List.append_nil]
  exact List.forall_mem_cons.mpr ⟨⟨show (20 : Nat) < 100 from by decide, nf0⟩, (fun _ h => (by cases h))⟩
set_option maxHeartbeats 4000000 in
theorem vc_Sy_compileValue_at_k4_1_0 (x3 : Int) (x4 : Int) (x6 : Int) (x7 : Int) (x8 : Int) (x9 : Int) (x10 : Int) (x11 : Int) (kind_0 : Int) (number_0 : Int) (k3 : 0 ≤ x3 ∧ x3 ≤ 127) (k4 : 40 ≤ x4 ∧ x4 ≤ 40) (k6 : 0 ≤ x6 ∧ x6 ≤ 38) (k7 : 3 ≤ x7 ∧ x7 ≤ 3) (k8 : (-1) ≤ x8 ∧ x8 ≤ (-1)) (k9 : 3 ≤ x9 ∧ x9 ≤ 3) (k10 : 1 ≤ x10 ∧ x10 ≤ 1) (k11 : 3 ≤ x11 ∧ x11 ≤ 3) (f0 : x3 ≠ x11) (g1 : x3 = kind_0) (f2 : x3 ≠ x9) (f3 : x6 ≠ x8) (f4 : x3 ≠ x7) (f5 : (kind_0 ≠ 3) ∨ (number_0 ≤ 9999)) (f7 : x3 ≠ x4) (kz_0_6 : 0 ≤ kind_0 ∧ kind_0 ≤ 127) (kz_0_8 : 0 ≤ number_0 ∧ number_0 ≤ 1000000) : (0 ≤ x10) ∧ ((0 ≤ x6) ∧ (((x10 * 65536) + x6) ≤ 851970)) := by
  first
    | omega
  
def o_Sy_compileValue_at_k4_1 : or_T := (108, 12, [(0, (2, 0, 0, [11])), (3, (0, 0, 127, [])), (4, (0, 40, 40, [])), (6, (0, 0, 38, [])), (7, (0, 3, 3, [])), (8, (0, -1, -1, [])), (9, (0, 3, 3, [])), (10, (0, 1, 1, [])), (11, (0, 3, 3, []))], [(7, [3, 11], [1]), (9, [3, 0], [6]), (7, [3, 9], [1]), (7, [6, 8], [1]), (7, [3, 7], [1]), (20, [0], [50, 2, 0, 6, 8, 3, 7, 7, 3, 2, 0, 6, 0, 3, 0, 3, 2, 0, 8, 0, 9999]), (102, [5], [0]), (7, [3, 4], [1])], [], [], [(20, [10, 6], [50, 0, 0, 2, 6, 0, 2, 0, 0, 1, 0, 2, 6, 0, 2, 0, 0, 1, 1, 0, 10, 4, 6, 6, 2, 1, 0, 0, 65536, 1, 1, 0, 851970])], [], [])
theorem oo_Sy_compileValue_at_k4_1 {kA : Nat → ClassId} : or_ok PRD kA GG o_Sy_compileValue_at_k4_1 := by
  refine or_mk fun A ta ws vs hD hth hl => ?_
  intro t0 r0 t3 k3 t4 k4 t6 k6 t7 k7 t8 k8 t9 k9 t10 k10 t11 k11 f0 f1 f2 f3 f4 f5 ta1 w1 le1 s1 f7
  replace f1 := shm_111 f1
  have g1 : v_iv (n_v vs 3) = w_fi ws (n_v vs 0) 6 := congrArg v_iv f1
  have kz_0_6 := fdq_313 hD hth r0
  have kz_0_8 := fdq_314 hD hth r0
  have nf0 : fc_1 PRD (20, [10, 6], [50, 0, 0, 2, 6, 0, 2, 0, 0, 1, 0, 2, 6, 0, 2, 0, 0, 1, 1, 0, 10, 4, 6, 6, 2, 1, 0, 0, 65536, 1, 1, 0, 851970]) ws (vs) := ⟨nf_in hl rfl, sgq_493 (vc_Sy_compileValue_at_k4_1_0 (v_iv (n_v vs 3)) (v_iv (n_v vs 4)) (v_iv (n_v vs 6)) (v_iv (n_v vs 7)) (v_iv (n_v vs 8)) (v_iv (n_v vs 9)) (v_iv (n_v vs 10)) (v_iv (n_v vs 11)) (w_fi ws (n_v vs 0) 6) (w_fi ws (n_v vs 0) 8) k3 k4 k6 k7 k8 k9 k10 k11 (shm_40 f0) g1 (shm_40 f2) (shm_40 f3) (shm_40 f4) (shm_1840 f5) (shm_40 f7) kz_0_6 kz_0_8)⟩
  refine ⟨(fun _ h => (by cases h)), [], trivial, ?_, (fun _ h => (by cases h))⟩
  rw [List.append_nil]
  exact List.forall_mem_cons.mpr ⟨⟨show (20 : Nat) < 100 from by decide, nf0⟩, (fun _ h => (by cases h))⟩
set_option maxHeartbeats 4000000 in
theorem vc_Sy_compileValue_at_k4_2_0 (x3 : Int) (x4 : Int) (x10 : Int) (x12 : Int) (number_0 : Int) (kind_0 : Int) (k3 : 3 ≤ x3 ∧ x3 ≤ 3) (k4 : 40 ≤ x4 ∧ x4 ≤ 40) (k10 : 1 ≤ x10 ∧ x10 ≤ 1) (k12 : 0 ≤ x12 ∧ x12 ≤ 1000000) (g0 : x12 = number_0) (g2 : x3 = kind_0) (f5 : (kind_0 ≠ 3) ∨ (number_0 ≤ 9999)) (f7 : x3 ≠ x4) (kz_0_6 : 0 ≤ kind_0 ∧ kind_0 ≤ 127) (kz_0_8 : 0 ≤ number_0 ∧ number_0 ≤ 1000000) : (0 ≤ x10) ∧ ((0 ≤ x12) ∧ (((x10 * 65536) + x12) ≤ 851970)) := by
  first
    | omega
  
def o_Sy_compileValue_at_k4_2 : or_T := (108, 13, [(0, (2, 0, 0, [11])), (3, (0, 3, 3, [])), (4, (0, 40, 40, [])), (7, (0, 3, 3, [])), (9, (0, 3, 3, [])), (10, (0, 1, 1, [])), (11, (0, 3, 3, [])), (12, (0, 0, 1000000, []))], [(9, [12, 0], [8]), (7, [3, 11], [0]), (9, [3, 0], [6]), (7, [3, 9], [1]), (7, [3, 7], [1]), (20, [0], [50, 2, 0, 6, 8, 3, 7, 7, 3, 2, 0, 6, 0, 3, 0, 3, 2, 0, 8, 0, 9999]), (102, [5], [0]), (7, [3, 4], [1])], [], [], [(20, [10, 12], [50, 0, 0, 2, 6, 0, 2, 0, 0, 1, 0, 2, 6, 0, 2, 0, 0, 1, 1, 0, 10, 4, 6, 6, 2, 1, 0, 0, 65536, 1, 1, 0, 851970])], [], [])
theorem oo_Sy_compileValue_at_k4_2 {kA : Nat → ClassId} : or_ok PRD kA GG o_Sy_compileValue_at_k4_2 := by
  refine or_mk fun A ta ws vs hD hth hl => ?_
  intro t0 r0 t3 k3 t4 k4 t7 k7 t9 k9 t10 k10 t11 k11 t12 k12 f0 f1 f2 f3 f4 f5 ta1 w1 le1 s1 f7
  replace f0 := shm_293 f0
  replace f2 := shm_111 f2
  have g0 : v_iv (n_v vs 12) = w_fi ws (n_v vs 0) 8 := congrArg v_iv f0
  have g2 : v_iv (n_v vs 3) = w_fi ws (n_v vs 0) 6 := congrArg v_iv f2
  have kz_0_6 := fdq_313 hD hth r0
  have kz_0_8 := fdq_314 hD hth r0
  have nf0 : fc_1 PRD (20, [10, 12], [50, 0, 0, 2, 6, 0, 2, 0, 0, 1, 0, 2, 6, 0, 2, 0, 0, 1, 1, 0, 10, 4, 6, 6, 2, 1, 0, 0, 65536, 1, 1, 0, 851970]) ws (vs) := ⟨nf_in hl rfl, sgq_493 (vc_Sy_compileValue_at_k4_2_0 (v_iv (n_v vs 3)) (v_iv (n_v vs 4)) (v_iv (n_v vs 10)) (v_iv (n_v vs 12)) (w_fi ws (n_v vs 0) 8) (w_fi ws (n_v vs 0) 6) k3 k4 k10 k12 g0 g2 (shm_1840 f5) (shm_40 f7) kz_0_6 kz_0_8)⟩
  refine ⟨(fun _ h => (by cases h)), [], trivial, ?_, (fun _ h => (by cases h))⟩
  rw [List.append_nil]
  exact List.forall_mem_cons.mpr ⟨⟨show (20 : Nat) < 100 from by decide, nf0⟩, (fun _ h => (by cases h))⟩
set_option maxHeartbeats 4000000 in
theorem vc_Sy_compileValue_at_k4_3_0 (x3 : Int) (x4 : Int) (x10 : Int) (x12 : Int) (number_0 : Int) (kind_0 : Int) (k3 : 3 ≤ x3 ∧ x3 ≤ 3) (k4 : 40 ≤ x4 ∧ x4 ≤ 40) (k10 : 0 ≤ x10 ∧ x10 ≤ 0) (k12 : 0 ≤ x12 ∧ x12 ≤ 1000000) (g0 : x12 = number_0) (g2 : x3 = kind_0) (f5 : (kind_0 ≠ 3) ∨ (number_0 ≤ 9999)) (f7 : x3 ≠ x4) (kz_0_6 : 0 ≤ kind_0 ∧ kind_0 ≤ 127) (kz_0_8 : 0 ≤ number_0 ∧ number_0 ≤ 1000000) : (0 ≤ x10) ∧ ((0 ≤ x12) ∧ (((x10 * 65536) + x12) ≤ 851970)) := by
  first
    | omega
  
def o_Sy_compileValue_at_k4_3 : or_T := (108, 13, [(0, (2, 0, 0, [11])), (3, (0, 3, 3, [])), (4, (0, 40, 40, [])), (7, (0, 3, 3, [])), (9, (0, 3, 3, [])), (10, (0, 0, 0, [])), (11, (0, 3, 3, [])), (12, (0, 0, 1000000, []))], [(9, [12, 0], [8]), (7, [3, 11], [0]), (9, [3, 0], [6]), (7, [3, 9], [0]), (7, [3, 7], [1]), (20, [0], [50, 2, 0, 6, 8, 3, 7, 7, 3, 2, 0, 6, 0, 3, 0, 3, 2, 0, 8, 0, 9999]), (102, [5], [0]), (7, [3, 4], [1])], [], [], [(20, [10, 12], [50, 0, 0, 2, 6, 0, 2, 0, 0, 1, 0, 2, 6, 0, 2, 0, 0, 1, 1, 0, 10, 4, 6, 6, 2, 1, 0, 0, 65536, 1, 1, 0, 851970])], [], [])
theorem oo_Sy_compileValue_at_k4_3 {kA : Nat → ClassId} : or_ok PRD kA GG o_Sy_compileValue_at_k4_3 := by
  refine or_mk fun A ta ws vs hD hth hl => ?_
  intro t0 r0 t3 k3 t4 k4 t7 k7 t9 k9 t10 k10 t11 k11 t12 k12 f0 f1 f2 f3 f4 f5 ta1 w1 le1 s1 f7
  replace f0 := shm_293 f0
  replace f2 := shm_111 f2
  have g0 : v_iv (n_v vs 12) = w_fi ws (n_v vs 0) 8 := congrArg v_iv f0
  have g2 : v_iv (n_v vs 3) = w_fi ws (n_v vs 0) 6 := congrArg v_iv f2
  have kz_0_6 := fdq_313 hD hth r0
  have kz_0_8 := fdq_314 hD hth r0
  have nf0 : fc_1 PRD (20, [10, 12], [50, 0, 0, 2, 6, 0, 2, 0, 0, 1, 0, 2, 6, 0, 2, 0, 0, 1, 1, 0, 10, 4, 6, 6, 2, 1, 0, 0, 65536, 1, 1, 0, 851970]) ws (vs) := ⟨nf_in hl rfl, sgq_493 (vc_Sy_compileValue_at_k4_3_0 (v_iv (n_v vs 3)) (v_iv (n_v vs 4)) (v_iv (n_v vs 10)) (v_iv (n_v vs 12)) (w_fi ws (n_v vs 0) 8) (w_fi ws (n_v vs 0) 6) k3 k4 k10 k12 g0 g2 (shm_1840 f5) (shm_40 f7) kz_0_6 kz_0_8)⟩
  refine ⟨(fun _ h => (by cases h)), [], trivial, ?_, (fun _ h => (by cases h))⟩
  rw [List.append_nil]
  exact List.forall_mem_cons.mpr ⟨⟨show (20 : Nat) < 100 from by decide, nf0⟩, (fun _ h => (by cases h))⟩
set_option maxHeartbeats 4000000 in
theorem vc_Sy_compileValue_at_k4_4_0 (x3 : Int) (x4 : Int) (x6 : Int) (x7 : Int) (x8 : Int) (x9 : Int) (x10 : Int) (x11 : Int) (kind_0 : Int) (number_0 : Int) (k3 : 0 ≤ x3 ∧ x3 ≤ 127) (k4 : 40 ≤ x4 ∧ x4 ≤ 40) (k6 : 0 ≤ x6 ∧ x6 ≤ 43) (k7 : 3 ≤ x7 ∧ x7 ≤ 3) (k8 : (-1) ≤ x8 ∧ x8 ≤ (-1)) (k9 : 3 ≤ x9 ∧ x9 ≤ 3) (k10 : 1 ≤ x10 ∧ x10 ≤ 1) (k11 : 3 ≤ x11 ∧ x11 ≤ 3) (f0 : x3 ≠ x11) (g1 : x3 = kind_0) (f2 : x3 ≠ x9) (f3 : x6 ≠ x8) (f4 : x3 ≠ x7) (f5 : (kind_0 ≠ 3) ∨ (number_0 ≤ 9999)) (f7 : x3 ≠ x4) (kz_0_6 : 0 ≤ kind_0 ∧ kind_0 ≤ 127) (kz_0_8 : 0 ≤ number_0 ∧ number_0 ≤ 1000000) : (0 ≤ x10) ∧ ((0 ≤ x6) ∧ (((x10 * 65536) + x6) ≤ 851970)) := by
  first
    | omega
  
def o_Sy_compileValue_at_k4_4 : or_T := (108, 12, [(0, (2, 0, 0, [11])), (3, (0, 0, 127, [])), (4, (0, 40, 40, [])), (6, (0, 0, 43, [])), (7, (0, 3, 3, [])), (8, (0, -1, -1, [])), (9, (0, 3, 3, [])), (10, (0, 1, 1, [])), (11, (0, 3, 3, []))], [(7, [3, 11], [1]), (9, [3, 0], [6]), (7, [3, 9], [1]), (7, [6, 8], [1]), (7, [3, 7], [1]), (20, [0], [50, 2, 0, 6, 8, 3, 7, 7, 3, 2, 0, 6, 0, 3, 0, 3, 2, 0, 8, 0, 9999]), (102, [5], [0]), (7, [3, 4], [1])], [], [], [(20, [10, 6], [50, 0, 0, 2, 6, 0, 2, 0, 0, 1, 0, 2, 6, 0, 2, 0, 0, 1, 1, 0, 10, 4, 6, 6, 2, 1, 0, 0, 65536, 1, 1, 0, 851970])], [], [])
theorem oo_Sy_compileValue_at_k4_4 {kA : Nat → ClassId} : or_ok PRD kA GG o_Sy_compileValue_at_k4_4 := by
  refine or_mk fun A ta ws vs hD hth hl => ?_
  intro t0 r0 t3 k3 t4 k4 t6 k6 t7 k7 t8 k8 t9 k9 t10 k10 t11 k11 f0 f1 f2 f3 f4 f5 ta1 w1 le1 s1 f7
  replace f1 := shm_111 f1
  have g1 : v_iv (n_v vs 3) = w_fi ws (n_v vs 0) 6 := congrArg v_iv f1
  have kz_0_6 := fdq_313 hD hth r0
  have kz_0_8 := fdq_314 hD hth r0
  have nf0 : fc_1 PRD (20, [10, 6], [50, 0, 0, 2, 6, 0, 2, 0, 0, 1, 0, 2, 6, 0, 2, 0, 0, 1, 1, 0, 10, 4, 6, 6, 2, 1, 0, 0, 65536, 1, 1, 0, 851970]) ws (vs) := ⟨nf_in hl rfl, sgq_493 (vc_Sy_compileValue_at_k4_4_0 (v_iv (n_v vs 3)) (v_iv (n_v vs 4)) (v_iv (n_v vs 6)) (v_iv (n_v vs 7)) (v_iv (n_v vs 8)) (v_iv (n_v vs 9)) (v_iv (n_v vs 10)) (v_iv (n_v vs 11)) (w_fi ws (n_v vs 0) 6) (w_fi ws (n_v vs 0) 8) k3 k4 k6 k7 k8 k9 k10 k11 (shm_40 f0) g1 (shm_40 f2) (shm_40 f3) (shm_40 f4) (shm_1840 f5) (shm_40 f7) kz_0_6 kz_0_8)⟩
  refine ⟨(fun _ h => (by cases h)), [], trivial, ?_, (fun _ h => (by cases h))⟩
  rw [List.append_nil]
  exact List.forall_mem_cons.mpr ⟨⟨show (20 : Nat) < 100 from by decide, nf0⟩, (fun _ h => (by cases h))⟩
def n_Sy_compileValue_at_k4_an : List an_T := []
def t_Sy_compileValue_at_k4_ct : ct_L := [(1, 69, e_Sy_advance), (1, 118, e_Sy_fail), (1, 128, e_Sy_emit), (1, 152, e_Sy_closes), (91, 137, e_Sy_compileSum_at_k5), (169, 114, e_Sy_wordIn_at_s5007), (169, 114, e_Sy_wordIn_at_s5004)]
set_option maxRecDepth 100000 in
theorem c_Sy_compileValue_at_k4 {l : Launch} {D : va_G} {kA : Nat → ClassId} (h_Sy_advance : ct_ok PRD l D kA GG y_Sy_advance z_Sy_advance e_Sy_advance) (h_Sy_closes : ct_ok PRD l D kA GG y_Sy_closes z_Sy_closes e_Sy_closes) (h_Sy_compileSum_at_k5 : ct_ok PRD l D kA GG y_Sy_compileSum_at_k5 z_Sy_compileSum_at_k5 e_Sy_compileSum_at_k5) (h_Sy_emit : ct_ok PRD l D kA GG y_Sy_emit z_Sy_emit e_Sy_emit) (h_Sy_fail : ct_ok PRD l D kA GG y_Sy_fail z_Sy_fail e_Sy_fail) (h_Sy_wordIn_at_s5004 : ct_ok PRD l D kA GG y_Sy_wordIn_at_s5004 z_Sy_wordIn_at_s5004 e_Sy_wordIn_at_s5004) (h_Sy_wordIn_at_s5007 : ct_ok PRD l D kA GG y_Sy_wordIn_at_s5007 z_Sy_wordIn_at_s5007 e_Sy_wordIn_at_s5007) : ct_ok PRD l D kA GG y_Sy_compileValue_at_k4 z_Sy_compileValue_at_k4 e_Sy_compileValue_at_k4 := chk_all_ok (FT := [(31, 11, 6), (37, 11, 8), (42, 11, 9)]) (PT := []) (CT := t_Sy_compileValue_at_k4_ct) (KT := []) (NT := []) (AN := n_Sy_compileValue_at_k4_an) (OT := [o_Sy_compileValue_at_k4_0, o_Sy_compileValue_at_k4_1, o_Sy_compileValue_at_k4_2, o_Sy_compileValue_at_k4_3, o_Sy_compileValue_at_k4_4]) 0 684 (List.forall_mem_cons.mpr ⟨oo_Sy_compileValue_at_k4_0, List.forall_mem_cons.mpr ⟨oo_Sy_compileValue_at_k4_1, List.forall_mem_cons.mpr ⟨oo_Sy_compileValue_at_k4_2, List.forall_mem_cons.mpr ⟨oo_Sy_compileValue_at_k4_3, List.forall_mem_cons.mpr ⟨oo_Sy_compileValue_at_k4_4, List.forall_mem_nil _⟩⟩⟩⟩⟩) (by decide +kernel) ⟨List.forall_mem_cons.mpr ⟨gf_Sy_31, List.forall_mem_cons.mpr ⟨gf_Sy_37, List.forall_mem_cons.mpr ⟨gf_Sy_42, List.forall_mem_nil _⟩⟩⟩, List.forall_mem_nil _, List.forall_mem_cons.mpr ⟨cl_virtual (y := y_Sy_advance) (ci := 11) rfl rfl ⟨_, _, rfl⟩ (by decide +kernel) h_Sy_advance wm_2158 wm_23 wm_2155 wm_2157 wv_10_10 ⟨by decide, by decide, by decide +kernel⟩ (by decide), List.forall_mem_cons.mpr ⟨cl_virtual (y := y_Sy_fail) (ci := 11) rfl rfl ⟨_, _, rfl⟩ (by decide +kernel) h_Sy_fail wm_2239 wm_23 wm_2236 wm_2238 wv_10_14 ⟨by decide, by decide, by decide +kernel⟩ (by decide), List.forall_mem_cons.mpr ⟨cl_virtual (y := y_Sy_emit) (ci := 11) rfl rfl ⟨_, _, rfl⟩ (by decide +kernel) h_Sy_emit wm_2258 wm_23 wm_2255 wm_2257 wv_11_2 ⟨by decide, by decide, by decide +kernel⟩ (by decide), List.forall_mem_cons.mpr ⟨cl_virtual (y := y_Sy_closes) (ci := 11) rfl rfl ⟨_, _, rfl⟩ (by decide +kernel) h_Sy_closes wm_2262 wm_23 wm_2259 wm_2261 wv_11_3 ⟨by decide, by decide, by decide +kernel⟩ (by decide), List.forall_mem_cons.mpr ⟨cl_virtual (y := y_Sy_compileSum_at_k5) (ci := 11) rfl rfl ⟨_, _, rfl⟩ (by decide +kernel) h_Sy_compileSum_at_k5 wm_2266 wm_23 wm_2263 wm_2265 wv_11_4 ⟨by decide, by decide, by decide +kernel⟩ (by decide), List.forall_mem_cons.mpr ⟨cl_virtual (y := y_Sy_wordIn_at_s5007) (ci := 11) rfl rfl ⟨_, _, rfl⟩ (by decide +kernel) h_Sy_wordIn_at_s5007 wm_2229 wm_23 wm_2226 wm_2228 wv_10_12 ⟨by decide, by decide, by decide +kernel⟩ (by decide), List.forall_mem_cons.mpr ⟨cl_virtual (y := y_Sy_wordIn_at_s5004) (ci := 11) rfl rfl ⟨_, _, rfl⟩ (by decide +kernel) h_Sy_wordIn_at_s5004 wm_2229 wm_23 wm_2226 wm_2228 wv_10_12 ⟨by decide, by decide, by decide +kernel⟩ (by decide), List.forall_mem_nil _⟩⟩⟩⟩⟩⟩⟩, List.forall_mem_nil _, List.forall_mem_nil _, GG_pl⟩ (by decide +kernel)
set_option maxHeartbeats 4000000 in
theorem vc_Sy_compileValue_at_k5_0_0 (x3 : Int) (x4 : Int) (x9 : Int) (x11 : Int) (number_0 : Int) (kind_0 : Int) (k3 : 3 ≤ x3 ∧ x3 ≤ 3) (k4 : 40 ≤ x4 ∧ x4 ≤ 40) (k9 : 0 ≤ x9 ∧ x9 ≤ 0) (k11 : 0 ≤ x11 ∧ x11 ≤ 1000000) (g0 : x11 = number_0) (g2 : x3 = kind_0) (f5 : (kind_0 ≠ 3) ∨ (number_0 ≤ 9999)) (f7 : x3 ≠ x4) (kz_0_6 : 0 ≤ kind_0 ∧ kind_0 ≤ 127) (kz_0_8 : 0 ≤ number_0 ∧ number_0 ≤ 1000000) : (0 ≤ x9) ∧ ((0 ≤ x11) ∧ (((x9 * 65536) + x11) ≤ 851970)) := by
  first
    | omega
  
def o_Sy_compileValue_at_k5_0 : or_T := (108, 12, [(0, (2, 0, 0, [11])), (3, (0, 3, 3, [])), (4, (0, 40, 40, [])), (7, (0, 3, 3, [])), (8, (0, 3, 3, [])), (9, (0, 0, 0, [])), (10, (0, 3, 3, [])), (11, (0, 0, 1000000, []))], [(9, [11, 0], [8]), (7, [3, 10], [0]), (9, [3, 0], [6]), (7, [3, 8], [0]), (7, [3, 7], [0]), (20, [0], [50, 2, 0, 6, 8, 3, 7, 7, 3, 2, 0, 6, 0, 3, 0, 3, 2, 0, 8, 0, 9999]), (102, [5], [0]), (7, [3, 4], [1])], [], [], [(20, [9, 11], [50, 0, 0, 2, 6, 0, 2, 0, 0, 1, 0, 2, 6, 0, 2, 0, 0, 1, 1, 0, 10, 4, 6, 6, 2, 1, 0, 0, 65536, 1, 1, 0, 851970])], [], [])
theorem oo_Sy_compileValue_at_k5_0 {kA : Nat → ClassId} : or_ok PRD kA GG o_Sy_compileValue_at_k5_0 := by
  refine or_mk fun A ta ws vs hD hth hl => ?_
  intro t0 r0 t3 k3 t4 k4 t7 k7 t8 k8 t9 k9 t10 k10 t11 k11 f0 f1 f2 f3 f4 f5 ta1 w1 le1 s1 f7
  replace f0 := shm_293 f0
  replace f2 := shm_111 f2
  have g0 : v_iv (n_v vs 11) = w_fi ws (n_v vs 0) 8 := congrArg v_iv f0
  have g2 : v_iv (n_v vs 3) = w_fi ws (n_v vs 0) 6 := congrArg v_iv f2
  have kz_0_6 := fdq_313 hD hth r0
  have kz_0_8 := fdq_314 hD hth r0
  have nf0 : fc_1 PRD (20, [9, 11], [50, 0, 0, 2, 6, 0, 2, 0, 0, 1, 0, 2, 6, 0, 2, 0, 0, 1, 1, 0, 10, 4, 6, 6, 2, 1, 0, 0, 65536, 1, 1, 0, 851970]) ws (vs) := ⟨nf_in hl rfl, sgq_493 (vc_Sy_compileValue_at_k5_0_0 (v_iv (n_v vs 3)) (v_iv (n_v vs 4)) (v_iv (n_v vs 9)) (v_iv (n_v vs 11)) (w_fi ws (n_v vs 0) 8) (w_fi ws (n_v vs 0) 6) k3 k4 k9 k11 g0 g2 (shm_1840 f5) (shm_40 f7) kz_0_6 kz_0_8)⟩
  refine ⟨(fun _ h => (by cases h)), [], trivial, ?_, (fun _ h => (by cases h))⟩
  rw [List.append_nil]
  exact List.forall_mem_cons.mpr ⟨⟨show (20 : Nat) < 100 from by decide, nf0⟩, (fun _ h => (by cases h))⟩
set_option maxHeartbeats 4000000 in
theorem vc_Sy_compileValue_at_k5_1_0 (x3 : Int) (x4 : Int) (x6 : Int) (x7 : Int) (x8 : Int) (x9 : Int) (x10 : Int) (x11 : Int) (kind_0 : Int) (number_0 : Int) (k3 : 0 ≤ x3 ∧ x3 ≤ 127) (k4 : 40 ≤ x4 ∧ x4 ≤ 40) (k6 : 0 ≤ x6 ∧ x6 ≤ 38) (k7 : 3 ≤ x7 ∧ x7 ≤ 3) (k8 : (-1) ≤ x8 ∧ x8 ≤ (-1)) (k9 : 3 ≤ x9 ∧ x9 ≤ 3) (k10 : 1 ≤ x10 ∧ x10 ≤ 1) (k11 : 3 ≤ x11 ∧ x11 ≤ 3) (f0 : x3 ≠ x11) (g1 : x3 = kind_0) (f2 : x3 ≠ x9) (f3 : x6 ≠ x8) (f4 : x3 ≠ x7) (f5 : (kind_0 ≠ 3) ∨ (number_0 ≤ 9999)) (f7 : x3 ≠ x4) (kz_0_6 : 0 ≤ kind_0 ∧ kind_0 ≤ 127) (kz_0_8 : 0 ≤ number_0 ∧ number_0 ≤ 1000000) : (0 ≤ x10) ∧ ((0 ≤ x6) ∧ (((x10 * 65536) + x6) ≤ 851970)) := by
  first
    | omega
  
def o_Sy_compileValue_at_k5_1 : or_T := (108, 12, [(0, (2, 0, 0, [11])), (3, (0, 0, 127, [])), (4, (0, 40, 40, [])), (6, (0, 0, 38, [])), (7, (0, 3, 3, [])), (8, (0, -1, -1, [])), (9, (0, 3, 3, [])), (10, (0, 1, 1, [])), (11, (0, 3, 3, []))], [(7, [3, 11], [1]), (9, [3, 0], [6]), (7, [3, 9], [1]), (7, [6, 8], [1]), (7, [3, 7], [1]), (20, [0], [50, 2, 0, 6, 8, 3, 7, 7, 3, 2, 0, 6, 0, 3, 0, 3, 2, 0, 8, 0, 9999]), (102, [5], [0]), (7, [3, 4], [1])], [], [], [(20, [10, 6], [50, 0, 0, 2, 6, 0, 2, 0, 0, 1, 0, 2, 6, 0, 2, 0, 0, 1, 1, 0, 10, 4, 6, 6, 2, 1, 0, 0, 65536, 1, 1, 0, 851970])], [], [])
theorem oo_Sy_compileValue_at_k5_1 {kA : Nat → ClassId} : or_ok PRD kA GG o_Sy_compileValue_at_k5_1 := by
  refine or_mk fun A ta ws vs hD hth hl => ?_
  intro t0 r0 t3 k3 t4 k4 t6 k6 t7 k7 t8 k8 t9 k9 t10 k10 t11 k11 f0 f1 f2 f3 f4 f5 ta1 w1 le1 s1 f7
  replace f1 := shm_111 f1
  have g1 : v_iv (n_v vs 3) = w_fi ws (n_v vs 0) 6 := congrArg v_iv f1
  have kz_0_6 := fdq_313 hD hth r0
  have kz_0_8 := fdq_314 hD hth r0
  have nf0 : fc_1 PRD (20, [10, 6], [50, 0, 0, 2, 6, 0, 2, 0, 0, 1, 0, 2, 6, 0, 2, 0, 0, 1, 1, 0, 10, 4, 6, 6, 2, 1, 0, 0, 65536, 1, 1, 0, 851970]) ws (vs) := ⟨nf_in hl rfl, sgq_493 (vc_Sy_compileValue_at_k5_1_0 (v_iv (n_v vs 3)) (v_iv (n_v vs 4)) (v_iv (n_v vs 6)) (v_iv (n_v vs 7)) (v_iv (n_v vs 8)) (v_iv (n_v vs 9)) (v_iv (n_v vs 10)) (v_iv (n_v vs 11)) (w_fi ws (n_v vs 0) 6) (w_fi ws (n_v vs 0) 8) k3 k4 k6 k7 k8 k9 k10 k11 (shm_40 f0) g1 (shm_40 f2) (shm_40 f3) (shm_40 f4) (shm_1840 f5) (shm_40 f7) kz_0_6 kz_0_8)⟩
  refine ⟨(fun _ h => (by cases h)), [], trivial, ?_, (fun _ h => (by cases h))⟩
  rw [List.append_nil]
  exact List.forall_mem_cons.mpr ⟨⟨show (20 : Nat) < 100 from by decide, nf0⟩, (fun _ h => (by cases h))⟩
set_option maxHeartbeats 4000000 in
theorem vc_Sy_compileValue_at_k5_2_0 (x3 : Int) (x4 : Int) (x10 : Int) (x12 : Int) (number_0 : Int) (kind_0 : Int) (k3 : 3 ≤ x3 ∧ x3 ≤ 3) (k4 : 40 ≤ x4 ∧ x4 ≤ 40) (k10 : 1 ≤ x10 ∧ x10 ≤ 1) (k12 : 0 ≤ x12 ∧ x12 ≤ 1000000) (g0 : x12 = number_0) (g2 : x3 = kind_0) (f5 : (kind_0 ≠ 3) ∨ (number_0 ≤ 9999)) (f7 : x3 ≠ x4) (kz_0_6 : 0 ≤ kind_0 ∧ kind_0 ≤ 127) (kz_0_8 : 0 ≤ number_0 ∧ number_0 ≤ 1000000) : (0 ≤ x10) ∧ ((0 ≤ x12) ∧ (((x10 * 65536) + x12) ≤ 851970)) := by
  first
    | omega
  
def o_Sy_compileValue_at_k5_2 : or_T := (108, 13, [(0, (2, 0, 0, [11])), (3, (0, 3, 3, [])), (4, (0, 40, 40, [])), (7, (0, 3, 3, [])), (9, (0, 3, 3, [])), (10, (0, 1, 1, [])), (11, (0, 3, 3, [])), (12, (0, 0, 1000000, []))], [(9, [12, 0], [8]), (7, [3, 11], [0]), (9, [3, 0], [6]), (7, [3, 9], [1]), (7, [3, 7], [1]), (20, [0], [50, 2, 0, 6, 8, 3, 7, 7, 3, 2, 0, 6, 0, 3, 0, 3, 2, 0, 8, 0, 9999]), (102, [5], [0]), (7, [3, 4], [1])], [], [], [(20, [10, 12], [50, 0, 0, 2, 6, 0, 2, 0, 0, 1, 0, 2, 6, 0, 2, 0, 0, 1, 1, 0, 10, 4, 6, 6, 2, 1, 0, 0, 65536, 1, 1, 0, 851970])], [], [])
theorem oo_Sy_compileValue_at_k5_2 {kA : Nat → ClassId} : or_ok PRD kA GG o_Sy_compileValue_at_k5_2 := by
  refine or_mk fun A ta ws vs hD hth hl => ?_
  intro t0 r0 t3 k3 t4 k4 t7 k7 t9 k9 t10 k10 t11 k11 t12 k12 f0 f1 f2 f3 f4 f5 ta1 w1 le1 s1 f7
  replace f0 := shm_293 f0
  replace f2 := shm_111 f2
  have g0 : v_iv (n_v vs 12) = w_fi ws (n_v vs 0) 8 := congrArg v_iv f0
  have g2 : v_iv (n_v vs 3) = w_fi ws (n_v vs 0) 6 := congrArg v_iv f2
  have kz_0_6 := fdq_313 hD hth r0
  have kz_0_8 := fdq_314 hD hth r0
  have nf0 : fc_1 PRD (20, [10, 12], [50, 0, 0, 2, 6, 0, 2, 0, 0, 1, 0, 2, 6, 0, 2, 0, 0, 1, 1, 0, 10, 4, 6, 6, 2, 1, 0, 0, 65536, 1, 1, 0, 851970]) ws (vs) := ⟨nf_in hl rfl, sgq_493 (vc_Sy_compileValue_at_k5_2_0 (v_iv (n_v vs 3)) (v_iv (n_v vs 4)) (v_iv (n_v vs 10)) (v_iv (n_v vs 12)) (w_fi ws (n_v vs 0) 8) (w_fi ws (n_v vs 0) 6) k3 k4 k10 k12 g0 g2 (shm_1840 f5) (shm_40 f7) kz_0_6 kz_0_8)⟩
  refine ⟨(fun _ h => (by cases h)), [], trivial, ?_, (fun _ h => (by cases h))⟩
  rw [List.append_nil]
  exact List.forall_mem_cons.mpr ⟨⟨show (20 : Nat) < 100 from by decide, nf0⟩, (fun _ h => (by cases h))⟩
set_option maxHeartbeats 4000000 in
theorem vc_Sy_compileValue_at_k5_3_0 (x3 : Int) (x4 : Int) (x10 : Int) (x12 : Int) (number_0 : Int) (kind_0 : Int) (k3 : 3 ≤ x3 ∧ x3 ≤ 3) (k4 : 40 ≤ x4 ∧ x4 ≤ 40) (k10 : 0 ≤ x10 ∧ x10 ≤ 0) (k12 : 0 ≤ x12 ∧ x12 ≤ 1000000) (g0 : x12 = number_0) (g2 : x3 = kind_0) (f5 : (kind_0 ≠ 3) ∨ (number_0 ≤ 9999)) (f7 : x3 ≠ x4) (kz_0_6 : 0 ≤ kind_0 ∧ kind_0 ≤ 127) (kz_0_8 : 0 ≤ number_0 ∧ number_0 ≤ 1000000) : (0 ≤ x10) ∧ ((0 ≤ x12) ∧ (((x10 * 65536) + x12) ≤ 851970)) := by
  first
    | omega
  
def o_Sy_compileValue_at_k5_3 : or_T := (108, 13, [(0, (2, 0, 0, [11])), (3, (0, 3, 3, [])), (4, (0, 40, 40, [])), (7, (0, 3, 3, [])), (9, (0, 3, 3, [])), (10, (0, 0, 0, [])), (11, (0, 3, 3, [])), (12, (0, 0, 1000000, []))], [(9, [12, 0], [8]), (7, [3, 11], [0]), (9, [3, 0], [6]), (7, [3, 9], [0]), (7, [3, 7], [1]), (20, [0], [50, 2, 0, 6, 8, 3, 7, 7, 3, 2, 0, 6, 0, 3, 0, 3, 2, 0, 8, 0, 9999]), (102, [5], [0]), (7, [3, 4], [1])], [], [], [(20, [10, 12], [50, 0, 0, 2, 6, 0, 2, 0, 0, 1, 0, 2, 6, 0, 2, 0, 0, 1, 1, 0, 10, 4, 6, 6, 2, 1, 0, 0, 65536, 1, 1, 0, 851970])], [], [])
theorem oo_Sy_compileValue_at_k5_3 {kA : Nat → ClassId} : or_ok PRD kA GG o_Sy_compileValue_at_k5_3 := by
  refine or_mk fun A ta ws vs hD hth hl => ?_
  intro t0 r0 t3 k3 t4 k4 t7 k7 t9 k9 t10 k10 t11 k11 t12 k12 f0 f1 f2 f3 f4 f5 ta1 w1 le1 s1 f7
  replace f0 := shm_293 f0
  replace f2 := shm_111 f2
  have g0 : v_iv (n_v vs 12) = w_fi ws (n_v vs 0) 8 := congrArg v_iv f0
  have g2 : v_iv (n_v vs 3) = w_fi ws (n_v vs 0) 6 := congrArg v_iv f2
  have kz_0_6 := fdq_313 hD hth r0
  have kz_0_8 := fdq_314 hD hth r0
  have nf0 : fc_1 PRD (20, [10, 12], [50, 0, 0, 2, 6, 0, 2, 0, 0, 1, 0, 2, 6, 0, 2, 0, 0, 1, 1, 0, 10, 4, 6, 6, 2, 1, 0, 0, 65536, 1, 1, 0, 851970]) ws (vs) := ⟨nf_in hl rfl, sgq_493 (vc_Sy_compileValue_at_k5_3_0 (v_iv (n_v vs 3)) (v_iv (n_v vs 4)) (v_iv (n_v vs 10)) (v_iv (n_v vs 12)) (w_fi ws (n_v vs 0) 8) (w_fi ws (n_v vs 0) 6) k3 k4 k10 k12 g0 g2 (shm_1840 f5) (shm_40 f7) kz_0_6 kz_0_8)⟩
  refine ⟨(fun _ h => (by cases h)), [], trivial, ?_, (fun _ h => (by cases h))⟩
  rw [List.append_nil]
  exact List.forall_mem_cons.mpr ⟨⟨show (20 : Nat) < 100 from by decide, nf0⟩, (fun _ h => (by cases h))⟩
set_option maxHeartbeats 4000000 in
theorem vc_Sy_compileValue_at_k5_4_0 (x3 : Int) (x4 : Int) (x6 : Int) (x7 : Int) (x8 : Int) (x9 : Int) (x10 : Int) (x11 : Int) (kind_0 : Int) (number_0 : Int) (k3 : 0 ≤ x3 ∧ x3 ≤ 127) (k4 : 40 ≤ x4 ∧ x4 ≤ 40) (k6 : 0 ≤ x6 ∧ x6 ≤ 43) (k7 : 3 ≤ x7 ∧ x7 ≤ 3) (k8 : (-1) ≤ x8 ∧ x8 ≤ (-1)) (k9 : 3 ≤ x9 ∧ x9 ≤ 3) (k10 : 1 ≤ x10 ∧ x10 ≤ 1) (k11 : 3 ≤ x11 ∧ x11 ≤ 3) (f0 : x3 ≠ x11) (g1 : x3 = kind_0) (f2 : x3 ≠ x9) (f3 : x6 ≠ x8) (f4 : x3 ≠ x7) (f5 : (kind_0 ≠ 3) ∨ (number_0 ≤ 9999)) (f7 : x3 ≠ x4) (kz_0_6 : 0 ≤ kind_0 ∧ kind_0 ≤ 127) (kz_0_8 : 0 ≤ number_0 ∧ number_0 ≤ 1000000) : (0 ≤ x10) ∧ ((0 ≤ x6) ∧ (((x10 * 65536) + x6) ≤ 851970)) := by
  first
    | omega
  
def o_Sy_compileValue_at_k5_4 : or_T := (108, 12, [(0, (2, 0, 0, [11])), (3, (0, 0, 127, [])), (4, (0, 40, 40, [])), (6, (0, 0, 43, [])), (7, (0, 3, 3, [])), (8, (0, -1, -1, [])), (9, (0, 3, 3, [])), (10, (0, 1, 1, [])), (11, (0, 3, 3, []))], [(7, [3, 11], [1]), (9, [3, 0], [6]), (7, [3, 9], [1]), (7, [6, 8], [1]), (7, [3, 7], [1]), (20, [0], [50, 2, 0, 6, 8, 3, 7, 7, 3, 2, 0, 6, 0, 3, 0, 3, 2, 0, 8, 0, 9999]), (102, [5], [0]), (7, [3, 4], [1])], [], [], [(20, [10, 6], [50, 0, 0, 2, 6, 0, 2, 0, 0, 1, 0, 2, 6, 0, 2, 0, 0, 1, 1, 0, 10, 4, 6, 6, 2, 1, 0, 0, 65536, 1, 1, 0, 851970])], [], [])
theorem oo_Sy_compileValue_at_k5_4 {kA : Nat → ClassId} : or_ok PRD kA GG o_Sy_compileValue_at_k5_4 := by
  refine or_mk fun A ta ws vs hD hth hl => ?_
  intro t0 r0 t3 k3 t4 k4 t6 k6 t7 k7 t8 k8 t9 k9 t10 k10 t11 k11 f0 f1 f2 f3 f4 f5 ta1 w1 le1 s1 f7
  replace f1 := shm_111 f1
  have g1 : v_iv (n_v vs 3) = w_fi ws (n_v vs 0) 6 := congrArg v_iv f1
  have kz_0_6 := fdq_313 hD hth r0
  have kz_0_8 := fdq_314 hD hth r0
  have nf0 : fc_1 PRD (20, [10, 6], [50, 0, 0, 2, 6, 0, 2, 0, 0, 1, 0, 2, 6, 0, 2, 0, 0, 1, 1, 0, 10, 4, 6, 6, 2, 1, 0, 0, 65536, 1, 1, 0, 851970]) ws (vs) := ⟨nf_in hl rfl, sgq_493 (vc_Sy_compileValue_at_k5_4_0 (v_iv (n_v vs 3)) (v_iv (n_v vs 4)) (v_iv (n_v vs 6)) (v_iv (n_v vs 7)) (v_iv (n_v vs 8)) (v_iv (n_v vs 9)) (v_iv (n_v vs 10)) (v_iv (n_v vs 11)) (w_fi ws (n_v vs 0) 6) (w_fi ws (n_v vs 0) 8) k3 k4 k6 k7 k8 k9 k10 k11 (shm_40 f0) g1 (shm_40 f2) (shm_40 f3) (shm_40 f4) (shm_1840 f5) (shm_40 f7) kz_0_6 kz_0_8)⟩
  refine ⟨(fun _ h => (by cases h)), [], trivial, ?_, (fun _ h => (by cases h))⟩
  rw [List.append_nil]
  exact List.forall_mem_cons.mpr ⟨⟨show (20 : Nat) < 100 from by decide, nf0⟩, (fun _ h => (by cases h))⟩
def n_Sy_compileValue_at_k5_an : List an_T := []
def t_Sy_compileValue_at_k5_ct : ct_L := [(1, 69, e_Sy_advance), (1, 118, e_Sy_fail), (1, 128, e_Sy_emit), (1, 152, e_Sy_closes), (91, 137, e_Sy_compileSum_at_k6), (169, 114, e_Sy_wordIn_at_s5007), (169, 114, e_Sy_wordIn_at_s5004)]
set_option maxRecDepth 100000 in
theorem c_Sy_compileValue_at_k5 {l : Launch} {D : va_G} {kA : Nat → ClassId} (h_Sy_advance : ct_ok PRD l D kA GG y_Sy_advance z_Sy_advance e_Sy_advance) (h_Sy_closes : ct_ok PRD l D kA GG y_Sy_closes z_Sy_closes e_Sy_closes) (h_Sy_compileSum_at_k6 : ct_ok PRD l D kA GG y_Sy_compileSum_at_k6 z_Sy_compileSum_at_k6 e_Sy_compileSum_at_k6) (h_Sy_emit : ct_ok PRD l D kA GG y_Sy_emit z_Sy_emit e_Sy_emit) (h_Sy_fail : ct_ok PRD l D kA GG y_Sy_fail z_Sy_fail e_Sy_fail) (h_Sy_wordIn_at_s5004 : ct_ok PRD l D kA GG y_Sy_wordIn_at_s5004 z_Sy_wordIn_at_s5004 e_Sy_wordIn_at_s5004) (h_Sy_wordIn_at_s5007 : ct_ok PRD l D kA GG y_Sy_wordIn_at_s5007 z_Sy_wordIn_at_s5007 e_Sy_wordIn_at_s5007) : ct_ok PRD l D kA GG y_Sy_compileValue_at_k5 z_Sy_compileValue_at_k5 e_Sy_compileValue_at_k5 := chk_all_ok (FT := [(31, 11, 6), (37, 11, 8), (42, 11, 9)]) (PT := []) (CT := t_Sy_compileValue_at_k5_ct) (KT := []) (NT := []) (AN := n_Sy_compileValue_at_k5_an) (OT := [o_Sy_compileValue_at_k5_0, o_Sy_compileValue_at_k5_1, o_Sy_compileValue_at_k5_2, o_Sy_compileValue_at_k5_3, o_Sy_compileValue_at_k5_4]) 0 684 (List.forall_mem_cons.mpr ⟨oo_Sy_compileValue_at_k5_0, List.forall_mem_cons.mpr ⟨oo_Sy_compileValue_at_k5_1, List.forall_mem_cons.mpr ⟨oo_Sy_compileValue_at_k5_2, List.forall_mem_cons.mpr ⟨oo_Sy_compileValue_at_k5_3, List.forall_mem_cons.mpr ⟨oo_Sy_compileValue_at_k5_4, List.forall_mem_nil _⟩⟩⟩⟩⟩) (by decide +kernel) ⟨List.forall_mem_cons.mpr ⟨gf_Sy_31, List.forall_mem_cons.mpr ⟨gf_Sy_37, List.forall_mem_cons.mpr ⟨gf_Sy_42, List.forall_mem_nil _⟩⟩⟩, List.forall_mem_nil _, List.forall_mem_cons.mpr ⟨cl_virtual (y := y_Sy_advance) (ci := 11) rfl rfl ⟨_, _, rfl⟩ (by decide +kernel) h_Sy_advance wm_2158 wm_23 wm_2155 wm_2157 wv_10_10 ⟨by decide, by decide, by decide +kernel⟩ (by decide), List.forall_mem_cons.mpr ⟨cl_virtual (y := y_Sy_fail) (ci := 11) rfl rfl ⟨_, _, rfl⟩ (by decide +kernel) h_Sy_fail wm_2239 wm_23 wm_2236 wm_2238 wv_10_14 ⟨by decide, by decide, by decide +kernel⟩ (by decide), List.forall_mem_cons.mpr ⟨cl_virtual (y := y_Sy_emit) (ci := 11) rfl rfl ⟨_, _, rfl⟩ (by decide +kernel) h_Sy_emit wm_2258 wm_23 wm_2255 wm_2257 wv_11_2 ⟨by decide, by decide, by decide +kernel⟩ (by decide), List.forall_mem_cons.mpr ⟨cl_virtual (y := y_Sy_closes) (ci := 11) rfl rfl ⟨_, _, rfl⟩ (by decide +kernel) h_Sy_closes wm_2262 wm_23 wm_2259 wm_2261 wv_11_3 ⟨by decide, by decide, by decide +kernel⟩ (by decide), List.forall_mem_cons.mpr ⟨cl_virtual (y := y_Sy_compileSum_at_k6) (ci := 11) rfl rfl ⟨_, _, rfl⟩ (by decide +kernel) h_Sy_compileSum_at_k6 wm_2266 wm_23 wm_2263 wm_2265 wv_11_4 ⟨by decide, by decide, by decide +kernel⟩ (by decide), List.forall_mem_cons.mpr ⟨cl_virtual (y := y_Sy_wordIn_at_s5007) (ci := 11) rfl rfl ⟨_, _, rfl⟩ (by decide +kernel) h_Sy_wordIn_at_s5007 wm_2229 wm_23 wm_2226 wm_2228 wv_10_12 ⟨by decide, by decide, by decide +kernel⟩ (by decide), List.forall_mem_cons.mpr ⟨cl_virtual (y := y_Sy_wordIn_at_s5004) (ci := 11) rfl rfl ⟨_, _, rfl⟩ (by decide +kernel) h_Sy_wordIn_at_s5004 wm_2229 wm_23 wm_2226 wm_2228 wv_10_12 ⟨by decide, by decide, by decide +kernel⟩ (by decide), List.forall_mem_nil _⟩⟩⟩⟩⟩⟩⟩, List.forall_mem_nil _, List.forall_mem_nil _, GG_pl⟩ (by decide +kernel)
set_option maxHeartbeats 4000000 in
theorem vc_Sy_compileValue_at_k6_0_0 (x3 : Int) (x4 : Int) (x9 : Int) (x11 : Int) (number_0 : Int) (kind_0 : Int) (k3 : 3 ≤ x3 ∧ x3 ≤ 3) (k4 : 40 ≤ x4 ∧ x4 ≤ 40) (k9 : 0 ≤ x9 ∧ x9 ≤ 0) (k11 : 0 ≤ x11 ∧ x11 ≤ 1000000) (g0 : x11 = number_0) (g2 : x3 = kind_0) (f5 : (kind_0 ≠ 3) ∨ (number_0 ≤ 9999)) (f7 : x3 ≠ x4) (kz_0_6 : 0 ≤ kind_0 ∧ kind_0 ≤ 127) (kz_0_8 : 0 ≤ number_0 ∧ number_0 ≤ 1000000) : (0 ≤ x9) ∧ ((0 ≤ x11) ∧ (((x9 * 65536) + x11) ≤ 851970)) := by
  first
    | omega
  
def o_Sy_compileValue_at_k6_0 : or_T := (108, 12, [(0, (2, 0, 0, [11])), (3, (0, 3, 3, [])), (4, (0, 40, 40, [])), (7, (0, 3, 3, [])), (8, (0, 3, 3, [])), (9, (0, 0, 0, [])), (10, (0, 3, 3, [])), (11, (0, 0, 1000000, []))], [(9, [11, 0], [8]), (7, [3, 10], [0]), (9, [3, 0], [6]), (7, [3, 8], [0]), (7, [3, 7], [0]), (20, [0], [50, 2, 0, 6, 8, 3, 7, 7, 3, 2, 0, 6, 0, 3, 0, 3, 2, 0, 8, 0, 9999]), (102, [5], [0]), (7, [3, 4], [1])], [], [], [(20, [9, 11], [50, 0, 0, 2, 6, 0, 2, 0, 0, 1, 0, 2, 6, 0, 2, 0, 0, 1, 1, 0, 10, 4, 6, 6, 2, 1, 0, 0, 65536, 1, 1, 0, 851970])], [], [])
theorem oo_Sy_compileValue_at_k6_0 {kA : Nat → ClassId} : or_ok PRD kA GG o_Sy_compileValue_at_k6_0 := by
  refine or_mk fun A ta ws vs hD hth hl => ?_
  intro t0 r0 t3 k3 t4 k4 t7 k7 t8 k8 t9 k9 t10 k10 t11 k11 f0 f1 f2 f3 f4 f5 ta1 w1 le1 s1 f7
  replace f0 := shm_293 f0
  replace f2 := shm_111 f2
  have g0 : v_iv (n_v vs 11) = w_fi ws (n_v vs 0) 8 := congrArg v_iv f0
  have g2 : v_iv (n_v vs 3) = w_fi ws (n_v vs 0) 6 := congrArg v_iv f2
  have kz_0_6 := fdq_313 hD hth r0
  have kz_0_8 := fdq_314 hD hth r0
  have nf0 : fc_1 PRD (20, [9, 11], [50, 0, 0, 2, 6, 0, 2, 0, 0, 1, 0, 2, 6, 0, 2, 0, 0, 1, 1, 0, 10, 4, 6, 6, 2, 1, 0, 0, 65536, 1, 1, 0, 851970]) ws (vs) := ⟨nf_in hl rfl, sgq_493 (vc_Sy_compileValue_at_k6_0_0 (v_iv (n_v vs 3)) (v_iv (n_v vs 4)) (v_iv (n_v vs 9)) (v_iv (n_v vs 11)) (w_fi ws (n_v vs 0) 8) (w_fi ws (n_v vs 0) 6) k3 k4 k9 k11 g0 g2 (shm_1840 f5) (shm_40 f7) kz_0_6 kz_0_8)⟩
  refine ⟨(fun _ h => (by cases h)), [], trivial, ?_, (fun _ h => (by cases h))⟩
  rw [List.append_nil]
  exact List.forall_mem_cons.mpr ⟨⟨show (20 : Nat) < 100 from by decide, nf0⟩, (fun _ h => (by cases h))⟩
set_option maxHeartbeats 4000000 in
theorem vc_Sy_compileValue_at_k6_1_0 (x3 : Int) (x4 : Int) (x6 : Int) (x7 : Int) (x8 : Int) (x9 : Int) (x10 : Int) (x11 : Int) (kind_0 : Int) (number_0 : Int) (k3 : 0 ≤ x3 ∧ x3 ≤ 127) (k4 : 40 ≤ x4 ∧ x4 ≤ 40) (k6 : 0 ≤ x6 ∧ x6 ≤ 38) (k7 : 3 ≤ x7 ∧ x7 ≤ 3) (k8 : (-1) ≤ x8 ∧ x8 ≤ (-1)) (k9 : 3 ≤ x9 ∧ x9 ≤ 3) (k10 : 1 ≤ x10 ∧ x10 ≤ 1) (k11 : 3 ≤ x11 ∧ x11 ≤ 3) (f0 : x3 ≠ x11) (g1 : x3 = kind_0) (f2 : x3 ≠ x9) (f3 : x6 ≠ x8) (f4 : x3 ≠ x7) (f5 : (kind_0 ≠ 3) ∨ (number_0 ≤ 9999)) (f7 : x3 ≠ x4) (kz_0_6 : 0 ≤ kind_0 ∧ kind_0 ≤ 127) (kz_0_8 : 0 ≤ number_0 ∧ number_0 ≤ 1000000) : (0 ≤ x10) ∧ ((0 ≤ x6) ∧ (((x10 * 65536) + x6) ≤ 851970)) := by
  first
    | omega
  
def o_Sy_compileValue_at_k6_1 : or_T := (108, 12, [(0, (2, 0, 0, [11])), (3, (0, 0, 127, [])), (4, (0, 40, 40, [])), (6, (0, 0, 38, [])), (7, (0, 3, 3, [])), (8, (0, -1, -1, [])), (9, (0, 3, 3, [])), (10, (0, 1, 1, [])), (11, (0, 3, 3, []))], [(7, [3, 11], [1]), (9, [3, 0], [6]), (7, [3, 9], [1]), (7, [6, 8], [1]), (7, [3, 7], [1]), (20, [0], [50, 2, 0, 6, 8, 3, 7, 7, 3, 2, 0, 6, 0, 3, 0, 3, 2, 0, 8, 0, 9999]), (102, [5], [0]), (7, [3, 4], [1])], [], [], [(20, [10, 6], [50, 0, 0, 2, 6, 0, 2, 0, 0, 1, 0, 2, 6, 0, 2, 0, 0, 1, 1, 0, 10, 4, 6, 6, 2, 1, 0, 0, 65536, 1, 1, 0, 851970])], [], [])
theorem oo_Sy_compileValue_at_k6_1 {kA : Nat → ClassId} : or_ok PRD kA GG o_Sy_compileValue_at_k6_1 := by
  refine or_mk fun A ta ws vs hD hth hl => ?_
  intro t0 r0 t3 k3 t4 k4 t6 k6 t7 k7 t8 k8 t9 k9 t10 k10 t11 k11 f0 f1 f2 f3 f4 f5 ta1 w1 le1 s1 f7
  replace f1 := shm_111 f1
  have g1 : v_iv (n_v vs 3) = w_fi ws (n_v vs 0) 6 := congrArg v_iv f1
  have kz_0_6 := fdq_313 hD hth r0
  have kz_0_8 := fdq_314 hD hth r0
  have nf0 : fc_1 PRD (20, [10, 6], [50, 0, 0, 2, 6, 0, 2, 0, 0, 1, 0, 2, 6, 0, 2, 0, 0, 1, 1, 0, 10, 4, 6, 6, 2, 1, 0, 0, 65536, 1, 1, 0, 851970]) ws (vs) := ⟨nf_in hl rfl, sgq_493 (vc_Sy_compileValue_at_k6_1_0 (v_iv (n_v vs 3)) (v_iv (n_v vs 4)) (v_iv (n_v vs 6)) (v_iv (n_v vs 7)) (v_iv (n_v vs 8)) (v_iv (n_v vs 9)) (v_iv (n_v vs 10)) (v_iv (n_v vs 11)) (w_fi ws (n_v vs 0) 6) (w_fi ws (n_v vs 0) 8) k3 k4 k6 k7 k8 k9 k10 k11 (shm_40 f0) g1 (shm_40 f2) (shm_40 f3) (shm_40 f4) (shm_1840 f5) (shm_40 f7) kz_0_6 kz_0_8)⟩
  refine ⟨(fun _ h => (by cases h)), [], trivial, ?_, (fun _ h => (by cases h))⟩
  rw [List.append_nil]
  exact List.forall_mem_cons.mpr ⟨⟨show (20 : Nat) < 100 from by decide, nf0⟩, (fun _ h => (by cases h))⟩
set_option maxHeartbeats 4000000 in
theorem vc_Sy_compileValue_at_k6_2_0 (x3 : Int) (x4 : Int) (x10 : Int) (x12 : Int) (number_0 : Int) (kind_0 : Int) (k3 : 3 ≤ x3 ∧ x3 ≤ 3) (k4 : 40 ≤ x4 ∧ x4 ≤ 40) (k10 : 1 ≤ x10 ∧ x10 ≤ 1) (k12 : 0 ≤ x12 ∧ x12 ≤ 1000000) (g0 : x12 = number_0) (g2 : x3 = kind_0) (f5 : (kind_0 ≠ 3) ∨ (number_0 ≤ 9999)) (f7 : x3 ≠ x4) (kz_0_6 : 0 ≤ kind_0 ∧ kind_0 ≤ 127) (kz_0_8 : 0 ≤ number_0 ∧ number_0 ≤ 1000000) : (0 ≤ x10) ∧ ((0 ≤ x12) ∧ (((x10 * 65536) + x12) ≤ 851970)) := by
  first
    | omega
  
def o_Sy_compileValue_at_k6_2 : or_T := (108, 13, [(0, (2, 0, 0, [11])), (3, (0, 3, 3, [])), (4, (0, 40, 40, [])), (7, (0, 3, 3, [])), (9, (0, 3, 3, [])), (10, (0, 1, 1, [])), (11, (0, 3, 3, [])), (12, (0, 0, 1000000, []))], [(9, [12, 0], [8]), (7, [3, 11], [0]), (9, [3, 0], [6]), (7, [3, 9], [1]), (7, [3, 7], [1]), (20, [0], [50, 2, 0, 6, 8, 3, 7, 7, 3, 2, 0, 6, 0, 3, 0, 3, 2, 0, 8, 0, 9999]), (102, [5], [0]), (7, [3, 4], [1])], [], [], [(20, [10, 12], [50, 0, 0, 2, 6, 0, 2, 0, 0, 1, 0, 2, 6, 0, 2, 0, 0, 1, 1, 0, 10, 4, 6, 6, 2, 1, 0, 0, 65536, 1, 1, 0, 851970])], [], [])
theorem oo_Sy_compileValue_at_k6_2 {kA : Nat → ClassId} : or_ok PRD kA GG o_Sy_compileValue_at_k6_2 := by
  refine or_mk fun A ta ws vs hD hth hl => ?_
  intro t0 r0 t3 k3 t4 k4 t7 k7 t9 k9 t10 k10 t11 k11 t12 k12 f0 f1 f2 f3 f4 f5 ta1 w1 le1 s1 f7
  replace f0 := shm_293 f0
  replace f2 := shm_111 f2
  have g0 : v_iv (n_v vs 12) = w_fi ws (n_v vs 0) 8 := congrArg v_iv f0
  have g2 : v_iv (n_v vs 3) = w_fi ws (n_v vs 0) 6 := congrArg v_iv f2
  have kz_0_6 := fdq_313 hD hth r0
  have kz_0_8 := fdq_314 hD hth r0
  have nf0 : fc_1 PRD (20, [10, 12], [50, 0, 0, 2, 6, 0, 2, 0, 0, 1, 0, 2, 6, 0, 2, 0, 0, 1, 1, 0, 10, 4, 6, 6, 2, 1, 0, 0, 65536, 1, 1, 0, 851970]) ws (vs) := ⟨nf_in hl rfl, sgq_493 (vc_Sy_compileValue_at_k6_2_0 (v_iv (n_v vs 3)) (v_iv (n_v vs 4)) (v_iv (n_v vs 10)) (v_iv (n_v vs 12)) (w_fi ws (n_v vs 0) 8) (w_fi ws (n_v vs 0) 6) k3 k4 k10 k12 g0 g2 (shm_1840 f5) (shm_40 f7) kz_0_6 kz_0_8)⟩
  refine ⟨(fun _ h => (by cases h)), [], trivial, ?_, (fun _ h => (by cases h))⟩
  rw [List.append_nil]
  exact List.forall_mem_cons.mpr ⟨⟨show (20 : Nat) < 100 from by decide, nf0⟩, (fun _ h => (by cases h))⟩
set_option maxHeartbeats 4000000 in
theorem vc_Sy_compileValue_at_k6_3_0 (x3 : Int) (x4 : Int) (x10 : Int) (x12 : Int) (number_0 : Int) (kind_0 : Int) (k3 : 3 ≤ x3 ∧ x3 ≤ 3) (k4 : 40 ≤ x4 ∧ x4 ≤ 40) (k10 : 0 ≤ x10 ∧ x10 ≤ 0) (k12 : 0 ≤ x12 ∧ x12 ≤ 1000000) (g0 : x12 = number_0) (g2 : x3 = kind_0) (f5 : (kind_0 ≠ 3) ∨ (number_0 ≤ 9999)) (f7 : x3 ≠ x4) (kz_0_6 : 0 ≤ kind_0 ∧ kind_0 ≤ 127) (kz_0_8 : 0 ≤ number_0 ∧ number_0 ≤ 1000000) : (0 ≤ x10) ∧ ((0 ≤ x12) ∧ (((x10 * 65536) + x12) ≤ 851970)) := by
  first
    | omega
  
def o_Sy_compileValue_at_k6_3 : or_T := (108, 13, [(0, (2, 0, 0, [11])), (3, (0, 3, 3, [])), (4, (0, 40, 40, [])), (7, (0, 3, 3, [])), (9, (0, 3, 3, [])), (10, (0, 0, 0, [])), (11, (0, 3, 3, [])), (12, (0, 0, 1000000, []))], [(9, [12, 0], [8]), (7, [3, 11], [0]), (9, [3, 0], [6]), (7, [3, 9], [0]), (7, [3, 7], [1]), (20, [0], [50, 2, 0, 6, 8, 3, 7, 7, 3, 2, 0, 6, 0, 3, 0, 3, 2, 0, 8, 0, 9999]), (102, [5], [0]), (7, [3, 4], [1])], [], [], [(20, [10, 12], [50, 0, 0, 2, 6, 0, 2, 0, 0, 1, 0, 2, 6, 0, 2, 0, 0, 1, 1, 0, 10, 4, 6, 6, 2, 1, 0, 0, 65536, 1, 1, 0, 851970])], [], [])
theorem oo_Sy_compileValue_at_k6_3 {kA : Nat → ClassId} : or_ok PRD kA GG o_Sy_compileValue_at_k6_3 := by
  refine or_mk fun A ta ws vs hD hth hl => ?_
  intro t0 r0 t3 k3 t4 k4 t7 k7 t9 k9 t10 k10 t11 k11 t12 k12 f0 f1 f2 f3 f4 f5 ta1 w1 le1 s1 f7
  replace f0 := shm_293 f0
  replace f2 := shm_111 f2
  have g0 : v_iv (n_v vs 12) = w_fi ws (n_v vs 0) 8 := congrArg v_iv f0
  have g2 : v_iv (n_v vs 3) = w_fi ws (n_v vs 0) 6 := congrArg v_iv f2
  have kz_0_6 := fdq_313 hD hth r0
  have kz_0_8 := fdq_314 hD hth r0
  have nf0 : fc_1 PRD (20, [10, 12], [50, 0, 0, 2, 6, 0, 2, 0, 0, 1, 0, 2, 6, 0, 2, 0, 0, 1, 1, 0, 10, 4, 6, 6, 2, 1, 0, 0, 65536, 1, 1, 0, 851970]) ws (vs) := ⟨nf_in hl rfl, sgq_493 (vc_Sy_compileValue_at_k6_3_0 (v_iv (n_v vs 3)) (v_iv (n_v vs 4)) (v_iv (n_v vs 10)) (v_iv (n_v vs 12)) (w_fi ws (n_v vs 0) 8) (w_fi ws (n_v vs 0) 6) k3 k4 k10 k12 g0 g2 (shm_1840 f5) (shm_40 f7) kz_0_6 kz_0_8)⟩
  refine ⟨(fun _ h => (by cases h)), [], trivial, ?_, (fun _ h => (by cases h))⟩
  rw [List.append_nil]
  exact List.forall_mem_cons.mpr ⟨⟨show (20 : Nat) < 100 from by decide, nf0⟩, (fun _ h => (by cases h))⟩
set_option maxHeartbeats 4000000 in
theorem vc_Sy_compileValue_at_k6_4_0 (x3 : Int) (x4 : Int) (x6 : Int) (x7 : Int) (x8 : Int) (x9 : Int) (x10 : Int) (x11 : Int) (kind_0 : Int) (number_0 : Int) (k3 : 0 ≤ x3 ∧ x3 ≤ 127) (k4 : 40 ≤ x4 ∧ x4 ≤ 40) (k6 : 0 ≤ x6 ∧ x6 ≤ 43) (k7 : 3 ≤ x7 ∧ x7 ≤ 3) (k8 : (-1) ≤ x8 ∧ x8 ≤ (-1)) (k9 : 3 ≤ x9 ∧ x9 ≤ 3) (k10 : 1 ≤ x10 ∧ x10 ≤ 1) (k11 : 3 ≤ x11 ∧ x11 ≤ 3) (f0 : x3 ≠ x11) (g1 : x3 = kind_0) (f2 : x3 ≠ x9) (f3 : x6 ≠ x8) (f4 : x3 ≠ x7) (f5 : (kind_0 ≠ 3) ∨ (number_0 ≤ 9999)) (f7 : x3 ≠ x4) (kz_0_6 : 0 ≤ kind_0 ∧ kind_0 ≤ 127) (kz_0_8 : 0 ≤ number_0 ∧ number_0 ≤ 1000000) : (0 ≤ x10) ∧ ((0 ≤ x6) ∧ (((x10 * 65536) + x6) ≤ 851970)) := by
  first
    | omega
  
def o_Sy_compileValue_at_k6_4 : or_T := (108, 12, [(0, (2, 0, 0, [11])), (3, (0, 0, 127, [])), (4, (0, 40, 40, [])), (6, (0, 0, 43, [])), (7, (0, 3, 3, [])), (8, (0, -1, -1, [])), (9, (0, 3, 3, [])), (10, (0, 1, 1, [])), (11, (0, 3, 3, []))], [(7, [3, 11], [1]), (9, [3, 0], [6]), (7, [3, 9], [1]), (7, [6, 8], [1]), (7, [3, 7], [1]), (20, [0], [50, 2, 0, 6, 8, 3, 7, 7, 3, 2, 0, 6, 0, 3, 0, 3, 2, 0, 8, 0, 9999]), (102, [5], [0]), (7, [3, 4], [1])], [], [], [(20, [10, 6], [50, 0, 0, 2, 6, 0, 2, 0, 0, 1, 0, 2, 6, 0, 2, 0, 0, 1, 1, 0, 10, 4, 6, 6, 2, 1, 0, 0, 65536, 1, 1, 0, 851970])], [], [])
theorem oo_Sy_compileValue_at_k6_4 {kA : Nat → ClassId} : or_ok PRD kA GG o_Sy_compileValue_at_k6_4 := by
  refine or_mk fun A ta ws vs hD hth hl => ?_
  intro t0 r0 t3 k3 t4 k4 t6 k6 t7 k7 t8 k8 t9 k9 t10 k10 t11 k11 f0 f1 f2 f3 f4 f5 ta1 w1 le1 s1 f7
  replace f1 := shm_111 f1
  have g1 : v_iv (n_v vs 3) = w_fi ws (n_v vs 0) 6 := congrArg v_iv f1
  have kz_0_6 := fdq_313 hD hth r0
  have kz_0_8 := fdq_314 hD hth r0
  have nf0 : fc_1 PRD (20, [10, 6], [50, 0, 0, 2, 6, 0, 2, 0, 0, 1, 0, 2, 6, 0, 2, 0, 0, 1, 1, 0, 10, 4, 6, 6, 2, 1, 0, 0, 65536, 1, 1, 0, 851970]) ws (vs) := ⟨nf_in hl rfl, sgq_493 (vc_Sy_compileValue_at_k6_4_0 (v_iv (n_v vs 3)) (v_iv (n_v vs 4)) (v_iv (n_v vs 6)) (v_iv (n_v vs 7)) (v_iv (n_v vs 8)) (v_iv (n_v vs 9)) (v_iv (n_v vs 10)) (v_iv (n_v vs 11)) (w_fi ws (n_v vs 0) 6) (w_fi ws (n_v vs 0) 8) k3 k4 k6 k7 k8 k9 k10 k11 (shm_40 f0) g1 (shm_40 f2) (shm_40 f3) (shm_40 f4) (shm_1840 f5) (shm_40 f7) kz_0_6 kz_0_8)⟩
  refine ⟨(fun _ h => (by cases h)), [], trivial, ?_, (fun _ h => (by cases h))⟩
  rw [List.append_nil]
  exact List.forall_mem_cons.mpr ⟨⟨show (20 : Nat) < 100 from by decide, nf0⟩, (fun _ h => (by cases h))⟩
def n_Sy_compileValue_at_k6_an : List an_T := []
def t_Sy_compileValue_at_k6_ct : ct_L := [(1, 69, e_Sy_advance), (1, 118, e_Sy_fail), (1, 128, e_Sy_emit), (1, 152, e_Sy_closes), (91, 137, e_Sy_compileSum_at_k7), (169, 114, e_Sy_wordIn_at_s5007), (169, 114, e_Sy_wordIn_at_s5004)]
set_option maxRecDepth 100000 in
theorem c_Sy_compileValue_at_k6 {l : Launch} {D : va_G} {kA : Nat → ClassId} (h_Sy_advance : ct_ok PRD l D kA GG y_Sy_advance z_Sy_advance e_Sy_advance) (h_Sy_closes : ct_ok PRD l D kA GG y_Sy_closes z_Sy_closes e_Sy_closes) (h_Sy_compileSum_at_k7 : ct_ok PRD l D kA GG y_Sy_compileSum_at_k7 z_Sy_compileSum_at_k7 e_Sy_compileSum_at_k7) (h_Sy_emit : ct_ok PRD l D kA GG y_Sy_emit z_Sy_emit e_Sy_emit) (h_Sy_fail : ct_ok PRD l D kA GG y_Sy_fail z_Sy_fail e_Sy_fail) (h_Sy_wordIn_at_s5004 : ct_ok PRD l D kA GG y_Sy_wordIn_at_s5004 z_Sy_wordIn_at_s5004 e_Sy_wordIn_at_s5004) (h_Sy_wordIn_at_s5007 : ct_ok PRD l D kA GG y_Sy_wordIn_at_s5007 z_Sy_wordIn_at_s5007 e_Sy_wordIn_at_s5007) : ct_ok PRD l D kA GG y_Sy_compileValue_at_k6 z_Sy_compileValue_at_k6 e_Sy_compileValue_at_k6 := chk_all_ok (FT := [(31, 11, 6), (37, 11, 8), (42, 11, 9)]) (PT := []) (CT := t_Sy_compileValue_at_k6_ct) (KT := []) (NT := []) (AN := n_Sy_compileValue_at_k6_an) (OT := [o_Sy_compileValue_at_k6_0, o_Sy_compileValue_at_k6_1, o_Sy_compileValue_at_k6_2, o_Sy_compileValue_at_k6_3, o_Sy_compileValue_at_k6_4]) 0 684 (List.forall_mem_cons.mpr ⟨oo_Sy_compileValue_at_k6_0, List.forall_mem_cons.mpr ⟨oo_Sy_compileValue_at_k6_1, List.forall_mem_cons.mpr ⟨oo_Sy_compileValue_at_k6_2, List.forall_mem_cons.mpr ⟨oo_Sy_compileValue_at_k6_3, List.forall_mem_cons.mpr ⟨oo_Sy_compileValue_at_k6_4, List.forall_mem_nil _⟩⟩⟩⟩⟩) (by decide +kernel) ⟨List.forall_mem_cons.mpr ⟨gf_Sy_31, List.forall_mem_cons.mpr ⟨gf_Sy_37, List.forall_mem_cons.mpr ⟨gf_Sy_42, List.forall_mem_nil _⟩⟩⟩, List.forall_mem_nil _, List.forall_mem_cons.mpr ⟨cl_virtual (y := y_Sy_advance) (ci := 11) rfl rfl ⟨_, _, rfl⟩ (by decide +kernel) h_Sy_advance wm_2158 wm_23 wm_2155 wm_2157 wv_10_10 ⟨by decide, by decide, by decide +kernel⟩ (by decide), List.forall_mem_cons.mpr ⟨cl_virtual (y := y_Sy_fail) (ci := 11) rfl rfl ⟨_, _, rfl⟩ (by decide +kernel) h_Sy_fail wm_2239 wm_23 wm_2236 wm_2238 wv_10_14 ⟨by decide, by decide, by decide +kernel⟩ (by decide), List.forall_mem_cons.mpr ⟨cl_virtual (y := y_Sy_emit) (ci := 11) rfl rfl ⟨_, _, rfl⟩ (by decide +kernel) h_Sy_emit wm_2258 wm_23 wm_2255 wm_2257 wv_11_2 ⟨by decide, by decide, by decide +kernel⟩ (by decide), List.forall_mem_cons.mpr ⟨cl_virtual (y := y_Sy_closes) (ci := 11) rfl rfl ⟨_, _, rfl⟩ (by decide +kernel) h_Sy_closes wm_2262 wm_23 wm_2259 wm_2261 wv_11_3 ⟨by decide, by decide, by decide +kernel⟩ (by decide), List.forall_mem_cons.mpr ⟨cl_virtual (y := y_Sy_compileSum_at_k7) (ci := 11) rfl rfl ⟨_, _, rfl⟩ (by decide +kernel) h_Sy_compileSum_at_k7 wm_2266 wm_23 wm_2263 wm_2265 wv_11_4 ⟨by decide, by decide, by decide +kernel⟩ (by decide), List.forall_mem_cons.mpr ⟨cl_virtual (y := y_Sy_wordIn_at_s5007) (ci := 11) rfl rfl ⟨_, _, rfl⟩ (by decide +kernel) h_Sy_wordIn_at_s5007 wm_2229 wm_23 wm_2226 wm_2228 wv_10_12 ⟨by decide, by decide, by decide +kernel⟩ (by decide), List.forall_mem_cons.mpr ⟨cl_virtual (y := y_Sy_wordIn_at_s5004) (ci := 11) rfl rfl ⟨_, _, rfl⟩ (by decide +kernel) h_Sy_wordIn_at_s5004 wm_2229 wm_23 wm_2226 wm_2228 wv_10_12 ⟨by decide, by decide, by decide +kernel⟩ (by decide), List.forall_mem_nil _⟩⟩⟩⟩⟩⟩⟩, List.forall_mem_nil _, List.forall_mem_nil _, GG_pl⟩ (by decide +kernel)
set_option maxHeartbeats 4000000 in
theorem vc_Sy_compileValue_at_k7_0_0 (x3 : Int) (x4 : Int) (x9 : Int) (x11 : Int) (number_0 : Int) (kind_0 : Int) (k3 : 3 ≤ x3 ∧ x3 ≤ 3) (k4 : 40 ≤ x4 ∧ x4 ≤ 40) (k9 : 0 ≤ x9 ∧ x9 ≤ 0) (k11 : 0 ≤ x11 ∧ x11 ≤ 1000000) (g0 : x11 = number_0) (g2 : x3 = kind_0) (f5 : (kind_0 ≠ 3) ∨ (number_0 ≤ 9999)) (f7 : x3 ≠ x4) (kz_0_6 : 0 ≤ kind_0 ∧ kind_0 ≤ 127) (kz_0_8 : 0 ≤ number_0 ∧ number_0 ≤ 1000000) : (0 ≤ x9) ∧ ((0 ≤ x11) ∧ (((x9 * 65536) + x11) ≤ 851970)) := by
  first
    | omega
  
def o_Sy_compileValue_at_k7_0 : or_T := (108, 12, [(0, (2, 0, 0, [11])), (3, (0, 3, 3, [])), (4, (0, 40, 40, [])), (7, (0, 3, 3, [])), (8, (0, 3, 3, [])), (9, (0, 0, 0, [])), (10, (0, 3, 3, [])), (11, (0, 0, 1000000, []))], [(9, [11, 0], [8]), (7, [3, 10], [0]), (9, [3, 0], [6]), (7, [3, 8], [0]), (7, [3, 7], [0]), (20, [0], [50, 2, 0, 6, 8, 3, 7, 7, 3, 2, 0, 6, 0, 3, 0, 3, 2, 0, 8, 0, 9999]), (102, [5], [0]), (7, [3, 4], [1])], [], [], [(20, [9, 11], [50, 0, 0, 2, 6, 0, 2, 0, 0, 1, 0, 2, 6, 0, 2, 0, 0, 1, 1, 0, 10, 4, 6, 6, 2, 1, 0, 0, 65536, 1, 1, 0, 851970])], [], [])
theorem oo_Sy_compileValue_at_k7_0 {kA : Nat → ClassId} : or_ok PRD kA GG o_Sy_compileValue_at_k7_0 := by
  refine or_mk fun A ta ws vs hD hth hl => ?_
  intro t0 r0 t3 k3 t4 k4 t7 k7 t8 k8 t9 k9 t10 k10 t11 k11 f0 f1 f2 f3 f4 f5 ta1 w1 le1 s1 f7
  replace f0 := shm_293 f0
  replace f2 := shm_111 f2
  have g0 : v_iv (n_v vs 11) = w_fi ws (n_v vs 0) 8 := congrArg v_iv f0
  have g2 : v_iv (n_v vs 3) = w_fi ws (n_v vs 0) 6 := congrArg v_iv f2
  have kz_0_6 := fdq_313 hD hth r0
  have kz_0_8 := fdq_314 hD hth r0
  have nf0 : fc_1 PRD (20, [9, 11], [50, 0, 0, 2, 6, 0, 2, 0, 0, 1, 0, 2, 6, 0, 2, 0, 0, 1, 1, 0, 10, 4, 6, 6, 2, 1, 0, 0, 65536, 1, 1, 0, 851970]) ws (vs) := ⟨nf_in hl rfl, sgq_493 (vc_Sy_compileValue_at_k7_0_0 (v_iv (n_v vs 3)) (v_iv (n_v vs 4)) (v_iv (n_v vs 9)) (v_iv (n_v vs 11)) (w_fi ws (n_v vs 0) 8) (w_fi ws (n_v vs 0) 6) k3 k4 k9 k11 g0 g2 (shm_1840 f5) (shm_40 f7) kz_0_6 kz_0_8)⟩
  refine ⟨(fun _ h => (by cases h)), [], trivial, ?_, (fun _ h => (by cases h))⟩
  rw [List.append_nil]
  exact List.forall_mem_cons.mpr ⟨⟨show (20 : Nat) < 100 from by decide, nf0⟩, (fun _ h => (by cases h))⟩
set_option maxHeartbeats 4000000 in
theorem vc_Sy_compileValue_at_k7_1_0 (x3 : Int) (x4 : Int) (x6 : Int) (x7 : Int) (x8 : Int) (x9 : Int) (x10 : Int) (x11 : Int) (kind_0 : Int) (number_0 : Int) (k3 : 0 ≤ x3 ∧ x3 ≤ 127) (k4 : 40 ≤ x4 ∧ x4 ≤ 40) (k6 : 0 ≤ x6 ∧ x6 ≤ 38) (k7 : 3 ≤ x7 ∧ x7 ≤ 3) (k8 : (-1) ≤ x8 ∧ x8 ≤ (-1)) (k9 : 3 ≤ x9 ∧ x9 ≤ 3) (k10 : 1 ≤ x10 ∧ x10 ≤ 1) (k11 : 3 ≤ x11 ∧ x11 ≤ 3) (f0 : x3 ≠ x11) (g1 : x3 = kind_0) (f2 : x3 ≠ x9) (f3 : x6 ≠ x8) (f4 : x3 ≠ x7) (f5 : (kind_0 ≠ 3) ∨ (number_0 ≤ 9999)) (f7 : x3 ≠ x4) (kz_0_6 : 0 ≤ kind_0 ∧ kind_0 ≤ 127) (kz_0_8 : 0 ≤ number_0 ∧ number_0 ≤ 1000000) : (0 ≤ x10) ∧ ((0 ≤ x6) ∧ (((x10 * 65536) + x6) ≤ 851970)) := by
  first
    | omega
  
def o_Sy_compileValue_at_k7_1 : or_T := (108, 12, [(0, (2, 0, 0, [11])), (3, (0, 0, 127, [])), (4, (0, 40, 40, [])), (6, (0, 0, 38, [])), (7, (0, 3, 3, [])), (8, (0, -1, -1, [])), (9, (0, 3, 3, [])), (10, (0, 1, 1, [])), (11, (0, 3, 3, []))], [(7, [3, 11], [1]), (9, [3, 0], [6]), (7, [3, 9], [1]), (7, [6, 8], [1]), (7, [3, 7], [1]), (20, [0], [50, 2, 0, 6, 8, 3, 7, 7, 3, 2, 0, 6, 0, 3, 0, 3, 2, 0, 8, 0, 9999]), (102, [5], [0]), (7, [3, 4], [1])], [], [], [(20, [10, 6], [50, 0, 0, 2, 6, 0, 2, 0, 0, 1, 0, 2, 6, 0, 2, 0, 0, 1, 1, 0, 10, 4, 6, 6, 2, 1, 0, 0, 65536, 1, 1, 0, 851970])], [], [])
theorem oo_Sy_compileValue_at_k7_1 {kA : Nat → ClassId} : or_ok PRD kA GG o_Sy_compileValue_at_k7_1 := by
  refine or_mk fun A ta ws vs hD hth hl => ?_
  intro t0 r0 t3 k3 t4 k4 t6 k6 t7 k7 t8 k8 t9 k9 t10 k10 t11 k11 f0 f1 f2 f3 f4 f5 ta1 w1 le1 s1 f7
  replace f1 := shm_111 f1
  have g1 : v_iv (n_v vs 3) = w_fi ws (n_v vs 0) 6 := congrArg v_iv f1
  have kz_0_6 := fdq_313 hD hth r0
  have kz_0_8 := fdq_314 hD hth r0
  have nf0 : fc_1 PRD (20, [10, 6], [50, 0, 0, 2, 6, 0, 2, 0, 0, 1, 0, 2, 6, 0, 2, 0, 0, 1, 1, 0, 10, 4, 6, 6, 2, 1, 0, 0, 65536, 1, 1, 0, 851970]) ws (vs) := ⟨nf_in hl rfl, sgq_493 (vc_Sy_compileValue_at_k7_1_0 (v_iv (n_v vs 3)) (v_iv (n_v vs 4)) (v_iv (n_v vs 6)) (v_iv (n_v vs 7)) (v_iv (n_v vs 8)) (v_iv (n_v vs 9)) (v_iv (n_v vs 10)) (v_iv (n_v vs 11)) (w_fi ws (n_v vs 0) 6) (w_fi ws (n_v vs 0) 8) k3 k4 k6 k7 k8 k9 k10 k11 (shm_40 f0) g1 (shm_40 f2) (shm_40 f3) (shm_40 f4) (shm_1840 f5) (shm_40 f7) kz_0_6 kz_0_8)⟩
  refine ⟨(fun _ h => (by cases h)), [], trivial, ?_, (fun _ h => (by cases h))⟩
  rw [List.append_nil]
  exact List.forall_mem_cons.mpr ⟨⟨show (20 : Nat) < 100 from by decide, nf0⟩, (fun _ h => (by cases h))⟩
set_option maxHeartbeats 4000000 in
theorem vc_Sy_compileValue_at_k7_2_0 (x3 : Int) (x4 : Int) (x10 : Int) (x12 : Int) (number_0 : Int) (kind_0 : Int) (k3 : 3 ≤ x3 ∧ x3 ≤ 3) (k4 : 40 ≤ x4 ∧ x4 ≤ 40) (k10 : 1 ≤ x10 ∧ x10 ≤ 1) (k12 : 0 ≤ x12 ∧ x12 ≤ 1000000) (g0 : x12 = number_0) (g2 : x3 = kind_0) (f5 : (kind_0 ≠ 3) ∨ (number_0 ≤ 9999)) (f7 : x3 ≠ x4) (kz_0_6 : 0 ≤ kind_0 ∧ kind_0 ≤ 127) (kz_0_8 : 0 ≤ number_0 ∧ number_0 ≤ 1000000) : (0 ≤ x10) ∧ ((0 ≤ x12) ∧ (((x10 * 65536) + x12) ≤ 851970)) := by
  first
    | omega
  
def o_Sy_compileValue_at_k7_2 : or_T := (108, 13, [(0, (2, 0, 0, [11])), (3, (0, 3, 3, [])), (4, (0, 40, 40, [])), (7, (0, 3, 3, [])), (9, (0, 3, 3, [])), (10, (0, 1, 1, [])), (11, (0, 3, 3, [])), (12, (0, 0, 1000000, []))], [(9, [12, 0], [8]), (7, [3, 11], [0]), (9, [3, 0], [6]), (7, [3, 9], [1]), (7, [3, 7], [1]), (20, [0], [50, 2, 0, 6, 8, 3, 7, 7, 3, 2, 0, 6, 0, 3, 0, 3, 2, 0, 8, 0, 9999]), (102, [5], [0]), (7, [3, 4], [1])], [], [], [(20, [10, 12], [50, 0, 0, 2, 6, 0, 2, 0, 0, 1, 0, 2, 6, 0, 2, 0, 0, 1, 1, 0, 10, 4, 6, 6, 2, 1, 0, 0, 65536, 1, 1, 0, 851970])], [], [])
theorem oo_Sy_compileValue_at_k7_2 {kA : Nat → ClassId} : or_ok PRD kA GG o_Sy_compileValue_at_k7_2 := by
  refine or_mk fun A ta ws vs hD hth hl => ?_
  intro t0 r0 t3 k3 t4 k4 t7 k7 t9 k9 t10 k10 t11 k11 t12 k12 f0 f1 f2 f3 f4 f5 ta1 w1 le1 s1 f7
  replace f0 := shm_293 f0
  replace f2 := shm_111 f2
  have g0 : v_iv (n_v vs 12) = w_fi ws (n_v vs 0) 8 := congrArg v_iv f0
  have g2 : v_iv (n_v vs 3) = w_fi ws (n_v vs 0) 6 := congrArg v_iv f2
  have kz_0_6 := fdq_313 hD hth r0
  have kz_0_8 := fdq_314 hD hth r0
  have nf0 : fc_1 PRD (20, [10, 12], [50, 0, 0, 2, 6, 0, 2, 0, 0, 1, 0, 2, 6, 0, 2, 0, 0, 1, 1, 0, 10, 4, 6, 6, 2, 1, 0, 0, 65536, 1, 1, 0, 851970]) ws (vs) := ⟨nf_in hl rfl, sgq_493 (vc_Sy_compileValue_at_k7_2_0 (v_iv (n_v vs 3)) (v_iv (n_v vs 4)) (v_iv (n_v vs 10)) (v_iv (n_v vs 12)) (w_fi ws (n_v vs 0) 8) (w_fi ws (n_v vs 0) 6) k3 k4 k10 k12 g0 g2 (shm_1840 f5) (shm_40 f7) kz_0_6 kz_0_8)⟩
  refine ⟨(fun _ h => (by cases h)), [], trivial, ?_, (fun _ h => (by cases h))⟩
  rw [List.append_nil]
  exact List.forall_mem_cons.mpr ⟨⟨show (20 : Nat) < 100 from by decide, nf0⟩, (fun _ h => (by cases h))⟩
set_option maxHeartbeats 4000000 in
theorem vc_Sy_compileValue_at_k7_3_0 (x3 : Int) (x4 : Int) (x10 : Int) (x12 : Int) (number_0 : Int) (kind_0 : Int) (k3 : 3 ≤ x3 ∧ x3 ≤ 3) (k4 : 40 ≤ x4 ∧ x4 ≤ 40) (k10 : 0 ≤ x10 ∧ x10 ≤ 0) (k12 : 0 ≤ x12 ∧ x12 ≤ 1000000) (g0 : x12 = number_0) (g2 : x3 = kind_0) (f5 : (kind_0 ≠ 3) ∨ (number_0 ≤ 9999)) (f7 : x3 ≠ x4) (kz_0_6 : 0 ≤ kind_0 ∧ kind_0 ≤ 127) (kz_0_8 : 0 ≤ number_0 ∧ number_0 ≤ 1000000) : (0 ≤ x10) ∧ ((0 ≤ x12) ∧ (((x10 * 65536) + x12) ≤ 851970)) := by
  first
    | omega
  
def o_Sy_compileValue_at_k7_3 : or_T := (108, 13, [(0, (2, 0, 0, [11])), (3, (0, 3, 3, [])), (4, (0, 40, 40, [])), (7, (0, 3, 3, [])), (9, (0, 3, 3, [])), (10, (0, 0, 0, [])), (11, (0, 3, 3, [])), (12, (0, 0, 1000000, []))], [(9, [12, 0], [8]), (7, [3, 11], [0]), (9, [3, 0], [6]), (7, [3, 9], [0]), (7, [3, 7], [1]), (20, [0], [50, 2, 0, 6, 8, 3, 7, 7, 3, 2, 0, 6, 0, 3, 0, 3, 2, 0, 8, 0, 9999]), (102, [5], [0]), (7, [3, 4], [1])], [], [], [(20, [10, 12], [50, 0, 0, 2, 6, 0, 2, 0, 0, 1, 0, 2, 6, 0, 2, 0, 0, 1, 1, 0, 10, 4, 6, 6, 2, 1, 0, 0, 65536, 1, 1, 0, 851970])], [], [])
theorem oo_Sy_compileValue_at_k7_3 {kA : Nat → ClassId} : or_ok PRD kA GG o_Sy_compileValue_at_k7_3 := by
  refine or_mk fun A ta ws vs hD hth hl => ?_
  intro t0 r0 t3 k3 t4 k4 t7 k7 t9 k9 t10 k10 t11 k11 t12 k12 f0 f1 f2 f3 f4 f5 ta1 w1 le1 s1 f7
  replace f0 := shm_293 f0
  replace f2 := shm_111 f2
  have g0 : v_iv (n_v vs 12) = w_fi ws (n_v vs 0) 8 := congrArg v_iv f0
  have g2 : v_iv (n_v vs 3) = w_fi ws (n_v vs 0) 6 := congrArg v_iv f2
  have kz_0_6 := fdq_313 hD hth r0
  have kz_0_8 := fdq_314 hD hth r0
  have nf0 : fc_1 PRD (20, [10, 12], [50, 0, 0, 2, 6, 0, 2, 0, 0, 1, 0, 2, 6, 0, 2, 0, 0, 1, 1, 0, 10, 4, 6, 6, 2, 1, 0, 0, 65536, 1, 1, 0, 851970]) ws (vs) := ⟨nf_in hl rfl, sgq_493 (vc_Sy_compileValue_at_k7_3_0 (v_iv (n_v vs 3)) (v_iv (n_v vs 4)) (v_iv (n_v vs 10)) (v_iv (n_v vs 12)) (w_fi ws (n_v vs 0) 8) (w_fi ws (n_v vs 0) 6) k3 k4 k10 k12 g0 g2 (shm_1840 f5) (shm_40 f7) kz_0_6 kz_0_8)⟩
  refine ⟨(fun _ h => (by cases h)), [], trivial, ?_, (fun _ h => (by cases h))⟩
  rw [List.append_nil]
  exact List.forall_mem_cons.mpr ⟨⟨show (20 : Nat) < 100 from by decide, nf0⟩, (fun _ h => (by cases h))⟩
set_option maxHeartbeats 4000000 in
theorem vc_Sy_compileValue_at_k7_4_0 (x3 : Int) (x4 : Int) (x6 : Int) (x7 : Int) (x8 : Int) (x9 : Int) (x10 : Int) (x11 : Int) (kind_0 : Int) (number_0 : Int) (k3 : 0 ≤ x3 ∧ x3 ≤ 127) (k4 : 40 ≤ x4 ∧ x4 ≤ 40) (k6 : 0 ≤ x6 ∧ x6 ≤ 43) (k7 : 3 ≤ x7 ∧ x7 ≤ 3) (k8 : (-1) ≤ x8 ∧ x8 ≤ (-1)) (k9 : 3 ≤ x9 ∧ x9 ≤ 3) (k10 : 1 ≤ x10 ∧ x10 ≤ 1) (k11 : 3 ≤ x11 ∧ x11 ≤ 3) (f0 : x3 ≠ x11) (g1 : x3 = kind_0) (f2 : x3 ≠ x9) (f3 : x6 ≠ x8) (f4 : x3 ≠ x7) (f5 : (kind_0 ≠ 3) ∨ (number_0 ≤ 9999)) (f7 : x3 ≠ x4) (kz_0_6 : 0 ≤ kind_0 ∧ kind_0 ≤ 127) (kz_0_8 : 0 ≤ number_0 ∧ number_0 ≤ 1000000) : (0 ≤ x10) ∧ ((0 ≤ x6) ∧ (((x10 * 65536) + x6) ≤ 851970)) := by
  first
    | omega
  
def o_Sy_compileValue_at_k7_4 : or_T := (108, 12, [(0, (2, 0, 0, [11])), (3, (0, 0, 127, [])), (4, (0, 40, 40, [])), (6, (0, 0, 43, [])), (7, (0, 3, 3, [])), (8, (0, -1, -1, [])), (9, (0, 3, 3, [])), (10, (0, 1, 1, [])), (11, (0, 3, 3, []))], [(7, [3, 11], [1]), (9, [3, 0], [6]), (7, [3, 9], [1]), (7, [6, 8], [1]), (7, [3, 7], [1]), (20, [0], [50, 2, 0, 6, 8, 3, 7, 7, 3, 2, 0, 6, 0, 3, 0, 3, 2, 0, 8, 0, 9999]), (102, [5], [0]), (7, [3, 4], [1])], [], [], [(20, [10, 6], [50, 0, 0, 2, 6, 0, 2, 0, 0, 1, 0, 2, 6, 0, 2, 0, 0, 1, 1, 0, 10, 4, 6, 6, 2, 1, 0, 0, 65536, 1, 1, 0, 851970])], [], [])
theorem oo_Sy_compileValue_at_k7_4 {kA : Nat → ClassId} : or_ok PRD kA GG o_Sy_compileValue_at_k7_4 := by
  refine or_mk fun A ta ws vs hD hth hl => ?_
  intro t0 r0 t3 k3 t4 k4 t6 k6 t7 k7 t8 k8 t9 k9 t10 k10 t11 k11 f0 f1 f2 f3 f4 f5 ta1 w1 le1 s1 f7
  replace f1 := shm_111 f1
  have g1 : v_iv (n_v vs 3) = w_fi ws (n_v vs 0) 6 := congrArg v_iv f1
  have kz_0_6 := fdq_313 hD hth r0
  have kz_0_8 := fdq_314 hD hth r0
  have nf0 : fc_1 PRD (20, [10, 6], [50, 0, 0, 2, 6, 0, 2, 0, 0, 1, 0, 2, 6, 0, 2, 0, 0, 1, 1, 0, 10, 4, 6, 6, 2, 1, 0, 0, 65536, 1, 1, 0, 851970]) ws (vs) := ⟨nf_in hl rfl, sgq_493 (vc_Sy_compileValue_at_k7_4_0 (v_iv (n_v vs 3)) (v_iv (n_v vs 4)) (v_iv (n_v vs 6)) (v_iv (n_v vs 7)) (v_iv (n_v vs 8)) (v_iv (n_v vs 9)) (v_iv (n_v vs 10)) (v_iv (n_v vs 11)) (w_fi ws (n_v vs 0) 6) (w_fi ws (n_v vs 0) 8) k3 k4 k6 k7 k8 k9 k10 k11 (shm_40 f0) g1 (shm_40 f2) (shm_40 f3) (shm_40 f4) (shm_1840 f5) (shm_40 f7) kz_0_6 kz_0_8)⟩
  refine ⟨(fun _ h => (by cases h)), [], trivial, ?_, (fun _ h => (by cases h))⟩
  rw [List.append_nil]
  exact List.forall_mem_cons.mpr ⟨⟨show (20 : Nat) < 100 from by decide, nf0⟩, (fun _ h => (by cases h))⟩
def n_Sy_compileValue_at_k7_an : List an_T := []
def t_Sy_compileValue_at_k7_ct : ct_L := [(1, 69, e_Sy_advance), (1, 118, e_Sy_fail), (1, 128, e_Sy_emit), (1, 152, e_Sy_closes), (91, 137, e_Sy_compileSum_at_k8), (169, 114, e_Sy_wordIn_at_s5007), (169, 114, e_Sy_wordIn_at_s5004)]
set_option maxRecDepth 100000 in
theorem c_Sy_compileValue_at_k7 {l : Launch} {D : va_G} {kA : Nat → ClassId} (h_Sy_advance : ct_ok PRD l D kA GG y_Sy_advance z_Sy_advance e_Sy_advance) (h_Sy_closes : ct_ok PRD l D kA GG y_Sy_closes z_Sy_closes e_Sy_closes) (h_Sy_compileSum_at_k8 : ct_ok PRD l D kA GG y_Sy_compileSum_at_k8 z_Sy_compileSum_at_k8 e_Sy_compileSum_at_k8) (h_Sy_emit : ct_ok PRD l D kA GG y_Sy_emit z_Sy_emit e_Sy_emit) (h_Sy_fail : ct_ok PRD l D kA GG y_Sy_fail z_Sy_fail e_Sy_fail) (h_Sy_wordIn_at_s5004 : ct_ok PRD l D kA GG y_Sy_wordIn_at_s5004 z_Sy_wordIn_at_s5004 e_Sy_wordIn_at_s5004) (h_Sy_wordIn_at_s5007 : ct_ok PRD l D kA GG y_Sy_wordIn_at_s5007 z_Sy_wordIn_at_s5007 e_Sy_wordIn_at_s5007) : ct_ok PRD l D kA GG y_Sy_compileValue_at_k7 z_Sy_compileValue_at_k7 e_Sy_compileValue_at_k7 := chk_all_ok (FT := [(31, 11, 6), (37, 11, 8), (42, 11, 9)]) (PT := []) (CT := t_Sy_compileValue_at_k7_ct) (KT := []) (NT := []) (AN := n_Sy_compileValue_at_k7_an) (OT := [o_Sy_compileValue_at_k7_0, o_Sy_compileValue_at_k7_1, o_Sy_compileValue_at_k7_2, o_Sy_compileValue_at_k7_3, o_Sy_compileValue_at_k7_4]) 0 684 (List.forall_mem_cons.mpr ⟨oo_Sy_compileValue_at_k7_0, List.forall_mem_cons.mpr ⟨oo_Sy_compileValue_at_k7_1, List.forall_mem_cons.mpr ⟨oo_Sy_compileValue_at_k7_2, List.forall_mem_cons.mpr ⟨oo_Sy_compileValue_at_k7_3, List.forall_mem_cons.mpr ⟨oo_Sy_compileValue_at_k7_4, List.forall_mem_nil _⟩⟩⟩⟩⟩) (by decide +kernel) ⟨List.forall_mem_cons.mpr ⟨gf_Sy_31, List.forall_mem_cons.mpr ⟨gf_Sy_37, List.forall_mem_cons.mpr ⟨gf_Sy_42, List.forall_mem_nil _⟩⟩⟩, List.forall_mem_nil _, List.forall_mem_cons.mpr ⟨cl_virtual (y := y_Sy_advance) (ci := 11) rfl rfl ⟨_, _, rfl⟩ (by decide +kernel) h_Sy_advance wm_2158 wm_23 wm_2155 wm_2157 wv_10_10 ⟨by decide, by decide, by decide +kernel⟩ (by decide), List.forall_mem_cons.mpr ⟨cl_virtual (y := y_Sy_fail) (ci := 11) rfl rfl ⟨_, _, rfl⟩ (by decide +kernel) h_Sy_fail wm_2239 wm_23 wm_2236 wm_2238 wv_10_14 ⟨by decide, by decide, by decide +kernel⟩ (by decide), List.forall_mem_cons.mpr ⟨cl_virtual (y := y_Sy_emit) (ci := 11) rfl rfl ⟨_, _, rfl⟩ (by decide +kernel) h_Sy_emit wm_2258 wm_23 wm_2255 wm_2257 wv_11_2 ⟨by decide, by decide, by decide +kernel⟩ (by decide), List.forall_mem_cons.mpr ⟨cl_virtual (y := y_Sy_closes) (ci := 11) rfl rfl ⟨_, _, rfl⟩ (by decide +kernel) h_Sy_closes wm_2262 wm_23 wm_2259 wm_2261 wv_11_3 ⟨by decide, by decide, by decide +kernel⟩ (by decide), List.forall_mem_cons.mpr ⟨cl_virtual (y := y_Sy_compileSum_at_k8) (ci := 11) rfl rfl ⟨_, _, rfl⟩ (by decide +kernel) h_Sy_compileSum_at_k8 wm_2266 wm_23 wm_2263 wm_2265 wv_11_4 ⟨by decide, by decide, by decide +kernel⟩ (by decide), List.forall_mem_cons.mpr ⟨cl_virtual (y := y_Sy_wordIn_at_s5007) (ci := 11) rfl rfl ⟨_, _, rfl⟩ (by decide +kernel) h_Sy_wordIn_at_s5007 wm_2229 wm_23 wm_2226 wm_2228 wv_10_12 ⟨by decide, by decide, by decide +kernel⟩ (by decide), List.forall_mem_cons.mpr ⟨cl_virtual (y := y_Sy_wordIn_at_s5004) (ci := 11) rfl rfl ⟨_, _, rfl⟩ (by decide +kernel) h_Sy_wordIn_at_s5004 wm_2229 wm_23 wm_2226 wm_2228 wv_10_12 ⟨by decide, by decide, by decide +kernel⟩ (by decide), List.forall_mem_nil _⟩⟩⟩⟩⟩⟩⟩, List.forall_mem_nil _, List.forall_mem_nil _, GG_pl⟩ (by decide +kernel)
set_option maxHeartbeats 4000000 in
theorem vc_Sy_compileValue_at_k8_0_0 (x3 : Int) (x4 : Int) (x9 : Int) (x11 : Int) (number_0 : Int) (kind_0 : Int) (k3 : 3 ≤ x3 ∧ x3 ≤ 3) (k4 : 40 ≤ x4 ∧ x4 ≤ 40) (k9 : 0 ≤ x9 ∧ x9 ≤ 0) (k11 : 0 ≤ x11 ∧ x11 ≤ 1000000) (g0 : x11 = number_0) (g2 : x3 = kind_0) (f5 : (kind_0 ≠ 3) ∨ (number_0 ≤ 9999)) (f7 : x3 ≠ x4) (kz_0_6 : 0 ≤ kind_0 ∧ kind_0 ≤ 127) (kz_0_8 : 0 ≤ number_0 ∧ number_0 ≤ 1000000) : (0 ≤ x9) ∧ ((0 ≤ x11) ∧ (((x9 * 65536) + x11) ≤ 851970)) := by
  first
    | omega
  
def o_Sy_compileValue_at_k8_0 : or_T := (108, 12, [(0, (2, 0, 0, [11])), (3, (0, 3, 3, [])), (4, (0, 40, 40, [])), (7, (0, 3, 3, [])), (8, (0, 3, 3, [])), (9, (0, 0, 0, [])), (10, (0, 3, 3, [])), (11, (0, 0, 1000000, []))], [(9, [11, 0], [8]), (7, [3, 10], [0]), (9, [3, 0], [6]), (7, [3, 8], [0]), (7, [3, 7], [0]), (20, [0], [50, 2, 0, 6, 8, 3, 7, 7, 3, 2, 0, 6, 0, 3, 0, 3, 2, 0, 8, 0, 9999]), (102, [5], [0]), (7, [3, 4], [1])], [], [], [(20, [9, 11], [50, 0, 0, 2, 6, 0, 2, 0, 0, 1, 0, 2, 6, 0, 2, 0, 0, 1, 1, 0, 10, 4, 6, 6, 2, 1, 0, 0, 65536, 1, 1, 0, 851970])], [], [])
theorem oo_Sy_compileValue_at_k8_0 {kA : Nat → ClassId} : or_ok PRD kA GG o_Sy_compileValue_at_k8_0 := by
  refine or_mk fun A ta ws vs hD hth hl => ?_
  intro t0 r0 t3 k3 t4 k4 t7 k7 t8 k8 t9 k9 t10 k10 t11 k11 f0 f1 f2 f3 f4 f5 ta1 w1 le1 s1 f7
  replace f0 := shm_293 f0
  replace f2 := shm_111 f2
  have g0 : v_iv (n_v vs 11) = w_fi ws (n_v vs 0) 8 := congrArg v_iv f0
  have g2 : v_iv (n_v vs 3) = w_fi ws (n_v vs 0) 6 := congrArg v_iv f2
  have kz_0_6 := fdq_313 hD hth r0
  have kz_0_8 := fdq_314 hD hth r0
  have nf0 : fc_1 PRD (20, [9, 11], [50, 0, 0, 2, 6, 0, 2, 0, 0, 1, 0, 2, 6, 0, 2, 0, 0, 1, 1, 0, 10, 4, 6, 6, 2, 1, 0, 0, 65536, 1, 1, 0, 851970]) ws (vs) := ⟨nf_in hl rfl, sgq_493 (vc_Sy_compileValue_at_k8_0_0 (v_iv (n_v vs 3)) (v_iv (n_v vs 4)) (v_iv (n_v vs 9)) (v_iv (n_v vs 11)) (w_fi ws (n_v vs 0) 8) (w_fi ws (n_v vs 0) 6) k3 k4 k9 k11 g0 g2 (shm_1840 f5) (shm_40 f7) kz_0_6 kz_0_8)⟩
  refine ⟨(fun _ h => (by cases h)), [], trivial, ?_, (fun _ h => (by cases h))⟩
  rw [List.append_nil]
  exact List.forall_mem_cons.mpr ⟨⟨show (20 : Nat) < 100 from by decide, nf0⟩, (fun _ h => (by cases h))⟩
set_option maxHeartbeats 4000000 in
theorem vc_Sy_compileValue_at_k8_1_0 (x3 : Int) (x4 : Int) (x6 : Int) (x7 : Int) (x8 : Int) (x9 : Int) (x10 : Int) (x11 : Int) (kind_0 : Int) (number_0 : Int) (k3 : 0 ≤ x3 ∧ x3 ≤ 127) (k4 : 40 ≤ x4 ∧ x4 ≤ 40) (k6 : 0 ≤ x6 ∧ x6 ≤ 38) (k7 : 3 ≤ x7 ∧ x7 ≤ 3) (k8 : (-1) ≤ x8 ∧ x8 ≤ (-1)) (k9 : 3 ≤ x9 ∧ x9 ≤ 3) (k10 : 1 ≤ x10 ∧ x10 ≤ 1) (k11 : 3 ≤ x11 ∧ x11 ≤ 3) (f0 : x3 ≠ x11) (g1 : x3 = kind_0) (f2 : x3 ≠ x9) (f3 : x6 ≠ x8) (f4 : x3 ≠ x7) (f5 : (kind_0 ≠ 3) ∨ (number_0 ≤ 9999)) (f7 : x3 ≠ x4) (kz_0_6 : 0 ≤ kind_0 ∧ kind_0 ≤ 127) (kz_0_8 : 0 ≤ number_0 ∧ number_0 ≤ 1000000) : (0 ≤ x10) ∧ ((0 ≤ x6) ∧ (((x10 * 65536) + x6) ≤ 851970)) := by
  first
    | omega
  
def o_Sy_compileValue_at_k8_1 : or_T := (108, 12, [(0, (2, 0, 0, [11])), (3, (0, 0, 127, [])), (4, (0, 40, 40, [])), (6, (0, 0, 38, [])), (7, (0, 3, 3, [])), (8, (0, -1, -1, [])), (9, (0, 3, 3, [])), (10, (0, 1, 1, [])), (11, (0, 3, 3, []))], [(7, [3, 11], [1]), (9, [3, 0], [6]), (7, [3, 9], [1]), (7, [6, 8], [1]), (7, [3, 7], [1]), (20, [0], [50, 2, 0, 6, 8, 3, 7, 7, 3, 2, 0, 6, 0, 3, 0, 3, 2, 0, 8, 0, 9999]), (102, [5], [0]), (7, [3, 4], [1])], [], [], [(20, [10, 6], [50, 0, 0, 2, 6, 0, 2, 0, 0, 1, 0, 2, 6, 0, 2, 0, 0, 1, 1, 0, 10, 4, 6, 6, 2, 1, 0, 0, 65536, 1, 1, 0, 851970])], [], [])
theorem oo_Sy_compileValue_at_k8_1 {kA : Nat → ClassId} : or_ok PRD kA GG o_Sy_compileValue_at_k8_1 := by
  refine or_mk fun A ta ws vs hD hth hl => ?_
  intro t0 r0 t3 k3 t4 k4 t6 k6 t7 k7 t8 k8 t9 k9 t10 k10 t11 k11 f0 f1 f2 f3 f4 f5 ta1 w1 le1 s1 f7
  replace f1 := shm_111 f1
  have g1 : v_iv (n_v vs 3) = w_fi ws (n_v vs 0) 6 := congrArg v_iv f1
  have kz_0_6 := fdq_313 hD hth r0
  have kz_0_8 := fdq_314 hD hth r0
  have nf0 : fc_1 PRD (20, [10, 6], [50, 0, 0, 2, 6, 0, 2, 0, 0, 1, 0, 2, 6, 0, 2, 0, 0, 1, 1, 0, 10, 4, 6, 6, 2, 1, 0, 0, 65536, 1, 1, 0, 851970]) ws (vs) := ⟨nf_in hl rfl, sgq_493 (vc_Sy_compileValue_at_k8_1_0 (v_iv (n_v vs 3)) (v_iv (n_v vs 4)) (v_iv (n_v vs 6)) (v_iv (n_v vs 7)) (v_iv (n_v vs 8)) (v_iv (n_v vs 9)) (v_iv (n_v vs 10)) (v_iv (n_v vs 11)) (w_fi ws (n_v vs 0) 6) (w_fi ws (n_v vs 0) 8) k3 k4 k6 k7 k8 k9 k10 k11 (shm_40 f0) g1 (shm_40 f2) (shm_40 f3) (shm_40 f4) (shm_1840 f5) (shm_40 f7) kz_0_6 kz_0_8)⟩
  refine ⟨(fun _ h => (by cases h)), [], trivial, ?_, (fun _ h => (by cases h))⟩
  rw [List.append_nil]
  exact List.forall_mem_cons.mpr ⟨⟨show (20 : Nat) < 100 from by decide, nf0⟩, (fun _ h => (by cases h))⟩
set_option maxHeartbeats 4000000 in
theorem vc_Sy_compileValue_at_k8_2_0 (x3 : Int) (x4 : Int) (x10 : Int) (x12 : Int) (number_0 : Int) (kind_0 : Int) (k3 : 3 ≤ x3 ∧ x3 ≤ 3) (k4 : 40 ≤ x4 ∧ x4 ≤ 40) (k10 : 1 ≤ x10 ∧ x10 ≤ 1) (k12 : 0 ≤ x12 ∧ x12 ≤ 1000000) (g0 : x12 = number_0) (g2 : x3 = kind_0) (f5 : (kind_0 ≠ 3) ∨ (number_0 ≤ 9999)) (f7 : x3 ≠ x4) (kz_0_6 : 0 ≤ kind_0 ∧ kind_0 ≤ 127) (kz_0_8 : 0 ≤ number_0 ∧ number_0 ≤ 1000000) : (0 ≤ x10) ∧ ((0 ≤ x12) ∧ (((x10 * 65536) + x12) ≤ 851970)) := by
  first
    | omega
  
def o_Sy_compileValue_at_k8_2 : or_T := (108, 13, [(0, (2, 0, 0, [11])), (3, (0, 3, 3, [])), (4, (0, 40, 40, [])), (7, (0, 3, 3, [])), (9, (0, 3, 3, [])), (10, (0, 1, 1, [])), (11, (0, 3, 3, [])), (12, (0, 0, 1000000, []))], [(9, [12, 0], [8]), (7, [3, 11], [0]), (9, [3, 0], [6]), (7, [3, 9], [1]), (7, [3, 7], [1]), (20, [0], [50, 2, 0, 6, 8, 3, 7, 7, 3, 2, 0, 6, 0, 3, 0, 3, 2, 0, 8, 0, 9999]), (102, [5], [0]), (7, [3, 4], [1])], [], [], [(20, [10, 12], [50, 0, 0, 2, 6, 0, 2, 0, 0, 1, 0, 2, 6, 0, 2, 0, 0, 1, 1, 0, 10, 4, 6, 6, 2, 1, 0, 0, 65536, 1, 1, 0, 851970])], [], [])
theorem oo_Sy_compileValue_at_k8_2 {kA : Nat → ClassId} : or_ok PRD kA GG o_Sy_compileValue_at_k8_2 := by
  refine or_mk fun A ta ws vs hD hth hl => ?_
  intro t0 r0 t3 k3 t4 k4 t7 k7 t9 k9 t10 k10 t11 k11 t12 k12 f0 f1 f2 f3 f4 f5 ta1 w1 le1 s1 f7
  replace f0 := shm_293 f0
  replace f2 := shm_111 f2
  have g0 : v_iv (n_v vs 12) = w_fi ws (n_v vs 0) 8 := congrArg v_iv f0
  have g2 : v_iv (n_v vs 3) = w_fi ws (n_v vs 0) 6 := congrArg v_iv f2
  have kz_0_6 := fdq_313 hD hth r0
  have kz_0_8 := fdq_314 hD hth r0
  have nf0 : fc_1 PRD (20, [10, 12], [50, 0, 0, 2, 6, 0, 2, 0, 0, 1, 0, 2, 6, 0, 2, 0, 0, 1, 1, 0, 10, 4, 6, 6, 2, 1, 0, 0, 65536, 1, 1, 0, 851970]) ws (vs) := ⟨nf_in hl rfl, sgq_493 (vc_Sy_compileValue_at_k8_2_0 (v_iv (n_v vs 3)) (v_iv (n_v vs 4)) (v_iv (n_v vs 10)) (v_iv (n_v vs 12)) (w_fi ws (n_v vs 0) 8) (w_fi ws (n_v vs 0) 6) k3 k4 k10 k12 g0 g2 (shm_1840 f5) (shm_40 f7) kz_0_6 kz_0_8)⟩
  refine ⟨(fun _ h => (by cases h)), [], trivial, ?_, (fun _ h => (by cases h))⟩
  rw [List.append_nil]
  exact List.forall_mem_cons.mpr ⟨⟨show (20 : Nat) < 100 from by decide, nf0⟩, (fun _ h => (by cases h))⟩
set_option maxHeartbeats 4000000 in
theorem vc_Sy_compileValue_at_k8_3_0 (x3 : Int) (x4 : Int) (x10 : Int) (x12 : Int) (number_0 : Int) (kind_0 : Int) (k3 : 3 ≤ x3 ∧ x3 ≤ 3) (k4 : 40 ≤ x4 ∧ x4 ≤ 40) (k10 : 0 ≤ x10 ∧ x10 ≤ 0) (k12 : 0 ≤ x12 ∧ x12 ≤ 1000000) (g0 : x12 = number_0) (g2 : x3 = kind_0) (f5 : (kind_0 ≠ 3) ∨ (number_0 ≤ 9999)) (f7 : x3 ≠ x4) (kz_0_6 : 0 ≤ kind_0 ∧ kind_0 ≤ 127) (kz_0_8 : 0 ≤ number_0 ∧ number_0 ≤ 1000000) : (0 ≤ x10) ∧ ((0 ≤ x12) ∧ (((x10 * 65536) + x12) ≤ 851970)) := by
  first
    | omega
  
def o_Sy_compileValue_at_k8_3 : or_T := (108, 13, [(0, (2, 0, 0, [11])), (3, (0, 3, 3, [])), (4, (0, 40, 40, [])), (7, (0, 3, 3, [])), (9, (0, 3, 3, [])), (10, (0, 0, 0, [])), (11, (0, 3, 3, [])), (12, (0, 0, 1000000, []))], [(9, [12, 0], [8]), (7, [3, 11], [0]), (9, [3, 0], [6]), (7, [3, 9], [0]), (7, [3, 7], [1]), (20, [0], [50, 2, 0, 6, 8, 3, 7, 7, 3, 2, 0, 6, 0, 3, 0, 3, 2, 0, 8, 0, 9999]), (102, [5], [0]), (7, [3, 4], [1])], [], [], [(20, [10, 12], [50, 0, 0, 2, 6, 0, 2, 0, 0, 1, 0, 2, 6, 0, 2, 0, 0, 1, 1, 0, 10, 4, 6, 6, 2, 1, 0, 0, 65536, 1, 1, 0, 851970])], [], [])
theorem oo_Sy_compileValue_at_k8_3 {kA : Nat → ClassId} : or_ok PRD kA GG o_Sy_compileValue_at_k8_3 := by
  refine or_mk fun A ta ws vs hD hth hl => ?_
  intro t0 r0 t3 k3 t4 k4 t7 k7 t9 k9 t10 k10 t11 k11 t12 k12 f0 f1 f2 f3 f4 f5 ta1 w1 le1 s1 f7
  replace f0 := shm_293 f0
  replace f2 := shm_111 f2
  have g0 : v_iv (n_v vs 12) = w_fi ws (n_v vs 0) 8 := congrArg v_iv f0
  have g2 : v_iv (n_v vs 3) = w_fi ws (n_v vs 0) 6 := congrArg v_iv f2
  have kz_0_6 := fdq_313 hD hth r0
  have kz_0_8 := fdq_314 hD hth r0
  have nf0 : fc_1 PRD (20, [10, 12], [50, 0, 0, 2, 6, 0, 2, 0, 0, 1, 0, 2, 6, 0, 2, 0, 0, 1, 1, 0, 10, 4, 6, 6, 2, 1, 0, 0, 65536, 1, 1, 0, 851970]) ws (vs) := ⟨nf_in hl rfl, sgq_493 (vc_Sy_compileValue_at_k8_3_0 (v_iv (n_v vs 3)) (v_iv (n_v vs 4)) (v_iv (n_v vs 10)) (v_iv (n_v vs 12)) (w_fi ws (n_v vs 0) 8) (w_fi ws (n_v vs 0) 6) k3 k4 k10 k12 g0 g2 (shm_1840 f5) (shm_40 f7) kz_0_6 kz_0_8)⟩
  refine ⟨(fun _ h => (by cases h)), [], trivial, ?_, (fun _ h => (by cases h))⟩
  rw [List.append_nil]
  exact List.forall_mem_cons.mpr ⟨⟨show (20 : Nat) < 100 from by decide, nf0⟩, (fun _ h => (by cases h))⟩
set_option maxHeartbeats 4000000 in
theorem vc_Sy_compileValue_at_k8_4_0 (x3 : Int) (x4 : Int) (x6 : Int) (x7 : Int) (x8 : Int) (x9 : Int) (x10 : Int) (x11 : Int) (kind_0 : Int) (number_0 : Int) (k3 : 0 ≤ x3 ∧ x3 ≤ 127) (k4 : 40 ≤ x4 ∧ x4 ≤ 40) (k6 : 0 ≤ x6 ∧ x6 ≤ 43) (k7 : 3 ≤ x7 ∧ x7 ≤ 3) (k8 : (-1) ≤ x8 ∧ x8 ≤ (-1)) (k9 : 3 ≤ x9 ∧ x9 ≤ 3) (k10 : 1 ≤ x10 ∧ x10 ≤ 1) (k11 : 3 ≤ x11 ∧ x11 ≤ 3) (f0 : x3 ≠ x11) (g1 : x3 = kind_0) (f2 : x3 ≠ x9) (f3 : x6 ≠ x8) (f4 : x3 ≠ x7) (f5 : (kind_0 ≠ 3) ∨ (number_0 ≤ 9999)) (f7 : x3 ≠ x4) (kz_0_6 : 0 ≤ kind_0 ∧ kind_0 ≤ 127) (kz_0_8 : 0 ≤ number_0 ∧ number_0 ≤ 1000000) : (0 ≤ x10) ∧ ((0 ≤ x6) ∧ (((x10 * 65536) + x6) ≤ 851970)) := by
  first
    | omega
  
def o_Sy_compileValue_at_k8_4 : or_T := (108, 12, [(0, (2, 0, 0, [11])), (3, (0, 0, 127, [])), (4, (0, 40, 40, [])), (6, (0, 0, 43, [])), (7, (0, 3, 3, [])), (8, (0, -1, -1, [])), (9, (0, 3, 3, [])), (10, (0, 1, 1, [])), (11, (0, 3, 3, []))], [(7, [3, 11], [1]), (9, [3, 0], [6]), (7, [3, 9], [1]), (7, [6, 8], [1]), (7, [3, 7], [1]), (20, [0], [50, 2, 0, 6, 8, 3, 7, 7, 3, 2, 0, 6, 0, 3, 0, 3, 2, 0, 8, 0, 9999]), (102, [5], [0]), (7, [3, 4], [1])], [], [], [(20, [10, 6], [50, 0, 0, 2, 6, 0, 2, 0, 0, 1, 0, 2, 6, 0, 2, 0, 0, 1, 1, 0, 10, 4, 6, 6, 2, 1, 0, 0, 65536, 1, 1, 0, 851970])], [], [])
theorem oo_Sy_compileValue_at_k8_4 {kA : Nat → ClassId} : or_ok PRD kA GG o_Sy_compileValue_at_k8_4 := by
  refine or_mk fun A ta ws vs hD hth hl => ?_
  intro t0 r0 t3 k3 t4 k4 t6 k6 t7 k7 t8 k8 t9 k9 t10 k10 t11 k11 f0 f1 f2 f3 f4 f5 ta1 w1 le1 s1 f7
  replace f1 := shm_111 f1
  have g1 : v_iv (n_v vs 3) = w_fi ws (n_v vs 0) 6 := congrArg v_iv f1
  have kz_0_6 := fdq_313 hD hth r0
  have kz_0_8 := fdq_314 hD hth r0
  have nf0 : fc_1 PRD (20, [10, 6], [50, 0, 0, 2, 6, 0, 2, 0, 0, 1, 0, 2, 6, 0, 2, 0, 0, 1, 1, 0, 10, 4, 6, 6, 2, 1, 0, 0, 65536, 1, 1, 0, 851970]) ws (vs) := ⟨nf_in hl rfl, sgq_493 (vc_Sy_compileValue_at_k8_4_0 (v_iv (n_v vs 3)) (v_iv (n_v vs 4)) (v_iv (n_v vs 6)) (v_iv (n_v vs 7)) (v_iv (n_v vs 8)) (v_iv (n_v vs 9)) (v_iv (n_v vs 10)) (v_iv (n_v vs 11)) (w_fi ws (n_v vs 0) 6) (w_fi ws (n_v vs 0) 8) k3 k4 k6 k7 k8 k9 k10 k11 (shm_40 f0) g1 (shm_40 f2) (shm_40 f3) (shm_40 f4) (shm_1840 f5) (shm_40 f7) kz_0_6 kz_0_8)⟩
  refine ⟨(fun _ h => (by cases h)), [], trivial, ?_, (fun _ h => (by cases h))⟩
  rw [List.append_nil]
  exact List.forall_mem_cons.mpr ⟨⟨show (20 : Nat) < 100 from by decide, nf0⟩, (fun _ h => (by cases h))⟩
def n_Sy_compileValue_at_k8_an : List an_T := []
def t_Sy_compileValue_at_k8_ct : ct_L := [(1, 69, e_Sy_advance), (1, 118, e_Sy_fail), (1, 128, e_Sy_emit), (1, 152, e_Sy_closes), (91, 137, e_Sy_compileSum_at_k9), (169, 114, e_Sy_wordIn_at_s5007), (169, 114, e_Sy_wordIn_at_s5004)]
set_option maxRecDepth 100000 in
theorem c_Sy_compileValue_at_k8 {l : Launch} {D : va_G} {kA : Nat → ClassId} (h_Sy_advance : ct_ok PRD l D kA GG y_Sy_advance z_Sy_advance e_Sy_advance) (h_Sy_closes : ct_ok PRD l D kA GG y_Sy_closes z_Sy_closes e_Sy_closes) (h_Sy_compileSum_at_k9 : ct_ok PRD l D kA GG y_Sy_compileSum_at_k9 z_Sy_compileSum_at_k9 e_Sy_compileSum_at_k9) (h_Sy_emit : ct_ok PRD l D kA GG y_Sy_emit z_Sy_emit e_Sy_emit) (h_Sy_fail : ct_ok PRD l D kA GG y_Sy_fail z_Sy_fail e_Sy_fail) (h_Sy_wordIn_at_s5004 : ct_ok PRD l D kA GG y_Sy_wordIn_at_s5004 z_Sy_wordIn_at_s5004 e_Sy_wordIn_at_s5004) (h_Sy_wordIn_at_s5007 : ct_ok PRD l D kA GG y_Sy_wordIn_at_s5007 z_Sy_wordIn_at_s5007 e_Sy_wordIn_at_s5007) : ct_ok PRD l D kA GG y_Sy_compileValue_at_k8 z_Sy_compileValue_at_k8 e_Sy_compileValue_at_k8 := chk_all_ok (FT := [(31, 11, 6), (37, 11, 8), (42, 11, 9)]) (PT := []) (CT := t_Sy_compileValue_at_k8_ct) (KT := []) (NT := []) (AN := n_Sy_compileValue_at_k8_an) (OT := [o_Sy_compileValue_at_k8_0, o_Sy_compileValue_at_k8_1, o_Sy_compileValue_at_k8_2, o_Sy_compileValue_at_k8_3, o_Sy_compileValue_at_k8_4]) 0 684 (List.forall_mem_cons.mpr ⟨oo_Sy_compileValue_at_k8_0, List.forall_mem_cons.mpr ⟨oo_Sy_compileValue_at_k8_1, List.forall_mem_cons.mpr ⟨oo_Sy_compileValue_at_k8_2, List.forall_mem_cons.mpr ⟨oo_Sy_compileValue_at_k8_3, List.forall_mem_cons.mpr ⟨oo_Sy_compileValue_at_k8_4, List.forall_mem_nil _⟩⟩⟩⟩⟩) (by decide +kernel) ⟨List.forall_mem_cons.mpr ⟨gf_Sy_31, List.forall_mem_cons.mpr ⟨gf_Sy_37, List.forall_mem_cons.mpr ⟨gf_Sy_42, List.forall_mem_nil _⟩⟩⟩, List.forall_mem_nil _, List.forall_mem_cons.mpr ⟨cl_virtual (y := y_Sy_advance) (ci := 11) rfl rfl ⟨_, _, rfl⟩ (by decide +kernel) h_Sy_advance wm_2158 wm_23 wm_2155 wm_2157 wv_10_10 ⟨by decide, by decide, by decide +kernel⟩ (by decide), List.forall_mem_cons.mpr ⟨cl_virtual (y := y_Sy_fail) (ci := 11) rfl rfl ⟨_, _, rfl⟩ (by decide +kernel) h_Sy_fail wm_2239 wm_23 wm_2236 wm_2238 wv_10_14 ⟨by decide, by decide, by decide +kernel⟩ (by decide), List.forall_mem_cons.mpr ⟨cl_virtual (y := y_Sy_emit) (ci := 11) rfl rfl ⟨_, _, rfl⟩ (by decide +kernel) h_Sy_emit wm_2258 wm_23 wm_2255 wm_2257 wv_11_2 ⟨by decide, by decide, by decide +kernel⟩ (by decide), List.forall_mem_cons.mpr ⟨cl_virtual (y := y_Sy_closes) (ci := 11) rfl rfl ⟨_, _, rfl⟩ (by decide +kernel) h_Sy_closes wm_2262 wm_23 wm_2259 wm_2261 wv_11_3 ⟨by decide, by decide, by decide +kernel⟩ (by decide), List.forall_mem_cons.mpr ⟨cl_virtual (y := y_Sy_compileSum_at_k9) (ci := 11) rfl rfl ⟨_, _, rfl⟩ (by decide +kernel) h_Sy_compileSum_at_k9 wm_2266 wm_23 wm_2263 wm_2265 wv_11_4 ⟨by decide, by decide, by decide +kernel⟩ (by decide), List.forall_mem_cons.mpr ⟨cl_virtual (y := y_Sy_wordIn_at_s5007) (ci := 11) rfl rfl ⟨_, _, rfl⟩ (by decide +kernel) h_Sy_wordIn_at_s5007 wm_2229 wm_23 wm_2226 wm_2228 wv_10_12 ⟨by decide, by decide, by decide +kernel⟩ (by decide), List.forall_mem_cons.mpr ⟨cl_virtual (y := y_Sy_wordIn_at_s5004) (ci := 11) rfl rfl ⟨_, _, rfl⟩ (by decide +kernel) h_Sy_wordIn_at_s5004 wm_2229 wm_23 wm_2226 wm_2228 wv_10_12 ⟨by decide, by decide, by decide +kernel⟩ (by decide), List.forall_mem_nil _⟩⟩⟩⟩⟩⟩⟩, List.forall_mem_nil _, List.forall_mem_nil _, GG_pl⟩ (by decide +kernel)
set_option maxHeartbeats 4000000 in
theorem vc_Sy_compileValue_at_k9_0_0 (x3 : Int) (x4 : Int) (x9 : Int) (x11 : Int) (number_0 : Int) (kind_0 : Int) (k3 : 3 ≤ x3 ∧ x3 ≤ 3) (k4 : 40 ≤ x4 ∧ x4 ≤ 40) (k9 : 0 ≤ x9 ∧ x9 ≤ 0) (k11 : 0 ≤ x11 ∧ x11 ≤ 1000000) (g0 : x11 = number_0) (g2 : x3 = kind_0) (f5 : (kind_0 ≠ 3) ∨ (number_0 ≤ 9999)) (f7 : x3 ≠ x4) (kz_0_6 : 0 ≤ kind_0 ∧ kind_0 ≤ 127) (kz_0_8 : 0 ≤ number_0 ∧ number_0 ≤ 1000000) : (0 ≤ x9) ∧ ((0 ≤ x11) ∧ (((x9 * 65536) + x11) ≤ 851970)) := by
  first
    | omega
  
def o_Sy_compileValue_at_k9_0 : or_T := (108, 12, [(0, (2, 0, 0, [11])), (3, (0, 3, 3, [])), (4, (0, 40, 40, [])), (7, (0, 3, 3, [])), (8, (0, 3, 3, [])), (9, (0, 0, 0, [])), (10, (0, 3, 3, [])), (11, (0, 0, 1000000, []))], [(9, [11, 0], [8]), (7, [3, 10], [0]), (9, [3, 0], [6]), (7, [3, 8], [0]), (7, [3, 7], [0]), (20, [0], [50, 2, 0, 6, 8, 3, 7, 7, 3, 2, 0, 6, 0, 3, 0, 3, 2, 0, 8, 0, 9999]), (102, [5], [0]), (7, [3, 4], [1])], [], [], [(20, [9, 11], [50, 0, 0, 2, 6, 0, 2, 0, 0, 1, 0, 2, 6, 0, 2, 0, 0, 1, 1, 0, 10, 4, 6, 6, 2, 1, 0, 0, 65536, 1, 1, 0, 851970])], [], [])
theorem oo_Sy_compileValue_at_k9_0 {kA : Nat → ClassId} : or_ok PRD kA GG o_Sy_compileValue_at_k9_0 := by
  refine or_mk fun A ta ws vs hD hth hl => ?_
  intro t0 r0 t3 k3 t4 k4 t7 k7 t8 k8 t9 k9 t10 k10 t11 k11 f0 f1 f2 f3 f4 f5 ta1 w1 le1 s1 f7
  replace f0 := shm_293 f0
  replace f2 := shm_111 f2
  have g0 : v_iv (n_v vs 11) = w_fi ws (n_v vs 0) 8 := congrArg v_iv f0
  have g2 : v_iv (n_v vs 3) = w_fi ws (n_v vs 0) 6 := congrArg v_iv f2
  have kz_0_6 := fdq_313 hD hth r0
  have kz_0_8 := fdq_314 hD hth r0
  have nf0 : fc_1 PRD (20, [9, 11], [50, 0, 0, 2, 6, 0, 2, 0, 0, 1, 0, 2, 6, 0, 2, 0, 0, 1, 1, 0, 10, 4, 6, 6, 2, 1, 0, 0, 65536, 1, 1, 0, 851970]) ws (vs) := ⟨nf_in hl rfl, sgq_493 (vc_Sy_compileValue_at_k9_0_0 (v_iv (n_v vs 3)) (v_iv (n_v vs 4)) (v_iv (n_v vs 9)) (v_iv (n_v vs 11)) (w_fi ws (n_v vs 0) 8) (w_fi ws (n_v vs 0) 6) k3 k4 k9 k11 g0 g2 (shm_1840 f5) (shm_40 f7) kz_0_6 kz_0_8)⟩
  refine ⟨(fun _ h => (by cases h)), [], trivial, ?_, (fun _ h => (by cases h))⟩
  rw [List.append_nil]
  exact List.forall_mem_cons.mpr ⟨⟨show (20 : Nat) < 100 from by decide, nf0⟩, (fun _ h => (by cases h))⟩
set_option maxHeartbeats 4000000 in
theorem vc_Sy_compileValue_at_k9_1_0 (x3 : Int) (x4 : Int) (x6 : Int) (x7 : Int) (x8 : Int) (x9 : Int) (x10 : Int) (x11 : Int) (kind_0 : Int) (number_0 : Int) (k3 : 0 ≤ x3 ∧ x3 ≤ 127) (k4 : 40 ≤ x4 ∧ x4 ≤ 40) (k6 : 0 ≤ x6 ∧ x6 ≤ 38) (k7 : 3 ≤ x7 ∧ x7 ≤ 3) (k8 : (-1) ≤ x8 ∧ x8 ≤ (-1)) (k9 : 3 ≤ x9 ∧ x9 ≤ 3) (k10 : 1 ≤ x10 ∧ x10 ≤ 1) (k11 : 3 ≤ x11 ∧ x11 ≤ 3) (f0 : x3 ≠ x11) (g1 : x3 = kind_0) (f2 : x3 ≠ x9) (f3 : x6 ≠ x8) (f4 : x3 ≠ x7) (f5 : (kind_0 ≠ 3) ∨ (number_0 ≤ 9999)) (f7 : x3 ≠ x4) (kz_0_6 : 0 ≤ kind_0 ∧ kind_0 ≤ 127) (kz_0_8 : 0 ≤ number_0 ∧ number_0 ≤ 1000000) : (0 ≤ x10) ∧ ((0 ≤ x6) ∧ (((x10 * 65536) + x6) ≤ 851970)) := by
  first
    | omega
  
def o_Sy_compileValue_at_k9_1 : or_T := (108, 12, [(0, (2, 0, 0, [11])), (3, (0, 0, 127, [])), (4, (0, 40, 40, [])), (6, (0, 0, 38, [])), (7, (0, 3, 3, [])), (8, (0, -1, -1, [])), (9, (0, 3, 3, [])), (10, (0, 1, 1, [])), (11, (0, 3, 3, []))], [(7, [3, 11], [1]), (9, [3, 0], [6]), (7, [3, 9], [1]), (7, [6, 8], [1]), (7, [3, 7], [1]), (20, [0], [50, 2, 0, 6, 8, 3, 7, 7, 3, 2, 0, 6, 0, 3, 0, 3, 2, 0, 8, 0, 9999]), (102, [5], [0]), (7, [3, 4], [1])], [], [], [(20, [10, 6], [50, 0, 0, 2, 6, 0, 2, 0, 0, 1, 0, 2, 6, 0, 2, 0, 0, 1, 1, 0, 10, 4, 6, 6, 2, 1, 0, 0, 65536, 1, 1, 0, 851970])], [], [])
theorem oo_Sy_compileValue_at_k9_1 {kA : Nat → ClassId} : or_ok PRD kA GG o_Sy_compileValue_at_k9_1 := by
  refine or_mk fun A ta ws vs hD hth hl => ?_
  intro t0 r0 t3 k3 t4 k4 t6 k6 t7 k7 t8 k8 t9 k9 t10 k10 t11 k11 f0 f1 f2 f3 f4 f5 ta1 w1 le1 s1 f7
  replace f1 := shm_111 f1
  have g1 : v_iv (n_v vs 3) = w_fi ws (n_v vs 0) 6 := congrArg v_iv f1
  have kz_0_6 := fdq_313 hD hth r0
  have kz_0_8 := fdq_314 hD hth r0
  have nf0 : fc_1 PRD (20, [10, 6], [50, 0, 0, 2, 6, 0, 2, 0, 0, 1, 0, 2, 6, 0, 2, 0, 0, 1, 1, 0, 10, 4, 6, 6, 2, 1, 0, 0, 65536, 1, 1, 0, 851970]) ws (vs) := ⟨nf_in hl rfl, sgq_493 (vc_Sy_compileValue_at_k9_1_0 (v_iv (n_v vs 3)) (v_iv (n_v vs 4)) (v_iv (n_v vs 6)) (v_iv (n_v vs 7)) (v_iv (n_v vs 8)) (v_iv (n_v vs 9)) (v_iv (n_v vs 10)) (v_iv (n_v vs 11)) (w_fi ws (n_v vs 0) 6) (w_fi ws (n_v vs 0) 8) k3 k4 k6 k7 k8 k9 k10 k11 (shm_40 f0) g1 (shm_40 f2) (shm_40 f3) (shm_40 f4) (shm_1840 f5) (shm_40 f7) kz_0_6 kz_0_8)⟩
  refine ⟨(fun _ h => (by cases h)), [], trivial, ?_, (fun _ h => (by cases h))⟩
  rw [List.append_nil]
  exact List.forall_mem_cons.mpr ⟨⟨show (20 : Nat) < 100 from by decide, nf0⟩, (fun _ h => (by cases h))⟩
set_option maxHeartbeats 4000000 in
theorem vc_Sy_compileValue_at_k9_2_0 (x3 : Int) (x4 : Int) (x10 : Int) (x12 : Int) (number_0 : Int) (kind_0 : Int) (k3 : 3 ≤ x3 ∧ x3 ≤ 3) (k4 : 40 ≤ x4 ∧ x4 ≤ 40) (k10 : 1 ≤ x10 ∧ x10 ≤ 1) (k12 : 0 ≤ x12 ∧ x12 ≤ 1000000) (g0 : x12 = number_0) (g2 : x3 = kind_0) (f5 : (kind_0 ≠ 3) ∨ (number_0 ≤ 9999)) (f7 : x3 ≠ x4) (kz_0_6 : 0 ≤ kind_0 ∧ kind_0 ≤ 127) (kz_0_8 : 0 ≤ number_0 ∧ number_0 ≤ 1000000) : (0 ≤ x10) ∧ ((0 ≤ x12) ∧ (((x10 * 65536) + x12) ≤ 851970)) := by
  first
    | omega
  
def o_Sy_compileValue_at_k9_2 : or_T := (108, 13, [(0, (2, 0, 0, [11])), (3, (0, 3, 3, [])), (4, (0, 40, 40, [])), (7, (0, 3, 3, [])), (9, (0, 3, 3, [])), (10, (0, 1, 1, [])), (11, (0, 3, 3, [])), (12, (0, 0, 1000000, []))], [(9, [12, 0], [8]), (7, [3, 11], [0]), (9, [3, 0], [6]), (7, [3, 9], [1]), (7, [3, 7], [1]), (20, [0], [50, 2, 0, 6, 8, 3, 7, 7, 3, 2, 0, 6, 0, 3, 0, 3, 2, 0, 8, 0, 9999]), (102, [5], [0]), (7, [3, 4], [1])], [], [], [(20, [10, 12], [50, 0, 0, 2, 6, 0, 2, 0, 0, 1, 0, 2, 6, 0, 2, 0, 0, 1, 1, 0, 10, 4, 6, 6, 2, 1, 0, 0, 65536, 1, 1, 0, 851970])], [], [])
theorem oo_Sy_compileValue_at_k9_2 {kA : Nat → ClassId} : or_ok PRD kA GG o_Sy_compileValue_at_k9_2 := by
  refine or_mk fun A ta ws vs hD hth hl => ?_
  intro t0 r0 t3 k3 t4 k4 t7 k7 t9 k9 t10 k10 t11 k11 t12 k12 f0 f1 f2 f3 f4 f5 ta1 w1 le1 s1 f7
  replace f0 := shm_293 f0
  replace f2 := shm_111 f2
  have g0 : v_iv (n_v vs 12) = w_fi ws (n_v vs 0) 8 := congrArg v_iv f0
  have g2 : v_iv (n_v vs 3) = w_fi ws (n_v vs 0) 6 := congrArg v_iv f2
  have kz_0_6 := fdq_313 hD hth r0
  have kz_0_8 := fdq_314 hD hth r0
  have nf0 : fc_1 PRD (20, [10, 12], [50, 0, 0, 2, 6, 0, 2, 0, 0, 1, 0, 2, 6, 0, 2, 0, 0, 1, 1, 0, 10, 4, 6, 6, 2, 1, 0, 0, 65536, 1, 1, 0, 851970]) ws (vs) := ⟨nf_in hl rfl, sgq_493 (vc_Sy_compileValue_at_k9_2_0 (v_iv (n_v vs 3)) (v_iv (n_v vs 4)) (v_iv (n_v vs 10)) (v_iv (n_v vs 12)) (w_fi ws (n_v vs 0) 8) (w_fi ws (n_v vs 0) 6) k3 k4 k10 k12 g0 g2 (shm_1840 f5) (shm_40 f7) kz_0_6 kz_0_8)⟩
  refine ⟨(fun _ h => (by cases h)), [], trivial, ?_, (fun _ h => (by cases h))⟩
  rw [List.append_nil]
  exact List.forall_mem_cons.mpr ⟨⟨show (20 : Nat) < 100 from by decide, nf0⟩, (fun _ h => (by cases h))⟩
set_option maxHeartbeats 4000000 in
theorem vc_Sy_compileValue_at_k9_3_0 (x3 : Int) (x4 : Int) (x10 : Int) (x12 : Int) (number_0 : Int) (kind_0 : Int) (k3 : 3 ≤ x3 ∧ x3 ≤ 3) (k4 : 40 ≤ x4 ∧ x4 ≤ 40) (k10 : 0 ≤ x10 ∧ x10 ≤ 0) (k12 : 0 ≤ x12 ∧ x12 ≤ 1000000) (g0 : x12 = number_0) (g2 : x3 = kind_0) (f5 : (kind_0 ≠ 3) ∨ (number_0 ≤ 9999)) (f7 : x3 ≠ x4) (kz_0_6 : 0 ≤ kind_0 ∧ kind_0 ≤ 127) (kz_0_8 : 0 ≤ number_0 ∧ number_0 ≤ 1000000) : (0 ≤ x10) ∧ ((0 ≤ x12) ∧ (((x10 * 65536) + x12) ≤ 851970)) := by
  first
    | omega
  
def o_Sy_compileValue_at_k9_3 : or_T := (108, 13, [(0, (2, 0, 0, [11])), (3, (0, 3, 3, [])), (4, (0, 40, 40, [])), (7, (0, 3, 3, [])), (9, (0, 3, 3, [])), (10, (0, 0, 0, [])), (11, (0, 3, 3, [])), (12, (0, 0, 1000000, []))], [(9, [12, 0], [8]), (7, [3, 11], [0]), (9, [3, 0], [6]), (7, [3, 9], [0]), (7, [3, 7], [1]), (20, [0], [50, 2, 0, 6, 8, 3, 7, 7, 3, 2, 0, 6, 0, 3, 0, 3, 2, 0, 8, 0, 9999]), (102, [5], [0]), (7, [3, 4], [1])], [], [], [(20, [10, 12], [50, 0, 0, 2, 6, 0, 2, 0, 0, 1, 0, 2, 6, 0, 2, 0, 0, 1, 1, 0, 10, 4, 6, 6, 2, 1, 0, 0, 65536, 1, 1, 0, 851970])], [], [])
theorem oo_Sy_compileValue_at_k9_3 {kA : Nat → ClassId} : or_ok PRD kA GG o_Sy_compileValue_at_k9_3 := by
  refine or_mk fun A ta ws vs hD hth hl => ?_
  intro t0 r0 t3 k3 t4 k4 t7 k7 t9 k9 t10 k10 t11 k11 t12 k12 f0 f1 f2 f3 f4 f5 ta1 w1 le1 s1 f7
  replace f0 := shm_293 f0
  replace f2 := shm_111 f2
  have g0 : v_iv (n_v vs 12) = w_fi ws (n_v vs 0) 8 := congrArg v_iv f0
  have g2 : v_iv (n_v vs 3) = w_fi ws (n_v vs 0) 6 := congrArg v_iv f2
  have kz_0_6 := fdq_313 hD hth r0
  have kz_0_8 := fdq_314 hD hth r0
  have nf0 : fc_1 PRD (20, [10, 12], [50, 0, 0, 2, 6, 0, 2, 0, 0, 1, 0, 2, 6, 0, 2, 0, 0, 1, 1, 0, 10, 4, 6, 6, 2, 1, 0, 0, 65536, 1, 1, 0, 851970]) ws (vs) := ⟨nf_in hl rfl, sgq_493 (vc_Sy_compileValue_at_k9_3_0 (v_iv (n_v vs 3)) (v_iv (n_v vs 4)) (v_iv (n_v vs 10)) (v_iv (n_v vs 12)) (w_fi ws (n_v vs 0) 8) (w_fi ws (n_v vs 0) 6) k3 k4 k10 k12 g0 g2 (shm_1840 f5) (shm_40 f7) kz_0_6 kz_0_8)⟩
  refine ⟨(fun _ h => (by cases h)), [], trivial, ?_, (fun _ h => (by cases h))⟩
  rw [List.append_nil]
  exact List.forall_mem_cons.mpr ⟨⟨show (20 : Nat) < 100 from by decide, nf0⟩, (fun _ h => (by cases h))⟩
set_option maxHeartbeats 4000000 in
theorem vc_Sy_compileValue_at_k9_4_0 (x3 : Int) (x4 : Int) (x6 : Int) (x7 : Int) (x8 : Int) (x9 : Int) (x10 : Int) (x11 : Int) (kind_0 : Int) (number_0 : Int) (k3 : 0 ≤ x3 ∧ x3 ≤ 127) (k4 : 40 ≤ x4 ∧ x4 ≤ 40) (k6 : 0 ≤ x6 ∧ x6 ≤ 43) (k7 : 3 ≤ x7 ∧ x7 ≤ 3) (k8 : (-1) ≤ x8 ∧ x8 ≤ (-1)) (k9 : 3 ≤ x9 ∧ x9 ≤ 3) (k10 : 1 ≤ x10 ∧ x10 ≤ 1) (k11 : 3 ≤ x11 ∧ x11 ≤ 3) (f0 : x3 ≠ x11) (g1 : x3 = kind_0) (f2 : x3 ≠ x9) (f3 : x6 ≠ x8) (f4 : x3 ≠ x7) (f5 : (kind_0 ≠ 3) ∨ (number_0 ≤ 9999)) (f7 : x3 ≠ x4) (kz_0_6 : 0 ≤ kind_0 ∧ kind_0 ≤ 127) (kz_0_8 : 0 ≤ number_0 ∧ number_0 ≤ 1000000) : (0 ≤ x10) ∧ ((0 ≤ x6) ∧ (((x10 * 65536) + x6) ≤ 851970)) := by
  first
    | omega
  
def o_Sy_compileValue_at_k9_4 : or_T := (108, 12, [(0, (2, 0, 0, [11])), (3, (0, 0, 127, [])), (4, (0, 40, 40, [])), (6, (0, 0, 43, [])), (7, (0, 3, 3, [])), (8, (0, -1, -1, [])), (9, (0, 3, 3, [])), (10, (0, 1, 1, [])), (11, (0, 3, 3, []))], [(7, [3, 11], [1]), (9, [3, 0], [6]), (7, [3, 9], [1]), (7, [6, 8], [1]), (7, [3, 7], [1]), (20, [0], [50, 2, 0, 6, 8, 3, 7, 7, 3, 2, 0, 6, 0, 3, 0, 3, 2, 0, 8, 0, 9999]), (102, [5], [0]), (7, [3, 4], [1])], [], [], [(20, [10, 6], [50, 0, 0, 2, 6, 0, 2, 0, 0, 1, 0, 2, 6, 0, 2, 0, 0, 1, 1, 0, 10, 4, 6, 6, 2, 1, 0, 0, 65536, 1, 1, 0, 851970])], [], [])
theorem oo_Sy_compileValue_at_k9_4 {kA : Nat → ClassId} : or_ok PRD kA GG o_Sy_compileValue_at_k9_4 := by
  refine or_mk fun A ta ws vs hD hth hl => ?_
  intro t0 r0 t3 k3 t4 k4 t6 k6 t7 k7 t8 k8 t9 k9 t10 k10 t11 k11 f0 f1 f2 f3 f4 f5 ta1 w1 le1 s1 f7
  replace f1 := shm_111 f1
  have g1 : v_iv (n_v vs 3) = w_fi ws (n_v vs 0) 6 := congrArg v_iv f1
  have kz_0_6 := fdq_313 hD hth r0
  have kz_0_8 := fdq_314 hD hth r0
  have nf0 : fc_1 PRD (20, [10, 6], [50, 0, 0, 2, 6, 0, 2, 0, 0, 1, 0, 2, 6, 0, 2, 0, 0, 1, 1, 0, 10, 4, 6, 6, 2, 1, 0, 0, 65536, 1, 1, 0, 851970]) ws (vs) := ⟨nf_in hl rfl, sgq_493 (vc_Sy_compileValue_at_k9_4_0 (v_iv (n_v vs 3)) (v_iv (n_v vs 4)) (v_iv (n_v vs 6)) (v_iv (n_v vs 7)) (v_iv (n_v vs 8)) (v_iv (n_v vs 9)) (v_iv (n_v vs 10)) (v_iv (n_v vs 11)) (w_fi ws (n_v vs 0) 6) (w_fi ws (n_v vs 0) 8) k3 k4 k6 k7 k8 k9 k10 k11 (shm_40 f0) g1 (shm_40 f2) (shm_40 f3) (shm_40 f4) (shm_1840 f5) (shm_40 f7) kz_0_6 kz_0_8)⟩
  refine ⟨(fun _ h => (by cases h)), [], trivial, ?_, (fun _ h => (by cases h))⟩
  rw [List.append_nil]
  exact List.forall_mem_cons.mpr ⟨⟨show (20 : Nat) < 100 from by decide, nf0⟩, (fun _ h => (by cases h))⟩
def n_Sy_compileValue_at_k9_an : List an_T := []
def t_Sy_compileValue_at_k9_ct : ct_L := [(1, 69, e_Sy_advance), (1, 118, e_Sy_fail), (1, 128, e_Sy_emit), (1, 152, e_Sy_closes), (91, 137, e_Sy_compileSum_at_k10), (169, 114, e_Sy_wordIn_at_s5007), (169, 114, e_Sy_wordIn_at_s5004)]
set_option maxRecDepth 100000 in
theorem c_Sy_compileValue_at_k9 {l : Launch} {D : va_G} {kA : Nat → ClassId} (h_Sy_advance : ct_ok PRD l D kA GG y_Sy_advance z_Sy_advance e_Sy_advance) (h_Sy_closes : ct_ok PRD l D kA GG y_Sy_closes z_Sy_closes e_Sy_closes) (h_Sy_compileSum_at_k10 : ct_ok PRD l D kA GG y_Sy_compileSum_at_k10 z_Sy_compileSum_at_k10 e_Sy_compileSum_at_k10) (h_Sy_emit : ct_ok PRD l D kA GG y_Sy_emit z_Sy_emit e_Sy_emit) (h_Sy_fail : ct_ok PRD l D kA GG y_Sy_fail z_Sy_fail e_Sy_fail) (h_Sy_wordIn_at_s5004 : ct_ok PRD l D kA GG y_Sy_wordIn_at_s5004 z_Sy_wordIn_at_s5004 e_Sy_wordIn_at_s5004) (h_Sy_wordIn_at_s5007 : ct_ok PRD l D kA GG y_Sy_wordIn_at_s5007 z_Sy_wordIn_at_s5007 e_Sy_wordIn_at_s5007) : ct_ok PRD l D kA GG y_Sy_compileValue_at_k9 z_Sy_compileValue_at_k9 e_Sy_compileValue_at_k9 := chk_all_ok (FT := [(31, 11, 6), (37, 11, 8), (42, 11, 9)]) (PT := []) (CT := t_Sy_compileValue_at_k9_ct) (KT := []) (NT := []) (AN := n_Sy_compileValue_at_k9_an) (OT := [o_Sy_compileValue_at_k9_0, o_Sy_compileValue_at_k9_1, o_Sy_compileValue_at_k9_2, o_Sy_compileValue_at_k9_3, o_Sy_compileValue_at_k9_4]) 0 684 (List.forall_mem_cons.mpr ⟨oo_Sy_compileValue_at_k9_0, List.forall_mem_cons.mpr ⟨oo_Sy_compileValue_at_k9_1, List.forall_mem_cons.mpr ⟨oo_Sy_compileValue_at_k9_2, List.forall_mem_cons.mpr ⟨oo_Sy_compileValue_at_k9_3, List.forall_mem_cons.mpr ⟨oo_Sy_compileValue_at_k9_4, List.forall_mem_nil _⟩⟩⟩⟩⟩) (by decide +kernel) ⟨List.forall_mem_cons.mpr ⟨gf_Sy_31, List.forall_mem_cons.mpr ⟨gf_Sy_37, List.forall_mem_cons.mpr ⟨gf_Sy_42, List.forall_mem_nil _⟩⟩⟩, List.forall_mem_nil _, List.forall_mem_cons.mpr ⟨cl_virtual (y := y_Sy_advance) (ci := 11) rfl rfl ⟨_, _, rfl⟩ (by decide +kernel) h_Sy_advance wm_2158 wm_23 wm_2155 wm_2157 wv_10_10 ⟨by decide, by decide, by decide +kernel⟩ (by decide), List.forall_mem_cons.mpr ⟨cl_virtual (y := y_Sy_fail) (ci := 11) rfl rfl ⟨_, _, rfl⟩ (by decide +kernel) h_Sy_fail wm_2239 wm_23 wm_2236 wm_2238 wv_10_14 ⟨by decide, by decide, by decide +kernel⟩ (by decide), List.forall_mem_cons.mpr ⟨cl_virtual (y := y_Sy_emit) (ci := 11) rfl rfl ⟨_, _, rfl⟩ (by decide +kernel) h_Sy_emit wm_2258 wm_23 wm_2255 wm_2257 wv_11_2 ⟨by decide, by decide, by decide +kernel⟩ (by decide), List.forall_mem_cons.mpr ⟨cl_virtual (y := y_Sy_closes) (ci := 11) rfl rfl ⟨_, _, rfl⟩ (by decide +kernel) h_Sy_closes wm_2262 wm_23 wm_2259 wm_2261 wv_11_3 ⟨by decide, by decide, by decide +kernel⟩ (by decide), List.forall_mem_cons.mpr ⟨cl_virtual (y := y_Sy_compileSum_at_k10) (ci := 11) rfl rfl ⟨_, _, rfl⟩ (by decide +kernel) h_Sy_compileSum_at_k10 wm_2266 wm_23 wm_2263 wm_2265 wv_11_4 ⟨by decide, by decide, by decide +kernel⟩ (by decide), List.forall_mem_cons.mpr ⟨cl_virtual (y := y_Sy_wordIn_at_s5007) (ci := 11) rfl rfl ⟨_, _, rfl⟩ (by decide +kernel) h_Sy_wordIn_at_s5007 wm_2229 wm_23 wm_2226 wm_2228 wv_10_12 ⟨by decide, by decide, by decide +kernel⟩ (by decide), List.forall_mem_cons.mpr ⟨cl_virtual (y := y_Sy_wordIn_at_s5004) (ci := 11) rfl rfl ⟨_, _, rfl⟩ (by decide +kernel) h_Sy_wordIn_at_s5004 wm_2229 wm_23 wm_2226 wm_2228 wv_10_12 ⟨by decide, by decide, by decide +kernel⟩ (by decide), List.forall_mem_nil _⟩⟩⟩⟩⟩⟩⟩, List.forall_mem_nil _, List.forall_mem_nil _, GG_pl⟩ (by decide +kernel)
set_option maxHeartbeats 4000000 in
theorem vc_Mo_node_0_0 (x1 : Int) (all_0 : Int → Int) (r_0 : Int) (now_0 : Int → Int) (latest_0 : Int → Int) (k1 : 0 ≤ x1 ∧ x1 ≤ 3) (f3 : ROWS (all_0) (now_0) (latest_0)) (f4 : r_0 = ((16709 * x1) + (539 * now_0 (x1)))) : SGR (r_0) (all_0) := by
  exact rows_at (g := x1) ‹ROWS _ _ _› (by omega) (by omega) (by omega)
def o_Mo_node_0 : or_T := (114, 10, [(1, (0, 0, 3, []))], [(20, [0], [60, 0, 3, 198, 2, 3, 4]), (20, [0, 1], [50, 1, 1, 5, 3, 1, 3, 2, 0, 5, 4, 6, 6, 2, 0, 16709, 1, 1, 6, 2, 0, 539, 3, 0, 3, 1, 1])], [], [], [(20, [0], [60, 1, 1, 197, 5, 2])], [], [])
theorem oo_Mo_node_0 {kA : Nat → ClassId} : or_ok PRD kA GG o_Mo_node_0 := by
  refine or_mk fun A ta ws vs hD hth hl => ?_
  intro t1 k1 f3 f4
  have nf0 : fc_1 PRD (20, [0], [60, 1, 1, 197, 5, 2]) ws (vs) := ⟨nf_in hl rfl, sgq_1452 (vc_Mo_node_0_0 (v_iv (n_v vs 1)) (w_ei ws (w_ar ws (n_v vs 0) 2)) (w_fi ws (n_v vs 0) 5) (w_ei ws (w_ar ws (n_v vs 0) 3)) (w_ei ws (w_ar ws (n_v vs 0) 4)) k1 (shm_1230 f3) (shm_1037 f4))⟩
  refine ⟨(fun _ h => (by cases h)), [], trivial, ?_, (fun _ h => (by cases h))⟩
  rw [List.append_nil]
  exact List.forall_mem_cons.mpr ⟨⟨show (20 : Nat) < 100 from by decide, nf0⟩, (fun _ h => (by cases h))⟩
set_option maxHeartbeats 4000000 in
theorem vc_Mo_node_1_0 (x1 : Int) (all_0 : Int → Int) (r_0 : Int) (now_0 : Int → Int) (latest_0 : Int → Int) (k1 : 0 ≤ x1 ∧ x1 ≤ 3) (f3 : ROWS (all_0) (now_0) (latest_0)) (f4 : r_0 = ((16709 * x1) + (539 * now_0 (x1)))) : SGR (r_0) (all_0) := by
  exact rows_at (g := x1) ‹ROWS _ _ _› (by omega) (by omega) (by omega)
def o_Mo_node_1 : or_T := (131, 11, [(1, (0, 0, 3, []))], [(20, [0], [60, 0, 3, 198, 2, 3, 4]), (20, [0, 1], [50, 1, 1, 5, 3, 1, 3, 2, 0, 5, 4, 6, 6, 2, 0, 16709, 1, 1, 6, 2, 0, 539, 3, 0, 3, 1, 1])], [], [], [(20, [0], [60, 1, 1, 197, 5, 2])], [], [])
theorem oo_Mo_node_1 {kA : Nat → ClassId} : or_ok PRD kA GG o_Mo_node_1 := by
  refine or_mk fun A ta ws vs hD hth hl => ?_
  intro t1 k1 f3 f4
  have nf0 : fc_1 PRD (20, [0], [60, 1, 1, 197, 5, 2]) ws (vs) := ⟨nf_in hl rfl, sgq_1452 (vc_Mo_node_1_0 (v_iv (n_v vs 1)) (w_ei ws (w_ar ws (n_v vs 0) 2)) (w_fi ws (n_v vs 0) 5) (w_ei ws (w_ar ws (n_v vs 0) 3)) (w_ei ws (w_ar ws (n_v vs 0) 4)) k1 (shm_1230 f3) (shm_1037 f4))⟩
  refine ⟨(fun _ h => (by cases h)), [], trivial, ?_, (fun _ h => (by cases h))⟩
  rw [List.append_nil]
  exact List.forall_mem_cons.mpr ⟨⟨show (20 : Nat) < 100 from by decide, nf0⟩, (fun _ h => (by cases h))⟩
set_option maxHeartbeats 4000000 in
theorem vc_Mo_node_2_0 (x2 : Int) (x6 : Int) (x8 : Int) (all_0 : Int → Int) (r_0 : Int) (k2 : 0 ≤ x2 ∧ x2 ≤ 23) (k6 : 0 ≤ x6 ∧ x6 ≤ 24) (k8 : (-1) ≤ x8 ∧ x8 ≤ 23) (d0 : x8 + (-4294967296) ≤ x2 ∧ x2 ≤ x8 + 0) (d1 : x6 + (-1) ≤ x8 ∧ x8 ≤ x6 + (-1)) (f1 : 1 * x6 + ((-1) * all_0 (r_0 + 0) + 0) ≤ 0) (f2 : (-1) * x6 + (1 * all_0 (r_0 + 0) + 0) ≤ 0) : 1 * x2 + ((-1) * all_0 (r_0 + 0) + 0) ≤ (-1) := by
  first | omega
def o_Mo_node_2 : or_T := (145, 10, [(2, (0, 0, 23, [])), (6, (0, 0, 24, [])), (8, (0, -1, 23, []))], [(20, [6, 0], [30, 0, 1, 0, 0, -1, 3, 2005000]), (20, [6, 0], [30, 0, -1, 0, 0, 1, 3, 2005000])], [], [], [(20, [2, 0], [30, -1, 1, 0, 0, -1, 3, 2005000])], [], [(2, 8, -4294967296, 0), (8, 6, -1, -1)])
theorem oo_Mo_node_2 {kA : Nat → ClassId} : or_ok PRD kA GG o_Mo_node_2 := by
  refine or_mk fun A ta ws vs hD hth hl => ?_
  intro t2 k2 t6 k6 t8 k8 d0 d1 f1 f2
  have nf0 : fc_1 PRD (20, [2, 0], [30, -1, 1, 0, 0, -1, 3, 2005000]) ws (vs) := ⟨nf_in hl rfl, sgq_269 (vc_Mo_node_2_0 (v_iv (n_v vs 2)) (v_iv (n_v vs 6)) (v_iv (n_v vs 8)) (w_ei ws (w_ar ws (n_v vs 0) 2)) (w_fi ws (n_v vs 0) 5) k2 k6 k8 d0 d1 (shm_126 f1) (shm_127 f2))⟩
  refine ⟨(fun _ h => (by cases h)), [], trivial, ?_, (fun _ h => (by cases h))⟩
  rw [List.append_nil]
  exact List.forall_mem_cons.mpr ⟨⟨show (20 : Nat) < 100 from by decide, nf0⟩, (fun _ h => (by cases h))⟩
def n_Mo_node_an : List an_T := []
def t_Mo_node_ct : ct_L := [(0, 387, e_Mo_in), (0, 521, e_Mo_isPlace), (1, 475, e_Mo_nodes), (1, 478, e_Mo_longOf), (1, 527, e_Mo_take), (1, 668, e_Mo_blocks), (1, 689, e_Mo_plane), (1, 716, e_Mo_parts), (1, 719, e_Mo_strong), (1, 723, e_Mo_size), (1, 725, e_Mo_groupOf), (1, 728, e_Mo_neighbours), (1, 731, e_Mo_blocksOf), (1, 734, e_Mo_core)]
set_option maxRecDepth 100000 in
theorem c_Mo_node {l : Launch} {D : va_G} {kA : Nat → ClassId} (h_Mo_blocks : ct_ok PRD l D kA GG y_Mo_blocks z_Mo_blocks e_Mo_blocks) (h_Mo_blocksOf : ct_ok PRD l D kA GG y_Mo_blocksOf z_Mo_blocksOf e_Mo_blocksOf) (h_Mo_core : ct_ok PRD l D kA GG y_Mo_core z_Mo_core e_Mo_core) (h_Mo_groupOf : ct_ok PRD l D kA GG y_Mo_groupOf z_Mo_groupOf e_Mo_groupOf) (h_Mo_in : ct_ok PRD l D kA GG y_Mo_in z_Mo_in e_Mo_in) (h_Mo_isPlace : ct_ok PRD l D kA GG y_Mo_isPlace z_Mo_isPlace e_Mo_isPlace) (h_Mo_longOf : ct_ok PRD l D kA GG y_Mo_longOf z_Mo_longOf e_Mo_longOf) (h_Mo_neighbours : ct_ok PRD l D kA GG y_Mo_neighbours z_Mo_neighbours e_Mo_neighbours) (h_Mo_nodes : ct_ok PRD l D kA GG y_Mo_nodes z_Mo_nodes e_Mo_nodes) (h_Mo_parts : ct_ok PRD l D kA GG y_Mo_parts z_Mo_parts e_Mo_parts) (h_Mo_plane : ct_ok PRD l D kA GG y_Mo_plane z_Mo_plane e_Mo_plane) (h_Mo_size : ct_ok PRD l D kA GG y_Mo_size z_Mo_size e_Mo_size) (h_Mo_strong : ct_ok PRD l D kA GG y_Mo_strong z_Mo_strong e_Mo_strong) (h_Mo_take : ct_ok PRD l D kA GG y_Mo_take z_Mo_take e_Mo_take) : ct_ok PRD l D kA GG y_Mo_node z_Mo_node e_Mo_node := chk_all_ok (FT := [(29, 13, 16), (35, 13, 18)]) (PT := []) (CT := t_Mo_node_ct) (KT := []) (NT := []) (AN := n_Mo_node_an) (OT := [o_Mo_node_0, o_Mo_node_1, o_Mo_node_2]) 0 304 (List.forall_mem_cons.mpr ⟨oo_Mo_node_0, List.forall_mem_cons.mpr ⟨oo_Mo_node_1, List.forall_mem_cons.mpr ⟨oo_Mo_node_2, List.forall_mem_nil _⟩⟩⟩) (by decide +kernel) ⟨List.forall_mem_cons.mpr ⟨gf_Mo_29, List.forall_mem_cons.mpr ⟨gf_Mo_35, List.forall_mem_nil _⟩⟩, List.forall_mem_nil _, List.forall_mem_cons.mpr ⟨cl_static (y := y_Mo_in) h_Mo_in wm_2971 wm_9 wm_2969 wm_2970 ⟨by decide, by decide, by decide +kernel⟩ (by decide), List.forall_mem_cons.mpr ⟨cl_static (y := y_Mo_isPlace) h_Mo_isPlace wm_2978 wm_9 wm_2976 wm_2977 ⟨by decide, by decide, by decide +kernel⟩ (by decide), List.forall_mem_cons.mpr ⟨cl_virtual (y := y_Mo_nodes) (ci := 13) rfl rfl ⟨_, _, rfl⟩ (by decide +kernel) h_Mo_nodes wm_3025 wm_9 wm_3022 wm_3024 wv_13_3 ⟨by decide, by decide, by decide +kernel⟩ (by decide), List.forall_mem_cons.mpr ⟨cl_virtual (y := y_Mo_longOf) (ci := 13) rfl rfl ⟨_, _, rfl⟩ (by decide +kernel) h_Mo_longOf wm_3029 wm_9 wm_3026 wm_3028 wv_13_4 ⟨by decide, by decide, by decide +kernel⟩ (by decide), List.forall_mem_cons.mpr ⟨cl_virtual (y := y_Mo_take) (ci := 13) rfl rfl ⟨_, _, rfl⟩ (by decide +kernel) h_Mo_take wm_3091 wm_9 wm_3088 wm_3090 wv_14_2 ⟨by decide, by decide, by decide +kernel⟩ (by decide), List.forall_mem_cons.mpr ⟨cl_virtual (y := y_Mo_blocks) (ci := 13) rfl rfl ⟨_, _, rfl⟩ (by decide +kernel) h_Mo_blocks wm_3155 wm_9 wm_3152 wm_3154 wv_14_14 ⟨by decide, by decide, by decide +kernel⟩ (by decide), List.forall_mem_cons.mpr ⟨cl_virtual (y := y_Mo_plane) (ci := 13) rfl rfl ⟨_, _, rfl⟩ (by decide +kernel) h_Mo_plane wm_3147 wm_9 wm_3144 wm_3146 wv_14_12 ⟨by decide, by decide, by decide +kernel⟩ (by decide), List.forall_mem_cons.mpr ⟨cl_virtual (y := y_Mo_parts) (ci := 13) rfl rfl ⟨_, _, rfl⟩ (by decide +kernel) h_Mo_parts wm_3283 wm_9 wm_3280 wm_3282 wv_16_11 ⟨by decide, by decide, by decide +kernel⟩ (by decide), List.forall_mem_cons.mpr ⟨cl_virtual (y := y_Mo_strong) (ci := 13) rfl rfl ⟨_, _, rfl⟩ (by decide +kernel) h_Mo_strong wm_3291 wm_9 wm_3288 wm_3290 wv_16_13 ⟨by decide, by decide, by decide +kernel⟩ (by decide), List.forall_mem_cons.mpr ⟨cl_virtual (y := y_Mo_size) (ci := 13) rfl rfl ⟨_, _, rfl⟩ (by decide +kernel) h_Mo_size wm_3307 wm_9 wm_3304 wm_3306 wv_17_0 ⟨by decide, by decide, by decide +kernel⟩ (by decide), List.forall_mem_cons.mpr ⟨cl_virtual (y := y_Mo_groupOf) (ci := 13) rfl rfl ⟨_, _, rfl⟩ (by decide +kernel) h_Mo_groupOf wm_3311 wm_9 wm_3308 wm_3310 wv_17_1 ⟨by decide, by decide, by decide +kernel⟩ (by decide), List.forall_mem_cons.mpr ⟨cl_virtual (y := y_Mo_neighbours) (ci := 13) rfl rfl ⟨_, _, rfl⟩ (by decide +kernel) h_Mo_neighbours wm_3315 wm_9 wm_3312 wm_3314 wv_17_2 ⟨by decide, by decide, by decide +kernel⟩ (by decide), List.forall_mem_cons.mpr ⟨cl_virtual (y := y_Mo_blocksOf) (ci := 13) rfl rfl ⟨_, _, rfl⟩ (by decide +kernel) h_Mo_blocksOf wm_3319 wm_9 wm_3316 wm_3318 wv_17_3 ⟨by decide, by decide, by decide +kernel⟩ (by decide), List.forall_mem_cons.mpr ⟨cl_virtual (y := y_Mo_core) (ci := 13) rfl rfl ⟨_, _, rfl⟩ (by decide +kernel) h_Mo_core wm_3323 wm_9 wm_3320 wm_3322 wv_17_4 ⟨by decide, by decide, by decide +kernel⟩ (by decide), List.forall_mem_nil _⟩⟩⟩⟩⟩⟩⟩⟩⟩⟩⟩⟩⟩⟩, List.forall_mem_nil _, List.forall_mem_nil _, GG_pl⟩ (by decide +kernel)

set_option maxHeartbeats 4000000 in
theorem vc_Em_embed_at_gn_0_0 (x3 : Int) (x8 : Int) (edges_0o1 : Int) (tail_0o1 : Int → Int) (head_0o1 : Int → Int) (block_0 : Int → Int) (k3 : 0 ≤ x3 ∧ x3 ≤ 72) (k8 : 0 ≤ x8 ∧ x8 ≤ 72) (g4 : x3 = edges_0o1) (f7 : LBL (block_0) (x3) (x8)) (f8 : CNL (block_0) (tail_0o1) (head_0o1) (x3)) (kz_1_6 : 0 ≤ edges_0o1 ∧ edges_0o1 ≤ 72) : LBE (edges_0o1) (block_0) (tail_0o1) (head_0o1) (x8) := by
  first
    | assumption
    | (rw [show edges_0o1 = x3 by omega]; exact ⟨‹LBL _ _ _›, ‹CNL _ _ _ _›⟩)
  
def o_Em_embed_at_gn_0 : or_T := (50, 10, [(1, (2, 0, 0, [5])), (3, (0, 0, 72, [])), (8, (0, 0, 72, []))], [(9, [7, 0], [2]), (9, [6, 1], [9]), (9, [5, 1], [8]), (9, [4, 1], [7]), (9, [3, 1], [6]), (20, [7, 3, 8], [61, 1, 568]), (20, [7, 4, 5, 3], [61, 3, 586])], [], [], [(20, [0, 1, 8], [60, 1, 3, 598, 1006, 2, 1007, 1008]), (24, [1, 1], []), (24, [0, 0], []), (24, [1, 1], [])], [], [])
theorem oo_Em_embed_at_gn_0 {kA : Nat → ClassId} : or_ok PRD kA GG o_Em_embed_at_gn_0 := by
  refine or_mk fun A ta ws vs hD hth hl => ?_
  intro t1 r1 t3 k3 t8 k8 f0 f1 f2 f3 f4 f7 f8
  replace f0 := shm_120 f0
  replace f1 := shm_119 f1
  replace f2 := shm_293 f2
  replace f3 := shm_198 f3
  replace f4 := shm_111 f4
  replace f7 := shm_1604 f7
  replace f8 := shm_1605 f8
  have ad_7 : v_ad (n_v vs 7) = w_ar ws (n_v vs 0) 2 := congrArg v_ad f0
  have ad_6 : v_ad (n_v vs 6) = w_ar ws (n_v vs 1) 9 := congrArg v_ad f1
  have ad_5 : v_ad (n_v vs 5) = w_ar ws (n_v vs 1) 8 := congrArg v_ad f2
  have ad_4 : v_ad (n_v vs 4) = w_ar ws (n_v vs 1) 7 := congrArg v_ad f3
  have g4 : v_iv (n_v vs 3) = w_fi ws (n_v vs 1) 6 := congrArg v_iv f4
  simp only [ad_7, ad_4, ad_5, ad_6] at f7 f8
  have kz_1_6 := fdq_59 hD hth r1
  have nf0 : fc_1 PRD (20, [0, 1, 8], [60, 1, 3, 598, 1006, 2, 1007, 1008]) ws (vs) := ⟨nf_in hl rfl, sgq_1078 (vc_Em_embed_at_gn_0_0 (v_iv (n_v vs 3)) (v_iv (n_v vs 8)) (w_fi ws (n_v vs 1) 6) (w_ei ws (w_ar ws (n_v vs 1) 7)) (w_ei ws (w_ar ws (n_v vs 1) 8)) (w_ei ws (w_ar ws (n_v vs 0) 2)) k3 k8 g4 f7 f8 kz_1_6)⟩
  have nf1 : fc_1 PRD (24, [1, 1], []) ws (vs) := by
    refine ⟨nf_in hl rfl, sgq_1 ?_⟩
    · show n_v vs 1 = n_v vs 1
      first | rfl | simp only [true_and]
  have nf2 : fc_1 PRD (24, [0, 0], []) ws (vs) := by
    refine ⟨nf_in hl rfl, sgq_1 ?_⟩
    · show n_v vs 0 = n_v vs 0
      first | rfl | simp only [true_and]
  have nf3 : fc_1 PRD (24, [1, 1], []) ws (vs) := by
    refine ⟨nf_in hl rfl, sgq_1 ?_⟩
    · show n_v vs 1 = n_v vs 1
      first | rfl | simp only [true_and]
  refine ⟨(fun _ h => (by cases h)), [], trivial, ?_, (fun _ h => (by cases h))⟩
  rw [List.append_nil]
  exact List.forall_mem_cons.mpr ⟨⟨show (20 : Nat) < 100 from by decide, nf0⟩, List.forall_mem_cons.mpr ⟨⟨show (24 : Nat) < 100 from by decide, nf1⟩, List.forall_mem_cons.mpr ⟨⟨show (24 : Nat) < 100 from by decide, nf2⟩, List.forall_mem_cons.mpr ⟨⟨show (24 : Nat) < 100 from by decide, nf3⟩, (fun _ h => (by cases h))⟩⟩⟩⟩
set_option maxHeartbeats 4000000 in
theorem vc_Em_embed_at_gn_1_0 (x7 : Int) (near_0o1 : Int → Int) (nodes_0o1 : Int) (first_0o1 : Int → Int) (k7 : 0 ≤ x7 ∧ x7 ≤ 0) (kz_1_5 : 0 ≤ nodes_0o1 ∧ nodes_0o1 ≤ 24) : FIL (nodes_0o1) (near_0o1) (first_0o1) (x7) := by
  first
    | assumption
    | exact fil_start (by omega)
    | exact fil_next ‹FIL1 _ _ _ _› (by omega)
  
def o_Em_embed_at_gn_1 : or_T := (127, 8, [(1, (2, 0, 0, [5])), (7, (0, 0, 0, []))], [(24, [1, 6], [])], [], [], [(20, [6, 7], [60, 1, 2, 629, 5, 9, 12])], [], [])
theorem oo_Em_embed_at_gn_1 {kA : Nat → ClassId} : or_ok PRD kA GG o_Em_embed_at_gn_1 := by
  refine or_mk fun A ta ws vs hD hth hl => ?_
  intro t1 r1 t7 k7 f3
  replace f3 := shm_5 f3
  have q6 : n_v vs 6 = n_v vs 1 := f3.symm
  have kz_1_5 := fdq_82 hD hth r1
  have nf0 : fc_1 PRD (20, [6, 7], [60, 1, 2, 629, 5, 9, 12]) ws (vs) := by
    refine ⟨nf_in hl rfl, sgq_1079 ?_⟩
    · show FIL (w_fi ws (n_v vs 6) 5) (w_ei ws (w_ar ws (n_v vs 6) 9)) (w_ei ws (w_ar ws (n_v vs 6) 12)) (v_iv (n_v vs 7))
      rw [q6]
      exact vc_Em_embed_at_gn_1_0 (v_iv (n_v vs 7)) (w_ei ws (w_ar ws (n_v vs 1) 9)) (w_fi ws (n_v vs 1) 5) (w_ei ws (w_ar ws (n_v vs 1) 12)) k7 kz_1_5
  refine ⟨(fun _ h => (by cases h)), [], trivial, ?_, (fun _ h => (by cases h))⟩
  rw [List.append_nil]
  exact List.forall_mem_cons.mpr ⟨⟨show (20 : Nat) < 100 from by decide, nf0⟩, (fun _ h => (by cases h))⟩
set_option maxHeartbeats 4000000 in
theorem vc_Em_embed_at_gn_2_0 (x4 : Int) (x5 : Int) (block_0 : Int → Int) (tail_0o1 : Int → Int) (head_0o1 : Int → Int) (edges_0o1 : Int) (k4 : 1 ≤ x4 ∧ x4 ≤ 72) (k5 : 0 ≤ x5 ∧ x5 ≤ 71) (f0 : x5 < x4) (f1 : LBE (edges_0o1) (block_0) (tail_0o1) (head_0o1) (x4)) (kz_1_6 : 0 ≤ edges_0o1 ∧ edges_0o1 ≤ 72) : HSB (edges_0o1) (block_0) (x5) := by
  first
    | exact lbe_hsb ‹LBE _ _ _ _ _› (by omega) (by omega)
  
def o_Em_embed_at_gn_2 : or_T := (57, 7, [(1, (2, 0, 0, [5])), (4, (0, 1, 72, [])), (5, (0, 0, 71, []))], [(7, [5, 4], [2]), (20, [2, 6, 4], [60, 1, 3, 598, 1006, 2, 1007, 1008]), (24, [1, 6], []), (24, [0, 2], [])], [], [], [(20, [2, 6, 5], [60, 1, 1, 597, 1006, 2])], [], [])
theorem oo_Em_embed_at_gn_2 {kA : Nat → ClassId} : or_ok PRD kA GG o_Em_embed_at_gn_2 := by
  refine or_mk fun A ta ws vs hD hth hl => ?_
  intro t1 r1 t4 k4 t5 k5 f0 f1 f3 f4
  replace f0 := shm_6 f0
  replace f1 := shm_1078 f1
  replace f3 := shm_5 f3
  replace f4 := shm_5 f4
  have q6 : n_v vs 6 = n_v vs 1 := f3.symm
  have q2 : n_v vs 2 = n_v vs 0 := f4.symm
  simp only [q6, q2] at f1
  have kz_1_6 := fdq_59 hD hth r1
  have nf0 : fc_1 PRD (20, [2, 6, 5], [60, 1, 1, 597, 1006, 2]) ws (vs) := by
    refine ⟨nf_in hl rfl, sgq_1680 ?_⟩
    · show HSB (w_fi ws (n_v vs 6) 6) (w_ei ws (w_ar ws (n_v vs 2) 2)) (v_iv (n_v vs 5))
      simp only [q6, q2]
      exact vc_Em_embed_at_gn_2_0 (v_iv (n_v vs 4)) (v_iv (n_v vs 5)) (w_ei ws (w_ar ws (n_v vs 0) 2)) (w_ei ws (w_ar ws (n_v vs 1) 7)) (w_ei ws (w_ar ws (n_v vs 1) 8)) (w_fi ws (n_v vs 1) 6) k4 k5 f0 f1 kz_1_6
  refine ⟨(fun _ h => (by cases h)), [], trivial, ?_, (fun _ h => (by cases h))⟩
  rw [List.append_nil]
  exact List.forall_mem_cons.mpr ⟨⟨show (20 : Nat) < 100 from by decide, nf0⟩, (fun _ h => (by cases h))⟩
set_option maxHeartbeats 4000000 in
theorem vc_Em_embed_at_gn_3_0 (x4 : Int) (x5 : Int) (k4 : 1 ≤ x4 ∧ x4 ≤ 72) (k5 : 0 ≤ x5 ∧ x5 ≤ 71) (d0 : x4 + (-4294967296) ≤ x5 ∧ x5 ≤ x4 + (-1)) : (0 ≤ x5) ∧ ((x5 + 1) ≤ x4) := by
  first
    | omega
  
set_option maxHeartbeats 4000000 in
theorem vc_Em_embed_at_gn_3_1 (x4 : Int) (block_0 : Int → Int) (edges_0o1 : Int) (tail_0o1 : Int → Int) (head_0o1 : Int → Int) (k4 : 1 ≤ x4 ∧ x4 ≤ 72) (f1 : LBE (edges_0o1) (block_0) (tail_0o1) (head_0o1) (x4)) (kz_1_6 : 0 ≤ edges_0o1 ∧ edges_0o1 ≤ 72) : CNE (edges_0o1) (block_0) (tail_0o1) (head_0o1) := by
  first
    | assumption
    | exact (‹LBE _ _ _ _ _›).2
  
def o_Em_embed_at_gn_3 : or_T := (65, 9, [(1, (2, 0, 0, [5])), (4, (0, 1, 72, [])), (5, (0, 0, 71, []))], [(20, [2, 6, 4], [60, 1, 3, 598, 1006, 2, 1007, 1008]), (24, [1, 6], []), (24, [0, 2], [])], [], [], [(20, [5, 4], [50, 0, 0, 2, 6, 0, 2, 0, 0, 1, 0, 0, 6, 4, 2, 1, 0, 0, 1, 1, 1]), (20, [2, 6], [60, 1, 3, 599, 1006, 2, 1007, 1008])], [], [(5, 4, -4294967296, -1)])
theorem oo_Em_embed_at_gn_3 {kA : Nat → ClassId} : or_ok PRD kA GG o_Em_embed_at_gn_3 := by
  refine or_mk fun A ta ws vs hD hth hl => ?_
  intro t1 r1 t4 k4 t5 k5 d0 f1 f3 f4
  replace f1 := shm_1078 f1
  replace f3 := shm_5 f3
  replace f4 := shm_5 f4
  have q6 : n_v vs 6 = n_v vs 1 := f3.symm
  have q2 : n_v vs 2 = n_v vs 0 := f4.symm
  simp only [q6, q2] at f1
  have kz_1_6 := fdq_59 hD hth r1
  have nf0 : fc_1 PRD (20, [5, 4], [50, 0, 0, 2, 6, 0, 2, 0, 0, 1, 0, 0, 6, 4, 2, 1, 0, 0, 1, 1, 1]) ws (vs) := ⟨nf_in hl rfl, sgq_400 (vc_Em_embed_at_gn_3_0 (v_iv (n_v vs 4)) (v_iv (n_v vs 5)) k4 k5 d0)⟩
  have nf1 : fc_1 PRD (20, [2, 6], [60, 1, 3, 599, 1006, 2, 1007, 1008]) ws (vs) := by
    refine ⟨nf_in hl rfl, sgq_1339 ?_⟩
    · show CNE (w_fi ws (n_v vs 6) 6) (w_ei ws (w_ar ws (n_v vs 2) 2)) (w_ei ws (w_ar ws (n_v vs 6) 7)) (w_ei ws (w_ar ws (n_v vs 6) 8))
      simp only [q6, q2]
      exact vc_Em_embed_at_gn_3_1 (v_iv (n_v vs 4)) (w_ei ws (w_ar ws (n_v vs 0) 2)) (w_fi ws (n_v vs 1) 6) (w_ei ws (w_ar ws (n_v vs 1) 7)) (w_ei ws (w_ar ws (n_v vs 1) 8)) k4 f1 kz_1_6
  refine ⟨(fun _ h => (by cases h)), [], trivial, ?_, (fun _ h => (by cases h))⟩
  rw [List.append_nil]
  exact List.forall_mem_cons.mpr ⟨⟨show (20 : Nat) < 100 from by decide, nf0⟩, List.forall_mem_cons.mpr ⟨⟨show (20 : Nat) < 100 from by decide, nf1⟩, (fun _ h => (by cases h))⟩⟩
set_option maxHeartbeats 4000000 in
theorem vc_Em_embed_at_gn_4_0 (x6 : Int) (drawnNodes_0 : Int) (blockNodes_0 : Int) (k6 : 1 ≤ x6 ∧ x6 ≤ 2147483647) (f0 : 0 < x6) (f3 : DBA (drawnNodes_0) (blockNodes_0) (x6)) (kz_0_5 : 0 ≤ blockNodes_0 ∧ blockNodes_0 ≤ 33554431) (kz_0_6 : 0 ≤ drawnNodes_0 ∧ drawnNodes_0 ≤ 33554431) : DBN (drawnNodes_0) (blockNodes_0) := by
  first
    | assumption
    | exact dbn_of ‹DBA _ _ _› (by omega)
  
set_option maxHeartbeats 4000000 in
theorem vc_Em_embed_at_gn_4_1 (x6 : Int) (cycles_0 : Int) (k6 : 1 ≤ x6 ∧ x6 ≤ 2147483647) (f2 : (x6 ≤ 0) ∨ (1 ≤ cycles_0)) (kz_0_7 : 0 ≤ cycles_0 ∧ cycles_0 ≤ 50) : 1 ≤ cycles_0 := by
  first
    | omega
  
def o_Em_embed_at_gn_4 : or_T := (79, 10, [(0, (2, 0, 0, [1])), (6, (0, 1, 2147483647, []))], [(8, [6], [4]), (20, [6, 2], [50, 1, 0, 1007, 3, 6, 0, 2, 1, 0, 0, 0, 0, 2, 0, 1, 2, 1, 7]), (20, [2, 6], [60, 2, 0, 607, 6, 5]), (24, [0, 2], [])], [], [], [(20, [2], [60, 2, 0, 602, 6, 5]), (20, [2], [50, 1, 0, 7, 0, 2, 0, 1, 2, 0, 7])], [], [])
theorem oo_Em_embed_at_gn_4 {kA : Nat → ClassId} : or_ok PRD kA GG o_Em_embed_at_gn_4 := by
  refine or_mk fun A ta ws vs hD hth hl => ?_
  intro t0 r0 t6 k6 f0 f2 f3 f10
  replace f0 := shm_308 f0
  replace f2 := shm_1684 f2
  replace f3 := shm_1685 f3
  replace f10 := shm_5 f10
  have q2 : n_v vs 2 = n_v vs 0 := f10.symm
  simp only [q2] at f2 f3
  have kz_0_5 := fdq_283 hD hth r0
  have kz_0_6 := fdq_53 hD hth r0
  have kz_0_7 := fdq_49 hD hth r0
  have nf0 : fc_1 PRD (20, [2], [60, 2, 0, 602, 6, 5]) ws (vs) := by
    refine ⟨nf_in hl rfl, sgq_1340 ?_⟩
    · show DBN (w_fi ws (n_v vs 2) 6) (w_fi ws (n_v vs 2) 5)
      rw [q2]
      exact vc_Em_embed_at_gn_4_0 (v_iv (n_v vs 6)) (w_fi ws (n_v vs 0) 6) (w_fi ws (n_v vs 0) 5) k6 f0 f3 kz_0_5 kz_0_6
  have nf1 : fc_1 PRD (20, [2], [50, 1, 0, 7, 0, 2, 0, 1, 2, 0, 7]) ws (vs) := by
    refine ⟨nf_in hl rfl, sgq_1341 ?_⟩
    · show 1 ≤ w_fi ws (n_v vs 2) 7
      rw [q2]
      exact vc_Em_embed_at_gn_4_1 (v_iv (n_v vs 6)) (w_fi ws (n_v vs 0) 7) k6 f2 kz_0_7
  refine ⟨(fun _ h => (by cases h)), [], trivial, ?_, (fun _ h => (by cases h))⟩
  rw [List.append_nil]
  exact List.forall_mem_cons.mpr ⟨⟨show (20 : Nat) < 100 from by decide, nf0⟩, List.forall_mem_cons.mpr ⟨⟨show (20 : Nat) < 100 from by decide, nf1⟩, (fun _ h => (by cases h))⟩⟩
set_option maxHeartbeats 4000000 in
theorem vc_Em_embed_at_gn_5_0 (x11 : Int) (edges_0o1 : Int) (nodes_0o1 : Int) (near_0o1 : Int → Int) (first_0o1 : Int → Int) (faceOf_0o1 : Int → Int) (k11 : 0 ≤ x11 ∧ x11 ≤ 0) (kz_1_5 : 0 ≤ nodes_0o1 ∧ nodes_0o1 ≤ 24) (kz_1_6 : 0 ≤ edges_0o1 ∧ edges_0o1 ≤ 72) : EFA (nodes_0o1) (edges_0o1) (near_0o1) (first_0o1) (faceOf_0o1) (x11) := by
  first
    | exact efa_not (by omega)
    | exact efa_of ‹FIL _ _ _ _› (by omega) ‹FAD _ _›
  
def o_Em_embed_at_gn_5 : or_T := (93, 12, [(1, (2, 0, 0, [5])), (11, (0, 0, 0, []))], [], [], [], [(20, [1, 11], [60, 2, 3, 632, 5, 6, 9, 12, 16])], [], [])
theorem oo_Em_embed_at_gn_5 {kA : Nat → ClassId} : or_ok PRD kA GG o_Em_embed_at_gn_5 := by
  refine or_mk fun A ta ws vs hD hth hl => ?_
  intro t1 r1 t11 k11
  have kz_1_5 := fdq_82 hD hth r1
  have kz_1_6 := fdq_59 hD hth r1
  have nf0 : fc_1 PRD (20, [1, 11], [60, 2, 3, 632, 5, 6, 9, 12, 16]) ws (vs) := ⟨nf_in hl rfl, sgq_2144 (vc_Em_embed_at_gn_5_0 (v_iv (n_v vs 11)) (w_fi ws (n_v vs 1) 6) (w_fi ws (n_v vs 1) 5) (w_ei ws (w_ar ws (n_v vs 1) 9)) (w_ei ws (w_ar ws (n_v vs 1) 12)) (w_ei ws (w_ar ws (n_v vs 1) 16)) k11 kz_1_5 kz_1_6)⟩
  refine ⟨(fun _ h => (by cases h)), [], trivial, ?_, (fun _ h => (by cases h))⟩
  rw [List.append_nil]
  exact List.forall_mem_cons.mpr ⟨⟨show (20 : Nat) < 100 from by decide, nf0⟩, (fun _ h => (by cases h))⟩
set_option maxHeartbeats 4000000 in
theorem vc_Em_embed_at_gn_6_0 (x10 : Int) (drawnNodes_0 : Int) (nodes_0o1 : Int) (pieceNodes_0 : Int) (pieceEnds_0 : Int) (k10 : 1 ≤ x10 ∧ x10 ≤ 1) (f14 : PKA (pieceNodes_0) (pieceEnds_0) (drawnNodes_0) (nodes_0o1) (x10)) (kz_0_6 : 0 ≤ drawnNodes_0 ∧ drawnNodes_0 ≤ 33554431) (kz_0_16 : 0 ≤ pieceNodes_0 ∧ pieceNodes_0 ≤ 33554431) (kz_0_17 : 0 ≤ pieceEnds_0 ∧ pieceEnds_0 ≤ 33554431) (kz_1_5 : 0 ≤ nodes_0o1 ∧ nodes_0o1 ≤ 24) : PEN (pieceNodes_0) (pieceEnds_0) := by
  first
    | (rcases (‹PKA _ _ _ _ _›) with q | q; omega; exact q.1)
  
set_option maxHeartbeats 4000000 in
theorem vc_Em_embed_at_gn_6_1 (tail_0o1 : Int → Int) (head_0o1 : Int → Int) (edges_0o1 : Int) (nodes_0o1 : Int) (near_0o1 : Int → Int) (f9 : NOK (nodes_0o1) (edges_0o1) (tail_0o1) (head_0o1) (near_0o1)) (kz_1_5 : 0 ≤ nodes_0o1 ∧ nodes_0o1 ≤ 24) (kz_1_6 : 0 ≤ edges_0o1 ∧ edges_0o1 ≤ 72) : SYE (nodes_0o1) (near_0o1) := by
  first
    | exact nok_sye ‹NOK _ _ _ _ _› (by omega)
  
set_option maxHeartbeats 4000000 in
theorem vc_Em_embed_at_gn_6_2 (x10 : Int) (drawnNodes_0 : Int) (nodes_0o1 : Int) (pieceNodes_0 : Int) (pieceEnds_0 : Int) (k10 : 1 ≤ x10 ∧ x10 ≤ 1) (f14 : PKA (pieceNodes_0) (pieceEnds_0) (drawnNodes_0) (nodes_0o1) (x10)) (kz_0_6 : 0 ≤ drawnNodes_0 ∧ drawnNodes_0 ≤ 33554431) (kz_0_16 : 0 ≤ pieceNodes_0 ∧ pieceNodes_0 ≤ 33554431) (kz_0_17 : 0 ≤ pieceEnds_0 ∧ pieceEnds_0 ≤ 33554431) (kz_1_5 : 0 ≤ nodes_0o1 ∧ nodes_0o1 ≤ 24) : PKD (pieceNodes_0) (drawnNodes_0) (nodes_0o1) := by
  first
    | (rcases (‹PKA _ _ _ _ _›) with q | q; omega; exact q.2)
  
def o_Em_embed_at_gn_6 : or_T := (86, 11, [(0, (2, 0, 0, [1])), (1, (2, 0, 0, [5])), (10, (0, 1, 1, []))], [(24, [1, 8], []), (20, [8], [60, 2, 3, 595, 5, 6, 7, 8, 9]), (24, [0, 2], []), (20, [2, 8, 10], [60, 4, 0, 612, 16, 17, 6, 1005])], [], [], [(20, [2], [60, 2, 0, 576, 16, 17]), (20, [8], [60, 1, 1, 575, 5, 9]), (20, [2, 8], [60, 3, 0, 610, 16, 6, 1005])], [], [])
theorem oo_Em_embed_at_gn_6 {kA : Nat → ClassId} : or_ok PRD kA GG o_Em_embed_at_gn_6 := by
  refine or_mk fun A ta ws vs hD hth hl => ?_
  intro t0 r0 t1 r1 t10 k10 f7 f9 f12 f14
  replace f7 := shm_5 f7
  replace f9 := shm_408 f9
  replace f12 := shm_5 f12
  replace f14 := shm_1343 f14
  have q8 : n_v vs 8 = n_v vs 1 := f7.symm
  have q2 : n_v vs 2 = n_v vs 0 := f12.symm
  simp only [q2, q8] at f9 f14
  have kz_0_6 := fdq_53 hD hth r0
  have kz_0_16 := fdq_284 hD hth r0
  have kz_0_17 := fdq_285 hD hth r0
  have kz_1_5 := fdq_82 hD hth r1
  have kz_1_6 := fdq_59 hD hth r1
  have nf0 : fc_1 PRD (20, [2], [60, 2, 0, 576, 16, 17]) ws (vs) := by
    refine ⟨nf_in hl rfl, sgq_1596 ?_⟩
    · show PEN (w_fi ws (n_v vs 2) 16) (w_fi ws (n_v vs 2) 17)
      rw [q2]
      exact vc_Em_embed_at_gn_6_0 (v_iv (n_v vs 10)) (w_fi ws (n_v vs 0) 6) (w_fi ws (n_v vs 1) 5) (w_fi ws (n_v vs 0) 16) (w_fi ws (n_v vs 0) 17) k10 f14 kz_0_6 kz_0_16 kz_0_17 kz_1_5
  have nf1 : fc_1 PRD (20, [8], [60, 1, 1, 575, 5, 9]) ws (vs) := by
    refine ⟨nf_in hl rfl, sgq_1597 ?_⟩
    · show SYE (w_fi ws (n_v vs 8) 5) (w_ei ws (w_ar ws (n_v vs 8) 9))
      rw [q8]
      exact vc_Em_embed_at_gn_6_1 (w_ei ws (w_ar ws (n_v vs 1) 7)) (w_ei ws (w_ar ws (n_v vs 1) 8)) (w_fi ws (n_v vs 1) 6) (w_fi ws (n_v vs 1) 5) (w_ei ws (w_ar ws (n_v vs 1) 9)) f9 kz_1_5 kz_1_6
  have nf2 : fc_1 PRD (20, [2, 8], [60, 3, 0, 610, 16, 6, 1005]) ws (vs) := by
    refine ⟨nf_in hl rfl, sgq_1598 ?_⟩
    · show PKD (w_fi ws (n_v vs 2) 16) (w_fi ws (n_v vs 2) 6) (w_fi ws (n_v vs 8) 5)
      simp only [q8, q2]
      exact vc_Em_embed_at_gn_6_2 (v_iv (n_v vs 10)) (w_fi ws (n_v vs 0) 6) (w_fi ws (n_v vs 1) 5) (w_fi ws (n_v vs 0) 16) (w_fi ws (n_v vs 0) 17) k10 f14 kz_0_6 kz_0_16 kz_0_17 kz_1_5
  refine ⟨(fun _ h => (by cases h)), [], trivial, ?_, (fun _ h => (by cases h))⟩
  rw [List.append_nil]
  exact List.forall_mem_cons.mpr ⟨⟨show (20 : Nat) < 100 from by decide, nf0⟩, List.forall_mem_cons.mpr ⟨⟨show (20 : Nat) < 100 from by decide, nf1⟩, List.forall_mem_cons.mpr ⟨⟨show (20 : Nat) < 100 from by decide, nf2⟩, (fun _ h => (by cases h))⟩⟩⟩
set_option maxHeartbeats 4000000 in
theorem vc_Em_embed_at_gn_7_0 (x12 : Int) (near_0o1 : Int → Int) (nodes_0o1 : Int) (edges_0o1 : Int) (first_0o1 : Int → Int) (faceOf_0o1 : Int → Int) (k12 : 0 ≤ x12 ∧ x12 ≤ 0) (kz_1_5 : 0 ≤ nodes_0o1 ∧ nodes_0o1 ≤ 24) (kz_1_6 : 0 ≤ edges_0o1 ∧ edges_0o1 ≤ 72) : EFA (nodes_0o1) (edges_0o1) (near_0o1) (first_0o1) (faceOf_0o1) (x12) := by
  first
    | exact efa_not (by omega)
    | exact efa_of ‹FIL _ _ _ _› (by omega) ‹FAD _ _›
  
def o_Em_embed_at_gn_7 : or_T := (93, 13, [(1, (2, 0, 0, [5])), (12, (0, 0, 0, []))], [], [], [], [(20, [1, 12], [60, 2, 3, 632, 5, 6, 9, 12, 16])], [], [])
theorem oo_Em_embed_at_gn_7 {kA : Nat → ClassId} : or_ok PRD kA GG o_Em_embed_at_gn_7 := by
  refine or_mk fun A ta ws vs hD hth hl => ?_
  intro t1 r1 t12 k12
  have kz_1_5 := fdq_82 hD hth r1
  have kz_1_6 := fdq_59 hD hth r1
  have nf0 : fc_1 PRD (20, [1, 12], [60, 2, 3, 632, 5, 6, 9, 12, 16]) ws (vs) := ⟨nf_in hl rfl, sgq_2144 (vc_Em_embed_at_gn_7_0 (v_iv (n_v vs 12)) (w_ei ws (w_ar ws (n_v vs 1) 9)) (w_fi ws (n_v vs 1) 5) (w_fi ws (n_v vs 1) 6) (w_ei ws (w_ar ws (n_v vs 1) 12)) (w_ei ws (w_ar ws (n_v vs 1) 16)) k12 kz_1_5 kz_1_6)⟩
  refine ⟨(fun _ h => (by cases h)), [], trivial, ?_, (fun _ h => (by cases h))⟩
  rw [List.append_nil]
  exact List.forall_mem_cons.mpr ⟨⟨show (20 : Nat) < 100 from by decide, nf0⟩, (fun _ h => (by cases h))⟩
set_option maxHeartbeats 4000000 in
theorem vc_Em_embed_at_gn_8_0 (x10 : Int) (x11 : Int) (cycles_0 : Int) (wayLength_0 : Int) (k10 : 1 ≤ x10 ∧ x10 ≤ 1) (k11 : 1 ≤ x11 ∧ x11 ≤ 1) (f20 : (x11 = 0) ∨ ((2 ≤ wayLength_0) ∧ ((cycles_0 + 1) ≤ 50))) (f22 : x10 ≠ 0) (kz_0_7 : 0 ≤ cycles_0 ∧ cycles_0 ≤ 50) (kz_0_15 : 0 ≤ wayLength_0 ∧ wayLength_0 ≤ 27) : 2 ≤ wayLength_0 := by
  first
    | omega
  
set_option maxHeartbeats 4000000 in
theorem vc_Em_embed_at_gn_8_1 (x10 : Int) (x11 : Int) (cycles_0 : Int) (wayLength_0 : Int) (k10 : 1 ≤ x10 ∧ x10 ≤ 1) (k11 : 1 ≤ x11 ∧ x11 ≤ 1) (f5 : 1 ≤ cycles_0) (f20 : (x11 = 0) ∨ ((2 ≤ wayLength_0) ∧ ((cycles_0 + 1) ≤ 50))) (f22 : x10 ≠ 0) (kz_0_7 : 0 ≤ cycles_0 ∧ cycles_0 ≤ 50) (kz_0_15 : 0 ≤ wayLength_0 ∧ wayLength_0 ≤ 27) : (cycles_0 + 1) ≤ 50 := by
  first
    | omega
  
set_option maxHeartbeats 4000000 in
theorem vc_Em_embed_at_gn_8_2 (x10 : Int) (x11 : Int) (cycles_0 : Int) (pieceCycle_0 : Int) (wayLength_0 : Int) (k10 : 1 ≤ x10 ∧ x10 ≤ 1) (k11 : 1 ≤ x11 ∧ x11 ≤ 1) (f18 : (x10 = 0) ∨ ((pieceCycle_0 + 1) ≤ cycles_0)) (f20 : (x11 = 0) ∨ ((2 ≤ wayLength_0) ∧ ((cycles_0 + 1) ≤ 50))) (f22 : x10 ≠ 0) (kz_0_7 : 0 ≤ cycles_0 ∧ cycles_0 ≤ 50) (kz_0_15 : 0 ≤ wayLength_0 ∧ wayLength_0 ≤ 27) (kz_0_18 : 0 ≤ pieceCycle_0 ∧ pieceCycle_0 ≤ 49) : (pieceCycle_0 + 1) ≤ cycles_0 := by
  first
    | omega
  
def o_Em_embed_at_gn_8 : or_T := (95, 12, [(0, (2, 0, 0, [1])), (10, (0, 1, 1, [])), (11, (0, 1, 1, []))], [(20, [2], [50, 1, 0, 7, 0, 2, 0, 1, 2, 0, 7]), (24, [0, 2], []), (20, [10, 2], [50, 2, 0, 1018, 1007, 3, 6, 1, 2, 1, 0, 0, 0, 0, 7, 4, 3, 2, 1, 18, 0, 1, 2, 1, 7]), (20, [11, 2], [50, 2, 0, 1015, 1007, 3, 6, 1, 2, 1, 0, 0, 0, 2, 7, 0, 2, 0, 2, 2, 1, 15, 0, 7, 4, 3, 2, 1, 7, 0, 1, 0, 50]), (102, [10], [51673825280, 1015]), (8, [10], [1])], [], [], [(20, [2], [50, 1, 0, 15, 0, 2, 0, 2, 2, 0, 15]), (20, [2], [50, 1, 0, 7, 0, 7, 4, 3, 2, 0, 7, 0, 1, 0, 50]), (20, [2], [50, 2, 0, 18, 7, 0, 7, 4, 3, 2, 0, 18, 0, 1, 2, 0, 7])], [], [])
theorem oo_Em_embed_at_gn_8 {kA : Nat → ClassId} : or_ok PRD kA GG o_Em_embed_at_gn_8 := by
  refine or_mk fun A ta ws vs hD hth hl => ?_
  intro t0 r0 t10 k10 t11 k11 f5 f15 f18 f20 ta1 w1 le1 s1 f22
  replace f5 := shm_1341 f5
  replace f15 := shm_5 f15
  replace f18 := shm_1344 f18
  replace f20 := shm_1599 f20
  replace f22 := shm_142 f22
  have q2 : n_v vs 2 = n_v vs 0 := f15.symm
  simp only [q2] at f5 f18 f20
  have kz_0_7 := fdq_49 hD hth r0
  have kz_0_15 := fdq_54 hD hth r0
  have kz_0_18 := fdq_286 hD hth r0
  have nf0 : fc_1 PRD (20, [2], [50, 1, 0, 15, 0, 2, 0, 2, 2, 0, 15]) ws (vs) := by
    refine ⟨nf_in hl rfl, sgq_1496 ?_⟩
    · show 2 ≤ w_fi ws (n_v vs 2) 15
      rw [q2]
      exact vc_Em_embed_at_gn_8_0 (v_iv (n_v vs 10)) (v_iv (n_v vs 11)) (w_fi ws (n_v vs 0) 7) (w_fi ws (n_v vs 0) 15) k10 k11 f20 f22 kz_0_7 kz_0_15
  have nf1 : fc_1 PRD (20, [2], [50, 1, 0, 7, 0, 7, 4, 3, 2, 0, 7, 0, 1, 0, 50]) ws (vs) := by
    refine ⟨nf_in hl rfl, sgq_803 ?_⟩
    · show (w_fi ws (n_v vs 2) 7 + 1) ≤ 50
      rw [q2]
      exact vc_Em_embed_at_gn_8_1 (v_iv (n_v vs 10)) (v_iv (n_v vs 11)) (w_fi ws (n_v vs 0) 7) (w_fi ws (n_v vs 0) 15) k10 k11 f5 f20 f22 kz_0_7 kz_0_15
  have nf2 : fc_1 PRD (20, [2], [50, 2, 0, 18, 7, 0, 7, 4, 3, 2, 0, 18, 0, 1, 2, 0, 7]) ws (vs) := by
    refine ⟨nf_in hl rfl, sgq_1497 ?_⟩
    · show (w_fi ws (n_v vs 2) 18 + 1) ≤ w_fi ws (n_v vs 2) 7
      rw [q2]
      exact vc_Em_embed_at_gn_8_2 (v_iv (n_v vs 10)) (v_iv (n_v vs 11)) (w_fi ws (n_v vs 0) 7) (w_fi ws (n_v vs 0) 18) (w_fi ws (n_v vs 0) 15) k10 k11 f18 f20 f22 kz_0_7 kz_0_15 kz_0_18
  refine ⟨(fun _ h => (by cases h)), [], trivial, ?_, (fun _ h => (by cases h))⟩
  rw [List.append_nil]
  exact List.forall_mem_cons.mpr ⟨⟨show (20 : Nat) < 100 from by decide, nf0⟩, List.forall_mem_cons.mpr ⟨⟨show (20 : Nat) < 100 from by decide, nf1⟩, List.forall_mem_cons.mpr ⟨⟨show (20 : Nat) < 100 from by decide, nf2⟩, (fun _ h => (by cases h))⟩⟩⟩
set_option maxHeartbeats 4000000 in
theorem vc_Em_embed_at_gn_9_0 (x17 : Int) (cycles_0 : Int) (k17 : (-2147483648) ≤ x17 ∧ x17 ≤ 2147483647) (f15 : 1 ≤ cycles_0) (kz_0_7 : 0 ≤ cycles_0 ∧ cycles_0 ≤ 50) : (x17 ≤ 0) ∨ (1 ≤ cycles_0) := by
  first
    | omega
  
set_option maxHeartbeats 4000000 in
theorem vc_Em_embed_at_gn_9_1 (x17 : Int) (blockNodes_0 : Int) (drawnNodes_0 : Int) (k17 : (-2147483648) ≤ x17 ∧ x17 ≤ 2147483647) (f16 : DBN (drawnNodes_0) (blockNodes_0)) (kz_0_5 : 0 ≤ blockNodes_0 ∧ blockNodes_0 ≤ 33554431) (kz_0_6 : 0 ≤ drawnNodes_0 ∧ drawnNodes_0 ≤ 33554431) : DBA (drawnNodes_0) (blockNodes_0) (x17) := by
  first
    | assumption
    | exact Or.inr ‹DBN _ _›
  
def o_Em_embed_at_gn_9 : or_T := (65, 19, [(0, (2, 0, 0, [1])), (17, (0, -2147483648, 2147483647, []))], [(24, [0, 2], []), (20, [2], [50, 1, 0, 7, 0, 2, 0, 1, 2, 0, 7]), (20, [2], [60, 2, 0, 602, 6, 5])], [], [], [(20, [17, 2], [50, 1, 0, 1007, 3, 6, 0, 2, 1, 0, 0, 0, 0, 2, 0, 1, 2, 1, 7]), (20, [2, 17], [60, 2, 0, 607, 6, 5])], [], [])
theorem oo_Em_embed_at_gn_9 {kA : Nat → ClassId} : or_ok PRD kA GG o_Em_embed_at_gn_9 := by
  refine or_mk fun A ta ws vs hD hth hl => ?_
  intro t0 r0 t17 k17 f12 f15 f16
  replace f12 := shm_5 f12
  replace f15 := shm_1341 f15
  replace f16 := shm_1340 f16
  have q2 : n_v vs 2 = n_v vs 0 := f12.symm
  simp only [q2] at f15 f16
  have kz_0_5 := fdq_283 hD hth r0
  have kz_0_6 := fdq_53 hD hth r0
  have kz_0_7 := fdq_49 hD hth r0
  have nf0 : fc_1 PRD (20, [17, 2], [50, 1, 0, 1007, 3, 6, 0, 2, 1, 0, 0, 0, 0, 2, 0, 1, 2, 1, 7]) ws (vs) := by
    refine ⟨nf_in hl rfl, sgq_1684 ?_⟩
    · show (v_iv (n_v vs 17) ≤ 0) ∨ (1 ≤ w_fi ws (n_v vs 2) 7)
      rw [q2]
      exact vc_Em_embed_at_gn_9_0 (v_iv (n_v vs 17)) (w_fi ws (n_v vs 0) 7) k17 f15 kz_0_7
  have nf1 : fc_1 PRD (20, [2, 17], [60, 2, 0, 607, 6, 5]) ws (vs) := by
    refine ⟨nf_in hl rfl, sgq_1685 ?_⟩
    · show DBA (w_fi ws (n_v vs 2) 6) (w_fi ws (n_v vs 2) 5) (v_iv (n_v vs 17))
      rw [q2]
      exact vc_Em_embed_at_gn_9_1 (v_iv (n_v vs 17)) (w_fi ws (n_v vs 0) 5) (w_fi ws (n_v vs 0) 6) k17 f16 kz_0_5 kz_0_6
  refine ⟨(fun _ h => (by cases h)), [], trivial, ?_, (fun _ h => (by cases h))⟩
  rw [List.append_nil]
  exact List.forall_mem_cons.mpr ⟨⟨show (20 : Nat) < 100 from by decide, nf0⟩, List.forall_mem_cons.mpr ⟨⟨show (20 : Nat) < 100 from by decide, nf1⟩, (fun _ h => (by cases h))⟩⟩
set_option maxHeartbeats 4000000 in
theorem vc_Em_embed_at_gn_10_0 (x5 : Int) (x7 : Int) (x8 : Int) (nodes_0o1 : Int) (edges_0o1 : Int) (near_0o1 : Int → Int) (first_0o1 : Int → Int) (faceOf_0o1 : Int → Int) (k5 : 0 ≤ x5 ∧ x5 ≤ 24) (k7 : 0 ≤ x7 ∧ x7 ≤ 24) (k8 : 1 ≤ x8 ∧ x8 ≤ 1) (d0 : x7 + 0 ≤ x5 ∧ x5 ≤ x7 + 4294967296) (g0 : x7 = nodes_0o1) (f3 : FIL (nodes_0o1) (near_0o1) (first_0o1) (x5)) (f7 : FAD (edges_0o1) (faceOf_0o1)) (kz_1_5 : 0 ≤ nodes_0o1 ∧ nodes_0o1 ≤ 24) (kz_1_6 : 0 ≤ edges_0o1 ∧ edges_0o1 ≤ 72) : EFA (nodes_0o1) (edges_0o1) (near_0o1) (first_0o1) (faceOf_0o1) (x8) := by
  first
    | exact efa_not (by omega)
    | exact efa_of ‹FIL _ _ _ _› (by omega) ‹FAD _ _›
  
def o_Em_embed_at_gn_10 : or_T := (158, 9, [(1, (2, 0, 0, [5])), (5, (0, 0, 24, [])), (7, (0, 0, 24, [])), (8, (0, 1, 1, []))], [(9, [7, 6], [5]), (20, [6, 5], [60, 1, 2, 629, 5, 9, 12]), (24, [1, 6], []), (20, [6], [60, 1, 1, 553, 6, 16])], [], [], [(20, [1, 8], [60, 2, 3, 632, 5, 6, 9, 12, 16])], [], [(5, 7, 0, 4294967296)])
theorem oo_Em_embed_at_gn_10 {kA : Nat → ClassId} : or_ok PRD kA GG o_Em_embed_at_gn_10 := by
  refine or_mk fun A ta ws vs hD hth hl => ?_
  intro t1 r1 t5 k5 t7 k7 t8 k8 d0 f0 f3 f4 f7
  replace f0 := shm_110 f0
  replace f3 := shm_1079 f3
  replace f4 := shm_5 f4
  replace f7 := shm_1100 f7
  have q6 : n_v vs 6 = n_v vs 1 := f4.symm
  simp only [q6] at f0 f3 f7
  have g0 : v_iv (n_v vs 7) = w_fi ws (n_v vs 1) 5 := congrArg v_iv f0
  have kz_1_5 := fdq_82 hD hth r1
  have kz_1_6 := fdq_59 hD hth r1
  have nf0 : fc_1 PRD (20, [1, 8], [60, 2, 3, 632, 5, 6, 9, 12, 16]) ws (vs) := ⟨nf_in hl rfl, sgq_2144 (vc_Em_embed_at_gn_10_0 (v_iv (n_v vs 5)) (v_iv (n_v vs 7)) (v_iv (n_v vs 8)) (w_fi ws (n_v vs 1) 5) (w_fi ws (n_v vs 1) 6) (w_ei ws (w_ar ws (n_v vs 1) 9)) (w_ei ws (w_ar ws (n_v vs 1) 12)) (w_ei ws (w_ar ws (n_v vs 1) 16)) k5 k7 k8 d0 g0 f3 f7 kz_1_5 kz_1_6)⟩
  refine ⟨(fun _ h => (by cases h)), [], trivial, ?_, (fun _ h => (by cases h))⟩
  rw [List.append_nil]
  exact List.forall_mem_cons.mpr ⟨⟨show (20 : Nat) < 100 from by decide, nf0⟩, (fun _ h => (by cases h))⟩
set_option maxHeartbeats 4000000 in
theorem vc_Em_embed_at_gn_11_0 (x5 : Int) (x7 : Int) (nodes_0o1 : Int) (k5 : 0 ≤ x5 ∧ x5 ≤ 23) (k7 : 1 ≤ x7 ∧ x7 ≤ 24) (d0 : x7 + (-4294967296) ≤ x5 ∧ x5 ≤ x7 + (-1)) (g1 : x7 = nodes_0o1) (kz_1_5 : 0 ≤ nodes_0o1 ∧ nodes_0o1 ≤ 24) : (0 ≤ x5) ∧ ((x5 + 1) ≤ nodes_0o1) := by
  first
    | omega
  
def o_Em_embed_at_gn_11 : or_T := (141, 8, [(1, (2, 0, 0, [5])), (5, (0, 0, 23, [])), (7, (0, 1, 24, []))], [(9, [7, 6], [5]), (24, [1, 6], [])], [], [], [(20, [5, 6], [50, 1, 0, 1005, 2, 6, 0, 2, 0, 0, 1, 0, 0, 6, 4, 2, 1, 0, 0, 1, 2, 1, 5])], [], [(5, 7, -4294967296, -1)])
theorem oo_Em_embed_at_gn_11 {kA : Nat → ClassId} : or_ok PRD kA GG o_Em_embed_at_gn_11 := by
  refine or_mk fun A ta ws vs hD hth hl => ?_
  intro t1 r1 t5 k5 t7 k7 d0 f1 f5
  replace f1 := shm_110 f1
  replace f5 := shm_5 f5
  have q6 : n_v vs 6 = n_v vs 1 := f5.symm
  simp only [q6] at f1
  have g1 : v_iv (n_v vs 7) = w_fi ws (n_v vs 1) 5 := congrArg v_iv f1
  have kz_1_5 := fdq_82 hD hth r1
  have nf0 : fc_1 PRD (20, [5, 6], [50, 1, 0, 1005, 2, 6, 0, 2, 0, 0, 1, 0, 0, 6, 4, 2, 1, 0, 0, 1, 2, 1, 5]) ws (vs) := by
    refine ⟨nf_in hl rfl, sgq_405 ?_⟩
    · show (0 ≤ v_iv (n_v vs 5)) ∧ ((v_iv (n_v vs 5) + 1) ≤ w_fi ws (n_v vs 6) 5)
      rw [q6]
      exact vc_Em_embed_at_gn_11_0 (v_iv (n_v vs 5)) (v_iv (n_v vs 7)) (w_fi ws (n_v vs 1) 5) k5 k7 d0 g1 kz_1_5
  refine ⟨(fun _ h => (by cases h)), [], trivial, ?_, (fun _ h => (by cases h))⟩
  rw [List.append_nil]
  exact List.forall_mem_cons.mpr ⟨⟨show (20 : Nat) < 100 from by decide, nf0⟩, (fun _ h => (by cases h))⟩
set_option maxHeartbeats 4000000 in
theorem vc_Em_embed_at_gn_12_0 (x5 : Int) (x8 : Int) (nodes_0o1 : Int) (near_0o1 : Int → Int) (first_0o1 : Int → Int) (k5 : 0 ≤ x5 ∧ x5 ≤ 23) (k8 : 1 ≤ x8 ∧ x8 ≤ 24) (f1 : x8 = x5 + 1) (f6 : FIL1 (nodes_0o1) (near_0o1) (first_0o1) (x5)) (kz_1_5 : 0 ≤ nodes_0o1 ∧ nodes_0o1 ≤ 24) : FIL (nodes_0o1) (near_0o1) (first_0o1) (x8) := by
  first
    | assumption
    | exact fil_start (by omega)
    | exact fil_next ‹FIL1 _ _ _ _› (by omega)
  
def o_Em_embed_at_gn_12 : or_T := (127, 9, [(1, (2, 0, 0, [5])), (5, (0, 0, 23, [])), (8, (0, 1, 24, []))], [(6, [8, 5], [1]), (24, [1, 6], []), (20, [6, 5], [60, 1, 2, 630, 5, 9, 12])], [], [], [(20, [6, 8], [60, 1, 2, 629, 5, 9, 12])], [], [])
theorem oo_Em_embed_at_gn_12 {kA : Nat → ClassId} : or_ok PRD kA GG o_Em_embed_at_gn_12 := by
  refine or_mk fun A ta ws vs hD hth hl => ?_
  intro t1 r1 t5 k5 t8 k8 f1 f3 f6
  replace f1 := shm_4 f1
  replace f3 := shm_5 f3
  replace f6 := shm_1081 f6
  have q6 : n_v vs 6 = n_v vs 1 := f3.symm
  simp only [q6] at f6
  have kz_1_5 := fdq_82 hD hth r1
  have nf0 : fc_1 PRD (20, [6, 8], [60, 1, 2, 629, 5, 9, 12]) ws (vs) := by
    refine ⟨nf_in hl rfl, sgq_1079 ?_⟩
    · show FIL (w_fi ws (n_v vs 6) 5) (w_ei ws (w_ar ws (n_v vs 6) 9)) (w_ei ws (w_ar ws (n_v vs 6) 12)) (v_iv (n_v vs 8))
      rw [q6]
      exact vc_Em_embed_at_gn_12_0 (v_iv (n_v vs 5)) (v_iv (n_v vs 8)) (w_fi ws (n_v vs 1) 5) (w_ei ws (w_ar ws (n_v vs 1) 9)) (w_ei ws (w_ar ws (n_v vs 1) 12)) k5 k8 f1 f6 kz_1_5
  refine ⟨(fun _ h => (by cases h)), [], trivial, ?_, (fun _ h => (by cases h))⟩
  rw [List.append_nil]
  exact List.forall_mem_cons.mpr ⟨⟨show (20 : Nat) < 100 from by decide, nf0⟩, (fun _ h => (by cases h))⟩
def n_Em_embed_at_gn_an : List an_T := [(50, [(0, (2, 0, 0, [1])), (1, (2, 0, 0, [5])), (2, (0, 0, 72, [])), (3, (0, 0, 72, []))], [], (0, 0), [(0, 0, 99950), (1, 5, 72), (0, 0, 100000), (0, 0, 0), (0, 0, 0)], [(5, 4, (Int.negSucc 999999999999), 0)], [((0, 0), (2, 0, 0, [5]))], [(2, 0, 0, [1]), (2, 0, 0, [5])], 0, [], [(20, [2, 6, 4], [60, 1, 3, 598, 1006, 2, 1007, 1008]), (20, [6], [60, 2, 3, 595, 5, 6, 7, 8, 9]), (24, [1, 6], []), (24, [0, 2], []), (24, [1, 3], [])]), (65, [(0, (2, 0, 0, [1])), (1, (2, 0, 0, [5])), (2, (0, 1, 72, [])), (3, (0, 0, 71, [])), (4, (0, (Int.negSucc 2147483647), 2147483647, [])), (5, (0, 0, 72, []))], [], (0, 0), [(0, 0, 99950), (1, 5, 72), (0, 0, 99935), (1, 7, 72), (0, 0, 100000)], [(5, 4, (Int.negSucc 999999999999), (Int.negSucc 0))], [((0, 0), (2, 0, 0, [5]))], [(2, 0, 0, [1]), (2, 0, 0, [5])], 0, [], [(20, [2, 8, 4], [60, 1, 3, 598, 1006, 2, 1007, 1008]), (20, [6, 2], [50, 1, 0, 1007, 3, 6, 0, 2, 1, 0, 0, 0, 0, 2, 0, 1, 2, 1, 7]), (20, [2, 6], [60, 2, 0, 607, 6, 5]), (20, [5, 4], [50, 0, 0, 2, 6, 0, 2, 0, 0, 1, 0, 0, 6, 4, 2, 1, 0, 0, 1, 1, 1]), (24, [1, 8], []), (20, [2, 8, 5], [60, 3, 3, 600, 5, 1005, 1006, 2, 1007, 1008]), (20, [8], [60, 2, 3, 595, 5, 6, 7, 8, 9]), (20, [2, 8], [60, 1, 3, 599, 1006, 2, 1007, 1008]), (20, [2], [60, 2, 2, 603, 7, 6, 8, 9]), (24, [0, 2], []), (24, [1, 3], [])]), (127, [(0, (2, 0, 0, [1])), (1, (2, 0, 0, [5])), (2, (0, 0, 72, [])), (3, (0, 0, 24, []))], [], (0, 0), [(0, 0, 99873), (1, 5, 24), (0, 0, 100000), (0, 0, 0), (0, 0, 0)], [], [((0, 0), (2, 0, 0, [5]))], [(2, 0, 0, [1]), (2, 0, 0, [5])], 0, [], [(20, [2, 6, 4], [60, 1, 3, 598, 1006, 2, 1007, 1008]), (20, [6], [60, 2, 3, 595, 5, 6, 7, 8, 9]), (20, [6, 5], [60, 1, 2, 629, 5, 9, 12]), (24, [1, 6], []), (24, [0, 2], []), (24, [1, 3], [])])]
def t_Em_embed_at_gn_ct : ct_L := [(1, 153, e_Em_splitCycle), (135, 136, e_Fa_blocksOf_at_Netail_Nehead_Nenear_Emblock), (175, 142, e_Em_beginBlock_at_gn), (241, 145, e_Em_pickPiece_at_gn), (262, 149, e_Em_findWay_at_gn), (352, 156, e_Em_turnByCycles_at_gn), (427, 159, e_Em_joinBlocksAt_at_gn), (466, 163, e_Ne_traceFaces_at_Ne)]
set_option maxRecDepth 100000 in
theorem c_Em_embed_at_gn {l : Launch} {D : va_G} {kA : Nat → ClassId} (h_Em_beginBlock_at_gn : ct_ok PRD l D kA GG y_Em_beginBlock_at_gn z_Em_beginBlock_at_gn e_Em_beginBlock_at_gn) (h_Em_findWay_at_gn : ct_ok PRD l D kA GG y_Em_findWay_at_gn z_Em_findWay_at_gn e_Em_findWay_at_gn) (h_Em_joinBlocksAt_at_gn : ct_ok PRD l D kA GG y_Em_joinBlocksAt_at_gn z_Em_joinBlocksAt_at_gn e_Em_joinBlocksAt_at_gn) (h_Em_pickPiece_at_gn : ct_ok PRD l D kA GG y_Em_pickPiece_at_gn z_Em_pickPiece_at_gn e_Em_pickPiece_at_gn) (h_Em_splitCycle : ct_ok PRD l D kA GG y_Em_splitCycle z_Em_splitCycle e_Em_splitCycle) (h_Em_turnByCycles_at_gn : ct_ok PRD l D kA GG y_Em_turnByCycles_at_gn z_Em_turnByCycles_at_gn e_Em_turnByCycles_at_gn) (h_Fa_blocksOf_at_Netail_Nehead_Nenear_Emblock : ct_ok PRD l D kA GG y_Fa_blocksOf_at_Netail_Nehead_Nenear_Emblock z_Fa_blocksOf_at_Netail_Nehead_Nenear_Emblock e_Fa_blocksOf_at_Netail_Nehead_Nenear_Emblock) (h_Ne_traceFaces_at_Ne : ct_ok PRD l D kA GG y_Ne_traceFaces_at_Ne z_Ne_traceFaces_at_Ne e_Ne_traceFaces_at_Ne) : ct_ok PRD l D kA GG y_Em_embed_at_gn z_Em_embed_at_gn e_Em_embed_at_gn := chk_all_ok (FT := [(9, 1, 0), (21, 1, 2), (63, 1, 15), (85, 5, 5), (114, 5, 9), (133, 5, 6), (134, 5, 7), (135, 5, 8)]) (PT := [(9, 1, 0, .object "DrawingHouse$Net")]) (CT := t_Em_embed_at_gn_ct) (KT := []) (NT := []) (AN := n_Em_embed_at_gn_an) (OT := [o_Em_embed_at_gn_0, o_Em_embed_at_gn_1, o_Em_embed_at_gn_2, o_Em_embed_at_gn_3, o_Em_embed_at_gn_4, o_Em_embed_at_gn_5, o_Em_embed_at_gn_6, o_Em_embed_at_gn_7, o_Em_embed_at_gn_8, o_Em_embed_at_gn_9, o_Em_embed_at_gn_10, o_Em_embed_at_gn_11, o_Em_embed_at_gn_12]) 5 348 (List.forall_mem_cons.mpr ⟨oo_Em_embed_at_gn_0, List.forall_mem_cons.mpr ⟨oo_Em_embed_at_gn_1, List.forall_mem_cons.mpr ⟨oo_Em_embed_at_gn_2, List.forall_mem_cons.mpr ⟨oo_Em_embed_at_gn_3, List.forall_mem_cons.mpr ⟨oo_Em_embed_at_gn_4, List.forall_mem_cons.mpr ⟨oo_Em_embed_at_gn_5, List.forall_mem_cons.mpr ⟨oo_Em_embed_at_gn_6, List.forall_mem_cons.mpr ⟨oo_Em_embed_at_gn_7, List.forall_mem_cons.mpr ⟨oo_Em_embed_at_gn_8, List.forall_mem_cons.mpr ⟨oo_Em_embed_at_gn_9, List.forall_mem_cons.mpr ⟨oo_Em_embed_at_gn_10, List.forall_mem_cons.mpr ⟨oo_Em_embed_at_gn_11, List.forall_mem_cons.mpr ⟨oo_Em_embed_at_gn_12, List.forall_mem_nil _⟩⟩⟩⟩⟩⟩⟩⟩⟩⟩⟩⟩⟩) (by decide +kernel) ⟨List.forall_mem_cons.mpr ⟨gf_Em_9, List.forall_mem_cons.mpr ⟨gf_Em_21, List.forall_mem_cons.mpr ⟨gf_Em_63, List.forall_mem_cons.mpr ⟨gf_Em_85, List.forall_mem_cons.mpr ⟨gf_Em_114, List.forall_mem_cons.mpr ⟨gf_Em_133, List.forall_mem_cons.mpr ⟨gf_Em_134, List.forall_mem_cons.mpr ⟨gf_Em_135, List.forall_mem_nil _⟩⟩⟩⟩⟩⟩⟩⟩, List.forall_mem_cons.mpr ⟨pf_Em_9, List.forall_mem_nil _⟩, List.forall_mem_cons.mpr ⟨cl_virtual (y := y_Em_splitCycle) (ci := 1) rfl rfl ⟨_, _, rfl⟩ (by decide +kernel) h_Em_splitCycle wm_1113 wm_5 wm_1110 wm_1112 wv_3_14 ⟨by decide, by decide, by decide +kernel⟩ (by decide), List.forall_mem_cons.mpr ⟨cl_static (y := y_Fa_blocksOf_at_Netail_Nehead_Nenear_Emblock) h_Fa_blocksOf_at_Netail_Nehead_Nenear_Emblock wm_830 wm_7 wm_1070 wm_829 ⟨by decide, by decide, by decide +kernel⟩ (by decide), List.forall_mem_cons.mpr ⟨cl_virtual (y := y_Em_beginBlock_at_gn) (ci := 1) rfl rfl ⟨_, _, rfl⟩ (by decide +kernel) h_Em_beginBlock_at_gn wm_1074 wm_5 wm_1071 wm_1073 wv_3_7 ⟨by decide, by decide, by decide +kernel⟩ (by decide), List.forall_mem_cons.mpr ⟨cl_virtual (y := y_Em_pickPiece_at_gn) (ci := 1) rfl rfl ⟨_, _, rfl⟩ (by decide +kernel) h_Em_pickPiece_at_gn wm_1093 wm_5 wm_1090 wm_1092 wv_3_10 ⟨by decide, by decide, by decide +kernel⟩ (by decide), List.forall_mem_cons.mpr ⟨cl_virtual (y := y_Em_findWay_at_gn) (ci := 1) rfl rfl ⟨_, _, rfl⟩ (by decide +kernel) h_Em_findWay_at_gn wm_1108 wm_5 wm_1105 wm_1107 wv_3_13 ⟨by decide, by decide, by decide +kernel⟩ (by decide), List.forall_mem_cons.mpr ⟨cl_virtual (y := y_Em_turnByCycles_at_gn) (ci := 1) rfl rfl ⟨_, _, rfl⟩ (by decide +kernel) h_Em_turnByCycles_at_gn wm_1134 wm_5 wm_1131 wm_1133 wv_4_3 ⟨by decide, by decide, by decide +kernel⟩ (by decide), List.forall_mem_cons.mpr ⟨cl_virtual (y := y_Em_joinBlocksAt_at_gn) (ci := 1) rfl rfl ⟨_, _, rfl⟩ (by decide +kernel) h_Em_joinBlocksAt_at_gn wm_1142 wm_5 wm_1139 wm_1141 wv_4_4 ⟨by decide, by decide, by decide +kernel⟩ (by decide), List.forall_mem_cons.mpr ⟨cl_virtual (y := y_Ne_traceFaces_at_Ne) (ci := 5) rfl rfl ⟨_, _, rfl⟩ (by decide +kernel) h_Ne_traceFaces_at_Ne wm_1150 wm_6 wm_1147 wm_1148 wm_1149 ⟨by decide, by decide, by decide +kernel⟩ (by decide), List.forall_mem_nil _⟩⟩⟩⟩⟩⟩⟩⟩, List.forall_mem_nil _, List.forall_mem_nil _, GG_pl⟩ (by decide +kernel)
set_option maxHeartbeats 4000000 in
theorem vc_Em_embed_at_gp_0_0 (x3 : Int) (x8 : Int) (edges_0o1 : Int) (tail_0o1 : Int → Int) (head_0o1 : Int → Int) (block_0 : Int → Int) (k3 : 0 ≤ x3 ∧ x3 ≤ 72) (k8 : 0 ≤ x8 ∧ x8 ≤ 72) (g4 : x3 = edges_0o1) (f7 : LBL (block_0) (x3) (x8)) (f8 : CNL (block_0) (tail_0o1) (head_0o1) (x3)) (kz_1_6 : 0 ≤ edges_0o1 ∧ edges_0o1 ≤ 72) : LBE (edges_0o1) (block_0) (tail_0o1) (head_0o1) (x8) := by
  first
    | assumption
    | (rw [show edges_0o1 = x3 by omega]; exact ⟨‹LBL _ _ _›, ‹CNL _ _ _ _›⟩)
  
def o_Em_embed_at_gp_0 : or_T := (50, 10, [(1, (2, 0, 0, [149])), (3, (0, 0, 72, [])), (8, (0, 0, 72, []))], [(9, [7, 0], [2]), (9, [6, 1], [9]), (9, [5, 1], [8]), (9, [4, 1], [7]), (9, [3, 1], [6]), (20, [7, 3, 8], [61, 1, 568]), (20, [7, 4, 5, 3], [61, 3, 586])], [], [], [(20, [0, 1, 8], [60, 1, 3, 598, 1006, 2, 1007, 1008]), (24, [1, 1], []), (24, [0, 0], []), (24, [1, 1], [])], [], [])
theorem oo_Em_embed_at_gp_0 {kA : Nat → ClassId} : or_ok PRD kA GG o_Em_embed_at_gp_0 := by
  refine or_mk fun A ta ws vs hD hth hl => ?_
  intro t1 r1 t3 k3 t8 k8 f0 f1 f2 f3 f4 f7 f8
  replace f0 := shm_120 f0
  replace f1 := shm_119 f1
  replace f2 := shm_293 f2
  replace f3 := shm_198 f3
  replace f4 := shm_111 f4
  replace f7 := shm_1604 f7
  replace f8 := shm_1605 f8
  have ad_7 : v_ad (n_v vs 7) = w_ar ws (n_v vs 0) 2 := congrArg v_ad f0
  have ad_6 : v_ad (n_v vs 6) = w_ar ws (n_v vs 1) 9 := congrArg v_ad f1
  have ad_5 : v_ad (n_v vs 5) = w_ar ws (n_v vs 1) 8 := congrArg v_ad f2
  have ad_4 : v_ad (n_v vs 4) = w_ar ws (n_v vs 1) 7 := congrArg v_ad f3
  have g4 : v_iv (n_v vs 3) = w_fi ws (n_v vs 1) 6 := congrArg v_iv f4
  simp only [ad_7, ad_4, ad_5, ad_6] at f7 f8
  have kz_1_6 := fdq_62 hD hth r1
  have nf0 : fc_1 PRD (20, [0, 1, 8], [60, 1, 3, 598, 1006, 2, 1007, 1008]) ws (vs) := ⟨nf_in hl rfl, sgq_1078 (vc_Em_embed_at_gp_0_0 (v_iv (n_v vs 3)) (v_iv (n_v vs 8)) (w_fi ws (n_v vs 1) 6) (w_ei ws (w_ar ws (n_v vs 1) 7)) (w_ei ws (w_ar ws (n_v vs 1) 8)) (w_ei ws (w_ar ws (n_v vs 0) 2)) k3 k8 g4 f7 f8 kz_1_6)⟩
  have nf1 : fc_1 PRD (24, [1, 1], []) ws (vs) := by
    refine ⟨nf_in hl rfl, sgq_1 ?_⟩
    · show n_v vs 1 = n_v vs 1
      first | rfl | simp only [true_and]
  have nf2 : fc_1 PRD (24, [0, 0], []) ws (vs) := by
    refine ⟨nf_in hl rfl, sgq_1 ?_⟩
    · show n_v vs 0 = n_v vs 0
      first | rfl | simp only [true_and]
  have nf3 : fc_1 PRD (24, [1, 1], []) ws (vs) := by
    refine ⟨nf_in hl rfl, sgq_1 ?_⟩
    · show n_v vs 1 = n_v vs 1
      first | rfl | simp only [true_and]
  refine ⟨(fun _ h => (by cases h)), [], trivial, ?_, (fun _ h => (by cases h))⟩
  rw [List.append_nil]
  exact List.forall_mem_cons.mpr ⟨⟨show (20 : Nat) < 100 from by decide, nf0⟩, List.forall_mem_cons.mpr ⟨⟨show (24 : Nat) < 100 from by decide, nf1⟩, List.forall_mem_cons.mpr ⟨⟨show (24 : Nat) < 100 from by decide, nf2⟩, List.forall_mem_cons.mpr ⟨⟨show (24 : Nat) < 100 from by decide, nf3⟩, (fun _ h => (by cases h))⟩⟩⟩⟩
set_option maxHeartbeats 4000000 in
theorem vc_Em_embed_at_gp_1_0 (x7 : Int) (near_0o1 : Int → Int) (nodes_0o1 : Int) (first_0o1 : Int → Int) (k7 : 0 ≤ x7 ∧ x7 ≤ 0) (kz_1_5 : 0 ≤ nodes_0o1 ∧ nodes_0o1 ≤ 25) : FIL (nodes_0o1) (near_0o1) (first_0o1) (x7) := by
  first
    | assumption
    | exact fil_start (by omega)
    | exact fil_next ‹FIL1 _ _ _ _› (by omega)
  
def o_Em_embed_at_gp_1 : or_T := (127, 8, [(1, (2, 0, 0, [149])), (7, (0, 0, 0, []))], [(24, [1, 6], [])], [], [], [(20, [6, 7], [60, 1, 2, 629, 5, 9, 12])], [], [])
theorem oo_Em_embed_at_gp_1 {kA : Nat → ClassId} : or_ok PRD kA GG o_Em_embed_at_gp_1 := by
  refine or_mk fun A ta ws vs hD hth hl => ?_
  intro t1 r1 t7 k7 f3
  replace f3 := shm_5 f3
  have q6 : n_v vs 6 = n_v vs 1 := f3.symm
  have kz_1_5 := fdq_85 hD hth r1
  have nf0 : fc_1 PRD (20, [6, 7], [60, 1, 2, 629, 5, 9, 12]) ws (vs) := by
    refine ⟨nf_in hl rfl, sgq_1079 ?_⟩
    · show FIL (w_fi ws (n_v vs 6) 5) (w_ei ws (w_ar ws (n_v vs 6) 9)) (w_ei ws (w_ar ws (n_v vs 6) 12)) (v_iv (n_v vs 7))
      rw [q6]
      exact vc_Em_embed_at_gp_1_0 (v_iv (n_v vs 7)) (w_ei ws (w_ar ws (n_v vs 1) 9)) (w_fi ws (n_v vs 1) 5) (w_ei ws (w_ar ws (n_v vs 1) 12)) k7 kz_1_5
  refine ⟨(fun _ h => (by cases h)), [], trivial, ?_, (fun _ h => (by cases h))⟩
  rw [List.append_nil]
  exact List.forall_mem_cons.mpr ⟨⟨show (20 : Nat) < 100 from by decide, nf0⟩, (fun _ h => (by cases h))⟩
set_option maxHeartbeats 4000000 in
theorem vc_Em_embed_at_gp_2_0 (x4 : Int) (x5 : Int) (block_0 : Int → Int) (tail_0o1 : Int → Int) (head_0o1 : Int → Int) (edges_0o1 : Int) (k4 : 1 ≤ x4 ∧ x4 ≤ 72) (k5 : 0 ≤ x5 ∧ x5 ≤ 71) (f0 : x5 < x4) (f1 : LBE (edges_0o1) (block_0) (tail_0o1) (head_0o1) (x4)) (kz_1_6 : 0 ≤ edges_0o1 ∧ edges_0o1 ≤ 72) : HSB (edges_0o1) (block_0) (x5) := by
  first
    | exact lbe_hsb ‹LBE _ _ _ _ _› (by omega) (by omega)
  
def o_Em_embed_at_gp_2 : or_T := (57, 7, [(1, (2, 0, 0, [149])), (4, (0, 1, 72, [])), (5, (0, 0, 71, []))], [(7, [5, 4], [2]), (20, [2, 6, 4], [60, 1, 3, 598, 1006, 2, 1007, 1008]), (24, [1, 6], []), (24, [0, 2], [])], [], [], [(20, [2, 6, 5], [60, 1, 1, 597, 1006, 2])], [], [])
theorem oo_Em_embed_at_gp_2 {kA : Nat → ClassId} : or_ok PRD kA GG o_Em_embed_at_gp_2 := by
  refine or_mk fun A ta ws vs hD hth hl => ?_
  intro t1 r1 t4 k4 t5 k5 f0 f1 f3 f4
  replace f0 := shm_6 f0
  replace f1 := shm_1078 f1
  replace f3 := shm_5 f3
  replace f4 := shm_5 f4
  have q6 : n_v vs 6 = n_v vs 1 := f3.symm
  have q2 : n_v vs 2 = n_v vs 0 := f4.symm
  simp only [q6, q2] at f1
  have kz_1_6 := fdq_62 hD hth r1
  have nf0 : fc_1 PRD (20, [2, 6, 5], [60, 1, 1, 597, 1006, 2]) ws (vs) := by
    refine ⟨nf_in hl rfl, sgq_1680 ?_⟩
    · show HSB (w_fi ws (n_v vs 6) 6) (w_ei ws (w_ar ws (n_v vs 2) 2)) (v_iv (n_v vs 5))
      simp only [q6, q2]
      exact vc_Em_embed_at_gp_2_0 (v_iv (n_v vs 4)) (v_iv (n_v vs 5)) (w_ei ws (w_ar ws (n_v vs 0) 2)) (w_ei ws (w_ar ws (n_v vs 1) 7)) (w_ei ws (w_ar ws (n_v vs 1) 8)) (w_fi ws (n_v vs 1) 6) k4 k5 f0 f1 kz_1_6
  refine ⟨(fun _ h => (by cases h)), [], trivial, ?_, (fun _ h => (by cases h))⟩
  rw [List.append_nil]
  exact List.forall_mem_cons.mpr ⟨⟨show (20 : Nat) < 100 from by decide, nf0⟩, (fun _ h => (by cases h))⟩
set_option maxHeartbeats 4000000 in
theorem vc_Em_embed_at_gp_3_0 (x4 : Int) (x5 : Int) (k4 : 1 ≤ x4 ∧ x4 ≤ 72) (k5 : 0 ≤ x5 ∧ x5 ≤ 71) (d0 : x4 + (-4294967296) ≤ x5 ∧ x5 ≤ x4 + (-1)) : (0 ≤ x5) ∧ ((x5 + 1) ≤ x4) := by
  first
    | omega
  
set_option maxHeartbeats 4000000 in
theorem vc_Em_embed_at_gp_3_1 (x4 : Int) (block_0 : Int → Int) (edges_0o1 : Int) (tail_0o1 : Int → Int) (head_0o1 : Int → Int) (k4 : 1 ≤ x4 ∧ x4 ≤ 72) (f1 : LBE (edges_0o1) (block_0) (tail_0o1) (head_0o1) (x4)) (kz_1_6 : 0 ≤ edges_0o1 ∧ edges_0o1 ≤ 72) : CNE (edges_0o1) (block_0) (tail_0o1) (head_0o1) := by
  first
    | assumption
    | exact (‹LBE _ _ _ _ _›).2
  
def o_Em_embed_at_gp_3 : or_T := (65, 9, [(1, (2, 0, 0, [149])), (4, (0, 1, 72, [])), (5, (0, 0, 71, []))], [(20, [2, 6, 4], [60, 1, 3, 598, 1006, 2, 1007, 1008]), (24, [1, 6], []), (24, [0, 2], [])], [], [], [(20, [5, 4], [50, 0, 0, 2, 6, 0, 2, 0, 0, 1, 0, 0, 6, 4, 2, 1, 0, 0, 1, 1, 1]), (20, [2, 6], [60, 1, 3, 599, 1006, 2, 1007, 1008])], [], [(5, 4, -4294967296, -1)])
theorem oo_Em_embed_at_gp_3 {kA : Nat → ClassId} : or_ok PRD kA GG o_Em_embed_at_gp_3 := by
  refine or_mk fun A ta ws vs hD hth hl => ?_
  intro t1 r1 t4 k4 t5 k5 d0 f1 f3 f4
  replace f1 := shm_1078 f1
  replace f3 := shm_5 f3
  replace f4 := shm_5 f4
  have q6 : n_v vs 6 = n_v vs 1 := f3.symm
  have q2 : n_v vs 2 = n_v vs 0 := f4.symm
  simp only [q6, q2] at f1
  have kz_1_6 := fdq_62 hD hth r1
  have nf0 : fc_1 PRD (20, [5, 4], [50, 0, 0, 2, 6, 0, 2, 0, 0, 1, 0, 0, 6, 4, 2, 1, 0, 0, 1, 1, 1]) ws (vs) := ⟨nf_in hl rfl, sgq_400 (vc_Em_embed_at_gp_3_0 (v_iv (n_v vs 4)) (v_iv (n_v vs 5)) k4 k5 d0)⟩
  have nf1 : fc_1 PRD (20, [2, 6], [60, 1, 3, 599, 1006, 2, 1007, 1008]) ws (vs) := by
    refine ⟨nf_in hl rfl, sgq_1339 ?_⟩
    · show CNE (w_fi ws (n_v vs 6) 6) (w_ei ws (w_ar ws (n_v vs 2) 2)) (w_ei ws (w_ar ws (n_v vs 6) 7)) (w_ei ws (w_ar ws (n_v vs 6) 8))
      simp only [q6, q2]
      exact vc_Em_embed_at_gp_3_1 (v_iv (n_v vs 4)) (w_ei ws (w_ar ws (n_v vs 0) 2)) (w_fi ws (n_v vs 1) 6) (w_ei ws (w_ar ws (n_v vs 1) 7)) (w_ei ws (w_ar ws (n_v vs 1) 8)) k4 f1 kz_1_6
  refine ⟨(fun _ h => (by cases h)), [], trivial, ?_, (fun _ h => (by cases h))⟩
  rw [List.append_nil]
  exact List.forall_mem_cons.mpr ⟨⟨show (20 : Nat) < 100 from by decide, nf0⟩, List.forall_mem_cons.mpr ⟨⟨show (20 : Nat) < 100 from by decide, nf1⟩, (fun _ h => (by cases h))⟩⟩
set_option maxHeartbeats 4000000 in
theorem vc_Em_embed_at_gp_4_0 (x6 : Int) (drawnNodes_0 : Int) (blockNodes_0 : Int) (k6 : 1 ≤ x6 ∧ x6 ≤ 2147483647) (f0 : 0 < x6) (f3 : DBA (drawnNodes_0) (blockNodes_0) (x6)) (kz_0_5 : 0 ≤ blockNodes_0 ∧ blockNodes_0 ≤ 33554431) (kz_0_6 : 0 ≤ drawnNodes_0 ∧ drawnNodes_0 ≤ 33554431) : DBN (drawnNodes_0) (blockNodes_0) := by
  first
    | assumption
    | exact dbn_of ‹DBA _ _ _› (by omega)
  
set_option maxHeartbeats 4000000 in
theorem vc_Em_embed_at_gp_4_1 (x6 : Int) (cycles_0 : Int) (k6 : 1 ≤ x6 ∧ x6 ≤ 2147483647) (f2 : (x6 ≤ 0) ∨ (1 ≤ cycles_0)) (kz_0_7 : 0 ≤ cycles_0 ∧ cycles_0 ≤ 50) : 1 ≤ cycles_0 := by
  first
    | omega
  
def o_Em_embed_at_gp_4 : or_T := (79, 10, [(0, (2, 0, 0, [1])), (6, (0, 1, 2147483647, []))], [(8, [6], [4]), (20, [6, 2], [50, 1, 0, 1007, 3, 6, 0, 2, 1, 0, 0, 0, 0, 2, 0, 1, 2, 1, 7]), (20, [2, 6], [60, 2, 0, 607, 6, 5]), (24, [0, 2], [])], [], [], [(20, [2], [60, 2, 0, 602, 6, 5]), (20, [2], [50, 1, 0, 7, 0, 2, 0, 1, 2, 0, 7])], [], [])
theorem oo_Em_embed_at_gp_4 {kA : Nat → ClassId} : or_ok PRD kA GG o_Em_embed_at_gp_4 := by
  refine or_mk fun A ta ws vs hD hth hl => ?_
  intro t0 r0 t6 k6 f0 f2 f3 f10
  replace f0 := shm_308 f0
  replace f2 := shm_1684 f2
  replace f3 := shm_1685 f3
  replace f10 := shm_5 f10
  have q2 : n_v vs 2 = n_v vs 0 := f10.symm
  simp only [q2] at f2 f3
  have kz_0_5 := fdq_283 hD hth r0
  have kz_0_6 := fdq_53 hD hth r0
  have kz_0_7 := fdq_49 hD hth r0
  have nf0 : fc_1 PRD (20, [2], [60, 2, 0, 602, 6, 5]) ws (vs) := by
    refine ⟨nf_in hl rfl, sgq_1340 ?_⟩
    · show DBN (w_fi ws (n_v vs 2) 6) (w_fi ws (n_v vs 2) 5)
      rw [q2]
      exact vc_Em_embed_at_gp_4_0 (v_iv (n_v vs 6)) (w_fi ws (n_v vs 0) 6) (w_fi ws (n_v vs 0) 5) k6 f0 f3 kz_0_5 kz_0_6
  have nf1 : fc_1 PRD (20, [2], [50, 1, 0, 7, 0, 2, 0, 1, 2, 0, 7]) ws (vs) := by
    refine ⟨nf_in hl rfl, sgq_1341 ?_⟩
    · show 1 ≤ w_fi ws (n_v vs 2) 7
      rw [q2]
      exact vc_Em_embed_at_gp_4_1 (v_iv (n_v vs 6)) (w_fi ws (n_v vs 0) 7) k6 f2 kz_0_7
  refine ⟨(fun _ h => (by cases h)), [], trivial, ?_, (fun _ h => (by cases h))⟩
  rw [List.append_nil]
  exact List.forall_mem_cons.mpr ⟨⟨show (20 : Nat) < 100 from by decide, nf0⟩, List.forall_mem_cons.mpr ⟨⟨show (20 : Nat) < 100 from by decide, nf1⟩, (fun _ h => (by cases h))⟩⟩
set_option maxHeartbeats 4000000 in
theorem vc_Em_embed_at_gp_5_0 (x11 : Int) (edges_0o1 : Int) (nodes_0o1 : Int) (near_0o1 : Int → Int) (first_0o1 : Int → Int) (faceOf_0o1 : Int → Int) (k11 : 0 ≤ x11 ∧ x11 ≤ 0) (kz_1_5 : 0 ≤ nodes_0o1 ∧ nodes_0o1 ≤ 25) (kz_1_6 : 0 ≤ edges_0o1 ∧ edges_0o1 ≤ 72) : EFA (nodes_0o1) (edges_0o1) (near_0o1) (first_0o1) (faceOf_0o1) (x11) := by
  first
    | exact efa_not (by omega)
    | exact efa_of ‹FIL _ _ _ _› (by omega) ‹FAD _ _›
  
def o_Em_embed_at_gp_5 : or_T := (93, 12, [(1, (2, 0, 0, [149])), (11, (0, 0, 0, []))], [], [], [], [(20, [1, 11], [60, 2, 3, 632, 5, 6, 9, 12, 16])], [], [])
theorem oo_Em_embed_at_gp_5 {kA : Nat → ClassId} : or_ok PRD kA GG o_Em_embed_at_gp_5 := by
  refine or_mk fun A ta ws vs hD hth hl => ?_
  intro t1 r1 t11 k11
  have kz_1_5 := fdq_85 hD hth r1
  have kz_1_6 := fdq_62 hD hth r1
  have nf0 : fc_1 PRD (20, [1, 11], [60, 2, 3, 632, 5, 6, 9, 12, 16]) ws (vs) := ⟨nf_in hl rfl, sgq_2144 (vc_Em_embed_at_gp_5_0 (v_iv (n_v vs 11)) (w_fi ws (n_v vs 1) 6) (w_fi ws (n_v vs 1) 5) (w_ei ws (w_ar ws (n_v vs 1) 9)) (w_ei ws (w_ar ws (n_v vs 1) 12)) (w_ei ws (w_ar ws (n_v vs 1) 16)) k11 kz_1_5 kz_1_6)⟩
  refine ⟨(fun _ h => (by cases h)), [], trivial, ?_, (fun _ h => (by cases h))⟩
  rw [List.append_nil]
  exact List.forall_mem_cons.mpr ⟨⟨show (20 : Nat) < 100 from by decide, nf0⟩, (fun _ h => (by cases h))⟩
set_option maxHeartbeats 4000000 in
theorem vc_Em_embed_at_gp_6_0 (x10 : Int) (drawnNodes_0 : Int) (nodes_0o1 : Int) (pieceNodes_0 : Int) (pieceEnds_0 : Int) (k10 : 1 ≤ x10 ∧ x10 ≤ 1) (f14 : PKA (pieceNodes_0) (pieceEnds_0) (drawnNodes_0) (nodes_0o1) (x10)) (kz_0_6 : 0 ≤ drawnNodes_0 ∧ drawnNodes_0 ≤ 33554431) (kz_0_16 : 0 ≤ pieceNodes_0 ∧ pieceNodes_0 ≤ 33554431) (kz_0_17 : 0 ≤ pieceEnds_0 ∧ pieceEnds_0 ≤ 33554431) (kz_1_5 : 0 ≤ nodes_0o1 ∧ nodes_0o1 ≤ 25) : PEN (pieceNodes_0) (pieceEnds_0) := by
  first
    | (rcases (‹PKA _ _ _ _ _›) with q | q; omega; exact q.1)
  
set_option maxHeartbeats 4000000 in
theorem vc_Em_embed_at_gp_6_1 (tail_0o1 : Int → Int) (head_0o1 : Int → Int) (edges_0o1 : Int) (nodes_0o1 : Int) (near_0o1 : Int → Int) (f9 : NOK (nodes_0o1) (edges_0o1) (tail_0o1) (head_0o1) (near_0o1)) (kz_1_5 : 0 ≤ nodes_0o1 ∧ nodes_0o1 ≤ 25) (kz_1_6 : 0 ≤ edges_0o1 ∧ edges_0o1 ≤ 72) : SYE (nodes_0o1) (near_0o1) := by
  first
    | exact nok_sye ‹NOK _ _ _ _ _› (by omega)
  
set_option maxHeartbeats 4000000 in
theorem vc_Em_embed_at_gp_6_2 (x10 : Int) (drawnNodes_0 : Int) (nodes_0o1 : Int) (pieceNodes_0 : Int) (pieceEnds_0 : Int) (k10 : 1 ≤ x10 ∧ x10 ≤ 1) (f14 : PKA (pieceNodes_0) (pieceEnds_0) (drawnNodes_0) (nodes_0o1) (x10)) (kz_0_6 : 0 ≤ drawnNodes_0 ∧ drawnNodes_0 ≤ 33554431) (kz_0_16 : 0 ≤ pieceNodes_0 ∧ pieceNodes_0 ≤ 33554431) (kz_0_17 : 0 ≤ pieceEnds_0 ∧ pieceEnds_0 ≤ 33554431) (kz_1_5 : 0 ≤ nodes_0o1 ∧ nodes_0o1 ≤ 25) : PKD (pieceNodes_0) (drawnNodes_0) (nodes_0o1) := by
  first
    | (rcases (‹PKA _ _ _ _ _›) with q | q; omega; exact q.2)
  
def o_Em_embed_at_gp_6 : or_T := (86, 11, [(0, (2, 0, 0, [1])), (1, (2, 0, 0, [149])), (10, (0, 1, 1, []))], [(24, [1, 8], []), (20, [8], [60, 2, 3, 595, 5, 6, 7, 8, 9]), (24, [0, 2], []), (20, [2, 8, 10], [60, 4, 0, 612, 16, 17, 6, 1005])], [], [], [(20, [2], [60, 2, 0, 576, 16, 17]), (20, [8], [60, 1, 1, 575, 5, 9]), (20, [2, 8], [60, 3, 0, 610, 16, 6, 1005])], [], [])
theorem oo_Em_embed_at_gp_6 {kA : Nat → ClassId} : or_ok PRD kA GG o_Em_embed_at_gp_6 := by
  refine or_mk fun A ta ws vs hD hth hl => ?_
  intro t0 r0 t1 r1 t10 k10 f7 f9 f12 f14
  replace f7 := shm_5 f7
  replace f9 := shm_408 f9
  replace f12 := shm_5 f12
  replace f14 := shm_1343 f14
  have q8 : n_v vs 8 = n_v vs 1 := f7.symm
  have q2 : n_v vs 2 = n_v vs 0 := f12.symm
  simp only [q2, q8] at f9 f14
  have kz_0_6 := fdq_53 hD hth r0
  have kz_0_16 := fdq_284 hD hth r0
  have kz_0_17 := fdq_285 hD hth r0
  have kz_1_5 := fdq_85 hD hth r1
  have kz_1_6 := fdq_62 hD hth r1
  have nf0 : fc_1 PRD (20, [2], [60, 2, 0, 576, 16, 17]) ws (vs) := by
    refine ⟨nf_in hl rfl, sgq_1596 ?_⟩
    · show PEN (w_fi ws (n_v vs 2) 16) (w_fi ws (n_v vs 2) 17)
      rw [q2]
      exact vc_Em_embed_at_gp_6_0 (v_iv (n_v vs 10)) (w_fi ws (n_v vs 0) 6) (w_fi ws (n_v vs 1) 5) (w_fi ws (n_v vs 0) 16) (w_fi ws (n_v vs 0) 17) k10 f14 kz_0_6 kz_0_16 kz_0_17 kz_1_5
  have nf1 : fc_1 PRD (20, [8], [60, 1, 1, 575, 5, 9]) ws (vs) := by
    refine ⟨nf_in hl rfl, sgq_1597 ?_⟩
    · show SYE (w_fi ws (n_v vs 8) 5) (w_ei ws (w_ar ws (n_v vs 8) 9))
      rw [q8]
      exact vc_Em_embed_at_gp_6_1 (w_ei ws (w_ar ws (n_v vs 1) 7)) (w_ei ws (w_ar ws (n_v vs 1) 8)) (w_fi ws (n_v vs 1) 6) (w_fi ws (n_v vs 1) 5) (w_ei ws (w_ar ws (n_v vs 1) 9)) f9 kz_1_5 kz_1_6
  have nf2 : fc_1 PRD (20, [2, 8], [60, 3, 0, 610, 16, 6, 1005]) ws (vs) := by
    refine ⟨nf_in hl rfl, sgq_1598 ?_⟩
    · show PKD (w_fi ws (n_v vs 2) 16) (w_fi ws (n_v vs 2) 6) (w_fi ws (n_v vs 8) 5)
      simp only [q8, q2]
      exact vc_Em_embed_at_gp_6_2 (v_iv (n_v vs 10)) (w_fi ws (n_v vs 0) 6) (w_fi ws (n_v vs 1) 5) (w_fi ws (n_v vs 0) 16) (w_fi ws (n_v vs 0) 17) k10 f14 kz_0_6 kz_0_16 kz_0_17 kz_1_5
  refine ⟨(fun _ h => (by cases h)), [], trivial, ?_, (fun _ h => (by cases h))⟩
  rw [List.append_nil]
  exact List.forall_mem_cons.mpr ⟨⟨show (20 : Nat) < 100 from by decide, nf0⟩, List.forall_mem_cons.mpr ⟨⟨show (20 : Nat) < 100 from by decide, nf1⟩, List.forall_mem_cons.mpr ⟨⟨show (20 : Nat) < 100 from by decide, nf2⟩, (fun _ h => (by cases h))⟩⟩⟩
set_option maxHeartbeats 4000000 in
theorem vc_Em_embed_at_gp_7_0 (x12 : Int) (near_0o1 : Int → Int) (nodes_0o1 : Int) (edges_0o1 : Int) (first_0o1 : Int → Int) (faceOf_0o1 : Int → Int) (k12 : 0 ≤ x12 ∧ x12 ≤ 0) (kz_1_5 : 0 ≤ nodes_0o1 ∧ nodes_0o1 ≤ 25) (kz_1_6 : 0 ≤ edges_0o1 ∧ edges_0o1 ≤ 72) : EFA (nodes_0o1) (edges_0o1) (near_0o1) (first_0o1) (faceOf_0o1) (x12) := by
  first
    | exact efa_not (by omega)
    | exact efa_of ‹FIL _ _ _ _› (by omega) ‹FAD _ _›
  
def o_Em_embed_at_gp_7 : or_T := (93, 13, [(1, (2, 0, 0, [149])), (12, (0, 0, 0, []))], [], [], [], [(20, [1, 12], [60, 2, 3, 632, 5, 6, 9, 12, 16])], [], [])
theorem oo_Em_embed_at_gp_7 {kA : Nat → ClassId} : or_ok PRD kA GG o_Em_embed_at_gp_7 := by
  refine or_mk fun A ta ws vs hD hth hl => ?_
  intro t1 r1 t12 k12
  have kz_1_5 := fdq_85 hD hth r1
  have kz_1_6 := fdq_62 hD hth r1
  have nf0 : fc_1 PRD (20, [1, 12], [60, 2, 3, 632, 5, 6, 9, 12, 16]) ws (vs) := ⟨nf_in hl rfl, sgq_2144 (vc_Em_embed_at_gp_7_0 (v_iv (n_v vs 12)) (w_ei ws (w_ar ws (n_v vs 1) 9)) (w_fi ws (n_v vs 1) 5) (w_fi ws (n_v vs 1) 6) (w_ei ws (w_ar ws (n_v vs 1) 12)) (w_ei ws (w_ar ws (n_v vs 1) 16)) k12 kz_1_5 kz_1_6)⟩
  refine ⟨(fun _ h => (by cases h)), [], trivial, ?_, (fun _ h => (by cases h))⟩
  rw [List.append_nil]
  exact List.forall_mem_cons.mpr ⟨⟨show (20 : Nat) < 100 from by decide, nf0⟩, (fun _ h => (by cases h))⟩
set_option maxHeartbeats 4000000 in
theorem vc_Em_embed_at_gp_8_0 (x10 : Int) (x11 : Int) (cycles_0 : Int) (wayLength_0 : Int) (k10 : 1 ≤ x10 ∧ x10 ≤ 1) (k11 : 1 ≤ x11 ∧ x11 ≤ 1) (f20 : (x11 = 0) ∨ ((2 ≤ wayLength_0) ∧ ((cycles_0 + 1) ≤ 50))) (f22 : x10 ≠ 0) (kz_0_7 : 0 ≤ cycles_0 ∧ cycles_0 ≤ 50) (kz_0_15 : 0 ≤ wayLength_0 ∧ wayLength_0 ≤ 27) : 2 ≤ wayLength_0 := by
  first
    | omega
  
set_option maxHeartbeats 4000000 in
theorem vc_Em_embed_at_gp_8_1 (x10 : Int) (x11 : Int) (cycles_0 : Int) (wayLength_0 : Int) (k10 : 1 ≤ x10 ∧ x10 ≤ 1) (k11 : 1 ≤ x11 ∧ x11 ≤ 1) (f5 : 1 ≤ cycles_0) (f20 : (x11 = 0) ∨ ((2 ≤ wayLength_0) ∧ ((cycles_0 + 1) ≤ 50))) (f22 : x10 ≠ 0) (kz_0_7 : 0 ≤ cycles_0 ∧ cycles_0 ≤ 50) (kz_0_15 : 0 ≤ wayLength_0 ∧ wayLength_0 ≤ 27) : (cycles_0 + 1) ≤ 50 := by
  first
    | omega
  
set_option maxHeartbeats 4000000 in
theorem vc_Em_embed_at_gp_8_2 (x10 : Int) (x11 : Int) (cycles_0 : Int) (pieceCycle_0 : Int) (wayLength_0 : Int) (k10 : 1 ≤ x10 ∧ x10 ≤ 1) (k11 : 1 ≤ x11 ∧ x11 ≤ 1) (f18 : (x10 = 0) ∨ ((pieceCycle_0 + 1) ≤ cycles_0)) (f20 : (x11 = 0) ∨ ((2 ≤ wayLength_0) ∧ ((cycles_0 + 1) ≤ 50))) (f22 : x10 ≠ 0) (kz_0_7 : 0 ≤ cycles_0 ∧ cycles_0 ≤ 50) (kz_0_15 : 0 ≤ wayLength_0 ∧ wayLength_0 ≤ 27) (kz_0_18 : 0 ≤ pieceCycle_0 ∧ pieceCycle_0 ≤ 49) : (pieceCycle_0 + 1) ≤ cycles_0 := by
  first
    | omega
  
def o_Em_embed_at_gp_8 : or_T := (95, 12, [(0, (2, 0, 0, [1])), (10, (0, 1, 1, [])), (11, (0, 1, 1, []))], [(20, [2], [50, 1, 0, 7, 0, 2, 0, 1, 2, 0, 7]), (24, [0, 2], []), (20, [10, 2], [50, 2, 0, 1018, 1007, 3, 6, 1, 2, 1, 0, 0, 0, 0, 7, 4, 3, 2, 1, 18, 0, 1, 2, 1, 7]), (20, [11, 2], [50, 2, 0, 1015, 1007, 3, 6, 1, 2, 1, 0, 0, 0, 2, 7, 0, 2, 0, 2, 2, 1, 15, 0, 7, 4, 3, 2, 1, 7, 0, 1, 0, 50]), (102, [10], [51673825280, 1015]), (8, [10], [1])], [], [], [(20, [2], [50, 1, 0, 15, 0, 2, 0, 2, 2, 0, 15]), (20, [2], [50, 1, 0, 7, 0, 7, 4, 3, 2, 0, 7, 0, 1, 0, 50]), (20, [2], [50, 2, 0, 18, 7, 0, 7, 4, 3, 2, 0, 18, 0, 1, 2, 0, 7])], [], [])
theorem oo_Em_embed_at_gp_8 {kA : Nat → ClassId} : or_ok PRD kA GG o_Em_embed_at_gp_8 := by
  refine or_mk fun A ta ws vs hD hth hl => ?_
  intro t0 r0 t10 k10 t11 k11 f5 f15 f18 f20 ta1 w1 le1 s1 f22
  replace f5 := shm_1341 f5
  replace f15 := shm_5 f15
  replace f18 := shm_1344 f18
  replace f20 := shm_1599 f20
  replace f22 := shm_142 f22
  have q2 : n_v vs 2 = n_v vs 0 := f15.symm
  simp only [q2] at f5 f18 f20
  have kz_0_7 := fdq_49 hD hth r0
  have kz_0_15 := fdq_54 hD hth r0
  have kz_0_18 := fdq_286 hD hth r0
  have nf0 : fc_1 PRD (20, [2], [50, 1, 0, 15, 0, 2, 0, 2, 2, 0, 15]) ws (vs) := by
    refine ⟨nf_in hl rfl, sgq_1496 ?_⟩
    · show 2 ≤ w_fi ws (n_v vs 2) 15
      rw [q2]
      exact vc_Em_embed_at_gp_8_0 (v_iv (n_v vs 10)) (v_iv (n_v vs 11)) (w_fi ws (n_v vs 0) 7) (w_fi ws (n_v vs 0) 15) k10 k11 f20 f22 kz_0_7 kz_0_15
  have nf1 : fc_1 PRD (20, [2], [50, 1, 0, 7, 0, 7, 4, 3, 2, 0, 7, 0, 1, 0, 50]) ws (vs) := by
    refine ⟨nf_in hl rfl, sgq_803 ?_⟩
    · show (w_fi ws (n_v vs 2) 7 + 1) ≤ 50
      rw [q2]
      exact vc_Em_embed_at_gp_8_1 (v_iv (n_v vs 10)) (v_iv (n_v vs 11)) (w_fi ws (n_v vs 0) 7) (w_fi ws (n_v vs 0) 15) k10 k11 f5 f20 f22 kz_0_7 kz_0_15
  have nf2 : fc_1 PRD (20, [2], [50, 2, 0, 18, 7, 0, 7, 4, 3, 2, 0, 18, 0, 1, 2, 0, 7]) ws (vs) := by
    refine ⟨nf_in hl rfl, sgq_1497 ?_⟩
    · show (w_fi ws (n_v vs 2) 18 + 1) ≤ w_fi ws (n_v vs 2) 7
      rw [q2]
      exact vc_Em_embed_at_gp_8_2 (v_iv (n_v vs 10)) (v_iv (n_v vs 11)) (w_fi ws (n_v vs 0) 7) (w_fi ws (n_v vs 0) 18) (w_fi ws (n_v vs 0) 15) k10 k11 f18 f20 f22 kz_0_7 kz_0_15 kz_0_18
  refine ⟨(fun _ h => (by cases h)), [], trivial, ?_, (fun _ h => (by cases h))⟩
  rw [List.append_nil]
  exact List.forall_mem_cons.mpr ⟨⟨show (20 : Nat) < 100 from by decide, nf0⟩, List.forall_mem_cons.mpr ⟨⟨show (20 : Nat) < 100 from by decide, nf1⟩, List.forall_mem_cons.mpr ⟨⟨show (20 : Nat) < 100 from by decide, nf2⟩, (fun _ h => (by cases h))⟩⟩⟩
set_option maxHeartbeats 4000000 in
theorem vc_Em_embed_at_gp_9_0 (x17 : Int) (cycles_0 : Int) (k17 : (-2147483648) ≤ x17 ∧ x17 ≤ 2147483647) (f15 : 1 ≤ cycles_0) (kz_0_7 : 0 ≤ cycles_0 ∧ cycles_0 ≤ 50) : (x17 ≤ 0) ∨ (1 ≤ cycles_0) := by
  first
    | omega
  
set_option maxHeartbeats 4000000 in
theorem vc_Em_embed_at_gp_9_1 (x17 : Int) (blockNodes_0 : Int) (drawnNodes_0 : Int) (k17 : (-2147483648) ≤ x17 ∧ x17 ≤ 2147483647) (f16 : DBN (drawnNodes_0) (blockNodes_0)) (kz_0_5 : 0 ≤ blockNodes_0 ∧ blockNodes_0 ≤ 33554431) (kz_0_6 : 0 ≤ drawnNodes_0 ∧ drawnNodes_0 ≤ 33554431) : DBA (drawnNodes_0) (blockNodes_0) (x17) := by
  first
    | assumption
    | exact Or.inr ‹DBN _ _›
  
def o_Em_embed_at_gp_9 : or_T := (65, 19, [(0, (2, 0, 0, [1])), (17, (0, -2147483648, 2147483647, []))], [(24, [0, 2], []), (20, [2], [50, 1, 0, 7, 0, 2, 0, 1, 2, 0, 7]), (20, [2], [60, 2, 0, 602, 6, 5])], [], [], [(20, [17, 2], [50, 1, 0, 1007, 3, 6, 0, 2, 1, 0, 0, 0, 0, 2, 0, 1, 2, 1, 7]), (20, [2, 17], [60, 2, 0, 607, 6, 5])], [], [])
theorem oo_Em_embed_at_gp_9 {kA : Nat → ClassId} : or_ok PRD kA GG o_Em_embed_at_gp_9 := by
  refine or_mk fun A ta ws vs hD hth hl => ?_
  intro t0 r0 t17 k17 f12 f15 f16
  replace f12 := shm_5 f12
  replace f15 := shm_1341 f15
  replace f16 := shm_1340 f16
  have q2 : n_v vs 2 = n_v vs 0 := f12.symm
  simp only [q2] at f15 f16
  have kz_0_5 := fdq_283 hD hth r0
  have kz_0_6 := fdq_53 hD hth r0
  have kz_0_7 := fdq_49 hD hth r0
  have nf0 : fc_1 PRD (20, [17, 2], [50, 1, 0, 1007, 3, 6, 0, 2, 1, 0, 0, 0, 0, 2, 0, 1, 2, 1, 7]) ws (vs) := by
    refine ⟨nf_in hl rfl, sgq_1684 ?_⟩
    · show (v_iv (n_v vs 17) ≤ 0) ∨ (1 ≤ w_fi ws (n_v vs 2) 7)
      rw [q2]
      exact vc_Em_embed_at_gp_9_0 (v_iv (n_v vs 17)) (w_fi ws (n_v vs 0) 7) k17 f15 kz_0_7
  have nf1 : fc_1 PRD (20, [2, 17], [60, 2, 0, 607, 6, 5]) ws (vs) := by
    refine ⟨nf_in hl rfl, sgq_1685 ?_⟩
    · show DBA (w_fi ws (n_v vs 2) 6) (w_fi ws (n_v vs 2) 5) (v_iv (n_v vs 17))
      rw [q2]
      exact vc_Em_embed_at_gp_9_1 (v_iv (n_v vs 17)) (w_fi ws (n_v vs 0) 5) (w_fi ws (n_v vs 0) 6) k17 f16 kz_0_5 kz_0_6
  refine ⟨(fun _ h => (by cases h)), [], trivial, ?_, (fun _ h => (by cases h))⟩
  rw [List.append_nil]
  exact List.forall_mem_cons.mpr ⟨⟨show (20 : Nat) < 100 from by decide, nf0⟩, List.forall_mem_cons.mpr ⟨⟨show (20 : Nat) < 100 from by decide, nf1⟩, (fun _ h => (by cases h))⟩⟩
set_option maxHeartbeats 4000000 in
theorem vc_Em_embed_at_gp_10_0 (x5 : Int) (x7 : Int) (x8 : Int) (nodes_0o1 : Int) (edges_0o1 : Int) (near_0o1 : Int → Int) (first_0o1 : Int → Int) (faceOf_0o1 : Int → Int) (k5 : 0 ≤ x5 ∧ x5 ≤ 25) (k7 : 0 ≤ x7 ∧ x7 ≤ 25) (k8 : 1 ≤ x8 ∧ x8 ≤ 1) (d0 : x7 + 0 ≤ x5 ∧ x5 ≤ x7 + 4294967296) (g0 : x7 = nodes_0o1) (f3 : FIL (nodes_0o1) (near_0o1) (first_0o1) (x5)) (f7 : FAD (edges_0o1) (faceOf_0o1)) (kz_1_5 : 0 ≤ nodes_0o1 ∧ nodes_0o1 ≤ 25) (kz_1_6 : 0 ≤ edges_0o1 ∧ edges_0o1 ≤ 72) : EFA (nodes_0o1) (edges_0o1) (near_0o1) (first_0o1) (faceOf_0o1) (x8) := by
  first
    | exact efa_not (by omega)
    | exact efa_of ‹FIL _ _ _ _› (by omega) ‹FAD _ _›
  
def o_Em_embed_at_gp_10 : or_T := (158, 9, [(1, (2, 0, 0, [149])), (5, (0, 0, 25, [])), (7, (0, 0, 25, [])), (8, (0, 1, 1, []))], [(9, [7, 6], [5]), (20, [6, 5], [60, 1, 2, 629, 5, 9, 12]), (24, [1, 6], []), (20, [6], [60, 1, 1, 553, 6, 16])], [], [], [(20, [1, 8], [60, 2, 3, 632, 5, 6, 9, 12, 16])], [], [(5, 7, 0, 4294967296)])
theorem oo_Em_embed_at_gp_10 {kA : Nat → ClassId} : or_ok PRD kA GG o_Em_embed_at_gp_10 := by
  refine or_mk fun A ta ws vs hD hth hl => ?_
  intro t1 r1 t5 k5 t7 k7 t8 k8 d0 f0 f3 f4 f7
  replace f0 := shm_110 f0
  replace f3 := shm_1079 f3
  replace f4 := shm_5 f4
  replace f7 := shm_1100 f7
  have q6 : n_v vs 6 = n_v vs 1 := f4.symm
  simp only [q6] at f0 f3 f7
  have g0 : v_iv (n_v vs 7) = w_fi ws (n_v vs 1) 5 := congrArg v_iv f0
  have kz_1_5 := fdq_85 hD hth r1
  have kz_1_6 := fdq_62 hD hth r1
  have nf0 : fc_1 PRD (20, [1, 8], [60, 2, 3, 632, 5, 6, 9, 12, 16]) ws (vs) := ⟨nf_in hl rfl, sgq_2144 (vc_Em_embed_at_gp_10_0 (v_iv (n_v vs 5)) (v_iv (n_v vs 7)) (v_iv (n_v vs 8)) (w_fi ws (n_v vs 1) 5) (w_fi ws (n_v vs 1) 6) (w_ei ws (w_ar ws (n_v vs 1) 9)) (w_ei ws (w_ar ws (n_v vs 1) 12)) (w_ei ws (w_ar ws (n_v vs 1) 16)) k5 k7 k8 d0 g0 f3 f7 kz_1_5 kz_1_6)⟩
  refine ⟨(fun _ h => (by cases h)), [], trivial, ?_, (fun _ h => (by cases h))⟩
  rw [List.append_nil]
  exact List.forall_mem_cons.mpr ⟨⟨show (20 : Nat) < 100 from by decide, nf0⟩, (fun _ h => (by cases h))⟩
set_option maxHeartbeats 4000000 in
theorem vc_Em_embed_at_gp_11_0 (x5 : Int) (x7 : Int) (nodes_0o1 : Int) (k5 : 0 ≤ x5 ∧ x5 ≤ 24) (k7 : 1 ≤ x7 ∧ x7 ≤ 25) (d0 : x7 + (-4294967296) ≤ x5 ∧ x5 ≤ x7 + (-1)) (g1 : x7 = nodes_0o1) (kz_1_5 : 0 ≤ nodes_0o1 ∧ nodes_0o1 ≤ 25) : (0 ≤ x5) ∧ ((x5 + 1) ≤ nodes_0o1) := by
  first
    | omega
  
def o_Em_embed_at_gp_11 : or_T := (141, 8, [(1, (2, 0, 0, [149])), (5, (0, 0, 24, [])), (7, (0, 1, 25, []))], [(9, [7, 6], [5]), (24, [1, 6], [])], [], [], [(20, [5, 6], [50, 1, 0, 1005, 2, 6, 0, 2, 0, 0, 1, 0, 0, 6, 4, 2, 1, 0, 0, 1, 2, 1, 5])], [], [(5, 7, -4294967296, -1)])
theorem oo_Em_embed_at_gp_11 {kA : Nat → ClassId} : or_ok PRD kA GG o_Em_embed_at_gp_11 := by
  refine or_mk fun A ta ws vs hD hth hl => ?_
  intro t1 r1 t5 k5 t7 k7 d0 f1 f5
  replace f1 := shm_110 f1
  replace f5 := shm_5 f5
  have q6 : n_v vs 6 = n_v vs 1 := f5.symm
  simp only [q6] at f1
  have g1 : v_iv (n_v vs 7) = w_fi ws (n_v vs 1) 5 := congrArg v_iv f1
  have kz_1_5 := fdq_85 hD hth r1
  have nf0 : fc_1 PRD (20, [5, 6], [50, 1, 0, 1005, 2, 6, 0, 2, 0, 0, 1, 0, 0, 6, 4, 2, 1, 0, 0, 1, 2, 1, 5]) ws (vs) := by
    refine ⟨nf_in hl rfl, sgq_405 ?_⟩
    · show (0 ≤ v_iv (n_v vs 5)) ∧ ((v_iv (n_v vs 5) + 1) ≤ w_fi ws (n_v vs 6) 5)
      rw [q6]
      exact vc_Em_embed_at_gp_11_0 (v_iv (n_v vs 5)) (v_iv (n_v vs 7)) (w_fi ws (n_v vs 1) 5) k5 k7 d0 g1 kz_1_5
  refine ⟨(fun _ h => (by cases h)), [], trivial, ?_, (fun _ h => (by cases h))⟩
  rw [List.append_nil]
  exact List.forall_mem_cons.mpr ⟨⟨show (20 : Nat) < 100 from by decide, nf0⟩, (fun _ h => (by cases h))⟩
set_option maxHeartbeats 4000000 in
theorem vc_Em_embed_at_gp_12_0 (x5 : Int) (x8 : Int) (nodes_0o1 : Int) (near_0o1 : Int → Int) (first_0o1 : Int → Int) (k5 : 0 ≤ x5 ∧ x5 ≤ 24) (k8 : 1 ≤ x8 ∧ x8 ≤ 25) (f1 : x8 = x5 + 1) (f6 : FIL1 (nodes_0o1) (near_0o1) (first_0o1) (x5)) (kz_1_5 : 0 ≤ nodes_0o1 ∧ nodes_0o1 ≤ 25) : FIL (nodes_0o1) (near_0o1) (first_0o1) (x8) := by
  first
    | assumption
    | exact fil_start (by omega)
    | exact fil_next ‹FIL1 _ _ _ _› (by omega)
  
def o_Em_embed_at_gp_12 : or_T := (127, 9, [(1, (2, 0, 0, [149])), (5, (0, 0, 24, [])), (8, (0, 1, 25, []))], [(6, [8, 5], [1]), (24, [1, 6], []), (20, [6, 5], [60, 1, 2, 630, 5, 9, 12])], [], [], [(20, [6, 8], [60, 1, 2, 629, 5, 9, 12])], [], [])
theorem oo_Em_embed_at_gp_12 {kA : Nat → ClassId} : or_ok PRD kA GG o_Em_embed_at_gp_12 := by
  refine or_mk fun A ta ws vs hD hth hl => ?_
  intro t1 r1 t5 k5 t8 k8 f1 f3 f6
  replace f1 := shm_4 f1
  replace f3 := shm_5 f3
  replace f6 := shm_1081 f6
  have q6 : n_v vs 6 = n_v vs 1 := f3.symm
  simp only [q6] at f6
  have kz_1_5 := fdq_85 hD hth r1
  have nf0 : fc_1 PRD (20, [6, 8], [60, 1, 2, 629, 5, 9, 12]) ws (vs) := by
    refine ⟨nf_in hl rfl, sgq_1079 ?_⟩
    · show FIL (w_fi ws (n_v vs 6) 5) (w_ei ws (w_ar ws (n_v vs 6) 9)) (w_ei ws (w_ar ws (n_v vs 6) 12)) (v_iv (n_v vs 8))
      rw [q6]
      exact vc_Em_embed_at_gp_12_0 (v_iv (n_v vs 5)) (v_iv (n_v vs 8)) (w_fi ws (n_v vs 1) 5) (w_ei ws (w_ar ws (n_v vs 1) 9)) (w_ei ws (w_ar ws (n_v vs 1) 12)) k5 k8 f1 f6 kz_1_5
  refine ⟨(fun _ h => (by cases h)), [], trivial, ?_, (fun _ h => (by cases h))⟩
  rw [List.append_nil]
  exact List.forall_mem_cons.mpr ⟨⟨show (20 : Nat) < 100 from by decide, nf0⟩, (fun _ h => (by cases h))⟩
def n_Em_embed_at_gp_an : List an_T := [(50, [(0, (2, 0, 0, [1])), (1, (2, 0, 0, [149])), (2, (0, 0, 72, [])), (3, (0, 0, 72, []))], [], (0, 0), [(0, 0, 99950), (1, 5, 72), (0, 0, 100000), (0, 0, 0), (0, 0, 0)], [(5, 4, (Int.negSucc 999999999999), 0)], [((0, 0), (2, 0, 0, [149]))], [(2, 0, 0, [1]), (2, 0, 0, [149])], 0, [], [(20, [2, 6, 4], [60, 1, 3, 598, 1006, 2, 1007, 1008]), (20, [6], [60, 2, 3, 595, 5, 6, 7, 8, 9]), (24, [1, 6], []), (24, [0, 2], []), (24, [1, 3], [])]), (65, [(0, (2, 0, 0, [1])), (1, (2, 0, 0, [149])), (2, (0, 1, 72, [])), (3, (0, 0, 71, [])), (4, (0, (Int.negSucc 2147483647), 2147483647, [])), (5, (0, 0, 72, []))], [], (0, 0), [(0, 0, 99950), (1, 5, 72), (0, 0, 99935), (1, 7, 72), (0, 0, 100000)], [(5, 4, (Int.negSucc 999999999999), (Int.negSucc 0))], [((0, 0), (2, 0, 0, [149]))], [(2, 0, 0, [1]), (2, 0, 0, [149])], 0, [], [(20, [2, 8, 4], [60, 1, 3, 598, 1006, 2, 1007, 1008]), (20, [6, 2], [50, 1, 0, 1007, 3, 6, 0, 2, 1, 0, 0, 0, 0, 2, 0, 1, 2, 1, 7]), (20, [2, 6], [60, 2, 0, 607, 6, 5]), (20, [5, 4], [50, 0, 0, 2, 6, 0, 2, 0, 0, 1, 0, 0, 6, 4, 2, 1, 0, 0, 1, 1, 1]), (24, [1, 8], []), (20, [2, 8, 5], [60, 3, 3, 600, 5, 1005, 1006, 2, 1007, 1008]), (20, [8], [60, 2, 3, 595, 5, 6, 7, 8, 9]), (20, [2, 8], [60, 1, 3, 599, 1006, 2, 1007, 1008]), (20, [2], [60, 2, 2, 603, 7, 6, 8, 9]), (24, [0, 2], []), (24, [1, 3], [])]), (127, [(0, (2, 0, 0, [1])), (1, (2, 0, 0, [149])), (2, (0, 0, 72, [])), (3, (0, 0, 25, []))], [], (0, 0), [(0, 0, 99873), (1, 5, 25), (0, 0, 100000), (0, 0, 0), (0, 0, 0)], [], [((0, 0), (2, 0, 0, [149]))], [(2, 0, 0, [1]), (2, 0, 0, [149])], 0, [], [(20, [2, 6, 4], [60, 1, 3, 598, 1006, 2, 1007, 1008]), (20, [6], [60, 2, 3, 595, 5, 6, 7, 8, 9]), (20, [6, 5], [60, 1, 2, 629, 5, 9, 12]), (24, [1, 6], []), (24, [0, 2], []), (24, [1, 3], [])])]
def t_Em_embed_at_gp_ct : ct_L := [(1, 153, e_Em_splitCycle), (135, 136, e_Fa_blocksOf_at_Nptail_Nphead_Npnear_Emblock), (175, 142, e_Em_beginBlock_at_gp), (241, 145, e_Em_pickPiece_at_gp), (262, 149, e_Em_findWay_at_gp), (352, 156, e_Em_turnByCycles_at_gp), (427, 159, e_Em_joinBlocksAt_at_gp), (466, 163, e_Ne_traceFaces_at_Np)]
set_option maxRecDepth 100000 in
theorem c_Em_embed_at_gp {l : Launch} {D : va_G} {kA : Nat → ClassId} (h_Em_beginBlock_at_gp : ct_ok PRD l D kA GG y_Em_beginBlock_at_gp z_Em_beginBlock_at_gp e_Em_beginBlock_at_gp) (h_Em_findWay_at_gp : ct_ok PRD l D kA GG y_Em_findWay_at_gp z_Em_findWay_at_gp e_Em_findWay_at_gp) (h_Em_joinBlocksAt_at_gp : ct_ok PRD l D kA GG y_Em_joinBlocksAt_at_gp z_Em_joinBlocksAt_at_gp e_Em_joinBlocksAt_at_gp) (h_Em_pickPiece_at_gp : ct_ok PRD l D kA GG y_Em_pickPiece_at_gp z_Em_pickPiece_at_gp e_Em_pickPiece_at_gp) (h_Em_splitCycle : ct_ok PRD l D kA GG y_Em_splitCycle z_Em_splitCycle e_Em_splitCycle) (h_Em_turnByCycles_at_gp : ct_ok PRD l D kA GG y_Em_turnByCycles_at_gp z_Em_turnByCycles_at_gp e_Em_turnByCycles_at_gp) (h_Fa_blocksOf_at_Nptail_Nphead_Npnear_Emblock : ct_ok PRD l D kA GG y_Fa_blocksOf_at_Nptail_Nphead_Npnear_Emblock z_Fa_blocksOf_at_Nptail_Nphead_Npnear_Emblock e_Fa_blocksOf_at_Nptail_Nphead_Npnear_Emblock) (h_Ne_traceFaces_at_Np : ct_ok PRD l D kA GG y_Ne_traceFaces_at_Np z_Ne_traceFaces_at_Np e_Ne_traceFaces_at_Np) : ct_ok PRD l D kA GG y_Em_embed_at_gp z_Em_embed_at_gp e_Em_embed_at_gp := chk_all_ok (FT := [(9, 1, 0), (21, 1, 2), (63, 1, 15), (85, 5, 5), (114, 5, 9), (133, 5, 6), (134, 5, 7), (135, 5, 8)]) (PT := [(9, 1, 0, .object "DrawingHouse$Net")]) (CT := t_Em_embed_at_gp_ct) (KT := []) (NT := []) (AN := n_Em_embed_at_gp_an) (OT := [o_Em_embed_at_gp_0, o_Em_embed_at_gp_1, o_Em_embed_at_gp_2, o_Em_embed_at_gp_3, o_Em_embed_at_gp_4, o_Em_embed_at_gp_5, o_Em_embed_at_gp_6, o_Em_embed_at_gp_7, o_Em_embed_at_gp_8, o_Em_embed_at_gp_9, o_Em_embed_at_gp_10, o_Em_embed_at_gp_11, o_Em_embed_at_gp_12]) 5 348 (List.forall_mem_cons.mpr ⟨oo_Em_embed_at_gp_0, List.forall_mem_cons.mpr ⟨oo_Em_embed_at_gp_1, List.forall_mem_cons.mpr ⟨oo_Em_embed_at_gp_2, List.forall_mem_cons.mpr ⟨oo_Em_embed_at_gp_3, List.forall_mem_cons.mpr ⟨oo_Em_embed_at_gp_4, List.forall_mem_cons.mpr ⟨oo_Em_embed_at_gp_5, List.forall_mem_cons.mpr ⟨oo_Em_embed_at_gp_6, List.forall_mem_cons.mpr ⟨oo_Em_embed_at_gp_7, List.forall_mem_cons.mpr ⟨oo_Em_embed_at_gp_8, List.forall_mem_cons.mpr ⟨oo_Em_embed_at_gp_9, List.forall_mem_cons.mpr ⟨oo_Em_embed_at_gp_10, List.forall_mem_cons.mpr ⟨oo_Em_embed_at_gp_11, List.forall_mem_cons.mpr ⟨oo_Em_embed_at_gp_12, List.forall_mem_nil _⟩⟩⟩⟩⟩⟩⟩⟩⟩⟩⟩⟩⟩) (by decide +kernel) ⟨List.forall_mem_cons.mpr ⟨gf_Em_9, List.forall_mem_cons.mpr ⟨gf_Em_21, List.forall_mem_cons.mpr ⟨gf_Em_63, List.forall_mem_cons.mpr ⟨gf_Em_85, List.forall_mem_cons.mpr ⟨gf_Em_114, List.forall_mem_cons.mpr ⟨gf_Em_133, List.forall_mem_cons.mpr ⟨gf_Em_134, List.forall_mem_cons.mpr ⟨gf_Em_135, List.forall_mem_nil _⟩⟩⟩⟩⟩⟩⟩⟩, List.forall_mem_cons.mpr ⟨pf_Em_9, List.forall_mem_nil _⟩, List.forall_mem_cons.mpr ⟨cl_virtual (y := y_Em_splitCycle) (ci := 1) rfl rfl ⟨_, _, rfl⟩ (by decide +kernel) h_Em_splitCycle wm_1113 wm_5 wm_1110 wm_1112 wv_3_14 ⟨by decide, by decide, by decide +kernel⟩ (by decide), List.forall_mem_cons.mpr ⟨cl_static (y := y_Fa_blocksOf_at_Nptail_Nphead_Npnear_Emblock) h_Fa_blocksOf_at_Nptail_Nphead_Npnear_Emblock wm_830 wm_7 wm_1070 wm_829 ⟨by decide, by decide, by decide +kernel⟩ (by decide), List.forall_mem_cons.mpr ⟨cl_virtual (y := y_Em_beginBlock_at_gp) (ci := 1) rfl rfl ⟨_, _, rfl⟩ (by decide +kernel) h_Em_beginBlock_at_gp wm_1074 wm_5 wm_1071 wm_1073 wv_3_7 ⟨by decide, by decide, by decide +kernel⟩ (by decide), List.forall_mem_cons.mpr ⟨cl_virtual (y := y_Em_pickPiece_at_gp) (ci := 1) rfl rfl ⟨_, _, rfl⟩ (by decide +kernel) h_Em_pickPiece_at_gp wm_1093 wm_5 wm_1090 wm_1092 wv_3_10 ⟨by decide, by decide, by decide +kernel⟩ (by decide), List.forall_mem_cons.mpr ⟨cl_virtual (y := y_Em_findWay_at_gp) (ci := 1) rfl rfl ⟨_, _, rfl⟩ (by decide +kernel) h_Em_findWay_at_gp wm_1108 wm_5 wm_1105 wm_1107 wv_3_13 ⟨by decide, by decide, by decide +kernel⟩ (by decide), List.forall_mem_cons.mpr ⟨cl_virtual (y := y_Em_turnByCycles_at_gp) (ci := 1) rfl rfl ⟨_, _, rfl⟩ (by decide +kernel) h_Em_turnByCycles_at_gp wm_1134 wm_5 wm_1131 wm_1133 wv_4_3 ⟨by decide, by decide, by decide +kernel⟩ (by decide), List.forall_mem_cons.mpr ⟨cl_virtual (y := y_Em_joinBlocksAt_at_gp) (ci := 1) rfl rfl ⟨_, _, rfl⟩ (by decide +kernel) h_Em_joinBlocksAt_at_gp wm_1142 wm_5 wm_1139 wm_1141 wv_4_4 ⟨by decide, by decide, by decide +kernel⟩ (by decide), List.forall_mem_cons.mpr ⟨cl_virtual (y := y_Ne_traceFaces_at_Np) (ci := 5) rfl rfl ⟨_, _, rfl⟩ (by decide +kernel) h_Ne_traceFaces_at_Np wm_1150 wm_6 wm_1147 wm_1148 wm_1149 ⟨by decide, by decide, by decide +kernel⟩ (by decide), List.forall_mem_nil _⟩⟩⟩⟩⟩⟩⟩⟩, List.forall_mem_nil _, List.forall_mem_nil _, GG_pl⟩ (by decide +kernel)
set_option maxHeartbeats 4000000 in
theorem vc_Mo_bar_0_0 (x2 : Int) (x3 : Int) (pt_0 : Int → Int) (ph_0 : Int → Int) (pn_0 : Int) (pm_0 : Int) (pt_1 : Int → Int) (ph_1 : Int → Int) (pn_1 : Int) (pm_1 : Int) (barredMany_0 : Int) (k2 : 0 ≤ x2 ∧ x2 ≤ 0) (k3 : 0 ≤ x3 ∧ x3 ≤ 0) (fe_0_31_1 : pn_0 = pn_1) (fe_0_32_1 : pm_0 = pm_1) (fe_0_58_1 : barredMany_0 = x2) (hE_0_33_1 : ∀ j : Int, pt_0 j = pt_1 j) (hE_0_34_1 : ∀ j : Int, ph_0 j = ph_1 j) (kz_0_31 : 0 ≤ pn_0 ∧ pn_0 ≤ 25) (kz_0_32 : 0 ≤ pm_0 ∧ pm_0 ≤ 80) (kz_0_58 : 0 ≤ barredMany_0 ∧ barredMany_0 ≤ 80) : 1 * barredMany_0 + ((-1) * x3 + 0) ≤ 0 := by
  subst fe_0_31_1
  subst fe_0_32_1
  have e_hE_0_33_1 := funext hE_0_33_1; subst e_hE_0_33_1
  have e_hE_0_34_1 := funext hE_0_34_1; subst e_hE_0_34_1
  first | omega
def o_Mo_bar_0 : or_T := (49, 4, [(0, (2, 0, 0, [165])), (2, (0, 0, 0, [])), (3, (0, 0, 0, []))], [(101, [0, 2], [58])], [], [], [(20, [0, 3], [30, 0, 1, 1, 58, -1, 0, 0])], [], [])
theorem oo_Mo_bar_0 {kA : Nat → ClassId} : or_ok PRD kA GG o_Mo_bar_0 := by
  refine or_mk fun A ta ws vs hD hth hl => ?_
  intro t0 r0 t2 k2 t3 k3 ta1 w1 le1 s1
  have s1 : (∀ b j, w_el ws b j = w_el w1 b j) ∧ ∀ b j, w_fd ws b j = if b = v_ad (n_v vs 0) ∧ j = 58 then n_v vs 2 else w_fd w1 b j := s1.2
  have fe_0_31_1 : w_fi ws (n_v vs 0) 31 = w_fi w1 (n_v vs 0) 31 := by show v_iv (w_fd _ _ _) = v_iv (w_fd _ _ _); rw [s1.2, if_neg (fun e => absurd e.2 (by decide))]
  have fe_0_32_1 : w_fi ws (n_v vs 0) 32 = w_fi w1 (n_v vs 0) 32 := by show v_iv (w_fd _ _ _) = v_iv (w_fd _ _ _); rw [s1.2, if_neg (fun e => absurd e.2 (by decide))]
  have fe_0_58_1 : w_fi ws (n_v vs 0) 58 = v_iv (n_v vs 2) := by show v_iv (w_fd _ _ _) = _; rw [s1.2, if_pos ⟨rfl, rfl⟩]
  have hE_0_33_1 : ∀ j : Int, w_ei ws (w_ar ws (n_v vs 0) 33) j = w_ei w1 (w_ar ws (n_v vs 0) 33) j := fun j => s1.1 _ _
  have hE_0_34_1 : ∀ j : Int, w_ei ws (w_ar ws (n_v vs 0) 34) j = w_ei w1 (w_ar ws (n_v vs 0) 34) j := fun j => s1.1 _ _
  have kz_0_31 := fdq_145 hD hth r0
  have kz_0_32 := fdq_140 hD hth r0
  have kz_0_58 := fdq_326 hD hth r0
  have nf0 : fc_1 PRD (20, [0, 3], [30, 0, 1, 1, 58, -1, 0, 0]) ws (vs) := ⟨nf_in hl rfl, sgq_2145 (vc_Mo_bar_0_0 (v_iv (n_v vs 2)) (v_iv (n_v vs 3)) (w_ei ws (w_ar ws (n_v vs 0) 33)) (w_ei ws (w_ar ws (n_v vs 0) 34)) (w_fi ws (n_v vs 0) 31) (w_fi ws (n_v vs 0) 32) (w_ei w1 (w_ar ws (n_v vs 0) 33)) (w_ei w1 (w_ar ws (n_v vs 0) 34)) (w_fi w1 (n_v vs 0) 31) (w_fi w1 (n_v vs 0) 32) (w_fi ws (n_v vs 0) 58) k2 k3 fe_0_31_1 fe_0_32_1 fe_0_58_1 hE_0_33_1 hE_0_34_1 kz_0_31 kz_0_32 kz_0_58)⟩
  refine ⟨(fun _ h => (by cases h)), [], trivial, ?_, (fun _ h => (by cases h))⟩
  rw [List.append_nil]
  exact List.forall_mem_cons.mpr ⟨⟨show (20 : Nat) < 100 from by decide, nf0⟩, (fun _ h => (by cases h))⟩
set_option maxHeartbeats 4000000 in
theorem vc_Mo_bar_1_0 (x1 : Int) (x2 : Int) (x8 : Int) (x9 : Int) (barredMany_1 : Int) (pm_2 : Int) (barredMany_2 : Int) (pm_0 : Int) (pm_1 : Int) (barredMany_0 : Int) (barred_0 : Int → Int) (barred_1 : Int → Int) (k1 : 0 ≤ x1 ∧ x1 ≤ 79) (k2 : 0 ≤ x2 ∧ x2 ≤ 79) (k8 : 1 ≤ x8 ∧ x8 ≤ 80) (k9 : 1 ≤ x9 ∧ x9 ≤ 80) (d0 : x1 + 1 ≤ x9 ∧ x9 ≤ x1 + 1) (d2 : x2 + 1 ≤ x8 ∧ x8 ≤ x2 + 1) (d3 : x1 + (-4294967296) ≤ x8 ∧ x8 ≤ x1 + 1) (d5 : x1 + (-4294967296) ≤ x2 ∧ x2 ≤ x1 + 0) (g3 : x2 = barredMany_1) (fe_0_32_1 : pm_0 = pm_1) (fe_0_58_1 : barredMany_0 = x8) (fe_0_32_2 : pm_1 = pm_2) (fe_0_58_2 : barredMany_1 = barredMany_2) (hE_0_60_1 : ∀ j : Int, barred_0 j = barred_1 j) (kz_0_32 : 0 ≤ pm_0 ∧ pm_0 ≤ 80) (kz_0_58 : 0 ≤ barredMany_0 ∧ barredMany_0 ≤ 80) : 1 * barredMany_0 + ((-1) * x9 + 0) ≤ 0 := by
  subst fe_0_32_1
  subst fe_0_32_2
  subst fe_0_58_2
  have e_hE_0_60_1 := funext hE_0_60_1; subst e_hE_0_60_1
  first | omega
def o_Mo_bar_1 : or_T := (49, 10, [(0, (2, 0, 0, [165])), (1, (0, 0, 79, [])), (2, (0, 0, 79, [])), (8, (0, 1, 80, [])), (9, (0, 1, 80, []))], [(101, [0, 8], [58]), (9, [2, 0], [58]), (100, [6, 2, 1], [])], [], [], [(20, [0, 9], [30, 0, 1, 1, 58, -1, 0, 0])], [], [(9, 1, 1, 1), (8, 2, 1, 1), (8, 1, -4294967296, 1), (2, 1, -4294967296, 0)])
theorem oo_Mo_bar_1 {kA : Nat → ClassId} : or_ok PRD kA GG o_Mo_bar_1 := by
  refine or_mk fun A ta ws vs hD hth hl => ?_
  intro t0 r0 t1 k1 t2 k2 t8 k8 t9 k9 d0 d2 d3 d5 ta1 w1 le1 s1 f3 ta2 w2 le2 s2
  have s1 : (∀ b j, w_el ws b j = w_el w1 b j) ∧ ∀ b j, w_fd ws b j = if b = v_ad (n_v vs 0) ∧ j = 58 then n_v vs 8 else w_fd w1 b j := s1.2
  replace f3 := shm_2146 f3
  have s2 : (∀ b j, w_el w1 b j = if b = v_ad (n_v vs 6) ∧ j = (v_iv (n_v vs 2)).toNat then v_iv (n_v vs 1) else w_el w2 b j) ∧ ∀ b k, w_fd w1 b k = w_fd w2 b k := s2.2
  have g3 : v_iv (n_v vs 2) = w_fi w1 (n_v vs 0) 58 := congrArg v_iv f3
  have fe_0_32_1 : w_fi ws (n_v vs 0) 32 = w_fi w1 (n_v vs 0) 32 := by show v_iv (w_fd _ _ _) = v_iv (w_fd _ _ _); rw [s1.2, if_neg (fun e => absurd e.2 (by decide))]
  have fe_0_58_1 : w_fi ws (n_v vs 0) 58 = v_iv (n_v vs 8) := by show v_iv (w_fd _ _ _) = _; rw [s1.2, if_pos ⟨rfl, rfl⟩]
  have fe_0_32_2 : w_fi w1 (n_v vs 0) 32 = w_fi w2 (n_v vs 0) 32 := congrArg v_iv (s2.2 _ _)
  have fe_0_58_2 : w_fi w1 (n_v vs 0) 58 = w_fi w2 (n_v vs 0) 58 := congrArg v_iv (s2.2 _ _)
  have hE_0_60_1 : ∀ j : Int, w_ei ws (w_ar ws (n_v vs 0) 60) j = w_ei w1 (w_ar ws (n_v vs 0) 60) j := fun j => s1.1 _ _
  have kz_0_32 := fdq_140 hD hth r0
  have kz_0_58 := fdq_326 hD hth r0
  have nf0 : fc_1 PRD (20, [0, 9], [30, 0, 1, 1, 58, -1, 0, 0]) ws (vs) := ⟨nf_in hl rfl, sgq_2145 (vc_Mo_bar_1_0 (v_iv (n_v vs 1)) (v_iv (n_v vs 2)) (v_iv (n_v vs 8)) (v_iv (n_v vs 9)) (w_fi w1 (n_v vs 0) 58) (w_fi w2 (n_v vs 0) 32) (w_fi w2 (n_v vs 0) 58) (w_fi ws (n_v vs 0) 32) (w_fi w1 (n_v vs 0) 32) (w_fi ws (n_v vs 0) 58) (w_ei ws (w_ar ws (n_v vs 0) 60)) (w_ei w1 (w_ar ws (n_v vs 0) 60)) k1 k2 k8 k9 d0 d2 d3 d5 g3 fe_0_32_1 fe_0_58_1 fe_0_32_2 fe_0_58_2 hE_0_60_1 kz_0_32 kz_0_58)⟩
  refine ⟨(fun _ h => (by cases h)), [], trivial, ?_, (fun _ h => (by cases h))⟩
  rw [List.append_nil]
  exact List.forall_mem_cons.mpr ⟨⟨show (20 : Nat) < 100 from by decide, nf0⟩, (fun _ h => (by cases h))⟩
set_option maxHeartbeats 4000000 in
theorem vc_Mo_bar_2_0 (x1 : Int) (x6 : Int) (barredMany_0 : Int) (k1 : 0 ≤ x1 ∧ x1 ≤ 79) (k6 : 1 ≤ x6 ∧ x6 ≤ 80) (d0 : x1 + 1 ≤ x6 ∧ x6 ≤ x1 + 1) (f3 : 1 * barredMany_0 + ((-1) * x1 + 0) ≤ 0) (kz_0_58 : 0 ≤ barredMany_0 ∧ barredMany_0 ≤ 80) : 1 * barredMany_0 + ((-1) * x6 + 0) ≤ 0 := by
  first | omega
def o_Mo_bar_2 : or_T := (49, 7, [(0, (2, 0, 0, [165])), (1, (0, 0, 79, [])), (6, (0, 1, 80, []))], [(20, [0, 1], [30, 0, 1, 1, 58, -1, 0, 0])], [], [], [(20, [0, 6], [30, 0, 1, 1, 58, -1, 0, 0])], [], [(6, 1, 1, 1)])
theorem oo_Mo_bar_2 {kA : Nat → ClassId} : or_ok PRD kA GG o_Mo_bar_2 := by
  refine or_mk fun A ta ws vs hD hth hl => ?_
  intro t0 r0 t1 k1 t6 k6 d0 f3
  have kz_0_58 := fdq_326 hD hth r0
  have nf0 : fc_1 PRD (20, [0, 6], [30, 0, 1, 1, 58, -1, 0, 0]) ws (vs) := ⟨nf_in hl rfl, sgq_2145 (vc_Mo_bar_2_0 (v_iv (n_v vs 1)) (v_iv (n_v vs 6)) (w_fi ws (n_v vs 0) 58) k1 k6 d0 (shm_2145 f3) kz_0_58)⟩
  refine ⟨(fun _ h => (by cases h)), [], trivial, ?_, (fun _ h => (by cases h))⟩
  rw [List.append_nil]
  exact List.forall_mem_cons.mpr ⟨⟨show (20 : Nat) < 100 from by decide, nf0⟩, (fun _ h => (by cases h))⟩
def n_Mo_bar_an : List an_T := [(11, [(0, (2, 0, 0, [165])), (1, (0, (Int.negSucc 0), 79, []))], [], (0, 0), [(0, 0, 99989), (2, 1, (Int.negSucc 0)), (0, 0, 100000), (0, 0, 0), (0, 0, 0)], [], [], [], 0, [], [(20, [0], [60, 2, 2, 75, 31, 32, 33, 34])]), (49, [(0, (2, 0, 0, [165])), (1, (0, 0, 80, []))], [], (0, 0), [(0, 0, 99951), (1, 1, 80), (0, 0, 100000), (0, 0, 0), (0, 0, 0)], [(2, 1, (Int.negSucc 999999999999), 0)], [((0, 58), (0, 0, 80, []))], [], 0, [], [(20, [0, 1], [30, 0, 1, 1, 58, (Int.negSucc 0), 0, 0])]), (99, [(0, (2, 0, 0, [165])), (1, (0, 0, 25, [])), (2, (0, 0, 25, []))], [], (0, 0), [(0, 0, 99901), (1, 2, 25), (0, 0, 100000), (0, 0, 0), (0, 0, 0)], [(1, 2, (Int.negSucc 999999999999), 0)], [], [], 0, [], []), (112, [(0, (2, 0, 0, [165])), (1, (0, 0, 24, [])), (2, (0, 0, 24, [])), (3, (0, 0, 80, [])), (4, (0, 0, 80, []))], [], (0, 0), [(0, 0, 99901), (1, 2, 25), (0, 0, 99888), (1, 4, 80), (0, 0, 100000)], [(1, 2, (Int.negSucc 999999999999), 0), (3, 4, (Int.negSucc 999999999999), 0)], [], [], 0, [], [])]
def t_Mo_bar_ct : ct_L := [(1, 600, e_Mo_at1), (1, 689, e_Mo_plane), (1, 692, e_Mo_embed)]
set_option maxRecDepth 100000 in
theorem c_Mo_bar {l : Launch} {D : va_G} {kA : Nat → ClassId} (h_Mo_at1 : ct_ok PRD l D kA GG y_Mo_at1 z_Mo_at1 e_Mo_at1) (h_Mo_embed : ct_ok PRD l D kA GG y_Mo_embed z_Mo_embed e_Mo_embed) (h_Mo_plane : ct_ok PRD l D kA GG y_Mo_plane z_Mo_plane e_Mo_plane) : ct_ok PRD l D kA GG y_Mo_bar z_Mo_bar e_Mo_bar := chk_all_ok (FT := [(63, 13, 35), (117, 13, 60), (594, 13, 31), (597, 13, 32), (695, 13, 58)]) (PT := [(695, 13, 58, .int), (698, 13, 59, .int)]) (CT := t_Mo_bar_ct) (KT := []) (NT := []) (AN := n_Mo_bar_an) (OT := [o_Mo_bar_0, o_Mo_bar_1, o_Mo_bar_2]) 5 468 (List.forall_mem_cons.mpr ⟨oo_Mo_bar_0, List.forall_mem_cons.mpr ⟨oo_Mo_bar_1, List.forall_mem_cons.mpr ⟨oo_Mo_bar_2, List.forall_mem_nil _⟩⟩⟩) (by decide +kernel) ⟨List.forall_mem_cons.mpr ⟨gf_Mo_63, List.forall_mem_cons.mpr ⟨gf_Mo_117, List.forall_mem_cons.mpr ⟨gf_Mo_594, List.forall_mem_cons.mpr ⟨gf_Mo_597, List.forall_mem_cons.mpr ⟨gf_Mo_695, List.forall_mem_nil _⟩⟩⟩⟩⟩, List.forall_mem_cons.mpr ⟨pf_Mo_695, List.forall_mem_cons.mpr ⟨pf_Mo_698, List.forall_mem_nil _⟩⟩, List.forall_mem_cons.mpr ⟨cl_virtual (y := y_Mo_at1) (ci := 13) rfl rfl ⟨_, _, rfl⟩ (by decide +kernel) h_Mo_at1 wm_3159 wm_9 wm_3156 wm_3158 wv_14_15 ⟨by decide, by decide, by decide +kernel⟩ (by decide), List.forall_mem_cons.mpr ⟨cl_virtual (y := y_Mo_plane) (ci := 13) rfl rfl ⟨_, _, rfl⟩ (by decide +kernel) h_Mo_plane wm_3147 wm_9 wm_3144 wm_3146 wv_14_12 ⟨by decide, by decide, by decide +kernel⟩ (by decide), List.forall_mem_cons.mpr ⟨cl_virtual (y := y_Mo_embed) (ci := 13) rfl rfl ⟨_, _, rfl⟩ (by decide +kernel) h_Mo_embed wm_3151 wm_9 wm_3148 wm_3150 wv_14_13 ⟨by decide, by decide, by decide +kernel⟩ (by decide), List.forall_mem_nil _⟩⟩⟩, List.forall_mem_nil _, List.forall_mem_nil _, GG_pl⟩ (by decide +kernel)
set_option maxHeartbeats 4000000 in
theorem vc_Mo_isOuter_0_0 (x1 : Int) (all_0 : Int → Int) (r_0 : Int) (pt_0 : Int → Int) (ph_0 : Int → Int) (pn_0 : Int) (pm_0 : Int) (alive_0 : Int → Int) (k1 : 0 ≤ x1 ∧ x1 ≤ 0) (f2 : PLN (r_0) (pn_0) (pm_0) (all_0) (pt_0) (ph_0) (alive_0)) (kz_0_31 : 0 ≤ pn_0 ∧ pn_0 ≤ 25) (kz_0_32 : 0 ≤ pm_0 ∧ pm_0 ≤ 80) : OUI (r_0) (pn_0) (pm_0) (all_0) (pt_0) (ph_0) (x1) := by
  first
    | exact oui_start ‹PLN _ _ _ _ _ _ _› (by omega)
    | exact oui_step ‹OUI _ _ _ _ _ _ _› (by omega) (by simp only [Int.add_zero] at *; omega) (by omega) (by omega) (by assumption) (by omega) (by omega) (by assumption) (by omega) (by omega)
def o_Mo_isOuter_0 : or_T := (6, 2, [(0, (2, 0, 0, [165])), (1, (0, 0, 0, []))], [(20, [0], [60, 3, 4, 201, 5, 31, 32, 2, 33, 34, 35])], [], [], [(20, [0, 1], [60, 3, 3, 244, 5, 31, 32, 2, 33, 34])], [], [])
theorem oo_Mo_isOuter_0 {kA : Nat → ClassId} : or_ok PRD kA GG o_Mo_isOuter_0 := by
  refine or_mk fun A ta ws vs hD hth hl => ?_
  intro t0 r0 t1 k1 f2
  have kz_0_31 := fdq_145 hD hth r0
  have kz_0_32 := fdq_140 hD hth r0
  have nf0 : fc_1 PRD (20, [0, 1], [60, 3, 3, 244, 5, 31, 32, 2, 33, 34]) ws (vs) := ⟨nf_in hl rfl, sgq_2148 (vc_Mo_isOuter_0_0 (v_iv (n_v vs 1)) (w_ei ws (w_ar ws (n_v vs 0) 2)) (w_fi ws (n_v vs 0) 5) (w_ei ws (w_ar ws (n_v vs 0) 33)) (w_ei ws (w_ar ws (n_v vs 0) 34)) (w_fi ws (n_v vs 0) 31) (w_fi ws (n_v vs 0) 32) (w_ei ws (w_ar ws (n_v vs 0) 35)) k1 (shm_1454 f2) kz_0_31 kz_0_32)⟩
  refine ⟨(fun _ h => (by cases h)), [], trivial, ?_, (fun _ h => (by cases h))⟩
  rw [List.append_nil]
  exact List.forall_mem_cons.mpr ⟨⟨show (20 : Nat) < 100 from by decide, nf0⟩, (fun _ h => (by cases h))⟩
set_option maxHeartbeats 4000000 in
theorem vc_Mo_isOuter_1_r0 (x1 : Int) (x4 : Int) (x6 : Int) (pn_0 : Int) (all_0 : Int → Int) (r_0 : Int) (pt_0 : Int → Int) (ph_0 : Int → Int) (pm_0 : Int) (k1 : 0 ≤ x1 ∧ x1 ≤ 24) (k4 : 0 ≤ x4 ∧ x4 ≤ 25) (k6 : 1 ≤ x6 ∧ x6 ≤ 26) (d0 : x4 + 1 ≤ x6 ∧ x6 ≤ x4 + 1) (g1 : x4 = pn_0) (f5 : OUI (r_0) (pn_0) (pm_0) (all_0) (pt_0) (ph_0) (x1)) (kz_0_31 : 0 ≤ pn_0 ∧ pn_0 ≤ 25) (kz_0_32 : 0 ≤ pm_0 ∧ pm_0 ≤ 80) : 1 ≤ x6 ∧ x6 ≤ 25 := by
  have h := ‹OUI _ _ _ _ _ _ _›.1.1
  have h3 := ‹OUI _ _ _ _ _ _ _›.2.1
  try simp only [Int.add_zero] at *
  omega
def o_Mo_isOuter_1 : or_T := (70, 7, [(0, (2, 0, 0, [165])), (1, (0, 0, 24, [])), (3, (0, 0, 24, [])), (4, (0, 0, 25, [])), (5, (0, 1, 1, [])), (6, (0, 1, 26, []))], [(1, [6, 4, 5], []), (9, [4, 0], [31]), (7, [1, 3], [3]), (20, [3, 0], [30, 0, 1, 0, 0, -1, 3, 2005000]), (20, [3, 0], [30, 0, -1, 0, 0, 1, 3, 2005000]), (20, [0, 1], [60, 3, 3, 244, 5, 31, 32, 2, 33, 34])], [(6, (0, 1, 25, []))], [], [], [], [(6, 4, 1, 1), (1, 3, 0, 4294967296)])
theorem oo_Mo_isOuter_1 {kA : Nat → ClassId} : or_ok PRD kA GG o_Mo_isOuter_1 := by
  refine or_mk fun A ta ws vs hD hth hl => ?_
  intro t0 r0 t1 k1 t3 k3 t4 k4 t5 k5 t6 k6 d0 d1 f0 f1 f2 f3 f4 f5
  replace f1 := shm_577 f1
  have g1 : v_iv (n_v vs 4) = w_fi ws (n_v vs 0) 31 := congrArg v_iv f1
  have kz_0_31 := fdq_145 hD hth r0
  have kz_0_32 := fdq_140 hD hth r0
  have hrf0 : 1 ≤ v_iv (n_v vs 6) ∧ v_iv (n_v vs 6) ≤ 25 := vc_Mo_isOuter_1_r0 (v_iv (n_v vs 1)) (v_iv (n_v vs 4)) (v_iv (n_v vs 6)) (w_fi ws (n_v vs 0) 31) (w_ei ws (w_ar ws (n_v vs 0) 2)) (w_fi ws (n_v vs 0) 5) (w_ei ws (w_ar ws (n_v vs 0) 33)) (w_ei ws (w_ar ws (n_v vs 0) 34)) (w_fi ws (n_v vs 0) 32) k1 k4 k6 d0 g1 (shm_2148 f5) kz_0_31 kz_0_32
  have rf6 : tv_ok ta (0, 1, 25, []) (n_v vs 6) := tv_in t6 (by first | omega | grind) (by first | omega | grind)
  refine ⟨List.forall_mem_cons.mpr ⟨rf6, (fun _ h => (by cases h))⟩, [], trivial, ?_, (fun _ h => (by cases h))⟩
  rw [List.append_nil]
  exact (fun _ h => (by cases h))
set_option maxHeartbeats 4000000 in
theorem vc_Mo_isOuter_2_0 (x1 : Int) (x4 : Int) (x6 : Int) (all_0 : Int → Int) (r_0 : Int) (pn_1 : Int) (all_1 : Int → Int) (pt_1 : Int → Int) (ph_1 : Int → Int) (r_1 : Int) (pm_1 : Int) (pn_0 : Int) (pm_0 : Int) (pt_0 : Int → Int) (ph_0 : Int → Int) (k1 : 0 ≤ x1 ∧ x1 ≤ 24) (k4 : 0 ≤ x4 ∧ x4 ≤ 25) (k6 : 1 ≤ x6 ∧ x6 ≤ 25) (d0 : x4 + 1 ≤ x6 ∧ x6 ≤ x4 + 1) (g4 : x4 = pn_1) (f8 : OUI (r_1) (pn_1) (pm_1) (all_1) (pt_1) (ph_1) (x1)) (fe_0_5_1 : r_0 = r_1) (fe_0_31_1 : pn_0 = x6) (fe_0_32_1 : pm_0 = pm_1) (hE_0_2_1 : ∀ j : Int, all_0 j = all_1 j) (hE_0_33_1 : ∀ j : Int, pt_0 j = pt_1 j) (hE_0_34_1 : ∀ j : Int, ph_0 j = ph_1 j) (kz_0_31 : 0 ≤ pn_0 ∧ pn_0 ≤ 25) (kz_0_32 : 0 ≤ pm_0 ∧ pm_0 ≤ 80) : GOK (pn_0) (pm_0) (pt_0) (ph_0) := by
  subst fe_0_5_1
  subst fe_0_32_1
  have e_hE_0_2_1 := funext hE_0_2_1; subst e_hE_0_2_1
  have e_hE_0_33_1 := funext hE_0_33_1; subst e_hE_0_33_1
  have e_hE_0_34_1 := funext hE_0_34_1; subst e_hE_0_34_1
  have h := ‹OUI _ _ _ _ _ _ _›.2.2.2.1
  first
    | (rw [show pn_0 = pn_1 + 1 by omega]; exact h)
def o_Mo_isOuter_2 : or_T := (74, 7, [(0, (2, 0, 0, [165])), (1, (0, 0, 24, [])), (4, (0, 0, 25, [])), (6, (0, 1, 25, []))], [(101, [0, 6], [31]), (9, [4, 0], [31]), (20, [0, 1], [60, 3, 3, 244, 5, 31, 32, 2, 33, 34])], [], [], [(20, [0], [60, 2, 2, 75, 31, 32, 33, 34])], [], [(6, 4, 1, 1)])
theorem oo_Mo_isOuter_2 {kA : Nat → ClassId} : or_ok PRD kA GG o_Mo_isOuter_2 := by
  refine or_mk fun A ta ws vs hD hth hl => ?_
  intro t0 r0 t1 k1 t4 k4 t6 k6 d0 ta1 w1 le1 s1 f4 f8
  have s1 : (∀ b j, w_el ws b j = w_el w1 b j) ∧ ∀ b j, w_fd ws b j = if b = v_ad (n_v vs 0) ∧ j = 31 then n_v vs 6 else w_fd w1 b j := s1.2
  replace f4 := shm_577 f4
  replace f8 := shm_2148 f8
  have ar_0_2_1 : w_ar w1 (n_v vs 0) 2 = w_ar ws (n_v vs 0) 2 := by show v_ad (w_fd w1 _ _) = v_ad (w_fd ws _ _); rw [s1.2, if_neg (fun e => absurd e.2 (by decide))]
  have ar_0_33_1 : w_ar w1 (n_v vs 0) 33 = w_ar ws (n_v vs 0) 33 := by show v_ad (w_fd w1 _ _) = v_ad (w_fd ws _ _); rw [s1.2, if_neg (fun e => absurd e.2 (by decide))]
  have ar_0_34_1 : w_ar w1 (n_v vs 0) 34 = w_ar ws (n_v vs 0) 34 := by show v_ad (w_fd w1 _ _) = v_ad (w_fd ws _ _); rw [s1.2, if_neg (fun e => absurd e.2 (by decide))]
  have g4 : v_iv (n_v vs 4) = w_fi w1 (n_v vs 0) 31 := congrArg v_iv f4
  simp only [ar_0_2_1, ar_0_33_1, ar_0_34_1] at f8
  have fe_0_5_1 : w_fi ws (n_v vs 0) 5 = w_fi w1 (n_v vs 0) 5 := by show v_iv (w_fd _ _ _) = v_iv (w_fd _ _ _); rw [s1.2, if_neg (fun e => absurd e.2 (by decide))]
  have fe_0_31_1 : w_fi ws (n_v vs 0) 31 = v_iv (n_v vs 6) := by show v_iv (w_fd _ _ _) = _; rw [s1.2, if_pos ⟨rfl, rfl⟩]
  have fe_0_32_1 : w_fi ws (n_v vs 0) 32 = w_fi w1 (n_v vs 0) 32 := by show v_iv (w_fd _ _ _) = v_iv (w_fd _ _ _); rw [s1.2, if_neg (fun e => absurd e.2 (by decide))]
  have hE_0_2_1 : ∀ j : Int, w_ei ws (w_ar ws (n_v vs 0) 2) j = w_ei w1 (w_ar ws (n_v vs 0) 2) j := fun j => s1.1 _ _
  have hE_0_33_1 : ∀ j : Int, w_ei ws (w_ar ws (n_v vs 0) 33) j = w_ei w1 (w_ar ws (n_v vs 0) 33) j := fun j => s1.1 _ _
  have hE_0_34_1 : ∀ j : Int, w_ei ws (w_ar ws (n_v vs 0) 34) j = w_ei w1 (w_ar ws (n_v vs 0) 34) j := fun j => s1.1 _ _
  have kz_0_31 := fdq_145 hD hth r0
  have kz_0_32 := fdq_140 hD hth r0
  have nf0 : fc_1 PRD (20, [0], [60, 2, 2, 75, 31, 32, 33, 34]) ws (vs) := ⟨nf_in hl rfl, sgq_575 (vc_Mo_isOuter_2_0 (v_iv (n_v vs 1)) (v_iv (n_v vs 4)) (v_iv (n_v vs 6)) (w_ei ws (w_ar ws (n_v vs 0) 2)) (w_fi ws (n_v vs 0) 5) (w_fi w1 (n_v vs 0) 31) (w_ei w1 (w_ar ws (n_v vs 0) 2)) (w_ei w1 (w_ar ws (n_v vs 0) 33)) (w_ei w1 (w_ar ws (n_v vs 0) 34)) (w_fi w1 (n_v vs 0) 5) (w_fi w1 (n_v vs 0) 32) (w_fi ws (n_v vs 0) 31) (w_fi ws (n_v vs 0) 32) (w_ei ws (w_ar ws (n_v vs 0) 33)) (w_ei ws (w_ar ws (n_v vs 0) 34)) k1 k4 k6 d0 g4 f8 fe_0_5_1 fe_0_31_1 fe_0_32_1 hE_0_2_1 hE_0_33_1 hE_0_34_1 kz_0_31 kz_0_32)⟩
  refine ⟨(fun _ h => (by cases h)), [], trivial, ?_, (fun _ h => (by cases h))⟩
  rw [List.append_nil]
  exact List.forall_mem_cons.mpr ⟨⟨show (20 : Nat) < 100 from by decide, nf0⟩, (fun _ h => (by cases h))⟩
set_option maxHeartbeats 4000000 in
theorem vc_Mo_isOuter_3_r0 (x1 : Int) (x2 : Int) (pm_0 : Int) (all_0 : Int → Int) (r_0 : Int) (pt_0 : Int → Int) (ph_0 : Int → Int) (pn_0 : Int) (k1 : 0 ≤ x1 ∧ x1 ≤ 23) (k2 : 0 ≤ x2 ∧ x2 ≤ 80) (g0 : x2 = pm_0) (f5 : OUI (r_0) (pn_0) (pm_0) (all_0) (pt_0) (ph_0) (x1)) (kz_0_31 : 0 ≤ pn_0 ∧ pn_0 ≤ 25) (kz_0_32 : 0 ≤ pm_0 ∧ pm_0 ≤ 80) : 0 ≤ x2 ∧ x2 ≤ 71 := by
  have h := ‹OUI _ _ _ _ _ _ _›.1.1
  have h2 := ‹OUI _ _ _ _ _ _ _›.2.2.1
  have h3 := ‹OUI _ _ _ _ _ _ _›.2.1
  try simp only [Int.add_zero] at *
  omega
def o_Mo_isOuter_3 : or_T := (23, 5, [(0, (2, 0, 0, [165])), (1, (0, 0, 23, [])), (2, (0, 0, 80, [])), (3, (0, 1, 24, [])), (4, (2, 0, 0, [180]))], [(9, [2, 0], [32]), (9, [4, 0], [33]), (7, [1, 3], [2]), (20, [3, 0], [30, 0, 1, 0, 0, -1, 3, 2005000]), (20, [3, 0], [30, 0, -1, 0, 0, 1, 3, 2005000]), (20, [0, 1], [60, 3, 3, 244, 5, 31, 32, 2, 33, 34])], [(2, (0, 0, 71, []))], [], [], [], [(1, 3, -4294967296, -1), (1, 2, -4294967296, 0)])
theorem oo_Mo_isOuter_3 {kA : Nat → ClassId} : or_ok PRD kA GG o_Mo_isOuter_3 := by
  refine or_mk fun A ta ws vs hD hth hl => ?_
  intro t0 r0 t1 k1 t2 k2 t3 k3 t4 r4 d0 d1 f0 f1 f2 f3 f4 f5
  replace f0 := shm_525 f0
  have g0 : v_iv (n_v vs 2) = w_fi ws (n_v vs 0) 32 := congrArg v_iv f0
  have kz_0_31 := fdq_145 hD hth r0
  have kz_0_32 := fdq_140 hD hth r0
  have hrf0 : 0 ≤ v_iv (n_v vs 2) ∧ v_iv (n_v vs 2) ≤ 71 := vc_Mo_isOuter_3_r0 (v_iv (n_v vs 1)) (v_iv (n_v vs 2)) (w_fi ws (n_v vs 0) 32) (w_ei ws (w_ar ws (n_v vs 0) 2)) (w_fi ws (n_v vs 0) 5) (w_ei ws (w_ar ws (n_v vs 0) 33)) (w_ei ws (w_ar ws (n_v vs 0) 34)) (w_fi ws (n_v vs 0) 31) k1 k2 g0 (shm_2148 f5) kz_0_31 kz_0_32
  have rf2 : tv_ok ta (0, 0, 71, []) (n_v vs 2) := tv_in t2 (by first | omega | grind) (by first | omega | grind)
  refine ⟨List.forall_mem_cons.mpr ⟨rf2, (fun _ h => (by cases h))⟩, [], trivial, ?_, (fun _ h => (by cases h))⟩
  rw [List.append_nil]
  exact (fun _ h => (by cases h))
set_option maxHeartbeats 4000000 in
theorem vc_Mo_isOuter_4_r0 (x1 : Int) (x3 : Int) (x6 : Int) (pn_0 : Int) (pm_0 : Int) (all_0 : Int → Int) (r_0 : Int) (all_1 : Int → Int) (pt_1 : Int → Int) (ph_1 : Int → Int) (r_1 : Int) (pn_1 : Int) (pm_1 : Int) (ph_0 : Int → Int) (k1 : 0 ≤ x1 ∧ x1 ≤ 23) (k3 : 1 ≤ x3 ∧ x3 ≤ 24) (k6 : 0 ≤ x6 ∧ x6 ≤ 25) (g0 : x6 = pn_0) (f3 : 1 * x3 + ((-1) * all_0 (r_0 + 0) + 0) ≤ 0) (f4 : (-1) * x3 + (1 * all_0 (r_0 + 0) + 0) ≤ 0) (f10 : OUI (r_1) (pn_1) (pm_1) (all_1) (pt_1) (ph_1) (x1)) (fe_0_5_1 : r_0 = r_1) (fe_0_31_1 : pn_0 = pn_1) (fe_0_32_1 : pm_0 = pm_1) (hE_0_2_1 : ∀ j : Int, all_0 j = all_1 j) (hE_0_34_1 : ∀ j : Int, ph_0 j = ph_1 j) (kz_0_31 : 0 ≤ pn_0 ∧ pn_0 ≤ 25) (kz_0_32 : 0 ≤ pm_0 ∧ pm_0 ≤ 80) : 0 ≤ x6 ∧ x6 ≤ 24 := by
  subst fe_0_5_1
  subst fe_0_31_1
  subst fe_0_32_1
  have e_hE_0_2_1 := funext hE_0_2_1; subst e_hE_0_2_1
  have e_hE_0_34_1 := funext hE_0_34_1; subst e_hE_0_34_1
  have h := ‹OUI _ _ _ _ _ _ _›.1.1
  have h2 := ‹OUI _ _ _ _ _ _ _›.2.2.1
  have h3 := ‹OUI _ _ _ _ _ _ _›.2.1
  try simp only [Int.add_zero] at *
  omega
def o_Mo_isOuter_4 : or_T := (36, 7, [(0, (2, 0, 0, [165])), (1, (0, 0, 23, [])), (2, (0, 0, 71, [])), (3, (0, 1, 24, [])), (4, (2, 0, 0, [180])), (5, (2, 0, 0, [181])), (6, (0, 0, 25, []))], [(9, [6, 0], [31]), (9, [2, 0], [32]), (9, [5, 0], [34]), (20, [3, 0], [30, 0, 1, 0, 0, -1, 3, 2005000]), (20, [3, 0], [30, 0, -1, 0, 0, 1, 3, 2005000]), (100, [4, 2, 1], []), (9, [4, 0], [33]), (7, [1, 3], [2]), (20, [3, 0], [30, 0, 1, 0, 0, -1, 3, 2005000]), (20, [3, 0], [30, 0, -1, 0, 0, 1, 3, 2005000]), (20, [0, 1], [60, 3, 3, 244, 5, 31, 32, 2, 33, 34])], [(6, (0, 0, 24, []))], [], [], [], [(1, 3, -4294967296, -1), (1, 2, -4294967296, 0)])
theorem oo_Mo_isOuter_4 {kA : Nat → ClassId} : or_ok PRD kA GG o_Mo_isOuter_4 := by
  refine or_mk fun A ta ws vs hD hth hl => ?_
  intro t0 r0 t1 k1 t2 k2 t3 k3 t4 r4 t5 r5 t6 k6 d0 d1 f0 f1 f2 f3 f4 ta1 w1 le1 s1 f6 f7 f8 f9 f10
  replace f0 := shm_577 f0
  have s1 : (∀ b j, w_el ws b j = if b = v_ad (n_v vs 4) ∧ j = (v_iv (n_v vs 2)).toNat then v_iv (n_v vs 1) else w_el w1 b j) ∧ ∀ b k, w_fd ws b k = w_fd w1 b k := s1.2
  replace f10 := shm_2148 f10
  have ar_0_2_1 : w_ar w1 (n_v vs 0) 2 = w_ar ws (n_v vs 0) 2 := congrArg v_ad (s1.2 _ _).symm
  have cr_0_2 := fdq_10 hD hth r0
  have ar_0_33_1 : w_ar w1 (n_v vs 0) 33 = w_ar ws (n_v vs 0) 33 := congrArg v_ad (s1.2 _ _).symm
  have ar_0_34_1 : w_ar w1 (n_v vs 0) 34 = w_ar ws (n_v vs 0) 34 := congrArg v_ad (s1.2 _ _).symm
  have cr_0_34 := fdq_118 hD hth r0
  have g0 : v_iv (n_v vs 6) = w_fi ws (n_v vs 0) 31 := congrArg v_iv f0
  simp only [ar_0_2_1, ar_0_33_1, ar_0_34_1] at f10
  have fe_0_5_1 : w_fi ws (n_v vs 0) 5 = w_fi w1 (n_v vs 0) 5 := congrArg v_iv (s1.2 _ _)
  have fe_0_31_1 : w_fi ws (n_v vs 0) 31 = w_fi w1 (n_v vs 0) 31 := congrArg v_iv (s1.2 _ _)
  have fe_0_32_1 : w_fi ws (n_v vs 0) 32 = w_fi w1 (n_v vs 0) 32 := congrArg v_iv (s1.2 _ _)
  have hE_0_2_1 : ∀ j : Int, w_ei ws (w_ar ws (n_v vs 0) 2) j = w_ei w1 (w_ar ws (n_v vs 0) 2) j := el_kp s1.1 r4 cr_0_2 (by decide)
  have hE_0_34_1 : ∀ j : Int, w_ei ws (w_ar ws (n_v vs 0) 34) j = w_ei w1 (w_ar ws (n_v vs 0) 34) j := el_kp s1.1 r4 cr_0_34 (by decide)
  have kz_0_31 := fdq_145 hD hth r0
  have kz_0_32 := fdq_140 hD hth r0
  have hrf0 : 0 ≤ v_iv (n_v vs 6) ∧ v_iv (n_v vs 6) ≤ 24 := vc_Mo_isOuter_4_r0 (v_iv (n_v vs 1)) (v_iv (n_v vs 3)) (v_iv (n_v vs 6)) (w_fi ws (n_v vs 0) 31) (w_fi ws (n_v vs 0) 32) (w_ei ws (w_ar ws (n_v vs 0) 2)) (w_fi ws (n_v vs 0) 5) (w_ei w1 (w_ar ws (n_v vs 0) 2)) (w_ei w1 (w_ar ws (n_v vs 0) 33)) (w_ei w1 (w_ar ws (n_v vs 0) 34)) (w_fi w1 (n_v vs 0) 5) (w_fi w1 (n_v vs 0) 31) (w_fi w1 (n_v vs 0) 32) (w_ei ws (w_ar ws (n_v vs 0) 34)) k1 k3 k6 g0 (shm_126 f3) (shm_127 f4) f10 fe_0_5_1 fe_0_31_1 fe_0_32_1 hE_0_2_1 hE_0_34_1 kz_0_31 kz_0_32
  have rf6 : tv_ok ta (0, 0, 24, []) (n_v vs 6) := tv_in t6 (by first | omega | grind) (by first | omega | grind)
  refine ⟨List.forall_mem_cons.mpr ⟨rf6, (fun _ h => (by cases h))⟩, [], trivial, ?_, (fun _ h => (by cases h))⟩
  rw [List.append_nil]
  exact (fun _ h => (by cases h))
set_option maxHeartbeats 4000000 in
theorem vc_Mo_isOuter_5_0 (x1 : Int) (x2 : Int) (x3 : Int) (x6 : Int) (x10 : Int) (x11 : Int) (all_0 : Int → Int) (r_0 : Int) (pm_1 : Int) (all_1 : Int → Int) (all_2 : Int → Int) (pn_3 : Int) (all_3 : Int → Int) (all_4 : Int → Int) (pt_4 : Int → Int) (ph_4 : Int → Int) (r_4 : Int) (pn_4 : Int) (pm_4 : Int) (r_1 : Int) (pn_0 : Int) (pn_1 : Int) (pm_0 : Int) (r_2 : Int) (pn_2 : Int) (pm_2 : Int) (r_3 : Int) (pm_3 : Int) (pt_0 : Int → Int) (pt_1 : Int → Int) (pt_2 : Int → Int) (pt_3 : Int → Int) (ph_0 : Int → Int) (ph_1 : Int → Int) (ph_2 : Int → Int) (ph_3 : Int → Int) (alive_0 : Int → Int) (alive_1 : Int → Int) (alive_2 : Int → Int) (alive_3 : Int → Int) (alive_4 : Int → Int) (k1 : 0 ≤ x1 ∧ x1 ≤ 23) (k2 : 0 ≤ x2 ∧ x2 ≤ 71) (k3 : 1 ≤ x3 ∧ x3 ≤ 24) (k6 : 0 ≤ x6 ∧ x6 ≤ 24) (k10 : 1 ≤ x10 ∧ x10 ≤ 72) (k11 : 1 ≤ x11 ∧ x11 ≤ 24) (d0 : x1 + 1 ≤ x11 ∧ x11 ≤ x1 + 1) (d3 : x2 + 1 ≤ x10 ∧ x10 ≤ x2 + 1) (d4 : x3 + (-4294967296) ≤ x1 ∧ x1 ≤ x3 + (-1)) (f0 : x11 = x1 + 1) (f1 : 1 * x3 + ((-1) * all_0 (r_0 + 0) + 0) ≤ 0) (f2 : (-1) * x3 + (1 * all_0 (r_0 + 0) + 0) ≤ 0) (g5 : x2 = pm_1) (g13 : x6 = pn_3) (f22 : OUI (r_4) (pn_4) (pm_4) (all_4) (pt_4) (ph_4) (x1)) (fe_0_5_1 : r_0 = r_1) (fe_0_31_1 : pn_0 = pn_1) (fe_0_32_1 : pm_0 = x10) (fe_0_5_2 : r_1 = r_2) (fe_0_31_2 : pn_1 = pn_2) (fe_0_32_2 : pm_1 = pm_2) (fe_0_5_3 : r_2 = r_3) (fe_0_31_3 : pn_2 = pn_3) (fe_0_32_3 : pm_2 = pm_3) (fe_0_5_4 : r_3 = r_4) (fe_0_31_4 : pn_3 = pn_4) (fe_0_32_4 : pm_3 = pm_4) (hE_0_2_1 : ∀ j : Int, all_0 j = all_1 j) (hE_0_2_2 : ∀ j : Int, all_1 j = all_2 j) (hE_0_2_3 : ∀ j : Int, all_2 j = all_3 j) (hE_0_2_4 : ∀ j : Int, all_3 j = all_4 j) (hE_0_33_1 : ∀ j : Int, pt_0 j = pt_1 j) (hE_0_33_2 : ∀ j : Int, pt_1 j = pt_2 j) (hE_0_33_3 : ∀ j : Int, pt_2 j = pt_3 j) (hE_0_33_4 : ∀ j : Int, 0 ≤ j → (j = x2 → pt_3 j = x1) ∧ (j ≠ x2 → pt_3 j = pt_4 j)) (hE_0_34_1 : ∀ j : Int, ph_0 j = ph_1 j) (hE_0_34_2 : ∀ j : Int, ph_1 j = ph_2 j) (hE_0_34_3 : ∀ j : Int, 0 ≤ j → (j = x2 → ph_2 j = x6) ∧ (j ≠ x2 → ph_2 j = ph_3 j)) (hE_0_34_4 : ∀ j : Int, ph_3 j = ph_4 j) (hE_0_35_1 : ∀ j : Int, alive_0 j = alive_1 j) (hE_0_35_3 : ∀ j : Int, alive_2 j = alive_3 j) (hE_0_35_4 : ∀ j : Int, alive_3 j = alive_4 j) (kz_0_31 : 0 ≤ pn_0 ∧ pn_0 ≤ 25) (kz_0_32 : 0 ≤ pm_0 ∧ pm_0 ≤ 80) : OUI (r_0) (pn_0) (pm_0) (all_0) (pt_0) (ph_0) (x11) := by
  subst fe_0_5_1
  subst fe_0_31_1
  subst fe_0_5_2
  subst fe_0_31_2
  subst fe_0_32_2
  subst fe_0_5_3
  subst fe_0_31_3
  subst fe_0_32_3
  subst fe_0_5_4
  subst fe_0_31_4
  subst fe_0_32_4
  have e_hE_0_2_1 := funext hE_0_2_1; subst e_hE_0_2_1
  have e_hE_0_2_2 := funext hE_0_2_2; subst e_hE_0_2_2
  have e_hE_0_2_3 := funext hE_0_2_3; subst e_hE_0_2_3
  have e_hE_0_2_4 := funext hE_0_2_4; subst e_hE_0_2_4
  have e_hE_0_33_1 := funext hE_0_33_1; subst e_hE_0_33_1
  have e_hE_0_33_2 := funext hE_0_33_2; subst e_hE_0_33_2
  have e_hE_0_33_3 := funext hE_0_33_3; subst e_hE_0_33_3
  have e_hE_0_34_1 := funext hE_0_34_1; subst e_hE_0_34_1
  have e_hE_0_34_2 := funext hE_0_34_2; subst e_hE_0_34_2
  have e_hE_0_34_4 := funext hE_0_34_4; subst e_hE_0_34_4
  have e_hE_0_35_1 := funext hE_0_35_1; subst e_hE_0_35_1
  have e_hE_0_35_3 := funext hE_0_35_3; subst e_hE_0_35_3
  have e_hE_0_35_4 := funext hE_0_35_4; subst e_hE_0_35_4
  first
    | exact oui_start ‹PLN _ _ _ _ _ _ _› (by omega)
    | exact oui_step ‹OUI _ _ _ _ _ _ _› (by omega) (by simp only [Int.add_zero] at *; omega) (by omega) (by omega) (by assumption) (by omega) (by omega) (by assumption) (by omega) (by omega)
def o_Mo_isOuter_5 : or_T := (6, 12, [(0, (2, 0, 0, [165])), (1, (0, 0, 23, [])), (2, (0, 0, 71, [])), (3, (0, 1, 24, [])), (4, (2, 0, 0, [180])), (5, (2, 0, 0, [181])), (6, (0, 0, 24, [])), (7, (2, 0, 0, [182])), (10, (0, 1, 72, [])), (11, (0, 1, 24, []))], [(6, [11, 1], [1]), (20, [3, 0], [30, 0, 1, 0, 0, -1, 3, 2005000]), (20, [3, 0], [30, 0, -1, 0, 0, 1, 3, 2005000]), (101, [0, 10], [32]), (9, [2, 0], [32]), (100, [7, 2, 8], []), (100, [5, 2, 6], []), (9, [6, 0], [31]), (9, [5, 0], [34]), (100, [4, 2, 1], []), (9, [4, 0], [33]), (20, [0, 1], [60, 3, 3, 244, 5, 31, 32, 2, 33, 34])], [], [], [(20, [0, 11], [60, 3, 3, 244, 5, 31, 32, 2, 33, 34])], [], [(11, 1, 1, 1), (11, 2, -4294967296, 1), (10, 2, 1, 1), (1, 3, -4294967296, -1), (1, 2, -4294967296, 0)])
theorem oo_Mo_isOuter_5 {kA : Nat → ClassId} : or_ok PRD kA GG o_Mo_isOuter_5 := by
  refine or_mk fun A ta ws vs hD hth hl => ?_
  intro t0 r0 t1 k1 t2 k2 t3 k3 t4 r4 t5 r5 t6 k6 t7 r7 t10 k10 t11 k11 d0 d2 d3 d4 d5 f0 f1 f2 ta1 w1 le1 s1 f5 ta2 w2 le2 s2 ta3 w3 le3 s3 f13 f14 ta4 w4 le4 s4 f18 f22
  have s1 : (∀ b j, w_el ws b j = w_el w1 b j) ∧ ∀ b j, w_fd ws b j = if b = v_ad (n_v vs 0) ∧ j = 32 then n_v vs 10 else w_fd w1 b j := s1.2
  replace f5 := shm_525 f5
  have s2 : (∀ b j, w_el w1 b j = if b = v_ad (n_v vs 7) ∧ j = (v_iv (n_v vs 2)).toNat then v_iv (n_v vs 8) else w_el w2 b j) ∧ ∀ b k, w_fd w1 b k = w_fd w2 b k := s2.2
  have s3 : (∀ b j, w_el w2 b j = if b = v_ad (n_v vs 5) ∧ j = (v_iv (n_v vs 2)).toNat then v_iv (n_v vs 6) else w_el w3 b j) ∧ ∀ b k, w_fd w2 b k = w_fd w3 b k := s3.2
  replace f13 := shm_577 f13
  replace f14 := shm_496 f14
  have s4 : (∀ b j, w_el w3 b j = if b = v_ad (n_v vs 4) ∧ j = (v_iv (n_v vs 2)).toNat then v_iv (n_v vs 1) else w_el w4 b j) ∧ ∀ b k, w_fd w3 b k = w_fd w4 b k := s4.2
  replace f18 := shm_494 f18
  replace f22 := shm_2148 f22
  have ar_0_2_1 : w_ar w1 (n_v vs 0) 2 = w_ar ws (n_v vs 0) 2 := by show v_ad (w_fd w1 _ _) = v_ad (w_fd ws _ _); rw [s1.2, if_neg (fun e => absurd e.2 (by decide))]
  have ar_0_2_2 : w_ar w2 (n_v vs 0) 2 = w_ar ws (n_v vs 0) 2 := by rw [← ar_0_2_1]; show v_ad (w_fd w2 _ _) = v_ad (w_fd w1 _ _); rw [s2.2]
  have ar_0_2_3 : w_ar w3 (n_v vs 0) 2 = w_ar ws (n_v vs 0) 2 := by rw [← ar_0_2_2]; show v_ad (w_fd w3 _ _) = v_ad (w_fd w2 _ _); rw [s3.2]
  have ar_0_2_4 : w_ar w4 (n_v vs 0) 2 = w_ar ws (n_v vs 0) 2 := by rw [← ar_0_2_3]; show v_ad (w_fd w4 _ _) = v_ad (w_fd w3 _ _); rw [s4.2]
  have cr_0_2 := fdq_10 hD hth r0
  have ar_0_33_1 : w_ar w1 (n_v vs 0) 33 = w_ar ws (n_v vs 0) 33 := by show v_ad (w_fd w1 _ _) = v_ad (w_fd ws _ _); rw [s1.2, if_neg (fun e => absurd e.2 (by decide))]
  have ar_0_33_2 : w_ar w2 (n_v vs 0) 33 = w_ar ws (n_v vs 0) 33 := by rw [← ar_0_33_1]; show v_ad (w_fd w2 _ _) = v_ad (w_fd w1 _ _); rw [s2.2]
  have ar_0_33_3 : w_ar w3 (n_v vs 0) 33 = w_ar ws (n_v vs 0) 33 := by rw [← ar_0_33_2]; show v_ad (w_fd w3 _ _) = v_ad (w_fd w2 _ _); rw [s3.2]
  have ar_0_33_4 : w_ar w4 (n_v vs 0) 33 = w_ar ws (n_v vs 0) 33 := by rw [← ar_0_33_3]; show v_ad (w_fd w4 _ _) = v_ad (w_fd w3 _ _); rw [s4.2]
  have cr_0_33 := fdq_117 hD hth r0
  have ar_0_34_1 : w_ar w1 (n_v vs 0) 34 = w_ar ws (n_v vs 0) 34 := by show v_ad (w_fd w1 _ _) = v_ad (w_fd ws _ _); rw [s1.2, if_neg (fun e => absurd e.2 (by decide))]
  have ar_0_34_2 : w_ar w2 (n_v vs 0) 34 = w_ar ws (n_v vs 0) 34 := by rw [← ar_0_34_1]; show v_ad (w_fd w2 _ _) = v_ad (w_fd w1 _ _); rw [s2.2]
  have ar_0_34_3 : w_ar w3 (n_v vs 0) 34 = w_ar ws (n_v vs 0) 34 := by rw [← ar_0_34_2]; show v_ad (w_fd w3 _ _) = v_ad (w_fd w2 _ _); rw [s3.2]
  have ar_0_34_4 : w_ar w4 (n_v vs 0) 34 = w_ar ws (n_v vs 0) 34 := by rw [← ar_0_34_3]; show v_ad (w_fd w4 _ _) = v_ad (w_fd w3 _ _); rw [s4.2]
  have cr_0_34 := fdq_118 hD hth r0
  have cr_0_35 := fdq_132 hD hth r0
  have ad_5 : v_ad (n_v vs 5) = w_ar ws (n_v vs 0) 34 := (congrArg v_ad f14).trans ar_0_34_3
  have ad_4 : v_ad (n_v vs 4) = w_ar ws (n_v vs 0) 33 := (congrArg v_ad f18).trans ar_0_33_4
  have g5 : v_iv (n_v vs 2) = w_fi w1 (n_v vs 0) 32 := congrArg v_iv f5
  have g13 : v_iv (n_v vs 6) = w_fi w3 (n_v vs 0) 31 := congrArg v_iv f13
  simp only [ar_0_2_3, ar_0_2_4, ar_0_33_4, ar_0_34_4] at f22
  have fe_0_5_1 : w_fi ws (n_v vs 0) 5 = w_fi w1 (n_v vs 0) 5 := by show v_iv (w_fd _ _ _) = v_iv (w_fd _ _ _); rw [s1.2, if_neg (fun e => absurd e.2 (by decide))]
  have fe_0_31_1 : w_fi ws (n_v vs 0) 31 = w_fi w1 (n_v vs 0) 31 := by show v_iv (w_fd _ _ _) = v_iv (w_fd _ _ _); rw [s1.2, if_neg (fun e => absurd e.2 (by decide))]
  have fe_0_32_1 : w_fi ws (n_v vs 0) 32 = v_iv (n_v vs 10) := by show v_iv (w_fd _ _ _) = _; rw [s1.2, if_pos ⟨rfl, rfl⟩]
  have fe_0_5_2 : w_fi w1 (n_v vs 0) 5 = w_fi w2 (n_v vs 0) 5 := congrArg v_iv (s2.2 _ _)
  have fe_0_31_2 : w_fi w1 (n_v vs 0) 31 = w_fi w2 (n_v vs 0) 31 := congrArg v_iv (s2.2 _ _)
  have fe_0_32_2 : w_fi w1 (n_v vs 0) 32 = w_fi w2 (n_v vs 0) 32 := congrArg v_iv (s2.2 _ _)
  have fe_0_5_3 : w_fi w2 (n_v vs 0) 5 = w_fi w3 (n_v vs 0) 5 := congrArg v_iv (s3.2 _ _)
  have fe_0_31_3 : w_fi w2 (n_v vs 0) 31 = w_fi w3 (n_v vs 0) 31 := congrArg v_iv (s3.2 _ _)
  have fe_0_32_3 : w_fi w2 (n_v vs 0) 32 = w_fi w3 (n_v vs 0) 32 := congrArg v_iv (s3.2 _ _)
  have fe_0_5_4 : w_fi w3 (n_v vs 0) 5 = w_fi w4 (n_v vs 0) 5 := congrArg v_iv (s4.2 _ _)
  have fe_0_31_4 : w_fi w3 (n_v vs 0) 31 = w_fi w4 (n_v vs 0) 31 := congrArg v_iv (s4.2 _ _)
  have fe_0_32_4 : w_fi w3 (n_v vs 0) 32 = w_fi w4 (n_v vs 0) 32 := congrArg v_iv (s4.2 _ _)
  have hE_0_2_1 : ∀ j : Int, w_ei ws (w_ar ws (n_v vs 0) 2) j = w_ei w1 (w_ar ws (n_v vs 0) 2) j := fun j => s1.1 _ _
  have hE_0_2_2 : ∀ j : Int, w_ei w1 (w_ar ws (n_v vs 0) 2) j = w_ei w2 (w_ar ws (n_v vs 0) 2) j := el_kp s2.1 r7 cr_0_2 (by decide)
  have hE_0_2_3 : ∀ j : Int, w_ei w2 (w_ar ws (n_v vs 0) 2) j = w_ei w3 (w_ar ws (n_v vs 0) 2) j := el_kp s3.1 r5 cr_0_2 (by decide)
  have hE_0_2_4 : ∀ j : Int, w_ei w3 (w_ar ws (n_v vs 0) 2) j = w_ei w4 (w_ar ws (n_v vs 0) 2) j := el_kp s4.1 r4 cr_0_2 (by decide)
  have hE_0_33_1 : ∀ j : Int, w_ei ws (w_ar ws (n_v vs 0) 33) j = w_ei w1 (w_ar ws (n_v vs 0) 33) j := fun j => s1.1 _ _
  have hE_0_33_2 : ∀ j : Int, w_ei w1 (w_ar ws (n_v vs 0) 33) j = w_ei w2 (w_ar ws (n_v vs 0) 33) j := el_kp s2.1 r7 cr_0_33 (by decide)
  have hE_0_33_3 : ∀ j : Int, w_ei w2 (w_ar ws (n_v vs 0) 33) j = w_ei w3 (w_ar ws (n_v vs 0) 33) j := el_kp s3.1 r5 cr_0_33 (by decide)
  have hE_0_33_4 : ∀ j : Int, 0 ≤ j → (j = v_iv (n_v vs 2) → w_ei w3 (w_ar ws (n_v vs 0) 33) j = v_iv (n_v vs 1)) ∧ (j ≠ v_iv (n_v vs 2) → w_ei w3 (w_ar ws (n_v vs 0) 33) j = w_ei w4 (w_ar ws (n_v vs 0) 33) j) := fun j hj => ⟨fun h => by unfold w_ei; rw [s4.1, if_pos ⟨ad_4.symm, by rw [h]⟩], fun h => by unfold w_ei; rw [s4.1, if_neg (fun e => h (by have := e.2; omega))]⟩
  have hE_0_34_1 : ∀ j : Int, w_ei ws (w_ar ws (n_v vs 0) 34) j = w_ei w1 (w_ar ws (n_v vs 0) 34) j := fun j => s1.1 _ _
  have hE_0_34_2 : ∀ j : Int, w_ei w1 (w_ar ws (n_v vs 0) 34) j = w_ei w2 (w_ar ws (n_v vs 0) 34) j := el_kp s2.1 r7 cr_0_34 (by decide)
  have hE_0_34_3 : ∀ j : Int, 0 ≤ j → (j = v_iv (n_v vs 2) → w_ei w2 (w_ar ws (n_v vs 0) 34) j = v_iv (n_v vs 6)) ∧ (j ≠ v_iv (n_v vs 2) → w_ei w2 (w_ar ws (n_v vs 0) 34) j = w_ei w3 (w_ar ws (n_v vs 0) 34) j) := fun j hj => ⟨fun h => by unfold w_ei; rw [s3.1, if_pos ⟨ad_5.symm, by rw [h]⟩], fun h => by unfold w_ei; rw [s3.1, if_neg (fun e => h (by have := e.2; omega))]⟩
  have hE_0_34_4 : ∀ j : Int, w_ei w3 (w_ar ws (n_v vs 0) 34) j = w_ei w4 (w_ar ws (n_v vs 0) 34) j := el_kp s4.1 r4 cr_0_34 (by decide)
  have hE_0_35_1 : ∀ j : Int, w_ei ws (w_ar ws (n_v vs 0) 35) j = w_ei w1 (w_ar ws (n_v vs 0) 35) j := fun j => s1.1 _ _
  have hE_0_35_3 : ∀ j : Int, w_ei w2 (w_ar ws (n_v vs 0) 35) j = w_ei w3 (w_ar ws (n_v vs 0) 35) j := el_kp s3.1 r5 cr_0_35 (by decide)
  have hE_0_35_4 : ∀ j : Int, w_ei w3 (w_ar ws (n_v vs 0) 35) j = w_ei w4 (w_ar ws (n_v vs 0) 35) j := el_kp s4.1 r4 cr_0_35 (by decide)
  have kz_0_31 := fdq_145 hD hth r0
  have kz_0_32 := fdq_140 hD hth r0
  have nf0 : fc_1 PRD (20, [0, 11], [60, 3, 3, 244, 5, 31, 32, 2, 33, 34]) ws (vs) := ⟨nf_in hl rfl, sgq_2148 (vc_Mo_isOuter_5_0 (v_iv (n_v vs 1)) (v_iv (n_v vs 2)) (v_iv (n_v vs 3)) (v_iv (n_v vs 6)) (v_iv (n_v vs 10)) (v_iv (n_v vs 11)) (w_ei ws (w_ar ws (n_v vs 0) 2)) (w_fi ws (n_v vs 0) 5) (w_fi w1 (n_v vs 0) 32) (w_ei w1 (w_ar ws (n_v vs 0) 2)) (w_ei w2 (w_ar ws (n_v vs 0) 2)) (w_fi w3 (n_v vs 0) 31) (w_ei w3 (w_ar ws (n_v vs 0) 2)) (w_ei w4 (w_ar ws (n_v vs 0) 2)) (w_ei w4 (w_ar ws (n_v vs 0) 33)) (w_ei w4 (w_ar ws (n_v vs 0) 34)) (w_fi w4 (n_v vs 0) 5) (w_fi w4 (n_v vs 0) 31) (w_fi w4 (n_v vs 0) 32) (w_fi w1 (n_v vs 0) 5) (w_fi ws (n_v vs 0) 31) (w_fi w1 (n_v vs 0) 31) (w_fi ws (n_v vs 0) 32) (w_fi w2 (n_v vs 0) 5) (w_fi w2 (n_v vs 0) 31) (w_fi w2 (n_v vs 0) 32) (w_fi w3 (n_v vs 0) 5) (w_fi w3 (n_v vs 0) 32) (w_ei ws (w_ar ws (n_v vs 0) 33)) (w_ei w1 (w_ar ws (n_v vs 0) 33)) (w_ei w2 (w_ar ws (n_v vs 0) 33)) (w_ei w3 (w_ar ws (n_v vs 0) 33)) (w_ei ws (w_ar ws (n_v vs 0) 34)) (w_ei w1 (w_ar ws (n_v vs 0) 34)) (w_ei w2 (w_ar ws (n_v vs 0) 34)) (w_ei w3 (w_ar ws (n_v vs 0) 34)) (w_ei ws (w_ar ws (n_v vs 0) 35)) (w_ei w1 (w_ar ws (n_v vs 0) 35)) (w_ei w2 (w_ar ws (n_v vs 0) 35)) (w_ei w3 (w_ar ws (n_v vs 0) 35)) (w_ei w4 (w_ar ws (n_v vs 0) 35)) k1 k2 k3 k6 k10 k11 d0 d3 d4 (shm_4 f0) (shm_126 f1) (shm_127 f2) g5 g13 f22 fe_0_5_1 fe_0_31_1 fe_0_32_1 fe_0_5_2 fe_0_31_2 fe_0_32_2 fe_0_5_3 fe_0_31_3 fe_0_32_3 fe_0_5_4 fe_0_31_4 fe_0_32_4 hE_0_2_1 hE_0_2_2 hE_0_2_3 hE_0_2_4 hE_0_33_1 hE_0_33_2 hE_0_33_3 hE_0_33_4 hE_0_34_1 hE_0_34_2 hE_0_34_3 hE_0_34_4 hE_0_35_1 hE_0_35_3 hE_0_35_4 kz_0_31 kz_0_32)⟩
  refine ⟨(fun _ h => (by cases h)), [], trivial, ?_, (fun _ h => (by cases h))⟩
  rw [List.append_nil]
  exact List.forall_mem_cons.mpr ⟨⟨show (20 : Nat) < 100 from by decide, nf0⟩, (fun _ h => (by cases h))⟩
def n_Mo_isOuter_an : List an_T := [(6, [(0, (2, 0, 0, [165])), (1, (0, 0, 24, []))], [], (0, 0), [(0, 0, 99994), (1, 1, 24), (0, 0, 100000)], [(1, 2, (Int.negSucc 999999999999), 0)], [((0, 32), (0, 0, 80, []))], [], 0, [], [(20, [0, 1], [60, 3, 3, 244, 5, 31, 32, 2, 33, 34])])]
def t_Mo_isOuter_ct : ct_L := [(1, 475, e_Mo_nodes), (1, 689, e_Mo_plane), (1, 692, e_Mo_embed)]
set_option maxRecDepth 100000 in
theorem c_Mo_isOuter {l : Launch} {D : va_G} {kA : Nat → ClassId} (h_Mo_embed : ct_ok PRD l D kA GG y_Mo_embed z_Mo_embed e_Mo_embed) (h_Mo_nodes : ct_ok PRD l D kA GG y_Mo_nodes z_Mo_nodes e_Mo_nodes) (h_Mo_plane : ct_ok PRD l D kA GG y_Mo_plane z_Mo_plane e_Mo_plane) : ct_ok PRD l D kA GG y_Mo_isOuter z_Mo_isOuter e_Mo_isOuter := chk_all_ok (FT := [(57, 13, 33), (60, 13, 34), (63, 13, 35), (594, 13, 31), (597, 13, 32)]) (PT := [(594, 13, 31, .int), (597, 13, 32, .int)]) (CT := t_Mo_isOuter_ct) (KT := []) (NT := []) (AN := n_Mo_isOuter_an) (OT := [o_Mo_isOuter_0, o_Mo_isOuter_1, o_Mo_isOuter_2, o_Mo_isOuter_3, o_Mo_isOuter_4, o_Mo_isOuter_5]) 3 200 (List.forall_mem_cons.mpr ⟨oo_Mo_isOuter_0, List.forall_mem_cons.mpr ⟨oo_Mo_isOuter_1, List.forall_mem_cons.mpr ⟨oo_Mo_isOuter_2, List.forall_mem_cons.mpr ⟨oo_Mo_isOuter_3, List.forall_mem_cons.mpr ⟨oo_Mo_isOuter_4, List.forall_mem_cons.mpr ⟨oo_Mo_isOuter_5, List.forall_mem_nil _⟩⟩⟩⟩⟩⟩) (by decide +kernel) ⟨List.forall_mem_cons.mpr ⟨gf_Mo_57, List.forall_mem_cons.mpr ⟨gf_Mo_60, List.forall_mem_cons.mpr ⟨gf_Mo_63, List.forall_mem_cons.mpr ⟨gf_Mo_594, List.forall_mem_cons.mpr ⟨gf_Mo_597, List.forall_mem_nil _⟩⟩⟩⟩⟩, List.forall_mem_cons.mpr ⟨pf_Mo_594, List.forall_mem_cons.mpr ⟨pf_Mo_597, List.forall_mem_nil _⟩⟩, List.forall_mem_cons.mpr ⟨cl_virtual (y := y_Mo_nodes) (ci := 13) rfl rfl ⟨_, _, rfl⟩ (by decide +kernel) h_Mo_nodes wm_3025 wm_9 wm_3022 wm_3024 wv_13_3 ⟨by decide, by decide, by decide +kernel⟩ (by decide), List.forall_mem_cons.mpr ⟨cl_virtual (y := y_Mo_plane) (ci := 13) rfl rfl ⟨_, _, rfl⟩ (by decide +kernel) h_Mo_plane wm_3147 wm_9 wm_3144 wm_3146 wv_14_12 ⟨by decide, by decide, by decide +kernel⟩ (by decide), List.forall_mem_cons.mpr ⟨cl_virtual (y := y_Mo_embed) (ci := 13) rfl rfl ⟨_, _, rfl⟩ (by decide +kernel) h_Mo_embed wm_3151 wm_9 wm_3148 wm_3150 wv_14_13 ⟨by decide, by decide, by decide +kernel⟩ (by decide), List.forall_mem_nil _⟩⟩⟩, List.forall_mem_nil _, List.forall_mem_nil _, GG_pl⟩ (by decide +kernel)

set_option maxHeartbeats 4000000 in
theorem vc_Re_readItem_0_0 (x3 : Int) (x4 : Int) (x6 : Int) (x8 : Int) (x9 : Int) (x10 : Int) (kind_0 : Int) (next_0 : Int) (begin_0 : Int) (tail_0o1 : Int → Int) (head_0o1 : Int → Int) (nodes_0o1 : Int) (edges_0o1 : Int) (tape_0 : Int → Int) (open_0 : Int → Int) (nameLength_0o1 : Int → Int) (name_0o1 : Int → Int) (end_0 : Int) (number_0 : Int) (depth_0 : Int) (groups_0o1 : Int) (k3 : (-128) ≤ x3 ∧ x3 ≤ 127) (k4 : 125 ≤ x4 ∧ x4 ≤ 125) (k6 : 0 ≤ x6 ∧ x6 ≤ 0) (k8 : 0 ≤ x8 ∧ x8 ≤ 0) (k9 : 0 ≤ x9 ∧ x9 ≤ 0) (k10 : 1 ≤ x10 ∧ x10 ≤ 1) (g0 : x3 = kind_0) (f1 : x9 = 0) (f8 : cRI (end_0) (next_0) (kind_0) (begin_0) (number_0) (depth_0) (nodes_0o1) (edges_0o1) (groups_0o1) (tape_0) (open_0) (nameLength_0o1) (name_0o1) (tail_0o1) (head_0o1)) (f11 : CWn (kind_0) (next_0) (begin_0) (tape_0) (x6)) (f12 : CWg (kind_0) (next_0) (begin_0) (tape_0) (x8)) (f14 : CNM (kind_0) (next_0) (begin_0) (tape_0) (x9)) (f16 : x8 = 0) (f18 : x6 = 0) (f20 : x3 ≠ x4) (kz_0_5 : 0 ≤ end_0 ∧ end_0 ≤ 2000) (kz_0_6 : 0 ≤ next_0 ∧ next_0 ≤ 2000) (kz_0_7 : (-128) ≤ kind_0 ∧ kind_0 ≤ 127) (kz_0_8 : 0 ≤ begin_0 ∧ begin_0 ≤ 2000) (kz_0_9 : (-176) ≤ number_0 ∧ number_0 ≤ 1000000) (kz_0_11 : 0 ≤ depth_0 ∧ depth_0 ≤ 4) (kz_1_0 : 0 ≤ nodes_0o1 ∧ nodes_0o1 ≤ 24) (kz_1_1 : 0 ≤ edges_0o1 ∧ edges_0o1 ≤ 48) (kz_1_2 : 0 ≤ groups_0o1 ∧ groups_0o1 ≤ 8) : FSY (end_0) (begin_0) (tape_0) (x10) := by
  exact fsy_of (i_f ‹cRI _ _ _ _ _ _ _ _ _ _ _ _ _ _ _› (by omega) (cwn_f ‹CWn _ _ _ _ _› (by omega)) (cwg_f ‹CWg _ _ _ _ _› (by omega)) (cnm_f ‹CNM _ _ _ _ _› (by omega))) (by omega)
def o_Re_readItem_0 : or_T := (72, 11, [(0, (2, 0, 0, [8])), (1, (2, 0, 0, [164])), (3, (0, -128, 127, [])), (4, (0, 125, 125, [])), (6, (0, 0, 0, [])), (8, (0, 0, 0, [])), (9, (0, 0, 0, [])), (10, (0, 1, 1, []))], [(9, [3, 0], [7]), (8, [9], [0]), (20, [0, 1], [60, 9, 6, 1058, 5, 6, 7, 8, 9, 11, 1000, 1001, 1002, 0, 10, 1004, 1003, 1007, 1008]), (20, [0, 6], [60, 3, 1, 1080, 7, 6, 8, 0]), (20, [0, 8], [60, 3, 1, 1081, 7, 6, 8, 0]), (20, [0, 9], [60, 3, 1, 1079, 7, 6, 8, 0]), (102, [8], [0]), (8, [8], [0]), (102, [7], [0]), (8, [6], [0]), (102, [5], [0]), (7, [3, 4], [1])], [], [], [(20, [0, 10], [60, 2, 1, 1078, 5, 8, 0])], [], [])
theorem oo_Re_readItem_0 {kA : Nat → ClassId} : or_ok PRD kA GG o_Re_readItem_0 := by
  refine or_mk fun A ta ws vs hD hth hl => ?_
  intro t0 r0 t1 r1 t3 k3 t4 k4 t6 k6 t8 k8 t9 k9 t10 k10 f0 f1 f8 f11 f12 f14 ta1 w1 le1 s1 f16 ta2 w2 le2 s2 f18 ta3 w3 le3 s3 f20
  replace f0 := shm_198 f0
  have g0 : v_iv (n_v vs 3) = w_fi ws (n_v vs 0) 7 := congrArg v_iv f0
  have kz_0_5 := fdq_207 hD hth r0
  have kz_0_6 := fdq_208 hD hth r0
  have kz_0_7 := fdq_297 hD hth r0
  have kz_0_8 := fdq_99 hD hth r0
  have kz_0_9 := fdq_296 hD hth r0
  have kz_0_11 := fdq_320 hD hth r0
  have kz_1_0 := fdq_73 hD hth r1
  have kz_1_1 := fdq_74 hD hth r1
  have kz_1_2 := fdq_206 hD hth r1
  have nf0 : fc_1 PRD (20, [0, 10], [60, 2, 1, 1078, 5, 8, 0]) ws (vs) := ⟨nf_in hl rfl, sgq_1988 (vc_Re_readItem_0_0 (v_iv (n_v vs 3)) (v_iv (n_v vs 4)) (v_iv (n_v vs 6)) (v_iv (n_v vs 8)) (v_iv (n_v vs 9)) (v_iv (n_v vs 10)) (w_fi ws (n_v vs 0) 7) (w_fi ws (n_v vs 0) 6) (w_fi ws (n_v vs 0) 8) (w_ei ws (w_ar ws (n_v vs 1) 7)) (w_ei ws (w_ar ws (n_v vs 1) 8)) (w_fi ws (n_v vs 1) 0) (w_fi ws (n_v vs 1) 1) (w_ei ws (w_ar ws (n_v vs 0) 0)) (w_ei ws (w_ar ws (n_v vs 0) 10)) (w_ei ws (w_ar ws (n_v vs 1) 4)) (w_ei ws (w_ar ws (n_v vs 1) 3)) (w_fi ws (n_v vs 0) 5) (w_fi ws (n_v vs 0) 9) (w_fi ws (n_v vs 0) 11) (w_fi ws (n_v vs 1) 2) k3 k4 k6 k8 k9 k10 g0 (shm_192 f1) (shm_2149 f8) (shm_1828 f11) (shm_1829 f12) (shm_1837 f14) (shm_192 f16) (shm_192 f18) (shm_40 f20) kz_0_5 kz_0_6 kz_0_7 kz_0_8 kz_0_9 kz_0_11 kz_1_0 kz_1_1 kz_1_2)⟩
  refine ⟨(fun _ h => (by cases h)), [], trivial, ?_, (fun _ h => (by cases h))⟩
  rw [List.append_nil]
  exact List.forall_mem_cons.mpr ⟨⟨show (20 : Nat) < 100 from by decide, nf0⟩, (fun _ h => (by cases h))⟩
set_option maxHeartbeats 4000000 in
theorem vc_Re_readItem_1_0 (x3 : Int) (x10 : Int) (x11 : Int) (kind_0 : Int) (tape_0 : Int → Int) (end_0 : Int) (begin_0 : Int) (next_0 : Int) (tail_0o1 : Int → Int) (head_0o1 : Int → Int) (nodes_0o1 : Int) (edges_0o1 : Int) (open_0 : Int → Int) (nameLength_0o1 : Int → Int) (name_0o1 : Int → Int) (depth_0 : Int) (groups_0o1 : Int) (fault_0 : Int) (faultPlace_0 : Int) (k3 : (-128) ≤ x3 ∧ x3 ≤ 127) (k10 : 1 ≤ x10 ∧ x10 ≤ 1) (k11 : 0 ≤ x11 ∧ x11 ≤ 0) (g0 : x3 = kind_0) (f1 : FSY (end_0) (begin_0) (tape_0) (x10)) (f14 : (x11 = 0) ∧ ((fault_0 = x10) ∧ (faultPlace_0 = begin_0))) (kz_0_2 : (-1) ≤ fault_0 ∧ fault_0 ≤ 5) (kz_0_3 : (-1) ≤ faultPlace_0 ∧ faultPlace_0 ≤ 2000) (kz_0_5 : 0 ≤ end_0 ∧ end_0 ≤ 2000) (kz_0_6 : 0 ≤ next_0 ∧ next_0 ≤ 2000) (kz_0_7 : (-128) ≤ kind_0 ∧ kind_0 ≤ 127) (kz_0_8 : 0 ≤ begin_0 ∧ begin_0 ≤ 2000) (kz_0_11 : 0 ≤ depth_0 ∧ depth_0 ≤ 4) (kz_1_0 : 0 ≤ nodes_0o1 ∧ nodes_0o1 ≤ 24) (kz_1_1 : 0 ≤ edges_0o1 ∧ edges_0o1 ≤ 48) (kz_1_2 : 0 ≤ groups_0o1 ∧ groups_0o1 ≤ 8) : cO0 (end_0) (next_0) (depth_0) (fault_0) (faultPlace_0) (nodes_0o1) (edges_0o1) (groups_0o1) (tape_0) (open_0) (nameLength_0o1) (name_0o1) (tail_0o1) (head_0o1) (x11) := by
  first | subst g0 | skip
  first
    | assumption
    | exact cO0_f ‹FSY _ _ _ _› (by omega) (by omega) (by omega)
    | exact cO0_t (i_cl ‹cRI _ _ _ _ _ _ _ _ _ _ _ _ _ _ _› (by omega) (by omega) (by omega)) (by omega) (by omega)
set_option maxHeartbeats 4000000 in
theorem vc_Re_readItem_1_1 (x2 : Int) (x11 : Int) (next_0 : Int) (k2 : 0 ≤ x2 ∧ x2 ≤ 2000) (k11 : 0 ≤ x11 ∧ x11 ≤ 0) (kz_0_6 : 0 ≤ next_0 ∧ next_0 ≤ 2000) : (1 * x11 + 0 ≤ 0) ∨ (1 * x2 + ((-1) * next_0 + 0) ≤ (-1)) := by
  first
    | omega
    | (have h := ri_lt ‹cRI _ _ _ _ _ _ _ _ _ _ _ _ _ _ _› (by omega); omega)
    | (have h := ri_lt ‹cRI _ _ _ _ _ _ _ _ _ _ _ _ _ _ _› (by have := (cwn_t ‹CWn _ _ _ _ _› (by omega)).1; omega); omega)
    | (have h := ri_lt ‹cRI _ _ _ _ _ _ _ _ _ _ _ _ _ _ _› (by have := (cwg_t ‹CWg _ _ _ _ _› (by omega)).1; omega); omega)
    | (have h := ri_lt ‹cRI _ _ _ _ _ _ _ _ _ _ _ _ _ _ _› (by have := (cnm_t ‹CNM _ _ _ _ _› (by omega)).1; omega); omega)
def o_Re_readItem_1 : or_T := (75, 12, [(0, (2, 0, 0, [8])), (1, (2, 0, 0, [164])), (2, (0, 0, 2000, [])), (3, (0, -128, 127, [])), (4, (0, 125, 125, [])), (6, (0, 0, 0, [])), (8, (0, 0, 0, [])), (9, (0, 0, 0, [])), (10, (0, 1, 1, [])), (11, (0, 0, 0, []))], [(9, [3, 0], [7]), (20, [0, 10], [60, 2, 1, 1078, 5, 8, 0]), (20, [0, 0, 0, 0], [31, 1, -3, -1, 1, 7, 4008, 1, 1, 6, -1, 1, 8, 2000, 1, 7]), (20, [0, 0], [30, 0, 1, 1, 8, -1, 1, 6]), (20, [1], [60, 2, 3, 670, 0, 1, 14, 7, 8]), (20, [1], [60, 2, 2, 596, 0, 1, 7, 8]), (20, [0, 2], [30, 0, 1, 1, 8, -1, 0, 0]), (20, [0, 2], [30, 0, -1, 1, 8, 1, 0, 0]), (20, [0, 1], [60, 9, 6, 1058, 5, 6, 7, 8, 9, 11, 1000, 1001, 1002, 0, 10, 1004, 1003, 1007, 1008]), (20, [1], [60, 1, 3, 1085, 1, 7, 8, 15]), (20, [0, 6], [60, 3, 1, 1080, 7, 6, 8, 0]), (20, [0, 8], [60, 3, 1, 1081, 7, 6, 8, 0]), (20, [0, 0, 9], [30, 2008, 1, 1, 6, -1, 1, 8, 2000, 0, 0]), (20, [0, 9], [60, 3, 1, 1079, 7, 6, 8, 0]), (20, [11, 0, 10], [50, 3, 0, 1002, 1003, 1008, 2, 6, 1, 2, 1, 0, 0, 0, 2, 7, 1, 3, 2, 1, 2, 1, 2, 1, 3, 2, 1, 3, 2, 1, 8]), (102, [10], [0, 8002, 8003]), (8, [9], [0]), (102, [8], [0]), (8, [8], [0]), (102, [7], [0]), (8, [6], [0]), (102, [5], [0]), (7, [3, 4], [1])], [], [], [(20, [0, 1, 11], [60, 8, 6, 1063, 5, 6, 11, 2, 3, 1000, 1001, 1002, 0, 10, 1004, 1003, 1007, 1008]), (20, [11, 2, 0], [31, 1, 0, 1, 0, 0, -1, 1, 0, 0, -1, 1, 6])], [], [])
theorem oo_Re_readItem_1 {kA : Nat → ClassId} : or_ok PRD kA GG o_Re_readItem_1 := by
  refine or_mk fun A ta ws vs hD hth hl => ?_
  intro t0 r0 t1 r1 t2 k2 t3 k3 t4 k4 t6 k6 t8 k8 t9 k9 t10 k10 t11 k11 f0 f1 f2 f3 f4 f5 f6 f7 f8 f9 f10 f11 f12 f13 f14 ta1 w1 le1 s1 f16 ta2 w2 le2 s2 f18 ta3 w3 le3 s3 f20 ta4 w4 le4 s4 f22
  replace f0 := shm_198 f0
  have g0 : v_iv (n_v vs 3) = w_fi ws (n_v vs 0) 7 := congrArg v_iv f0
  have kz_0_2 := fdq_97 hD hth r0
  have kz_0_3 := fdq_98 hD hth r0
  have kz_0_5 := fdq_207 hD hth r0
  have kz_0_6 := fdq_208 hD hth r0
  have kz_0_7 := fdq_297 hD hth r0
  have kz_0_8 := fdq_99 hD hth r0
  have kz_0_11 := fdq_320 hD hth r0
  have kz_1_0 := fdq_73 hD hth r1
  have kz_1_1 := fdq_74 hD hth r1
  have kz_1_2 := fdq_206 hD hth r1
  have nf0 : fc_1 PRD (20, [0, 1, 11], [60, 8, 6, 1063, 5, 6, 11, 2, 3, 1000, 1001, 1002, 0, 10, 1004, 1003, 1007, 1008]) ws (vs) := ⟨nf_in hl rfl, sgq_2023 (vc_Re_readItem_1_0 (v_iv (n_v vs 3)) (v_iv (n_v vs 10)) (v_iv (n_v vs 11)) (w_fi ws (n_v vs 0) 7) (w_ei ws (w_ar ws (n_v vs 0) 0)) (w_fi ws (n_v vs 0) 5) (w_fi ws (n_v vs 0) 8) (w_fi ws (n_v vs 0) 6) (w_ei ws (w_ar ws (n_v vs 1) 7)) (w_ei ws (w_ar ws (n_v vs 1) 8)) (w_fi ws (n_v vs 1) 0) (w_fi ws (n_v vs 1) 1) (w_ei ws (w_ar ws (n_v vs 0) 10)) (w_ei ws (w_ar ws (n_v vs 1) 4)) (w_ei ws (w_ar ws (n_v vs 1) 3)) (w_fi ws (n_v vs 0) 11) (w_fi ws (n_v vs 1) 2) (w_fi ws (n_v vs 0) 2) (w_fi ws (n_v vs 0) 3) k3 k10 k11 g0 (shm_1988 f1) (shm_451 f14) kz_0_2 kz_0_3 kz_0_5 kz_0_6 kz_0_7 kz_0_8 kz_0_11 kz_1_0 kz_1_1 kz_1_2)⟩
  have nf1 : fc_1 PRD (20, [11, 2, 0], [31, 1, 0, 1, 0, 0, -1, 1, 0, 0, -1, 1, 6]) ws (vs) := ⟨nf_in hl rfl, sgq_2150 (vc_Re_readItem_1_1 (v_iv (n_v vs 2)) (v_iv (n_v vs 11)) (w_fi ws (n_v vs 0) 6) k2 k11 kz_0_6)⟩
  refine ⟨(fun _ h => (by cases h)), [], trivial, ?_, (fun _ h => (by cases h))⟩
  rw [List.append_nil]
  exact List.forall_mem_cons.mpr ⟨⟨show (20 : Nat) < 100 from by decide, nf0⟩, List.forall_mem_cons.mpr ⟨⟨show (20 : Nat) < 100 from by decide, nf1⟩, (fun _ h => (by cases h))⟩⟩
set_option maxHeartbeats 4000000 in
theorem vc_Re_readItem_2_0 (x9 : Int) (next_0 : Int) (begin_0 : Int) (gx : Int) (k9 : 1 ≤ x9 ∧ x9 ≤ 1) (f3 : 1 * begin_0 + ((-1) * next_0 + 0) ≤ 0) (f13 : 1 * next_0 + ((-1) * begin_0 + (2000 * x9 + 0)) ≤ 2008) (kz_0_6 : 0 ≤ next_0 ∧ next_0 ≤ 2000) (kz_0_8 : 0 ≤ begin_0 ∧ begin_0 ≤ 2000) (ex2 : gx = next_0) : 1 * next_0 + ((-1) * begin_0 + 0) ≤ 8 := by
  first
    | omega
    | (have h := ri_lt ‹cRI _ _ _ _ _ _ _ _ _ _ _ _ _ _ _› (by omega); omega)
    | (have h := ri_lt ‹cRI _ _ _ _ _ _ _ _ _ _ _ _ _ _ _› (by have := (cwn_t ‹CWn _ _ _ _ _› (by omega)).1; omega); omega)
    | (have h := ri_lt ‹cRI _ _ _ _ _ _ _ _ _ _ _ _ _ _ _› (by have := (cwg_t ‹CWg _ _ _ _ _› (by omega)).1; omega); omega)
    | (have h := ri_lt ‹cRI _ _ _ _ _ _ _ _ _ _ _ _ _ _ _› (by have := (cnm_t ‹CNM _ _ _ _ _› (by omega)).1; omega); omega)
set_option maxHeartbeats 4000000 in
theorem vc_Re_readItem_2_1 (x9 : Int) (next_0 : Int) (begin_0 : Int) (gx : Int) (k9 : 1 ≤ x9 ∧ x9 ≤ 1) (f3 : 1 * begin_0 + ((-1) * next_0 + 0) ≤ 0) (f13 : 1 * next_0 + ((-1) * begin_0 + (2000 * x9 + 0)) ≤ 2008) (kz_0_6 : 0 ≤ next_0 ∧ next_0 ≤ 2000) (kz_0_8 : 0 ≤ begin_0 ∧ begin_0 ≤ 2000) (ex2 : gx = next_0) : (-1) * next_0 + (1 * begin_0 + 0) ≤ 0 := by
  first
    | omega
    | (have h := ri_lt ‹cRI _ _ _ _ _ _ _ _ _ _ _ _ _ _ _› (by omega); omega)
    | (have h := ri_lt ‹cRI _ _ _ _ _ _ _ _ _ _ _ _ _ _ _› (by have := (cwn_t ‹CWn _ _ _ _ _› (by omega)).1; omega); omega)
    | (have h := ri_lt ‹cRI _ _ _ _ _ _ _ _ _ _ _ _ _ _ _› (by have := (cwg_t ‹CWg _ _ _ _ _› (by omega)).1; omega); omega)
    | (have h := ri_lt ‹cRI _ _ _ _ _ _ _ _ _ _ _ _ _ _ _› (by have := (cnm_t ‹CNM _ _ _ _ _› (by omega)).1; omega); omega)
set_option maxHeartbeats 4000000 in
theorem vc_Re_readItem_2_2 (near_0o1 : Int → Int) (tail_0o1 : Int → Int) (head_0o1 : Int → Int) (nodes_0o1 : Int) (edges_0o1 : Int) (f4 : GNB (nodes_0o1) (edges_0o1) (near_0o1) (tail_0o1) (head_0o1)) (kz_1_0 : 0 ≤ nodes_0o1 ∧ nodes_0o1 ≤ 24) (kz_1_1 : 0 ≤ edges_0o1 ∧ edges_0o1 ≤ 48) : GNB (nodes_0o1) (edges_0o1) (near_0o1) (tail_0o1) (head_0o1) := by
  first
    | assumption
  
set_option maxHeartbeats 4000000 in
theorem vc_Re_readItem_2_3 (tail_0o1 : Int → Int) (head_0o1 : Int → Int) (nodes_0o1 : Int) (edges_0o1 : Int) (f5 : GKE (nodes_0o1) (edges_0o1) (tail_0o1) (head_0o1)) (kz_1_0 : 0 ≤ nodes_0o1 ∧ nodes_0o1 ≤ 24) (kz_1_1 : 0 ≤ edges_0o1 ∧ edges_0o1 ≤ 48) : GKE (nodes_0o1) (edges_0o1) (tail_0o1) (head_0o1) := by
  first
    | assumption
  
set_option maxHeartbeats 4000000 in
theorem vc_Re_readItem_2_4 (next_0 : Int) (gx : Int) (kz_0_6 : 0 ≤ next_0 ∧ next_0 ≤ 2000) (ex2 : gx = next_0) : 1 * next_0 + ((-1) * gx + 0) ≤ 0 := by
  first
    | omega
    | (have h := ri_lt ‹cRI _ _ _ _ _ _ _ _ _ _ _ _ _ _ _› (by omega); omega)
    | (have h := ri_lt ‹cRI _ _ _ _ _ _ _ _ _ _ _ _ _ _ _› (by have := (cwn_t ‹CWn _ _ _ _ _› (by omega)).1; omega); omega)
    | (have h := ri_lt ‹cRI _ _ _ _ _ _ _ _ _ _ _ _ _ _ _› (by have := (cwg_t ‹CWg _ _ _ _ _› (by omega)).1; omega); omega)
    | (have h := ri_lt ‹cRI _ _ _ _ _ _ _ _ _ _ _ _ _ _ _› (by have := (cnm_t ‹CNM _ _ _ _ _› (by omega)).1; omega); omega)
set_option maxHeartbeats 4000000 in
theorem vc_Re_readItem_2_5 (next_0 : Int) (gx : Int) (kz_0_6 : 0 ≤ next_0 ∧ next_0 ≤ 2000) (ex2 : gx = next_0) : (-1) * next_0 + (1 * gx + 0) ≤ 0 := by
  first
    | omega
    | (have h := ri_lt ‹cRI _ _ _ _ _ _ _ _ _ _ _ _ _ _ _› (by omega); omega)
    | (have h := ri_lt ‹cRI _ _ _ _ _ _ _ _ _ _ _ _ _ _ _› (by have := (cwn_t ‹CWn _ _ _ _ _› (by omega)).1; omega); omega)
    | (have h := ri_lt ‹cRI _ _ _ _ _ _ _ _ _ _ _ _ _ _ _› (by have := (cwg_t ‹CWg _ _ _ _ _› (by omega)).1; omega); omega)
    | (have h := ri_lt ‹cRI _ _ _ _ _ _ _ _ _ _ _ _ _ _ _› (by have := (cnm_t ‹CNM _ _ _ _ _› (by omega)).1; omega); omega)
set_option maxHeartbeats 4000000 in
theorem vc_Re_readItem_2_6 (x9 : Int) (kind_0 : Int) (next_0 : Int) (begin_0 : Int) (tail_0o1 : Int → Int) (head_0o1 : Int → Int) (nodes_0o1 : Int) (edges_0o1 : Int) (tape_0 : Int → Int) (open_0 : Int → Int) (nameLength_0o1 : Int → Int) (name_0o1 : Int → Int) (end_0 : Int) (number_0 : Int) (depth_0 : Int) (groups_0o1 : Int) (k9 : 1 ≤ x9 ∧ x9 ≤ 1) (f1 : x9 ≠ 0) (f8 : cRI (end_0) (next_0) (kind_0) (begin_0) (number_0) (depth_0) (nodes_0o1) (edges_0o1) (groups_0o1) (tape_0) (open_0) (nameLength_0o1) (name_0o1) (tail_0o1) (head_0o1)) (f14 : CNM (kind_0) (next_0) (begin_0) (tape_0) (x9)) (kz_0_5 : 0 ≤ end_0 ∧ end_0 ≤ 2000) (kz_0_6 : 0 ≤ next_0 ∧ next_0 ≤ 2000) (kz_0_7 : (-128) ≤ kind_0 ∧ kind_0 ≤ 127) (kz_0_8 : 0 ≤ begin_0 ∧ begin_0 ≤ 2000) (kz_0_9 : (-176) ≤ number_0 ∧ number_0 ≤ 1000000) (kz_0_11 : 0 ≤ depth_0 ∧ depth_0 ≤ 4) (kz_1_0 : 0 ≤ nodes_0o1 ∧ nodes_0o1 ≤ 24) (kz_1_1 : 0 ≤ edges_0o1 ∧ edges_0o1 ≤ 48) (kz_1_2 : 0 ≤ groups_0o1 ∧ groups_0o1 ≤ 8) : cRE (end_0) (next_0) (kind_0) (begin_0) (number_0) (depth_0) (nodes_0o1) (edges_0o1) (groups_0o1) (tape_0) (open_0) (nameLength_0o1) (name_0o1) (tail_0o1) (head_0o1) := by
  exact i_e ‹cRI _ _ _ _ _ _ _ _ _ _ _ _ _ _ _› (cnm_t ‹CNM _ _ _ _ _› (by omega))
set_option maxHeartbeats 4000000 in
theorem vc_Re_readItem_2_7 (fault_0 : Int) (f9 : fault_0 = 0) (kz_0_2 : (-1) ≤ fault_0 ∧ fault_0 ≤ 5) : fault_0 = 0 := by
  first
    | omega
    | (have h := ri_lt ‹cRI _ _ _ _ _ _ _ _ _ _ _ _ _ _ _› (by omega); omega)
    | (have h := ri_lt ‹cRI _ _ _ _ _ _ _ _ _ _ _ _ _ _ _› (by have := (cwn_t ‹CWn _ _ _ _ _› (by omega)).1; omega); omega)
    | (have h := ri_lt ‹cRI _ _ _ _ _ _ _ _ _ _ _ _ _ _ _› (by have := (cwg_t ‹CWg _ _ _ _ _› (by omega)).1; omega); omega)
    | (have h := ri_lt ‹cRI _ _ _ _ _ _ _ _ _ _ _ _ _ _ _› (by have := (cnm_t ‹CNM _ _ _ _ _› (by omega)).1; omega); omega)
set_option maxHeartbeats 4000000 in
theorem vc_Re_readItem_2_8 (tail_0o1 : Int → Int) (head_0o1 : Int → Int) (edges_0o1 : Int) (link_0o1 : Int → Int) (f10 : LKG (edges_0o1) (tail_0o1) (head_0o1) (link_0o1)) (kz_1_1 : 0 ≤ edges_0o1 ∧ edges_0o1 ≤ 48) : LKG (edges_0o1) (tail_0o1) (head_0o1) (link_0o1) := by
  assumption
set_option maxHeartbeats 4000000 in
theorem vc_Re_readItem_2_9 (x2 : Int) (x9 : Int) (kind_0 : Int) (next_0 : Int) (begin_0 : Int) (tail_0o1 : Int → Int) (head_0o1 : Int → Int) (nodes_0o1 : Int) (edges_0o1 : Int) (tape_0 : Int → Int) (open_0 : Int → Int) (nameLength_0o1 : Int → Int) (name_0o1 : Int → Int) (end_0 : Int) (number_0 : Int) (depth_0 : Int) (groups_0o1 : Int) (gx : Int) (k2 : 0 ≤ x2 ∧ x2 ≤ 2000) (k9 : 1 ≤ x9 ∧ x9 ≤ 1) (f1 : x9 ≠ 0) (f3 : 1 * begin_0 + ((-1) * next_0 + 0) ≤ 0) (f6 : 1 * begin_0 + ((-1) * x2 + 0) ≤ 0) (f7 : (-1) * begin_0 + (1 * x2 + 0) ≤ 0) (f8 : cRI (end_0) (next_0) (kind_0) (begin_0) (number_0) (depth_0) (nodes_0o1) (edges_0o1) (groups_0o1) (tape_0) (open_0) (nameLength_0o1) (name_0o1) (tail_0o1) (head_0o1)) (f13 : 1 * next_0 + ((-1) * begin_0 + (2000 * x9 + 0)) ≤ 2008) (f14 : CNM (kind_0) (next_0) (begin_0) (tape_0) (x9)) (kz_0_5 : 0 ≤ end_0 ∧ end_0 ≤ 2000) (kz_0_6 : 0 ≤ next_0 ∧ next_0 ≤ 2000) (kz_0_7 : (-128) ≤ kind_0 ∧ kind_0 ≤ 127) (kz_0_8 : 0 ≤ begin_0 ∧ begin_0 ≤ 2000) (kz_0_9 : (-176) ≤ number_0 ∧ number_0 ≤ 1000000) (kz_0_11 : 0 ≤ depth_0 ∧ depth_0 ≤ 4) (kz_1_0 : 0 ≤ nodes_0o1 ∧ nodes_0o1 ≤ 24) (kz_1_1 : 0 ≤ edges_0o1 ∧ edges_0o1 ≤ 48) (kz_1_2 : 0 ≤ groups_0o1 ∧ groups_0o1 ≤ 8) (ex2 : gx = next_0) : 1 * x2 + ((-1) * gx + 0) ≤ (-1) := by
  first
    | omega
    | (have h := ri_lt ‹cRI _ _ _ _ _ _ _ _ _ _ _ _ _ _ _› (by omega); omega)
    | (have h := ri_lt ‹cRI _ _ _ _ _ _ _ _ _ _ _ _ _ _ _› (by have := (cwn_t ‹CWn _ _ _ _ _› (by omega)).1; omega); omega)
    | (have h := ri_lt ‹cRI _ _ _ _ _ _ _ _ _ _ _ _ _ _ _› (by have := (cwg_t ‹CWg _ _ _ _ _› (by omega)).1; omega); omega)
    | (have h := ri_lt ‹cRI _ _ _ _ _ _ _ _ _ _ _ _ _ _ _› (by have := (cnm_t ‹CNM _ _ _ _ _› (by omega)).1; omega); omega)
def o_Re_readItem_2 : or_T := (64, 10, [(0, (2, 0, 0, [8])), (1, (2, 0, 0, [164])), (2, (0, 0, 2000, [])), (9, (0, 1, 1, []))], [(8, [9], [1]), (20, [0, 0], [30, 0, 1, 1, 8, -1, 1, 6]), (20, [1], [60, 2, 3, 670, 0, 1, 14, 7, 8]), (20, [1], [60, 2, 2, 596, 0, 1, 7, 8]), (20, [0, 2], [30, 0, 1, 1, 8, -1, 0, 0]), (20, [0, 2], [30, 0, -1, 1, 8, 1, 0, 0]), (20, [0, 1], [60, 9, 6, 1058, 5, 6, 7, 8, 9, 11, 1000, 1001, 1002, 0, 10, 1004, 1003, 1007, 1008]), (20, [0], [50, 1, 0, 2, 1, 3, 2, 0, 2, 0, 0]), (20, [1], [60, 1, 3, 1085, 1, 7, 8, 15]), (20, [0, 0, 9], [30, 2008, 1, 1, 6, -1, 1, 8, 2000, 0, 0]), (20, [0, 9], [60, 3, 1, 1079, 7, 6, 8, 0])], [], [(0, 0, 2000, [])], [(20, [0, 0], [30, 8, 1, 1, 6, -1, 1, 8]), (20, [0, 0], [30, 0, -1, 1, 6, 1, 1, 8]), (20, [1], [60, 2, 3, 670, 0, 1, 14, 7, 8]), (20, [1], [60, 2, 2, 596, 0, 1, 7, 8]), (20, [0, 10], [30, 0, 1, 1, 6, -1, 0, 0]), (20, [0, 10], [30, 0, -1, 1, 6, 1, 0, 0]), (20, [0, 1], [60, 9, 6, 1060, 5, 6, 7, 8, 9, 11, 1000, 1001, 1002, 0, 10, 1004, 1003, 1007, 1008]), (20, [0], [50, 1, 0, 2, 1, 3, 2, 0, 2, 0, 0]), (20, [1], [60, 1, 3, 1085, 1, 7, 8, 15]), (20, [2, 10], [30, -1, 1, 0, 0, -1, 0, 0])], [], [])
theorem oo_Re_readItem_2 {kA : Nat → ClassId} : or_ok PRD kA GG o_Re_readItem_2 := by
  refine or_mk fun A ta ws vs hD hth hl => ?_
  intro t0 r0 t1 r1 t2 k2 t9 k9 f1 f3 f4 f5 f6 f7 f8 f9 f10 f13 f14
  replace f1 := shm_142 f1
  replace f3 := shm_1531 f3
  replace f4 := shm_825 f4
  replace f5 := shm_386 f5
  replace f6 := shm_303 f6
  replace f7 := shm_304 f7
  replace f8 := shm_2149 f8
  replace f9 := shm_1985 f9
  replace f10 := shm_827 f10
  replace f13 := shm_1836 f13
  replace f14 := shm_1837 f14
  have kz_0_2 := fdq_97 hD hth r0
  have kz_0_5 := fdq_207 hD hth r0
  have kz_0_6 := fdq_208 hD hth r0
  have kz_0_7 := fdq_297 hD hth r0
  have kz_0_8 := fdq_99 hD hth r0
  have kz_0_9 := fdq_296 hD hth r0
  have kz_0_11 := fdq_320 hD hth r0
  have kz_1_0 := fdq_73 hD hth r1
  have kz_1_1 := fdq_74 hD hth r1
  have kz_1_2 := fdq_206 hD hth r1
  obtain ⟨x, ex, hx⟩ := iv_ex (ta := ta) (lo := 0) (hi := 2000) (z := w_fi ws (n_v vs 0) 6) (by omega) (by omega) (by omega) (by omega)
  have ex2 : v_iv (Value.int x) = w_fi ws (n_v vs 0) 6 := ex
  have ex3 : 0 ≤ v_iv (Value.int x) ∧ v_iv (Value.int x) ≤ 2000 := tv_rng hx
  have e_0 : n_v (vs ++ [Value.int x]) 0 = n_v vs 0 := n_v_old (by rw [hl]; decide)
  have e_1 : n_v (vs ++ [Value.int x]) 1 = n_v vs 1 := n_v_old (by rw [hl]; decide)
  have e_2 : n_v (vs ++ [Value.int x]) 2 = n_v vs 2 := n_v_old (by rw [hl]; decide)
  have e_10 : n_v (vs ++ [Value.int x]) 10 = Value.int x := n_v_new hl
  have nf0 : fc_1 PRD (20, [0, 0], [30, 8, 1, 1, 6, -1, 1, 8]) ws (vs ++ [Value.int x]) := by
    refine ⟨nf_inA hl rfl, sgq_1401 ?_⟩
    · show 1 * w_fi ws (n_v (vs ++ [Value.int x]) 0) 6 + ((-1) * w_fi ws (n_v (vs ++ [Value.int x]) 0) 8 + 0) ≤ 8
      rw [e_0]
      exact vc_Re_readItem_2_0 (v_iv (n_v vs 9)) (w_fi ws (n_v vs 0) 6) (w_fi ws (n_v vs 0) 8) (v_iv (Value.int x)) k9 f3 f13 kz_0_6 kz_0_8 ex2
  have nf1 : fc_1 PRD (20, [0, 0], [30, 0, -1, 1, 6, 1, 1, 8]) ws (vs ++ [Value.int x]) := by
    refine ⟨nf_inA hl rfl, sgq_1402 ?_⟩
    · show (-1) * w_fi ws (n_v (vs ++ [Value.int x]) 0) 6 + (1 * w_fi ws (n_v (vs ++ [Value.int x]) 0) 8 + 0) ≤ 0
      rw [e_0]
      exact vc_Re_readItem_2_1 (v_iv (n_v vs 9)) (w_fi ws (n_v vs 0) 6) (w_fi ws (n_v vs 0) 8) (v_iv (Value.int x)) k9 f3 f13 kz_0_6 kz_0_8 ex2
  have nf2 : fc_1 PRD (20, [1], [60, 2, 3, 670, 0, 1, 14, 7, 8]) ws (vs ++ [Value.int x]) := by
    refine ⟨nf_inA hl rfl, sgq_825 ?_⟩
    · show GNB (w_fi ws (n_v (vs ++ [Value.int x]) 1) 0) (w_fi ws (n_v (vs ++ [Value.int x]) 1) 1) (w_ei ws (w_ar ws (n_v (vs ++ [Value.int x]) 1) 14)) (w_ei ws (w_ar ws (n_v (vs ++ [Value.int x]) 1) 7)) (w_ei ws (w_ar ws (n_v (vs ++ [Value.int x]) 1) 8))
      rw [e_1]
      exact vc_Re_readItem_2_2 (w_ei ws (w_ar ws (n_v vs 1) 14)) (w_ei ws (w_ar ws (n_v vs 1) 7)) (w_ei ws (w_ar ws (n_v vs 1) 8)) (w_fi ws (n_v vs 1) 0) (w_fi ws (n_v vs 1) 1) f4 kz_1_0 kz_1_1
  have nf3 : fc_1 PRD (20, [1], [60, 2, 2, 596, 0, 1, 7, 8]) ws (vs ++ [Value.int x]) := by
    refine ⟨nf_inA hl rfl, sgq_386 ?_⟩
    · show GKE (w_fi ws (n_v (vs ++ [Value.int x]) 1) 0) (w_fi ws (n_v (vs ++ [Value.int x]) 1) 1) (w_ei ws (w_ar ws (n_v (vs ++ [Value.int x]) 1) 7)) (w_ei ws (w_ar ws (n_v (vs ++ [Value.int x]) 1) 8))
      rw [e_1]
      exact vc_Re_readItem_2_3 (w_ei ws (w_ar ws (n_v vs 1) 7)) (w_ei ws (w_ar ws (n_v vs 1) 8)) (w_fi ws (n_v vs 1) 0) (w_fi ws (n_v vs 1) 1) f5 kz_1_0 kz_1_1
  have nf4 : fc_1 PRD (20, [0, 10], [30, 0, 1, 1, 6, -1, 0, 0]) ws (vs ++ [Value.int x]) := by
    refine ⟨nf_inA hl rfl, sgq_1523 ?_⟩
    · show 1 * w_fi ws (n_v (vs ++ [Value.int x]) 0) 6 + ((-1) * v_iv (n_v (vs ++ [Value.int x]) 10) + 0) ≤ 0
      simp only [e_0, e_10]
      exact vc_Re_readItem_2_4 (w_fi ws (n_v vs 0) 6) (v_iv (Value.int x)) kz_0_6 ex2
  have nf5 : fc_1 PRD (20, [0, 10], [30, 0, -1, 1, 6, 1, 0, 0]) ws (vs ++ [Value.int x]) := by
    refine ⟨nf_inA hl rfl, sgq_1524 ?_⟩
    · show (-1) * w_fi ws (n_v (vs ++ [Value.int x]) 0) 6 + (1 * v_iv (n_v (vs ++ [Value.int x]) 10) + 0) ≤ 0
      simp only [e_0, e_10]
      exact vc_Re_readItem_2_5 (w_fi ws (n_v vs 0) 6) (v_iv (Value.int x)) kz_0_6 ex2
  have nf6 : fc_1 PRD (20, [0, 1], [60, 9, 6, 1060, 5, 6, 7, 8, 9, 11, 1000, 1001, 1002, 0, 10, 1004, 1003, 1007, 1008]) ws (vs ++ [Value.int x]) := by
    refine ⟨nf_inA hl rfl, sgq_2134 ?_⟩
    · show cRE (w_fi ws (n_v (vs ++ [Value.int x]) 0) 5) (w_fi ws (n_v (vs ++ [Value.int x]) 0) 6) (w_fi ws (n_v (vs ++ [Value.int x]) 0) 7) (w_fi ws (n_v (vs ++ [Value.int x]) 0) 8) (w_fi ws (n_v (vs ++ [Value.int x]) 0) 9) (w_fi ws (n_v (vs ++ [Value.int x]) 0) 11) (w_fi ws (n_v (vs ++ [Value.int x]) 1) 0) (w_fi ws (n_v (vs ++ [Value.int x]) 1) 1) (w_fi ws (n_v (vs ++ [Value.int x]) 1) 2) (w_ei ws (w_ar ws (n_v (vs ++ [Value.int x]) 0) 0)) (w_ei ws (w_ar ws (n_v (vs ++ [Value.int x]) 0) 10)) (w_ei ws (w_ar ws (n_v (vs ++ [Value.int x]) 1) 4)) (w_ei ws (w_ar ws (n_v (vs ++ [Value.int x]) 1) 3)) (w_ei ws (w_ar ws (n_v (vs ++ [Value.int x]) 1) 7)) (w_ei ws (w_ar ws (n_v (vs ++ [Value.int x]) 1) 8))
      simp only [e_0, e_1]
      exact vc_Re_readItem_2_6 (v_iv (n_v vs 9)) (w_fi ws (n_v vs 0) 7) (w_fi ws (n_v vs 0) 6) (w_fi ws (n_v vs 0) 8) (w_ei ws (w_ar ws (n_v vs 1) 7)) (w_ei ws (w_ar ws (n_v vs 1) 8)) (w_fi ws (n_v vs 1) 0) (w_fi ws (n_v vs 1) 1) (w_ei ws (w_ar ws (n_v vs 0) 0)) (w_ei ws (w_ar ws (n_v vs 0) 10)) (w_ei ws (w_ar ws (n_v vs 1) 4)) (w_ei ws (w_ar ws (n_v vs 1) 3)) (w_fi ws (n_v vs 0) 5) (w_fi ws (n_v vs 0) 9) (w_fi ws (n_v vs 0) 11) (w_fi ws (n_v vs 1) 2) k9 f1 f8 f14 kz_0_5 kz_0_6 kz_0_7 kz_0_8 kz_0_9 kz_0_11 kz_1_0 kz_1_1 kz_1_2
  have nf7 : fc_1 PRD (20, [0], [50, 1, 0, 2, 1, 3, 2, 0, 2, 0, 0]) ws (vs ++ [Value.int x]) := by
    refine ⟨nf_inA hl rfl, sgq_1985 ?_⟩
    · show w_fi ws (n_v (vs ++ [Value.int x]) 0) 2 = 0
      rw [e_0]
      exact vc_Re_readItem_2_7 (w_fi ws (n_v vs 0) 2) f9 kz_0_2
  have nf8 : fc_1 PRD (20, [1], [60, 1, 3, 1085, 1, 7, 8, 15]) ws (vs ++ [Value.int x]) := by
    refine ⟨nf_inA hl rfl, sgq_827 ?_⟩
    · show LKG (w_fi ws (n_v (vs ++ [Value.int x]) 1) 1) (w_ei ws (w_ar ws (n_v (vs ++ [Value.int x]) 1) 7)) (w_ei ws (w_ar ws (n_v (vs ++ [Value.int x]) 1) 8)) (w_ei ws (w_ar ws (n_v (vs ++ [Value.int x]) 1) 15))
      rw [e_1]
      exact vc_Re_readItem_2_8 (w_ei ws (w_ar ws (n_v vs 1) 7)) (w_ei ws (w_ar ws (n_v vs 1) 8)) (w_fi ws (n_v vs 1) 1) (w_ei ws (w_ar ws (n_v vs 1) 15)) f10 kz_1_1
  have nf9 : fc_1 PRD (20, [2, 10], [30, -1, 1, 0, 0, -1, 0, 0]) ws (vs ++ [Value.int x]) := by
    refine ⟨nf_inA hl rfl, sgq_2151 ?_⟩
    · show 1 * v_iv (n_v (vs ++ [Value.int x]) 2) + ((-1) * v_iv (n_v (vs ++ [Value.int x]) 10) + 0) ≤ (-1)
      simp only [e_2, e_10]
      exact vc_Re_readItem_2_9 (v_iv (n_v vs 2)) (v_iv (n_v vs 9)) (w_fi ws (n_v vs 0) 7) (w_fi ws (n_v vs 0) 6) (w_fi ws (n_v vs 0) 8) (w_ei ws (w_ar ws (n_v vs 1) 7)) (w_ei ws (w_ar ws (n_v vs 1) 8)) (w_fi ws (n_v vs 1) 0) (w_fi ws (n_v vs 1) 1) (w_ei ws (w_ar ws (n_v vs 0) 0)) (w_ei ws (w_ar ws (n_v vs 0) 10)) (w_ei ws (w_ar ws (n_v vs 1) 4)) (w_ei ws (w_ar ws (n_v vs 1) 3)) (w_fi ws (n_v vs 0) 5) (w_fi ws (n_v vs 0) 9) (w_fi ws (n_v vs 0) 11) (w_fi ws (n_v vs 1) 2) (v_iv (Value.int x)) k2 k9 f1 f3 f6 f7 f8 f13 f14 kz_0_5 kz_0_6 kz_0_7 kz_0_8 kz_0_9 kz_0_11 kz_1_0 kz_1_1 kz_1_2 ex2
  exact ⟨(fun _ h => (by cases h)), [Value.int x], ag_one hx, List.forall_mem_cons.mpr ⟨⟨show (20 : Nat) < 100 from by decide, nf0⟩, List.forall_mem_cons.mpr ⟨⟨show (20 : Nat) < 100 from by decide, nf1⟩, List.forall_mem_cons.mpr ⟨⟨show (20 : Nat) < 100 from by decide, nf2⟩, List.forall_mem_cons.mpr ⟨⟨show (20 : Nat) < 100 from by decide, nf3⟩, List.forall_mem_cons.mpr ⟨⟨show (20 : Nat) < 100 from by decide, nf4⟩, List.forall_mem_cons.mpr ⟨⟨show (20 : Nat) < 100 from by decide, nf5⟩, List.forall_mem_cons.mpr ⟨⟨show (20 : Nat) < 100 from by decide, nf6⟩, List.forall_mem_cons.mpr ⟨⟨show (20 : Nat) < 100 from by decide, nf7⟩, List.forall_mem_cons.mpr ⟨⟨show (20 : Nat) < 100 from by decide, nf8⟩, List.forall_mem_cons.mpr ⟨⟨show (20 : Nat) < 100 from by decide, nf9⟩, (fun _ h => (by cases h))⟩⟩⟩⟩⟩⟩⟩⟩⟩⟩, (fun _ h => (by cases h))⟩
set_option maxHeartbeats 4000000 in
theorem vc_Re_readItem_3_0 (x2 : Int) (x10 : Int) (x11 : Int) (next_0 : Int) (k2 : 0 ≤ x2 ∧ x2 ≤ 2000) (k10 : 0 ≤ x10 ∧ x10 ≤ 2000) (k11 : 0 ≤ x11 ∧ x11 ≤ 1) (f0 : 1 * x2 + ((-1) * x10 + 0) ≤ (-1)) (f4 : 1 * x10 + ((-1) * next_0 + 0) ≤ 0) (kz_0_6 : 0 ≤ next_0 ∧ next_0 ≤ 2000) : (1 * x11 + 0 ≤ 0) ∨ (1 * x2 + ((-1) * next_0 + 0) ≤ (-1)) := by
  first
    | omega
    | (have h := ri_lt ‹cRI _ _ _ _ _ _ _ _ _ _ _ _ _ _ _› (by omega); omega)
    | (have h := ri_lt ‹cRI _ _ _ _ _ _ _ _ _ _ _ _ _ _ _› (by have := (cwn_t ‹CWn _ _ _ _ _› (by omega)).1; omega); omega)
    | (have h := ri_lt ‹cRI _ _ _ _ _ _ _ _ _ _ _ _ _ _ _› (by have := (cwg_t ‹CWg _ _ _ _ _› (by omega)).1; omega); omega)
    | (have h := ri_lt ‹cRI _ _ _ _ _ _ _ _ _ _ _ _ _ _ _› (by have := (cnm_t ‹CNM _ _ _ _ _› (by omega)).1; omega); omega)
def o_Re_readItem_3 : or_T := (75, 12, [(0, (2, 0, 0, [8])), (1, (2, 0, 0, [164])), (2, (0, 0, 2000, [])), (10, (0, 0, 2000, [])), (11, (0, 0, 1, []))], [(20, [2, 10], [30, -1, 1, 0, 0, -1, 0, 0]), (20, [1], [60, 2, 3, 670, 0, 1, 14, 7, 8]), (20, [1], [60, 2, 2, 596, 0, 1, 7, 8]), (20, [0, 1, 11], [60, 8, 6, 1063, 5, 6, 11, 2, 3, 1000, 1001, 1002, 0, 10, 1004, 1003, 1007, 1008]), (20, [10, 0], [30, 0, 1, 0, 0, -1, 1, 6]), (20, [1], [60, 1, 3, 1085, 1, 7, 8, 15])], [], [], [(20, [11, 2, 0], [31, 1, 0, 1, 0, 0, -1, 1, 0, 0, -1, 1, 6])], [], [])
theorem oo_Re_readItem_3 {kA : Nat → ClassId} : or_ok PRD kA GG o_Re_readItem_3 := by
  refine or_mk fun A ta ws vs hD hth hl => ?_
  intro t0 r0 t1 r1 t2 k2 t10 k10 t11 k11 f0 f1 f2 f3 f4 f5
  have kz_0_6 := fdq_208 hD hth r0
  have nf0 : fc_1 PRD (20, [11, 2, 0], [31, 1, 0, 1, 0, 0, -1, 1, 0, 0, -1, 1, 6]) ws (vs) := ⟨nf_in hl rfl, sgq_2150 (vc_Re_readItem_3_0 (v_iv (n_v vs 2)) (v_iv (n_v vs 10)) (v_iv (n_v vs 11)) (w_fi ws (n_v vs 0) 6) k2 k10 k11 (shm_2151 f0) (shm_1527 f4) kz_0_6)⟩
  refine ⟨(fun _ h => (by cases h)), [], trivial, ?_, (fun _ h => (by cases h))⟩
  rw [List.append_nil]
  exact List.forall_mem_cons.mpr ⟨⟨show (20 : Nat) < 100 from by decide, nf0⟩, (fun _ h => (by cases h))⟩
set_option maxHeartbeats 4000000 in
theorem vc_Re_readItem_4_0 (near_0o1 : Int → Int) (tail_0o1 : Int → Int) (head_0o1 : Int → Int) (nodes_0o1 : Int) (edges_0o1 : Int) (f4 : GNB (nodes_0o1) (edges_0o1) (near_0o1) (tail_0o1) (head_0o1)) (kz_1_0 : 0 ≤ nodes_0o1 ∧ nodes_0o1 ≤ 24) (kz_1_1 : 0 ≤ edges_0o1 ∧ edges_0o1 ≤ 48) : GNB (nodes_0o1) (edges_0o1) (near_0o1) (tail_0o1) (head_0o1) := by
  first
    | assumption
  
set_option maxHeartbeats 4000000 in
theorem vc_Re_readItem_4_1 (tail_0o1 : Int → Int) (head_0o1 : Int → Int) (nodes_0o1 : Int) (edges_0o1 : Int) (f5 : GKE (nodes_0o1) (edges_0o1) (tail_0o1) (head_0o1)) (kz_1_0 : 0 ≤ nodes_0o1 ∧ nodes_0o1 ≤ 24) (kz_1_1 : 0 ≤ edges_0o1 ∧ edges_0o1 ≤ 48) : GKE (nodes_0o1) (edges_0o1) (tail_0o1) (head_0o1) := by
  first
    | assumption
  
set_option maxHeartbeats 4000000 in
theorem vc_Re_readItem_4_2 (next_0 : Int) (gx : Int) (kz_0_6 : 0 ≤ next_0 ∧ next_0 ≤ 2000) (ex2 : gx = next_0) : 1 * next_0 + ((-1) * gx + 0) ≤ 0 := by
  first
    | omega
    | (have h := ri_lt ‹cRI _ _ _ _ _ _ _ _ _ _ _ _ _ _ _› (by omega); omega)
    | (have h := ri_lt ‹cRI _ _ _ _ _ _ _ _ _ _ _ _ _ _ _› (by have := (cwn_t ‹CWn _ _ _ _ _› (by omega)).1; omega); omega)
    | (have h := ri_lt ‹cRI _ _ _ _ _ _ _ _ _ _ _ _ _ _ _› (by have := (cwg_t ‹CWg _ _ _ _ _› (by omega)).1; omega); omega)
    | (have h := ri_lt ‹cRI _ _ _ _ _ _ _ _ _ _ _ _ _ _ _› (by have := (cnm_t ‹CNM _ _ _ _ _› (by omega)).1; omega); omega)
set_option maxHeartbeats 4000000 in
theorem vc_Re_readItem_4_3 (next_0 : Int) (gx : Int) (kz_0_6 : 0 ≤ next_0 ∧ next_0 ≤ 2000) (ex2 : gx = next_0) : (-1) * next_0 + (1 * gx + 0) ≤ 0 := by
  first
    | omega
    | (have h := ri_lt ‹cRI _ _ _ _ _ _ _ _ _ _ _ _ _ _ _› (by omega); omega)
    | (have h := ri_lt ‹cRI _ _ _ _ _ _ _ _ _ _ _ _ _ _ _› (by have := (cwn_t ‹CWn _ _ _ _ _› (by omega)).1; omega); omega)
    | (have h := ri_lt ‹cRI _ _ _ _ _ _ _ _ _ _ _ _ _ _ _› (by have := (cwg_t ‹CWg _ _ _ _ _› (by omega)).1; omega); omega)
    | (have h := ri_lt ‹cRI _ _ _ _ _ _ _ _ _ _ _ _ _ _ _› (by have := (cnm_t ‹CNM _ _ _ _ _› (by omega)).1; omega); omega)
set_option maxHeartbeats 4000000 in
theorem vc_Re_readItem_4_4 (x8 : Int) (kind_0 : Int) (next_0 : Int) (begin_0 : Int) (tail_0o1 : Int → Int) (head_0o1 : Int → Int) (nodes_0o1 : Int) (edges_0o1 : Int) (tape_0 : Int → Int) (open_0 : Int → Int) (nameLength_0o1 : Int → Int) (name_0o1 : Int → Int) (end_0 : Int) (number_0 : Int) (depth_0 : Int) (groups_0o1 : Int) (k8 : 1 ≤ x8 ∧ x8 ≤ 1) (f1 : x8 ≠ 0) (f8 : cRI (end_0) (next_0) (kind_0) (begin_0) (number_0) (depth_0) (nodes_0o1) (edges_0o1) (groups_0o1) (tape_0) (open_0) (nameLength_0o1) (name_0o1) (tail_0o1) (head_0o1)) (f12 : CWg (kind_0) (next_0) (begin_0) (tape_0) (x8)) (kz_0_5 : 0 ≤ end_0 ∧ end_0 ≤ 2000) (kz_0_6 : 0 ≤ next_0 ∧ next_0 ≤ 2000) (kz_0_7 : (-128) ≤ kind_0 ∧ kind_0 ≤ 127) (kz_0_8 : 0 ≤ begin_0 ∧ begin_0 ≤ 2000) (kz_0_9 : (-176) ≤ number_0 ∧ number_0 ≤ 1000000) (kz_0_11 : 0 ≤ depth_0 ∧ depth_0 ≤ 4) (kz_1_0 : 0 ≤ nodes_0o1 ∧ nodes_0o1 ≤ 24) (kz_1_1 : 0 ≤ edges_0o1 ∧ edges_0o1 ≤ 48) (kz_1_2 : 0 ≤ groups_0o1 ∧ groups_0o1 ≤ 8) : cRGp (end_0) (next_0) (kind_0) (begin_0) (number_0) (depth_0) (nodes_0o1) (edges_0o1) (groups_0o1) (tape_0) (open_0) (nameLength_0o1) (name_0o1) (tail_0o1) (head_0o1) := by
  exact i_g ‹cRI _ _ _ _ _ _ _ _ _ _ _ _ _ _ _› (cwg_t ‹CWg _ _ _ _ _› (by omega))
set_option maxHeartbeats 4000000 in
theorem vc_Re_readItem_4_5 (fault_0 : Int) (f9 : fault_0 = 0) (kz_0_2 : (-1) ≤ fault_0 ∧ fault_0 ≤ 5) : fault_0 = 0 := by
  first
    | omega
    | (have h := ri_lt ‹cRI _ _ _ _ _ _ _ _ _ _ _ _ _ _ _› (by omega); omega)
    | (have h := ri_lt ‹cRI _ _ _ _ _ _ _ _ _ _ _ _ _ _ _› (by have := (cwn_t ‹CWn _ _ _ _ _› (by omega)).1; omega); omega)
    | (have h := ri_lt ‹cRI _ _ _ _ _ _ _ _ _ _ _ _ _ _ _› (by have := (cwg_t ‹CWg _ _ _ _ _› (by omega)).1; omega); omega)
    | (have h := ri_lt ‹cRI _ _ _ _ _ _ _ _ _ _ _ _ _ _ _› (by have := (cnm_t ‹CNM _ _ _ _ _› (by omega)).1; omega); omega)
set_option maxHeartbeats 4000000 in
theorem vc_Re_readItem_4_6 (x2 : Int) (x8 : Int) (kind_0 : Int) (next_0 : Int) (begin_0 : Int) (tail_0o1 : Int → Int) (head_0o1 : Int → Int) (nodes_0o1 : Int) (edges_0o1 : Int) (tape_0 : Int → Int) (open_0 : Int → Int) (nameLength_0o1 : Int → Int) (name_0o1 : Int → Int) (end_0 : Int) (number_0 : Int) (depth_0 : Int) (groups_0o1 : Int) (gx : Int) (k2 : 0 ≤ x2 ∧ x2 ≤ 2000) (k8 : 1 ≤ x8 ∧ x8 ≤ 1) (f1 : x8 ≠ 0) (f6 : 1 * begin_0 + ((-1) * x2 + 0) ≤ 0) (f7 : (-1) * begin_0 + (1 * x2 + 0) ≤ 0) (f8 : cRI (end_0) (next_0) (kind_0) (begin_0) (number_0) (depth_0) (nodes_0o1) (edges_0o1) (groups_0o1) (tape_0) (open_0) (nameLength_0o1) (name_0o1) (tail_0o1) (head_0o1)) (f12 : CWg (kind_0) (next_0) (begin_0) (tape_0) (x8)) (kz_0_5 : 0 ≤ end_0 ∧ end_0 ≤ 2000) (kz_0_6 : 0 ≤ next_0 ∧ next_0 ≤ 2000) (kz_0_7 : (-128) ≤ kind_0 ∧ kind_0 ≤ 127) (kz_0_8 : 0 ≤ begin_0 ∧ begin_0 ≤ 2000) (kz_0_9 : (-176) ≤ number_0 ∧ number_0 ≤ 1000000) (kz_0_11 : 0 ≤ depth_0 ∧ depth_0 ≤ 4) (kz_1_0 : 0 ≤ nodes_0o1 ∧ nodes_0o1 ≤ 24) (kz_1_1 : 0 ≤ edges_0o1 ∧ edges_0o1 ≤ 48) (kz_1_2 : 0 ≤ groups_0o1 ∧ groups_0o1 ≤ 8) (ex2 : gx = next_0) : 1 * x2 + ((-1) * gx + 0) ≤ (-1) := by
  first
    | omega
    | (have h := ri_lt ‹cRI _ _ _ _ _ _ _ _ _ _ _ _ _ _ _› (by omega); omega)
    | (have h := ri_lt ‹cRI _ _ _ _ _ _ _ _ _ _ _ _ _ _ _› (by have := (cwn_t ‹CWn _ _ _ _ _› (by omega)).1; omega); omega)
    | (have h := ri_lt ‹cRI _ _ _ _ _ _ _ _ _ _ _ _ _ _ _› (by have := (cwg_t ‹CWg _ _ _ _ _› (by omega)).1; omega); omega)
    | (have h := ri_lt ‹cRI _ _ _ _ _ _ _ _ _ _ _ _ _ _ _› (by have := (cnm_t ‹CNM _ _ _ _ _› (by omega)).1; omega); omega)
def o_Re_readItem_4 : or_T := (52, 9, [(0, (2, 0, 0, [8])), (1, (2, 0, 0, [164])), (2, (0, 0, 2000, [])), (8, (0, 1, 1, []))], [(8, [8], [1]), (20, [1], [60, 2, 3, 670, 0, 1, 14, 7, 8]), (20, [1], [60, 2, 2, 596, 0, 1, 7, 8]), (20, [0, 2], [30, 0, 1, 1, 8, -1, 0, 0]), (20, [0, 2], [30, 0, -1, 1, 8, 1, 0, 0]), (20, [0, 1], [60, 9, 6, 1058, 5, 6, 7, 8, 9, 11, 1000, 1001, 1002, 0, 10, 1004, 1003, 1007, 1008]), (20, [0], [50, 1, 0, 2, 1, 3, 2, 0, 2, 0, 0]), (20, [0, 8], [60, 3, 1, 1081, 7, 6, 8, 0])], [], [(0, 0, 2000, [])], [(20, [1], [60, 2, 3, 670, 0, 1, 14, 7, 8]), (20, [1], [60, 2, 2, 596, 0, 1, 7, 8]), (20, [0, 9], [30, 0, 1, 1, 6, -1, 0, 0]), (20, [0, 9], [30, 0, -1, 1, 6, 1, 0, 0]), (20, [0, 1], [60, 9, 6, 1059, 5, 6, 7, 8, 9, 11, 1000, 1001, 1002, 0, 10, 1004, 1003, 1007, 1008]), (20, [0], [50, 1, 0, 2, 1, 3, 2, 0, 2, 0, 0]), (20, [2, 9], [30, -1, 1, 0, 0, -1, 0, 0])], [], [])
theorem oo_Re_readItem_4 {kA : Nat → ClassId} : or_ok PRD kA GG o_Re_readItem_4 := by
  refine or_mk fun A ta ws vs hD hth hl => ?_
  intro t0 r0 t1 r1 t2 k2 t8 k8 f1 f4 f5 f6 f7 f8 f9 f12
  replace f1 := shm_142 f1
  replace f4 := shm_825 f4
  replace f5 := shm_386 f5
  replace f6 := shm_303 f6
  replace f7 := shm_304 f7
  replace f8 := shm_2149 f8
  replace f9 := shm_1985 f9
  replace f12 := shm_1829 f12
  have kz_0_2 := fdq_97 hD hth r0
  have kz_0_5 := fdq_207 hD hth r0
  have kz_0_6 := fdq_208 hD hth r0
  have kz_0_7 := fdq_297 hD hth r0
  have kz_0_8 := fdq_99 hD hth r0
  have kz_0_9 := fdq_296 hD hth r0
  have kz_0_11 := fdq_320 hD hth r0
  have kz_1_0 := fdq_73 hD hth r1
  have kz_1_1 := fdq_74 hD hth r1
  have kz_1_2 := fdq_206 hD hth r1
  obtain ⟨x, ex, hx⟩ := iv_ex (ta := ta) (lo := 0) (hi := 2000) (z := w_fi ws (n_v vs 0) 6) (by omega) (by omega) (by omega) (by omega)
  have ex2 : v_iv (Value.int x) = w_fi ws (n_v vs 0) 6 := ex
  have ex3 : 0 ≤ v_iv (Value.int x) ∧ v_iv (Value.int x) ≤ 2000 := tv_rng hx
  have e_0 : n_v (vs ++ [Value.int x]) 0 = n_v vs 0 := n_v_old (by rw [hl]; decide)
  have e_1 : n_v (vs ++ [Value.int x]) 1 = n_v vs 1 := n_v_old (by rw [hl]; decide)
  have e_2 : n_v (vs ++ [Value.int x]) 2 = n_v vs 2 := n_v_old (by rw [hl]; decide)
  have e_9 : n_v (vs ++ [Value.int x]) 9 = Value.int x := n_v_new hl
  have nf0 : fc_1 PRD (20, [1], [60, 2, 3, 670, 0, 1, 14, 7, 8]) ws (vs ++ [Value.int x]) := by
    refine ⟨nf_inA hl rfl, sgq_825 ?_⟩
    · show GNB (w_fi ws (n_v (vs ++ [Value.int x]) 1) 0) (w_fi ws (n_v (vs ++ [Value.int x]) 1) 1) (w_ei ws (w_ar ws (n_v (vs ++ [Value.int x]) 1) 14)) (w_ei ws (w_ar ws (n_v (vs ++ [Value.int x]) 1) 7)) (w_ei ws (w_ar ws (n_v (vs ++ [Value.int x]) 1) 8))
      rw [e_1]
      exact vc_Re_readItem_4_0 (w_ei ws (w_ar ws (n_v vs 1) 14)) (w_ei ws (w_ar ws (n_v vs 1) 7)) (w_ei ws (w_ar ws (n_v vs 1) 8)) (w_fi ws (n_v vs 1) 0) (w_fi ws (n_v vs 1) 1) f4 kz_1_0 kz_1_1
  have nf1 : fc_1 PRD (20, [1], [60, 2, 2, 596, 0, 1, 7, 8]) ws (vs ++ [Value.int x]) := by
    refine ⟨nf_inA hl rfl, sgq_386 ?_⟩
    · show GKE (w_fi ws (n_v (vs ++ [Value.int x]) 1) 0) (w_fi ws (n_v (vs ++ [Value.int x]) 1) 1) (w_ei ws (w_ar ws (n_v (vs ++ [Value.int x]) 1) 7)) (w_ei ws (w_ar ws (n_v (vs ++ [Value.int x]) 1) 8))
      rw [e_1]
      exact vc_Re_readItem_4_1 (w_ei ws (w_ar ws (n_v vs 1) 7)) (w_ei ws (w_ar ws (n_v vs 1) 8)) (w_fi ws (n_v vs 1) 0) (w_fi ws (n_v vs 1) 1) f5 kz_1_0 kz_1_1
  have nf2 : fc_1 PRD (20, [0, 9], [30, 0, 1, 1, 6, -1, 0, 0]) ws (vs ++ [Value.int x]) := by
    refine ⟨nf_inA hl rfl, sgq_1523 ?_⟩
    · show 1 * w_fi ws (n_v (vs ++ [Value.int x]) 0) 6 + ((-1) * v_iv (n_v (vs ++ [Value.int x]) 9) + 0) ≤ 0
      simp only [e_0, e_9]
      exact vc_Re_readItem_4_2 (w_fi ws (n_v vs 0) 6) (v_iv (Value.int x)) kz_0_6 ex2
  have nf3 : fc_1 PRD (20, [0, 9], [30, 0, -1, 1, 6, 1, 0, 0]) ws (vs ++ [Value.int x]) := by
    refine ⟨nf_inA hl rfl, sgq_1524 ?_⟩
    · show (-1) * w_fi ws (n_v (vs ++ [Value.int x]) 0) 6 + (1 * v_iv (n_v (vs ++ [Value.int x]) 9) + 0) ≤ 0
      simp only [e_0, e_9]
      exact vc_Re_readItem_4_3 (w_fi ws (n_v vs 0) 6) (v_iv (Value.int x)) kz_0_6 ex2
  have nf4 : fc_1 PRD (20, [0, 1], [60, 9, 6, 1059, 5, 6, 7, 8, 9, 11, 1000, 1001, 1002, 0, 10, 1004, 1003, 1007, 1008]) ws (vs ++ [Value.int x]) := by
    refine ⟨nf_inA hl rfl, sgq_2022 ?_⟩
    · show cRGp (w_fi ws (n_v (vs ++ [Value.int x]) 0) 5) (w_fi ws (n_v (vs ++ [Value.int x]) 0) 6) (w_fi ws (n_v (vs ++ [Value.int x]) 0) 7) (w_fi ws (n_v (vs ++ [Value.int x]) 0) 8) (w_fi ws (n_v (vs ++ [Value.int x]) 0) 9) (w_fi ws (n_v (vs ++ [Value.int x]) 0) 11) (w_fi ws (n_v (vs ++ [Value.int x]) 1) 0) (w_fi ws (n_v (vs ++ [Value.int x]) 1) 1) (w_fi ws (n_v (vs ++ [Value.int x]) 1) 2) (w_ei ws (w_ar ws (n_v (vs ++ [Value.int x]) 0) 0)) (w_ei ws (w_ar ws (n_v (vs ++ [Value.int x]) 0) 10)) (w_ei ws (w_ar ws (n_v (vs ++ [Value.int x]) 1) 4)) (w_ei ws (w_ar ws (n_v (vs ++ [Value.int x]) 1) 3)) (w_ei ws (w_ar ws (n_v (vs ++ [Value.int x]) 1) 7)) (w_ei ws (w_ar ws (n_v (vs ++ [Value.int x]) 1) 8))
      simp only [e_0, e_1]
      exact vc_Re_readItem_4_4 (v_iv (n_v vs 8)) (w_fi ws (n_v vs 0) 7) (w_fi ws (n_v vs 0) 6) (w_fi ws (n_v vs 0) 8) (w_ei ws (w_ar ws (n_v vs 1) 7)) (w_ei ws (w_ar ws (n_v vs 1) 8)) (w_fi ws (n_v vs 1) 0) (w_fi ws (n_v vs 1) 1) (w_ei ws (w_ar ws (n_v vs 0) 0)) (w_ei ws (w_ar ws (n_v vs 0) 10)) (w_ei ws (w_ar ws (n_v vs 1) 4)) (w_ei ws (w_ar ws (n_v vs 1) 3)) (w_fi ws (n_v vs 0) 5) (w_fi ws (n_v vs 0) 9) (w_fi ws (n_v vs 0) 11) (w_fi ws (n_v vs 1) 2) k8 f1 f8 f12 kz_0_5 kz_0_6 kz_0_7 kz_0_8 kz_0_9 kz_0_11 kz_1_0 kz_1_1 kz_1_2
  have nf5 : fc_1 PRD (20, [0], [50, 1, 0, 2, 1, 3, 2, 0, 2, 0, 0]) ws (vs ++ [Value.int x]) := by
    refine ⟨nf_inA hl rfl, sgq_1985 ?_⟩
    · show w_fi ws (n_v (vs ++ [Value.int x]) 0) 2 = 0
      rw [e_0]
      exact vc_Re_readItem_4_5 (w_fi ws (n_v vs 0) 2) f9 kz_0_2
  have nf6 : fc_1 PRD (20, [2, 9], [30, -1, 1, 0, 0, -1, 0, 0]) ws (vs ++ [Value.int x]) := by
    refine ⟨nf_inA hl rfl, sgq_2151 ?_⟩
    · show 1 * v_iv (n_v (vs ++ [Value.int x]) 2) + ((-1) * v_iv (n_v (vs ++ [Value.int x]) 9) + 0) ≤ (-1)
      simp only [e_2, e_9]
      exact vc_Re_readItem_4_6 (v_iv (n_v vs 2)) (v_iv (n_v vs 8)) (w_fi ws (n_v vs 0) 7) (w_fi ws (n_v vs 0) 6) (w_fi ws (n_v vs 0) 8) (w_ei ws (w_ar ws (n_v vs 1) 7)) (w_ei ws (w_ar ws (n_v vs 1) 8)) (w_fi ws (n_v vs 1) 0) (w_fi ws (n_v vs 1) 1) (w_ei ws (w_ar ws (n_v vs 0) 0)) (w_ei ws (w_ar ws (n_v vs 0) 10)) (w_ei ws (w_ar ws (n_v vs 1) 4)) (w_ei ws (w_ar ws (n_v vs 1) 3)) (w_fi ws (n_v vs 0) 5) (w_fi ws (n_v vs 0) 9) (w_fi ws (n_v vs 0) 11) (w_fi ws (n_v vs 1) 2) (v_iv (Value.int x)) k2 k8 f1 f6 f7 f8 f12 kz_0_5 kz_0_6 kz_0_7 kz_0_8 kz_0_9 kz_0_11 kz_1_0 kz_1_1 kz_1_2 ex2
  exact ⟨(fun _ h => (by cases h)), [Value.int x], ag_one hx, List.forall_mem_cons.mpr ⟨⟨show (20 : Nat) < 100 from by decide, nf0⟩, List.forall_mem_cons.mpr ⟨⟨show (20 : Nat) < 100 from by decide, nf1⟩, List.forall_mem_cons.mpr ⟨⟨show (20 : Nat) < 100 from by decide, nf2⟩, List.forall_mem_cons.mpr ⟨⟨show (20 : Nat) < 100 from by decide, nf3⟩, List.forall_mem_cons.mpr ⟨⟨show (20 : Nat) < 100 from by decide, nf4⟩, List.forall_mem_cons.mpr ⟨⟨show (20 : Nat) < 100 from by decide, nf5⟩, List.forall_mem_cons.mpr ⟨⟨show (20 : Nat) < 100 from by decide, nf6⟩, (fun _ h => (by cases h))⟩⟩⟩⟩⟩⟩⟩, (fun _ h => (by cases h))⟩
set_option maxHeartbeats 4000000 in
theorem vc_Re_readItem_5_0 (x2 : Int) (x10 : Int) (next_0 : Int) (k2 : 0 ≤ x2 ∧ x2 ≤ 2000) (k10 : 0 ≤ x10 ∧ x10 ≤ 0) (kz_0_6 : 0 ≤ next_0 ∧ next_0 ≤ 2000) : (1 * x10 + 0 ≤ 0) ∨ (1 * x2 + ((-1) * next_0 + 0) ≤ (-1)) := by
  first
    | omega
    | (have h := ri_lt ‹cRI _ _ _ _ _ _ _ _ _ _ _ _ _ _ _› (by omega); omega)
    | (have h := ri_lt ‹cRI _ _ _ _ _ _ _ _ _ _ _ _ _ _ _› (by have := (cwn_t ‹CWn _ _ _ _ _› (by omega)).1; omega); omega)
    | (have h := ri_lt ‹cRI _ _ _ _ _ _ _ _ _ _ _ _ _ _ _› (by have := (cwg_t ‹CWg _ _ _ _ _› (by omega)).1; omega); omega)
    | (have h := ri_lt ‹cRI _ _ _ _ _ _ _ _ _ _ _ _ _ _ _› (by have := (cnm_t ‹CNM _ _ _ _ _› (by omega)).1; omega); omega)
def o_Re_readItem_5 : or_T := (55, 11, [(0, (2, 0, 0, [8])), (1, (2, 0, 0, [164])), (2, (0, 0, 2000, [])), (9, (0, 0, 2000, [])), (10, (0, 0, 0, []))], [(20, [2, 9], [30, -1, 1, 0, 0, -1, 0, 0]), (20, [1], [60, 1, 3, 1085, 1, 7, 8, 15]), (20, [1], [60, 2, 3, 670, 0, 1, 14, 7, 8]), (20, [1], [60, 2, 2, 596, 0, 1, 7, 8]), (20, [0, 1, 10], [60, 8, 6, 1063, 5, 6, 11, 2, 3, 1000, 1001, 1002, 0, 10, 1004, 1003, 1007, 1008]), (20, [9, 0], [30, 0, 1, 0, 0, -1, 1, 6])], [], [], [(20, [10, 2, 0], [31, 1, 0, 1, 0, 0, -1, 1, 0, 0, -1, 1, 6])], [], [])
theorem oo_Re_readItem_5 {kA : Nat → ClassId} : or_ok PRD kA GG o_Re_readItem_5 := by
  refine or_mk fun A ta ws vs hD hth hl => ?_
  intro t0 r0 t1 r1 t2 k2 t9 k9 t10 k10 f0 f1 f2 f3 f4 f5
  have kz_0_6 := fdq_208 hD hth r0
  have nf0 : fc_1 PRD (20, [10, 2, 0], [31, 1, 0, 1, 0, 0, -1, 1, 0, 0, -1, 1, 6]) ws (vs) := ⟨nf_in hl rfl, sgq_2150 (vc_Re_readItem_5_0 (v_iv (n_v vs 2)) (v_iv (n_v vs 10)) (w_fi ws (n_v vs 0) 6) k2 k10 kz_0_6)⟩
  refine ⟨(fun _ h => (by cases h)), [], trivial, ?_, (fun _ h => (by cases h))⟩
  rw [List.append_nil]
  exact List.forall_mem_cons.mpr ⟨⟨show (20 : Nat) < 100 from by decide, nf0⟩, (fun _ h => (by cases h))⟩
set_option maxHeartbeats 4000000 in
theorem vc_Re_readItem_6_0 (x2 : Int) (x9 : Int) (x10 : Int) (next_0 : Int) (k2 : 0 ≤ x2 ∧ x2 ≤ 2000) (k9 : 0 ≤ x9 ∧ x9 ≤ 2000) (k10 : 1 ≤ x10 ∧ x10 ≤ 1) (f0 : 1 * x2 + ((-1) * x9 + 0) ≤ (-1)) (f5 : 1 * x9 + ((-1) * next_0 + 0) ≤ 0) (kz_0_6 : 0 ≤ next_0 ∧ next_0 ≤ 2000) : (1 * x10 + 0 ≤ 0) ∨ (1 * x2 + ((-1) * next_0 + 0) ≤ (-1)) := by
  first
    | omega
    | (have h := ri_lt ‹cRI _ _ _ _ _ _ _ _ _ _ _ _ _ _ _› (by omega); omega)
    | (have h := ri_lt ‹cRI _ _ _ _ _ _ _ _ _ _ _ _ _ _ _› (by have := (cwn_t ‹CWn _ _ _ _ _› (by omega)).1; omega); omega)
    | (have h := ri_lt ‹cRI _ _ _ _ _ _ _ _ _ _ _ _ _ _ _› (by have := (cwg_t ‹CWg _ _ _ _ _› (by omega)).1; omega); omega)
    | (have h := ri_lt ‹cRI _ _ _ _ _ _ _ _ _ _ _ _ _ _ _› (by have := (cnm_t ‹CNM _ _ _ _ _› (by omega)).1; omega); omega)
def o_Re_readItem_6 : or_T := (55, 11, [(0, (2, 0, 0, [8])), (1, (2, 0, 0, [164])), (2, (0, 0, 2000, [])), (9, (0, 0, 2000, [])), (10, (0, 1, 1, []))], [(20, [2, 9], [30, -1, 1, 0, 0, -1, 0, 0]), (20, [1], [60, 1, 3, 1085, 1, 7, 8, 15]), (20, [1], [60, 2, 3, 670, 0, 1, 14, 7, 8]), (20, [1], [60, 2, 2, 596, 0, 1, 7, 8]), (20, [0, 1, 10], [60, 8, 6, 1063, 5, 6, 11, 2, 3, 1000, 1001, 1002, 0, 10, 1004, 1003, 1007, 1008]), (20, [9, 0], [30, 0, 1, 0, 0, -1, 1, 6])], [], [], [(20, [10, 2, 0], [31, 1, 0, 1, 0, 0, -1, 1, 0, 0, -1, 1, 6])], [], [])
theorem oo_Re_readItem_6 {kA : Nat → ClassId} : or_ok PRD kA GG o_Re_readItem_6 := by
  refine or_mk fun A ta ws vs hD hth hl => ?_
  intro t0 r0 t1 r1 t2 k2 t9 k9 t10 k10 f0 f1 f2 f3 f4 f5
  have kz_0_6 := fdq_208 hD hth r0
  have nf0 : fc_1 PRD (20, [10, 2, 0], [31, 1, 0, 1, 0, 0, -1, 1, 0, 0, -1, 1, 6]) ws (vs) := ⟨nf_in hl rfl, sgq_2150 (vc_Re_readItem_6_0 (v_iv (n_v vs 2)) (v_iv (n_v vs 9)) (v_iv (n_v vs 10)) (w_fi ws (n_v vs 0) 6) k2 k9 k10 (shm_2151 f0) (shm_1527 f5) kz_0_6)⟩
  refine ⟨(fun _ h => (by cases h)), [], trivial, ?_, (fun _ h => (by cases h))⟩
  rw [List.append_nil]
  exact List.forall_mem_cons.mpr ⟨⟨show (20 : Nat) < 100 from by decide, nf0⟩, (fun _ h => (by cases h))⟩
set_option maxHeartbeats 4000000 in
theorem vc_Re_readItem_7_0 (near_0o1 : Int → Int) (tail_0o1 : Int → Int) (head_0o1 : Int → Int) (nodes_0o1 : Int) (edges_0o1 : Int) (f4 : GNB (nodes_0o1) (edges_0o1) (near_0o1) (tail_0o1) (head_0o1)) (kz_1_0 : 0 ≤ nodes_0o1 ∧ nodes_0o1 ≤ 24) (kz_1_1 : 0 ≤ edges_0o1 ∧ edges_0o1 ≤ 48) : GNB (nodes_0o1) (edges_0o1) (near_0o1) (tail_0o1) (head_0o1) := by
  first
    | assumption
  
set_option maxHeartbeats 4000000 in
theorem vc_Re_readItem_7_1 (tail_0o1 : Int → Int) (head_0o1 : Int → Int) (nodes_0o1 : Int) (edges_0o1 : Int) (f5 : GKE (nodes_0o1) (edges_0o1) (tail_0o1) (head_0o1)) (kz_1_0 : 0 ≤ nodes_0o1 ∧ nodes_0o1 ≤ 24) (kz_1_1 : 0 ≤ edges_0o1 ∧ edges_0o1 ≤ 48) : GKE (nodes_0o1) (edges_0o1) (tail_0o1) (head_0o1) := by
  first
    | assumption
  
set_option maxHeartbeats 4000000 in
theorem vc_Re_readItem_7_2 (next_0 : Int) (gx : Int) (kz_0_6 : 0 ≤ next_0 ∧ next_0 ≤ 2000) (ex2 : gx = next_0) : 1 * next_0 + ((-1) * gx + 0) ≤ 0 := by
  first
    | omega
    | (have h := ri_lt ‹cRI _ _ _ _ _ _ _ _ _ _ _ _ _ _ _› (by omega); omega)
    | (have h := ri_lt ‹cRI _ _ _ _ _ _ _ _ _ _ _ _ _ _ _› (by have := (cwn_t ‹CWn _ _ _ _ _› (by omega)).1; omega); omega)
    | (have h := ri_lt ‹cRI _ _ _ _ _ _ _ _ _ _ _ _ _ _ _› (by have := (cwg_t ‹CWg _ _ _ _ _› (by omega)).1; omega); omega)
    | (have h := ri_lt ‹cRI _ _ _ _ _ _ _ _ _ _ _ _ _ _ _› (by have := (cnm_t ‹CNM _ _ _ _ _› (by omega)).1; omega); omega)
set_option maxHeartbeats 4000000 in
theorem vc_Re_readItem_7_3 (next_0 : Int) (gx : Int) (kz_0_6 : 0 ≤ next_0 ∧ next_0 ≤ 2000) (ex2 : gx = next_0) : (-1) * next_0 + (1 * gx + 0) ≤ 0 := by
  first
    | omega
    | (have h := ri_lt ‹cRI _ _ _ _ _ _ _ _ _ _ _ _ _ _ _› (by omega); omega)
    | (have h := ri_lt ‹cRI _ _ _ _ _ _ _ _ _ _ _ _ _ _ _› (by have := (cwn_t ‹CWn _ _ _ _ _› (by omega)).1; omega); omega)
    | (have h := ri_lt ‹cRI _ _ _ _ _ _ _ _ _ _ _ _ _ _ _› (by have := (cwg_t ‹CWg _ _ _ _ _› (by omega)).1; omega); omega)
    | (have h := ri_lt ‹cRI _ _ _ _ _ _ _ _ _ _ _ _ _ _ _› (by have := (cnm_t ‹CNM _ _ _ _ _› (by omega)).1; omega); omega)
set_option maxHeartbeats 4000000 in
theorem vc_Re_readItem_7_4 (x6 : Int) (kind_0 : Int) (next_0 : Int) (begin_0 : Int) (tail_0o1 : Int → Int) (head_0o1 : Int → Int) (nodes_0o1 : Int) (edges_0o1 : Int) (tape_0 : Int → Int) (open_0 : Int → Int) (nameLength_0o1 : Int → Int) (name_0o1 : Int → Int) (end_0 : Int) (number_0 : Int) (depth_0 : Int) (groups_0o1 : Int) (gx : Int) (k6 : 1 ≤ x6 ∧ x6 ≤ 1) (f1 : x6 ≠ 0) (f8 : cRI (end_0) (next_0) (kind_0) (begin_0) (number_0) (depth_0) (nodes_0o1) (edges_0o1) (groups_0o1) (tape_0) (open_0) (nameLength_0o1) (name_0o1) (tail_0o1) (head_0o1)) (f11 : CWn (kind_0) (next_0) (begin_0) (tape_0) (x6)) (kz_0_5 : 0 ≤ end_0 ∧ end_0 ≤ 2000) (kz_0_6 : 0 ≤ next_0 ∧ next_0 ≤ 2000) (kz_0_7 : (-128) ≤ kind_0 ∧ kind_0 ≤ 127) (kz_0_8 : 0 ≤ begin_0 ∧ begin_0 ≤ 2000) (kz_0_9 : (-176) ≤ number_0 ∧ number_0 ≤ 1000000) (kz_0_11 : 0 ≤ depth_0 ∧ depth_0 ≤ 4) (kz_1_0 : 0 ≤ nodes_0o1 ∧ nodes_0o1 ≤ 24) (kz_1_1 : 0 ≤ edges_0o1 ∧ edges_0o1 ≤ 48) (kz_1_2 : 0 ≤ groups_0o1 ∧ groups_0o1 ≤ 8) (ex2 : gx = next_0) : cG1 (end_0) (depth_0) (nodes_0o1) (edges_0o1) (groups_0o1) (tape_0) (open_0) (nameLength_0o1) (name_0o1) (tail_0o1) (head_0o1) (gx) := by
  exact i_n ‹cRI _ _ _ _ _ _ _ _ _ _ _ _ _ _ _› (cwn_t ‹CWn _ _ _ _ _› (by omega)) (by omega)
set_option maxHeartbeats 4000000 in
theorem vc_Re_readItem_7_5 (fault_0 : Int) (f9 : fault_0 = 0) (kz_0_2 : (-1) ≤ fault_0 ∧ fault_0 ≤ 5) : fault_0 = 0 := by
  first
    | omega
    | (have h := ri_lt ‹cRI _ _ _ _ _ _ _ _ _ _ _ _ _ _ _› (by omega); omega)
    | (have h := ri_lt ‹cRI _ _ _ _ _ _ _ _ _ _ _ _ _ _ _› (by have := (cwn_t ‹CWn _ _ _ _ _› (by omega)).1; omega); omega)
    | (have h := ri_lt ‹cRI _ _ _ _ _ _ _ _ _ _ _ _ _ _ _› (by have := (cwg_t ‹CWg _ _ _ _ _› (by omega)).1; omega); omega)
    | (have h := ri_lt ‹cRI _ _ _ _ _ _ _ _ _ _ _ _ _ _ _› (by have := (cnm_t ‹CNM _ _ _ _ _› (by omega)).1; omega); omega)
set_option maxHeartbeats 4000000 in
theorem vc_Re_readItem_7_6 (x2 : Int) (x6 : Int) (kind_0 : Int) (next_0 : Int) (begin_0 : Int) (tail_0o1 : Int → Int) (head_0o1 : Int → Int) (nodes_0o1 : Int) (edges_0o1 : Int) (tape_0 : Int → Int) (open_0 : Int → Int) (nameLength_0o1 : Int → Int) (name_0o1 : Int → Int) (end_0 : Int) (number_0 : Int) (depth_0 : Int) (groups_0o1 : Int) (gx : Int) (k2 : 0 ≤ x2 ∧ x2 ≤ 2000) (k6 : 1 ≤ x6 ∧ x6 ≤ 1) (f1 : x6 ≠ 0) (f6 : 1 * begin_0 + ((-1) * x2 + 0) ≤ 0) (f7 : (-1) * begin_0 + (1 * x2 + 0) ≤ 0) (f8 : cRI (end_0) (next_0) (kind_0) (begin_0) (number_0) (depth_0) (nodes_0o1) (edges_0o1) (groups_0o1) (tape_0) (open_0) (nameLength_0o1) (name_0o1) (tail_0o1) (head_0o1)) (f11 : CWn (kind_0) (next_0) (begin_0) (tape_0) (x6)) (kz_0_5 : 0 ≤ end_0 ∧ end_0 ≤ 2000) (kz_0_6 : 0 ≤ next_0 ∧ next_0 ≤ 2000) (kz_0_7 : (-128) ≤ kind_0 ∧ kind_0 ≤ 127) (kz_0_8 : 0 ≤ begin_0 ∧ begin_0 ≤ 2000) (kz_0_9 : (-176) ≤ number_0 ∧ number_0 ≤ 1000000) (kz_0_11 : 0 ≤ depth_0 ∧ depth_0 ≤ 4) (kz_1_0 : 0 ≤ nodes_0o1 ∧ nodes_0o1 ≤ 24) (kz_1_1 : 0 ≤ edges_0o1 ∧ edges_0o1 ≤ 48) (kz_1_2 : 0 ≤ groups_0o1 ∧ groups_0o1 ≤ 8) (ex2 : gx = next_0) : 1 * x2 + ((-1) * gx + 0) ≤ (-1) := by
  first
    | omega
    | (have h := ri_lt ‹cRI _ _ _ _ _ _ _ _ _ _ _ _ _ _ _› (by omega); omega)
    | (have h := ri_lt ‹cRI _ _ _ _ _ _ _ _ _ _ _ _ _ _ _› (by have := (cwn_t ‹CWn _ _ _ _ _› (by omega)).1; omega); omega)
    | (have h := ri_lt ‹cRI _ _ _ _ _ _ _ _ _ _ _ _ _ _ _› (by have := (cwg_t ‹CWg _ _ _ _ _› (by omega)).1; omega); omega)
    | (have h := ri_lt ‹cRI _ _ _ _ _ _ _ _ _ _ _ _ _ _ _› (by have := (cnm_t ‹CNM _ _ _ _ _› (by omega)).1; omega); omega)
def o_Re_readItem_7 : or_T := (38, 7, [(0, (2, 0, 0, [8])), (1, (2, 0, 0, [164])), (2, (0, 0, 2000, [])), (6, (0, 1, 1, []))], [(8, [6], [1]), (20, [1], [60, 2, 3, 670, 0, 1, 14, 7, 8]), (20, [1], [60, 2, 2, 596, 0, 1, 7, 8]), (20, [0, 2], [30, 0, 1, 1, 8, -1, 0, 0]), (20, [0, 2], [30, 0, -1, 1, 8, 1, 0, 0]), (20, [0, 1], [60, 9, 6, 1058, 5, 6, 7, 8, 9, 11, 1000, 1001, 1002, 0, 10, 1004, 1003, 1007, 1008]), (20, [0], [50, 1, 0, 2, 1, 3, 2, 0, 2, 0, 0]), (20, [0, 6], [60, 3, 1, 1080, 7, 6, 8, 0])], [], [(0, 0, 2000, [])], [(20, [1], [60, 2, 3, 670, 0, 1, 14, 7, 8]), (20, [1], [60, 2, 2, 596, 0, 1, 7, 8]), (20, [0, 7], [30, 0, 1, 1, 6, -1, 0, 0]), (20, [0, 7], [30, 0, -1, 1, 6, 1, 0, 0]), (20, [0, 1, 7], [60, 5, 6, 1040, 5, 11, 1000, 1001, 1002, 0, 10, 1004, 1003, 1007, 1008]), (20, [0], [50, 1, 0, 2, 1, 3, 2, 0, 2, 0, 0]), (20, [2, 7], [30, -1, 1, 0, 0, -1, 0, 0])], [], [])
theorem oo_Re_readItem_7 {kA : Nat → ClassId} : or_ok PRD kA GG o_Re_readItem_7 := by
  refine or_mk fun A ta ws vs hD hth hl => ?_
  intro t0 r0 t1 r1 t2 k2 t6 k6 f1 f4 f5 f6 f7 f8 f9 f11
  replace f1 := shm_142 f1
  replace f4 := shm_825 f4
  replace f5 := shm_386 f5
  replace f6 := shm_303 f6
  replace f7 := shm_304 f7
  replace f8 := shm_2149 f8
  replace f9 := shm_1985 f9
  replace f11 := shm_1828 f11
  have kz_0_2 := fdq_97 hD hth r0
  have kz_0_5 := fdq_207 hD hth r0
  have kz_0_6 := fdq_208 hD hth r0
  have kz_0_7 := fdq_297 hD hth r0
  have kz_0_8 := fdq_99 hD hth r0
  have kz_0_9 := fdq_296 hD hth r0
  have kz_0_11 := fdq_320 hD hth r0
  have kz_1_0 := fdq_73 hD hth r1
  have kz_1_1 := fdq_74 hD hth r1
  have kz_1_2 := fdq_206 hD hth r1
  obtain ⟨x, ex, hx⟩ := iv_ex (ta := ta) (lo := 0) (hi := 2000) (z := w_fi ws (n_v vs 0) 6) (by omega) (by omega) (by omega) (by omega)
  have ex2 : v_iv (Value.int x) = w_fi ws (n_v vs 0) 6 := ex
  have ex3 : 0 ≤ v_iv (Value.int x) ∧ v_iv (Value.int x) ≤ 2000 := tv_rng hx
  have e_0 : n_v (vs ++ [Value.int x]) 0 = n_v vs 0 := n_v_old (by rw [hl]; decide)
  have e_1 : n_v (vs ++ [Value.int x]) 1 = n_v vs 1 := n_v_old (by rw [hl]; decide)
  have e_2 : n_v (vs ++ [Value.int x]) 2 = n_v vs 2 := n_v_old (by rw [hl]; decide)
  have e_7 : n_v (vs ++ [Value.int x]) 7 = Value.int x := n_v_new hl
  have nf0 : fc_1 PRD (20, [1], [60, 2, 3, 670, 0, 1, 14, 7, 8]) ws (vs ++ [Value.int x]) := by
    refine ⟨nf_inA hl rfl, sgq_825 ?_⟩
    · show GNB (w_fi ws (n_v (vs ++ [Value.int x]) 1) 0) (w_fi ws (n_v (vs ++ [Value.int x]) 1) 1) (w_ei ws (w_ar ws (n_v (vs ++ [Value.int x]) 1) 14)) (w_ei ws (w_ar ws (n_v (vs ++ [Value.int x]) 1) 7)) (w_ei ws (w_ar ws (n_v (vs ++ [Value.int x]) 1) 8))
      rw [e_1]
      exact vc_Re_readItem_7_0 (w_ei ws (w_ar ws (n_v vs 1) 14)) (w_ei ws (w_ar ws (n_v vs 1) 7)) (w_ei ws (w_ar ws (n_v vs 1) 8)) (w_fi ws (n_v vs 1) 0) (w_fi ws (n_v vs 1) 1) f4 kz_1_0 kz_1_1
  have nf1 : fc_1 PRD (20, [1], [60, 2, 2, 596, 0, 1, 7, 8]) ws (vs ++ [Value.int x]) := by
    refine ⟨nf_inA hl rfl, sgq_386 ?_⟩
    · show GKE (w_fi ws (n_v (vs ++ [Value.int x]) 1) 0) (w_fi ws (n_v (vs ++ [Value.int x]) 1) 1) (w_ei ws (w_ar ws (n_v (vs ++ [Value.int x]) 1) 7)) (w_ei ws (w_ar ws (n_v (vs ++ [Value.int x]) 1) 8))
      rw [e_1]
      exact vc_Re_readItem_7_1 (w_ei ws (w_ar ws (n_v vs 1) 7)) (w_ei ws (w_ar ws (n_v vs 1) 8)) (w_fi ws (n_v vs 1) 0) (w_fi ws (n_v vs 1) 1) f5 kz_1_0 kz_1_1
  have nf2 : fc_1 PRD (20, [0, 7], [30, 0, 1, 1, 6, -1, 0, 0]) ws (vs ++ [Value.int x]) := by
    refine ⟨nf_inA hl rfl, sgq_1523 ?_⟩
    · show 1 * w_fi ws (n_v (vs ++ [Value.int x]) 0) 6 + ((-1) * v_iv (n_v (vs ++ [Value.int x]) 7) + 0) ≤ 0
      simp only [e_0, e_7]
      exact vc_Re_readItem_7_2 (w_fi ws (n_v vs 0) 6) (v_iv (Value.int x)) kz_0_6 ex2
  have nf3 : fc_1 PRD (20, [0, 7], [30, 0, -1, 1, 6, 1, 0, 0]) ws (vs ++ [Value.int x]) := by
    refine ⟨nf_inA hl rfl, sgq_1524 ?_⟩
    · show (-1) * w_fi ws (n_v (vs ++ [Value.int x]) 0) 6 + (1 * v_iv (n_v (vs ++ [Value.int x]) 7) + 0) ≤ 0
      simp only [e_0, e_7]
      exact vc_Re_readItem_7_3 (w_fi ws (n_v vs 0) 6) (v_iv (Value.int x)) kz_0_6 ex2
  have nf4 : fc_1 PRD (20, [0, 1, 7], [60, 5, 6, 1040, 5, 11, 1000, 1001, 1002, 0, 10, 1004, 1003, 1007, 1008]) ws (vs ++ [Value.int x]) := by
    refine ⟨nf_inA hl rfl, sgq_2107 ?_⟩
    · show cG1 (w_fi ws (n_v (vs ++ [Value.int x]) 0) 5) (w_fi ws (n_v (vs ++ [Value.int x]) 0) 11) (w_fi ws (n_v (vs ++ [Value.int x]) 1) 0) (w_fi ws (n_v (vs ++ [Value.int x]) 1) 1) (w_fi ws (n_v (vs ++ [Value.int x]) 1) 2) (w_ei ws (w_ar ws (n_v (vs ++ [Value.int x]) 0) 0)) (w_ei ws (w_ar ws (n_v (vs ++ [Value.int x]) 0) 10)) (w_ei ws (w_ar ws (n_v (vs ++ [Value.int x]) 1) 4)) (w_ei ws (w_ar ws (n_v (vs ++ [Value.int x]) 1) 3)) (w_ei ws (w_ar ws (n_v (vs ++ [Value.int x]) 1) 7)) (w_ei ws (w_ar ws (n_v (vs ++ [Value.int x]) 1) 8)) (v_iv (n_v (vs ++ [Value.int x]) 7))
      simp only [e_0, e_1, e_7]
      exact vc_Re_readItem_7_4 (v_iv (n_v vs 6)) (w_fi ws (n_v vs 0) 7) (w_fi ws (n_v vs 0) 6) (w_fi ws (n_v vs 0) 8) (w_ei ws (w_ar ws (n_v vs 1) 7)) (w_ei ws (w_ar ws (n_v vs 1) 8)) (w_fi ws (n_v vs 1) 0) (w_fi ws (n_v vs 1) 1) (w_ei ws (w_ar ws (n_v vs 0) 0)) (w_ei ws (w_ar ws (n_v vs 0) 10)) (w_ei ws (w_ar ws (n_v vs 1) 4)) (w_ei ws (w_ar ws (n_v vs 1) 3)) (w_fi ws (n_v vs 0) 5) (w_fi ws (n_v vs 0) 9) (w_fi ws (n_v vs 0) 11) (w_fi ws (n_v vs 1) 2) (v_iv (Value.int x)) k6 f1 f8 f11 kz_0_5 kz_0_6 kz_0_7 kz_0_8 kz_0_9 kz_0_11 kz_1_0 kz_1_1 kz_1_2 ex2
  have nf5 : fc_1 PRD (20, [0], [50, 1, 0, 2, 1, 3, 2, 0, 2, 0, 0]) ws (vs ++ [Value.int x]) := by
    refine ⟨nf_inA hl rfl, sgq_1985 ?_⟩
    · show w_fi ws (n_v (vs ++ [Value.int x]) 0) 2 = 0
      rw [e_0]
      exact vc_Re_readItem_7_5 (w_fi ws (n_v vs 0) 2) f9 kz_0_2
  have nf6 : fc_1 PRD (20, [2, 7], [30, -1, 1, 0, 0, -1, 0, 0]) ws (vs ++ [Value.int x]) := by
    refine ⟨nf_inA hl rfl, sgq_2151 ?_⟩
    · show 1 * v_iv (n_v (vs ++ [Value.int x]) 2) + ((-1) * v_iv (n_v (vs ++ [Value.int x]) 7) + 0) ≤ (-1)
      simp only [e_2, e_7]
      exact vc_Re_readItem_7_6 (v_iv (n_v vs 2)) (v_iv (n_v vs 6)) (w_fi ws (n_v vs 0) 7) (w_fi ws (n_v vs 0) 6) (w_fi ws (n_v vs 0) 8) (w_ei ws (w_ar ws (n_v vs 1) 7)) (w_ei ws (w_ar ws (n_v vs 1) 8)) (w_fi ws (n_v vs 1) 0) (w_fi ws (n_v vs 1) 1) (w_ei ws (w_ar ws (n_v vs 0) 0)) (w_ei ws (w_ar ws (n_v vs 0) 10)) (w_ei ws (w_ar ws (n_v vs 1) 4)) (w_ei ws (w_ar ws (n_v vs 1) 3)) (w_fi ws (n_v vs 0) 5) (w_fi ws (n_v vs 0) 9) (w_fi ws (n_v vs 0) 11) (w_fi ws (n_v vs 1) 2) (v_iv (Value.int x)) k2 k6 f1 f6 f7 f8 f11 kz_0_5 kz_0_6 kz_0_7 kz_0_8 kz_0_9 kz_0_11 kz_1_0 kz_1_1 kz_1_2 ex2
  exact ⟨(fun _ h => (by cases h)), [Value.int x], ag_one hx, List.forall_mem_cons.mpr ⟨⟨show (20 : Nat) < 100 from by decide, nf0⟩, List.forall_mem_cons.mpr ⟨⟨show (20 : Nat) < 100 from by decide, nf1⟩, List.forall_mem_cons.mpr ⟨⟨show (20 : Nat) < 100 from by decide, nf2⟩, List.forall_mem_cons.mpr ⟨⟨show (20 : Nat) < 100 from by decide, nf3⟩, List.forall_mem_cons.mpr ⟨⟨show (20 : Nat) < 100 from by decide, nf4⟩, List.forall_mem_cons.mpr ⟨⟨show (20 : Nat) < 100 from by decide, nf5⟩, List.forall_mem_cons.mpr ⟨⟨show (20 : Nat) < 100 from by decide, nf6⟩, (fun _ h => (by cases h))⟩⟩⟩⟩⟩⟩⟩, (fun _ h => (by cases h))⟩
set_option maxHeartbeats 4000000 in
theorem vc_Re_readItem_8_0 (x2 : Int) (x7 : Int) (x8 : Int) (next_0 : Int) (k2 : 0 ≤ x2 ∧ x2 ≤ 2000) (k7 : 0 ≤ x7 ∧ x7 ≤ 2000) (k8 : 1 ≤ x8 ∧ x8 ≤ 1) (f0 : 1 * x2 + ((-1) * x7 + 0) ≤ (-1)) (f5 : 1 * x7 + ((-1) * next_0 + 0) ≤ 0) (kz_0_6 : 0 ≤ next_0 ∧ next_0 ≤ 2000) : (1 * x8 + 0 ≤ 0) ∨ (1 * x2 + ((-1) * next_0 + 0) ≤ (-1)) := by
  first
    | omega
    | (have h := ri_lt ‹cRI _ _ _ _ _ _ _ _ _ _ _ _ _ _ _› (by omega); omega)
    | (have h := ri_lt ‹cRI _ _ _ _ _ _ _ _ _ _ _ _ _ _ _› (by have := (cwn_t ‹CWn _ _ _ _ _› (by omega)).1; omega); omega)
    | (have h := ri_lt ‹cRI _ _ _ _ _ _ _ _ _ _ _ _ _ _ _› (by have := (cwg_t ‹CWg _ _ _ _ _› (by omega)).1; omega); omega)
    | (have h := ri_lt ‹cRI _ _ _ _ _ _ _ _ _ _ _ _ _ _ _› (by have := (cnm_t ‹CNM _ _ _ _ _› (by omega)).1; omega); omega)
def o_Re_readItem_8 : or_T := (41, 9, [(0, (2, 0, 0, [8])), (1, (2, 0, 0, [164])), (2, (0, 0, 2000, [])), (7, (0, 0, 2000, [])), (8, (0, 1, 1, []))], [(20, [2, 7], [30, -1, 1, 0, 0, -1, 0, 0]), (20, [1], [60, 1, 3, 1085, 1, 7, 8, 15]), (20, [1], [60, 2, 3, 670, 0, 1, 14, 7, 8]), (20, [1], [60, 2, 2, 596, 0, 1, 7, 8]), (20, [0, 1, 8], [60, 8, 6, 1063, 5, 6, 11, 2, 3, 1000, 1001, 1002, 0, 10, 1004, 1003, 1007, 1008]), (20, [7, 0], [30, 0, 1, 0, 0, -1, 1, 6])], [], [], [(20, [8, 2, 0], [31, 1, 0, 1, 0, 0, -1, 1, 0, 0, -1, 1, 6])], [], [])
theorem oo_Re_readItem_8 {kA : Nat → ClassId} : or_ok PRD kA GG o_Re_readItem_8 := by
  refine or_mk fun A ta ws vs hD hth hl => ?_
  intro t0 r0 t1 r1 t2 k2 t7 k7 t8 k8 f0 f1 f2 f3 f4 f5
  have kz_0_6 := fdq_208 hD hth r0
  have nf0 : fc_1 PRD (20, [8, 2, 0], [31, 1, 0, 1, 0, 0, -1, 1, 0, 0, -1, 1, 6]) ws (vs) := ⟨nf_in hl rfl, sgq_2150 (vc_Re_readItem_8_0 (v_iv (n_v vs 2)) (v_iv (n_v vs 7)) (v_iv (n_v vs 8)) (w_fi ws (n_v vs 0) 6) k2 k7 k8 (shm_2151 f0) (shm_1527 f5) kz_0_6)⟩
  refine ⟨(fun _ h => (by cases h)), [], trivial, ?_, (fun _ h => (by cases h))⟩
  rw [List.append_nil]
  exact List.forall_mem_cons.mpr ⟨⟨show (20 : Nat) < 100 from by decide, nf0⟩, (fun _ h => (by cases h))⟩
set_option maxHeartbeats 4000000 in
theorem vc_Re_readItem_9_0 (x2 : Int) (x8 : Int) (next_0 : Int) (k2 : 0 ≤ x2 ∧ x2 ≤ 2000) (k8 : 0 ≤ x8 ∧ x8 ≤ 0) (kz_0_6 : 0 ≤ next_0 ∧ next_0 ≤ 2000) : (1 * x8 + 0 ≤ 0) ∨ (1 * x2 + ((-1) * next_0 + 0) ≤ (-1)) := by
  first
    | omega
    | (have h := ri_lt ‹cRI _ _ _ _ _ _ _ _ _ _ _ _ _ _ _› (by omega); omega)
    | (have h := ri_lt ‹cRI _ _ _ _ _ _ _ _ _ _ _ _ _ _ _› (by have := (cwn_t ‹CWn _ _ _ _ _› (by omega)).1; omega); omega)
    | (have h := ri_lt ‹cRI _ _ _ _ _ _ _ _ _ _ _ _ _ _ _› (by have := (cwg_t ‹CWg _ _ _ _ _› (by omega)).1; omega); omega)
    | (have h := ri_lt ‹cRI _ _ _ _ _ _ _ _ _ _ _ _ _ _ _› (by have := (cnm_t ‹CNM _ _ _ _ _› (by omega)).1; omega); omega)
def o_Re_readItem_9 : or_T := (41, 9, [(0, (2, 0, 0, [8])), (1, (2, 0, 0, [164])), (2, (0, 0, 2000, [])), (7, (0, 0, 2000, [])), (8, (0, 0, 0, []))], [(20, [2, 7], [30, -1, 1, 0, 0, -1, 0, 0]), (20, [1], [60, 1, 3, 1085, 1, 7, 8, 15]), (20, [1], [60, 2, 3, 670, 0, 1, 14, 7, 8]), (20, [1], [60, 2, 2, 596, 0, 1, 7, 8]), (20, [0, 1, 8], [60, 8, 6, 1063, 5, 6, 11, 2, 3, 1000, 1001, 1002, 0, 10, 1004, 1003, 1007, 1008]), (20, [7, 0], [30, 0, 1, 0, 0, -1, 1, 6])], [], [], [(20, [8, 2, 0], [31, 1, 0, 1, 0, 0, -1, 1, 0, 0, -1, 1, 6])], [], [])
theorem oo_Re_readItem_9 {kA : Nat → ClassId} : or_ok PRD kA GG o_Re_readItem_9 := by
  refine or_mk fun A ta ws vs hD hth hl => ?_
  intro t0 r0 t1 r1 t2 k2 t7 k7 t8 k8 f0 f1 f2 f3 f4 f5
  have kz_0_6 := fdq_208 hD hth r0
  have nf0 : fc_1 PRD (20, [8, 2, 0], [31, 1, 0, 1, 0, 0, -1, 1, 0, 0, -1, 1, 6]) ws (vs) := ⟨nf_in hl rfl, sgq_2150 (vc_Re_readItem_9_0 (v_iv (n_v vs 2)) (v_iv (n_v vs 8)) (w_fi ws (n_v vs 0) 6) k2 k8 kz_0_6)⟩
  refine ⟨(fun _ h => (by cases h)), [], trivial, ?_, (fun _ h => (by cases h))⟩
  rw [List.append_nil]
  exact List.forall_mem_cons.mpr ⟨⟨show (20 : Nat) < 100 from by decide, nf0⟩, (fun _ h => (by cases h))⟩
set_option maxHeartbeats 4000000 in
theorem vc_Re_readItem_10_0 (x5 : Int) (x7 : Int) (x9 : Int) (x10 : Int) (x11 : Int) (depth_0 : Int) (kind_0 : Int) (next_0 : Int) (begin_0 : Int) (tail_0o1 : Int → Int) (head_0o1 : Int → Int) (nodes_0o1 : Int) (edges_0o1 : Int) (tape_0 : Int → Int) (open_0 : Int → Int) (nameLength_0o1 : Int → Int) (name_0o1 : Int → Int) (end_0 : Int) (number_0 : Int) (groups_0o1 : Int) (k5 : 0 ≤ x5 ∧ x5 ≤ 0) (k7 : 0 ≤ x7 ∧ x7 ≤ 0) (k9 : 0 ≤ x9 ∧ x9 ≤ 0) (k10 : 0 ≤ x10 ∧ x10 ≤ 0) (k11 : 1 ≤ x11 ∧ x11 ≤ 1) (g0 : x5 = depth_0) (f2 : x10 = 0) (f9 : cRI (end_0) (next_0) (kind_0) (begin_0) (number_0) (depth_0) (nodes_0o1) (edges_0o1) (groups_0o1) (tape_0) (open_0) (nameLength_0o1) (name_0o1) (tail_0o1) (head_0o1)) (f12 : CWn (kind_0) (next_0) (begin_0) (tape_0) (x7)) (f13 : CWg (kind_0) (next_0) (begin_0) (tape_0) (x9)) (f15 : CNM (kind_0) (next_0) (begin_0) (tape_0) (x10)) (f17 : x9 = 0) (f19 : x7 = 0) (kz_0_5 : 0 ≤ end_0 ∧ end_0 ≤ 2000) (kz_0_6 : 0 ≤ next_0 ∧ next_0 ≤ 2000) (kz_0_7 : (-128) ≤ kind_0 ∧ kind_0 ≤ 127) (kz_0_8 : 0 ≤ begin_0 ∧ begin_0 ≤ 2000) (kz_0_9 : (-176) ≤ number_0 ∧ number_0 ≤ 1000000) (kz_0_11 : 0 ≤ depth_0 ∧ depth_0 ≤ 4) (kz_1_0 : 0 ≤ nodes_0o1 ∧ nodes_0o1 ≤ 24) (kz_1_1 : 0 ≤ edges_0o1 ∧ edges_0o1 ≤ 48) (kz_1_2 : 0 ≤ groups_0o1 ∧ groups_0o1 ≤ 8) : FSY (end_0) (begin_0) (tape_0) (x11) := by
  exact fsy_of (i_f ‹cRI _ _ _ _ _ _ _ _ _ _ _ _ _ _ _› (by omega) (cwn_f ‹CWn _ _ _ _ _› (by omega)) (cwg_f ‹CWg _ _ _ _ _› (by omega)) (cnm_f ‹CNM _ _ _ _ _› (by omega))) (by omega)
def o_Re_readItem_10 : or_T := (72, 12, [(0, (2, 0, 0, [8])), (1, (2, 0, 0, [164])), (5, (0, 0, 0, [])), (7, (0, 0, 0, [])), (9, (0, 0, 0, [])), (10, (0, 0, 0, [])), (11, (0, 1, 1, []))], [(9, [5, 0], [11]), (8, [10], [0]), (20, [0, 1], [60, 9, 6, 1058, 5, 6, 7, 8, 9, 11, 1000, 1001, 1002, 0, 10, 1004, 1003, 1007, 1008]), (20, [0, 7], [60, 3, 1, 1080, 7, 6, 8, 0]), (20, [0, 9], [60, 3, 1, 1081, 7, 6, 8, 0]), (20, [0, 10], [60, 3, 1, 1079, 7, 6, 8, 0]), (102, [9], [0]), (8, [9], [0]), (102, [8], [0]), (8, [7], [0])], [], [], [(20, [0, 11], [60, 2, 1, 1078, 5, 8, 0])], [], [])
theorem oo_Re_readItem_10 {kA : Nat → ClassId} : or_ok PRD kA GG o_Re_readItem_10 := by
  refine or_mk fun A ta ws vs hD hth hl => ?_
  intro t0 r0 t1 r1 t5 k5 t7 k7 t9 k9 t10 k10 t11 k11 f0 f2 f9 f12 f13 f15 ta1 w1 le1 s1 f17 ta2 w2 le2 s2 f19
  replace f0 := shm_116 f0
  have g0 : v_iv (n_v vs 5) = w_fi ws (n_v vs 0) 11 := congrArg v_iv f0
  have kz_0_5 := fdq_207 hD hth r0
  have kz_0_6 := fdq_208 hD hth r0
  have kz_0_7 := fdq_297 hD hth r0
  have kz_0_8 := fdq_99 hD hth r0
  have kz_0_9 := fdq_296 hD hth r0
  have kz_0_11 := fdq_320 hD hth r0
  have kz_1_0 := fdq_73 hD hth r1
  have kz_1_1 := fdq_74 hD hth r1
  have kz_1_2 := fdq_206 hD hth r1
  have nf0 : fc_1 PRD (20, [0, 11], [60, 2, 1, 1078, 5, 8, 0]) ws (vs) := ⟨nf_in hl rfl, sgq_1988 (vc_Re_readItem_10_0 (v_iv (n_v vs 5)) (v_iv (n_v vs 7)) (v_iv (n_v vs 9)) (v_iv (n_v vs 10)) (v_iv (n_v vs 11)) (w_fi ws (n_v vs 0) 11) (w_fi ws (n_v vs 0) 7) (w_fi ws (n_v vs 0) 6) (w_fi ws (n_v vs 0) 8) (w_ei ws (w_ar ws (n_v vs 1) 7)) (w_ei ws (w_ar ws (n_v vs 1) 8)) (w_fi ws (n_v vs 1) 0) (w_fi ws (n_v vs 1) 1) (w_ei ws (w_ar ws (n_v vs 0) 0)) (w_ei ws (w_ar ws (n_v vs 0) 10)) (w_ei ws (w_ar ws (n_v vs 1) 4)) (w_ei ws (w_ar ws (n_v vs 1) 3)) (w_fi ws (n_v vs 0) 5) (w_fi ws (n_v vs 0) 9) (w_fi ws (n_v vs 1) 2) k5 k7 k9 k10 k11 g0 (shm_192 f2) (shm_2149 f9) (shm_1828 f12) (shm_1829 f13) (shm_1837 f15) (shm_192 f17) (shm_192 f19) kz_0_5 kz_0_6 kz_0_7 kz_0_8 kz_0_9 kz_0_11 kz_1_0 kz_1_1 kz_1_2)⟩
  refine ⟨(fun _ h => (by cases h)), [], trivial, ?_, (fun _ h => (by cases h))⟩
  rw [List.append_nil]
  exact List.forall_mem_cons.mpr ⟨⟨show (20 : Nat) < 100 from by decide, nf0⟩, (fun _ h => (by cases h))⟩
set_option maxHeartbeats 4000000 in
theorem vc_Re_readItem_11_0 (x3 : Int) (x5 : Int) (x11 : Int) (x12 : Int) (depth_0 : Int) (kind_0 : Int) (tape_0 : Int → Int) (end_0 : Int) (begin_0 : Int) (next_0 : Int) (tail_0o1 : Int → Int) (head_0o1 : Int → Int) (nodes_0o1 : Int) (edges_0o1 : Int) (open_0 : Int → Int) (nameLength_0o1 : Int → Int) (name_0o1 : Int → Int) (groups_0o1 : Int) (fault_0 : Int) (faultPlace_0 : Int) (k3 : 125 ≤ x3 ∧ x3 ≤ 125) (k5 : 0 ≤ x5 ∧ x5 ≤ 0) (k11 : 1 ≤ x11 ∧ x11 ≤ 1) (k12 : 0 ≤ x12 ∧ x12 ≤ 0) (g0 : x5 = depth_0) (g1 : x3 = kind_0) (f2 : FSY (end_0) (begin_0) (tape_0) (x11)) (f15 : (x12 = 0) ∧ ((fault_0 = x11) ∧ (faultPlace_0 = begin_0))) (kz_0_2 : (-1) ≤ fault_0 ∧ fault_0 ≤ 5) (kz_0_3 : (-1) ≤ faultPlace_0 ∧ faultPlace_0 ≤ 2000) (kz_0_5 : 0 ≤ end_0 ∧ end_0 ≤ 2000) (kz_0_6 : 0 ≤ next_0 ∧ next_0 ≤ 2000) (kz_0_7 : (-128) ≤ kind_0 ∧ kind_0 ≤ 127) (kz_0_8 : 0 ≤ begin_0 ∧ begin_0 ≤ 2000) (kz_0_11 : 0 ≤ depth_0 ∧ depth_0 ≤ 4) (kz_1_0 : 0 ≤ nodes_0o1 ∧ nodes_0o1 ≤ 24) (kz_1_1 : 0 ≤ edges_0o1 ∧ edges_0o1 ≤ 48) (kz_1_2 : 0 ≤ groups_0o1 ∧ groups_0o1 ≤ 8) : cO0 (end_0) (next_0) (depth_0) (fault_0) (faultPlace_0) (nodes_0o1) (edges_0o1) (groups_0o1) (tape_0) (open_0) (nameLength_0o1) (name_0o1) (tail_0o1) (head_0o1) (x12) := by
  first | subst g0 | skip
  first | subst g1 | skip
  first
    | assumption
    | exact cO0_f ‹FSY _ _ _ _› (by omega) (by omega) (by omega)
    | exact cO0_t (i_cl ‹cRI _ _ _ _ _ _ _ _ _ _ _ _ _ _ _› (by omega) (by omega) (by omega)) (by omega) (by omega)
set_option maxHeartbeats 4000000 in
theorem vc_Re_readItem_11_1 (x2 : Int) (x12 : Int) (next_0 : Int) (k2 : 0 ≤ x2 ∧ x2 ≤ 2000) (k12 : 0 ≤ x12 ∧ x12 ≤ 0) (kz_0_6 : 0 ≤ next_0 ∧ next_0 ≤ 2000) : (1 * x12 + 0 ≤ 0) ∨ (1 * x2 + ((-1) * next_0 + 0) ≤ (-1)) := by
  first
    | omega
    | (have h := ri_lt ‹cRI _ _ _ _ _ _ _ _ _ _ _ _ _ _ _› (by omega); omega)
    | (have h := ri_lt ‹cRI _ _ _ _ _ _ _ _ _ _ _ _ _ _ _› (by have := (cwn_t ‹CWn _ _ _ _ _› (by omega)).1; omega); omega)
    | (have h := ri_lt ‹cRI _ _ _ _ _ _ _ _ _ _ _ _ _ _ _› (by have := (cwg_t ‹CWg _ _ _ _ _› (by omega)).1; omega); omega)
    | (have h := ri_lt ‹cRI _ _ _ _ _ _ _ _ _ _ _ _ _ _ _› (by have := (cnm_t ‹CNM _ _ _ _ _› (by omega)).1; omega); omega)
def o_Re_readItem_11 : or_T := (75, 13, [(0, (2, 0, 0, [8])), (1, (2, 0, 0, [164])), (2, (0, 0, 2000, [])), (3, (0, 125, 125, [])), (4, (0, 125, 125, [])), (5, (0, 0, 0, [])), (7, (0, 0, 0, [])), (9, (0, 0, 0, [])), (10, (0, 0, 0, [])), (11, (0, 1, 1, [])), (12, (0, 0, 0, []))], [(9, [5, 0], [11]), (9, [3, 0], [7]), (20, [0, 11], [60, 2, 1, 1078, 5, 8, 0]), (20, [0, 0, 0, 0], [31, 1, -3, -1, 1, 7, 4008, 1, 1, 6, -1, 1, 8, 2000, 1, 7]), (20, [0, 0], [30, 0, 1, 1, 8, -1, 1, 6]), (20, [1], [60, 2, 3, 670, 0, 1, 14, 7, 8]), (20, [1], [60, 2, 2, 596, 0, 1, 7, 8]), (20, [0, 2], [30, 0, 1, 1, 8, -1, 0, 0]), (20, [0, 2], [30, 0, -1, 1, 8, 1, 0, 0]), (20, [0, 1], [60, 9, 6, 1058, 5, 6, 7, 8, 9, 11, 1000, 1001, 1002, 0, 10, 1004, 1003, 1007, 1008]), (20, [1], [60, 1, 3, 1085, 1, 7, 8, 15]), (20, [0, 7], [60, 3, 1, 1080, 7, 6, 8, 0]), (20, [0, 9], [60, 3, 1, 1081, 7, 6, 8, 0]), (20, [0, 0, 10], [30, 2008, 1, 1, 6, -1, 1, 8, 2000, 0, 0]), (20, [0, 10], [60, 3, 1, 1079, 7, 6, 8, 0]), (20, [12, 0, 11], [50, 3, 0, 1002, 1003, 1008, 2, 6, 1, 2, 1, 0, 0, 0, 2, 7, 1, 3, 2, 1, 2, 1, 2, 1, 3, 2, 1, 3, 2, 1, 8]), (102, [11], [0, 8002, 8003]), (8, [10], [0]), (102, [9], [0]), (8, [9], [0]), (102, [8], [0]), (8, [7], [0]), (102, [6], [0]), (8, [5], [5]), (7, [3, 4], [0])], [], [], [(20, [0, 1, 12], [60, 8, 6, 1063, 5, 6, 11, 2, 3, 1000, 1001, 1002, 0, 10, 1004, 1003, 1007, 1008]), (20, [12, 2, 0], [31, 1, 0, 1, 0, 0, -1, 1, 0, 0, -1, 1, 6])], [], [])
theorem oo_Re_readItem_11 {kA : Nat → ClassId} : or_ok PRD kA GG o_Re_readItem_11 := by
  refine or_mk fun A ta ws vs hD hth hl => ?_
  intro t0 r0 t1 r1 t2 k2 t3 k3 t4 k4 t5 k5 t7 k7 t9 k9 t10 k10 t11 k11 t12 k12 f0 f1 f2 f3 f4 f5 f6 f7 f8 f9 f10 f11 f12 f13 f14 f15 ta1 w1 le1 s1 f17 ta2 w2 le2 s2 f19 ta3 w3 le3 s3 f21 ta4 w4 le4 s4 f23 f24
  replace f0 := shm_116 f0
  replace f1 := shm_198 f1
  have g0 : v_iv (n_v vs 5) = w_fi ws (n_v vs 0) 11 := congrArg v_iv f0
  have g1 : v_iv (n_v vs 3) = w_fi ws (n_v vs 0) 7 := congrArg v_iv f1
  have kz_0_2 := fdq_97 hD hth r0
  have kz_0_3 := fdq_98 hD hth r0
  have kz_0_5 := fdq_207 hD hth r0
  have kz_0_6 := fdq_208 hD hth r0
  have kz_0_7 := fdq_297 hD hth r0
  have kz_0_8 := fdq_99 hD hth r0
  have kz_0_11 := fdq_320 hD hth r0
  have kz_1_0 := fdq_73 hD hth r1
  have kz_1_1 := fdq_74 hD hth r1
  have kz_1_2 := fdq_206 hD hth r1
  have nf0 : fc_1 PRD (20, [0, 1, 12], [60, 8, 6, 1063, 5, 6, 11, 2, 3, 1000, 1001, 1002, 0, 10, 1004, 1003, 1007, 1008]) ws (vs) := ⟨nf_in hl rfl, sgq_2023 (vc_Re_readItem_11_0 (v_iv (n_v vs 3)) (v_iv (n_v vs 5)) (v_iv (n_v vs 11)) (v_iv (n_v vs 12)) (w_fi ws (n_v vs 0) 11) (w_fi ws (n_v vs 0) 7) (w_ei ws (w_ar ws (n_v vs 0) 0)) (w_fi ws (n_v vs 0) 5) (w_fi ws (n_v vs 0) 8) (w_fi ws (n_v vs 0) 6) (w_ei ws (w_ar ws (n_v vs 1) 7)) (w_ei ws (w_ar ws (n_v vs 1) 8)) (w_fi ws (n_v vs 1) 0) (w_fi ws (n_v vs 1) 1) (w_ei ws (w_ar ws (n_v vs 0) 10)) (w_ei ws (w_ar ws (n_v vs 1) 4)) (w_ei ws (w_ar ws (n_v vs 1) 3)) (w_fi ws (n_v vs 1) 2) (w_fi ws (n_v vs 0) 2) (w_fi ws (n_v vs 0) 3) k3 k5 k11 k12 g0 g1 (shm_1988 f2) (shm_451 f15) kz_0_2 kz_0_3 kz_0_5 kz_0_6 kz_0_7 kz_0_8 kz_0_11 kz_1_0 kz_1_1 kz_1_2)⟩
  have nf1 : fc_1 PRD (20, [12, 2, 0], [31, 1, 0, 1, 0, 0, -1, 1, 0, 0, -1, 1, 6]) ws (vs) := ⟨nf_in hl rfl, sgq_2150 (vc_Re_readItem_11_1 (v_iv (n_v vs 2)) (v_iv (n_v vs 12)) (w_fi ws (n_v vs 0) 6) k2 k12 kz_0_6)⟩
  refine ⟨(fun _ h => (by cases h)), [], trivial, ?_, (fun _ h => (by cases h))⟩
  rw [List.append_nil]
  exact List.forall_mem_cons.mpr ⟨⟨show (20 : Nat) < 100 from by decide, nf0⟩, List.forall_mem_cons.mpr ⟨⟨show (20 : Nat) < 100 from by decide, nf1⟩, (fun _ h => (by cases h))⟩⟩
set_option maxHeartbeats 4000000 in
theorem vc_Re_readItem_12_0 (x10 : Int) (next_0 : Int) (begin_0 : Int) (gx : Int) (k10 : 1 ≤ x10 ∧ x10 ≤ 1) (f4 : 1 * begin_0 + ((-1) * next_0 + 0) ≤ 0) (f14 : 1 * next_0 + ((-1) * begin_0 + (2000 * x10 + 0)) ≤ 2008) (kz_0_6 : 0 ≤ next_0 ∧ next_0 ≤ 2000) (kz_0_8 : 0 ≤ begin_0 ∧ begin_0 ≤ 2000) (ex2 : gx = next_0) : 1 * next_0 + ((-1) * begin_0 + 0) ≤ 8 := by
  first
    | omega
    | (have h := ri_lt ‹cRI _ _ _ _ _ _ _ _ _ _ _ _ _ _ _› (by omega); omega)
    | (have h := ri_lt ‹cRI _ _ _ _ _ _ _ _ _ _ _ _ _ _ _› (by have := (cwn_t ‹CWn _ _ _ _ _› (by omega)).1; omega); omega)
    | (have h := ri_lt ‹cRI _ _ _ _ _ _ _ _ _ _ _ _ _ _ _› (by have := (cwg_t ‹CWg _ _ _ _ _› (by omega)).1; omega); omega)
    | (have h := ri_lt ‹cRI _ _ _ _ _ _ _ _ _ _ _ _ _ _ _› (by have := (cnm_t ‹CNM _ _ _ _ _› (by omega)).1; omega); omega)
set_option maxHeartbeats 4000000 in
theorem vc_Re_readItem_12_1 (x10 : Int) (next_0 : Int) (begin_0 : Int) (gx : Int) (k10 : 1 ≤ x10 ∧ x10 ≤ 1) (f4 : 1 * begin_0 + ((-1) * next_0 + 0) ≤ 0) (f14 : 1 * next_0 + ((-1) * begin_0 + (2000 * x10 + 0)) ≤ 2008) (kz_0_6 : 0 ≤ next_0 ∧ next_0 ≤ 2000) (kz_0_8 : 0 ≤ begin_0 ∧ begin_0 ≤ 2000) (ex2 : gx = next_0) : (-1) * next_0 + (1 * begin_0 + 0) ≤ 0 := by
  first
    | omega
    | (have h := ri_lt ‹cRI _ _ _ _ _ _ _ _ _ _ _ _ _ _ _› (by omega); omega)
    | (have h := ri_lt ‹cRI _ _ _ _ _ _ _ _ _ _ _ _ _ _ _› (by have := (cwn_t ‹CWn _ _ _ _ _› (by omega)).1; omega); omega)
    | (have h := ri_lt ‹cRI _ _ _ _ _ _ _ _ _ _ _ _ _ _ _› (by have := (cwg_t ‹CWg _ _ _ _ _› (by omega)).1; omega); omega)
    | (have h := ri_lt ‹cRI _ _ _ _ _ _ _ _ _ _ _ _ _ _ _› (by have := (cnm_t ‹CNM _ _ _ _ _› (by omega)).1; omega); omega)
set_option maxHeartbeats 4000000 in
theorem vc_Re_readItem_12_2 (near_0o1 : Int → Int) (tail_0o1 : Int → Int) (head_0o1 : Int → Int) (nodes_0o1 : Int) (edges_0o1 : Int) (f5 : GNB (nodes_0o1) (edges_0o1) (near_0o1) (tail_0o1) (head_0o1)) (kz_1_0 : 0 ≤ nodes_0o1 ∧ nodes_0o1 ≤ 24) (kz_1_1 : 0 ≤ edges_0o1 ∧ edges_0o1 ≤ 48) : GNB (nodes_0o1) (edges_0o1) (near_0o1) (tail_0o1) (head_0o1) := by
  first
    | assumption
  
set_option maxHeartbeats 4000000 in
theorem vc_Re_readItem_12_3 (tail_0o1 : Int → Int) (head_0o1 : Int → Int) (nodes_0o1 : Int) (edges_0o1 : Int) (f6 : GKE (nodes_0o1) (edges_0o1) (tail_0o1) (head_0o1)) (kz_1_0 : 0 ≤ nodes_0o1 ∧ nodes_0o1 ≤ 24) (kz_1_1 : 0 ≤ edges_0o1 ∧ edges_0o1 ≤ 48) : GKE (nodes_0o1) (edges_0o1) (tail_0o1) (head_0o1) := by
  first
    | assumption
  
set_option maxHeartbeats 4000000 in
theorem vc_Re_readItem_12_4 (next_0 : Int) (gx : Int) (kz_0_6 : 0 ≤ next_0 ∧ next_0 ≤ 2000) (ex2 : gx = next_0) : 1 * next_0 + ((-1) * gx + 0) ≤ 0 := by
  first
    | omega
    | (have h := ri_lt ‹cRI _ _ _ _ _ _ _ _ _ _ _ _ _ _ _› (by omega); omega)
    | (have h := ri_lt ‹cRI _ _ _ _ _ _ _ _ _ _ _ _ _ _ _› (by have := (cwn_t ‹CWn _ _ _ _ _› (by omega)).1; omega); omega)
    | (have h := ri_lt ‹cRI _ _ _ _ _ _ _ _ _ _ _ _ _ _ _› (by have := (cwg_t ‹CWg _ _ _ _ _› (by omega)).1; omega); omega)
    | (have h := ri_lt ‹cRI _ _ _ _ _ _ _ _ _ _ _ _ _ _ _› (by have := (cnm_t ‹CNM _ _ _ _ _› (by omega)).1; omega); omega)
set_option maxHeartbeats 4000000 in
theorem vc_Re_readItem_12_5 (next_0 : Int) (gx : Int) (kz_0_6 : 0 ≤ next_0 ∧ next_0 ≤ 2000) (ex2 : gx = next_0) : (-1) * next_0 + (1 * gx + 0) ≤ 0 := by
  first
    | omega
    | (have h := ri_lt ‹cRI _ _ _ _ _ _ _ _ _ _ _ _ _ _ _› (by omega); omega)
    | (have h := ri_lt ‹cRI _ _ _ _ _ _ _ _ _ _ _ _ _ _ _› (by have := (cwn_t ‹CWn _ _ _ _ _› (by omega)).1; omega); omega)
    | (have h := ri_lt ‹cRI _ _ _ _ _ _ _ _ _ _ _ _ _ _ _› (by have := (cwg_t ‹CWg _ _ _ _ _› (by omega)).1; omega); omega)
    | (have h := ri_lt ‹cRI _ _ _ _ _ _ _ _ _ _ _ _ _ _ _› (by have := (cnm_t ‹CNM _ _ _ _ _› (by omega)).1; omega); omega)
set_option maxHeartbeats 4000000 in
theorem vc_Re_readItem_12_6 (x10 : Int) (depth_0 : Int) (kind_0 : Int) (next_0 : Int) (begin_0 : Int) (tail_0o1 : Int → Int) (head_0o1 : Int → Int) (nodes_0o1 : Int) (edges_0o1 : Int) (tape_0 : Int → Int) (open_0 : Int → Int) (nameLength_0o1 : Int → Int) (name_0o1 : Int → Int) (end_0 : Int) (number_0 : Int) (groups_0o1 : Int) (k10 : 1 ≤ x10 ∧ x10 ≤ 1) (f2 : x10 ≠ 0) (f9 : cRI (end_0) (next_0) (kind_0) (begin_0) (number_0) (depth_0) (nodes_0o1) (edges_0o1) (groups_0o1) (tape_0) (open_0) (nameLength_0o1) (name_0o1) (tail_0o1) (head_0o1)) (f15 : CNM (kind_0) (next_0) (begin_0) (tape_0) (x10)) (kz_0_5 : 0 ≤ end_0 ∧ end_0 ≤ 2000) (kz_0_6 : 0 ≤ next_0 ∧ next_0 ≤ 2000) (kz_0_7 : (-128) ≤ kind_0 ∧ kind_0 ≤ 127) (kz_0_8 : 0 ≤ begin_0 ∧ begin_0 ≤ 2000) (kz_0_9 : (-176) ≤ number_0 ∧ number_0 ≤ 1000000) (kz_0_11 : 0 ≤ depth_0 ∧ depth_0 ≤ 4) (kz_1_0 : 0 ≤ nodes_0o1 ∧ nodes_0o1 ≤ 24) (kz_1_1 : 0 ≤ edges_0o1 ∧ edges_0o1 ≤ 48) (kz_1_2 : 0 ≤ groups_0o1 ∧ groups_0o1 ≤ 8) : cRE (end_0) (next_0) (kind_0) (begin_0) (number_0) (depth_0) (nodes_0o1) (edges_0o1) (groups_0o1) (tape_0) (open_0) (nameLength_0o1) (name_0o1) (tail_0o1) (head_0o1) := by
  exact i_e ‹cRI _ _ _ _ _ _ _ _ _ _ _ _ _ _ _› (cnm_t ‹CNM _ _ _ _ _› (by omega))
set_option maxHeartbeats 4000000 in
theorem vc_Re_readItem_12_7 (fault_0 : Int) (f10 : fault_0 = 0) (kz_0_2 : (-1) ≤ fault_0 ∧ fault_0 ≤ 5) : fault_0 = 0 := by
  first
    | omega
    | (have h := ri_lt ‹cRI _ _ _ _ _ _ _ _ _ _ _ _ _ _ _› (by omega); omega)
    | (have h := ri_lt ‹cRI _ _ _ _ _ _ _ _ _ _ _ _ _ _ _› (by have := (cwn_t ‹CWn _ _ _ _ _› (by omega)).1; omega); omega)
    | (have h := ri_lt ‹cRI _ _ _ _ _ _ _ _ _ _ _ _ _ _ _› (by have := (cwg_t ‹CWg _ _ _ _ _› (by omega)).1; omega); omega)
    | (have h := ri_lt ‹cRI _ _ _ _ _ _ _ _ _ _ _ _ _ _ _› (by have := (cnm_t ‹CNM _ _ _ _ _› (by omega)).1; omega); omega)
set_option maxHeartbeats 4000000 in
theorem vc_Re_readItem_12_8 (tail_0o1 : Int → Int) (head_0o1 : Int → Int) (edges_0o1 : Int) (link_0o1 : Int → Int) (f11 : LKG (edges_0o1) (tail_0o1) (head_0o1) (link_0o1)) (kz_1_1 : 0 ≤ edges_0o1 ∧ edges_0o1 ≤ 48) : LKG (edges_0o1) (tail_0o1) (head_0o1) (link_0o1) := by
  assumption
set_option maxHeartbeats 4000000 in
theorem vc_Re_readItem_12_9 (x2 : Int) (x3 : Int) (x10 : Int) (depth_0 : Int) (kind_0 : Int) (next_0 : Int) (begin_0 : Int) (tail_0o1 : Int → Int) (head_0o1 : Int → Int) (nodes_0o1 : Int) (edges_0o1 : Int) (tape_0 : Int → Int) (open_0 : Int → Int) (nameLength_0o1 : Int → Int) (name_0o1 : Int → Int) (end_0 : Int) (number_0 : Int) (groups_0o1 : Int) (gx : Int) (k2 : 0 ≤ x2 ∧ x2 ≤ 2000) (k3 : 125 ≤ x3 ∧ x3 ≤ 125) (k10 : 1 ≤ x10 ∧ x10 ≤ 1) (g1 : x3 = kind_0) (f4 : 1 * begin_0 + ((-1) * next_0 + 0) ≤ 0) (f7 : 1 * begin_0 + ((-1) * x2 + 0) ≤ 0) (f8 : (-1) * begin_0 + (1 * x2 + 0) ≤ 0) (f9 : cRI (end_0) (next_0) (kind_0) (begin_0) (number_0) (depth_0) (nodes_0o1) (edges_0o1) (groups_0o1) (tape_0) (open_0) (nameLength_0o1) (name_0o1) (tail_0o1) (head_0o1)) (f14 : 1 * next_0 + ((-1) * begin_0 + (2000 * x10 + 0)) ≤ 2008) (kz_0_5 : 0 ≤ end_0 ∧ end_0 ≤ 2000) (kz_0_6 : 0 ≤ next_0 ∧ next_0 ≤ 2000) (kz_0_7 : (-128) ≤ kind_0 ∧ kind_0 ≤ 127) (kz_0_8 : 0 ≤ begin_0 ∧ begin_0 ≤ 2000) (kz_0_9 : (-176) ≤ number_0 ∧ number_0 ≤ 1000000) (kz_0_11 : 0 ≤ depth_0 ∧ depth_0 ≤ 4) (kz_1_0 : 0 ≤ nodes_0o1 ∧ nodes_0o1 ≤ 24) (kz_1_1 : 0 ≤ edges_0o1 ∧ edges_0o1 ≤ 48) (kz_1_2 : 0 ≤ groups_0o1 ∧ groups_0o1 ≤ 8) (ex2 : gx = next_0) : 1 * x2 + ((-1) * gx + 0) ≤ (-1) := by
  first
    | omega
    | (have h := ri_lt ‹cRI _ _ _ _ _ _ _ _ _ _ _ _ _ _ _› (by omega); omega)
    | (have h := ri_lt ‹cRI _ _ _ _ _ _ _ _ _ _ _ _ _ _ _› (by have := (cwn_t ‹CWn _ _ _ _ _› (by omega)).1; omega); omega)
    | (have h := ri_lt ‹cRI _ _ _ _ _ _ _ _ _ _ _ _ _ _ _› (by have := (cwg_t ‹CWg _ _ _ _ _› (by omega)).1; omega); omega)
    | (have h := ri_lt ‹cRI _ _ _ _ _ _ _ _ _ _ _ _ _ _ _› (by have := (cnm_t ‹CNM _ _ _ _ _› (by omega)).1; omega); omega)
def o_Re_readItem_12 : or_T := (64, 11, [(0, (2, 0, 0, [8])), (1, (2, 0, 0, [164])), (2, (0, 0, 2000, [])), (3, (0, 125, 125, [])), (10, (0, 1, 1, []))], [(9, [3, 0], [7]), (8, [10], [1]), (20, [0, 0], [30, 0, 1, 1, 8, -1, 1, 6]), (20, [1], [60, 2, 3, 670, 0, 1, 14, 7, 8]), (20, [1], [60, 2, 2, 596, 0, 1, 7, 8]), (20, [0, 2], [30, 0, 1, 1, 8, -1, 0, 0]), (20, [0, 2], [30, 0, -1, 1, 8, 1, 0, 0]), (20, [0, 1], [60, 9, 6, 1058, 5, 6, 7, 8, 9, 11, 1000, 1001, 1002, 0, 10, 1004, 1003, 1007, 1008]), (20, [0], [50, 1, 0, 2, 1, 3, 2, 0, 2, 0, 0]), (20, [1], [60, 1, 3, 1085, 1, 7, 8, 15]), (20, [0, 0, 10], [30, 2008, 1, 1, 6, -1, 1, 8, 2000, 0, 0]), (20, [0, 10], [60, 3, 1, 1079, 7, 6, 8, 0])], [], [(0, 0, 2000, [])], [(20, [0, 0], [30, 8, 1, 1, 6, -1, 1, 8]), (20, [0, 0], [30, 0, -1, 1, 6, 1, 1, 8]), (20, [1], [60, 2, 3, 670, 0, 1, 14, 7, 8]), (20, [1], [60, 2, 2, 596, 0, 1, 7, 8]), (20, [0, 11], [30, 0, 1, 1, 6, -1, 0, 0]), (20, [0, 11], [30, 0, -1, 1, 6, 1, 0, 0]), (20, [0, 1], [60, 9, 6, 1060, 5, 6, 7, 8, 9, 11, 1000, 1001, 1002, 0, 10, 1004, 1003, 1007, 1008]), (20, [0], [50, 1, 0, 2, 1, 3, 2, 0, 2, 0, 0]), (20, [1], [60, 1, 3, 1085, 1, 7, 8, 15]), (20, [2, 11], [30, -1, 1, 0, 0, -1, 0, 0])], [], [])
theorem oo_Re_readItem_12 {kA : Nat → ClassId} : or_ok PRD kA GG o_Re_readItem_12 := by
  refine or_mk fun A ta ws vs hD hth hl => ?_
  intro t0 r0 t1 r1 t2 k2 t3 k3 t10 k10 f1 f2 f4 f5 f6 f7 f8 f9 f10 f11 f14 f15
  replace f1 := shm_198 f1
  replace f2 := shm_142 f2
  replace f4 := shm_1531 f4
  replace f5 := shm_825 f5
  replace f6 := shm_386 f6
  replace f7 := shm_303 f7
  replace f8 := shm_304 f8
  replace f9 := shm_2149 f9
  replace f10 := shm_1985 f10
  replace f11 := shm_827 f11
  replace f14 := shm_1836 f14
  replace f15 := shm_1837 f15
  have g1 : v_iv (n_v vs 3) = w_fi ws (n_v vs 0) 7 := congrArg v_iv f1
  have kz_0_2 := fdq_97 hD hth r0
  have kz_0_5 := fdq_207 hD hth r0
  have kz_0_6 := fdq_208 hD hth r0
  have kz_0_7 := fdq_297 hD hth r0
  have kz_0_8 := fdq_99 hD hth r0
  have kz_0_9 := fdq_296 hD hth r0
  have kz_0_11 := fdq_320 hD hth r0
  have kz_1_0 := fdq_73 hD hth r1
  have kz_1_1 := fdq_74 hD hth r1
  have kz_1_2 := fdq_206 hD hth r1
  obtain ⟨x, ex, hx⟩ := iv_ex (ta := ta) (lo := 0) (hi := 2000) (z := w_fi ws (n_v vs 0) 6) (by omega) (by omega) (by omega) (by omega)
  have ex2 : v_iv (Value.int x) = w_fi ws (n_v vs 0) 6 := ex
  have ex3 : 0 ≤ v_iv (Value.int x) ∧ v_iv (Value.int x) ≤ 2000 := tv_rng hx
  have e_0 : n_v (vs ++ [Value.int x]) 0 = n_v vs 0 := n_v_old (by rw [hl]; decide)
  have e_1 : n_v (vs ++ [Value.int x]) 1 = n_v vs 1 := n_v_old (by rw [hl]; decide)
  have e_2 : n_v (vs ++ [Value.int x]) 2 = n_v vs 2 := n_v_old (by rw [hl]; decide)
  have e_11 : n_v (vs ++ [Value.int x]) 11 = Value.int x := n_v_new hl
  have nf0 : fc_1 PRD (20, [0, 0], [30, 8, 1, 1, 6, -1, 1, 8]) ws (vs ++ [Value.int x]) := by
    refine ⟨nf_inA hl rfl, sgq_1401 ?_⟩
    · show 1 * w_fi ws (n_v (vs ++ [Value.int x]) 0) 6 + ((-1) * w_fi ws (n_v (vs ++ [Value.int x]) 0) 8 + 0) ≤ 8
      rw [e_0]
      exact vc_Re_readItem_12_0 (v_iv (n_v vs 10)) (w_fi ws (n_v vs 0) 6) (w_fi ws (n_v vs 0) 8) (v_iv (Value.int x)) k10 f4 f14 kz_0_6 kz_0_8 ex2
  have nf1 : fc_1 PRD (20, [0, 0], [30, 0, -1, 1, 6, 1, 1, 8]) ws (vs ++ [Value.int x]) := by
    refine ⟨nf_inA hl rfl, sgq_1402 ?_⟩
    · show (-1) * w_fi ws (n_v (vs ++ [Value.int x]) 0) 6 + (1 * w_fi ws (n_v (vs ++ [Value.int x]) 0) 8 + 0) ≤ 0
      rw [e_0]
      exact vc_Re_readItem_12_1 (v_iv (n_v vs 10)) (w_fi ws (n_v vs 0) 6) (w_fi ws (n_v vs 0) 8) (v_iv (Value.int x)) k10 f4 f14 kz_0_6 kz_0_8 ex2
  have nf2 : fc_1 PRD (20, [1], [60, 2, 3, 670, 0, 1, 14, 7, 8]) ws (vs ++ [Value.int x]) := by
    refine ⟨nf_inA hl rfl, sgq_825 ?_⟩
    · show GNB (w_fi ws (n_v (vs ++ [Value.int x]) 1) 0) (w_fi ws (n_v (vs ++ [Value.int x]) 1) 1) (w_ei ws (w_ar ws (n_v (vs ++ [Value.int x]) 1) 14)) (w_ei ws (w_ar ws (n_v (vs ++ [Value.int x]) 1) 7)) (w_ei ws (w_ar ws (n_v (vs ++ [Value.int x]) 1) 8))
      rw [e_1]
      exact vc_Re_readItem_12_2 (w_ei ws (w_ar ws (n_v vs 1) 14)) (w_ei ws (w_ar ws (n_v vs 1) 7)) (w_ei ws (w_ar ws (n_v vs 1) 8)) (w_fi ws (n_v vs 1) 0) (w_fi ws (n_v vs 1) 1) f5 kz_1_0 kz_1_1
  have nf3 : fc_1 PRD (20, [1], [60, 2, 2, 596, 0, 1, 7, 8]) ws (vs ++ [Value.int x]) := by
    refine ⟨nf_inA hl rfl, sgq_386 ?_⟩
    · show GKE (w_fi ws (n_v (vs ++ [Value.int x]) 1) 0) (w_fi ws (n_v (vs ++ [Value.int x]) 1) 1) (w_ei ws (w_ar ws (n_v (vs ++ [Value.int x]) 1) 7)) (w_ei ws (w_ar ws (n_v (vs ++ [Value.int x]) 1) 8))
      rw [e_1]
      exact vc_Re_readItem_12_3 (w_ei ws (w_ar ws (n_v vs 1) 7)) (w_ei ws (w_ar ws (n_v vs 1) 8)) (w_fi ws (n_v vs 1) 0) (w_fi ws (n_v vs 1) 1) f6 kz_1_0 kz_1_1
  have nf4 : fc_1 PRD (20, [0, 11], [30, 0, 1, 1, 6, -1, 0, 0]) ws (vs ++ [Value.int x]) := by
    refine ⟨nf_inA hl rfl, sgq_1523 ?_⟩
    · show 1 * w_fi ws (n_v (vs ++ [Value.int x]) 0) 6 + ((-1) * v_iv (n_v (vs ++ [Value.int x]) 11) + 0) ≤ 0
      simp only [e_0, e_11]
      exact vc_Re_readItem_12_4 (w_fi ws (n_v vs 0) 6) (v_iv (Value.int x)) kz_0_6 ex2
  have nf5 : fc_1 PRD (20, [0, 11], [30, 0, -1, 1, 6, 1, 0, 0]) ws (vs ++ [Value.int x]) := by
    refine ⟨nf_inA hl rfl, sgq_1524 ?_⟩
    · show (-1) * w_fi ws (n_v (vs ++ [Value.int x]) 0) 6 + (1 * v_iv (n_v (vs ++ [Value.int x]) 11) + 0) ≤ 0
      simp only [e_0, e_11]
      exact vc_Re_readItem_12_5 (w_fi ws (n_v vs 0) 6) (v_iv (Value.int x)) kz_0_6 ex2
  have nf6 : fc_1 PRD (20, [0, 1], [60, 9, 6, 1060, 5, 6, 7, 8, 9, 11, 1000, 1001, 1002, 0, 10, 1004, 1003, 1007, 1008]) ws (vs ++ [Value.int x]) := by
    refine ⟨nf_inA hl rfl, sgq_2134 ?_⟩
    · show cRE (w_fi ws (n_v (vs ++ [Value.int x]) 0) 5) (w_fi ws (n_v (vs ++ [Value.int x]) 0) 6) (w_fi ws (n_v (vs ++ [Value.int x]) 0) 7) (w_fi ws (n_v (vs ++ [Value.int x]) 0) 8) (w_fi ws (n_v (vs ++ [Value.int x]) 0) 9) (w_fi ws (n_v (vs ++ [Value.int x]) 0) 11) (w_fi ws (n_v (vs ++ [Value.int x]) 1) 0) (w_fi ws (n_v (vs ++ [Value.int x]) 1) 1) (w_fi ws (n_v (vs ++ [Value.int x]) 1) 2) (w_ei ws (w_ar ws (n_v (vs ++ [Value.int x]) 0) 0)) (w_ei ws (w_ar ws (n_v (vs ++ [Value.int x]) 0) 10)) (w_ei ws (w_ar ws (n_v (vs ++ [Value.int x]) 1) 4)) (w_ei ws (w_ar ws (n_v (vs ++ [Value.int x]) 1) 3)) (w_ei ws (w_ar ws (n_v (vs ++ [Value.int x]) 1) 7)) (w_ei ws (w_ar ws (n_v (vs ++ [Value.int x]) 1) 8))
      simp only [e_0, e_1]
      exact vc_Re_readItem_12_6 (v_iv (n_v vs 10)) (w_fi ws (n_v vs 0) 11) (w_fi ws (n_v vs 0) 7) (w_fi ws (n_v vs 0) 6) (w_fi ws (n_v vs 0) 8) (w_ei ws (w_ar ws (n_v vs 1) 7)) (w_ei ws (w_ar ws (n_v vs 1) 8)) (w_fi ws (n_v vs 1) 0) (w_fi ws (n_v vs 1) 1) (w_ei ws (w_ar ws (n_v vs 0) 0)) (w_ei ws (w_ar ws (n_v vs 0) 10)) (w_ei ws (w_ar ws (n_v vs 1) 4)) (w_ei ws (w_ar ws (n_v vs 1) 3)) (w_fi ws (n_v vs 0) 5) (w_fi ws (n_v vs 0) 9) (w_fi ws (n_v vs 1) 2) k10 f2 f9 f15 kz_0_5 kz_0_6 kz_0_7 kz_0_8 kz_0_9 kz_0_11 kz_1_0 kz_1_1 kz_1_2
  have nf7 : fc_1 PRD (20, [0], [50, 1, 0, 2, 1, 3, 2, 0, 2, 0, 0]) ws (vs ++ [Value.int x]) := by
    refine ⟨nf_inA hl rfl, sgq_1985 ?_⟩
    · show w_fi ws (n_v (vs ++ [Value.int x]) 0) 2 = 0
      rw [e_0]
      exact vc_Re_readItem_12_7 (w_fi ws (n_v vs 0) 2) f10 kz_0_2
  have nf8 : fc_1 PRD (20, [1], [60, 1, 3, 1085, 1, 7, 8, 15]) ws (vs ++ [Value.int x]) := by
    refine ⟨nf_inA hl rfl, sgq_827 ?_⟩
    · show LKG (w_fi ws (n_v (vs ++ [Value.int x]) 1) 1) (w_ei ws (w_ar ws (n_v (vs ++ [Value.int x]) 1) 7)) (w_ei ws (w_ar ws (n_v (vs ++ [Value.int x]) 1) 8)) (w_ei ws (w_ar ws (n_v (vs ++ [Value.int x]) 1) 15))
      rw [e_1]
      exact vc_Re_readItem_12_8 (w_ei ws (w_ar ws (n_v vs 1) 7)) (w_ei ws (w_ar ws (n_v vs 1) 8)) (w_fi ws (n_v vs 1) 1) (w_ei ws (w_ar ws (n_v vs 1) 15)) f11 kz_1_1
  have nf9 : fc_1 PRD (20, [2, 11], [30, -1, 1, 0, 0, -1, 0, 0]) ws (vs ++ [Value.int x]) := by
    refine ⟨nf_inA hl rfl, sgq_2151 ?_⟩
    · show 1 * v_iv (n_v (vs ++ [Value.int x]) 2) + ((-1) * v_iv (n_v (vs ++ [Value.int x]) 11) + 0) ≤ (-1)
      simp only [e_2, e_11]
      exact vc_Re_readItem_12_9 (v_iv (n_v vs 2)) (v_iv (n_v vs 3)) (v_iv (n_v vs 10)) (w_fi ws (n_v vs 0) 11) (w_fi ws (n_v vs 0) 7) (w_fi ws (n_v vs 0) 6) (w_fi ws (n_v vs 0) 8) (w_ei ws (w_ar ws (n_v vs 1) 7)) (w_ei ws (w_ar ws (n_v vs 1) 8)) (w_fi ws (n_v vs 1) 0) (w_fi ws (n_v vs 1) 1) (w_ei ws (w_ar ws (n_v vs 0) 0)) (w_ei ws (w_ar ws (n_v vs 0) 10)) (w_ei ws (w_ar ws (n_v vs 1) 4)) (w_ei ws (w_ar ws (n_v vs 1) 3)) (w_fi ws (n_v vs 0) 5) (w_fi ws (n_v vs 0) 9) (w_fi ws (n_v vs 1) 2) (v_iv (Value.int x)) k2 k3 k10 g1 f4 f7 f8 f9 f14 kz_0_5 kz_0_6 kz_0_7 kz_0_8 kz_0_9 kz_0_11 kz_1_0 kz_1_1 kz_1_2 ex2
  exact ⟨(fun _ h => (by cases h)), [Value.int x], ag_one hx, List.forall_mem_cons.mpr ⟨⟨show (20 : Nat) < 100 from by decide, nf0⟩, List.forall_mem_cons.mpr ⟨⟨show (20 : Nat) < 100 from by decide, nf1⟩, List.forall_mem_cons.mpr ⟨⟨show (20 : Nat) < 100 from by decide, nf2⟩, List.forall_mem_cons.mpr ⟨⟨show (20 : Nat) < 100 from by decide, nf3⟩, List.forall_mem_cons.mpr ⟨⟨show (20 : Nat) < 100 from by decide, nf4⟩, List.forall_mem_cons.mpr ⟨⟨show (20 : Nat) < 100 from by decide, nf5⟩, List.forall_mem_cons.mpr ⟨⟨show (20 : Nat) < 100 from by decide, nf6⟩, List.forall_mem_cons.mpr ⟨⟨show (20 : Nat) < 100 from by decide, nf7⟩, List.forall_mem_cons.mpr ⟨⟨show (20 : Nat) < 100 from by decide, nf8⟩, List.forall_mem_cons.mpr ⟨⟨show (20 : Nat) < 100 from by decide, nf9⟩, (fun _ h => (by cases h))⟩⟩⟩⟩⟩⟩⟩⟩⟩⟩, (fun _ h => (by cases h))⟩
set_option maxHeartbeats 4000000 in
theorem vc_Re_readItem_13_0 (x2 : Int) (x11 : Int) (x12 : Int) (next_0 : Int) (k2 : 0 ≤ x2 ∧ x2 ≤ 2000) (k11 : 0 ≤ x11 ∧ x11 ≤ 2000) (k12 : 0 ≤ x12 ∧ x12 ≤ 1) (f1 : 1 * x2 + ((-1) * x11 + 0) ≤ (-1)) (f5 : 1 * x11 + ((-1) * next_0 + 0) ≤ 0) (kz_0_6 : 0 ≤ next_0 ∧ next_0 ≤ 2000) : (1 * x12 + 0 ≤ 0) ∨ (1 * x2 + ((-1) * next_0 + 0) ≤ (-1)) := by
  first
    | omega
    | (have h := ri_lt ‹cRI _ _ _ _ _ _ _ _ _ _ _ _ _ _ _› (by omega); omega)
    | (have h := ri_lt ‹cRI _ _ _ _ _ _ _ _ _ _ _ _ _ _ _› (by have := (cwn_t ‹CWn _ _ _ _ _› (by omega)).1; omega); omega)
    | (have h := ri_lt ‹cRI _ _ _ _ _ _ _ _ _ _ _ _ _ _ _› (by have := (cwg_t ‹CWg _ _ _ _ _› (by omega)).1; omega); omega)
    | (have h := ri_lt ‹cRI _ _ _ _ _ _ _ _ _ _ _ _ _ _ _› (by have := (cnm_t ‹CNM _ _ _ _ _› (by omega)).1; omega); omega)
def o_Re_readItem_13 : or_T := (75, 13, [(0, (2, 0, 0, [8])), (1, (2, 0, 0, [164])), (2, (0, 0, 2000, [])), (5, (0, 0, 0, [])), (11, (0, 0, 2000, [])), (12, (0, 0, 1, []))], [(9, [5, 0], [11]), (20, [2, 11], [30, -1, 1, 0, 0, -1, 0, 0]), (20, [1], [60, 2, 3, 670, 0, 1, 14, 7, 8]), (20, [1], [60, 2, 2, 596, 0, 1, 7, 8]), (20, [0, 1, 12], [60, 8, 6, 1063, 5, 6, 11, 2, 3, 1000, 1001, 1002, 0, 10, 1004, 1003, 1007, 1008]), (20, [11, 0], [30, 0, 1, 0, 0, -1, 1, 6]), (20, [1], [60, 1, 3, 1085, 1, 7, 8, 15]), (102, [11], [9132957985625437278891971918507319377713195646976, 8002, 8003, 8006, 8007, 8008, 8009, 164000, 164001]), (102, [9], [0]), (102, [8], [0]), (102, [6], [0]), (8, [5], [5])], [], [], [(20, [12, 2, 0], [31, 1, 0, 1, 0, 0, -1, 1, 0, 0, -1, 1, 6])], [], [])
theorem oo_Re_readItem_13 {kA : Nat → ClassId} : or_ok PRD kA GG o_Re_readItem_13 := by
  refine or_mk fun A ta ws vs hD hth hl => ?_
  intro t0 r0 t1 r1 t2 k2 t5 k5 t11 k11 t12 k12 f0 f1 f2 f3 f4 f5 f6 ta1 w1 le1 s1 ta2 w2 le2 s2 ta3 w3 le3 s3 ta4 w4 le4 s4 f11
  have kz_0_6 := fdq_208 hD hth r0
  have nf0 : fc_1 PRD (20, [12, 2, 0], [31, 1, 0, 1, 0, 0, -1, 1, 0, 0, -1, 1, 6]) ws (vs) := ⟨nf_in hl rfl, sgq_2150 (vc_Re_readItem_13_0 (v_iv (n_v vs 2)) (v_iv (n_v vs 11)) (v_iv (n_v vs 12)) (w_fi ws (n_v vs 0) 6) k2 k11 k12 (shm_2151 f1) (shm_1527 f5) kz_0_6)⟩
  refine ⟨(fun _ h => (by cases h)), [], trivial, ?_, (fun _ h => (by cases h))⟩
  rw [List.append_nil]
  exact List.forall_mem_cons.mpr ⟨⟨show (20 : Nat) < 100 from by decide, nf0⟩, (fun _ h => (by cases h))⟩
set_option maxHeartbeats 4000000 in
theorem vc_Re_readItem_14_0 (near_0o1 : Int → Int) (tail_0o1 : Int → Int) (head_0o1 : Int → Int) (nodes_0o1 : Int) (edges_0o1 : Int) (f5 : GNB (nodes_0o1) (edges_0o1) (near_0o1) (tail_0o1) (head_0o1)) (kz_1_0 : 0 ≤ nodes_0o1 ∧ nodes_0o1 ≤ 24) (kz_1_1 : 0 ≤ edges_0o1 ∧ edges_0o1 ≤ 48) : GNB (nodes_0o1) (edges_0o1) (near_0o1) (tail_0o1) (head_0o1) := by
  first
    | assumption
  
set_option maxHeartbeats 4000000 in
theorem vc_Re_readItem_14_1 (tail_0o1 : Int → Int) (head_0o1 : Int → Int) (nodes_0o1 : Int) (edges_0o1 : Int) (f6 : GKE (nodes_0o1) (edges_0o1) (tail_0o1) (head_0o1)) (kz_1_0 : 0 ≤ nodes_0o1 ∧ nodes_0o1 ≤ 24) (kz_1_1 : 0 ≤ edges_0o1 ∧ edges_0o1 ≤ 48) : GKE (nodes_0o1) (edges_0o1) (tail_0o1) (head_0o1) := by
  first
    | assumption
  
set_option maxHeartbeats 4000000 in
theorem vc_Re_readItem_14_2 (next_0 : Int) (gx : Int) (kz_0_6 : 0 ≤ next_0 ∧ next_0 ≤ 2000) (ex2 : gx = next_0) : 1 * next_0 + ((-1) * gx + 0) ≤ 0 := by
  first
    | omega
    | (have h := ri_lt ‹cRI _ _ _ _ _ _ _ _ _ _ _ _ _ _ _› (by omega); omega)
    | (have h := ri_lt ‹cRI _ _ _ _ _ _ _ _ _ _ _ _ _ _ _› (by have := (cwn_t ‹CWn _ _ _ _ _› (by omega)).1; omega); omega)
    | (have h := ri_lt ‹cRI _ _ _ _ _ _ _ _ _ _ _ _ _ _ _› (by have := (cwg_t ‹CWg _ _ _ _ _› (by omega)).1; omega); omega)
    | (have h := ri_lt ‹cRI _ _ _ _ _ _ _ _ _ _ _ _ _ _ _› (by have := (cnm_t ‹CNM _ _ _ _ _› (by omega)).1; omega); omega)
set_option maxHeartbeats 4000000 in
theorem vc_Re_readItem_14_3 (next_0 : Int) (gx : Int) (kz_0_6 : 0 ≤ next_0 ∧ next_0 ≤ 2000) (ex2 : gx = next_0) : (-1) * next_0 + (1 * gx + 0) ≤ 0 := by
  first
    | omega
    | (have h := ri_lt ‹cRI _ _ _ _ _ _ _ _ _ _ _ _ _ _ _› (by omega); omega)
    | (have h := ri_lt ‹cRI _ _ _ _ _ _ _ _ _ _ _ _ _ _ _› (by have := (cwn_t ‹CWn _ _ _ _ _› (by omega)).1; omega); omega)
    | (have h := ri_lt ‹cRI _ _ _ _ _ _ _ _ _ _ _ _ _ _ _› (by have := (cwg_t ‹CWg _ _ _ _ _› (by omega)).1; omega); omega)
    | (have h := ri_lt ‹cRI _ _ _ _ _ _ _ _ _ _ _ _ _ _ _› (by have := (cnm_t ‹CNM _ _ _ _ _› (by omega)).1; omega); omega)
set_option maxHeartbeats 4000000 in
theorem vc_Re_readItem_14_4 (x9 : Int) (depth_0 : Int) (kind_0 : Int) (next_0 : Int) (begin_0 : Int) (tail_0o1 : Int → Int) (head_0o1 : Int → Int) (nodes_0o1 : Int) (edges_0o1 : Int) (tape_0 : Int → Int) (open_0 : Int → Int) (nameLength_0o1 : Int → Int) (name_0o1 : Int → Int) (end_0 : Int) (number_0 : Int) (groups_0o1 : Int) (k9 : 1 ≤ x9 ∧ x9 ≤ 1) (f2 : x9 ≠ 0) (f9 : cRI (end_0) (next_0) (kind_0) (begin_0) (number_0) (depth_0) (nodes_0o1) (edges_0o1) (groups_0o1) (tape_0) (open_0) (nameLength_0o1) (name_0o1) (tail_0o1) (head_0o1)) (f13 : CWg (kind_0) (next_0) (begin_0) (tape_0) (x9)) (kz_0_5 : 0 ≤ end_0 ∧ end_0 ≤ 2000) (kz_0_6 : 0 ≤ next_0 ∧ next_0 ≤ 2000) (kz_0_7 : (-128) ≤ kind_0 ∧ kind_0 ≤ 127) (kz_0_8 : 0 ≤ begin_0 ∧ begin_0 ≤ 2000) (kz_0_9 : (-176) ≤ number_0 ∧ number_0 ≤ 1000000) (kz_0_11 : 0 ≤ depth_0 ∧ depth_0 ≤ 4) (kz_1_0 : 0 ≤ nodes_0o1 ∧ nodes_0o1 ≤ 24) (kz_1_1 : 0 ≤ edges_0o1 ∧ edges_0o1 ≤ 48) (kz_1_2 : 0 ≤ groups_0o1 ∧ groups_0o1 ≤ 8) : cRGp (end_0) (next_0) (kind_0) (begin_0) (number_0) (depth_0) (nodes_0o1) (edges_0o1) (groups_0o1) (tape_0) (open_0) (nameLength_0o1) (name_0o1) (tail_0o1) (head_0o1) := by
  exact i_g ‹cRI _ _ _ _ _ _ _ _ _ _ _ _ _ _ _› (cwg_t ‹CWg _ _ _ _ _› (by omega))
set_option maxHeartbeats 4000000 in
theorem vc_Re_readItem_14_5 (fault_0 : Int) (f10 : fault_0 = 0) (kz_0_2 : (-1) ≤ fault_0 ∧ fault_0 ≤ 5) : fault_0 = 0 := by
  first
    | omega
    | (have h := ri_lt ‹cRI _ _ _ _ _ _ _ _ _ _ _ _ _ _ _› (by omega); omega)
    | (have h := ri_lt ‹cRI _ _ _ _ _ _ _ _ _ _ _ _ _ _ _› (by have := (cwn_t ‹CWn _ _ _ _ _› (by omega)).1; omega); omega)
    | (have h := ri_lt ‹cRI _ _ _ _ _ _ _ _ _ _ _ _ _ _ _› (by have := (cwg_t ‹CWg _ _ _ _ _› (by omega)).1; omega); omega)
    | (have h := ri_lt ‹cRI _ _ _ _ _ _ _ _ _ _ _ _ _ _ _› (by have := (cnm_t ‹CNM _ _ _ _ _› (by omega)).1; omega); omega)
set_option maxHeartbeats 4000000 in
theorem vc_Re_readItem_14_6 (x2 : Int) (x3 : Int) (depth_0 : Int) (kind_0 : Int) (next_0 : Int) (begin_0 : Int) (tail_0o1 : Int → Int) (head_0o1 : Int → Int) (nodes_0o1 : Int) (edges_0o1 : Int) (tape_0 : Int → Int) (open_0 : Int → Int) (nameLength_0o1 : Int → Int) (name_0o1 : Int → Int) (end_0 : Int) (number_0 : Int) (groups_0o1 : Int) (gx : Int) (k2 : 0 ≤ x2 ∧ x2 ≤ 2000) (k3 : 125 ≤ x3 ∧ x3 ≤ 125) (g1 : x3 = kind_0) (f7 : 1 * begin_0 + ((-1) * x2 + 0) ≤ 0) (f8 : (-1) * begin_0 + (1 * x2 + 0) ≤ 0) (f9 : cRI (end_0) (next_0) (kind_0) (begin_0) (number_0) (depth_0) (nodes_0o1) (edges_0o1) (groups_0o1) (tape_0) (open_0) (nameLength_0o1) (name_0o1) (tail_0o1) (head_0o1)) (kz_0_5 : 0 ≤ end_0 ∧ end_0 ≤ 2000) (kz_0_6 : 0 ≤ next_0 ∧ next_0 ≤ 2000) (kz_0_7 : (-128) ≤ kind_0 ∧ kind_0 ≤ 127) (kz_0_8 : 0 ≤ begin_0 ∧ begin_0 ≤ 2000) (kz_0_9 : (-176) ≤ number_0 ∧ number_0 ≤ 1000000) (kz_0_11 : 0 ≤ depth_0 ∧ depth_0 ≤ 4) (kz_1_0 : 0 ≤ nodes_0o1 ∧ nodes_0o1 ≤ 24) (kz_1_1 : 0 ≤ edges_0o1 ∧ edges_0o1 ≤ 48) (kz_1_2 : 0 ≤ groups_0o1 ∧ groups_0o1 ≤ 8) (ex2 : gx = next_0) : 1 * x2 + ((-1) * gx + 0) ≤ (-1) := by
  first
    | omega
    | (have h := ri_lt ‹cRI _ _ _ _ _ _ _ _ _ _ _ _ _ _ _› (by omega); omega)
    | (have h := ri_lt ‹cRI _ _ _ _ _ _ _ _ _ _ _ _ _ _ _› (by have := (cwn_t ‹CWn _ _ _ _ _› (by omega)).1; omega); omega)
    | (have h := ri_lt ‹cRI _ _ _ _ _ _ _ _ _ _ _ _ _ _ _› (by have := (cwg_t ‹CWg _ _ _ _ _› (by omega)).1; omega); omega)
    | (have h := ri_lt ‹cRI _ _ _ _ _ _ _ _ _ _ _ _ _ _ _› (by have := (cnm_t ‹CNM _ _ _ _ _› (by omega)).1; omega); omega)
def o_Re_readItem_14 : or_T := (52, 10, [(0, (2, 0, 0, [8])), (1, (2, 0, 0, [164])), (2, (0, 0, 2000, [])), (3, (0, 125, 125, [])), (9, (0, 1, 1, []))], [(9, [3, 0], [7]), (8, [9], [1]), (20, [1], [60, 2, 3, 670, 0, 1, 14, 7, 8]), (20, [1], [60, 2, 2, 596, 0, 1, 7, 8]), (20, [0, 2], [30, 0, 1, 1, 8, -1, 0, 0]), (20, [0, 2], [30, 0, -1, 1, 8, 1, 0, 0]), (20, [0, 1], [60, 9, 6, 1058, 5, 6, 7, 8, 9, 11, 1000, 1001, 1002, 0, 10, 1004, 1003, 1007, 1008]), (20, [0], [50, 1, 0, 2, 1, 3, 2, 0, 2, 0, 0]), (20, [0, 9], [60, 3, 1, 1081, 7, 6, 8, 0])], [], [(0, 0, 2000, [])], [(20, [1], [60, 2, 3, 670, 0, 1, 14, 7, 8]), (20, [1], [60, 2, 2, 596, 0, 1, 7, 8]), (20, [0, 10], [30, 0, 1, 1, 6, -1, 0, 0]), (20, [0, 10], [30, 0, -1, 1, 6, 1, 0, 0]), (20, [0, 1], [60, 9, 6, 1059, 5, 6, 7, 8, 9, 11, 1000, 1001, 1002, 0, 10, 1004, 1003, 1007, 1008]), (20, [0], [50, 1, 0, 2, 1, 3, 2, 0, 2, 0, 0]), (20, [2, 10], [30, -1, 1, 0, 0, -1, 0, 0])], [], [])
theorem oo_Re_readItem_14 {kA : Nat → ClassId} : or_ok PRD kA GG o_Re_readItem_14 := by
  refine or_mk fun A ta ws vs hD hth hl => ?_
  intro t0 r0 t1 r1 t2 k2 t3 k3 t9 k9 f1 f2 f5 f6 f7 f8 f9 f10 f13
  replace f1 := shm_198 f1
  replace f2 := shm_142 f2
  replace f5 := shm_825 f5
  replace f6 := shm_386 f6
  replace f7 := shm_303 f7
  replace f8 := shm_304 f8
  replace f9 := shm_2149 f9
  replace f10 := shm_1985 f10
  replace f13 := shm_1829 f13
  have g1 : v_iv (n_v vs 3) = w_fi ws (n_v vs 0) 7 := congrArg v_iv f1
  have kz_0_2 := fdq_97 hD hth r0
  have kz_0_5 := fdq_207 hD hth r0
  have kz_0_6 := fdq_208 hD hth r0
  have kz_0_7 := fdq_297 hD hth r0
  have kz_0_8 := fdq_99 hD hth r0
  have kz_0_9 := fdq_296 hD hth r0
  have kz_0_11 := fdq_320 hD hth r0
  have kz_1_0 := fdq_73 hD hth r1
  have kz_1_1 := fdq_74 hD hth r1
  have kz_1_2 := fdq_206 hD hth r1
  obtain ⟨x, ex, hx⟩ := iv_ex (ta := ta) (lo := 0) (hi := 2000) (z := w_fi ws (n_v vs 0) 6) (by omega) (by omega) (by omega) (by omega)
  have ex2 : v_iv (Value.int x) = w_fi ws (n_v vs 0) 6 := ex
  have ex3 : 0 ≤ v_iv (Value.int x) ∧ v_iv (Value.int x) ≤ 2000 := tv_rng hx
  have e_0 : n_v (vs ++ [Value.int x]) 0 = n_v vs 0 := n_v_old (by rw [hl]; decide)
  have e_1 : n_v (vs ++ [Value.int x]) 1 = n_v vs 1 := n_v_old (by rw [hl]; decide)
  have e_2 : n_v (vs ++ [Value.int x]) 2 = n_v vs 2 := n_v_old (by rw [hl]; decide)
  have e_10 : n_v (vs ++ [Value.int x]) 10 = Value.int x := n_v_new hl
  have nf0 : fc_1 PRD (20, [1], [60, 2, 3, 670, 0, 1, 14, 7, 8]) ws (vs ++ [Value.int x]) := by
    refine ⟨nf_inA hl rfl, sgq_825 ?_⟩
    · show GNB (w_fi ws (n_v (vs ++ [Value.int x]) 1) 0) (w_fi ws (n_v (vs ++ [Value.int x]) 1) 1) (w_ei ws (w_ar ws (n_v (vs ++ [Value.int x]) 1) 14)) (w_ei ws (w_ar ws (n_v (vs ++ [Value.int x]) 1) 7)) (w_ei ws (w_ar ws (n_v (vs ++ [Value.int x]) 1) 8))
      rw [e_1]
      exact vc_Re_readItem_14_0 (w_ei ws (w_ar ws (n_v vs 1) 14)) (w_ei ws (w_ar ws (n_v vs 1) 7)) (w_ei ws (w_ar ws (n_v vs 1) 8)) (w_fi ws (n_v vs 1) 0) (w_fi ws (n_v vs 1) 1) f5 kz_1_0 kz_1_1
  have nf1 : fc_1 PRD (20, [1], [60, 2, 2, 596, 0, 1, 7, 8]) ws (vs ++ [Value.int x]) := by
    refine ⟨nf_inA hl rfl, sgq_386 ?_⟩
    · show GKE (w_fi ws (n_v (vs ++ [Value.int x]) 1) 0) (w_fi ws (n_v (vs ++ [Value.int x]) 1) 1) (w_ei ws (w_ar ws (n_v (vs ++ [Value.int x]) 1) 7)) (w_ei ws (w_ar ws (n_v (vs ++ [Value.int x]) 1) 8))
      rw [e_1]
      exact vc_Re_readItem_14_1 (w_ei ws (w_ar ws (n_v vs 1) 7)) (w_ei ws (w_ar ws (n_v vs 1) 8)) (w_fi ws (n_v vs 1) 0) (w_fi ws (n_v vs 1) 1) f6 kz_1_0 kz_1_1
  have nf2 : fc_1 PRD (20, [0, 10], [30, 0, 1, 1, 6, -1, 0, 0]) ws (vs ++ [Value.int x]) := by
    refine ⟨nf_inA hl rfl, sgq_1523 ?_⟩
    · show 1 * w_fi ws (n_v (vs ++ [Value.int x]) 0) 6 + ((-1) * v_iv (n_v (vs ++ [Value.int x]) 10) + 0) ≤ 0
      simp only [e_0, e_10]
      exact vc_Re_readItem_14_2 (w_fi ws (n_v vs 0) 6) (v_iv (Value.int x)) kz_0_6 ex2
  have nf3 : fc_1 PRD (20, [0, 10], [30, 0, -1, 1, 6, 1, 0, 0]) ws (vs ++ [Value.int x]) := by
    refine ⟨nf_inA hl rfl, sgq_1524 ?_⟩
    · show (-1) * w_fi ws (n_v (vs ++ [Value.int x]) 0) 6 + (1 * v_iv (n_v (vs ++ [Value.int x]) 10) + 0) ≤ 0
      simp only [e_0, e_10]
      exact vc_Re_readItem_14_3 (w_fi ws (n_v vs 0) 6) (v_iv (Value.int x)) kz_0_6 ex2
  have nf4 : fc_1 PRD (20, [0, 1], [60, 9, 6, 1059, 5, 6, 7, 8, 9, 11, 1000, 1001, 1002, 0, 10, 1004, 1003, 1007, 1008]) ws (vs ++ [Value.int x]) := by
    refine ⟨nf_inA hl rfl, sgq_2022 ?_⟩
    · show cRGp (w_fi ws (n_v (vs ++ [Value.int x]) 0) 5) (w_fi ws (n_v (vs ++ [Value.int x]) 0) 6) (w_fi ws (n_v (vs ++ [Value.int x]) 0) 7) (w_fi ws (n_v (vs ++ [Value.int x]) 0) 8) (w_fi ws (n_v (vs ++ [Value.int x]) 0) 9) (w_fi ws (n_v (vs ++ [Value.int x]) 0) 11) (w_fi ws (n_v (vs ++ [Value.int x]) 1) 0) (w_fi ws (n_v (vs ++ [Value.int x]) 1) 1) (w_fi ws (n_v (vs ++ [Value.int x]) 1) 2) (w_ei ws (w_ar ws (n_v (vs ++ [Value.int x]) 0) 0)) (w_ei ws (w_ar ws (n_v (vs ++ [Value.int x]) 0) 10)) (w_ei ws (w_ar ws (n_v (vs ++ [Value.int x]) 1) 4)) (w_ei ws (w_ar ws (n_v (vs ++ [Value.int x]) 1) 3)) (w_ei ws (w_ar ws (n_v (vs ++ [Value.int x]) 1) 7)) (w_ei ws (w_ar ws (n_v (vs ++ [Value.int x]) 1) 8))
      simp only [e_0, e_1]
      exact vc_Re_readItem_14_4 (v_iv (n_v vs 9)) (w_fi ws (n_v vs 0) 11) (w_fi ws (n_v vs 0) 7) (w_fi ws (n_v vs 0) 6) (w_fi ws (n_v vs 0) 8) (w_ei ws (w_ar ws (n_v vs 1) 7)) (w_ei ws (w_ar ws (n_v vs 1) 8)) (w_fi ws (n_v vs 1) 0) (w_fi ws (n_v vs 1) 1) (w_ei ws (w_ar ws (n_v vs 0) 0)) (w_ei ws (w_ar ws (n_v vs 0) 10)) (w_ei ws (w_ar ws (n_v vs 1) 4)) (w_ei ws (w_ar ws (n_v vs 1) 3)) (w_fi ws (n_v vs 0) 5) (w_fi ws (n_v vs 0) 9) (w_fi ws (n_v vs 1) 2) k9 f2 f9 f13 kz_0_5 kz_0_6 kz_0_7 kz_0_8 kz_0_9 kz_0_11 kz_1_0 kz_1_1 kz_1_2
  have nf5 : fc_1 PRD (20, [0], [50, 1, 0, 2, 1, 3, 2, 0, 2, 0, 0]) ws (vs ++ [Value.int x]) := by
    refine ⟨nf_inA hl rfl, sgq_1985 ?_⟩
    · show w_fi ws (n_v (vs ++ [Value.int x]) 0) 2 = 0
      rw [e_0]
      exact vc_Re_readItem_14_5 (w_fi ws (n_v vs 0) 2) f10 kz_0_2
  have nf6 : fc_1 PRD (20, [2, 10], [30, -1, 1, 0, 0, -1, 0, 0]) ws (vs ++ [Value.int x]) := by
    refine ⟨nf_inA hl rfl, sgq_2151 ?_⟩
    · show 1 * v_iv (n_v (vs ++ [Value.int x]) 2) + ((-1) * v_iv (n_v (vs ++ [Value.int x]) 10) + 0) ≤ (-1)
      simp only [e_2, e_10]
      exact vc_Re_readItem_14_6 (v_iv (n_v vs 2)) (v_iv (n_v vs 3)) (w_fi ws (n_v vs 0) 11) (w_fi ws (n_v vs 0) 7) (w_fi ws (n_v vs 0) 6) (w_fi ws (n_v vs 0) 8) (w_ei ws (w_ar ws (n_v vs 1) 7)) (w_ei ws (w_ar ws (n_v vs 1) 8)) (w_fi ws (n_v vs 1) 0) (w_fi ws (n_v vs 1) 1) (w_ei ws (w_ar ws (n_v vs 0) 0)) (w_ei ws (w_ar ws (n_v vs 0) 10)) (w_ei ws (w_ar ws (n_v vs 1) 4)) (w_ei ws (w_ar ws (n_v vs 1) 3)) (w_fi ws (n_v vs 0) 5) (w_fi ws (n_v vs 0) 9) (w_fi ws (n_v vs 1) 2) (v_iv (Value.int x)) k2 k3 g1 f7 f8 f9 kz_0_5 kz_0_6 kz_0_7 kz_0_8 kz_0_9 kz_0_11 kz_1_0 kz_1_1 kz_1_2 ex2
  exact ⟨(fun _ h => (by cases h)), [Value.int x], ag_one hx, List.forall_mem_cons.mpr ⟨⟨show (20 : Nat) < 100 from by decide, nf0⟩, List.forall_mem_cons.mpr ⟨⟨show (20 : Nat) < 100 from by decide, nf1⟩, List.forall_mem_cons.mpr ⟨⟨show (20 : Nat) < 100 from by decide, nf2⟩, List.forall_mem_cons.mpr ⟨⟨show (20 : Nat) < 100 from by decide, nf3⟩, List.forall_mem_cons.mpr ⟨⟨show (20 : Nat) < 100 from by decide, nf4⟩, List.forall_mem_cons.mpr ⟨⟨show (20 : Nat) < 100 from by decide, nf5⟩, List.forall_mem_cons.mpr ⟨⟨show (20 : Nat) < 100 from by decide, nf6⟩, (fun _ h => (by cases h))⟩⟩⟩⟩⟩⟩⟩, (fun _ h => (by cases h))⟩
set_option maxHeartbeats 4000000 in
theorem vc_Re_readItem_15_0 (x2 : Int) (x11 : Int) (next_0 : Int) (k2 : 0 ≤ x2 ∧ x2 ≤ 2000) (k11 : 0 ≤ x11 ∧ x11 ≤ 0) (kz_0_6 : 0 ≤ next_0 ∧ next_0 ≤ 2000) : (1 * x11 + 0 ≤ 0) ∨ (1 * x2 + ((-1) * next_0 + 0) ≤ (-1)) := by
  first
    | omega
    | (have h := ri_lt ‹cRI _ _ _ _ _ _ _ _ _ _ _ _ _ _ _› (by omega); omega)
    | (have h := ri_lt ‹cRI _ _ _ _ _ _ _ _ _ _ _ _ _ _ _› (by have := (cwn_t ‹CWn _ _ _ _ _› (by omega)).1; omega); omega)
    | (have h := ri_lt ‹cRI _ _ _ _ _ _ _ _ _ _ _ _ _ _ _› (by have := (cwg_t ‹CWg _ _ _ _ _› (by omega)).1; omega); omega)
    | (have h := ri_lt ‹cRI _ _ _ _ _ _ _ _ _ _ _ _ _ _ _› (by have := (cnm_t ‹CNM _ _ _ _ _› (by omega)).1; omega); omega)
def o_Re_readItem_15 : or_T := (55, 12, [(0, (2, 0, 0, [8])), (1, (2, 0, 0, [164])), (2, (0, 0, 2000, [])), (10, (0, 0, 2000, [])), (11, (0, 0, 0, []))], [(20, [2, 10], [30, -1, 1, 0, 0, -1, 0, 0]), (20, [1], [60, 1, 3, 1085, 1, 7, 8, 15]), (20, [1], [60, 2, 3, 670, 0, 1, 14, 7, 8]), (20, [1], [60, 2, 2, 596, 0, 1, 7, 8]), (20, [0, 1, 11], [60, 8, 6, 1063, 5, 6, 11, 2, 3, 1000, 1001, 1002, 0, 10, 1004, 1003, 1007, 1008]), (20, [10, 0], [30, 0, 1, 0, 0, -1, 1, 6])], [], [], [(20, [11, 2, 0], [31, 1, 0, 1, 0, 0, -1, 1, 0, 0, -1, 1, 6])], [], [])
theorem oo_Re_readItem_15 {kA : Nat → ClassId} : or_ok PRD kA GG o_Re_readItem_15 := by
  refine or_mk fun A ta ws vs hD hth hl => ?_
  intro t0 r0 t1 r1 t2 k2 t10 k10 t11 k11 f0 f1 f2 f3 f4 f5
  have kz_0_6 := fdq_208 hD hth r0
  have nf0 : fc_1 PRD (20, [11, 2, 0], [31, 1, 0, 1, 0, 0, -1, 1, 0, 0, -1, 1, 6]) ws (vs) := ⟨nf_in hl rfl, sgq_2150 (vc_Re_readItem_15_0 (v_iv (n_v vs 2)) (v_iv (n_v vs 11)) (w_fi ws (n_v vs 0) 6) k2 k11 kz_0_6)⟩
  refine ⟨(fun _ h => (by cases h)), [], trivial, ?_, (fun _ h => (by cases h))⟩
  rw [List.append_nil]
  exact List.forall_mem_cons.mpr ⟨⟨show (20 : Nat) < 100 from by decide, nf0⟩, (fun _ h => (by cases h))⟩
set_option maxHeartbeats 4000000 in
theorem vc_Re_readItem_16_0 (x2 : Int) (x10 : Int) (x11 : Int) (next_0 : Int) (k2 : 0 ≤ x2 ∧ x2 ≤ 2000) (k10 : 0 ≤ x10 ∧ x10 ≤ 2000) (k11 : 1 ≤ x11 ∧ x11 ≤ 1) (f0 : 1 * x2 + ((-1) * x10 + 0) ≤ (-1)) (f5 : 1 * x10 + ((-1) * next_0 + 0) ≤ 0) (kz_0_6 : 0 ≤ next_0 ∧ next_0 ≤ 2000) : (1 * x11 + 0 ≤ 0) ∨ (1 * x2 + ((-1) * next_0 + 0) ≤ (-1)) := by
  first
    | omega
    | (have h := ri_lt ‹cRI _ _ _ _ _ _ _ _ _ _ _ _ _ _ _› (by omega); omega)
    | (have h := ri_lt ‹cRI _ _ _ _ _ _ _ _ _ _ _ _ _ _ _› (by have := (cwn_t ‹CWn _ _ _ _ _› (by omega)).1; omega); omega)
    | (have h := ri_lt ‹cRI _ _ _ _ _ _ _ _ _ _ _ _ _ _ _› (by have := (cwg_t ‹CWg _ _ _ _ _› (by omega)).1; omega); omega)
    | (have h := ri_lt ‹cRI _ _ _ _ _ _ _ _ _ _ _ _ _ _ _› (by have := (cnm_t ‹CNM _ _ _ _ _› (by omega)).1; omega); omega)
def o_Re_readItem_16 : or_T := (55, 12, [(0, (2, 0, 0, [8])), (1, (2, 0, 0, [164])), (2, (0, 0, 2000, [])), (10, (0, 0, 2000, [])), (11, (0, 1, 1, []))], [(20, [2, 10], [30, -1, 1, 0, 0, -1, 0, 0]), (20, [1], [60, 1, 3, 1085, 1, 7, 8, 15]), (20, [1], [60, 2, 3, 670, 0, 1, 14, 7, 8]), (20, [1], [60, 2, 2, 596, 0, 1, 7, 8]), (20, [0, 1, 11], [60, 8, 6, 1063, 5, 6, 11, 2, 3, 1000, 1001, 1002, 0, 10, 1004, 1003, 1007, 1008]), (20, [10, 0], [30, 0, 1, 0, 0, -1, 1, 6])], [], [], [(20, [11, 2, 0], [31, 1, 0, 1, 0, 0, -1, 1, 0, 0, -1, 1, 6])], [], [])
theorem oo_Re_readItem_16 {kA : Nat → ClassId} : or_ok PRD kA GG o_Re_readItem_16 := by
  refine or_mk fun A ta ws vs hD hth hl => ?_
  intro t0 r0 t1 r1 t2 k2 t10 k10 t11 k11 f0 f1 f2 f3 f4 f5
  have kz_0_6 := fdq_208 hD hth r0
  have nf0 : fc_1 PRD (20, [11, 2, 0], [31, 1, 0, 1, 0, 0, -1, 1, 0, 0, -1, 1, 6]) ws (vs) := ⟨nf_in hl rfl, sgq_2150 (vc_Re_readItem_16_0 (v_iv (n_v vs 2)) (v_iv (n_v vs 10)) (v_iv (n_v vs 11)) (w_fi ws (n_v vs 0) 6) k2 k10 k11 (shm_2151 f0) (shm_1527 f5) kz_0_6)⟩
  refine ⟨(fun _ h => (by cases h)), [], trivial, ?_, (fun _ h => (by cases h))⟩
  rw [List.append_nil]
  exact List.forall_mem_cons.mpr ⟨⟨show (20 : Nat) < 100 from by decide, nf0⟩, (fun _ h => (by cases h))⟩
set_option maxHeartbeats 4000000 in
theorem vc_Re_readItem_17_0 (near_0o1 : Int → Int) (tail_0o1 : Int → Int) (head_0o1 : Int → Int) (nodes_0o1 : Int) (edges_0o1 : Int) (f5 : GNB (nodes_0o1) (edges_0o1) (near_0o1) (tail_0o1) (head_0o1)) (kz_1_0 : 0 ≤ nodes_0o1 ∧ nodes_0o1 ≤ 24) (kz_1_1 : 0 ≤ edges_0o1 ∧ edges_0o1 ≤ 48) : GNB (nodes_0o1) (edges_0o1) (near_0o1) (tail_0o1) (head_0o1) := by
  first
    | assumption
  
set_option maxHeartbeats 4000000 in
theorem vc_Re_readItem_17_1 (tail_0o1 : Int → Int) (head_0o1 : Int → Int) (nodes_0o1 : Int) (edges_0o1 : Int) (f6 : GKE (nodes_0o1) (edges_0o1) (tail_0o1) (head_0o1)) (kz_1_0 : 0 ≤ nodes_0o1 ∧ nodes_0o1 ≤ 24) (kz_1_1 : 0 ≤ edges_0o1 ∧ edges_0o1 ≤ 48) : GKE (nodes_0o1) (edges_0o1) (tail_0o1) (head_0o1) := by
  first
    | assumption
  
set_option maxHeartbeats 4000000 in
theorem vc_Re_readItem_17_2 (next_0 : Int) (gx : Int) (kz_0_6 : 0 ≤ next_0 ∧ next_0 ≤ 2000) (ex2 : gx = next_0) : 1 * next_0 + ((-1) * gx + 0) ≤ 0 := by
  first
    | omega
    | (have h := ri_lt ‹cRI _ _ _ _ _ _ _ _ _ _ _ _ _ _ _› (by omega); omega)
    | (have h := ri_lt ‹cRI _ _ _ _ _ _ _ _ _ _ _ _ _ _ _› (by have := (cwn_t ‹CWn _ _ _ _ _› (by omega)).1; omega); omega)
    | (have h := ri_lt ‹cRI _ _ _ _ _ _ _ _ _ _ _ _ _ _ _› (by have := (cwg_t ‹CWg _ _ _ _ _› (by omega)).1; omega); omega)
    | (have h := ri_lt ‹cRI _ _ _ _ _ _ _ _ _ _ _ _ _ _ _› (by have := (cnm_t ‹CNM _ _ _ _ _› (by omega)).1; omega); omega)
set_option maxHeartbeats 4000000 in
theorem vc_Re_readItem_17_3 (next_0 : Int) (gx : Int) (kz_0_6 : 0 ≤ next_0 ∧ next_0 ≤ 2000) (ex2 : gx = next_0) : (-1) * next_0 + (1 * gx + 0) ≤ 0 := by
  first
    | omega
    | (have h := ri_lt ‹cRI _ _ _ _ _ _ _ _ _ _ _ _ _ _ _› (by omega); omega)
    | (have h := ri_lt ‹cRI _ _ _ _ _ _ _ _ _ _ _ _ _ _ _› (by have := (cwn_t ‹CWn _ _ _ _ _› (by omega)).1; omega); omega)
    | (have h := ri_lt ‹cRI _ _ _ _ _ _ _ _ _ _ _ _ _ _ _› (by have := (cwg_t ‹CWg _ _ _ _ _› (by omega)).1; omega); omega)
    | (have h := ri_lt ‹cRI _ _ _ _ _ _ _ _ _ _ _ _ _ _ _› (by have := (cnm_t ‹CNM _ _ _ _ _› (by omega)).1; omega); omega)
set_option maxHeartbeats 4000000 in
theorem vc_Re_readItem_17_4 (x7 : Int) (depth_0 : Int) (kind_0 : Int) (next_0 : Int) (begin_0 : Int) (tail_0o1 : Int → Int) (head_0o1 : Int → Int) (nodes_0o1 : Int) (edges_0o1 : Int) (tape_0 : Int → Int) (open_0 : Int → Int) (nameLength_0o1 : Int → Int) (name_0o1 : Int → Int) (end_0 : Int) (number_0 : Int) (groups_0o1 : Int) (gx : Int) (k7 : 1 ≤ x7 ∧ x7 ≤ 1) (f2 : x7 ≠ 0) (f9 : cRI (end_0) (next_0) (kind_0) (begin_0) (number_0) (depth_0) (nodes_0o1) (edges_0o1) (groups_0o1) (tape_0) (open_0) (nameLength_0o1) (name_0o1) (tail_0o1) (head_0o1)) (f12 : CWn (kind_0) (next_0) (begin_0) (tape_0) (x7)) (kz_0_5 : 0 ≤ end_0 ∧ end_0 ≤ 2000) (kz_0_6 : 0 ≤ next_0 ∧ next_0 ≤ 2000) (kz_0_7 : (-128) ≤ kind_0 ∧ kind_0 ≤ 127) (kz_0_8 : 0 ≤ begin_0 ∧ begin_0 ≤ 2000) (kz_0_9 : (-176) ≤ number_0 ∧ number_0 ≤ 1000000) (kz_0_11 : 0 ≤ depth_0 ∧ depth_0 ≤ 4) (kz_1_0 : 0 ≤ nodes_0o1 ∧ nodes_0o1 ≤ 24) (kz_1_1 : 0 ≤ edges_0o1 ∧ edges_0o1 ≤ 48) (kz_1_2 : 0 ≤ groups_0o1 ∧ groups_0o1 ≤ 8) (ex2 : gx = next_0) : cG1 (end_0) (depth_0) (nodes_0o1) (edges_0o1) (groups_0o1) (tape_0) (open_0) (nameLength_0o1) (name_0o1) (tail_0o1) (head_0o1) (gx) := by
  exact i_n ‹cRI _ _ _ _ _ _ _ _ _ _ _ _ _ _ _› (cwn_t ‹CWn _ _ _ _ _› (by omega)) (by omega)
set_option maxHeartbeats 4000000 in
theorem vc_Re_readItem_17_5 (fault_0 : Int) (f10 : fault_0 = 0) (kz_0_2 : (-1) ≤ fault_0 ∧ fault_0 ≤ 5) : fault_0 = 0 := by
  first
    | omega
    | (have h := ri_lt ‹cRI _ _ _ _ _ _ _ _ _ _ _ _ _ _ _› (by omega); omega)
    | (have h := ri_lt ‹cRI _ _ _ _ _ _ _ _ _ _ _ _ _ _ _› (by have := (cwn_t ‹CWn _ _ _ _ _› (by omega)).1; omega); omega)
    | (have h := ri_lt ‹cRI _ _ _ _ _ _ _ _ _ _ _ _ _ _ _› (by have := (cwg_t ‹CWg _ _ _ _ _› (by omega)).1; omega); omega)
    | (have h := ri_lt ‹cRI _ _ _ _ _ _ _ _ _ _ _ _ _ _ _› (by have := (cnm_t ‹CNM _ _ _ _ _› (by omega)).1; omega); omega)
set_option maxHeartbeats 4000000 in
theorem vc_Re_readItem_17_6 (x2 : Int) (x3 : Int) (depth_0 : Int) (kind_0 : Int) (next_0 : Int) (begin_0 : Int) (tail_0o1 : Int → Int) (head_0o1 : Int → Int) (nodes_0o1 : Int) (edges_0o1 : Int) (tape_0 : Int → Int) (open_0 : Int → Int) (nameLength_0o1 : Int → Int) (name_0o1 : Int → Int) (end_0 : Int) (number_0 : Int) (groups_0o1 : Int) (gx : Int) (k2 : 0 ≤ x2 ∧ x2 ≤ 2000) (k3 : 125 ≤ x3 ∧ x3 ≤ 125) (g1 : x3 = kind_0) (f7 : 1 * begin_0 + ((-1) * x2 + 0) ≤ 0) (f8 : (-1) * begin_0 + (1 * x2 + 0) ≤ 0) (f9 : cRI (end_0) (next_0) (kind_0) (begin_0) (number_0) (depth_0) (nodes_0o1) (edges_0o1) (groups_0o1) (tape_0) (open_0) (nameLength_0o1) (name_0o1) (tail_0o1) (head_0o1)) (kz_0_5 : 0 ≤ end_0 ∧ end_0 ≤ 2000) (kz_0_6 : 0 ≤ next_0 ∧ next_0 ≤ 2000) (kz_0_7 : (-128) ≤ kind_0 ∧ kind_0 ≤ 127) (kz_0_8 : 0 ≤ begin_0 ∧ begin_0 ≤ 2000) (kz_0_9 : (-176) ≤ number_0 ∧ number_0 ≤ 1000000) (kz_0_11 : 0 ≤ depth_0 ∧ depth_0 ≤ 4) (kz_1_0 : 0 ≤ nodes_0o1 ∧ nodes_0o1 ≤ 24) (kz_1_1 : 0 ≤ edges_0o1 ∧ edges_0o1 ≤ 48) (kz_1_2 : 0 ≤ groups_0o1 ∧ groups_0o1 ≤ 8) (ex2 : gx = next_0) : 1 * x2 + ((-1) * gx + 0) ≤ (-1) := by
  first
    | omega
    | (have h := ri_lt ‹cRI _ _ _ _ _ _ _ _ _ _ _ _ _ _ _› (by omega); omega)
    | (have h := ri_lt ‹cRI _ _ _ _ _ _ _ _ _ _ _ _ _ _ _› (by have := (cwn_t ‹CWn _ _ _ _ _› (by omega)).1; omega); omega)
    | (have h := ri_lt ‹cRI _ _ _ _ _ _ _ _ _ _ _ _ _ _ _› (by have := (cwg_t ‹CWg _ _ _ _ _› (by omega)).1; omega); omega)
    | (have h := ri_lt ‹cRI _ _ _ _ _ _ _ _ _ _ _ _ _ _ _› (by have := (cnm_t ‹CNM _ _ _ _ _› (by omega)).1; omega); omega)
def o_Re_readItem_17 : or_T := (38, 8, [(0, (2, 0, 0, [8])), (1, (2, 0, 0, [164])), (2, (0, 0, 2000, [])), (3, (0, 125, 125, [])), (7, (0, 1, 1, []))], [(9, [3, 0], [7]), (8, [7], [1]), (20, [1], [60, 2, 3, 670, 0, 1, 14, 7, 8]), (20, [1], [60, 2, 2, 596, 0, 1, 7, 8]), (20, [0, 2], [30, 0, 1, 1, 8, -1, 0, 0]), (20, [0, 2], [30, 0, -1, 1, 8, 1, 0, 0]), (20, [0, 1], [60, 9, 6, 1058, 5, 6, 7, 8, 9, 11, 1000, 1001, 1002, 0, 10, 1004, 1003, 1007, 1008]), (20, [0], [50, 1, 0, 2, 1, 3, 2, 0, 2, 0, 0]), (20, [0, 7], [60, 3, 1, 1080, 7, 6, 8, 0])], [], [(0, 0, 2000, [])], [(20, [1], [60, 2, 3, 670, 0, 1, 14, 7, 8]), (20, [1], [60, 2, 2, 596, 0, 1, 7, 8]), (20, [0, 8], [30, 0, 1, 1, 6, -1, 0, 0]), (20, [0, 8], [30, 0, -1, 1, 6, 1, 0, 0]), (20, [0, 1, 8], [60, 5, 6, 1040, 5, 11, 1000, 1001, 1002, 0, 10, 1004, 1003, 1007, 1008]), (20, [0], [50, 1, 0, 2, 1, 3, 2, 0, 2, 0, 0]), (20, [2, 8], [30, -1, 1, 0, 0, -1, 0, 0])], [], [])
theorem oo_Re_readItem_17 {kA : Nat → ClassId} : or_ok PRD kA GG o_Re_readItem_17 := by
  refine or_mk fun A ta ws vs hD hth hl => ?_
  intro t0 r0 t1 r1 t2 k2 t3 k3 t7 k7 f1 f2 f5 f6 f7 f8 f9 f10 f12
  replace f1 := shm_198 f1
  replace f2 := shm_142 f2
  replace f5 := shm_825 f5
  replace f6 := shm_386 f6
  replace f7 := shm_303 f7
  replace f8 := shm_304 f8
  replace f9 := shm_2149 f9
  replace f10 := shm_1985 f10
  replace f12 := shm_1828 f12
  have g1 : v_iv (n_v vs 3) = w_fi ws (n_v vs 0) 7 := congrArg v_iv f1
  have kz_0_2 := fdq_97 hD hth r0
  have kz_0_5 := fdq_207 hD hth r0
  have kz_0_6 := fdq_208 hD hth r0
  have kz_0_7 := fdq_297 hD hth r0
  have kz_0_8 := fdq_99 hD hth r0
  have kz_0_9 := fdq_296 hD hth r0
  have kz_0_11 := fdq_320 hD hth r0
  have kz_1_0 := fdq_73 hD hth r1
  have kz_1_1 := fdq_74 hD hth r1
  have kz_1_2 := fdq_206 hD hth r1
  obtain ⟨x, ex, hx⟩ := iv_ex (ta := ta) (lo := 0) (hi := 2000) (z := w_fi ws (n_v vs 0) 6) (by omega) (by omega) (by omega) (by omega)
  have ex2 : v_iv (Value.int x) = w_fi ws (n_v vs 0) 6 := ex
  have ex3 : 0 ≤ v_iv (Value.int x) ∧ v_iv (Value.int x) ≤ 2000 := tv_rng hx
  have e_0 : n_v (vs ++ [Value.int x]) 0 = n_v vs 0 := n_v_old (by rw [hl]; decide)
  have e_1 : n_v (vs ++ [Value.int x]) 1 = n_v vs 1 := n_v_old (by rw [hl]; decide)
  have e_2 : n_v (vs ++ [Value.int x]) 2 = n_v vs 2 := n_v_old (by rw [hl]; decide)
  have e_8 : n_v (vs ++ [Value.int x]) 8 = Value.int x := n_v_new hl
  have nf0 : fc_1 PRD (20, [1], [60, 2, 3, 670, 0, 1, 14, 7, 8]) ws (vs ++ [Value.int x]) := by
    refine ⟨nf_inA hl rfl, sgq_825 ?_⟩
    · show GNB (w_fi ws (n_v (vs ++ [Value.int x]) 1) 0) (w_fi ws (n_v (vs ++ [Value.int x]) 1) 1) (w_ei ws (w_ar ws (n_v (vs ++ [Value.int x]) 1) 14)) (w_ei ws (w_ar ws (n_v (vs ++ [Value.int x]) 1) 7)) (w_ei ws (w_ar ws (n_v (vs ++ [Value.int x]) 1) 8))
      rw [e_1]
      exact vc_Re_readItem_17_0 (w_ei ws (w_ar ws (n_v vs 1) 14)) (w_ei ws (w_ar ws (n_v vs 1) 7)) (w_ei ws (w_ar ws (n_v vs 1) 8)) (w_fi ws (n_v vs 1) 0) (w_fi ws (n_v vs 1) 1) f5 kz_1_0 kz_1_1
  have nf1 : fc_1 PRD (20, [1], [60, 2, 2, 596, 0, 1, 7, 8]) ws (vs ++ [Value.int x]) := by
    refine ⟨nf_inA hl rfl, sgq_386 ?_⟩
    · show GKE (w_fi ws (n_v (vs ++ [Value.int x]) 1) 0) (w_fi ws (n_v (vs ++ [Value.int x]) 1) 1) (w_ei ws (w_ar ws (n_v (vs ++ [Value.int x]) 1) 7)) (w_ei ws (w_ar ws (n_v (vs ++ [Value.int x]) 1) 8))
      rw [e_1]
      exact vc_Re_readItem_17_1 (w_ei ws (w_ar ws (n_v vs 1) 7)) (w_ei ws (w_ar ws (n_v vs 1) 8)) (w_fi ws (n_v vs 1) 0) (w_fi ws (n_v vs 1) 1) f6 kz_1_0 kz_1_1
  have nf2 : fc_1 PRD (20, [0, 8], [30, 0, 1, 1, 6, -1, 0, 0]) ws (vs ++ [Value.int x]) := by
    refine ⟨nf_inA hl rfl, sgq_1523 ?_⟩
    · show 1 * w_fi ws (n_v (vs ++ [Value.int x]) 0) 6 + ((-1) * v_iv (n_v (vs ++ [Value.int x]) 8) + 0) ≤ 0
      simp only [e_0, e_8]
      exact vc_Re_readItem_17_2 (w_fi ws (n_v vs 0) 6) (v_iv (Value.int x)) kz_0_6 ex2
  have nf3 : fc_1 PRD (20, [0, 8], [30, 0, -1, 1, 6, 1, 0, 0]) ws (vs ++ [Value.int x]) := by
    refine ⟨nf_inA hl rfl, sgq_1524 ?_⟩
    · show (-1) * w_fi ws (n_v (vs ++ [Value.int x]) 0) 6 + (1 * v_iv (n_v (vs ++ [Value.int x]) 8) + 0) ≤ 0
      simp only [e_0, e_8]
      exact vc_Re_readItem_17_3 (w_fi ws (n_v vs 0) 6) (v_iv (Value.int x)) kz_0_6 ex2
  have nf4 : fc_1 PRD (20, [0, 1, 8], [60, 5, 6, 1040, 5, 11, 1000, 1001, 1002, 0, 10, 1004, 1003, 1007, 1008]) ws (vs ++ [Value.int x]) := by
    refine ⟨nf_inA hl rfl, sgq_2107 ?_⟩
    · show cG1 (w_fi ws (n_v (vs ++ [Value.int x]) 0) 5) (w_fi ws (n_v (vs ++ [Value.int x]) 0) 11) (w_fi ws (n_v (vs ++ [Value.int x]) 1) 0) (w_fi ws (n_v (vs ++ [Value.int x]) 1) 1) (w_fi ws (n_v (vs ++ [Value.int x]) 1) 2) (w_ei ws (w_ar ws (n_v (vs ++ [Value.int x]) 0) 0)) (w_ei ws (w_ar ws (n_v (vs ++ [Value.int x]) 0) 10)) (w_ei ws (w_ar ws (n_v (vs ++ [Value.int x]) 1) 4)) (w_ei ws (w_ar ws (n_v (vs ++ [Value.int x]) 1) 3)) (w_ei ws (w_ar ws (n_v (vs ++ [Value.int x]) 1) 7)) (w_ei ws (w_ar ws (n_v (vs ++ [Value.int x]) 1) 8)) (v_iv (n_v (vs ++ [Value.int x]) 8))
      simp only [e_0, e_1, e_8]
      exact vc_Re_readItem_17_4 (v_iv (n_v vs 7)) (w_fi ws (n_v vs 0) 11) (w_fi ws (n_v vs 0) 7) (w_fi ws (n_v vs 0) 6) (w_fi ws (n_v vs 0) 8) (w_ei ws (w_ar ws (n_v vs 1) 7)) (w_ei ws (w_ar ws (n_v vs 1) 8)) (w_fi ws (n_v vs 1) 0) (w_fi ws (n_v vs 1) 1) (w_ei ws (w_ar ws (n_v vs 0) 0)) (w_ei ws (w_ar ws (n_v vs 0) 10)) (w_ei ws (w_ar ws (n_v vs 1) 4)) (w_ei ws (w_ar ws (n_v vs 1) 3)) (w_fi ws (n_v vs 0) 5) (w_fi ws (n_v vs 0) 9) (w_fi ws (n_v vs 1) 2) (v_iv (Value.int x)) k7 f2 f9 f12 kz_0_5 kz_0_6 kz_0_7 kz_0_8 kz_0_9 kz_0_11 kz_1_0 kz_1_1 kz_1_2 ex2
  have nf5 : fc_1 PRD (20, [0], [50, 1, 0, 2, 1, 3, 2, 0, 2, 0, 0]) ws (vs ++ [Value.int x]) := by
    refine ⟨nf_inA hl rfl, sgq_1985 ?_⟩
    · show w_fi ws (n_v (vs ++ [Value.int x]) 0) 2 = 0
      rw [e_0]
      exact vc_Re_readItem_17_5 (w_fi ws (n_v vs 0) 2) f10 kz_0_2
  have nf6 : fc_1 PRD (20, [2, 8], [30, -1, 1, 0, 0, -1, 0, 0]) ws (vs ++ [Value.int x]) := by
    refine ⟨nf_inA hl rfl, sgq_2151 ?_⟩
    · show 1 * v_iv (n_v (vs ++ [Value.int x]) 2) + ((-1) * v_iv (n_v (vs ++ [Value.int x]) 8) + 0) ≤ (-1)
      simp only [e_2, e_8]
      exact vc_Re_readItem_17_6 (v_iv (n_v vs 2)) (v_iv (n_v vs 3)) (w_fi ws (n_v vs 0) 11) (w_fi ws (n_v vs 0) 7) (w_fi ws (n_v vs 0) 6) (w_fi ws (n_v vs 0) 8) (w_ei ws (w_ar ws (n_v vs 1) 7)) (w_ei ws (w_ar ws (n_v vs 1) 8)) (w_fi ws (n_v vs 1) 0) (w_fi ws (n_v vs 1) 1) (w_ei ws (w_ar ws (n_v vs 0) 0)) (w_ei ws (w_ar ws (n_v vs 0) 10)) (w_ei ws (w_ar ws (n_v vs 1) 4)) (w_ei ws (w_ar ws (n_v vs 1) 3)) (w_fi ws (n_v vs 0) 5) (w_fi ws (n_v vs 0) 9) (w_fi ws (n_v vs 1) 2) (v_iv (Value.int x)) k2 k3 g1 f7 f8 f9 kz_0_5 kz_0_6 kz_0_7 kz_0_8 kz_0_9 kz_0_11 kz_1_0 kz_1_1 kz_1_2 ex2
  exact ⟨(fun _ h => (by cases h)), [Value.int x], ag_one hx, List.forall_mem_cons.mpr ⟨⟨show (20 : Nat) < 100 from by decide, nf0⟩, List.forall_mem_cons.mpr ⟨⟨show (20 : Nat) < 100 from by decide, nf1⟩, List.forall_mem_cons.mpr ⟨⟨show (20 : Nat) < 100 from by decide, nf2⟩, List.forall_mem_cons.mpr ⟨⟨show (20 : Nat) < 100 from by decide, nf3⟩, List.forall_mem_cons.mpr ⟨⟨show (20 : Nat) < 100 from by decide, nf4⟩, List.forall_mem_cons.mpr ⟨⟨show (20 : Nat) < 100 from by decide, nf5⟩, List.forall_mem_cons.mpr ⟨⟨show (20 : Nat) < 100 from by decide, nf6⟩, (fun _ h => (by cases h))⟩⟩⟩⟩⟩⟩⟩, (fun _ h => (by cases h))⟩
set_option maxHeartbeats 4000000 in
theorem vc_Re_readItem_18_0 (x2 : Int) (x8 : Int) (x9 : Int) (next_0 : Int) (k2 : 0 ≤ x2 ∧ x2 ≤ 2000) (k8 : 0 ≤ x8 ∧ x8 ≤ 2000) (k9 : 1 ≤ x9 ∧ x9 ≤ 1) (f1 : 1 * x2 + ((-1) * x8 + 0) ≤ (-1)) (f6 : 1 * x8 + ((-1) * next_0 + 0) ≤ 0) (kz_0_6 : 0 ≤ next_0 ∧ next_0 ≤ 2000) : (1 * x9 + 0 ≤ 0) ∨ (1 * x2 + ((-1) * next_0 + 0) ≤ (-1)) := by
  first
    | omega
    | (have h := ri_lt ‹cRI _ _ _ _ _ _ _ _ _ _ _ _ _ _ _› (by omega); omega)
    | (have h := ri_lt ‹cRI _ _ _ _ _ _ _ _ _ _ _ _ _ _ _› (by have := (cwn_t ‹CWn _ _ _ _ _› (by omega)).1; omega); omega)
    | (have h := ri_lt ‹cRI _ _ _ _ _ _ _ _ _ _ _ _ _ _ _› (by have := (cwg_t ‹CWg _ _ _ _ _› (by omega)).1; omega); omega)
    | (have h := ri_lt ‹cRI _ _ _ _ _ _ _ _ _ _ _ _ _ _ _› (by have := (cnm_t ‹CNM _ _ _ _ _› (by omega)).1; omega); omega)
def o_Re_readItem_18 : or_T := (41, 10, [(0, (2, 0, 0, [8])), (1, (2, 0, 0, [164])), (2, (0, 0, 2000, [])), (5, (0, 0, 0, [])), (8, (0, 0, 2000, [])), (9, (0, 1, 1, []))], [(9, [5, 0], [11]), (20, [2, 8], [30, -1, 1, 0, 0, -1, 0, 0]), (20, [1], [60, 1, 3, 1085, 1, 7, 8, 15]), (20, [1], [60, 2, 3, 670, 0, 1, 14, 7, 8]), (20, [1], [60, 2, 2, 596, 0, 1, 7, 8]), (20, [0, 1, 9], [60, 8, 6, 1063, 5, 6, 11, 2, 3, 1000, 1001, 1002, 0, 10, 1004, 1003, 1007, 1008]), (20, [8, 0], [30, 0, 1, 0, 0, -1, 1, 6]), (102, [8], [2944411990052395234623243954974308466357606285312, 8002, 8003, 8006, 8007, 8008, 8009, 164000]), (102, [6], [0]), (8, [5], [5])], [], [], [(20, [9, 2, 0], [31, 1, 0, 1, 0, 0, -1, 1, 0, 0, -1, 1, 6])], [], [])
theorem oo_Re_readItem_18 {kA : Nat → ClassId} : or_ok PRD kA GG o_Re_readItem_18 := by
  refine or_mk fun A ta ws vs hD hth hl => ?_
  intro t0 r0 t1 r1 t2 k2 t5 k5 t8 k8 t9 k9 f0 f1 f2 f3 f4 f5 f6 ta1 w1 le1 s1 ta2 w2 le2 s2 f9
  have kz_0_6 := fdq_208 hD hth r0
  have nf0 : fc_1 PRD (20, [9, 2, 0], [31, 1, 0, 1, 0, 0, -1, 1, 0, 0, -1, 1, 6]) ws (vs) := ⟨nf_in hl rfl, sgq_2150 (vc_Re_readItem_18_0 (v_iv (n_v vs 2)) (v_iv (n_v vs 8)) (v_iv (n_v vs 9)) (w_fi ws (n_v vs 0) 6) k2 k8 k9 (shm_2151 f1) (shm_1527 f6) kz_0_6)⟩
  refine ⟨(fun _ h => (by cases h)), [], trivial, ?_, (fun _ h => (by cases h))⟩
  rw [List.append_nil]
  exact List.forall_mem_cons.mpr ⟨⟨show (20 : Nat) < 100 from by decide, nf0⟩, (fun _ h => (by cases h))⟩
set_option maxHeartbeats 4000000 in
theorem vc_Re_readItem_19_0 (x2 : Int) (x9 : Int) (next_0 : Int) (k2 : 0 ≤ x2 ∧ x2 ≤ 2000) (k9 : 0 ≤ x9 ∧ x9 ≤ 0) (kz_0_6 : 0 ≤ next_0 ∧ next_0 ≤ 2000) : (1 * x9 + 0 ≤ 0) ∨ (1 * x2 + ((-1) * next_0 + 0) ≤ (-1)) := by
  first
    | omega
    | (have h := ri_lt ‹cRI _ _ _ _ _ _ _ _ _ _ _ _ _ _ _› (by omega); omega)
    | (have h := ri_lt ‹cRI _ _ _ _ _ _ _ _ _ _ _ _ _ _ _› (by have := (cwn_t ‹CWn _ _ _ _ _› (by omega)).1; omega); omega)
    | (have h := ri_lt ‹cRI _ _ _ _ _ _ _ _ _ _ _ _ _ _ _› (by have := (cwg_t ‹CWg _ _ _ _ _› (by omega)).1; omega); omega)
    | (have h := ri_lt ‹cRI _ _ _ _ _ _ _ _ _ _ _ _ _ _ _› (by have := (cnm_t ‹CNM _ _ _ _ _› (by omega)).1; omega); omega)
def o_Re_readItem_19 : or_T := (41, 10, [(0, (2, 0, 0, [8])), (1, (2, 0, 0, [164])), (2, (0, 0, 2000, [])), (5, (0, 0, 0, [])), (8, (0, 0, 2000, [])), (9, (0, 0, 0, []))], [(9, [5, 0], [11]), (20, [2, 8], [30, -1, 1, 0, 0, -1, 0, 0]), (20, [1], [60, 1, 3, 1085, 1, 7, 8, 15]), (20, [1], [60, 2, 3, 670, 0, 1, 14, 7, 8]), (20, [1], [60, 2, 2, 596, 0, 1, 7, 8]), (20, [0, 1, 9], [60, 8, 6, 1063, 5, 6, 11, 2, 3, 1000, 1001, 1002, 0, 10, 1004, 1003, 1007, 1008]), (20, [8, 0], [30, 0, 1, 0, 0, -1, 1, 6]), (102, [8], [2944411990052395234623243954974308466357606285312, 8002, 8003, 8006, 8007, 8008, 8009, 164000]), (102, [6], [0]), (8, [5], [5])], [], [], [(20, [9, 2, 0], [31, 1, 0, 1, 0, 0, -1, 1, 0, 0, -1, 1, 6])], [], [])
theorem oo_Re_readItem_19 {kA : Nat → ClassId} : or_ok PRD kA GG o_Re_readItem_19 := by
  refine or_mk fun A ta ws vs hD hth hl => ?_
  intro t0 r0 t1 r1 t2 k2 t5 k5 t8 k8 t9 k9 f0 f1 f2 f3 f4 f5 f6 ta1 w1 le1 s1 ta2 w2 le2 s2 f9
  have kz_0_6 := fdq_208 hD hth r0
  have nf0 : fc_1 PRD (20, [9, 2, 0], [31, 1, 0, 1, 0, 0, -1, 1, 0, 0, -1, 1, 6]) ws (vs) := ⟨nf_in hl rfl, sgq_2150 (vc_Re_readItem_19_0 (v_iv (n_v vs 2)) (v_iv (n_v vs 9)) (w_fi ws (n_v vs 0) 6) k2 k9 kz_0_6)⟩
  refine ⟨(fun _ h => (by cases h)), [], trivial, ?_, (fun _ h => (by cases h))⟩
  rw [List.append_nil]
  exact List.forall_mem_cons.mpr ⟨⟨show (20 : Nat) < 100 from by decide, nf0⟩, (fun _ h => (by cases h))⟩
set_option maxHeartbeats 4000000 in
theorem vc_Re_readItem_20_0 (x3 : Int) (x5 : Int) (x7 : Int) (x8 : Int) (depth_0 : Int) (kind_0 : Int) (next_0 : Int) (begin_0 : Int) (near_0o1 : Int → Int) (tail_0o1 : Int → Int) (head_0o1 : Int → Int) (nodes_0o1 : Int) (edges_0o1 : Int) (fault_0 : Int) (link_0o1 : Int → Int) (depth_1 : Int) (kind_1 : Int) (next_1 : Int) (begin_1 : Int) (near_1o1 : Int → Int) (tail_1o1 : Int → Int) (head_1o1 : Int → Int) (nodes_1o1 : Int) (edges_1o1 : Int) (tape_1 : Int → Int) (open_1 : Int → Int) (nameLength_1o1 : Int → Int) (name_1o1 : Int → Int) (end_1 : Int) (number_1 : Int) (groups_1o1 : Int) (fault_1 : Int) (link_1o1 : Int → Int) (faultPlace_0 : Int) (end_0 : Int) (number_0 : Int) (groups_0o1 : Int) (tape_0 : Int → Int) (open_0 : Int → Int) (name_0o1 : Int → Int) (nameLength_0o1 : Int → Int) (k3 : 125 ≤ x3 ∧ x3 ≤ 125) (k5 : 1 ≤ x5 ∧ x5 ≤ 4) (k7 : 0 ≤ x7 ∧ x7 ≤ 3) (k8 : 1 ≤ x8 ∧ x8 ≤ 1) (d0 : x5 + (-1) ≤ x7 ∧ x7 ≤ x5 + (-1)) (g0 : x7 = depth_0) (g1 : x3 = kind_0) (g12 : x5 = depth_1) (f13 : 0 < x5) (f21 : cRI (end_1) (next_1) (kind_1) (begin_1) (number_1) (depth_1) (nodes_1o1) (edges_1o1) (groups_1o1) (tape_1) (open_1) (nameLength_1o1) (name_1o1) (tail_1o1) (head_1o1)) (f22 : fault_1 = 0) (fe_0_2_1 : fault_0 = fault_1) (fe_0_5_1 : end_0 = end_1) (fe_0_6_1 : next_0 = next_1) (fe_0_7_1 : kind_0 = kind_1) (fe_0_8_1 : begin_0 = begin_1) (fe_0_9_1 : number_0 = number_1) (fe_1_0_1 : nodes_0o1 = nodes_1o1) (fe_1_1_1 : edges_0o1 = edges_1o1) (fe_1_2_1 : groups_0o1 = groups_1o1) (hE_0_0_1 : ∀ j : Int, tape_0 j = tape_1 j) (hE_0_10_1 : ∀ j : Int, open_0 j = open_1 j) (hE_1_3_1 : ∀ j : Int, name_0o1 j = name_1o1 j) (hE_1_4_1 : ∀ j : Int, nameLength_0o1 j = nameLength_1o1 j) (hE_1_7_1 : ∀ j : Int, tail_0o1 j = tail_1o1 j) (hE_1_8_1 : ∀ j : Int, head_0o1 j = head_1o1 j) (hE_1_14_1 : ∀ j : Int, near_0o1 j = near_1o1 j) (hE_1_15_1 : ∀ j : Int, link_0o1 j = link_1o1 j) (kz_0_2 : (-1) ≤ fault_0 ∧ fault_0 ≤ 5) (kz_0_3 : (-1) ≤ faultPlace_0 ∧ faultPlace_0 ≤ 2000) (kz_0_5 : 0 ≤ end_0 ∧ end_0 ≤ 2000) (kz_0_6 : 0 ≤ next_0 ∧ next_0 ≤ 2000) (kz_0_7 : (-128) ≤ kind_0 ∧ kind_0 ≤ 127) (kz_0_8 : 0 ≤ begin_0 ∧ begin_0 ≤ 2000) (kz_0_9 : (-176) ≤ number_0 ∧ number_0 ≤ 1000000) (kz_0_11 : 0 ≤ depth_0 ∧ depth_0 ≤ 4) (kz_1_0 : 0 ≤ nodes_0o1 ∧ nodes_0o1 ≤ 24) (kz_1_1 : 0 ≤ edges_0o1 ∧ edges_0o1 ≤ 48) (kz_1_2 : 0 ≤ groups_0o1 ∧ groups_0o1 ≤ 8) : cO0 (end_0) (next_0) (depth_0) (fault_0) (faultPlace_0) (nodes_0o1) (edges_0o1) (groups_0o1) (tape_0) (open_0) (nameLength_0o1) (name_0o1) (tail_0o1) (head_0o1) (x8) := by
  subst fe_0_2_1
  subst fe_0_5_1
  subst fe_0_6_1
  subst fe_0_7_1
  subst fe_0_8_1
  subst fe_0_9_1
  subst fe_1_0_1
  subst fe_1_1_1
  subst fe_1_2_1
  have e_hE_0_0_1 := funext hE_0_0_1; subst e_hE_0_0_1
  have e_hE_0_10_1 := funext hE_0_10_1; subst e_hE_0_10_1
  have e_hE_1_3_1 := funext hE_1_3_1; subst e_hE_1_3_1
  have e_hE_1_4_1 := funext hE_1_4_1; subst e_hE_1_4_1
  have e_hE_1_7_1 := funext hE_1_7_1; subst e_hE_1_7_1
  have e_hE_1_8_1 := funext hE_1_8_1; subst e_hE_1_8_1
  have e_hE_1_14_1 := funext hE_1_14_1; subst e_hE_1_14_1
  have e_hE_1_15_1 := funext hE_1_15_1; subst e_hE_1_15_1
  first | subst g0 | skip
  first | subst g1 | skip
  first | subst g12 | skip
  first
    | assumption
    | exact cO0_f ‹FSY _ _ _ _› (by omega) (by omega) (by omega)
    | exact cO0_t (i_cl ‹cRI _ _ _ _ _ _ _ _ _ _ _ _ _ _ _› (by omega) (by omega) (by omega)) (by omega) (by omega)
set_option maxHeartbeats 4000000 in
theorem vc_Re_readItem_20_1 (x2 : Int) (x3 : Int) (x8 : Int) (kind_0 : Int) (next_0 : Int) (begin_0 : Int) (near_0o1 : Int → Int) (tail_0o1 : Int → Int) (head_0o1 : Int → Int) (nodes_0o1 : Int) (edges_0o1 : Int) (fault_0 : Int) (link_0o1 : Int → Int) (depth_1 : Int) (kind_1 : Int) (next_1 : Int) (begin_1 : Int) (near_1o1 : Int → Int) (tail_1o1 : Int → Int) (head_1o1 : Int → Int) (nodes_1o1 : Int) (edges_1o1 : Int) (tape_1 : Int → Int) (open_1 : Int → Int) (nameLength_1o1 : Int → Int) (name_1o1 : Int → Int) (end_1 : Int) (number_1 : Int) (groups_1o1 : Int) (fault_1 : Int) (link_1o1 : Int → Int) (end_0 : Int) (number_0 : Int) (groups_0o1 : Int) (tape_0 : Int → Int) (open_0 : Int → Int) (name_0o1 : Int → Int) (nameLength_0o1 : Int → Int) (k2 : 0 ≤ x2 ∧ x2 ≤ 2000) (k3 : 125 ≤ x3 ∧ x3 ≤ 125) (k8 : 1 ≤ x8 ∧ x8 ≤ 1) (g1 : x3 = kind_0) (f6 : 1 * begin_0 + ((-1) * x2 + 0) ≤ 0) (f7 : (-1) * begin_0 + (1 * x2 + 0) ≤ 0) (f21 : cRI (end_1) (next_1) (kind_1) (begin_1) (number_1) (depth_1) (nodes_1o1) (edges_1o1) (groups_1o1) (tape_1) (open_1) (nameLength_1o1) (name_1o1) (tail_1o1) (head_1o1)) (fe_0_2_1 : fault_0 = fault_1) (fe_0_5_1 : end_0 = end_1) (fe_0_6_1 : next_0 = next_1) (fe_0_7_1 : kind_0 = kind_1) (fe_0_8_1 : begin_0 = begin_1) (fe_0_9_1 : number_0 = number_1) (fe_1_0_1 : nodes_0o1 = nodes_1o1) (fe_1_1_1 : edges_0o1 = edges_1o1) (fe_1_2_1 : groups_0o1 = groups_1o1) (hE_0_0_1 : ∀ j : Int, tape_0 j = tape_1 j) (hE_0_10_1 : ∀ j : Int, open_0 j = open_1 j) (hE_1_3_1 : ∀ j : Int, name_0o1 j = name_1o1 j) (hE_1_4_1 : ∀ j : Int, nameLength_0o1 j = nameLength_1o1 j) (hE_1_7_1 : ∀ j : Int, tail_0o1 j = tail_1o1 j) (hE_1_8_1 : ∀ j : Int, head_0o1 j = head_1o1 j) (hE_1_14_1 : ∀ j : Int, near_0o1 j = near_1o1 j) (hE_1_15_1 : ∀ j : Int, link_0o1 j = link_1o1 j) (kz_0_2 : (-1) ≤ fault_0 ∧ fault_0 ≤ 5) (kz_0_5 : 0 ≤ end_0 ∧ end_0 ≤ 2000) (kz_0_6 : 0 ≤ next_0 ∧ next_0 ≤ 2000) (kz_0_7 : (-128) ≤ kind_0 ∧ kind_0 ≤ 127) (kz_0_8 : 0 ≤ begin_0 ∧ begin_0 ≤ 2000) (kz_0_9 : (-176) ≤ number_0 ∧ number_0 ≤ 1000000) (kz_1_0 : 0 ≤ nodes_0o1 ∧ nodes_0o1 ≤ 24) (kz_1_1 : 0 ≤ edges_0o1 ∧ edges_0o1 ≤ 48) (kz_1_2 : 0 ≤ groups_0o1 ∧ groups_0o1 ≤ 8) : (1 * x8 + 0 ≤ 0) ∨ (1 * x2 + ((-1) * next_0 + 0) ≤ (-1)) := by
  subst fe_0_2_1
  subst fe_0_5_1
  subst fe_0_6_1
  subst fe_0_7_1
  subst fe_0_8_1
  subst fe_0_9_1
  subst fe_1_0_1
  subst fe_1_1_1
  subst fe_1_2_1
  have e_hE_0_0_1 := funext hE_0_0_1; subst e_hE_0_0_1
  have e_hE_0_10_1 := funext hE_0_10_1; subst e_hE_0_10_1
  have e_hE_1_3_1 := funext hE_1_3_1; subst e_hE_1_3_1
  have e_hE_1_4_1 := funext hE_1_4_1; subst e_hE_1_4_1
  have e_hE_1_7_1 := funext hE_1_7_1; subst e_hE_1_7_1
  have e_hE_1_8_1 := funext hE_1_8_1; subst e_hE_1_8_1
  have e_hE_1_14_1 := funext hE_1_14_1; subst e_hE_1_14_1
  have e_hE_1_15_1 := funext hE_1_15_1; subst e_hE_1_15_1
  first
    | omega
    | (have h := ri_lt ‹cRI _ _ _ _ _ _ _ _ _ _ _ _ _ _ _› (by omega); omega)
    | (have h := ri_lt ‹cRI _ _ _ _ _ _ _ _ _ _ _ _ _ _ _› (by have := (cwn_t ‹CWn _ _ _ _ _› (by omega)).1; omega); omega)
    | (have h := ri_lt ‹cRI _ _ _ _ _ _ _ _ _ _ _ _ _ _ _› (by have := (cwg_t ‹CWg _ _ _ _ _› (by omega)).1; omega); omega)
    | (have h := ri_lt ‹cRI _ _ _ _ _ _ _ _ _ _ _ _ _ _ _› (by have := (cnm_t ‹CNM _ _ _ _ _› (by omega)).1; omega); omega)
def o_Re_readItem_20 : or_T := (27, 9, [(0, (2, 0, 0, [8])), (1, (2, 0, 0, [164])), (2, (0, 0, 2000, [])), (3, (0, 125, 125, [])), (5, (0, 1, 4, [])), (7, (0, 0, 3, [])), (8, (0, 1, 1, []))], [(9, [7, 0], [11]), (9, [3, 0], [7]), (20, [0, 2], [30, 0, 1, 1, 8, -1, 0, 0]), (20, [0, 2], [30, 0, -1, 1, 8, 1, 0, 0]), (101, [0, 7], [11]), (9, [5, 0], [11]), (8, [5], [4]), (20, [0, 1], [60, 9, 6, 1058, 5, 6, 7, 8, 9, 11, 1000, 1001, 1002, 0, 10, 1004, 1003, 1007, 1008]), (20, [0], [50, 1, 0, 2, 1, 3, 2, 0, 2, 0, 0])], [], [], [(20, [0, 1, 8], [60, 8, 6, 1063, 5, 6, 11, 2, 3, 1000, 1001, 1002, 0, 10, 1004, 1003, 1007, 1008]), (20, [8, 2, 0], [31, 1, 0, 1, 0, 0, -1, 1, 0, 0, -1, 1, 6])], [], [(7, 5, -1, -1)])
theorem oo_Re_readItem_20 {kA : Nat → ClassId} : or_ok PRD kA GG o_Re_readItem_20 := by
  refine or_mk fun A ta ws vs hD hth hl => ?_
  intro t0 r0 t1 r1 t2 k2 t3 k3 t5 k5 t7 k7 t8 k8 d0 f0 f1 f6 f7 ta1 w1 le1 s1 f12 f13 f21 f22
  replace f0 := shm_116 f0
  replace f1 := shm_198 f1
  have s1 : (∀ b j, w_el ws b j = w_el w1 b j) ∧ ∀ b j, w_fd ws b j = if b = v_ad (n_v vs 0) ∧ j = 11 then n_v vs 7 else w_fd w1 b j := s1.2
  replace f12 := shm_116 f12
  replace f21 := shm_2149 f21
  have ar_0_0_1 : w_ar w1 (n_v vs 0) 0 = w_ar ws (n_v vs 0) 0 := by show v_ad (w_fd w1 _ _) = v_ad (w_fd ws _ _); rw [s1.2, if_neg (fun e => absurd e.2 (by decide))]
  have ar_0_10_1 : w_ar w1 (n_v vs 0) 10 = w_ar ws (n_v vs 0) 10 := by show v_ad (w_fd w1 _ _) = v_ad (w_fd ws _ _); rw [s1.2, if_neg (fun e => absurd e.2 (by decide))]
  have ar_1_3_1 : w_ar w1 (n_v vs 1) 3 = w_ar ws (n_v vs 1) 3 := by show v_ad (w_fd w1 _ _) = v_ad (w_fd ws _ _); rw [s1.2, if_neg (fun e => absurd e.2 (by decide))]
  have ar_1_4_1 : w_ar w1 (n_v vs 1) 4 = w_ar ws (n_v vs 1) 4 := by show v_ad (w_fd w1 _ _) = v_ad (w_fd ws _ _); rw [s1.2, if_neg (fun e => absurd e.2 (by decide))]
  have ar_1_7_1 : w_ar w1 (n_v vs 1) 7 = w_ar ws (n_v vs 1) 7 := by show v_ad (w_fd w1 _ _) = v_ad (w_fd ws _ _); rw [s1.2, if_neg (fun e => absurd e.2 (by decide))]
  have ar_1_8_1 : w_ar w1 (n_v vs 1) 8 = w_ar ws (n_v vs 1) 8 := by show v_ad (w_fd w1 _ _) = v_ad (w_fd ws _ _); rw [s1.2, if_neg (fun e => absurd e.2 (by decide))]
  have ar_1_14_1 : w_ar w1 (n_v vs 1) 14 = w_ar ws (n_v vs 1) 14 := by show v_ad (w_fd w1 _ _) = v_ad (w_fd ws _ _); rw [s1.2, if_neg (fun e => absurd e.2 (by decide))]
  have ar_1_15_1 : w_ar w1 (n_v vs 1) 15 = w_ar ws (n_v vs 1) 15 := by show v_ad (w_fd w1 _ _) = v_ad (w_fd ws _ _); rw [s1.2, if_neg (fun e => absurd e.2 (by decide))]
  have g0 : v_iv (n_v vs 7) = w_fi ws (n_v vs 0) 11 := congrArg v_iv f0
  have g1 : v_iv (n_v vs 3) = w_fi ws (n_v vs 0) 7 := congrArg v_iv f1
  have g12 : v_iv (n_v vs 5) = w_fi w1 (n_v vs 0) 11 := congrArg v_iv f12
  simp only [ar_1_7_1, ar_1_8_1, ar_1_14_1, ar_0_0_1, ar_0_10_1, ar_1_3_1, ar_1_4_1, ar_1_15_1] at f21
  have fe_0_2_1 : w_fi ws (n_v vs 0) 2 = w_fi w1 (n_v vs 0) 2 := by show v_iv (w_fd _ _ _) = v_iv (w_fd _ _ _); rw [s1.2, if_neg (fun e => absurd e.2 (by decide))]
  have fe_0_5_1 : w_fi ws (n_v vs 0) 5 = w_fi w1 (n_v vs 0) 5 := by show v_iv (w_fd _ _ _) = v_iv (w_fd _ _ _); rw [s1.2, if_neg (fun e => absurd e.2 (by decide))]
  have fe_0_6_1 : w_fi ws (n_v vs 0) 6 = w_fi w1 (n_v vs 0) 6 := by show v_iv (w_fd _ _ _) = v_iv (w_fd _ _ _); rw [s1.2, if_neg (fun e => absurd e.2 (by decide))]
  have fe_0_7_1 : w_fi ws (n_v vs 0) 7 = w_fi w1 (n_v vs 0) 7 := by show v_iv (w_fd _ _ _) = v_iv (w_fd _ _ _); rw [s1.2, if_neg (fun e => absurd e.2 (by decide))]
  have fe_0_8_1 : w_fi ws (n_v vs 0) 8 = w_fi w1 (n_v vs 0) 8 := by show v_iv (w_fd _ _ _) = v_iv (w_fd _ _ _); rw [s1.2, if_neg (fun e => absurd e.2 (by decide))]
  have fe_0_9_1 : w_fi ws (n_v vs 0) 9 = w_fi w1 (n_v vs 0) 9 := by show v_iv (w_fd _ _ _) = v_iv (w_fd _ _ _); rw [s1.2, if_neg (fun e => absurd e.2 (by decide))]
  have fe_1_0_1 : w_fi ws (n_v vs 1) 0 = w_fi w1 (n_v vs 1) 0 := by show v_iv (w_fd _ _ _) = v_iv (w_fd _ _ _); rw [s1.2, if_neg (fun e => absurd e.2 (by decide))]
  have fe_1_1_1 : w_fi ws (n_v vs 1) 1 = w_fi w1 (n_v vs 1) 1 := by show v_iv (w_fd _ _ _) = v_iv (w_fd _ _ _); rw [s1.2, if_neg (fun e => absurd e.2 (by decide))]
  have fe_1_2_1 : w_fi ws (n_v vs 1) 2 = w_fi w1 (n_v vs 1) 2 := by show v_iv (w_fd _ _ _) = v_iv (w_fd _ _ _); rw [s1.2, if_neg (fun e => absurd e.2 (by decide))]
  have hE_0_0_1 : ∀ j : Int, w_ei ws (w_ar ws (n_v vs 0) 0) j = w_ei w1 (w_ar ws (n_v vs 0) 0) j := fun j => s1.1 _ _
  have hE_0_10_1 : ∀ j : Int, w_ei ws (w_ar ws (n_v vs 0) 10) j = w_ei w1 (w_ar ws (n_v vs 0) 10) j := fun j => s1.1 _ _
  have hE_1_3_1 : ∀ j : Int, w_ei ws (w_ar ws (n_v vs 1) 3) j = w_ei w1 (w_ar ws (n_v vs 1) 3) j := fun j => s1.1 _ _
  have hE_1_4_1 : ∀ j : Int, w_ei ws (w_ar ws (n_v vs 1) 4) j = w_ei w1 (w_ar ws (n_v vs 1) 4) j := fun j => s1.1 _ _
  have hE_1_7_1 : ∀ j : Int, w_ei ws (w_ar ws (n_v vs 1) 7) j = w_ei w1 (w_ar ws (n_v vs 1) 7) j := fun j => s1.1 _ _
  have hE_1_8_1 : ∀ j : Int, w_ei ws (w_ar ws (n_v vs 1) 8) j = w_ei w1 (w_ar ws (n_v vs 1) 8) j := fun j => s1.1 _ _
  have hE_1_14_1 : ∀ j : Int, w_ei ws (w_ar ws (n_v vs 1) 14) j = w_ei w1 (w_ar ws (n_v vs 1) 14) j := fun j => s1.1 _ _
  have hE_1_15_1 : ∀ j : Int, w_ei ws (w_ar ws (n_v vs 1) 15) j = w_ei w1 (w_ar ws (n_v vs 1) 15) j := fun j => s1.1 _ _
  have kz_0_2 := fdq_97 hD hth r0
  have kz_0_3 := fdq_98 hD hth r0
  have kz_0_5 := fdq_207 hD hth r0
  have kz_0_6 := fdq_208 hD hth r0
  have kz_0_7 := fdq_297 hD hth r0
  have kz_0_8 := fdq_99 hD hth r0
  have kz_0_9 := fdq_296 hD hth r0
  have kz_0_11 := fdq_320 hD hth r0
  have kz_1_0 := fdq_73 hD hth r1
  have kz_1_1 := fdq_74 hD hth r1
  have kz_1_2 := fdq_206 hD hth r1
  have nf0 : fc_1 PRD (20, [0, 1, 8], [60, 8, 6, 1063, 5, 6, 11, 2, 3, 1000, 1001, 1002, 0, 10, 1004, 1003, 1007, 1008]) ws (vs) := ⟨nf_in hl rfl, sgq_2023 (vc_Re_readItem_20_0 (v_iv (n_v vs 3)) (v_iv (n_v vs 5)) (v_iv (n_v vs 7)) (v_iv (n_v vs 8)) (w_fi ws (n_v vs 0) 11) (w_fi ws (n_v vs 0) 7) (w_fi ws (n_v vs 0) 6) (w_fi ws (n_v vs 0) 8) (w_ei ws (w_ar ws (n_v vs 1) 14)) (w_ei ws (w_ar ws (n_v vs 1) 7)) (w_ei ws (w_ar ws (n_v vs 1) 8)) (w_fi ws (n_v vs 1) 0) (w_fi ws (n_v vs 1) 1) (w_fi ws (n_v vs 0) 2) (w_ei ws (w_ar ws (n_v vs 1) 15)) (w_fi w1 (n_v vs 0) 11) (w_fi w1 (n_v vs 0) 7) (w_fi w1 (n_v vs 0) 6) (w_fi w1 (n_v vs 0) 8) (w_ei w1 (w_ar ws (n_v vs 1) 14)) (w_ei w1 (w_ar ws (n_v vs 1) 7)) (w_ei w1 (w_ar ws (n_v vs 1) 8)) (w_fi w1 (n_v vs 1) 0) (w_fi w1 (n_v vs 1) 1) (w_ei w1 (w_ar ws (n_v vs 0) 0)) (w_ei w1 (w_ar ws (n_v vs 0) 10)) (w_ei w1 (w_ar ws (n_v vs 1) 4)) (w_ei w1 (w_ar ws (n_v vs 1) 3)) (w_fi w1 (n_v vs 0) 5) (w_fi w1 (n_v vs 0) 9) (w_fi w1 (n_v vs 1) 2) (w_fi w1 (n_v vs 0) 2) (w_ei w1 (w_ar ws (n_v vs 1) 15)) (w_fi ws (n_v vs 0) 3) (w_fi ws (n_v vs 0) 5) (w_fi ws (n_v vs 0) 9) (w_fi ws (n_v vs 1) 2) (w_ei ws (w_ar ws (n_v vs 0) 0)) (w_ei ws (w_ar ws (n_v vs 0) 10)) (w_ei ws (w_ar ws (n_v vs 1) 3)) (w_ei ws (w_ar ws (n_v vs 1) 4)) k3 k5 k7 k8 d0 g0 g1 g12 (shm_308 f13) f21 (shm_1985 f22) fe_0_2_1 fe_0_5_1 fe_0_6_1 fe_0_7_1 fe_0_8_1 fe_0_9_1 fe_1_0_1 fe_1_1_1 fe_1_2_1 hE_0_0_1 hE_0_10_1 hE_1_3_1 hE_1_4_1 hE_1_7_1 hE_1_8_1 hE_1_14_1 hE_1_15_1 kz_0_2 kz_0_3 kz_0_5 kz_0_6 kz_0_7 kz_0_8 kz_0_9 kz_0_11 kz_1_0 kz_1_1 kz_1_2)⟩
  have nf1 : fc_1 PRD (20, [8, 2, 0], [31, 1, 0, 1, 0, 0, -1, 1, 0, 0, -1, 1, 6]) ws (vs) := ⟨nf_in hl rfl, sgq_2150 (vc_Re_readItem_20_1 (v_iv (n_v vs 2)) (v_iv (n_v vs 3)) (v_iv (n_v vs 8)) (w_fi ws (n_v vs 0) 7) (w_fi ws (n_v vs 0) 6) (w_fi ws (n_v vs 0) 8) (w_ei ws (w_ar ws (n_v vs 1) 14)) (w_ei ws (w_ar ws (n_v vs 1) 7)) (w_ei ws (w_ar ws (n_v vs 1) 8)) (w_fi ws (n_v vs 1) 0) (w_fi ws (n_v vs 1) 1) (w_fi ws (n_v vs 0) 2) (w_ei ws (w_ar ws (n_v vs 1) 15)) (w_fi w1 (n_v vs 0) 11) (w_fi w1 (n_v vs 0) 7) (w_fi w1 (n_v vs 0) 6) (w_fi w1 (n_v vs 0) 8) (w_ei w1 (w_ar ws (n_v vs 1) 14)) (w_ei w1 (w_ar ws (n_v vs 1) 7)) (w_ei w1 (w_ar ws (n_v vs 1) 8)) (w_fi w1 (n_v vs 1) 0) (w_fi w1 (n_v vs 1) 1) (w_ei w1 (w_ar ws (n_v vs 0) 0)) (w_ei w1 (w_ar ws (n_v vs 0) 10)) (w_ei w1 (w_ar ws (n_v vs 1) 4)) (w_ei w1 (w_ar ws (n_v vs 1) 3)) (w_fi w1 (n_v vs 0) 5) (w_fi w1 (n_v vs 0) 9) (w_fi w1 (n_v vs 1) 2) (w_fi w1 (n_v vs 0) 2) (w_ei w1 (w_ar ws (n_v vs 1) 15)) (w_fi ws (n_v vs 0) 5) (w_fi ws (n_v vs 0) 9) (w_fi ws (n_v vs 1) 2) (w_ei ws (w_ar ws (n_v vs 0) 0)) (w_ei ws (w_ar ws (n_v vs 0) 10)) (w_ei ws (w_ar ws (n_v vs 1) 3)) (w_ei ws (w_ar ws (n_v vs 1) 4)) k2 k3 k8 g1 (shm_303 f6) (shm_304 f7) f21 fe_0_2_1 fe_0_5_1 fe_0_6_1 fe_0_7_1 fe_0_8_1 fe_0_9_1 fe_1_0_1 fe_1_1_1 fe_1_2_1 hE_0_0_1 hE_0_10_1 hE_1_3_1 hE_1_4_1 hE_1_7_1 hE_1_8_1 hE_1_14_1 hE_1_15_1 kz_0_2 kz_0_5 kz_0_6 kz_0_7 kz_0_8 kz_0_9 kz_1_0 kz_1_1 kz_1_2)⟩
  refine ⟨(fun _ h => (by cases h)), [], trivial, ?_, (fun _ h => (by cases h))⟩
  rw [List.append_nil]
  exact List.forall_mem_cons.mpr ⟨⟨show (20 : Nat) < 100 from by decide, nf0⟩, List.forall_mem_cons.mpr ⟨⟨show (20 : Nat) < 100 from by decide, nf1⟩, (fun _ h => (by cases h))⟩⟩
def n_Re_readItem_an : List an_T := []
def t_Re_readItem_ct : ct_L := [(1, 101, e_Re_readNode), (1, 104, e_Re_readGroup), (1, 107, e_Re_isName), (1, 110, e_Re_readEdges), (1, 113, e_Re_fail), (97, 95, e_Re_isWord_at_s5000), (139, 95, e_Re_isWord_at_s5001), (1000000, 93, en_ro [] (2, 0, 0, [5000])), (1000000, 99, en_ro [] (2, 0, 0, [5001]))]
set_option maxRecDepth 100000 in
theorem c_Re_readItem {l : Launch} {D : va_G} {kA : Nat → ClassId} (h_Re_fail : ct_ok PRD l D kA GG y_Re_fail z_Re_fail e_Re_fail) (h_Re_isName : ct_ok PRD l D kA GG y_Re_isName z_Re_isName e_Re_isName) (h_Re_isWord_at_s5000 : ct_ok PRD l D kA GG y_Re_isWord_at_s5000 z_Re_isWord_at_s5000 e_Re_isWord_at_s5000) (h_Re_isWord_at_s5001 : ct_ok PRD l D kA GG y_Re_isWord_at_s5001 z_Re_isWord_at_s5001 e_Re_isWord_at_s5001) (h_Re_readEdges : ct_ok PRD l D kA GG y_Re_readEdges z_Re_readEdges e_Re_readEdges) (h_Re_readGroup : ct_ok PRD l D kA GG y_Re_readGroup z_Re_readGroup e_Re_readGroup) (h_Re_readNode : ct_ok PRD l D kA GG y_Re_readNode z_Re_readNode e_Re_readNode) : ct_ok PRD l D kA GG y_Re_readItem z_Re_readItem e_Re_readItem := chk_all_ok (FT := [(38, 8, 7), (51, 8, 11)]) (PT := [(51, 8, 11, .int)]) (CT := t_Re_readItem_ct) (KT := []) (NT := []) (AN := n_Re_readItem_an) (OT := [o_Re_readItem_0, o_Re_readItem_1, o_Re_readItem_2, o_Re_readItem_3, o_Re_readItem_4, o_Re_readItem_5, o_Re_readItem_6, o_Re_readItem_7, o_Re_readItem_8, o_Re_readItem_9, o_Re_readItem_10, o_Re_readItem_11, o_Re_readItem_12, o_Re_readItem_13, o_Re_readItem_14, o_Re_readItem_15, o_Re_readItem_16, o_Re_readItem_17, o_Re_readItem_18, o_Re_readItem_19, o_Re_readItem_20]) 0 276 (List.forall_mem_cons.mpr ⟨oo_Re_readItem_0, List.forall_mem_cons.mpr ⟨oo_Re_readItem_1, List.forall_mem_cons.mpr ⟨oo_Re_readItem_2, List.forall_mem_cons.mpr ⟨oo_Re_readItem_3, List.forall_mem_cons.mpr ⟨oo_Re_readItem_4, List.forall_mem_cons.mpr ⟨oo_Re_readItem_5, List.forall_mem_cons.mpr ⟨oo_Re_readItem_6, List.forall_mem_cons.mpr ⟨oo_Re_readItem_7, List.forall_mem_cons.mpr ⟨oo_Re_readItem_8, List.forall_mem_cons.mpr ⟨oo_Re_readItem_9, List.forall_mem_cons.mpr ⟨oo_Re_readItem_10, List.forall_mem_cons.mpr ⟨oo_Re_readItem_11, List.forall_mem_cons.mpr ⟨oo_Re_readItem_12, List.forall_mem_cons.mpr ⟨oo_Re_readItem_13, List.forall_mem_cons.mpr ⟨oo_Re_readItem_14, List.forall_mem_cons.mpr ⟨oo_Re_readItem_15, List.forall_mem_cons.mpr ⟨oo_Re_readItem_16, List.forall_mem_cons.mpr ⟨oo_Re_readItem_17, List.forall_mem_cons.mpr ⟨oo_Re_readItem_18, List.forall_mem_cons.mpr ⟨oo_Re_readItem_19, List.forall_mem_cons.mpr ⟨oo_Re_readItem_20, List.forall_mem_nil _⟩⟩⟩⟩⟩⟩⟩⟩⟩⟩⟩⟩⟩⟩⟩⟩⟩⟩⟩⟩⟩) (by decide +kernel) ⟨List.forall_mem_cons.mpr ⟨gf_Re_38, List.forall_mem_cons.mpr ⟨gf_Re_51, List.forall_mem_nil _⟩⟩, List.forall_mem_cons.mpr ⟨pf_Re_51, List.forall_mem_nil _⟩, List.forall_mem_cons.mpr ⟨cl_virtual (y := y_Re_readNode) (ci := 8) rfl rfl ⟨_, _, rfl⟩ (by decide +kernel) h_Re_readNode wm_722 wm_2 wm_719 wm_721 wv_1_3 ⟨by decide, by decide, by decide +kernel⟩ (by decide), List.forall_mem_cons.mpr ⟨cl_virtual (y := y_Re_readGroup) (ci := 8) rfl rfl ⟨_, _, rfl⟩ (by decide +kernel) h_Re_readGroup wm_759 wm_2 wm_756 wm_758 wv_1_9 ⟨by decide, by decide, by decide +kernel⟩ (by decide), List.forall_mem_cons.mpr ⟨cl_virtual (y := y_Re_isName) (ci := 8) rfl rfl ⟨_, _, rfl⟩ (by decide +kernel) h_Re_isName wm_726 wm_2 wm_723 wm_725 wv_1_4 ⟨by decide, by decide, by decide +kernel⟩ (by decide), List.forall_mem_cons.mpr ⟨cl_virtual (y := y_Re_readEdges) (ci := 8) rfl rfl ⟨_, _, rfl⟩ (by decide +kernel) h_Re_readEdges wm_764 wm_2 wm_761 wm_763 wv_1_10 ⟨by decide, by decide, by decide +kernel⟩ (by decide), List.forall_mem_cons.mpr ⟨cl_virtual (y := y_Re_fail) (ci := 8) rfl rfl ⟨_, _, rfl⟩ (by decide +kernel) h_Re_fail wm_731 wm_2 wm_728 wm_730 wv_1_5 ⟨by decide, by decide, by decide +kernel⟩ (by decide), List.forall_mem_cons.mpr ⟨cl_virtual (y := y_Re_isWord_at_s5000) (ci := 8) rfl rfl ⟨_, _, rfl⟩ (by decide +kernel) h_Re_isWord_at_s5000 wm_670 wm_2 wm_667 wm_669 wv_1_2 ⟨by decide, by decide, by decide +kernel⟩ (by decide), List.forall_mem_cons.mpr ⟨cl_virtual (y := y_Re_isWord_at_s5001) (ci := 8) rfl rfl ⟨_, _, rfl⟩ (by decide +kernel) h_Re_isWord_at_s5001 wm_670 wm_2 wm_667 wm_669 wv_1_2 ⟨by decide, by decide, by decide +kernel⟩ (by decide), List.forall_mem_cons.mpr ⟨cl_ldc (own := "DrawingHouse$Reader") (idx := 93) (i := 0) (tx := "node") (by decide +kernel) (by decide +kernel) (by decide +kernel), List.forall_mem_cons.mpr ⟨cl_ldc (own := "DrawingHouse$Reader") (idx := 99) (i := 1) (tx := "group") (by decide +kernel) (by decide +kernel) (by decide +kernel), List.forall_mem_nil _⟩⟩⟩⟩⟩⟩⟩⟩⟩, List.forall_mem_nil _, List.forall_mem_nil _, GG_pl⟩ (by decide +kernel)
def o_Sy_compileBoth_at_k0_0 : or_T := (12, 5, [], [], [], [], [(24, [0, 0], [])], [], [])
theorem oo_Sy_compileBoth_at_k0_0 {kA : Nat → ClassId} : or_ok PRD kA GG o_Sy_compileBoth_at_k0_0 := by
  refine or_mk fun A ta ws vs hD hth hl => ?_
  have nf0 : fc_1 PRD (24, [0, 0], []) ws (vs) := by
    refine ⟨nf_in hl rfl, sgq_1 ?_⟩
    · show n_v vs 0 = n_v vs 0
      first | rfl | simp only [true_and]
  refine ⟨(fun _ h => (by cases h)), [], trivial, ?_, (fun _ h => (by cases h))⟩
  rw [List.append_nil]
  exact List.forall_mem_cons.mpr ⟨⟨show (24 : Nat) < 100 from by decide, nf0⟩, (fun _ h => (by cases h))⟩
set_option maxHeartbeats 4000000 in
theorem vc_Sy_compileBoth_at_k0_1_0 (kind_0 : Int) (number_0 : Int) (f0 : (kind_0 ≠ 3) ∨ (number_0 ≤ 9999)) (kz_0_6 : 0 ≤ kind_0 ∧ kind_0 ≤ 127) (kz_0_8 : 0 ≤ number_0 ∧ number_0 ≤ 1000000) : (kind_0 ≠ 3) ∨ (number_0 ≤ 9999) := by
  first
    | omega
  
def o_Sy_compileBoth_at_k0_1 : or_T := (56, 9, [(0, (2, 0, 0, [11]))], [(20, [3], [50, 2, 0, 6, 8, 3, 7, 7, 3, 2, 0, 6, 0, 3, 0, 3, 2, 0, 8, 0, 9999]), (24, [0, 3], [])], [], [], [(20, [0], [50, 2, 0, 6, 8, 3, 7, 7, 3, 2, 0, 6, 0, 3, 0, 3, 2, 0, 8, 0, 9999])], [], [])
theorem oo_Sy_compileBoth_at_k0_1 {kA : Nat → ClassId} : or_ok PRD kA GG o_Sy_compileBoth_at_k0_1 := by
  refine or_mk fun A ta ws vs hD hth hl => ?_
  intro t0 r0 f0 f1
  replace f0 := shm_1840 f0
  replace f1 := shm_5 f1
  have q3 : n_v vs 3 = n_v vs 0 := f1.symm
  simp only [q3] at f0
  have kz_0_6 := fdq_313 hD hth r0
  have kz_0_8 := fdq_314 hD hth r0
  have nf0 : fc_1 PRD (20, [0], [50, 2, 0, 6, 8, 3, 7, 7, 3, 2, 0, 6, 0, 3, 0, 3, 2, 0, 8, 0, 9999]) ws (vs) := ⟨nf_in hl rfl, sgq_1840 (vc_Sy_compileBoth_at_k0_1_0 (w_fi ws (n_v vs 0) 6) (w_fi ws (n_v vs 0) 8) f0 kz_0_6 kz_0_8)⟩
  refine ⟨(fun _ h => (by cases h)), [], trivial, ?_, (fun _ h => (by cases h))⟩
  rw [List.append_nil]
  exact List.forall_mem_cons.mpr ⟨⟨show (20 : Nat) < 100 from by decide, nf0⟩, (fun _ h => (by cases h))⟩
set_option maxHeartbeats 4000000 in
theorem vc_Sy_compileBoth_at_k0_2_0 (kind_0 : Int) (number_0 : Int) (f0 : (kind_0 ≠ 3) ∨ (number_0 ≤ 9999)) (kz_0_6 : 0 ≤ kind_0 ∧ kind_0 ≤ 127) (kz_0_8 : 0 ≤ number_0 ∧ number_0 ≤ 1000000) : (kind_0 ≠ 3) ∨ (number_0 ≤ 9999) := by
  first
    | omega
  
def o_Sy_compileBoth_at_k0_2 : or_T := (56, 11, [(0, (2, 0, 0, [11]))], [(20, [3], [50, 2, 0, 6, 8, 3, 7, 7, 3, 2, 0, 6, 0, 3, 0, 3, 2, 0, 8, 0, 9999]), (24, [0, 3], [])], [], [], [(20, [0], [50, 2, 0, 6, 8, 3, 7, 7, 3, 2, 0, 6, 0, 3, 0, 3, 2, 0, 8, 0, 9999])], [], [])
theorem oo_Sy_compileBoth_at_k0_2 {kA : Nat → ClassId} : or_ok PRD kA GG o_Sy_compileBoth_at_k0_2 := by
  refine or_mk fun A ta ws vs hD hth hl => ?_
  intro t0 r0 f0 f1
  replace f0 := shm_1840 f0
  replace f1 := shm_5 f1
  have q3 : n_v vs 3 = n_v vs 0 := f1.symm
  simp only [q3] at f0
  have kz_0_6 := fdq_313 hD hth r0
  have kz_0_8 := fdq_314 hD hth r0
  have nf0 : fc_1 PRD (20, [0], [50, 2, 0, 6, 8, 3, 7, 7, 3, 2, 0, 6, 0, 3, 0, 3, 2, 0, 8, 0, 9999]) ws (vs) := ⟨nf_in hl rfl, sgq_1840 (vc_Sy_compileBoth_at_k0_2_0 (w_fi ws (n_v vs 0) 6) (w_fi ws (n_v vs 0) 8) f0 kz_0_6 kz_0_8)⟩
  refine ⟨(fun _ h => (by cases h)), [], trivial, ?_, (fun _ h => (by cases h))⟩
  rw [List.append_nil]
  exact List.forall_mem_cons.mpr ⟨⟨show (20 : Nat) < 100 from by decide, nf0⟩, (fun _ h => (by cases h))⟩
set_option maxHeartbeats 4000000 in
theorem vc_Sy_compileBoth_at_k0_3_0 (x11 : Int) (x12 : Int) (k11 : 9 ≤ x11 ∧ x11 ≤ 9) (k12 : 0 ≤ x12 ∧ x12 ≤ 0) : (0 ≤ x11) ∧ ((0 ≤ x12) ∧ (((x11 * 65536) + x12) ≤ 851970)) := by
  first
    | omega
  
def o_Sy_compileBoth_at_k0_3 : or_T := (46, 13, [(11, (0, 9, 9, [])), (12, (0, 0, 0, []))], [], [], [], [(20, [11, 12], [50, 0, 0, 2, 6, 0, 2, 0, 0, 1, 0, 2, 6, 0, 2, 0, 0, 1, 1, 0, 10, 4, 6, 6, 2, 1, 0, 0, 65536, 1, 1, 0, 851970])], [], [])
theorem oo_Sy_compileBoth_at_k0_3 {kA : Nat → ClassId} : or_ok PRD kA GG o_Sy_compileBoth_at_k0_3 := by
  refine or_mk fun A ta ws vs hD hth hl => ?_
  intro t11 k11 t12 k12
  have nf0 : fc_1 PRD (20, [11, 12], [50, 0, 0, 2, 6, 0, 2, 0, 0, 1, 0, 2, 6, 0, 2, 0, 0, 1, 1, 0, 10, 4, 6, 6, 2, 1, 0, 0, 65536, 1, 1, 0, 851970]) ws (vs) := ⟨nf_in hl rfl, sgq_493 (vc_Sy_compileBoth_at_k0_3_0 (v_iv (n_v vs 11)) (v_iv (n_v vs 12)) k11 k12)⟩
  refine ⟨(fun _ h => (by cases h)), [], trivial, ?_, (fun _ h => (by cases h))⟩
  rw [List.append_nil]
  exact List.forall_mem_cons.mpr ⟨⟨show (20 : Nat) < 100 from by decide, nf0⟩, (fun _ h => (by cases h))⟩
set_option maxHeartbeats 4000000 in
theorem vc_Sy_compileBoth_at_k0_4_0 (kind_0 : Int) (number_0 : Int) (f1 : (kind_0 ≠ 3) ∨ (number_0 ≤ 9999)) (kz_0_6 : 0 ≤ kind_0 ∧ kind_0 ≤ 127) (kz_0_8 : 0 ≤ number_0 ∧ number_0 ≤ 1000000) : (kind_0 ≠ 3) ∨ (number_0 ≤ 9999) := by
  first
    | omega
  
def o_Sy_compileBoth_at_k0_4 : or_T := (41, 12, [(0, (2, 0, 0, [11]))], [(24, [0, 3], []), (20, [3], [50, 2, 0, 6, 8, 3, 7, 7, 3, 2, 0, 6, 0, 3, 0, 3, 2, 0, 8, 0, 9999])], [], [], [(20, [0], [50, 2, 0, 6, 8, 3, 7, 7, 3, 2, 0, 6, 0, 3, 0, 3, 2, 0, 8, 0, 9999])], [], [])
theorem oo_Sy_compileBoth_at_k0_4 {kA : Nat → ClassId} : or_ok PRD kA GG o_Sy_compileBoth_at_k0_4 := by
  refine or_mk fun A ta ws vs hD hth hl => ?_
  intro t0 r0 f0 f1
  replace f0 := shm_5 f0
  replace f1 := shm_1840 f1
  have q3 : n_v vs 3 = n_v vs 0 := f0.symm
  simp only [q3] at f1
  have kz_0_6 := fdq_313 hD hth r0
  have kz_0_8 := fdq_314 hD hth r0
  have nf0 : fc_1 PRD (20, [0], [50, 2, 0, 6, 8, 3, 7, 7, 3, 2, 0, 6, 0, 3, 0, 3, 2, 0, 8, 0, 9999]) ws (vs) := ⟨nf_in hl rfl, sgq_1840 (vc_Sy_compileBoth_at_k0_4_0 (w_fi ws (n_v vs 0) 6) (w_fi ws (n_v vs 0) 8) f1 kz_0_6 kz_0_8)⟩
  refine ⟨(fun _ h => (by cases h)), [], trivial, ?_, (fun _ h => (by cases h))⟩
  rw [List.append_nil]
  exact List.forall_mem_cons.mpr ⟨⟨show (20 : Nat) < 100 from by decide, nf0⟩, (fun _ h => (by cases h))⟩
def n_Sy_compileBoth_at_k0_an : List an_T := [(12, [(0, (2, 0, 0, [11])), (1, (0, 0, 0, [])), (2, (0, 0, 2000, []))], [], (0, 0), [(0, 0, 99988), (1, 5, 2000), (0, 0, 100000)], [], [((0, 3), (2, 0, 0, [109]))], [(2, 0, 0, [11]), (0, 0, 0, []), (2, 0, 0, [109])], 0, [], [(20, [3], [50, 2, 0, 6, 8, 3, 7, 7, 3, 2, 0, 6, 0, 3, 0, 3, 2, 0, 8, 0, 9999]), (24, [0, 3], [])])]
def t_Sy_compileBoth_at_k0_ct : ct_L := [(1, 69, e_Sy_advance), (1, 128, e_Sy_emit), (10, 145, e_Sy_compileOne_at_k0), (70, 114, e_Sy_wordIn_at_s5010), (106, 145, e_Sy_compileOne_at_k0), (1000000, 148, en_ro [] (2, 0, 0, [5010]))]
set_option maxRecDepth 100000 in
theorem c_Sy_compileBoth_at_k0 {l : Launch} {D : va_G} {kA : Nat → ClassId} (h_Sy_advance : ct_ok PRD l D kA GG y_Sy_advance z_Sy_advance e_Sy_advance) (h_Sy_compileOne_at_k0 : ct_ok PRD l D kA GG y_Sy_compileOne_at_k0 z_Sy_compileOne_at_k0 e_Sy_compileOne_at_k0) (h_Sy_emit : ct_ok PRD l D kA GG y_Sy_emit z_Sy_emit e_Sy_emit) (h_Sy_wordIn_at_s5010 : ct_ok PRD l D kA GG y_Sy_wordIn_at_s5010 z_Sy_wordIn_at_s5010 e_Sy_wordIn_at_s5010) : ct_ok PRD l D kA GG y_Sy_compileBoth_at_k0 z_Sy_compileBoth_at_k0 e_Sy_compileBoth_at_k0 := chk_all_ok (FT := []) (PT := []) (CT := t_Sy_compileBoth_at_k0_ct) (KT := []) (NT := []) (AN := n_Sy_compileBoth_at_k0_an) (OT := [o_Sy_compileBoth_at_k0_0, o_Sy_compileBoth_at_k0_1, o_Sy_compileBoth_at_k0_2, o_Sy_compileBoth_at_k0_3, o_Sy_compileBoth_at_k0_4]) 3 200 (List.forall_mem_cons.mpr ⟨oo_Sy_compileBoth_at_k0_0, List.forall_mem_cons.mpr ⟨oo_Sy_compileBoth_at_k0_1, List.forall_mem_cons.mpr ⟨oo_Sy_compileBoth_at_k0_2, List.forall_mem_cons.mpr ⟨oo_Sy_compileBoth_at_k0_3, List.forall_mem_cons.mpr ⟨oo_Sy_compileBoth_at_k0_4, List.forall_mem_nil _⟩⟩⟩⟩⟩) (by decide +kernel) ⟨List.forall_mem_nil _, List.forall_mem_nil _, List.forall_mem_cons.mpr ⟨cl_virtual (y := y_Sy_advance) (ci := 11) rfl rfl ⟨_, _, rfl⟩ (by decide +kernel) h_Sy_advance wm_2158 wm_23 wm_2155 wm_2157 wv_10_10 ⟨by decide, by decide, by decide +kernel⟩ (by decide), List.forall_mem_cons.mpr ⟨cl_virtual (y := y_Sy_emit) (ci := 11) rfl rfl ⟨_, _, rfl⟩ (by decide +kernel) h_Sy_emit wm_2258 wm_23 wm_2255 wm_2257 wv_11_2 ⟨by decide, by decide, by decide +kernel⟩ (by decide), List.forall_mem_cons.mpr ⟨cl_virtual (y := y_Sy_compileOne_at_k0) (ci := 11) rfl rfl ⟨_, _, rfl⟩ (by decide +kernel) h_Sy_compileOne_at_k0 wm_2253 wm_23 wm_2250 wm_2252 wv_11_1 ⟨by decide, by decide, by decide +kernel⟩ (by decide), List.forall_mem_cons.mpr ⟨cl_virtual (y := y_Sy_wordIn_at_s5010) (ci := 11) rfl rfl ⟨_, _, rfl⟩ (by decide +kernel) h_Sy_wordIn_at_s5010 wm_2229 wm_23 wm_2226 wm_2228 wv_10_12 ⟨by decide, by decide, by decide +kernel⟩ (by decide), List.forall_mem_cons.mpr ⟨cl_virtual (y := y_Sy_compileOne_at_k0) (ci := 11) rfl rfl ⟨_, _, rfl⟩ (by decide +kernel) h_Sy_compileOne_at_k0 wm_2253 wm_23 wm_2250 wm_2252 wv_11_1 ⟨by decide, by decide, by decide +kernel⟩ (by decide), List.forall_mem_cons.mpr ⟨cl_ldc (own := "DrawingHouse$Styler") (idx := 148) (i := 10) (tx := "and ") (by decide +kernel) (by decide +kernel) (by decide +kernel), List.forall_mem_nil _⟩⟩⟩⟩⟩⟩, List.forall_mem_nil _, List.forall_mem_nil _, GG_pl⟩ (by decide +kernel)
def o_Sy_compileBoth_at_k1_0 : or_T := (12, 5, [], [], [], [], [(24, [0, 0], [])], [], [])
theorem oo_Sy_compileBoth_at_k1_0 {kA : Nat → ClassId} : or_ok PRD kA GG o_Sy_compileBoth_at_k1_0 := by
  refine or_mk fun A ta ws vs hD hth hl => ?_
  have nf0 : fc_1 PRD (24, [0, 0], []) ws (vs) := by
    refine ⟨nf_in hl rfl, sgq_1 ?_⟩
    · show n_v vs 0 = n_v vs 0
      first | rfl | simp only [true_and]
  refine ⟨(fun _ h => (by cases h)), [], trivial, ?_, (fun _ h => (by cases h))⟩
  rw [List.append_nil]
  exact List.forall_mem_cons.mpr ⟨⟨show (24 : Nat) < 100 from by decide, nf0⟩, (fun _ h => (by cases h))⟩
set_option maxHeartbeats 4000000 in
theorem vc_Sy_compileBoth_at_k1_1_0 (kind_0 : Int) (number_0 : Int) (f0 : (kind_0 ≠ 3) ∨ (number_0 ≤ 9999)) (kz_0_6 : 0 ≤ kind_0 ∧ kind_0 ≤ 127) (kz_0_8 : 0 ≤ number_0 ∧ number_0 ≤ 1000000) : (kind_0 ≠ 3) ∨ (number_0 ≤ 9999) := by
  first
    | omega
  
def o_Sy_compileBoth_at_k1_1 : or_T := (56, 9, [(0, (2, 0, 0, [11]))], [(20, [3], [50, 2, 0, 6, 8, 3, 7, 7, 3, 2, 0, 6, 0, 3, 0, 3, 2, 0, 8, 0, 9999]), (24, [0, 3], [])], [], [], [(20, [0], [50, 2, 0, 6, 8, 3, 7, 7, 3, 2, 0, 6, 0, 3, 0, 3, 2, 0, 8, 0, 9999])], [], [])
theorem oo_Sy_compileBoth_at_k1_1 {kA : Nat → ClassId} : or_ok PRD kA GG o_Sy_compileBoth_at_k1_1 := by
  refine or_mk fun A ta ws vs hD hth hl => ?_
  intro t0 r0 f0 f1
  replace f0 := shm_1840 f0
  replace f1 := shm_5 f1
  have q3 : n_v vs 3 = n_v vs 0 := f1.symm
  simp only [q3] at f0
  have kz_0_6 := fdq_313 hD hth r0
  have kz_0_8 := fdq_314 hD hth r0
  have nf0 : fc_1 PRD (20, [0], [50, 2, 0, 6, 8, 3, 7, 7, 3, 2, 0, 6, 0, 3, 0, 3, 2, 0, 8, 0, 9999]) ws (vs) := ⟨nf_in hl rfl, sgq_1840 (vc_Sy_compileBoth_at_k1_1_0 (w_fi ws (n_v vs 0) 6) (w_fi ws (n_v vs 0) 8) f0 kz_0_6 kz_0_8)⟩
  refine ⟨(fun _ h => (by cases h)), [], trivial, ?_, (fun _ h => (by cases h))⟩
  rw [List.append_nil]
  exact List.forall_mem_cons.mpr ⟨⟨show (20 : Nat) < 100 from by decide, nf0⟩, (fun _ h => (by cases h))⟩
set_option maxHeartbeats 4000000 in
theorem vc_Sy_compileBoth_at_k1_2_0 (kind_0 : Int) (number_0 : Int) (f0 : (kind_0 ≠ 3) ∨ (number_0 ≤ 9999)) (kz_0_6 : 0 ≤ kind_0 ∧ kind_0 ≤ 127) (kz_0_8 : 0 ≤ number_0 ∧ number_0 ≤ 1000000) : (kind_0 ≠ 3) ∨ (number_0 ≤ 9999) := by
  first
    | omega
  
def o_Sy_compileBoth_at_k1_2 : or_T := (56, 11, [(0, (2, 0, 0, [11]))], [(20, [3], [50, 2, 0, 6, 8, 3, 7, 7, 3, 2, 0, 6, 0, 3, 0, 3, 2, 0, 8, 0, 9999]), (24, [0, 3], [])], [], [], [(20, [0], [50, 2, 0, 6, 8, 3, 7, 7, 3, 2, 0, 6, 0, 3, 0, 3, 2, 0, 8, 0, 9999])], [], [])
theorem oo_Sy_compileBoth_at_k1_2 {kA : Nat → ClassId} : or_ok PRD kA GG o_Sy_compileBoth_at_k1_2 := by
  refine or_mk fun A ta ws vs hD hth hl => ?_
  intro t0 r0 f0 f1
  replace f0 := shm_1840 f0
  replace f1 := shm_5 f1
  have q3 : n_v vs 3 = n_v vs 0 := f1.symm
  simp only [q3] at f0
  have kz_0_6 := fdq_313 hD hth r0
  have kz_0_8 := fdq_314 hD hth r0
  have nf0 : fc_1 PRD (20, [0], [50, 2, 0, 6, 8, 3, 7, 7, 3, 2, 0, 6, 0, 3, 0, 3, 2, 0, 8, 0, 9999]) ws (vs) := ⟨nf_in hl rfl, sgq_1840 (vc_Sy_compileBoth_at_k1_2_0 (w_fi ws (n_v vs 0) 6) (w_fi ws (n_v vs 0) 8) f0 kz_0_6 kz_0_8)⟩
  refine ⟨(fun _ h => (by cases h)), [], trivial, ?_, (fun _ h => (by cases h))⟩
  rw [List.append_nil]
  exact List.forall_mem_cons.mpr ⟨⟨show (20 : Nat) < 100 from by decide, nf0⟩, (fun _ h => (by cases h))⟩
set_option maxHeartbeats 4000000 in
theorem vc_Sy_compileBoth_at_k1_3_0 (x11 : Int) (x12 : Int) (k11 : 9 ≤ x11 ∧ x11 ≤ 9) (k12 : 0 ≤ x12 ∧ x12 ≤ 0) : (0 ≤ x11) ∧ ((0 ≤ x12) ∧ (((x11 * 65536) + x12) ≤ 851970)) := by
  first
    | omega
  
def o_Sy_compileBoth_at_k1_3 : or_T := (46, 13, [(11, (0, 9, 9, [])), (12, (0, 0, 0, []))], [], [], [], [(20, [11, 12], [50, 0, 0, 2, 6, 0, 2, 0, 0, 1, 0, 2, 6, 0, 2, 0, 0, 1, 1, 0, 10, 4, 6, 6, 2, 1, 0, 0, 65536, 1, 1, 0, 851970])], [], [])
theorem oo_Sy_compileBoth_at_k1_3 {kA : Nat → ClassId} : or_ok PRD kA GG o_Sy_compileBoth_at_k1_3 := by
  refine or_mk fun A ta ws vs hD hth hl => ?_
  intro t11 k11 t12 k12
  have nf0 : fc_1 PRD (20, [11, 12], [50, 0, 0, 2, 6, 0, 2, 0, 0, 1, 0, 2, 6, 0, 2, 0, 0, 1, 1, 0, 10, 4, 6, 6, 2, 1, 0, 0, 65536, 1, 1, 0, 851970]) ws (vs) := ⟨nf_in hl rfl, sgq_493 (vc_Sy_compileBoth_at_k1_3_0 (v_iv (n_v vs 11)) (v_iv (n_v vs 12)) k11 k12)⟩
  refine ⟨(fun _ h => (by cases h)), [], trivial, ?_, (fun _ h => (by cases h))⟩
  rw [List.append_nil]
  exact List.forall_mem_cons.mpr ⟨⟨show (20 : Nat) < 100 from by decide, nf0⟩, (fun _ h => (by cases h))⟩
set_option maxHeartbeats 4000000 in
theorem vc_Sy_compileBoth_at_k1_4_0 (kind_0 : Int) (number_0 : Int) (f1 : (kind_0 ≠ 3) ∨ (number_0 ≤ 9999)) (kz_0_6 : 0 ≤ kind_0 ∧ kind_0 ≤ 127) (kz_0_8 : 0 ≤ number_0 ∧ number_0 ≤ 1000000) : (kind_0 ≠ 3) ∨ (number_0 ≤ 9999) := by
  first
    | omega
  
def o_Sy_compileBoth_at_k1_4 : or_T := (41, 12, [(0, (2, 0, 0, [11]))], [(24, [0, 3], []), (20, [3], [50, 2, 0, 6, 8, 3, 7, 7, 3, 2, 0, 6, 0, 3, 0, 3, 2, 0, 8, 0, 9999])], [], [], [(20, [0], [50, 2, 0, 6, 8, 3, 7, 7, 3, 2, 0, 6, 0, 3, 0, 3, 2, 0, 8, 0, 9999])], [], [])
theorem oo_Sy_compileBoth_at_k1_4 {kA : Nat → ClassId} : or_ok PRD kA GG o_Sy_compileBoth_at_k1_4 := by
  refine or_mk fun A ta ws vs hD hth hl => ?_
  intro t0 r0 f0 f1
  replace f0 := shm_5 f0
  replace f1 := shm_1840 f1
  have q3 : n_v vs 3 = n_v vs 0 := f0.symm
  simp only [q3] at f1
  have kz_0_6 := fdq_313 hD hth r0
  have kz_0_8 := fdq_314 hD hth r0
  have nf0 : fc_1 PRD (20, [0], [50, 2, 0, 6, 8, 3, 7, 7, 3, 2, 0, 6, 0, 3, 0, 3, 2, 0, 8, 0, 9999]) ws (vs) := ⟨nf_in hl rfl, sgq_1840 (vc_Sy_compileBoth_at_k1_4_0 (w_fi ws (n_v vs 0) 6) (w_fi ws (n_v vs 0) 8) f1 kz_0_6 kz_0_8)⟩
  refine ⟨(fun _ h => (by cases h)), [], trivial, ?_, (fun _ h => (by cases h))⟩
  rw [List.append_nil]
  exact List.forall_mem_cons.mpr ⟨⟨show (20 : Nat) < 100 from by decide, nf0⟩, (fun _ h => (by cases h))⟩
def n_Sy_compileBoth_at_k1_an : List an_T := [(12, [(0, (2, 0, 0, [11])), (1, (0, 1, 1, [])), (2, (0, 0, 2000, []))], [], (0, 0), [(0, 0, 99988), (1, 5, 2000), (0, 0, 100000)], [], [((0, 3), (2, 0, 0, [109]))], [(2, 0, 0, [11]), (0, 1, 1, []), (2, 0, 0, [109])], 0, [], [(20, [3], [50, 2, 0, 6, 8, 3, 7, 7, 3, 2, 0, 6, 0, 3, 0, 3, 2, 0, 8, 0, 9999]), (24, [0, 3], [])])]
def t_Sy_compileBoth_at_k1_ct : ct_L := [(1, 69, e_Sy_advance), (1, 128, e_Sy_emit), (10, 145, e_Sy_compileOne_at_k1), (70, 114, e_Sy_wordIn_at_s5010), (106, 145, e_Sy_compileOne_at_k1), (1000000, 148, en_ro [] (2, 0, 0, [5010]))]
set_option maxRecDepth 100000 in
theorem c_Sy_compileBoth_at_k1 {l : Launch} {D : va_G} {kA : Nat → ClassId} (h_Sy_advance : ct_ok PRD l D kA GG y_Sy_advance z_Sy_advance e_Sy_advance) (h_Sy_compileOne_at_k1 : ct_ok PRD l D kA GG y_Sy_compileOne_at_k1 z_Sy_compileOne_at_k1 e_Sy_compileOne_at_k1) (h_Sy_emit : ct_ok PRD l D kA GG y_Sy_emit z_Sy_emit e_Sy_emit) (h_Sy_wordIn_at_s5010 : ct_ok PRD l D kA GG y_Sy_wordIn_at_s5010 z_Sy_wordIn_at_s5010 e_Sy_wordIn_at_s5010) : ct_ok PRD l D kA GG y_Sy_compileBoth_at_k1 z_Sy_compileBoth_at_k1 e_Sy_compileBoth_at_k1 := chk_all_ok (FT := []) (PT := []) (CT := t_Sy_compileBoth_at_k1_ct) (KT := []) (NT := []) (AN := n_Sy_compileBoth_at_k1_an) (OT := [o_Sy_compileBoth_at_k1_0, o_Sy_compileBoth_at_k1_1, o_Sy_compileBoth_at_k1_2, o_Sy_compileBoth_at_k1_3, o_Sy_compileBoth_at_k1_4]) 3 200 (List.forall_mem_cons.mpr ⟨oo_Sy_compileBoth_at_k1_0, List.forall_mem_cons.mpr ⟨oo_Sy_compileBoth_at_k1_1, List.forall_mem_cons.mpr ⟨oo_Sy_compileBoth_at_k1_2, List.forall_mem_cons.mpr ⟨oo_Sy_compileBoth_at_k1_3, List.forall_mem_cons.mpr ⟨oo_Sy_compileBoth_at_k1_4, List.forall_mem_nil _⟩⟩⟩⟩⟩) (by decide +kernel) ⟨List.forall_mem_nil _, List.forall_mem_nil _, List.forall_mem_cons.mpr ⟨cl_virtual (y := y_Sy_advance) (ci := 11) rfl rfl ⟨_, _, rfl⟩ (by decide +kernel) h_Sy_advance wm_2158 wm_23 wm_2155 wm_2157 wv_10_10 ⟨by decide, by decide, by decide +kernel⟩ (by decide), List.forall_mem_cons.mpr ⟨cl_virtual (y := y_Sy_emit) (ci := 11) rfl rfl ⟨_, _, rfl⟩ (by decide +kernel) h_Sy_emit wm_2258 wm_23 wm_2255 wm_2257 wv_11_2 ⟨by decide, by decide, by decide +kernel⟩ (by decide), List.forall_mem_cons.mpr ⟨cl_virtual (y := y_Sy_compileOne_at_k1) (ci := 11) rfl rfl ⟨_, _, rfl⟩ (by decide +kernel) h_Sy_compileOne_at_k1 wm_2253 wm_23 wm_2250 wm_2252 wv_11_1 ⟨by decide, by decide, by decide +kernel⟩ (by decide), List.forall_mem_cons.mpr ⟨cl_virtual (y := y_Sy_wordIn_at_s5010) (ci := 11) rfl rfl ⟨_, _, rfl⟩ (by decide +kernel) h_Sy_wordIn_at_s5010 wm_2229 wm_23 wm_2226 wm_2228 wv_10_12 ⟨by decide, by decide, by decide +kernel⟩ (by decide), List.forall_mem_cons.mpr ⟨cl_virtual (y := y_Sy_compileOne_at_k1) (ci := 11) rfl rfl ⟨_, _, rfl⟩ (by decide +kernel) h_Sy_compileOne_at_k1 wm_2253 wm_23 wm_2250 wm_2252 wv_11_1 ⟨by decide, by decide, by decide +kernel⟩ (by decide), List.forall_mem_cons.mpr ⟨cl_ldc (own := "DrawingHouse$Styler") (idx := 148) (i := 10) (tx := "and ") (by decide +kernel) (by decide +kernel) (by decide +kernel), List.forall_mem_nil _⟩⟩⟩⟩⟩⟩, List.forall_mem_nil _, List.forall_mem_nil _, GG_pl⟩ (by decide +kernel)
def o_Sy_compileBoth_at_k10_0 : or_T := (12, 5, [], [], [], [], [(24, [0, 0], [])], [], [])
theorem oo_Sy_compileBoth_at_k10_0 {kA : Nat → ClassId} : or_ok PRD kA GG o_Sy_compileBoth_at_k10_0 := by
  refine or_mk fun A ta ws vs hD hth hl => ?_
  have nf0 : fc_1 PRD (24, [0, 0], []) ws (vs) := by
    refine ⟨nf_in hl rfl, sgq_1 ?_⟩
    · show n_v vs 0 = n_v vs 0
      first | rfl | simp only [true_and]
  refine ⟨(fun _ h => (by cases h)), [], trivial, ?_, (fun _ h => (by cases h))⟩
  rw [List.append_nil]
  exact List.forall_mem_cons.mpr ⟨⟨show (24 : Nat) < 100 from by decide, nf0⟩, (fun _ h => (by cases h))⟩
set_option maxHeartbeats 4000000 in
theorem vc_Sy_compileBoth_at_k10_1_0 (kind_0 : Int) (number_0 : Int) (f0 : (kind_0 ≠ 3) ∨ (number_0 ≤ 9999)) (kz_0_6 : 0 ≤ kind_0 ∧ kind_0 ≤ 127) (kz_0_8 : 0 ≤ number_0 ∧ number_0 ≤ 1000000) : (kind_0 ≠ 3) ∨ (number_0 ≤ 9999) := by
  first
    | omega
  
def o_Sy_compileBoth_at_k10_1 : or_T := (56, 9, [(0, (2, 0, 0, [11]))], [(20, [3], [50, 2, 0, 6, 8, 3, 7, 7, 3, 2, 0, 6, 0, 3, 0, 3, 2, 0, 8, 0, 9999]), (24, [0, 3], [])], [], [], [(20, [0], [50, 2, 0, 6, 8, 3, 7, 7, 3, 2, 0, 6, 0, 3, 0, 3, 2, 0, 8, 0, 9999])], [], [])
theorem oo_Sy_compileBoth_at_k10_1 {kA : Nat → ClassId} : or_ok PRD kA GG o_Sy_compileBoth_at_k10_1 := by
  refine or_mk fun A ta ws vs hD hth hl => ?_
  intro t0 r0 f0 f1
  replace f0 := shm_1840 f0
  replace f1 := shm_5 f1
  have q3 : n_v vs 3 = n_v vs 0 := f1.symm
  simp only [q3] at f0
  have kz_0_6 := fdq_313 hD hth r0
  have kz_0_8 := fdq_314 hD hth r0
  have nf0 : fc_1 PRD (20, [0], [50, 2, 0, 6, 8, 3, 7, 7, 3, 2, 0, 6, 0, 3, 0, 3, 2, 0, 8, 0, 9999]) ws (vs) := ⟨nf_in hl rfl, sgq_1840 (vc_Sy_compileBoth_at_k10_1_0 (w_fi ws (n_v vs 0) 6) (w_fi ws (n_v vs 0) 8) f0 kz_0_6 kz_0_8)⟩
  refine ⟨(fun _ h => (by cases h)), [], trivial, ?_, (fun _ h => (by cases h))⟩
  rw [List.append_nil]
  exact List.forall_mem_cons.mpr ⟨⟨show (20 : Nat) < 100 from by decide, nf0⟩, (fun _ h => (by cases h))⟩
set_option maxHeartbeats 4000000 in
theorem vc_Sy_compileBoth_at_k10_2_0 (kind_0 : Int) (number_0 : Int) (f0 : (kind_0 ≠ 3) ∨ (number_0 ≤ 9999)) (kz_0_6 : 0 ≤ kind_0 ∧ kind_0 ≤ 127) (kz_0_8 : 0 ≤ number_0 ∧ number_0 ≤ 1000000) : (kind_0 ≠ 3) ∨ (number_0 ≤ 9999) := by
  first
    | omega
  
def o_Sy_compileBoth_at_k10_2 : or_T := (56, 11, [(0, (2, 0, 0, [11]))], [(20, [3], [50, 2, 0, 6, 8, 3, 7, 7, 3, 2, 0, 6, 0, 3, 0, 3, 2, 0, 8, 0, 9999]), (24, [0, 3], [])], [], [], [(20, [0], [50, 2, 0, 6, 8, 3, 7, 7, 3, 2, 0, 6, 0, 3, 0, 3, 2, 0, 8, 0, 9999])], [], [])
theorem oo_Sy_compileBoth_at_k10_2 {kA : Nat → ClassId} : or_ok PRD kA GG o_Sy_compileBoth_at_k10_2 := by
  refine or_mk fun A ta ws vs hD hth hl => ?_
  intro t0 r0 f0 f1
  replace f0 := shm_1840 f0
  replace f1 := shm_5 f1
  have q3 : n_v vs 3 = n_v vs 0 := f1.symm
  simp only [q3] at f0
  have kz_0_6 := fdq_313 hD hth r0
  have kz_0_8 := fdq_314 hD hth r0
  have nf0 : fc_1 PRD (20, [0], [50, 2, 0, 6, 8, 3, 7, 7, 3, 2, 0, 6, 0, 3, 0, 3, 2, 0, 8, 0, 9999]) ws (vs) := ⟨nf_in hl rfl, sgq_1840 (vc_Sy_compileBoth_at_k10_2_0 (w_fi ws (n_v vs 0) 6) (w_fi ws (n_v vs 0) 8) f0 kz_0_6 kz_0_8)⟩
  refine ⟨(fun _ h => (by cases h)), [], trivial, ?_, (fun _ h => (by cases h))⟩
  rw [List.append_nil]
  exact List.forall_mem_cons.mpr ⟨⟨show (20 : Nat) < 100 from by decide, nf0⟩, (fun _ h => (by cases h))⟩
set_option maxHeartbeats 4000000 in
theorem vc_Sy_compileBoth_at_k10_3_0 (x11 : Int) (x12 : Int) (k11 : 9 ≤ x11 ∧ x11 ≤ 9) (k12 : 0 ≤ x12 ∧ x12 ≤ 0) : (0 ≤ x11) ∧ ((0 ≤ x12) ∧ (((x11 * 65536) + x12) ≤ 851970)) := by
  first
    | omega
  
def o_Sy_compileBoth_at_k10_3 : or_T := (46, 13, [(11, (0, 9, 9, [])), (12, (0, 0, 0, []))], [], [], [], [(20, [11, 12], [50, 0, 0, 2, 6, 0, 2, 0, 0, 1, 0, 2, 6, 0, 2, 0, 0, 1, 1, 0, 10, 4, 6, 6, 2, 1, 0, 0, 65536, 1, 1, 0, 851970])], [], [])
theorem oo_Sy_compileBoth_at_k10_3 {kA : Nat → ClassId} : or_ok PRD kA GG o_Sy_compileBoth_at_k10_3 := by
  refine or_mk fun A ta ws vs hD hth hl => ?_
  intro t11 k11 t12 k12
  have nf0 : fc_1 PRD (20, [11, 12], [50, 0, 0, 2, 6, 0, 2, 0, 0, 1, 0, 2, 6, 0, 2, 0, 0, 1, 1, 0, 10, 4, 6, 6, 2, 1, 0, 0, 65536, 1, 1, 0, 851970]) ws (vs) := ⟨nf_in hl rfl, sgq_493 (vc_Sy_compileBoth_at_k10_3_0 (v_iv (n_v vs 11)) (v_iv (n_v vs 12)) k11 k12)⟩
  refine ⟨(fun _ h => (by cases h)), [], trivial, ?_, (fun _ h => (by cases h))⟩
  rw [List.append_nil]
  exact List.forall_mem_cons.mpr ⟨⟨show (20 : Nat) < 100 from by decide, nf0⟩, (fun _ h => (by cases h))⟩
set_option maxHeartbeats 4000000 in
theorem vc_Sy_compileBoth_at_k10_4_0 (kind_0 : Int) (number_0 : Int) (f1 : (kind_0 ≠ 3) ∨ (number_0 ≤ 9999)) (kz_0_6 : 0 ≤ kind_0 ∧ kind_0 ≤ 127) (kz_0_8 : 0 ≤ number_0 ∧ number_0 ≤ 1000000) : (kind_0 ≠ 3) ∨ (number_0 ≤ 9999) := by
  first
    | omega
  
def o_Sy_compileBoth_at_k10_4 : or_T := (41, 12, [(0, (2, 0, 0, [11]))], [(24, [0, 3], []), (20, [3], [50, 2, 0, 6, 8, 3, 7, 7, 3, 2, 0, 6, 0, 3, 0, 3, 2, 0, 8, 0, 9999])], [], [], [(20, [0], [50, 2, 0, 6, 8, 3, 7, 7, 3, 2, 0, 6, 0, 3, 0, 3, 2, 0, 8, 0, 9999])], [], [])
theorem oo_Sy_compileBoth_at_k10_4 {kA : Nat → ClassId} : or_ok PRD kA GG o_Sy_compileBoth_at_k10_4 := by
  refine or_mk fun A ta ws vs hD hth hl => ?_
  intro t0 r0 f0 f1
  replace f0 := shm_5 f0
  replace f1 := shm_1840 f1
  have q3 : n_v vs 3 = n_v vs 0 := f0.symm
  simp only [q3] at f1
  have kz_0_6 := fdq_313 hD hth r0
  have kz_0_8 := fdq_314 hD hth r0
  have nf0 : fc_1 PRD (20, [0], [50, 2, 0, 6, 8, 3, 7, 7, 3, 2, 0, 6, 0, 3, 0, 3, 2, 0, 8, 0, 9999]) ws (vs) := ⟨nf_in hl rfl, sgq_1840 (vc_Sy_compileBoth_at_k10_4_0 (w_fi ws (n_v vs 0) 6) (w_fi ws (n_v vs 0) 8) f1 kz_0_6 kz_0_8)⟩
  refine ⟨(fun _ h => (by cases h)), [], trivial, ?_, (fun _ h => (by cases h))⟩
  rw [List.append_nil]
  exact List.forall_mem_cons.mpr ⟨⟨show (20 : Nat) < 100 from by decide, nf0⟩, (fun _ h => (by cases h))⟩
def n_Sy_compileBoth_at_k10_an : List an_T := [(12, [(0, (2, 0, 0, [11])), (1, (0, 10, 10, [])), (2, (0, 0, 2000, []))], [], (0, 0), [(0, 0, 99988), (1, 5, 2000), (0, 0, 100000)], [], [((0, 3), (2, 0, 0, [109]))], [(2, 0, 0, [11]), (0, 10, 10, []), (2, 0, 0, [109])], 0, [], [(20, [3], [50, 2, 0, 6, 8, 3, 7, 7, 3, 2, 0, 6, 0, 3, 0, 3, 2, 0, 8, 0, 9999]), (24, [0, 3], [])])]
def t_Sy_compileBoth_at_k10_ct : ct_L := [(1, 69, e_Sy_advance), (1, 128, e_Sy_emit), (10, 145, e_Sy_compileOne_at_k10), (70, 114, e_Sy_wordIn_at_s5010), (106, 145, e_Sy_compileOne_at_k10), (1000000, 148, en_ro [] (2, 0, 0, [5010]))]
set_option maxRecDepth 100000 in
theorem c_Sy_compileBoth_at_k10 {l : Launch} {D : va_G} {kA : Nat → ClassId} (h_Sy_advance : ct_ok PRD l D kA GG y_Sy_advance z_Sy_advance e_Sy_advance) (h_Sy_compileOne_at_k10 : ct_ok PRD l D kA GG y_Sy_compileOne_at_k10 z_Sy_compileOne_at_k10 e_Sy_compileOne_at_k10) (h_Sy_emit : ct_ok PRD l D kA GG y_Sy_emit z_Sy_emit e_Sy_emit) (h_Sy_wordIn_at_s5010 : ct_ok PRD l D kA GG y_Sy_wordIn_at_s5010 z_Sy_wordIn_at_s5010 e_Sy_wordIn_at_s5010) : ct_ok PRD l D kA GG y_Sy_compileBoth_at_k10 z_Sy_compileBoth_at_k10 e_Sy_compileBoth_at_k10 := chk_all_ok (FT := []) (PT := []) (CT := t_Sy_compileBoth_at_k10_ct) (KT := []) (NT := []) (AN := n_Sy_compileBoth_at_k10_an) (OT := [o_Sy_compileBoth_at_k10_0, o_Sy_compileBoth_at_k10_1, o_Sy_compileBoth_at_k10_2, o_Sy_compileBoth_at_k10_3, o_Sy_compileBoth_at_k10_4]) 3 200 (List.forall_mem_cons.mpr ⟨oo_Sy_compileBoth_at_k10_0, List.forall_mem_cons.mpr ⟨oo_Sy_compileBoth_at_k10_1, List.forall_mem_cons.mpr ⟨oo_Sy_compileBoth_at_k10_2, List.forall_mem_cons.mpr ⟨oo_Sy_compileBoth_at_k10_3, List.forall_mem_cons.mpr ⟨oo_Sy_compileBoth_at_k10_4, List.forall_mem_nil _⟩⟩⟩⟩⟩) (by decide +kernel) ⟨List.forall_mem_nil _, List.forall_mem_nil _, List.forall_mem_cons.mpr ⟨cl_virtual (y := y_Sy_advance) (ci := 11) rfl rfl ⟨_, _, rfl⟩ (by decide +kernel) h_Sy_advance wm_2158 wm_23 wm_2155 wm_2157 wv_10_10 ⟨by decide, by decide, by decide +kernel⟩ (by decide), List.forall_mem_cons.mpr ⟨cl_virtual (y := y_Sy_emit) (ci := 11) rfl rfl ⟨_, _, rfl⟩ (by decide +kernel) h_Sy_emit wm_2258 wm_23 wm_2255 wm_2257 wv_11_2 ⟨by decide, by decide, by decide +kernel⟩ (by decide), List.forall_mem_cons.mpr ⟨cl_virtual (y := y_Sy_compileOne_at_k10) (ci := 11) rfl rfl ⟨_, _, rfl⟩ (by decide +kernel) h_Sy_compileOne_at_k10 wm_2253 wm_23 wm_2250 wm_2252 wv_11_1 ⟨by decide, by decide, by decide +kernel⟩ (by decide), List.forall_mem_cons.mpr ⟨cl_virtual (y := y_Sy_wordIn_at_s5010) (ci := 11) rfl rfl ⟨_, _, rfl⟩ (by decide +kernel) h_Sy_wordIn_at_s5010 wm_2229 wm_23 wm_2226 wm_2228 wv_10_12 ⟨by decide, by decide, by decide +kernel⟩ (by decide), List.forall_mem_cons.mpr ⟨cl_virtual (y := y_Sy_compileOne_at_k10) (ci := 11) rfl rfl ⟨_, _, rfl⟩ (by decide +kernel) h_Sy_compileOne_at_k10 wm_2253 wm_23 wm_2250 wm_2252 wv_11_1 ⟨by decide, by decide, by decide +kernel⟩ (by decide), List.forall_mem_cons.mpr ⟨cl_ldc (own := "DrawingHouse$Styler") (idx := 148) (i := 10) (tx := "and ") (by decide +kernel) (by decide +kernel) (by decide +kernel), List.forall_mem_nil _⟩⟩⟩⟩⟩⟩, List.forall_mem_nil _, List.forall_mem_nil _, GG_pl⟩ (by decide +kernel)
def o_Sy_compileBoth_at_k11_0 : or_T := (12, 5, [], [], [], [], [(24, [0, 0], [])], [], [])
theorem oo_Sy_compileBoth_at_k11_0 {kA : Nat → ClassId} : or_ok PRD kA GG o_Sy_compileBoth_at_k11_0 := by
  refine or_mk fun A ta ws vs hD hth hl => ?_
  have nf0 : fc_1 PRD (24, [0, 0], []) ws (vs) := by
    refine ⟨nf_in hl rfl, sgq_1 ?_⟩
    · show n_v vs 0 = n_v vs 0
      first | rfl | simp only [true_and]
  refine ⟨(fun _ h => (by cases h)), [], trivial, ?_, (fun _ h => (by cases h))⟩
  rw [List.append_nil]
  exact List.forall_mem_cons.mpr ⟨⟨show (24 : Nat) < 100 from by decide, nf0⟩, (fun _ h => (by cases h))⟩
set_option maxHeartbeats 4000000 in
theorem vc_Sy_compileBoth_at_k11_1_0 (kind_0 : Int) (number_0 : Int) (f0 : (kind_0 ≠ 3) ∨ (number_0 ≤ 9999)) (kz_0_6 : 0 ≤ kind_0 ∧ kind_0 ≤ 127) (kz_0_8 : 0 ≤ number_0 ∧ number_0 ≤ 1000000) : (kind_0 ≠ 3) ∨ (number_0 ≤ 9999) := by
  first
    | omega
  
def o_Sy_compileBoth_at_k11_1 : or_T := (56, 9, [(0, (2, 0, 0, [11]))], [(20, [3], [50, 2, 0, 6, 8, 3, 7, 7, 3, 2, 0, 6, 0, 3, 0, 3, 2, 0, 8, 0, 9999]), (24, [0, 3], [])], [], [], [(20, [0], [50, 2, 0, 6, 8, 3, 7, 7, 3, 2, 0, 6, 0, 3, 0, 3, 2, 0, 8, 0, 9999])], [], [])
theorem oo_Sy_compileBoth_at_k11_1 {kA : Nat → ClassId} : or_ok PRD kA GG o_Sy_compileBoth_at_k11_1 := by
  refine or_mk fun A ta ws vs hD hth hl => ?_
  intro t0 r0 f0 f1
  replace f0 := shm_1840 f0
  replace f1 := shm_5 f1
  have q3 : n_v vs 3 = n_v vs 0 := f1.symm
  simp only [q3] at f0
  have kz_0_6 := fdq_313 hD hth r0
  have kz_0_8 := fdq_314 hD hth r0
  have nf0 : fc_1 PRD (20, [0], [50, 2, 0, 6, 8, 3, 7, 7, 3, 2, 0, 6, 0, 3, 0, 3, 2, 0, 8, 0, 9999]) ws (vs) := ⟨nf_in hl rfl, sgq_1840 (vc_Sy_compileBoth_at_k11_1_0 (w_fi ws (n_v vs 0) 6) (w_fi ws (n_v vs 0) 8) f0 kz_0_6 kz_0_8)⟩
  refine ⟨(fun _ h => (by cases h)), [], trivial, ?_, (fun _ h => (by cases h))⟩
  rw [List.append_nil]
  exact List.forall_mem_cons.mpr ⟨⟨show (20 : Nat) < 100 from by decide, nf0⟩, (fun _ h => (by cases h))⟩
set_option maxHeartbeats 4000000 in
theorem vc_Sy_compileBoth_at_k11_2_0 (kind_0 : Int) (number_0 : Int) (f0 : (kind_0 ≠ 3) ∨ (number_0 ≤ 9999)) (kz_0_6 : 0 ≤ kind_0 ∧ kind_0 ≤ 127) (kz_0_8 : 0 ≤ number_0 ∧ number_0 ≤ 1000000) : (kind_0 ≠ 3) ∨ (number_0 ≤ 9999) := by
  first
    | omega
  
def o_Sy_compileBoth_at_k11_2 : or_T := (56, 11, [(0, (2, 0, 0, [11]))], [(20, [3], [50, 2, 0, 6, 8, 3, 7, 7, 3, 2, 0, 6, 0, 3, 0, 3, 2, 0, 8, 0, 9999]), (24, [0, 3], [])], [], [], [(20, [0], [50, 2, 0, 6, 8, 3, 7, 7, 3, 2, 0, 6, 0, 3, 0, 3, 2, 0, 8, 0, 9999])], [], [])
theorem oo_Sy_compileBoth_at_k11_2 {kA : Nat → ClassId} : or_ok PRD kA GG o_Sy_compileBoth_at_k11_2 := by
  refine or_mk fun A ta ws vs hD hth hl => ?_
  intro t0 r0 f0 f1
  replace f0 := shm_1840 f0
  replace f1 := shm_5 f1
  have q3 : n_v vs 3 = n_v vs 0 := f1.symm
  simp only [q3] at f0
  have kz_0_6 := fdq_313 hD hth r0
  have kz_0_8 := fdq_314 hD hth r0
  have nf0 : fc_1 PRD (20, [0], [50, 2, 0, 6, 8, 3, 7, 7, 3, 2, 0, 6, 0, 3, 0, 3, 2, 0, 8, 0, 9999]) ws (vs) := ⟨nf_in hl rfl, sgq_1840 (vc_Sy_compileBoth_at_k11_2_0 (w_fi ws (n_v vs 0) 6) (w_fi ws (n_v vs 0) 8) f0 kz_0_6 kz_0_8)⟩
  refine ⟨(fun _ h => (by cases h)), [], trivial, ?_, (fun _ h => (by cases h))⟩
  rw [List.append_nil]
  exact List.forall_mem_cons.mpr ⟨⟨show (20 : Nat) < 100 from by decide, nf0⟩, (fun _ h => (by cases h))⟩
set_option maxHeartbeats 4000000 in
theorem vc_Sy_compileBoth_at_k11_3_0 (x11 : Int) (x12 : Int) (k11 : 9 ≤ x11 ∧ x11 ≤ 9) (k12 : 0 ≤ x12 ∧ x12 ≤ 0) : (0 ≤ x11) ∧ ((0 ≤ x12) ∧ (((x11 * 65536) + x12) ≤ 851970)) := by
  first
    | omega
  
def o_Sy_compileBoth_at_k11_3 : or_T := (46, 13, [(11, (0, 9, 9, [])), (12, (0, 0, 0, []))], [], [], [], [(20, [11, 12], [50, 0, 0, 2, 6, 0, 2, 0, 0, 1, 0, 2, 6, 0, 2, 0, 0, 1, 1, 0, 10, 4, 6, 6, 2, 1, 0, 0, 65536, 1, 1, 0, 851970])], [], [])
theorem oo_Sy_compileBoth_at_k11_3 {kA : Nat → ClassId} : or_ok PRD kA GG o_Sy_compileBoth_at_k11_3 := by
  refine or_mk fun A ta ws vs hD hth hl => ?_
  intro t11 k11 t12 k12
  have nf0 : fc_1 PRD (20, [11, 12], [50, 0, 0, 2, 6, 0, 2, 0, 0, 1, 0, 2, 6, 0, 2, 0, 0, 1, 1, 0, 10, 4, 6, 6, 2, 1, 0, 0, 65536, 1, 1, 0, 851970]) ws (vs) := ⟨nf_in hl rfl, sgq_493 (vc_Sy_compileBoth_at_k11_3_0 (v_iv (n_v vs 11)) (v_iv (n_v vs 12)) k11 k12)⟩
  refine ⟨(fun _ h => (by cases h)), [], trivial, ?_, (fun _ h => (by cases h))⟩
  rw [List.append_nil]
  exact List.forall_mem_cons.mpr ⟨⟨show (20 : Nat) < 100 from by decide, nf0⟩, (fun _ h => (by cases h))⟩
set_option maxHeartbeats 4000000 in
theorem vc_Sy_compileBoth_at_k11_4_0 (kind_0 : Int) (number_0 : Int) (f1 : (kind_0 ≠ 3) ∨ (number_0 ≤ 9999)) (kz_0_6 : 0 ≤ kind_0 ∧ kind_0 ≤ 127) (kz_0_8 : 0 ≤ number_0 ∧ number_0 ≤ 1000000) : (kind_0 ≠ 3) ∨ (number_0 ≤ 9999) := by
  first
    | omega
  
def o_Sy_compileBoth_at_k11_4 : or_T := (41, 12, [(0, (2, 0, 0, [11]))], [(24, [0, 3], []), (20, [3], [50, 2, 0, 6, 8, 3, 7, 7, 3, 2, 0, 6, 0, 3, 0, 3, 2, 0, 8, 0, 9999])], [], [], [(20, [0], [50, 2, 0, 6, 8, 3, 7, 7, 3, 2, 0, 6, 0, 3, 0, 3, 2, 0, 8, 0, 9999])], [], [])
theorem oo_Sy_compileBoth_at_k11_4 {kA : Nat → ClassId} : or_ok PRD kA GG o_Sy_compileBoth_at_k11_4 := by
  refine or_mk fun A ta ws vs hD hth hl => ?_
  intro t0 r0 f0 f1
  replace f0 := shm_5 f0
  replace f1 := shm_1840 f1
  have q3 : n_v vs 3 = n_v vs 0 := f0.symm
  simp only [q3] at f1
  have kz_0_6 := fdq_313 hD hth r0
  have kz_0_8 := fdq_314 hD hth r0
  have nf0 : fc_1 PRD (20, [0], [50, 2, 0, 6, 8, 3, 7, 7, 3, 2, 0, 6, 0, 3, 0, 3, 2, 0, 8, 0, 9999]) ws (vs) := ⟨nf_in hl rfl, sgq_1840 (vc_Sy_compileBoth_at_k11_4_0 (w_fi ws (n_v vs 0) 6) (w_fi ws (n_v vs 0) 8) f1 kz_0_6 kz_0_8)⟩
  refine ⟨(fun _ h => (by cases h)), [], trivial, ?_, (fun _ h => (by cases h))⟩
  rw [List.append_nil]
  exact List.forall_mem_cons.mpr ⟨⟨show (20 : Nat) < 100 from by decide, nf0⟩, (fun _ h => (by cases h))⟩
def n_Sy_compileBoth_at_k11_an : List an_T := [(12, [(0, (2, 0, 0, [11])), (1, (0, 11, 11, [])), (2, (0, 0, 2000, []))], [], (0, 0), [(0, 0, 99988), (1, 5, 2000), (0, 0, 100000)], [], [((0, 3), (2, 0, 0, [109]))], [(2, 0, 0, [11]), (0, 11, 11, []), (2, 0, 0, [109])], 0, [], [(20, [3], [50, 2, 0, 6, 8, 3, 7, 7, 3, 2, 0, 6, 0, 3, 0, 3, 2, 0, 8, 0, 9999]), (24, [0, 3], [])])]
def t_Sy_compileBoth_at_k11_ct : ct_L := [(1, 69, e_Sy_advance), (1, 128, e_Sy_emit), (10, 145, e_Sy_compileOne_at_k11), (70, 114, e_Sy_wordIn_at_s5010), (106, 145, e_Sy_compileOne_at_k11), (1000000, 148, en_ro [] (2, 0, 0, [5010]))]
set_option maxRecDepth 100000 in
theorem c_Sy_compileBoth_at_k11 {l : Launch} {D : va_G} {kA : Nat → ClassId} (h_Sy_advance : ct_ok PRD l D kA GG y_Sy_advance z_Sy_advance e_Sy_advance) (h_Sy_compileOne_at_k11 : ct_ok PRD l D kA GG y_Sy_compileOne_at_k11 z_Sy_compileOne_at_k11 e_Sy_compileOne_at_k11) (h_Sy_emit : ct_ok PRD l D kA GG y_Sy_emit z_Sy_emit e_Sy_emit) (h_Sy_wordIn_at_s5010 : ct_ok PRD l D kA GG y_Sy_wordIn_at_s5010 z_Sy_wordIn_at_s5010 e_Sy_wordIn_at_s5010) : ct_ok PRD l D kA GG y_Sy_compileBoth_at_k11 z_Sy_compileBoth_at_k11 e_Sy_compileBoth_at_k11 := chk_all_ok (FT := []) (PT := []) (CT := t_Sy_compileBoth_at_k11_ct) (KT := []) (NT := []) (AN := n_Sy_compileBoth_at_k11_an) (OT := [o_Sy_compileBoth_at_k11_0, o_Sy_compileBoth_at_k11_1, o_Sy_compileBoth_at_k11_2, o_Sy_compileBoth_at_k11_3, o_Sy_compileBoth_at_k11_4]) 3 200 (List.forall_mem_cons.mpr ⟨oo_Sy_compileBoth_at_k11_0, List.forall_mem_cons.mpr ⟨oo_Sy_compileBoth_at_k11_1, List.forall_mem_cons.mpr ⟨oo_Sy_compileBoth_at_k11_2, List.forall_mem_cons.mpr ⟨oo_Sy_compileBoth_at_k11_3, List.forall_mem_cons.mpr ⟨oo_Sy_compileBoth_at_k11_4, List.forall_mem_nil _⟩⟩⟩⟩⟩) (by decide +kernel) ⟨List.forall_mem_nil _, List.forall_mem_nil _, List.forall_mem_cons.mpr ⟨cl_virtual (y := y_Sy_advance) (ci := 11) rfl rfl ⟨_, _, rfl⟩ (by decide +kernel) h_Sy_advance wm_2158 wm_23 wm_2155 wm_2157 wv_10_10 ⟨by decide, by decide, by decide +kernel⟩ (by decide), List.forall_mem_cons.mpr ⟨cl_virtual (y := y_Sy_emit) (ci := 11) rfl rfl ⟨_, _, rfl⟩ (by decide +kernel) h_Sy_emit wm_2258 wm_23 wm_2255 wm_2257 wv_11_2 ⟨by decide, by decide, by decide +kernel⟩ (by decide), List.forall_mem_cons.mpr ⟨cl_virtual (y := y_Sy_compileOne_at_k11) (ci := 11) rfl rfl ⟨_, _, rfl⟩ (by decide +kernel) h_Sy_compileOne_at_k11 wm_2253 wm_23 wm_2250 wm_2252 wv_11_1 ⟨by decide, by decide, by decide +kernel⟩ (by decide), List.forall_mem_cons.mpr ⟨cl_virtual (y := y_Sy_wordIn_at_s5010) (ci := 11) rfl rfl ⟨_, _, rfl⟩ (by decide +kernel) h_Sy_wordIn_at_s5010 wm_2229 wm_23 wm_2226 wm_2228 wv_10_12 ⟨by decide, by decide, by decide +kernel⟩ (by decide), List.forall_mem_cons.mpr ⟨cl_virtual (y := y_Sy_compileOne_at_k11) (ci := 11) rfl rfl ⟨_, _, rfl⟩ (by decide +kernel) h_Sy_compileOne_at_k11 wm_2253 wm_23 wm_2250 wm_2252 wv_11_1 ⟨by decide, by decide, by decide +kernel⟩ (by decide), List.forall_mem_cons.mpr ⟨cl_ldc (own := "DrawingHouse$Styler") (idx := 148) (i := 10) (tx := "and ") (by decide +kernel) (by decide +kernel) (by decide +kernel), List.forall_mem_nil _⟩⟩⟩⟩⟩⟩, List.forall_mem_nil _, List.forall_mem_nil _, GG_pl⟩ (by decide +kernel)
def o_Sy_compileBoth_at_k12_0 : or_T := (12, 5, [], [], [], [], [(24, [0, 0], [])], [], [])
theorem oo_Sy_compileBoth_at_k12_0 {kA : Nat → ClassId} : or_ok PRD kA GG o_Sy_compileBoth_at_k12_0 := by
  refine or_mk fun A ta ws vs hD hth hl => ?_
  have nf0 : fc_1 PRD (24, [0, 0], []) ws (vs) := by
    refine ⟨nf_in hl rfl, sgq_1 ?_⟩
    · show n_v vs 0 = n_v vs 0
      first | rfl | simp only [true_and]
  refine ⟨(fun _ h => (by cases h)), [], trivial, ?_, (fun _ h => (by cases h))⟩
  rw [List.append_nil]
  exact List.forall_mem_cons.mpr ⟨⟨show (24 : Nat) < 100 from by decide, nf0⟩, (fun _ h => (by cases h))⟩
set_option maxHeartbeats 4000000 in
theorem vc_Sy_compileBoth_at_k12_1_0 (kind_0 : Int) (number_0 : Int) (f0 : (kind_0 ≠ 3) ∨ (number_0 ≤ 9999)) (kz_0_6 : 0 ≤ kind_0 ∧ kind_0 ≤ 127) (kz_0_8 : 0 ≤ number_0 ∧ number_0 ≤ 1000000) : (kind_0 ≠ 3) ∨ (number_0 ≤ 9999) := by
  first
    | omega
  
def o_Sy_compileBoth_at_k12_1 : or_T := (56, 9, [(0, (2, 0, 0, [11]))], [(20, [3], [50, 2, 0, 6, 8, 3, 7, 7, 3, 2, 0, 6, 0, 3, 0, 3, 2, 0, 8, 0, 9999]), (24, [0, 3], [])], [], [], [(20, [0], [50, 2, 0, 6, 8, 3, 7, 7, 3, 2, 0, 6, 0, 3, 0, 3, 2, 0, 8, 0, 9999])], [], [])
theorem oo_Sy_compileBoth_at_k12_1 {kA : Nat → ClassId} : or_ok PRD kA GG o_Sy_compileBoth_at_k12_1 := by
  refine or_mk fun A ta ws vs hD hth hl => ?_
  intro t0 r0 f0 f1
  replace f0 := shm_1840 f0
  replace f1 := shm_5 f1
  have q3 : n_v vs 3 = n_v vs 0 := f1.symm
  simp only [q3] at f0
  have kz_0_6 := fdq_313 hD hth r0
  have kz_0_8 := fdq_314 hD hth r0
  have nf0 : fc_1 PRD (20, [0], [50, 2, 0, 6, 8, 3, 7, 7, 3, 2, 0, 6, 0, 3, 0, 3, 2, 0, 8, 0, 9999]) ws (vs) := ⟨nf_in hl rfl, sgq_1840 (vc_Sy_compileBoth_at_k12_1_0 (w_fi ws (n_v vs 0) 6) (w_fi ws (n_v vs 0) 8) f0 kz_0_6 kz_0_8)⟩
  refine ⟨(fun _ h => (by cases h)), [], trivial, ?_, (fun _ h => (by cases h))⟩
  rw [List.append_nil]
  exact List.forall_mem_cons.mpr ⟨⟨show (20 : Nat) < 100 from by decide, nf0⟩, (fun _ h => (by cases h))⟩
set_option maxHeartbeats 4000000 in
theorem vc_Sy_compileBoth_at_k12_2_0 (kind_0 : Int) (number_0 : Int) (f0 : (kind_0 ≠ 3) ∨ (number_0 ≤ 9999)) (kz_0_6 : 0 ≤ kind_0 ∧ kind_0 ≤ 127) (kz_0_8 : 0 ≤ number_0 ∧ number_0 ≤ 1000000) : (kind_0 ≠ 3) ∨ (number_0 ≤ 9999) := by
  first
    | omega
  
def o_Sy_compileBoth_at_k12_2 : or_T := (56, 11, [(0, (2, 0, 0, [11]))], [(20, [3], [50, 2, 0, 6, 8, 3, 7, 7, 3, 2, 0, 6, 0, 3, 0, 3, 2, 0, 8, 0, 9999]), (24, [0, 3], [])], [], [], [(20, [0], [50, 2, 0, 6, 8, 3, 7, 7, 3, 2, 0, 6, 0, 3, 0, 3, 2, 0, 8, 0, 9999])], [], [])
theorem oo_Sy_compileBoth_at_k12_2 {kA : Nat → ClassId} : or_ok PRD kA GG o_Sy_compileBoth_at_k12_2 := by
  refine or_mk fun A ta ws vs hD hth hl => ?_
  intro t0 r0 f0 f1
  replace f0 := shm_1840 f0
  replace f1 := shm_5 f1
  have q3 : n_v vs 3 = n_v vs 0 := f1.symm
  simp only [q3] at f0
  have kz_0_6 := fdq_313 hD hth r0
  have kz_0_8 := fdq_314 hD hth r0
  have nf0 : fc_1 PRD (20, [0], [50, 2, 0, 6, 8, 3, 7, 7, 3, 2, 0, 6, 0, 3, 0, 3, 2, 0, 8, 0, 9999]) ws (vs) := ⟨nf_in hl rfl, sgq_1840 (vc_Sy_compileBoth_at_k12_2_0 (w_fi ws (n_v vs 0) 6) (w_fi ws (n_v vs 0) 8) f0 kz_0_6 kz_0_8)⟩
  refine ⟨(fun _ h => (by cases h)), [], trivial, ?_, (fun _ h => (by cases h))⟩
  rw [List.append_nil]
  exact List.forall_mem_cons.mpr ⟨⟨show (20 : Nat) < 100 from by decide, nf0⟩, (fun _ h => (by cases h))⟩
set_option maxHeartbeats 4000000 in
theorem vc_Sy_compileBoth_at_k12_3_0 (x11 : Int) (x12 : Int) (k11 : 9 ≤ x11 ∧ x11 ≤ 9) (k12 : 0 ≤ x12 ∧ x12 ≤ 0) : (0 ≤ x11) ∧ ((0 ≤ x12) ∧ (((x11 * 65536) + x12) ≤ 851970)) := by
  first
    | omega
  
def o_Sy_compileBoth_at_k12_3 : or_T := (46, 13, [(11, (0, 9, 9, [])), (12, (0, 0, 0, []))], [], [], [], [(20, [11, 12], [50, 0, 0, 2, 6, 0, 2, 0, 0, 1, 0, 2, 6, 0, 2, 0, 0, 1, 1, 0, 10, 4, 6, 6, 2, 1, 0, 0, 65536, 1, 1, 0, 851970])], [], [])
theorem oo_Sy_compileBoth_at_k12_3 {kA : Nat → ClassId} : or_ok PRD kA GG o_Sy_compileBoth_at_k12_3 := by
  refine or_mk fun A ta ws vs hD hth hl => ?_
  intro t11 k11 t12 k12
  have nf0 : fc_1 PRD (20, [11, 12], [50, 0, 0, 2, 6, 0, 2, 0, 0, 1, 0, 2, 6, 0, 2, 0, 0, 1, 1, 0, 10, 4, 6, 6, 2, 1, 0, 0, 65536, 1, 1, 0, 851970]) ws (vs) := ⟨nf_in hl rfl, sgq_493 (vc_Sy_compileBoth_at_k12_3_0 (v_iv (n_v vs 11)) (v_iv (n_v vs 12)) k11 k12)⟩
  refine ⟨(fun _ h => (by cases h)), [], trivial, ?_, (fun _ h => (by cases h))⟩
  rw [List.append_nil]
  exact List.forall_mem_cons.mpr ⟨⟨show (20 : Nat) < 100 from by decide, nf0⟩, (fun _ h => (by cases h))⟩
set_option maxHeartbeats 4000000 in
theorem vc_Sy_compileBoth_at_k12_4_0 (kind_0 : Int) (number_0 : Int) (f1 : (kind_0 ≠ 3) ∨ (number_0 ≤ 9999)) (kz_0_6 : 0 ≤ kind_0 ∧ kind_0 ≤ 127) (kz_0_8 : 0 ≤ number_0 ∧ number_0 ≤ 1000000) : (kind_0 ≠ 3) ∨ (number_0 ≤ 9999) := by
  first
    | omega
  
def o_Sy_compileBoth_at_k12_4 : or_T := (41, 12, [(0, (2, 0, 0, [11]))], [(24, [0, 3], []), (20, [3], [50, 2, 0, 6, 8, 3, 7, 7, 3, 2, 0, 6, 0, 3, 0, 3, 2, 0, 8, 0, 9999])], [], [], [(20, [0], [50, 2, 0, 6, 8, 3, 7, 7, 3, 2, 0, 6, 0, 3, 0, 3, 2, 0, 8, 0, 9999])], [], [])
theorem oo_Sy_compileBoth_at_k12_4 {kA : Nat → ClassId} : or_ok PRD kA GG o_Sy_compileBoth_at_k12_4 := by
  refine or_mk fun A ta ws vs hD hth hl => ?_
  intro t0 r0 f0 f1
  replace f0 := shm_5 f0
  replace f1 := shm_1840 f1
  have q3 : n_v vs 3 = n_v vs 0 := f0.symm
  simp only [q3] at f1
  have kz_0_6 := fdq_313 hD hth r0
  have kz_0_8 := fdq_314 hD hth r0
  have nf0 : fc_1 PRD (20, [0], [50, 2, 0, 6, 8, 3, 7, 7, 3, 2, 0, 6, 0, 3, 0, 3, 2, 0, 8, 0, 9999]) ws (vs) := ⟨nf_in hl rfl, sgq_1840 (vc_Sy_compileBoth_at_k12_4_0 (w_fi ws (n_v vs 0) 6) (w_fi ws (n_v vs 0) 8) f1 kz_0_6 kz_0_8)⟩
  refine ⟨(fun _ h => (by cases h)), [], trivial, ?_, (fun _ h => (by cases h))⟩
  rw [List.append_nil]
  exact List.forall_mem_cons.mpr ⟨⟨show (20 : Nat) < 100 from by decide, nf0⟩, (fun _ h => (by cases h))⟩
def n_Sy_compileBoth_at_k12_an : List an_T := [(12, [(0, (2, 0, 0, [11])), (1, (0, 12, 12, [])), (2, (0, 0, 2000, []))], [], (0, 0), [(0, 0, 99988), (1, 5, 2000), (0, 0, 100000)], [], [((0, 3), (2, 0, 0, [109]))], [(2, 0, 0, [11]), (0, 12, 12, []), (2, 0, 0, [109])], 0, [], [(20, [3], [50, 2, 0, 6, 8, 3, 7, 7, 3, 2, 0, 6, 0, 3, 0, 3, 2, 0, 8, 0, 9999]), (24, [0, 3], [])])]
def t_Sy_compileBoth_at_k12_ct : ct_L := [(1, 69, e_Sy_advance), (1, 128, e_Sy_emit), (10, 145, e_Sy_compileOne_at_k12), (70, 114, e_Sy_wordIn_at_s5010), (106, 145, e_Sy_compileOne_at_k12), (1000000, 148, en_ro [] (2, 0, 0, [5010]))]
set_option maxRecDepth 100000 in
theorem c_Sy_compileBoth_at_k12 {l : Launch} {D : va_G} {kA : Nat → ClassId} (h_Sy_advance : ct_ok PRD l D kA GG y_Sy_advance z_Sy_advance e_Sy_advance) (h_Sy_compileOne_at_k12 : ct_ok PRD l D kA GG y_Sy_compileOne_at_k12 z_Sy_compileOne_at_k12 e_Sy_compileOne_at_k12) (h_Sy_emit : ct_ok PRD l D kA GG y_Sy_emit z_Sy_emit e_Sy_emit) (h_Sy_wordIn_at_s5010 : ct_ok PRD l D kA GG y_Sy_wordIn_at_s5010 z_Sy_wordIn_at_s5010 e_Sy_wordIn_at_s5010) : ct_ok PRD l D kA GG y_Sy_compileBoth_at_k12 z_Sy_compileBoth_at_k12 e_Sy_compileBoth_at_k12 := chk_all_ok (FT := []) (PT := []) (CT := t_Sy_compileBoth_at_k12_ct) (KT := []) (NT := []) (AN := n_Sy_compileBoth_at_k12_an) (OT := [o_Sy_compileBoth_at_k12_0, o_Sy_compileBoth_at_k12_1, o_Sy_compileBoth_at_k12_2, o_Sy_compileBoth_at_k12_3, o_Sy_compileBoth_at_k12_4]) 3 200 (List.forall_mem_cons.mpr ⟨oo_Sy_compileBoth_at_k12_0, List.forall_mem_cons.mpr ⟨oo_Sy_compileBoth_at_k12_1, List.forall_mem_cons.mpr ⟨oo_Sy_compileBoth_at_k12_2, List.forall_mem_cons.mpr ⟨oo_Sy_compileBoth_at_k12_3, List.forall_mem_cons.mpr ⟨oo_Sy_compileBoth_at_k12_4, List.forall_mem_nil _⟩⟩⟩⟩⟩) (by decide +kernel) ⟨List.forall_mem_nil _, List.forall_mem_nil _, List.forall_mem_cons.mpr ⟨cl_virtual (y := y_Sy_advance) (ci := 11) rfl rfl ⟨_, _, rfl⟩ (by decide +kernel) h_Sy_advance wm_2158 wm_23 wm_2155 wm_2157 wv_10_10 ⟨by decide, by decide, by decide +kernel⟩ (by decide), List.forall_mem_cons.mpr ⟨cl_virtual (y := y_Sy_emit) (ci := 11) rfl rfl ⟨_, _, rfl⟩ (by decide +kernel) h_Sy_emit wm_2258 wm_23 wm_2255 wm_2257 wv_11_2 ⟨by decide, by decide, by decide +kernel⟩ (by decide), List.forall_mem_cons.mpr ⟨cl_virtual (y := y_Sy_compileOne_at_k12) (ci := 11) rfl rfl ⟨_, _, rfl⟩ (by decide +kernel) h_Sy_compileOne_at_k12 wm_2253 wm_23 wm_2250 wm_2252 wv_11_1 ⟨by decide, by decide, by decide +kernel⟩ (by decide), List.forall_mem_cons.mpr ⟨cl_virtual (y := y_Sy_wordIn_at_s5010) (ci := 11) rfl rfl ⟨_, _, rfl⟩ (by decide +kernel) h_Sy_wordIn_at_s5010 wm_2229 wm_23 wm_2226 wm_2228 wv_10_12 ⟨by decide, by decide, by decide +kernel⟩ (by decide), List.forall_mem_cons.mpr ⟨cl_virtual (y := y_Sy_compileOne_at_k12) (ci := 11) rfl rfl ⟨_, _, rfl⟩ (by decide +kernel) h_Sy_compileOne_at_k12 wm_2253 wm_23 wm_2250 wm_2252 wv_11_1 ⟨by decide, by decide, by decide +kernel⟩ (by decide), List.forall_mem_cons.mpr ⟨cl_ldc (own := "DrawingHouse$Styler") (idx := 148) (i := 10) (tx := "and ") (by decide +kernel) (by decide +kernel) (by decide +kernel), List.forall_mem_nil _⟩⟩⟩⟩⟩⟩, List.forall_mem_nil _, List.forall_mem_nil _, GG_pl⟩ (by decide +kernel)
def o_Sy_compileBoth_at_k2_0 : or_T := (12, 5, [], [], [], [], [(24, [0, 0], [])], [], [])
theorem oo_Sy_compileBoth_at_k2_0 {kA : Nat → ClassId} : or_ok PRD kA GG o_Sy_compileBoth_at_k2_0 := by
  refine or_mk fun A ta ws vs hD hth hl => ?_
  have nf0 : fc_1 PRD (24, [0, 0], []) ws (vs) := by
    refine ⟨nf_in hl rfl, sgq_1 ?_⟩
    · show n_v vs 0 = n_v vs 0
      first | rfl | simp only [true_and]
  refine ⟨(fun _ h => (by cases h)), [], trivial, ?_, (fun _ h => (by cases h))⟩
  rw [List.append_nil]
  exact List.forall_mem_cons.mpr ⟨⟨show (24 : Nat) < 100 from by decide, nf0⟩, (fun _ h => (by cases h))⟩
set_option maxHeartbeats 4000000 in
theorem vc_Sy_compileBoth_at_k2_1_0 (kind_0 : Int) (number_0 : Int) (f0 : (kind_0 ≠ 3) ∨ (number_0 ≤ 9999)) (kz_0_6 : 0 ≤ kind_0 ∧ kind_0 ≤ 127) (kz_0_8 : 0 ≤ number_0 ∧ number_0 ≤ 1000000) : (kind_0 ≠ 3) ∨ (number_0 ≤ 9999) := by
  first
    | omega
  
def o_Sy_compileBoth_at_k2_1 : or_T := (56, 9, [(0, (2, 0, 0, [11]))], [(20, [3], [50, 2, 0, 6, 8, 3, 7, 7, 3, 2, 0, 6, 0, 3, 0, 3, 2, 0, 8, 0, 9999]), (24, [0, 3], [])], [], [], [(20, [0], [50, 2, 0, 6, 8, 3, 7, 7, 3, 2, 0, 6, 0, 3, 0, 3, 2, 0, 8, 0, 9999])], [], [])
theorem oo_Sy_compileBoth_at_k2_1 {kA : Nat → ClassId} : or_ok PRD kA GG o_Sy_compileBoth_at_k2_1 := by
  refine or_mk fun A ta ws vs hD hth hl => ?_
  intro t0 r0 f0 f1
  replace f0 := shm_1840 f0
  replace f1 := shm_5 f1
  have q3 : n_v vs 3 = n_v vs 0 := f1.symm
  simp only [q3] at f0
  have kz_0_6 := fdq_313 hD hth r0
  have kz_0_8 := fdq_314 hD hth r0
  have nf0 : fc_1 PRD (20, [0], [50, 2, 0, 6, 8, 3, 7, 7, 3, 2, 0, 6, 0, 3, 0, 3, 2, 0, 8, 0, 9999]) ws (vs) := ⟨nf_in hl rfl, sgq_1840 (vc_Sy_compileBoth_at_k2_1_0 (w_fi ws (n_v vs 0) 6) (w_fi ws (n_v vs 0) 8) f0 kz_0_6 kz_0_8)⟩
  refine ⟨(fun _ h => (by cases h)), [], trivial, ?_, (fun _ h => (by cases h))⟩
  rw [List.append_nil]
  exact List.forall_mem_cons.mpr ⟨⟨show (20 : Nat) < 100 from by decide, nf0⟩, (fun _ h => (by cases h))⟩
set_option maxHeartbeats 4000000 in
theorem vc_Sy_compileBoth_at_k2_2_0 (kind_0 : Int) (number_0 : Int) (f0 : (kind_0 ≠ 3) ∨ (number_0 ≤ 9999)) (kz_0_6 : 0 ≤ kind_0 ∧ kind_0 ≤ 127) (kz_0_8 : 0 ≤ number_0 ∧ number_0 ≤ 1000000) : (kind_0 ≠ 3) ∨ (number_0 ≤ 9999) := by
  first
    | omega
  
def o_Sy_compileBoth_at_k2_2 : or_T := (56, 11, [(0, (2, 0, 0, [11]))], [(20, [3], [50, 2, 0, 6, 8, 3, 7, 7, 3, 2, 0, 6, 0, 3, 0, 3, 2, 0, 8, 0, 9999]), (24, [0, 3], [])], [], [], [(20, [0], [50, 2, 0, 6, 8, 3, 7, 7, 3, 2, 0, 6, 0, 3, 0, 3, 2, 0, 8, 0, 9999])], [], [])
theorem oo_Sy_compileBoth_at_k2_2 {kA : Nat → ClassId} : or_ok PRD kA GG o_Sy_compileBoth_at_k2_2 := by
  refine or_mk fun A ta ws vs hD hth hl => ?_
  intro t0 r0 f0 f1
  replace f0 := shm_1840 f0
  replace f1 := shm_5 f1
  have q3 : n_v vs 3 = n_v vs 0 := f1.symm
  simp only [q3] at f0
  have kz_0_6 := fdq_313 hD hth r0
  have kz_0_8 := fdq_314 hD hth r0
  have nf0 : fc_1 PRD (20, [0], [50, 2, 0, 6, 8, 3, 7, 7, 3, 2, 0, 6, 0, 3, 0, 3, 2, 0, 8, 0, 9999]) ws (vs) := ⟨nf_in hl rfl, sgq_1840 (vc_Sy_compileBoth_at_k2_2_0 (w_fi ws (n_v vs 0) 6) (w_fi ws (n_v vs 0) 8) f0 kz_0_6 kz_0_8)⟩
  refine ⟨(fun _ h => (by cases h)), [], trivial, ?_, (fun _ h => (by cases h))⟩
  rw [List.append_nil]
  exact List.forall_mem_cons.mpr ⟨⟨show (20 : Nat) < 100 from by decide, nf0⟩, (fun _ h => (by cases h))⟩
set_option maxHeartbeats 4000000 in
theorem vc_Sy_compileBoth_at_k2_3_0 (x11 : Int) (x12 : Int) (k11 : 9 ≤ x11 ∧ x11 ≤ 9) (k12 : 0 ≤ x12 ∧ x12 ≤ 0) : (0 ≤ x11) ∧ ((0 ≤ x12) ∧ (((x11 * 65536) + x12) ≤ 851970)) := by
  first
    | omega
  
def o_Sy_compileBoth_at_k2_3 : or_T := (46, 13, [(11, (0, 9, 9, [])), (12, (0, 0, 0, []))], [], [], [], [(20, [11, 12], [50, 0, 0, 2, 6, 0, 2, 0, 0, 1, 0, 2, 6, 0, 2, 0, 0, 1, 1, 0, 10, 4, 6, 6, 2, 1, 0, 0, 65536, 1, 1, 0, 851970])], [], [])
theorem oo_Sy_compileBoth_at_k2_3 {kA : Nat → ClassId} : or_ok PRD kA GG o_Sy_compileBoth_at_k2_3 := by
  refine or_mk fun A ta ws vs hD hth hl => ?_
  intro t11 k11 t12 k12
  have nf0 : fc_1 PRD (20, [11, 12], [50, 0, 0, 2, 6, 0, 2, 0, 0, 1, 0, 2, 6, 0, 2, 0, 0, 1, 1, 0, 10, 4, 6, 6, 2, 1, 0, 0, 65536, 1, 1, 0, 851970]) ws (vs) := ⟨nf_in hl rfl, sgq_493 (vc_Sy_compileBoth_at_k2_3_0 (v_iv (n_v vs 11)) (v_iv (n_v vs 12)) k11 k12)⟩
  refine ⟨(fun _ h => (by cases h)), [], trivial, ?_, (fun _ h => (by cases h))⟩
  rw [List.append_nil]
  exact List.forall_mem_cons.mpr ⟨⟨show (20 : Nat) < 100 from by decide, nf0⟩, (fun _ h => (by cases h))⟩
set_option maxHeartbeats 4000000 in
theorem vc_Sy_compileBoth_at_k2_4_0 (kind_0 : Int) (number_0 : Int) (f1 : (kind_0 ≠ 3) ∨ (number_0 ≤ 9999)) (kz_0_6 : 0 ≤ kind_0 ∧ kind_0 ≤ 127) (kz_0_8 : 0 ≤ number_0 ∧ number_0 ≤ 1000000) : (kind_0 ≠ 3) ∨ (number_0 ≤ 9999) := by
  first
    | omega
  
def o_Sy_compileBoth_at_k2_4 : or_T := (41, 12, [(0, (2, 0, 0, [11]))], [(24, [0, 3], []), (20, [3], [50, 2, 0, 6, 8, 3, 7, 7, 3, 2, 0, 6, 0, 3, 0, 3, 2, 0, 8, 0, 9999])], [], [], [(20, [0], [50, 2, 0, 6, 8, 3, 7, 7, 3, 2, 0, 6, 0, 3, 0, 3, 2, 0, 8, 0, 9999])], [], [])
theorem oo_Sy_compileBoth_at_k2_4 {kA : Nat → ClassId} : or_ok PRD kA GG o_Sy_compileBoth_at_k2_4 := by
  refine or_mk fun A ta ws vs hD hth hl => ?_
  intro t0 r0 f0 f1
  replace f0 := shm_5 f0
  replace f1 := shm_1840 f1
  have q3 : n_v vs 3 = n_v vs 0 := f0.symm
  simp only [q3] at f1
  have kz_0_6 := fdq_313 hD hth r0
  have kz_0_8 := fdq_314 hD hth r0
  have nf0 : fc_1 PRD (20, [0], [50, 2, 0, 6, 8, 3, 7, 7, 3, 2, 0, 6, 0, 3, 0, 3, 2, 0, 8, 0, 9999]) ws (vs) := ⟨nf_in hl rfl, sgq_1840 (vc_Sy_compileBoth_at_k2_4_0 (w_fi ws (n_v vs 0) 6) (w_fi ws (n_v vs 0) 8) f1 kz_0_6 kz_0_8)⟩
  refine ⟨(fun _ h => (by cases h)), [], trivial, ?_, (fun _ h => (by cases h))⟩
  rw [List.append_nil]
  exact List.forall_mem_cons.mpr ⟨⟨show (20 : Nat) < 100 from by decide, nf0⟩, (fun _ h => (by cases h))⟩
def n_Sy_compileBoth_at_k2_an : List an_T := [(12, [(0, (2, 0, 0, [11])), (1, (0, 2, 2, [])), (2, (0, 0, 2000, []))], [], (0, 0), [(0, 0, 99988), (1, 5, 2000), (0, 0, 100000)], [], [((0, 3), (2, 0, 0, [109]))], [(2, 0, 0, [11]), (0, 2, 2, []), (2, 0, 0, [109])], 0, [], [(20, [3], [50, 2, 0, 6, 8, 3, 7, 7, 3, 2, 0, 6, 0, 3, 0, 3, 2, 0, 8, 0, 9999]), (24, [0, 3], [])])]
def t_Sy_compileBoth_at_k2_ct : ct_L := [(1, 69, e_Sy_advance), (1, 128, e_Sy_emit), (10, 145, e_Sy_compileOne_at_k2), (70, 114, e_Sy_wordIn_at_s5010), (106, 145, e_Sy_compileOne_at_k2), (1000000, 148, en_ro [] (2, 0, 0, [5010]))]
set_option maxRecDepth 100000 in
theorem c_Sy_compileBoth_at_k2 {l : Launch} {D : va_G} {kA : Nat → ClassId} (h_Sy_advance : ct_ok PRD l D kA GG y_Sy_advance z_Sy_advance e_Sy_advance) (h_Sy_compileOne_at_k2 : ct_ok PRD l D kA GG y_Sy_compileOne_at_k2 z_Sy_compileOne_at_k2 e_Sy_compileOne_at_k2) (h_Sy_emit : ct_ok PRD l D kA GG y_Sy_emit z_Sy_emit e_Sy_emit) (h_Sy_wordIn_at_s5010 : ct_ok PRD l D kA GG y_Sy_wordIn_at_s5010 z_Sy_wordIn_at_s5010 e_Sy_wordIn_at_s5010) : ct_ok PRD l D kA GG y_Sy_compileBoth_at_k2 z_Sy_compileBoth_at_k2 e_Sy_compileBoth_at_k2 := chk_all_ok (FT := []) (PT := []) (CT := t_Sy_compileBoth_at_k2_ct) (KT := []) (NT := []) (AN := n_Sy_compileBoth_at_k2_an) (OT := [o_Sy_compileBoth_at_k2_0, o_Sy_compileBoth_at_k2_1, o_Sy_compileBoth_at_k2_2, o_Sy_compileBoth_at_k2_3, o_Sy_compileBoth_at_k2_4]) 3 200 (List.forall_mem_cons.mpr ⟨oo_Sy_compileBoth_at_k2_0, List.forall_mem_cons.mpr ⟨oo_Sy_compileBoth_at_k2_1, List.forall_mem_cons.mpr ⟨oo_Sy_compileBoth_at_k2_2, List.forall_mem_cons.mpr ⟨oo_Sy_compileBoth_at_k2_3, List.forall_mem_cons.mpr ⟨oo_Sy_compileBoth_at_k2_4, List.forall_mem_nil _⟩⟩⟩⟩⟩) (by decide +kernel) ⟨List.forall_mem_nil _, List.forall_mem_nil _, List.forall_mem_cons.mpr ⟨cl_virtual (y := y_Sy_advance) (ci := 11) rfl rfl ⟨_, _, rfl⟩ (by decide +kernel) h_Sy_advance wm_2158 wm_23 wm_2155 wm_2157 wv_10_10 ⟨by decide, by decide, by decide +kernel⟩ (by decide), List.forall_mem_cons.mpr ⟨cl_virtual (y := y_Sy_emit) (ci := 11) rfl rfl ⟨_, _, rfl⟩ (by decide +kernel) h_Sy_emit wm_2258 wm_23 wm_2255 wm_2257 wv_11_2 ⟨by decide, by decide, by decide +kernel⟩ (by decide), List.forall_mem_cons.mpr ⟨cl_virtual (y := y_Sy_compileOne_at_k2) (ci := 11) rfl rfl ⟨_, _, rfl⟩ (by decide +kernel) h_Sy_compileOne_at_k2 wm_2253 wm_23 wm_2250 wm_2252 wv_11_1 ⟨by decide, by decide, by decide +kernel⟩ (by decide), List.forall_mem_cons.mpr ⟨cl_virtual (y := y_Sy_wordIn_at_s5010) (ci := 11) rfl rfl ⟨_, _, rfl⟩ (by decide +kernel) h_Sy_wordIn_at_s5010 wm_2229 wm_23 wm_2226 wm_2228 wv_10_12 ⟨by decide, by decide, by decide +kernel⟩ (by decide), List.forall_mem_cons.mpr ⟨cl_virtual (y := y_Sy_compileOne_at_k2) (ci := 11) rfl rfl ⟨_, _, rfl⟩ (by decide +kernel) h_Sy_compileOne_at_k2 wm_2253 wm_23 wm_2250 wm_2252 wv_11_1 ⟨by decide, by decide, by decide +kernel⟩ (by decide), List.forall_mem_cons.mpr ⟨cl_ldc (own := "DrawingHouse$Styler") (idx := 148) (i := 10) (tx := "and ") (by decide +kernel) (by decide +kernel) (by decide +kernel), List.forall_mem_nil _⟩⟩⟩⟩⟩⟩, List.forall_mem_nil _, List.forall_mem_nil _, GG_pl⟩ (by decide +kernel)

def o_Sy_compileBoth_at_k3_0 : or_T := (12, 5, [], [], [], [], [(24, [0, 0], [])], [], [])
theorem oo_Sy_compileBoth_at_k3_0 {kA : Nat → ClassId} : or_ok PRD kA GG o_Sy_compileBoth_at_k3_0 := by
  refine or_mk fun A ta ws vs hD hth hl => ?_
  have nf0 : fc_1 PRD (24, [0, 0], []) ws (vs) := by
    refine ⟨nf_in hl rfl, sgq_1 ?_⟩
    · show n_v vs 0 = n_v vs 0
      first | rfl | simp only [true_and]
  refine ⟨(fun _ h => (by cases h)), [], trivial, ?_, (fun _ h => (by cases h))⟩
  rw [List.append_nil]
  exact List.forall_mem_cons.mpr ⟨⟨show (24 : Nat) < 100 from by decide, nf0⟩, (fun _ h => (by cases h))⟩
set_option maxHeartbeats 4000000 in
theorem vc_Sy_compileBoth_at_k3_1_0 (kind_0 : Int) (number_0 : Int) (f0 : (kind_0 ≠ 3) ∨ (number_0 ≤ 9999)) (kz_0_6 : 0 ≤ kind_0 ∧ kind_0 ≤ 127) (kz_0_8 : 0 ≤ number_0 ∧ number_0 ≤ 1000000) : (kind_0 ≠ 3) ∨ (number_0 ≤ 9999) := by
  first
    | omega
  
def o_Sy_compileBoth_at_k3_1 : or_T := (56, 9, [(0, (2, 0, 0, [11]))], [(20, [3], [50, 2, 0, 6, 8, 3, 7, 7, 3, 2, 0, 6, 0, 3, 0, 3, 2, 0, 8, 0, 9999]), (24, [0, 3], [])], [], [], [(20, [0], [50, 2, 0, 6, 8, 3, 7, 7, 3, 2, 0, 6, 0, 3, 0, 3, 2, 0, 8, 0, 9999])], [], [])
theorem oo_Sy_compileBoth_at_k3_1 {kA : Nat → ClassId} : or_ok PRD kA GG o_Sy_compileBoth_at_k3_1 := by
  refine or_mk fun A ta ws vs hD hth hl => ?_
  intro t0 r0 f0 f1
  replace f0 := shm_1840 f0
  replace f1 := shm_5 f1
  have q3 : n_v vs 3 = n_v vs 0 := f1.symm
  simp only [q3] at f0
  have kz_0_6 := fdq_313 hD hth r0
  have kz_0_8 := fdq_314 hD hth r0
  have nf0 : fc_1 PRD (20, [0], [50, 2, 0, 6, 8, 3, 7, 7, 3, 2, 0, 6, 0, 3, 0, 3, 2, 0, 8, 0, 9999]) ws (vs) := ⟨nf_in hl rfl, sgq_1840 (vc_Sy_compileBoth_at_k3_1_0 (w_fi ws (n_v vs 0) 6) (w_fi ws (n_v vs 0) 8) f0 kz_0_6 kz_0_8)⟩
  refine ⟨(fun _ h => (by cases h)), [], trivial, ?_, (fun _ h => (by cases h))⟩
  rw [List.append_nil]
  exact List.forall_mem_cons.mpr ⟨⟨show (20 : Nat) < 100 from by decide, nf0⟩, (fun _ h => (by cases h))⟩
set_option maxHeartbeats 4000000 in
theorem vc_Sy_compileBoth_at_k3_2_0 (kind_0 : Int) (number_0 : Int) (f0 : (kind_0 ≠ 3) ∨ (number_0 ≤ 9999)) (kz_0_6 : 0 ≤ kind_0 ∧ kind_0 ≤ 127) (kz_0_8 : 0 ≤ number_0 ∧ number_0 ≤ 1000000) : (kind_0 ≠ 3) ∨ (number_0 ≤ 9999) := by
  first
    | omega
  
def o_Sy_compileBoth_at_k3_2 : or_T := (56, 11, [(0, (2, 0, 0, [11]))], [(20, [3], [50, 2, 0, 6, 8, 3, 7, 7, 3, 2, 0, 6, 0, 3, 0, 3, 2, 0, 8, 0, 9999]), (24, [0, 3], [])], [], [], [(20, [0], [50, 2, 0, 6, 8, 3, 7, 7, 3, 2, 0, 6, 0, 3, 0, 3, 2, 0, 8, 0, 9999])], [], [])
theorem oo_Sy_compileBoth_at_k3_2 {kA : Nat → ClassId} : or_ok PRD kA GG o_Sy_compileBoth_at_k3_2 := by
  refine or_mk fun A ta ws vs hD hth hl => ?_
  intro t0 r0 f0 f1
  replace f0 := shm_1840 f0
  replace f1 := shm_5 f1
  have q3 : n_v vs 3 = n_v vs 0 := f1.symm
  simp only [q3] at f0
  have kz_0_6 := fdq_313 hD hth r0
  have kz_0_8 := fdq_314 hD hth r0
  have nf0 : fc_1 PRD (20, [0], [50, 2, 0, 6, 8, 3, 7, 7, 3, 2, 0, 6, 0, 3, 0, 3, 2, 0, 8, 0, 9999]) ws (vs) := ⟨nf_in hl rfl, sgq_1840 (vc_Sy_compileBoth_at_k3_2_0 (w_fi ws (n_v vs 0) 6) (w_fi ws (n_v vs 0) 8) f0 kz_0_6 kz_0_8)⟩
  refine ⟨(fun _ h => (by cases h)), [], trivial, ?_, (fun _ h => (by cases h))⟩
  rw [List.append_nil]
  exact List.forall_mem_cons.mpr ⟨⟨show (20 : Nat) < 100 from by decide, nf0⟩, (fun _ h => (by cases h))⟩
set_option maxHeartbeats 4000000 in
theorem vc_Sy_compileBoth_at_k3_3_0 (x11 : Int) (x12 : Int) (k11 : 9 ≤ x11 ∧ x11 ≤ 9) (k12 : 0 ≤ x12 ∧ x12 ≤ 0) : (0 ≤ x11) ∧ ((0 ≤ x12) ∧ (((x11 * 65536) + x12) ≤ 851970)) := by
  first
    | omega
  
def o_Sy_compileBoth_at_k3_3 : or_T := (46, 13, [(11, (0, 9, 9, [])), (12, (0, 0, 0, []))], [], [], [], [(20, [11, 12], [50, 0, 0, 2, 6, 0, 2, 0, 0, 1, 0, 2, 6, 0, 2, 0, 0, 1, 1, 0, 10, 4, 6, 6, 2, 1, 0, 0, 65536, 1, 1, 0, 851970])], [], [])
theorem oo_Sy_compileBoth_at_k3_3 {kA : Nat → ClassId} : or_ok PRD kA GG o_Sy_compileBoth_at_k3_3 := by
  refine or_mk fun A ta ws vs hD hth hl => ?_
  intro t11 k11 t12 k12
  have nf0 : fc_1 PRD (20, [11, 12], [50, 0, 0, 2, 6, 0, 2, 0, 0, 1, 0, 2, 6, 0, 2, 0, 0, 1, 1, 0, 10, 4, 6, 6, 2, 1, 0, 0, 65536, 1, 1, 0, 851970]) ws (vs) := ⟨nf_in hl rfl, sgq_493 (vc_Sy_compileBoth_at_k3_3_0 (v_iv (n_v vs 11)) (v_iv (n_v vs 12)) k11 k12)⟩
  refine ⟨(fun _ h => (by cases h)), [], trivial, ?_, (fun _ h => (by cases h))⟩
  rw [List.append_nil]
  exact List.forall_mem_cons.mpr ⟨⟨show (20 : Nat) < 100 from by decide, nf0⟩, (fun _ h => (by cases h))⟩
set_option maxHeartbeats 4000000 in
theorem vc_Sy_compileBoth_at_k3_4_0 (kind_0 : Int) (number_0 : Int) (f1 : (kind_0 ≠ 3) ∨ (number_0 ≤ 9999)) (kz_0_6 : 0 ≤ kind_0 ∧ kind_0 ≤ 127) (kz_0_8 : 0 ≤ number_0 ∧ number_0 ≤ 1000000) : (kind_0 ≠ 3) ∨ (number_0 ≤ 9999) := by
  first
    | omega
  
def o_Sy_compileBoth_at_k3_4 : or_T := (41, 12, [(0, (2, 0, 0, [11]))], [(24, [0, 3], []), (20, [3], [50, 2, 0, 6, 8, 3, 7, 7, 3, 2, 0, 6, 0, 3, 0, 3, 2, 0, 8, 0, 9999])], [], [], [(20, [0], [50, 2, 0, 6, 8, 3, 7, 7, 3, 2, 0, 6, 0, 3, 0, 3, 2, 0, 8, 0, 9999])], [], [])
theorem oo_Sy_compileBoth_at_k3_4 {kA : Nat → ClassId} : or_ok PRD kA GG o_Sy_compileBoth_at_k3_4 := by
  refine or_mk fun A ta ws vs hD hth hl => ?_
  intro t0 r0 f0 f1
  replace f0 := shm_5 f0
  replace f1 := shm_1840 f1
  have q3 : n_v vs 3 = n_v vs 0 := f0.symm
  simp only [q3] at f1
  have kz_0_6 := fdq_313 hD hth r0
  have kz_0_8 := fdq_314 hD hth r0
  have nf0 : fc_1 PRD (20, [0], [50, 2, 0, 6, 8, 3, 7, 7, 3, 2, 0, 6, 0, 3, 0, 3, 2, 0, 8, 0, 9999]) ws (vs) := ⟨nf_in hl rfl, sgq_1840 (vc_Sy_compileBoth_at_k3_4_0 (w_fi ws (n_v vs 0) 6) (w_fi ws (n_v vs 0) 8) f1 kz_0_6 kz_0_8)⟩
  refine ⟨(fun _ h => (by cases h)), [], trivial, ?_, (fun _ h => (by cases h))⟩
  rw [List.append_nil]
  exact List.forall_mem_cons.mpr ⟨⟨show (20 : Nat) < 100 from by decide, nf0⟩, (fun _ h => (by cases h))⟩
def n_Sy_compileBoth_at_k3_an : List an_T := [(12, [(0, (2, 0, 0, [11])), (1, (0, 3, 3, [])), (2, (0, 0, 2000, []))], [], (0, 0), [(0, 0, 99988), (1, 5, 2000), (0, 0, 100000)], [], [((0, 3), (2, 0, 0, [109]))], [(2, 0, 0, [11]), (0, 3, 3, []), (2, 0, 0, [109])], 0, [], [(20, [3], [50, 2, 0, 6, 8, 3, 7, 7, 3, 2, 0, 6, 0, 3, 0, 3, 2, 0, 8, 0, 9999]), (24, [0, 3], [])])]
def t_Sy_compileBoth_at_k3_ct : ct_L := [(1, 69, e_Sy_advance), (1, 128, e_Sy_emit), (10, 145, e_Sy_compileOne_at_k3), (70, 114, e_Sy_wordIn_at_s5010), (106, 145, e_Sy_compileOne_at_k3), (1000000, 148, en_ro [] (2, 0, 0, [5010]))]
set_option maxRecDepth 100000 in
theorem c_Sy_compileBoth_at_k3 {l : Launch} {D : va_G} {kA : Nat → ClassId} (h_Sy_advance : ct_ok PRD l D kA GG y_Sy_advance z_Sy_advance e_Sy_advance) (h_Sy_compileOne_at_k3 : ct_ok PRD l D kA GG y_Sy_compileOne_at_k3 z_Sy_compileOne_at_k3 e_Sy_compileOne_at_k3) (h_Sy_emit : ct_ok PRD l D kA GG y_Sy_emit z_Sy_emit e_Sy_emit) (h_Sy_wordIn_at_s5010 : ct_ok PRD l D kA GG y_Sy_wordIn_at_s5010 z_Sy_wordIn_at_s5010 e_Sy_wordIn_at_s5010) : ct_ok PRD l D kA GG y_Sy_compileBoth_at_k3 z_Sy_compileBoth_at_k3 e_Sy_compileBoth_at_k3 := chk_all_ok (FT := []) (PT := []) (CT := t_Sy_compileBoth_at_k3_ct) (KT := []) (NT := []) (AN := n_Sy_compileBoth_at_k3_an) (OT := [o_Sy_compileBoth_at_k3_0, o_Sy_compileBoth_at_k3_1, o_Sy_compileBoth_at_k3_2, o_Sy_compileBoth_at_k3_3, o_Sy_compileBoth_at_k3_4]) 3 200 (List.forall_mem_cons.mpr ⟨oo_Sy_compileBoth_at_k3_0, List.forall_mem_cons.mpr ⟨oo_Sy_compileBoth_at_k3_1, List.forall_mem_cons.mpr ⟨oo_Sy_compileBoth_at_k3_2, List.forall_mem_cons.mpr ⟨oo_Sy_compileBoth_at_k3_3, List.forall_mem_cons.mpr ⟨oo_Sy_compileBoth_at_k3_4, List.forall_mem_nil _⟩⟩⟩⟩⟩) (by decide +kernel) ⟨List.forall_mem_nil _, List.forall_mem_nil _, List.forall_mem_cons.mpr ⟨cl_virtual (y := y_Sy_advance) (ci := 11) rfl rfl ⟨_, _, rfl⟩ (by decide +kernel) h_Sy_advance wm_2158 wm_23 wm_2155 wm_2157 wv_10_10 ⟨by decide, by decide, by decide +kernel⟩ (by decide), List.forall_mem_cons.mpr ⟨cl_virtual (y := y_Sy_emit) (ci := 11) rfl rfl ⟨_, _, rfl⟩ (by decide +kernel) h_Sy_emit wm_2258 wm_23 wm_2255 wm_2257 wv_11_2 ⟨by decide, by decide, by decide +kernel⟩ (by decide), List.forall_mem_cons.mpr ⟨cl_virtual (y := y_Sy_compileOne_at_k3) (ci := 11) rfl rfl ⟨_, _, rfl⟩ (by decide +kernel) h_Sy_compileOne_at_k3 wm_2253 wm_23 wm_2250 wm_2252 wv_11_1 ⟨by decide, by decide, by decide +kernel⟩ (by decide), List.forall_mem_cons.mpr ⟨cl_virtual (y := y_Sy_wordIn_at_s5010) (ci := 11) rfl rfl ⟨_, _, rfl⟩ (by decide +kernel) h_Sy_wordIn_at_s5010 wm_2229 wm_23 wm_2226 wm_2228 wv_10_12 ⟨by decide, by decide, by decide +kernel⟩ (by decide), List.forall_mem_cons.mpr ⟨cl_virtual (y := y_Sy_compileOne_at_k3) (ci := 11) rfl rfl ⟨_, _, rfl⟩ (by decide +kernel) h_Sy_compileOne_at_k3 wm_2253 wm_23 wm_2250 wm_2252 wv_11_1 ⟨by decide, by decide, by decide +kernel⟩ (by decide), List.forall_mem_cons.mpr ⟨cl_ldc (own := "DrawingHouse$Styler") (idx := 148) (i := 10) (tx := "and ") (by decide +kernel) (by decide +kernel) (by decide +kernel), List.forall_mem_nil _⟩⟩⟩⟩⟩⟩, List.forall_mem_nil _, List.forall_mem_nil _, GG_pl⟩ (by decide +kernel)
def o_Sy_compileBoth_at_k4_0 : or_T := (12, 5, [], [], [], [], [(24, [0, 0], [])], [], [])
theorem oo_Sy_compileBoth_at_k4_0 {kA : Nat → ClassId} : or_ok PRD kA GG o_Sy_compileBoth_at_k4_0 := by
  refine or_mk fun A ta ws vs hD hth hl => ?_
  have nf0 : fc_1 PRD (24, [0, 0], []) ws (vs) := by
    refine ⟨nf_in hl rfl, sgq_1 ?_⟩
    · show n_v vs 0 = n_v vs 0
      first | rfl | simp only [true_and]
  refine ⟨(fun _ h => (by cases h)), [], trivial, ?_, (fun _ h => (by cases h))⟩
  rw [List.append_nil]
  exact List.forall_mem_cons.mpr ⟨⟨show (24 : Nat) < 100 from by decide, nf0⟩, (fun _ h => (by cases h))⟩
set_option maxHeartbeats 4000000 in
theorem vc_Sy_compileBoth_at_k4_1_0 (kind_0 : Int) (number_0 : Int) (f0 : (kind_0 ≠ 3) ∨ (number_0 ≤ 9999)) (kz_0_6 : 0 ≤ kind_0 ∧ kind_0 ≤ 127) (kz_0_8 : 0 ≤ number_0 ∧ number_0 ≤ 1000000) : (kind_0 ≠ 3) ∨ (number_0 ≤ 9999) := by
  first
    | omega
  
def o_Sy_compileBoth_at_k4_1 : or_T := (56, 9, [(0, (2, 0, 0, [11]))], [(20, [3], [50, 2, 0, 6, 8, 3, 7, 7, 3, 2, 0, 6, 0, 3, 0, 3, 2, 0, 8, 0, 9999]), (24, [0, 3], [])], [], [], [(20, [0], [50, 2, 0, 6, 8, 3, 7, 7, 3, 2, 0, 6, 0, 3, 0, 3, 2, 0, 8, 0, 9999])], [], [])
theorem oo_Sy_compileBoth_at_k4_1 {kA : Nat → ClassId} : or_ok PRD kA GG o_Sy_compileBoth_at_k4_1 := by
  refine or_mk fun A ta ws vs hD hth hl => ?_
  intro t0 r0 f0 f1
  replace f0 := shm_1840 f0
  replace f1 := shm_5 f1
  have q3 : n_v vs 3 = n_v vs 0 := f1.symm
  simp only [q3] at f0
  have kz_0_6 := fdq_313 hD hth r0
  have kz_0_8 := fdq_314 hD hth r0
  have nf0 : fc_1 PRD (20, [0], [50, 2, 0, 6, 8, 3, 7, 7, 3, 2, 0, 6, 0, 3, 0, 3, 2, 0, 8, 0, 9999]) ws (vs) := ⟨nf_in hl rfl, sgq_1840 (vc_Sy_compileBoth_at_k4_1_0 (w_fi ws (n_v vs 0) 6) (w_fi ws (n_v vs 0) 8) f0 kz_0_6 kz_0_8)⟩
  refine ⟨(fun _ h => (by cases h)), [], trivial, ?_, (fun _ h => (by cases h))⟩
  rw [List.append_nil]
  exact List.forall_mem_cons.mpr ⟨⟨show (20 : Nat) < 100 from by decide, nf0⟩, (fun _ h => (by cases h))⟩
set_option maxHeartbeats 4000000 in
theorem vc_Sy_compileBoth_at_k4_2_0 (kind_0 : Int) (number_0 : Int) (f0 : (kind_0 ≠ 3) ∨ (number_0 ≤ 9999)) (kz_0_6 : 0 ≤ kind_0 ∧ kind_0 ≤ 127) (kz_0_8 : 0 ≤ number_0 ∧ number_0 ≤ 1000000) : (kind_0 ≠ 3) ∨ (number_0 ≤ 9999) := by
  first
    | omega
  
def o_Sy_compileBoth_at_k4_2 : or_T := (56, 11, [(0, (2, 0, 0, [11]))], [(20, [3], [50, 2, 0, 6, 8, 3, 7, 7, 3, 2, 0, 6, 0, 3, 0, 3, 2, 0, 8, 0, 9999]), (24, [0, 3], [])], [], [], [(20, [0], [50, 2, 0, 6, 8, 3, 7, 7, 3, 2, 0, 6, 0, 3, 0, 3, 2, 0, 8, 0, 9999])], [], [])
theorem oo_Sy_compileBoth_at_k4_2 {kA : Nat → ClassId} : or_ok PRD kA GG o_Sy_compileBoth_at_k4_2 := by
  refine or_mk fun A ta ws vs hD hth hl => ?_
  intro t0 r0 f0 f1
  replace f0 := shm_1840 f0
  replace f1 := shm_5 f1
  have q3 : n_v vs 3 = n_v vs 0 := f1.symm
  simp only [q3] at f0
  have kz_0_6 := fdq_313 hD hth r0
  have kz_0_8 := fdq_314 hD hth r0
  have nf0 : fc_1 PRD (20, [0], [50, 2, 0, 6, 8, 3, 7, 7, 3, 2, 0, 6, 0, 3, 0, 3, 2, 0, 8, 0, 9999]) ws (vs) := ⟨nf_in hl rfl, sgq_1840 (vc_Sy_compileBoth_at_k4_2_0 (w_fi ws (n_v vs 0) 6) (w_fi ws (n_v vs 0) 8) f0 kz_0_6 kz_0_8)⟩
  refine ⟨(fun _ h => (by cases h)), [], trivial, ?_, (fun _ h => (by cases h))⟩
  rw [List.append_nil]
  exact List.forall_mem_cons.mpr ⟨⟨show (20 : Nat) < 100 from by decide, nf0⟩, (fun _ h => (by cases h))⟩
set_option maxHeartbeats 4000000 in
theorem vc_Sy_compileBoth_at_k4_3_0 (x11 : Int) (x12 : Int) (k11 : 9 ≤ x11 ∧ x11 ≤ 9) (k12 : 0 ≤ x12 ∧ x12 ≤ 0) : (0 ≤ x11) ∧ ((0 ≤ x12) ∧ (((x11 * 65536) + x12) ≤ 851970)) := by
  first
    | omega
  
def o_Sy_compileBoth_at_k4_3 : or_T := (46, 13, [(11, (0, 9, 9, [])), (12, (0, 0, 0, []))], [], [], [], [(20, [11, 12], [50, 0, 0, 2, 6, 0, 2, 0, 0, 1, 0, 2, 6, 0, 2, 0, 0, 1, 1, 0, 10, 4, 6, 6, 2, 1, 0, 0, 65536, 1, 1, 0, 851970])], [], [])
theorem oo_Sy_compileBoth_at_k4_3 {kA : Nat → ClassId} : or_ok PRD kA GG o_Sy_compileBoth_at_k4_3 := by
  refine or_mk fun A ta ws vs hD hth hl => ?_
  intro t11 k11 t12 k12
  have nf0 : fc_1 PRD (20, [11, 12], [50, 0, 0, 2, 6, 0, 2, 0, 0, 1, 0, 2, 6, 0, 2, 0, 0, 1, 1, 0, 10, 4, 6, 6, 2, 1, 0, 0, 65536, 1, 1, 0, 851970]) ws (vs) := ⟨nf_in hl rfl, sgq_493 (vc_Sy_compileBoth_at_k4_3_0 (v_iv (n_v vs 11)) (v_iv (n_v vs 12)) k11 k12)⟩
  refine ⟨(fun _ h => (by cases h)), [], trivial, ?_, (fun _ h => (by cases h))⟩
  rw [List.append_nil]
  exact List.forall_mem_cons.mpr ⟨⟨show (20 : Nat) < 100 from by decide, nf0⟩, (fun _ h => (by cases h))⟩
set_option maxHeartbeats 4000000 in
theorem vc_Sy_compileBoth_at_k4_4_0 (kind_0 : Int) (number_0 : Int) (f1 : (kind_0 ≠ 3) ∨ (number_0 ≤ 9999)) (kz_0_6 : 0 ≤ kind_0 ∧ kind_0 ≤ 127) (kz_0_8 : 0 ≤ number_0 ∧ number_0 ≤ 1000000) : (kind_0 ≠ 3) ∨ (number_0 ≤ 9999) := by
  first
    | omega
  
def o_Sy_compileBoth_at_k4_4 : or_T := (41, 12, [(0, (2, 0, 0, [11]))], [(24, [0, 3], []), (20, [3], [50, 2, 0, 6, 8, 3, 7, 7, 3, 2, 0, 6, 0, 3, 0, 3, 2, 0, 8, 0, 9999])], [], [], [(20, [0], [50, 2, 0, 6, 8, 3, 7, 7, 3, 2, 0, 6, 0, 3, 0, 3, 2, 0, 8, 0, 9999])], [], [])
theorem oo_Sy_compileBoth_at_k4_4 {kA : Nat → ClassId} : or_ok PRD kA GG o_Sy_compileBoth_at_k4_4 := by
  refine or_mk fun A ta ws vs hD hth hl => ?_
  intro t0 r0 f0 f1
  replace f0 := shm_5 f0
  replace f1 := shm_1840 f1
  have q3 : n_v vs 3 = n_v vs 0 := f0.symm
  simp only [q3] at f1
  have kz_0_6 := fdq_313 hD hth r0
  have kz_0_8 := fdq_314 hD hth r0
  have nf0 : fc_1 PRD (20, [0], [50, 2, 0, 6, 8, 3, 7, 7, 3, 2, 0, 6, 0, 3, 0, 3, 2, 0, 8, 0, 9999]) ws (vs) := ⟨nf_in hl rfl, sgq_1840 (vc_Sy_compileBoth_at_k4_4_0 (w_fi ws (n_v vs 0) 6) (w_fi ws (n_v vs 0) 8) f1 kz_0_6 kz_0_8)⟩
  refine ⟨(fun _ h => (by cases h)), [], trivial, ?_, (fun _ h => (by cases h))⟩
  rw [List.append_nil]
  exact List.forall_mem_cons.mpr ⟨⟨show (20 : Nat) < 100 from by decide, nf0⟩, (fun _ h => (by cases h))⟩
def n_Sy_compileBoth_at_k4_an : List an_T := [(12, [(0, (2, 0, 0, [11])), (1, (0, 4, 4, [])), (2, (0, 0, 2000, []))], [], (0, 0), [(0, 0, 99988), (1, 5, 2000), (0, 0, 100000)], [], [((0, 3), (2, 0, 0, [109]))], [(2, 0, 0, [11]), (0, 4, 4, []), (2, 0, 0, [109])], 0, [], [(20, [3], [50, 2, 0, 6, 8, 3, 7, 7, 3, 2, 0, 6, 0, 3, 0, 3, 2, 0, 8, 0, 9999]), (24, [0, 3], [])])]
def t_Sy_compileBoth_at_k4_ct : ct_L := [(1, 69, e_Sy_advance), (1, 128, e_Sy_emit), (10, 145, e_Sy_compileOne_at_k4), (70, 114, e_Sy_wordIn_at_s5010), (106, 145, e_Sy_compileOne_at_k4), (1000000, 148, en_ro [] (2, 0, 0, [5010]))]
set_option maxRecDepth 100000 in
theorem c_Sy_compileBoth_at_k4 {l : Launch} {D : va_G} {kA : Nat → ClassId} (h_Sy_advance : ct_ok PRD l D kA GG y_Sy_advance z_Sy_advance e_Sy_advance) (h_Sy_compileOne_at_k4 : ct_ok PRD l D kA GG y_Sy_compileOne_at_k4 z_Sy_compileOne_at_k4 e_Sy_compileOne_at_k4) (h_Sy_emit : ct_ok PRD l D kA GG y_Sy_emit z_Sy_emit e_Sy_emit) (h_Sy_wordIn_at_s5010 : ct_ok PRD l D kA GG y_Sy_wordIn_at_s5010 z_Sy_wordIn_at_s5010 e_Sy_wordIn_at_s5010) : ct_ok PRD l D kA GG y_Sy_compileBoth_at_k4 z_Sy_compileBoth_at_k4 e_Sy_compileBoth_at_k4 := chk_all_ok (FT := []) (PT := []) (CT := t_Sy_compileBoth_at_k4_ct) (KT := []) (NT := []) (AN := n_Sy_compileBoth_at_k4_an) (OT := [o_Sy_compileBoth_at_k4_0, o_Sy_compileBoth_at_k4_1, o_Sy_compileBoth_at_k4_2, o_Sy_compileBoth_at_k4_3, o_Sy_compileBoth_at_k4_4]) 3 200 (List.forall_mem_cons.mpr ⟨oo_Sy_compileBoth_at_k4_0, List.forall_mem_cons.mpr ⟨oo_Sy_compileBoth_at_k4_1, List.forall_mem_cons.mpr ⟨oo_Sy_compileBoth_at_k4_2, List.forall_mem_cons.mpr ⟨oo_Sy_compileBoth_at_k4_3, List.forall_mem_cons.mpr ⟨oo_Sy_compileBoth_at_k4_4, List.forall_mem_nil _⟩⟩⟩⟩⟩) (by decide +kernel) ⟨List.forall_mem_nil _, List.forall_mem_nil _, List.forall_mem_cons.mpr ⟨cl_virtual (y := y_Sy_advance) (ci := 11) rfl rfl ⟨_, _, rfl⟩ (by decide +kernel) h_Sy_advance wm_2158 wm_23 wm_2155 wm_2157 wv_10_10 ⟨by decide, by decide, by decide +kernel⟩ (by decide), List.forall_mem_cons.mpr ⟨cl_virtual (y := y_Sy_emit) (ci := 11) rfl rfl ⟨_, _, rfl⟩ (by decide +kernel) h_Sy_emit wm_2258 wm_23 wm_2255 wm_2257 wv_11_2 ⟨by decide, by decide, by decide +kernel⟩ (by decide), List.forall_mem_cons.mpr ⟨cl_virtual (y := y_Sy_compileOne_at_k4) (ci := 11) rfl rfl ⟨_, _, rfl⟩ (by decide +kernel) h_Sy_compileOne_at_k4 wm_2253 wm_23 wm_2250 wm_2252 wv_11_1 ⟨by decide, by decide, by decide +kernel⟩ (by decide), List.forall_mem_cons.mpr ⟨cl_virtual (y := y_Sy_wordIn_at_s5010) (ci := 11) rfl rfl ⟨_, _, rfl⟩ (by decide +kernel) h_Sy_wordIn_at_s5010 wm_2229 wm_23 wm_2226 wm_2228 wv_10_12 ⟨by decide, by decide, by decide +kernel⟩ (by decide), List.forall_mem_cons.mpr ⟨cl_virtual (y := y_Sy_compileOne_at_k4) (ci := 11) rfl rfl ⟨_, _, rfl⟩ (by decide +kernel) h_Sy_compileOne_at_k4 wm_2253 wm_23 wm_2250 wm_2252 wv_11_1 ⟨by decide, by decide, by decide +kernel⟩ (by decide), List.forall_mem_cons.mpr ⟨cl_ldc (own := "DrawingHouse$Styler") (idx := 148) (i := 10) (tx := "and ") (by decide +kernel) (by decide +kernel) (by decide +kernel), List.forall_mem_nil _⟩⟩⟩⟩⟩⟩, List.forall_mem_nil _, List.forall_mem_nil _, GG_pl⟩ (by decide +kernel)
def o_Sy_compileBoth_at_k5_0 : or_T := (12, 5, [], [], [], [], [(24, [0, 0], [])], [], [])
theorem oo_Sy_compileBoth_at_k5_0 {kA : Nat → ClassId} : or_ok PRD kA GG o_Sy_compileBoth_at_k5_0 := by
  refine or_mk fun A ta ws vs hD hth hl => ?_
  have nf0 : fc_1 PRD (24, [0, 0], []) ws (vs) := by
    refine ⟨nf_in hl rfl, sgq_1 ?_⟩
    · show n_v vs 0 = n_v vs 0
      first | rfl | simp only [true_and]
  refine ⟨(fun _ h => (by cases h)), [], trivial, ?_, (fun _ h => (by cases h))⟩
  rw [List.append_nil]
  exact List.forall_mem_cons.mpr ⟨⟨show (24 : Nat) < 100 from by decide, nf0⟩, (fun _ h => (by cases h))⟩
set_option maxHeartbeats 4000000 in
theorem vc_Sy_compileBoth_at_k5_1_0 (kind_0 : Int) (number_0 : Int) (f0 : (kind_0 ≠ 3) ∨ (number_0 ≤ 9999)) (kz_0_6 : 0 ≤ kind_0 ∧ kind_0 ≤ 127) (kz_0_8 : 0 ≤ number_0 ∧ number_0 ≤ 1000000) : (kind_0 ≠ 3) ∨ (number_0 ≤ 9999) := by
  first
    | omega
  
def o_Sy_compileBoth_at_k5_1 : or_T := (56, 9, [(0, (2, 0, 0, [11]))], [(20, [3], [50, 2, 0, 6, 8, 3, 7, 7, 3, 2, 0, 6, 0, 3, 0, 3, 2, 0, 8, 0, 9999]), (24, [0, 3], [])], [], [], [(20, [0], [50, 2, 0, 6, 8, 3, 7, 7, 3, 2, 0, 6, 0, 3, 0, 3, 2, 0, 8, 0, 9999])], [], [])
theorem oo_Sy_compileBoth_at_k5_1 {kA : Nat → ClassId} : or_ok PRD kA GG o_Sy_compileBoth_at_k5_1 := by
  refine or_mk fun A ta ws vs hD hth hl => ?_
  intro t0 r0 f0 f1
  replace f0 := shm_1840 f0
  replace f1 := shm_5 f1
  have q3 : n_v vs 3 = n_v vs 0 := f1.symm
  simp only [q3] at f0
  have kz_0_6 := fdq_313 hD hth r0
  have kz_0_8 := fdq_314 hD hth r0
  have nf0 : fc_1 PRD (20, [0], [50, 2, 0, 6, 8, 3, 7, 7, 3, 2, 0, 6, 0, 3, 0, 3, 2, 0, 8, 0, 9999]) ws (vs) := ⟨nf_in hl rfl, sgq_1840 (vc_Sy_compileBoth_at_k5_1_0 (w_fi ws (n_v vs 0) 6) (w_fi ws (n_v vs 0) 8) f0 kz_0_6 kz_0_8)⟩
  refine ⟨(fun _ h => (by cases h)), [], trivial, ?_, (fun _ h => (by cases h))⟩
  rw [List.append_nil]
  exact List.forall_mem_cons.mpr ⟨⟨show (20 : Nat) < 100 from by decide, nf0⟩, (fun _ h => (by cases h))⟩
set_option maxHeartbeats 4000000 in
theorem vc_Sy_compileBoth_at_k5_2_0 (kind_0 : Int) (number_0 : Int) (f0 : (kind_0 ≠ 3) ∨ (number_0 ≤ 9999)) (kz_0_6 : 0 ≤ kind_0 ∧ kind_0 ≤ 127) (kz_0_8 : 0 ≤ number_0 ∧ number_0 ≤ 1000000) : (kind_0 ≠ 3) ∨ (number_0 ≤ 9999) := by
  first
    | omega
  
def o_Sy_compileBoth_at_k5_2 : or_T := (56, 11, [(0, (2, 0, 0, [11]))], [(20, [3], [50, 2, 0, 6, 8, 3, 7, 7, 3, 2, 0, 6, 0, 3, 0, 3, 2, 0, 8, 0, 9999]), (24, [0, 3], [])], [], [], [(20, [0], [50, 2, 0, 6, 8, 3, 7, 7, 3, 2, 0, 6, 0, 3, 0, 3, 2, 0, 8, 0, 9999])], [], [])
theorem oo_Sy_compileBoth_at_k5_2 {kA : Nat → ClassId} : or_ok PRD kA GG o_Sy_compileBoth_at_k5_2 := by
  refine or_mk fun A ta ws vs hD hth hl => ?_
  intro t0 r0 f0 f1
  replace f0 := shm_1840 f0
  replace f1 := shm_5 f1
  have q3 : n_v vs 3 = n_v vs 0 := f1.symm
  simp only [q3] at f0
  have kz_0_6 := fdq_313 hD hth r0
  have kz_0_8 := fdq_314 hD hth r0
  have nf0 : fc_1 PRD (20, [0], [50, 2, 0, 6, 8, 3, 7, 7, 3, 2, 0, 6, 0, 3, 0, 3, 2, 0, 8, 0, 9999]) ws (vs) := ⟨nf_in hl rfl, sgq_1840 (vc_Sy_compileBoth_at_k5_2_0 (w_fi ws (n_v vs 0) 6) (w_fi ws (n_v vs 0) 8) f0 kz_0_6 kz_0_8)⟩
  refine ⟨(fun _ h => (by cases h)), [], trivial, ?_, (fun _ h => (by cases h))⟩
  rw [List.append_nil]
  exact List.forall_mem_cons.mpr ⟨⟨show (20 : Nat) < 100 from by decide, nf0⟩, (fun _ h => (by cases h))⟩
set_option maxHeartbeats 4000000 in
theorem vc_Sy_compileBoth_at_k5_3_0 (x11 : Int) (x12 : Int) (k11 : 9 ≤ x11 ∧ x11 ≤ 9) (k12 : 0 ≤ x12 ∧ x12 ≤ 0) : (0 ≤ x11) ∧ ((0 ≤ x12) ∧ (((x11 * 65536) + x12) ≤ 851970)) := by
  first
    | omega
  
def o_Sy_compileBoth_at_k5_3 : or_T := (46, 13, [(11, (0, 9, 9, [])), (12, (0, 0, 0, []))], [], [], [], [(20, [11, 12], [50, 0, 0, 2, 6, 0, 2, 0, 0, 1, 0, 2, 6, 0, 2, 0, 0, 1, 1, 0, 10, 4, 6, 6, 2, 1, 0, 0, 65536, 1, 1, 0, 851970])], [], [])
theorem oo_Sy_compileBoth_at_k5_3 {kA : Nat → ClassId} : or_ok PRD kA GG o_Sy_compileBoth_at_k5_3 := by
  refine or_mk fun A ta ws vs hD hth hl => ?_
  intro t11 k11 t12 k12
  have nf0 : fc_1 PRD (20, [11, 12], [50, 0, 0, 2, 6, 0, 2, 0, 0, 1, 0, 2, 6, 0, 2, 0, 0, 1, 1, 0, 10, 4, 6, 6, 2, 1, 0, 0, 65536, 1, 1, 0, 851970]) ws (vs) := ⟨nf_in hl rfl, sgq_493 (vc_Sy_compileBoth_at_k5_3_0 (v_iv (n_v vs 11)) (v_iv (n_v vs 12)) k11 k12)⟩
  refine ⟨(fun _ h => (by cases h)), [], trivial, ?_, (fun _ h => (by cases h))⟩
  rw [List.append_nil]
  exact List.forall_mem_cons.mpr ⟨⟨show (20 : Nat) < 100 from by decide, nf0⟩, (fun _ h => (by cases h))⟩
set_option maxHeartbeats 4000000 in
theorem vc_Sy_compileBoth_at_k5_4_0 (kind_0 : Int) (number_0 : Int) (f1 : (kind_0 ≠ 3) ∨ (number_0 ≤ 9999)) (kz_0_6 : 0 ≤ kind_0 ∧ kind_0 ≤ 127) (kz_0_8 : 0 ≤ number_0 ∧ number_0 ≤ 1000000) : (kind_0 ≠ 3) ∨ (number_0 ≤ 9999) := by
  first
    | omega
  
def o_Sy_compileBoth_at_k5_4 : or_T := (41, 12, [(0, (2, 0, 0, [11]))], [(24, [0, 3], []), (20, [3], [50, 2, 0, 6, 8, 3, 7, 7, 3, 2, 0, 6, 0, 3, 0, 3, 2, 0, 8, 0, 9999])], [], [], [(20, [0], [50, 2, 0, 6, 8, 3, 7, 7, 3, 2, 0, 6, 0, 3, 0, 3, 2, 0, 8, 0, 9999])], [], [])
theorem oo_Sy_compileBoth_at_k5_4 {kA : Nat → ClassId} : or_ok PRD kA GG o_Sy_compileBoth_at_k5_4 := by
  refine or_mk fun A ta ws vs hD hth hl => ?_
  intro t0 r0 f0 f1
  replace f0 := shm_5 f0
  replace f1 := shm_1840 f1
  have q3 : n_v vs 3 = n_v vs 0 := f0.symm
  simp only [q3] at f1
  have kz_0_6 := fdq_313 hD hth r0
  have kz_0_8 := fdq_314 hD hth r0
  have nf0 : fc_1 PRD (20, [0], [50, 2, 0, 6, 8, 3, 7, 7, 3, 2, 0, 6, 0, 3, 0, 3, 2, 0, 8, 0, 9999]) ws (vs) := ⟨nf_in hl rfl, sgq_1840 (vc_Sy_compileBoth_at_k5_4_0 (w_fi ws (n_v vs 0) 6) (w_fi ws (n_v vs 0) 8) f1 kz_0_6 kz_0_8)⟩
  refine ⟨(fun _ h => (by cases h)), [], trivial, ?_, (fun _ h => (by cases h))⟩
  rw [List.append_nil]
  exact List.forall_mem_cons.mpr ⟨⟨show (20 : Nat) < 100 from by decide, nf0⟩, (fun _ h => (by cases h))⟩
def n_Sy_compileBoth_at_k5_an : List an_T := [(12, [(0, (2, 0, 0, [11])), (1, (0, 5, 5, [])), (2, (0, 0, 2000, []))], [], (0, 0), [(0, 0, 99988), (1, 5, 2000), (0, 0, 100000)], [], [((0, 3), (2, 0, 0, [109]))], [(2, 0, 0, [11]), (0, 5, 5, []), (2, 0, 0, [109])], 0, [], [(20, [3], [50, 2, 0, 6, 8, 3, 7, 7, 3, 2, 0, 6, 0, 3, 0, 3, 2, 0, 8, 0, 9999]), (24, [0, 3], [])])]
def t_Sy_compileBoth_at_k5_ct : ct_L := [(1, 69, e_Sy_advance), (1, 128, e_Sy_emit), (10, 145, e_Sy_compileOne_at_k5), (70, 114, e_Sy_wordIn_at_s5010), (106, 145, e_Sy_compileOne_at_k5), (1000000, 148, en_ro [] (2, 0, 0, [5010]))]
set_option maxRecDepth 100000 in
theorem c_Sy_compileBoth_at_k5 {l : Launch} {D : va_G} {kA : Nat → ClassId} (h_Sy_advance : ct_ok PRD l D kA GG y_Sy_advance z_Sy_advance e_Sy_advance) (h_Sy_compileOne_at_k5 : ct_ok PRD l D kA GG y_Sy_compileOne_at_k5 z_Sy_compileOne_at_k5 e_Sy_compileOne_at_k5) (h_Sy_emit : ct_ok PRD l D kA GG y_Sy_emit z_Sy_emit e_Sy_emit) (h_Sy_wordIn_at_s5010 : ct_ok PRD l D kA GG y_Sy_wordIn_at_s5010 z_Sy_wordIn_at_s5010 e_Sy_wordIn_at_s5010) : ct_ok PRD l D kA GG y_Sy_compileBoth_at_k5 z_Sy_compileBoth_at_k5 e_Sy_compileBoth_at_k5 := chk_all_ok (FT := []) (PT := []) (CT := t_Sy_compileBoth_at_k5_ct) (KT := []) (NT := []) (AN := n_Sy_compileBoth_at_k5_an) (OT := [o_Sy_compileBoth_at_k5_0, o_Sy_compileBoth_at_k5_1, o_Sy_compileBoth_at_k5_2, o_Sy_compileBoth_at_k5_3, o_Sy_compileBoth_at_k5_4]) 3 200 (List.forall_mem_cons.mpr ⟨oo_Sy_compileBoth_at_k5_0, List.forall_mem_cons.mpr ⟨oo_Sy_compileBoth_at_k5_1, List.forall_mem_cons.mpr ⟨oo_Sy_compileBoth_at_k5_2, List.forall_mem_cons.mpr ⟨oo_Sy_compileBoth_at_k5_3, List.forall_mem_cons.mpr ⟨oo_Sy_compileBoth_at_k5_4, List.forall_mem_nil _⟩⟩⟩⟩⟩) (by decide +kernel) ⟨List.forall_mem_nil _, List.forall_mem_nil _, List.forall_mem_cons.mpr ⟨cl_virtual (y := y_Sy_advance) (ci := 11) rfl rfl ⟨_, _, rfl⟩ (by decide +kernel) h_Sy_advance wm_2158 wm_23 wm_2155 wm_2157 wv_10_10 ⟨by decide, by decide, by decide +kernel⟩ (by decide), List.forall_mem_cons.mpr ⟨cl_virtual (y := y_Sy_emit) (ci := 11) rfl rfl ⟨_, _, rfl⟩ (by decide +kernel) h_Sy_emit wm_2258 wm_23 wm_2255 wm_2257 wv_11_2 ⟨by decide, by decide, by decide +kernel⟩ (by decide), List.forall_mem_cons.mpr ⟨cl_virtual (y := y_Sy_compileOne_at_k5) (ci := 11) rfl rfl ⟨_, _, rfl⟩ (by decide +kernel) h_Sy_compileOne_at_k5 wm_2253 wm_23 wm_2250 wm_2252 wv_11_1 ⟨by decide, by decide, by decide +kernel⟩ (by decide), List.forall_mem_cons.mpr ⟨cl_virtual (y := y_Sy_wordIn_at_s5010) (ci := 11) rfl rfl ⟨_, _, rfl⟩ (by decide +kernel) h_Sy_wordIn_at_s5010 wm_2229 wm_23 wm_2226 wm_2228 wv_10_12 ⟨by decide, by decide, by decide +kernel⟩ (by decide), List.forall_mem_cons.mpr ⟨cl_virtual (y := y_Sy_compileOne_at_k5) (ci := 11) rfl rfl ⟨_, _, rfl⟩ (by decide +kernel) h_Sy_compileOne_at_k5 wm_2253 wm_23 wm_2250 wm_2252 wv_11_1 ⟨by decide, by decide, by decide +kernel⟩ (by decide), List.forall_mem_cons.mpr ⟨cl_ldc (own := "DrawingHouse$Styler") (idx := 148) (i := 10) (tx := "and ") (by decide +kernel) (by decide +kernel) (by decide +kernel), List.forall_mem_nil _⟩⟩⟩⟩⟩⟩, List.forall_mem_nil _, List.forall_mem_nil _, GG_pl⟩ (by decide +kernel)
def o_Sy_compileBoth_at_k6_0 : or_T := (12, 5, [], [], [], [], [(24, [0, 0], [])], [], [])
theorem oo_Sy_compileBoth_at_k6_0 {kA : Nat → ClassId} : or_ok PRD kA GG o_Sy_compileBoth_at_k6_0 := by
  refine or_mk fun A ta ws vs hD hth hl => ?_
  have nf0 : fc_1 PRD (24, [0, 0], []) ws (vs) := by
    refine ⟨nf_in hl rfl, sgq_1 ?_⟩
    · show n_v vs 0 = n_v vs 0
      first | rfl | simp only [true_and]
  refine ⟨(fun _ h => (by cases h)), [], trivial, ?_, (fun _ h => (by cases h))⟩
  rw [List.append_nil]
  exact List.forall_mem_cons.mpr ⟨⟨show (24 : Nat) < 100 from by decide, nf0⟩, (fun _ h => (by cases h))⟩
set_option maxHeartbeats 4000000 in
theorem vc_Sy_compileBoth_at_k6_1_0 (kind_0 : Int) (number_0 : Int) (f0 : (kind_0 ≠ 3) ∨ (number_0 ≤ 9999)) (kz_0_6 : 0 ≤ kind_0 ∧ kind_0 ≤ 127) (kz_0_8 : 0 ≤ number_0 ∧ number_0 ≤ 1000000) : (kind_0 ≠ 3) ∨ (number_0 ≤ 9999) := by
  first
    | omega
  
def o_Sy_compileBoth_at_k6_1 : or_T := (56, 9, [(0, (2, 0, 0, [11]))], [(20, [3], [50, 2, 0, 6, 8, 3, 7, 7, 3, 2, 0, 6, 0, 3, 0, 3, 2, 0, 8, 0, 9999]), (24, [0, 3], [])], [], [], [(20, [0], [50, 2, 0, 6, 8, 3, 7, 7, 3, 2, 0, 6, 0, 3, 0, 3, 2, 0, 8, 0, 9999])], [], [])
theorem oo_Sy_compileBoth_at_k6_1 {kA : Nat → ClassId} : or_ok PRD kA GG o_Sy_compileBoth_at_k6_1 := by
  refine or_mk fun A ta ws vs hD hth hl => ?_
  intro t0 r0 f0 f1
  replace f0 := shm_1840 f0
  replace f1 := shm_5 f1
  have q3 : n_v vs 3 = n_v vs 0 := f1.symm
  simp only [q3] at f0
  have kz_0_6 := fdq_313 hD hth r0
  have kz_0_8 := fdq_314 hD hth r0
  have nf0 : fc_1 PRD (20, [0], [50, 2, 0, 6, 8, 3, 7, 7, 3, 2, 0, 6, 0, 3, 0, 3, 2, 0, 8, 0, 9999]) ws (vs) := ⟨nf_in hl rfl, sgq_1840 (vc_Sy_compileBoth_at_k6_1_0 (w_fi ws (n_v vs 0) 6) (w_fi ws (n_v vs 0) 8) f0 kz_0_6 kz_0_8)⟩
  refine ⟨(fun _ h => (by cases h)), [], trivial, ?_, (fun _ h => (by cases h))⟩
  rw [List.append_nil]
  exact List.forall_mem_cons.mpr ⟨⟨show (20 : Nat) < 100 from by decide, nf0⟩, (fun _ h => (by cases h))⟩
set_option maxHeartbeats 4000000 in
theorem vc_Sy_compileBoth_at_k6_2_0 (kind_0 : Int) (number_0 : Int) (f0 : (kind_0 ≠ 3) ∨ (number_0 ≤ 9999)) (kz_0_6 : 0 ≤ kind_0 ∧ kind_0 ≤ 127) (kz_0_8 : 0 ≤ number_0 ∧ number_0 ≤ 1000000) : (kind_0 ≠ 3) ∨ (number_0 ≤ 9999) := by
  first
    | omega
  
def o_Sy_compileBoth_at_k6_2 : or_T := (56, 11, [(0, (2, 0, 0, [11]))], [(20, [3], [50, 2, 0, 6, 8, 3, 7, 7, 3, 2, 0, 6, 0, 3, 0, 3, 2, 0, 8, 0, 9999]), (24, [0, 3], [])], [], [], [(20, [0], [50, 2, 0, 6, 8, 3, 7, 7, 3, 2, 0, 6, 0, 3, 0, 3, 2, 0, 8, 0, 9999])], [], [])
theorem oo_Sy_compileBoth_at_k6_2 {kA : Nat → ClassId} : or_ok PRD kA GG o_Sy_compileBoth_at_k6_2 := by
  refine or_mk fun A ta ws vs hD hth hl => ?_
  intro t0 r0 f0 f1
  replace f0 := shm_1840 f0
  replace f1 := shm_5 f1
  have q3 : n_v vs 3 = n_v vs 0 := f1.symm
  simp only [q3] at f0
  have kz_0_6 := fdq_313 hD hth r0
  have kz_0_8 := fdq_314 hD hth r0
  have nf0 : fc_1 PRD (20, [0], [50, 2, 0, 6, 8, 3, 7, 7, 3, 2, 0, 6, 0, 3, 0, 3, 2, 0, 8, 0, 9999]) ws (vs) := ⟨nf_in hl rfl, sgq_1840 (vc_Sy_compileBoth_at_k6_2_0 (w_fi ws (n_v vs 0) 6) (w_fi ws (n_v vs 0) 8) f0 kz_0_6 kz_0_8)⟩
  refine ⟨(fun _ h => (by cases h)), [], trivial, ?_, (fun _ h => (by cases h))⟩
  rw [List.append_nil]
  exact List.forall_mem_cons.mpr ⟨⟨show (20 : Nat) < 100 from by decide, nf0⟩, (fun _ h => (by cases h))⟩
set_option maxHeartbeats 4000000 in
theorem vc_Sy_compileBoth_at_k6_3_0 (x11 : Int) (x12 : Int) (k11 : 9 ≤ x11 ∧ x11 ≤ 9) (k12 : 0 ≤ x12 ∧ x12 ≤ 0) : (0 ≤ x11) ∧ ((0 ≤ x12) ∧ (((x11 * 65536) + x12) ≤ 851970)) := by
  first
    | omega
  
def o_Sy_compileBoth_at_k6_3 : or_T := (46, 13, [(11, (0, 9, 9, [])), (12, (0, 0, 0, []))], [], [], [], [(20, [11, 12], [50, 0, 0, 2, 6, 0, 2, 0, 0, 1, 0, 2, 6, 0, 2, 0, 0, 1, 1, 0, 10, 4, 6, 6, 2, 1, 0, 0, 65536, 1, 1, 0, 851970])], [], [])
theorem oo_Sy_compileBoth_at_k6_3 {kA : Nat → ClassId} : or_ok PRD kA GG o_Sy_compileBoth_at_k6_3 := by
  refine or_mk fun A ta ws vs hD hth hl => ?_
  intro t11 k11 t12 k12
  have nf0 : fc_1 PRD (20, [11, 12], [50, 0, 0, 2, 6, 0, 2, 0, 0, 1, 0, 2, 6, 0, 2, 0, 0, 1, 1, 0, 10, 4, 6, 6, 2, 1, 0, 0, 65536, 1, 1, 0, 851970]) ws (vs) := ⟨nf_in hl rfl, sgq_493 (vc_Sy_compileBoth_at_k6_3_0 (v_iv (n_v vs 11)) (v_iv (n_v vs 12)) k11 k12)⟩
  refine ⟨(fun _ h => (by cases h)), [], trivial, ?_, (fun _ h => (by cases h))⟩
  rw [List.append_nil]
  exact List.forall_mem_cons.mpr ⟨⟨show (20 : Nat) < 100 from by decide, nf0⟩, (fun _ h => (by cases h))⟩
set_option maxHeartbeats 4000000 in
theorem vc_Sy_compileBoth_at_k6_4_0 (kind_0 : Int) (number_0 : Int) (f1 : (kind_0 ≠ 3) ∨ (number_0 ≤ 9999)) (kz_0_6 : 0 ≤ kind_0 ∧ kind_0 ≤ 127) (kz_0_8 : 0 ≤ number_0 ∧ number_0 ≤ 1000000) : (kind_0 ≠ 3) ∨ (number_0 ≤ 9999) := by
  first
    | omega
  
def o_Sy_compileBoth_at_k6_4 : or_T := (41, 12, [(0, (2, 0, 0, [11]))], [(24, [0, 3], []), (20, [3], [50, 2, 0, 6, 8, 3, 7, 7, 3, 2, 0, 6, 0, 3, 0, 3, 2, 0, 8, 0, 9999])], [], [], [(20, [0], [50, 2, 0, 6, 8, 3, 7, 7, 3, 2, 0, 6, 0, 3, 0, 3, 2, 0, 8, 0, 9999])], [], [])
theorem oo_Sy_compileBoth_at_k6_4 {kA : Nat → ClassId} : or_ok PRD kA GG o_Sy_compileBoth_at_k6_4 := by
  refine or_mk fun A ta ws vs hD hth hl => ?_
  intro t0 r0 f0 f1
  replace f0 := shm_5 f0
  replace f1 := shm_1840 f1
  have q3 : n_v vs 3 = n_v vs 0 := f0.symm
  simp only [q3] at f1
  have kz_0_6 := fdq_313 hD hth r0
  have kz_0_8 := fdq_314 hD hth r0
  have nf0 : fc_1 PRD (20, [0], [50, 2, 0, 6, 8, 3, 7, 7, 3, 2, 0, 6, 0, 3, 0, 3, 2, 0, 8, 0, 9999]) ws (vs) := ⟨nf_in hl rfl, sgq_1840 (vc_Sy_compileBoth_at_k6_4_0 (w_fi ws (n_v vs 0) 6) (w_fi ws (n_v vs 0) 8) f1 kz_0_6 kz_0_8)⟩
  refine ⟨(fun _ h => (by cases h)), [], trivial, ?_, (fun _ h => (by cases h))⟩
  rw [List.append_nil]
  exact List.forall_mem_cons.mpr ⟨⟨show (20 : Nat) < 100 from by decide, nf0⟩, (fun _ h => (by cases h))⟩
def n_Sy_compileBoth_at_k6_an : List an_T := [(12, [(0, (2, 0, 0, [11])), (1, (0, 6, 6, [])), (2, (0, 0, 2000, []))], [], (0, 0), [(0, 0, 99988), (1, 5, 2000), (0, 0, 100000)], [], [((0, 3), (2, 0, 0, [109]))], [(2, 0, 0, [11]), (0, 6, 6, []), (2, 0, 0, [109])], 0, [], [(20, [3], [50, 2, 0, 6, 8, 3, 7, 7, 3, 2, 0, 6, 0, 3, 0, 3, 2, 0, 8, 0, 9999]), (24, [0, 3], [])])]
def t_Sy_compileBoth_at_k6_ct : ct_L := [(1, 69, e_Sy_advance), (1, 128, e_Sy_emit), (10, 145, e_Sy_compileOne_at_k6), (70, 114, e_Sy_wordIn_at_s5010), (106, 145, e_Sy_compileOne_at_k6), (1000000, 148, en_ro [] (2, 0, 0, [5010]))]
set_option maxRecDepth 100000 in
theorem c_Sy_compileBoth_at_k6 {l : Launch} {D : va_G} {kA : Nat → ClassId} (h_Sy_advance : ct_ok PRD l D kA GG y_Sy_advance z_Sy_advance e_Sy_advance) (h_Sy_compileOne_at_k6 : ct_ok PRD l D kA GG y_Sy_compileOne_at_k6 z_Sy_compileOne_at_k6 e_Sy_compileOne_at_k6) (h_Sy_emit : ct_ok PRD l D kA GG y_Sy_emit z_Sy_emit e_Sy_emit) (h_Sy_wordIn_at_s5010 : ct_ok PRD l D kA GG y_Sy_wordIn_at_s5010 z_Sy_wordIn_at_s5010 e_Sy_wordIn_at_s5010) : ct_ok PRD l D kA GG y_Sy_compileBoth_at_k6 z_Sy_compileBoth_at_k6 e_Sy_compileBoth_at_k6 := chk_all_ok (FT := []) (PT := []) (CT := t_Sy_compileBoth_at_k6_ct) (KT := []) (NT := []) (AN := n_Sy_compileBoth_at_k6_an) (OT := [o_Sy_compileBoth_at_k6_0, o_Sy_compileBoth_at_k6_1, o_Sy_compileBoth_at_k6_2, o_Sy_compileBoth_at_k6_3, o_Sy_compileBoth_at_k6_4]) 3 200 (List.forall_mem_cons.mpr ⟨oo_Sy_compileBoth_at_k6_0, List.forall_mem_cons.mpr ⟨oo_Sy_compileBoth_at_k6_1, List.forall_mem_cons.mpr ⟨oo_Sy_compileBoth_at_k6_2, List.forall_mem_cons.mpr ⟨oo_Sy_compileBoth_at_k6_3, List.forall_mem_cons.mpr ⟨oo_Sy_compileBoth_at_k6_4, List.forall_mem_nil _⟩⟩⟩⟩⟩) (by decide +kernel) ⟨List.forall_mem_nil _, List.forall_mem_nil _, List.forall_mem_cons.mpr ⟨cl_virtual (y := y_Sy_advance) (ci := 11) rfl rfl ⟨_, _, rfl⟩ (by decide +kernel) h_Sy_advance wm_2158 wm_23 wm_2155 wm_2157 wv_10_10 ⟨by decide, by decide, by decide +kernel⟩ (by decide), List.forall_mem_cons.mpr ⟨cl_virtual (y := y_Sy_emit) (ci := 11) rfl rfl ⟨_, _, rfl⟩ (by decide +kernel) h_Sy_emit wm_2258 wm_23 wm_2255 wm_2257 wv_11_2 ⟨by decide, by decide, by decide +kernel⟩ (by decide), List.forall_mem_cons.mpr ⟨cl_virtual (y := y_Sy_compileOne_at_k6) (ci := 11) rfl rfl ⟨_, _, rfl⟩ (by decide +kernel) h_Sy_compileOne_at_k6 wm_2253 wm_23 wm_2250 wm_2252 wv_11_1 ⟨by decide, by decide, by decide +kernel⟩ (by decide), List.forall_mem_cons.mpr ⟨cl_virtual (y := y_Sy_wordIn_at_s5010) (ci := 11) rfl rfl ⟨_, _, rfl⟩ (by decide +kernel) h_Sy_wordIn_at_s5010 wm_2229 wm_23 wm_2226 wm_2228 wv_10_12 ⟨by decide, by decide, by decide +kernel⟩ (by decide), List.forall_mem_cons.mpr ⟨cl_virtual (y := y_Sy_compileOne_at_k6) (ci := 11) rfl rfl ⟨_, _, rfl⟩ (by decide +kernel) h_Sy_compileOne_at_k6 wm_2253 wm_23 wm_2250 wm_2252 wv_11_1 ⟨by decide, by decide, by decide +kernel⟩ (by decide), List.forall_mem_cons.mpr ⟨cl_ldc (own := "DrawingHouse$Styler") (idx := 148) (i := 10) (tx := "and ") (by decide +kernel) (by decide +kernel) (by decide +kernel), List.forall_mem_nil _⟩⟩⟩⟩⟩⟩, List.forall_mem_nil _, List.forall_mem_nil _, GG_pl⟩ (by decide +kernel)
def o_Sy_compileBoth_at_k7_0 : or_T := (12, 5, [], [], [], [], [(24, [0, 0], [])], [], [])
theorem oo_Sy_compileBoth_at_k7_0 {kA : Nat → ClassId} : or_ok PRD kA GG o_Sy_compileBoth_at_k7_0 := by
  refine or_mk fun A ta ws vs hD hth hl => ?_
  have nf0 : fc_1 PRD (24, [0, 0], []) ws (vs) := by
    refine ⟨nf_in hl rfl, sgq_1 ?_⟩
    · show n_v vs 0 = n_v vs 0
      first | rfl | simp only [true_and]
  refine ⟨(fun _ h => (by cases h)), [], trivial, ?_, (fun _ h => (by cases h))⟩
  rw [List.append_nil]
  exact List.forall_mem_cons.mpr ⟨⟨show (24 : Nat) < 100 from by decide, nf0⟩, (fun _ h => (by cases h))⟩
set_option maxHeartbeats 4000000 in
theorem vc_Sy_compileBoth_at_k7_1_0 (kind_0 : Int) (number_0 : Int) (f0 : (kind_0 ≠ 3) ∨ (number_0 ≤ 9999)) (kz_0_6 : 0 ≤ kind_0 ∧ kind_0 ≤ 127) (kz_0_8 : 0 ≤ number_0 ∧ number_0 ≤ 1000000) : (kind_0 ≠ 3) ∨ (number_0 ≤ 9999) := by
  first
    | omega
  
def o_Sy_compileBoth_at_k7_1 : or_T := (56, 9, [(0, (2, 0, 0, [11]))], [(20, [3], [50, 2, 0, 6, 8, 3, 7, 7, 3, 2, 0, 6, 0, 3, 0, 3, 2, 0, 8, 0, 9999]), (24, [0, 3], [])], [], [], [(20, [0], [50, 2, 0, 6, 8, 3, 7, 7, 3, 2, 0, 6, 0, 3, 0, 3, 2, 0, 8, 0, 9999])], [], [])
theorem oo_Sy_compileBoth_at_k7_1 {kA : Nat → ClassId} : or_ok PRD kA GG o_Sy_compileBoth_at_k7_1 := by
  refine or_mk fun A ta ws vs hD hth hl => ?_
  intro t0 r0 f0 f1
  replace f0 := shm_1840 f0
  replace f1 := shm_5 f1
  have q3 : n_v vs 3 = n_v vs 0 := f1.symm
  simp only [q3] at f0
  have kz_0_6 := fdq_313 hD hth r0
  have kz_0_8 := fdq_314 hD hth r0
  have nf0 : fc_1 PRD (20, [0], [50, 2, 0, 6, 8, 3, 7, 7, 3, 2, 0, 6, 0, 3, 0, 3, 2, 0, 8, 0, 9999]) ws (vs) := ⟨nf_in hl rfl, sgq_1840 (vc_Sy_compileBoth_at_k7_1_0 (w_fi ws (n_v vs 0) 6) (w_fi ws (n_v vs 0) 8) f0 kz_0_6 kz_0_8)⟩
  refine ⟨(fun _ h => (by cases h)), [], trivial, ?_, (fun _ h => (by cases h))⟩
  rw [List.append_nil]
  exact List.forall_mem_cons.mpr ⟨⟨show (20 : Nat) < 100 from by decide, nf0⟩, (fun _ h => (by cases h))⟩
set_option maxHeartbeats 4000000 in
theorem vc_Sy_compileBoth_at_k7_2_0 (kind_0 : Int) (number_0 : Int) (f0 : (kind_0 ≠ 3) ∨ (number_0 ≤ 9999)) (kz_0_6 : 0 ≤ kind_0 ∧ kind_0 ≤ 127) (kz_0_8 : 0 ≤ number_0 ∧ number_0 ≤ 1000000) : (kind_0 ≠ 3) ∨ (number_0 ≤ 9999) := by
  first
    | omega
  
def o_Sy_compileBoth_at_k7_2 : or_T := (56, 11, [(0, (2, 0, 0, [11]))], [(20, [3], [50, 2, 0, 6, 8, 3, 7, 7, 3, 2, 0, 6, 0, 3, 0, 3, 2, 0, 8, 0, 9999]), (24, [0, 3], [])], [], [], [(20, [0], [50, 2, 0, 6, 8, 3, 7, 7, 3, 2, 0, 6, 0, 3, 0, 3, 2, 0, 8, 0, 9999])], [], [])
theorem oo_Sy_compileBoth_at_k7_2 {kA : Nat → ClassId} : or_ok PRD kA GG o_Sy_compileBoth_at_k7_2 := by
  refine or_mk fun A ta ws vs hD hth hl => ?_
  intro t0 r0 f0 f1
  replace f0 := shm_1840 f0
  replace f1 := shm_5 f1
  have q3 : n_v vs 3 = n_v vs 0 := f1.symm
  simp only [q3] at f0
  have kz_0_6 := fdq_313 hD hth r0
  have kz_0_8 := fdq_314 hD hth r0
  have nf0 : fc_1 PRD (20, [0], [50, 2, 0, 6, 8, 3, 7, 7, 3, 2, 0, 6, 0, 3, 0, 3, 2, 0, 8, 0, 9999]) ws (vs) := ⟨nf_in hl rfl, sgq_1840 (vc_Sy_compileBoth_at_k7_2_0 (w_fi ws (n_v vs 0) 6) (w_fi ws (n_v vs 0) 8) f0 kz_0_6 kz_0_8)⟩
  refine ⟨(fun _ h => (by cases h)), [], trivial, ?_, (fun _ h => (by cases h))⟩
  rw [List.append_nil]
  exact List.forall_mem_cons.mpr ⟨⟨show (20 : Nat) < 100 from by decide, nf0⟩, (fun _ h => (by cases h))⟩
set_option maxHeartbeats 4000000 in
theorem vc_Sy_compileBoth_at_k7_3_0 (x11 : Int) (x12 : Int) (k11 : 9 ≤ x11 ∧ x11 ≤ 9) (k12 : 0 ≤ x12 ∧ x12 ≤ 0) : (0 ≤ x11) ∧ ((0 ≤ x12) ∧ (((x11 * 65536) + x12) ≤ 851970)) := by
  first
    | omega
  
def o_Sy_compileBoth_at_k7_3 : or_T := (46, 13, [(11, (0, 9, 9, [])), (12, (0, 0, 0, []))], [], [], [], [(20, [11, 12], [50, 0, 0, 2, 6, 0, 2, 0, 0, 1, 0, 2, 6, 0, 2, 0, 0, 1, 1, 0, 10, 4, 6, 6, 2, 1, 0, 0, 65536, 1, 1, 0, 851970])], [], [])
theorem oo_Sy_compileBoth_at_k7_3 {kA : Nat → ClassId} : or_ok PRD kA GG o_Sy_compileBoth_at_k7_3 := by
  refine or_mk fun A ta ws vs hD hth hl => ?_
  intro t11 k11 t12 k12
  have nf0 : fc_1 PRD (20, [11, 12], [50, 0, 0, 2, 6, 0, 2, 0, 0, 1, 0, 2, 6, 0, 2, 0, 0, 1, 1, 0, 10, 4, 6, 6, 2, 1, 0, 0, 65536, 1, 1, 0, 851970]) ws (vs) := ⟨nf_in hl rfl, sgq_493 (vc_Sy_compileBoth_at_k7_3_0 (v_iv (n_v vs 11)) (v_iv (n_v vs 12)) k11 k12)⟩
  refine ⟨(fun _ h => (by cases h)), [], trivial, ?_, (fun _ h => (by cases h))⟩
  rw [List.append_nil]
  exact List.forall_mem_cons.mpr ⟨⟨show (20 : Nat) < 100 from by decide, nf0⟩, (fun _ h => (by cases h))⟩
set_option maxHeartbeats 4000000 in
theorem vc_Sy_compileBoth_at_k7_4_0 (kind_0 : Int) (number_0 : Int) (f1 : (kind_0 ≠ 3) ∨ (number_0 ≤ 9999)) (kz_0_6 : 0 ≤ kind_0 ∧ kind_0 ≤ 127) (kz_0_8 : 0 ≤ number_0 ∧ number_0 ≤ 1000000) : (kind_0 ≠ 3) ∨ (number_0 ≤ 9999) := by
  first
    | omega
  
def o_Sy_compileBoth_at_k7_4 : or_T := (41, 12, [(0, (2, 0, 0, [11]))], [(24, [0, 3], []), (20, [3], [50, 2, 0, 6, 8, 3, 7, 7, 3, 2, 0, 6, 0, 3, 0, 3, 2, 0, 8, 0, 9999])], [], [], [(20, [0], [50, 2, 0, 6, 8, 3, 7, 7, 3, 2, 0, 6, 0, 3, 0, 3, 2, 0, 8, 0, 9999])], [], [])
theorem oo_Sy_compileBoth_at_k7_4 {kA : Nat → ClassId} : or_ok PRD kA GG o_Sy_compileBoth_at_k7_4 := by
  refine or_mk fun A ta ws vs hD hth hl => ?_
  intro t0 r0 f0 f1
  replace f0 := shm_5 f0
  replace f1 := shm_1840 f1
  have q3 : n_v vs 3 = n_v vs 0 := f0.symm
  simp only [q3] at f1
  have kz_0_6 := fdq_313 hD hth r0
  have kz_0_8 := fdq_314 hD hth r0
  have nf0 : fc_1 PRD (20, [0], [50, 2, 0, 6, 8, 3, 7, 7, 3, 2, 0, 6, 0, 3, 0, 3, 2, 0, 8, 0, 9999]) ws (vs) := ⟨nf_in hl rfl, sgq_1840 (vc_Sy_compileBoth_at_k7_4_0 (w_fi ws (n_v vs 0) 6) (w_fi ws (n_v vs 0) 8) f1 kz_0_6 kz_0_8)⟩
  refine ⟨(fun _ h => (by cases h)), [], trivial, ?_, (fun _ h => (by cases h))⟩
  rw [List.append_nil]
  exact List.forall_mem_cons.mpr ⟨⟨show (20 : Nat) < 100 from by decide, nf0⟩, (fun _ h => (by cases h))⟩
def n_Sy_compileBoth_at_k7_an : List an_T := [(12, [(0, (2, 0, 0, [11])), (1, (0, 7, 7, [])), (2, (0, 0, 2000, []))], [], (0, 0), [(0, 0, 99988), (1, 5, 2000), (0, 0, 100000)], [], [((0, 3), (2, 0, 0, [109]))], [(2, 0, 0, [11]), (0, 7, 7, []), (2, 0, 0, [109])], 0, [], [(20, [3], [50, 2, 0, 6, 8, 3, 7, 7, 3, 2, 0, 6, 0, 3, 0, 3, 2, 0, 8, 0, 9999]), (24, [0, 3], [])])]
def t_Sy_compileBoth_at_k7_ct : ct_L := [(1, 69, e_Sy_advance), (1, 128, e_Sy_emit), (10, 145, e_Sy_compileOne_at_k7), (70, 114, e_Sy_wordIn_at_s5010), (106, 145, e_Sy_compileOne_at_k7), (1000000, 148, en_ro [] (2, 0, 0, [5010]))]
set_option maxRecDepth 100000 in
theorem c_Sy_compileBoth_at_k7 {l : Launch} {D : va_G} {kA : Nat → ClassId} (h_Sy_advance : ct_ok PRD l D kA GG y_Sy_advance z_Sy_advance e_Sy_advance) (h_Sy_compileOne_at_k7 : ct_ok PRD l D kA GG y_Sy_compileOne_at_k7 z_Sy_compileOne_at_k7 e_Sy_compileOne_at_k7) (h_Sy_emit : ct_ok PRD l D kA GG y_Sy_emit z_Sy_emit e_Sy_emit) (h_Sy_wordIn_at_s5010 : ct_ok PRD l D kA GG y_Sy_wordIn_at_s5010 z_Sy_wordIn_at_s5010 e_Sy_wordIn_at_s5010) : ct_ok PRD l D kA GG y_Sy_compileBoth_at_k7 z_Sy_compileBoth_at_k7 e_Sy_compileBoth_at_k7 := chk_all_ok (FT := []) (PT := []) (CT := t_Sy_compileBoth_at_k7_ct) (KT := []) (NT := []) (AN := n_Sy_compileBoth_at_k7_an) (OT := [o_Sy_compileBoth_at_k7_0, o_Sy_compileBoth_at_k7_1, o_Sy_compileBoth_at_k7_2, o_Sy_compileBoth_at_k7_3, o_Sy_compileBoth_at_k7_4]) 3 200 (List.forall_mem_cons.mpr ⟨oo_Sy_compileBoth_at_k7_0, List.forall_mem_cons.mpr ⟨oo_Sy_compileBoth_at_k7_1, List.forall_mem_cons.mpr ⟨oo_Sy_compileBoth_at_k7_2, List.forall_mem_cons.mpr ⟨oo_Sy_compileBoth_at_k7_3, List.forall_mem_cons.mpr ⟨oo_Sy_compileBoth_at_k7_4, List.forall_mem_nil _⟩⟩⟩⟩⟩) (by decide +kernel) ⟨List.forall_mem_nil _, List.forall_mem_nil _, List.forall_mem_cons.mpr ⟨cl_virtual (y := y_Sy_advance) (ci := 11) rfl rfl ⟨_, _, rfl⟩ (by decide +kernel) h_Sy_advance wm_2158 wm_23 wm_2155 wm_2157 wv_10_10 ⟨by decide, by decide, by decide +kernel⟩ (by decide), List.forall_mem_cons.mpr ⟨cl_virtual (y := y_Sy_emit) (ci := 11) rfl rfl ⟨_, _, rfl⟩ (by decide +kernel) h_Sy_emit wm_2258 wm_23 wm_2255 wm_2257 wv_11_2 ⟨by decide, by decide, by decide +kernel⟩ (by decide), List.forall_mem_cons.mpr ⟨cl_virtual (y := y_Sy_compileOne_at_k7) (ci := 11) rfl rfl ⟨_, _, rfl⟩ (by decide +kernel) h_Sy_compileOne_at_k7 wm_2253 wm_23 wm_2250 wm_2252 wv_11_1 ⟨by decide, by decide, by decide +kernel⟩ (by decide), List.forall_mem_cons.mpr ⟨cl_virtual (y := y_Sy_wordIn_at_s5010) (ci := 11) rfl rfl ⟨_, _, rfl⟩ (by decide +kernel) h_Sy_wordIn_at_s5010 wm_2229 wm_23 wm_2226 wm_2228 wv_10_12 ⟨by decide, by decide, by decide +kernel⟩ (by decide), List.forall_mem_cons.mpr ⟨cl_virtual (y := y_Sy_compileOne_at_k7) (ci := 11) rfl rfl ⟨_, _, rfl⟩ (by decide +kernel) h_Sy_compileOne_at_k7 wm_2253 wm_23 wm_2250 wm_2252 wv_11_1 ⟨by decide, by decide, by decide +kernel⟩ (by decide), List.forall_mem_cons.mpr ⟨cl_ldc (own := "DrawingHouse$Styler") (idx := 148) (i := 10) (tx := "and ") (by decide +kernel) (by decide +kernel) (by decide +kernel), List.forall_mem_nil _⟩⟩⟩⟩⟩⟩, List.forall_mem_nil _, List.forall_mem_nil _, GG_pl⟩ (by decide +kernel)
def o_Sy_compileBoth_at_k8_0 : or_T := (12, 5, [], [], [], [], [(24, [0, 0], [])], [], [])
theorem oo_Sy_compileBoth_at_k8_0 {kA : Nat → ClassId} : or_ok PRD kA GG o_Sy_compileBoth_at_k8_0 := by
  refine or_mk fun A ta ws vs hD hth hl => ?_
  have nf0 : fc_1 PRD (24, [0, 0], []) ws (vs) := by
    refine ⟨nf_in hl rfl, sgq_1 ?_⟩
    · show n_v vs 0 = n_v vs 0
      first | rfl | simp only [true_and]
  refine ⟨(fun _ h => (by cases h)), [], trivial, ?_, (fun _ h => (by cases h))⟩
  rw [List.append_nil]
  exact List.forall_mem_cons.mpr ⟨⟨show (24 : Nat) < 100 from by decide, nf0⟩, (fun _ h => (by cases h))⟩
set_option maxHeartbeats 4000000 in
theorem vc_Sy_compileBoth_at_k8_1_0 (kind_0 : Int) (number_0 : Int) (f0 : (kind_0 ≠ 3) ∨ (number_0 ≤ 9999)) (kz_0_6 : 0 ≤ kind_0 ∧ kind_0 ≤ 127) (kz_0_8 : 0 ≤ number_0 ∧ number_0 ≤ 1000000) : (kind_0 ≠ 3) ∨ (number_0 ≤ 9999) := by
  first
    | omega
  
def o_Sy_compileBoth_at_k8_1 : or_T := (56, 9, [(0, (2, 0, 0, [11]))], [(20, [3], [50, 2, 0, 6, 8, 3, 7, 7, 3, 2, 0, 6, 0, 3, 0, 3, 2, 0, 8, 0, 9999]), (24, [0, 3], [])], [], [], [(20, [0], [50, 2, 0, 6, 8, 3, 7, 7, 3, 2, 0, 6, 0, 3, 0, 3, 2, 0, 8, 0, 9999])], [], [])
theorem oo_Sy_compileBoth_at_k8_1 {kA : Nat → ClassId} : or_ok PRD kA GG o_Sy_compileBoth_at_k8_1 := by
  refine or_mk fun A ta ws vs hD hth hl => ?_
  intro t0 r0 f0 f1
  replace f0 := shm_1840 f0
  replace f1 := shm_5 f1
  have q3 : n_v vs 3 = n_v vs 0 := f1.symm
  simp only [q3] at f0
  have kz_0_6 := fdq_313 hD hth r0
  have kz_0_8 := fdq_314 hD hth r0
  have nf0 : fc_1 PRD (20, [0], [50, 2, 0, 6, 8, 3, 7, 7, 3, 2, 0, 6, 0, 3, 0, 3, 2, 0, 8, 0, 9999]) ws (vs) := ⟨nf_in hl rfl, sgq_1840 (vc_Sy_compileBoth_at_k8_1_0 (w_fi ws (n_v vs 0) 6) (w_fi ws (n_v vs 0) 8) f0 kz_0_6 kz_0_8)⟩
  refine ⟨(fun _ h => (by cases h)), [], trivial, ?_, (fun _ h => (by cases h))⟩
  rw [List.append_nil]
  exact List.forall_mem_cons.mpr ⟨⟨show (20 : Nat) < 100 from by decide, nf0⟩, (fun _ h => (by cases h))⟩
set_option maxHeartbeats 4000000 in
theorem vc_Sy_compileBoth_at_k8_2_0 (kind_0 : Int) (number_0 : Int) (f0 : (kind_0 ≠ 3) ∨ (number_0 ≤ 9999)) (kz_0_6 : 0 ≤ kind_0 ∧ kind_0 ≤ 127) (kz_0_8 : 0 ≤ number_0 ∧ number_0 ≤ 1000000) : (kind_0 ≠ 3) ∨ (number_0 ≤ 9999) := by
  first
    | omega
  
def o_Sy_compileBoth_at_k8_2 : or_T := (56, 11, [(0, (2, 0, 0, [11]))], [(20, [3], [50, 2, 0, 6, 8, 3, 7, 7, 3, 2, 0, 6, 0, 3, 0, 3, 2, 0, 8, 0, 9999]), (24, [0, 3], [])], [], [], [(20, [0], [50, 2, 0, 6, 8, 3, 7, 7, 3, 2, 0, 6, 0, 3, 0, 3, 2, 0, 8, 0, 9999])], [], [])
theorem oo_Sy_compileBoth_at_k8_2 {kA : Nat → ClassId} : or_ok PRD kA GG o_Sy_compileBoth_at_k8_2 := by
  refine or_mk fun A ta ws vs hD hth hl => ?_
  intro t0 r0 f0 f1
  replace f0 := shm_1840 f0
  replace f1 := shm_5 f1
  have q3 : n_v vs 3 = n_v vs 0 := f1.symm
  simp only [q3] at f0
  have kz_0_6 := fdq_313 hD hth r0
  have kz_0_8 := fdq_314 hD hth r0
  have nf0 : fc_1 PRD (20, [0], [50, 2, 0, 6, 8, 3, 7, 7, 3, 2, 0, 6, 0, 3, 0, 3, 2, 0, 8, 0, 9999]) ws (vs) := ⟨nf_in hl rfl, sgq_1840 (vc_Sy_compileBoth_at_k8_2_0 (w_fi ws (n_v vs 0) 6) (w_fi ws (n_v vs 0) 8) f0 kz_0_6 kz_0_8)⟩
  refine ⟨(fun _ h => (by cases h)), [], trivial, ?_, (fun _ h => (by cases h))⟩
  rw [List.append_nil]
  exact List.forall_mem_cons.mpr ⟨⟨show (20 : Nat) < 100 from by decide, nf0⟩, (fun _ h => (by cases h))⟩
set_option maxHeartbeats 4000000 in
theorem vc_Sy_compileBoth_at_k8_3_0 (x11 : Int) (x12 : Int) (k11 : 9 ≤ x11 ∧ x11 ≤ 9) (k12 : 0 ≤ x12 ∧ x12 ≤ 0) : (0 ≤ x11) ∧ ((0 ≤ x12) ∧ (((x11 * 65536) + x12) ≤ 851970)) := by
  first
    | omega
  
def o_Sy_compileBoth_at_k8_3 : or_T := (46, 13, [(11, (0, 9, 9, [])), (12, (0, 0, 0, []))], [], [], [], [(20, [11, 12], [50, 0, 0, 2, 6, 0, 2, 0, 0, 1, 0, 2, 6, 0, 2, 0, 0, 1, 1, 0, 10, 4, 6, 6, 2, 1, 0, 0, 65536, 1, 1, 0, 851970])], [], [])
theorem oo_Sy_compileBoth_at_k8_3 {kA : Nat → ClassId} : or_ok PRD kA GG o_Sy_compileBoth_at_k8_3 := by
  refine or_mk fun A ta ws vs hD hth hl => ?_
  intro t11 k11 t12 k12
  have nf0 : fc_1 PRD (20, [11, 12], [50, 0, 0, 2, 6, 0, 2, 0, 0, 1, 0, 2, 6, 0, 2, 0, 0, 1, 1, 0, 10, 4, 6, 6, 2, 1, 0, 0, 65536, 1, 1, 0, 851970]) ws (vs) := ⟨nf_in hl rfl, sgq_493 (vc_Sy_compileBoth_at_k8_3_0 (v_iv (n_v vs 11)) (v_iv (n_v vs 12)) k11 k12)⟩
  refine ⟨(fun _ h => (by cases h)), [], trivial, ?_, (fun _ h => (by cases h))⟩
  rw [List.append_nil]
  exact List.forall_mem_cons.mpr ⟨⟨show (20 : Nat) < 100 from by decide, nf0⟩, (fun _ h => (by cases h))⟩
set_option maxHeartbeats 4000000 in
theorem vc_Sy_compileBoth_at_k8_4_0 (kind_0 : Int) (number_0 : Int) (f1 : (kind_0 ≠ 3) ∨ (number_0 ≤ 9999)) (kz_0_6 : 0 ≤ kind_0 ∧ kind_0 ≤ 127) (kz_0_8 : 0 ≤ number_0 ∧ number_0 ≤ 1000000) : (kind_0 ≠ 3) ∨ (number_0 ≤ 9999) := by
  first
    | omega
  
def o_Sy_compileBoth_at_k8_4 : or_T := (41, 12, [(0, (2, 0, 0, [11]))], [(24, [0, 3], []), (20, [3], [50, 2, 0, 6, 8, 3, 7, 7, 3, 2, 0, 6, 0, 3, 0, 3, 2, 0, 8, 0, 9999])], [], [], [(20, [0], [50, 2, 0, 6, 8, 3, 7, 7, 3, 2, 0, 6, 0, 3, 0, 3, 2, 0, 8, 0, 9999])], [], [])
theorem oo_Sy_compileBoth_at_k8_4 {kA : Nat → ClassId} : or_ok PRD kA GG o_Sy_compileBoth_at_k8_4 := by
  refine or_mk fun A ta ws vs hD hth hl => ?_
  intro t0 r0 f0 f1
  replace f0 := shm_5 f0
  replace f1 := shm_1840 f1
  have q3 : n_v vs 3 = n_v vs 0 := f0.symm
  simp only [q3] at f1
  have kz_0_6 := fdq_313 hD hth r0
  have kz_0_8 := fdq_314 hD hth r0
  have nf0 : fc_1 PRD (20, [0], [50, 2, 0, 6, 8, 3, 7, 7, 3, 2, 0, 6, 0, 3, 0, 3, 2, 0, 8, 0, 9999]) ws (vs) := ⟨nf_in hl rfl, sgq_1840 (vc_Sy_compileBoth_at_k8_4_0 (w_fi ws (n_v vs 0) 6) (w_fi ws (n_v vs 0) 8) f1 kz_0_6 kz_0_8)⟩
  refine ⟨(fun _ h => (by cases h)), [], trivial, ?_, (fun _ h => (by cases h))⟩
  rw [List.append_nil]
  exact List.forall_mem_cons.mpr ⟨⟨show (20 : Nat) < 100 from by decide, nf0⟩, (fun _ h => (by cases h))⟩
def n_Sy_compileBoth_at_k8_an : List an_T := [(12, [(0, (2, 0, 0, [11])), (1, (0, 8, 8, [])), (2, (0, 0, 2000, []))], [], (0, 0), [(0, 0, 99988), (1, 5, 2000), (0, 0, 100000)], [], [((0, 3), (2, 0, 0, [109]))], [(2, 0, 0, [11]), (0, 8, 8, []), (2, 0, 0, [109])], 0, [], [(20, [3], [50, 2, 0, 6, 8, 3, 7, 7, 3, 2, 0, 6, 0, 3, 0, 3, 2, 0, 8, 0, 9999]), (24, [0, 3], [])])]
def t_Sy_compileBoth_at_k8_ct : ct_L := [(1, 69, e_Sy_advance), (1, 128, e_Sy_emit), (10, 145, e_Sy_compileOne_at_k8), (70, 114, e_Sy_wordIn_at_s5010), (106, 145, e_Sy_compileOne_at_k8), (1000000, 148, en_ro [] (2, 0, 0, [5010]))]
set_option maxRecDepth 100000 in
theorem c_Sy_compileBoth_at_k8 {l : Launch} {D : va_G} {kA : Nat → ClassId} (h_Sy_advance : ct_ok PRD l D kA GG y_Sy_advance z_Sy_advance e_Sy_advance) (h_Sy_compileOne_at_k8 : ct_ok PRD l D kA GG y_Sy_compileOne_at_k8 z_Sy_compileOne_at_k8 e_Sy_compileOne_at_k8) (h_Sy_emit : ct_ok PRD l D kA GG y_Sy_emit z_Sy_emit e_Sy_emit) (h_Sy_wordIn_at_s5010 : ct_ok PRD l D kA GG y_Sy_wordIn_at_s5010 z_Sy_wordIn_at_s5010 e_Sy_wordIn_at_s5010) : ct_ok PRD l D kA GG y_Sy_compileBoth_at_k8 z_Sy_compileBoth_at_k8 e_Sy_compileBoth_at_k8 := chk_all_ok (FT := []) (PT := []) (CT := t_Sy_compileBoth_at_k8_ct) (KT := []) (NT := []) (AN := n_Sy_compileBoth_at_k8_an) (OT := [o_Sy_compileBoth_at_k8_0, o_Sy_compileBoth_at_k8_1, o_Sy_compileBoth_at_k8_2, o_Sy_compileBoth_at_k8_3, o_Sy_compileBoth_at_k8_4]) 3 200 (List.forall_mem_cons.mpr ⟨oo_Sy_compileBoth_at_k8_0, List.forall_mem_cons.mpr ⟨oo_Sy_compileBoth_at_k8_1, List.forall_mem_cons.mpr ⟨oo_Sy_compileBoth_at_k8_2, List.forall_mem_cons.mpr ⟨oo_Sy_compileBoth_at_k8_3, List.forall_mem_cons.mpr ⟨oo_Sy_compileBoth_at_k8_4, List.forall_mem_nil _⟩⟩⟩⟩⟩) (by decide +kernel) ⟨List.forall_mem_nil _, List.forall_mem_nil _, List.forall_mem_cons.mpr ⟨cl_virtual (y := y_Sy_advance) (ci := 11) rfl rfl ⟨_, _, rfl⟩ (by decide +kernel) h_Sy_advance wm_2158 wm_23 wm_2155 wm_2157 wv_10_10 ⟨by decide, by decide, by decide +kernel⟩ (by decide), List.forall_mem_cons.mpr ⟨cl_virtual (y := y_Sy_emit) (ci := 11) rfl rfl ⟨_, _, rfl⟩ (by decide +kernel) h_Sy_emit wm_2258 wm_23 wm_2255 wm_2257 wv_11_2 ⟨by decide, by decide, by decide +kernel⟩ (by decide), List.forall_mem_cons.mpr ⟨cl_virtual (y := y_Sy_compileOne_at_k8) (ci := 11) rfl rfl ⟨_, _, rfl⟩ (by decide +kernel) h_Sy_compileOne_at_k8 wm_2253 wm_23 wm_2250 wm_2252 wv_11_1 ⟨by decide, by decide, by decide +kernel⟩ (by decide), List.forall_mem_cons.mpr ⟨cl_virtual (y := y_Sy_wordIn_at_s5010) (ci := 11) rfl rfl ⟨_, _, rfl⟩ (by decide +kernel) h_Sy_wordIn_at_s5010 wm_2229 wm_23 wm_2226 wm_2228 wv_10_12 ⟨by decide, by decide, by decide +kernel⟩ (by decide), List.forall_mem_cons.mpr ⟨cl_virtual (y := y_Sy_compileOne_at_k8) (ci := 11) rfl rfl ⟨_, _, rfl⟩ (by decide +kernel) h_Sy_compileOne_at_k8 wm_2253 wm_23 wm_2250 wm_2252 wv_11_1 ⟨by decide, by decide, by decide +kernel⟩ (by decide), List.forall_mem_cons.mpr ⟨cl_ldc (own := "DrawingHouse$Styler") (idx := 148) (i := 10) (tx := "and ") (by decide +kernel) (by decide +kernel) (by decide +kernel), List.forall_mem_nil _⟩⟩⟩⟩⟩⟩, List.forall_mem_nil _, List.forall_mem_nil _, GG_pl⟩ (by decide +kernel)
def o_Sy_compileBoth_at_k9_0 : or_T := (12, 5, [], [], [], [], [(24, [0, 0], [])], [], [])
theorem oo_Sy_compileBoth_at_k9_0 {kA : Nat → ClassId} : or_ok PRD kA GG o_Sy_compileBoth_at_k9_0 := by
  refine or_mk fun A ta ws vs hD hth hl => ?_
  have nf0 : fc_1 PRD (24, [0, 0], []) ws (vs) := by
    refine ⟨nf_in hl rfl, sgq_1 ?_⟩
    · show n_v vs 0 = n_v vs 0
      first | rfl | simp only [true_and]
  refine ⟨(fun _ h => (by cases h)), [], trivial, ?_, (fun _ h => (by cases h))⟩
  rw [List.append_nil]
  exact List.forall_mem_cons.mpr ⟨⟨show (24 : Nat) < 100 from by decide, nf0⟩, (fun _ h => (by cases h))⟩
set_option maxHeartbeats 4000000 in
theorem vc_Sy_compileBoth_at_k9_1_0 (kind_0 : Int) (number_0 : Int) (f0 : (kind_0 ≠ 3) ∨ (number_0 ≤ 9999)) (kz_0_6 : 0 ≤ kind_0 ∧ kind_0 ≤ 127) (kz_0_8 : 0 ≤ number_0 ∧ number_0 ≤ 1000000) : (kind_0 ≠ 3) ∨ (number_0 ≤ 9999) := by
  first
    | omega
  
def o_Sy_compileBoth_at_k9_1 : or_T := (56, 9, [(0, (2, 0, 0, [11]))], [(20, [3], [50, 2, 0, 6, 8, 3, 7, 7, 3, 2, 0, 6, 0, 3, 0, 3, 2, 0, 8, 0, 9999]), (24, [0, 3], [])], [], [], [(20, [0], [50, 2, 0, 6, 8, 3, 7, 7, 3, 2, 0, 6, 0, 3, 0, 3, 2, 0, 8, 0, 9999])], [], [])
theorem oo_Sy_compileBoth_at_k9_1 {kA : Nat → ClassId} : or_ok PRD kA GG o_Sy_compileBoth_at_k9_1 := by
  refine or_mk fun A ta ws vs hD hth hl => ?_
  intro t0 r0 f0 f1
  replace f0 := shm_1840 f0
  replace f1 := shm_5 f1
  have q3 : n_v vs 3 = n_v vs 0 := f1.symm
  simp only [q3] at f0
  have kz_0_6 := fdq_313 hD hth r0
  have kz_0_8 := fdq_314 hD hth r0
  have nf0 : fc_1 PRD (20, [0], [50, 2, 0, 6, 8, 3, 7, 7, 3, 2, 0, 6, 0, 3, 0, 3, 2, 0, 8, 0, 9999]) ws (vs) := ⟨nf_in hl rfl, sgq_1840 (vc_Sy_compileBoth_at_k9_1_0 (w_fi ws (n_v vs 0) 6) (w_fi ws (n_v vs 0) 8) f0 kz_0_6 kz_0_8)⟩
  refine ⟨(fun _ h => (by cases h)), [], trivial, ?_, (fun _ h => (by cases h))⟩
  rw [List.append_nil]
  exact List.forall_mem_cons.mpr ⟨⟨show (20 : Nat) < 100 from by decide, nf0⟩, (fun _ h => (by cases h))⟩
set_option maxHeartbeats 4000000 in
theorem vc_Sy_compileBoth_at_k9_2_0 (kind_0 : Int) (number_0 : Int) (f0 : (kind_0 ≠ 3) ∨ (number_0 ≤ 9999)) (kz_0_6 : 0 ≤ kind_0 ∧ kind_0 ≤ 127) (kz_0_8 : 0 ≤ number_0 ∧ number_0 ≤ 1000000) : (kind_0 ≠ 3) ∨ (number_0 ≤ 9999) := by
  first
    | omega
  
def o_Sy_compileBoth_at_k9_2 : or_T := (56, 11, [(0, (2, 0, 0, [11]))], [(20, [3], [50, 2, 0, 6, 8, 3, 7, 7, 3, 2, 0, 6, 0, 3, 0, 3, 2, 0, 8, 0, 9999]), (24, [0, 3], [])], [], [], [(20, [0], [50, 2, 0, 6, 8, 3, 7, 7, 3, 2, 0, 6, 0, 3, 0, 3, 2, 0, 8, 0, 9999])], [], [])
theorem oo_Sy_compileBoth_at_k9_2 {kA : Nat → ClassId} : or_ok PRD kA GG o_Sy_compileBoth_at_k9_2 := by
  refine or_mk fun A ta ws vs hD hth hl => ?_
  intro t0 r0 f0 f1
  replace f0 := shm_1840 f0
  replace f1 := shm_5 f1
  have q3 : n_v vs 3 = n_v vs 0 := f1.symm
  simp only [q3] at f0
  have kz_0_6 := fdq_313 hD hth r0
  have kz_0_8 := fdq_314 hD hth r0
  have nf0 : fc_1 PRD (20, [0], [50, 2, 0, 6, 8, 3, 7, 7, 3, 2, 0, 6, 0, 3, 0, 3, 2, 0, 8, 0, 9999]) ws (vs) := ⟨nf_in hl rfl, sgq_1840 (vc_Sy_compileBoth_at_k9_2_0 (w_fi ws (n_v vs 0) 6) (w_fi ws (n_v vs 0) 8) f0 kz_0_6 kz_0_8)⟩
  refine ⟨(fun _ h => (by cases h)), [], trivial, ?_, (fun _ h => (by cases h))⟩
  rw [List.append_nil]
  exact List.forall_mem_cons.mpr ⟨⟨show (20 : Nat) < 100 from by decide, nf0⟩, (fun _ h => (by cases h))⟩
set_option maxHeartbeats 4000000 in
theorem vc_Sy_compileBoth_at_k9_3_0 (x11 : Int) (x12 : Int) (k11 : 9 ≤ x11 ∧ x11 ≤ 9) (k12 : 0 ≤ x12 ∧ x12 ≤ 0) : (0 ≤ x11) ∧ ((0 ≤ x12) ∧ (((x11 * 65536) + x12) ≤ 851970)) := by
  first
    | omega
  
def o_Sy_compileBoth_at_k9_3 : or_T := (46, 13, [(11, (0, 9, 9, [])), (12, (0, 0, 0, []))], [], [], [], [(20, [11, 12], [50, 0, 0, 2, 6, 0, 2, 0, 0, 1, 0, 2, 6, 0, 2, 0, 0, 1, 1, 0, 10, 4, 6, 6, 2, 1, 0, 0, 65536, 1, 1, 0, 851970])], [], [])
theorem oo_Sy_compileBoth_at_k9_3 {kA : Nat → ClassId} : or_ok PRD kA GG o_Sy_compileBoth_at_k9_3 := by
  refine or_mk fun A ta ws vs hD hth hl => ?_
  intro t11 k11 t12 k12
  have nf0 : fc_1 PRD (20, [11, 12], [50, 0, 0, 2, 6, 0, 2, 0, 0, 1, 0, 2, 6, 0, 2, 0, 0, 1, 1, 0, 10, 4, 6, 6, 2, 1, 0, 0, 65536, 1, 1, 0, 851970]) ws (vs) := ⟨nf_in hl rfl, sgq_493 (vc_Sy_compileBoth_at_k9_3_0 (v_iv (n_v vs 11)) (v_iv (n_v vs 12)) k11 k12)⟩
  refine ⟨(fun _ h => (by cases h)), [], trivial, ?_, (fun _ h => (by cases h))⟩
  rw [List.append_nil]
  exact List.forall_mem_cons.mpr ⟨⟨show (20 : Nat) < 100 from by decide, nf0⟩, (fun _ h => (by cases h))⟩
set_option maxHeartbeats 4000000 in
theorem vc_Sy_compileBoth_at_k9_4_0 (kind_0 : Int) (number_0 : Int) (f1 : (kind_0 ≠ 3) ∨ (number_0 ≤ 9999)) (kz_0_6 : 0 ≤ kind_0 ∧ kind_0 ≤ 127) (kz_0_8 : 0 ≤ number_0 ∧ number_0 ≤ 1000000) : (kind_0 ≠ 3) ∨ (number_0 ≤ 9999) := by
  first
    | omega
  
def o_Sy_compileBoth_at_k9_4 : or_T := (41, 12, [(0, (2, 0, 0, [11]))], [(24, [0, 3], []), (20, [3], [50, 2, 0, 6, 8, 3, 7, 7, 3, 2, 0, 6, 0, 3, 0, 3, 2, 0, 8, 0, 9999])], [], [], [(20, [0], [50, 2, 0, 6, 8, 3, 7, 7, 3, 2, 0, 6, 0, 3, 0, 3, 2, 0, 8, 0, 9999])], [], [])
theorem oo_Sy_compileBoth_at_k9_4 {kA : Nat → ClassId} : or_ok PRD kA GG o_Sy_compileBoth_at_k9_4 := by
  refine or_mk fun A ta ws vs hD hth hl => ?_
  intro t0 r0 f0 f1
  replace f0 := shm_5 f0
  replace f1 := shm_1840 f1
  have q3 : n_v vs 3 = n_v vs 0 := f0.symm
  simp only [q3] at f1
  have kz_0_6 := fdq_313 hD hth r0
  have kz_0_8 := fdq_314 hD hth r0
  have nf0 : fc_1 PRD (20, [0], [50, 2, 0, 6, 8, 3, 7, 7, 3, 2, 0, 6, 0, 3, 0, 3, 2, 0, 8, 0, 9999]) ws (vs) := ⟨nf_in hl rfl, sgq_1840 (vc_Sy_compileBoth_at_k9_4_0 (w_fi ws (n_v vs 0) 6) (w_fi ws (n_v vs 0) 8) f1 kz_0_6 kz_0_8)⟩
  refine ⟨(fun _ h => (by cases h)), [], trivial, ?_, (fun _ h => (by cases h))⟩
  rw [List.append_nil]
  exact List.forall_mem_cons.mpr ⟨⟨show (20 : Nat) < 100 from by decide, nf0⟩, (fun _ h => (by cases h))⟩
def n_Sy_compileBoth_at_k9_an : List an_T := [(12, [(0, (2, 0, 0, [11])), (1, (0, 9, 9, [])), (2, (0, 0, 2000, []))], [], (0, 0), [(0, 0, 99988), (1, 5, 2000), (0, 0, 100000)], [], [((0, 3), (2, 0, 0, [109]))], [(2, 0, 0, [11]), (0, 9, 9, []), (2, 0, 0, [109])], 0, [], [(20, [3], [50, 2, 0, 6, 8, 3, 7, 7, 3, 2, 0, 6, 0, 3, 0, 3, 2, 0, 8, 0, 9999]), (24, [0, 3], [])])]
def t_Sy_compileBoth_at_k9_ct : ct_L := [(1, 69, e_Sy_advance), (1, 128, e_Sy_emit), (10, 145, e_Sy_compileOne_at_k9), (70, 114, e_Sy_wordIn_at_s5010), (106, 145, e_Sy_compileOne_at_k9), (1000000, 148, en_ro [] (2, 0, 0, [5010]))]
set_option maxRecDepth 100000 in
theorem c_Sy_compileBoth_at_k9 {l : Launch} {D : va_G} {kA : Nat → ClassId} (h_Sy_advance : ct_ok PRD l D kA GG y_Sy_advance z_Sy_advance e_Sy_advance) (h_Sy_compileOne_at_k9 : ct_ok PRD l D kA GG y_Sy_compileOne_at_k9 z_Sy_compileOne_at_k9 e_Sy_compileOne_at_k9) (h_Sy_emit : ct_ok PRD l D kA GG y_Sy_emit z_Sy_emit e_Sy_emit) (h_Sy_wordIn_at_s5010 : ct_ok PRD l D kA GG y_Sy_wordIn_at_s5010 z_Sy_wordIn_at_s5010 e_Sy_wordIn_at_s5010) : ct_ok PRD l D kA GG y_Sy_compileBoth_at_k9 z_Sy_compileBoth_at_k9 e_Sy_compileBoth_at_k9 := chk_all_ok (FT := []) (PT := []) (CT := t_Sy_compileBoth_at_k9_ct) (KT := []) (NT := []) (AN := n_Sy_compileBoth_at_k9_an) (OT := [o_Sy_compileBoth_at_k9_0, o_Sy_compileBoth_at_k9_1, o_Sy_compileBoth_at_k9_2, o_Sy_compileBoth_at_k9_3, o_Sy_compileBoth_at_k9_4]) 3 200 (List.forall_mem_cons.mpr ⟨oo_Sy_compileBoth_at_k9_0, List.forall_mem_cons.mpr ⟨oo_Sy_compileBoth_at_k9_1, List.forall_mem_cons.mpr ⟨oo_Sy_compileBoth_at_k9_2, List.forall_mem_cons.mpr ⟨oo_Sy_compileBoth_at_k9_3, List.forall_mem_cons.mpr ⟨oo_Sy_compileBoth_at_k9_4, List.forall_mem_nil _⟩⟩⟩⟩⟩) (by decide +kernel) ⟨List.forall_mem_nil _, List.forall_mem_nil _, List.forall_mem_cons.mpr ⟨cl_virtual (y := y_Sy_advance) (ci := 11) rfl rfl ⟨_, _, rfl⟩ (by decide +kernel) h_Sy_advance wm_2158 wm_23 wm_2155 wm_2157 wv_10_10 ⟨by decide, by decide, by decide +kernel⟩ (by decide), List.forall_mem_cons.mpr ⟨cl_virtual (y := y_Sy_emit) (ci := 11) rfl rfl ⟨_, _, rfl⟩ (by decide +kernel) h_Sy_emit wm_2258 wm_23 wm_2255 wm_2257 wv_11_2 ⟨by decide, by decide, by decide +kernel⟩ (by decide), List.forall_mem_cons.mpr ⟨cl_virtual (y := y_Sy_compileOne_at_k9) (ci := 11) rfl rfl ⟨_, _, rfl⟩ (by decide +kernel) h_Sy_compileOne_at_k9 wm_2253 wm_23 wm_2250 wm_2252 wv_11_1 ⟨by decide, by decide, by decide +kernel⟩ (by decide), List.forall_mem_cons.mpr ⟨cl_virtual (y := y_Sy_wordIn_at_s5010) (ci := 11) rfl rfl ⟨_, _, rfl⟩ (by decide +kernel) h_Sy_wordIn_at_s5010 wm_2229 wm_23 wm_2226 wm_2228 wv_10_12 ⟨by decide, by decide, by decide +kernel⟩ (by decide), List.forall_mem_cons.mpr ⟨cl_virtual (y := y_Sy_compileOne_at_k9) (ci := 11) rfl rfl ⟨_, _, rfl⟩ (by decide +kernel) h_Sy_compileOne_at_k9 wm_2253 wm_23 wm_2250 wm_2252 wv_11_1 ⟨by decide, by decide, by decide +kernel⟩ (by decide), List.forall_mem_cons.mpr ⟨cl_ldc (own := "DrawingHouse$Styler") (idx := 148) (i := 10) (tx := "and ") (by decide +kernel) (by decide +kernel) (by decide +kernel), List.forall_mem_nil _⟩⟩⟩⟩⟩⟩, List.forall_mem_nil _, List.forall_mem_nil _, GG_pl⟩ (by decide +kernel)
set_option maxHeartbeats 4000000 in
theorem vc_Sy_compileOne_at_k0_0_0 (x13 : Int) (x14 : Int) (k13 : 6 ≤ x13 ∧ x13 ≤ 6) (k14 : 0 ≤ x14 ∧ x14 ≤ 0) : (0 ≤ x13) ∧ ((0 ≤ x14) ∧ (((x13 * 65536) + x14) ≤ 851970)) := by
  first
    | omega
  
def o_Sy_compileOne_at_k0_0 : or_T := (160, 15, [(13, (0, 6, 6, [])), (14, (0, 0, 0, []))], [], [], [], [(20, [13, 14], [50, 0, 0, 2, 6, 0, 2, 0, 0, 1, 0, 2, 6, 0, 2, 0, 0, 1, 1, 0, 10, 4, 6, 6, 2, 1, 0, 0, 65536, 1, 1, 0, 851970])], [], [])
theorem oo_Sy_compileOne_at_k0_0 {kA : Nat → ClassId} : or_ok PRD kA GG o_Sy_compileOne_at_k0_0 := by
  refine or_mk fun A ta ws vs hD hth hl => ?_
  intro t13 k13 t14 k14
  have nf0 : fc_1 PRD (20, [13, 14], [50, 0, 0, 2, 6, 0, 2, 0, 0, 1, 0, 2, 6, 0, 2, 0, 0, 1, 1, 0, 10, 4, 6, 6, 2, 1, 0, 0, 65536, 1, 1, 0, 851970]) ws (vs) := ⟨nf_in hl rfl, sgq_493 (vc_Sy_compileOne_at_k0_0_0 (v_iv (n_v vs 13)) (v_iv (n_v vs 14)) k13 k14)⟩
  refine ⟨(fun _ h => (by cases h)), [], trivial, ?_, (fun _ h => (by cases h))⟩
  rw [List.append_nil]
  exact List.forall_mem_cons.mpr ⟨⟨show (20 : Nat) < 100 from by decide, nf0⟩, (fun _ h => (by cases h))⟩
set_option maxHeartbeats 4000000 in
theorem vc_Sy_compileOne_at_k0_1_0 (x15 : Int) (x16 : Int) (k15 : 7 ≤ x15 ∧ x15 ≤ 7) (k16 : 0 ≤ x16 ∧ x16 ≤ 0) : (0 ≤ x15) ∧ ((0 ≤ x16) ∧ (((x15 * 65536) + x16) ≤ 851970)) := by
  first
    | omega
  
def o_Sy_compileOne_at_k0_1 : or_T := (160, 17, [(15, (0, 7, 7, [])), (16, (0, 0, 0, []))], [], [], [], [(20, [15, 16], [50, 0, 0, 2, 6, 0, 2, 0, 0, 1, 0, 2, 6, 0, 2, 0, 0, 1, 1, 0, 10, 4, 6, 6, 2, 1, 0, 0, 65536, 1, 1, 0, 851970])], [], [])
theorem oo_Sy_compileOne_at_k0_1 {kA : Nat → ClassId} : or_ok PRD kA GG o_Sy_compileOne_at_k0_1 := by
  refine or_mk fun A ta ws vs hD hth hl => ?_
  intro t15 k15 t16 k16
  have nf0 : fc_1 PRD (20, [15, 16], [50, 0, 0, 2, 6, 0, 2, 0, 0, 1, 0, 2, 6, 0, 2, 0, 0, 1, 1, 0, 10, 4, 6, 6, 2, 1, 0, 0, 65536, 1, 1, 0, 851970]) ws (vs) := ⟨nf_in hl rfl, sgq_493 (vc_Sy_compileOne_at_k0_1_0 (v_iv (n_v vs 15)) (v_iv (n_v vs 16)) k15 k16)⟩
  refine ⟨(fun _ h => (by cases h)), [], trivial, ?_, (fun _ h => (by cases h))⟩
  rw [List.append_nil]
  exact List.forall_mem_cons.mpr ⟨⟨show (20 : Nat) < 100 from by decide, nf0⟩, (fun _ h => (by cases h))⟩
set_option maxHeartbeats 4000000 in
theorem vc_Sy_compileOne_at_k0_2_0 (x16 : Int) (x17 : Int) (k16 : 8 ≤ x16 ∧ x16 ≤ 8) (k17 : 0 ≤ x17 ∧ x17 ≤ 0) : (0 ≤ x16) ∧ ((0 ≤ x17) ∧ (((x16 * 65536) + x17) ≤ 851970)) := by
  first
    | omega
  
def o_Sy_compileOne_at_k0_2 : or_T := (160, 18, [(16, (0, 8, 8, [])), (17, (0, 0, 0, []))], [], [], [], [(20, [16, 17], [50, 0, 0, 2, 6, 0, 2, 0, 0, 1, 0, 2, 6, 0, 2, 0, 0, 1, 1, 0, 10, 4, 6, 6, 2, 1, 0, 0, 65536, 1, 1, 0, 851970])], [], [])
theorem oo_Sy_compileOne_at_k0_2 {kA : Nat → ClassId} : or_ok PRD kA GG o_Sy_compileOne_at_k0_2 := by
  refine or_mk fun A ta ws vs hD hth hl => ?_
  intro t16 k16 t17 k17
  have nf0 : fc_1 PRD (20, [16, 17], [50, 0, 0, 2, 6, 0, 2, 0, 0, 1, 0, 2, 6, 0, 2, 0, 0, 1, 1, 0, 10, 4, 6, 6, 2, 1, 0, 0, 65536, 1, 1, 0, 851970]) ws (vs) := ⟨nf_in hl rfl, sgq_493 (vc_Sy_compileOne_at_k0_2_0 (v_iv (n_v vs 16)) (v_iv (n_v vs 17)) k16 k17)⟩
  refine ⟨(fun _ h => (by cases h)), [], trivial, ?_, (fun _ h => (by cases h))⟩
  rw [List.append_nil]
  exact List.forall_mem_cons.mpr ⟨⟨show (20 : Nat) < 100 from by decide, nf0⟩, (fun _ h => (by cases h))⟩
set_option maxHeartbeats 4000000 in
theorem vc_Sy_compileOne_at_k0_3_0 (x10 : Int) (x11 : Int) (k10 : 11 ≤ x10 ∧ x10 ≤ 11) (k11 : 0 ≤ x11 ∧ x11 ≤ 0) : (0 ≤ x10) ∧ ((0 ≤ x11) ∧ (((x10 * 65536) + x11) ≤ 851970)) := by
  first
    | omega
  
def o_Sy_compileOne_at_k0_3 : or_T := (60, 12, [(10, (0, 11, 11, [])), (11, (0, 0, 0, []))], [], [], [], [(20, [10, 11], [50, 0, 0, 2, 6, 0, 2, 0, 0, 1, 0, 2, 6, 0, 2, 0, 0, 1, 1, 0, 10, 4, 6, 6, 2, 1, 0, 0, 65536, 1, 1, 0, 851970])], [], [])
theorem oo_Sy_compileOne_at_k0_3 {kA : Nat → ClassId} : or_ok PRD kA GG o_Sy_compileOne_at_k0_3 := by
  refine or_mk fun A ta ws vs hD hth hl => ?_
  intro t10 k10 t11 k11
  have nf0 : fc_1 PRD (20, [10, 11], [50, 0, 0, 2, 6, 0, 2, 0, 0, 1, 0, 2, 6, 0, 2, 0, 0, 1, 1, 0, 10, 4, 6, 6, 2, 1, 0, 0, 65536, 1, 1, 0, 851970]) ws (vs) := ⟨nf_in hl rfl, sgq_493 (vc_Sy_compileOne_at_k0_3_0 (v_iv (n_v vs 10)) (v_iv (n_v vs 11)) k10 k11)⟩
  refine ⟨(fun _ h => (by cases h)), [], trivial, ?_, (fun _ h => (by cases h))⟩
  rw [List.append_nil]
  exact List.forall_mem_cons.mpr ⟨⟨show (20 : Nat) < 100 from by decide, nf0⟩, (fun _ h => (by cases h))⟩
def n_Sy_compileOne_at_k0_an : List an_T := []
def t_Sy_compileOne_at_k0_ct : ct_L := [(1, 69, e_Sy_advance), (1, 118, e_Sy_fail), (1, 128, e_Sy_emit), (1, 152, e_Sy_closes), (13, 114, e_Sy_wordIn_at_s5009), (160, 145, e_Sy_compileOne_at_k1), (211, 125, e_Sy_compileTest_at_k1), (262, 137, e_Sy_compileSum_at_k0), (391, 137, e_Sy_compileSum_at_k0), (1000000, 150, en_ro [] (2, 0, 0, [5009]))]
set_option maxRecDepth 100000 in
theorem c_Sy_compileOne_at_k0 {l : Launch} {D : va_G} {kA : Nat → ClassId} (h_Sy_advance : ct_ok PRD l D kA GG y_Sy_advance z_Sy_advance e_Sy_advance) (h_Sy_closes : ct_ok PRD l D kA GG y_Sy_closes z_Sy_closes e_Sy_closes) (h_Sy_compileOne_at_k1 : ct_ok PRD l D kA GG y_Sy_compileOne_at_k1 z_Sy_compileOne_at_k1 e_Sy_compileOne_at_k1) (h_Sy_compileSum_at_k0 : ct_ok PRD l D kA GG y_Sy_compileSum_at_k0 z_Sy_compileSum_at_k0 e_Sy_compileSum_at_k0) (h_Sy_compileTest_at_k1 : ct_ok PRD l D kA GG y_Sy_compileTest_at_k1 z_Sy_compileTest_at_k1 e_Sy_compileTest_at_k1) (h_Sy_emit : ct_ok PRD l D kA GG y_Sy_emit z_Sy_emit e_Sy_emit) (h_Sy_fail : ct_ok PRD l D kA GG y_Sy_fail z_Sy_fail e_Sy_fail) (h_Sy_wordIn_at_s5009 : ct_ok PRD l D kA GG y_Sy_wordIn_at_s5009 z_Sy_wordIn_at_s5009 e_Sy_wordIn_at_s5009) : ct_ok PRD l D kA GG y_Sy_compileOne_at_k0 z_Sy_compileOne_at_k0 e_Sy_compileOne_at_k0 := chk_all_ok (FT := [(31, 11, 6)]) (PT := []) (CT := t_Sy_compileOne_at_k0_ct) (KT := []) (NT := []) (AN := n_Sy_compileOne_at_k0_an) (OT := [o_Sy_compileOne_at_k0_0, o_Sy_compileOne_at_k0_1, o_Sy_compileOne_at_k0_2, o_Sy_compileOne_at_k0_3]) 0 580 (List.forall_mem_cons.mpr ⟨oo_Sy_compileOne_at_k0_0, List.forall_mem_cons.mpr ⟨oo_Sy_compileOne_at_k0_1, List.forall_mem_cons.mpr ⟨oo_Sy_compileOne_at_k0_2, List.forall_mem_cons.mpr ⟨oo_Sy_compileOne_at_k0_3, List.forall_mem_nil _⟩⟩⟩⟩) (by decide +kernel) ⟨List.forall_mem_cons.mpr ⟨gf_Sy_31, List.forall_mem_nil _⟩, List.forall_mem_nil _, List.forall_mem_cons.mpr ⟨cl_virtual (y := y_Sy_advance) (ci := 11) rfl rfl ⟨_, _, rfl⟩ (by decide +kernel) h_Sy_advance wm_2158 wm_23 wm_2155 wm_2157 wv_10_10 ⟨by decide, by decide, by decide +kernel⟩ (by decide), List.forall_mem_cons.mpr ⟨cl_virtual (y := y_Sy_fail) (ci := 11) rfl rfl ⟨_, _, rfl⟩ (by decide +kernel) h_Sy_fail wm_2239 wm_23 wm_2236 wm_2238 wv_10_14 ⟨by decide, by decide, by decide +kernel⟩ (by decide), List.forall_mem_cons.mpr ⟨cl_virtual (y := y_Sy_emit) (ci := 11) rfl rfl ⟨_, _, rfl⟩ (by decide +kernel) h_Sy_emit wm_2258 wm_23 wm_2255 wm_2257 wv_11_2 ⟨by decide, by decide, by decide +kernel⟩ (by decide), List.forall_mem_cons.mpr ⟨cl_virtual (y := y_Sy_closes) (ci := 11) rfl rfl ⟨_, _, rfl⟩ (by decide +kernel) h_Sy_closes wm_2262 wm_23 wm_2259 wm_2261 wv_11_3 ⟨by decide, by decide, by decide +kernel⟩ (by decide), List.forall_mem_cons.mpr ⟨cl_virtual (y := y_Sy_wordIn_at_s5009) (ci := 11) rfl rfl ⟨_, _, rfl⟩ (by decide +kernel) h_Sy_wordIn_at_s5009 wm_2229 wm_23 wm_2226 wm_2228 wv_10_12 ⟨by decide, by decide, by decide +kernel⟩ (by decide), List.forall_mem_cons.mpr ⟨cl_virtual (y := y_Sy_compileOne_at_k1) (ci := 11) rfl rfl ⟨_, _, rfl⟩ (by decide +kernel) h_Sy_compileOne_at_k1 wm_2253 wm_23 wm_2250 wm_2252 wv_11_1 ⟨by decide, by decide, by decide +kernel⟩ (by decide), List.forall_mem_cons.mpr ⟨cl_virtual (y := y_Sy_compileTest_at_k1) (ci := 11) rfl rfl ⟨_, _, rfl⟩ (by decide +kernel) h_Sy_compileTest_at_k1 wm_2245 wm_23 wm_2242 wm_2244 wv_10_15 ⟨by decide, by decide, by decide +kernel⟩ (by decide), List.forall_mem_cons.mpr ⟨cl_virtual (y := y_Sy_compileSum_at_k0) (ci := 11) rfl rfl ⟨_, _, rfl⟩ (by decide +kernel) h_Sy_compileSum_at_k0 wm_2266 wm_23 wm_2263 wm_2265 wv_11_4 ⟨by decide, by decide, by decide +kernel⟩ (by decide), List.forall_mem_cons.mpr ⟨cl_virtual (y := y_Sy_compileSum_at_k0) (ci := 11) rfl rfl ⟨_, _, rfl⟩ (by decide +kernel) h_Sy_compileSum_at_k0 wm_2266 wm_23 wm_2263 wm_2265 wv_11_4 ⟨by decide, by decide, by decide +kernel⟩ (by decide), List.forall_mem_cons.mpr ⟨cl_ldc (own := "DrawingHouse$Styler") (idx := 150) (i := 9) (tx := "not ") (by decide +kernel) (by decide +kernel) (by decide +kernel), List.forall_mem_nil _⟩⟩⟩⟩⟩⟩⟩⟩⟩⟩, List.forall_mem_nil _, List.forall_mem_nil _, GG_pl⟩ (by decide +kernel)
set_option maxHeartbeats 4000000 in
theorem vc_Sy_compileOne_at_k1_0_0 (x13 : Int) (x14 : Int) (k13 : 6 ≤ x13 ∧ x13 ≤ 6) (k14 : 0 ≤ x14 ∧ x14 ≤ 0) : (0 ≤ x13) ∧ ((0 ≤ x14) ∧ (((x13 * 65536) + x14) ≤ 851970)) := by
  first
    | omega
  
def o_Sy_compileOne_at_k1_0 : or_T := (160, 15, [(13, (0, 6, 6, [])), (14, (0, 0, 0, []))], [], [], [], [(20, [13, 14], [50, 0, 0, 2, 6, 0, 2, 0, 0, 1, 0, 2, 6, 0, 2, 0, 0, 1, 1, 0, 10, 4, 6, 6, 2, 1, 0, 0, 65536, 1, 1, 0, 851970])], [], [])
theorem oo_Sy_compileOne_at_k1_0 {kA : Nat → ClassId} : or_ok PRD kA GG o_Sy_compileOne_at_k1_0 := by
  refine or_mk fun A ta ws vs hD hth hl => ?_
  intro t13 k13 t14 k14
  have nf0 : fc_1 PRD (20, [13, 14], [50, 0, 0, 2, 6, 0, 2, 0, 0, 1, 0, 2, 6, 0, 2, 0, 0, 1, 1, 0, 10, 4, 6, 6, 2, 1, 0, 0, 65536, 1, 1, 0, 851970]) ws (vs) := ⟨nf_in hl rfl, sgq_493 (vc_Sy_compileOne_at_k1_0_0 (v_iv (n_v vs 13)) (v_iv (n_v vs 14)) k13 k14)⟩
  refine ⟨(fun _ h => (by cases h)), [], trivial, ?_, (fun _ h => (by cases h))⟩
  rw [List.append_nil]
  exact List.forall_mem_cons.mpr ⟨⟨show (20 : Nat) < 100 from by decide, nf0⟩, (fun _ h => (by cases h))⟩
set_option maxHeartbeats 4000000 in
theorem vc_Sy_compileOne_at_k1_1_0 (x15 : Int) (x16 : Int) (k15 : 7 ≤ x15 ∧ x15 ≤ 7) (k16 : 0 ≤ x16 ∧ x16 ≤ 0) : (0 ≤ x15) ∧ ((0 ≤ x16) ∧ (((x15 * 65536) + x16) ≤ 851970)) := by
  first
    | omega
  
def o_Sy_compileOne_at_k1_1 : or_T := (160, 17, [(15, (0, 7, 7, [])), (16, (0, 0, 0, []))], [], [], [], [(20, [15, 16], [50, 0, 0, 2, 6, 0, 2, 0, 0, 1, 0, 2, 6, 0, 2, 0, 0, 1, 1, 0, 10, 4, 6, 6, 2, 1, 0, 0, 65536, 1, 1, 0, 851970])], [], [])
theorem oo_Sy_compileOne_at_k1_1 {kA : Nat → ClassId} : or_ok PRD kA GG o_Sy_compileOne_at_k1_1 := by
  refine or_mk fun A ta ws vs hD hth hl => ?_
  intro t15 k15 t16 k16
  have nf0 : fc_1 PRD (20, [15, 16], [50, 0, 0, 2, 6, 0, 2, 0, 0, 1, 0, 2, 6, 0, 2, 0, 0, 1, 1, 0, 10, 4, 6, 6, 2, 1, 0, 0, 65536, 1, 1, 0, 851970]) ws (vs) := ⟨nf_in hl rfl, sgq_493 (vc_Sy_compileOne_at_k1_1_0 (v_iv (n_v vs 15)) (v_iv (n_v vs 16)) k15 k16)⟩
  refine ⟨(fun _ h => (by cases h)), [], trivial, ?_, (fun _ h => (by cases h))⟩
  rw [List.append_nil]
  exact List.forall_mem_cons.mpr ⟨⟨show (20 : Nat) < 100 from by decide, nf0⟩, (fun _ h => (by cases h))⟩
set_option maxHeartbeats 4000000 in
theorem vc_Sy_compileOne_at_k1_2_0 (x16 : Int) (x17 : Int) (k16 : 8 ≤ x16 ∧ x16 ≤ 8) (k17 : 0 ≤ x17 ∧ x17 ≤ 0) : (0 ≤ x16) ∧ ((0 ≤ x17) ∧ (((x16 * 65536) + x17) ≤ 851970)) := by
  first
    | omega
  
def o_Sy_compileOne_at_k1_2 : or_T := (160, 18, [(16, (0, 8, 8, [])), (17, (0, 0, 0, []))], [], [], [], [(20, [16, 17], [50, 0, 0, 2, 6, 0, 2, 0, 0, 1, 0, 2, 6, 0, 2, 0, 0, 1, 1, 0, 10, 4, 6, 6, 2, 1, 0, 0, 65536, 1, 1, 0, 851970])], [], [])
theorem oo_Sy_compileOne_at_k1_2 {kA : Nat → ClassId} : or_ok PRD kA GG o_Sy_compileOne_at_k1_2 := by
  refine or_mk fun A ta ws vs hD hth hl => ?_
  intro t16 k16 t17 k17
  have nf0 : fc_1 PRD (20, [16, 17], [50, 0, 0, 2, 6, 0, 2, 0, 0, 1, 0, 2, 6, 0, 2, 0, 0, 1, 1, 0, 10, 4, 6, 6, 2, 1, 0, 0, 65536, 1, 1, 0, 851970]) ws (vs) := ⟨nf_in hl rfl, sgq_493 (vc_Sy_compileOne_at_k1_2_0 (v_iv (n_v vs 16)) (v_iv (n_v vs 17)) k16 k17)⟩
  refine ⟨(fun _ h => (by cases h)), [], trivial, ?_, (fun _ h => (by cases h))⟩
  rw [List.append_nil]
  exact List.forall_mem_cons.mpr ⟨⟨show (20 : Nat) < 100 from by decide, nf0⟩, (fun _ h => (by cases h))⟩
set_option maxHeartbeats 4000000 in
theorem vc_Sy_compileOne_at_k1_3_0 (x10 : Int) (x11 : Int) (k10 : 11 ≤ x10 ∧ x10 ≤ 11) (k11 : 0 ≤ x11 ∧ x11 ≤ 0) : (0 ≤ x10) ∧ ((0 ≤ x11) ∧ (((x10 * 65536) + x11) ≤ 851970)) := by
  first
    | omega
  
def o_Sy_compileOne_at_k1_3 : or_T := (60, 12, [(10, (0, 11, 11, [])), (11, (0, 0, 0, []))], [], [], [], [(20, [10, 11], [50, 0, 0, 2, 6, 0, 2, 0, 0, 1, 0, 2, 6, 0, 2, 0, 0, 1, 1, 0, 10, 4, 6, 6, 2, 1, 0, 0, 65536, 1, 1, 0, 851970])], [], [])
theorem oo_Sy_compileOne_at_k1_3 {kA : Nat → ClassId} : or_ok PRD kA GG o_Sy_compileOne_at_k1_3 := by
  refine or_mk fun A ta ws vs hD hth hl => ?_
  intro t10 k10 t11 k11
  have nf0 : fc_1 PRD (20, [10, 11], [50, 0, 0, 2, 6, 0, 2, 0, 0, 1, 0, 2, 6, 0, 2, 0, 0, 1, 1, 0, 10, 4, 6, 6, 2, 1, 0, 0, 65536, 1, 1, 0, 851970]) ws (vs) := ⟨nf_in hl rfl, sgq_493 (vc_Sy_compileOne_at_k1_3_0 (v_iv (n_v vs 10)) (v_iv (n_v vs 11)) k10 k11)⟩
  refine ⟨(fun _ h => (by cases h)), [], trivial, ?_, (fun _ h => (by cases h))⟩
  rw [List.append_nil]
  exact List.forall_mem_cons.mpr ⟨⟨show (20 : Nat) < 100 from by decide, nf0⟩, (fun _ h => (by cases h))⟩
def n_Sy_compileOne_at_k1_an : List an_T := []
def t_Sy_compileOne_at_k1_ct : ct_L := [(1, 69, e_Sy_advance), (1, 118, e_Sy_fail), (1, 128, e_Sy_emit), (1, 152, e_Sy_closes), (13, 114, e_Sy_wordIn_at_s5009), (160, 145, e_Sy_compileOne_at_k2), (211, 125, e_Sy_compileTest_at_k2), (262, 137, e_Sy_compileSum_at_k1), (391, 137, e_Sy_compileSum_at_k1), (1000000, 150, en_ro [] (2, 0, 0, [5009]))]
set_option maxRecDepth 100000 in
theorem c_Sy_compileOne_at_k1 {l : Launch} {D : va_G} {kA : Nat → ClassId} (h_Sy_advance : ct_ok PRD l D kA GG y_Sy_advance z_Sy_advance e_Sy_advance) (h_Sy_closes : ct_ok PRD l D kA GG y_Sy_closes z_Sy_closes e_Sy_closes) (h_Sy_compileOne_at_k2 : ct_ok PRD l D kA GG y_Sy_compileOne_at_k2 z_Sy_compileOne_at_k2 e_Sy_compileOne_at_k2) (h_Sy_compileSum_at_k1 : ct_ok PRD l D kA GG y_Sy_compileSum_at_k1 z_Sy_compileSum_at_k1 e_Sy_compileSum_at_k1) (h_Sy_compileTest_at_k2 : ct_ok PRD l D kA GG y_Sy_compileTest_at_k2 z_Sy_compileTest_at_k2 e_Sy_compileTest_at_k2) (h_Sy_emit : ct_ok PRD l D kA GG y_Sy_emit z_Sy_emit e_Sy_emit) (h_Sy_fail : ct_ok PRD l D kA GG y_Sy_fail z_Sy_fail e_Sy_fail) (h_Sy_wordIn_at_s5009 : ct_ok PRD l D kA GG y_Sy_wordIn_at_s5009 z_Sy_wordIn_at_s5009 e_Sy_wordIn_at_s5009) : ct_ok PRD l D kA GG y_Sy_compileOne_at_k1 z_Sy_compileOne_at_k1 e_Sy_compileOne_at_k1 := chk_all_ok (FT := [(31, 11, 6)]) (PT := []) (CT := t_Sy_compileOne_at_k1_ct) (KT := []) (NT := []) (AN := n_Sy_compileOne_at_k1_an) (OT := [o_Sy_compileOne_at_k1_0, o_Sy_compileOne_at_k1_1, o_Sy_compileOne_at_k1_2, o_Sy_compileOne_at_k1_3]) 0 580 (List.forall_mem_cons.mpr ⟨oo_Sy_compileOne_at_k1_0, List.forall_mem_cons.mpr ⟨oo_Sy_compileOne_at_k1_1, List.forall_mem_cons.mpr ⟨oo_Sy_compileOne_at_k1_2, List.forall_mem_cons.mpr ⟨oo_Sy_compileOne_at_k1_3, List.forall_mem_nil _⟩⟩⟩⟩) (by decide +kernel) ⟨List.forall_mem_cons.mpr ⟨gf_Sy_31, List.forall_mem_nil _⟩, List.forall_mem_nil _, List.forall_mem_cons.mpr ⟨cl_virtual (y := y_Sy_advance) (ci := 11) rfl rfl ⟨_, _, rfl⟩ (by decide +kernel) h_Sy_advance wm_2158 wm_23 wm_2155 wm_2157 wv_10_10 ⟨by decide, by decide, by decide +kernel⟩ (by decide), List.forall_mem_cons.mpr ⟨cl_virtual (y := y_Sy_fail) (ci := 11) rfl rfl ⟨_, _, rfl⟩ (by decide +kernel) h_Sy_fail wm_2239 wm_23 wm_2236 wm_2238 wv_10_14 ⟨by decide, by decide, by decide +kernel⟩ (by decide), List.forall_mem_cons.mpr ⟨cl_virtual (y := y_Sy_emit) (ci := 11) rfl rfl ⟨_, _, rfl⟩ (by decide +kernel) h_Sy_emit wm_2258 wm_23 wm_2255 wm_2257 wv_11_2 ⟨by decide, by decide, by decide +kernel⟩ (by decide), List.forall_mem_cons.mpr ⟨cl_virtual (y := y_Sy_closes) (ci := 11) rfl rfl ⟨_, _, rfl⟩ (by decide +kernel) h_Sy_closes wm_2262 wm_23 wm_2259 wm_2261 wv_11_3 ⟨by decide, by decide, by decide +kernel⟩ (by decide), List.forall_mem_cons.mpr ⟨cl_virtual (y := y_Sy_wordIn_at_s5009) (ci := 11) rfl rfl ⟨_, _, rfl⟩ (by decide +kernel) h_Sy_wordIn_at_s5009 wm_2229 wm_23 wm_2226 wm_2228 wv_10_12 ⟨by decide, by decide, by decide +kernel⟩ (by decide), List.forall_mem_cons.mpr ⟨cl_virtual (y := y_Sy_compileOne_at_k2) (ci := 11) rfl rfl ⟨_, _, rfl⟩ (by decide +kernel) h_Sy_compileOne_at_k2 wm_2253 wm_23 wm_2250 wm_2252 wv_11_1 ⟨by decide, by decide, by decide +kernel⟩ (by decide), List.forall_mem_cons.mpr ⟨cl_virtual (y := y_Sy_compileTest_at_k2) (ci := 11) rfl rfl ⟨_, _, rfl⟩ (by decide +kernel) h_Sy_compileTest_at_k2 wm_2245 wm_23 wm_2242 wm_2244 wv_10_15 ⟨by decide, by decide, by decide +kernel⟩ (by decide), List.forall_mem_cons.mpr ⟨cl_virtual (y := y_Sy_compileSum_at_k1) (ci := 11) rfl rfl ⟨_, _, rfl⟩ (by decide +kernel) h_Sy_compileSum_at_k1 wm_2266 wm_23 wm_2263 wm_2265 wv_11_4 ⟨by decide, by decide, by decide +kernel⟩ (by decide), List.forall_mem_cons.mpr ⟨cl_virtual (y := y_Sy_compileSum_at_k1) (ci := 11) rfl rfl ⟨_, _, rfl⟩ (by decide +kernel) h_Sy_compileSum_at_k1 wm_2266 wm_23 wm_2263 wm_2265 wv_11_4 ⟨by decide, by decide, by decide +kernel⟩ (by decide), List.forall_mem_cons.mpr ⟨cl_ldc (own := "DrawingHouse$Styler") (idx := 150) (i := 9) (tx := "not ") (by decide +kernel) (by decide +kernel) (by decide +kernel), List.forall_mem_nil _⟩⟩⟩⟩⟩⟩⟩⟩⟩⟩, List.forall_mem_nil _, List.forall_mem_nil _, GG_pl⟩ (by decide +kernel)
set_option maxHeartbeats 4000000 in
theorem vc_Sy_compileOne_at_k10_0_0 (x13 : Int) (x14 : Int) (k13 : 6 ≤ x13 ∧ x13 ≤ 6) (k14 : 0 ≤ x14 ∧ x14 ≤ 0) : (0 ≤ x13) ∧ ((0 ≤ x14) ∧ (((x13 * 65536) + x14) ≤ 851970)) := by
  first
    | omega
  
def o_Sy_compileOne_at_k10_0 : or_T := (160, 15, [(13, (0, 6, 6, [])), (14, (0, 0, 0, []))], [], [], [], [(20, [13, 14], [50, 0, 0, 2, 6, 0, 2, 0, 0, 1, 0, 2, 6, 0, 2, 0, 0, 1, 1, 0, 10, 4, 6, 6, 2, 1, 0, 0, 65536, 1, 1, 0, 851970])], [], [])
theorem oo_Sy_compileOne_at_k10_0 {kA : Nat → ClassId} : or_ok PRD kA GG o_Sy_compileOne_at_k10_0 := by
  refine or_mk fun A ta ws vs hD hth hl => ?_
  intro t13 k13 t14 k14
  have nf0 : fc_1 PRD (20, [13, 14], [50, 0, 0, 2, 6, 0, 2, 0, 0, 1, 0, 2, 6, 0, 2, 0, 0, 1, 1, 0, 10, 4, 6, 6, 2, 1, 0, 0, 65536, 1, 1, 0, 851970]) ws (vs) := ⟨nf_in hl rfl, sgq_493 (vc_Sy_compileOne_at_k10_0_0 (v_iv (n_v vs 13)) (v_iv (n_v vs 14)) k13 k14)⟩
  refine ⟨(fun _ h => (by cases h)), [], trivial, ?_, (fun _ h => (by cases h))⟩
  rw [List.append_nil]
  exact List.forall_mem_cons.mpr ⟨⟨show (20 : Nat) < 100 from by decide, nf0⟩, (fun _ h => (by cases h))⟩
set_option maxHeartbeats 4000000 in
theorem vc_Sy_compileOne_at_k10_1_0 (x15 : Int) (x16 : Int) (k15 : 7 ≤ x15 ∧ x15 ≤ 7) (k16 : 0 ≤ x16 ∧ x16 ≤ 0) : (0 ≤ x15) ∧ ((0 ≤ x16) ∧ (((x15 * 65536) + x16) ≤ 851970)) := by
  first
    | omega
  
def o_Sy_compileOne_at_k10_1 : or_T := (160, 17, [(15, (0, 7, 7, [])), (16, (0, 0, 0, []))], [], [], [], [(20, [15, 16], [50, 0, 0, 2, 6, 0, 2, 0, 0, 1, 0, 2, 6, 0, 2, 0, 0, 1, 1, 0, 10, 4, 6, 6, 2, 1, 0, 0, 65536, 1, 1, 0, 851970])], [], [])
theorem oo_Sy_compileOne_at_k10_1 {kA : Nat → ClassId} : or_ok PRD kA GG o_Sy_compileOne_at_k10_1 := by
  refine or_mk fun A ta ws vs hD hth hl => ?_
  intro t15 k15 t16 k16
  have nf0 : fc_1 PRD (20, [15, 16], [50, 0, 0, 2, 6, 0, 2, 0, 0, 1, 0, 2, 6, 0, 2, 0, 0, 1, 1, 0, 10, 4, 6, 6, 2, 1, 0, 0, 65536, 1, 1, 0, 851970]) ws (vs) := ⟨nf_in hl rfl, sgq_493 (vc_Sy_compileOne_at_k10_1_0 (v_iv (n_v vs 15)) (v_iv (n_v vs 16)) k15 k16)⟩
  refine ⟨(fun _ h => (by cases h)), [], trivial, ?_, (fun _ h => (by cases h))⟩
  rw [List.append_nil]
  exact List.forall_mem_cons.mpr ⟨⟨show (20 : Nat) < 100 from by decide, nf0⟩, (fun _ h => (by cases h))⟩
set_option maxHeartbeats 4000000 in
theorem vc_Sy_compileOne_at_k10_2_0 (x16 : Int) (x17 : Int) (k16 : 8 ≤ x16 ∧ x16 ≤ 8) (k17 : 0 ≤ x17 ∧ x17 ≤ 0) : (0 ≤ x16) ∧ ((0 ≤ x17) ∧ (((x16 * 65536) + x17) ≤ 851970)) := by
  first
    | omega
  
def o_Sy_compileOne_at_k10_2 : or_T := (160, 18, [(16, (0, 8, 8, [])), (17, (0, 0, 0, []))], [], [], [], [(20, [16, 17], [50, 0, 0, 2, 6, 0, 2, 0, 0, 1, 0, 2, 6, 0, 2, 0, 0, 1, 1, 0, 10, 4, 6, 6, 2, 1, 0, 0, 65536, 1, 1, 0, 851970])], [], [])
theorem oo_Sy_compileOne_at_k10_2 {kA : Nat → ClassId} : or_ok PRD kA GG o_Sy_compileOne_at_k10_2 := by
  refine or_mk fun A ta ws vs hD hth hl => ?_
  intro t16 k16 t17 k17
  have nf0 : fc_1 PRD (20, [16, 17], [50, 0, 0, 2, 6, 0, 2, 0, 0, 1, 0, 2, 6, 0, 2, 0, 0, 1, 1, 0, 10, 4, 6, 6, 2, 1, 0, 0, 65536, 1, 1, 0, 851970]) ws (vs) := ⟨nf_in hl rfl, sgq_493 (vc_Sy_compileOne_at_k10_2_0 (v_iv (n_v vs 16)) (v_iv (n_v vs 17)) k16 k17)⟩
  refine ⟨(fun _ h => (by cases h)), [], trivial, ?_, (fun _ h => (by cases h))⟩
  rw [List.append_nil]
  exact List.forall_mem_cons.mpr ⟨⟨show (20 : Nat) < 100 from by decide, nf0⟩, (fun _ h => (by cases h))⟩
set_option maxHeartbeats 4000000 in
theorem vc_Sy_compileOne_at_k10_3_0 (x10 : Int) (x11 : Int) (k10 : 11 ≤ x10 ∧ x10 ≤ 11) (k11 : 0 ≤ x11 ∧ x11 ≤ 0) : (0 ≤ x10) ∧ ((0 ≤ x11) ∧ (((x10 * 65536) + x11) ≤ 851970)) := by
  first
    | omega
  
def o_Sy_compileOne_at_k10_3 : or_T := (60, 12, [(10, (0, 11, 11, [])), (11, (0, 0, 0, []))], [], [], [], [(20, [10, 11], [50, 0, 0, 2, 6, 0, 2, 0, 0, 1, 0, 2, 6, 0, 2, 0, 0, 1, 1, 0, 10, 4, 6, 6, 2, 1, 0, 0, 65536, 1, 1, 0, 851970])], [], [])
theorem oo_Sy_compileOne_at_k10_3 {kA : Nat → ClassId} : or_ok PRD kA GG o_Sy_compileOne_at_k10_3 := by
  refine or_mk fun A ta ws vs hD hth hl => ?_
  intro t10 k10 t11 k11
  have nf0 : fc_1 PRD (20, [10, 11], [50, 0, 0, 2, 6, 0, 2, 0, 0, 1, 0, 2, 6, 0, 2, 0, 0, 1, 1, 0, 10, 4, 6, 6, 2, 1, 0, 0, 65536, 1, 1, 0, 851970]) ws (vs) := ⟨nf_in hl rfl, sgq_493 (vc_Sy_compileOne_at_k10_3_0 (v_iv (n_v vs 10)) (v_iv (n_v vs 11)) k10 k11)⟩
  refine ⟨(fun _ h => (by cases h)), [], trivial, ?_, (fun _ h => (by cases h))⟩
  rw [List.append_nil]
  exact List.forall_mem_cons.mpr ⟨⟨show (20 : Nat) < 100 from by decide, nf0⟩, (fun _ h => (by cases h))⟩
def n_Sy_compileOne_at_k10_an : List an_T := []
def t_Sy_compileOne_at_k10_ct : ct_L := [(1, 69, e_Sy_advance), (1, 118, e_Sy_fail), (1, 128, e_Sy_emit), (1, 152, e_Sy_closes), (13, 114, e_Sy_wordIn_at_s5009), (160, 145, e_Sy_compileOne_at_k11), (211, 125, e_Sy_compileTest_at_k11), (262, 137, e_Sy_compileSum_at_k10), (391, 137, e_Sy_compileSum_at_k10), (1000000, 150, en_ro [] (2, 0, 0, [5009]))]
set_option maxRecDepth 100000 in
theorem c_Sy_compileOne_at_k10 {l : Launch} {D : va_G} {kA : Nat → ClassId} (h_Sy_advance : ct_ok PRD l D kA GG y_Sy_advance z_Sy_advance e_Sy_advance) (h_Sy_closes : ct_ok PRD l D kA GG y_Sy_closes z_Sy_closes e_Sy_closes) (h_Sy_compileOne_at_k11 : ct_ok PRD l D kA GG y_Sy_compileOne_at_k11 z_Sy_compileOne_at_k11 e_Sy_compileOne_at_k11) (h_Sy_compileSum_at_k10 : ct_ok PRD l D kA GG y_Sy_compileSum_at_k10 z_Sy_compileSum_at_k10 e_Sy_compileSum_at_k10) (h_Sy_compileTest_at_k11 : ct_ok PRD l D kA GG y_Sy_compileTest_at_k11 z_Sy_compileTest_at_k11 e_Sy_compileTest_at_k11) (h_Sy_emit : ct_ok PRD l D kA GG y_Sy_emit z_Sy_emit e_Sy_emit) (h_Sy_fail : ct_ok PRD l D kA GG y_Sy_fail z_Sy_fail e_Sy_fail) (h_Sy_wordIn_at_s5009 : ct_ok PRD l D kA GG y_Sy_wordIn_at_s5009 z_Sy_wordIn_at_s5009 e_Sy_wordIn_at_s5009) : ct_ok PRD l D kA GG y_Sy_compileOne_at_k10 z_Sy_compileOne_at_k10 e_Sy_compileOne_at_k10 := chk_all_ok (FT := [(31, 11, 6)]) (PT := []) (CT := t_Sy_compileOne_at_k10_ct) (KT := []) (NT := []) (AN := n_Sy_compileOne_at_k10_an) (OT := [o_Sy_compileOne_at_k10_0, o_Sy_compileOne_at_k10_1, o_Sy_compileOne_at_k10_2, o_Sy_compileOne_at_k10_3]) 0 580 (List.forall_mem_cons.mpr ⟨oo_Sy_compileOne_at_k10_0, List.forall_mem_cons.mpr ⟨oo_Sy_compileOne_at_k10_1, List.forall_mem_cons.mpr ⟨oo_Sy_compileOne_at_k10_2, List.forall_mem_cons.mpr ⟨oo_Sy_compileOne_at_k10_3, List.forall_mem_nil _⟩⟩⟩⟩) (by decide +kernel) ⟨List.forall_mem_cons.mpr ⟨gf_Sy_31, List.forall_mem_nil _⟩, List.forall_mem_nil _, List.forall_mem_cons.mpr ⟨cl_virtual (y := y_Sy_advance) (ci := 11) rfl rfl ⟨_, _, rfl⟩ (by decide +kernel) h_Sy_advance wm_2158 wm_23 wm_2155 wm_2157 wv_10_10 ⟨by decide, by decide, by decide +kernel⟩ (by decide), List.forall_mem_cons.mpr ⟨cl_virtual (y := y_Sy_fail) (ci := 11) rfl rfl ⟨_, _, rfl⟩ (by decide +kernel) h_Sy_fail wm_2239 wm_23 wm_2236 wm_2238 wv_10_14 ⟨by decide, by decide, by decide +kernel⟩ (by decide), List.forall_mem_cons.mpr ⟨cl_virtual (y := y_Sy_emit) (ci := 11) rfl rfl ⟨_, _, rfl⟩ (by decide +kernel) h_Sy_emit wm_2258 wm_23 wm_2255 wm_2257 wv_11_2 ⟨by decide, by decide, by decide +kernel⟩ (by decide), List.forall_mem_cons.mpr ⟨cl_virtual (y := y_Sy_closes) (ci := 11) rfl rfl ⟨_, _, rfl⟩ (by decide +kernel) h_Sy_closes wm_2262 wm_23 wm_2259 wm_2261 wv_11_3 ⟨by decide, by decide, by decide +kernel⟩ (by decide), List.forall_mem_cons.mpr ⟨cl_virtual (y := y_Sy_wordIn_at_s5009) (ci := 11) rfl rfl ⟨_, _, rfl⟩ (by decide +kernel) h_Sy_wordIn_at_s5009 wm_2229 wm_23 wm_2226 wm_2228 wv_10_12 ⟨by decide, by decide, by decide +kernel⟩ (by decide), List.forall_mem_cons.mpr ⟨cl_virtual (y := y_Sy_compileOne_at_k11) (ci := 11) rfl rfl ⟨_, _, rfl⟩ (by decide +kernel) h_Sy_compileOne_at_k11 wm_2253 wm_23 wm_2250 wm_2252 wv_11_1 ⟨by decide, by decide, by decide +kernel⟩ (by decide), List.forall_mem_cons.mpr ⟨cl_virtual (y := y_Sy_compileTest_at_k11) (ci := 11) rfl rfl ⟨_, _, rfl⟩ (by decide +kernel) h_Sy_compileTest_at_k11 wm_2245 wm_23 wm_2242 wm_2244 wv_10_15 ⟨by decide, by decide, by decide +kernel⟩ (by decide), List.forall_mem_cons.mpr ⟨cl_virtual (y := y_Sy_compileSum_at_k10) (ci := 11) rfl rfl ⟨_, _, rfl⟩ (by decide +kernel) h_Sy_compileSum_at_k10 wm_2266 wm_23 wm_2263 wm_2265 wv_11_4 ⟨by decide, by decide, by decide +kernel⟩ (by decide), List.forall_mem_cons.mpr ⟨cl_virtual (y := y_Sy_compileSum_at_k10) (ci := 11) rfl rfl ⟨_, _, rfl⟩ (by decide +kernel) h_Sy_compileSum_at_k10 wm_2266 wm_23 wm_2263 wm_2265 wv_11_4 ⟨by decide, by decide, by decide +kernel⟩ (by decide), List.forall_mem_cons.mpr ⟨cl_ldc (own := "DrawingHouse$Styler") (idx := 150) (i := 9) (tx := "not ") (by decide +kernel) (by decide +kernel) (by decide +kernel), List.forall_mem_nil _⟩⟩⟩⟩⟩⟩⟩⟩⟩⟩, List.forall_mem_nil _, List.forall_mem_nil _, GG_pl⟩ (by decide +kernel)
set_option maxHeartbeats 4000000 in
theorem vc_Sy_compileOne_at_k11_0_0 (x13 : Int) (x14 : Int) (k13 : 6 ≤ x13 ∧ x13 ≤ 6) (k14 : 0 ≤ x14 ∧ x14 ≤ 0) : (0 ≤ x13) ∧ ((0 ≤ x14) ∧ (((x13 * 65536) + x14) ≤ 851970)) := by
  first
    | omega
  
def o_Sy_compileOne_at_k11_0 : or_T := (160, 15, [(13, (0, 6, 6, [])), (14, (0, 0, 0, []))], [], [], [], [(20, [13, 14], [50, 0, 0, 2, 6, 0, 2, 0, 0, 1, 0, 2, 6, 0, 2, 0, 0, 1, 1, 0, 10, 4, 6, 6, 2, 1, 0, 0, 65536, 1, 1, 0, 851970])], [], [])
theorem oo_Sy_compileOne_at_k11_0 {kA : Nat → ClassId} : or_ok PRD kA GG o_Sy_compileOne_at_k11_0 := by
  refine or_mk fun A ta ws vs hD hth hl => ?_
  intro t13 k13 t14 k14
  have nf0 : fc_1 PRD (20, [13, 14], [50, 0, 0, 2, 6, 0, 2, 0, 0, 1, 0, 2, 6, 0, 2, 0, 0, 1, 1, 0, 10, 4, 6, 6, 2, 1, 0, 0, 65536, 1, 1, 0, 851970]) ws (vs) := ⟨nf_in hl rfl, sgq_493 (vc_Sy_compileOne_at_k11_0_0 (v_iv (n_v vs 13)) (v_iv (n_v vs 14)) k13 k14)⟩
  refine ⟨(fun _ h => (by cases h)), [], trivial, ?_, (fun _ h => (by cases h))⟩
  rw [List.append_nil]
  exact List.forall_mem_cons.mpr ⟨⟨show (20 : Nat) < 100 from by decide, nf0⟩, (fun _ h => (by cases h))⟩
set_option maxHeartbeats 4000000 in
theorem vc_Sy_compileOne_at_k11_1_0 (x15 : Int) (x16 : Int) (k15 : 7 ≤ x15 ∧ x15 ≤ 7) (k16 : 0 ≤ x16 ∧ x16 ≤ 0) : (0 ≤ x15) ∧ ((0 ≤ x16) ∧ (((x15 * 65536) + x16) ≤ 851970)) := by
  first
    | omega
  
def o_Sy_compileOne_at_k11_1 : or_T := (160, 17, [(15, (0, 7, 7, [])), (16, (0, 0, 0, []))], [], [], [], [(20, [15, 16], [50, 0, 0, 2, 6, 0, 2, 0, 0, 1, 0, 2, 6, 0, 2, 0, 0, 1, 1, 0, 10, 4, 6, 6, 2, 1, 0, 0, 65536, 1, 1, 0, 851970])], [], [])
theorem oo_Sy_compileOne_at_k11_1 {kA : Nat → ClassId} : or_ok PRD kA GG o_Sy_compileOne_at_k11_1 := by
  refine or_mk fun A ta ws vs hD hth hl => ?_
  intro t15 k15 t16 k16
  have nf0 : fc_1 PRD (20, [15, 16], [50, 0, 0, 2, 6, 0, 2, 0, 0, 1, 0, 2, 6, 0, 2, 0, 0, 1, 1, 0, 10, 4, 6, 6, 2, 1, 0, 0, 65536, 1, 1, 0, 851970]) ws (vs) := ⟨nf_in hl rfl, sgq_493 (vc_Sy_compileOne_at_k11_1_0 (v_iv (n_v vs 15)) (v_iv (n_v vs 16)) k15 k16)⟩
  refine ⟨(fun _ h => (by cases h)), [], trivial, ?_, (fun _ h => (by cases h))⟩
  rw [List.append_nil]
  exact List.forall_mem_cons.mpr ⟨⟨show (20 : Nat) < 100 from by decide, nf0⟩, (fun _ h => (by cases h))⟩
set_option maxHeartbeats 4000000 in
theorem vc_Sy_compileOne_at_k11_2_0 (x16 : Int) (x17 : Int) (k16 : 8 ≤ x16 ∧ x16 ≤ 8) (k17 : 0 ≤ x17 ∧ x17 ≤ 0) : (0 ≤ x16) ∧ ((0 ≤ x17) ∧ (((x16 * 65536) + x17) ≤ 851970)) := by
  first
    | omega
  
def o_Sy_compileOne_at_k11_2 : or_T := (160, 18, [(16, (0, 8, 8, [])), (17, (0, 0, 0, []))], [], [], [], [(20, [16, 17], [50, 0, 0, 2, 6, 0, 2, 0, 0, 1, 0, 2, 6, 0, 2, 0, 0, 1, 1, 0, 10, 4, 6, 6, 2, 1, 0, 0, 65536, 1, 1, 0, 851970])], [], [])
theorem oo_Sy_compileOne_at_k11_2 {kA : Nat → ClassId} : or_ok PRD kA GG o_Sy_compileOne_at_k11_2 := by
  refine or_mk fun A ta ws vs hD hth hl => ?_
  intro t16 k16 t17 k17
  have nf0 : fc_1 PRD (20, [16, 17], [50, 0, 0, 2, 6, 0, 2, 0, 0, 1, 0, 2, 6, 0, 2, 0, 0, 1, 1, 0, 10, 4, 6, 6, 2, 1, 0, 0, 65536, 1, 1, 0, 851970]) ws (vs) := ⟨nf_in hl rfl, sgq_493 (vc_Sy_compileOne_at_k11_2_0 (v_iv (n_v vs 16)) (v_iv (n_v vs 17)) k16 k17)⟩
  refine ⟨(fun _ h => (by cases h)), [], trivial, ?_, (fun _ h => (by cases h))⟩
  rw [List.append_nil]
  exact List.forall_mem_cons.mpr ⟨⟨show (20 : Nat) < 100 from by decide, nf0⟩, (fun _ h => (by cases h))⟩
set_option maxHeartbeats 4000000 in
theorem vc_Sy_compileOne_at_k11_3_0 (x10 : Int) (x11 : Int) (k10 : 11 ≤ x10 ∧ x10 ≤ 11) (k11 : 0 ≤ x11 ∧ x11 ≤ 0) : (0 ≤ x10) ∧ ((0 ≤ x11) ∧ (((x10 * 65536) + x11) ≤ 851970)) := by
  first
    | omega
  
def o_Sy_compileOne_at_k11_3 : or_T := (60, 12, [(10, (0, 11, 11, [])), (11, (0, 0, 0, []))], [], [], [], [(20, [10, 11], [50, 0, 0, 2, 6, 0, 2, 0, 0, 1, 0, 2, 6, 0, 2, 0, 0, 1, 1, 0, 10, 4, 6, 6, 2, 1, 0, 0, 65536, 1, 1, 0, 851970])], [], [])
theorem oo_Sy_compileOne_at_k11_3 {kA : Nat → ClassId} : or_ok PRD kA GG o_Sy_compileOne_at_k11_3 := by
  refine or_mk fun A ta ws vs hD hth hl => ?_
  intro t10 k10 t11 k11
  have nf0 : fc_1 PRD (20, [10, 11], [50, 0, 0, 2, 6, 0, 2, 0, 0, 1, 0, 2, 6, 0, 2, 0, 0, 1, 1, 0, 10, 4, 6, 6, 2, 1, 0, 0, 65536, 1, 1, 0, 851970]) ws (vs) := ⟨nf_in hl rfl, sgq_493 (vc_Sy_compileOne_at_k11_3_0 (v_iv (n_v vs 10)) (v_iv (n_v vs 11)) k10 k11)⟩
  refine ⟨(fun _ h => (by cases h)), [], trivial, ?_, (fun _ h => (by cases h))⟩
  rw [List.append_nil]
  exact List.forall_mem_cons.mpr ⟨⟨show (20 : Nat) < 100 from by decide, nf0⟩, (fun _ h => (by cases h))⟩
def n_Sy_compileOne_at_k11_an : List an_T := []
def t_Sy_compileOne_at_k11_ct : ct_L := [(1, 69, e_Sy_advance), (1, 118, e_Sy_fail), (1, 128, e_Sy_emit), (1, 152, e_Sy_closes), (13, 114, e_Sy_wordIn_at_s5009), (160, 145, e_Sy_compileOne_at_k12), (211, 125, e_Sy_compileTest_at_k12), (262, 137, e_Sy_compileSum_at_k11), (391, 137, e_Sy_compileSum_at_k11), (1000000, 150, en_ro [] (2, 0, 0, [5009]))]
set_option maxRecDepth 100000 in
theorem c_Sy_compileOne_at_k11 {l : Launch} {D : va_G} {kA : Nat → ClassId} (h_Sy_advance : ct_ok PRD l D kA GG y_Sy_advance z_Sy_advance e_Sy_advance) (h_Sy_closes : ct_ok PRD l D kA GG y_Sy_closes z_Sy_closes e_Sy_closes) (h_Sy_compileOne_at_k12 : ct_ok PRD l D kA GG y_Sy_compileOne_at_k12 z_Sy_compileOne_at_k12 e_Sy_compileOne_at_k12) (h_Sy_compileSum_at_k11 : ct_ok PRD l D kA GG y_Sy_compileSum_at_k11 z_Sy_compileSum_at_k11 e_Sy_compileSum_at_k11) (h_Sy_compileTest_at_k12 : ct_ok PRD l D kA GG y_Sy_compileTest_at_k12 z_Sy_compileTest_at_k12 e_Sy_compileTest_at_k12) (h_Sy_emit : ct_ok PRD l D kA GG y_Sy_emit z_Sy_emit e_Sy_emit) (h_Sy_fail : ct_ok PRD l D kA GG y_Sy_fail z_Sy_fail e_Sy_fail) (h_Sy_wordIn_at_s5009 : ct_ok PRD l D kA GG y_Sy_wordIn_at_s5009 z_Sy_wordIn_at_s5009 e_Sy_wordIn_at_s5009) : ct_ok PRD l D kA GG y_Sy_compileOne_at_k11 z_Sy_compileOne_at_k11 e_Sy_compileOne_at_k11 := chk_all_ok (FT := [(31, 11, 6)]) (PT := []) (CT := t_Sy_compileOne_at_k11_ct) (KT := []) (NT := []) (AN := n_Sy_compileOne_at_k11_an) (OT := [o_Sy_compileOne_at_k11_0, o_Sy_compileOne_at_k11_1, o_Sy_compileOne_at_k11_2, o_Sy_compileOne_at_k11_3]) 0 552 (List.forall_mem_cons.mpr ⟨oo_Sy_compileOne_at_k11_0, List.forall_mem_cons.mpr ⟨oo_Sy_compileOne_at_k11_1, List.forall_mem_cons.mpr ⟨oo_Sy_compileOne_at_k11_2, List.forall_mem_cons.mpr ⟨oo_Sy_compileOne_at_k11_3, List.forall_mem_nil _⟩⟩⟩⟩) (by decide +kernel) ⟨List.forall_mem_cons.mpr ⟨gf_Sy_31, List.forall_mem_nil _⟩, List.forall_mem_nil _, List.forall_mem_cons.mpr ⟨cl_virtual (y := y_Sy_advance) (ci := 11) rfl rfl ⟨_, _, rfl⟩ (by decide +kernel) h_Sy_advance wm_2158 wm_23 wm_2155 wm_2157 wv_10_10 ⟨by decide, by decide, by decide +kernel⟩ (by decide), List.forall_mem_cons.mpr ⟨cl_virtual (y := y_Sy_fail) (ci := 11) rfl rfl ⟨_, _, rfl⟩ (by decide +kernel) h_Sy_fail wm_2239 wm_23 wm_2236 wm_2238 wv_10_14 ⟨by decide, by decide, by decide +kernel⟩ (by decide), List.forall_mem_cons.mpr ⟨cl_virtual (y := y_Sy_emit) (ci := 11) rfl rfl ⟨_, _, rfl⟩ (by decide +kernel) h_Sy_emit wm_2258 wm_23 wm_2255 wm_2257 wv_11_2 ⟨by decide, by decide, by decide +kernel⟩ (by decide), List.forall_mem_cons.mpr ⟨cl_virtual (y := y_Sy_closes) (ci := 11) rfl rfl ⟨_, _, rfl⟩ (by decide +kernel) h_Sy_closes wm_2262 wm_23 wm_2259 wm_2261 wv_11_3 ⟨by decide, by decide, by decide +kernel⟩ (by decide), List.forall_mem_cons.mpr ⟨cl_virtual (y := y_Sy_wordIn_at_s5009) (ci := 11) rfl rfl ⟨_, _, rfl⟩ (by decide +kernel) h_Sy_wordIn_at_s5009 wm_2229 wm_23 wm_2226 wm_2228 wv_10_12 ⟨by decide, by decide, by decide +kernel⟩ (by decide), List.forall_mem_cons.mpr ⟨cl_virtual (y := y_Sy_compileOne_at_k12) (ci := 11) rfl rfl ⟨_, _, rfl⟩ (by decide +kernel) h_Sy_compileOne_at_k12 wm_2253 wm_23 wm_2250 wm_2252 wv_11_1 ⟨by decide, by decide, by decide +kernel⟩ (by decide), List.forall_mem_cons.mpr ⟨cl_virtual (y := y_Sy_compileTest_at_k12) (ci := 11) rfl rfl ⟨_, _, rfl⟩ (by decide +kernel) h_Sy_compileTest_at_k12 wm_2245 wm_23 wm_2242 wm_2244 wv_10_15 ⟨by decide, by decide, by decide +kernel⟩ (by decide), List.forall_mem_cons.mpr ⟨cl_virtual (y := y_Sy_compileSum_at_k11) (ci := 11) rfl rfl ⟨_, _, rfl⟩ (by decide +kernel) h_Sy_compileSum_at_k11 wm_2266 wm_23 wm_2263 wm_2265 wv_11_4 ⟨by decide, by decide, by decide +kernel⟩ (by decide), List.forall_mem_cons.mpr ⟨cl_virtual (y := y_Sy_compileSum_at_k11) (ci := 11) rfl rfl ⟨_, _, rfl⟩ (by decide +kernel) h_Sy_compileSum_at_k11 wm_2266 wm_23 wm_2263 wm_2265 wv_11_4 ⟨by decide, by decide, by decide +kernel⟩ (by decide), List.forall_mem_cons.mpr ⟨cl_ldc (own := "DrawingHouse$Styler") (idx := 150) (i := 9) (tx := "not ") (by decide +kernel) (by decide +kernel) (by decide +kernel), List.forall_mem_nil _⟩⟩⟩⟩⟩⟩⟩⟩⟩⟩, List.forall_mem_nil _, List.forall_mem_nil _, GG_pl⟩ (by decide +kernel)
set_option maxHeartbeats 4000000 in
theorem vc_Sy_compileOne_at_k12_0_0 (x13 : Int) (x14 : Int) (k13 : 6 ≤ x13 ∧ x13 ≤ 6) (k14 : 0 ≤ x14 ∧ x14 ≤ 0) : (0 ≤ x13) ∧ ((0 ≤ x14) ∧ (((x13 * 65536) + x14) ≤ 851970)) := by
  first
    | omega
  
def o_Sy_compileOne_at_k12_0 : or_T := (160, 15, [(13, (0, 6, 6, [])), (14, (0, 0, 0, []))], [], [], [], [(20, [13, 14], [50, 0, 0, 2, 6, 0, 2, 0, 0, 1, 0, 2, 6, 0, 2, 0, 0, 1, 1, 0, 10, 4, 6, 6, 2, 1, 0, 0, 65536, 1, 1, 0, 851970])], [], [])
theorem oo_Sy_compileOne_at_k12_0 {kA : Nat → ClassId} : or_ok PRD kA GG o_Sy_compileOne_at_k12_0 := by
  refine or_mk fun A ta ws vs hD hth hl => ?_
  intro t13 k13 t14 k14
  have nf0 : fc_1 PRD (20, [13, 14], [50, 0, 0, 2, 6, 0, 2, 0, 0, 1, 0, 2, 6, 0, 2, 0, 0, 1, 1, 0, 10, 4, 6, 6, 2, 1, 0, 0, 65536, 1, 1, 0, 851970]) ws (vs) := ⟨nf_in hl rfl, sgq_493 (vc_Sy_compileOne_at_k12_0_0 (v_iv (n_v vs 13)) (v_iv (n_v vs 14)) k13 k14)⟩
  refine ⟨(fun _ h => (by cases h)), [], trivial, ?_, (fun _ h => (by cases h))⟩
  rw [List.append_nil]
  exact List.forall_mem_cons.mpr ⟨⟨show (20 : Nat) < 100 from by decide, nf0⟩, (fun _ h => (by cases h))⟩
set_option maxHeartbeats 4000000 in
theorem vc_Sy_compileOne_at_k12_1_0 (x15 : Int) (x16 : Int) (k15 : 7 ≤ x15 ∧ x15 ≤ 7) (k16 : 0 ≤ x16 ∧ x16 ≤ 0) : (0 ≤ x15) ∧ ((0 ≤ x16) ∧ (((x15 * 65536) + x16) ≤ 851970)) := by
  first
    | omega
  
def o_Sy_compileOne_at_k12_1 : or_T := (160, 17, [(15, (0, 7, 7, [])), (16, (0, 0, 0, []))], [], [], [], [(20, [15, 16], [50, 0, 0, 2, 6, 0, 2, 0, 0, 1, 0, 2, 6, 0, 2, 0, 0, 1, 1, 0, 10, 4, 6, 6, 2, 1, 0, 0, 65536, 1, 1, 0, 851970])], [], [])
theorem oo_Sy_compileOne_at_k12_1 {kA : Nat → ClassId} : or_ok PRD kA GG o_Sy_compileOne_at_k12_1 := by
  refine or_mk fun A ta ws vs hD hth hl => ?_
  intro t15 k15 t16 k16
  have nf0 : fc_1 PRD (20, [15, 16], [50, 0, 0, 2, 6, 0, 2, 0, 0, 1, 0, 2, 6, 0, 2, 0, 0, 1, 1, 0, 10, 4, 6, 6, 2, 1, 0, 0, 65536, 1, 1, 0, 851970]) ws (vs) := ⟨nf_in hl rfl, sgq_493 (vc_Sy_compileOne_at_k12_1_0 (v_iv (n_v vs 15)) (v_iv (n_v vs 16)) k15 k16)⟩
  refine ⟨(fun _ h => (by cases h)), [], trivial, ?_, (fun _ h => (by cases h))⟩
  rw [List.append_nil]
  exact List.forall_mem_cons.mpr ⟨⟨show (20 : Nat) < 100 from by decide, nf0⟩, (fun _ h => (by cases h))⟩
set_option maxHeartbeats 4000000 in
theorem vc_Sy_compileOne_at_k12_2_0 (x16 : Int) (x17 : Int) (k16 : 8 ≤ x16 ∧ x16 ≤ 8) (k17 : 0 ≤ x17 ∧ x17 ≤ 0) : (0 ≤ x16) ∧ ((0 ≤ x17) ∧ (((x16 * 65536) + x17) ≤ 851970)) := by
  first
    | omega
  
def o_Sy_compileOne_at_k12_2 : or_T := (160, 18, [(16, (0, 8, 8, [])), (17, (0, 0, 0, []))], [], [], [], [(20, [16, 17], [50, 0, 0, 2, 6, 0, 2, 0, 0, 1, 0, 2, 6, 0, 2, 0, 0, 1, 1, 0, 10, 4, 6, 6, 2, 1, 0, 0, 65536, 1, 1, 0, 851970])], [], [])
theorem oo_Sy_compileOne_at_k12_2 {kA : Nat → ClassId} : or_ok PRD kA GG o_Sy_compileOne_at_k12_2 := by
  refine or_mk fun A ta ws vs hD hth hl => ?_
  intro t16 k16 t17 k17
  have nf0 : fc_1 PRD (20, [16, 17], [50, 0, 0, 2, 6, 0, 2, 0, 0, 1, 0, 2, 6, 0, 2, 0, 0, 1, 1, 0, 10, 4, 6, 6, 2, 1, 0, 0, 65536, 1, 1, 0, 851970]) ws (vs) := ⟨nf_in hl rfl, sgq_493 (vc_Sy_compileOne_at_k12_2_0 (v_iv (n_v vs 16)) (v_iv (n_v vs 17)) k16 k17)⟩
  refine ⟨(fun _ h => (by cases h)), [], trivial, ?_, (fun _ h => (by cases h))⟩
  rw [List.append_nil]
  exact List.forall_mem_cons.mpr ⟨⟨show (20 : Nat) < 100 from by decide, nf0⟩, (fun _ h => (by cases h))⟩
def n_Sy_compileOne_at_k12_an : List an_T := []
def t_Sy_compileOne_at_k12_ct : ct_L := [(1, 69, e_Sy_advance), (1, 118, e_Sy_fail), (1, 128, e_Sy_emit), (13, 114, e_Sy_wordIn_at_s5009), (262, 137, e_Sy_compileSum_at_k12), (391, 137, e_Sy_compileSum_at_k12), (1000000, 150, en_ro [] (2, 0, 0, [5009]))]
set_option maxRecDepth 100000 in
theorem c_Sy_compileOne_at_k12 {l : Launch} {D : va_G} {kA : Nat → ClassId} (h_Sy_advance : ct_ok PRD l D kA GG y_Sy_advance z_Sy_advance e_Sy_advance) (h_Sy_compileSum_at_k12 : ct_ok PRD l D kA GG y_Sy_compileSum_at_k12 z_Sy_compileSum_at_k12 e_Sy_compileSum_at_k12) (h_Sy_emit : ct_ok PRD l D kA GG y_Sy_emit z_Sy_emit e_Sy_emit) (h_Sy_fail : ct_ok PRD l D kA GG y_Sy_fail z_Sy_fail e_Sy_fail) (h_Sy_wordIn_at_s5009 : ct_ok PRD l D kA GG y_Sy_wordIn_at_s5009 z_Sy_wordIn_at_s5009 e_Sy_wordIn_at_s5009) : ct_ok PRD l D kA GG y_Sy_compileOne_at_k12 z_Sy_compileOne_at_k12 e_Sy_compileOne_at_k12 := chk_all_ok (FT := [(31, 11, 6)]) (PT := []) (CT := t_Sy_compileOne_at_k12_ct) (KT := []) (NT := []) (AN := n_Sy_compileOne_at_k12_an) (OT := [o_Sy_compileOne_at_k12_0, o_Sy_compileOne_at_k12_1, o_Sy_compileOne_at_k12_2]) 0 424 (List.forall_mem_cons.mpr ⟨oo_Sy_compileOne_at_k12_0, List.forall_mem_cons.mpr ⟨oo_Sy_compileOne_at_k12_1, List.forall_mem_cons.mpr ⟨oo_Sy_compileOne_at_k12_2, List.forall_mem_nil _⟩⟩⟩) (by decide +kernel) ⟨List.forall_mem_cons.mpr ⟨gf_Sy_31, List.forall_mem_nil _⟩, List.forall_mem_nil _, List.forall_mem_cons.mpr ⟨cl_virtual (y := y_Sy_advance) (ci := 11) rfl rfl ⟨_, _, rfl⟩ (by decide +kernel) h_Sy_advance wm_2158 wm_23 wm_2155 wm_2157 wv_10_10 ⟨by decide, by decide, by decide +kernel⟩ (by decide), List.forall_mem_cons.mpr ⟨cl_virtual (y := y_Sy_fail) (ci := 11) rfl rfl ⟨_, _, rfl⟩ (by decide +kernel) h_Sy_fail wm_2239 wm_23 wm_2236 wm_2238 wv_10_14 ⟨by decide, by decide, by decide +kernel⟩ (by decide), List.forall_mem_cons.mpr ⟨cl_virtual (y := y_Sy_emit) (ci := 11) rfl rfl ⟨_, _, rfl⟩ (by decide +kernel) h_Sy_emit wm_2258 wm_23 wm_2255 wm_2257 wv_11_2 ⟨by decide, by decide, by decide +kernel⟩ (by decide), List.forall_mem_cons.mpr ⟨cl_virtual (y := y_Sy_wordIn_at_s5009) (ci := 11) rfl rfl ⟨_, _, rfl⟩ (by decide +kernel) h_Sy_wordIn_at_s5009 wm_2229 wm_23 wm_2226 wm_2228 wv_10_12 ⟨by decide, by decide, by decide +kernel⟩ (by decide), List.forall_mem_cons.mpr ⟨cl_virtual (y := y_Sy_compileSum_at_k12) (ci := 11) rfl rfl ⟨_, _, rfl⟩ (by decide +kernel) h_Sy_compileSum_at_k12 wm_2266 wm_23 wm_2263 wm_2265 wv_11_4 ⟨by decide, by decide, by decide +kernel⟩ (by decide), List.forall_mem_cons.mpr ⟨cl_virtual (y := y_Sy_compileSum_at_k12) (ci := 11) rfl rfl ⟨_, _, rfl⟩ (by decide +kernel) h_Sy_compileSum_at_k12 wm_2266 wm_23 wm_2263 wm_2265 wv_11_4 ⟨by decide, by decide, by decide +kernel⟩ (by decide), List.forall_mem_cons.mpr ⟨cl_ldc (own := "DrawingHouse$Styler") (idx := 150) (i := 9) (tx := "not ") (by decide +kernel) (by decide +kernel) (by decide +kernel), List.forall_mem_nil _⟩⟩⟩⟩⟩⟩⟩, List.forall_mem_nil _, List.forall_mem_nil _, GG_pl⟩ (by decide +kernel)
set_option maxHeartbeats 4000000 in
theorem vc_Sy_compileOne_at_k2_0_0 (x13 : Int) (x14 : Int) (k13 : 6 ≤ x13 ∧ x13 ≤ 6) (k14 : 0 ≤ x14 ∧ x14 ≤ 0) : (0 ≤ x13) ∧ ((0 ≤ x14) ∧ (((x13 * 65536) + x14) ≤ 851970)) := by
  first
    | omega
  
def o_Sy_compileOne_at_k2_0 : or_T := (160, 15, [(13, (0, 6, 6, [])), (14, (0, 0, 0, []))], [], [], [], [(20, [13, 14], [50, 0, 0, 2, 6, 0, 2, 0, 0, 1, 0, 2, 6, 0, 2, 0, 0, 1, 1, 0, 10, 4, 6, 6, 2, 1, 0, 0, 65536, 1, 1, 0, 851970])], [], [])
theorem oo_Sy_compileOne_at_k2_0 {kA : Nat → ClassId} : or_ok PRD kA GG o_Sy_compileOne_at_k2_0 := by
  refine or_mk fun A ta ws vs hD hth hl => ?_
  intro t13 k13 t14 k14
  have nf0 : fc_1 PRD (20, [13, 14], [50, 0, 0, 2, 6, 0, 2, 0, 0, 1, 0, 2, 6, 0, 2, 0, 0, 1, 1, 0, 10, 4, 6, 6, 2, 1, 0, 0, 65536, 1, 1, 0, 851970]) ws (vs) := ⟨nf_in hl rfl, sgq_493 (vc_Sy_compileOne_at_k2_0_0 (v_iv (n_v vs 13)) (v_iv (n_v vs 14)) k13 k14)⟩
  refine ⟨(fun _ h => (by cases h)), [], trivial, ?_, (fun _ h => (by cases h))⟩
  rw [List.append_nil]
  exact List.forall_mem_cons.mpr ⟨⟨show (20 : Nat) < 100 from by decide, nf0⟩, (fun _ h => (by cases h))⟩
set_option maxHeartbeats 4000000 in
theorem vc_Sy_compileOne_at_k2_1_0 (x15 : Int) (x16 : Int) (k15 : 7 ≤ x15 ∧ x15 ≤ 7) (k16 : 0 ≤ x16 ∧ x16 ≤ 0) : (0 ≤ x15) ∧ ((0 ≤ x16) ∧ (((x15 * 65536) + x16) ≤ 851970)) := by
  first
    | omega
  
def o_Sy_compileOne_at_k2_1 : or_T := (160, 17, [(15, (0, 7, 7, [])), (16, (0, 0, 0, []))], [], [], [], [(20, [15, 16], [50, 0, 0, 2, 6, 0, 2, 0, 0, 1, 0, 2, 6, 0, 2, 0, 0, 1, 1, 0, 10, 4, 6, 6, 2, 1, 0, 0, 65536, 1, 1, 0, 851970])], [], [])
theorem oo_Sy_compileOne_at_k2_1 {kA : Nat → ClassId} : or_ok PRD kA GG o_Sy_compileOne_at_k2_1 := by
  refine or_mk fun A ta ws vs hD hth hl => ?_
  intro t15 k15 t16 k16
  have nf0 : fc_1 PRD (20, [15, 16], [50, 0, 0, 2, 6, 0, 2, 0, 0, 1, 0, 2, 6, 0, 2, 0, 0, 1, 1, 0, 10, 4, 6, 6, 2, 1, 0, 0, 65536, 1, 1, 0, 851970]) ws (vs) := ⟨nf_in hl rfl, sgq_493 (vc_Sy_compileOne_at_k2_1_0 (v_iv (n_v vs 15)) (v_iv (n_v vs 16)) k15 k16)⟩
  refine ⟨(fun _ h => (by cases h)), [], trivial, ?_, (fun _ h => (by cases h))⟩
  rw [List.append_nil]
  exact List.forall_mem_cons.mpr ⟨⟨show (20 : Nat) < 100 from by decide, nf0⟩, (fun _ h => (by cases h))⟩
set_option maxHeartbeats 4000000 in
theorem vc_Sy_compileOne_at_k2_2_0 (x16 : Int) (x17 : Int) (k16 : 8 ≤ x16 ∧ x16 ≤ 8) (k17 : 0 ≤ x17 ∧ x17 ≤ 0) : (0 ≤ x16) ∧ ((0 ≤ x17) ∧ (((x16 * 65536) + x17) ≤ 851970)) := by
  first
    | omega
  
def o_Sy_compileOne_at_k2_2 : or_T := (160, 18, [(16, (0, 8, 8, [])), (17, (0, 0, 0, []))], [], [], [], [(20, [16, 17], [50, 0, 0, 2, 6, 0, 2, 0, 0, 1, 0, 2, 6, 0, 2, 0, 0, 1, 1, 0, 10, 4, 6, 6, 2, 1, 0, 0, 65536, 1, 1, 0, 851970])], [], [])
theorem oo_Sy_compileOne_at_k2_2 {kA : Nat → ClassId} : or_ok PRD kA GG o_Sy_compileOne_at_k2_2 := by
  refine or_mk fun A ta ws vs hD hth hl => ?_
  intro t16 k16 t17 k17
  have nf0 : fc_1 PRD (20, [16, 17], [50, 0, 0, 2, 6, 0, 2, 0, 0, 1, 0, 2, 6, 0, 2, 0, 0, 1, 1, 0, 10, 4, 6, 6, 2, 1, 0, 0, 65536, 1, 1, 0, 851970]) ws (vs) := ⟨nf_in hl rfl, sgq_493 (vc_Sy_compileOne_at_k2_2_0 (v_iv (n_v vs 16)) (v_iv (n_v vs 17)) k16 k17)⟩
  refine ⟨(fun _ h => (by cases h)), [], trivial, ?_, (fun _ h => (by cases h))⟩
  rw [List.append_nil]
  exact List.forall_mem_cons.mpr ⟨⟨show (20 : Nat) < 100 from by decide, nf0⟩, (fun _ h => (by cases h))⟩
set_option maxHeartbeats 4000000 in
theorem vc_Sy_compileOne_at_k2_3_0 (x10 : Int) (x11 : Int) (k10 : 11 ≤ x10 ∧ x10 ≤ 11) (k11 : 0 ≤ x11 ∧ x11 ≤ 0) : (0 ≤ x10) ∧ ((0 ≤ x11) ∧ (((x10 * 65536) + x11) ≤ 851970)) := by
  first
    | omega
  
def o_Sy_compileOne_at_k2_3 : or_T := (60, 12, [(10, (0, 11, 11, [])), (11, (0, 0, 0, []))], [], [], [], [(20, [10, 11], [50, 0, 0, 2, 6, 0, 2, 0, 0, 1, 0, 2, 6, 0, 2, 0, 0, 1, 1, 0, 10, 4, 6, 6, 2, 1, 0, 0, 65536, 1, 1, 0, 851970])], [], [])
theorem oo_Sy_compileOne_at_k2_3 {kA : Nat → ClassId} : or_ok PRD kA GG o_Sy_compileOne_at_k2_3 := by
  refine or_mk fun A ta ws vs hD hth hl => ?_
  intro t10 k10 t11 k11
  have nf0 : fc_1 PRD (20, [10, 11], [50, 0, 0, 2, 6, 0, 2, 0, 0, 1, 0, 2, 6, 0, 2, 0, 0, 1, 1, 0, 10, 4, 6, 6, 2, 1, 0, 0, 65536, 1, 1, 0, 851970]) ws (vs) := ⟨nf_in hl rfl, sgq_493 (vc_Sy_compileOne_at_k2_3_0 (v_iv (n_v vs 10)) (v_iv (n_v vs 11)) k10 k11)⟩
  refine ⟨(fun _ h => (by cases h)), [], trivial, ?_, (fun _ h => (by cases h))⟩
  rw [List.append_nil]
  exact List.forall_mem_cons.mpr ⟨⟨show (20 : Nat) < 100 from by decide, nf0⟩, (fun _ h => (by cases h))⟩
def n_Sy_compileOne_at_k2_an : List an_T := []
def t_Sy_compileOne_at_k2_ct : ct_L := [(1, 69, e_Sy_advance), (1, 118, e_Sy_fail), (1, 128, e_Sy_emit), (1, 152, e_Sy_closes), (13, 114, e_Sy_wordIn_at_s5009), (160, 145, e_Sy_compileOne_at_k3), (211, 125, e_Sy_compileTest_at_k3), (262, 137, e_Sy_compileSum_at_k2), (391, 137, e_Sy_compileSum_at_k2), (1000000, 150, en_ro [] (2, 0, 0, [5009]))]
set_option maxRecDepth 100000 in
theorem c_Sy_compileOne_at_k2 {l : Launch} {D : va_G} {kA : Nat → ClassId} (h_Sy_advance : ct_ok PRD l D kA GG y_Sy_advance z_Sy_advance e_Sy_advance) (h_Sy_closes : ct_ok PRD l D kA GG y_Sy_closes z_Sy_closes e_Sy_closes) (h_Sy_compileOne_at_k3 : ct_ok PRD l D kA GG y_Sy_compileOne_at_k3 z_Sy_compileOne_at_k3 e_Sy_compileOne_at_k3) (h_Sy_compileSum_at_k2 : ct_ok PRD l D kA GG y_Sy_compileSum_at_k2 z_Sy_compileSum_at_k2 e_Sy_compileSum_at_k2) (h_Sy_compileTest_at_k3 : ct_ok PRD l D kA GG y_Sy_compileTest_at_k3 z_Sy_compileTest_at_k3 e_Sy_compileTest_at_k3) (h_Sy_emit : ct_ok PRD l D kA GG y_Sy_emit z_Sy_emit e_Sy_emit) (h_Sy_fail : ct_ok PRD l D kA GG y_Sy_fail z_Sy_fail e_Sy_fail) (h_Sy_wordIn_at_s5009 : ct_ok PRD l D kA GG y_Sy_wordIn_at_s5009 z_Sy_wordIn_at_s5009 e_Sy_wordIn_at_s5009) : ct_ok PRD l D kA GG y_Sy_compileOne_at_k2 z_Sy_compileOne_at_k2 e_Sy_compileOne_at_k2 := chk_all_ok (FT := [(31, 11, 6)]) (PT := []) (CT := t_Sy_compileOne_at_k2_ct) (KT := []) (NT := []) (AN := n_Sy_compileOne_at_k2_an) (OT := [o_Sy_compileOne_at_k2_0, o_Sy_compileOne_at_k2_1, o_Sy_compileOne_at_k2_2, o_Sy_compileOne_at_k2_3]) 0 580 (List.forall_mem_cons.mpr ⟨oo_Sy_compileOne_at_k2_0, List.forall_mem_cons.mpr ⟨oo_Sy_compileOne_at_k2_1, List.forall_mem_cons.mpr ⟨oo_Sy_compileOne_at_k2_2, List.forall_mem_cons.mpr ⟨oo_Sy_compileOne_at_k2_3, List.forall_mem_nil _⟩⟩⟩⟩) (by decide +kernel) ⟨List.forall_mem_cons.mpr ⟨gf_Sy_31, List.forall_mem_nil _⟩, List.forall_mem_nil _, List.forall_mem_cons.mpr ⟨cl_virtual (y := y_Sy_advance) (ci := 11) rfl rfl ⟨_, _, rfl⟩ (by decide +kernel) h_Sy_advance wm_2158 wm_23 wm_2155 wm_2157 wv_10_10 ⟨by decide, by decide, by decide +kernel⟩ (by decide), List.forall_mem_cons.mpr ⟨cl_virtual (y := y_Sy_fail) (ci := 11) rfl rfl ⟨_, _, rfl⟩ (by decide +kernel) h_Sy_fail wm_2239 wm_23 wm_2236 wm_2238 wv_10_14 ⟨by decide, by decide, by decide +kernel⟩ (by decide), List.forall_mem_cons.mpr ⟨cl_virtual (y := y_Sy_emit) (ci := 11) rfl rfl ⟨_, _, rfl⟩ (by decide +kernel) h_Sy_emit wm_2258 wm_23 wm_2255 wm_2257 wv_11_2 ⟨by decide, by decide, by decide +kernel⟩ (by decide), List.forall_mem_cons.mpr ⟨cl_virtual (y := y_Sy_closes) (ci := 11) rfl rfl ⟨_, _, rfl⟩ (by decide +kernel) h_Sy_closes wm_2262 wm_23 wm_2259 wm_2261 wv_11_3 ⟨by decide, by decide, by decide +kernel⟩ (by decide), List.forall_mem_cons.mpr ⟨cl_virtual (y := y_Sy_wordIn_at_s5009) (ci := 11) rfl rfl ⟨_, _, rfl⟩ (by decide +kernel) h_Sy_wordIn_at_s5009 wm_2229 wm_23 wm_2226 wm_2228 wv_10_12 ⟨by decide, by decide, by decide +kernel⟩ (by decide), List.forall_mem_cons.mpr ⟨cl_virtual (y := y_Sy_compileOne_at_k3) (ci := 11) rfl rfl ⟨_, _, rfl⟩ (by decide +kernel) h_Sy_compileOne_at_k3 wm_2253 wm_23 wm_2250 wm_2252 wv_11_1 ⟨by decide, by decide, by decide +kernel⟩ (by decide), List.forall_mem_cons.mpr ⟨cl_virtual (y := y_Sy_compileTest_at_k3) (ci := 11) rfl rfl ⟨_, _, rfl⟩ (by decide +kernel) h_Sy_compileTest_at_k3 wm_2245 wm_23 wm_2242 wm_2244 wv_10_15 ⟨by decide, by decide, by decide +kernel⟩ (by decide), List.forall_mem_cons.mpr ⟨cl_virtual (y := y_Sy_compileSum_at_k2) (ci := 11) rfl rfl ⟨_, _, rfl⟩ (by decide +kernel) h_Sy_compileSum_at_k2 wm_2266 wm_23 wm_2263 wm_2265 wv_11_4 ⟨by decide, by decide, by decide +kernel⟩ (by decide), List.forall_mem_cons.mpr ⟨cl_virtual (y := y_Sy_compileSum_at_k2) (ci := 11) rfl rfl ⟨_, _, rfl⟩ (by decide +kernel) h_Sy_compileSum_at_k2 wm_2266 wm_23 wm_2263 wm_2265 wv_11_4 ⟨by decide, by decide, by decide +kernel⟩ (by decide), List.forall_mem_cons.mpr ⟨cl_ldc (own := "DrawingHouse$Styler") (idx := 150) (i := 9) (tx := "not ") (by decide +kernel) (by decide +kernel) (by decide +kernel), List.forall_mem_nil _⟩⟩⟩⟩⟩⟩⟩⟩⟩⟩, List.forall_mem_nil _, List.forall_mem_nil _, GG_pl⟩ (by decide +kernel)
set_option maxHeartbeats 4000000 in
theorem vc_Sy_compileOne_at_k3_0_0 (x13 : Int) (x14 : Int) (k13 : 6 ≤ x13 ∧ x13 ≤ 6) (k14 : 0 ≤ x14 ∧ x14 ≤ 0) : (0 ≤ x13) ∧ ((0 ≤ x14) ∧ (((x13 * 65536) + x14) ≤ 851970)) := by
  first
    | omega
  
def o_Sy_compileOne_at_k3_0 : or_T := (160, 15, [(13, (0, 6, 6, [])), (14, (0, 0, 0, []))], [], [], [], [(20, [13, 14], [50, 0, 0, 2, 6, 0, 2, 0, 0, 1, 0, 2, 6, 0, 2, 0, 0, 1, 1, 0, 10, 4, 6, 6, 2, 1, 0, 0, 65536, 1, 1, 0, 851970])], [], [])
theorem oo_Sy_compileOne_at_k3_0 {kA : Nat → ClassId} : or_ok PRD kA GG o_Sy_compileOne_at_k3_0 := by
  refine or_mk fun A ta ws vs hD hth hl => ?_
  intro t13 k13 t14 k14
  have nf0 : fc_1 PRD (20, [13, 14], [50, 0, 0, 2, 6, 0, 2, 0, 0, 1, 0, 2, 6, 0, 2, 0, 0, 1, 1, 0, 10, 4, 6, 6, 2, 1, 0, 0, 65536, 1, 1, 0, 851970]) ws (vs) := ⟨nf_in hl rfl, sgq_493 (vc_Sy_compileOne_at_k3_0_0 (v_iv (n_v vs 13)) (v_iv (n_v vs 14)) k13 k14)⟩
  refine ⟨(fun _ h => (by cases h)), [], trivial, ?_, (fun _ h => (by cases h))⟩
  rw [List.append_nil]
  exact List.forall_mem_cons.mpr ⟨⟨show (20 : Nat) < 100 from by decide, nf0⟩, (fun _ h => (by cases h))⟩
set_option maxHeartbeats 4000000 in
theorem vc_Sy_compileOne_at_k3_1_0 (x15 : Int) (x16 : Int) (k15 : 7 ≤ x15 ∧ x15 ≤ 7) (k16 : 0 ≤ x16 ∧ x16 ≤ 0) : (0 ≤ x15) ∧ ((0 ≤ x16) ∧ (((x15 * 65536) + x16) ≤ 851970)) := by
  first
    | omega
  
def o_Sy_compileOne_at_k3_1 : or_T := (160, 17, [(15, (0, 7, 7, [])), (16, (0, 0, 0, []))], [], [], [], [(20, [15, 16], [50, 0, 0, 2, 6, 0, 2, 0, 0, 1, 0, 2, 6, 0, 2, 0, 0, 1, 1, 0, 10, 4, 6, 6, 2, 1, 0, 0, 65536, 1, 1, 0, 851970])], [], [])
theorem oo_Sy_compileOne_at_k3_1 {kA : Nat → ClassId} : or_ok PRD kA GG o_Sy_compileOne_at_k3_1 := by
  refine or_mk fun A ta ws vs hD hth hl => ?_
  intro t15 k15 t16 k16
  have nf0 : fc_1 PRD (20, [15, 16], [50, 0, 0, 2, 6, 0, 2, 0, 0, 1, 0, 2, 6, 0, 2, 0, 0, 1, 1, 0, 10, 4, 6, 6, 2, 1, 0, 0, 65536, 1, 1, 0, 851970]) ws (vs) := ⟨nf_in hl rfl, sgq_493 (vc_Sy_compileOne_at_k3_1_0 (v_iv (n_v vs 15)) (v_iv (n_v vs 16)) k15 k16)⟩
  refine ⟨(fun _ h => (by cases h)), [], trivial, ?_, (fun _ h => (by cases h))⟩
  rw [List.append_nil]
  exact List.forall_mem_cons.mpr ⟨⟨show (20 : Nat) < 100 from by decide, nf0⟩, (fun _ h => (by cases h))⟩
set_option maxHeartbeats 4000000 in
theorem vc_Sy_compileOne_at_k3_2_0 (x16 : Int) (x17 : Int) (k16 : 8 ≤ x16 ∧ x16 ≤ 8) (k17 : 0 ≤ x17 ∧ x17 ≤ 0) : (0 ≤ x16) ∧ ((0 ≤ x17) ∧ (((x16 * 65536) + x17) ≤ 851970)) := by
  first
    | omega
  
def o_Sy_compileOne_at_k3_2 : or_T := (160, 18, [(16, (0, 8, 8, [])), (17, (0, 0, 0, []))], [], [], [], [(20, [16, 17], [50, 0, 0, 2, 6, 0, 2, 0, 0, 1, 0, 2, 6, 0, 2, 0, 0, 1, 1, 0, 10, 4, 6, 6, 2, 1, 0, 0, 65536, 1, 1, 0, 851970])], [], [])
theorem oo_Sy_compileOne_at_k3_2 {kA : Nat → ClassId} : or_ok PRD kA GG o_Sy_compileOne_at_k3_2 := by
  refine or_mk fun A ta ws vs hD hth hl => ?_
  intro t16 k16 t17 k17
  have nf0 : fc_1 PRD (20, [16, 17], [50, 0, 0, 2, 6, 0, 2, 0, 0, 1, 0, 2, 6, 0, 2, 0, 0, 1, 1, 0, 10, 4, 6, 6, 2, 1, 0, 0, 65536, 1, 1, 0, 851970]) ws (vs) := ⟨nf_in hl rfl, sgq_493 (vc_Sy_compileOne_at_k3_2_0 (v_iv (n_v vs 16)) (v_iv (n_v vs 17)) k16 k17)⟩
  refine ⟨(fun _ h => (by cases h)), [], trivial, ?_, (fun _ h => (by cases h))⟩
  rw [List.append_nil]
  exact List.forall_mem_cons.mpr ⟨⟨show (20 : Nat) < 100 from by decide, nf0⟩, (fun _ h => (by cases h))⟩
set_option maxHeartbeats 4000000 in
theorem vc_Sy_compileOne_at_k3_3_0 (x10 : Int) (x11 : Int) (k10 : 11 ≤ x10 ∧ x10 ≤ 11) (k11 : 0 ≤ x11 ∧ x11 ≤ 0) : (0 ≤ x10) ∧ ((0 ≤ x11) ∧ (((x10 * 65536) + x11) ≤ 851970)) := by
  first
    | omega
  
def o_Sy_compileOne_at_k3_3 : or_T := (60, 12, [(10, (0, 11, 11, [])), (11, (0, 0, 0, []))], [], [], [], [(20, [10, 11], [50, 0, 0, 2, 6, 0, 2, 0, 0, 1, 0, 2, 6, 0, 2, 0, 0, 1, 1, 0, 10, 4, 6, 6, 2, 1, 0, 0, 65536, 1, 1, 0, 851970])], [], [])
theorem oo_Sy_compileOne_at_k3_3 {kA : Nat → ClassId} : or_ok PRD kA GG o_Sy_compileOne_at_k3_3 := by
  refine or_mk fun A ta ws vs hD hth hl => ?_
  intro t10 k10 t11 k11
  have nf0 : fc_1 PRD (20, [10, 11], [50, 0, 0, 2, 6, 0, 2, 0, 0, 1, 0, 2, 6, 0, 2, 0, 0, 1, 1, 0, 10, 4, 6, 6, 2, 1, 0, 0, 65536, 1, 1, 0, 851970]) ws (vs) := ⟨nf_in hl rfl, sgq_493 (vc_Sy_compileOne_at_k3_3_0 (v_iv (n_v vs 10)) (v_iv (n_v vs 11)) k10 k11)⟩
  refine ⟨(fun _ h => (by cases h)), [], trivial, ?_, (fun _ h => (by cases h))⟩
  rw [List.append_nil]
  exact List.forall_mem_cons.mpr ⟨⟨show (20 : Nat) < 100 from by decide, nf0⟩, (fun _ h => (by cases h))⟩
def n_Sy_compileOne_at_k3_an : List an_T := []
def t_Sy_compileOne_at_k3_ct : ct_L := [(1, 69, e_Sy_advance), (1, 118, e_Sy_fail), (1, 128, e_Sy_emit), (1, 152, e_Sy_closes), (13, 114, e_Sy_wordIn_at_s5009), (160, 145, e_Sy_compileOne_at_k4), (211, 125, e_Sy_compileTest_at_k4), (262, 137, e_Sy_compileSum_at_k3), (391, 137, e_Sy_compileSum_at_k3), (1000000, 150, en_ro [] (2, 0, 0, [5009]))]
set_option maxRecDepth 100000 in
theorem c_Sy_compileOne_at_k3 {l : Launch} {D : va_G} {kA : Nat → ClassId} (h_Sy_advance : ct_ok PRD l D kA GG y_Sy_advance z_Sy_advance e_Sy_advance) (h_Sy_closes : ct_ok PRD l D kA GG y_Sy_closes z_Sy_closes e_Sy_closes) (h_Sy_compileOne_at_k4 : ct_ok PRD l D kA GG y_Sy_compileOne_at_k4 z_Sy_compileOne_at_k4 e_Sy_compileOne_at_k4) (h_Sy_compileSum_at_k3 : ct_ok PRD l D kA GG y_Sy_compileSum_at_k3 z_Sy_compileSum_at_k3 e_Sy_compileSum_at_k3) (h_Sy_compileTest_at_k4 : ct_ok PRD l D kA GG y_Sy_compileTest_at_k4 z_Sy_compileTest_at_k4 e_Sy_compileTest_at_k4) (h_Sy_emit : ct_ok PRD l D kA GG y_Sy_emit z_Sy_emit e_Sy_emit) (h_Sy_fail : ct_ok PRD l D kA GG y_Sy_fail z_Sy_fail e_Sy_fail) (h_Sy_wordIn_at_s5009 : ct_ok PRD l D kA GG y_Sy_wordIn_at_s5009 z_Sy_wordIn_at_s5009 e_Sy_wordIn_at_s5009) : ct_ok PRD l D kA GG y_Sy_compileOne_at_k3 z_Sy_compileOne_at_k3 e_Sy_compileOne_at_k3 := chk_all_ok (FT := [(31, 11, 6)]) (PT := []) (CT := t_Sy_compileOne_at_k3_ct) (KT := []) (NT := []) (AN := n_Sy_compileOne_at_k3_an) (OT := [o_Sy_compileOne_at_k3_0, o_Sy_compileOne_at_k3_1, o_Sy_compileOne_at_k3_2, o_Sy_compileOne_at_k3_3]) 0 580 (List.forall_mem_cons.mpr ⟨oo_Sy_compileOne_at_k3_0, List.forall_mem_cons.mpr ⟨oo_Sy_compileOne_at_k3_1, List.forall_mem_cons.mpr ⟨oo_Sy_compileOne_at_k3_2, List.forall_mem_cons.mpr ⟨oo_Sy_compileOne_at_k3_3, List.forall_mem_nil _⟩⟩⟩⟩) (by decide +kernel) ⟨List.forall_mem_cons.mpr ⟨gf_Sy_31, List.forall_mem_nil _⟩, List.forall_mem_nil _, List.forall_mem_cons.mpr ⟨cl_virtual (y := y_Sy_advance) (ci := 11) rfl rfl ⟨_, _, rfl⟩ (by decide +kernel) h_Sy_advance wm_2158 wm_23 wm_2155 wm_2157 wv_10_10 ⟨by decide, by decide, by decide +kernel⟩ (by decide), List.forall_mem_cons.mpr ⟨cl_virtual (y := y_Sy_fail) (ci := 11) rfl rfl ⟨_, _, rfl⟩ (by decide +kernel) h_Sy_fail wm_2239 wm_23 wm_2236 wm_2238 wv_10_14 ⟨by decide, by decide, by decide +kernel⟩ (by decide), List.forall_mem_cons.mpr ⟨cl_virtual (y := y_Sy_emit) (ci := 11) rfl rfl ⟨_, _, rfl⟩ (by decide +kernel) h_Sy_emit wm_2258 wm_23 wm_2255 wm_2257 wv_11_2 ⟨by decide, by decide, by decide +kernel⟩ (by decide), List.forall_mem_cons.mpr ⟨cl_virtual (y := y_Sy_closes) (ci := 11) rfl rfl ⟨_, _, rfl⟩ (by decide +kernel) h_Sy_closes wm_2262 wm_23 wm_2259 wm_2261 wv_11_3 ⟨by decide, by decide, by decide +kernel⟩ (by decide), List.forall_mem_cons.mpr ⟨cl_virtual (y := y_Sy_wordIn_at_s5009) (ci := 11) rfl rfl ⟨_, _, rfl⟩ (by decide +kernel) h_Sy_wordIn_at_s5009 wm_2229 wm_23 wm_2226 wm_2228 wv_10_12 ⟨by decide, by decide, by decide +kernel⟩ (by decide), List.forall_mem_cons.mpr ⟨cl_virtual (y := y_Sy_compileOne_at_k4) (ci := 11) rfl rfl ⟨_, _, rfl⟩ (by decide +kernel) h_Sy_compileOne_at_k4 wm_2253 wm_23 wm_2250 wm_2252 wv_11_1 ⟨by decide, by decide, by decide +kernel⟩ (by decide), List.forall_mem_cons.mpr ⟨cl_virtual (y := y_Sy_compileTest_at_k4) (ci := 11) rfl rfl ⟨_, _, rfl⟩ (by decide +kernel) h_Sy_compileTest_at_k4 wm_2245 wm_23 wm_2242 wm_2244 wv_10_15 ⟨by decide, by decide, by decide +kernel⟩ (by decide), List.forall_mem_cons.mpr ⟨cl_virtual (y := y_Sy_compileSum_at_k3) (ci := 11) rfl rfl ⟨_, _, rfl⟩ (by decide +kernel) h_Sy_compileSum_at_k3 wm_2266 wm_23 wm_2263 wm_2265 wv_11_4 ⟨by decide, by decide, by decide +kernel⟩ (by decide), List.forall_mem_cons.mpr ⟨cl_virtual (y := y_Sy_compileSum_at_k3) (ci := 11) rfl rfl ⟨_, _, rfl⟩ (by decide +kernel) h_Sy_compileSum_at_k3 wm_2266 wm_23 wm_2263 wm_2265 wv_11_4 ⟨by decide, by decide, by decide +kernel⟩ (by decide), List.forall_mem_cons.mpr ⟨cl_ldc (own := "DrawingHouse$Styler") (idx := 150) (i := 9) (tx := "not ") (by decide +kernel) (by decide +kernel) (by decide +kernel), List.forall_mem_nil _⟩⟩⟩⟩⟩⟩⟩⟩⟩⟩, List.forall_mem_nil _, List.forall_mem_nil _, GG_pl⟩ (by decide +kernel)
set_option maxHeartbeats 4000000 in
theorem vc_Sy_compileOne_at_k4_0_0 (x13 : Int) (x14 : Int) (k13 : 6 ≤ x13 ∧ x13 ≤ 6) (k14 : 0 ≤ x14 ∧ x14 ≤ 0) : (0 ≤ x13) ∧ ((0 ≤ x14) ∧ (((x13 * 65536) + x14) ≤ 851970)) := by
  first
    | omega
  
def o_Sy_compileOne_at_k4_0 : or_T := (160, 15, [(13, (0, 6, 6, [])), (14, (0, 0, 0, []))], [], [], [], [(20, [13, 14], [50, 0, 0, 2, 6, 0, 2, 0, 0, 1, 0, 2, 6, 0, 2, 0, 0, 1, 1, 0, 10, 4, 6, 6, 2, 1, 0, 0, 65536, 1, 1, 0, 851970])], [], [])
theorem oo_Sy_compileOne_at_k4_0 {kA : Nat → ClassId} : or_ok PRD kA GG o_Sy_compileOne_at_k4_0 := by
  refine or_mk fun A ta ws vs hD hth hl => ?_
  intro t13 k13 t14 k14
  have nf0 : fc_1 PRD (20, [13, 14], [50, 0, 0, 2, 6, 0, 2, 0, 0, 1, 0, 2, 6, 0, 2, 0, 0, 1, 1, 0, 10, 4, 6, 6, 2, 1, 0, 0, 65536, 1, 1, 0, 851970]) ws (vs) := ⟨nf_in hl rfl, sgq_493 (vc_Sy_compileOne_at_k4_0_0 (v_iv (n_v vs 13)) (v_iv (n_v vs 14)) k13 k14)⟩
  refine ⟨(fun _ h => (by cases h)), [], trivial, ?_, (fun _ h => (by cases h))⟩
  rw [List.append_nil]
  exact List.forall_mem_cons.mpr ⟨⟨show (20 : Nat) < 100 from by decide, nf0⟩, (fun _ h => (by cases h))⟩
set_option maxHeartbeats 4000000 in
theorem vc_Sy_compileOne_at_k4_1_0 (x15 : Int) (x16 : Int) (k15 : 7 ≤ x15 ∧ x15 ≤ 7) (k16 : 0 ≤ x16 ∧ x16 ≤ 0) : (0 ≤ x15) ∧ ((0 ≤ x16) ∧ (((x15 * 65536) + x16) ≤ 851970)) := by
  first
    | omega
  
def o_Sy_compileOne_at_k4_1 : or_T := (160, 17, [(15, (0, 7, 7, [])), (16, (0, 0, 0, []))], [], [], [], [(20, [15, 16], [50, 0, 0, 2, 6, 0, 2, 0, 0, 1, 0, 2, 6, 0, 2, 0, 0, 1, 1, 0, 10, 4, 6, 6, 2, 1, 0, 0, 65536, 1, 1, 0, 851970])], [], [])
theorem oo_Sy_compileOne_at_k4_1 {kA : Nat → ClassId} : or_ok PRD kA GG o_Sy_compileOne_at_k4_1 := by
  refine or_mk fun A ta ws vs hD hth hl => ?_
  intro t15 k15 t16 k16
  have nf0 : fc_1 PRD (20, [15, 16], [50, 0, 0, 2, 6, 0, 2, 0, 0, 1, 0, 2, 6, 0, 2, 0, 0, 1, 1, 0, 10, 4, 6, 6, 2, 1, 0, 0, 65536, 1, 1, 0, 851970]) ws (vs) := ⟨nf_in hl rfl, sgq_493 (vc_Sy_compileOne_at_k4_1_0 (v_iv (n_v vs 15)) (v_iv (n_v vs 16)) k15 k16)⟩
  refine ⟨(fun _ h => (by cases h)), [], trivial, ?_, (fun _ h => (by cases h))⟩
  rw [List.append_nil]
  exact List.forall_mem_cons.mpr ⟨⟨show (20 : Nat) < 100 from by decide, nf0⟩, (fun _ h => (by cases h))⟩
set_option maxHeartbeats 4000000 in
theorem vc_Sy_compileOne_at_k4_2_0 (x16 : Int) (x17 : Int) (k16 : 8 ≤ x16 ∧ x16 ≤ 8) (k17 : 0 ≤ x17 ∧ x17 ≤ 0) : (0 ≤ x16) ∧ ((0 ≤ x17) ∧ (((x16 * 65536) + x17) ≤ 851970)) := by
  first
    | omega
  
def o_Sy_compileOne_at_k4_2 : or_T := (160, 18, [(16, (0, 8, 8, [])), (17, (0, 0, 0, []))], [], [], [], [(20, [16, 17], [50, 0, 0, 2, 6, 0, 2, 0, 0, 1, 0, 2, 6, 0, 2, 0, 0, 1, 1, 0, 10, 4, 6, 6, 2, 1, 0, 0, 65536, 1, 1, 0, 851970])], [], [])
theorem oo_Sy_compileOne_at_k4_2 {kA : Nat → ClassId} : or_ok PRD kA GG o_Sy_compileOne_at_k4_2 := by
  refine or_mk fun A ta ws vs hD hth hl => ?_
  intro t16 k16 t17 k17
  have nf0 : fc_1 PRD (20, [16, 17], [50, 0, 0, 2, 6, 0, 2, 0, 0, 1, 0, 2, 6, 0, 2, 0, 0, 1, 1, 0, 10, 4, 6, 6, 2, 1, 0, 0, 65536, 1, 1, 0, 851970]) ws (vs) := ⟨nf_in hl rfl, sgq_493 (vc_Sy_compileOne_at_k4_2_0 (v_iv (n_v vs 16)) (v_iv (n_v vs 17)) k16 k17)⟩
  refine ⟨(fun _ h => (by cases h)), [], trivial, ?_, (fun _ h => (by cases h))⟩
  rw [List.append_nil]
  exact List.forall_mem_cons.mpr ⟨⟨show (20 : Nat) < 100 from by decide, nf0⟩, (fun _ h => (by cases h))⟩
set_option maxHeartbeats 4000000 in
theorem vc_Sy_compileOne_at_k4_3_0 (x10 : Int) (x11 : Int) (k10 : 11 ≤ x10 ∧ x10 ≤ 11) (k11 : 0 ≤ x11 ∧ x11 ≤ 0) : (0 ≤ x10) ∧ ((0 ≤ x11) ∧ (((x10 * 65536) + x11) ≤ 851970)) := by
  first
    | omega
  
def o_Sy_compileOne_at_k4_3 : or_T := (60, 12, [(10, (0, 11, 11, [])), (11, (0, 0, 0, []))], [], [], [], [(20, [10, 11], [50, 0, 0, 2, 6, 0, 2, 0, 0, 1, 0, 2, 6, 0, 2, 0, 0, 1, 1, 0, 10, 4, 6, 6, 2, 1, 0, 0, 65536, 1, 1, 0, 851970])], [], [])
theorem oo_Sy_compileOne_at_k4_3 {kA : Nat → ClassId} : or_ok PRD kA GG o_Sy_compileOne_at_k4_3 := by
  refine or_mk fun A ta ws vs hD hth hl => ?_
  intro t10 k10 t11 k11
  have nf0 : fc_1 PRD (20, [10, 11], [50, 0, 0, 2, 6, 0, 2, 0, 0, 1, 0, 2, 6, 0, 2, 0, 0, 1, 1, 0, 10, 4, 6, 6, 2, 1, 0, 0, 65536, 1, 1, 0, 851970]) ws (vs) := ⟨nf_in hl rfl, sgq_493 (vc_Sy_compileOne_at_k4_3_0 (v_iv (n_v vs 10)) (v_iv (n_v vs 11)) k10 k11)⟩
  refine ⟨(fun _ h => (by cases h)), [], trivial, ?_, (fun _ h => (by cases h))⟩
  rw [List.append_nil]
  exact List.forall_mem_cons.mpr ⟨⟨show (20 : Nat) < 100 from by decide, nf0⟩, (fun _ h => (by cases h))⟩
def n_Sy_compileOne_at_k4_an : List an_T := []
def t_Sy_compileOne_at_k4_ct : ct_L := [(1, 69, e_Sy_advance), (1, 118, e_Sy_fail), (1, 128, e_Sy_emit), (1, 152, e_Sy_closes), (13, 114, e_Sy_wordIn_at_s5009), (160, 145, e_Sy_compileOne_at_k5), (211, 125, e_Sy_compileTest_at_k5), (262, 137, e_Sy_compileSum_at_k4), (391, 137, e_Sy_compileSum_at_k4), (1000000, 150, en_ro [] (2, 0, 0, [5009]))]
set_option maxRecDepth 100000 in
theorem c_Sy_compileOne_at_k4 {l : Launch} {D : va_G} {kA : Nat → ClassId} (h_Sy_advance : ct_ok PRD l D kA GG y_Sy_advance z_Sy_advance e_Sy_advance) (h_Sy_closes : ct_ok PRD l D kA GG y_Sy_closes z_Sy_closes e_Sy_closes) (h_Sy_compileOne_at_k5 : ct_ok PRD l D kA GG y_Sy_compileOne_at_k5 z_Sy_compileOne_at_k5 e_Sy_compileOne_at_k5) (h_Sy_compileSum_at_k4 : ct_ok PRD l D kA GG y_Sy_compileSum_at_k4 z_Sy_compileSum_at_k4 e_Sy_compileSum_at_k4) (h_Sy_compileTest_at_k5 : ct_ok PRD l D kA GG y_Sy_compileTest_at_k5 z_Sy_compileTest_at_k5 e_Sy_compileTest_at_k5) (h_Sy_emit : ct_ok PRD l D kA GG y_Sy_emit z_Sy_emit e_Sy_emit) (h_Sy_fail : ct_ok PRD l D kA GG y_Sy_fail z_Sy_fail e_Sy_fail) (h_Sy_wordIn_at_s5009 : ct_ok PRD l D kA GG y_Sy_wordIn_at_s5009 z_Sy_wordIn_at_s5009 e_Sy_wordIn_at_s5009) : ct_ok PRD l D kA GG y_Sy_compileOne_at_k4 z_Sy_compileOne_at_k4 e_Sy_compileOne_at_k4 := chk_all_ok (FT := [(31, 11, 6)]) (PT := []) (CT := t_Sy_compileOne_at_k4_ct) (KT := []) (NT := []) (AN := n_Sy_compileOne_at_k4_an) (OT := [o_Sy_compileOne_at_k4_0, o_Sy_compileOne_at_k4_1, o_Sy_compileOne_at_k4_2, o_Sy_compileOne_at_k4_3]) 0 580 (List.forall_mem_cons.mpr ⟨oo_Sy_compileOne_at_k4_0, List.forall_mem_cons.mpr ⟨oo_Sy_compileOne_at_k4_1, List.forall_mem_cons.mpr ⟨oo_Sy_compileOne_at_k4_2, List.forall_mem_cons.mpr ⟨oo_Sy_compileOne_at_k4_3, List.forall_mem_nil _⟩⟩⟩⟩) (by decide +kernel) ⟨List.forall_mem_cons.mpr ⟨gf_Sy_31, List.forall_mem_nil _⟩, List.forall_mem_nil _, List.forall_mem_cons.mpr ⟨cl_virtual (y := y_Sy_advance) (ci := 11) rfl rfl ⟨_, _, rfl⟩ (by decide +kernel) h_Sy_advance wm_2158 wm_23 wm_2155 wm_2157 wv_10_10 ⟨by decide, by decide, by decide +kernel⟩ (by decide), List.forall_mem_cons.mpr ⟨cl_virtual (y := y_Sy_fail) (ci := 11) rfl rfl ⟨_, _, rfl⟩ (by decide +kernel) h_Sy_fail wm_2239 wm_23 wm_2236 wm_2238 wv_10_14 ⟨by decide, by decide, by decide +kernel⟩ (by decide), List.forall_mem_cons.mpr ⟨cl_virtual (y := y_Sy_emit) (ci := 11) rfl rfl ⟨_, _, rfl⟩ (by decide +kernel) h_Sy_emit wm_2258 wm_23 wm_2255 wm_2257 wv_11_2 ⟨by decide, by decide, by decide +kernel⟩ (by decide), List.forall_mem_cons.mpr ⟨cl_virtual (y := y_Sy_closes) (ci := 11) rfl rfl ⟨_, _, rfl⟩ (by decide +kernel) h_Sy_closes wm_2262 wm_23 wm_2259 wm_2261 wv_11_3 ⟨by decide, by decide, by decide +kernel⟩ (by decide), List.forall_mem_cons.mpr ⟨cl_virtual (y := y_Sy_wordIn_at_s5009) (ci := 11) rfl rfl ⟨_, _, rfl⟩ (by decide +kernel) h_Sy_wordIn_at_s5009 wm_2229 wm_23 wm_2226 wm_2228 wv_10_12 ⟨by decide, by decide, by decide +kernel⟩ (by decide), List.forall_mem_cons.mpr ⟨cl_virtual (y := y_Sy_compileOne_at_k5) (ci := 11) rfl rfl ⟨_, _, rfl⟩ (by decide +kernel) h_Sy_compileOne_at_k5 wm_2253 wm_23 wm_2250 wm_2252 wv_11_1 ⟨by decide, by decide, by decide +kernel⟩ (by decide), List.forall_mem_cons.mpr ⟨cl_virtual (y := y_Sy_compileTest_at_k5) (ci := 11) rfl rfl ⟨_, _, rfl⟩ (by decide +kernel) h_Sy_compileTest_at_k5 wm_2245 wm_23 wm_2242 wm_2244 wv_10_15 ⟨by decide, by decide, by decide +kernel⟩ (by decide), List.forall_mem_cons.mpr ⟨cl_virtual (y := y_Sy_compileSum_at_k4) (ci := 11) rfl rfl ⟨_, _, rfl⟩ (by decide +kernel) h_Sy_compileSum_at_k4 wm_2266 wm_23 wm_2263 wm_2265 wv_11_4 ⟨by decide, by decide, by decide +kernel⟩ (by decide), List.forall_mem_cons.mpr ⟨cl_virtual (y := y_Sy_compileSum_at_k4) (ci := 11) rfl rfl ⟨_, _, rfl⟩ (by decide +kernel) h_Sy_compileSum_at_k4 wm_2266 wm_23 wm_2263 wm_2265 wv_11_4 ⟨by decide, by decide, by decide +kernel⟩ (by decide), List.forall_mem_cons.mpr ⟨cl_ldc (own := "DrawingHouse$Styler") (idx := 150) (i := 9) (tx := "not ") (by decide +kernel) (by decide +kernel) (by decide +kernel), List.forall_mem_nil _⟩⟩⟩⟩⟩⟩⟩⟩⟩⟩, List.forall_mem_nil _, List.forall_mem_nil _, GG_pl⟩ (by decide +kernel)
set_option maxHeartbeats 4000000 in
theorem vc_Sy_compileOne_at_k5_0_0 (x13 : Int) (x14 : Int) (k13 : 6 ≤ x13 ∧ x13 ≤ 6) (k14 : 0 ≤ x14 ∧ x14 ≤ 0) : (0 ≤ x13) ∧ ((0 ≤ x14) ∧ (((x13 * 65536) + x14) ≤ 851970)) := by
  first
    | omega
  
def o_Sy_compileOne_at_k5_0 : or_T := (160, 15, [(13, (0, 6, 6, [])), (14, (0, 0, 0, []))], [], [], [], [(20, [13, 14], [50, 0, 0, 2, 6, 0, 2, 0, 0, 1, 0, 2, 6, 0, 2, 0, 0, 1, 1, 0, 10, 4, 6, 6, 2, 1, 0, 0, 65536, 1, 1, 0, 851970])], [], [])
theorem oo_Sy_compileOne_at_k5_0 {kA : Nat → ClassId} : or_ok PRD kA GG o_Sy_compileOne_at_k5_0 := by
  refine or_mk fun A ta ws vs hD hth hl => ?_
  intro t13 k13 t14 k14
  have nf0 : fc_1 PRD (20, [13, 14], [50, 0, 0, 2, 6, 0, 2, 0, 0, 1, 0, 2, 6, 0, 2, 0, 0, 1, 1, 0, 10, 4, 6, 6, 2, 1, 0, 0, 65536, 1, 1, 0, 851970]) ws (vs) := ⟨nf_in hl rfl, sgq_493 (vc_Sy_compileOne_at_k5_0_0 (v_iv (n_v vs 13)) (v_iv (n_v vs 14)) k13 k14)⟩
  refine ⟨(fun _ h => (by cases h)), [], trivial, ?_, (fun _ h => (by cases h))⟩
  rw [List.append_nil]
  exact List.forall_mem_cons.mpr ⟨⟨show (20 : Nat) < 100 from by decide, nf0⟩, (fun _ h => (by cases h))⟩
set_option maxHeartbeats 4000000 in
theorem vc_Sy_compileOne_at_k5_1_0 (x15 : Int) (x16 : Int) (k15 : 7 ≤ x15 ∧ x15 ≤ 7) (k16 : 0 ≤ x16 ∧ x16 ≤ 0) : (0 ≤ x15) ∧ ((0 ≤ x16) ∧ (((x15 * 65536) + x16) ≤ 851970)) := by
  first
    | omega
  
def o_Sy_compileOne_at_k5_1 : or_T := (160, 17, [(15, (0, 7, 7, [])), (16, (0, 0, 0, []))], [], [], [], [(20, [15, 16], [50, 0, 0, 2, 6, 0, 2, 0, 0, 1, 0, 2, 6, 0, 2, 0, 0, 1, 1, 0, 10, 4, 6, 6, 2, 1, 0, 0, 65536, 1, 1, 0, 851970])], [], [])
theorem oo_Sy_compileOne_at_k5_1 {kA : Nat → ClassId} : or_ok PRD kA GG o_Sy_compileOne_at_k5_1 := by
  refine or_mk fun A ta ws vs hD hth hl => ?_
  intro t15 k15 t16 k16
  have nf0 : fc_1 PRD (20, [15, 16], [50, 0, 0, 2, 6, 0, 2, 0, 0, 1, 0, 2, 6, 0, 2, 0, 0, 1, 1, 0, 10, 4, 6, 6, 2, 1, 0, 0, 65536, 1, 1, 0, 851970]) ws (vs) := ⟨nf_in hl rfl, sgq_493 (vc_Sy_compileOne_at_k5_1_0 (v_iv (n_v vs 15)) (v_iv (n_v vs 16)) k15 k16)⟩
  refine ⟨(fun _ h => (by cases h)), [], trivial, ?_, (fun _ h => (by cases h))⟩
  rw [List.append_nil]
  exact List.forall_mem_cons.mpr ⟨⟨show (20 : Nat) < 100 from by decide, nf0⟩, (fun _ h => (by cases h))⟩
set_option maxHeartbeats 4000000 in
theorem vc_Sy_compileOne_at_k5_2_0 (x16 : Int) (x17 : Int) (k16 : 8 ≤ x16 ∧ x16 ≤ 8) (k17 : 0 ≤ x17 ∧ x17 ≤ 0) : (0 ≤ x16) ∧ ((0 ≤ x17) ∧ (((x16 * 65536) + x17) ≤ 851970)) := by
  first
    | omega
  
def o_Sy_compileOne_at_k5_2 : or_T := (160, 18, [(16, (0, 8, 8, [])), (17, (0, 0, 0, []))], [], [], [], [(20, [16, 17], [50, 0, 0, 2, 6, 0, 2, 0, 0, 1, 0, 2, 6, 0, 2, 0, 0, 1, 1, 0, 10, 4, 6, 6, 2, 1, 0, 0, 65536, 1, 1, 0, 851970])], [], [])
theorem oo_Sy_compileOne_at_k5_2 {kA : Nat → ClassId} : or_ok PRD kA GG o_Sy_compileOne_at_k5_2 := by
  refine or_mk fun A ta ws vs hD hth hl => ?_
  intro t16 k16 t17 k17
  have nf0 : fc_1 PRD (20, [16, 17], [50, 0, 0, 2, 6, 0, 2, 0, 0, 1, 0, 2, 6, 0, 2, 0, 0, 1, 1, 0, 10, 4, 6, 6, 2, 1, 0, 0, 65536, 1, 1, 0, 851970]) ws (vs) := ⟨nf_in hl rfl, sgq_493 (vc_Sy_compileOne_at_k5_2_0 (v_iv (n_v vs 16)) (v_iv (n_v vs 17)) k16 k17)⟩
  refine ⟨(fun _ h => (by cases h)), [], trivial, ?_, (fun _ h => (by cases h))⟩
  rw [List.append_nil]
  exact List.forall_mem_cons.mpr ⟨⟨show (20 : Nat) < 100 from by decide, nf0⟩, (fun _ h => (by cases h))⟩
set_option maxHeartbeats 4000000 in
theorem vc_Sy_compileOne_at_k5_3_0 (x10 : Int) (x11 : Int) (k10 : 11 ≤ x10 ∧ x10 ≤ 11) (k11 : 0 ≤ x11 ∧ x11 ≤ 0) : (0 ≤ x10) ∧ ((0 ≤ x11) ∧ (((x10 * 65536) + x11) ≤ 851970)) := by
  first
    | omega
  
def o_Sy_compileOne_at_k5_3 : or_T := (60, 12, [(10, (0, 11, 11, [])), (11, (0, 0, 0, []))], [], [], [], [(20, [10, 11], [50, 0, 0, 2, 6, 0, 2, 0, 0, 1, 0, 2, 6, 0, 2, 0, 0, 1, 1, 0, 10, 4, 6, 6, 2, 1, 0, 0, 65536, 1, 1, 0, 851970])], [], [])
theorem oo_Sy_compileOne_at_k5_3 {kA : Nat → ClassId} : or_ok PRD kA GG o_Sy_compileOne_at_k5_3 := by
  refine or_mk fun A ta ws vs hD hth hl => ?_
  intro t10 k10 t11 k11
  have nf0 : fc_1 PRD (20, [10, 11], [50, 0, 0, 2, 6, 0, 2, 0, 0, 1, 0, 2, 6, 0, 2, 0, 0, 1, 1, 0, 10, 4, 6, 6, 2, 1, 0, 0, 65536, 1, 1, 0, 851970]) ws (vs) := ⟨nf_in hl rfl, sgq_493 (vc_Sy_compileOne_at_k5_3_0 (v_iv (n_v vs 10)) (v_iv (n_v vs 11)) k10 k11)⟩
  refine ⟨(fun _ h => (by cases h)), [], trivial, ?_, (fun _ h => (by cases h))⟩
  rw [List.append_nil]
  exact List.forall_mem_cons.mpr ⟨⟨show (20 : Nat) < 100 from by decide, nf0⟩, (fun _ h => (by cases h))⟩
def n_Sy_compileOne_at_k5_an : List an_T := []
def t_Sy_compileOne_at_k5_ct : ct_L := [(1, 69, e_Sy_advance), (1, 118, e_Sy_fail), (1, 128, e_Sy_emit), (1, 152, e_Sy_closes), (13, 114, e_Sy_wordIn_at_s5009), (160, 145, e_Sy_compileOne_at_k6), (211, 125, e_Sy_compileTest_at_k6), (262, 137, e_Sy_compileSum_at_k5), (391, 137, e_Sy_compileSum_at_k5), (1000000, 150, en_ro [] (2, 0, 0, [5009]))]
set_option maxRecDepth 100000 in
theorem c_Sy_compileOne_at_k5 {l : Launch} {D : va_G} {kA : Nat → ClassId} (h_Sy_advance : ct_ok PRD l D kA GG y_Sy_advance z_Sy_advance e_Sy_advance) (h_Sy_closes : ct_ok PRD l D kA GG y_Sy_closes z_Sy_closes e_Sy_closes) (h_Sy_compileOne_at_k6 : ct_ok PRD l D kA GG y_Sy_compileOne_at_k6 z_Sy_compileOne_at_k6 e_Sy_compileOne_at_k6) (h_Sy_compileSum_at_k5 : ct_ok PRD l D kA GG y_Sy_compileSum_at_k5 z_Sy_compileSum_at_k5 e_Sy_compileSum_at_k5) (h_Sy_compileTest_at_k6 : ct_ok PRD l D kA GG y_Sy_compileTest_at_k6 z_Sy_compileTest_at_k6 e_Sy_compileTest_at_k6) (h_Sy_emit : ct_ok PRD l D kA GG y_Sy_emit z_Sy_emit e_Sy_emit) (h_Sy_fail : ct_ok PRD l D kA GG y_Sy_fail z_Sy_fail e_Sy_fail) (h_Sy_wordIn_at_s5009 : ct_ok PRD l D kA GG y_Sy_wordIn_at_s5009 z_Sy_wordIn_at_s5009 e_Sy_wordIn_at_s5009) : ct_ok PRD l D kA GG y_Sy_compileOne_at_k5 z_Sy_compileOne_at_k5 e_Sy_compileOne_at_k5 := chk_all_ok (FT := [(31, 11, 6)]) (PT := []) (CT := t_Sy_compileOne_at_k5_ct) (KT := []) (NT := []) (AN := n_Sy_compileOne_at_k5_an) (OT := [o_Sy_compileOne_at_k5_0, o_Sy_compileOne_at_k5_1, o_Sy_compileOne_at_k5_2, o_Sy_compileOne_at_k5_3]) 0 580 (List.forall_mem_cons.mpr ⟨oo_Sy_compileOne_at_k5_0, List.forall_mem_cons.mpr ⟨oo_Sy_compileOne_at_k5_1, List.forall_mem_cons.mpr ⟨oo_Sy_compileOne_at_k5_2, List.forall_mem_cons.mpr ⟨oo_Sy_compileOne_at_k5_3, List.forall_mem_nil _⟩⟩⟩⟩) (by decide +kernel) ⟨List.forall_mem_cons.mpr ⟨gf_Sy_31, List.forall_mem_nil _⟩, List.forall_mem_nil _, List.forall_mem_cons.mpr ⟨cl_virtual (y := y_Sy_advance) (ci := 11) rfl rfl ⟨_, _, rfl⟩ (by decide +kernel) h_Sy_advance wm_2158 wm_23 wm_2155 wm_2157 wv_10_10 ⟨by decide, by decide, by decide +kernel⟩ (by decide), List.forall_mem_cons.mpr ⟨cl_virtual (y := y_Sy_fail) (ci := 11) rfl rfl ⟨_, _, rfl⟩ (by decide +kernel) h_Sy_fail wm_2239 wm_23 wm_2236 wm_2238 wv_10_14 ⟨by decide, by decide, by decide +kernel⟩ (by decide), List.forall_mem_cons.mpr ⟨cl_virtual (y := y_Sy_emit) (ci := 11) rfl rfl ⟨_, _, rfl⟩ (by decide +kernel) h_Sy_emit wm_2258 wm_23 wm_2255 wm_2257 wv_11_2 ⟨by decide, by decide, by decide +kernel⟩ (by decide), List.forall_mem_cons.mpr ⟨cl_virtual (y := y_Sy_closes) (ci := 11) rfl rfl ⟨_, _, rfl⟩ (by decide +kernel) h_Sy_closes wm_2262 wm_23 wm_2259 wm_2261 wv_11_3 ⟨by decide, by decide, by decide +kernel⟩ (by decide), List.forall_mem_cons.mpr ⟨cl_virtual (y := y_Sy_wordIn_at_s5009) (ci := 11) rfl rfl ⟨_, _, rfl⟩ (by decide +kernel) h_Sy_wordIn_at_s5009 wm_2229 wm_23 wm_2226 wm_2228 wv_10_12 ⟨by decide, by decide, by decide +kernel⟩ (by decide), List.forall_mem_cons.mpr ⟨cl_virtual (y := y_Sy_compileOne_at_k6) (ci := 11) rfl rfl ⟨_, _, rfl⟩ (by decide +kernel) h_Sy_compileOne_at_k6 wm_2253 wm_23 wm_2250 wm_2252 wv_11_1 ⟨by decide, by decide, by decide +kernel⟩ (by decide), List.forall_mem_cons.mpr ⟨cl_virtual (y := y_Sy_compileTest_at_k6) (ci := 11) rfl rfl ⟨_, _, rfl⟩ (by decide +kernel) h_Sy_compileTest_at_k6 wm_2245 wm_23 wm_2242 wm_2244 wv_10_15 ⟨by decide, by decide, by decide +kernel⟩ (by decide), List.forall_mem_cons.mpr ⟨cl_virtual (y := y_Sy_compileSum_at_k5) (ci := 11) rfl rfl ⟨_, _, rfl⟩ (by decide +kernel) h_Sy_compileSum_at_k5 wm_2266 wm_23 wm_2263 wm_2265 wv_11_4 ⟨by decide, by decide, by decide +kernel⟩ (by decide), List.forall_mem_cons.mpr ⟨cl_virtual (y := y_Sy_compileSum_at_k5) (ci := 11) rfl rfl ⟨_, _, rfl⟩ (by decide +kernel) h_Sy_compileSum_at_k5 wm_2266 wm_23 wm_2263 wm_2265 wv_11_4 ⟨by decide, by decide, by decide +kernel⟩ (by decide), List.forall_mem_cons.mpr ⟨cl_ldc (own := "DrawingHouse$Styler") (idx := 150) (i := 9) (tx := "not ") (by decide +kernel) (by decide +kernel) (by decide +kernel), List.forall_mem_nil _⟩⟩⟩⟩⟩⟩⟩⟩⟩⟩, List.forall_mem_nil _, List.forall_mem_nil _, GG_pl⟩ (by decide +kernel)
set_option maxHeartbeats 4000000 in
theorem vc_Sy_compileOne_at_k6_0_0 (x13 : Int) (x14 : Int) (k13 : 6 ≤ x13 ∧ x13 ≤ 6) (k14 : 0 ≤ x14 ∧ x14 ≤ 0) : (0 ≤ x13) ∧ ((0 ≤ x14) ∧ (((x13 * 65536) + x14) ≤ 851970)) := by
  first
    | omega
  
def o_Sy_compileOne_at_k6_0 : or_T := (160, 15, [(13, (0, 6, 6, [])), (14, (0, 0, 0, []))], [], [], [], [(20, [13, 14], [50, 0, 0, 2, 6, 0, 2, 0, 0, 1, 0, 2, 6, 0, 2, 0, 0, 1, 1, 0, 10, 4, 6, 6, 2, 1, 0, 0, 65536, 1, 1, 0, 851970])], [], [])
theorem oo_Sy_compileOne_at_k6_0 {kA : Nat → ClassId} : or_ok PRD kA GG o_Sy_compileOne_at_k6_0 := by
  refine or_mk fun A ta ws vs hD hth hl => ?_
  intro t13 k13 t14 k14
  have nf0 : fc_1 PRD (20, [13, 14], [50, 0, 0, 2, 6, 0, 2, 0, 0, 1, 0, 2, 6, 0, 2, 0, 0, 1, 1, 0, 10, 4, 6, 6, 2, 1, 0, 0, 65536, 1, 1, 0, 851970]) ws (vs) := ⟨nf_in hl rfl, sgq_493 (vc_Sy_compileOne_at_k6_0_0 (v_iv (n_v vs 13)) (v_iv (n_v vs 14)) k13 k14)⟩
  refine ⟨(fun _ h => (by cases h)), [], trivial, ?_, (fun _ h => (by cases h))⟩
  rw [List.append_nil]
  exact List.forall_mem_cons.mpr ⟨⟨show (20 : Nat) < 100 from by decide, nf0⟩, (fun _ h => (by cases h))⟩
set_option maxHeartbeats 4000000 in
theorem vc_Sy_compileOne_at_k6_1_0 (x15 : Int) (x16 : Int) (k15 : 7 ≤ x15 ∧ x15 ≤ 7) (k16 : 0 ≤ x16 ∧ x16 ≤ 0) : (0 ≤ x15) ∧ ((0 ≤ x16) ∧ (((x15 * 65536) + x16) ≤ 851970)) := by
  first
    | omega
  
def o_Sy_compileOne_at_k6_1 : or_T := (160, 17, [(15, (0, 7, 7, [])), (16, (0, 0, 0, []))], [], [], [], [(20, [15, 16], [50, 0, 0, 2, 6, 0, 2, 0, 0, 1, 0, 2, 6, 0, 2, 0, 0, 1, 1, 0, 10, 4, 6, 6, 2, 1, 0, 0, 65536, 1, 1, 0, 851970])], [], [])
theorem oo_Sy_compileOne_at_k6_1 {kA : Nat → ClassId} : or_ok PRD kA GG o_Sy_compileOne_at_k6_1 := by
  refine or_mk fun A ta ws vs hD hth hl => ?_
  intro t15 k15 t16 k16
  have nf0 : fc_1 PRD (20, [15, 16], [50, 0, 0, 2, 6, 0, 2, 0, 0, 1, 0, 2, 6, 0, 2, 0, 0, 1, 1, 0, 10, 4, 6, 6, 2, 1, 0, 0, 65536, 1, 1, 0, 851970]) ws (vs) := ⟨nf_in hl rfl, sgq_493 (vc_Sy_compileOne_at_k6_1_0 (v_iv (n_v vs 15)) (v_iv (n_v vs 16)) k15 k16)⟩
  refine ⟨(fun _ h => (by cases h)), [], trivial, ?_, (fun _ h => (by cases h))⟩
  rw [List.append_nil]
  exact List.forall_mem_cons.mpr ⟨⟨show (20 : Nat) < 100 from by decide, nf0⟩, (fun _ h => (by cases h))⟩
set_option maxHeartbeats 4000000 in
theorem vc_Sy_compileOne_at_k6_2_0 (x16 : Int) (x17 : Int) (k16 : 8 ≤ x16 ∧ x16 ≤ 8) (k17 : 0 ≤ x17 ∧ x17 ≤ 0) : (0 ≤ x16) ∧ ((0 ≤ x17) ∧ (((x16 * 65536) + x17) ≤ 851970)) := by
  first
    | omega
  
def o_Sy_compileOne_at_k6_2 : or_T := (160, 18, [(16, (0, 8, 8, [])), (17, (0, 0, 0, []))], [], [], [], [(20, [16, 17], [50, 0, 0, 2, 6, 0, 2, 0, 0, 1, 0, 2, 6, 0, 2, 0, 0, 1, 1, 0, 10, 4, 6, 6, 2, 1, 0, 0, 65536, 1, 1, 0, 851970])], [], [])
theorem oo_Sy_compileOne_at_k6_2 {kA : Nat → ClassId} : or_ok PRD kA GG o_Sy_compileOne_at_k6_2 := by
  refine or_mk fun A ta ws vs hD hth hl => ?_
  intro t16 k16 t17 k17
  have nf0 : fc_1 PRD (20, [16, 17], [50, 0, 0, 2, 6, 0, 2, 0, 0, 1, 0, 2, 6, 0, 2, 0, 0, 1, 1, 0, 10, 4, 6, 6, 2, 1, 0, 0, 65536, 1, 1, 0, 851970]) ws (vs) := ⟨nf_in hl rfl, sgq_493 (vc_Sy_compileOne_at_k6_2_0 (v_iv (n_v vs 16)) (v_iv (n_v vs 17)) k16 k17)⟩
  refine ⟨(fun _ h => (by cases h)), [], trivial, ?_, (fun _ h => (by cases h))⟩
  rw [List.append_nil]
  exact List.forall_mem_cons.mpr ⟨⟨show (20 : Nat) < 100 from by decide, nf0⟩, (fun _ h => (by cases h))⟩
set_option maxHeartbeats 4000000 in
theorem vc_Sy_compileOne_at_k6_3_0 (x10 : Int) (x11 : Int) (k10 : 11 ≤ x10 ∧ x10 ≤ 11) (k11 : 0 ≤ x11 ∧ x11 ≤ 0) : (0 ≤ x10) ∧ ((0 ≤ x11) ∧ (((x10 * 65536) + x11) ≤ 851970)) := by
  first
    | omega
  
def o_Sy_compileOne_at_k6_3 : or_T := (60, 12, [(10, (0, 11, 11, [])), (11, (0, 0, 0, []))], [], [], [], [(20, [10, 11], [50, 0, 0, 2, 6, 0, 2, 0, 0, 1, 0, 2, 6, 0, 2, 0, 0, 1, 1, 0, 10, 4, 6, 6, 2, 1, 0, 0, 65536, 1, 1, 0, 851970])], [], [])
theorem oo_Sy_compileOne_at_k6_3 {kA : Nat → ClassId} : or_ok PRD kA GG o_Sy_compileOne_at_k6_3 := by
  refine or_mk fun A ta ws vs hD hth hl => ?_
  intro t10 k10 t11 k11
  have nf0 : fc_1 PRD (20, [10, 11], [50, 0, 0, 2, 6, 0, 2, 0, 0, 1, 0, 2, 6, 0, 2, 0, 0, 1, 1, 0, 10, 4, 6, 6, 2, 1, 0, 0, 65536, 1, 1, 0, 851970]) ws (vs) := ⟨nf_in hl rfl, sgq_493 (vc_Sy_compileOne_at_k6_3_0 (v_iv (n_v vs 10)) (v_iv (n_v vs 11)) k10 k11)⟩
  refine ⟨(fun _ h => (by cases h)), [], trivial, ?_, (fun _ h => (by cases h))⟩
  rw [List.append_nil]
  exact List.forall_mem_cons.mpr ⟨⟨show (20 : Nat) < 100 from by decide, nf0⟩, (fun _ h => (by cases h))⟩
def n_Sy_compileOne_at_k6_an : List an_T := []
def t_Sy_compileOne_at_k6_ct : ct_L := [(1, 69, e_Sy_advance), (1, 118, e_Sy_fail), (1, 128, e_Sy_emit), (1, 152, e_Sy_closes), (13, 114, e_Sy_wordIn_at_s5009), (160, 145, e_Sy_compileOne_at_k7), (211, 125, e_Sy_compileTest_at_k7), (262, 137, e_Sy_compileSum_at_k6), (391, 137, e_Sy_compileSum_at_k6), (1000000, 150, en_ro [] (2, 0, 0, [5009]))]
set_option maxRecDepth 100000 in
theorem c_Sy_compileOne_at_k6 {l : Launch} {D : va_G} {kA : Nat → ClassId} (h_Sy_advance : ct_ok PRD l D kA GG y_Sy_advance z_Sy_advance e_Sy_advance) (h_Sy_closes : ct_ok PRD l D kA GG y_Sy_closes z_Sy_closes e_Sy_closes) (h_Sy_compileOne_at_k7 : ct_ok PRD l D kA GG y_Sy_compileOne_at_k7 z_Sy_compileOne_at_k7 e_Sy_compileOne_at_k7) (h_Sy_compileSum_at_k6 : ct_ok PRD l D kA GG y_Sy_compileSum_at_k6 z_Sy_compileSum_at_k6 e_Sy_compileSum_at_k6) (h_Sy_compileTest_at_k7 : ct_ok PRD l D kA GG y_Sy_compileTest_at_k7 z_Sy_compileTest_at_k7 e_Sy_compileTest_at_k7) (h_Sy_emit : ct_ok PRD l D kA GG y_Sy_emit z_Sy_emit e_Sy_emit) (h_Sy_fail : ct_ok PRD l D kA GG y_Sy_fail z_Sy_fail e_Sy_fail) (h_Sy_wordIn_at_s5009 : ct_ok PRD l D kA GG y_Sy_wordIn_at_s5009 z_Sy_wordIn_at_s5009 e_Sy_wordIn_at_s5009) : ct_ok PRD l D kA GG y_Sy_compileOne_at_k6 z_Sy_compileOne_at_k6 e_Sy_compileOne_at_k6 := chk_all_ok (FT := [(31, 11, 6)]) (PT := []) (CT := t_Sy_compileOne_at_k6_ct) (KT := []) (NT := []) (AN := n_Sy_compileOne_at_k6_an) (OT := [o_Sy_compileOne_at_k6_0, o_Sy_compileOne_at_k6_1, o_Sy_compileOne_at_k6_2, o_Sy_compileOne_at_k6_3]) 0 580 (List.forall_mem_cons.mpr ⟨oo_Sy_compileOne_at_k6_0, List.forall_mem_cons.mpr ⟨oo_Sy_compileOne_at_k6_1, List.forall_mem_cons.mpr ⟨oo_Sy_compileOne_at_k6_2, List.forall_mem_cons.mpr ⟨oo_Sy_compileOne_at_k6_3, List.forall_mem_nil _⟩⟩⟩⟩) (by decide +kernel) ⟨List.forall_mem_cons.mpr ⟨gf_Sy_31, List.forall_mem_nil _⟩, List.forall_mem_nil _, List.forall_mem_cons.mpr ⟨cl_virtual (y := y_Sy_advance) (ci := 11) rfl rfl ⟨_, _, rfl⟩ (by decide +kernel) h_Sy_advance wm_2158 wm_23 wm_2155 wm_2157 wv_10_10 ⟨by decide, by decide, by decide +kernel⟩ (by decide), List.forall_mem_cons.mpr ⟨cl_virtual (y := y_Sy_fail) (ci := 11) rfl rfl ⟨_, _, rfl⟩ (by decide +kernel) h_Sy_fail wm_2239 wm_23 wm_2236 wm_2238 wv_10_14 ⟨by decide, by decide, by decide +kernel⟩ (by decide), List.forall_mem_cons.mpr ⟨cl_virtual (y := y_Sy_emit) (ci := 11) rfl rfl ⟨_, _, rfl⟩ (by decide +kernel) h_Sy_emit wm_2258 wm_23 wm_2255 wm_2257 wv_11_2 ⟨by decide, by decide, by decide +kernel⟩ (by decide), List.forall_mem_cons.mpr ⟨cl_virtual (y := y_Sy_closes) (ci := 11) rfl rfl ⟨_, _, rfl⟩ (by decide +kernel) h_Sy_closes wm_2262 wm_23 wm_2259 wm_2261 wv_11_3 ⟨by decide, by decide, by decide +kernel⟩ (by decide), List.forall_mem_cons.mpr ⟨cl_virtual (y := y_Sy_wordIn_at_s5009) (ci := 11) rfl rfl ⟨_, _, rfl⟩ (by decide +kernel) h_Sy_wordIn_at_s5009 wm_2229 wm_23 wm_2226 wm_2228 wv_10_12 ⟨by decide, by decide, by decide +kernel⟩ (by decide), List.forall_mem_cons.mpr ⟨cl_virtual (y := y_Sy_compileOne_at_k7) (ci := 11) rfl rfl ⟨_, _, rfl⟩ (by decide +kernel) h_Sy_compileOne_at_k7 wm_2253 wm_23 wm_2250 wm_2252 wv_11_1 ⟨by decide, by decide, by decide +kernel⟩ (by decide), List.forall_mem_cons.mpr ⟨cl_virtual (y := y_Sy_compileTest_at_k7) (ci := 11) rfl rfl ⟨_, _, rfl⟩ (by decide +kernel) h_Sy_compileTest_at_k7 wm_2245 wm_23 wm_2242 wm_2244 wv_10_15 ⟨by decide, by decide, by decide +kernel⟩ (by decide), List.forall_mem_cons.mpr ⟨cl_virtual (y := y_Sy_compileSum_at_k6) (ci := 11) rfl rfl ⟨_, _, rfl⟩ (by decide +kernel) h_Sy_compileSum_at_k6 wm_2266 wm_23 wm_2263 wm_2265 wv_11_4 ⟨by decide, by decide, by decide +kernel⟩ (by decide), List.forall_mem_cons.mpr ⟨cl_virtual (y := y_Sy_compileSum_at_k6) (ci := 11) rfl rfl ⟨_, _, rfl⟩ (by decide +kernel) h_Sy_compileSum_at_k6 wm_2266 wm_23 wm_2263 wm_2265 wv_11_4 ⟨by decide, by decide, by decide +kernel⟩ (by decide), List.forall_mem_cons.mpr ⟨cl_ldc (own := "DrawingHouse$Styler") (idx := 150) (i := 9) (tx := "not ") (by decide +kernel) (by decide +kernel) (by decide +kernel), List.forall_mem_nil _⟩⟩⟩⟩⟩⟩⟩⟩⟩⟩, List.forall_mem_nil _, List.forall_mem_nil _, GG_pl⟩ (by decide +kernel)
set_option maxHeartbeats 4000000 in
theorem vc_Sy_compileOne_at_k7_0_0 (x13 : Int) (x14 : Int) (k13 : 6 ≤ x13 ∧ x13 ≤ 6) (k14 : 0 ≤ x14 ∧ x14 ≤ 0) : (0 ≤ x13) ∧ ((0 ≤ x14) ∧ (((x13 * 65536) + x14) ≤ 851970)) := by
  first
    | omega
  
def o_Sy_compileOne_at_k7_0 : or_T := (160, 15, [(13, (0, 6, 6, [])), (14, (0, 0, 0, []))], [], [], [], [(20, [13, 14], [50, 0, 0, 2, 6, 0, 2, 0, 0, 1, 0, 2, 6, 0, 2, 0, 0, 1, 1, 0, 10, 4, 6, 6, 2, 1, 0, 0, 65536, 1, 1, 0, 851970])], [], [])
theorem oo_Sy_compileOne_at_k7_0 {kA : Nat → ClassId} : or_ok PRD kA GG o_Sy_compileOne_at_k7_0 := by
  refine or_mk fun A ta ws vs hD hth hl => ?_
  intro t13 k13 t14 k14
  have nf0 : fc_1 PRD (20, [13, 14], [50, 0, 0, 2, 6, 0, 2, 0, 0, 1, 0, 2, 6, 0, 2, 0, 0, 1, 1, 0, 10, 4, 6, 6, 2, 1, 0, 0, 65536, 1, 1, 0, 851970]) ws (vs) := ⟨nf_in hl rfl, sgq_493 (vc_Sy_compileOne_at_k7_0_0 (v_iv (n_v vs 13)) (v_iv (n_v vs 14)) k13 k14)⟩
  refine ⟨(fun _ h => (by cases h)), [], trivial, ?_, (fun _ h => (by cases h))⟩
  rw [List.append_nil]
  exact List.forall_mem_cons.mpr ⟨⟨show (20 : Nat) < 100 from by decide, nf0⟩, (fun _ h => (by cases h))⟩
set_option maxHeartbeats 4000000 in
theorem vc_Sy_compileOne_at_k7_1_0 (x15 : Int) (x16 : Int) (k15 : 7 ≤ x15 ∧ x15 ≤ 7) (k16 : 0 ≤ x16 ∧ x16 ≤ 0) : (0 ≤ x15) ∧ ((0 ≤ x16) ∧ (((x15 * 65536) + x16) ≤ 851970)) := by
  first
    | omega
  
def o_Sy_compileOne_at_k7_1 : or_T := (160, 17, [(15, (0, 7, 7, [])), (16, (0, 0, 0, []))], [], [], [], [(20, [15, 16], [50, 0, 0, 2, 6, 0, 2, 0, 0, 1, 0, 2, 6, 0, 2, 0, 0, 1, 1, 0, 10, 4, 6, 6, 2, 1, 0, 0, 65536, 1, 1, 0, 851970])], [], [])
theorem oo_Sy_compileOne_at_k7_1 {kA : Nat → ClassId} : or_ok PRD kA GG o_Sy_compileOne_at_k7_1 := by
  refine or_mk fun A ta ws vs hD hth hl => ?_
  intro t15 k15 t16 k16
  have nf0 : fc_1 PRD (20, [15, 16], [50, 0, 0, 2, 6, 0, 2, 0, 0, 1, 0, 2, 6, 0, 2, 0, 0, 1, 1, 0, 10, 4, 6, 6, 2, 1, 0, 0, 65536, 1, 1, 0, 851970]) ws (vs) := ⟨nf_in hl rfl, sgq_493 (vc_Sy_compileOne_at_k7_1_0 (v_iv (n_v vs 15)) (v_iv (n_v vs 16)) k15 k16)⟩
  refine ⟨(fun _ h => (by cases h)), [], trivial, ?_, (fun _ h => (by cases h))⟩
  rw [List.append_nil]
  exact List.forall_mem_cons.mpr ⟨⟨show (20 : Nat) < 100 from by decide, nf0⟩, (fun _ h => (by cases h))⟩
set_option maxHeartbeats 4000000 in
theorem vc_Sy_compileOne_at_k7_2_0 (x16 : Int) (x17 : Int) (k16 : 8 ≤ x16 ∧ x16 ≤ 8) (k17 : 0 ≤ x17 ∧ x17 ≤ 0) : (0 ≤ x16) ∧ ((0 ≤ x17) ∧ (((x16 * 65536) + x17) ≤ 851970)) := by
  first
    | omega
  
def o_Sy_compileOne_at_k7_2 : or_T := (160, 18, [(16, (0, 8, 8, [])), (17, (0, 0, 0, []))], [], [], [], [(20, [16, 17], [50, 0, 0, 2, 6, 0, 2, 0, 0, 1, 0, 2, 6, 0, 2, 0, 0, 1, 1, 0, 10, 4, 6, 6, 2, 1, 0, 0, 65536, 1, 1, 0, 851970])], [], [])
theorem oo_Sy_compileOne_at_k7_2 {kA : Nat → ClassId} : or_ok PRD kA GG o_Sy_compileOne_at_k7_2 := by
  refine or_mk fun A ta ws vs hD hth hl => ?_
  intro t16 k16 t17 k17
  have nf0 : fc_1 PRD (20, [16, 17], [50, 0, 0, 2, 6, 0, 2, 0, 0, 1, 0, 2, 6, 0, 2, 0, 0, 1, 1, 0, 10, 4, 6, 6, 2, 1, 0, 0, 65536, 1, 1, 0, 851970]) ws (vs) := ⟨nf_in hl rfl, sgq_493 (vc_Sy_compileOne_at_k7_2_0 (v_iv (n_v vs 16)) (v_iv (n_v vs 17)) k16 k17)⟩
  refine ⟨(fun _ h => (by cases h)), [], trivial, ?_, (fun _ h => (by cases h))⟩
  rw [List.append_nil]
  exact List.forall_mem_cons.mpr ⟨⟨show (20 : Nat) < 100 from by decide, nf0⟩, (fun _ h => (by cases h))⟩
set_option maxHeartbeats 4000000 in
theorem vc_Sy_compileOne_at_k7_3_0 (x10 : Int) (x11 : Int) (k10 : 11 ≤ x10 ∧ x10 ≤ 11) (k11 : 0 ≤ x11 ∧ x11 ≤ 0) : (0 ≤ x10) ∧ ((0 ≤ x11) ∧ (((x10 * 65536) + x11) ≤ 851970)) := by
  first
    | omega
  
def o_Sy_compileOne_at_k7_3 : or_T := (60, 12, [(10, (0, 11, 11, [])), (11, (0, 0, 0, []))], [], [], [], [(20, [10, 11], [50, 0, 0, 2, 6, 0, 2, 0, 0, 1, 0, 2, 6, 0, 2, 0, 0, 1, 1, 0, 10, 4, 6, 6, 2, 1, 0, 0, 65536, 1, 1, 0, 851970])], [], [])
theorem oo_Sy_compileOne_at_k7_3 {kA : Nat → ClassId} : or_ok PRD kA GG o_Sy_compileOne_at_k7_3 := by
  refine or_mk fun A ta ws vs hD hth hl => ?_
  intro t10 k10 t11 k11
  have nf0 : fc_1 PRD (20, [10, 11], [50, 0, 0, 2, 6, 0, 2, 0, 0, 1, 0, 2, 6, 0, 2, 0, 0, 1, 1, 0, 10, 4, 6, 6, 2, 1, 0, 0, 65536, 1, 1, 0, 851970]) ws (vs) := ⟨nf_in hl rfl, sgq_493 (vc_Sy_compileOne_at_k7_3_0 (v_iv (n_v vs 10)) (v_iv (n_v vs 11)) k10 k11)⟩
  refine ⟨(fun _ h => (by cases h)), [], trivial, ?_, (fun _ h => (by cases h))⟩
  rw [List.append_nil]
  exact List.forall_mem_cons.mpr ⟨⟨show (20 : Nat) < 100 from by decide, nf0⟩, (fun _ h => (by cases h))⟩
def n_Sy_compileOne_at_k7_an : List an_T := []
def t_Sy_compileOne_at_k7_ct : ct_L := [(1, 69, e_Sy_advance), (1, 118, e_Sy_fail), (1, 128, e_Sy_emit), (1, 152, e_Sy_closes), (13, 114, e_Sy_wordIn_at_s5009), (160, 145, e_Sy_compileOne_at_k8), (211, 125, e_Sy_compileTest_at_k8), (262, 137, e_Sy_compileSum_at_k7), (391, 137, e_Sy_compileSum_at_k7), (1000000, 150, en_ro [] (2, 0, 0, [5009]))]
set_option maxRecDepth 100000 in
theorem c_Sy_compileOne_at_k7 {l : Launch} {D : va_G} {kA : Nat → ClassId} (h_Sy_advance : ct_ok PRD l D kA GG y_Sy_advance z_Sy_advance e_Sy_advance) (h_Sy_closes : ct_ok PRD l D kA GG y_Sy_closes z_Sy_closes e_Sy_closes) (h_Sy_compileOne_at_k8 : ct_ok PRD l D kA GG y_Sy_compileOne_at_k8 z_Sy_compileOne_at_k8 e_Sy_compileOne_at_k8) (h_Sy_compileSum_at_k7 : ct_ok PRD l D kA GG y_Sy_compileSum_at_k7 z_Sy_compileSum_at_k7 e_Sy_compileSum_at_k7) (h_Sy_compileTest_at_k8 : ct_ok PRD l D kA GG y_Sy_compileTest_at_k8 z_Sy_compileTest_at_k8 e_Sy_compileTest_at_k8) (h_Sy_emit : ct_ok PRD l D kA GG y_Sy_emit z_Sy_emit e_Sy_emit) (h_Sy_fail : ct_ok PRD l D kA GG y_Sy_fail z_Sy_fail e_Sy_fail) (h_Sy_wordIn_at_s5009 : ct_ok PRD l D kA GG y_Sy_wordIn_at_s5009 z_Sy_wordIn_at_s5009 e_Sy_wordIn_at_s5009) : ct_ok PRD l D kA GG y_Sy_compileOne_at_k7 z_Sy_compileOne_at_k7 e_Sy_compileOne_at_k7 := chk_all_ok (FT := [(31, 11, 6)]) (PT := []) (CT := t_Sy_compileOne_at_k7_ct) (KT := []) (NT := []) (AN := n_Sy_compileOne_at_k7_an) (OT := [o_Sy_compileOne_at_k7_0, o_Sy_compileOne_at_k7_1, o_Sy_compileOne_at_k7_2, o_Sy_compileOne_at_k7_3]) 0 580 (List.forall_mem_cons.mpr ⟨oo_Sy_compileOne_at_k7_0, List.forall_mem_cons.mpr ⟨oo_Sy_compileOne_at_k7_1, List.forall_mem_cons.mpr ⟨oo_Sy_compileOne_at_k7_2, List.forall_mem_cons.mpr ⟨oo_Sy_compileOne_at_k7_3, List.forall_mem_nil _⟩⟩⟩⟩) (by decide +kernel) ⟨List.forall_mem_cons.mpr ⟨gf_Sy_31, List.forall_mem_nil _⟩, List.forall_mem_nil _, List.forall_mem_cons.mpr ⟨cl_virtual (y := y_Sy_advance) (ci := 11) rfl rfl ⟨_, _, rfl⟩ (by decide +kernel) h_Sy_advance wm_2158 wm_23 wm_2155 wm_2157 wv_10_10 ⟨by decide, by decide, by decide +kernel⟩ (by decide), List.forall_mem_cons.mpr ⟨cl_virtual (y := y_Sy_fail) (ci := 11) rfl rfl ⟨_, _, rfl⟩ (by decide +kernel) h_Sy_fail wm_2239 wm_23 wm_2236 wm_2238 wv_10_14 ⟨by decide, by decide, by decide +kernel⟩ (by decide), List.forall_mem_cons.mpr ⟨cl_virtual (y := y_Sy_emit) (ci := 11) rfl rfl ⟨_, _, rfl⟩ (by decide +kernel) h_Sy_emit wm_2258 wm_23 wm_2255 wm_2257 wv_11_2 ⟨by decide, by decide, by decide +kernel⟩ (by decide), List.forall_mem_cons.mpr ⟨cl_virtual (y := y_Sy_closes) (ci := 11) rfl rfl ⟨_, _, rfl⟩ (by decide +kernel) h_Sy_closes wm_2262 wm_23 wm_2259 wm_2261 wv_11_3 ⟨by decide, by decide, by decide +kernel⟩ (by decide), List.forall_mem_cons.mpr ⟨cl_virtual (y := y_Sy_wordIn_at_s5009) (ci := 11) rfl rfl ⟨_, _, rfl⟩ (by decide +kernel) h_Sy_wordIn_at_s5009 wm_2229 wm_23 wm_2226 wm_2228 wv_10_12 ⟨by decide, by decide, by decide +kernel⟩ (by decide), List.forall_mem_cons.mpr ⟨cl_virtual (y := y_Sy_compileOne_at_k8) (ci := 11) rfl rfl ⟨_, _, rfl⟩ (by decide +kernel) h_Sy_compileOne_at_k8 wm_2253 wm_23 wm_2250 wm_2252 wv_11_1 ⟨by decide, by decide, by decide +kernel⟩ (by decide), List.forall_mem_cons.mpr ⟨cl_virtual (y := y_Sy_compileTest_at_k8) (ci := 11) rfl rfl ⟨_, _, rfl⟩ (by decide +kernel) h_Sy_compileTest_at_k8 wm_2245 wm_23 wm_2242 wm_2244 wv_10_15 ⟨by decide, by decide, by decide +kernel⟩ (by decide), List.forall_mem_cons.mpr ⟨cl_virtual (y := y_Sy_compileSum_at_k7) (ci := 11) rfl rfl ⟨_, _, rfl⟩ (by decide +kernel) h_Sy_compileSum_at_k7 wm_2266 wm_23 wm_2263 wm_2265 wv_11_4 ⟨by decide, by decide, by decide +kernel⟩ (by decide), List.forall_mem_cons.mpr ⟨cl_virtual (y := y_Sy_compileSum_at_k7) (ci := 11) rfl rfl ⟨_, _, rfl⟩ (by decide +kernel) h_Sy_compileSum_at_k7 wm_2266 wm_23 wm_2263 wm_2265 wv_11_4 ⟨by decide, by decide, by decide +kernel⟩ (by decide), List.forall_mem_cons.mpr ⟨cl_ldc (own := "DrawingHouse$Styler") (idx := 150) (i := 9) (tx := "not ") (by decide +kernel) (by decide +kernel) (by decide +kernel), List.forall_mem_nil _⟩⟩⟩⟩⟩⟩⟩⟩⟩⟩, List.forall_mem_nil _, List.forall_mem_nil _, GG_pl⟩ (by decide +kernel)

set_option maxHeartbeats 4000000 in
theorem vc_Sy_compileOne_at_k8_0_0 (x13 : Int) (x14 : Int) (k13 : 6 ≤ x13 ∧ x13 ≤ 6) (k14 : 0 ≤ x14 ∧ x14 ≤ 0) : (0 ≤ x13) ∧ ((0 ≤ x14) ∧ (((x13 * 65536) + x14) ≤ 851970)) := by
  first
    | omega
  
def o_Sy_compileOne_at_k8_0 : or_T := (160, 15, [(13, (0, 6, 6, [])), (14, (0, 0, 0, []))], [], [], [], [(20, [13, 14], [50, 0, 0, 2, 6, 0, 2, 0, 0, 1, 0, 2, 6, 0, 2, 0, 0, 1, 1, 0, 10, 4, 6, 6, 2, 1, 0, 0, 65536, 1, 1, 0, 851970])], [], [])
theorem oo_Sy_compileOne_at_k8_0 {kA : Nat → ClassId} : or_ok PRD kA GG o_Sy_compileOne_at_k8_0 := by
  refine or_mk fun A ta ws vs hD hth hl => ?_
  intro t13 k13 t14 k14
  have nf0 : fc_1 PRD (20, [13, 14], [50, 0, 0, 2, 6, 0, 2, 0, 0, 1, 0, 2, 6, 0, 2, 0, 0, 1, 1, 0, 10, 4, 6, 6, 2, 1, 0, 0, 65536, 1, 1, 0, 851970]) ws (vs) := ⟨nf_in hl rfl, sgq_493 (vc_Sy_compileOne_at_k8_0_0 (v_iv (n_v vs 13)) (v_iv (n_v vs 14)) k13 k14)⟩
  refine ⟨(fun _ h => (by cases h)), [], trivial, ?_, (fun _ h => (by cases h))⟩
  rw [List.append_nil]
  exact List.forall_mem_cons.mpr ⟨⟨show (20 : Nat) < 100 from by decide, nf0⟩, (fun _ h => (by cases h))⟩
set_option maxHeartbeats 4000000 in
theorem vc_Sy_compileOne_at_k8_1_0 (x15 : Int) (x16 : Int) (k15 : 7 ≤ x15 ∧ x15 ≤ 7) (k16 : 0 ≤ x16 ∧ x16 ≤ 0) : (0 ≤ x15) ∧ ((0 ≤ x16) ∧ (((x15 * 65536) + x16) ≤ 851970)) := by
  first
    | omega
  
def o_Sy_compileOne_at_k8_1 : or_T := (160, 17, [(15, (0, 7, 7, [])), (16, (0, 0, 0, []))], [], [], [], [(20, [15, 16], [50, 0, 0, 2, 6, 0, 2, 0, 0, 1, 0, 2, 6, 0, 2, 0, 0, 1, 1, 0, 10, 4, 6, 6, 2, 1, 0, 0, 65536, 1, 1, 0, 851970])], [], [])
theorem oo_Sy_compileOne_at_k8_1 {kA : Nat → ClassId} : or_ok PRD kA GG o_Sy_compileOne_at_k8_1 := by
  refine or_mk fun A ta ws vs hD hth hl => ?_
  intro t15 k15 t16 k16
  have nf0 : fc_1 PRD (20, [15, 16], [50, 0, 0, 2, 6, 0, 2, 0, 0, 1, 0, 2, 6, 0, 2, 0, 0, 1, 1, 0, 10, 4, 6, 6, 2, 1, 0, 0, 65536, 1, 1, 0, 851970]) ws (vs) := ⟨nf_in hl rfl, sgq_493 (vc_Sy_compileOne_at_k8_1_0 (v_iv (n_v vs 15)) (v_iv (n_v vs 16)) k15 k16)⟩
  refine ⟨(fun _ h => (by cases h)), [], trivial, ?_, (fun _ h => (by cases h))⟩
  rw [List.append_nil]
  exact List.forall_mem_cons.mpr ⟨⟨show (20 : Nat) < 100 from by decide, nf0⟩, (fun _ h => (by cases h))⟩
set_option maxHeartbeats 4000000 in
theorem vc_Sy_compileOne_at_k8_2_0 (x16 : Int) (x17 : Int) (k16 : 8 ≤ x16 ∧ x16 ≤ 8) (k17 : 0 ≤ x17 ∧ x17 ≤ 0) : (0 ≤ x16) ∧ ((0 ≤ x17) ∧ (((x16 * 65536) + x17) ≤ 851970)) := by
  first
    | omega
  
def o_Sy_compileOne_at_k8_2 : or_T := (160, 18, [(16, (0, 8, 8, [])), (17, (0, 0, 0, []))], [], [], [], [(20, [16, 17], [50, 0, 0, 2, 6, 0, 2, 0, 0, 1, 0, 2, 6, 0, 2, 0, 0, 1, 1, 0, 10, 4, 6, 6, 2, 1, 0, 0, 65536, 1, 1, 0, 851970])], [], [])
theorem oo_Sy_compileOne_at_k8_2 {kA : Nat → ClassId} : or_ok PRD kA GG o_Sy_compileOne_at_k8_2 := by
  refine or_mk fun A ta ws vs hD hth hl => ?_
  intro t16 k16 t17 k17
  have nf0 : fc_1 PRD (20, [16, 17], [50, 0, 0, 2, 6, 0, 2, 0, 0, 1, 0, 2, 6, 0, 2, 0, 0, 1, 1, 0, 10, 4, 6, 6, 2, 1, 0, 0, 65536, 1, 1, 0, 851970]) ws (vs) := ⟨nf_in hl rfl, sgq_493 (vc_Sy_compileOne_at_k8_2_0 (v_iv (n_v vs 16)) (v_iv (n_v vs 17)) k16 k17)⟩
  refine ⟨(fun _ h => (by cases h)), [], trivial, ?_, (fun _ h => (by cases h))⟩
  rw [List.append_nil]
  exact List.forall_mem_cons.mpr ⟨⟨show (20 : Nat) < 100 from by decide, nf0⟩, (fun _ h => (by cases h))⟩
set_option maxHeartbeats 4000000 in
theorem vc_Sy_compileOne_at_k8_3_0 (x10 : Int) (x11 : Int) (k10 : 11 ≤ x10 ∧ x10 ≤ 11) (k11 : 0 ≤ x11 ∧ x11 ≤ 0) : (0 ≤ x10) ∧ ((0 ≤ x11) ∧ (((x10 * 65536) + x11) ≤ 851970)) := by
  first
    | omega
  
def o_Sy_compileOne_at_k8_3 : or_T := (60, 12, [(10, (0, 11, 11, [])), (11, (0, 0, 0, []))], [], [], [], [(20, [10, 11], [50, 0, 0, 2, 6, 0, 2, 0, 0, 1, 0, 2, 6, 0, 2, 0, 0, 1, 1, 0, 10, 4, 6, 6, 2, 1, 0, 0, 65536, 1, 1, 0, 851970])], [], [])
theorem oo_Sy_compileOne_at_k8_3 {kA : Nat → ClassId} : or_ok PRD kA GG o_Sy_compileOne_at_k8_3 := by
  refine or_mk fun A ta ws vs hD hth hl => ?_
  intro t10 k10 t11 k11
  have nf0 : fc_1 PRD (20, [10, 11], [50, 0, 0, 2, 6, 0, 2, 0, 0, 1, 0, 2, 6, 0, 2, 0, 0, 1, 1, 0, 10, 4, 6, 6, 2, 1, 0, 0, 65536, 1, 1, 0, 851970]) ws (vs) := ⟨nf_in hl rfl, sgq_493 (vc_Sy_compileOne_at_k8_3_0 (v_iv (n_v vs 10)) (v_iv (n_v vs 11)) k10 k11)⟩
  refine ⟨(fun _ h => (by cases h)), [], trivial, ?_, (fun _ h => (by cases h))⟩
  rw [List.append_nil]
  exact List.forall_mem_cons.mpr ⟨⟨show (20 : Nat) < 100 from by decide, nf0⟩, (fun _ h => (by cases h))⟩
def n_Sy_compileOne_at_k8_an : List an_T := []
def t_Sy_compileOne_at_k8_ct : ct_L := [(1, 69, e_Sy_advance), (1, 118, e_Sy_fail), (1, 128, e_Sy_emit), (1, 152, e_Sy_closes), (13, 114, e_Sy_wordIn_at_s5009), (160, 145, e_Sy_compileOne_at_k9), (211, 125, e_Sy_compileTest_at_k9), (262, 137, e_Sy_compileSum_at_k8), (391, 137, e_Sy_compileSum_at_k8), (1000000, 150, en_ro [] (2, 0, 0, [5009]))]
set_option maxRecDepth 100000 in
theorem c_Sy_compileOne_at_k8 {l : Launch} {D : va_G} {kA : Nat → ClassId} (h_Sy_advance : ct_ok PRD l D kA GG y_Sy_advance z_Sy_advance e_Sy_advance) (h_Sy_closes : ct_ok PRD l D kA GG y_Sy_closes z_Sy_closes e_Sy_closes) (h_Sy_compileOne_at_k9 : ct_ok PRD l D kA GG y_Sy_compileOne_at_k9 z_Sy_compileOne_at_k9 e_Sy_compileOne_at_k9) (h_Sy_compileSum_at_k8 : ct_ok PRD l D kA GG y_Sy_compileSum_at_k8 z_Sy_compileSum_at_k8 e_Sy_compileSum_at_k8) (h_Sy_compileTest_at_k9 : ct_ok PRD l D kA GG y_Sy_compileTest_at_k9 z_Sy_compileTest_at_k9 e_Sy_compileTest_at_k9) (h_Sy_emit : ct_ok PRD l D kA GG y_Sy_emit z_Sy_emit e_Sy_emit) (h_Sy_fail : ct_ok PRD l D kA GG y_Sy_fail z_Sy_fail e_Sy_fail) (h_Sy_wordIn_at_s5009 : ct_ok PRD l D kA GG y_Sy_wordIn_at_s5009 z_Sy_wordIn_at_s5009 e_Sy_wordIn_at_s5009) : ct_ok PRD l D kA GG y_Sy_compileOne_at_k8 z_Sy_compileOne_at_k8 e_Sy_compileOne_at_k8 := chk_all_ok (FT := [(31, 11, 6)]) (PT := []) (CT := t_Sy_compileOne_at_k8_ct) (KT := []) (NT := []) (AN := n_Sy_compileOne_at_k8_an) (OT := [o_Sy_compileOne_at_k8_0, o_Sy_compileOne_at_k8_1, o_Sy_compileOne_at_k8_2, o_Sy_compileOne_at_k8_3]) 0 580 (List.forall_mem_cons.mpr ⟨oo_Sy_compileOne_at_k8_0, List.forall_mem_cons.mpr ⟨oo_Sy_compileOne_at_k8_1, List.forall_mem_cons.mpr ⟨oo_Sy_compileOne_at_k8_2, List.forall_mem_cons.mpr ⟨oo_Sy_compileOne_at_k8_3, List.forall_mem_nil _⟩⟩⟩⟩) (by decide +kernel) ⟨List.forall_mem_cons.mpr ⟨gf_Sy_31, List.forall_mem_nil _⟩, List.forall_mem_nil _, List.forall_mem_cons.mpr ⟨cl_virtual (y := y_Sy_advance) (ci := 11) rfl rfl ⟨_, _, rfl⟩ (by decide +kernel) h_Sy_advance wm_2158 wm_23 wm_2155 wm_2157 wv_10_10 ⟨by decide, by decide, by decide +kernel⟩ (by decide), List.forall_mem_cons.mpr ⟨cl_virtual (y := y_Sy_fail) (ci := 11) rfl rfl ⟨_, _, rfl⟩ (by decide +kernel) h_Sy_fail wm_2239 wm_23 wm_2236 wm_2238 wv_10_14 ⟨by decide, by decide, by decide +kernel⟩ (by decide), List.forall_mem_cons.mpr ⟨cl_virtual (y := y_Sy_emit) (ci := 11) rfl rfl ⟨_, _, rfl⟩ (by decide +kernel) h_Sy_emit wm_2258 wm_23 wm_2255 wm_2257 wv_11_2 ⟨by decide, by decide, by decide +kernel⟩ (by decide), List.forall_mem_cons.mpr ⟨cl_virtual (y := y_Sy_closes) (ci := 11) rfl rfl ⟨_, _, rfl⟩ (by decide +kernel) h_Sy_closes wm_2262 wm_23 wm_2259 wm_2261 wv_11_3 ⟨by decide, by decide, by decide +kernel⟩ (by decide), List.forall_mem_cons.mpr ⟨cl_virtual (y := y_Sy_wordIn_at_s5009) (ci := 11) rfl rfl ⟨_, _, rfl⟩ (by decide +kernel) h_Sy_wordIn_at_s5009 wm_2229 wm_23 wm_2226 wm_2228 wv_10_12 ⟨by decide, by decide, by decide +kernel⟩ (by decide), List.forall_mem_cons.mpr ⟨cl_virtual (y := y_Sy_compileOne_at_k9) (ci := 11) rfl rfl ⟨_, _, rfl⟩ (by decide +kernel) h_Sy_compileOne_at_k9 wm_2253 wm_23 wm_2250 wm_2252 wv_11_1 ⟨by decide, by decide, by decide +kernel⟩ (by decide), List.forall_mem_cons.mpr ⟨cl_virtual (y := y_Sy_compileTest_at_k9) (ci := 11) rfl rfl ⟨_, _, rfl⟩ (by decide +kernel) h_Sy_compileTest_at_k9 wm_2245 wm_23 wm_2242 wm_2244 wv_10_15 ⟨by decide, by decide, by decide +kernel⟩ (by decide), List.forall_mem_cons.mpr ⟨cl_virtual (y := y_Sy_compileSum_at_k8) (ci := 11) rfl rfl ⟨_, _, rfl⟩ (by decide +kernel) h_Sy_compileSum_at_k8 wm_2266 wm_23 wm_2263 wm_2265 wv_11_4 ⟨by decide, by decide, by decide +kernel⟩ (by decide), List.forall_mem_cons.mpr ⟨cl_virtual (y := y_Sy_compileSum_at_k8) (ci := 11) rfl rfl ⟨_, _, rfl⟩ (by decide +kernel) h_Sy_compileSum_at_k8 wm_2266 wm_23 wm_2263 wm_2265 wv_11_4 ⟨by decide, by decide, by decide +kernel⟩ (by decide), List.forall_mem_cons.mpr ⟨cl_ldc (own := "DrawingHouse$Styler") (idx := 150) (i := 9) (tx := "not ") (by decide +kernel) (by decide +kernel) (by decide +kernel), List.forall_mem_nil _⟩⟩⟩⟩⟩⟩⟩⟩⟩⟩, List.forall_mem_nil _, List.forall_mem_nil _, GG_pl⟩ (by decide +kernel)
set_option maxHeartbeats 4000000 in
theorem vc_Sy_compileOne_at_k9_0_0 (x13 : Int) (x14 : Int) (k13 : 6 ≤ x13 ∧ x13 ≤ 6) (k14 : 0 ≤ x14 ∧ x14 ≤ 0) : (0 ≤ x13) ∧ ((0 ≤ x14) ∧ (((x13 * 65536) + x14) ≤ 851970)) := by
  first
    | omega
  
def o_Sy_compileOne_at_k9_0 : or_T := (160, 15, [(13, (0, 6, 6, [])), (14, (0, 0, 0, []))], [], [], [], [(20, [13, 14], [50, 0, 0, 2, 6, 0, 2, 0, 0, 1, 0, 2, 6, 0, 2, 0, 0, 1, 1, 0, 10, 4, 6, 6, 2, 1, 0, 0, 65536, 1, 1, 0, 851970])], [], [])
theorem oo_Sy_compileOne_at_k9_0 {kA : Nat → ClassId} : or_ok PRD kA GG o_Sy_compileOne_at_k9_0 := by
  refine or_mk fun A ta ws vs hD hth hl => ?_
  intro t13 k13 t14 k14
  have nf0 : fc_1 PRD (20, [13, 14], [50, 0, 0, 2, 6, 0, 2, 0, 0, 1, 0, 2, 6, 0, 2, 0, 0, 1, 1, 0, 10, 4, 6, 6, 2, 1, 0, 0, 65536, 1, 1, 0, 851970]) ws (vs) := ⟨nf_in hl rfl, sgq_493 (vc_Sy_compileOne_at_k9_0_0 (v_iv (n_v vs 13)) (v_iv (n_v vs 14)) k13 k14)⟩
  refine ⟨(fun _ h => (by cases h)), [], trivial, ?_, (fun _ h => (by cases h))⟩
  rw [List.append_nil]
  exact List.forall_mem_cons.mpr ⟨⟨show (20 : Nat) < 100 from by decide, nf0⟩, (fun _ h => (by cases h))⟩
set_option maxHeartbeats 4000000 in
theorem vc_Sy_compileOne_at_k9_1_0 (x15 : Int) (x16 : Int) (k15 : 7 ≤ x15 ∧ x15 ≤ 7) (k16 : 0 ≤ x16 ∧ x16 ≤ 0) : (0 ≤ x15) ∧ ((0 ≤ x16) ∧ (((x15 * 65536) + x16) ≤ 851970)) := by
  first
    | omega
  
def o_Sy_compileOne_at_k9_1 : or_T := (160, 17, [(15, (0, 7, 7, [])), (16, (0, 0, 0, []))], [], [], [], [(20, [15, 16], [50, 0, 0, 2, 6, 0, 2, 0, 0, 1, 0, 2, 6, 0, 2, 0, 0, 1, 1, 0, 10, 4, 6, 6, 2, 1, 0, 0, 65536, 1, 1, 0, 851970])], [], [])
theorem oo_Sy_compileOne_at_k9_1 {kA : Nat → ClassId} : or_ok PRD kA GG o_Sy_compileOne_at_k9_1 := by
  refine or_mk fun A ta ws vs hD hth hl => ?_
  intro t15 k15 t16 k16
  have nf0 : fc_1 PRD (20, [15, 16], [50, 0, 0, 2, 6, 0, 2, 0, 0, 1, 0, 2, 6, 0, 2, 0, 0, 1, 1, 0, 10, 4, 6, 6, 2, 1, 0, 0, 65536, 1, 1, 0, 851970]) ws (vs) := ⟨nf_in hl rfl, sgq_493 (vc_Sy_compileOne_at_k9_1_0 (v_iv (n_v vs 15)) (v_iv (n_v vs 16)) k15 k16)⟩
  refine ⟨(fun _ h => (by cases h)), [], trivial, ?_, (fun _ h => (by cases h))⟩
  rw [List.append_nil]
  exact List.forall_mem_cons.mpr ⟨⟨show (20 : Nat) < 100 from by decide, nf0⟩, (fun _ h => (by cases h))⟩
set_option maxHeartbeats 4000000 in
theorem vc_Sy_compileOne_at_k9_2_0 (x16 : Int) (x17 : Int) (k16 : 8 ≤ x16 ∧ x16 ≤ 8) (k17 : 0 ≤ x17 ∧ x17 ≤ 0) : (0 ≤ x16) ∧ ((0 ≤ x17) ∧ (((x16 * 65536) + x17) ≤ 851970)) := by
  first
    | omega
  
def o_Sy_compileOne_at_k9_2 : or_T := (160, 18, [(16, (0, 8, 8, [])), (17, (0, 0, 0, []))], [], [], [], [(20, [16, 17], [50, 0, 0, 2, 6, 0, 2, 0, 0, 1, 0, 2, 6, 0, 2, 0, 0, 1, 1, 0, 10, 4, 6, 6, 2, 1, 0, 0, 65536, 1, 1, 0, 851970])], [], [])
theorem oo_Sy_compileOne_at_k9_2 {kA : Nat → ClassId} : or_ok PRD kA GG o_Sy_compileOne_at_k9_2 := by
  refine or_mk fun A ta ws vs hD hth hl => ?_
  intro t16 k16 t17 k17
  have nf0 : fc_1 PRD (20, [16, 17], [50, 0, 0, 2, 6, 0, 2, 0, 0, 1, 0, 2, 6, 0, 2, 0, 0, 1, 1, 0, 10, 4, 6, 6, 2, 1, 0, 0, 65536, 1, 1, 0, 851970]) ws (vs) := ⟨nf_in hl rfl, sgq_493 (vc_Sy_compileOne_at_k9_2_0 (v_iv (n_v vs 16)) (v_iv (n_v vs 17)) k16 k17)⟩
  refine ⟨(fun _ h => (by cases h)), [], trivial, ?_, (fun _ h => (by cases h))⟩
  rw [List.append_nil]
  exact List.forall_mem_cons.mpr ⟨⟨show (20 : Nat) < 100 from by decide, nf0⟩, (fun _ h => (by cases h))⟩
set_option maxHeartbeats 4000000 in
theorem vc_Sy_compileOne_at_k9_3_0 (x10 : Int) (x11 : Int) (k10 : 11 ≤ x10 ∧ x10 ≤ 11) (k11 : 0 ≤ x11 ∧ x11 ≤ 0) : (0 ≤ x10) ∧ ((0 ≤ x11) ∧ (((x10 * 65536) + x11) ≤ 851970)) := by
  first
    | omega
  
def o_Sy_compileOne_at_k9_3 : or_T := (60, 12, [(10, (0, 11, 11, [])), (11, (0, 0, 0, []))], [], [], [], [(20, [10, 11], [50, 0, 0, 2, 6, 0, 2, 0, 0, 1, 0, 2, 6, 0, 2, 0, 0, 1, 1, 0, 10, 4, 6, 6, 2, 1, 0, 0, 65536, 1, 1, 0, 851970])], [], [])
theorem oo_Sy_compileOne_at_k9_3 {kA : Nat → ClassId} : or_ok PRD kA GG o_Sy_compileOne_at_k9_3 := by
  refine or_mk fun A ta ws vs hD hth hl => ?_
  intro t10 k10 t11 k11
  have nf0 : fc_1 PRD (20, [10, 11], [50, 0, 0, 2, 6, 0, 2, 0, 0, 1, 0, 2, 6, 0, 2, 0, 0, 1, 1, 0, 10, 4, 6, 6, 2, 1, 0, 0, 65536, 1, 1, 0, 851970]) ws (vs) := ⟨nf_in hl rfl, sgq_493 (vc_Sy_compileOne_at_k9_3_0 (v_iv (n_v vs 10)) (v_iv (n_v vs 11)) k10 k11)⟩
  refine ⟨(fun _ h => (by cases h)), [], trivial, ?_, (fun _ h => (by cases h))⟩
  rw [List.append_nil]
  exact List.forall_mem_cons.mpr ⟨⟨show (20 : Nat) < 100 from by decide, nf0⟩, (fun _ h => (by cases h))⟩
def n_Sy_compileOne_at_k9_an : List an_T := []
def t_Sy_compileOne_at_k9_ct : ct_L := [(1, 69, e_Sy_advance), (1, 118, e_Sy_fail), (1, 128, e_Sy_emit), (1, 152, e_Sy_closes), (13, 114, e_Sy_wordIn_at_s5009), (160, 145, e_Sy_compileOne_at_k10), (211, 125, e_Sy_compileTest_at_k10), (262, 137, e_Sy_compileSum_at_k9), (391, 137, e_Sy_compileSum_at_k9), (1000000, 150, en_ro [] (2, 0, 0, [5009]))]
set_option maxRecDepth 100000 in
theorem c_Sy_compileOne_at_k9 {l : Launch} {D : va_G} {kA : Nat → ClassId} (h_Sy_advance : ct_ok PRD l D kA GG y_Sy_advance z_Sy_advance e_Sy_advance) (h_Sy_closes : ct_ok PRD l D kA GG y_Sy_closes z_Sy_closes e_Sy_closes) (h_Sy_compileOne_at_k10 : ct_ok PRD l D kA GG y_Sy_compileOne_at_k10 z_Sy_compileOne_at_k10 e_Sy_compileOne_at_k10) (h_Sy_compileSum_at_k9 : ct_ok PRD l D kA GG y_Sy_compileSum_at_k9 z_Sy_compileSum_at_k9 e_Sy_compileSum_at_k9) (h_Sy_compileTest_at_k10 : ct_ok PRD l D kA GG y_Sy_compileTest_at_k10 z_Sy_compileTest_at_k10 e_Sy_compileTest_at_k10) (h_Sy_emit : ct_ok PRD l D kA GG y_Sy_emit z_Sy_emit e_Sy_emit) (h_Sy_fail : ct_ok PRD l D kA GG y_Sy_fail z_Sy_fail e_Sy_fail) (h_Sy_wordIn_at_s5009 : ct_ok PRD l D kA GG y_Sy_wordIn_at_s5009 z_Sy_wordIn_at_s5009 e_Sy_wordIn_at_s5009) : ct_ok PRD l D kA GG y_Sy_compileOne_at_k9 z_Sy_compileOne_at_k9 e_Sy_compileOne_at_k9 := chk_all_ok (FT := [(31, 11, 6)]) (PT := []) (CT := t_Sy_compileOne_at_k9_ct) (KT := []) (NT := []) (AN := n_Sy_compileOne_at_k9_an) (OT := [o_Sy_compileOne_at_k9_0, o_Sy_compileOne_at_k9_1, o_Sy_compileOne_at_k9_2, o_Sy_compileOne_at_k9_3]) 0 580 (List.forall_mem_cons.mpr ⟨oo_Sy_compileOne_at_k9_0, List.forall_mem_cons.mpr ⟨oo_Sy_compileOne_at_k9_1, List.forall_mem_cons.mpr ⟨oo_Sy_compileOne_at_k9_2, List.forall_mem_cons.mpr ⟨oo_Sy_compileOne_at_k9_3, List.forall_mem_nil _⟩⟩⟩⟩) (by decide +kernel) ⟨List.forall_mem_cons.mpr ⟨gf_Sy_31, List.forall_mem_nil _⟩, List.forall_mem_nil _, List.forall_mem_cons.mpr ⟨cl_virtual (y := y_Sy_advance) (ci := 11) rfl rfl ⟨_, _, rfl⟩ (by decide +kernel) h_Sy_advance wm_2158 wm_23 wm_2155 wm_2157 wv_10_10 ⟨by decide, by decide, by decide +kernel⟩ (by decide), List.forall_mem_cons.mpr ⟨cl_virtual (y := y_Sy_fail) (ci := 11) rfl rfl ⟨_, _, rfl⟩ (by decide +kernel) h_Sy_fail wm_2239 wm_23 wm_2236 wm_2238 wv_10_14 ⟨by decide, by decide, by decide +kernel⟩ (by decide), List.forall_mem_cons.mpr ⟨cl_virtual (y := y_Sy_emit) (ci := 11) rfl rfl ⟨_, _, rfl⟩ (by decide +kernel) h_Sy_emit wm_2258 wm_23 wm_2255 wm_2257 wv_11_2 ⟨by decide, by decide, by decide +kernel⟩ (by decide), List.forall_mem_cons.mpr ⟨cl_virtual (y := y_Sy_closes) (ci := 11) rfl rfl ⟨_, _, rfl⟩ (by decide +kernel) h_Sy_closes wm_2262 wm_23 wm_2259 wm_2261 wv_11_3 ⟨by decide, by decide, by decide +kernel⟩ (by decide), List.forall_mem_cons.mpr ⟨cl_virtual (y := y_Sy_wordIn_at_s5009) (ci := 11) rfl rfl ⟨_, _, rfl⟩ (by decide +kernel) h_Sy_wordIn_at_s5009 wm_2229 wm_23 wm_2226 wm_2228 wv_10_12 ⟨by decide, by decide, by decide +kernel⟩ (by decide), List.forall_mem_cons.mpr ⟨cl_virtual (y := y_Sy_compileOne_at_k10) (ci := 11) rfl rfl ⟨_, _, rfl⟩ (by decide +kernel) h_Sy_compileOne_at_k10 wm_2253 wm_23 wm_2250 wm_2252 wv_11_1 ⟨by decide, by decide, by decide +kernel⟩ (by decide), List.forall_mem_cons.mpr ⟨cl_virtual (y := y_Sy_compileTest_at_k10) (ci := 11) rfl rfl ⟨_, _, rfl⟩ (by decide +kernel) h_Sy_compileTest_at_k10 wm_2245 wm_23 wm_2242 wm_2244 wv_10_15 ⟨by decide, by decide, by decide +kernel⟩ (by decide), List.forall_mem_cons.mpr ⟨cl_virtual (y := y_Sy_compileSum_at_k9) (ci := 11) rfl rfl ⟨_, _, rfl⟩ (by decide +kernel) h_Sy_compileSum_at_k9 wm_2266 wm_23 wm_2263 wm_2265 wv_11_4 ⟨by decide, by decide, by decide +kernel⟩ (by decide), List.forall_mem_cons.mpr ⟨cl_virtual (y := y_Sy_compileSum_at_k9) (ci := 11) rfl rfl ⟨_, _, rfl⟩ (by decide +kernel) h_Sy_compileSum_at_k9 wm_2266 wm_23 wm_2263 wm_2265 wv_11_4 ⟨by decide, by decide, by decide +kernel⟩ (by decide), List.forall_mem_cons.mpr ⟨cl_ldc (own := "DrawingHouse$Styler") (idx := 150) (i := 9) (tx := "not ") (by decide +kernel) (by decide +kernel) (by decide +kernel), List.forall_mem_nil _⟩⟩⟩⟩⟩⟩⟩⟩⟩⟩, List.forall_mem_nil _, List.forall_mem_nil _, GG_pl⟩ (by decide +kernel)
def o_Sy_compileTest_at_k0_0 : or_T := (12, 5, [], [], [], [], [(24, [0, 0], [])], [], [])
theorem oo_Sy_compileTest_at_k0_0 {kA : Nat → ClassId} : or_ok PRD kA GG o_Sy_compileTest_at_k0_0 := by
  refine or_mk fun A ta ws vs hD hth hl => ?_
  have nf0 : fc_1 PRD (24, [0, 0], []) ws (vs) := by
    refine ⟨nf_in hl rfl, sgq_1 ?_⟩
    · show n_v vs 0 = n_v vs 0
      first | rfl | simp only [true_and]
  refine ⟨(fun _ h => (by cases h)), [], trivial, ?_, (fun _ h => (by cases h))⟩
  rw [List.append_nil]
  exact List.forall_mem_cons.mpr ⟨⟨show (24 : Nat) < 100 from by decide, nf0⟩, (fun _ h => (by cases h))⟩
set_option maxHeartbeats 4000000 in
theorem vc_Sy_compileTest_at_k0_1_0 (kind_0 : Int) (number_0 : Int) (f0 : (kind_0 ≠ 3) ∨ (number_0 ≤ 9999)) (kz_0_6 : 0 ≤ kind_0 ∧ kind_0 ≤ 127) (kz_0_8 : 0 ≤ number_0 ∧ number_0 ≤ 1000000) : (kind_0 ≠ 3) ∨ (number_0 ≤ 9999) := by
  first
    | omega
  
def o_Sy_compileTest_at_k0_1 : or_T := (56, 9, [(0, (2, 0, 0, [11]))], [(20, [3], [50, 2, 0, 6, 8, 3, 7, 7, 3, 2, 0, 6, 0, 3, 0, 3, 2, 0, 8, 0, 9999]), (24, [0, 3], [])], [], [], [(20, [0], [50, 2, 0, 6, 8, 3, 7, 7, 3, 2, 0, 6, 0, 3, 0, 3, 2, 0, 8, 0, 9999])], [], [])
theorem oo_Sy_compileTest_at_k0_1 {kA : Nat → ClassId} : or_ok PRD kA GG o_Sy_compileTest_at_k0_1 := by
  refine or_mk fun A ta ws vs hD hth hl => ?_
  intro t0 r0 f0 f1
  replace f0 := shm_1840 f0
  replace f1 := shm_5 f1
  have q3 : n_v vs 3 = n_v vs 0 := f1.symm
  simp only [q3] at f0
  have kz_0_6 := fdq_313 hD hth r0
  have kz_0_8 := fdq_314 hD hth r0
  have nf0 : fc_1 PRD (20, [0], [50, 2, 0, 6, 8, 3, 7, 7, 3, 2, 0, 6, 0, 3, 0, 3, 2, 0, 8, 0, 9999]) ws (vs) := ⟨nf_in hl rfl, sgq_1840 (vc_Sy_compileTest_at_k0_1_0 (w_fi ws (n_v vs 0) 6) (w_fi ws (n_v vs 0) 8) f0 kz_0_6 kz_0_8)⟩
  refine ⟨(fun _ h => (by cases h)), [], trivial, ?_, (fun _ h => (by cases h))⟩
  rw [List.append_nil]
  exact List.forall_mem_cons.mpr ⟨⟨show (20 : Nat) < 100 from by decide, nf0⟩, (fun _ h => (by cases h))⟩
set_option maxHeartbeats 4000000 in
theorem vc_Sy_compileTest_at_k0_2_0 (kind_0 : Int) (number_0 : Int) (f0 : (kind_0 ≠ 3) ∨ (number_0 ≤ 9999)) (kz_0_6 : 0 ≤ kind_0 ∧ kind_0 ≤ 127) (kz_0_8 : 0 ≤ number_0 ∧ number_0 ≤ 1000000) : (kind_0 ≠ 3) ∨ (number_0 ≤ 9999) := by
  first
    | omega
  
def o_Sy_compileTest_at_k0_2 : or_T := (56, 11, [(0, (2, 0, 0, [11]))], [(20, [3], [50, 2, 0, 6, 8, 3, 7, 7, 3, 2, 0, 6, 0, 3, 0, 3, 2, 0, 8, 0, 9999]), (24, [0, 3], [])], [], [], [(20, [0], [50, 2, 0, 6, 8, 3, 7, 7, 3, 2, 0, 6, 0, 3, 0, 3, 2, 0, 8, 0, 9999])], [], [])
theorem oo_Sy_compileTest_at_k0_2 {kA : Nat → ClassId} : or_ok PRD kA GG o_Sy_compileTest_at_k0_2 := by
  refine or_mk fun A ta ws vs hD hth hl => ?_
  intro t0 r0 f0 f1
  replace f0 := shm_1840 f0
  replace f1 := shm_5 f1
  have q3 : n_v vs 3 = n_v vs 0 := f1.symm
  simp only [q3] at f0
  have kz_0_6 := fdq_313 hD hth r0
  have kz_0_8 := fdq_314 hD hth r0
  have nf0 : fc_1 PRD (20, [0], [50, 2, 0, 6, 8, 3, 7, 7, 3, 2, 0, 6, 0, 3, 0, 3, 2, 0, 8, 0, 9999]) ws (vs) := ⟨nf_in hl rfl, sgq_1840 (vc_Sy_compileTest_at_k0_2_0 (w_fi ws (n_v vs 0) 6) (w_fi ws (n_v vs 0) 8) f0 kz_0_6 kz_0_8)⟩
  refine ⟨(fun _ h => (by cases h)), [], trivial, ?_, (fun _ h => (by cases h))⟩
  rw [List.append_nil]
  exact List.forall_mem_cons.mpr ⟨⟨show (20 : Nat) < 100 from by decide, nf0⟩, (fun _ h => (by cases h))⟩
set_option maxHeartbeats 4000000 in
theorem vc_Sy_compileTest_at_k0_3_0 (x11 : Int) (x12 : Int) (k11 : 10 ≤ x11 ∧ x11 ≤ 10) (k12 : 0 ≤ x12 ∧ x12 ≤ 0) : (0 ≤ x11) ∧ ((0 ≤ x12) ∧ (((x11 * 65536) + x12) ≤ 851970)) := by
  first
    | omega
  
def o_Sy_compileTest_at_k0_3 : or_T := (46, 13, [(11, (0, 10, 10, [])), (12, (0, 0, 0, []))], [], [], [], [(20, [11, 12], [50, 0, 0, 2, 6, 0, 2, 0, 0, 1, 0, 2, 6, 0, 2, 0, 0, 1, 1, 0, 10, 4, 6, 6, 2, 1, 0, 0, 65536, 1, 1, 0, 851970])], [], [])
theorem oo_Sy_compileTest_at_k0_3 {kA : Nat → ClassId} : or_ok PRD kA GG o_Sy_compileTest_at_k0_3 := by
  refine or_mk fun A ta ws vs hD hth hl => ?_
  intro t11 k11 t12 k12
  have nf0 : fc_1 PRD (20, [11, 12], [50, 0, 0, 2, 6, 0, 2, 0, 0, 1, 0, 2, 6, 0, 2, 0, 0, 1, 1, 0, 10, 4, 6, 6, 2, 1, 0, 0, 65536, 1, 1, 0, 851970]) ws (vs) := ⟨nf_in hl rfl, sgq_493 (vc_Sy_compileTest_at_k0_3_0 (v_iv (n_v vs 11)) (v_iv (n_v vs 12)) k11 k12)⟩
  refine ⟨(fun _ h => (by cases h)), [], trivial, ?_, (fun _ h => (by cases h))⟩
  rw [List.append_nil]
  exact List.forall_mem_cons.mpr ⟨⟨show (20 : Nat) < 100 from by decide, nf0⟩, (fun _ h => (by cases h))⟩
set_option maxHeartbeats 4000000 in
theorem vc_Sy_compileTest_at_k0_4_0 (kind_0 : Int) (number_0 : Int) (f1 : (kind_0 ≠ 3) ∨ (number_0 ≤ 9999)) (kz_0_6 : 0 ≤ kind_0 ∧ kind_0 ≤ 127) (kz_0_8 : 0 ≤ number_0 ∧ number_0 ≤ 1000000) : (kind_0 ≠ 3) ∨ (number_0 ≤ 9999) := by
  first
    | omega
  
def o_Sy_compileTest_at_k0_4 : or_T := (41, 12, [(0, (2, 0, 0, [11]))], [(24, [0, 3], []), (20, [3], [50, 2, 0, 6, 8, 3, 7, 7, 3, 2, 0, 6, 0, 3, 0, 3, 2, 0, 8, 0, 9999])], [], [], [(20, [0], [50, 2, 0, 6, 8, 3, 7, 7, 3, 2, 0, 6, 0, 3, 0, 3, 2, 0, 8, 0, 9999])], [], [])
theorem oo_Sy_compileTest_at_k0_4 {kA : Nat → ClassId} : or_ok PRD kA GG o_Sy_compileTest_at_k0_4 := by
  refine or_mk fun A ta ws vs hD hth hl => ?_
  intro t0 r0 f0 f1
  replace f0 := shm_5 f0
  replace f1 := shm_1840 f1
  have q3 : n_v vs 3 = n_v vs 0 := f0.symm
  simp only [q3] at f1
  have kz_0_6 := fdq_313 hD hth r0
  have kz_0_8 := fdq_314 hD hth r0
  have nf0 : fc_1 PRD (20, [0], [50, 2, 0, 6, 8, 3, 7, 7, 3, 2, 0, 6, 0, 3, 0, 3, 2, 0, 8, 0, 9999]) ws (vs) := ⟨nf_in hl rfl, sgq_1840 (vc_Sy_compileTest_at_k0_4_0 (w_fi ws (n_v vs 0) 6) (w_fi ws (n_v vs 0) 8) f1 kz_0_6 kz_0_8)⟩
  refine ⟨(fun _ h => (by cases h)), [], trivial, ?_, (fun _ h => (by cases h))⟩
  rw [List.append_nil]
  exact List.forall_mem_cons.mpr ⟨⟨show (20 : Nat) < 100 from by decide, nf0⟩, (fun _ h => (by cases h))⟩
def n_Sy_compileTest_at_k0_an : List an_T := [(12, [(0, (2, 0, 0, [11])), (1, (0, 0, 0, [])), (2, (0, 0, 2000, []))], [], (0, 0), [(0, 0, 99988), (1, 5, 2000), (0, 0, 100000)], [], [((0, 3), (2, 0, 0, [109]))], [(2, 0, 0, [11]), (0, 0, 0, []), (2, 0, 0, [109])], 0, [], [(20, [3], [50, 2, 0, 6, 8, 3, 7, 7, 3, 2, 0, 6, 0, 3, 0, 3, 2, 0, 8, 0, 9999]), (24, [0, 3], [])])]
def t_Sy_compileTest_at_k0_ct : ct_L := [(1, 69, e_Sy_advance), (1, 128, e_Sy_emit), (10, 140, e_Sy_compileBoth_at_k0), (70, 114, e_Sy_wordIn_at_s5011), (106, 140, e_Sy_compileBoth_at_k0), (1000000, 143, en_ro [] (2, 0, 0, [5011]))]
set_option maxRecDepth 100000 in
theorem c_Sy_compileTest_at_k0 {l : Launch} {D : va_G} {kA : Nat → ClassId} (h_Sy_advance : ct_ok PRD l D kA GG y_Sy_advance z_Sy_advance e_Sy_advance) (h_Sy_compileBoth_at_k0 : ct_ok PRD l D kA GG y_Sy_compileBoth_at_k0 z_Sy_compileBoth_at_k0 e_Sy_compileBoth_at_k0) (h_Sy_emit : ct_ok PRD l D kA GG y_Sy_emit z_Sy_emit e_Sy_emit) (h_Sy_wordIn_at_s5011 : ct_ok PRD l D kA GG y_Sy_wordIn_at_s5011 z_Sy_wordIn_at_s5011 e_Sy_wordIn_at_s5011) : ct_ok PRD l D kA GG y_Sy_compileTest_at_k0 z_Sy_compileTest_at_k0 e_Sy_compileTest_at_k0 := chk_all_ok (FT := []) (PT := []) (CT := t_Sy_compileTest_at_k0_ct) (KT := []) (NT := []) (AN := n_Sy_compileTest_at_k0_an) (OT := [o_Sy_compileTest_at_k0_0, o_Sy_compileTest_at_k0_1, o_Sy_compileTest_at_k0_2, o_Sy_compileTest_at_k0_3, o_Sy_compileTest_at_k0_4]) 3 200 (List.forall_mem_cons.mpr ⟨oo_Sy_compileTest_at_k0_0, List.forall_mem_cons.mpr ⟨oo_Sy_compileTest_at_k0_1, List.forall_mem_cons.mpr ⟨oo_Sy_compileTest_at_k0_2, List.forall_mem_cons.mpr ⟨oo_Sy_compileTest_at_k0_3, List.forall_mem_cons.mpr ⟨oo_Sy_compileTest_at_k0_4, List.forall_mem_nil _⟩⟩⟩⟩⟩) (by decide +kernel) ⟨List.forall_mem_nil _, List.forall_mem_nil _, List.forall_mem_cons.mpr ⟨cl_virtual (y := y_Sy_advance) (ci := 11) rfl rfl ⟨_, _, rfl⟩ (by decide +kernel) h_Sy_advance wm_2158 wm_23 wm_2155 wm_2157 wv_10_10 ⟨by decide, by decide, by decide +kernel⟩ (by decide), List.forall_mem_cons.mpr ⟨cl_virtual (y := y_Sy_emit) (ci := 11) rfl rfl ⟨_, _, rfl⟩ (by decide +kernel) h_Sy_emit wm_2258 wm_23 wm_2255 wm_2257 wv_11_2 ⟨by decide, by decide, by decide +kernel⟩ (by decide), List.forall_mem_cons.mpr ⟨cl_virtual (y := y_Sy_compileBoth_at_k0) (ci := 11) rfl rfl ⟨_, _, rfl⟩ (by decide +kernel) h_Sy_compileBoth_at_k0 wm_2249 wm_23 wm_2246 wm_2248 wv_11_0 ⟨by decide, by decide, by decide +kernel⟩ (by decide), List.forall_mem_cons.mpr ⟨cl_virtual (y := y_Sy_wordIn_at_s5011) (ci := 11) rfl rfl ⟨_, _, rfl⟩ (by decide +kernel) h_Sy_wordIn_at_s5011 wm_2229 wm_23 wm_2226 wm_2228 wv_10_12 ⟨by decide, by decide, by decide +kernel⟩ (by decide), List.forall_mem_cons.mpr ⟨cl_virtual (y := y_Sy_compileBoth_at_k0) (ci := 11) rfl rfl ⟨_, _, rfl⟩ (by decide +kernel) h_Sy_compileBoth_at_k0 wm_2249 wm_23 wm_2246 wm_2248 wv_11_0 ⟨by decide, by decide, by decide +kernel⟩ (by decide), List.forall_mem_cons.mpr ⟨cl_ldc (own := "DrawingHouse$Styler") (idx := 143) (i := 11) (tx := "or ") (by decide +kernel) (by decide +kernel) (by decide +kernel), List.forall_mem_nil _⟩⟩⟩⟩⟩⟩, List.forall_mem_nil _, List.forall_mem_nil _, GG_pl⟩ (by decide +kernel)
def o_Sy_compileTest_at_k1_0 : or_T := (12, 5, [], [], [], [], [(24, [0, 0], [])], [], [])
theorem oo_Sy_compileTest_at_k1_0 {kA : Nat → ClassId} : or_ok PRD kA GG o_Sy_compileTest_at_k1_0 := by
  refine or_mk fun A ta ws vs hD hth hl => ?_
  have nf0 : fc_1 PRD (24, [0, 0], []) ws (vs) := by
    refine ⟨nf_in hl rfl, sgq_1 ?_⟩
    · show n_v vs 0 = n_v vs 0
      first | rfl | simp only [true_and]
  refine ⟨(fun _ h => (by cases h)), [], trivial, ?_, (fun _ h => (by cases h))⟩
  rw [List.append_nil]
  exact List.forall_mem_cons.mpr ⟨⟨show (24 : Nat) < 100 from by decide, nf0⟩, (fun _ h => (by cases h))⟩
set_option maxHeartbeats 4000000 in
theorem vc_Sy_compileTest_at_k1_1_0 (kind_0 : Int) (number_0 : Int) (f0 : (kind_0 ≠ 3) ∨ (number_0 ≤ 9999)) (kz_0_6 : 0 ≤ kind_0 ∧ kind_0 ≤ 127) (kz_0_8 : 0 ≤ number_0 ∧ number_0 ≤ 1000000) : (kind_0 ≠ 3) ∨ (number_0 ≤ 9999) := by
  first
    | omega
  
def o_Sy_compileTest_at_k1_1 : or_T := (56, 9, [(0, (2, 0, 0, [11]))], [(20, [3], [50, 2, 0, 6, 8, 3, 7, 7, 3, 2, 0, 6, 0, 3, 0, 3, 2, 0, 8, 0, 9999]), (24, [0, 3], [])], [], [], [(20, [0], [50, 2, 0, 6, 8, 3, 7, 7, 3, 2, 0, 6, 0, 3, 0, 3, 2, 0, 8, 0, 9999])], [], [])
theorem oo_Sy_compileTest_at_k1_1 {kA : Nat → ClassId} : or_ok PRD kA GG o_Sy_compileTest_at_k1_1 := by
  refine or_mk fun A ta ws vs hD hth hl => ?_
  intro t0 r0 f0 f1
  replace f0 := shm_1840 f0
  replace f1 := shm_5 f1
  have q3 : n_v vs 3 = n_v vs 0 := f1.symm
  simp only [q3] at f0
  have kz_0_6 := fdq_313 hD hth r0
  have kz_0_8 := fdq_314 hD hth r0
  have nf0 : fc_1 PRD (20, [0], [50, 2, 0, 6, 8, 3, 7, 7, 3, 2, 0, 6, 0, 3, 0, 3, 2, 0, 8, 0, 9999]) ws (vs) := ⟨nf_in hl rfl, sgq_1840 (vc_Sy_compileTest_at_k1_1_0 (w_fi ws (n_v vs 0) 6) (w_fi ws (n_v vs 0) 8) f0 kz_0_6 kz_0_8)⟩
  refine ⟨(fun _ h => (by cases h)), [], trivial, ?_, (fun _ h => (by cases h))⟩
  rw [List.append_nil]
  exact List.forall_mem_cons.mpr ⟨⟨show (20 : Nat) < 100 from by decide, nf0⟩, (fun _ h => (by cases h))⟩
set_option maxHeartbeats 4000000 in
theorem vc_Sy_compileTest_at_k1_2_0 (kind_0 : Int) (number_0 : Int) (f0 : (kind_0 ≠ 3) ∨ (number_0 ≤ 9999)) (kz_0_6 : 0 ≤ kind_0 ∧ kind_0 ≤ 127) (kz_0_8 : 0 ≤ number_0 ∧ number_0 ≤ 1000000) : (kind_0 ≠ 3) ∨ (number_0 ≤ 9999) := by
  first
    | omega
  
def o_Sy_compileTest_at_k1_2 : or_T := (56, 11, [(0, (2, 0, 0, [11]))], [(20, [3], [50, 2, 0, 6, 8, 3, 7, 7, 3, 2, 0, 6, 0, 3, 0, 3, 2, 0, 8, 0, 9999]), (24, [0, 3], [])], [], [], [(20, [0], [50, 2, 0, 6, 8, 3, 7, 7, 3, 2, 0, 6, 0, 3, 0, 3, 2, 0, 8, 0, 9999])], [], [])
theorem oo_Sy_compileTest_at_k1_2 {kA : Nat → ClassId} : or_ok PRD kA GG o_Sy_compileTest_at_k1_2 := by
  refine or_mk fun A ta ws vs hD hth hl => ?_
  intro t0 r0 f0 f1
  replace f0 := shm_1840 f0
  replace f1 := shm_5 f1
  have q3 : n_v vs 3 = n_v vs 0 := f1.symm
  simp only [q3] at f0
  have kz_0_6 := fdq_313 hD hth r0
  have kz_0_8 := fdq_314 hD hth r0
  have nf0 : fc_1 PRD (20, [0], [50, 2, 0, 6, 8, 3, 7, 7, 3, 2, 0, 6, 0, 3, 0, 3, 2, 0, 8, 0, 9999]) ws (vs) := ⟨nf_in hl rfl, sgq_1840 (vc_Sy_compileTest_at_k1_2_0 (w_fi ws (n_v vs 0) 6) (w_fi ws (n_v vs 0) 8) f0 kz_0_6 kz_0_8)⟩
  refine ⟨(fun _ h => (by cases h)), [], trivial, ?_, (fun _ h => (by cases h))⟩
  rw [List.append_nil]
  exact List.forall_mem_cons.mpr ⟨⟨show (20 : Nat) < 100 from by decide, nf0⟩, (fun _ h => (by cases h))⟩
set_option maxHeartbeats 4000000 in
theorem vc_Sy_compileTest_at_k1_3_0 (x11 : Int) (x12 : Int) (k11 : 10 ≤ x11 ∧ x11 ≤ 10) (k12 : 0 ≤ x12 ∧ x12 ≤ 0) : (0 ≤ x11) ∧ ((0 ≤ x12) ∧ (((x11 * 65536) + x12) ≤ 851970)) := by
  first
    | omega
  
def o_Sy_compileTest_at_k1_3 : or_T := (46, 13, [(11, (0, 10, 10, [])), (12, (0, 0, 0, []))], [], [], [], [(20, [11, 12], [50, 0, 0, 2, 6, 0, 2, 0, 0, 1, 0, 2, 6, 0, 2, 0, 0, 1, 1, 0, 10, 4, 6, 6, 2, 1, 0, 0, 65536, 1, 1, 0, 851970])], [], [])
theorem oo_Sy_compileTest_at_k1_3 {kA : Nat → ClassId} : or_ok PRD kA GG o_Sy_compileTest_at_k1_3 := by
  refine or_mk fun A ta ws vs hD hth hl => ?_
  intro t11 k11 t12 k12
  have nf0 : fc_1 PRD (20, [11, 12], [50, 0, 0, 2, 6, 0, 2, 0, 0, 1, 0, 2, 6, 0, 2, 0, 0, 1, 1, 0, 10, 4, 6, 6, 2, 1, 0, 0, 65536, 1, 1, 0, 851970]) ws (vs) := ⟨nf_in hl rfl, sgq_493 (vc_Sy_compileTest_at_k1_3_0 (v_iv (n_v vs 11)) (v_iv (n_v vs 12)) k11 k12)⟩
  refine ⟨(fun _ h => (by cases h)), [], trivial, ?_, (fun _ h => (by cases h))⟩
  rw [List.append_nil]
  exact List.forall_mem_cons.mpr ⟨⟨show (20 : Nat) < 100 from by decide, nf0⟩, (fun _ h => (by cases h))⟩
set_option maxHeartbeats 4000000 in
theorem vc_Sy_compileTest_at_k1_4_0 (kind_0 : Int) (number_0 : Int) (f1 : (kind_0 ≠ 3) ∨ (number_0 ≤ 9999)) (kz_0_6 : 0 ≤ kind_0 ∧ kind_0 ≤ 127) (kz_0_8 : 0 ≤ number_0 ∧ number_0 ≤ 1000000) : (kind_0 ≠ 3) ∨ (number_0 ≤ 9999) := by
  first
    | omega
  
def o_Sy_compileTest_at_k1_4 : or_T := (41, 12, [(0, (2, 0, 0, [11]))], [(24, [0, 3], []), (20, [3], [50, 2, 0, 6, 8, 3, 7, 7, 3, 2, 0, 6, 0, 3, 0, 3, 2, 0, 8, 0, 9999])], [], [], [(20, [0], [50, 2, 0, 6, 8, 3, 7, 7, 3, 2, 0, 6, 0, 3, 0, 3, 2, 0, 8, 0, 9999])], [], [])
theorem oo_Sy_compileTest_at_k1_4 {kA : Nat → ClassId} : or_ok PRD kA GG o_Sy_compileTest_at_k1_4 := by
  refine or_mk fun A ta ws vs hD hth hl => ?_
  intro t0 r0 f0 f1
  replace f0 := shm_5 f0
  replace f1 := shm_1840 f1
  have q3 : n_v vs 3 = n_v vs 0 := f0.symm
  simp only [q3] at f1
  have kz_0_6 := fdq_313 hD hth r0
  have kz_0_8 := fdq_314 hD hth r0
  have nf0 : fc_1 PRD (20, [0], [50, 2, 0, 6, 8, 3, 7, 7, 3, 2, 0, 6, 0, 3, 0, 3, 2, 0, 8, 0, 9999]) ws (vs) := ⟨nf_in hl rfl, sgq_1840 (vc_Sy_compileTest_at_k1_4_0 (w_fi ws (n_v vs 0) 6) (w_fi ws (n_v vs 0) 8) f1 kz_0_6 kz_0_8)⟩
  refine ⟨(fun _ h => (by cases h)), [], trivial, ?_, (fun _ h => (by cases h))⟩
  rw [List.append_nil]
  exact List.forall_mem_cons.mpr ⟨⟨show (20 : Nat) < 100 from by decide, nf0⟩, (fun _ h => (by cases h))⟩
def n_Sy_compileTest_at_k1_an : List an_T := [(12, [(0, (2, 0, 0, [11])), (1, (0, 1, 1, [])), (2, (0, 0, 2000, []))], [], (0, 0), [(0, 0, 99988), (1, 5, 2000), (0, 0, 100000)], [], [((0, 3), (2, 0, 0, [109]))], [(2, 0, 0, [11]), (0, 1, 1, []), (2, 0, 0, [109])], 0, [], [(20, [3], [50, 2, 0, 6, 8, 3, 7, 7, 3, 2, 0, 6, 0, 3, 0, 3, 2, 0, 8, 0, 9999]), (24, [0, 3], [])])]
def t_Sy_compileTest_at_k1_ct : ct_L := [(1, 69, e_Sy_advance), (1, 128, e_Sy_emit), (10, 140, e_Sy_compileBoth_at_k1), (70, 114, e_Sy_wordIn_at_s5011), (106, 140, e_Sy_compileBoth_at_k1), (1000000, 143, en_ro [] (2, 0, 0, [5011]))]
set_option maxRecDepth 100000 in
theorem c_Sy_compileTest_at_k1 {l : Launch} {D : va_G} {kA : Nat → ClassId} (h_Sy_advance : ct_ok PRD l D kA GG y_Sy_advance z_Sy_advance e_Sy_advance) (h_Sy_compileBoth_at_k1 : ct_ok PRD l D kA GG y_Sy_compileBoth_at_k1 z_Sy_compileBoth_at_k1 e_Sy_compileBoth_at_k1) (h_Sy_emit : ct_ok PRD l D kA GG y_Sy_emit z_Sy_emit e_Sy_emit) (h_Sy_wordIn_at_s5011 : ct_ok PRD l D kA GG y_Sy_wordIn_at_s5011 z_Sy_wordIn_at_s5011 e_Sy_wordIn_at_s5011) : ct_ok PRD l D kA GG y_Sy_compileTest_at_k1 z_Sy_compileTest_at_k1 e_Sy_compileTest_at_k1 := chk_all_ok (FT := []) (PT := []) (CT := t_Sy_compileTest_at_k1_ct) (KT := []) (NT := []) (AN := n_Sy_compileTest_at_k1_an) (OT := [o_Sy_compileTest_at_k1_0, o_Sy_compileTest_at_k1_1, o_Sy_compileTest_at_k1_2, o_Sy_compileTest_at_k1_3, o_Sy_compileTest_at_k1_4]) 3 200 (List.forall_mem_cons.mpr ⟨oo_Sy_compileTest_at_k1_0, List.forall_mem_cons.mpr ⟨oo_Sy_compileTest_at_k1_1, List.forall_mem_cons.mpr ⟨oo_Sy_compileTest_at_k1_2, List.forall_mem_cons.mpr ⟨oo_Sy_compileTest_at_k1_3, List.forall_mem_cons.mpr ⟨oo_Sy_compileTest_at_k1_4, List.forall_mem_nil _⟩⟩⟩⟩⟩) (by decide +kernel) ⟨List.forall_mem_nil _, List.forall_mem_nil _, List.forall_mem_cons.mpr ⟨cl_virtual (y := y_Sy_advance) (ci := 11) rfl rfl ⟨_, _, rfl⟩ (by decide +kernel) h_Sy_advance wm_2158 wm_23 wm_2155 wm_2157 wv_10_10 ⟨by decide, by decide, by decide +kernel⟩ (by decide), List.forall_mem_cons.mpr ⟨cl_virtual (y := y_Sy_emit) (ci := 11) rfl rfl ⟨_, _, rfl⟩ (by decide +kernel) h_Sy_emit wm_2258 wm_23 wm_2255 wm_2257 wv_11_2 ⟨by decide, by decide, by decide +kernel⟩ (by decide), List.forall_mem_cons.mpr ⟨cl_virtual (y := y_Sy_compileBoth_at_k1) (ci := 11) rfl rfl ⟨_, _, rfl⟩ (by decide +kernel) h_Sy_compileBoth_at_k1 wm_2249 wm_23 wm_2246 wm_2248 wv_11_0 ⟨by decide, by decide, by decide +kernel⟩ (by decide), List.forall_mem_cons.mpr ⟨cl_virtual (y := y_Sy_wordIn_at_s5011) (ci := 11) rfl rfl ⟨_, _, rfl⟩ (by decide +kernel) h_Sy_wordIn_at_s5011 wm_2229 wm_23 wm_2226 wm_2228 wv_10_12 ⟨by decide, by decide, by decide +kernel⟩ (by decide), List.forall_mem_cons.mpr ⟨cl_virtual (y := y_Sy_compileBoth_at_k1) (ci := 11) rfl rfl ⟨_, _, rfl⟩ (by decide +kernel) h_Sy_compileBoth_at_k1 wm_2249 wm_23 wm_2246 wm_2248 wv_11_0 ⟨by decide, by decide, by decide +kernel⟩ (by decide), List.forall_mem_cons.mpr ⟨cl_ldc (own := "DrawingHouse$Styler") (idx := 143) (i := 11) (tx := "or ") (by decide +kernel) (by decide +kernel) (by decide +kernel), List.forall_mem_nil _⟩⟩⟩⟩⟩⟩, List.forall_mem_nil _, List.forall_mem_nil _, GG_pl⟩ (by decide +kernel)
def o_Sy_compileTest_at_k10_0 : or_T := (12, 5, [], [], [], [], [(24, [0, 0], [])], [], [])
theorem oo_Sy_compileTest_at_k10_0 {kA : Nat → ClassId} : or_ok PRD kA GG o_Sy_compileTest_at_k10_0 := by
  refine or_mk fun A ta ws vs hD hth hl => ?_
  have nf0 : fc_1 PRD (24, [0, 0], []) ws (vs) := by
    refine ⟨nf_in hl rfl, sgq_1 ?_⟩
    · show n_v vs 0 = n_v vs 0
      first | rfl | simp only [true_and]
  refine ⟨(fun _ h => (by cases h)), [], trivial, ?_, (fun _ h => (by cases h))⟩
  rw [List.append_nil]
  exact List.forall_mem_cons.mpr ⟨⟨show (24 : Nat) < 100 from by decide, nf0⟩, (fun _ h => (by cases h))⟩
set_option maxHeartbeats 4000000 in
theorem vc_Sy_compileTest_at_k10_1_0 (kind_0 : Int) (number_0 : Int) (f0 : (kind_0 ≠ 3) ∨ (number_0 ≤ 9999)) (kz_0_6 : 0 ≤ kind_0 ∧ kind_0 ≤ 127) (kz_0_8 : 0 ≤ number_0 ∧ number_0 ≤ 1000000) : (kind_0 ≠ 3) ∨ (number_0 ≤ 9999) := by
  first
    | omega
  
def o_Sy_compileTest_at_k10_1 : or_T := (56, 9, [(0, (2, 0, 0, [11]))], [(20, [3], [50, 2, 0, 6, 8, 3, 7, 7, 3, 2, 0, 6, 0, 3, 0, 3, 2, 0, 8, 0, 9999]), (24, [0, 3], [])], [], [], [(20, [0], [50, 2, 0, 6, 8, 3, 7, 7, 3, 2, 0, 6, 0, 3, 0, 3, 2, 0, 8, 0, 9999])], [], [])
theorem oo_Sy_compileTest_at_k10_1 {kA : Nat → ClassId} : or_ok PRD kA GG o_Sy_compileTest_at_k10_1 := by
  refine or_mk fun A ta ws vs hD hth hl => ?_
  intro t0 r0 f0 f1
  replace f0 := shm_1840 f0
  replace f1 := shm_5 f1
  have q3 : n_v vs 3 = n_v vs 0 := f1.symm
  simp only [q3] at f0
  have kz_0_6 := fdq_313 hD hth r0
  have kz_0_8 := fdq_314 hD hth r0
  have nf0 : fc_1 PRD (20, [0], [50, 2, 0, 6, 8, 3, 7, 7, 3, 2, 0, 6, 0, 3, 0, 3, 2, 0, 8, 0, 9999]) ws (vs) := ⟨nf_in hl rfl, sgq_1840 (vc_Sy_compileTest_at_k10_1_0 (w_fi ws (n_v vs 0) 6) (w_fi ws (n_v vs 0) 8) f0 kz_0_6 kz_0_8)⟩
  refine ⟨(fun _ h => (by cases h)), [], trivial, ?_, (fun _ h => (by cases h))⟩
  rw [List.append_nil]
  exact List.forall_mem_cons.mpr ⟨⟨show (20 : Nat) < 100 from by decide, nf0⟩, (fun _ h => (by cases h))⟩
set_option maxHeartbeats 4000000 in
theorem vc_Sy_compileTest_at_k10_2_0 (kind_0 : Int) (number_0 : Int) (f0 : (kind_0 ≠ 3) ∨ (number_0 ≤ 9999)) (kz_0_6 : 0 ≤ kind_0 ∧ kind_0 ≤ 127) (kz_0_8 : 0 ≤ number_0 ∧ number_0 ≤ 1000000) : (kind_0 ≠ 3) ∨ (number_0 ≤ 9999) := by
  first
    | omega
  
def o_Sy_compileTest_at_k10_2 : or_T := (56, 11, [(0, (2, 0, 0, [11]))], [(20, [3], [50, 2, 0, 6, 8, 3, 7, 7, 3, 2, 0, 6, 0, 3, 0, 3, 2, 0, 8, 0, 9999]), (24, [0, 3], [])], [], [], [(20, [0], [50, 2, 0, 6, 8, 3, 7, 7, 3, 2, 0, 6, 0, 3, 0, 3, 2, 0, 8, 0, 9999])], [], [])
theorem oo_Sy_compileTest_at_k10_2 {kA : Nat → ClassId} : or_ok PRD kA GG o_Sy_compileTest_at_k10_2 := by
  refine or_mk fun A ta ws vs hD hth hl => ?_
  intro t0 r0 f0 f1
  replace f0 := shm_1840 f0
  replace f1 := shm_5 f1
  have q3 : n_v vs 3 = n_v vs 0 := f1.symm
  simp only [q3] at f0
  have kz_0_6 := fdq_313 hD hth r0
  have kz_0_8 := fdq_314 hD hth r0
  have nf0 : fc_1 PRD (20, [0], [50, 2, 0, 6, 8, 3, 7, 7, 3, 2, 0, 6, 0, 3, 0, 3, 2, 0, 8, 0, 9999]) ws (vs) := ⟨nf_in hl rfl, sgq_1840 (vc_Sy_compileTest_at_k10_2_0 (w_fi ws (n_v vs 0) 6) (w_fi ws (n_v vs 0) 8) f0 kz_0_6 kz_0_8)⟩
  refine ⟨(fun _ h => (by cases h)), [], trivial, ?_, (fun _ h => (by cases h))⟩
  rw [List.append_nil]
  exact List.forall_mem_cons.mpr ⟨⟨show (20 : Nat) < 100 from by decide, nf0⟩, (fun _ h => (by cases h))⟩
set_option maxHeartbeats 4000000 in
theorem vc_Sy_compileTest_at_k10_3_0 (x11 : Int) (x12 : Int) (k11 : 10 ≤ x11 ∧ x11 ≤ 10) (k12 : 0 ≤ x12 ∧ x12 ≤ 0) : (0 ≤ x11) ∧ ((0 ≤ x12) ∧ (((x11 * 65536) + x12) ≤ 851970)) := by
  first
    | omega
  
def o_Sy_compileTest_at_k10_3 : or_T := (46, 13, [(11, (0, 10, 10, [])), (12, (0, 0, 0, []))], [], [], [], [(20, [11, 12], [50, 0, 0, 2, 6, 0, 2, 0, 0, 1, 0, 2, 6, 0, 2, 0, 0, 1, 1, 0, 10, 4, 6, 6, 2, 1, 0, 0, 65536, 1, 1, 0, 851970])], [], [])
theorem oo_Sy_compileTest_at_k10_3 {kA : Nat → ClassId} : or_ok PRD kA GG o_Sy_compileTest_at_k10_3 := by
  refine or_mk fun A ta ws vs hD hth hl => ?_
  intro t11 k11 t12 k12
  have nf0 : fc_1 PRD (20, [11, 12], [50, 0, 0, 2, 6, 0, 2, 0, 0, 1, 0, 2, 6, 0, 2, 0, 0, 1, 1, 0, 10, 4, 6, 6, 2, 1, 0, 0, 65536, 1, 1, 0, 851970]) ws (vs) := ⟨nf_in hl rfl, sgq_493 (vc_Sy_compileTest_at_k10_3_0 (v_iv (n_v vs 11)) (v_iv (n_v vs 12)) k11 k12)⟩
  refine ⟨(fun _ h => (by cases h)), [], trivial, ?_, (fun _ h => (by cases h))⟩
  rw [List.append_nil]
  exact List.forall_mem_cons.mpr ⟨⟨show (20 : Nat) < 100 from by decide, nf0⟩, (fun _ h => (by cases h))⟩
set_option maxHeartbeats 4000000 in
theorem vc_Sy_compileTest_at_k10_4_0 (kind_0 : Int) (number_0 : Int) (f1 : (kind_0 ≠ 3) ∨ (number_0 ≤ 9999)) (kz_0_6 : 0 ≤ kind_0 ∧ kind_0 ≤ 127) (kz_0_8 : 0 ≤ number_0 ∧ number_0 ≤ 1000000) : (kind_0 ≠ 3) ∨ (number_0 ≤ 9999) := by
  first
    | omega
  
def o_Sy_compileTest_at_k10_4 : or_T := (41, 12, [(0, (2, 0, 0, [11]))], [(24, [0, 3], []), (20, [3], [50, 2, 0, 6, 8, 3, 7, 7, 3, 2, 0, 6, 0, 3, 0, 3, 2, 0, 8, 0, 9999])], [], [], [(20, [0], [50, 2, 0, 6, 8, 3, 7, 7, 3, 2, 0, 6, 0, 3, 0, 3, 2, 0, 8, 0, 9999])], [], [])
theorem oo_Sy_compileTest_at_k10_4 {kA : Nat → ClassId} : or_ok PRD kA GG o_Sy_compileTest_at_k10_4 := by
  refine or_mk fun A ta ws vs hD hth hl => ?_
  intro t0 r0 f0 f1
  replace f0 := shm_5 f0
  replace f1 := shm_1840 f1
  have q3 : n_v vs 3 = n_v vs 0 := f0.symm
  simp only [q3] at f1
  have kz_0_6 := fdq_313 hD hth r0
  have kz_0_8 := fdq_314 hD hth r0
  have nf0 : fc_1 PRD (20, [0], [50, 2, 0, 6, 8, 3, 7, 7, 3, 2, 0, 6, 0, 3, 0, 3, 2, 0, 8, 0, 9999]) ws (vs) := ⟨nf_in hl rfl, sgq_1840 (vc_Sy_compileTest_at_k10_4_0 (w_fi ws (n_v vs 0) 6) (w_fi ws (n_v vs 0) 8) f1 kz_0_6 kz_0_8)⟩
  refine ⟨(fun _ h => (by cases h)), [], trivial, ?_, (fun _ h => (by cases h))⟩
  rw [List.append_nil]
  exact List.forall_mem_cons.mpr ⟨⟨show (20 : Nat) < 100 from by decide, nf0⟩, (fun _ h => (by cases h))⟩
def n_Sy_compileTest_at_k10_an : List an_T := [(12, [(0, (2, 0, 0, [11])), (1, (0, 10, 10, [])), (2, (0, 0, 2000, []))], [], (0, 0), [(0, 0, 99988), (1, 5, 2000), (0, 0, 100000)], [], [((0, 3), (2, 0, 0, [109]))], [(2, 0, 0, [11]), (0, 10, 10, []), (2, 0, 0, [109])], 0, [], [(20, [3], [50, 2, 0, 6, 8, 3, 7, 7, 3, 2, 0, 6, 0, 3, 0, 3, 2, 0, 8, 0, 9999]), (24, [0, 3], [])])]
def t_Sy_compileTest_at_k10_ct : ct_L := [(1, 69, e_Sy_advance), (1, 128, e_Sy_emit), (10, 140, e_Sy_compileBoth_at_k10), (70, 114, e_Sy_wordIn_at_s5011), (106, 140, e_Sy_compileBoth_at_k10), (1000000, 143, en_ro [] (2, 0, 0, [5011]))]
set_option maxRecDepth 100000 in
theorem c_Sy_compileTest_at_k10 {l : Launch} {D : va_G} {kA : Nat → ClassId} (h_Sy_advance : ct_ok PRD l D kA GG y_Sy_advance z_Sy_advance e_Sy_advance) (h_Sy_compileBoth_at_k10 : ct_ok PRD l D kA GG y_Sy_compileBoth_at_k10 z_Sy_compileBoth_at_k10 e_Sy_compileBoth_at_k10) (h_Sy_emit : ct_ok PRD l D kA GG y_Sy_emit z_Sy_emit e_Sy_emit) (h_Sy_wordIn_at_s5011 : ct_ok PRD l D kA GG y_Sy_wordIn_at_s5011 z_Sy_wordIn_at_s5011 e_Sy_wordIn_at_s5011) : ct_ok PRD l D kA GG y_Sy_compileTest_at_k10 z_Sy_compileTest_at_k10 e_Sy_compileTest_at_k10 := chk_all_ok (FT := []) (PT := []) (CT := t_Sy_compileTest_at_k10_ct) (KT := []) (NT := []) (AN := n_Sy_compileTest_at_k10_an) (OT := [o_Sy_compileTest_at_k10_0, o_Sy_compileTest_at_k10_1, o_Sy_compileTest_at_k10_2, o_Sy_compileTest_at_k10_3, o_Sy_compileTest_at_k10_4]) 3 200 (List.forall_mem_cons.mpr ⟨oo_Sy_compileTest_at_k10_0, List.forall_mem_cons.mpr ⟨oo_Sy_compileTest_at_k10_1, List.forall_mem_cons.mpr ⟨oo_Sy_compileTest_at_k10_2, List.forall_mem_cons.mpr ⟨oo_Sy_compileTest_at_k10_3, List.forall_mem_cons.mpr ⟨oo_Sy_compileTest_at_k10_4, List.forall_mem_nil _⟩⟩⟩⟩⟩) (by decide +kernel) ⟨List.forall_mem_nil _, List.forall_mem_nil _, List.forall_mem_cons.mpr ⟨cl_virtual (y := y_Sy_advance) (ci := 11) rfl rfl ⟨_, _, rfl⟩ (by decide +kernel) h_Sy_advance wm_2158 wm_23 wm_2155 wm_2157 wv_10_10 ⟨by decide, by decide, by decide +kernel⟩ (by decide), List.forall_mem_cons.mpr ⟨cl_virtual (y := y_Sy_emit) (ci := 11) rfl rfl ⟨_, _, rfl⟩ (by decide +kernel) h_Sy_emit wm_2258 wm_23 wm_2255 wm_2257 wv_11_2 ⟨by decide, by decide, by decide +kernel⟩ (by decide), List.forall_mem_cons.mpr ⟨cl_virtual (y := y_Sy_compileBoth_at_k10) (ci := 11) rfl rfl ⟨_, _, rfl⟩ (by decide +kernel) h_Sy_compileBoth_at_k10 wm_2249 wm_23 wm_2246 wm_2248 wv_11_0 ⟨by decide, by decide, by decide +kernel⟩ (by decide), List.forall_mem_cons.mpr ⟨cl_virtual (y := y_Sy_wordIn_at_s5011) (ci := 11) rfl rfl ⟨_, _, rfl⟩ (by decide +kernel) h_Sy_wordIn_at_s5011 wm_2229 wm_23 wm_2226 wm_2228 wv_10_12 ⟨by decide, by decide, by decide +kernel⟩ (by decide), List.forall_mem_cons.mpr ⟨cl_virtual (y := y_Sy_compileBoth_at_k10) (ci := 11) rfl rfl ⟨_, _, rfl⟩ (by decide +kernel) h_Sy_compileBoth_at_k10 wm_2249 wm_23 wm_2246 wm_2248 wv_11_0 ⟨by decide, by decide, by decide +kernel⟩ (by decide), List.forall_mem_cons.mpr ⟨cl_ldc (own := "DrawingHouse$Styler") (idx := 143) (i := 11) (tx := "or ") (by decide +kernel) (by decide +kernel) (by decide +kernel), List.forall_mem_nil _⟩⟩⟩⟩⟩⟩, List.forall_mem_nil _, List.forall_mem_nil _, GG_pl⟩ (by decide +kernel)
def o_Sy_compileTest_at_k11_0 : or_T := (12, 5, [], [], [], [], [(24, [0, 0], [])], [], [])
theorem oo_Sy_compileTest_at_k11_0 {kA : Nat → ClassId} : or_ok PRD kA GG o_Sy_compileTest_at_k11_0 := by
  refine or_mk fun A ta ws vs hD hth hl => ?_
  have nf0 : fc_1 PRD (24, [0, 0], []) ws (vs) := by
    refine ⟨nf_in hl rfl, sgq_1 ?_⟩
    · show n_v vs 0 = n_v vs 0
      first | rfl | simp only [true_and]
  refine ⟨(fun _ h => (by cases h)), [], trivial, ?_, (fun _ h => (by cases h))⟩
  rw [List.append_nil]
  exact List.forall_mem_cons.mpr ⟨⟨show (24 : Nat) < 100 from by decide, nf0⟩, (fun _ h => (by cases h))⟩
set_option maxHeartbeats 4000000 in
theorem vc_Sy_compileTest_at_k11_1_0 (kind_0 : Int) (number_0 : Int) (f0 : (kind_0 ≠ 3) ∨ (number_0 ≤ 9999)) (kz_0_6 : 0 ≤ kind_0 ∧ kind_0 ≤ 127) (kz_0_8 : 0 ≤ number_0 ∧ number_0 ≤ 1000000) : (kind_0 ≠ 3) ∨ (number_0 ≤ 9999) := by
  first
    | omega
  
def o_Sy_compileTest_at_k11_1 : or_T := (56, 9, [(0, (2, 0, 0, [11]))], [(20, [3], [50, 2, 0, 6, 8, 3, 7, 7, 3, 2, 0, 6, 0, 3, 0, 3, 2, 0, 8, 0, 9999]), (24, [0, 3], [])], [], [], [(20, [0], [50, 2, 0, 6, 8, 3, 7, 7, 3, 2, 0, 6, 0, 3, 0, 3, 2, 0, 8, 0, 9999])], [], [])
theorem oo_Sy_compileTest_at_k11_1 {kA : Nat → ClassId} : or_ok PRD kA GG o_Sy_compileTest_at_k11_1 := by
  refine or_mk fun A ta ws vs hD hth hl => ?_
  intro t0 r0 f0 f1
  replace f0 := shm_1840 f0
  replace f1 := shm_5 f1
  have q3 : n_v vs 3 = n_v vs 0 := f1.symm
  simp only [q3] at f0
  have kz_0_6 := fdq_313 hD hth r0
  have kz_0_8 := fdq_314 hD hth r0
  have nf0 : fc_1 PRD (20, [0], [50, 2, 0, 6, 8, 3, 7, 7, 3, 2, 0, 6, 0, 3, 0, 3, 2, 0, 8, 0, 9999]) ws (vs) := ⟨nf_in hl rfl, sgq_1840 (vc_Sy_compileTest_at_k11_1_0 (w_fi ws (n_v vs 0) 6) (w_fi ws (n_v vs 0) 8) f0 kz_0_6 kz_0_8)⟩
  refine ⟨(fun _ h => (by cases h)), [], trivial, ?_, (fun _ h => (by cases h))⟩
  rw [List.append_nil]
  exact List.forall_mem_cons.mpr ⟨⟨show (20 : Nat) < 100 from by decide, nf0⟩, (fun _ h => (by cases h))⟩
