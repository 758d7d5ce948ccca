def n_Sy_compileValue_at_k8_an : List an_T := []
def t_Sy_compileValue_at_k8_ct : ct_L := [(1, 69, e_Sy_advance), (1, 118, e_Sy_fail), (1, 128, e_Sy_emit), (1, 152, e_Sy_closes), (91, 137, e_Sy_compileSum_at_k9), (169, 114, e_Sy_wordIn_at_s5007), (169, 114, e_Sy_wordIn_at_s5004)]
set_option maxRecDepth 100000 in
theorem c_Sy_compileValue_at_k8 {l : Launch} {D : va_G} {kA : Nat → ClassId} (h_Sy_advance : ct_ok l D kA GG y_Sy_advance z_Sy_advance e_Sy_advance) (h_Sy_closes : ct_ok l D kA GG y_Sy_closes z_Sy_closes e_Sy_closes) (h_Sy_compileSum_at_k9 : ct_ok l D kA GG y_Sy_compileSum_at_k9 z_Sy_compileSum_at_k9 e_Sy_compileSum_at_k9) (h_Sy_emit : ct_ok l D kA GG y_Sy_emit z_Sy_emit e_Sy_emit) (h_Sy_fail : ct_ok l D kA GG y_Sy_fail z_Sy_fail e_Sy_fail) (h_Sy_wordIn_at_s5004 : ct_ok l D kA GG y_Sy_wordIn_at_s5004 z_Sy_wordIn_at_s5004 e_Sy_wordIn_at_s5004) (h_Sy_wordIn_at_s5007 : ct_ok l D kA GG y_Sy_wordIn_at_s5007 z_Sy_wordIn_at_s5007 e_Sy_wordIn_at_s5007) : ct_ok l D kA GG y_Sy_compileValue_at_k8 z_Sy_compileValue_at_k8 e_Sy_compileValue_at_k8 := chk_all_ok (FT := [(31, 11, 6), (37, 11, 8), (42, 11, 9)]) (PT := []) (CT := t_Sy_compileValue_at_k8_ct) (KT := []) (NT := []) (AN := n_Sy_compileValue_at_k8_an) (OT := []) 0 684 (List.forall_mem_nil _) (by decide +kernel) ⟨List.forall_mem_cons.mpr ⟨gf_Sy_31, List.forall_mem_cons.mpr ⟨gf_Sy_37, List.forall_mem_cons.mpr ⟨gf_Sy_42, List.forall_mem_nil _⟩⟩⟩, List.forall_mem_nil _, List.forall_mem_cons.mpr ⟨cl_virtual (y := y_Sy_advance) (ci := 11) rfl rfl ⟨_, _, rfl⟩ (by decide +kernel) h_Sy_advance wm_2158 wm_23 wm_2155 wm_2157 wv_10_10 ⟨by decide, by decide, by decide +kernel⟩ (by decide), List.forall_mem_cons.mpr ⟨cl_virtual (y := y_Sy_fail) (ci := 11) rfl rfl ⟨_, _, rfl⟩ (by decide +kernel) h_Sy_fail wm_2239 wm_23 wm_2236 wm_2238 wv_10_14 ⟨by decide, by decide, by decide +kernel⟩ (by decide), List.forall_mem_cons.mpr ⟨cl_virtual (y := y_Sy_emit) (ci := 11) rfl rfl ⟨_, _, rfl⟩ (by decide +kernel) h_Sy_emit wm_2258 wm_23 wm_2255 wm_2257 wv_11_2 ⟨by decide, by decide, by decide +kernel⟩ (by decide), List.forall_mem_cons.mpr ⟨cl_virtual (y := y_Sy_closes) (ci := 11) rfl rfl ⟨_, _, rfl⟩ (by decide +kernel) h_Sy_closes wm_2262 wm_23 wm_2259 wm_2261 wv_11_3 ⟨by decide, by decide, by decide +kernel⟩ (by decide), List.forall_mem_cons.mpr ⟨cl_virtual (y := y_Sy_compileSum_at_k9) (ci := 11) rfl rfl ⟨_, _, rfl⟩ (by decide +kernel) h_Sy_compileSum_at_k9 wm_2266 wm_23 wm_2263 wm_2265 wv_11_4 ⟨by decide, by decide, by decide +kernel⟩ (by decide), List.forall_mem_cons.mpr ⟨cl_virtual (y := y_Sy_wordIn_at_s5007) (ci := 11) rfl rfl ⟨_, _, rfl⟩ (by decide +kernel) h_Sy_wordIn_at_s5007 wm_2229 wm_23 wm_2226 wm_2228 wv_10_12 ⟨by decide, by decide, by decide +kernel⟩ (by decide), List.forall_mem_cons.mpr ⟨cl_virtual (y := y_Sy_wordIn_at_s5004) (ci := 11) rfl rfl ⟨_, _, rfl⟩ (by decide +kernel) h_Sy_wordIn_at_s5004 wm_2229 wm_23 wm_2226 wm_2228 wv_10_12 ⟨by decide, by decide, by decide +kernel⟩ (by decide), List.forall_mem_nil _⟩⟩⟩⟩⟩⟩⟩, List.forall_mem_nil _, List.forall_mem_nil _, GG_pl⟩ (by decide +kernel)
def n_Sy_compileValue_at_k9_an : List an_T := []
def t_Sy_compileValue_at_k9_ct : ct_L := [(1, 69, e_Sy_advance), (1, 118, e_Sy_fail), (1, 128, e_Sy_emit), (1, 152, e_Sy_closes), (91, 137, e_Sy_compileSum_at_k10), (169, 114, e_Sy_wordIn_at_s5007), (169, 114, e_Sy_wordIn_at_s5004)]
set_option maxRecDepth 100000 in
theorem c_Sy_compileValue_at_k9 {l : Launch} {D : va_G} {kA : Nat → ClassId} (h_Sy_advance : ct_ok l D kA GG y_Sy_advance z_Sy_advance e_Sy_advance) (h_Sy_closes : ct_ok l D kA GG y_Sy_closes z_Sy_closes e_Sy_closes) (h_Sy_compileSum_at_k10 : ct_ok l D kA GG y_Sy_compileSum_at_k10 z_Sy_compileSum_at_k10 e_Sy_compileSum_at_k10) (h_Sy_emit : ct_ok l D kA GG y_Sy_emit z_Sy_emit e_Sy_emit) (h_Sy_fail : ct_ok l D kA GG y_Sy_fail z_Sy_fail e_Sy_fail) (h_Sy_wordIn_at_s5004 : ct_ok l D kA GG y_Sy_wordIn_at_s5004 z_Sy_wordIn_at_s5004 e_Sy_wordIn_at_s5004) (h_Sy_wordIn_at_s5007 : ct_ok l D kA GG y_Sy_wordIn_at_s5007 z_Sy_wordIn_at_s5007 e_Sy_wordIn_at_s5007) : ct_ok l D kA GG y_Sy_compileValue_at_k9 z_Sy_compileValue_at_k9 e_Sy_compileValue_at_k9 := chk_all_ok (FT := [(31, 11, 6), (37, 11, 8), (42, 11, 9)]) (PT := []) (CT := t_Sy_compileValue_at_k9_ct) (KT := []) (NT := []) (AN := n_Sy_compileValue_at_k9_an) (OT := []) 0 684 (List.forall_mem_nil _) (by decide +kernel) ⟨List.forall_mem_cons.mpr ⟨gf_Sy_31, List.forall_mem_cons.mpr ⟨gf_Sy_37, List.forall_mem_cons.mpr ⟨gf_Sy_42, List.forall_mem_nil _⟩⟩⟩, List.forall_mem_nil _, List.forall_mem_cons.mpr ⟨cl_virtual (y := y_Sy_advance) (ci := 11) rfl rfl ⟨_, _, rfl⟩ (by decide +kernel) h_Sy_advance wm_2158 wm_23 wm_2155 wm_2157 wv_10_10 ⟨by decide, by decide, by decide +kernel⟩ (by decide), List.forall_mem_cons.mpr ⟨cl_virtual (y := y_Sy_fail) (ci := 11) rfl rfl ⟨_, _, rfl⟩ (by decide +kernel) h_Sy_fail wm_2239 wm_23 wm_2236 wm_2238 wv_10_14 ⟨by decide, by decide, by decide +kernel⟩ (by decide), List.forall_mem_cons.mpr ⟨cl_virtual (y := y_Sy_emit) (ci := 11) rfl rfl ⟨_, _, rfl⟩ (by decide +kernel) h_Sy_emit wm_2258 wm_23 wm_2255 wm_2257 wv_11_2 ⟨by decide, by decide, by decide +kernel⟩ (by decide), List.forall_mem_cons.mpr ⟨cl_virtual (y := y_Sy_closes) (ci := 11) rfl rfl ⟨_, _, rfl⟩ (by decide +kernel) h_Sy_closes wm_2262 wm_23 wm_2259 wm_2261 wv_11_3 ⟨by decide, by decide, by decide +kernel⟩ (by decide), List.forall_mem_cons.mpr ⟨cl_virtual (y := y_Sy_compileSum_at_k10) (ci := 11) rfl rfl ⟨_, _, rfl⟩ (by decide +kernel) h_Sy_compileSum_at_k10 wm_2266 wm_23 wm_2263 wm_2265 wv_11_4 ⟨by decide, by decide, by decide +kernel⟩ (by decide), List.forall_mem_cons.mpr ⟨cl_virtual (y := y_Sy_wordIn_at_s5007) (ci := 11) rfl rfl ⟨_, _, rfl⟩ (by decide +kernel) h_Sy_wordIn_at_s5007 wm_2229 wm_23 wm_2226 wm_2228 wv_10_12 ⟨by decide, by decide, by decide +kernel⟩ (by decide), List.forall_mem_cons.mpr ⟨cl_virtual (y := y_Sy_wordIn_at_s5004) (ci := 11) rfl rfl ⟨_, _, rfl⟩ (by decide +kernel) h_Sy_wordIn_at_s5004 wm_2229 wm_23 wm_2226 wm_2228 wv_10_12 ⟨by decide, by decide, by decide +kernel⟩ (by decide), List.forall_mem_nil _⟩⟩⟩⟩⟩⟩⟩, List.forall_mem_nil _, List.forall_mem_nil _, GG_pl⟩ (by decide +kernel)
def n_Em_embed_an : List an_T := [(50, [(0, (2, 0, 0, [1])), (1, (2, 0, 0, [5, 149])), (2, (0, 0, 72, [])), (3, (0, 0, 72, []))], [], (0, 0), [(0, 0, 99950), (1, 3, 72), (0, 0, 100000), (0, 0, 0), (0, 0, 0)], [], [((0, 0), (2, 0, 0, [5, 149]))], [], 0, [], []), (65, [(0, (2, 0, 0, [1])), (1, (2, 0, 0, [5, 149])), (2, (0, 1, 72, [])), (3, (0, 0, 71, [])), (4, (0, -2147483648, 2147483647, [])), (5, (0, 0, 72, []))], [], (0, 0), [(0, 0, 99950), (1, 3, 72), (0, 0, 99935), (1, 5, 72), (0, 0, 100000)], [], [((0, 0), (2, 0, 0, [5, 149]))], [], 0, [], []), (127, [(0, (2, 0, 0, [1])), (1, (2, 0, 0, [5, 149])), (2, (0, 0, 72, [])), (3, (0, 0, 25, []))], [], (0, 0), [(0, 0, 99873), (1, 3, 25), (0, 0, 100000), (0, 0, 0), (0, 0, 0)], [], [((0, 0), (2, 0, 0, [5, 149]))], [], 0, [], [])]
def t_Em_embed_ct : ct_L := [(1, 142, e_Em_beginBlock), (1, 145, e_Em_pickPiece), (1, 149, e_Em_findWay), (1, 153, e_Em_splitCycle), (1, 156, e_Em_turnByCycles), (1, 159, e_Em_joinBlocksAt), (1, 163, e_Ne_traceFaces), (135, 136, e_Fa_blocksOf_at_Netail_Nptail_Nehead_Nphead_Nenear_Npnear_Emblock)]
set_option maxRecDepth 100000 in
theorem c_Em_embed {l : Launch} {D : va_G} {kA : Nat → ClassId} (h_Em_beginBlock : ct_ok l D kA GG y_Em_beginBlock z_Em_beginBlock e_Em_beginBlock) (h_Em_findWay : ct_ok l D kA GG y_Em_findWay z_Em_findWay e_Em_findWay) (h_Em_joinBlocksAt : ct_ok l D kA GG y_Em_joinBlocksAt z_Em_joinBlocksAt e_Em_joinBlocksAt) (h_Em_pickPiece : ct_ok l D kA GG y_Em_pickPiece z_Em_pickPiece e_Em_pickPiece) (h_Em_splitCycle : ct_ok l D kA GG y_Em_splitCycle z_Em_splitCycle e_Em_splitCycle) (h_Em_turnByCycles : ct_ok l D kA GG y_Em_turnByCycles z_Em_turnByCycles e_Em_turnByCycles) (h_Fa_blocksOf_at_Netail_Nptail_Nehead_Nphead_Nenear_Npnear_Emblock : ct_ok l D kA GG y_Fa_blocksOf_at_Netail_Nptail_Nehead_Nphead_Nenear_Npnear_Emblock z_Fa_blocksOf_at_Netail_Nptail_Nehead_Nphead_Nenear_Npnear_Emblock e_Fa_blocksOf_at_Netail_Nptail_Nehead_Nphead_Nenear_Npnear_Emblock) (h_Ne_traceFaces : ct_ok l D kA GG y_Ne_traceFaces z_Ne_traceFaces e_Ne_traceFaces) : ct_ok l D kA GG y_Em_embed z_Em_embed e_Em_embed := chk_all_ok (FT := [(9, 1, 0), (21, 1, 2), (63, 1, 15), (85, 5, 5), (114, 5, 9), (133, 5, 6), (134, 5, 7), (135, 5, 8)]) (PT := [(9, 1, 0, .object "DrawingHouse$Net")]) (CT := t_Em_embed_ct) (KT := []) (NT := []) (AN := n_Em_embed_an) (OT := []) 5 348 (List.forall_mem_nil _) (by decide +kernel) ⟨List.forall_mem_cons.mpr ⟨gf_Em_9, List.forall_mem_cons.mpr ⟨gf_Em_21, List.forall_mem_cons.mpr ⟨gf_Em_63, List.forall_mem_cons.mpr ⟨gf_Em_85, List.forall_mem_cons.mpr ⟨gf_Em_114, List.forall_mem_cons.mpr ⟨gf_Em_133, List.forall_mem_cons.mpr ⟨gf_Em_134, List.forall_mem_cons.mpr ⟨gf_Em_135, List.forall_mem_nil _⟩⟩⟩⟩⟩⟩⟩⟩, List.forall_mem_cons.mpr ⟨pf_Em_9, List.forall_mem_nil _⟩, List.forall_mem_cons.mpr ⟨cl_virtual (y := y_Em_beginBlock) (ci := 1) rfl rfl ⟨_, _, rfl⟩ (by decide +kernel) h_Em_beginBlock wm_1074 wm_5 wm_1071 wm_1073 wv_3_7 ⟨by decide, by decide, by decide +kernel⟩ (by decide), List.forall_mem_cons.mpr ⟨cl_virtual (y := y_Em_pickPiece) (ci := 1) rfl rfl ⟨_, _, rfl⟩ (by decide +kernel) h_Em_pickPiece wm_1093 wm_5 wm_1090 wm_1092 wv_3_10 ⟨by decide, by decide, by decide +kernel⟩ (by decide), List.forall_mem_cons.mpr ⟨cl_virtual (y := y_Em_findWay) (ci := 1) rfl rfl ⟨_, _, rfl⟩ (by decide +kernel) h_Em_findWay wm_1108 wm_5 wm_1105 wm_1107 wv_3_13 ⟨by decide, by decide, by decide +kernel⟩ (by decide), List.forall_mem_cons.mpr ⟨cl_virtual (y := y_Em_splitCycle) (ci := 1) rfl rfl ⟨_, _, rfl⟩ (by decide +kernel) h_Em_splitCycle wm_1113 wm_5 wm_1110 wm_1112 wv_3_14 ⟨by decide, by decide, by decide +kernel⟩ (by decide), List.forall_mem_cons.mpr ⟨cl_virtual (y := y_Em_turnByCycles) (ci := 1) rfl rfl ⟨_, _, rfl⟩ (by decide +kernel) h_Em_turnByCycles wm_1134 wm_5 wm_1131 wm_1133 wv_4_3 ⟨by decide, by decide, by decide +kernel⟩ (by decide), List.forall_mem_cons.mpr ⟨cl_virtual (y := y_Em_joinBlocksAt) (ci := 1) rfl rfl ⟨_, _, rfl⟩ (by decide +kernel) h_Em_joinBlocksAt wm_1142 wm_5 wm_1139 wm_1141 wv_4_4 ⟨by decide, by decide, by decide +kernel⟩ (by decide), List.forall_mem_cons.mpr ⟨cl_virtual (y := y_Ne_traceFaces) (ci := 5) rfl rfl ⟨_, _, rfl⟩ (by decide +kernel) h_Ne_traceFaces wm_1150 wm_6 wm_1147 wm_1148 wm_1149 ⟨by decide, by decide, by decide +kernel⟩ (by decide), List.forall_mem_cons.mpr ⟨cl_static (y := y_Fa_blocksOf_at_Netail_Nptail_Nehead_Nphead_Nenear_Npnear_Emblock) h_Fa_blocksOf_at_Netail_Nptail_Nehead_Nphead_Nenear_Npnear_Emblock wm_830 wm_7 wm_1070 wm_829 ⟨by decide, by decide, by decide +kernel⟩ (by decide), List.forall_mem_nil _⟩⟩⟩⟩⟩⟩⟩⟩, List.forall_mem_nil _, List.forall_mem_nil _, GG_pl⟩ (by decide +kernel)
def n_Mo_bar_an : List an_T := [(11, [(0, (2, 0, 0, [150])), (1, (0, -1, 79, []))], [], (0, 0), [(0, 0, 99989), (2, 1, -1), (0, 0, 100000), (0, 0, 0), (0, 0, 0)], [], [], [], 0, [], []), (49, [(0, (2, 0, 0, [150])), (1, (0, 0, 80, []))], [], (0, 0), [(0, 0, 99951), (1, 1, 80), (0, 0, 100000), (0, 0, 0), (0, 0, 0)], [(2, 1, -1000000000000, 0)], [((0, 58), (0, 0, 80, []))], [], 0, [], []), (99, [(0, (2, 0, 0, [150])), (1, (0, 0, 25, [])), (2, (0, 0, 25, []))], [], (0, 0), [(0, 0, 99901), (1, 2, 25), (0, 0, 100000), (0, 0, 0), (0, 0, 0)], [(1, 2, -1000000000000, 0)], [], [], 0, [], []), (112, [(0, (2, 0, 0, [150])), (1, (0, 0, 24, [])), (2, (0, 0, 24, [])), (3, (0, 0, 80, [])), (4, (0, 0, 80, []))], [], (0, 0), [(0, 0, 99901), (1, 2, 25), (0, 0, 99888), (1, 4, 80), (0, 0, 100000)], [(1, 2, -1000000000000, 0), (3, 4, -1000000000000, 0)], [], [], 0, [], [])]
def t_Mo_bar_ct : ct_L := [(1, 600, e_Mo_at1), (1, 689, e_Mo_plane), (1, 692, e_Mo_embed)]
set_option maxRecDepth 100000 in
theorem c_Mo_bar {l : Launch} {D : va_G} {kA : Nat → ClassId} (h_Mo_at1 : ct_ok l D kA GG y_Mo_at1 z_Mo_at1 e_Mo_at1) (h_Mo_embed : ct_ok l D kA GG y_Mo_embed z_Mo_embed e_Mo_embed) (h_Mo_plane : ct_ok l D kA GG y_Mo_plane z_Mo_plane e_Mo_plane) : ct_ok l D kA GG y_Mo_bar z_Mo_bar e_Mo_bar := chk_all_ok (FT := [(63, 13, 35), (117, 13, 60), (594, 13, 31), (597, 13, 32), (695, 13, 58)]) (PT := [(695, 13, 58, .int), (698, 13, 59, .int)]) (CT := t_Mo_bar_ct) (KT := []) (NT := []) (AN := n_Mo_bar_an) (OT := []) 5 468 (List.forall_mem_nil _) (by decide +kernel) ⟨List.forall_mem_cons.mpr ⟨gf_Mo_63, List.forall_mem_cons.mpr ⟨gf_Mo_117, List.forall_mem_cons.mpr ⟨gf_Mo_594, List.forall_mem_cons.mpr ⟨gf_Mo_597, List.forall_mem_cons.mpr ⟨gf_Mo_695, List.forall_mem_nil _⟩⟩⟩⟩⟩, List.forall_mem_cons.mpr ⟨pf_Mo_695, List.forall_mem_cons.mpr ⟨pf_Mo_698, List.forall_mem_nil _⟩⟩, List.forall_mem_cons.mpr ⟨cl_virtual (y := y_Mo_at1) (ci := 13) rfl rfl ⟨_, _, rfl⟩ (by decide +kernel) h_Mo_at1 wm_3159 wm_9 wm_3156 wm_3158 wv_14_15 ⟨by decide, by decide, by decide +kernel⟩ (by decide), List.forall_mem_cons.mpr ⟨cl_virtual (y := y_Mo_plane) (ci := 13) rfl rfl ⟨_, _, rfl⟩ (by decide +kernel) h_Mo_plane wm_3147 wm_9 wm_3144 wm_3146 wv_14_12 ⟨by decide, by decide, by decide +kernel⟩ (by decide), List.forall_mem_cons.mpr ⟨cl_virtual (y := y_Mo_embed) (ci := 13) rfl rfl ⟨_, _, rfl⟩ (by decide +kernel) h_Mo_embed wm_3151 wm_9 wm_3148 wm_3150 wv_14_13 ⟨by decide, by decide, by decide +kernel⟩ (by decide), List.forall_mem_nil _⟩⟩⟩, List.forall_mem_nil _, List.forall_mem_nil _, GG_pl⟩ (by decide +kernel)
def o_Mo_isOuter_0 : or_T := (6, 2, [(0, (2, 0, 0, [150])), (1, (0, 0, 0, []))], [(20, [0], [30, 48, 1, 1, 32]), (20, [0], [30, 24, 1, 1, 31])], [], [], [(20, [0, 1], [30, 48, 1, 1, 32, -1, 0, 0])], [], [])
theorem oo_Mo_isOuter_0 {kA : Nat → ClassId} : or_ok kA GG o_Mo_isOuter_0 := by
  intro A ta ws vs hD hth hl hk hds hf
  have hl : vs.length = 2 := hl
  have hk : ∀ q ∈ ([(0, (2, 0, 0, [150])), (1, (0, 0, 0, []))] : List (Nat × tv_T)), tv_ok ta q.2 (n_v vs q.1) := hk
  obtain ⟨t0, hk⟩ := List.forall_mem_cons.mp hk
  have t0 : tv_ok ta (2, 0, 0, [150]) (n_v vs 0) := t0
  have r0 : ta (v_ad (n_v vs 0)) = some 150 := tv_rg t0
  obtain ⟨t1, hk⟩ := List.forall_mem_cons.mp hk
  have t1 : tv_ok ta (0, 0, 0, []) (n_v vs 1) := t1
  have k1 : 0 ≤ v_iv (n_v vs 1) ∧ v_iv (n_v vs 1) ≤ 0 := tv_rng t1
  have hf : fc_ok [(20, [0], [30, 48, 1, 1, 32]), (20, [0], [30, 24, 1, 1, 31])] ta ws vs := hf
  obtain ⟨f0, hf⟩ := fc_un (show (20 : Nat) < 100 from by decide) hf
  have f0 : 1 * w_fi ws (n_v vs 0) 32 + 0 ≤ 48 := f0
  obtain ⟨f1, hf⟩ := fc_un (show (20 : Nat) < 100 from by decide) hf
  have f1 : 1 * w_fi ws (n_v vs 0) 31 + 0 ≤ 24 := f1
  have kz_0_31 : 0 ≤ w_fi ws (n_v vs 0) 31 ∧ w_fi ws (n_v vs 0) 31 ≤ 25 := tv_rng (th_fd hD hth r0 (g := GG_150) rfl (k := 31) (t := (0, 0, 25, [])) rfl rfl)
  have kz_0_32 : 0 ≤ w_fi ws (n_v vs 0) 32 ∧ w_fi ws (n_v vs 0) 32 ≤ 80 := tv_rng (th_fd hD hth r0 (g := GG_150) rfl (k := 32) (t := (0, 0, 80, [])) rfl rfl)
  have nf0 : fc_1 (20, [0, 1], [30, 48, 1, 1, 32, -1, 0, 0]) ws (vs) := by
    refine ⟨fun n hn => ?_, ?_⟩
    · have hn : n ∈ [0, 1] := hn
      rw [hl]
      simp only [List.mem_cons, List.not_mem_nil, or_false] at hn
      show n < 2; omega
    · show 1 * w_fi ws (n_v vs 0) 32 + ((-1) * v_iv (n_v vs 1) + 0) ≤ 48
      omega
  refine ⟨(fun _ h => (by cases h)), [], trivial, ?_, (fun _ h => (by cases h))⟩
  rw [List.append_nil]
  exact List.forall_mem_cons.mpr ⟨⟨show (20 : Nat) < 100 from by decide, nf0⟩, (fun _ h => (by cases h))⟩
def o_Mo_isOuter_1 : or_T := (68, 5, [(0, (2, 0, 0, [150])), (1, (0, 0, 24, [])), (3, (0, 0, 24, [])), (4, (0, 0, 25, []))], [(9, [4, 0], [31]), (7, [1, 3], [3]), (20, [3, 0], [30, 0, 1, 0, 0, -1, 3, 2005000]), (20, [3, 0], [30, 0, -1, 0, 0, 1, 3, 2005000]), (20, [0, 1], [30, 48, 1, 1, 32, -1, 0, 0]), (20, [0], [30, 24, 1, 1, 31])], [(4, (0, 0, 24, []))], [], [], [], [(1, 3, 0, 4294967296)])
theorem oo_Mo_isOuter_1 {kA : Nat → ClassId} : or_ok kA GG o_Mo_isOuter_1 := by
  intro A ta ws vs hD hth hl hk hds hf
  have hl : vs.length = 5 := hl
  have hk : ∀ q ∈ ([(0, (2, 0, 0, [150])), (1, (0, 0, 24, [])), (3, (0, 0, 24, [])), (4, (0, 0, 25, []))] : List (Nat × tv_T)), tv_ok ta q.2 (n_v vs q.1) := hk
  obtain ⟨t0, hk⟩ := List.forall_mem_cons.mp hk
  have t0 : tv_ok ta (2, 0, 0, [150]) (n_v vs 0) := t0
  have r0 : ta (v_ad (n_v vs 0)) = some 150 := tv_rg t0
  obtain ⟨t1, hk⟩ := List.forall_mem_cons.mp hk
  have t1 : tv_ok ta (0, 0, 24, []) (n_v vs 1) := t1
  have k1 : 0 ≤ v_iv (n_v vs 1) ∧ v_iv (n_v vs 1) ≤ 24 := tv_rng t1
  obtain ⟨t3, hk⟩ := List.forall_mem_cons.mp hk
  have t3 : tv_ok ta (0, 0, 24, []) (n_v vs 3) := t3
  have k3 : 0 ≤ v_iv (n_v vs 3) ∧ v_iv (n_v vs 3) ≤ 24 := tv_rng t3
  obtain ⟨t4, hk⟩ := List.forall_mem_cons.mp hk
  have t4 : tv_ok ta (0, 0, 25, []) (n_v vs 4) := t4
  have k4 : 0 ≤ v_iv (n_v vs 4) ∧ v_iv (n_v vs 4) ≤ 25 := tv_rng t4
  have hds : ∀ q ∈ ([(1, 3, 0, 4294967296)] : List of_T), n_iv vs q.2.1 + q.2.2.1 ≤ n_iv vs q.1 ∧ n_iv vs q.1 ≤ n_iv vs q.2.1 + q.2.2.2 := hds
  obtain ⟨d0, hds⟩ := List.forall_mem_cons.mp hds
  have d0 : v_iv (n_v vs 3) + 0 ≤ v_iv (n_v vs 1) ∧ v_iv (n_v vs 1) ≤ v_iv (n_v vs 3) + 4294967296 := d0
  have hf : fc_ok [(9, [4, 0], [31]), (7, [1, 3], [3]), (20, [3, 0], [30, 0, 1, 0, 0, -1, 3, 2005000]), (20, [3, 0], [30, 0, -1, 0, 0, 1, 3, 2005000]), (20, [0, 1], [30, 48, 1, 1, 32, -1, 0, 0]), (20, [0], [30, 24, 1, 1, 31])] ta ws vs := hf
  obtain ⟨f0, hf⟩ := fc_un (show (9 : Nat) < 100 from by decide) hf
  have f0 : n_v vs 4 = w_fd ws (v_ad (n_v vs 0)) 31 := f0
  obtain ⟨f1, hf⟩ := fc_un (show (7 : Nat) < 100 from by decide) hf
  have f1 : v_iv (n_v vs 3) ≤ v_iv (n_v vs 1) := f1
  obtain ⟨f2, hf⟩ := fc_un (show (20 : Nat) < 100 from by decide) hf
  have f2 : 1 * v_iv (n_v vs 3) + ((-1) * w_el ws (w_ar ws (n_v vs 0) 2) (w_fi ws (n_v vs 0) 5 + 0).toNat + 0) ≤ 0 := f2
  obtain ⟨f3, hf⟩ := fc_un (show (20 : Nat) < 100 from by decide) hf
  have f3 : (-1) * v_iv (n_v vs 3) + (1 * w_el ws (w_ar ws (n_v vs 0) 2) (w_fi ws (n_v vs 0) 5 + 0).toNat + 0) ≤ 0 := f3
  obtain ⟨f4, hf⟩ := fc_un (show (20 : Nat) < 100 from by decide) hf
  have f4 : 1 * w_fi ws (n_v vs 0) 32 + ((-1) * v_iv (n_v vs 1) + 0) ≤ 48 := f4
  obtain ⟨f5, hf⟩ := fc_un (show (20 : Nat) < 100 from by decide) hf
  have f5 : 1 * w_fi ws (n_v vs 0) 31 + 0 ≤ 24 := f5
  have cr_0_2 : ta (w_ar ws (n_v vs 0) 2) = some 152 := tv_rg (th_fd hD hth r0 (g := GG_150) rfl (k := 2) (t := (2, 0, 0, [152])) rfl rfl)
  have g0 : v_iv (n_v vs 4) = w_fi ws (n_v vs 0) 31 := congrArg v_iv f0
  have kz_0_31 : 0 ≤ w_fi ws (n_v vs 0) 31 ∧ w_fi ws (n_v vs 0) 31 ≤ 25 := tv_rng (th_fd hD hth r0 (g := GG_150) rfl (k := 31) (t := (0, 0, 25, [])) rfl rfl)
  have kz_0_32 : 0 ≤ w_fi ws (n_v vs 0) 32 ∧ w_fi ws (n_v vs 0) 32 ≤ 80 := tv_rng (th_fd hD hth r0 (g := GG_150) rfl (k := 32) (t := (0, 0, 80, [])) rfl rfl)
  have rf4 : tv_ok ta (0, 0, 24, []) (n_v vs 4) := tv_in t4 (by omega) (by omega)
  refine ⟨List.forall_mem_cons.mpr ⟨rf4, (fun _ h => (by cases h))⟩, [], trivial, ?_, (fun _ h => (by cases h))⟩
  rw [List.append_nil]
  exact (fun _ h => (by cases h))
def o_Mo_isOuter_2 : or_T := (22, 5, [(0, (2, 0, 0, [150])), (1, (0, 0, 23, [])), (2, (0, 0, 80, [])), (3, (0, 1, 24, []))], [(9, [2, 0], [32]), (7, [1, 3], [2]), (20, [3, 0], [30, 0, 1, 0, 0, -1, 3, 2005000]), (20, [3, 0], [30, 0, -1, 0, 0, 1, 3, 2005000]), (20, [0, 1], [30, 48, 1, 1, 32, -1, 0, 0]), (20, [0], [30, 24, 1, 1, 31])], [(2, (0, 0, 71, []))], [], [], [], [(1, 3, -4294967296, -1), (1, 2, -4294967296, 0), (2, 1, -4294967296, 80)])
theorem oo_Mo_isOuter_2 {kA : Nat → ClassId} : or_ok kA GG o_Mo_isOuter_2 := by
  intro A ta ws vs hD hth hl hk hds hf
  have hl : vs.length = 5 := hl
  have hk : ∀ q ∈ ([(0, (2, 0, 0, [150])), (1, (0, 0, 23, [])), (2, (0, 0, 80, [])), (3, (0, 1, 24, []))] : List (Nat × tv_T)), tv_ok ta q.2 (n_v vs q.1) := hk
  obtain ⟨t0, hk⟩ := List.forall_mem_cons.mp hk
  have t0 : tv_ok ta (2, 0, 0, [150]) (n_v vs 0) := t0
  have r0 : ta (v_ad (n_v vs 0)) = some 150 := tv_rg t0
  obtain ⟨t1, hk⟩ := List.forall_mem_cons.mp hk
  have t1 : tv_ok ta (0, 0, 23, []) (n_v vs 1) := t1
  have k1 : 0 ≤ v_iv (n_v vs 1) ∧ v_iv (n_v vs 1) ≤ 23 := tv_rng t1
  obtain ⟨t2, hk⟩ := List.forall_mem_cons.mp hk
  have t2 : tv_ok ta (0, 0, 80, []) (n_v vs 2) := t2
  have k2 : 0 ≤ v_iv (n_v vs 2) ∧ v_iv (n_v vs 2) ≤ 80 := tv_rng t2
  obtain ⟨t3, hk⟩ := List.forall_mem_cons.mp hk
  have t3 : tv_ok ta (0, 1, 24, []) (n_v vs 3) := t3
  have k3 : 1 ≤ v_iv (n_v vs 3) ∧ v_iv (n_v vs 3) ≤ 24 := tv_rng t3
  have hds : ∀ q ∈ ([(1, 3, -4294967296, -1), (1, 2, -4294967296, 0), (2, 1, -4294967296, 80)] : List of_T), n_iv vs q.2.1 + q.2.2.1 ≤ n_iv vs q.1 ∧ n_iv vs q.1 ≤ n_iv vs q.2.1 + q.2.2.2 := hds
  obtain ⟨d0, hds⟩ := List.forall_mem_cons.mp hds
  have d0 : v_iv (n_v vs 3) + (-4294967296) ≤ v_iv (n_v vs 1) ∧ v_iv (n_v vs 1) ≤ v_iv (n_v vs 3) + (-1) := d0
  obtain ⟨d1, hds⟩ := List.forall_mem_cons.mp hds
  have d1 : v_iv (n_v vs 2) + (-4294967296) ≤ v_iv (n_v vs 1) ∧ v_iv (n_v vs 1) ≤ v_iv (n_v vs 2) + 0 := d1
  obtain ⟨d2, hds⟩ := List.forall_mem_cons.mp hds
  have d2 : v_iv (n_v vs 1) + (-4294967296) ≤ v_iv (n_v vs 2) ∧ v_iv (n_v vs 2) ≤ v_iv (n_v vs 1) + 80 := d2
  have hf : fc_ok [(9, [2, 0], [32]), (7, [1, 3], [2]), (20, [3, 0], [30, 0, 1, 0, 0, -1, 3, 2005000]), (20, [3, 0], [30, 0, -1, 0, 0, 1, 3, 2005000]), (20, [0, 1], [30, 48, 1, 1, 32, -1, 0, 0]), (20, [0], [30, 24, 1, 1, 31])] ta ws vs := hf
  obtain ⟨f0, hf⟩ := fc_un (show (9 : Nat) < 100 from by decide) hf
  have f0 : n_v vs 2 = w_fd ws (v_ad (n_v vs 0)) 32 := f0
  obtain ⟨f1, hf⟩ := fc_un (show (7 : Nat) < 100 from by decide) hf
  have f1 : v_iv (n_v vs 1) < v_iv (n_v vs 3) := f1
  obtain ⟨f2, hf⟩ := fc_un (show (20 : Nat) < 100 from by decide) hf
  have f2 : 1 * v_iv (n_v vs 3) + ((-1) * w_el ws (w_ar ws (n_v vs 0) 2) (w_fi ws (n_v vs 0) 5 + 0).toNat + 0) ≤ 0 := f2
  obtain ⟨f3, hf⟩ := fc_un (show (20 : Nat) < 100 from by decide) hf
  have f3 : (-1) * v_iv (n_v vs 3) + (1 * w_el ws (w_ar ws (n_v vs 0) 2) (w_fi ws (n_v vs 0) 5 + 0).toNat + 0) ≤ 0 := f3
  obtain ⟨f4, hf⟩ := fc_un (show (20 : Nat) < 100 from by decide) hf
  have f4 : 1 * w_fi ws (n_v vs 0) 32 + ((-1) * v_iv (n_v vs 1) + 0) ≤ 48 := f4
  obtain ⟨f5, hf⟩ := fc_un (show (20 : Nat) < 100 from by decide) hf
  have f5 : 1 * w_fi ws (n_v vs 0) 31 + 0 ≤ 24 := f5
  have cr_0_2 : ta (w_ar ws (n_v vs 0) 2) = some 152 := tv_rg (th_fd hD hth r0 (g := GG_150) rfl (k := 2) (t := (2, 0, 0, [152])) rfl rfl)
  have g0 : v_iv (n_v vs 2) = w_fi ws (n_v vs 0) 32 := congrArg v_iv f0
  have kz_0_31 : 0 ≤ w_fi ws (n_v vs 0) 31 ∧ w_fi ws (n_v vs 0) 31 ≤ 25 := tv_rng (th_fd hD hth r0 (g := GG_150) rfl (k := 31) (t := (0, 0, 25, [])) rfl rfl)
  have kz_0_32 : 0 ≤ w_fi ws (n_v vs 0) 32 ∧ w_fi ws (n_v vs 0) 32 ≤ 80 := tv_rng (th_fd hD hth r0 (g := GG_150) rfl (k := 32) (t := (0, 0, 80, [])) rfl rfl)
  have rf2 : tv_ok ta (0, 0, 71, []) (n_v vs 2) := tv_in t2 (by omega) (by omega)
  refine ⟨List.forall_mem_cons.mpr ⟨rf2, (fun _ h => (by cases h))⟩, [], trivial, ?_, (fun _ h => (by cases h))⟩
  rw [List.append_nil]
  exact (fun _ h => (by cases h))
def o_Mo_isOuter_3 : or_T := (36, 7, [(0, (2, 0, 0, [150])), (1, (0, 0, 23, [])), (2, (0, 0, 71, [])), (3, (0, 1, 24, [])), (4, (2, 0, 0, [165])), (6, (0, 0, 25, []))], [(9, [6, 0], [31]), (9, [2, 0], [32]), (20, [3, 0], [30, 0, 1, 0, 0, -1, 3, 2005000]), (20, [3, 0], [30, 0, -1, 0, 0, 1, 3, 2005000]), (20, [0, 1], [30, 48, 1, 1, 32, -1, 0, 0]), (20, [0], [30, 24, 1, 1, 31]), (100, [4, 2, 1], []), (9, [4, 0], [33]), (7, [1, 3], [2]), (20, [3, 0], [30, 0, 1, 0, 0, -1, 3, 2005000]), (20, [3, 0], [30, 0, -1, 0, 0, 1, 3, 2005000]), (20, [0, 1], [30, 48, 1, 1, 32, -1, 0, 0]), (20, [0], [30, 24, 1, 1, 31])], [(6, (0, 0, 24, []))], [], [], [], [(1, 3, -4294967296, -1), (1, 2, -4294967296, 0), (2, 1, -4294967296, 80)])
theorem oo_Mo_isOuter_3 {kA : Nat → ClassId} : or_ok kA GG o_Mo_isOuter_3 := by
  intro A ta ws vs hD hth hl hk hds hf
  have hl : vs.length = 7 := hl
  have hk : ∀ q ∈ ([(0, (2, 0, 0, [150])), (1, (0, 0, 23, [])), (2, (0, 0, 71, [])), (3, (0, 1, 24, [])), (4, (2, 0, 0, [165])), (6, (0, 0, 25, []))] : List (Nat × tv_T)), tv_ok ta q.2 (n_v vs q.1) := hk
  obtain ⟨t0, hk⟩ := List.forall_mem_cons.mp hk
  have t0 : tv_ok ta (2, 0, 0, [150]) (n_v vs 0) := t0
  have r0 : ta (v_ad (n_v vs 0)) = some 150 := tv_rg t0
  obtain ⟨t1, hk⟩ := List.forall_mem_cons.mp hk
  have t1 : tv_ok ta (0, 0, 23, []) (n_v vs 1) := t1
  have k1 : 0 ≤ v_iv (n_v vs 1) ∧ v_iv (n_v vs 1) ≤ 23 := tv_rng t1
  obtain ⟨t2, hk⟩ := List.forall_mem_cons.mp hk
  have t2 : tv_ok ta (0, 0, 71, []) (n_v vs 2) := t2
  have k2 : 0 ≤ v_iv (n_v vs 2) ∧ v_iv (n_v vs 2) ≤ 71 := tv_rng t2
  obtain ⟨t3, hk⟩ := List.forall_mem_cons.mp hk
  have t3 : tv_ok ta (0, 1, 24, []) (n_v vs 3) := t3
  have k3 : 1 ≤ v_iv (n_v vs 3) ∧ v_iv (n_v vs 3) ≤ 24 := tv_rng t3
  obtain ⟨t4, hk⟩ := List.forall_mem_cons.mp hk
  have t4 : tv_ok ta (2, 0, 0, [165]) (n_v vs 4) := t4
  have r4 : ta (v_ad (n_v vs 4)) = some 165 := tv_rg t4
  obtain ⟨t6, hk⟩ := List.forall_mem_cons.mp hk
  have t6 : tv_ok ta (0, 0, 25, []) (n_v vs 6) := t6
  have k6 : 0 ≤ v_iv (n_v vs 6) ∧ v_iv (n_v vs 6) ≤ 25 := tv_rng t6
  have hds : ∀ q ∈ ([(1, 3, -4294967296, -1), (1, 2, -4294967296, 0), (2, 1, -4294967296, 80)] : List of_T), n_iv vs q.2.1 + q.2.2.1 ≤ n_iv vs q.1 ∧ n_iv vs q.1 ≤ n_iv vs q.2.1 + q.2.2.2 := hds
  obtain ⟨d0, hds⟩ := List.forall_mem_cons.mp hds
  have d0 : v_iv (n_v vs 3) + (-4294967296) ≤ v_iv (n_v vs 1) ∧ v_iv (n_v vs 1) ≤ v_iv (n_v vs 3) + (-1) := d0
  obtain ⟨d1, hds⟩ := List.forall_mem_cons.mp hds
  have d1 : v_iv (n_v vs 2) + (-4294967296) ≤ v_iv (n_v vs 1) ∧ v_iv (n_v vs 1) ≤ v_iv (n_v vs 2) + 0 := d1
  obtain ⟨d2, hds⟩ := List.forall_mem_cons.mp hds
  have d2 : v_iv (n_v vs 1) + (-4294967296) ≤ v_iv (n_v vs 2) ∧ v_iv (n_v vs 2) ≤ v_iv (n_v vs 1) + 80 := d2
  have hf : fc_ok [(9, [6, 0], [31]), (9, [2, 0], [32]), (20, [3, 0], [30, 0, 1, 0, 0, -1, 3, 2005000]), (20, [3, 0], [30, 0, -1, 0, 0, 1, 3, 2005000]), (20, [0, 1], [30, 48, 1, 1, 32, -1, 0, 0]), (20, [0], [30, 24, 1, 1, 31]), (100, [4, 2, 1], []), (9, [4, 0], [33]), (7, [1, 3], [2]), (20, [3, 0], [30, 0, 1, 0, 0, -1, 3, 2005000]), (20, [3, 0], [30, 0, -1, 0, 0, 1, 3, 2005000]), (20, [0, 1], [30, 48, 1, 1, 32, -1, 0, 0]), (20, [0], [30, 24, 1, 1, 31])] ta ws vs := hf
  obtain ⟨f0, hf⟩ := fc_un (show (9 : Nat) < 100 from by decide) hf
  have f0 : n_v vs 6 = w_fd ws (v_ad (n_v vs 0)) 31 := f0
  obtain ⟨f1, hf⟩ := fc_un (show (9 : Nat) < 100 from by decide) hf
  have f1 : n_v vs 2 = w_fd ws (v_ad (n_v vs 0)) 32 := f1
  obtain ⟨f2, hf⟩ := fc_un (show (20 : Nat) < 100 from by decide) hf
  have f2 : 1 * v_iv (n_v vs 3) + ((-1) * w_el ws (w_ar ws (n_v vs 0) 2) (w_fi ws (n_v vs 0) 5 + 0).toNat + 0) ≤ 0 := f2
  obtain ⟨f3, hf⟩ := fc_un (show (20 : Nat) < 100 from by decide) hf
  have f3 : (-1) * v_iv (n_v vs 3) + (1 * w_el ws (w_ar ws (n_v vs 0) 2) (w_fi ws (n_v vs 0) 5 + 0).toNat + 0) ≤ 0 := f3
  obtain ⟨f4, hf⟩ := fc_un (show (20 : Nat) < 100 from by decide) hf
  have f4 : 1 * w_fi ws (n_v vs 0) 32 + ((-1) * v_iv (n_v vs 1) + 0) ≤ 48 := f4
  obtain ⟨f5, hf⟩ := fc_un (show (20 : Nat) < 100 from by decide) hf
  have f5 : 1 * w_fi ws (n_v vs 0) 31 + 0 ≤ 24 := f5
  obtain ⟨ta1, w1, le1, ⟨_, s1⟩, hf⟩ := fc_us (show ¬ (100 : Nat) < 100 from by decide) hf
  have s1 : (∀ b j, w_el ws b j = if b = v_ad (n_v vs 4) ∧ j = (v_iv (n_v vs 2)).toNat then v_iv (n_v vs 1) else w_el w1 b j) ∧ ∀ b k, w_fd ws b k = w_fd w1 b k := s1
  obtain ⟨f7, hf⟩ := fc_un (show (9 : Nat) < 100 from by decide) hf
  have f7 : n_v vs 4 = w_fd w1 (v_ad (n_v vs 0)) 33 := f7
  obtain ⟨f8, hf⟩ := fc_un (show (7 : Nat) < 100 from by decide) hf
  have f8 : v_iv (n_v vs 1) < v_iv (n_v vs 3) := f8
  obtain ⟨f9, hf⟩ := fc_un (show (20 : Nat) < 100 from by decide) hf
  have f9 : 1 * v_iv (n_v vs 3) + ((-1) * w_el w1 (w_ar w1 (n_v vs 0) 2) (w_fi w1 (n_v vs 0) 5 + 0).toNat + 0) ≤ 0 := f9
  obtain ⟨f10, hf⟩ := fc_un (show (20 : Nat) < 100 from by decide) hf
  have f10 : (-1) * v_iv (n_v vs 3) + (1 * w_el w1 (w_ar w1 (n_v vs 0) 2) (w_fi w1 (n_v vs 0) 5 + 0).toNat + 0) ≤ 0 := f10
  obtain ⟨f11, hf⟩ := fc_un (show (20 : Nat) < 100 from by decide) hf
  have f11 : 1 * w_fi w1 (n_v vs 0) 32 + ((-1) * v_iv (n_v vs 1) + 0) ≤ 48 := f11
  obtain ⟨f12, hf⟩ := fc_un (show (20 : Nat) < 100 from by decide) hf
  have f12 : 1 * w_fi w1 (n_v vs 0) 31 + 0 ≤ 24 := f12
  have ar_0_2_1 : w_ar w1 (n_v vs 0) 2 = w_ar ws (n_v vs 0) 2 := by show v_ad (w_fd w1 _ _) = v_ad (w_fd ws _ _); rw [s1.2]
  have cr_0_2 : ta (w_ar ws (n_v vs 0) 2) = some 152 := tv_rg (th_fd hD hth r0 (g := GG_150) rfl (k := 2) (t := (2, 0, 0, [152])) rfl rfl)
  have ar_0_33_1 : w_ar w1 (n_v vs 0) 33 = w_ar ws (n_v vs 0) 33 := by show v_ad (w_fd w1 _ _) = v_ad (w_fd ws _ _); rw [s1.2]
  have cr_0_33 : ta (w_ar ws (n_v vs 0) 33) = some 165 := tv_rg (th_fd hD hth r0 (g := GG_150) rfl (k := 33) (t := (2, 0, 0, [165])) rfl rfl)
  have fi_0_5_1 : w_fi w1 (n_v vs 0) 5 = w_fi ws (n_v vs 0) 5 := by show v_iv (w_fd w1 _ _) = v_iv (w_fd ws _ _); rw [s1.2]
  have ad_4 : v_ad (n_v vs 4) = w_ar ws (n_v vs 0) 33 := (congrArg v_ad f7).trans ar_0_33_1
  have g0 : v_iv (n_v vs 6) = w_fi ws (n_v vs 0) 31 := congrArg v_iv f0
  have g1 : v_iv (n_v vs 2) = w_fi ws (n_v vs 0) 32 := congrArg v_iv f1
  rw [ar_0_2_1] at f9
  rw [fi_0_5_1] at f9
  rw [ar_0_2_1] at f10
  rw [fi_0_5_1] at f10
  have fe_0_5_1 : w_fi ws (n_v vs 0) 5 = w_fi w1 (n_v vs 0) 5 := congrArg v_iv (s1.2 _ _)
  have fe_0_31_1 : w_fi ws (n_v vs 0) 31 = w_fi w1 (n_v vs 0) 31 := congrArg v_iv (s1.2 _ _)
  have fe_0_32_1 : w_fi ws (n_v vs 0) 32 = w_fi w1 (n_v vs 0) 32 := congrArg v_iv (s1.2 _ _)
  have ee_0_2_F5_0_1 : w_el ws (w_ar ws (n_v vs 0) 2) (w_fi ws (n_v vs 0) 5 + 0).toNat = w_el w1 (w_ar ws (n_v vs 0) 2) (w_fi ws (n_v vs 0) 5 + 0).toNat := by rw [s1.1, if_neg (fun e => by have e1 := e.1; rw [← e1] at r4; rw [cr_0_2] at r4; exact absurd (Option.some.inj r4) (by decide))]
  have kz_0_31 : 0 ≤ w_fi ws (n_v vs 0) 31 ∧ w_fi ws (n_v vs 0) 31 ≤ 25 := tv_rng (th_fd hD hth r0 (g := GG_150) rfl (k := 31) (t := (0, 0, 25, [])) rfl rfl)
  have kz_0_32 : 0 ≤ w_fi ws (n_v vs 0) 32 ∧ w_fi ws (n_v vs 0) 32 ≤ 80 := tv_rng (th_fd hD hth r0 (g := GG_150) rfl (k := 32) (t := (0, 0, 80, [])) rfl rfl)
  have rf6 : tv_ok ta (0, 0, 24, []) (n_v vs 6) := tv_in t6 (by omega) (by omega)
  refine ⟨List.forall_mem_cons.mpr ⟨rf6, (fun _ h => (by cases h))⟩, [], trivial, ?_, (fun _ h => (by cases h))⟩
  rw [List.append_nil]
  exact (fun _ h => (by cases h))
def o_Mo_isOuter_4 : or_T := (6, 12, [(0, (2, 0, 0, [150])), (1, (0, 0, 23, [])), (2, (0, 0, 71, [])), (3, (0, 1, 24, [])), (4, (2, 0, 0, [165])), (5, (2, 0, 0, [166])), (6, (0, 0, 24, [])), (7, (2, 0, 0, [167])), (9, (0, 1, 1, [])), (10, (0, 1, 72, [])), (11, (0, 1, 24, []))], [(6, [11, 1], [1]), (20, [3, 0], [30, 0, 1, 0, 0, -1, 3, 2005000]), (20, [3, 0], [30, 0, -1, 0, 0, 1, 3, 2005000]), (20, [0], [30, 24, 1, 1, 31]), (101, [0, 10], [32]), (1, [10, 2, 9], []), (9, [2, 0], [32]), (20, [3, 0], [30, 0, 1, 0, 0, -1, 3, 2005000]), (20, [3, 0], [30, 0, -1, 0, 0, 1, 3, 2005000]), (20, [0, 1], [30, 48, 1, 1, 32, -1, 0, 0]), (20, [0], [30, 24, 1, 1, 31]), (100, [7, 2, 8], []), (9, [7, 0], [35]), (20, [3, 0], [30, 0, 1, 0, 0, -1, 3, 2005000]), (20, [3, 0], [30, 0, -1, 0, 0, 1, 3, 2005000]), (20, [0, 1], [30, 48, 1, 1, 32, -1, 0, 0]), (20, [0], [30, 24, 1, 1, 31]), (100, [5, 2, 6], []), (9, [6, 0], [31]), (9, [5, 0], [34]), (20, [3, 0], [30, 0, 1, 0, 0, -1, 3, 2005000]), (20, [3, 0], [30, 0, -1, 0, 0, 1, 3, 2005000]), (20, [0, 1], [30, 48, 1, 1, 32, -1, 0, 0]), (20, [0], [30, 24, 1, 1, 31]), (100, [4, 2, 1], []), (9, [4, 0], [33]), (7, [1, 3], [2]), (20, [3, 0], [30, 0, 1, 0, 0, -1, 3, 2005000]), (20, [3, 0], [30, 0, -1, 0, 0, 1, 3, 2005000]), (20, [0, 1], [30, 48, 1, 1, 32, -1, 0, 0]), (20, [0], [30, 24, 1, 1, 31])], [], [], [(20, [0, 11], [30, 48, 1, 1, 32, -1, 0, 0])], [], [(11, 1, 1, 1), (11, 3, -4294967296, 0), (11, 2, -4294967296, 1), (10, 2, 1, 1), (10, 1, -4294967296, 81), (1, 3, -4294967296, -1), (1, 2, -4294967296, 0), (2, 1, -4294967296, 80)])
theorem oo_Mo_isOuter_4 {kA : Nat → ClassId} : or_ok kA GG o_Mo_isOuter_4 := by
  intro A ta ws vs hD hth hl hk hds hf
  have hl : vs.length = 12 := hl
  have hk : ∀ q ∈ ([(0, (2, 0, 0, [150])), (1, (0, 0, 23, [])), (2, (0, 0, 71, [])), (3, (0, 1, 24, [])), (4, (2, 0, 0, [165])), (5, (2, 0, 0, [166])), (6, (0, 0, 24, [])), (7, (2, 0, 0, [167])), (9, (0, 1, 1, [])), (10, (0, 1, 72, [])), (11, (0, 1, 24, []))] : List (Nat × tv_T)), tv_ok ta q.2 (n_v vs q.1) := hk
  obtain ⟨t0, hk⟩ := List.forall_mem_cons.mp hk
  have t0 : tv_ok ta (2, 0, 0, [150]) (n_v vs 0) := t0
  have r0 : ta (v_ad (n_v vs 0)) = some 150 := tv_rg t0
  obtain ⟨t1, hk⟩ := List.forall_mem_cons.mp hk
  have t1 : tv_ok ta (0, 0, 23, []) (n_v vs 1) := t1
  have k1 : 0 ≤ v_iv (n_v vs 1) ∧ v_iv (n_v vs 1) ≤ 23 := tv_rng t1
  obtain ⟨t2, hk⟩ := List.forall_mem_cons.mp hk
  have t2 : tv_ok ta (0, 0, 71, []) (n_v vs 2) := t2
  have k2 : 0 ≤ v_iv (n_v vs 2) ∧ v_iv (n_v vs 2) ≤ 71 := tv_rng t2
  obtain ⟨t3, hk⟩ := List.forall_mem_cons.mp hk
  have t3 : tv_ok ta (0, 1, 24, []) (n_v vs 3) := t3
  have k3 : 1 ≤ v_iv (n_v vs 3) ∧ v_iv (n_v vs 3) ≤ 24 := tv_rng t3
  obtain ⟨t4, hk⟩ := List.forall_mem_cons.mp hk
  have t4 : tv_ok ta (2, 0, 0, [165]) (n_v vs 4) := t4
  have r4 : ta (v_ad (n_v vs 4)) = some 165 := tv_rg t4
  obtain ⟨t5, hk⟩ := List.forall_mem_cons.mp hk
  have t5 : tv_ok ta (2, 0, 0, [166]) (n_v vs 5) := t5
  have r5 : ta (v_ad (n_v vs 5)) = some 166 := tv_rg t5
  obtain ⟨t6, hk⟩ := List.forall_mem_cons.mp hk
  have t6 : tv_ok ta (0, 0, 24, []) (n_v vs 6) := t6
  have k6 : 0 ≤ v_iv (n_v vs 6) ∧ v_iv (n_v vs 6) ≤ 24 := tv_rng t6
  obtain ⟨t7, hk⟩ := List.forall_mem_cons.mp hk
  have t7 : tv_ok ta (2, 0, 0, [167]) (n_v vs 7) := t7
  have r7 : ta (v_ad (n_v vs 7)) = some 167 := tv_rg t7
  obtain ⟨t9, hk⟩ := List.forall_mem_cons.mp hk
  have t9 : tv_ok ta (0, 1, 1, []) (n_v vs 9) := t9
  have k9 : 1 ≤ v_iv (n_v vs 9) ∧ v_iv (n_v vs 9) ≤ 1 := tv_rng t9
  obtain ⟨t10, hk⟩ := List.forall_mem_cons.mp hk
  have t10 : tv_ok ta (0, 1, 72, []) (n_v vs 10) := t10
  have k10 : 1 ≤ v_iv (n_v vs 10) ∧ v_iv (n_v vs 10) ≤ 72 := tv_rng t10
  obtain ⟨t11, hk⟩ := List.forall_mem_cons.mp hk
  have t11 : tv_ok ta (0, 1, 24, []) (n_v vs 11) := t11
  have k11 : 1 ≤ v_iv (n_v vs 11) ∧ v_iv (n_v vs 11) ≤ 24 := tv_rng t11
  have hds : ∀ q ∈ ([(11, 1, 1, 1), (11, 3, -4294967296, 0), (11, 2, -4294967296, 1), (10, 2, 1, 1), (10, 1, -4294967296, 81), (1, 3, -4294967296, -1), (1, 2, -4294967296, 0), (2, 1, -4294967296, 80)] : List of_T), n_iv vs q.2.1 + q.2.2.1 ≤ n_iv vs q.1 ∧ n_iv vs q.1 ≤ n_iv vs q.2.1 + q.2.2.2 := hds
  obtain ⟨d0, hds⟩ := List.forall_mem_cons.mp hds
  have d0 : v_iv (n_v vs 1) + 1 ≤ v_iv (n_v vs 11) ∧ v_iv (n_v vs 11) ≤ v_iv (n_v vs 1) + 1 := d0
  obtain ⟨d1, hds⟩ := List.forall_mem_cons.mp hds
  have d1 : v_iv (n_v vs 3) + (-4294967296) ≤ v_iv (n_v vs 11) ∧ v_iv (n_v vs 11) ≤ v_iv (n_v vs 3) + 0 := d1
  obtain ⟨d2, hds⟩ := List.forall_mem_cons.mp hds
  have d2 : v_iv (n_v vs 2) + (-4294967296) ≤ v_iv (n_v vs 11) ∧ v_iv (n_v vs 11) ≤ v_iv (n_v vs 2) + 1 := d2
  obtain ⟨d3, hds⟩ := List.forall_mem_cons.mp hds
  have d3 : v_iv (n_v vs 2) + 1 ≤ v_iv (n_v vs 10) ∧ v_iv (n_v vs 10) ≤ v_iv (n_v vs 2) + 1 := d3
  obtain ⟨d4, hds⟩ := List.forall_mem_cons.mp hds
  have d4 : v_iv (n_v vs 1) + (-4294967296) ≤ v_iv (n_v vs 10) ∧ v_iv (n_v vs 10) ≤ v_iv (n_v vs 1) + 81 := d4
  obtain ⟨d5, hds⟩ := List.forall_mem_cons.mp hds
  have d5 : v_iv (n_v vs 3) + (-4294967296) ≤ v_iv (n_v vs 1) ∧ v_iv (n_v vs 1) ≤ v_iv (n_v vs 3) + (-1) := d5
  obtain ⟨d6, hds⟩ := List.forall_mem_cons.mp hds
  have d6 : v_iv (n_v vs 2) + (-4294967296) ≤ v_iv (n_v vs 1) ∧ v_iv (n_v vs 1) ≤ v_iv (n_v vs 2) + 0 := d6
  obtain ⟨d7, hds⟩ := List.forall_mem_cons.mp hds
  have d7 : v_iv (n_v vs 1) + (-4294967296) ≤ v_iv (n_v vs 2) ∧ v_iv (n_v vs 2) ≤ v_iv (n_v vs 1) + 80 := d7
  have hf : fc_ok [(6, [11, 1], [1]), (20, [3, 0], [30, 0, 1, 0, 0, -1, 3, 2005000]), (20, [3, 0], [30, 0, -1, 0, 0, 1, 3, 2005000]), (20, [0], [30, 24, 1, 1, 31]), (101, [0, 10], [32]), (1, [10, 2, 9], []), (9, [2, 0], [32]), (20, [3, 0], [30, 0, 1, 0, 0, -1, 3, 2005000]), (20, [3, 0], [30, 0, -1, 0, 0, 1, 3, 2005000]), (20, [0, 1], [30, 48, 1, 1, 32, -1, 0, 0]), (20, [0], [30, 24, 1, 1, 31]), (100, [7, 2, 8], []), (9, [7, 0], [35]), (20, [3, 0], [30, 0, 1, 0, 0, -1, 3, 2005000]), (20, [3, 0], [30, 0, -1, 0, 0, 1, 3, 2005000]), (20, [0, 1], [30, 48, 1, 1, 32, -1, 0, 0]), (20, [0], [30, 24, 1, 1, 31]), (100, [5, 2, 6], []), (9, [6, 0], [31]), (9, [5, 0], [34]), (20, [3, 0], [30, 0, 1, 0, 0, -1, 3, 2005000]), (20, [3, 0], [30, 0, -1, 0, 0, 1, 3, 2005000]), (20, [0, 1], [30, 48, 1, 1, 32, -1, 0, 0]), (20, [0], [30, 24, 1, 1, 31]), (100, [4, 2, 1], []), (9, [4, 0], [33]), (7, [1, 3], [2]), (20, [3, 0], [30, 0, 1, 0, 0, -1, 3, 2005000]), (20, [3, 0], [30, 0, -1, 0, 0, 1, 3, 2005000]), (20, [0, 1], [30, 48, 1, 1, 32, -1, 0, 0]), (20, [0], [30, 24, 1, 1, 31])] ta ws vs := hf
  obtain ⟨f0, hf⟩ := fc_un (show (6 : Nat) < 100 from by decide) hf
  have f0 : v_iv (n_v vs 11) = v_iv (n_v vs 1) + 1 := f0
  obtain ⟨f1, hf⟩ := fc_un (show (20 : Nat) < 100 from by decide) hf
  have f1 : 1 * v_iv (n_v vs 3) + ((-1) * w_el ws (w_ar ws (n_v vs 0) 2) (w_fi ws (n_v vs 0) 5 + 0).toNat + 0) ≤ 0 := f1
  obtain ⟨f2, hf⟩ := fc_un (show (20 : Nat) < 100 from by decide) hf
  have f2 : (-1) * v_iv (n_v vs 3) + (1 * w_el ws (w_ar ws (n_v vs 0) 2) (w_fi ws (n_v vs 0) 5 + 0).toNat + 0) ≤ 0 := f2
  obtain ⟨f3, hf⟩ := fc_un (show (20 : Nat) < 100 from by decide) hf
  have f3 : 1 * w_fi ws (n_v vs 0) 31 + 0 ≤ 24 := f3
  obtain ⟨ta1, w1, le1, ⟨_, s1⟩, hf⟩ := fc_us (show ¬ (101 : Nat) < 100 from by decide) hf
  have s1 : (∀ b j, w_el ws b j = w_el w1 b j) ∧ ∀ b j, w_fd ws b j = if b = v_ad (n_v vs 0) ∧ j = 32 then n_v vs 10 else w_fd w1 b j := s1
  obtain ⟨f5, hf⟩ := fc_un (show (1 : Nat) < 100 from by decide) hf
  have f5 : v_iv (n_v vs 10) = v_iv (n_v vs 2) + v_iv (n_v vs 9) := f5
  obtain ⟨f6, hf⟩ := fc_un (show (9 : Nat) < 100 from by decide) hf
  have f6 : n_v vs 2 = w_fd w1 (v_ad (n_v vs 0)) 32 := f6
  obtain ⟨f7, hf⟩ := fc_un (show (20 : Nat) < 100 from by decide) hf
  have f7 : 1 * v_iv (n_v vs 3) + ((-1) * w_el w1 (w_ar w1 (n_v vs 0) 2) (w_fi w1 (n_v vs 0) 5 + 0).toNat + 0) ≤ 0 := f7
  obtain ⟨f8, hf⟩ := fc_un (show (20 : Nat) < 100 from by decide) hf
  have f8 : (-1) * v_iv (n_v vs 3) + (1 * w_el w1 (w_ar w1 (n_v vs 0) 2) (w_fi w1 (n_v vs 0) 5 + 0).toNat + 0) ≤ 0 := f8
  obtain ⟨f9, hf⟩ := fc_un (show (20 : Nat) < 100 from by decide) hf
  have f9 : 1 * w_fi w1 (n_v vs 0) 32 + ((-1) * v_iv (n_v vs 1) + 0) ≤ 48 := f9
  obtain ⟨f10, hf⟩ := fc_un (show (20 : Nat) < 100 from by decide) hf
  have f10 : 1 * w_fi w1 (n_v vs 0) 31 + 0 ≤ 24 := f10
  obtain ⟨ta2, w2, le2, ⟨_, s2⟩, hf⟩ := fc_us (show ¬ (100 : Nat) < 100 from by decide) hf
  have s2 : (∀ b j, w_el w1 b j = if b = v_ad (n_v vs 7) ∧ j = (v_iv (n_v vs 2)).toNat then v_iv (n_v vs 8) else w_el w2 b j) ∧ ∀ b k, w_fd w1 b k = w_fd w2 b k := s2
  obtain ⟨f12, hf⟩ := fc_un (show (9 : Nat) < 100 from by decide) hf
  have f12 : n_v vs 7 = w_fd w2 (v_ad (n_v vs 0)) 35 := f12
  obtain ⟨f13, hf⟩ := fc_un (show (20 : Nat) < 100 from by decide) hf
  have f13 : 1 * v_iv (n_v vs 3) + ((-1) * w_el w2 (w_ar w2 (n_v vs 0) 2) (w_fi w2 (n_v vs 0) 5 + 0).toNat + 0) ≤ 0 := f13
  obtain ⟨f14, hf⟩ := fc_un (show (20 : Nat) < 100 from by decide) hf
  have f14 : (-1) * v_iv (n_v vs 3) + (1 * w_el w2 (w_ar w2 (n_v vs 0) 2) (w_fi w2 (n_v vs 0) 5 + 0).toNat + 0) ≤ 0 := f14
  obtain ⟨f15, hf⟩ := fc_un (show (20 : Nat) < 100 from by decide) hf
  have f15 : 1 * w_fi w2 (n_v vs 0) 32 + ((-1) * v_iv (n_v vs 1) + 0) ≤ 48 := f15
  obtain ⟨f16, hf⟩ := fc_un (show (20 : Nat) < 100 from by decide) hf
  have f16 : 1 * w_fi w2 (n_v vs 0) 31 + 0 ≤ 24 := f16
  obtain ⟨ta3, w3, le3, ⟨_, s3⟩, hf⟩ := fc_us (show ¬ (100 : Nat) < 100 from by decide) hf
  have s3 : (∀ b j, w_el w2 b j = if b = v_ad (n_v vs 5) ∧ j = (v_iv (n_v vs 2)).toNat then v_iv (n_v vs 6) else w_el w3 b j) ∧ ∀ b k, w_fd w2 b k = w_fd w3 b k := s3
  obtain ⟨f18, hf⟩ := fc_un (show (9 : Nat) < 100 from by decide) hf
  have f18 : n_v vs 6 = w_fd w3 (v_ad (n_v vs 0)) 31 := f18
  obtain ⟨f19, hf⟩ := fc_un (show (9 : Nat) < 100 from by decide) hf
  have f19 : n_v vs 5 = w_fd w3 (v_ad (n_v vs 0)) 34 := f19
  obtain ⟨f20, hf⟩ := fc_un (show (20 : Nat) < 100 from by decide) hf
  have f20 : 1 * v_iv (n_v vs 3) + ((-1) * w_el w3 (w_ar w3 (n_v vs 0) 2) (w_fi w3 (n_v vs 0) 5 + 0).toNat + 0) ≤ 0 := f20
  obtain ⟨f21, hf⟩ := fc_un (show (20 : Nat) < 100 from by decide) hf
  have f21 : (-1) * v_iv (n_v vs 3) + (1 * w_el w3 (w_ar w3 (n_v vs 0) 2) (w_fi w3 (n_v vs 0) 5 + 0).toNat + 0) ≤ 0 := f21
  obtain ⟨f22, hf⟩ := fc_un (show (20 : Nat) < 100 from by decide) hf
  have f22 : 1 * w_fi w3 (n_v vs 0) 32 + ((-1) * v_iv (n_v vs 1) + 0) ≤ 48 := f22
  obtain ⟨f23, hf⟩ := fc_un (show (20 : Nat) < 100 from by decide) hf
  have f23 : 1 * w_fi w3 (n_v vs 0) 31 + 0 ≤ 24 := f23
  obtain ⟨ta4, w4, le4, ⟨_, s4⟩, hf⟩ := fc_us (show ¬ (100 : Nat) < 100 from by decide) hf
  have s4 : (∀ b j, w_el w3 b j = if b = v_ad (n_v vs 4) ∧ j = (v_iv (n_v vs 2)).toNat then v_iv (n_v vs 1) else w_el w4 b j) ∧ ∀ b k, w_fd w3 b k = w_fd w4 b k := s4
  obtain ⟨f25, hf⟩ := fc_un (show (9 : Nat) < 100 from by decide) hf
  have f25 : n_v vs 4 = w_fd w4 (v_ad (n_v vs 0)) 33 := f25
  obtain ⟨f26, hf⟩ := fc_un (show (7 : Nat) < 100 from by decide) hf
  have f26 : v_iv (n_v vs 1) < v_iv (n_v vs 3) := f26
  obtain ⟨f27, hf⟩ := fc_un (show (20 : Nat) < 100 from by decide) hf
  have f27 : 1 * v_iv (n_v vs 3) + ((-1) * w_el w4 (w_ar w4 (n_v vs 0) 2) (w_fi w4 (n_v vs 0) 5 + 0).toNat + 0) ≤ 0 := f27
  obtain ⟨f28, hf⟩ := fc_un (show (20 : Nat) < 100 from by decide) hf
  have f28 : (-1) * v_iv (n_v vs 3) + (1 * w_el w4 (w_ar w4 (n_v vs 0) 2) (w_fi w4 (n_v vs 0) 5 + 0).toNat + 0) ≤ 0 := f28
  obtain ⟨f29, hf⟩ := fc_un (show (20 : Nat) < 100 from by decide) hf
  have f29 : 1 * w_fi w4 (n_v vs 0) 32 + ((-1) * v_iv (n_v vs 1) + 0) ≤ 48 := f29
  obtain ⟨f30, hf⟩ := fc_un (show (20 : Nat) < 100 from by decide) hf
  have f30 : 1 * w_fi w4 (n_v vs 0) 31 + 0 ≤ 24 := f30
  have ar_0_2_1 : w_ar w1 (n_v vs 0) 2 = w_ar ws (n_v vs 0) 2 := by show v_ad (w_fd w1 _ _) = v_ad (w_fd ws _ _); rw [s1.2, if_neg (fun e => absurd e.2 (by decide))]
  have ar_0_2_2 : w_ar w2 (n_v vs 0) 2 = w_ar ws (n_v vs 0) 2 := by rw [← ar_0_2_1]; show v_ad (w_fd w2 _ _) = v_ad (w_fd w1 _ _); rw [s2.2]
  have ar_0_2_3 : w_ar w3 (n_v vs 0) 2 = w_ar ws (n_v vs 0) 2 := by rw [← ar_0_2_2]; show v_ad (w_fd w3 _ _) = v_ad (w_fd w2 _ _); rw [s3.2]
  have ar_0_2_4 : w_ar w4 (n_v vs 0) 2 = w_ar ws (n_v vs 0) 2 := by rw [← ar_0_2_3]; show v_ad (w_fd w4 _ _) = v_ad (w_fd w3 _ _); rw [s4.2]
  have cr_0_2 : ta (w_ar ws (n_v vs 0) 2) = some 152 := tv_rg (th_fd hD hth r0 (g := GG_150) rfl (k := 2) (t := (2, 0, 0, [152])) rfl rfl)
  have ar_0_33_1 : w_ar w1 (n_v vs 0) 33 = w_ar ws (n_v vs 0) 33 := by show v_ad (w_fd w1 _ _) = v_ad (w_fd ws _ _); rw [s1.2, if_neg (fun e => absurd e.2 (by decide))]
  have ar_0_33_2 : w_ar w2 (n_v vs 0) 33 = w_ar ws (n_v vs 0) 33 := by rw [← ar_0_33_1]; show v_ad (w_fd w2 _ _) = v_ad (w_fd w1 _ _); rw [s2.2]
  have ar_0_33_3 : w_ar w3 (n_v vs 0) 33 = w_ar ws (n_v vs 0) 33 := by rw [← ar_0_33_2]; show v_ad (w_fd w3 _ _) = v_ad (w_fd w2 _ _); rw [s3.2]
  have ar_0_33_4 : w_ar w4 (n_v vs 0) 33 = w_ar ws (n_v vs 0) 33 := by rw [← ar_0_33_3]; show v_ad (w_fd w4 _ _) = v_ad (w_fd w3 _ _); rw [s4.2]
  have cr_0_33 : ta (w_ar ws (n_v vs 0) 33) = some 165 := tv_rg (th_fd hD hth r0 (g := GG_150) rfl (k := 33) (t := (2, 0, 0, [165])) rfl rfl)
  have ar_0_34_1 : w_ar w1 (n_v vs 0) 34 = w_ar ws (n_v vs 0) 34 := by show v_ad (w_fd w1 _ _) = v_ad (w_fd ws _ _); rw [s1.2, if_neg (fun e => absurd e.2 (by decide))]
  have ar_0_34_2 : w_ar w2 (n_v vs 0) 34 = w_ar ws (n_v vs 0) 34 := by rw [← ar_0_34_1]; show v_ad (w_fd w2 _ _) = v_ad (w_fd w1 _ _); rw [s2.2]
  have ar_0_34_3 : w_ar w3 (n_v vs 0) 34 = w_ar ws (n_v vs 0) 34 := by rw [← ar_0_34_2]; show v_ad (w_fd w3 _ _) = v_ad (w_fd w2 _ _); rw [s3.2]
  have ar_0_34_4 : w_ar w4 (n_v vs 0) 34 = w_ar ws (n_v vs 0) 34 := by rw [← ar_0_34_3]; show v_ad (w_fd w4 _ _) = v_ad (w_fd w3 _ _); rw [s4.2]
  have cr_0_34 : ta (w_ar ws (n_v vs 0) 34) = some 166 := tv_rg (th_fd hD hth r0 (g := GG_150) rfl (k := 34) (t := (2, 0, 0, [166])) rfl rfl)
  have ar_0_35_1 : w_ar w1 (n_v vs 0) 35 = w_ar ws (n_v vs 0) 35 := by show v_ad (w_fd w1 _ _) = v_ad (w_fd ws _ _); rw [s1.2, if_neg (fun e => absurd e.2 (by decide))]
  have ar_0_35_2 : w_ar w2 (n_v vs 0) 35 = w_ar ws (n_v vs 0) 35 := by rw [← ar_0_35_1]; show v_ad (w_fd w2 _ _) = v_ad (w_fd w1 _ _); rw [s2.2]
  have ar_0_35_3 : w_ar w3 (n_v vs 0) 35 = w_ar ws (n_v vs 0) 35 := by rw [← ar_0_35_2]; show v_ad (w_fd w3 _ _) = v_ad (w_fd w2 _ _); rw [s3.2]
  have ar_0_35_4 : w_ar w4 (n_v vs 0) 35 = w_ar ws (n_v vs 0) 35 := by rw [← ar_0_35_3]; show v_ad (w_fd w4 _ _) = v_ad (w_fd w3 _ _); rw [s4.2]
  have cr_0_35 : ta (w_ar ws (n_v vs 0) 35) = some 167 := tv_rg (th_fd hD hth r0 (g := GG_150) rfl (k := 35) (t := (2, 0, 0, [167])) rfl rfl)
  have fi_0_5_1 : w_fi w1 (n_v vs 0) 5 = w_fi ws (n_v vs 0) 5 := by show v_iv (w_fd w1 _ _) = v_iv (w_fd ws _ _); rw [s1.2, if_neg (fun e => absurd e.2 (by decide))]
  have fi_0_5_2 : w_fi w2 (n_v vs 0) 5 = w_fi ws (n_v vs 0) 5 := by rw [← fi_0_5_1]; show v_iv (w_fd w2 _ _) = v_iv (w_fd w1 _ _); rw [s2.2]
  have fi_0_5_3 : w_fi w3 (n_v vs 0) 5 = w_fi ws (n_v vs 0) 5 := by rw [← fi_0_5_2]; show v_iv (w_fd w3 _ _) = v_iv (w_fd w2 _ _); rw [s3.2]
  have fi_0_5_4 : w_fi w4 (n_v vs 0) 5 = w_fi ws (n_v vs 0) 5 := by rw [← fi_0_5_3]; show v_iv (w_fd w4 _ _) = v_iv (w_fd w3 _ _); rw [s4.2]
  have ad_7 : v_ad (n_v vs 7) = w_ar ws (n_v vs 0) 35 := (congrArg v_ad f12).trans ar_0_35_2
  have ad_5 : v_ad (n_v vs 5) = w_ar ws (n_v vs 0) 34 := (congrArg v_ad f19).trans ar_0_34_3
  have ad_4 : v_ad (n_v vs 4) = w_ar ws (n_v vs 0) 33 := (congrArg v_ad f25).trans ar_0_33_4
  have g6 : v_iv (n_v vs 2) = w_fi w1 (n_v vs 0) 32 := congrArg v_iv f6
  rw [ar_0_2_1] at f7
  rw [fi_0_5_1] at f7
  rw [ar_0_2_1] at f8
  rw [fi_0_5_1] at f8
  rw [ar_0_2_2] at f13
  rw [fi_0_5_2] at f13
  rw [ar_0_2_2] at f14
  rw [fi_0_5_2] at f14
  have g18 : v_iv (n_v vs 6) = w_fi w3 (n_v vs 0) 31 := congrArg v_iv f18
  rw [ar_0_2_3] at f20
  rw [fi_0_5_3] at f20
  rw [ar_0_2_3] at f21
  rw [fi_0_5_3] at f21
  rw [ar_0_2_4] at f27
  rw [fi_0_5_4] at f27
  rw [ar_0_2_4] at f28
  rw [fi_0_5_4] at f28
  have fe_0_5_1 : w_fi ws (n_v vs 0) 5 = w_fi w1 (n_v vs 0) 5 := by show v_iv (w_fd _ _ _) = v_iv (w_fd _ _ _); rw [s1.2, if_neg (fun e => absurd e.2 (by decide))]
  have fe_0_31_1 : w_fi ws (n_v vs 0) 31 = w_fi w1 (n_v vs 0) 31 := by show v_iv (w_fd _ _ _) = v_iv (w_fd _ _ _); rw [s1.2, if_neg (fun e => absurd e.2 (by decide))]
  have fe_0_32_1 : w_fi ws (n_v vs 0) 32 = v_iv (n_v vs 10) := by show v_iv (w_fd _ _ _) = _; rw [s1.2, if_pos ⟨rfl, rfl⟩]
  have ee_0_2_F5_0_1 : w_el ws (w_ar ws (n_v vs 0) 2) (w_fi ws (n_v vs 0) 5 + 0).toNat = w_el w1 (w_ar ws (n_v vs 0) 2) (w_fi ws (n_v vs 0) 5 + 0).toNat := s1.1 _ _
  have fe_0_5_2 : w_fi w1 (n_v vs 0) 5 = w_fi w2 (n_v vs 0) 5 := congrArg v_iv (s2.2 _ _)
  have fe_0_31_2 : w_fi w1 (n_v vs 0) 31 = w_fi w2 (n_v vs 0) 31 := congrArg v_iv (s2.2 _ _)
  have fe_0_32_2 : w_fi w1 (n_v vs 0) 32 = w_fi w2 (n_v vs 0) 32 := congrArg v_iv (s2.2 _ _)
  have ee_0_2_F5_0_2 : w_el w1 (w_ar ws (n_v vs 0) 2) (w_fi ws (n_v vs 0) 5 + 0).toNat = w_el w2 (w_ar ws (n_v vs 0) 2) (w_fi ws (n_v vs 0) 5 + 0).toNat := by rw [s2.1, if_neg (fun e => by have e1 := e.1; rw [← e1] at r7; rw [cr_0_2] at r7; exact absurd (Option.some.inj r7) (by decide))]
  have fe_0_5_3 : w_fi w2 (n_v vs 0) 5 = w_fi w3 (n_v vs 0) 5 := congrArg v_iv (s3.2 _ _)
  have fe_0_31_3 : w_fi w2 (n_v vs 0) 31 = w_fi w3 (n_v vs 0) 31 := congrArg v_iv (s3.2 _ _)
  have fe_0_32_3 : w_fi w2 (n_v vs 0) 32 = w_fi w3 (n_v vs 0) 32 := congrArg v_iv (s3.2 _ _)
  have ee_0_2_F5_0_3 : w_el w2 (w_ar ws (n_v vs 0) 2) (w_fi ws (n_v vs 0) 5 + 0).toNat = w_el w3 (w_ar ws (n_v vs 0) 2) (w_fi ws (n_v vs 0) 5 + 0).toNat := by rw [s3.1, if_neg (fun e => by have e1 := e.1; rw [← e1] at r5; rw [cr_0_2] at r5; exact absurd (Option.some.inj r5) (by decide))]
  have fe_0_5_4 : w_fi w3 (n_v vs 0) 5 = w_fi w4 (n_v vs 0) 5 := congrArg v_iv (s4.2 _ _)
  have fe_0_31_4 : w_fi w3 (n_v vs 0) 31 = w_fi w4 (n_v vs 0) 31 := congrArg v_iv (s4.2 _ _)
  have fe_0_32_4 : w_fi w3 (n_v vs 0) 32 = w_fi w4 (n_v vs 0) 32 := congrArg v_iv (s4.2 _ _)
  have ee_0_2_F5_0_4 : w_el w3 (w_ar ws (n_v vs 0) 2) (w_fi ws (n_v vs 0) 5 + 0).toNat = w_el w4 (w_ar ws (n_v vs 0) 2) (w_fi ws (n_v vs 0) 5 + 0).toNat := by rw [s4.1, if_neg (fun e => by have e1 := e.1; rw [← e1] at r4; rw [cr_0_2] at r4; exact absurd (Option.some.inj r4) (by decide))]
  have kz_0_31 : 0 ≤ w_fi ws (n_v vs 0) 31 ∧ w_fi ws (n_v vs 0) 31 ≤ 25 := tv_rng (th_fd hD hth r0 (g := GG_150) rfl (k := 31) (t := (0, 0, 25, [])) rfl rfl)
  have kz_0_32 : 0 ≤ w_fi ws (n_v vs 0) 32 ∧ w_fi ws (n_v vs 0) 32 ≤ 80 := tv_rng (th_fd hD hth r0 (g := GG_150) rfl (k := 32) (t := (0, 0, 80, [])) rfl rfl)
  have nf0 : fc_1 (20, [0, 11], [30, 48, 1, 1, 32, -1, 0, 0]) ws (vs) := by
    refine ⟨fun n hn => ?_, ?_⟩
    · have hn : n ∈ [0, 11] := hn
      rw [hl]
      simp only [List.mem_cons, List.not_mem_nil, or_false] at hn
      show n < 12; omega
    · show 1 * w_fi ws (n_v vs 0) 32 + ((-1) * v_iv (n_v vs 11) + 0) ≤ 48
      omega
  refine ⟨(fun _ h => (by cases h)), [], trivial, ?_, (fun _ h => (by cases h))⟩
  rw [List.append_nil]
  exact List.forall_mem_cons.mpr ⟨⟨show (20 : Nat) < 100 from by decide, nf0⟩, (fun _ h => (by cases h))⟩
def n_Mo_isOuter_an : List an_T := [(6, [(0, (2, 0, 0, [150])), (1, (0, 0, 24, []))], [], (0, 0), [(0, 0, 99994), (1, 1, 24), (0, 0, 100000)], [(1, 2, -1000000000000, 0), (2, 1, -1000000000000, 80)], [((0, 32), (0, 0, 80, []))], [], 0, [], [(20, [0, 1], [30, 48, 1, 1, 32, -1, 0, 0]), (20, [0], [30, 24, 1, 1, 31])])]
def t_Mo_isOuter_ct : ct_L := [(1, 475, e_Mo_nodes), (1, 689, e_Mo_plane), (1, 692, e_Mo_embed)]
set_option maxRecDepth 100000 in
theorem c_Mo_isOuter {l : Launch} {D : va_G} {kA : Nat → ClassId} (h_Mo_embed : ct_ok l D kA GG y_Mo_embed z_Mo_embed e_Mo_embed) (h_Mo_nodes : ct_ok l D kA GG y_Mo_nodes z_Mo_nodes e_Mo_nodes) (h_Mo_plane : ct_ok l D kA GG y_Mo_plane z_Mo_plane e_Mo_plane) : ct_ok l D kA GG y_Mo_isOuter z_Mo_isOuter e_Mo_isOuter := chk_all_ok (FT := [(57, 13, 33), (60, 13, 34), (63, 13, 35), (594, 13, 31), (597, 13, 32)]) (PT := [(594, 13, 31, .int), (597, 13, 32, .int)]) (CT := t_Mo_isOuter_ct) (KT := []) (NT := []) (AN := n_Mo_isOuter_an) (OT := [o_Mo_isOuter_0, o_Mo_isOuter_1, o_Mo_isOuter_2, o_Mo_isOuter_3, o_Mo_isOuter_4]) 3 200 (List.forall_mem_cons.mpr ⟨oo_Mo_isOuter_0, List.forall_mem_cons.mpr ⟨oo_Mo_isOuter_1, List.forall_mem_cons.mpr ⟨oo_Mo_isOuter_2, List.forall_mem_cons.mpr ⟨oo_Mo_isOuter_3, List.forall_mem_cons.mpr ⟨oo_Mo_isOuter_4, List.forall_mem_nil _⟩⟩⟩⟩⟩) (by decide +kernel) ⟨List.forall_mem_cons.mpr ⟨gf_Mo_57, List.forall_mem_cons.mpr ⟨gf_Mo_60, List.forall_mem_cons.mpr ⟨gf_Mo_63, List.forall_mem_cons.mpr ⟨gf_Mo_594, List.forall_mem_cons.mpr ⟨gf_Mo_597, List.forall_mem_nil _⟩⟩⟩⟩⟩, List.forall_mem_cons.mpr ⟨pf_Mo_594, List.forall_mem_cons.mpr ⟨pf_Mo_597, List.forall_mem_nil _⟩⟩, List.forall_mem_cons.mpr ⟨cl_virtual (y := y_Mo_nodes) (ci := 13) rfl rfl ⟨_, _, rfl⟩ (by decide +kernel) h_Mo_nodes wm_3025 wm_9 wm_3022 wm_3024 wv_13_3 ⟨by decide, by decide, by decide +kernel⟩ (by decide), List.forall_mem_cons.mpr ⟨cl_virtual (y := y_Mo_plane) (ci := 13) rfl rfl ⟨_, _, rfl⟩ (by decide +kernel) h_Mo_plane wm_3147 wm_9 wm_3144 wm_3146 wv_14_12 ⟨by decide, by decide, by decide +kernel⟩ (by decide), List.forall_mem_cons.mpr ⟨cl_virtual (y := y_Mo_embed) (ci := 13) rfl rfl ⟨_, _, rfl⟩ (by decide +kernel) h_Mo_embed wm_3151 wm_9 wm_3148 wm_3150 wv_14_13 ⟨by decide, by decide, by decide +kernel⟩ (by decide), List.forall_mem_nil _⟩⟩⟩, List.forall_mem_nil _, List.forall_mem_nil _, GG_pl⟩ (by decide +kernel)
def n_Mo_isPlanar_an : List an_T := []
def t_Mo_isPlanar_ct : ct_L := [(1, 689, e_Mo_plane), (1, 692, e_Mo_embed)]
set_option maxRecDepth 100000 in
theorem c_Mo_isPlanar {l : Launch} {D : va_G} {kA : Nat → ClassId} (h_Mo_embed : ct_ok l D kA GG y_Mo_embed z_Mo_embed e_Mo_embed) (h_Mo_plane : ct_ok l D kA GG y_Mo_plane z_Mo_plane e_Mo_plane) : ct_ok l D kA GG y_Mo_isPlanar z_Mo_isPlanar e_Mo_isPlanar := chk_all_ok (FT := []) (PT := []) (CT := t_Mo_isPlanar_ct) (KT := []) (NT := []) (AN := n_Mo_isPlanar_an) (OT := []) 0 200 (List.forall_mem_nil _) (by decide +kernel) ⟨List.forall_mem_nil _, List.forall_mem_nil _, List.forall_mem_cons.mpr ⟨cl_virtual (y := y_Mo_plane) (ci := 13) rfl rfl ⟨_, _, rfl⟩ (by decide +kernel) h_Mo_plane wm_3147 wm_9 wm_3144 wm_3146 wv_14_12 ⟨by decide, by decide, by decide +kernel⟩ (by decide), List.forall_mem_cons.mpr ⟨cl_virtual (y := y_Mo_embed) (ci := 13) rfl rfl ⟨_, _, rfl⟩ (by decide +kernel) h_Mo_embed wm_3151 wm_9 wm_3148 wm_3150 wv_14_13 ⟨by decide, by decide, by decide +kernel⟩ (by decide), List.forall_mem_nil _⟩⟩, List.forall_mem_nil _, List.forall_mem_nil _, GG_pl⟩ (by decide +kernel)
def n_Ho_count_an : List an_T := []
def t_Ho_count_ct : ct_L := [(0, 115, e_Ho_isPlace), (1, 147, e_Ho_learned)]
set_option maxRecDepth 100000 in
theorem c_Ho_count {l : Launch} {D : va_G} {kA : Nat → ClassId} (h_Ho_isPlace : ct_ok l D kA GG y_Ho_isPlace z_Ho_isPlace e_Ho_isPlace) (h_Ho_learned : ct_ok l D kA GG y_Ho_learned z_Ho_learned e_Ho_learned) : ct_ok l D kA GG y_Ho_count z_Ho_count e_Ho_count := chk_all_ok (FT := [(13, 12, 0), (132, 3, 0), (141, 3, 1), (144, 3, 2), (151, 2, 1), (154, 2, 2), (157, 2, 3), (160, 3, 17), (163, 3, 18)]) (PT := []) (CT := t_Ho_count_ct) (KT := []) (NT := []) (AN := n_Ho_count_an) (OT := []) 0 232 (List.forall_mem_nil _) (by decide +kernel) ⟨List.forall_mem_cons.mpr ⟨gf_Ho_13, List.forall_mem_cons.mpr ⟨gf_Ho_132, List.forall_mem_cons.mpr ⟨gf_Ho_141, List.forall_mem_cons.mpr ⟨gf_Ho_144, List.forall_mem_cons.mpr ⟨gf_Ho_151, List.forall_mem_cons.mpr ⟨gf_Ho_154, List.forall_mem_cons.mpr ⟨gf_Ho_157, List.forall_mem_cons.mpr ⟨gf_Ho_160, List.forall_mem_cons.mpr ⟨gf_Ho_163, List.forall_mem_nil _⟩⟩⟩⟩⟩⟩⟩⟩⟩, List.forall_mem_nil _, List.forall_mem_cons.mpr ⟨cl_static (y := y_Ho_isPlace) h_Ho_isPlace wm_633 wm_1 wm_631 wm_632 ⟨by decide, by decide, by decide +kernel⟩ (by decide), List.forall_mem_cons.mpr ⟨cl_virtual (y := y_Ho_learned) (ci := 12) rfl rfl ⟨_, _, rfl⟩ (by decide +kernel) h_Ho_learned wm_810 wm_1 wm_807 wm_809 wv_1_14 ⟨by decide, by decide, by decide +kernel⟩ (by decide), List.forall_mem_nil _⟩⟩, List.forall_mem_nil _, List.forall_mem_nil _, GG_pl⟩ (by decide +kernel)
def n_Ho_node_an : List an_T := []
def t_Ho_node_ct : ct_L := [(0, 115, e_Ho_isPlace), (1, 147, e_Ho_learned), (1, 166, e_Gr_hasNode), (348, 181, e_jInt_bitCount_v7)]
set_option maxRecDepth 100000 in
theorem c_Ho_node {l : Launch} {D : va_G} {kA : Nat → ClassId} (h_Gr_hasNode : ct_ok l D kA GG y_Gr_hasNode z_Gr_hasNode e_Gr_hasNode) (h_Ho_isPlace : ct_ok l D kA GG y_Ho_isPlace z_Ho_isPlace e_Ho_isPlace) (h_Ho_learned : ct_ok l D kA GG y_Ho_learned z_Ho_learned e_Ho_learned) : ct_ok l D kA GG y_Ho_node z_Ho_node e_Ho_node := chk_all_ok (FT := [(13, 12, 0), (169, 3, 4), (172, 3, 5), (175, 3, 6), (178, 3, 14), (185, 2, 4), (188, 2, 8), (191, 2, 6), (194, 2, 7)]) (PT := []) (CT := t_Ho_node_ct) (KT := []) (NT := []) (AN := n_Ho_node_an) (OT := []) 0 348 (List.forall_mem_nil _) (by decide +kernel) ⟨List.forall_mem_cons.mpr ⟨gf_Ho_13, List.forall_mem_cons.mpr ⟨gf_Ho_169, List.forall_mem_cons.mpr ⟨gf_Ho_172, List.forall_mem_cons.mpr ⟨gf_Ho_175, List.forall_mem_cons.mpr ⟨gf_Ho_178, List.forall_mem_cons.mpr ⟨gf_Ho_185, List.forall_mem_cons.mpr ⟨gf_Ho_188, List.forall_mem_cons.mpr ⟨gf_Ho_191, List.forall_mem_cons.mpr ⟨gf_Ho_194, List.forall_mem_nil _⟩⟩⟩⟩⟩⟩⟩⟩⟩, List.forall_mem_nil _, List.forall_mem_cons.mpr ⟨cl_static (y := y_Ho_isPlace) h_Ho_isPlace wm_633 wm_1 wm_631 wm_632 ⟨by decide, by decide, by decide +kernel⟩ (by decide), List.forall_mem_cons.mpr ⟨cl_virtual (y := y_Ho_learned) (ci := 12) rfl rfl ⟨_, _, rfl⟩ (by decide +kernel) h_Ho_learned wm_810 wm_1 wm_807 wm_809 wv_1_14 ⟨by decide, by decide, by decide +kernel⟩ (by decide), List.forall_mem_cons.mpr ⟨cl_virtual (y := y_Gr_hasNode) (ci := 3) rfl rfl ⟨_, _, rfl⟩ (by decide +kernel) h_Gr_hasNode wm_921 wm_3 wm_918 wm_919 wm_920 ⟨by decide, by decide, by decide +kernel⟩ (by decide), List.forall_mem_cons.mpr ⟨cl_static (y := y_jInt_bitCount) c_jInt_bitCount_v7 wm_870 wm_17 wm_922 wm_869 ⟨by decide, by decide, by decide +kernel⟩ (by decide), List.forall_mem_nil _⟩⟩⟩⟩, List.forall_mem_nil _, List.forall_mem_nil _, GG_pl⟩ (by decide +kernel)
def o_Re_readItem_0 : or_T := (64, 8, [(0, (2, 0, 0, [8])), (7, (0, 1, 1, []))], [(8, [7], [1]), (20, [0, 0, 0, 0], [31, 1, -3, -1, 1, 7, 4008, 1, 1, 6, -1, 1, 8, 2000, 1, 7]), (20, [0, 0], [30, 0, 1, 1, 8, -1, 1, 6]), (20, [0, 0, 7], [30, 2008, 1, 1, 6, -1, 1, 8, 2000, 0, 0])], [], [], [(20, [0, 0], [30, 8, 1, 1, 6, -1, 1, 8]), (20, [0, 0], [30, 0, -1, 1, 6, 1, 1, 8])], [], [])
theorem oo_Re_readItem_0 {kA : Nat → ClassId} : or_ok kA GG o_Re_readItem_0 := by
  intro A ta ws vs hD hth hl hk hds hf
  have hl : vs.length = 8 := hl
  have hk : ∀ q ∈ ([(0, (2, 0, 0, [8])), (7, (0, 1, 1, []))] : List (Nat × tv_T)), tv_ok ta q.2 (n_v vs q.1) := hk
  obtain ⟨t0, hk⟩ := List.forall_mem_cons.mp hk
  have t0 : tv_ok ta (2, 0, 0, [8]) (n_v vs 0) := t0
  have r0 : ta (v_ad (n_v vs 0)) = some 8 := tv_rg t0
  obtain ⟨t7, hk⟩ := List.forall_mem_cons.mp hk
  have t7 : tv_ok ta (0, 1, 1, []) (n_v vs 7) := t7
  have k7 : 1 ≤ v_iv (n_v vs 7) ∧ v_iv (n_v vs 7) ≤ 1 := tv_rng t7
  have hf : fc_ok [(8, [7], [1]), (20, [0, 0, 0, 0], [31, 1, -3, -1, 1, 7, 4008, 1, 1, 6, -1, 1, 8, 2000, 1, 7]), (20, [0, 0], [30, 0, 1, 1, 8, -1, 1, 6]), (20, [0, 0, 7], [30, 2008, 1, 1, 6, -1, 1, 8, 2000, 0, 0])] ta ws vs := hf
  obtain ⟨f0, hf⟩ := fc_un (show (8 : Nat) < 100 from by decide) hf
  have f0 : v_iv (n_v vs 7) ≠ 0 := f0
  obtain ⟨f1, hf⟩ := fc_un (show (20 : Nat) < 100 from by decide) hf
  have f1 : ((-1) * w_fi ws (n_v vs 0) 7 + 0 ≤ (-3)) ∨ (1 * w_fi ws (n_v vs 0) 6 + ((-1) * w_fi ws (n_v vs 0) 8 + (2000 * w_fi ws (n_v vs 0) 7 + 0)) ≤ 4008) := f1
  obtain ⟨f2, hf⟩ := fc_un (show (20 : Nat) < 100 from by decide) hf
  have f2 : 1 * w_fi ws (n_v vs 0) 8 + ((-1) * w_fi ws (n_v vs 0) 6 + 0) ≤ 0 := f2
  obtain ⟨f3, hf⟩ := fc_un (show (20 : Nat) < 100 from by decide) hf
  have f3 : 1 * w_fi ws (n_v vs 0) 6 + ((-1) * w_fi ws (n_v vs 0) 8 + (2000 * v_iv (n_v vs 7) + 0)) ≤ 2008 := f3
  have kz_0_6 : 0 ≤ w_fi ws (n_v vs 0) 6 ∧ w_fi ws (n_v vs 0) 6 ≤ 2000 := tv_rng (th_fd hD hth r0 (g := GG_8) rfl (k := 6) (t := (0, 0, 2000, [])) rfl rfl)
  have kz_0_7 : (-128) ≤ w_fi ws (n_v vs 0) 7 ∧ w_fi ws (n_v vs 0) 7 ≤ 127 := tv_rng (th_fd hD hth r0 (g := GG_8) rfl (k := 7) (t := (0, -128, 127, [])) rfl rfl)
  have kz_0_8 : 0 ≤ w_fi ws (n_v vs 0) 8 ∧ w_fi ws (n_v vs 0) 8 ≤ 2000 := tv_rng (th_fd hD hth r0 (g := GG_8) rfl (k := 8) (t := (0, 0, 2000, [])) rfl rfl)
  have nf0 : fc_1 (20, [0, 0], [30, 8, 1, 1, 6, -1, 1, 8]) ws (vs) := by
    refine ⟨fun n hn => ?_, ?_⟩
    · have hn : n ∈ [0, 0] := hn
      rw [hl]
      simp only [List.mem_cons, List.not_mem_nil, or_false] at hn
      show n < 8; omega
    · show 1 * w_fi ws (n_v vs 0) 6 + ((-1) * w_fi ws (n_v vs 0) 8 + 0) ≤ 8
      omega
  have nf1 : fc_1 (20, [0, 0], [30, 0, -1, 1, 6, 1, 1, 8]) ws (vs) := by
    refine ⟨fun n hn => ?_, ?_⟩
    · have hn : n ∈ [0, 0] := hn
      rw [hl]
      simp only [List.mem_cons, List.not_mem_nil, or_false] at hn
      show n < 8; omega
    · show (-1) * w_fi ws (n_v vs 0) 6 + (1 * w_fi ws (n_v vs 0) 8 + 0) ≤ 0
      omega
  refine ⟨(fun _ h => (by cases h)), [], trivial, ?_, (fun _ h => (by cases h))⟩
  rw [List.append_nil]
  exact List.forall_mem_cons.mpr ⟨⟨show (20 : Nat) < 100 from by decide, nf0⟩, List.forall_mem_cons.mpr ⟨⟨show (20 : Nat) < 100 from by decide, nf1⟩, (fun _ h => (by cases h))⟩⟩
def o_Re_readItem_1 : or_T := (64, 9, [(0, (2, 0, 0, [8])), (8, (0, 1, 1, []))], [(8, [8], [1]), (20, [0, 0, 0, 0], [31, 1, -3, -1, 1, 7, 4008, 1, 1, 6, -1, 1, 8, 2000, 1, 7]), (20, [0, 0], [30, 0, 1, 1, 8, -1, 1, 6]), (20, [0, 0, 8], [30, 2008, 1, 1, 6, -1, 1, 8, 2000, 0, 0])], [], [], [(20, [0, 0], [30, 8, 1, 1, 6, -1, 1, 8]), (20, [0, 0], [30, 0, -1, 1, 6, 1, 1, 8])], [], [])
theorem oo_Re_readItem_1 {kA : Nat → ClassId} : or_ok kA GG o_Re_readItem_1 := by
  intro A ta ws vs hD hth hl hk hds hf
  have hl : vs.length = 9 := hl
  have hk : ∀ q ∈ ([(0, (2, 0, 0, [8])), (8, (0, 1, 1, []))] : List (Nat × tv_T)), tv_ok ta q.2 (n_v vs q.1) := hk
  obtain ⟨t0, hk⟩ := List.forall_mem_cons.mp hk
  have t0 : tv_ok ta (2, 0, 0, [8]) (n_v vs 0) := t0
  have r0 : ta (v_ad (n_v vs 0)) = some 8 := tv_rg t0
  obtain ⟨t8, hk⟩ := List.forall_mem_cons.mp hk
  have t8 : tv_ok ta (0, 1, 1, []) (n_v vs 8) := t8
  have k8 : 1 ≤ v_iv (n_v vs 8) ∧ v_iv (n_v vs 8) ≤ 1 := tv_rng t8
  have hf : fc_ok [(8, [8], [1]), (20, [0, 0, 0, 0], [31, 1, -3, -1, 1, 7, 4008, 1, 1, 6, -1, 1, 8, 2000, 1, 7]), (20, [0, 0], [30, 0, 1, 1, 8, -1, 1, 6]), (20, [0, 0, 8], [30, 2008, 1, 1, 6, -1, 1, 8, 2000, 0, 0])] ta ws vs := hf
  obtain ⟨f0, hf⟩ := fc_un (show (8 : Nat) < 100 from by decide) hf
  have f0 : v_iv (n_v vs 8) ≠ 0 := f0
  obtain ⟨f1, hf⟩ := fc_un (show (20 : Nat) < 100 from by decide) hf
  have f1 : ((-1) * w_fi ws (n_v vs 0) 7 + 0 ≤ (-3)) ∨ (1 * w_fi ws (n_v vs 0) 6 + ((-1) * w_fi ws (n_v vs 0) 8 + (2000 * w_fi ws (n_v vs 0) 7 + 0)) ≤ 4008) := f1
  obtain ⟨f2, hf⟩ := fc_un (show (20 : Nat) < 100 from by decide) hf
  have f2 : 1 * w_fi ws (n_v vs 0) 8 + ((-1) * w_fi ws (n_v vs 0) 6 + 0) ≤ 0 := f2
  obtain ⟨f3, hf⟩ := fc_un (show (20 : Nat) < 100 from by decide) hf
  have f3 : 1 * w_fi ws (n_v vs 0) 6 + ((-1) * w_fi ws (n_v vs 0) 8 + (2000 * v_iv (n_v vs 8) + 0)) ≤ 2008 := f3
  have kz_0_6 : 0 ≤ w_fi ws (n_v vs 0) 6 ∧ w_fi ws (n_v vs 0) 6 ≤ 2000 := tv_rng (th_fd hD hth r0 (g := GG_8) rfl (k := 6) (t := (0, 0, 2000, [])) rfl rfl)
  have kz_0_7 : (-128) ≤ w_fi ws (n_v vs 0) 7 ∧ w_fi ws (n_v vs 0) 7 ≤ 127 := tv_rng (th_fd hD hth r0 (g := GG_8) rfl (k := 7) (t := (0, -128, 127, [])) rfl rfl)
  have kz_0_8 : 0 ≤ w_fi ws (n_v vs 0) 8 ∧ w_fi ws (n_v vs 0) 8 ≤ 2000 := tv_rng (th_fd hD hth r0 (g := GG_8) rfl (k := 8) (t := (0, 0, 2000, [])) rfl rfl)
  have nf0 : fc_1 (20, [0, 0], [30, 8, 1, 1, 6, -1, 1, 8]) ws (vs) := by
    refine ⟨fun n hn => ?_, ?_⟩
    · have hn : n ∈ [0, 0] := hn
      rw [hl]
      simp only [List.mem_cons, List.not_mem_nil, or_false] at hn
      show n < 9; omega
    · show 1 * w_fi ws (n_v vs 0) 6 + ((-1) * w_fi ws (n_v vs 0) 8 + 0) ≤ 8
      omega
  have nf1 : fc_1 (20, [0, 0], [30, 0, -1, 1, 6, 1, 1, 8]) ws (vs) := by
    refine ⟨fun n hn => ?_, ?_⟩
    · have hn : n ∈ [0, 0] := hn
      rw [hl]
      simp only [List.mem_cons, List.not_mem_nil, or_false] at hn
      show n < 9; omega
    · show (-1) * w_fi ws (n_v vs 0) 6 + (1 * w_fi ws (n_v vs 0) 8 + 0) ≤ 0
      omega
  refine ⟨(fun _ h => (by cases h)), [], trivial, ?_, (fun _ h => (by cases h))⟩
  rw [List.append_nil]
  exact List.forall_mem_cons.mpr ⟨⟨show (20 : Nat) < 100 from by decide, nf0⟩, List.forall_mem_cons.mpr ⟨⟨show (20 : Nat) < 100 from by decide, nf1⟩, (fun _ h => (by cases h))⟩⟩
def n_Re_readItem_an : List an_T := []
def t_Re_readItem_ct : ct_L := [(1, 101, e_Re_readNode), (1, 104, e_Re_readGroup), (1, 107, e_Re_isName), (1, 110, e_Re_readEdges), (1, 113, e_Re_fail), (97, 95, e_Re_isWord_at_s5000), (139, 95, e_Re_isWord_at_s5001), (1000000, 93, en_ro [] (2, 0, 0, [5000])), (1000000, 99, en_ro [] (2, 0, 0, [5001]))]
set_option maxRecDepth 100000 in
theorem c_Re_readItem {l : Launch} {D : va_G} {kA : Nat → ClassId} (h_Re_fail : ct_ok l D kA GG y_Re_fail z_Re_fail e_Re_fail) (h_Re_isName : ct_ok l D kA GG y_Re_isName z_Re_isName e_Re_isName) (h_Re_isWord_at_s5000 : ct_ok l D kA GG y_Re_isWord_at_s5000 z_Re_isWord_at_s5000 e_Re_isWord_at_s5000) (h_Re_isWord_at_s5001 : ct_ok l D kA GG y_Re_isWord_at_s5001 z_Re_isWord_at_s5001 e_Re_isWord_at_s5001) (h_Re_readEdges : ct_ok l D kA GG y_Re_readEdges z_Re_readEdges e_Re_readEdges) (h_Re_readGroup : ct_ok l D kA GG y_Re_readGroup z_Re_readGroup e_Re_readGroup) (h_Re_readNode : ct_ok l D kA GG y_Re_readNode z_Re_readNode e_Re_readNode) : ct_ok l D kA GG y_Re_readItem z_Re_readItem e_Re_readItem := chk_all_ok (FT := [(38, 8, 7), (51, 8, 11)]) (PT := [(51, 8, 11, .int)]) (CT := t_Re_readItem_ct) (KT := []) (NT := []) (AN := n_Re_readItem_an) (OT := [o_Re_readItem_0, o_Re_readItem_1]) 0 260 (List.forall_mem_cons.mpr ⟨oo_Re_readItem_0, List.forall_mem_cons.mpr ⟨oo_Re_readItem_1, List.forall_mem_nil _⟩⟩) (by decide +kernel) ⟨List.forall_mem_cons.mpr ⟨gf_Re_38, List.forall_mem_cons.mpr ⟨gf_Re_51, List.forall_mem_nil _⟩⟩, List.forall_mem_cons.mpr ⟨pf_Re_51, List.forall_mem_nil _⟩, List.forall_mem_cons.mpr ⟨cl_virtual (y := y_Re_readNode) (ci := 8) rfl rfl ⟨_, _, rfl⟩ (by decide +kernel) h_Re_readNode wm_722 wm_2 wm_719 wm_721 wv_1_3 ⟨by decide, by decide, by decide +kernel⟩ (by decide), List.forall_mem_cons.mpr ⟨cl_virtual (y := y_Re_readGroup) (ci := 8) rfl rfl ⟨_, _, rfl⟩ (by decide +kernel) h_Re_readGroup wm_759 wm_2 wm_756 wm_758 wv_1_9 ⟨by decide, by decide, by decide +kernel⟩ (by decide), List.forall_mem_cons.mpr ⟨cl_virtual (y := y_Re_isName) (ci := 8) rfl rfl ⟨_, _, rfl⟩ (by decide +kernel) h_Re_isName wm_726 wm_2 wm_723 wm_725 wv_1_4 ⟨by decide, by decide, by decide +kernel⟩ (by decide), List.forall_mem_cons.mpr ⟨cl_virtual (y := y_Re_readEdges) (ci := 8) rfl rfl ⟨_, _, rfl⟩ (by decide +kernel) h_Re_readEdges wm_764 wm_2 wm_761 wm_763 wv_1_10 ⟨by decide, by decide, by decide +kernel⟩ (by decide), List.forall_mem_cons.mpr ⟨cl_virtual (y := y_Re_fail) (ci := 8) rfl rfl ⟨_, _, rfl⟩ (by decide +kernel) h_Re_fail wm_731 wm_2 wm_728 wm_730 wv_1_5 ⟨by decide, by decide, by decide +kernel⟩ (by decide), List.forall_mem_cons.mpr ⟨cl_virtual (y := y_Re_isWord_at_s5000) (ci := 8) rfl rfl ⟨_, _, rfl⟩ (by decide +kernel) h_Re_isWord_at_s5000 wm_670 wm_2 wm_667 wm_669 wv_1_2 ⟨by decide, by decide, by decide +kernel⟩ (by decide), List.forall_mem_cons.mpr ⟨cl_virtual (y := y_Re_isWord_at_s5001) (ci := 8) rfl rfl ⟨_, _, rfl⟩ (by decide +kernel) h_Re_isWord_at_s5001 wm_670 wm_2 wm_667 wm_669 wv_1_2 ⟨by decide, by decide, by decide +kernel⟩ (by decide), List.forall_mem_cons.mpr ⟨cl_ldc (own := "DrawingHouse$Reader") (idx := 93) (i := 0) (tx := "node") (by decide +kernel) (by decide +kernel) (by decide +kernel), List.forall_mem_cons.mpr ⟨cl_ldc (own := "DrawingHouse$Reader") (idx := 99) (i := 1) (tx := "group") (by decide +kernel) (by decide +kernel) (by decide +kernel), List.forall_mem_nil _⟩⟩⟩⟩⟩⟩⟩⟩⟩, List.forall_mem_nil _, List.forall_mem_nil _, GG_pl⟩ (by decide +kernel)
def n_Sy_compileBoth_at_k0_an : List an_T := [(12, [(0, (2, 0, 0, [11])), (1, (0, 0, 0, [])), (2, (0, 0, 2000, []))], [], (0, 0), [(0, 0, 99988), (1, 2, 2000), (0, 0, 100000)], [], [((0, 3), (2, 0, 0, [109]))], [], 0, [], [])]
def t_Sy_compileBoth_at_k0_ct : ct_L := [(1, 69, e_Sy_advance), (1, 128, e_Sy_emit), (10, 145, e_Sy_compileOne_at_k0), (70, 114, e_Sy_wordIn_at_s5010), (106, 145, e_Sy_compileOne_at_k0), (1000000, 148, en_ro [] (2, 0, 0, [5010]))]
set_option maxRecDepth 100000 in
theorem c_Sy_compileBoth_at_k0 {l : Launch} {D : va_G} {kA : Nat → ClassId} (h_Sy_advance : ct_ok l D kA GG y_Sy_advance z_Sy_advance e_Sy_advance) (h_Sy_compileOne_at_k0 : ct_ok l D kA GG y_Sy_compileOne_at_k0 z_Sy_compileOne_at_k0 e_Sy_compileOne_at_k0) (h_Sy_emit : ct_ok l D kA GG y_Sy_emit z_Sy_emit e_Sy_emit) (h_Sy_wordIn_at_s5010 : ct_ok l D kA GG y_Sy_wordIn_at_s5010 z_Sy_wordIn_at_s5010 e_Sy_wordIn_at_s5010) : ct_ok l D kA GG y_Sy_compileBoth_at_k0 z_Sy_compileBoth_at_k0 e_Sy_compileBoth_at_k0 := chk_all_ok (FT := []) (PT := []) (CT := t_Sy_compileBoth_at_k0_ct) (KT := []) (NT := []) (AN := n_Sy_compileBoth_at_k0_an) (OT := []) 3 200 (List.forall_mem_nil _) (by decide +kernel) ⟨List.forall_mem_nil _, List.forall_mem_nil _, List.forall_mem_cons.mpr ⟨cl_virtual (y := y_Sy_advance) (ci := 11) rfl rfl ⟨_, _, rfl⟩ (by decide +kernel) h_Sy_advance wm_2158 wm_23 wm_2155 wm_2157 wv_10_10 ⟨by decide, by decide, by decide +kernel⟩ (by decide), List.forall_mem_cons.mpr ⟨cl_virtual (y := y_Sy_emit) (ci := 11) rfl rfl ⟨_, _, rfl⟩ (by decide +kernel) h_Sy_emit wm_2258 wm_23 wm_2255 wm_2257 wv_11_2 ⟨by decide, by decide, by decide +kernel⟩ (by decide), List.forall_mem_cons.mpr ⟨cl_virtual (y := y_Sy_compileOne_at_k0) (ci := 11) rfl rfl ⟨_, _, rfl⟩ (by decide +kernel) h_Sy_compileOne_at_k0 wm_2253 wm_23 wm_2250 wm_2252 wv_11_1 ⟨by decide, by decide, by decide +kernel⟩ (by decide), List.forall_mem_cons.mpr ⟨cl_virtual (y := y_Sy_wordIn_at_s5010) (ci := 11) rfl rfl ⟨_, _, rfl⟩ (by decide +kernel) h_Sy_wordIn_at_s5010 wm_2229 wm_23 wm_2226 wm_2228 wv_10_12 ⟨by decide, by decide, by decide +kernel⟩ (by decide), List.forall_mem_cons.mpr ⟨cl_virtual (y := y_Sy_compileOne_at_k0) (ci := 11) rfl rfl ⟨_, _, rfl⟩ (by decide +kernel) h_Sy_compileOne_at_k0 wm_2253 wm_23 wm_2250 wm_2252 wv_11_1 ⟨by decide, by decide, by decide +kernel⟩ (by decide), List.forall_mem_cons.mpr ⟨cl_ldc (own := "DrawingHouse$Styler") (idx := 148) (i := 10) (tx := "and ") (by decide +kernel) (by decide +kernel) (by decide +kernel), List.forall_mem_nil _⟩⟩⟩⟩⟩⟩, List.forall_mem_nil _, List.forall_mem_nil _, GG_pl⟩ (by decide +kernel)
def n_Sy_compileBoth_at_k1_an : List an_T := [(12, [(0, (2, 0, 0, [11])), (1, (0, 1, 1, [])), (2, (0, 0, 2000, []))], [], (0, 0), [(0, 0, 99988), (1, 2, 2000), (0, 0, 100000)], [], [((0, 3), (2, 0, 0, [109]))], [], 0, [], [])]
def t_Sy_compileBoth_at_k1_ct : ct_L := [(1, 69, e_Sy_advance), (1, 128, e_Sy_emit), (10, 145, e_Sy_compileOne_at_k1), (70, 114, e_Sy_wordIn_at_s5010), (106, 145, e_Sy_compileOne_at_k1), (1000000, 148, en_ro [] (2, 0, 0, [5010]))]
set_option maxRecDepth 100000 in
theorem c_Sy_compileBoth_at_k1 {l : Launch} {D : va_G} {kA : Nat → ClassId} (h_Sy_advance : ct_ok l D kA GG y_Sy_advance z_Sy_advance e_Sy_advance) (h_Sy_compileOne_at_k1 : ct_ok l D kA GG y_Sy_compileOne_at_k1 z_Sy_compileOne_at_k1 e_Sy_compileOne_at_k1) (h_Sy_emit : ct_ok l D kA GG y_Sy_emit z_Sy_emit e_Sy_emit) (h_Sy_wordIn_at_s5010 : ct_ok l D kA GG y_Sy_wordIn_at_s5010 z_Sy_wordIn_at_s5010 e_Sy_wordIn_at_s5010) : ct_ok l D kA GG y_Sy_compileBoth_at_k1 z_Sy_compileBoth_at_k1 e_Sy_compileBoth_at_k1 := chk_all_ok (FT := []) (PT := []) (CT := t_Sy_compileBoth_at_k1_ct) (KT := []) (NT := []) (AN := n_Sy_compileBoth_at_k1_an) (OT := []) 3 200 (List.forall_mem_nil _) (by decide +kernel) ⟨List.forall_mem_nil _, List.forall_mem_nil _, List.forall_mem_cons.mpr ⟨cl_virtual (y := y_Sy_advance) (ci := 11) rfl rfl ⟨_, _, rfl⟩ (by decide +kernel) h_Sy_advance wm_2158 wm_23 wm_2155 wm_2157 wv_10_10 ⟨by decide, by decide, by decide +kernel⟩ (by decide), List.forall_mem_cons.mpr ⟨cl_virtual (y := y_Sy_emit) (ci := 11) rfl rfl ⟨_, _, rfl⟩ (by decide +kernel) h_Sy_emit wm_2258 wm_23 wm_2255 wm_2257 wv_11_2 ⟨by decide, by decide, by decide +kernel⟩ (by decide), List.forall_mem_cons.mpr ⟨cl_virtual (y := y_Sy_compileOne_at_k1) (ci := 11) rfl rfl ⟨_, _, rfl⟩ (by decide +kernel) h_Sy_compileOne_at_k1 wm_2253 wm_23 wm_2250 wm_2252 wv_11_1 ⟨by decide, by decide, by decide +kernel⟩ (by decide), List.forall_mem_cons.mpr ⟨cl_virtual (y := y_Sy_wordIn_at_s5010) (ci := 11) rfl rfl ⟨_, _, rfl⟩ (by decide +kernel) h_Sy_wordIn_at_s5010 wm_2229 wm_23 wm_2226 wm_2228 wv_10_12 ⟨by decide, by decide, by decide +kernel⟩ (by decide), List.forall_mem_cons.mpr ⟨cl_virtual (y := y_Sy_compileOne_at_k1) (ci := 11) rfl rfl ⟨_, _, rfl⟩ (by decide +kernel) h_Sy_compileOne_at_k1 wm_2253 wm_23 wm_2250 wm_2252 wv_11_1 ⟨by decide, by decide, by decide +kernel⟩ (by decide), List.forall_mem_cons.mpr ⟨cl_ldc (own := "DrawingHouse$Styler") (idx := 148) (i := 10) (tx := "and ") (by decide +kernel) (by decide +kernel) (by decide +kernel), List.forall_mem_nil _⟩⟩⟩⟩⟩⟩, List.forall_mem_nil _, List.forall_mem_nil _, GG_pl⟩ (by decide +kernel)
def n_Sy_compileBoth_at_k10_an : List an_T := [(12, [(0, (2, 0, 0, [11])), (1, (0, 10, 10, [])), (2, (0, 0, 2000, []))], [], (0, 0), [(0, 0, 99988), (1, 2, 2000), (0, 0, 100000)], [], [((0, 3), (2, 0, 0, [109]))], [], 0, [], [])]
def t_Sy_compileBoth_at_k10_ct : ct_L := [(1, 69, e_Sy_advance), (1, 128, e_Sy_emit), (10, 145, e_Sy_compileOne_at_k10), (70, 114, e_Sy_wordIn_at_s5010), (106, 145, e_Sy_compileOne_at_k10), (1000000, 148, en_ro [] (2, 0, 0, [5010]))]
set_option maxRecDepth 100000 in
theorem c_Sy_compileBoth_at_k10 {l : Launch} {D : va_G} {kA : Nat → ClassId} (h_Sy_advance : ct_ok l D kA GG y_Sy_advance z_Sy_advance e_Sy_advance) (h_Sy_compileOne_at_k10 : ct_ok l D kA GG y_Sy_compileOne_at_k10 z_Sy_compileOne_at_k10 e_Sy_compileOne_at_k10) (h_Sy_emit : ct_ok l D kA GG y_Sy_emit z_Sy_emit e_Sy_emit) (h_Sy_wordIn_at_s5010 : ct_ok l D kA GG y_Sy_wordIn_at_s5010 z_Sy_wordIn_at_s5010 e_Sy_wordIn_at_s5010) : ct_ok l D kA GG y_Sy_compileBoth_at_k10 z_Sy_compileBoth_at_k10 e_Sy_compileBoth_at_k10 := chk_all_ok (FT := []) (PT := []) (CT := t_Sy_compileBoth_at_k10_ct) (KT := []) (NT := []) (AN := n_Sy_compileBoth_at_k10_an) (OT := []) 3 200 (List.forall_mem_nil _) (by decide +kernel) ⟨List.forall_mem_nil _, List.forall_mem_nil _, List.forall_mem_cons.mpr ⟨cl_virtual (y := y_Sy_advance) (ci := 11) rfl rfl ⟨_, _, rfl⟩ (by decide +kernel) h_Sy_advance wm_2158 wm_23 wm_2155 wm_2157 wv_10_10 ⟨by decide, by decide, by decide +kernel⟩ (by decide), List.forall_mem_cons.mpr ⟨cl_virtual (y := y_Sy_emit) (ci := 11) rfl rfl ⟨_, _, rfl⟩ (by decide +kernel) h_Sy_emit wm_2258 wm_23 wm_2255 wm_2257 wv_11_2 ⟨by decide, by decide, by decide +kernel⟩ (by decide), List.forall_mem_cons.mpr ⟨cl_virtual (y := y_Sy_compileOne_at_k10) (ci := 11) rfl rfl ⟨_, _, rfl⟩ (by decide +kernel) h_Sy_compileOne_at_k10 wm_2253 wm_23 wm_2250 wm_2252 wv_11_1 ⟨by decide, by decide, by decide +kernel⟩ (by decide), List.forall_mem_cons.mpr ⟨cl_virtual (y := y_Sy_wordIn_at_s5010) (ci := 11) rfl rfl ⟨_, _, rfl⟩ (by decide +kernel) h_Sy_wordIn_at_s5010 wm_2229 wm_23 wm_2226 wm_2228 wv_10_12 ⟨by decide, by decide, by decide +kernel⟩ (by decide), List.forall_mem_cons.mpr ⟨cl_virtual (y := y_Sy_compileOne_at_k10) (ci := 11) rfl rfl ⟨_, _, rfl⟩ (by decide +kernel) h_Sy_compileOne_at_k10 wm_2253 wm_23 wm_2250 wm_2252 wv_11_1 ⟨by decide, by decide, by decide +kernel⟩ (by decide), List.forall_mem_cons.mpr ⟨cl_ldc (own := "DrawingHouse$Styler") (idx := 148) (i := 10) (tx := "and ") (by decide +kernel) (by decide +kernel) (by decide +kernel), List.forall_mem_nil _⟩⟩⟩⟩⟩⟩, List.forall_mem_nil _, List.forall_mem_nil _, GG_pl⟩ (by decide +kernel)
def n_Sy_compileBoth_at_k11_an : List an_T := [(12, [(0, (2, 0, 0, [11])), (1, (0, 11, 11, [])), (2, (0, 0, 2000, []))], [], (0, 0), [(0, 0, 99988), (1, 2, 2000), (0, 0, 100000)], [], [((0, 3), (2, 0, 0, [109]))], [], 0, [], [])]
def t_Sy_compileBoth_at_k11_ct : ct_L := [(1, 69, e_Sy_advance), (1, 128, e_Sy_emit), (10, 145, e_Sy_compileOne_at_k11), (70, 114, e_Sy_wordIn_at_s5010), (106, 145, e_Sy_compileOne_at_k11), (1000000, 148, en_ro [] (2, 0, 0, [5010]))]
set_option maxRecDepth 100000 in
theorem c_Sy_compileBoth_at_k11 {l : Launch} {D : va_G} {kA : Nat → ClassId} (h_Sy_advance : ct_ok l D kA GG y_Sy_advance z_Sy_advance e_Sy_advance) (h_Sy_compileOne_at_k11 : ct_ok l D kA GG y_Sy_compileOne_at_k11 z_Sy_compileOne_at_k11 e_Sy_compileOne_at_k11) (h_Sy_emit : ct_ok l D kA GG y_Sy_emit z_Sy_emit e_Sy_emit) (h_Sy_wordIn_at_s5010 : ct_ok l D kA GG y_Sy_wordIn_at_s5010 z_Sy_wordIn_at_s5010 e_Sy_wordIn_at_s5010) : ct_ok l D kA GG y_Sy_compileBoth_at_k11 z_Sy_compileBoth_at_k11 e_Sy_compileBoth_at_k11 := chk_all_ok (FT := []) (PT := []) (CT := t_Sy_compileBoth_at_k11_ct) (KT := []) (NT := []) (AN := n_Sy_compileBoth_at_k11_an) (OT := []) 3 200 (List.forall_mem_nil _) (by decide +kernel) ⟨List.forall_mem_nil _, List.forall_mem_nil _, List.forall_mem_cons.mpr ⟨cl_virtual (y := y_Sy_advance) (ci := 11) rfl rfl ⟨_, _, rfl⟩ (by decide +kernel) h_Sy_advance wm_2158 wm_23 wm_2155 wm_2157 wv_10_10 ⟨by decide, by decide, by decide +kernel⟩ (by decide), List.forall_mem_cons.mpr ⟨cl_virtual (y := y_Sy_emit) (ci := 11) rfl rfl ⟨_, _, rfl⟩ (by decide +kernel) h_Sy_emit wm_2258 wm_23 wm_2255 wm_2257 wv_11_2 ⟨by decide, by decide, by decide +kernel⟩ (by decide), List.forall_mem_cons.mpr ⟨cl_virtual (y := y_Sy_compileOne_at_k11) (ci := 11) rfl rfl ⟨_, _, rfl⟩ (by decide +kernel) h_Sy_compileOne_at_k11 wm_2253 wm_23 wm_2250 wm_2252 wv_11_1 ⟨by decide, by decide, by decide +kernel⟩ (by decide), List.forall_mem_cons.mpr ⟨cl_virtual (y := y_Sy_wordIn_at_s5010) (ci := 11) rfl rfl ⟨_, _, rfl⟩ (by decide +kernel) h_Sy_wordIn_at_s5010 wm_2229 wm_23 wm_2226 wm_2228 wv_10_12 ⟨by decide, by decide, by decide +kernel⟩ (by decide), List.forall_mem_cons.mpr ⟨cl_virtual (y := y_Sy_compileOne_at_k11) (ci := 11) rfl rfl ⟨_, _, rfl⟩ (by decide +kernel) h_Sy_compileOne_at_k11 wm_2253 wm_23 wm_2250 wm_2252 wv_11_1 ⟨by decide, by decide, by decide +kernel⟩ (by decide), List.forall_mem_cons.mpr ⟨cl_ldc (own := "DrawingHouse$Styler") (idx := 148) (i := 10) (tx := "and ") (by decide +kernel) (by decide +kernel) (by decide +kernel), List.forall_mem_nil _⟩⟩⟩⟩⟩⟩, List.forall_mem_nil _, List.forall_mem_nil _, GG_pl⟩ (by decide +kernel)
def n_Sy_compileBoth_at_k12_an : List an_T := [(12, [(0, (2, 0, 0, [11])), (1, (0, 12, 12, [])), (2, (0, 0, 2000, []))], [], (0, 0), [(0, 0, 99988), (1, 2, 2000), (0, 0, 100000)], [], [((0, 3), (2, 0, 0, [109]))], [], 0, [], [])]
def t_Sy_compileBoth_at_k12_ct : ct_L := [(1, 69, e_Sy_advance), (1, 128, e_Sy_emit), (10, 145, e_Sy_compileOne_at_k12), (70, 114, e_Sy_wordIn_at_s5010), (106, 145, e_Sy_compileOne_at_k12), (1000000, 148, en_ro [] (2, 0, 0, [5010]))]
set_option maxRecDepth 100000 in
theorem c_Sy_compileBoth_at_k12 {l : Launch} {D : va_G} {kA : Nat → ClassId} (h_Sy_advance : ct_ok l D kA GG y_Sy_advance z_Sy_advance e_Sy_advance) (h_Sy_compileOne_at_k12 : ct_ok l D kA GG y_Sy_compileOne_at_k12 z_Sy_compileOne_at_k12 e_Sy_compileOne_at_k12) (h_Sy_emit : ct_ok l D kA GG y_Sy_emit z_Sy_emit e_Sy_emit) (h_Sy_wordIn_at_s5010 : ct_ok l D kA GG y_Sy_wordIn_at_s5010 z_Sy_wordIn_at_s5010 e_Sy_wordIn_at_s5010) : ct_ok l D kA GG y_Sy_compileBoth_at_k12 z_Sy_compileBoth_at_k12 e_Sy_compileBoth_at_k12 := chk_all_ok (FT := []) (PT := []) (CT := t_Sy_compileBoth_at_k12_ct) (KT := []) (NT := []) (AN := n_Sy_compileBoth_at_k12_an) (OT := []) 3 200 (List.forall_mem_nil _) (by decide +kernel) ⟨List.forall_mem_nil _, List.forall_mem_nil _, List.forall_mem_cons.mpr ⟨cl_virtual (y := y_Sy_advance) (ci := 11) rfl rfl ⟨_, _, rfl⟩ (by decide +kernel) h_Sy_advance wm_2158 wm_23 wm_2155 wm_2157 wv_10_10 ⟨by decide, by decide, by decide +kernel⟩ (by decide), List.forall_mem_cons.mpr ⟨cl_virtual (y := y_Sy_emit) (ci := 11) rfl rfl ⟨_, _, rfl⟩ (by decide +kernel) h_Sy_emit wm_2258 wm_23 wm_2255 wm_2257 wv_11_2 ⟨by decide, by decide, by decide +kernel⟩ (by decide), List.forall_mem_cons.mpr ⟨cl_virtual (y := y_Sy_compileOne_at_k12) (ci := 11) rfl rfl ⟨_, _, rfl⟩ (by decide +kernel) h_Sy_compileOne_at_k12 wm_2253 wm_23 wm_2250 wm_2252 wv_11_1 ⟨by decide, by decide, by decide +kernel⟩ (by decide), List.forall_mem_cons.mpr ⟨cl_virtual (y := y_Sy_wordIn_at_s5010) (ci := 11) rfl rfl ⟨_, _, rfl⟩ (by decide +kernel) h_Sy_wordIn_at_s5010 wm_2229 wm_23 wm_2226 wm_2228 wv_10_12 ⟨by decide, by decide, by decide +kernel⟩ (by decide), List.forall_mem_cons.mpr ⟨cl_virtual (y := y_Sy_compileOne_at_k12) (ci := 11) rfl rfl ⟨_, _, rfl⟩ (by decide +kernel) h_Sy_compileOne_at_k12 wm_2253 wm_23 wm_2250 wm_2252 wv_11_1 ⟨by decide, by decide, by decide +kernel⟩ (by decide), List.forall_mem_cons.mpr ⟨cl_ldc (own := "DrawingHouse$Styler") (idx := 148) (i := 10) (tx := "and ") (by decide +kernel) (by decide +kernel) (by decide +kernel), List.forall_mem_nil _⟩⟩⟩⟩⟩⟩, List.forall_mem_nil _, List.forall_mem_nil _, GG_pl⟩ (by decide +kernel)
def n_Sy_compileBoth_at_k2_an : List an_T := [(12, [(0, (2, 0, 0, [11])), (1, (0, 2, 2, [])), (2, (0, 0, 2000, []))], [], (0, 0), [(0, 0, 99988), (1, 2, 2000), (0, 0, 100000)], [], [((0, 3), (2, 0, 0, [109]))], [], 0, [], [])]
def t_Sy_compileBoth_at_k2_ct : ct_L := [(1, 69, e_Sy_advance), (1, 128, e_Sy_emit), (10, 145, e_Sy_compileOne_at_k2), (70, 114, e_Sy_wordIn_at_s5010), (106, 145, e_Sy_compileOne_at_k2), (1000000, 148, en_ro [] (2, 0, 0, [5010]))]
set_option maxRecDepth 100000 in
theorem c_Sy_compileBoth_at_k2 {l : Launch} {D : va_G} {kA : Nat → ClassId} (h_Sy_advance : ct_ok l D kA GG y_Sy_advance z_Sy_advance e_Sy_advance) (h_Sy_compileOne_at_k2 : ct_ok l D kA GG y_Sy_compileOne_at_k2 z_Sy_compileOne_at_k2 e_Sy_compileOne_at_k2) (h_Sy_emit : ct_ok l D kA GG y_Sy_emit z_Sy_emit e_Sy_emit) (h_Sy_wordIn_at_s5010 : ct_ok l D kA GG y_Sy_wordIn_at_s5010 z_Sy_wordIn_at_s5010 e_Sy_wordIn_at_s5010) : ct_ok l D kA GG y_Sy_compileBoth_at_k2 z_Sy_compileBoth_at_k2 e_Sy_compileBoth_at_k2 := chk_all_ok (FT := []) (PT := []) (CT := t_Sy_compileBoth_at_k2_ct) (KT := []) (NT := []) (AN := n_Sy_compileBoth_at_k2_an) (OT := []) 3 200 (List.forall_mem_nil _) (by decide +kernel) ⟨List.forall_mem_nil _, List.forall_mem_nil _, List.forall_mem_cons.mpr ⟨cl_virtual (y := y_Sy_advance) (ci := 11) rfl rfl ⟨_, _, rfl⟩ (by decide +kernel) h_Sy_advance wm_2158 wm_23 wm_2155 wm_2157 wv_10_10 ⟨by decide, by decide, by decide +kernel⟩ (by decide), List.forall_mem_cons.mpr ⟨cl_virtual (y := y_Sy_emit) (ci := 11) rfl rfl ⟨_, _, rfl⟩ (by decide +kernel) h_Sy_emit wm_2258 wm_23 wm_2255 wm_2257 wv_11_2 ⟨by decide, by decide, by decide +kernel⟩ (by decide), List.forall_mem_cons.mpr ⟨cl_virtual (y := y_Sy_compileOne_at_k2) (ci := 11) rfl rfl ⟨_, _, rfl⟩ (by decide +kernel) h_Sy_compileOne_at_k2 wm_2253 wm_23 wm_2250 wm_2252 wv_11_1 ⟨by decide, by decide, by decide +kernel⟩ (by decide), List.forall_mem_cons.mpr ⟨cl_virtual (y := y_Sy_wordIn_at_s5010) (ci := 11) rfl rfl ⟨_, _, rfl⟩ (by decide +kernel) h_Sy_wordIn_at_s5010 wm_2229 wm_23 wm_2226 wm_2228 wv_10_12 ⟨by decide, by decide, by decide +kernel⟩ (by decide), List.forall_mem_cons.mpr ⟨cl_virtual (y := y_Sy_compileOne_at_k2) (ci := 11) rfl rfl ⟨_, _, rfl⟩ (by decide +kernel) h_Sy_compileOne_at_k2 wm_2253 wm_23 wm_2250 wm_2252 wv_11_1 ⟨by decide, by decide, by decide +kernel⟩ (by decide), List.forall_mem_cons.mpr ⟨cl_ldc (own := "DrawingHouse$Styler") (idx := 148) (i := 10) (tx := "and ") (by decide +kernel) (by decide +kernel) (by decide +kernel), List.forall_mem_nil _⟩⟩⟩⟩⟩⟩, List.forall_mem_nil _, List.forall_mem_nil _, GG_pl⟩ (by decide +kernel)
def n_Sy_compileBoth_at_k3_an : List an_T := [(12, [(0, (2, 0, 0, [11])), (1, (0, 3, 3, [])), (2, (0, 0, 2000, []))], [], (0, 0), [(0, 0, 99988), (1, 2, 2000), (0, 0, 100000)], [], [((0, 3), (2, 0, 0, [109]))], [], 0, [], [])]
def t_Sy_compileBoth_at_k3_ct : ct_L := [(1, 69, e_Sy_advance), (1, 128, e_Sy_emit), (10, 145, e_Sy_compileOne_at_k3), (70, 114, e_Sy_wordIn_at_s5010), (106, 145, e_Sy_compileOne_at_k3), (1000000, 148, en_ro [] (2, 0, 0, [5010]))]
set_option maxRecDepth 100000 in
theorem c_Sy_compileBoth_at_k3 {l : Launch} {D : va_G} {kA : Nat → ClassId} (h_Sy_advance : ct_ok l D kA GG y_Sy_advance z_Sy_advance e_Sy_advance) (h_Sy_compileOne_at_k3 : ct_ok l D kA GG y_Sy_compileOne_at_k3 z_Sy_compileOne_at_k3 e_Sy_compileOne_at_k3) (h_Sy_emit : ct_ok l D kA GG y_Sy_emit z_Sy_emit e_Sy_emit) (h_Sy_wordIn_at_s5010 : ct_ok l D kA GG y_Sy_wordIn_at_s5010 z_Sy_wordIn_at_s5010 e_Sy_wordIn_at_s5010) : ct_ok l D kA GG y_Sy_compileBoth_at_k3 z_Sy_compileBoth_at_k3 e_Sy_compileBoth_at_k3 := chk_all_ok (FT := []) (PT := []) (CT := t_Sy_compileBoth_at_k3_ct) (KT := []) (NT := []) (AN := n_Sy_compileBoth_at_k3_an) (OT := []) 3 200 (List.forall_mem_nil _) (by decide +kernel) ⟨List.forall_mem_nil _, List.forall_mem_nil _, List.forall_mem_cons.mpr ⟨cl_virtual (y := y_Sy_advance) (ci := 11) rfl rfl ⟨_, _, rfl⟩ (by decide +kernel) h_Sy_advance wm_2158 wm_23 wm_2155 wm_2157 wv_10_10 ⟨by decide, by decide, by decide +kernel⟩ (by decide), List.forall_mem_cons.mpr ⟨cl_virtual (y := y_Sy_emit) (ci := 11) rfl rfl ⟨_, _, rfl⟩ (by decide +kernel) h_Sy_emit wm_2258 wm_23 wm_2255 wm_2257 wv_11_2 ⟨by decide, by decide, by decide +kernel⟩ (by decide), List.forall_mem_cons.mpr ⟨cl_virtual (y := y_Sy_compileOne_at_k3) (ci := 11) rfl rfl ⟨_, _, rfl⟩ (by decide +kernel) h_Sy_compileOne_at_k3 wm_2253 wm_23 wm_2250 wm_2252 wv_11_1 ⟨by decide, by decide, by decide +kernel⟩ (by decide), List.forall_mem_cons.mpr ⟨cl_virtual (y := y_Sy_wordIn_at_s5010) (ci := 11) rfl rfl ⟨_, _, rfl⟩ (by decide +kernel) h_Sy_wordIn_at_s5010 wm_2229 wm_23 wm_2226 wm_2228 wv_10_12 ⟨by decide, by decide, by decide +kernel⟩ (by decide), List.forall_mem_cons.mpr ⟨cl_virtual (y := y_Sy_compileOne_at_k3) (ci := 11) rfl rfl ⟨_, _, rfl⟩ (by decide +kernel) h_Sy_compileOne_at_k3 wm_2253 wm_23 wm_2250 wm_2252 wv_11_1 ⟨by decide, by decide, by decide +kernel⟩ (by decide), List.forall_mem_cons.mpr ⟨cl_ldc (own := "DrawingHouse$Styler") (idx := 148) (i := 10) (tx := "and ") (by decide +kernel) (by decide +kernel) (by decide +kernel), List.forall_mem_nil _⟩⟩⟩⟩⟩⟩, List.forall_mem_nil _, List.forall_mem_nil _, GG_pl⟩ (by decide +kernel)
def n_Sy_compileBoth_at_k4_an : List an_T := [(12, [(0, (2, 0, 0, [11])), (1, (0, 4, 4, [])), (2, (0, 0, 2000, []))], [], (0, 0), [(0, 0, 99988), (1, 2, 2000), (0, 0, 100000)], [], [((0, 3), (2, 0, 0, [109]))], [], 0, [], [])]
def t_Sy_compileBoth_at_k4_ct : ct_L := [(1, 69, e_Sy_advance), (1, 128, e_Sy_emit), (10, 145, e_Sy_compileOne_at_k4), (70, 114, e_Sy_wordIn_at_s5010), (106, 145, e_Sy_compileOne_at_k4), (1000000, 148, en_ro [] (2, 0, 0, [5010]))]
set_option maxRecDepth 100000 in
theorem c_Sy_compileBoth_at_k4 {l : Launch} {D : va_G} {kA : Nat → ClassId} (h_Sy_advance : ct_ok l D kA GG y_Sy_advance z_Sy_advance e_Sy_advance) (h_Sy_compileOne_at_k4 : ct_ok l D kA GG y_Sy_compileOne_at_k4 z_Sy_compileOne_at_k4 e_Sy_compileOne_at_k4) (h_Sy_emit : ct_ok l D kA GG y_Sy_emit z_Sy_emit e_Sy_emit) (h_Sy_wordIn_at_s5010 : ct_ok l D kA GG y_Sy_wordIn_at_s5010 z_Sy_wordIn_at_s5010 e_Sy_wordIn_at_s5010) : ct_ok l D kA GG y_Sy_compileBoth_at_k4 z_Sy_compileBoth_at_k4 e_Sy_compileBoth_at_k4 := chk_all_ok (FT := []) (PT := []) (CT := t_Sy_compileBoth_at_k4_ct) (KT := []) (NT := []) (AN := n_Sy_compileBoth_at_k4_an) (OT := []) 3 200 (List.forall_mem_nil _) (by decide +kernel) ⟨List.forall_mem_nil _, List.forall_mem_nil _, List.forall_mem_cons.mpr ⟨cl_virtual (y := y_Sy_advance) (ci := 11) rfl rfl ⟨_, _, rfl⟩ (by decide +kernel) h_Sy_advance wm_2158 wm_23 wm_2155 wm_2157 wv_10_10 ⟨by decide, by decide, by decide +kernel⟩ (by decide), List.forall_mem_cons.mpr ⟨cl_virtual (y := y_Sy_emit) (ci := 11) rfl rfl ⟨_, _, rfl⟩ (by decide +kernel) h_Sy_emit wm_2258 wm_23 wm_2255 wm_2257 wv_11_2 ⟨by decide, by decide, by decide +kernel⟩ (by decide), List.forall_mem_cons.mpr ⟨cl_virtual (y := y_Sy_compileOne_at_k4) (ci := 11) rfl rfl ⟨_, _, rfl⟩ (by decide +kernel) h_Sy_compileOne_at_k4 wm_2253 wm_23 wm_2250 wm_2252 wv_11_1 ⟨by decide, by decide, by decide +kernel⟩ (by decide), List.forall_mem_cons.mpr ⟨cl_virtual (y := y_Sy_wordIn_at_s5010) (ci := 11) rfl rfl ⟨_, _, rfl⟩ (by decide +kernel) h_Sy_wordIn_at_s5010 wm_2229 wm_23 wm_2226 wm_2228 wv_10_12 ⟨by decide, by decide, by decide +kernel⟩ (by decide), List.forall_mem_cons.mpr ⟨cl_virtual (y := y_Sy_compileOne_at_k4) (ci := 11) rfl rfl ⟨_, _, rfl⟩ (by decide +kernel) h_Sy_compileOne_at_k4 wm_2253 wm_23 wm_2250 wm_2252 wv_11_1 ⟨by decide, by decide, by decide +kernel⟩ (by decide), List.forall_mem_cons.mpr ⟨cl_ldc (own := "DrawingHouse$Styler") (idx := 148) (i := 10) (tx := "and ") (by decide +kernel) (by decide +kernel) (by decide +kernel), List.forall_mem_nil _⟩⟩⟩⟩⟩⟩, List.forall_mem_nil _, List.forall_mem_nil _, GG_pl⟩ (by decide +kernel)
def n_Sy_compileBoth_at_k5_an : List an_T := [(12, [(0, (2, 0, 0, [11])), (1, (0, 5, 5, [])), (2, (0, 0, 2000, []))], [], (0, 0), [(0, 0, 99988), (1, 2, 2000), (0, 0, 100000)], [], [((0, 3), (2, 0, 0, [109]))], [], 0, [], [])]
def t_Sy_compileBoth_at_k5_ct : ct_L := [(1, 69, e_Sy_advance), (1, 128, e_Sy_emit), (10, 145, e_Sy_compileOne_at_k5), (70, 114, e_Sy_wordIn_at_s5010), (106, 145, e_Sy_compileOne_at_k5), (1000000, 148, en_ro [] (2, 0, 0, [5010]))]
set_option maxRecDepth 100000 in
theorem c_Sy_compileBoth_at_k5 {l : Launch} {D : va_G} {kA : Nat → ClassId} (h_Sy_advance : ct_ok l D kA GG y_Sy_advance z_Sy_advance e_Sy_advance) (h_Sy_compileOne_at_k5 : ct_ok l D kA GG y_Sy_compileOne_at_k5 z_Sy_compileOne_at_k5 e_Sy_compileOne_at_k5) (h_Sy_emit : ct_ok l D kA GG y_Sy_emit z_Sy_emit e_Sy_emit) (h_Sy_wordIn_at_s5010 : ct_ok l D kA GG y_Sy_wordIn_at_s5010 z_Sy_wordIn_at_s5010 e_Sy_wordIn_at_s5010) : ct_ok l D kA GG y_Sy_compileBoth_at_k5 z_Sy_compileBoth_at_k5 e_Sy_compileBoth_at_k5 := chk_all_ok (FT := []) (PT := []) (CT := t_Sy_compileBoth_at_k5_ct) (KT := []) (NT := []) (AN := n_Sy_compileBoth_at_k5_an) (OT := []) 3 200 (List.forall_mem_nil _) (by decide +kernel) ⟨List.forall_mem_nil _, List.forall_mem_nil _, List.forall_mem_cons.mpr ⟨cl_virtual (y := y_Sy_advance) (ci := 11) rfl rfl ⟨_, _, rfl⟩ (by decide +kernel) h_Sy_advance wm_2158 wm_23 wm_2155 wm_2157 wv_10_10 ⟨by decide, by decide, by decide +kernel⟩ (by decide), List.forall_mem_cons.mpr ⟨cl_virtual (y := y_Sy_emit) (ci := 11) rfl rfl ⟨_, _, rfl⟩ (by decide +kernel) h_Sy_emit wm_2258 wm_23 wm_2255 wm_2257 wv_11_2 ⟨by decide, by decide, by decide +kernel⟩ (by decide), List.forall_mem_cons.mpr ⟨cl_virtual (y := y_Sy_compileOne_at_k5) (ci := 11) rfl rfl ⟨_, _, rfl⟩ (by decide +kernel) h_Sy_compileOne_at_k5 wm_2253 wm_23 wm_2250 wm_2252 wv_11_1 ⟨by decide, by decide, by decide +kernel⟩ (by decide), List.forall_mem_cons.mpr ⟨cl_virtual (y := y_Sy_wordIn_at_s5010) (ci := 11) rfl rfl ⟨_, _, rfl⟩ (by decide +kernel) h_Sy_wordIn_at_s5010 wm_2229 wm_23 wm_2226 wm_2228 wv_10_12 ⟨by decide, by decide, by decide +kernel⟩ (by decide), List.forall_mem_cons.mpr ⟨cl_virtual (y := y_Sy_compileOne_at_k5) (ci := 11) rfl rfl ⟨_, _, rfl⟩ (by decide +kernel) h_Sy_compileOne_at_k5 wm_2253 wm_23 wm_2250 wm_2252 wv_11_1 ⟨by decide, by decide, by decide +kernel⟩ (by decide), List.forall_mem_cons.mpr ⟨cl_ldc (own := "DrawingHouse$Styler") (idx := 148) (i := 10) (tx := "and ") (by decide +kernel) (by decide +kernel) (by decide +kernel), List.forall_mem_nil _⟩⟩⟩⟩⟩⟩, List.forall_mem_nil _, List.forall_mem_nil _, GG_pl⟩ (by decide +kernel)
def n_Sy_compileBoth_at_k6_an : List an_T := [(12, [(0, (2, 0, 0, [11])), (1, (0, 6, 6, [])), (2, (0, 0, 2000, []))], [], (0, 0), [(0, 0, 99988), (1, 2, 2000), (0, 0, 100000)], [], [((0, 3), (2, 0, 0, [109]))], [], 0, [], [])]
def t_Sy_compileBoth_at_k6_ct : ct_L := [(1, 69, e_Sy_advance), (1, 128, e_Sy_emit), (10, 145, e_Sy_compileOne_at_k6), (70, 114, e_Sy_wordIn_at_s5010), (106, 145, e_Sy_compileOne_at_k6), (1000000, 148, en_ro [] (2, 0, 0, [5010]))]
set_option maxRecDepth 100000 in
theorem c_Sy_compileBoth_at_k6 {l : Launch} {D : va_G} {kA : Nat → ClassId} (h_Sy_advance : ct_ok l D kA GG y_Sy_advance z_Sy_advance e_Sy_advance) (h_Sy_compileOne_at_k6 : ct_ok l D kA GG y_Sy_compileOne_at_k6 z_Sy_compileOne_at_k6 e_Sy_compileOne_at_k6) (h_Sy_emit : ct_ok l D kA GG y_Sy_emit z_Sy_emit e_Sy_emit) (h_Sy_wordIn_at_s5010 : ct_ok l D kA GG y_Sy_wordIn_at_s5010 z_Sy_wordIn_at_s5010 e_Sy_wordIn_at_s5010) : ct_ok l D kA GG y_Sy_compileBoth_at_k6 z_Sy_compileBoth_at_k6 e_Sy_compileBoth_at_k6 := chk_all_ok (FT := []) (PT := []) (CT := t_Sy_compileBoth_at_k6_ct) (KT := []) (NT := []) (AN := n_Sy_compileBoth_at_k6_an) (OT := []) 3 200 (List.forall_mem_nil _) (by decide +kernel) ⟨List.forall_mem_nil _, List.forall_mem_nil _, List.forall_mem_cons.mpr ⟨cl_virtual (y := y_Sy_advance) (ci := 11) rfl rfl ⟨_, _, rfl⟩ (by decide +kernel) h_Sy_advance wm_2158 wm_23 wm_2155 wm_2157 wv_10_10 ⟨by decide, by decide, by decide +kernel⟩ (by decide), List.forall_mem_cons.mpr ⟨cl_virtual (y := y_Sy_emit) (ci := 11) rfl rfl ⟨_, _, rfl⟩ (by decide +kernel) h_Sy_emit wm_2258 wm_23 wm_2255 wm_2257 wv_11_2 ⟨by decide, by decide, by decide +kernel⟩ (by decide), List.forall_mem_cons.mpr ⟨cl_virtual (y := y_Sy_compileOne_at_k6) (ci := 11) rfl rfl ⟨_, _, rfl⟩ (by decide +kernel) h_Sy_compileOne_at_k6 wm_2253 wm_23 wm_2250 wm_2252 wv_11_1 ⟨by decide, by decide, by decide +kernel⟩ (by decide), List.forall_mem_cons.mpr ⟨cl_virtual (y := y_Sy_wordIn_at_s5010) (ci := 11) rfl rfl ⟨_, _, rfl⟩ (by decide +kernel) h_Sy_wordIn_at_s5010 wm_2229 wm_23 wm_2226 wm_2228 wv_10_12 ⟨by decide, by decide, by decide +kernel⟩ (by decide), List.forall_mem_cons.mpr ⟨cl_virtual (y := y_Sy_compileOne_at_k6) (ci := 11) rfl rfl ⟨_, _, rfl⟩ (by decide +kernel) h_Sy_compileOne_at_k6 wm_2253 wm_23 wm_2250 wm_2252 wv_11_1 ⟨by decide, by decide, by decide +kernel⟩ (by decide), List.forall_mem_cons.mpr ⟨cl_ldc (own := "DrawingHouse$Styler") (idx := 148) (i := 10) (tx := "and ") (by decide +kernel) (by decide +kernel) (by decide +kernel), List.forall_mem_nil _⟩⟩⟩⟩⟩⟩, List.forall_mem_nil _, List.forall_mem_nil _, GG_pl⟩ (by decide +kernel)
def n_Sy_compileBoth_at_k7_an : List an_T := [(12, [(0, (2, 0, 0, [11])), (1, (0, 7, 7, [])), (2, (0, 0, 2000, []))], [], (0, 0), [(0, 0, 99988), (1, 2, 2000), (0, 0, 100000)], [], [((0, 3), (2, 0, 0, [109]))], [], 0, [], [])]
def t_Sy_compileBoth_at_k7_ct : ct_L := [(1, 69, e_Sy_advance), (1, 128, e_Sy_emit), (10, 145, e_Sy_compileOne_at_k7), (70, 114, e_Sy_wordIn_at_s5010), (106, 145, e_Sy_compileOne_at_k7), (1000000, 148, en_ro [] (2, 0, 0, [5010]))]
set_option maxRecDepth 100000 in
theorem c_Sy_compileBoth_at_k7 {l : Launch} {D : va_G} {kA : Nat → ClassId} (h_Sy_advance : ct_ok l D kA GG y_Sy_advance z_Sy_advance e_Sy_advance) (h_Sy_compileOne_at_k7 : ct_ok l D kA GG y_Sy_compileOne_at_k7 z_Sy_compileOne_at_k7 e_Sy_compileOne_at_k7) (h_Sy_emit : ct_ok l D kA GG y_Sy_emit z_Sy_emit e_Sy_emit) (h_Sy_wordIn_at_s5010 : ct_ok l D kA GG y_Sy_wordIn_at_s5010 z_Sy_wordIn_at_s5010 e_Sy_wordIn_at_s5010) : ct_ok l D kA GG y_Sy_compileBoth_at_k7 z_Sy_compileBoth_at_k7 e_Sy_compileBoth_at_k7 := chk_all_ok (FT := []) (PT := []) (CT := t_Sy_compileBoth_at_k7_ct) (KT := []) (NT := []) (AN := n_Sy_compileBoth_at_k7_an) (OT := []) 3 200 (List.forall_mem_nil _) (by decide +kernel) ⟨List.forall_mem_nil _, List.forall_mem_nil _, List.forall_mem_cons.mpr ⟨cl_virtual (y := y_Sy_advance) (ci := 11) rfl rfl ⟨_, _, rfl⟩ (by decide +kernel) h_Sy_advance wm_2158 wm_23 wm_2155 wm_2157 wv_10_10 ⟨by decide, by decide, by decide +kernel⟩ (by decide), List.forall_mem_cons.mpr ⟨cl_virtual (y := y_Sy_emit) (ci := 11) rfl rfl ⟨_, _, rfl⟩ (by decide +kernel) h_Sy_emit wm_2258 wm_23 wm_2255 wm_2257 wv_11_2 ⟨by decide, by decide, by decide +kernel⟩ (by decide), List.forall_mem_cons.mpr ⟨cl_virtual (y := y_Sy_compileOne_at_k7) (ci := 11) rfl rfl ⟨_, _, rfl⟩ (by decide +kernel) h_Sy_compileOne_at_k7 wm_2253 wm_23 wm_2250 wm_2252 wv_11_1 ⟨by decide, by decide, by decide +kernel⟩ (by decide), List.forall_mem_cons.mpr ⟨cl_virtual (y := y_Sy_wordIn_at_s5010) (ci := 11) rfl rfl ⟨_, _, rfl⟩ (by decide +kernel) h_Sy_wordIn_at_s5010 wm_2229 wm_23 wm_2226 wm_2228 wv_10_12 ⟨by decide, by decide, by decide +kernel⟩ (by decide), List.forall_mem_cons.mpr ⟨cl_virtual (y := y_Sy_compileOne_at_k7) (ci := 11) rfl rfl ⟨_, _, rfl⟩ (by decide +kernel) h_Sy_compileOne_at_k7 wm_2253 wm_23 wm_2250 wm_2252 wv_11_1 ⟨by decide, by decide, by decide +kernel⟩ (by decide), List.forall_mem_cons.mpr ⟨cl_ldc (own := "DrawingHouse$Styler") (idx := 148) (i := 10) (tx := "and ") (by decide +kernel) (by decide +kernel) (by decide +kernel), List.forall_mem_nil _⟩⟩⟩⟩⟩⟩, List.forall_mem_nil _, List.forall_mem_nil _, GG_pl⟩ (by decide +kernel)
def n_Sy_compileBoth_at_k8_an : List an_T := [(12, [(0, (2, 0, 0, [11])), (1, (0, 8, 8, [])), (2, (0, 0, 2000, []))], [], (0, 0), [(0, 0, 99988), (1, 2, 2000), (0, 0, 100000)], [], [((0, 3), (2, 0, 0, [109]))], [], 0, [], [])]
def t_Sy_compileBoth_at_k8_ct : ct_L := [(1, 69, e_Sy_advance), (1, 128, e_Sy_emit), (10, 145, e_Sy_compileOne_at_k8), (70, 114, e_Sy_wordIn_at_s5010), (106, 145, e_Sy_compileOne_at_k8), (1000000, 148, en_ro [] (2, 0, 0, [5010]))]
set_option maxRecDepth 100000 in
theorem c_Sy_compileBoth_at_k8 {l : Launch} {D : va_G} {kA : Nat → ClassId} (h_Sy_advance : ct_ok l D kA GG y_Sy_advance z_Sy_advance e_Sy_advance) (h_Sy_compileOne_at_k8 : ct_ok l D kA GG y_Sy_compileOne_at_k8 z_Sy_compileOne_at_k8 e_Sy_compileOne_at_k8) (h_Sy_emit : ct_ok l D kA GG y_Sy_emit z_Sy_emit e_Sy_emit) (h_Sy_wordIn_at_s5010 : ct_ok l D kA GG y_Sy_wordIn_at_s5010 z_Sy_wordIn_at_s5010 e_Sy_wordIn_at_s5010) : ct_ok l D kA GG y_Sy_compileBoth_at_k8 z_Sy_compileBoth_at_k8 e_Sy_compileBoth_at_k8 := chk_all_ok (FT := []) (PT := []) (CT := t_Sy_compileBoth_at_k8_ct) (KT := []) (NT := []) (AN := n_Sy_compileBoth_at_k8_an) (OT := []) 3 200 (List.forall_mem_nil _) (by decide +kernel) ⟨List.forall_mem_nil _, List.forall_mem_nil _, List.forall_mem_cons.mpr ⟨cl_virtual (y := y_Sy_advance) (ci := 11) rfl rfl ⟨_, _, rfl⟩ (by decide +kernel) h_Sy_advance wm_2158 wm_23 wm_2155 wm_2157 wv_10_10 ⟨by decide, by decide, by decide +kernel⟩ (by decide), List.forall_mem_cons.mpr ⟨cl_virtual (y := y_Sy_emit) (ci := 11) rfl rfl ⟨_, _, rfl⟩ (by decide +kernel) h_Sy_emit wm_2258 wm_23 wm_2255 wm_2257 wv_11_2 ⟨by decide, by decide, by decide +kernel⟩ (by decide), List.forall_mem_cons.mpr ⟨cl_virtual (y := y_Sy_compileOne_at_k8) (ci := 11) rfl rfl ⟨_, _, rfl⟩ (by decide +kernel) h_Sy_compileOne_at_k8 wm_2253 wm_23 wm_2250 wm_2252 wv_11_1 ⟨by decide, by decide, by decide +kernel⟩ (by decide), List.forall_mem_cons.mpr ⟨cl_virtual (y := y_Sy_wordIn_at_s5010) (ci := 11) rfl rfl ⟨_, _, rfl⟩ (by decide +kernel) h_Sy_wordIn_at_s5010 wm_2229 wm_23 wm_2226 wm_2228 wv_10_12 ⟨by decide, by decide, by decide +kernel⟩ (by decide), List.forall_mem_cons.mpr ⟨cl_virtual (y := y_Sy_compileOne_at_k8) (ci := 11) rfl rfl ⟨_, _, rfl⟩ (by decide +kernel) h_Sy_compileOne_at_k8 wm_2253 wm_23 wm_2250 wm_2252 wv_11_1 ⟨by decide, by decide, by decide +kernel⟩ (by decide), List.forall_mem_cons.mpr ⟨cl_ldc (own := "DrawingHouse$Styler") (idx := 148) (i := 10) (tx := "and ") (by decide +kernel) (by decide +kernel) (by decide +kernel), List.forall_mem_nil _⟩⟩⟩⟩⟩⟩, List.forall_mem_nil _, List.forall_mem_nil _, GG_pl⟩ (by decide +kernel)
def n_Sy_compileBoth_at_k9_an : List an_T := [(12, [(0, (2, 0, 0, [11])), (1, (0, 9, 9, [])), (2, (0, 0, 2000, []))], [], (0, 0), [(0, 0, 99988), (1, 2, 2000), (0, 0, 100000)], [], [((0, 3), (2, 0, 0, [109]))], [], 0, [], [])]
def t_Sy_compileBoth_at_k9_ct : ct_L := [(1, 69, e_Sy_advance), (1, 128, e_Sy_emit), (10, 145, e_Sy_compileOne_at_k9), (70, 114, e_Sy_wordIn_at_s5010), (106, 145, e_Sy_compileOne_at_k9), (1000000, 148, en_ro [] (2, 0, 0, [5010]))]
set_option maxRecDepth 100000 in
theorem c_Sy_compileBoth_at_k9 {l : Launch} {D : va_G} {kA : Nat → ClassId} (h_Sy_advance : ct_ok l D kA GG y_Sy_advance z_Sy_advance e_Sy_advance) (h_Sy_compileOne_at_k9 : ct_ok l D kA GG y_Sy_compileOne_at_k9 z_Sy_compileOne_at_k9 e_Sy_compileOne_at_k9) (h_Sy_emit : ct_ok l D kA GG y_Sy_emit z_Sy_emit e_Sy_emit) (h_Sy_wordIn_at_s5010 : ct_ok l D kA GG y_Sy_wordIn_at_s5010 z_Sy_wordIn_at_s5010 e_Sy_wordIn_at_s5010) : ct_ok l D kA GG y_Sy_compileBoth_at_k9 z_Sy_compileBoth_at_k9 e_Sy_compileBoth_at_k9 := chk_all_ok (FT := []) (PT := []) (CT := t_Sy_compileBoth_at_k9_ct) (KT := []) (NT := []) (AN := n_Sy_compileBoth_at_k9_an) (OT := []) 3 200 (List.forall_mem_nil _) (by decide +kernel) ⟨List.forall_mem_nil _, List.forall_mem_nil _, List.forall_mem_cons.mpr ⟨cl_virtual (y := y_Sy_advance) (ci := 11) rfl rfl ⟨_, _, rfl⟩ (by decide +kernel) h_Sy_advance wm_2158 wm_23 wm_2155 wm_2157 wv_10_10 ⟨by decide, by decide, by decide +kernel⟩ (by decide), List.forall_mem_cons.mpr ⟨cl_virtual (y := y_Sy_emit) (ci := 11) rfl rfl ⟨_, _, rfl⟩ (by decide +kernel) h_Sy_emit wm_2258 wm_23 wm_2255 wm_2257 wv_11_2 ⟨by decide, by decide, by decide +kernel⟩ (by decide), List.forall_mem_cons.mpr ⟨cl_virtual (y := y_Sy_compileOne_at_k9) (ci := 11) rfl rfl ⟨_, _, rfl⟩ (by decide +kernel) h_Sy_compileOne_at_k9 wm_2253 wm_23 wm_2250 wm_2252 wv_11_1 ⟨by decide, by decide, by decide +kernel⟩ (by decide), List.forall_mem_cons.mpr ⟨cl_virtual (y := y_Sy_wordIn_at_s5010) (ci := 11) rfl rfl ⟨_, _, rfl⟩ (by decide +kernel) h_Sy_wordIn_at_s5010 wm_2229 wm_23 wm_2226 wm_2228 wv_10_12 ⟨by decide, by decide, by decide +kernel⟩ (by decide), List.forall_mem_cons.mpr ⟨cl_virtual (y := y_Sy_compileOne_at_k9) (ci := 11) rfl rfl ⟨_, _, rfl⟩ (by decide +kernel) h_Sy_compileOne_at_k9 wm_2253 wm_23 wm_2250 wm_2252 wv_11_1 ⟨by decide, by decide, by decide +kernel⟩ (by decide), List.forall_mem_cons.mpr ⟨cl_ldc (own := "DrawingHouse$Styler") (idx := 148) (i := 10) (tx := "and ") (by decide +kernel) (by decide +kernel) (by decide +kernel), List.forall_mem_nil _⟩⟩⟩⟩⟩⟩, List.forall_mem_nil _, List.forall_mem_nil _, GG_pl⟩ (by decide +kernel)
def n_Sy_compileOne_at_k0_an : List an_T := []
def t_Sy_compileOne_at_k0_ct : ct_L := [(1, 69, e_Sy_advance), (1, 118, e_Sy_fail), (1, 128, e_Sy_emit), (1, 152, e_Sy_closes), (13, 114, e_Sy_wordIn_at_s5009), (160, 145, e_Sy_compileOne_at_k1), (211, 125, e_Sy_compileTest_at_k1), (262, 137, e_Sy_compileSum_at_k0), (391, 137, e_Sy_compileSum_at_k0), (1000000, 150, en_ro [] (2, 0, 0, [5009]))]
set_option maxRecDepth 100000 in
theorem c_Sy_compileOne_at_k0 {l : Launch} {D : va_G} {kA : Nat → ClassId} (h_Sy_advance : ct_ok l D kA GG y_Sy_advance z_Sy_advance e_Sy_advance) (h_Sy_closes : ct_ok l D kA GG y_Sy_closes z_Sy_closes e_Sy_closes) (h_Sy_compileOne_at_k1 : ct_ok l D kA GG y_Sy_compileOne_at_k1 z_Sy_compileOne_at_k1 e_Sy_compileOne_at_k1) (h_Sy_compileSum_at_k0 : ct_ok l D kA GG y_Sy_compileSum_at_k0 z_Sy_compileSum_at_k0 e_Sy_compileSum_at_k0) (h_Sy_compileTest_at_k1 : ct_ok l D kA GG y_Sy_compileTest_at_k1 z_Sy_compileTest_at_k1 e_Sy_compileTest_at_k1) (h_Sy_emit : ct_ok l D kA GG y_Sy_emit z_Sy_emit e_Sy_emit) (h_Sy_fail : ct_ok l D kA GG y_Sy_fail z_Sy_fail e_Sy_fail) (h_Sy_wordIn_at_s5009 : ct_ok l D kA GG y_Sy_wordIn_at_s5009 z_Sy_wordIn_at_s5009 e_Sy_wordIn_at_s5009) : ct_ok l D kA GG y_Sy_compileOne_at_k0 z_Sy_compileOne_at_k0 e_Sy_compileOne_at_k0 := chk_all_ok (FT := [(31, 11, 6)]) (PT := []) (CT := t_Sy_compileOne_at_k0_ct) (KT := []) (NT := []) (AN := n_Sy_compileOne_at_k0_an) (OT := []) 0 580 (List.forall_mem_nil _) (by decide +kernel) ⟨List.forall_mem_cons.mpr ⟨gf_Sy_31, List.forall_mem_nil _⟩, List.forall_mem_nil _, List.forall_mem_cons.mpr ⟨cl_virtual (y := y_Sy_advance) (ci := 11) rfl rfl ⟨_, _, rfl⟩ (by decide +kernel) h_Sy_advance wm_2158 wm_23 wm_2155 wm_2157 wv_10_10 ⟨by decide, by decide, by decide +kernel⟩ (by decide), List.forall_mem_cons.mpr ⟨cl_virtual (y := y_Sy_fail) (ci := 11) rfl rfl ⟨_, _, rfl⟩ (by decide +kernel) h_Sy_fail wm_2239 wm_23 wm_2236 wm_2238 wv_10_14 ⟨by decide, by decide, by decide +kernel⟩ (by decide), List.forall_mem_cons.mpr ⟨cl_virtual (y := y_Sy_emit) (ci := 11) rfl rfl ⟨_, _, rfl⟩ (by decide +kernel) h_Sy_emit wm_2258 wm_23 wm_2255 wm_2257 wv_11_2 ⟨by decide, by decide, by decide +kernel⟩ (by decide), List.forall_mem_cons.mpr ⟨cl_virtual (y := y_Sy_closes) (ci := 11) rfl rfl ⟨_, _, rfl⟩ (by decide +kernel) h_Sy_closes wm_2262 wm_23 wm_2259 wm_2261 wv_11_3 ⟨by decide, by decide, by decide +kernel⟩ (by decide), List.forall_mem_cons.mpr ⟨cl_virtual (y := y_Sy_wordIn_at_s5009) (ci := 11) rfl rfl ⟨_, _, rfl⟩ (by decide +kernel) h_Sy_wordIn_at_s5009 wm_2229 wm_23 wm_2226 wm_2228 wv_10_12 ⟨by decide, by decide, by decide +kernel⟩ (by decide), List.forall_mem_cons.mpr ⟨cl_virtual (y := y_Sy_compileOne_at_k1) (ci := 11) rfl rfl ⟨_, _, rfl⟩ (by decide +kernel) h_Sy_compileOne_at_k1 wm_2253 wm_23 wm_2250 wm_2252 wv_11_1 ⟨by decide, by decide, by decide +kernel⟩ (by decide), List.forall_mem_cons.mpr ⟨cl_virtual (y := y_Sy_compileTest_at_k1) (ci := 11) rfl rfl ⟨_, _, rfl⟩ (by decide +kernel) h_Sy_compileTest_at_k1 wm_2245 wm_23 wm_2242 wm_2244 wv_10_15 ⟨by decide, by decide, by decide +kernel⟩ (by decide), List.forall_mem_cons.mpr ⟨cl_virtual (y := y_Sy_compileSum_at_k0) (ci := 11) rfl rfl ⟨_, _, rfl⟩ (by decide +kernel) h_Sy_compileSum_at_k0 wm_2266 wm_23 wm_2263 wm_2265 wv_11_4 ⟨by decide, by decide, by decide +kernel⟩ (by decide), List.forall_mem_cons.mpr ⟨cl_virtual (y := y_Sy_compileSum_at_k0) (ci := 11) rfl rfl ⟨_, _, rfl⟩ (by decide +kernel) h_Sy_compileSum_at_k0 wm_2266 wm_23 wm_2263 wm_2265 wv_11_4 ⟨by decide, by decide, by decide +kernel⟩ (by decide), List.forall_mem_cons.mpr ⟨cl_ldc (own := "DrawingHouse$Styler") (idx := 150) (i := 9) (tx := "not ") (by decide +kernel) (by decide +kernel) (by decide +kernel), List.forall_mem_nil _⟩⟩⟩⟩⟩⟩⟩⟩⟩⟩, List.forall_mem_nil _, List.forall_mem_nil _, GG_pl⟩ (by decide +kernel)
def n_Sy_compileOne_at_k1_an : List an_T := []
def t_Sy_compileOne_at_k1_ct : ct_L := [(1, 69, e_Sy_advance), (1, 118, e_Sy_fail), (1, 128, e_Sy_emit), (1, 152, e_Sy_closes), (13, 114, e_Sy_wordIn_at_s5009), (160, 145, e_Sy_compileOne_at_k2), (211, 125, e_Sy_compileTest_at_k2), (262, 137, e_Sy_compileSum_at_k1), (391, 137, e_Sy_compileSum_at_k1), (1000000, 150, en_ro [] (2, 0, 0, [5009]))]
set_option maxRecDepth 100000 in
theorem c_Sy_compileOne_at_k1 {l : Launch} {D : va_G} {kA : Nat → ClassId} (h_Sy_advance : ct_ok l D kA GG y_Sy_advance z_Sy_advance e_Sy_advance) (h_Sy_closes : ct_ok l D kA GG y_Sy_closes z_Sy_closes e_Sy_closes) (h_Sy_compileOne_at_k2 : ct_ok l D kA GG y_Sy_compileOne_at_k2 z_Sy_compileOne_at_k2 e_Sy_compileOne_at_k2) (h_Sy_compileSum_at_k1 : ct_ok l D kA GG y_Sy_compileSum_at_k1 z_Sy_compileSum_at_k1 e_Sy_compileSum_at_k1) (h_Sy_compileTest_at_k2 : ct_ok l D kA GG y_Sy_compileTest_at_k2 z_Sy_compileTest_at_k2 e_Sy_compileTest_at_k2) (h_Sy_emit : ct_ok l D kA GG y_Sy_emit z_Sy_emit e_Sy_emit) (h_Sy_fail : ct_ok l D kA GG y_Sy_fail z_Sy_fail e_Sy_fail) (h_Sy_wordIn_at_s5009 : ct_ok l D kA GG y_Sy_wordIn_at_s5009 z_Sy_wordIn_at_s5009 e_Sy_wordIn_at_s5009) : ct_ok l D kA GG y_Sy_compileOne_at_k1 z_Sy_compileOne_at_k1 e_Sy_compileOne_at_k1 := chk_all_ok (FT := [(31, 11, 6)]) (PT := []) (CT := t_Sy_compileOne_at_k1_ct) (KT := []) (NT := []) (AN := n_Sy_compileOne_at_k1_an) (OT := []) 0 580 (List.forall_mem_nil _) (by decide +kernel) ⟨List.forall_mem_cons.mpr ⟨gf_Sy_31, List.forall_mem_nil _⟩, List.forall_mem_nil _, List.forall_mem_cons.mpr ⟨cl_virtual (y := y_Sy_advance) (ci := 11) rfl rfl ⟨_, _, rfl⟩ (by decide +kernel) h_Sy_advance wm_2158 wm_23 wm_2155 wm_2157 wv_10_10 ⟨by decide, by decide, by decide +kernel⟩ (by decide), List.forall_mem_cons.mpr ⟨cl_virtual (y := y_Sy_fail) (ci := 11) rfl rfl ⟨_, _, rfl⟩ (by decide +kernel) h_Sy_fail wm_2239 wm_23 wm_2236 wm_2238 wv_10_14 ⟨by decide, by decide, by decide +kernel⟩ (by decide), List.forall_mem_cons.mpr ⟨cl_virtual (y := y_Sy_emit) (ci := 11) rfl rfl ⟨_, _, rfl⟩ (by decide +kernel) h_Sy_emit wm_2258 wm_23 wm_2255 wm_2257 wv_11_2 ⟨by decide, by decide, by decide +kernel⟩ (by decide), List.forall_mem_cons.mpr ⟨cl_virtual (y := y_Sy_closes) (ci := 11) rfl rfl ⟨_, _, rfl⟩ (by decide +kernel) h_Sy_closes wm_2262 wm_23 wm_2259 wm_2261 wv_11_3 ⟨by decide, by decide, by decide +kernel⟩ (by decide), List.forall_mem_cons.mpr ⟨cl_virtual (y := y_Sy_wordIn_at_s5009) (ci := 11) rfl rfl ⟨_, _, rfl⟩ (by decide +kernel) h_Sy_wordIn_at_s5009 wm_2229 wm_23 wm_2226 wm_2228 wv_10_12 ⟨by decide, by decide, by decide +kernel⟩ (by decide), List.forall_mem_cons.mpr ⟨cl_virtual (y := y_Sy_compileOne_at_k2) (ci := 11) rfl rfl ⟨_, _, rfl⟩ (by decide +kernel) h_Sy_compileOne_at_k2 wm_2253 wm_23 wm_2250 wm_2252 wv_11_1 ⟨by decide, by decide, by decide +kernel⟩ (by decide), List.forall_mem_cons.mpr ⟨cl_virtual (y := y_Sy_compileTest_at_k2) (ci := 11) rfl rfl ⟨_, _, rfl⟩ (by decide +kernel) h_Sy_compileTest_at_k2 wm_2245 wm_23 wm_2242 wm_2244 wv_10_15 ⟨by decide, by decide, by decide +kernel⟩ (by decide), List.forall_mem_cons.mpr ⟨cl_virtual (y := y_Sy_compileSum_at_k1) (ci := 11) rfl rfl ⟨_, _, rfl⟩ (by decide +kernel) h_Sy_compileSum_at_k1 wm_2266 wm_23 wm_2263 wm_2265 wv_11_4 ⟨by decide, by decide, by decide +kernel⟩ (by decide), List.forall_mem_cons.mpr ⟨cl_virtual (y := y_Sy_compileSum_at_k1) (ci := 11) rfl rfl ⟨_, _, rfl⟩ (by decide +kernel) h_Sy_compileSum_at_k1 wm_2266 wm_23 wm_2263 wm_2265 wv_11_4 ⟨by decide, by decide, by decide +kernel⟩ (by decide), List.forall_mem_cons.mpr ⟨cl_ldc (own := "DrawingHouse$Styler") (idx := 150) (i := 9) (tx := "not ") (by decide +kernel) (by decide +kernel) (by decide +kernel), List.forall_mem_nil _⟩⟩⟩⟩⟩⟩⟩⟩⟩⟩, List.forall_mem_nil _, List.forall_mem_nil _, GG_pl⟩ (by decide +kernel)
def n_Sy_compileOne_at_k10_an : List an_T := []
def t_Sy_compileOne_at_k10_ct : ct_L := [(1, 69, e_Sy_advance), (1, 118, e_Sy_fail), (1, 128, e_Sy_emit), (1, 152, e_Sy_closes), (13, 114, e_Sy_wordIn_at_s5009), (160, 145, e_Sy_compileOne_at_k11), (211, 125, e_Sy_compileTest_at_k11), (262, 137, e_Sy_compileSum_at_k10), (391, 137, e_Sy_compileSum_at_k10), (1000000, 150, en_ro [] (2, 0, 0, [5009]))]
set_option maxRecDepth 100000 in
theorem c_Sy_compileOne_at_k10 {l : Launch} {D : va_G} {kA : Nat → ClassId} (h_Sy_advance : ct_ok l D kA GG y_Sy_advance z_Sy_advance e_Sy_advance) (h_Sy_closes : ct_ok l D kA GG y_Sy_closes z_Sy_closes e_Sy_closes) (h_Sy_compileOne_at_k11 : ct_ok l D kA GG y_Sy_compileOne_at_k11 z_Sy_compileOne_at_k11 e_Sy_compileOne_at_k11) (h_Sy_compileSum_at_k10 : ct_ok l D kA GG y_Sy_compileSum_at_k10 z_Sy_compileSum_at_k10 e_Sy_compileSum_at_k10) (h_Sy_compileTest_at_k11 : ct_ok l D kA GG y_Sy_compileTest_at_k11 z_Sy_compileTest_at_k11 e_Sy_compileTest_at_k11) (h_Sy_emit : ct_ok l D kA GG y_Sy_emit z_Sy_emit e_Sy_emit) (h_Sy_fail : ct_ok l D kA GG y_Sy_fail z_Sy_fail e_Sy_fail) (h_Sy_wordIn_at_s5009 : ct_ok l D kA GG y_Sy_wordIn_at_s5009 z_Sy_wordIn_at_s5009 e_Sy_wordIn_at_s5009) : ct_ok l D kA GG y_Sy_compileOne_at_k10 z_Sy_compileOne_at_k10 e_Sy_compileOne_at_k10 := chk_all_ok (FT := [(31, 11, 6)]) (PT := []) (CT := t_Sy_compileOne_at_k10_ct) (KT := []) (NT := []) (AN := n_Sy_compileOne_at_k10_an) (OT := []) 0 580 (List.forall_mem_nil _) (by decide +kernel) ⟨List.forall_mem_cons.mpr ⟨gf_Sy_31, List.forall_mem_nil _⟩, List.forall_mem_nil _, List.forall_mem_cons.mpr ⟨cl_virtual (y := y_Sy_advance) (ci := 11) rfl rfl ⟨_, _, rfl⟩ (by decide +kernel) h_Sy_advance wm_2158 wm_23 wm_2155 wm_2157 wv_10_10 ⟨by decide, by decide, by decide +kernel⟩ (by decide), List.forall_mem_cons.mpr ⟨cl_virtual (y := y_Sy_fail) (ci := 11) rfl rfl ⟨_, _, rfl⟩ (by decide +kernel) h_Sy_fail wm_2239 wm_23 wm_2236 wm_2238 wv_10_14 ⟨by decide, by decide, by decide +kernel⟩ (by decide), List.forall_mem_cons.mpr ⟨cl_virtual (y := y_Sy_emit) (ci := 11) rfl rfl ⟨_, _, rfl⟩ (by decide +kernel) h_Sy_emit wm_2258 wm_23 wm_2255 wm_2257 wv_11_2 ⟨by decide, by decide, by decide +kernel⟩ (by decide), List.forall_mem_cons.mpr ⟨cl_virtual (y := y_Sy_closes) (ci := 11) rfl rfl ⟨_, _, rfl⟩ (by decide +kernel) h_Sy_closes wm_2262 wm_23 wm_2259 wm_2261 wv_11_3 ⟨by decide, by decide, by decide +kernel⟩ (by decide), List.forall_mem_cons.mpr ⟨cl_virtual (y := y_Sy_wordIn_at_s5009) (ci := 11) rfl rfl ⟨_, _, rfl⟩ (by decide +kernel) h_Sy_wordIn_at_s5009 wm_2229 wm_23 wm_2226 wm_2228 wv_10_12 ⟨by decide, by decide, by decide +kernel⟩ (by decide), List.forall_mem_cons.mpr ⟨cl_virtual (y := y_Sy_compileOne_at_k11) (ci := 11) rfl rfl ⟨_, _, rfl⟩ (by decide +kernel) h_Sy_compileOne_at_k11 wm_2253 wm_23 wm_2250 wm_2252 wv_11_1 ⟨by decide, by decide, by decide +kernel⟩ (by decide), List.forall_mem_cons.mpr ⟨cl_virtual (y := y_Sy_compileTest_at_k11) (ci := 11) rfl rfl ⟨_, _, rfl⟩ (by decide +kernel) h_Sy_compileTest_at_k11 wm_2245 wm_23 wm_2242 wm_2244 wv_10_15 ⟨by decide, by decide, by decide +kernel⟩ (by decide), List.forall_mem_cons.mpr ⟨cl_virtual (y := y_Sy_compileSum_at_k10) (ci := 11) rfl rfl ⟨_, _, rfl⟩ (by decide +kernel) h_Sy_compileSum_at_k10 wm_2266 wm_23 wm_2263 wm_2265 wv_11_4 ⟨by decide, by decide, by decide +kernel⟩ (by decide), List.forall_mem_cons.mpr ⟨cl_virtual (y := y_Sy_compileSum_at_k10) (ci := 11) rfl rfl ⟨_, _, rfl⟩ (by decide +kernel) h_Sy_compileSum_at_k10 wm_2266 wm_23 wm_2263 wm_2265 wv_11_4 ⟨by decide, by decide, by decide +kernel⟩ (by decide), List.forall_mem_cons.mpr ⟨cl_ldc (own := "DrawingHouse$Styler") (idx := 150) (i := 9) (tx := "not ") (by decide +kernel) (by decide +kernel) (by decide +kernel), List.forall_mem_nil _⟩⟩⟩⟩⟩⟩⟩⟩⟩⟩, List.forall_mem_nil _, List.forall_mem_nil _, GG_pl⟩ (by decide +kernel)
