def n_Sy_compileOne_at_k8_an : List an_T := []
def t_Sy_compileOne_at_k8_ct : ct_L := [(1, 69, e_Sy_advance), (1, 118, e_Sy_fail), (1, 128, e_Sy_emit), (1, 152, e_Sy_closes), (13, 114, e_Sy_wordIn_at_s5009), (160, 145, e_Sy_compileOne_at_k9), (211, 125, e_Sy_compileTest_at_k9), (262, 137, e_Sy_compileSum_at_k8), (391, 137, e_Sy_compileSum_at_k8), (1000000, 150, en_ro [] (2, 0, 0, [5009]))]
set_option maxRecDepth 100000 in
theorem c_Sy_compileOne_at_k8 {l : Launch} {D : va_G} {kA : Nat → ClassId} (h_Sy_advance : ct_ok l D kA GG y_Sy_advance z_Sy_advance e_Sy_advance) (h_Sy_closes : ct_ok l D kA GG y_Sy_closes z_Sy_closes e_Sy_closes) (h_Sy_compileOne_at_k9 : ct_ok l D kA GG y_Sy_compileOne_at_k9 z_Sy_compileOne_at_k9 e_Sy_compileOne_at_k9) (h_Sy_compileSum_at_k8 : ct_ok l D kA GG y_Sy_compileSum_at_k8 z_Sy_compileSum_at_k8 e_Sy_compileSum_at_k8) (h_Sy_compileTest_at_k9 : ct_ok l D kA GG y_Sy_compileTest_at_k9 z_Sy_compileTest_at_k9 e_Sy_compileTest_at_k9) (h_Sy_emit : ct_ok l D kA GG y_Sy_emit z_Sy_emit e_Sy_emit) (h_Sy_fail : ct_ok l D kA GG y_Sy_fail z_Sy_fail e_Sy_fail) (h_Sy_wordIn_at_s5009 : ct_ok l D kA GG y_Sy_wordIn_at_s5009 z_Sy_wordIn_at_s5009 e_Sy_wordIn_at_s5009) : ct_ok l D kA GG y_Sy_compileOne_at_k8 z_Sy_compileOne_at_k8 e_Sy_compileOne_at_k8 := chk_all_ok (FT := [(31, 11, 6)]) (PT := []) (CT := t_Sy_compileOne_at_k8_ct) (KT := []) (NT := []) (AN := n_Sy_compileOne_at_k8_an) (OT := []) 0 580 (List.forall_mem_nil _) (by decide +kernel) ⟨List.forall_mem_cons.mpr ⟨gf_Sy_31, List.forall_mem_nil _⟩, List.forall_mem_nil _, List.forall_mem_cons.mpr ⟨cl_virtual (y := y_Sy_advance) (ci := 11) rfl rfl ⟨_, _, rfl⟩ (by decide +kernel) h_Sy_advance wm_2158 wm_23 wm_2155 wm_2157 wv_10_10 ⟨by decide, by decide, by decide +kernel⟩ (by decide), List.forall_mem_cons.mpr ⟨cl_virtual (y := y_Sy_fail) (ci := 11) rfl rfl ⟨_, _, rfl⟩ (by decide +kernel) h_Sy_fail wm_2239 wm_23 wm_2236 wm_2238 wv_10_14 ⟨by decide, by decide, by decide +kernel⟩ (by decide), List.forall_mem_cons.mpr ⟨cl_virtual (y := y_Sy_emit) (ci := 11) rfl rfl ⟨_, _, rfl⟩ (by decide +kernel) h_Sy_emit wm_2258 wm_23 wm_2255 wm_2257 wv_11_2 ⟨by decide, by decide, by decide +kernel⟩ (by decide), List.forall_mem_cons.mpr ⟨cl_virtual (y := y_Sy_closes) (ci := 11) rfl rfl ⟨_, _, rfl⟩ (by decide +kernel) h_Sy_closes wm_2262 wm_23 wm_2259 wm_2261 wv_11_3 ⟨by decide, by decide, by decide +kernel⟩ (by decide), List.forall_mem_cons.mpr ⟨cl_virtual (y := y_Sy_wordIn_at_s5009) (ci := 11) rfl rfl ⟨_, _, rfl⟩ (by decide +kernel) h_Sy_wordIn_at_s5009 wm_2229 wm_23 wm_2226 wm_2228 wv_10_12 ⟨by decide, by decide, by decide +kernel⟩ (by decide), List.forall_mem_cons.mpr ⟨cl_virtual (y := y_Sy_compileOne_at_k9) (ci := 11) rfl rfl ⟨_, _, rfl⟩ (by decide +kernel) h_Sy_compileOne_at_k9 wm_2253 wm_23 wm_2250 wm_2252 wv_11_1 ⟨by decide, by decide, by decide +kernel⟩ (by decide), List.forall_mem_cons.mpr ⟨cl_virtual (y := y_Sy_compileTest_at_k9) (ci := 11) rfl rfl ⟨_, _, rfl⟩ (by decide +kernel) h_Sy_compileTest_at_k9 wm_2245 wm_23 wm_2242 wm_2244 wv_10_15 ⟨by decide, by decide, by decide +kernel⟩ (by decide), List.forall_mem_cons.mpr ⟨cl_virtual (y := y_Sy_compileSum_at_k8) (ci := 11) rfl rfl ⟨_, _, rfl⟩ (by decide +kernel) h_Sy_compileSum_at_k8 wm_2266 wm_23 wm_2263 wm_2265 wv_11_4 ⟨by decide, by decide, by decide +kernel⟩ (by decide), List.forall_mem_cons.mpr ⟨cl_virtual (y := y_Sy_compileSum_at_k8) (ci := 11) rfl rfl ⟨_, _, rfl⟩ (by decide +kernel) h_Sy_compileSum_at_k8 wm_2266 wm_23 wm_2263 wm_2265 wv_11_4 ⟨by decide, by decide, by decide +kernel⟩ (by decide), List.forall_mem_cons.mpr ⟨cl_ldc (own := "DrawingHouse$Styler") (idx := 150) (i := 9) (tx := "not ") (by decide +kernel) (by decide +kernel) (by decide +kernel), List.forall_mem_nil _⟩⟩⟩⟩⟩⟩⟩⟩⟩⟩, List.forall_mem_nil _, List.forall_mem_nil _, GG_pl⟩ (by decide +kernel)
def n_Sy_compileOne_at_k9_an : List an_T := []
def t_Sy_compileOne_at_k9_ct : ct_L := [(1, 69, e_Sy_advance), (1, 118, e_Sy_fail), (1, 128, e_Sy_emit), (1, 152, e_Sy_closes), (13, 114, e_Sy_wordIn_at_s5009), (160, 145, e_Sy_compileOne_at_k10), (211, 125, e_Sy_compileTest_at_k10), (262, 137, e_Sy_compileSum_at_k9), (391, 137, e_Sy_compileSum_at_k9), (1000000, 150, en_ro [] (2, 0, 0, [5009]))]
set_option maxRecDepth 100000 in
theorem c_Sy_compileOne_at_k9 {l : Launch} {D : va_G} {kA : Nat → ClassId} (h_Sy_advance : ct_ok l D kA GG y_Sy_advance z_Sy_advance e_Sy_advance) (h_Sy_closes : ct_ok l D kA GG y_Sy_closes z_Sy_closes e_Sy_closes) (h_Sy_compileOne_at_k10 : ct_ok l D kA GG y_Sy_compileOne_at_k10 z_Sy_compileOne_at_k10 e_Sy_compileOne_at_k10) (h_Sy_compileSum_at_k9 : ct_ok l D kA GG y_Sy_compileSum_at_k9 z_Sy_compileSum_at_k9 e_Sy_compileSum_at_k9) (h_Sy_compileTest_at_k10 : ct_ok l D kA GG y_Sy_compileTest_at_k10 z_Sy_compileTest_at_k10 e_Sy_compileTest_at_k10) (h_Sy_emit : ct_ok l D kA GG y_Sy_emit z_Sy_emit e_Sy_emit) (h_Sy_fail : ct_ok l D kA GG y_Sy_fail z_Sy_fail e_Sy_fail) (h_Sy_wordIn_at_s5009 : ct_ok l D kA GG y_Sy_wordIn_at_s5009 z_Sy_wordIn_at_s5009 e_Sy_wordIn_at_s5009) : ct_ok l D kA GG y_Sy_compileOne_at_k9 z_Sy_compileOne_at_k9 e_Sy_compileOne_at_k9 := chk_all_ok (FT := [(31, 11, 6)]) (PT := []) (CT := t_Sy_compileOne_at_k9_ct) (KT := []) (NT := []) (AN := n_Sy_compileOne_at_k9_an) (OT := []) 0 580 (List.forall_mem_nil _) (by decide +kernel) ⟨List.forall_mem_cons.mpr ⟨gf_Sy_31, List.forall_mem_nil _⟩, List.forall_mem_nil _, List.forall_mem_cons.mpr ⟨cl_virtual (y := y_Sy_advance) (ci := 11) rfl rfl ⟨_, _, rfl⟩ (by decide +kernel) h_Sy_advance wm_2158 wm_23 wm_2155 wm_2157 wv_10_10 ⟨by decide, by decide, by decide +kernel⟩ (by decide), List.forall_mem_cons.mpr ⟨cl_virtual (y := y_Sy_fail) (ci := 11) rfl rfl ⟨_, _, rfl⟩ (by decide +kernel) h_Sy_fail wm_2239 wm_23 wm_2236 wm_2238 wv_10_14 ⟨by decide, by decide, by decide +kernel⟩ (by decide), List.forall_mem_cons.mpr ⟨cl_virtual (y := y_Sy_emit) (ci := 11) rfl rfl ⟨_, _, rfl⟩ (by decide +kernel) h_Sy_emit wm_2258 wm_23 wm_2255 wm_2257 wv_11_2 ⟨by decide, by decide, by decide +kernel⟩ (by decide), List.forall_mem_cons.mpr ⟨cl_virtual (y := y_Sy_closes) (ci := 11) rfl rfl ⟨_, _, rfl⟩ (by decide +kernel) h_Sy_closes wm_2262 wm_23 wm_2259 wm_2261 wv_11_3 ⟨by decide, by decide, by decide +kernel⟩ (by decide), List.forall_mem_cons.mpr ⟨cl_virtual (y := y_Sy_wordIn_at_s5009) (ci := 11) rfl rfl ⟨_, _, rfl⟩ (by decide +kernel) h_Sy_wordIn_at_s5009 wm_2229 wm_23 wm_2226 wm_2228 wv_10_12 ⟨by decide, by decide, by decide +kernel⟩ (by decide), List.forall_mem_cons.mpr ⟨cl_virtual (y := y_Sy_compileOne_at_k10) (ci := 11) rfl rfl ⟨_, _, rfl⟩ (by decide +kernel) h_Sy_compileOne_at_k10 wm_2253 wm_23 wm_2250 wm_2252 wv_11_1 ⟨by decide, by decide, by decide +kernel⟩ (by decide), List.forall_mem_cons.mpr ⟨cl_virtual (y := y_Sy_compileTest_at_k10) (ci := 11) rfl rfl ⟨_, _, rfl⟩ (by decide +kernel) h_Sy_compileTest_at_k10 wm_2245 wm_23 wm_2242 wm_2244 wv_10_15 ⟨by decide, by decide, by decide +kernel⟩ (by decide), List.forall_mem_cons.mpr ⟨cl_virtual (y := y_Sy_compileSum_at_k9) (ci := 11) rfl rfl ⟨_, _, rfl⟩ (by decide +kernel) h_Sy_compileSum_at_k9 wm_2266 wm_23 wm_2263 wm_2265 wv_11_4 ⟨by decide, by decide, by decide +kernel⟩ (by decide), List.forall_mem_cons.mpr ⟨cl_virtual (y := y_Sy_compileSum_at_k9) (ci := 11) rfl rfl ⟨_, _, rfl⟩ (by decide +kernel) h_Sy_compileSum_at_k9 wm_2266 wm_23 wm_2263 wm_2265 wv_11_4 ⟨by decide, by decide, by decide +kernel⟩ (by decide), List.forall_mem_cons.mpr ⟨cl_ldc (own := "DrawingHouse$Styler") (idx := 150) (i := 9) (tx := "not ") (by decide +kernel) (by decide +kernel) (by decide +kernel), List.forall_mem_nil _⟩⟩⟩⟩⟩⟩⟩⟩⟩⟩, List.forall_mem_nil _, List.forall_mem_nil _, GG_pl⟩ (by decide +kernel)
def n_Sy_compileTest_at_k0_an : List an_T := [(12, [(0, (2, 0, 0, [11])), (1, (0, 0, 0, [])), (2, (0, 0, 2000, []))], [], (0, 0), [(0, 0, 99988), (1, 2, 2000), (0, 0, 100000)], [], [((0, 3), (2, 0, 0, [109]))], [], 0, [], [])]
def t_Sy_compileTest_at_k0_ct : ct_L := [(1, 69, e_Sy_advance), (1, 128, e_Sy_emit), (10, 140, e_Sy_compileBoth_at_k0), (70, 114, e_Sy_wordIn_at_s5011), (106, 140, e_Sy_compileBoth_at_k0), (1000000, 143, en_ro [] (2, 0, 0, [5011]))]
set_option maxRecDepth 100000 in
theorem c_Sy_compileTest_at_k0 {l : Launch} {D : va_G} {kA : Nat → ClassId} (h_Sy_advance : ct_ok l D kA GG y_Sy_advance z_Sy_advance e_Sy_advance) (h_Sy_compileBoth_at_k0 : ct_ok l D kA GG y_Sy_compileBoth_at_k0 z_Sy_compileBoth_at_k0 e_Sy_compileBoth_at_k0) (h_Sy_emit : ct_ok l D kA GG y_Sy_emit z_Sy_emit e_Sy_emit) (h_Sy_wordIn_at_s5011 : ct_ok l D kA GG y_Sy_wordIn_at_s5011 z_Sy_wordIn_at_s5011 e_Sy_wordIn_at_s5011) : ct_ok l D kA GG y_Sy_compileTest_at_k0 z_Sy_compileTest_at_k0 e_Sy_compileTest_at_k0 := chk_all_ok (FT := []) (PT := []) (CT := t_Sy_compileTest_at_k0_ct) (KT := []) (NT := []) (AN := n_Sy_compileTest_at_k0_an) (OT := []) 3 200 (List.forall_mem_nil _) (by decide +kernel) ⟨List.forall_mem_nil _, List.forall_mem_nil _, List.forall_mem_cons.mpr ⟨cl_virtual (y := y_Sy_advance) (ci := 11) rfl rfl ⟨_, _, rfl⟩ (by decide +kernel) h_Sy_advance wm_2158 wm_23 wm_2155 wm_2157 wv_10_10 ⟨by decide, by decide, by decide +kernel⟩ (by decide), List.forall_mem_cons.mpr ⟨cl_virtual (y := y_Sy_emit) (ci := 11) rfl rfl ⟨_, _, rfl⟩ (by decide +kernel) h_Sy_emit wm_2258 wm_23 wm_2255 wm_2257 wv_11_2 ⟨by decide, by decide, by decide +kernel⟩ (by decide), List.forall_mem_cons.mpr ⟨cl_virtual (y := y_Sy_compileBoth_at_k0) (ci := 11) rfl rfl ⟨_, _, rfl⟩ (by decide +kernel) h_Sy_compileBoth_at_k0 wm_2249 wm_23 wm_2246 wm_2248 wv_11_0 ⟨by decide, by decide, by decide +kernel⟩ (by decide), List.forall_mem_cons.mpr ⟨cl_virtual (y := y_Sy_wordIn_at_s5011) (ci := 11) rfl rfl ⟨_, _, rfl⟩ (by decide +kernel) h_Sy_wordIn_at_s5011 wm_2229 wm_23 wm_2226 wm_2228 wv_10_12 ⟨by decide, by decide, by decide +kernel⟩ (by decide), List.forall_mem_cons.mpr ⟨cl_virtual (y := y_Sy_compileBoth_at_k0) (ci := 11) rfl rfl ⟨_, _, rfl⟩ (by decide +kernel) h_Sy_compileBoth_at_k0 wm_2249 wm_23 wm_2246 wm_2248 wv_11_0 ⟨by decide, by decide, by decide +kernel⟩ (by decide), List.forall_mem_cons.mpr ⟨cl_ldc (own := "DrawingHouse$Styler") (idx := 143) (i := 11) (tx := "or ") (by decide +kernel) (by decide +kernel) (by decide +kernel), List.forall_mem_nil _⟩⟩⟩⟩⟩⟩, List.forall_mem_nil _, List.forall_mem_nil _, GG_pl⟩ (by decide +kernel)
def n_Sy_compileTest_at_k1_an : List an_T := [(12, [(0, (2, 0, 0, [11])), (1, (0, 1, 1, [])), (2, (0, 0, 2000, []))], [], (0, 0), [(0, 0, 99988), (1, 2, 2000), (0, 0, 100000)], [], [((0, 3), (2, 0, 0, [109]))], [], 0, [], [])]
def t_Sy_compileTest_at_k1_ct : ct_L := [(1, 69, e_Sy_advance), (1, 128, e_Sy_emit), (10, 140, e_Sy_compileBoth_at_k1), (70, 114, e_Sy_wordIn_at_s5011), (106, 140, e_Sy_compileBoth_at_k1), (1000000, 143, en_ro [] (2, 0, 0, [5011]))]
set_option maxRecDepth 100000 in
theorem c_Sy_compileTest_at_k1 {l : Launch} {D : va_G} {kA : Nat → ClassId} (h_Sy_advance : ct_ok l D kA GG y_Sy_advance z_Sy_advance e_Sy_advance) (h_Sy_compileBoth_at_k1 : ct_ok l D kA GG y_Sy_compileBoth_at_k1 z_Sy_compileBoth_at_k1 e_Sy_compileBoth_at_k1) (h_Sy_emit : ct_ok l D kA GG y_Sy_emit z_Sy_emit e_Sy_emit) (h_Sy_wordIn_at_s5011 : ct_ok l D kA GG y_Sy_wordIn_at_s5011 z_Sy_wordIn_at_s5011 e_Sy_wordIn_at_s5011) : ct_ok l D kA GG y_Sy_compileTest_at_k1 z_Sy_compileTest_at_k1 e_Sy_compileTest_at_k1 := chk_all_ok (FT := []) (PT := []) (CT := t_Sy_compileTest_at_k1_ct) (KT := []) (NT := []) (AN := n_Sy_compileTest_at_k1_an) (OT := []) 3 200 (List.forall_mem_nil _) (by decide +kernel) ⟨List.forall_mem_nil _, List.forall_mem_nil _, List.forall_mem_cons.mpr ⟨cl_virtual (y := y_Sy_advance) (ci := 11) rfl rfl ⟨_, _, rfl⟩ (by decide +kernel) h_Sy_advance wm_2158 wm_23 wm_2155 wm_2157 wv_10_10 ⟨by decide, by decide, by decide +kernel⟩ (by decide), List.forall_mem_cons.mpr ⟨cl_virtual (y := y_Sy_emit) (ci := 11) rfl rfl ⟨_, _, rfl⟩ (by decide +kernel) h_Sy_emit wm_2258 wm_23 wm_2255 wm_2257 wv_11_2 ⟨by decide, by decide, by decide +kernel⟩ (by decide), List.forall_mem_cons.mpr ⟨cl_virtual (y := y_Sy_compileBoth_at_k1) (ci := 11) rfl rfl ⟨_, _, rfl⟩ (by decide +kernel) h_Sy_compileBoth_at_k1 wm_2249 wm_23 wm_2246 wm_2248 wv_11_0 ⟨by decide, by decide, by decide +kernel⟩ (by decide), List.forall_mem_cons.mpr ⟨cl_virtual (y := y_Sy_wordIn_at_s5011) (ci := 11) rfl rfl ⟨_, _, rfl⟩ (by decide +kernel) h_Sy_wordIn_at_s5011 wm_2229 wm_23 wm_2226 wm_2228 wv_10_12 ⟨by decide, by decide, by decide +kernel⟩ (by decide), List.forall_mem_cons.mpr ⟨cl_virtual (y := y_Sy_compileBoth_at_k1) (ci := 11) rfl rfl ⟨_, _, rfl⟩ (by decide +kernel) h_Sy_compileBoth_at_k1 wm_2249 wm_23 wm_2246 wm_2248 wv_11_0 ⟨by decide, by decide, by decide +kernel⟩ (by decide), List.forall_mem_cons.mpr ⟨cl_ldc (own := "DrawingHouse$Styler") (idx := 143) (i := 11) (tx := "or ") (by decide +kernel) (by decide +kernel) (by decide +kernel), List.forall_mem_nil _⟩⟩⟩⟩⟩⟩, List.forall_mem_nil _, List.forall_mem_nil _, GG_pl⟩ (by decide +kernel)
def n_Sy_compileTest_at_k10_an : List an_T := [(12, [(0, (2, 0, 0, [11])), (1, (0, 10, 10, [])), (2, (0, 0, 2000, []))], [], (0, 0), [(0, 0, 99988), (1, 2, 2000), (0, 0, 100000)], [], [((0, 3), (2, 0, 0, [109]))], [], 0, [], [])]
def t_Sy_compileTest_at_k10_ct : ct_L := [(1, 69, e_Sy_advance), (1, 128, e_Sy_emit), (10, 140, e_Sy_compileBoth_at_k10), (70, 114, e_Sy_wordIn_at_s5011), (106, 140, e_Sy_compileBoth_at_k10), (1000000, 143, en_ro [] (2, 0, 0, [5011]))]
set_option maxRecDepth 100000 in
theorem c_Sy_compileTest_at_k10 {l : Launch} {D : va_G} {kA : Nat → ClassId} (h_Sy_advance : ct_ok l D kA GG y_Sy_advance z_Sy_advance e_Sy_advance) (h_Sy_compileBoth_at_k10 : ct_ok l D kA GG y_Sy_compileBoth_at_k10 z_Sy_compileBoth_at_k10 e_Sy_compileBoth_at_k10) (h_Sy_emit : ct_ok l D kA GG y_Sy_emit z_Sy_emit e_Sy_emit) (h_Sy_wordIn_at_s5011 : ct_ok l D kA GG y_Sy_wordIn_at_s5011 z_Sy_wordIn_at_s5011 e_Sy_wordIn_at_s5011) : ct_ok l D kA GG y_Sy_compileTest_at_k10 z_Sy_compileTest_at_k10 e_Sy_compileTest_at_k10 := chk_all_ok (FT := []) (PT := []) (CT := t_Sy_compileTest_at_k10_ct) (KT := []) (NT := []) (AN := n_Sy_compileTest_at_k10_an) (OT := []) 3 200 (List.forall_mem_nil _) (by decide +kernel) ⟨List.forall_mem_nil _, List.forall_mem_nil _, List.forall_mem_cons.mpr ⟨cl_virtual (y := y_Sy_advance) (ci := 11) rfl rfl ⟨_, _, rfl⟩ (by decide +kernel) h_Sy_advance wm_2158 wm_23 wm_2155 wm_2157 wv_10_10 ⟨by decide, by decide, by decide +kernel⟩ (by decide), List.forall_mem_cons.mpr ⟨cl_virtual (y := y_Sy_emit) (ci := 11) rfl rfl ⟨_, _, rfl⟩ (by decide +kernel) h_Sy_emit wm_2258 wm_23 wm_2255 wm_2257 wv_11_2 ⟨by decide, by decide, by decide +kernel⟩ (by decide), List.forall_mem_cons.mpr ⟨cl_virtual (y := y_Sy_compileBoth_at_k10) (ci := 11) rfl rfl ⟨_, _, rfl⟩ (by decide +kernel) h_Sy_compileBoth_at_k10 wm_2249 wm_23 wm_2246 wm_2248 wv_11_0 ⟨by decide, by decide, by decide +kernel⟩ (by decide), List.forall_mem_cons.mpr ⟨cl_virtual (y := y_Sy_wordIn_at_s5011) (ci := 11) rfl rfl ⟨_, _, rfl⟩ (by decide +kernel) h_Sy_wordIn_at_s5011 wm_2229 wm_23 wm_2226 wm_2228 wv_10_12 ⟨by decide, by decide, by decide +kernel⟩ (by decide), List.forall_mem_cons.mpr ⟨cl_virtual (y := y_Sy_compileBoth_at_k10) (ci := 11) rfl rfl ⟨_, _, rfl⟩ (by decide +kernel) h_Sy_compileBoth_at_k10 wm_2249 wm_23 wm_2246 wm_2248 wv_11_0 ⟨by decide, by decide, by decide +kernel⟩ (by decide), List.forall_mem_cons.mpr ⟨cl_ldc (own := "DrawingHouse$Styler") (idx := 143) (i := 11) (tx := "or ") (by decide +kernel) (by decide +kernel) (by decide +kernel), List.forall_mem_nil _⟩⟩⟩⟩⟩⟩, List.forall_mem_nil _, List.forall_mem_nil _, GG_pl⟩ (by decide +kernel)
def n_Sy_compileTest_at_k11_an : List an_T := [(12, [(0, (2, 0, 0, [11])), (1, (0, 11, 11, [])), (2, (0, 0, 2000, []))], [], (0, 0), [(0, 0, 99988), (1, 2, 2000), (0, 0, 100000)], [], [((0, 3), (2, 0, 0, [109]))], [], 0, [], [])]
def t_Sy_compileTest_at_k11_ct : ct_L := [(1, 69, e_Sy_advance), (1, 128, e_Sy_emit), (10, 140, e_Sy_compileBoth_at_k11), (70, 114, e_Sy_wordIn_at_s5011), (106, 140, e_Sy_compileBoth_at_k11), (1000000, 143, en_ro [] (2, 0, 0, [5011]))]
set_option maxRecDepth 100000 in
theorem c_Sy_compileTest_at_k11 {l : Launch} {D : va_G} {kA : Nat → ClassId} (h_Sy_advance : ct_ok l D kA GG y_Sy_advance z_Sy_advance e_Sy_advance) (h_Sy_compileBoth_at_k11 : ct_ok l D kA GG y_Sy_compileBoth_at_k11 z_Sy_compileBoth_at_k11 e_Sy_compileBoth_at_k11) (h_Sy_emit : ct_ok l D kA GG y_Sy_emit z_Sy_emit e_Sy_emit) (h_Sy_wordIn_at_s5011 : ct_ok l D kA GG y_Sy_wordIn_at_s5011 z_Sy_wordIn_at_s5011 e_Sy_wordIn_at_s5011) : ct_ok l D kA GG y_Sy_compileTest_at_k11 z_Sy_compileTest_at_k11 e_Sy_compileTest_at_k11 := chk_all_ok (FT := []) (PT := []) (CT := t_Sy_compileTest_at_k11_ct) (KT := []) (NT := []) (AN := n_Sy_compileTest_at_k11_an) (OT := []) 3 200 (List.forall_mem_nil _) (by decide +kernel) ⟨List.forall_mem_nil _, List.forall_mem_nil _, List.forall_mem_cons.mpr ⟨cl_virtual (y := y_Sy_advance) (ci := 11) rfl rfl ⟨_, _, rfl⟩ (by decide +kernel) h_Sy_advance wm_2158 wm_23 wm_2155 wm_2157 wv_10_10 ⟨by decide, by decide, by decide +kernel⟩ (by decide), List.forall_mem_cons.mpr ⟨cl_virtual (y := y_Sy_emit) (ci := 11) rfl rfl ⟨_, _, rfl⟩ (by decide +kernel) h_Sy_emit wm_2258 wm_23 wm_2255 wm_2257 wv_11_2 ⟨by decide, by decide, by decide +kernel⟩ (by decide), List.forall_mem_cons.mpr ⟨cl_virtual (y := y_Sy_compileBoth_at_k11) (ci := 11) rfl rfl ⟨_, _, rfl⟩ (by decide +kernel) h_Sy_compileBoth_at_k11 wm_2249 wm_23 wm_2246 wm_2248 wv_11_0 ⟨by decide, by decide, by decide +kernel⟩ (by decide), List.forall_mem_cons.mpr ⟨cl_virtual (y := y_Sy_wordIn_at_s5011) (ci := 11) rfl rfl ⟨_, _, rfl⟩ (by decide +kernel) h_Sy_wordIn_at_s5011 wm_2229 wm_23 wm_2226 wm_2228 wv_10_12 ⟨by decide, by decide, by decide +kernel⟩ (by decide), List.forall_mem_cons.mpr ⟨cl_virtual (y := y_Sy_compileBoth_at_k11) (ci := 11) rfl rfl ⟨_, _, rfl⟩ (by decide +kernel) h_Sy_compileBoth_at_k11 wm_2249 wm_23 wm_2246 wm_2248 wv_11_0 ⟨by decide, by decide, by decide +kernel⟩ (by decide), List.forall_mem_cons.mpr ⟨cl_ldc (own := "DrawingHouse$Styler") (idx := 143) (i := 11) (tx := "or ") (by decide +kernel) (by decide +kernel) (by decide +kernel), List.forall_mem_nil _⟩⟩⟩⟩⟩⟩, List.forall_mem_nil _, List.forall_mem_nil _, GG_pl⟩ (by decide +kernel)
def n_Sy_compileTest_at_k12_an : List an_T := [(12, [(0, (2, 0, 0, [11])), (1, (0, 12, 12, [])), (2, (0, 0, 2000, []))], [], (0, 0), [(0, 0, 99988), (1, 2, 2000), (0, 0, 100000)], [], [((0, 3), (2, 0, 0, [109]))], [], 0, [], [])]
def t_Sy_compileTest_at_k12_ct : ct_L := [(1, 69, e_Sy_advance), (1, 128, e_Sy_emit), (10, 140, e_Sy_compileBoth_at_k12), (70, 114, e_Sy_wordIn_at_s5011), (106, 140, e_Sy_compileBoth_at_k12), (1000000, 143, en_ro [] (2, 0, 0, [5011]))]
set_option maxRecDepth 100000 in
theorem c_Sy_compileTest_at_k12 {l : Launch} {D : va_G} {kA : Nat → ClassId} (h_Sy_advance : ct_ok l D kA GG y_Sy_advance z_Sy_advance e_Sy_advance) (h_Sy_compileBoth_at_k12 : ct_ok l D kA GG y_Sy_compileBoth_at_k12 z_Sy_compileBoth_at_k12 e_Sy_compileBoth_at_k12) (h_Sy_emit : ct_ok l D kA GG y_Sy_emit z_Sy_emit e_Sy_emit) (h_Sy_wordIn_at_s5011 : ct_ok l D kA GG y_Sy_wordIn_at_s5011 z_Sy_wordIn_at_s5011 e_Sy_wordIn_at_s5011) : ct_ok l D kA GG y_Sy_compileTest_at_k12 z_Sy_compileTest_at_k12 e_Sy_compileTest_at_k12 := chk_all_ok (FT := []) (PT := []) (CT := t_Sy_compileTest_at_k12_ct) (KT := []) (NT := []) (AN := n_Sy_compileTest_at_k12_an) (OT := []) 3 200 (List.forall_mem_nil _) (by decide +kernel) ⟨List.forall_mem_nil _, List.forall_mem_nil _, List.forall_mem_cons.mpr ⟨cl_virtual (y := y_Sy_advance) (ci := 11) rfl rfl ⟨_, _, rfl⟩ (by decide +kernel) h_Sy_advance wm_2158 wm_23 wm_2155 wm_2157 wv_10_10 ⟨by decide, by decide, by decide +kernel⟩ (by decide), List.forall_mem_cons.mpr ⟨cl_virtual (y := y_Sy_emit) (ci := 11) rfl rfl ⟨_, _, rfl⟩ (by decide +kernel) h_Sy_emit wm_2258 wm_23 wm_2255 wm_2257 wv_11_2 ⟨by decide, by decide, by decide +kernel⟩ (by decide), List.forall_mem_cons.mpr ⟨cl_virtual (y := y_Sy_compileBoth_at_k12) (ci := 11) rfl rfl ⟨_, _, rfl⟩ (by decide +kernel) h_Sy_compileBoth_at_k12 wm_2249 wm_23 wm_2246 wm_2248 wv_11_0 ⟨by decide, by decide, by decide +kernel⟩ (by decide), List.forall_mem_cons.mpr ⟨cl_virtual (y := y_Sy_wordIn_at_s5011) (ci := 11) rfl rfl ⟨_, _, rfl⟩ (by decide +kernel) h_Sy_wordIn_at_s5011 wm_2229 wm_23 wm_2226 wm_2228 wv_10_12 ⟨by decide, by decide, by decide +kernel⟩ (by decide), List.forall_mem_cons.mpr ⟨cl_virtual (y := y_Sy_compileBoth_at_k12) (ci := 11) rfl rfl ⟨_, _, rfl⟩ (by decide +kernel) h_Sy_compileBoth_at_k12 wm_2249 wm_23 wm_2246 wm_2248 wv_11_0 ⟨by decide, by decide, by decide +kernel⟩ (by decide), List.forall_mem_cons.mpr ⟨cl_ldc (own := "DrawingHouse$Styler") (idx := 143) (i := 11) (tx := "or ") (by decide +kernel) (by decide +kernel) (by decide +kernel), List.forall_mem_nil _⟩⟩⟩⟩⟩⟩, List.forall_mem_nil _, List.forall_mem_nil _, GG_pl⟩ (by decide +kernel)
def n_Sy_compileTest_at_k2_an : List an_T := [(12, [(0, (2, 0, 0, [11])), (1, (0, 2, 2, [])), (2, (0, 0, 2000, []))], [], (0, 0), [(0, 0, 99988), (1, 2, 2000), (0, 0, 100000)], [], [((0, 3), (2, 0, 0, [109]))], [], 0, [], [])]
def t_Sy_compileTest_at_k2_ct : ct_L := [(1, 69, e_Sy_advance), (1, 128, e_Sy_emit), (10, 140, e_Sy_compileBoth_at_k2), (70, 114, e_Sy_wordIn_at_s5011), (106, 140, e_Sy_compileBoth_at_k2), (1000000, 143, en_ro [] (2, 0, 0, [5011]))]
set_option maxRecDepth 100000 in
theorem c_Sy_compileTest_at_k2 {l : Launch} {D : va_G} {kA : Nat → ClassId} (h_Sy_advance : ct_ok l D kA GG y_Sy_advance z_Sy_advance e_Sy_advance) (h_Sy_compileBoth_at_k2 : ct_ok l D kA GG y_Sy_compileBoth_at_k2 z_Sy_compileBoth_at_k2 e_Sy_compileBoth_at_k2) (h_Sy_emit : ct_ok l D kA GG y_Sy_emit z_Sy_emit e_Sy_emit) (h_Sy_wordIn_at_s5011 : ct_ok l D kA GG y_Sy_wordIn_at_s5011 z_Sy_wordIn_at_s5011 e_Sy_wordIn_at_s5011) : ct_ok l D kA GG y_Sy_compileTest_at_k2 z_Sy_compileTest_at_k2 e_Sy_compileTest_at_k2 := chk_all_ok (FT := []) (PT := []) (CT := t_Sy_compileTest_at_k2_ct) (KT := []) (NT := []) (AN := n_Sy_compileTest_at_k2_an) (OT := []) 3 200 (List.forall_mem_nil _) (by decide +kernel) ⟨List.forall_mem_nil _, List.forall_mem_nil _, List.forall_mem_cons.mpr ⟨cl_virtual (y := y_Sy_advance) (ci := 11) rfl rfl ⟨_, _, rfl⟩ (by decide +kernel) h_Sy_advance wm_2158 wm_23 wm_2155 wm_2157 wv_10_10 ⟨by decide, by decide, by decide +kernel⟩ (by decide), List.forall_mem_cons.mpr ⟨cl_virtual (y := y_Sy_emit) (ci := 11) rfl rfl ⟨_, _, rfl⟩ (by decide +kernel) h_Sy_emit wm_2258 wm_23 wm_2255 wm_2257 wv_11_2 ⟨by decide, by decide, by decide +kernel⟩ (by decide), List.forall_mem_cons.mpr ⟨cl_virtual (y := y_Sy_compileBoth_at_k2) (ci := 11) rfl rfl ⟨_, _, rfl⟩ (by decide +kernel) h_Sy_compileBoth_at_k2 wm_2249 wm_23 wm_2246 wm_2248 wv_11_0 ⟨by decide, by decide, by decide +kernel⟩ (by decide), List.forall_mem_cons.mpr ⟨cl_virtual (y := y_Sy_wordIn_at_s5011) (ci := 11) rfl rfl ⟨_, _, rfl⟩ (by decide +kernel) h_Sy_wordIn_at_s5011 wm_2229 wm_23 wm_2226 wm_2228 wv_10_12 ⟨by decide, by decide, by decide +kernel⟩ (by decide), List.forall_mem_cons.mpr ⟨cl_virtual (y := y_Sy_compileBoth_at_k2) (ci := 11) rfl rfl ⟨_, _, rfl⟩ (by decide +kernel) h_Sy_compileBoth_at_k2 wm_2249 wm_23 wm_2246 wm_2248 wv_11_0 ⟨by decide, by decide, by decide +kernel⟩ (by decide), List.forall_mem_cons.mpr ⟨cl_ldc (own := "DrawingHouse$Styler") (idx := 143) (i := 11) (tx := "or ") (by decide +kernel) (by decide +kernel) (by decide +kernel), List.forall_mem_nil _⟩⟩⟩⟩⟩⟩, List.forall_mem_nil _, List.forall_mem_nil _, GG_pl⟩ (by decide +kernel)
def n_Sy_compileTest_at_k3_an : List an_T := [(12, [(0, (2, 0, 0, [11])), (1, (0, 3, 3, [])), (2, (0, 0, 2000, []))], [], (0, 0), [(0, 0, 99988), (1, 2, 2000), (0, 0, 100000)], [], [((0, 3), (2, 0, 0, [109]))], [], 0, [], [])]
def t_Sy_compileTest_at_k3_ct : ct_L := [(1, 69, e_Sy_advance), (1, 128, e_Sy_emit), (10, 140, e_Sy_compileBoth_at_k3), (70, 114, e_Sy_wordIn_at_s5011), (106, 140, e_Sy_compileBoth_at_k3), (1000000, 143, en_ro [] (2, 0, 0, [5011]))]
set_option maxRecDepth 100000 in
theorem c_Sy_compileTest_at_k3 {l : Launch} {D : va_G} {kA : Nat → ClassId} (h_Sy_advance : ct_ok l D kA GG y_Sy_advance z_Sy_advance e_Sy_advance) (h_Sy_compileBoth_at_k3 : ct_ok l D kA GG y_Sy_compileBoth_at_k3 z_Sy_compileBoth_at_k3 e_Sy_compileBoth_at_k3) (h_Sy_emit : ct_ok l D kA GG y_Sy_emit z_Sy_emit e_Sy_emit) (h_Sy_wordIn_at_s5011 : ct_ok l D kA GG y_Sy_wordIn_at_s5011 z_Sy_wordIn_at_s5011 e_Sy_wordIn_at_s5011) : ct_ok l D kA GG y_Sy_compileTest_at_k3 z_Sy_compileTest_at_k3 e_Sy_compileTest_at_k3 := chk_all_ok (FT := []) (PT := []) (CT := t_Sy_compileTest_at_k3_ct) (KT := []) (NT := []) (AN := n_Sy_compileTest_at_k3_an) (OT := []) 3 200 (List.forall_mem_nil _) (by decide +kernel) ⟨List.forall_mem_nil _, List.forall_mem_nil _, List.forall_mem_cons.mpr ⟨cl_virtual (y := y_Sy_advance) (ci := 11) rfl rfl ⟨_, _, rfl⟩ (by decide +kernel) h_Sy_advance wm_2158 wm_23 wm_2155 wm_2157 wv_10_10 ⟨by decide, by decide, by decide +kernel⟩ (by decide), List.forall_mem_cons.mpr ⟨cl_virtual (y := y_Sy_emit) (ci := 11) rfl rfl ⟨_, _, rfl⟩ (by decide +kernel) h_Sy_emit wm_2258 wm_23 wm_2255 wm_2257 wv_11_2 ⟨by decide, by decide, by decide +kernel⟩ (by decide), List.forall_mem_cons.mpr ⟨cl_virtual (y := y_Sy_compileBoth_at_k3) (ci := 11) rfl rfl ⟨_, _, rfl⟩ (by decide +kernel) h_Sy_compileBoth_at_k3 wm_2249 wm_23 wm_2246 wm_2248 wv_11_0 ⟨by decide, by decide, by decide +kernel⟩ (by decide), List.forall_mem_cons.mpr ⟨cl_virtual (y := y_Sy_wordIn_at_s5011) (ci := 11) rfl rfl ⟨_, _, rfl⟩ (by decide +kernel) h_Sy_wordIn_at_s5011 wm_2229 wm_23 wm_2226 wm_2228 wv_10_12 ⟨by decide, by decide, by decide +kernel⟩ (by decide), List.forall_mem_cons.mpr ⟨cl_virtual (y := y_Sy_compileBoth_at_k3) (ci := 11) rfl rfl ⟨_, _, rfl⟩ (by decide +kernel) h_Sy_compileBoth_at_k3 wm_2249 wm_23 wm_2246 wm_2248 wv_11_0 ⟨by decide, by decide, by decide +kernel⟩ (by decide), List.forall_mem_cons.mpr ⟨cl_ldc (own := "DrawingHouse$Styler") (idx := 143) (i := 11) (tx := "or ") (by decide +kernel) (by decide +kernel) (by decide +kernel), List.forall_mem_nil _⟩⟩⟩⟩⟩⟩, List.forall_mem_nil _, List.forall_mem_nil _, GG_pl⟩ (by decide +kernel)
def n_Sy_compileTest_at_k4_an : List an_T := [(12, [(0, (2, 0, 0, [11])), (1, (0, 4, 4, [])), (2, (0, 0, 2000, []))], [], (0, 0), [(0, 0, 99988), (1, 2, 2000), (0, 0, 100000)], [], [((0, 3), (2, 0, 0, [109]))], [], 0, [], [])]
def t_Sy_compileTest_at_k4_ct : ct_L := [(1, 69, e_Sy_advance), (1, 128, e_Sy_emit), (10, 140, e_Sy_compileBoth_at_k4), (70, 114, e_Sy_wordIn_at_s5011), (106, 140, e_Sy_compileBoth_at_k4), (1000000, 143, en_ro [] (2, 0, 0, [5011]))]
set_option maxRecDepth 100000 in
theorem c_Sy_compileTest_at_k4 {l : Launch} {D : va_G} {kA : Nat → ClassId} (h_Sy_advance : ct_ok l D kA GG y_Sy_advance z_Sy_advance e_Sy_advance) (h_Sy_compileBoth_at_k4 : ct_ok l D kA GG y_Sy_compileBoth_at_k4 z_Sy_compileBoth_at_k4 e_Sy_compileBoth_at_k4) (h_Sy_emit : ct_ok l D kA GG y_Sy_emit z_Sy_emit e_Sy_emit) (h_Sy_wordIn_at_s5011 : ct_ok l D kA GG y_Sy_wordIn_at_s5011 z_Sy_wordIn_at_s5011 e_Sy_wordIn_at_s5011) : ct_ok l D kA GG y_Sy_compileTest_at_k4 z_Sy_compileTest_at_k4 e_Sy_compileTest_at_k4 := chk_all_ok (FT := []) (PT := []) (CT := t_Sy_compileTest_at_k4_ct) (KT := []) (NT := []) (AN := n_Sy_compileTest_at_k4_an) (OT := []) 3 200 (List.forall_mem_nil _) (by decide +kernel) ⟨List.forall_mem_nil _, List.forall_mem_nil _, List.forall_mem_cons.mpr ⟨cl_virtual (y := y_Sy_advance) (ci := 11) rfl rfl ⟨_, _, rfl⟩ (by decide +kernel) h_Sy_advance wm_2158 wm_23 wm_2155 wm_2157 wv_10_10 ⟨by decide, by decide, by decide +kernel⟩ (by decide), List.forall_mem_cons.mpr ⟨cl_virtual (y := y_Sy_emit) (ci := 11) rfl rfl ⟨_, _, rfl⟩ (by decide +kernel) h_Sy_emit wm_2258 wm_23 wm_2255 wm_2257 wv_11_2 ⟨by decide, by decide, by decide +kernel⟩ (by decide), List.forall_mem_cons.mpr ⟨cl_virtual (y := y_Sy_compileBoth_at_k4) (ci := 11) rfl rfl ⟨_, _, rfl⟩ (by decide +kernel) h_Sy_compileBoth_at_k4 wm_2249 wm_23 wm_2246 wm_2248 wv_11_0 ⟨by decide, by decide, by decide +kernel⟩ (by decide), List.forall_mem_cons.mpr ⟨cl_virtual (y := y_Sy_wordIn_at_s5011) (ci := 11) rfl rfl ⟨_, _, rfl⟩ (by decide +kernel) h_Sy_wordIn_at_s5011 wm_2229 wm_23 wm_2226 wm_2228 wv_10_12 ⟨by decide, by decide, by decide +kernel⟩ (by decide), List.forall_mem_cons.mpr ⟨cl_virtual (y := y_Sy_compileBoth_at_k4) (ci := 11) rfl rfl ⟨_, _, rfl⟩ (by decide +kernel) h_Sy_compileBoth_at_k4 wm_2249 wm_23 wm_2246 wm_2248 wv_11_0 ⟨by decide, by decide, by decide +kernel⟩ (by decide), List.forall_mem_cons.mpr ⟨cl_ldc (own := "DrawingHouse$Styler") (idx := 143) (i := 11) (tx := "or ") (by decide +kernel) (by decide +kernel) (by decide +kernel), List.forall_mem_nil _⟩⟩⟩⟩⟩⟩, List.forall_mem_nil _, List.forall_mem_nil _, GG_pl⟩ (by decide +kernel)
def n_Sy_compileTest_at_k5_an : List an_T := [(12, [(0, (2, 0, 0, [11])), (1, (0, 5, 5, [])), (2, (0, 0, 2000, []))], [], (0, 0), [(0, 0, 99988), (1, 2, 2000), (0, 0, 100000)], [], [((0, 3), (2, 0, 0, [109]))], [], 0, [], [])]
def t_Sy_compileTest_at_k5_ct : ct_L := [(1, 69, e_Sy_advance), (1, 128, e_Sy_emit), (10, 140, e_Sy_compileBoth_at_k5), (70, 114, e_Sy_wordIn_at_s5011), (106, 140, e_Sy_compileBoth_at_k5), (1000000, 143, en_ro [] (2, 0, 0, [5011]))]
set_option maxRecDepth 100000 in
theorem c_Sy_compileTest_at_k5 {l : Launch} {D : va_G} {kA : Nat → ClassId} (h_Sy_advance : ct_ok l D kA GG y_Sy_advance z_Sy_advance e_Sy_advance) (h_Sy_compileBoth_at_k5 : ct_ok l D kA GG y_Sy_compileBoth_at_k5 z_Sy_compileBoth_at_k5 e_Sy_compileBoth_at_k5) (h_Sy_emit : ct_ok l D kA GG y_Sy_emit z_Sy_emit e_Sy_emit) (h_Sy_wordIn_at_s5011 : ct_ok l D kA GG y_Sy_wordIn_at_s5011 z_Sy_wordIn_at_s5011 e_Sy_wordIn_at_s5011) : ct_ok l D kA GG y_Sy_compileTest_at_k5 z_Sy_compileTest_at_k5 e_Sy_compileTest_at_k5 := chk_all_ok (FT := []) (PT := []) (CT := t_Sy_compileTest_at_k5_ct) (KT := []) (NT := []) (AN := n_Sy_compileTest_at_k5_an) (OT := []) 3 200 (List.forall_mem_nil _) (by decide +kernel) ⟨List.forall_mem_nil _, List.forall_mem_nil _, List.forall_mem_cons.mpr ⟨cl_virtual (y := y_Sy_advance) (ci := 11) rfl rfl ⟨_, _, rfl⟩ (by decide +kernel) h_Sy_advance wm_2158 wm_23 wm_2155 wm_2157 wv_10_10 ⟨by decide, by decide, by decide +kernel⟩ (by decide), List.forall_mem_cons.mpr ⟨cl_virtual (y := y_Sy_emit) (ci := 11) rfl rfl ⟨_, _, rfl⟩ (by decide +kernel) h_Sy_emit wm_2258 wm_23 wm_2255 wm_2257 wv_11_2 ⟨by decide, by decide, by decide +kernel⟩ (by decide), List.forall_mem_cons.mpr ⟨cl_virtual (y := y_Sy_compileBoth_at_k5) (ci := 11) rfl rfl ⟨_, _, rfl⟩ (by decide +kernel) h_Sy_compileBoth_at_k5 wm_2249 wm_23 wm_2246 wm_2248 wv_11_0 ⟨by decide, by decide, by decide +kernel⟩ (by decide), List.forall_mem_cons.mpr ⟨cl_virtual (y := y_Sy_wordIn_at_s5011) (ci := 11) rfl rfl ⟨_, _, rfl⟩ (by decide +kernel) h_Sy_wordIn_at_s5011 wm_2229 wm_23 wm_2226 wm_2228 wv_10_12 ⟨by decide, by decide, by decide +kernel⟩ (by decide), List.forall_mem_cons.mpr ⟨cl_virtual (y := y_Sy_compileBoth_at_k5) (ci := 11) rfl rfl ⟨_, _, rfl⟩ (by decide +kernel) h_Sy_compileBoth_at_k5 wm_2249 wm_23 wm_2246 wm_2248 wv_11_0 ⟨by decide, by decide, by decide +kernel⟩ (by decide), List.forall_mem_cons.mpr ⟨cl_ldc (own := "DrawingHouse$Styler") (idx := 143) (i := 11) (tx := "or ") (by decide +kernel) (by decide +kernel) (by decide +kernel), List.forall_mem_nil _⟩⟩⟩⟩⟩⟩, List.forall_mem_nil _, List.forall_mem_nil _, GG_pl⟩ (by decide +kernel)
def n_Sy_compileTest_at_k6_an : List an_T := [(12, [(0, (2, 0, 0, [11])), (1, (0, 6, 6, [])), (2, (0, 0, 2000, []))], [], (0, 0), [(0, 0, 99988), (1, 2, 2000), (0, 0, 100000)], [], [((0, 3), (2, 0, 0, [109]))], [], 0, [], [])]
def t_Sy_compileTest_at_k6_ct : ct_L := [(1, 69, e_Sy_advance), (1, 128, e_Sy_emit), (10, 140, e_Sy_compileBoth_at_k6), (70, 114, e_Sy_wordIn_at_s5011), (106, 140, e_Sy_compileBoth_at_k6), (1000000, 143, en_ro [] (2, 0, 0, [5011]))]
set_option maxRecDepth 100000 in
theorem c_Sy_compileTest_at_k6 {l : Launch} {D : va_G} {kA : Nat → ClassId} (h_Sy_advance : ct_ok l D kA GG y_Sy_advance z_Sy_advance e_Sy_advance) (h_Sy_compileBoth_at_k6 : ct_ok l D kA GG y_Sy_compileBoth_at_k6 z_Sy_compileBoth_at_k6 e_Sy_compileBoth_at_k6) (h_Sy_emit : ct_ok l D kA GG y_Sy_emit z_Sy_emit e_Sy_emit) (h_Sy_wordIn_at_s5011 : ct_ok l D kA GG y_Sy_wordIn_at_s5011 z_Sy_wordIn_at_s5011 e_Sy_wordIn_at_s5011) : ct_ok l D kA GG y_Sy_compileTest_at_k6 z_Sy_compileTest_at_k6 e_Sy_compileTest_at_k6 := chk_all_ok (FT := []) (PT := []) (CT := t_Sy_compileTest_at_k6_ct) (KT := []) (NT := []) (AN := n_Sy_compileTest_at_k6_an) (OT := []) 3 200 (List.forall_mem_nil _) (by decide +kernel) ⟨List.forall_mem_nil _, List.forall_mem_nil _, List.forall_mem_cons.mpr ⟨cl_virtual (y := y_Sy_advance) (ci := 11) rfl rfl ⟨_, _, rfl⟩ (by decide +kernel) h_Sy_advance wm_2158 wm_23 wm_2155 wm_2157 wv_10_10 ⟨by decide, by decide, by decide +kernel⟩ (by decide), List.forall_mem_cons.mpr ⟨cl_virtual (y := y_Sy_emit) (ci := 11) rfl rfl ⟨_, _, rfl⟩ (by decide +kernel) h_Sy_emit wm_2258 wm_23 wm_2255 wm_2257 wv_11_2 ⟨by decide, by decide, by decide +kernel⟩ (by decide), List.forall_mem_cons.mpr ⟨cl_virtual (y := y_Sy_compileBoth_at_k6) (ci := 11) rfl rfl ⟨_, _, rfl⟩ (by decide +kernel) h_Sy_compileBoth_at_k6 wm_2249 wm_23 wm_2246 wm_2248 wv_11_0 ⟨by decide, by decide, by decide +kernel⟩ (by decide), List.forall_mem_cons.mpr ⟨cl_virtual (y := y_Sy_wordIn_at_s5011) (ci := 11) rfl rfl ⟨_, _, rfl⟩ (by decide +kernel) h_Sy_wordIn_at_s5011 wm_2229 wm_23 wm_2226 wm_2228 wv_10_12 ⟨by decide, by decide, by decide +kernel⟩ (by decide), List.forall_mem_cons.mpr ⟨cl_virtual (y := y_Sy_compileBoth_at_k6) (ci := 11) rfl rfl ⟨_, _, rfl⟩ (by decide +kernel) h_Sy_compileBoth_at_k6 wm_2249 wm_23 wm_2246 wm_2248 wv_11_0 ⟨by decide, by decide, by decide +kernel⟩ (by decide), List.forall_mem_cons.mpr ⟨cl_ldc (own := "DrawingHouse$Styler") (idx := 143) (i := 11) (tx := "or ") (by decide +kernel) (by decide +kernel) (by decide +kernel), List.forall_mem_nil _⟩⟩⟩⟩⟩⟩, List.forall_mem_nil _, List.forall_mem_nil _, GG_pl⟩ (by decide +kernel)
def n_Sy_compileTest_at_k7_an : List an_T := [(12, [(0, (2, 0, 0, [11])), (1, (0, 7, 7, [])), (2, (0, 0, 2000, []))], [], (0, 0), [(0, 0, 99988), (1, 2, 2000), (0, 0, 100000)], [], [((0, 3), (2, 0, 0, [109]))], [], 0, [], [])]
def t_Sy_compileTest_at_k7_ct : ct_L := [(1, 69, e_Sy_advance), (1, 128, e_Sy_emit), (10, 140, e_Sy_compileBoth_at_k7), (70, 114, e_Sy_wordIn_at_s5011), (106, 140, e_Sy_compileBoth_at_k7), (1000000, 143, en_ro [] (2, 0, 0, [5011]))]
set_option maxRecDepth 100000 in
theorem c_Sy_compileTest_at_k7 {l : Launch} {D : va_G} {kA : Nat → ClassId} (h_Sy_advance : ct_ok l D kA GG y_Sy_advance z_Sy_advance e_Sy_advance) (h_Sy_compileBoth_at_k7 : ct_ok l D kA GG y_Sy_compileBoth_at_k7 z_Sy_compileBoth_at_k7 e_Sy_compileBoth_at_k7) (h_Sy_emit : ct_ok l D kA GG y_Sy_emit z_Sy_emit e_Sy_emit) (h_Sy_wordIn_at_s5011 : ct_ok l D kA GG y_Sy_wordIn_at_s5011 z_Sy_wordIn_at_s5011 e_Sy_wordIn_at_s5011) : ct_ok l D kA GG y_Sy_compileTest_at_k7 z_Sy_compileTest_at_k7 e_Sy_compileTest_at_k7 := chk_all_ok (FT := []) (PT := []) (CT := t_Sy_compileTest_at_k7_ct) (KT := []) (NT := []) (AN := n_Sy_compileTest_at_k7_an) (OT := []) 3 200 (List.forall_mem_nil _) (by decide +kernel) ⟨List.forall_mem_nil _, List.forall_mem_nil _, List.forall_mem_cons.mpr ⟨cl_virtual (y := y_Sy_advance) (ci := 11) rfl rfl ⟨_, _, rfl⟩ (by decide +kernel) h_Sy_advance wm_2158 wm_23 wm_2155 wm_2157 wv_10_10 ⟨by decide, by decide, by decide +kernel⟩ (by decide), List.forall_mem_cons.mpr ⟨cl_virtual (y := y_Sy_emit) (ci := 11) rfl rfl ⟨_, _, rfl⟩ (by decide +kernel) h_Sy_emit wm_2258 wm_23 wm_2255 wm_2257 wv_11_2 ⟨by decide, by decide, by decide +kernel⟩ (by decide), List.forall_mem_cons.mpr ⟨cl_virtual (y := y_Sy_compileBoth_at_k7) (ci := 11) rfl rfl ⟨_, _, rfl⟩ (by decide +kernel) h_Sy_compileBoth_at_k7 wm_2249 wm_23 wm_2246 wm_2248 wv_11_0 ⟨by decide, by decide, by decide +kernel⟩ (by decide), List.forall_mem_cons.mpr ⟨cl_virtual (y := y_Sy_wordIn_at_s5011) (ci := 11) rfl rfl ⟨_, _, rfl⟩ (by decide +kernel) h_Sy_wordIn_at_s5011 wm_2229 wm_23 wm_2226 wm_2228 wv_10_12 ⟨by decide, by decide, by decide +kernel⟩ (by decide), List.forall_mem_cons.mpr ⟨cl_virtual (y := y_Sy_compileBoth_at_k7) (ci := 11) rfl rfl ⟨_, _, rfl⟩ (by decide +kernel) h_Sy_compileBoth_at_k7 wm_2249 wm_23 wm_2246 wm_2248 wv_11_0 ⟨by decide, by decide, by decide +kernel⟩ (by decide), List.forall_mem_cons.mpr ⟨cl_ldc (own := "DrawingHouse$Styler") (idx := 143) (i := 11) (tx := "or ") (by decide +kernel) (by decide +kernel) (by decide +kernel), List.forall_mem_nil _⟩⟩⟩⟩⟩⟩, List.forall_mem_nil _, List.forall_mem_nil _, GG_pl⟩ (by decide +kernel)
def n_Sy_compileTest_at_k8_an : List an_T := [(12, [(0, (2, 0, 0, [11])), (1, (0, 8, 8, [])), (2, (0, 0, 2000, []))], [], (0, 0), [(0, 0, 99988), (1, 2, 2000), (0, 0, 100000)], [], [((0, 3), (2, 0, 0, [109]))], [], 0, [], [])]
def t_Sy_compileTest_at_k8_ct : ct_L := [(1, 69, e_Sy_advance), (1, 128, e_Sy_emit), (10, 140, e_Sy_compileBoth_at_k8), (70, 114, e_Sy_wordIn_at_s5011), (106, 140, e_Sy_compileBoth_at_k8), (1000000, 143, en_ro [] (2, 0, 0, [5011]))]
set_option maxRecDepth 100000 in
theorem c_Sy_compileTest_at_k8 {l : Launch} {D : va_G} {kA : Nat → ClassId} (h_Sy_advance : ct_ok l D kA GG y_Sy_advance z_Sy_advance e_Sy_advance) (h_Sy_compileBoth_at_k8 : ct_ok l D kA GG y_Sy_compileBoth_at_k8 z_Sy_compileBoth_at_k8 e_Sy_compileBoth_at_k8) (h_Sy_emit : ct_ok l D kA GG y_Sy_emit z_Sy_emit e_Sy_emit) (h_Sy_wordIn_at_s5011 : ct_ok l D kA GG y_Sy_wordIn_at_s5011 z_Sy_wordIn_at_s5011 e_Sy_wordIn_at_s5011) : ct_ok l D kA GG y_Sy_compileTest_at_k8 z_Sy_compileTest_at_k8 e_Sy_compileTest_at_k8 := chk_all_ok (FT := []) (PT := []) (CT := t_Sy_compileTest_at_k8_ct) (KT := []) (NT := []) (AN := n_Sy_compileTest_at_k8_an) (OT := []) 3 200 (List.forall_mem_nil _) (by decide +kernel) ⟨List.forall_mem_nil _, List.forall_mem_nil _, List.forall_mem_cons.mpr ⟨cl_virtual (y := y_Sy_advance) (ci := 11) rfl rfl ⟨_, _, rfl⟩ (by decide +kernel) h_Sy_advance wm_2158 wm_23 wm_2155 wm_2157 wv_10_10 ⟨by decide, by decide, by decide +kernel⟩ (by decide), List.forall_mem_cons.mpr ⟨cl_virtual (y := y_Sy_emit) (ci := 11) rfl rfl ⟨_, _, rfl⟩ (by decide +kernel) h_Sy_emit wm_2258 wm_23 wm_2255 wm_2257 wv_11_2 ⟨by decide, by decide, by decide +kernel⟩ (by decide), List.forall_mem_cons.mpr ⟨cl_virtual (y := y_Sy_compileBoth_at_k8) (ci := 11) rfl rfl ⟨_, _, rfl⟩ (by decide +kernel) h_Sy_compileBoth_at_k8 wm_2249 wm_23 wm_2246 wm_2248 wv_11_0 ⟨by decide, by decide, by decide +kernel⟩ (by decide), List.forall_mem_cons.mpr ⟨cl_virtual (y := y_Sy_wordIn_at_s5011) (ci := 11) rfl rfl ⟨_, _, rfl⟩ (by decide +kernel) h_Sy_wordIn_at_s5011 wm_2229 wm_23 wm_2226 wm_2228 wv_10_12 ⟨by decide, by decide, by decide +kernel⟩ (by decide), List.forall_mem_cons.mpr ⟨cl_virtual (y := y_Sy_compileBoth_at_k8) (ci := 11) rfl rfl ⟨_, _, rfl⟩ (by decide +kernel) h_Sy_compileBoth_at_k8 wm_2249 wm_23 wm_2246 wm_2248 wv_11_0 ⟨by decide, by decide, by decide +kernel⟩ (by decide), List.forall_mem_cons.mpr ⟨cl_ldc (own := "DrawingHouse$Styler") (idx := 143) (i := 11) (tx := "or ") (by decide +kernel) (by decide +kernel) (by decide +kernel), List.forall_mem_nil _⟩⟩⟩⟩⟩⟩, List.forall_mem_nil _, List.forall_mem_nil _, GG_pl⟩ (by decide +kernel)
def n_Sy_compileTest_at_k9_an : List an_T := [(12, [(0, (2, 0, 0, [11])), (1, (0, 9, 9, [])), (2, (0, 0, 2000, []))], [], (0, 0), [(0, 0, 99988), (1, 2, 2000), (0, 0, 100000)], [], [((0, 3), (2, 0, 0, [109]))], [], 0, [], [])]
def t_Sy_compileTest_at_k9_ct : ct_L := [(1, 69, e_Sy_advance), (1, 128, e_Sy_emit), (10, 140, e_Sy_compileBoth_at_k9), (70, 114, e_Sy_wordIn_at_s5011), (106, 140, e_Sy_compileBoth_at_k9), (1000000, 143, en_ro [] (2, 0, 0, [5011]))]
set_option maxRecDepth 100000 in
theorem c_Sy_compileTest_at_k9 {l : Launch} {D : va_G} {kA : Nat → ClassId} (h_Sy_advance : ct_ok l D kA GG y_Sy_advance z_Sy_advance e_Sy_advance) (h_Sy_compileBoth_at_k9 : ct_ok l D kA GG y_Sy_compileBoth_at_k9 z_Sy_compileBoth_at_k9 e_Sy_compileBoth_at_k9) (h_Sy_emit : ct_ok l D kA GG y_Sy_emit z_Sy_emit e_Sy_emit) (h_Sy_wordIn_at_s5011 : ct_ok l D kA GG y_Sy_wordIn_at_s5011 z_Sy_wordIn_at_s5011 e_Sy_wordIn_at_s5011) : ct_ok l D kA GG y_Sy_compileTest_at_k9 z_Sy_compileTest_at_k9 e_Sy_compileTest_at_k9 := chk_all_ok (FT := []) (PT := []) (CT := t_Sy_compileTest_at_k9_ct) (KT := []) (NT := []) (AN := n_Sy_compileTest_at_k9_an) (OT := []) 3 200 (List.forall_mem_nil _) (by decide +kernel) ⟨List.forall_mem_nil _, List.forall_mem_nil _, List.forall_mem_cons.mpr ⟨cl_virtual (y := y_Sy_advance) (ci := 11) rfl rfl ⟨_, _, rfl⟩ (by decide +kernel) h_Sy_advance wm_2158 wm_23 wm_2155 wm_2157 wv_10_10 ⟨by decide, by decide, by decide +kernel⟩ (by decide), List.forall_mem_cons.mpr ⟨cl_virtual (y := y_Sy_emit) (ci := 11) rfl rfl ⟨_, _, rfl⟩ (by decide +kernel) h_Sy_emit wm_2258 wm_23 wm_2255 wm_2257 wv_11_2 ⟨by decide, by decide, by decide +kernel⟩ (by decide), List.forall_mem_cons.mpr ⟨cl_virtual (y := y_Sy_compileBoth_at_k9) (ci := 11) rfl rfl ⟨_, _, rfl⟩ (by decide +kernel) h_Sy_compileBoth_at_k9 wm_2249 wm_23 wm_2246 wm_2248 wv_11_0 ⟨by decide, by decide, by decide +kernel⟩ (by decide), List.forall_mem_cons.mpr ⟨cl_virtual (y := y_Sy_wordIn_at_s5011) (ci := 11) rfl rfl ⟨_, _, rfl⟩ (by decide +kernel) h_Sy_wordIn_at_s5011 wm_2229 wm_23 wm_2226 wm_2228 wv_10_12 ⟨by decide, by decide, by decide +kernel⟩ (by decide), List.forall_mem_cons.mpr ⟨cl_virtual (y := y_Sy_compileBoth_at_k9) (ci := 11) rfl rfl ⟨_, _, rfl⟩ (by decide +kernel) h_Sy_compileBoth_at_k9 wm_2249 wm_23 wm_2246 wm_2248 wv_11_0 ⟨by decide, by decide, by decide +kernel⟩ (by decide), List.forall_mem_cons.mpr ⟨cl_ldc (own := "DrawingHouse$Styler") (idx := 143) (i := 11) (tx := "or ") (by decide +kernel) (by decide +kernel) (by decide +kernel), List.forall_mem_nil _⟩⟩⟩⟩⟩⟩, List.forall_mem_nil _, List.forall_mem_nil _, GG_pl⟩ (by decide +kernel)
def o_Sy_compileRule_0 : or_T := (42, 8, [(0, (2, 0, 0, [11])), (2, (0, 0, 112, []))], [(9, [2, 0], [0]), (20, [0], [30, 111, 1, 1, 0]), (101, [0, 6], [9]), (20, [0], [30, 111, 1, 1, 0])], [(2, (0, 0, 111, []))], [], [], [], [])
theorem oo_Sy_compileRule_0 {kA : Nat → ClassId} : or_ok kA GG o_Sy_compileRule_0 := by
  intro A ta ws vs hD hth hl hk hds hf
  have hl : vs.length = 8 := hl
  have hk : ∀ q ∈ ([(0, (2, 0, 0, [11])), (2, (0, 0, 112, []))] : List (Nat × tv_T)), tv_ok ta q.2 (n_v vs q.1) := hk
  obtain ⟨t0, hk⟩ := List.forall_mem_cons.mp hk
  have t0 : tv_ok ta (2, 0, 0, [11]) (n_v vs 0) := t0
  have r0 : ta (v_ad (n_v vs 0)) = some 11 := tv_rg t0
  obtain ⟨t2, hk⟩ := List.forall_mem_cons.mp hk
  have t2 : tv_ok ta (0, 0, 112, []) (n_v vs 2) := t2
  have k2 : 0 ≤ v_iv (n_v vs 2) ∧ v_iv (n_v vs 2) ≤ 112 := tv_rng t2
  have hf : fc_ok [(9, [2, 0], [0]), (20, [0], [30, 111, 1, 1, 0]), (101, [0, 6], [9]), (20, [0], [30, 111, 1, 1, 0])] ta ws vs := hf
  obtain ⟨f0, hf⟩ := fc_un (by decide) hf
  have f0 : n_v vs 2 = w_fd ws (v_ad (n_v vs 0)) 0 := f0
  obtain ⟨f1, hf⟩ := fc_un (by decide) hf
  have f1 : 1 * w_fi ws (n_v vs 0) 0 + 0 ≤ 111 := f1
  obtain ⟨ta1, w1, le1, ⟨_, s1⟩, hf⟩ := fc_us (by decide) hf
  have s1 : (∀ b j, w_el ws b j = w_el w1 b j) ∧ ∀ b j, w_fd ws b j = if b = v_ad (n_v vs 0) ∧ j = 9 then n_v vs 6 else w_fd w1 b j := s1
  obtain ⟨f3, hf⟩ := fc_un (by decide) hf
  have f3 : 1 * w_fi w1 (n_v vs 0) 0 + 0 ≤ 111 := f3
  have g0 : v_iv (n_v vs 2) = w_fi ws (n_v vs 0) 0 := congrArg v_iv f0
  have fe_0_0_1 : w_fi ws (n_v vs 0) 0 = w_fi w1 (n_v vs 0) 0 := by show v_iv (w_fd _ _ _) = v_iv (w_fd _ _ _); rw [s1.2, if_neg (fun e => absurd e.2 (by decide))]
  have kz_0_0 : 0 ≤ w_fi ws (n_v vs 0) 0 ∧ w_fi ws (n_v vs 0) 0 ≤ 112 := tv_rng (th_fd hD hth r0 (g := GG_11) rfl (k := 0) (t := (0, 0, 112, [])) rfl rfl)
  have rf2 : tv_ok ta (0, 0, 111, []) (n_v vs 2) := tv_in t2 (by omega) (by omega)
  refine ⟨List.forall_mem_cons.mpr ⟨rf2, (fun _ h => (by cases h))⟩, [], trivial, ?_, (fun _ h => (by cases h))⟩
  rw [List.append_nil]
  exact (fun _ h => (by cases h))
def o_Sy_compileRule_1 : or_T := (66, 12, [(0, (2, 0, 0, [11])), (1, (2, 0, 0, [109])), (2, (0, 0, 111, [])), (7, (2, 0, 0, [128])), (8, (2, 0, 0, [127])), (10, (0, 1, 1, [])), (11, (0, 1, 112, []))], [(101, [0, 11], [0]), (1, [11, 2, 10], []), (9, [2, 0], [0]), (20, [0], [30, 111, 1, 1, 0]), (100, [8, 2, 9], []), (9, [8, 0], [12]), (20, [0], [30, 111, 1, 1, 0]), (100, [7, 2, 4], []), (9, [7, 0], [13]), (20, [0], [30, 111, 1, 1, 0]), (101, [0, 6], [9]), (20, [0], [30, 111, 1, 1, 0])], [], [], [(20, [0, 1], [30, 1, 1, 1, 0, -1, 0, 0])], [], [(11, 2, 1, 1)])
theorem oo_Sy_compileRule_1 {kA : Nat → ClassId} : or_ok kA GG o_Sy_compileRule_1 := by
  intro A ta ws vs hD hth hl hk hds hf
  have hl : vs.length = 12 := hl
  have hk : ∀ q ∈ ([(0, (2, 0, 0, [11])), (1, (2, 0, 0, [109])), (2, (0, 0, 111, [])), (7, (2, 0, 0, [128])), (8, (2, 0, 0, [127])), (10, (0, 1, 1, [])), (11, (0, 1, 112, []))] : List (Nat × tv_T)), tv_ok ta q.2 (n_v vs q.1) := hk
  obtain ⟨t0, hk⟩ := List.forall_mem_cons.mp hk
  have t0 : tv_ok ta (2, 0, 0, [11]) (n_v vs 0) := t0
  have r0 : ta (v_ad (n_v vs 0)) = some 11 := tv_rg t0
  obtain ⟨t1, hk⟩ := List.forall_mem_cons.mp hk
  have t1 : tv_ok ta (2, 0, 0, [109]) (n_v vs 1) := t1
  have r1 : ta (v_ad (n_v vs 1)) = some 109 := tv_rg t1
  obtain ⟨t2, hk⟩ := List.forall_mem_cons.mp hk
  have t2 : tv_ok ta (0, 0, 111, []) (n_v vs 2) := t2
  have k2 : 0 ≤ v_iv (n_v vs 2) ∧ v_iv (n_v vs 2) ≤ 111 := tv_rng t2
  obtain ⟨t7, hk⟩ := List.forall_mem_cons.mp hk
  have t7 : tv_ok ta (2, 0, 0, [128]) (n_v vs 7) := t7
  have r7 : ta (v_ad (n_v vs 7)) = some 128 := tv_rg t7
  obtain ⟨t8, hk⟩ := List.forall_mem_cons.mp hk
  have t8 : tv_ok ta (2, 0, 0, [127]) (n_v vs 8) := t8
  have r8 : ta (v_ad (n_v vs 8)) = some 127 := tv_rg t8
  obtain ⟨t10, hk⟩ := List.forall_mem_cons.mp hk
  have t10 : tv_ok ta (0, 1, 1, []) (n_v vs 10) := t10
  have k10 : 1 ≤ v_iv (n_v vs 10) ∧ v_iv (n_v vs 10) ≤ 1 := tv_rng t10
  obtain ⟨t11, hk⟩ := List.forall_mem_cons.mp hk
  have t11 : tv_ok ta (0, 1, 112, []) (n_v vs 11) := t11
  have k11 : 1 ≤ v_iv (n_v vs 11) ∧ v_iv (n_v vs 11) ≤ 112 := tv_rng t11
  have hds : ∀ q ∈ ([(11, 2, 1, 1)] : List of_T), n_iv vs q.2.1 + q.2.2.1 ≤ n_iv vs q.1 ∧ n_iv vs q.1 ≤ n_iv vs q.2.1 + q.2.2.2 := hds
  obtain ⟨d0, hds⟩ := List.forall_mem_cons.mp hds
  have d0 : v_iv (n_v vs 2) + 1 ≤ v_iv (n_v vs 11) ∧ v_iv (n_v vs 11) ≤ v_iv (n_v vs 2) + 1 := d0
  have hf : fc_ok [(101, [0, 11], [0]), (1, [11, 2, 10], []), (9, [2, 0], [0]), (20, [0], [30, 111, 1, 1, 0]), (100, [8, 2, 9], []), (9, [8, 0], [12]), (20, [0], [30, 111, 1, 1, 0]), (100, [7, 2, 4], []), (9, [7, 0], [13]), (20, [0], [30, 111, 1, 1, 0]), (101, [0, 6], [9]), (20, [0], [30, 111, 1, 1, 0])] ta ws vs := hf
  obtain ⟨ta1, w1, le1, ⟨_, s1⟩, hf⟩ := fc_us (by decide) hf
  have s1 : (∀ b j, w_el ws b j = w_el w1 b j) ∧ ∀ b j, w_fd ws b j = if b = v_ad (n_v vs 0) ∧ j = 0 then n_v vs 11 else w_fd w1 b j := s1
  obtain ⟨f1, hf⟩ := fc_un (by decide) hf
  have f1 : v_iv (n_v vs 11) = v_iv (n_v vs 2) + v_iv (n_v vs 10) := f1
  obtain ⟨f2, hf⟩ := fc_un (by decide) hf
  have f2 : n_v vs 2 = w_fd w1 (v_ad (n_v vs 0)) 0 := f2
  obtain ⟨f3, hf⟩ := fc_un (by decide) hf
  have f3 : 1 * w_fi w1 (n_v vs 0) 0 + 0 ≤ 111 := f3
  obtain ⟨ta2, w2, le2, ⟨_, s2⟩, hf⟩ := fc_us (by decide) hf
  have s2 : (∀ b j, w_el w1 b j = if b = v_ad (n_v vs 8) ∧ j = (v_iv (n_v vs 2)).toNat then v_iv (n_v vs 9) else w_el w2 b j) ∧ ∀ b k, w_fd w1 b k = w_fd w2 b k := s2
  obtain ⟨f5, hf⟩ := fc_un (by decide) hf
  have f5 : n_v vs 8 = w_fd w2 (v_ad (n_v vs 0)) 12 := f5
  obtain ⟨f6, hf⟩ := fc_un (by decide) hf
  have f6 : 1 * w_fi w2 (n_v vs 0) 0 + 0 ≤ 111 := f6
  obtain ⟨ta3, w3, le3, ⟨_, s3⟩, hf⟩ := fc_us (by decide) hf
  have s3 : (∀ b j, w_el w2 b j = if b = v_ad (n_v vs 7) ∧ j = (v_iv (n_v vs 2)).toNat then v_iv (n_v vs 4) else w_el w3 b j) ∧ ∀ b k, w_fd w2 b k = w_fd w3 b k := s3
  obtain ⟨f8, hf⟩ := fc_un (by decide) hf
  have f8 : n_v vs 7 = w_fd w3 (v_ad (n_v vs 0)) 13 := f8
  obtain ⟨f9, hf⟩ := fc_un (by decide) hf
  have f9 : 1 * w_fi w3 (n_v vs 0) 0 + 0 ≤ 111 := f9
  obtain ⟨ta4, w4, le4, ⟨_, s4⟩, hf⟩ := fc_us (by decide) hf
  have s4 : (∀ b j, w_el w3 b j = w_el w4 b j) ∧ ∀ b j, w_fd w3 b j = if b = v_ad (n_v vs 0) ∧ j = 9 then n_v vs 6 else w_fd w4 b j := s4
  obtain ⟨f11, hf⟩ := fc_un (by decide) hf
  have f11 : 1 * w_fi w4 (n_v vs 0) 0 + 0 ≤ 111 := f11
  have ar_0_12_1 : w_ar w1 (n_v vs 0) 12 = w_ar ws (n_v vs 0) 12 := by show v_ad (w_fd w1 _ _) = v_ad (w_fd ws _ _); rw [s1.2, if_neg (fun e => absurd e.2 (by decide))]
  have ar_0_12_2 : w_ar w2 (n_v vs 0) 12 = w_ar ws (n_v vs 0) 12 := by rw [← ar_0_12_1]; show v_ad (w_fd w2 _ _) = v_ad (w_fd w1 _ _); rw [s2.2]
  have ar_0_12_3 : w_ar w3 (n_v vs 0) 12 = w_ar ws (n_v vs 0) 12 := by rw [← ar_0_12_2]; show v_ad (w_fd w3 _ _) = v_ad (w_fd w2 _ _); rw [s3.2]
  have ar_0_12_4 : w_ar w4 (n_v vs 0) 12 = w_ar ws (n_v vs 0) 12 := by rw [← ar_0_12_3]; show v_ad (w_fd w4 _ _) = v_ad (w_fd w3 _ _); rw [s4.2, if_neg (fun e => absurd e.2 (by decide))]
  have cr_0_12 : ta (w_ar ws (n_v vs 0) 12) = some 127 := tv_rg (th_fd hD hth r0 (g := GG_11) rfl (k := 12) (t := (2, 0, 0, [127])) rfl rfl)
  have ar_0_13_1 : w_ar w1 (n_v vs 0) 13 = w_ar ws (n_v vs 0) 13 := by show v_ad (w_fd w1 _ _) = v_ad (w_fd ws _ _); rw [s1.2, if_neg (fun e => absurd e.2 (by decide))]
  have ar_0_13_2 : w_ar w2 (n_v vs 0) 13 = w_ar ws (n_v vs 0) 13 := by rw [← ar_0_13_1]; show v_ad (w_fd w2 _ _) = v_ad (w_fd w1 _ _); rw [s2.2]
  have ar_0_13_3 : w_ar w3 (n_v vs 0) 13 = w_ar ws (n_v vs 0) 13 := by rw [← ar_0_13_2]; show v_ad (w_fd w3 _ _) = v_ad (w_fd w2 _ _); rw [s3.2]
  have ar_0_13_4 : w_ar w4 (n_v vs 0) 13 = w_ar ws (n_v vs 0) 13 := by rw [← ar_0_13_3]; show v_ad (w_fd w4 _ _) = v_ad (w_fd w3 _ _); rw [s4.2, if_neg (fun e => absurd e.2 (by decide))]
  have cr_0_13 : ta (w_ar ws (n_v vs 0) 13) = some 128 := tv_rg (th_fd hD hth r0 (g := GG_11) rfl (k := 13) (t := (2, 0, 0, [128])) rfl rfl)
  have ad_8 : v_ad (n_v vs 8) = w_ar ws (n_v vs 0) 12 := (congrArg v_ad f5).trans ar_0_12_2
  have ad_7 : v_ad (n_v vs 7) = w_ar ws (n_v vs 0) 13 := (congrArg v_ad f8).trans ar_0_13_3
  have g2 : v_iv (n_v vs 2) = w_fi w1 (n_v vs 0) 0 := congrArg v_iv f2
  have fe_0_0_1 : w_fi ws (n_v vs 0) 0 = v_iv (n_v vs 11) := by show v_iv (w_fd _ _ _) = _; rw [s1.2, if_pos ⟨rfl, rfl⟩]
  have fe_0_0_2 : w_fi w1 (n_v vs 0) 0 = w_fi w2 (n_v vs 0) 0 := congrArg v_iv (s2.2 _ _)
  have fe_0_0_3 : w_fi w2 (n_v vs 0) 0 = w_fi w3 (n_v vs 0) 0 := congrArg v_iv (s3.2 _ _)
  have fe_0_0_4 : w_fi w3 (n_v vs 0) 0 = w_fi w4 (n_v vs 0) 0 := by show v_iv (w_fd _ _ _) = v_iv (w_fd _ _ _); rw [s4.2, if_neg (fun e => absurd e.2 (by decide))]
  have kz_0_0 : 0 ≤ w_fi ws (n_v vs 0) 0 ∧ w_fi ws (n_v vs 0) 0 ≤ 112 := tv_rng (th_fd hD hth r0 (g := GG_11) rfl (k := 0) (t := (0, 0, 112, [])) rfl rfl)
  have nf0 : fc_1 (20, [0, 1], [30, 1, 1, 1, 0, -1, 0, 0]) ws (vs) := by
    refine ⟨fun n hn => ?_, ?_⟩
    · have hn : n ∈ [0, 1] := hn
      rw [hl]
      simp only [List.mem_cons, List.not_mem_nil, or_false] at hn
      show n < 12; omega
    · show 1 * w_fi ws (n_v vs 0) 0 + ((-1) * v_iv (n_v vs 1) + 0) ≤ 1
      omega
  refine ⟨(fun _ h => (by cases h)), [], trivial, ?_, (fun _ h => (by cases h))⟩
  rw [List.append_nil]
  exact List.forall_mem_cons.mpr ⟨⟨by decide, nf0⟩, (fun _ h => (by cases h))⟩
def o_Sy_compileRule_2 : or_T := (124, 22, [(0, (2, 0, 0, [11])), (1, (2, 0, 0, [109])), (2, (0, 0, 111, [])), (10, (0, 1, 1, [])), (11, (0, 1, 112, []))], [(20, [0, 1], [30, 1, 1, 1, 0, -1, 0, 0]), (102, [20], [85070591730234615865843651857942052864, 11011]), (102, [15], [85070591730234615865843651857942052864, 11001, 11002, 11005, 11006, 11007, 11008, 11011]), (102, [14], [0, 11005, 11006, 11007, 11008]), (102, [12], [0]), (102, [11], [0, 11005, 11006, 11007, 11008]), (101, [0, 11], [0]), (1, [11, 2, 10], [])], [], [], [(24, [0, 0], [])], [], [(11, 2, 1, 1)])
theorem oo_Sy_compileRule_2 {kA : Nat → ClassId} : or_ok kA GG o_Sy_compileRule_2 := by
  intro A ta ws vs hD hth hl hk hds hf
  have hl : vs.length = 22 := hl
  have hk : ∀ q ∈ ([(0, (2, 0, 0, [11])), (1, (2, 0, 0, [109])), (2, (0, 0, 111, [])), (10, (0, 1, 1, [])), (11, (0, 1, 112, []))] : List (Nat × tv_T)), tv_ok ta q.2 (n_v vs q.1) := hk
  obtain ⟨t0, hk⟩ := List.forall_mem_cons.mp hk
  have t0 : tv_ok ta (2, 0, 0, [11]) (n_v vs 0) := t0
  have r0 : ta (v_ad (n_v vs 0)) = some 11 := tv_rg t0
  obtain ⟨t1, hk⟩ := List.forall_mem_cons.mp hk
  have t1 : tv_ok ta (2, 0, 0, [109]) (n_v vs 1) := t1
  have r1 : ta (v_ad (n_v vs 1)) = some 109 := tv_rg t1
  obtain ⟨t2, hk⟩ := List.forall_mem_cons.mp hk
  have t2 : tv_ok ta (0, 0, 111, []) (n_v vs 2) := t2
  have k2 : 0 ≤ v_iv (n_v vs 2) ∧ v_iv (n_v vs 2) ≤ 111 := tv_rng t2
  obtain ⟨t10, hk⟩ := List.forall_mem_cons.mp hk
  have t10 : tv_ok ta (0, 1, 1, []) (n_v vs 10) := t10
  have k10 : 1 ≤ v_iv (n_v vs 10) ∧ v_iv (n_v vs 10) ≤ 1 := tv_rng t10
  obtain ⟨t11, hk⟩ := List.forall_mem_cons.mp hk
  have t11 : tv_ok ta (0, 1, 112, []) (n_v vs 11) := t11
  have k11 : 1 ≤ v_iv (n_v vs 11) ∧ v_iv (n_v vs 11) ≤ 112 := tv_rng t11
  have hds : ∀ q ∈ ([(11, 2, 1, 1)] : List of_T), n_iv vs q.2.1 + q.2.2.1 ≤ n_iv vs q.1 ∧ n_iv vs q.1 ≤ n_iv vs q.2.1 + q.2.2.2 := hds
  obtain ⟨d0, hds⟩ := List.forall_mem_cons.mp hds
  have d0 : v_iv (n_v vs 2) + 1 ≤ v_iv (n_v vs 11) ∧ v_iv (n_v vs 11) ≤ v_iv (n_v vs 2) + 1 := d0
  have hf : fc_ok [(20, [0, 1], [30, 1, 1, 1, 0, -1, 0, 0]), (102, [20], [85070591730234615865843651857942052864, 11011]), (102, [15], [85070591730234615865843651857942052864, 11001, 11002, 11005, 11006, 11007, 11008, 11011]), (102, [14], [0, 11005, 11006, 11007, 11008]), (102, [12], [0]), (102, [11], [0, 11005, 11006, 11007, 11008]), (101, [0, 11], [0]), (1, [11, 2, 10], [])] ta ws vs := hf
  obtain ⟨f0, hf⟩ := fc_un (by decide) hf
  have f0 : 1 * w_fi ws (n_v vs 0) 0 + ((-1) * v_iv (n_v vs 1) + 0) ≤ 1 := f0
  obtain ⟨ta1, w1, le1, ⟨_, s1⟩, hf⟩ := fc_us (by decide) hf
  obtain ⟨ta2, w2, le2, ⟨_, s2⟩, hf⟩ := fc_us (by decide) hf
  obtain ⟨ta3, w3, le3, ⟨_, s3⟩, hf⟩ := fc_us (by decide) hf
  obtain ⟨ta4, w4, le4, ⟨_, s4⟩, hf⟩ := fc_us (by decide) hf
  obtain ⟨ta5, w5, le5, ⟨_, s5⟩, hf⟩ := fc_us (by decide) hf
  obtain ⟨ta6, w6, le6, ⟨_, s6⟩, hf⟩ := fc_us (by decide) hf
  have s6 : (∀ b j, w_el w5 b j = w_el w6 b j) ∧ ∀ b j, w_fd w5 b j = if b = v_ad (n_v vs 0) ∧ j = 0 then n_v vs 11 else w_fd w6 b j := s6
  obtain ⟨f7, hf⟩ := fc_un (by decide) hf
  have f7 : v_iv (n_v vs 11) = v_iv (n_v vs 2) + v_iv (n_v vs 10) := f7
  have kz_0_0 : 0 ≤ w_fi ws (n_v vs 0) 0 ∧ w_fi ws (n_v vs 0) 0 ≤ 112 := tv_rng (th_fd hD hth r0 (g := GG_11) rfl (k := 0) (t := (0, 0, 112, [])) rfl rfl)
  have nf0 : fc_1 (24, [0, 0], []) ws (vs) := by
    refine ⟨fun n hn => ?_, ?_⟩
    · have hn : n ∈ [0, 0] := hn
      rw [hl]
      simp only [List.mem_cons, List.not_mem_nil, or_false] at hn
      show n < 22; omega
    · show n_v vs 0 = n_v vs 0
      first | rfl | exact q0.symm
  refine ⟨(fun _ h => (by cases h)), [], trivial, ?_, (fun _ h => (by cases h))⟩
  rw [List.append_nil]
  exact List.forall_mem_cons.mpr ⟨⟨by decide, nf0⟩, (fun _ h => (by cases h))⟩
def o_Sy_compileRule_3 : or_T := (17, 8, [(0, (2, 0, 0, [11])), (1, (2, 0, 0, [109]))], [(20, [0], [30, 111, 1, 1, 0])], [], [], [(20, [0, 1], [30, 1, 1, 1, 0, -1, 0, 0])], [], [])
theorem oo_Sy_compileRule_3 {kA : Nat → ClassId} : or_ok kA GG o_Sy_compileRule_3 := by
  intro A ta ws vs hD hth hl hk hds hf
  have hl : vs.length = 8 := hl
  have hk : ∀ q ∈ ([(0, (2, 0, 0, [11])), (1, (2, 0, 0, [109]))] : List (Nat × tv_T)), tv_ok ta q.2 (n_v vs q.1) := hk
  obtain ⟨t0, hk⟩ := List.forall_mem_cons.mp hk
  have t0 : tv_ok ta (2, 0, 0, [11]) (n_v vs 0) := t0
  have r0 : ta (v_ad (n_v vs 0)) = some 11 := tv_rg t0
  obtain ⟨t1, hk⟩ := List.forall_mem_cons.mp hk
  have t1 : tv_ok ta (2, 0, 0, [109]) (n_v vs 1) := t1
  have r1 : ta (v_ad (n_v vs 1)) = some 109 := tv_rg t1
  have hf : fc_ok [(20, [0], [30, 111, 1, 1, 0])] ta ws vs := hf
  obtain ⟨f0, hf⟩ := fc_un (by decide) hf
  have f0 : 1 * w_fi ws (n_v vs 0) 0 + 0 ≤ 111 := f0
  have kz_0_0 : 0 ≤ w_fi ws (n_v vs 0) 0 ∧ w_fi ws (n_v vs 0) 0 ≤ 112 := tv_rng (th_fd hD hth r0 (g := GG_11) rfl (k := 0) (t := (0, 0, 112, [])) rfl rfl)
  have nf0 : fc_1 (20, [0, 1], [30, 1, 1, 1, 0, -1, 0, 0]) ws (vs) := by
    refine ⟨fun n hn => ?_, ?_⟩
    · have hn : n ∈ [0, 1] := hn
      rw [hl]
      simp only [List.mem_cons, List.not_mem_nil, or_false] at hn
      show n < 8; omega
    · show 1 * w_fi ws (n_v vs 0) 0 + ((-1) * v_iv (n_v vs 1) + 0) ≤ 1
      omega
  refine ⟨(fun _ h => (by cases h)), [], trivial, ?_, (fun _ h => (by cases h))⟩
  rw [List.append_nil]
  exact List.forall_mem_cons.mpr ⟨⟨by decide, nf0⟩, (fun _ h => (by cases h))⟩
def o_Sy_compileRule_4 : or_T := (179, 11, [(0, (2, 0, 0, [11])), (1, (2, 0, 0, [109])), (3, (2, 0, 0, [11]))], [(20, [3, 1], [30, 1, 1, 1, 0, -1, 0, 0]), (24, [0, 3], [])], [], [], [(20, [0, 1], [30, 1, 1, 1, 0, -1, 0, 0])], [], [])
theorem oo_Sy_compileRule_4 {kA : Nat → ClassId} : or_ok kA GG o_Sy_compileRule_4 := by
  intro A ta ws vs hD hth hl hk hds hf
  have hl : vs.length = 11 := hl
  have hk : ∀ q ∈ ([(0, (2, 0, 0, [11])), (1, (2, 0, 0, [109])), (3, (2, 0, 0, [11]))] : List (Nat × tv_T)), tv_ok ta q.2 (n_v vs q.1) := hk
  obtain ⟨t0, hk⟩ := List.forall_mem_cons.mp hk
  have t0 : tv_ok ta (2, 0, 0, [11]) (n_v vs 0) := t0
  have r0 : ta (v_ad (n_v vs 0)) = some 11 := tv_rg t0
  obtain ⟨t1, hk⟩ := List.forall_mem_cons.mp hk
  have t1 : tv_ok ta (2, 0, 0, [109]) (n_v vs 1) := t1
  have r1 : ta (v_ad (n_v vs 1)) = some 109 := tv_rg t1
  obtain ⟨t3, hk⟩ := List.forall_mem_cons.mp hk
  have t3 : tv_ok ta (2, 0, 0, [11]) (n_v vs 3) := t3
  have r3 : ta (v_ad (n_v vs 3)) = some 11 := tv_rg t3
  have hf : fc_ok [(20, [3, 1], [30, 1, 1, 1, 0, -1, 0, 0]), (24, [0, 3], [])] ta ws vs := hf
  obtain ⟨f0, hf⟩ := fc_un (by decide) hf
  have f0 : 1 * w_fi ws (n_v vs 3) 0 + ((-1) * v_iv (n_v vs 1) + 0) ≤ 1 := f0
  obtain ⟨f1, hf⟩ := fc_un (by decide) hf
  have f1 : n_v vs 0 = n_v vs 3 := f1
  have q3 : n_v vs 3 = n_v vs 0 := f1.symm
  rw [q3] at f0
  have kz_0_0 : 0 ≤ w_fi ws (n_v vs 0) 0 ∧ w_fi ws (n_v vs 0) 0 ≤ 112 := tv_rng (th_fd hD hth r0 (g := GG_11) rfl (k := 0) (t := (0, 0, 112, [])) rfl rfl)
  have nf0 : fc_1 (20, [0, 1], [30, 1, 1, 1, 0, -1, 0, 0]) ws (vs) := by
    refine ⟨fun n hn => ?_, ?_⟩
    · have hn : n ∈ [0, 1] := hn
      rw [hl]
      simp only [List.mem_cons, List.not_mem_nil, or_false] at hn
      show n < 11; omega
    · show 1 * w_fi ws (n_v vs 0) 0 + ((-1) * v_iv (n_v vs 1) + 0) ≤ 1
      omega
  refine ⟨(fun _ h => (by cases h)), [], trivial, ?_, (fun _ h => (by cases h))⟩
  rw [List.append_nil]
  exact List.forall_mem_cons.mpr ⟨⟨by decide, nf0⟩, (fun _ h => (by cases h))⟩
def o_Sy_compileRule_5 : or_T := (173, 12, [(0, (2, 0, 0, [11])), (1, (2, 0, 0, [109])), (3, (2, 0, 0, [11]))], [(20, [3, 1], [30, 1, 1, 1, 0, -1, 0, 0]), (24, [0, 3], [])], [], [], [(20, [0, 1], [30, 1, 1, 1, 0, -1, 0, 0])], [], [])
theorem oo_Sy_compileRule_5 {kA : Nat → ClassId} : or_ok kA GG o_Sy_compileRule_5 := by
  intro A ta ws vs hD hth hl hk hds hf
  have hl : vs.length = 12 := hl
  have hk : ∀ q ∈ ([(0, (2, 0, 0, [11])), (1, (2, 0, 0, [109])), (3, (2, 0, 0, [11]))] : List (Nat × tv_T)), tv_ok ta q.2 (n_v vs q.1) := hk
  obtain ⟨t0, hk⟩ := List.forall_mem_cons.mp hk
  have t0 : tv_ok ta (2, 0, 0, [11]) (n_v vs 0) := t0
  have r0 : ta (v_ad (n_v vs 0)) = some 11 := tv_rg t0
  obtain ⟨t1, hk⟩ := List.forall_mem_cons.mp hk
  have t1 : tv_ok ta (2, 0, 0, [109]) (n_v vs 1) := t1
  have r1 : ta (v_ad (n_v vs 1)) = some 109 := tv_rg t1
  obtain ⟨t3, hk⟩ := List.forall_mem_cons.mp hk
  have t3 : tv_ok ta (2, 0, 0, [11]) (n_v vs 3) := t3
  have r3 : ta (v_ad (n_v vs 3)) = some 11 := tv_rg t3
  have hf : fc_ok [(20, [3, 1], [30, 1, 1, 1, 0, -1, 0, 0]), (24, [0, 3], [])] ta ws vs := hf
  obtain ⟨f0, hf⟩ := fc_un (by decide) hf
  have f0 : 1 * w_fi ws (n_v vs 3) 0 + ((-1) * v_iv (n_v vs 1) + 0) ≤ 1 := f0
  obtain ⟨f1, hf⟩ := fc_un (by decide) hf
  have f1 : n_v vs 0 = n_v vs 3 := f1
  have q3 : n_v vs 3 = n_v vs 0 := f1.symm
  rw [q3] at f0
  have kz_0_0 : 0 ≤ w_fi ws (n_v vs 0) 0 ∧ w_fi ws (n_v vs 0) 0 ≤ 112 := tv_rng (th_fd hD hth r0 (g := GG_11) rfl (k := 0) (t := (0, 0, 112, [])) rfl rfl)
  have nf0 : fc_1 (20, [0, 1], [30, 1, 1, 1, 0, -1, 0, 0]) ws (vs) := by
    refine ⟨fun n hn => ?_, ?_⟩
    · have hn : n ∈ [0, 1] := hn
      rw [hl]
      simp only [List.mem_cons, List.not_mem_nil, or_false] at hn
      show n < 12; omega
    · show 1 * w_fi ws (n_v vs 0) 0 + ((-1) * v_iv (n_v vs 1) + 0) ≤ 1
      omega
  refine ⟨(fun _ h => (by cases h)), [], trivial, ?_, (fun _ h => (by cases h))⟩
  rw [List.append_nil]
  exact List.forall_mem_cons.mpr ⟨⟨by decide, nf0⟩, (fun _ h => (by cases h))⟩
def o_Sy_compileRule_6 : or_T := (152, 10, [(0, (2, 0, 0, [11])), (1, (2, 0, 0, [109])), (3, (2, 0, 0, [11]))], [(20, [3, 1], [30, 1, 1, 1, 0, -1, 0, 0]), (24, [0, 3], [])], [], [], [(20, [0, 1], [30, 1, 1, 1, 0, -1, 0, 0])], [], [])
theorem oo_Sy_compileRule_6 {kA : Nat → ClassId} : or_ok kA GG o_Sy_compileRule_6 := by
  intro A ta ws vs hD hth hl hk hds hf
  have hl : vs.length = 10 := hl
  have hk : ∀ q ∈ ([(0, (2, 0, 0, [11])), (1, (2, 0, 0, [109])), (3, (2, 0, 0, [11]))] : List (Nat × tv_T)), tv_ok ta q.2 (n_v vs q.1) := hk
  obtain ⟨t0, hk⟩ := List.forall_mem_cons.mp hk
  have t0 : tv_ok ta (2, 0, 0, [11]) (n_v vs 0) := t0
  have r0 : ta (v_ad (n_v vs 0)) = some 11 := tv_rg t0
  obtain ⟨t1, hk⟩ := List.forall_mem_cons.mp hk
  have t1 : tv_ok ta (2, 0, 0, [109]) (n_v vs 1) := t1
  have r1 : ta (v_ad (n_v vs 1)) = some 109 := tv_rg t1
  obtain ⟨t3, hk⟩ := List.forall_mem_cons.mp hk
  have t3 : tv_ok ta (2, 0, 0, [11]) (n_v vs 3) := t3
  have r3 : ta (v_ad (n_v vs 3)) = some 11 := tv_rg t3
  have hf : fc_ok [(20, [3, 1], [30, 1, 1, 1, 0, -1, 0, 0]), (24, [0, 3], [])] ta ws vs := hf
  obtain ⟨f0, hf⟩ := fc_un (by decide) hf
  have f0 : 1 * w_fi ws (n_v vs 3) 0 + ((-1) * v_iv (n_v vs 1) + 0) ≤ 1 := f0
  obtain ⟨f1, hf⟩ := fc_un (by decide) hf
  have f1 : n_v vs 0 = n_v vs 3 := f1
  have q3 : n_v vs 3 = n_v vs 0 := f1.symm
  rw [q3] at f0
  have kz_0_0 : 0 ≤ w_fi ws (n_v vs 0) 0 ∧ w_fi ws (n_v vs 0) 0 ≤ 112 := tv_rng (th_fd hD hth r0 (g := GG_11) rfl (k := 0) (t := (0, 0, 112, [])) rfl rfl)
  have nf0 : fc_1 (20, [0, 1], [30, 1, 1, 1, 0, -1, 0, 0]) ws (vs) := by
    refine ⟨fun n hn => ?_, ?_⟩
    · have hn : n ∈ [0, 1] := hn
      rw [hl]
      simp only [List.mem_cons, List.not_mem_nil, or_false] at hn
      show n < 10; omega
    · show 1 * w_fi ws (n_v vs 0) 0 + ((-1) * v_iv (n_v vs 1) + 0) ≤ 1
      omega
  refine ⟨(fun _ h => (by cases h)), [], trivial, ?_, (fun _ h => (by cases h))⟩
  rw [List.append_nil]
  exact List.forall_mem_cons.mpr ⟨⟨by decide, nf0⟩, (fun _ h => (by cases h))⟩
def o_Sy_compileRule_7 : or_T := (179, 12, [(0, (2, 0, 0, [11])), (1, (2, 0, 0, [109])), (3, (2, 0, 0, [11]))], [(20, [3, 1], [30, 1, 1, 1, 0, -1, 0, 0]), (24, [0, 3], [])], [], [], [(20, [0, 1], [30, 1, 1, 1, 0, -1, 0, 0])], [], [])
theorem oo_Sy_compileRule_7 {kA : Nat → ClassId} : or_ok kA GG o_Sy_compileRule_7 := by
  intro A ta ws vs hD hth hl hk hds hf
  have hl : vs.length = 12 := hl
  have hk : ∀ q ∈ ([(0, (2, 0, 0, [11])), (1, (2, 0, 0, [109])), (3, (2, 0, 0, [11]))] : List (Nat × tv_T)), tv_ok ta q.2 (n_v vs q.1) := hk
  obtain ⟨t0, hk⟩ := List.forall_mem_cons.mp hk
  have t0 : tv_ok ta (2, 0, 0, [11]) (n_v vs 0) := t0
  have r0 : ta (v_ad (n_v vs 0)) = some 11 := tv_rg t0
  obtain ⟨t1, hk⟩ := List.forall_mem_cons.mp hk
  have t1 : tv_ok ta (2, 0, 0, [109]) (n_v vs 1) := t1
  have r1 : ta (v_ad (n_v vs 1)) = some 109 := tv_rg t1
  obtain ⟨t3, hk⟩ := List.forall_mem_cons.mp hk
  have t3 : tv_ok ta (2, 0, 0, [11]) (n_v vs 3) := t3
  have r3 : ta (v_ad (n_v vs 3)) = some 11 := tv_rg t3
  have hf : fc_ok [(20, [3, 1], [30, 1, 1, 1, 0, -1, 0, 0]), (24, [0, 3], [])] ta ws vs := hf
  obtain ⟨f0, hf⟩ := fc_un (by decide) hf
  have f0 : 1 * w_fi ws (n_v vs 3) 0 + ((-1) * v_iv (n_v vs 1) + 0) ≤ 1 := f0
  obtain ⟨f1, hf⟩ := fc_un (by decide) hf
  have f1 : n_v vs 0 = n_v vs 3 := f1
  have q3 : n_v vs 3 = n_v vs 0 := f1.symm
  rw [q3] at f0
  have kz_0_0 : 0 ≤ w_fi ws (n_v vs 0) 0 ∧ w_fi ws (n_v vs 0) 0 ≤ 112 := tv_rng (th_fd hD hth r0 (g := GG_11) rfl (k := 0) (t := (0, 0, 112, [])) rfl rfl)
  have nf0 : fc_1 (20, [0, 1], [30, 1, 1, 1, 0, -1, 0, 0]) ws (vs) := by
    refine ⟨fun n hn => ?_, ?_⟩
    · have hn : n ∈ [0, 1] := hn
      rw [hl]
      simp only [List.mem_cons, List.not_mem_nil, or_false] at hn
      show n < 12; omega
    · show 1 * w_fi ws (n_v vs 0) 0 + ((-1) * v_iv (n_v vs 1) + 0) ≤ 1
      omega
  refine ⟨(fun _ h => (by cases h)), [], trivial, ?_, (fun _ h => (by cases h))⟩
  rw [List.append_nil]
  exact List.forall_mem_cons.mpr ⟨⟨by decide, nf0⟩, (fun _ h => (by cases h))⟩
def o_Sy_compileRule_8 : or_T := (173, 13, [(0, (2, 0, 0, [11])), (1, (2, 0, 0, [109])), (3, (2, 0, 0, [11]))], [(20, [3, 1], [30, 1, 1, 1, 0, -1, 0, 0]), (24, [0, 3], [])], [], [], [(20, [0, 1], [30, 1, 1, 1, 0, -1, 0, 0])], [], [])
theorem oo_Sy_compileRule_8 {kA : Nat → ClassId} : or_ok kA GG o_Sy_compileRule_8 := by
  intro A ta ws vs hD hth hl hk hds hf
  have hl : vs.length = 13 := hl
  have hk : ∀ q ∈ ([(0, (2, 0, 0, [11])), (1, (2, 0, 0, [109])), (3, (2, 0, 0, [11]))] : List (Nat × tv_T)), tv_ok ta q.2 (n_v vs q.1) := hk
  obtain ⟨t0, hk⟩ := List.forall_mem_cons.mp hk
  have t0 : tv_ok ta (2, 0, 0, [11]) (n_v vs 0) := t0
  have r0 : ta (v_ad (n_v vs 0)) = some 11 := tv_rg t0
  obtain ⟨t1, hk⟩ := List.forall_mem_cons.mp hk
  have t1 : tv_ok ta (2, 0, 0, [109]) (n_v vs 1) := t1
  have r1 : ta (v_ad (n_v vs 1)) = some 109 := tv_rg t1
  obtain ⟨t3, hk⟩ := List.forall_mem_cons.mp hk
  have t3 : tv_ok ta (2, 0, 0, [11]) (n_v vs 3) := t3
  have r3 : ta (v_ad (n_v vs 3)) = some 11 := tv_rg t3
  have hf : fc_ok [(20, [3, 1], [30, 1, 1, 1, 0, -1, 0, 0]), (24, [0, 3], [])] ta ws vs := hf
  obtain ⟨f0, hf⟩ := fc_un (by decide) hf
  have f0 : 1 * w_fi ws (n_v vs 3) 0 + ((-1) * v_iv (n_v vs 1) + 0) ≤ 1 := f0
  obtain ⟨f1, hf⟩ := fc_un (by decide) hf
  have f1 : n_v vs 0 = n_v vs 3 := f1
  have q3 : n_v vs 3 = n_v vs 0 := f1.symm
  rw [q3] at f0
  have kz_0_0 : 0 ≤ w_fi ws (n_v vs 0) 0 ∧ w_fi ws (n_v vs 0) 0 ≤ 112 := tv_rng (th_fd hD hth r0 (g := GG_11) rfl (k := 0) (t := (0, 0, 112, [])) rfl rfl)
  have nf0 : fc_1 (20, [0, 1], [30, 1, 1, 1, 0, -1, 0, 0]) ws (vs) := by
    refine ⟨fun n hn => ?_, ?_⟩
    · have hn : n ∈ [0, 1] := hn
      rw [hl]
      simp only [List.mem_cons, List.not_mem_nil, or_false] at hn
      show n < 13; omega
    · show 1 * w_fi ws (n_v vs 0) 0 + ((-1) * v_iv (n_v vs 1) + 0) ≤ 1
      omega
  refine ⟨(fun _ h => (by cases h)), [], trivial, ?_, (fun _ h => (by cases h))⟩
  rw [List.append_nil]
  exact List.forall_mem_cons.mpr ⟨⟨by decide, nf0⟩, (fun _ h => (by cases h))⟩
def o_Sy_compileRule_9 : or_T := (152, 12, [(0, (2, 0, 0, [11])), (1, (2, 0, 0, [109])), (3, (2, 0, 0, [11]))], [(20, [3, 1], [30, 1, 1, 1, 0, -1, 0, 0]), (24, [0, 3], [])], [], [], [(20, [0, 1], [30, 1, 1, 1, 0, -1, 0, 0])], [], [])
theorem oo_Sy_compileRule_9 {kA : Nat → ClassId} : or_ok kA GG o_Sy_compileRule_9 := by
  intro A ta ws vs hD hth hl hk hds hf
  have hl : vs.length = 12 := hl
  have hk : ∀ q ∈ ([(0, (2, 0, 0, [11])), (1, (2, 0, 0, [109])), (3, (2, 0, 0, [11]))] : List (Nat × tv_T)), tv_ok ta q.2 (n_v vs q.1) := hk
  obtain ⟨t0, hk⟩ := List.forall_mem_cons.mp hk
  have t0 : tv_ok ta (2, 0, 0, [11]) (n_v vs 0) := t0
  have r0 : ta (v_ad (n_v vs 0)) = some 11 := tv_rg t0
  obtain ⟨t1, hk⟩ := List.forall_mem_cons.mp hk
  have t1 : tv_ok ta (2, 0, 0, [109]) (n_v vs 1) := t1
  have r1 : ta (v_ad (n_v vs 1)) = some 109 := tv_rg t1
  obtain ⟨t3, hk⟩ := List.forall_mem_cons.mp hk
  have t3 : tv_ok ta (2, 0, 0, [11]) (n_v vs 3) := t3
  have r3 : ta (v_ad (n_v vs 3)) = some 11 := tv_rg t3
  have hf : fc_ok [(20, [3, 1], [30, 1, 1, 1, 0, -1, 0, 0]), (24, [0, 3], [])] ta ws vs := hf
  obtain ⟨f0, hf⟩ := fc_un (by decide) hf
  have f0 : 1 * w_fi ws (n_v vs 3) 0 + ((-1) * v_iv (n_v vs 1) + 0) ≤ 1 := f0
  obtain ⟨f1, hf⟩ := fc_un (by decide) hf
  have f1 : n_v vs 0 = n_v vs 3 := f1
  have q3 : n_v vs 3 = n_v vs 0 := f1.symm
  rw [q3] at f0
  have kz_0_0 : 0 ≤ w_fi ws (n_v vs 0) 0 ∧ w_fi ws (n_v vs 0) 0 ≤ 112 := tv_rng (th_fd hD hth r0 (g := GG_11) rfl (k := 0) (t := (0, 0, 112, [])) rfl rfl)
  have nf0 : fc_1 (20, [0, 1], [30, 1, 1, 1, 0, -1, 0, 0]) ws (vs) := by
    refine ⟨fun n hn => ?_, ?_⟩
    · have hn : n ∈ [0, 1] := hn
      rw [hl]
      simp only [List.mem_cons, List.not_mem_nil, or_false] at hn
      show n < 12; omega
    · show 1 * w_fi ws (n_v vs 0) 0 + ((-1) * v_iv (n_v vs 1) + 0) ≤ 1
      omega
  refine ⟨(fun _ h => (by cases h)), [], trivial, ?_, (fun _ h => (by cases h))⟩
  rw [List.append_nil]
  exact List.forall_mem_cons.mpr ⟨⟨by decide, nf0⟩, (fun _ h => (by cases h))⟩
def n_Sy_compileRule_an : List an_T := [(124, [(0, (2, 0, 0, [11])), (1, (0, -2147483648, 2147483647, [])), (2, (0, 0, 2000, []))], [], (0, 0), [(0, 0, 99876), (1, 5, 2000), (0, 0, 100000)], [(2, 5, -1000000000000, 111)], [((0, 3), (2, 0, 0, [109]))], [(2, 0, 0, [11]), (2, 0, 0, [109]), (0, 0, 112, [])], 0, [], [(20, [3, 1], [30, 1, 1, 1, 0, -1, 0, 0]), (24, [0, 3], [])])]
def t_Sy_compileRule_ct : ct_L := [(1, 69, e_Sy_advance), (1, 118, e_Sy_fail), (1, 128, e_Sy_emit), (1, 132, e_Sy_compileSetting), (13, 114, e_Sy_wordIn_at_s5006), (223, 114, e_Sy_wordIn_at_s5008), (280, 125, e_Sy_compileTest_at_k0), (1000000, 40, en_ro [] (2, 0, 0, [5004])), (1000000, 112, en_ro [] (2, 0, 0, [5006])), (1000000, 121, en_ro [] (2, 0, 0, [5007])), (1000000, 123, en_ro [] (2, 0, 0, [5008]))]
set_option maxRecDepth 100000 in
theorem c_Sy_compileRule {l : Launch} {D : va_G} {kA : Nat → ClassId} (h_Sy_advance : ct_ok l D kA GG y_Sy_advance z_Sy_advance e_Sy_advance) (h_Sy_compileSetting : ct_ok l D kA GG y_Sy_compileSetting z_Sy_compileSetting e_Sy_compileSetting) (h_Sy_compileTest_at_k0 : ct_ok l D kA GG y_Sy_compileTest_at_k0 z_Sy_compileTest_at_k0 e_Sy_compileTest_at_k0) (h_Sy_emit : ct_ok l D kA GG y_Sy_emit z_Sy_emit e_Sy_emit) (h_Sy_fail : ct_ok l D kA GG y_Sy_fail z_Sy_fail e_Sy_fail) (h_Sy_wordIn_at_s5006 : ct_ok l D kA GG y_Sy_wordIn_at_s5006 z_Sy_wordIn_at_s5006 e_Sy_wordIn_at_s5006) (h_Sy_wordIn_at_s5008 : ct_ok l D kA GG y_Sy_wordIn_at_s5008 z_Sy_wordIn_at_s5008 e_Sy_wordIn_at_s5008) : ct_ok l D kA GG y_Sy_compileRule z_Sy_compileRule e_Sy_compileRule := chk_all_ok (FT := [(9, 11, 0), (31, 11, 6), (50, 11, 11), (53, 11, 12), (56, 11, 13)]) (PT := [(9, 11, 0, .int), (42, 11, 9, .object "java/lang/String")]) (CT := t_Sy_compileRule_ct) (KT := []) (NT := []) (AN := n_Sy_compileRule_an) (OT := [o_Sy_compileRule_0, o_Sy_compileRule_1, o_Sy_compileRule_2, o_Sy_compileRule_3, o_Sy_compileRule_4, o_Sy_compileRule_5, o_Sy_compileRule_6, o_Sy_compileRule_7, o_Sy_compileRule_8, o_Sy_compileRule_9]) 3 688 (List.forall_mem_cons.mpr ⟨oo_Sy_compileRule_0, List.forall_mem_cons.mpr ⟨oo_Sy_compileRule_1, List.forall_mem_cons.mpr ⟨oo_Sy_compileRule_2, List.forall_mem_cons.mpr ⟨oo_Sy_compileRule_3, List.forall_mem_cons.mpr ⟨oo_Sy_compileRule_4, List.forall_mem_cons.mpr ⟨oo_Sy_compileRule_5, List.forall_mem_cons.mpr ⟨oo_Sy_compileRule_6, List.forall_mem_cons.mpr ⟨oo_Sy_compileRule_7, List.forall_mem_cons.mpr ⟨oo_Sy_compileRule_8, List.forall_mem_cons.mpr ⟨oo_Sy_compileRule_9, List.forall_mem_nil _⟩⟩⟩⟩⟩⟩⟩⟩⟩⟩) (by decide +kernel) ⟨List.forall_mem_cons.mpr ⟨gf_Sy_9, List.forall_mem_cons.mpr ⟨gf_Sy_31, List.forall_mem_cons.mpr ⟨gf_Sy_50, List.forall_mem_cons.mpr ⟨gf_Sy_53, List.forall_mem_cons.mpr ⟨gf_Sy_56, List.forall_mem_nil _⟩⟩⟩⟩⟩, List.forall_mem_cons.mpr ⟨pf_Sy_9, List.forall_mem_cons.mpr ⟨pf_Sy_42, List.forall_mem_nil _⟩⟩, List.forall_mem_cons.mpr ⟨cl_virtual (y := y_Sy_advance) (ci := 11) rfl rfl ⟨_, _, rfl⟩ (by decide +kernel) h_Sy_advance wm_2158 wm_23 wm_2155 wm_2157 wv_10_10 ⟨by decide, by decide, by decide +kernel⟩ (by decide), List.forall_mem_cons.mpr ⟨cl_virtual (y := y_Sy_fail) (ci := 11) rfl rfl ⟨_, _, rfl⟩ (by decide +kernel) h_Sy_fail wm_2239 wm_23 wm_2236 wm_2238 wv_10_14 ⟨by decide, by decide, by decide +kernel⟩ (by decide), List.forall_mem_cons.mpr ⟨cl_virtual (y := y_Sy_emit) (ci := 11) rfl rfl ⟨_, _, rfl⟩ (by decide +kernel) h_Sy_emit wm_2258 wm_23 wm_2255 wm_2257 wv_11_2 ⟨by decide, by decide, by decide +kernel⟩ (by decide), List.forall_mem_cons.mpr ⟨cl_virtual (y := y_Sy_compileSetting) (ci := 11) rfl rfl ⟨_, _, rfl⟩ (by decide +kernel) h_Sy_compileSetting wm_2280 wm_23 wm_2277 wm_2279 wv_11_7 ⟨by decide, by decide, by decide +kernel⟩ (by decide), List.forall_mem_cons.mpr ⟨cl_virtual (y := y_Sy_wordIn_at_s5006) (ci := 11) rfl rfl ⟨_, _, rfl⟩ (by decide +kernel) h_Sy_wordIn_at_s5006 wm_2229 wm_23 wm_2226 wm_2228 wv_10_12 ⟨by decide, by decide, by decide +kernel⟩ (by decide), List.forall_mem_cons.mpr ⟨cl_virtual (y := y_Sy_wordIn_at_s5008) (ci := 11) rfl rfl ⟨_, _, rfl⟩ (by decide +kernel) h_Sy_wordIn_at_s5008 wm_2229 wm_23 wm_2226 wm_2228 wv_10_12 ⟨by decide, by decide, by decide +kernel⟩ (by decide), List.forall_mem_cons.mpr ⟨cl_virtual (y := y_Sy_compileTest_at_k0) (ci := 11) rfl rfl ⟨_, _, rfl⟩ (by decide +kernel) h_Sy_compileTest_at_k0 wm_2245 wm_23 wm_2242 wm_2244 wv_10_15 ⟨by decide, by decide, by decide +kernel⟩ (by decide), List.forall_mem_cons.mpr ⟨cl_ldc (own := "DrawingHouse$Styler") (idx := 40) (i := 4) (tx := "deg in out size group far core cut x y ") (by decide +kernel) (by decide +kernel) (by decide +kernel), List.forall_mem_cons.mpr ⟨cl_ldc (own := "DrawingHouse$Styler") (idx := 112) (i := 6) (tx := "node edge ") (by decide +kernel) (by decide +kernel) (by decide +kernel), List.forall_mem_cons.mpr ⟨cl_ldc (own := "DrawingHouse$Styler") (idx := 121) (i := 7) (tx := "weight turned bridge from to block long one ") (by decide +kernel) (by decide +kernel) (by decide +kernel), List.forall_mem_cons.mpr ⟨cl_ldc (own := "DrawingHouse$Styler") (idx := 123) (i := 8) (tx := "if ") (by decide +kernel) (by decide +kernel) (by decide +kernel), List.forall_mem_nil _⟩⟩⟩⟩⟩⟩⟩⟩⟩⟩⟩, List.forall_mem_nil _, List.forall_mem_nil _, GG_pl⟩ (by decide +kernel)
def o_Sy_compile_0 : or_T := (41, 9, [(0, (2, 0, 0, [11])), (4, (0, 0, 0, [])), (8, (0, 0, 0, []))], [(102, [7], [0, 11005, 11006, 11007, 11008]), (101, [0, 7], [2]), (101, [0, 6], [1]), (101, [0, 5], [11]), (101, [0, 4], [0])], [], [], [(20, [0, 8], [30, 0, 1, 1, 0, -1, 0, 0])], [], [])
theorem oo_Sy_compile_0 {kA : Nat → ClassId} : or_ok kA GG o_Sy_compile_0 := by
  intro A ta ws vs hD hth hl hk hds hf
  have hl : vs.length = 9 := hl
  have hk : ∀ q ∈ ([(0, (2, 0, 0, [11])), (4, (0, 0, 0, [])), (8, (0, 0, 0, []))] : List (Nat × tv_T)), tv_ok ta q.2 (n_v vs q.1) := hk
  obtain ⟨t0, hk⟩ := List.forall_mem_cons.mp hk
  have t0 : tv_ok ta (2, 0, 0, [11]) (n_v vs 0) := t0
  have r0 : ta (v_ad (n_v vs 0)) = some 11 := tv_rg t0
  obtain ⟨t4, hk⟩ := List.forall_mem_cons.mp hk
  have t4 : tv_ok ta (0, 0, 0, []) (n_v vs 4) := t4
  have k4 : 0 ≤ v_iv (n_v vs 4) ∧ v_iv (n_v vs 4) ≤ 0 := tv_rng t4
  obtain ⟨t8, hk⟩ := List.forall_mem_cons.mp hk
  have t8 : tv_ok ta (0, 0, 0, []) (n_v vs 8) := t8
  have k8 : 0 ≤ v_iv (n_v vs 8) ∧ v_iv (n_v vs 8) ≤ 0 := tv_rng t8
  have hf : fc_ok [(102, [7], [0, 11005, 11006, 11007, 11008]), (101, [0, 7], [2]), (101, [0, 6], [1]), (101, [0, 5], [11]), (101, [0, 4], [0])] ta ws vs := hf
  obtain ⟨ta1, w1, le1, ⟨_, s1⟩, hf⟩ := fc_us (by decide) hf
  obtain ⟨ta2, w2, le2, ⟨_, s2⟩, hf⟩ := fc_us (by decide) hf
  have s2 : (∀ b j, w_el w1 b j = w_el w2 b j) ∧ ∀ b j, w_fd w1 b j = if b = v_ad (n_v vs 0) ∧ j = 2 then n_v vs 7 else w_fd w2 b j := s2
  obtain ⟨ta3, w3, le3, ⟨_, s3⟩, hf⟩ := fc_us (by decide) hf
  have s3 : (∀ b j, w_el w2 b j = w_el w3 b j) ∧ ∀ b j, w_fd w2 b j = if b = v_ad (n_v vs 0) ∧ j = 1 then n_v vs 6 else w_fd w3 b j := s3
  obtain ⟨ta4, w4, le4, ⟨_, s4⟩, hf⟩ := fc_us (by decide) hf
  have s4 : (∀ b j, w_el w3 b j = w_el w4 b j) ∧ ∀ b j, w_fd w3 b j = if b = v_ad (n_v vs 0) ∧ j = 11 then n_v vs 5 else w_fd w4 b j := s4
  obtain ⟨ta5, w5, le5, ⟨_, s5⟩, hf⟩ := fc_us (by decide) hf
  have s5 : (∀ b j, w_el w4 b j = w_el w5 b j) ∧ ∀ b j, w_fd w4 b j = if b = v_ad (n_v vs 0) ∧ j = 0 then n_v vs 4 else w_fd w5 b j := s5
  have kz_0_0 : 0 ≤ w_fi ws (n_v vs 0) 0 ∧ w_fi ws (n_v vs 0) 0 ≤ 112 := tv_rng (th_fd hD hth r0 (g := GG_11) rfl (k := 0) (t := (0, 0, 112, [])) rfl rfl)
  have nf0 : fc_1 (20, [0, 8], [30, 0, 1, 1, 0, -1, 0, 0]) ws (vs) := by
    refine ⟨fun n hn => ?_, ?_⟩
    · have hn : n ∈ [0, 8] := hn
      rw [hl]
      simp only [List.mem_cons, List.not_mem_nil, or_false] at hn
      show n < 9; omega
    · show 1 * w_fi ws (n_v vs 0) 0 + ((-1) * v_iv (n_v vs 8) + 0) ≤ 0
      omega
  refine ⟨(fun _ h => (by cases h)), [], trivial, ?_, (fun _ h => (by cases h))⟩
  rw [List.append_nil]
  exact List.forall_mem_cons.mpr ⟨⟨by decide, nf0⟩, (fun _ h => (by cases h))⟩
def o_Sy_compile_1 : or_T := (55, 8, [(0, (2, 0, 0, [11])), (3, (0, 0, 111, [])), (6, (0, 112, 112, []))], [(7, [3, 6], [2]), (20, [0, 3], [30, 0, 1, 1, 0, -1, 0, 0])], [], [], [(20, [0], [30, 111, 1, 1, 0])], [], [])
theorem oo_Sy_compile_1 {kA : Nat → ClassId} : or_ok kA GG o_Sy_compile_1 := by
  intro A ta ws vs hD hth hl hk hds hf
  have hl : vs.length = 8 := hl
  have hk : ∀ q ∈ ([(0, (2, 0, 0, [11])), (3, (0, 0, 111, [])), (6, (0, 112, 112, []))] : List (Nat × tv_T)), tv_ok ta q.2 (n_v vs q.1) := hk
  obtain ⟨t0, hk⟩ := List.forall_mem_cons.mp hk
  have t0 : tv_ok ta (2, 0, 0, [11]) (n_v vs 0) := t0
  have r0 : ta (v_ad (n_v vs 0)) = some 11 := tv_rg t0
  obtain ⟨t3, hk⟩ := List.forall_mem_cons.mp hk
  have t3 : tv_ok ta (0, 0, 111, []) (n_v vs 3) := t3
  have k3 : 0 ≤ v_iv (n_v vs 3) ∧ v_iv (n_v vs 3) ≤ 111 := tv_rng t3
  obtain ⟨t6, hk⟩ := List.forall_mem_cons.mp hk
  have t6 : tv_ok ta (0, 112, 112, []) (n_v vs 6) := t6
  have k6 : 112 ≤ v_iv (n_v vs 6) ∧ v_iv (n_v vs 6) ≤ 112 := tv_rng t6
  have hf : fc_ok [(7, [3, 6], [2]), (20, [0, 3], [30, 0, 1, 1, 0, -1, 0, 0])] ta ws vs := hf
  obtain ⟨f0, hf⟩ := fc_un (by decide) hf
  have f0 : v_iv (n_v vs 3) < v_iv (n_v vs 6) := f0
  obtain ⟨f1, hf⟩ := fc_un (by decide) hf
  have f1 : 1 * w_fi ws (n_v vs 0) 0 + ((-1) * v_iv (n_v vs 3) + 0) ≤ 0 := f1
  have kz_0_0 : 0 ≤ w_fi ws (n_v vs 0) 0 ∧ w_fi ws (n_v vs 0) 0 ≤ 112 := tv_rng (th_fd hD hth r0 (g := GG_11) rfl (k := 0) (t := (0, 0, 112, [])) rfl rfl)
  have nf0 : fc_1 (20, [0], [30, 111, 1, 1, 0]) ws (vs) := by
    refine ⟨fun n hn => ?_, ?_⟩
    · have hn : n ∈ [0] := hn
      rw [hl]
      simp only [List.mem_cons, List.not_mem_nil, or_false] at hn
      show n < 8; omega
    · show 1 * w_fi ws (n_v vs 0) 0 + 0 ≤ 111
      omega
  refine ⟨(fun _ h => (by cases h)), [], trivial, ?_, (fun _ h => (by cases h))⟩
  rw [List.append_nil]
  exact List.forall_mem_cons.mpr ⟨⟨by decide, nf0⟩, (fun _ h => (by cases h))⟩
def o_Sy_compile_2 : or_T := (41, 10, [(0, (2, 0, 0, [11])), (3, (0, 0, 111, [])), (5, (2, 0, 0, [109])), (6, (0, 112, 112, [])), (9, (0, 1, 112, []))], [(6, [9, 3], [1]), (20, [0, 5], [30, 1, 1, 1, 0, -1, 0, 0]), (102, [7], [595494142111642311060905563005594370048, 11000, 11001, 11002, 11005, 11006, 11007, 11008, 11009, 11011]), (7, [3, 6], [2])], [], [], [(20, [0, 9], [30, 0, 1, 1, 0, -1, 0, 0])], [], [(9, 3, 1, 1)])
theorem oo_Sy_compile_2 {kA : Nat → ClassId} : or_ok kA GG o_Sy_compile_2 := by
  intro A ta ws vs hD hth hl hk hds hf
  have hl : vs.length = 10 := hl
  have hk : ∀ q ∈ ([(0, (2, 0, 0, [11])), (3, (0, 0, 111, [])), (5, (2, 0, 0, [109])), (6, (0, 112, 112, [])), (9, (0, 1, 112, []))] : List (Nat × tv_T)), tv_ok ta q.2 (n_v vs q.1) := hk
  obtain ⟨t0, hk⟩ := List.forall_mem_cons.mp hk
  have t0 : tv_ok ta (2, 0, 0, [11]) (n_v vs 0) := t0
  have r0 : ta (v_ad (n_v vs 0)) = some 11 := tv_rg t0
  obtain ⟨t3, hk⟩ := List.forall_mem_cons.mp hk
  have t3 : tv_ok ta (0, 0, 111, []) (n_v vs 3) := t3
  have k3 : 0 ≤ v_iv (n_v vs 3) ∧ v_iv (n_v vs 3) ≤ 111 := tv_rng t3
  obtain ⟨t5, hk⟩ := List.forall_mem_cons.mp hk
  have t5 : tv_ok ta (2, 0, 0, [109]) (n_v vs 5) := t5
  have r5 : ta (v_ad (n_v vs 5)) = some 109 := tv_rg t5
  obtain ⟨t6, hk⟩ := List.forall_mem_cons.mp hk
  have t6 : tv_ok ta (0, 112, 112, []) (n_v vs 6) := t6
  have k6 : 112 ≤ v_iv (n_v vs 6) ∧ v_iv (n_v vs 6) ≤ 112 := tv_rng t6
  obtain ⟨t9, hk⟩ := List.forall_mem_cons.mp hk
  have t9 : tv_ok ta (0, 1, 112, []) (n_v vs 9) := t9
  have k9 : 1 ≤ v_iv (n_v vs 9) ∧ v_iv (n_v vs 9) ≤ 112 := tv_rng t9
  have hds : ∀ q ∈ ([(9, 3, 1, 1)] : List of_T), n_iv vs q.2.1 + q.2.2.1 ≤ n_iv vs q.1 ∧ n_iv vs q.1 ≤ n_iv vs q.2.1 + q.2.2.2 := hds
  obtain ⟨d0, hds⟩ := List.forall_mem_cons.mp hds
  have d0 : v_iv (n_v vs 3) + 1 ≤ v_iv (n_v vs 9) ∧ v_iv (n_v vs 9) ≤ v_iv (n_v vs 3) + 1 := d0
  have hf : fc_ok [(6, [9, 3], [1]), (20, [0, 5], [30, 1, 1, 1, 0, -1, 0, 0]), (102, [7], [595494142111642311060905563005594370048, 11000, 11001, 11002, 11005, 11006, 11007, 11008, 11009, 11011]), (7, [3, 6], [2])] ta ws vs := hf
  obtain ⟨f0, hf⟩ := fc_un (by decide) hf
  have f0 : v_iv (n_v vs 9) = v_iv (n_v vs 3) + 1 := f0
  obtain ⟨f1, hf⟩ := fc_un (by decide) hf
  have f1 : 1 * w_fi ws (n_v vs 0) 0 + ((-1) * v_iv (n_v vs 5) + 0) ≤ 1 := f1
  obtain ⟨ta1, w1, le1, ⟨_, s1⟩, hf⟩ := fc_us (by decide) hf
  obtain ⟨f3, hf⟩ := fc_un (by decide) hf
  have f3 : v_iv (n_v vs 3) < v_iv (n_v vs 6) := f3
  have kz_0_0 : 0 ≤ w_fi ws (n_v vs 0) 0 ∧ w_fi ws (n_v vs 0) 0 ≤ 112 := tv_rng (th_fd hD hth r0 (g := GG_11) rfl (k := 0) (t := (0, 0, 112, [])) rfl rfl)
  have nf0 : fc_1 (20, [0, 9], [30, 0, 1, 1, 0, -1, 0, 0]) ws (vs) := by
    refine ⟨fun n hn => ?_, ?_⟩
    · have hn : n ∈ [0, 9] := hn
      rw [hl]
      simp only [List.mem_cons, List.not_mem_nil, or_false] at hn
      show n < 10; omega
    · show 1 * w_fi ws (n_v vs 0) 0 + ((-1) * v_iv (n_v vs 9) + 0) ≤ 0
      omega
  refine ⟨(fun _ h => (by cases h)), [], trivial, ?_, (fun _ h => (by cases h))⟩
  rw [List.append_nil]
  exact List.forall_mem_cons.mpr ⟨⟨by decide, nf0⟩, (fun _ h => (by cases h))⟩
def n_Sy_compile_an : List an_T := [(41, [(0, (2, 0, 0, [11])), (1, (2, 0, 0, [109])), (2, (0, 0, 2000, [])), (3, (0, 0, 112, []))], [], (0, 0), [(0, 0, 99959), (1, 3, 112), (0, 0, 100000)], [(2, 3, -1000000000000, 2000), (2, 4, -1000000000000, 2000), (4, 2, -1000000000000, 112), (4, 3, -1000000000000, 111)], [((0, 0), (0, 0, 112, [])), ((0, 3), (2, 0, 0, [109]))], [], 0, [], [(20, [0, 3], [30, 0, 1, 1, 0, -1, 0, 0])])]
def t_Sy_compile_ct : ct_L := [(1, 69, e_Sy_advance), (1, 72, e_Sy_compileRule)]
set_option maxRecDepth 100000 in
theorem c_Sy_compile {l : Launch} {D : va_G} {kA : Nat → ClassId} (h_Sy_advance : ct_ok l D kA GG y_Sy_advance z_Sy_advance e_Sy_advance) (h_Sy_compileRule : ct_ok l D kA GG y_Sy_compileRule z_Sy_compileRule e_Sy_compileRule) : ct_ok l D kA GG y_Sy_compile z_Sy_compile e_Sy_compile := chk_all_ok (FT := [(9, 11, 0), (31, 11, 6), (50, 11, 11), (53, 11, 12)]) (PT := [(9, 11, 0, .int), (15, 11, 1, .int), (18, 11, 2, .int), (21, 11, 3, .array .byte), (25, 11, 4, .int), (28, 11, 5, .int), (50, 11, 11, .int)]) (CT := t_Sy_compile_ct) (KT := []) (NT := []) (AN := n_Sy_compile_an) (OT := [o_Sy_compile_0, o_Sy_compile_1, o_Sy_compile_2]) 3 224 (List.forall_mem_cons.mpr ⟨oo_Sy_compile_0, List.forall_mem_cons.mpr ⟨oo_Sy_compile_1, List.forall_mem_cons.mpr ⟨oo_Sy_compile_2, List.forall_mem_nil _⟩⟩⟩) (by decide +kernel) ⟨List.forall_mem_cons.mpr ⟨gf_Sy_9, List.forall_mem_cons.mpr ⟨gf_Sy_31, List.forall_mem_cons.mpr ⟨gf_Sy_50, List.forall_mem_cons.mpr ⟨gf_Sy_53, List.forall_mem_nil _⟩⟩⟩⟩, List.forall_mem_cons.mpr ⟨pf_Sy_9, List.forall_mem_cons.mpr ⟨pf_Sy_15, List.forall_mem_cons.mpr ⟨pf_Sy_18, List.forall_mem_cons.mpr ⟨pf_Sy_21, List.forall_mem_cons.mpr ⟨pf_Sy_25, List.forall_mem_cons.mpr ⟨pf_Sy_28, List.forall_mem_cons.mpr ⟨pf_Sy_50, List.forall_mem_nil _⟩⟩⟩⟩⟩⟩⟩, List.forall_mem_cons.mpr ⟨cl_virtual (y := y_Sy_advance) (ci := 11) rfl rfl ⟨_, _, rfl⟩ (by decide +kernel) h_Sy_advance wm_2158 wm_23 wm_2155 wm_2157 wv_10_10 ⟨by decide, by decide, by decide +kernel⟩ (by decide), List.forall_mem_cons.mpr ⟨cl_virtual (y := y_Sy_compileRule) (ci := 11) rfl rfl ⟨_, _, rfl⟩ (by decide +kernel) h_Sy_compileRule wm_2224 wm_23 wm_2221 wm_2223 wv_10_11 ⟨by decide, by decide, by decide +kernel⟩ (by decide), List.forall_mem_nil _⟩⟩, List.forall_mem_nil _, List.forall_mem_nil _, GG_pl⟩ (by decide +kernel)
def o_Re_readGraph_0 : or_T := (47, 3, [(0, (2, 0, 0, [8]))], [], [], [(0, -2147483648, 1000000, [])], [(20, [0, 3], [30, 0, 1, 1, 9, -1, 0, 0]), (20, [0, 3], [30, 0, -1, 1, 9, 1, 0, 0])], [], [])
theorem oo_Re_readGraph_0 {kA : Nat → ClassId} : or_ok kA GG o_Re_readGraph_0 := by
  intro A ta ws vs hD hth hl hk hds hf
  have hl : vs.length = 3 := hl
  have hk : ∀ q ∈ ([(0, (2, 0, 0, [8]))] : List (Nat × tv_T)), tv_ok ta q.2 (n_v vs q.1) := hk
  obtain ⟨t0, hk⟩ := List.forall_mem_cons.mp hk
  have t0 : tv_ok ta (2, 0, 0, [8]) (n_v vs 0) := t0
  have r0 : ta (v_ad (n_v vs 0)) = some 8 := tv_rg t0
  have kz_0_9 : (-2147483648) ≤ w_fi ws (n_v vs 0) 9 ∧ w_fi ws (n_v vs 0) 9 ≤ 1000000 := tv_rng (th_fd hD hth r0 (g := GG_8) rfl (k := 9) (t := (0, -2147483648, 1000000, [])) rfl rfl)
  have kv : (-2147483648) ≤ w_fi ws (n_v vs 0) 9 ∧ w_fi ws (n_v vs 0) 9 ≤ 1000000 := tv_rng (th_fd hD hth r0 (g := GG_8) rfl (k := 9) (t := (0, -2147483648, 1000000, [])) rfl rfl)
  obtain ⟨x, ex, hx⟩ := iv_ex (ta := ta) (lo := (-2147483648)) (hi := 1000000) (z := w_fi ws (n_v vs 0) 9) (by omega) (by omega) (by decide) (by decide)
  have ex2 : v_iv (Value.int x) = w_fi ws (n_v vs 0) 9 := ex
  have ex3 : (-2147483648) ≤ v_iv (Value.int x) ∧ v_iv (Value.int x) ≤ 1000000 := tv_rng hx
  have e_0 : n_v (vs ++ [Value.int x]) 0 = n_v vs 0 := n_v_old (by rw [hl]; decide)
  have e_3 : n_v (vs ++ [Value.int x]) 3 = Value.int x := n_v_new hl
  have nf0 : fc_1 (20, [0, 3], [30, 0, 1, 1, 9, -1, 0, 0]) ws (vs ++ [Value.int x]) := by
    refine ⟨fun n hn => ?_, ?_⟩
    · have hn : n ∈ [0, 3] := hn
      rw [List.length_append, hl]
      simp only [List.mem_cons, List.not_mem_nil, or_false] at hn
      show n < 3 + 1; omega
    · show 1 * w_fi ws (n_v (vs ++ [Value.int x]) 0) 9 + ((-1) * v_iv (n_v (vs ++ [Value.int x]) 3) + 0) ≤ 0
      rw [e_0]
      rw [e_3]
      omega
  have nf1 : fc_1 (20, [0, 3], [30, 0, -1, 1, 9, 1, 0, 0]) ws (vs ++ [Value.int x]) := by
    refine ⟨fun n hn => ?_, ?_⟩
    · have hn : n ∈ [0, 3] := hn
      rw [List.length_append, hl]
      simp only [List.mem_cons, List.not_mem_nil, or_false] at hn
      show n < 3 + 1; omega
    · show (-1) * w_fi ws (n_v (vs ++ [Value.int x]) 0) 9 + (1 * v_iv (n_v (vs ++ [Value.int x]) 3) + 0) ≤ 0
      rw [e_0]
      rw [e_3]
      omega
  exact ⟨fun q hq => (by cases hq), [Value.int x], ag_one hx, List.forall_mem_cons.mpr ⟨⟨by decide, nf0⟩, List.forall_mem_cons.mpr ⟨⟨by decide, nf1⟩, (fun _ h => (by cases h))⟩⟩, (fun _ h => (by cases h))⟩
def n_Re_readGraph_an : List an_T := [(41, [(0, (2, 0, 0, [8])), (1, (0, 0, 2000, [])), (2, (0, 0, 2001, []))], [], (0, 0), [(0, 0, 99959), (1, 2, 2001), (0, 0, 100000)], [(1, 2, -1000000000000, 2000), (2, 1, -1000000000000, 1)], [], [], 0, [], [])]
def t_Re_readGraph_ct : ct_L := [(1, 54, e_Gr_clear), (1, 57, e_Re_advance), (1, 60, e_Re_readItem)]
set_option maxRecDepth 100000 in
theorem c_Re_readGraph {l : Launch} {D : va_G} {kA : Nat → ClassId} (h_Gr_clear : ct_ok l D kA GG y_Gr_clear z_Gr_clear e_Gr_clear) (h_Re_advance : ct_ok l D kA GG y_Re_advance z_Re_advance e_Re_advance) (h_Re_readItem : ct_ok l D kA GG y_Re_readItem z_Re_readItem e_Re_readItem) : ct_ok l D kA GG y_Re_readGraph z_Re_readGraph e_Re_readGraph := chk_all_ok (FT := [(28, 8, 4), (38, 8, 7), (47, 8, 10), (51, 8, 11)]) (PT := [(19, 8, 2, .int), (22, 8, 3, .int), (32, 8, 5, .int), (35, 8, 6, .int), (51, 8, 11, .int)]) (CT := t_Re_readGraph_ct) (KT := []) (NT := []) (AN := n_Re_readGraph_an) (OT := [o_Re_readGraph_0]) 3 216 (List.forall_mem_cons.mpr ⟨oo_Re_readGraph_0, List.forall_mem_nil _⟩) (by decide +kernel) ⟨List.forall_mem_cons.mpr ⟨gf_Re_28, List.forall_mem_cons.mpr ⟨gf_Re_38, List.forall_mem_cons.mpr ⟨gf_Re_47, List.forall_mem_cons.mpr ⟨gf_Re_51, List.forall_mem_nil _⟩⟩⟩⟩, List.forall_mem_cons.mpr ⟨pf_Re_19, List.forall_mem_cons.mpr ⟨pf_Re_22, List.forall_mem_cons.mpr ⟨pf_Re_32, List.forall_mem_cons.mpr ⟨pf_Re_35, List.forall_mem_cons.mpr ⟨pf_Re_51, List.forall_mem_nil _⟩⟩⟩⟩⟩, List.forall_mem_cons.mpr ⟨cl_virtual (y := y_Gr_clear) (ci := 3) rfl rfl ⟨_, _, rfl⟩ (by decide +kernel) h_Gr_clear wm_641 wm_3 wm_638 wm_639 wm_640 ⟨by decide, by decide, by decide +kernel⟩ (by decide), List.forall_mem_cons.mpr ⟨cl_virtual (y := y_Re_advance) (ci := 8) rfl rfl ⟨_, _, rfl⟩ (by decide +kernel) h_Re_advance wm_645 wm_2 wm_642 wm_644 wv_1_0 ⟨by decide, by decide, by decide +kernel⟩ (by decide), List.forall_mem_cons.mpr ⟨cl_virtual (y := y_Re_readItem) (ci := 8) rfl rfl ⟨_, _, rfl⟩ (by decide +kernel) h_Re_readItem wm_665 wm_2 wm_662 wm_664 wv_1_1 ⟨by decide, by decide, by decide +kernel⟩ (by decide), List.forall_mem_nil _⟩⟩⟩, List.forall_mem_nil _, List.forall_mem_nil _, GG_pl⟩ (by decide +kernel)
