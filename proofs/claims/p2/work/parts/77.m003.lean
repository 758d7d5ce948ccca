def n_Mo_edgeOf_an : List an_T := [(2, [(0, (2, 0, 0, [150])), (1, (0, -1, 25, [])), (2, (0, -1, 24, [])), (3, (0, 0, 80, []))], [], (0, 0), [(0, 0, 99998), (1, 3, 80), (0, 0, 100000)], [], [], [], 0, [], [])]
def t_Mo_edgeOf_ct : ct_L := [(1, 600, e_Mo_at1)]
set_option maxRecDepth 100000 in
theorem c_Mo_edgeOf {l : Launch} {D : va_G} {kA : Nat → ClassId} (h_Mo_at1 : ct_ok l D kA GG y_Mo_at1 z_Mo_at1 e_Mo_at1) : ct_ok l D kA GG y_Mo_edgeOf z_Mo_edgeOf e_Mo_edgeOf := chk_all_ok (FT := [(597, 13, 32)]) (PT := []) (CT := t_Mo_edgeOf_ct) (KT := []) (NT := []) (AN := n_Mo_edgeOf_an) (OT := []) 3 200 (List.forall_mem_nil _) (by decide +kernel) ⟨List.forall_mem_cons.mpr ⟨gf_Mo_597, List.forall_mem_nil _⟩, List.forall_mem_nil _, List.forall_mem_cons.mpr ⟨cl_virtual (y := y_Mo_at1) (ci := 13) rfl rfl ⟨_, _, rfl⟩ (by decide +kernel) h_Mo_at1 wm_3159 wm_9 wm_3156 wm_3158 wv_14_15 ⟨by decide, by decide, by decide +kernel⟩ (by decide), List.forall_mem_nil _⟩, List.forall_mem_nil _, List.forall_mem_nil _, GG_pl⟩ (by decide +kernel)
def n_Mo_fault_an : List an_T := []
def t_Mo_fault_ct : ct_L := [(0, 387, e_Mo_in)]
set_option maxRecDepth 100000 in
theorem c_Mo_fault {l : Launch} {D : va_G} {kA : Nat → ClassId} (h_Mo_in : ct_ok l D kA GG y_Mo_in z_Mo_in e_Mo_in) : ct_ok l D kA GG y_Mo_fault z_Mo_fault e_Mo_fault := chk_all_ok (FT := [(409, 13, 7), (413, 13, 8), (416, 13, 9)]) (PT := []) (CT := t_Mo_fault_ct) (KT := []) (NT := []) (AN := n_Mo_fault_an) (OT := []) 0 200 (List.forall_mem_nil _) (by decide +kernel) ⟨List.forall_mem_cons.mpr ⟨gf_Mo_409, List.forall_mem_cons.mpr ⟨gf_Mo_413, List.forall_mem_cons.mpr ⟨gf_Mo_416, List.forall_mem_nil _⟩⟩⟩, List.forall_mem_nil _, List.forall_mem_cons.mpr ⟨cl_static (y := y_Mo_in) h_Mo_in wm_2971 wm_9 wm_2969 wm_2970 ⟨by decide, by decide, by decide +kernel⟩ (by decide), List.forall_mem_nil _⟩, List.forall_mem_nil _, List.forall_mem_nil _, GG_pl⟩ (by decide +kernel)
def n_Mo_firstFit_an : List an_T := [(2, [(0, (2, 0, 0, [150])), (1, (0, 0, 79, [])), (2, (0, 0, 120, []))], [], (0, 0), [(0, 0, 99998), (1, 2, 120), (0, 0, 100000)], [], [], [], 0, [], [])]
def t_Mo_firstFit_ct : ct_L := [(1, 662, e_Mo_fitsFace)]
set_option maxRecDepth 100000 in
theorem c_Mo_firstFit {l : Launch} {D : va_G} {kA : Nat → ClassId} (h_Mo_fitsFace : ct_ok l D kA GG y_Mo_fitsFace z_Mo_fitsFace e_Mo_fitsFace) : ct_ok l D kA GG y_Mo_firstFit z_Mo_firstFit e_Mo_firstFit := chk_all_ok (FT := [(612, 13, 39)]) (PT := []) (CT := t_Mo_firstFit_ct) (KT := []) (NT := []) (AN := n_Mo_firstFit_an) (OT := []) 3 200 (List.forall_mem_nil _) (by decide +kernel) ⟨List.forall_mem_cons.mpr ⟨gf_Mo_612, List.forall_mem_nil _⟩, List.forall_mem_nil _, List.forall_mem_cons.mpr ⟨cl_virtual (y := y_Mo_fitsFace) (ci := 13) rfl rfl ⟨_, _, rfl⟩ (by decide +kernel) h_Mo_fitsFace wm_3223 wm_9 wm_3220 wm_3222 wv_15_14 ⟨by decide, by decide, by decide +kernel⟩ (by decide), List.forall_mem_nil _⟩, List.forall_mem_nil _, List.forall_mem_nil _, GG_pl⟩ (by decide +kernel)
def n_Mo_isDigit_an : List an_T := []
def t_Mo_isDigit_ct : ct_L := [(0, 387, e_Mo_in)]
set_option maxRecDepth 100000 in
theorem c_Mo_isDigit {l : Launch} {D : va_G} {kA : Nat → ClassId} (h_Mo_in : ct_ok l D kA GG y_Mo_in z_Mo_in e_Mo_in) : ct_ok l D kA GG y_Mo_isDigit z_Mo_isDigit e_Mo_isDigit := chk_all_ok (FT := []) (PT := []) (CT := t_Mo_isDigit_ct) (KT := []) (NT := []) (AN := n_Mo_isDigit_an) (OT := []) 0 200 (List.forall_mem_nil _) (by decide +kernel) ⟨List.forall_mem_nil _, List.forall_mem_nil _, List.forall_mem_cons.mpr ⟨cl_static (y := y_Mo_in) h_Mo_in wm_2971 wm_9 wm_2969 wm_2970 ⟨by decide, by decide, by decide +kernel⟩ (by decide), List.forall_mem_nil _⟩, List.forall_mem_nil _, List.forall_mem_nil _, GG_pl⟩ (by decide +kernel)
def n_Mo_isLetter_an : List an_T := []
def t_Mo_isLetter_ct : ct_L := [(0, 387, e_Mo_in)]
set_option maxRecDepth 100000 in
theorem c_Mo_isLetter {l : Launch} {D : va_G} {kA : Nat → ClassId} (h_Mo_in : ct_ok l D kA GG y_Mo_in z_Mo_in e_Mo_in) : ct_ok l D kA GG y_Mo_isLetter z_Mo_isLetter e_Mo_isLetter := chk_all_ok (FT := []) (PT := []) (CT := t_Mo_isLetter_ct) (KT := []) (NT := []) (AN := n_Mo_isLetter_an) (OT := []) 0 200 (List.forall_mem_nil _) (by decide +kernel) ⟨List.forall_mem_nil _, List.forall_mem_nil _, List.forall_mem_cons.mpr ⟨cl_static (y := y_Mo_in) h_Mo_in wm_2971 wm_9 wm_2969 wm_2970 ⟨by decide, by decide, by decide +kernel⟩ (by decide), List.forall_mem_nil _⟩, List.forall_mem_nil _, List.forall_mem_nil _, GG_pl⟩ (by decide +kernel)
def n_Mo_isPlace_an : List an_T := []
def t_Mo_isPlace_ct : ct_L := [(0, 387, e_Mo_in)]
set_option maxRecDepth 100000 in
theorem c_Mo_isPlace {l : Launch} {D : va_G} {kA : Nat → ClassId} (h_Mo_in : ct_ok l D kA GG y_Mo_in z_Mo_in e_Mo_in) : ct_ok l D kA GG y_Mo_isPlace z_Mo_isPlace e_Mo_isPlace := chk_all_ok (FT := []) (PT := []) (CT := t_Mo_isPlace_ct) (KT := []) (NT := []) (AN := n_Mo_isPlace_an) (OT := []) 0 200 (List.forall_mem_nil _) (by decide +kernel) ⟨List.forall_mem_nil _, List.forall_mem_nil _, List.forall_mem_cons.mpr ⟨cl_static (y := y_Mo_in) h_Mo_in wm_2971 wm_9 wm_2969 wm_2970 ⟨by decide, by decide, by decide +kernel⟩ (by decide), List.forall_mem_nil _⟩, List.forall_mem_nil _, List.forall_mem_nil _, GG_pl⟩ (by decide +kernel)
def n_Mo_join_an : List an_T := [(8, [(0, (2, 0, 0, [150])), (1, (0, -1, 79, [])), (2, (0, -1, 79, [])), (3, (0, 0, 80, []))], [], (0, 0), [(0, 0, 99992), (1, 3, 80), (0, 0, 100000)], [], [], [], 0, [], [])]
def t_Mo_join_ct : ct_L := [(0, 547, e_Mo_min)]
set_option maxRecDepth 100000 in
theorem c_Mo_join {l : Launch} {D : va_G} {kA : Nat → ClassId} (h_Mo_min : ct_ok l D kA GG y_Mo_min z_Mo_min e_Mo_min) : ct_ok l D kA GG y_Mo_join z_Mo_join e_Mo_join := chk_all_ok (FT := [(32, 13, 17), (597, 13, 32)]) (PT := []) (CT := t_Mo_join_ct) (KT := []) (NT := []) (AN := n_Mo_join_an) (OT := []) 3 200 (List.forall_mem_nil _) (by decide +kernel) ⟨List.forall_mem_cons.mpr ⟨gf_Mo_32, List.forall_mem_cons.mpr ⟨gf_Mo_597, List.forall_mem_nil _⟩⟩, List.forall_mem_nil _, List.forall_mem_cons.mpr ⟨cl_static (y := y_Mo_min) h_Mo_min wm_3174 wm_9 wm_3172 wm_3173 ⟨by decide, by decide, by decide +kernel⟩ (by decide), List.forall_mem_nil _⟩, List.forall_mem_nil _, List.forall_mem_nil _, GG_pl⟩ (by decide +kernel)
def n_Mo_map_an : List an_T := []
def t_Mo_map_ct : ct_L := [(0, 387, e_Mo_in)]
set_option maxRecDepth 100000 in
theorem c_Mo_map {l : Launch} {D : va_G} {kA : Nat → ClassId} (h_Mo_in : ct_ok l D kA GG y_Mo_in z_Mo_in e_Mo_in) : ct_ok l D kA GG y_Mo_map z_Mo_map e_Mo_map := chk_all_ok (FT := [(51, 13, 23), (572, 13, 27), (575, 13, 30), (581, 13, 25), (584, 13, 26)]) (PT := []) (CT := t_Mo_map_ct) (KT := []) (NT := []) (AN := n_Mo_map_an) (OT := []) 0 200 (List.forall_mem_nil _) (by decide +kernel) ⟨List.forall_mem_cons.mpr ⟨gf_Mo_51, List.forall_mem_cons.mpr ⟨gf_Mo_572, List.forall_mem_cons.mpr ⟨gf_Mo_575, List.forall_mem_cons.mpr ⟨gf_Mo_581, List.forall_mem_cons.mpr ⟨gf_Mo_584, List.forall_mem_nil _⟩⟩⟩⟩⟩, List.forall_mem_nil _, List.forall_mem_cons.mpr ⟨cl_static (y := y_Mo_in) h_Mo_in wm_2971 wm_9 wm_2969 wm_2970 ⟨by decide, by decide, by decide +kernel⟩ (by decide), List.forall_mem_nil _⟩, List.forall_mem_nil _, List.forall_mem_nil _, GG_pl⟩ (by decide +kernel)
def o_Mo_newEdge_at_gx_0 : or_T := (4, 5, [(0, (2, 0, 0, [150])), (4, (0, 0, 48, []))], [(20, [4, 0], [30, 0, 1, 0, 0, -1, 3, 2005001]), (20, [4, 0], [30, 0, -1, 0, 0, 1, 3, 2005001]), (20, [0], [30, 47, 1, 3, 2005001])], [(4, (0, 0, 47, []))], [], [], [], [])
theorem oo_Mo_newEdge_at_gx_0 {kA : Nat → ClassId} : or_ok kA GG o_Mo_newEdge_at_gx_0 := by
  intro A ta ws vs hD hth hl hk hds hf
  have hl : vs.length = 5 := hl
  have hk : ∀ q ∈ ([(0, (2, 0, 0, [150])), (4, (0, 0, 48, []))] : List (Nat × tv_T)), tv_ok ta q.2 (n_v vs q.1) := hk
  obtain ⟨t0, hk⟩ := List.forall_mem_cons.mp hk
  have t0 : tv_ok ta (2, 0, 0, [150]) (n_v vs 0) := t0
  have r0 : ta (v_ad (n_v vs 0)) = some 150 := tv_rg t0
  obtain ⟨t4, hk⟩ := List.forall_mem_cons.mp hk
  have t4 : tv_ok ta (0, 0, 48, []) (n_v vs 4) := t4
  have k4 : 0 ≤ v_iv (n_v vs 4) ∧ v_iv (n_v vs 4) ≤ 48 := tv_rng t4
  have hf : fc_ok [(20, [4, 0], [30, 0, 1, 0, 0, -1, 3, 2005001]), (20, [4, 0], [30, 0, -1, 0, 0, 1, 3, 2005001]), (20, [0], [30, 47, 1, 3, 2005001])] ta ws vs := hf
  obtain ⟨f0, hf⟩ := fc_un (show (20 : Nat) < 100 from by decide) hf
  have f0 : 1 * v_iv (n_v vs 4) + ((-1) * w_el ws (w_ar ws (n_v vs 0) 2) (w_fi ws (n_v vs 0) 5 + 1).toNat + 0) ≤ 0 := f0
  obtain ⟨f1, hf⟩ := fc_un (show (20 : Nat) < 100 from by decide) hf
  have f1 : (-1) * v_iv (n_v vs 4) + (1 * w_el ws (w_ar ws (n_v vs 0) 2) (w_fi ws (n_v vs 0) 5 + 1).toNat + 0) ≤ 0 := f1
  obtain ⟨f2, hf⟩ := fc_un (show (20 : Nat) < 100 from by decide) hf
  have f2 : 1 * w_el ws (w_ar ws (n_v vs 0) 2) (w_fi ws (n_v vs 0) 5 + 1).toNat + 0 ≤ 47 := f2
  have cr_0_2 : ta (w_ar ws (n_v vs 0) 2) = some 152 := tv_rg (th_fd hD hth r0 (g := GG_150) rfl (k := 2) (t := (2, 0, 0, [152])) rfl rfl)
  have rf4 : tv_ok ta (0, 0, 47, []) (n_v vs 4) := tv_in t4 (by omega) (by omega)
  refine ⟨List.forall_mem_cons.mpr ⟨rf4, (fun _ h => (by cases h))⟩, [], trivial, ?_, (fun _ h => (by cases h))⟩
  rw [List.append_nil]
  exact (fun _ h => (by cases h))
def o_Mo_newEdge_at_gx_1 : or_T := (18, 10, [(0, (2, 0, 0, [150])), (4, (0, 0, 47, [])), (5, (2, 0, 0, [152])), (6, (0, 0, 66297, [])), (7, (0, 1, 1, [])), (8, (0, 1, 66298, [])), (9, (0, 0, 48, []))], [(10, [9, 5, 8], []), (1, [8, 6, 7], []), (9, [6, 0], [5]), (9, [5, 0], [2]), (20, [4, 0], [30, 0, 1, 0, 0, -1, 3, 2005001]), (20, [4, 0], [30, 0, -1, 0, 0, 1, 3, 2005001]), (20, [0], [30, 47, 1, 3, 2005001])], [(9, (0, 0, 47, []))], [], [], [], [(8, 6, 1, 1)])
theorem oo_Mo_newEdge_at_gx_1 {kA : Nat → ClassId} : or_ok kA GG o_Mo_newEdge_at_gx_1 := by
  intro A ta ws vs hD hth hl hk hds hf
  have hl : vs.length = 10 := hl
  have hk : ∀ q ∈ ([(0, (2, 0, 0, [150])), (4, (0, 0, 47, [])), (5, (2, 0, 0, [152])), (6, (0, 0, 66297, [])), (7, (0, 1, 1, [])), (8, (0, 1, 66298, [])), (9, (0, 0, 48, []))] : List (Nat × tv_T)), tv_ok ta q.2 (n_v vs q.1) := hk
  obtain ⟨t0, hk⟩ := List.forall_mem_cons.mp hk
  have t0 : tv_ok ta (2, 0, 0, [150]) (n_v vs 0) := t0
  have r0 : ta (v_ad (n_v vs 0)) = some 150 := tv_rg t0
  obtain ⟨t4, hk⟩ := List.forall_mem_cons.mp hk
  have t4 : tv_ok ta (0, 0, 47, []) (n_v vs 4) := t4
  have k4 : 0 ≤ v_iv (n_v vs 4) ∧ v_iv (n_v vs 4) ≤ 47 := tv_rng t4
  obtain ⟨t5, hk⟩ := List.forall_mem_cons.mp hk
  have t5 : tv_ok ta (2, 0, 0, [152]) (n_v vs 5) := t5
  have r5 : ta (v_ad (n_v vs 5)) = some 152 := tv_rg t5
  obtain ⟨t6, hk⟩ := List.forall_mem_cons.mp hk
  have t6 : tv_ok ta (0, 0, 66297, []) (n_v vs 6) := t6
  have k6 : 0 ≤ v_iv (n_v vs 6) ∧ v_iv (n_v vs 6) ≤ 66297 := tv_rng t6
  obtain ⟨t7, hk⟩ := List.forall_mem_cons.mp hk
  have t7 : tv_ok ta (0, 1, 1, []) (n_v vs 7) := t7
  have k7 : 1 ≤ v_iv (n_v vs 7) ∧ v_iv (n_v vs 7) ≤ 1 := tv_rng t7
  obtain ⟨t8, hk⟩ := List.forall_mem_cons.mp hk
  have t8 : tv_ok ta (0, 1, 66298, []) (n_v vs 8) := t8
  have k8 : 1 ≤ v_iv (n_v vs 8) ∧ v_iv (n_v vs 8) ≤ 66298 := tv_rng t8
  obtain ⟨t9, hk⟩ := List.forall_mem_cons.mp hk
  have t9 : tv_ok ta (0, 0, 48, []) (n_v vs 9) := t9
  have k9 : 0 ≤ v_iv (n_v vs 9) ∧ v_iv (n_v vs 9) ≤ 48 := tv_rng t9
  have hds : ∀ q ∈ ([(8, 6, 1, 1)] : List of_T), n_iv vs q.2.1 + q.2.2.1 ≤ n_iv vs q.1 ∧ n_iv vs q.1 ≤ n_iv vs q.2.1 + q.2.2.2 := hds
  obtain ⟨d0, hds⟩ := List.forall_mem_cons.mp hds
  have d0 : v_iv (n_v vs 6) + 1 ≤ v_iv (n_v vs 8) ∧ v_iv (n_v vs 8) ≤ v_iv (n_v vs 6) + 1 := d0
  have hf : fc_ok [(10, [9, 5, 8], []), (1, [8, 6, 7], []), (9, [6, 0], [5]), (9, [5, 0], [2]), (20, [4, 0], [30, 0, 1, 0, 0, -1, 3, 2005001]), (20, [4, 0], [30, 0, -1, 0, 0, 1, 3, 2005001]), (20, [0], [30, 47, 1, 3, 2005001])] ta ws vs := hf
  obtain ⟨f0, hf⟩ := fc_un (show (10 : Nat) < 100 from by decide) hf
  have f0 : v_iv (n_v vs 9) = w_el ws (v_ad (n_v vs 5)) (v_iv (n_v vs 8)).toNat := f0
  obtain ⟨f1, hf⟩ := fc_un (show (1 : Nat) < 100 from by decide) hf
  have f1 : v_iv (n_v vs 8) = v_iv (n_v vs 6) + v_iv (n_v vs 7) := f1
  obtain ⟨f2, hf⟩ := fc_un (show (9 : Nat) < 100 from by decide) hf
  have f2 : n_v vs 6 = w_fd ws (v_ad (n_v vs 0)) 5 := f2
  obtain ⟨f3, hf⟩ := fc_un (show (9 : Nat) < 100 from by decide) hf
  have f3 : n_v vs 5 = w_fd ws (v_ad (n_v vs 0)) 2 := f3
  obtain ⟨f4, hf⟩ := fc_un (show (20 : Nat) < 100 from by decide) hf
  have f4 : 1 * v_iv (n_v vs 4) + ((-1) * w_el ws (w_ar ws (n_v vs 0) 2) (w_fi ws (n_v vs 0) 5 + 1).toNat + 0) ≤ 0 := f4
  obtain ⟨f5, hf⟩ := fc_un (show (20 : Nat) < 100 from by decide) hf
  have f5 : (-1) * v_iv (n_v vs 4) + (1 * w_el ws (w_ar ws (n_v vs 0) 2) (w_fi ws (n_v vs 0) 5 + 1).toNat + 0) ≤ 0 := f5
  obtain ⟨f6, hf⟩ := fc_un (show (20 : Nat) < 100 from by decide) hf
  have f6 : 1 * w_el ws (w_ar ws (n_v vs 0) 2) (w_fi ws (n_v vs 0) 5 + 1).toNat + 0 ≤ 47 := f6
  have cr_0_2 : ta (w_ar ws (n_v vs 0) 2) = some 152 := tv_rg (th_fd hD hth r0 (g := GG_150) rfl (k := 2) (t := (2, 0, 0, [152])) rfl rfl)
  have ad_5 : v_ad (n_v vs 5) = w_ar ws (n_v vs 0) 2 := congrArg v_ad f3
  rw [ad_5] at f0
  have g2 : v_iv (n_v vs 6) = w_fi ws (n_v vs 0) 5 := congrArg v_iv f2
  have cg0_F5_1 : v_iv (n_v vs 8) = w_fi ws (n_v vs 0) 5 + 1 → w_el ws (w_ar ws (n_v vs 0) 2) (v_iv (n_v vs 8)).toNat = w_el ws (w_ar ws (n_v vs 0) 2) (w_fi ws (n_v vs 0) 5 + 1).toNat := fun h => by rw [h]
  have rf9 : tv_ok ta (0, 0, 47, []) (n_v vs 9) := tv_in t9 (by omega) (by omega)
  refine ⟨List.forall_mem_cons.mpr ⟨rf9, (fun _ h => (by cases h))⟩, [], trivial, ?_, (fun _ h => (by cases h))⟩
  rw [List.append_nil]
  exact (fun _ h => (by cases h))
def n_Mo_newEdge_at_gx_an : List an_T := []
def t_Mo_newEdge_at_gx_ct : ct_L := [(1, 401, e_Mo_edges)]
set_option maxRecDepth 100000 in
theorem c_Mo_newEdge_at_gx {l : Launch} {D : va_G} {kA : Nat → ClassId} (h_Mo_edges : ct_ok l D kA GG y_Mo_edges z_Mo_edges e_Mo_edges) : ct_ok l D kA GG y_Mo_newEdge_at_gx z_Mo_newEdge_at_gx e_Mo_newEdge_at_gx := chk_all_ok (FT := [(16, 13, 2), (391, 13, 5)]) (PT := []) (CT := t_Mo_newEdge_at_gx_ct) (KT := []) (NT := []) (AN := n_Mo_newEdge_at_gx_an) (OT := [o_Mo_newEdge_at_gx_0, o_Mo_newEdge_at_gx_1]) 0 220 (List.forall_mem_cons.mpr ⟨oo_Mo_newEdge_at_gx_0, List.forall_mem_cons.mpr ⟨oo_Mo_newEdge_at_gx_1, List.forall_mem_nil _⟩⟩) (by decide +kernel) ⟨List.forall_mem_cons.mpr ⟨gf_Mo_16, List.forall_mem_cons.mpr ⟨gf_Mo_391, List.forall_mem_nil _⟩⟩, List.forall_mem_nil _, List.forall_mem_cons.mpr ⟨cl_virtual (y := y_Mo_edges) (ci := 13) rfl rfl ⟨_, _, rfl⟩ (by decide +kernel) h_Mo_edges wm_3037 wm_9 wm_3034 wm_3036 wv_13_6 ⟨by decide, by decide, by decide +kernel⟩ (by decide), List.forall_mem_nil _⟩, List.forall_mem_nil _, List.forall_mem_nil _, GG_pl⟩ (by decide +kernel)
def n_Mo_octet_an : List an_T := []
def t_Mo_octet_ct : ct_L := [(0, 387, e_Mo_in)]
set_option maxRecDepth 100000 in
theorem c_Mo_octet {l : Launch} {D : va_G} {kA : Nat → ClassId} (h_Mo_in : ct_ok l D kA GG y_Mo_in z_Mo_in e_Mo_in) : ct_ok l D kA GG y_Mo_octet z_Mo_octet e_Mo_octet := chk_all_ok (FT := [(363, 13, 171), (1326, 13, 169)]) (PT := []) (CT := t_Mo_octet_ct) (KT := []) (NT := []) (AN := n_Mo_octet_an) (OT := []) 0 200 (List.forall_mem_nil _) (by decide +kernel) ⟨List.forall_mem_cons.mpr ⟨gf_Mo_363, List.forall_mem_cons.mpr ⟨gf_Mo_1326, List.forall_mem_nil _⟩⟩, List.forall_mem_nil _, List.forall_mem_cons.mpr ⟨cl_static (y := y_Mo_in) h_Mo_in wm_2971 wm_9 wm_2969 wm_2970 ⟨by decide, by decide, by decide +kernel⟩ (by decide), List.forall_mem_nil _⟩, List.forall_mem_nil _, List.forall_mem_nil _, GG_pl⟩ (by decide +kernel)
def n_Mo_worst_an : List an_T := [(31, [(0, (2, 0, 0, [150])), (1, (0, 0, 39, [])), (2, (0, 1, 40, [])), (3, (0, -2147483648, 2147483647, [])), (4, (0, -2147483648, 2147483647, [])), (5, (0, -2147483648, 2147483647, [])), (6, (0, -2147483648, 2147483647, [])), (7, (1, 1, 2147483647, [])), (9, (1, 1, 2147483647, [])), (11, (0, 0, 40, []))], [], (0, 0), [(0, 0, 99969), (1, 9, 40), (0, 0, 100000)], [(1, 2, -1000000000000, 38), (1, 9, -1000000000000, 0), (2, 1, -1000000000000, 40), (2, 9, -1000000000000, 40), (5, 1, -1000000000000, 2147483647), (5, 2, -1000000000000, 2147483646), (5, 9, -1000000000000, 2147483647), (6, 1, -1000000000000, 2147483647), (6, 2, -1000000000000, 2147483646), (6, 9, -1000000000000, 2147483647), (9, 2, -1000000000000, 38)], [], [], 0, [], []), (79, [(0, (2, 0, 0, [150])), (1, (0, 0, 39, [])), (2, (0, 1, 40, [])), (3, (0, -2147483648, 2147483647, [])), (4, (0, -2147483648, 2147483647, [])), (5, (0, -2147483648, 2147483647, [])), (6, (0, -2147483648, 2147483647, [])), (7, (1, 1, 2147483647, [])), (9, (1, 1, 2147483647, [])), (11, (0, 0, 39, [])), (12, (1, -9223372036854775808, 9223372036854775807, [])), (14, (1, -9223372036854775808, 9223372036854775807, []))], [(1, -9223372036854775808, 9223372036854775807, [])], (0, 0), [(0, 0, 99969), (1, 9, 40), (0, 0, 99921)], [(1, 2, -1000000000000, -1), (1, 9, -1000000000000, 0), (2, 1, -1000000000000, 40), (2, 9, -1000000000000, 40), (9, 2, -1000000000000, -1)], [], [], 0, [], []), (96, [(0, (2, 0, 0, [150])), (1, (0, 0, 39, [])), (2, (0, 1, 40, [])), (3, (0, -2147483648, 2147483647, [])), (4, (0, -2147483648, 2147483647, [])), (5, (0, -2147483648, 2147483647, [])), (6, (0, -2147483648, 2147483647, [])), (7, (1, 1, 2147483647, [])), (9, (1, 1, 2147483647, [])), (11, (0, 0, 39, [])), (12, (1, -9223372036854775808, 9223372036854775807, [])), (14, (1, -9223372036854775808, 9223372036854775807, [])), (16, (1, -9223372036854775808, 9223372036854775807, []))], [(1, -9223372036854775808, 9223372036854775807, [])], (0, 0), [(0, 0, 99969), (1, 9, 40), (0, 0, 99904)], [(1, 2, -1000000000000, -1), (1, 9, -1000000000000, 0), (2, 1, -1000000000000, 40), (2, 9, -1000000000000, 40), (9, 2, -1000000000000, -1)], [], [], 0, [], []), (128, [(0, (2, 0, 0, [150])), (1, (0, 0, 39, [])), (2, (0, 1, 40, [])), (3, (0, -2147483648, 2147483647, [])), (4, (0, -2147483648, 2147483647, [])), (5, (0, -2147483648, 2147483647, [])), (6, (0, -2147483648, 2147483647, [])), (7, (1, 1, 2147483647, [])), (9, (1, 1, 2147483647, [])), (11, (0, 0, 39, [])), (12, (1, -9223372036854775808, 9223372036854775807, [])), (14, (1, -9223372036854775808, 9223372036854775807, [])), (16, (1, -9223372036854775808, 9223372036854775807, [])), (18, (1, -9223372036854775808, 9223372036854775807, []))], [], (0, 0), [(0, 0, 99969), (1, 9, 40), (0, 0, 99872)], [(1, 2, -1000000000000, -1), (1, 9, -1000000000000, 0), (2, 1, -1000000000000, 40), (2, 9, -1000000000000, 40), (9, 2, -1000000000000, -1)], [], [], 0, [], [])]
def t_Mo_worst_ct : ct_L := [(0, 855, e_Mo_max)]
set_option maxRecDepth 100000 in
theorem c_Mo_worst {l : Launch} {D : va_G} {kA : Nat → ClassId} (h_Mo_max : ct_ok l D kA GG y_Mo_max z_Mo_max e_Mo_max) : ct_ok l D kA GG y_Mo_worst z_Mo_worst e_Mo_worst := chk_all_ok (FT := [(302, 13, 131), (977, 13, 133), (981, 13, 134)]) (PT := [(977, 13, 133, .long), (981, 13, 134, .long)]) (CT := t_Mo_worst_ct) (KT := []) (NT := []) (AN := n_Mo_worst_an) (OT := []) 3 356 (List.forall_mem_nil _) (by decide +kernel) ⟨List.forall_mem_cons.mpr ⟨gf_Mo_302, List.forall_mem_cons.mpr ⟨gf_Mo_977, List.forall_mem_cons.mpr ⟨gf_Mo_981, List.forall_mem_nil _⟩⟩⟩, List.forall_mem_cons.mpr ⟨pf_Mo_977, List.forall_mem_cons.mpr ⟨pf_Mo_981, List.forall_mem_nil _⟩⟩, List.forall_mem_cons.mpr ⟨cl_static (y := y_Mo_max) h_Mo_max wm_3430 wm_9 wm_3428 wm_3429 ⟨by decide, by decide, by decide +kernel⟩ (by decide), List.forall_mem_nil _⟩, List.forall_mem_nil _, List.forall_mem_nil _, GG_pl⟩ (by decide +kernel)
def o_Mo_writeName_0 : or_T := (2, 5, [(0, (2, 0, 0, [150])), (3, (0, 0, 99999992, [])), (4, (0, 0, 0, []))], [(20, [0, 3], [30, 0, 1, 1, 170, -1, 0, 0])], [], [], [(20, [0, 3, 4], [30, 0, 1, 1, 170, -1, 0, 0, -1, 0, 0]), (24, [0, 0], [])], [], [])
theorem oo_Mo_writeName_0 {kA : Nat → ClassId} : or_ok kA GG o_Mo_writeName_0 := by
  intro A ta ws vs hD hth hl hk hds hf
  have hl : vs.length = 5 := hl
  have hk : ∀ q ∈ ([(0, (2, 0, 0, [150])), (3, (0, 0, 99999992, [])), (4, (0, 0, 0, []))] : List (Nat × tv_T)), tv_ok ta q.2 (n_v vs q.1) := hk
  obtain ⟨t0, hk⟩ := List.forall_mem_cons.mp hk
  have t0 : tv_ok ta (2, 0, 0, [150]) (n_v vs 0) := t0
  have r0 : ta (v_ad (n_v vs 0)) = some 150 := tv_rg t0
  obtain ⟨t3, hk⟩ := List.forall_mem_cons.mp hk
  have t3 : tv_ok ta (0, 0, 99999992, []) (n_v vs 3) := t3
  have k3 : 0 ≤ v_iv (n_v vs 3) ∧ v_iv (n_v vs 3) ≤ 99999992 := tv_rng t3
  obtain ⟨t4, hk⟩ := List.forall_mem_cons.mp hk
  have t4 : tv_ok ta (0, 0, 0, []) (n_v vs 4) := t4
  have k4 : 0 ≤ v_iv (n_v vs 4) ∧ v_iv (n_v vs 4) ≤ 0 := tv_rng t4
  have hf : fc_ok [(20, [0, 3], [30, 0, 1, 1, 170, -1, 0, 0])] ta ws vs := hf
  obtain ⟨f0, hf⟩ := fc_un (show (20 : Nat) < 100 from by decide) hf
  have f0 : 1 * w_fi ws (n_v vs 0) 170 + ((-1) * v_iv (n_v vs 3) + 0) ≤ 0 := f0
  have kz_0_170 : 0 ≤ w_fi ws (n_v vs 0) 170 ∧ w_fi ws (n_v vs 0) 170 ≤ 100000000 := tv_rng (th_fd hD hth r0 (g := GG_150) rfl (k := 170) (t := (0, 0, 100000000, [])) rfl rfl)
  have nf0 : fc_1 (20, [0, 3, 4], [30, 0, 1, 1, 170, -1, 0, 0, -1, 0, 0]) ws (vs) := by
    refine ⟨fun n hn => ?_, ?_⟩
    · have hn : n ∈ [0, 3, 4] := hn
      rw [hl]
      simp only [List.mem_cons, List.not_mem_nil, or_false] at hn
      show n < 5; omega
    · show 1 * w_fi ws (n_v vs 0) 170 + ((-1) * v_iv (n_v vs 3) + ((-1) * v_iv (n_v vs 4) + 0)) ≤ 0
      omega
  have nf1 : fc_1 (24, [0, 0], []) ws (vs) := by
    refine ⟨fun n hn => ?_, ?_⟩
    · have hn : n ∈ [0, 0] := hn
      rw [hl]
      simp only [List.mem_cons, List.not_mem_nil, or_false] at hn
      show n < 5; omega
    · show n_v vs 0 = n_v vs 0
      first | rfl | simp only [true_and]
  refine ⟨(fun _ h => (by cases h)), [], trivial, ?_, (fun _ h => (by cases h))⟩
  rw [List.append_nil]
  exact List.forall_mem_cons.mpr ⟨⟨show (20 : Nat) < 100 from by decide, nf0⟩, List.forall_mem_cons.mpr ⟨⟨show (24 : Nat) < 100 from by decide, nf1⟩, (fun _ h => (by cases h))⟩⟩
def o_Mo_writeName_1 : or_T := (25, 8, [(0, (2, 0, 0, [150])), (3, (0, 0, 99999992, [])), (4, (2, 0, 0, [150])), (6, (0, 0, 8, [])), (7, (0, 0, 8, []))], [(7, [7, 6], [3]), (20, [4, 3, 7], [30, 0, 1, 1, 170, -1, 0, 0, -1, 0, 0]), (24, [0, 4], [])], [], [], [(20, [0, 3], [30, 8, 1, 1, 170, -1, 0, 0])], [], [(7, 6, 0, 4294967296), (6, 3, -4294967296, 8), (6, 7, -4294967296, 8), (7, 6, -4294967296, 0)])
theorem oo_Mo_writeName_1 {kA : Nat → ClassId} : or_ok kA GG o_Mo_writeName_1 := by
  intro A ta ws vs hD hth hl hk hds hf
  have hl : vs.length = 8 := hl
  have hk : ∀ q ∈ ([(0, (2, 0, 0, [150])), (3, (0, 0, 99999992, [])), (4, (2, 0, 0, [150])), (6, (0, 0, 8, [])), (7, (0, 0, 8, []))] : List (Nat × tv_T)), tv_ok ta q.2 (n_v vs q.1) := hk
  obtain ⟨t0, hk⟩ := List.forall_mem_cons.mp hk
  have t0 : tv_ok ta (2, 0, 0, [150]) (n_v vs 0) := t0
  have r0 : ta (v_ad (n_v vs 0)) = some 150 := tv_rg t0
  obtain ⟨t3, hk⟩ := List.forall_mem_cons.mp hk
  have t3 : tv_ok ta (0, 0, 99999992, []) (n_v vs 3) := t3
  have k3 : 0 ≤ v_iv (n_v vs 3) ∧ v_iv (n_v vs 3) ≤ 99999992 := tv_rng t3
  obtain ⟨t4, hk⟩ := List.forall_mem_cons.mp hk
  have t4 : tv_ok ta (2, 0, 0, [150]) (n_v vs 4) := t4
  have r4 : ta (v_ad (n_v vs 4)) = some 150 := tv_rg t4
  obtain ⟨t6, hk⟩ := List.forall_mem_cons.mp hk
  have t6 : tv_ok ta (0, 0, 8, []) (n_v vs 6) := t6
  have k6 : 0 ≤ v_iv (n_v vs 6) ∧ v_iv (n_v vs 6) ≤ 8 := tv_rng t6
  obtain ⟨t7, hk⟩ := List.forall_mem_cons.mp hk
  have t7 : tv_ok ta (0, 0, 8, []) (n_v vs 7) := t7
  have k7 : 0 ≤ v_iv (n_v vs 7) ∧ v_iv (n_v vs 7) ≤ 8 := tv_rng t7
  have hds : ∀ q ∈ ([(7, 6, 0, 4294967296), (6, 3, -4294967296, 8), (6, 7, -4294967296, 8), (7, 6, -4294967296, 0)] : List of_T), n_iv vs q.2.1 + q.2.2.1 ≤ n_iv vs q.1 ∧ n_iv vs q.1 ≤ n_iv vs q.2.1 + q.2.2.2 := hds
  obtain ⟨d0, hds⟩ := List.forall_mem_cons.mp hds
  have d0 : v_iv (n_v vs 6) + 0 ≤ v_iv (n_v vs 7) ∧ v_iv (n_v vs 7) ≤ v_iv (n_v vs 6) + 4294967296 := d0
  obtain ⟨d1, hds⟩ := List.forall_mem_cons.mp hds
  have d1 : v_iv (n_v vs 3) + (-4294967296) ≤ v_iv (n_v vs 6) ∧ v_iv (n_v vs 6) ≤ v_iv (n_v vs 3) + 8 := d1
  obtain ⟨d2, hds⟩ := List.forall_mem_cons.mp hds
  have d2 : v_iv (n_v vs 7) + (-4294967296) ≤ v_iv (n_v vs 6) ∧ v_iv (n_v vs 6) ≤ v_iv (n_v vs 7) + 8 := d2
  obtain ⟨d3, hds⟩ := List.forall_mem_cons.mp hds
  have d3 : v_iv (n_v vs 6) + (-4294967296) ≤ v_iv (n_v vs 7) ∧ v_iv (n_v vs 7) ≤ v_iv (n_v vs 6) + 0 := d3
  have hf : fc_ok [(7, [7, 6], [3]), (20, [4, 3, 7], [30, 0, 1, 1, 170, -1, 0, 0, -1, 0, 0]), (24, [0, 4], [])] ta ws vs := hf
  obtain ⟨f0, hf⟩ := fc_un (show (7 : Nat) < 100 from by decide) hf
  have f0 : v_iv (n_v vs 6) ≤ v_iv (n_v vs 7) := f0
  obtain ⟨f1, hf⟩ := fc_un (show (20 : Nat) < 100 from by decide) hf
  have f1 : 1 * w_fi ws (n_v vs 4) 170 + ((-1) * v_iv (n_v vs 3) + ((-1) * v_iv (n_v vs 7) + 0)) ≤ 0 := f1
  obtain ⟨f2, hf⟩ := fc_un (show (24 : Nat) < 100 from by decide) hf
  have f2 : n_v vs 0 = n_v vs 4 := f2
  have q4 : n_v vs 4 = n_v vs 0 := f2.symm
  rw [q4] at f1
  have kz_0_170 : 0 ≤ w_fi ws (n_v vs 0) 170 ∧ w_fi ws (n_v vs 0) 170 ≤ 100000000 := tv_rng (th_fd hD hth r0 (g := GG_150) rfl (k := 170) (t := (0, 0, 100000000, [])) rfl rfl)
  have nf0 : fc_1 (20, [0, 3], [30, 8, 1, 1, 170, -1, 0, 0]) ws (vs) := by
    refine ⟨fun n hn => ?_, ?_⟩
    · have hn : n ∈ [0, 3] := hn
      rw [hl]
      simp only [List.mem_cons, List.not_mem_nil, or_false] at hn
      show n < 8; omega
    · show 1 * w_fi ws (n_v vs 0) 170 + ((-1) * v_iv (n_v vs 3) + 0) ≤ 8
      omega
  refine ⟨(fun _ h => (by cases h)), [], trivial, ?_, (fun _ h => (by cases h))⟩
  rw [List.append_nil]
  exact List.forall_mem_cons.mpr ⟨⟨show (20 : Nat) < 100 from by decide, nf0⟩, (fun _ h => (by cases h))⟩
def o_Mo_writeName_2 : or_T := (16, 11, [(0, (2, 0, 0, [150])), (3, (0, 0, 99999992, [])), (4, (2, 0, 0, [150])), (6, (0, 1, 8, [])), (7, (0, 0, 7, []))], [(7, [7, 6], [2]), (20, [4, 3, 7], [30, 0, 1, 1, 170, -1, 0, 0, -1, 0, 0]), (24, [0, 4], [])], [], [(0, 0, 99999999, [])], [(20, [4, 11], [30, 0, 1, 1, 170, -1, 0, 0]), (23, [11, 3, 7], [0, 1, -1, -1])], [], [(7, 6, -4294967296, -1), (6, 3, -4294967296, 8), (6, 7, -4294967296, 8), (7, 6, -4294967296, 0)])
theorem oo_Mo_writeName_2 {kA : Nat → ClassId} : or_ok kA GG o_Mo_writeName_2 := by
  intro A ta ws vs hD hth hl hk hds hf
  have hl : vs.length = 11 := hl
  have hk : ∀ q ∈ ([(0, (2, 0, 0, [150])), (3, (0, 0, 99999992, [])), (4, (2, 0, 0, [150])), (6, (0, 1, 8, [])), (7, (0, 0, 7, []))] : List (Nat × tv_T)), tv_ok ta q.2 (n_v vs q.1) := hk
  obtain ⟨t0, hk⟩ := List.forall_mem_cons.mp hk
  have t0 : tv_ok ta (2, 0, 0, [150]) (n_v vs 0) := t0
  have r0 : ta (v_ad (n_v vs 0)) = some 150 := tv_rg t0
  obtain ⟨t3, hk⟩ := List.forall_mem_cons.mp hk
  have t3 : tv_ok ta (0, 0, 99999992, []) (n_v vs 3) := t3
  have k3 : 0 ≤ v_iv (n_v vs 3) ∧ v_iv (n_v vs 3) ≤ 99999992 := tv_rng t3
  obtain ⟨t4, hk⟩ := List.forall_mem_cons.mp hk
  have t4 : tv_ok ta (2, 0, 0, [150]) (n_v vs 4) := t4
  have r4 : ta (v_ad (n_v vs 4)) = some 150 := tv_rg t4
  obtain ⟨t6, hk⟩ := List.forall_mem_cons.mp hk
  have t6 : tv_ok ta (0, 1, 8, []) (n_v vs 6) := t6
  have k6 : 1 ≤ v_iv (n_v vs 6) ∧ v_iv (n_v vs 6) ≤ 8 := tv_rng t6
  obtain ⟨t7, hk⟩ := List.forall_mem_cons.mp hk
  have t7 : tv_ok ta (0, 0, 7, []) (n_v vs 7) := t7
  have k7 : 0 ≤ v_iv (n_v vs 7) ∧ v_iv (n_v vs 7) ≤ 7 := tv_rng t7
  have hds : ∀ q ∈ ([(7, 6, -4294967296, -1), (6, 3, -4294967296, 8), (6, 7, -4294967296, 8), (7, 6, -4294967296, 0)] : List of_T), n_iv vs q.2.1 + q.2.2.1 ≤ n_iv vs q.1 ∧ n_iv vs q.1 ≤ n_iv vs q.2.1 + q.2.2.2 := hds
  obtain ⟨d0, hds⟩ := List.forall_mem_cons.mp hds
  have d0 : v_iv (n_v vs 6) + (-4294967296) ≤ v_iv (n_v vs 7) ∧ v_iv (n_v vs 7) ≤ v_iv (n_v vs 6) + (-1) := d0
  obtain ⟨d1, hds⟩ := List.forall_mem_cons.mp hds
  have d1 : v_iv (n_v vs 3) + (-4294967296) ≤ v_iv (n_v vs 6) ∧ v_iv (n_v vs 6) ≤ v_iv (n_v vs 3) + 8 := d1
  obtain ⟨d2, hds⟩ := List.forall_mem_cons.mp hds
  have d2 : v_iv (n_v vs 7) + (-4294967296) ≤ v_iv (n_v vs 6) ∧ v_iv (n_v vs 6) ≤ v_iv (n_v vs 7) + 8 := d2
  obtain ⟨d3, hds⟩ := List.forall_mem_cons.mp hds
  have d3 : v_iv (n_v vs 6) + (-4294967296) ≤ v_iv (n_v vs 7) ∧ v_iv (n_v vs 7) ≤ v_iv (n_v vs 6) + 0 := d3
  have hf : fc_ok [(7, [7, 6], [2]), (20, [4, 3, 7], [30, 0, 1, 1, 170, -1, 0, 0, -1, 0, 0]), (24, [0, 4], [])] ta ws vs := hf
  obtain ⟨f0, hf⟩ := fc_un (show (7 : Nat) < 100 from by decide) hf
  have f0 : v_iv (n_v vs 7) < v_iv (n_v vs 6) := f0
  obtain ⟨f1, hf⟩ := fc_un (show (20 : Nat) < 100 from by decide) hf
  have f1 : 1 * w_fi ws (n_v vs 4) 170 + ((-1) * v_iv (n_v vs 3) + ((-1) * v_iv (n_v vs 7) + 0)) ≤ 0 := f1
  obtain ⟨f2, hf⟩ := fc_un (show (24 : Nat) < 100 from by decide) hf
  have f2 : n_v vs 0 = n_v vs 4 := f2
  have q4 : n_v vs 4 = n_v vs 0 := f2.symm
  rw [q4] at f1
  have kz_0_170 : 0 ≤ w_fi ws (n_v vs 0) 170 ∧ w_fi ws (n_v vs 0) 170 ≤ 100000000 := tv_rng (th_fd hD hth r0 (g := GG_150) rfl (k := 170) (t := (0, 0, 100000000, [])) rfl rfl)
  have kv0 : 0 ≤ w_fi ws (n_v vs 0) 170 ∧ w_fi ws (n_v vs 0) 170 ≤ 100000000 := tv_rng (th_fd hD hth r0 (g := GG_150) rfl (k := 170) (t := (0, 0, 100000000, [])) rfl rfl)
  obtain ⟨x, ex, hx⟩ := iv_ex (ta := ta) (lo := 0) (hi := 99999999) (z := w_fi ws (n_v vs 0) 170) (by omega) (by omega) (by omega) (by omega)
  have ex2 : v_iv (Value.int x) = w_fi ws (n_v vs 0) 170 := ex
  have ex3 : 0 ≤ v_iv (Value.int x) ∧ v_iv (Value.int x) ≤ 99999999 := tv_rng hx
  have e_3 : n_v (vs ++ [Value.int x]) 3 = n_v vs 3 := n_v_old (by rw [hl]; decide)
  have e_4 : n_v (vs ++ [Value.int x]) 4 = n_v vs 4 := n_v_old (by rw [hl]; decide)
  have e_7 : n_v (vs ++ [Value.int x]) 7 = n_v vs 7 := n_v_old (by rw [hl]; decide)
  have e_11 : n_v (vs ++ [Value.int x]) 11 = Value.int x := n_v_new hl
  have nf0 : fc_1 (20, [4, 11], [30, 0, 1, 1, 170, -1, 0, 0]) ws (vs ++ [Value.int x]) := by
    refine ⟨fun n hn => ?_, ?_⟩
    · have hn : n ∈ [4, 11] := hn
      rw [List.length_append, hl]
      simp only [List.mem_cons, List.not_mem_nil, or_false] at hn
      show n < 11 + 1; omega
    · show 1 * w_fi ws (n_v (vs ++ [Value.int x]) 4) 170 + ((-1) * v_iv (n_v (vs ++ [Value.int x]) 11) + 0) ≤ 0
      rw [e_4]
      rw [e_11]
      rw [q4]
      omega
  have nf1 : fc_1 (23, [11, 3, 7], [0, 1, -1, -1]) ws (vs ++ [Value.int x]) := by
    refine ⟨fun n hn => ?_, ?_⟩
    · have hn : n ∈ [11, 3, 7] := hn
      rw [List.length_append, hl]
      simp only [List.mem_cons, List.not_mem_nil, or_false] at hn
      show n < 11 + 1; omega
    · show 1 * v_iv (n_v (vs ++ [Value.int x]) 11) + ((-1) * v_iv (n_v (vs ++ [Value.int x]) 3) + ((-1) * v_iv (n_v (vs ++ [Value.int x]) 7) + 0)) ≤ 0
      rw [e_3]
      rw [e_7]
      rw [e_11]
      omega
  exact ⟨(fun _ h => (by cases h)), [Value.int x], ag_one hx, List.forall_mem_cons.mpr ⟨⟨show (20 : Nat) < 100 from by decide, nf0⟩, List.forall_mem_cons.mpr ⟨⟨show (23 : Nat) < 100 from by decide, nf1⟩, (fun _ h => (by cases h))⟩⟩, (fun _ h => (by cases h))⟩
def o_Mo_writeName_3 : or_T := (2, 13, [(0, (2, 0, 0, [150])), (3, (0, 0, 99999992, [])), (4, (2, 0, 0, [150])), (6, (0, 1, 8, [])), (7, (0, 0, 7, [])), (11, (0, 0, 99999999, [])), (12, (0, 1, 8, []))], [(6, [12, 7], [1]), (23, [11, 3, 7], [0, 1, -1, -1]), (24, [0, 4], []), (20, [4, 11], [30, 1, 1, 1, 170, -1, 0, 0]), (102, [11], [237142198758023568227473377297792835283496928595231875152809132048206089502588928, 13170]), (23, [11, 3, 7], [0, 1, -1, -1]), (7, [7, 6], [2])], [], [], [(20, [4, 3, 12], [30, 0, 1, 1, 170, -1, 0, 0, -1, 0, 0])], [], [(12, 7, 1, 1), (12, 6, -4294967296, 0), (12, 6, -4294967296, 1), (7, 6, -4294967296, -1), (6, 3, -4294967296, 8), (6, 7, -4294967296, 8), (7, 6, -4294967296, 0)])
theorem oo_Mo_writeName_3 {kA : Nat → ClassId} : or_ok kA GG o_Mo_writeName_3 := by
  intro A ta ws vs hD hth hl hk hds hf
  have hl : vs.length = 13 := hl
  have hk : ∀ q ∈ ([(0, (2, 0, 0, [150])), (3, (0, 0, 99999992, [])), (4, (2, 0, 0, [150])), (6, (0, 1, 8, [])), (7, (0, 0, 7, [])), (11, (0, 0, 99999999, [])), (12, (0, 1, 8, []))] : List (Nat × tv_T)), tv_ok ta q.2 (n_v vs q.1) := hk
  obtain ⟨t0, hk⟩ := List.forall_mem_cons.mp hk
  have t0 : tv_ok ta (2, 0, 0, [150]) (n_v vs 0) := t0
  have r0 : ta (v_ad (n_v vs 0)) = some 150 := tv_rg t0
  obtain ⟨t3, hk⟩ := List.forall_mem_cons.mp hk
  have t3 : tv_ok ta (0, 0, 99999992, []) (n_v vs 3) := t3
  have k3 : 0 ≤ v_iv (n_v vs 3) ∧ v_iv (n_v vs 3) ≤ 99999992 := tv_rng t3
  obtain ⟨t4, hk⟩ := List.forall_mem_cons.mp hk
  have t4 : tv_ok ta (2, 0, 0, [150]) (n_v vs 4) := t4
  have r4 : ta (v_ad (n_v vs 4)) = some 150 := tv_rg t4
  obtain ⟨t6, hk⟩ := List.forall_mem_cons.mp hk
  have t6 : tv_ok ta (0, 1, 8, []) (n_v vs 6) := t6
  have k6 : 1 ≤ v_iv (n_v vs 6) ∧ v_iv (n_v vs 6) ≤ 8 := tv_rng t6
  obtain ⟨t7, hk⟩ := List.forall_mem_cons.mp hk
  have t7 : tv_ok ta (0, 0, 7, []) (n_v vs 7) := t7
  have k7 : 0 ≤ v_iv (n_v vs 7) ∧ v_iv (n_v vs 7) ≤ 7 := tv_rng t7
  obtain ⟨t11, hk⟩ := List.forall_mem_cons.mp hk
  have t11 : tv_ok ta (0, 0, 99999999, []) (n_v vs 11) := t11
  have k11 : 0 ≤ v_iv (n_v vs 11) ∧ v_iv (n_v vs 11) ≤ 99999999 := tv_rng t11
  obtain ⟨t12, hk⟩ := List.forall_mem_cons.mp hk
  have t12 : tv_ok ta (0, 1, 8, []) (n_v vs 12) := t12
  have k12 : 1 ≤ v_iv (n_v vs 12) ∧ v_iv (n_v vs 12) ≤ 8 := tv_rng t12
  have hds : ∀ q ∈ ([(12, 7, 1, 1), (12, 6, -4294967296, 0), (12, 6, -4294967296, 1), (7, 6, -4294967296, -1), (6, 3, -4294967296, 8), (6, 7, -4294967296, 8), (7, 6, -4294967296, 0)] : List of_T), n_iv vs q.2.1 + q.2.2.1 ≤ n_iv vs q.1 ∧ n_iv vs q.1 ≤ n_iv vs q.2.1 + q.2.2.2 := hds
  obtain ⟨d0, hds⟩ := List.forall_mem_cons.mp hds
  have d0 : v_iv (n_v vs 7) + 1 ≤ v_iv (n_v vs 12) ∧ v_iv (n_v vs 12) ≤ v_iv (n_v vs 7) + 1 := d0
  obtain ⟨d1, hds⟩ := List.forall_mem_cons.mp hds
  have d1 : v_iv (n_v vs 6) + (-4294967296) ≤ v_iv (n_v vs 12) ∧ v_iv (n_v vs 12) ≤ v_iv (n_v vs 6) + 0 := d1
  obtain ⟨d2, hds⟩ := List.forall_mem_cons.mp hds
  have d2 : v_iv (n_v vs 6) + (-4294967296) ≤ v_iv (n_v vs 12) ∧ v_iv (n_v vs 12) ≤ v_iv (n_v vs 6) + 1 := d2
  obtain ⟨d3, hds⟩ := List.forall_mem_cons.mp hds
  have d3 : v_iv (n_v vs 6) + (-4294967296) ≤ v_iv (n_v vs 7) ∧ v_iv (n_v vs 7) ≤ v_iv (n_v vs 6) + (-1) := d3
  obtain ⟨d4, hds⟩ := List.forall_mem_cons.mp hds
  have d4 : v_iv (n_v vs 3) + (-4294967296) ≤ v_iv (n_v vs 6) ∧ v_iv (n_v vs 6) ≤ v_iv (n_v vs 3) + 8 := d4
  obtain ⟨d5, hds⟩ := List.forall_mem_cons.mp hds
  have d5 : v_iv (n_v vs 7) + (-4294967296) ≤ v_iv (n_v vs 6) ∧ v_iv (n_v vs 6) ≤ v_iv (n_v vs 7) + 8 := d5
  obtain ⟨d6, hds⟩ := List.forall_mem_cons.mp hds
  have d6 : v_iv (n_v vs 6) + (-4294967296) ≤ v_iv (n_v vs 7) ∧ v_iv (n_v vs 7) ≤ v_iv (n_v vs 6) + 0 := d6
  have hf : fc_ok [(6, [12, 7], [1]), (23, [11, 3, 7], [0, 1, -1, -1]), (24, [0, 4], []), (20, [4, 11], [30, 1, 1, 1, 170, -1, 0, 0]), (102, [11], [237142198758023568227473377297792835283496928595231875152809132048206089502588928, 13170]), (23, [11, 3, 7], [0, 1, -1, -1]), (7, [7, 6], [2])] ta ws vs := hf
  obtain ⟨f0, hf⟩ := fc_un (show (6 : Nat) < 100 from by decide) hf
  have f0 : v_iv (n_v vs 12) = v_iv (n_v vs 7) + 1 := f0
  obtain ⟨f1, hf⟩ := fc_un (show (23 : Nat) < 100 from by decide) hf
  have f1 : 1 * v_iv (n_v vs 11) + ((-1) * v_iv (n_v vs 3) + ((-1) * v_iv (n_v vs 7) + 0)) ≤ 0 := f1
  obtain ⟨f2, hf⟩ := fc_un (show (24 : Nat) < 100 from by decide) hf
  have f2 : n_v vs 0 = n_v vs 4 := f2
  obtain ⟨f3, hf⟩ := fc_un (show (20 : Nat) < 100 from by decide) hf
  have f3 : 1 * w_fi ws (n_v vs 4) 170 + ((-1) * v_iv (n_v vs 11) + 0) ≤ 1 := f3
  obtain ⟨ta1, w1, le1, ⟨_, s1⟩, hf⟩ := fc_us (show ¬ (102 : Nat) < 100 from by decide) hf
  obtain ⟨f5, hf⟩ := fc_un (show (23 : Nat) < 100 from by decide) hf
  have f5 : 1 * v_iv (n_v vs 11) + ((-1) * v_iv (n_v vs 3) + ((-1) * v_iv (n_v vs 7) + 0)) ≤ 0 := f5
  obtain ⟨f6, hf⟩ := fc_un (show (7 : Nat) < 100 from by decide) hf
  have f6 : v_iv (n_v vs 7) < v_iv (n_v vs 6) := f6
  have q4 : n_v vs 4 = n_v vs 0 := f2.symm
  rw [q4] at f3
  have kz_0_170 : 0 ≤ w_fi ws (n_v vs 0) 170 ∧ w_fi ws (n_v vs 0) 170 ≤ 100000000 := tv_rng (th_fd hD hth r0 (g := GG_150) rfl (k := 170) (t := (0, 0, 100000000, [])) rfl rfl)
  have nf0 : fc_1 (20, [4, 3, 12], [30, 0, 1, 1, 170, -1, 0, 0, -1, 0, 0]) ws (vs) := by
    refine ⟨fun n hn => ?_, ?_⟩
    · have hn : n ∈ [4, 3, 12] := hn
      rw [hl]
      simp only [List.mem_cons, List.not_mem_nil, or_false] at hn
      show n < 13; omega
    · show 1 * w_fi ws (n_v vs 4) 170 + ((-1) * v_iv (n_v vs 3) + ((-1) * v_iv (n_v vs 12) + 0)) ≤ 0
      rw [q4]
      omega
  refine ⟨(fun _ h => (by cases h)), [], trivial, ?_, (fun _ h => (by cases h))⟩
  rw [List.append_nil]
  exact List.forall_mem_cons.mpr ⟨⟨show (20 : Nat) < 100 from by decide, nf0⟩, (fun _ h => (by cases h))⟩
def n_Mo_writeName_an : List an_T := [(2, [(0, (2, 0, 0, [150])), (1, (0, 3, 66812, [])), (2, (0, 0, 8, [])), (3, (0, 0, 8, []))], [], (0, 0), [(0, 0, 99998), (1, 7, 8), (0, 0, 100000)], [(1, 2, -1000000000000, 66812), (1, 3, -1000000000000, 66812), (1, 5, -1000000000000, 0), (1, 6, -1000000000000, 66812), (1, 7, -1000000000000, 66812), (2, 1, -1000000000000, 5), (2, 3, -1000000000000, 8), (2, 5, -1000000000000, 5), (2, 6, -1000000000000, 0), (2, 7, -1000000000000, 8), (5, 1, -1000000000000, 0), (5, 2, -1000000000000, 66812), (5, 3, -1000000000000, 66812), (5, 6, -1000000000000, 66812), (5, 7, -1000000000000, 66812), (6, 1, -1000000000000, 5), (6, 2, -1000000000000, 0), (6, 3, -1000000000000, 8), (6, 5, -1000000000000, 5), (6, 7, -1000000000000, 8), (7, 2, -1000000000000, 0), (7, 6, -1000000000000, 0)], [], [(2, 0, 0, [150]), (0, 3, 66812, []), (0, 0, 8, []), (0, 0, 99999992, [])], 0, [], [(20, [4, 3, 7], [30, 0, 1, 1, 170, -1, 0, 0, -1, 0, 0]), (24, [0, 4], [])])]
def t_Mo_writeName_ct : ct_L := [(52, 1280, e_Mo_write1)]
set_option maxRecDepth 100000 in
theorem c_Mo_writeName {l : Launch} {D : va_G} {kA : Nat → ClassId} (h_Mo_write1 : ct_ok l D kA GG y_Mo_write1 z_Mo_write1 e_Mo_write1) : ct_ok l D kA GG y_Mo_writeName z_Mo_writeName e_Mo_writeName := chk_all_ok (FT := [(16, 13, 2)]) (PT := []) (CT := t_Mo_writeName_ct) (KT := []) (NT := []) (AN := n_Mo_writeName_an) (OT := [o_Mo_writeName_0, o_Mo_writeName_1, o_Mo_writeName_2, o_Mo_writeName_3]) 3 200 (List.forall_mem_cons.mpr ⟨oo_Mo_writeName_0, List.forall_mem_cons.mpr ⟨oo_Mo_writeName_1, List.forall_mem_cons.mpr ⟨oo_Mo_writeName_2, List.forall_mem_cons.mpr ⟨oo_Mo_writeName_3, List.forall_mem_nil _⟩⟩⟩⟩) (by decide +kernel) ⟨List.forall_mem_cons.mpr ⟨gf_Mo_16, List.forall_mem_nil _⟩, List.forall_mem_nil _, List.forall_mem_cons.mpr ⟨cl_virtual (y := y_Mo_write1) (ci := 13) rfl rfl ⟨_, _, rfl⟩ (by decide +kernel) h_Mo_write1 wm_3914 wm_9 wm_3911 wm_3913 wv_24_8 ⟨by decide, by decide, by decide +kernel⟩ (by decide), List.forall_mem_nil _⟩, List.forall_mem_nil _, List.forall_mem_nil _, GG_pl⟩ (by decide +kernel)
def n_Dr_coordinate_an : List an_T := [(20, [(0, (2, 0, 0, [0])), (1, (0, 0, 1, [])), (2, (0, -2147483648, 2147483647, [])), (3, (0, -2147483648, 2147483647, []))], [], (0, 0), [(0, 0, 99980)], [], [((0, 1), (0, 0, 7, []))], [], 0, [], []), (53, [(0, (2, 0, 0, [0])), (1, (0, 0, 1, [])), (2, (0, 0, 23, [])), (3, (0, -2147483648, 2147483647, []))], [(0, -2147483648, 2147483647, [])], (0, 0), [(0, 0, 99947)], [], [((0, 1), (0, 0, 7, []))], [], 0, [], []), (90, [(0, (2, 0, 0, [0])), (1, (0, 3, 4, [])), (2, (0, 0, 47, [])), (3, (0, -2147483648, 2147483647, []))], [], (0, 0), [(0, 0, 99910)], [], [((0, 1), (0, 0, 7, []))], [], 0, [], []), (104, [(0, (2, 0, 0, [0])), (1, (0, -2147483648, 2147483647, [])), (2, (0, 0, 47, [])), (3, (0, -2147483648, 2147483647, []))], [], (0, 0), [(0, 0, 99896)], [], [((0, 1), (0, 0, 7, []))], [], 0, [], []), (137, [(0, (2, 0, 0, [0])), (1, (0, 3, 4, [])), (2, (0, 0, 47, [])), (3, (0, 0, 23, []))], [(0, -2147483648, 2147483647, [])], (0, 0), [(0, 0, 99863)], [], [((0, 1), (0, 0, 7, []))], [], 0, [], [])]
def t_Dr_coordinate_ct : ct_L := [(1, 85, e_Gr_hasNode), (1, 91, e_Gr_hasEdge)]
set_option maxRecDepth 100000 in
theorem c_Dr_coordinate {l : Launch} {D : va_G} {kA : Nat → ClassId} (h_Gr_hasEdge : ct_ok l D kA GG y_Gr_hasEdge z_Gr_hasEdge e_Gr_hasEdge) (h_Gr_hasNode : ct_ok l D kA GG y_Gr_hasNode z_Gr_hasNode e_Gr_hasNode) : ct_ok l D kA GG y_Dr_coordinate z_Dr_coordinate e_Dr_coordinate := chk_all_ok (FT := [(9, 0, 1), (15, 0, 2), (19, 0, 3), (22, 0, 4), (25, 0, 5), (28, 0, 6), (74, 0, 0)]) (PT := []) (CT := t_Dr_coordinate_ct) (KT := [(0, 84, .int (Int32.ofInt (-2147483648)), (0, -2147483648, -2147483648, []))]) (NT := []) (AN := n_Dr_coordinate_an) (OT := []) 1 360 (List.forall_mem_nil _) (by decide +kernel) ⟨List.forall_mem_cons.mpr ⟨gf_Dr_9, List.forall_mem_cons.mpr ⟨gf_Dr_15, List.forall_mem_cons.mpr ⟨gf_Dr_19, List.forall_mem_cons.mpr ⟨gf_Dr_22, List.forall_mem_cons.mpr ⟨gf_Dr_25, List.forall_mem_cons.mpr ⟨gf_Dr_28, List.forall_mem_cons.mpr ⟨gf_Dr_74, List.forall_mem_nil _⟩⟩⟩⟩⟩⟩⟩, List.forall_mem_nil _, List.forall_mem_cons.mpr ⟨cl_virtual (y := y_Gr_hasNode) (ci := 3) rfl rfl ⟨_, _, rfl⟩ (by decide +kernel) h_Gr_hasNode wm_921 wm_3 wm_1822 wm_919 wm_920 ⟨by decide, by decide, by decide +kernel⟩ (by decide), List.forall_mem_cons.mpr ⟨cl_virtual (y := y_Gr_hasEdge) (ci := 3) rfl rfl ⟨_, _, rfl⟩ (by decide +kernel) h_Gr_hasEdge wm_930 wm_3 wm_1823 wm_928 wm_929 ⟨by decide, by decide, by decide +kernel⟩ (by decide), List.forall_mem_nil _⟩⟩, List.forall_mem_cons.mpr ⟨kx_Dr_0_84, List.forall_mem_nil _⟩, List.forall_mem_nil _, GG_pl⟩ (by decide +kernel)
def n_Dr_countNodePairs_an : List an_T := [(5, [(0, (2, 0, 0, [0])), (1, (0, 0, 1, [])), (2, (1, -9223372036854775808, 9223372036854775807, [])), (4, (0, 0, 24, []))], [], (0, 0), [(0, 0, 99995), (1, 3, 24), (0, 0, 100000), (0, 0, 0), (0, 0, 0)], [], [], [], 0, [], []), (23, [(0, (2, 0, 0, [0])), (1, (0, 0, 1, [])), (2, (1, -9223372036854775808, 9223372036854775807, [])), (4, (0, 0, 23, [])), (5, (0, 1, 24, []))], [], (0, 0), [(0, 0, 99995), (1, 3, 24), (0, 0, 99977), (1, 4, 24), (0, 0, 100000)], [], [], [], 0, [], [])]
def t_Dr_countNodePairs_ct : ct_L := [(1, 118, e_Gr_half), (273, 112, e_jMath_abs1_v21), (342, 112, e_jMath_abs1_v21)]
set_option maxRecDepth 100000 in
theorem c_Dr_countNodePairs {l : Launch} {D : va_G} {kA : Nat → ClassId} (h_Gr_half : ct_ok l D kA GG y_Gr_half z_Gr_half e_Gr_half) : ct_ok l D kA GG y_Dr_countNodePairs z_Dr_countNodePairs e_Dr_countNodePairs := chk_all_ok (FT := [(15, 0, 2), (19, 0, 3), (74, 0, 0), (141, 3, 0)]) (PT := []) (CT := t_Dr_countNodePairs_ct) (KT := []) (NT := []) (AN := n_Dr_countNodePairs_an) (OT := []) 5 456 (List.forall_mem_nil _) (by decide +kernel) ⟨List.forall_mem_cons.mpr ⟨gf_Dr_15, List.forall_mem_cons.mpr ⟨gf_Dr_19, List.forall_mem_cons.mpr ⟨gf_Dr_74, List.forall_mem_cons.mpr ⟨gf_Dr_141, List.forall_mem_nil _⟩⟩⟩⟩, List.forall_mem_nil _, List.forall_mem_cons.mpr ⟨cl_virtual (y := y_Gr_half) (ci := 3) rfl rfl ⟨_, _, rfl⟩ (by decide +kernel) h_Gr_half wm_1452 wm_3 wm_2001 wm_1450 wm_1451 ⟨by decide, by decide, by decide +kernel⟩ (by decide), List.forall_mem_cons.mpr ⟨cl_static (y := y_jMath_abs1) c_jMath_abs1_v21 wm_1811 wm_10 wm_2000 wm_1810 ⟨by decide, by decide, by decide +kernel⟩ (by decide), List.forall_mem_cons.mpr ⟨cl_static (y := y_jMath_abs1) c_jMath_abs1_v21 wm_1811 wm_10 wm_2000 wm_1810 ⟨by decide, by decide, by decide +kernel⟩ (by decide), List.forall_mem_nil _⟩⟩⟩, List.forall_mem_nil _, List.forall_mem_nil _, GG_pl⟩ (by decide +kernel)
def n_Dr_countSlanted_an : List an_T := [(4, [(0, (2, 0, 0, [0])), (1, (1, -9223372036854775808, 9223372036854775807, [])), (3, (0, 0, 48, []))], [], (0, 0), [(0, 0, 99996), (1, 2, 48), (0, 0, 100000), (0, 0, 0), (0, 0, 0)], [], [], [], 0, [], []), (18, [(0, (2, 0, 0, [0])), (1, (1, -9223372036854775808, 9223372036854775807, [])), (3, (0, 0, 47, [])), (4, (0, 0, 25, []))], [], (0, 0), [(0, 0, 99996), (1, 2, 48), (0, 0, 99982), (1, 3, 25), (0, 0, 100000)], [], [], [], 0, [], [])]
def t_Dr_countSlanted_ct : ct_L := [(103, 128, e_Dr_pointX_np), (130, 128, e_Dr_pointX_np), (160, 134, e_Dr_pointY_np), (187, 134, e_Dr_pointY_np)]
set_option maxRecDepth 100000 in
theorem c_Dr_countSlanted {l : Launch} {D : va_G} {kA : Nat → ClassId} (h_Dr_pointX : ct_ok l D kA GG y_Dr_pointX z_Dr_pointX e_Dr_pointX) (h_Dr_pointY : ct_ok l D kA GG y_Dr_pointY z_Dr_pointY e_Dr_pointY) : ct_ok l D kA GG y_Dr_countSlanted z_Dr_countSlanted e_Dr_countSlanted := chk_all_ok (FT := [(22, 0, 4), (74, 0, 0), (151, 3, 1)]) (PT := []) (CT := t_Dr_countSlanted_ct) (KT := []) (NT := []) (AN := n_Dr_countSlanted_an) (OT := []) 5 212 (List.forall_mem_nil _) (by decide +kernel) ⟨List.forall_mem_cons.mpr ⟨gf_Dr_22, List.forall_mem_cons.mpr ⟨gf_Dr_74, List.forall_mem_cons.mpr ⟨gf_Dr_151, List.forall_mem_nil _⟩⟩⟩, List.forall_mem_nil _, List.forall_mem_cons.mpr ⟨cl_nopa (cl_virtual (y := y_Dr_pointX) (ci := 0) rfl rfl ⟨_, _, rfl⟩ (by decide +kernel) h_Dr_pointX wm_1986 wm_8 wm_1983 wm_1984 wm_1985 ⟨by decide, by decide, by decide +kernel⟩ (by decide)), List.forall_mem_cons.mpr ⟨cl_nopa (cl_virtual (y := y_Dr_pointX) (ci := 0) rfl rfl ⟨_, _, rfl⟩ (by decide +kernel) h_Dr_pointX wm_1986 wm_8 wm_1983 wm_1984 wm_1985 ⟨by decide, by decide, by decide +kernel⟩ (by decide)), List.forall_mem_cons.mpr ⟨cl_nopa (cl_virtual (y := y_Dr_pointY) (ci := 0) rfl rfl ⟨_, _, rfl⟩ (by decide +kernel) h_Dr_pointY wm_1991 wm_8 wm_1988 wm_1989 wm_1990 ⟨by decide, by decide, by decide +kernel⟩ (by decide)), List.forall_mem_cons.mpr ⟨cl_nopa (cl_virtual (y := y_Dr_pointY) (ci := 0) rfl rfl ⟨_, _, rfl⟩ (by decide +kernel) h_Dr_pointY wm_1991 wm_8 wm_1988 wm_1989 wm_1990 ⟨by decide, by decide, by decide +kernel⟩ (by decide)), List.forall_mem_nil _⟩⟩⟩⟩, List.forall_mem_nil _, List.forall_mem_nil _, GG_pl⟩ (by decide +kernel)
def n_Dr_isInBox_an : List an_T := []
def t_Dr_isInBox_ct : ct_L := [(1, 118, e_Gr_half), (27, 112, e_jMath_abs1_v21), (93, 112, e_jMath_abs1_v21)]
set_option maxRecDepth 100000 in
theorem c_Dr_isInBox {l : Launch} {D : va_G} {kA : Nat → ClassId} (h_Gr_half : ct_ok l D kA GG y_Gr_half z_Gr_half e_Gr_half) : ct_ok l D kA GG y_Dr_isInBox z_Dr_isInBox e_Dr_isInBox := chk_all_ok (FT := [(15, 0, 2), (19, 0, 3), (74, 0, 0)]) (PT := []) (CT := t_Dr_isInBox_ct) (KT := []) (NT := []) (AN := n_Dr_isInBox_an) (OT := []) 0 200 (List.forall_mem_nil _) (by decide +kernel) ⟨List.forall_mem_cons.mpr ⟨gf_Dr_15, List.forall_mem_cons.mpr ⟨gf_Dr_19, List.forall_mem_cons.mpr ⟨gf_Dr_74, List.forall_mem_nil _⟩⟩⟩, List.forall_mem_nil _, List.forall_mem_cons.mpr ⟨cl_virtual (y := y_Gr_half) (ci := 3) rfl rfl ⟨_, _, rfl⟩ (by decide +kernel) h_Gr_half wm_1452 wm_3 wm_2001 wm_1450 wm_1451 ⟨by decide, by decide, by decide +kernel⟩ (by decide), List.forall_mem_cons.mpr ⟨cl_static (y := y_jMath_abs1) c_jMath_abs1_v21 wm_1811 wm_10 wm_2000 wm_1810 ⟨by decide, by decide, by decide +kernel⟩ (by decide), List.forall_mem_cons.mpr ⟨cl_static (y := y_jMath_abs1) c_jMath_abs1_v21 wm_1811 wm_10 wm_2000 wm_1810 ⟨by decide, by decide, by decide +kernel⟩ (by decide), List.forall_mem_nil _⟩⟩⟩, List.forall_mem_nil _, List.forall_mem_nil _, GG_pl⟩ (by decide +kernel)
def n_Dr_leastTriangle_an : List an_T := [(6, [(0, (2, 0, 0, [0])), (1, (1, -1, 9223372034707292160, [])), (3, (0, 0, 48, []))], [], (0, 0), [(0, 0, 99994), (1, 2, 48), (0, 0, 100000), (0, 0, 0), (0, 0, 0)], [], [], [], 0, [], []), (42, [(0, (2, 0, 0, [0])), (1, (1, -1, 9223372034707292160, [])), (3, (0, 0, 47, [])), (4, (0, 0, 23, [])), (5, (0, 0, 23, [])), (6, (0, 0, 24, []))], [], (0, 0), [(0, 0, 99994), (1, 2, 48), (0, 0, 99958), (1, 5, 24), (0, 0, 100000)], [], [], [], 0, [], [])]
def t_Dr_leastTriangle_ct : ct_L := [(465, 220, e_jMath_abs2_v22), (528, 223, e_jMath_min2_v23)]
set_option maxRecDepth 100000 in
theorem c_Dr_leastTriangle {l : Launch} {D : va_G} {kA : Nat → ClassId} : ct_ok l D kA GG y_Dr_leastTriangle z_Dr_leastTriangle e_Dr_leastTriangle := chk_all_ok (FT := [(15, 0, 2), (19, 0, 3), (74, 0, 0), (106, 3, 7), (109, 3, 8), (141, 3, 0), (151, 3, 1), (217, 3, 14)]) (PT := []) (CT := t_Dr_leastTriangle_ct) (KT := [(2, 189, .long (-1), (1, -1, -1, []))]) (NT := []) (AN := n_Dr_leastTriangle_an) (OT := []) 5 444 (List.forall_mem_nil _) (by decide +kernel) ⟨List.forall_mem_cons.mpr ⟨gf_Dr_15, List.forall_mem_cons.mpr ⟨gf_Dr_19, List.forall_mem_cons.mpr ⟨gf_Dr_74, List.forall_mem_cons.mpr ⟨gf_Dr_106, List.forall_mem_cons.mpr ⟨gf_Dr_109, List.forall_mem_cons.mpr ⟨gf_Dr_141, List.forall_mem_cons.mpr ⟨gf_Dr_151, List.forall_mem_cons.mpr ⟨gf_Dr_217, List.forall_mem_nil _⟩⟩⟩⟩⟩⟩⟩⟩, List.forall_mem_nil _, List.forall_mem_cons.mpr ⟨cl_static (y := y_jMath_abs2) c_jMath_abs2_v22 wm_2082 wm_10 wm_2080 wm_2081 ⟨by decide, by decide, by decide +kernel⟩ (by decide), List.forall_mem_cons.mpr ⟨cl_static (y := y_jMath_min2) c_jMath_min2_v23 wm_1753 wm_10 wm_2083 wm_1752 ⟨by decide, by decide, by decide +kernel⟩ (by decide), List.forall_mem_nil _⟩⟩, List.forall_mem_cons.mpr ⟨⟨kt_mk2 wm_2079, fun _ => Or.inr (Or.inl ⟨rfl, _, rfl, by decide, by decide⟩)⟩, List.forall_mem_nil _⟩, List.forall_mem_nil _, GG_pl⟩ (by decide +kernel)
def n_Dr_move_an : List an_T := []
def t_Dr_move_ct : ct_L := [(1, 85, e_Gr_hasNode), (1, 91, e_Gr_hasEdge)]
set_option maxRecDepth 100000 in
theorem c_Dr_move {l : Launch} {D : va_G} {kA : Nat → ClassId} (h_Gr_hasEdge : ct_ok l D kA GG y_Gr_hasEdge z_Gr_hasEdge e_Gr_hasEdge) (h_Gr_hasNode : ct_ok l D kA GG y_Gr_hasNode z_Gr_hasNode e_Gr_hasNode) : ct_ok l D kA GG y_Dr_move z_Dr_move e_Dr_move := chk_all_ok (FT := [(9, 0, 1), (15, 0, 2), (19, 0, 3), (22, 0, 4), (25, 0, 5), (28, 0, 6), (74, 0, 0)]) (PT := []) (CT := t_Dr_move_ct) (KT := [(0, 104, .int (Int32.ofInt (-1000000)), (0, -1000000, -1000000, [])), (0, 105, .int (1000000), (0, 1000000, 1000000, []))]) (NT := []) (AN := n_Dr_move_an) (OT := []) 0 380 (List.forall_mem_nil _) (by decide +kernel) ⟨List.forall_mem_cons.mpr ⟨gf_Dr_9, List.forall_mem_cons.mpr ⟨gf_Dr_15, List.forall_mem_cons.mpr ⟨gf_Dr_19, List.forall_mem_cons.mpr ⟨gf_Dr_22, List.forall_mem_cons.mpr ⟨gf_Dr_25, List.forall_mem_cons.mpr ⟨gf_Dr_28, List.forall_mem_cons.mpr ⟨gf_Dr_74, List.forall_mem_nil _⟩⟩⟩⟩⟩⟩⟩, List.forall_mem_nil _, List.forall_mem_cons.mpr ⟨cl_virtual (y := y_Gr_hasNode) (ci := 3) rfl rfl ⟨_, _, rfl⟩ (by decide +kernel) h_Gr_hasNode wm_921 wm_3 wm_1822 wm_919 wm_920 ⟨by decide, by decide, by decide +kernel⟩ (by decide), List.forall_mem_cons.mpr ⟨cl_virtual (y := y_Gr_hasEdge) (ci := 3) rfl rfl ⟨_, _, rfl⟩ (by decide +kernel) h_Gr_hasEdge wm_930 wm_3 wm_1823 wm_928 wm_929 ⟨by decide, by decide, by decide +kernel⟩ (by decide), List.forall_mem_nil _⟩⟩, List.forall_mem_cons.mpr ⟨kx_Dr_0_104, List.forall_mem_cons.mpr ⟨kx_Dr_0_105, List.forall_mem_nil _⟩⟩, List.forall_mem_nil _, GG_pl⟩ (by decide +kernel)
def n_Dr_overlap_an : List an_T := []
def t_Dr_overlap_ct : ct_L := [(9, 157, e_jMath_max1_v17), (24, 157, e_jMath_max1_v17), (33, 154, e_jMath_min1_v24), (48, 154, e_jMath_min1_v24), (63, 154, e_jMath_min1_v24), (72, 157, e_jMath_max1_v17)]
set_option maxRecDepth 100000 in
theorem c_Dr_overlap {l : Launch} {D : va_G} {kA : Nat → ClassId} : ct_ok l D kA GG y_Dr_overlap z_Dr_overlap e_Dr_overlap := chk_all_ok (FT := []) (PT := []) (CT := t_Dr_overlap_ct) (KT := []) (NT := []) (AN := n_Dr_overlap_an) (OT := []) 0 200 (List.forall_mem_nil _) (by decide +kernel) ⟨List.forall_mem_nil _, List.forall_mem_nil _, List.forall_mem_cons.mpr ⟨cl_static (y := y_jMath_max1) c_jMath_max1_v17 wm_836 wm_10 wm_2025 wm_835 ⟨by decide, by decide, by decide +kernel⟩ (by decide), List.forall_mem_cons.mpr ⟨cl_static (y := y_jMath_max1) c_jMath_max1_v17 wm_836 wm_10 wm_2025 wm_835 ⟨by decide, by decide, by decide +kernel⟩ (by decide), List.forall_mem_cons.mpr ⟨cl_static (y := y_jMath_min1) c_jMath_min1_v24 wm_658 wm_10 wm_2026 wm_657 ⟨by decide, by decide, by decide +kernel⟩ (by decide), List.forall_mem_cons.mpr ⟨cl_static (y := y_jMath_min1) c_jMath_min1_v24 wm_658 wm_10 wm_2026 wm_657 ⟨by decide, by decide, by decide +kernel⟩ (by decide), List.forall_mem_cons.mpr ⟨cl_static (y := y_jMath_min1) c_jMath_min1_v24 wm_658 wm_10 wm_2026 wm_657 ⟨by decide, by decide, by decide +kernel⟩ (by decide), List.forall_mem_cons.mpr ⟨cl_static (y := y_jMath_max1) c_jMath_max1_v17 wm_836 wm_10 wm_2025 wm_835 ⟨by decide, by decide, by decide +kernel⟩ (by decide), List.forall_mem_nil _⟩⟩⟩⟩⟩⟩, List.forall_mem_nil _, List.forall_mem_nil _, GG_pl⟩ (by decide +kernel)
def n_Dr_reportArea_an : List an_T := []
def t_Dr_reportArea_ct : ct_L := [(1, 85, e_Gr_hasNode), (1, 101, e_Gr_hasGroup)]
set_option maxRecDepth 100000 in
theorem c_Dr_reportArea {l : Launch} {D : va_G} {kA : Nat → ClassId} (h_Gr_hasGroup : ct_ok l D kA GG y_Gr_hasGroup z_Gr_hasGroup e_Gr_hasGroup) (h_Gr_hasNode : ct_ok l D kA GG y_Gr_hasNode z_Gr_hasNode e_Gr_hasNode) : ct_ok l D kA GG y_Dr_reportArea z_Dr_reportArea e_Dr_reportArea := chk_all_ok (FT := [(50, 0, 13), (74, 0, 0)]) (PT := []) (CT := t_Dr_reportArea_ct) (KT := []) (NT := []) (AN := n_Dr_reportArea_an) (OT := []) 0 284 (List.forall_mem_nil _) (by decide +kernel) ⟨List.forall_mem_cons.mpr ⟨gf_Dr_50, List.forall_mem_cons.mpr ⟨gf_Dr_74, List.forall_mem_nil _⟩⟩, List.forall_mem_nil _, List.forall_mem_cons.mpr ⟨cl_virtual (y := y_Gr_hasNode) (ci := 3) rfl rfl ⟨_, _, rfl⟩ (by decide +kernel) h_Gr_hasNode wm_921 wm_3 wm_1822 wm_919 wm_920 ⟨by decide, by decide, by decide +kernel⟩ (by decide), List.forall_mem_cons.mpr ⟨cl_virtual (y := y_Gr_hasGroup) (ci := 3) rfl rfl ⟨_, _, rfl⟩ (by decide +kernel) h_Gr_hasGroup wm_942 wm_3 wm_1841 wm_940 wm_941 ⟨by decide, by decide, by decide +kernel⟩ (by decide), List.forall_mem_nil _⟩⟩, List.forall_mem_nil _, List.forall_mem_nil _, GG_pl⟩ (by decide +kernel)
def n_Dr_reportLayers_an : List an_T := []
def t_Dr_reportLayers_ct : ct_L := [(1, 85, e_Gr_hasNode), (1, 91, e_Gr_hasEdge)]
set_option maxRecDepth 100000 in
theorem c_Dr_reportLayers {l : Launch} {D : va_G} {kA : Nat → ClassId} (h_Gr_hasEdge : ct_ok l D kA GG y_Gr_hasEdge z_Gr_hasEdge e_Gr_hasEdge) (h_Gr_hasNode : ct_ok l D kA GG y_Gr_hasNode z_Gr_hasNode e_Gr_hasNode) : ct_ok l D kA GG y_Dr_reportLayers z_Dr_reportLayers e_Dr_reportLayers := chk_all_ok (FT := [(31, 0, 7), (34, 0, 8), (40, 0, 10), (43, 0, 11), (74, 0, 0)]) (PT := []) (CT := t_Dr_reportLayers_ct) (KT := []) (NT := []) (AN := n_Dr_reportLayers_an) (OT := []) 0 252 (List.forall_mem_nil _) (by decide +kernel) ⟨List.forall_mem_cons.mpr ⟨gf_Dr_31, List.forall_mem_cons.mpr ⟨gf_Dr_34, List.forall_mem_cons.mpr ⟨gf_Dr_40, List.forall_mem_cons.mpr ⟨gf_Dr_43, List.forall_mem_cons.mpr ⟨gf_Dr_74, List.forall_mem_nil _⟩⟩⟩⟩⟩, List.forall_mem_nil _, List.forall_mem_cons.mpr ⟨cl_virtual (y := y_Gr_hasNode) (ci := 3) rfl rfl ⟨_, _, rfl⟩ (by decide +kernel) h_Gr_hasNode wm_921 wm_3 wm_1822 wm_919 wm_920 ⟨by decide, by decide, by decide +kernel⟩ (by decide), List.forall_mem_cons.mpr ⟨cl_virtual (y := y_Gr_hasEdge) (ci := 3) rfl rfl ⟨_, _, rfl⟩ (by decide +kernel) h_Gr_hasEdge wm_930 wm_3 wm_1823 wm_928 wm_929 ⟨by decide, by decide, by decide +kernel⟩ (by decide), List.forall_mem_nil _⟩⟩, List.forall_mem_nil _, List.forall_mem_nil _, GG_pl⟩ (by decide +kernel)
def n_Dr_sideOf_an : List an_T := []
def t_Dr_sideOf_ct : ct_L := [(13, 128, e_Dr_pointX_np), (40, 134, e_Dr_pointY_np), (73, 128, e_Dr_pointX_np), (106, 134, e_Dr_pointY_np)]
set_option maxRecDepth 100000 in
theorem c_Dr_sideOf {l : Launch} {D : va_G} {kA : Nat → ClassId} (h_Dr_pointX : ct_ok l D kA GG y_Dr_pointX z_Dr_pointX e_Dr_pointX) (h_Dr_pointY : ct_ok l D kA GG y_Dr_pointY z_Dr_pointY e_Dr_pointY) : ct_ok l D kA GG y_Dr_sideOf z_Dr_sideOf e_Dr_sideOf := chk_all_ok (FT := []) (PT := []) (CT := t_Dr_sideOf_ct) (KT := []) (NT := []) (AN := n_Dr_sideOf_an) (OT := []) 0 200 (List.forall_mem_nil _) (by decide +kernel) ⟨List.forall_mem_nil _, List.forall_mem_nil _, List.forall_mem_cons.mpr ⟨cl_nopa (cl_virtual (y := y_Dr_pointX) (ci := 0) rfl rfl ⟨_, _, rfl⟩ (by decide +kernel) h_Dr_pointX wm_1986 wm_8 wm_1983 wm_1984 wm_1985 ⟨by decide, by decide, by decide +kernel⟩ (by decide)), List.forall_mem_cons.mpr ⟨cl_nopa (cl_virtual (y := y_Dr_pointY) (ci := 0) rfl rfl ⟨_, _, rfl⟩ (by decide +kernel) h_Dr_pointY wm_1991 wm_8 wm_1988 wm_1989 wm_1990 ⟨by decide, by decide, by decide +kernel⟩ (by decide)), List.forall_mem_cons.mpr ⟨cl_nopa (cl_virtual (y := y_Dr_pointX) (ci := 0) rfl rfl ⟨_, _, rfl⟩ (by decide +kernel) h_Dr_pointX wm_1986 wm_8 wm_1983 wm_1984 wm_1985 ⟨by decide, by decide, by decide +kernel⟩ (by decide)), List.forall_mem_cons.mpr ⟨cl_nopa (cl_virtual (y := y_Dr_pointY) (ci := 0) rfl rfl ⟨_, _, rfl⟩ (by decide +kernel) h_Dr_pointY wm_1991 wm_8 wm_1988 wm_1989 wm_1990 ⟨by decide, by decide, by decide +kernel⟩ (by decide)), List.forall_mem_nil _⟩⟩⟩⟩, List.forall_mem_nil _, List.forall_mem_nil _, GG_pl⟩ (by decide +kernel)
def n_Dr_take_an : List an_T := []
def t_Dr_take_ct : ct_L := [(21, 154, e_jMath_min1_v24), (57, 157, e_jMath_max1_v17), (93, 154, e_jMath_min1_v24), (129, 157, e_jMath_max1_v17)]
set_option maxRecDepth 100000 in
theorem c_Dr_take {l : Launch} {D : va_G} {kA : Nat → ClassId} : ct_ok l D kA GG y_Dr_take z_Dr_take e_Dr_take := chk_all_ok (FT := [(62, 0, 17), (65, 0, 18), (68, 0, 19), (71, 0, 20)]) (PT := [(62, 0, 17, .int), (65, 0, 18, .int), (68, 0, 19, .int), (71, 0, 20, .int)]) (CT := t_Dr_take_ct) (KT := []) (NT := []) (AN := n_Dr_take_an) (OT := []) 0 200 (List.forall_mem_nil _) (by decide +kernel) ⟨List.forall_mem_cons.mpr ⟨gf_Dr_62, List.forall_mem_cons.mpr ⟨gf_Dr_65, List.forall_mem_cons.mpr ⟨gf_Dr_68, List.forall_mem_cons.mpr ⟨gf_Dr_71, List.forall_mem_nil _⟩⟩⟩⟩, List.forall_mem_cons.mpr ⟨pf_Dr_62, List.forall_mem_cons.mpr ⟨pf_Dr_65, List.forall_mem_cons.mpr ⟨pf_Dr_68, List.forall_mem_cons.mpr ⟨pf_Dr_71, List.forall_mem_nil _⟩⟩⟩⟩, List.forall_mem_cons.mpr ⟨cl_static (y := y_jMath_min1) c_jMath_min1_v24 wm_658 wm_10 wm_2026 wm_657 ⟨by decide, by decide, by decide +kernel⟩ (by decide), List.forall_mem_cons.mpr ⟨cl_static (y := y_jMath_max1) c_jMath_max1_v17 wm_836 wm_10 wm_2025 wm_835 ⟨by decide, by decide, by decide +kernel⟩ (by decide), List.forall_mem_cons.mpr ⟨cl_static (y := y_jMath_min1) c_jMath_min1_v24 wm_658 wm_10 wm_2026 wm_657 ⟨by decide, by decide, by decide +kernel⟩ (by decide), List.forall_mem_cons.mpr ⟨cl_static (y := y_jMath_max1) c_jMath_max1_v17 wm_836 wm_10 wm_2025 wm_835 ⟨by decide, by decide, by decide +kernel⟩ (by decide), List.forall_mem_nil _⟩⟩⟩⟩, List.forall_mem_nil _, List.forall_mem_nil _, GG_pl⟩ (by decide +kernel)
def n_Em_joinBlocksAt_an : List an_T := [(5, [(0, (2, 0, 0, [1])), (1, (0, 0, 24, [])), (2, (0, 0, 72, [])), (3, (0, 0, 72, [])), (4, (0, 0, 72, []))], [], (0, 0), [(0, 0, 99995), (1, 4, 72), (0, 0, 100000), (0, 0, 0), (0, 0, 0)], [], [((0, 0), (2, 0, 0, [5, 149]))], [], 0, [], []), (27, [(0, (2, 0, 0, [1])), (1, (0, 0, 24, [])), (2, (0, 1, 72, [])), (3, (0, 0, 72, [])), (4, (0, 0, 71, [])), (5, (0, -1, 71, [])), (6, (0, -1, 71, [])), (7, (0, 0, 72, []))], [], (0, 0), [(0, 0, 99995), (1, 4, 72), (0, 0, 99973), (1, 3, 72), (0, 0, 100000)], [], [((0, 0), (2, 0, 0, [5, 149]))], [], 0, [], []), (122, [(0, (2, 0, 0, [1])), (1, (0, 0, 24, [])), (2, (0, 0, 72, [])), (3, (0, 0, 72, [])), (4, (0, 0, 72, []))], [], (0, 0), [(0, 0, 99878), (1, 4, 72), (0, 0, 100000), (0, 0, 0), (0, 0, 0)], [], [((0, 0), (2, 0, 0, [5, 149]))], [], 0, [], [])]
def t_Em_joinBlocksAt_ct : ct_L := [(1, 217, e_Ne_endAt), (1, 220, e_Em_leastEdgeAt)]
set_option maxRecDepth 100000 in
theorem c_Em_joinBlocksAt {l : Launch} {D : va_G} {kA : Nat → ClassId} (h_Em_leastEdgeAt : ct_ok l D kA GG y_Em_leastEdgeAt z_Em_leastEdgeAt e_Em_leastEdgeAt) (h_Ne_endAt : ct_ok l D kA GG y_Ne_endAt z_Ne_endAt e_Ne_endAt) : ct_ok l D kA GG y_Em_joinBlocksAt z_Em_joinBlocksAt e_Em_joinBlocksAt := chk_all_ok (FT := [(9, 1, 0), (54, 1, 12), (75, 1, 19), (223, 5, 12), (226, 5, 11)]) (PT := []) (CT := t_Em_joinBlocksAt_ct) (KT := []) (NT := []) (AN := n_Em_joinBlocksAt_an) (OT := []) 5 476 (List.forall_mem_nil _) (by decide +kernel) ⟨List.forall_mem_cons.mpr ⟨gf_Em_9, List.forall_mem_cons.mpr ⟨gf_Em_54, List.forall_mem_cons.mpr ⟨gf_Em_75, List.forall_mem_cons.mpr ⟨gf_Em_223, List.forall_mem_cons.mpr ⟨gf_Em_226, List.forall_mem_nil _⟩⟩⟩⟩⟩, List.forall_mem_nil _, List.forall_mem_cons.mpr ⟨cl_virtual (y := y_Ne_endAt) (ci := 5) rfl rfl ⟨_, _, rfl⟩ (by decide +kernel) h_Ne_endAt wm_1138 wm_6 wm_1135 wm_1136 wm_1137 ⟨by decide, by decide, by decide +kernel⟩ (by decide), List.forall_mem_cons.mpr ⟨cl_virtual (y := y_Em_leastEdgeAt) (ci := 1) rfl rfl ⟨_, _, rfl⟩ (by decide +kernel) h_Em_leastEdgeAt wm_1146 wm_5 wm_1143 wm_1145 wv_4_5 ⟨by decide, by decide, by decide +kernel⟩ (by decide), List.forall_mem_nil _⟩⟩, List.forall_mem_nil _, List.forall_mem_nil _, GG_pl⟩ (by decide +kernel)
def n_Em_turnByCycles_an : List an_T := [(2, [(0, (2, 0, 0, [1])), (1, (0, 0, 50, []))], [], (0, 0), [(0, 0, 99998), (1, 1, 50), (0, 0, 100000), (0, 0, 0), (0, 0, 0)], [], [((0, 0), (2, 0, 0, [5, 149]))], [], 0, [], []), (19, [(0, (2, 0, 0, [1])), (1, (0, 0, 49, [])), (2, (0, 0, 25, [])), (3, (0, 0, 25, []))], [], (0, 0), [(0, 0, 99998), (1, 1, 50), (0, 0, 99981), (1, 3, 25), (0, 0, 100000)], [], [((0, 0), (2, 0, 0, [5, 149]))], [], 0, [], [])]
def t_Em_turnByCycles_ct : ct_L := [(1, 176, e_Ne_edgeBetween), (1, 217, e_Ne_endAt)]
set_option maxRecDepth 100000 in
theorem c_Em_turnByCycles {l : Launch} {D : va_G} {kA : Nat → ClassId} (h_Ne_edgeBetween : ct_ok l D kA GG y_Ne_edgeBetween z_Ne_edgeBetween e_Ne_edgeBetween) (h_Ne_endAt : ct_ok l D kA GG y_Ne_endAt z_Ne_endAt e_Ne_endAt) : ct_ok l D kA GG y_Em_turnByCycles z_Em_turnByCycles e_Em_turnByCycles := chk_all_ok (FT := [(9, 1, 0), (39, 1, 7), (42, 1, 8), (45, 1, 9), (54, 1, 12)]) (PT := []) (CT := t_Em_turnByCycles_ct) (KT := []) (NT := []) (AN := n_Em_turnByCycles_an) (OT := []) 5 364 (List.forall_mem_nil _) (by decide +kernel) ⟨List.forall_mem_cons.mpr ⟨gf_Em_9, List.forall_mem_cons.mpr ⟨gf_Em_39, List.forall_mem_cons.mpr ⟨gf_Em_42, List.forall_mem_cons.mpr ⟨gf_Em_45, List.forall_mem_cons.mpr ⟨gf_Em_54, List.forall_mem_nil _⟩⟩⟩⟩⟩, List.forall_mem_nil _, List.forall_mem_cons.mpr ⟨cl_virtual (y := y_Ne_edgeBetween) (ci := 5) rfl rfl ⟨_, _, rfl⟩ (by decide +kernel) h_Ne_edgeBetween wm_1089 wm_6 wm_1086 wm_1087 wm_1088 ⟨by decide, by decide, by decide +kernel⟩ (by decide), List.forall_mem_cons.mpr ⟨cl_virtual (y := y_Ne_endAt) (ci := 5) rfl rfl ⟨_, _, rfl⟩ (by decide +kernel) h_Ne_endAt wm_1138 wm_6 wm_1135 wm_1136 wm_1137 ⟨by decide, by decide, by decide +kernel⟩ (by decide), List.forall_mem_nil _⟩⟩, List.forall_mem_nil _, List.forall_mem_nil _, GG_pl⟩ (by decide +kernel)
def n_Fa_costAhead_an : List an_T := [(17, [(0, (2, 0, 0, [2])), (1, (2, 0, 0, [3])), (2, (0, 0, 127, [])), (3, (0, 0, 6, [])), (4, (0, 2, 7, [])), (5, (0, -2147483648, 2147483647, [])), (6, (0, 0, 7, []))], [], (0, 0), [(0, 0, 99983), (1, 6, 7), (0, 0, 100000)], [], [], [], 0, [], [])]
def t_Fa_costAhead_ct : ct_L := [(0, 177, e_Fa_weightOf)]
set_option maxRecDepth 100000 in
theorem c_Fa_costAhead {l : Launch} {D : va_G} {kA : Nat → ClassId} (h_Fa_weightOf : ct_ok l D kA GG y_Fa_weightOf z_Fa_weightOf e_Fa_weightOf) : ct_ok l D kA GG y_Fa_costAhead z_Fa_costAhead e_Fa_costAhead := chk_all_ok (FT := [(54, 2, 13), (57, 2, 14)]) (PT := []) (CT := t_Fa_costAhead_ct) (KT := []) (NT := []) (AN := n_Fa_costAhead_an) (OT := []) 3 200 (List.forall_mem_nil _) (by decide +kernel) ⟨List.forall_mem_cons.mpr ⟨gf_Fa_54, List.forall_mem_cons.mpr ⟨gf_Fa_57, List.forall_mem_nil _⟩⟩, List.forall_mem_nil _, List.forall_mem_cons.mpr ⟨cl_static (y := y_Fa_weightOf) h_Fa_weightOf wm_912 wm_7 wm_910 wm_911 ⟨by decide, by decide, by decide +kernel⟩ (by decide), List.forall_mem_nil _⟩, List.forall_mem_nil _, List.forall_mem_nil _, GG_pl⟩ (by decide +kernel)
def n_Fa_learnCore_an : List an_T := [(11, [(0, (2, 0, 0, [2])), (1, (2, 0, 0, [3])), (2, (0, 0, 16777215, [])), (3, (0, 0, 24, []))], [], (0, 0), [(0, 0, 99989), (1, 3, 24), (0, 0, 100000), (0, 0, 0), (0, 0, 0)], [], [], [], 0, [], []), (27, [(0, (2, 0, 0, [2])), (1, (2, 0, 0, [3])), (2, (0, 0, 16777215, [])), (3, (0, 0, 23, [])), (4, (0, 0, 16777215, [])), (5, (0, 0, 25, []))], [], (0, 0), [(0, 0, 99989), (1, 3, 24), (0, 0, 99973), (1, 5, 25), (0, 0, 100000)], [], [], [], 0, [], [])]
def t_Fa_learnCore_ct : ct_L := [(1, 152, e_Fa_peel)]
set_option maxRecDepth 100000 in
theorem c_Fa_learnCore {l : Launch} {D : va_G} {kA : Nat → ClassId} (h_Fa_peel : ct_ok l D kA GG y_Fa_peel z_Fa_peel e_Fa_peel) : ct_ok l D kA GG y_Fa_learnCore z_Fa_learnCore e_Fa_learnCore := chk_all_ok (FT := [(64, 3, 0)]) (PT := []) (CT := t_Fa_learnCore_ct) (KT := []) (NT := []) (AN := n_Fa_learnCore_an) (OT := []) 5 200 (List.forall_mem_nil _) (by decide +kernel) ⟨List.forall_mem_cons.mpr ⟨gf_Fa_64, List.forall_mem_nil _⟩, List.forall_mem_nil _, List.forall_mem_cons.mpr ⟨cl_virtual (y := y_Fa_peel) (ci := 2) rfl rfl ⟨_, _, rfl⟩ (by decide +kernel) h_Fa_peel wm_867 wm_7 wm_864 wm_866 wv_2_4 ⟨by decide, by decide, by decide +kernel⟩ (by decide), List.forall_mem_nil _⟩, List.forall_mem_nil _, List.forall_mem_nil _, GG_pl⟩ (by decide +kernel)
def n_Fa_learnStrong_an : List an_T := [(10, [(0, (2, 0, 0, [2])), (1, (2, 0, 0, [3])), (2, (0, 0, 48, []))], [], (0, 0), [(0, 0, 99990), (1, 2, 48), (0, 0, 100000)], [], [], [], 0, [], [])]
def t_Fa_learnStrong_ct : ct_L := [(1, 148, e_Fa_numberStrong), (18, 139, e_jArr_fill1_v25)]
set_option maxRecDepth 100000 in
theorem c_Fa_learnStrong {l : Launch} {D : va_G} {kA : Nat → ClassId} (h_Fa_numberStrong : ct_ok l D kA GG y_Fa_numberStrong z_Fa_numberStrong e_Fa_numberStrong) : ct_ok l D kA GG y_Fa_learnStrong z_Fa_learnStrong e_Fa_learnStrong := chk_all_ok (FT := [(32, 2, 6), (45, 2, 10), (64, 3, 0), (69, 3, 1), (72, 3, 7), (75, 3, 8), (145, 3, 10)]) (PT := [(22, 2, 3, .int)]) (CT := t_Fa_learnStrong_ct) (KT := []) (NT := []) (AN := n_Fa_learnStrong_an) (OT := []) 3 240 (List.forall_mem_nil _) (by decide +kernel) ⟨List.forall_mem_cons.mpr ⟨gf_Fa_32, List.forall_mem_cons.mpr ⟨gf_Fa_45, List.forall_mem_cons.mpr ⟨gf_Fa_64, List.forall_mem_cons.mpr ⟨gf_Fa_69, List.forall_mem_cons.mpr ⟨gf_Fa_72, List.forall_mem_cons.mpr ⟨gf_Fa_75, List.forall_mem_cons.mpr ⟨gf_Fa_145, List.forall_mem_nil _⟩⟩⟩⟩⟩⟩⟩, List.forall_mem_cons.mpr ⟨pf_Fa_22, List.forall_mem_nil _⟩, List.forall_mem_cons.mpr ⟨cl_virtual (y := y_Fa_numberStrong) (ci := 2) rfl rfl ⟨_, _, rfl⟩ (by decide +kernel) h_Fa_numberStrong wm_859 wm_7 wm_856 wm_858 wv_2_2 ⟨by decide, by decide, by decide +kernel⟩ (by decide), List.forall_mem_cons.mpr ⟨cl_static (y := y_jArr_fill1) c_jArr_fill1_v25 wm_55 wm_4 wm_855 wm_54 ⟨by decide, by decide, by decide +kernel⟩ (by decide), List.forall_mem_nil _⟩⟩, List.forall_mem_nil _, List.forall_mem_nil _, GG_pl⟩ (by decide +kernel)
def n_Gr_relink_an : List an_T := [(18, [(0, (2, 0, 0, [3])), (1, (0, 0, 48, []))], [], (0, 0), [(0, 0, 99982), (1, 1, 48), (0, 0, 100000)], [], [], [], 0, [], [])]
def t_Gr_relink_ct : ct_L := [(1, 100, e_Gr_tie), (18, 71, e_jArr_fill1_v8), (42, 71, e_jArr_fill1_v9)]
set_option maxRecDepth 100000 in
theorem c_Gr_relink {l : Launch} {D : va_G} {kA : Nat → ClassId} (h_Gr_tie : ct_ok l D kA GG y_Gr_tie z_Gr_tie e_Gr_tie) : ct_ok l D kA GG y_Gr_relink z_Gr_relink e_Gr_relink := chk_all_ok (FT := [(15, 3, 1), (56, 3, 14), (59, 3, 15)]) (PT := []) (CT := t_Gr_relink_ct) (KT := []) (NT := []) (AN := n_Gr_relink_an) (OT := []) 3 200 (List.forall_mem_nil _) (by decide +kernel) ⟨List.forall_mem_cons.mpr ⟨gf_Gr_15, List.forall_mem_cons.mpr ⟨gf_Gr_56, List.forall_mem_cons.mpr ⟨gf_Gr_59, List.forall_mem_nil _⟩⟩⟩, List.forall_mem_nil _, List.forall_mem_cons.mpr ⟨cl_virtual (y := y_Gr_tie) (ci := 3) rfl rfl ⟨_, _, rfl⟩ (by decide +kernel) h_Gr_tie wm_776 wm_3 wm_773 wm_775 wv_1_11 ⟨by decide, by decide, by decide +kernel⟩ (by decide), List.forall_mem_cons.mpr ⟨cl_static (y := y_jArr_fill1) c_jArr_fill1_v8 wm_55 wm_4 wm_53 wm_54 ⟨by decide, by decide, by decide +kernel⟩ (by decide), List.forall_mem_cons.mpr ⟨cl_static (y := y_jArr_fill1) c_jArr_fill1_v9 wm_55 wm_4 wm_53 wm_54 ⟨by decide, by decide, by decide +kernel⟩ (by decide), List.forall_mem_nil _⟩⟩⟩, List.forall_mem_nil _, List.forall_mem_nil _, GG_pl⟩ (by decide +kernel)
def n_Ne_edgeAround_an : List an_T := [(33, [(0, (2, 0, 0, [5])), (1, (0, 0, 23, [])), (2, (0, 0, 62, [])), (3, (0, -1, 71, [])), (4, (0, 0, 62, []))], [], (0, 0), [(0, 0, 99967), (1, 4, 62), (0, 0, 100000)], [], [], [], 0, [], [])]
def t_Ne_edgeAround_ct : ct_L := [(1, 84, e_Ne_endAt), (48, 94, e_jInt_bitCount_v7)]
set_option maxRecDepth 100000 in
theorem c_Ne_edgeAround {l : Launch} {D : va_G} {kA : Nat → ClassId} (h_Ne_endAt : ct_ok l D kA GG y_Ne_endAt z_Ne_endAt e_Ne_endAt) : ct_ok l D kA GG y_Ne_edgeAround z_Ne_edgeAround e_Ne_edgeAround := chk_all_ok (FT := [(28, 5, 5), (40, 5, 9), (46, 5, 11), (49, 5, 12)]) (PT := []) (CT := t_Ne_edgeAround_ct) (KT := []) (NT := []) (AN := n_Ne_edgeAround_an) (OT := []) 3 200 (List.forall_mem_nil _) (by decide +kernel) ⟨List.forall_mem_cons.mpr ⟨gf_Ne_28, List.forall_mem_cons.mpr ⟨gf_Ne_40, List.forall_mem_cons.mpr ⟨gf_Ne_46, List.forall_mem_cons.mpr ⟨gf_Ne_49, List.forall_mem_nil _⟩⟩⟩⟩, List.forall_mem_nil _, List.forall_mem_cons.mpr ⟨cl_virtual (y := y_Ne_endAt) (ci := 5) rfl rfl ⟨_, _, rfl⟩ (by decide +kernel) h_Ne_endAt wm_1138 wm_6 wm_1151 wm_1136 wm_1137 ⟨by decide, by decide, by decide +kernel⟩ (by decide), List.forall_mem_cons.mpr ⟨cl_static (y := y_jInt_bitCount) c_jInt_bitCount_v7 wm_870 wm_17 wm_1177 wm_869 ⟨by decide, by decide, by decide +kernel⟩ (by decide), List.forall_mem_nil _⟩⟩, List.forall_mem_nil _, List.forall_mem_nil _, GG_pl⟩ (by decide +kernel)
def n_Ne_insertAhead_an : List an_T := [(6, [(0, (2, 0, 0, [5])), (1, (0, 0, 71, [])), (2, (0, 0, 23, [])), (3, (0, -1, 71, [])), (4, (0, -1, 71, [])), (5, (0, 0, 72, []))], [], (0, 0), [(0, 0, 99994), (1, 5, 72), (0, 0, 100000)], [], [], [], 0, [], [])]
def t_Ne_insertAhead_ct : ct_L := [(1, 84, e_Ne_endAt), (1, 87, e_Ne_insertBehind)]
set_option maxRecDepth 100000 in
theorem c_Ne_insertAhead {l : Launch} {D : va_G} {kA : Nat → ClassId} (h_Ne_endAt : ct_ok l D kA GG y_Ne_endAt z_Ne_endAt e_Ne_endAt) (h_Ne_insertBehind : ct_ok l D kA GG y_Ne_insertBehind z_Ne_insertBehind e_Ne_insertBehind) : ct_ok l D kA GG y_Ne_insertAhead z_Ne_insertAhead e_Ne_insertAhead := chk_all_ok (FT := [(31, 5, 6), (46, 5, 11)]) (PT := []) (CT := t_Ne_insertAhead_ct) (KT := []) (NT := []) (AN := n_Ne_insertAhead_an) (OT := []) 3 264 (List.forall_mem_nil _) (by decide +kernel) ⟨List.forall_mem_cons.mpr ⟨gf_Ne_31, List.forall_mem_cons.mpr ⟨gf_Ne_46, List.forall_mem_nil _⟩⟩, List.forall_mem_nil _, List.forall_mem_cons.mpr ⟨cl_virtual (y := y_Ne_endAt) (ci := 5) rfl rfl ⟨_, _, rfl⟩ (by decide +kernel) h_Ne_endAt wm_1138 wm_6 wm_1151 wm_1136 wm_1137 ⟨by decide, by decide, by decide +kernel⟩ (by decide), List.forall_mem_cons.mpr ⟨cl_virtual (y := y_Ne_insertBehind) (ci := 5) rfl rfl ⟨_, _, rfl⟩ (by decide +kernel) h_Ne_insertBehind wm_1530 wm_6 wm_1527 wm_1528 wm_1529 ⟨by decide, by decide, by decide +kernel⟩ (by decide), List.forall_mem_nil _⟩⟩, List.forall_mem_nil _, List.forall_mem_nil _, GG_pl⟩ (by decide +kernel)
def o_Pl_gatherItems_0 : or_T := (9, 6, [(0, (2, 0, 0, [6])), (1, (0, 0, 7, [])), (3, (0, 0, 0, [])), (4, (0, 1, 1, [])), (5, (0, 1, 8, []))], [(1, [5, 1, 4], []), (101, [0, 3], [11])], [], [], [(20, [0, 5], [30, 0, 1, 1, 11, -1, 0, 0])], [], [(5, 1, 1, 1)])
theorem oo_Pl_gatherItems_0 {kA : Nat → ClassId} : or_ok kA GG o_Pl_gatherItems_0 := by
  intro A ta ws vs hD hth hl hk hds hf
  have hl : vs.length = 6 := hl
  have hk : ∀ q ∈ ([(0, (2, 0, 0, [6])), (1, (0, 0, 7, [])), (3, (0, 0, 0, [])), (4, (0, 1, 1, [])), (5, (0, 1, 8, []))] : List (Nat × tv_T)), tv_ok ta q.2 (n_v vs q.1) := hk
  obtain ⟨t0, hk⟩ := List.forall_mem_cons.mp hk
  have t0 : tv_ok ta (2, 0, 0, [6]) (n_v vs 0) := t0
  have r0 : ta (v_ad (n_v vs 0)) = some 6 := tv_rg t0
  obtain ⟨t1, hk⟩ := List.forall_mem_cons.mp hk
  have t1 : tv_ok ta (0, 0, 7, []) (n_v vs 1) := t1
  have k1 : 0 ≤ v_iv (n_v vs 1) ∧ v_iv (n_v vs 1) ≤ 7 := tv_rng t1
  obtain ⟨t3, hk⟩ := List.forall_mem_cons.mp hk
  have t3 : tv_ok ta (0, 0, 0, []) (n_v vs 3) := t3
  have k3 : 0 ≤ v_iv (n_v vs 3) ∧ v_iv (n_v vs 3) ≤ 0 := tv_rng t3
  obtain ⟨t4, hk⟩ := List.forall_mem_cons.mp hk
  have t4 : tv_ok ta (0, 1, 1, []) (n_v vs 4) := t4
  have k4 : 1 ≤ v_iv (n_v vs 4) ∧ v_iv (n_v vs 4) ≤ 1 := tv_rng t4
  obtain ⟨t5, hk⟩ := List.forall_mem_cons.mp hk
  have t5 : tv_ok ta (0, 1, 8, []) (n_v vs 5) := t5
  have k5 : 1 ≤ v_iv (n_v vs 5) ∧ v_iv (n_v vs 5) ≤ 8 := tv_rng t5
  have hds : ∀ q ∈ ([(5, 1, 1, 1)] : List of_T), n_iv vs q.2.1 + q.2.2.1 ≤ n_iv vs q.1 ∧ n_iv vs q.1 ≤ n_iv vs q.2.1 + q.2.2.2 := hds
  obtain ⟨d0, hds⟩ := List.forall_mem_cons.mp hds
  have d0 : v_iv (n_v vs 1) + 1 ≤ v_iv (n_v vs 5) ∧ v_iv (n_v vs 5) ≤ v_iv (n_v vs 1) + 1 := d0
  have hf : fc_ok [(1, [5, 1, 4], []), (101, [0, 3], [11])] ta ws vs := hf
  obtain ⟨f0, hf⟩ := fc_un (show (1 : Nat) < 100 from by decide) hf
  have f0 : v_iv (n_v vs 5) = v_iv (n_v vs 1) + v_iv (n_v vs 4) := f0
  obtain ⟨ta1, w1, le1, ⟨_, s1⟩, hf⟩ := fc_us (show ¬ (101 : Nat) < 100 from by decide) hf
  have s1 : (∀ b j, w_el ws b j = w_el w1 b j) ∧ ∀ b j, w_fd ws b j = if b = v_ad (n_v vs 0) ∧ j = 11 then n_v vs 3 else w_fd w1 b j := s1
  have fe_0_11_1 : w_fi ws (n_v vs 0) 11 = v_iv (n_v vs 3) := by show v_iv (w_fd _ _ _) = _; rw [s1.2, if_pos ⟨rfl, rfl⟩]
  have kz_0_11 : 0 ≤ w_fi ws (n_v vs 0) 11 ∧ w_fi ws (n_v vs 0) 11 ≤ 32 := tv_rng (th_fd hD hth r0 (g := GG_6) rfl (k := 11) (t := (0, 0, 32, [])) rfl rfl)
  have nf0 : fc_1 (20, [0, 5], [30, 0, 1, 1, 11, -1, 0, 0]) ws (vs) := by
    refine ⟨fun n hn => ?_, ?_⟩
    · have hn : n ∈ [0, 5] := hn
      rw [hl]
      simp only [List.mem_cons, List.not_mem_nil, or_false] at hn
      show n < 6; omega
    · show 1 * w_fi ws (n_v vs 0) 11 + ((-1) * v_iv (n_v vs 5) + 0) ≤ 0
      omega
  refine ⟨(fun _ h => (by cases h)), [], trivial, ?_, (fun _ h => (by cases h))⟩
  rw [List.append_nil]
  exact List.forall_mem_cons.mpr ⟨⟨show (20 : Nat) < 100 from by decide, nf0⟩, (fun _ h => (by cases h))⟩
def o_Pl_gatherItems_1 : or_T := (57, 6, [(0, (2, 0, 0, [6])), (2, (0, 1, 8, [])), (3, (2, 0, 0, [3])), (4, (0, 0, 8, [])), (5, (0, 0, 0, []))], [(7, [2, 4], [3]), (9, [4, 3], [2]), (20, [0, 2], [30, 0, 1, 1, 11, -1, 0, 0])], [], [], [(20, [0, 5], [30, 8, 1, 1, 11, -1, 0, 0])], [], [(2, 4, 0, 4294967296)])
theorem oo_Pl_gatherItems_1 {kA : Nat → ClassId} : or_ok kA GG o_Pl_gatherItems_1 := by
  intro A ta ws vs hD hth hl hk hds hf
  have hl : vs.length = 6 := hl
  have hk : ∀ q ∈ ([(0, (2, 0, 0, [6])), (2, (0, 1, 8, [])), (3, (2, 0, 0, [3])), (4, (0, 0, 8, [])), (5, (0, 0, 0, []))] : List (Nat × tv_T)), tv_ok ta q.2 (n_v vs q.1) := hk
  obtain ⟨t0, hk⟩ := List.forall_mem_cons.mp hk
  have t0 : tv_ok ta (2, 0, 0, [6]) (n_v vs 0) := t0
  have r0 : ta (v_ad (n_v vs 0)) = some 6 := tv_rg t0
  obtain ⟨t2, hk⟩ := List.forall_mem_cons.mp hk
  have t2 : tv_ok ta (0, 1, 8, []) (n_v vs 2) := t2
  have k2 : 1 ≤ v_iv (n_v vs 2) ∧ v_iv (n_v vs 2) ≤ 8 := tv_rng t2
  obtain ⟨t3, hk⟩ := List.forall_mem_cons.mp hk
  have t3 : tv_ok ta (2, 0, 0, [3]) (n_v vs 3) := t3
  have r3 : ta (v_ad (n_v vs 3)) = some 3 := tv_rg t3
  obtain ⟨t4, hk⟩ := List.forall_mem_cons.mp hk
  have t4 : tv_ok ta (0, 0, 8, []) (n_v vs 4) := t4
  have k4 : 0 ≤ v_iv (n_v vs 4) ∧ v_iv (n_v vs 4) ≤ 8 := tv_rng t4
  obtain ⟨t5, hk⟩ := List.forall_mem_cons.mp hk
  have t5 : tv_ok ta (0, 0, 0, []) (n_v vs 5) := t5
  have k5 : 0 ≤ v_iv (n_v vs 5) ∧ v_iv (n_v vs 5) ≤ 0 := tv_rng t5
  have hds : ∀ q ∈ ([(2, 4, 0, 4294967296)] : List of_T), n_iv vs q.2.1 + q.2.2.1 ≤ n_iv vs q.1 ∧ n_iv vs q.1 ≤ n_iv vs q.2.1 + q.2.2.2 := hds
  obtain ⟨d0, hds⟩ := List.forall_mem_cons.mp hds
  have d0 : v_iv (n_v vs 4) + 0 ≤ v_iv (n_v vs 2) ∧ v_iv (n_v vs 2) ≤ v_iv (n_v vs 4) + 4294967296 := d0
  have hf : fc_ok [(7, [2, 4], [3]), (9, [4, 3], [2]), (20, [0, 2], [30, 0, 1, 1, 11, -1, 0, 0])] ta ws vs := hf
  obtain ⟨f0, hf⟩ := fc_un (show (7 : Nat) < 100 from by decide) hf
  have f0 : v_iv (n_v vs 4) ≤ v_iv (n_v vs 2) := f0
  obtain ⟨f1, hf⟩ := fc_un (show (9 : Nat) < 100 from by decide) hf
  have f1 : n_v vs 4 = w_fd ws (v_ad (n_v vs 3)) 2 := f1
  obtain ⟨f2, hf⟩ := fc_un (show (20 : Nat) < 100 from by decide) hf
  have f2 : 1 * w_fi ws (n_v vs 0) 11 + ((-1) * v_iv (n_v vs 2) + 0) ≤ 0 := f2
  have g1 : v_iv (n_v vs 4) = w_fi ws (n_v vs 3) 2 := congrArg v_iv f1
  have kz_0_11 : 0 ≤ w_fi ws (n_v vs 0) 11 ∧ w_fi ws (n_v vs 0) 11 ≤ 32 := tv_rng (th_fd hD hth r0 (g := GG_6) rfl (k := 11) (t := (0, 0, 32, [])) rfl rfl)
  have kz_3_2 : 0 ≤ w_fi ws (n_v vs 3) 2 ∧ w_fi ws (n_v vs 3) 2 ≤ 8 := tv_rng (th_fd hD hth r3 (g := GG_3) rfl (k := 2) (t := (0, 0, 8, [])) rfl rfl)
  have nf0 : fc_1 (20, [0, 5], [30, 8, 1, 1, 11, -1, 0, 0]) ws (vs) := by
    refine ⟨fun n hn => ?_, ?_⟩
    · have hn : n ∈ [0, 5] := hn
      rw [hl]
      simp only [List.mem_cons, List.not_mem_nil, or_false] at hn
      show n < 6; omega
    · show 1 * w_fi ws (n_v vs 0) 11 + ((-1) * v_iv (n_v vs 5) + 0) ≤ 8
      omega
  refine ⟨(fun _ h => (by cases h)), [], trivial, ?_, (fun _ h => (by cases h))⟩
  rw [List.append_nil]
  exact List.forall_mem_cons.mpr ⟨⟨show (20 : Nat) < 100 from by decide, nf0⟩, (fun _ h => (by cases h))⟩
def o_Pl_gatherItems_2 : or_T := (9, 8, [(0, (2, 0, 0, [6])), (2, (0, 1, 7, [])), (3, (2, 0, 0, [3])), (4, (0, 2, 8, [])), (7, (0, 2, 8, []))], [(6, [7, 2], [1]), (7, [2, 4], [2]), (9, [4, 3], [2]), (20, [0, 2], [30, 0, 1, 1, 11, -1, 0, 0])], [], [], [(20, [0, 7], [30, 0, 1, 1, 11, -1, 0, 0])], [], [(7, 2, 1, 1), (7, 4, -4294967296, 0), (2, 4, -4294967296, -1)])
theorem oo_Pl_gatherItems_2 {kA : Nat → ClassId} : or_ok kA GG o_Pl_gatherItems_2 := by
  intro A ta ws vs hD hth hl hk hds hf
  have hl : vs.length = 8 := hl
  have hk : ∀ q ∈ ([(0, (2, 0, 0, [6])), (2, (0, 1, 7, [])), (3, (2, 0, 0, [3])), (4, (0, 2, 8, [])), (7, (0, 2, 8, []))] : List (Nat × tv_T)), tv_ok ta q.2 (n_v vs q.1) := hk
  obtain ⟨t0, hk⟩ := List.forall_mem_cons.mp hk
  have t0 : tv_ok ta (2, 0, 0, [6]) (n_v vs 0) := t0
  have r0 : ta (v_ad (n_v vs 0)) = some 6 := tv_rg t0
  obtain ⟨t2, hk⟩ := List.forall_mem_cons.mp hk
  have t2 : tv_ok ta (0, 1, 7, []) (n_v vs 2) := t2
  have k2 : 1 ≤ v_iv (n_v vs 2) ∧ v_iv (n_v vs 2) ≤ 7 := tv_rng t2
  obtain ⟨t3, hk⟩ := List.forall_mem_cons.mp hk
  have t3 : tv_ok ta (2, 0, 0, [3]) (n_v vs 3) := t3
  have r3 : ta (v_ad (n_v vs 3)) = some 3 := tv_rg t3
  obtain ⟨t4, hk⟩ := List.forall_mem_cons.mp hk
  have t4 : tv_ok ta (0, 2, 8, []) (n_v vs 4) := t4
  have k4 : 2 ≤ v_iv (n_v vs 4) ∧ v_iv (n_v vs 4) ≤ 8 := tv_rng t4
  obtain ⟨t7, hk⟩ := List.forall_mem_cons.mp hk
  have t7 : tv_ok ta (0, 2, 8, []) (n_v vs 7) := t7
  have k7 : 2 ≤ v_iv (n_v vs 7) ∧ v_iv (n_v vs 7) ≤ 8 := tv_rng t7
  have hds : ∀ q ∈ ([(7, 2, 1, 1), (7, 4, -4294967296, 0), (2, 4, -4294967296, -1)] : List of_T), n_iv vs q.2.1 + q.2.2.1 ≤ n_iv vs q.1 ∧ n_iv vs q.1 ≤ n_iv vs q.2.1 + q.2.2.2 := hds
  obtain ⟨d0, hds⟩ := List.forall_mem_cons.mp hds
  have d0 : v_iv (n_v vs 2) + 1 ≤ v_iv (n_v vs 7) ∧ v_iv (n_v vs 7) ≤ v_iv (n_v vs 2) + 1 := d0
  obtain ⟨d1, hds⟩ := List.forall_mem_cons.mp hds
  have d1 : v_iv (n_v vs 4) + (-4294967296) ≤ v_iv (n_v vs 7) ∧ v_iv (n_v vs 7) ≤ v_iv (n_v vs 4) + 0 := d1
  obtain ⟨d2, hds⟩ := List.forall_mem_cons.mp hds
  have d2 : v_iv (n_v vs 4) + (-4294967296) ≤ v_iv (n_v vs 2) ∧ v_iv (n_v vs 2) ≤ v_iv (n_v vs 4) + (-1) := d2
  have hf : fc_ok [(6, [7, 2], [1]), (7, [2, 4], [2]), (9, [4, 3], [2]), (20, [0, 2], [30, 0, 1, 1, 11, -1, 0, 0])] ta ws vs := hf
  obtain ⟨f0, hf⟩ := fc_un (show (6 : Nat) < 100 from by decide) hf
  have f0 : v_iv (n_v vs 7) = v_iv (n_v vs 2) + 1 := f0
  obtain ⟨f1, hf⟩ := fc_un (show (7 : Nat) < 100 from by decide) hf
  have f1 : v_iv (n_v vs 2) < v_iv (n_v vs 4) := f1
  obtain ⟨f2, hf⟩ := fc_un (show (9 : Nat) < 100 from by decide) hf
  have f2 : n_v vs 4 = w_fd ws (v_ad (n_v vs 3)) 2 := f2
  obtain ⟨f3, hf⟩ := fc_un (show (20 : Nat) < 100 from by decide) hf
  have f3 : 1 * w_fi ws (n_v vs 0) 11 + ((-1) * v_iv (n_v vs 2) + 0) ≤ 0 := f3
  have g2 : v_iv (n_v vs 4) = w_fi ws (n_v vs 3) 2 := congrArg v_iv f2
  have kz_0_11 : 0 ≤ w_fi ws (n_v vs 0) 11 ∧ w_fi ws (n_v vs 0) 11 ≤ 32 := tv_rng (th_fd hD hth r0 (g := GG_6) rfl (k := 11) (t := (0, 0, 32, [])) rfl rfl)
  have kz_3_2 : 0 ≤ w_fi ws (n_v vs 3) 2 ∧ w_fi ws (n_v vs 3) 2 ≤ 8 := tv_rng (th_fd hD hth r3 (g := GG_3) rfl (k := 2) (t := (0, 0, 8, [])) rfl rfl)
  have nf0 : fc_1 (20, [0, 7], [30, 0, 1, 1, 11, -1, 0, 0]) ws (vs) := by
    refine ⟨fun n hn => ?_, ?_⟩
    · have hn : n ∈ [0, 7] := hn
      rw [hl]
      simp only [List.mem_cons, List.not_mem_nil, or_false] at hn
      show n < 8; omega
    · show 1 * w_fi ws (n_v vs 0) 11 + ((-1) * v_iv (n_v vs 7) + 0) ≤ 0
      omega
  refine ⟨(fun _ h => (by cases h)), [], trivial, ?_, (fun _ h => (by cases h))⟩
  rw [List.append_nil]
  exact List.forall_mem_cons.mpr ⟨⟨show (20 : Nat) < 100 from by decide, nf0⟩, (fun _ h => (by cases h))⟩
def o_Pl_gatherItems_3 : or_T := (46, 10, [(0, (2, 0, 0, [6])), (2, (0, 1, 7, [])), (3, (2, 0, 0, [3])), (4, (0, 2, 8, []))], [(7, [2, 4], [2]), (9, [4, 3], [2]), (20, [0, 2], [30, 0, 1, 1, 11, -1, 0, 0])], [], [(0, 0, 31, [])], [(20, [0, 10], [30, 0, 1, 1, 11, -1, 0, 0]), (23, [10, 2], [0, 1, -1])], [], [(2, 4, -4294967296, -1)])
theorem oo_Pl_gatherItems_3 {kA : Nat → ClassId} : or_ok kA GG o_Pl_gatherItems_3 := by
  intro A ta ws vs hD hth hl hk hds hf
  have hl : vs.length = 10 := hl
  have hk : ∀ q ∈ ([(0, (2, 0, 0, [6])), (2, (0, 1, 7, [])), (3, (2, 0, 0, [3])), (4, (0, 2, 8, []))] : List (Nat × tv_T)), tv_ok ta q.2 (n_v vs q.1) := hk
  obtain ⟨t0, hk⟩ := List.forall_mem_cons.mp hk
  have t0 : tv_ok ta (2, 0, 0, [6]) (n_v vs 0) := t0
  have r0 : ta (v_ad (n_v vs 0)) = some 6 := tv_rg t0
  obtain ⟨t2, hk⟩ := List.forall_mem_cons.mp hk
  have t2 : tv_ok ta (0, 1, 7, []) (n_v vs 2) := t2
  have k2 : 1 ≤ v_iv (n_v vs 2) ∧ v_iv (n_v vs 2) ≤ 7 := tv_rng t2
  obtain ⟨t3, hk⟩ := List.forall_mem_cons.mp hk
  have t3 : tv_ok ta (2, 0, 0, [3]) (n_v vs 3) := t3
  have r3 : ta (v_ad (n_v vs 3)) = some 3 := tv_rg t3
  obtain ⟨t4, hk⟩ := List.forall_mem_cons.mp hk
  have t4 : tv_ok ta (0, 2, 8, []) (n_v vs 4) := t4
  have k4 : 2 ≤ v_iv (n_v vs 4) ∧ v_iv (n_v vs 4) ≤ 8 := tv_rng t4
  have hds : ∀ q ∈ ([(2, 4, -4294967296, -1)] : List of_T), n_iv vs q.2.1 + q.2.2.1 ≤ n_iv vs q.1 ∧ n_iv vs q.1 ≤ n_iv vs q.2.1 + q.2.2.2 := hds
  obtain ⟨d0, hds⟩ := List.forall_mem_cons.mp hds
  have d0 : v_iv (n_v vs 4) + (-4294967296) ≤ v_iv (n_v vs 2) ∧ v_iv (n_v vs 2) ≤ v_iv (n_v vs 4) + (-1) := d0
  have hf : fc_ok [(7, [2, 4], [2]), (9, [4, 3], [2]), (20, [0, 2], [30, 0, 1, 1, 11, -1, 0, 0])] ta ws vs := hf
  obtain ⟨f0, hf⟩ := fc_un (show (7 : Nat) < 100 from by decide) hf
  have f0 : v_iv (n_v vs 2) < v_iv (n_v vs 4) := f0
  obtain ⟨f1, hf⟩ := fc_un (show (9 : Nat) < 100 from by decide) hf
  have f1 : n_v vs 4 = w_fd ws (v_ad (n_v vs 3)) 2 := f1
  obtain ⟨f2, hf⟩ := fc_un (show (20 : Nat) < 100 from by decide) hf
  have f2 : 1 * w_fi ws (n_v vs 0) 11 + ((-1) * v_iv (n_v vs 2) + 0) ≤ 0 := f2
  have g1 : v_iv (n_v vs 4) = w_fi ws (n_v vs 3) 2 := congrArg v_iv f1
  have kz_0_11 : 0 ≤ w_fi ws (n_v vs 0) 11 ∧ w_fi ws (n_v vs 0) 11 ≤ 32 := tv_rng (th_fd hD hth r0 (g := GG_6) rfl (k := 11) (t := (0, 0, 32, [])) rfl rfl)
  have kz_3_2 : 0 ≤ w_fi ws (n_v vs 3) 2 ∧ w_fi ws (n_v vs 3) 2 ≤ 8 := tv_rng (th_fd hD hth r3 (g := GG_3) rfl (k := 2) (t := (0, 0, 8, [])) rfl rfl)
  have kv0 : 0 ≤ w_fi ws (n_v vs 0) 11 ∧ w_fi ws (n_v vs 0) 11 ≤ 32 := tv_rng (th_fd hD hth r0 (g := GG_6) rfl (k := 11) (t := (0, 0, 32, [])) rfl rfl)
  obtain ⟨x, ex, hx⟩ := iv_ex (ta := ta) (lo := 0) (hi := 31) (z := w_fi ws (n_v vs 0) 11) (by omega) (by omega) (by omega) (by omega)
  have ex2 : v_iv (Value.int x) = w_fi ws (n_v vs 0) 11 := ex
  have ex3 : 0 ≤ v_iv (Value.int x) ∧ v_iv (Value.int x) ≤ 31 := tv_rng hx
  have e_0 : n_v (vs ++ [Value.int x]) 0 = n_v vs 0 := n_v_old (by rw [hl]; decide)
  have e_2 : n_v (vs ++ [Value.int x]) 2 = n_v vs 2 := n_v_old (by rw [hl]; decide)
  have e_10 : n_v (vs ++ [Value.int x]) 10 = Value.int x := n_v_new hl
  have nf0 : fc_1 (20, [0, 10], [30, 0, 1, 1, 11, -1, 0, 0]) ws (vs ++ [Value.int x]) := by
    refine ⟨fun n hn => ?_, ?_⟩
    · have hn : n ∈ [0, 10] := hn
      rw [List.length_append, hl]
      simp only [List.mem_cons, List.not_mem_nil, or_false] at hn
      show n < 10 + 1; omega
    · show 1 * w_fi ws (n_v (vs ++ [Value.int x]) 0) 11 + ((-1) * v_iv (n_v (vs ++ [Value.int x]) 10) + 0) ≤ 0
      rw [e_0]
      rw [e_10]
      omega
  have nf1 : fc_1 (23, [10, 2], [0, 1, -1]) ws (vs ++ [Value.int x]) := by
    refine ⟨fun n hn => ?_, ?_⟩
    · have hn : n ∈ [10, 2] := hn
      rw [List.length_append, hl]
      simp only [List.mem_cons, List.not_mem_nil, or_false] at hn
      show n < 10 + 1; omega
    · show 1 * v_iv (n_v (vs ++ [Value.int x]) 10) + ((-1) * v_iv (n_v (vs ++ [Value.int x]) 2) + 0) ≤ 0
      rw [e_2]
      rw [e_10]
      omega
  exact ⟨(fun _ h => (by cases h)), [Value.int x], ag_one hx, List.forall_mem_cons.mpr ⟨⟨show (20 : Nat) < 100 from by decide, nf0⟩, List.forall_mem_cons.mpr ⟨⟨show (23 : Nat) < 100 from by decide, nf1⟩, (fun _ h => (by cases h))⟩⟩, (fun _ h => (by cases h))⟩
def o_Pl_gatherItems_4 : or_T := (9, 12, [(0, (2, 0, 0, [6])), (2, (0, 1, 7, [])), (4, (0, 2, 8, [])), (10, (0, 0, 31, [])), (11, (0, 2, 8, []))], [(6, [11, 2], [1]), (23, [10, 2], [0, 1, -1]), (20, [0, 10], [30, 1, 1, 1, 11, -1, 0, 0]), (102, [10], [118842243771396506390315925504, 6011]), (23, [10, 2], [0, 1, -1]), (7, [2, 4], [2])], [], [], [(20, [0, 11], [30, 0, 1, 1, 11, -1, 0, 0])], [], [(11, 2, 1, 1), (11, 4, -4294967296, 0), (2, 4, -4294967296, -1)])
theorem oo_Pl_gatherItems_4 {kA : Nat → ClassId} : or_ok kA GG o_Pl_gatherItems_4 := by
  intro A ta ws vs hD hth hl hk hds hf
  have hl : vs.length = 12 := hl
  have hk : ∀ q ∈ ([(0, (2, 0, 0, [6])), (2, (0, 1, 7, [])), (4, (0, 2, 8, [])), (10, (0, 0, 31, [])), (11, (0, 2, 8, []))] : List (Nat × tv_T)), tv_ok ta q.2 (n_v vs q.1) := hk
  obtain ⟨t0, hk⟩ := List.forall_mem_cons.mp hk
  have t0 : tv_ok ta (2, 0, 0, [6]) (n_v vs 0) := t0
  have r0 : ta (v_ad (n_v vs 0)) = some 6 := tv_rg t0
  obtain ⟨t2, hk⟩ := List.forall_mem_cons.mp hk
  have t2 : tv_ok ta (0, 1, 7, []) (n_v vs 2) := t2
  have k2 : 1 ≤ v_iv (n_v vs 2) ∧ v_iv (n_v vs 2) ≤ 7 := tv_rng t2
  obtain ⟨t4, hk⟩ := List.forall_mem_cons.mp hk
  have t4 : tv_ok ta (0, 2, 8, []) (n_v vs 4) := t4
  have k4 : 2 ≤ v_iv (n_v vs 4) ∧ v_iv (n_v vs 4) ≤ 8 := tv_rng t4
  obtain ⟨t10, hk⟩ := List.forall_mem_cons.mp hk
  have t10 : tv_ok ta (0, 0, 31, []) (n_v vs 10) := t10
  have k10 : 0 ≤ v_iv (n_v vs 10) ∧ v_iv (n_v vs 10) ≤ 31 := tv_rng t10
  obtain ⟨t11, hk⟩ := List.forall_mem_cons.mp hk
  have t11 : tv_ok ta (0, 2, 8, []) (n_v vs 11) := t11
  have k11 : 2 ≤ v_iv (n_v vs 11) ∧ v_iv (n_v vs 11) ≤ 8 := tv_rng t11
  have hds : ∀ q ∈ ([(11, 2, 1, 1), (11, 4, -4294967296, 0), (2, 4, -4294967296, -1)] : List of_T), n_iv vs q.2.1 + q.2.2.1 ≤ n_iv vs q.1 ∧ n_iv vs q.1 ≤ n_iv vs q.2.1 + q.2.2.2 := hds
  obtain ⟨d0, hds⟩ := List.forall_mem_cons.mp hds
  have d0 : v_iv (n_v vs 2) + 1 ≤ v_iv (n_v vs 11) ∧ v_iv (n_v vs 11) ≤ v_iv (n_v vs 2) + 1 := d0
  obtain ⟨d1, hds⟩ := List.forall_mem_cons.mp hds
  have d1 : v_iv (n_v vs 4) + (-4294967296) ≤ v_iv (n_v vs 11) ∧ v_iv (n_v vs 11) ≤ v_iv (n_v vs 4) + 0 := d1
  obtain ⟨d2, hds⟩ := List.forall_mem_cons.mp hds
  have d2 : v_iv (n_v vs 4) + (-4294967296) ≤ v_iv (n_v vs 2) ∧ v_iv (n_v vs 2) ≤ v_iv (n_v vs 4) + (-1) := d2
  have hf : fc_ok [(6, [11, 2], [1]), (23, [10, 2], [0, 1, -1]), (20, [0, 10], [30, 1, 1, 1, 11, -1, 0, 0]), (102, [10], [118842243771396506390315925504, 6011]), (23, [10, 2], [0, 1, -1]), (7, [2, 4], [2])] ta ws vs := hf
  obtain ⟨f0, hf⟩ := fc_un (show (6 : Nat) < 100 from by decide) hf
  have f0 : v_iv (n_v vs 11) = v_iv (n_v vs 2) + 1 := f0
  obtain ⟨f1, hf⟩ := fc_un (show (23 : Nat) < 100 from by decide) hf
  have f1 : 1 * v_iv (n_v vs 10) + ((-1) * v_iv (n_v vs 2) + 0) ≤ 0 := f1
  obtain ⟨f2, hf⟩ := fc_un (show (20 : Nat) < 100 from by decide) hf
  have f2 : 1 * w_fi ws (n_v vs 0) 11 + ((-1) * v_iv (n_v vs 10) + 0) ≤ 1 := f2
  obtain ⟨ta1, w1, le1, ⟨_, s1⟩, hf⟩ := fc_us (show ¬ (102 : Nat) < 100 from by decide) hf
  obtain ⟨f4, hf⟩ := fc_un (show (23 : Nat) < 100 from by decide) hf
  have f4 : 1 * v_iv (n_v vs 10) + ((-1) * v_iv (n_v vs 2) + 0) ≤ 0 := f4
  obtain ⟨f5, hf⟩ := fc_un (show (7 : Nat) < 100 from by decide) hf
  have f5 : v_iv (n_v vs 2) < v_iv (n_v vs 4) := f5
  have kz_0_11 : 0 ≤ w_fi ws (n_v vs 0) 11 ∧ w_fi ws (n_v vs 0) 11 ≤ 32 := tv_rng (th_fd hD hth r0 (g := GG_6) rfl (k := 11) (t := (0, 0, 32, [])) rfl rfl)
  have nf0 : fc_1 (20, [0, 11], [30, 0, 1, 1, 11, -1, 0, 0]) ws (vs) := by
    refine ⟨fun n hn => ?_, ?_⟩
    · have hn : n ∈ [0, 11] := hn
      rw [hl]
      simp only [List.mem_cons, List.not_mem_nil, or_false] at hn
      show n < 12; omega
    · show 1 * w_fi ws (n_v vs 0) 11 + ((-1) * v_iv (n_v vs 11) + 0) ≤ 0
      omega
  refine ⟨(fun _ h => (by cases h)), [], trivial, ?_, (fun _ h => (by cases h))⟩
  rw [List.append_nil]
  exact List.forall_mem_cons.mpr ⟨⟨show (20 : Nat) < 100 from by decide, nf0⟩, (fun _ h => (by cases h))⟩
def o_Pl_gatherItems_5 : or_T := (57, 8, [(0, (2, 0, 0, [6])), (2, (0, 0, 23, [])), (3, (2, 0, 0, [3])), (4, (0, 1, 24, [])), (7, (0, 1, 24, []))], [(6, [7, 2], [1]), (7, [2, 4], [2]), (9, [4, 3], [0]), (20, [0, 2], [30, 8, 1, 1, 11, -1, 0, 0])], [], [], [(20, [0, 7], [30, 8, 1, 1, 11, -1, 0, 0])], [], [(7, 2, 1, 1), (7, 4, -4294967296, 0), (2, 4, -4294967296, -1)])
theorem oo_Pl_gatherItems_5 {kA : Nat → ClassId} : or_ok kA GG o_Pl_gatherItems_5 := by
  intro A ta ws vs hD hth hl hk hds hf
  have hl : vs.length = 8 := hl
  have hk : ∀ q ∈ ([(0, (2, 0, 0, [6])), (2, (0, 0, 23, [])), (3, (2, 0, 0, [3])), (4, (0, 1, 24, [])), (7, (0, 1, 24, []))] : List (Nat × tv_T)), tv_ok ta q.2 (n_v vs q.1) := hk
  obtain ⟨t0, hk⟩ := List.forall_mem_cons.mp hk
  have t0 : tv_ok ta (2, 0, 0, [6]) (n_v vs 0) := t0
  have r0 : ta (v_ad (n_v vs 0)) = some 6 := tv_rg t0
  obtain ⟨t2, hk⟩ := List.forall_mem_cons.mp hk
  have t2 : tv_ok ta (0, 0, 23, []) (n_v vs 2) := t2
  have k2 : 0 ≤ v_iv (n_v vs 2) ∧ v_iv (n_v vs 2) ≤ 23 := tv_rng t2
  obtain ⟨t3, hk⟩ := List.forall_mem_cons.mp hk
  have t3 : tv_ok ta (2, 0, 0, [3]) (n_v vs 3) := t3
  have r3 : ta (v_ad (n_v vs 3)) = some 3 := tv_rg t3
  obtain ⟨t4, hk⟩ := List.forall_mem_cons.mp hk
  have t4 : tv_ok ta (0, 1, 24, []) (n_v vs 4) := t4
  have k4 : 1 ≤ v_iv (n_v vs 4) ∧ v_iv (n_v vs 4) ≤ 24 := tv_rng t4
  obtain ⟨t7, hk⟩ := List.forall_mem_cons.mp hk
  have t7 : tv_ok ta (0, 1, 24, []) (n_v vs 7) := t7
  have k7 : 1 ≤ v_iv (n_v vs 7) ∧ v_iv (n_v vs 7) ≤ 24 := tv_rng t7
  have hds : ∀ q ∈ ([(7, 2, 1, 1), (7, 4, -4294967296, 0), (2, 4, -4294967296, -1)] : List of_T), n_iv vs q.2.1 + q.2.2.1 ≤ n_iv vs q.1 ∧ n_iv vs q.1 ≤ n_iv vs q.2.1 + q.2.2.2 := hds
  obtain ⟨d0, hds⟩ := List.forall_mem_cons.mp hds
  have d0 : v_iv (n_v vs 2) + 1 ≤ v_iv (n_v vs 7) ∧ v_iv (n_v vs 7) ≤ v_iv (n_v vs 2) + 1 := d0
  obtain ⟨d1, hds⟩ := List.forall_mem_cons.mp hds
  have d1 : v_iv (n_v vs 4) + (-4294967296) ≤ v_iv (n_v vs 7) ∧ v_iv (n_v vs 7) ≤ v_iv (n_v vs 4) + 0 := d1
  obtain ⟨d2, hds⟩ := List.forall_mem_cons.mp hds
  have d2 : v_iv (n_v vs 4) + (-4294967296) ≤ v_iv (n_v vs 2) ∧ v_iv (n_v vs 2) ≤ v_iv (n_v vs 4) + (-1) := d2
  have hf : fc_ok [(6, [7, 2], [1]), (7, [2, 4], [2]), (9, [4, 3], [0]), (20, [0, 2], [30, 8, 1, 1, 11, -1, 0, 0])] ta ws vs := hf
  obtain ⟨f0, hf⟩ := fc_un (show (6 : Nat) < 100 from by decide) hf
  have f0 : v_iv (n_v vs 7) = v_iv (n_v vs 2) + 1 := f0
  obtain ⟨f1, hf⟩ := fc_un (show (7 : Nat) < 100 from by decide) hf
  have f1 : v_iv (n_v vs 2) < v_iv (n_v vs 4) := f1
  obtain ⟨f2, hf⟩ := fc_un (show (9 : Nat) < 100 from by decide) hf
  have f2 : n_v vs 4 = w_fd ws (v_ad (n_v vs 3)) 0 := f2
  obtain ⟨f3, hf⟩ := fc_un (show (20 : Nat) < 100 from by decide) hf
  have f3 : 1 * w_fi ws (n_v vs 0) 11 + ((-1) * v_iv (n_v vs 2) + 0) ≤ 8 := f3
  have g2 : v_iv (n_v vs 4) = w_fi ws (n_v vs 3) 0 := congrArg v_iv f2
  have kz_0_11 : 0 ≤ w_fi ws (n_v vs 0) 11 ∧ w_fi ws (n_v vs 0) 11 ≤ 32 := tv_rng (th_fd hD hth r0 (g := GG_6) rfl (k := 11) (t := (0, 0, 32, [])) rfl rfl)
  have kz_3_0 : 0 ≤ w_fi ws (n_v vs 3) 0 ∧ w_fi ws (n_v vs 3) 0 ≤ 24 := tv_rng (th_fd hD hth r3 (g := GG_3) rfl (k := 0) (t := (0, 0, 24, [])) rfl rfl)
  have nf0 : fc_1 (20, [0, 7], [30, 8, 1, 1, 11, -1, 0, 0]) ws (vs) := by
    refine ⟨fun n hn => ?_, ?_⟩
    · have hn : n ∈ [0, 7] := hn
      rw [hl]
      simp only [List.mem_cons, List.not_mem_nil, or_false] at hn
      show n < 8; omega
    · show 1 * w_fi ws (n_v vs 0) 11 + ((-1) * v_iv (n_v vs 7) + 0) ≤ 8
      omega
  refine ⟨(fun _ h => (by cases h)), [], trivial, ?_, (fun _ h => (by cases h))⟩
  rw [List.append_nil]
  exact List.forall_mem_cons.mpr ⟨⟨show (20 : Nat) < 100 from by decide, nf0⟩, (fun _ h => (by cases h))⟩
def o_Pl_gatherItems_6 : or_T := (92, 9, [(0, (2, 0, 0, [6])), (2, (0, 0, 23, [])), (3, (2, 0, 0, [3])), (4, (0, 1, 24, []))], [(7, [2, 4], [2]), (9, [4, 3], [0]), (20, [0, 2], [30, 8, 1, 1, 11, -1, 0, 0])], [], [(0, 0, 31, [])], [(20, [0, 9], [30, 0, 1, 1, 11, -1, 0, 0]), (23, [9, 2], [8, 1, -1])], [], [(2, 4, -4294967296, -1)])
theorem oo_Pl_gatherItems_6 {kA : Nat → ClassId} : or_ok kA GG o_Pl_gatherItems_6 := by
  intro A ta ws vs hD hth hl hk hds hf
  have hl : vs.length = 9 := hl
  have hk : ∀ q ∈ ([(0, (2, 0, 0, [6])), (2, (0, 0, 23, [])), (3, (2, 0, 0, [3])), (4, (0, 1, 24, []))] : List (Nat × tv_T)), tv_ok ta q.2 (n_v vs q.1) := hk
  obtain ⟨t0, hk⟩ := List.forall_mem_cons.mp hk
  have t0 : tv_ok ta (2, 0, 0, [6]) (n_v vs 0) := t0
  have r0 : ta (v_ad (n_v vs 0)) = some 6 := tv_rg t0
  obtain ⟨t2, hk⟩ := List.forall_mem_cons.mp hk
  have t2 : tv_ok ta (0, 0, 23, []) (n_v vs 2) := t2
  have k2 : 0 ≤ v_iv (n_v vs 2) ∧ v_iv (n_v vs 2) ≤ 23 := tv_rng t2
  obtain ⟨t3, hk⟩ := List.forall_mem_cons.mp hk
  have t3 : tv_ok ta (2, 0, 0, [3]) (n_v vs 3) := t3
  have r3 : ta (v_ad (n_v vs 3)) = some 3 := tv_rg t3
  obtain ⟨t4, hk⟩ := List.forall_mem_cons.mp hk
  have t4 : tv_ok ta (0, 1, 24, []) (n_v vs 4) := t4
  have k4 : 1 ≤ v_iv (n_v vs 4) ∧ v_iv (n_v vs 4) ≤ 24 := tv_rng t4
  have hds : ∀ q ∈ ([(2, 4, -4294967296, -1)] : List of_T), n_iv vs q.2.1 + q.2.2.1 ≤ n_iv vs q.1 ∧ n_iv vs q.1 ≤ n_iv vs q.2.1 + q.2.2.2 := hds
  obtain ⟨d0, hds⟩ := List.forall_mem_cons.mp hds
  have d0 : v_iv (n_v vs 4) + (-4294967296) ≤ v_iv (n_v vs 2) ∧ v_iv (n_v vs 2) ≤ v_iv (n_v vs 4) + (-1) := d0
  have hf : fc_ok [(7, [2, 4], [2]), (9, [4, 3], [0]), (20, [0, 2], [30, 8, 1, 1, 11, -1, 0, 0])] ta ws vs := hf
  obtain ⟨f0, hf⟩ := fc_un (show (7 : Nat) < 100 from by decide) hf
  have f0 : v_iv (n_v vs 2) < v_iv (n_v vs 4) := f0
  obtain ⟨f1, hf⟩ := fc_un (show (9 : Nat) < 100 from by decide) hf
  have f1 : n_v vs 4 = w_fd ws (v_ad (n_v vs 3)) 0 := f1
  obtain ⟨f2, hf⟩ := fc_un (show (20 : Nat) < 100 from by decide) hf
  have f2 : 1 * w_fi ws (n_v vs 0) 11 + ((-1) * v_iv (n_v vs 2) + 0) ≤ 8 := f2
  have g1 : v_iv (n_v vs 4) = w_fi ws (n_v vs 3) 0 := congrArg v_iv f1
  have kz_0_11 : 0 ≤ w_fi ws (n_v vs 0) 11 ∧ w_fi ws (n_v vs 0) 11 ≤ 32 := tv_rng (th_fd hD hth r0 (g := GG_6) rfl (k := 11) (t := (0, 0, 32, [])) rfl rfl)
  have kz_3_0 : 0 ≤ w_fi ws (n_v vs 3) 0 ∧ w_fi ws (n_v vs 3) 0 ≤ 24 := tv_rng (th_fd hD hth r3 (g := GG_3) rfl (k := 0) (t := (0, 0, 24, [])) rfl rfl)
  have kv0 : 0 ≤ w_fi ws (n_v vs 0) 11 ∧ w_fi ws (n_v vs 0) 11 ≤ 32 := tv_rng (th_fd hD hth r0 (g := GG_6) rfl (k := 11) (t := (0, 0, 32, [])) rfl rfl)
  obtain ⟨x, ex, hx⟩ := iv_ex (ta := ta) (lo := 0) (hi := 31) (z := w_fi ws (n_v vs 0) 11) (by omega) (by omega) (by omega) (by omega)
  have ex2 : v_iv (Value.int x) = w_fi ws (n_v vs 0) 11 := ex
  have ex3 : 0 ≤ v_iv (Value.int x) ∧ v_iv (Value.int x) ≤ 31 := tv_rng hx
  have e_0 : n_v (vs ++ [Value.int x]) 0 = n_v vs 0 := n_v_old (by rw [hl]; decide)
  have e_2 : n_v (vs ++ [Value.int x]) 2 = n_v vs 2 := n_v_old (by rw [hl]; decide)
  have e_9 : n_v (vs ++ [Value.int x]) 9 = Value.int x := n_v_new hl
  have nf0 : fc_1 (20, [0, 9], [30, 0, 1, 1, 11, -1, 0, 0]) ws (vs ++ [Value.int x]) := by
    refine ⟨fun n hn => ?_, ?_⟩
    · have hn : n ∈ [0, 9] := hn
      rw [List.length_append, hl]
      simp only [List.mem_cons, List.not_mem_nil, or_false] at hn
      show n < 9 + 1; omega
    · show 1 * w_fi ws (n_v (vs ++ [Value.int x]) 0) 11 + ((-1) * v_iv (n_v (vs ++ [Value.int x]) 9) + 0) ≤ 0
      rw [e_0]
      rw [e_9]
      omega
  have nf1 : fc_1 (23, [9, 2], [8, 1, -1]) ws (vs ++ [Value.int x]) := by
    refine ⟨fun n hn => ?_, ?_⟩
    · have hn : n ∈ [9, 2] := hn
      rw [List.length_append, hl]
      simp only [List.mem_cons, List.not_mem_nil, or_false] at hn
      show n < 9 + 1; omega
    · show 1 * v_iv (n_v (vs ++ [Value.int x]) 9) + ((-1) * v_iv (n_v (vs ++ [Value.int x]) 2) + 0) ≤ 8
      rw [e_2]
      rw [e_9]
      omega
  exact ⟨(fun _ h => (by cases h)), [Value.int x], ag_one hx, List.forall_mem_cons.mpr ⟨⟨show (20 : Nat) < 100 from by decide, nf0⟩, List.forall_mem_cons.mpr ⟨⟨show (23 : Nat) < 100 from by decide, nf1⟩, (fun _ h => (by cases h))⟩⟩, (fun _ h => (by cases h))⟩
def o_Pl_gatherItems_7 : or_T := (57, 11, [(0, (2, 0, 0, [6])), (2, (0, 0, 23, [])), (4, (0, 1, 24, [])), (9, (0, 0, 31, [])), (10, (0, 1, 24, []))], [(6, [10, 2], [1]), (23, [9, 2], [8, 1, -1]), (20, [0, 9], [30, 1, 1, 1, 11, -1, 0, 0]), (102, [9], [118842243771396506390315925504, 6011]), (23, [9, 2], [8, 1, -1]), (7, [2, 4], [2])], [], [], [(20, [0, 10], [30, 8, 1, 1, 11, -1, 0, 0])], [], [(10, 2, 1, 1), (10, 4, -4294967296, 0), (2, 4, -4294967296, -1)])
theorem oo_Pl_gatherItems_7 {kA : Nat → ClassId} : or_ok kA GG o_Pl_gatherItems_7 := by
  intro A ta ws vs hD hth hl hk hds hf
  have hl : vs.length = 11 := hl
  have hk : ∀ q ∈ ([(0, (2, 0, 0, [6])), (2, (0, 0, 23, [])), (4, (0, 1, 24, [])), (9, (0, 0, 31, [])), (10, (0, 1, 24, []))] : List (Nat × tv_T)), tv_ok ta q.2 (n_v vs q.1) := hk
  obtain ⟨t0, hk⟩ := List.forall_mem_cons.mp hk
  have t0 : tv_ok ta (2, 0, 0, [6]) (n_v vs 0) := t0
  have r0 : ta (v_ad (n_v vs 0)) = some 6 := tv_rg t0
  obtain ⟨t2, hk⟩ := List.forall_mem_cons.mp hk
  have t2 : tv_ok ta (0, 0, 23, []) (n_v vs 2) := t2
  have k2 : 0 ≤ v_iv (n_v vs 2) ∧ v_iv (n_v vs 2) ≤ 23 := tv_rng t2
  obtain ⟨t4, hk⟩ := List.forall_mem_cons.mp hk
  have t4 : tv_ok ta (0, 1, 24, []) (n_v vs 4) := t4
  have k4 : 1 ≤ v_iv (n_v vs 4) ∧ v_iv (n_v vs 4) ≤ 24 := tv_rng t4
  obtain ⟨t9, hk⟩ := List.forall_mem_cons.mp hk
  have t9 : tv_ok ta (0, 0, 31, []) (n_v vs 9) := t9
  have k9 : 0 ≤ v_iv (n_v vs 9) ∧ v_iv (n_v vs 9) ≤ 31 := tv_rng t9
  obtain ⟨t10, hk⟩ := List.forall_mem_cons.mp hk
  have t10 : tv_ok ta (0, 1, 24, []) (n_v vs 10) := t10
  have k10 : 1 ≤ v_iv (n_v vs 10) ∧ v_iv (n_v vs 10) ≤ 24 := tv_rng t10
  have hds : ∀ q ∈ ([(10, 2, 1, 1), (10, 4, -4294967296, 0), (2, 4, -4294967296, -1)] : List of_T), n_iv vs q.2.1 + q.2.2.1 ≤ n_iv vs q.1 ∧ n_iv vs q.1 ≤ n_iv vs q.2.1 + q.2.2.2 := hds
  obtain ⟨d0, hds⟩ := List.forall_mem_cons.mp hds
  have d0 : v_iv (n_v vs 2) + 1 ≤ v_iv (n_v vs 10) ∧ v_iv (n_v vs 10) ≤ v_iv (n_v vs 2) + 1 := d0
  obtain ⟨d1, hds⟩ := List.forall_mem_cons.mp hds
  have d1 : v_iv (n_v vs 4) + (-4294967296) ≤ v_iv (n_v vs 10) ∧ v_iv (n_v vs 10) ≤ v_iv (n_v vs 4) + 0 := d1
  obtain ⟨d2, hds⟩ := List.forall_mem_cons.mp hds
  have d2 : v_iv (n_v vs 4) + (-4294967296) ≤ v_iv (n_v vs 2) ∧ v_iv (n_v vs 2) ≤ v_iv (n_v vs 4) + (-1) := d2
  have hf : fc_ok [(6, [10, 2], [1]), (23, [9, 2], [8, 1, -1]), (20, [0, 9], [30, 1, 1, 1, 11, -1, 0, 0]), (102, [9], [118842243771396506390315925504, 6011]), (23, [9, 2], [8, 1, -1]), (7, [2, 4], [2])] ta ws vs := hf
  obtain ⟨f0, hf⟩ := fc_un (show (6 : Nat) < 100 from by decide) hf
  have f0 : v_iv (n_v vs 10) = v_iv (n_v vs 2) + 1 := f0
  obtain ⟨f1, hf⟩ := fc_un (show (23 : Nat) < 100 from by decide) hf
  have f1 : 1 * v_iv (n_v vs 9) + ((-1) * v_iv (n_v vs 2) + 0) ≤ 8 := f1
  obtain ⟨f2, hf⟩ := fc_un (show (20 : Nat) < 100 from by decide) hf
  have f2 : 1 * w_fi ws (n_v vs 0) 11 + ((-1) * v_iv (n_v vs 9) + 0) ≤ 1 := f2
  obtain ⟨ta1, w1, le1, ⟨_, s1⟩, hf⟩ := fc_us (show ¬ (102 : Nat) < 100 from by decide) hf
  obtain ⟨f4, hf⟩ := fc_un (show (23 : Nat) < 100 from by decide) hf
  have f4 : 1 * v_iv (n_v vs 9) + ((-1) * v_iv (n_v vs 2) + 0) ≤ 8 := f4
  obtain ⟨f5, hf⟩ := fc_un (show (7 : Nat) < 100 from by decide) hf
  have f5 : v_iv (n_v vs 2) < v_iv (n_v vs 4) := f5
  have kz_0_11 : 0 ≤ w_fi ws (n_v vs 0) 11 ∧ w_fi ws (n_v vs 0) 11 ≤ 32 := tv_rng (th_fd hD hth r0 (g := GG_6) rfl (k := 11) (t := (0, 0, 32, [])) rfl rfl)
  have nf0 : fc_1 (20, [0, 10], [30, 8, 1, 1, 11, -1, 0, 0]) ws (vs) := by
    refine ⟨fun n hn => ?_, ?_⟩
    · have hn : n ∈ [0, 10] := hn
      rw [hl]
      simp only [List.mem_cons, List.not_mem_nil, or_false] at hn
      show n < 11; omega
    · show 1 * w_fi ws (n_v vs 0) 11 + ((-1) * v_iv (n_v vs 10) + 0) ≤ 8
      omega
  refine ⟨(fun _ h => (by cases h)), [], trivial, ?_, (fun _ h => (by cases h))⟩
  rw [List.append_nil]
  exact List.forall_mem_cons.mpr ⟨⟨show (20 : Nat) < 100 from by decide, nf0⟩, (fun _ h => (by cases h))⟩
def n_Pl_gatherItems_an : List an_T := [(9, [(0, (2, 0, 0, [6])), (1, (0, 0, 7, [])), (2, (0, 1, 8, []))], [], (0, 0), [(0, 0, 99991), (1, 2, 8), (0, 0, 100000)], [(1, 2, -1000000000000, -1)], [((0, 0), (2, 0, 0, [3]))], [], 0, [], [(20, [0, 2], [30, 0, 1, 1, 11, -1, 0, 0])]), (57, [(0, (2, 0, 0, [6])), (1, (0, 0, 7, [])), (2, (0, 0, 24, []))], [], (0, 0), [(0, 0, 99943), (1, 2, 24), (0, 0, 100000)], [(1, 2, -1000000000000, 7)], [((0, 0), (2, 0, 0, [3]))], [], 0, [], [(20, [0, 2], [30, 8, 1, 1, 11, -1, 0, 0])])]
def t_Pl_gatherItems_ct : ct_L := [(1, 169, e_Gr_sizeOfGroup), (1, 187, e_Pl_insertItem)]
set_option maxRecDepth 100000 in
theorem c_Pl_gatherItems {l : Launch} {D : va_G} {kA : Nat → ClassId} (h_Gr_sizeOfGroup : ct_ok l D kA GG y_Gr_sizeOfGroup z_Gr_sizeOfGroup e_Gr_sizeOfGroup) (h_Pl_insertItem : ct_ok l D kA GG y_Pl_insertItem z_Pl_insertItem e_Pl_insertItem) : ct_ok l D kA GG y_Pl_gatherItems z_Pl_gatherItems e_Pl_gatherItems := chk_all_ok (FT := [(9, 6, 0), (74, 3, 0), (166, 3, 2), (184, 3, 11), (191, 3, 6), (194, 3, 5)]) (PT := [(48, 6, 11, .int)]) (CT := t_Pl_gatherItems_ct) (KT := []) (NT := []) (AN := n_Pl_gatherItems_an) (OT := [o_Pl_gatherItems_0, o_Pl_gatherItems_1, o_Pl_gatherItems_2, o_Pl_gatherItems_3, o_Pl_gatherItems_4, o_Pl_gatherItems_5, o_Pl_gatherItems_6, o_Pl_gatherItems_7]) 3 236 (List.forall_mem_cons.mpr ⟨oo_Pl_gatherItems_0, List.forall_mem_cons.mpr ⟨oo_Pl_gatherItems_1, List.forall_mem_cons.mpr ⟨oo_Pl_gatherItems_2, List.forall_mem_cons.mpr ⟨oo_Pl_gatherItems_3, List.forall_mem_cons.mpr ⟨oo_Pl_gatherItems_4, List.forall_mem_cons.mpr ⟨oo_Pl_gatherItems_5, List.forall_mem_cons.mpr ⟨oo_Pl_gatherItems_6, List.forall_mem_cons.mpr ⟨oo_Pl_gatherItems_7, List.forall_mem_nil _⟩⟩⟩⟩⟩⟩⟩⟩) (by decide +kernel) ⟨List.forall_mem_cons.mpr ⟨gf_Pl_9, List.forall_mem_cons.mpr ⟨gf_Pl_74, List.forall_mem_cons.mpr ⟨gf_Pl_166, List.forall_mem_cons.mpr ⟨gf_Pl_184, List.forall_mem_cons.mpr ⟨gf_Pl_191, List.forall_mem_cons.mpr ⟨gf_Pl_194, List.forall_mem_nil _⟩⟩⟩⟩⟩⟩, List.forall_mem_cons.mpr ⟨pf_Pl_48, List.forall_mem_nil _⟩, List.forall_mem_cons.mpr ⟨cl_virtual (y := y_Gr_sizeOfGroup) (ci := 3) rfl rfl ⟨_, _, rfl⟩ (by decide +kernel) h_Gr_sizeOfGroup wm_946 wm_3 wm_1726 wm_944 wm_945 ⟨by decide, by decide, by decide +kernel⟩ (by decide), List.forall_mem_cons.mpr ⟨cl_virtual (y := y_Pl_insertItem) (ci := 6) rfl rfl ⟨_, _, rfl⟩ (by decide +kernel) h_Pl_insertItem wm_1734 wm_21 wm_1731 wm_1733 wv_7_15 ⟨by decide, by decide, by decide +kernel⟩ (by decide), List.forall_mem_nil _⟩⟩, List.forall_mem_nil _, List.forall_mem_nil _, GG_pl⟩ (by decide +kernel)
def n_Pl_placeSideBySide_an : List an_T := [(22, [(0, (2, 0, 0, [6])), (1, (0, 0, 24, [])), (2, (0, 0, 16777215, [])), (3, (0, 1, 24, []))], [], (0, 0), [(0, 0, 99978), (1, 3, 24), (0, 0, 100000), (0, 0, 0), (0, 0, 0)], [], [((0, 0), (2, 0, 0, [3])), ((0, 1), (2, 0, 0, [0]))], [], 0, [], []), (47, [(0, (2, 0, 0, [6])), (1, (0, 2, 24, [])), (2, (0, 0, 16777215, [])), (3, (0, 1, 23, [])), (4, (0, 0, 16777215, [])), (5, (0, -1000000, 2147483647, [])), (6, (0, 0, 24, []))], [], (0, 0), [(0, 0, 99978), (1, 3, 24), (0, 0, 99953), (1, 6, 24), (0, 0, 100000)], [], [((0, 0), (2, 0, 0, [3])), ((0, 1), (2, 0, 0, [0]))], [], 0, [], []), (112, [(0, (2, 0, 0, [6])), (1, (0, 2, 24, [])), (2, (0, 0, 16777215, [])), (3, (0, 1, 23, [])), (4, (0, 0, 16777215, [])), (5, (0, -1000000, 2147483647, [])), (6, (0, 0, 24, []))], [], (0, 0), [(0, 0, 99978), (1, 3, 24), (0, 0, 99888), (1, 6, 24), (0, 0, 100000)], [], [((0, 0), (2, 0, 0, [3])), ((0, 1), (2, 0, 0, [0]))], [], 0, [], [])]
def t_Pl_placeSideBySide_ct : ct_L := [(1, 145, e_Pl_edgeOfLevel), (297, 150, e_jMath_max1_v26), (297, 150, e_jMath_max1_v27)]
set_option maxRecDepth 100000 in
theorem c_Pl_placeSideBySide {l : Launch} {D : va_G} {kA : Nat → ClassId} (h_Pl_edgeOfLevel : ct_ok l D kA GG y_Pl_edgeOfLevel z_Pl_edgeOfLevel e_Pl_edgeOfLevel) : ct_ok l D kA GG y_Pl_placeSideBySide z_Pl_placeSideBySide e_Pl_placeSideBySide := chk_all_ok (FT := [(9, 6, 0), (15, 6, 1), (32, 6, 6), (35, 6, 7), (74, 3, 0), (127, 0, 2)]) (PT := []) (CT := t_Pl_placeSideBySide_ct) (KT := [(0, 144, .int (Int32.ofInt (-1000000)), (0, -1000000, -1000000, [])), (0, 149, .int (Int32.ofInt (-2147483648)), (0, -2147483648, -2147483648, []))]) (NT := []) (AN := n_Pl_placeSideBySide_an) (OT := []) 5 404 (List.forall_mem_nil _) (by decide +kernel) ⟨List.forall_mem_cons.mpr ⟨gf_Pl_9, List.forall_mem_cons.mpr ⟨gf_Pl_15, List.forall_mem_cons.mpr ⟨gf_Pl_32, List.forall_mem_cons.mpr ⟨gf_Pl_35, List.forall_mem_cons.mpr ⟨gf_Pl_74, List.forall_mem_cons.mpr ⟨gf_Pl_127, List.forall_mem_nil _⟩⟩⟩⟩⟩⟩, List.forall_mem_nil _, List.forall_mem_cons.mpr ⟨cl_virtual (y := y_Pl_edgeOfLevel) (ci := 6) rfl rfl ⟨_, _, rfl⟩ (by decide +kernel) h_Pl_edgeOfLevel wm_1712 wm_21 wm_1709 wm_1711 wv_7_11 ⟨by decide, by decide, by decide +kernel⟩ (by decide), List.forall_mem_cons.mpr ⟨cl_static (y := y_jMath_max1) c_jMath_max1_v26 wm_836 wm_10 wm_1714 wm_835 ⟨by decide, by decide, by decide +kernel⟩ (by decide), List.forall_mem_cons.mpr ⟨cl_static (y := y_jMath_max1) c_jMath_max1_v27 wm_836 wm_10 wm_1714 wm_835 ⟨by decide, by decide, by decide +kernel⟩ (by decide), List.forall_mem_nil _⟩⟩⟩, List.forall_mem_cons.mpr ⟨kx_Pl_0_144, List.forall_mem_cons.mpr ⟨kx_Pl_0_149, List.forall_mem_nil _⟩⟩, List.forall_mem_nil _, GG_pl⟩ (by decide +kernel)
def n_Pl_ringCrossings_an : List an_T := [(6, [(0, (2, 0, 0, [6])), (1, (0, 0, 16777215, [])), (2, (0, -2147483648, 2147483647, [])), (3, (0, 0, 24, []))], [], (0, 0), [(0, 0, 99994), (1, 3, 24), (0, 0, 100000)], [], [((0, 0), (2, 0, 0, [3]))], [], 0, [], [])]
def t_Pl_ringCrossings_ct : ct_L := [(1, 227, e_Pl_crossingsAt)]
set_option maxRecDepth 100000 in
theorem c_Pl_ringCrossings {l : Launch} {D : va_G} {kA : Nat → ClassId} (h_Pl_crossingsAt : ct_ok l D kA GG y_Pl_crossingsAt z_Pl_crossingsAt e_Pl_crossingsAt) : ct_ok l D kA GG y_Pl_ringCrossings z_Pl_ringCrossings e_Pl_ringCrossings := chk_all_ok (FT := [(9, 6, 0), (19, 6, 2), (74, 3, 0)]) (PT := []) (CT := t_Pl_ringCrossings_ct) (KT := []) (NT := []) (AN := n_Pl_ringCrossings_an) (OT := []) 3 200 (List.forall_mem_nil _) (by decide +kernel) ⟨List.forall_mem_cons.mpr ⟨gf_Pl_9, List.forall_mem_cons.mpr ⟨gf_Pl_19, List.forall_mem_cons.mpr ⟨gf_Pl_74, List.forall_mem_nil _⟩⟩⟩, List.forall_mem_nil _, List.forall_mem_cons.mpr ⟨cl_virtual (y := y_Pl_crossingsAt) (ci := 6) rfl rfl ⟨_, _, rfl⟩ (by decide +kernel) h_Pl_crossingsAt wm_1770 wm_21 wm_1767 wm_1769 wv_8_6 ⟨by decide, by decide, by decide +kernel⟩ (by decide), List.forall_mem_nil _⟩, List.forall_mem_nil _, List.forall_mem_nil _, GG_pl⟩ (by decide +kernel)
def n_Re_isNameByte_an : List an_T := []
def t_Re_isNameByte_ct : ct_L := [(0, 64, e_Re_isLetter), (0, 68, e_Re_isDigit)]
set_option maxRecDepth 100000 in
theorem c_Re_isNameByte {l : Launch} {D : va_G} {kA : Nat → ClassId} (h_Re_isDigit : ct_ok l D kA GG y_Re_isDigit z_Re_isDigit e_Re_isDigit) (h_Re_isLetter : ct_ok l D kA GG y_Re_isLetter z_Re_isLetter e_Re_isLetter) : ct_ok l D kA GG y_Re_isNameByte z_Re_isNameByte e_Re_isNameByte := chk_all_ok (FT := []) (PT := []) (CT := t_Re_isNameByte_ct) (KT := []) (NT := []) (AN := n_Re_isNameByte_an) (OT := []) 0 200 (List.forall_mem_nil _) (by decide +kernel) ⟨List.forall_mem_nil _, List.forall_mem_nil _, List.forall_mem_cons.mpr ⟨cl_static (y := y_Re_isLetter) h_Re_isLetter wm_648 wm_2 wm_646 wm_647 ⟨by decide, by decide, by decide +kernel⟩ (by decide), List.forall_mem_cons.mpr ⟨cl_static (y := y_Re_isDigit) h_Re_isDigit wm_654 wm_2 wm_652 wm_653 ⟨by decide, by decide, by decide +kernel⟩ (by decide), List.forall_mem_nil _⟩⟩, List.forall_mem_nil _, List.forall_mem_nil _, GG_pl⟩ (by decide +kernel)
def n_Sy_lookAtEdge_an : List an_T := [(91, [(0, (2, 0, 0, [11])), (1, (2, 0, 0, [3])), (2, (2, 0, 0, [2])), (3, (2, 0, 0, [0])), (4, (0, 0, 47, [])), (5, (0, 0, 23, [])), (6, (0, 0, 23, [])), (7, (0, -2147483648, 2147483647, []))], [(1, 0, 1, []), (0, 1, 1, []), (2, 0, 0, [130])], (0, 0), [(0, 0, 99909)], [], [], [], 0, [], []), (111, [(0, (2, 0, 0, [11])), (1, (2, 0, 0, [3])), (2, (2, 0, 0, [2])), (3, (2, 0, 0, [0])), (4, (0, 0, 47, [])), (5, (0, 0, 23, [])), (6, (0, 0, 23, [])), (7, (0, -2147483648, 2147483647, []))], [(1, 0, 1, []), (0, 2, 2, []), (2, 0, 0, [130])], (0, 0), [(0, 0, 99889)], [], [], [], 0, [], []), (165, [(0, (2, 0, 0, [11])), (1, (2, 0, 0, [3])), (2, (2, 0, 0, [2])), (3, (2, 0, 0, [0])), (4, (0, 0, 47, [])), (5, (0, 0, 23, [])), (6, (0, 0, 23, [])), (7, (0, -2147483648, 2147483647, []))], [(1, -2147483648, 2147483647, []), (0, 6, 6, []), (2, 0, 0, [130])], (0, 0), [(0, 0, 99835)], [], [((3, 1), (0, -1, 7, []))], [], 0, [], [])]
def t_Sy_lookAtEdge_ct : ct_L := [(1, 241, e_Fa_isBridge), (102, 231, e_jMath_abs1_v21), (156, 231, e_jMath_abs1_v21)]
set_option maxRecDepth 100000 in
theorem c_Sy_lookAtEdge {l : Launch} {D : va_G} {kA : Nat → ClassId} (h_Fa_isBridge : ct_ok l D kA GG y_Fa_isBridge z_Fa_isBridge e_Fa_isBridge) : ct_ok l D kA GG y_Sy_lookAtEdge z_Sy_lookAtEdge e_Sy_lookAtEdge := chk_all_ok (FT := [(66, 11, 16), (191, 3, 8), (194, 3, 7), (197, 0, 1), (225, 0, 2), (228, 0, 3), (234, 3, 9), (237, 2, 9), (244, 2, 5), (247, 3, 10)]) (PT := []) (CT := t_Sy_lookAtEdge_ct) (KT := []) (NT := []) (AN := n_Sy_lookAtEdge_an) (OT := []) 1 428 (List.forall_mem_nil _) (by decide +kernel) ⟨List.forall_mem_cons.mpr ⟨gf_Sy_66, List.forall_mem_cons.mpr ⟨gf_Sy_191, List.forall_mem_cons.mpr ⟨gf_Sy_194, List.forall_mem_cons.mpr ⟨gf_Sy_197, List.forall_mem_cons.mpr ⟨gf_Sy_225, List.forall_mem_cons.mpr ⟨gf_Sy_228, List.forall_mem_cons.mpr ⟨gf_Sy_234, List.forall_mem_cons.mpr ⟨gf_Sy_237, List.forall_mem_cons.mpr ⟨gf_Sy_244, List.forall_mem_cons.mpr ⟨gf_Sy_247, List.forall_mem_nil _⟩⟩⟩⟩⟩⟩⟩⟩⟩⟩, List.forall_mem_nil _, List.forall_mem_cons.mpr ⟨cl_virtual (y := y_Fa_isBridge) (ci := 2) rfl rfl ⟨_, _, rfl⟩ (by decide +kernel) h_Fa_isBridge wm_934 wm_7 wm_2322 wm_932 wm_933 ⟨by decide, by decide, by decide +kernel⟩ (by decide), List.forall_mem_cons.mpr ⟨cl_static (y := y_jMath_abs1) c_jMath_abs1_v21 wm_1811 wm_10 wm_2321 wm_1810 ⟨by decide, by decide, by decide +kernel⟩ (by decide), List.forall_mem_cons.mpr ⟨cl_static (y := y_jMath_abs1) c_jMath_abs1_v21 wm_1811 wm_10 wm_2321 wm_1810 ⟨by decide, by decide, by decide +kernel⟩ (by decide), List.forall_mem_nil _⟩⟩⟩, List.forall_mem_nil _, List.forall_mem_nil _, GG_pl⟩ (by decide +kernel)
def n_Mo_bound_an : List an_T := []
def t_Mo_bound_ct : ct_L := [(21, 547, e_Mo_min_np), (57, 855, e_Mo_max_np), (93, 547, e_Mo_min_np), (129, 855, e_Mo_max_np)]
set_option maxRecDepth 100000 in
theorem c_Mo_bound {l : Launch} {D : va_G} {kA : Nat → ClassId} (h_Mo_max : ct_ok l D kA GG y_Mo_max z_Mo_max e_Mo_max) (h_Mo_min : ct_ok l D kA GG y_Mo_min z_Mo_min e_Mo_min) : ct_ok l D kA GG y_Mo_bound z_Mo_bound e_Mo_bound := chk_all_ok (FT := [(1142, 13, 153), (1145, 13, 154), (1148, 13, 155), (1151, 13, 156)]) (PT := [(1142, 13, 153, .int), (1145, 13, 154, .int), (1148, 13, 155, .int), (1151, 13, 156, .int)]) (CT := t_Mo_bound_ct) (KT := []) (NT := []) (AN := n_Mo_bound_an) (OT := []) 0 200 (List.forall_mem_nil _) (by decide +kernel) ⟨List.forall_mem_cons.mpr ⟨gf_Mo_1142, List.forall_mem_cons.mpr ⟨gf_Mo_1145, List.forall_mem_cons.mpr ⟨gf_Mo_1148, List.forall_mem_cons.mpr ⟨gf_Mo_1151, List.forall_mem_nil _⟩⟩⟩⟩, List.forall_mem_cons.mpr ⟨pf_Mo_1142, List.forall_mem_cons.mpr ⟨pf_Mo_1145, List.forall_mem_cons.mpr ⟨pf_Mo_1148, List.forall_mem_cons.mpr ⟨pf_Mo_1151, List.forall_mem_nil _⟩⟩⟩⟩, List.forall_mem_cons.mpr ⟨cl_nopa (cl_static (y := y_Mo_min) h_Mo_min wm_3174 wm_9 wm_3172 wm_3173 ⟨by decide, by decide, by decide +kernel⟩ (by decide)), List.forall_mem_cons.mpr ⟨cl_nopa (cl_static (y := y_Mo_max) h_Mo_max wm_3430 wm_9 wm_3428 wm_3429 ⟨by decide, by decide, by decide +kernel⟩ (by decide)), List.forall_mem_cons.mpr ⟨cl_nopa (cl_static (y := y_Mo_min) h_Mo_min wm_3174 wm_9 wm_3172 wm_3173 ⟨by decide, by decide, by decide +kernel⟩ (by decide)), List.forall_mem_cons.mpr ⟨cl_nopa (cl_static (y := y_Mo_max) h_Mo_max wm_3430 wm_9 wm_3428 wm_3429 ⟨by decide, by decide, by decide +kernel⟩ (by decide)), List.forall_mem_nil _⟩⟩⟩⟩, List.forall_mem_nil _, List.forall_mem_nil _, GG_pl⟩ (by decide +kernel)
