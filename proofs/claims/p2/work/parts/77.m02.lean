def o_Gr_addEdge_0 : or_T := (1000000, 0, [], [], [], [], [], [], [])
theorem oo_Gr_addEdge_0 {kA : Nat → ClassId} : or_ok kA GG o_Gr_addEdge_0 := fun _ _ _ _ _ _ _ _ _ _ => ⟨fun q h => (by cases h), [], trivial, fun f h => (by cases h), fun q h => (by cases h)⟩
def n_Gr_addEdge_an : List an_T := []
def t_Gr_addEdge_ct : ct_L := [(1, 100, e_Gr_tie)]
set_option maxRecDepth 100000 in
theorem c_Gr_addEdge {l : Launch} {D : va_G} {kA : Nat → ClassId} (h_Gr_tie : ct_ok l D kA GG y_Gr_tie z_Gr_tie e_Gr_tie) : ct_ok l D kA GG y_Gr_addEdge z_Gr_addEdge e_Gr_addEdge := chk_all_ok (FT := [(15, 3, 1), (35, 3, 7), (38, 3, 8), (41, 3, 9), (44, 3, 10)]) (PT := [(15, 3, 1, .int)]) (CT := t_Gr_addEdge_ct) (KT := []) (NT := []) (AN := n_Gr_addEdge_an) (OT := [o_Gr_addEdge_0]) 0 200 (List.forall_mem_cons.mpr ⟨oo_Gr_addEdge_0, List.forall_mem_nil _⟩) (by decide +kernel) ⟨List.forall_mem_cons.mpr ⟨gf_Gr_15, List.forall_mem_cons.mpr ⟨gf_Gr_35, List.forall_mem_cons.mpr ⟨gf_Gr_38, List.forall_mem_cons.mpr ⟨gf_Gr_41, List.forall_mem_cons.mpr ⟨gf_Gr_44, List.forall_mem_nil _⟩⟩⟩⟩⟩, List.forall_mem_cons.mpr ⟨pf_Gr_15, List.forall_mem_nil _⟩, List.forall_mem_cons.mpr ⟨cl_virtual (y := y_Gr_tie) (ci := 3) rfl rfl ⟨_, _, rfl⟩ (by decide +kernel) h_Gr_tie wm_776 wm_3 wm_773 wm_775 wv_1_11 ⟨by decide, by decide, by decide +kernel⟩ (by decide), List.forall_mem_nil _⟩, List.forall_mem_nil _, List.forall_mem_nil _⟩ (by decide +kernel)
def o_Gr_addNode_at_Retape_0 : or_T := (18, 9, [(2, (0, 0, 2000, [])), (3, (0, 0, 8, [])), (5, (0, 0, 23, [])), (7, (0, 8, 8, [])), (8, (0, 0, 184, []))], [(3, [8, 5, 7], []), (21, [2, 3], [2000])], [], [], [(21, [8, 3], [192])], [], [])
theorem oo_Gr_addNode_at_Retape_0 {kA : Nat → ClassId} : or_ok kA GG o_Gr_addNode_at_Retape_0 := by
  intro A ta ws vs hD hth hl hk hds hf
  have hl : vs.length = 9 := hl
  have hk : ∀ q ∈ ([(2, (0, 0, 2000, [])), (3, (0, 0, 8, [])), (5, (0, 0, 23, [])), (7, (0, 8, 8, [])), (8, (0, 0, 184, []))] : List (Nat × tv_T)), tv_ok ta q.2 (n_v vs q.1) := hk
  obtain ⟨t2, hk⟩ := List.forall_mem_cons.mp hk
  have t2 : tv_ok ta (0, 0, 2000, []) (n_v vs 2) := t2
  have k2 : 0 ≤ v_iv (n_v vs 2) ∧ v_iv (n_v vs 2) ≤ 2000 := tv_rng t2
  obtain ⟨t3, hk⟩ := List.forall_mem_cons.mp hk
  have t3 : tv_ok ta (0, 0, 8, []) (n_v vs 3) := t3
  have k3 : 0 ≤ v_iv (n_v vs 3) ∧ v_iv (n_v vs 3) ≤ 8 := tv_rng t3
  obtain ⟨t5, hk⟩ := List.forall_mem_cons.mp hk
  have t5 : tv_ok ta (0, 0, 23, []) (n_v vs 5) := t5
  have k5 : 0 ≤ v_iv (n_v vs 5) ∧ v_iv (n_v vs 5) ≤ 23 := tv_rng t5
  obtain ⟨t7, hk⟩ := List.forall_mem_cons.mp hk
  have t7 : tv_ok ta (0, 8, 8, []) (n_v vs 7) := t7
  have k7 : 8 ≤ v_iv (n_v vs 7) ∧ v_iv (n_v vs 7) ≤ 8 := tv_rng t7
  obtain ⟨t8, hk⟩ := List.forall_mem_cons.mp hk
  have t8 : tv_ok ta (0, 0, 184, []) (n_v vs 8) := t8
  have k8 : 0 ≤ v_iv (n_v vs 8) ∧ v_iv (n_v vs 8) ≤ 184 := tv_rng t8
  have hf : fc_ok [(3, [8, 5, 7], []), (21, [2, 3], [2000])] ta ws vs := hf
  obtain ⟨f0, hf⟩ := fc_un (by decide) hf
  have f0 : v_iv (n_v vs 8) = v_iv (n_v vs 5) * v_iv (n_v vs 7) := f0
  rw [show v_iv (n_v vs 7) = 8 from by omega] at f0
  obtain ⟨f1, hf⟩ := fc_un (by decide) hf
  have f1 : v_iv (n_v vs 2) + v_iv (n_v vs 3) ≤ 2000 := f1
  have nf0 : fc_1 (21, [8, 3], [192]) ws (vs) := by
    refine ⟨fun n hn => ?_, ?_⟩
    · have hn : n ∈ [8, 3] := hn
      rw [hl]
      simp only [List.mem_cons, List.not_mem_nil, or_false] at hn
      show n < 9; omega
    · show v_iv (n_v vs 8) + v_iv (n_v vs 3) ≤ 192
      omega
  refine ⟨(fun _ h => (by cases h)), [], trivial, ?_, (fun _ h => (by cases h))⟩
  rw [List.append_nil]
  exact List.forall_mem_cons.mpr ⟨⟨by decide, nf0⟩, (fun _ h => (by cases h))⟩
def n_Gr_addNode_at_Retape_an : List an_T := []
def t_Gr_addNode_at_Retape_ct : ct_L := [(57, 77, e_acp_70)]
set_option maxRecDepth 100000 in
theorem c_Gr_addNode_at_Retape {l : Launch} {D : va_G} {kA : Nat → ClassId} : ct_ok l D kA GG y_Gr_addNode_at_Retape z_Gr_addNode_at_Retape e_Gr_addNode_at_Retape := chk_all_ok (FT := [(9, 3, 0), (21, 3, 3), (25, 3, 4), (29, 3, 5), (32, 3, 6), (56, 3, 14)]) (PT := [(9, 3, 0, .int)]) (CT := t_Gr_addNode_at_Retape_ct) (KT := []) (NT := []) (AN := n_Gr_addNode_at_Retape_an) (OT := [o_Gr_addNode_at_Retape_0]) 0 200 (List.forall_mem_cons.mpr ⟨oo_Gr_addNode_at_Retape_0, List.forall_mem_nil _⟩) (by decide +kernel) ⟨List.forall_mem_cons.mpr ⟨gf_Gr_9, List.forall_mem_cons.mpr ⟨gf_Gr_21, List.forall_mem_cons.mpr ⟨gf_Gr_25, List.forall_mem_cons.mpr ⟨gf_Gr_29, List.forall_mem_cons.mpr ⟨gf_Gr_32, List.forall_mem_cons.mpr ⟨gf_Gr_56, List.forall_mem_nil _⟩⟩⟩⟩⟩⟩, List.forall_mem_cons.mpr ⟨pf_Gr_9, List.forall_mem_nil _⟩, List.forall_mem_cons.mpr ⟨cl_copy rfl rfl (by decide) (by decide) (by decide) wm_748 wm_750 wm_749 wm_15, List.forall_mem_nil _⟩, List.forall_mem_nil _, List.forall_mem_nil _⟩ (by decide +kernel)
def o_Gr_addNode_at_newGrperform45_0 : or_T := (18, 9, [(2, (0, 0, 2000, [])), (3, (0, 0, 8, [])), (5, (0, 0, 23, [])), (7, (0, 8, 8, [])), (8, (0, 0, 184, []))], [(3, [8, 5, 7], []), (21, [2, 3], [3])], [], [], [(21, [8, 3], [192])], [], [])
theorem oo_Gr_addNode_at_newGrperform45_0 {kA : Nat → ClassId} : or_ok kA GG o_Gr_addNode_at_newGrperform45_0 := by
  intro A ta ws vs hD hth hl hk hds hf
  have hl : vs.length = 9 := hl
  have hk : ∀ q ∈ ([(2, (0, 0, 2000, [])), (3, (0, 0, 8, [])), (5, (0, 0, 23, [])), (7, (0, 8, 8, [])), (8, (0, 0, 184, []))] : List (Nat × tv_T)), tv_ok ta q.2 (n_v vs q.1) := hk
  obtain ⟨t2, hk⟩ := List.forall_mem_cons.mp hk
  have t2 : tv_ok ta (0, 0, 2000, []) (n_v vs 2) := t2
  have k2 : 0 ≤ v_iv (n_v vs 2) ∧ v_iv (n_v vs 2) ≤ 2000 := tv_rng t2
  obtain ⟨t3, hk⟩ := List.forall_mem_cons.mp hk
  have t3 : tv_ok ta (0, 0, 8, []) (n_v vs 3) := t3
  have k3 : 0 ≤ v_iv (n_v vs 3) ∧ v_iv (n_v vs 3) ≤ 8 := tv_rng t3
  obtain ⟨t5, hk⟩ := List.forall_mem_cons.mp hk
  have t5 : tv_ok ta (0, 0, 23, []) (n_v vs 5) := t5
  have k5 : 0 ≤ v_iv (n_v vs 5) ∧ v_iv (n_v vs 5) ≤ 23 := tv_rng t5
  obtain ⟨t7, hk⟩ := List.forall_mem_cons.mp hk
  have t7 : tv_ok ta (0, 8, 8, []) (n_v vs 7) := t7
  have k7 : 8 ≤ v_iv (n_v vs 7) ∧ v_iv (n_v vs 7) ≤ 8 := tv_rng t7
  obtain ⟨t8, hk⟩ := List.forall_mem_cons.mp hk
  have t8 : tv_ok ta (0, 0, 184, []) (n_v vs 8) := t8
  have k8 : 0 ≤ v_iv (n_v vs 8) ∧ v_iv (n_v vs 8) ≤ 184 := tv_rng t8
  have hf : fc_ok [(3, [8, 5, 7], []), (21, [2, 3], [3])] ta ws vs := hf
  obtain ⟨f0, hf⟩ := fc_un (by decide) hf
  have f0 : v_iv (n_v vs 8) = v_iv (n_v vs 5) * v_iv (n_v vs 7) := f0
  rw [show v_iv (n_v vs 7) = 8 from by omega] at f0
  obtain ⟨f1, hf⟩ := fc_un (by decide) hf
  have f1 : v_iv (n_v vs 2) + v_iv (n_v vs 3) ≤ 3 := f1
  have nf0 : fc_1 (21, [8, 3], [192]) ws (vs) := by
    refine ⟨fun n hn => ?_, ?_⟩
    · have hn : n ∈ [8, 3] := hn
      rw [hl]
      simp only [List.mem_cons, List.not_mem_nil, or_false] at hn
      show n < 9; omega
    · show v_iv (n_v vs 8) + v_iv (n_v vs 3) ≤ 192
      omega
  refine ⟨(fun _ h => (by cases h)), [], trivial, ?_, (fun _ h => (by cases h))⟩
  rw [List.append_nil]
  exact List.forall_mem_cons.mpr ⟨⟨by decide, nf0⟩, (fun _ h => (by cases h))⟩
def n_Gr_addNode_at_newGrperform45_an : List an_T := []
def t_Gr_addNode_at_newGrperform45_ct : ct_L := [(57, 77, e_acp_13)]
set_option maxRecDepth 100000 in
theorem c_Gr_addNode_at_newGrperform45 {l : Launch} {D : va_G} {kA : Nat → ClassId} : ct_ok l D kA GG y_Gr_addNode_at_newGrperform45 z_Gr_addNode_at_newGrperform45 e_Gr_addNode_at_newGrperform45 := chk_all_ok (FT := [(9, 3, 0), (21, 3, 3), (25, 3, 4), (29, 3, 5), (32, 3, 6), (56, 3, 14)]) (PT := [(9, 3, 0, .int)]) (CT := t_Gr_addNode_at_newGrperform45_ct) (KT := []) (NT := []) (AN := n_Gr_addNode_at_newGrperform45_an) (OT := [o_Gr_addNode_at_newGrperform45_0]) 0 200 (List.forall_mem_cons.mpr ⟨oo_Gr_addNode_at_newGrperform45_0, List.forall_mem_nil _⟩) (by decide +kernel) ⟨List.forall_mem_cons.mpr ⟨gf_Gr_9, List.forall_mem_cons.mpr ⟨gf_Gr_21, List.forall_mem_cons.mpr ⟨gf_Gr_25, List.forall_mem_cons.mpr ⟨gf_Gr_29, List.forall_mem_cons.mpr ⟨gf_Gr_32, List.forall_mem_cons.mpr ⟨gf_Gr_56, List.forall_mem_nil _⟩⟩⟩⟩⟩⟩, List.forall_mem_cons.mpr ⟨pf_Gr_9, List.forall_mem_nil _⟩, List.forall_mem_cons.mpr ⟨cl_copy rfl rfl (by decide) (by decide) (by decide) wm_748 wm_750 wm_749 wm_15, List.forall_mem_nil _⟩, List.forall_mem_nil _, List.forall_mem_nil _⟩ (by decide +kernel)
def n_Gr_clear_an : List an_T := []
def t_Gr_clear_ct : ct_L := [(93, 71, e_jArr_fill1_v7), (117, 71, e_jArr_fill1_v8)]
set_option maxRecDepth 100000 in
theorem c_Gr_clear {l : Launch} {D : va_G} {kA : Nat → ClassId} : ct_ok l D kA GG y_Gr_clear z_Gr_clear e_Gr_clear := chk_all_ok (FT := [(56, 3, 14), (59, 3, 15)]) (PT := [(9, 3, 0, .int), (15, 3, 1, .int), (18, 3, 2, .int), (65, 3, 17, .int), (68, 3, 18, .int)]) (CT := t_Gr_clear_ct) (KT := []) (NT := []) (AN := n_Gr_clear_an) (OT := []) 0 200 (List.forall_mem_nil _) (by decide +kernel) ⟨List.forall_mem_cons.mpr ⟨gf_Gr_56, List.forall_mem_cons.mpr ⟨gf_Gr_59, List.forall_mem_nil _⟩⟩, List.forall_mem_cons.mpr ⟨pf_Gr_9, List.forall_mem_cons.mpr ⟨pf_Gr_15, List.forall_mem_cons.mpr ⟨pf_Gr_18, List.forall_mem_cons.mpr ⟨pf_Gr_65, List.forall_mem_cons.mpr ⟨pf_Gr_68, List.forall_mem_nil _⟩⟩⟩⟩⟩, List.forall_mem_cons.mpr ⟨cl_static (y := y_jArr_fill1) c_jArr_fill1_v7 wm_55 wm_4 wm_53 wm_54 ⟨by decide, by decide, by decide +kernel⟩ (by decide), List.forall_mem_cons.mpr ⟨cl_static (y := y_jArr_fill1) c_jArr_fill1_v8 wm_55 wm_4 wm_53 wm_54 ⟨by decide, by decide, by decide +kernel⟩ (by decide), List.forall_mem_nil _⟩⟩, List.forall_mem_nil _, List.forall_mem_nil _⟩ (by decide +kernel)
def n_Gr_distance_an : List an_T := [(7, [(0, (2, 0, 0, [3])), (1, (0, 0, 23, [])), (2, (0, 0, 23, [])), (3, (0, 0, 16777215, [])), (4, (0, 0, 24, []))], [], (0, 0), [(0, 0, 99993), (1, 4, 24), (0, 0, 100000)], [], [], [], 0, [], [])]
def t_Gr_distance_ct : ct_L := [(114, 90, e_Fa_nearOf_at_Grnear)]
set_option maxRecDepth 100000 in
theorem c_Gr_distance {l : Launch} {D : va_G} {kA : Nat → ClassId} (h_Fa_nearOf_at_Grnear : ct_ok l D kA GG y_Fa_nearOf_at_Grnear z_Fa_nearOf_at_Grnear e_Fa_nearOf_at_Grnear) : ct_ok l D kA GG y_Gr_distance z_Gr_distance e_Gr_distance := chk_all_ok (FT := [(9, 3, 0), (56, 3, 14)]) (PT := []) (CT := t_Gr_distance_ct) (KT := []) (NT := []) (AN := n_Gr_distance_an) (OT := []) 3 200 (List.forall_mem_nil _) (by decide +kernel) ⟨List.forall_mem_cons.mpr ⟨gf_Gr_9, List.forall_mem_cons.mpr ⟨gf_Gr_56, List.forall_mem_nil _⟩⟩, List.forall_mem_nil _, List.forall_mem_cons.mpr ⟨cl_static (y := y_Fa_nearOf_at_Grnear) h_Fa_nearOf_at_Grnear wm_824 wm_7 wm_1022 wm_823 ⟨by decide, by decide, by decide +kernel⟩ (by decide), List.forall_mem_nil _⟩, List.forall_mem_nil _, List.forall_mem_nil _⟩ (by decide +kernel)
def n_Gr_findNode_at_Retape_an : List an_T := [(3, [(0, (2, 0, 0, [3])), (1, (2, 0, 0, [109])), (2, (0, 0, 2000, [])), (3, (0, -2000, 2000, [])), (4, (0, 0, 24, []))], [], (0, 0), [(0, 0, 99997), (1, 4, 24), (0, 0, 100000)], [], [], [], 0, [], [])]
def t_Gr_findNode_at_Retape_ct : ct_L := [(88, 96, e_Gr_hasLetters_at_Retape)]
set_option maxRecDepth 100000 in
theorem c_Gr_findNode_at_Retape {l : Launch} {D : va_G} {kA : Nat → ClassId} (h_Gr_hasLetters_at_Retape : ct_ok l D kA GG y_Gr_hasLetters_at_Retape z_Gr_hasLetters_at_Retape e_Gr_hasLetters_at_Retape) : ct_ok l D kA GG y_Gr_findNode_at_Retape z_Gr_findNode_at_Retape e_Gr_findNode_at_Retape := chk_all_ok (FT := [(9, 3, 0), (25, 3, 4)]) (PT := []) (CT := t_Gr_findNode_at_Retape_ct) (KT := []) (NT := []) (AN := n_Gr_findNode_at_Retape_an) (OT := []) 3 200 (List.forall_mem_nil _) (by decide +kernel) ⟨List.forall_mem_cons.mpr ⟨gf_Gr_9, List.forall_mem_cons.mpr ⟨gf_Gr_25, List.forall_mem_nil _⟩⟩, List.forall_mem_nil _, List.forall_mem_cons.mpr ⟨cl_virtual (y := y_Gr_hasLetters_at_Retape) (ci := 3) rfl rfl ⟨_, _, rfl⟩ (by decide +kernel) h_Gr_hasLetters_at_Retape wm_743 wm_3 wm_740 wm_742 wv_1_7 ⟨by decide, by decide, by decide +kernel⟩ (by decide), List.forall_mem_nil _⟩, List.forall_mem_nil _, List.forall_mem_nil _⟩ (by decide +kernel)
def n_Gr_findNode_at_newGrhasNextName1_an : List an_T := [(3, [(0, (2, 0, 0, [3])), (1, (2, 0, 0, [270])), (2, (0, 0, 0, [])), (3, (0, 2, 3, [])), (4, (0, 0, 24, []))], [], (0, 0), [(0, 0, 99997), (1, 4, 24), (0, 0, 100000)], [], [], [], 0, [], [])]
def t_Gr_findNode_at_newGrhasNextName1_ct : ct_L := [(88, 96, e_Gr_hasLetters_at_newGrhasNextName1)]
set_option maxRecDepth 100000 in
theorem c_Gr_findNode_at_newGrhasNextName1 {l : Launch} {D : va_G} {kA : Nat → ClassId} (h_Gr_hasLetters_at_newGrhasNextName1 : ct_ok l D kA GG y_Gr_hasLetters_at_newGrhasNextName1 z_Gr_hasLetters_at_newGrhasNextName1 e_Gr_hasLetters_at_newGrhasNextName1) : ct_ok l D kA GG y_Gr_findNode_at_newGrhasNextName1 z_Gr_findNode_at_newGrhasNextName1 e_Gr_findNode_at_newGrhasNextName1 := chk_all_ok (FT := [(9, 3, 0), (25, 3, 4)]) (PT := []) (CT := t_Gr_findNode_at_newGrhasNextName1_ct) (KT := []) (NT := []) (AN := n_Gr_findNode_at_newGrhasNextName1_an) (OT := []) 3 200 (List.forall_mem_nil _) (by decide +kernel) ⟨List.forall_mem_cons.mpr ⟨gf_Gr_9, List.forall_mem_cons.mpr ⟨gf_Gr_25, List.forall_mem_nil _⟩⟩, List.forall_mem_nil _, List.forall_mem_cons.mpr ⟨cl_virtual (y := y_Gr_hasLetters_at_newGrhasNextName1) (ci := 3) rfl rfl ⟨_, _, rfl⟩ (by decide +kernel) h_Gr_hasLetters_at_newGrhasNextName1 wm_743 wm_3 wm_740 wm_742 wv_1_7 ⟨by decide, by decide, by decide +kernel⟩ (by decide), List.forall_mem_nil _⟩, List.forall_mem_nil _, List.forall_mem_nil _⟩ (by decide +kernel)
def o_Gr_pack_0 : or_T := (32, 11, [(1, (0, 0, 30, [])), (3, (0, 122, 122, [])), (4, (0, 0, 3660, [])), (9, (0, 2, 3662, [])), (10, (0, 0, 0, []))], [(6, [9, 4], [2]), (100, [2, 7, 8], []), (100, [2, 4, 5], []), (3, [4, 1, 3], [])], [], [], [(23, [9, 10, 1], [2, 1, -3, -122])], [], [(9, 4, 2, 2)])
theorem oo_Gr_pack_0 {kA : Nat → ClassId} : or_ok kA GG o_Gr_pack_0 := by
  intro A ta ws vs hD hth hl hk hds hf
  have hl : vs.length = 11 := hl
  have hk : ∀ q ∈ ([(1, (0, 0, 30, [])), (3, (0, 122, 122, [])), (4, (0, 0, 3660, [])), (9, (0, 2, 3662, [])), (10, (0, 0, 0, []))] : List (Nat × tv_T)), tv_ok ta q.2 (n_v vs q.1) := hk
  obtain ⟨t1, hk⟩ := List.forall_mem_cons.mp hk
  have t1 : tv_ok ta (0, 0, 30, []) (n_v vs 1) := t1
  have k1 : 0 ≤ v_iv (n_v vs 1) ∧ v_iv (n_v vs 1) ≤ 30 := tv_rng t1
  obtain ⟨t3, hk⟩ := List.forall_mem_cons.mp hk
  have t3 : tv_ok ta (0, 122, 122, []) (n_v vs 3) := t3
  have k3 : 122 ≤ v_iv (n_v vs 3) ∧ v_iv (n_v vs 3) ≤ 122 := tv_rng t3
  obtain ⟨t4, hk⟩ := List.forall_mem_cons.mp hk
  have t4 : tv_ok ta (0, 0, 3660, []) (n_v vs 4) := t4
  have k4 : 0 ≤ v_iv (n_v vs 4) ∧ v_iv (n_v vs 4) ≤ 3660 := tv_rng t4
  obtain ⟨t9, hk⟩ := List.forall_mem_cons.mp hk
  have t9 : tv_ok ta (0, 2, 3662, []) (n_v vs 9) := t9
  have k9 : 2 ≤ v_iv (n_v vs 9) ∧ v_iv (n_v vs 9) ≤ 3662 := tv_rng t9
  obtain ⟨t10, hk⟩ := List.forall_mem_cons.mp hk
  have t10 : tv_ok ta (0, 0, 0, []) (n_v vs 10) := t10
  have k10 : 0 ≤ v_iv (n_v vs 10) ∧ v_iv (n_v vs 10) ≤ 0 := tv_rng t10
  have hds : ∀ q ∈ ([(9, 4, 2, 2)] : List of_T), n_iv vs q.2.1 + q.2.2.1 ≤ n_iv vs q.1 ∧ n_iv vs q.1 ≤ n_iv vs q.2.1 + q.2.2.2 := hds
  obtain ⟨d0, hds⟩ := List.forall_mem_cons.mp hds
  have d0 : v_iv (n_v vs 4) + 2 ≤ v_iv (n_v vs 9) ∧ v_iv (n_v vs 9) ≤ v_iv (n_v vs 4) + 2 := d0
  have hf : fc_ok [(6, [9, 4], [2]), (100, [2, 7, 8], []), (100, [2, 4, 5], []), (3, [4, 1, 3], [])] ta ws vs := hf
  obtain ⟨f0, hf⟩ := fc_un (by decide) hf
  have f0 : v_iv (n_v vs 9) = v_iv (n_v vs 4) + 2 := f0
  obtain ⟨ta1, w1, le1, ⟨_, s1⟩, hf⟩ := fc_us (by decide) hf
  have s1 : (∀ b j, w_el ws b j = if b = v_ad (n_v vs 2) ∧ j = (v_iv (n_v vs 7)).toNat then v_iv (n_v vs 8) else w_el w1 b j) ∧ ∀ b k, w_fd ws b k = w_fd w1 b k := s1
  obtain ⟨ta2, w2, le2, ⟨_, s2⟩, hf⟩ := fc_us (by decide) hf
  have s2 : (∀ b j, w_el w1 b j = if b = v_ad (n_v vs 2) ∧ j = (v_iv (n_v vs 4)).toNat then v_iv (n_v vs 5) else w_el w2 b j) ∧ ∀ b k, w_fd w1 b k = w_fd w2 b k := s2
  obtain ⟨f3, hf⟩ := fc_un (by decide) hf
  have f3 : v_iv (n_v vs 4) = v_iv (n_v vs 1) * v_iv (n_v vs 3) := f3
  rw [show v_iv (n_v vs 3) = 122 from by omega] at f3
  have nf0 : fc_1 (23, [9, 10, 1], [2, 1, -3, -122]) ws (vs) := by
    refine ⟨fun n hn => ?_, ?_⟩
    · have hn : n ∈ [9, 10, 1] := hn
      rw [hl]
      simp only [List.mem_cons, List.not_mem_nil, or_false] at hn
      show n < 11; omega
    · show 1 * v_iv (n_v vs 9) + ((-3) * v_iv (n_v vs 10) + ((-122) * v_iv (n_v vs 1) + 0)) ≤ 2
      omega
  refine ⟨(fun _ h => (by cases h)), [], trivial, ?_, (fun _ h => (by cases h))⟩
  rw [List.append_nil]
  exact List.forall_mem_cons.mpr ⟨⟨by decide, nf0⟩, (fun _ h => (by cases h))⟩
def o_Gr_pack_1 : or_T := (53, 9, [(1, (0, 0, 30, [])), (2, (0, 2, 3784, [])), (3, (0, 0, 23, [])), (5, (0, 1, 24, []))], [(7, [3, 5], [2]), (23, [2, 3, 1], [2, 1, -3, -122])], [(2, (0, 2, 3781, []))], [], [], [], [])
theorem oo_Gr_pack_1 {kA : Nat → ClassId} : or_ok kA GG o_Gr_pack_1 := by
  intro A ta ws vs hD hth hl hk hds hf
  have hl : vs.length = 9 := hl
  have hk : ∀ q ∈ ([(1, (0, 0, 30, [])), (2, (0, 2, 3784, [])), (3, (0, 0, 23, [])), (5, (0, 1, 24, []))] : List (Nat × tv_T)), tv_ok ta q.2 (n_v vs q.1) := hk
  obtain ⟨t1, hk⟩ := List.forall_mem_cons.mp hk
  have t1 : tv_ok ta (0, 0, 30, []) (n_v vs 1) := t1
  have k1 : 0 ≤ v_iv (n_v vs 1) ∧ v_iv (n_v vs 1) ≤ 30 := tv_rng t1
  obtain ⟨t2, hk⟩ := List.forall_mem_cons.mp hk
  have t2 : tv_ok ta (0, 2, 3784, []) (n_v vs 2) := t2
  have k2 : 2 ≤ v_iv (n_v vs 2) ∧ v_iv (n_v vs 2) ≤ 3784 := tv_rng t2
  obtain ⟨t3, hk⟩ := List.forall_mem_cons.mp hk
  have t3 : tv_ok ta (0, 0, 23, []) (n_v vs 3) := t3
  have k3 : 0 ≤ v_iv (n_v vs 3) ∧ v_iv (n_v vs 3) ≤ 23 := tv_rng t3
  obtain ⟨t5, hk⟩ := List.forall_mem_cons.mp hk
  have t5 : tv_ok ta (0, 1, 24, []) (n_v vs 5) := t5
  have k5 : 1 ≤ v_iv (n_v vs 5) ∧ v_iv (n_v vs 5) ≤ 24 := tv_rng t5
  have hf : fc_ok [(7, [3, 5], [2]), (23, [2, 3, 1], [2, 1, -3, -122])] ta ws vs := hf
  obtain ⟨f0, hf⟩ := fc_un (by decide) hf
  have f0 : v_iv (n_v vs 3) < v_iv (n_v vs 5) := f0
  obtain ⟨f1, hf⟩ := fc_un (by decide) hf
  have f1 : 1 * v_iv (n_v vs 2) + ((-3) * v_iv (n_v vs 3) + ((-122) * v_iv (n_v vs 1) + 0)) ≤ 2 := f1
  have rf2 : tv_ok ta (0, 2, 3781, []) (n_v vs 2) := tv_in t2 (by omega) (by omega)
  refine ⟨List.forall_mem_cons.mpr ⟨rf2, (fun _ h => (by cases h))⟩, [], trivial, ?_, (fun _ h => (by cases h))⟩
  rw [List.append_nil]
  exact (fun _ h => (by cases h))
def o_Gr_pack_2 : or_T := (71, 16, [(1, (0, 0, 30, [])), (2, (0, 2, 3781, [])), (3, (0, 0, 23, [])), (5, (0, 1, 24, [])), (9, (0, 1, 1, [])), (10, (0, 3, 3782, []))], [(1, [10, 2, 9], []), (23, [2, 3, 1], [2, 1, -3, -122]), (100, [4, 2, 8], []), (7, [3, 5], [2]), (23, [2, 3, 1], [2, 1, -3, -122])], [(10, (0, 3, 3781, []))], [], [], [], [(10, 2, 1, 1)])
theorem oo_Gr_pack_2 {kA : Nat → ClassId} : or_ok kA GG o_Gr_pack_2 := by
  intro A ta ws vs hD hth hl hk hds hf
  have hl : vs.length = 16 := hl
  have hk : ∀ q ∈ ([(1, (0, 0, 30, [])), (2, (0, 2, 3781, [])), (3, (0, 0, 23, [])), (5, (0, 1, 24, [])), (9, (0, 1, 1, [])), (10, (0, 3, 3782, []))] : List (Nat × tv_T)), tv_ok ta q.2 (n_v vs q.1) := hk
  obtain ⟨t1, hk⟩ := List.forall_mem_cons.mp hk
  have t1 : tv_ok ta (0, 0, 30, []) (n_v vs 1) := t1
  have k1 : 0 ≤ v_iv (n_v vs 1) ∧ v_iv (n_v vs 1) ≤ 30 := tv_rng t1
  obtain ⟨t2, hk⟩ := List.forall_mem_cons.mp hk
  have t2 : tv_ok ta (0, 2, 3781, []) (n_v vs 2) := t2
  have k2 : 2 ≤ v_iv (n_v vs 2) ∧ v_iv (n_v vs 2) ≤ 3781 := tv_rng t2
  obtain ⟨t3, hk⟩ := List.forall_mem_cons.mp hk
  have t3 : tv_ok ta (0, 0, 23, []) (n_v vs 3) := t3
  have k3 : 0 ≤ v_iv (n_v vs 3) ∧ v_iv (n_v vs 3) ≤ 23 := tv_rng t3
  obtain ⟨t5, hk⟩ := List.forall_mem_cons.mp hk
  have t5 : tv_ok ta (0, 1, 24, []) (n_v vs 5) := t5
  have k5 : 1 ≤ v_iv (n_v vs 5) ∧ v_iv (n_v vs 5) ≤ 24 := tv_rng t5
  obtain ⟨t9, hk⟩ := List.forall_mem_cons.mp hk
  have t9 : tv_ok ta (0, 1, 1, []) (n_v vs 9) := t9
  have k9 : 1 ≤ v_iv (n_v vs 9) ∧ v_iv (n_v vs 9) ≤ 1 := tv_rng t9
  obtain ⟨t10, hk⟩ := List.forall_mem_cons.mp hk
  have t10 : tv_ok ta (0, 3, 3782, []) (n_v vs 10) := t10
  have k10 : 3 ≤ v_iv (n_v vs 10) ∧ v_iv (n_v vs 10) ≤ 3782 := tv_rng t10
  have hds : ∀ q ∈ ([(10, 2, 1, 1)] : List of_T), n_iv vs q.2.1 + q.2.2.1 ≤ n_iv vs q.1 ∧ n_iv vs q.1 ≤ n_iv vs q.2.1 + q.2.2.2 := hds
  obtain ⟨d0, hds⟩ := List.forall_mem_cons.mp hds
  have d0 : v_iv (n_v vs 2) + 1 ≤ v_iv (n_v vs 10) ∧ v_iv (n_v vs 10) ≤ v_iv (n_v vs 2) + 1 := d0
  have hf : fc_ok [(1, [10, 2, 9], []), (23, [2, 3, 1], [2, 1, -3, -122]), (100, [4, 2, 8], []), (7, [3, 5], [2]), (23, [2, 3, 1], [2, 1, -3, -122])] ta ws vs := hf
  obtain ⟨f0, hf⟩ := fc_un (by decide) hf
  have f0 : v_iv (n_v vs 10) = v_iv (n_v vs 2) + v_iv (n_v vs 9) := f0
  obtain ⟨f1, hf⟩ := fc_un (by decide) hf
  have f1 : 1 * v_iv (n_v vs 2) + ((-3) * v_iv (n_v vs 3) + ((-122) * v_iv (n_v vs 1) + 0)) ≤ 2 := f1
  obtain ⟨ta1, w1, le1, ⟨_, s1⟩, hf⟩ := fc_us (by decide) hf
  have s1 : (∀ b j, w_el ws b j = if b = v_ad (n_v vs 4) ∧ j = (v_iv (n_v vs 2)).toNat then v_iv (n_v vs 8) else w_el w1 b j) ∧ ∀ b k, w_fd ws b k = w_fd w1 b k := s1
  obtain ⟨f3, hf⟩ := fc_un (by decide) hf
  have f3 : v_iv (n_v vs 3) < v_iv (n_v vs 5) := f3
  obtain ⟨f4, hf⟩ := fc_un (by decide) hf
  have f4 : 1 * v_iv (n_v vs 2) + ((-3) * v_iv (n_v vs 3) + ((-122) * v_iv (n_v vs 1) + 0)) ≤ 2 := f4
  have rf10 : tv_ok ta (0, 3, 3781, []) (n_v vs 10) := tv_in t10 (by omega) (by omega)
  refine ⟨List.forall_mem_cons.mpr ⟨rf10, (fun _ h => (by cases h))⟩, [], trivial, ?_, (fun _ h => (by cases h))⟩
  rw [List.append_nil]
  exact (fun _ h => (by cases h))
def o_Gr_pack_3 : or_T := (105, 30, [(1, (0, 0, 30, [])), (2, (0, 2, 3781, [])), (3, (0, 0, 23, [])), (5, (0, 1, 24, [])), (16, (0, 2, 2, [])), (17, (0, 4, 3783, []))], [(1, [17, 2, 16], []), (23, [2, 3, 1], [2, 1, -3, -122]), (100, [4, 10, 15], []), (23, [2, 3, 1], [2, 1, -3, -122]), (100, [4, 2, 8], []), (7, [3, 5], [2]), (23, [2, 3, 1], [2, 1, -3, -122])], [(17, (0, 4, 3781, []))], [], [], [], [(17, 2, 2, 2)])
theorem oo_Gr_pack_3 {kA : Nat → ClassId} : or_ok kA GG o_Gr_pack_3 := by
  intro A ta ws vs hD hth hl hk hds hf
  have hl : vs.length = 30 := hl
  have hk : ∀ q ∈ ([(1, (0, 0, 30, [])), (2, (0, 2, 3781, [])), (3, (0, 0, 23, [])), (5, (0, 1, 24, [])), (16, (0, 2, 2, [])), (17, (0, 4, 3783, []))] : List (Nat × tv_T)), tv_ok ta q.2 (n_v vs q.1) := hk
  obtain ⟨t1, hk⟩ := List.forall_mem_cons.mp hk
  have t1 : tv_ok ta (0, 0, 30, []) (n_v vs 1) := t1
  have k1 : 0 ≤ v_iv (n_v vs 1) ∧ v_iv (n_v vs 1) ≤ 30 := tv_rng t1
  obtain ⟨t2, hk⟩ := List.forall_mem_cons.mp hk
  have t2 : tv_ok ta (0, 2, 3781, []) (n_v vs 2) := t2
  have k2 : 2 ≤ v_iv (n_v vs 2) ∧ v_iv (n_v vs 2) ≤ 3781 := tv_rng t2
  obtain ⟨t3, hk⟩ := List.forall_mem_cons.mp hk
  have t3 : tv_ok ta (0, 0, 23, []) (n_v vs 3) := t3
  have k3 : 0 ≤ v_iv (n_v vs 3) ∧ v_iv (n_v vs 3) ≤ 23 := tv_rng t3
  obtain ⟨t5, hk⟩ := List.forall_mem_cons.mp hk
  have t5 : tv_ok ta (0, 1, 24, []) (n_v vs 5) := t5
  have k5 : 1 ≤ v_iv (n_v vs 5) ∧ v_iv (n_v vs 5) ≤ 24 := tv_rng t5
  obtain ⟨t16, hk⟩ := List.forall_mem_cons.mp hk
  have t16 : tv_ok ta (0, 2, 2, []) (n_v vs 16) := t16
  have k16 : 2 ≤ v_iv (n_v vs 16) ∧ v_iv (n_v vs 16) ≤ 2 := tv_rng t16
  obtain ⟨t17, hk⟩ := List.forall_mem_cons.mp hk
  have t17 : tv_ok ta (0, 4, 3783, []) (n_v vs 17) := t17
  have k17 : 4 ≤ v_iv (n_v vs 17) ∧ v_iv (n_v vs 17) ≤ 3783 := tv_rng t17
  have hds : ∀ q ∈ ([(17, 2, 2, 2)] : List of_T), n_iv vs q.2.1 + q.2.2.1 ≤ n_iv vs q.1 ∧ n_iv vs q.1 ≤ n_iv vs q.2.1 + q.2.2.2 := hds
  obtain ⟨d0, hds⟩ := List.forall_mem_cons.mp hds
  have d0 : v_iv (n_v vs 2) + 2 ≤ v_iv (n_v vs 17) ∧ v_iv (n_v vs 17) ≤ v_iv (n_v vs 2) + 2 := d0
  have hf : fc_ok [(1, [17, 2, 16], []), (23, [2, 3, 1], [2, 1, -3, -122]), (100, [4, 10, 15], []), (23, [2, 3, 1], [2, 1, -3, -122]), (100, [4, 2, 8], []), (7, [3, 5], [2]), (23, [2, 3, 1], [2, 1, -3, -122])] ta ws vs := hf
  obtain ⟨f0, hf⟩ := fc_un (by decide) hf
  have f0 : v_iv (n_v vs 17) = v_iv (n_v vs 2) + v_iv (n_v vs 16) := f0
  obtain ⟨f1, hf⟩ := fc_un (by decide) hf
  have f1 : 1 * v_iv (n_v vs 2) + ((-3) * v_iv (n_v vs 3) + ((-122) * v_iv (n_v vs 1) + 0)) ≤ 2 := f1
  obtain ⟨ta1, w1, le1, ⟨_, s1⟩, hf⟩ := fc_us (by decide) hf
  have s1 : (∀ b j, w_el ws b j = if b = v_ad (n_v vs 4) ∧ j = (v_iv (n_v vs 10)).toNat then v_iv (n_v vs 15) else w_el w1 b j) ∧ ∀ b k, w_fd ws b k = w_fd w1 b k := s1
  obtain ⟨f3, hf⟩ := fc_un (by decide) hf
  have f3 : 1 * v_iv (n_v vs 2) + ((-3) * v_iv (n_v vs 3) + ((-122) * v_iv (n_v vs 1) + 0)) ≤ 2 := f3
  obtain ⟨ta2, w2, le2, ⟨_, s2⟩, hf⟩ := fc_us (by decide) hf
  have s2 : (∀ b j, w_el w1 b j = if b = v_ad (n_v vs 4) ∧ j = (v_iv (n_v vs 2)).toNat then v_iv (n_v vs 8) else w_el w2 b j) ∧ ∀ b k, w_fd w1 b k = w_fd w2 b k := s2
  obtain ⟨f5, hf⟩ := fc_un (by decide) hf
  have f5 : v_iv (n_v vs 3) < v_iv (n_v vs 5) := f5
  obtain ⟨f6, hf⟩ := fc_un (by decide) hf
  have f6 : 1 * v_iv (n_v vs 2) + ((-3) * v_iv (n_v vs 3) + ((-122) * v_iv (n_v vs 1) + 0)) ≤ 2 := f6
  have rf17 : tv_ok ta (0, 4, 3781, []) (n_v vs 17) := tv_in t17 (by omega) (by omega)
  refine ⟨List.forall_mem_cons.mpr ⟨rf17, (fun _ h => (by cases h))⟩, [], trivial, ?_, (fun _ h => (by cases h))⟩
  rw [List.append_nil]
  exact (fun _ h => (by cases h))
def o_Gr_pack_4 : or_T := (32, 32, [(1, (0, 0, 30, [])), (2, (0, 2, 3781, [])), (3, (0, 0, 23, [])), (5, (0, 1, 24, [])), (30, (0, 5, 3784, [])), (31, (0, 1, 24, []))], [(6, [31, 3], [1]), (6, [30, 2], [3]), (23, [2, 3, 1], [2, 1, -3, -122]), (100, [4, 17, 29], []), (23, [2, 3, 1], [2, 1, -3, -122]), (100, [4, 10, 15], []), (23, [2, 3, 1], [2, 1, -3, -122]), (100, [4, 2, 8], []), (7, [3, 5], [2]), (23, [2, 3, 1], [2, 1, -3, -122])], [], [], [(23, [30, 31, 1], [2, 1, -3, -122])], [], [(31, 3, 1, 1), (30, 2, 3, 3)])
theorem oo_Gr_pack_4 {kA : Nat → ClassId} : or_ok kA GG o_Gr_pack_4 := by
  intro A ta ws vs hD hth hl hk hds hf
  have hl : vs.length = 32 := hl
  have hk : ∀ q ∈ ([(1, (0, 0, 30, [])), (2, (0, 2, 3781, [])), (3, (0, 0, 23, [])), (5, (0, 1, 24, [])), (30, (0, 5, 3784, [])), (31, (0, 1, 24, []))] : List (Nat × tv_T)), tv_ok ta q.2 (n_v vs q.1) := hk
  obtain ⟨t1, hk⟩ := List.forall_mem_cons.mp hk
  have t1 : tv_ok ta (0, 0, 30, []) (n_v vs 1) := t1
  have k1 : 0 ≤ v_iv (n_v vs 1) ∧ v_iv (n_v vs 1) ≤ 30 := tv_rng t1
  obtain ⟨t2, hk⟩ := List.forall_mem_cons.mp hk
  have t2 : tv_ok ta (0, 2, 3781, []) (n_v vs 2) := t2
  have k2 : 2 ≤ v_iv (n_v vs 2) ∧ v_iv (n_v vs 2) ≤ 3781 := tv_rng t2
  obtain ⟨t3, hk⟩ := List.forall_mem_cons.mp hk
  have t3 : tv_ok ta (0, 0, 23, []) (n_v vs 3) := t3
  have k3 : 0 ≤ v_iv (n_v vs 3) ∧ v_iv (n_v vs 3) ≤ 23 := tv_rng t3
  obtain ⟨t5, hk⟩ := List.forall_mem_cons.mp hk
  have t5 : tv_ok ta (0, 1, 24, []) (n_v vs 5) := t5
  have k5 : 1 ≤ v_iv (n_v vs 5) ∧ v_iv (n_v vs 5) ≤ 24 := tv_rng t5
  obtain ⟨t30, hk⟩ := List.forall_mem_cons.mp hk
  have t30 : tv_ok ta (0, 5, 3784, []) (n_v vs 30) := t30
  have k30 : 5 ≤ v_iv (n_v vs 30) ∧ v_iv (n_v vs 30) ≤ 3784 := tv_rng t30
  obtain ⟨t31, hk⟩ := List.forall_mem_cons.mp hk
  have t31 : tv_ok ta (0, 1, 24, []) (n_v vs 31) := t31
  have k31 : 1 ≤ v_iv (n_v vs 31) ∧ v_iv (n_v vs 31) ≤ 24 := tv_rng t31
  have hds : ∀ q ∈ ([(31, 3, 1, 1), (30, 2, 3, 3)] : List of_T), n_iv vs q.2.1 + q.2.2.1 ≤ n_iv vs q.1 ∧ n_iv vs q.1 ≤ n_iv vs q.2.1 + q.2.2.2 := hds
  obtain ⟨d0, hds⟩ := List.forall_mem_cons.mp hds
  have d0 : v_iv (n_v vs 3) + 1 ≤ v_iv (n_v vs 31) ∧ v_iv (n_v vs 31) ≤ v_iv (n_v vs 3) + 1 := d0
  obtain ⟨d1, hds⟩ := List.forall_mem_cons.mp hds
  have d1 : v_iv (n_v vs 2) + 3 ≤ v_iv (n_v vs 30) ∧ v_iv (n_v vs 30) ≤ v_iv (n_v vs 2) + 3 := d1
  have hf : fc_ok [(6, [31, 3], [1]), (6, [30, 2], [3]), (23, [2, 3, 1], [2, 1, -3, -122]), (100, [4, 17, 29], []), (23, [2, 3, 1], [2, 1, -3, -122]), (100, [4, 10, 15], []), (23, [2, 3, 1], [2, 1, -3, -122]), (100, [4, 2, 8], []), (7, [3, 5], [2]), (23, [2, 3, 1], [2, 1, -3, -122])] ta ws vs := hf
  obtain ⟨f0, hf⟩ := fc_un (by decide) hf
  have f0 : v_iv (n_v vs 31) = v_iv (n_v vs 3) + 1 := f0
  obtain ⟨f1, hf⟩ := fc_un (by decide) hf
  have f1 : v_iv (n_v vs 30) = v_iv (n_v vs 2) + 3 := f1
  obtain ⟨f2, hf⟩ := fc_un (by decide) hf
  have f2 : 1 * v_iv (n_v vs 2) + ((-3) * v_iv (n_v vs 3) + ((-122) * v_iv (n_v vs 1) + 0)) ≤ 2 := f2
  obtain ⟨ta1, w1, le1, ⟨_, s1⟩, hf⟩ := fc_us (by decide) hf
  have s1 : (∀ b j, w_el ws b j = if b = v_ad (n_v vs 4) ∧ j = (v_iv (n_v vs 17)).toNat then v_iv (n_v vs 29) else w_el w1 b j) ∧ ∀ b k, w_fd ws b k = w_fd w1 b k := s1
  obtain ⟨f4, hf⟩ := fc_un (by decide) hf
  have f4 : 1 * v_iv (n_v vs 2) + ((-3) * v_iv (n_v vs 3) + ((-122) * v_iv (n_v vs 1) + 0)) ≤ 2 := f4
  obtain ⟨ta2, w2, le2, ⟨_, s2⟩, hf⟩ := fc_us (by decide) hf
  have s2 : (∀ b j, w_el w1 b j = if b = v_ad (n_v vs 4) ∧ j = (v_iv (n_v vs 10)).toNat then v_iv (n_v vs 15) else w_el w2 b j) ∧ ∀ b k, w_fd w1 b k = w_fd w2 b k := s2
  obtain ⟨f6, hf⟩ := fc_un (by decide) hf
  have f6 : 1 * v_iv (n_v vs 2) + ((-3) * v_iv (n_v vs 3) + ((-122) * v_iv (n_v vs 1) + 0)) ≤ 2 := f6
  obtain ⟨ta3, w3, le3, ⟨_, s3⟩, hf⟩ := fc_us (by decide) hf
  have s3 : (∀ b j, w_el w2 b j = if b = v_ad (n_v vs 4) ∧ j = (v_iv (n_v vs 2)).toNat then v_iv (n_v vs 8) else w_el w3 b j) ∧ ∀ b k, w_fd w2 b k = w_fd w3 b k := s3
  obtain ⟨f8, hf⟩ := fc_un (by decide) hf
  have f8 : v_iv (n_v vs 3) < v_iv (n_v vs 5) := f8
  obtain ⟨f9, hf⟩ := fc_un (by decide) hf
  have f9 : 1 * v_iv (n_v vs 2) + ((-3) * v_iv (n_v vs 3) + ((-122) * v_iv (n_v vs 1) + 0)) ≤ 2 := f9
  have nf0 : fc_1 (23, [30, 31, 1], [2, 1, -3, -122]) ws (vs) := by
    refine ⟨fun n hn => ?_, ?_⟩
    · have hn : n ∈ [30, 31, 1] := hn
      rw [hl]
      simp only [List.mem_cons, List.not_mem_nil, or_false] at hn
      show n < 32; omega
    · show 1 * v_iv (n_v vs 30) + ((-3) * v_iv (n_v vs 31) + ((-122) * v_iv (n_v vs 1) + 0)) ≤ 2
      omega
  refine ⟨(fun _ h => (by cases h)), [], trivial, ?_, (fun _ h => (by cases h))⟩
  rw [List.append_nil]
  exact List.forall_mem_cons.mpr ⟨⟨by decide, nf0⟩, (fun _ h => (by cases h))⟩
def n_Gr_pack_an : List an_T := [(32, [(0, (2, 0, 0, [3])), (1, (0, 0, 30, [])), (2, (0, 2, 3784, [])), (3, (0, 0, 24, []))], [], (0, 0), [(0, 0, 99968), (1, 2, 3784), (0, 0, 100000)], [], [((0, 16), (2, 0, 0, [61]))], [], 0, [], [(23, [2, 3, 1], [2, 1, -3, -122])]), (127, [(0, (2, 0, 0, [3])), (1, (0, 0, 30, [])), (2, (0, 74, 3734, [])), (3, (0, 0, 48, []))], [], (0, 0), [(0, 0, 99873), (1, 3, 48), (0, 0, 100000)], [], [((0, 16), (2, 0, 0, [61]))], [], 0, [], [])]
def t_Gr_pack_ct : ct_L := [(1, 149, e_Gr_fourLetters)]
set_option maxRecDepth 100000 in
theorem c_Gr_pack {l : Launch} {D : va_G} {kA : Nat → ClassId} (h_Gr_fourLetters : ct_ok l D kA GG y_Gr_fourLetters z_Gr_fourLetters e_Gr_fourLetters) : ct_ok l D kA GG y_Gr_pack z_Gr_pack e_Gr_pack := chk_all_ok (FT := [(9, 3, 0), (15, 3, 1), (25, 3, 4), (29, 3, 5), (32, 3, 6), (35, 3, 7), (38, 3, 8), (41, 3, 9), (44, 3, 10), (62, 3, 16)]) (PT := []) (CT := t_Gr_pack_ct) (KT := []) (NT := []) (AN := n_Gr_pack_an) (OT := [o_Gr_pack_0, o_Gr_pack_1, o_Gr_pack_2, o_Gr_pack_3, o_Gr_pack_4]) 3 488 (List.forall_mem_cons.mpr ⟨oo_Gr_pack_0, List.forall_mem_cons.mpr ⟨oo_Gr_pack_1, List.forall_mem_cons.mpr ⟨oo_Gr_pack_2, List.forall_mem_cons.mpr ⟨oo_Gr_pack_3, List.forall_mem_cons.mpr ⟨oo_Gr_pack_4, List.forall_mem_nil _⟩⟩⟩⟩⟩) (by decide +kernel) ⟨List.forall_mem_cons.mpr ⟨gf_Gr_9, List.forall_mem_cons.mpr ⟨gf_Gr_15, List.forall_mem_cons.mpr ⟨gf_Gr_25, List.forall_mem_cons.mpr ⟨gf_Gr_29, List.forall_mem_cons.mpr ⟨gf_Gr_32, List.forall_mem_cons.mpr ⟨gf_Gr_35, List.forall_mem_cons.mpr ⟨gf_Gr_38, List.forall_mem_cons.mpr ⟨gf_Gr_41, List.forall_mem_cons.mpr ⟨gf_Gr_44, List.forall_mem_cons.mpr ⟨gf_Gr_62, List.forall_mem_nil _⟩⟩⟩⟩⟩⟩⟩⟩⟩⟩, List.forall_mem_nil _, List.forall_mem_cons.mpr ⟨cl_virtual (y := y_Gr_fourLetters) (ci := 3) rfl rfl ⟨_, _, rfl⟩ (by decide +kernel) h_Gr_fourLetters wm_983 wm_3 wm_980 wm_982 wv_2_15 ⟨by decide, by decide, by decide +kernel⟩ (by decide), List.forall_mem_nil _⟩, List.forall_mem_nil _, List.forall_mem_nil _⟩ (by decide +kernel)
def n_Gr_relation_an : List an_T := []
def t_Gr_relation_ct : ct_L := [(1, 86, e_Gr_edgeBetween)]
set_option maxRecDepth 100000 in
theorem c_Gr_relation {l : Launch} {D : va_G} {kA : Nat → ClassId} (h_Gr_edgeBetween : ct_ok l D kA GG y_Gr_edgeBetween z_Gr_edgeBetween e_Gr_edgeBetween) : ct_ok l D kA GG y_Gr_relation z_Gr_relation e_Gr_relation := chk_all_ok (FT := [(35, 3, 7), (44, 3, 10)]) (PT := []) (CT := t_Gr_relation_ct) (KT := []) (NT := []) (AN := n_Gr_relation_an) (OT := []) 0 200 (List.forall_mem_nil _) (by decide +kernel) ⟨List.forall_mem_cons.mpr ⟨gf_Gr_35, List.forall_mem_cons.mpr ⟨gf_Gr_44, List.forall_mem_nil _⟩⟩, List.forall_mem_nil _, List.forall_mem_cons.mpr ⟨cl_virtual (y := y_Gr_edgeBetween) (ci := 3) rfl rfl ⟨_, _, rfl⟩ (by decide +kernel) h_Gr_edgeBetween wm_768 wm_3 wm_970 wm_766 wm_767 ⟨by decide, by decide, by decide +kernel⟩ (by decide), List.forall_mem_nil _⟩, List.forall_mem_nil _, List.forall_mem_nil _⟩ (by decide +kernel)
def o_Gr_removeEdge_0 : or_T := (22, 9, [(1, (0, 0, 47, [])), (2, (0, 1, 48, [])), (3, (0, -46, 48, [])), (4, (0, 1, 1, [])), (5, (0, -47, 47, [])), (7, (0, 1, 1, [])), (8, (0, 1, 48, []))], [(1, [8, 1, 7], []), (2, [5, 3, 4], []), (2, [3, 2, 1], []), (7, [1, 2], [2])], [(5, (0, 0, 47, []))], [], [(21, [8, 5], [48]), (21, [1, 5], [48])], [], [(8, 1, 1, 1), (5, 3, -1, -1), (5, 2, -48, -1), (3, 2, -47, 0)])
theorem oo_Gr_removeEdge_0 {kA : Nat → ClassId} : or_ok kA GG o_Gr_removeEdge_0 := by
  intro A ta ws vs hD hth hl hk hds hf
  have hl : vs.length = 9 := hl
  have hk : ∀ q ∈ ([(1, (0, 0, 47, [])), (2, (0, 1, 48, [])), (3, (0, -46, 48, [])), (4, (0, 1, 1, [])), (5, (0, -47, 47, [])), (7, (0, 1, 1, [])), (8, (0, 1, 48, []))] : List (Nat × tv_T)), tv_ok ta q.2 (n_v vs q.1) := hk
  obtain ⟨t1, hk⟩ := List.forall_mem_cons.mp hk
  have t1 : tv_ok ta (0, 0, 47, []) (n_v vs 1) := t1
  have k1 : 0 ≤ v_iv (n_v vs 1) ∧ v_iv (n_v vs 1) ≤ 47 := tv_rng t1
  obtain ⟨t2, hk⟩ := List.forall_mem_cons.mp hk
  have t2 : tv_ok ta (0, 1, 48, []) (n_v vs 2) := t2
  have k2 : 1 ≤ v_iv (n_v vs 2) ∧ v_iv (n_v vs 2) ≤ 48 := tv_rng t2
  obtain ⟨t3, hk⟩ := List.forall_mem_cons.mp hk
  have t3 : tv_ok ta (0, -46, 48, []) (n_v vs 3) := t3
  have k3 : (-46) ≤ v_iv (n_v vs 3) ∧ v_iv (n_v vs 3) ≤ 48 := tv_rng t3
  obtain ⟨t4, hk⟩ := List.forall_mem_cons.mp hk
  have t4 : tv_ok ta (0, 1, 1, []) (n_v vs 4) := t4
  have k4 : 1 ≤ v_iv (n_v vs 4) ∧ v_iv (n_v vs 4) ≤ 1 := tv_rng t4
  obtain ⟨t5, hk⟩ := List.forall_mem_cons.mp hk
  have t5 : tv_ok ta (0, -47, 47, []) (n_v vs 5) := t5
  have k5 : (-47) ≤ v_iv (n_v vs 5) ∧ v_iv (n_v vs 5) ≤ 47 := tv_rng t5
  obtain ⟨t7, hk⟩ := List.forall_mem_cons.mp hk
  have t7 : tv_ok ta (0, 1, 1, []) (n_v vs 7) := t7
  have k7 : 1 ≤ v_iv (n_v vs 7) ∧ v_iv (n_v vs 7) ≤ 1 := tv_rng t7
  obtain ⟨t8, hk⟩ := List.forall_mem_cons.mp hk
  have t8 : tv_ok ta (0, 1, 48, []) (n_v vs 8) := t8
  have k8 : 1 ≤ v_iv (n_v vs 8) ∧ v_iv (n_v vs 8) ≤ 48 := tv_rng t8
  have hds : ∀ q ∈ ([(8, 1, 1, 1), (5, 3, -1, -1), (5, 2, -48, -1), (3, 2, -47, 0)] : List of_T), n_iv vs q.2.1 + q.2.2.1 ≤ n_iv vs q.1 ∧ n_iv vs q.1 ≤ n_iv vs q.2.1 + q.2.2.2 := hds
  obtain ⟨d0, hds⟩ := List.forall_mem_cons.mp hds
  have d0 : v_iv (n_v vs 1) + 1 ≤ v_iv (n_v vs 8) ∧ v_iv (n_v vs 8) ≤ v_iv (n_v vs 1) + 1 := d0
  obtain ⟨d1, hds⟩ := List.forall_mem_cons.mp hds
  have d1 : v_iv (n_v vs 3) + (-1) ≤ v_iv (n_v vs 5) ∧ v_iv (n_v vs 5) ≤ v_iv (n_v vs 3) + (-1) := d1
  obtain ⟨d2, hds⟩ := List.forall_mem_cons.mp hds
  have d2 : v_iv (n_v vs 2) + (-48) ≤ v_iv (n_v vs 5) ∧ v_iv (n_v vs 5) ≤ v_iv (n_v vs 2) + (-1) := d2
  obtain ⟨d3, hds⟩ := List.forall_mem_cons.mp hds
  have d3 : v_iv (n_v vs 2) + (-47) ≤ v_iv (n_v vs 3) ∧ v_iv (n_v vs 3) ≤ v_iv (n_v vs 2) + 0 := d3
  have hf : fc_ok [(1, [8, 1, 7], []), (2, [5, 3, 4], []), (2, [3, 2, 1], []), (7, [1, 2], [2])] ta ws vs := hf
  obtain ⟨f0, hf⟩ := fc_un (by decide) hf
  have f0 : v_iv (n_v vs 8) = v_iv (n_v vs 1) + v_iv (n_v vs 7) := f0
  obtain ⟨f1, hf⟩ := fc_un (by decide) hf
  have f1 : v_iv (n_v vs 5) = v_iv (n_v vs 3) - v_iv (n_v vs 4) := f1
  obtain ⟨f2, hf⟩ := fc_un (by decide) hf
  have f2 : v_iv (n_v vs 3) = v_iv (n_v vs 2) - v_iv (n_v vs 1) := f2
  obtain ⟨f3, hf⟩ := fc_un (by decide) hf
  have f3 : v_iv (n_v vs 1) < v_iv (n_v vs 2) := f3
  have nf0 : fc_1 (21, [8, 5], [48]) ws (vs) := by
    refine ⟨fun n hn => ?_, ?_⟩
    · have hn : n ∈ [8, 5] := hn
      rw [hl]
      simp only [List.mem_cons, List.not_mem_nil, or_false] at hn
      show n < 9; omega
    · show v_iv (n_v vs 8) + v_iv (n_v vs 5) ≤ 48
      omega
  have nf1 : fc_1 (21, [1, 5], [48]) ws (vs) := by
    refine ⟨fun n hn => ?_, ?_⟩
    · have hn : n ∈ [1, 5] := hn
      rw [hl]
      simp only [List.mem_cons, List.not_mem_nil, or_false] at hn
      show n < 9; omega
    · show v_iv (n_v vs 1) + v_iv (n_v vs 5) ≤ 48
      omega
  have rf5 : tv_ok ta (0, 0, 47, []) (n_v vs 5) := tv_in t5 (by omega) (by omega)
  refine ⟨List.forall_mem_cons.mpr ⟨rf5, (fun _ h => (by cases h))⟩, [], trivial, ?_, (fun _ h => (by cases h))⟩
  rw [List.append_nil]
  exact List.forall_mem_cons.mpr ⟨⟨by decide, nf0⟩, List.forall_mem_cons.mpr ⟨⟨by decide, nf1⟩, (fun _ h => (by cases h))⟩⟩
def o_Gr_removeEdge_1 : or_T := (38, 12, [(1, (0, 0, 47, [])), (2, (0, 1, 48, [])), (3, (0, -46, 48, [])), (4, (0, 1, 1, [])), (5, (0, 0, 47, [])), (7, (0, 1, 1, [])), (8, (0, 1, 48, [])), (10, (0, 1, 1, [])), (11, (0, 1, 48, []))], [(1, [11, 1, 10], []), (21, [8, 5], [48]), (21, [1, 5], [48]), (102, [8], [4503599627370496]), (21, [8, 5], [48]), (21, [1, 5], [48]), (1, [8, 1, 7], []), (2, [5, 3, 4], []), (2, [3, 2, 1], []), (7, [1, 2], [2])], [], [], [(21, [11, 5], [48])], [], [(11, 1, 1, 1), (8, 1, 1, 1), (5, 3, -1, -1), (5, 2, -48, -1), (3, 2, -47, 0)])
theorem oo_Gr_removeEdge_1 {kA : Nat → ClassId} : or_ok kA GG o_Gr_removeEdge_1 := by
  intro A ta ws vs hD hth hl hk hds hf
  have hl : vs.length = 12 := hl
  have hk : ∀ q ∈ ([(1, (0, 0, 47, [])), (2, (0, 1, 48, [])), (3, (0, -46, 48, [])), (4, (0, 1, 1, [])), (5, (0, 0, 47, [])), (7, (0, 1, 1, [])), (8, (0, 1, 48, [])), (10, (0, 1, 1, [])), (11, (0, 1, 48, []))] : List (Nat × tv_T)), tv_ok ta q.2 (n_v vs q.1) := hk
  obtain ⟨t1, hk⟩ := List.forall_mem_cons.mp hk
  have t1 : tv_ok ta (0, 0, 47, []) (n_v vs 1) := t1
  have k1 : 0 ≤ v_iv (n_v vs 1) ∧ v_iv (n_v vs 1) ≤ 47 := tv_rng t1
  obtain ⟨t2, hk⟩ := List.forall_mem_cons.mp hk
  have t2 : tv_ok ta (0, 1, 48, []) (n_v vs 2) := t2
  have k2 : 1 ≤ v_iv (n_v vs 2) ∧ v_iv (n_v vs 2) ≤ 48 := tv_rng t2
  obtain ⟨t3, hk⟩ := List.forall_mem_cons.mp hk
  have t3 : tv_ok ta (0, -46, 48, []) (n_v vs 3) := t3
  have k3 : (-46) ≤ v_iv (n_v vs 3) ∧ v_iv (n_v vs 3) ≤ 48 := tv_rng t3
  obtain ⟨t4, hk⟩ := List.forall_mem_cons.mp hk
  have t4 : tv_ok ta (0, 1, 1, []) (n_v vs 4) := t4
  have k4 : 1 ≤ v_iv (n_v vs 4) ∧ v_iv (n_v vs 4) ≤ 1 := tv_rng t4
  obtain ⟨t5, hk⟩ := List.forall_mem_cons.mp hk
  have t5 : tv_ok ta (0, 0, 47, []) (n_v vs 5) := t5
  have k5 : 0 ≤ v_iv (n_v vs 5) ∧ v_iv (n_v vs 5) ≤ 47 := tv_rng t5
  obtain ⟨t7, hk⟩ := List.forall_mem_cons.mp hk
  have t7 : tv_ok ta (0, 1, 1, []) (n_v vs 7) := t7
  have k7 : 1 ≤ v_iv (n_v vs 7) ∧ v_iv (n_v vs 7) ≤ 1 := tv_rng t7
  obtain ⟨t8, hk⟩ := List.forall_mem_cons.mp hk
  have t8 : tv_ok ta (0, 1, 48, []) (n_v vs 8) := t8
  have k8 : 1 ≤ v_iv (n_v vs 8) ∧ v_iv (n_v vs 8) ≤ 48 := tv_rng t8
  obtain ⟨t10, hk⟩ := List.forall_mem_cons.mp hk
  have t10 : tv_ok ta (0, 1, 1, []) (n_v vs 10) := t10
  have k10 : 1 ≤ v_iv (n_v vs 10) ∧ v_iv (n_v vs 10) ≤ 1 := tv_rng t10
  obtain ⟨t11, hk⟩ := List.forall_mem_cons.mp hk
  have t11 : tv_ok ta (0, 1, 48, []) (n_v vs 11) := t11
  have k11 : 1 ≤ v_iv (n_v vs 11) ∧ v_iv (n_v vs 11) ≤ 48 := tv_rng t11
  have hds : ∀ q ∈ ([(11, 1, 1, 1), (8, 1, 1, 1), (5, 3, -1, -1), (5, 2, -48, -1), (3, 2, -47, 0)] : List of_T), n_iv vs q.2.1 + q.2.2.1 ≤ n_iv vs q.1 ∧ n_iv vs q.1 ≤ n_iv vs q.2.1 + q.2.2.2 := hds
  obtain ⟨d0, hds⟩ := List.forall_mem_cons.mp hds
  have d0 : v_iv (n_v vs 1) + 1 ≤ v_iv (n_v vs 11) ∧ v_iv (n_v vs 11) ≤ v_iv (n_v vs 1) + 1 := d0
  obtain ⟨d1, hds⟩ := List.forall_mem_cons.mp hds
  have d1 : v_iv (n_v vs 1) + 1 ≤ v_iv (n_v vs 8) ∧ v_iv (n_v vs 8) ≤ v_iv (n_v vs 1) + 1 := d1
  obtain ⟨d2, hds⟩ := List.forall_mem_cons.mp hds
  have d2 : v_iv (n_v vs 3) + (-1) ≤ v_iv (n_v vs 5) ∧ v_iv (n_v vs 5) ≤ v_iv (n_v vs 3) + (-1) := d2
  obtain ⟨d3, hds⟩ := List.forall_mem_cons.mp hds
  have d3 : v_iv (n_v vs 2) + (-48) ≤ v_iv (n_v vs 5) ∧ v_iv (n_v vs 5) ≤ v_iv (n_v vs 2) + (-1) := d3
  obtain ⟨d4, hds⟩ := List.forall_mem_cons.mp hds
  have d4 : v_iv (n_v vs 2) + (-47) ≤ v_iv (n_v vs 3) ∧ v_iv (n_v vs 3) ≤ v_iv (n_v vs 2) + 0 := d4
  have hf : fc_ok [(1, [11, 1, 10], []), (21, [8, 5], [48]), (21, [1, 5], [48]), (102, [8], [4503599627370496]), (21, [8, 5], [48]), (21, [1, 5], [48]), (1, [8, 1, 7], []), (2, [5, 3, 4], []), (2, [3, 2, 1], []), (7, [1, 2], [2])] ta ws vs := hf
  obtain ⟨f0, hf⟩ := fc_un (by decide) hf
  have f0 : v_iv (n_v vs 11) = v_iv (n_v vs 1) + v_iv (n_v vs 10) := f0
  obtain ⟨f1, hf⟩ := fc_un (by decide) hf
  have f1 : v_iv (n_v vs 8) + v_iv (n_v vs 5) ≤ 48 := f1
  obtain ⟨f2, hf⟩ := fc_un (by decide) hf
  have f2 : v_iv (n_v vs 1) + v_iv (n_v vs 5) ≤ 48 := f2
  obtain ⟨ta1, w1, le1, ⟨_, s1⟩, hf⟩ := fc_us (by decide) hf
  obtain ⟨f4, hf⟩ := fc_un (by decide) hf
  have f4 : v_iv (n_v vs 8) + v_iv (n_v vs 5) ≤ 48 := f4
  obtain ⟨f5, hf⟩ := fc_un (by decide) hf
  have f5 : v_iv (n_v vs 1) + v_iv (n_v vs 5) ≤ 48 := f5
  obtain ⟨f6, hf⟩ := fc_un (by decide) hf
  have f6 : v_iv (n_v vs 8) = v_iv (n_v vs 1) + v_iv (n_v vs 7) := f6
  obtain ⟨f7, hf⟩ := fc_un (by decide) hf
  have f7 : v_iv (n_v vs 5) = v_iv (n_v vs 3) - v_iv (n_v vs 4) := f7
  obtain ⟨f8, hf⟩ := fc_un (by decide) hf
  have f8 : v_iv (n_v vs 3) = v_iv (n_v vs 2) - v_iv (n_v vs 1) := f8
  obtain ⟨f9, hf⟩ := fc_un (by decide) hf
  have f9 : v_iv (n_v vs 1) < v_iv (n_v vs 2) := f9
  have nf0 : fc_1 (21, [11, 5], [48]) ws (vs) := by
    refine ⟨fun n hn => ?_, ?_⟩
    · have hn : n ∈ [11, 5] := hn
      rw [hl]
      simp only [List.mem_cons, List.not_mem_nil, or_false] at hn
      show n < 12; omega
    · show v_iv (n_v vs 11) + v_iv (n_v vs 5) ≤ 48
      omega
  refine ⟨(fun _ h => (by cases h)), [], trivial, ?_, (fun _ h => (by cases h))⟩
  rw [List.append_nil]
  exact List.forall_mem_cons.mpr ⟨⟨by decide, nf0⟩, (fun _ h => (by cases h))⟩
def o_Gr_removeEdge_2 : or_T := (54, 15, [(1, (0, 0, 47, [])), (2, (0, 1, 48, [])), (3, (0, -46, 48, [])), (4, (0, 1, 1, [])), (5, (0, 0, 47, [])), (7, (0, 1, 1, [])), (8, (0, 1, 48, [])), (10, (0, 1, 1, [])), (11, (0, 1, 48, [])), (13, (0, 1, 1, [])), (14, (0, 1, 48, []))], [(1, [14, 1, 13], []), (21, [11, 5], [48]), (21, [8, 5], [48]), (21, [1, 5], [48]), (102, [11], [9007199254740992]), (21, [11, 5], [48]), (1, [11, 1, 10], []), (21, [8, 5], [48]), (21, [1, 5], [48]), (102, [8], [4503599627370496]), (21, [8, 5], [48]), (21, [1, 5], [48]), (1, [8, 1, 7], []), (2, [5, 3, 4], []), (2, [3, 2, 1], []), (7, [1, 2], [2])], [], [], [(21, [14, 5], [48])], [], [(14, 1, 1, 1), (11, 1, 1, 1), (8, 1, 1, 1), (5, 3, -1, -1), (5, 2, -48, -1), (3, 2, -47, 0)])
theorem oo_Gr_removeEdge_2 {kA : Nat → ClassId} : or_ok kA GG o_Gr_removeEdge_2 := by
  intro A ta ws vs hD hth hl hk hds hf
  have hl : vs.length = 15 := hl
  have hk : ∀ q ∈ ([(1, (0, 0, 47, [])), (2, (0, 1, 48, [])), (3, (0, -46, 48, [])), (4, (0, 1, 1, [])), (5, (0, 0, 47, [])), (7, (0, 1, 1, [])), (8, (0, 1, 48, [])), (10, (0, 1, 1, [])), (11, (0, 1, 48, [])), (13, (0, 1, 1, [])), (14, (0, 1, 48, []))] : List (Nat × tv_T)), tv_ok ta q.2 (n_v vs q.1) := hk
  obtain ⟨t1, hk⟩ := List.forall_mem_cons.mp hk
  have t1 : tv_ok ta (0, 0, 47, []) (n_v vs 1) := t1
  have k1 : 0 ≤ v_iv (n_v vs 1) ∧ v_iv (n_v vs 1) ≤ 47 := tv_rng t1
  obtain ⟨t2, hk⟩ := List.forall_mem_cons.mp hk
  have t2 : tv_ok ta (0, 1, 48, []) (n_v vs 2) := t2
  have k2 : 1 ≤ v_iv (n_v vs 2) ∧ v_iv (n_v vs 2) ≤ 48 := tv_rng t2
  obtain ⟨t3, hk⟩ := List.forall_mem_cons.mp hk
  have t3 : tv_ok ta (0, -46, 48, []) (n_v vs 3) := t3
  have k3 : (-46) ≤ v_iv (n_v vs 3) ∧ v_iv (n_v vs 3) ≤ 48 := tv_rng t3
  obtain ⟨t4, hk⟩ := List.forall_mem_cons.mp hk
  have t4 : tv_ok ta (0, 1, 1, []) (n_v vs 4) := t4
  have k4 : 1 ≤ v_iv (n_v vs 4) ∧ v_iv (n_v vs 4) ≤ 1 := tv_rng t4
  obtain ⟨t5, hk⟩ := List.forall_mem_cons.mp hk
  have t5 : tv_ok ta (0, 0, 47, []) (n_v vs 5) := t5
  have k5 : 0 ≤ v_iv (n_v vs 5) ∧ v_iv (n_v vs 5) ≤ 47 := tv_rng t5
  obtain ⟨t7, hk⟩ := List.forall_mem_cons.mp hk
  have t7 : tv_ok ta (0, 1, 1, []) (n_v vs 7) := t7
  have k7 : 1 ≤ v_iv (n_v vs 7) ∧ v_iv (n_v vs 7) ≤ 1 := tv_rng t7
  obtain ⟨t8, hk⟩ := List.forall_mem_cons.mp hk
  have t8 : tv_ok ta (0, 1, 48, []) (n_v vs 8) := t8
  have k8 : 1 ≤ v_iv (n_v vs 8) ∧ v_iv (n_v vs 8) ≤ 48 := tv_rng t8
  obtain ⟨t10, hk⟩ := List.forall_mem_cons.mp hk
  have t10 : tv_ok ta (0, 1, 1, []) (n_v vs 10) := t10
  have k10 : 1 ≤ v_iv (n_v vs 10) ∧ v_iv (n_v vs 10) ≤ 1 := tv_rng t10
  obtain ⟨t11, hk⟩ := List.forall_mem_cons.mp hk
  have t11 : tv_ok ta (0, 1, 48, []) (n_v vs 11) := t11
  have k11 : 1 ≤ v_iv (n_v vs 11) ∧ v_iv (n_v vs 11) ≤ 48 := tv_rng t11
  obtain ⟨t13, hk⟩ := List.forall_mem_cons.mp hk
  have t13 : tv_ok ta (0, 1, 1, []) (n_v vs 13) := t13
  have k13 : 1 ≤ v_iv (n_v vs 13) ∧ v_iv (n_v vs 13) ≤ 1 := tv_rng t13
  obtain ⟨t14, hk⟩ := List.forall_mem_cons.mp hk
  have t14 : tv_ok ta (0, 1, 48, []) (n_v vs 14) := t14
  have k14 : 1 ≤ v_iv (n_v vs 14) ∧ v_iv (n_v vs 14) ≤ 48 := tv_rng t14
  have hds : ∀ q ∈ ([(14, 1, 1, 1), (11, 1, 1, 1), (8, 1, 1, 1), (5, 3, -1, -1), (5, 2, -48, -1), (3, 2, -47, 0)] : List of_T), n_iv vs q.2.1 + q.2.2.1 ≤ n_iv vs q.1 ∧ n_iv vs q.1 ≤ n_iv vs q.2.1 + q.2.2.2 := hds
  obtain ⟨d0, hds⟩ := List.forall_mem_cons.mp hds
  have d0 : v_iv (n_v vs 1) + 1 ≤ v_iv (n_v vs 14) ∧ v_iv (n_v vs 14) ≤ v_iv (n_v vs 1) + 1 := d0
  obtain ⟨d1, hds⟩ := List.forall_mem_cons.mp hds
  have d1 : v_iv (n_v vs 1) + 1 ≤ v_iv (n_v vs 11) ∧ v_iv (n_v vs 11) ≤ v_iv (n_v vs 1) + 1 := d1
  obtain ⟨d2, hds⟩ := List.forall_mem_cons.mp hds
  have d2 : v_iv (n_v vs 1) + 1 ≤ v_iv (n_v vs 8) ∧ v_iv (n_v vs 8) ≤ v_iv (n_v vs 1) + 1 := d2
  obtain ⟨d3, hds⟩ := List.forall_mem_cons.mp hds
  have d3 : v_iv (n_v vs 3) + (-1) ≤ v_iv (n_v vs 5) ∧ v_iv (n_v vs 5) ≤ v_iv (n_v vs 3) + (-1) := d3
  obtain ⟨d4, hds⟩ := List.forall_mem_cons.mp hds
  have d4 : v_iv (n_v vs 2) + (-48) ≤ v_iv (n_v vs 5) ∧ v_iv (n_v vs 5) ≤ v_iv (n_v vs 2) + (-1) := d4
  obtain ⟨d5, hds⟩ := List.forall_mem_cons.mp hds
  have d5 : v_iv (n_v vs 2) + (-47) ≤ v_iv (n_v vs 3) ∧ v_iv (n_v vs 3) ≤ v_iv (n_v vs 2) + 0 := d5
  have hf : fc_ok [(1, [14, 1, 13], []), (21, [11, 5], [48]), (21, [8, 5], [48]), (21, [1, 5], [48]), (102, [11], [9007199254740992]), (21, [11, 5], [48]), (1, [11, 1, 10], []), (21, [8, 5], [48]), (21, [1, 5], [48]), (102, [8], [4503599627370496]), (21, [8, 5], [48]), (21, [1, 5], [48]), (1, [8, 1, 7], []), (2, [5, 3, 4], []), (2, [3, 2, 1], []), (7, [1, 2], [2])] ta ws vs := hf
  obtain ⟨f0, hf⟩ := fc_un (by decide) hf
  have f0 : v_iv (n_v vs 14) = v_iv (n_v vs 1) + v_iv (n_v vs 13) := f0
  obtain ⟨f1, hf⟩ := fc_un (by decide) hf
  have f1 : v_iv (n_v vs 11) + v_iv (n_v vs 5) ≤ 48 := f1
  obtain ⟨f2, hf⟩ := fc_un (by decide) hf
  have f2 : v_iv (n_v vs 8) + v_iv (n_v vs 5) ≤ 48 := f2
  obtain ⟨f3, hf⟩ := fc_un (by decide) hf
  have f3 : v_iv (n_v vs 1) + v_iv (n_v vs 5) ≤ 48 := f3
  obtain ⟨ta1, w1, le1, ⟨_, s1⟩, hf⟩ := fc_us (by decide) hf
  obtain ⟨f5, hf⟩ := fc_un (by decide) hf
  have f5 : v_iv (n_v vs 11) + v_iv (n_v vs 5) ≤ 48 := f5
  obtain ⟨f6, hf⟩ := fc_un (by decide) hf
  have f6 : v_iv (n_v vs 11) = v_iv (n_v vs 1) + v_iv (n_v vs 10) := f6
  obtain ⟨f7, hf⟩ := fc_un (by decide) hf
  have f7 : v_iv (n_v vs 8) + v_iv (n_v vs 5) ≤ 48 := f7
  obtain ⟨f8, hf⟩ := fc_un (by decide) hf
  have f8 : v_iv (n_v vs 1) + v_iv (n_v vs 5) ≤ 48 := f8
  obtain ⟨ta2, w2, le2, ⟨_, s2⟩, hf⟩ := fc_us (by decide) hf
  obtain ⟨f10, hf⟩ := fc_un (by decide) hf
  have f10 : v_iv (n_v vs 8) + v_iv (n_v vs 5) ≤ 48 := f10
  obtain ⟨f11, hf⟩ := fc_un (by decide) hf
  have f11 : v_iv (n_v vs 1) + v_iv (n_v vs 5) ≤ 48 := f11
  obtain ⟨f12, hf⟩ := fc_un (by decide) hf
  have f12 : v_iv (n_v vs 8) = v_iv (n_v vs 1) + v_iv (n_v vs 7) := f12
  obtain ⟨f13, hf⟩ := fc_un (by decide) hf
  have f13 : v_iv (n_v vs 5) = v_iv (n_v vs 3) - v_iv (n_v vs 4) := f13
  obtain ⟨f14, hf⟩ := fc_un (by decide) hf
  have f14 : v_iv (n_v vs 3) = v_iv (n_v vs 2) - v_iv (n_v vs 1) := f14
  obtain ⟨f15, hf⟩ := fc_un (by decide) hf
  have f15 : v_iv (n_v vs 1) < v_iv (n_v vs 2) := f15
  have nf0 : fc_1 (21, [14, 5], [48]) ws (vs) := by
    refine ⟨fun n hn => ?_, ?_⟩
    · have hn : n ∈ [14, 5] := hn
      rw [hl]
      simp only [List.mem_cons, List.not_mem_nil, or_false] at hn
      show n < 15; omega
    · show v_iv (n_v vs 14) + v_iv (n_v vs 5) ≤ 48
      omega
  refine ⟨(fun _ h => (by cases h)), [], trivial, ?_, (fun _ h => (by cases h))⟩
  rw [List.append_nil]
  exact List.forall_mem_cons.mpr ⟨⟨by decide, nf0⟩, (fun _ h => (by cases h))⟩
def o_Gr_removeEdge_3 : or_T := (70, 18, [(1, (0, 0, 47, [])), (2, (0, 1, 48, [])), (3, (0, -46, 48, [])), (4, (0, 1, 1, [])), (5, (0, 0, 47, [])), (7, (0, 1, 1, [])), (8, (0, 1, 48, [])), (10, (0, 1, 1, [])), (11, (0, 1, 48, [])), (13, (0, 1, 1, [])), (14, (0, 1, 48, [])), (16, (0, 1, 1, [])), (17, (0, 1, 48, []))], [(1, [17, 1, 16], []), (21, [14, 5], [48]), (21, [11, 5], [48]), (21, [8, 5], [48]), (21, [1, 5], [48]), (102, [14], [18014398509481984]), (21, [14, 5], [48]), (1, [14, 1, 13], []), (21, [11, 5], [48]), (21, [8, 5], [48]), (21, [1, 5], [48]), (102, [11], [9007199254740992]), (21, [11, 5], [48]), (1, [11, 1, 10], []), (21, [8, 5], [48]), (21, [1, 5], [48]), (102, [8], [4503599627370496]), (21, [8, 5], [48]), (21, [1, 5], [48]), (1, [8, 1, 7], []), (2, [5, 3, 4], []), (2, [3, 2, 1], []), (7, [1, 2], [2])], [], [], [(21, [17, 5], [48])], [], [(17, 1, 1, 1), (14, 1, 1, 1), (11, 1, 1, 1), (8, 1, 1, 1), (5, 3, -1, -1), (5, 2, -48, -1), (3, 2, -47, 0)])
theorem oo_Gr_removeEdge_3 {kA : Nat → ClassId} : or_ok kA GG o_Gr_removeEdge_3 := by
  intro A ta ws vs hD hth hl hk hds hf
  have hl : vs.length = 18 := hl
  have hk : ∀ q ∈ ([(1, (0, 0, 47, [])), (2, (0, 1, 48, [])), (3, (0, -46, 48, [])), (4, (0, 1, 1, [])), (5, (0, 0, 47, [])), (7, (0, 1, 1, [])), (8, (0, 1, 48, [])), (10, (0, 1, 1, [])), (11, (0, 1, 48, [])), (13, (0, 1, 1, [])), (14, (0, 1, 48, [])), (16, (0, 1, 1, [])), (17, (0, 1, 48, []))] : List (Nat × tv_T)), tv_ok ta q.2 (n_v vs q.1) := hk
  obtain ⟨t1, hk⟩ := List.forall_mem_cons.mp hk
  have t1 : tv_ok ta (0, 0, 47, []) (n_v vs 1) := t1
  have k1 : 0 ≤ v_iv (n_v vs 1) ∧ v_iv (n_v vs 1) ≤ 47 := tv_rng t1
  obtain ⟨t2, hk⟩ := List.forall_mem_cons.mp hk
  have t2 : tv_ok ta (0, 1, 48, []) (n_v vs 2) := t2
  have k2 : 1 ≤ v_iv (n_v vs 2) ∧ v_iv (n_v vs 2) ≤ 48 := tv_rng t2
  obtain ⟨t3, hk⟩ := List.forall_mem_cons.mp hk
  have t3 : tv_ok ta (0, -46, 48, []) (n_v vs 3) := t3
  have k3 : (-46) ≤ v_iv (n_v vs 3) ∧ v_iv (n_v vs 3) ≤ 48 := tv_rng t3
  obtain ⟨t4, hk⟩ := List.forall_mem_cons.mp hk
  have t4 : tv_ok ta (0, 1, 1, []) (n_v vs 4) := t4
  have k4 : 1 ≤ v_iv (n_v vs 4) ∧ v_iv (n_v vs 4) ≤ 1 := tv_rng t4
  obtain ⟨t5, hk⟩ := List.forall_mem_cons.mp hk
  have t5 : tv_ok ta (0, 0, 47, []) (n_v vs 5) := t5
  have k5 : 0 ≤ v_iv (n_v vs 5) ∧ v_iv (n_v vs 5) ≤ 47 := tv_rng t5
  obtain ⟨t7, hk⟩ := List.forall_mem_cons.mp hk
  have t7 : tv_ok ta (0, 1, 1, []) (n_v vs 7) := t7
  have k7 : 1 ≤ v_iv (n_v vs 7) ∧ v_iv (n_v vs 7) ≤ 1 := tv_rng t7
  obtain ⟨t8, hk⟩ := List.forall_mem_cons.mp hk
  have t8 : tv_ok ta (0, 1, 48, []) (n_v vs 8) := t8
  have k8 : 1 ≤ v_iv (n_v vs 8) ∧ v_iv (n_v vs 8) ≤ 48 := tv_rng t8
  obtain ⟨t10, hk⟩ := List.forall_mem_cons.mp hk
  have t10 : tv_ok ta (0, 1, 1, []) (n_v vs 10) := t10
  have k10 : 1 ≤ v_iv (n_v vs 10) ∧ v_iv (n_v vs 10) ≤ 1 := tv_rng t10
  obtain ⟨t11, hk⟩ := List.forall_mem_cons.mp hk
  have t11 : tv_ok ta (0, 1, 48, []) (n_v vs 11) := t11
  have k11 : 1 ≤ v_iv (n_v vs 11) ∧ v_iv (n_v vs 11) ≤ 48 := tv_rng t11
  obtain ⟨t13, hk⟩ := List.forall_mem_cons.mp hk
  have t13 : tv_ok ta (0, 1, 1, []) (n_v vs 13) := t13
  have k13 : 1 ≤ v_iv (n_v vs 13) ∧ v_iv (n_v vs 13) ≤ 1 := tv_rng t13
  obtain ⟨t14, hk⟩ := List.forall_mem_cons.mp hk
  have t14 : tv_ok ta (0, 1, 48, []) (n_v vs 14) := t14
  have k14 : 1 ≤ v_iv (n_v vs 14) ∧ v_iv (n_v vs 14) ≤ 48 := tv_rng t14
  obtain ⟨t16, hk⟩ := List.forall_mem_cons.mp hk
  have t16 : tv_ok ta (0, 1, 1, []) (n_v vs 16) := t16
  have k16 : 1 ≤ v_iv (n_v vs 16) ∧ v_iv (n_v vs 16) ≤ 1 := tv_rng t16
  obtain ⟨t17, hk⟩ := List.forall_mem_cons.mp hk
  have t17 : tv_ok ta (0, 1, 48, []) (n_v vs 17) := t17
  have k17 : 1 ≤ v_iv (n_v vs 17) ∧ v_iv (n_v vs 17) ≤ 48 := tv_rng t17
  have hds : ∀ q ∈ ([(17, 1, 1, 1), (14, 1, 1, 1), (11, 1, 1, 1), (8, 1, 1, 1), (5, 3, -1, -1), (5, 2, -48, -1), (3, 2, -47, 0)] : List of_T), n_iv vs q.2.1 + q.2.2.1 ≤ n_iv vs q.1 ∧ n_iv vs q.1 ≤ n_iv vs q.2.1 + q.2.2.2 := hds
  obtain ⟨d0, hds⟩ := List.forall_mem_cons.mp hds
  have d0 : v_iv (n_v vs 1) + 1 ≤ v_iv (n_v vs 17) ∧ v_iv (n_v vs 17) ≤ v_iv (n_v vs 1) + 1 := d0
  obtain ⟨d1, hds⟩ := List.forall_mem_cons.mp hds
  have d1 : v_iv (n_v vs 1) + 1 ≤ v_iv (n_v vs 14) ∧ v_iv (n_v vs 14) ≤ v_iv (n_v vs 1) + 1 := d1
  obtain ⟨d2, hds⟩ := List.forall_mem_cons.mp hds
  have d2 : v_iv (n_v vs 1) + 1 ≤ v_iv (n_v vs 11) ∧ v_iv (n_v vs 11) ≤ v_iv (n_v vs 1) + 1 := d2
  obtain ⟨d3, hds⟩ := List.forall_mem_cons.mp hds
  have d3 : v_iv (n_v vs 1) + 1 ≤ v_iv (n_v vs 8) ∧ v_iv (n_v vs 8) ≤ v_iv (n_v vs 1) + 1 := d3
  obtain ⟨d4, hds⟩ := List.forall_mem_cons.mp hds
  have d4 : v_iv (n_v vs 3) + (-1) ≤ v_iv (n_v vs 5) ∧ v_iv (n_v vs 5) ≤ v_iv (n_v vs 3) + (-1) := d4
  obtain ⟨d5, hds⟩ := List.forall_mem_cons.mp hds
  have d5 : v_iv (n_v vs 2) + (-48) ≤ v_iv (n_v vs 5) ∧ v_iv (n_v vs 5) ≤ v_iv (n_v vs 2) + (-1) := d5
  obtain ⟨d6, hds⟩ := List.forall_mem_cons.mp hds
  have d6 : v_iv (n_v vs 2) + (-47) ≤ v_iv (n_v vs 3) ∧ v_iv (n_v vs 3) ≤ v_iv (n_v vs 2) + 0 := d6
  have hf : fc_ok [(1, [17, 1, 16], []), (21, [14, 5], [48]), (21, [11, 5], [48]), (21, [8, 5], [48]), (21, [1, 5], [48]), (102, [14], [18014398509481984]), (21, [14, 5], [48]), (1, [14, 1, 13], []), (21, [11, 5], [48]), (21, [8, 5], [48]), (21, [1, 5], [48]), (102, [11], [9007199254740992]), (21, [11, 5], [48]), (1, [11, 1, 10], []), (21, [8, 5], [48]), (21, [1, 5], [48]), (102, [8], [4503599627370496]), (21, [8, 5], [48]), (21, [1, 5], [48]), (1, [8, 1, 7], []), (2, [5, 3, 4], []), (2, [3, 2, 1], []), (7, [1, 2], [2])] ta ws vs := hf
  obtain ⟨f0, hf⟩ := fc_un (by decide) hf
  have f0 : v_iv (n_v vs 17) = v_iv (n_v vs 1) + v_iv (n_v vs 16) := f0
  obtain ⟨f1, hf⟩ := fc_un (by decide) hf
  have f1 : v_iv (n_v vs 14) + v_iv (n_v vs 5) ≤ 48 := f1
  obtain ⟨f2, hf⟩ := fc_un (by decide) hf
  have f2 : v_iv (n_v vs 11) + v_iv (n_v vs 5) ≤ 48 := f2
  obtain ⟨f3, hf⟩ := fc_un (by decide) hf
  have f3 : v_iv (n_v vs 8) + v_iv (n_v vs 5) ≤ 48 := f3
  obtain ⟨f4, hf⟩ := fc_un (by decide) hf
  have f4 : v_iv (n_v vs 1) + v_iv (n_v vs 5) ≤ 48 := f4
  obtain ⟨ta1, w1, le1, ⟨_, s1⟩, hf⟩ := fc_us (by decide) hf
  obtain ⟨f6, hf⟩ := fc_un (by decide) hf
  have f6 : v_iv (n_v vs 14) + v_iv (n_v vs 5) ≤ 48 := f6
  obtain ⟨f7, hf⟩ := fc_un (by decide) hf
  have f7 : v_iv (n_v vs 14) = v_iv (n_v vs 1) + v_iv (n_v vs 13) := f7
  obtain ⟨f8, hf⟩ := fc_un (by decide) hf
  have f8 : v_iv (n_v vs 11) + v_iv (n_v vs 5) ≤ 48 := f8
  obtain ⟨f9, hf⟩ := fc_un (by decide) hf
  have f9 : v_iv (n_v vs 8) + v_iv (n_v vs 5) ≤ 48 := f9
  obtain ⟨f10, hf⟩ := fc_un (by decide) hf
  have f10 : v_iv (n_v vs 1) + v_iv (n_v vs 5) ≤ 48 := f10
  obtain ⟨ta2, w2, le2, ⟨_, s2⟩, hf⟩ := fc_us (by decide) hf
  obtain ⟨f12, hf⟩ := fc_un (by decide) hf
  have f12 : v_iv (n_v vs 11) + v_iv (n_v vs 5) ≤ 48 := f12
  obtain ⟨f13, hf⟩ := fc_un (by decide) hf
  have f13 : v_iv (n_v vs 11) = v_iv (n_v vs 1) + v_iv (n_v vs 10) := f13
  obtain ⟨f14, hf⟩ := fc_un (by decide) hf
  have f14 : v_iv (n_v vs 8) + v_iv (n_v vs 5) ≤ 48 := f14
  obtain ⟨f15, hf⟩ := fc_un (by decide) hf
  have f15 : v_iv (n_v vs 1) + v_iv (n_v vs 5) ≤ 48 := f15
  obtain ⟨ta3, w3, le3, ⟨_, s3⟩, hf⟩ := fc_us (by decide) hf
  obtain ⟨f17, hf⟩ := fc_un (by decide) hf
  have f17 : v_iv (n_v vs 8) + v_iv (n_v vs 5) ≤ 48 := f17
  obtain ⟨f18, hf⟩ := fc_un (by decide) hf
  have f18 : v_iv (n_v vs 1) + v_iv (n_v vs 5) ≤ 48 := f18
  obtain ⟨f19, hf⟩ := fc_un (by decide) hf
  have f19 : v_iv (n_v vs 8) = v_iv (n_v vs 1) + v_iv (n_v vs 7) := f19
  obtain ⟨f20, hf⟩ := fc_un (by decide) hf
  have f20 : v_iv (n_v vs 5) = v_iv (n_v vs 3) - v_iv (n_v vs 4) := f20
  obtain ⟨f21, hf⟩ := fc_un (by decide) hf
  have f21 : v_iv (n_v vs 3) = v_iv (n_v vs 2) - v_iv (n_v vs 1) := f21
  obtain ⟨f22, hf⟩ := fc_un (by decide) hf
  have f22 : v_iv (n_v vs 1) < v_iv (n_v vs 2) := f22
  have nf0 : fc_1 (21, [17, 5], [48]) ws (vs) := by
    refine ⟨fun n hn => ?_, ?_⟩
    · have hn : n ∈ [17, 5] := hn
      rw [hl]
      simp only [List.mem_cons, List.not_mem_nil, or_false] at hn
      show n < 18; omega
    · show v_iv (n_v vs 17) + v_iv (n_v vs 5) ≤ 48
      omega
  refine ⟨(fun _ h => (by cases h)), [], trivial, ?_, (fun _ h => (by cases h))⟩
  rw [List.append_nil]
  exact List.forall_mem_cons.mpr ⟨⟨by decide, nf0⟩, (fun _ h => (by cases h))⟩
def n_Gr_removeEdge_an : List an_T := []
def t_Gr_removeEdge_ct : ct_L := [(69, 77, e_acp_14), (117, 77, e_acp_15), (165, 77, e_acp_16), (213, 77, e_acp_17)]
set_option maxRecDepth 100000 in
theorem c_Gr_removeEdge {l : Launch} {D : va_G} {kA : Nat → ClassId} : ct_ok l D kA GG y_Gr_removeEdge z_Gr_removeEdge e_Gr_removeEdge := chk_all_ok (FT := [(15, 3, 1), (35, 3, 7), (38, 3, 8), (41, 3, 9), (44, 3, 10)]) (PT := [(15, 3, 1, .int)]) (CT := t_Gr_removeEdge_ct) (KT := []) (NT := []) (AN := n_Gr_removeEdge_an) (OT := [o_Gr_removeEdge_0, o_Gr_removeEdge_1, o_Gr_removeEdge_2, o_Gr_removeEdge_3]) 0 216 (List.forall_mem_cons.mpr ⟨oo_Gr_removeEdge_0, List.forall_mem_cons.mpr ⟨oo_Gr_removeEdge_1, List.forall_mem_cons.mpr ⟨oo_Gr_removeEdge_2, List.forall_mem_cons.mpr ⟨oo_Gr_removeEdge_3, List.forall_mem_nil _⟩⟩⟩⟩) (by decide +kernel) ⟨List.forall_mem_cons.mpr ⟨gf_Gr_15, List.forall_mem_cons.mpr ⟨gf_Gr_35, List.forall_mem_cons.mpr ⟨gf_Gr_38, List.forall_mem_cons.mpr ⟨gf_Gr_41, List.forall_mem_cons.mpr ⟨gf_Gr_44, List.forall_mem_nil _⟩⟩⟩⟩⟩, List.forall_mem_cons.mpr ⟨pf_Gr_15, List.forall_mem_nil _⟩, List.forall_mem_cons.mpr ⟨cl_copy rfl rfl (by decide) (by decide) (by decide) wm_748 wm_750 wm_749 wm_15, List.forall_mem_cons.mpr ⟨cl_copy rfl rfl (by decide) (by decide) (by decide) wm_748 wm_750 wm_749 wm_15, List.forall_mem_cons.mpr ⟨cl_copy rfl rfl (by decide) (by decide) (by decide) wm_748 wm_750 wm_749 wm_15, List.forall_mem_cons.mpr ⟨cl_copy rfl rfl (by decide) (by decide) (by decide) wm_748 wm_750 wm_749 wm_15, List.forall_mem_nil _⟩⟩⟩⟩, List.forall_mem_nil _, List.forall_mem_nil _⟩ (by decide +kernel)
def n_La_halfOf_an : List an_T := []
def t_La_halfOf_ct : ct_L := [(1, 242, e_Gr_half)]
set_option maxRecDepth 100000 in
theorem c_La_halfOf {l : Launch} {D : va_G} {kA : Nat → ClassId} (h_Gr_half : ct_ok l D kA GG y_Gr_half z_Gr_half e_Gr_half) : ct_ok l D kA GG y_La_halfOf z_La_halfOf e_La_halfOf := chk_all_ok (FT := [(18, 4, 1), (139, 3, 0)]) (PT := []) (CT := t_La_halfOf_ct) (KT := []) (NT := []) (AN := n_La_halfOf_an) (OT := []) 0 200 (List.forall_mem_nil _) (by decide +kernel) ⟨List.forall_mem_cons.mpr ⟨gf_La_18, List.forall_mem_cons.mpr ⟨gf_La_139, List.forall_mem_nil _⟩⟩, List.forall_mem_nil _, List.forall_mem_cons.mpr ⟨cl_virtual (y := y_Gr_half) (ci := 3) rfl rfl ⟨_, _, rfl⟩ (by decide +kernel) h_Gr_half wm_1452 wm_3 wm_1449 wm_1450 wm_1451 ⟨by decide, by decide, by decide +kernel⟩ (by decide), List.forall_mem_nil _⟩, List.forall_mem_nil _, List.forall_mem_nil _⟩ (by decide +kernel)
def n_La_sortLayer_an : List an_T := [(7, [(0, (2, 0, 0, [4])), (1, (0, 0, 24, [])), (2, (0, 0, 23, [])), (3, (0, 0, 72, []))], [], (0, 0), [(0, 0, 99993), (1, 3, 72), (0, 0, 100000), (0, 0, 0), (0, 0, 0)], [], [], [], 0, [], []), (56, [(0, (2, 0, 0, [4])), (1, (0, 0, 24, [])), (2, (0, 0, 23, [])), (3, (0, 0, 120, []))], [], (0, 0), [(0, 0, 99944), (1, 3, 120), (0, 0, 100000), (0, 0, 0), (0, 0, 0)], [], [], [], 0, [], []), (153, [(0, (2, 0, 0, [4])), (1, (0, 0, 24, [])), (2, (0, 0, 23, [])), (3, (0, 0, 72, []))], [], (0, 0), [(0, 0, 99847), (1, 3, 72), (0, 0, 100000), (0, 0, 0), (0, 0, 0)], [], [], [], 0, [], []), (225, [(0, (2, 0, 0, [4])), (1, (0, 0, 24, [])), (2, (0, 0, 23, [])), (3, (0, 1, 73, []))], [], (0, 0), [(0, 0, 99775), (1, 3, 73), (0, 0, 100000), (0, 0, 0), (0, 0, 0)], [], [], [], 0, [], []), (248, [(0, (2, 0, 0, [4])), (1, (0, 0, 24, [])), (2, (0, 0, 23, [])), (3, (0, 1, 71, [])), (4, (0, 0, 71, [])), (5, (0, 0, 71, []))], [], (0, 0), [(0, 0, 99775), (1, 3, 73), (0, 0, 99752), (2, 5, 0), (0, 0, 100000)], [], [], [], 0, [], [])]
def t_La_sortLayer_ct : ct_L := [(1, 239, e_La_setPlaces)]
set_option maxRecDepth 100000 in
theorem c_La_sortLayer {l : Launch} {D : va_G} {kA : Nat → ClassId} (h_La_setPlaces : ct_ok l D kA GG y_La_setPlaces z_La_setPlaces e_La_setPlaces) : ct_ok l D kA GG y_La_sortLayer z_La_sortLayer e_La_sortLayer := chk_all_ok (FT := [(36, 4, 6), (39, 4, 7), (45, 4, 9), (48, 4, 10), (57, 4, 13), (60, 4, 14), (63, 4, 15), (66, 4, 16)]) (PT := []) (CT := t_La_sortLayer_ct) (KT := []) (NT := []) (AN := n_La_sortLayer_an) (OT := []) 5 1212 (List.forall_mem_nil _) (by decide +kernel) ⟨List.forall_mem_cons.mpr ⟨gf_La_36, List.forall_mem_cons.mpr ⟨gf_La_39, List.forall_mem_cons.mpr ⟨gf_La_45, List.forall_mem_cons.mpr ⟨gf_La_48, List.forall_mem_cons.mpr ⟨gf_La_57, List.forall_mem_cons.mpr ⟨gf_La_60, List.forall_mem_cons.mpr ⟨gf_La_63, List.forall_mem_cons.mpr ⟨gf_La_66, List.forall_mem_nil _⟩⟩⟩⟩⟩⟩⟩⟩, List.forall_mem_nil _, List.forall_mem_cons.mpr ⟨cl_virtual (y := y_La_setPlaces) (ci := 4) rfl rfl ⟨_, _, rfl⟩ (by decide +kernel) h_La_setPlaces wm_1440 wm_18 wm_1437 wm_1439 wv_6_0 ⟨by decide, by decide, by decide +kernel⟩ (by decide), List.forall_mem_nil _⟩, List.forall_mem_nil _, List.forall_mem_nil _⟩ (by decide +kernel)
def n_Ne_begin_an : List an_T := []
def t_Ne_begin_ct : ct_L := [(63, 64, e_jArr_fill1_v9), (87, 64, e_jArr_fill1_v10), (111, 64, e_jArr_fill1_v11)]
set_option maxRecDepth 100000 in
theorem c_Ne_begin {l : Launch} {D : va_G} {kA : Nat → ClassId} : ct_ok l D kA GG y_Ne_begin z_Ne_begin e_Ne_begin := chk_all_ok (FT := [(40, 5, 9), (43, 5, 10), (49, 5, 12)]) (PT := [(28, 5, 5, .int), (31, 5, 6, .int), (52, 5, 13, .int)]) (CT := t_Ne_begin_ct) (KT := []) (NT := []) (AN := n_Ne_begin_an) (OT := []) 0 200 (List.forall_mem_nil _) (by decide +kernel) ⟨List.forall_mem_cons.mpr ⟨gf_Ne_40, List.forall_mem_cons.mpr ⟨gf_Ne_43, List.forall_mem_cons.mpr ⟨gf_Ne_49, List.forall_mem_nil _⟩⟩⟩, List.forall_mem_cons.mpr ⟨pf_Ne_28, List.forall_mem_cons.mpr ⟨pf_Ne_31, List.forall_mem_cons.mpr ⟨pf_Ne_52, List.forall_mem_nil _⟩⟩⟩, List.forall_mem_cons.mpr ⟨cl_static (y := y_jArr_fill1) c_jArr_fill1_v9 wm_55 wm_4 wm_1061 wm_54 ⟨by decide, by decide, by decide +kernel⟩ (by decide), List.forall_mem_cons.mpr ⟨cl_static (y := y_jArr_fill1) c_jArr_fill1_v10 wm_55 wm_4 wm_1061 wm_54 ⟨by decide, by decide, by decide +kernel⟩ (by decide), List.forall_mem_cons.mpr ⟨cl_static (y := y_jArr_fill1) c_jArr_fill1_v11 wm_55 wm_4 wm_1061 wm_54 ⟨by decide, by decide, by decide +kernel⟩ (by decide), List.forall_mem_nil _⟩⟩⟩, List.forall_mem_nil _, List.forall_mem_nil _⟩ (by decide +kernel)
def n_Ne_insertBehind_an : List an_T := []
def t_Ne_insertBehind_ct : ct_L := [(1, 84, e_Ne_endAt)]
set_option maxRecDepth 100000 in
theorem c_Ne_insertBehind {l : Launch} {D : va_G} {kA : Nat → ClassId} (h_Ne_endAt : ct_ok l D kA GG y_Ne_endAt z_Ne_endAt e_Ne_endAt) : ct_ok l D kA GG y_Ne_insertBehind z_Ne_insertBehind e_Ne_insertBehind := chk_all_ok (FT := [(46, 5, 11)]) (PT := []) (CT := t_Ne_insertBehind_ct) (KT := []) (NT := []) (AN := n_Ne_insertBehind_an) (OT := []) 0 296 (List.forall_mem_nil _) (by decide +kernel) ⟨List.forall_mem_cons.mpr ⟨gf_Ne_46, List.forall_mem_nil _⟩, List.forall_mem_nil _, List.forall_mem_cons.mpr ⟨cl_virtual (y := y_Ne_endAt) (ci := 5) rfl rfl ⟨_, _, rfl⟩ (by decide +kernel) h_Ne_endAt wm_1138 wm_6 wm_1151 wm_1136 wm_1137 ⟨by decide, by decide, by decide +kernel⟩ (by decide), List.forall_mem_nil _⟩, List.forall_mem_nil _, List.forall_mem_nil _⟩ (by decide +kernel)
def n_Pl_crossingsAt_an : List an_T := [(24, [(0, (2, 0, 0, [6])), (1, (0, 0, 23, [])), (2, (0, 0, 16777215, [])), (3, (0, 0, 16777215, [])), (4, (0, -2147483648, 2147483647, [])), (5, (0, -2147483648, 2147483647, [])), (6, (0, 0, 23, []))], [], (0, 0), [(0, 0, 99976), (1, 6, 23), (0, 0, 100000)], [], [((0, 0), (2, 0, 0, [3]))], [], 0, [], [])]
def t_Pl_crossingsAt_ct : ct_L := [(162, 230, e_jInt_bitCount_v6)]
set_option maxRecDepth 100000 in
theorem c_Pl_crossingsAt {l : Launch} {D : va_G} {kA : Nat → ClassId} : ct_ok l D kA GG y_Pl_crossingsAt z_Pl_crossingsAt e_Pl_crossingsAt := chk_all_ok (FT := [(9, 6, 0), (19, 6, 2), (138, 3, 14)]) (PT := []) (CT := t_Pl_crossingsAt_ct) (KT := []) (NT := []) (AN := n_Pl_crossingsAt_an) (OT := []) 3 204 (List.forall_mem_nil _) (by decide +kernel) ⟨List.forall_mem_cons.mpr ⟨gf_Pl_9, List.forall_mem_cons.mpr ⟨gf_Pl_19, List.forall_mem_cons.mpr ⟨gf_Pl_138, List.forall_mem_nil _⟩⟩⟩, List.forall_mem_nil _, List.forall_mem_cons.mpr ⟨cl_static (y := y_jInt_bitCount) c_jInt_bitCount_v6 wm_870 wm_17 wm_1771 wm_869 ⟨by decide, by decide, by decide +kernel⟩ (by decide), List.forall_mem_nil _⟩, List.forall_mem_nil _, List.forall_mem_nil _⟩ (by decide +kernel)
def n_Pl_fewestNeighbours_an : List an_T := [(8, [(0, (2, 0, 0, [6])), (1, (0, 0, 16777215, [])), (2, (0, 0, 23, [])), (3, (0, 0, 1000000000, [])), (4, (0, 0, 24, []))], [], (0, 0), [(0, 0, 99992), (1, 4, 24), (0, 0, 100000)], [], [((0, 0), (2, 0, 0, [3]))], [], 0, [], [])]
def t_Pl_fewestNeighbours_ct : ct_L := [(93, 230, e_jInt_bitCount_v6)]
set_option maxRecDepth 100000 in
theorem c_Pl_fewestNeighbours {l : Launch} {D : va_G} {kA : Nat → ClassId} : ct_ok l D kA GG y_Pl_fewestNeighbours z_Pl_fewestNeighbours e_Pl_fewestNeighbours := chk_all_ok (FT := [(9, 6, 0), (74, 3, 0), (138, 3, 14)]) (PT := []) (CT := t_Pl_fewestNeighbours_ct) (KT := [(0, 212, .int (1000000000), (0, 1000000000, 1000000000, []))]) (NT := []) (AN := n_Pl_fewestNeighbours_an) (OT := []) 3 200 (List.forall_mem_nil _) (by decide +kernel) ⟨List.forall_mem_cons.mpr ⟨gf_Pl_9, List.forall_mem_cons.mpr ⟨gf_Pl_74, List.forall_mem_cons.mpr ⟨gf_Pl_138, List.forall_mem_nil _⟩⟩⟩, List.forall_mem_nil _, List.forall_mem_cons.mpr ⟨cl_static (y := y_jInt_bitCount) c_jInt_bitCount_v6 wm_870 wm_17 wm_1771 wm_869 ⟨by decide, by decide, by decide +kernel⟩ (by decide), List.forall_mem_nil _⟩, List.forall_mem_cons.mpr ⟨kx_Pl_0_212, List.forall_mem_nil _⟩, List.forall_mem_nil _⟩ (by decide +kernel)
def n_Pl_layRow_an : List an_T := [(86, [(0, (2, 0, 0, [6])), (1, (0, 0, 31, [])), (2, (0, 1, 32, [])), (3, (0, -2147483648, 2147483647, [])), (4, (0, -2147483648, 2147483647, [])), (5, (0, 0, 1, [])), (6, (0, -2147483648, 2147483647, [])), (7, (0, -2147483648, 2147483647, [])), (8, (0, -2147483648, 2147483647, [])), (9, (0, 0, 32, []))], [], (0, 0), [(0, 0, 99914), (1, 9, 32), (0, 0, 100000)], [], [((0, 1), (2, 0, 0, [0]))], [], 0, [], [])]
def t_Pl_layRow_ct : ct_L := [(1, 162, e_Pl_setArea)]
set_option maxRecDepth 100000 in
theorem c_Pl_layRow {l : Launch} {D : va_G} {kA : Nat → ClassId} (h_Pl_setArea : ct_ok l D kA GG y_Pl_setArea z_Pl_setArea e_Pl_setArea) : ct_ok l D kA GG y_Pl_layRow z_Pl_layRow e_Pl_layRow := chk_all_ok (FT := [(42, 6, 9), (45, 6, 10), (51, 6, 12)]) (PT := []) (CT := t_Pl_layRow_ct) (KT := []) (NT := []) (AN := n_Pl_layRow_an) (OT := []) 3 916 (List.forall_mem_nil _) (by decide +kernel) ⟨List.forall_mem_cons.mpr ⟨gf_Pl_42, List.forall_mem_cons.mpr ⟨gf_Pl_45, List.forall_mem_cons.mpr ⟨gf_Pl_51, List.forall_mem_nil _⟩⟩⟩, List.forall_mem_nil _, List.forall_mem_cons.mpr ⟨cl_virtual (y := y_Pl_setArea) (ci := 6) rfl rfl ⟨_, _, rfl⟩ (by decide +kernel) h_Pl_setArea wm_1725 wm_21 wm_1722 wm_1724 wv_7_13 ⟨by decide, by decide, by decide +kernel⟩ (by decide), List.forall_mem_nil _⟩, List.forall_mem_nil _, List.forall_mem_nil _⟩ (by decide +kernel)
def n_Pn_pickFromLine_an : List an_T := [(4, [(0, (2, 0, 0, [7])), (1, (0, 0, 16777215, [])), (2, (0, 0, 24, []))], [], (0, 0), [(0, 0, 99996), (1, 2, 24), (0, 0, 100000)], [], [], [], 0, [], []), (36, [(0, (2, 0, 0, [7])), (1, (0, 0, 16777215, [])), (2, (0, 1, 22, [])), (3, (0, -1, 23, [])), (4, (0, 1, 23, []))], [], (0, 0), [(0, 0, 99964), (1, 4, 23), (0, 0, 100000)], [], [], [], 0, [], [])]
def t_Pn_pickFromLine_ct : ct_L := [(228, 150, e_jInt_bitCount_v6)]
set_option maxRecDepth 100000 in
theorem c_Pn_pickFromLine {l : Launch} {D : va_G} {kA : Nat → ClassId} : ct_ok l D kA GG y_Pn_pickFromLine z_Pn_pickFromLine e_Pn_pickFromLine := chk_all_ok (FT := [(12, 7, 0), (22, 7, 2), (25, 7, 3), (131, 5, 9)]) (PT := []) (CT := t_Pn_pickFromLine_ct) (KT := []) (NT := []) (AN := n_Pn_pickFromLine_an) (OT := []) 3 260 (List.forall_mem_nil _) (by decide +kernel) ⟨List.forall_mem_cons.mpr ⟨gf_Pn_12, List.forall_mem_cons.mpr ⟨gf_Pn_22, List.forall_mem_cons.mpr ⟨gf_Pn_25, List.forall_mem_cons.mpr ⟨gf_Pn_131, List.forall_mem_nil _⟩⟩⟩⟩, List.forall_mem_nil _, List.forall_mem_cons.mpr ⟨cl_static (y := y_jInt_bitCount) c_jInt_bitCount_v6 wm_870 wm_17 wm_1555 wm_869 ⟨by decide, by decide, by decide +kernel⟩ (by decide), List.forall_mem_nil _⟩, List.forall_mem_nil _, List.forall_mem_nil _⟩ (by decide +kernel)
def n_Pn_raiseNodes_an : List an_T := [(2, [(0, (2, 0, 0, [7])), (1, (2, 0, 0, [3])), (2, (2, 0, 0, [0])), (3, (0, 0, 24, []))], [], (0, 0), [(0, 0, 99998), (1, 3, 24), (0, 0, 100000), (0, 0, 0), (0, 0, 0)], [], [], [], 0, [], []), (29, [(0, (2, 0, 0, [7])), (1, (2, 0, 0, [3])), (2, (2, 0, 0, [0])), (3, (0, 0, 23, [])), (4, (0, 0, 23, [])), (5, (0, 0, 23, []))], [], (0, 0), [(0, 0, 99998), (1, 3, 24), (0, 0, 99971), (1, 5, 23), (0, 0, 100000)], [], [], [], 0, [], [])]
def t_Pn_raiseNodes_ct : ct_L := [(249, 92, e_jMath_max1_v12)]
set_option maxRecDepth 100000 in
theorem c_Pn_raiseNodes {l : Launch} {D : va_G} {kA : Nat → ClassId} : ct_ok l D kA GG y_Pn_raiseNodes z_Pn_raiseNodes e_Pn_raiseNodes := chk_all_ok (FT := [(22, 7, 2), (47, 3, 0), (87, 0, 3), (219, 3, 14)]) (PT := []) (CT := t_Pn_raiseNodes_ct) (KT := []) (NT := []) (AN := n_Pn_raiseNodes_an) (OT := []) 5 232 (List.forall_mem_nil _) (by decide +kernel) ⟨List.forall_mem_cons.mpr ⟨gf_Pn_22, List.forall_mem_cons.mpr ⟨gf_Pn_47, List.forall_mem_cons.mpr ⟨gf_Pn_87, List.forall_mem_cons.mpr ⟨gf_Pn_219, List.forall_mem_nil _⟩⟩⟩⟩, List.forall_mem_nil _, List.forall_mem_cons.mpr ⟨cl_static (y := y_jMath_max1) c_jMath_max1_v12 wm_836 wm_10 wm_1574 wm_835 ⟨by decide, by decide, by decide +kernel⟩ (by decide), List.forall_mem_nil _⟩, List.forall_mem_nil _, List.forall_mem_nil _⟩ (by decide +kernel)
def n_St_addGap_an : List an_T := []
def t_St_addGap_ct : ct_L := [(1, 40, e_St_addArc)]
set_option maxRecDepth 100000 in
theorem c_St_addGap {l : Launch} {D : va_G} {kA : Nat → ClassId} (h_St_addArc : ct_ok l D kA GG y_St_addArc z_St_addArc e_St_addArc) : ct_ok l D kA GG y_St_addGap z_St_addGap e_St_addGap := chk_all_ok (FT := []) (PT := []) (CT := t_St_addGap_ct) (KT := [(0, 44, .int (1000000000), (0, 1000000000, 1000000000, []))]) (NT := []) (AN := n_St_addGap_an) (OT := []) 0 200 (List.forall_mem_nil _) (by decide +kernel) ⟨List.forall_mem_nil _, List.forall_mem_nil _, List.forall_mem_cons.mpr ⟨cl_virtual (y := y_St_addArc) (ci := 10) rfl rfl ⟨_, _, rfl⟩ (by decide +kernel) h_St_addArc wm_1333 wm_19 wm_1330 wm_1332 wv_4_11 ⟨by decide, by decide, by decide +kernel⟩ (by decide), List.forall_mem_nil _⟩, List.forall_mem_cons.mpr ⟨kx_St_0_44, List.forall_mem_nil _⟩, List.forall_mem_nil _⟩ (by decide +kernel)
def n_St_addPiece_an : List an_T := []
def t_St_addPiece_ct : ct_L := [(1, 40, e_St_addArc)]
set_option maxRecDepth 100000 in
theorem c_St_addPiece {l : Launch} {D : va_G} {kA : Nat → ClassId} (h_St_addArc : ct_ok l D kA GG y_St_addArc z_St_addArc e_St_addArc) : ct_ok l D kA GG y_St_addPiece z_St_addPiece e_St_addPiece := chk_all_ok (FT := []) (PT := []) (CT := t_St_addPiece_ct) (KT := []) (NT := []) (AN := n_St_addPiece_an) (OT := []) 0 200 (List.forall_mem_nil _) (by decide +kernel) ⟨List.forall_mem_nil _, List.forall_mem_nil _, List.forall_mem_cons.mpr ⟨cl_virtual (y := y_St_addArc) (ci := 10) rfl rfl ⟨_, _, rfl⟩ (by decide +kernel) h_St_addArc wm_1333 wm_19 wm_1330 wm_1332 wv_4_11 ⟨by decide, by decide, by decide +kernel⟩ (by decide), List.forall_mem_nil _⟩, List.forall_mem_nil _, List.forall_mem_nil _⟩ (by decide +kernel)
def n_Mo_apartNode_an : List an_T := [(8, [(0, (2, 0, 0, [150])), (1, (0, 0, 25, []))], [], (0, 0), [(0, 0, 99992), (1, 1, 25), (0, 0, 100000)], [], [], [], 0, [], [])]
def t_Mo_apartNode_ct : ct_L := [(1, 606, e_Mo_flood)]
set_option maxRecDepth 100000 in
theorem c_Mo_apartNode {l : Launch} {D : va_G} {kA : Nat → ClassId} (h_Mo_flood : ct_ok l D kA GG y_Mo_flood z_Mo_flood e_Mo_flood) : ct_ok l D kA GG y_Mo_apartNode z_Mo_apartNode e_Mo_apartNode := chk_all_ok (FT := [(72, 13, 38), (594, 13, 31)]) (PT := []) (CT := t_Mo_apartNode_ct) (KT := []) (NT := []) (AN := n_Mo_apartNode_an) (OT := []) 3 200 (List.forall_mem_nil _) (by decide +kernel) ⟨List.forall_mem_cons.mpr ⟨gf_Mo_72, List.forall_mem_cons.mpr ⟨gf_Mo_594, List.forall_mem_nil _⟩⟩, List.forall_mem_nil _, List.forall_mem_cons.mpr ⟨cl_virtual (y := y_Mo_flood) (ci := 13) rfl rfl ⟨_, _, rfl⟩ (by decide +kernel) h_Mo_flood wm_3167 wm_9 wm_3164 wm_3166 wv_15_1 ⟨by decide, by decide, by decide +kernel⟩ (by decide), List.forall_mem_nil _⟩, List.forall_mem_nil _, List.forall_mem_nil _⟩ (by decide +kernel)
def n_Mo_blocksOf_an : List an_T := [(4, [(0, (2, 0, 0, [150])), (1, (0, 0, 23, [])), (2, (0, -2147483648, 2147483647, [])), (3, (0, 0, 48, []))], [], (0, 0), [(0, 0, 99996), (1, 3, 48), (0, 0, 100000), (0, 0, 0), (0, 0, 0)], [], [], [], 0, [], []), (16, [(0, (2, 0, 0, [150])), (1, (0, 0, 23, [])), (2, (0, -2147483648, 2147483647, [])), (3, (0, 0, 47, [])), (4, (0, 0, 1, [])), (5, (0, 0, 80, []))], [], (0, 0), [(0, 0, 99996), (1, 3, 48), (0, 0, 99984), (1, 5, 80), (0, 0, 100000)], [], [], [], 0, [], [])]
def t_Mo_blocksOf_ct : ct_L := [(1, 600, e_Mo_at1)]
set_option maxRecDepth 100000 in
theorem c_Mo_blocksOf {l : Launch} {D : va_G} {kA : Nat → ClassId} (h_Mo_at1 : ct_ok l D kA GG y_Mo_at1 z_Mo_at1 e_Mo_at1) : ct_ok l D kA GG y_Mo_blocksOf z_Mo_blocksOf e_Mo_blocksOf := chk_all_ok (FT := [(32, 13, 17), (597, 13, 32)]) (PT := []) (CT := t_Mo_blocksOf_ct) (KT := []) (NT := []) (AN := n_Mo_blocksOf_an) (OT := []) 5 252 (List.forall_mem_nil _) (by decide +kernel) ⟨List.forall_mem_cons.mpr ⟨gf_Mo_32, List.forall_mem_cons.mpr ⟨gf_Mo_597, List.forall_mem_nil _⟩⟩, List.forall_mem_nil _, List.forall_mem_cons.mpr ⟨cl_virtual (y := y_Mo_at1) (ci := 13) rfl rfl ⟨_, _, rfl⟩ (by decide +kernel) h_Mo_at1 wm_3159 wm_9 wm_3156 wm_3158 wv_14_15 ⟨by decide, by decide, by decide +kernel⟩ (by decide), List.forall_mem_nil _⟩, List.forall_mem_nil _, List.forall_mem_nil _⟩ (by decide +kernel)
def n_Mo_choose_an : List an_T := [(8, [(0, (2, 0, 0, [150])), (1, (0, -1, 79, [])), (2, (0, -2147483648, 1000000, [])), (3, (0, 0, 80, []))], [], (0, 0), [(0, 0, 99992), (1, 3, 80), (0, 0, 100000), (0, 0, 0), (0, 0, 0)], [], [], [], 0, [], []), (35, [(0, (2, 0, 0, [150])), (1, (0, -1, 79, [])), (2, (0, -2147483648, 1000000, [])), (3, (0, 0, 79, [])), (4, (0, -2147483648, 2147483647, [])), (5, (0, 0, 120, []))], [], (0, 0), [(0, 0, 99992), (1, 3, 80), (0, 0, 99965), (1, 5, 120), (0, 0, 100000)], [], [], [], 0, [], [])]
def t_Mo_choose_ct : ct_L := [(1, 662, e_Mo_fitsFace)]
set_option maxRecDepth 100000 in
theorem c_Mo_choose {l : Launch} {D : va_G} {kA : Nat → ClassId} (h_Mo_fitsFace : ct_ok l D kA GG y_Mo_fitsFace z_Mo_fitsFace e_Mo_fitsFace) : ct_ok l D kA GG y_Mo_choose z_Mo_choose e_Mo_choose := chk_all_ok (FT := [(87, 13, 44), (597, 13, 32), (612, 13, 39)]) (PT := []) (CT := t_Mo_choose_ct) (KT := [(1, 546, .int (1000000), (0, 1000000, 1000000, []))]) (NT := []) (AN := n_Mo_choose_an) (OT := []) 5 248 (List.forall_mem_nil _) (by decide +kernel) ⟨List.forall_mem_cons.mpr ⟨gf_Mo_87, List.forall_mem_cons.mpr ⟨gf_Mo_597, List.forall_mem_cons.mpr ⟨gf_Mo_612, List.forall_mem_nil _⟩⟩⟩, List.forall_mem_nil _, List.forall_mem_cons.mpr ⟨cl_virtual (y := y_Mo_fitsFace) (ci := 13) rfl rfl ⟨_, _, rfl⟩ (by decide +kernel) h_Mo_fitsFace wm_3223 wm_9 wm_3220 wm_3222 wv_15_14 ⟨by decide, by decide, by decide +kernel⟩ (by decide), List.forall_mem_nil _⟩, List.forall_mem_cons.mpr ⟨kx_Mo_1_546, List.forall_mem_nil _⟩, List.forall_mem_nil _⟩ (by decide +kernel)
def n_Mo_crossings_an : List an_T := [(4, [(0, (2, 0, 0, [150])), (1, (0, -2147483648, 2147483647, [])), (2, (0, 0, 130, []))], [], (0, 0), [(0, 0, 99996), (1, 2, 130), (0, 0, 100000), (0, 0, 0), (0, 0, 0)], [], [], [], 0, [], []), (14, [(0, (2, 0, 0, [150])), (1, (0, -2147483648, 2147483647, [])), (2, (0, 0, 129, [])), (3, (0, 0, 129, []))], [], (0, 0), [(0, 0, 99996), (1, 2, 130), (0, 0, 99986), (1, 3, 129), (0, 0, 100000)], [], [], [], 0, [], [])]
def t_Mo_crossings_ct : ct_L := [(1, 858, e_Mo_placeOf)]
set_option maxRecDepth 100000 in
theorem c_Mo_crossings {l : Launch} {D : va_G} {kA : Nat → ClassId} (h_Mo_placeOf : ct_ok l D kA GG y_Mo_placeOf z_Mo_placeOf e_Mo_placeOf) : ct_ok l D kA GG y_Mo_crossings z_Mo_crossings e_Mo_crossings := chk_all_ok (FT := [(222, 13, 102), (237, 13, 108), (240, 13, 109), (847, 13, 107)]) (PT := []) (CT := t_Mo_crossings_ct) (KT := []) (NT := []) (AN := n_Mo_crossings_an) (OT := []) 5 404 (List.forall_mem_nil _) (by decide +kernel) ⟨List.forall_mem_cons.mpr ⟨gf_Mo_222, List.forall_mem_cons.mpr ⟨gf_Mo_237, List.forall_mem_cons.mpr ⟨gf_Mo_240, List.forall_mem_cons.mpr ⟨gf_Mo_847, List.forall_mem_nil _⟩⟩⟩⟩, List.forall_mem_nil _, List.forall_mem_cons.mpr ⟨cl_virtual (y := y_Mo_placeOf) (ci := 13) rfl rfl ⟨_, _, rfl⟩ (by decide +kernel) h_Mo_placeOf wm_3442 wm_9 wm_3439 wm_3441 wv_18_12 ⟨by decide, by decide, by decide +kernel⟩ (by decide), List.forall_mem_nil _⟩, List.forall_mem_nil _, List.forall_mem_nil _⟩ (by decide +kernel)
def n_Mo_dart_an : List an_T := []
def t_Mo_dart_ct : ct_L := [(1, 919, e_Mo_low)]
set_option maxRecDepth 100000 in
theorem c_Mo_dart {l : Launch} {D : va_G} {kA : Nat → ClassId} (h_Mo_low : ct_ok l D kA GG y_Mo_low z_Mo_low e_Mo_low) : ct_ok l D kA GG y_Mo_dart z_Mo_dart e_Mo_dart := chk_all_ok (FT := [(57, 13, 33)]) (PT := []) (CT := t_Mo_dart_ct) (KT := []) (NT := []) (AN := n_Mo_dart_an) (OT := []) 0 200 (List.forall_mem_nil _) (by decide +kernel) ⟨List.forall_mem_cons.mpr ⟨gf_Mo_57, List.forall_mem_nil _⟩, List.forall_mem_nil _, List.forall_mem_cons.mpr ⟨cl_virtual (y := y_Mo_low) (ci := 13) rfl rfl ⟨_, _, rfl⟩ (by decide +kernel) h_Mo_low wm_3542 wm_9 wm_3539 wm_3541 wv_20_5 ⟨by decide, by decide, by decide +kernel⟩ (by decide), List.forall_mem_nil _⟩, List.forall_mem_nil _, List.forall_mem_nil _⟩ (by decide +kernel)
def n_Mo_dot_an : List an_T := []
def t_Mo_dot_ct : ct_L := [(0, 387, e_Mo_in)]
set_option maxRecDepth 100000 in
theorem c_Mo_dot {l : Launch} {D : va_G} {kA : Nat → ClassId} (h_Mo_in : ct_ok l D kA GG y_Mo_in z_Mo_in e_Mo_in) : ct_ok l D kA GG y_Mo_dot z_Mo_dot e_Mo_dot := chk_all_ok (FT := [(369, 13, 175), (1329, 13, 173), (1332, 13, 174)]) (PT := []) (CT := t_Mo_dot_ct) (KT := []) (NT := []) (AN := n_Mo_dot_an) (OT := []) 0 200 (List.forall_mem_nil _) (by decide +kernel) ⟨List.forall_mem_cons.mpr ⟨gf_Mo_369, List.forall_mem_cons.mpr ⟨gf_Mo_1329, List.forall_mem_cons.mpr ⟨gf_Mo_1332, List.forall_mem_nil _⟩⟩⟩, List.forall_mem_nil _, List.forall_mem_cons.mpr ⟨cl_static (y := y_Mo_in) h_Mo_in wm_2971 wm_9 wm_2969 wm_2970 ⟨by decide, by decide, by decide +kernel⟩ (by decide), List.forall_mem_nil _⟩, List.forall_mem_nil _, List.forall_mem_nil _⟩ (by decide +kernel)
def n_Mo_dotX_an : List an_T := []
def t_Mo_dotX_ct : ct_L := [(87, 1097, e_jMath_max2_v13)]
set_option maxRecDepth 100000 in
theorem c_Mo_dotX {l : Launch} {D : va_G} {kA : Nat → ClassId} : ct_ok l D kA GG y_Mo_dotX z_Mo_dotX e_Mo_dotX := chk_all_ok (FT := [(1142, 13, 153), (1145, 13, 154), (1329, 13, 173)]) (PT := []) (CT := t_Mo_dotX_ct) (KT := []) (NT := []) (AN := n_Mo_dotX_an) (OT := []) 0 200 (List.forall_mem_nil _) (by decide +kernel) ⟨List.forall_mem_cons.mpr ⟨gf_Mo_1142, List.forall_mem_cons.mpr ⟨gf_Mo_1145, List.forall_mem_cons.mpr ⟨gf_Mo_1329, List.forall_mem_nil _⟩⟩⟩, List.forall_mem_nil _, List.forall_mem_cons.mpr ⟨cl_static (y := y_jMath_max2) c_jMath_max2_v13 wm_1750 wm_10 wm_3757 wm_1749 ⟨by decide, by decide, by decide +kernel⟩ (by decide), List.forall_mem_nil _⟩, List.forall_mem_nil _, List.forall_mem_nil _⟩ (by decide +kernel)
def n_Mo_dotY_an : List an_T := []
def t_Mo_dotY_ct : ct_L := [(87, 1097, e_jMath_max2_v13)]
set_option maxRecDepth 100000 in
theorem c_Mo_dotY {l : Launch} {D : va_G} {kA : Nat → ClassId} : ct_ok l D kA GG y_Mo_dotY z_Mo_dotY e_Mo_dotY := chk_all_ok (FT := [(1148, 13, 155), (1151, 13, 156), (1332, 13, 174)]) (PT := []) (CT := t_Mo_dotY_ct) (KT := []) (NT := []) (AN := n_Mo_dotY_an) (OT := []) 0 200 (List.forall_mem_nil _) (by decide +kernel) ⟨List.forall_mem_cons.mpr ⟨gf_Mo_1148, List.forall_mem_cons.mpr ⟨gf_Mo_1151, List.forall_mem_cons.mpr ⟨gf_Mo_1332, List.forall_mem_nil _⟩⟩⟩, List.forall_mem_nil _, List.forall_mem_cons.mpr ⟨cl_static (y := y_jMath_max2) c_jMath_max2_v13 wm_1750 wm_10 wm_3757 wm_1749 ⟨by decide, by decide, by decide +kernel⟩ (by decide), List.forall_mem_nil _⟩, List.forall_mem_nil _, List.forall_mem_nil _⟩ (by decide +kernel)
def n_Mo_edgeOf_an : List an_T := [(2, [(0, (2, 0, 0, [150])), (1, (0, -1, 25, [])), (2, (0, -1, 24, [])), (3, (0, 0, 80, []))], [], (0, 0), [(0, 0, 99998), (1, 3, 80), (0, 0, 100000)], [], [], [], 0, [], [])]
def t_Mo_edgeOf_ct : ct_L := [(1, 600, e_Mo_at1)]
set_option maxRecDepth 100000 in
theorem c_Mo_edgeOf {l : Launch} {D : va_G} {kA : Nat → ClassId} (h_Mo_at1 : ct_ok l D kA GG y_Mo_at1 z_Mo_at1 e_Mo_at1) : ct_ok l D kA GG y_Mo_edgeOf z_Mo_edgeOf e_Mo_edgeOf := chk_all_ok (FT := [(597, 13, 32)]) (PT := []) (CT := t_Mo_edgeOf_ct) (KT := []) (NT := []) (AN := n_Mo_edgeOf_an) (OT := []) 3 200 (List.forall_mem_nil _) (by decide +kernel) ⟨List.forall_mem_cons.mpr ⟨gf_Mo_597, List.forall_mem_nil _⟩, List.forall_mem_nil _, List.forall_mem_cons.mpr ⟨cl_virtual (y := y_Mo_at1) (ci := 13) rfl rfl ⟨_, _, rfl⟩ (by decide +kernel) h_Mo_at1 wm_3159 wm_9 wm_3156 wm_3158 wv_14_15 ⟨by decide, by decide, by decide +kernel⟩ (by decide), List.forall_mem_nil _⟩, List.forall_mem_nil _, List.forall_mem_nil _⟩ (by decide +kernel)
def n_Mo_fault_an : List an_T := []
def t_Mo_fault_ct : ct_L := [(0, 387, e_Mo_in)]
set_option maxRecDepth 100000 in
theorem c_Mo_fault {l : Launch} {D : va_G} {kA : Nat → ClassId} (h_Mo_in : ct_ok l D kA GG y_Mo_in z_Mo_in e_Mo_in) : ct_ok l D kA GG y_Mo_fault z_Mo_fault e_Mo_fault := chk_all_ok (FT := [(409, 13, 7), (413, 13, 8), (416, 13, 9)]) (PT := []) (CT := t_Mo_fault_ct) (KT := []) (NT := []) (AN := n_Mo_fault_an) (OT := []) 0 200 (List.forall_mem_nil _) (by decide +kernel) ⟨List.forall_mem_cons.mpr ⟨gf_Mo_409, List.forall_mem_cons.mpr ⟨gf_Mo_413, List.forall_mem_cons.mpr ⟨gf_Mo_416, List.forall_mem_nil _⟩⟩⟩, List.forall_mem_nil _, List.forall_mem_cons.mpr ⟨cl_static (y := y_Mo_in) h_Mo_in wm_2971 wm_9 wm_2969 wm_2970 ⟨by decide, by decide, by decide +kernel⟩ (by decide), List.forall_mem_nil _⟩, List.forall_mem_nil _, List.forall_mem_nil _⟩ (by decide +kernel)
def n_Mo_firstFit_an : List an_T := [(2, [(0, (2, 0, 0, [150])), (1, (0, 0, 79, [])), (2, (0, 0, 120, []))], [], (0, 0), [(0, 0, 99998), (1, 2, 120), (0, 0, 100000)], [], [], [], 0, [], [])]
def t_Mo_firstFit_ct : ct_L := [(1, 662, e_Mo_fitsFace)]
set_option maxRecDepth 100000 in
theorem c_Mo_firstFit {l : Launch} {D : va_G} {kA : Nat → ClassId} (h_Mo_fitsFace : ct_ok l D kA GG y_Mo_fitsFace z_Mo_fitsFace e_Mo_fitsFace) : ct_ok l D kA GG y_Mo_firstFit z_Mo_firstFit e_Mo_firstFit := chk_all_ok (FT := [(612, 13, 39)]) (PT := []) (CT := t_Mo_firstFit_ct) (KT := []) (NT := []) (AN := n_Mo_firstFit_an) (OT := []) 3 200 (List.forall_mem_nil _) (by decide +kernel) ⟨List.forall_mem_cons.mpr ⟨gf_Mo_612, List.forall_mem_nil _⟩, List.forall_mem_nil _, List.forall_mem_cons.mpr ⟨cl_virtual (y := y_Mo_fitsFace) (ci := 13) rfl rfl ⟨_, _, rfl⟩ (by decide +kernel) h_Mo_fitsFace wm_3223 wm_9 wm_3220 wm_3222 wv_15_14 ⟨by decide, by decide, by decide +kernel⟩ (by decide), List.forall_mem_nil _⟩, List.forall_mem_nil _, List.forall_mem_nil _⟩ (by decide +kernel)
def n_Mo_isDigit_an : List an_T := []
def t_Mo_isDigit_ct : ct_L := [(0, 387, e_Mo_in)]
set_option maxRecDepth 100000 in
theorem c_Mo_isDigit {l : Launch} {D : va_G} {kA : Nat → ClassId} (h_Mo_in : ct_ok l D kA GG y_Mo_in z_Mo_in e_Mo_in) : ct_ok l D kA GG y_Mo_isDigit z_Mo_isDigit e_Mo_isDigit := chk_all_ok (FT := []) (PT := []) (CT := t_Mo_isDigit_ct) (KT := []) (NT := []) (AN := n_Mo_isDigit_an) (OT := []) 0 200 (List.forall_mem_nil _) (by decide +kernel) ⟨List.forall_mem_nil _, List.forall_mem_nil _, List.forall_mem_cons.mpr ⟨cl_static (y := y_Mo_in) h_Mo_in wm_2971 wm_9 wm_2969 wm_2970 ⟨by decide, by decide, by decide +kernel⟩ (by decide), List.forall_mem_nil _⟩, List.forall_mem_nil _, List.forall_mem_nil _⟩ (by decide +kernel)
def n_Mo_isLetter_an : List an_T := []
def t_Mo_isLetter_ct : ct_L := [(0, 387, e_Mo_in)]
set_option maxRecDepth 100000 in
theorem c_Mo_isLetter {l : Launch} {D : va_G} {kA : Nat → ClassId} (h_Mo_in : ct_ok l D kA GG y_Mo_in z_Mo_in e_Mo_in) : ct_ok l D kA GG y_Mo_isLetter z_Mo_isLetter e_Mo_isLetter := chk_all_ok (FT := []) (PT := []) (CT := t_Mo_isLetter_ct) (KT := []) (NT := []) (AN := n_Mo_isLetter_an) (OT := []) 0 200 (List.forall_mem_nil _) (by decide +kernel) ⟨List.forall_mem_nil _, List.forall_mem_nil _, List.forall_mem_cons.mpr ⟨cl_static (y := y_Mo_in) h_Mo_in wm_2971 wm_9 wm_2969 wm_2970 ⟨by decide, by decide, by decide +kernel⟩ (by decide), List.forall_mem_nil _⟩, List.forall_mem_nil _, List.forall_mem_nil _⟩ (by decide +kernel)
def n_Mo_isPlace_an : List an_T := []
def t_Mo_isPlace_ct : ct_L := [(0, 387, e_Mo_in)]
set_option maxRecDepth 100000 in
theorem c_Mo_isPlace {l : Launch} {D : va_G} {kA : Nat → ClassId} (h_Mo_in : ct_ok l D kA GG y_Mo_in z_Mo_in e_Mo_in) : ct_ok l D kA GG y_Mo_isPlace z_Mo_isPlace e_Mo_isPlace := chk_all_ok (FT := []) (PT := []) (CT := t_Mo_isPlace_ct) (KT := []) (NT := []) (AN := n_Mo_isPlace_an) (OT := []) 0 200 (List.forall_mem_nil _) (by decide +kernel) ⟨List.forall_mem_nil _, List.forall_mem_nil _, List.forall_mem_cons.mpr ⟨cl_static (y := y_Mo_in) h_Mo_in wm_2971 wm_9 wm_2969 wm_2970 ⟨by decide, by decide, by decide +kernel⟩ (by decide), List.forall_mem_nil _⟩, List.forall_mem_nil _, List.forall_mem_nil _⟩ (by decide +kernel)
def n_Mo_join_an : List an_T := [(8, [(0, (2, 0, 0, [150])), (1, (0, -1, 79, [])), (2, (0, -1, 79, [])), (3, (0, 0, 80, []))], [], (0, 0), [(0, 0, 99992), (1, 3, 80), (0, 0, 100000)], [], [], [], 0, [], [])]
def t_Mo_join_ct : ct_L := [(0, 547, e_Mo_min)]
set_option maxRecDepth 100000 in
theorem c_Mo_join {l : Launch} {D : va_G} {kA : Nat → ClassId} (h_Mo_min : ct_ok l D kA GG y_Mo_min z_Mo_min e_Mo_min) : ct_ok l D kA GG y_Mo_join z_Mo_join e_Mo_join := chk_all_ok (FT := [(32, 13, 17), (597, 13, 32)]) (PT := []) (CT := t_Mo_join_ct) (KT := []) (NT := []) (AN := n_Mo_join_an) (OT := []) 3 200 (List.forall_mem_nil _) (by decide +kernel) ⟨List.forall_mem_cons.mpr ⟨gf_Mo_32, List.forall_mem_cons.mpr ⟨gf_Mo_597, List.forall_mem_nil _⟩⟩, List.forall_mem_nil _, List.forall_mem_cons.mpr ⟨cl_static (y := y_Mo_min) h_Mo_min wm_3174 wm_9 wm_3172 wm_3173 ⟨by decide, by decide, by decide +kernel⟩ (by decide), List.forall_mem_nil _⟩, List.forall_mem_nil _, List.forall_mem_nil _⟩ (by decide +kernel)
def n_Mo_map_an : List an_T := []
def t_Mo_map_ct : ct_L := [(0, 387, e_Mo_in)]
set_option maxRecDepth 100000 in
theorem c_Mo_map {l : Launch} {D : va_G} {kA : Nat → ClassId} (h_Mo_in : ct_ok l D kA GG y_Mo_in z_Mo_in e_Mo_in) : ct_ok l D kA GG y_Mo_map z_Mo_map e_Mo_map := chk_all_ok (FT := [(51, 13, 23), (572, 13, 27), (575, 13, 30), (581, 13, 25), (584, 13, 26)]) (PT := []) (CT := t_Mo_map_ct) (KT := []) (NT := []) (AN := n_Mo_map_an) (OT := []) 0 200 (List.forall_mem_nil _) (by decide +kernel) ⟨List.forall_mem_cons.mpr ⟨gf_Mo_51, List.forall_mem_cons.mpr ⟨gf_Mo_572, List.forall_mem_cons.mpr ⟨gf_Mo_575, List.forall_mem_cons.mpr ⟨gf_Mo_581, List.forall_mem_cons.mpr ⟨gf_Mo_584, List.forall_mem_nil _⟩⟩⟩⟩⟩, List.forall_mem_nil _, List.forall_mem_cons.mpr ⟨cl_static (y := y_Mo_in) h_Mo_in wm_2971 wm_9 wm_2969 wm_2970 ⟨by decide, by decide, by decide +kernel⟩ (by decide), List.forall_mem_nil _⟩, List.forall_mem_nil _, List.forall_mem_nil _⟩ (by decide +kernel)
def n_Mo_octet_an : List an_T := []
def t_Mo_octet_ct : ct_L := [(0, 387, e_Mo_in)]
set_option maxRecDepth 100000 in
theorem c_Mo_octet {l : Launch} {D : va_G} {kA : Nat → ClassId} (h_Mo_in : ct_ok l D kA GG y_Mo_in z_Mo_in e_Mo_in) : ct_ok l D kA GG y_Mo_octet z_Mo_octet e_Mo_octet := chk_all_ok (FT := [(363, 13, 171), (1326, 13, 169)]) (PT := []) (CT := t_Mo_octet_ct) (KT := []) (NT := []) (AN := n_Mo_octet_an) (OT := []) 0 200 (List.forall_mem_nil _) (by decide +kernel) ⟨List.forall_mem_cons.mpr ⟨gf_Mo_363, List.forall_mem_cons.mpr ⟨gf_Mo_1326, List.forall_mem_nil _⟩⟩, List.forall_mem_nil _, List.forall_mem_cons.mpr ⟨cl_static (y := y_Mo_in) h_Mo_in wm_2971 wm_9 wm_2969 wm_2970 ⟨by decide, by decide, by decide +kernel⟩ (by decide), List.forall_mem_nil _⟩, List.forall_mem_nil _, List.forall_mem_nil _⟩ (by decide +kernel)
def n_Mo_take_an : List an_T := []
def t_Mo_take_ct : ct_L := [(0, 372, e_Mo_rowOf)]
set_option maxRecDepth 100000 in
theorem c_Mo_take {l : Launch} {D : va_G} {kA : Nat → ClassId} (h_Mo_rowOf : ct_ok l D kA GG y_Mo_rowOf z_Mo_rowOf e_Mo_rowOf) : ct_ok l D kA GG y_Mo_take z_Mo_take e_Mo_take := chk_all_ok (FT := [(20, 13, 3)]) (PT := [(391, 13, 5, .int)]) (CT := t_Mo_take_ct) (KT := []) (NT := []) (AN := n_Mo_take_an) (OT := []) 0 200 (List.forall_mem_nil _) (by decide +kernel) ⟨List.forall_mem_cons.mpr ⟨gf_Mo_20, List.forall_mem_nil _⟩, List.forall_mem_cons.mpr ⟨pf_Mo_391, List.forall_mem_nil _⟩, List.forall_mem_cons.mpr ⟨cl_static (y := y_Mo_rowOf) h_Mo_rowOf wm_2420 wm_9 wm_2418 wm_2419 ⟨by decide, by decide, by decide +kernel⟩ (by decide), List.forall_mem_nil _⟩, List.forall_mem_nil _, List.forall_mem_nil _⟩ (by decide +kernel)
