def n_Fa_spread_at_Nenear_an : List an_T := [(12, [(0, (2, 0, 0, [82])), (1, (0, 1, 24, [])), (2, (0, 1, 8388608, [])), (3, (0, 0, 16777215, [])), (4, (0, 0, 16777215, [])), (5, (0, 0, 16777215, [])), (6, (0, 0, 24, []))], [], (0, 0), [(0, 0, 99988), (1, 6, 24), (0, 0, 100000)], [], [], [], 0, [], [])]
def t_Fa_spread_at_Nenear_ct : ct_L := [(84, 97, e_Fa_nearOf_at_Nenear)]
set_option maxRecDepth 100000 in
theorem c_Fa_spread_at_Nenear {l : Launch} {D : va_G} {kA : Nat → ClassId} (h_Fa_nearOf_at_Nenear : ct_ok l D kA GG y_Fa_nearOf_at_Nenear z_Fa_nearOf_at_Nenear e_Fa_nearOf_at_Nenear) : ct_ok l D kA GG y_Fa_spread_at_Nenear z_Fa_spread_at_Nenear e_Fa_spread_at_Nenear := chk_all_ok (FT := []) (PT := []) (CT := t_Fa_spread_at_Nenear_ct) (KT := []) (NT := []) (AN := n_Fa_spread_at_Nenear_an) (OT := []) 3 200 (List.forall_mem_nil _) (by decide +kernel) ⟨List.forall_mem_nil _, List.forall_mem_nil _, List.forall_mem_cons.mpr ⟨cl_static (y := y_Fa_nearOf_at_Nenear) h_Fa_nearOf_at_Nenear wm_824 wm_7 wm_822 wm_823 ⟨by decide, by decide, by decide +kernel⟩ (by decide), List.forall_mem_nil _⟩, List.forall_mem_nil _, List.forall_mem_nil _, GG_pl⟩ (by decide +kernel)
def n_Fa_spread_at_Nenear_Npnear_an : List an_T := [(12, [(0, (2, 0, 0, [82, 142])), (1, (0, 0, 25, [])), (2, (0, 0, 33554431, [])), (3, (0, 0, 33554431, [])), (4, (0, 0, 33554431, [])), (5, (0, 0, 33554431, [])), (6, (0, 0, 25, []))], [], (0, 0), [(0, 0, 99988), (1, 6, 25), (0, 0, 100000)], [], [], [], 0, [], [])]
def t_Fa_spread_at_Nenear_Npnear_ct : ct_L := [(84, 97, e_Fa_nearOf_at_Nenear_Npnear)]
set_option maxRecDepth 100000 in
theorem c_Fa_spread_at_Nenear_Npnear {l : Launch} {D : va_G} {kA : Nat → ClassId} (h_Fa_nearOf_at_Nenear_Npnear : ct_ok l D kA GG y_Fa_nearOf_at_Nenear_Npnear z_Fa_nearOf_at_Nenear_Npnear e_Fa_nearOf_at_Nenear_Npnear) : ct_ok l D kA GG y_Fa_spread_at_Nenear_Npnear z_Fa_spread_at_Nenear_Npnear e_Fa_spread_at_Nenear_Npnear := chk_all_ok (FT := []) (PT := []) (CT := t_Fa_spread_at_Nenear_Npnear_ct) (KT := []) (NT := []) (AN := n_Fa_spread_at_Nenear_Npnear_an) (OT := []) 3 200 (List.forall_mem_nil _) (by decide +kernel) ⟨List.forall_mem_nil _, List.forall_mem_nil _, List.forall_mem_cons.mpr ⟨cl_static (y := y_Fa_nearOf_at_Nenear_Npnear) h_Fa_nearOf_at_Nenear_Npnear wm_824 wm_7 wm_822 wm_823 ⟨by decide, by decide, by decide +kernel⟩ (by decide), List.forall_mem_nil _⟩, List.forall_mem_nil _, List.forall_mem_nil _, GG_pl⟩ (by decide +kernel)
def n_Fa_weightOf_an : List an_T := []
def t_Fa_weightOf_ct : ct_L := [(1, 166, e_Gr_edgeBetween)]
set_option maxRecDepth 100000 in
theorem c_Fa_weightOf {l : Launch} {D : va_G} {kA : Nat → ClassId} (h_Gr_edgeBetween : ct_ok l D kA GG y_Gr_edgeBetween z_Gr_edgeBetween e_Gr_edgeBetween) : ct_ok l D kA GG y_Fa_weightOf z_Fa_weightOf e_Fa_weightOf := chk_all_ok (FT := [(72, 3, 7), (169, 3, 9)]) (PT := []) (CT := t_Fa_weightOf_ct) (KT := []) (NT := []) (AN := n_Fa_weightOf_an) (OT := []) 0 200 (List.forall_mem_nil _) (by decide +kernel) ⟨List.forall_mem_cons.mpr ⟨gf_Fa_72, List.forall_mem_cons.mpr ⟨gf_Fa_169, List.forall_mem_nil _⟩⟩, List.forall_mem_nil _, List.forall_mem_cons.mpr ⟨cl_virtual (y := y_Gr_edgeBetween) (ci := 3) rfl rfl ⟨_, _, rfl⟩ (by decide +kernel) h_Gr_edgeBetween wm_768 wm_3 wm_913 wm_766 wm_767 ⟨by decide, by decide, by decide +kernel⟩ (by decide), List.forall_mem_nil _⟩, List.forall_mem_nil _, List.forall_mem_nil _, GG_pl⟩ (by decide +kernel)
def o_Gr_addEdge_0 : or_T := (1000000, 0, [], [], [], [], [], [], [])
theorem oo_Gr_addEdge_0 {kA : Nat → ClassId} : or_ok kA GG o_Gr_addEdge_0 := fun _ _ _ _ _ _ _ _ _ _ => ⟨fun q h => (by cases h), [], trivial, fun f h => (by cases h), fun q h => (by cases h)⟩
def n_Gr_addEdge_an : List an_T := []
def t_Gr_addEdge_ct : ct_L := [(1, 100, e_Gr_tie)]
set_option maxRecDepth 100000 in
theorem c_Gr_addEdge {l : Launch} {D : va_G} {kA : Nat → ClassId} (h_Gr_tie : ct_ok l D kA GG y_Gr_tie z_Gr_tie e_Gr_tie) : ct_ok l D kA GG y_Gr_addEdge z_Gr_addEdge e_Gr_addEdge := chk_all_ok (FT := [(15, 3, 1), (35, 3, 7), (38, 3, 8), (41, 3, 9), (44, 3, 10)]) (PT := [(15, 3, 1, .int)]) (CT := t_Gr_addEdge_ct) (KT := []) (NT := []) (AN := n_Gr_addEdge_an) (OT := [o_Gr_addEdge_0]) 0 200 (List.forall_mem_cons.mpr ⟨oo_Gr_addEdge_0, List.forall_mem_nil _⟩) (by decide +kernel) ⟨List.forall_mem_cons.mpr ⟨gf_Gr_15, List.forall_mem_cons.mpr ⟨gf_Gr_35, List.forall_mem_cons.mpr ⟨gf_Gr_38, List.forall_mem_cons.mpr ⟨gf_Gr_41, List.forall_mem_cons.mpr ⟨gf_Gr_44, List.forall_mem_nil _⟩⟩⟩⟩⟩, List.forall_mem_cons.mpr ⟨pf_Gr_15, List.forall_mem_nil _⟩, List.forall_mem_cons.mpr ⟨cl_virtual (y := y_Gr_tie) (ci := 3) rfl rfl ⟨_, _, rfl⟩ (by decide +kernel) h_Gr_tie wm_776 wm_3 wm_773 wm_775 wv_1_11 ⟨by decide, by decide, by decide +kernel⟩ (by decide), List.forall_mem_nil _⟩, List.forall_mem_nil _, List.forall_mem_nil _, GG_pl⟩ (by decide +kernel)
def o_Gr_addNode_at_Retape_0 : or_T := (18, 9, [(2, (0, 0, 2000, [])), (3, (0, 0, 8, [])), (5, (0, 0, 23, [])), (7, (0, 8, 8, [])), (8, (0, 0, 184, []))], [(3, [8, 5, 7], []), (21, [2, 3], [2000])], [], [], [(21, [8, 3], [192])], [], [])
theorem oo_Gr_addNode_at_Retape_0 {kA : Nat → ClassId} : or_ok kA GG o_Gr_addNode_at_Retape_0 := by
  intro A ta ws vs hD hth hl hk hds hf
  have hl : vs.length = 9 := hl
  have hk : ∀ q ∈ ([(2, (0, 0, 2000, [])), (3, (0, 0, 8, [])), (5, (0, 0, 23, [])), (7, (0, 8, 8, [])), (8, (0, 0, 184, []))] : List (Nat × tv_T)), tv_ok ta q.2 (n_v vs q.1) := hk
  obtain ⟨t2, hk⟩ := List.forall_mem_cons.mp hk
  have t2 : tv_ok ta (0, 0, 2000, []) (n_v vs 2) := t2
  have k2 : 0 ≤ v_iv (n_v vs 2) ∧ v_iv (n_v vs 2) ≤ 2000 := tv_rng t2
  obtain ⟨t3, hk⟩ := List.forall_mem_cons.mp hk
  have t3 : tv_ok ta (0, 0, 8, []) (n_v vs 3) := t3
  have k3 : 0 ≤ v_iv (n_v vs 3) ∧ v_iv (n_v vs 3) ≤ 8 := tv_rng t3
  obtain ⟨t5, hk⟩ := List.forall_mem_cons.mp hk
  have t5 : tv_ok ta (0, 0, 23, []) (n_v vs 5) := t5
  have k5 : 0 ≤ v_iv (n_v vs 5) ∧ v_iv (n_v vs 5) ≤ 23 := tv_rng t5
  obtain ⟨t7, hk⟩ := List.forall_mem_cons.mp hk
  have t7 : tv_ok ta (0, 8, 8, []) (n_v vs 7) := t7
  have k7 : 8 ≤ v_iv (n_v vs 7) ∧ v_iv (n_v vs 7) ≤ 8 := tv_rng t7
  obtain ⟨t8, hk⟩ := List.forall_mem_cons.mp hk
  have t8 : tv_ok ta (0, 0, 184, []) (n_v vs 8) := t8
  have k8 : 0 ≤ v_iv (n_v vs 8) ∧ v_iv (n_v vs 8) ≤ 184 := tv_rng t8
  have hf : fc_ok [(3, [8, 5, 7], []), (21, [2, 3], [2000])] ta ws vs := hf
  obtain ⟨f0, hf⟩ := fc_un (show (3 : Nat) < 100 from by decide) hf
  have f0 : v_iv (n_v vs 8) = v_iv (n_v vs 5) * v_iv (n_v vs 7) := f0
  rw [show v_iv (n_v vs 7) = 8 from by omega] at f0
  obtain ⟨f1, hf⟩ := fc_un (show (21 : Nat) < 100 from by decide) hf
  have f1 : v_iv (n_v vs 2) + v_iv (n_v vs 3) ≤ 2000 := f1
  have nf0 : fc_1 (21, [8, 3], [192]) ws (vs) := by
    refine ⟨fun n hn => ?_, ?_⟩
    · have hn : n ∈ [8, 3] := hn
      rw [hl]
      simp only [List.mem_cons, List.not_mem_nil, or_false] at hn
      show n < 9; omega
    · show v_iv (n_v vs 8) + v_iv (n_v vs 3) ≤ 192
      omega
  refine ⟨(fun _ h => (by cases h)), [], trivial, ?_, (fun _ h => (by cases h))⟩
  rw [List.append_nil]
  exact List.forall_mem_cons.mpr ⟨⟨show (21 : Nat) < 100 from by decide, nf0⟩, (fun _ h => (by cases h))⟩
def n_Gr_addNode_at_Retape_an : List an_T := []
def t_Gr_addNode_at_Retape_ct : ct_L := [(57, 77, e_acp_0)]
set_option maxRecDepth 100000 in
theorem c_Gr_addNode_at_Retape {l : Launch} {D : va_G} {kA : Nat → ClassId} : ct_ok l D kA GG y_Gr_addNode_at_Retape z_Gr_addNode_at_Retape e_Gr_addNode_at_Retape := chk_all_ok (FT := [(9, 3, 0), (21, 3, 3), (25, 3, 4), (29, 3, 5), (32, 3, 6), (56, 3, 14)]) (PT := [(9, 3, 0, .int)]) (CT := t_Gr_addNode_at_Retape_ct) (KT := []) (NT := []) (AN := n_Gr_addNode_at_Retape_an) (OT := [o_Gr_addNode_at_Retape_0]) 0 200 (List.forall_mem_cons.mpr ⟨oo_Gr_addNode_at_Retape_0, List.forall_mem_nil _⟩) (by decide +kernel) ⟨List.forall_mem_cons.mpr ⟨gf_Gr_9, List.forall_mem_cons.mpr ⟨gf_Gr_21, List.forall_mem_cons.mpr ⟨gf_Gr_25, List.forall_mem_cons.mpr ⟨gf_Gr_29, List.forall_mem_cons.mpr ⟨gf_Gr_32, List.forall_mem_cons.mpr ⟨gf_Gr_56, List.forall_mem_nil _⟩⟩⟩⟩⟩⟩, List.forall_mem_cons.mpr ⟨pf_Gr_9, List.forall_mem_nil _⟩, List.forall_mem_cons.mpr ⟨cl_copy rfl rfl (by decide) (by decide) (by decide) wm_748 wm_750 wm_749 wm_15, List.forall_mem_nil _⟩, List.forall_mem_nil _, List.forall_mem_nil _, GG_pl⟩ (by decide +kernel)
def o_Gr_addNode_at_newGrperform45_0 : or_T := (18, 9, [(2, (0, 0, 2000, [])), (3, (0, 0, 8, [])), (5, (0, 0, 23, [])), (7, (0, 8, 8, [])), (8, (0, 0, 184, []))], [(3, [8, 5, 7], []), (21, [2, 3], [3])], [], [], [(21, [8, 3], [192])], [], [])
theorem oo_Gr_addNode_at_newGrperform45_0 {kA : Nat → ClassId} : or_ok kA GG o_Gr_addNode_at_newGrperform45_0 := by
  intro A ta ws vs hD hth hl hk hds hf
  have hl : vs.length = 9 := hl
  have hk : ∀ q ∈ ([(2, (0, 0, 2000, [])), (3, (0, 0, 8, [])), (5, (0, 0, 23, [])), (7, (0, 8, 8, [])), (8, (0, 0, 184, []))] : List (Nat × tv_T)), tv_ok ta q.2 (n_v vs q.1) := hk
  obtain ⟨t2, hk⟩ := List.forall_mem_cons.mp hk
  have t2 : tv_ok ta (0, 0, 2000, []) (n_v vs 2) := t2
  have k2 : 0 ≤ v_iv (n_v vs 2) ∧ v_iv (n_v vs 2) ≤ 2000 := tv_rng t2
  obtain ⟨t3, hk⟩ := List.forall_mem_cons.mp hk
  have t3 : tv_ok ta (0, 0, 8, []) (n_v vs 3) := t3
  have k3 : 0 ≤ v_iv (n_v vs 3) ∧ v_iv (n_v vs 3) ≤ 8 := tv_rng t3
  obtain ⟨t5, hk⟩ := List.forall_mem_cons.mp hk
  have t5 : tv_ok ta (0, 0, 23, []) (n_v vs 5) := t5
  have k5 : 0 ≤ v_iv (n_v vs 5) ∧ v_iv (n_v vs 5) ≤ 23 := tv_rng t5
  obtain ⟨t7, hk⟩ := List.forall_mem_cons.mp hk
  have t7 : tv_ok ta (0, 8, 8, []) (n_v vs 7) := t7
  have k7 : 8 ≤ v_iv (n_v vs 7) ∧ v_iv (n_v vs 7) ≤ 8 := tv_rng t7
  obtain ⟨t8, hk⟩ := List.forall_mem_cons.mp hk
  have t8 : tv_ok ta (0, 0, 184, []) (n_v vs 8) := t8
  have k8 : 0 ≤ v_iv (n_v vs 8) ∧ v_iv (n_v vs 8) ≤ 184 := tv_rng t8
  have hf : fc_ok [(3, [8, 5, 7], []), (21, [2, 3], [3])] ta ws vs := hf
  obtain ⟨f0, hf⟩ := fc_un (show (3 : Nat) < 100 from by decide) hf
  have f0 : v_iv (n_v vs 8) = v_iv (n_v vs 5) * v_iv (n_v vs 7) := f0
  rw [show v_iv (n_v vs 7) = 8 from by omega] at f0
  obtain ⟨f1, hf⟩ := fc_un (show (21 : Nat) < 100 from by decide) hf
  have f1 : v_iv (n_v vs 2) + v_iv (n_v vs 3) ≤ 3 := f1
  have nf0 : fc_1 (21, [8, 3], [192]) ws (vs) := by
    refine ⟨fun n hn => ?_, ?_⟩
    · have hn : n ∈ [8, 3] := hn
      rw [hl]
      simp only [List.mem_cons, List.not_mem_nil, or_false] at hn
      show n < 9; omega
    · show v_iv (n_v vs 8) + v_iv (n_v vs 3) ≤ 192
      omega
  refine ⟨(fun _ h => (by cases h)), [], trivial, ?_, (fun _ h => (by cases h))⟩
  rw [List.append_nil]
  exact List.forall_mem_cons.mpr ⟨⟨show (21 : Nat) < 100 from by decide, nf0⟩, (fun _ h => (by cases h))⟩
def n_Gr_addNode_at_newGrperform45_an : List an_T := []
def t_Gr_addNode_at_newGrperform45_ct : ct_L := [(57, 77, e_acp_1)]
set_option maxRecDepth 100000 in
theorem c_Gr_addNode_at_newGrperform45 {l : Launch} {D : va_G} {kA : Nat → ClassId} : ct_ok l D kA GG y_Gr_addNode_at_newGrperform45 z_Gr_addNode_at_newGrperform45 e_Gr_addNode_at_newGrperform45 := chk_all_ok (FT := [(9, 3, 0), (21, 3, 3), (25, 3, 4), (29, 3, 5), (32, 3, 6), (56, 3, 14)]) (PT := [(9, 3, 0, .int)]) (CT := t_Gr_addNode_at_newGrperform45_ct) (KT := []) (NT := []) (AN := n_Gr_addNode_at_newGrperform45_an) (OT := [o_Gr_addNode_at_newGrperform45_0]) 0 200 (List.forall_mem_cons.mpr ⟨oo_Gr_addNode_at_newGrperform45_0, List.forall_mem_nil _⟩) (by decide +kernel) ⟨List.forall_mem_cons.mpr ⟨gf_Gr_9, List.forall_mem_cons.mpr ⟨gf_Gr_21, List.forall_mem_cons.mpr ⟨gf_Gr_25, List.forall_mem_cons.mpr ⟨gf_Gr_29, List.forall_mem_cons.mpr ⟨gf_Gr_32, List.forall_mem_cons.mpr ⟨gf_Gr_56, List.forall_mem_nil _⟩⟩⟩⟩⟩⟩, List.forall_mem_cons.mpr ⟨pf_Gr_9, List.forall_mem_nil _⟩, List.forall_mem_cons.mpr ⟨cl_copy rfl rfl (by decide) (by decide) (by decide) wm_748 wm_750 wm_749 wm_15, List.forall_mem_nil _⟩, List.forall_mem_nil _, List.forall_mem_nil _, GG_pl⟩ (by decide +kernel)
def n_Gr_clear_an : List an_T := []
def t_Gr_clear_ct : ct_L := [(93, 71, e_jArr_fill1_v8), (117, 71, e_jArr_fill1_v9)]
set_option maxRecDepth 100000 in
theorem c_Gr_clear {l : Launch} {D : va_G} {kA : Nat → ClassId} : ct_ok l D kA GG y_Gr_clear z_Gr_clear e_Gr_clear := chk_all_ok (FT := [(56, 3, 14), (59, 3, 15)]) (PT := [(9, 3, 0, .int), (15, 3, 1, .int), (18, 3, 2, .int), (65, 3, 17, .int), (68, 3, 18, .int)]) (CT := t_Gr_clear_ct) (KT := []) (NT := []) (AN := n_Gr_clear_an) (OT := []) 0 200 (List.forall_mem_nil _) (by decide +kernel) ⟨List.forall_mem_cons.mpr ⟨gf_Gr_56, List.forall_mem_cons.mpr ⟨gf_Gr_59, List.forall_mem_nil _⟩⟩, List.forall_mem_cons.mpr ⟨pf_Gr_9, List.forall_mem_cons.mpr ⟨pf_Gr_15, List.forall_mem_cons.mpr ⟨pf_Gr_18, List.forall_mem_cons.mpr ⟨pf_Gr_65, List.forall_mem_cons.mpr ⟨pf_Gr_68, List.forall_mem_nil _⟩⟩⟩⟩⟩, List.forall_mem_cons.mpr ⟨cl_static (y := y_jArr_fill1) c_jArr_fill1_v8 wm_55 wm_4 wm_53 wm_54 ⟨by decide, by decide, by decide +kernel⟩ (by decide), List.forall_mem_cons.mpr ⟨cl_static (y := y_jArr_fill1) c_jArr_fill1_v9 wm_55 wm_4 wm_53 wm_54 ⟨by decide, by decide, by decide +kernel⟩ (by decide), List.forall_mem_nil _⟩⟩, List.forall_mem_nil _, List.forall_mem_nil _, GG_pl⟩ (by decide +kernel)
def n_Gr_distance_an : List an_T := [(7, [(0, (2, 0, 0, [3])), (1, (0, 0, 23, [])), (2, (0, 0, 23, [])), (3, (0, 0, 16777215, [])), (4, (0, 0, 24, []))], [], (0, 0), [(0, 0, 99993), (1, 4, 24), (0, 0, 100000)], [], [], [], 0, [], [])]
def t_Gr_distance_ct : ct_L := [(114, 90, e_Fa_nearOf_at_Grnear)]
set_option maxRecDepth 100000 in
theorem c_Gr_distance {l : Launch} {D : va_G} {kA : Nat → ClassId} (h_Fa_nearOf_at_Grnear : ct_ok l D kA GG y_Fa_nearOf_at_Grnear z_Fa_nearOf_at_Grnear e_Fa_nearOf_at_Grnear) : ct_ok l D kA GG y_Gr_distance z_Gr_distance e_Gr_distance := chk_all_ok (FT := [(9, 3, 0), (56, 3, 14)]) (PT := []) (CT := t_Gr_distance_ct) (KT := []) (NT := []) (AN := n_Gr_distance_an) (OT := []) 3 200 (List.forall_mem_nil _) (by decide +kernel) ⟨List.forall_mem_cons.mpr ⟨gf_Gr_9, List.forall_mem_cons.mpr ⟨gf_Gr_56, List.forall_mem_nil _⟩⟩, List.forall_mem_nil _, List.forall_mem_cons.mpr ⟨cl_static (y := y_Fa_nearOf_at_Grnear) h_Fa_nearOf_at_Grnear wm_824 wm_7 wm_1022 wm_823 ⟨by decide, by decide, by decide +kernel⟩ (by decide), List.forall_mem_nil _⟩, List.forall_mem_nil _, List.forall_mem_nil _, GG_pl⟩ (by decide +kernel)
def o_Gr_findNode_at_Retape_0 : or_T := (28, 8, [(0, (2, 0, 0, [3])), (2, (0, 0, 2000, [])), (3, (0, 0, 8, [])), (4, (0, 0, 23, [])), (5, (0, 1, 24, [])), (6, (2, 0, 0, [49])), (7, (0, 0, 8, []))], [(7, [7, 3], [0]), (10, [7, 6, 4], []), (9, [6, 0], [4]), (7, [4, 5], [2]), (9, [5, 0], [0]), (21, [2, 3], [2000])], [], [], [(20, [0, 4, 2], [30, 2000, 1, 2, 4, 1, 0, 0])], [], [(7, 3, 0, 0), (4, 5, -4294967296, -1), (2, 3, -4294967296, 2000), (2, 4, -4294967296, 2000), (3, 2, -4294967296, 8), (3, 4, -4294967296, 8)])
theorem oo_Gr_findNode_at_Retape_0 {kA : Nat → ClassId} : or_ok kA GG o_Gr_findNode_at_Retape_0 := by
  intro A ta ws vs hD hth hl hk hds hf
  have hl : vs.length = 8 := hl
  have hk : ∀ q ∈ ([(0, (2, 0, 0, [3])), (2, (0, 0, 2000, [])), (3, (0, 0, 8, [])), (4, (0, 0, 23, [])), (5, (0, 1, 24, [])), (6, (2, 0, 0, [49])), (7, (0, 0, 8, []))] : List (Nat × tv_T)), tv_ok ta q.2 (n_v vs q.1) := hk
  obtain ⟨t0, hk⟩ := List.forall_mem_cons.mp hk
  have t0 : tv_ok ta (2, 0, 0, [3]) (n_v vs 0) := t0
  have r0 : ta (v_ad (n_v vs 0)) = some 3 := tv_rg t0
  obtain ⟨t2, hk⟩ := List.forall_mem_cons.mp hk
  have t2 : tv_ok ta (0, 0, 2000, []) (n_v vs 2) := t2
  have k2 : 0 ≤ v_iv (n_v vs 2) ∧ v_iv (n_v vs 2) ≤ 2000 := tv_rng t2
  obtain ⟨t3, hk⟩ := List.forall_mem_cons.mp hk
  have t3 : tv_ok ta (0, 0, 8, []) (n_v vs 3) := t3
  have k3 : 0 ≤ v_iv (n_v vs 3) ∧ v_iv (n_v vs 3) ≤ 8 := tv_rng t3
  obtain ⟨t4, hk⟩ := List.forall_mem_cons.mp hk
  have t4 : tv_ok ta (0, 0, 23, []) (n_v vs 4) := t4
  have k4 : 0 ≤ v_iv (n_v vs 4) ∧ v_iv (n_v vs 4) ≤ 23 := tv_rng t4
  obtain ⟨t5, hk⟩ := List.forall_mem_cons.mp hk
  have t5 : tv_ok ta (0, 1, 24, []) (n_v vs 5) := t5
  have k5 : 1 ≤ v_iv (n_v vs 5) ∧ v_iv (n_v vs 5) ≤ 24 := tv_rng t5
  obtain ⟨t6, hk⟩ := List.forall_mem_cons.mp hk
  have t6 : tv_ok ta (2, 0, 0, [49]) (n_v vs 6) := t6
  have r6 : ta (v_ad (n_v vs 6)) = some 49 := tv_rg t6
  obtain ⟨t7, hk⟩ := List.forall_mem_cons.mp hk
  have t7 : tv_ok ta (0, 0, 8, []) (n_v vs 7) := t7
  have k7 : 0 ≤ v_iv (n_v vs 7) ∧ v_iv (n_v vs 7) ≤ 8 := tv_rng t7
  have hds : ∀ q ∈ ([(7, 3, 0, 0), (4, 5, -4294967296, -1), (2, 3, -4294967296, 2000), (2, 4, -4294967296, 2000), (3, 2, -4294967296, 8), (3, 4, -4294967296, 8)] : List of_T), n_iv vs q.2.1 + q.2.2.1 ≤ n_iv vs q.1 ∧ n_iv vs q.1 ≤ n_iv vs q.2.1 + q.2.2.2 := hds
  obtain ⟨d0, hds⟩ := List.forall_mem_cons.mp hds
  have d0 : v_iv (n_v vs 3) + 0 ≤ v_iv (n_v vs 7) ∧ v_iv (n_v vs 7) ≤ v_iv (n_v vs 3) + 0 := d0
  obtain ⟨d1, hds⟩ := List.forall_mem_cons.mp hds
  have d1 : v_iv (n_v vs 5) + (-4294967296) ≤ v_iv (n_v vs 4) ∧ v_iv (n_v vs 4) ≤ v_iv (n_v vs 5) + (-1) := d1
  obtain ⟨d2, hds⟩ := List.forall_mem_cons.mp hds
  have d2 : v_iv (n_v vs 3) + (-4294967296) ≤ v_iv (n_v vs 2) ∧ v_iv (n_v vs 2) ≤ v_iv (n_v vs 3) + 2000 := d2
  obtain ⟨d3, hds⟩ := List.forall_mem_cons.mp hds
  have d3 : v_iv (n_v vs 4) + (-4294967296) ≤ v_iv (n_v vs 2) ∧ v_iv (n_v vs 2) ≤ v_iv (n_v vs 4) + 2000 := d3
  obtain ⟨d4, hds⟩ := List.forall_mem_cons.mp hds
  have d4 : v_iv (n_v vs 2) + (-4294967296) ≤ v_iv (n_v vs 3) ∧ v_iv (n_v vs 3) ≤ v_iv (n_v vs 2) + 8 := d4
  obtain ⟨d5, hds⟩ := List.forall_mem_cons.mp hds
  have d5 : v_iv (n_v vs 4) + (-4294967296) ≤ v_iv (n_v vs 3) ∧ v_iv (n_v vs 3) ≤ v_iv (n_v vs 4) + 8 := d5
  have hf : fc_ok [(7, [7, 3], [0]), (10, [7, 6, 4], []), (9, [6, 0], [4]), (7, [4, 5], [2]), (9, [5, 0], [0]), (21, [2, 3], [2000])] ta ws vs := hf
  obtain ⟨f0, hf⟩ := fc_un (show (7 : Nat) < 100 from by decide) hf
  have f0 : v_iv (n_v vs 7) = v_iv (n_v vs 3) := f0
  obtain ⟨f1, hf⟩ := fc_un (show (10 : Nat) < 100 from by decide) hf
  have f1 : v_iv (n_v vs 7) = w_el ws (v_ad (n_v vs 6)) (v_iv (n_v vs 4)).toNat := f1
  obtain ⟨f2, hf⟩ := fc_un (show (9 : Nat) < 100 from by decide) hf
  have f2 : n_v vs 6 = w_fd ws (v_ad (n_v vs 0)) 4 := f2
  obtain ⟨f3, hf⟩ := fc_un (show (7 : Nat) < 100 from by decide) hf
  have f3 : v_iv (n_v vs 4) < v_iv (n_v vs 5) := f3
  obtain ⟨f4, hf⟩ := fc_un (show (9 : Nat) < 100 from by decide) hf
  have f4 : n_v vs 5 = w_fd ws (v_ad (n_v vs 0)) 0 := f4
  obtain ⟨f5, hf⟩ := fc_un (show (21 : Nat) < 100 from by decide) hf
  have f5 : v_iv (n_v vs 2) + v_iv (n_v vs 3) ≤ 2000 := f5
  have cr_0_4 : ta (w_ar ws (n_v vs 0) 4) = some 49 := tv_rg (th_fd hD hth r0 (g := GG_3) rfl (k := 4) (t := (2, 0, 0, [49])) rfl rfl)
  have ad_6 : v_ad (n_v vs 6) = w_ar ws (n_v vs 0) 4 := congrArg v_ad f2
  rw [ad_6] at f1
  have g4 : v_iv (n_v vs 5) = w_fi ws (n_v vs 0) 0 := congrArg v_iv f4
  have kz_0_0 : 0 ≤ w_fi ws (n_v vs 0) 0 ∧ w_fi ws (n_v vs 0) 0 ≤ 24 := tv_rng (th_fd hD hth r0 (g := GG_3) rfl (k := 0) (t := (0, 0, 24, [])) rfl rfl)
  have nf0 : fc_1 (20, [0, 4, 2], [30, 2000, 1, 2, 4, 1, 0, 0]) ws (vs) := by
    refine ⟨fun n hn => ?_, ?_⟩
    · have hn : n ∈ [0, 4, 2] := hn
      rw [hl]
      simp only [List.mem_cons, List.not_mem_nil, or_false] at hn
      show n < 8; omega
    · show 1 * w_el ws (w_ar ws (n_v vs 0) 4) (v_iv (n_v vs 4)).toNat + (1 * v_iv (n_v vs 2) + 0) ≤ 2000
      omega
  refine ⟨(fun _ h => (by cases h)), [], trivial, ?_, (fun _ h => (by cases h))⟩
  rw [List.append_nil]
  exact List.forall_mem_cons.mpr ⟨⟨show (20 : Nat) < 100 from by decide, nf0⟩, (fun _ h => (by cases h))⟩
def n_Gr_findNode_at_Retape_an : List an_T := [(3, [(0, (2, 0, 0, [3])), (1, (2, 0, 0, [109])), (2, (0, 0, 2000, [])), (3, (0, 0, 8, [])), (4, (0, 0, 24, []))], [], (0, 0), [(0, 0, 99997), (1, 4, 24), (0, 0, 100000)], [(2, 3, -1000000000000, 2000), (2, 4, -1000000000000, 2000), (3, 2, -1000000000000, 8), (3, 4, -1000000000000, 8)], [], [], 0, [], [(21, [2, 3], [2000])])]
def t_Gr_findNode_at_Retape_ct : ct_L := [(88, 96, e_Gr_hasLetters_at_Retape)]
set_option maxRecDepth 100000 in
theorem c_Gr_findNode_at_Retape {l : Launch} {D : va_G} {kA : Nat → ClassId} (h_Gr_hasLetters_at_Retape : ct_ok l D kA GG y_Gr_hasLetters_at_Retape z_Gr_hasLetters_at_Retape e_Gr_hasLetters_at_Retape) : ct_ok l D kA GG y_Gr_findNode_at_Retape z_Gr_findNode_at_Retape e_Gr_findNode_at_Retape := chk_all_ok (FT := [(9, 3, 0), (25, 3, 4)]) (PT := []) (CT := t_Gr_findNode_at_Retape_ct) (KT := []) (NT := []) (AN := n_Gr_findNode_at_Retape_an) (OT := [o_Gr_findNode_at_Retape_0]) 3 200 (List.forall_mem_cons.mpr ⟨oo_Gr_findNode_at_Retape_0, List.forall_mem_nil _⟩) (by decide +kernel) ⟨List.forall_mem_cons.mpr ⟨gf_Gr_9, List.forall_mem_cons.mpr ⟨gf_Gr_25, List.forall_mem_nil _⟩⟩, List.forall_mem_nil _, List.forall_mem_cons.mpr ⟨cl_virtual (y := y_Gr_hasLetters_at_Retape) (ci := 3) rfl rfl ⟨_, _, rfl⟩ (by decide +kernel) h_Gr_hasLetters_at_Retape wm_743 wm_3 wm_740 wm_742 wv_1_7 ⟨by decide, by decide, by decide +kernel⟩ (by decide), List.forall_mem_nil _⟩, List.forall_mem_nil _, List.forall_mem_nil _, GG_pl⟩ (by decide +kernel)
def o_Gr_findNode_at_newGrhasNextName1_0 : or_T := (28, 8, [(0, (2, 0, 0, [3])), (2, (0, 0, 0, [])), (3, (0, 2, 3, [])), (4, (0, 0, 23, [])), (5, (0, 1, 24, [])), (6, (2, 0, 0, [49])), (7, (0, 2, 3, []))], [(7, [7, 3], [0]), (10, [7, 6, 4], []), (9, [6, 0], [4]), (7, [4, 5], [2]), (9, [5, 0], [0]), (21, [2, 3], [3])], [], [], [(20, [0, 4, 2], [30, 3, 1, 2, 4, 1, 0, 0])], [], [(7, 3, 0, 0), (4, 5, -4294967296, -1), (2, 3, -4294967296, -2), (2, 4, -4294967296, 0), (3, 2, -4294967296, 3), (3, 4, -4294967296, 3)])
theorem oo_Gr_findNode_at_newGrhasNextName1_0 {kA : Nat → ClassId} : or_ok kA GG o_Gr_findNode_at_newGrhasNextName1_0 := by
  intro A ta ws vs hD hth hl hk hds hf
  have hl : vs.length = 8 := hl
  have hk : ∀ q ∈ ([(0, (2, 0, 0, [3])), (2, (0, 0, 0, [])), (3, (0, 2, 3, [])), (4, (0, 0, 23, [])), (5, (0, 1, 24, [])), (6, (2, 0, 0, [49])), (7, (0, 2, 3, []))] : List (Nat × tv_T)), tv_ok ta q.2 (n_v vs q.1) := hk
  obtain ⟨t0, hk⟩ := List.forall_mem_cons.mp hk
  have t0 : tv_ok ta (2, 0, 0, [3]) (n_v vs 0) := t0
  have r0 : ta (v_ad (n_v vs 0)) = some 3 := tv_rg t0
  obtain ⟨t2, hk⟩ := List.forall_mem_cons.mp hk
  have t2 : tv_ok ta (0, 0, 0, []) (n_v vs 2) := t2
  have k2 : 0 ≤ v_iv (n_v vs 2) ∧ v_iv (n_v vs 2) ≤ 0 := tv_rng t2
  obtain ⟨t3, hk⟩ := List.forall_mem_cons.mp hk
  have t3 : tv_ok ta (0, 2, 3, []) (n_v vs 3) := t3
  have k3 : 2 ≤ v_iv (n_v vs 3) ∧ v_iv (n_v vs 3) ≤ 3 := tv_rng t3
  obtain ⟨t4, hk⟩ := List.forall_mem_cons.mp hk
  have t4 : tv_ok ta (0, 0, 23, []) (n_v vs 4) := t4
  have k4 : 0 ≤ v_iv (n_v vs 4) ∧ v_iv (n_v vs 4) ≤ 23 := tv_rng t4
  obtain ⟨t5, hk⟩ := List.forall_mem_cons.mp hk
  have t5 : tv_ok ta (0, 1, 24, []) (n_v vs 5) := t5
  have k5 : 1 ≤ v_iv (n_v vs 5) ∧ v_iv (n_v vs 5) ≤ 24 := tv_rng t5
  obtain ⟨t6, hk⟩ := List.forall_mem_cons.mp hk
  have t6 : tv_ok ta (2, 0, 0, [49]) (n_v vs 6) := t6
  have r6 : ta (v_ad (n_v vs 6)) = some 49 := tv_rg t6
  obtain ⟨t7, hk⟩ := List.forall_mem_cons.mp hk
  have t7 : tv_ok ta (0, 2, 3, []) (n_v vs 7) := t7
  have k7 : 2 ≤ v_iv (n_v vs 7) ∧ v_iv (n_v vs 7) ≤ 3 := tv_rng t7
  have hds : ∀ q ∈ ([(7, 3, 0, 0), (4, 5, -4294967296, -1), (2, 3, -4294967296, -2), (2, 4, -4294967296, 0), (3, 2, -4294967296, 3), (3, 4, -4294967296, 3)] : List of_T), n_iv vs q.2.1 + q.2.2.1 ≤ n_iv vs q.1 ∧ n_iv vs q.1 ≤ n_iv vs q.2.1 + q.2.2.2 := hds
  obtain ⟨d0, hds⟩ := List.forall_mem_cons.mp hds
  have d0 : v_iv (n_v vs 3) + 0 ≤ v_iv (n_v vs 7) ∧ v_iv (n_v vs 7) ≤ v_iv (n_v vs 3) + 0 := d0
  obtain ⟨d1, hds⟩ := List.forall_mem_cons.mp hds
  have d1 : v_iv (n_v vs 5) + (-4294967296) ≤ v_iv (n_v vs 4) ∧ v_iv (n_v vs 4) ≤ v_iv (n_v vs 5) + (-1) := d1
  obtain ⟨d2, hds⟩ := List.forall_mem_cons.mp hds
  have d2 : v_iv (n_v vs 3) + (-4294967296) ≤ v_iv (n_v vs 2) ∧ v_iv (n_v vs 2) ≤ v_iv (n_v vs 3) + (-2) := d2
  obtain ⟨d3, hds⟩ := List.forall_mem_cons.mp hds
  have d3 : v_iv (n_v vs 4) + (-4294967296) ≤ v_iv (n_v vs 2) ∧ v_iv (n_v vs 2) ≤ v_iv (n_v vs 4) + 0 := d3
  obtain ⟨d4, hds⟩ := List.forall_mem_cons.mp hds
  have d4 : v_iv (n_v vs 2) + (-4294967296) ≤ v_iv (n_v vs 3) ∧ v_iv (n_v vs 3) ≤ v_iv (n_v vs 2) + 3 := d4
  obtain ⟨d5, hds⟩ := List.forall_mem_cons.mp hds
  have d5 : v_iv (n_v vs 4) + (-4294967296) ≤ v_iv (n_v vs 3) ∧ v_iv (n_v vs 3) ≤ v_iv (n_v vs 4) + 3 := d5
  have hf : fc_ok [(7, [7, 3], [0]), (10, [7, 6, 4], []), (9, [6, 0], [4]), (7, [4, 5], [2]), (9, [5, 0], [0]), (21, [2, 3], [3])] ta ws vs := hf
  obtain ⟨f0, hf⟩ := fc_un (show (7 : Nat) < 100 from by decide) hf
  have f0 : v_iv (n_v vs 7) = v_iv (n_v vs 3) := f0
  obtain ⟨f1, hf⟩ := fc_un (show (10 : Nat) < 100 from by decide) hf
  have f1 : v_iv (n_v vs 7) = w_el ws (v_ad (n_v vs 6)) (v_iv (n_v vs 4)).toNat := f1
  obtain ⟨f2, hf⟩ := fc_un (show (9 : Nat) < 100 from by decide) hf
  have f2 : n_v vs 6 = w_fd ws (v_ad (n_v vs 0)) 4 := f2
  obtain ⟨f3, hf⟩ := fc_un (show (7 : Nat) < 100 from by decide) hf
  have f3 : v_iv (n_v vs 4) < v_iv (n_v vs 5) := f3
  obtain ⟨f4, hf⟩ := fc_un (show (9 : Nat) < 100 from by decide) hf
  have f4 : n_v vs 5 = w_fd ws (v_ad (n_v vs 0)) 0 := f4
  obtain ⟨f5, hf⟩ := fc_un (show (21 : Nat) < 100 from by decide) hf
  have f5 : v_iv (n_v vs 2) + v_iv (n_v vs 3) ≤ 3 := f5
  have cr_0_4 : ta (w_ar ws (n_v vs 0) 4) = some 49 := tv_rg (th_fd hD hth r0 (g := GG_3) rfl (k := 4) (t := (2, 0, 0, [49])) rfl rfl)
  have ad_6 : v_ad (n_v vs 6) = w_ar ws (n_v vs 0) 4 := congrArg v_ad f2
  rw [ad_6] at f1
  have g4 : v_iv (n_v vs 5) = w_fi ws (n_v vs 0) 0 := congrArg v_iv f4
  have kz_0_0 : 0 ≤ w_fi ws (n_v vs 0) 0 ∧ w_fi ws (n_v vs 0) 0 ≤ 24 := tv_rng (th_fd hD hth r0 (g := GG_3) rfl (k := 0) (t := (0, 0, 24, [])) rfl rfl)
  have nf0 : fc_1 (20, [0, 4, 2], [30, 3, 1, 2, 4, 1, 0, 0]) ws (vs) := by
    refine ⟨fun n hn => ?_, ?_⟩
    · have hn : n ∈ [0, 4, 2] := hn
      rw [hl]
      simp only [List.mem_cons, List.not_mem_nil, or_false] at hn
      show n < 8; omega
    · show 1 * w_el ws (w_ar ws (n_v vs 0) 4) (v_iv (n_v vs 4)).toNat + (1 * v_iv (n_v vs 2) + 0) ≤ 3
      omega
  refine ⟨(fun _ h => (by cases h)), [], trivial, ?_, (fun _ h => (by cases h))⟩
  rw [List.append_nil]
  exact List.forall_mem_cons.mpr ⟨⟨show (20 : Nat) < 100 from by decide, nf0⟩, (fun _ h => (by cases h))⟩
def n_Gr_findNode_at_newGrhasNextName1_an : List an_T := [(3, [(0, (2, 0, 0, [3])), (1, (2, 0, 0, [270])), (2, (0, 0, 0, [])), (3, (0, 2, 3, [])), (4, (0, 0, 24, []))], [], (0, 0), [(0, 0, 99997), (1, 4, 24), (0, 0, 100000)], [(2, 3, -1000000000000, -2), (2, 4, -1000000000000, 0), (3, 2, -1000000000000, 3), (3, 4, -1000000000000, 3)], [], [], 0, [], [(21, [2, 3], [3])])]
def t_Gr_findNode_at_newGrhasNextName1_ct : ct_L := [(88, 96, e_Gr_hasLetters_at_newGrhasNextName1)]
set_option maxRecDepth 100000 in
theorem c_Gr_findNode_at_newGrhasNextName1 {l : Launch} {D : va_G} {kA : Nat → ClassId} (h_Gr_hasLetters_at_newGrhasNextName1 : ct_ok l D kA GG y_Gr_hasLetters_at_newGrhasNextName1 z_Gr_hasLetters_at_newGrhasNextName1 e_Gr_hasLetters_at_newGrhasNextName1) : ct_ok l D kA GG y_Gr_findNode_at_newGrhasNextName1 z_Gr_findNode_at_newGrhasNextName1 e_Gr_findNode_at_newGrhasNextName1 := chk_all_ok (FT := [(9, 3, 0), (25, 3, 4)]) (PT := []) (CT := t_Gr_findNode_at_newGrhasNextName1_ct) (KT := []) (NT := []) (AN := n_Gr_findNode_at_newGrhasNextName1_an) (OT := [o_Gr_findNode_at_newGrhasNextName1_0]) 3 200 (List.forall_mem_cons.mpr ⟨oo_Gr_findNode_at_newGrhasNextName1_0, List.forall_mem_nil _⟩) (by decide +kernel) ⟨List.forall_mem_cons.mpr ⟨gf_Gr_9, List.forall_mem_cons.mpr ⟨gf_Gr_25, List.forall_mem_nil _⟩⟩, List.forall_mem_nil _, List.forall_mem_cons.mpr ⟨cl_virtual (y := y_Gr_hasLetters_at_newGrhasNextName1) (ci := 3) rfl rfl ⟨_, _, rfl⟩ (by decide +kernel) h_Gr_hasLetters_at_newGrhasNextName1 wm_743 wm_3 wm_740 wm_742 wv_1_7 ⟨by decide, by decide, by decide +kernel⟩ (by decide), List.forall_mem_nil _⟩, List.forall_mem_nil _, List.forall_mem_nil _, GG_pl⟩ (by decide +kernel)
def n_Gr_relation_an : List an_T := []
def t_Gr_relation_ct : ct_L := [(1, 86, e_Gr_edgeBetween)]
set_option maxRecDepth 100000 in
theorem c_Gr_relation {l : Launch} {D : va_G} {kA : Nat → ClassId} (h_Gr_edgeBetween : ct_ok l D kA GG y_Gr_edgeBetween z_Gr_edgeBetween e_Gr_edgeBetween) : ct_ok l D kA GG y_Gr_relation z_Gr_relation e_Gr_relation := chk_all_ok (FT := [(35, 3, 7), (44, 3, 10)]) (PT := []) (CT := t_Gr_relation_ct) (KT := []) (NT := []) (AN := n_Gr_relation_an) (OT := []) 0 200 (List.forall_mem_nil _) (by decide +kernel) ⟨List.forall_mem_cons.mpr ⟨gf_Gr_35, List.forall_mem_cons.mpr ⟨gf_Gr_44, List.forall_mem_nil _⟩⟩, List.forall_mem_nil _, List.forall_mem_cons.mpr ⟨cl_virtual (y := y_Gr_edgeBetween) (ci := 3) rfl rfl ⟨_, _, rfl⟩ (by decide +kernel) h_Gr_edgeBetween wm_768 wm_3 wm_970 wm_766 wm_767 ⟨by decide, by decide, by decide +kernel⟩ (by decide), List.forall_mem_nil _⟩, List.forall_mem_nil _, List.forall_mem_nil _, GG_pl⟩ (by decide +kernel)
def o_Gr_removeEdge_0 : or_T := (22, 9, [(1, (0, 0, 47, [])), (2, (0, 1, 48, [])), (3, (0, -46, 48, [])), (4, (0, 1, 1, [])), (5, (0, -47, 47, [])), (7, (0, 1, 1, [])), (8, (0, 1, 48, []))], [(1, [8, 1, 7], []), (2, [5, 3, 4], []), (2, [3, 2, 1], []), (7, [1, 2], [2])], [(5, (0, 0, 47, []))], [], [(21, [8, 5], [48]), (21, [1, 5], [48])], [], [(8, 1, 1, 1), (5, 3, -1, -1), (5, 2, -48, -1), (3, 2, -47, 0)])
theorem oo_Gr_removeEdge_0 {kA : Nat → ClassId} : or_ok kA GG o_Gr_removeEdge_0 := by
  intro A ta ws vs hD hth hl hk hds hf
  have hl : vs.length = 9 := hl
  have hk : ∀ q ∈ ([(1, (0, 0, 47, [])), (2, (0, 1, 48, [])), (3, (0, -46, 48, [])), (4, (0, 1, 1, [])), (5, (0, -47, 47, [])), (7, (0, 1, 1, [])), (8, (0, 1, 48, []))] : List (Nat × tv_T)), tv_ok ta q.2 (n_v vs q.1) := hk
  obtain ⟨t1, hk⟩ := List.forall_mem_cons.mp hk
  have t1 : tv_ok ta (0, 0, 47, []) (n_v vs 1) := t1
  have k1 : 0 ≤ v_iv (n_v vs 1) ∧ v_iv (n_v vs 1) ≤ 47 := tv_rng t1
  obtain ⟨t2, hk⟩ := List.forall_mem_cons.mp hk
  have t2 : tv_ok ta (0, 1, 48, []) (n_v vs 2) := t2
  have k2 : 1 ≤ v_iv (n_v vs 2) ∧ v_iv (n_v vs 2) ≤ 48 := tv_rng t2
  obtain ⟨t3, hk⟩ := List.forall_mem_cons.mp hk
  have t3 : tv_ok ta (0, -46, 48, []) (n_v vs 3) := t3
  have k3 : (-46) ≤ v_iv (n_v vs 3) ∧ v_iv (n_v vs 3) ≤ 48 := tv_rng t3
  obtain ⟨t4, hk⟩ := List.forall_mem_cons.mp hk
  have t4 : tv_ok ta (0, 1, 1, []) (n_v vs 4) := t4
  have k4 : 1 ≤ v_iv (n_v vs 4) ∧ v_iv (n_v vs 4) ≤ 1 := tv_rng t4
  obtain ⟨t5, hk⟩ := List.forall_mem_cons.mp hk
  have t5 : tv_ok ta (0, -47, 47, []) (n_v vs 5) := t5
  have k5 : (-47) ≤ v_iv (n_v vs 5) ∧ v_iv (n_v vs 5) ≤ 47 := tv_rng t5
  obtain ⟨t7, hk⟩ := List.forall_mem_cons.mp hk
  have t7 : tv_ok ta (0, 1, 1, []) (n_v vs 7) := t7
  have k7 : 1 ≤ v_iv (n_v vs 7) ∧ v_iv (n_v vs 7) ≤ 1 := tv_rng t7
  obtain ⟨t8, hk⟩ := List.forall_mem_cons.mp hk
  have t8 : tv_ok ta (0, 1, 48, []) (n_v vs 8) := t8
  have k8 : 1 ≤ v_iv (n_v vs 8) ∧ v_iv (n_v vs 8) ≤ 48 := tv_rng t8
  have hds : ∀ q ∈ ([(8, 1, 1, 1), (5, 3, -1, -1), (5, 2, -48, -1), (3, 2, -47, 0)] : List of_T), n_iv vs q.2.1 + q.2.2.1 ≤ n_iv vs q.1 ∧ n_iv vs q.1 ≤ n_iv vs q.2.1 + q.2.2.2 := hds
  obtain ⟨d0, hds⟩ := List.forall_mem_cons.mp hds
  have d0 : v_iv (n_v vs 1) + 1 ≤ v_iv (n_v vs 8) ∧ v_iv (n_v vs 8) ≤ v_iv (n_v vs 1) + 1 := d0
  obtain ⟨d1, hds⟩ := List.forall_mem_cons.mp hds
  have d1 : v_iv (n_v vs 3) + (-1) ≤ v_iv (n_v vs 5) ∧ v_iv (n_v vs 5) ≤ v_iv (n_v vs 3) + (-1) := d1
  obtain ⟨d2, hds⟩ := List.forall_mem_cons.mp hds
  have d2 : v_iv (n_v vs 2) + (-48) ≤ v_iv (n_v vs 5) ∧ v_iv (n_v vs 5) ≤ v_iv (n_v vs 2) + (-1) := d2
  obtain ⟨d3, hds⟩ := List.forall_mem_cons.mp hds
  have d3 : v_iv (n_v vs 2) + (-47) ≤ v_iv (n_v vs 3) ∧ v_iv (n_v vs 3) ≤ v_iv (n_v vs 2) + 0 := d3
  have hf : fc_ok [(1, [8, 1, 7], []), (2, [5, 3, 4], []), (2, [3, 2, 1], []), (7, [1, 2], [2])] ta ws vs := hf
  obtain ⟨f0, hf⟩ := fc_un (show (1 : Nat) < 100 from by decide) hf
  have f0 : v_iv (n_v vs 8) = v_iv (n_v vs 1) + v_iv (n_v vs 7) := f0
  obtain ⟨f1, hf⟩ := fc_un (show (2 : Nat) < 100 from by decide) hf
  have f1 : v_iv (n_v vs 5) = v_iv (n_v vs 3) - v_iv (n_v vs 4) := f1
  obtain ⟨f2, hf⟩ := fc_un (show (2 : Nat) < 100 from by decide) hf
  have f2 : v_iv (n_v vs 3) = v_iv (n_v vs 2) - v_iv (n_v vs 1) := f2
  obtain ⟨f3, hf⟩ := fc_un (show (7 : Nat) < 100 from by decide) hf
  have f3 : v_iv (n_v vs 1) < v_iv (n_v vs 2) := f3
  have nf0 : fc_1 (21, [8, 5], [48]) ws (vs) := by
    refine ⟨fun n hn => ?_, ?_⟩
    · have hn : n ∈ [8, 5] := hn
      rw [hl]
      simp only [List.mem_cons, List.not_mem_nil, or_false] at hn
      show n < 9; omega
    · show v_iv (n_v vs 8) + v_iv (n_v vs 5) ≤ 48
      omega
  have nf1 : fc_1 (21, [1, 5], [48]) ws (vs) := by
    refine ⟨fun n hn => ?_, ?_⟩
    · have hn : n ∈ [1, 5] := hn
      rw [hl]
      simp only [List.mem_cons, List.not_mem_nil, or_false] at hn
      show n < 9; omega
    · show v_iv (n_v vs 1) + v_iv (n_v vs 5) ≤ 48
      omega
  have rf5 : tv_ok ta (0, 0, 47, []) (n_v vs 5) := tv_in t5 (by omega) (by omega)
  refine ⟨List.forall_mem_cons.mpr ⟨rf5, (fun _ h => (by cases h))⟩, [], trivial, ?_, (fun _ h => (by cases h))⟩
  rw [List.append_nil]
  exact List.forall_mem_cons.mpr ⟨⟨show (21 : Nat) < 100 from by decide, nf0⟩, List.forall_mem_cons.mpr ⟨⟨show (21 : Nat) < 100 from by decide, nf1⟩, (fun _ h => (by cases h))⟩⟩
def o_Gr_removeEdge_1 : or_T := (38, 12, [(1, (0, 0, 47, [])), (2, (0, 1, 48, [])), (3, (0, -46, 48, [])), (4, (0, 1, 1, [])), (5, (0, 0, 47, [])), (7, (0, 1, 1, [])), (8, (0, 1, 48, [])), (10, (0, 1, 1, [])), (11, (0, 1, 48, []))], [(1, [11, 1, 10], []), (21, [8, 5], [48]), (21, [1, 5], [48]), (102, [8], [4503599627370496]), (21, [8, 5], [48]), (21, [1, 5], [48]), (1, [8, 1, 7], []), (2, [5, 3, 4], []), (2, [3, 2, 1], []), (7, [1, 2], [2])], [], [], [(21, [11, 5], [48])], [], [(11, 1, 1, 1), (8, 1, 1, 1), (5, 3, -1, -1), (5, 2, -48, -1), (3, 2, -47, 0)])
theorem oo_Gr_removeEdge_1 {kA : Nat → ClassId} : or_ok kA GG o_Gr_removeEdge_1 := by
  intro A ta ws vs hD hth hl hk hds hf
  have hl : vs.length = 12 := hl
  have hk : ∀ q ∈ ([(1, (0, 0, 47, [])), (2, (0, 1, 48, [])), (3, (0, -46, 48, [])), (4, (0, 1, 1, [])), (5, (0, 0, 47, [])), (7, (0, 1, 1, [])), (8, (0, 1, 48, [])), (10, (0, 1, 1, [])), (11, (0, 1, 48, []))] : List (Nat × tv_T)), tv_ok ta q.2 (n_v vs q.1) := hk
  obtain ⟨t1, hk⟩ := List.forall_mem_cons.mp hk
  have t1 : tv_ok ta (0, 0, 47, []) (n_v vs 1) := t1
  have k1 : 0 ≤ v_iv (n_v vs 1) ∧ v_iv (n_v vs 1) ≤ 47 := tv_rng t1
  obtain ⟨t2, hk⟩ := List.forall_mem_cons.mp hk
  have t2 : tv_ok ta (0, 1, 48, []) (n_v vs 2) := t2
  have k2 : 1 ≤ v_iv (n_v vs 2) ∧ v_iv (n_v vs 2) ≤ 48 := tv_rng t2
  obtain ⟨t3, hk⟩ := List.forall_mem_cons.mp hk
  have t3 : tv_ok ta (0, -46, 48, []) (n_v vs 3) := t3
  have k3 : (-46) ≤ v_iv (n_v vs 3) ∧ v_iv (n_v vs 3) ≤ 48 := tv_rng t3
  obtain ⟨t4, hk⟩ := List.forall_mem_cons.mp hk
  have t4 : tv_ok ta (0, 1, 1, []) (n_v vs 4) := t4
  have k4 : 1 ≤ v_iv (n_v vs 4) ∧ v_iv (n_v vs 4) ≤ 1 := tv_rng t4
  obtain ⟨t5, hk⟩ := List.forall_mem_cons.mp hk
  have t5 : tv_ok ta (0, 0, 47, []) (n_v vs 5) := t5
  have k5 : 0 ≤ v_iv (n_v vs 5) ∧ v_iv (n_v vs 5) ≤ 47 := tv_rng t5
  obtain ⟨t7, hk⟩ := List.forall_mem_cons.mp hk
  have t7 : tv_ok ta (0, 1, 1, []) (n_v vs 7) := t7
  have k7 : 1 ≤ v_iv (n_v vs 7) ∧ v_iv (n_v vs 7) ≤ 1 := tv_rng t7
  obtain ⟨t8, hk⟩ := List.forall_mem_cons.mp hk
  have t8 : tv_ok ta (0, 1, 48, []) (n_v vs 8) := t8
  have k8 : 1 ≤ v_iv (n_v vs 8) ∧ v_iv (n_v vs 8) ≤ 48 := tv_rng t8
  obtain ⟨t10, hk⟩ := List.forall_mem_cons.mp hk
  have t10 : tv_ok ta (0, 1, 1, []) (n_v vs 10) := t10
  have k10 : 1 ≤ v_iv (n_v vs 10) ∧ v_iv (n_v vs 10) ≤ 1 := tv_rng t10
  obtain ⟨t11, hk⟩ := List.forall_mem_cons.mp hk
  have t11 : tv_ok ta (0, 1, 48, []) (n_v vs 11) := t11
  have k11 : 1 ≤ v_iv (n_v vs 11) ∧ v_iv (n_v vs 11) ≤ 48 := tv_rng t11
  have hds : ∀ q ∈ ([(11, 1, 1, 1), (8, 1, 1, 1), (5, 3, -1, -1), (5, 2, -48, -1), (3, 2, -47, 0)] : List of_T), n_iv vs q.2.1 + q.2.2.1 ≤ n_iv vs q.1 ∧ n_iv vs q.1 ≤ n_iv vs q.2.1 + q.2.2.2 := hds
  obtain ⟨d0, hds⟩ := List.forall_mem_cons.mp hds
  have d0 : v_iv (n_v vs 1) + 1 ≤ v_iv (n_v vs 11) ∧ v_iv (n_v vs 11) ≤ v_iv (n_v vs 1) + 1 := d0
  obtain ⟨d1, hds⟩ := List.forall_mem_cons.mp hds
  have d1 : v_iv (n_v vs 1) + 1 ≤ v_iv (n_v vs 8) ∧ v_iv (n_v vs 8) ≤ v_iv (n_v vs 1) + 1 := d1
  obtain ⟨d2, hds⟩ := List.forall_mem_cons.mp hds
  have d2 : v_iv (n_v vs 3) + (-1) ≤ v_iv (n_v vs 5) ∧ v_iv (n_v vs 5) ≤ v_iv (n_v vs 3) + (-1) := d2
  obtain ⟨d3, hds⟩ := List.forall_mem_cons.mp hds
  have d3 : v_iv (n_v vs 2) + (-48) ≤ v_iv (n_v vs 5) ∧ v_iv (n_v vs 5) ≤ v_iv (n_v vs 2) + (-1) := d3
  obtain ⟨d4, hds⟩ := List.forall_mem_cons.mp hds
  have d4 : v_iv (n_v vs 2) + (-47) ≤ v_iv (n_v vs 3) ∧ v_iv (n_v vs 3) ≤ v_iv (n_v vs 2) + 0 := d4
  have hf : fc_ok [(1, [11, 1, 10], []), (21, [8, 5], [48]), (21, [1, 5], [48]), (102, [8], [4503599627370496]), (21, [8, 5], [48]), (21, [1, 5], [48]), (1, [8, 1, 7], []), (2, [5, 3, 4], []), (2, [3, 2, 1], []), (7, [1, 2], [2])] ta ws vs := hf
  obtain ⟨f0, hf⟩ := fc_un (show (1 : Nat) < 100 from by decide) hf
  have f0 : v_iv (n_v vs 11) = v_iv (n_v vs 1) + v_iv (n_v vs 10) := f0
  obtain ⟨f1, hf⟩ := fc_un (show (21 : Nat) < 100 from by decide) hf
  have f1 : v_iv (n_v vs 8) + v_iv (n_v vs 5) ≤ 48 := f1
  obtain ⟨f2, hf⟩ := fc_un (show (21 : Nat) < 100 from by decide) hf
  have f2 : v_iv (n_v vs 1) + v_iv (n_v vs 5) ≤ 48 := f2
  obtain ⟨ta1, w1, le1, ⟨_, s1⟩, hf⟩ := fc_us (show ¬ (102 : Nat) < 100 from by decide) hf
  obtain ⟨f4, hf⟩ := fc_un (show (21 : Nat) < 100 from by decide) hf
  have f4 : v_iv (n_v vs 8) + v_iv (n_v vs 5) ≤ 48 := f4
  obtain ⟨f5, hf⟩ := fc_un (show (21 : Nat) < 100 from by decide) hf
  have f5 : v_iv (n_v vs 1) + v_iv (n_v vs 5) ≤ 48 := f5
  obtain ⟨f6, hf⟩ := fc_un (show (1 : Nat) < 100 from by decide) hf
  have f6 : v_iv (n_v vs 8) = v_iv (n_v vs 1) + v_iv (n_v vs 7) := f6
  obtain ⟨f7, hf⟩ := fc_un (show (2 : Nat) < 100 from by decide) hf
  have f7 : v_iv (n_v vs 5) = v_iv (n_v vs 3) - v_iv (n_v vs 4) := f7
  obtain ⟨f8, hf⟩ := fc_un (show (2 : Nat) < 100 from by decide) hf
  have f8 : v_iv (n_v vs 3) = v_iv (n_v vs 2) - v_iv (n_v vs 1) := f8
  obtain ⟨f9, hf⟩ := fc_un (show (7 : Nat) < 100 from by decide) hf
  have f9 : v_iv (n_v vs 1) < v_iv (n_v vs 2) := f9
  have nf0 : fc_1 (21, [11, 5], [48]) ws (vs) := by
    refine ⟨fun n hn => ?_, ?_⟩
    · have hn : n ∈ [11, 5] := hn
      rw [hl]
      simp only [List.mem_cons, List.not_mem_nil, or_false] at hn
      show n < 12; omega
    · show v_iv (n_v vs 11) + v_iv (n_v vs 5) ≤ 48
      omega
  refine ⟨(fun _ h => (by cases h)), [], trivial, ?_, (fun _ h => (by cases h))⟩
  rw [List.append_nil]
  exact List.forall_mem_cons.mpr ⟨⟨show (21 : Nat) < 100 from by decide, nf0⟩, (fun _ h => (by cases h))⟩
def o_Gr_removeEdge_2 : or_T := (54, 15, [(1, (0, 0, 47, [])), (2, (0, 1, 48, [])), (3, (0, -46, 48, [])), (4, (0, 1, 1, [])), (5, (0, 0, 47, [])), (7, (0, 1, 1, [])), (8, (0, 1, 48, [])), (10, (0, 1, 1, [])), (11, (0, 1, 48, [])), (13, (0, 1, 1, [])), (14, (0, 1, 48, []))], [(1, [14, 1, 13], []), (21, [11, 5], [48]), (21, [8, 5], [48]), (21, [1, 5], [48]), (102, [11], [9007199254740992]), (21, [11, 5], [48]), (1, [11, 1, 10], []), (21, [8, 5], [48]), (21, [1, 5], [48]), (102, [8], [4503599627370496]), (21, [8, 5], [48]), (21, [1, 5], [48]), (1, [8, 1, 7], []), (2, [5, 3, 4], []), (2, [3, 2, 1], []), (7, [1, 2], [2])], [], [], [(21, [14, 5], [48])], [], [(14, 1, 1, 1), (11, 1, 1, 1), (8, 1, 1, 1), (5, 3, -1, -1), (5, 2, -48, -1), (3, 2, -47, 0)])
theorem oo_Gr_removeEdge_2 {kA : Nat → ClassId} : or_ok kA GG o_Gr_removeEdge_2 := by
  intro A ta ws vs hD hth hl hk hds hf
  have hl : vs.length = 15 := hl
  have hk : ∀ q ∈ ([(1, (0, 0, 47, [])), (2, (0, 1, 48, [])), (3, (0, -46, 48, [])), (4, (0, 1, 1, [])), (5, (0, 0, 47, [])), (7, (0, 1, 1, [])), (8, (0, 1, 48, [])), (10, (0, 1, 1, [])), (11, (0, 1, 48, [])), (13, (0, 1, 1, [])), (14, (0, 1, 48, []))] : List (Nat × tv_T)), tv_ok ta q.2 (n_v vs q.1) := hk
  obtain ⟨t1, hk⟩ := List.forall_mem_cons.mp hk
  have t1 : tv_ok ta (0, 0, 47, []) (n_v vs 1) := t1
  have k1 : 0 ≤ v_iv (n_v vs 1) ∧ v_iv (n_v vs 1) ≤ 47 := tv_rng t1
  obtain ⟨t2, hk⟩ := List.forall_mem_cons.mp hk
  have t2 : tv_ok ta (0, 1, 48, []) (n_v vs 2) := t2
  have k2 : 1 ≤ v_iv (n_v vs 2) ∧ v_iv (n_v vs 2) ≤ 48 := tv_rng t2
  obtain ⟨t3, hk⟩ := List.forall_mem_cons.mp hk
  have t3 : tv_ok ta (0, -46, 48, []) (n_v vs 3) := t3
  have k3 : (-46) ≤ v_iv (n_v vs 3) ∧ v_iv (n_v vs 3) ≤ 48 := tv_rng t3
  obtain ⟨t4, hk⟩ := List.forall_mem_cons.mp hk
  have t4 : tv_ok ta (0, 1, 1, []) (n_v vs 4) := t4
  have k4 : 1 ≤ v_iv (n_v vs 4) ∧ v_iv (n_v vs 4) ≤ 1 := tv_rng t4
  obtain ⟨t5, hk⟩ := List.forall_mem_cons.mp hk
  have t5 : tv_ok ta (0, 0, 47, []) (n_v vs 5) := t5
  have k5 : 0 ≤ v_iv (n_v vs 5) ∧ v_iv (n_v vs 5) ≤ 47 := tv_rng t5
  obtain ⟨t7, hk⟩ := List.forall_mem_cons.mp hk
  have t7 : tv_ok ta (0, 1, 1, []) (n_v vs 7) := t7
  have k7 : 1 ≤ v_iv (n_v vs 7) ∧ v_iv (n_v vs 7) ≤ 1 := tv_rng t7
  obtain ⟨t8, hk⟩ := List.forall_mem_cons.mp hk
  have t8 : tv_ok ta (0, 1, 48, []) (n_v vs 8) := t8
  have k8 : 1 ≤ v_iv (n_v vs 8) ∧ v_iv (n_v vs 8) ≤ 48 := tv_rng t8
  obtain ⟨t10, hk⟩ := List.forall_mem_cons.mp hk
  have t10 : tv_ok ta (0, 1, 1, []) (n_v vs 10) := t10
  have k10 : 1 ≤ v_iv (n_v vs 10) ∧ v_iv (n_v vs 10) ≤ 1 := tv_rng t10
  obtain ⟨t11, hk⟩ := List.forall_mem_cons.mp hk
  have t11 : tv_ok ta (0, 1, 48, []) (n_v vs 11) := t11
  have k11 : 1 ≤ v_iv (n_v vs 11) ∧ v_iv (n_v vs 11) ≤ 48 := tv_rng t11
  obtain ⟨t13, hk⟩ := List.forall_mem_cons.mp hk
  have t13 : tv_ok ta (0, 1, 1, []) (n_v vs 13) := t13
  have k13 : 1 ≤ v_iv (n_v vs 13) ∧ v_iv (n_v vs 13) ≤ 1 := tv_rng t13
  obtain ⟨t14, hk⟩ := List.forall_mem_cons.mp hk
  have t14 : tv_ok ta (0, 1, 48, []) (n_v vs 14) := t14
  have k14 : 1 ≤ v_iv (n_v vs 14) ∧ v_iv (n_v vs 14) ≤ 48 := tv_rng t14
  have hds : ∀ q ∈ ([(14, 1, 1, 1), (11, 1, 1, 1), (8, 1, 1, 1), (5, 3, -1, -1), (5, 2, -48, -1), (3, 2, -47, 0)] : List of_T), n_iv vs q.2.1 + q.2.2.1 ≤ n_iv vs q.1 ∧ n_iv vs q.1 ≤ n_iv vs q.2.1 + q.2.2.2 := hds
  obtain ⟨d0, hds⟩ := List.forall_mem_cons.mp hds
  have d0 : v_iv (n_v vs 1) + 1 ≤ v_iv (n_v vs 14) ∧ v_iv (n_v vs 14) ≤ v_iv (n_v vs 1) + 1 := d0
  obtain ⟨d1, hds⟩ := List.forall_mem_cons.mp hds
  have d1 : v_iv (n_v vs 1) + 1 ≤ v_iv (n_v vs 11) ∧ v_iv (n_v vs 11) ≤ v_iv (n_v vs 1) + 1 := d1
  obtain ⟨d2, hds⟩ := List.forall_mem_cons.mp hds
  have d2 : v_iv (n_v vs 1) + 1 ≤ v_iv (n_v vs 8) ∧ v_iv (n_v vs 8) ≤ v_iv (n_v vs 1) + 1 := d2
  obtain ⟨d3, hds⟩ := List.forall_mem_cons.mp hds
  have d3 : v_iv (n_v vs 3) + (-1) ≤ v_iv (n_v vs 5) ∧ v_iv (n_v vs 5) ≤ v_iv (n_v vs 3) + (-1) := d3
  obtain ⟨d4, hds⟩ := List.forall_mem_cons.mp hds
  have d4 : v_iv (n_v vs 2) + (-48) ≤ v_iv (n_v vs 5) ∧ v_iv (n_v vs 5) ≤ v_iv (n_v vs 2) + (-1) := d4
  obtain ⟨d5, hds⟩ := List.forall_mem_cons.mp hds
  have d5 : v_iv (n_v vs 2) + (-47) ≤ v_iv (n_v vs 3) ∧ v_iv (n_v vs 3) ≤ v_iv (n_v vs 2) + 0 := d5
  have hf : fc_ok [(1, [14, 1, 13], []), (21, [11, 5], [48]), (21, [8, 5], [48]), (21, [1, 5], [48]), (102, [11], [9007199254740992]), (21, [11, 5], [48]), (1, [11, 1, 10], []), (21, [8, 5], [48]), (21, [1, 5], [48]), (102, [8], [4503599627370496]), (21, [8, 5], [48]), (21, [1, 5], [48]), (1, [8, 1, 7], []), (2, [5, 3, 4], []), (2, [3, 2, 1], []), (7, [1, 2], [2])] ta ws vs := hf
  obtain ⟨f0, hf⟩ := fc_un (show (1 : Nat) < 100 from by decide) hf
  have f0 : v_iv (n_v vs 14) = v_iv (n_v vs 1) + v_iv (n_v vs 13) := f0
  obtain ⟨f1, hf⟩ := fc_un (show (21 : Nat) < 100 from by decide) hf
  have f1 : v_iv (n_v vs 11) + v_iv (n_v vs 5) ≤ 48 := f1
  obtain ⟨f2, hf⟩ := fc_un (show (21 : Nat) < 100 from by decide) hf
  have f2 : v_iv (n_v vs 8) + v_iv (n_v vs 5) ≤ 48 := f2
  obtain ⟨f3, hf⟩ := fc_un (show (21 : Nat) < 100 from by decide) hf
  have f3 : v_iv (n_v vs 1) + v_iv (n_v vs 5) ≤ 48 := f3
  obtain ⟨ta1, w1, le1, ⟨_, s1⟩, hf⟩ := fc_us (show ¬ (102 : Nat) < 100 from by decide) hf
  obtain ⟨f5, hf⟩ := fc_un (show (21 : Nat) < 100 from by decide) hf
  have f5 : v_iv (n_v vs 11) + v_iv (n_v vs 5) ≤ 48 := f5
  obtain ⟨f6, hf⟩ := fc_un (show (1 : Nat) < 100 from by decide) hf
  have f6 : v_iv (n_v vs 11) = v_iv (n_v vs 1) + v_iv (n_v vs 10) := f6
  obtain ⟨f7, hf⟩ := fc_un (show (21 : Nat) < 100 from by decide) hf
  have f7 : v_iv (n_v vs 8) + v_iv (n_v vs 5) ≤ 48 := f7
  obtain ⟨f8, hf⟩ := fc_un (show (21 : Nat) < 100 from by decide) hf
  have f8 : v_iv (n_v vs 1) + v_iv (n_v vs 5) ≤ 48 := f8
  obtain ⟨ta2, w2, le2, ⟨_, s2⟩, hf⟩ := fc_us (show ¬ (102 : Nat) < 100 from by decide) hf
  obtain ⟨f10, hf⟩ := fc_un (show (21 : Nat) < 100 from by decide) hf
  have f10 : v_iv (n_v vs 8) + v_iv (n_v vs 5) ≤ 48 := f10
  obtain ⟨f11, hf⟩ := fc_un (show (21 : Nat) < 100 from by decide) hf
  have f11 : v_iv (n_v vs 1) + v_iv (n_v vs 5) ≤ 48 := f11
  obtain ⟨f12, hf⟩ := fc_un (show (1 : Nat) < 100 from by decide) hf
  have f12 : v_iv (n_v vs 8) = v_iv (n_v vs 1) + v_iv (n_v vs 7) := f12
  obtain ⟨f13, hf⟩ := fc_un (show (2 : Nat) < 100 from by decide) hf
  have f13 : v_iv (n_v vs 5) = v_iv (n_v vs 3) - v_iv (n_v vs 4) := f13
  obtain ⟨f14, hf⟩ := fc_un (show (2 : Nat) < 100 from by decide) hf
  have f14 : v_iv (n_v vs 3) = v_iv (n_v vs 2) - v_iv (n_v vs 1) := f14
  obtain ⟨f15, hf⟩ := fc_un (show (7 : Nat) < 100 from by decide) hf
  have f15 : v_iv (n_v vs 1) < v_iv (n_v vs 2) := f15
  have nf0 : fc_1 (21, [14, 5], [48]) ws (vs) := by
    refine ⟨fun n hn => ?_, ?_⟩
    · have hn : n ∈ [14, 5] := hn
      rw [hl]
      simp only [List.mem_cons, List.not_mem_nil, or_false] at hn
      show n < 15; omega
    · show v_iv (n_v vs 14) + v_iv (n_v vs 5) ≤ 48
      omega
  refine ⟨(fun _ h => (by cases h)), [], trivial, ?_, (fun _ h => (by cases h))⟩
  rw [List.append_nil]
  exact List.forall_mem_cons.mpr ⟨⟨show (21 : Nat) < 100 from by decide, nf0⟩, (fun _ h => (by cases h))⟩
def o_Gr_removeEdge_3 : or_T := (70, 18, [(1, (0, 0, 47, [])), (2, (0, 1, 48, [])), (3, (0, -46, 48, [])), (4, (0, 1, 1, [])), (5, (0, 0, 47, [])), (7, (0, 1, 1, [])), (8, (0, 1, 48, [])), (10, (0, 1, 1, [])), (11, (0, 1, 48, [])), (13, (0, 1, 1, [])), (14, (0, 1, 48, [])), (16, (0, 1, 1, [])), (17, (0, 1, 48, []))], [(1, [17, 1, 16], []), (21, [14, 5], [48]), (21, [11, 5], [48]), (21, [8, 5], [48]), (21, [1, 5], [48]), (102, [14], [18014398509481984]), (21, [14, 5], [48]), (1, [14, 1, 13], []), (21, [11, 5], [48]), (21, [8, 5], [48]), (21, [1, 5], [48]), (102, [11], [9007199254740992]), (21, [11, 5], [48]), (1, [11, 1, 10], []), (21, [8, 5], [48]), (21, [1, 5], [48]), (102, [8], [4503599627370496]), (21, [8, 5], [48]), (21, [1, 5], [48]), (1, [8, 1, 7], []), (2, [5, 3, 4], []), (2, [3, 2, 1], []), (7, [1, 2], [2])], [], [], [(21, [17, 5], [48])], [], [(17, 1, 1, 1), (14, 1, 1, 1), (11, 1, 1, 1), (8, 1, 1, 1), (5, 3, -1, -1), (5, 2, -48, -1), (3, 2, -47, 0)])
theorem oo_Gr_removeEdge_3 {kA : Nat → ClassId} : or_ok kA GG o_Gr_removeEdge_3 := by
  intro A ta ws vs hD hth hl hk hds hf
  have hl : vs.length = 18 := hl
  have hk : ∀ q ∈ ([(1, (0, 0, 47, [])), (2, (0, 1, 48, [])), (3, (0, -46, 48, [])), (4, (0, 1, 1, [])), (5, (0, 0, 47, [])), (7, (0, 1, 1, [])), (8, (0, 1, 48, [])), (10, (0, 1, 1, [])), (11, (0, 1, 48, [])), (13, (0, 1, 1, [])), (14, (0, 1, 48, [])), (16, (0, 1, 1, [])), (17, (0, 1, 48, []))] : List (Nat × tv_T)), tv_ok ta q.2 (n_v vs q.1) := hk
  obtain ⟨t1, hk⟩ := List.forall_mem_cons.mp hk
  have t1 : tv_ok ta (0, 0, 47, []) (n_v vs 1) := t1
  have k1 : 0 ≤ v_iv (n_v vs 1) ∧ v_iv (n_v vs 1) ≤ 47 := tv_rng t1
  obtain ⟨t2, hk⟩ := List.forall_mem_cons.mp hk
  have t2 : tv_ok ta (0, 1, 48, []) (n_v vs 2) := t2
  have k2 : 1 ≤ v_iv (n_v vs 2) ∧ v_iv (n_v vs 2) ≤ 48 := tv_rng t2
  obtain ⟨t3, hk⟩ := List.forall_mem_cons.mp hk
  have t3 : tv_ok ta (0, -46, 48, []) (n_v vs 3) := t3
  have k3 : (-46) ≤ v_iv (n_v vs 3) ∧ v_iv (n_v vs 3) ≤ 48 := tv_rng t3
  obtain ⟨t4, hk⟩ := List.forall_mem_cons.mp hk
  have t4 : tv_ok ta (0, 1, 1, []) (n_v vs 4) := t4
  have k4 : 1 ≤ v_iv (n_v vs 4) ∧ v_iv (n_v vs 4) ≤ 1 := tv_rng t4
  obtain ⟨t5, hk⟩ := List.forall_mem_cons.mp hk
  have t5 : tv_ok ta (0, 0, 47, []) (n_v vs 5) := t5
  have k5 : 0 ≤ v_iv (n_v vs 5) ∧ v_iv (n_v vs 5) ≤ 47 := tv_rng t5
  obtain ⟨t7, hk⟩ := List.forall_mem_cons.mp hk
  have t7 : tv_ok ta (0, 1, 1, []) (n_v vs 7) := t7
  have k7 : 1 ≤ v_iv (n_v vs 7) ∧ v_iv (n_v vs 7) ≤ 1 := tv_rng t7
  obtain ⟨t8, hk⟩ := List.forall_mem_cons.mp hk
  have t8 : tv_ok ta (0, 1, 48, []) (n_v vs 8) := t8
  have k8 : 1 ≤ v_iv (n_v vs 8) ∧ v_iv (n_v vs 8) ≤ 48 := tv_rng t8
  obtain ⟨t10, hk⟩ := List.forall_mem_cons.mp hk
  have t10 : tv_ok ta (0, 1, 1, []) (n_v vs 10) := t10
  have k10 : 1 ≤ v_iv (n_v vs 10) ∧ v_iv (n_v vs 10) ≤ 1 := tv_rng t10
  obtain ⟨t11, hk⟩ := List.forall_mem_cons.mp hk
  have t11 : tv_ok ta (0, 1, 48, []) (n_v vs 11) := t11
  have k11 : 1 ≤ v_iv (n_v vs 11) ∧ v_iv (n_v vs 11) ≤ 48 := tv_rng t11
  obtain ⟨t13, hk⟩ := List.forall_mem_cons.mp hk
  have t13 : tv_ok ta (0, 1, 1, []) (n_v vs 13) := t13
  have k13 : 1 ≤ v_iv (n_v vs 13) ∧ v_iv (n_v vs 13) ≤ 1 := tv_rng t13
  obtain ⟨t14, hk⟩ := List.forall_mem_cons.mp hk
  have t14 : tv_ok ta (0, 1, 48, []) (n_v vs 14) := t14
  have k14 : 1 ≤ v_iv (n_v vs 14) ∧ v_iv (n_v vs 14) ≤ 48 := tv_rng t14
  obtain ⟨t16, hk⟩ := List.forall_mem_cons.mp hk
  have t16 : tv_ok ta (0, 1, 1, []) (n_v vs 16) := t16
  have k16 : 1 ≤ v_iv (n_v vs 16) ∧ v_iv (n_v vs 16) ≤ 1 := tv_rng t16
  obtain ⟨t17, hk⟩ := List.forall_mem_cons.mp hk
  have t17 : tv_ok ta (0, 1, 48, []) (n_v vs 17) := t17
  have k17 : 1 ≤ v_iv (n_v vs 17) ∧ v_iv (n_v vs 17) ≤ 48 := tv_rng t17
  have hds : ∀ q ∈ ([(17, 1, 1, 1), (14, 1, 1, 1), (11, 1, 1, 1), (8, 1, 1, 1), (5, 3, -1, -1), (5, 2, -48, -1), (3, 2, -47, 0)] : List of_T), n_iv vs q.2.1 + q.2.2.1 ≤ n_iv vs q.1 ∧ n_iv vs q.1 ≤ n_iv vs q.2.1 + q.2.2.2 := hds
  obtain ⟨d0, hds⟩ := List.forall_mem_cons.mp hds
  have d0 : v_iv (n_v vs 1) + 1 ≤ v_iv (n_v vs 17) ∧ v_iv (n_v vs 17) ≤ v_iv (n_v vs 1) + 1 := d0
  obtain ⟨d1, hds⟩ := List.forall_mem_cons.mp hds
  have d1 : v_iv (n_v vs 1) + 1 ≤ v_iv (n_v vs 14) ∧ v_iv (n_v vs 14) ≤ v_iv (n_v vs 1) + 1 := d1
  obtain ⟨d2, hds⟩ := List.forall_mem_cons.mp hds
  have d2 : v_iv (n_v vs 1) + 1 ≤ v_iv (n_v vs 11) ∧ v_iv (n_v vs 11) ≤ v_iv (n_v vs 1) + 1 := d2
  obtain ⟨d3, hds⟩ := List.forall_mem_cons.mp hds
  have d3 : v_iv (n_v vs 1) + 1 ≤ v_iv (n_v vs 8) ∧ v_iv (n_v vs 8) ≤ v_iv (n_v vs 1) + 1 := d3
  obtain ⟨d4, hds⟩ := List.forall_mem_cons.mp hds
  have d4 : v_iv (n_v vs 3) + (-1) ≤ v_iv (n_v vs 5) ∧ v_iv (n_v vs 5) ≤ v_iv (n_v vs 3) + (-1) := d4
  obtain ⟨d5, hds⟩ := List.forall_mem_cons.mp hds
  have d5 : v_iv (n_v vs 2) + (-48) ≤ v_iv (n_v vs 5) ∧ v_iv (n_v vs 5) ≤ v_iv (n_v vs 2) + (-1) := d5
  obtain ⟨d6, hds⟩ := List.forall_mem_cons.mp hds
  have d6 : v_iv (n_v vs 2) + (-47) ≤ v_iv (n_v vs 3) ∧ v_iv (n_v vs 3) ≤ v_iv (n_v vs 2) + 0 := d6
  have hf : fc_ok [(1, [17, 1, 16], []), (21, [14, 5], [48]), (21, [11, 5], [48]), (21, [8, 5], [48]), (21, [1, 5], [48]), (102, [14], [18014398509481984]), (21, [14, 5], [48]), (1, [14, 1, 13], []), (21, [11, 5], [48]), (21, [8, 5], [48]), (21, [1, 5], [48]), (102, [11], [9007199254740992]), (21, [11, 5], [48]), (1, [11, 1, 10], []), (21, [8, 5], [48]), (21, [1, 5], [48]), (102, [8], [4503599627370496]), (21, [8, 5], [48]), (21, [1, 5], [48]), (1, [8, 1, 7], []), (2, [5, 3, 4], []), (2, [3, 2, 1], []), (7, [1, 2], [2])] ta ws vs := hf
  obtain ⟨f0, hf⟩ := fc_un (show (1 : Nat) < 100 from by decide) hf
  have f0 : v_iv (n_v vs 17) = v_iv (n_v vs 1) + v_iv (n_v vs 16) := f0
  obtain ⟨f1, hf⟩ := fc_un (show (21 : Nat) < 100 from by decide) hf
  have f1 : v_iv (n_v vs 14) + v_iv (n_v vs 5) ≤ 48 := f1
  obtain ⟨f2, hf⟩ := fc_un (show (21 : Nat) < 100 from by decide) hf
  have f2 : v_iv (n_v vs 11) + v_iv (n_v vs 5) ≤ 48 := f2
  obtain ⟨f3, hf⟩ := fc_un (show (21 : Nat) < 100 from by decide) hf
  have f3 : v_iv (n_v vs 8) + v_iv (n_v vs 5) ≤ 48 := f3
  obtain ⟨f4, hf⟩ := fc_un (show (21 : Nat) < 100 from by decide) hf
  have f4 : v_iv (n_v vs 1) + v_iv (n_v vs 5) ≤ 48 := f4
  obtain ⟨ta1, w1, le1, ⟨_, s1⟩, hf⟩ := fc_us (show ¬ (102 : Nat) < 100 from by decide) hf
  obtain ⟨f6, hf⟩ := fc_un (show (21 : Nat) < 100 from by decide) hf
  have f6 : v_iv (n_v vs 14) + v_iv (n_v vs 5) ≤ 48 := f6
  obtain ⟨f7, hf⟩ := fc_un (show (1 : Nat) < 100 from by decide) hf
  have f7 : v_iv (n_v vs 14) = v_iv (n_v vs 1) + v_iv (n_v vs 13) := f7
  obtain ⟨f8, hf⟩ := fc_un (show (21 : Nat) < 100 from by decide) hf
  have f8 : v_iv (n_v vs 11) + v_iv (n_v vs 5) ≤ 48 := f8
  obtain ⟨f9, hf⟩ := fc_un (show (21 : Nat) < 100 from by decide) hf
  have f9 : v_iv (n_v vs 8) + v_iv (n_v vs 5) ≤ 48 := f9
  obtain ⟨f10, hf⟩ := fc_un (show (21 : Nat) < 100 from by decide) hf
  have f10 : v_iv (n_v vs 1) + v_iv (n_v vs 5) ≤ 48 := f10
  obtain ⟨ta2, w2, le2, ⟨_, s2⟩, hf⟩ := fc_us (show ¬ (102 : Nat) < 100 from by decide) hf
  obtain ⟨f12, hf⟩ := fc_un (show (21 : Nat) < 100 from by decide) hf
  have f12 : v_iv (n_v vs 11) + v_iv (n_v vs 5) ≤ 48 := f12
  obtain ⟨f13, hf⟩ := fc_un (show (1 : Nat) < 100 from by decide) hf
  have f13 : v_iv (n_v vs 11) = v_iv (n_v vs 1) + v_iv (n_v vs 10) := f13
  obtain ⟨f14, hf⟩ := fc_un (show (21 : Nat) < 100 from by decide) hf
  have f14 : v_iv (n_v vs 8) + v_iv (n_v vs 5) ≤ 48 := f14
  obtain ⟨f15, hf⟩ := fc_un (show (21 : Nat) < 100 from by decide) hf
  have f15 : v_iv (n_v vs 1) + v_iv (n_v vs 5) ≤ 48 := f15
  obtain ⟨ta3, w3, le3, ⟨_, s3⟩, hf⟩ := fc_us (show ¬ (102 : Nat) < 100 from by decide) hf
  obtain ⟨f17, hf⟩ := fc_un (show (21 : Nat) < 100 from by decide) hf
  have f17 : v_iv (n_v vs 8) + v_iv (n_v vs 5) ≤ 48 := f17
  obtain ⟨f18, hf⟩ := fc_un (show (21 : Nat) < 100 from by decide) hf
  have f18 : v_iv (n_v vs 1) + v_iv (n_v vs 5) ≤ 48 := f18
  obtain ⟨f19, hf⟩ := fc_un (show (1 : Nat) < 100 from by decide) hf
  have f19 : v_iv (n_v vs 8) = v_iv (n_v vs 1) + v_iv (n_v vs 7) := f19
  obtain ⟨f20, hf⟩ := fc_un (show (2 : Nat) < 100 from by decide) hf
  have f20 : v_iv (n_v vs 5) = v_iv (n_v vs 3) - v_iv (n_v vs 4) := f20
  obtain ⟨f21, hf⟩ := fc_un (show (2 : Nat) < 100 from by decide) hf
  have f21 : v_iv (n_v vs 3) = v_iv (n_v vs 2) - v_iv (n_v vs 1) := f21
  obtain ⟨f22, hf⟩ := fc_un (show (7 : Nat) < 100 from by decide) hf
  have f22 : v_iv (n_v vs 1) < v_iv (n_v vs 2) := f22
  have nf0 : fc_1 (21, [17, 5], [48]) ws (vs) := by
    refine ⟨fun n hn => ?_, ?_⟩
    · have hn : n ∈ [17, 5] := hn
      rw [hl]
      simp only [List.mem_cons, List.not_mem_nil, or_false] at hn
      show n < 18; omega
    · show v_iv (n_v vs 17) + v_iv (n_v vs 5) ≤ 48
      omega
  refine ⟨(fun _ h => (by cases h)), [], trivial, ?_, (fun _ h => (by cases h))⟩
  rw [List.append_nil]
  exact List.forall_mem_cons.mpr ⟨⟨show (21 : Nat) < 100 from by decide, nf0⟩, (fun _ h => (by cases h))⟩
def n_Gr_removeEdge_an : List an_T := []
def t_Gr_removeEdge_ct : ct_L := [(69, 77, e_acp_2), (117, 77, e_acp_3), (165, 77, e_acp_4), (213, 77, e_acp_5)]
set_option maxRecDepth 100000 in
theorem c_Gr_removeEdge {l : Launch} {D : va_G} {kA : Nat → ClassId} : ct_ok l D kA GG y_Gr_removeEdge z_Gr_removeEdge e_Gr_removeEdge := chk_all_ok (FT := [(15, 3, 1), (35, 3, 7), (38, 3, 8), (41, 3, 9), (44, 3, 10)]) (PT := [(15, 3, 1, .int)]) (CT := t_Gr_removeEdge_ct) (KT := []) (NT := []) (AN := n_Gr_removeEdge_an) (OT := [o_Gr_removeEdge_0, o_Gr_removeEdge_1, o_Gr_removeEdge_2, o_Gr_removeEdge_3]) 0 216 (List.forall_mem_cons.mpr ⟨oo_Gr_removeEdge_0, List.forall_mem_cons.mpr ⟨oo_Gr_removeEdge_1, List.forall_mem_cons.mpr ⟨oo_Gr_removeEdge_2, List.forall_mem_cons.mpr ⟨oo_Gr_removeEdge_3, List.forall_mem_nil _⟩⟩⟩⟩) (by decide +kernel) ⟨List.forall_mem_cons.mpr ⟨gf_Gr_15, List.forall_mem_cons.mpr ⟨gf_Gr_35, List.forall_mem_cons.mpr ⟨gf_Gr_38, List.forall_mem_cons.mpr ⟨gf_Gr_41, List.forall_mem_cons.mpr ⟨gf_Gr_44, List.forall_mem_nil _⟩⟩⟩⟩⟩, List.forall_mem_cons.mpr ⟨pf_Gr_15, List.forall_mem_nil _⟩, List.forall_mem_cons.mpr ⟨cl_copy rfl rfl (by decide) (by decide) (by decide) wm_748 wm_750 wm_749 wm_15, List.forall_mem_cons.mpr ⟨cl_copy rfl rfl (by decide) (by decide) (by decide) wm_748 wm_750 wm_749 wm_15, List.forall_mem_cons.mpr ⟨cl_copy rfl rfl (by decide) (by decide) (by decide) wm_748 wm_750 wm_749 wm_15, List.forall_mem_cons.mpr ⟨cl_copy rfl rfl (by decide) (by decide) (by decide) wm_748 wm_750 wm_749 wm_15, List.forall_mem_nil _⟩⟩⟩⟩, List.forall_mem_nil _, List.forall_mem_nil _, GG_pl⟩ (by decide +kernel)
def n_La_halfOf_an : List an_T := []
def t_La_halfOf_ct : ct_L := [(1, 242, e_Gr_half)]
set_option maxRecDepth 100000 in
theorem c_La_halfOf {l : Launch} {D : va_G} {kA : Nat → ClassId} (h_Gr_half : ct_ok l D kA GG y_Gr_half z_Gr_half e_Gr_half) : ct_ok l D kA GG y_La_halfOf z_La_halfOf e_La_halfOf := chk_all_ok (FT := [(18, 4, 1), (139, 3, 0)]) (PT := []) (CT := t_La_halfOf_ct) (KT := []) (NT := []) (AN := n_La_halfOf_an) (OT := []) 0 200 (List.forall_mem_nil _) (by decide +kernel) ⟨List.forall_mem_cons.mpr ⟨gf_La_18, List.forall_mem_cons.mpr ⟨gf_La_139, List.forall_mem_nil _⟩⟩, List.forall_mem_nil _, List.forall_mem_cons.mpr ⟨cl_virtual (y := y_Gr_half) (ci := 3) rfl rfl ⟨_, _, rfl⟩ (by decide +kernel) h_Gr_half wm_1452 wm_3 wm_1449 wm_1450 wm_1451 ⟨by decide, by decide, by decide +kernel⟩ (by decide), List.forall_mem_nil _⟩, List.forall_mem_nil _, List.forall_mem_nil _, GG_pl⟩ (by decide +kernel)
def n_La_sortLayer_an : List an_T := [(7, [(0, (2, 0, 0, [4])), (1, (0, 0, 24, [])), (2, (0, 0, 23, [])), (3, (0, 0, 72, []))], [], (0, 0), [(0, 0, 99993), (1, 3, 72), (0, 0, 100000), (0, 0, 0), (0, 0, 0)], [], [], [], 0, [], []), (56, [(0, (2, 0, 0, [4])), (1, (0, 0, 24, [])), (2, (0, 0, 23, [])), (3, (0, 0, 120, []))], [], (0, 0), [(0, 0, 99944), (1, 3, 120), (0, 0, 100000), (0, 0, 0), (0, 0, 0)], [], [], [], 0, [], []), (88, [(0, (2, 0, 0, [4])), (1, (0, 0, 24, [])), (2, (0, 0, 23, [])), (3, (0, 0, 119, []))], [(0, 0, 71, [])], (0, 0), [(0, 0, 99944), (1, 3, 120), (0, 0, 99912), (0, 0, 0), (0, 0, 0)], [], [], [], 0, [], []), (110, [(0, (2, 0, 0, [4])), (1, (0, 0, 24, [])), (2, (0, 0, 23, [])), (3, (0, 0, 119, [])), (4, (0, 0, 71, []))], [(0, 0, 71, [])], (0, 0), [(0, 0, 99944), (1, 3, 120), (0, 0, 99890), (0, 0, 0), (0, 0, 0)], [], [], [], 0, [], []), (153, [(0, (2, 0, 0, [4])), (1, (0, 0, 24, [])), (2, (0, 0, 23, [])), (3, (0, 0, 72, []))], [], (0, 0), [(0, 0, 99847), (1, 3, 72), (0, 0, 100000), (0, 0, 0), (0, 0, 0)], [], [], [], 0, [], []), (210, [(0, (2, 0, 0, [4])), (1, (0, 0, 24, [])), (2, (0, 0, 23, [])), (3, (0, 0, 71, []))], [], (0, 0), [(0, 0, 99847), (1, 3, 72), (0, 0, 99790), (0, 0, 0), (0, 0, 0)], [], [], [], 0, [], []), (225, [(0, (2, 0, 0, [4])), (1, (0, 0, 24, [])), (2, (0, 0, 23, [])), (3, (0, 1, 73, []))], [], (0, 0), [(0, 0, 99775), (1, 3, 73), (0, 0, 100000), (0, 0, 0), (0, 0, 0)], [], [], [], 0, [], []), (248, [(0, (2, 0, 0, [4])), (1, (0, 0, 24, [])), (2, (0, 0, 23, [])), (3, (0, 1, 71, [])), (4, (0, 0, 71, [])), (5, (0, 0, 71, []))], [], (0, 0), [(0, 0, 99775), (1, 3, 73), (0, 0, 99752), (2, 5, 0), (0, 0, 100000)], [], [], [], 0, [], []), (328, [(0, (2, 0, 0, [4])), (1, (0, 0, 24, [])), (2, (0, 0, 23, [])), (3, (0, 1, 71, [])), (4, (0, 0, 71, [])), (5, (0, 0, 71, []))], [], (0, 0), [(0, 0, 99775), (1, 3, 73), (0, 0, 99672), (0, 0, 0), (0, 0, 0)], [], [], [], 0, [], [])]
def t_La_sortLayer_ct : ct_L := [(1, 239, e_La_setPlaces)]
set_option maxRecDepth 100000 in
theorem c_La_sortLayer {l : Launch} {D : va_G} {kA : Nat → ClassId} (h_La_setPlaces : ct_ok l D kA GG y_La_setPlaces z_La_setPlaces e_La_setPlaces) : ct_ok l D kA GG y_La_sortLayer z_La_sortLayer e_La_sortLayer := chk_all_ok (FT := [(36, 4, 6), (39, 4, 7), (45, 4, 9), (48, 4, 10), (57, 4, 13), (60, 4, 14), (63, 4, 15), (66, 4, 16)]) (PT := []) (CT := t_La_sortLayer_ct) (KT := []) (NT := []) (AN := n_La_sortLayer_an) (OT := []) 5 860 (List.forall_mem_nil _) (by decide +kernel) ⟨List.forall_mem_cons.mpr ⟨gf_La_36, List.forall_mem_cons.mpr ⟨gf_La_39, List.forall_mem_cons.mpr ⟨gf_La_45, List.forall_mem_cons.mpr ⟨gf_La_48, List.forall_mem_cons.mpr ⟨gf_La_57, List.forall_mem_cons.mpr ⟨gf_La_60, List.forall_mem_cons.mpr ⟨gf_La_63, List.forall_mem_cons.mpr ⟨gf_La_66, List.forall_mem_nil _⟩⟩⟩⟩⟩⟩⟩⟩, List.forall_mem_nil _, List.forall_mem_cons.mpr ⟨cl_virtual (y := y_La_setPlaces) (ci := 4) rfl rfl ⟨_, _, rfl⟩ (by decide +kernel) h_La_setPlaces wm_1440 wm_18 wm_1437 wm_1439 wv_6_0 ⟨by decide, by decide, by decide +kernel⟩ (by decide), List.forall_mem_nil _⟩, List.forall_mem_nil _, List.forall_mem_nil _, GG_pl⟩ (by decide +kernel)
def o_Ne_begin_at_Ne_0 : or_T := (5, 2, [(0, (2, 0, 0, [5])), (1, (0, 0, 24, []))], [(101, [0, 1], [5])], [], [], [(20, [0, 1], [30, 0, 1, 1, 5, -1, 0, 0])], [], [])
theorem oo_Ne_begin_at_Ne_0 {kA : Nat → ClassId} : or_ok kA GG o_Ne_begin_at_Ne_0 := by
  intro A ta ws vs hD hth hl hk hds hf
  have hl : vs.length = 2 := hl
  have hk : ∀ q ∈ ([(0, (2, 0, 0, [5])), (1, (0, 0, 24, []))] : List (Nat × tv_T)), tv_ok ta q.2 (n_v vs q.1) := hk
  obtain ⟨t0, hk⟩ := List.forall_mem_cons.mp hk
  have t0 : tv_ok ta (2, 0, 0, [5]) (n_v vs 0) := t0
  have r0 : ta (v_ad (n_v vs 0)) = some 5 := tv_rg t0
  obtain ⟨t1, hk⟩ := List.forall_mem_cons.mp hk
  have t1 : tv_ok ta (0, 0, 24, []) (n_v vs 1) := t1
  have k1 : 0 ≤ v_iv (n_v vs 1) ∧ v_iv (n_v vs 1) ≤ 24 := tv_rng t1
  have hf : fc_ok [(101, [0, 1], [5])] ta ws vs := hf
  obtain ⟨ta1, w1, le1, ⟨_, s1⟩, hf⟩ := fc_us (show ¬ (101 : Nat) < 100 from by decide) hf
  have s1 : (∀ b j, w_el ws b j = w_el w1 b j) ∧ ∀ b j, w_fd ws b j = if b = v_ad (n_v vs 0) ∧ j = 5 then n_v vs 1 else w_fd w1 b j := s1
  have fe_0_5_1 : w_fi ws (n_v vs 0) 5 = v_iv (n_v vs 1) := by show v_iv (w_fd _ _ _) = _; rw [s1.2, if_pos ⟨rfl, rfl⟩]
  have kz_0_5 : 0 ≤ w_fi ws (n_v vs 0) 5 ∧ w_fi ws (n_v vs 0) 5 ≤ 24 := tv_rng (th_fd hD hth r0 (g := GG_5) rfl (k := 5) (t := (0, 0, 24, [])) rfl rfl)
  have nf0 : fc_1 (20, [0, 1], [30, 0, 1, 1, 5, -1, 0, 0]) ws (vs) := by
    refine ⟨fun n hn => ?_, ?_⟩
    · have hn : n ∈ [0, 1] := hn
      rw [hl]
      simp only [List.mem_cons, List.not_mem_nil, or_false] at hn
      show n < 2; omega
    · show 1 * w_fi ws (n_v vs 0) 5 + ((-1) * v_iv (n_v vs 1) + 0) ≤ 0
      omega
  refine ⟨(fun _ h => (by cases h)), [], trivial, ?_, (fun _ h => (by cases h))⟩
  rw [List.append_nil]
  exact List.forall_mem_cons.mpr ⟨⟨show (20 : Nat) < 100 from by decide, nf0⟩, (fun _ h => (by cases h))⟩
def n_Ne_begin_at_Ne_an : List an_T := []
def t_Ne_begin_at_Ne_ct : ct_L := [(63, 64, e_jArr_fill1_v10), (87, 64, e_jArr_fill1_v11), (111, 64, e_jArr_fill1_v12)]
set_option maxRecDepth 100000 in
theorem c_Ne_begin_at_Ne {l : Launch} {D : va_G} {kA : Nat → ClassId} : ct_ok l D kA GG y_Ne_begin_at_Ne z_Ne_begin_at_Ne e_Ne_begin_at_Ne := chk_all_ok (FT := [(40, 5, 9), (43, 5, 10), (49, 5, 12)]) (PT := [(28, 5, 5, .int), (31, 5, 6, .int), (52, 5, 13, .int)]) (CT := t_Ne_begin_at_Ne_ct) (KT := []) (NT := []) (AN := n_Ne_begin_at_Ne_an) (OT := [o_Ne_begin_at_Ne_0]) 0 200 (List.forall_mem_cons.mpr ⟨oo_Ne_begin_at_Ne_0, List.forall_mem_nil _⟩) (by decide +kernel) ⟨List.forall_mem_cons.mpr ⟨gf_Ne_40, List.forall_mem_cons.mpr ⟨gf_Ne_43, List.forall_mem_cons.mpr ⟨gf_Ne_49, List.forall_mem_nil _⟩⟩⟩, List.forall_mem_cons.mpr ⟨pf_Ne_28, List.forall_mem_cons.mpr ⟨pf_Ne_31, List.forall_mem_cons.mpr ⟨pf_Ne_52, List.forall_mem_nil _⟩⟩⟩, List.forall_mem_cons.mpr ⟨cl_static (y := y_jArr_fill1) c_jArr_fill1_v10 wm_55 wm_4 wm_1061 wm_54 ⟨by decide, by decide, by decide +kernel⟩ (by decide), List.forall_mem_cons.mpr ⟨cl_static (y := y_jArr_fill1) c_jArr_fill1_v11 wm_55 wm_4 wm_1061 wm_54 ⟨by decide, by decide, by decide +kernel⟩ (by decide), List.forall_mem_cons.mpr ⟨cl_static (y := y_jArr_fill1) c_jArr_fill1_v12 wm_55 wm_4 wm_1061 wm_54 ⟨by decide, by decide, by decide +kernel⟩ (by decide), List.forall_mem_nil _⟩⟩⟩, List.forall_mem_nil _, List.forall_mem_nil _, GG_pl⟩ (by decide +kernel)
def o_Ne_begin_at_Np_0 : or_T := (5, 2, [(0, (2, 0, 0, [149])), (1, (0, 0, 24, []))], [(101, [0, 1], [5])], [], [], [(20, [0, 1], [30, 0, 1, 1, 5, -1, 0, 0])], [], [])
theorem oo_Ne_begin_at_Np_0 {kA : Nat → ClassId} : or_ok kA GG o_Ne_begin_at_Np_0 := by
  intro A ta ws vs hD hth hl hk hds hf
  have hl : vs.length = 2 := hl
  have hk : ∀ q ∈ ([(0, (2, 0, 0, [149])), (1, (0, 0, 24, []))] : List (Nat × tv_T)), tv_ok ta q.2 (n_v vs q.1) := hk
  obtain ⟨t0, hk⟩ := List.forall_mem_cons.mp hk
  have t0 : tv_ok ta (2, 0, 0, [149]) (n_v vs 0) := t0
  have r0 : ta (v_ad (n_v vs 0)) = some 149 := tv_rg t0
  obtain ⟨t1, hk⟩ := List.forall_mem_cons.mp hk
  have t1 : tv_ok ta (0, 0, 24, []) (n_v vs 1) := t1
  have k1 : 0 ≤ v_iv (n_v vs 1) ∧ v_iv (n_v vs 1) ≤ 24 := tv_rng t1
  have hf : fc_ok [(101, [0, 1], [5])] ta ws vs := hf
  obtain ⟨ta1, w1, le1, ⟨_, s1⟩, hf⟩ := fc_us (show ¬ (101 : Nat) < 100 from by decide) hf
  have s1 : (∀ b j, w_el ws b j = w_el w1 b j) ∧ ∀ b j, w_fd ws b j = if b = v_ad (n_v vs 0) ∧ j = 5 then n_v vs 1 else w_fd w1 b j := s1
  have fe_0_5_1 : w_fi ws (n_v vs 0) 5 = v_iv (n_v vs 1) := by show v_iv (w_fd _ _ _) = _; rw [s1.2, if_pos ⟨rfl, rfl⟩]
  have kz_0_5 : 0 ≤ w_fi ws (n_v vs 0) 5 ∧ w_fi ws (n_v vs 0) 5 ≤ 25 := tv_rng (th_fd hD hth r0 (g := GG_149) rfl (k := 5) (t := (0, 0, 25, [])) rfl rfl)
  have nf0 : fc_1 (20, [0, 1], [30, 0, 1, 1, 5, -1, 0, 0]) ws (vs) := by
    refine ⟨fun n hn => ?_, ?_⟩
    · have hn : n ∈ [0, 1] := hn
      rw [hl]
      simp only [List.mem_cons, List.not_mem_nil, or_false] at hn
      show n < 2; omega
    · show 1 * w_fi ws (n_v vs 0) 5 + ((-1) * v_iv (n_v vs 1) + 0) ≤ 0
      omega
  refine ⟨(fun _ h => (by cases h)), [], trivial, ?_, (fun _ h => (by cases h))⟩
  rw [List.append_nil]
  exact List.forall_mem_cons.mpr ⟨⟨show (20 : Nat) < 100 from by decide, nf0⟩, (fun _ h => (by cases h))⟩
def n_Ne_begin_at_Np_an : List an_T := []
def t_Ne_begin_at_Np_ct : ct_L := [(63, 64, e_jArr_fill1_v13), (87, 64, e_jArr_fill1_v14), (111, 64, e_jArr_fill1_v15)]
set_option maxRecDepth 100000 in
theorem c_Ne_begin_at_Np {l : Launch} {D : va_G} {kA : Nat → ClassId} : ct_ok l D kA GG y_Ne_begin_at_Np z_Ne_begin_at_Np e_Ne_begin_at_Np := chk_all_ok (FT := [(40, 5, 9), (43, 5, 10), (49, 5, 12)]) (PT := [(28, 5, 5, .int), (31, 5, 6, .int), (52, 5, 13, .int)]) (CT := t_Ne_begin_at_Np_ct) (KT := []) (NT := []) (AN := n_Ne_begin_at_Np_an) (OT := [o_Ne_begin_at_Np_0]) 0 200 (List.forall_mem_cons.mpr ⟨oo_Ne_begin_at_Np_0, List.forall_mem_nil _⟩) (by decide +kernel) ⟨List.forall_mem_cons.mpr ⟨gf_Ne_40, List.forall_mem_cons.mpr ⟨gf_Ne_43, List.forall_mem_cons.mpr ⟨gf_Ne_49, List.forall_mem_nil _⟩⟩⟩, List.forall_mem_cons.mpr ⟨pf_Ne_28, List.forall_mem_cons.mpr ⟨pf_Ne_31, List.forall_mem_cons.mpr ⟨pf_Ne_52, List.forall_mem_nil _⟩⟩⟩, List.forall_mem_cons.mpr ⟨cl_static (y := y_jArr_fill1) c_jArr_fill1_v13 wm_55 wm_4 wm_1061 wm_54 ⟨by decide, by decide, by decide +kernel⟩ (by decide), List.forall_mem_cons.mpr ⟨cl_static (y := y_jArr_fill1) c_jArr_fill1_v14 wm_55 wm_4 wm_1061 wm_54 ⟨by decide, by decide, by decide +kernel⟩ (by decide), List.forall_mem_cons.mpr ⟨cl_static (y := y_jArr_fill1) c_jArr_fill1_v15 wm_55 wm_4 wm_1061 wm_54 ⟨by decide, by decide, by decide +kernel⟩ (by decide), List.forall_mem_nil _⟩⟩⟩, List.forall_mem_nil _, List.forall_mem_nil _, GG_pl⟩ (by decide +kernel)
def n_Ne_insertBehind_an : List an_T := []
def t_Ne_insertBehind_ct : ct_L := [(1, 84, e_Ne_endAt)]
set_option maxRecDepth 100000 in
theorem c_Ne_insertBehind {l : Launch} {D : va_G} {kA : Nat → ClassId} (h_Ne_endAt : ct_ok l D kA GG y_Ne_endAt z_Ne_endAt e_Ne_endAt) : ct_ok l D kA GG y_Ne_insertBehind z_Ne_insertBehind e_Ne_insertBehind := chk_all_ok (FT := [(46, 5, 11)]) (PT := []) (CT := t_Ne_insertBehind_ct) (KT := []) (NT := []) (AN := n_Ne_insertBehind_an) (OT := []) 0 296 (List.forall_mem_nil _) (by decide +kernel) ⟨List.forall_mem_cons.mpr ⟨gf_Ne_46, List.forall_mem_nil _⟩, List.forall_mem_nil _, List.forall_mem_cons.mpr ⟨cl_virtual (y := y_Ne_endAt) (ci := 5) rfl rfl ⟨_, _, rfl⟩ (by decide +kernel) h_Ne_endAt wm_1138 wm_6 wm_1151 wm_1136 wm_1137 ⟨by decide, by decide, by decide +kernel⟩ (by decide), List.forall_mem_nil _⟩, List.forall_mem_nil _, List.forall_mem_nil _, GG_pl⟩ (by decide +kernel)
def n_Pl_crossingsAt_an : List an_T := [(24, [(0, (2, 0, 0, [6])), (1, (0, 0, 23, [])), (2, (0, 0, 16777215, [])), (3, (0, 0, 16777215, [])), (4, (0, -2147483648, 2147483647, [])), (5, (0, -2147483648, 2147483647, [])), (6, (0, 0, 23, []))], [], (0, 0), [(0, 0, 99976), (1, 6, 23), (0, 0, 100000)], [], [((0, 0), (2, 0, 0, [3]))], [], 0, [], [])]
def t_Pl_crossingsAt_ct : ct_L := [(162, 230, e_jInt_bitCount_v7)]
set_option maxRecDepth 100000 in
theorem c_Pl_crossingsAt {l : Launch} {D : va_G} {kA : Nat → ClassId} : ct_ok l D kA GG y_Pl_crossingsAt z_Pl_crossingsAt e_Pl_crossingsAt := chk_all_ok (FT := [(9, 6, 0), (19, 6, 2), (138, 3, 14)]) (PT := []) (CT := t_Pl_crossingsAt_ct) (KT := []) (NT := []) (AN := n_Pl_crossingsAt_an) (OT := []) 3 204 (List.forall_mem_nil _) (by decide +kernel) ⟨List.forall_mem_cons.mpr ⟨gf_Pl_9, List.forall_mem_cons.mpr ⟨gf_Pl_19, List.forall_mem_cons.mpr ⟨gf_Pl_138, List.forall_mem_nil _⟩⟩⟩, List.forall_mem_nil _, List.forall_mem_cons.mpr ⟨cl_static (y := y_jInt_bitCount) c_jInt_bitCount_v7 wm_870 wm_17 wm_1771 wm_869 ⟨by decide, by decide, by decide +kernel⟩ (by decide), List.forall_mem_nil _⟩, List.forall_mem_nil _, List.forall_mem_nil _, GG_pl⟩ (by decide +kernel)
def n_Pl_fewestNeighbours_an : List an_T := [(8, [(0, (2, 0, 0, [6])), (1, (0, 0, 16777215, [])), (2, (0, 0, 23, [])), (3, (0, 0, 1000000000, [])), (4, (0, 0, 24, []))], [], (0, 0), [(0, 0, 99992), (1, 4, 24), (0, 0, 100000)], [], [((0, 0), (2, 0, 0, [3]))], [], 0, [], [])]
def t_Pl_fewestNeighbours_ct : ct_L := [(93, 230, e_jInt_bitCount_v7)]
set_option maxRecDepth 100000 in
theorem c_Pl_fewestNeighbours {l : Launch} {D : va_G} {kA : Nat → ClassId} : ct_ok l D kA GG y_Pl_fewestNeighbours z_Pl_fewestNeighbours e_Pl_fewestNeighbours := chk_all_ok (FT := [(9, 6, 0), (74, 3, 0), (138, 3, 14)]) (PT := []) (CT := t_Pl_fewestNeighbours_ct) (KT := [(0, 212, .int (1000000000), (0, 1000000000, 1000000000, []))]) (NT := []) (AN := n_Pl_fewestNeighbours_an) (OT := []) 3 200 (List.forall_mem_nil _) (by decide +kernel) ⟨List.forall_mem_cons.mpr ⟨gf_Pl_9, List.forall_mem_cons.mpr ⟨gf_Pl_74, List.forall_mem_cons.mpr ⟨gf_Pl_138, List.forall_mem_nil _⟩⟩⟩, List.forall_mem_nil _, List.forall_mem_cons.mpr ⟨cl_static (y := y_jInt_bitCount) c_jInt_bitCount_v7 wm_870 wm_17 wm_1771 wm_869 ⟨by decide, by decide, by decide +kernel⟩ (by decide), List.forall_mem_nil _⟩, List.forall_mem_cons.mpr ⟨kx_Pl_0_212, List.forall_mem_nil _⟩, List.forall_mem_nil _, GG_pl⟩ (by decide +kernel)
def n_Pl_layRow_an : List an_T := [(20, [(0, (2, 0, 0, [6])), (1, (0, 0, 31, [])), (2, (0, 1, 32, [])), (3, (0, -2147483648, 2147483647, [])), (4, (0, -2147483648, 2147483647, []))], [(0, 0, 1, [])], (0, 0), [(0, 0, 99980), (0, 0, 0), (0, 0, 0)], [], [((0, 1), (2, 0, 0, [0]))], [], 0, [], []), (42, [(0, (2, 0, 0, [6])), (1, (0, 0, 31, [])), (2, (0, 1, 32, [])), (3, (0, -2147483648, 2147483647, [])), (4, (0, -2147483648, 2147483647, [])), (5, (0, 0, 1, []))], [(0, -2147483648, 2147483647, [])], (0, 0), [(0, 0, 99958), (0, 0, 0), (0, 0, 0)], [], [((0, 1), (2, 0, 0, [0]))], [], 0, [], []), (69, [(0, (2, 0, 0, [6])), (1, (0, 0, 31, [])), (2, (0, 1, 32, [])), (3, (0, -2147483648, 2147483647, [])), (4, (0, 1, 2147483647, [])), (5, (0, 0, 1, [])), (6, (0, -2147483648, 2147483647, []))], [(0, -2147483648, 2147483647, [])], (0, 0), [(0, 0, 99931), (0, 0, 0), (0, 0, 0)], [], [((0, 1), (2, 0, 0, [0]))], [], 0, [], []), (78, [(0, (2, 0, 0, [6])), (1, (0, 0, 31, [])), (2, (0, 1, 32, [])), (3, (0, -2147483648, 2147483647, [])), (4, (0, -2147483648, 2147483647, [])), (5, (0, 0, 1, [])), (6, (0, -2147483648, 2147483647, []))], [(0, -2147483648, 2147483647, [])], (0, 0), [(0, 0, 99922), (0, 0, 0), (0, 0, 0)], [], [((0, 1), (2, 0, 0, [0]))], [], 0, [], []), (86, [(0, (2, 0, 0, [6])), (1, (0, 0, 31, [])), (2, (0, 1, 32, [])), (3, (0, -2147483648, 2147483647, [])), (4, (0, -2147483648, 2147483647, [])), (5, (0, 0, 1, [])), (6, (0, -2147483648, 2147483647, [])), (7, (0, -2147483648, 2147483647, [])), (8, (0, -2147483648, 2147483647, [])), (9, (0, 0, 32, []))], [], (0, 0), [(0, 0, 99914), (1, 9, 32), (0, 0, 100000)], [], [((0, 1), (2, 0, 0, [0]))], [], 0, [], []), (200, [(0, (2, 0, 0, [6])), (1, (0, 0, 31, [])), (2, (0, 1, 32, [])), (3, (0, 1, 2147483647, [])), (4, (0, -2147483648, 2147483647, [])), (5, (0, 0, 1, [])), (6, (0, -2147483648, 2147483647, [])), (7, (0, -2147483648, 2147483647, [])), (8, (0, -2147483648, 2147483647, [])), (9, (0, 0, 31, [])), (10, (0, -2147483648, 2147483647, [])), (11, (0, -2147483648, 2147483647, []))], [], (0, 0), [(0, 0, 99914), (1, 9, 32), (0, 0, 99800)], [], [((0, 1), (2, 0, 0, [0]))], [], 0, [], []), (206, [(0, (2, 0, 0, [6])), (1, (0, 0, 31, [])), (2, (0, 1, 32, [])), (3, (0, -2147483648, 2147483647, [])), (4, (0, -2147483648, 2147483647, [])), (5, (0, 0, 1, [])), (6, (0, -2147483648, 2147483647, [])), (7, (0, -2147483648, 2147483647, [])), (8, (0, -2147483648, 2147483647, [])), (9, (0, 0, 32, []))], [], (0, 0), [(0, 0, 99794), (0, 0, 0), (0, 0, 0)], [], [((0, 1), (2, 0, 0, [0]))], [], 0, [], []), (220, [(0, (2, 0, 0, [6])), (1, (0, 0, 31, [])), (2, (0, 1, 32, [])), (3, (0, -2147483648, 2147483647, [])), (4, (0, -2147483648, 2147483647, [])), (5, (0, 0, 1, [])), (6, (0, -2147483648, 2147483647, [])), (7, (0, -2147483648, 2147483647, [])), (8, (0, -2147483648, 2147483647, [])), (9, (0, 0, 32, []))], [(0, 0, 1, []), (2, 0, 0, [97])], (0, 0), [(0, 0, 99780), (0, 0, 0), (0, 0, 0)], [], [((0, 1), (2, 0, 0, [0]))], [], 0, [], []), (240, [(0, (2, 0, 0, [6])), (1, (0, 0, 31, [])), (2, (0, 1, 32, [])), (3, (0, -2147483648, 2147483647, [])), (4, (0, -2147483648, 2147483647, [])), (5, (0, 0, 1, [])), (6, (0, -2147483648, 2147483647, [])), (7, (0, -2147483648, 2147483647, [])), (8, (0, -2147483648, 2147483647, [])), (9, (0, 0, 32, []))], [(0, 2, 3, []), (2, 0, 0, [97])], (0, 0), [(0, 0, 99760), (0, 0, 0), (0, 0, 0)], [], [((0, 1), (2, 0, 0, [0]))], [], 0, [], [])]
def t_Pl_layRow_ct : ct_L := [(1, 162, e_Pl_setArea)]
set_option maxRecDepth 100000 in
theorem c_Pl_layRow {l : Launch} {D : va_G} {kA : Nat → ClassId} (h_Pl_setArea : ct_ok l D kA GG y_Pl_setArea z_Pl_setArea e_Pl_setArea) : ct_ok l D kA GG y_Pl_layRow z_Pl_layRow e_Pl_layRow := chk_all_ok (FT := [(42, 6, 9), (45, 6, 10), (51, 6, 12)]) (PT := []) (CT := t_Pl_layRow_ct) (KT := []) (NT := []) (AN := n_Pl_layRow_an) (OT := []) 3 572 (List.forall_mem_nil _) (by decide +kernel) ⟨List.forall_mem_cons.mpr ⟨gf_Pl_42, List.forall_mem_cons.mpr ⟨gf_Pl_45, List.forall_mem_cons.mpr ⟨gf_Pl_51, List.forall_mem_nil _⟩⟩⟩, List.forall_mem_nil _, List.forall_mem_cons.mpr ⟨cl_virtual (y := y_Pl_setArea) (ci := 6) rfl rfl ⟨_, _, rfl⟩ (by decide +kernel) h_Pl_setArea wm_1725 wm_21 wm_1722 wm_1724 wv_7_13 ⟨by decide, by decide, by decide +kernel⟩ (by decide), List.forall_mem_nil _⟩, List.forall_mem_nil _, List.forall_mem_nil _, GG_pl⟩ (by decide +kernel)
def o_Pn_pickFromLine_0 : or_T := (1000000, 0, [], [], [], [], [], [], [])
theorem oo_Pn_pickFromLine_0 {kA : Nat → ClassId} : or_ok kA GG o_Pn_pickFromLine_0 := fun _ _ _ _ _ _ _ _ _ _ => ⟨fun q h => (by cases h), [], trivial, fun f h => (by cases h), fun q h => (by cases h)⟩
def n_Pn_pickFromLine_an : List an_T := [(4, [(0, (2, 0, 0, [7])), (1, (0, 0, 16777215, [])), (2, (0, 0, 24, []))], [], (0, 0), [(0, 0, 99996), (1, 2, 24), (0, 0, 100000)], [(1, 2, -1000000000000, 16777214)], [], [], 0, [], []), (36, [(0, (2, 0, 0, [7])), (1, (0, 0, 16777215, [])), (2, (0, 1, 22, [])), (3, (0, -1, 23, [])), (4, (0, 1, 23, []))], [], (0, 0), [(0, 0, 99964), (1, 4, 23), (0, 0, 100000)], [(1, 2, -1000000000000, 16777214), (1, 3, -1000000000000, 16777216), (1, 4, -1000000000000, 16777214), (2, 4, -1000000000000, 0), (3, 1, -1000000000000, 23), (3, 2, -1000000000000, 22), (3, 4, -1000000000000, 21)], [], [], 0, [], [])]
def t_Pn_pickFromLine_ct : ct_L := [(228, 150, e_jInt_bitCount_v16), (228, 150, e_jInt_bitCount_v7)]
set_option maxRecDepth 100000 in
theorem c_Pn_pickFromLine {l : Launch} {D : va_G} {kA : Nat → ClassId} : ct_ok l D kA GG y_Pn_pickFromLine z_Pn_pickFromLine e_Pn_pickFromLine := chk_all_ok (FT := [(12, 7, 0), (22, 7, 2), (25, 7, 3), (131, 5, 9)]) (PT := []) (CT := t_Pn_pickFromLine_ct) (KT := []) (NT := []) (AN := n_Pn_pickFromLine_an) (OT := [o_Pn_pickFromLine_0]) 3 260 (List.forall_mem_cons.mpr ⟨oo_Pn_pickFromLine_0, List.forall_mem_nil _⟩) (by decide +kernel) ⟨List.forall_mem_cons.mpr ⟨gf_Pn_12, List.forall_mem_cons.mpr ⟨gf_Pn_22, List.forall_mem_cons.mpr ⟨gf_Pn_25, List.forall_mem_cons.mpr ⟨gf_Pn_131, List.forall_mem_nil _⟩⟩⟩⟩, List.forall_mem_nil _, List.forall_mem_cons.mpr ⟨cl_static (y := y_jInt_bitCount) c_jInt_bitCount_v16 wm_870 wm_17 wm_1555 wm_869 ⟨by decide, by decide, by decide +kernel⟩ (by decide), List.forall_mem_cons.mpr ⟨cl_static (y := y_jInt_bitCount) c_jInt_bitCount_v7 wm_870 wm_17 wm_1555 wm_869 ⟨by decide, by decide, by decide +kernel⟩ (by decide), List.forall_mem_nil _⟩⟩, List.forall_mem_nil _, List.forall_mem_nil _, GG_pl⟩ (by decide +kernel)
def n_Pn_raiseNodes_an : List an_T := [(2, [(0, (2, 0, 0, [7])), (1, (2, 0, 0, [3])), (2, (2, 0, 0, [0])), (3, (0, 0, 24, []))], [], (0, 0), [(0, 0, 99998), (1, 3, 24), (0, 0, 100000), (0, 0, 0), (0, 0, 0)], [], [], [], 0, [], []), (29, [(0, (2, 0, 0, [7])), (1, (2, 0, 0, [3])), (2, (2, 0, 0, [0])), (3, (0, 0, 23, [])), (4, (0, 0, 23, [])), (5, (0, 0, 23, []))], [], (0, 0), [(0, 0, 99998), (1, 3, 24), (0, 0, 99971), (1, 5, 23), (0, 0, 100000)], [], [], [], 0, [], [])]
def t_Pn_raiseNodes_ct : ct_L := [(249, 92, e_jMath_max1_v17)]
set_option maxRecDepth 100000 in
theorem c_Pn_raiseNodes {l : Launch} {D : va_G} {kA : Nat → ClassId} : ct_ok l D kA GG y_Pn_raiseNodes z_Pn_raiseNodes e_Pn_raiseNodes := chk_all_ok (FT := [(22, 7, 2), (47, 3, 0), (87, 0, 3), (219, 3, 14)]) (PT := []) (CT := t_Pn_raiseNodes_ct) (KT := []) (NT := []) (AN := n_Pn_raiseNodes_an) (OT := []) 5 232 (List.forall_mem_nil _) (by decide +kernel) ⟨List.forall_mem_cons.mpr ⟨gf_Pn_22, List.forall_mem_cons.mpr ⟨gf_Pn_47, List.forall_mem_cons.mpr ⟨gf_Pn_87, List.forall_mem_cons.mpr ⟨gf_Pn_219, List.forall_mem_nil _⟩⟩⟩⟩, List.forall_mem_nil _, List.forall_mem_cons.mpr ⟨cl_static (y := y_jMath_max1) c_jMath_max1_v17 wm_836 wm_10 wm_1574 wm_835 ⟨by decide, by decide, by decide +kernel⟩ (by decide), List.forall_mem_nil _⟩, List.forall_mem_nil _, List.forall_mem_nil _, GG_pl⟩ (by decide +kernel)
def o_Pn_replaceInLine_0 : or_T := (33, 10, [(0, (2, 0, 0, [7])), (1, (0, 0, 24, [])), (2, (0, 0, 22, [])), (3, (0, 0, 24, [])), (4, (0, 0, 24, [])), (5, (0, -24, 24, [])), (6, (0, 0, 48, [])), (7, (0, -22, 24, [])), (8, (0, -22, 24, [])), (9, (0, 24, 24, []))], [(8, [2], [3]), (8, [6], [3]), (7, [8, 9], [5]), (1, [8, 7, 3], []), (2, [7, 4, 2], []), (9, [4, 0], [3]), (2, [6, 5, 2], []), (2, [5, 4, 1], [])], [], [], [(20, [0, 2, 3], [30, 24, 1, 1, 3, -1, 0, 0, 1, 0, 0]), (20, [0, 1, 2], [30, 0, -1, 1, 3, 1, 0, 0, 1, 0, 0])], [], [(8, 3, -22, 48), (8, 7, 0, 24), (8, 4, -22, 48), (7, 4, -22, 24), (6, 5, -22, 24), (6, 4, -46, 24), (5, 4, -24, 0)])
theorem oo_Pn_replaceInLine_0 {kA : Nat → ClassId} : or_ok kA GG o_Pn_replaceInLine_0 := by
  intro A ta ws vs hD hth hl hk hds hf
  have hl : vs.length = 10 := hl
  have hk : ∀ q ∈ ([(0, (2, 0, 0, [7])), (1, (0, 0, 24, [])), (2, (0, 0, 22, [])), (3, (0, 0, 24, [])), (4, (0, 0, 24, [])), (5, (0, -24, 24, [])), (6, (0, 0, 48, [])), (7, (0, -22, 24, [])), (8, (0, -22, 24, [])), (9, (0, 24, 24, []))] : List (Nat × tv_T)), tv_ok ta q.2 (n_v vs q.1) := hk
  obtain ⟨t0, hk⟩ := List.forall_mem_cons.mp hk
  have t0 : tv_ok ta (2, 0, 0, [7]) (n_v vs 0) := t0
  have r0 : ta (v_ad (n_v vs 0)) = some 7 := tv_rg t0
  obtain ⟨t1, hk⟩ := List.forall_mem_cons.mp hk
  have t1 : tv_ok ta (0, 0, 24, []) (n_v vs 1) := t1
  have k1 : 0 ≤ v_iv (n_v vs 1) ∧ v_iv (n_v vs 1) ≤ 24 := tv_rng t1
  obtain ⟨t2, hk⟩ := List.forall_mem_cons.mp hk
  have t2 : tv_ok ta (0, 0, 22, []) (n_v vs 2) := t2
  have k2 : 0 ≤ v_iv (n_v vs 2) ∧ v_iv (n_v vs 2) ≤ 22 := tv_rng t2
  obtain ⟨t3, hk⟩ := List.forall_mem_cons.mp hk
  have t3 : tv_ok ta (0, 0, 24, []) (n_v vs 3) := t3
  have k3 : 0 ≤ v_iv (n_v vs 3) ∧ v_iv (n_v vs 3) ≤ 24 := tv_rng t3
  obtain ⟨t4, hk⟩ := List.forall_mem_cons.mp hk
  have t4 : tv_ok ta (0, 0, 24, []) (n_v vs 4) := t4
  have k4 : 0 ≤ v_iv (n_v vs 4) ∧ v_iv (n_v vs 4) ≤ 24 := tv_rng t4
  obtain ⟨t5, hk⟩ := List.forall_mem_cons.mp hk
  have t5 : tv_ok ta (0, -24, 24, []) (n_v vs 5) := t5
  have k5 : (-24) ≤ v_iv (n_v vs 5) ∧ v_iv (n_v vs 5) ≤ 24 := tv_rng t5
  obtain ⟨t6, hk⟩ := List.forall_mem_cons.mp hk
  have t6 : tv_ok ta (0, 0, 48, []) (n_v vs 6) := t6
  have k6 : 0 ≤ v_iv (n_v vs 6) ∧ v_iv (n_v vs 6) ≤ 48 := tv_rng t6
  obtain ⟨t7, hk⟩ := List.forall_mem_cons.mp hk
  have t7 : tv_ok ta (0, -22, 24, []) (n_v vs 7) := t7
  have k7 : (-22) ≤ v_iv (n_v vs 7) ∧ v_iv (n_v vs 7) ≤ 24 := tv_rng t7
  obtain ⟨t8, hk⟩ := List.forall_mem_cons.mp hk
  have t8 : tv_ok ta (0, -22, 24, []) (n_v vs 8) := t8
  have k8 : (-22) ≤ v_iv (n_v vs 8) ∧ v_iv (n_v vs 8) ≤ 24 := tv_rng t8
  obtain ⟨t9, hk⟩ := List.forall_mem_cons.mp hk
  have t9 : tv_ok ta (0, 24, 24, []) (n_v vs 9) := t9
  have k9 : 24 ≤ v_iv (n_v vs 9) ∧ v_iv (n_v vs 9) ≤ 24 := tv_rng t9
  have hds : ∀ q ∈ ([(8, 3, -22, 48), (8, 7, 0, 24), (8, 4, -22, 48), (7, 4, -22, 24), (6, 5, -22, 24), (6, 4, -46, 24), (5, 4, -24, 0)] : List of_T), n_iv vs q.2.1 + q.2.2.1 ≤ n_iv vs q.1 ∧ n_iv vs q.1 ≤ n_iv vs q.2.1 + q.2.2.2 := hds
  obtain ⟨d0, hds⟩ := List.forall_mem_cons.mp hds
  have d0 : v_iv (n_v vs 3) + (-22) ≤ v_iv (n_v vs 8) ∧ v_iv (n_v vs 8) ≤ v_iv (n_v vs 3) + 48 := d0
  obtain ⟨d1, hds⟩ := List.forall_mem_cons.mp hds
  have d1 : v_iv (n_v vs 7) + 0 ≤ v_iv (n_v vs 8) ∧ v_iv (n_v vs 8) ≤ v_iv (n_v vs 7) + 24 := d1
  obtain ⟨d2, hds⟩ := List.forall_mem_cons.mp hds
  have d2 : v_iv (n_v vs 4) + (-22) ≤ v_iv (n_v vs 8) ∧ v_iv (n_v vs 8) ≤ v_iv (n_v vs 4) + 48 := d2
  obtain ⟨d3, hds⟩ := List.forall_mem_cons.mp hds
  have d3 : v_iv (n_v vs 4) + (-22) ≤ v_iv (n_v vs 7) ∧ v_iv (n_v vs 7) ≤ v_iv (n_v vs 4) + 24 := d3
  obtain ⟨d4, hds⟩ := List.forall_mem_cons.mp hds
  have d4 : v_iv (n_v vs 5) + (-22) ≤ v_iv (n_v vs 6) ∧ v_iv (n_v vs 6) ≤ v_iv (n_v vs 5) + 24 := d4
  obtain ⟨d5, hds⟩ := List.forall_mem_cons.mp hds
  have d5 : v_iv (n_v vs 4) + (-46) ≤ v_iv (n_v vs 6) ∧ v_iv (n_v vs 6) ≤ v_iv (n_v vs 4) + 24 := d5
  obtain ⟨d6, hds⟩ := List.forall_mem_cons.mp hds
  have d6 : v_iv (n_v vs 4) + (-24) ≤ v_iv (n_v vs 5) ∧ v_iv (n_v vs 5) ≤ v_iv (n_v vs 4) + 0 := d6
  have hf : fc_ok [(8, [2], [3]), (8, [6], [3]), (7, [8, 9], [5]), (1, [8, 7, 3], []), (2, [7, 4, 2], []), (9, [4, 0], [3]), (2, [6, 5, 2], []), (2, [5, 4, 1], [])] ta ws vs := hf
  obtain ⟨f0, hf⟩ := fc_un (show (8 : Nat) < 100 from by decide) hf
  have f0 : 0 ≤ v_iv (n_v vs 2) := f0
  obtain ⟨f1, hf⟩ := fc_un (show (8 : Nat) < 100 from by decide) hf
  have f1 : 0 ≤ v_iv (n_v vs 6) := f1
  obtain ⟨f2, hf⟩ := fc_un (show (7 : Nat) < 100 from by decide) hf
  have f2 : v_iv (n_v vs 8) ≤ v_iv (n_v vs 9) := f2
  obtain ⟨f3, hf⟩ := fc_un (show (1 : Nat) < 100 from by decide) hf
  have f3 : v_iv (n_v vs 8) = v_iv (n_v vs 7) + v_iv (n_v vs 3) := f3
  obtain ⟨f4, hf⟩ := fc_un (show (2 : Nat) < 100 from by decide) hf
  have f4 : v_iv (n_v vs 7) = v_iv (n_v vs 4) - v_iv (n_v vs 2) := f4
  obtain ⟨f5, hf⟩ := fc_un (show (9 : Nat) < 100 from by decide) hf
  have f5 : n_v vs 4 = w_fd ws (v_ad (n_v vs 0)) 3 := f5
  obtain ⟨f6, hf⟩ := fc_un (show (2 : Nat) < 100 from by decide) hf
  have f6 : v_iv (n_v vs 6) = v_iv (n_v vs 5) - v_iv (n_v vs 2) := f6
  obtain ⟨f7, hf⟩ := fc_un (show (2 : Nat) < 100 from by decide) hf
  have f7 : v_iv (n_v vs 5) = v_iv (n_v vs 4) - v_iv (n_v vs 1) := f7
  have g5 : v_iv (n_v vs 4) = w_fi ws (n_v vs 0) 3 := congrArg v_iv f5
  have kz_0_3 : 0 ≤ w_fi ws (n_v vs 0) 3 ∧ w_fi ws (n_v vs 0) 3 ≤ 24 := tv_rng (th_fd hD hth r0 (g := GG_7) rfl (k := 3) (t := (0, 0, 24, [])) rfl rfl)
  have nf0 : fc_1 (20, [0, 2, 3], [30, 24, 1, 1, 3, -1, 0, 0, 1, 0, 0]) ws (vs) := by
    refine ⟨fun n hn => ?_, ?_⟩
    · have hn : n ∈ [0, 2, 3] := hn
      rw [hl]
      simp only [List.mem_cons, List.not_mem_nil, or_false] at hn
      show n < 10; omega
    · show 1 * w_fi ws (n_v vs 0) 3 + ((-1) * v_iv (n_v vs 2) + (1 * v_iv (n_v vs 3) + 0)) ≤ 24
      omega
  have nf1 : fc_1 (20, [0, 1, 2], [30, 0, -1, 1, 3, 1, 0, 0, 1, 0, 0]) ws (vs) := by
    refine ⟨fun n hn => ?_, ?_⟩
    · have hn : n ∈ [0, 1, 2] := hn
      rw [hl]
      simp only [List.mem_cons, List.not_mem_nil, or_false] at hn
      show n < 10; omega
    · show (-1) * w_fi ws (n_v vs 0) 3 + (1 * v_iv (n_v vs 1) + (1 * v_iv (n_v vs 2) + 0)) ≤ 0
      omega
  refine ⟨(fun _ h => (by cases h)), [], trivial, ?_, (fun _ h => (by cases h))⟩
  rw [List.append_nil]
  exact List.forall_mem_cons.mpr ⟨⟨show (20 : Nat) < 100 from by decide, nf0⟩, List.forall_mem_cons.mpr ⟨⟨show (20 : Nat) < 100 from by decide, nf1⟩, (fun _ h => (by cases h))⟩⟩
def o_Pn_replaceInLine_1 : or_T := (49, 13, [(1, (0, 0, 24, [])), (2, (0, 0, 22, [])), (3, (0, 0, 24, [])), (4, (0, 0, 24, [])), (5, (0, -24, 24, [])), (6, (0, 0, 48, [])), (7, (0, -22, 24, [])), (8, (0, -22, 24, [])), (9, (0, 24, 24, [])), (11, (0, 0, 46, [])), (12, (0, 0, 48, []))], [(1, [12, 1, 3], []), (1, [11, 1, 2], []), (8, [2], [3]), (8, [6], [3]), (7, [8, 9], [5]), (1, [8, 7, 3], []), (2, [7, 4, 2], []), (2, [6, 5, 2], []), (2, [5, 4, 1], [])], [], [], [(21, [11, 6], [24]), (21, [12, 6], [24])], [], [(12, 3, 0, 24), (12, 1, 0, 24), (11, 2, 0, 24), (11, 1, 0, 22), (8, 3, -22, 48), (8, 7, 0, 24), (8, 4, -22, 48), (7, 4, -22, 24), (6, 5, -22, 24), (6, 4, -46, 24), (5, 4, -24, 0)])
theorem oo_Pn_replaceInLine_1 {kA : Nat → ClassId} : or_ok kA GG o_Pn_replaceInLine_1 := by
  intro A ta ws vs hD hth hl hk hds hf
  have hl : vs.length = 13 := hl
  have hk : ∀ q ∈ ([(1, (0, 0, 24, [])), (2, (0, 0, 22, [])), (3, (0, 0, 24, [])), (4, (0, 0, 24, [])), (5, (0, -24, 24, [])), (6, (0, 0, 48, [])), (7, (0, -22, 24, [])), (8, (0, -22, 24, [])), (9, (0, 24, 24, [])), (11, (0, 0, 46, [])), (12, (0, 0, 48, []))] : List (Nat × tv_T)), tv_ok ta q.2 (n_v vs q.1) := hk
  obtain ⟨t1, hk⟩ := List.forall_mem_cons.mp hk
  have t1 : tv_ok ta (0, 0, 24, []) (n_v vs 1) := t1
  have k1 : 0 ≤ v_iv (n_v vs 1) ∧ v_iv (n_v vs 1) ≤ 24 := tv_rng t1
  obtain ⟨t2, hk⟩ := List.forall_mem_cons.mp hk
  have t2 : tv_ok ta (0, 0, 22, []) (n_v vs 2) := t2
  have k2 : 0 ≤ v_iv (n_v vs 2) ∧ v_iv (n_v vs 2) ≤ 22 := tv_rng t2
  obtain ⟨t3, hk⟩ := List.forall_mem_cons.mp hk
  have t3 : tv_ok ta (0, 0, 24, []) (n_v vs 3) := t3
  have k3 : 0 ≤ v_iv (n_v vs 3) ∧ v_iv (n_v vs 3) ≤ 24 := tv_rng t3
  obtain ⟨t4, hk⟩ := List.forall_mem_cons.mp hk
  have t4 : tv_ok ta (0, 0, 24, []) (n_v vs 4) := t4
  have k4 : 0 ≤ v_iv (n_v vs 4) ∧ v_iv (n_v vs 4) ≤ 24 := tv_rng t4
  obtain ⟨t5, hk⟩ := List.forall_mem_cons.mp hk
  have t5 : tv_ok ta (0, -24, 24, []) (n_v vs 5) := t5
  have k5 : (-24) ≤ v_iv (n_v vs 5) ∧ v_iv (n_v vs 5) ≤ 24 := tv_rng t5
  obtain ⟨t6, hk⟩ := List.forall_mem_cons.mp hk
  have t6 : tv_ok ta (0, 0, 48, []) (n_v vs 6) := t6
  have k6 : 0 ≤ v_iv (n_v vs 6) ∧ v_iv (n_v vs 6) ≤ 48 := tv_rng t6
  obtain ⟨t7, hk⟩ := List.forall_mem_cons.mp hk
  have t7 : tv_ok ta (0, -22, 24, []) (n_v vs 7) := t7
  have k7 : (-22) ≤ v_iv (n_v vs 7) ∧ v_iv (n_v vs 7) ≤ 24 := tv_rng t7
  obtain ⟨t8, hk⟩ := List.forall_mem_cons.mp hk
  have t8 : tv_ok ta (0, -22, 24, []) (n_v vs 8) := t8
  have k8 : (-22) ≤ v_iv (n_v vs 8) ∧ v_iv (n_v vs 8) ≤ 24 := tv_rng t8
  obtain ⟨t9, hk⟩ := List.forall_mem_cons.mp hk
  have t9 : tv_ok ta (0, 24, 24, []) (n_v vs 9) := t9
  have k9 : 24 ≤ v_iv (n_v vs 9) ∧ v_iv (n_v vs 9) ≤ 24 := tv_rng t9
  obtain ⟨t11, hk⟩ := List.forall_mem_cons.mp hk
  have t11 : tv_ok ta (0, 0, 46, []) (n_v vs 11) := t11
  have k11 : 0 ≤ v_iv (n_v vs 11) ∧ v_iv (n_v vs 11) ≤ 46 := tv_rng t11
  obtain ⟨t12, hk⟩ := List.forall_mem_cons.mp hk
  have t12 : tv_ok ta (0, 0, 48, []) (n_v vs 12) := t12
  have k12 : 0 ≤ v_iv (n_v vs 12) ∧ v_iv (n_v vs 12) ≤ 48 := tv_rng t12
  have hds : ∀ q ∈ ([(12, 3, 0, 24), (12, 1, 0, 24), (11, 2, 0, 24), (11, 1, 0, 22), (8, 3, -22, 48), (8, 7, 0, 24), (8, 4, -22, 48), (7, 4, -22, 24), (6, 5, -22, 24), (6, 4, -46, 24), (5, 4, -24, 0)] : List of_T), n_iv vs q.2.1 + q.2.2.1 ≤ n_iv vs q.1 ∧ n_iv vs q.1 ≤ n_iv vs q.2.1 + q.2.2.2 := hds
  obtain ⟨d0, hds⟩ := List.forall_mem_cons.mp hds
  have d0 : v_iv (n_v vs 3) + 0 ≤ v_iv (n_v vs 12) ∧ v_iv (n_v vs 12) ≤ v_iv (n_v vs 3) + 24 := d0
  obtain ⟨d1, hds⟩ := List.forall_mem_cons.mp hds
  have d1 : v_iv (n_v vs 1) + 0 ≤ v_iv (n_v vs 12) ∧ v_iv (n_v vs 12) ≤ v_iv (n_v vs 1) + 24 := d1
  obtain ⟨d2, hds⟩ := List.forall_mem_cons.mp hds
  have d2 : v_iv (n_v vs 2) + 0 ≤ v_iv (n_v vs 11) ∧ v_iv (n_v vs 11) ≤ v_iv (n_v vs 2) + 24 := d2
  obtain ⟨d3, hds⟩ := List.forall_mem_cons.mp hds
  have d3 : v_iv (n_v vs 1) + 0 ≤ v_iv (n_v vs 11) ∧ v_iv (n_v vs 11) ≤ v_iv (n_v vs 1) + 22 := d3
  obtain ⟨d4, hds⟩ := List.forall_mem_cons.mp hds
  have d4 : v_iv (n_v vs 3) + (-22) ≤ v_iv (n_v vs 8) ∧ v_iv (n_v vs 8) ≤ v_iv (n_v vs 3) + 48 := d4
  obtain ⟨d5, hds⟩ := List.forall_mem_cons.mp hds
  have d5 : v_iv (n_v vs 7) + 0 ≤ v_iv (n_v vs 8) ∧ v_iv (n_v vs 8) ≤ v_iv (n_v vs 7) + 24 := d5
  obtain ⟨d6, hds⟩ := List.forall_mem_cons.mp hds
  have d6 : v_iv (n_v vs 4) + (-22) ≤ v_iv (n_v vs 8) ∧ v_iv (n_v vs 8) ≤ v_iv (n_v vs 4) + 48 := d6
  obtain ⟨d7, hds⟩ := List.forall_mem_cons.mp hds
  have d7 : v_iv (n_v vs 4) + (-22) ≤ v_iv (n_v vs 7) ∧ v_iv (n_v vs 7) ≤ v_iv (n_v vs 4) + 24 := d7
  obtain ⟨d8, hds⟩ := List.forall_mem_cons.mp hds
  have d8 : v_iv (n_v vs 5) + (-22) ≤ v_iv (n_v vs 6) ∧ v_iv (n_v vs 6) ≤ v_iv (n_v vs 5) + 24 := d8
  obtain ⟨d9, hds⟩ := List.forall_mem_cons.mp hds
  have d9 : v_iv (n_v vs 4) + (-46) ≤ v_iv (n_v vs 6) ∧ v_iv (n_v vs 6) ≤ v_iv (n_v vs 4) + 24 := d9
  obtain ⟨d10, hds⟩ := List.forall_mem_cons.mp hds
  have d10 : v_iv (n_v vs 4) + (-24) ≤ v_iv (n_v vs 5) ∧ v_iv (n_v vs 5) ≤ v_iv (n_v vs 4) + 0 := d10
  have hf : fc_ok [(1, [12, 1, 3], []), (1, [11, 1, 2], []), (8, [2], [3]), (8, [6], [3]), (7, [8, 9], [5]), (1, [8, 7, 3], []), (2, [7, 4, 2], []), (2, [6, 5, 2], []), (2, [5, 4, 1], [])] ta ws vs := hf
  obtain ⟨f0, hf⟩ := fc_un (show (1 : Nat) < 100 from by decide) hf
  have f0 : v_iv (n_v vs 12) = v_iv (n_v vs 1) + v_iv (n_v vs 3) := f0
  obtain ⟨f1, hf⟩ := fc_un (show (1 : Nat) < 100 from by decide) hf
  have f1 : v_iv (n_v vs 11) = v_iv (n_v vs 1) + v_iv (n_v vs 2) := f1
  obtain ⟨f2, hf⟩ := fc_un (show (8 : Nat) < 100 from by decide) hf
  have f2 : 0 ≤ v_iv (n_v vs 2) := f2
  obtain ⟨f3, hf⟩ := fc_un (show (8 : Nat) < 100 from by decide) hf
  have f3 : 0 ≤ v_iv (n_v vs 6) := f3
  obtain ⟨f4, hf⟩ := fc_un (show (7 : Nat) < 100 from by decide) hf
  have f4 : v_iv (n_v vs 8) ≤ v_iv (n_v vs 9) := f4
  obtain ⟨f5, hf⟩ := fc_un (show (1 : Nat) < 100 from by decide) hf
  have f5 : v_iv (n_v vs 8) = v_iv (n_v vs 7) + v_iv (n_v vs 3) := f5
  obtain ⟨f6, hf⟩ := fc_un (show (2 : Nat) < 100 from by decide) hf
  have f6 : v_iv (n_v vs 7) = v_iv (n_v vs 4) - v_iv (n_v vs 2) := f6
  obtain ⟨f7, hf⟩ := fc_un (show (2 : Nat) < 100 from by decide) hf
  have f7 : v_iv (n_v vs 6) = v_iv (n_v vs 5) - v_iv (n_v vs 2) := f7
  obtain ⟨f8, hf⟩ := fc_un (show (2 : Nat) < 100 from by decide) hf
  have f8 : v_iv (n_v vs 5) = v_iv (n_v vs 4) - v_iv (n_v vs 1) := f8
  have nf0 : fc_1 (21, [11, 6], [24]) ws (vs) := by
    refine ⟨fun n hn => ?_, ?_⟩
    · have hn : n ∈ [11, 6] := hn
      rw [hl]
      simp only [List.mem_cons, List.not_mem_nil, or_false] at hn
      show n < 13; omega
    · show v_iv (n_v vs 11) + v_iv (n_v vs 6) ≤ 24
      omega
  have nf1 : fc_1 (21, [12, 6], [24]) ws (vs) := by
    refine ⟨fun n hn => ?_, ?_⟩
    · have hn : n ∈ [12, 6] := hn
      rw [hl]
      simp only [List.mem_cons, List.not_mem_nil, or_false] at hn
      show n < 13; omega
    · show v_iv (n_v vs 12) + v_iv (n_v vs 6) ≤ 24
      omega
  refine ⟨(fun _ h => (by cases h)), [], trivial, ?_, (fun _ h => (by cases h))⟩
  rw [List.append_nil]
  exact List.forall_mem_cons.mpr ⟨⟨show (21 : Nat) < 100 from by decide, nf0⟩, List.forall_mem_cons.mpr ⟨⟨show (21 : Nat) < 100 from by decide, nf1⟩, (fun _ h => (by cases h))⟩⟩
def o_Pn_replaceInLine_2 : or_T := (63, 15, [(1, (0, 0, 24, [])), (2, (0, 0, 22, [])), (3, (0, 0, 24, [])), (4, (0, 0, 24, [])), (5, (0, -24, 24, [])), (6, (0, 0, 48, [])), (7, (0, -22, 24, [])), (8, (0, -22, 24, [])), (9, (0, 24, 24, [])), (11, (0, 0, 46, [])), (12, (0, 0, 48, [])), (14, (0, 0, 0, []))], [(21, [11, 6], [24]), (21, [12, 6], [24]), (102, [12], [10141204801825835211973625643008]), (21, [11, 6], [24]), (21, [12, 6], [24]), (1, [12, 1, 3], []), (1, [11, 1, 2], []), (8, [2], [3]), (8, [6], [3]), (7, [8, 9], [5]), (1, [8, 7, 3], []), (2, [7, 4, 2], []), (2, [6, 5, 2], []), (2, [5, 4, 1], [])], [], [], [(21, [14, 3], [27]), (21, [1, 3], [24])], [], [(12, 3, 0, 24), (12, 1, 0, 24), (11, 2, 0, 24), (11, 1, 0, 22), (8, 3, -22, 48), (8, 7, 0, 24), (8, 4, -22, 48), (7, 4, -22, 24), (6, 5, -22, 24), (6, 4, -46, 24), (5, 4, -24, 0)])
theorem oo_Pn_replaceInLine_2 {kA : Nat → ClassId} : or_ok kA GG o_Pn_replaceInLine_2 := by
  intro A ta ws vs hD hth hl hk hds hf
  have hl : vs.length = 15 := hl
  have hk : ∀ q ∈ ([(1, (0, 0, 24, [])), (2, (0, 0, 22, [])), (3, (0, 0, 24, [])), (4, (0, 0, 24, [])), (5, (0, -24, 24, [])), (6, (0, 0, 48, [])), (7, (0, -22, 24, [])), (8, (0, -22, 24, [])), (9, (0, 24, 24, [])), (11, (0, 0, 46, [])), (12, (0, 0, 48, [])), (14, (0, 0, 0, []))] : List (Nat × tv_T)), tv_ok ta q.2 (n_v vs q.1) := hk
  obtain ⟨t1, hk⟩ := List.forall_mem_cons.mp hk
  have t1 : tv_ok ta (0, 0, 24, []) (n_v vs 1) := t1
  have k1 : 0 ≤ v_iv (n_v vs 1) ∧ v_iv (n_v vs 1) ≤ 24 := tv_rng t1
  obtain ⟨t2, hk⟩ := List.forall_mem_cons.mp hk
  have t2 : tv_ok ta (0, 0, 22, []) (n_v vs 2) := t2
  have k2 : 0 ≤ v_iv (n_v vs 2) ∧ v_iv (n_v vs 2) ≤ 22 := tv_rng t2
  obtain ⟨t3, hk⟩ := List.forall_mem_cons.mp hk
  have t3 : tv_ok ta (0, 0, 24, []) (n_v vs 3) := t3
  have k3 : 0 ≤ v_iv (n_v vs 3) ∧ v_iv (n_v vs 3) ≤ 24 := tv_rng t3
  obtain ⟨t4, hk⟩ := List.forall_mem_cons.mp hk
  have t4 : tv_ok ta (0, 0, 24, []) (n_v vs 4) := t4
  have k4 : 0 ≤ v_iv (n_v vs 4) ∧ v_iv (n_v vs 4) ≤ 24 := tv_rng t4
  obtain ⟨t5, hk⟩ := List.forall_mem_cons.mp hk
  have t5 : tv_ok ta (0, -24, 24, []) (n_v vs 5) := t5
  have k5 : (-24) ≤ v_iv (n_v vs 5) ∧ v_iv (n_v vs 5) ≤ 24 := tv_rng t5
  obtain ⟨t6, hk⟩ := List.forall_mem_cons.mp hk
  have t6 : tv_ok ta (0, 0, 48, []) (n_v vs 6) := t6
  have k6 : 0 ≤ v_iv (n_v vs 6) ∧ v_iv (n_v vs 6) ≤ 48 := tv_rng t6
  obtain ⟨t7, hk⟩ := List.forall_mem_cons.mp hk
  have t7 : tv_ok ta (0, -22, 24, []) (n_v vs 7) := t7
  have k7 : (-22) ≤ v_iv (n_v vs 7) ∧ v_iv (n_v vs 7) ≤ 24 := tv_rng t7
  obtain ⟨t8, hk⟩ := List.forall_mem_cons.mp hk
  have t8 : tv_ok ta (0, -22, 24, []) (n_v vs 8) := t8
  have k8 : (-22) ≤ v_iv (n_v vs 8) ∧ v_iv (n_v vs 8) ≤ 24 := tv_rng t8
  obtain ⟨t9, hk⟩ := List.forall_mem_cons.mp hk
  have t9 : tv_ok ta (0, 24, 24, []) (n_v vs 9) := t9
  have k9 : 24 ≤ v_iv (n_v vs 9) ∧ v_iv (n_v vs 9) ≤ 24 := tv_rng t9
  obtain ⟨t11, hk⟩ := List.forall_mem_cons.mp hk
  have t11 : tv_ok ta (0, 0, 46, []) (n_v vs 11) := t11
  have k11 : 0 ≤ v_iv (n_v vs 11) ∧ v_iv (n_v vs 11) ≤ 46 := tv_rng t11
  obtain ⟨t12, hk⟩ := List.forall_mem_cons.mp hk
  have t12 : tv_ok ta (0, 0, 48, []) (n_v vs 12) := t12
  have k12 : 0 ≤ v_iv (n_v vs 12) ∧ v_iv (n_v vs 12) ≤ 48 := tv_rng t12
  obtain ⟨t14, hk⟩ := List.forall_mem_cons.mp hk
  have t14 : tv_ok ta (0, 0, 0, []) (n_v vs 14) := t14
  have k14 : 0 ≤ v_iv (n_v vs 14) ∧ v_iv (n_v vs 14) ≤ 0 := tv_rng t14
  have hds : ∀ q ∈ ([(12, 3, 0, 24), (12, 1, 0, 24), (11, 2, 0, 24), (11, 1, 0, 22), (8, 3, -22, 48), (8, 7, 0, 24), (8, 4, -22, 48), (7, 4, -22, 24), (6, 5, -22, 24), (6, 4, -46, 24), (5, 4, -24, 0)] : List of_T), n_iv vs q.2.1 + q.2.2.1 ≤ n_iv vs q.1 ∧ n_iv vs q.1 ≤ n_iv vs q.2.1 + q.2.2.2 := hds
  obtain ⟨d0, hds⟩ := List.forall_mem_cons.mp hds
  have d0 : v_iv (n_v vs 3) + 0 ≤ v_iv (n_v vs 12) ∧ v_iv (n_v vs 12) ≤ v_iv (n_v vs 3) + 24 := d0
  obtain ⟨d1, hds⟩ := List.forall_mem_cons.mp hds
  have d1 : v_iv (n_v vs 1) + 0 ≤ v_iv (n_v vs 12) ∧ v_iv (n_v vs 12) ≤ v_iv (n_v vs 1) + 24 := d1
  obtain ⟨d2, hds⟩ := List.forall_mem_cons.mp hds
  have d2 : v_iv (n_v vs 2) + 0 ≤ v_iv (n_v vs 11) ∧ v_iv (n_v vs 11) ≤ v_iv (n_v vs 2) + 24 := d2
  obtain ⟨d3, hds⟩ := List.forall_mem_cons.mp hds
  have d3 : v_iv (n_v vs 1) + 0 ≤ v_iv (n_v vs 11) ∧ v_iv (n_v vs 11) ≤ v_iv (n_v vs 1) + 22 := d3
  obtain ⟨d4, hds⟩ := List.forall_mem_cons.mp hds
  have d4 : v_iv (n_v vs 3) + (-22) ≤ v_iv (n_v vs 8) ∧ v_iv (n_v vs 8) ≤ v_iv (n_v vs 3) + 48 := d4
  obtain ⟨d5, hds⟩ := List.forall_mem_cons.mp hds
  have d5 : v_iv (n_v vs 7) + 0 ≤ v_iv (n_v vs 8) ∧ v_iv (n_v vs 8) ≤ v_iv (n_v vs 7) + 24 := d5
  obtain ⟨d6, hds⟩ := List.forall_mem_cons.mp hds
  have d6 : v_iv (n_v vs 4) + (-22) ≤ v_iv (n_v vs 8) ∧ v_iv (n_v vs 8) ≤ v_iv (n_v vs 4) + 48 := d6
  obtain ⟨d7, hds⟩ := List.forall_mem_cons.mp hds
  have d7 : v_iv (n_v vs 4) + (-22) ≤ v_iv (n_v vs 7) ∧ v_iv (n_v vs 7) ≤ v_iv (n_v vs 4) + 24 := d7
  obtain ⟨d8, hds⟩ := List.forall_mem_cons.mp hds
  have d8 : v_iv (n_v vs 5) + (-22) ≤ v_iv (n_v vs 6) ∧ v_iv (n_v vs 6) ≤ v_iv (n_v vs 5) + 24 := d8
  obtain ⟨d9, hds⟩ := List.forall_mem_cons.mp hds
  have d9 : v_iv (n_v vs 4) + (-46) ≤ v_iv (n_v vs 6) ∧ v_iv (n_v vs 6) ≤ v_iv (n_v vs 4) + 24 := d9
  obtain ⟨d10, hds⟩ := List.forall_mem_cons.mp hds
  have d10 : v_iv (n_v vs 4) + (-24) ≤ v_iv (n_v vs 5) ∧ v_iv (n_v vs 5) ≤ v_iv (n_v vs 4) + 0 := d10
  have hf : fc_ok [(21, [11, 6], [24]), (21, [12, 6], [24]), (102, [12], [10141204801825835211973625643008]), (21, [11, 6], [24]), (21, [12, 6], [24]), (1, [12, 1, 3], []), (1, [11, 1, 2], []), (8, [2], [3]), (8, [6], [3]), (7, [8, 9], [5]), (1, [8, 7, 3], []), (2, [7, 4, 2], []), (2, [6, 5, 2], []), (2, [5, 4, 1], [])] ta ws vs := hf
  obtain ⟨f0, hf⟩ := fc_un (show (21 : Nat) < 100 from by decide) hf
  have f0 : v_iv (n_v vs 11) + v_iv (n_v vs 6) ≤ 24 := f0
  obtain ⟨f1, hf⟩ := fc_un (show (21 : Nat) < 100 from by decide) hf
  have f1 : v_iv (n_v vs 12) + v_iv (n_v vs 6) ≤ 24 := f1
  obtain ⟨ta1, w1, le1, ⟨_, s1⟩, hf⟩ := fc_us (show ¬ (102 : Nat) < 100 from by decide) hf
  obtain ⟨f3, hf⟩ := fc_un (show (21 : Nat) < 100 from by decide) hf
  have f3 : v_iv (n_v vs 11) + v_iv (n_v vs 6) ≤ 24 := f3
  obtain ⟨f4, hf⟩ := fc_un (show (21 : Nat) < 100 from by decide) hf
  have f4 : v_iv (n_v vs 12) + v_iv (n_v vs 6) ≤ 24 := f4
  obtain ⟨f5, hf⟩ := fc_un (show (1 : Nat) < 100 from by decide) hf
  have f5 : v_iv (n_v vs 12) = v_iv (n_v vs 1) + v_iv (n_v vs 3) := f5
  obtain ⟨f6, hf⟩ := fc_un (show (1 : Nat) < 100 from by decide) hf
  have f6 : v_iv (n_v vs 11) = v_iv (n_v vs 1) + v_iv (n_v vs 2) := f6
  obtain ⟨f7, hf⟩ := fc_un (show (8 : Nat) < 100 from by decide) hf
  have f7 : 0 ≤ v_iv (n_v vs 2) := f7
  obtain ⟨f8, hf⟩ := fc_un (show (8 : Nat) < 100 from by decide) hf
  have f8 : 0 ≤ v_iv (n_v vs 6) := f8
  obtain ⟨f9, hf⟩ := fc_un (show (7 : Nat) < 100 from by decide) hf
  have f9 : v_iv (n_v vs 8) ≤ v_iv (n_v vs 9) := f9
  obtain ⟨f10, hf⟩ := fc_un (show (1 : Nat) < 100 from by decide) hf
  have f10 : v_iv (n_v vs 8) = v_iv (n_v vs 7) + v_iv (n_v vs 3) := f10
  obtain ⟨f11, hf⟩ := fc_un (show (2 : Nat) < 100 from by decide) hf
  have f11 : v_iv (n_v vs 7) = v_iv (n_v vs 4) - v_iv (n_v vs 2) := f11
  obtain ⟨f12, hf⟩ := fc_un (show (2 : Nat) < 100 from by decide) hf
  have f12 : v_iv (n_v vs 6) = v_iv (n_v vs 5) - v_iv (n_v vs 2) := f12
  obtain ⟨f13, hf⟩ := fc_un (show (2 : Nat) < 100 from by decide) hf
  have f13 : v_iv (n_v vs 5) = v_iv (n_v vs 4) - v_iv (n_v vs 1) := f13
  have nf0 : fc_1 (21, [14, 3], [27]) ws (vs) := by
    refine ⟨fun n hn => ?_, ?_⟩
    · have hn : n ∈ [14, 3] := hn
      rw [hl]
      simp only [List.mem_cons, List.not_mem_nil, or_false] at hn
      show n < 15; omega
    · show v_iv (n_v vs 14) + v_iv (n_v vs 3) ≤ 27
      omega
  have nf1 : fc_1 (21, [1, 3], [24]) ws (vs) := by
    refine ⟨fun n hn => ?_, ?_⟩
    · have hn : n ∈ [1, 3] := hn
      rw [hl]
      simp only [List.mem_cons, List.not_mem_nil, or_false] at hn
      show n < 15; omega
    · show v_iv (n_v vs 1) + v_iv (n_v vs 3) ≤ 24
      omega
  refine ⟨(fun _ h => (by cases h)), [], trivial, ?_, (fun _ h => (by cases h))⟩
  rw [List.append_nil]
  exact List.forall_mem_cons.mpr ⟨⟨show (21 : Nat) < 100 from by decide, nf0⟩, List.forall_mem_cons.mpr ⟨⟨show (21 : Nat) < 100 from by decide, nf1⟩, (fun _ h => (by cases h))⟩⟩
def o_Pn_replaceInLine_3 : or_T := (75, 17, [(1, (0, 0, 24, [])), (2, (0, 0, 22, [])), (3, (0, 0, 24, [])), (4, (0, 0, 24, [])), (5, (0, -24, 24, [])), (6, (0, 0, 48, [])), (7, (0, -22, 24, [])), (8, (0, -22, 24, [])), (9, (0, 24, 24, [])), (11, (0, 0, 46, [])), (12, (0, 0, 48, [])), (14, (0, 0, 0, [])), (15, (0, -22, 24, [])), (16, (0, -22, 48, []))], [(1, [16, 4, 15], []), (2, [15, 3, 2], []), (21, [14, 3], [27]), (21, [1, 3], [24]), (21, [11, 6], [24]), (21, [12, 6], [24]), (102, [14], [10141204801825835211973625643008]), (21, [14, 3], [27]), (21, [1, 3], [24]), (21, [11, 6], [24]), (21, [12, 6], [24]), (102, [12], [10141204801825835211973625643008]), (21, [11, 6], [24]), (21, [12, 6], [24]), (1, [12, 1, 3], []), (1, [11, 1, 2], []), (8, [2], [3]), (8, [6], [3]), (7, [8, 9], [5]), (1, [8, 7, 3], []), (2, [7, 4, 2], []), (2, [6, 5, 2], []), (2, [5, 4, 1], [])], [(16, (0, 0, 24, []))], [], [], [], [(16, 15, 0, 24), (16, 3, -22, 24), (16, 4, -22, 24), (15, 3, -22, 0), (12, 3, 0, 24), (12, 1, 0, 24), (11, 2, 0, 24), (11, 1, 0, 22), (8, 3, -22, 48), (8, 7, 0, 24), (8, 4, -22, 48), (7, 4, -22, 24), (6, 5, -22, 24), (6, 4, -46, 24), (5, 4, -24, 0)])
theorem oo_Pn_replaceInLine_3 {kA : Nat → ClassId} : or_ok kA GG o_Pn_replaceInLine_3 := by
  intro A ta ws vs hD hth hl hk hds hf
  have hl : vs.length = 17 := hl
  have hk : ∀ q ∈ ([(1, (0, 0, 24, [])), (2, (0, 0, 22, [])), (3, (0, 0, 24, [])), (4, (0, 0, 24, [])), (5, (0, -24, 24, [])), (6, (0, 0, 48, [])), (7, (0, -22, 24, [])), (8, (0, -22, 24, [])), (9, (0, 24, 24, [])), (11, (0, 0, 46, [])), (12, (0, 0, 48, [])), (14, (0, 0, 0, [])), (15, (0, -22, 24, [])), (16, (0, -22, 48, []))] : List (Nat × tv_T)), tv_ok ta q.2 (n_v vs q.1) := hk
  obtain ⟨t1, hk⟩ := List.forall_mem_cons.mp hk
  have t1 : tv_ok ta (0, 0, 24, []) (n_v vs 1) := t1
  have k1 : 0 ≤ v_iv (n_v vs 1) ∧ v_iv (n_v vs 1) ≤ 24 := tv_rng t1
  obtain ⟨t2, hk⟩ := List.forall_mem_cons.mp hk
  have t2 : tv_ok ta (0, 0, 22, []) (n_v vs 2) := t2
  have k2 : 0 ≤ v_iv (n_v vs 2) ∧ v_iv (n_v vs 2) ≤ 22 := tv_rng t2
  obtain ⟨t3, hk⟩ := List.forall_mem_cons.mp hk
  have t3 : tv_ok ta (0, 0, 24, []) (n_v vs 3) := t3
  have k3 : 0 ≤ v_iv (n_v vs 3) ∧ v_iv (n_v vs 3) ≤ 24 := tv_rng t3
  obtain ⟨t4, hk⟩ := List.forall_mem_cons.mp hk
  have t4 : tv_ok ta (0, 0, 24, []) (n_v vs 4) := t4
  have k4 : 0 ≤ v_iv (n_v vs 4) ∧ v_iv (n_v vs 4) ≤ 24 := tv_rng t4
  obtain ⟨t5, hk⟩ := List.forall_mem_cons.mp hk
  have t5 : tv_ok ta (0, -24, 24, []) (n_v vs 5) := t5
  have k5 : (-24) ≤ v_iv (n_v vs 5) ∧ v_iv (n_v vs 5) ≤ 24 := tv_rng t5
  obtain ⟨t6, hk⟩ := List.forall_mem_cons.mp hk
  have t6 : tv_ok ta (0, 0, 48, []) (n_v vs 6) := t6
  have k6 : 0 ≤ v_iv (n_v vs 6) ∧ v_iv (n_v vs 6) ≤ 48 := tv_rng t6
  obtain ⟨t7, hk⟩ := List.forall_mem_cons.mp hk
  have t7 : tv_ok ta (0, -22, 24, []) (n_v vs 7) := t7
  have k7 : (-22) ≤ v_iv (n_v vs 7) ∧ v_iv (n_v vs 7) ≤ 24 := tv_rng t7
  obtain ⟨t8, hk⟩ := List.forall_mem_cons.mp hk
  have t8 : tv_ok ta (0, -22, 24, []) (n_v vs 8) := t8
  have k8 : (-22) ≤ v_iv (n_v vs 8) ∧ v_iv (n_v vs 8) ≤ 24 := tv_rng t8
  obtain ⟨t9, hk⟩ := List.forall_mem_cons.mp hk
  have t9 : tv_ok ta (0, 24, 24, []) (n_v vs 9) := t9
  have k9 : 24 ≤ v_iv (n_v vs 9) ∧ v_iv (n_v vs 9) ≤ 24 := tv_rng t9
  obtain ⟨t11, hk⟩ := List.forall_mem_cons.mp hk
  have t11 : tv_ok ta (0, 0, 46, []) (n_v vs 11) := t11
  have k11 : 0 ≤ v_iv (n_v vs 11) ∧ v_iv (n_v vs 11) ≤ 46 := tv_rng t11
  obtain ⟨t12, hk⟩ := List.forall_mem_cons.mp hk
  have t12 : tv_ok ta (0, 0, 48, []) (n_v vs 12) := t12
  have k12 : 0 ≤ v_iv (n_v vs 12) ∧ v_iv (n_v vs 12) ≤ 48 := tv_rng t12
  obtain ⟨t14, hk⟩ := List.forall_mem_cons.mp hk
  have t14 : tv_ok ta (0, 0, 0, []) (n_v vs 14) := t14
  have k14 : 0 ≤ v_iv (n_v vs 14) ∧ v_iv (n_v vs 14) ≤ 0 := tv_rng t14
  obtain ⟨t15, hk⟩ := List.forall_mem_cons.mp hk
  have t15 : tv_ok ta (0, -22, 24, []) (n_v vs 15) := t15
  have k15 : (-22) ≤ v_iv (n_v vs 15) ∧ v_iv (n_v vs 15) ≤ 24 := tv_rng t15
  obtain ⟨t16, hk⟩ := List.forall_mem_cons.mp hk
  have t16 : tv_ok ta (0, -22, 48, []) (n_v vs 16) := t16
  have k16 : (-22) ≤ v_iv (n_v vs 16) ∧ v_iv (n_v vs 16) ≤ 48 := tv_rng t16
  have hds : ∀ q ∈ ([(16, 15, 0, 24), (16, 3, -22, 24), (16, 4, -22, 24), (15, 3, -22, 0), (12, 3, 0, 24), (12, 1, 0, 24), (11, 2, 0, 24), (11, 1, 0, 22), (8, 3, -22, 48), (8, 7, 0, 24), (8, 4, -22, 48), (7, 4, -22, 24), (6, 5, -22, 24), (6, 4, -46, 24), (5, 4, -24, 0)] : List of_T), n_iv vs q.2.1 + q.2.2.1 ≤ n_iv vs q.1 ∧ n_iv vs q.1 ≤ n_iv vs q.2.1 + q.2.2.2 := hds
  obtain ⟨d0, hds⟩ := List.forall_mem_cons.mp hds
  have d0 : v_iv (n_v vs 15) + 0 ≤ v_iv (n_v vs 16) ∧ v_iv (n_v vs 16) ≤ v_iv (n_v vs 15) + 24 := d0
  obtain ⟨d1, hds⟩ := List.forall_mem_cons.mp hds
  have d1 : v_iv (n_v vs 3) + (-22) ≤ v_iv (n_v vs 16) ∧ v_iv (n_v vs 16) ≤ v_iv (n_v vs 3) + 24 := d1
  obtain ⟨d2, hds⟩ := List.forall_mem_cons.mp hds
  have d2 : v_iv (n_v vs 4) + (-22) ≤ v_iv (n_v vs 16) ∧ v_iv (n_v vs 16) ≤ v_iv (n_v vs 4) + 24 := d2
  obtain ⟨d3, hds⟩ := List.forall_mem_cons.mp hds
  have d3 : v_iv (n_v vs 3) + (-22) ≤ v_iv (n_v vs 15) ∧ v_iv (n_v vs 15) ≤ v_iv (n_v vs 3) + 0 := d3
  obtain ⟨d4, hds⟩ := List.forall_mem_cons.mp hds
  have d4 : v_iv (n_v vs 3) + 0 ≤ v_iv (n_v vs 12) ∧ v_iv (n_v vs 12) ≤ v_iv (n_v vs 3) + 24 := d4
  obtain ⟨d5, hds⟩ := List.forall_mem_cons.mp hds
  have d5 : v_iv (n_v vs 1) + 0 ≤ v_iv (n_v vs 12) ∧ v_iv (n_v vs 12) ≤ v_iv (n_v vs 1) + 24 := d5
  obtain ⟨d6, hds⟩ := List.forall_mem_cons.mp hds
  have d6 : v_iv (n_v vs 2) + 0 ≤ v_iv (n_v vs 11) ∧ v_iv (n_v vs 11) ≤ v_iv (n_v vs 2) + 24 := d6
  obtain ⟨d7, hds⟩ := List.forall_mem_cons.mp hds
  have d7 : v_iv (n_v vs 1) + 0 ≤ v_iv (n_v vs 11) ∧ v_iv (n_v vs 11) ≤ v_iv (n_v vs 1) + 22 := d7
  obtain ⟨d8, hds⟩ := List.forall_mem_cons.mp hds
  have d8 : v_iv (n_v vs 3) + (-22) ≤ v_iv (n_v vs 8) ∧ v_iv (n_v vs 8) ≤ v_iv (n_v vs 3) + 48 := d8
  obtain ⟨d9, hds⟩ := List.forall_mem_cons.mp hds
  have d9 : v_iv (n_v vs 7) + 0 ≤ v_iv (n_v vs 8) ∧ v_iv (n_v vs 8) ≤ v_iv (n_v vs 7) + 24 := d9
  obtain ⟨d10, hds⟩ := List.forall_mem_cons.mp hds
  have d10 : v_iv (n_v vs 4) + (-22) ≤ v_iv (n_v vs 8) ∧ v_iv (n_v vs 8) ≤ v_iv (n_v vs 4) + 48 := d10
  obtain ⟨d11, hds⟩ := List.forall_mem_cons.mp hds
  have d11 : v_iv (n_v vs 4) + (-22) ≤ v_iv (n_v vs 7) ∧ v_iv (n_v vs 7) ≤ v_iv (n_v vs 4) + 24 := d11
  obtain ⟨d12, hds⟩ := List.forall_mem_cons.mp hds
  have d12 : v_iv (n_v vs 5) + (-22) ≤ v_iv (n_v vs 6) ∧ v_iv (n_v vs 6) ≤ v_iv (n_v vs 5) + 24 := d12
  obtain ⟨d13, hds⟩ := List.forall_mem_cons.mp hds
  have d13 : v_iv (n_v vs 4) + (-46) ≤ v_iv (n_v vs 6) ∧ v_iv (n_v vs 6) ≤ v_iv (n_v vs 4) + 24 := d13
  obtain ⟨d14, hds⟩ := List.forall_mem_cons.mp hds
  have d14 : v_iv (n_v vs 4) + (-24) ≤ v_iv (n_v vs 5) ∧ v_iv (n_v vs 5) ≤ v_iv (n_v vs 4) + 0 := d14
  have hf : fc_ok [(1, [16, 4, 15], []), (2, [15, 3, 2], []), (21, [14, 3], [27]), (21, [1, 3], [24]), (21, [11, 6], [24]), (21, [12, 6], [24]), (102, [14], [10141204801825835211973625643008]), (21, [14, 3], [27]), (21, [1, 3], [24]), (21, [11, 6], [24]), (21, [12, 6], [24]), (102, [12], [10141204801825835211973625643008]), (21, [11, 6], [24]), (21, [12, 6], [24]), (1, [12, 1, 3], []), (1, [11, 1, 2], []), (8, [2], [3]), (8, [6], [3]), (7, [8, 9], [5]), (1, [8, 7, 3], []), (2, [7, 4, 2], []), (2, [6, 5, 2], []), (2, [5, 4, 1], [])] ta ws vs := hf
  obtain ⟨f0, hf⟩ := fc_un (show (1 : Nat) < 100 from by decide) hf
  have f0 : v_iv (n_v vs 16) = v_iv (n_v vs 4) + v_iv (n_v vs 15) := f0
  obtain ⟨f1, hf⟩ := fc_un (show (2 : Nat) < 100 from by decide) hf
  have f1 : v_iv (n_v vs 15) = v_iv (n_v vs 3) - v_iv (n_v vs 2) := f1
  obtain ⟨f2, hf⟩ := fc_un (show (21 : Nat) < 100 from by decide) hf
  have f2 : v_iv (n_v vs 14) + v_iv (n_v vs 3) ≤ 27 := f2
  obtain ⟨f3, hf⟩ := fc_un (show (21 : Nat) < 100 from by decide) hf
  have f3 : v_iv (n_v vs 1) + v_iv (n_v vs 3) ≤ 24 := f3
  obtain ⟨f4, hf⟩ := fc_un (show (21 : Nat) < 100 from by decide) hf
  have f4 : v_iv (n_v vs 11) + v_iv (n_v vs 6) ≤ 24 := f4
  obtain ⟨f5, hf⟩ := fc_un (show (21 : Nat) < 100 from by decide) hf
  have f5 : v_iv (n_v vs 12) + v_iv (n_v vs 6) ≤ 24 := f5
  obtain ⟨ta1, w1, le1, ⟨_, s1⟩, hf⟩ := fc_us (show ¬ (102 : Nat) < 100 from by decide) hf
  obtain ⟨f7, hf⟩ := fc_un (show (21 : Nat) < 100 from by decide) hf
  have f7 : v_iv (n_v vs 14) + v_iv (n_v vs 3) ≤ 27 := f7
  obtain ⟨f8, hf⟩ := fc_un (show (21 : Nat) < 100 from by decide) hf
  have f8 : v_iv (n_v vs 1) + v_iv (n_v vs 3) ≤ 24 := f8
  obtain ⟨f9, hf⟩ := fc_un (show (21 : Nat) < 100 from by decide) hf
  have f9 : v_iv (n_v vs 11) + v_iv (n_v vs 6) ≤ 24 := f9
  obtain ⟨f10, hf⟩ := fc_un (show (21 : Nat) < 100 from by decide) hf
  have f10 : v_iv (n_v vs 12) + v_iv (n_v vs 6) ≤ 24 := f10
  obtain ⟨ta2, w2, le2, ⟨_, s2⟩, hf⟩ := fc_us (show ¬ (102 : Nat) < 100 from by decide) hf
  obtain ⟨f12, hf⟩ := fc_un (show (21 : Nat) < 100 from by decide) hf
  have f12 : v_iv (n_v vs 11) + v_iv (n_v vs 6) ≤ 24 := f12
  obtain ⟨f13, hf⟩ := fc_un (show (21 : Nat) < 100 from by decide) hf
  have f13 : v_iv (n_v vs 12) + v_iv (n_v vs 6) ≤ 24 := f13
  obtain ⟨f14, hf⟩ := fc_un (show (1 : Nat) < 100 from by decide) hf
  have f14 : v_iv (n_v vs 12) = v_iv (n_v vs 1) + v_iv (n_v vs 3) := f14
  obtain ⟨f15, hf⟩ := fc_un (show (1 : Nat) < 100 from by decide) hf
  have f15 : v_iv (n_v vs 11) = v_iv (n_v vs 1) + v_iv (n_v vs 2) := f15
  obtain ⟨f16, hf⟩ := fc_un (show (8 : Nat) < 100 from by decide) hf
  have f16 : 0 ≤ v_iv (n_v vs 2) := f16
  obtain ⟨f17, hf⟩ := fc_un (show (8 : Nat) < 100 from by decide) hf
  have f17 : 0 ≤ v_iv (n_v vs 6) := f17
  obtain ⟨f18, hf⟩ := fc_un (show (7 : Nat) < 100 from by decide) hf
  have f18 : v_iv (n_v vs 8) ≤ v_iv (n_v vs 9) := f18
  obtain ⟨f19, hf⟩ := fc_un (show (1 : Nat) < 100 from by decide) hf
  have f19 : v_iv (n_v vs 8) = v_iv (n_v vs 7) + v_iv (n_v vs 3) := f19
  obtain ⟨f20, hf⟩ := fc_un (show (2 : Nat) < 100 from by decide) hf
  have f20 : v_iv (n_v vs 7) = v_iv (n_v vs 4) - v_iv (n_v vs 2) := f20
  obtain ⟨f21, hf⟩ := fc_un (show (2 : Nat) < 100 from by decide) hf
  have f21 : v_iv (n_v vs 6) = v_iv (n_v vs 5) - v_iv (n_v vs 2) := f21
  obtain ⟨f22, hf⟩ := fc_un (show (2 : Nat) < 100 from by decide) hf
  have f22 : v_iv (n_v vs 5) = v_iv (n_v vs 4) - v_iv (n_v vs 1) := f22
  have rf16 : tv_ok ta (0, 0, 24, []) (n_v vs 16) := tv_in t16 (by omega) (by omega)
  refine ⟨List.forall_mem_cons.mpr ⟨rf16, (fun _ h => (by cases h))⟩, [], trivial, ?_, (fun _ h => (by cases h))⟩
  rw [List.append_nil]
  exact (fun _ h => (by cases h))
def n_Pn_replaceInLine_an : List an_T := []
def t_Pn_replaceInLine_ct : ct_L := [(150, 171, e_acp_6), (192, 171, e_acp_7)]
set_option maxRecDepth 100000 in
theorem c_Pn_replaceInLine {l : Launch} {D : va_G} {kA : Nat → ClassId} : ct_ok l D kA GG y_Pn_replaceInLine z_Pn_replaceInLine e_Pn_replaceInLine := chk_all_ok (FT := [(22, 7, 2), (25, 7, 3), (35, 7, 6)]) (PT := [(25, 7, 3, .int)]) (CT := t_Pn_replaceInLine_ct) (KT := []) (NT := []) (AN := n_Pn_replaceInLine_an) (OT := [o_Pn_replaceInLine_0, o_Pn_replaceInLine_1, o_Pn_replaceInLine_2, o_Pn_replaceInLine_3]) 0 204 (List.forall_mem_cons.mpr ⟨oo_Pn_replaceInLine_0, List.forall_mem_cons.mpr ⟨oo_Pn_replaceInLine_1, List.forall_mem_cons.mpr ⟨oo_Pn_replaceInLine_2, List.forall_mem_cons.mpr ⟨oo_Pn_replaceInLine_3, List.forall_mem_nil _⟩⟩⟩⟩) (by decide +kernel) ⟨List.forall_mem_cons.mpr ⟨gf_Pn_22, List.forall_mem_cons.mpr ⟨gf_Pn_25, List.forall_mem_cons.mpr ⟨gf_Pn_35, List.forall_mem_nil _⟩⟩⟩, List.forall_mem_cons.mpr ⟨pf_Pn_25, List.forall_mem_nil _⟩, List.forall_mem_cons.mpr ⟨cl_copy rfl rfl (by decide) (by decide) (by decide) wm_1565 wm_750 wm_749 wm_15, List.forall_mem_cons.mpr ⟨cl_copy rfl rfl (by decide) (by decide) (by decide) wm_1565 wm_750 wm_749 wm_15, List.forall_mem_nil _⟩⟩, List.forall_mem_nil _, List.forall_mem_nil _, GG_pl⟩ (by decide +kernel)
def o_Ro_nextStep_0 : or_T := (1000000, 0, [], [], [], [], [], [], [])
theorem oo_Ro_nextStep_0 {kA : Nat → ClassId} : or_ok kA GG o_Ro_nextStep_0 := fun _ _ _ _ _ _ _ _ _ _ => ⟨fun q h => (by cases h), [], trivial, fun f h => (by cases h), fun q h => (by cases h)⟩
def n_Ro_nextStep_an : List an_T := [(3, [(0, (2, 0, 0, [9])), (1, (0, 0, 5999, [])), (2, (0, -1, 3, [])), (3, (0, -2147483648, 1000000000, [])), (4, (0, 0, 4, []))], [], (0, 0), [(0, 0, 99997), (1, 4, 4), (0, 0, 100000)], [(1, 2, -1000000000000, 6000), (1, 4, -1000000000000, 5999), (2, 1, -1000000000000, 3), (2, 4, -1000000000000, 3)], [], [], 0, [], [(20, [0], [50, 2, 0, 4, 5, 2, 7, 0, 2, 0, 1, 2, 0, 4, 2, 7, 0, 2, 0, 1, 2, 0, 5, 0, 8, 6, 3, 2, 0, 4, 2, 0, 5, 0, 6000]), (20, [1, 0], [50, 2, 0, 1004, 1005, 0, 6, 4, 2, 1, 0, 0, 1, 6, 3, 2, 1, 4, 2, 1, 5])])]
def t_Ro_nextStep_ct : ct_L := [(1, 144, e_Ro_next)]
set_option maxRecDepth 100000 in
theorem c_Ro_nextStep {l : Launch} {D : va_G} {kA : Nat → ClassId} (h_Ro_next : ct_ok l D kA GG y_Ro_next z_Ro_next e_Ro_next) : ct_ok l D kA GG y_Ro_nextStep z_Ro_nextStep e_Ro_nextStep := chk_all_ok (FT := [(41, 9, 9), (45, 9, 10)]) (PT := []) (CT := t_Ro_nextStep_ct) (KT := []) (NT := []) (AN := n_Ro_nextStep_an) (OT := [o_Ro_nextStep_0]) 3 440 (List.forall_mem_cons.mpr ⟨oo_Ro_nextStep_0, List.forall_mem_nil _⟩) (by decide +kernel) ⟨List.forall_mem_cons.mpr ⟨gf_Ro_41, List.forall_mem_cons.mpr ⟨gf_Ro_45, List.forall_mem_nil _⟩⟩, List.forall_mem_nil _, List.forall_mem_cons.mpr ⟨cl_virtual (y := y_Ro_next) (ci := 9) rfl rfl ⟨_, _, rfl⟩ (by decide +kernel) h_Ro_next wm_1961 wm_22 wm_1958 wm_1960 wv_9_6 ⟨by decide, by decide, by decide +kernel⟩ (by decide), List.forall_mem_nil _⟩, List.forall_mem_nil _, List.forall_mem_nil _, GG_pl⟩ (by decide +kernel)
def n_St_addGap_an : List an_T := []
def t_St_addGap_ct : ct_L := [(1, 40, e_St_addArc)]
set_option maxRecDepth 100000 in
theorem c_St_addGap {l : Launch} {D : va_G} {kA : Nat → ClassId} (h_St_addArc : ct_ok l D kA GG y_St_addArc z_St_addArc e_St_addArc) : ct_ok l D kA GG y_St_addGap z_St_addGap e_St_addGap := chk_all_ok (FT := []) (PT := []) (CT := t_St_addGap_ct) (KT := [(0, 44, .int (1000000000), (0, 1000000000, 1000000000, []))]) (NT := []) (AN := n_St_addGap_an) (OT := []) 0 200 (List.forall_mem_nil _) (by decide +kernel) ⟨List.forall_mem_nil _, List.forall_mem_nil _, List.forall_mem_cons.mpr ⟨cl_virtual (y := y_St_addArc) (ci := 10) rfl rfl ⟨_, _, rfl⟩ (by decide +kernel) h_St_addArc wm_1333 wm_19 wm_1330 wm_1332 wv_4_11 ⟨by decide, by decide, by decide +kernel⟩ (by decide), List.forall_mem_nil _⟩, List.forall_mem_cons.mpr ⟨kx_St_0_44, List.forall_mem_nil _⟩, List.forall_mem_nil _, GG_pl⟩ (by decide +kernel)
def n_St_addPiece_an : List an_T := []
def t_St_addPiece_ct : ct_L := [(1, 40, e_St_addArc)]
set_option maxRecDepth 100000 in
theorem c_St_addPiece {l : Launch} {D : va_G} {kA : Nat → ClassId} (h_St_addArc : ct_ok l D kA GG y_St_addArc z_St_addArc e_St_addArc) : ct_ok l D kA GG y_St_addPiece z_St_addPiece e_St_addPiece := chk_all_ok (FT := []) (PT := []) (CT := t_St_addPiece_ct) (KT := []) (NT := []) (AN := n_St_addPiece_an) (OT := []) 0 200 (List.forall_mem_nil _) (by decide +kernel) ⟨List.forall_mem_nil _, List.forall_mem_nil _, List.forall_mem_cons.mpr ⟨cl_virtual (y := y_St_addArc) (ci := 10) rfl rfl ⟨_, _, rfl⟩ (by decide +kernel) h_St_addArc wm_1333 wm_19 wm_1330 wm_1332 wv_4_11 ⟨by decide, by decide, by decide +kernel⟩ (by decide), List.forall_mem_nil _⟩, List.forall_mem_nil _, List.forall_mem_nil _, GG_pl⟩ (by decide +kernel)
def o_St_ringInBy_0 : or_T := (76, 14, [(0, (2, 0, 0, [10])), (2, (0, 0, 71, [])), (5, (0, -1, -1, [])), (6, (2, 0, 0, [124])), (9, (2, 0, 0, [123])), (10, (0, 0, 383, [])), (11, (0, -1, -1, [])), (13, (0, -1, 383, []))], [(10, [13, 9, 2], []), (9, [9, 0], [7]), (7, [10, 11], [1]), (10, [10, 9, 2], []), (100, [6, 2, 1], []), (9, [6, 0], [8]), (7, [2, 5], [1])], [(13, (0, 0, 383, []))], [], [], [], [])
theorem oo_St_ringInBy_0 {kA : Nat → ClassId} : or_ok kA GG o_St_ringInBy_0 := by
  intro A ta ws vs hD hth hl hk hds hf
  have hl : vs.length = 14 := hl
  have hk : ∀ q ∈ ([(0, (2, 0, 0, [10])), (2, (0, 0, 71, [])), (5, (0, -1, -1, [])), (6, (2, 0, 0, [124])), (9, (2, 0, 0, [123])), (10, (0, 0, 383, [])), (11, (0, -1, -1, [])), (13, (0, -1, 383, []))] : List (Nat × tv_T)), tv_ok ta q.2 (n_v vs q.1) := hk
  obtain ⟨t0, hk⟩ := List.forall_mem_cons.mp hk
  have t0 : tv_ok ta (2, 0, 0, [10]) (n_v vs 0) := t0
  have r0 : ta (v_ad (n_v vs 0)) = some 10 := tv_rg t0
  obtain ⟨t2, hk⟩ := List.forall_mem_cons.mp hk
  have t2 : tv_ok ta (0, 0, 71, []) (n_v vs 2) := t2
  have k2 : 0 ≤ v_iv (n_v vs 2) ∧ v_iv (n_v vs 2) ≤ 71 := tv_rng t2
  obtain ⟨t5, hk⟩ := List.forall_mem_cons.mp hk
  have t5 : tv_ok ta (0, -1, -1, []) (n_v vs 5) := t5
  have k5 : (-1) ≤ v_iv (n_v vs 5) ∧ v_iv (n_v vs 5) ≤ (-1) := tv_rng t5
  obtain ⟨t6, hk⟩ := List.forall_mem_cons.mp hk
  have t6 : tv_ok ta (2, 0, 0, [124]) (n_v vs 6) := t6
  have r6 : ta (v_ad (n_v vs 6)) = some 124 := tv_rg t6
  obtain ⟨t9, hk⟩ := List.forall_mem_cons.mp hk
  have t9 : tv_ok ta (2, 0, 0, [123]) (n_v vs 9) := t9
  have r9 : ta (v_ad (n_v vs 9)) = some 123 := tv_rg t9
  obtain ⟨t10, hk⟩ := List.forall_mem_cons.mp hk
  have t10 : tv_ok ta (0, 0, 383, []) (n_v vs 10) := t10
  have k10 : 0 ≤ v_iv (n_v vs 10) ∧ v_iv (n_v vs 10) ≤ 383 := tv_rng t10
  obtain ⟨t11, hk⟩ := List.forall_mem_cons.mp hk
  have t11 : tv_ok ta (0, -1, -1, []) (n_v vs 11) := t11
  have k11 : (-1) ≤ v_iv (n_v vs 11) ∧ v_iv (n_v vs 11) ≤ (-1) := tv_rng t11
  obtain ⟨t13, hk⟩ := List.forall_mem_cons.mp hk
  have t13 : tv_ok ta (0, -1, 383, []) (n_v vs 13) := t13
  have k13 : (-1) ≤ v_iv (n_v vs 13) ∧ v_iv (n_v vs 13) ≤ 383 := tv_rng t13
  have hf : fc_ok [(10, [13, 9, 2], []), (9, [9, 0], [7]), (7, [10, 11], [1]), (10, [10, 9, 2], []), (100, [6, 2, 1], []), (9, [6, 0], [8]), (7, [2, 5], [1])] ta ws vs := hf
  obtain ⟨f0, hf⟩ := fc_un (show (10 : Nat) < 100 from by decide) hf
  have f0 : v_iv (n_v vs 13) = w_el ws (v_ad (n_v vs 9)) (v_iv (n_v vs 2)).toNat := f0
  obtain ⟨f1, hf⟩ := fc_un (show (9 : Nat) < 100 from by decide) hf
  have f1 : n_v vs 9 = w_fd ws (v_ad (n_v vs 0)) 7 := f1
  obtain ⟨f2, hf⟩ := fc_un (show (7 : Nat) < 100 from by decide) hf
  have f2 : v_iv (n_v vs 10) ≠ v_iv (n_v vs 11) := f2
  obtain ⟨f3, hf⟩ := fc_un (show (10 : Nat) < 100 from by decide) hf
  have f3 : v_iv (n_v vs 10) = w_el ws (v_ad (n_v vs 9)) (v_iv (n_v vs 2)).toNat := f3
  obtain ⟨ta1, w1, le1, ⟨_, s1⟩, hf⟩ := fc_us (show ¬ (100 : Nat) < 100 from by decide) hf
  have s1 : (∀ b j, w_el ws b j = if b = v_ad (n_v vs 6) ∧ j = (v_iv (n_v vs 2)).toNat then v_iv (n_v vs 1) else w_el w1 b j) ∧ ∀ b k, w_fd ws b k = w_fd w1 b k := s1
  obtain ⟨f5, hf⟩ := fc_un (show (9 : Nat) < 100 from by decide) hf
  have f5 : n_v vs 6 = w_fd w1 (v_ad (n_v vs 0)) 8 := f5
  obtain ⟨f6, hf⟩ := fc_un (show (7 : Nat) < 100 from by decide) hf
  have f6 : v_iv (n_v vs 2) ≠ v_iv (n_v vs 5) := f6
  have ar_0_7_1 : w_ar w1 (n_v vs 0) 7 = w_ar ws (n_v vs 0) 7 := by show v_ad (w_fd w1 _ _) = v_ad (w_fd ws _ _); rw [s1.2]
  have cr_0_7 : ta (w_ar ws (n_v vs 0) 7) = some 123 := tv_rg (th_fd hD hth r0 (g := GG_10) rfl (k := 7) (t := (2, 0, 0, [123])) rfl rfl)
  have ar_0_8_1 : w_ar w1 (n_v vs 0) 8 = w_ar ws (n_v vs 0) 8 := by show v_ad (w_fd w1 _ _) = v_ad (w_fd ws _ _); rw [s1.2]
  have cr_0_8 : ta (w_ar ws (n_v vs 0) 8) = some 124 := tv_rg (th_fd hD hth r0 (g := GG_10) rfl (k := 8) (t := (2, 0, 0, [124])) rfl rfl)
  have ad_9 : v_ad (n_v vs 9) = w_ar ws (n_v vs 0) 7 := congrArg v_ad f1
  have ad_6 : v_ad (n_v vs 6) = w_ar ws (n_v vs 0) 8 := (congrArg v_ad f5).trans ar_0_8_1
  rw [ad_9] at f0
  rw [ad_9] at f3
  have ee_0_7_2_1 : w_el ws (w_ar ws (n_v vs 0) 7) (v_iv (n_v vs 2)).toNat = w_el w1 (w_ar ws (n_v vs 0) 7) (v_iv (n_v vs 2)).toNat := by rw [s1.1, if_neg (fun e => by have e1 := e.1; rw [← e1] at r6; rw [cr_0_7] at r6; exact absurd (Option.some.inj r6) (by decide))]
  have rf13 : tv_ok ta (0, 0, 383, []) (n_v vs 13) := tv_in t13 (by omega) (by omega)
  refine ⟨List.forall_mem_cons.mpr ⟨rf13, (fun _ h => (by cases h))⟩, [], trivial, ?_, (fun _ h => (by cases h))⟩
  rw [List.append_nil]
  exact (fun _ h => (by cases h))
def n_St_ringInBy_an : List an_T := [(10, [(0, (2, 0, 0, [10])), (1, (0, 0, 72, []))], [], (0, 0), [(0, 0, 99990), (1, 1, 72), (0, 0, 100000), (0, 0, 0), (0, 0, 0)], [], [], [], 0, [], []), (22, [(0, (2, 0, 0, [10])), (1, (0, 0, 71, [])), (2, (0, -1, 71, [])), (3, (0, 0, 73, []))], [], (0, 0), [(0, 0, 99990), (1, 1, 72), (0, 0, 99978), (1, 3, 73), (0, 0, 100000)], [(2, 1, -1000000000000, 71), (2, 3, -1000000000000, 71)], [], [], 0, [], [])]
def t_St_ringInBy_ct : ct_L := [(18, 45, e_jArr_fill1_v18)]
set_option maxRecDepth 100000 in
theorem c_St_ringInBy {l : Launch} {D : va_G} {kA : Nat → ClassId} : ct_ok l D kA GG y_St_ringInBy z_St_ringInBy e_St_ringInBy := chk_all_ok (FT := [(9, 10, 0), (18, 10, 2), (34, 10, 7), (37, 10, 8)]) (PT := []) (CT := t_St_ringInBy_ct) (KT := []) (NT := []) (AN := n_St_ringInBy_an) (OT := [o_St_ringInBy_0]) 5 352 (List.forall_mem_cons.mpr ⟨oo_St_ringInBy_0, List.forall_mem_nil _⟩) (by decide +kernel) ⟨List.forall_mem_cons.mpr ⟨gf_St_9, List.forall_mem_cons.mpr ⟨gf_St_18, List.forall_mem_cons.mpr ⟨gf_St_34, List.forall_mem_cons.mpr ⟨gf_St_37, List.forall_mem_nil _⟩⟩⟩⟩, List.forall_mem_nil _, List.forall_mem_cons.mpr ⟨cl_static (y := y_jArr_fill1) c_jArr_fill1_v18 wm_55 wm_4 wm_1343 wm_54 ⟨by decide, by decide, by decide +kernel⟩ (by decide), List.forall_mem_nil _⟩, List.forall_mem_nil _, List.forall_mem_nil _, GG_pl⟩ (by decide +kernel)
def o_Sy_join_0 : or_T := (70, 4, [(2, (1, -9223372036854775808, 9223372036854775807, [])), (3, (1, 0, 0, []))], [(7, [2, 3], [1])], [], [], [(8, [2], [1])], [], [])
theorem oo_Sy_join_0 {kA : Nat → ClassId} : or_ok kA GG o_Sy_join_0 := by
  intro A ta ws vs hD hth hl hk hds hf
  have hl : vs.length = 4 := hl
  have hk : ∀ q ∈ ([(2, (1, -9223372036854775808, 9223372036854775807, [])), (3, (1, 0, 0, []))] : List (Nat × tv_T)), tv_ok ta q.2 (n_v vs q.1) := hk
  obtain ⟨t2, hk⟩ := List.forall_mem_cons.mp hk
  have t2 : tv_ok ta (1, -9223372036854775808, 9223372036854775807, []) (n_v vs 2) := t2
  have k2 : (-9223372036854775808) ≤ v_iv (n_v vs 2) ∧ v_iv (n_v vs 2) ≤ 9223372036854775807 := tv_rngL t2
  obtain ⟨t3, hk⟩ := List.forall_mem_cons.mp hk
  have t3 : tv_ok ta (1, 0, 0, []) (n_v vs 3) := t3
  have k3 : 0 ≤ v_iv (n_v vs 3) ∧ v_iv (n_v vs 3) ≤ 0 := tv_rngL t3
  have hf : fc_ok [(7, [2, 3], [1])] ta ws vs := hf
  obtain ⟨f0, hf⟩ := fc_un (show (7 : Nat) < 100 from by decide) hf
  have f0 : v_iv (n_v vs 2) ≠ v_iv (n_v vs 3) := f0
  have nf0 : fc_1 (8, [2], [1]) ws (vs) := by
    refine ⟨fun n hn => ?_, ?_⟩
    · have hn : n ∈ [2] := hn
      rw [hl]
      simp only [List.mem_cons, List.not_mem_nil, or_false] at hn
      show n < 4; omega
    · show v_iv (n_v vs 2) ≠ 0
      omega
  refine ⟨(fun _ h => (by cases h)), [], trivial, ?_, (fun _ h => (by cases h))⟩
  rw [List.append_nil]
  exact List.forall_mem_cons.mpr ⟨⟨show (8 : Nat) < 100 from by decide, nf0⟩, (fun _ h => (by cases h))⟩
def n_Sy_join_an : List an_T := []
def t_Sy_join_ct : ct_L := [(219, 274, e_jMath_floorDiv2_v19)]
set_option maxRecDepth 100000 in
theorem c_Sy_join {l : Launch} {D : va_G} {kA : Nat → ClassId} : ct_ok l D kA GG y_Sy_join z_Sy_join e_Sy_join := chk_all_ok (FT := []) (PT := []) (CT := t_Sy_join_ct) (KT := []) (NT := []) (AN := n_Sy_join_an) (OT := [o_Sy_join_0]) 0 224 (List.forall_mem_cons.mpr ⟨oo_Sy_join_0, List.forall_mem_nil _⟩) (by decide +kernel) ⟨List.forall_mem_nil _, List.forall_mem_nil _, List.forall_mem_cons.mpr ⟨cl_static (y := y_jMath_floorDiv2) c_jMath_floorDiv2_v19 wm_1800 wm_10 wm_2316 wm_1799 ⟨by decide, by decide, by decide +kernel⟩ (by decide), List.forall_mem_nil _⟩, List.forall_mem_nil _, List.forall_mem_nil _, GG_pl⟩ (by decide +kernel)
def n_Mo_apartNode_an : List an_T := [(8, [(0, (2, 0, 0, [150])), (1, (0, 0, 25, []))], [], (0, 0), [(0, 0, 99992), (1, 1, 25), (0, 0, 100000)], [], [], [], 0, [], [])]
def t_Mo_apartNode_ct : ct_L := [(1, 606, e_Mo_flood)]
set_option maxRecDepth 100000 in
theorem c_Mo_apartNode {l : Launch} {D : va_G} {kA : Nat → ClassId} (h_Mo_flood : ct_ok l D kA GG y_Mo_flood z_Mo_flood e_Mo_flood) : ct_ok l D kA GG y_Mo_apartNode z_Mo_apartNode e_Mo_apartNode := chk_all_ok (FT := [(72, 13, 38), (594, 13, 31)]) (PT := []) (CT := t_Mo_apartNode_ct) (KT := []) (NT := []) (AN := n_Mo_apartNode_an) (OT := []) 3 200 (List.forall_mem_nil _) (by decide +kernel) ⟨List.forall_mem_cons.mpr ⟨gf_Mo_72, List.forall_mem_cons.mpr ⟨gf_Mo_594, List.forall_mem_nil _⟩⟩, List.forall_mem_nil _, List.forall_mem_cons.mpr ⟨cl_virtual (y := y_Mo_flood) (ci := 13) rfl rfl ⟨_, _, rfl⟩ (by decide +kernel) h_Mo_flood wm_3167 wm_9 wm_3164 wm_3166 wv_15_1 ⟨by decide, by decide, by decide +kernel⟩ (by decide), List.forall_mem_nil _⟩, List.forall_mem_nil _, List.forall_mem_nil _, GG_pl⟩ (by decide +kernel)
def n_Mo_blocksOf_an : List an_T := [(4, [(0, (2, 0, 0, [150])), (1, (0, 0, 23, [])), (2, (0, -2147483648, 2147483647, [])), (3, (0, 0, 48, []))], [], (0, 0), [(0, 0, 99996), (1, 3, 48), (0, 0, 100000), (0, 0, 0), (0, 0, 0)], [], [], [], 0, [], []), (16, [(0, (2, 0, 0, [150])), (1, (0, 0, 23, [])), (2, (0, -2147483648, 2147483647, [])), (3, (0, 0, 47, [])), (4, (0, 0, 1, [])), (5, (0, 0, 80, []))], [], (0, 0), [(0, 0, 99996), (1, 3, 48), (0, 0, 99984), (1, 5, 80), (0, 0, 100000)], [], [], [], 0, [], [])]
def t_Mo_blocksOf_ct : ct_L := [(1, 600, e_Mo_at1)]
set_option maxRecDepth 100000 in
theorem c_Mo_blocksOf {l : Launch} {D : va_G} {kA : Nat → ClassId} (h_Mo_at1 : ct_ok l D kA GG y_Mo_at1 z_Mo_at1 e_Mo_at1) : ct_ok l D kA GG y_Mo_blocksOf z_Mo_blocksOf e_Mo_blocksOf := chk_all_ok (FT := [(32, 13, 17), (597, 13, 32)]) (PT := []) (CT := t_Mo_blocksOf_ct) (KT := []) (NT := []) (AN := n_Mo_blocksOf_an) (OT := []) 5 252 (List.forall_mem_nil _) (by decide +kernel) ⟨List.forall_mem_cons.mpr ⟨gf_Mo_32, List.forall_mem_cons.mpr ⟨gf_Mo_597, List.forall_mem_nil _⟩⟩, List.forall_mem_nil _, List.forall_mem_cons.mpr ⟨cl_virtual (y := y_Mo_at1) (ci := 13) rfl rfl ⟨_, _, rfl⟩ (by decide +kernel) h_Mo_at1 wm_3159 wm_9 wm_3156 wm_3158 wv_14_15 ⟨by decide, by decide, by decide +kernel⟩ (by decide), List.forall_mem_nil _⟩, List.forall_mem_nil _, List.forall_mem_nil _, GG_pl⟩ (by decide +kernel)
def n_Mo_choose_an : List an_T := [(8, [(0, (2, 0, 0, [150])), (1, (0, -1, 79, [])), (2, (0, -2147483648, 1000000, [])), (3, (0, 0, 80, []))], [], (0, 0), [(0, 0, 99992), (1, 3, 80), (0, 0, 100000), (0, 0, 0), (0, 0, 0)], [], [], [], 0, [], []), (35, [(0, (2, 0, 0, [150])), (1, (0, -1, 79, [])), (2, (0, -2147483648, 1000000, [])), (3, (0, 0, 79, [])), (4, (0, -2147483648, 2147483647, [])), (5, (0, 0, 120, []))], [], (0, 0), [(0, 0, 99992), (1, 3, 80), (0, 0, 99965), (1, 5, 120), (0, 0, 100000)], [], [], [], 0, [], [])]
def t_Mo_choose_ct : ct_L := [(1, 662, e_Mo_fitsFace)]
set_option maxRecDepth 100000 in
theorem c_Mo_choose {l : Launch} {D : va_G} {kA : Nat → ClassId} (h_Mo_fitsFace : ct_ok l D kA GG y_Mo_fitsFace z_Mo_fitsFace e_Mo_fitsFace) : ct_ok l D kA GG y_Mo_choose z_Mo_choose e_Mo_choose := chk_all_ok (FT := [(87, 13, 44), (597, 13, 32), (612, 13, 39)]) (PT := []) (CT := t_Mo_choose_ct) (KT := [(1, 546, .int (1000000), (0, 1000000, 1000000, []))]) (NT := []) (AN := n_Mo_choose_an) (OT := []) 5 248 (List.forall_mem_nil _) (by decide +kernel) ⟨List.forall_mem_cons.mpr ⟨gf_Mo_87, List.forall_mem_cons.mpr ⟨gf_Mo_597, List.forall_mem_cons.mpr ⟨gf_Mo_612, List.forall_mem_nil _⟩⟩⟩, List.forall_mem_nil _, List.forall_mem_cons.mpr ⟨cl_virtual (y := y_Mo_fitsFace) (ci := 13) rfl rfl ⟨_, _, rfl⟩ (by decide +kernel) h_Mo_fitsFace wm_3223 wm_9 wm_3220 wm_3222 wv_15_14 ⟨by decide, by decide, by decide +kernel⟩ (by decide), List.forall_mem_nil _⟩, List.forall_mem_cons.mpr ⟨kx_Mo_1_546, List.forall_mem_nil _⟩, List.forall_mem_nil _, GG_pl⟩ (by decide +kernel)
def n_Mo_crossings_an : List an_T := [(4, [(0, (2, 0, 0, [150])), (1, (0, -2147483648, 2147483647, [])), (2, (0, 0, 130, []))], [], (0, 0), [(0, 0, 99996), (1, 2, 130), (0, 0, 100000), (0, 0, 0), (0, 0, 0)], [], [], [], 0, [], []), (14, [(0, (2, 0, 0, [150])), (1, (0, -2147483648, 2147483647, [])), (2, (0, 0, 129, [])), (3, (0, 0, 129, []))], [], (0, 0), [(0, 0, 99996), (1, 2, 130), (0, 0, 99986), (1, 3, 129), (0, 0, 100000)], [], [], [], 0, [], [])]
def t_Mo_crossings_ct : ct_L := [(1, 858, e_Mo_placeOf)]
set_option maxRecDepth 100000 in
theorem c_Mo_crossings {l : Launch} {D : va_G} {kA : Nat → ClassId} (h_Mo_placeOf : ct_ok l D kA GG y_Mo_placeOf z_Mo_placeOf e_Mo_placeOf) : ct_ok l D kA GG y_Mo_crossings z_Mo_crossings e_Mo_crossings := chk_all_ok (FT := [(222, 13, 102), (237, 13, 108), (240, 13, 109), (847, 13, 107)]) (PT := []) (CT := t_Mo_crossings_ct) (KT := []) (NT := []) (AN := n_Mo_crossings_an) (OT := []) 5 404 (List.forall_mem_nil _) (by decide +kernel) ⟨List.forall_mem_cons.mpr ⟨gf_Mo_222, List.forall_mem_cons.mpr ⟨gf_Mo_237, List.forall_mem_cons.mpr ⟨gf_Mo_240, List.forall_mem_cons.mpr ⟨gf_Mo_847, List.forall_mem_nil _⟩⟩⟩⟩, List.forall_mem_nil _, List.forall_mem_cons.mpr ⟨cl_virtual (y := y_Mo_placeOf) (ci := 13) rfl rfl ⟨_, _, rfl⟩ (by decide +kernel) h_Mo_placeOf wm_3442 wm_9 wm_3439 wm_3441 wv_18_12 ⟨by decide, by decide, by decide +kernel⟩ (by decide), List.forall_mem_nil _⟩, List.forall_mem_nil _, List.forall_mem_nil _, GG_pl⟩ (by decide +kernel)
def n_Mo_dart_an : List an_T := []
def t_Mo_dart_ct : ct_L := [(1, 919, e_Mo_low)]
set_option maxRecDepth 100000 in
theorem c_Mo_dart {l : Launch} {D : va_G} {kA : Nat → ClassId} (h_Mo_low : ct_ok l D kA GG y_Mo_low z_Mo_low e_Mo_low) : ct_ok l D kA GG y_Mo_dart z_Mo_dart e_Mo_dart := chk_all_ok (FT := [(57, 13, 33)]) (PT := []) (CT := t_Mo_dart_ct) (KT := []) (NT := []) (AN := n_Mo_dart_an) (OT := []) 0 200 (List.forall_mem_nil _) (by decide +kernel) ⟨List.forall_mem_cons.mpr ⟨gf_Mo_57, List.forall_mem_nil _⟩, List.forall_mem_nil _, List.forall_mem_cons.mpr ⟨cl_virtual (y := y_Mo_low) (ci := 13) rfl rfl ⟨_, _, rfl⟩ (by decide +kernel) h_Mo_low wm_3542 wm_9 wm_3539 wm_3541 wv_20_5 ⟨by decide, by decide, by decide +kernel⟩ (by decide), List.forall_mem_nil _⟩, List.forall_mem_nil _, List.forall_mem_nil _, GG_pl⟩ (by decide +kernel)
def n_Mo_dot_an : List an_T := []
def t_Mo_dot_ct : ct_L := [(0, 387, e_Mo_in)]
set_option maxRecDepth 100000 in
theorem c_Mo_dot {l : Launch} {D : va_G} {kA : Nat → ClassId} (h_Mo_in : ct_ok l D kA GG y_Mo_in z_Mo_in e_Mo_in) : ct_ok l D kA GG y_Mo_dot z_Mo_dot e_Mo_dot := chk_all_ok (FT := [(369, 13, 175), (1329, 13, 173), (1332, 13, 174)]) (PT := []) (CT := t_Mo_dot_ct) (KT := []) (NT := []) (AN := n_Mo_dot_an) (OT := []) 0 200 (List.forall_mem_nil _) (by decide +kernel) ⟨List.forall_mem_cons.mpr ⟨gf_Mo_369, List.forall_mem_cons.mpr ⟨gf_Mo_1329, List.forall_mem_cons.mpr ⟨gf_Mo_1332, List.forall_mem_nil _⟩⟩⟩, List.forall_mem_nil _, List.forall_mem_cons.mpr ⟨cl_static (y := y_Mo_in) h_Mo_in wm_2971 wm_9 wm_2969 wm_2970 ⟨by decide, by decide, by decide +kernel⟩ (by decide), List.forall_mem_nil _⟩, List.forall_mem_nil _, List.forall_mem_nil _, GG_pl⟩ (by decide +kernel)
def n_Mo_dotX_an : List an_T := []
def t_Mo_dotX_ct : ct_L := [(87, 1097, e_jMath_max2_v20)]
set_option maxRecDepth 100000 in
theorem c_Mo_dotX {l : Launch} {D : va_G} {kA : Nat → ClassId} : ct_ok l D kA GG y_Mo_dotX z_Mo_dotX e_Mo_dotX := chk_all_ok (FT := [(1142, 13, 153), (1145, 13, 154), (1329, 13, 173)]) (PT := []) (CT := t_Mo_dotX_ct) (KT := []) (NT := []) (AN := n_Mo_dotX_an) (OT := []) 0 200 (List.forall_mem_nil _) (by decide +kernel) ⟨List.forall_mem_cons.mpr ⟨gf_Mo_1142, List.forall_mem_cons.mpr ⟨gf_Mo_1145, List.forall_mem_cons.mpr ⟨gf_Mo_1329, List.forall_mem_nil _⟩⟩⟩, List.forall_mem_nil _, List.forall_mem_cons.mpr ⟨cl_static (y := y_jMath_max2) c_jMath_max2_v20 wm_1750 wm_10 wm_3757 wm_1749 ⟨by decide, by decide, by decide +kernel⟩ (by decide), List.forall_mem_nil _⟩, List.forall_mem_nil _, List.forall_mem_nil _, GG_pl⟩ (by decide +kernel)
def n_Mo_dotY_an : List an_T := []
def t_Mo_dotY_ct : ct_L := [(87, 1097, e_jMath_max2_v20)]
set_option maxRecDepth 100000 in
theorem c_Mo_dotY {l : Launch} {D : va_G} {kA : Nat → ClassId} : ct_ok l D kA GG y_Mo_dotY z_Mo_dotY e_Mo_dotY := chk_all_ok (FT := [(1148, 13, 155), (1151, 13, 156), (1332, 13, 174)]) (PT := []) (CT := t_Mo_dotY_ct) (KT := []) (NT := []) (AN := n_Mo_dotY_an) (OT := []) 0 200 (List.forall_mem_nil _) (by decide +kernel) ⟨List.forall_mem_cons.mpr ⟨gf_Mo_1148, List.forall_mem_cons.mpr ⟨gf_Mo_1151, List.forall_mem_cons.mpr ⟨gf_Mo_1332, List.forall_mem_nil _⟩⟩⟩, List.forall_mem_nil _, List.forall_mem_cons.mpr ⟨cl_static (y := y_jMath_max2) c_jMath_max2_v20 wm_1750 wm_10 wm_3757 wm_1749 ⟨by decide, by decide, by decide +kernel⟩ (by decide), List.forall_mem_nil _⟩, List.forall_mem_nil _, List.forall_mem_nil _, GG_pl⟩ (by decide +kernel)
def o_Mo_dropEdge_at_g0_0 : or_T := (2, 3, [(0, (2, 0, 0, [150])), (1, (0, 0, 47, [])), (2, (0, 0, 23, []))], [(20, [1, 0], [30, -1, 1, 0, 0, -1, 3, 2005001]), (20, [2, 0], [30, -1, 1, 0, 0, -1, 3, 2005000])], [], [], [(24, [0, 0], []), (24, [1, 1], [])], [], [])
theorem oo_Mo_dropEdge_at_g0_0 {kA : Nat → ClassId} : or_ok kA GG o_Mo_dropEdge_at_g0_0 := by
  intro A ta ws vs hD hth hl hk hds hf
  have hl : vs.length = 3 := hl
  have hk : ∀ q ∈ ([(0, (2, 0, 0, [150])), (1, (0, 0, 47, [])), (2, (0, 0, 23, []))] : List (Nat × tv_T)), tv_ok ta q.2 (n_v vs q.1) := hk
  obtain ⟨t0, hk⟩ := List.forall_mem_cons.mp hk
  have t0 : tv_ok ta (2, 0, 0, [150]) (n_v vs 0) := t0
  have r0 : ta (v_ad (n_v vs 0)) = some 150 := tv_rg t0
  obtain ⟨t1, hk⟩ := List.forall_mem_cons.mp hk
  have t1 : tv_ok ta (0, 0, 47, []) (n_v vs 1) := t1
  have k1 : 0 ≤ v_iv (n_v vs 1) ∧ v_iv (n_v vs 1) ≤ 47 := tv_rng t1
  obtain ⟨t2, hk⟩ := List.forall_mem_cons.mp hk
  have t2 : tv_ok ta (0, 0, 23, []) (n_v vs 2) := t2
  have k2 : 0 ≤ v_iv (n_v vs 2) ∧ v_iv (n_v vs 2) ≤ 23 := tv_rng t2
  have hf : fc_ok [(20, [1, 0], [30, -1, 1, 0, 0, -1, 3, 2005001]), (20, [2, 0], [30, -1, 1, 0, 0, -1, 3, 2005000])] ta ws vs := hf
  obtain ⟨f0, hf⟩ := fc_un (show (20 : Nat) < 100 from by decide) hf
  have f0 : 1 * v_iv (n_v vs 1) + ((-1) * w_el ws (w_ar ws (n_v vs 0) 2) (w_fi ws (n_v vs 0) 5 + 1).toNat + 0) ≤ (-1) := f0
  obtain ⟨f1, hf⟩ := fc_un (show (20 : Nat) < 100 from by decide) hf
  have f1 : 1 * v_iv (n_v vs 2) + ((-1) * w_el ws (w_ar ws (n_v vs 0) 2) (w_fi ws (n_v vs 0) 5 + 0).toNat + 0) ≤ (-1) := f1
  have cr_0_2 : ta (w_ar ws (n_v vs 0) 2) = some 152 := tv_rg (th_fd hD hth r0 (g := GG_150) rfl (k := 2) (t := (2, 0, 0, [152])) rfl rfl)
  have nf0 : fc_1 (24, [0, 0], []) ws (vs) := by
    refine ⟨fun n hn => ?_, ?_⟩
    · have hn : n ∈ [0, 0] := hn
      rw [hl]
      simp only [List.mem_cons, List.not_mem_nil, or_false] at hn
      show n < 3; omega
    · show n_v vs 0 = n_v vs 0
      first | rfl | simp only [true_and]
  have nf1 : fc_1 (24, [1, 1], []) ws (vs) := by
    refine ⟨fun n hn => ?_, ?_⟩
    · have hn : n ∈ [1, 1] := hn
      rw [hl]
      simp only [List.mem_cons, List.not_mem_nil, or_false] at hn
      show n < 3; omega
    · show n_v vs 1 = n_v vs 1
      first | rfl | simp only [true_and]
  refine ⟨(fun _ h => (by cases h)), [], trivial, ?_, (fun _ h => (by cases h))⟩
  rw [List.append_nil]
  exact List.forall_mem_cons.mpr ⟨⟨show (24 : Nat) < 100 from by decide, nf0⟩, List.forall_mem_cons.mpr ⟨⟨show (24 : Nat) < 100 from by decide, nf1⟩, (fun _ h => (by cases h))⟩⟩
def o_Mo_dropEdge_at_g0_1 : or_T := (158, 14, [(0, (2, 0, 0, [150])), (1, (0, 0, 47, [])), (2, (0, 0, 23, [])), (3, (2, 0, 0, [150])), (4, (0, 0, 47, [])), (5, (0, 0, 47, [])), (6, (0, 1, 1, [])), (7, (0, 1, 48, [])), (8, (0, 0, 48, [])), (9, (2, 0, 0, [152])), (10, (0, 0, 66297, [])), (11, (0, 1, 1, [])), (12, (0, 1, 66298, [])), (13, (0, 0, 48, []))], [(10, [13, 9, 12], []), (1, [12, 10, 11], []), (9, [10, 3], [5]), (9, [9, 3], [2]), (7, [7, 8], [3]), (20, [8, 3], [30, 0, 1, 0, 0, -1, 3, 2005001]), (20, [8, 3], [30, 0, -1, 0, 0, 1, 3, 2005001]), (1, [7, 5, 6], []), (20, [4, 3], [30, -1, 1, 0, 0, -1, 3, 2005001]), (20, [2, 3], [30, -1, 1, 0, 0, -1, 3, 2005000]), (24, [0, 3], []), (24, [1, 4], [])], [(13, (0, 1, 48, []))], [], [], [], [(12, 10, 1, 1), (7, 8, 0, 4294967296), (7, 5, 1, 1), (7, 2, -4294967296, 48), (1, 2, -4294967296, 47), (1, 4, -4294967296, 0), (1, 5, -4294967296, 0), (2, 1, -4294967296, 23), (2, 4, -4294967296, 23), (2, 5, -4294967296, 23), (4, 1, -4294967296, 0), (4, 2, -4294967296, 47), (4, 5, -4294967296, 0), (5, 2, -4294967296, 47)])
theorem oo_Mo_dropEdge_at_g0_1 {kA : Nat → ClassId} : or_ok kA GG o_Mo_dropEdge_at_g0_1 := by
  intro A ta ws vs hD hth hl hk hds hf
  have hl : vs.length = 14 := hl
  have hk : ∀ q ∈ ([(0, (2, 0, 0, [150])), (1, (0, 0, 47, [])), (2, (0, 0, 23, [])), (3, (2, 0, 0, [150])), (4, (0, 0, 47, [])), (5, (0, 0, 47, [])), (6, (0, 1, 1, [])), (7, (0, 1, 48, [])), (8, (0, 0, 48, [])), (9, (2, 0, 0, [152])), (10, (0, 0, 66297, [])), (11, (0, 1, 1, [])), (12, (0, 1, 66298, [])), (13, (0, 0, 48, []))] : List (Nat × tv_T)), tv_ok ta q.2 (n_v vs q.1) := hk
  obtain ⟨t0, hk⟩ := List.forall_mem_cons.mp hk
  have t0 : tv_ok ta (2, 0, 0, [150]) (n_v vs 0) := t0
  have r0 : ta (v_ad (n_v vs 0)) = some 150 := tv_rg t0
  obtain ⟨t1, hk⟩ := List.forall_mem_cons.mp hk
  have t1 : tv_ok ta (0, 0, 47, []) (n_v vs 1) := t1
  have k1 : 0 ≤ v_iv (n_v vs 1) ∧ v_iv (n_v vs 1) ≤ 47 := tv_rng t1
  obtain ⟨t2, hk⟩ := List.forall_mem_cons.mp hk
  have t2 : tv_ok ta (0, 0, 23, []) (n_v vs 2) := t2
  have k2 : 0 ≤ v_iv (n_v vs 2) ∧ v_iv (n_v vs 2) ≤ 23 := tv_rng t2
  obtain ⟨t3, hk⟩ := List.forall_mem_cons.mp hk
  have t3 : tv_ok ta (2, 0, 0, [150]) (n_v vs 3) := t3
  have r3 : ta (v_ad (n_v vs 3)) = some 150 := tv_rg t3
  obtain ⟨t4, hk⟩ := List.forall_mem_cons.mp hk
  have t4 : tv_ok ta (0, 0, 47, []) (n_v vs 4) := t4
  have k4 : 0 ≤ v_iv (n_v vs 4) ∧ v_iv (n_v vs 4) ≤ 47 := tv_rng t4
  obtain ⟨t5, hk⟩ := List.forall_mem_cons.mp hk
  have t5 : tv_ok ta (0, 0, 47, []) (n_v vs 5) := t5
  have k5 : 0 ≤ v_iv (n_v vs 5) ∧ v_iv (n_v vs 5) ≤ 47 := tv_rng t5
  obtain ⟨t6, hk⟩ := List.forall_mem_cons.mp hk
  have t6 : tv_ok ta (0, 1, 1, []) (n_v vs 6) := t6
  have k6 : 1 ≤ v_iv (n_v vs 6) ∧ v_iv (n_v vs 6) ≤ 1 := tv_rng t6
  obtain ⟨t7, hk⟩ := List.forall_mem_cons.mp hk
  have t7 : tv_ok ta (0, 1, 48, []) (n_v vs 7) := t7
  have k7 : 1 ≤ v_iv (n_v vs 7) ∧ v_iv (n_v vs 7) ≤ 48 := tv_rng t7
  obtain ⟨t8, hk⟩ := List.forall_mem_cons.mp hk
  have t8 : tv_ok ta (0, 0, 48, []) (n_v vs 8) := t8
  have k8 : 0 ≤ v_iv (n_v vs 8) ∧ v_iv (n_v vs 8) ≤ 48 := tv_rng t8
  obtain ⟨t9, hk⟩ := List.forall_mem_cons.mp hk
  have t9 : tv_ok ta (2, 0, 0, [152]) (n_v vs 9) := t9
  have r9 : ta (v_ad (n_v vs 9)) = some 152 := tv_rg t9
  obtain ⟨t10, hk⟩ := List.forall_mem_cons.mp hk
  have t10 : tv_ok ta (0, 0, 66297, []) (n_v vs 10) := t10
  have k10 : 0 ≤ v_iv (n_v vs 10) ∧ v_iv (n_v vs 10) ≤ 66297 := tv_rng t10
  obtain ⟨t11, hk⟩ := List.forall_mem_cons.mp hk
  have t11 : tv_ok ta (0, 1, 1, []) (n_v vs 11) := t11
  have k11 : 1 ≤ v_iv (n_v vs 11) ∧ v_iv (n_v vs 11) ≤ 1 := tv_rng t11
  obtain ⟨t12, hk⟩ := List.forall_mem_cons.mp hk
  have t12 : tv_ok ta (0, 1, 66298, []) (n_v vs 12) := t12
  have k12 : 1 ≤ v_iv (n_v vs 12) ∧ v_iv (n_v vs 12) ≤ 66298 := tv_rng t12
  obtain ⟨t13, hk⟩ := List.forall_mem_cons.mp hk
  have t13 : tv_ok ta (0, 0, 48, []) (n_v vs 13) := t13
  have k13 : 0 ≤ v_iv (n_v vs 13) ∧ v_iv (n_v vs 13) ≤ 48 := tv_rng t13
  have hds : ∀ q ∈ ([(12, 10, 1, 1), (7, 8, 0, 4294967296), (7, 5, 1, 1), (7, 2, -4294967296, 48), (1, 2, -4294967296, 47), (1, 4, -4294967296, 0), (1, 5, -4294967296, 0), (2, 1, -4294967296, 23), (2, 4, -4294967296, 23), (2, 5, -4294967296, 23), (4, 1, -4294967296, 0), (4, 2, -4294967296, 47), (4, 5, -4294967296, 0), (5, 2, -4294967296, 47)] : List of_T), n_iv vs q.2.1 + q.2.2.1 ≤ n_iv vs q.1 ∧ n_iv vs q.1 ≤ n_iv vs q.2.1 + q.2.2.2 := hds
  obtain ⟨d0, hds⟩ := List.forall_mem_cons.mp hds
  have d0 : v_iv (n_v vs 10) + 1 ≤ v_iv (n_v vs 12) ∧ v_iv (n_v vs 12) ≤ v_iv (n_v vs 10) + 1 := d0
  obtain ⟨d1, hds⟩ := List.forall_mem_cons.mp hds
  have d1 : v_iv (n_v vs 8) + 0 ≤ v_iv (n_v vs 7) ∧ v_iv (n_v vs 7) ≤ v_iv (n_v vs 8) + 4294967296 := d1
  obtain ⟨d2, hds⟩ := List.forall_mem_cons.mp hds
  have d2 : v_iv (n_v vs 5) + 1 ≤ v_iv (n_v vs 7) ∧ v_iv (n_v vs 7) ≤ v_iv (n_v vs 5) + 1 := d2
  obtain ⟨d3, hds⟩ := List.forall_mem_cons.mp hds
  have d3 : v_iv (n_v vs 2) + (-4294967296) ≤ v_iv (n_v vs 7) ∧ v_iv (n_v vs 7) ≤ v_iv (n_v vs 2) + 48 := d3
  obtain ⟨d4, hds⟩ := List.forall_mem_cons.mp hds
  have d4 : v_iv (n_v vs 2) + (-4294967296) ≤ v_iv (n_v vs 1) ∧ v_iv (n_v vs 1) ≤ v_iv (n_v vs 2) + 47 := d4
  obtain ⟨d5, hds⟩ := List.forall_mem_cons.mp hds
  have d5 : v_iv (n_v vs 4) + (-4294967296) ≤ v_iv (n_v vs 1) ∧ v_iv (n_v vs 1) ≤ v_iv (n_v vs 4) + 0 := d5
  obtain ⟨d6, hds⟩ := List.forall_mem_cons.mp hds
  have d6 : v_iv (n_v vs 5) + (-4294967296) ≤ v_iv (n_v vs 1) ∧ v_iv (n_v vs 1) ≤ v_iv (n_v vs 5) + 0 := d6
  obtain ⟨d7, hds⟩ := List.forall_mem_cons.mp hds
  have d7 : v_iv (n_v vs 1) + (-4294967296) ≤ v_iv (n_v vs 2) ∧ v_iv (n_v vs 2) ≤ v_iv (n_v vs 1) + 23 := d7
  obtain ⟨d8, hds⟩ := List.forall_mem_cons.mp hds
  have d8 : v_iv (n_v vs 4) + (-4294967296) ≤ v_iv (n_v vs 2) ∧ v_iv (n_v vs 2) ≤ v_iv (n_v vs 4) + 23 := d8
  obtain ⟨d9, hds⟩ := List.forall_mem_cons.mp hds
  have d9 : v_iv (n_v vs 5) + (-4294967296) ≤ v_iv (n_v vs 2) ∧ v_iv (n_v vs 2) ≤ v_iv (n_v vs 5) + 23 := d9
  obtain ⟨d10, hds⟩ := List.forall_mem_cons.mp hds
  have d10 : v_iv (n_v vs 1) + (-4294967296) ≤ v_iv (n_v vs 4) ∧ v_iv (n_v vs 4) ≤ v_iv (n_v vs 1) + 0 := d10
  obtain ⟨d11, hds⟩ := List.forall_mem_cons.mp hds
  have d11 : v_iv (n_v vs 2) + (-4294967296) ≤ v_iv (n_v vs 4) ∧ v_iv (n_v vs 4) ≤ v_iv (n_v vs 2) + 47 := d11
  obtain ⟨d12, hds⟩ := List.forall_mem_cons.mp hds
  have d12 : v_iv (n_v vs 5) + (-4294967296) ≤ v_iv (n_v vs 4) ∧ v_iv (n_v vs 4) ≤ v_iv (n_v vs 5) + 0 := d12
  obtain ⟨d13, hds⟩ := List.forall_mem_cons.mp hds
  have d13 : v_iv (n_v vs 2) + (-4294967296) ≤ v_iv (n_v vs 5) ∧ v_iv (n_v vs 5) ≤ v_iv (n_v vs 2) + 47 := d13
  have hf : fc_ok [(10, [13, 9, 12], []), (1, [12, 10, 11], []), (9, [10, 3], [5]), (9, [9, 3], [2]), (7, [7, 8], [3]), (20, [8, 3], [30, 0, 1, 0, 0, -1, 3, 2005001]), (20, [8, 3], [30, 0, -1, 0, 0, 1, 3, 2005001]), (1, [7, 5, 6], []), (20, [4, 3], [30, -1, 1, 0, 0, -1, 3, 2005001]), (20, [2, 3], [30, -1, 1, 0, 0, -1, 3, 2005000]), (24, [0, 3], []), (24, [1, 4], [])] ta ws vs := hf
  obtain ⟨f0, hf⟩ := fc_un (show (10 : Nat) < 100 from by decide) hf
  have f0 : v_iv (n_v vs 13) = w_el ws (v_ad (n_v vs 9)) (v_iv (n_v vs 12)).toNat := f0
  obtain ⟨f1, hf⟩ := fc_un (show (1 : Nat) < 100 from by decide) hf
  have f1 : v_iv (n_v vs 12) = v_iv (n_v vs 10) + v_iv (n_v vs 11) := f1
  obtain ⟨f2, hf⟩ := fc_un (show (9 : Nat) < 100 from by decide) hf
  have f2 : n_v vs 10 = w_fd ws (v_ad (n_v vs 3)) 5 := f2
  obtain ⟨f3, hf⟩ := fc_un (show (9 : Nat) < 100 from by decide) hf
  have f3 : n_v vs 9 = w_fd ws (v_ad (n_v vs 3)) 2 := f3
  obtain ⟨f4, hf⟩ := fc_un (show (7 : Nat) < 100 from by decide) hf
  have f4 : v_iv (n_v vs 8) ≤ v_iv (n_v vs 7) := f4
  obtain ⟨f5, hf⟩ := fc_un (show (20 : Nat) < 100 from by decide) hf
  have f5 : 1 * v_iv (n_v vs 8) + ((-1) * w_el ws (w_ar ws (n_v vs 3) 2) (w_fi ws (n_v vs 3) 5 + 1).toNat + 0) ≤ 0 := f5
  obtain ⟨f6, hf⟩ := fc_un (show (20 : Nat) < 100 from by decide) hf
  have f6 : (-1) * v_iv (n_v vs 8) + (1 * w_el ws (w_ar ws (n_v vs 3) 2) (w_fi ws (n_v vs 3) 5 + 1).toNat + 0) ≤ 0 := f6
  obtain ⟨f7, hf⟩ := fc_un (show (1 : Nat) < 100 from by decide) hf
  have f7 : v_iv (n_v vs 7) = v_iv (n_v vs 5) + v_iv (n_v vs 6) := f7
  obtain ⟨f8, hf⟩ := fc_un (show (20 : Nat) < 100 from by decide) hf
  have f8 : 1 * v_iv (n_v vs 4) + ((-1) * w_el ws (w_ar ws (n_v vs 3) 2) (w_fi ws (n_v vs 3) 5 + 1).toNat + 0) ≤ (-1) := f8
  obtain ⟨f9, hf⟩ := fc_un (show (20 : Nat) < 100 from by decide) hf
  have f9 : 1 * v_iv (n_v vs 2) + ((-1) * w_el ws (w_ar ws (n_v vs 3) 2) (w_fi ws (n_v vs 3) 5 + 0).toNat + 0) ≤ (-1) := f9
  obtain ⟨f10, hf⟩ := fc_un (show (24 : Nat) < 100 from by decide) hf
  have f10 : n_v vs 0 = n_v vs 3 := f10
  obtain ⟨f11, hf⟩ := fc_un (show (24 : Nat) < 100 from by decide) hf
  have f11 : n_v vs 1 = n_v vs 4 := f11
  have q3 : n_v vs 3 = n_v vs 0 := f10.symm
  have q4 : n_v vs 4 = n_v vs 1 := f11.symm
  rw [q3] at f2
  rw [q3] at f3
  rw [q3] at f5
  rw [q3] at f6
  rw [q3] at f8
  rw [q4] at f8
  rw [q3] at f9
  have cr_0_2 : ta (w_ar ws (n_v vs 0) 2) = some 152 := tv_rg (th_fd hD hth r0 (g := GG_150) rfl (k := 2) (t := (2, 0, 0, [152])) rfl rfl)
  have ad_9 : v_ad (n_v vs 9) = w_ar ws (n_v vs 0) 2 := congrArg v_ad f3
  rw [ad_9] at f0
  have g2 : v_iv (n_v vs 10) = w_fi ws (n_v vs 0) 5 := congrArg v_iv f2
  have cg0_F5_1 : v_iv (n_v vs 12) = w_fi ws (n_v vs 0) 5 + 1 → w_el ws (w_ar ws (n_v vs 0) 2) (v_iv (n_v vs 12)).toNat = w_el ws (w_ar ws (n_v vs 0) 2) (w_fi ws (n_v vs 0) 5 + 1).toNat := fun h => by rw [h]
  have cg0_F5_0 : v_iv (n_v vs 12) = w_fi ws (n_v vs 0) 5 + 0 → w_el ws (w_ar ws (n_v vs 0) 2) (v_iv (n_v vs 12)).toNat = w_el ws (w_ar ws (n_v vs 0) 2) (w_fi ws (n_v vs 0) 5 + 0).toNat := fun h => by rw [h]
  have rf13 : tv_ok ta (0, 1, 48, []) (n_v vs 13) := tv_in t13 (by omega) (by omega)
  refine ⟨List.forall_mem_cons.mpr ⟨rf13, (fun _ h => (by cases h))⟩, [], trivial, ?_, (fun _ h => (by cases h))⟩
  rw [List.append_nil]
  exact (fun _ h => (by cases h))
def o_Mo_dropEdge_at_g0_2 : or_T := (161, 16, [(0, (2, 0, 0, [150])), (1, (0, 0, 47, [])), (2, (0, 0, 23, [])), (3, (2, 0, 0, [150])), (4, (0, 0, 47, [])), (5, (0, 0, 47, [])), (6, (0, 1, 1, [])), (7, (0, 1, 48, [])), (8, (0, 0, 48, [])), (9, (2, 0, 0, [152])), (10, (0, 0, 66297, [])), (11, (0, 1, 1, [])), (12, (0, 1, 66298, [])), (13, (0, 1, 48, [])), (14, (0, 1, 1, [])), (15, (0, 0, 47, []))], [(24, [0, 3], []), (24, [1, 4], []), (100, [9, 12, 15], []), (2, [15, 13, 14], []), (10, [13, 9, 12], []), (1, [12, 10, 11], []), (9, [10, 3], [5]), (9, [9, 3], [2]), (7, [7, 8], [3]), (20, [8, 3], [30, 0, 1, 0, 0, -1, 3, 2005001]), (20, [8, 3], [30, 0, -1, 0, 0, 1, 3, 2005001]), (1, [7, 5, 6], []), (20, [4, 3], [30, -1, 1, 0, 0, -1, 3, 2005001]), (20, [2, 3], [30, -1, 1, 0, 0, -1, 3, 2005000])], [], [], [(20, [1, 0], [30, 0, 1, 0, 0, -1, 3, 2005001]), (20, [2, 0], [30, -1, 1, 0, 0, -1, 3, 2005000])], [], [(15, 13, -1, -1), (12, 10, 1, 1), (7, 8, 0, 4294967296), (7, 5, 1, 1), (7, 2, -4294967296, 48), (1, 2, -4294967296, 47), (1, 4, -4294967296, 0), (1, 5, -4294967296, 0), (2, 1, -4294967296, 23), (2, 4, -4294967296, 23), (2, 5, -4294967296, 23), (4, 1, -4294967296, 0), (4, 2, -4294967296, 47), (4, 5, -4294967296, 0), (5, 2, -4294967296, 47)])
theorem oo_Mo_dropEdge_at_g0_2 {kA : Nat → ClassId} : or_ok kA GG o_Mo_dropEdge_at_g0_2 := by
  intro A ta ws vs hD hth hl hk hds hf
  have hl : vs.length = 16 := hl
  have hk : ∀ q ∈ ([(0, (2, 0, 0, [150])), (1, (0, 0, 47, [])), (2, (0, 0, 23, [])), (3, (2, 0, 0, [150])), (4, (0, 0, 47, [])), (5, (0, 0, 47, [])), (6, (0, 1, 1, [])), (7, (0, 1, 48, [])), (8, (0, 0, 48, [])), (9, (2, 0, 0, [152])), (10, (0, 0, 66297, [])), (11, (0, 1, 1, [])), (12, (0, 1, 66298, [])), (13, (0, 1, 48, [])), (14, (0, 1, 1, [])), (15, (0, 0, 47, []))] : List (Nat × tv_T)), tv_ok ta q.2 (n_v vs q.1) := hk
  obtain ⟨t0, hk⟩ := List.forall_mem_cons.mp hk
  have t0 : tv_ok ta (2, 0, 0, [150]) (n_v vs 0) := t0
  have r0 : ta (v_ad (n_v vs 0)) = some 150 := tv_rg t0
  obtain ⟨t1, hk⟩ := List.forall_mem_cons.mp hk
  have t1 : tv_ok ta (0, 0, 47, []) (n_v vs 1) := t1
  have k1 : 0 ≤ v_iv (n_v vs 1) ∧ v_iv (n_v vs 1) ≤ 47 := tv_rng t1
  obtain ⟨t2, hk⟩ := List.forall_mem_cons.mp hk
  have t2 : tv_ok ta (0, 0, 23, []) (n_v vs 2) := t2
  have k2 : 0 ≤ v_iv (n_v vs 2) ∧ v_iv (n_v vs 2) ≤ 23 := tv_rng t2
  obtain ⟨t3, hk⟩ := List.forall_mem_cons.mp hk
  have t3 : tv_ok ta (2, 0, 0, [150]) (n_v vs 3) := t3
  have r3 : ta (v_ad (n_v vs 3)) = some 150 := tv_rg t3
  obtain ⟨t4, hk⟩ := List.forall_mem_cons.mp hk
  have t4 : tv_ok ta (0, 0, 47, []) (n_v vs 4) := t4
  have k4 : 0 ≤ v_iv (n_v vs 4) ∧ v_iv (n_v vs 4) ≤ 47 := tv_rng t4
  obtain ⟨t5, hk⟩ := List.forall_mem_cons.mp hk
  have t5 : tv_ok ta (0, 0, 47, []) (n_v vs 5) := t5
  have k5 : 0 ≤ v_iv (n_v vs 5) ∧ v_iv (n_v vs 5) ≤ 47 := tv_rng t5
  obtain ⟨t6, hk⟩ := List.forall_mem_cons.mp hk
  have t6 : tv_ok ta (0, 1, 1, []) (n_v vs 6) := t6
  have k6 : 1 ≤ v_iv (n_v vs 6) ∧ v_iv (n_v vs 6) ≤ 1 := tv_rng t6
  obtain ⟨t7, hk⟩ := List.forall_mem_cons.mp hk
  have t7 : tv_ok ta (0, 1, 48, []) (n_v vs 7) := t7
  have k7 : 1 ≤ v_iv (n_v vs 7) ∧ v_iv (n_v vs 7) ≤ 48 := tv_rng t7
  obtain ⟨t8, hk⟩ := List.forall_mem_cons.mp hk
  have t8 : tv_ok ta (0, 0, 48, []) (n_v vs 8) := t8
  have k8 : 0 ≤ v_iv (n_v vs 8) ∧ v_iv (n_v vs 8) ≤ 48 := tv_rng t8
  obtain ⟨t9, hk⟩ := List.forall_mem_cons.mp hk
  have t9 : tv_ok ta (2, 0, 0, [152]) (n_v vs 9) := t9
  have r9 : ta (v_ad (n_v vs 9)) = some 152 := tv_rg t9
  obtain ⟨t10, hk⟩ := List.forall_mem_cons.mp hk
  have t10 : tv_ok ta (0, 0, 66297, []) (n_v vs 10) := t10
  have k10 : 0 ≤ v_iv (n_v vs 10) ∧ v_iv (n_v vs 10) ≤ 66297 := tv_rng t10
  obtain ⟨t11, hk⟩ := List.forall_mem_cons.mp hk
  have t11 : tv_ok ta (0, 1, 1, []) (n_v vs 11) := t11
  have k11 : 1 ≤ v_iv (n_v vs 11) ∧ v_iv (n_v vs 11) ≤ 1 := tv_rng t11
  obtain ⟨t12, hk⟩ := List.forall_mem_cons.mp hk
  have t12 : tv_ok ta (0, 1, 66298, []) (n_v vs 12) := t12
  have k12 : 1 ≤ v_iv (n_v vs 12) ∧ v_iv (n_v vs 12) ≤ 66298 := tv_rng t12
  obtain ⟨t13, hk⟩ := List.forall_mem_cons.mp hk
  have t13 : tv_ok ta (0, 1, 48, []) (n_v vs 13) := t13
  have k13 : 1 ≤ v_iv (n_v vs 13) ∧ v_iv (n_v vs 13) ≤ 48 := tv_rng t13
  obtain ⟨t14, hk⟩ := List.forall_mem_cons.mp hk
  have t14 : tv_ok ta (0, 1, 1, []) (n_v vs 14) := t14
  have k14 : 1 ≤ v_iv (n_v vs 14) ∧ v_iv (n_v vs 14) ≤ 1 := tv_rng t14
  obtain ⟨t15, hk⟩ := List.forall_mem_cons.mp hk
  have t15 : tv_ok ta (0, 0, 47, []) (n_v vs 15) := t15
  have k15 : 0 ≤ v_iv (n_v vs 15) ∧ v_iv (n_v vs 15) ≤ 47 := tv_rng t15
  have hds : ∀ q ∈ ([(15, 13, -1, -1), (12, 10, 1, 1), (7, 8, 0, 4294967296), (7, 5, 1, 1), (7, 2, -4294967296, 48), (1, 2, -4294967296, 47), (1, 4, -4294967296, 0), (1, 5, -4294967296, 0), (2, 1, -4294967296, 23), (2, 4, -4294967296, 23), (2, 5, -4294967296, 23), (4, 1, -4294967296, 0), (4, 2, -4294967296, 47), (4, 5, -4294967296, 0), (5, 2, -4294967296, 47)] : List of_T), n_iv vs q.2.1 + q.2.2.1 ≤ n_iv vs q.1 ∧ n_iv vs q.1 ≤ n_iv vs q.2.1 + q.2.2.2 := hds
  obtain ⟨d0, hds⟩ := List.forall_mem_cons.mp hds
  have d0 : v_iv (n_v vs 13) + (-1) ≤ v_iv (n_v vs 15) ∧ v_iv (n_v vs 15) ≤ v_iv (n_v vs 13) + (-1) := d0
  obtain ⟨d1, hds⟩ := List.forall_mem_cons.mp hds
  have d1 : v_iv (n_v vs 10) + 1 ≤ v_iv (n_v vs 12) ∧ v_iv (n_v vs 12) ≤ v_iv (n_v vs 10) + 1 := d1
  obtain ⟨d2, hds⟩ := List.forall_mem_cons.mp hds
  have d2 : v_iv (n_v vs 8) + 0 ≤ v_iv (n_v vs 7) ∧ v_iv (n_v vs 7) ≤ v_iv (n_v vs 8) + 4294967296 := d2
  obtain ⟨d3, hds⟩ := List.forall_mem_cons.mp hds
  have d3 : v_iv (n_v vs 5) + 1 ≤ v_iv (n_v vs 7) ∧ v_iv (n_v vs 7) ≤ v_iv (n_v vs 5) + 1 := d3
  obtain ⟨d4, hds⟩ := List.forall_mem_cons.mp hds
  have d4 : v_iv (n_v vs 2) + (-4294967296) ≤ v_iv (n_v vs 7) ∧ v_iv (n_v vs 7) ≤ v_iv (n_v vs 2) + 48 := d4
  obtain ⟨d5, hds⟩ := List.forall_mem_cons.mp hds
  have d5 : v_iv (n_v vs 2) + (-4294967296) ≤ v_iv (n_v vs 1) ∧ v_iv (n_v vs 1) ≤ v_iv (n_v vs 2) + 47 := d5
  obtain ⟨d6, hds⟩ := List.forall_mem_cons.mp hds
  have d6 : v_iv (n_v vs 4) + (-4294967296) ≤ v_iv (n_v vs 1) ∧ v_iv (n_v vs 1) ≤ v_iv (n_v vs 4) + 0 := d6
  obtain ⟨d7, hds⟩ := List.forall_mem_cons.mp hds
  have d7 : v_iv (n_v vs 5) + (-4294967296) ≤ v_iv (n_v vs 1) ∧ v_iv (n_v vs 1) ≤ v_iv (n_v vs 5) + 0 := d7
  obtain ⟨d8, hds⟩ := List.forall_mem_cons.mp hds
  have d8 : v_iv (n_v vs 1) + (-4294967296) ≤ v_iv (n_v vs 2) ∧ v_iv (n_v vs 2) ≤ v_iv (n_v vs 1) + 23 := d8
  obtain ⟨d9, hds⟩ := List.forall_mem_cons.mp hds
  have d9 : v_iv (n_v vs 4) + (-4294967296) ≤ v_iv (n_v vs 2) ∧ v_iv (n_v vs 2) ≤ v_iv (n_v vs 4) + 23 := d9
  obtain ⟨d10, hds⟩ := List.forall_mem_cons.mp hds
  have d10 : v_iv (n_v vs 5) + (-4294967296) ≤ v_iv (n_v vs 2) ∧ v_iv (n_v vs 2) ≤ v_iv (n_v vs 5) + 23 := d10
  obtain ⟨d11, hds⟩ := List.forall_mem_cons.mp hds
  have d11 : v_iv (n_v vs 1) + (-4294967296) ≤ v_iv (n_v vs 4) ∧ v_iv (n_v vs 4) ≤ v_iv (n_v vs 1) + 0 := d11
  obtain ⟨d12, hds⟩ := List.forall_mem_cons.mp hds
  have d12 : v_iv (n_v vs 2) + (-4294967296) ≤ v_iv (n_v vs 4) ∧ v_iv (n_v vs 4) ≤ v_iv (n_v vs 2) + 47 := d12
  obtain ⟨d13, hds⟩ := List.forall_mem_cons.mp hds
  have d13 : v_iv (n_v vs 5) + (-4294967296) ≤ v_iv (n_v vs 4) ∧ v_iv (n_v vs 4) ≤ v_iv (n_v vs 5) + 0 := d13
  obtain ⟨d14, hds⟩ := List.forall_mem_cons.mp hds
  have d14 : v_iv (n_v vs 2) + (-4294967296) ≤ v_iv (n_v vs 5) ∧ v_iv (n_v vs 5) ≤ v_iv (n_v vs 2) + 47 := d14
  have hf : fc_ok [(24, [0, 3], []), (24, [1, 4], []), (100, [9, 12, 15], []), (2, [15, 13, 14], []), (10, [13, 9, 12], []), (1, [12, 10, 11], []), (9, [10, 3], [5]), (9, [9, 3], [2]), (7, [7, 8], [3]), (20, [8, 3], [30, 0, 1, 0, 0, -1, 3, 2005001]), (20, [8, 3], [30, 0, -1, 0, 0, 1, 3, 2005001]), (1, [7, 5, 6], []), (20, [4, 3], [30, -1, 1, 0, 0, -1, 3, 2005001]), (20, [2, 3], [30, -1, 1, 0, 0, -1, 3, 2005000])] ta ws vs := hf
  obtain ⟨f0, hf⟩ := fc_un (show (24 : Nat) < 100 from by decide) hf
  have f0 : n_v vs 0 = n_v vs 3 := f0
  obtain ⟨f1, hf⟩ := fc_un (show (24 : Nat) < 100 from by decide) hf
  have f1 : n_v vs 1 = n_v vs 4 := f1
  obtain ⟨ta1, w1, le1, ⟨_, s1⟩, hf⟩ := fc_us (show ¬ (100 : Nat) < 100 from by decide) hf
  have s1 : (∀ b j, w_el ws b j = if b = v_ad (n_v vs 9) ∧ j = (v_iv (n_v vs 12)).toNat then v_iv (n_v vs 15) else w_el w1 b j) ∧ ∀ b k, w_fd ws b k = w_fd w1 b k := s1
  obtain ⟨f3, hf⟩ := fc_un (show (2 : Nat) < 100 from by decide) hf
  have f3 : v_iv (n_v vs 15) = v_iv (n_v vs 13) - v_iv (n_v vs 14) := f3
  obtain ⟨f4, hf⟩ := fc_un (show (10 : Nat) < 100 from by decide) hf
  have f4 : v_iv (n_v vs 13) = w_el w1 (v_ad (n_v vs 9)) (v_iv (n_v vs 12)).toNat := f4
  obtain ⟨f5, hf⟩ := fc_un (show (1 : Nat) < 100 from by decide) hf
  have f5 : v_iv (n_v vs 12) = v_iv (n_v vs 10) + v_iv (n_v vs 11) := f5
  obtain ⟨f6, hf⟩ := fc_un (show (9 : Nat) < 100 from by decide) hf
  have f6 : n_v vs 10 = w_fd w1 (v_ad (n_v vs 3)) 5 := f6
  obtain ⟨f7, hf⟩ := fc_un (show (9 : Nat) < 100 from by decide) hf
  have f7 : n_v vs 9 = w_fd w1 (v_ad (n_v vs 3)) 2 := f7
  obtain ⟨f8, hf⟩ := fc_un (show (7 : Nat) < 100 from by decide) hf
  have f8 : v_iv (n_v vs 8) ≤ v_iv (n_v vs 7) := f8
  obtain ⟨f9, hf⟩ := fc_un (show (20 : Nat) < 100 from by decide) hf
  have f9 : 1 * v_iv (n_v vs 8) + ((-1) * w_el w1 (w_ar w1 (n_v vs 3) 2) (w_fi w1 (n_v vs 3) 5 + 1).toNat + 0) ≤ 0 := f9
  obtain ⟨f10, hf⟩ := fc_un (show (20 : Nat) < 100 from by decide) hf
  have f10 : (-1) * v_iv (n_v vs 8) + (1 * w_el w1 (w_ar w1 (n_v vs 3) 2) (w_fi w1 (n_v vs 3) 5 + 1).toNat + 0) ≤ 0 := f10
  obtain ⟨f11, hf⟩ := fc_un (show (1 : Nat) < 100 from by decide) hf
  have f11 : v_iv (n_v vs 7) = v_iv (n_v vs 5) + v_iv (n_v vs 6) := f11
  obtain ⟨f12, hf⟩ := fc_un (show (20 : Nat) < 100 from by decide) hf
  have f12 : 1 * v_iv (n_v vs 4) + ((-1) * w_el w1 (w_ar w1 (n_v vs 3) 2) (w_fi w1 (n_v vs 3) 5 + 1).toNat + 0) ≤ (-1) := f12
  obtain ⟨f13, hf⟩ := fc_un (show (20 : Nat) < 100 from by decide) hf
  have f13 : 1 * v_iv (n_v vs 2) + ((-1) * w_el w1 (w_ar w1 (n_v vs 3) 2) (w_fi w1 (n_v vs 3) 5 + 0).toNat + 0) ≤ (-1) := f13
  have q3 : n_v vs 3 = n_v vs 0 := f0.symm
  have q4 : n_v vs 4 = n_v vs 1 := f1.symm
  rw [q3] at f6
  rw [q3] at f7
  rw [q3] at f9
  rw [q3] at f10
  rw [q3] at f12
  rw [q4] at f12
  rw [q3] at f13
  have ar_0_2_1 : w_ar w1 (n_v vs 0) 2 = w_ar ws (n_v vs 0) 2 := by show v_ad (w_fd w1 _ _) = v_ad (w_fd ws _ _); rw [s1.2]
  have cr_0_2 : ta (w_ar ws (n_v vs 0) 2) = some 152 := tv_rg (th_fd hD hth r0 (g := GG_150) rfl (k := 2) (t := (2, 0, 0, [152])) rfl rfl)
  have fi_0_5_1 : w_fi w1 (n_v vs 0) 5 = w_fi ws (n_v vs 0) 5 := by show v_iv (w_fd w1 _ _) = v_iv (w_fd ws _ _); rw [s1.2]
  have ad_9 : v_ad (n_v vs 9) = w_ar ws (n_v vs 0) 2 := (congrArg v_ad f7).trans ar_0_2_1
  rw [ad_9] at f4
  have g6 : v_iv (n_v vs 10) = w_fi w1 (n_v vs 0) 5 := congrArg v_iv f6
  rw [ar_0_2_1] at f9
  rw [fi_0_5_1] at f9
  rw [ar_0_2_1] at f10
  rw [fi_0_5_1] at f10
  rw [ar_0_2_1] at f12
  rw [fi_0_5_1] at f12
  rw [ar_0_2_1] at f13
  rw [fi_0_5_1] at f13
  have cg4_F5_1 : v_iv (n_v vs 12) = w_fi ws (n_v vs 0) 5 + 1 → w_el w1 (w_ar ws (n_v vs 0) 2) (v_iv (n_v vs 12)).toNat = w_el w1 (w_ar ws (n_v vs 0) 2) (w_fi ws (n_v vs 0) 5 + 1).toNat := fun h => by rw [h]
  have cg4_F5_0 : v_iv (n_v vs 12) = w_fi ws (n_v vs 0) 5 + 0 → w_el w1 (w_ar ws (n_v vs 0) 2) (v_iv (n_v vs 12)).toNat = w_el w1 (w_ar ws (n_v vs 0) 2) (w_fi ws (n_v vs 0) 5 + 0).toNat := fun h => by rw [h]
  have fe_0_5_1 : w_fi ws (n_v vs 0) 5 = w_fi w1 (n_v vs 0) 5 := congrArg v_iv (s1.2 _ _)
  first | (have ee_0_2_F5_0_1 : w_el ws (w_ar ws (n_v vs 0) 2) (w_fi ws (n_v vs 0) 5 + 0).toNat = w_el w1 (w_ar ws (n_v vs 0) 2) (w_fi ws (n_v vs 0) 5 + 0).toNat := by rw [s1.1, if_neg (fun e => absurd e.2 (by omega))]) | have ee_0_2_F5_0_1 : ((w_fi ws (n_v vs 0) 5 + 0).toNat = (v_iv (n_v vs 12)).toNat → w_el ws (w_ar ws (n_v vs 0) 2) (w_fi ws (n_v vs 0) 5 + 0).toNat = v_iv (n_v vs 15)) ∧ ((w_fi ws (n_v vs 0) 5 + 0).toNat ≠ (v_iv (n_v vs 12)).toNat → w_el ws (w_ar ws (n_v vs 0) 2) (w_fi ws (n_v vs 0) 5 + 0).toNat = w_el w1 (w_ar ws (n_v vs 0) 2) (w_fi ws (n_v vs 0) 5 + 0).toNat) := ⟨fun h => by rw [s1.1, if_pos ⟨ad_9.symm, h⟩], fun h => by rw [s1.1, if_neg (fun e => h e.2)]⟩
  first | (have ee_0_2_F5_1_1 : w_el ws (w_ar ws (n_v vs 0) 2) (w_fi ws (n_v vs 0) 5 + 1).toNat = w_el w1 (w_ar ws (n_v vs 0) 2) (w_fi ws (n_v vs 0) 5 + 1).toNat := by rw [s1.1, if_neg (fun e => absurd e.2 (by omega))]) | have ee_0_2_F5_1_1 : ((w_fi ws (n_v vs 0) 5 + 1).toNat = (v_iv (n_v vs 12)).toNat → w_el ws (w_ar ws (n_v vs 0) 2) (w_fi ws (n_v vs 0) 5 + 1).toNat = v_iv (n_v vs 15)) ∧ ((w_fi ws (n_v vs 0) 5 + 1).toNat ≠ (v_iv (n_v vs 12)).toNat → w_el ws (w_ar ws (n_v vs 0) 2) (w_fi ws (n_v vs 0) 5 + 1).toNat = w_el w1 (w_ar ws (n_v vs 0) 2) (w_fi ws (n_v vs 0) 5 + 1).toNat) := ⟨fun h => by rw [s1.1, if_pos ⟨ad_9.symm, h⟩], fun h => by rw [s1.1, if_neg (fun e => h e.2)]⟩
  have ee_0_2_12_1 : w_el ws (w_ar ws (n_v vs 0) 2) (v_iv (n_v vs 12)).toNat = v_iv (n_v vs 15) := by rw [s1.1, if_pos ⟨ad_9.symm, rfl⟩]
  have nf0 : fc_1 (20, [1, 0], [30, 0, 1, 0, 0, -1, 3, 2005001]) ws (vs) := by
    refine ⟨fun n hn => ?_, ?_⟩
    · have hn : n ∈ [1, 0] := hn
      rw [hl]
      simp only [List.mem_cons, List.not_mem_nil, or_false] at hn
      show n < 16; omega
    · show 1 * v_iv (n_v vs 1) + ((-1) * w_el ws (w_ar ws (n_v vs 0) 2) (w_fi ws (n_v vs 0) 5 + 1).toNat + 0) ≤ 0
      omega
  have nf1 : fc_1 (20, [2, 0], [30, -1, 1, 0, 0, -1, 3, 2005000]) ws (vs) := by
    refine ⟨fun n hn => ?_, ?_⟩
    · have hn : n ∈ [2, 0] := hn
      rw [hl]
      simp only [List.mem_cons, List.not_mem_nil, or_false] at hn
      show n < 16; omega
    · show 1 * v_iv (n_v vs 2) + ((-1) * w_el ws (w_ar ws (n_v vs 0) 2) (w_fi ws (n_v vs 0) 5 + 0).toNat + 0) ≤ (-1)
      omega
  refine ⟨(fun _ h => (by cases h)), [], trivial, ?_, (fun _ h => (by cases h))⟩
  rw [List.append_nil]
  exact List.forall_mem_cons.mpr ⟨⟨show (20 : Nat) < 100 from by decide, nf0⟩, List.forall_mem_cons.mpr ⟨⟨show (20 : Nat) < 100 from by decide, nf1⟩, (fun _ h => (by cases h))⟩⟩
def o_Mo_dropEdge_at_g0_3 : or_T := (2, 48, [(0, (2, 0, 0, [150])), (1, (0, 0, 47, [])), (2, (0, 0, 23, [])), (3, (2, 0, 0, [150])), (4, (0, 0, 47, [])), (5, (0, 0, 46, [])), (6, (0, 1, 1, [])), (7, (0, 1, 47, [])), (8, (0, 2, 48, [])), (9, (2, 0, 0, [152])), (10, (0, 0, 66297, [])), (11, (0, 267, 267, [])), (12, (0, 267, 66564, [])), (13, (0, 267, 66610, [])), (14, (0, 267, 267, [])), (15, (0, 267, 66564, [])), (16, (0, 267, 66610, [])), (17, (0, 1, 1, [])), (18, (0, 268, 66611, [])), (19, (0, 0, 23, [])), (20, (0, 315, 315, [])), (21, (0, 315, 66612, [])), (22, (0, 315, 66658, [])), (23, (0, 315, 315, [])), (24, (0, 315, 66612, [])), (25, (0, 315, 66658, [])), (26, (0, 1, 1, [])), (27, (0, 316, 66659, [])), (28, (0, 0, 23, [])), (29, (0, 363, 363, [])), (30, (0, 363, 66660, [])), (31, (0, 363, 66706, [])), (32, (0, 363, 363, [])), (33, (0, 363, 66660, [])), (34, (0, 363, 66706, [])), (35, (0, 1, 1, [])), (36, (0, 364, 66707, [])), (37, (0, 0, 9, [])), (38, (0, 411, 411, [])), (39, (0, 411, 66708, [])), (40, (0, 411, 66754, [])), (41, (0, 411, 411, [])), (42, (0, 411, 66708, [])), (43, (0, 411, 66754, [])), (44, (0, 1, 1, [])), (45, (0, 412, 66755, [])), (46, (0, 0, 1, [])), (47, (0, 1, 47, []))], [(6, [47, 5], [1]), (24, [0, 3], []), (24, [1, 4], []), (100, [9, 40, 46], []), (10, [46, 9, 45], []), (1, [45, 43, 44], []), (1, [43, 42, 5], []), (1, [42, 10, 41], []), (9, [10, 3], [5]), (9, [9, 3], [2]), (1, [40, 39, 5], []), (1, [39, 10, 38], []), (100, [9, 31, 37], []), (10, [37, 9, 36], []), (1, [36, 34, 35], []), (1, [34, 33, 5], []), (1, [33, 10, 32], []), (1, [31, 30, 5], []), (1, [30, 10, 29], []), (100, [9, 22, 28], []), (10, [28, 9, 27], []), (1, [27, 25, 26], []), (1, [25, 24, 5], []), (1, [24, 10, 23], []), (1, [22, 21, 5], []), (1, [21, 10, 20], []), (100, [9, 13, 19], []), (10, [19, 9, 18], []), (1, [18, 16, 17], []), (1, [16, 15, 5], []), (1, [15, 10, 14], []), (1, [13, 12, 5], []), (1, [12, 10, 11], []), (7, [7, 8], [2]), (20, [8, 3], [30, 0, 1, 0, 0, -1, 3, 2005001]), (20, [8, 3], [30, 0, -1, 0, 0, 1, 3, 2005001]), (1, [7, 5, 6], []), (20, [4, 3], [30, -1, 1, 0, 0, -1, 3, 2005001]), (20, [2, 3], [30, -1, 1, 0, 0, -1, 3, 2005000])], [], [], [(20, [4, 3], [30, -1, 1, 0, 0, -1, 3, 2005001]), (20, [2, 3], [30, -1, 1, 0, 0, -1, 3, 2005000])], [], [(47, 5, 1, 1), (47, 2, -4294967296, 48), (45, 43, 1, 1), (45, 5, 412, 66709), (45, 2, -4294967296, 66756), (45, 42, 1, 47), (45, 10, 412, 458), (43, 5, 411, 66708), (43, 2, -4294967296, 66755), (43, 42, 0, 46), (43, 10, 411, 457), (42, 10, 411, 411), (40, 5, 411, 66708), (40, 2, -4294967296, 66755), (40, 39, 0, 46), (40, 10, 411, 457), (39, 10, 411, 411), (36, 34, 1, 1), (36, 5, 364, 66661), (36, 2, -4294967296, 66708), (36, 33, 1, 47), (36, 10, 364, 410), (34, 5, 363, 66660), (34, 2, -4294967296, 66707), (34, 33, 0, 46), (34, 10, 363, 409), (33, 10, 363, 363), (31, 5, 363, 66660), (31, 2, -4294967296, 66707), (31, 30, 0, 46), (31, 10, 363, 409), (30, 10, 363, 363), (27, 25, 1, 1), (27, 5, 316, 66613), (27, 2, -4294967296, 66660), (27, 24, 1, 47), (27, 10, 316, 362), (25, 5, 315, 66612), (25, 2, -4294967296, 66659), (25, 24, 0, 46), (25, 10, 315, 361), (24, 10, 315, 315), (22, 5, 315, 66612), (22, 2, -4294967296, 66659), (22, 21, 0, 46), (22, 10, 315, 361), (21, 10, 315, 315), (18, 16, 1, 1), (18, 5, 268, 66565), (18, 2, -4294967296, 66612), (18, 15, 1, 47), (18, 10, 268, 314), (16, 5, 267, 66564), (16, 2, -4294967296, 66611), (16, 15, 0, 46), (16, 10, 267, 313), (15, 10, 267, 267), (13, 5, 267, 66564), (13, 2, -4294967296, 66611), (13, 12, 0, 46), (13, 10, 267, 313), (12, 10, 267, 267), (7, 8, -4294967296, -1), (7, 5, 1, 1), (7, 2, -4294967296, 48), (1, 2, -4294967296, 47), (1, 4, -4294967296, 0), (1, 5, -4294967296, 0), (2, 1, -4294967296, 23), (2, 4, -4294967296, 23), (2, 5, -4294967296, 23), (4, 1, -4294967296, 0), (4, 2, -4294967296, 47), (4, 5, -4294967296, 0), (5, 2, -4294967296, 47)])
theorem oo_Mo_dropEdge_at_g0_3 {kA : Nat → ClassId} : or_ok kA GG o_Mo_dropEdge_at_g0_3 := by
  intro A ta ws vs hD hth hl hk hds hf
  have hl : vs.length = 48 := hl
  have hk : ∀ q ∈ ([(0, (2, 0, 0, [150])), (1, (0, 0, 47, [])), (2, (0, 0, 23, [])), (3, (2, 0, 0, [150])), (4, (0, 0, 47, [])), (5, (0, 0, 46, [])), (6, (0, 1, 1, [])), (7, (0, 1, 47, [])), (8, (0, 2, 48, [])), (9, (2, 0, 0, [152])), (10, (0, 0, 66297, [])), (11, (0, 267, 267, [])), (12, (0, 267, 66564, [])), (13, (0, 267, 66610, [])), (14, (0, 267, 267, [])), (15, (0, 267, 66564, [])), (16, (0, 267, 66610, [])), (17, (0, 1, 1, [])), (18, (0, 268, 66611, [])), (19, (0, 0, 23, [])), (20, (0, 315, 315, [])), (21, (0, 315, 66612, [])), (22, (0, 315, 66658, [])), (23, (0, 315, 315, [])), (24, (0, 315, 66612, [])), (25, (0, 315, 66658, [])), (26, (0, 1, 1, [])), (27, (0, 316, 66659, [])), (28, (0, 0, 23, [])), (29, (0, 363, 363, [])), (30, (0, 363, 66660, [])), (31, (0, 363, 66706, [])), (32, (0, 363, 363, [])), (33, (0, 363, 66660, [])), (34, (0, 363, 66706, [])), (35, (0, 1, 1, [])), (36, (0, 364, 66707, [])), (37, (0, 0, 9, [])), (38, (0, 411, 411, [])), (39, (0, 411, 66708, [])), (40, (0, 411, 66754, [])), (41, (0, 411, 411, [])), (42, (0, 411, 66708, [])), (43, (0, 411, 66754, [])), (44, (0, 1, 1, [])), (45, (0, 412, 66755, [])), (46, (0, 0, 1, [])), (47, (0, 1, 47, []))] : List (Nat × tv_T)), tv_ok ta q.2 (n_v vs q.1) := hk
  obtain ⟨t0, hk⟩ := List.forall_mem_cons.mp hk
  have t0 : tv_ok ta (2, 0, 0, [150]) (n_v vs 0) := t0
  have r0 : ta (v_ad (n_v vs 0)) = some 150 := tv_rg t0
  obtain ⟨t1, hk⟩ := List.forall_mem_cons.mp hk
  have t1 : tv_ok ta (0, 0, 47, []) (n_v vs 1) := t1
  have k1 : 0 ≤ v_iv (n_v vs 1) ∧ v_iv (n_v vs 1) ≤ 47 := tv_rng t1
  obtain ⟨t2, hk⟩ := List.forall_mem_cons.mp hk
  have t2 : tv_ok ta (0, 0, 23, []) (n_v vs 2) := t2
  have k2 : 0 ≤ v_iv (n_v vs 2) ∧ v_iv (n_v vs 2) ≤ 23 := tv_rng t2
  obtain ⟨t3, hk⟩ := List.forall_mem_cons.mp hk
  have t3 : tv_ok ta (2, 0, 0, [150]) (n_v vs 3) := t3
  have r3 : ta (v_ad (n_v vs 3)) = some 150 := tv_rg t3
  obtain ⟨t4, hk⟩ := List.forall_mem_cons.mp hk
  have t4 : tv_ok ta (0, 0, 47, []) (n_v vs 4) := t4
  have k4 : 0 ≤ v_iv (n_v vs 4) ∧ v_iv (n_v vs 4) ≤ 47 := tv_rng t4
  obtain ⟨t5, hk⟩ := List.forall_mem_cons.mp hk
  have t5 : tv_ok ta (0, 0, 46, []) (n_v vs 5) := t5
  have k5 : 0 ≤ v_iv (n_v vs 5) ∧ v_iv (n_v vs 5) ≤ 46 := tv_rng t5
  obtain ⟨t6, hk⟩ := List.forall_mem_cons.mp hk
  have t6 : tv_ok ta (0, 1, 1, []) (n_v vs 6) := t6
  have k6 : 1 ≤ v_iv (n_v vs 6) ∧ v_iv (n_v vs 6) ≤ 1 := tv_rng t6
  obtain ⟨t7, hk⟩ := List.forall_mem_cons.mp hk
  have t7 : tv_ok ta (0, 1, 47, []) (n_v vs 7) := t7
  have k7 : 1 ≤ v_iv (n_v vs 7) ∧ v_iv (n_v vs 7) ≤ 47 := tv_rng t7
  obtain ⟨t8, hk⟩ := List.forall_mem_cons.mp hk
  have t8 : tv_ok ta (0, 2, 48, []) (n_v vs 8) := t8
  have k8 : 2 ≤ v_iv (n_v vs 8) ∧ v_iv (n_v vs 8) ≤ 48 := tv_rng t8
  obtain ⟨t9, hk⟩ := List.forall_mem_cons.mp hk
  have t9 : tv_ok ta (2, 0, 0, [152]) (n_v vs 9) := t9
  have r9 : ta (v_ad (n_v vs 9)) = some 152 := tv_rg t9
  obtain ⟨t10, hk⟩ := List.forall_mem_cons.mp hk
  have t10 : tv_ok ta (0, 0, 66297, []) (n_v vs 10) := t10
  have k10 : 0 ≤ v_iv (n_v vs 10) ∧ v_iv (n_v vs 10) ≤ 66297 := tv_rng t10
  obtain ⟨t11, hk⟩ := List.forall_mem_cons.mp hk
  have t11 : tv_ok ta (0, 267, 267, []) (n_v vs 11) := t11
  have k11 : 267 ≤ v_iv (n_v vs 11) ∧ v_iv (n_v vs 11) ≤ 267 := tv_rng t11
  obtain ⟨t12, hk⟩ := List.forall_mem_cons.mp hk
  have t12 : tv_ok ta (0, 267, 66564, []) (n_v vs 12) := t12
  have k12 : 267 ≤ v_iv (n_v vs 12) ∧ v_iv (n_v vs 12) ≤ 66564 := tv_rng t12
  obtain ⟨t13, hk⟩ := List.forall_mem_cons.mp hk
  have t13 : tv_ok ta (0, 267, 66610, []) (n_v vs 13) := t13
  have k13 : 267 ≤ v_iv (n_v vs 13) ∧ v_iv (n_v vs 13) ≤ 66610 := tv_rng t13
  obtain ⟨t14, hk⟩ := List.forall_mem_cons.mp hk
  have t14 : tv_ok ta (0, 267, 267, []) (n_v vs 14) := t14
  have k14 : 267 ≤ v_iv (n_v vs 14) ∧ v_iv (n_v vs 14) ≤ 267 := tv_rng t14
  obtain ⟨t15, hk⟩ := List.forall_mem_cons.mp hk
  have t15 : tv_ok ta (0, 267, 66564, []) (n_v vs 15) := t15
  have k15 : 267 ≤ v_iv (n_v vs 15) ∧ v_iv (n_v vs 15) ≤ 66564 := tv_rng t15
  obtain ⟨t16, hk⟩ := List.forall_mem_cons.mp hk
  have t16 : tv_ok ta (0, 267, 66610, []) (n_v vs 16) := t16
  have k16 : 267 ≤ v_iv (n_v vs 16) ∧ v_iv (n_v vs 16) ≤ 66610 := tv_rng t16
  obtain ⟨t17, hk⟩ := List.forall_mem_cons.mp hk
  have t17 : tv_ok ta (0, 1, 1, []) (n_v vs 17) := t17
  have k17 : 1 ≤ v_iv (n_v vs 17) ∧ v_iv (n_v vs 17) ≤ 1 := tv_rng t17
  obtain ⟨t18, hk⟩ := List.forall_mem_cons.mp hk
  have t18 : tv_ok ta (0, 268, 66611, []) (n_v vs 18) := t18
  have k18 : 268 ≤ v_iv (n_v vs 18) ∧ v_iv (n_v vs 18) ≤ 66611 := tv_rng t18
  obtain ⟨t19, hk⟩ := List.forall_mem_cons.mp hk
  have t19 : tv_ok ta (0, 0, 23, []) (n_v vs 19) := t19
  have k19 : 0 ≤ v_iv (n_v vs 19) ∧ v_iv (n_v vs 19) ≤ 23 := tv_rng t19
  obtain ⟨t20, hk⟩ := List.forall_mem_cons.mp hk
  have t20 : tv_ok ta (0, 315, 315, []) (n_v vs 20) := t20
  have k20 : 315 ≤ v_iv (n_v vs 20) ∧ v_iv (n_v vs 20) ≤ 315 := tv_rng t20
  obtain ⟨t21, hk⟩ := List.forall_mem_cons.mp hk
  have t21 : tv_ok ta (0, 315, 66612, []) (n_v vs 21) := t21
  have k21 : 315 ≤ v_iv (n_v vs 21) ∧ v_iv (n_v vs 21) ≤ 66612 := tv_rng t21
  obtain ⟨t22, hk⟩ := List.forall_mem_cons.mp hk
  have t22 : tv_ok ta (0, 315, 66658, []) (n_v vs 22) := t22
  have k22 : 315 ≤ v_iv (n_v vs 22) ∧ v_iv (n_v vs 22) ≤ 66658 := tv_rng t22
  obtain ⟨t23, hk⟩ := List.forall_mem_cons.mp hk
  have t23 : tv_ok ta (0, 315, 315, []) (n_v vs 23) := t23
  have k23 : 315 ≤ v_iv (n_v vs 23) ∧ v_iv (n_v vs 23) ≤ 315 := tv_rng t23
  obtain ⟨t24, hk⟩ := List.forall_mem_cons.mp hk
  have t24 : tv_ok ta (0, 315, 66612, []) (n_v vs 24) := t24
  have k24 : 315 ≤ v_iv (n_v vs 24) ∧ v_iv (n_v vs 24) ≤ 66612 := tv_rng t24
  obtain ⟨t25, hk⟩ := List.forall_mem_cons.mp hk
  have t25 : tv_ok ta (0, 315, 66658, []) (n_v vs 25) := t25
  have k25 : 315 ≤ v_iv (n_v vs 25) ∧ v_iv (n_v vs 25) ≤ 66658 := tv_rng t25
  obtain ⟨t26, hk⟩ := List.forall_mem_cons.mp hk
  have t26 : tv_ok ta (0, 1, 1, []) (n_v vs 26) := t26
  have k26 : 1 ≤ v_iv (n_v vs 26) ∧ v_iv (n_v vs 26) ≤ 1 := tv_rng t26
  obtain ⟨t27, hk⟩ := List.forall_mem_cons.mp hk
  have t27 : tv_ok ta (0, 316, 66659, []) (n_v vs 27) := t27
  have k27 : 316 ≤ v_iv (n_v vs 27) ∧ v_iv (n_v vs 27) ≤ 66659 := tv_rng t27
  obtain ⟨t28, hk⟩ := List.forall_mem_cons.mp hk
  have t28 : tv_ok ta (0, 0, 23, []) (n_v vs 28) := t28
  have k28 : 0 ≤ v_iv (n_v vs 28) ∧ v_iv (n_v vs 28) ≤ 23 := tv_rng t28
  obtain ⟨t29, hk⟩ := List.forall_mem_cons.mp hk
  have t29 : tv_ok ta (0, 363, 363, []) (n_v vs 29) := t29
  have k29 : 363 ≤ v_iv (n_v vs 29) ∧ v_iv (n_v vs 29) ≤ 363 := tv_rng t29
  obtain ⟨t30, hk⟩ := List.forall_mem_cons.mp hk
  have t30 : tv_ok ta (0, 363, 66660, []) (n_v vs 30) := t30
  have k30 : 363 ≤ v_iv (n_v vs 30) ∧ v_iv (n_v vs 30) ≤ 66660 := tv_rng t30
  obtain ⟨t31, hk⟩ := List.forall_mem_cons.mp hk
  have t31 : tv_ok ta (0, 363, 66706, []) (n_v vs 31) := t31
  have k31 : 363 ≤ v_iv (n_v vs 31) ∧ v_iv (n_v vs 31) ≤ 66706 := tv_rng t31
  obtain ⟨t32, hk⟩ := List.forall_mem_cons.mp hk
  have t32 : tv_ok ta (0, 363, 363, []) (n_v vs 32) := t32
  have k32 : 363 ≤ v_iv (n_v vs 32) ∧ v_iv (n_v vs 32) ≤ 363 := tv_rng t32
  obtain ⟨t33, hk⟩ := List.forall_mem_cons.mp hk
  have t33 : tv_ok ta (0, 363, 66660, []) (n_v vs 33) := t33
  have k33 : 363 ≤ v_iv (n_v vs 33) ∧ v_iv (n_v vs 33) ≤ 66660 := tv_rng t33
  obtain ⟨t34, hk⟩ := List.forall_mem_cons.mp hk
  have t34 : tv_ok ta (0, 363, 66706, []) (n_v vs 34) := t34
  have k34 : 363 ≤ v_iv (n_v vs 34) ∧ v_iv (n_v vs 34) ≤ 66706 := tv_rng t34
  obtain ⟨t35, hk⟩ := List.forall_mem_cons.mp hk
  have t35 : tv_ok ta (0, 1, 1, []) (n_v vs 35) := t35
  have k35 : 1 ≤ v_iv (n_v vs 35) ∧ v_iv (n_v vs 35) ≤ 1 := tv_rng t35
  obtain ⟨t36, hk⟩ := List.forall_mem_cons.mp hk
  have t36 : tv_ok ta (0, 364, 66707, []) (n_v vs 36) := t36
  have k36 : 364 ≤ v_iv (n_v vs 36) ∧ v_iv (n_v vs 36) ≤ 66707 := tv_rng t36
  obtain ⟨t37, hk⟩ := List.forall_mem_cons.mp hk
  have t37 : tv_ok ta (0, 0, 9, []) (n_v vs 37) := t37
  have k37 : 0 ≤ v_iv (n_v vs 37) ∧ v_iv (n_v vs 37) ≤ 9 := tv_rng t37
  obtain ⟨t38, hk⟩ := List.forall_mem_cons.mp hk
  have t38 : tv_ok ta (0, 411, 411, []) (n_v vs 38) := t38
  have k38 : 411 ≤ v_iv (n_v vs 38) ∧ v_iv (n_v vs 38) ≤ 411 := tv_rng t38
  obtain ⟨t39, hk⟩ := List.forall_mem_cons.mp hk
  have t39 : tv_ok ta (0, 411, 66708, []) (n_v vs 39) := t39
  have k39 : 411 ≤ v_iv (n_v vs 39) ∧ v_iv (n_v vs 39) ≤ 66708 := tv_rng t39
  obtain ⟨t40, hk⟩ := List.forall_mem_cons.mp hk
  have t40 : tv_ok ta (0, 411, 66754, []) (n_v vs 40) := t40
  have k40 : 411 ≤ v_iv (n_v vs 40) ∧ v_iv (n_v vs 40) ≤ 66754 := tv_rng t40
  obtain ⟨t41, hk⟩ := List.forall_mem_cons.mp hk
  have t41 : tv_ok ta (0, 411, 411, []) (n_v vs 41) := t41
  have k41 : 411 ≤ v_iv (n_v vs 41) ∧ v_iv (n_v vs 41) ≤ 411 := tv_rng t41
  obtain ⟨t42, hk⟩ := List.forall_mem_cons.mp hk
  have t42 : tv_ok ta (0, 411, 66708, []) (n_v vs 42) := t42
  have k42 : 411 ≤ v_iv (n_v vs 42) ∧ v_iv (n_v vs 42) ≤ 66708 := tv_rng t42
  obtain ⟨t43, hk⟩ := List.forall_mem_cons.mp hk
  have t43 : tv_ok ta (0, 411, 66754, []) (n_v vs 43) := t43
  have k43 : 411 ≤ v_iv (n_v vs 43) ∧ v_iv (n_v vs 43) ≤ 66754 := tv_rng t43
  obtain ⟨t44, hk⟩ := List.forall_mem_cons.mp hk
  have t44 : tv_ok ta (0, 1, 1, []) (n_v vs 44) := t44
  have k44 : 1 ≤ v_iv (n_v vs 44) ∧ v_iv (n_v vs 44) ≤ 1 := tv_rng t44
  obtain ⟨t45, hk⟩ := List.forall_mem_cons.mp hk
  have t45 : tv_ok ta (0, 412, 66755, []) (n_v vs 45) := t45
  have k45 : 412 ≤ v_iv (n_v vs 45) ∧ v_iv (n_v vs 45) ≤ 66755 := tv_rng t45
  obtain ⟨t46, hk⟩ := List.forall_mem_cons.mp hk
  have t46 : tv_ok ta (0, 0, 1, []) (n_v vs 46) := t46
  have k46 : 0 ≤ v_iv (n_v vs 46) ∧ v_iv (n_v vs 46) ≤ 1 := tv_rng t46
  obtain ⟨t47, hk⟩ := List.forall_mem_cons.mp hk
  have t47 : tv_ok ta (0, 1, 47, []) (n_v vs 47) := t47
  have k47 : 1 ≤ v_iv (n_v vs 47) ∧ v_iv (n_v vs 47) ≤ 47 := tv_rng t47
  have hds : ∀ q ∈ ([(47, 5, 1, 1), (47, 2, -4294967296, 48), (45, 43, 1, 1), (45, 5, 412, 66709), (45, 2, -4294967296, 66756), (45, 42, 1, 47), (45, 10, 412, 458), (43, 5, 411, 66708), (43, 2, -4294967296, 66755), (43, 42, 0, 46), (43, 10, 411, 457), (42, 10, 411, 411), (40, 5, 411, 66708), (40, 2, -4294967296, 66755), (40, 39, 0, 46), (40, 10, 411, 457), (39, 10, 411, 411), (36, 34, 1, 1), (36, 5, 364, 66661), (36, 2, -4294967296, 66708), (36, 33, 1, 47), (36, 10, 364, 410), (34, 5, 363, 66660), (34, 2, -4294967296, 66707), (34, 33, 0, 46), (34, 10, 363, 409), (33, 10, 363, 363), (31, 5, 363, 66660), (31, 2, -4294967296, 66707), (31, 30, 0, 46), (31, 10, 363, 409), (30, 10, 363, 363), (27, 25, 1, 1), (27, 5, 316, 66613), (27, 2, -4294967296, 66660), (27, 24, 1, 47), (27, 10, 316, 362), (25, 5, 315, 66612), (25, 2, -4294967296, 66659), (25, 24, 0, 46), (25, 10, 315, 361), (24, 10, 315, 315), (22, 5, 315, 66612), (22, 2, -4294967296, 66659), (22, 21, 0, 46), (22, 10, 315, 361), (21, 10, 315, 315), (18, 16, 1, 1), (18, 5, 268, 66565), (18, 2, -4294967296, 66612), (18, 15, 1, 47), (18, 10, 268, 314), (16, 5, 267, 66564), (16, 2, -4294967296, 66611), (16, 15, 0, 46), (16, 10, 267, 313), (15, 10, 267, 267), (13, 5, 267, 66564), (13, 2, -4294967296, 66611), (13, 12, 0, 46), (13, 10, 267, 313), (12, 10, 267, 267), (7, 8, -4294967296, -1), (7, 5, 1, 1), (7, 2, -4294967296, 48), (1, 2, -4294967296, 47), (1, 4, -4294967296, 0), (1, 5, -4294967296, 0), (2, 1, -4294967296, 23), (2, 4, -4294967296, 23), (2, 5, -4294967296, 23), (4, 1, -4294967296, 0), (4, 2, -4294967296, 47), (4, 5, -4294967296, 0), (5, 2, -4294967296, 47)] : List of_T), n_iv vs q.2.1 + q.2.2.1 ≤ n_iv vs q.1 ∧ n_iv vs q.1 ≤ n_iv vs q.2.1 + q.2.2.2 := hds
  obtain ⟨d0, hds⟩ := List.forall_mem_cons.mp hds
  have d0 : v_iv (n_v vs 5) + 1 ≤ v_iv (n_v vs 47) ∧ v_iv (n_v vs 47) ≤ v_iv (n_v vs 5) + 1 := d0
  obtain ⟨d1, hds⟩ := List.forall_mem_cons.mp hds
  have d1 : v_iv (n_v vs 2) + (-4294967296) ≤ v_iv (n_v vs 47) ∧ v_iv (n_v vs 47) ≤ v_iv (n_v vs 2) + 48 := d1
  obtain ⟨d2, hds⟩ := List.forall_mem_cons.mp hds
  have d2 : v_iv (n_v vs 43) + 1 ≤ v_iv (n_v vs 45) ∧ v_iv (n_v vs 45) ≤ v_iv (n_v vs 43) + 1 := d2
  obtain ⟨d3, hds⟩ := List.forall_mem_cons.mp hds
  have d3 : v_iv (n_v vs 5) + 412 ≤ v_iv (n_v vs 45) ∧ v_iv (n_v vs 45) ≤ v_iv (n_v vs 5) + 66709 := d3
  obtain ⟨d4, hds⟩ := List.forall_mem_cons.mp hds
  have d4 : v_iv (n_v vs 2) + (-4294967296) ≤ v_iv (n_v vs 45) ∧ v_iv (n_v vs 45) ≤ v_iv (n_v vs 2) + 66756 := d4
  obtain ⟨d5, hds⟩ := List.forall_mem_cons.mp hds
  have d5 : v_iv (n_v vs 42) + 1 ≤ v_iv (n_v vs 45) ∧ v_iv (n_v vs 45) ≤ v_iv (n_v vs 42) + 47 := d5
  obtain ⟨d6, hds⟩ := List.forall_mem_cons.mp hds
  have d6 : v_iv (n_v vs 10) + 412 ≤ v_iv (n_v vs 45) ∧ v_iv (n_v vs 45) ≤ v_iv (n_v vs 10) + 458 := d6
  obtain ⟨d7, hds⟩ := List.forall_mem_cons.mp hds
  have d7 : v_iv (n_v vs 5) + 411 ≤ v_iv (n_v vs 43) ∧ v_iv (n_v vs 43) ≤ v_iv (n_v vs 5) + 66708 := d7
  obtain ⟨d8, hds⟩ := List.forall_mem_cons.mp hds
  have d8 : v_iv (n_v vs 2) + (-4294967296) ≤ v_iv (n_v vs 43) ∧ v_iv (n_v vs 43) ≤ v_iv (n_v vs 2) + 66755 := d8
  obtain ⟨d9, hds⟩ := List.forall_mem_cons.mp hds
  have d9 : v_iv (n_v vs 42) + 0 ≤ v_iv (n_v vs 43) ∧ v_iv (n_v vs 43) ≤ v_iv (n_v vs 42) + 46 := d9
  obtain ⟨d10, hds⟩ := List.forall_mem_cons.mp hds
  have d10 : v_iv (n_v vs 10) + 411 ≤ v_iv (n_v vs 43) ∧ v_iv (n_v vs 43) ≤ v_iv (n_v vs 10) + 457 := d10
  obtain ⟨d11, hds⟩ := List.forall_mem_cons.mp hds
  have d11 : v_iv (n_v vs 10) + 411 ≤ v_iv (n_v vs 42) ∧ v_iv (n_v vs 42) ≤ v_iv (n_v vs 10) + 411 := d11
  obtain ⟨d12, hds⟩ := List.forall_mem_cons.mp hds
  have d12 : v_iv (n_v vs 5) + 411 ≤ v_iv (n_v vs 40) ∧ v_iv (n_v vs 40) ≤ v_iv (n_v vs 5) + 66708 := d12
  obtain ⟨d13, hds⟩ := List.forall_mem_cons.mp hds
  have d13 : v_iv (n_v vs 2) + (-4294967296) ≤ v_iv (n_v vs 40) ∧ v_iv (n_v vs 40) ≤ v_iv (n_v vs 2) + 66755 := d13
  obtain ⟨d14, hds⟩ := List.forall_mem_cons.mp hds
  have d14 : v_iv (n_v vs 39) + 0 ≤ v_iv (n_v vs 40) ∧ v_iv (n_v vs 40) ≤ v_iv (n_v vs 39) + 46 := d14
  obtain ⟨d15, hds⟩ := List.forall_mem_cons.mp hds
  have d15 : v_iv (n_v vs 10) + 411 ≤ v_iv (n_v vs 40) ∧ v_iv (n_v vs 40) ≤ v_iv (n_v vs 10) + 457 := d15
  obtain ⟨d16, hds⟩ := List.forall_mem_cons.mp hds
  have d16 : v_iv (n_v vs 10) + 411 ≤ v_iv (n_v vs 39) ∧ v_iv (n_v vs 39) ≤ v_iv (n_v vs 10) + 411 := d16
  obtain ⟨d17, hds⟩ := List.forall_mem_cons.mp hds
  have d17 : v_iv (n_v vs 34) + 1 ≤ v_iv (n_v vs 36) ∧ v_iv (n_v vs 36) ≤ v_iv (n_v vs 34) + 1 := d17
  obtain ⟨d18, hds⟩ := List.forall_mem_cons.mp hds
  have d18 : v_iv (n_v vs 5) + 364 ≤ v_iv (n_v vs 36) ∧ v_iv (n_v vs 36) ≤ v_iv (n_v vs 5) + 66661 := d18
  obtain ⟨d19, hds⟩ := List.forall_mem_cons.mp hds
  have d19 : v_iv (n_v vs 2) + (-4294967296) ≤ v_iv (n_v vs 36) ∧ v_iv (n_v vs 36) ≤ v_iv (n_v vs 2) + 66708 := d19
  obtain ⟨d20, hds⟩ := List.forall_mem_cons.mp hds
  have d20 : v_iv (n_v vs 33) + 1 ≤ v_iv (n_v vs 36) ∧ v_iv (n_v vs 36) ≤ v_iv (n_v vs 33) + 47 := d20
  obtain ⟨d21, hds⟩ := List.forall_mem_cons.mp hds
  have d21 : v_iv (n_v vs 10) + 364 ≤ v_iv (n_v vs 36) ∧ v_iv (n_v vs 36) ≤ v_iv (n_v vs 10) + 410 := d21
  obtain ⟨d22, hds⟩ := List.forall_mem_cons.mp hds
  have d22 : v_iv (n_v vs 5) + 363 ≤ v_iv (n_v vs 34) ∧ v_iv (n_v vs 34) ≤ v_iv (n_v vs 5) + 66660 := d22
  obtain ⟨d23, hds⟩ := List.forall_mem_cons.mp hds
  have d23 : v_iv (n_v vs 2) + (-4294967296) ≤ v_iv (n_v vs 34) ∧ v_iv (n_v vs 34) ≤ v_iv (n_v vs 2) + 66707 := d23
  obtain ⟨d24, hds⟩ := List.forall_mem_cons.mp hds
  have d24 : v_iv (n_v vs 33) + 0 ≤ v_iv (n_v vs 34) ∧ v_iv (n_v vs 34) ≤ v_iv (n_v vs 33) + 46 := d24
  obtain ⟨d25, hds⟩ := List.forall_mem_cons.mp hds
  have d25 : v_iv (n_v vs 10) + 363 ≤ v_iv (n_v vs 34) ∧ v_iv (n_v vs 34) ≤ v_iv (n_v vs 10) + 409 := d25
  obtain ⟨d26, hds⟩ := List.forall_mem_cons.mp hds
  have d26 : v_iv (n_v vs 10) + 363 ≤ v_iv (n_v vs 33) ∧ v_iv (n_v vs 33) ≤ v_iv (n_v vs 10) + 363 := d26
  obtain ⟨d27, hds⟩ := List.forall_mem_cons.mp hds
  have d27 : v_iv (n_v vs 5) + 363 ≤ v_iv (n_v vs 31) ∧ v_iv (n_v vs 31) ≤ v_iv (n_v vs 5) + 66660 := d27
  obtain ⟨d28, hds⟩ := List.forall_mem_cons.mp hds
  have d28 : v_iv (n_v vs 2) + (-4294967296) ≤ v_iv (n_v vs 31) ∧ v_iv (n_v vs 31) ≤ v_iv (n_v vs 2) + 66707 := d28
  obtain ⟨d29, hds⟩ := List.forall_mem_cons.mp hds
  have d29 : v_iv (n_v vs 30) + 0 ≤ v_iv (n_v vs 31) ∧ v_iv (n_v vs 31) ≤ v_iv (n_v vs 30) + 46 := d29
  obtain ⟨d30, hds⟩ := List.forall_mem_cons.mp hds
  have d30 : v_iv (n_v vs 10) + 363 ≤ v_iv (n_v vs 31) ∧ v_iv (n_v vs 31) ≤ v_iv (n_v vs 10) + 409 := d30
  obtain ⟨d31, hds⟩ := List.forall_mem_cons.mp hds
  have d31 : v_iv (n_v vs 10) + 363 ≤ v_iv (n_v vs 30) ∧ v_iv (n_v vs 30) ≤ v_iv (n_v vs 10) + 363 := d31
  obtain ⟨d32, hds⟩ := List.forall_mem_cons.mp hds
  have d32 : v_iv (n_v vs 25) + 1 ≤ v_iv (n_v vs 27) ∧ v_iv (n_v vs 27) ≤ v_iv (n_v vs 25) + 1 := d32
  obtain ⟨d33, hds⟩ := List.forall_mem_cons.mp hds
  have d33 : v_iv (n_v vs 5) + 316 ≤ v_iv (n_v vs 27) ∧ v_iv (n_v vs 27) ≤ v_iv (n_v vs 5) + 66613 := d33
  obtain ⟨d34, hds⟩ := List.forall_mem_cons.mp hds
  have d34 : v_iv (n_v vs 2) + (-4294967296) ≤ v_iv (n_v vs 27) ∧ v_iv (n_v vs 27) ≤ v_iv (n_v vs 2) + 66660 := d34
  obtain ⟨d35, hds⟩ := List.forall_mem_cons.mp hds
  have d35 : v_iv (n_v vs 24) + 1 ≤ v_iv (n_v vs 27) ∧ v_iv (n_v vs 27) ≤ v_iv (n_v vs 24) + 47 := d35
  obtain ⟨d36, hds⟩ := List.forall_mem_cons.mp hds
  have d36 : v_iv (n_v vs 10) + 316 ≤ v_iv (n_v vs 27) ∧ v_iv (n_v vs 27) ≤ v_iv (n_v vs 10) + 362 := d36
  obtain ⟨d37, hds⟩ := List.forall_mem_cons.mp hds
  have d37 : v_iv (n_v vs 5) + 315 ≤ v_iv (n_v vs 25) ∧ v_iv (n_v vs 25) ≤ v_iv (n_v vs 5) + 66612 := d37
  obtain ⟨d38, hds⟩ := List.forall_mem_cons.mp hds
  have d38 : v_iv (n_v vs 2) + (-4294967296) ≤ v_iv (n_v vs 25) ∧ v_iv (n_v vs 25) ≤ v_iv (n_v vs 2) + 66659 := d38
  obtain ⟨d39, hds⟩ := List.forall_mem_cons.mp hds
  have d39 : v_iv (n_v vs 24) + 0 ≤ v_iv (n_v vs 25) ∧ v_iv (n_v vs 25) ≤ v_iv (n_v vs 24) + 46 := d39
  obtain ⟨d40, hds⟩ := List.forall_mem_cons.mp hds
  have d40 : v_iv (n_v vs 10) + 315 ≤ v_iv (n_v vs 25) ∧ v_iv (n_v vs 25) ≤ v_iv (n_v vs 10) + 361 := d40
  obtain ⟨d41, hds⟩ := List.forall_mem_cons.mp hds
  have d41 : v_iv (n_v vs 10) + 315 ≤ v_iv (n_v vs 24) ∧ v_iv (n_v vs 24) ≤ v_iv (n_v vs 10) + 315 := d41
  obtain ⟨d42, hds⟩ := List.forall_mem_cons.mp hds
  have d42 : v_iv (n_v vs 5) + 315 ≤ v_iv (n_v vs 22) ∧ v_iv (n_v vs 22) ≤ v_iv (n_v vs 5) + 66612 := d42
  obtain ⟨d43, hds⟩ := List.forall_mem_cons.mp hds
  have d43 : v_iv (n_v vs 2) + (-4294967296) ≤ v_iv (n_v vs 22) ∧ v_iv (n_v vs 22) ≤ v_iv (n_v vs 2) + 66659 := d43
  obtain ⟨d44, hds⟩ := List.forall_mem_cons.mp hds
  have d44 : v_iv (n_v vs 21) + 0 ≤ v_iv (n_v vs 22) ∧ v_iv (n_v vs 22) ≤ v_iv (n_v vs 21) + 46 := d44
  obtain ⟨d45, hds⟩ := List.forall_mem_cons.mp hds
  have d45 : v_iv (n_v vs 10) + 315 ≤ v_iv (n_v vs 22) ∧ v_iv (n_v vs 22) ≤ v_iv (n_v vs 10) + 361 := d45
  obtain ⟨d46, hds⟩ := List.forall_mem_cons.mp hds
  have d46 : v_iv (n_v vs 10) + 315 ≤ v_iv (n_v vs 21) ∧ v_iv (n_v vs 21) ≤ v_iv (n_v vs 10) + 315 := d46
  obtain ⟨d47, hds⟩ := List.forall_mem_cons.mp hds
  have d47 : v_iv (n_v vs 16) + 1 ≤ v_iv (n_v vs 18) ∧ v_iv (n_v vs 18) ≤ v_iv (n_v vs 16) + 1 := d47
  obtain ⟨d48, hds⟩ := List.forall_mem_cons.mp hds
  have d48 : v_iv (n_v vs 5) + 268 ≤ v_iv (n_v vs 18) ∧ v_iv (n_v vs 18) ≤ v_iv (n_v vs 5) + 66565 := d48
  obtain ⟨d49, hds⟩ := List.forall_mem_cons.mp hds
  have d49 : v_iv (n_v vs 2) + (-4294967296) ≤ v_iv (n_v vs 18) ∧ v_iv (n_v vs 18) ≤ v_iv (n_v vs 2) + 66612 := d49
  obtain ⟨d50, hds⟩ := List.forall_mem_cons.mp hds
  have d50 : v_iv (n_v vs 15) + 1 ≤ v_iv (n_v vs 18) ∧ v_iv (n_v vs 18) ≤ v_iv (n_v vs 15) + 47 := d50
  obtain ⟨d51, hds⟩ := List.forall_mem_cons.mp hds
  have d51 : v_iv (n_v vs 10) + 268 ≤ v_iv (n_v vs 18) ∧ v_iv (n_v vs 18) ≤ v_iv (n_v vs 10) + 314 := d51
  obtain ⟨d52, hds⟩ := List.forall_mem_cons.mp hds
  have d52 : v_iv (n_v vs 5) + 267 ≤ v_iv (n_v vs 16) ∧ v_iv (n_v vs 16) ≤ v_iv (n_v vs 5) + 66564 := d52
  obtain ⟨d53, hds⟩ := List.forall_mem_cons.mp hds
  have d53 : v_iv (n_v vs 2) + (-4294967296) ≤ v_iv (n_v vs 16) ∧ v_iv (n_v vs 16) ≤ v_iv (n_v vs 2) + 66611 := d53
  obtain ⟨d54, hds⟩ := List.forall_mem_cons.mp hds
  have d54 : v_iv (n_v vs 15) + 0 ≤ v_iv (n_v vs 16) ∧ v_iv (n_v vs 16) ≤ v_iv (n_v vs 15) + 46 := d54
  obtain ⟨d55, hds⟩ := List.forall_mem_cons.mp hds
  have d55 : v_iv (n_v vs 10) + 267 ≤ v_iv (n_v vs 16) ∧ v_iv (n_v vs 16) ≤ v_iv (n_v vs 10) + 313 := d55
  obtain ⟨d56, hds⟩ := List.forall_mem_cons.mp hds
  have d56 : v_iv (n_v vs 10) + 267 ≤ v_iv (n_v vs 15) ∧ v_iv (n_v vs 15) ≤ v_iv (n_v vs 10) + 267 := d56
  obtain ⟨d57, hds⟩ := List.forall_mem_cons.mp hds
  have d57 : v_iv (n_v vs 5) + 267 ≤ v_iv (n_v vs 13) ∧ v_iv (n_v vs 13) ≤ v_iv (n_v vs 5) + 66564 := d57
  obtain ⟨d58, hds⟩ := List.forall_mem_cons.mp hds
  have d58 : v_iv (n_v vs 2) + (-4294967296) ≤ v_iv (n_v vs 13) ∧ v_iv (n_v vs 13) ≤ v_iv (n_v vs 2) + 66611 := d58
  obtain ⟨d59, hds⟩ := List.forall_mem_cons.mp hds
  have d59 : v_iv (n_v vs 12) + 0 ≤ v_iv (n_v vs 13) ∧ v_iv (n_v vs 13) ≤ v_iv (n_v vs 12) + 46 := d59
  obtain ⟨d60, hds⟩ := List.forall_mem_cons.mp hds
  have d60 : v_iv (n_v vs 10) + 267 ≤ v_iv (n_v vs 13) ∧ v_iv (n_v vs 13) ≤ v_iv (n_v vs 10) + 313 := d60
  obtain ⟨d61, hds⟩ := List.forall_mem_cons.mp hds
  have d61 : v_iv (n_v vs 10) + 267 ≤ v_iv (n_v vs 12) ∧ v_iv (n_v vs 12) ≤ v_iv (n_v vs 10) + 267 := d61
  obtain ⟨d62, hds⟩ := List.forall_mem_cons.mp hds
  have d62 : v_iv (n_v vs 8) + (-4294967296) ≤ v_iv (n_v vs 7) ∧ v_iv (n_v vs 7) ≤ v_iv (n_v vs 8) + (-1) := d62
  obtain ⟨d63, hds⟩ := List.forall_mem_cons.mp hds
  have d63 : v_iv (n_v vs 5) + 1 ≤ v_iv (n_v vs 7) ∧ v_iv (n_v vs 7) ≤ v_iv (n_v vs 5) + 1 := d63
  obtain ⟨d64, hds⟩ := List.forall_mem_cons.mp hds
  have d64 : v_iv (n_v vs 2) + (-4294967296) ≤ v_iv (n_v vs 7) ∧ v_iv (n_v vs 7) ≤ v_iv (n_v vs 2) + 48 := d64
  obtain ⟨d65, hds⟩ := List.forall_mem_cons.mp hds
  have d65 : v_iv (n_v vs 2) + (-4294967296) ≤ v_iv (n_v vs 1) ∧ v_iv (n_v vs 1) ≤ v_iv (n_v vs 2) + 47 := d65
  obtain ⟨d66, hds⟩ := List.forall_mem_cons.mp hds
  have d66 : v_iv (n_v vs 4) + (-4294967296) ≤ v_iv (n_v vs 1) ∧ v_iv (n_v vs 1) ≤ v_iv (n_v vs 4) + 0 := d66
  obtain ⟨d67, hds⟩ := List.forall_mem_cons.mp hds
  have d67 : v_iv (n_v vs 5) + (-4294967296) ≤ v_iv (n_v vs 1) ∧ v_iv (n_v vs 1) ≤ v_iv (n_v vs 5) + 0 := d67
  obtain ⟨d68, hds⟩ := List.forall_mem_cons.mp hds
  have d68 : v_iv (n_v vs 1) + (-4294967296) ≤ v_iv (n_v vs 2) ∧ v_iv (n_v vs 2) ≤ v_iv (n_v vs 1) + 23 := d68
  obtain ⟨d69, hds⟩ := List.forall_mem_cons.mp hds
  have d69 : v_iv (n_v vs 4) + (-4294967296) ≤ v_iv (n_v vs 2) ∧ v_iv (n_v vs 2) ≤ v_iv (n_v vs 4) + 23 := d69
  obtain ⟨d70, hds⟩ := List.forall_mem_cons.mp hds
  have d70 : v_iv (n_v vs 5) + (-4294967296) ≤ v_iv (n_v vs 2) ∧ v_iv (n_v vs 2) ≤ v_iv (n_v vs 5) + 23 := d70
  obtain ⟨d71, hds⟩ := List.forall_mem_cons.mp hds
  have d71 : v_iv (n_v vs 1) + (-4294967296) ≤ v_iv (n_v vs 4) ∧ v_iv (n_v vs 4) ≤ v_iv (n_v vs 1) + 0 := d71
  obtain ⟨d72, hds⟩ := List.forall_mem_cons.mp hds
  have d72 : v_iv (n_v vs 2) + (-4294967296) ≤ v_iv (n_v vs 4) ∧ v_iv (n_v vs 4) ≤ v_iv (n_v vs 2) + 47 := d72
  obtain ⟨d73, hds⟩ := List.forall_mem_cons.mp hds
  have d73 : v_iv (n_v vs 5) + (-4294967296) ≤ v_iv (n_v vs 4) ∧ v_iv (n_v vs 4) ≤ v_iv (n_v vs 5) + 0 := d73
  obtain ⟨d74, hds⟩ := List.forall_mem_cons.mp hds
  have d74 : v_iv (n_v vs 2) + (-4294967296) ≤ v_iv (n_v vs 5) ∧ v_iv (n_v vs 5) ≤ v_iv (n_v vs 2) + 47 := d74
  have hf : fc_ok [(6, [47, 5], [1]), (24, [0, 3], []), (24, [1, 4], []), (100, [9, 40, 46], []), (10, [46, 9, 45], []), (1, [45, 43, 44], []), (1, [43, 42, 5], []), (1, [42, 10, 41], []), (9, [10, 3], [5]), (9, [9, 3], [2]), (1, [40, 39, 5], []), (1, [39, 10, 38], []), (100, [9, 31, 37], []), (10, [37, 9, 36], []), (1, [36, 34, 35], []), (1, [34, 33, 5], []), (1, [33, 10, 32], []), (1, [31, 30, 5], []), (1, [30, 10, 29], []), (100, [9, 22, 28], []), (10, [28, 9, 27], []), (1, [27, 25, 26], []), (1, [25, 24, 5], []), (1, [24, 10, 23], []), (1, [22, 21, 5], []), (1, [21, 10, 20], []), (100, [9, 13, 19], []), (10, [19, 9, 18], []), (1, [18, 16, 17], []), (1, [16, 15, 5], []), (1, [15, 10, 14], []), (1, [13, 12, 5], []), (1, [12, 10, 11], []), (7, [7, 8], [2]), (20, [8, 3], [30, 0, 1, 0, 0, -1, 3, 2005001]), (20, [8, 3], [30, 0, -1, 0, 0, 1, 3, 2005001]), (1, [7, 5, 6], []), (20, [4, 3], [30, -1, 1, 0, 0, -1, 3, 2005001]), (20, [2, 3], [30, -1, 1, 0, 0, -1, 3, 2005000])] ta ws vs := hf
  obtain ⟨f0, hf⟩ := fc_un (show (6 : Nat) < 100 from by decide) hf
  have f0 : v_iv (n_v vs 47) = v_iv (n_v vs 5) + 1 := f0
  obtain ⟨f1, hf⟩ := fc_un (show (24 : Nat) < 100 from by decide) hf
  have f1 : n_v vs 0 = n_v vs 3 := f1
  obtain ⟨f2, hf⟩ := fc_un (show (24 : Nat) < 100 from by decide) hf
  have f2 : n_v vs 1 = n_v vs 4 := f2
  obtain ⟨ta1, w1, le1, ⟨_, s1⟩, hf⟩ := fc_us (show ¬ (100 : Nat) < 100 from by decide) hf
  have s1 : (∀ b j, w_el ws b j = if b = v_ad (n_v vs 9) ∧ j = (v_iv (n_v vs 40)).toNat then v_iv (n_v vs 46) else w_el w1 b j) ∧ ∀ b k, w_fd ws b k = w_fd w1 b k := s1
  obtain ⟨f4, hf⟩ := fc_un (show (10 : Nat) < 100 from by decide) hf
  have f4 : v_iv (n_v vs 46) = w_el w1 (v_ad (n_v vs 9)) (v_iv (n_v vs 45)).toNat := f4
  obtain ⟨f5, hf⟩ := fc_un (show (1 : Nat) < 100 from by decide) hf
  have f5 : v_iv (n_v vs 45) = v_iv (n_v vs 43) + v_iv (n_v vs 44) := f5
  obtain ⟨f6, hf⟩ := fc_un (show (1 : Nat) < 100 from by decide) hf
  have f6 : v_iv (n_v vs 43) = v_iv (n_v vs 42) + v_iv (n_v vs 5) := f6
  obtain ⟨f7, hf⟩ := fc_un (show (1 : Nat) < 100 from by decide) hf
  have f7 : v_iv (n_v vs 42) = v_iv (n_v vs 10) + v_iv (n_v vs 41) := f7
  obtain ⟨f8, hf⟩ := fc_un (show (9 : Nat) < 100 from by decide) hf
  have f8 : n_v vs 10 = w_fd w1 (v_ad (n_v vs 3)) 5 := f8
  obtain ⟨f9, hf⟩ := fc_un (show (9 : Nat) < 100 from by decide) hf
  have f9 : n_v vs 9 = w_fd w1 (v_ad (n_v vs 3)) 2 := f9
  obtain ⟨f10, hf⟩ := fc_un (show (1 : Nat) < 100 from by decide) hf
  have f10 : v_iv (n_v vs 40) = v_iv (n_v vs 39) + v_iv (n_v vs 5) := f10
  obtain ⟨f11, hf⟩ := fc_un (show (1 : Nat) < 100 from by decide) hf
  have f11 : v_iv (n_v vs 39) = v_iv (n_v vs 10) + v_iv (n_v vs 38) := f11
  obtain ⟨ta2, w2, le2, ⟨_, s2⟩, hf⟩ := fc_us (show ¬ (100 : Nat) < 100 from by decide) hf
  have s2 : (∀ b j, w_el w1 b j = if b = v_ad (n_v vs 9) ∧ j = (v_iv (n_v vs 31)).toNat then v_iv (n_v vs 37) else w_el w2 b j) ∧ ∀ b k, w_fd w1 b k = w_fd w2 b k := s2
  obtain ⟨f13, hf⟩ := fc_un (show (10 : Nat) < 100 from by decide) hf
  have f13 : v_iv (n_v vs 37) = w_el w2 (v_ad (n_v vs 9)) (v_iv (n_v vs 36)).toNat := f13
  obtain ⟨f14, hf⟩ := fc_un (show (1 : Nat) < 100 from by decide) hf
  have f14 : v_iv (n_v vs 36) = v_iv (n_v vs 34) + v_iv (n_v vs 35) := f14
  obtain ⟨f15, hf⟩ := fc_un (show (1 : Nat) < 100 from by decide) hf
  have f15 : v_iv (n_v vs 34) = v_iv (n_v vs 33) + v_iv (n_v vs 5) := f15
  obtain ⟨f16, hf⟩ := fc_un (show (1 : Nat) < 100 from by decide) hf
  have f16 : v_iv (n_v vs 33) = v_iv (n_v vs 10) + v_iv (n_v vs 32) := f16
  obtain ⟨f17, hf⟩ := fc_un (show (1 : Nat) < 100 from by decide) hf
  have f17 : v_iv (n_v vs 31) = v_iv (n_v vs 30) + v_iv (n_v vs 5) := f17
  obtain ⟨f18, hf⟩ := fc_un (show (1 : Nat) < 100 from by decide) hf
  have f18 : v_iv (n_v vs 30) = v_iv (n_v vs 10) + v_iv (n_v vs 29) := f18
  obtain ⟨ta3, w3, le3, ⟨_, s3⟩, hf⟩ := fc_us (show ¬ (100 : Nat) < 100 from by decide) hf
  have s3 : (∀ b j, w_el w2 b j = if b = v_ad (n_v vs 9) ∧ j = (v_iv (n_v vs 22)).toNat then v_iv (n_v vs 28) else w_el w3 b j) ∧ ∀ b k, w_fd w2 b k = w_fd w3 b k := s3
  obtain ⟨f20, hf⟩ := fc_un (show (10 : Nat) < 100 from by decide) hf
  have f20 : v_iv (n_v vs 28) = w_el w3 (v_ad (n_v vs 9)) (v_iv (n_v vs 27)).toNat := f20
  obtain ⟨f21, hf⟩ := fc_un (show (1 : Nat) < 100 from by decide) hf
  have f21 : v_iv (n_v vs 27) = v_iv (n_v vs 25) + v_iv (n_v vs 26) := f21
  obtain ⟨f22, hf⟩ := fc_un (show (1 : Nat) < 100 from by decide) hf
  have f22 : v_iv (n_v vs 25) = v_iv (n_v vs 24) + v_iv (n_v vs 5) := f22
  obtain ⟨f23, hf⟩ := fc_un (show (1 : Nat) < 100 from by decide) hf
  have f23 : v_iv (n_v vs 24) = v_iv (n_v vs 10) + v_iv (n_v vs 23) := f23
  obtain ⟨f24, hf⟩ := fc_un (show (1 : Nat) < 100 from by decide) hf
  have f24 : v_iv (n_v vs 22) = v_iv (n_v vs 21) + v_iv (n_v vs 5) := f24
  obtain ⟨f25, hf⟩ := fc_un (show (1 : Nat) < 100 from by decide) hf
  have f25 : v_iv (n_v vs 21) = v_iv (n_v vs 10) + v_iv (n_v vs 20) := f25
  obtain ⟨ta4, w4, le4, ⟨_, s4⟩, hf⟩ := fc_us (show ¬ (100 : Nat) < 100 from by decide) hf
  have s4 : (∀ b j, w_el w3 b j = if b = v_ad (n_v vs 9) ∧ j = (v_iv (n_v vs 13)).toNat then v_iv (n_v vs 19) else w_el w4 b j) ∧ ∀ b k, w_fd w3 b k = w_fd w4 b k := s4
  obtain ⟨f27, hf⟩ := fc_un (show (10 : Nat) < 100 from by decide) hf
  have f27 : v_iv (n_v vs 19) = w_el w4 (v_ad (n_v vs 9)) (v_iv (n_v vs 18)).toNat := f27
  obtain ⟨f28, hf⟩ := fc_un (show (1 : Nat) < 100 from by decide) hf
  have f28 : v_iv (n_v vs 18) = v_iv (n_v vs 16) + v_iv (n_v vs 17) := f28
  obtain ⟨f29, hf⟩ := fc_un (show (1 : Nat) < 100 from by decide) hf
  have f29 : v_iv (n_v vs 16) = v_iv (n_v vs 15) + v_iv (n_v vs 5) := f29
  obtain ⟨f30, hf⟩ := fc_un (show (1 : Nat) < 100 from by decide) hf
  have f30 : v_iv (n_v vs 15) = v_iv (n_v vs 10) + v_iv (n_v vs 14) := f30
  obtain ⟨f31, hf⟩ := fc_un (show (1 : Nat) < 100 from by decide) hf
  have f31 : v_iv (n_v vs 13) = v_iv (n_v vs 12) + v_iv (n_v vs 5) := f31
  obtain ⟨f32, hf⟩ := fc_un (show (1 : Nat) < 100 from by decide) hf
  have f32 : v_iv (n_v vs 12) = v_iv (n_v vs 10) + v_iv (n_v vs 11) := f32
  obtain ⟨f33, hf⟩ := fc_un (show (7 : Nat) < 100 from by decide) hf
  have f33 : v_iv (n_v vs 7) < v_iv (n_v vs 8) := f33
  obtain ⟨f34, hf⟩ := fc_un (show (20 : Nat) < 100 from by decide) hf
  have f34 : 1 * v_iv (n_v vs 8) + ((-1) * w_el w4 (w_ar w4 (n_v vs 3) 2) (w_fi w4 (n_v vs 3) 5 + 1).toNat + 0) ≤ 0 := f34
  obtain ⟨f35, hf⟩ := fc_un (show (20 : Nat) < 100 from by decide) hf
  have f35 : (-1) * v_iv (n_v vs 8) + (1 * w_el w4 (w_ar w4 (n_v vs 3) 2) (w_fi w4 (n_v vs 3) 5 + 1).toNat + 0) ≤ 0 := f35
  obtain ⟨f36, hf⟩ := fc_un (show (1 : Nat) < 100 from by decide) hf
  have f36 : v_iv (n_v vs 7) = v_iv (n_v vs 5) + v_iv (n_v vs 6) := f36
  obtain ⟨f37, hf⟩ := fc_un (show (20 : Nat) < 100 from by decide) hf
  have f37 : 1 * v_iv (n_v vs 4) + ((-1) * w_el w4 (w_ar w4 (n_v vs 3) 2) (w_fi w4 (n_v vs 3) 5 + 1).toNat + 0) ≤ (-1) := f37
  obtain ⟨f38, hf⟩ := fc_un (show (20 : Nat) < 100 from by decide) hf
  have f38 : 1 * v_iv (n_v vs 2) + ((-1) * w_el w4 (w_ar w4 (n_v vs 3) 2) (w_fi w4 (n_v vs 3) 5 + 0).toNat + 0) ≤ (-1) := f38
  have q3 : n_v vs 3 = n_v vs 0 := f1.symm
  have q4 : n_v vs 4 = n_v vs 1 := f2.symm
  rw [q3] at f8
  rw [q3] at f9
  rw [q3] at f34
  rw [q3] at f35
  rw [q3] at f37
  rw [q4] at f37
  rw [q3] at f38
  have ar_0_2_1 : w_ar w1 (n_v vs 0) 2 = w_ar ws (n_v vs 0) 2 := by show v_ad (w_fd w1 _ _) = v_ad (w_fd ws _ _); rw [s1.2]
  have ar_0_2_2 : w_ar w2 (n_v vs 0) 2 = w_ar ws (n_v vs 0) 2 := by rw [← ar_0_2_1]; show v_ad (w_fd w2 _ _) = v_ad (w_fd w1 _ _); rw [s2.2]
  have ar_0_2_3 : w_ar w3 (n_v vs 0) 2 = w_ar ws (n_v vs 0) 2 := by rw [← ar_0_2_2]; show v_ad (w_fd w3 _ _) = v_ad (w_fd w2 _ _); rw [s3.2]
  have ar_0_2_4 : w_ar w4 (n_v vs 0) 2 = w_ar ws (n_v vs 0) 2 := by rw [← ar_0_2_3]; show v_ad (w_fd w4 _ _) = v_ad (w_fd w3 _ _); rw [s4.2]
  have cr_0_2 : ta (w_ar ws (n_v vs 0) 2) = some 152 := tv_rg (th_fd hD hth r0 (g := GG_150) rfl (k := 2) (t := (2, 0, 0, [152])) rfl rfl)
  have fi_0_5_1 : w_fi w1 (n_v vs 0) 5 = w_fi ws (n_v vs 0) 5 := by show v_iv (w_fd w1 _ _) = v_iv (w_fd ws _ _); rw [s1.2]
  have fi_0_5_2 : w_fi w2 (n_v vs 0) 5 = w_fi ws (n_v vs 0) 5 := by rw [← fi_0_5_1]; show v_iv (w_fd w2 _ _) = v_iv (w_fd w1 _ _); rw [s2.2]
  have fi_0_5_3 : w_fi w3 (n_v vs 0) 5 = w_fi ws (n_v vs 0) 5 := by rw [← fi_0_5_2]; show v_iv (w_fd w3 _ _) = v_iv (w_fd w2 _ _); rw [s3.2]
  have fi_0_5_4 : w_fi w4 (n_v vs 0) 5 = w_fi ws (n_v vs 0) 5 := by rw [← fi_0_5_3]; show v_iv (w_fd w4 _ _) = v_iv (w_fd w3 _ _); rw [s4.2]
  have ad_9 : v_ad (n_v vs 9) = w_ar ws (n_v vs 0) 2 := (congrArg v_ad f9).trans ar_0_2_1
  rw [ad_9] at f4
  have g8 : v_iv (n_v vs 10) = w_fi w1 (n_v vs 0) 5 := congrArg v_iv f8
  rw [ad_9] at f13
  rw [ad_9] at f20
  rw [ad_9] at f27
  rw [ar_0_2_4] at f34
  rw [fi_0_5_4] at f34
  rw [ar_0_2_4] at f35
  rw [fi_0_5_4] at f35
  rw [ar_0_2_4] at f37
  rw [fi_0_5_4] at f37
  rw [ar_0_2_4] at f38
  rw [fi_0_5_4] at f38
  have cg4_F5_0 : v_iv (n_v vs 45) = w_fi ws (n_v vs 0) 5 + 0 → w_el w1 (w_ar ws (n_v vs 0) 2) (v_iv (n_v vs 45)).toNat = w_el w1 (w_ar ws (n_v vs 0) 2) (w_fi ws (n_v vs 0) 5 + 0).toNat := fun h => by rw [h]
  have cg4_F5_1 : v_iv (n_v vs 45) = w_fi ws (n_v vs 0) 5 + 1 → w_el w1 (w_ar ws (n_v vs 0) 2) (v_iv (n_v vs 45)).toNat = w_el w1 (w_ar ws (n_v vs 0) 2) (w_fi ws (n_v vs 0) 5 + 1).toNat := fun h => by rw [h]
  have cg13_F5_0 : v_iv (n_v vs 36) = w_fi ws (n_v vs 0) 5 + 0 → w_el w2 (w_ar ws (n_v vs 0) 2) (v_iv (n_v vs 36)).toNat = w_el w2 (w_ar ws (n_v vs 0) 2) (w_fi ws (n_v vs 0) 5 + 0).toNat := fun h => by rw [h]
  have cg13_F5_1 : v_iv (n_v vs 36) = w_fi ws (n_v vs 0) 5 + 1 → w_el w2 (w_ar ws (n_v vs 0) 2) (v_iv (n_v vs 36)).toNat = w_el w2 (w_ar ws (n_v vs 0) 2) (w_fi ws (n_v vs 0) 5 + 1).toNat := fun h => by rw [h]
  have cg20_F5_0 : v_iv (n_v vs 27) = w_fi ws (n_v vs 0) 5 + 0 → w_el w3 (w_ar ws (n_v vs 0) 2) (v_iv (n_v vs 27)).toNat = w_el w3 (w_ar ws (n_v vs 0) 2) (w_fi ws (n_v vs 0) 5 + 0).toNat := fun h => by rw [h]
  have cg20_F5_1 : v_iv (n_v vs 27) = w_fi ws (n_v vs 0) 5 + 1 → w_el w3 (w_ar ws (n_v vs 0) 2) (v_iv (n_v vs 27)).toNat = w_el w3 (w_ar ws (n_v vs 0) 2) (w_fi ws (n_v vs 0) 5 + 1).toNat := fun h => by rw [h]
  have cg27_F5_0 : v_iv (n_v vs 18) = w_fi ws (n_v vs 0) 5 + 0 → w_el w4 (w_ar ws (n_v vs 0) 2) (v_iv (n_v vs 18)).toNat = w_el w4 (w_ar ws (n_v vs 0) 2) (w_fi ws (n_v vs 0) 5 + 0).toNat := fun h => by rw [h]
  have cg27_F5_1 : v_iv (n_v vs 18) = w_fi ws (n_v vs 0) 5 + 1 → w_el w4 (w_ar ws (n_v vs 0) 2) (v_iv (n_v vs 18)).toNat = w_el w4 (w_ar ws (n_v vs 0) 2) (w_fi ws (n_v vs 0) 5 + 1).toNat := fun h => by rw [h]
  have fe_0_5_1 : w_fi ws (n_v vs 0) 5 = w_fi w1 (n_v vs 0) 5 := congrArg v_iv (s1.2 _ _)
  first | (have ee_0_2_F5_0_1 : w_el ws (w_ar ws (n_v vs 0) 2) (w_fi ws (n_v vs 0) 5 + 0).toNat = w_el w1 (w_ar ws (n_v vs 0) 2) (w_fi ws (n_v vs 0) 5 + 0).toNat := by rw [s1.1, if_neg (fun e => absurd e.2 (by omega))]) | have ee_0_2_F5_0_1 : ((w_fi ws (n_v vs 0) 5 + 0).toNat = (v_iv (n_v vs 40)).toNat → w_el ws (w_ar ws (n_v vs 0) 2) (w_fi ws (n_v vs 0) 5 + 0).toNat = v_iv (n_v vs 46)) ∧ ((w_fi ws (n_v vs 0) 5 + 0).toNat ≠ (v_iv (n_v vs 40)).toNat → w_el ws (w_ar ws (n_v vs 0) 2) (w_fi ws (n_v vs 0) 5 + 0).toNat = w_el w1 (w_ar ws (n_v vs 0) 2) (w_fi ws (n_v vs 0) 5 + 0).toNat) := ⟨fun h => by rw [s1.1, if_pos ⟨ad_9.symm, h⟩], fun h => by rw [s1.1, if_neg (fun e => h e.2)]⟩
  first | (have ee_0_2_F5_1_1 : w_el ws (w_ar ws (n_v vs 0) 2) (w_fi ws (n_v vs 0) 5 + 1).toNat = w_el w1 (w_ar ws (n_v vs 0) 2) (w_fi ws (n_v vs 0) 5 + 1).toNat := by rw [s1.1, if_neg (fun e => absurd e.2 (by omega))]) | have ee_0_2_F5_1_1 : ((w_fi ws (n_v vs 0) 5 + 1).toNat = (v_iv (n_v vs 40)).toNat → w_el ws (w_ar ws (n_v vs 0) 2) (w_fi ws (n_v vs 0) 5 + 1).toNat = v_iv (n_v vs 46)) ∧ ((w_fi ws (n_v vs 0) 5 + 1).toNat ≠ (v_iv (n_v vs 40)).toNat → w_el ws (w_ar ws (n_v vs 0) 2) (w_fi ws (n_v vs 0) 5 + 1).toNat = w_el w1 (w_ar ws (n_v vs 0) 2) (w_fi ws (n_v vs 0) 5 + 1).toNat) := ⟨fun h => by rw [s1.1, if_pos ⟨ad_9.symm, h⟩], fun h => by rw [s1.1, if_neg (fun e => h e.2)]⟩
  have ee_0_2_18_1 : ((v_iv (n_v vs 18)).toNat = (v_iv (n_v vs 40)).toNat → w_el ws (w_ar ws (n_v vs 0) 2) (v_iv (n_v vs 18)).toNat = v_iv (n_v vs 46)) ∧ ((v_iv (n_v vs 18)).toNat ≠ (v_iv (n_v vs 40)).toNat → w_el ws (w_ar ws (n_v vs 0) 2) (v_iv (n_v vs 18)).toNat = w_el w1 (w_ar ws (n_v vs 0) 2) (v_iv (n_v vs 18)).toNat) := ⟨fun h => by rw [s1.1, if_pos ⟨ad_9.symm, h⟩], fun h => by rw [s1.1, if_neg (fun e => h e.2)]⟩
  have ee_0_2_27_1 : ((v_iv (n_v vs 27)).toNat = (v_iv (n_v vs 40)).toNat → w_el ws (w_ar ws (n_v vs 0) 2) (v_iv (n_v vs 27)).toNat = v_iv (n_v vs 46)) ∧ ((v_iv (n_v vs 27)).toNat ≠ (v_iv (n_v vs 40)).toNat → w_el ws (w_ar ws (n_v vs 0) 2) (v_iv (n_v vs 27)).toNat = w_el w1 (w_ar ws (n_v vs 0) 2) (v_iv (n_v vs 27)).toNat) := ⟨fun h => by rw [s1.1, if_pos ⟨ad_9.symm, h⟩], fun h => by rw [s1.1, if_neg (fun e => h e.2)]⟩
  have ee_0_2_36_1 : ((v_iv (n_v vs 36)).toNat = (v_iv (n_v vs 40)).toNat → w_el ws (w_ar ws (n_v vs 0) 2) (v_iv (n_v vs 36)).toNat = v_iv (n_v vs 46)) ∧ ((v_iv (n_v vs 36)).toNat ≠ (v_iv (n_v vs 40)).toNat → w_el ws (w_ar ws (n_v vs 0) 2) (v_iv (n_v vs 36)).toNat = w_el w1 (w_ar ws (n_v vs 0) 2) (v_iv (n_v vs 36)).toNat) := ⟨fun h => by rw [s1.1, if_pos ⟨ad_9.symm, h⟩], fun h => by rw [s1.1, if_neg (fun e => h e.2)]⟩
  have ee_0_2_45_1 : ((v_iv (n_v vs 45)).toNat = (v_iv (n_v vs 40)).toNat → w_el ws (w_ar ws (n_v vs 0) 2) (v_iv (n_v vs 45)).toNat = v_iv (n_v vs 46)) ∧ ((v_iv (n_v vs 45)).toNat ≠ (v_iv (n_v vs 40)).toNat → w_el ws (w_ar ws (n_v vs 0) 2) (v_iv (n_v vs 45)).toNat = w_el w1 (w_ar ws (n_v vs 0) 2) (v_iv (n_v vs 45)).toNat) := ⟨fun h => by rw [s1.1, if_pos ⟨ad_9.symm, h⟩], fun h => by rw [s1.1, if_neg (fun e => h e.2)]⟩
  have fe_0_5_2 : w_fi w1 (n_v vs 0) 5 = w_fi w2 (n_v vs 0) 5 := congrArg v_iv (s2.2 _ _)
  first | (have ee_0_2_F5_0_2 : w_el w1 (w_ar ws (n_v vs 0) 2) (w_fi ws (n_v vs 0) 5 + 0).toNat = w_el w2 (w_ar ws (n_v vs 0) 2) (w_fi ws (n_v vs 0) 5 + 0).toNat := by rw [s2.1, if_neg (fun e => absurd e.2 (by omega))]) | have ee_0_2_F5_0_2 : ((w_fi ws (n_v vs 0) 5 + 0).toNat = (v_iv (n_v vs 31)).toNat → w_el w1 (w_ar ws (n_v vs 0) 2) (w_fi ws (n_v vs 0) 5 + 0).toNat = v_iv (n_v vs 37)) ∧ ((w_fi ws (n_v vs 0) 5 + 0).toNat ≠ (v_iv (n_v vs 31)).toNat → w_el w1 (w_ar ws (n_v vs 0) 2) (w_fi ws (n_v vs 0) 5 + 0).toNat = w_el w2 (w_ar ws (n_v vs 0) 2) (w_fi ws (n_v vs 0) 5 + 0).toNat) := ⟨fun h => by rw [s2.1, if_pos ⟨ad_9.symm, h⟩], fun h => by rw [s2.1, if_neg (fun e => h e.2)]⟩
  first | (have ee_0_2_F5_1_2 : w_el w1 (w_ar ws (n_v vs 0) 2) (w_fi ws (n_v vs 0) 5 + 1).toNat = w_el w2 (w_ar ws (n_v vs 0) 2) (w_fi ws (n_v vs 0) 5 + 1).toNat := by rw [s2.1, if_neg (fun e => absurd e.2 (by omega))]) | have ee_0_2_F5_1_2 : ((w_fi ws (n_v vs 0) 5 + 1).toNat = (v_iv (n_v vs 31)).toNat → w_el w1 (w_ar ws (n_v vs 0) 2) (w_fi ws (n_v vs 0) 5 + 1).toNat = v_iv (n_v vs 37)) ∧ ((w_fi ws (n_v vs 0) 5 + 1).toNat ≠ (v_iv (n_v vs 31)).toNat → w_el w1 (w_ar ws (n_v vs 0) 2) (w_fi ws (n_v vs 0) 5 + 1).toNat = w_el w2 (w_ar ws (n_v vs 0) 2) (w_fi ws (n_v vs 0) 5 + 1).toNat) := ⟨fun h => by rw [s2.1, if_pos ⟨ad_9.symm, h⟩], fun h => by rw [s2.1, if_neg (fun e => h e.2)]⟩
  have ee_0_2_18_2 : ((v_iv (n_v vs 18)).toNat = (v_iv (n_v vs 31)).toNat → w_el w1 (w_ar ws (n_v vs 0) 2) (v_iv (n_v vs 18)).toNat = v_iv (n_v vs 37)) ∧ ((v_iv (n_v vs 18)).toNat ≠ (v_iv (n_v vs 31)).toNat → w_el w1 (w_ar ws (n_v vs 0) 2) (v_iv (n_v vs 18)).toNat = w_el w2 (w_ar ws (n_v vs 0) 2) (v_iv (n_v vs 18)).toNat) := ⟨fun h => by rw [s2.1, if_pos ⟨ad_9.symm, h⟩], fun h => by rw [s2.1, if_neg (fun e => h e.2)]⟩
  have ee_0_2_27_2 : ((v_iv (n_v vs 27)).toNat = (v_iv (n_v vs 31)).toNat → w_el w1 (w_ar ws (n_v vs 0) 2) (v_iv (n_v vs 27)).toNat = v_iv (n_v vs 37)) ∧ ((v_iv (n_v vs 27)).toNat ≠ (v_iv (n_v vs 31)).toNat → w_el w1 (w_ar ws (n_v vs 0) 2) (v_iv (n_v vs 27)).toNat = w_el w2 (w_ar ws (n_v vs 0) 2) (v_iv (n_v vs 27)).toNat) := ⟨fun h => by rw [s2.1, if_pos ⟨ad_9.symm, h⟩], fun h => by rw [s2.1, if_neg (fun e => h e.2)]⟩
  have ee_0_2_36_2 : ((v_iv (n_v vs 36)).toNat = (v_iv (n_v vs 31)).toNat → w_el w1 (w_ar ws (n_v vs 0) 2) (v_iv (n_v vs 36)).toNat = v_iv (n_v vs 37)) ∧ ((v_iv (n_v vs 36)).toNat ≠ (v_iv (n_v vs 31)).toNat → w_el w1 (w_ar ws (n_v vs 0) 2) (v_iv (n_v vs 36)).toNat = w_el w2 (w_ar ws (n_v vs 0) 2) (v_iv (n_v vs 36)).toNat) := ⟨fun h => by rw [s2.1, if_pos ⟨ad_9.symm, h⟩], fun h => by rw [s2.1, if_neg (fun e => h e.2)]⟩
  have ee_0_2_45_2 : ((v_iv (n_v vs 45)).toNat = (v_iv (n_v vs 31)).toNat → w_el w1 (w_ar ws (n_v vs 0) 2) (v_iv (n_v vs 45)).toNat = v_iv (n_v vs 37)) ∧ ((v_iv (n_v vs 45)).toNat ≠ (v_iv (n_v vs 31)).toNat → w_el w1 (w_ar ws (n_v vs 0) 2) (v_iv (n_v vs 45)).toNat = w_el w2 (w_ar ws (n_v vs 0) 2) (v_iv (n_v vs 45)).toNat) := ⟨fun h => by rw [s2.1, if_pos ⟨ad_9.symm, h⟩], fun h => by rw [s2.1, if_neg (fun e => h e.2)]⟩
  have fe_0_5_3 : w_fi w2 (n_v vs 0) 5 = w_fi w3 (n_v vs 0) 5 := congrArg v_iv (s3.2 _ _)
  first | (have ee_0_2_F5_0_3 : w_el w2 (w_ar ws (n_v vs 0) 2) (w_fi ws (n_v vs 0) 5 + 0).toNat = w_el w3 (w_ar ws (n_v vs 0) 2) (w_fi ws (n_v vs 0) 5 + 0).toNat := by rw [s3.1, if_neg (fun e => absurd e.2 (by omega))]) | have ee_0_2_F5_0_3 : ((w_fi ws (n_v vs 0) 5 + 0).toNat = (v_iv (n_v vs 22)).toNat → w_el w2 (w_ar ws (n_v vs 0) 2) (w_fi ws (n_v vs 0) 5 + 0).toNat = v_iv (n_v vs 28)) ∧ ((w_fi ws (n_v vs 0) 5 + 0).toNat ≠ (v_iv (n_v vs 22)).toNat → w_el w2 (w_ar ws (n_v vs 0) 2) (w_fi ws (n_v vs 0) 5 + 0).toNat = w_el w3 (w_ar ws (n_v vs 0) 2) (w_fi ws (n_v vs 0) 5 + 0).toNat) := ⟨fun h => by rw [s3.1, if_pos ⟨ad_9.symm, h⟩], fun h => by rw [s3.1, if_neg (fun e => h e.2)]⟩
  first | (have ee_0_2_F5_1_3 : w_el w2 (w_ar ws (n_v vs 0) 2) (w_fi ws (n_v vs 0) 5 + 1).toNat = w_el w3 (w_ar ws (n_v vs 0) 2) (w_fi ws (n_v vs 0) 5 + 1).toNat := by rw [s3.1, if_neg (fun e => absurd e.2 (by omega))]) | have ee_0_2_F5_1_3 : ((w_fi ws (n_v vs 0) 5 + 1).toNat = (v_iv (n_v vs 22)).toNat → w_el w2 (w_ar ws (n_v vs 0) 2) (w_fi ws (n_v vs 0) 5 + 1).toNat = v_iv (n_v vs 28)) ∧ ((w_fi ws (n_v vs 0) 5 + 1).toNat ≠ (v_iv (n_v vs 22)).toNat → w_el w2 (w_ar ws (n_v vs 0) 2) (w_fi ws (n_v vs 0) 5 + 1).toNat = w_el w3 (w_ar ws (n_v vs 0) 2) (w_fi ws (n_v vs 0) 5 + 1).toNat) := ⟨fun h => by rw [s3.1, if_pos ⟨ad_9.symm, h⟩], fun h => by rw [s3.1, if_neg (fun e => h e.2)]⟩
  have ee_0_2_18_3 : ((v_iv (n_v vs 18)).toNat = (v_iv (n_v vs 22)).toNat → w_el w2 (w_ar ws (n_v vs 0) 2) (v_iv (n_v vs 18)).toNat = v_iv (n_v vs 28)) ∧ ((v_iv (n_v vs 18)).toNat ≠ (v_iv (n_v vs 22)).toNat → w_el w2 (w_ar ws (n_v vs 0) 2) (v_iv (n_v vs 18)).toNat = w_el w3 (w_ar ws (n_v vs 0) 2) (v_iv (n_v vs 18)).toNat) := ⟨fun h => by rw [s3.1, if_pos ⟨ad_9.symm, h⟩], fun h => by rw [s3.1, if_neg (fun e => h e.2)]⟩
  have ee_0_2_27_3 : ((v_iv (n_v vs 27)).toNat = (v_iv (n_v vs 22)).toNat → w_el w2 (w_ar ws (n_v vs 0) 2) (v_iv (n_v vs 27)).toNat = v_iv (n_v vs 28)) ∧ ((v_iv (n_v vs 27)).toNat ≠ (v_iv (n_v vs 22)).toNat → w_el w2 (w_ar ws (n_v vs 0) 2) (v_iv (n_v vs 27)).toNat = w_el w3 (w_ar ws (n_v vs 0) 2) (v_iv (n_v vs 27)).toNat) := ⟨fun h => by rw [s3.1, if_pos ⟨ad_9.symm, h⟩], fun h => by rw [s3.1, if_neg (fun e => h e.2)]⟩
  have ee_0_2_36_3 : ((v_iv (n_v vs 36)).toNat = (v_iv (n_v vs 22)).toNat → w_el w2 (w_ar ws (n_v vs 0) 2) (v_iv (n_v vs 36)).toNat = v_iv (n_v vs 28)) ∧ ((v_iv (n_v vs 36)).toNat ≠ (v_iv (n_v vs 22)).toNat → w_el w2 (w_ar ws (n_v vs 0) 2) (v_iv (n_v vs 36)).toNat = w_el w3 (w_ar ws (n_v vs 0) 2) (v_iv (n_v vs 36)).toNat) := ⟨fun h => by rw [s3.1, if_pos ⟨ad_9.symm, h⟩], fun h => by rw [s3.1, if_neg (fun e => h e.2)]⟩
  have ee_0_2_45_3 : ((v_iv (n_v vs 45)).toNat = (v_iv (n_v vs 22)).toNat → w_el w2 (w_ar ws (n_v vs 0) 2) (v_iv (n_v vs 45)).toNat = v_iv (n_v vs 28)) ∧ ((v_iv (n_v vs 45)).toNat ≠ (v_iv (n_v vs 22)).toNat → w_el w2 (w_ar ws (n_v vs 0) 2) (v_iv (n_v vs 45)).toNat = w_el w3 (w_ar ws (n_v vs 0) 2) (v_iv (n_v vs 45)).toNat) := ⟨fun h => by rw [s3.1, if_pos ⟨ad_9.symm, h⟩], fun h => by rw [s3.1, if_neg (fun e => h e.2)]⟩
  have fe_0_5_4 : w_fi w3 (n_v vs 0) 5 = w_fi w4 (n_v vs 0) 5 := congrArg v_iv (s4.2 _ _)
  first | (have ee_0_2_F5_0_4 : w_el w3 (w_ar ws (n_v vs 0) 2) (w_fi ws (n_v vs 0) 5 + 0).toNat = w_el w4 (w_ar ws (n_v vs 0) 2) (w_fi ws (n_v vs 0) 5 + 0).toNat := by rw [s4.1, if_neg (fun e => absurd e.2 (by omega))]) | have ee_0_2_F5_0_4 : ((w_fi ws (n_v vs 0) 5 + 0).toNat = (v_iv (n_v vs 13)).toNat → w_el w3 (w_ar ws (n_v vs 0) 2) (w_fi ws (n_v vs 0) 5 + 0).toNat = v_iv (n_v vs 19)) ∧ ((w_fi ws (n_v vs 0) 5 + 0).toNat ≠ (v_iv (n_v vs 13)).toNat → w_el w3 (w_ar ws (n_v vs 0) 2) (w_fi ws (n_v vs 0) 5 + 0).toNat = w_el w4 (w_ar ws (n_v vs 0) 2) (w_fi ws (n_v vs 0) 5 + 0).toNat) := ⟨fun h => by rw [s4.1, if_pos ⟨ad_9.symm, h⟩], fun h => by rw [s4.1, if_neg (fun e => h e.2)]⟩
  first | (have ee_0_2_F5_1_4 : w_el w3 (w_ar ws (n_v vs 0) 2) (w_fi ws (n_v vs 0) 5 + 1).toNat = w_el w4 (w_ar ws (n_v vs 0) 2) (w_fi ws (n_v vs 0) 5 + 1).toNat := by rw [s4.1, if_neg (fun e => absurd e.2 (by omega))]) | have ee_0_2_F5_1_4 : ((w_fi ws (n_v vs 0) 5 + 1).toNat = (v_iv (n_v vs 13)).toNat → w_el w3 (w_ar ws (n_v vs 0) 2) (w_fi ws (n_v vs 0) 5 + 1).toNat = v_iv (n_v vs 19)) ∧ ((w_fi ws (n_v vs 0) 5 + 1).toNat ≠ (v_iv (n_v vs 13)).toNat → w_el w3 (w_ar ws (n_v vs 0) 2) (w_fi ws (n_v vs 0) 5 + 1).toNat = w_el w4 (w_ar ws (n_v vs 0) 2) (w_fi ws (n_v vs 0) 5 + 1).toNat) := ⟨fun h => by rw [s4.1, if_pos ⟨ad_9.symm, h⟩], fun h => by rw [s4.1, if_neg (fun e => h e.2)]⟩
  have ee_0_2_18_4 : ((v_iv (n_v vs 18)).toNat = (v_iv (n_v vs 13)).toNat → w_el w3 (w_ar ws (n_v vs 0) 2) (v_iv (n_v vs 18)).toNat = v_iv (n_v vs 19)) ∧ ((v_iv (n_v vs 18)).toNat ≠ (v_iv (n_v vs 13)).toNat → w_el w3 (w_ar ws (n_v vs 0) 2) (v_iv (n_v vs 18)).toNat = w_el w4 (w_ar ws (n_v vs 0) 2) (v_iv (n_v vs 18)).toNat) := ⟨fun h => by rw [s4.1, if_pos ⟨ad_9.symm, h⟩], fun h => by rw [s4.1, if_neg (fun e => h e.2)]⟩
  have ee_0_2_27_4 : ((v_iv (n_v vs 27)).toNat = (v_iv (n_v vs 13)).toNat → w_el w3 (w_ar ws (n_v vs 0) 2) (v_iv (n_v vs 27)).toNat = v_iv (n_v vs 19)) ∧ ((v_iv (n_v vs 27)).toNat ≠ (v_iv (n_v vs 13)).toNat → w_el w3 (w_ar ws (n_v vs 0) 2) (v_iv (n_v vs 27)).toNat = w_el w4 (w_ar ws (n_v vs 0) 2) (v_iv (n_v vs 27)).toNat) := ⟨fun h => by rw [s4.1, if_pos ⟨ad_9.symm, h⟩], fun h => by rw [s4.1, if_neg (fun e => h e.2)]⟩
  have ee_0_2_36_4 : ((v_iv (n_v vs 36)).toNat = (v_iv (n_v vs 13)).toNat → w_el w3 (w_ar ws (n_v vs 0) 2) (v_iv (n_v vs 36)).toNat = v_iv (n_v vs 19)) ∧ ((v_iv (n_v vs 36)).toNat ≠ (v_iv (n_v vs 13)).toNat → w_el w3 (w_ar ws (n_v vs 0) 2) (v_iv (n_v vs 36)).toNat = w_el w4 (w_ar ws (n_v vs 0) 2) (v_iv (n_v vs 36)).toNat) := ⟨fun h => by rw [s4.1, if_pos ⟨ad_9.symm, h⟩], fun h => by rw [s4.1, if_neg (fun e => h e.2)]⟩
  have ee_0_2_45_4 : ((v_iv (n_v vs 45)).toNat = (v_iv (n_v vs 13)).toNat → w_el w3 (w_ar ws (n_v vs 0) 2) (v_iv (n_v vs 45)).toNat = v_iv (n_v vs 19)) ∧ ((v_iv (n_v vs 45)).toNat ≠ (v_iv (n_v vs 13)).toNat → w_el w3 (w_ar ws (n_v vs 0) 2) (v_iv (n_v vs 45)).toNat = w_el w4 (w_ar ws (n_v vs 0) 2) (v_iv (n_v vs 45)).toNat) := ⟨fun h => by rw [s4.1, if_pos ⟨ad_9.symm, h⟩], fun h => by rw [s4.1, if_neg (fun e => h e.2)]⟩
  have nf0 : fc_1 (20, [4, 3], [30, -1, 1, 0, 0, -1, 3, 2005001]) ws (vs) := by
    refine ⟨fun n hn => ?_, ?_⟩
    · have hn : n ∈ [4, 3] := hn
      rw [hl]
      simp only [List.mem_cons, List.not_mem_nil, or_false] at hn
      show n < 48; omega
    · show 1 * v_iv (n_v vs 4) + ((-1) * w_el ws (w_ar ws (n_v vs 3) 2) (w_fi ws (n_v vs 3) 5 + 1).toNat + 0) ≤ (-1)
      rw [q3, q4]
      omega
  have nf1 : fc_1 (20, [2, 3], [30, -1, 1, 0, 0, -1, 3, 2005000]) ws (vs) := by
    refine ⟨fun n hn => ?_, ?_⟩
    · have hn : n ∈ [2, 3] := hn
      rw [hl]
      simp only [List.mem_cons, List.not_mem_nil, or_false] at hn
      show n < 48; omega
    · show 1 * v_iv (n_v vs 2) + ((-1) * w_el ws (w_ar ws (n_v vs 3) 2) (w_fi ws (n_v vs 3) 5 + 0).toNat + 0) ≤ (-1)
      rw [q3]
      omega
  refine ⟨(fun _ h => (by cases h)), [], trivial, ?_, (fun _ h => (by cases h))⟩
  rw [List.append_nil]
  exact List.forall_mem_cons.mpr ⟨⟨show (20 : Nat) < 100 from by decide, nf0⟩, List.forall_mem_cons.mpr ⟨⟨show (20 : Nat) < 100 from by decide, nf1⟩, (fun _ h => (by cases h))⟩⟩
def n_Mo_dropEdge_at_g0_an : List an_T := [(2, [(0, (2, 0, 0, [150])), (1, (0, 0, 47, [])), (2, (0, 0, 47, []))], [], (0, 0), [(0, 0, 99998), (1, 5, 47), (0, 0, 100000)], [(1, 2, -1000000000000, 47), (1, 4, -1000000000000, 0), (1, 5, -1000000000000, 0), (2, 1, -1000000000000, 23), (2, 4, -1000000000000, 23), (2, 5, -1000000000000, 23), (4, 1, -1000000000000, 0), (4, 2, -1000000000000, 47), (4, 5, -1000000000000, 0), (5, 2, -1000000000000, 47)], [], [(2, 0, 0, [150]), (0, 0, 47, []), (0, 0, 23, [])], 0, [], [(20, [4, 3], [30, -1, 1, 0, 0, -1, 3, 2005001]), (20, [2, 3], [30, -1, 1, 0, 0, -1, 3, 2005000]), (24, [0, 3], []), (24, [1, 4], [])])]
def t_Mo_dropEdge_at_g0_ct : ct_L := [(1, 401, e_Mo_edges)]
set_option maxRecDepth 100000 in
theorem c_Mo_dropEdge_at_g0 {l : Launch} {D : va_G} {kA : Nat → ClassId} (h_Mo_edges : ct_ok l D kA GG y_Mo_edges z_Mo_edges e_Mo_edges) : ct_ok l D kA GG y_Mo_dropEdge_at_g0 z_Mo_dropEdge_at_g0 e_Mo_dropEdge_at_g0 := chk_all_ok (FT := [(16, 13, 2), (391, 13, 5)]) (PT := []) (CT := t_Mo_dropEdge_at_g0_ct) (KT := []) (NT := []) (AN := n_Mo_dropEdge_at_g0_an) (OT := [o_Mo_dropEdge_at_g0_0, o_Mo_dropEdge_at_g0_1, o_Mo_dropEdge_at_g0_2, o_Mo_dropEdge_at_g0_3]) 3 408 (List.forall_mem_cons.mpr ⟨oo_Mo_dropEdge_at_g0_0, List.forall_mem_cons.mpr ⟨oo_Mo_dropEdge_at_g0_1, List.forall_mem_cons.mpr ⟨oo_Mo_dropEdge_at_g0_2, List.forall_mem_cons.mpr ⟨oo_Mo_dropEdge_at_g0_3, List.forall_mem_nil _⟩⟩⟩⟩) (by decide +kernel) ⟨List.forall_mem_cons.mpr ⟨gf_Mo_16, List.forall_mem_cons.mpr ⟨gf_Mo_391, List.forall_mem_nil _⟩⟩, List.forall_mem_nil _, List.forall_mem_cons.mpr ⟨cl_virtual (y := y_Mo_edges) (ci := 13) rfl rfl ⟨_, _, rfl⟩ (by decide +kernel) h_Mo_edges wm_3037 wm_9 wm_3034 wm_3036 wv_13_6 ⟨by decide, by decide, by decide +kernel⟩ (by decide), List.forall_mem_nil _⟩, List.forall_mem_nil _, List.forall_mem_nil _, GG_pl⟩ (by decide +kernel)
def o_Mo_dropEdge_at_gx_0 : or_T := (2, 2, [(0, (2, 0, 0, [150])), (1, (0, 0, 47, []))], [(20, [1, 0], [30, -1, 1, 0, 0, -1, 3, 2005001])], [], [], [(24, [0, 0], []), (24, [1, 1], [])], [], [])
theorem oo_Mo_dropEdge_at_gx_0 {kA : Nat → ClassId} : or_ok kA GG o_Mo_dropEdge_at_gx_0 := by
  intro A ta ws vs hD hth hl hk hds hf
  have hl : vs.length = 2 := hl
  have hk : ∀ q ∈ ([(0, (2, 0, 0, [150])), (1, (0, 0, 47, []))] : List (Nat × tv_T)), tv_ok ta q.2 (n_v vs q.1) := hk
  obtain ⟨t0, hk⟩ := List.forall_mem_cons.mp hk
  have t0 : tv_ok ta (2, 0, 0, [150]) (n_v vs 0) := t0
  have r0 : ta (v_ad (n_v vs 0)) = some 150 := tv_rg t0
  obtain ⟨t1, hk⟩ := List.forall_mem_cons.mp hk
  have t1 : tv_ok ta (0, 0, 47, []) (n_v vs 1) := t1
  have k1 : 0 ≤ v_iv (n_v vs 1) ∧ v_iv (n_v vs 1) ≤ 47 := tv_rng t1
  have hf : fc_ok [(20, [1, 0], [30, -1, 1, 0, 0, -1, 3, 2005001])] ta ws vs := hf
  obtain ⟨f0, hf⟩ := fc_un (show (20 : Nat) < 100 from by decide) hf
  have f0 : 1 * v_iv (n_v vs 1) + ((-1) * w_el ws (w_ar ws (n_v vs 0) 2) (w_fi ws (n_v vs 0) 5 + 1).toNat + 0) ≤ (-1) := f0
  have cr_0_2 : ta (w_ar ws (n_v vs 0) 2) = some 152 := tv_rg (th_fd hD hth r0 (g := GG_150) rfl (k := 2) (t := (2, 0, 0, [152])) rfl rfl)
  have nf0 : fc_1 (24, [0, 0], []) ws (vs) := by
    refine ⟨fun n hn => ?_, ?_⟩
    · have hn : n ∈ [0, 0] := hn
      rw [hl]
      simp only [List.mem_cons, List.not_mem_nil, or_false] at hn
      show n < 2; omega
    · show n_v vs 0 = n_v vs 0
      first | rfl | simp only [true_and]
  have nf1 : fc_1 (24, [1, 1], []) ws (vs) := by
    refine ⟨fun n hn => ?_, ?_⟩
    · have hn : n ∈ [1, 1] := hn
      rw [hl]
      simp only [List.mem_cons, List.not_mem_nil, or_false] at hn
      show n < 2; omega
    · show n_v vs 1 = n_v vs 1
      first | rfl | simp only [true_and]
  refine ⟨(fun _ h => (by cases h)), [], trivial, ?_, (fun _ h => (by cases h))⟩
  rw [List.append_nil]
  exact List.forall_mem_cons.mpr ⟨⟨show (24 : Nat) < 100 from by decide, nf0⟩, List.forall_mem_cons.mpr ⟨⟨show (24 : Nat) < 100 from by decide, nf1⟩, (fun _ h => (by cases h))⟩⟩
def o_Mo_dropEdge_at_gx_1 : or_T := (158, 13, [(0, (2, 0, 0, [150])), (1, (0, 0, 47, [])), (2, (2, 0, 0, [150])), (3, (0, 0, 47, [])), (4, (0, 0, 47, [])), (5, (0, 1, 1, [])), (6, (0, 1, 48, [])), (7, (0, 0, 48, [])), (8, (2, 0, 0, [152])), (9, (0, 0, 66297, [])), (10, (0, 1, 1, [])), (11, (0, 1, 66298, [])), (12, (0, 0, 48, []))], [(10, [12, 8, 11], []), (1, [11, 9, 10], []), (9, [9, 2], [5]), (9, [8, 2], [2]), (7, [6, 7], [3]), (20, [7, 2], [30, 0, 1, 0, 0, -1, 3, 2005001]), (20, [7, 2], [30, 0, -1, 0, 0, 1, 3, 2005001]), (1, [6, 4, 5], []), (20, [3, 2], [30, -1, 1, 0, 0, -1, 3, 2005001]), (24, [0, 2], []), (24, [1, 3], [])], [(12, (0, 1, 48, []))], [], [], [], [(11, 9, 1, 1), (6, 7, 0, 4294967296), (6, 4, 1, 1), (1, 3, -4294967296, 0), (1, 4, -4294967296, 0), (3, 1, -4294967296, 0), (3, 4, -4294967296, 0)])
theorem oo_Mo_dropEdge_at_gx_1 {kA : Nat → ClassId} : or_ok kA GG o_Mo_dropEdge_at_gx_1 := by
  intro A ta ws vs hD hth hl hk hds hf
  have hl : vs.length = 13 := hl
  have hk : ∀ q ∈ ([(0, (2, 0, 0, [150])), (1, (0, 0, 47, [])), (2, (2, 0, 0, [150])), (3, (0, 0, 47, [])), (4, (0, 0, 47, [])), (5, (0, 1, 1, [])), (6, (0, 1, 48, [])), (7, (0, 0, 48, [])), (8, (2, 0, 0, [152])), (9, (0, 0, 66297, [])), (10, (0, 1, 1, [])), (11, (0, 1, 66298, [])), (12, (0, 0, 48, []))] : List (Nat × tv_T)), tv_ok ta q.2 (n_v vs q.1) := hk
  obtain ⟨t0, hk⟩ := List.forall_mem_cons.mp hk
  have t0 : tv_ok ta (2, 0, 0, [150]) (n_v vs 0) := t0
  have r0 : ta (v_ad (n_v vs 0)) = some 150 := tv_rg t0
  obtain ⟨t1, hk⟩ := List.forall_mem_cons.mp hk
  have t1 : tv_ok ta (0, 0, 47, []) (n_v vs 1) := t1
  have k1 : 0 ≤ v_iv (n_v vs 1) ∧ v_iv (n_v vs 1) ≤ 47 := tv_rng t1
  obtain ⟨t2, hk⟩ := List.forall_mem_cons.mp hk
  have t2 : tv_ok ta (2, 0, 0, [150]) (n_v vs 2) := t2
  have r2 : ta (v_ad (n_v vs 2)) = some 150 := tv_rg t2
  obtain ⟨t3, hk⟩ := List.forall_mem_cons.mp hk
  have t3 : tv_ok ta (0, 0, 47, []) (n_v vs 3) := t3
  have k3 : 0 ≤ v_iv (n_v vs 3) ∧ v_iv (n_v vs 3) ≤ 47 := tv_rng t3
  obtain ⟨t4, hk⟩ := List.forall_mem_cons.mp hk
  have t4 : tv_ok ta (0, 0, 47, []) (n_v vs 4) := t4
  have k4 : 0 ≤ v_iv (n_v vs 4) ∧ v_iv (n_v vs 4) ≤ 47 := tv_rng t4
  obtain ⟨t5, hk⟩ := List.forall_mem_cons.mp hk
  have t5 : tv_ok ta (0, 1, 1, []) (n_v vs 5) := t5
  have k5 : 1 ≤ v_iv (n_v vs 5) ∧ v_iv (n_v vs 5) ≤ 1 := tv_rng t5
  obtain ⟨t6, hk⟩ := List.forall_mem_cons.mp hk
  have t6 : tv_ok ta (0, 1, 48, []) (n_v vs 6) := t6
  have k6 : 1 ≤ v_iv (n_v vs 6) ∧ v_iv (n_v vs 6) ≤ 48 := tv_rng t6
  obtain ⟨t7, hk⟩ := List.forall_mem_cons.mp hk
  have t7 : tv_ok ta (0, 0, 48, []) (n_v vs 7) := t7
  have k7 : 0 ≤ v_iv (n_v vs 7) ∧ v_iv (n_v vs 7) ≤ 48 := tv_rng t7
  obtain ⟨t8, hk⟩ := List.forall_mem_cons.mp hk
  have t8 : tv_ok ta (2, 0, 0, [152]) (n_v vs 8) := t8
  have r8 : ta (v_ad (n_v vs 8)) = some 152 := tv_rg t8
  obtain ⟨t9, hk⟩ := List.forall_mem_cons.mp hk
  have t9 : tv_ok ta (0, 0, 66297, []) (n_v vs 9) := t9
  have k9 : 0 ≤ v_iv (n_v vs 9) ∧ v_iv (n_v vs 9) ≤ 66297 := tv_rng t9
  obtain ⟨t10, hk⟩ := List.forall_mem_cons.mp hk
  have t10 : tv_ok ta (0, 1, 1, []) (n_v vs 10) := t10
  have k10 : 1 ≤ v_iv (n_v vs 10) ∧ v_iv (n_v vs 10) ≤ 1 := tv_rng t10
  obtain ⟨t11, hk⟩ := List.forall_mem_cons.mp hk
  have t11 : tv_ok ta (0, 1, 66298, []) (n_v vs 11) := t11
  have k11 : 1 ≤ v_iv (n_v vs 11) ∧ v_iv (n_v vs 11) ≤ 66298 := tv_rng t11
  obtain ⟨t12, hk⟩ := List.forall_mem_cons.mp hk
  have t12 : tv_ok ta (0, 0, 48, []) (n_v vs 12) := t12
  have k12 : 0 ≤ v_iv (n_v vs 12) ∧ v_iv (n_v vs 12) ≤ 48 := tv_rng t12
  have hds : ∀ q ∈ ([(11, 9, 1, 1), (6, 7, 0, 4294967296), (6, 4, 1, 1), (1, 3, -4294967296, 0), (1, 4, -4294967296, 0), (3, 1, -4294967296, 0), (3, 4, -4294967296, 0)] : List of_T), n_iv vs q.2.1 + q.2.2.1 ≤ n_iv vs q.1 ∧ n_iv vs q.1 ≤ n_iv vs q.2.1 + q.2.2.2 := hds
  obtain ⟨d0, hds⟩ := List.forall_mem_cons.mp hds
  have d0 : v_iv (n_v vs 9) + 1 ≤ v_iv (n_v vs 11) ∧ v_iv (n_v vs 11) ≤ v_iv (n_v vs 9) + 1 := d0
  obtain ⟨d1, hds⟩ := List.forall_mem_cons.mp hds
  have d1 : v_iv (n_v vs 7) + 0 ≤ v_iv (n_v vs 6) ∧ v_iv (n_v vs 6) ≤ v_iv (n_v vs 7) + 4294967296 := d1
  obtain ⟨d2, hds⟩ := List.forall_mem_cons.mp hds
  have d2 : v_iv (n_v vs 4) + 1 ≤ v_iv (n_v vs 6) ∧ v_iv (n_v vs 6) ≤ v_iv (n_v vs 4) + 1 := d2
  obtain ⟨d3, hds⟩ := List.forall_mem_cons.mp hds
  have d3 : v_iv (n_v vs 3) + (-4294967296) ≤ v_iv (n_v vs 1) ∧ v_iv (n_v vs 1) ≤ v_iv (n_v vs 3) + 0 := d3
  obtain ⟨d4, hds⟩ := List.forall_mem_cons.mp hds
  have d4 : v_iv (n_v vs 4) + (-4294967296) ≤ v_iv (n_v vs 1) ∧ v_iv (n_v vs 1) ≤ v_iv (n_v vs 4) + 0 := d4
  obtain ⟨d5, hds⟩ := List.forall_mem_cons.mp hds
  have d5 : v_iv (n_v vs 1) + (-4294967296) ≤ v_iv (n_v vs 3) ∧ v_iv (n_v vs 3) ≤ v_iv (n_v vs 1) + 0 := d5
  obtain ⟨d6, hds⟩ := List.forall_mem_cons.mp hds
  have d6 : v_iv (n_v vs 4) + (-4294967296) ≤ v_iv (n_v vs 3) ∧ v_iv (n_v vs 3) ≤ v_iv (n_v vs 4) + 0 := d6
  have hf : fc_ok [(10, [12, 8, 11], []), (1, [11, 9, 10], []), (9, [9, 2], [5]), (9, [8, 2], [2]), (7, [6, 7], [3]), (20, [7, 2], [30, 0, 1, 0, 0, -1, 3, 2005001]), (20, [7, 2], [30, 0, -1, 0, 0, 1, 3, 2005001]), (1, [6, 4, 5], []), (20, [3, 2], [30, -1, 1, 0, 0, -1, 3, 2005001]), (24, [0, 2], []), (24, [1, 3], [])] ta ws vs := hf
  obtain ⟨f0, hf⟩ := fc_un (show (10 : Nat) < 100 from by decide) hf
  have f0 : v_iv (n_v vs 12) = w_el ws (v_ad (n_v vs 8)) (v_iv (n_v vs 11)).toNat := f0
  obtain ⟨f1, hf⟩ := fc_un (show (1 : Nat) < 100 from by decide) hf
  have f1 : v_iv (n_v vs 11) = v_iv (n_v vs 9) + v_iv (n_v vs 10) := f1
  obtain ⟨f2, hf⟩ := fc_un (show (9 : Nat) < 100 from by decide) hf
  have f2 : n_v vs 9 = w_fd ws (v_ad (n_v vs 2)) 5 := f2
  obtain ⟨f3, hf⟩ := fc_un (show (9 : Nat) < 100 from by decide) hf
  have f3 : n_v vs 8 = w_fd ws (v_ad (n_v vs 2)) 2 := f3
  obtain ⟨f4, hf⟩ := fc_un (show (7 : Nat) < 100 from by decide) hf
  have f4 : v_iv (n_v vs 7) ≤ v_iv (n_v vs 6) := f4
  obtain ⟨f5, hf⟩ := fc_un (show (20 : Nat) < 100 from by decide) hf
  have f5 : 1 * v_iv (n_v vs 7) + ((-1) * w_el ws (w_ar ws (n_v vs 2) 2) (w_fi ws (n_v vs 2) 5 + 1).toNat + 0) ≤ 0 := f5
  obtain ⟨f6, hf⟩ := fc_un (show (20 : Nat) < 100 from by decide) hf
  have f6 : (-1) * v_iv (n_v vs 7) + (1 * w_el ws (w_ar ws (n_v vs 2) 2) (w_fi ws (n_v vs 2) 5 + 1).toNat + 0) ≤ 0 := f6
  obtain ⟨f7, hf⟩ := fc_un (show (1 : Nat) < 100 from by decide) hf
  have f7 : v_iv (n_v vs 6) = v_iv (n_v vs 4) + v_iv (n_v vs 5) := f7
  obtain ⟨f8, hf⟩ := fc_un (show (20 : Nat) < 100 from by decide) hf
  have f8 : 1 * v_iv (n_v vs 3) + ((-1) * w_el ws (w_ar ws (n_v vs 2) 2) (w_fi ws (n_v vs 2) 5 + 1).toNat + 0) ≤ (-1) := f8
  obtain ⟨f9, hf⟩ := fc_un (show (24 : Nat) < 100 from by decide) hf
  have f9 : n_v vs 0 = n_v vs 2 := f9
  obtain ⟨f10, hf⟩ := fc_un (show (24 : Nat) < 100 from by decide) hf
  have f10 : n_v vs 1 = n_v vs 3 := f10
  have q2 : n_v vs 2 = n_v vs 0 := f9.symm
  have q3 : n_v vs 3 = n_v vs 1 := f10.symm
  rw [q2] at f2
  rw [q2] at f3
  rw [q2] at f5
  rw [q2] at f6
  rw [q2] at f8
  rw [q3] at f8
  have cr_0_2 : ta (w_ar ws (n_v vs 0) 2) = some 152 := tv_rg (th_fd hD hth r0 (g := GG_150) rfl (k := 2) (t := (2, 0, 0, [152])) rfl rfl)
  have ad_8 : v_ad (n_v vs 8) = w_ar ws (n_v vs 0) 2 := congrArg v_ad f3
  rw [ad_8] at f0
  have g2 : v_iv (n_v vs 9) = w_fi ws (n_v vs 0) 5 := congrArg v_iv f2
  have cg0_F5_1 : v_iv (n_v vs 11) = w_fi ws (n_v vs 0) 5 + 1 → w_el ws (w_ar ws (n_v vs 0) 2) (v_iv (n_v vs 11)).toNat = w_el ws (w_ar ws (n_v vs 0) 2) (w_fi ws (n_v vs 0) 5 + 1).toNat := fun h => by rw [h]
  have rf12 : tv_ok ta (0, 1, 48, []) (n_v vs 12) := tv_in t12 (by omega) (by omega)
  refine ⟨List.forall_mem_cons.mpr ⟨rf12, (fun _ h => (by cases h))⟩, [], trivial, ?_, (fun _ h => (by cases h))⟩
  rw [List.append_nil]
  exact (fun _ h => (by cases h))
def o_Mo_dropEdge_at_gx_2 : or_T := (161, 15, [(0, (2, 0, 0, [150])), (1, (0, 0, 47, [])), (2, (2, 0, 0, [150])), (3, (0, 0, 47, [])), (4, (0, 0, 47, [])), (5, (0, 1, 1, [])), (6, (0, 1, 48, [])), (7, (0, 0, 48, [])), (8, (2, 0, 0, [152])), (9, (0, 0, 66297, [])), (10, (0, 1, 1, [])), (11, (0, 1, 66298, [])), (12, (0, 1, 48, [])), (13, (0, 1, 1, [])), (14, (0, 0, 47, []))], [(24, [0, 2], []), (24, [1, 3], []), (100, [8, 11, 14], []), (2, [14, 12, 13], []), (10, [12, 8, 11], []), (1, [11, 9, 10], []), (9, [9, 2], [5]), (9, [8, 2], [2]), (7, [6, 7], [3]), (20, [7, 2], [30, 0, 1, 0, 0, -1, 3, 2005001]), (20, [7, 2], [30, 0, -1, 0, 0, 1, 3, 2005001]), (1, [6, 4, 5], []), (20, [3, 2], [30, -1, 1, 0, 0, -1, 3, 2005001])], [], [], [(20, [1, 0], [30, 0, 1, 0, 0, -1, 3, 2005001])], [], [(14, 12, -1, -1), (11, 9, 1, 1), (6, 7, 0, 4294967296), (6, 4, 1, 1), (1, 3, -4294967296, 0), (1, 4, -4294967296, 0), (3, 1, -4294967296, 0), (3, 4, -4294967296, 0)])
theorem oo_Mo_dropEdge_at_gx_2 {kA : Nat → ClassId} : or_ok kA GG o_Mo_dropEdge_at_gx_2 := by
  intro A ta ws vs hD hth hl hk hds hf
  have hl : vs.length = 15 := hl
  have hk : ∀ q ∈ ([(0, (2, 0, 0, [150])), (1, (0, 0, 47, [])), (2, (2, 0, 0, [150])), (3, (0, 0, 47, [])), (4, (0, 0, 47, [])), (5, (0, 1, 1, [])), (6, (0, 1, 48, [])), (7, (0, 0, 48, [])), (8, (2, 0, 0, [152])), (9, (0, 0, 66297, [])), (10, (0, 1, 1, [])), (11, (0, 1, 66298, [])), (12, (0, 1, 48, [])), (13, (0, 1, 1, [])), (14, (0, 0, 47, []))] : List (Nat × tv_T)), tv_ok ta q.2 (n_v vs q.1) := hk
  obtain ⟨t0, hk⟩ := List.forall_mem_cons.mp hk
  have t0 : tv_ok ta (2, 0, 0, [150]) (n_v vs 0) := t0
  have r0 : ta (v_ad (n_v vs 0)) = some 150 := tv_rg t0
  obtain ⟨t1, hk⟩ := List.forall_mem_cons.mp hk
  have t1 : tv_ok ta (0, 0, 47, []) (n_v vs 1) := t1
  have k1 : 0 ≤ v_iv (n_v vs 1) ∧ v_iv (n_v vs 1) ≤ 47 := tv_rng t1
  obtain ⟨t2, hk⟩ := List.forall_mem_cons.mp hk
  have t2 : tv_ok ta (2, 0, 0, [150]) (n_v vs 2) := t2
  have r2 : ta (v_ad (n_v vs 2)) = some 150 := tv_rg t2
  obtain ⟨t3, hk⟩ := List.forall_mem_cons.mp hk
  have t3 : tv_ok ta (0, 0, 47, []) (n_v vs 3) := t3
  have k3 : 0 ≤ v_iv (n_v vs 3) ∧ v_iv (n_v vs 3) ≤ 47 := tv_rng t3
  obtain ⟨t4, hk⟩ := List.forall_mem_cons.mp hk
  have t4 : tv_ok ta (0, 0, 47, []) (n_v vs 4) := t4
  have k4 : 0 ≤ v_iv (n_v vs 4) ∧ v_iv (n_v vs 4) ≤ 47 := tv_rng t4
  obtain ⟨t5, hk⟩ := List.forall_mem_cons.mp hk
  have t5 : tv_ok ta (0, 1, 1, []) (n_v vs 5) := t5
  have k5 : 1 ≤ v_iv (n_v vs 5) ∧ v_iv (n_v vs 5) ≤ 1 := tv_rng t5
  obtain ⟨t6, hk⟩ := List.forall_mem_cons.mp hk
  have t6 : tv_ok ta (0, 1, 48, []) (n_v vs 6) := t6
  have k6 : 1 ≤ v_iv (n_v vs 6) ∧ v_iv (n_v vs 6) ≤ 48 := tv_rng t6
  obtain ⟨t7, hk⟩ := List.forall_mem_cons.mp hk
  have t7 : tv_ok ta (0, 0, 48, []) (n_v vs 7) := t7
  have k7 : 0 ≤ v_iv (n_v vs 7) ∧ v_iv (n_v vs 7) ≤ 48 := tv_rng t7
  obtain ⟨t8, hk⟩ := List.forall_mem_cons.mp hk
  have t8 : tv_ok ta (2, 0, 0, [152]) (n_v vs 8) := t8
  have r8 : ta (v_ad (n_v vs 8)) = some 152 := tv_rg t8
  obtain ⟨t9, hk⟩ := List.forall_mem_cons.mp hk
  have t9 : tv_ok ta (0, 0, 66297, []) (n_v vs 9) := t9
  have k9 : 0 ≤ v_iv (n_v vs 9) ∧ v_iv (n_v vs 9) ≤ 66297 := tv_rng t9
  obtain ⟨t10, hk⟩ := List.forall_mem_cons.mp hk
  have t10 : tv_ok ta (0, 1, 1, []) (n_v vs 10) := t10
  have k10 : 1 ≤ v_iv (n_v vs 10) ∧ v_iv (n_v vs 10) ≤ 1 := tv_rng t10
  obtain ⟨t11, hk⟩ := List.forall_mem_cons.mp hk
  have t11 : tv_ok ta (0, 1, 66298, []) (n_v vs 11) := t11
  have k11 : 1 ≤ v_iv (n_v vs 11) ∧ v_iv (n_v vs 11) ≤ 66298 := tv_rng t11
  obtain ⟨t12, hk⟩ := List.forall_mem_cons.mp hk
  have t12 : tv_ok ta (0, 1, 48, []) (n_v vs 12) := t12
  have k12 : 1 ≤ v_iv (n_v vs 12) ∧ v_iv (n_v vs 12) ≤ 48 := tv_rng t12
  obtain ⟨t13, hk⟩ := List.forall_mem_cons.mp hk
  have t13 : tv_ok ta (0, 1, 1, []) (n_v vs 13) := t13
  have k13 : 1 ≤ v_iv (n_v vs 13) ∧ v_iv (n_v vs 13) ≤ 1 := tv_rng t13
  obtain ⟨t14, hk⟩ := List.forall_mem_cons.mp hk
  have t14 : tv_ok ta (0, 0, 47, []) (n_v vs 14) := t14
  have k14 : 0 ≤ v_iv (n_v vs 14) ∧ v_iv (n_v vs 14) ≤ 47 := tv_rng t14
  have hds : ∀ q ∈ ([(14, 12, -1, -1), (11, 9, 1, 1), (6, 7, 0, 4294967296), (6, 4, 1, 1), (1, 3, -4294967296, 0), (1, 4, -4294967296, 0), (3, 1, -4294967296, 0), (3, 4, -4294967296, 0)] : List of_T), n_iv vs q.2.1 + q.2.2.1 ≤ n_iv vs q.1 ∧ n_iv vs q.1 ≤ n_iv vs q.2.1 + q.2.2.2 := hds
  obtain ⟨d0, hds⟩ := List.forall_mem_cons.mp hds
  have d0 : v_iv (n_v vs 12) + (-1) ≤ v_iv (n_v vs 14) ∧ v_iv (n_v vs 14) ≤ v_iv (n_v vs 12) + (-1) := d0
  obtain ⟨d1, hds⟩ := List.forall_mem_cons.mp hds
  have d1 : v_iv (n_v vs 9) + 1 ≤ v_iv (n_v vs 11) ∧ v_iv (n_v vs 11) ≤ v_iv (n_v vs 9) + 1 := d1
  obtain ⟨d2, hds⟩ := List.forall_mem_cons.mp hds
  have d2 : v_iv (n_v vs 7) + 0 ≤ v_iv (n_v vs 6) ∧ v_iv (n_v vs 6) ≤ v_iv (n_v vs 7) + 4294967296 := d2
  obtain ⟨d3, hds⟩ := List.forall_mem_cons.mp hds
  have d3 : v_iv (n_v vs 4) + 1 ≤ v_iv (n_v vs 6) ∧ v_iv (n_v vs 6) ≤ v_iv (n_v vs 4) + 1 := d3
  obtain ⟨d4, hds⟩ := List.forall_mem_cons.mp hds
  have d4 : v_iv (n_v vs 3) + (-4294967296) ≤ v_iv (n_v vs 1) ∧ v_iv (n_v vs 1) ≤ v_iv (n_v vs 3) + 0 := d4
  obtain ⟨d5, hds⟩ := List.forall_mem_cons.mp hds
  have d5 : v_iv (n_v vs 4) + (-4294967296) ≤ v_iv (n_v vs 1) ∧ v_iv (n_v vs 1) ≤ v_iv (n_v vs 4) + 0 := d5
  obtain ⟨d6, hds⟩ := List.forall_mem_cons.mp hds
  have d6 : v_iv (n_v vs 1) + (-4294967296) ≤ v_iv (n_v vs 3) ∧ v_iv (n_v vs 3) ≤ v_iv (n_v vs 1) + 0 := d6
  obtain ⟨d7, hds⟩ := List.forall_mem_cons.mp hds
  have d7 : v_iv (n_v vs 4) + (-4294967296) ≤ v_iv (n_v vs 3) ∧ v_iv (n_v vs 3) ≤ v_iv (n_v vs 4) + 0 := d7
  have hf : fc_ok [(24, [0, 2], []), (24, [1, 3], []), (100, [8, 11, 14], []), (2, [14, 12, 13], []), (10, [12, 8, 11], []), (1, [11, 9, 10], []), (9, [9, 2], [5]), (9, [8, 2], [2]), (7, [6, 7], [3]), (20, [7, 2], [30, 0, 1, 0, 0, -1, 3, 2005001]), (20, [7, 2], [30, 0, -1, 0, 0, 1, 3, 2005001]), (1, [6, 4, 5], []), (20, [3, 2], [30, -1, 1, 0, 0, -1, 3, 2005001])] ta ws vs := hf
  obtain ⟨f0, hf⟩ := fc_un (show (24 : Nat) < 100 from by decide) hf
  have f0 : n_v vs 0 = n_v vs 2 := f0
  obtain ⟨f1, hf⟩ := fc_un (show (24 : Nat) < 100 from by decide) hf
  have f1 : n_v vs 1 = n_v vs 3 := f1
  obtain ⟨ta1, w1, le1, ⟨_, s1⟩, hf⟩ := fc_us (show ¬ (100 : Nat) < 100 from by decide) hf
  have s1 : (∀ b j, w_el ws b j = if b = v_ad (n_v vs 8) ∧ j = (v_iv (n_v vs 11)).toNat then v_iv (n_v vs 14) else w_el w1 b j) ∧ ∀ b k, w_fd ws b k = w_fd w1 b k := s1
  obtain ⟨f3, hf⟩ := fc_un (show (2 : Nat) < 100 from by decide) hf
  have f3 : v_iv (n_v vs 14) = v_iv (n_v vs 12) - v_iv (n_v vs 13) := f3
  obtain ⟨f4, hf⟩ := fc_un (show (10 : Nat) < 100 from by decide) hf
  have f4 : v_iv (n_v vs 12) = w_el w1 (v_ad (n_v vs 8)) (v_iv (n_v vs 11)).toNat := f4
  obtain ⟨f5, hf⟩ := fc_un (show (1 : Nat) < 100 from by decide) hf
  have f5 : v_iv (n_v vs 11) = v_iv (n_v vs 9) + v_iv (n_v vs 10) := f5
  obtain ⟨f6, hf⟩ := fc_un (show (9 : Nat) < 100 from by decide) hf
  have f6 : n_v vs 9 = w_fd w1 (v_ad (n_v vs 2)) 5 := f6
  obtain ⟨f7, hf⟩ := fc_un (show (9 : Nat) < 100 from by decide) hf
  have f7 : n_v vs 8 = w_fd w1 (v_ad (n_v vs 2)) 2 := f7
  obtain ⟨f8, hf⟩ := fc_un (show (7 : Nat) < 100 from by decide) hf
  have f8 : v_iv (n_v vs 7) ≤ v_iv (n_v vs 6) := f8
  obtain ⟨f9, hf⟩ := fc_un (show (20 : Nat) < 100 from by decide) hf
  have f9 : 1 * v_iv (n_v vs 7) + ((-1) * w_el w1 (w_ar w1 (n_v vs 2) 2) (w_fi w1 (n_v vs 2) 5 + 1).toNat + 0) ≤ 0 := f9
  obtain ⟨f10, hf⟩ := fc_un (show (20 : Nat) < 100 from by decide) hf
  have f10 : (-1) * v_iv (n_v vs 7) + (1 * w_el w1 (w_ar w1 (n_v vs 2) 2) (w_fi w1 (n_v vs 2) 5 + 1).toNat + 0) ≤ 0 := f10
  obtain ⟨f11, hf⟩ := fc_un (show (1 : Nat) < 100 from by decide) hf
  have f11 : v_iv (n_v vs 6) = v_iv (n_v vs 4) + v_iv (n_v vs 5) := f11
  obtain ⟨f12, hf⟩ := fc_un (show (20 : Nat) < 100 from by decide) hf
  have f12 : 1 * v_iv (n_v vs 3) + ((-1) * w_el w1 (w_ar w1 (n_v vs 2) 2) (w_fi w1 (n_v vs 2) 5 + 1).toNat + 0) ≤ (-1) := f12
  have q2 : n_v vs 2 = n_v vs 0 := f0.symm
  have q3 : n_v vs 3 = n_v vs 1 := f1.symm
  rw [q2] at f6
  rw [q2] at f7
  rw [q2] at f9
  rw [q2] at f10
  rw [q2] at f12
  rw [q3] at f12
  have ar_0_2_1 : w_ar w1 (n_v vs 0) 2 = w_ar ws (n_v vs 0) 2 := by show v_ad (w_fd w1 _ _) = v_ad (w_fd ws _ _); rw [s1.2]
  have cr_0_2 : ta (w_ar ws (n_v vs 0) 2) = some 152 := tv_rg (th_fd hD hth r0 (g := GG_150) rfl (k := 2) (t := (2, 0, 0, [152])) rfl rfl)
  have fi_0_5_1 : w_fi w1 (n_v vs 0) 5 = w_fi ws (n_v vs 0) 5 := by show v_iv (w_fd w1 _ _) = v_iv (w_fd ws _ _); rw [s1.2]
  have ad_8 : v_ad (n_v vs 8) = w_ar ws (n_v vs 0) 2 := (congrArg v_ad f7).trans ar_0_2_1
  rw [ad_8] at f4
  have g6 : v_iv (n_v vs 9) = w_fi w1 (n_v vs 0) 5 := congrArg v_iv f6
  rw [ar_0_2_1] at f9
  rw [fi_0_5_1] at f9
  rw [ar_0_2_1] at f10
  rw [fi_0_5_1] at f10
  rw [ar_0_2_1] at f12
  rw [fi_0_5_1] at f12
  have cg4_F5_1 : v_iv (n_v vs 11) = w_fi ws (n_v vs 0) 5 + 1 → w_el w1 (w_ar ws (n_v vs 0) 2) (v_iv (n_v vs 11)).toNat = w_el w1 (w_ar ws (n_v vs 0) 2) (w_fi ws (n_v vs 0) 5 + 1).toNat := fun h => by rw [h]
  have fe_0_5_1 : w_fi ws (n_v vs 0) 5 = w_fi w1 (n_v vs 0) 5 := congrArg v_iv (s1.2 _ _)
  first | (have ee_0_2_F5_1_1 : w_el ws (w_ar ws (n_v vs 0) 2) (w_fi ws (n_v vs 0) 5 + 1).toNat = w_el w1 (w_ar ws (n_v vs 0) 2) (w_fi ws (n_v vs 0) 5 + 1).toNat := by rw [s1.1, if_neg (fun e => absurd e.2 (by omega))]) | have ee_0_2_F5_1_1 : ((w_fi ws (n_v vs 0) 5 + 1).toNat = (v_iv (n_v vs 11)).toNat → w_el ws (w_ar ws (n_v vs 0) 2) (w_fi ws (n_v vs 0) 5 + 1).toNat = v_iv (n_v vs 14)) ∧ ((w_fi ws (n_v vs 0) 5 + 1).toNat ≠ (v_iv (n_v vs 11)).toNat → w_el ws (w_ar ws (n_v vs 0) 2) (w_fi ws (n_v vs 0) 5 + 1).toNat = w_el w1 (w_ar ws (n_v vs 0) 2) (w_fi ws (n_v vs 0) 5 + 1).toNat) := ⟨fun h => by rw [s1.1, if_pos ⟨ad_8.symm, h⟩], fun h => by rw [s1.1, if_neg (fun e => h e.2)]⟩
  have ee_0_2_11_1 : w_el ws (w_ar ws (n_v vs 0) 2) (v_iv (n_v vs 11)).toNat = v_iv (n_v vs 14) := by rw [s1.1, if_pos ⟨ad_8.symm, rfl⟩]
  have nf0 : fc_1 (20, [1, 0], [30, 0, 1, 0, 0, -1, 3, 2005001]) ws (vs) := by
    refine ⟨fun n hn => ?_, ?_⟩
    · have hn : n ∈ [1, 0] := hn
      rw [hl]
      simp only [List.mem_cons, List.not_mem_nil, or_false] at hn
      show n < 15; omega
    · show 1 * v_iv (n_v vs 1) + ((-1) * w_el ws (w_ar ws (n_v vs 0) 2) (w_fi ws (n_v vs 0) 5 + 1).toNat + 0) ≤ 0
      omega
  refine ⟨(fun _ h => (by cases h)), [], trivial, ?_, (fun _ h => (by cases h))⟩
  rw [List.append_nil]
  exact List.forall_mem_cons.mpr ⟨⟨show (20 : Nat) < 100 from by decide, nf0⟩, (fun _ h => (by cases h))⟩
def o_Mo_dropEdge_at_gx_3 : or_T := (2, 47, [(0, (2, 0, 0, [150])), (1, (0, 0, 47, [])), (2, (2, 0, 0, [150])), (3, (0, 0, 47, [])), (4, (0, 0, 46, [])), (5, (0, 1, 1, [])), (6, (0, 1, 47, [])), (7, (0, 2, 48, [])), (8, (2, 0, 0, [152])), (9, (0, 0, 66297, [])), (10, (0, 267, 267, [])), (11, (0, 267, 66564, [])), (12, (0, 267, 66610, [])), (13, (0, 267, 267, [])), (14, (0, 267, 66564, [])), (15, (0, 267, 66610, [])), (16, (0, 1, 1, [])), (17, (0, 268, 66611, [])), (18, (0, 0, 23, [])), (19, (0, 315, 315, [])), (20, (0, 315, 66612, [])), (21, (0, 315, 66658, [])), (22, (0, 315, 315, [])), (23, (0, 315, 66612, [])), (24, (0, 315, 66658, [])), (25, (0, 1, 1, [])), (26, (0, 316, 66659, [])), (27, (0, 0, 23, [])), (28, (0, 363, 363, [])), (29, (0, 363, 66660, [])), (30, (0, 363, 66706, [])), (31, (0, 363, 363, [])), (32, (0, 363, 66660, [])), (33, (0, 363, 66706, [])), (34, (0, 1, 1, [])), (35, (0, 364, 66707, [])), (36, (0, 0, 9, [])), (37, (0, 411, 411, [])), (38, (0, 411, 66708, [])), (39, (0, 411, 66754, [])), (40, (0, 411, 411, [])), (41, (0, 411, 66708, [])), (42, (0, 411, 66754, [])), (43, (0, 1, 1, [])), (44, (0, 412, 66755, [])), (45, (0, 0, 1, [])), (46, (0, 1, 47, []))], [(6, [46, 4], [1]), (24, [0, 2], []), (24, [1, 3], []), (100, [8, 39, 45], []), (10, [45, 8, 44], []), (1, [44, 42, 43], []), (1, [42, 41, 4], []), (1, [41, 9, 40], []), (9, [9, 2], [5]), (9, [8, 2], [2]), (1, [39, 38, 4], []), (1, [38, 9, 37], []), (100, [8, 30, 36], []), (10, [36, 8, 35], []), (1, [35, 33, 34], []), (1, [33, 32, 4], []), (1, [32, 9, 31], []), (1, [30, 29, 4], []), (1, [29, 9, 28], []), (100, [8, 21, 27], []), (10, [27, 8, 26], []), (1, [26, 24, 25], []), (1, [24, 23, 4], []), (1, [23, 9, 22], []), (1, [21, 20, 4], []), (1, [20, 9, 19], []), (100, [8, 12, 18], []), (10, [18, 8, 17], []), (1, [17, 15, 16], []), (1, [15, 14, 4], []), (1, [14, 9, 13], []), (1, [12, 11, 4], []), (1, [11, 9, 10], []), (7, [6, 7], [2]), (20, [7, 2], [30, 0, 1, 0, 0, -1, 3, 2005001]), (20, [7, 2], [30, 0, -1, 0, 0, 1, 3, 2005001]), (1, [6, 4, 5], []), (20, [3, 2], [30, -1, 1, 0, 0, -1, 3, 2005001])], [], [], [(20, [3, 2], [30, -1, 1, 0, 0, -1, 3, 2005001])], [], [(46, 4, 1, 1), (44, 42, 1, 1), (44, 4, 412, 66709), (44, 41, 1, 47), (44, 9, 412, 458), (42, 4, 411, 66708), (42, 41, 0, 46), (42, 9, 411, 457), (41, 9, 411, 411), (39, 4, 411, 66708), (39, 38, 0, 46), (39, 9, 411, 457), (38, 9, 411, 411), (35, 33, 1, 1), (35, 4, 364, 66661), (35, 32, 1, 47), (35, 9, 364, 410), (33, 4, 363, 66660), (33, 32, 0, 46), (33, 9, 363, 409), (32, 9, 363, 363), (30, 4, 363, 66660), (30, 29, 0, 46), (30, 9, 363, 409), (29, 9, 363, 363), (26, 24, 1, 1), (26, 4, 316, 66613), (26, 23, 1, 47), (26, 9, 316, 362), (24, 4, 315, 66612), (24, 23, 0, 46), (24, 9, 315, 361), (23, 9, 315, 315), (21, 4, 315, 66612), (21, 20, 0, 46), (21, 9, 315, 361), (20, 9, 315, 315), (17, 15, 1, 1), (17, 4, 268, 66565), (17, 14, 1, 47), (17, 9, 268, 314), (15, 4, 267, 66564), (15, 14, 0, 46), (15, 9, 267, 313), (14, 9, 267, 267), (12, 4, 267, 66564), (12, 11, 0, 46), (12, 9, 267, 313), (11, 9, 267, 267), (6, 7, -4294967296, -1), (6, 4, 1, 1), (1, 3, -4294967296, 0), (1, 4, -4294967296, 0), (3, 1, -4294967296, 0), (3, 4, -4294967296, 0)])
theorem oo_Mo_dropEdge_at_gx_3 {kA : Nat → ClassId} : or_ok kA GG o_Mo_dropEdge_at_gx_3 := by
  intro A ta ws vs hD hth hl hk hds hf
  have hl : vs.length = 47 := hl
  have hk : ∀ q ∈ ([(0, (2, 0, 0, [150])), (1, (0, 0, 47, [])), (2, (2, 0, 0, [150])), (3, (0, 0, 47, [])), (4, (0, 0, 46, [])), (5, (0, 1, 1, [])), (6, (0, 1, 47, [])), (7, (0, 2, 48, [])), (8, (2, 0, 0, [152])), (9, (0, 0, 66297, [])), (10, (0, 267, 267, [])), (11, (0, 267, 66564, [])), (12, (0, 267, 66610, [])), (13, (0, 267, 267, [])), (14, (0, 267, 66564, [])), (15, (0, 267, 66610, [])), (16, (0, 1, 1, [])), (17, (0, 268, 66611, [])), (18, (0, 0, 23, [])), (19, (0, 315, 315, [])), (20, (0, 315, 66612, [])), (21, (0, 315, 66658, [])), (22, (0, 315, 315, [])), (23, (0, 315, 66612, [])), (24, (0, 315, 66658, [])), (25, (0, 1, 1, [])), (26, (0, 316, 66659, [])), (27, (0, 0, 23, [])), (28, (0, 363, 363, [])), (29, (0, 363, 66660, [])), (30, (0, 363, 66706, [])), (31, (0, 363, 363, [])), (32, (0, 363, 66660, [])), (33, (0, 363, 66706, [])), (34, (0, 1, 1, [])), (35, (0, 364, 66707, [])), (36, (0, 0, 9, [])), (37, (0, 411, 411, [])), (38, (0, 411, 66708, [])), (39, (0, 411, 66754, [])), (40, (0, 411, 411, [])), (41, (0, 411, 66708, [])), (42, (0, 411, 66754, [])), (43, (0, 1, 1, [])), (44, (0, 412, 66755, [])), (45, (0, 0, 1, [])), (46, (0, 1, 47, []))] : List (Nat × tv_T)), tv_ok ta q.2 (n_v vs q.1) := hk
  obtain ⟨t0, hk⟩ := List.forall_mem_cons.mp hk
  have t0 : tv_ok ta (2, 0, 0, [150]) (n_v vs 0) := t0
  have r0 : ta (v_ad (n_v vs 0)) = some 150 := tv_rg t0
  obtain ⟨t1, hk⟩ := List.forall_mem_cons.mp hk
  have t1 : tv_ok ta (0, 0, 47, []) (n_v vs 1) := t1
  have k1 : 0 ≤ v_iv (n_v vs 1) ∧ v_iv (n_v vs 1) ≤ 47 := tv_rng t1
  obtain ⟨t2, hk⟩ := List.forall_mem_cons.mp hk
  have t2 : tv_ok ta (2, 0, 0, [150]) (n_v vs 2) := t2
  have r2 : ta (v_ad (n_v vs 2)) = some 150 := tv_rg t2
  obtain ⟨t3, hk⟩ := List.forall_mem_cons.mp hk
  have t3 : tv_ok ta (0, 0, 47, []) (n_v vs 3) := t3
  have k3 : 0 ≤ v_iv (n_v vs 3) ∧ v_iv (n_v vs 3) ≤ 47 := tv_rng t3
  obtain ⟨t4, hk⟩ := List.forall_mem_cons.mp hk
  have t4 : tv_ok ta (0, 0, 46, []) (n_v vs 4) := t4
  have k4 : 0 ≤ v_iv (n_v vs 4) ∧ v_iv (n_v vs 4) ≤ 46 := tv_rng t4
  obtain ⟨t5, hk⟩ := List.forall_mem_cons.mp hk
  have t5 : tv_ok ta (0, 1, 1, []) (n_v vs 5) := t5
  have k5 : 1 ≤ v_iv (n_v vs 5) ∧ v_iv (n_v vs 5) ≤ 1 := tv_rng t5
  obtain ⟨t6, hk⟩ := List.forall_mem_cons.mp hk
  have t6 : tv_ok ta (0, 1, 47, []) (n_v vs 6) := t6
  have k6 : 1 ≤ v_iv (n_v vs 6) ∧ v_iv (n_v vs 6) ≤ 47 := tv_rng t6
  obtain ⟨t7, hk⟩ := List.forall_mem_cons.mp hk
  have t7 : tv_ok ta (0, 2, 48, []) (n_v vs 7) := t7
  have k7 : 2 ≤ v_iv (n_v vs 7) ∧ v_iv (n_v vs 7) ≤ 48 := tv_rng t7
  obtain ⟨t8, hk⟩ := List.forall_mem_cons.mp hk
  have t8 : tv_ok ta (2, 0, 0, [152]) (n_v vs 8) := t8
  have r8 : ta (v_ad (n_v vs 8)) = some 152 := tv_rg t8
  obtain ⟨t9, hk⟩ := List.forall_mem_cons.mp hk
  have t9 : tv_ok ta (0, 0, 66297, []) (n_v vs 9) := t9
  have k9 : 0 ≤ v_iv (n_v vs 9) ∧ v_iv (n_v vs 9) ≤ 66297 := tv_rng t9
  obtain ⟨t10, hk⟩ := List.forall_mem_cons.mp hk
  have t10 : tv_ok ta (0, 267, 267, []) (n_v vs 10) := t10
  have k10 : 267 ≤ v_iv (n_v vs 10) ∧ v_iv (n_v vs 10) ≤ 267 := tv_rng t10
  obtain ⟨t11, hk⟩ := List.forall_mem_cons.mp hk
  have t11 : tv_ok ta (0, 267, 66564, []) (n_v vs 11) := t11
  have k11 : 267 ≤ v_iv (n_v vs 11) ∧ v_iv (n_v vs 11) ≤ 66564 := tv_rng t11
  obtain ⟨t12, hk⟩ := List.forall_mem_cons.mp hk
  have t12 : tv_ok ta (0, 267, 66610, []) (n_v vs 12) := t12
  have k12 : 267 ≤ v_iv (n_v vs 12) ∧ v_iv (n_v vs 12) ≤ 66610 := tv_rng t12
  obtain ⟨t13, hk⟩ := List.forall_mem_cons.mp hk
  have t13 : tv_ok ta (0, 267, 267, []) (n_v vs 13) := t13
  have k13 : 267 ≤ v_iv (n_v vs 13) ∧ v_iv (n_v vs 13) ≤ 267 := tv_rng t13
  obtain ⟨t14, hk⟩ := List.forall_mem_cons.mp hk
  have t14 : tv_ok ta (0, 267, 66564, []) (n_v vs 14) := t14
  have k14 : 267 ≤ v_iv (n_v vs 14) ∧ v_iv (n_v vs 14) ≤ 66564 := tv_rng t14
  obtain ⟨t15, hk⟩ := List.forall_mem_cons.mp hk
  have t15 : tv_ok ta (0, 267, 66610, []) (n_v vs 15) := t15
  have k15 : 267 ≤ v_iv (n_v vs 15) ∧ v_iv (n_v vs 15) ≤ 66610 := tv_rng t15
  obtain ⟨t16, hk⟩ := List.forall_mem_cons.mp hk
  have t16 : tv_ok ta (0, 1, 1, []) (n_v vs 16) := t16
  have k16 : 1 ≤ v_iv (n_v vs 16) ∧ v_iv (n_v vs 16) ≤ 1 := tv_rng t16
  obtain ⟨t17, hk⟩ := List.forall_mem_cons.mp hk
  have t17 : tv_ok ta (0, 268, 66611, []) (n_v vs 17) := t17
  have k17 : 268 ≤ v_iv (n_v vs 17) ∧ v_iv (n_v vs 17) ≤ 66611 := tv_rng t17
  obtain ⟨t18, hk⟩ := List.forall_mem_cons.mp hk
  have t18 : tv_ok ta (0, 0, 23, []) (n_v vs 18) := t18
  have k18 : 0 ≤ v_iv (n_v vs 18) ∧ v_iv (n_v vs 18) ≤ 23 := tv_rng t18
  obtain ⟨t19, hk⟩ := List.forall_mem_cons.mp hk
  have t19 : tv_ok ta (0, 315, 315, []) (n_v vs 19) := t19
  have k19 : 315 ≤ v_iv (n_v vs 19) ∧ v_iv (n_v vs 19) ≤ 315 := tv_rng t19
  obtain ⟨t20, hk⟩ := List.forall_mem_cons.mp hk
  have t20 : tv_ok ta (0, 315, 66612, []) (n_v vs 20) := t20
  have k20 : 315 ≤ v_iv (n_v vs 20) ∧ v_iv (n_v vs 20) ≤ 66612 := tv_rng t20
  obtain ⟨t21, hk⟩ := List.forall_mem_cons.mp hk
  have t21 : tv_ok ta (0, 315, 66658, []) (n_v vs 21) := t21
  have k21 : 315 ≤ v_iv (n_v vs 21) ∧ v_iv (n_v vs 21) ≤ 66658 := tv_rng t21
  obtain ⟨t22, hk⟩ := List.forall_mem_cons.mp hk
  have t22 : tv_ok ta (0, 315, 315, []) (n_v vs 22) := t22
  have k22 : 315 ≤ v_iv (n_v vs 22) ∧ v_iv (n_v vs 22) ≤ 315 := tv_rng t22
  obtain ⟨t23, hk⟩ := List.forall_mem_cons.mp hk
  have t23 : tv_ok ta (0, 315, 66612, []) (n_v vs 23) := t23
  have k23 : 315 ≤ v_iv (n_v vs 23) ∧ v_iv (n_v vs 23) ≤ 66612 := tv_rng t23
  obtain ⟨t24, hk⟩ := List.forall_mem_cons.mp hk
  have t24 : tv_ok ta (0, 315, 66658, []) (n_v vs 24) := t24
  have k24 : 315 ≤ v_iv (n_v vs 24) ∧ v_iv (n_v vs 24) ≤ 66658 := tv_rng t24
  obtain ⟨t25, hk⟩ := List.forall_mem_cons.mp hk
  have t25 : tv_ok ta (0, 1, 1, []) (n_v vs 25) := t25
  have k25 : 1 ≤ v_iv (n_v vs 25) ∧ v_iv (n_v vs 25) ≤ 1 := tv_rng t25
  obtain ⟨t26, hk⟩ := List.forall_mem_cons.mp hk
  have t26 : tv_ok ta (0, 316, 66659, []) (n_v vs 26) := t26
  have k26 : 316 ≤ v_iv (n_v vs 26) ∧ v_iv (n_v vs 26) ≤ 66659 := tv_rng t26
  obtain ⟨t27, hk⟩ := List.forall_mem_cons.mp hk
  have t27 : tv_ok ta (0, 0, 23, []) (n_v vs 27) := t27
  have k27 : 0 ≤ v_iv (n_v vs 27) ∧ v_iv (n_v vs 27) ≤ 23 := tv_rng t27
  obtain ⟨t28, hk⟩ := List.forall_mem_cons.mp hk
  have t28 : tv_ok ta (0, 363, 363, []) (n_v vs 28) := t28
  have k28 : 363 ≤ v_iv (n_v vs 28) ∧ v_iv (n_v vs 28) ≤ 363 := tv_rng t28
  obtain ⟨t29, hk⟩ := List.forall_mem_cons.mp hk
  have t29 : tv_ok ta (0, 363, 66660, []) (n_v vs 29) := t29
  have k29 : 363 ≤ v_iv (n_v vs 29) ∧ v_iv (n_v vs 29) ≤ 66660 := tv_rng t29
  obtain ⟨t30, hk⟩ := List.forall_mem_cons.mp hk
  have t30 : tv_ok ta (0, 363, 66706, []) (n_v vs 30) := t30
  have k30 : 363 ≤ v_iv (n_v vs 30) ∧ v_iv (n_v vs 30) ≤ 66706 := tv_rng t30
  obtain ⟨t31, hk⟩ := List.forall_mem_cons.mp hk
  have t31 : tv_ok ta (0, 363, 363, []) (n_v vs 31) := t31
  have k31 : 363 ≤ v_iv (n_v vs 31) ∧ v_iv (n_v vs 31) ≤ 363 := tv_rng t31
  obtain ⟨t32, hk⟩ := List.forall_mem_cons.mp hk
  have t32 : tv_ok ta (0, 363, 66660, []) (n_v vs 32) := t32
  have k32 : 363 ≤ v_iv (n_v vs 32) ∧ v_iv (n_v vs 32) ≤ 66660 := tv_rng t32
  obtain ⟨t33, hk⟩ := List.forall_mem_cons.mp hk
  have t33 : tv_ok ta (0, 363, 66706, []) (n_v vs 33) := t33
  have k33 : 363 ≤ v_iv (n_v vs 33) ∧ v_iv (n_v vs 33) ≤ 66706 := tv_rng t33
  obtain ⟨t34, hk⟩ := List.forall_mem_cons.mp hk
  have t34 : tv_ok ta (0, 1, 1, []) (n_v vs 34) := t34
  have k34 : 1 ≤ v_iv (n_v vs 34) ∧ v_iv (n_v vs 34) ≤ 1 := tv_rng t34
  obtain ⟨t35, hk⟩ := List.forall_mem_cons.mp hk
  have t35 : tv_ok ta (0, 364, 66707, []) (n_v vs 35) := t35
  have k35 : 364 ≤ v_iv (n_v vs 35) ∧ v_iv (n_v vs 35) ≤ 66707 := tv_rng t35
  obtain ⟨t36, hk⟩ := List.forall_mem_cons.mp hk
  have t36 : tv_ok ta (0, 0, 9, []) (n_v vs 36) := t36
  have k36 : 0 ≤ v_iv (n_v vs 36) ∧ v_iv (n_v vs 36) ≤ 9 := tv_rng t36
  obtain ⟨t37, hk⟩ := List.forall_mem_cons.mp hk
  have t37 : tv_ok ta (0, 411, 411, []) (n_v vs 37) := t37
  have k37 : 411 ≤ v_iv (n_v vs 37) ∧ v_iv (n_v vs 37) ≤ 411 := tv_rng t37
  obtain ⟨t38, hk⟩ := List.forall_mem_cons.mp hk
  have t38 : tv_ok ta (0, 411, 66708, []) (n_v vs 38) := t38
  have k38 : 411 ≤ v_iv (n_v vs 38) ∧ v_iv (n_v vs 38) ≤ 66708 := tv_rng t38
  obtain ⟨t39, hk⟩ := List.forall_mem_cons.mp hk
  have t39 : tv_ok ta (0, 411, 66754, []) (n_v vs 39) := t39
  have k39 : 411 ≤ v_iv (n_v vs 39) ∧ v_iv (n_v vs 39) ≤ 66754 := tv_rng t39
  obtain ⟨t40, hk⟩ := List.forall_mem_cons.mp hk
  have t40 : tv_ok ta (0, 411, 411, []) (n_v vs 40) := t40
  have k40 : 411 ≤ v_iv (n_v vs 40) ∧ v_iv (n_v vs 40) ≤ 411 := tv_rng t40
  obtain ⟨t41, hk⟩ := List.forall_mem_cons.mp hk
  have t41 : tv_ok ta (0, 411, 66708, []) (n_v vs 41) := t41
  have k41 : 411 ≤ v_iv (n_v vs 41) ∧ v_iv (n_v vs 41) ≤ 66708 := tv_rng t41
  obtain ⟨t42, hk⟩ := List.forall_mem_cons.mp hk
  have t42 : tv_ok ta (0, 411, 66754, []) (n_v vs 42) := t42
  have k42 : 411 ≤ v_iv (n_v vs 42) ∧ v_iv (n_v vs 42) ≤ 66754 := tv_rng t42
  obtain ⟨t43, hk⟩ := List.forall_mem_cons.mp hk
  have t43 : tv_ok ta (0, 1, 1, []) (n_v vs 43) := t43
  have k43 : 1 ≤ v_iv (n_v vs 43) ∧ v_iv (n_v vs 43) ≤ 1 := tv_rng t43
  obtain ⟨t44, hk⟩ := List.forall_mem_cons.mp hk
  have t44 : tv_ok ta (0, 412, 66755, []) (n_v vs 44) := t44
  have k44 : 412 ≤ v_iv (n_v vs 44) ∧ v_iv (n_v vs 44) ≤ 66755 := tv_rng t44
  obtain ⟨t45, hk⟩ := List.forall_mem_cons.mp hk
  have t45 : tv_ok ta (0, 0, 1, []) (n_v vs 45) := t45
  have k45 : 0 ≤ v_iv (n_v vs 45) ∧ v_iv (n_v vs 45) ≤ 1 := tv_rng t45
  obtain ⟨t46, hk⟩ := List.forall_mem_cons.mp hk
  have t46 : tv_ok ta (0, 1, 47, []) (n_v vs 46) := t46
  have k46 : 1 ≤ v_iv (n_v vs 46) ∧ v_iv (n_v vs 46) ≤ 47 := tv_rng t46
  have hds : ∀ q ∈ ([(46, 4, 1, 1), (44, 42, 1, 1), (44, 4, 412, 66709), (44, 41, 1, 47), (44, 9, 412, 458), (42, 4, 411, 66708), (42, 41, 0, 46), (42, 9, 411, 457), (41, 9, 411, 411), (39, 4, 411, 66708), (39, 38, 0, 46), (39, 9, 411, 457), (38, 9, 411, 411), (35, 33, 1, 1), (35, 4, 364, 66661), (35, 32, 1, 47), (35, 9, 364, 410), (33, 4, 363, 66660), (33, 32, 0, 46), (33, 9, 363, 409), (32, 9, 363, 363), (30, 4, 363, 66660), (30, 29, 0, 46), (30, 9, 363, 409), (29, 9, 363, 363), (26, 24, 1, 1), (26, 4, 316, 66613), (26, 23, 1, 47), (26, 9, 316, 362), (24, 4, 315, 66612), (24, 23, 0, 46), (24, 9, 315, 361), (23, 9, 315, 315), (21, 4, 315, 66612), (21, 20, 0, 46), (21, 9, 315, 361), (20, 9, 315, 315), (17, 15, 1, 1), (17, 4, 268, 66565), (17, 14, 1, 47), (17, 9, 268, 314), (15, 4, 267, 66564), (15, 14, 0, 46), (15, 9, 267, 313), (14, 9, 267, 267), (12, 4, 267, 66564), (12, 11, 0, 46), (12, 9, 267, 313), (11, 9, 267, 267), (6, 7, -4294967296, -1), (6, 4, 1, 1), (1, 3, -4294967296, 0), (1, 4, -4294967296, 0), (3, 1, -4294967296, 0), (3, 4, -4294967296, 0)] : List of_T), n_iv vs q.2.1 + q.2.2.1 ≤ n_iv vs q.1 ∧ n_iv vs q.1 ≤ n_iv vs q.2.1 + q.2.2.2 := hds
  obtain ⟨d0, hds⟩ := List.forall_mem_cons.mp hds
  have d0 : v_iv (n_v vs 4) + 1 ≤ v_iv (n_v vs 46) ∧ v_iv (n_v vs 46) ≤ v_iv (n_v vs 4) + 1 := d0
  obtain ⟨d1, hds⟩ := List.forall_mem_cons.mp hds
  have d1 : v_iv (n_v vs 42) + 1 ≤ v_iv (n_v vs 44) ∧ v_iv (n_v vs 44) ≤ v_iv (n_v vs 42) + 1 := d1
  obtain ⟨d2, hds⟩ := List.forall_mem_cons.mp hds
  have d2 : v_iv (n_v vs 4) + 412 ≤ v_iv (n_v vs 44) ∧ v_iv (n_v vs 44) ≤ v_iv (n_v vs 4) + 66709 := d2
  obtain ⟨d3, hds⟩ := List.forall_mem_cons.mp hds
  have d3 : v_iv (n_v vs 41) + 1 ≤ v_iv (n_v vs 44) ∧ v_iv (n_v vs 44) ≤ v_iv (n_v vs 41) + 47 := d3
  obtain ⟨d4, hds⟩ := List.forall_mem_cons.mp hds
  have d4 : v_iv (n_v vs 9) + 412 ≤ v_iv (n_v vs 44) ∧ v_iv (n_v vs 44) ≤ v_iv (n_v vs 9) + 458 := d4
  obtain ⟨d5, hds⟩ := List.forall_mem_cons.mp hds
  have d5 : v_iv (n_v vs 4) + 411 ≤ v_iv (n_v vs 42) ∧ v_iv (n_v vs 42) ≤ v_iv (n_v vs 4) + 66708 := d5
  obtain ⟨d6, hds⟩ := List.forall_mem_cons.mp hds
  have d6 : v_iv (n_v vs 41) + 0 ≤ v_iv (n_v vs 42) ∧ v_iv (n_v vs 42) ≤ v_iv (n_v vs 41) + 46 := d6
  obtain ⟨d7, hds⟩ := List.forall_mem_cons.mp hds
  have d7 : v_iv (n_v vs 9) + 411 ≤ v_iv (n_v vs 42) ∧ v_iv (n_v vs 42) ≤ v_iv (n_v vs 9) + 457 := d7
  obtain ⟨d8, hds⟩ := List.forall_mem_cons.mp hds
  have d8 : v_iv (n_v vs 9) + 411 ≤ v_iv (n_v vs 41) ∧ v_iv (n_v vs 41) ≤ v_iv (n_v vs 9) + 411 := d8
  obtain ⟨d9, hds⟩ := List.forall_mem_cons.mp hds
  have d9 : v_iv (n_v vs 4) + 411 ≤ v_iv (n_v vs 39) ∧ v_iv (n_v vs 39) ≤ v_iv (n_v vs 4) + 66708 := d9
  obtain ⟨d10, hds⟩ := List.forall_mem_cons.mp hds
  have d10 : v_iv (n_v vs 38) + 0 ≤ v_iv (n_v vs 39) ∧ v_iv (n_v vs 39) ≤ v_iv (n_v vs 38) + 46 := d10
  obtain ⟨d11, hds⟩ := List.forall_mem_cons.mp hds
  have d11 : v_iv (n_v vs 9) + 411 ≤ v_iv (n_v vs 39) ∧ v_iv (n_v vs 39) ≤ v_iv (n_v vs 9) + 457 := d11
  obtain ⟨d12, hds⟩ := List.forall_mem_cons.mp hds
  have d12 : v_iv (n_v vs 9) + 411 ≤ v_iv (n_v vs 38) ∧ v_iv (n_v vs 38) ≤ v_iv (n_v vs 9) + 411 := d12
  obtain ⟨d13, hds⟩ := List.forall_mem_cons.mp hds
  have d13 : v_iv (n_v vs 33) + 1 ≤ v_iv (n_v vs 35) ∧ v_iv (n_v vs 35) ≤ v_iv (n_v vs 33) + 1 := d13
  obtain ⟨d14, hds⟩ := List.forall_mem_cons.mp hds
  have d14 : v_iv (n_v vs 4) + 364 ≤ v_iv (n_v vs 35) ∧ v_iv (n_v vs 35) ≤ v_iv (n_v vs 4) + 66661 := d14
  obtain ⟨d15, hds⟩ := List.forall_mem_cons.mp hds
  have d15 : v_iv (n_v vs 32) + 1 ≤ v_iv (n_v vs 35) ∧ v_iv (n_v vs 35) ≤ v_iv (n_v vs 32) + 47 := d15
  obtain ⟨d16, hds⟩ := List.forall_mem_cons.mp hds
  have d16 : v_iv (n_v vs 9) + 364 ≤ v_iv (n_v vs 35) ∧ v_iv (n_v vs 35) ≤ v_iv (n_v vs 9) + 410 := d16
  obtain ⟨d17, hds⟩ := List.forall_mem_cons.mp hds
  have d17 : v_iv (n_v vs 4) + 363 ≤ v_iv (n_v vs 33) ∧ v_iv (n_v vs 33) ≤ v_iv (n_v vs 4) + 66660 := d17
  obtain ⟨d18, hds⟩ := List.forall_mem_cons.mp hds
  have d18 : v_iv (n_v vs 32) + 0 ≤ v_iv (n_v vs 33) ∧ v_iv (n_v vs 33) ≤ v_iv (n_v vs 32) + 46 := d18
  obtain ⟨d19, hds⟩ := List.forall_mem_cons.mp hds
  have d19 : v_iv (n_v vs 9) + 363 ≤ v_iv (n_v vs 33) ∧ v_iv (n_v vs 33) ≤ v_iv (n_v vs 9) + 409 := d19
  obtain ⟨d20, hds⟩ := List.forall_mem_cons.mp hds
  have d20 : v_iv (n_v vs 9) + 363 ≤ v_iv (n_v vs 32) ∧ v_iv (n_v vs 32) ≤ v_iv (n_v vs 9) + 363 := d20
  obtain ⟨d21, hds⟩ := List.forall_mem_cons.mp hds
  have d21 : v_iv (n_v vs 4) + 363 ≤ v_iv (n_v vs 30) ∧ v_iv (n_v vs 30) ≤ v_iv (n_v vs 4) + 66660 := d21
  obtain ⟨d22, hds⟩ := List.forall_mem_cons.mp hds
  have d22 : v_iv (n_v vs 29) + 0 ≤ v_iv (n_v vs 30) ∧ v_iv (n_v vs 30) ≤ v_iv (n_v vs 29) + 46 := d22
  obtain ⟨d23, hds⟩ := List.forall_mem_cons.mp hds
  have d23 : v_iv (n_v vs 9) + 363 ≤ v_iv (n_v vs 30) ∧ v_iv (n_v vs 30) ≤ v_iv (n_v vs 9) + 409 := d23
  obtain ⟨d24, hds⟩ := List.forall_mem_cons.mp hds
  have d24 : v_iv (n_v vs 9) + 363 ≤ v_iv (n_v vs 29) ∧ v_iv (n_v vs 29) ≤ v_iv (n_v vs 9) + 363 := d24
  obtain ⟨d25, hds⟩ := List.forall_mem_cons.mp hds
  have d25 : v_iv (n_v vs 24) + 1 ≤ v_iv (n_v vs 26) ∧ v_iv (n_v vs 26) ≤ v_iv (n_v vs 24) + 1 := d25
  obtain ⟨d26, hds⟩ := List.forall_mem_cons.mp hds
  have d26 : v_iv (n_v vs 4) + 316 ≤ v_iv (n_v vs 26) ∧ v_iv (n_v vs 26) ≤ v_iv (n_v vs 4) + 66613 := d26
  obtain ⟨d27, hds⟩ := List.forall_mem_cons.mp hds
  have d27 : v_iv (n_v vs 23) + 1 ≤ v_iv (n_v vs 26) ∧ v_iv (n_v vs 26) ≤ v_iv (n_v vs 23) + 47 := d27
  obtain ⟨d28, hds⟩ := List.forall_mem_cons.mp hds
  have d28 : v_iv (n_v vs 9) + 316 ≤ v_iv (n_v vs 26) ∧ v_iv (n_v vs 26) ≤ v_iv (n_v vs 9) + 362 := d28
  obtain ⟨d29, hds⟩ := List.forall_mem_cons.mp hds
  have d29 : v_iv (n_v vs 4) + 315 ≤ v_iv (n_v vs 24) ∧ v_iv (n_v vs 24) ≤ v_iv (n_v vs 4) + 66612 := d29
  obtain ⟨d30, hds⟩ := List.forall_mem_cons.mp hds
  have d30 : v_iv (n_v vs 23) + 0 ≤ v_iv (n_v vs 24) ∧ v_iv (n_v vs 24) ≤ v_iv (n_v vs 23) + 46 := d30
  obtain ⟨d31, hds⟩ := List.forall_mem_cons.mp hds
  have d31 : v_iv (n_v vs 9) + 315 ≤ v_iv (n_v vs 24) ∧ v_iv (n_v vs 24) ≤ v_iv (n_v vs 9) + 361 := d31
  obtain ⟨d32, hds⟩ := List.forall_mem_cons.mp hds
  have d32 : v_iv (n_v vs 9) + 315 ≤ v_iv (n_v vs 23) ∧ v_iv (n_v vs 23) ≤ v_iv (n_v vs 9) + 315 := d32
  obtain ⟨d33, hds⟩ := List.forall_mem_cons.mp hds
  have d33 : v_iv (n_v vs 4) + 315 ≤ v_iv (n_v vs 21) ∧ v_iv (n_v vs 21) ≤ v_iv (n_v vs 4) + 66612 := d33
  obtain ⟨d34, hds⟩ := List.forall_mem_cons.mp hds
  have d34 : v_iv (n_v vs 20) + 0 ≤ v_iv (n_v vs 21) ∧ v_iv (n_v vs 21) ≤ v_iv (n_v vs 20) + 46 := d34
  obtain ⟨d35, hds⟩ := List.forall_mem_cons.mp hds
  have d35 : v_iv (n_v vs 9) + 315 ≤ v_iv (n_v vs 21) ∧ v_iv (n_v vs 21) ≤ v_iv (n_v vs 9) + 361 := d35
  obtain ⟨d36, hds⟩ := List.forall_mem_cons.mp hds
  have d36 : v_iv (n_v vs 9) + 315 ≤ v_iv (n_v vs 20) ∧ v_iv (n_v vs 20) ≤ v_iv (n_v vs 9) + 315 := d36
  obtain ⟨d37, hds⟩ := List.forall_mem_cons.mp hds
  have d37 : v_iv (n_v vs 15) + 1 ≤ v_iv (n_v vs 17) ∧ v_iv (n_v vs 17) ≤ v_iv (n_v vs 15) + 1 := d37
  obtain ⟨d38, hds⟩ := List.forall_mem_cons.mp hds
  have d38 : v_iv (n_v vs 4) + 268 ≤ v_iv (n_v vs 17) ∧ v_iv (n_v vs 17) ≤ v_iv (n_v vs 4) + 66565 := d38
  obtain ⟨d39, hds⟩ := List.forall_mem_cons.mp hds
  have d39 : v_iv (n_v vs 14) + 1 ≤ v_iv (n_v vs 17) ∧ v_iv (n_v vs 17) ≤ v_iv (n_v vs 14) + 47 := d39
  obtain ⟨d40, hds⟩ := List.forall_mem_cons.mp hds
  have d40 : v_iv (n_v vs 9) + 268 ≤ v_iv (n_v vs 17) ∧ v_iv (n_v vs 17) ≤ v_iv (n_v vs 9) + 314 := d40
  obtain ⟨d41, hds⟩ := List.forall_mem_cons.mp hds
  have d41 : v_iv (n_v vs 4) + 267 ≤ v_iv (n_v vs 15) ∧ v_iv (n_v vs 15) ≤ v_iv (n_v vs 4) + 66564 := d41
  obtain ⟨d42, hds⟩ := List.forall_mem_cons.mp hds
  have d42 : v_iv (n_v vs 14) + 0 ≤ v_iv (n_v vs 15) ∧ v_iv (n_v vs 15) ≤ v_iv (n_v vs 14) + 46 := d42
  obtain ⟨d43, hds⟩ := List.forall_mem_cons.mp hds
  have d43 : v_iv (n_v vs 9) + 267 ≤ v_iv (n_v vs 15) ∧ v_iv (n_v vs 15) ≤ v_iv (n_v vs 9) + 313 := d43
  obtain ⟨d44, hds⟩ := List.forall_mem_cons.mp hds
  have d44 : v_iv (n_v vs 9) + 267 ≤ v_iv (n_v vs 14) ∧ v_iv (n_v vs 14) ≤ v_iv (n_v vs 9) + 267 := d44
  obtain ⟨d45, hds⟩ := List.forall_mem_cons.mp hds
  have d45 : v_iv (n_v vs 4) + 267 ≤ v_iv (n_v vs 12) ∧ v_iv (n_v vs 12) ≤ v_iv (n_v vs 4) + 66564 := d45
  obtain ⟨d46, hds⟩ := List.forall_mem_cons.mp hds
  have d46 : v_iv (n_v vs 11) + 0 ≤ v_iv (n_v vs 12) ∧ v_iv (n_v vs 12) ≤ v_iv (n_v vs 11) + 46 := d46
  obtain ⟨d47, hds⟩ := List.forall_mem_cons.mp hds
  have d47 : v_iv (n_v vs 9) + 267 ≤ v_iv (n_v vs 12) ∧ v_iv (n_v vs 12) ≤ v_iv (n_v vs 9) + 313 := d47
  obtain ⟨d48, hds⟩ := List.forall_mem_cons.mp hds
  have d48 : v_iv (n_v vs 9) + 267 ≤ v_iv (n_v vs 11) ∧ v_iv (n_v vs 11) ≤ v_iv (n_v vs 9) + 267 := d48
  obtain ⟨d49, hds⟩ := List.forall_mem_cons.mp hds
  have d49 : v_iv (n_v vs 7) + (-4294967296) ≤ v_iv (n_v vs 6) ∧ v_iv (n_v vs 6) ≤ v_iv (n_v vs 7) + (-1) := d49
  obtain ⟨d50, hds⟩ := List.forall_mem_cons.mp hds
  have d50 : v_iv (n_v vs 4) + 1 ≤ v_iv (n_v vs 6) ∧ v_iv (n_v vs 6) ≤ v_iv (n_v vs 4) + 1 := d50
  obtain ⟨d51, hds⟩ := List.forall_mem_cons.mp hds
  have d51 : v_iv (n_v vs 3) + (-4294967296) ≤ v_iv (n_v vs 1) ∧ v_iv (n_v vs 1) ≤ v_iv (n_v vs 3) + 0 := d51
  obtain ⟨d52, hds⟩ := List.forall_mem_cons.mp hds
  have d52 : v_iv (n_v vs 4) + (-4294967296) ≤ v_iv (n_v vs 1) ∧ v_iv (n_v vs 1) ≤ v_iv (n_v vs 4) + 0 := d52
  obtain ⟨d53, hds⟩ := List.forall_mem_cons.mp hds
  have d53 : v_iv (n_v vs 1) + (-4294967296) ≤ v_iv (n_v vs 3) ∧ v_iv (n_v vs 3) ≤ v_iv (n_v vs 1) + 0 := d53
  obtain ⟨d54, hds⟩ := List.forall_mem_cons.mp hds
  have d54 : v_iv (n_v vs 4) + (-4294967296) ≤ v_iv (n_v vs 3) ∧ v_iv (n_v vs 3) ≤ v_iv (n_v vs 4) + 0 := d54
  have hf : fc_ok [(6, [46, 4], [1]), (24, [0, 2], []), (24, [1, 3], []), (100, [8, 39, 45], []), (10, [45, 8, 44], []), (1, [44, 42, 43], []), (1, [42, 41, 4], []), (1, [41, 9, 40], []), (9, [9, 2], [5]), (9, [8, 2], [2]), (1, [39, 38, 4], []), (1, [38, 9, 37], []), (100, [8, 30, 36], []), (10, [36, 8, 35], []), (1, [35, 33, 34], []), (1, [33, 32, 4], []), (1, [32, 9, 31], []), (1, [30, 29, 4], []), (1, [29, 9, 28], []), (100, [8, 21, 27], []), (10, [27, 8, 26], []), (1, [26, 24, 25], []), (1, [24, 23, 4], []), (1, [23, 9, 22], []), (1, [21, 20, 4], []), (1, [20, 9, 19], []), (100, [8, 12, 18], []), (10, [18, 8, 17], []), (1, [17, 15, 16], []), (1, [15, 14, 4], []), (1, [14, 9, 13], []), (1, [12, 11, 4], []), (1, [11, 9, 10], []), (7, [6, 7], [2]), (20, [7, 2], [30, 0, 1, 0, 0, -1, 3, 2005001]), (20, [7, 2], [30, 0, -1, 0, 0, 1, 3, 2005001]), (1, [6, 4, 5], []), (20, [3, 2], [30, -1, 1, 0, 0, -1, 3, 2005001])] ta ws vs := hf
  obtain ⟨f0, hf⟩ := fc_un (show (6 : Nat) < 100 from by decide) hf
  have f0 : v_iv (n_v vs 46) = v_iv (n_v vs 4) + 1 := f0
  obtain ⟨f1, hf⟩ := fc_un (show (24 : Nat) < 100 from by decide) hf
  have f1 : n_v vs 0 = n_v vs 2 := f1
  obtain ⟨f2, hf⟩ := fc_un (show (24 : Nat) < 100 from by decide) hf
  have f2 : n_v vs 1 = n_v vs 3 := f2
  obtain ⟨ta1, w1, le1, ⟨_, s1⟩, hf⟩ := fc_us (show ¬ (100 : Nat) < 100 from by decide) hf
  have s1 : (∀ b j, w_el ws b j = if b = v_ad (n_v vs 8) ∧ j = (v_iv (n_v vs 39)).toNat then v_iv (n_v vs 45) else w_el w1 b j) ∧ ∀ b k, w_fd ws b k = w_fd w1 b k := s1
  obtain ⟨f4, hf⟩ := fc_un (show (10 : Nat) < 100 from by decide) hf
  have f4 : v_iv (n_v vs 45) = w_el w1 (v_ad (n_v vs 8)) (v_iv (n_v vs 44)).toNat := f4
  obtain ⟨f5, hf⟩ := fc_un (show (1 : Nat) < 100 from by decide) hf
  have f5 : v_iv (n_v vs 44) = v_iv (n_v vs 42) + v_iv (n_v vs 43) := f5
  obtain ⟨f6, hf⟩ := fc_un (show (1 : Nat) < 100 from by decide) hf
  have f6 : v_iv (n_v vs 42) = v_iv (n_v vs 41) + v_iv (n_v vs 4) := f6
  obtain ⟨f7, hf⟩ := fc_un (show (1 : Nat) < 100 from by decide) hf
  have f7 : v_iv (n_v vs 41) = v_iv (n_v vs 9) + v_iv (n_v vs 40) := f7
  obtain ⟨f8, hf⟩ := fc_un (show (9 : Nat) < 100 from by decide) hf
  have f8 : n_v vs 9 = w_fd w1 (v_ad (n_v vs 2)) 5 := f8
  obtain ⟨f9, hf⟩ := fc_un (show (9 : Nat) < 100 from by decide) hf
  have f9 : n_v vs 8 = w_fd w1 (v_ad (n_v vs 2)) 2 := f9
  obtain ⟨f10, hf⟩ := fc_un (show (1 : Nat) < 100 from by decide) hf
  have f10 : v_iv (n_v vs 39) = v_iv (n_v vs 38) + v_iv (n_v vs 4) := f10
  obtain ⟨f11, hf⟩ := fc_un (show (1 : Nat) < 100 from by decide) hf
  have f11 : v_iv (n_v vs 38) = v_iv (n_v vs 9) + v_iv (n_v vs 37) := f11
  obtain ⟨ta2, w2, le2, ⟨_, s2⟩, hf⟩ := fc_us (show ¬ (100 : Nat) < 100 from by decide) hf
  have s2 : (∀ b j, w_el w1 b j = if b = v_ad (n_v vs 8) ∧ j = (v_iv (n_v vs 30)).toNat then v_iv (n_v vs 36) else w_el w2 b j) ∧ ∀ b k, w_fd w1 b k = w_fd w2 b k := s2
  obtain ⟨f13, hf⟩ := fc_un (show (10 : Nat) < 100 from by decide) hf
  have f13 : v_iv (n_v vs 36) = w_el w2 (v_ad (n_v vs 8)) (v_iv (n_v vs 35)).toNat := f13
  obtain ⟨f14, hf⟩ := fc_un (show (1 : Nat) < 100 from by decide) hf
  have f14 : v_iv (n_v vs 35) = v_iv (n_v vs 33) + v_iv (n_v vs 34) := f14
  obtain ⟨f15, hf⟩ := fc_un (show (1 : Nat) < 100 from by decide) hf
  have f15 : v_iv (n_v vs 33) = v_iv (n_v vs 32) + v_iv (n_v vs 4) := f15
  obtain ⟨f16, hf⟩ := fc_un (show (1 : Nat) < 100 from by decide) hf
  have f16 : v_iv (n_v vs 32) = v_iv (n_v vs 9) + v_iv (n_v vs 31) := f16
  obtain ⟨f17, hf⟩ := fc_un (show (1 : Nat) < 100 from by decide) hf
  have f17 : v_iv (n_v vs 30) = v_iv (n_v vs 29) + v_iv (n_v vs 4) := f17
  obtain ⟨f18, hf⟩ := fc_un (show (1 : Nat) < 100 from by decide) hf
  have f18 : v_iv (n_v vs 29) = v_iv (n_v vs 9) + v_iv (n_v vs 28) := f18
  obtain ⟨ta3, w3, le3, ⟨_, s3⟩, hf⟩ := fc_us (show ¬ (100 : Nat) < 100 from by decide) hf
  have s3 : (∀ b j, w_el w2 b j = if b = v_ad (n_v vs 8) ∧ j = (v_iv (n_v vs 21)).toNat then v_iv (n_v vs 27) else w_el w3 b j) ∧ ∀ b k, w_fd w2 b k = w_fd w3 b k := s3
  obtain ⟨f20, hf⟩ := fc_un (show (10 : Nat) < 100 from by decide) hf
  have f20 : v_iv (n_v vs 27) = w_el w3 (v_ad (n_v vs 8)) (v_iv (n_v vs 26)).toNat := f20
  obtain ⟨f21, hf⟩ := fc_un (show (1 : Nat) < 100 from by decide) hf
  have f21 : v_iv (n_v vs 26) = v_iv (n_v vs 24) + v_iv (n_v vs 25) := f21
  obtain ⟨f22, hf⟩ := fc_un (show (1 : Nat) < 100 from by decide) hf
  have f22 : v_iv (n_v vs 24) = v_iv (n_v vs 23) + v_iv (n_v vs 4) := f22
  obtain ⟨f23, hf⟩ := fc_un (show (1 : Nat) < 100 from by decide) hf
  have f23 : v_iv (n_v vs 23) = v_iv (n_v vs 9) + v_iv (n_v vs 22) := f23
  obtain ⟨f24, hf⟩ := fc_un (show (1 : Nat) < 100 from by decide) hf
  have f24 : v_iv (n_v vs 21) = v_iv (n_v vs 20) + v_iv (n_v vs 4) := f24
  obtain ⟨f25, hf⟩ := fc_un (show (1 : Nat) < 100 from by decide) hf
  have f25 : v_iv (n_v vs 20) = v_iv (n_v vs 9) + v_iv (n_v vs 19) := f25
  obtain ⟨ta4, w4, le4, ⟨_, s4⟩, hf⟩ := fc_us (show ¬ (100 : Nat) < 100 from by decide) hf
  have s4 : (∀ b j, w_el w3 b j = if b = v_ad (n_v vs 8) ∧ j = (v_iv (n_v vs 12)).toNat then v_iv (n_v vs 18) else w_el w4 b j) ∧ ∀ b k, w_fd w3 b k = w_fd w4 b k := s4
  obtain ⟨f27, hf⟩ := fc_un (show (10 : Nat) < 100 from by decide) hf
  have f27 : v_iv (n_v vs 18) = w_el w4 (v_ad (n_v vs 8)) (v_iv (n_v vs 17)).toNat := f27
  obtain ⟨f28, hf⟩ := fc_un (show (1 : Nat) < 100 from by decide) hf
  have f28 : v_iv (n_v vs 17) = v_iv (n_v vs 15) + v_iv (n_v vs 16) := f28
  obtain ⟨f29, hf⟩ := fc_un (show (1 : Nat) < 100 from by decide) hf
  have f29 : v_iv (n_v vs 15) = v_iv (n_v vs 14) + v_iv (n_v vs 4) := f29
  obtain ⟨f30, hf⟩ := fc_un (show (1 : Nat) < 100 from by decide) hf
  have f30 : v_iv (n_v vs 14) = v_iv (n_v vs 9) + v_iv (n_v vs 13) := f30
  obtain ⟨f31, hf⟩ := fc_un (show (1 : Nat) < 100 from by decide) hf
  have f31 : v_iv (n_v vs 12) = v_iv (n_v vs 11) + v_iv (n_v vs 4) := f31
  obtain ⟨f32, hf⟩ := fc_un (show (1 : Nat) < 100 from by decide) hf
  have f32 : v_iv (n_v vs 11) = v_iv (n_v vs 9) + v_iv (n_v vs 10) := f32
  obtain ⟨f33, hf⟩ := fc_un (show (7 : Nat) < 100 from by decide) hf
  have f33 : v_iv (n_v vs 6) < v_iv (n_v vs 7) := f33
  obtain ⟨f34, hf⟩ := fc_un (show (20 : Nat) < 100 from by decide) hf
  have f34 : 1 * v_iv (n_v vs 7) + ((-1) * w_el w4 (w_ar w4 (n_v vs 2) 2) (w_fi w4 (n_v vs 2) 5 + 1).toNat + 0) ≤ 0 := f34
  obtain ⟨f35, hf⟩ := fc_un (show (20 : Nat) < 100 from by decide) hf
  have f35 : (-1) * v_iv (n_v vs 7) + (1 * w_el w4 (w_ar w4 (n_v vs 2) 2) (w_fi w4 (n_v vs 2) 5 + 1).toNat + 0) ≤ 0 := f35
  obtain ⟨f36, hf⟩ := fc_un (show (1 : Nat) < 100 from by decide) hf
  have f36 : v_iv (n_v vs 6) = v_iv (n_v vs 4) + v_iv (n_v vs 5) := f36
  obtain ⟨f37, hf⟩ := fc_un (show (20 : Nat) < 100 from by decide) hf
  have f37 : 1 * v_iv (n_v vs 3) + ((-1) * w_el w4 (w_ar w4 (n_v vs 2) 2) (w_fi w4 (n_v vs 2) 5 + 1).toNat + 0) ≤ (-1) := f37
  have q2 : n_v vs 2 = n_v vs 0 := f1.symm
  have q3 : n_v vs 3 = n_v vs 1 := f2.symm
  rw [q2] at f8
  rw [q2] at f9
  rw [q2] at f34
  rw [q2] at f35
  rw [q2] at f37
  rw [q3] at f37
  have ar_0_2_1 : w_ar w1 (n_v vs 0) 2 = w_ar ws (n_v vs 0) 2 := by show v_ad (w_fd w1 _ _) = v_ad (w_fd ws _ _); rw [s1.2]
  have ar_0_2_2 : w_ar w2 (n_v vs 0) 2 = w_ar ws (n_v vs 0) 2 := by rw [← ar_0_2_1]; show v_ad (w_fd w2 _ _) = v_ad (w_fd w1 _ _); rw [s2.2]
  have ar_0_2_3 : w_ar w3 (n_v vs 0) 2 = w_ar ws (n_v vs 0) 2 := by rw [← ar_0_2_2]; show v_ad (w_fd w3 _ _) = v_ad (w_fd w2 _ _); rw [s3.2]
  have ar_0_2_4 : w_ar w4 (n_v vs 0) 2 = w_ar ws (n_v vs 0) 2 := by rw [← ar_0_2_3]; show v_ad (w_fd w4 _ _) = v_ad (w_fd w3 _ _); rw [s4.2]
  have cr_0_2 : ta (w_ar ws (n_v vs 0) 2) = some 152 := tv_rg (th_fd hD hth r0 (g := GG_150) rfl (k := 2) (t := (2, 0, 0, [152])) rfl rfl)
  have fi_0_5_1 : w_fi w1 (n_v vs 0) 5 = w_fi ws (n_v vs 0) 5 := by show v_iv (w_fd w1 _ _) = v_iv (w_fd ws _ _); rw [s1.2]
  have fi_0_5_2 : w_fi w2 (n_v vs 0) 5 = w_fi ws (n_v vs 0) 5 := by rw [← fi_0_5_1]; show v_iv (w_fd w2 _ _) = v_iv (w_fd w1 _ _); rw [s2.2]
  have fi_0_5_3 : w_fi w3 (n_v vs 0) 5 = w_fi ws (n_v vs 0) 5 := by rw [← fi_0_5_2]; show v_iv (w_fd w3 _ _) = v_iv (w_fd w2 _ _); rw [s3.2]
  have fi_0_5_4 : w_fi w4 (n_v vs 0) 5 = w_fi ws (n_v vs 0) 5 := by rw [← fi_0_5_3]; show v_iv (w_fd w4 _ _) = v_iv (w_fd w3 _ _); rw [s4.2]
  have ad_8 : v_ad (n_v vs 8) = w_ar ws (n_v vs 0) 2 := (congrArg v_ad f9).trans ar_0_2_1
  rw [ad_8] at f4
  have g8 : v_iv (n_v vs 9) = w_fi w1 (n_v vs 0) 5 := congrArg v_iv f8
  rw [ad_8] at f13
  rw [ad_8] at f20
  rw [ad_8] at f27
  rw [ar_0_2_4] at f34
  rw [fi_0_5_4] at f34
  rw [ar_0_2_4] at f35
  rw [fi_0_5_4] at f35
  rw [ar_0_2_4] at f37
  rw [fi_0_5_4] at f37
  have cg4_F5_1 : v_iv (n_v vs 44) = w_fi ws (n_v vs 0) 5 + 1 → w_el w1 (w_ar ws (n_v vs 0) 2) (v_iv (n_v vs 44)).toNat = w_el w1 (w_ar ws (n_v vs 0) 2) (w_fi ws (n_v vs 0) 5 + 1).toNat := fun h => by rw [h]
  have cg13_F5_1 : v_iv (n_v vs 35) = w_fi ws (n_v vs 0) 5 + 1 → w_el w2 (w_ar ws (n_v vs 0) 2) (v_iv (n_v vs 35)).toNat = w_el w2 (w_ar ws (n_v vs 0) 2) (w_fi ws (n_v vs 0) 5 + 1).toNat := fun h => by rw [h]
  have cg20_F5_1 : v_iv (n_v vs 26) = w_fi ws (n_v vs 0) 5 + 1 → w_el w3 (w_ar ws (n_v vs 0) 2) (v_iv (n_v vs 26)).toNat = w_el w3 (w_ar ws (n_v vs 0) 2) (w_fi ws (n_v vs 0) 5 + 1).toNat := fun h => by rw [h]
  have cg27_F5_1 : v_iv (n_v vs 17) = w_fi ws (n_v vs 0) 5 + 1 → w_el w4 (w_ar ws (n_v vs 0) 2) (v_iv (n_v vs 17)).toNat = w_el w4 (w_ar ws (n_v vs 0) 2) (w_fi ws (n_v vs 0) 5 + 1).toNat := fun h => by rw [h]
  have fe_0_5_1 : w_fi ws (n_v vs 0) 5 = w_fi w1 (n_v vs 0) 5 := congrArg v_iv (s1.2 _ _)
  first | (have ee_0_2_F5_1_1 : w_el ws (w_ar ws (n_v vs 0) 2) (w_fi ws (n_v vs 0) 5 + 1).toNat = w_el w1 (w_ar ws (n_v vs 0) 2) (w_fi ws (n_v vs 0) 5 + 1).toNat := by rw [s1.1, if_neg (fun e => absurd e.2 (by omega))]) | have ee_0_2_F5_1_1 : ((w_fi ws (n_v vs 0) 5 + 1).toNat = (v_iv (n_v vs 39)).toNat → w_el ws (w_ar ws (n_v vs 0) 2) (w_fi ws (n_v vs 0) 5 + 1).toNat = v_iv (n_v vs 45)) ∧ ((w_fi ws (n_v vs 0) 5 + 1).toNat ≠ (v_iv (n_v vs 39)).toNat → w_el ws (w_ar ws (n_v vs 0) 2) (w_fi ws (n_v vs 0) 5 + 1).toNat = w_el w1 (w_ar ws (n_v vs 0) 2) (w_fi ws (n_v vs 0) 5 + 1).toNat) := ⟨fun h => by rw [s1.1, if_pos ⟨ad_8.symm, h⟩], fun h => by rw [s1.1, if_neg (fun e => h e.2)]⟩
  have ee_0_2_17_1 : ((v_iv (n_v vs 17)).toNat = (v_iv (n_v vs 39)).toNat → w_el ws (w_ar ws (n_v vs 0) 2) (v_iv (n_v vs 17)).toNat = v_iv (n_v vs 45)) ∧ ((v_iv (n_v vs 17)).toNat ≠ (v_iv (n_v vs 39)).toNat → w_el ws (w_ar ws (n_v vs 0) 2) (v_iv (n_v vs 17)).toNat = w_el w1 (w_ar ws (n_v vs 0) 2) (v_iv (n_v vs 17)).toNat) := ⟨fun h => by rw [s1.1, if_pos ⟨ad_8.symm, h⟩], fun h => by rw [s1.1, if_neg (fun e => h e.2)]⟩
  have ee_0_2_26_1 : ((v_iv (n_v vs 26)).toNat = (v_iv (n_v vs 39)).toNat → w_el ws (w_ar ws (n_v vs 0) 2) (v_iv (n_v vs 26)).toNat = v_iv (n_v vs 45)) ∧ ((v_iv (n_v vs 26)).toNat ≠ (v_iv (n_v vs 39)).toNat → w_el ws (w_ar ws (n_v vs 0) 2) (v_iv (n_v vs 26)).toNat = w_el w1 (w_ar ws (n_v vs 0) 2) (v_iv (n_v vs 26)).toNat) := ⟨fun h => by rw [s1.1, if_pos ⟨ad_8.symm, h⟩], fun h => by rw [s1.1, if_neg (fun e => h e.2)]⟩
  have ee_0_2_35_1 : ((v_iv (n_v vs 35)).toNat = (v_iv (n_v vs 39)).toNat → w_el ws (w_ar ws (n_v vs 0) 2) (v_iv (n_v vs 35)).toNat = v_iv (n_v vs 45)) ∧ ((v_iv (n_v vs 35)).toNat ≠ (v_iv (n_v vs 39)).toNat → w_el ws (w_ar ws (n_v vs 0) 2) (v_iv (n_v vs 35)).toNat = w_el w1 (w_ar ws (n_v vs 0) 2) (v_iv (n_v vs 35)).toNat) := ⟨fun h => by rw [s1.1, if_pos ⟨ad_8.symm, h⟩], fun h => by rw [s1.1, if_neg (fun e => h e.2)]⟩
  have ee_0_2_44_1 : ((v_iv (n_v vs 44)).toNat = (v_iv (n_v vs 39)).toNat → w_el ws (w_ar ws (n_v vs 0) 2) (v_iv (n_v vs 44)).toNat = v_iv (n_v vs 45)) ∧ ((v_iv (n_v vs 44)).toNat ≠ (v_iv (n_v vs 39)).toNat → w_el ws (w_ar ws (n_v vs 0) 2) (v_iv (n_v vs 44)).toNat = w_el w1 (w_ar ws (n_v vs 0) 2) (v_iv (n_v vs 44)).toNat) := ⟨fun h => by rw [s1.1, if_pos ⟨ad_8.symm, h⟩], fun h => by rw [s1.1, if_neg (fun e => h e.2)]⟩
  have fe_0_5_2 : w_fi w1 (n_v vs 0) 5 = w_fi w2 (n_v vs 0) 5 := congrArg v_iv (s2.2 _ _)
  first | (have ee_0_2_F5_1_2 : w_el w1 (w_ar ws (n_v vs 0) 2) (w_fi ws (n_v vs 0) 5 + 1).toNat = w_el w2 (w_ar ws (n_v vs 0) 2) (w_fi ws (n_v vs 0) 5 + 1).toNat := by rw [s2.1, if_neg (fun e => absurd e.2 (by omega))]) | have ee_0_2_F5_1_2 : ((w_fi ws (n_v vs 0) 5 + 1).toNat = (v_iv (n_v vs 30)).toNat → w_el w1 (w_ar ws (n_v vs 0) 2) (w_fi ws (n_v vs 0) 5 + 1).toNat = v_iv (n_v vs 36)) ∧ ((w_fi ws (n_v vs 0) 5 + 1).toNat ≠ (v_iv (n_v vs 30)).toNat → w_el w1 (w_ar ws (n_v vs 0) 2) (w_fi ws (n_v vs 0) 5 + 1).toNat = w_el w2 (w_ar ws (n_v vs 0) 2) (w_fi ws (n_v vs 0) 5 + 1).toNat) := ⟨fun h => by rw [s2.1, if_pos ⟨ad_8.symm, h⟩], fun h => by rw [s2.1, if_neg (fun e => h e.2)]⟩
  have ee_0_2_17_2 : ((v_iv (n_v vs 17)).toNat = (v_iv (n_v vs 30)).toNat → w_el w1 (w_ar ws (n_v vs 0) 2) (v_iv (n_v vs 17)).toNat = v_iv (n_v vs 36)) ∧ ((v_iv (n_v vs 17)).toNat ≠ (v_iv (n_v vs 30)).toNat → w_el w1 (w_ar ws (n_v vs 0) 2) (v_iv (n_v vs 17)).toNat = w_el w2 (w_ar ws (n_v vs 0) 2) (v_iv (n_v vs 17)).toNat) := ⟨fun h => by rw [s2.1, if_pos ⟨ad_8.symm, h⟩], fun h => by rw [s2.1, if_neg (fun e => h e.2)]⟩
  have ee_0_2_26_2 : ((v_iv (n_v vs 26)).toNat = (v_iv (n_v vs 30)).toNat → w_el w1 (w_ar ws (n_v vs 0) 2) (v_iv (n_v vs 26)).toNat = v_iv (n_v vs 36)) ∧ ((v_iv (n_v vs 26)).toNat ≠ (v_iv (n_v vs 30)).toNat → w_el w1 (w_ar ws (n_v vs 0) 2) (v_iv (n_v vs 26)).toNat = w_el w2 (w_ar ws (n_v vs 0) 2) (v_iv (n_v vs 26)).toNat) := ⟨fun h => by rw [s2.1, if_pos ⟨ad_8.symm, h⟩], fun h => by rw [s2.1, if_neg (fun e => h e.2)]⟩
  have ee_0_2_35_2 : ((v_iv (n_v vs 35)).toNat = (v_iv (n_v vs 30)).toNat → w_el w1 (w_ar ws (n_v vs 0) 2) (v_iv (n_v vs 35)).toNat = v_iv (n_v vs 36)) ∧ ((v_iv (n_v vs 35)).toNat ≠ (v_iv (n_v vs 30)).toNat → w_el w1 (w_ar ws (n_v vs 0) 2) (v_iv (n_v vs 35)).toNat = w_el w2 (w_ar ws (n_v vs 0) 2) (v_iv (n_v vs 35)).toNat) := ⟨fun h => by rw [s2.1, if_pos ⟨ad_8.symm, h⟩], fun h => by rw [s2.1, if_neg (fun e => h e.2)]⟩
  have ee_0_2_44_2 : ((v_iv (n_v vs 44)).toNat = (v_iv (n_v vs 30)).toNat → w_el w1 (w_ar ws (n_v vs 0) 2) (v_iv (n_v vs 44)).toNat = v_iv (n_v vs 36)) ∧ ((v_iv (n_v vs 44)).toNat ≠ (v_iv (n_v vs 30)).toNat → w_el w1 (w_ar ws (n_v vs 0) 2) (v_iv (n_v vs 44)).toNat = w_el w2 (w_ar ws (n_v vs 0) 2) (v_iv (n_v vs 44)).toNat) := ⟨fun h => by rw [s2.1, if_pos ⟨ad_8.symm, h⟩], fun h => by rw [s2.1, if_neg (fun e => h e.2)]⟩
  have fe_0_5_3 : w_fi w2 (n_v vs 0) 5 = w_fi w3 (n_v vs 0) 5 := congrArg v_iv (s3.2 _ _)
  first | (have ee_0_2_F5_1_3 : w_el w2 (w_ar ws (n_v vs 0) 2) (w_fi ws (n_v vs 0) 5 + 1).toNat = w_el w3 (w_ar ws (n_v vs 0) 2) (w_fi ws (n_v vs 0) 5 + 1).toNat := by rw [s3.1, if_neg (fun e => absurd e.2 (by omega))]) | have ee_0_2_F5_1_3 : ((w_fi ws (n_v vs 0) 5 + 1).toNat = (v_iv (n_v vs 21)).toNat → w_el w2 (w_ar ws (n_v vs 0) 2) (w_fi ws (n_v vs 0) 5 + 1).toNat = v_iv (n_v vs 27)) ∧ ((w_fi ws (n_v vs 0) 5 + 1).toNat ≠ (v_iv (n_v vs 21)).toNat → w_el w2 (w_ar ws (n_v vs 0) 2) (w_fi ws (n_v vs 0) 5 + 1).toNat = w_el w3 (w_ar ws (n_v vs 0) 2) (w_fi ws (n_v vs 0) 5 + 1).toNat) := ⟨fun h => by rw [s3.1, if_pos ⟨ad_8.symm, h⟩], fun h => by rw [s3.1, if_neg (fun e => h e.2)]⟩
  have ee_0_2_17_3 : ((v_iv (n_v vs 17)).toNat = (v_iv (n_v vs 21)).toNat → w_el w2 (w_ar ws (n_v vs 0) 2) (v_iv (n_v vs 17)).toNat = v_iv (n_v vs 27)) ∧ ((v_iv (n_v vs 17)).toNat ≠ (v_iv (n_v vs 21)).toNat → w_el w2 (w_ar ws (n_v vs 0) 2) (v_iv (n_v vs 17)).toNat = w_el w3 (w_ar ws (n_v vs 0) 2) (v_iv (n_v vs 17)).toNat) := ⟨fun h => by rw [s3.1, if_pos ⟨ad_8.symm, h⟩], fun h => by rw [s3.1, if_neg (fun e => h e.2)]⟩
  have ee_0_2_26_3 : ((v_iv (n_v vs 26)).toNat = (v_iv (n_v vs 21)).toNat → w_el w2 (w_ar ws (n_v vs 0) 2) (v_iv (n_v vs 26)).toNat = v_iv (n_v vs 27)) ∧ ((v_iv (n_v vs 26)).toNat ≠ (v_iv (n_v vs 21)).toNat → w_el w2 (w_ar ws (n_v vs 0) 2) (v_iv (n_v vs 26)).toNat = w_el w3 (w_ar ws (n_v vs 0) 2) (v_iv (n_v vs 26)).toNat) := ⟨fun h => by rw [s3.1, if_pos ⟨ad_8.symm, h⟩], fun h => by rw [s3.1, if_neg (fun e => h e.2)]⟩
  have ee_0_2_35_3 : ((v_iv (n_v vs 35)).toNat = (v_iv (n_v vs 21)).toNat → w_el w2 (w_ar ws (n_v vs 0) 2) (v_iv (n_v vs 35)).toNat = v_iv (n_v vs 27)) ∧ ((v_iv (n_v vs 35)).toNat ≠ (v_iv (n_v vs 21)).toNat → w_el w2 (w_ar ws (n_v vs 0) 2) (v_iv (n_v vs 35)).toNat = w_el w3 (w_ar ws (n_v vs 0) 2) (v_iv (n_v vs 35)).toNat) := ⟨fun h => by rw [s3.1, if_pos ⟨ad_8.symm, h⟩], fun h => by rw [s3.1, if_neg (fun e => h e.2)]⟩
  have ee_0_2_44_3 : ((v_iv (n_v vs 44)).toNat = (v_iv (n_v vs 21)).toNat → w_el w2 (w_ar ws (n_v vs 0) 2) (v_iv (n_v vs 44)).toNat = v_iv (n_v vs 27)) ∧ ((v_iv (n_v vs 44)).toNat ≠ (v_iv (n_v vs 21)).toNat → w_el w2 (w_ar ws (n_v vs 0) 2) (v_iv (n_v vs 44)).toNat = w_el w3 (w_ar ws (n_v vs 0) 2) (v_iv (n_v vs 44)).toNat) := ⟨fun h => by rw [s3.1, if_pos ⟨ad_8.symm, h⟩], fun h => by rw [s3.1, if_neg (fun e => h e.2)]⟩
  have fe_0_5_4 : w_fi w3 (n_v vs 0) 5 = w_fi w4 (n_v vs 0) 5 := congrArg v_iv (s4.2 _ _)
  first | (have ee_0_2_F5_1_4 : w_el w3 (w_ar ws (n_v vs 0) 2) (w_fi ws (n_v vs 0) 5 + 1).toNat = w_el w4 (w_ar ws (n_v vs 0) 2) (w_fi ws (n_v vs 0) 5 + 1).toNat := by rw [s4.1, if_neg (fun e => absurd e.2 (by omega))]) | have ee_0_2_F5_1_4 : ((w_fi ws (n_v vs 0) 5 + 1).toNat = (v_iv (n_v vs 12)).toNat → w_el w3 (w_ar ws (n_v vs 0) 2) (w_fi ws (n_v vs 0) 5 + 1).toNat = v_iv (n_v vs 18)) ∧ ((w_fi ws (n_v vs 0) 5 + 1).toNat ≠ (v_iv (n_v vs 12)).toNat → w_el w3 (w_ar ws (n_v vs 0) 2) (w_fi ws (n_v vs 0) 5 + 1).toNat = w_el w4 (w_ar ws (n_v vs 0) 2) (w_fi ws (n_v vs 0) 5 + 1).toNat) := ⟨fun h => by rw [s4.1, if_pos ⟨ad_8.symm, h⟩], fun h => by rw [s4.1, if_neg (fun e => h e.2)]⟩
  have ee_0_2_17_4 : ((v_iv (n_v vs 17)).toNat = (v_iv (n_v vs 12)).toNat → w_el w3 (w_ar ws (n_v vs 0) 2) (v_iv (n_v vs 17)).toNat = v_iv (n_v vs 18)) ∧ ((v_iv (n_v vs 17)).toNat ≠ (v_iv (n_v vs 12)).toNat → w_el w3 (w_ar ws (n_v vs 0) 2) (v_iv (n_v vs 17)).toNat = w_el w4 (w_ar ws (n_v vs 0) 2) (v_iv (n_v vs 17)).toNat) := ⟨fun h => by rw [s4.1, if_pos ⟨ad_8.symm, h⟩], fun h => by rw [s4.1, if_neg (fun e => h e.2)]⟩
  have ee_0_2_26_4 : ((v_iv (n_v vs 26)).toNat = (v_iv (n_v vs 12)).toNat → w_el w3 (w_ar ws (n_v vs 0) 2) (v_iv (n_v vs 26)).toNat = v_iv (n_v vs 18)) ∧ ((v_iv (n_v vs 26)).toNat ≠ (v_iv (n_v vs 12)).toNat → w_el w3 (w_ar ws (n_v vs 0) 2) (v_iv (n_v vs 26)).toNat = w_el w4 (w_ar ws (n_v vs 0) 2) (v_iv (n_v vs 26)).toNat) := ⟨fun h => by rw [s4.1, if_pos ⟨ad_8.symm, h⟩], fun h => by rw [s4.1, if_neg (fun e => h e.2)]⟩
  have ee_0_2_35_4 : ((v_iv (n_v vs 35)).toNat = (v_iv (n_v vs 12)).toNat → w_el w3 (w_ar ws (n_v vs 0) 2) (v_iv (n_v vs 35)).toNat = v_iv (n_v vs 18)) ∧ ((v_iv (n_v vs 35)).toNat ≠ (v_iv (n_v vs 12)).toNat → w_el w3 (w_ar ws (n_v vs 0) 2) (v_iv (n_v vs 35)).toNat = w_el w4 (w_ar ws (n_v vs 0) 2) (v_iv (n_v vs 35)).toNat) := ⟨fun h => by rw [s4.1, if_pos ⟨ad_8.symm, h⟩], fun h => by rw [s4.1, if_neg (fun e => h e.2)]⟩
  have ee_0_2_44_4 : ((v_iv (n_v vs 44)).toNat = (v_iv (n_v vs 12)).toNat → w_el w3 (w_ar ws (n_v vs 0) 2) (v_iv (n_v vs 44)).toNat = v_iv (n_v vs 18)) ∧ ((v_iv (n_v vs 44)).toNat ≠ (v_iv (n_v vs 12)).toNat → w_el w3 (w_ar ws (n_v vs 0) 2) (v_iv (n_v vs 44)).toNat = w_el w4 (w_ar ws (n_v vs 0) 2) (v_iv (n_v vs 44)).toNat) := ⟨fun h => by rw [s4.1, if_pos ⟨ad_8.symm, h⟩], fun h => by rw [s4.1, if_neg (fun e => h e.2)]⟩
  have nf0 : fc_1 (20, [3, 2], [30, -1, 1, 0, 0, -1, 3, 2005001]) ws (vs) := by
    refine ⟨fun n hn => ?_, ?_⟩
    · have hn : n ∈ [3, 2] := hn
      rw [hl]
      simp only [List.mem_cons, List.not_mem_nil, or_false] at hn
      show n < 47; omega
    · show 1 * v_iv (n_v vs 3) + ((-1) * w_el ws (w_ar ws (n_v vs 2) 2) (w_fi ws (n_v vs 2) 5 + 1).toNat + 0) ≤ (-1)
      rw [q2, q3]
      omega
  refine ⟨(fun _ h => (by cases h)), [], trivial, ?_, (fun _ h => (by cases h))⟩
  rw [List.append_nil]
  exact List.forall_mem_cons.mpr ⟨⟨show (20 : Nat) < 100 from by decide, nf0⟩, (fun _ h => (by cases h))⟩
def n_Mo_dropEdge_at_gx_an : List an_T := [(2, [(0, (2, 0, 0, [150])), (1, (0, 0, 47, [])), (2, (0, 0, 47, []))], [], (0, 0), [(0, 0, 99998), (1, 4, 47), (0, 0, 100000)], [(1, 3, -1000000000000, 0), (1, 4, -1000000000000, 0), (3, 1, -1000000000000, 0), (3, 4, -1000000000000, 0)], [], [(2, 0, 0, [150]), (0, 0, 47, [])], 0, [], [(20, [3, 2], [30, -1, 1, 0, 0, -1, 3, 2005001]), (24, [0, 2], []), (24, [1, 3], [])])]
def t_Mo_dropEdge_at_gx_ct : ct_L := [(1, 401, e_Mo_edges)]
set_option maxRecDepth 100000 in
theorem c_Mo_dropEdge_at_gx {l : Launch} {D : va_G} {kA : Nat → ClassId} (h_Mo_edges : ct_ok l D kA GG y_Mo_edges z_Mo_edges e_Mo_edges) : ct_ok l D kA GG y_Mo_dropEdge_at_gx z_Mo_dropEdge_at_gx e_Mo_dropEdge_at_gx := chk_all_ok (FT := [(16, 13, 2), (391, 13, 5)]) (PT := []) (CT := t_Mo_dropEdge_at_gx_ct) (KT := []) (NT := []) (AN := n_Mo_dropEdge_at_gx_an) (OT := [o_Mo_dropEdge_at_gx_0, o_Mo_dropEdge_at_gx_1, o_Mo_dropEdge_at_gx_2, o_Mo_dropEdge_at_gx_3]) 3 408 (List.forall_mem_cons.mpr ⟨oo_Mo_dropEdge_at_gx_0, List.forall_mem_cons.mpr ⟨oo_Mo_dropEdge_at_gx_1, List.forall_mem_cons.mpr ⟨oo_Mo_dropEdge_at_gx_2, List.forall_mem_cons.mpr ⟨oo_Mo_dropEdge_at_gx_3, List.forall_mem_nil _⟩⟩⟩⟩) (by decide +kernel) ⟨List.forall_mem_cons.mpr ⟨gf_Mo_16, List.forall_mem_cons.mpr ⟨gf_Mo_391, List.forall_mem_nil _⟩⟩, List.forall_mem_nil _, List.forall_mem_cons.mpr ⟨cl_virtual (y := y_Mo_edges) (ci := 13) rfl rfl ⟨_, _, rfl⟩ (by decide +kernel) h_Mo_edges wm_3037 wm_9 wm_3034 wm_3036 wv_13_6 ⟨by decide, by decide, by decide +kernel⟩ (by decide), List.forall_mem_nil _⟩, List.forall_mem_nil _, List.forall_mem_nil _, GG_pl⟩ (by decide +kernel)
