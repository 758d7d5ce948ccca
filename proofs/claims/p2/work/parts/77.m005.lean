def n_Mo_isOn_an : List an_T := []
def t_Mo_isOn_ct : ct_L := [(0, 1091, e_Mo_turnOf), (72, 1095, e_jMath_min2_v48), (108, 1097, e_jMath_max2_v47), (144, 1095, e_jMath_min2_v48), (180, 1097, e_jMath_max2_v47)]
set_option maxRecDepth 100000 in
theorem c_Mo_isOn {l : Launch} {D : va_G} {kA : Nat → ClassId} (h_Mo_turnOf : ct_ok l D kA GG y_Mo_turnOf z_Mo_turnOf e_Mo_turnOf) : ct_ok l D kA GG y_Mo_isOn z_Mo_isOn e_Mo_isOn := chk_all_ok (FT := []) (PT := []) (CT := t_Mo_isOn_ct) (KT := []) (NT := []) (AN := n_Mo_isOn_an) (OT := []) 0 200 (List.forall_mem_nil _) (by decide +kernel) ⟨List.forall_mem_nil _, List.forall_mem_nil _, List.forall_mem_cons.mpr ⟨cl_static (y := y_Mo_turnOf) h_Mo_turnOf wm_3745 wm_9 wm_3743 wm_3744 ⟨by decide, by decide, by decide +kernel⟩ (by decide), List.forall_mem_cons.mpr ⟨cl_static (y := y_jMath_min2) c_jMath_min2_v48 wm_1753 wm_10 wm_3756 wm_1752 ⟨by decide, by decide, by decide +kernel⟩ (by decide), List.forall_mem_cons.mpr ⟨cl_static (y := y_jMath_max2) c_jMath_max2_v47 wm_1750 wm_10 wm_3757 wm_1749 ⟨by decide, by decide, by decide +kernel⟩ (by decide), List.forall_mem_cons.mpr ⟨cl_static (y := y_jMath_min2) c_jMath_min2_v48 wm_1753 wm_10 wm_3756 wm_1752 ⟨by decide, by decide, by decide +kernel⟩ (by decide), List.forall_mem_cons.mpr ⟨cl_static (y := y_jMath_max2) c_jMath_max2_v47 wm_1750 wm_10 wm_3757 wm_1749 ⟨by decide, by decide, by decide +kernel⟩ (by decide), List.forall_mem_nil _⟩⟩⟩⟩⟩, List.forall_mem_nil _, List.forall_mem_nil _, GG_pl⟩ (by decide +kernel)
def n_Mo_sweeps_an : List an_T := [(7, [(0, (2, 0, 0, [150])), (1, (0, -2147483648, 2147483647, [])), (2, (0, 0, 5776, []))], [], (0, 0), [(0, 0, 99993), (1, 2, 5776), (0, 0, 100000), (0, 0, 0), (0, 0, 0)], [], [], [], 0, [], []), (38, [(0, (2, 0, 0, [150])), (1, (0, -2147483648, 2147483647, [])), (2, (0, 0, 10, []))], [], (0, 0), [(0, 0, 99962), (1, 2, 10), (0, 0, 100000), (0, 0, 0), (0, 0, 0)], [], [], [], 0, [], []), (63, [(0, (2, 0, 0, [150])), (1, (0, -2147483648, 2147483647, [])), (2, (0, 0, 9, [])), (3, (0, 1, 1, [])), (4, (0, 1, 76, []))], [], (0, 0), [(0, 0, 99962), (1, 2, 10), (0, 0, 99937), (1, 4, 76), (0, 0, 100000)], [], [], [], 0, [], []), (96, [(0, (2, 0, 0, [150])), (1, (0, -2147483648, 2147483647, [])), (2, (0, 0, 9, [])), (3, (0, 0, 0, [])), (4, (0, -2, 74, []))], [], (0, 0), [(0, 0, 99962), (1, 2, 10), (0, 0, 99904), (2, 4, -2), (0, 0, 100000)], [], [], [], 0, [], []), (135, [(0, (2, 0, 0, [150])), (1, (0, -2147483648, 2147483646, [])), (2, (0, 0, 9, [])), (3, (0, 0, 1, [])), (4, (0, -2147483648, 2147483646, [])), (5, (0, 0, 5776, []))], [], (0, 0), [(0, 0, 99962), (1, 2, 10), (0, 0, 99865), (1, 5, 5776), (0, 0, 100000)], [], [], [], 0, [], []), (175, [(0, (2, 0, 0, [150])), (1, (0, -2147483648, 2147483647, [])), (2, (0, 0, 5776, []))], [], (0, 0), [(0, 0, 99825), (1, 2, 5776), (0, 0, 100000), (0, 0, 0), (0, 0, 0)], [], [], [], 0, [], [])]
def t_Mo_sweeps_ct : ct_L := [(1, 870, e_Mo_crossings), (1, 873, e_Mo_byMeans)]
set_option maxRecDepth 100000 in
theorem c_Mo_sweeps {l : Launch} {D : va_G} {kA : Nat → ClassId} (h_Mo_byMeans : ct_ok l D kA GG y_Mo_byMeans z_Mo_byMeans e_Mo_byMeans) (h_Mo_crossings : ct_ok l D kA GG y_Mo_crossings z_Mo_crossings e_Mo_crossings) : ct_ok l D kA GG y_Mo_sweeps z_Mo_sweeps e_Mo_sweeps := chk_all_ok (FT := [(234, 13, 106), (268, 13, 118), (852, 13, 101)]) (PT := []) (CT := t_Mo_sweeps_ct) (KT := []) (NT := []) (AN := n_Mo_sweeps_an) (OT := []) 5 516 (List.forall_mem_nil _) (by decide +kernel) ⟨List.forall_mem_cons.mpr ⟨gf_Mo_234, List.forall_mem_cons.mpr ⟨gf_Mo_268, List.forall_mem_cons.mpr ⟨gf_Mo_852, List.forall_mem_nil _⟩⟩⟩, List.forall_mem_nil _, List.forall_mem_cons.mpr ⟨cl_virtual (y := y_Mo_crossings) (ci := 13) rfl rfl ⟨_, _, rfl⟩ (by decide +kernel) h_Mo_crossings wm_3462 wm_9 wm_3459 wm_3461 wv_19_1 ⟨by decide, by decide, by decide +kernel⟩ (by decide), List.forall_mem_cons.mpr ⟨cl_virtual (y := y_Mo_byMeans) (ci := 13) rfl rfl ⟨_, _, rfl⟩ (by decide +kernel) h_Mo_byMeans wm_3466 wm_9 wm_3463 wm_3465 wv_19_2 ⟨by decide, by decide, by decide +kernel⟩ (by decide), List.forall_mem_nil _⟩⟩, List.forall_mem_nil _, List.forall_mem_nil _, GG_pl⟩ (by decide +kernel)
def o_Mo_writeNode_0 : or_T := (17, 10, [(0, (2, 0, 0, [150])), (2, (0, 0, 99999992, []))], [(20, [0, 2], [30, 0, 1, 1, 170, -1, 0, 0])], [], [(0, 0, 99999992, [])], [(20, [0, 10], [30, 0, 1, 1, 170, -1, 0, 0]), (23, [10, 2], [0, 1, -1])], [], [])
theorem oo_Mo_writeNode_0 {kA : Nat → ClassId} : or_ok kA GG o_Mo_writeNode_0 := by
  intro A ta ws vs hD hth hl hk hds hf
  have hl : vs.length = 10 := hl
  have hk : ∀ q ∈ ([(0, (2, 0, 0, [150])), (2, (0, 0, 99999992, []))] : List (Nat × tv_T)), tv_ok ta q.2 (n_v vs q.1) := hk
  obtain ⟨t0, hk⟩ := List.forall_mem_cons.mp hk
  have t0 : tv_ok ta (2, 0, 0, [150]) (n_v vs 0) := t0
  have r0 : ta (v_ad (n_v vs 0)) = some 150 := tv_rg t0
  obtain ⟨t2, hk⟩ := List.forall_mem_cons.mp hk
  have t2 : tv_ok ta (0, 0, 99999992, []) (n_v vs 2) := t2
  have k2 : 0 ≤ v_iv (n_v vs 2) ∧ v_iv (n_v vs 2) ≤ 99999992 := tv_rng t2
  have hf : fc_ok [(20, [0, 2], [30, 0, 1, 1, 170, -1, 0, 0])] ta ws vs := hf
  obtain ⟨f0, hf⟩ := fc_un (show (20 : Nat) < 100 from by decide) hf
  have f0 : 1 * w_fi ws (n_v vs 0) 170 + ((-1) * v_iv (n_v vs 2) + 0) ≤ 0 := f0
  have kz_0_170 : 0 ≤ w_fi ws (n_v vs 0) 170 ∧ w_fi ws (n_v vs 0) 170 ≤ 100000000 := tv_rng (th_fd hD hth r0 (g := GG_150) rfl (k := 170) (t := (0, 0, 100000000, [])) rfl rfl)
  have kv0 : 0 ≤ w_fi ws (n_v vs 0) 170 ∧ w_fi ws (n_v vs 0) 170 ≤ 100000000 := tv_rng (th_fd hD hth r0 (g := GG_150) rfl (k := 170) (t := (0, 0, 100000000, [])) rfl rfl)
  obtain ⟨x, ex, hx⟩ := iv_ex (ta := ta) (lo := 0) (hi := 99999992) (z := w_fi ws (n_v vs 0) 170) (by omega) (by omega) (by omega) (by omega)
  have ex2 : v_iv (Value.int x) = w_fi ws (n_v vs 0) 170 := ex
  have ex3 : 0 ≤ v_iv (Value.int x) ∧ v_iv (Value.int x) ≤ 99999992 := tv_rng hx
  have e_0 : n_v (vs ++ [Value.int x]) 0 = n_v vs 0 := n_v_old (by rw [hl]; decide)
  have e_2 : n_v (vs ++ [Value.int x]) 2 = n_v vs 2 := n_v_old (by rw [hl]; decide)
  have e_10 : n_v (vs ++ [Value.int x]) 10 = Value.int x := n_v_new hl
  have nf0 : fc_1 (20, [0, 10], [30, 0, 1, 1, 170, -1, 0, 0]) ws (vs ++ [Value.int x]) := by
    refine ⟨fun n hn => ?_, ?_⟩
    · have hn : n ∈ [0, 10] := hn
      rw [List.length_append, hl]
      simp only [List.mem_cons, List.not_mem_nil, or_false] at hn
      show n < 10 + 1; omega
    · show 1 * w_fi ws (n_v (vs ++ [Value.int x]) 0) 170 + ((-1) * v_iv (n_v (vs ++ [Value.int x]) 10) + 0) ≤ 0
      rw [e_0]
      rw [e_10]
      omega
  have nf1 : fc_1 (23, [10, 2], [0, 1, -1]) ws (vs ++ [Value.int x]) := by
    refine ⟨fun n hn => ?_, ?_⟩
    · have hn : n ∈ [10, 2] := hn
      rw [List.length_append, hl]
      simp only [List.mem_cons, List.not_mem_nil, or_false] at hn
      show n < 10 + 1; omega
    · show 1 * v_iv (n_v (vs ++ [Value.int x]) 10) + ((-1) * v_iv (n_v (vs ++ [Value.int x]) 2) + 0) ≤ 0
      rw [e_2]
      rw [e_10]
      omega
  exact ⟨(fun _ h => (by cases h)), [Value.int x], ag_one hx, List.forall_mem_cons.mpr ⟨⟨show (20 : Nat) < 100 from by decide, nf0⟩, List.forall_mem_cons.mpr ⟨⟨show (23 : Nat) < 100 from by decide, nf1⟩, (fun _ h => (by cases h))⟩⟩, (fun _ h => (by cases h))⟩
def o_Mo_writeNode_1 : or_T := (20, 11, [(0, (2, 0, 0, [150])), (2, (0, 0, 99999992, [])), (10, (0, 0, 99999992, []))], [(23, [10, 2], [0, 1, -1]), (20, [0, 10], [30, 8, 1, 1, 170, -1, 0, 0]), (102, [10], [237142198758023568227473377297792835283496928595231875152809132048206089502588928, 13170]), (23, [10, 2], [0, 1, -1])], [], [], [(20, [0, 2], [30, 8, 1, 1, 170, -1, 0, 0])], [], [])
theorem oo_Mo_writeNode_1 {kA : Nat → ClassId} : or_ok kA GG o_Mo_writeNode_1 := by
  intro A ta ws vs hD hth hl hk hds hf
  have hl : vs.length = 11 := hl
  have hk : ∀ q ∈ ([(0, (2, 0, 0, [150])), (2, (0, 0, 99999992, [])), (10, (0, 0, 99999992, []))] : List (Nat × tv_T)), tv_ok ta q.2 (n_v vs q.1) := hk
  obtain ⟨t0, hk⟩ := List.forall_mem_cons.mp hk
  have t0 : tv_ok ta (2, 0, 0, [150]) (n_v vs 0) := t0
  have r0 : ta (v_ad (n_v vs 0)) = some 150 := tv_rg t0
  obtain ⟨t2, hk⟩ := List.forall_mem_cons.mp hk
  have t2 : tv_ok ta (0, 0, 99999992, []) (n_v vs 2) := t2
  have k2 : 0 ≤ v_iv (n_v vs 2) ∧ v_iv (n_v vs 2) ≤ 99999992 := tv_rng t2
  obtain ⟨t10, hk⟩ := List.forall_mem_cons.mp hk
  have t10 : tv_ok ta (0, 0, 99999992, []) (n_v vs 10) := t10
  have k10 : 0 ≤ v_iv (n_v vs 10) ∧ v_iv (n_v vs 10) ≤ 99999992 := tv_rng t10
  have hf : fc_ok [(23, [10, 2], [0, 1, -1]), (20, [0, 10], [30, 8, 1, 1, 170, -1, 0, 0]), (102, [10], [237142198758023568227473377297792835283496928595231875152809132048206089502588928, 13170]), (23, [10, 2], [0, 1, -1])] ta ws vs := hf
  obtain ⟨f0, hf⟩ := fc_un (show (23 : Nat) < 100 from by decide) hf
  have f0 : 1 * v_iv (n_v vs 10) + ((-1) * v_iv (n_v vs 2) + 0) ≤ 0 := f0
  obtain ⟨f1, hf⟩ := fc_un (show (20 : Nat) < 100 from by decide) hf
  have f1 : 1 * w_fi ws (n_v vs 0) 170 + ((-1) * v_iv (n_v vs 10) + 0) ≤ 8 := f1
  obtain ⟨ta1, w1, le1, ⟨_, s1⟩, hf⟩ := fc_us (show ¬ (102 : Nat) < 100 from by decide) hf
  obtain ⟨f3, hf⟩ := fc_un (show (23 : Nat) < 100 from by decide) hf
  have f3 : 1 * v_iv (n_v vs 10) + ((-1) * v_iv (n_v vs 2) + 0) ≤ 0 := f3
  have kz_0_170 : 0 ≤ w_fi ws (n_v vs 0) 170 ∧ w_fi ws (n_v vs 0) 170 ≤ 100000000 := tv_rng (th_fd hD hth r0 (g := GG_150) rfl (k := 170) (t := (0, 0, 100000000, [])) rfl rfl)
  have nf0 : fc_1 (20, [0, 2], [30, 8, 1, 1, 170, -1, 0, 0]) ws (vs) := by
    refine ⟨fun n hn => ?_, ?_⟩
    · have hn : n ∈ [0, 2] := hn
      rw [hl]
      simp only [List.mem_cons, List.not_mem_nil, or_false] at hn
      show n < 11; omega
    · show 1 * w_fi ws (n_v vs 0) 170 + ((-1) * v_iv (n_v vs 2) + 0) ≤ 8
      omega
  refine ⟨(fun _ h => (by cases h)), [], trivial, ?_, (fun _ h => (by cases h))⟩
  rw [List.append_nil]
  exact List.forall_mem_cons.mpr ⟨⟨show (20 : Nat) < 100 from by decide, nf0⟩, (fun _ h => (by cases h))⟩
def n_Mo_writeNode_an : List an_T := []
def t_Mo_writeNode_ct : ct_L := [(1, 478, e_Mo_longOf), (1, 1285, e_Mo_writeName)]
set_option maxRecDepth 100000 in
theorem c_Mo_writeNode {l : Launch} {D : va_G} {kA : Nat → ClassId} (h_Mo_longOf : ct_ok l D kA GG y_Mo_longOf z_Mo_longOf e_Mo_longOf) (h_Mo_writeName : ct_ok l D kA GG y_Mo_writeName z_Mo_writeName e_Mo_writeName) : ct_ok l D kA GG y_Mo_writeNode z_Mo_writeNode e_Mo_writeNode := chk_all_ok (FT := [(391, 13, 5)]) (PT := []) (CT := t_Mo_writeNode_ct) (KT := []) (NT := []) (AN := n_Mo_writeNode_an) (OT := [o_Mo_writeNode_0, o_Mo_writeNode_1]) 0 200 (List.forall_mem_cons.mpr ⟨oo_Mo_writeNode_0, List.forall_mem_cons.mpr ⟨oo_Mo_writeNode_1, List.forall_mem_nil _⟩⟩) (by decide +kernel) ⟨List.forall_mem_cons.mpr ⟨gf_Mo_391, List.forall_mem_nil _⟩, List.forall_mem_nil _, List.forall_mem_cons.mpr ⟨cl_virtual (y := y_Mo_longOf) (ci := 13) rfl rfl ⟨_, _, rfl⟩ (by decide +kernel) h_Mo_longOf wm_3029 wm_9 wm_3026 wm_3028 wv_13_4 ⟨by decide, by decide, by decide +kernel⟩ (by decide), List.forall_mem_cons.mpr ⟨cl_virtual (y := y_Mo_writeName) (ci := 13) rfl rfl ⟨_, _, rfl⟩ (by decide +kernel) h_Mo_writeName wm_3922 wm_9 wm_3919 wm_3921 wv_24_10 ⟨by decide, by decide, by decide +kernel⟩ (by decide), List.forall_mem_nil _⟩⟩, List.forall_mem_nil _, List.forall_mem_nil _, GG_pl⟩ (by decide +kernel)
def n_Ho_at_an : List an_T := []
def t_Ho_at_ct : ct_L := [(0, 115, e_Ho_isPlace), (1, 312, e_Dr_coordinate)]
set_option maxRecDepth 100000 in
theorem c_Ho_at {l : Launch} {D : va_G} {kA : Nat → ClassId} (h_Dr_coordinate : ct_ok l D kA GG y_Dr_coordinate z_Dr_coordinate e_Dr_coordinate) (h_Ho_isPlace : ct_ok l D kA GG y_Ho_isPlace z_Ho_isPlace e_Ho_isPlace) : ct_ok l D kA GG y_Ho_at z_Ho_at e_Ho_at := chk_all_ok (FT := [(31, 12, 3)]) (PT := []) (CT := t_Ho_at_ct) (KT := [(1, 315, .int (Int32.ofInt (-2147483648)), (0, -2147483648, -2147483648, []))]) (NT := []) (AN := n_Ho_at_an) (OT := []) 0 200 (List.forall_mem_nil _) (by decide +kernel) ⟨List.forall_mem_cons.mpr ⟨gf_Ho_31, List.forall_mem_nil _⟩, List.forall_mem_nil _, List.forall_mem_cons.mpr ⟨cl_static (y := y_Ho_isPlace) h_Ho_isPlace wm_633 wm_1 wm_631 wm_632 ⟨by decide, by decide, by decide +kernel⟩ (by decide), List.forall_mem_cons.mpr ⟨cl_virtual (y := y_Dr_coordinate) (ci := 0) rfl rfl ⟨_, _, rfl⟩ (by decide +kernel) h_Dr_coordinate wm_1820 wm_8 wm_1817 wm_1818 wm_1819 ⟨by decide, by decide, by decide +kernel⟩ (by decide), List.forall_mem_nil _⟩⟩, List.forall_mem_cons.mpr ⟨kx_Ho_1_315, List.forall_mem_nil _⟩, List.forall_mem_nil _, GG_pl⟩ (by decide +kernel)
def n_Ho_far_an : List an_T := []
def t_Ho_far_ct : ct_L := [(0, 115, e_Ho_isPlace), (1, 166, e_Gr_hasNode), (1, 247, e_Gr_distance)]
set_option maxRecDepth 100000 in
theorem c_Ho_far {l : Launch} {D : va_G} {kA : Nat → ClassId} (h_Gr_distance : ct_ok l D kA GG y_Gr_distance z_Gr_distance e_Gr_distance) (h_Gr_hasNode : ct_ok l D kA GG y_Gr_hasNode z_Gr_hasNode e_Gr_hasNode) (h_Ho_isPlace : ct_ok l D kA GG y_Ho_isPlace z_Ho_isPlace e_Ho_isPlace) : ct_ok l D kA GG y_Ho_far z_Ho_far e_Ho_far := chk_all_ok (FT := [(13, 12, 0)]) (PT := []) (CT := t_Ho_far_ct) (KT := []) (NT := []) (AN := n_Ho_far_an) (OT := []) 0 200 (List.forall_mem_nil _) (by decide +kernel) ⟨List.forall_mem_cons.mpr ⟨gf_Ho_13, List.forall_mem_nil _⟩, List.forall_mem_nil _, List.forall_mem_cons.mpr ⟨cl_static (y := y_Ho_isPlace) h_Ho_isPlace wm_633 wm_1 wm_631 wm_632 ⟨by decide, by decide, by decide +kernel⟩ (by decide), List.forall_mem_cons.mpr ⟨cl_virtual (y := y_Gr_hasNode) (ci := 3) rfl rfl ⟨_, _, rfl⟩ (by decide +kernel) h_Gr_hasNode wm_921 wm_3 wm_918 wm_919 wm_920 ⟨by decide, by decide, by decide +kernel⟩ (by decide), List.forall_mem_cons.mpr ⟨cl_virtual (y := y_Gr_distance) (ci := 3) rfl rfl ⟨_, _, rfl⟩ (by decide +kernel) h_Gr_distance wm_1021 wm_3 wm_1018 wm_1019 wm_1020 ⟨by decide, by decide, by decide +kernel⟩ (by decide), List.forall_mem_nil _⟩⟩⟩, List.forall_mem_nil _, List.forall_mem_nil _, GG_pl⟩ (by decide +kernel)
def n_Ho_put_an : List an_T := []
def t_Ho_put_ct : ct_L := [(0, 115, e_Ho_isPlace), (1, 319, e_Dr_move)]
set_option maxRecDepth 100000 in
theorem c_Ho_put {l : Launch} {D : va_G} {kA : Nat → ClassId} (h_Dr_move : ct_ok l D kA GG y_Dr_move z_Dr_move e_Dr_move) (h_Ho_isPlace : ct_ok l D kA GG y_Ho_isPlace z_Ho_isPlace e_Ho_isPlace) : ct_ok l D kA GG y_Ho_put z_Ho_put e_Ho_put := chk_all_ok (FT := [(31, 12, 3)]) (PT := []) (CT := t_Ho_put_ct) (KT := []) (NT := []) (AN := n_Ho_put_an) (OT := []) 0 200 (List.forall_mem_nil _) (by decide +kernel) ⟨List.forall_mem_cons.mpr ⟨gf_Ho_31, List.forall_mem_nil _⟩, List.forall_mem_nil _, List.forall_mem_cons.mpr ⟨cl_static (y := y_Ho_isPlace) h_Ho_isPlace wm_633 wm_1 wm_631 wm_632 ⟨by decide, by decide, by decide +kernel⟩ (by decide), List.forall_mem_cons.mpr ⟨cl_virtual (y := y_Dr_move) (ci := 0) rfl rfl ⟨_, _, rfl⟩ (by decide +kernel) h_Dr_move wm_1849 wm_8 wm_1846 wm_1847 wm_1848 ⟨by decide, by decide, by decide +kernel⟩ (by decide), List.forall_mem_nil _⟩⟩, List.forall_mem_nil _, List.forall_mem_nil _, GG_pl⟩ (by decide +kernel)
def o_Ho_writePoint_0 : or_T := (3, 5, [(0, (2, 0, 0, [12])), (3, (0, 0, 99999982, []))], [(20, [0, 3], [30, 0, 1, 1, 12, -1, 0, 0])], [], [(0, 0, 99999999, [])], [(20, [0, 5], [30, 0, 1, 1, 12, -1, 0, 0]), (23, [5, 3], [0, 1, -1])], [], [])
theorem oo_Ho_writePoint_0 {kA : Nat → ClassId} : or_ok kA GG o_Ho_writePoint_0 := by
  intro A ta ws vs hD hth hl hk hds hf
  have hl : vs.length = 5 := hl
  have hk : ∀ q ∈ ([(0, (2, 0, 0, [12])), (3, (0, 0, 99999982, []))] : List (Nat × tv_T)), tv_ok ta q.2 (n_v vs q.1) := hk
  obtain ⟨t0, hk⟩ := List.forall_mem_cons.mp hk
  have t0 : tv_ok ta (2, 0, 0, [12]) (n_v vs 0) := t0
  have r0 : ta (v_ad (n_v vs 0)) = some 12 := tv_rg t0
  obtain ⟨t3, hk⟩ := List.forall_mem_cons.mp hk
  have t3 : tv_ok ta (0, 0, 99999982, []) (n_v vs 3) := t3
  have k3 : 0 ≤ v_iv (n_v vs 3) ∧ v_iv (n_v vs 3) ≤ 99999982 := tv_rng t3
  have hf : fc_ok [(20, [0, 3], [30, 0, 1, 1, 12, -1, 0, 0])] ta ws vs := hf
  obtain ⟨f0, hf⟩ := fc_un (show (20 : Nat) < 100 from by decide) hf
  have f0 : 1 * w_fi ws (n_v vs 0) 12 + ((-1) * v_iv (n_v vs 3) + 0) ≤ 0 := f0
  have kz_0_12 : 0 ≤ w_fi ws (n_v vs 0) 12 ∧ w_fi ws (n_v vs 0) 12 ≤ 100000000 := tv_rng (th_fd hD hth r0 (g := GG_12) rfl (k := 12) (t := (0, 0, 100000000, [])) rfl rfl)
  have kv0 : 0 ≤ w_fi ws (n_v vs 0) 12 ∧ w_fi ws (n_v vs 0) 12 ≤ 100000000 := tv_rng (th_fd hD hth r0 (g := GG_12) rfl (k := 12) (t := (0, 0, 100000000, [])) rfl rfl)
  obtain ⟨x, ex, hx⟩ := iv_ex (ta := ta) (lo := 0) (hi := 99999999) (z := w_fi ws (n_v vs 0) 12) (by omega) (by omega) (by omega) (by omega)
  have ex2 : v_iv (Value.int x) = w_fi ws (n_v vs 0) 12 := ex
  have ex3 : 0 ≤ v_iv (Value.int x) ∧ v_iv (Value.int x) ≤ 99999999 := tv_rng hx
  have e_0 : n_v (vs ++ [Value.int x]) 0 = n_v vs 0 := n_v_old (by rw [hl]; decide)
  have e_3 : n_v (vs ++ [Value.int x]) 3 = n_v vs 3 := n_v_old (by rw [hl]; decide)
  have e_5 : n_v (vs ++ [Value.int x]) 5 = Value.int x := n_v_new hl
  have nf0 : fc_1 (20, [0, 5], [30, 0, 1, 1, 12, -1, 0, 0]) ws (vs ++ [Value.int x]) := by
    refine ⟨fun n hn => ?_, ?_⟩
    · have hn : n ∈ [0, 5] := hn
      rw [List.length_append, hl]
      simp only [List.mem_cons, List.not_mem_nil, or_false] at hn
      show n < 5 + 1; omega
    · show 1 * w_fi ws (n_v (vs ++ [Value.int x]) 0) 12 + ((-1) * v_iv (n_v (vs ++ [Value.int x]) 5) + 0) ≤ 0
      rw [e_0]
      rw [e_5]
      omega
  have nf1 : fc_1 (23, [5, 3], [0, 1, -1]) ws (vs ++ [Value.int x]) := by
    refine ⟨fun n hn => ?_, ?_⟩
    · have hn : n ∈ [5, 3] := hn
      rw [List.length_append, hl]
      simp only [List.mem_cons, List.not_mem_nil, or_false] at hn
      show n < 5 + 1; omega
    · show 1 * v_iv (n_v (vs ++ [Value.int x]) 5) + ((-1) * v_iv (n_v (vs ++ [Value.int x]) 3) + 0) ≤ 0
      rw [e_3]
      rw [e_5]
      omega
  exact ⟨(fun _ h => (by cases h)), [Value.int x], ag_one hx, List.forall_mem_cons.mpr ⟨⟨show (20 : Nat) < 100 from by decide, nf0⟩, List.forall_mem_cons.mpr ⟨⟨show (23 : Nat) < 100 from by decide, nf1⟩, (fun _ h => (by cases h))⟩⟩, (fun _ h => (by cases h))⟩
def o_Ho_writePoint_1 : or_T := (8, 6, [(0, (2, 0, 0, [12])), (3, (0, 0, 99999982, [])), (5, (0, 0, 99999999, []))], [(23, [5, 3], [0, 1, -1]), (20, [0, 5], [30, 1, 1, 1, 12, -1, 0, 0]), (102, [5], [261336857795280739939871698507597986398208, 12012]), (23, [5, 3], [0, 1, -1])], [], [(0, 0, 99999992, [])], [(20, [0, 6], [30, 0, 1, 1, 12, -1, 0, 0]), (23, [6, 3], [1, 1, -1])], [], [])
theorem oo_Ho_writePoint_1 {kA : Nat → ClassId} : or_ok kA GG o_Ho_writePoint_1 := by
  intro A ta ws vs hD hth hl hk hds hf
  have hl : vs.length = 6 := hl
  have hk : ∀ q ∈ ([(0, (2, 0, 0, [12])), (3, (0, 0, 99999982, [])), (5, (0, 0, 99999999, []))] : List (Nat × tv_T)), tv_ok ta q.2 (n_v vs q.1) := hk
  obtain ⟨t0, hk⟩ := List.forall_mem_cons.mp hk
  have t0 : tv_ok ta (2, 0, 0, [12]) (n_v vs 0) := t0
  have r0 : ta (v_ad (n_v vs 0)) = some 12 := tv_rg t0
  obtain ⟨t3, hk⟩ := List.forall_mem_cons.mp hk
  have t3 : tv_ok ta (0, 0, 99999982, []) (n_v vs 3) := t3
  have k3 : 0 ≤ v_iv (n_v vs 3) ∧ v_iv (n_v vs 3) ≤ 99999982 := tv_rng t3
  obtain ⟨t5, hk⟩ := List.forall_mem_cons.mp hk
  have t5 : tv_ok ta (0, 0, 99999999, []) (n_v vs 5) := t5
  have k5 : 0 ≤ v_iv (n_v vs 5) ∧ v_iv (n_v vs 5) ≤ 99999999 := tv_rng t5
  have hf : fc_ok [(23, [5, 3], [0, 1, -1]), (20, [0, 5], [30, 1, 1, 1, 12, -1, 0, 0]), (102, [5], [261336857795280739939871698507597986398208, 12012]), (23, [5, 3], [0, 1, -1])] ta ws vs := hf
  obtain ⟨f0, hf⟩ := fc_un (show (23 : Nat) < 100 from by decide) hf
  have f0 : 1 * v_iv (n_v vs 5) + ((-1) * v_iv (n_v vs 3) + 0) ≤ 0 := f0
  obtain ⟨f1, hf⟩ := fc_un (show (20 : Nat) < 100 from by decide) hf
  have f1 : 1 * w_fi ws (n_v vs 0) 12 + ((-1) * v_iv (n_v vs 5) + 0) ≤ 1 := f1
  obtain ⟨ta1, w1, le1, ⟨_, s1⟩, hf⟩ := fc_us (show ¬ (102 : Nat) < 100 from by decide) hf
  obtain ⟨f3, hf⟩ := fc_un (show (23 : Nat) < 100 from by decide) hf
  have f3 : 1 * v_iv (n_v vs 5) + ((-1) * v_iv (n_v vs 3) + 0) ≤ 0 := f3
  have kz_0_12 : 0 ≤ w_fi ws (n_v vs 0) 12 ∧ w_fi ws (n_v vs 0) 12 ≤ 100000000 := tv_rng (th_fd hD hth r0 (g := GG_12) rfl (k := 12) (t := (0, 0, 100000000, [])) rfl rfl)
  have kv0 : 0 ≤ w_fi ws (n_v vs 0) 12 ∧ w_fi ws (n_v vs 0) 12 ≤ 100000000 := tv_rng (th_fd hD hth r0 (g := GG_12) rfl (k := 12) (t := (0, 0, 100000000, [])) rfl rfl)
  obtain ⟨x, ex, hx⟩ := iv_ex (ta := ta) (lo := 0) (hi := 99999992) (z := w_fi ws (n_v vs 0) 12) (by omega) (by omega) (by omega) (by omega)
  have ex2 : v_iv (Value.int x) = w_fi ws (n_v vs 0) 12 := ex
  have ex3 : 0 ≤ v_iv (Value.int x) ∧ v_iv (Value.int x) ≤ 99999992 := tv_rng hx
  have e_0 : n_v (vs ++ [Value.int x]) 0 = n_v vs 0 := n_v_old (by rw [hl]; decide)
  have e_3 : n_v (vs ++ [Value.int x]) 3 = n_v vs 3 := n_v_old (by rw [hl]; decide)
  have e_6 : n_v (vs ++ [Value.int x]) 6 = Value.int x := n_v_new hl
  have nf0 : fc_1 (20, [0, 6], [30, 0, 1, 1, 12, -1, 0, 0]) ws (vs ++ [Value.int x]) := by
    refine ⟨fun n hn => ?_, ?_⟩
    · have hn : n ∈ [0, 6] := hn
      rw [List.length_append, hl]
      simp only [List.mem_cons, List.not_mem_nil, or_false] at hn
      show n < 6 + 1; omega
    · show 1 * w_fi ws (n_v (vs ++ [Value.int x]) 0) 12 + ((-1) * v_iv (n_v (vs ++ [Value.int x]) 6) + 0) ≤ 0
      rw [e_0]
      rw [e_6]
      omega
  have nf1 : fc_1 (23, [6, 3], [1, 1, -1]) ws (vs ++ [Value.int x]) := by
    refine ⟨fun n hn => ?_, ?_⟩
    · have hn : n ∈ [6, 3] := hn
      rw [List.length_append, hl]
      simp only [List.mem_cons, List.not_mem_nil, or_false] at hn
      show n < 6 + 1; omega
    · show 1 * v_iv (n_v (vs ++ [Value.int x]) 6) + ((-1) * v_iv (n_v (vs ++ [Value.int x]) 3) + 0) ≤ 1
      rw [e_3]
      rw [e_6]
      omega
  exact ⟨(fun _ h => (by cases h)), [Value.int x], ag_one hx, List.forall_mem_cons.mpr ⟨⟨show (20 : Nat) < 100 from by decide, nf0⟩, List.forall_mem_cons.mpr ⟨⟨show (23 : Nat) < 100 from by decide, nf1⟩, (fun _ h => (by cases h))⟩⟩, (fun _ h => (by cases h))⟩
def o_Ho_writePoint_2 : or_T := (14, 8, [(0, (2, 0, 0, [12])), (3, (0, 0, 99999982, [])), (5, (0, 0, 99999999, [])), (6, (0, 0, 99999992, []))], [(23, [6, 3], [1, 1, -1]), (23, [5, 3], [0, 1, -1]), (20, [0, 6], [30, 8, 1, 1, 12, -1, 0, 0]), (102, [6], [261336857795280739939871698507597986398208, 12012]), (23, [6, 3], [1, 1, -1]), (23, [5, 3], [0, 1, -1]), (102, [5], [261336857795280739939871698507597986398208, 12012]), (23, [5, 3], [0, 1, -1])], [], [(0, 0, 99999999, [])], [(20, [0, 8], [30, 0, 1, 1, 12, -1, 0, 0]), (23, [8, 3], [9, 1, -1])], [], [])
theorem oo_Ho_writePoint_2 {kA : Nat → ClassId} : or_ok kA GG o_Ho_writePoint_2 := by
  intro A ta ws vs hD hth hl hk hds hf
  have hl : vs.length = 8 := hl
  have hk : ∀ q ∈ ([(0, (2, 0, 0, [12])), (3, (0, 0, 99999982, [])), (5, (0, 0, 99999999, [])), (6, (0, 0, 99999992, []))] : List (Nat × tv_T)), tv_ok ta q.2 (n_v vs q.1) := hk
  obtain ⟨t0, hk⟩ := List.forall_mem_cons.mp hk
  have t0 : tv_ok ta (2, 0, 0, [12]) (n_v vs 0) := t0
  have r0 : ta (v_ad (n_v vs 0)) = some 12 := tv_rg t0
  obtain ⟨t3, hk⟩ := List.forall_mem_cons.mp hk
  have t3 : tv_ok ta (0, 0, 99999982, []) (n_v vs 3) := t3
  have k3 : 0 ≤ v_iv (n_v vs 3) ∧ v_iv (n_v vs 3) ≤ 99999982 := tv_rng t3
  obtain ⟨t5, hk⟩ := List.forall_mem_cons.mp hk
  have t5 : tv_ok ta (0, 0, 99999999, []) (n_v vs 5) := t5
  have k5 : 0 ≤ v_iv (n_v vs 5) ∧ v_iv (n_v vs 5) ≤ 99999999 := tv_rng t5
  obtain ⟨t6, hk⟩ := List.forall_mem_cons.mp hk
  have t6 : tv_ok ta (0, 0, 99999992, []) (n_v vs 6) := t6
  have k6 : 0 ≤ v_iv (n_v vs 6) ∧ v_iv (n_v vs 6) ≤ 99999992 := tv_rng t6
  have hf : fc_ok [(23, [6, 3], [1, 1, -1]), (23, [5, 3], [0, 1, -1]), (20, [0, 6], [30, 8, 1, 1, 12, -1, 0, 0]), (102, [6], [261336857795280739939871698507597986398208, 12012]), (23, [6, 3], [1, 1, -1]), (23, [5, 3], [0, 1, -1]), (102, [5], [261336857795280739939871698507597986398208, 12012]), (23, [5, 3], [0, 1, -1])] ta ws vs := hf
  obtain ⟨f0, hf⟩ := fc_un (show (23 : Nat) < 100 from by decide) hf
  have f0 : 1 * v_iv (n_v vs 6) + ((-1) * v_iv (n_v vs 3) + 0) ≤ 1 := f0
  obtain ⟨f1, hf⟩ := fc_un (show (23 : Nat) < 100 from by decide) hf
  have f1 : 1 * v_iv (n_v vs 5) + ((-1) * v_iv (n_v vs 3) + 0) ≤ 0 := f1
  obtain ⟨f2, hf⟩ := fc_un (show (20 : Nat) < 100 from by decide) hf
  have f2 : 1 * w_fi ws (n_v vs 0) 12 + ((-1) * v_iv (n_v vs 6) + 0) ≤ 8 := f2
  obtain ⟨ta1, w1, le1, ⟨_, s1⟩, hf⟩ := fc_us (show ¬ (102 : Nat) < 100 from by decide) hf
  obtain ⟨f4, hf⟩ := fc_un (show (23 : Nat) < 100 from by decide) hf
  have f4 : 1 * v_iv (n_v vs 6) + ((-1) * v_iv (n_v vs 3) + 0) ≤ 1 := f4
  obtain ⟨f5, hf⟩ := fc_un (show (23 : Nat) < 100 from by decide) hf
  have f5 : 1 * v_iv (n_v vs 5) + ((-1) * v_iv (n_v vs 3) + 0) ≤ 0 := f5
  obtain ⟨ta2, w2, le2, ⟨_, s2⟩, hf⟩ := fc_us (show ¬ (102 : Nat) < 100 from by decide) hf
  obtain ⟨f7, hf⟩ := fc_un (show (23 : Nat) < 100 from by decide) hf
  have f7 : 1 * v_iv (n_v vs 5) + ((-1) * v_iv (n_v vs 3) + 0) ≤ 0 := f7
  have kz_0_12 : 0 ≤ w_fi ws (n_v vs 0) 12 ∧ w_fi ws (n_v vs 0) 12 ≤ 100000000 := tv_rng (th_fd hD hth r0 (g := GG_12) rfl (k := 12) (t := (0, 0, 100000000, [])) rfl rfl)
  have kv0 : 0 ≤ w_fi ws (n_v vs 0) 12 ∧ w_fi ws (n_v vs 0) 12 ≤ 100000000 := tv_rng (th_fd hD hth r0 (g := GG_12) rfl (k := 12) (t := (0, 0, 100000000, [])) rfl rfl)
  obtain ⟨x, ex, hx⟩ := iv_ex (ta := ta) (lo := 0) (hi := 99999999) (z := w_fi ws (n_v vs 0) 12) (by omega) (by omega) (by omega) (by omega)
  have ex2 : v_iv (Value.int x) = w_fi ws (n_v vs 0) 12 := ex
  have ex3 : 0 ≤ v_iv (Value.int x) ∧ v_iv (Value.int x) ≤ 99999999 := tv_rng hx
  have e_0 : n_v (vs ++ [Value.int x]) 0 = n_v vs 0 := n_v_old (by rw [hl]; decide)
  have e_3 : n_v (vs ++ [Value.int x]) 3 = n_v vs 3 := n_v_old (by rw [hl]; decide)
  have e_8 : n_v (vs ++ [Value.int x]) 8 = Value.int x := n_v_new hl
  have nf0 : fc_1 (20, [0, 8], [30, 0, 1, 1, 12, -1, 0, 0]) ws (vs ++ [Value.int x]) := by
    refine ⟨fun n hn => ?_, ?_⟩
    · have hn : n ∈ [0, 8] := hn
      rw [List.length_append, hl]
      simp only [List.mem_cons, List.not_mem_nil, or_false] at hn
      show n < 8 + 1; omega
    · show 1 * w_fi ws (n_v (vs ++ [Value.int x]) 0) 12 + ((-1) * v_iv (n_v (vs ++ [Value.int x]) 8) + 0) ≤ 0
      rw [e_0]
      rw [e_8]
      omega
  have nf1 : fc_1 (23, [8, 3], [9, 1, -1]) ws (vs ++ [Value.int x]) := by
    refine ⟨fun n hn => ?_, ?_⟩
    · have hn : n ∈ [8, 3] := hn
      rw [List.length_append, hl]
      simp only [List.mem_cons, List.not_mem_nil, or_false] at hn
      show n < 8 + 1; omega
    · show 1 * v_iv (n_v (vs ++ [Value.int x]) 8) + ((-1) * v_iv (n_v (vs ++ [Value.int x]) 3) + 0) ≤ 9
      rw [e_3]
      rw [e_8]
      omega
  exact ⟨(fun _ h => (by cases h)), [Value.int x], ag_one hx, List.forall_mem_cons.mpr ⟨⟨show (20 : Nat) < 100 from by decide, nf0⟩, List.forall_mem_cons.mpr ⟨⟨show (23 : Nat) < 100 from by decide, nf1⟩, (fun _ h => (by cases h))⟩⟩, (fun _ h => (by cases h))⟩
def o_Ho_writePoint_3 : or_T := (19, 9, [(0, (2, 0, 0, [12])), (3, (0, 0, 99999982, [])), (5, (0, 0, 99999999, [])), (6, (0, 0, 99999992, [])), (8, (0, 0, 99999999, []))], [(23, [8, 3], [9, 1, -1]), (23, [6, 3], [1, 1, -1]), (23, [5, 3], [0, 1, -1]), (20, [0, 8], [30, 1, 1, 1, 12, -1, 0, 0]), (102, [8], [261336857795280739939871698507597986398208, 12012]), (23, [8, 3], [9, 1, -1]), (23, [6, 3], [1, 1, -1]), (23, [5, 3], [0, 1, -1]), (102, [6], [261336857795280739939871698507597986398208, 12012]), (23, [6, 3], [1, 1, -1]), (23, [5, 3], [0, 1, -1]), (102, [5], [261336857795280739939871698507597986398208, 12012]), (23, [5, 3], [0, 1, -1])], [], [(0, 0, 99999992, [])], [(20, [0, 9], [30, 0, 1, 1, 12, -1, 0, 0]), (23, [9, 3], [10, 1, -1])], [], [])
theorem oo_Ho_writePoint_3 {kA : Nat → ClassId} : or_ok kA GG o_Ho_writePoint_3 := by
  intro A ta ws vs hD hth hl hk hds hf
  have hl : vs.length = 9 := hl
  have hk : ∀ q ∈ ([(0, (2, 0, 0, [12])), (3, (0, 0, 99999982, [])), (5, (0, 0, 99999999, [])), (6, (0, 0, 99999992, [])), (8, (0, 0, 99999999, []))] : List (Nat × tv_T)), tv_ok ta q.2 (n_v vs q.1) := hk
  obtain ⟨t0, hk⟩ := List.forall_mem_cons.mp hk
  have t0 : tv_ok ta (2, 0, 0, [12]) (n_v vs 0) := t0
  have r0 : ta (v_ad (n_v vs 0)) = some 12 := tv_rg t0
  obtain ⟨t3, hk⟩ := List.forall_mem_cons.mp hk
  have t3 : tv_ok ta (0, 0, 99999982, []) (n_v vs 3) := t3
  have k3 : 0 ≤ v_iv (n_v vs 3) ∧ v_iv (n_v vs 3) ≤ 99999982 := tv_rng t3
  obtain ⟨t5, hk⟩ := List.forall_mem_cons.mp hk
  have t5 : tv_ok ta (0, 0, 99999999, []) (n_v vs 5) := t5
  have k5 : 0 ≤ v_iv (n_v vs 5) ∧ v_iv (n_v vs 5) ≤ 99999999 := tv_rng t5
  obtain ⟨t6, hk⟩ := List.forall_mem_cons.mp hk
  have t6 : tv_ok ta (0, 0, 99999992, []) (n_v vs 6) := t6
  have k6 : 0 ≤ v_iv (n_v vs 6) ∧ v_iv (n_v vs 6) ≤ 99999992 := tv_rng t6
  obtain ⟨t8, hk⟩ := List.forall_mem_cons.mp hk
  have t8 : tv_ok ta (0, 0, 99999999, []) (n_v vs 8) := t8
  have k8 : 0 ≤ v_iv (n_v vs 8) ∧ v_iv (n_v vs 8) ≤ 99999999 := tv_rng t8
  have hf : fc_ok [(23, [8, 3], [9, 1, -1]), (23, [6, 3], [1, 1, -1]), (23, [5, 3], [0, 1, -1]), (20, [0, 8], [30, 1, 1, 1, 12, -1, 0, 0]), (102, [8], [261336857795280739939871698507597986398208, 12012]), (23, [8, 3], [9, 1, -1]), (23, [6, 3], [1, 1, -1]), (23, [5, 3], [0, 1, -1]), (102, [6], [261336857795280739939871698507597986398208, 12012]), (23, [6, 3], [1, 1, -1]), (23, [5, 3], [0, 1, -1]), (102, [5], [261336857795280739939871698507597986398208, 12012]), (23, [5, 3], [0, 1, -1])] ta ws vs := hf
  obtain ⟨f0, hf⟩ := fc_un (show (23 : Nat) < 100 from by decide) hf
  have f0 : 1 * v_iv (n_v vs 8) + ((-1) * v_iv (n_v vs 3) + 0) ≤ 9 := f0
  obtain ⟨f1, hf⟩ := fc_un (show (23 : Nat) < 100 from by decide) hf
  have f1 : 1 * v_iv (n_v vs 6) + ((-1) * v_iv (n_v vs 3) + 0) ≤ 1 := f1
  obtain ⟨f2, hf⟩ := fc_un (show (23 : Nat) < 100 from by decide) hf
  have f2 : 1 * v_iv (n_v vs 5) + ((-1) * v_iv (n_v vs 3) + 0) ≤ 0 := f2
  obtain ⟨f3, hf⟩ := fc_un (show (20 : Nat) < 100 from by decide) hf
  have f3 : 1 * w_fi ws (n_v vs 0) 12 + ((-1) * v_iv (n_v vs 8) + 0) ≤ 1 := f3
  obtain ⟨ta1, w1, le1, ⟨_, s1⟩, hf⟩ := fc_us (show ¬ (102 : Nat) < 100 from by decide) hf
  obtain ⟨f5, hf⟩ := fc_un (show (23 : Nat) < 100 from by decide) hf
  have f5 : 1 * v_iv (n_v vs 8) + ((-1) * v_iv (n_v vs 3) + 0) ≤ 9 := f5
  obtain ⟨f6, hf⟩ := fc_un (show (23 : Nat) < 100 from by decide) hf
  have f6 : 1 * v_iv (n_v vs 6) + ((-1) * v_iv (n_v vs 3) + 0) ≤ 1 := f6
  obtain ⟨f7, hf⟩ := fc_un (show (23 : Nat) < 100 from by decide) hf
  have f7 : 1 * v_iv (n_v vs 5) + ((-1) * v_iv (n_v vs 3) + 0) ≤ 0 := f7
  obtain ⟨ta2, w2, le2, ⟨_, s2⟩, hf⟩ := fc_us (show ¬ (102 : Nat) < 100 from by decide) hf
  obtain ⟨f9, hf⟩ := fc_un (show (23 : Nat) < 100 from by decide) hf
  have f9 : 1 * v_iv (n_v vs 6) + ((-1) * v_iv (n_v vs 3) + 0) ≤ 1 := f9
  obtain ⟨f10, hf⟩ := fc_un (show (23 : Nat) < 100 from by decide) hf
  have f10 : 1 * v_iv (n_v vs 5) + ((-1) * v_iv (n_v vs 3) + 0) ≤ 0 := f10
  obtain ⟨ta3, w3, le3, ⟨_, s3⟩, hf⟩ := fc_us (show ¬ (102 : Nat) < 100 from by decide) hf
  obtain ⟨f12, hf⟩ := fc_un (show (23 : Nat) < 100 from by decide) hf
  have f12 : 1 * v_iv (n_v vs 5) + ((-1) * v_iv (n_v vs 3) + 0) ≤ 0 := f12
  have kz_0_12 : 0 ≤ w_fi ws (n_v vs 0) 12 ∧ w_fi ws (n_v vs 0) 12 ≤ 100000000 := tv_rng (th_fd hD hth r0 (g := GG_12) rfl (k := 12) (t := (0, 0, 100000000, [])) rfl rfl)
  have kv0 : 0 ≤ w_fi ws (n_v vs 0) 12 ∧ w_fi ws (n_v vs 0) 12 ≤ 100000000 := tv_rng (th_fd hD hth r0 (g := GG_12) rfl (k := 12) (t := (0, 0, 100000000, [])) rfl rfl)
  obtain ⟨x, ex, hx⟩ := iv_ex (ta := ta) (lo := 0) (hi := 99999992) (z := w_fi ws (n_v vs 0) 12) (by omega) (by omega) (by omega) (by omega)
  have ex2 : v_iv (Value.int x) = w_fi ws (n_v vs 0) 12 := ex
  have ex3 : 0 ≤ v_iv (Value.int x) ∧ v_iv (Value.int x) ≤ 99999992 := tv_rng hx
  have e_0 : n_v (vs ++ [Value.int x]) 0 = n_v vs 0 := n_v_old (by rw [hl]; decide)
  have e_3 : n_v (vs ++ [Value.int x]) 3 = n_v vs 3 := n_v_old (by rw [hl]; decide)
  have e_9 : n_v (vs ++ [Value.int x]) 9 = Value.int x := n_v_new hl
  have nf0 : fc_1 (20, [0, 9], [30, 0, 1, 1, 12, -1, 0, 0]) ws (vs ++ [Value.int x]) := by
    refine ⟨fun n hn => ?_, ?_⟩
    · have hn : n ∈ [0, 9] := hn
      rw [List.length_append, hl]
      simp only [List.mem_cons, List.not_mem_nil, or_false] at hn
      show n < 9 + 1; omega
    · show 1 * w_fi ws (n_v (vs ++ [Value.int x]) 0) 12 + ((-1) * v_iv (n_v (vs ++ [Value.int x]) 9) + 0) ≤ 0
      rw [e_0]
      rw [e_9]
      omega
  have nf1 : fc_1 (23, [9, 3], [10, 1, -1]) ws (vs ++ [Value.int x]) := by
    refine ⟨fun n hn => ?_, ?_⟩
    · have hn : n ∈ [9, 3] := hn
      rw [List.length_append, hl]
      simp only [List.mem_cons, List.not_mem_nil, or_false] at hn
      show n < 9 + 1; omega
    · show 1 * v_iv (n_v (vs ++ [Value.int x]) 9) + ((-1) * v_iv (n_v (vs ++ [Value.int x]) 3) + 0) ≤ 10
      rw [e_3]
      rw [e_9]
      omega
  exact ⟨(fun _ h => (by cases h)), [Value.int x], ag_one hx, List.forall_mem_cons.mpr ⟨⟨show (20 : Nat) < 100 from by decide, nf0⟩, List.forall_mem_cons.mpr ⟨⟨show (23 : Nat) < 100 from by decide, nf1⟩, (fun _ h => (by cases h))⟩⟩, (fun _ h => (by cases h))⟩
def o_Ho_writePoint_4 : or_T := (22, 10, [(0, (2, 0, 0, [12])), (3, (0, 0, 99999982, [])), (5, (0, 0, 99999999, [])), (6, (0, 0, 99999992, [])), (8, (0, 0, 99999999, [])), (9, (0, 0, 99999992, []))], [(23, [9, 3], [10, 1, -1]), (23, [8, 3], [9, 1, -1]), (23, [6, 3], [1, 1, -1]), (23, [5, 3], [0, 1, -1]), (20, [0, 9], [30, 8, 1, 1, 12, -1, 0, 0]), (102, [9], [261336857795280739939871698507597986398208, 12012]), (23, [9, 3], [10, 1, -1]), (23, [8, 3], [9, 1, -1]), (23, [6, 3], [1, 1, -1]), (23, [5, 3], [0, 1, -1]), (102, [8], [261336857795280739939871698507597986398208, 12012]), (23, [8, 3], [9, 1, -1]), (23, [6, 3], [1, 1, -1]), (23, [5, 3], [0, 1, -1]), (102, [6], [261336857795280739939871698507597986398208, 12012]), (23, [6, 3], [1, 1, -1]), (23, [5, 3], [0, 1, -1]), (102, [5], [261336857795280739939871698507597986398208, 12012]), (23, [5, 3], [0, 1, -1])], [], [], [(20, [0, 3], [30, 18, 1, 1, 12, -1, 0, 0])], [], [])
theorem oo_Ho_writePoint_4 {kA : Nat → ClassId} : or_ok kA GG o_Ho_writePoint_4 := by
  intro A ta ws vs hD hth hl hk hds hf
  have hl : vs.length = 10 := hl
  have hk : ∀ q ∈ ([(0, (2, 0, 0, [12])), (3, (0, 0, 99999982, [])), (5, (0, 0, 99999999, [])), (6, (0, 0, 99999992, [])), (8, (0, 0, 99999999, [])), (9, (0, 0, 99999992, []))] : List (Nat × tv_T)), tv_ok ta q.2 (n_v vs q.1) := hk
  obtain ⟨t0, hk⟩ := List.forall_mem_cons.mp hk
  have t0 : tv_ok ta (2, 0, 0, [12]) (n_v vs 0) := t0
  have r0 : ta (v_ad (n_v vs 0)) = some 12 := tv_rg t0
  obtain ⟨t3, hk⟩ := List.forall_mem_cons.mp hk
  have t3 : tv_ok ta (0, 0, 99999982, []) (n_v vs 3) := t3
  have k3 : 0 ≤ v_iv (n_v vs 3) ∧ v_iv (n_v vs 3) ≤ 99999982 := tv_rng t3
  obtain ⟨t5, hk⟩ := List.forall_mem_cons.mp hk
  have t5 : tv_ok ta (0, 0, 99999999, []) (n_v vs 5) := t5
  have k5 : 0 ≤ v_iv (n_v vs 5) ∧ v_iv (n_v vs 5) ≤ 99999999 := tv_rng t5
  obtain ⟨t6, hk⟩ := List.forall_mem_cons.mp hk
  have t6 : tv_ok ta (0, 0, 99999992, []) (n_v vs 6) := t6
  have k6 : 0 ≤ v_iv (n_v vs 6) ∧ v_iv (n_v vs 6) ≤ 99999992 := tv_rng t6
  obtain ⟨t8, hk⟩ := List.forall_mem_cons.mp hk
  have t8 : tv_ok ta (0, 0, 99999999, []) (n_v vs 8) := t8
  have k8 : 0 ≤ v_iv (n_v vs 8) ∧ v_iv (n_v vs 8) ≤ 99999999 := tv_rng t8
  obtain ⟨t9, hk⟩ := List.forall_mem_cons.mp hk
  have t9 : tv_ok ta (0, 0, 99999992, []) (n_v vs 9) := t9
  have k9 : 0 ≤ v_iv (n_v vs 9) ∧ v_iv (n_v vs 9) ≤ 99999992 := tv_rng t9
  have hf : fc_ok [(23, [9, 3], [10, 1, -1]), (23, [8, 3], [9, 1, -1]), (23, [6, 3], [1, 1, -1]), (23, [5, 3], [0, 1, -1]), (20, [0, 9], [30, 8, 1, 1, 12, -1, 0, 0]), (102, [9], [261336857795280739939871698507597986398208, 12012]), (23, [9, 3], [10, 1, -1]), (23, [8, 3], [9, 1, -1]), (23, [6, 3], [1, 1, -1]), (23, [5, 3], [0, 1, -1]), (102, [8], [261336857795280739939871698507597986398208, 12012]), (23, [8, 3], [9, 1, -1]), (23, [6, 3], [1, 1, -1]), (23, [5, 3], [0, 1, -1]), (102, [6], [261336857795280739939871698507597986398208, 12012]), (23, [6, 3], [1, 1, -1]), (23, [5, 3], [0, 1, -1]), (102, [5], [261336857795280739939871698507597986398208, 12012]), (23, [5, 3], [0, 1, -1])] ta ws vs := hf
  obtain ⟨f0, hf⟩ := fc_un (show (23 : Nat) < 100 from by decide) hf
  have f0 : 1 * v_iv (n_v vs 9) + ((-1) * v_iv (n_v vs 3) + 0) ≤ 10 := f0
  obtain ⟨f1, hf⟩ := fc_un (show (23 : Nat) < 100 from by decide) hf
  have f1 : 1 * v_iv (n_v vs 8) + ((-1) * v_iv (n_v vs 3) + 0) ≤ 9 := f1
  obtain ⟨f2, hf⟩ := fc_un (show (23 : Nat) < 100 from by decide) hf
  have f2 : 1 * v_iv (n_v vs 6) + ((-1) * v_iv (n_v vs 3) + 0) ≤ 1 := f2
  obtain ⟨f3, hf⟩ := fc_un (show (23 : Nat) < 100 from by decide) hf
  have f3 : 1 * v_iv (n_v vs 5) + ((-1) * v_iv (n_v vs 3) + 0) ≤ 0 := f3
  obtain ⟨f4, hf⟩ := fc_un (show (20 : Nat) < 100 from by decide) hf
  have f4 : 1 * w_fi ws (n_v vs 0) 12 + ((-1) * v_iv (n_v vs 9) + 0) ≤ 8 := f4
  obtain ⟨ta1, w1, le1, ⟨_, s1⟩, hf⟩ := fc_us (show ¬ (102 : Nat) < 100 from by decide) hf
  obtain ⟨f6, hf⟩ := fc_un (show (23 : Nat) < 100 from by decide) hf
  have f6 : 1 * v_iv (n_v vs 9) + ((-1) * v_iv (n_v vs 3) + 0) ≤ 10 := f6
  obtain ⟨f7, hf⟩ := fc_un (show (23 : Nat) < 100 from by decide) hf
  have f7 : 1 * v_iv (n_v vs 8) + ((-1) * v_iv (n_v vs 3) + 0) ≤ 9 := f7
  obtain ⟨f8, hf⟩ := fc_un (show (23 : Nat) < 100 from by decide) hf
  have f8 : 1 * v_iv (n_v vs 6) + ((-1) * v_iv (n_v vs 3) + 0) ≤ 1 := f8
  obtain ⟨f9, hf⟩ := fc_un (show (23 : Nat) < 100 from by decide) hf
  have f9 : 1 * v_iv (n_v vs 5) + ((-1) * v_iv (n_v vs 3) + 0) ≤ 0 := f9
  obtain ⟨ta2, w2, le2, ⟨_, s2⟩, hf⟩ := fc_us (show ¬ (102 : Nat) < 100 from by decide) hf
  obtain ⟨f11, hf⟩ := fc_un (show (23 : Nat) < 100 from by decide) hf
  have f11 : 1 * v_iv (n_v vs 8) + ((-1) * v_iv (n_v vs 3) + 0) ≤ 9 := f11
  obtain ⟨f12, hf⟩ := fc_un (show (23 : Nat) < 100 from by decide) hf
  have f12 : 1 * v_iv (n_v vs 6) + ((-1) * v_iv (n_v vs 3) + 0) ≤ 1 := f12
  obtain ⟨f13, hf⟩ := fc_un (show (23 : Nat) < 100 from by decide) hf
  have f13 : 1 * v_iv (n_v vs 5) + ((-1) * v_iv (n_v vs 3) + 0) ≤ 0 := f13
  obtain ⟨ta3, w3, le3, ⟨_, s3⟩, hf⟩ := fc_us (show ¬ (102 : Nat) < 100 from by decide) hf
  obtain ⟨f15, hf⟩ := fc_un (show (23 : Nat) < 100 from by decide) hf
  have f15 : 1 * v_iv (n_v vs 6) + ((-1) * v_iv (n_v vs 3) + 0) ≤ 1 := f15
  obtain ⟨f16, hf⟩ := fc_un (show (23 : Nat) < 100 from by decide) hf
  have f16 : 1 * v_iv (n_v vs 5) + ((-1) * v_iv (n_v vs 3) + 0) ≤ 0 := f16
  obtain ⟨ta4, w4, le4, ⟨_, s4⟩, hf⟩ := fc_us (show ¬ (102 : Nat) < 100 from by decide) hf
  obtain ⟨f18, hf⟩ := fc_un (show (23 : Nat) < 100 from by decide) hf
  have f18 : 1 * v_iv (n_v vs 5) + ((-1) * v_iv (n_v vs 3) + 0) ≤ 0 := f18
  have kz_0_12 : 0 ≤ w_fi ws (n_v vs 0) 12 ∧ w_fi ws (n_v vs 0) 12 ≤ 100000000 := tv_rng (th_fd hD hth r0 (g := GG_12) rfl (k := 12) (t := (0, 0, 100000000, [])) rfl rfl)
  have nf0 : fc_1 (20, [0, 3], [30, 18, 1, 1, 12, -1, 0, 0]) ws (vs) := by
    refine ⟨fun n hn => ?_, ?_⟩
    · have hn : n ∈ [0, 3] := hn
      rw [hl]
      simp only [List.mem_cons, List.not_mem_nil, or_false] at hn
      show n < 10; omega
    · show 1 * w_fi ws (n_v vs 0) 12 + ((-1) * v_iv (n_v vs 3) + 0) ≤ 18
      omega
  refine ⟨(fun _ h => (by cases h)), [], trivial, ?_, (fun _ h => (by cases h))⟩
  rw [List.append_nil]
  exact List.forall_mem_cons.mpr ⟨⟨show (20 : Nat) < 100 from by decide, nf0⟩, (fun _ h => (by cases h))⟩
def n_Ho_writePoint_an : List an_T := []
def t_Ho_writePoint_ct : ct_L := [(1, 447, e_Ho_writeByte), (1, 471, e_Ho_writeNumber)]
set_option maxRecDepth 100000 in
theorem c_Ho_writePoint {l : Launch} {D : va_G} {kA : Nat → ClassId} (h_Ho_writeByte : ct_ok l D kA GG y_Ho_writeByte z_Ho_writeByte e_Ho_writeByte) (h_Ho_writeNumber : ct_ok l D kA GG y_Ho_writeNumber z_Ho_writeNumber e_Ho_writeNumber) : ct_ok l D kA GG y_Ho_writePoint z_Ho_writePoint e_Ho_writePoint := chk_all_ok (FT := []) (PT := []) (CT := t_Ho_writePoint_ct) (KT := []) (NT := []) (AN := n_Ho_writePoint_an) (OT := [o_Ho_writePoint_0, o_Ho_writePoint_1, o_Ho_writePoint_2, o_Ho_writePoint_3, o_Ho_writePoint_4]) 0 200 (List.forall_mem_cons.mpr ⟨oo_Ho_writePoint_0, List.forall_mem_cons.mpr ⟨oo_Ho_writePoint_1, List.forall_mem_cons.mpr ⟨oo_Ho_writePoint_2, List.forall_mem_cons.mpr ⟨oo_Ho_writePoint_3, List.forall_mem_cons.mpr ⟨oo_Ho_writePoint_4, List.forall_mem_nil _⟩⟩⟩⟩⟩) (by decide +kernel) ⟨List.forall_mem_nil _, List.forall_mem_nil _, List.forall_mem_cons.mpr ⟨cl_virtual (y := y_Ho_writeByte) (ci := 12) rfl rfl ⟨_, _, rfl⟩ (by decide +kernel) h_Ho_writeByte wm_2345 wm_1 wm_2342 wm_2344 wv_12_0 ⟨by decide, by decide, by decide +kernel⟩ (by decide), List.forall_mem_cons.mpr ⟨cl_virtual (y := y_Ho_writeNumber) (ci := 12) rfl rfl ⟨_, _, rfl⟩ (by decide +kernel) h_Ho_writeNumber wm_2354 wm_1 wm_2351 wm_2353 wv_12_2 ⟨by decide, by decide, by decide +kernel⟩ (by decide), List.forall_mem_nil _⟩⟩, List.forall_mem_nil _, List.forall_mem_nil _, GG_pl⟩ (by decide +kernel)
def n_Em_pickPiece_an : List an_T := [(8, [(0, (2, 0, 0, [1])), (1, (0, 0, 71, [])), (2, (0, -2147483648, 1000000, [])), (3, (0, 0, 33554431, [])), (4, (0, 0, 72, []))], [], (0, 0), [(0, 0, 99992), (1, 4, 72), (0, 0, 100000)], [(1, 2, -1000000000000, 2147483719), (1, 3, -1000000000000, 71), (1, 4, -1000000000000, 71), (1, 5, -1000000000000, 71), (1, 6, -1000000000000, 71), (2, 1, -1000000000000, 1000000), (2, 3, -1000000000000, 1000000), (2, 4, -1000000000000, 1000000), (2, 5, -1000000000000, 1000000), (2, 6, -1000000000000, 1000000), (3, 1, -1000000000000, 33554431), (3, 2, -1000000000000, 2181038079), (3, 4, -1000000000000, 33554430), (3, 5, -1000000000000, 33554431), (3, 6, -1000000000000, 33554431)], [((0, 16), (0, 0, 33554431, [])), ((0, 17), (0, 0, 33554431, [])), ((0, 0), (2, 0, 0, [5, 149]))], [], 0, [], [])]
def t_Em_pickPiece_ct : ct_L := [(1, 188, e_Em_countFits), (1, 191, e_Em_firstFit), (360, 180, e_Fa_spread_at_Nenear_Npnear), (468, 184, e_Fa_nearOf_at_Nenear_Npnear)]
set_option maxRecDepth 100000 in
theorem c_Em_pickPiece {l : Launch} {D : va_G} {kA : Nat → ClassId} (h_Em_countFits : ct_ok l D kA GG y_Em_countFits z_Em_countFits e_Em_countFits) (h_Em_firstFit : ct_ok l D kA GG y_Em_firstFit z_Em_firstFit e_Em_firstFit) (h_Fa_nearOf_at_Nenear_Npnear : ct_ok l D kA GG y_Fa_nearOf_at_Nenear_Npnear z_Fa_nearOf_at_Nenear_Npnear e_Fa_nearOf_at_Nenear_Npnear) (h_Fa_spread_at_Nenear_Npnear : ct_ok l D kA GG y_Fa_spread_at_Nenear_Npnear z_Fa_spread_at_Nenear_Npnear e_Fa_spread_at_Nenear_Npnear) : ct_ok l D kA GG y_Em_pickPiece z_Em_pickPiece e_Em_pickPiece := chk_all_ok (FT := [(9, 1, 0), (21, 1, 2), (25, 1, 3), (32, 1, 5), (36, 1, 6), (69, 1, 17), (85, 5, 5), (114, 5, 9), (133, 5, 6), (134, 5, 7), (135, 5, 8)]) (PT := [(66, 1, 16, .int), (69, 1, 17, .int), (72, 1, 18, .int)]) (CT := t_Em_pickPiece_ct) (KT := [(0, 179, .int (1000000), (0, 1000000, 1000000, []))]) (NT := []) (AN := n_Em_pickPiece_an) (OT := []) 3 628 (List.forall_mem_nil _) (by decide +kernel) ⟨List.forall_mem_cons.mpr ⟨gf_Em_9, List.forall_mem_cons.mpr ⟨gf_Em_21, List.forall_mem_cons.mpr ⟨gf_Em_25, List.forall_mem_cons.mpr ⟨gf_Em_32, List.forall_mem_cons.mpr ⟨gf_Em_36, List.forall_mem_cons.mpr ⟨gf_Em_69, List.forall_mem_cons.mpr ⟨gf_Em_85, List.forall_mem_cons.mpr ⟨gf_Em_114, List.forall_mem_cons.mpr ⟨gf_Em_133, List.forall_mem_cons.mpr ⟨gf_Em_134, List.forall_mem_cons.mpr ⟨gf_Em_135, List.forall_mem_nil _⟩⟩⟩⟩⟩⟩⟩⟩⟩⟩⟩, List.forall_mem_cons.mpr ⟨pf_Em_66, List.forall_mem_cons.mpr ⟨pf_Em_69, List.forall_mem_cons.mpr ⟨pf_Em_72, List.forall_mem_nil _⟩⟩⟩, List.forall_mem_cons.mpr ⟨cl_virtual (y := y_Em_countFits) (ci := 1) rfl rfl ⟨_, _, rfl⟩ (by decide +kernel) h_Em_countFits wm_1100 wm_5 wm_1097 wm_1099 wv_3_11 ⟨by decide, by decide, by decide +kernel⟩ (by decide), List.forall_mem_cons.mpr ⟨cl_virtual (y := y_Em_firstFit) (ci := 1) rfl rfl ⟨_, _, rfl⟩ (by decide +kernel) h_Em_firstFit wm_1104 wm_5 wm_1101 wm_1103 wv_3_12 ⟨by decide, by decide, by decide +kernel⟩ (by decide), List.forall_mem_cons.mpr ⟨cl_static (y := y_Fa_spread_at_Nenear_Npnear) h_Fa_spread_at_Nenear_Npnear wm_821 wm_7 wm_1095 wm_820 ⟨by decide, by decide, by decide +kernel⟩ (by decide), List.forall_mem_cons.mpr ⟨cl_static (y := y_Fa_nearOf_at_Nenear_Npnear) h_Fa_nearOf_at_Nenear_Npnear wm_824 wm_7 wm_1096 wm_823 ⟨by decide, by decide, by decide +kernel⟩ (by decide), List.forall_mem_nil _⟩⟩⟩⟩, List.forall_mem_cons.mpr ⟨kx_Em_0_179, List.forall_mem_nil _⟩, List.forall_mem_nil _, GG_pl⟩ (by decide +kernel)
def n_Fa_orderSmall_an : List an_T := [(9, [(0, (2, 0, 0, [2])), (1, (2, 0, 0, [3])), (2, (0, 2, 7, [])), (3, (0, 1, 128, []))], [], (0, 0), [(0, 0, 99991), (1, 3, 128), (0, 0, 100000), (0, 0, 0), (0, 0, 0)], [], [], [], 0, [], []), (27, [(0, (2, 0, 0, [2])), (1, (2, 0, 0, [3])), (2, (0, 2, 7, [])), (3, (0, 1, 127, [])), (4, (0, 0, 7, []))], [], (0, 0), [(0, 0, 99991), (1, 3, 128), (0, 0, 99973), (1, 4, 7), (0, 0, 100000)], [], [], [], 0, [], []), (87, [(0, (2, 0, 0, [2])), (1, (2, 0, 0, [3])), (2, (0, 2, 7, [])), (3, (0, 0, 127, [])), (4, (0, 0, 7, []))], [], (0, 0), [(0, 0, 99913), (1, 4, 7), (0, 0, 100000), (0, 0, 0), (0, 0, 0)], [], [], [], 0, [], []), (99, [(0, (2, 0, 0, [2])), (1, (2, 0, 0, [3])), (2, (0, 2, 7, [])), (3, (0, 0, 127, [])), (4, (0, 0, 6, [])), (5, (0, 0, 1, [])), (6, (0, 0, 7, []))], [], (0, 0), [(0, 0, 99913), (1, 4, 7), (0, 0, 99901), (1, 6, 7), (0, 0, 100000)], [], [], [], 0, [], [])]
def t_Fa_orderSmall_ct : ct_L := [(1, 173, e_Fa_costAhead), (189, 124, e_jMath_min1_v40)]
set_option maxRecDepth 100000 in
theorem c_Fa_orderSmall {l : Launch} {D : va_G} {kA : Nat → ClassId} (h_Fa_costAhead : ct_ok l D kA GG y_Fa_costAhead z_Fa_costAhead e_Fa_costAhead) : ct_ok l D kA GG y_Fa_orderSmall z_Fa_orderSmall e_Fa_orderSmall := chk_all_ok (FT := [(51, 2, 12), (54, 2, 13), (57, 2, 14)]) (PT := []) (CT := t_Fa_orderSmall_ct) (KT := [(0, 172, .int (1000000), (0, 1000000, 1000000, []))]) (NT := []) (AN := n_Fa_orderSmall_an) (OT := []) 5 460 (List.forall_mem_nil _) (by decide +kernel) ⟨List.forall_mem_cons.mpr ⟨gf_Fa_51, List.forall_mem_cons.mpr ⟨gf_Fa_54, List.forall_mem_cons.mpr ⟨gf_Fa_57, List.forall_mem_nil _⟩⟩⟩, List.forall_mem_nil _, List.forall_mem_cons.mpr ⟨cl_virtual (y := y_Fa_costAhead) (ci := 2) rfl rfl ⟨_, _, rfl⟩ (by decide +kernel) h_Fa_costAhead wm_909 wm_7 wm_906 wm_908 wv_2_11 ⟨by decide, by decide, by decide +kernel⟩ (by decide), List.forall_mem_cons.mpr ⟨cl_static (y := y_jMath_min1) c_jMath_min1_v40 wm_658 wm_10 wm_837 wm_657 ⟨by decide, by decide, by decide +kernel⟩ (by decide), List.forall_mem_nil _⟩⟩, List.forall_mem_cons.mpr ⟨kx_Fa_0_172, List.forall_mem_nil _⟩, List.forall_mem_nil _, GG_pl⟩ (by decide +kernel)
def o_Gr_copyFrom_0 : or_T := (49, 12, [(8, (0, 0, 0, [])), (10, (0, 0, 0, [])), (11, (0, 192, 192, []))], [], [], [], [(21, [8, 11], [192]), (21, [10, 11], [192])], [], [])
theorem oo_Gr_copyFrom_0 {kA : Nat → ClassId} : or_ok kA GG o_Gr_copyFrom_0 := by
  intro A ta ws vs hD hth hl hk hds hf
  have hl : vs.length = 12 := hl
  have hk : ∀ q ∈ ([(8, (0, 0, 0, [])), (10, (0, 0, 0, [])), (11, (0, 192, 192, []))] : List (Nat × tv_T)), tv_ok ta q.2 (n_v vs q.1) := hk
  obtain ⟨t8, hk⟩ := List.forall_mem_cons.mp hk
  have t8 : tv_ok ta (0, 0, 0, []) (n_v vs 8) := t8
  have k8 : 0 ≤ v_iv (n_v vs 8) ∧ v_iv (n_v vs 8) ≤ 0 := tv_rng t8
  obtain ⟨t10, hk⟩ := List.forall_mem_cons.mp hk
  have t10 : tv_ok ta (0, 0, 0, []) (n_v vs 10) := t10
  have k10 : 0 ≤ v_iv (n_v vs 10) ∧ v_iv (n_v vs 10) ≤ 0 := tv_rng t10
  obtain ⟨t11, hk⟩ := List.forall_mem_cons.mp hk
  have t11 : tv_ok ta (0, 192, 192, []) (n_v vs 11) := t11
  have k11 : 192 ≤ v_iv (n_v vs 11) ∧ v_iv (n_v vs 11) ≤ 192 := tv_rng t11
  have nf0 : fc_1 (21, [8, 11], [192]) ws (vs) := by
    refine ⟨fun n hn => ?_, ?_⟩
    · have hn : n ∈ [8, 11] := hn
      rw [hl]
      simp only [List.mem_cons, List.not_mem_nil, or_false] at hn
      show n < 12; omega
    · show v_iv (n_v vs 8) + v_iv (n_v vs 11) ≤ 192
      omega
  have nf1 : fc_1 (21, [10, 11], [192]) ws (vs) := by
    refine ⟨fun n hn => ?_, ?_⟩
    · have hn : n ∈ [10, 11] := hn
      rw [hl]
      simp only [List.mem_cons, List.not_mem_nil, or_false] at hn
      show n < 12; omega
    · show v_iv (n_v vs 10) + v_iv (n_v vs 11) ≤ 192
      omega
  refine ⟨(fun _ h => (by cases h)), [], trivial, ?_, (fun _ h => (by cases h))⟩
  rw [List.append_nil]
  exact List.forall_mem_cons.mpr ⟨⟨show (21 : Nat) < 100 from by decide, nf0⟩, List.forall_mem_cons.mpr ⟨⟨show (21 : Nat) < 100 from by decide, nf1⟩, (fun _ h => (by cases h))⟩⟩
def o_Gr_copyFrom_1 : or_T := (64, 17, [(13, (0, 0, 0, [])), (15, (0, 0, 0, [])), (16, (0, 24, 24, []))], [], [], [], [(21, [13, 16], [24]), (21, [15, 16], [24])], [], [])
theorem oo_Gr_copyFrom_1 {kA : Nat → ClassId} : or_ok kA GG o_Gr_copyFrom_1 := by
  intro A ta ws vs hD hth hl hk hds hf
  have hl : vs.length = 17 := hl
  have hk : ∀ q ∈ ([(13, (0, 0, 0, [])), (15, (0, 0, 0, [])), (16, (0, 24, 24, []))] : List (Nat × tv_T)), tv_ok ta q.2 (n_v vs q.1) := hk
  obtain ⟨t13, hk⟩ := List.forall_mem_cons.mp hk
  have t13 : tv_ok ta (0, 0, 0, []) (n_v vs 13) := t13
  have k13 : 0 ≤ v_iv (n_v vs 13) ∧ v_iv (n_v vs 13) ≤ 0 := tv_rng t13
  obtain ⟨t15, hk⟩ := List.forall_mem_cons.mp hk
  have t15 : tv_ok ta (0, 0, 0, []) (n_v vs 15) := t15
  have k15 : 0 ≤ v_iv (n_v vs 15) ∧ v_iv (n_v vs 15) ≤ 0 := tv_rng t15
  obtain ⟨t16, hk⟩ := List.forall_mem_cons.mp hk
  have t16 : tv_ok ta (0, 24, 24, []) (n_v vs 16) := t16
  have k16 : 24 ≤ v_iv (n_v vs 16) ∧ v_iv (n_v vs 16) ≤ 24 := tv_rng t16
  have nf0 : fc_1 (21, [13, 16], [24]) ws (vs) := by
    refine ⟨fun n hn => ?_, ?_⟩
    · have hn : n ∈ [13, 16] := hn
      rw [hl]
      simp only [List.mem_cons, List.not_mem_nil, or_false] at hn
      show n < 17; omega
    · show v_iv (n_v vs 13) + v_iv (n_v vs 16) ≤ 24
      omega
  have nf1 : fc_1 (21, [15, 16], [24]) ws (vs) := by
    refine ⟨fun n hn => ?_, ?_⟩
    · have hn : n ∈ [15, 16] := hn
      rw [hl]
      simp only [List.mem_cons, List.not_mem_nil, or_false] at hn
      show n < 17; omega
    · show v_iv (n_v vs 15) + v_iv (n_v vs 16) ≤ 24
      omega
  refine ⟨(fun _ h => (by cases h)), [], trivial, ?_, (fun _ h => (by cases h))⟩
  rw [List.append_nil]
  exact List.forall_mem_cons.mpr ⟨⟨show (21 : Nat) < 100 from by decide, nf0⟩, List.forall_mem_cons.mpr ⟨⟨show (21 : Nat) < 100 from by decide, nf1⟩, (fun _ h => (by cases h))⟩⟩
def o_Gr_copyFrom_2 : or_T := (79, 22, [(18, (0, 0, 0, [])), (20, (0, 0, 0, [])), (21, (0, 24, 24, []))], [], [], [], [(21, [18, 21], [24]), (21, [20, 21], [24])], [], [])
theorem oo_Gr_copyFrom_2 {kA : Nat → ClassId} : or_ok kA GG o_Gr_copyFrom_2 := by
  intro A ta ws vs hD hth hl hk hds hf
  have hl : vs.length = 22 := hl
  have hk : ∀ q ∈ ([(18, (0, 0, 0, [])), (20, (0, 0, 0, [])), (21, (0, 24, 24, []))] : List (Nat × tv_T)), tv_ok ta q.2 (n_v vs q.1) := hk
  obtain ⟨t18, hk⟩ := List.forall_mem_cons.mp hk
  have t18 : tv_ok ta (0, 0, 0, []) (n_v vs 18) := t18
  have k18 : 0 ≤ v_iv (n_v vs 18) ∧ v_iv (n_v vs 18) ≤ 0 := tv_rng t18
  obtain ⟨t20, hk⟩ := List.forall_mem_cons.mp hk
  have t20 : tv_ok ta (0, 0, 0, []) (n_v vs 20) := t20
  have k20 : 0 ≤ v_iv (n_v vs 20) ∧ v_iv (n_v vs 20) ≤ 0 := tv_rng t20
  obtain ⟨t21, hk⟩ := List.forall_mem_cons.mp hk
  have t21 : tv_ok ta (0, 24, 24, []) (n_v vs 21) := t21
  have k21 : 24 ≤ v_iv (n_v vs 21) ∧ v_iv (n_v vs 21) ≤ 24 := tv_rng t21
  have nf0 : fc_1 (21, [18, 21], [24]) ws (vs) := by
    refine ⟨fun n hn => ?_, ?_⟩
    · have hn : n ∈ [18, 21] := hn
      rw [hl]
      simp only [List.mem_cons, List.not_mem_nil, or_false] at hn
      show n < 22; omega
    · show v_iv (n_v vs 18) + v_iv (n_v vs 21) ≤ 24
      omega
  have nf1 : fc_1 (21, [20, 21], [24]) ws (vs) := by
    refine ⟨fun n hn => ?_, ?_⟩
    · have hn : n ∈ [20, 21] := hn
      rw [hl]
      simp only [List.mem_cons, List.not_mem_nil, or_false] at hn
      show n < 22; omega
    · show v_iv (n_v vs 20) + v_iv (n_v vs 21) ≤ 24
      omega
  refine ⟨(fun _ h => (by cases h)), [], trivial, ?_, (fun _ h => (by cases h))⟩
  rw [List.append_nil]
  exact List.forall_mem_cons.mpr ⟨⟨show (21 : Nat) < 100 from by decide, nf0⟩, List.forall_mem_cons.mpr ⟨⟨show (21 : Nat) < 100 from by decide, nf1⟩, (fun _ h => (by cases h))⟩⟩
def o_Gr_copyFrom_3 : or_T := (94, 27, [(23, (0, 0, 0, [])), (25, (0, 0, 0, [])), (26, (0, 24, 24, []))], [], [], [], [(21, [23, 26], [24]), (21, [25, 26], [24])], [], [])
theorem oo_Gr_copyFrom_3 {kA : Nat → ClassId} : or_ok kA GG o_Gr_copyFrom_3 := by
  intro A ta ws vs hD hth hl hk hds hf
  have hl : vs.length = 27 := hl
  have hk : ∀ q ∈ ([(23, (0, 0, 0, [])), (25, (0, 0, 0, [])), (26, (0, 24, 24, []))] : List (Nat × tv_T)), tv_ok ta q.2 (n_v vs q.1) := hk
  obtain ⟨t23, hk⟩ := List.forall_mem_cons.mp hk
  have t23 : tv_ok ta (0, 0, 0, []) (n_v vs 23) := t23
  have k23 : 0 ≤ v_iv (n_v vs 23) ∧ v_iv (n_v vs 23) ≤ 0 := tv_rng t23
  obtain ⟨t25, hk⟩ := List.forall_mem_cons.mp hk
  have t25 : tv_ok ta (0, 0, 0, []) (n_v vs 25) := t25
  have k25 : 0 ≤ v_iv (n_v vs 25) ∧ v_iv (n_v vs 25) ≤ 0 := tv_rng t25
  obtain ⟨t26, hk⟩ := List.forall_mem_cons.mp hk
  have t26 : tv_ok ta (0, 24, 24, []) (n_v vs 26) := t26
  have k26 : 24 ≤ v_iv (n_v vs 26) ∧ v_iv (n_v vs 26) ≤ 24 := tv_rng t26
  have nf0 : fc_1 (21, [23, 26], [24]) ws (vs) := by
    refine ⟨fun n hn => ?_, ?_⟩
    · have hn : n ∈ [23, 26] := hn
      rw [hl]
      simp only [List.mem_cons, List.not_mem_nil, or_false] at hn
      show n < 27; omega
    · show v_iv (n_v vs 23) + v_iv (n_v vs 26) ≤ 24
      omega
  have nf1 : fc_1 (21, [25, 26], [24]) ws (vs) := by
    refine ⟨fun n hn => ?_, ?_⟩
    · have hn : n ∈ [25, 26] := hn
      rw [hl]
      simp only [List.mem_cons, List.not_mem_nil, or_false] at hn
      show n < 27; omega
    · show v_iv (n_v vs 25) + v_iv (n_v vs 26) ≤ 24
      omega
  refine ⟨(fun _ h => (by cases h)), [], trivial, ?_, (fun _ h => (by cases h))⟩
  rw [List.append_nil]
  exact List.forall_mem_cons.mpr ⟨⟨show (21 : Nat) < 100 from by decide, nf0⟩, List.forall_mem_cons.mpr ⟨⟨show (21 : Nat) < 100 from by decide, nf1⟩, (fun _ h => (by cases h))⟩⟩
def o_Gr_copyFrom_4 : or_T := (109, 32, [(28, (0, 0, 0, [])), (30, (0, 0, 0, [])), (31, (0, 48, 48, []))], [], [], [], [(21, [28, 31], [48]), (21, [30, 31], [48])], [], [])
theorem oo_Gr_copyFrom_4 {kA : Nat → ClassId} : or_ok kA GG o_Gr_copyFrom_4 := by
  intro A ta ws vs hD hth hl hk hds hf
  have hl : vs.length = 32 := hl
  have hk : ∀ q ∈ ([(28, (0, 0, 0, [])), (30, (0, 0, 0, [])), (31, (0, 48, 48, []))] : List (Nat × tv_T)), tv_ok ta q.2 (n_v vs q.1) := hk
  obtain ⟨t28, hk⟩ := List.forall_mem_cons.mp hk
  have t28 : tv_ok ta (0, 0, 0, []) (n_v vs 28) := t28
  have k28 : 0 ≤ v_iv (n_v vs 28) ∧ v_iv (n_v vs 28) ≤ 0 := tv_rng t28
  obtain ⟨t30, hk⟩ := List.forall_mem_cons.mp hk
  have t30 : tv_ok ta (0, 0, 0, []) (n_v vs 30) := t30
  have k30 : 0 ≤ v_iv (n_v vs 30) ∧ v_iv (n_v vs 30) ≤ 0 := tv_rng t30
  obtain ⟨t31, hk⟩ := List.forall_mem_cons.mp hk
  have t31 : tv_ok ta (0, 48, 48, []) (n_v vs 31) := t31
  have k31 : 48 ≤ v_iv (n_v vs 31) ∧ v_iv (n_v vs 31) ≤ 48 := tv_rng t31
  have nf0 : fc_1 (21, [28, 31], [48]) ws (vs) := by
    refine ⟨fun n hn => ?_, ?_⟩
    · have hn : n ∈ [28, 31] := hn
      rw [hl]
      simp only [List.mem_cons, List.not_mem_nil, or_false] at hn
      show n < 32; omega
    · show v_iv (n_v vs 28) + v_iv (n_v vs 31) ≤ 48
      omega
  have nf1 : fc_1 (21, [30, 31], [48]) ws (vs) := by
    refine ⟨fun n hn => ?_, ?_⟩
    · have hn : n ∈ [30, 31] := hn
      rw [hl]
      simp only [List.mem_cons, List.not_mem_nil, or_false] at hn
      show n < 32; omega
    · show v_iv (n_v vs 30) + v_iv (n_v vs 31) ≤ 48
      omega
  refine ⟨(fun _ h => (by cases h)), [], trivial, ?_, (fun _ h => (by cases h))⟩
  rw [List.append_nil]
  exact List.forall_mem_cons.mpr ⟨⟨show (21 : Nat) < 100 from by decide, nf0⟩, List.forall_mem_cons.mpr ⟨⟨show (21 : Nat) < 100 from by decide, nf1⟩, (fun _ h => (by cases h))⟩⟩
def o_Gr_copyFrom_5 : or_T := (124, 37, [(33, (0, 0, 0, [])), (35, (0, 0, 0, [])), (36, (0, 48, 48, []))], [], [], [], [(21, [33, 36], [48]), (21, [35, 36], [48])], [], [])
theorem oo_Gr_copyFrom_5 {kA : Nat → ClassId} : or_ok kA GG o_Gr_copyFrom_5 := by
  intro A ta ws vs hD hth hl hk hds hf
  have hl : vs.length = 37 := hl
  have hk : ∀ q ∈ ([(33, (0, 0, 0, [])), (35, (0, 0, 0, [])), (36, (0, 48, 48, []))] : List (Nat × tv_T)), tv_ok ta q.2 (n_v vs q.1) := hk
  obtain ⟨t33, hk⟩ := List.forall_mem_cons.mp hk
  have t33 : tv_ok ta (0, 0, 0, []) (n_v vs 33) := t33
  have k33 : 0 ≤ v_iv (n_v vs 33) ∧ v_iv (n_v vs 33) ≤ 0 := tv_rng t33
  obtain ⟨t35, hk⟩ := List.forall_mem_cons.mp hk
  have t35 : tv_ok ta (0, 0, 0, []) (n_v vs 35) := t35
  have k35 : 0 ≤ v_iv (n_v vs 35) ∧ v_iv (n_v vs 35) ≤ 0 := tv_rng t35
  obtain ⟨t36, hk⟩ := List.forall_mem_cons.mp hk
  have t36 : tv_ok ta (0, 48, 48, []) (n_v vs 36) := t36
  have k36 : 48 ≤ v_iv (n_v vs 36) ∧ v_iv (n_v vs 36) ≤ 48 := tv_rng t36
  have nf0 : fc_1 (21, [33, 36], [48]) ws (vs) := by
    refine ⟨fun n hn => ?_, ?_⟩
    · have hn : n ∈ [33, 36] := hn
      rw [hl]
      simp only [List.mem_cons, List.not_mem_nil, or_false] at hn
      show n < 37; omega
    · show v_iv (n_v vs 33) + v_iv (n_v vs 36) ≤ 48
      omega
  have nf1 : fc_1 (21, [35, 36], [48]) ws (vs) := by
    refine ⟨fun n hn => ?_, ?_⟩
    · have hn : n ∈ [35, 36] := hn
      rw [hl]
      simp only [List.mem_cons, List.not_mem_nil, or_false] at hn
      show n < 37; omega
    · show v_iv (n_v vs 35) + v_iv (n_v vs 36) ≤ 48
      omega
  refine ⟨(fun _ h => (by cases h)), [], trivial, ?_, (fun _ h => (by cases h))⟩
  rw [List.append_nil]
  exact List.forall_mem_cons.mpr ⟨⟨show (21 : Nat) < 100 from by decide, nf0⟩, List.forall_mem_cons.mpr ⟨⟨show (21 : Nat) < 100 from by decide, nf1⟩, (fun _ h => (by cases h))⟩⟩
def o_Gr_copyFrom_6 : or_T := (139, 42, [(38, (0, 0, 0, [])), (40, (0, 0, 0, [])), (41, (0, 48, 48, []))], [], [], [], [(21, [38, 41], [48]), (21, [40, 41], [48])], [], [])
theorem oo_Gr_copyFrom_6 {kA : Nat → ClassId} : or_ok kA GG o_Gr_copyFrom_6 := by
  intro A ta ws vs hD hth hl hk hds hf
  have hl : vs.length = 42 := hl
  have hk : ∀ q ∈ ([(38, (0, 0, 0, [])), (40, (0, 0, 0, [])), (41, (0, 48, 48, []))] : List (Nat × tv_T)), tv_ok ta q.2 (n_v vs q.1) := hk
  obtain ⟨t38, hk⟩ := List.forall_mem_cons.mp hk
  have t38 : tv_ok ta (0, 0, 0, []) (n_v vs 38) := t38
  have k38 : 0 ≤ v_iv (n_v vs 38) ∧ v_iv (n_v vs 38) ≤ 0 := tv_rng t38
  obtain ⟨t40, hk⟩ := List.forall_mem_cons.mp hk
  have t40 : tv_ok ta (0, 0, 0, []) (n_v vs 40) := t40
  have k40 : 0 ≤ v_iv (n_v vs 40) ∧ v_iv (n_v vs 40) ≤ 0 := tv_rng t40
  obtain ⟨t41, hk⟩ := List.forall_mem_cons.mp hk
  have t41 : tv_ok ta (0, 48, 48, []) (n_v vs 41) := t41
  have k41 : 48 ≤ v_iv (n_v vs 41) ∧ v_iv (n_v vs 41) ≤ 48 := tv_rng t41
  have nf0 : fc_1 (21, [38, 41], [48]) ws (vs) := by
    refine ⟨fun n hn => ?_, ?_⟩
    · have hn : n ∈ [38, 41] := hn
      rw [hl]
      simp only [List.mem_cons, List.not_mem_nil, or_false] at hn
      show n < 42; omega
    · show v_iv (n_v vs 38) + v_iv (n_v vs 41) ≤ 48
      omega
  have nf1 : fc_1 (21, [40, 41], [48]) ws (vs) := by
    refine ⟨fun n hn => ?_, ?_⟩
    · have hn : n ∈ [40, 41] := hn
      rw [hl]
      simp only [List.mem_cons, List.not_mem_nil, or_false] at hn
      show n < 42; omega
    · show v_iv (n_v vs 40) + v_iv (n_v vs 41) ≤ 48
      omega
  refine ⟨(fun _ h => (by cases h)), [], trivial, ?_, (fun _ h => (by cases h))⟩
  rw [List.append_nil]
  exact List.forall_mem_cons.mpr ⟨⟨show (21 : Nat) < 100 from by decide, nf0⟩, List.forall_mem_cons.mpr ⟨⟨show (21 : Nat) < 100 from by decide, nf1⟩, (fun _ h => (by cases h))⟩⟩
def o_Gr_copyFrom_7 : or_T := (154, 47, [(43, (0, 0, 0, [])), (45, (0, 0, 0, [])), (46, (0, 48, 48, []))], [], [], [], [(21, [43, 46], [48]), (21, [45, 46], [48])], [], [])
theorem oo_Gr_copyFrom_7 {kA : Nat → ClassId} : or_ok kA GG o_Gr_copyFrom_7 := by
  intro A ta ws vs hD hth hl hk hds hf
  have hl : vs.length = 47 := hl
  have hk : ∀ q ∈ ([(43, (0, 0, 0, [])), (45, (0, 0, 0, [])), (46, (0, 48, 48, []))] : List (Nat × tv_T)), tv_ok ta q.2 (n_v vs q.1) := hk
  obtain ⟨t43, hk⟩ := List.forall_mem_cons.mp hk
  have t43 : tv_ok ta (0, 0, 0, []) (n_v vs 43) := t43
  have k43 : 0 ≤ v_iv (n_v vs 43) ∧ v_iv (n_v vs 43) ≤ 0 := tv_rng t43
  obtain ⟨t45, hk⟩ := List.forall_mem_cons.mp hk
  have t45 : tv_ok ta (0, 0, 0, []) (n_v vs 45) := t45
  have k45 : 0 ≤ v_iv (n_v vs 45) ∧ v_iv (n_v vs 45) ≤ 0 := tv_rng t45
  obtain ⟨t46, hk⟩ := List.forall_mem_cons.mp hk
  have t46 : tv_ok ta (0, 48, 48, []) (n_v vs 46) := t46
  have k46 : 48 ≤ v_iv (n_v vs 46) ∧ v_iv (n_v vs 46) ≤ 48 := tv_rng t46
  have nf0 : fc_1 (21, [43, 46], [48]) ws (vs) := by
    refine ⟨fun n hn => ?_, ?_⟩
    · have hn : n ∈ [43, 46] := hn
      rw [hl]
      simp only [List.mem_cons, List.not_mem_nil, or_false] at hn
      show n < 47; omega
    · show v_iv (n_v vs 43) + v_iv (n_v vs 46) ≤ 48
      omega
  have nf1 : fc_1 (21, [45, 46], [48]) ws (vs) := by
    refine ⟨fun n hn => ?_, ?_⟩
    · have hn : n ∈ [45, 46] := hn
      rw [hl]
      simp only [List.mem_cons, List.not_mem_nil, or_false] at hn
      show n < 47; omega
    · show v_iv (n_v vs 45) + v_iv (n_v vs 46) ≤ 48
      omega
  refine ⟨(fun _ h => (by cases h)), [], trivial, ?_, (fun _ h => (by cases h))⟩
  rw [List.append_nil]
  exact List.forall_mem_cons.mpr ⟨⟨show (21 : Nat) < 100 from by decide, nf0⟩, List.forall_mem_cons.mpr ⟨⟨show (21 : Nat) < 100 from by decide, nf1⟩, (fun _ h => (by cases h))⟩⟩
def o_Gr_copyFrom_8 : or_T := (169, 52, [(48, (0, 0, 0, [])), (50, (0, 0, 0, [])), (51, (0, 8, 8, []))], [], [], [], [(21, [48, 51], [8]), (21, [50, 51], [8])], [], [])
theorem oo_Gr_copyFrom_8 {kA : Nat → ClassId} : or_ok kA GG o_Gr_copyFrom_8 := by
  intro A ta ws vs hD hth hl hk hds hf
  have hl : vs.length = 52 := hl
  have hk : ∀ q ∈ ([(48, (0, 0, 0, [])), (50, (0, 0, 0, [])), (51, (0, 8, 8, []))] : List (Nat × tv_T)), tv_ok ta q.2 (n_v vs q.1) := hk
  obtain ⟨t48, hk⟩ := List.forall_mem_cons.mp hk
  have t48 : tv_ok ta (0, 0, 0, []) (n_v vs 48) := t48
  have k48 : 0 ≤ v_iv (n_v vs 48) ∧ v_iv (n_v vs 48) ≤ 0 := tv_rng t48
  obtain ⟨t50, hk⟩ := List.forall_mem_cons.mp hk
  have t50 : tv_ok ta (0, 0, 0, []) (n_v vs 50) := t50
  have k50 : 0 ≤ v_iv (n_v vs 50) ∧ v_iv (n_v vs 50) ≤ 0 := tv_rng t50
  obtain ⟨t51, hk⟩ := List.forall_mem_cons.mp hk
  have t51 : tv_ok ta (0, 8, 8, []) (n_v vs 51) := t51
  have k51 : 8 ≤ v_iv (n_v vs 51) ∧ v_iv (n_v vs 51) ≤ 8 := tv_rng t51
  have nf0 : fc_1 (21, [48, 51], [8]) ws (vs) := by
    refine ⟨fun n hn => ?_, ?_⟩
    · have hn : n ∈ [48, 51] := hn
      rw [hl]
      simp only [List.mem_cons, List.not_mem_nil, or_false] at hn
      show n < 52; omega
    · show v_iv (n_v vs 48) + v_iv (n_v vs 51) ≤ 8
      omega
  have nf1 : fc_1 (21, [50, 51], [8]) ws (vs) := by
    refine ⟨fun n hn => ?_, ?_⟩
    · have hn : n ∈ [50, 51] := hn
      rw [hl]
      simp only [List.mem_cons, List.not_mem_nil, or_false] at hn
      show n < 52; omega
    · show v_iv (n_v vs 50) + v_iv (n_v vs 51) ≤ 8
      omega
  refine ⟨(fun _ h => (by cases h)), [], trivial, ?_, (fun _ h => (by cases h))⟩
  rw [List.append_nil]
  exact List.forall_mem_cons.mpr ⟨⟨show (21 : Nat) < 100 from by decide, nf0⟩, List.forall_mem_cons.mpr ⟨⟨show (21 : Nat) < 100 from by decide, nf1⟩, (fun _ h => (by cases h))⟩⟩
def o_Gr_copyFrom_9 : or_T := (187, 57, [(53, (0, 0, 0, [])), (55, (0, 0, 0, [])), (56, (0, 64, 64, []))], [], [], [], [(21, [53, 56], [64]), (21, [55, 56], [64])], [], [])
theorem oo_Gr_copyFrom_9 {kA : Nat → ClassId} : or_ok kA GG o_Gr_copyFrom_9 := by
  intro A ta ws vs hD hth hl hk hds hf
  have hl : vs.length = 57 := hl
  have hk : ∀ q ∈ ([(53, (0, 0, 0, [])), (55, (0, 0, 0, [])), (56, (0, 64, 64, []))] : List (Nat × tv_T)), tv_ok ta q.2 (n_v vs q.1) := hk
  obtain ⟨t53, hk⟩ := List.forall_mem_cons.mp hk
  have t53 : tv_ok ta (0, 0, 0, []) (n_v vs 53) := t53
  have k53 : 0 ≤ v_iv (n_v vs 53) ∧ v_iv (n_v vs 53) ≤ 0 := tv_rng t53
  obtain ⟨t55, hk⟩ := List.forall_mem_cons.mp hk
  have t55 : tv_ok ta (0, 0, 0, []) (n_v vs 55) := t55
  have k55 : 0 ≤ v_iv (n_v vs 55) ∧ v_iv (n_v vs 55) ≤ 0 := tv_rng t55
  obtain ⟨t56, hk⟩ := List.forall_mem_cons.mp hk
  have t56 : tv_ok ta (0, 64, 64, []) (n_v vs 56) := t56
  have k56 : 64 ≤ v_iv (n_v vs 56) ∧ v_iv (n_v vs 56) ≤ 64 := tv_rng t56
  have nf0 : fc_1 (21, [53, 56], [64]) ws (vs) := by
    refine ⟨fun n hn => ?_, ?_⟩
    · have hn : n ∈ [53, 56] := hn
      rw [hl]
      simp only [List.mem_cons, List.not_mem_nil, or_false] at hn
      show n < 57; omega
    · show v_iv (n_v vs 53) + v_iv (n_v vs 56) ≤ 64
      omega
  have nf1 : fc_1 (21, [55, 56], [64]) ws (vs) := by
    refine ⟨fun n hn => ?_, ?_⟩
    · have hn : n ∈ [55, 56] := hn
      rw [hl]
      simp only [List.mem_cons, List.not_mem_nil, or_false] at hn
      show n < 57; omega
    · show v_iv (n_v vs 55) + v_iv (n_v vs 56) ≤ 64
      omega
  refine ⟨(fun _ h => (by cases h)), [], trivial, ?_, (fun _ h => (by cases h))⟩
  rw [List.append_nil]
  exact List.forall_mem_cons.mpr ⟨⟨show (21 : Nat) < 100 from by decide, nf0⟩, List.forall_mem_cons.mpr ⟨⟨show (21 : Nat) < 100 from by decide, nf1⟩, (fun _ h => (by cases h))⟩⟩
def o_Gr_copyFrom_10 : or_T := (202, 62, [(58, (0, 0, 0, [])), (60, (0, 0, 0, [])), (61, (0, 8, 8, []))], [], [], [], [(21, [58, 61], [8]), (21, [60, 61], [8])], [], [])
theorem oo_Gr_copyFrom_10 {kA : Nat → ClassId} : or_ok kA GG o_Gr_copyFrom_10 := by
  intro A ta ws vs hD hth hl hk hds hf
  have hl : vs.length = 62 := hl
  have hk : ∀ q ∈ ([(58, (0, 0, 0, [])), (60, (0, 0, 0, [])), (61, (0, 8, 8, []))] : List (Nat × tv_T)), tv_ok ta q.2 (n_v vs q.1) := hk
  obtain ⟨t58, hk⟩ := List.forall_mem_cons.mp hk
  have t58 : tv_ok ta (0, 0, 0, []) (n_v vs 58) := t58
  have k58 : 0 ≤ v_iv (n_v vs 58) ∧ v_iv (n_v vs 58) ≤ 0 := tv_rng t58
  obtain ⟨t60, hk⟩ := List.forall_mem_cons.mp hk
  have t60 : tv_ok ta (0, 0, 0, []) (n_v vs 60) := t60
  have k60 : 0 ≤ v_iv (n_v vs 60) ∧ v_iv (n_v vs 60) ≤ 0 := tv_rng t60
  obtain ⟨t61, hk⟩ := List.forall_mem_cons.mp hk
  have t61 : tv_ok ta (0, 8, 8, []) (n_v vs 61) := t61
  have k61 : 8 ≤ v_iv (n_v vs 61) ∧ v_iv (n_v vs 61) ≤ 8 := tv_rng t61
  have nf0 : fc_1 (21, [58, 61], [8]) ws (vs) := by
    refine ⟨fun n hn => ?_, ?_⟩
    · have hn : n ∈ [58, 61] := hn
      rw [hl]
      simp only [List.mem_cons, List.not_mem_nil, or_false] at hn
      show n < 62; omega
    · show v_iv (n_v vs 58) + v_iv (n_v vs 61) ≤ 8
      omega
  have nf1 : fc_1 (21, [60, 61], [8]) ws (vs) := by
    refine ⟨fun n hn => ?_, ?_⟩
    · have hn : n ∈ [60, 61] := hn
      rw [hl]
      simp only [List.mem_cons, List.not_mem_nil, or_false] at hn
      show n < 62; omega
    · show v_iv (n_v vs 60) + v_iv (n_v vs 61) ≤ 8
      omega
  refine ⟨(fun _ h => (by cases h)), [], trivial, ?_, (fun _ h => (by cases h))⟩
  rw [List.append_nil]
  exact List.forall_mem_cons.mpr ⟨⟨show (21 : Nat) < 100 from by decide, nf0⟩, List.forall_mem_cons.mpr ⟨⟨show (21 : Nat) < 100 from by decide, nf1⟩, (fun _ h => (by cases h))⟩⟩
def n_Gr_copyFrom_an : List an_T := []
def t_Gr_copyFrom_ct : ct_L := [(1, 83, e_Gr_relink), (150, 77, e_acp_20), (195, 77, e_acp_21), (240, 77, e_acp_22), (285, 77, e_acp_23), (330, 77, e_acp_24), (375, 77, e_acp_25), (420, 77, e_acp_26), (465, 77, e_acp_27), (510, 77, e_acp_28), (564, 77, e_acp_29), (609, 77, e_acp_30)]
set_option maxRecDepth 100000 in
theorem c_Gr_copyFrom {l : Launch} {D : va_G} {kA : Nat → ClassId} (h_Gr_relink : ct_ok l D kA GG y_Gr_relink z_Gr_relink e_Gr_relink) : ct_ok l D kA GG y_Gr_copyFrom z_Gr_copyFrom e_Gr_copyFrom := chk_all_ok (FT := [(9, 3, 0), (15, 3, 1), (18, 3, 2), (21, 3, 3), (25, 3, 4), (29, 3, 5), (32, 3, 6), (35, 3, 7), (38, 3, 8), (41, 3, 9), (44, 3, 10), (47, 3, 11), (50, 3, 12), (53, 3, 13)]) (PT := [(9, 3, 0, .int), (15, 3, 1, .int), (18, 3, 2, .int), (65, 3, 17, .int), (68, 3, 18, .int)]) (CT := t_Gr_copyFrom_ct) (KT := []) (NT := []) (AN := n_Gr_copyFrom_an) (OT := [o_Gr_copyFrom_0, o_Gr_copyFrom_1, o_Gr_copyFrom_2, o_Gr_copyFrom_3, o_Gr_copyFrom_4, o_Gr_copyFrom_5, o_Gr_copyFrom_6, o_Gr_copyFrom_7, o_Gr_copyFrom_8, o_Gr_copyFrom_9, o_Gr_copyFrom_10]) 0 452 (List.forall_mem_cons.mpr ⟨oo_Gr_copyFrom_0, List.forall_mem_cons.mpr ⟨oo_Gr_copyFrom_1, List.forall_mem_cons.mpr ⟨oo_Gr_copyFrom_2, List.forall_mem_cons.mpr ⟨oo_Gr_copyFrom_3, List.forall_mem_cons.mpr ⟨oo_Gr_copyFrom_4, List.forall_mem_cons.mpr ⟨oo_Gr_copyFrom_5, List.forall_mem_cons.mpr ⟨oo_Gr_copyFrom_6, List.forall_mem_cons.mpr ⟨oo_Gr_copyFrom_7, List.forall_mem_cons.mpr ⟨oo_Gr_copyFrom_8, List.forall_mem_cons.mpr ⟨oo_Gr_copyFrom_9, List.forall_mem_cons.mpr ⟨oo_Gr_copyFrom_10, List.forall_mem_nil _⟩⟩⟩⟩⟩⟩⟩⟩⟩⟩⟩) (by decide +kernel) ⟨List.forall_mem_cons.mpr ⟨gf_Gr_9, List.forall_mem_cons.mpr ⟨gf_Gr_15, List.forall_mem_cons.mpr ⟨gf_Gr_18, List.forall_mem_cons.mpr ⟨gf_Gr_21, List.forall_mem_cons.mpr ⟨gf_Gr_25, List.forall_mem_cons.mpr ⟨gf_Gr_29, List.forall_mem_cons.mpr ⟨gf_Gr_32, List.forall_mem_cons.mpr ⟨gf_Gr_35, List.forall_mem_cons.mpr ⟨gf_Gr_38, List.forall_mem_cons.mpr ⟨gf_Gr_41, List.forall_mem_cons.mpr ⟨gf_Gr_44, List.forall_mem_cons.mpr ⟨gf_Gr_47, List.forall_mem_cons.mpr ⟨gf_Gr_50, List.forall_mem_cons.mpr ⟨gf_Gr_53, List.forall_mem_nil _⟩⟩⟩⟩⟩⟩⟩⟩⟩⟩⟩⟩⟩⟩, List.forall_mem_cons.mpr ⟨pf_Gr_9, List.forall_mem_cons.mpr ⟨pf_Gr_15, List.forall_mem_cons.mpr ⟨pf_Gr_18, List.forall_mem_cons.mpr ⟨pf_Gr_65, List.forall_mem_cons.mpr ⟨pf_Gr_68, List.forall_mem_nil _⟩⟩⟩⟩⟩, List.forall_mem_cons.mpr ⟨cl_virtual (y := y_Gr_relink) (ci := 3) rfl rfl ⟨_, _, rfl⟩ (by decide +kernel) h_Gr_relink wm_785 wm_3 wm_782 wm_784 wv_1_12 ⟨by decide, by decide, by decide +kernel⟩ (by decide), List.forall_mem_cons.mpr ⟨cl_copy rfl rfl (by decide) (by decide) (by decide) wm_748 wm_750 wm_749 wm_15, List.forall_mem_cons.mpr ⟨cl_copy rfl rfl (by decide) (by decide) (by decide) wm_748 wm_750 wm_749 wm_15, List.forall_mem_cons.mpr ⟨cl_copy rfl rfl (by decide) (by decide) (by decide) wm_748 wm_750 wm_749 wm_15, List.forall_mem_cons.mpr ⟨cl_copy rfl rfl (by decide) (by decide) (by decide) wm_748 wm_750 wm_749 wm_15, List.forall_mem_cons.mpr ⟨cl_copy rfl rfl (by decide) (by decide) (by decide) wm_748 wm_750 wm_749 wm_15, List.forall_mem_cons.mpr ⟨cl_copy rfl rfl (by decide) (by decide) (by decide) wm_748 wm_750 wm_749 wm_15, List.forall_mem_cons.mpr ⟨cl_copy rfl rfl (by decide) (by decide) (by decide) wm_748 wm_750 wm_749 wm_15, List.forall_mem_cons.mpr ⟨cl_copy rfl rfl (by decide) (by decide) (by decide) wm_748 wm_750 wm_749 wm_15, List.forall_mem_cons.mpr ⟨cl_copy rfl rfl (by decide) (by decide) (by decide) wm_748 wm_750 wm_749 wm_15, List.forall_mem_cons.mpr ⟨cl_copy rfl rfl (by decide) (by decide) (by decide) wm_748 wm_750 wm_749 wm_15, List.forall_mem_cons.mpr ⟨cl_copy rfl rfl (by decide) (by decide) (by decide) wm_748 wm_750 wm_749 wm_15, List.forall_mem_nil _⟩⟩⟩⟩⟩⟩⟩⟩⟩⟩⟩⟩, List.forall_mem_nil _, List.forall_mem_nil _, GG_pl⟩ (by decide +kernel)
def o_La_sweep_0 : or_T := (118, 9, [(5, (0, 0, 0, [])), (7, (0, 0, 0, [])), (8, (0, 0, 72, []))], [], [], [], [(21, [5, 8], [72]), (21, [7, 8], [72])], [], [])
theorem oo_La_sweep_0 {kA : Nat → ClassId} : or_ok kA GG o_La_sweep_0 := by
  intro A ta ws vs hD hth hl hk hds hf
  have hl : vs.length = 9 := hl
  have hk : ∀ q ∈ ([(5, (0, 0, 0, [])), (7, (0, 0, 0, [])), (8, (0, 0, 72, []))] : List (Nat × tv_T)), tv_ok ta q.2 (n_v vs q.1) := hk
  obtain ⟨t5, hk⟩ := List.forall_mem_cons.mp hk
  have t5 : tv_ok ta (0, 0, 0, []) (n_v vs 5) := t5
  have k5 : 0 ≤ v_iv (n_v vs 5) ∧ v_iv (n_v vs 5) ≤ 0 := tv_rng t5
  obtain ⟨t7, hk⟩ := List.forall_mem_cons.mp hk
  have t7 : tv_ok ta (0, 0, 0, []) (n_v vs 7) := t7
  have k7 : 0 ≤ v_iv (n_v vs 7) ∧ v_iv (n_v vs 7) ≤ 0 := tv_rng t7
  obtain ⟨t8, hk⟩ := List.forall_mem_cons.mp hk
  have t8 : tv_ok ta (0, 0, 72, []) (n_v vs 8) := t8
  have k8 : 0 ≤ v_iv (n_v vs 8) ∧ v_iv (n_v vs 8) ≤ 72 := tv_rng t8
  have nf0 : fc_1 (21, [5, 8], [72]) ws (vs) := by
    refine ⟨fun n hn => ?_, ?_⟩
    · have hn : n ∈ [5, 8] := hn
      rw [hl]
      simp only [List.mem_cons, List.not_mem_nil, or_false] at hn
      show n < 9; omega
    · show v_iv (n_v vs 5) + v_iv (n_v vs 8) ≤ 72
      omega
  have nf1 : fc_1 (21, [7, 8], [72]) ws (vs) := by
    refine ⟨fun n hn => ?_, ?_⟩
    · have hn : n ∈ [7, 8] := hn
      rw [hl]
      simp only [List.mem_cons, List.not_mem_nil, or_false] at hn
      show n < 9; omega
    · show v_iv (n_v vs 7) + v_iv (n_v vs 8) ≤ 72
      omega
  refine ⟨(fun _ h => (by cases h)), [], trivial, ?_, (fun _ h => (by cases h))⟩
  rw [List.append_nil]
  exact List.forall_mem_cons.mpr ⟨⟨show (21 : Nat) < 100 from by decide, nf0⟩, List.forall_mem_cons.mpr ⟨⟨show (21 : Nat) < 100 from by decide, nf1⟩, (fun _ h => (by cases h))⟩⟩
def o_La_sweep_1 : or_T := (95, 11, [(7, (0, 0, 0, [])), (9, (0, 0, 0, [])), (10, (0, 0, 72, []))], [], [], [], [(21, [7, 10], [72]), (21, [9, 10], [72])], [], [])
theorem oo_La_sweep_1 {kA : Nat → ClassId} : or_ok kA GG o_La_sweep_1 := by
  intro A ta ws vs hD hth hl hk hds hf
  have hl : vs.length = 11 := hl
  have hk : ∀ q ∈ ([(7, (0, 0, 0, [])), (9, (0, 0, 0, [])), (10, (0, 0, 72, []))] : List (Nat × tv_T)), tv_ok ta q.2 (n_v vs q.1) := hk
  obtain ⟨t7, hk⟩ := List.forall_mem_cons.mp hk
  have t7 : tv_ok ta (0, 0, 0, []) (n_v vs 7) := t7
  have k7 : 0 ≤ v_iv (n_v vs 7) ∧ v_iv (n_v vs 7) ≤ 0 := tv_rng t7
  obtain ⟨t9, hk⟩ := List.forall_mem_cons.mp hk
  have t9 : tv_ok ta (0, 0, 0, []) (n_v vs 9) := t9
  have k9 : 0 ≤ v_iv (n_v vs 9) ∧ v_iv (n_v vs 9) ≤ 0 := tv_rng t9
  obtain ⟨t10, hk⟩ := List.forall_mem_cons.mp hk
  have t10 : tv_ok ta (0, 0, 72, []) (n_v vs 10) := t10
  have k10 : 0 ≤ v_iv (n_v vs 10) ∧ v_iv (n_v vs 10) ≤ 72 := tv_rng t10
  have nf0 : fc_1 (21, [7, 10], [72]) ws (vs) := by
    refine ⟨fun n hn => ?_, ?_⟩
    · have hn : n ∈ [7, 10] := hn
      rw [hl]
      simp only [List.mem_cons, List.not_mem_nil, or_false] at hn
      show n < 11; omega
    · show v_iv (n_v vs 7) + v_iv (n_v vs 10) ≤ 72
      omega
  have nf1 : fc_1 (21, [9, 10], [72]) ws (vs) := by
    refine ⟨fun n hn => ?_, ?_⟩
    · have hn : n ∈ [9, 10] := hn
      rw [hl]
      simp only [List.mem_cons, List.not_mem_nil, or_false] at hn
      show n < 11; omega
    · show v_iv (n_v vs 9) + v_iv (n_v vs 10) ≤ 72
      omega
  refine ⟨(fun _ h => (by cases h)), [], trivial, ?_, (fun _ h => (by cases h))⟩
  rw [List.append_nil]
  exact List.forall_mem_cons.mpr ⟨⟨show (21 : Nat) < 100 from by decide, nf0⟩, List.forall_mem_cons.mpr ⟨⟨show (21 : Nat) < 100 from by decide, nf1⟩, (fun _ h => (by cases h))⟩⟩
def o_La_sweep_2 : or_T := (95, 10, [(6, (0, 0, 0, [])), (8, (0, 0, 0, [])), (9, (0, 0, 72, []))], [], [], [], [(21, [6, 9], [72]), (21, [8, 9], [72])], [], [])
theorem oo_La_sweep_2 {kA : Nat → ClassId} : or_ok kA GG o_La_sweep_2 := by
  intro A ta ws vs hD hth hl hk hds hf
  have hl : vs.length = 10 := hl
  have hk : ∀ q ∈ ([(6, (0, 0, 0, [])), (8, (0, 0, 0, [])), (9, (0, 0, 72, []))] : List (Nat × tv_T)), tv_ok ta q.2 (n_v vs q.1) := hk
  obtain ⟨t6, hk⟩ := List.forall_mem_cons.mp hk
  have t6 : tv_ok ta (0, 0, 0, []) (n_v vs 6) := t6
  have k6 : 0 ≤ v_iv (n_v vs 6) ∧ v_iv (n_v vs 6) ≤ 0 := tv_rng t6
  obtain ⟨t8, hk⟩ := List.forall_mem_cons.mp hk
  have t8 : tv_ok ta (0, 0, 0, []) (n_v vs 8) := t8
  have k8 : 0 ≤ v_iv (n_v vs 8) ∧ v_iv (n_v vs 8) ≤ 0 := tv_rng t8
  obtain ⟨t9, hk⟩ := List.forall_mem_cons.mp hk
  have t9 : tv_ok ta (0, 0, 72, []) (n_v vs 9) := t9
  have k9 : 0 ≤ v_iv (n_v vs 9) ∧ v_iv (n_v vs 9) ≤ 72 := tv_rng t9
  have nf0 : fc_1 (21, [6, 9], [72]) ws (vs) := by
    refine ⟨fun n hn => ?_, ?_⟩
    · have hn : n ∈ [6, 9] := hn
      rw [hl]
      simp only [List.mem_cons, List.not_mem_nil, or_false] at hn
      show n < 10; omega
    · show v_iv (n_v vs 6) + v_iv (n_v vs 9) ≤ 72
      omega
  have nf1 : fc_1 (21, [8, 9], [72]) ws (vs) := by
    refine ⟨fun n hn => ?_, ?_⟩
    · have hn : n ∈ [8, 9] := hn
      rw [hl]
      simp only [List.mem_cons, List.not_mem_nil, or_false] at hn
      show n < 10; omega
    · show v_iv (n_v vs 8) + v_iv (n_v vs 9) ≤ 72
      omega
  refine ⟨(fun _ h => (by cases h)), [], trivial, ?_, (fun _ h => (by cases h))⟩
  rw [List.append_nil]
  exact List.forall_mem_cons.mpr ⟨⟨show (21 : Nat) < 100 from by decide, nf0⟩, List.forall_mem_cons.mpr ⟨⟨show (21 : Nat) < 100 from by decide, nf1⟩, (fun _ h => (by cases h))⟩⟩
def n_La_sweep_an : List an_T := [(7, [(0, (2, 0, 0, [4])), (1, (0, -2147483648, 2147483647, [])), (2, (0, 0, 10, []))], [], (0, 0), [(0, 0, 99993), (1, 2, 10), (0, 0, 100000), (0, 0, 0), (0, 0, 0)], [], [], [], 0, [], []), (21, [(0, (2, 0, 0, [4])), (1, (0, -2147483648, 2147483647, [])), (2, (0, 0, 9, [])), (3, (0, 1, 25, []))], [], (0, 0), [(0, 0, 99993), (1, 2, 10), (0, 0, 99979), (1, 3, 25), (0, 0, 100000)], [], [], [], 0, [], []), (53, [(0, (2, 0, 0, [4])), (1, (0, -2147483648, 2147483647, [])), (2, (0, 0, 9, [])), (3, (0, -2, 23, []))], [], (0, 0), [(0, 0, 99993), (1, 2, 10), (0, 0, 99947), (2, 3, -2), (0, 0, 100000)], [(3, 2, -1000000000000, 23)], [], [], 0, [], []), (123, [(0, (2, 0, 0, [4])), (1, (0, -2147483648, 2147483647, [])), (2, (0, 0, 25, []))], [], (0, 0), [(0, 0, 99877), (1, 2, 25), (0, 0, 100000), (0, 0, 0), (0, 0, 0)], [], [], [], 0, [], [])]
def t_La_sweep_ct : ct_L := [(1, 233, e_La_countCrossings), (1, 236, e_La_sortLayer), (1, 239, e_La_setPlaces), (288, 219, e_acp_31), (357, 219, e_acp_32)]
set_option maxRecDepth 100000 in
theorem c_La_sweep {l : Launch} {D : va_G} {kA : Nat → ClassId} (h_La_countCrossings : ct_ok l D kA GG y_La_countCrossings z_La_countCrossings e_La_countCrossings) (h_La_setPlaces : ct_ok l D kA GG y_La_setPlaces z_La_setPlaces e_La_setPlaces) (h_La_sortLayer : ct_ok l D kA GG y_La_sortLayer z_La_sortLayer e_La_sortLayer) : ct_ok l D kA GG y_La_sweep z_La_sweep e_La_sweep := chk_all_ok (FT := [(22, 4, 2), (26, 4, 3), (51, 4, 11), (57, 4, 13)]) (PT := []) (CT := t_La_sweep_ct) (KT := []) (NT := []) (AN := n_La_sweep_an) (OT := [o_La_sweep_0, o_La_sweep_1, o_La_sweep_2]) 5 412 (List.forall_mem_cons.mpr ⟨oo_La_sweep_0, List.forall_mem_cons.mpr ⟨oo_La_sweep_1, List.forall_mem_cons.mpr ⟨oo_La_sweep_2, List.forall_mem_nil _⟩⟩⟩) (by decide +kernel) ⟨List.forall_mem_cons.mpr ⟨gf_La_22, List.forall_mem_cons.mpr ⟨gf_La_26, List.forall_mem_cons.mpr ⟨gf_La_51, List.forall_mem_cons.mpr ⟨gf_La_57, List.forall_mem_nil _⟩⟩⟩⟩, List.forall_mem_nil _, List.forall_mem_cons.mpr ⟨cl_virtual (y := y_La_countCrossings) (ci := 4) rfl rfl ⟨_, _, rfl⟩ (by decide +kernel) h_La_countCrossings wm_1432 wm_18 wm_1429 wm_1431 wv_5_14 ⟨by decide, by decide, by decide +kernel⟩ (by decide), List.forall_mem_cons.mpr ⟨cl_virtual (y := y_La_sortLayer) (ci := 4) rfl rfl ⟨_, _, rfl⟩ (by decide +kernel) h_La_sortLayer wm_1436 wm_18 wm_1433 wm_1435 wv_5_15 ⟨by decide, by decide, by decide +kernel⟩ (by decide), List.forall_mem_cons.mpr ⟨cl_virtual (y := y_La_setPlaces) (ci := 4) rfl rfl ⟨_, _, rfl⟩ (by decide +kernel) h_La_setPlaces wm_1440 wm_18 wm_1437 wm_1439 wv_6_0 ⟨by decide, by decide, by decide +kernel⟩ (by decide), List.forall_mem_cons.mpr ⟨cl_copy rfl rfl (by decide) (by decide) (by decide) wm_1387 wm_750 wm_749 wm_15, List.forall_mem_cons.mpr ⟨cl_copy rfl rfl (by decide) (by decide) (by decide) wm_1387 wm_750 wm_749 wm_15, List.forall_mem_nil _⟩⟩⟩⟩⟩, List.forall_mem_nil _, List.forall_mem_nil _, GG_pl⟩ (by decide +kernel)
def o_Ne_copyFrom_0 : or_T := (57, 10, [(2, (0, 0, 72, [])), (3, (0, 0, 72, [])), (5, (0, 0, 0, [])), (7, (0, 0, 0, [])), (8, (0, 2, 2, [])), (9, (0, 0, 144, []))], [(3, [9, 8, 3], []), (7, [2, 3], [3])], [], [], [(21, [5, 9], [144]), (21, [7, 9], [144])], [], [(2, 3, 0, 4294967296)])
theorem oo_Ne_copyFrom_0 {kA : Nat → ClassId} : or_ok kA GG o_Ne_copyFrom_0 := by
  intro A ta ws vs hD hth hl hk hds hf
  have hl : vs.length = 10 := hl
  have hk : ∀ q ∈ ([(2, (0, 0, 72, [])), (3, (0, 0, 72, [])), (5, (0, 0, 0, [])), (7, (0, 0, 0, [])), (8, (0, 2, 2, [])), (9, (0, 0, 144, []))] : List (Nat × tv_T)), tv_ok ta q.2 (n_v vs q.1) := hk
  obtain ⟨t2, hk⟩ := List.forall_mem_cons.mp hk
  have t2 : tv_ok ta (0, 0, 72, []) (n_v vs 2) := t2
  have k2 : 0 ≤ v_iv (n_v vs 2) ∧ v_iv (n_v vs 2) ≤ 72 := tv_rng t2
  obtain ⟨t3, hk⟩ := List.forall_mem_cons.mp hk
  have t3 : tv_ok ta (0, 0, 72, []) (n_v vs 3) := t3
  have k3 : 0 ≤ v_iv (n_v vs 3) ∧ v_iv (n_v vs 3) ≤ 72 := tv_rng t3
  obtain ⟨t5, hk⟩ := List.forall_mem_cons.mp hk
  have t5 : tv_ok ta (0, 0, 0, []) (n_v vs 5) := t5
  have k5 : 0 ≤ v_iv (n_v vs 5) ∧ v_iv (n_v vs 5) ≤ 0 := tv_rng t5
  obtain ⟨t7, hk⟩ := List.forall_mem_cons.mp hk
  have t7 : tv_ok ta (0, 0, 0, []) (n_v vs 7) := t7
  have k7 : 0 ≤ v_iv (n_v vs 7) ∧ v_iv (n_v vs 7) ≤ 0 := tv_rng t7
  obtain ⟨t8, hk⟩ := List.forall_mem_cons.mp hk
  have t8 : tv_ok ta (0, 2, 2, []) (n_v vs 8) := t8
  have k8 : 2 ≤ v_iv (n_v vs 8) ∧ v_iv (n_v vs 8) ≤ 2 := tv_rng t8
  obtain ⟨t9, hk⟩ := List.forall_mem_cons.mp hk
  have t9 : tv_ok ta (0, 0, 144, []) (n_v vs 9) := t9
  have k9 : 0 ≤ v_iv (n_v vs 9) ∧ v_iv (n_v vs 9) ≤ 144 := tv_rng t9
  have hds : ∀ q ∈ ([(2, 3, 0, 4294967296)] : List of_T), n_iv vs q.2.1 + q.2.2.1 ≤ n_iv vs q.1 ∧ n_iv vs q.1 ≤ n_iv vs q.2.1 + q.2.2.2 := hds
  obtain ⟨d0, hds⟩ := List.forall_mem_cons.mp hds
  have d0 : v_iv (n_v vs 3) + 0 ≤ v_iv (n_v vs 2) ∧ v_iv (n_v vs 2) ≤ v_iv (n_v vs 3) + 4294967296 := d0
  have hf : fc_ok [(3, [9, 8, 3], []), (7, [2, 3], [3])] ta ws vs := hf
  obtain ⟨f0, hf⟩ := fc_un (show (3 : Nat) < 100 from by decide) hf
  have f0 : v_iv (n_v vs 9) = v_iv (n_v vs 8) * v_iv (n_v vs 3) := f0
  rw [show v_iv (n_v vs 8) = 2 from by omega] at f0
  obtain ⟨f1, hf⟩ := fc_un (show (7 : Nat) < 100 from by decide) hf
  have f1 : v_iv (n_v vs 3) ≤ v_iv (n_v vs 2) := f1
  have nf0 : fc_1 (21, [5, 9], [144]) ws (vs) := by
    refine ⟨fun n hn => ?_, ?_⟩
    · have hn : n ∈ [5, 9] := hn
      rw [hl]
      simp only [List.mem_cons, List.not_mem_nil, or_false] at hn
      show n < 10; omega
    · show v_iv (n_v vs 5) + v_iv (n_v vs 9) ≤ 144
      omega
  have nf1 : fc_1 (21, [7, 9], [144]) ws (vs) := by
    refine ⟨fun n hn => ?_, ?_⟩
    · have hn : n ∈ [7, 9] := hn
      rw [hl]
      simp only [List.mem_cons, List.not_mem_nil, or_false] at hn
      show n < 10; omega
    · show v_iv (n_v vs 7) + v_iv (n_v vs 9) ≤ 144
      omega
  refine ⟨(fun _ h => (by cases h)), [], trivial, ?_, (fun _ h => (by cases h))⟩
  rw [List.append_nil]
  exact List.forall_mem_cons.mpr ⟨⟨show (21 : Nat) < 100 from by decide, nf0⟩, List.forall_mem_cons.mpr ⟨⟨show (21 : Nat) < 100 from by decide, nf1⟩, (fun _ h => (by cases h))⟩⟩
def o_Ne_copyFrom_1 : or_T := (74, 15, [(11, (0, 0, 0, [])), (13, (0, 0, 0, [])), (14, (0, 0, 24, []))], [], [], [], [(21, [11, 14], [25]), (21, [13, 14], [25])], [], [])
theorem oo_Ne_copyFrom_1 {kA : Nat → ClassId} : or_ok kA GG o_Ne_copyFrom_1 := by
  intro A ta ws vs hD hth hl hk hds hf
  have hl : vs.length = 15 := hl
  have hk : ∀ q ∈ ([(11, (0, 0, 0, [])), (13, (0, 0, 0, [])), (14, (0, 0, 24, []))] : List (Nat × tv_T)), tv_ok ta q.2 (n_v vs q.1) := hk
  obtain ⟨t11, hk⟩ := List.forall_mem_cons.mp hk
  have t11 : tv_ok ta (0, 0, 0, []) (n_v vs 11) := t11
  have k11 : 0 ≤ v_iv (n_v vs 11) ∧ v_iv (n_v vs 11) ≤ 0 := tv_rng t11
  obtain ⟨t13, hk⟩ := List.forall_mem_cons.mp hk
  have t13 : tv_ok ta (0, 0, 0, []) (n_v vs 13) := t13
  have k13 : 0 ≤ v_iv (n_v vs 13) ∧ v_iv (n_v vs 13) ≤ 0 := tv_rng t13
  obtain ⟨t14, hk⟩ := List.forall_mem_cons.mp hk
  have t14 : tv_ok ta (0, 0, 24, []) (n_v vs 14) := t14
  have k14 : 0 ≤ v_iv (n_v vs 14) ∧ v_iv (n_v vs 14) ≤ 24 := tv_rng t14
  have nf0 : fc_1 (21, [11, 14], [25]) ws (vs) := by
    refine ⟨fun n hn => ?_, ?_⟩
    · have hn : n ∈ [11, 14] := hn
      rw [hl]
      simp only [List.mem_cons, List.not_mem_nil, or_false] at hn
      show n < 15; omega
    · show v_iv (n_v vs 11) + v_iv (n_v vs 14) ≤ 25
      omega
  have nf1 : fc_1 (21, [13, 14], [25]) ws (vs) := by
    refine ⟨fun n hn => ?_, ?_⟩
    · have hn : n ∈ [13, 14] := hn
      rw [hl]
      simp only [List.mem_cons, List.not_mem_nil, or_false] at hn
      show n < 15; omega
    · show v_iv (n_v vs 13) + v_iv (n_v vs 14) ≤ 25
      omega
  refine ⟨(fun _ h => (by cases h)), [], trivial, ?_, (fun _ h => (by cases h))⟩
  rw [List.append_nil]
  exact List.forall_mem_cons.mpr ⟨⟨show (21 : Nat) < 100 from by decide, nf0⟩, List.forall_mem_cons.mpr ⟨⟨show (21 : Nat) < 100 from by decide, nf1⟩, (fun _ h => (by cases h))⟩⟩
def n_Ne_copyFrom_an : List an_T := [(10, [(0, (2, 0, 0, [5])), (1, (2, 0, 0, [5])), (2, (0, 0, 72, []))], [], (0, 0), [(0, 0, 99990), (1, 2, 72), (0, 0, 100000)], [], [], [], 0, [], [])]
def t_Ne_copyFrom_ct : ct_L := [(19, 73, e_Ne_begin_at_Ne), (97, 80, e_Ne_join_at_Ne), (174, 100, e_acp_33), (174, 100, e_acp_35), (174, 100, e_acp_36), (174, 100, e_acp_37), (174, 100, e_acp_38), (174, 100, e_acp_39), (174, 100, e_acp_40), (174, 100, e_acp_41), (174, 100, e_acp_42), (174, 100, e_acp_43), (174, 100, e_acp_44), (174, 100, e_acp_45), (174, 100, e_acp_46), (174, 100, e_acp_47), (174, 100, e_acp_48), (174, 100, e_acp_49), (174, 100, e_acp_50), (174, 100, e_acp_51), (174, 100, e_acp_52), (174, 100, e_acp_53), (174, 100, e_acp_54), (225, 100, e_acp_34)]
set_option maxRecDepth 100000 in
theorem c_Ne_copyFrom {l : Launch} {D : va_G} {kA : Nat → ClassId} (h_Ne_begin_at_Ne : ct_ok l D kA GG y_Ne_begin_at_Ne z_Ne_begin_at_Ne e_Ne_begin_at_Ne) (h_Ne_join_at_Ne : ct_ok l D kA GG y_Ne_join_at_Ne z_Ne_join_at_Ne e_Ne_join_at_Ne) : ct_ok l D kA GG y_Ne_copyFrom z_Ne_copyFrom e_Ne_copyFrom := chk_all_ok (FT := [(28, 5, 5), (31, 5, 6), (34, 5, 7), (37, 5, 8), (46, 5, 11), (49, 5, 12)]) (PT := []) (CT := t_Ne_copyFrom_ct) (KT := []) (NT := []) (AN := n_Ne_copyFrom_an) (OT := [o_Ne_copyFrom_0, o_Ne_copyFrom_1]) 3 200 (List.forall_mem_cons.mpr ⟨oo_Ne_copyFrom_0, List.forall_mem_cons.mpr ⟨oo_Ne_copyFrom_1, List.forall_mem_nil _⟩⟩) (by decide +kernel) ⟨List.forall_mem_cons.mpr ⟨gf_Ne_28, List.forall_mem_cons.mpr ⟨gf_Ne_31, List.forall_mem_cons.mpr ⟨gf_Ne_34, List.forall_mem_cons.mpr ⟨gf_Ne_37, List.forall_mem_cons.mpr ⟨gf_Ne_46, List.forall_mem_cons.mpr ⟨gf_Ne_49, List.forall_mem_nil _⟩⟩⟩⟩⟩⟩, List.forall_mem_nil _, List.forall_mem_cons.mpr ⟨cl_virtual (y := y_Ne_begin_at_Ne) (ci := 5) rfl rfl ⟨_, _, rfl⟩ (by decide +kernel) h_Ne_begin_at_Ne wm_1060 wm_6 wm_1057 wm_1058 wm_1059 ⟨by decide, by decide, by decide +kernel⟩ (by decide), List.forall_mem_cons.mpr ⟨cl_virtual (y := y_Ne_join_at_Ne) (ci := 5) rfl rfl ⟨_, _, rfl⟩ (by decide +kernel) h_Ne_join_at_Ne wm_1065 wm_6 wm_1062 wm_1063 wm_1064 ⟨by decide, by decide, by decide +kernel⟩ (by decide), List.forall_mem_cons.mpr ⟨cl_copy rfl rfl (by decide) (by decide) (by decide) wm_1513 wm_750 wm_749 wm_15, List.forall_mem_cons.mpr ⟨cl_copy rfl rfl (by decide) (by decide) (by decide) wm_1513 wm_750 wm_749 wm_15, List.forall_mem_cons.mpr ⟨cl_copy rfl rfl (by decide) (by decide) (by decide) wm_1513 wm_750 wm_749 wm_15, List.forall_mem_cons.mpr ⟨cl_copy rfl rfl (by decide) (by decide) (by decide) wm_1513 wm_750 wm_749 wm_15, List.forall_mem_cons.mpr ⟨cl_copy rfl rfl (by decide) (by decide) (by decide) wm_1513 wm_750 wm_749 wm_15, List.forall_mem_cons.mpr ⟨cl_copy rfl rfl (by decide) (by decide) (by decide) wm_1513 wm_750 wm_749 wm_15, List.forall_mem_cons.mpr ⟨cl_copy rfl rfl (by decide) (by decide) (by decide) wm_1513 wm_750 wm_749 wm_15, List.forall_mem_cons.mpr ⟨cl_copy rfl rfl (by decide) (by decide) (by decide) wm_1513 wm_750 wm_749 wm_15, List.forall_mem_cons.mpr ⟨cl_copy rfl rfl (by decide) (by decide) (by decide) wm_1513 wm_750 wm_749 wm_15, List.forall_mem_cons.mpr ⟨cl_copy rfl rfl (by decide) (by decide) (by decide) wm_1513 wm_750 wm_749 wm_15, List.forall_mem_cons.mpr ⟨cl_copy rfl rfl (by decide) (by decide) (by decide) wm_1513 wm_750 wm_749 wm_15, List.forall_mem_cons.mpr ⟨cl_copy rfl rfl (by decide) (by decide) (by decide) wm_1513 wm_750 wm_749 wm_15, List.forall_mem_cons.mpr ⟨cl_copy rfl rfl (by decide) (by decide) (by decide) wm_1513 wm_750 wm_749 wm_15, List.forall_mem_cons.mpr ⟨cl_copy rfl rfl (by decide) (by decide) (by decide) wm_1513 wm_750 wm_749 wm_15, List.forall_mem_cons.mpr ⟨cl_copy rfl rfl (by decide) (by decide) (by decide) wm_1513 wm_750 wm_749 wm_15, List.forall_mem_cons.mpr ⟨cl_copy rfl rfl (by decide) (by decide) (by decide) wm_1513 wm_750 wm_749 wm_15, List.forall_mem_cons.mpr ⟨cl_copy rfl rfl (by decide) (by decide) (by decide) wm_1513 wm_750 wm_749 wm_15, List.forall_mem_cons.mpr ⟨cl_copy rfl rfl (by decide) (by decide) (by decide) wm_1513 wm_750 wm_749 wm_15, List.forall_mem_cons.mpr ⟨cl_copy rfl rfl (by decide) (by decide) (by decide) wm_1513 wm_750 wm_749 wm_15, List.forall_mem_cons.mpr ⟨cl_copy rfl rfl (by decide) (by decide) (by decide) wm_1513 wm_750 wm_749 wm_15, List.forall_mem_cons.mpr ⟨cl_copy rfl rfl (by decide) (by decide) (by decide) wm_1513 wm_750 wm_749 wm_15, List.forall_mem_cons.mpr ⟨cl_copy rfl rfl (by decide) (by decide) (by decide) wm_1513 wm_750 wm_749 wm_15, List.forall_mem_nil _⟩⟩⟩⟩⟩⟩⟩⟩⟩⟩⟩⟩⟩⟩⟩⟩⟩⟩⟩⟩⟩⟩⟩⟩, List.forall_mem_nil _, List.forall_mem_nil _, GG_pl⟩ (by decide +kernel)
def n_Pl_findWorst_an : List an_T := [(57, [(0, (2, 0, 0, [6])), (1, (0, 0, 31, [])), (2, (0, 1, 32, [])), (3, (0, -2147483648, 2147483647, [])), (4, (0, -2147483648, 2147483647, [])), (5, (1, 1, 2147483647, [])), (7, (1, 1, 2147483647, [])), (9, (0, 0, 32, []))], [], (0, 0), [(0, 0, 99943), (1, 7, 32), (0, 0, 100000)], [], [], [], 0, [], [])]
def t_Pl_findWorst_ct : ct_L := [(42, 130, e_jMath_min1_v24), (51, 150, e_jMath_max1_v1), (108, 150, e_jMath_max1_v17), (117, 150, e_jMath_max1_v1), (285, 207, e_jMath_max2_v49), (312, 210, e_jMath_min2_v50)]
set_option maxRecDepth 100000 in
theorem c_Pl_findWorst {l : Launch} {D : va_G} {kA : Nat → ClassId} : ct_ok l D kA GG y_Pl_findWorst z_Pl_findWorst e_Pl_findWorst := chk_all_ok (FT := [(45, 6, 10), (51, 6, 12), (54, 6, 13), (58, 6, 14)]) (PT := [(54, 6, 13, .long), (58, 6, 14, .long)]) (CT := t_Pl_findWorst_ct) (KT := []) (NT := []) (AN := n_Pl_findWorst_an) (OT := []) 3 336 (List.forall_mem_nil _) (by decide +kernel) ⟨List.forall_mem_cons.mpr ⟨gf_Pl_45, List.forall_mem_cons.mpr ⟨gf_Pl_51, List.forall_mem_cons.mpr ⟨gf_Pl_54, List.forall_mem_cons.mpr ⟨gf_Pl_58, List.forall_mem_nil _⟩⟩⟩⟩, List.forall_mem_cons.mpr ⟨pf_Pl_54, List.forall_mem_cons.mpr ⟨pf_Pl_58, List.forall_mem_nil _⟩⟩, List.forall_mem_cons.mpr ⟨cl_static (y := y_jMath_min1) c_jMath_min1_v24 wm_658 wm_10 wm_1716 wm_657 ⟨by decide, by decide, by decide +kernel⟩ (by decide), List.forall_mem_cons.mpr ⟨cl_static (y := y_jMath_max1) c_jMath_max1_v1 wm_836 wm_10 wm_1714 wm_835 ⟨by decide, by decide, by decide +kernel⟩ (by decide), List.forall_mem_cons.mpr ⟨cl_static (y := y_jMath_max1) c_jMath_max1_v17 wm_836 wm_10 wm_1714 wm_835 ⟨by decide, by decide, by decide +kernel⟩ (by decide), List.forall_mem_cons.mpr ⟨cl_static (y := y_jMath_max1) c_jMath_max1_v1 wm_836 wm_10 wm_1714 wm_835 ⟨by decide, by decide, by decide +kernel⟩ (by decide), List.forall_mem_cons.mpr ⟨cl_static (y := y_jMath_max2) c_jMath_max2_v49 wm_1750 wm_10 wm_1748 wm_1749 ⟨by decide, by decide, by decide +kernel⟩ (by decide), List.forall_mem_cons.mpr ⟨cl_static (y := y_jMath_min2) c_jMath_min2_v50 wm_1753 wm_10 wm_1751 wm_1752 ⟨by decide, by decide, by decide +kernel⟩ (by decide), List.forall_mem_nil _⟩⟩⟩⟩⟩⟩, List.forall_mem_nil _, List.forall_mem_nil _, GG_pl⟩ (by decide +kernel)
def n_Pl_placeOver_an : List an_T := [(4, [(0, (2, 0, 0, [6])), (1, (0, 0, 23, [])), (2, (0, 0, 24, [])), (3, (0, 0, 24, []))], [], (0, 0), [(0, 0, 99996), (1, 3, 24), (0, 0, 100000)], [(1, 2, -1000000000000, 23), (1, 3, -1000000000000, 23), (2, 3, -1000000000000, 0)], [((0, 0), (2, 0, 0, [3])), ((0, 1), (2, 0, 0, [0]))], [], 0, [], [])]
def t_Pl_placeOver_ct : ct_L := [(1, 123, e_Pl_placeSideBySide), (315, 141, e_jMath_floorDiv1_v39)]
set_option maxRecDepth 100000 in
theorem c_Pl_placeOver {l : Launch} {D : va_G} {kA : Nat → ClassId} (h_Pl_placeSideBySide : ct_ok l D kA GG y_Pl_placeSideBySide z_Pl_placeSideBySide e_Pl_placeSideBySide) : ct_ok l D kA GG y_Pl_placeOver z_Pl_placeOver e_Pl_placeOver := chk_all_ok (FT := [(9, 6, 0), (15, 6, 1), (29, 6, 5), (32, 6, 6), (35, 6, 7), (74, 3, 0), (127, 0, 2)]) (PT := []) (CT := t_Pl_placeOver_ct) (KT := []) (NT := []) (AN := n_Pl_placeOver_an) (OT := []) 3 276 (List.forall_mem_nil _) (by decide +kernel) ⟨List.forall_mem_cons.mpr ⟨gf_Pl_9, List.forall_mem_cons.mpr ⟨gf_Pl_15, List.forall_mem_cons.mpr ⟨gf_Pl_29, List.forall_mem_cons.mpr ⟨gf_Pl_32, List.forall_mem_cons.mpr ⟨gf_Pl_35, List.forall_mem_cons.mpr ⟨gf_Pl_74, List.forall_mem_cons.mpr ⟨gf_Pl_127, List.forall_mem_nil _⟩⟩⟩⟩⟩⟩⟩, List.forall_mem_nil _, List.forall_mem_cons.mpr ⟨cl_virtual (y := y_Pl_placeSideBySide) (ci := 6) rfl rfl ⟨_, _, rfl⟩ (by decide +kernel) h_Pl_placeSideBySide wm_1707 wm_21 wm_1704 wm_1706 wv_7_10 ⟨by decide, by decide, by decide +kernel⟩ (by decide), List.forall_mem_cons.mpr ⟨cl_static (y := y_jMath_floorDiv1) c_jMath_floorDiv1_v39 wm_1617 wm_10 wm_1715 wm_1616 ⟨by decide, by decide, by decide +kernel⟩ (by decide), List.forall_mem_nil _⟩⟩, List.forall_mem_nil _, List.forall_mem_nil _, GG_pl⟩ (by decide +kernel)
def o_Pl_tryRing_at_k1_0 : or_T := (48, 12, [(1, (0, 1, 1, [])), (6, (0, 8, 8, [])), (7, (0, 1, 1, [])), (9, (0, 0, 0, [])), (11, (0, 0, 0, []))], [(101, [0, 3], [8]), (7, [1, 7], [0]), (7, [1, 6], [5])], [], [], [(21, [9, 7], [24]), (21, [11, 7], [24])], [], [])
theorem oo_Pl_tryRing_at_k1_0 {kA : Nat → ClassId} : or_ok kA GG o_Pl_tryRing_at_k1_0 := by
  intro A ta ws vs hD hth hl hk hds hf
  have hl : vs.length = 12 := hl
  have hk : ∀ q ∈ ([(1, (0, 1, 1, [])), (6, (0, 8, 8, [])), (7, (0, 1, 1, [])), (9, (0, 0, 0, [])), (11, (0, 0, 0, []))] : List (Nat × tv_T)), tv_ok ta q.2 (n_v vs q.1) := hk
  obtain ⟨t1, hk⟩ := List.forall_mem_cons.mp hk
  have t1 : tv_ok ta (0, 1, 1, []) (n_v vs 1) := t1
  have k1 : 1 ≤ v_iv (n_v vs 1) ∧ v_iv (n_v vs 1) ≤ 1 := tv_rng t1
  obtain ⟨t6, hk⟩ := List.forall_mem_cons.mp hk
  have t6 : tv_ok ta (0, 8, 8, []) (n_v vs 6) := t6
  have k6 : 8 ≤ v_iv (n_v vs 6) ∧ v_iv (n_v vs 6) ≤ 8 := tv_rng t6
  obtain ⟨t7, hk⟩ := List.forall_mem_cons.mp hk
  have t7 : tv_ok ta (0, 1, 1, []) (n_v vs 7) := t7
  have k7 : 1 ≤ v_iv (n_v vs 7) ∧ v_iv (n_v vs 7) ≤ 1 := tv_rng t7
  obtain ⟨t9, hk⟩ := List.forall_mem_cons.mp hk
  have t9 : tv_ok ta (0, 0, 0, []) (n_v vs 9) := t9
  have k9 : 0 ≤ v_iv (n_v vs 9) ∧ v_iv (n_v vs 9) ≤ 0 := tv_rng t9
  obtain ⟨t11, hk⟩ := List.forall_mem_cons.mp hk
  have t11 : tv_ok ta (0, 0, 0, []) (n_v vs 11) := t11
  have k11 : 0 ≤ v_iv (n_v vs 11) ∧ v_iv (n_v vs 11) ≤ 0 := tv_rng t11
  have hf : fc_ok [(101, [0, 3], [8]), (7, [1, 7], [0]), (7, [1, 6], [5])] ta ws vs := hf
  obtain ⟨ta1, w1, le1, ⟨_, s1⟩, hf⟩ := fc_us (show ¬ (101 : Nat) < 100 from by decide) hf
  have s1 : (∀ b j, w_el ws b j = w_el w1 b j) ∧ ∀ b j, w_fd ws b j = if b = v_ad (n_v vs 0) ∧ j = 8 then n_v vs 3 else w_fd w1 b j := s1
  obtain ⟨f1, hf⟩ := fc_un (show (7 : Nat) < 100 from by decide) hf
  have f1 : v_iv (n_v vs 1) = v_iv (n_v vs 7) := f1
  obtain ⟨f2, hf⟩ := fc_un (show (7 : Nat) < 100 from by decide) hf
  have f2 : v_iv (n_v vs 1) ≤ v_iv (n_v vs 6) := f2
  have nf0 : fc_1 (21, [9, 7], [24]) ws (vs) := by
    refine ⟨fun n hn => ?_, ?_⟩
    · have hn : n ∈ [9, 7] := hn
      rw [hl]
      simp only [List.mem_cons, List.not_mem_nil, or_false] at hn
      show n < 12; omega
    · show v_iv (n_v vs 9) + v_iv (n_v vs 7) ≤ 24
      omega
  have nf1 : fc_1 (21, [11, 7], [24]) ws (vs) := by
    refine ⟨fun n hn => ?_, ?_⟩
    · have hn : n ∈ [11, 7] := hn
      rw [hl]
      simp only [List.mem_cons, List.not_mem_nil, or_false] at hn
      show n < 12; omega
    · show v_iv (n_v vs 11) + v_iv (n_v vs 7) ≤ 24
      omega
  refine ⟨(fun _ h => (by cases h)), [], trivial, ?_, (fun _ h => (by cases h))⟩
  rw [List.append_nil]
  exact List.forall_mem_cons.mpr ⟨⟨show (21 : Nat) < 100 from by decide, nf0⟩, List.forall_mem_cons.mpr ⟨⟨show (21 : Nat) < 100 from by decide, nf1⟩, (fun _ h => (by cases h))⟩⟩
def n_Pl_tryRing_at_k1_an : List an_T := [(55, [(0, (2, 0, 0, [6])), (1, (0, 1, 1, [])), (2, (0, 1, 1, [])), (3, (0, 0, 0, [])), (4, (0, 1, 24, []))], [], (0, 0), [(0, 0, 99945), (1, 4, 24), (0, 0, 100000)], [(1, 2, -1000000000000, 0), (1, 3, -1000000000000, 1), (1, 4, -1000000000000, 0), (2, 1, -1000000000000, 0), (2, 3, -1000000000000, 1), (2, 4, -1000000000000, 0), (3, 1, -1000000000000, -1), (3, 2, -1000000000000, -1), (3, 4, -1000000000000, -1)], [((0, 0), (2, 0, 0, [3]))], [], 0, [], [])]
def t_Pl_tryRing_at_k1_ct : ct_L := [(1, 227, e_Pl_crossingsAt), (147, 175, e_acp_55), (325, 213, e_Pl_tryRing_at_k2)]
set_option maxRecDepth 100000 in
theorem c_Pl_tryRing_at_k1 {l : Launch} {D : va_G} {kA : Nat → ClassId} (h_Pl_crossingsAt : ct_ok l D kA GG y_Pl_crossingsAt z_Pl_crossingsAt e_Pl_crossingsAt) (h_Pl_tryRing_at_k2 : ct_ok l D kA GG y_Pl_tryRing_at_k2 z_Pl_tryRing_at_k2 e_Pl_tryRing_at_k2) : ct_ok l D kA GG y_Pl_tryRing_at_k1 z_Pl_tryRing_at_k1 e_Pl_tryRing_at_k1 := chk_all_ok (FT := [(9, 6, 0), (19, 6, 2), (23, 6, 3), (38, 6, 8), (74, 3, 0)]) (PT := [(38, 6, 8, .int)]) (CT := t_Pl_tryRing_at_k1_ct) (KT := []) (NT := []) (AN := n_Pl_tryRing_at_k1_an) (OT := [o_Pl_tryRing_at_k1_0]) 3 264 (List.forall_mem_cons.mpr ⟨oo_Pl_tryRing_at_k1_0, List.forall_mem_nil _⟩) (by decide +kernel) ⟨List.forall_mem_cons.mpr ⟨gf_Pl_9, List.forall_mem_cons.mpr ⟨gf_Pl_19, List.forall_mem_cons.mpr ⟨gf_Pl_23, List.forall_mem_cons.mpr ⟨gf_Pl_38, List.forall_mem_cons.mpr ⟨gf_Pl_74, List.forall_mem_nil _⟩⟩⟩⟩⟩, List.forall_mem_cons.mpr ⟨pf_Pl_38, List.forall_mem_nil _⟩, List.forall_mem_cons.mpr ⟨cl_virtual (y := y_Pl_crossingsAt) (ci := 6) rfl rfl ⟨_, _, rfl⟩ (by decide +kernel) h_Pl_crossingsAt wm_1770 wm_21 wm_1767 wm_1769 wv_8_6 ⟨by decide, by decide, by decide +kernel⟩ (by decide), List.forall_mem_cons.mpr ⟨cl_copy rfl rfl (by decide) (by decide) (by decide) wm_1735 wm_750 wm_749 wm_15, List.forall_mem_cons.mpr ⟨cl_virtual (y := y_Pl_tryRing_at_k2) (ci := 6) rfl rfl ⟨_, _, rfl⟩ (by decide +kernel) h_Pl_tryRing_at_k2 wm_1766 wm_21 wm_1763 wm_1765 wv_8_5 ⟨by decide, by decide, by decide +kernel⟩ (by decide), List.forall_mem_nil _⟩⟩⟩, List.forall_mem_nil _, List.forall_mem_nil _, GG_pl⟩ (by decide +kernel)
def o_Pl_tryRing_at_k2_0 : or_T := (48, 12, [(1, (0, 2, 2, [])), (6, (0, 8, 8, [])), (7, (0, 2, 2, [])), (9, (0, 0, 0, [])), (11, (0, 0, 0, []))], [(101, [0, 3], [8]), (7, [1, 7], [0]), (7, [1, 6], [5])], [], [], [(21, [9, 7], [24]), (21, [11, 7], [24])], [], [])
theorem oo_Pl_tryRing_at_k2_0 {kA : Nat → ClassId} : or_ok kA GG o_Pl_tryRing_at_k2_0 := by
  intro A ta ws vs hD hth hl hk hds hf
  have hl : vs.length = 12 := hl
  have hk : ∀ q ∈ ([(1, (0, 2, 2, [])), (6, (0, 8, 8, [])), (7, (0, 2, 2, [])), (9, (0, 0, 0, [])), (11, (0, 0, 0, []))] : List (Nat × tv_T)), tv_ok ta q.2 (n_v vs q.1) := hk
  obtain ⟨t1, hk⟩ := List.forall_mem_cons.mp hk
  have t1 : tv_ok ta (0, 2, 2, []) (n_v vs 1) := t1
  have k1 : 2 ≤ v_iv (n_v vs 1) ∧ v_iv (n_v vs 1) ≤ 2 := tv_rng t1
  obtain ⟨t6, hk⟩ := List.forall_mem_cons.mp hk
  have t6 : tv_ok ta (0, 8, 8, []) (n_v vs 6) := t6
  have k6 : 8 ≤ v_iv (n_v vs 6) ∧ v_iv (n_v vs 6) ≤ 8 := tv_rng t6
  obtain ⟨t7, hk⟩ := List.forall_mem_cons.mp hk
  have t7 : tv_ok ta (0, 2, 2, []) (n_v vs 7) := t7
  have k7 : 2 ≤ v_iv (n_v vs 7) ∧ v_iv (n_v vs 7) ≤ 2 := tv_rng t7
  obtain ⟨t9, hk⟩ := List.forall_mem_cons.mp hk
  have t9 : tv_ok ta (0, 0, 0, []) (n_v vs 9) := t9
  have k9 : 0 ≤ v_iv (n_v vs 9) ∧ v_iv (n_v vs 9) ≤ 0 := tv_rng t9
  obtain ⟨t11, hk⟩ := List.forall_mem_cons.mp hk
  have t11 : tv_ok ta (0, 0, 0, []) (n_v vs 11) := t11
  have k11 : 0 ≤ v_iv (n_v vs 11) ∧ v_iv (n_v vs 11) ≤ 0 := tv_rng t11
  have hf : fc_ok [(101, [0, 3], [8]), (7, [1, 7], [0]), (7, [1, 6], [5])] ta ws vs := hf
  obtain ⟨ta1, w1, le1, ⟨_, s1⟩, hf⟩ := fc_us (show ¬ (101 : Nat) < 100 from by decide) hf
  have s1 : (∀ b j, w_el ws b j = w_el w1 b j) ∧ ∀ b j, w_fd ws b j = if b = v_ad (n_v vs 0) ∧ j = 8 then n_v vs 3 else w_fd w1 b j := s1
  obtain ⟨f1, hf⟩ := fc_un (show (7 : Nat) < 100 from by decide) hf
  have f1 : v_iv (n_v vs 1) = v_iv (n_v vs 7) := f1
  obtain ⟨f2, hf⟩ := fc_un (show (7 : Nat) < 100 from by decide) hf
  have f2 : v_iv (n_v vs 1) ≤ v_iv (n_v vs 6) := f2
  have nf0 : fc_1 (21, [9, 7], [24]) ws (vs) := by
    refine ⟨fun n hn => ?_, ?_⟩
    · have hn : n ∈ [9, 7] := hn
      rw [hl]
      simp only [List.mem_cons, List.not_mem_nil, or_false] at hn
      show n < 12; omega
    · show v_iv (n_v vs 9) + v_iv (n_v vs 7) ≤ 24
      omega
  have nf1 : fc_1 (21, [11, 7], [24]) ws (vs) := by
    refine ⟨fun n hn => ?_, ?_⟩
    · have hn : n ∈ [11, 7] := hn
      rw [hl]
      simp only [List.mem_cons, List.not_mem_nil, or_false] at hn
      show n < 12; omega
    · show v_iv (n_v vs 11) + v_iv (n_v vs 7) ≤ 24
      omega
  refine ⟨(fun _ h => (by cases h)), [], trivial, ?_, (fun _ h => (by cases h))⟩
  rw [List.append_nil]
  exact List.forall_mem_cons.mpr ⟨⟨show (21 : Nat) < 100 from by decide, nf0⟩, List.forall_mem_cons.mpr ⟨⟨show (21 : Nat) < 100 from by decide, nf1⟩, (fun _ h => (by cases h))⟩⟩
def n_Pl_tryRing_at_k2_an : List an_T := [(55, [(0, (2, 0, 0, [6])), (1, (0, 2, 2, [])), (2, (0, 0, 16777215, [])), (3, (0, -2147483648, 2147483646, [])), (4, (0, 1, 24, []))], [], (0, 0), [(0, 0, 99945), (1, 4, 24), (0, 0, 100000)], [(1, 2, -1000000000000, 2), (1, 4, -1000000000000, 1)], [((0, 0), (2, 0, 0, [3]))], [], 0, [], [])]
def t_Pl_tryRing_at_k2_ct : ct_L := [(1, 227, e_Pl_crossingsAt), (147, 175, e_acp_56), (325, 213, e_Pl_tryRing_at_k3)]
set_option maxRecDepth 100000 in
theorem c_Pl_tryRing_at_k2 {l : Launch} {D : va_G} {kA : Nat → ClassId} (h_Pl_crossingsAt : ct_ok l D kA GG y_Pl_crossingsAt z_Pl_crossingsAt e_Pl_crossingsAt) (h_Pl_tryRing_at_k3 : ct_ok l D kA GG y_Pl_tryRing_at_k3 z_Pl_tryRing_at_k3 e_Pl_tryRing_at_k3) : ct_ok l D kA GG y_Pl_tryRing_at_k2 z_Pl_tryRing_at_k2 e_Pl_tryRing_at_k2 := chk_all_ok (FT := [(9, 6, 0), (19, 6, 2), (23, 6, 3), (38, 6, 8), (74, 3, 0)]) (PT := [(38, 6, 8, .int)]) (CT := t_Pl_tryRing_at_k2_ct) (KT := []) (NT := []) (AN := n_Pl_tryRing_at_k2_an) (OT := [o_Pl_tryRing_at_k2_0]) 3 272 (List.forall_mem_cons.mpr ⟨oo_Pl_tryRing_at_k2_0, List.forall_mem_nil _⟩) (by decide +kernel) ⟨List.forall_mem_cons.mpr ⟨gf_Pl_9, List.forall_mem_cons.mpr ⟨gf_Pl_19, List.forall_mem_cons.mpr ⟨gf_Pl_23, List.forall_mem_cons.mpr ⟨gf_Pl_38, List.forall_mem_cons.mpr ⟨gf_Pl_74, List.forall_mem_nil _⟩⟩⟩⟩⟩, List.forall_mem_cons.mpr ⟨pf_Pl_38, List.forall_mem_nil _⟩, List.forall_mem_cons.mpr ⟨cl_virtual (y := y_Pl_crossingsAt) (ci := 6) rfl rfl ⟨_, _, rfl⟩ (by decide +kernel) h_Pl_crossingsAt wm_1770 wm_21 wm_1767 wm_1769 wv_8_6 ⟨by decide, by decide, by decide +kernel⟩ (by decide), List.forall_mem_cons.mpr ⟨cl_copy rfl rfl (by decide) (by decide) (by decide) wm_1735 wm_750 wm_749 wm_15, List.forall_mem_cons.mpr ⟨cl_virtual (y := y_Pl_tryRing_at_k3) (ci := 6) rfl rfl ⟨_, _, rfl⟩ (by decide +kernel) h_Pl_tryRing_at_k3 wm_1766 wm_21 wm_1763 wm_1765 wv_8_5 ⟨by decide, by decide, by decide +kernel⟩ (by decide), List.forall_mem_nil _⟩⟩⟩, List.forall_mem_nil _, List.forall_mem_nil _, GG_pl⟩ (by decide +kernel)
def o_Pl_tryRing_at_k3_0 : or_T := (48, 12, [(1, (0, 3, 3, [])), (6, (0, 8, 8, [])), (7, (0, 3, 3, [])), (9, (0, 0, 0, [])), (11, (0, 0, 0, []))], [(101, [0, 3], [8]), (7, [1, 7], [0]), (7, [1, 6], [5])], [], [], [(21, [9, 7], [24]), (21, [11, 7], [24])], [], [])
theorem oo_Pl_tryRing_at_k3_0 {kA : Nat → ClassId} : or_ok kA GG o_Pl_tryRing_at_k3_0 := by
  intro A ta ws vs hD hth hl hk hds hf
  have hl : vs.length = 12 := hl
  have hk : ∀ q ∈ ([(1, (0, 3, 3, [])), (6, (0, 8, 8, [])), (7, (0, 3, 3, [])), (9, (0, 0, 0, [])), (11, (0, 0, 0, []))] : List (Nat × tv_T)), tv_ok ta q.2 (n_v vs q.1) := hk
  obtain ⟨t1, hk⟩ := List.forall_mem_cons.mp hk
  have t1 : tv_ok ta (0, 3, 3, []) (n_v vs 1) := t1
  have k1 : 3 ≤ v_iv (n_v vs 1) ∧ v_iv (n_v vs 1) ≤ 3 := tv_rng t1
  obtain ⟨t6, hk⟩ := List.forall_mem_cons.mp hk
  have t6 : tv_ok ta (0, 8, 8, []) (n_v vs 6) := t6
  have k6 : 8 ≤ v_iv (n_v vs 6) ∧ v_iv (n_v vs 6) ≤ 8 := tv_rng t6
  obtain ⟨t7, hk⟩ := List.forall_mem_cons.mp hk
  have t7 : tv_ok ta (0, 3, 3, []) (n_v vs 7) := t7
  have k7 : 3 ≤ v_iv (n_v vs 7) ∧ v_iv (n_v vs 7) ≤ 3 := tv_rng t7
  obtain ⟨t9, hk⟩ := List.forall_mem_cons.mp hk
  have t9 : tv_ok ta (0, 0, 0, []) (n_v vs 9) := t9
  have k9 : 0 ≤ v_iv (n_v vs 9) ∧ v_iv (n_v vs 9) ≤ 0 := tv_rng t9
  obtain ⟨t11, hk⟩ := List.forall_mem_cons.mp hk
  have t11 : tv_ok ta (0, 0, 0, []) (n_v vs 11) := t11
  have k11 : 0 ≤ v_iv (n_v vs 11) ∧ v_iv (n_v vs 11) ≤ 0 := tv_rng t11
  have hf : fc_ok [(101, [0, 3], [8]), (7, [1, 7], [0]), (7, [1, 6], [5])] ta ws vs := hf
  obtain ⟨ta1, w1, le1, ⟨_, s1⟩, hf⟩ := fc_us (show ¬ (101 : Nat) < 100 from by decide) hf
  have s1 : (∀ b j, w_el ws b j = w_el w1 b j) ∧ ∀ b j, w_fd ws b j = if b = v_ad (n_v vs 0) ∧ j = 8 then n_v vs 3 else w_fd w1 b j := s1
  obtain ⟨f1, hf⟩ := fc_un (show (7 : Nat) < 100 from by decide) hf
  have f1 : v_iv (n_v vs 1) = v_iv (n_v vs 7) := f1
  obtain ⟨f2, hf⟩ := fc_un (show (7 : Nat) < 100 from by decide) hf
  have f2 : v_iv (n_v vs 1) ≤ v_iv (n_v vs 6) := f2
  have nf0 : fc_1 (21, [9, 7], [24]) ws (vs) := by
    refine ⟨fun n hn => ?_, ?_⟩
    · have hn : n ∈ [9, 7] := hn
      rw [hl]
      simp only [List.mem_cons, List.not_mem_nil, or_false] at hn
      show n < 12; omega
    · show v_iv (n_v vs 9) + v_iv (n_v vs 7) ≤ 24
      omega
  have nf1 : fc_1 (21, [11, 7], [24]) ws (vs) := by
    refine ⟨fun n hn => ?_, ?_⟩
    · have hn : n ∈ [11, 7] := hn
      rw [hl]
      simp only [List.mem_cons, List.not_mem_nil, or_false] at hn
      show n < 12; omega
    · show v_iv (n_v vs 11) + v_iv (n_v vs 7) ≤ 24
      omega
  refine ⟨(fun _ h => (by cases h)), [], trivial, ?_, (fun _ h => (by cases h))⟩
  rw [List.append_nil]
  exact List.forall_mem_cons.mpr ⟨⟨show (21 : Nat) < 100 from by decide, nf0⟩, List.forall_mem_cons.mpr ⟨⟨show (21 : Nat) < 100 from by decide, nf1⟩, (fun _ h => (by cases h))⟩⟩
def n_Pl_tryRing_at_k3_an : List an_T := [(55, [(0, (2, 0, 0, [6])), (1, (0, 3, 3, [])), (2, (0, 0, 16777215, [])), (3, (0, -2147483648, 2147483646, [])), (4, (0, 1, 24, []))], [], (0, 0), [(0, 0, 99945), (1, 4, 24), (0, 0, 100000)], [(1, 2, -1000000000000, 3), (1, 4, -1000000000000, 2)], [((0, 0), (2, 0, 0, [3]))], [], 0, [], [])]
def t_Pl_tryRing_at_k3_ct : ct_L := [(1, 227, e_Pl_crossingsAt), (147, 175, e_acp_57), (325, 213, e_Pl_tryRing_at_k4)]
set_option maxRecDepth 100000 in
theorem c_Pl_tryRing_at_k3 {l : Launch} {D : va_G} {kA : Nat → ClassId} (h_Pl_crossingsAt : ct_ok l D kA GG y_Pl_crossingsAt z_Pl_crossingsAt e_Pl_crossingsAt) (h_Pl_tryRing_at_k4 : ct_ok l D kA GG y_Pl_tryRing_at_k4 z_Pl_tryRing_at_k4 e_Pl_tryRing_at_k4) : ct_ok l D kA GG y_Pl_tryRing_at_k3 z_Pl_tryRing_at_k3 e_Pl_tryRing_at_k3 := chk_all_ok (FT := [(9, 6, 0), (19, 6, 2), (23, 6, 3), (38, 6, 8), (74, 3, 0)]) (PT := [(38, 6, 8, .int)]) (CT := t_Pl_tryRing_at_k3_ct) (KT := []) (NT := []) (AN := n_Pl_tryRing_at_k3_an) (OT := [o_Pl_tryRing_at_k3_0]) 3 272 (List.forall_mem_cons.mpr ⟨oo_Pl_tryRing_at_k3_0, List.forall_mem_nil _⟩) (by decide +kernel) ⟨List.forall_mem_cons.mpr ⟨gf_Pl_9, List.forall_mem_cons.mpr ⟨gf_Pl_19, List.forall_mem_cons.mpr ⟨gf_Pl_23, List.forall_mem_cons.mpr ⟨gf_Pl_38, List.forall_mem_cons.mpr ⟨gf_Pl_74, List.forall_mem_nil _⟩⟩⟩⟩⟩, List.forall_mem_cons.mpr ⟨pf_Pl_38, List.forall_mem_nil _⟩, List.forall_mem_cons.mpr ⟨cl_virtual (y := y_Pl_crossingsAt) (ci := 6) rfl rfl ⟨_, _, rfl⟩ (by decide +kernel) h_Pl_crossingsAt wm_1770 wm_21 wm_1767 wm_1769 wv_8_6 ⟨by decide, by decide, by decide +kernel⟩ (by decide), List.forall_mem_cons.mpr ⟨cl_copy rfl rfl (by decide) (by decide) (by decide) wm_1735 wm_750 wm_749 wm_15, List.forall_mem_cons.mpr ⟨cl_virtual (y := y_Pl_tryRing_at_k4) (ci := 6) rfl rfl ⟨_, _, rfl⟩ (by decide +kernel) h_Pl_tryRing_at_k4 wm_1766 wm_21 wm_1763 wm_1765 wv_8_5 ⟨by decide, by decide, by decide +kernel⟩ (by decide), List.forall_mem_nil _⟩⟩⟩, List.forall_mem_nil _, List.forall_mem_nil _, GG_pl⟩ (by decide +kernel)
def o_Pl_tryRing_at_k4_0 : or_T := (48, 12, [(1, (0, 4, 4, [])), (6, (0, 8, 8, [])), (7, (0, 4, 4, [])), (9, (0, 0, 0, [])), (11, (0, 0, 0, []))], [(101, [0, 3], [8]), (7, [1, 7], [0]), (7, [1, 6], [5])], [], [], [(21, [9, 7], [24]), (21, [11, 7], [24])], [], [])
theorem oo_Pl_tryRing_at_k4_0 {kA : Nat → ClassId} : or_ok kA GG o_Pl_tryRing_at_k4_0 := by
  intro A ta ws vs hD hth hl hk hds hf
  have hl : vs.length = 12 := hl
  have hk : ∀ q ∈ ([(1, (0, 4, 4, [])), (6, (0, 8, 8, [])), (7, (0, 4, 4, [])), (9, (0, 0, 0, [])), (11, (0, 0, 0, []))] : List (Nat × tv_T)), tv_ok ta q.2 (n_v vs q.1) := hk
  obtain ⟨t1, hk⟩ := List.forall_mem_cons.mp hk
  have t1 : tv_ok ta (0, 4, 4, []) (n_v vs 1) := t1
  have k1 : 4 ≤ v_iv (n_v vs 1) ∧ v_iv (n_v vs 1) ≤ 4 := tv_rng t1
  obtain ⟨t6, hk⟩ := List.forall_mem_cons.mp hk
  have t6 : tv_ok ta (0, 8, 8, []) (n_v vs 6) := t6
  have k6 : 8 ≤ v_iv (n_v vs 6) ∧ v_iv (n_v vs 6) ≤ 8 := tv_rng t6
  obtain ⟨t7, hk⟩ := List.forall_mem_cons.mp hk
  have t7 : tv_ok ta (0, 4, 4, []) (n_v vs 7) := t7
  have k7 : 4 ≤ v_iv (n_v vs 7) ∧ v_iv (n_v vs 7) ≤ 4 := tv_rng t7
  obtain ⟨t9, hk⟩ := List.forall_mem_cons.mp hk
  have t9 : tv_ok ta (0, 0, 0, []) (n_v vs 9) := t9
  have k9 : 0 ≤ v_iv (n_v vs 9) ∧ v_iv (n_v vs 9) ≤ 0 := tv_rng t9
  obtain ⟨t11, hk⟩ := List.forall_mem_cons.mp hk
  have t11 : tv_ok ta (0, 0, 0, []) (n_v vs 11) := t11
  have k11 : 0 ≤ v_iv (n_v vs 11) ∧ v_iv (n_v vs 11) ≤ 0 := tv_rng t11
  have hf : fc_ok [(101, [0, 3], [8]), (7, [1, 7], [0]), (7, [1, 6], [5])] ta ws vs := hf
  obtain ⟨ta1, w1, le1, ⟨_, s1⟩, hf⟩ := fc_us (show ¬ (101 : Nat) < 100 from by decide) hf
  have s1 : (∀ b j, w_el ws b j = w_el w1 b j) ∧ ∀ b j, w_fd ws b j = if b = v_ad (n_v vs 0) ∧ j = 8 then n_v vs 3 else w_fd w1 b j := s1
  obtain ⟨f1, hf⟩ := fc_un (show (7 : Nat) < 100 from by decide) hf
  have f1 : v_iv (n_v vs 1) = v_iv (n_v vs 7) := f1
  obtain ⟨f2, hf⟩ := fc_un (show (7 : Nat) < 100 from by decide) hf
  have f2 : v_iv (n_v vs 1) ≤ v_iv (n_v vs 6) := f2
  have nf0 : fc_1 (21, [9, 7], [24]) ws (vs) := by
    refine ⟨fun n hn => ?_, ?_⟩
    · have hn : n ∈ [9, 7] := hn
      rw [hl]
      simp only [List.mem_cons, List.not_mem_nil, or_false] at hn
      show n < 12; omega
    · show v_iv (n_v vs 9) + v_iv (n_v vs 7) ≤ 24
      omega
  have nf1 : fc_1 (21, [11, 7], [24]) ws (vs) := by
    refine ⟨fun n hn => ?_, ?_⟩
    · have hn : n ∈ [11, 7] := hn
      rw [hl]
      simp only [List.mem_cons, List.not_mem_nil, or_false] at hn
      show n < 12; omega
    · show v_iv (n_v vs 11) + v_iv (n_v vs 7) ≤ 24
      omega
  refine ⟨(fun _ h => (by cases h)), [], trivial, ?_, (fun _ h => (by cases h))⟩
  rw [List.append_nil]
  exact List.forall_mem_cons.mpr ⟨⟨show (21 : Nat) < 100 from by decide, nf0⟩, List.forall_mem_cons.mpr ⟨⟨show (21 : Nat) < 100 from by decide, nf1⟩, (fun _ h => (by cases h))⟩⟩
def n_Pl_tryRing_at_k4_an : List an_T := [(55, [(0, (2, 0, 0, [6])), (1, (0, 4, 4, [])), (2, (0, 0, 16777215, [])), (3, (0, -2147483648, 2147483646, [])), (4, (0, 1, 24, []))], [], (0, 0), [(0, 0, 99945), (1, 4, 24), (0, 0, 100000)], [(1, 2, -1000000000000, 4), (1, 4, -1000000000000, 3)], [((0, 0), (2, 0, 0, [3]))], [], 0, [], [])]
def t_Pl_tryRing_at_k4_ct : ct_L := [(1, 227, e_Pl_crossingsAt), (147, 175, e_acp_58), (325, 213, e_Pl_tryRing_at_k5)]
set_option maxRecDepth 100000 in
theorem c_Pl_tryRing_at_k4 {l : Launch} {D : va_G} {kA : Nat → ClassId} (h_Pl_crossingsAt : ct_ok l D kA GG y_Pl_crossingsAt z_Pl_crossingsAt e_Pl_crossingsAt) (h_Pl_tryRing_at_k5 : ct_ok l D kA GG y_Pl_tryRing_at_k5 z_Pl_tryRing_at_k5 e_Pl_tryRing_at_k5) : ct_ok l D kA GG y_Pl_tryRing_at_k4 z_Pl_tryRing_at_k4 e_Pl_tryRing_at_k4 := chk_all_ok (FT := [(9, 6, 0), (19, 6, 2), (23, 6, 3), (38, 6, 8), (74, 3, 0)]) (PT := [(38, 6, 8, .int)]) (CT := t_Pl_tryRing_at_k4_ct) (KT := []) (NT := []) (AN := n_Pl_tryRing_at_k4_an) (OT := [o_Pl_tryRing_at_k4_0]) 3 272 (List.forall_mem_cons.mpr ⟨oo_Pl_tryRing_at_k4_0, List.forall_mem_nil _⟩) (by decide +kernel) ⟨List.forall_mem_cons.mpr ⟨gf_Pl_9, List.forall_mem_cons.mpr ⟨gf_Pl_19, List.forall_mem_cons.mpr ⟨gf_Pl_23, List.forall_mem_cons.mpr ⟨gf_Pl_38, List.forall_mem_cons.mpr ⟨gf_Pl_74, List.forall_mem_nil _⟩⟩⟩⟩⟩, List.forall_mem_cons.mpr ⟨pf_Pl_38, List.forall_mem_nil _⟩, List.forall_mem_cons.mpr ⟨cl_virtual (y := y_Pl_crossingsAt) (ci := 6) rfl rfl ⟨_, _, rfl⟩ (by decide +kernel) h_Pl_crossingsAt wm_1770 wm_21 wm_1767 wm_1769 wv_8_6 ⟨by decide, by decide, by decide +kernel⟩ (by decide), List.forall_mem_cons.mpr ⟨cl_copy rfl rfl (by decide) (by decide) (by decide) wm_1735 wm_750 wm_749 wm_15, List.forall_mem_cons.mpr ⟨cl_virtual (y := y_Pl_tryRing_at_k5) (ci := 6) rfl rfl ⟨_, _, rfl⟩ (by decide +kernel) h_Pl_tryRing_at_k5 wm_1766 wm_21 wm_1763 wm_1765 wv_8_5 ⟨by decide, by decide, by decide +kernel⟩ (by decide), List.forall_mem_nil _⟩⟩⟩, List.forall_mem_nil _, List.forall_mem_nil _, GG_pl⟩ (by decide +kernel)
def o_Pl_tryRing_at_k5_0 : or_T := (48, 12, [(1, (0, 5, 5, [])), (6, (0, 8, 8, [])), (7, (0, 5, 5, [])), (9, (0, 0, 0, [])), (11, (0, 0, 0, []))], [(101, [0, 3], [8]), (7, [1, 7], [0]), (7, [1, 6], [5])], [], [], [(21, [9, 7], [24]), (21, [11, 7], [24])], [], [])
theorem oo_Pl_tryRing_at_k5_0 {kA : Nat → ClassId} : or_ok kA GG o_Pl_tryRing_at_k5_0 := by
  intro A ta ws vs hD hth hl hk hds hf
  have hl : vs.length = 12 := hl
  have hk : ∀ q ∈ ([(1, (0, 5, 5, [])), (6, (0, 8, 8, [])), (7, (0, 5, 5, [])), (9, (0, 0, 0, [])), (11, (0, 0, 0, []))] : List (Nat × tv_T)), tv_ok ta q.2 (n_v vs q.1) := hk
  obtain ⟨t1, hk⟩ := List.forall_mem_cons.mp hk
  have t1 : tv_ok ta (0, 5, 5, []) (n_v vs 1) := t1
  have k1 : 5 ≤ v_iv (n_v vs 1) ∧ v_iv (n_v vs 1) ≤ 5 := tv_rng t1
  obtain ⟨t6, hk⟩ := List.forall_mem_cons.mp hk
  have t6 : tv_ok ta (0, 8, 8, []) (n_v vs 6) := t6
  have k6 : 8 ≤ v_iv (n_v vs 6) ∧ v_iv (n_v vs 6) ≤ 8 := tv_rng t6
  obtain ⟨t7, hk⟩ := List.forall_mem_cons.mp hk
  have t7 : tv_ok ta (0, 5, 5, []) (n_v vs 7) := t7
  have k7 : 5 ≤ v_iv (n_v vs 7) ∧ v_iv (n_v vs 7) ≤ 5 := tv_rng t7
  obtain ⟨t9, hk⟩ := List.forall_mem_cons.mp hk
  have t9 : tv_ok ta (0, 0, 0, []) (n_v vs 9) := t9
  have k9 : 0 ≤ v_iv (n_v vs 9) ∧ v_iv (n_v vs 9) ≤ 0 := tv_rng t9
  obtain ⟨t11, hk⟩ := List.forall_mem_cons.mp hk
  have t11 : tv_ok ta (0, 0, 0, []) (n_v vs 11) := t11
  have k11 : 0 ≤ v_iv (n_v vs 11) ∧ v_iv (n_v vs 11) ≤ 0 := tv_rng t11
  have hf : fc_ok [(101, [0, 3], [8]), (7, [1, 7], [0]), (7, [1, 6], [5])] ta ws vs := hf
  obtain ⟨ta1, w1, le1, ⟨_, s1⟩, hf⟩ := fc_us (show ¬ (101 : Nat) < 100 from by decide) hf
  have s1 : (∀ b j, w_el ws b j = w_el w1 b j) ∧ ∀ b j, w_fd ws b j = if b = v_ad (n_v vs 0) ∧ j = 8 then n_v vs 3 else w_fd w1 b j := s1
  obtain ⟨f1, hf⟩ := fc_un (show (7 : Nat) < 100 from by decide) hf
  have f1 : v_iv (n_v vs 1) = v_iv (n_v vs 7) := f1
  obtain ⟨f2, hf⟩ := fc_un (show (7 : Nat) < 100 from by decide) hf
  have f2 : v_iv (n_v vs 1) ≤ v_iv (n_v vs 6) := f2
  have nf0 : fc_1 (21, [9, 7], [24]) ws (vs) := by
    refine ⟨fun n hn => ?_, ?_⟩
    · have hn : n ∈ [9, 7] := hn
      rw [hl]
      simp only [List.mem_cons, List.not_mem_nil, or_false] at hn
      show n < 12; omega
    · show v_iv (n_v vs 9) + v_iv (n_v vs 7) ≤ 24
      omega
  have nf1 : fc_1 (21, [11, 7], [24]) ws (vs) := by
    refine ⟨fun n hn => ?_, ?_⟩
    · have hn : n ∈ [11, 7] := hn
      rw [hl]
      simp only [List.mem_cons, List.not_mem_nil, or_false] at hn
      show n < 12; omega
    · show v_iv (n_v vs 11) + v_iv (n_v vs 7) ≤ 24
      omega
  refine ⟨(fun _ h => (by cases h)), [], trivial, ?_, (fun _ h => (by cases h))⟩
  rw [List.append_nil]
  exact List.forall_mem_cons.mpr ⟨⟨show (21 : Nat) < 100 from by decide, nf0⟩, List.forall_mem_cons.mpr ⟨⟨show (21 : Nat) < 100 from by decide, nf1⟩, (fun _ h => (by cases h))⟩⟩
def n_Pl_tryRing_at_k5_an : List an_T := [(55, [(0, (2, 0, 0, [6])), (1, (0, 5, 5, [])), (2, (0, 0, 16777215, [])), (3, (0, -2147483648, 2147483646, [])), (4, (0, 1, 24, []))], [], (0, 0), [(0, 0, 99945), (1, 4, 24), (0, 0, 100000)], [(1, 2, -1000000000000, 5), (1, 4, -1000000000000, 4)], [((0, 0), (2, 0, 0, [3]))], [], 0, [], [])]
def t_Pl_tryRing_at_k5_ct : ct_L := [(1, 227, e_Pl_crossingsAt), (147, 175, e_acp_59), (325, 213, e_Pl_tryRing_at_k6)]
set_option maxRecDepth 100000 in
theorem c_Pl_tryRing_at_k5 {l : Launch} {D : va_G} {kA : Nat → ClassId} (h_Pl_crossingsAt : ct_ok l D kA GG y_Pl_crossingsAt z_Pl_crossingsAt e_Pl_crossingsAt) (h_Pl_tryRing_at_k6 : ct_ok l D kA GG y_Pl_tryRing_at_k6 z_Pl_tryRing_at_k6 e_Pl_tryRing_at_k6) : ct_ok l D kA GG y_Pl_tryRing_at_k5 z_Pl_tryRing_at_k5 e_Pl_tryRing_at_k5 := chk_all_ok (FT := [(9, 6, 0), (19, 6, 2), (23, 6, 3), (38, 6, 8), (74, 3, 0)]) (PT := [(38, 6, 8, .int)]) (CT := t_Pl_tryRing_at_k5_ct) (KT := []) (NT := []) (AN := n_Pl_tryRing_at_k5_an) (OT := [o_Pl_tryRing_at_k5_0]) 3 272 (List.forall_mem_cons.mpr ⟨oo_Pl_tryRing_at_k5_0, List.forall_mem_nil _⟩) (by decide +kernel) ⟨List.forall_mem_cons.mpr ⟨gf_Pl_9, List.forall_mem_cons.mpr ⟨gf_Pl_19, List.forall_mem_cons.mpr ⟨gf_Pl_23, List.forall_mem_cons.mpr ⟨gf_Pl_38, List.forall_mem_cons.mpr ⟨gf_Pl_74, List.forall_mem_nil _⟩⟩⟩⟩⟩, List.forall_mem_cons.mpr ⟨pf_Pl_38, List.forall_mem_nil _⟩, List.forall_mem_cons.mpr ⟨cl_virtual (y := y_Pl_crossingsAt) (ci := 6) rfl rfl ⟨_, _, rfl⟩ (by decide +kernel) h_Pl_crossingsAt wm_1770 wm_21 wm_1767 wm_1769 wv_8_6 ⟨by decide, by decide, by decide +kernel⟩ (by decide), List.forall_mem_cons.mpr ⟨cl_copy rfl rfl (by decide) (by decide) (by decide) wm_1735 wm_750 wm_749 wm_15, List.forall_mem_cons.mpr ⟨cl_virtual (y := y_Pl_tryRing_at_k6) (ci := 6) rfl rfl ⟨_, _, rfl⟩ (by decide +kernel) h_Pl_tryRing_at_k6 wm_1766 wm_21 wm_1763 wm_1765 wv_8_5 ⟨by decide, by decide, by decide +kernel⟩ (by decide), List.forall_mem_nil _⟩⟩⟩, List.forall_mem_nil _, List.forall_mem_nil _, GG_pl⟩ (by decide +kernel)
def o_Pl_tryRing_at_k6_0 : or_T := (48, 12, [(1, (0, 6, 6, [])), (6, (0, 8, 8, [])), (7, (0, 6, 6, [])), (9, (0, 0, 0, [])), (11, (0, 0, 0, []))], [(101, [0, 3], [8]), (7, [1, 7], [0]), (7, [1, 6], [5])], [], [], [(21, [9, 7], [24]), (21, [11, 7], [24])], [], [])
theorem oo_Pl_tryRing_at_k6_0 {kA : Nat → ClassId} : or_ok kA GG o_Pl_tryRing_at_k6_0 := by
  intro A ta ws vs hD hth hl hk hds hf
  have hl : vs.length = 12 := hl
  have hk : ∀ q ∈ ([(1, (0, 6, 6, [])), (6, (0, 8, 8, [])), (7, (0, 6, 6, [])), (9, (0, 0, 0, [])), (11, (0, 0, 0, []))] : List (Nat × tv_T)), tv_ok ta q.2 (n_v vs q.1) := hk
  obtain ⟨t1, hk⟩ := List.forall_mem_cons.mp hk
  have t1 : tv_ok ta (0, 6, 6, []) (n_v vs 1) := t1
  have k1 : 6 ≤ v_iv (n_v vs 1) ∧ v_iv (n_v vs 1) ≤ 6 := tv_rng t1
  obtain ⟨t6, hk⟩ := List.forall_mem_cons.mp hk
  have t6 : tv_ok ta (0, 8, 8, []) (n_v vs 6) := t6
  have k6 : 8 ≤ v_iv (n_v vs 6) ∧ v_iv (n_v vs 6) ≤ 8 := tv_rng t6
  obtain ⟨t7, hk⟩ := List.forall_mem_cons.mp hk
  have t7 : tv_ok ta (0, 6, 6, []) (n_v vs 7) := t7
  have k7 : 6 ≤ v_iv (n_v vs 7) ∧ v_iv (n_v vs 7) ≤ 6 := tv_rng t7
  obtain ⟨t9, hk⟩ := List.forall_mem_cons.mp hk
  have t9 : tv_ok ta (0, 0, 0, []) (n_v vs 9) := t9
  have k9 : 0 ≤ v_iv (n_v vs 9) ∧ v_iv (n_v vs 9) ≤ 0 := tv_rng t9
  obtain ⟨t11, hk⟩ := List.forall_mem_cons.mp hk
  have t11 : tv_ok ta (0, 0, 0, []) (n_v vs 11) := t11
  have k11 : 0 ≤ v_iv (n_v vs 11) ∧ v_iv (n_v vs 11) ≤ 0 := tv_rng t11
  have hf : fc_ok [(101, [0, 3], [8]), (7, [1, 7], [0]), (7, [1, 6], [5])] ta ws vs := hf
  obtain ⟨ta1, w1, le1, ⟨_, s1⟩, hf⟩ := fc_us (show ¬ (101 : Nat) < 100 from by decide) hf
  have s1 : (∀ b j, w_el ws b j = w_el w1 b j) ∧ ∀ b j, w_fd ws b j = if b = v_ad (n_v vs 0) ∧ j = 8 then n_v vs 3 else w_fd w1 b j := s1
  obtain ⟨f1, hf⟩ := fc_un (show (7 : Nat) < 100 from by decide) hf
  have f1 : v_iv (n_v vs 1) = v_iv (n_v vs 7) := f1
  obtain ⟨f2, hf⟩ := fc_un (show (7 : Nat) < 100 from by decide) hf
  have f2 : v_iv (n_v vs 1) ≤ v_iv (n_v vs 6) := f2
  have nf0 : fc_1 (21, [9, 7], [24]) ws (vs) := by
    refine ⟨fun n hn => ?_, ?_⟩
    · have hn : n ∈ [9, 7] := hn
      rw [hl]
      simp only [List.mem_cons, List.not_mem_nil, or_false] at hn
      show n < 12; omega
    · show v_iv (n_v vs 9) + v_iv (n_v vs 7) ≤ 24
      omega
  have nf1 : fc_1 (21, [11, 7], [24]) ws (vs) := by
    refine ⟨fun n hn => ?_, ?_⟩
    · have hn : n ∈ [11, 7] := hn
      rw [hl]
      simp only [List.mem_cons, List.not_mem_nil, or_false] at hn
      show n < 12; omega
    · show v_iv (n_v vs 11) + v_iv (n_v vs 7) ≤ 24
      omega
  refine ⟨(fun _ h => (by cases h)), [], trivial, ?_, (fun _ h => (by cases h))⟩
  rw [List.append_nil]
  exact List.forall_mem_cons.mpr ⟨⟨show (21 : Nat) < 100 from by decide, nf0⟩, List.forall_mem_cons.mpr ⟨⟨show (21 : Nat) < 100 from by decide, nf1⟩, (fun _ h => (by cases h))⟩⟩
def n_Pl_tryRing_at_k6_an : List an_T := [(55, [(0, (2, 0, 0, [6])), (1, (0, 6, 6, [])), (2, (0, 0, 16777215, [])), (3, (0, -2147483648, 2147483646, [])), (4, (0, 1, 24, []))], [], (0, 0), [(0, 0, 99945), (1, 4, 24), (0, 0, 100000)], [(1, 2, -1000000000000, 6), (1, 4, -1000000000000, 5)], [((0, 0), (2, 0, 0, [3]))], [], 0, [], [])]
def t_Pl_tryRing_at_k6_ct : ct_L := [(1, 227, e_Pl_crossingsAt), (147, 175, e_acp_60), (325, 213, e_Pl_tryRing_at_k7)]
set_option maxRecDepth 100000 in
theorem c_Pl_tryRing_at_k6 {l : Launch} {D : va_G} {kA : Nat → ClassId} (h_Pl_crossingsAt : ct_ok l D kA GG y_Pl_crossingsAt z_Pl_crossingsAt e_Pl_crossingsAt) (h_Pl_tryRing_at_k7 : ct_ok l D kA GG y_Pl_tryRing_at_k7 z_Pl_tryRing_at_k7 e_Pl_tryRing_at_k7) : ct_ok l D kA GG y_Pl_tryRing_at_k6 z_Pl_tryRing_at_k6 e_Pl_tryRing_at_k6 := chk_all_ok (FT := [(9, 6, 0), (19, 6, 2), (23, 6, 3), (38, 6, 8), (74, 3, 0)]) (PT := [(38, 6, 8, .int)]) (CT := t_Pl_tryRing_at_k6_ct) (KT := []) (NT := []) (AN := n_Pl_tryRing_at_k6_an) (OT := [o_Pl_tryRing_at_k6_0]) 3 272 (List.forall_mem_cons.mpr ⟨oo_Pl_tryRing_at_k6_0, List.forall_mem_nil _⟩) (by decide +kernel) ⟨List.forall_mem_cons.mpr ⟨gf_Pl_9, List.forall_mem_cons.mpr ⟨gf_Pl_19, List.forall_mem_cons.mpr ⟨gf_Pl_23, List.forall_mem_cons.mpr ⟨gf_Pl_38, List.forall_mem_cons.mpr ⟨gf_Pl_74, List.forall_mem_nil _⟩⟩⟩⟩⟩, List.forall_mem_cons.mpr ⟨pf_Pl_38, List.forall_mem_nil _⟩, List.forall_mem_cons.mpr ⟨cl_virtual (y := y_Pl_crossingsAt) (ci := 6) rfl rfl ⟨_, _, rfl⟩ (by decide +kernel) h_Pl_crossingsAt wm_1770 wm_21 wm_1767 wm_1769 wv_8_6 ⟨by decide, by decide, by decide +kernel⟩ (by decide), List.forall_mem_cons.mpr ⟨cl_copy rfl rfl (by decide) (by decide) (by decide) wm_1735 wm_750 wm_749 wm_15, List.forall_mem_cons.mpr ⟨cl_virtual (y := y_Pl_tryRing_at_k7) (ci := 6) rfl rfl ⟨_, _, rfl⟩ (by decide +kernel) h_Pl_tryRing_at_k7 wm_1766 wm_21 wm_1763 wm_1765 wv_8_5 ⟨by decide, by decide, by decide +kernel⟩ (by decide), List.forall_mem_nil _⟩⟩⟩, List.forall_mem_nil _, List.forall_mem_nil _, GG_pl⟩ (by decide +kernel)
def o_Pl_tryRing_at_k7_0 : or_T := (48, 12, [(1, (0, 7, 7, [])), (6, (0, 8, 8, [])), (7, (0, 7, 7, [])), (9, (0, 0, 0, [])), (11, (0, 0, 0, []))], [(101, [0, 3], [8]), (7, [1, 7], [0]), (7, [1, 6], [5])], [], [], [(21, [9, 7], [24]), (21, [11, 7], [24])], [], [])
theorem oo_Pl_tryRing_at_k7_0 {kA : Nat → ClassId} : or_ok kA GG o_Pl_tryRing_at_k7_0 := by
  intro A ta ws vs hD hth hl hk hds hf
  have hl : vs.length = 12 := hl
  have hk : ∀ q ∈ ([(1, (0, 7, 7, [])), (6, (0, 8, 8, [])), (7, (0, 7, 7, [])), (9, (0, 0, 0, [])), (11, (0, 0, 0, []))] : List (Nat × tv_T)), tv_ok ta q.2 (n_v vs q.1) := hk
  obtain ⟨t1, hk⟩ := List.forall_mem_cons.mp hk
  have t1 : tv_ok ta (0, 7, 7, []) (n_v vs 1) := t1
  have k1 : 7 ≤ v_iv (n_v vs 1) ∧ v_iv (n_v vs 1) ≤ 7 := tv_rng t1
  obtain ⟨t6, hk⟩ := List.forall_mem_cons.mp hk
  have t6 : tv_ok ta (0, 8, 8, []) (n_v vs 6) := t6
  have k6 : 8 ≤ v_iv (n_v vs 6) ∧ v_iv (n_v vs 6) ≤ 8 := tv_rng t6
  obtain ⟨t7, hk⟩ := List.forall_mem_cons.mp hk
  have t7 : tv_ok ta (0, 7, 7, []) (n_v vs 7) := t7
  have k7 : 7 ≤ v_iv (n_v vs 7) ∧ v_iv (n_v vs 7) ≤ 7 := tv_rng t7
  obtain ⟨t9, hk⟩ := List.forall_mem_cons.mp hk
  have t9 : tv_ok ta (0, 0, 0, []) (n_v vs 9) := t9
  have k9 : 0 ≤ v_iv (n_v vs 9) ∧ v_iv (n_v vs 9) ≤ 0 := tv_rng t9
  obtain ⟨t11, hk⟩ := List.forall_mem_cons.mp hk
  have t11 : tv_ok ta (0, 0, 0, []) (n_v vs 11) := t11
  have k11 : 0 ≤ v_iv (n_v vs 11) ∧ v_iv (n_v vs 11) ≤ 0 := tv_rng t11
  have hf : fc_ok [(101, [0, 3], [8]), (7, [1, 7], [0]), (7, [1, 6], [5])] ta ws vs := hf
  obtain ⟨ta1, w1, le1, ⟨_, s1⟩, hf⟩ := fc_us (show ¬ (101 : Nat) < 100 from by decide) hf
  have s1 : (∀ b j, w_el ws b j = w_el w1 b j) ∧ ∀ b j, w_fd ws b j = if b = v_ad (n_v vs 0) ∧ j = 8 then n_v vs 3 else w_fd w1 b j := s1
  obtain ⟨f1, hf⟩ := fc_un (show (7 : Nat) < 100 from by decide) hf
  have f1 : v_iv (n_v vs 1) = v_iv (n_v vs 7) := f1
  obtain ⟨f2, hf⟩ := fc_un (show (7 : Nat) < 100 from by decide) hf
  have f2 : v_iv (n_v vs 1) ≤ v_iv (n_v vs 6) := f2
  have nf0 : fc_1 (21, [9, 7], [24]) ws (vs) := by
    refine ⟨fun n hn => ?_, ?_⟩
    · have hn : n ∈ [9, 7] := hn
      rw [hl]
      simp only [List.mem_cons, List.not_mem_nil, or_false] at hn
      show n < 12; omega
    · show v_iv (n_v vs 9) + v_iv (n_v vs 7) ≤ 24
      omega
  have nf1 : fc_1 (21, [11, 7], [24]) ws (vs) := by
    refine ⟨fun n hn => ?_, ?_⟩
    · have hn : n ∈ [11, 7] := hn
      rw [hl]
      simp only [List.mem_cons, List.not_mem_nil, or_false] at hn
      show n < 12; omega
    · show v_iv (n_v vs 11) + v_iv (n_v vs 7) ≤ 24
      omega
  refine ⟨(fun _ h => (by cases h)), [], trivial, ?_, (fun _ h => (by cases h))⟩
  rw [List.append_nil]
  exact List.forall_mem_cons.mpr ⟨⟨show (21 : Nat) < 100 from by decide, nf0⟩, List.forall_mem_cons.mpr ⟨⟨show (21 : Nat) < 100 from by decide, nf1⟩, (fun _ h => (by cases h))⟩⟩
def n_Pl_tryRing_at_k7_an : List an_T := [(55, [(0, (2, 0, 0, [6])), (1, (0, 7, 7, [])), (2, (0, 0, 16777215, [])), (3, (0, -2147483648, 2147483646, [])), (4, (0, 1, 24, []))], [], (0, 0), [(0, 0, 99945), (1, 4, 24), (0, 0, 100000)], [(1, 2, -1000000000000, 7), (1, 4, -1000000000000, 6)], [((0, 0), (2, 0, 0, [3]))], [], 0, [], [])]
def t_Pl_tryRing_at_k7_ct : ct_L := [(1, 227, e_Pl_crossingsAt), (147, 175, e_acp_61), (325, 213, e_Pl_tryRing_at_k8)]
set_option maxRecDepth 100000 in
theorem c_Pl_tryRing_at_k7 {l : Launch} {D : va_G} {kA : Nat → ClassId} (h_Pl_crossingsAt : ct_ok l D kA GG y_Pl_crossingsAt z_Pl_crossingsAt e_Pl_crossingsAt) (h_Pl_tryRing_at_k8 : ct_ok l D kA GG y_Pl_tryRing_at_k8 z_Pl_tryRing_at_k8 e_Pl_tryRing_at_k8) : ct_ok l D kA GG y_Pl_tryRing_at_k7 z_Pl_tryRing_at_k7 e_Pl_tryRing_at_k7 := chk_all_ok (FT := [(9, 6, 0), (19, 6, 2), (23, 6, 3), (38, 6, 8), (74, 3, 0)]) (PT := [(38, 6, 8, .int)]) (CT := t_Pl_tryRing_at_k7_ct) (KT := []) (NT := []) (AN := n_Pl_tryRing_at_k7_an) (OT := [o_Pl_tryRing_at_k7_0]) 3 272 (List.forall_mem_cons.mpr ⟨oo_Pl_tryRing_at_k7_0, List.forall_mem_nil _⟩) (by decide +kernel) ⟨List.forall_mem_cons.mpr ⟨gf_Pl_9, List.forall_mem_cons.mpr ⟨gf_Pl_19, List.forall_mem_cons.mpr ⟨gf_Pl_23, List.forall_mem_cons.mpr ⟨gf_Pl_38, List.forall_mem_cons.mpr ⟨gf_Pl_74, List.forall_mem_nil _⟩⟩⟩⟩⟩, List.forall_mem_cons.mpr ⟨pf_Pl_38, List.forall_mem_nil _⟩, List.forall_mem_cons.mpr ⟨cl_virtual (y := y_Pl_crossingsAt) (ci := 6) rfl rfl ⟨_, _, rfl⟩ (by decide +kernel) h_Pl_crossingsAt wm_1770 wm_21 wm_1767 wm_1769 wv_8_6 ⟨by decide, by decide, by decide +kernel⟩ (by decide), List.forall_mem_cons.mpr ⟨cl_copy rfl rfl (by decide) (by decide) (by decide) wm_1735 wm_750 wm_749 wm_15, List.forall_mem_cons.mpr ⟨cl_virtual (y := y_Pl_tryRing_at_k8) (ci := 6) rfl rfl ⟨_, _, rfl⟩ (by decide +kernel) h_Pl_tryRing_at_k8 wm_1766 wm_21 wm_1763 wm_1765 wv_8_5 ⟨by decide, by decide, by decide +kernel⟩ (by decide), List.forall_mem_nil _⟩⟩⟩, List.forall_mem_nil _, List.forall_mem_nil _, GG_pl⟩ (by decide +kernel)
def o_Pl_tryRing_at_k8_0 : or_T := (48, 12, [(1, (0, 8, 8, [])), (6, (0, 8, 8, [])), (7, (0, 8, 8, [])), (9, (0, 0, 0, [])), (11, (0, 0, 0, []))], [(101, [0, 3], [8]), (7, [1, 7], [0]), (7, [1, 6], [5])], [], [], [(21, [9, 7], [24]), (21, [11, 7], [24])], [], [])
theorem oo_Pl_tryRing_at_k8_0 {kA : Nat → ClassId} : or_ok kA GG o_Pl_tryRing_at_k8_0 := by
  intro A ta ws vs hD hth hl hk hds hf
  have hl : vs.length = 12 := hl
  have hk : ∀ q ∈ ([(1, (0, 8, 8, [])), (6, (0, 8, 8, [])), (7, (0, 8, 8, [])), (9, (0, 0, 0, [])), (11, (0, 0, 0, []))] : List (Nat × tv_T)), tv_ok ta q.2 (n_v vs q.1) := hk
  obtain ⟨t1, hk⟩ := List.forall_mem_cons.mp hk
  have t1 : tv_ok ta (0, 8, 8, []) (n_v vs 1) := t1
  have k1 : 8 ≤ v_iv (n_v vs 1) ∧ v_iv (n_v vs 1) ≤ 8 := tv_rng t1
  obtain ⟨t6, hk⟩ := List.forall_mem_cons.mp hk
  have t6 : tv_ok ta (0, 8, 8, []) (n_v vs 6) := t6
  have k6 : 8 ≤ v_iv (n_v vs 6) ∧ v_iv (n_v vs 6) ≤ 8 := tv_rng t6
  obtain ⟨t7, hk⟩ := List.forall_mem_cons.mp hk
  have t7 : tv_ok ta (0, 8, 8, []) (n_v vs 7) := t7
  have k7 : 8 ≤ v_iv (n_v vs 7) ∧ v_iv (n_v vs 7) ≤ 8 := tv_rng t7
  obtain ⟨t9, hk⟩ := List.forall_mem_cons.mp hk
  have t9 : tv_ok ta (0, 0, 0, []) (n_v vs 9) := t9
  have k9 : 0 ≤ v_iv (n_v vs 9) ∧ v_iv (n_v vs 9) ≤ 0 := tv_rng t9
  obtain ⟨t11, hk⟩ := List.forall_mem_cons.mp hk
  have t11 : tv_ok ta (0, 0, 0, []) (n_v vs 11) := t11
  have k11 : 0 ≤ v_iv (n_v vs 11) ∧ v_iv (n_v vs 11) ≤ 0 := tv_rng t11
  have hf : fc_ok [(101, [0, 3], [8]), (7, [1, 7], [0]), (7, [1, 6], [5])] ta ws vs := hf
  obtain ⟨ta1, w1, le1, ⟨_, s1⟩, hf⟩ := fc_us (show ¬ (101 : Nat) < 100 from by decide) hf
  have s1 : (∀ b j, w_el ws b j = w_el w1 b j) ∧ ∀ b j, w_fd ws b j = if b = v_ad (n_v vs 0) ∧ j = 8 then n_v vs 3 else w_fd w1 b j := s1
  obtain ⟨f1, hf⟩ := fc_un (show (7 : Nat) < 100 from by decide) hf
  have f1 : v_iv (n_v vs 1) = v_iv (n_v vs 7) := f1
  obtain ⟨f2, hf⟩ := fc_un (show (7 : Nat) < 100 from by decide) hf
  have f2 : v_iv (n_v vs 1) ≤ v_iv (n_v vs 6) := f2
  have nf0 : fc_1 (21, [9, 7], [24]) ws (vs) := by
    refine ⟨fun n hn => ?_, ?_⟩
    · have hn : n ∈ [9, 7] := hn
      rw [hl]
      simp only [List.mem_cons, List.not_mem_nil, or_false] at hn
      show n < 12; omega
    · show v_iv (n_v vs 9) + v_iv (n_v vs 7) ≤ 24
      omega
  have nf1 : fc_1 (21, [11, 7], [24]) ws (vs) := by
    refine ⟨fun n hn => ?_, ?_⟩
    · have hn : n ∈ [11, 7] := hn
      rw [hl]
      simp only [List.mem_cons, List.not_mem_nil, or_false] at hn
      show n < 12; omega
    · show v_iv (n_v vs 11) + v_iv (n_v vs 7) ≤ 24
      omega
  refine ⟨(fun _ h => (by cases h)), [], trivial, ?_, (fun _ h => (by cases h))⟩
  rw [List.append_nil]
  exact List.forall_mem_cons.mpr ⟨⟨show (21 : Nat) < 100 from by decide, nf0⟩, List.forall_mem_cons.mpr ⟨⟨show (21 : Nat) < 100 from by decide, nf1⟩, (fun _ h => (by cases h))⟩⟩
def n_Pl_tryRing_at_k8_an : List an_T := [(55, [(0, (2, 0, 0, [6])), (1, (0, 8, 8, [])), (2, (0, 0, 16777215, [])), (3, (0, -2147483648, 2147483646, [])), (4, (0, 1, 24, []))], [], (0, 0), [(0, 0, 99945), (1, 4, 24), (0, 0, 100000)], [(1, 2, -1000000000000, 8), (1, 4, -1000000000000, 7)], [((0, 0), (2, 0, 0, [3]))], [], 0, [], [])]
def t_Pl_tryRing_at_k8_ct : ct_L := [(1, 227, e_Pl_crossingsAt), (147, 175, e_acp_62), (325, 213, e_Pl_tryRing_at_k9)]
set_option maxRecDepth 100000 in
theorem c_Pl_tryRing_at_k8 {l : Launch} {D : va_G} {kA : Nat → ClassId} (h_Pl_crossingsAt : ct_ok l D kA GG y_Pl_crossingsAt z_Pl_crossingsAt e_Pl_crossingsAt) (h_Pl_tryRing_at_k9 : ct_ok l D kA GG y_Pl_tryRing_at_k9 z_Pl_tryRing_at_k9 e_Pl_tryRing_at_k9) : ct_ok l D kA GG y_Pl_tryRing_at_k8 z_Pl_tryRing_at_k8 e_Pl_tryRing_at_k8 := chk_all_ok (FT := [(9, 6, 0), (19, 6, 2), (23, 6, 3), (38, 6, 8), (74, 3, 0)]) (PT := [(38, 6, 8, .int)]) (CT := t_Pl_tryRing_at_k8_ct) (KT := []) (NT := []) (AN := n_Pl_tryRing_at_k8_an) (OT := [o_Pl_tryRing_at_k8_0]) 3 272 (List.forall_mem_cons.mpr ⟨oo_Pl_tryRing_at_k8_0, List.forall_mem_nil _⟩) (by decide +kernel) ⟨List.forall_mem_cons.mpr ⟨gf_Pl_9, List.forall_mem_cons.mpr ⟨gf_Pl_19, List.forall_mem_cons.mpr ⟨gf_Pl_23, List.forall_mem_cons.mpr ⟨gf_Pl_38, List.forall_mem_cons.mpr ⟨gf_Pl_74, List.forall_mem_nil _⟩⟩⟩⟩⟩, List.forall_mem_cons.mpr ⟨pf_Pl_38, List.forall_mem_nil _⟩, List.forall_mem_cons.mpr ⟨cl_virtual (y := y_Pl_crossingsAt) (ci := 6) rfl rfl ⟨_, _, rfl⟩ (by decide +kernel) h_Pl_crossingsAt wm_1770 wm_21 wm_1767 wm_1769 wv_8_6 ⟨by decide, by decide, by decide +kernel⟩ (by decide), List.forall_mem_cons.mpr ⟨cl_copy rfl rfl (by decide) (by decide) (by decide) wm_1735 wm_750 wm_749 wm_15, List.forall_mem_cons.mpr ⟨cl_virtual (y := y_Pl_tryRing_at_k9) (ci := 6) rfl rfl ⟨_, _, rfl⟩ (by decide +kernel) h_Pl_tryRing_at_k9 wm_1766 wm_21 wm_1763 wm_1765 wv_8_5 ⟨by decide, by decide, by decide +kernel⟩ (by decide), List.forall_mem_nil _⟩⟩⟩, List.forall_mem_nil _, List.forall_mem_nil _, GG_pl⟩ (by decide +kernel)
def o_Pl_tryRing_at_k9_0 : or_T := (1000000, 0, [], [], [], [], [], [], [])
theorem oo_Pl_tryRing_at_k9_0 {kA : Nat → ClassId} : or_ok kA GG o_Pl_tryRing_at_k9_0 := fun _ _ _ _ _ _ _ _ _ _ => ⟨fun q h => (by cases h), [], trivial, fun f h => (by cases h), fun q h => (by cases h)⟩
def n_Pl_tryRing_at_k9_an : List an_T := []
def t_Pl_tryRing_at_k9_ct : ct_L := []
set_option maxRecDepth 100000 in
theorem c_Pl_tryRing_at_k9 {l : Launch} {D : va_G} {kA : Nat → ClassId} : ct_ok l D kA GG y_Pl_tryRing_at_k9 z_Pl_tryRing_at_k9 e_Pl_tryRing_at_k9 := chk_all_ok (FT := [(9, 6, 0), (19, 6, 2), (23, 6, 3), (38, 6, 8), (74, 3, 0)]) (PT := [(38, 6, 8, .int)]) (CT := t_Pl_tryRing_at_k9_ct) (KT := []) (NT := []) (AN := n_Pl_tryRing_at_k9_an) (OT := [o_Pl_tryRing_at_k9_0]) 0 200 (List.forall_mem_cons.mpr ⟨oo_Pl_tryRing_at_k9_0, List.forall_mem_nil _⟩) (by decide +kernel) ⟨List.forall_mem_cons.mpr ⟨gf_Pl_9, List.forall_mem_cons.mpr ⟨gf_Pl_19, List.forall_mem_cons.mpr ⟨gf_Pl_23, List.forall_mem_cons.mpr ⟨gf_Pl_38, List.forall_mem_cons.mpr ⟨gf_Pl_74, List.forall_mem_nil _⟩⟩⟩⟩⟩, List.forall_mem_cons.mpr ⟨pf_Pl_38, List.forall_mem_nil _⟩, List.forall_mem_nil _, List.forall_mem_nil _, List.forall_mem_nil _, GG_pl⟩ (by decide +kernel)
def n_Pn_openLine_an : List an_T := [(45, [(0, (2, 0, 0, [7])), (1, (0, 1, 22, [])), (2, (0, 0, 16777215, [])), (3, (0, 0, 23, [])), (4, (0, 0, 23, [])), (5, (0, 0, 23, [])), (6, (0, -1, 71, [])), (7, (0, 0, 24, [])), (8, (0, 0, 72, []))], [], (0, 0), [(0, 0, 99955), (1, 8, 72), (0, 0, 100000)], [], [], [], 0, [], []), (115, [(0, (2, 0, 0, [7])), (1, (0, 1, 22, [])), (2, (0, 0, 16777215, [])), (3, (0, 0, 23, [])), (4, (0, 0, 23, [])), (5, (0, 0, 23, [])), (6, (0, 0, 71, [])), (7, (0, 0, 24, [])), (8, (0, 0, 71, []))], [(0, 0, 23, [])], (0, 0), [(0, 0, 99955), (1, 8, 72), (0, 0, 99885)], [], [], [], 0, [], []), (155, [(0, (2, 0, 0, [7])), (1, (0, 1, 22, [])), (2, (0, 0, 16777215, [])), (3, (0, 0, 23, [])), (4, (0, 0, 23, [])), (5, (0, 0, 23, [])), (6, (0, 0, 71, [])), (7, (0, 0, 24, [])), (8, (0, 0, 71, [])), (9, (0, 0, 23, []))], [], (0, 0), [(0, 0, 99955), (1, 8, 72), (0, 0, 99845)], [], [], [], 0, [], []), (161, [(0, (2, 0, 0, [7])), (1, (0, 1, 22, [])), (2, (0, 0, 16777215, [])), (3, (0, 0, 23, [])), (4, (0, 0, 23, [])), (5, (0, 0, 23, [])), (6, (0, -1, 71, [])), (7, (0, 0, 24, [])), (8, (0, 0, 72, []))], [], (0, 0), [(0, 0, 99839), (0, 0, 0), (0, 0, 0)], [], [], [], 0, [], [])]
def t_Pn_openLine_ct : ct_L := [(1, 168, e_Pn_replaceInLine), (106, 134, e_Ne_edgeBetween_np), (220, 159, e_Ne_endAt_np)]
set_option maxRecDepth 100000 in
theorem c_Pn_openLine {l : Launch} {D : va_G} {kA : Nat → ClassId} (h_Ne_edgeBetween : ct_ok l D kA GG y_Ne_edgeBetween z_Ne_edgeBetween e_Ne_edgeBetween) (h_Ne_endAt : ct_ok l D kA GG y_Ne_endAt z_Ne_endAt e_Ne_endAt) (h_Pn_replaceInLine : ct_ok l D kA GG y_Pn_replaceInLine z_Pn_replaceInLine e_Pn_replaceInLine) : ct_ok l D kA GG y_Pn_openLine z_Pn_openLine e_Pn_openLine := chk_all_ok (FT := [(12, 7, 0), (22, 7, 2), (35, 7, 6), (156, 5, 11), (162, 5, 7), (165, 5, 8)]) (PT := []) (CT := t_Pn_openLine_ct) (KT := []) (NT := []) (AN := n_Pn_openLine_an) (OT := []) 3 364 (List.forall_mem_nil _) (by decide +kernel) ⟨List.forall_mem_cons.mpr ⟨gf_Pn_12, List.forall_mem_cons.mpr ⟨gf_Pn_22, List.forall_mem_cons.mpr ⟨gf_Pn_35, List.forall_mem_cons.mpr ⟨gf_Pn_156, List.forall_mem_cons.mpr ⟨gf_Pn_162, List.forall_mem_cons.mpr ⟨gf_Pn_165, List.forall_mem_nil _⟩⟩⟩⟩⟩⟩, List.forall_mem_nil _, List.forall_mem_cons.mpr ⟨cl_virtual (y := y_Pn_replaceInLine) (ci := 7) rfl rfl ⟨_, _, rfl⟩ (by decide +kernel) h_Pn_replaceInLine wm_1564 wm_20 wm_1561 wm_1563 wv_6_12 ⟨by decide, by decide, by decide +kernel⟩ (by decide), List.forall_mem_cons.mpr ⟨cl_nopa (cl_virtual (y := y_Ne_edgeBetween) (ci := 5) rfl rfl ⟨_, _, rfl⟩ (by decide +kernel) h_Ne_edgeBetween wm_1089 wm_6 wm_1544 wm_1087 wm_1088 ⟨by decide, by decide, by decide +kernel⟩ (by decide)), List.forall_mem_cons.mpr ⟨cl_nopa (cl_virtual (y := y_Ne_endAt) (ci := 5) rfl rfl ⟨_, _, rfl⟩ (by decide +kernel) h_Ne_endAt wm_1138 wm_6 wm_1560 wm_1136 wm_1137 ⟨by decide, by decide, by decide +kernel⟩ (by decide)), List.forall_mem_nil _⟩⟩⟩, List.forall_mem_nil _, List.forall_mem_nil _, GG_pl⟩ (by decide +kernel)
def n_Pn_placeNext_an : List an_T := [(8, [(0, (2, 0, 0, [7])), (1, (2, 0, 0, [0])), (2, (0, 0, 23, [])), (3, (0, -1, 23, [])), (4, (0, 0, 23, [])), (5, (0, 0, 24, []))], [], (0, 0), [(0, 0, 99992), (1, 5, 24), (0, 0, 100000)], [], [], [], 0, [], []), (81, [(0, (2, 0, 0, [7])), (1, (2, 0, 0, [0])), (2, (0, 0, 23, [])), (3, (0, 0, 23, [])), (4, (0, 0, 23, [])), (5, (0, 1, 24, []))], [], (0, 0), [(0, 0, 99919), (1, 5, 24), (0, 0, 100000)], [], [], [], 0, [], [])]
def t_Pn_placeNext_ct : ct_L := [(1, 168, e_Pn_replaceInLine), (1, 184, e_Pn_shiftUnder), (192, 92, e_jMath_max1_v51), (192, 92, e_jMath_max1_v52), (192, 92, e_jMath_max1_v53), (192, 92, e_jMath_max1_v54), (192, 92, e_jMath_max1_v55), (192, 92, e_jMath_max1_v56), (192, 92, e_jMath_max1_v57), (192, 92, e_jMath_max1_v58), (192, 92, e_jMath_max1_v59), (192, 92, e_jMath_max1_v60), (192, 92, e_jMath_max1_v61)]
set_option maxRecDepth 100000 in
theorem c_Pn_placeNext {l : Launch} {D : va_G} {kA : Nat → ClassId} (h_Pn_replaceInLine : ct_ok l D kA GG y_Pn_replaceInLine z_Pn_replaceInLine e_Pn_replaceInLine) (h_Pn_shiftUnder : ct_ok l D kA GG y_Pn_shiftUnder z_Pn_shiftUnder e_Pn_shiftUnder) : ct_ok l D kA GG y_Pn_placeNext z_Pn_placeNext e_Pn_placeNext := chk_all_ok (FT := [(12, 7, 0), (22, 7, 2), (25, 7, 3), (29, 7, 4), (35, 7, 6), (87, 0, 3), (131, 5, 9), (177, 0, 2)]) (PT := []) (CT := t_Pn_placeNext_ct) (KT := []) (NT := []) (AN := n_Pn_placeNext_an) (OT := []) 3 804 (List.forall_mem_nil _) (by decide +kernel) ⟨List.forall_mem_cons.mpr ⟨gf_Pn_12, List.forall_mem_cons.mpr ⟨gf_Pn_22, List.forall_mem_cons.mpr ⟨gf_Pn_25, List.forall_mem_cons.mpr ⟨gf_Pn_29, List.forall_mem_cons.mpr ⟨gf_Pn_35, List.forall_mem_cons.mpr ⟨gf_Pn_87, List.forall_mem_cons.mpr ⟨gf_Pn_131, List.forall_mem_cons.mpr ⟨gf_Pn_177, List.forall_mem_nil _⟩⟩⟩⟩⟩⟩⟩⟩, List.forall_mem_nil _, List.forall_mem_cons.mpr ⟨cl_virtual (y := y_Pn_replaceInLine) (ci := 7) rfl rfl ⟨_, _, rfl⟩ (by decide +kernel) h_Pn_replaceInLine wm_1564 wm_20 wm_1561 wm_1563 wv_6_12 ⟨by decide, by decide, by decide +kernel⟩ (by decide), List.forall_mem_cons.mpr ⟨cl_virtual (y := y_Pn_shiftUnder) (ci := 7) rfl rfl ⟨_, _, rfl⟩ (by decide +kernel) h_Pn_shiftUnder wm_1578 wm_20 wm_1575 wm_1577 wv_6_15 ⟨by decide, by decide, by decide +kernel⟩ (by decide), List.forall_mem_cons.mpr ⟨cl_static (y := y_jMath_max1) c_jMath_max1_v51 wm_836 wm_10 wm_1574 wm_835 ⟨by decide, by decide, by decide +kernel⟩ (by decide), List.forall_mem_cons.mpr ⟨cl_static (y := y_jMath_max1) c_jMath_max1_v52 wm_836 wm_10 wm_1574 wm_835 ⟨by decide, by decide, by decide +kernel⟩ (by decide), List.forall_mem_cons.mpr ⟨cl_static (y := y_jMath_max1) c_jMath_max1_v53 wm_836 wm_10 wm_1574 wm_835 ⟨by decide, by decide, by decide +kernel⟩ (by decide), List.forall_mem_cons.mpr ⟨cl_static (y := y_jMath_max1) c_jMath_max1_v54 wm_836 wm_10 wm_1574 wm_835 ⟨by decide, by decide, by decide +kernel⟩ (by decide), List.forall_mem_cons.mpr ⟨cl_static (y := y_jMath_max1) c_jMath_max1_v55 wm_836 wm_10 wm_1574 wm_835 ⟨by decide, by decide, by decide +kernel⟩ (by decide), List.forall_mem_cons.mpr ⟨cl_static (y := y_jMath_max1) c_jMath_max1_v56 wm_836 wm_10 wm_1574 wm_835 ⟨by decide, by decide, by decide +kernel⟩ (by decide), List.forall_mem_cons.mpr ⟨cl_static (y := y_jMath_max1) c_jMath_max1_v57 wm_836 wm_10 wm_1574 wm_835 ⟨by decide, by decide, by decide +kernel⟩ (by decide), List.forall_mem_cons.mpr ⟨cl_static (y := y_jMath_max1) c_jMath_max1_v58 wm_836 wm_10 wm_1574 wm_835 ⟨by decide, by decide, by decide +kernel⟩ (by decide), List.forall_mem_cons.mpr ⟨cl_static (y := y_jMath_max1) c_jMath_max1_v59 wm_836 wm_10 wm_1574 wm_835 ⟨by decide, by decide, by decide +kernel⟩ (by decide), List.forall_mem_cons.mpr ⟨cl_static (y := y_jMath_max1) c_jMath_max1_v60 wm_836 wm_10 wm_1574 wm_835 ⟨by decide, by decide, by decide +kernel⟩ (by decide), List.forall_mem_cons.mpr ⟨cl_static (y := y_jMath_max1) c_jMath_max1_v61 wm_836 wm_10 wm_1574 wm_835 ⟨by decide, by decide, by decide +kernel⟩ (by decide), List.forall_mem_nil _⟩⟩⟩⟩⟩⟩⟩⟩⟩⟩⟩⟩⟩, List.forall_mem_nil _, List.forall_mem_nil _, GG_pl⟩ (by decide +kernel)
def o_Re_meetNode_0 : or_T := (21, 6, [(0, (2, 0, 0, [8])), (3, (0, 0, 2000, [])), (4, (0, 0, 2000, [])), (5, (0, -2000, 2000, []))], [(2, [5, 4, 3], []), (9, [3, 0], [8]), (9, [4, 0], [6]), (20, [0, 0], [30, 8, 1, 1, 6, -1, 1, 8]), (20, [0, 0], [30, 0, -1, 1, 6, 1, 1, 8])], [(5, (0, 0, 8, []))], [], [(21, [3, 5], [2000])], [], [(5, 4, -2000, 0)])
theorem oo_Re_meetNode_0 {kA : Nat → ClassId} : or_ok kA GG o_Re_meetNode_0 := by
  intro A ta ws vs hD hth hl hk hds hf
  have hl : vs.length = 6 := hl
  have hk : ∀ q ∈ ([(0, (2, 0, 0, [8])), (3, (0, 0, 2000, [])), (4, (0, 0, 2000, [])), (5, (0, -2000, 2000, []))] : List (Nat × tv_T)), tv_ok ta q.2 (n_v vs q.1) := hk
  obtain ⟨t0, hk⟩ := List.forall_mem_cons.mp hk
  have t0 : tv_ok ta (2, 0, 0, [8]) (n_v vs 0) := t0
  have r0 : ta (v_ad (n_v vs 0)) = some 8 := tv_rg t0
  obtain ⟨t3, hk⟩ := List.forall_mem_cons.mp hk
  have t3 : tv_ok ta (0, 0, 2000, []) (n_v vs 3) := t3
  have k3 : 0 ≤ v_iv (n_v vs 3) ∧ v_iv (n_v vs 3) ≤ 2000 := tv_rng t3
  obtain ⟨t4, hk⟩ := List.forall_mem_cons.mp hk
  have t4 : tv_ok ta (0, 0, 2000, []) (n_v vs 4) := t4
  have k4 : 0 ≤ v_iv (n_v vs 4) ∧ v_iv (n_v vs 4) ≤ 2000 := tv_rng t4
  obtain ⟨t5, hk⟩ := List.forall_mem_cons.mp hk
  have t5 : tv_ok ta (0, -2000, 2000, []) (n_v vs 5) := t5
  have k5 : (-2000) ≤ v_iv (n_v vs 5) ∧ v_iv (n_v vs 5) ≤ 2000 := tv_rng t5
  have hds : ∀ q ∈ ([(5, 4, -2000, 0)] : List of_T), n_iv vs q.2.1 + q.2.2.1 ≤ n_iv vs q.1 ∧ n_iv vs q.1 ≤ n_iv vs q.2.1 + q.2.2.2 := hds
  obtain ⟨d0, hds⟩ := List.forall_mem_cons.mp hds
  have d0 : v_iv (n_v vs 4) + (-2000) ≤ v_iv (n_v vs 5) ∧ v_iv (n_v vs 5) ≤ v_iv (n_v vs 4) + 0 := d0
  have hf : fc_ok [(2, [5, 4, 3], []), (9, [3, 0], [8]), (9, [4, 0], [6]), (20, [0, 0], [30, 8, 1, 1, 6, -1, 1, 8]), (20, [0, 0], [30, 0, -1, 1, 6, 1, 1, 8])] ta ws vs := hf
  obtain ⟨f0, hf⟩ := fc_un (show (2 : Nat) < 100 from by decide) hf
  have f0 : v_iv (n_v vs 5) = v_iv (n_v vs 4) - v_iv (n_v vs 3) := f0
  obtain ⟨f1, hf⟩ := fc_un (show (9 : Nat) < 100 from by decide) hf
  have f1 : n_v vs 3 = w_fd ws (v_ad (n_v vs 0)) 8 := f1
  obtain ⟨f2, hf⟩ := fc_un (show (9 : Nat) < 100 from by decide) hf
  have f2 : n_v vs 4 = w_fd ws (v_ad (n_v vs 0)) 6 := f2
  obtain ⟨f3, hf⟩ := fc_un (show (20 : Nat) < 100 from by decide) hf
  have f3 : 1 * w_fi ws (n_v vs 0) 6 + ((-1) * w_fi ws (n_v vs 0) 8 + 0) ≤ 8 := f3
  obtain ⟨f4, hf⟩ := fc_un (show (20 : Nat) < 100 from by decide) hf
  have f4 : (-1) * w_fi ws (n_v vs 0) 6 + (1 * w_fi ws (n_v vs 0) 8 + 0) ≤ 0 := f4
  have g1 : v_iv (n_v vs 3) = w_fi ws (n_v vs 0) 8 := congrArg v_iv f1
  have g2 : v_iv (n_v vs 4) = w_fi ws (n_v vs 0) 6 := congrArg v_iv f2
  have kz_0_6 : 0 ≤ w_fi ws (n_v vs 0) 6 ∧ w_fi ws (n_v vs 0) 6 ≤ 2000 := tv_rng (th_fd hD hth r0 (g := GG_8) rfl (k := 6) (t := (0, 0, 2000, [])) rfl rfl)
  have kz_0_8 : 0 ≤ w_fi ws (n_v vs 0) 8 ∧ w_fi ws (n_v vs 0) 8 ≤ 2000 := tv_rng (th_fd hD hth r0 (g := GG_8) rfl (k := 8) (t := (0, 0, 2000, [])) rfl rfl)
  have nf0 : fc_1 (21, [3, 5], [2000]) ws (vs) := by
    refine ⟨fun n hn => ?_, ?_⟩
    · have hn : n ∈ [3, 5] := hn
      rw [hl]
      simp only [List.mem_cons, List.not_mem_nil, or_false] at hn
      show n < 6; omega
    · show v_iv (n_v vs 3) + v_iv (n_v vs 5) ≤ 2000
      omega
  have rf5 : tv_ok ta (0, 0, 8, []) (n_v vs 5) := tv_in t5 (by omega) (by omega)
  refine ⟨List.forall_mem_cons.mpr ⟨rf5, (fun _ h => (by cases h))⟩, [], trivial, ?_, (fun _ h => (by cases h))⟩
  rw [List.append_nil]
  exact List.forall_mem_cons.mpr ⟨⟨show (21 : Nat) < 100 from by decide, nf0⟩, (fun _ h => (by cases h))⟩
def o_Re_meetNode_1 : or_T := (72, 14, [(0, (2, 0, 0, [8])), (3, (0, 0, 2000, [])), (4, (0, 0, 2000, [])), (5, (0, 0, 8, [])), (10, (0, -2000, 2000, []))], [(2, [10, 4, 3], []), (9, [3, 0], [8]), (9, [4, 0], [6]), (21, [3, 5], [2000]), (2, [5, 4, 3], []), (20, [0, 0], [30, 8, 1, 1, 6, -1, 1, 8]), (20, [0, 0], [30, 0, -1, 1, 6, 1, 1, 8])], [(10, (0, 0, 8, []))], [], [(21, [3, 10], [2000])], [], [(10, 4, -2000, 0), (5, 4, -2000, 0)])
theorem oo_Re_meetNode_1 {kA : Nat → ClassId} : or_ok kA GG o_Re_meetNode_1 := by
  intro A ta ws vs hD hth hl hk hds hf
  have hl : vs.length = 14 := hl
  have hk : ∀ q ∈ ([(0, (2, 0, 0, [8])), (3, (0, 0, 2000, [])), (4, (0, 0, 2000, [])), (5, (0, 0, 8, [])), (10, (0, -2000, 2000, []))] : List (Nat × tv_T)), tv_ok ta q.2 (n_v vs q.1) := hk
  obtain ⟨t0, hk⟩ := List.forall_mem_cons.mp hk
  have t0 : tv_ok ta (2, 0, 0, [8]) (n_v vs 0) := t0
  have r0 : ta (v_ad (n_v vs 0)) = some 8 := tv_rg t0
  obtain ⟨t3, hk⟩ := List.forall_mem_cons.mp hk
  have t3 : tv_ok ta (0, 0, 2000, []) (n_v vs 3) := t3
  have k3 : 0 ≤ v_iv (n_v vs 3) ∧ v_iv (n_v vs 3) ≤ 2000 := tv_rng t3
  obtain ⟨t4, hk⟩ := List.forall_mem_cons.mp hk
  have t4 : tv_ok ta (0, 0, 2000, []) (n_v vs 4) := t4
  have k4 : 0 ≤ v_iv (n_v vs 4) ∧ v_iv (n_v vs 4) ≤ 2000 := tv_rng t4
  obtain ⟨t5, hk⟩ := List.forall_mem_cons.mp hk
  have t5 : tv_ok ta (0, 0, 8, []) (n_v vs 5) := t5
  have k5 : 0 ≤ v_iv (n_v vs 5) ∧ v_iv (n_v vs 5) ≤ 8 := tv_rng t5
  obtain ⟨t10, hk⟩ := List.forall_mem_cons.mp hk
  have t10 : tv_ok ta (0, -2000, 2000, []) (n_v vs 10) := t10
  have k10 : (-2000) ≤ v_iv (n_v vs 10) ∧ v_iv (n_v vs 10) ≤ 2000 := tv_rng t10
  have hds : ∀ q ∈ ([(10, 4, -2000, 0), (5, 4, -2000, 0)] : List of_T), n_iv vs q.2.1 + q.2.2.1 ≤ n_iv vs q.1 ∧ n_iv vs q.1 ≤ n_iv vs q.2.1 + q.2.2.2 := hds
  obtain ⟨d0, hds⟩ := List.forall_mem_cons.mp hds
  have d0 : v_iv (n_v vs 4) + (-2000) ≤ v_iv (n_v vs 10) ∧ v_iv (n_v vs 10) ≤ v_iv (n_v vs 4) + 0 := d0
  obtain ⟨d1, hds⟩ := List.forall_mem_cons.mp hds
  have d1 : v_iv (n_v vs 4) + (-2000) ≤ v_iv (n_v vs 5) ∧ v_iv (n_v vs 5) ≤ v_iv (n_v vs 4) + 0 := d1
  have hf : fc_ok [(2, [10, 4, 3], []), (9, [3, 0], [8]), (9, [4, 0], [6]), (21, [3, 5], [2000]), (2, [5, 4, 3], []), (20, [0, 0], [30, 8, 1, 1, 6, -1, 1, 8]), (20, [0, 0], [30, 0, -1, 1, 6, 1, 1, 8])] ta ws vs := hf
  obtain ⟨f0, hf⟩ := fc_un (show (2 : Nat) < 100 from by decide) hf
  have f0 : v_iv (n_v vs 10) = v_iv (n_v vs 4) - v_iv (n_v vs 3) := f0
  obtain ⟨f1, hf⟩ := fc_un (show (9 : Nat) < 100 from by decide) hf
  have f1 : n_v vs 3 = w_fd ws (v_ad (n_v vs 0)) 8 := f1
  obtain ⟨f2, hf⟩ := fc_un (show (9 : Nat) < 100 from by decide) hf
  have f2 : n_v vs 4 = w_fd ws (v_ad (n_v vs 0)) 6 := f2
  obtain ⟨f3, hf⟩ := fc_un (show (21 : Nat) < 100 from by decide) hf
  have f3 : v_iv (n_v vs 3) + v_iv (n_v vs 5) ≤ 2000 := f3
  obtain ⟨f4, hf⟩ := fc_un (show (2 : Nat) < 100 from by decide) hf
  have f4 : v_iv (n_v vs 5) = v_iv (n_v vs 4) - v_iv (n_v vs 3) := f4
  obtain ⟨f5, hf⟩ := fc_un (show (20 : Nat) < 100 from by decide) hf
  have f5 : 1 * w_fi ws (n_v vs 0) 6 + ((-1) * w_fi ws (n_v vs 0) 8 + 0) ≤ 8 := f5
  obtain ⟨f6, hf⟩ := fc_un (show (20 : Nat) < 100 from by decide) hf
  have f6 : (-1) * w_fi ws (n_v vs 0) 6 + (1 * w_fi ws (n_v vs 0) 8 + 0) ≤ 0 := f6
  have g1 : v_iv (n_v vs 3) = w_fi ws (n_v vs 0) 8 := congrArg v_iv f1
  have g2 : v_iv (n_v vs 4) = w_fi ws (n_v vs 0) 6 := congrArg v_iv f2
  have kz_0_6 : 0 ≤ w_fi ws (n_v vs 0) 6 ∧ w_fi ws (n_v vs 0) 6 ≤ 2000 := tv_rng (th_fd hD hth r0 (g := GG_8) rfl (k := 6) (t := (0, 0, 2000, [])) rfl rfl)
  have kz_0_8 : 0 ≤ w_fi ws (n_v vs 0) 8 ∧ w_fi ws (n_v vs 0) 8 ≤ 2000 := tv_rng (th_fd hD hth r0 (g := GG_8) rfl (k := 8) (t := (0, 0, 2000, [])) rfl rfl)
  have nf0 : fc_1 (21, [3, 10], [2000]) ws (vs) := by
    refine ⟨fun n hn => ?_, ?_⟩
    · have hn : n ∈ [3, 10] := hn
      rw [hl]
      simp only [List.mem_cons, List.not_mem_nil, or_false] at hn
      show n < 14; omega
    · show v_iv (n_v vs 3) + v_iv (n_v vs 10) ≤ 2000
      omega
  have rf10 : tv_ok ta (0, 0, 8, []) (n_v vs 10) := tv_in t10 (by omega) (by omega)
  refine ⟨List.forall_mem_cons.mpr ⟨rf10, (fun _ h => (by cases h))⟩, [], trivial, ?_, (fun _ h => (by cases h))⟩
  rw [List.append_nil]
  exact List.forall_mem_cons.mpr ⟨⟨show (21 : Nat) < 100 from by decide, nf0⟩, (fun _ h => (by cases h))⟩
def n_Re_meetNode_an : List an_T := []
def t_Re_meetNode_ct : ct_L := [(67, 116, e_Gr_findNode_at_Retape), (220, 123, e_Gr_addNode_at_Retape)]
set_option maxRecDepth 100000 in
theorem c_Re_meetNode {l : Launch} {D : va_G} {kA : Nat → ClassId} (h_Gr_addNode_at_Retape : ct_ok l D kA GG y_Gr_addNode_at_Retape z_Gr_addNode_at_Retape e_Gr_addNode_at_Retape) (h_Gr_findNode_at_Retape : ct_ok l D kA GG y_Gr_findNode_at_Retape z_Gr_findNode_at_Retape e_Gr_findNode_at_Retape) : ct_ok l D kA GG y_Re_meetNode z_Re_meetNode e_Re_meetNode := chk_all_ok (FT := [(9, 8, 0), (28, 8, 4), (35, 8, 6), (41, 8, 8), (47, 8, 10), (51, 8, 11), (120, 3, 0)]) (PT := []) (CT := t_Re_meetNode_ct) (KT := []) (NT := []) (AN := n_Re_meetNode_an) (OT := [o_Re_meetNode_0, o_Re_meetNode_1]) 0 200 (List.forall_mem_cons.mpr ⟨oo_Re_meetNode_0, List.forall_mem_cons.mpr ⟨oo_Re_meetNode_1, List.forall_mem_nil _⟩⟩) (by decide +kernel) ⟨List.forall_mem_cons.mpr ⟨gf_Re_9, List.forall_mem_cons.mpr ⟨gf_Re_28, List.forall_mem_cons.mpr ⟨gf_Re_35, List.forall_mem_cons.mpr ⟨gf_Re_41, List.forall_mem_cons.mpr ⟨gf_Re_47, List.forall_mem_cons.mpr ⟨gf_Re_51, List.forall_mem_cons.mpr ⟨gf_Re_120, List.forall_mem_nil _⟩⟩⟩⟩⟩⟩⟩, List.forall_mem_nil _, List.forall_mem_cons.mpr ⟨cl_virtual (y := y_Gr_findNode_at_Retape) (ci := 3) rfl rfl ⟨_, _, rfl⟩ (by decide +kernel) h_Gr_findNode_at_Retape wm_739 wm_3 wm_736 wm_737 wm_738 ⟨by decide, by decide, by decide +kernel⟩ (by decide), List.forall_mem_cons.mpr ⟨cl_virtual (y := y_Gr_addNode_at_Retape) (ci := 3) rfl rfl ⟨_, _, rfl⟩ (by decide +kernel) h_Gr_addNode_at_Retape wm_747 wm_3 wm_744 wm_745 wm_746 ⟨by decide, by decide, by decide +kernel⟩ (by decide), List.forall_mem_nil _⟩⟩, List.forall_mem_nil _, List.forall_mem_nil _, GG_pl⟩ (by decide +kernel)
def n_Sy_run_an : List an_T := []
def t_Sy_run_ct : ct_L := [(0, 270, e_Sy_join), (1, 251, e_Sy_pop), (1, 266, e_Sy_push)]
set_option maxRecDepth 100000 in
theorem c_Sy_run {l : Launch} {D : va_G} {kA : Nat → ClassId} (h_Sy_join : ct_ok l D kA GG y_Sy_join z_Sy_join e_Sy_join) (h_Sy_pop : ct_ok l D kA GG y_Sy_pop z_Sy_pop e_Sy_pop) (h_Sy_push : ct_ok l D kA GG y_Sy_push z_Sy_push e_Sy_push) : ct_ok l D kA GG y_Sy_run z_Sy_run e_Sy_run := chk_all_ok (FT := [(66, 11, 16)]) (PT := []) (CT := t_Sy_run_ct) (KT := []) (NT := []) (AN := n_Sy_run_an) (OT := []) 0 228 (List.forall_mem_nil _) (by decide +kernel) ⟨List.forall_mem_cons.mpr ⟨gf_Sy_66, List.forall_mem_nil _⟩, List.forall_mem_nil _, List.forall_mem_cons.mpr ⟨cl_static (y := y_Sy_join) h_Sy_join wm_2315 wm_23 wm_2313 wm_2314 ⟨by decide, by decide, by decide +kernel⟩ (by decide), List.forall_mem_cons.mpr ⟨cl_virtual (y := y_Sy_pop) (ci := 11) rfl rfl ⟨_, _, rfl⟩ (by decide +kernel) h_Sy_pop wm_2301 wm_23 wm_2298 wm_2300 wv_11_10 ⟨by decide, by decide, by decide +kernel⟩ (by decide), List.forall_mem_cons.mpr ⟨cl_virtual (y := y_Sy_push) (ci := 11) rfl rfl ⟨_, _, rfl⟩ (by decide +kernel) h_Sy_push wm_2312 wm_23 wm_2309 wm_2311 wv_11_12 ⟨by decide, by decide, by decide +kernel⟩ (by decide), List.forall_mem_nil _⟩⟩⟩, List.forall_mem_nil _, List.forall_mem_nil _, GG_pl⟩ (by decide +kernel)
def o_Mo_becomes_at_k219_k0_0 : or_T := (1000000, 0, [], [], [], [], [], [], [])
theorem oo_Mo_becomes_at_k219_k0_0 {kA : Nat → ClassId} : or_ok kA GG o_Mo_becomes_at_k219_k0_0 := fun _ _ _ _ _ _ _ _ _ _ => ⟨fun q h => (by cases h), [], trivial, fun f h => (by cases h), fun q h => (by cases h)⟩
def n_Mo_becomes_at_k219_k0_an : List an_T := []
def t_Mo_becomes_at_k219_k0_ct : ct_L := []
set_option maxRecDepth 100000 in
theorem c_Mo_becomes_at_k219_k0 {l : Launch} {D : va_G} {kA : Nat → ClassId} : ct_ok l D kA GG y_Mo_becomes_at_k219_k0 z_Mo_becomes_at_k219_k0 e_Mo_becomes_at_k219_k0 := chk_all_ok (FT := [(16, 13, 2), (391, 13, 5)]) (PT := []) (CT := t_Mo_becomes_at_k219_k0_ct) (KT := []) (NT := []) (AN := n_Mo_becomes_at_k219_k0_an) (OT := [o_Mo_becomes_at_k219_k0_0]) 0 200 (List.forall_mem_cons.mpr ⟨oo_Mo_becomes_at_k219_k0_0, List.forall_mem_nil _⟩) (by decide +kernel) ⟨List.forall_mem_cons.mpr ⟨gf_Mo_16, List.forall_mem_cons.mpr ⟨gf_Mo_391, List.forall_mem_nil _⟩⟩, List.forall_mem_nil _, List.forall_mem_nil _, List.forall_mem_nil _, List.forall_mem_nil _, GG_pl⟩ (by decide +kernel)
def o_Mo_becomes_at_k219_k1_0 : or_T := (1000000, 0, [], [], [], [], [], [], [])
theorem oo_Mo_becomes_at_k219_k1_0 {kA : Nat → ClassId} : or_ok kA GG o_Mo_becomes_at_k219_k1_0 := fun _ _ _ _ _ _ _ _ _ _ => ⟨fun q h => (by cases h), [], trivial, fun f h => (by cases h), fun q h => (by cases h)⟩
def n_Mo_becomes_at_k219_k1_an : List an_T := []
def t_Mo_becomes_at_k219_k1_ct : ct_L := [(28, 533, e_Mo_step_at_gx)]
set_option maxRecDepth 100000 in
theorem c_Mo_becomes_at_k219_k1 {l : Launch} {D : va_G} {kA : Nat → ClassId} (h_Mo_step_at_gx : ct_ok l D kA GG y_Mo_step_at_gx z_Mo_step_at_gx e_Mo_step_at_gx) : ct_ok l D kA GG y_Mo_becomes_at_k219_k1 z_Mo_becomes_at_k219_k1 e_Mo_becomes_at_k219_k1 := chk_all_ok (FT := [(16, 13, 2), (391, 13, 5)]) (PT := []) (CT := t_Mo_becomes_at_k219_k1_ct) (KT := []) (NT := []) (AN := n_Mo_becomes_at_k219_k1_an) (OT := [o_Mo_becomes_at_k219_k1_0]) 0 200 (List.forall_mem_cons.mpr ⟨oo_Mo_becomes_at_k219_k1_0, List.forall_mem_nil _⟩) (by decide +kernel) ⟨List.forall_mem_cons.mpr ⟨gf_Mo_16, List.forall_mem_cons.mpr ⟨gf_Mo_391, List.forall_mem_nil _⟩⟩, List.forall_mem_nil _, List.forall_mem_cons.mpr ⟨cl_virtual (y := y_Mo_step_at_gx) (ci := 13) rfl rfl ⟨_, _, rfl⟩ (by decide +kernel) h_Mo_step_at_gx wm_3099 wm_9 wm_3096 wm_3098 wv_14_4 ⟨by decide, by decide, by decide +kernel⟩ (by decide), List.forall_mem_nil _⟩, List.forall_mem_nil _, List.forall_mem_nil _, GG_pl⟩ (by decide +kernel)
def o_Mo_becomes_at_k243_k0_0 : or_T := (1000000, 0, [], [], [], [], [], [], [])
theorem oo_Mo_becomes_at_k243_k0_0 {kA : Nat → ClassId} : or_ok kA GG o_Mo_becomes_at_k243_k0_0 := fun _ _ _ _ _ _ _ _ _ _ => ⟨fun q h => (by cases h), [], trivial, fun f h => (by cases h), fun q h => (by cases h)⟩
def n_Mo_becomes_at_k243_k0_an : List an_T := []
def t_Mo_becomes_at_k243_k0_ct : ct_L := []
set_option maxRecDepth 100000 in
theorem c_Mo_becomes_at_k243_k0 {l : Launch} {D : va_G} {kA : Nat → ClassId} : ct_ok l D kA GG y_Mo_becomes_at_k243_k0 z_Mo_becomes_at_k243_k0 e_Mo_becomes_at_k243_k0 := chk_all_ok (FT := [(16, 13, 2), (391, 13, 5)]) (PT := []) (CT := t_Mo_becomes_at_k243_k0_ct) (KT := []) (NT := []) (AN := n_Mo_becomes_at_k243_k0_an) (OT := [o_Mo_becomes_at_k243_k0_0]) 0 200 (List.forall_mem_cons.mpr ⟨oo_Mo_becomes_at_k243_k0_0, List.forall_mem_nil _⟩) (by decide +kernel) ⟨List.forall_mem_cons.mpr ⟨gf_Mo_16, List.forall_mem_cons.mpr ⟨gf_Mo_391, List.forall_mem_nil _⟩⟩, List.forall_mem_nil _, List.forall_mem_nil _, List.forall_mem_nil _, List.forall_mem_nil _, GG_pl⟩ (by decide +kernel)
def o_Mo_becomes_at_k243_k1_0 : or_T := (1000000, 0, [], [], [], [], [], [], [])
theorem oo_Mo_becomes_at_k243_k1_0 {kA : Nat → ClassId} : or_ok kA GG o_Mo_becomes_at_k243_k1_0 := fun _ _ _ _ _ _ _ _ _ _ => ⟨fun q h => (by cases h), [], trivial, fun f h => (by cases h), fun q h => (by cases h)⟩
def n_Mo_becomes_at_k243_k1_an : List an_T := []
def t_Mo_becomes_at_k243_k1_ct : ct_L := [(28, 533, e_Mo_step_at_gx)]
set_option maxRecDepth 100000 in
theorem c_Mo_becomes_at_k243_k1 {l : Launch} {D : va_G} {kA : Nat → ClassId} (h_Mo_step_at_gx : ct_ok l D kA GG y_Mo_step_at_gx z_Mo_step_at_gx e_Mo_step_at_gx) : ct_ok l D kA GG y_Mo_becomes_at_k243_k1 z_Mo_becomes_at_k243_k1 e_Mo_becomes_at_k243_k1 := chk_all_ok (FT := [(16, 13, 2), (391, 13, 5)]) (PT := []) (CT := t_Mo_becomes_at_k243_k1_ct) (KT := []) (NT := []) (AN := n_Mo_becomes_at_k243_k1_an) (OT := [o_Mo_becomes_at_k243_k1_0]) 0 200 (List.forall_mem_cons.mpr ⟨oo_Mo_becomes_at_k243_k1_0, List.forall_mem_nil _⟩) (by decide +kernel) ⟨List.forall_mem_cons.mpr ⟨gf_Mo_16, List.forall_mem_cons.mpr ⟨gf_Mo_391, List.forall_mem_nil _⟩⟩, List.forall_mem_nil _, List.forall_mem_cons.mpr ⟨cl_virtual (y := y_Mo_step_at_gx) (ci := 13) rfl rfl ⟨_, _, rfl⟩ (by decide +kernel) h_Mo_step_at_gx wm_3099 wm_9 wm_3096 wm_3098 wv_14_4 ⟨by decide, by decide, by decide +kernel⟩ (by decide), List.forall_mem_nil _⟩, List.forall_mem_nil _, List.forall_mem_nil _, GG_pl⟩ (by decide +kernel)
def o_Mo_becomes_at_k363_k0_0 : or_T := (1000000, 0, [], [], [], [], [], [], [])
theorem oo_Mo_becomes_at_k363_k0_0 {kA : Nat → ClassId} : or_ok kA GG o_Mo_becomes_at_k363_k0_0 := fun _ _ _ _ _ _ _ _ _ _ => ⟨fun q h => (by cases h), [], trivial, fun f h => (by cases h), fun q h => (by cases h)⟩
def n_Mo_becomes_at_k363_k0_an : List an_T := []
def t_Mo_becomes_at_k363_k0_ct : ct_L := []
set_option maxRecDepth 100000 in
theorem c_Mo_becomes_at_k363_k0 {l : Launch} {D : va_G} {kA : Nat → ClassId} : ct_ok l D kA GG y_Mo_becomes_at_k363_k0 z_Mo_becomes_at_k363_k0 e_Mo_becomes_at_k363_k0 := chk_all_ok (FT := [(16, 13, 2), (391, 13, 5)]) (PT := []) (CT := t_Mo_becomes_at_k363_k0_ct) (KT := []) (NT := []) (AN := n_Mo_becomes_at_k363_k0_an) (OT := [o_Mo_becomes_at_k363_k0_0]) 0 200 (List.forall_mem_cons.mpr ⟨oo_Mo_becomes_at_k363_k0_0, List.forall_mem_nil _⟩) (by decide +kernel) ⟨List.forall_mem_cons.mpr ⟨gf_Mo_16, List.forall_mem_cons.mpr ⟨gf_Mo_391, List.forall_mem_nil _⟩⟩, List.forall_mem_nil _, List.forall_mem_nil _, List.forall_mem_nil _, List.forall_mem_nil _, GG_pl⟩ (by decide +kernel)
def o_Mo_becomes_at_k363_k1_0 : or_T := (1000000, 0, [], [], [], [], [], [], [])
theorem oo_Mo_becomes_at_k363_k1_0 {kA : Nat → ClassId} : or_ok kA GG o_Mo_becomes_at_k363_k1_0 := fun _ _ _ _ _ _ _ _ _ _ => ⟨fun q h => (by cases h), [], trivial, fun f h => (by cases h), fun q h => (by cases h)⟩
def n_Mo_becomes_at_k363_k1_an : List an_T := []
def t_Mo_becomes_at_k363_k1_ct : ct_L := [(28, 533, e_Mo_step_at_gx)]
set_option maxRecDepth 100000 in
theorem c_Mo_becomes_at_k363_k1 {l : Launch} {D : va_G} {kA : Nat → ClassId} (h_Mo_step_at_gx : ct_ok l D kA GG y_Mo_step_at_gx z_Mo_step_at_gx e_Mo_step_at_gx) : ct_ok l D kA GG y_Mo_becomes_at_k363_k1 z_Mo_becomes_at_k363_k1 e_Mo_becomes_at_k363_k1 := chk_all_ok (FT := [(16, 13, 2), (391, 13, 5)]) (PT := []) (CT := t_Mo_becomes_at_k363_k1_ct) (KT := []) (NT := []) (AN := n_Mo_becomes_at_k363_k1_an) (OT := [o_Mo_becomes_at_k363_k1_0]) 0 200 (List.forall_mem_cons.mpr ⟨oo_Mo_becomes_at_k363_k1_0, List.forall_mem_nil _⟩) (by decide +kernel) ⟨List.forall_mem_cons.mpr ⟨gf_Mo_16, List.forall_mem_cons.mpr ⟨gf_Mo_391, List.forall_mem_nil _⟩⟩, List.forall_mem_nil _, List.forall_mem_cons.mpr ⟨cl_virtual (y := y_Mo_step_at_gx) (ci := 13) rfl rfl ⟨_, _, rfl⟩ (by decide +kernel) h_Mo_step_at_gx wm_3099 wm_9 wm_3096 wm_3098 wv_14_4 ⟨by decide, by decide, by decide +kernel⟩ (by decide), List.forall_mem_nil _⟩, List.forall_mem_nil _, List.forall_mem_nil _, GG_pl⟩ (by decide +kernel)
def o_Mo_becomes_at_k411_k0_0 : or_T := (1000000, 0, [], [], [], [], [], [], [])
theorem oo_Mo_becomes_at_k411_k0_0 {kA : Nat → ClassId} : or_ok kA GG o_Mo_becomes_at_k411_k0_0 := fun _ _ _ _ _ _ _ _ _ _ => ⟨fun q h => (by cases h), [], trivial, fun f h => (by cases h), fun q h => (by cases h)⟩
def n_Mo_becomes_at_k411_k0_an : List an_T := []
def t_Mo_becomes_at_k411_k0_ct : ct_L := []
set_option maxRecDepth 100000 in
theorem c_Mo_becomes_at_k411_k0 {l : Launch} {D : va_G} {kA : Nat → ClassId} : ct_ok l D kA GG y_Mo_becomes_at_k411_k0 z_Mo_becomes_at_k411_k0 e_Mo_becomes_at_k411_k0 := chk_all_ok (FT := [(16, 13, 2), (391, 13, 5)]) (PT := []) (CT := t_Mo_becomes_at_k411_k0_ct) (KT := []) (NT := []) (AN := n_Mo_becomes_at_k411_k0_an) (OT := [o_Mo_becomes_at_k411_k0_0]) 0 200 (List.forall_mem_cons.mpr ⟨oo_Mo_becomes_at_k411_k0_0, List.forall_mem_nil _⟩) (by decide +kernel) ⟨List.forall_mem_cons.mpr ⟨gf_Mo_16, List.forall_mem_cons.mpr ⟨gf_Mo_391, List.forall_mem_nil _⟩⟩, List.forall_mem_nil _, List.forall_mem_nil _, List.forall_mem_nil _, List.forall_mem_nil _, GG_pl⟩ (by decide +kernel)
def o_Mo_becomes_at_k411_k1_0 : or_T := (1000000, 0, [], [], [], [], [], [], [])
theorem oo_Mo_becomes_at_k411_k1_0 {kA : Nat → ClassId} : or_ok kA GG o_Mo_becomes_at_k411_k1_0 := fun _ _ _ _ _ _ _ _ _ _ => ⟨fun q h => (by cases h), [], trivial, fun f h => (by cases h), fun q h => (by cases h)⟩
def n_Mo_becomes_at_k411_k1_an : List an_T := []
def t_Mo_becomes_at_k411_k1_ct : ct_L := [(28, 533, e_Mo_step_at_gx)]
set_option maxRecDepth 100000 in
theorem c_Mo_becomes_at_k411_k1 {l : Launch} {D : va_G} {kA : Nat → ClassId} (h_Mo_step_at_gx : ct_ok l D kA GG y_Mo_step_at_gx z_Mo_step_at_gx e_Mo_step_at_gx) : ct_ok l D kA GG y_Mo_becomes_at_k411_k1 z_Mo_becomes_at_k411_k1 e_Mo_becomes_at_k411_k1 := chk_all_ok (FT := [(16, 13, 2), (391, 13, 5)]) (PT := []) (CT := t_Mo_becomes_at_k411_k1_ct) (KT := []) (NT := []) (AN := n_Mo_becomes_at_k411_k1_an) (OT := [o_Mo_becomes_at_k411_k1_0]) 0 200 (List.forall_mem_cons.mpr ⟨oo_Mo_becomes_at_k411_k1_0, List.forall_mem_nil _⟩) (by decide +kernel) ⟨List.forall_mem_cons.mpr ⟨gf_Mo_16, List.forall_mem_cons.mpr ⟨gf_Mo_391, List.forall_mem_nil _⟩⟩, List.forall_mem_nil _, List.forall_mem_cons.mpr ⟨cl_virtual (y := y_Mo_step_at_gx) (ci := 13) rfl rfl ⟨_, _, rfl⟩ (by decide +kernel) h_Mo_step_at_gx wm_3099 wm_9 wm_3096 wm_3098 wv_14_4 ⟨by decide, by decide, by decide +kernel⟩ (by decide), List.forall_mem_nil _⟩, List.forall_mem_nil _, List.forall_mem_nil _, GG_pl⟩ (by decide +kernel)
