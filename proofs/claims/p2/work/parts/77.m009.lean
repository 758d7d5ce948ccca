def o_Pl_layRing_0 : or_T := (134, 10, [(1, (0, 1, 24, [])), (4, (0, 0, 24, [])), (7, (0, 0, 0, [])), (9, (0, 0, 0, []))], [(101, [0, 5], [8]), (7, [1, 4], [3])], [], [], [(21, [7, 4], [24]), (21, [9, 4], [24])], [], [(1, 4, 0, 4294967296)])
theorem oo_Pl_layRing_0 {kA : Nat → ClassId} : or_ok kA GG o_Pl_layRing_0 := by
  intro A ta ws vs hD hth hl hk hds hf
  have hl : vs.length = 10 := hl
  have hk : ∀ q ∈ ([(1, (0, 1, 24, [])), (4, (0, 0, 24, [])), (7, (0, 0, 0, [])), (9, (0, 0, 0, []))] : List (Nat × tv_T)), tv_ok ta q.2 (n_v vs q.1) := hk
  obtain ⟨t1, hk⟩ := List.forall_mem_cons.mp hk
  have t1 : tv_ok ta (0, 1, 24, []) (n_v vs 1) := t1
  have k1 : 1 ≤ v_iv (n_v vs 1) ∧ v_iv (n_v vs 1) ≤ 24 := tv_rng t1
  obtain ⟨t4, hk⟩ := List.forall_mem_cons.mp hk
  have t4 : tv_ok ta (0, 0, 24, []) (n_v vs 4) := t4
  have k4 : 0 ≤ v_iv (n_v vs 4) ∧ v_iv (n_v vs 4) ≤ 24 := tv_rng t4
  obtain ⟨t7, hk⟩ := List.forall_mem_cons.mp hk
  have t7 : tv_ok ta (0, 0, 0, []) (n_v vs 7) := t7
  have k7 : 0 ≤ v_iv (n_v vs 7) ∧ v_iv (n_v vs 7) ≤ 0 := tv_rng t7
  obtain ⟨t9, hk⟩ := List.forall_mem_cons.mp hk
  have t9 : tv_ok ta (0, 0, 0, []) (n_v vs 9) := t9
  have k9 : 0 ≤ v_iv (n_v vs 9) ∧ v_iv (n_v vs 9) ≤ 0 := tv_rng t9
  have hds : ∀ q ∈ ([(1, 4, 0, 4294967296)] : List of_T), n_iv vs q.2.1 + q.2.2.1 ≤ n_iv vs q.1 ∧ n_iv vs q.1 ≤ n_iv vs q.2.1 + q.2.2.2 := hds
  obtain ⟨d0, hds⟩ := List.forall_mem_cons.mp hds
  have d0 : v_iv (n_v vs 4) + 0 ≤ v_iv (n_v vs 1) ∧ v_iv (n_v vs 1) ≤ v_iv (n_v vs 4) + 4294967296 := d0
  have hf : fc_ok [(101, [0, 5], [8]), (7, [1, 4], [3])] ta ws vs := hf
  obtain ⟨ta1, w1, le1, ⟨_, s1⟩, hf⟩ := fc_us (show ¬ (101 : Nat) < 100 from by decide) hf
  have s1 : (∀ b j, w_el ws b j = w_el w1 b j) ∧ ∀ b j, w_fd ws b j = if b = v_ad (n_v vs 0) ∧ j = 8 then n_v vs 5 else w_fd w1 b j := s1
  obtain ⟨f1, hf⟩ := fc_un (show (7 : Nat) < 100 from by decide) hf
  have f1 : v_iv (n_v vs 4) ≤ v_iv (n_v vs 1) := f1
  have nf0 : fc_1 (21, [7, 4], [24]) ws (vs) := by
    refine ⟨fun n hn => ?_, ?_⟩
    · have hn : n ∈ [7, 4] := hn
      rw [hl]
      simp only [List.mem_cons, List.not_mem_nil, or_false] at hn
      show n < 10; omega
    · show v_iv (n_v vs 7) + v_iv (n_v vs 4) ≤ 24
      omega
  have nf1 : fc_1 (21, [9, 4], [24]) ws (vs) := by
    refine ⟨fun n hn => ?_, ?_⟩
    · have hn : n ∈ [9, 4] := hn
      rw [hl]
      simp only [List.mem_cons, List.not_mem_nil, or_false] at hn
      show n < 10; omega
    · show v_iv (n_v vs 9) + v_iv (n_v vs 4) ≤ 24
      omega
  refine ⟨(fun _ h => (by cases h)), [], trivial, ?_, (fun _ h => (by cases h))⟩
  rw [List.append_nil]
  exact List.forall_mem_cons.mpr ⟨⟨show (21 : Nat) < 100 from by decide, nf0⟩, List.forall_mem_cons.mpr ⟨⟨show (21 : Nat) < 100 from by decide, nf1⟩, (fun _ h => (by cases h))⟩⟩
def n_Pl_layRing_an : List an_T := [(2, [(0, (2, 0, 0, [6])), (1, (0, 0, 24, []))], [], (0, 0), [(0, 0, 99998), (1, 1, 24), (0, 0, 100000)], [], [((0, 0), (2, 0, 0, [3])), ((0, 1), (2, 0, 0, [0]))], [], 0, [], []), (63, [(0, (2, 0, 0, [6])), (1, (0, 1, 24, []))], [], (0, 0), [(0, 0, 99937), (1, 1, 24), (0, 0, 100000)], [], [((0, 0), (2, 0, 0, [3])), ((0, 1), (2, 0, 0, [0]))], [], 0, [], []), (87, [(0, (2, 0, 0, [6])), (1, (0, 1, 24, []))], [], (0, 0), [(0, 0, 99913), (1, 1, 24), (0, 0, 100000)], [], [((0, 0), (2, 0, 0, [3])), ((0, 1), (2, 0, 0, [0]))], [], 0, [], []), (161, [(0, (2, 0, 0, [6])), (1, (0, 0, 192, [])), (2, (0, 0, 24, []))], [], (0, 0), [(0, 0, 99839), (1, 2, 24), (0, 0, 100000)], [], [((0, 0), (2, 0, 0, [3])), ((0, 1), (2, 0, 0, [0]))], [], 0, [], [])]
def t_Pl_layRing_ct : ct_L := [(1, 217, e_Pl_moveOnRing), (1, 220, e_Pl_ringCrossings), (169, 213, e_Pl_tryRing_at_k1), (405, 175, e_acp_55), (405, 175, e_acp_56), (405, 175, e_acp_57), (405, 175, e_acp_58), (405, 175, e_acp_61), (405, 175, e_acp_62), (405, 175, e_acp_78), (405, 175, e_acp_79), (405, 175, e_acp_80), (405, 175, e_acp_81), (594, 130, e_jMath_min1_v77), (594, 130, e_jMath_min1_v79), (594, 130, e_jMath_min1_v84), (594, 130, e_jMath_min1_v89), (594, 130, e_jMath_min1_v94), (594, 130, e_jMath_min1_v99), (594, 130, e_jMath_min1_v104), (594, 130, e_jMath_min1_v109), (594, 130, e_jMath_min1_v114), (594, 130, e_jMath_min1_v119), (594, 130, e_jMath_min1_v124), (594, 130, e_jMath_min1_v129), (594, 130, e_jMath_min1_v139), (594, 130, e_jMath_min1_v134), (618, 130, e_jMath_min1_v77), (618, 130, e_jMath_min1_v80), (618, 130, e_jMath_min1_v85), (618, 130, e_jMath_min1_v90), (618, 130, e_jMath_min1_v95), (618, 130, e_jMath_min1_v100), (618, 130, e_jMath_min1_v105), (618, 130, e_jMath_min1_v110), (618, 130, e_jMath_min1_v115), (618, 130, e_jMath_min1_v120), (618, 130, e_jMath_min1_v125), (618, 130, e_jMath_min1_v130), (618, 130, e_jMath_min1_v140), (618, 130, e_jMath_min1_v135), (627, 150, e_jMath_max1_v78), (627, 150, e_jMath_max1_v81), (627, 150, e_jMath_max1_v86), (627, 150, e_jMath_max1_v91), (627, 150, e_jMath_max1_v96), (627, 150, e_jMath_max1_v101), (627, 150, e_jMath_max1_v106), (627, 150, e_jMath_max1_v111), (627, 150, e_jMath_max1_v116), (627, 150, e_jMath_max1_v121), (627, 150, e_jMath_max1_v126), (627, 150, e_jMath_max1_v131), (627, 150, e_jMath_max1_v141), (627, 150, e_jMath_max1_v136), (681, 130, e_jMath_min1_v77), (681, 130, e_jMath_min1_v82), (681, 130, e_jMath_min1_v87), (681, 130, e_jMath_min1_v92), (681, 130, e_jMath_min1_v97), (681, 130, e_jMath_min1_v102), (681, 130, e_jMath_min1_v107), (681, 130, e_jMath_min1_v112), (681, 130, e_jMath_min1_v117), (681, 130, e_jMath_min1_v122), (681, 130, e_jMath_min1_v127), (681, 130, e_jMath_min1_v132), (681, 130, e_jMath_min1_v142), (681, 130, e_jMath_min1_v137), (705, 130, e_jMath_min1_v77), (705, 130, e_jMath_min1_v83), (705, 130, e_jMath_min1_v88), (705, 130, e_jMath_min1_v93), (705, 130, e_jMath_min1_v98), (705, 130, e_jMath_min1_v103), (705, 130, e_jMath_min1_v108), (705, 130, e_jMath_min1_v113), (705, 130, e_jMath_min1_v118), (705, 130, e_jMath_min1_v123), (705, 130, e_jMath_min1_v128), (705, 130, e_jMath_min1_v133), (705, 130, e_jMath_min1_v143), (705, 130, e_jMath_min1_v138), (714, 150, e_jMath_max1_v78), (714, 150, e_jMath_max1_v81), (714, 150, e_jMath_max1_v86), (714, 150, e_jMath_max1_v91), (714, 150, e_jMath_max1_v96), (714, 150, e_jMath_max1_v101), (714, 150, e_jMath_max1_v106), (714, 150, e_jMath_max1_v111), (714, 150, e_jMath_max1_v116), (714, 150, e_jMath_max1_v121), (714, 150, e_jMath_max1_v126), (714, 150, e_jMath_max1_v131), (714, 150, e_jMath_max1_v141), (714, 150, e_jMath_max1_v136)]
set_option maxRecDepth 100000 in
theorem c_Pl_layRing {l : Launch} {D : va_G} {kA : Nat → ClassId} (h_Pl_moveOnRing : ct_ok l D kA GG y_Pl_moveOnRing z_Pl_moveOnRing e_Pl_moveOnRing) (h_Pl_ringCrossings : ct_ok l D kA GG y_Pl_ringCrossings z_Pl_ringCrossings e_Pl_ringCrossings) (h_Pl_tryRing_at_k1 : ct_ok l D kA GG y_Pl_tryRing_at_k1 z_Pl_tryRing_at_k1 e_Pl_tryRing_at_k1) : ct_ok l D kA GG y_Pl_layRing z_Pl_layRing e_Pl_layRing := chk_all_ok (FT := [(9, 6, 0), (15, 6, 1), (19, 6, 2), (23, 6, 3), (38, 6, 8), (74, 3, 0), (127, 0, 2), (135, 0, 3)]) (PT := [(38, 6, 8, .int), (224, 0, 7, .int)]) (CT := t_Pl_layRing_ct) (KT := [(0, 212, .int (1000000000), (0, 1000000000, 1000000000, []))]) (NT := []) (AN := n_Pl_layRing_an) (OT := [o_Pl_layRing_0]) 3 592 (List.forall_mem_cons.mpr ⟨oo_Pl_layRing_0, List.forall_mem_nil _⟩) (by decide +kernel) ⟨List.forall_mem_cons.mpr ⟨gf_Pl_9, List.forall_mem_cons.mpr ⟨gf_Pl_15, List.forall_mem_cons.mpr ⟨gf_Pl_19, List.forall_mem_cons.mpr ⟨gf_Pl_23, List.forall_mem_cons.mpr ⟨gf_Pl_38, List.forall_mem_cons.mpr ⟨gf_Pl_74, List.forall_mem_cons.mpr ⟨gf_Pl_127, List.forall_mem_cons.mpr ⟨gf_Pl_135, List.forall_mem_nil _⟩⟩⟩⟩⟩⟩⟩⟩, List.forall_mem_cons.mpr ⟨pf_Pl_38, List.forall_mem_cons.mpr ⟨pf_Pl_224, List.forall_mem_nil _⟩⟩, List.forall_mem_cons.mpr ⟨cl_virtual (y := y_Pl_moveOnRing) (ci := 6) rfl rfl ⟨_, _, rfl⟩ (by decide +kernel) h_Pl_moveOnRing wm_1775 wm_21 wm_1772 wm_1774 wv_8_7 ⟨by decide, by decide, by decide +kernel⟩ (by decide), List.forall_mem_cons.mpr ⟨cl_virtual (y := y_Pl_ringCrossings) (ci := 6) rfl rfl ⟨_, _, rfl⟩ (by decide +kernel) h_Pl_ringCrossings wm_1779 wm_21 wm_1776 wm_1778 wv_8_8 ⟨by decide, by decide, by decide +kernel⟩ (by decide), List.forall_mem_cons.mpr ⟨cl_virtual (y := y_Pl_tryRing_at_k1) (ci := 6) rfl rfl ⟨_, _, rfl⟩ (by decide +kernel) h_Pl_tryRing_at_k1 wm_1766 wm_21 wm_1763 wm_1765 wv_8_5 ⟨by decide, by decide, by decide +kernel⟩ (by decide), List.forall_mem_cons.mpr ⟨cl_copy rfl rfl (by decide) (by decide) (by decide) wm_1735 wm_750 wm_749 wm_15, List.forall_mem_cons.mpr ⟨cl_copy rfl rfl (by decide) (by decide) (by decide) wm_1735 wm_750 wm_749 wm_15, List.forall_mem_cons.mpr ⟨cl_copy rfl rfl (by decide) (by decide) (by decide) wm_1735 wm_750 wm_749 wm_15, List.forall_mem_cons.mpr ⟨cl_copy rfl rfl (by decide) (by decide) (by decide) wm_1735 wm_750 wm_749 wm_15, List.forall_mem_cons.mpr ⟨cl_copy rfl rfl (by decide) (by decide) (by decide) wm_1735 wm_750 wm_749 wm_15, List.forall_mem_cons.mpr ⟨cl_copy rfl rfl (by decide) (by decide) (by decide) wm_1735 wm_750 wm_749 wm_15, List.forall_mem_cons.mpr ⟨cl_copy rfl rfl (by decide) (by decide) (by decide) wm_1735 wm_750 wm_749 wm_15, List.forall_mem_cons.mpr ⟨cl_copy rfl rfl (by decide) (by decide) (by decide) wm_1735 wm_750 wm_749 wm_15, List.forall_mem_cons.mpr ⟨cl_copy rfl rfl (by decide) (by decide) (by decide) wm_1735 wm_750 wm_749 wm_15, List.forall_mem_cons.mpr ⟨cl_copy rfl rfl (by decide) (by decide) (by decide) wm_1735 wm_750 wm_749 wm_15, List.forall_mem_cons.mpr ⟨cl_static (y := y_jMath_min1) c_jMath_min1_v77 wm_658 wm_10 wm_1716 wm_657 ⟨by decide, by decide, by decide +kernel⟩ (by decide), List.forall_mem_cons.mpr ⟨cl_static (y := y_jMath_min1) c_jMath_min1_v79 wm_658 wm_10 wm_1716 wm_657 ⟨by decide, by decide, by decide +kernel⟩ (by decide), List.forall_mem_cons.mpr ⟨cl_static (y := y_jMath_min1) c_jMath_min1_v84 wm_658 wm_10 wm_1716 wm_657 ⟨by decide, by decide, by decide +kernel⟩ (by decide), List.forall_mem_cons.mpr ⟨cl_static (y := y_jMath_min1) c_jMath_min1_v89 wm_658 wm_10 wm_1716 wm_657 ⟨by decide, by decide, by decide +kernel⟩ (by decide), List.forall_mem_cons.mpr ⟨cl_static (y := y_jMath_min1) c_jMath_min1_v94 wm_658 wm_10 wm_1716 wm_657 ⟨by decide, by decide, by decide +kernel⟩ (by decide), List.forall_mem_cons.mpr ⟨cl_static (y := y_jMath_min1) c_jMath_min1_v99 wm_658 wm_10 wm_1716 wm_657 ⟨by decide, by decide, by decide +kernel⟩ (by decide), List.forall_mem_cons.mpr ⟨cl_static (y := y_jMath_min1) c_jMath_min1_v104 wm_658 wm_10 wm_1716 wm_657 ⟨by decide, by decide, by decide +kernel⟩ (by decide), List.forall_mem_cons.mpr ⟨cl_static (y := y_jMath_min1) c_jMath_min1_v109 wm_658 wm_10 wm_1716 wm_657 ⟨by decide, by decide, by decide +kernel⟩ (by decide), List.forall_mem_cons.mpr ⟨cl_static (y := y_jMath_min1) c_jMath_min1_v114 wm_658 wm_10 wm_1716 wm_657 ⟨by decide, by decide, by decide +kernel⟩ (by decide), List.forall_mem_cons.mpr ⟨cl_static (y := y_jMath_min1) c_jMath_min1_v119 wm_658 wm_10 wm_1716 wm_657 ⟨by decide, by decide, by decide +kernel⟩ (by decide), List.forall_mem_cons.mpr ⟨cl_static (y := y_jMath_min1) c_jMath_min1_v124 wm_658 wm_10 wm_1716 wm_657 ⟨by decide, by decide, by decide +kernel⟩ (by decide), List.forall_mem_cons.mpr ⟨cl_static (y := y_jMath_min1) c_jMath_min1_v129 wm_658 wm_10 wm_1716 wm_657 ⟨by decide, by decide, by decide +kernel⟩ (by decide), List.forall_mem_cons.mpr ⟨cl_static (y := y_jMath_min1) c_jMath_min1_v139 wm_658 wm_10 wm_1716 wm_657 ⟨by decide, by decide, by decide +kernel⟩ (by decide), List.forall_mem_cons.mpr ⟨cl_static (y := y_jMath_min1) c_jMath_min1_v134 wm_658 wm_10 wm_1716 wm_657 ⟨by decide, by decide, by decide +kernel⟩ (by decide), List.forall_mem_cons.mpr ⟨cl_static (y := y_jMath_min1) c_jMath_min1_v77 wm_658 wm_10 wm_1716 wm_657 ⟨by decide, by decide, by decide +kernel⟩ (by decide), List.forall_mem_cons.mpr ⟨cl_static (y := y_jMath_min1) c_jMath_min1_v80 wm_658 wm_10 wm_1716 wm_657 ⟨by decide, by decide, by decide +kernel⟩ (by decide), List.forall_mem_cons.mpr ⟨cl_static (y := y_jMath_min1) c_jMath_min1_v85 wm_658 wm_10 wm_1716 wm_657 ⟨by decide, by decide, by decide +kernel⟩ (by decide), List.forall_mem_cons.mpr ⟨cl_static (y := y_jMath_min1) c_jMath_min1_v90 wm_658 wm_10 wm_1716 wm_657 ⟨by decide, by decide, by decide +kernel⟩ (by decide), List.forall_mem_cons.mpr ⟨cl_static (y := y_jMath_min1) c_jMath_min1_v95 wm_658 wm_10 wm_1716 wm_657 ⟨by decide, by decide, by decide +kernel⟩ (by decide), List.forall_mem_cons.mpr ⟨cl_static (y := y_jMath_min1) c_jMath_min1_v100 wm_658 wm_10 wm_1716 wm_657 ⟨by decide, by decide, by decide +kernel⟩ (by decide), List.forall_mem_cons.mpr ⟨cl_static (y := y_jMath_min1) c_jMath_min1_v105 wm_658 wm_10 wm_1716 wm_657 ⟨by decide, by decide, by decide +kernel⟩ (by decide), List.forall_mem_cons.mpr ⟨cl_static (y := y_jMath_min1) c_jMath_min1_v110 wm_658 wm_10 wm_1716 wm_657 ⟨by decide, by decide, by decide +kernel⟩ (by decide), List.forall_mem_cons.mpr ⟨cl_static (y := y_jMath_min1) c_jMath_min1_v115 wm_658 wm_10 wm_1716 wm_657 ⟨by decide, by decide, by decide +kernel⟩ (by decide), List.forall_mem_cons.mpr ⟨cl_static (y := y_jMath_min1) c_jMath_min1_v120 wm_658 wm_10 wm_1716 wm_657 ⟨by decide, by decide, by decide +kernel⟩ (by decide), List.forall_mem_cons.mpr ⟨cl_static (y := y_jMath_min1) c_jMath_min1_v125 wm_658 wm_10 wm_1716 wm_657 ⟨by decide, by decide, by decide +kernel⟩ (by decide), List.forall_mem_cons.mpr ⟨cl_static (y := y_jMath_min1) c_jMath_min1_v130 wm_658 wm_10 wm_1716 wm_657 ⟨by decide, by decide, by decide +kernel⟩ (by decide), List.forall_mem_cons.mpr ⟨cl_static (y := y_jMath_min1) c_jMath_min1_v140 wm_658 wm_10 wm_1716 wm_657 ⟨by decide, by decide, by decide +kernel⟩ (by decide), List.forall_mem_cons.mpr ⟨cl_static (y := y_jMath_min1) c_jMath_min1_v135 wm_658 wm_10 wm_1716 wm_657 ⟨by decide, by decide, by decide +kernel⟩ (by decide), List.forall_mem_cons.mpr ⟨cl_static (y := y_jMath_max1) c_jMath_max1_v78 wm_836 wm_10 wm_1714 wm_835 ⟨by decide, by decide, by decide +kernel⟩ (by decide), List.forall_mem_cons.mpr ⟨cl_static (y := y_jMath_max1) c_jMath_max1_v81 wm_836 wm_10 wm_1714 wm_835 ⟨by decide, by decide, by decide +kernel⟩ (by decide), List.forall_mem_cons.mpr ⟨cl_static (y := y_jMath_max1) c_jMath_max1_v86 wm_836 wm_10 wm_1714 wm_835 ⟨by decide, by decide, by decide +kernel⟩ (by decide), List.forall_mem_cons.mpr ⟨cl_static (y := y_jMath_max1) c_jMath_max1_v91 wm_836 wm_10 wm_1714 wm_835 ⟨by decide, by decide, by decide +kernel⟩ (by decide), List.forall_mem_cons.mpr ⟨cl_static (y := y_jMath_max1) c_jMath_max1_v96 wm_836 wm_10 wm_1714 wm_835 ⟨by decide, by decide, by decide +kernel⟩ (by decide), List.forall_mem_cons.mpr ⟨cl_static (y := y_jMath_max1) c_jMath_max1_v101 wm_836 wm_10 wm_1714 wm_835 ⟨by decide, by decide, by decide +kernel⟩ (by decide), List.forall_mem_cons.mpr ⟨cl_static (y := y_jMath_max1) c_jMath_max1_v106 wm_836 wm_10 wm_1714 wm_835 ⟨by decide, by decide, by decide +kernel⟩ (by decide), List.forall_mem_cons.mpr ⟨cl_static (y := y_jMath_max1) c_jMath_max1_v111 wm_836 wm_10 wm_1714 wm_835 ⟨by decide, by decide, by decide +kernel⟩ (by decide), List.forall_mem_cons.mpr ⟨cl_static (y := y_jMath_max1) c_jMath_max1_v116 wm_836 wm_10 wm_1714 wm_835 ⟨by decide, by decide, by decide +kernel⟩ (by decide), List.forall_mem_cons.mpr ⟨cl_static (y := y_jMath_max1) c_jMath_max1_v121 wm_836 wm_10 wm_1714 wm_835 ⟨by decide, by decide, by decide +kernel⟩ (by decide), List.forall_mem_cons.mpr ⟨cl_static (y := y_jMath_max1) c_jMath_max1_v126 wm_836 wm_10 wm_1714 wm_835 ⟨by decide, by decide, by decide +kernel⟩ (by decide), List.forall_mem_cons.mpr ⟨cl_static (y := y_jMath_max1) c_jMath_max1_v131 wm_836 wm_10 wm_1714 wm_835 ⟨by decide, by decide, by decide +kernel⟩ (by decide), List.forall_mem_cons.mpr ⟨cl_static (y := y_jMath_max1) c_jMath_max1_v141 wm_836 wm_10 wm_1714 wm_835 ⟨by decide, by decide, by decide +kernel⟩ (by decide), List.forall_mem_cons.mpr ⟨cl_static (y := y_jMath_max1) c_jMath_max1_v136 wm_836 wm_10 wm_1714 wm_835 ⟨by decide, by decide, by decide +kernel⟩ (by decide), List.forall_mem_cons.mpr ⟨cl_static (y := y_jMath_min1) c_jMath_min1_v77 wm_658 wm_10 wm_1716 wm_657 ⟨by decide, by decide, by decide +kernel⟩ (by decide), List.forall_mem_cons.mpr ⟨cl_static (y := y_jMath_min1) c_jMath_min1_v82 wm_658 wm_10 wm_1716 wm_657 ⟨by decide, by decide, by decide +kernel⟩ (by decide), List.forall_mem_cons.mpr ⟨cl_static (y := y_jMath_min1) c_jMath_min1_v87 wm_658 wm_10 wm_1716 wm_657 ⟨by decide, by decide, by decide +kernel⟩ (by decide), List.forall_mem_cons.mpr ⟨cl_static (y := y_jMath_min1) c_jMath_min1_v92 wm_658 wm_10 wm_1716 wm_657 ⟨by decide, by decide, by decide +kernel⟩ (by decide), List.forall_mem_cons.mpr ⟨cl_static (y := y_jMath_min1) c_jMath_min1_v97 wm_658 wm_10 wm_1716 wm_657 ⟨by decide, by decide, by decide +kernel⟩ (by decide), List.forall_mem_cons.mpr ⟨cl_static (y := y_jMath_min1) c_jMath_min1_v102 wm_658 wm_10 wm_1716 wm_657 ⟨by decide, by decide, by decide +kernel⟩ (by decide), List.forall_mem_cons.mpr ⟨cl_static (y := y_jMath_min1) c_jMath_min1_v107 wm_658 wm_10 wm_1716 wm_657 ⟨by decide, by decide, by decide +kernel⟩ (by decide), List.forall_mem_cons.mpr ⟨cl_static (y := y_jMath_min1) c_jMath_min1_v112 wm_658 wm_10 wm_1716 wm_657 ⟨by decide, by decide, by decide +kernel⟩ (by decide), List.forall_mem_cons.mpr ⟨cl_static (y := y_jMath_min1) c_jMath_min1_v117 wm_658 wm_10 wm_1716 wm_657 ⟨by decide, by decide, by decide +kernel⟩ (by decide), List.forall_mem_cons.mpr ⟨cl_static (y := y_jMath_min1) c_jMath_min1_v122 wm_658 wm_10 wm_1716 wm_657 ⟨by decide, by decide, by decide +kernel⟩ (by decide), List.forall_mem_cons.mpr ⟨cl_static (y := y_jMath_min1) c_jMath_min1_v127 wm_658 wm_10 wm_1716 wm_657 ⟨by decide, by decide, by decide +kernel⟩ (by decide), List.forall_mem_cons.mpr ⟨cl_static (y := y_jMath_min1) c_jMath_min1_v132 wm_658 wm_10 wm_1716 wm_657 ⟨by decide, by decide, by decide +kernel⟩ (by decide), List.forall_mem_cons.mpr ⟨cl_static (y := y_jMath_min1) c_jMath_min1_v142 wm_658 wm_10 wm_1716 wm_657 ⟨by decide, by decide, by decide +kernel⟩ (by decide), List.forall_mem_cons.mpr ⟨cl_static (y := y_jMath_min1) c_jMath_min1_v137 wm_658 wm_10 wm_1716 wm_657 ⟨by decide, by decide, by decide +kernel⟩ (by decide), List.forall_mem_cons.mpr ⟨cl_static (y := y_jMath_min1) c_jMath_min1_v77 wm_658 wm_10 wm_1716 wm_657 ⟨by decide, by decide, by decide +kernel⟩ (by decide), List.forall_mem_cons.mpr ⟨cl_static (y := y_jMath_min1) c_jMath_min1_v83 wm_658 wm_10 wm_1716 wm_657 ⟨by decide, by decide, by decide +kernel⟩ (by decide), List.forall_mem_cons.mpr ⟨cl_static (y := y_jMath_min1) c_jMath_min1_v88 wm_658 wm_10 wm_1716 wm_657 ⟨by decide, by decide, by decide +kernel⟩ (by decide), List.forall_mem_cons.mpr ⟨cl_static (y := y_jMath_min1) c_jMath_min1_v93 wm_658 wm_10 wm_1716 wm_657 ⟨by decide, by decide, by decide +kernel⟩ (by decide), List.forall_mem_cons.mpr ⟨cl_static (y := y_jMath_min1) c_jMath_min1_v98 wm_658 wm_10 wm_1716 wm_657 ⟨by decide, by decide, by decide +kernel⟩ (by decide), List.forall_mem_cons.mpr ⟨cl_static (y := y_jMath_min1) c_jMath_min1_v103 wm_658 wm_10 wm_1716 wm_657 ⟨by decide, by decide, by decide +kernel⟩ (by decide), List.forall_mem_cons.mpr ⟨cl_static (y := y_jMath_min1) c_jMath_min1_v108 wm_658 wm_10 wm_1716 wm_657 ⟨by decide, by decide, by decide +kernel⟩ (by decide), List.forall_mem_cons.mpr ⟨cl_static (y := y_jMath_min1) c_jMath_min1_v113 wm_658 wm_10 wm_1716 wm_657 ⟨by decide, by decide, by decide +kernel⟩ (by decide), List.forall_mem_cons.mpr ⟨cl_static (y := y_jMath_min1) c_jMath_min1_v118 wm_658 wm_10 wm_1716 wm_657 ⟨by decide, by decide, by decide +kernel⟩ (by decide), List.forall_mem_cons.mpr ⟨cl_static (y := y_jMath_min1) c_jMath_min1_v123 wm_658 wm_10 wm_1716 wm_657 ⟨by decide, by decide, by decide +kernel⟩ (by decide), List.forall_mem_cons.mpr ⟨cl_static (y := y_jMath_min1) c_jMath_min1_v128 wm_658 wm_10 wm_1716 wm_657 ⟨by decide, by decide, by decide +kernel⟩ (by decide), List.forall_mem_cons.mpr ⟨cl_static (y := y_jMath_min1) c_jMath_min1_v133 wm_658 wm_10 wm_1716 wm_657 ⟨by decide, by decide, by decide +kernel⟩ (by decide), List.forall_mem_cons.mpr ⟨cl_static (y := y_jMath_min1) c_jMath_min1_v143 wm_658 wm_10 wm_1716 wm_657 ⟨by decide, by decide, by decide +kernel⟩ (by decide), List.forall_mem_cons.mpr ⟨cl_static (y := y_jMath_min1) c_jMath_min1_v138 wm_658 wm_10 wm_1716 wm_657 ⟨by decide, by decide, by decide +kernel⟩ (by decide), List.forall_mem_cons.mpr ⟨cl_static (y := y_jMath_max1) c_jMath_max1_v78 wm_836 wm_10 wm_1714 wm_835 ⟨by decide, by decide, by decide +kernel⟩ (by decide), List.forall_mem_cons.mpr ⟨cl_static (y := y_jMath_max1) c_jMath_max1_v81 wm_836 wm_10 wm_1714 wm_835 ⟨by decide, by decide, by decide +kernel⟩ (by decide), List.forall_mem_cons.mpr ⟨cl_static (y := y_jMath_max1) c_jMath_max1_v86 wm_836 wm_10 wm_1714 wm_835 ⟨by decide, by decide, by decide +kernel⟩ (by decide), List.forall_mem_cons.mpr ⟨cl_static (y := y_jMath_max1) c_jMath_max1_v91 wm_836 wm_10 wm_1714 wm_835 ⟨by decide, by decide, by decide +kernel⟩ (by decide), List.forall_mem_cons.mpr ⟨cl_static (y := y_jMath_max1) c_jMath_max1_v96 wm_836 wm_10 wm_1714 wm_835 ⟨by decide, by decide, by decide +kernel⟩ (by decide), List.forall_mem_cons.mpr ⟨cl_static (y := y_jMath_max1) c_jMath_max1_v101 wm_836 wm_10 wm_1714 wm_835 ⟨by decide, by decide, by decide +kernel⟩ (by decide), List.forall_mem_cons.mpr ⟨cl_static (y := y_jMath_max1) c_jMath_max1_v106 wm_836 wm_10 wm_1714 wm_835 ⟨by decide, by decide, by decide +kernel⟩ (by decide), List.forall_mem_cons.mpr ⟨cl_static (y := y_jMath_max1) c_jMath_max1_v111 wm_836 wm_10 wm_1714 wm_835 ⟨by decide, by decide, by decide +kernel⟩ (by decide), List.forall_mem_cons.mpr ⟨cl_static (y := y_jMath_max1) c_jMath_max1_v116 wm_836 wm_10 wm_1714 wm_835 ⟨by decide, by decide, by decide +kernel⟩ (by decide), List.forall_mem_cons.mpr ⟨cl_static (y := y_jMath_max1) c_jMath_max1_v121 wm_836 wm_10 wm_1714 wm_835 ⟨by decide, by decide, by decide +kernel⟩ (by decide), List.forall_mem_cons.mpr ⟨cl_static (y := y_jMath_max1) c_jMath_max1_v126 wm_836 wm_10 wm_1714 wm_835 ⟨by decide, by decide, by decide +kernel⟩ (by decide), List.forall_mem_cons.mpr ⟨cl_static (y := y_jMath_max1) c_jMath_max1_v131 wm_836 wm_10 wm_1714 wm_835 ⟨by decide, by decide, by decide +kernel⟩ (by decide), List.forall_mem_cons.mpr ⟨cl_static (y := y_jMath_max1) c_jMath_max1_v141 wm_836 wm_10 wm_1714 wm_835 ⟨by decide, by decide, by decide +kernel⟩ (by decide), List.forall_mem_cons.mpr ⟨cl_static (y := y_jMath_max1) c_jMath_max1_v136 wm_836 wm_10 wm_1714 wm_835 ⟨by decide, by decide, by decide +kernel⟩ (by decide), List.forall_mem_nil _⟩⟩⟩⟩⟩⟩⟩⟩⟩⟩⟩⟩⟩⟩⟩⟩⟩⟩⟩⟩⟩⟩⟩⟩⟩⟩⟩⟩⟩⟩⟩⟩⟩⟩⟩⟩⟩⟩⟩⟩⟩⟩⟩⟩⟩⟩⟩⟩⟩⟩⟩⟩⟩⟩⟩⟩⟩⟩⟩⟩⟩⟩⟩⟩⟩⟩⟩⟩⟩⟩⟩⟩⟩⟩⟩⟩⟩⟩⟩⟩⟩⟩⟩⟩⟩⟩⟩⟩⟩⟩⟩⟩⟩⟩⟩⟩⟩, List.forall_mem_cons.mpr ⟨kx_Pl_0_212, List.forall_mem_nil _⟩, List.forall_mem_nil _, GG_pl⟩ (by decide +kernel)
def n_Pl_layRows_an : List an_T := [(4, [(0, (2, 0, 0, [6])), (1, (0, -2147483648, 2147483647, [])), (2, (0, 0, 32, []))], [], (0, 0), [(0, 0, 99996), (1, 2, 32), (0, 0, 100000), (0, 0, 0), (0, 0, 0)], [], [((0, 1), (2, 0, 0, [0]))], [], 0, [], []), (31, [(0, (2, 0, 0, [6])), (1, (0, -2147483648, 2147483647, [])), (2, (0, 0, 32, [])), (3, (0, 0, 32, []))], [], (0, 0), [(0, 0, 99969), (1, 3, 32), (0, 0, 100000), (0, 0, 0), (0, 0, 0)], [], [((0, 1), (2, 0, 0, [0]))], [], 0, [], []), (59, [(0, (2, 0, 0, [6])), (1, (0, -2147483648, 2147483647, [])), (2, (0, 0, 31, [])), (3, (0, 0, 31, [])), (4, (0, 1, 32, [])), (5, (0, -2147483648, 2147483647, [])), (6, (0, 0, 32, []))], [], (0, 0), [(0, 0, 99969), (1, 3, 32), (0, 0, 99941), (1, 6, 32), (0, 0, 100000)], [], [((0, 1), (2, 0, 0, [0]))], [], 0, [], [])]
def t_Pl_layRows_ct : ct_L := [(1, 197, e_Pl_endOfRow), (1, 200, e_Pl_layRow)]
set_option maxRecDepth 100000 in
theorem c_Pl_layRows {l : Launch} {D : va_G} {kA : Nat → ClassId} (h_Pl_endOfRow : ct_ok l D kA GG y_Pl_endOfRow z_Pl_endOfRow e_Pl_endOfRow) (h_Pl_layRow : ct_ok l D kA GG y_Pl_layRow z_Pl_layRow e_Pl_layRow) : ct_ok l D kA GG y_Pl_layRows z_Pl_layRows e_Pl_layRows := chk_all_ok (FT := [(45, 6, 10), (48, 6, 11)]) (PT := []) (CT := t_Pl_layRows_ct) (KT := []) (NT := []) (AN := n_Pl_layRows_an) (OT := []) 5 260 (List.forall_mem_nil _) (by decide +kernel) ⟨List.forall_mem_cons.mpr ⟨gf_Pl_45, List.forall_mem_cons.mpr ⟨gf_Pl_48, List.forall_mem_nil _⟩⟩, List.forall_mem_nil _, List.forall_mem_cons.mpr ⟨cl_virtual (y := y_Pl_endOfRow) (ci := 6) rfl rfl ⟨_, _, rfl⟩ (by decide +kernel) h_Pl_endOfRow wm_1743 wm_21 wm_1740 wm_1742 wv_8_1 ⟨by decide, by decide, by decide +kernel⟩ (by decide), List.forall_mem_cons.mpr ⟨cl_virtual (y := y_Pl_layRow) (ci := 6) rfl rfl ⟨_, _, rfl⟩ (by decide +kernel) h_Pl_layRow wm_1757 wm_21 wm_1754 wm_1756 wv_8_3 ⟨by decide, by decide, by decide +kernel⟩ (by decide), List.forall_mem_nil _⟩⟩, List.forall_mem_nil _, List.forall_mem_nil _, GG_pl⟩ (by decide +kernel)
def n_Pn_orderFromTo_an : List an_T := [(59, [(0, (2, 0, 0, [7])), (1, (2, 0, 0, [3])), (2, (0, 0, 16777215, [])), (3, (0, 0, 16777215, [])), (4, (0, 0, 24, []))], [], (0, 0), [(0, 0, 99941), (1, 4, 24), (0, 0, 100000), (0, 0, 0), (0, 0, 0)], [], [], [], 0, [], []), (77, [(0, (2, 0, 0, [7])), (1, (2, 0, 0, [3])), (2, (0, 0, 16777215, [])), (3, (0, 0, 16777215, [])), (4, (0, 0, 23, [])), (5, (0, 0, 25, [])), (6, (0, 0, 24, []))], [], (0, 0), [(0, 0, 99941), (1, 4, 24), (0, 0, 99923), (1, 6, 24), (0, 0, 100000)], [], [], [], 0, [], []), (155, [(0, (2, 0, 0, [7])), (1, (2, 0, 0, [3])), (2, (0, 0, 16777215, [])), (3, (0, 0, 16777215, [])), (4, (0, 0, 23, [])), (5, (0, 0, 25, [])), (6, (0, 0, 24, []))], [], (0, 0), [(0, 0, 99941), (1, 4, 24), (0, 0, 99845), (1, 6, 24), (0, 0, 100000)], [], [], [], 0, [], [])]
def t_Pn_orderFromTo_ct : ct_L := [(1, 224, e_Pn_insertWay), (408, 220, e_Fa_shortestWay_at_Grnear_Pnlevel_Pnway)]
set_option maxRecDepth 100000 in
theorem c_Pn_orderFromTo {l : Launch} {D : va_G} {kA : Nat → ClassId} (h_Fa_shortestWay_at_Grnear_Pnlevel_Pnway : ct_ok l D kA GG y_Fa_shortestWay_at_Grnear_Pnlevel_Pnway z_Fa_shortestWay_at_Grnear_Pnlevel_Pnway e_Fa_shortestWay_at_Grnear_Pnlevel_Pnway) (h_Pn_insertWay : ct_ok l D kA GG y_Pn_insertWay z_Pn_insertWay e_Pn_insertWay) : ct_ok l D kA GG y_Pn_orderFromTo z_Pn_orderFromTo e_Pn_orderFromTo := chk_all_ok (FT := [(22, 7, 2), (25, 7, 3), (32, 7, 5), (35, 7, 6), (47, 3, 0), (214, 3, 7), (218, 3, 8), (219, 3, 14)]) (PT := [(25, 7, 3, .int)]) (CT := t_Pn_orderFromTo_ct) (KT := []) (NT := []) (AN := n_Pn_orderFromTo_an) (OT := []) 5 488 (List.forall_mem_nil _) (by decide +kernel) ⟨List.forall_mem_cons.mpr ⟨gf_Pn_22, List.forall_mem_cons.mpr ⟨gf_Pn_25, List.forall_mem_cons.mpr ⟨gf_Pn_32, List.forall_mem_cons.mpr ⟨gf_Pn_35, List.forall_mem_cons.mpr ⟨gf_Pn_47, List.forall_mem_cons.mpr ⟨gf_Pn_214, List.forall_mem_cons.mpr ⟨gf_Pn_218, List.forall_mem_cons.mpr ⟨gf_Pn_219, List.forall_mem_nil _⟩⟩⟩⟩⟩⟩⟩⟩, List.forall_mem_cons.mpr ⟨pf_Pn_25, List.forall_mem_nil _⟩, List.forall_mem_cons.mpr ⟨cl_virtual (y := y_Pn_insertWay) (ci := 7) rfl rfl ⟨_, _, rfl⟩ (by decide +kernel) h_Pn_insertWay wm_1592 wm_20 wm_1589 wm_1591 wv_7_2 ⟨by decide, by decide, by decide +kernel⟩ (by decide), List.forall_mem_cons.mpr ⟨cl_static (y := y_Fa_shortestWay_at_Grnear_Pnlevel_Pnway) h_Fa_shortestWay_at_Grnear_Pnlevel_Pnway wm_1077 wm_7 wm_1588 wm_1076 ⟨by decide, by decide, by decide +kernel⟩ (by decide), List.forall_mem_nil _⟩⟩, List.forall_mem_nil _, List.forall_mem_nil _, GG_pl⟩ (by decide +kernel)
def o_Mo_ofEdgeWord_0 : or_T := (4, 3, [(0, (2, 0, 0, [150])), (2, (0, -1, 47, []))], [(9, [2, 0], [165]), (20, [0], [30, 0, -1, 1, 165])], [(2, (0, 0, 47, []))], [], [], [], [])
theorem oo_Mo_ofEdgeWord_0 {kA : Nat → ClassId} : or_ok kA GG o_Mo_ofEdgeWord_0 := by
  intro A ta ws vs hD hth hl hk hds hf
  have hl : vs.length = 3 := hl
  have hk : ∀ q ∈ ([(0, (2, 0, 0, [150])), (2, (0, -1, 47, []))] : List (Nat × tv_T)), tv_ok ta q.2 (n_v vs q.1) := hk
  obtain ⟨t0, hk⟩ := List.forall_mem_cons.mp hk
  have t0 : tv_ok ta (2, 0, 0, [150]) (n_v vs 0) := t0
  have r0 : ta (v_ad (n_v vs 0)) = some 150 := tv_rg t0
  obtain ⟨t2, hk⟩ := List.forall_mem_cons.mp hk
  have t2 : tv_ok ta (0, -1, 47, []) (n_v vs 2) := t2
  have k2 : (-1) ≤ v_iv (n_v vs 2) ∧ v_iv (n_v vs 2) ≤ 47 := tv_rng t2
  have hf : fc_ok [(9, [2, 0], [165]), (20, [0], [30, 0, -1, 1, 165])] ta ws vs := hf
  obtain ⟨f0, hf⟩ := fc_un (show (9 : Nat) < 100 from by decide) hf
  have f0 : n_v vs 2 = w_fd ws (v_ad (n_v vs 0)) 165 := f0
  obtain ⟨f1, hf⟩ := fc_un (show (20 : Nat) < 100 from by decide) hf
  have f1 : (-1) * w_fi ws (n_v vs 0) 165 + 0 ≤ 0 := f1
  have g0 : v_iv (n_v vs 2) = w_fi ws (n_v vs 0) 165 := congrArg v_iv f0
  have kz_0_165 : (-1) ≤ w_fi ws (n_v vs 0) 165 ∧ w_fi ws (n_v vs 0) 165 ≤ 47 := tv_rng (th_fd hD hth r0 (g := GG_150) rfl (k := 165) (t := (0, -1, 47, [])) rfl rfl)
  have rf2 : tv_ok ta (0, 0, 47, []) (n_v vs 2) := tv_in t2 (by omega) (by omega)
  refine ⟨List.forall_mem_cons.mpr ⟨rf2, (fun _ h => (by cases h))⟩, [], trivial, ?_, (fun _ h => (by cases h))⟩
  rw [List.append_nil]
  exact (fun _ h => (by cases h))
def n_Mo_ofEdgeWord_an : List an_T := []
def t_Mo_ofEdgeWord_ct : ct_L := [(1, 394, e_Mo_tail), (1, 398, e_Mo_head), (1, 553, e_Mo_one), (1, 737, e_Mo_weight), (1, 739, e_Mo_isBridge), (1, 1023, e_Mo_px), (1, 1029, e_Mo_py), (432, 1137, e_jMath_abs2_v62), (504, 1137, e_jMath_abs2_v62)]
set_option maxRecDepth 100000 in
theorem c_Mo_ofEdgeWord {l : Launch} {D : va_G} {kA : Nat → ClassId} (h_Mo_head : ct_ok l D kA GG y_Mo_head z_Mo_head e_Mo_head) (h_Mo_isBridge : ct_ok l D kA GG y_Mo_isBridge z_Mo_isBridge e_Mo_isBridge) (h_Mo_one : ct_ok l D kA GG y_Mo_one z_Mo_one e_Mo_one) (h_Mo_px : ct_ok l D kA GG y_Mo_px z_Mo_px e_Mo_px) (h_Mo_py : ct_ok l D kA GG y_Mo_py z_Mo_py e_Mo_py) (h_Mo_tail : ct_ok l D kA GG y_Mo_tail z_Mo_tail e_Mo_tail) (h_Mo_weight : ct_ok l D kA GG y_Mo_weight z_Mo_weight e_Mo_weight) : ct_ok l D kA GG y_Mo_ofEdgeWord z_Mo_ofEdgeWord e_Mo_ofEdgeWord := chk_all_ok (FT := [(32, 13, 17), (120, 13, 61), (360, 13, 168), (1020, 13, 139), (1181, 13, 165)]) (PT := []) (CT := t_Mo_ofEdgeWord_ct) (KT := []) (NT := []) (AN := n_Mo_ofEdgeWord_an) (OT := [o_Mo_ofEdgeWord_0]) 0 356 (List.forall_mem_cons.mpr ⟨oo_Mo_ofEdgeWord_0, List.forall_mem_nil _⟩) (by decide +kernel) ⟨List.forall_mem_cons.mpr ⟨gf_Mo_32, List.forall_mem_cons.mpr ⟨gf_Mo_120, List.forall_mem_cons.mpr ⟨gf_Mo_360, List.forall_mem_cons.mpr ⟨gf_Mo_1020, List.forall_mem_cons.mpr ⟨gf_Mo_1181, List.forall_mem_nil _⟩⟩⟩⟩⟩, List.forall_mem_nil _, List.forall_mem_cons.mpr ⟨cl_virtual (y := y_Mo_tail) (ci := 13) rfl rfl ⟨_, _, rfl⟩ (by decide +kernel) h_Mo_tail wm_3045 wm_9 wm_3042 wm_3044 wv_13_8 ⟨by decide, by decide, by decide +kernel⟩ (by decide), List.forall_mem_cons.mpr ⟨cl_virtual (y := y_Mo_head) (ci := 13) rfl rfl ⟨_, _, rfl⟩ (by decide +kernel) h_Mo_head wm_3049 wm_9 wm_3046 wm_3048 wv_13_9 ⟨by decide, by decide, by decide +kernel⟩ (by decide), List.forall_mem_cons.mpr ⟨cl_virtual (y := y_Mo_one) (ci := 13) rfl rfl ⟨_, _, rfl⟩ (by decide +kernel) h_Mo_one wm_3299 wm_9 wm_3296 wm_3298 wv_16_15 ⟨by decide, by decide, by decide +kernel⟩ (by decide), List.forall_mem_cons.mpr ⟨cl_virtual (y := y_Mo_weight) (ci := 13) rfl rfl ⟨_, _, rfl⟩ (by decide +kernel) h_Mo_weight wm_3339 wm_9 wm_3336 wm_3338 wv_17_7 ⟨by decide, by decide, by decide +kernel⟩ (by decide), List.forall_mem_cons.mpr ⟨cl_virtual (y := y_Mo_isBridge) (ci := 13) rfl rfl ⟨_, _, rfl⟩ (by decide +kernel) h_Mo_isBridge wm_3343 wm_9 wm_3340 wm_3342 wv_17_8 ⟨by decide, by decide, by decide +kernel⟩ (by decide), List.forall_mem_cons.mpr ⟨cl_virtual (y := y_Mo_px) (ci := 13) rfl rfl ⟨_, _, rfl⟩ (by decide +kernel) h_Mo_px wm_3675 wm_9 wm_3672 wm_3674 wv_21_14 ⟨by decide, by decide, by decide +kernel⟩ (by decide), List.forall_mem_cons.mpr ⟨cl_virtual (y := y_Mo_py) (ci := 13) rfl rfl ⟨_, _, rfl⟩ (by decide +kernel) h_Mo_py wm_3679 wm_9 wm_3676 wm_3678 wv_21_15 ⟨by decide, by decide, by decide +kernel⟩ (by decide), List.forall_mem_cons.mpr ⟨cl_static (y := y_jMath_abs2) c_jMath_abs2_v62 wm_2082 wm_10 wm_3769 wm_2081 ⟨by decide, by decide, by decide +kernel⟩ (by decide), List.forall_mem_cons.mpr ⟨cl_static (y := y_jMath_abs2) c_jMath_abs2_v62 wm_2082 wm_10 wm_3769 wm_2081 ⟨by decide, by decide, by decide +kernel⟩ (by decide), List.forall_mem_nil _⟩⟩⟩⟩⟩⟩⟩⟩⟩, List.forall_mem_nil _, List.forall_mem_nil _, GG_pl⟩ (by decide +kernel)
def n_Dr_countCrossings_an : List an_T := [(4, [(0, (2, 0, 0, [0])), (1, (1, -9223372036854775808, 9223372036854775807, [])), (3, (0, 0, 48, []))], [], (0, 0), [(0, 0, 99996), (1, 2, 48), (0, 0, 100000), (0, 0, 0), (0, 0, 0), (0, 0, 0), (0, 0, 0), (0, 0, 0), (0, 0, 0)], [], [], [], 0, [], []), (20, [(0, (2, 0, 0, [0])), (1, (1, -9223372036854775808, 9223372036854775807, [])), (3, (0, 0, 47, [])), (4, (0, 1, 48, []))], [], (0, 0), [(0, 0, 99996), (1, 2, 48), (0, 0, 99980), (1, 3, 48), (0, 0, 100000), (0, 0, 0), (0, 0, 0), (0, 0, 0), (0, 0, 0)], [], [], [], 0, [], []), (44, [(0, (2, 0, 0, [0])), (1, (1, -9223372036854775808, 9223372036854775807, [])), (3, (0, 0, 47, [])), (4, (0, 1, 47, [])), (5, (0, -1, 23, [])), (6, (0, 0, 25, []))], [], (0, 0), [(0, 0, 99996), (1, 2, 48), (0, 0, 99980), (1, 3, 48), (0, 0, 99956), (1, 5, 25), (0, 0, 100000), (0, 0, 0), (0, 0, 0)], [], [], [], 0, [], []), (58, [(0, (2, 0, 0, [0])), (1, (1, -9223372036854775808, 9223372036854775807, [])), (3, (0, 0, 47, [])), (4, (0, 1, 47, [])), (5, (0, -1, 23, [])), (6, (0, 0, 24, [])), (7, (0, 0, 25, []))], [], (0, 0), [(0, 0, 99996), (1, 2, 48), (0, 0, 99980), (1, 3, 48), (0, 0, 99956), (1, 5, 25), (0, 0, 99942), (1, 6, 25), (0, 0, 100000)], [], [], [], 0, [], [])]
def t_Dr_countCrossings_ct : ct_L := [(1, 191, e_Dr_sharedNode), (1, 194, e_Dr_clash)]
set_option maxRecDepth 100000 in
theorem c_Dr_countCrossings {l : Launch} {D : va_G} {kA : Nat → ClassId} (h_Dr_clash : ct_ok l D kA GG y_Dr_clash z_Dr_clash e_Dr_clash) (h_Dr_sharedNode : ct_ok l D kA GG y_Dr_sharedNode z_Dr_sharedNode e_Dr_sharedNode) : ct_ok l D kA GG y_Dr_countCrossings z_Dr_countCrossings e_Dr_countCrossings := chk_all_ok (FT := [(22, 0, 4), (74, 0, 0), (151, 3, 1)]) (PT := []) (CT := t_Dr_countCrossings_ct) (KT := []) (NT := []) (AN := n_Dr_countCrossings_an) (OT := []) 9 268 (List.forall_mem_nil _) (by decide +kernel) ⟨List.forall_mem_cons.mpr ⟨gf_Dr_22, List.forall_mem_cons.mpr ⟨gf_Dr_74, List.forall_mem_cons.mpr ⟨gf_Dr_151, List.forall_mem_nil _⟩⟩⟩, List.forall_mem_nil _, List.forall_mem_cons.mpr ⟨cl_virtual (y := y_Dr_sharedNode) (ci := 0) rfl rfl ⟨_, _, rfl⟩ (by decide +kernel) h_Dr_sharedNode wm_2017 wm_8 wm_2014 wm_2016 wv_9_12 ⟨by decide, by decide, by decide +kernel⟩ (by decide), List.forall_mem_cons.mpr ⟨cl_virtual (y := y_Dr_clash) (ci := 0) rfl rfl ⟨_, _, rfl⟩ (by decide +kernel) h_Dr_clash wm_2021 wm_8 wm_2018 wm_2020 wv_9_13 ⟨by decide, by decide, by decide +kernel⟩ (by decide), List.forall_mem_nil _⟩⟩, List.forall_mem_nil _, List.forall_mem_nil _, GG_pl⟩ (by decide +kernel)
def n_Pn_fillFaces_an : List an_T := [(2, [(0, (2, 0, 0, [7])), (1, (0, 0, 72, []))], [], (0, 0), [(0, 0, 99998), (1, 1, 72), (0, 0, 100000)], [], [], [], 0, [], [])]
def t_Pn_fillFaces_ct : ct_L := [(1, 111, e_Ne_traceFaces), (1, 114, e_Pn_firstLongFace), (1, 118, e_Pn_cutFace)]
set_option maxRecDepth 100000 in
theorem c_Pn_fillFaces {l : Launch} {D : va_G} {kA : Nat → ClassId} (h_Ne_traceFaces : ct_ok l D kA GG y_Ne_traceFaces z_Ne_traceFaces e_Ne_traceFaces) (h_Pn_cutFace : ct_ok l D kA GG y_Pn_cutFace z_Pn_cutFace e_Pn_cutFace) (h_Pn_firstLongFace : ct_ok l D kA GG y_Pn_firstLongFace z_Pn_firstLongFace e_Pn_firstLongFace) : ct_ok l D kA GG y_Pn_fillFaces z_Pn_fillFaces e_Pn_fillFaces := chk_all_ok (FT := [(12, 7, 0)]) (PT := []) (CT := t_Pn_fillFaces_ct) (KT := []) (NT := []) (AN := n_Pn_fillFaces_an) (OT := []) 3 200 (List.forall_mem_nil _) (by decide +kernel) ⟨List.forall_mem_cons.mpr ⟨gf_Pn_12, List.forall_mem_nil _⟩, List.forall_mem_nil _, List.forall_mem_cons.mpr ⟨cl_virtual (y := y_Ne_traceFaces) (ci := 5) rfl rfl ⟨_, _, rfl⟩ (by decide +kernel) h_Ne_traceFaces wm_1150 wm_6 wm_1531 wm_1148 wm_1149 ⟨by decide, by decide, by decide +kernel⟩ (by decide), List.forall_mem_cons.mpr ⟨cl_virtual (y := y_Pn_firstLongFace) (ci := 7) rfl rfl ⟨_, _, rfl⟩ (by decide +kernel) h_Pn_firstLongFace wm_1539 wm_20 wm_1536 wm_1538 wv_6_7 ⟨by decide, by decide, by decide +kernel⟩ (by decide), List.forall_mem_cons.mpr ⟨cl_virtual (y := y_Pn_cutFace) (ci := 7) rfl rfl ⟨_, _, rfl⟩ (by decide +kernel) h_Pn_cutFace wm_1543 wm_20 wm_1540 wm_1542 wv_6_8 ⟨by decide, by decide, by decide +kernel⟩ (by decide), List.forall_mem_nil _⟩⟩⟩, List.forall_mem_nil _, List.forall_mem_nil _, GG_pl⟩ (by decide +kernel)
def o_Sy_isWordAt_at_s5004_0 : or_T := (20, 9, [(0, (2, 0, 0, [11])), (2, (0, 0, 47, [])), (3, (0, 0, 38, [])), (5, (0, 0, 2000, [])), (6, (0, 0, 2000, [])), (7, (0, -47, 38, [])), (8, (0, -47, 38, []))], [(7, [7, 8], [0]), (2, [8, 3, 2], []), (2, [7, 5, 6], []), (9, [6, 0], [7]), (9, [5, 0], [5])], [], [], [(20, [0, 3, 2], [30, 2000, 1, 1, 7, 1, 0, 0, -1, 0, 0]), (20, [2, 2], [30, 0, 1, 0, 0, -1, 0, 0])], [], [(7, 8, 0, 0), (8, 3, -47, 0), (7, 5, -2000, 0)])
theorem oo_Sy_isWordAt_at_s5004_0 {kA : Nat → ClassId} : or_ok kA GG o_Sy_isWordAt_at_s5004_0 := by
  intro A ta ws vs hD hth hl hk hds hf
  have hl : vs.length = 9 := hl
  have hk : ∀ q ∈ ([(0, (2, 0, 0, [11])), (2, (0, 0, 47, [])), (3, (0, 0, 38, [])), (5, (0, 0, 2000, [])), (6, (0, 0, 2000, [])), (7, (0, -47, 38, [])), (8, (0, -47, 38, []))] : List (Nat × tv_T)), tv_ok ta q.2 (n_v vs q.1) := hk
  obtain ⟨t0, hk⟩ := List.forall_mem_cons.mp hk
  have t0 : tv_ok ta (2, 0, 0, [11]) (n_v vs 0) := t0
  have r0 : ta (v_ad (n_v vs 0)) = some 11 := tv_rg t0
  obtain ⟨t2, hk⟩ := List.forall_mem_cons.mp hk
  have t2 : tv_ok ta (0, 0, 47, []) (n_v vs 2) := t2
  have k2 : 0 ≤ v_iv (n_v vs 2) ∧ v_iv (n_v vs 2) ≤ 47 := tv_rng t2
  obtain ⟨t3, hk⟩ := List.forall_mem_cons.mp hk
  have t3 : tv_ok ta (0, 0, 38, []) (n_v vs 3) := t3
  have k3 : 0 ≤ v_iv (n_v vs 3) ∧ v_iv (n_v vs 3) ≤ 38 := tv_rng t3
  obtain ⟨t5, hk⟩ := List.forall_mem_cons.mp hk
  have t5 : tv_ok ta (0, 0, 2000, []) (n_v vs 5) := t5
  have k5 : 0 ≤ v_iv (n_v vs 5) ∧ v_iv (n_v vs 5) ≤ 2000 := tv_rng t5
  obtain ⟨t6, hk⟩ := List.forall_mem_cons.mp hk
  have t6 : tv_ok ta (0, 0, 2000, []) (n_v vs 6) := t6
  have k6 : 0 ≤ v_iv (n_v vs 6) ∧ v_iv (n_v vs 6) ≤ 2000 := tv_rng t6
  obtain ⟨t7, hk⟩ := List.forall_mem_cons.mp hk
  have t7 : tv_ok ta (0, -47, 38, []) (n_v vs 7) := t7
  have k7 : (-47) ≤ v_iv (n_v vs 7) ∧ v_iv (n_v vs 7) ≤ 38 := tv_rng t7
  obtain ⟨t8, hk⟩ := List.forall_mem_cons.mp hk
  have t8 : tv_ok ta (0, -47, 38, []) (n_v vs 8) := t8
  have k8 : (-47) ≤ v_iv (n_v vs 8) ∧ v_iv (n_v vs 8) ≤ 38 := tv_rng t8
  have hds : ∀ q ∈ ([(7, 8, 0, 0), (8, 3, -47, 0), (7, 5, -2000, 0)] : List of_T), n_iv vs q.2.1 + q.2.2.1 ≤ n_iv vs q.1 ∧ n_iv vs q.1 ≤ n_iv vs q.2.1 + q.2.2.2 := hds
  obtain ⟨d0, hds⟩ := List.forall_mem_cons.mp hds
  have d0 : v_iv (n_v vs 8) + 0 ≤ v_iv (n_v vs 7) ∧ v_iv (n_v vs 7) ≤ v_iv (n_v vs 8) + 0 := d0
  obtain ⟨d1, hds⟩ := List.forall_mem_cons.mp hds
  have d1 : v_iv (n_v vs 3) + (-47) ≤ v_iv (n_v vs 8) ∧ v_iv (n_v vs 8) ≤ v_iv (n_v vs 3) + 0 := d1
  obtain ⟨d2, hds⟩ := List.forall_mem_cons.mp hds
  have d2 : v_iv (n_v vs 5) + (-2000) ≤ v_iv (n_v vs 7) ∧ v_iv (n_v vs 7) ≤ v_iv (n_v vs 5) + 0 := d2
  have hf : fc_ok [(7, [7, 8], [0]), (2, [8, 3, 2], []), (2, [7, 5, 6], []), (9, [6, 0], [7]), (9, [5, 0], [5])] ta ws vs := hf
  obtain ⟨f0, hf⟩ := fc_un (show (7 : Nat) < 100 from by decide) hf
  have f0 : v_iv (n_v vs 7) = v_iv (n_v vs 8) := f0
  obtain ⟨f1, hf⟩ := fc_un (show (2 : Nat) < 100 from by decide) hf
  have f1 : v_iv (n_v vs 8) = v_iv (n_v vs 3) - v_iv (n_v vs 2) := f1
  obtain ⟨f2, hf⟩ := fc_un (show (2 : Nat) < 100 from by decide) hf
  have f2 : v_iv (n_v vs 7) = v_iv (n_v vs 5) - v_iv (n_v vs 6) := f2
  obtain ⟨f3, hf⟩ := fc_un (show (9 : Nat) < 100 from by decide) hf
  have f3 : n_v vs 6 = w_fd ws (v_ad (n_v vs 0)) 7 := f3
  obtain ⟨f4, hf⟩ := fc_un (show (9 : Nat) < 100 from by decide) hf
  have f4 : n_v vs 5 = w_fd ws (v_ad (n_v vs 0)) 5 := f4
  have g3 : v_iv (n_v vs 6) = w_fi ws (n_v vs 0) 7 := congrArg v_iv f3
  have g4 : v_iv (n_v vs 5) = w_fi ws (n_v vs 0) 5 := congrArg v_iv f4
  have kz_0_5 : 0 ≤ w_fi ws (n_v vs 0) 5 ∧ w_fi ws (n_v vs 0) 5 ≤ 2000 := tv_rng (th_fd hD hth r0 (g := GG_11) rfl (k := 5) (t := (0, 0, 2000, [])) rfl rfl)
  have kz_0_7 : 0 ≤ w_fi ws (n_v vs 0) 7 ∧ w_fi ws (n_v vs 0) 7 ≤ 2000 := tv_rng (th_fd hD hth r0 (g := GG_11) rfl (k := 7) (t := (0, 0, 2000, [])) rfl rfl)
  have nf0 : fc_1 (20, [0, 3, 2], [30, 2000, 1, 1, 7, 1, 0, 0, -1, 0, 0]) ws (vs) := by
    refine ⟨fun n hn => ?_, ?_⟩
    · have hn : n ∈ [0, 3, 2] := hn
      rw [hl]
      simp only [List.mem_cons, List.not_mem_nil, or_false] at hn
      show n < 9; omega
    · show 1 * w_fi ws (n_v vs 0) 7 + (1 * v_iv (n_v vs 3) + ((-1) * v_iv (n_v vs 2) + 0)) ≤ 2000
      omega
  have nf1 : fc_1 (20, [2, 2], [30, 0, 1, 0, 0, -1, 0, 0]) ws (vs) := by
    refine ⟨fun n hn => ?_, ?_⟩
    · have hn : n ∈ [2, 2] := hn
      rw [hl]
      simp only [List.mem_cons, List.not_mem_nil, or_false] at hn
      show n < 9; omega
    · show 1 * v_iv (n_v vs 2) + ((-1) * v_iv (n_v vs 2) + 0) ≤ 0
      omega
  refine ⟨(fun _ h => (by cases h)), [], trivial, ?_, (fun _ h => (by cases h))⟩
  rw [List.append_nil]
  exact List.forall_mem_cons.mpr ⟨⟨show (20 : Nat) < 100 from by decide, nf0⟩, List.forall_mem_cons.mpr ⟨⟨show (20 : Nat) < 100 from by decide, nf1⟩, (fun _ h => (by cases h))⟩⟩
def o_Sy_isWordAt_at_s5004_1 : or_T := (45, 10, [(0, (2, 0, 0, [11])), (2, (0, 0, 37, [])), (3, (0, 1, 38, [])), (4, (0, 0, 37, [])), (7, (0, 0, 2000, [])), (8, (0, 0, 2037, [])), (9, (0, -37, 2037, []))], [(2, [9, 8, 2], []), (1, [8, 7, 4], []), (9, [7, 0], [7]), (7, [4, 3], [2]), (20, [0, 3, 2], [30, 2000, 1, 1, 7, 1, 0, 0, -1, 0, 0]), (20, [2, 4], [30, 0, 1, 0, 0, -1, 0, 0])], [(9, (0, 0, 1999, []))], [], [], [], [(9, 8, -37, 0), (9, 4, -37, 2000), (9, 3, -4294967296, 1999), (9, 3, -4294967296, 2047), (9, 7, -37, 37), (8, 4, 0, 2000), (8, 3, -4294967296, 1999), (8, 3, -4294967296, 2047), (8, 7, 0, 37), (4, 3, -4294967296, -1), (2, 3, -4294967296, 47), (2, 4, -4294967296, 0), (3, 2, -4294967296, 38), (3, 4, -4294967296, 38), (4, 3, -4294967296, 47)])
theorem oo_Sy_isWordAt_at_s5004_1 {kA : Nat → ClassId} : or_ok kA GG o_Sy_isWordAt_at_s5004_1 := by
  intro A ta ws vs hD hth hl hk hds hf
  have hl : vs.length = 10 := hl
  have hk : ∀ q ∈ ([(0, (2, 0, 0, [11])), (2, (0, 0, 37, [])), (3, (0, 1, 38, [])), (4, (0, 0, 37, [])), (7, (0, 0, 2000, [])), (8, (0, 0, 2037, [])), (9, (0, -37, 2037, []))] : List (Nat × tv_T)), tv_ok ta q.2 (n_v vs q.1) := hk
  obtain ⟨t0, hk⟩ := List.forall_mem_cons.mp hk
  have t0 : tv_ok ta (2, 0, 0, [11]) (n_v vs 0) := t0
  have r0 : ta (v_ad (n_v vs 0)) = some 11 := tv_rg t0
  obtain ⟨t2, hk⟩ := List.forall_mem_cons.mp hk
  have t2 : tv_ok ta (0, 0, 37, []) (n_v vs 2) := t2
  have k2 : 0 ≤ v_iv (n_v vs 2) ∧ v_iv (n_v vs 2) ≤ 37 := tv_rng t2
  obtain ⟨t3, hk⟩ := List.forall_mem_cons.mp hk
  have t3 : tv_ok ta (0, 1, 38, []) (n_v vs 3) := t3
  have k3 : 1 ≤ v_iv (n_v vs 3) ∧ v_iv (n_v vs 3) ≤ 38 := tv_rng t3
  obtain ⟨t4, hk⟩ := List.forall_mem_cons.mp hk
  have t4 : tv_ok ta (0, 0, 37, []) (n_v vs 4) := t4
  have k4 : 0 ≤ v_iv (n_v vs 4) ∧ v_iv (n_v vs 4) ≤ 37 := tv_rng t4
  obtain ⟨t7, hk⟩ := List.forall_mem_cons.mp hk
  have t7 : tv_ok ta (0, 0, 2000, []) (n_v vs 7) := t7
  have k7 : 0 ≤ v_iv (n_v vs 7) ∧ v_iv (n_v vs 7) ≤ 2000 := tv_rng t7
  obtain ⟨t8, hk⟩ := List.forall_mem_cons.mp hk
  have t8 : tv_ok ta (0, 0, 2037, []) (n_v vs 8) := t8
  have k8 : 0 ≤ v_iv (n_v vs 8) ∧ v_iv (n_v vs 8) ≤ 2037 := tv_rng t8
  obtain ⟨t9, hk⟩ := List.forall_mem_cons.mp hk
  have t9 : tv_ok ta (0, -37, 2037, []) (n_v vs 9) := t9
  have k9 : (-37) ≤ v_iv (n_v vs 9) ∧ v_iv (n_v vs 9) ≤ 2037 := tv_rng t9
  have hds : ∀ q ∈ ([(9, 8, -37, 0), (9, 4, -37, 2000), (9, 3, -4294967296, 1999), (9, 3, -4294967296, 2047), (9, 7, -37, 37), (8, 4, 0, 2000), (8, 3, -4294967296, 1999), (8, 3, -4294967296, 2047), (8, 7, 0, 37), (4, 3, -4294967296, -1), (2, 3, -4294967296, 47), (2, 4, -4294967296, 0), (3, 2, -4294967296, 38), (3, 4, -4294967296, 38), (4, 3, -4294967296, 47)] : List of_T), n_iv vs q.2.1 + q.2.2.1 ≤ n_iv vs q.1 ∧ n_iv vs q.1 ≤ n_iv vs q.2.1 + q.2.2.2 := hds
  obtain ⟨d0, hds⟩ := List.forall_mem_cons.mp hds
  have d0 : v_iv (n_v vs 8) + (-37) ≤ v_iv (n_v vs 9) ∧ v_iv (n_v vs 9) ≤ v_iv (n_v vs 8) + 0 := d0
  obtain ⟨d1, hds⟩ := List.forall_mem_cons.mp hds
  have d1 : v_iv (n_v vs 4) + (-37) ≤ v_iv (n_v vs 9) ∧ v_iv (n_v vs 9) ≤ v_iv (n_v vs 4) + 2000 := d1
  obtain ⟨d2, hds⟩ := List.forall_mem_cons.mp hds
  have d2 : v_iv (n_v vs 3) + (-4294967296) ≤ v_iv (n_v vs 9) ∧ v_iv (n_v vs 9) ≤ v_iv (n_v vs 3) + 1999 := d2
  obtain ⟨d3, hds⟩ := List.forall_mem_cons.mp hds
  have d3 : v_iv (n_v vs 3) + (-4294967296) ≤ v_iv (n_v vs 9) ∧ v_iv (n_v vs 9) ≤ v_iv (n_v vs 3) + 2047 := d3
  obtain ⟨d4, hds⟩ := List.forall_mem_cons.mp hds
  have d4 : v_iv (n_v vs 7) + (-37) ≤ v_iv (n_v vs 9) ∧ v_iv (n_v vs 9) ≤ v_iv (n_v vs 7) + 37 := d4
  obtain ⟨d5, hds⟩ := List.forall_mem_cons.mp hds
  have d5 : v_iv (n_v vs 4) + 0 ≤ v_iv (n_v vs 8) ∧ v_iv (n_v vs 8) ≤ v_iv (n_v vs 4) + 2000 := d5
  obtain ⟨d6, hds⟩ := List.forall_mem_cons.mp hds
  have d6 : v_iv (n_v vs 3) + (-4294967296) ≤ v_iv (n_v vs 8) ∧ v_iv (n_v vs 8) ≤ v_iv (n_v vs 3) + 1999 := d6
  obtain ⟨d7, hds⟩ := List.forall_mem_cons.mp hds
  have d7 : v_iv (n_v vs 3) + (-4294967296) ≤ v_iv (n_v vs 8) ∧ v_iv (n_v vs 8) ≤ v_iv (n_v vs 3) + 2047 := d7
  obtain ⟨d8, hds⟩ := List.forall_mem_cons.mp hds
  have d8 : v_iv (n_v vs 7) + 0 ≤ v_iv (n_v vs 8) ∧ v_iv (n_v vs 8) ≤ v_iv (n_v vs 7) + 37 := d8
  obtain ⟨d9, hds⟩ := List.forall_mem_cons.mp hds
  have d9 : v_iv (n_v vs 3) + (-4294967296) ≤ v_iv (n_v vs 4) ∧ v_iv (n_v vs 4) ≤ v_iv (n_v vs 3) + (-1) := d9
  obtain ⟨d10, hds⟩ := List.forall_mem_cons.mp hds
  have d10 : v_iv (n_v vs 3) + (-4294967296) ≤ v_iv (n_v vs 2) ∧ v_iv (n_v vs 2) ≤ v_iv (n_v vs 3) + 47 := d10
  obtain ⟨d11, hds⟩ := List.forall_mem_cons.mp hds
  have d11 : v_iv (n_v vs 4) + (-4294967296) ≤ v_iv (n_v vs 2) ∧ v_iv (n_v vs 2) ≤ v_iv (n_v vs 4) + 0 := d11
  obtain ⟨d12, hds⟩ := List.forall_mem_cons.mp hds
  have d12 : v_iv (n_v vs 2) + (-4294967296) ≤ v_iv (n_v vs 3) ∧ v_iv (n_v vs 3) ≤ v_iv (n_v vs 2) + 38 := d12
  obtain ⟨d13, hds⟩ := List.forall_mem_cons.mp hds
  have d13 : v_iv (n_v vs 4) + (-4294967296) ≤ v_iv (n_v vs 3) ∧ v_iv (n_v vs 3) ≤ v_iv (n_v vs 4) + 38 := d13
  obtain ⟨d14, hds⟩ := List.forall_mem_cons.mp hds
  have d14 : v_iv (n_v vs 3) + (-4294967296) ≤ v_iv (n_v vs 4) ∧ v_iv (n_v vs 4) ≤ v_iv (n_v vs 3) + 47 := d14
  have hf : fc_ok [(2, [9, 8, 2], []), (1, [8, 7, 4], []), (9, [7, 0], [7]), (7, [4, 3], [2]), (20, [0, 3, 2], [30, 2000, 1, 1, 7, 1, 0, 0, -1, 0, 0]), (20, [2, 4], [30, 0, 1, 0, 0, -1, 0, 0])] ta ws vs := hf
  obtain ⟨f0, hf⟩ := fc_un (show (2 : Nat) < 100 from by decide) hf
  have f0 : v_iv (n_v vs 9) = v_iv (n_v vs 8) - v_iv (n_v vs 2) := f0
  obtain ⟨f1, hf⟩ := fc_un (show (1 : Nat) < 100 from by decide) hf
  have f1 : v_iv (n_v vs 8) = v_iv (n_v vs 7) + v_iv (n_v vs 4) := f1
  obtain ⟨f2, hf⟩ := fc_un (show (9 : Nat) < 100 from by decide) hf
  have f2 : n_v vs 7 = w_fd ws (v_ad (n_v vs 0)) 7 := f2
  obtain ⟨f3, hf⟩ := fc_un (show (7 : Nat) < 100 from by decide) hf
  have f3 : v_iv (n_v vs 4) < v_iv (n_v vs 3) := f3
  obtain ⟨f4, hf⟩ := fc_un (show (20 : Nat) < 100 from by decide) hf
  have f4 : 1 * w_fi ws (n_v vs 0) 7 + (1 * v_iv (n_v vs 3) + ((-1) * v_iv (n_v vs 2) + 0)) ≤ 2000 := f4
  obtain ⟨f5, hf⟩ := fc_un (show (20 : Nat) < 100 from by decide) hf
  have f5 : 1 * v_iv (n_v vs 2) + ((-1) * v_iv (n_v vs 4) + 0) ≤ 0 := f5
  have g2 : v_iv (n_v vs 7) = w_fi ws (n_v vs 0) 7 := congrArg v_iv f2
  have kz_0_7 : 0 ≤ w_fi ws (n_v vs 0) 7 ∧ w_fi ws (n_v vs 0) 7 ≤ 2000 := tv_rng (th_fd hD hth r0 (g := GG_11) rfl (k := 7) (t := (0, 0, 2000, [])) rfl rfl)
  have rf9 : tv_ok ta (0, 0, 1999, []) (n_v vs 9) := tv_in t9 (by omega) (by omega)
  refine ⟨List.forall_mem_cons.mpr ⟨rf9, (fun _ h => (by cases h))⟩, [], trivial, ?_, (fun _ h => (by cases h))⟩
  rw [List.append_nil]
  exact (fun _ h => (by cases h))
def o_Sy_isWordAt_at_s5004_2 : or_T := (20, 12, [(0, (2, 0, 0, [11])), (2, (0, 0, 37, [])), (3, (0, 1, 38, [])), (4, (0, 0, 37, [])), (7, (0, 0, 2000, [])), (8, (0, 0, 2037, [])), (9, (0, 0, 1999, [])), (11, (0, 1, 38, []))], [(6, [11, 4], [1]), (2, [9, 8, 2], []), (1, [8, 7, 4], []), (9, [7, 0], [7]), (7, [4, 3], [2]), (20, [0, 3, 2], [30, 2000, 1, 1, 7, 1, 0, 0, -1, 0, 0]), (20, [2, 4], [30, 0, 1, 0, 0, -1, 0, 0])], [], [], [(20, [2, 11], [30, 0, 1, 0, 0, -1, 0, 0])], [], [(11, 4, 1, 1), (11, 3, -4294967296, 0), (11, 3, -4294967296, 48), (9, 8, -37, 0), (9, 4, -37, 2000), (9, 3, -4294967296, 1999), (9, 3, -4294967296, 2047), (9, 7, -37, 37), (8, 4, 0, 2000), (8, 3, -4294967296, 1999), (8, 3, -4294967296, 2047), (8, 7, 0, 37), (4, 3, -4294967296, -1), (2, 3, -4294967296, 47), (2, 4, -4294967296, 0), (3, 2, -4294967296, 38), (3, 4, -4294967296, 38), (4, 3, -4294967296, 47)])
theorem oo_Sy_isWordAt_at_s5004_2 {kA : Nat → ClassId} : or_ok kA GG o_Sy_isWordAt_at_s5004_2 := by
  intro A ta ws vs hD hth hl hk hds hf
  have hl : vs.length = 12 := hl
  have hk : ∀ q ∈ ([(0, (2, 0, 0, [11])), (2, (0, 0, 37, [])), (3, (0, 1, 38, [])), (4, (0, 0, 37, [])), (7, (0, 0, 2000, [])), (8, (0, 0, 2037, [])), (9, (0, 0, 1999, [])), (11, (0, 1, 38, []))] : List (Nat × tv_T)), tv_ok ta q.2 (n_v vs q.1) := hk
  obtain ⟨t0, hk⟩ := List.forall_mem_cons.mp hk
  have t0 : tv_ok ta (2, 0, 0, [11]) (n_v vs 0) := t0
  have r0 : ta (v_ad (n_v vs 0)) = some 11 := tv_rg t0
  obtain ⟨t2, hk⟩ := List.forall_mem_cons.mp hk
  have t2 : tv_ok ta (0, 0, 37, []) (n_v vs 2) := t2
  have k2 : 0 ≤ v_iv (n_v vs 2) ∧ v_iv (n_v vs 2) ≤ 37 := tv_rng t2
  obtain ⟨t3, hk⟩ := List.forall_mem_cons.mp hk
  have t3 : tv_ok ta (0, 1, 38, []) (n_v vs 3) := t3
  have k3 : 1 ≤ v_iv (n_v vs 3) ∧ v_iv (n_v vs 3) ≤ 38 := tv_rng t3
  obtain ⟨t4, hk⟩ := List.forall_mem_cons.mp hk
  have t4 : tv_ok ta (0, 0, 37, []) (n_v vs 4) := t4
  have k4 : 0 ≤ v_iv (n_v vs 4) ∧ v_iv (n_v vs 4) ≤ 37 := tv_rng t4
  obtain ⟨t7, hk⟩ := List.forall_mem_cons.mp hk
  have t7 : tv_ok ta (0, 0, 2000, []) (n_v vs 7) := t7
  have k7 : 0 ≤ v_iv (n_v vs 7) ∧ v_iv (n_v vs 7) ≤ 2000 := tv_rng t7
  obtain ⟨t8, hk⟩ := List.forall_mem_cons.mp hk
  have t8 : tv_ok ta (0, 0, 2037, []) (n_v vs 8) := t8
  have k8 : 0 ≤ v_iv (n_v vs 8) ∧ v_iv (n_v vs 8) ≤ 2037 := tv_rng t8
  obtain ⟨t9, hk⟩ := List.forall_mem_cons.mp hk
  have t9 : tv_ok ta (0, 0, 1999, []) (n_v vs 9) := t9
  have k9 : 0 ≤ v_iv (n_v vs 9) ∧ v_iv (n_v vs 9) ≤ 1999 := tv_rng t9
  obtain ⟨t11, hk⟩ := List.forall_mem_cons.mp hk
  have t11 : tv_ok ta (0, 1, 38, []) (n_v vs 11) := t11
  have k11 : 1 ≤ v_iv (n_v vs 11) ∧ v_iv (n_v vs 11) ≤ 38 := tv_rng t11
  have hds : ∀ q ∈ ([(11, 4, 1, 1), (11, 3, -4294967296, 0), (11, 3, -4294967296, 48), (9, 8, -37, 0), (9, 4, -37, 2000), (9, 3, -4294967296, 1999), (9, 3, -4294967296, 2047), (9, 7, -37, 37), (8, 4, 0, 2000), (8, 3, -4294967296, 1999), (8, 3, -4294967296, 2047), (8, 7, 0, 37), (4, 3, -4294967296, -1), (2, 3, -4294967296, 47), (2, 4, -4294967296, 0), (3, 2, -4294967296, 38), (3, 4, -4294967296, 38), (4, 3, -4294967296, 47)] : List of_T), n_iv vs q.2.1 + q.2.2.1 ≤ n_iv vs q.1 ∧ n_iv vs q.1 ≤ n_iv vs q.2.1 + q.2.2.2 := hds
  obtain ⟨d0, hds⟩ := List.forall_mem_cons.mp hds
  have d0 : v_iv (n_v vs 4) + 1 ≤ v_iv (n_v vs 11) ∧ v_iv (n_v vs 11) ≤ v_iv (n_v vs 4) + 1 := d0
  obtain ⟨d1, hds⟩ := List.forall_mem_cons.mp hds
  have d1 : v_iv (n_v vs 3) + (-4294967296) ≤ v_iv (n_v vs 11) ∧ v_iv (n_v vs 11) ≤ v_iv (n_v vs 3) + 0 := d1
  obtain ⟨d2, hds⟩ := List.forall_mem_cons.mp hds
  have d2 : v_iv (n_v vs 3) + (-4294967296) ≤ v_iv (n_v vs 11) ∧ v_iv (n_v vs 11) ≤ v_iv (n_v vs 3) + 48 := d2
  obtain ⟨d3, hds⟩ := List.forall_mem_cons.mp hds
  have d3 : v_iv (n_v vs 8) + (-37) ≤ v_iv (n_v vs 9) ∧ v_iv (n_v vs 9) ≤ v_iv (n_v vs 8) + 0 := d3
  obtain ⟨d4, hds⟩ := List.forall_mem_cons.mp hds
  have d4 : v_iv (n_v vs 4) + (-37) ≤ v_iv (n_v vs 9) ∧ v_iv (n_v vs 9) ≤ v_iv (n_v vs 4) + 2000 := d4
  obtain ⟨d5, hds⟩ := List.forall_mem_cons.mp hds
  have d5 : v_iv (n_v vs 3) + (-4294967296) ≤ v_iv (n_v vs 9) ∧ v_iv (n_v vs 9) ≤ v_iv (n_v vs 3) + 1999 := d5
  obtain ⟨d6, hds⟩ := List.forall_mem_cons.mp hds
  have d6 : v_iv (n_v vs 3) + (-4294967296) ≤ v_iv (n_v vs 9) ∧ v_iv (n_v vs 9) ≤ v_iv (n_v vs 3) + 2047 := d6
  obtain ⟨d7, hds⟩ := List.forall_mem_cons.mp hds
  have d7 : v_iv (n_v vs 7) + (-37) ≤ v_iv (n_v vs 9) ∧ v_iv (n_v vs 9) ≤ v_iv (n_v vs 7) + 37 := d7
  obtain ⟨d8, hds⟩ := List.forall_mem_cons.mp hds
  have d8 : v_iv (n_v vs 4) + 0 ≤ v_iv (n_v vs 8) ∧ v_iv (n_v vs 8) ≤ v_iv (n_v vs 4) + 2000 := d8
  obtain ⟨d9, hds⟩ := List.forall_mem_cons.mp hds
  have d9 : v_iv (n_v vs 3) + (-4294967296) ≤ v_iv (n_v vs 8) ∧ v_iv (n_v vs 8) ≤ v_iv (n_v vs 3) + 1999 := d9
  obtain ⟨d10, hds⟩ := List.forall_mem_cons.mp hds
  have d10 : v_iv (n_v vs 3) + (-4294967296) ≤ v_iv (n_v vs 8) ∧ v_iv (n_v vs 8) ≤ v_iv (n_v vs 3) + 2047 := d10
  obtain ⟨d11, hds⟩ := List.forall_mem_cons.mp hds
  have d11 : v_iv (n_v vs 7) + 0 ≤ v_iv (n_v vs 8) ∧ v_iv (n_v vs 8) ≤ v_iv (n_v vs 7) + 37 := d11
  obtain ⟨d12, hds⟩ := List.forall_mem_cons.mp hds
  have d12 : v_iv (n_v vs 3) + (-4294967296) ≤ v_iv (n_v vs 4) ∧ v_iv (n_v vs 4) ≤ v_iv (n_v vs 3) + (-1) := d12
  obtain ⟨d13, hds⟩ := List.forall_mem_cons.mp hds
  have d13 : v_iv (n_v vs 3) + (-4294967296) ≤ v_iv (n_v vs 2) ∧ v_iv (n_v vs 2) ≤ v_iv (n_v vs 3) + 47 := d13
  obtain ⟨d14, hds⟩ := List.forall_mem_cons.mp hds
  have d14 : v_iv (n_v vs 4) + (-4294967296) ≤ v_iv (n_v vs 2) ∧ v_iv (n_v vs 2) ≤ v_iv (n_v vs 4) + 0 := d14
  obtain ⟨d15, hds⟩ := List.forall_mem_cons.mp hds
  have d15 : v_iv (n_v vs 2) + (-4294967296) ≤ v_iv (n_v vs 3) ∧ v_iv (n_v vs 3) ≤ v_iv (n_v vs 2) + 38 := d15
  obtain ⟨d16, hds⟩ := List.forall_mem_cons.mp hds
  have d16 : v_iv (n_v vs 4) + (-4294967296) ≤ v_iv (n_v vs 3) ∧ v_iv (n_v vs 3) ≤ v_iv (n_v vs 4) + 38 := d16
  obtain ⟨d17, hds⟩ := List.forall_mem_cons.mp hds
  have d17 : v_iv (n_v vs 3) + (-4294967296) ≤ v_iv (n_v vs 4) ∧ v_iv (n_v vs 4) ≤ v_iv (n_v vs 3) + 47 := d17
  have hf : fc_ok [(6, [11, 4], [1]), (2, [9, 8, 2], []), (1, [8, 7, 4], []), (9, [7, 0], [7]), (7, [4, 3], [2]), (20, [0, 3, 2], [30, 2000, 1, 1, 7, 1, 0, 0, -1, 0, 0]), (20, [2, 4], [30, 0, 1, 0, 0, -1, 0, 0])] ta ws vs := hf
  obtain ⟨f0, hf⟩ := fc_un (show (6 : Nat) < 100 from by decide) hf
  have f0 : v_iv (n_v vs 11) = v_iv (n_v vs 4) + 1 := f0
  obtain ⟨f1, hf⟩ := fc_un (show (2 : Nat) < 100 from by decide) hf
  have f1 : v_iv (n_v vs 9) = v_iv (n_v vs 8) - v_iv (n_v vs 2) := f1
  obtain ⟨f2, hf⟩ := fc_un (show (1 : Nat) < 100 from by decide) hf
  have f2 : v_iv (n_v vs 8) = v_iv (n_v vs 7) + v_iv (n_v vs 4) := f2
  obtain ⟨f3, hf⟩ := fc_un (show (9 : Nat) < 100 from by decide) hf
  have f3 : n_v vs 7 = w_fd ws (v_ad (n_v vs 0)) 7 := f3
  obtain ⟨f4, hf⟩ := fc_un (show (7 : Nat) < 100 from by decide) hf
  have f4 : v_iv (n_v vs 4) < v_iv (n_v vs 3) := f4
  obtain ⟨f5, hf⟩ := fc_un (show (20 : Nat) < 100 from by decide) hf
  have f5 : 1 * w_fi ws (n_v vs 0) 7 + (1 * v_iv (n_v vs 3) + ((-1) * v_iv (n_v vs 2) + 0)) ≤ 2000 := f5
  obtain ⟨f6, hf⟩ := fc_un (show (20 : Nat) < 100 from by decide) hf
  have f6 : 1 * v_iv (n_v vs 2) + ((-1) * v_iv (n_v vs 4) + 0) ≤ 0 := f6
  have g3 : v_iv (n_v vs 7) = w_fi ws (n_v vs 0) 7 := congrArg v_iv f3
  have kz_0_7 : 0 ≤ w_fi ws (n_v vs 0) 7 ∧ w_fi ws (n_v vs 0) 7 ≤ 2000 := tv_rng (th_fd hD hth r0 (g := GG_11) rfl (k := 7) (t := (0, 0, 2000, [])) rfl rfl)
  have nf0 : fc_1 (20, [2, 11], [30, 0, 1, 0, 0, -1, 0, 0]) ws (vs) := by
    refine ⟨fun n hn => ?_, ?_⟩
    · have hn : n ∈ [2, 11] := hn
      rw [hl]
      simp only [List.mem_cons, List.not_mem_nil, or_false] at hn
      show n < 12; omega
    · show 1 * v_iv (n_v vs 2) + ((-1) * v_iv (n_v vs 11) + 0) ≤ 0
      omega
  refine ⟨(fun _ h => (by cases h)), [], trivial, ?_, (fun _ h => (by cases h))⟩
  rw [List.append_nil]
  exact List.forall_mem_cons.mpr ⟨⟨show (20 : Nat) < 100 from by decide, nf0⟩, (fun _ h => (by cases h))⟩
def n_Sy_isWordAt_at_s5004_an : List an_T := [(20, [(0, (2, 0, 0, [11])), (1, (2, 0, 0, [5004])), (2, (0, 0, 47, [])), (3, (0, 0, 38, [])), (4, (0, 0, 47, []))], [], (0, 0), [(0, 0, 99980), (1, 4, 47), (0, 0, 100000)], [(2, 3, -1000000000000, 47), (2, 4, -1000000000000, 0), (3, 2, -1000000000000, 38), (3, 4, -1000000000000, 38), (4, 3, -1000000000000, 47)], [((0, 3), (2, 0, 0, [109]))], [], 0, [], [(20, [0, 3, 2], [30, 2000, 1, 1, 7, 1, 0, 0, -1, 0, 0]), (20, [2, 4], [30, 0, 1, 0, 0, -1, 0, 0])])]
def t_Sy_isWordAt_at_s5004_ct : ct_L := [(91, 104, e_jStr_charAt_v144)]
set_option maxRecDepth 100000 in
theorem c_Sy_isWordAt_at_s5004 {l : Launch} {D : va_G} {kA : Nat → ClassId} : ct_ok l D kA GG y_Sy_isWordAt_at_s5004 z_Sy_isWordAt_at_s5004 e_Sy_isWordAt_at_s5004 := chk_all_ok (FT := [(21, 11, 3), (28, 11, 5), (34, 11, 7)]) (PT := []) (CT := t_Sy_isWordAt_at_s5004_ct) (KT := []) (NT := []) (AN := n_Sy_isWordAt_at_s5004_an) (OT := [o_Sy_isWordAt_at_s5004_0, o_Sy_isWordAt_at_s5004_1, o_Sy_isWordAt_at_s5004_2]) 3 200 (List.forall_mem_cons.mpr ⟨oo_Sy_isWordAt_at_s5004_0, List.forall_mem_cons.mpr ⟨oo_Sy_isWordAt_at_s5004_1, List.forall_mem_cons.mpr ⟨oo_Sy_isWordAt_at_s5004_2, List.forall_mem_nil _⟩⟩⟩) (by decide +kernel) ⟨List.forall_mem_cons.mpr ⟨gf_Sy_21, List.forall_mem_cons.mpr ⟨gf_Sy_28, List.forall_mem_cons.mpr ⟨gf_Sy_34, List.forall_mem_nil _⟩⟩⟩, List.forall_mem_nil _, List.forall_mem_cons.mpr ⟨cl_string (y := y_jStr_charAt) (i := 4) rfl rfl (by decide +kernel) rfl c_jStr_charAt_v144 wm_684 wm_11 wm_2231 wm_682 wm_683 ⟨by decide, by decide, by decide +kernel⟩ (by decide), List.forall_mem_nil _⟩, List.forall_mem_nil _, List.forall_mem_nil _, GG_pl⟩ (by decide +kernel)
def o_Sy_isWordAt_at_s5006_0 : or_T := (20, 9, [(0, (2, 0, 0, [11])), (2, (0, 0, 15, [])), (3, (0, 0, 9, [])), (5, (0, 0, 2000, [])), (6, (0, 0, 2000, [])), (7, (0, -15, 9, [])), (8, (0, -15, 9, []))], [(7, [7, 8], [0]), (2, [8, 3, 2], []), (2, [7, 5, 6], []), (9, [6, 0], [7]), (9, [5, 0], [5])], [], [], [(20, [0, 3, 2], [30, 2000, 1, 1, 7, 1, 0, 0, -1, 0, 0]), (20, [2, 2], [30, 0, 1, 0, 0, -1, 0, 0])], [], [(7, 8, 0, 0), (8, 3, -15, 0), (7, 5, -2000, 0)])
theorem oo_Sy_isWordAt_at_s5006_0 {kA : Nat → ClassId} : or_ok kA GG o_Sy_isWordAt_at_s5006_0 := by
  intro A ta ws vs hD hth hl hk hds hf
  have hl : vs.length = 9 := hl
  have hk : ∀ q ∈ ([(0, (2, 0, 0, [11])), (2, (0, 0, 15, [])), (3, (0, 0, 9, [])), (5, (0, 0, 2000, [])), (6, (0, 0, 2000, [])), (7, (0, -15, 9, [])), (8, (0, -15, 9, []))] : List (Nat × tv_T)), tv_ok ta q.2 (n_v vs q.1) := hk
  obtain ⟨t0, hk⟩ := List.forall_mem_cons.mp hk
  have t0 : tv_ok ta (2, 0, 0, [11]) (n_v vs 0) := t0
  have r0 : ta (v_ad (n_v vs 0)) = some 11 := tv_rg t0
  obtain ⟨t2, hk⟩ := List.forall_mem_cons.mp hk
  have t2 : tv_ok ta (0, 0, 15, []) (n_v vs 2) := t2
  have k2 : 0 ≤ v_iv (n_v vs 2) ∧ v_iv (n_v vs 2) ≤ 15 := tv_rng t2
  obtain ⟨t3, hk⟩ := List.forall_mem_cons.mp hk
  have t3 : tv_ok ta (0, 0, 9, []) (n_v vs 3) := t3
  have k3 : 0 ≤ v_iv (n_v vs 3) ∧ v_iv (n_v vs 3) ≤ 9 := tv_rng t3
  obtain ⟨t5, hk⟩ := List.forall_mem_cons.mp hk
  have t5 : tv_ok ta (0, 0, 2000, []) (n_v vs 5) := t5
  have k5 : 0 ≤ v_iv (n_v vs 5) ∧ v_iv (n_v vs 5) ≤ 2000 := tv_rng t5
  obtain ⟨t6, hk⟩ := List.forall_mem_cons.mp hk
  have t6 : tv_ok ta (0, 0, 2000, []) (n_v vs 6) := t6
  have k6 : 0 ≤ v_iv (n_v vs 6) ∧ v_iv (n_v vs 6) ≤ 2000 := tv_rng t6
  obtain ⟨t7, hk⟩ := List.forall_mem_cons.mp hk
  have t7 : tv_ok ta (0, -15, 9, []) (n_v vs 7) := t7
  have k7 : (-15) ≤ v_iv (n_v vs 7) ∧ v_iv (n_v vs 7) ≤ 9 := tv_rng t7
  obtain ⟨t8, hk⟩ := List.forall_mem_cons.mp hk
  have t8 : tv_ok ta (0, -15, 9, []) (n_v vs 8) := t8
  have k8 : (-15) ≤ v_iv (n_v vs 8) ∧ v_iv (n_v vs 8) ≤ 9 := tv_rng t8
  have hds : ∀ q ∈ ([(7, 8, 0, 0), (8, 3, -15, 0), (7, 5, -2000, 0)] : List of_T), n_iv vs q.2.1 + q.2.2.1 ≤ n_iv vs q.1 ∧ n_iv vs q.1 ≤ n_iv vs q.2.1 + q.2.2.2 := hds
  obtain ⟨d0, hds⟩ := List.forall_mem_cons.mp hds
  have d0 : v_iv (n_v vs 8) + 0 ≤ v_iv (n_v vs 7) ∧ v_iv (n_v vs 7) ≤ v_iv (n_v vs 8) + 0 := d0
  obtain ⟨d1, hds⟩ := List.forall_mem_cons.mp hds
  have d1 : v_iv (n_v vs 3) + (-15) ≤ v_iv (n_v vs 8) ∧ v_iv (n_v vs 8) ≤ v_iv (n_v vs 3) + 0 := d1
  obtain ⟨d2, hds⟩ := List.forall_mem_cons.mp hds
  have d2 : v_iv (n_v vs 5) + (-2000) ≤ v_iv (n_v vs 7) ∧ v_iv (n_v vs 7) ≤ v_iv (n_v vs 5) + 0 := d2
  have hf : fc_ok [(7, [7, 8], [0]), (2, [8, 3, 2], []), (2, [7, 5, 6], []), (9, [6, 0], [7]), (9, [5, 0], [5])] ta ws vs := hf
  obtain ⟨f0, hf⟩ := fc_un (show (7 : Nat) < 100 from by decide) hf
  have f0 : v_iv (n_v vs 7) = v_iv (n_v vs 8) := f0
  obtain ⟨f1, hf⟩ := fc_un (show (2 : Nat) < 100 from by decide) hf
  have f1 : v_iv (n_v vs 8) = v_iv (n_v vs 3) - v_iv (n_v vs 2) := f1
  obtain ⟨f2, hf⟩ := fc_un (show (2 : Nat) < 100 from by decide) hf
  have f2 : v_iv (n_v vs 7) = v_iv (n_v vs 5) - v_iv (n_v vs 6) := f2
  obtain ⟨f3, hf⟩ := fc_un (show (9 : Nat) < 100 from by decide) hf
  have f3 : n_v vs 6 = w_fd ws (v_ad (n_v vs 0)) 7 := f3
  obtain ⟨f4, hf⟩ := fc_un (show (9 : Nat) < 100 from by decide) hf
  have f4 : n_v vs 5 = w_fd ws (v_ad (n_v vs 0)) 5 := f4
  have g3 : v_iv (n_v vs 6) = w_fi ws (n_v vs 0) 7 := congrArg v_iv f3
  have g4 : v_iv (n_v vs 5) = w_fi ws (n_v vs 0) 5 := congrArg v_iv f4
  have kz_0_5 : 0 ≤ w_fi ws (n_v vs 0) 5 ∧ w_fi ws (n_v vs 0) 5 ≤ 2000 := tv_rng (th_fd hD hth r0 (g := GG_11) rfl (k := 5) (t := (0, 0, 2000, [])) rfl rfl)
  have kz_0_7 : 0 ≤ w_fi ws (n_v vs 0) 7 ∧ w_fi ws (n_v vs 0) 7 ≤ 2000 := tv_rng (th_fd hD hth r0 (g := GG_11) rfl (k := 7) (t := (0, 0, 2000, [])) rfl rfl)
  have nf0 : fc_1 (20, [0, 3, 2], [30, 2000, 1, 1, 7, 1, 0, 0, -1, 0, 0]) ws (vs) := by
    refine ⟨fun n hn => ?_, ?_⟩
    · have hn : n ∈ [0, 3, 2] := hn
      rw [hl]
      simp only [List.mem_cons, List.not_mem_nil, or_false] at hn
      show n < 9; omega
    · show 1 * w_fi ws (n_v vs 0) 7 + (1 * v_iv (n_v vs 3) + ((-1) * v_iv (n_v vs 2) + 0)) ≤ 2000
      omega
  have nf1 : fc_1 (20, [2, 2], [30, 0, 1, 0, 0, -1, 0, 0]) ws (vs) := by
    refine ⟨fun n hn => ?_, ?_⟩
    · have hn : n ∈ [2, 2] := hn
      rw [hl]
      simp only [List.mem_cons, List.not_mem_nil, or_false] at hn
      show n < 9; omega
    · show 1 * v_iv (n_v vs 2) + ((-1) * v_iv (n_v vs 2) + 0) ≤ 0
      omega
  refine ⟨(fun _ h => (by cases h)), [], trivial, ?_, (fun _ h => (by cases h))⟩
  rw [List.append_nil]
  exact List.forall_mem_cons.mpr ⟨⟨show (20 : Nat) < 100 from by decide, nf0⟩, List.forall_mem_cons.mpr ⟨⟨show (20 : Nat) < 100 from by decide, nf1⟩, (fun _ h => (by cases h))⟩⟩
def o_Sy_isWordAt_at_s5006_1 : or_T := (45, 10, [(0, (2, 0, 0, [11])), (2, (0, 0, 8, [])), (3, (0, 1, 9, [])), (4, (0, 0, 8, [])), (7, (0, 0, 2000, [])), (8, (0, 0, 2008, [])), (9, (0, -8, 2008, []))], [(2, [9, 8, 2], []), (1, [8, 7, 4], []), (9, [7, 0], [7]), (7, [4, 3], [2]), (20, [0, 3, 2], [30, 2000, 1, 1, 7, 1, 0, 0, -1, 0, 0]), (20, [2, 4], [30, 0, 1, 0, 0, -1, 0, 0])], [(9, (0, 0, 1999, []))], [], [], [], [(9, 8, -8, 0), (9, 4, -8, 2000), (9, 3, -4294967296, 1999), (9, 3, -4294967296, 2015), (9, 7, -8, 8), (8, 4, 0, 2000), (8, 3, -4294967296, 1999), (8, 3, -4294967296, 2015), (8, 7, 0, 8), (4, 3, -4294967296, -1), (2, 3, -4294967296, 15), (2, 4, -4294967296, 0), (3, 2, -4294967296, 9), (3, 4, -4294967296, 9), (4, 3, -4294967296, 15)])
theorem oo_Sy_isWordAt_at_s5006_1 {kA : Nat → ClassId} : or_ok kA GG o_Sy_isWordAt_at_s5006_1 := by
  intro A ta ws vs hD hth hl hk hds hf
  have hl : vs.length = 10 := hl
  have hk : ∀ q ∈ ([(0, (2, 0, 0, [11])), (2, (0, 0, 8, [])), (3, (0, 1, 9, [])), (4, (0, 0, 8, [])), (7, (0, 0, 2000, [])), (8, (0, 0, 2008, [])), (9, (0, -8, 2008, []))] : List (Nat × tv_T)), tv_ok ta q.2 (n_v vs q.1) := hk
  obtain ⟨t0, hk⟩ := List.forall_mem_cons.mp hk
  have t0 : tv_ok ta (2, 0, 0, [11]) (n_v vs 0) := t0
  have r0 : ta (v_ad (n_v vs 0)) = some 11 := tv_rg t0
  obtain ⟨t2, hk⟩ := List.forall_mem_cons.mp hk
  have t2 : tv_ok ta (0, 0, 8, []) (n_v vs 2) := t2
  have k2 : 0 ≤ v_iv (n_v vs 2) ∧ v_iv (n_v vs 2) ≤ 8 := tv_rng t2
  obtain ⟨t3, hk⟩ := List.forall_mem_cons.mp hk
  have t3 : tv_ok ta (0, 1, 9, []) (n_v vs 3) := t3
  have k3 : 1 ≤ v_iv (n_v vs 3) ∧ v_iv (n_v vs 3) ≤ 9 := tv_rng t3
  obtain ⟨t4, hk⟩ := List.forall_mem_cons.mp hk
  have t4 : tv_ok ta (0, 0, 8, []) (n_v vs 4) := t4
  have k4 : 0 ≤ v_iv (n_v vs 4) ∧ v_iv (n_v vs 4) ≤ 8 := tv_rng t4
  obtain ⟨t7, hk⟩ := List.forall_mem_cons.mp hk
  have t7 : tv_ok ta (0, 0, 2000, []) (n_v vs 7) := t7
  have k7 : 0 ≤ v_iv (n_v vs 7) ∧ v_iv (n_v vs 7) ≤ 2000 := tv_rng t7
  obtain ⟨t8, hk⟩ := List.forall_mem_cons.mp hk
  have t8 : tv_ok ta (0, 0, 2008, []) (n_v vs 8) := t8
  have k8 : 0 ≤ v_iv (n_v vs 8) ∧ v_iv (n_v vs 8) ≤ 2008 := tv_rng t8
  obtain ⟨t9, hk⟩ := List.forall_mem_cons.mp hk
  have t9 : tv_ok ta (0, -8, 2008, []) (n_v vs 9) := t9
  have k9 : (-8) ≤ v_iv (n_v vs 9) ∧ v_iv (n_v vs 9) ≤ 2008 := tv_rng t9
  have hds : ∀ q ∈ ([(9, 8, -8, 0), (9, 4, -8, 2000), (9, 3, -4294967296, 1999), (9, 3, -4294967296, 2015), (9, 7, -8, 8), (8, 4, 0, 2000), (8, 3, -4294967296, 1999), (8, 3, -4294967296, 2015), (8, 7, 0, 8), (4, 3, -4294967296, -1), (2, 3, -4294967296, 15), (2, 4, -4294967296, 0), (3, 2, -4294967296, 9), (3, 4, -4294967296, 9), (4, 3, -4294967296, 15)] : List of_T), n_iv vs q.2.1 + q.2.2.1 ≤ n_iv vs q.1 ∧ n_iv vs q.1 ≤ n_iv vs q.2.1 + q.2.2.2 := hds
  obtain ⟨d0, hds⟩ := List.forall_mem_cons.mp hds
  have d0 : v_iv (n_v vs 8) + (-8) ≤ v_iv (n_v vs 9) ∧ v_iv (n_v vs 9) ≤ v_iv (n_v vs 8) + 0 := d0
  obtain ⟨d1, hds⟩ := List.forall_mem_cons.mp hds
  have d1 : v_iv (n_v vs 4) + (-8) ≤ v_iv (n_v vs 9) ∧ v_iv (n_v vs 9) ≤ v_iv (n_v vs 4) + 2000 := d1
  obtain ⟨d2, hds⟩ := List.forall_mem_cons.mp hds
  have d2 : v_iv (n_v vs 3) + (-4294967296) ≤ v_iv (n_v vs 9) ∧ v_iv (n_v vs 9) ≤ v_iv (n_v vs 3) + 1999 := d2
  obtain ⟨d3, hds⟩ := List.forall_mem_cons.mp hds
  have d3 : v_iv (n_v vs 3) + (-4294967296) ≤ v_iv (n_v vs 9) ∧ v_iv (n_v vs 9) ≤ v_iv (n_v vs 3) + 2015 := d3
  obtain ⟨d4, hds⟩ := List.forall_mem_cons.mp hds
  have d4 : v_iv (n_v vs 7) + (-8) ≤ v_iv (n_v vs 9) ∧ v_iv (n_v vs 9) ≤ v_iv (n_v vs 7) + 8 := d4
  obtain ⟨d5, hds⟩ := List.forall_mem_cons.mp hds
  have d5 : v_iv (n_v vs 4) + 0 ≤ v_iv (n_v vs 8) ∧ v_iv (n_v vs 8) ≤ v_iv (n_v vs 4) + 2000 := d5
  obtain ⟨d6, hds⟩ := List.forall_mem_cons.mp hds
  have d6 : v_iv (n_v vs 3) + (-4294967296) ≤ v_iv (n_v vs 8) ∧ v_iv (n_v vs 8) ≤ v_iv (n_v vs 3) + 1999 := d6
  obtain ⟨d7, hds⟩ := List.forall_mem_cons.mp hds
  have d7 : v_iv (n_v vs 3) + (-4294967296) ≤ v_iv (n_v vs 8) ∧ v_iv (n_v vs 8) ≤ v_iv (n_v vs 3) + 2015 := d7
  obtain ⟨d8, hds⟩ := List.forall_mem_cons.mp hds
  have d8 : v_iv (n_v vs 7) + 0 ≤ v_iv (n_v vs 8) ∧ v_iv (n_v vs 8) ≤ v_iv (n_v vs 7) + 8 := d8
  obtain ⟨d9, hds⟩ := List.forall_mem_cons.mp hds
  have d9 : v_iv (n_v vs 3) + (-4294967296) ≤ v_iv (n_v vs 4) ∧ v_iv (n_v vs 4) ≤ v_iv (n_v vs 3) + (-1) := d9
  obtain ⟨d10, hds⟩ := List.forall_mem_cons.mp hds
  have d10 : v_iv (n_v vs 3) + (-4294967296) ≤ v_iv (n_v vs 2) ∧ v_iv (n_v vs 2) ≤ v_iv (n_v vs 3) + 15 := d10
  obtain ⟨d11, hds⟩ := List.forall_mem_cons.mp hds
  have d11 : v_iv (n_v vs 4) + (-4294967296) ≤ v_iv (n_v vs 2) ∧ v_iv (n_v vs 2) ≤ v_iv (n_v vs 4) + 0 := d11
  obtain ⟨d12, hds⟩ := List.forall_mem_cons.mp hds
  have d12 : v_iv (n_v vs 2) + (-4294967296) ≤ v_iv (n_v vs 3) ∧ v_iv (n_v vs 3) ≤ v_iv (n_v vs 2) + 9 := d12
  obtain ⟨d13, hds⟩ := List.forall_mem_cons.mp hds
  have d13 : v_iv (n_v vs 4) + (-4294967296) ≤ v_iv (n_v vs 3) ∧ v_iv (n_v vs 3) ≤ v_iv (n_v vs 4) + 9 := d13
  obtain ⟨d14, hds⟩ := List.forall_mem_cons.mp hds
  have d14 : v_iv (n_v vs 3) + (-4294967296) ≤ v_iv (n_v vs 4) ∧ v_iv (n_v vs 4) ≤ v_iv (n_v vs 3) + 15 := d14
  have hf : fc_ok [(2, [9, 8, 2], []), (1, [8, 7, 4], []), (9, [7, 0], [7]), (7, [4, 3], [2]), (20, [0, 3, 2], [30, 2000, 1, 1, 7, 1, 0, 0, -1, 0, 0]), (20, [2, 4], [30, 0, 1, 0, 0, -1, 0, 0])] ta ws vs := hf
  obtain ⟨f0, hf⟩ := fc_un (show (2 : Nat) < 100 from by decide) hf
  have f0 : v_iv (n_v vs 9) = v_iv (n_v vs 8) - v_iv (n_v vs 2) := f0
  obtain ⟨f1, hf⟩ := fc_un (show (1 : Nat) < 100 from by decide) hf
  have f1 : v_iv (n_v vs 8) = v_iv (n_v vs 7) + v_iv (n_v vs 4) := f1
  obtain ⟨f2, hf⟩ := fc_un (show (9 : Nat) < 100 from by decide) hf
  have f2 : n_v vs 7 = w_fd ws (v_ad (n_v vs 0)) 7 := f2
  obtain ⟨f3, hf⟩ := fc_un (show (7 : Nat) < 100 from by decide) hf
  have f3 : v_iv (n_v vs 4) < v_iv (n_v vs 3) := f3
  obtain ⟨f4, hf⟩ := fc_un (show (20 : Nat) < 100 from by decide) hf
  have f4 : 1 * w_fi ws (n_v vs 0) 7 + (1 * v_iv (n_v vs 3) + ((-1) * v_iv (n_v vs 2) + 0)) ≤ 2000 := f4
  obtain ⟨f5, hf⟩ := fc_un (show (20 : Nat) < 100 from by decide) hf
  have f5 : 1 * v_iv (n_v vs 2) + ((-1) * v_iv (n_v vs 4) + 0) ≤ 0 := f5
  have g2 : v_iv (n_v vs 7) = w_fi ws (n_v vs 0) 7 := congrArg v_iv f2
  have kz_0_7 : 0 ≤ w_fi ws (n_v vs 0) 7 ∧ w_fi ws (n_v vs 0) 7 ≤ 2000 := tv_rng (th_fd hD hth r0 (g := GG_11) rfl (k := 7) (t := (0, 0, 2000, [])) rfl rfl)
  have rf9 : tv_ok ta (0, 0, 1999, []) (n_v vs 9) := tv_in t9 (by omega) (by omega)
  refine ⟨List.forall_mem_cons.mpr ⟨rf9, (fun _ h => (by cases h))⟩, [], trivial, ?_, (fun _ h => (by cases h))⟩
  rw [List.append_nil]
  exact (fun _ h => (by cases h))
def o_Sy_isWordAt_at_s5006_2 : or_T := (20, 12, [(0, (2, 0, 0, [11])), (2, (0, 0, 8, [])), (3, (0, 1, 9, [])), (4, (0, 0, 8, [])), (7, (0, 0, 2000, [])), (8, (0, 0, 2008, [])), (9, (0, 0, 1999, [])), (11, (0, 1, 9, []))], [(6, [11, 4], [1]), (2, [9, 8, 2], []), (1, [8, 7, 4], []), (9, [7, 0], [7]), (7, [4, 3], [2]), (20, [0, 3, 2], [30, 2000, 1, 1, 7, 1, 0, 0, -1, 0, 0]), (20, [2, 4], [30, 0, 1, 0, 0, -1, 0, 0])], [], [], [(20, [2, 11], [30, 0, 1, 0, 0, -1, 0, 0])], [], [(11, 4, 1, 1), (11, 3, -4294967296, 0), (11, 3, -4294967296, 16), (9, 8, -8, 0), (9, 4, -8, 2000), (9, 3, -4294967296, 1999), (9, 3, -4294967296, 2015), (9, 7, -8, 8), (8, 4, 0, 2000), (8, 3, -4294967296, 1999), (8, 3, -4294967296, 2015), (8, 7, 0, 8), (4, 3, -4294967296, -1), (2, 3, -4294967296, 15), (2, 4, -4294967296, 0), (3, 2, -4294967296, 9), (3, 4, -4294967296, 9), (4, 3, -4294967296, 15)])
theorem oo_Sy_isWordAt_at_s5006_2 {kA : Nat → ClassId} : or_ok kA GG o_Sy_isWordAt_at_s5006_2 := by
  intro A ta ws vs hD hth hl hk hds hf
  have hl : vs.length = 12 := hl
  have hk : ∀ q ∈ ([(0, (2, 0, 0, [11])), (2, (0, 0, 8, [])), (3, (0, 1, 9, [])), (4, (0, 0, 8, [])), (7, (0, 0, 2000, [])), (8, (0, 0, 2008, [])), (9, (0, 0, 1999, [])), (11, (0, 1, 9, []))] : List (Nat × tv_T)), tv_ok ta q.2 (n_v vs q.1) := hk
  obtain ⟨t0, hk⟩ := List.forall_mem_cons.mp hk
  have t0 : tv_ok ta (2, 0, 0, [11]) (n_v vs 0) := t0
  have r0 : ta (v_ad (n_v vs 0)) = some 11 := tv_rg t0
  obtain ⟨t2, hk⟩ := List.forall_mem_cons.mp hk
  have t2 : tv_ok ta (0, 0, 8, []) (n_v vs 2) := t2
  have k2 : 0 ≤ v_iv (n_v vs 2) ∧ v_iv (n_v vs 2) ≤ 8 := tv_rng t2
  obtain ⟨t3, hk⟩ := List.forall_mem_cons.mp hk
  have t3 : tv_ok ta (0, 1, 9, []) (n_v vs 3) := t3
  have k3 : 1 ≤ v_iv (n_v vs 3) ∧ v_iv (n_v vs 3) ≤ 9 := tv_rng t3
  obtain ⟨t4, hk⟩ := List.forall_mem_cons.mp hk
  have t4 : tv_ok ta (0, 0, 8, []) (n_v vs 4) := t4
  have k4 : 0 ≤ v_iv (n_v vs 4) ∧ v_iv (n_v vs 4) ≤ 8 := tv_rng t4
  obtain ⟨t7, hk⟩ := List.forall_mem_cons.mp hk
  have t7 : tv_ok ta (0, 0, 2000, []) (n_v vs 7) := t7
  have k7 : 0 ≤ v_iv (n_v vs 7) ∧ v_iv (n_v vs 7) ≤ 2000 := tv_rng t7
  obtain ⟨t8, hk⟩ := List.forall_mem_cons.mp hk
  have t8 : tv_ok ta (0, 0, 2008, []) (n_v vs 8) := t8
  have k8 : 0 ≤ v_iv (n_v vs 8) ∧ v_iv (n_v vs 8) ≤ 2008 := tv_rng t8
  obtain ⟨t9, hk⟩ := List.forall_mem_cons.mp hk
  have t9 : tv_ok ta (0, 0, 1999, []) (n_v vs 9) := t9
  have k9 : 0 ≤ v_iv (n_v vs 9) ∧ v_iv (n_v vs 9) ≤ 1999 := tv_rng t9
  obtain ⟨t11, hk⟩ := List.forall_mem_cons.mp hk
  have t11 : tv_ok ta (0, 1, 9, []) (n_v vs 11) := t11
  have k11 : 1 ≤ v_iv (n_v vs 11) ∧ v_iv (n_v vs 11) ≤ 9 := tv_rng t11
  have hds : ∀ q ∈ ([(11, 4, 1, 1), (11, 3, -4294967296, 0), (11, 3, -4294967296, 16), (9, 8, -8, 0), (9, 4, -8, 2000), (9, 3, -4294967296, 1999), (9, 3, -4294967296, 2015), (9, 7, -8, 8), (8, 4, 0, 2000), (8, 3, -4294967296, 1999), (8, 3, -4294967296, 2015), (8, 7, 0, 8), (4, 3, -4294967296, -1), (2, 3, -4294967296, 15), (2, 4, -4294967296, 0), (3, 2, -4294967296, 9), (3, 4, -4294967296, 9), (4, 3, -4294967296, 15)] : List of_T), n_iv vs q.2.1 + q.2.2.1 ≤ n_iv vs q.1 ∧ n_iv vs q.1 ≤ n_iv vs q.2.1 + q.2.2.2 := hds
  obtain ⟨d0, hds⟩ := List.forall_mem_cons.mp hds
  have d0 : v_iv (n_v vs 4) + 1 ≤ v_iv (n_v vs 11) ∧ v_iv (n_v vs 11) ≤ v_iv (n_v vs 4) + 1 := d0
  obtain ⟨d1, hds⟩ := List.forall_mem_cons.mp hds
  have d1 : v_iv (n_v vs 3) + (-4294967296) ≤ v_iv (n_v vs 11) ∧ v_iv (n_v vs 11) ≤ v_iv (n_v vs 3) + 0 := d1
  obtain ⟨d2, hds⟩ := List.forall_mem_cons.mp hds
  have d2 : v_iv (n_v vs 3) + (-4294967296) ≤ v_iv (n_v vs 11) ∧ v_iv (n_v vs 11) ≤ v_iv (n_v vs 3) + 16 := d2
  obtain ⟨d3, hds⟩ := List.forall_mem_cons.mp hds
  have d3 : v_iv (n_v vs 8) + (-8) ≤ v_iv (n_v vs 9) ∧ v_iv (n_v vs 9) ≤ v_iv (n_v vs 8) + 0 := d3
  obtain ⟨d4, hds⟩ := List.forall_mem_cons.mp hds
  have d4 : v_iv (n_v vs 4) + (-8) ≤ v_iv (n_v vs 9) ∧ v_iv (n_v vs 9) ≤ v_iv (n_v vs 4) + 2000 := d4
  obtain ⟨d5, hds⟩ := List.forall_mem_cons.mp hds
  have d5 : v_iv (n_v vs 3) + (-4294967296) ≤ v_iv (n_v vs 9) ∧ v_iv (n_v vs 9) ≤ v_iv (n_v vs 3) + 1999 := d5
  obtain ⟨d6, hds⟩ := List.forall_mem_cons.mp hds
  have d6 : v_iv (n_v vs 3) + (-4294967296) ≤ v_iv (n_v vs 9) ∧ v_iv (n_v vs 9) ≤ v_iv (n_v vs 3) + 2015 := d6
  obtain ⟨d7, hds⟩ := List.forall_mem_cons.mp hds
  have d7 : v_iv (n_v vs 7) + (-8) ≤ v_iv (n_v vs 9) ∧ v_iv (n_v vs 9) ≤ v_iv (n_v vs 7) + 8 := d7
  obtain ⟨d8, hds⟩ := List.forall_mem_cons.mp hds
  have d8 : v_iv (n_v vs 4) + 0 ≤ v_iv (n_v vs 8) ∧ v_iv (n_v vs 8) ≤ v_iv (n_v vs 4) + 2000 := d8
  obtain ⟨d9, hds⟩ := List.forall_mem_cons.mp hds
  have d9 : v_iv (n_v vs 3) + (-4294967296) ≤ v_iv (n_v vs 8) ∧ v_iv (n_v vs 8) ≤ v_iv (n_v vs 3) + 1999 := d9
  obtain ⟨d10, hds⟩ := List.forall_mem_cons.mp hds
  have d10 : v_iv (n_v vs 3) + (-4294967296) ≤ v_iv (n_v vs 8) ∧ v_iv (n_v vs 8) ≤ v_iv (n_v vs 3) + 2015 := d10
  obtain ⟨d11, hds⟩ := List.forall_mem_cons.mp hds
  have d11 : v_iv (n_v vs 7) + 0 ≤ v_iv (n_v vs 8) ∧ v_iv (n_v vs 8) ≤ v_iv (n_v vs 7) + 8 := d11
  obtain ⟨d12, hds⟩ := List.forall_mem_cons.mp hds
  have d12 : v_iv (n_v vs 3) + (-4294967296) ≤ v_iv (n_v vs 4) ∧ v_iv (n_v vs 4) ≤ v_iv (n_v vs 3) + (-1) := d12
  obtain ⟨d13, hds⟩ := List.forall_mem_cons.mp hds
  have d13 : v_iv (n_v vs 3) + (-4294967296) ≤ v_iv (n_v vs 2) ∧ v_iv (n_v vs 2) ≤ v_iv (n_v vs 3) + 15 := d13
  obtain ⟨d14, hds⟩ := List.forall_mem_cons.mp hds
  have d14 : v_iv (n_v vs 4) + (-4294967296) ≤ v_iv (n_v vs 2) ∧ v_iv (n_v vs 2) ≤ v_iv (n_v vs 4) + 0 := d14
  obtain ⟨d15, hds⟩ := List.forall_mem_cons.mp hds
  have d15 : v_iv (n_v vs 2) + (-4294967296) ≤ v_iv (n_v vs 3) ∧ v_iv (n_v vs 3) ≤ v_iv (n_v vs 2) + 9 := d15
  obtain ⟨d16, hds⟩ := List.forall_mem_cons.mp hds
  have d16 : v_iv (n_v vs 4) + (-4294967296) ≤ v_iv (n_v vs 3) ∧ v_iv (n_v vs 3) ≤ v_iv (n_v vs 4) + 9 := d16
  obtain ⟨d17, hds⟩ := List.forall_mem_cons.mp hds
  have d17 : v_iv (n_v vs 3) + (-4294967296) ≤ v_iv (n_v vs 4) ∧ v_iv (n_v vs 4) ≤ v_iv (n_v vs 3) + 15 := d17
  have hf : fc_ok [(6, [11, 4], [1]), (2, [9, 8, 2], []), (1, [8, 7, 4], []), (9, [7, 0], [7]), (7, [4, 3], [2]), (20, [0, 3, 2], [30, 2000, 1, 1, 7, 1, 0, 0, -1, 0, 0]), (20, [2, 4], [30, 0, 1, 0, 0, -1, 0, 0])] ta ws vs := hf
  obtain ⟨f0, hf⟩ := fc_un (show (6 : Nat) < 100 from by decide) hf
  have f0 : v_iv (n_v vs 11) = v_iv (n_v vs 4) + 1 := f0
  obtain ⟨f1, hf⟩ := fc_un (show (2 : Nat) < 100 from by decide) hf
  have f1 : v_iv (n_v vs 9) = v_iv (n_v vs 8) - v_iv (n_v vs 2) := f1
  obtain ⟨f2, hf⟩ := fc_un (show (1 : Nat) < 100 from by decide) hf
  have f2 : v_iv (n_v vs 8) = v_iv (n_v vs 7) + v_iv (n_v vs 4) := f2
  obtain ⟨f3, hf⟩ := fc_un (show (9 : Nat) < 100 from by decide) hf
  have f3 : n_v vs 7 = w_fd ws (v_ad (n_v vs 0)) 7 := f3
  obtain ⟨f4, hf⟩ := fc_un (show (7 : Nat) < 100 from by decide) hf
  have f4 : v_iv (n_v vs 4) < v_iv (n_v vs 3) := f4
  obtain ⟨f5, hf⟩ := fc_un (show (20 : Nat) < 100 from by decide) hf
  have f5 : 1 * w_fi ws (n_v vs 0) 7 + (1 * v_iv (n_v vs 3) + ((-1) * v_iv (n_v vs 2) + 0)) ≤ 2000 := f5
  obtain ⟨f6, hf⟩ := fc_un (show (20 : Nat) < 100 from by decide) hf
  have f6 : 1 * v_iv (n_v vs 2) + ((-1) * v_iv (n_v vs 4) + 0) ≤ 0 := f6
  have g3 : v_iv (n_v vs 7) = w_fi ws (n_v vs 0) 7 := congrArg v_iv f3
  have kz_0_7 : 0 ≤ w_fi ws (n_v vs 0) 7 ∧ w_fi ws (n_v vs 0) 7 ≤ 2000 := tv_rng (th_fd hD hth r0 (g := GG_11) rfl (k := 7) (t := (0, 0, 2000, [])) rfl rfl)
  have nf0 : fc_1 (20, [2, 11], [30, 0, 1, 0, 0, -1, 0, 0]) ws (vs) := by
    refine ⟨fun n hn => ?_, ?_⟩
    · have hn : n ∈ [2, 11] := hn
      rw [hl]
      simp only [List.mem_cons, List.not_mem_nil, or_false] at hn
      show n < 12; omega
    · show 1 * v_iv (n_v vs 2) + ((-1) * v_iv (n_v vs 11) + 0) ≤ 0
      omega
  refine ⟨(fun _ h => (by cases h)), [], trivial, ?_, (fun _ h => (by cases h))⟩
  rw [List.append_nil]
  exact List.forall_mem_cons.mpr ⟨⟨show (20 : Nat) < 100 from by decide, nf0⟩, (fun _ h => (by cases h))⟩
def n_Sy_isWordAt_at_s5006_an : List an_T := [(20, [(0, (2, 0, 0, [11])), (1, (2, 0, 0, [5006])), (2, (0, 0, 15, [])), (3, (0, 0, 9, [])), (4, (0, 0, 15, []))], [], (0, 0), [(0, 0, 99980), (1, 4, 15), (0, 0, 100000)], [(2, 3, -1000000000000, 15), (2, 4, -1000000000000, 0), (3, 2, -1000000000000, 9), (3, 4, -1000000000000, 9), (4, 3, -1000000000000, 15)], [((0, 3), (2, 0, 0, [109]))], [], 0, [], [(20, [0, 3, 2], [30, 2000, 1, 1, 7, 1, 0, 0, -1, 0, 0]), (20, [2, 4], [30, 0, 1, 0, 0, -1, 0, 0])])]
def t_Sy_isWordAt_at_s5006_ct : ct_L := [(91, 104, e_jStr_charAt_v149)]
set_option maxRecDepth 100000 in
theorem c_Sy_isWordAt_at_s5006 {l : Launch} {D : va_G} {kA : Nat → ClassId} : ct_ok l D kA GG y_Sy_isWordAt_at_s5006 z_Sy_isWordAt_at_s5006 e_Sy_isWordAt_at_s5006 := chk_all_ok (FT := [(21, 11, 3), (28, 11, 5), (34, 11, 7)]) (PT := []) (CT := t_Sy_isWordAt_at_s5006_ct) (KT := []) (NT := []) (AN := n_Sy_isWordAt_at_s5006_an) (OT := [o_Sy_isWordAt_at_s5006_0, o_Sy_isWordAt_at_s5006_1, o_Sy_isWordAt_at_s5006_2]) 3 200 (List.forall_mem_cons.mpr ⟨oo_Sy_isWordAt_at_s5006_0, List.forall_mem_cons.mpr ⟨oo_Sy_isWordAt_at_s5006_1, List.forall_mem_cons.mpr ⟨oo_Sy_isWordAt_at_s5006_2, List.forall_mem_nil _⟩⟩⟩) (by decide +kernel) ⟨List.forall_mem_cons.mpr ⟨gf_Sy_21, List.forall_mem_cons.mpr ⟨gf_Sy_28, List.forall_mem_cons.mpr ⟨gf_Sy_34, List.forall_mem_nil _⟩⟩⟩, List.forall_mem_nil _, List.forall_mem_cons.mpr ⟨cl_string (y := y_jStr_charAt) (i := 6) rfl rfl (by decide +kernel) rfl c_jStr_charAt_v149 wm_684 wm_11 wm_2231 wm_682 wm_683 ⟨by decide, by decide, by decide +kernel⟩ (by decide), List.forall_mem_nil _⟩, List.forall_mem_nil _, List.forall_mem_nil _, GG_pl⟩ (by decide +kernel)
def o_Sy_isWordAt_at_s5007_0 : or_T := (20, 9, [(0, (2, 0, 0, [11])), (2, (0, 0, 47, [])), (3, (0, 0, 43, [])), (5, (0, 0, 2000, [])), (6, (0, 0, 2000, [])), (7, (0, -47, 43, [])), (8, (0, -47, 43, []))], [(7, [7, 8], [0]), (2, [8, 3, 2], []), (2, [7, 5, 6], []), (9, [6, 0], [7]), (9, [5, 0], [5])], [], [], [(20, [0, 3, 2], [30, 2000, 1, 1, 7, 1, 0, 0, -1, 0, 0]), (20, [2, 2], [30, 0, 1, 0, 0, -1, 0, 0])], [], [(7, 8, 0, 0), (8, 3, -47, 0), (7, 5, -2000, 0)])
theorem oo_Sy_isWordAt_at_s5007_0 {kA : Nat → ClassId} : or_ok kA GG o_Sy_isWordAt_at_s5007_0 := by
  intro A ta ws vs hD hth hl hk hds hf
  have hl : vs.length = 9 := hl
  have hk : ∀ q ∈ ([(0, (2, 0, 0, [11])), (2, (0, 0, 47, [])), (3, (0, 0, 43, [])), (5, (0, 0, 2000, [])), (6, (0, 0, 2000, [])), (7, (0, -47, 43, [])), (8, (0, -47, 43, []))] : List (Nat × tv_T)), tv_ok ta q.2 (n_v vs q.1) := hk
  obtain ⟨t0, hk⟩ := List.forall_mem_cons.mp hk
  have t0 : tv_ok ta (2, 0, 0, [11]) (n_v vs 0) := t0
  have r0 : ta (v_ad (n_v vs 0)) = some 11 := tv_rg t0
  obtain ⟨t2, hk⟩ := List.forall_mem_cons.mp hk
  have t2 : tv_ok ta (0, 0, 47, []) (n_v vs 2) := t2
  have k2 : 0 ≤ v_iv (n_v vs 2) ∧ v_iv (n_v vs 2) ≤ 47 := tv_rng t2
  obtain ⟨t3, hk⟩ := List.forall_mem_cons.mp hk
  have t3 : tv_ok ta (0, 0, 43, []) (n_v vs 3) := t3
  have k3 : 0 ≤ v_iv (n_v vs 3) ∧ v_iv (n_v vs 3) ≤ 43 := tv_rng t3
  obtain ⟨t5, hk⟩ := List.forall_mem_cons.mp hk
  have t5 : tv_ok ta (0, 0, 2000, []) (n_v vs 5) := t5
  have k5 : 0 ≤ v_iv (n_v vs 5) ∧ v_iv (n_v vs 5) ≤ 2000 := tv_rng t5
  obtain ⟨t6, hk⟩ := List.forall_mem_cons.mp hk
  have t6 : tv_ok ta (0, 0, 2000, []) (n_v vs 6) := t6
  have k6 : 0 ≤ v_iv (n_v vs 6) ∧ v_iv (n_v vs 6) ≤ 2000 := tv_rng t6
  obtain ⟨t7, hk⟩ := List.forall_mem_cons.mp hk
  have t7 : tv_ok ta (0, -47, 43, []) (n_v vs 7) := t7
  have k7 : (-47) ≤ v_iv (n_v vs 7) ∧ v_iv (n_v vs 7) ≤ 43 := tv_rng t7
  obtain ⟨t8, hk⟩ := List.forall_mem_cons.mp hk
  have t8 : tv_ok ta (0, -47, 43, []) (n_v vs 8) := t8
  have k8 : (-47) ≤ v_iv (n_v vs 8) ∧ v_iv (n_v vs 8) ≤ 43 := tv_rng t8
  have hds : ∀ q ∈ ([(7, 8, 0, 0), (8, 3, -47, 0), (7, 5, -2000, 0)] : List of_T), n_iv vs q.2.1 + q.2.2.1 ≤ n_iv vs q.1 ∧ n_iv vs q.1 ≤ n_iv vs q.2.1 + q.2.2.2 := hds
  obtain ⟨d0, hds⟩ := List.forall_mem_cons.mp hds
  have d0 : v_iv (n_v vs 8) + 0 ≤ v_iv (n_v vs 7) ∧ v_iv (n_v vs 7) ≤ v_iv (n_v vs 8) + 0 := d0
  obtain ⟨d1, hds⟩ := List.forall_mem_cons.mp hds
  have d1 : v_iv (n_v vs 3) + (-47) ≤ v_iv (n_v vs 8) ∧ v_iv (n_v vs 8) ≤ v_iv (n_v vs 3) + 0 := d1
  obtain ⟨d2, hds⟩ := List.forall_mem_cons.mp hds
  have d2 : v_iv (n_v vs 5) + (-2000) ≤ v_iv (n_v vs 7) ∧ v_iv (n_v vs 7) ≤ v_iv (n_v vs 5) + 0 := d2
  have hf : fc_ok [(7, [7, 8], [0]), (2, [8, 3, 2], []), (2, [7, 5, 6], []), (9, [6, 0], [7]), (9, [5, 0], [5])] ta ws vs := hf
  obtain ⟨f0, hf⟩ := fc_un (show (7 : Nat) < 100 from by decide) hf
  have f0 : v_iv (n_v vs 7) = v_iv (n_v vs 8) := f0
  obtain ⟨f1, hf⟩ := fc_un (show (2 : Nat) < 100 from by decide) hf
  have f1 : v_iv (n_v vs 8) = v_iv (n_v vs 3) - v_iv (n_v vs 2) := f1
  obtain ⟨f2, hf⟩ := fc_un (show (2 : Nat) < 100 from by decide) hf
  have f2 : v_iv (n_v vs 7) = v_iv (n_v vs 5) - v_iv (n_v vs 6) := f2
  obtain ⟨f3, hf⟩ := fc_un (show (9 : Nat) < 100 from by decide) hf
  have f3 : n_v vs 6 = w_fd ws (v_ad (n_v vs 0)) 7 := f3
  obtain ⟨f4, hf⟩ := fc_un (show (9 : Nat) < 100 from by decide) hf
  have f4 : n_v vs 5 = w_fd ws (v_ad (n_v vs 0)) 5 := f4
  have g3 : v_iv (n_v vs 6) = w_fi ws (n_v vs 0) 7 := congrArg v_iv f3
  have g4 : v_iv (n_v vs 5) = w_fi ws (n_v vs 0) 5 := congrArg v_iv f4
  have kz_0_5 : 0 ≤ w_fi ws (n_v vs 0) 5 ∧ w_fi ws (n_v vs 0) 5 ≤ 2000 := tv_rng (th_fd hD hth r0 (g := GG_11) rfl (k := 5) (t := (0, 0, 2000, [])) rfl rfl)
  have kz_0_7 : 0 ≤ w_fi ws (n_v vs 0) 7 ∧ w_fi ws (n_v vs 0) 7 ≤ 2000 := tv_rng (th_fd hD hth r0 (g := GG_11) rfl (k := 7) (t := (0, 0, 2000, [])) rfl rfl)
  have nf0 : fc_1 (20, [0, 3, 2], [30, 2000, 1, 1, 7, 1, 0, 0, -1, 0, 0]) ws (vs) := by
    refine ⟨fun n hn => ?_, ?_⟩
    · have hn : n ∈ [0, 3, 2] := hn
      rw [hl]
      simp only [List.mem_cons, List.not_mem_nil, or_false] at hn
      show n < 9; omega
    · show 1 * w_fi ws (n_v vs 0) 7 + (1 * v_iv (n_v vs 3) + ((-1) * v_iv (n_v vs 2) + 0)) ≤ 2000
      omega
  have nf1 : fc_1 (20, [2, 2], [30, 0, 1, 0, 0, -1, 0, 0]) ws (vs) := by
    refine ⟨fun n hn => ?_, ?_⟩
    · have hn : n ∈ [2, 2] := hn
      rw [hl]
      simp only [List.mem_cons, List.not_mem_nil, or_false] at hn
      show n < 9; omega
    · show 1 * v_iv (n_v vs 2) + ((-1) * v_iv (n_v vs 2) + 0) ≤ 0
      omega
  refine ⟨(fun _ h => (by cases h)), [], trivial, ?_, (fun _ h => (by cases h))⟩
  rw [List.append_nil]
  exact List.forall_mem_cons.mpr ⟨⟨show (20 : Nat) < 100 from by decide, nf0⟩, List.forall_mem_cons.mpr ⟨⟨show (20 : Nat) < 100 from by decide, nf1⟩, (fun _ h => (by cases h))⟩⟩
def o_Sy_isWordAt_at_s5007_1 : or_T := (45, 10, [(0, (2, 0, 0, [11])), (2, (0, 0, 42, [])), (3, (0, 1, 43, [])), (4, (0, 0, 42, [])), (7, (0, 0, 2000, [])), (8, (0, 0, 2042, [])), (9, (0, -42, 2042, []))], [(2, [9, 8, 2], []), (1, [8, 7, 4], []), (9, [7, 0], [7]), (7, [4, 3], [2]), (20, [0, 3, 2], [30, 2000, 1, 1, 7, 1, 0, 0, -1, 0, 0]), (20, [2, 4], [30, 0, 1, 0, 0, -1, 0, 0])], [(9, (0, 0, 1999, []))], [], [], [], [(9, 8, -42, 0), (9, 4, -42, 2000), (9, 3, -4294967296, 1999), (9, 3, -4294967296, 2047), (9, 7, -42, 42), (8, 4, 0, 2000), (8, 3, -4294967296, 1999), (8, 3, -4294967296, 2047), (8, 7, 0, 42), (4, 3, -4294967296, -1), (2, 3, -4294967296, 47), (2, 4, -4294967296, 0), (3, 2, -4294967296, 43), (3, 4, -4294967296, 43), (4, 3, -4294967296, 47)])
theorem oo_Sy_isWordAt_at_s5007_1 {kA : Nat → ClassId} : or_ok kA GG o_Sy_isWordAt_at_s5007_1 := by
  intro A ta ws vs hD hth hl hk hds hf
  have hl : vs.length = 10 := hl
  have hk : ∀ q ∈ ([(0, (2, 0, 0, [11])), (2, (0, 0, 42, [])), (3, (0, 1, 43, [])), (4, (0, 0, 42, [])), (7, (0, 0, 2000, [])), (8, (0, 0, 2042, [])), (9, (0, -42, 2042, []))] : List (Nat × tv_T)), tv_ok ta q.2 (n_v vs q.1) := hk
  obtain ⟨t0, hk⟩ := List.forall_mem_cons.mp hk
  have t0 : tv_ok ta (2, 0, 0, [11]) (n_v vs 0) := t0
  have r0 : ta (v_ad (n_v vs 0)) = some 11 := tv_rg t0
  obtain ⟨t2, hk⟩ := List.forall_mem_cons.mp hk
  have t2 : tv_ok ta (0, 0, 42, []) (n_v vs 2) := t2
  have k2 : 0 ≤ v_iv (n_v vs 2) ∧ v_iv (n_v vs 2) ≤ 42 := tv_rng t2
  obtain ⟨t3, hk⟩ := List.forall_mem_cons.mp hk
  have t3 : tv_ok ta (0, 1, 43, []) (n_v vs 3) := t3
  have k3 : 1 ≤ v_iv (n_v vs 3) ∧ v_iv (n_v vs 3) ≤ 43 := tv_rng t3
  obtain ⟨t4, hk⟩ := List.forall_mem_cons.mp hk
  have t4 : tv_ok ta (0, 0, 42, []) (n_v vs 4) := t4
  have k4 : 0 ≤ v_iv (n_v vs 4) ∧ v_iv (n_v vs 4) ≤ 42 := tv_rng t4
  obtain ⟨t7, hk⟩ := List.forall_mem_cons.mp hk
  have t7 : tv_ok ta (0, 0, 2000, []) (n_v vs 7) := t7
  have k7 : 0 ≤ v_iv (n_v vs 7) ∧ v_iv (n_v vs 7) ≤ 2000 := tv_rng t7
  obtain ⟨t8, hk⟩ := List.forall_mem_cons.mp hk
  have t8 : tv_ok ta (0, 0, 2042, []) (n_v vs 8) := t8
  have k8 : 0 ≤ v_iv (n_v vs 8) ∧ v_iv (n_v vs 8) ≤ 2042 := tv_rng t8
  obtain ⟨t9, hk⟩ := List.forall_mem_cons.mp hk
  have t9 : tv_ok ta (0, -42, 2042, []) (n_v vs 9) := t9
  have k9 : (-42) ≤ v_iv (n_v vs 9) ∧ v_iv (n_v vs 9) ≤ 2042 := tv_rng t9
  have hds : ∀ q ∈ ([(9, 8, -42, 0), (9, 4, -42, 2000), (9, 3, -4294967296, 1999), (9, 3, -4294967296, 2047), (9, 7, -42, 42), (8, 4, 0, 2000), (8, 3, -4294967296, 1999), (8, 3, -4294967296, 2047), (8, 7, 0, 42), (4, 3, -4294967296, -1), (2, 3, -4294967296, 47), (2, 4, -4294967296, 0), (3, 2, -4294967296, 43), (3, 4, -4294967296, 43), (4, 3, -4294967296, 47)] : List of_T), n_iv vs q.2.1 + q.2.2.1 ≤ n_iv vs q.1 ∧ n_iv vs q.1 ≤ n_iv vs q.2.1 + q.2.2.2 := hds
  obtain ⟨d0, hds⟩ := List.forall_mem_cons.mp hds
  have d0 : v_iv (n_v vs 8) + (-42) ≤ v_iv (n_v vs 9) ∧ v_iv (n_v vs 9) ≤ v_iv (n_v vs 8) + 0 := d0
  obtain ⟨d1, hds⟩ := List.forall_mem_cons.mp hds
  have d1 : v_iv (n_v vs 4) + (-42) ≤ v_iv (n_v vs 9) ∧ v_iv (n_v vs 9) ≤ v_iv (n_v vs 4) + 2000 := d1
  obtain ⟨d2, hds⟩ := List.forall_mem_cons.mp hds
  have d2 : v_iv (n_v vs 3) + (-4294967296) ≤ v_iv (n_v vs 9) ∧ v_iv (n_v vs 9) ≤ v_iv (n_v vs 3) + 1999 := d2
  obtain ⟨d3, hds⟩ := List.forall_mem_cons.mp hds
  have d3 : v_iv (n_v vs 3) + (-4294967296) ≤ v_iv (n_v vs 9) ∧ v_iv (n_v vs 9) ≤ v_iv (n_v vs 3) + 2047 := d3
  obtain ⟨d4, hds⟩ := List.forall_mem_cons.mp hds
  have d4 : v_iv (n_v vs 7) + (-42) ≤ v_iv (n_v vs 9) ∧ v_iv (n_v vs 9) ≤ v_iv (n_v vs 7) + 42 := d4
  obtain ⟨d5, hds⟩ := List.forall_mem_cons.mp hds
  have d5 : v_iv (n_v vs 4) + 0 ≤ v_iv (n_v vs 8) ∧ v_iv (n_v vs 8) ≤ v_iv (n_v vs 4) + 2000 := d5
  obtain ⟨d6, hds⟩ := List.forall_mem_cons.mp hds
  have d6 : v_iv (n_v vs 3) + (-4294967296) ≤ v_iv (n_v vs 8) ∧ v_iv (n_v vs 8) ≤ v_iv (n_v vs 3) + 1999 := d6
  obtain ⟨d7, hds⟩ := List.forall_mem_cons.mp hds
  have d7 : v_iv (n_v vs 3) + (-4294967296) ≤ v_iv (n_v vs 8) ∧ v_iv (n_v vs 8) ≤ v_iv (n_v vs 3) + 2047 := d7
  obtain ⟨d8, hds⟩ := List.forall_mem_cons.mp hds
  have d8 : v_iv (n_v vs 7) + 0 ≤ v_iv (n_v vs 8) ∧ v_iv (n_v vs 8) ≤ v_iv (n_v vs 7) + 42 := d8
  obtain ⟨d9, hds⟩ := List.forall_mem_cons.mp hds
  have d9 : v_iv (n_v vs 3) + (-4294967296) ≤ v_iv (n_v vs 4) ∧ v_iv (n_v vs 4) ≤ v_iv (n_v vs 3) + (-1) := d9
  obtain ⟨d10, hds⟩ := List.forall_mem_cons.mp hds
  have d10 : v_iv (n_v vs 3) + (-4294967296) ≤ v_iv (n_v vs 2) ∧ v_iv (n_v vs 2) ≤ v_iv (n_v vs 3) + 47 := d10
  obtain ⟨d11, hds⟩ := List.forall_mem_cons.mp hds
  have d11 : v_iv (n_v vs 4) + (-4294967296) ≤ v_iv (n_v vs 2) ∧ v_iv (n_v vs 2) ≤ v_iv (n_v vs 4) + 0 := d11
  obtain ⟨d12, hds⟩ := List.forall_mem_cons.mp hds
  have d12 : v_iv (n_v vs 2) + (-4294967296) ≤ v_iv (n_v vs 3) ∧ v_iv (n_v vs 3) ≤ v_iv (n_v vs 2) + 43 := d12
  obtain ⟨d13, hds⟩ := List.forall_mem_cons.mp hds
  have d13 : v_iv (n_v vs 4) + (-4294967296) ≤ v_iv (n_v vs 3) ∧ v_iv (n_v vs 3) ≤ v_iv (n_v vs 4) + 43 := d13
  obtain ⟨d14, hds⟩ := List.forall_mem_cons.mp hds
  have d14 : v_iv (n_v vs 3) + (-4294967296) ≤ v_iv (n_v vs 4) ∧ v_iv (n_v vs 4) ≤ v_iv (n_v vs 3) + 47 := d14
  have hf : fc_ok [(2, [9, 8, 2], []), (1, [8, 7, 4], []), (9, [7, 0], [7]), (7, [4, 3], [2]), (20, [0, 3, 2], [30, 2000, 1, 1, 7, 1, 0, 0, -1, 0, 0]), (20, [2, 4], [30, 0, 1, 0, 0, -1, 0, 0])] ta ws vs := hf
  obtain ⟨f0, hf⟩ := fc_un (show (2 : Nat) < 100 from by decide) hf
  have f0 : v_iv (n_v vs 9) = v_iv (n_v vs 8) - v_iv (n_v vs 2) := f0
  obtain ⟨f1, hf⟩ := fc_un (show (1 : Nat) < 100 from by decide) hf
  have f1 : v_iv (n_v vs 8) = v_iv (n_v vs 7) + v_iv (n_v vs 4) := f1
  obtain ⟨f2, hf⟩ := fc_un (show (9 : Nat) < 100 from by decide) hf
  have f2 : n_v vs 7 = w_fd ws (v_ad (n_v vs 0)) 7 := f2
  obtain ⟨f3, hf⟩ := fc_un (show (7 : Nat) < 100 from by decide) hf
  have f3 : v_iv (n_v vs 4) < v_iv (n_v vs 3) := f3
  obtain ⟨f4, hf⟩ := fc_un (show (20 : Nat) < 100 from by decide) hf
  have f4 : 1 * w_fi ws (n_v vs 0) 7 + (1 * v_iv (n_v vs 3) + ((-1) * v_iv (n_v vs 2) + 0)) ≤ 2000 := f4
  obtain ⟨f5, hf⟩ := fc_un (show (20 : Nat) < 100 from by decide) hf
  have f5 : 1 * v_iv (n_v vs 2) + ((-1) * v_iv (n_v vs 4) + 0) ≤ 0 := f5
  have g2 : v_iv (n_v vs 7) = w_fi ws (n_v vs 0) 7 := congrArg v_iv f2
  have kz_0_7 : 0 ≤ w_fi ws (n_v vs 0) 7 ∧ w_fi ws (n_v vs 0) 7 ≤ 2000 := tv_rng (th_fd hD hth r0 (g := GG_11) rfl (k := 7) (t := (0, 0, 2000, [])) rfl rfl)
  have rf9 : tv_ok ta (0, 0, 1999, []) (n_v vs 9) := tv_in t9 (by omega) (by omega)
  refine ⟨List.forall_mem_cons.mpr ⟨rf9, (fun _ h => (by cases h))⟩, [], trivial, ?_, (fun _ h => (by cases h))⟩
  rw [List.append_nil]
  exact (fun _ h => (by cases h))
def o_Sy_isWordAt_at_s5007_2 : or_T := (20, 12, [(0, (2, 0, 0, [11])), (2, (0, 0, 42, [])), (3, (0, 1, 43, [])), (4, (0, 0, 42, [])), (7, (0, 0, 2000, [])), (8, (0, 0, 2042, [])), (9, (0, 0, 1999, [])), (11, (0, 1, 43, []))], [(6, [11, 4], [1]), (2, [9, 8, 2], []), (1, [8, 7, 4], []), (9, [7, 0], [7]), (7, [4, 3], [2]), (20, [0, 3, 2], [30, 2000, 1, 1, 7, 1, 0, 0, -1, 0, 0]), (20, [2, 4], [30, 0, 1, 0, 0, -1, 0, 0])], [], [], [(20, [2, 11], [30, 0, 1, 0, 0, -1, 0, 0])], [], [(11, 4, 1, 1), (11, 3, -4294967296, 0), (11, 3, -4294967296, 48), (9, 8, -42, 0), (9, 4, -42, 2000), (9, 3, -4294967296, 1999), (9, 3, -4294967296, 2047), (9, 7, -42, 42), (8, 4, 0, 2000), (8, 3, -4294967296, 1999), (8, 3, -4294967296, 2047), (8, 7, 0, 42), (4, 3, -4294967296, -1), (2, 3, -4294967296, 47), (2, 4, -4294967296, 0), (3, 2, -4294967296, 43), (3, 4, -4294967296, 43), (4, 3, -4294967296, 47)])
theorem oo_Sy_isWordAt_at_s5007_2 {kA : Nat → ClassId} : or_ok kA GG o_Sy_isWordAt_at_s5007_2 := by
  intro A ta ws vs hD hth hl hk hds hf
  have hl : vs.length = 12 := hl
  have hk : ∀ q ∈ ([(0, (2, 0, 0, [11])), (2, (0, 0, 42, [])), (3, (0, 1, 43, [])), (4, (0, 0, 42, [])), (7, (0, 0, 2000, [])), (8, (0, 0, 2042, [])), (9, (0, 0, 1999, [])), (11, (0, 1, 43, []))] : List (Nat × tv_T)), tv_ok ta q.2 (n_v vs q.1) := hk
  obtain ⟨t0, hk⟩ := List.forall_mem_cons.mp hk
  have t0 : tv_ok ta (2, 0, 0, [11]) (n_v vs 0) := t0
  have r0 : ta (v_ad (n_v vs 0)) = some 11 := tv_rg t0
  obtain ⟨t2, hk⟩ := List.forall_mem_cons.mp hk
  have t2 : tv_ok ta (0, 0, 42, []) (n_v vs 2) := t2
  have k2 : 0 ≤ v_iv (n_v vs 2) ∧ v_iv (n_v vs 2) ≤ 42 := tv_rng t2
  obtain ⟨t3, hk⟩ := List.forall_mem_cons.mp hk
  have t3 : tv_ok ta (0, 1, 43, []) (n_v vs 3) := t3
  have k3 : 1 ≤ v_iv (n_v vs 3) ∧ v_iv (n_v vs 3) ≤ 43 := tv_rng t3
  obtain ⟨t4, hk⟩ := List.forall_mem_cons.mp hk
  have t4 : tv_ok ta (0, 0, 42, []) (n_v vs 4) := t4
  have k4 : 0 ≤ v_iv (n_v vs 4) ∧ v_iv (n_v vs 4) ≤ 42 := tv_rng t4
  obtain ⟨t7, hk⟩ := List.forall_mem_cons.mp hk
  have t7 : tv_ok ta (0, 0, 2000, []) (n_v vs 7) := t7
  have k7 : 0 ≤ v_iv (n_v vs 7) ∧ v_iv (n_v vs 7) ≤ 2000 := tv_rng t7
  obtain ⟨t8, hk⟩ := List.forall_mem_cons.mp hk
  have t8 : tv_ok ta (0, 0, 2042, []) (n_v vs 8) := t8
  have k8 : 0 ≤ v_iv (n_v vs 8) ∧ v_iv (n_v vs 8) ≤ 2042 := tv_rng t8
  obtain ⟨t9, hk⟩ := List.forall_mem_cons.mp hk
  have t9 : tv_ok ta (0, 0, 1999, []) (n_v vs 9) := t9
  have k9 : 0 ≤ v_iv (n_v vs 9) ∧ v_iv (n_v vs 9) ≤ 1999 := tv_rng t9
  obtain ⟨t11, hk⟩ := List.forall_mem_cons.mp hk
  have t11 : tv_ok ta (0, 1, 43, []) (n_v vs 11) := t11
  have k11 : 1 ≤ v_iv (n_v vs 11) ∧ v_iv (n_v vs 11) ≤ 43 := tv_rng t11
  have hds : ∀ q ∈ ([(11, 4, 1, 1), (11, 3, -4294967296, 0), (11, 3, -4294967296, 48), (9, 8, -42, 0), (9, 4, -42, 2000), (9, 3, -4294967296, 1999), (9, 3, -4294967296, 2047), (9, 7, -42, 42), (8, 4, 0, 2000), (8, 3, -4294967296, 1999), (8, 3, -4294967296, 2047), (8, 7, 0, 42), (4, 3, -4294967296, -1), (2, 3, -4294967296, 47), (2, 4, -4294967296, 0), (3, 2, -4294967296, 43), (3, 4, -4294967296, 43), (4, 3, -4294967296, 47)] : List of_T), n_iv vs q.2.1 + q.2.2.1 ≤ n_iv vs q.1 ∧ n_iv vs q.1 ≤ n_iv vs q.2.1 + q.2.2.2 := hds
  obtain ⟨d0, hds⟩ := List.forall_mem_cons.mp hds
  have d0 : v_iv (n_v vs 4) + 1 ≤ v_iv (n_v vs 11) ∧ v_iv (n_v vs 11) ≤ v_iv (n_v vs 4) + 1 := d0
  obtain ⟨d1, hds⟩ := List.forall_mem_cons.mp hds
  have d1 : v_iv (n_v vs 3) + (-4294967296) ≤ v_iv (n_v vs 11) ∧ v_iv (n_v vs 11) ≤ v_iv (n_v vs 3) + 0 := d1
  obtain ⟨d2, hds⟩ := List.forall_mem_cons.mp hds
  have d2 : v_iv (n_v vs 3) + (-4294967296) ≤ v_iv (n_v vs 11) ∧ v_iv (n_v vs 11) ≤ v_iv (n_v vs 3) + 48 := d2
  obtain ⟨d3, hds⟩ := List.forall_mem_cons.mp hds
  have d3 : v_iv (n_v vs 8) + (-42) ≤ v_iv (n_v vs 9) ∧ v_iv (n_v vs 9) ≤ v_iv (n_v vs 8) + 0 := d3
  obtain ⟨d4, hds⟩ := List.forall_mem_cons.mp hds
  have d4 : v_iv (n_v vs 4) + (-42) ≤ v_iv (n_v vs 9) ∧ v_iv (n_v vs 9) ≤ v_iv (n_v vs 4) + 2000 := d4
  obtain ⟨d5, hds⟩ := List.forall_mem_cons.mp hds
  have d5 : v_iv (n_v vs 3) + (-4294967296) ≤ v_iv (n_v vs 9) ∧ v_iv (n_v vs 9) ≤ v_iv (n_v vs 3) + 1999 := d5
  obtain ⟨d6, hds⟩ := List.forall_mem_cons.mp hds
  have d6 : v_iv (n_v vs 3) + (-4294967296) ≤ v_iv (n_v vs 9) ∧ v_iv (n_v vs 9) ≤ v_iv (n_v vs 3) + 2047 := d6
  obtain ⟨d7, hds⟩ := List.forall_mem_cons.mp hds
  have d7 : v_iv (n_v vs 7) + (-42) ≤ v_iv (n_v vs 9) ∧ v_iv (n_v vs 9) ≤ v_iv (n_v vs 7) + 42 := d7
  obtain ⟨d8, hds⟩ := List.forall_mem_cons.mp hds
  have d8 : v_iv (n_v vs 4) + 0 ≤ v_iv (n_v vs 8) ∧ v_iv (n_v vs 8) ≤ v_iv (n_v vs 4) + 2000 := d8
  obtain ⟨d9, hds⟩ := List.forall_mem_cons.mp hds
  have d9 : v_iv (n_v vs 3) + (-4294967296) ≤ v_iv (n_v vs 8) ∧ v_iv (n_v vs 8) ≤ v_iv (n_v vs 3) + 1999 := d9
  obtain ⟨d10, hds⟩ := List.forall_mem_cons.mp hds
  have d10 : v_iv (n_v vs 3) + (-4294967296) ≤ v_iv (n_v vs 8) ∧ v_iv (n_v vs 8) ≤ v_iv (n_v vs 3) + 2047 := d10
  obtain ⟨d11, hds⟩ := List.forall_mem_cons.mp hds
  have d11 : v_iv (n_v vs 7) + 0 ≤ v_iv (n_v vs 8) ∧ v_iv (n_v vs 8) ≤ v_iv (n_v vs 7) + 42 := d11
  obtain ⟨d12, hds⟩ := List.forall_mem_cons.mp hds
  have d12 : v_iv (n_v vs 3) + (-4294967296) ≤ v_iv (n_v vs 4) ∧ v_iv (n_v vs 4) ≤ v_iv (n_v vs 3) + (-1) := d12
  obtain ⟨d13, hds⟩ := List.forall_mem_cons.mp hds
  have d13 : v_iv (n_v vs 3) + (-4294967296) ≤ v_iv (n_v vs 2) ∧ v_iv (n_v vs 2) ≤ v_iv (n_v vs 3) + 47 := d13
  obtain ⟨d14, hds⟩ := List.forall_mem_cons.mp hds
  have d14 : v_iv (n_v vs 4) + (-4294967296) ≤ v_iv (n_v vs 2) ∧ v_iv (n_v vs 2) ≤ v_iv (n_v vs 4) + 0 := d14
  obtain ⟨d15, hds⟩ := List.forall_mem_cons.mp hds
  have d15 : v_iv (n_v vs 2) + (-4294967296) ≤ v_iv (n_v vs 3) ∧ v_iv (n_v vs 3) ≤ v_iv (n_v vs 2) + 43 := d15
  obtain ⟨d16, hds⟩ := List.forall_mem_cons.mp hds
  have d16 : v_iv (n_v vs 4) + (-4294967296) ≤ v_iv (n_v vs 3) ∧ v_iv (n_v vs 3) ≤ v_iv (n_v vs 4) + 43 := d16
  obtain ⟨d17, hds⟩ := List.forall_mem_cons.mp hds
  have d17 : v_iv (n_v vs 3) + (-4294967296) ≤ v_iv (n_v vs 4) ∧ v_iv (n_v vs 4) ≤ v_iv (n_v vs 3) + 47 := d17
  have hf : fc_ok [(6, [11, 4], [1]), (2, [9, 8, 2], []), (1, [8, 7, 4], []), (9, [7, 0], [7]), (7, [4, 3], [2]), (20, [0, 3, 2], [30, 2000, 1, 1, 7, 1, 0, 0, -1, 0, 0]), (20, [2, 4], [30, 0, 1, 0, 0, -1, 0, 0])] ta ws vs := hf
  obtain ⟨f0, hf⟩ := fc_un (show (6 : Nat) < 100 from by decide) hf
  have f0 : v_iv (n_v vs 11) = v_iv (n_v vs 4) + 1 := f0
  obtain ⟨f1, hf⟩ := fc_un (show (2 : Nat) < 100 from by decide) hf
  have f1 : v_iv (n_v vs 9) = v_iv (n_v vs 8) - v_iv (n_v vs 2) := f1
  obtain ⟨f2, hf⟩ := fc_un (show (1 : Nat) < 100 from by decide) hf
  have f2 : v_iv (n_v vs 8) = v_iv (n_v vs 7) + v_iv (n_v vs 4) := f2
  obtain ⟨f3, hf⟩ := fc_un (show (9 : Nat) < 100 from by decide) hf
  have f3 : n_v vs 7 = w_fd ws (v_ad (n_v vs 0)) 7 := f3
  obtain ⟨f4, hf⟩ := fc_un (show (7 : Nat) < 100 from by decide) hf
  have f4 : v_iv (n_v vs 4) < v_iv (n_v vs 3) := f4
  obtain ⟨f5, hf⟩ := fc_un (show (20 : Nat) < 100 from by decide) hf
  have f5 : 1 * w_fi ws (n_v vs 0) 7 + (1 * v_iv (n_v vs 3) + ((-1) * v_iv (n_v vs 2) + 0)) ≤ 2000 := f5
  obtain ⟨f6, hf⟩ := fc_un (show (20 : Nat) < 100 from by decide) hf
  have f6 : 1 * v_iv (n_v vs 2) + ((-1) * v_iv (n_v vs 4) + 0) ≤ 0 := f6
  have g3 : v_iv (n_v vs 7) = w_fi ws (n_v vs 0) 7 := congrArg v_iv f3
  have kz_0_7 : 0 ≤ w_fi ws (n_v vs 0) 7 ∧ w_fi ws (n_v vs 0) 7 ≤ 2000 := tv_rng (th_fd hD hth r0 (g := GG_11) rfl (k := 7) (t := (0, 0, 2000, [])) rfl rfl)
  have nf0 : fc_1 (20, [2, 11], [30, 0, 1, 0, 0, -1, 0, 0]) ws (vs) := by
    refine ⟨fun n hn => ?_, ?_⟩
    · have hn : n ∈ [2, 11] := hn
      rw [hl]
      simp only [List.mem_cons, List.not_mem_nil, or_false] at hn
      show n < 12; omega
    · show 1 * v_iv (n_v vs 2) + ((-1) * v_iv (n_v vs 11) + 0) ≤ 0
      omega
  refine ⟨(fun _ h => (by cases h)), [], trivial, ?_, (fun _ h => (by cases h))⟩
  rw [List.append_nil]
  exact List.forall_mem_cons.mpr ⟨⟨show (20 : Nat) < 100 from by decide, nf0⟩, (fun _ h => (by cases h))⟩
def n_Sy_isWordAt_at_s5007_an : List an_T := [(20, [(0, (2, 0, 0, [11])), (1, (2, 0, 0, [5007])), (2, (0, 0, 47, [])), (3, (0, 0, 43, [])), (4, (0, 0, 47, []))], [], (0, 0), [(0, 0, 99980), (1, 4, 47), (0, 0, 100000)], [(2, 3, -1000000000000, 47), (2, 4, -1000000000000, 0), (3, 2, -1000000000000, 43), (3, 4, -1000000000000, 43), (4, 3, -1000000000000, 47)], [((0, 3), (2, 0, 0, [109]))], [], 0, [], [(20, [0, 3, 2], [30, 2000, 1, 1, 7, 1, 0, 0, -1, 0, 0]), (20, [2, 4], [30, 0, 1, 0, 0, -1, 0, 0])])]
def t_Sy_isWordAt_at_s5007_ct : ct_L := [(91, 104, e_jStr_charAt_v153)]
set_option maxRecDepth 100000 in
theorem c_Sy_isWordAt_at_s5007 {l : Launch} {D : va_G} {kA : Nat → ClassId} : ct_ok l D kA GG y_Sy_isWordAt_at_s5007 z_Sy_isWordAt_at_s5007 e_Sy_isWordAt_at_s5007 := chk_all_ok (FT := [(21, 11, 3), (28, 11, 5), (34, 11, 7)]) (PT := []) (CT := t_Sy_isWordAt_at_s5007_ct) (KT := []) (NT := []) (AN := n_Sy_isWordAt_at_s5007_an) (OT := [o_Sy_isWordAt_at_s5007_0, o_Sy_isWordAt_at_s5007_1, o_Sy_isWordAt_at_s5007_2]) 3 200 (List.forall_mem_cons.mpr ⟨oo_Sy_isWordAt_at_s5007_0, List.forall_mem_cons.mpr ⟨oo_Sy_isWordAt_at_s5007_1, List.forall_mem_cons.mpr ⟨oo_Sy_isWordAt_at_s5007_2, List.forall_mem_nil _⟩⟩⟩) (by decide +kernel) ⟨List.forall_mem_cons.mpr ⟨gf_Sy_21, List.forall_mem_cons.mpr ⟨gf_Sy_28, List.forall_mem_cons.mpr ⟨gf_Sy_34, List.forall_mem_nil _⟩⟩⟩, List.forall_mem_nil _, List.forall_mem_cons.mpr ⟨cl_string (y := y_jStr_charAt) (i := 7) rfl rfl (by decide +kernel) rfl c_jStr_charAt_v153 wm_684 wm_11 wm_2231 wm_682 wm_683 ⟨by decide, by decide, by decide +kernel⟩ (by decide), List.forall_mem_nil _⟩, List.forall_mem_nil _, List.forall_mem_nil _, GG_pl⟩ (by decide +kernel)
def o_Sy_isWordAt_at_s5008_0 : or_T := (20, 9, [(0, (2, 0, 0, [11])), (2, (0, 0, 3, [])), (3, (0, 0, 2, [])), (5, (0, 0, 2000, [])), (6, (0, 0, 2000, [])), (7, (0, -3, 2, [])), (8, (0, -3, 2, []))], [(7, [7, 8], [0]), (2, [8, 3, 2], []), (2, [7, 5, 6], []), (9, [6, 0], [7]), (9, [5, 0], [5])], [], [], [(20, [0, 3, 2], [30, 2000, 1, 1, 7, 1, 0, 0, -1, 0, 0]), (20, [2, 2], [30, 0, 1, 0, 0, -1, 0, 0])], [], [(7, 8, 0, 0), (8, 3, -3, 0), (7, 5, -2000, 0)])
theorem oo_Sy_isWordAt_at_s5008_0 {kA : Nat → ClassId} : or_ok kA GG o_Sy_isWordAt_at_s5008_0 := by
  intro A ta ws vs hD hth hl hk hds hf
  have hl : vs.length = 9 := hl
  have hk : ∀ q ∈ ([(0, (2, 0, 0, [11])), (2, (0, 0, 3, [])), (3, (0, 0, 2, [])), (5, (0, 0, 2000, [])), (6, (0, 0, 2000, [])), (7, (0, -3, 2, [])), (8, (0, -3, 2, []))] : List (Nat × tv_T)), tv_ok ta q.2 (n_v vs q.1) := hk
  obtain ⟨t0, hk⟩ := List.forall_mem_cons.mp hk
  have t0 : tv_ok ta (2, 0, 0, [11]) (n_v vs 0) := t0
  have r0 : ta (v_ad (n_v vs 0)) = some 11 := tv_rg t0
  obtain ⟨t2, hk⟩ := List.forall_mem_cons.mp hk
  have t2 : tv_ok ta (0, 0, 3, []) (n_v vs 2) := t2
  have k2 : 0 ≤ v_iv (n_v vs 2) ∧ v_iv (n_v vs 2) ≤ 3 := tv_rng t2
  obtain ⟨t3, hk⟩ := List.forall_mem_cons.mp hk
  have t3 : tv_ok ta (0, 0, 2, []) (n_v vs 3) := t3
  have k3 : 0 ≤ v_iv (n_v vs 3) ∧ v_iv (n_v vs 3) ≤ 2 := tv_rng t3
  obtain ⟨t5, hk⟩ := List.forall_mem_cons.mp hk
  have t5 : tv_ok ta (0, 0, 2000, []) (n_v vs 5) := t5
  have k5 : 0 ≤ v_iv (n_v vs 5) ∧ v_iv (n_v vs 5) ≤ 2000 := tv_rng t5
  obtain ⟨t6, hk⟩ := List.forall_mem_cons.mp hk
  have t6 : tv_ok ta (0, 0, 2000, []) (n_v vs 6) := t6
  have k6 : 0 ≤ v_iv (n_v vs 6) ∧ v_iv (n_v vs 6) ≤ 2000 := tv_rng t6
  obtain ⟨t7, hk⟩ := List.forall_mem_cons.mp hk
  have t7 : tv_ok ta (0, -3, 2, []) (n_v vs 7) := t7
  have k7 : (-3) ≤ v_iv (n_v vs 7) ∧ v_iv (n_v vs 7) ≤ 2 := tv_rng t7
  obtain ⟨t8, hk⟩ := List.forall_mem_cons.mp hk
  have t8 : tv_ok ta (0, -3, 2, []) (n_v vs 8) := t8
  have k8 : (-3) ≤ v_iv (n_v vs 8) ∧ v_iv (n_v vs 8) ≤ 2 := tv_rng t8
  have hds : ∀ q ∈ ([(7, 8, 0, 0), (8, 3, -3, 0), (7, 5, -2000, 0)] : List of_T), n_iv vs q.2.1 + q.2.2.1 ≤ n_iv vs q.1 ∧ n_iv vs q.1 ≤ n_iv vs q.2.1 + q.2.2.2 := hds
  obtain ⟨d0, hds⟩ := List.forall_mem_cons.mp hds
  have d0 : v_iv (n_v vs 8) + 0 ≤ v_iv (n_v vs 7) ∧ v_iv (n_v vs 7) ≤ v_iv (n_v vs 8) + 0 := d0
  obtain ⟨d1, hds⟩ := List.forall_mem_cons.mp hds
  have d1 : v_iv (n_v vs 3) + (-3) ≤ v_iv (n_v vs 8) ∧ v_iv (n_v vs 8) ≤ v_iv (n_v vs 3) + 0 := d1
  obtain ⟨d2, hds⟩ := List.forall_mem_cons.mp hds
  have d2 : v_iv (n_v vs 5) + (-2000) ≤ v_iv (n_v vs 7) ∧ v_iv (n_v vs 7) ≤ v_iv (n_v vs 5) + 0 := d2
  have hf : fc_ok [(7, [7, 8], [0]), (2, [8, 3, 2], []), (2, [7, 5, 6], []), (9, [6, 0], [7]), (9, [5, 0], [5])] ta ws vs := hf
  obtain ⟨f0, hf⟩ := fc_un (show (7 : Nat) < 100 from by decide) hf
  have f0 : v_iv (n_v vs 7) = v_iv (n_v vs 8) := f0
  obtain ⟨f1, hf⟩ := fc_un (show (2 : Nat) < 100 from by decide) hf
  have f1 : v_iv (n_v vs 8) = v_iv (n_v vs 3) - v_iv (n_v vs 2) := f1
  obtain ⟨f2, hf⟩ := fc_un (show (2 : Nat) < 100 from by decide) hf
  have f2 : v_iv (n_v vs 7) = v_iv (n_v vs 5) - v_iv (n_v vs 6) := f2
  obtain ⟨f3, hf⟩ := fc_un (show (9 : Nat) < 100 from by decide) hf
  have f3 : n_v vs 6 = w_fd ws (v_ad (n_v vs 0)) 7 := f3
  obtain ⟨f4, hf⟩ := fc_un (show (9 : Nat) < 100 from by decide) hf
  have f4 : n_v vs 5 = w_fd ws (v_ad (n_v vs 0)) 5 := f4
  have g3 : v_iv (n_v vs 6) = w_fi ws (n_v vs 0) 7 := congrArg v_iv f3
  have g4 : v_iv (n_v vs 5) = w_fi ws (n_v vs 0) 5 := congrArg v_iv f4
  have kz_0_5 : 0 ≤ w_fi ws (n_v vs 0) 5 ∧ w_fi ws (n_v vs 0) 5 ≤ 2000 := tv_rng (th_fd hD hth r0 (g := GG_11) rfl (k := 5) (t := (0, 0, 2000, [])) rfl rfl)
  have kz_0_7 : 0 ≤ w_fi ws (n_v vs 0) 7 ∧ w_fi ws (n_v vs 0) 7 ≤ 2000 := tv_rng (th_fd hD hth r0 (g := GG_11) rfl (k := 7) (t := (0, 0, 2000, [])) rfl rfl)
  have nf0 : fc_1 (20, [0, 3, 2], [30, 2000, 1, 1, 7, 1, 0, 0, -1, 0, 0]) ws (vs) := by
    refine ⟨fun n hn => ?_, ?_⟩
    · have hn : n ∈ [0, 3, 2] := hn
      rw [hl]
      simp only [List.mem_cons, List.not_mem_nil, or_false] at hn
      show n < 9; omega
    · show 1 * w_fi ws (n_v vs 0) 7 + (1 * v_iv (n_v vs 3) + ((-1) * v_iv (n_v vs 2) + 0)) ≤ 2000
      omega
  have nf1 : fc_1 (20, [2, 2], [30, 0, 1, 0, 0, -1, 0, 0]) ws (vs) := by
    refine ⟨fun n hn => ?_, ?_⟩
    · have hn : n ∈ [2, 2] := hn
      rw [hl]
      simp only [List.mem_cons, List.not_mem_nil, or_false] at hn
      show n < 9; omega
    · show 1 * v_iv (n_v vs 2) + ((-1) * v_iv (n_v vs 2) + 0) ≤ 0
      omega
  refine ⟨(fun _ h => (by cases h)), [], trivial, ?_, (fun _ h => (by cases h))⟩
  rw [List.append_nil]
  exact List.forall_mem_cons.mpr ⟨⟨show (20 : Nat) < 100 from by decide, nf0⟩, List.forall_mem_cons.mpr ⟨⟨show (20 : Nat) < 100 from by decide, nf1⟩, (fun _ h => (by cases h))⟩⟩
def o_Sy_isWordAt_at_s5008_1 : or_T := (45, 10, [(0, (2, 0, 0, [11])), (2, (0, 0, 1, [])), (3, (0, 1, 2, [])), (4, (0, 0, 1, [])), (7, (0, 0, 2000, [])), (8, (0, 0, 2001, [])), (9, (0, -1, 2001, []))], [(2, [9, 8, 2], []), (1, [8, 7, 4], []), (9, [7, 0], [7]), (7, [4, 3], [2]), (20, [0, 3, 2], [30, 2000, 1, 1, 7, 1, 0, 0, -1, 0, 0]), (20, [2, 4], [30, 0, 1, 0, 0, -1, 0, 0])], [(9, (0, 0, 1999, []))], [], [], [], [(9, 8, -1, 0), (9, 4, -1, 2000), (9, 3, -4294967296, 1999), (9, 2, -4294967296, 2002), (9, 3, -4294967296, 2003), (9, 7, -1, 1), (8, 4, 0, 2000), (8, 3, -4294967296, 1999), (8, 2, -4294967296, 2002), (8, 3, -4294967296, 2003), (8, 7, 0, 1), (4, 3, -4294967296, -1), (2, 3, -4294967296, 3), (2, 4, -4294967296, 0), (3, 2, -4294967296, 2), (3, 4, -4294967296, 2), (4, 2, -4294967296, 2), (4, 3, -4294967296, 3)])
theorem oo_Sy_isWordAt_at_s5008_1 {kA : Nat → ClassId} : or_ok kA GG o_Sy_isWordAt_at_s5008_1 := by
  intro A ta ws vs hD hth hl hk hds hf
  have hl : vs.length = 10 := hl
  have hk : ∀ q ∈ ([(0, (2, 0, 0, [11])), (2, (0, 0, 1, [])), (3, (0, 1, 2, [])), (4, (0, 0, 1, [])), (7, (0, 0, 2000, [])), (8, (0, 0, 2001, [])), (9, (0, -1, 2001, []))] : List (Nat × tv_T)), tv_ok ta q.2 (n_v vs q.1) := hk
  obtain ⟨t0, hk⟩ := List.forall_mem_cons.mp hk
  have t0 : tv_ok ta (2, 0, 0, [11]) (n_v vs 0) := t0
  have r0 : ta (v_ad (n_v vs 0)) = some 11 := tv_rg t0
  obtain ⟨t2, hk⟩ := List.forall_mem_cons.mp hk
  have t2 : tv_ok ta (0, 0, 1, []) (n_v vs 2) := t2
  have k2 : 0 ≤ v_iv (n_v vs 2) ∧ v_iv (n_v vs 2) ≤ 1 := tv_rng t2
  obtain ⟨t3, hk⟩ := List.forall_mem_cons.mp hk
  have t3 : tv_ok ta (0, 1, 2, []) (n_v vs 3) := t3
  have k3 : 1 ≤ v_iv (n_v vs 3) ∧ v_iv (n_v vs 3) ≤ 2 := tv_rng t3
  obtain ⟨t4, hk⟩ := List.forall_mem_cons.mp hk
  have t4 : tv_ok ta (0, 0, 1, []) (n_v vs 4) := t4
  have k4 : 0 ≤ v_iv (n_v vs 4) ∧ v_iv (n_v vs 4) ≤ 1 := tv_rng t4
  obtain ⟨t7, hk⟩ := List.forall_mem_cons.mp hk
  have t7 : tv_ok ta (0, 0, 2000, []) (n_v vs 7) := t7
  have k7 : 0 ≤ v_iv (n_v vs 7) ∧ v_iv (n_v vs 7) ≤ 2000 := tv_rng t7
  obtain ⟨t8, hk⟩ := List.forall_mem_cons.mp hk
  have t8 : tv_ok ta (0, 0, 2001, []) (n_v vs 8) := t8
  have k8 : 0 ≤ v_iv (n_v vs 8) ∧ v_iv (n_v vs 8) ≤ 2001 := tv_rng t8
  obtain ⟨t9, hk⟩ := List.forall_mem_cons.mp hk
  have t9 : tv_ok ta (0, -1, 2001, []) (n_v vs 9) := t9
  have k9 : (-1) ≤ v_iv (n_v vs 9) ∧ v_iv (n_v vs 9) ≤ 2001 := tv_rng t9
  have hds : ∀ q ∈ ([(9, 8, -1, 0), (9, 4, -1, 2000), (9, 3, -4294967296, 1999), (9, 2, -4294967296, 2002), (9, 3, -4294967296, 2003), (9, 7, -1, 1), (8, 4, 0, 2000), (8, 3, -4294967296, 1999), (8, 2, -4294967296, 2002), (8, 3, -4294967296, 2003), (8, 7, 0, 1), (4, 3, -4294967296, -1), (2, 3, -4294967296, 3), (2, 4, -4294967296, 0), (3, 2, -4294967296, 2), (3, 4, -4294967296, 2), (4, 2, -4294967296, 2), (4, 3, -4294967296, 3)] : List of_T), n_iv vs q.2.1 + q.2.2.1 ≤ n_iv vs q.1 ∧ n_iv vs q.1 ≤ n_iv vs q.2.1 + q.2.2.2 := hds
  obtain ⟨d0, hds⟩ := List.forall_mem_cons.mp hds
  have d0 : v_iv (n_v vs 8) + (-1) ≤ v_iv (n_v vs 9) ∧ v_iv (n_v vs 9) ≤ v_iv (n_v vs 8) + 0 := d0
  obtain ⟨d1, hds⟩ := List.forall_mem_cons.mp hds
  have d1 : v_iv (n_v vs 4) + (-1) ≤ v_iv (n_v vs 9) ∧ v_iv (n_v vs 9) ≤ v_iv (n_v vs 4) + 2000 := d1
  obtain ⟨d2, hds⟩ := List.forall_mem_cons.mp hds
  have d2 : v_iv (n_v vs 3) + (-4294967296) ≤ v_iv (n_v vs 9) ∧ v_iv (n_v vs 9) ≤ v_iv (n_v vs 3) + 1999 := d2
  obtain ⟨d3, hds⟩ := List.forall_mem_cons.mp hds
  have d3 : v_iv (n_v vs 2) + (-4294967296) ≤ v_iv (n_v vs 9) ∧ v_iv (n_v vs 9) ≤ v_iv (n_v vs 2) + 2002 := d3
  obtain ⟨d4, hds⟩ := List.forall_mem_cons.mp hds
  have d4 : v_iv (n_v vs 3) + (-4294967296) ≤ v_iv (n_v vs 9) ∧ v_iv (n_v vs 9) ≤ v_iv (n_v vs 3) + 2003 := d4
  obtain ⟨d5, hds⟩ := List.forall_mem_cons.mp hds
  have d5 : v_iv (n_v vs 7) + (-1) ≤ v_iv (n_v vs 9) ∧ v_iv (n_v vs 9) ≤ v_iv (n_v vs 7) + 1 := d5
  obtain ⟨d6, hds⟩ := List.forall_mem_cons.mp hds
  have d6 : v_iv (n_v vs 4) + 0 ≤ v_iv (n_v vs 8) ∧ v_iv (n_v vs 8) ≤ v_iv (n_v vs 4) + 2000 := d6
  obtain ⟨d7, hds⟩ := List.forall_mem_cons.mp hds
  have d7 : v_iv (n_v vs 3) + (-4294967296) ≤ v_iv (n_v vs 8) ∧ v_iv (n_v vs 8) ≤ v_iv (n_v vs 3) + 1999 := d7
  obtain ⟨d8, hds⟩ := List.forall_mem_cons.mp hds
  have d8 : v_iv (n_v vs 2) + (-4294967296) ≤ v_iv (n_v vs 8) ∧ v_iv (n_v vs 8) ≤ v_iv (n_v vs 2) + 2002 := d8
  obtain ⟨d9, hds⟩ := List.forall_mem_cons.mp hds
  have d9 : v_iv (n_v vs 3) + (-4294967296) ≤ v_iv (n_v vs 8) ∧ v_iv (n_v vs 8) ≤ v_iv (n_v vs 3) + 2003 := d9
  obtain ⟨d10, hds⟩ := List.forall_mem_cons.mp hds
  have d10 : v_iv (n_v vs 7) + 0 ≤ v_iv (n_v vs 8) ∧ v_iv (n_v vs 8) ≤ v_iv (n_v vs 7) + 1 := d10
  obtain ⟨d11, hds⟩ := List.forall_mem_cons.mp hds
  have d11 : v_iv (n_v vs 3) + (-4294967296) ≤ v_iv (n_v vs 4) ∧ v_iv (n_v vs 4) ≤ v_iv (n_v vs 3) + (-1) := d11
  obtain ⟨d12, hds⟩ := List.forall_mem_cons.mp hds
  have d12 : v_iv (n_v vs 3) + (-4294967296) ≤ v_iv (n_v vs 2) ∧ v_iv (n_v vs 2) ≤ v_iv (n_v vs 3) + 3 := d12
  obtain ⟨d13, hds⟩ := List.forall_mem_cons.mp hds
  have d13 : v_iv (n_v vs 4) + (-4294967296) ≤ v_iv (n_v vs 2) ∧ v_iv (n_v vs 2) ≤ v_iv (n_v vs 4) + 0 := d13
  obtain ⟨d14, hds⟩ := List.forall_mem_cons.mp hds
  have d14 : v_iv (n_v vs 2) + (-4294967296) ≤ v_iv (n_v vs 3) ∧ v_iv (n_v vs 3) ≤ v_iv (n_v vs 2) + 2 := d14
  obtain ⟨d15, hds⟩ := List.forall_mem_cons.mp hds
  have d15 : v_iv (n_v vs 4) + (-4294967296) ≤ v_iv (n_v vs 3) ∧ v_iv (n_v vs 3) ≤ v_iv (n_v vs 4) + 2 := d15
  obtain ⟨d16, hds⟩ := List.forall_mem_cons.mp hds
  have d16 : v_iv (n_v vs 2) + (-4294967296) ≤ v_iv (n_v vs 4) ∧ v_iv (n_v vs 4) ≤ v_iv (n_v vs 2) + 2 := d16
  obtain ⟨d17, hds⟩ := List.forall_mem_cons.mp hds
  have d17 : v_iv (n_v vs 3) + (-4294967296) ≤ v_iv (n_v vs 4) ∧ v_iv (n_v vs 4) ≤ v_iv (n_v vs 3) + 3 := d17
  have hf : fc_ok [(2, [9, 8, 2], []), (1, [8, 7, 4], []), (9, [7, 0], [7]), (7, [4, 3], [2]), (20, [0, 3, 2], [30, 2000, 1, 1, 7, 1, 0, 0, -1, 0, 0]), (20, [2, 4], [30, 0, 1, 0, 0, -1, 0, 0])] ta ws vs := hf
  obtain ⟨f0, hf⟩ := fc_un (show (2 : Nat) < 100 from by decide) hf
  have f0 : v_iv (n_v vs 9) = v_iv (n_v vs 8) - v_iv (n_v vs 2) := f0
  obtain ⟨f1, hf⟩ := fc_un (show (1 : Nat) < 100 from by decide) hf
  have f1 : v_iv (n_v vs 8) = v_iv (n_v vs 7) + v_iv (n_v vs 4) := f1
  obtain ⟨f2, hf⟩ := fc_un (show (9 : Nat) < 100 from by decide) hf
  have f2 : n_v vs 7 = w_fd ws (v_ad (n_v vs 0)) 7 := f2
  obtain ⟨f3, hf⟩ := fc_un (show (7 : Nat) < 100 from by decide) hf
  have f3 : v_iv (n_v vs 4) < v_iv (n_v vs 3) := f3
  obtain ⟨f4, hf⟩ := fc_un (show (20 : Nat) < 100 from by decide) hf
  have f4 : 1 * w_fi ws (n_v vs 0) 7 + (1 * v_iv (n_v vs 3) + ((-1) * v_iv (n_v vs 2) + 0)) ≤ 2000 := f4
  obtain ⟨f5, hf⟩ := fc_un (show (20 : Nat) < 100 from by decide) hf
  have f5 : 1 * v_iv (n_v vs 2) + ((-1) * v_iv (n_v vs 4) + 0) ≤ 0 := f5
  have g2 : v_iv (n_v vs 7) = w_fi ws (n_v vs 0) 7 := congrArg v_iv f2
  have kz_0_7 : 0 ≤ w_fi ws (n_v vs 0) 7 ∧ w_fi ws (n_v vs 0) 7 ≤ 2000 := tv_rng (th_fd hD hth r0 (g := GG_11) rfl (k := 7) (t := (0, 0, 2000, [])) rfl rfl)
  have rf9 : tv_ok ta (0, 0, 1999, []) (n_v vs 9) := tv_in t9 (by omega) (by omega)
  refine ⟨List.forall_mem_cons.mpr ⟨rf9, (fun _ h => (by cases h))⟩, [], trivial, ?_, (fun _ h => (by cases h))⟩
  rw [List.append_nil]
  exact (fun _ h => (by cases h))
def o_Sy_isWordAt_at_s5008_2 : or_T := (20, 12, [(0, (2, 0, 0, [11])), (2, (0, 0, 1, [])), (3, (0, 1, 2, [])), (4, (0, 0, 1, [])), (7, (0, 0, 2000, [])), (8, (0, 0, 2001, [])), (9, (0, 0, 1999, [])), (11, (0, 1, 2, []))], [(6, [11, 4], [1]), (2, [9, 8, 2], []), (1, [8, 7, 4], []), (9, [7, 0], [7]), (7, [4, 3], [2]), (20, [0, 3, 2], [30, 2000, 1, 1, 7, 1, 0, 0, -1, 0, 0]), (20, [2, 4], [30, 0, 1, 0, 0, -1, 0, 0])], [], [], [(20, [2, 11], [30, 0, 1, 0, 0, -1, 0, 0])], [], [(11, 4, 1, 1), (11, 3, -4294967296, 0), (11, 2, -4294967296, 3), (11, 3, -4294967296, 4), (9, 8, -1, 0), (9, 4, -1, 2000), (9, 3, -4294967296, 1999), (9, 2, -4294967296, 2002), (9, 3, -4294967296, 2003), (9, 7, -1, 1), (8, 4, 0, 2000), (8, 3, -4294967296, 1999), (8, 2, -4294967296, 2002), (8, 3, -4294967296, 2003), (8, 7, 0, 1), (4, 3, -4294967296, -1), (2, 3, -4294967296, 3), (2, 4, -4294967296, 0), (3, 2, -4294967296, 2), (3, 4, -4294967296, 2), (4, 2, -4294967296, 2), (4, 3, -4294967296, 3)])
theorem oo_Sy_isWordAt_at_s5008_2 {kA : Nat → ClassId} : or_ok kA GG o_Sy_isWordAt_at_s5008_2 := by
  intro A ta ws vs hD hth hl hk hds hf
  have hl : vs.length = 12 := hl
  have hk : ∀ q ∈ ([(0, (2, 0, 0, [11])), (2, (0, 0, 1, [])), (3, (0, 1, 2, [])), (4, (0, 0, 1, [])), (7, (0, 0, 2000, [])), (8, (0, 0, 2001, [])), (9, (0, 0, 1999, [])), (11, (0, 1, 2, []))] : List (Nat × tv_T)), tv_ok ta q.2 (n_v vs q.1) := hk
  obtain ⟨t0, hk⟩ := List.forall_mem_cons.mp hk
  have t0 : tv_ok ta (2, 0, 0, [11]) (n_v vs 0) := t0
  have r0 : ta (v_ad (n_v vs 0)) = some 11 := tv_rg t0
  obtain ⟨t2, hk⟩ := List.forall_mem_cons.mp hk
  have t2 : tv_ok ta (0, 0, 1, []) (n_v vs 2) := t2
  have k2 : 0 ≤ v_iv (n_v vs 2) ∧ v_iv (n_v vs 2) ≤ 1 := tv_rng t2
  obtain ⟨t3, hk⟩ := List.forall_mem_cons.mp hk
  have t3 : tv_ok ta (0, 1, 2, []) (n_v vs 3) := t3
  have k3 : 1 ≤ v_iv (n_v vs 3) ∧ v_iv (n_v vs 3) ≤ 2 := tv_rng t3
  obtain ⟨t4, hk⟩ := List.forall_mem_cons.mp hk
  have t4 : tv_ok ta (0, 0, 1, []) (n_v vs 4) := t4
  have k4 : 0 ≤ v_iv (n_v vs 4) ∧ v_iv (n_v vs 4) ≤ 1 := tv_rng t4
  obtain ⟨t7, hk⟩ := List.forall_mem_cons.mp hk
  have t7 : tv_ok ta (0, 0, 2000, []) (n_v vs 7) := t7
  have k7 : 0 ≤ v_iv (n_v vs 7) ∧ v_iv (n_v vs 7) ≤ 2000 := tv_rng t7
  obtain ⟨t8, hk⟩ := List.forall_mem_cons.mp hk
  have t8 : tv_ok ta (0, 0, 2001, []) (n_v vs 8) := t8
  have k8 : 0 ≤ v_iv (n_v vs 8) ∧ v_iv (n_v vs 8) ≤ 2001 := tv_rng t8
  obtain ⟨t9, hk⟩ := List.forall_mem_cons.mp hk
  have t9 : tv_ok ta (0, 0, 1999, []) (n_v vs 9) := t9
  have k9 : 0 ≤ v_iv (n_v vs 9) ∧ v_iv (n_v vs 9) ≤ 1999 := tv_rng t9
  obtain ⟨t11, hk⟩ := List.forall_mem_cons.mp hk
  have t11 : tv_ok ta (0, 1, 2, []) (n_v vs 11) := t11
  have k11 : 1 ≤ v_iv (n_v vs 11) ∧ v_iv (n_v vs 11) ≤ 2 := tv_rng t11
  have hds : ∀ q ∈ ([(11, 4, 1, 1), (11, 3, -4294967296, 0), (11, 2, -4294967296, 3), (11, 3, -4294967296, 4), (9, 8, -1, 0), (9, 4, -1, 2000), (9, 3, -4294967296, 1999), (9, 2, -4294967296, 2002), (9, 3, -4294967296, 2003), (9, 7, -1, 1), (8, 4, 0, 2000), (8, 3, -4294967296, 1999), (8, 2, -4294967296, 2002), (8, 3, -4294967296, 2003), (8, 7, 0, 1), (4, 3, -4294967296, -1), (2, 3, -4294967296, 3), (2, 4, -4294967296, 0), (3, 2, -4294967296, 2), (3, 4, -4294967296, 2), (4, 2, -4294967296, 2), (4, 3, -4294967296, 3)] : List of_T), n_iv vs q.2.1 + q.2.2.1 ≤ n_iv vs q.1 ∧ n_iv vs q.1 ≤ n_iv vs q.2.1 + q.2.2.2 := hds
  obtain ⟨d0, hds⟩ := List.forall_mem_cons.mp hds
  have d0 : v_iv (n_v vs 4) + 1 ≤ v_iv (n_v vs 11) ∧ v_iv (n_v vs 11) ≤ v_iv (n_v vs 4) + 1 := d0
  obtain ⟨d1, hds⟩ := List.forall_mem_cons.mp hds
  have d1 : v_iv (n_v vs 3) + (-4294967296) ≤ v_iv (n_v vs 11) ∧ v_iv (n_v vs 11) ≤ v_iv (n_v vs 3) + 0 := d1
  obtain ⟨d2, hds⟩ := List.forall_mem_cons.mp hds
  have d2 : v_iv (n_v vs 2) + (-4294967296) ≤ v_iv (n_v vs 11) ∧ v_iv (n_v vs 11) ≤ v_iv (n_v vs 2) + 3 := d2
  obtain ⟨d3, hds⟩ := List.forall_mem_cons.mp hds
  have d3 : v_iv (n_v vs 3) + (-4294967296) ≤ v_iv (n_v vs 11) ∧ v_iv (n_v vs 11) ≤ v_iv (n_v vs 3) + 4 := d3
  obtain ⟨d4, hds⟩ := List.forall_mem_cons.mp hds
  have d4 : v_iv (n_v vs 8) + (-1) ≤ v_iv (n_v vs 9) ∧ v_iv (n_v vs 9) ≤ v_iv (n_v vs 8) + 0 := d4
  obtain ⟨d5, hds⟩ := List.forall_mem_cons.mp hds
  have d5 : v_iv (n_v vs 4) + (-1) ≤ v_iv (n_v vs 9) ∧ v_iv (n_v vs 9) ≤ v_iv (n_v vs 4) + 2000 := d5
  obtain ⟨d6, hds⟩ := List.forall_mem_cons.mp hds
  have d6 : v_iv (n_v vs 3) + (-4294967296) ≤ v_iv (n_v vs 9) ∧ v_iv (n_v vs 9) ≤ v_iv (n_v vs 3) + 1999 := d6
  obtain ⟨d7, hds⟩ := List.forall_mem_cons.mp hds
  have d7 : v_iv (n_v vs 2) + (-4294967296) ≤ v_iv (n_v vs 9) ∧ v_iv (n_v vs 9) ≤ v_iv (n_v vs 2) + 2002 := d7
  obtain ⟨d8, hds⟩ := List.forall_mem_cons.mp hds
  have d8 : v_iv (n_v vs 3) + (-4294967296) ≤ v_iv (n_v vs 9) ∧ v_iv (n_v vs 9) ≤ v_iv (n_v vs 3) + 2003 := d8
  obtain ⟨d9, hds⟩ := List.forall_mem_cons.mp hds
  have d9 : v_iv (n_v vs 7) + (-1) ≤ v_iv (n_v vs 9) ∧ v_iv (n_v vs 9) ≤ v_iv (n_v vs 7) + 1 := d9
  obtain ⟨d10, hds⟩ := List.forall_mem_cons.mp hds
  have d10 : v_iv (n_v vs 4) + 0 ≤ v_iv (n_v vs 8) ∧ v_iv (n_v vs 8) ≤ v_iv (n_v vs 4) + 2000 := d10
  obtain ⟨d11, hds⟩ := List.forall_mem_cons.mp hds
  have d11 : v_iv (n_v vs 3) + (-4294967296) ≤ v_iv (n_v vs 8) ∧ v_iv (n_v vs 8) ≤ v_iv (n_v vs 3) + 1999 := d11
  obtain ⟨d12, hds⟩ := List.forall_mem_cons.mp hds
  have d12 : v_iv (n_v vs 2) + (-4294967296) ≤ v_iv (n_v vs 8) ∧ v_iv (n_v vs 8) ≤ v_iv (n_v vs 2) + 2002 := d12
  obtain ⟨d13, hds⟩ := List.forall_mem_cons.mp hds
  have d13 : v_iv (n_v vs 3) + (-4294967296) ≤ v_iv (n_v vs 8) ∧ v_iv (n_v vs 8) ≤ v_iv (n_v vs 3) + 2003 := d13
  obtain ⟨d14, hds⟩ := List.forall_mem_cons.mp hds
  have d14 : v_iv (n_v vs 7) + 0 ≤ v_iv (n_v vs 8) ∧ v_iv (n_v vs 8) ≤ v_iv (n_v vs 7) + 1 := d14
  obtain ⟨d15, hds⟩ := List.forall_mem_cons.mp hds
  have d15 : v_iv (n_v vs 3) + (-4294967296) ≤ v_iv (n_v vs 4) ∧ v_iv (n_v vs 4) ≤ v_iv (n_v vs 3) + (-1) := d15
  obtain ⟨d16, hds⟩ := List.forall_mem_cons.mp hds
  have d16 : v_iv (n_v vs 3) + (-4294967296) ≤ v_iv (n_v vs 2) ∧ v_iv (n_v vs 2) ≤ v_iv (n_v vs 3) + 3 := d16
  obtain ⟨d17, hds⟩ := List.forall_mem_cons.mp hds
  have d17 : v_iv (n_v vs 4) + (-4294967296) ≤ v_iv (n_v vs 2) ∧ v_iv (n_v vs 2) ≤ v_iv (n_v vs 4) + 0 := d17
  obtain ⟨d18, hds⟩ := List.forall_mem_cons.mp hds
  have d18 : v_iv (n_v vs 2) + (-4294967296) ≤ v_iv (n_v vs 3) ∧ v_iv (n_v vs 3) ≤ v_iv (n_v vs 2) + 2 := d18
  obtain ⟨d19, hds⟩ := List.forall_mem_cons.mp hds
  have d19 : v_iv (n_v vs 4) + (-4294967296) ≤ v_iv (n_v vs 3) ∧ v_iv (n_v vs 3) ≤ v_iv (n_v vs 4) + 2 := d19
  obtain ⟨d20, hds⟩ := List.forall_mem_cons.mp hds
  have d20 : v_iv (n_v vs 2) + (-4294967296) ≤ v_iv (n_v vs 4) ∧ v_iv (n_v vs 4) ≤ v_iv (n_v vs 2) + 2 := d20
  obtain ⟨d21, hds⟩ := List.forall_mem_cons.mp hds
  have d21 : v_iv (n_v vs 3) + (-4294967296) ≤ v_iv (n_v vs 4) ∧ v_iv (n_v vs 4) ≤ v_iv (n_v vs 3) + 3 := d21
  have hf : fc_ok [(6, [11, 4], [1]), (2, [9, 8, 2], []), (1, [8, 7, 4], []), (9, [7, 0], [7]), (7, [4, 3], [2]), (20, [0, 3, 2], [30, 2000, 1, 1, 7, 1, 0, 0, -1, 0, 0]), (20, [2, 4], [30, 0, 1, 0, 0, -1, 0, 0])] ta ws vs := hf
  obtain ⟨f0, hf⟩ := fc_un (show (6 : Nat) < 100 from by decide) hf
  have f0 : v_iv (n_v vs 11) = v_iv (n_v vs 4) + 1 := f0
  obtain ⟨f1, hf⟩ := fc_un (show (2 : Nat) < 100 from by decide) hf
  have f1 : v_iv (n_v vs 9) = v_iv (n_v vs 8) - v_iv (n_v vs 2) := f1
  obtain ⟨f2, hf⟩ := fc_un (show (1 : Nat) < 100 from by decide) hf
  have f2 : v_iv (n_v vs 8) = v_iv (n_v vs 7) + v_iv (n_v vs 4) := f2
  obtain ⟨f3, hf⟩ := fc_un (show (9 : Nat) < 100 from by decide) hf
  have f3 : n_v vs 7 = w_fd ws (v_ad (n_v vs 0)) 7 := f3
  obtain ⟨f4, hf⟩ := fc_un (show (7 : Nat) < 100 from by decide) hf
  have f4 : v_iv (n_v vs 4) < v_iv (n_v vs 3) := f4
  obtain ⟨f5, hf⟩ := fc_un (show (20 : Nat) < 100 from by decide) hf
  have f5 : 1 * w_fi ws (n_v vs 0) 7 + (1 * v_iv (n_v vs 3) + ((-1) * v_iv (n_v vs 2) + 0)) ≤ 2000 := f5
  obtain ⟨f6, hf⟩ := fc_un (show (20 : Nat) < 100 from by decide) hf
  have f6 : 1 * v_iv (n_v vs 2) + ((-1) * v_iv (n_v vs 4) + 0) ≤ 0 := f6
  have g3 : v_iv (n_v vs 7) = w_fi ws (n_v vs 0) 7 := congrArg v_iv f3
  have kz_0_7 : 0 ≤ w_fi ws (n_v vs 0) 7 ∧ w_fi ws (n_v vs 0) 7 ≤ 2000 := tv_rng (th_fd hD hth r0 (g := GG_11) rfl (k := 7) (t := (0, 0, 2000, [])) rfl rfl)
  have nf0 : fc_1 (20, [2, 11], [30, 0, 1, 0, 0, -1, 0, 0]) ws (vs) := by
    refine ⟨fun n hn => ?_, ?_⟩
    · have hn : n ∈ [2, 11] := hn
      rw [hl]
      simp only [List.mem_cons, List.not_mem_nil, or_false] at hn
      show n < 12; omega
    · show 1 * v_iv (n_v vs 2) + ((-1) * v_iv (n_v vs 11) + 0) ≤ 0
      omega
  refine ⟨(fun _ h => (by cases h)), [], trivial, ?_, (fun _ h => (by cases h))⟩
  rw [List.append_nil]
  exact List.forall_mem_cons.mpr ⟨⟨show (20 : Nat) < 100 from by decide, nf0⟩, (fun _ h => (by cases h))⟩
def n_Sy_isWordAt_at_s5008_an : List an_T := [(20, [(0, (2, 0, 0, [11])), (1, (2, 0, 0, [5008])), (2, (0, 0, 3, [])), (3, (0, 0, 2, [])), (4, (0, 0, 3, []))], [], (0, 0), [(0, 0, 99980), (1, 4, 3), (0, 0, 100000)], [(2, 3, -1000000000000, 3), (2, 4, -1000000000000, 0), (3, 2, -1000000000000, 2), (3, 4, -1000000000000, 2), (4, 2, -1000000000000, 2), (4, 3, -1000000000000, 3)], [((0, 3), (2, 0, 0, [109]))], [], 0, [], [(20, [0, 3, 2], [30, 2000, 1, 1, 7, 1, 0, 0, -1, 0, 0]), (20, [2, 4], [30, 0, 1, 0, 0, -1, 0, 0])])]
def t_Sy_isWordAt_at_s5008_ct : ct_L := [(91, 104, e_jStr_charAt_v157)]
set_option maxRecDepth 100000 in
theorem c_Sy_isWordAt_at_s5008 {l : Launch} {D : va_G} {kA : Nat → ClassId} : ct_ok l D kA GG y_Sy_isWordAt_at_s5008 z_Sy_isWordAt_at_s5008 e_Sy_isWordAt_at_s5008 := chk_all_ok (FT := [(21, 11, 3), (28, 11, 5), (34, 11, 7)]) (PT := []) (CT := t_Sy_isWordAt_at_s5008_ct) (KT := []) (NT := []) (AN := n_Sy_isWordAt_at_s5008_an) (OT := [o_Sy_isWordAt_at_s5008_0, o_Sy_isWordAt_at_s5008_1, o_Sy_isWordAt_at_s5008_2]) 3 200 (List.forall_mem_cons.mpr ⟨oo_Sy_isWordAt_at_s5008_0, List.forall_mem_cons.mpr ⟨oo_Sy_isWordAt_at_s5008_1, List.forall_mem_cons.mpr ⟨oo_Sy_isWordAt_at_s5008_2, List.forall_mem_nil _⟩⟩⟩) (by decide +kernel) ⟨List.forall_mem_cons.mpr ⟨gf_Sy_21, List.forall_mem_cons.mpr ⟨gf_Sy_28, List.forall_mem_cons.mpr ⟨gf_Sy_34, List.forall_mem_nil _⟩⟩⟩, List.forall_mem_nil _, List.forall_mem_cons.mpr ⟨cl_string (y := y_jStr_charAt) (i := 8) rfl rfl (by decide +kernel) rfl c_jStr_charAt_v157 wm_684 wm_11 wm_2231 wm_682 wm_683 ⟨by decide, by decide, by decide +kernel⟩ (by decide), List.forall_mem_nil _⟩, List.forall_mem_nil _, List.forall_mem_nil _, GG_pl⟩ (by decide +kernel)
def o_Sy_isWordAt_at_s5009_0 : or_T := (20, 9, [(0, (2, 0, 0, [11])), (2, (0, 0, 4, [])), (3, (0, 0, 3, [])), (5, (0, 0, 2000, [])), (6, (0, 0, 2000, [])), (7, (0, -4, 3, [])), (8, (0, -4, 3, []))], [(7, [7, 8], [0]), (2, [8, 3, 2], []), (2, [7, 5, 6], []), (9, [6, 0], [7]), (9, [5, 0], [5])], [], [], [(20, [0, 3, 2], [30, 2000, 1, 1, 7, 1, 0, 0, -1, 0, 0]), (20, [2, 2], [30, 0, 1, 0, 0, -1, 0, 0])], [], [(7, 8, 0, 0), (8, 3, -4, 0), (7, 5, -2000, 0)])
theorem oo_Sy_isWordAt_at_s5009_0 {kA : Nat → ClassId} : or_ok kA GG o_Sy_isWordAt_at_s5009_0 := by
  intro A ta ws vs hD hth hl hk hds hf
  have hl : vs.length = 9 := hl
  have hk : ∀ q ∈ ([(0, (2, 0, 0, [11])), (2, (0, 0, 4, [])), (3, (0, 0, 3, [])), (5, (0, 0, 2000, [])), (6, (0, 0, 2000, [])), (7, (0, -4, 3, [])), (8, (0, -4, 3, []))] : List (Nat × tv_T)), tv_ok ta q.2 (n_v vs q.1) := hk
  obtain ⟨t0, hk⟩ := List.forall_mem_cons.mp hk
  have t0 : tv_ok ta (2, 0, 0, [11]) (n_v vs 0) := t0
  have r0 : ta (v_ad (n_v vs 0)) = some 11 := tv_rg t0
  obtain ⟨t2, hk⟩ := List.forall_mem_cons.mp hk
  have t2 : tv_ok ta (0, 0, 4, []) (n_v vs 2) := t2
  have k2 : 0 ≤ v_iv (n_v vs 2) ∧ v_iv (n_v vs 2) ≤ 4 := tv_rng t2
  obtain ⟨t3, hk⟩ := List.forall_mem_cons.mp hk
  have t3 : tv_ok ta (0, 0, 3, []) (n_v vs 3) := t3
  have k3 : 0 ≤ v_iv (n_v vs 3) ∧ v_iv (n_v vs 3) ≤ 3 := tv_rng t3
  obtain ⟨t5, hk⟩ := List.forall_mem_cons.mp hk
  have t5 : tv_ok ta (0, 0, 2000, []) (n_v vs 5) := t5
  have k5 : 0 ≤ v_iv (n_v vs 5) ∧ v_iv (n_v vs 5) ≤ 2000 := tv_rng t5
  obtain ⟨t6, hk⟩ := List.forall_mem_cons.mp hk
  have t6 : tv_ok ta (0, 0, 2000, []) (n_v vs 6) := t6
  have k6 : 0 ≤ v_iv (n_v vs 6) ∧ v_iv (n_v vs 6) ≤ 2000 := tv_rng t6
  obtain ⟨t7, hk⟩ := List.forall_mem_cons.mp hk
  have t7 : tv_ok ta (0, -4, 3, []) (n_v vs 7) := t7
  have k7 : (-4) ≤ v_iv (n_v vs 7) ∧ v_iv (n_v vs 7) ≤ 3 := tv_rng t7
  obtain ⟨t8, hk⟩ := List.forall_mem_cons.mp hk
  have t8 : tv_ok ta (0, -4, 3, []) (n_v vs 8) := t8
  have k8 : (-4) ≤ v_iv (n_v vs 8) ∧ v_iv (n_v vs 8) ≤ 3 := tv_rng t8
  have hds : ∀ q ∈ ([(7, 8, 0, 0), (8, 3, -4, 0), (7, 5, -2000, 0)] : List of_T), n_iv vs q.2.1 + q.2.2.1 ≤ n_iv vs q.1 ∧ n_iv vs q.1 ≤ n_iv vs q.2.1 + q.2.2.2 := hds
  obtain ⟨d0, hds⟩ := List.forall_mem_cons.mp hds
  have d0 : v_iv (n_v vs 8) + 0 ≤ v_iv (n_v vs 7) ∧ v_iv (n_v vs 7) ≤ v_iv (n_v vs 8) + 0 := d0
  obtain ⟨d1, hds⟩ := List.forall_mem_cons.mp hds
  have d1 : v_iv (n_v vs 3) + (-4) ≤ v_iv (n_v vs 8) ∧ v_iv (n_v vs 8) ≤ v_iv (n_v vs 3) + 0 := d1
  obtain ⟨d2, hds⟩ := List.forall_mem_cons.mp hds
  have d2 : v_iv (n_v vs 5) + (-2000) ≤ v_iv (n_v vs 7) ∧ v_iv (n_v vs 7) ≤ v_iv (n_v vs 5) + 0 := d2
  have hf : fc_ok [(7, [7, 8], [0]), (2, [8, 3, 2], []), (2, [7, 5, 6], []), (9, [6, 0], [7]), (9, [5, 0], [5])] ta ws vs := hf
  obtain ⟨f0, hf⟩ := fc_un (show (7 : Nat) < 100 from by decide) hf
  have f0 : v_iv (n_v vs 7) = v_iv (n_v vs 8) := f0
  obtain ⟨f1, hf⟩ := fc_un (show (2 : Nat) < 100 from by decide) hf
  have f1 : v_iv (n_v vs 8) = v_iv (n_v vs 3) - v_iv (n_v vs 2) := f1
  obtain ⟨f2, hf⟩ := fc_un (show (2 : Nat) < 100 from by decide) hf
  have f2 : v_iv (n_v vs 7) = v_iv (n_v vs 5) - v_iv (n_v vs 6) := f2
  obtain ⟨f3, hf⟩ := fc_un (show (9 : Nat) < 100 from by decide) hf
  have f3 : n_v vs 6 = w_fd ws (v_ad (n_v vs 0)) 7 := f3
  obtain ⟨f4, hf⟩ := fc_un (show (9 : Nat) < 100 from by decide) hf
  have f4 : n_v vs 5 = w_fd ws (v_ad (n_v vs 0)) 5 := f4
  have g3 : v_iv (n_v vs 6) = w_fi ws (n_v vs 0) 7 := congrArg v_iv f3
  have g4 : v_iv (n_v vs 5) = w_fi ws (n_v vs 0) 5 := congrArg v_iv f4
  have kz_0_5 : 0 ≤ w_fi ws (n_v vs 0) 5 ∧ w_fi ws (n_v vs 0) 5 ≤ 2000 := tv_rng (th_fd hD hth r0 (g := GG_11) rfl (k := 5) (t := (0, 0, 2000, [])) rfl rfl)
  have kz_0_7 : 0 ≤ w_fi ws (n_v vs 0) 7 ∧ w_fi ws (n_v vs 0) 7 ≤ 2000 := tv_rng (th_fd hD hth r0 (g := GG_11) rfl (k := 7) (t := (0, 0, 2000, [])) rfl rfl)
  have nf0 : fc_1 (20, [0, 3, 2], [30, 2000, 1, 1, 7, 1, 0, 0, -1, 0, 0]) ws (vs) := by
    refine ⟨fun n hn => ?_, ?_⟩
    · have hn : n ∈ [0, 3, 2] := hn
      rw [hl]
      simp only [List.mem_cons, List.not_mem_nil, or_false] at hn
      show n < 9; omega
    · show 1 * w_fi ws (n_v vs 0) 7 + (1 * v_iv (n_v vs 3) + ((-1) * v_iv (n_v vs 2) + 0)) ≤ 2000
      omega
  have nf1 : fc_1 (20, [2, 2], [30, 0, 1, 0, 0, -1, 0, 0]) ws (vs) := by
    refine ⟨fun n hn => ?_, ?_⟩
    · have hn : n ∈ [2, 2] := hn
      rw [hl]
      simp only [List.mem_cons, List.not_mem_nil, or_false] at hn
      show n < 9; omega
    · show 1 * v_iv (n_v vs 2) + ((-1) * v_iv (n_v vs 2) + 0) ≤ 0
      omega
  refine ⟨(fun _ h => (by cases h)), [], trivial, ?_, (fun _ h => (by cases h))⟩
  rw [List.append_nil]
  exact List.forall_mem_cons.mpr ⟨⟨show (20 : Nat) < 100 from by decide, nf0⟩, List.forall_mem_cons.mpr ⟨⟨show (20 : Nat) < 100 from by decide, nf1⟩, (fun _ h => (by cases h))⟩⟩
def o_Sy_isWordAt_at_s5009_1 : or_T := (45, 10, [(0, (2, 0, 0, [11])), (2, (0, 0, 2, [])), (3, (0, 1, 3, [])), (4, (0, 0, 2, [])), (7, (0, 0, 2000, [])), (8, (0, 0, 2002, [])), (9, (0, -2, 2002, []))], [(2, [9, 8, 2], []), (1, [8, 7, 4], []), (9, [7, 0], [7]), (7, [4, 3], [2]), (20, [0, 3, 2], [30, 2000, 1, 1, 7, 1, 0, 0, -1, 0, 0]), (20, [2, 4], [30, 0, 1, 0, 0, -1, 0, 0])], [(9, (0, 0, 1999, []))], [], [], [], [(9, 8, -2, 0), (9, 4, -2, 2000), (9, 3, -4294967296, 1999), (9, 3, -4294967296, 2004), (9, 7, -2, 2), (8, 4, 0, 2000), (8, 3, -4294967296, 1999), (8, 3, -4294967296, 2004), (8, 7, 0, 2), (4, 3, -4294967296, -1), (2, 3, -4294967296, 4), (2, 4, -4294967296, 0), (3, 2, -4294967296, 3), (3, 4, -4294967296, 3), (4, 3, -4294967296, 4)])
theorem oo_Sy_isWordAt_at_s5009_1 {kA : Nat → ClassId} : or_ok kA GG o_Sy_isWordAt_at_s5009_1 := by
  intro A ta ws vs hD hth hl hk hds hf
  have hl : vs.length = 10 := hl
  have hk : ∀ q ∈ ([(0, (2, 0, 0, [11])), (2, (0, 0, 2, [])), (3, (0, 1, 3, [])), (4, (0, 0, 2, [])), (7, (0, 0, 2000, [])), (8, (0, 0, 2002, [])), (9, (0, -2, 2002, []))] : List (Nat × tv_T)), tv_ok ta q.2 (n_v vs q.1) := hk
  obtain ⟨t0, hk⟩ := List.forall_mem_cons.mp hk
  have t0 : tv_ok ta (2, 0, 0, [11]) (n_v vs 0) := t0
  have r0 : ta (v_ad (n_v vs 0)) = some 11 := tv_rg t0
  obtain ⟨t2, hk⟩ := List.forall_mem_cons.mp hk
  have t2 : tv_ok ta (0, 0, 2, []) (n_v vs 2) := t2
  have k2 : 0 ≤ v_iv (n_v vs 2) ∧ v_iv (n_v vs 2) ≤ 2 := tv_rng t2
  obtain ⟨t3, hk⟩ := List.forall_mem_cons.mp hk
  have t3 : tv_ok ta (0, 1, 3, []) (n_v vs 3) := t3
  have k3 : 1 ≤ v_iv (n_v vs 3) ∧ v_iv (n_v vs 3) ≤ 3 := tv_rng t3
  obtain ⟨t4, hk⟩ := List.forall_mem_cons.mp hk
  have t4 : tv_ok ta (0, 0, 2, []) (n_v vs 4) := t4
  have k4 : 0 ≤ v_iv (n_v vs 4) ∧ v_iv (n_v vs 4) ≤ 2 := tv_rng t4
  obtain ⟨t7, hk⟩ := List.forall_mem_cons.mp hk
  have t7 : tv_ok ta (0, 0, 2000, []) (n_v vs 7) := t7
  have k7 : 0 ≤ v_iv (n_v vs 7) ∧ v_iv (n_v vs 7) ≤ 2000 := tv_rng t7
  obtain ⟨t8, hk⟩ := List.forall_mem_cons.mp hk
  have t8 : tv_ok ta (0, 0, 2002, []) (n_v vs 8) := t8
  have k8 : 0 ≤ v_iv (n_v vs 8) ∧ v_iv (n_v vs 8) ≤ 2002 := tv_rng t8
  obtain ⟨t9, hk⟩ := List.forall_mem_cons.mp hk
  have t9 : tv_ok ta (0, -2, 2002, []) (n_v vs 9) := t9
  have k9 : (-2) ≤ v_iv (n_v vs 9) ∧ v_iv (n_v vs 9) ≤ 2002 := tv_rng t9
  have hds : ∀ q ∈ ([(9, 8, -2, 0), (9, 4, -2, 2000), (9, 3, -4294967296, 1999), (9, 3, -4294967296, 2004), (9, 7, -2, 2), (8, 4, 0, 2000), (8, 3, -4294967296, 1999), (8, 3, -4294967296, 2004), (8, 7, 0, 2), (4, 3, -4294967296, -1), (2, 3, -4294967296, 4), (2, 4, -4294967296, 0), (3, 2, -4294967296, 3), (3, 4, -4294967296, 3), (4, 3, -4294967296, 4)] : List of_T), n_iv vs q.2.1 + q.2.2.1 ≤ n_iv vs q.1 ∧ n_iv vs q.1 ≤ n_iv vs q.2.1 + q.2.2.2 := hds
  obtain ⟨d0, hds⟩ := List.forall_mem_cons.mp hds
  have d0 : v_iv (n_v vs 8) + (-2) ≤ v_iv (n_v vs 9) ∧ v_iv (n_v vs 9) ≤ v_iv (n_v vs 8) + 0 := d0
  obtain ⟨d1, hds⟩ := List.forall_mem_cons.mp hds
  have d1 : v_iv (n_v vs 4) + (-2) ≤ v_iv (n_v vs 9) ∧ v_iv (n_v vs 9) ≤ v_iv (n_v vs 4) + 2000 := d1
  obtain ⟨d2, hds⟩ := List.forall_mem_cons.mp hds
  have d2 : v_iv (n_v vs 3) + (-4294967296) ≤ v_iv (n_v vs 9) ∧ v_iv (n_v vs 9) ≤ v_iv (n_v vs 3) + 1999 := d2
  obtain ⟨d3, hds⟩ := List.forall_mem_cons.mp hds
  have d3 : v_iv (n_v vs 3) + (-4294967296) ≤ v_iv (n_v vs 9) ∧ v_iv (n_v vs 9) ≤ v_iv (n_v vs 3) + 2004 := d3
  obtain ⟨d4, hds⟩ := List.forall_mem_cons.mp hds
  have d4 : v_iv (n_v vs 7) + (-2) ≤ v_iv (n_v vs 9) ∧ v_iv (n_v vs 9) ≤ v_iv (n_v vs 7) + 2 := d4
  obtain ⟨d5, hds⟩ := List.forall_mem_cons.mp hds
  have d5 : v_iv (n_v vs 4) + 0 ≤ v_iv (n_v vs 8) ∧ v_iv (n_v vs 8) ≤ v_iv (n_v vs 4) + 2000 := d5
  obtain ⟨d6, hds⟩ := List.forall_mem_cons.mp hds
  have d6 : v_iv (n_v vs 3) + (-4294967296) ≤ v_iv (n_v vs 8) ∧ v_iv (n_v vs 8) ≤ v_iv (n_v vs 3) + 1999 := d6
  obtain ⟨d7, hds⟩ := List.forall_mem_cons.mp hds
  have d7 : v_iv (n_v vs 3) + (-4294967296) ≤ v_iv (n_v vs 8) ∧ v_iv (n_v vs 8) ≤ v_iv (n_v vs 3) + 2004 := d7
  obtain ⟨d8, hds⟩ := List.forall_mem_cons.mp hds
  have d8 : v_iv (n_v vs 7) + 0 ≤ v_iv (n_v vs 8) ∧ v_iv (n_v vs 8) ≤ v_iv (n_v vs 7) + 2 := d8
  obtain ⟨d9, hds⟩ := List.forall_mem_cons.mp hds
  have d9 : v_iv (n_v vs 3) + (-4294967296) ≤ v_iv (n_v vs 4) ∧ v_iv (n_v vs 4) ≤ v_iv (n_v vs 3) + (-1) := d9
  obtain ⟨d10, hds⟩ := List.forall_mem_cons.mp hds
  have d10 : v_iv (n_v vs 3) + (-4294967296) ≤ v_iv (n_v vs 2) ∧ v_iv (n_v vs 2) ≤ v_iv (n_v vs 3) + 4 := d10
  obtain ⟨d11, hds⟩ := List.forall_mem_cons.mp hds
  have d11 : v_iv (n_v vs 4) + (-4294967296) ≤ v_iv (n_v vs 2) ∧ v_iv (n_v vs 2) ≤ v_iv (n_v vs 4) + 0 := d11
  obtain ⟨d12, hds⟩ := List.forall_mem_cons.mp hds
  have d12 : v_iv (n_v vs 2) + (-4294967296) ≤ v_iv (n_v vs 3) ∧ v_iv (n_v vs 3) ≤ v_iv (n_v vs 2) + 3 := d12
  obtain ⟨d13, hds⟩ := List.forall_mem_cons.mp hds
  have d13 : v_iv (n_v vs 4) + (-4294967296) ≤ v_iv (n_v vs 3) ∧ v_iv (n_v vs 3) ≤ v_iv (n_v vs 4) + 3 := d13
  obtain ⟨d14, hds⟩ := List.forall_mem_cons.mp hds
  have d14 : v_iv (n_v vs 3) + (-4294967296) ≤ v_iv (n_v vs 4) ∧ v_iv (n_v vs 4) ≤ v_iv (n_v vs 3) + 4 := d14
  have hf : fc_ok [(2, [9, 8, 2], []), (1, [8, 7, 4], []), (9, [7, 0], [7]), (7, [4, 3], [2]), (20, [0, 3, 2], [30, 2000, 1, 1, 7, 1, 0, 0, -1, 0, 0]), (20, [2, 4], [30, 0, 1, 0, 0, -1, 0, 0])] ta ws vs := hf
  obtain ⟨f0, hf⟩ := fc_un (show (2 : Nat) < 100 from by decide) hf
  have f0 : v_iv (n_v vs 9) = v_iv (n_v vs 8) - v_iv (n_v vs 2) := f0
  obtain ⟨f1, hf⟩ := fc_un (show (1 : Nat) < 100 from by decide) hf
  have f1 : v_iv (n_v vs 8) = v_iv (n_v vs 7) + v_iv (n_v vs 4) := f1
  obtain ⟨f2, hf⟩ := fc_un (show (9 : Nat) < 100 from by decide) hf
  have f2 : n_v vs 7 = w_fd ws (v_ad (n_v vs 0)) 7 := f2
  obtain ⟨f3, hf⟩ := fc_un (show (7 : Nat) < 100 from by decide) hf
  have f3 : v_iv (n_v vs 4) < v_iv (n_v vs 3) := f3
  obtain ⟨f4, hf⟩ := fc_un (show (20 : Nat) < 100 from by decide) hf
  have f4 : 1 * w_fi ws (n_v vs 0) 7 + (1 * v_iv (n_v vs 3) + ((-1) * v_iv (n_v vs 2) + 0)) ≤ 2000 := f4
  obtain ⟨f5, hf⟩ := fc_un (show (20 : Nat) < 100 from by decide) hf
  have f5 : 1 * v_iv (n_v vs 2) + ((-1) * v_iv (n_v vs 4) + 0) ≤ 0 := f5
  have g2 : v_iv (n_v vs 7) = w_fi ws (n_v vs 0) 7 := congrArg v_iv f2
  have kz_0_7 : 0 ≤ w_fi ws (n_v vs 0) 7 ∧ w_fi ws (n_v vs 0) 7 ≤ 2000 := tv_rng (th_fd hD hth r0 (g := GG_11) rfl (k := 7) (t := (0, 0, 2000, [])) rfl rfl)
  have rf9 : tv_ok ta (0, 0, 1999, []) (n_v vs 9) := tv_in t9 (by omega) (by omega)
  refine ⟨List.forall_mem_cons.mpr ⟨rf9, (fun _ h => (by cases h))⟩, [], trivial, ?_, (fun _ h => (by cases h))⟩
  rw [List.append_nil]
  exact (fun _ h => (by cases h))
def o_Sy_isWordAt_at_s5009_2 : or_T := (20, 12, [(0, (2, 0, 0, [11])), (2, (0, 0, 2, [])), (3, (0, 1, 3, [])), (4, (0, 0, 2, [])), (7, (0, 0, 2000, [])), (8, (0, 0, 2002, [])), (9, (0, 0, 1999, [])), (11, (0, 1, 3, []))], [(6, [11, 4], [1]), (2, [9, 8, 2], []), (1, [8, 7, 4], []), (9, [7, 0], [7]), (7, [4, 3], [2]), (20, [0, 3, 2], [30, 2000, 1, 1, 7, 1, 0, 0, -1, 0, 0]), (20, [2, 4], [30, 0, 1, 0, 0, -1, 0, 0])], [], [], [(20, [2, 11], [30, 0, 1, 0, 0, -1, 0, 0])], [], [(11, 4, 1, 1), (11, 3, -4294967296, 0), (11, 3, -4294967296, 5), (9, 8, -2, 0), (9, 4, -2, 2000), (9, 3, -4294967296, 1999), (9, 3, -4294967296, 2004), (9, 7, -2, 2), (8, 4, 0, 2000), (8, 3, -4294967296, 1999), (8, 3, -4294967296, 2004), (8, 7, 0, 2), (4, 3, -4294967296, -1), (2, 3, -4294967296, 4), (2, 4, -4294967296, 0), (3, 2, -4294967296, 3), (3, 4, -4294967296, 3), (4, 3, -4294967296, 4)])
theorem oo_Sy_isWordAt_at_s5009_2 {kA : Nat → ClassId} : or_ok kA GG o_Sy_isWordAt_at_s5009_2 := by
  intro A ta ws vs hD hth hl hk hds hf
  have hl : vs.length = 12 := hl
  have hk : ∀ q ∈ ([(0, (2, 0, 0, [11])), (2, (0, 0, 2, [])), (3, (0, 1, 3, [])), (4, (0, 0, 2, [])), (7, (0, 0, 2000, [])), (8, (0, 0, 2002, [])), (9, (0, 0, 1999, [])), (11, (0, 1, 3, []))] : List (Nat × tv_T)), tv_ok ta q.2 (n_v vs q.1) := hk
  obtain ⟨t0, hk⟩ := List.forall_mem_cons.mp hk
  have t0 : tv_ok ta (2, 0, 0, [11]) (n_v vs 0) := t0
  have r0 : ta (v_ad (n_v vs 0)) = some 11 := tv_rg t0
  obtain ⟨t2, hk⟩ := List.forall_mem_cons.mp hk
  have t2 : tv_ok ta (0, 0, 2, []) (n_v vs 2) := t2
  have k2 : 0 ≤ v_iv (n_v vs 2) ∧ v_iv (n_v vs 2) ≤ 2 := tv_rng t2
  obtain ⟨t3, hk⟩ := List.forall_mem_cons.mp hk
  have t3 : tv_ok ta (0, 1, 3, []) (n_v vs 3) := t3
  have k3 : 1 ≤ v_iv (n_v vs 3) ∧ v_iv (n_v vs 3) ≤ 3 := tv_rng t3
  obtain ⟨t4, hk⟩ := List.forall_mem_cons.mp hk
  have t4 : tv_ok ta (0, 0, 2, []) (n_v vs 4) := t4
  have k4 : 0 ≤ v_iv (n_v vs 4) ∧ v_iv (n_v vs 4) ≤ 2 := tv_rng t4
  obtain ⟨t7, hk⟩ := List.forall_mem_cons.mp hk
  have t7 : tv_ok ta (0, 0, 2000, []) (n_v vs 7) := t7
  have k7 : 0 ≤ v_iv (n_v vs 7) ∧ v_iv (n_v vs 7) ≤ 2000 := tv_rng t7
  obtain ⟨t8, hk⟩ := List.forall_mem_cons.mp hk
  have t8 : tv_ok ta (0, 0, 2002, []) (n_v vs 8) := t8
  have k8 : 0 ≤ v_iv (n_v vs 8) ∧ v_iv (n_v vs 8) ≤ 2002 := tv_rng t8
  obtain ⟨t9, hk⟩ := List.forall_mem_cons.mp hk
  have t9 : tv_ok ta (0, 0, 1999, []) (n_v vs 9) := t9
  have k9 : 0 ≤ v_iv (n_v vs 9) ∧ v_iv (n_v vs 9) ≤ 1999 := tv_rng t9
  obtain ⟨t11, hk⟩ := List.forall_mem_cons.mp hk
  have t11 : tv_ok ta (0, 1, 3, []) (n_v vs 11) := t11
  have k11 : 1 ≤ v_iv (n_v vs 11) ∧ v_iv (n_v vs 11) ≤ 3 := tv_rng t11
  have hds : ∀ q ∈ ([(11, 4, 1, 1), (11, 3, -4294967296, 0), (11, 3, -4294967296, 5), (9, 8, -2, 0), (9, 4, -2, 2000), (9, 3, -4294967296, 1999), (9, 3, -4294967296, 2004), (9, 7, -2, 2), (8, 4, 0, 2000), (8, 3, -4294967296, 1999), (8, 3, -4294967296, 2004), (8, 7, 0, 2), (4, 3, -4294967296, -1), (2, 3, -4294967296, 4), (2, 4, -4294967296, 0), (3, 2, -4294967296, 3), (3, 4, -4294967296, 3), (4, 3, -4294967296, 4)] : List of_T), n_iv vs q.2.1 + q.2.2.1 ≤ n_iv vs q.1 ∧ n_iv vs q.1 ≤ n_iv vs q.2.1 + q.2.2.2 := hds
  obtain ⟨d0, hds⟩ := List.forall_mem_cons.mp hds
  have d0 : v_iv (n_v vs 4) + 1 ≤ v_iv (n_v vs 11) ∧ v_iv (n_v vs 11) ≤ v_iv (n_v vs 4) + 1 := d0
  obtain ⟨d1, hds⟩ := List.forall_mem_cons.mp hds
  have d1 : v_iv (n_v vs 3) + (-4294967296) ≤ v_iv (n_v vs 11) ∧ v_iv (n_v vs 11) ≤ v_iv (n_v vs 3) + 0 := d1
  obtain ⟨d2, hds⟩ := List.forall_mem_cons.mp hds
  have d2 : v_iv (n_v vs 3) + (-4294967296) ≤ v_iv (n_v vs 11) ∧ v_iv (n_v vs 11) ≤ v_iv (n_v vs 3) + 5 := d2
  obtain ⟨d3, hds⟩ := List.forall_mem_cons.mp hds
  have d3 : v_iv (n_v vs 8) + (-2) ≤ v_iv (n_v vs 9) ∧ v_iv (n_v vs 9) ≤ v_iv (n_v vs 8) + 0 := d3
  obtain ⟨d4, hds⟩ := List.forall_mem_cons.mp hds
  have d4 : v_iv (n_v vs 4) + (-2) ≤ v_iv (n_v vs 9) ∧ v_iv (n_v vs 9) ≤ v_iv (n_v vs 4) + 2000 := d4
  obtain ⟨d5, hds⟩ := List.forall_mem_cons.mp hds
  have d5 : v_iv (n_v vs 3) + (-4294967296) ≤ v_iv (n_v vs 9) ∧ v_iv (n_v vs 9) ≤ v_iv (n_v vs 3) + 1999 := d5
  obtain ⟨d6, hds⟩ := List.forall_mem_cons.mp hds
  have d6 : v_iv (n_v vs 3) + (-4294967296) ≤ v_iv (n_v vs 9) ∧ v_iv (n_v vs 9) ≤ v_iv (n_v vs 3) + 2004 := d6
  obtain ⟨d7, hds⟩ := List.forall_mem_cons.mp hds
  have d7 : v_iv (n_v vs 7) + (-2) ≤ v_iv (n_v vs 9) ∧ v_iv (n_v vs 9) ≤ v_iv (n_v vs 7) + 2 := d7
  obtain ⟨d8, hds⟩ := List.forall_mem_cons.mp hds
  have d8 : v_iv (n_v vs 4) + 0 ≤ v_iv (n_v vs 8) ∧ v_iv (n_v vs 8) ≤ v_iv (n_v vs 4) + 2000 := d8
  obtain ⟨d9, hds⟩ := List.forall_mem_cons.mp hds
  have d9 : v_iv (n_v vs 3) + (-4294967296) ≤ v_iv (n_v vs 8) ∧ v_iv (n_v vs 8) ≤ v_iv (n_v vs 3) + 1999 := d9
  obtain ⟨d10, hds⟩ := List.forall_mem_cons.mp hds
  have d10 : v_iv (n_v vs 3) + (-4294967296) ≤ v_iv (n_v vs 8) ∧ v_iv (n_v vs 8) ≤ v_iv (n_v vs 3) + 2004 := d10
  obtain ⟨d11, hds⟩ := List.forall_mem_cons.mp hds
  have d11 : v_iv (n_v vs 7) + 0 ≤ v_iv (n_v vs 8) ∧ v_iv (n_v vs 8) ≤ v_iv (n_v vs 7) + 2 := d11
  obtain ⟨d12, hds⟩ := List.forall_mem_cons.mp hds
  have d12 : v_iv (n_v vs 3) + (-4294967296) ≤ v_iv (n_v vs 4) ∧ v_iv (n_v vs 4) ≤ v_iv (n_v vs 3) + (-1) := d12
  obtain ⟨d13, hds⟩ := List.forall_mem_cons.mp hds
  have d13 : v_iv (n_v vs 3) + (-4294967296) ≤ v_iv (n_v vs 2) ∧ v_iv (n_v vs 2) ≤ v_iv (n_v vs 3) + 4 := d13
  obtain ⟨d14, hds⟩ := List.forall_mem_cons.mp hds
  have d14 : v_iv (n_v vs 4) + (-4294967296) ≤ v_iv (n_v vs 2) ∧ v_iv (n_v vs 2) ≤ v_iv (n_v vs 4) + 0 := d14
  obtain ⟨d15, hds⟩ := List.forall_mem_cons.mp hds
  have d15 : v_iv (n_v vs 2) + (-4294967296) ≤ v_iv (n_v vs 3) ∧ v_iv (n_v vs 3) ≤ v_iv (n_v vs 2) + 3 := d15
  obtain ⟨d16, hds⟩ := List.forall_mem_cons.mp hds
  have d16 : v_iv (n_v vs 4) + (-4294967296) ≤ v_iv (n_v vs 3) ∧ v_iv (n_v vs 3) ≤ v_iv (n_v vs 4) + 3 := d16
  obtain ⟨d17, hds⟩ := List.forall_mem_cons.mp hds
  have d17 : v_iv (n_v vs 3) + (-4294967296) ≤ v_iv (n_v vs 4) ∧ v_iv (n_v vs 4) ≤ v_iv (n_v vs 3) + 4 := d17
  have hf : fc_ok [(6, [11, 4], [1]), (2, [9, 8, 2], []), (1, [8, 7, 4], []), (9, [7, 0], [7]), (7, [4, 3], [2]), (20, [0, 3, 2], [30, 2000, 1, 1, 7, 1, 0, 0, -1, 0, 0]), (20, [2, 4], [30, 0, 1, 0, 0, -1, 0, 0])] ta ws vs := hf
  obtain ⟨f0, hf⟩ := fc_un (show (6 : Nat) < 100 from by decide) hf
  have f0 : v_iv (n_v vs 11) = v_iv (n_v vs 4) + 1 := f0
  obtain ⟨f1, hf⟩ := fc_un (show (2 : Nat) < 100 from by decide) hf
  have f1 : v_iv (n_v vs 9) = v_iv (n_v vs 8) - v_iv (n_v vs 2) := f1
  obtain ⟨f2, hf⟩ := fc_un (show (1 : Nat) < 100 from by decide) hf
  have f2 : v_iv (n_v vs 8) = v_iv (n_v vs 7) + v_iv (n_v vs 4) := f2
  obtain ⟨f3, hf⟩ := fc_un (show (9 : Nat) < 100 from by decide) hf
  have f3 : n_v vs 7 = w_fd ws (v_ad (n_v vs 0)) 7 := f3
  obtain ⟨f4, hf⟩ := fc_un (show (7 : Nat) < 100 from by decide) hf
  have f4 : v_iv (n_v vs 4) < v_iv (n_v vs 3) := f4
  obtain ⟨f5, hf⟩ := fc_un (show (20 : Nat) < 100 from by decide) hf
  have f5 : 1 * w_fi ws (n_v vs 0) 7 + (1 * v_iv (n_v vs 3) + ((-1) * v_iv (n_v vs 2) + 0)) ≤ 2000 := f5
  obtain ⟨f6, hf⟩ := fc_un (show (20 : Nat) < 100 from by decide) hf
  have f6 : 1 * v_iv (n_v vs 2) + ((-1) * v_iv (n_v vs 4) + 0) ≤ 0 := f6
  have g3 : v_iv (n_v vs 7) = w_fi ws (n_v vs 0) 7 := congrArg v_iv f3
  have kz_0_7 : 0 ≤ w_fi ws (n_v vs 0) 7 ∧ w_fi ws (n_v vs 0) 7 ≤ 2000 := tv_rng (th_fd hD hth r0 (g := GG_11) rfl (k := 7) (t := (0, 0, 2000, [])) rfl rfl)
  have nf0 : fc_1 (20, [2, 11], [30, 0, 1, 0, 0, -1, 0, 0]) ws (vs) := by
    refine ⟨fun n hn => ?_, ?_⟩
    · have hn : n ∈ [2, 11] := hn
      rw [hl]
      simp only [List.mem_cons, List.not_mem_nil, or_false] at hn
      show n < 12; omega
    · show 1 * v_iv (n_v vs 2) + ((-1) * v_iv (n_v vs 11) + 0) ≤ 0
      omega
  refine ⟨(fun _ h => (by cases h)), [], trivial, ?_, (fun _ h => (by cases h))⟩
  rw [List.append_nil]
  exact List.forall_mem_cons.mpr ⟨⟨show (20 : Nat) < 100 from by decide, nf0⟩, (fun _ h => (by cases h))⟩
def n_Sy_isWordAt_at_s5009_an : List an_T := [(20, [(0, (2, 0, 0, [11])), (1, (2, 0, 0, [5009])), (2, (0, 0, 4, [])), (3, (0, 0, 3, [])), (4, (0, 0, 4, []))], [], (0, 0), [(0, 0, 99980), (1, 4, 4), (0, 0, 100000)], [(2, 3, -1000000000000, 4), (2, 4, -1000000000000, 0), (3, 2, -1000000000000, 3), (3, 4, -1000000000000, 3), (4, 3, -1000000000000, 4)], [((0, 3), (2, 0, 0, [109]))], [], 0, [], [(20, [0, 3, 2], [30, 2000, 1, 1, 7, 1, 0, 0, -1, 0, 0]), (20, [2, 4], [30, 0, 1, 0, 0, -1, 0, 0])])]
def t_Sy_isWordAt_at_s5009_ct : ct_L := [(91, 104, e_jStr_charAt_v161)]
set_option maxRecDepth 100000 in
theorem c_Sy_isWordAt_at_s5009 {l : Launch} {D : va_G} {kA : Nat → ClassId} : ct_ok l D kA GG y_Sy_isWordAt_at_s5009 z_Sy_isWordAt_at_s5009 e_Sy_isWordAt_at_s5009 := chk_all_ok (FT := [(21, 11, 3), (28, 11, 5), (34, 11, 7)]) (PT := []) (CT := t_Sy_isWordAt_at_s5009_ct) (KT := []) (NT := []) (AN := n_Sy_isWordAt_at_s5009_an) (OT := [o_Sy_isWordAt_at_s5009_0, o_Sy_isWordAt_at_s5009_1, o_Sy_isWordAt_at_s5009_2]) 3 200 (List.forall_mem_cons.mpr ⟨oo_Sy_isWordAt_at_s5009_0, List.forall_mem_cons.mpr ⟨oo_Sy_isWordAt_at_s5009_1, List.forall_mem_cons.mpr ⟨oo_Sy_isWordAt_at_s5009_2, List.forall_mem_nil _⟩⟩⟩) (by decide +kernel) ⟨List.forall_mem_cons.mpr ⟨gf_Sy_21, List.forall_mem_cons.mpr ⟨gf_Sy_28, List.forall_mem_cons.mpr ⟨gf_Sy_34, List.forall_mem_nil _⟩⟩⟩, List.forall_mem_nil _, List.forall_mem_cons.mpr ⟨cl_string (y := y_jStr_charAt) (i := 9) rfl rfl (by decide +kernel) rfl c_jStr_charAt_v161 wm_684 wm_11 wm_2231 wm_682 wm_683 ⟨by decide, by decide, by decide +kernel⟩ (by decide), List.forall_mem_nil _⟩, List.forall_mem_nil _, List.forall_mem_nil _, GG_pl⟩ (by decide +kernel)
def o_Sy_isWordAt_at_s5010_0 : or_T := (20, 9, [(0, (2, 0, 0, [11])), (2, (0, 0, 4, [])), (3, (0, 0, 3, [])), (5, (0, 0, 2000, [])), (6, (0, 0, 2000, [])), (7, (0, -4, 3, [])), (8, (0, -4, 3, []))], [(7, [7, 8], [0]), (2, [8, 3, 2], []), (2, [7, 5, 6], []), (9, [6, 0], [7]), (9, [5, 0], [5])], [], [], [(20, [0, 3, 2], [30, 2000, 1, 1, 7, 1, 0, 0, -1, 0, 0]), (20, [2, 2], [30, 0, 1, 0, 0, -1, 0, 0])], [], [(7, 8, 0, 0), (8, 3, -4, 0), (7, 5, -2000, 0)])
theorem oo_Sy_isWordAt_at_s5010_0 {kA : Nat → ClassId} : or_ok kA GG o_Sy_isWordAt_at_s5010_0 := by
  intro A ta ws vs hD hth hl hk hds hf
  have hl : vs.length = 9 := hl
  have hk : ∀ q ∈ ([(0, (2, 0, 0, [11])), (2, (0, 0, 4, [])), (3, (0, 0, 3, [])), (5, (0, 0, 2000, [])), (6, (0, 0, 2000, [])), (7, (0, -4, 3, [])), (8, (0, -4, 3, []))] : List (Nat × tv_T)), tv_ok ta q.2 (n_v vs q.1) := hk
  obtain ⟨t0, hk⟩ := List.forall_mem_cons.mp hk
  have t0 : tv_ok ta (2, 0, 0, [11]) (n_v vs 0) := t0
  have r0 : ta (v_ad (n_v vs 0)) = some 11 := tv_rg t0
  obtain ⟨t2, hk⟩ := List.forall_mem_cons.mp hk
  have t2 : tv_ok ta (0, 0, 4, []) (n_v vs 2) := t2
  have k2 : 0 ≤ v_iv (n_v vs 2) ∧ v_iv (n_v vs 2) ≤ 4 := tv_rng t2
  obtain ⟨t3, hk⟩ := List.forall_mem_cons.mp hk
  have t3 : tv_ok ta (0, 0, 3, []) (n_v vs 3) := t3
  have k3 : 0 ≤ v_iv (n_v vs 3) ∧ v_iv (n_v vs 3) ≤ 3 := tv_rng t3
  obtain ⟨t5, hk⟩ := List.forall_mem_cons.mp hk
  have t5 : tv_ok ta (0, 0, 2000, []) (n_v vs 5) := t5
  have k5 : 0 ≤ v_iv (n_v vs 5) ∧ v_iv (n_v vs 5) ≤ 2000 := tv_rng t5
  obtain ⟨t6, hk⟩ := List.forall_mem_cons.mp hk
  have t6 : tv_ok ta (0, 0, 2000, []) (n_v vs 6) := t6
  have k6 : 0 ≤ v_iv (n_v vs 6) ∧ v_iv (n_v vs 6) ≤ 2000 := tv_rng t6
  obtain ⟨t7, hk⟩ := List.forall_mem_cons.mp hk
  have t7 : tv_ok ta (0, -4, 3, []) (n_v vs 7) := t7
  have k7 : (-4) ≤ v_iv (n_v vs 7) ∧ v_iv (n_v vs 7) ≤ 3 := tv_rng t7
  obtain ⟨t8, hk⟩ := List.forall_mem_cons.mp hk
  have t8 : tv_ok ta (0, -4, 3, []) (n_v vs 8) := t8
  have k8 : (-4) ≤ v_iv (n_v vs 8) ∧ v_iv (n_v vs 8) ≤ 3 := tv_rng t8
  have hds : ∀ q ∈ ([(7, 8, 0, 0), (8, 3, -4, 0), (7, 5, -2000, 0)] : List of_T), n_iv vs q.2.1 + q.2.2.1 ≤ n_iv vs q.1 ∧ n_iv vs q.1 ≤ n_iv vs q.2.1 + q.2.2.2 := hds
  obtain ⟨d0, hds⟩ := List.forall_mem_cons.mp hds
  have d0 : v_iv (n_v vs 8) + 0 ≤ v_iv (n_v vs 7) ∧ v_iv (n_v vs 7) ≤ v_iv (n_v vs 8) + 0 := d0
  obtain ⟨d1, hds⟩ := List.forall_mem_cons.mp hds
  have d1 : v_iv (n_v vs 3) + (-4) ≤ v_iv (n_v vs 8) ∧ v_iv (n_v vs 8) ≤ v_iv (n_v vs 3) + 0 := d1
  obtain ⟨d2, hds⟩ := List.forall_mem_cons.mp hds
  have d2 : v_iv (n_v vs 5) + (-2000) ≤ v_iv (n_v vs 7) ∧ v_iv (n_v vs 7) ≤ v_iv (n_v vs 5) + 0 := d2
  have hf : fc_ok [(7, [7, 8], [0]), (2, [8, 3, 2], []), (2, [7, 5, 6], []), (9, [6, 0], [7]), (9, [5, 0], [5])] ta ws vs := hf
  obtain ⟨f0, hf⟩ := fc_un (show (7 : Nat) < 100 from by decide) hf
  have f0 : v_iv (n_v vs 7) = v_iv (n_v vs 8) := f0
  obtain ⟨f1, hf⟩ := fc_un (show (2 : Nat) < 100 from by decide) hf
  have f1 : v_iv (n_v vs 8) = v_iv (n_v vs 3) - v_iv (n_v vs 2) := f1
  obtain ⟨f2, hf⟩ := fc_un (show (2 : Nat) < 100 from by decide) hf
  have f2 : v_iv (n_v vs 7) = v_iv (n_v vs 5) - v_iv (n_v vs 6) := f2
  obtain ⟨f3, hf⟩ := fc_un (show (9 : Nat) < 100 from by decide) hf
  have f3 : n_v vs 6 = w_fd ws (v_ad (n_v vs 0)) 7 := f3
  obtain ⟨f4, hf⟩ := fc_un (show (9 : Nat) < 100 from by decide) hf
  have f4 : n_v vs 5 = w_fd ws (v_ad (n_v vs 0)) 5 := f4
  have g3 : v_iv (n_v vs 6) = w_fi ws (n_v vs 0) 7 := congrArg v_iv f3
  have g4 : v_iv (n_v vs 5) = w_fi ws (n_v vs 0) 5 := congrArg v_iv f4
  have kz_0_5 : 0 ≤ w_fi ws (n_v vs 0) 5 ∧ w_fi ws (n_v vs 0) 5 ≤ 2000 := tv_rng (th_fd hD hth r0 (g := GG_11) rfl (k := 5) (t := (0, 0, 2000, [])) rfl rfl)
  have kz_0_7 : 0 ≤ w_fi ws (n_v vs 0) 7 ∧ w_fi ws (n_v vs 0) 7 ≤ 2000 := tv_rng (th_fd hD hth r0 (g := GG_11) rfl (k := 7) (t := (0, 0, 2000, [])) rfl rfl)
  have nf0 : fc_1 (20, [0, 3, 2], [30, 2000, 1, 1, 7, 1, 0, 0, -1, 0, 0]) ws (vs) := by
    refine ⟨fun n hn => ?_, ?_⟩
    · have hn : n ∈ [0, 3, 2] := hn
      rw [hl]
      simp only [List.mem_cons, List.not_mem_nil, or_false] at hn
      show n < 9; omega
    · show 1 * w_fi ws (n_v vs 0) 7 + (1 * v_iv (n_v vs 3) + ((-1) * v_iv (n_v vs 2) + 0)) ≤ 2000
      omega
  have nf1 : fc_1 (20, [2, 2], [30, 0, 1, 0, 0, -1, 0, 0]) ws (vs) := by
    refine ⟨fun n hn => ?_, ?_⟩
    · have hn : n ∈ [2, 2] := hn
      rw [hl]
      simp only [List.mem_cons, List.not_mem_nil, or_false] at hn
      show n < 9; omega
    · show 1 * v_iv (n_v vs 2) + ((-1) * v_iv (n_v vs 2) + 0) ≤ 0
      omega
  refine ⟨(fun _ h => (by cases h)), [], trivial, ?_, (fun _ h => (by cases h))⟩
  rw [List.append_nil]
  exact List.forall_mem_cons.mpr ⟨⟨show (20 : Nat) < 100 from by decide, nf0⟩, List.forall_mem_cons.mpr ⟨⟨show (20 : Nat) < 100 from by decide, nf1⟩, (fun _ h => (by cases h))⟩⟩
def o_Sy_isWordAt_at_s5010_1 : or_T := (45, 10, [(0, (2, 0, 0, [11])), (2, (0, 0, 2, [])), (3, (0, 1, 3, [])), (4, (0, 0, 2, [])), (7, (0, 0, 2000, [])), (8, (0, 0, 2002, [])), (9, (0, -2, 2002, []))], [(2, [9, 8, 2], []), (1, [8, 7, 4], []), (9, [7, 0], [7]), (7, [4, 3], [2]), (20, [0, 3, 2], [30, 2000, 1, 1, 7, 1, 0, 0, -1, 0, 0]), (20, [2, 4], [30, 0, 1, 0, 0, -1, 0, 0])], [(9, (0, 0, 1999, []))], [], [], [], [(9, 8, -2, 0), (9, 4, -2, 2000), (9, 3, -4294967296, 1999), (9, 3, -4294967296, 2004), (9, 7, -2, 2), (8, 4, 0, 2000), (8, 3, -4294967296, 1999), (8, 3, -4294967296, 2004), (8, 7, 0, 2), (4, 3, -4294967296, -1), (2, 3, -4294967296, 4), (2, 4, -4294967296, 0), (3, 2, -4294967296, 3), (3, 4, -4294967296, 3), (4, 3, -4294967296, 4)])
theorem oo_Sy_isWordAt_at_s5010_1 {kA : Nat → ClassId} : or_ok kA GG o_Sy_isWordAt_at_s5010_1 := by
  intro A ta ws vs hD hth hl hk hds hf
  have hl : vs.length = 10 := hl
  have hk : ∀ q ∈ ([(0, (2, 0, 0, [11])), (2, (0, 0, 2, [])), (3, (0, 1, 3, [])), (4, (0, 0, 2, [])), (7, (0, 0, 2000, [])), (8, (0, 0, 2002, [])), (9, (0, -2, 2002, []))] : List (Nat × tv_T)), tv_ok ta q.2 (n_v vs q.1) := hk
  obtain ⟨t0, hk⟩ := List.forall_mem_cons.mp hk
  have t0 : tv_ok ta (2, 0, 0, [11]) (n_v vs 0) := t0
  have r0 : ta (v_ad (n_v vs 0)) = some 11 := tv_rg t0
  obtain ⟨t2, hk⟩ := List.forall_mem_cons.mp hk
  have t2 : tv_ok ta (0, 0, 2, []) (n_v vs 2) := t2
  have k2 : 0 ≤ v_iv (n_v vs 2) ∧ v_iv (n_v vs 2) ≤ 2 := tv_rng t2
  obtain ⟨t3, hk⟩ := List.forall_mem_cons.mp hk
  have t3 : tv_ok ta (0, 1, 3, []) (n_v vs 3) := t3
  have k3 : 1 ≤ v_iv (n_v vs 3) ∧ v_iv (n_v vs 3) ≤ 3 := tv_rng t3
  obtain ⟨t4, hk⟩ := List.forall_mem_cons.mp hk
  have t4 : tv_ok ta (0, 0, 2, []) (n_v vs 4) := t4
  have k4 : 0 ≤ v_iv (n_v vs 4) ∧ v_iv (n_v vs 4) ≤ 2 := tv_rng t4
  obtain ⟨t7, hk⟩ := List.forall_mem_cons.mp hk
  have t7 : tv_ok ta (0, 0, 2000, []) (n_v vs 7) := t7
  have k7 : 0 ≤ v_iv (n_v vs 7) ∧ v_iv (n_v vs 7) ≤ 2000 := tv_rng t7
  obtain ⟨t8, hk⟩ := List.forall_mem_cons.mp hk
  have t8 : tv_ok ta (0, 0, 2002, []) (n_v vs 8) := t8
  have k8 : 0 ≤ v_iv (n_v vs 8) ∧ v_iv (n_v vs 8) ≤ 2002 := tv_rng t8
  obtain ⟨t9, hk⟩ := List.forall_mem_cons.mp hk
  have t9 : tv_ok ta (0, -2, 2002, []) (n_v vs 9) := t9
  have k9 : (-2) ≤ v_iv (n_v vs 9) ∧ v_iv (n_v vs 9) ≤ 2002 := tv_rng t9
  have hds : ∀ q ∈ ([(9, 8, -2, 0), (9, 4, -2, 2000), (9, 3, -4294967296, 1999), (9, 3, -4294967296, 2004), (9, 7, -2, 2), (8, 4, 0, 2000), (8, 3, -4294967296, 1999), (8, 3, -4294967296, 2004), (8, 7, 0, 2), (4, 3, -4294967296, -1), (2, 3, -4294967296, 4), (2, 4, -4294967296, 0), (3, 2, -4294967296, 3), (3, 4, -4294967296, 3), (4, 3, -4294967296, 4)] : List of_T), n_iv vs q.2.1 + q.2.2.1 ≤ n_iv vs q.1 ∧ n_iv vs q.1 ≤ n_iv vs q.2.1 + q.2.2.2 := hds
  obtain ⟨d0, hds⟩ := List.forall_mem_cons.mp hds
  have d0 : v_iv (n_v vs 8) + (-2) ≤ v_iv (n_v vs 9) ∧ v_iv (n_v vs 9) ≤ v_iv (n_v vs 8) + 0 := d0
  obtain ⟨d1, hds⟩ := List.forall_mem_cons.mp hds
  have d1 : v_iv (n_v vs 4) + (-2) ≤ v_iv (n_v vs 9) ∧ v_iv (n_v vs 9) ≤ v_iv (n_v vs 4) + 2000 := d1
  obtain ⟨d2, hds⟩ := List.forall_mem_cons.mp hds
  have d2 : v_iv (n_v vs 3) + (-4294967296) ≤ v_iv (n_v vs 9) ∧ v_iv (n_v vs 9) ≤ v_iv (n_v vs 3) + 1999 := d2
  obtain ⟨d3, hds⟩ := List.forall_mem_cons.mp hds
  have d3 : v_iv (n_v vs 3) + (-4294967296) ≤ v_iv (n_v vs 9) ∧ v_iv (n_v vs 9) ≤ v_iv (n_v vs 3) + 2004 := d3
  obtain ⟨d4, hds⟩ := List.forall_mem_cons.mp hds
  have d4 : v_iv (n_v vs 7) + (-2) ≤ v_iv (n_v vs 9) ∧ v_iv (n_v vs 9) ≤ v_iv (n_v vs 7) + 2 := d4
  obtain ⟨d5, hds⟩ := List.forall_mem_cons.mp hds
  have d5 : v_iv (n_v vs 4) + 0 ≤ v_iv (n_v vs 8) ∧ v_iv (n_v vs 8) ≤ v_iv (n_v vs 4) + 2000 := d5
  obtain ⟨d6, hds⟩ := List.forall_mem_cons.mp hds
  have d6 : v_iv (n_v vs 3) + (-4294967296) ≤ v_iv (n_v vs 8) ∧ v_iv (n_v vs 8) ≤ v_iv (n_v vs 3) + 1999 := d6
  obtain ⟨d7, hds⟩ := List.forall_mem_cons.mp hds
  have d7 : v_iv (n_v vs 3) + (-4294967296) ≤ v_iv (n_v vs 8) ∧ v_iv (n_v vs 8) ≤ v_iv (n_v vs 3) + 2004 := d7
  obtain ⟨d8, hds⟩ := List.forall_mem_cons.mp hds
  have d8 : v_iv (n_v vs 7) + 0 ≤ v_iv (n_v vs 8) ∧ v_iv (n_v vs 8) ≤ v_iv (n_v vs 7) + 2 := d8
  obtain ⟨d9, hds⟩ := List.forall_mem_cons.mp hds
  have d9 : v_iv (n_v vs 3) + (-4294967296) ≤ v_iv (n_v vs 4) ∧ v_iv (n_v vs 4) ≤ v_iv (n_v vs 3) + (-1) := d9
  obtain ⟨d10, hds⟩ := List.forall_mem_cons.mp hds
  have d10 : v_iv (n_v vs 3) + (-4294967296) ≤ v_iv (n_v vs 2) ∧ v_iv (n_v vs 2) ≤ v_iv (n_v vs 3) + 4 := d10
  obtain ⟨d11, hds⟩ := List.forall_mem_cons.mp hds
  have d11 : v_iv (n_v vs 4) + (-4294967296) ≤ v_iv (n_v vs 2) ∧ v_iv (n_v vs 2) ≤ v_iv (n_v vs 4) + 0 := d11
  obtain ⟨d12, hds⟩ := List.forall_mem_cons.mp hds
  have d12 : v_iv (n_v vs 2) + (-4294967296) ≤ v_iv (n_v vs 3) ∧ v_iv (n_v vs 3) ≤ v_iv (n_v vs 2) + 3 := d12
  obtain ⟨d13, hds⟩ := List.forall_mem_cons.mp hds
  have d13 : v_iv (n_v vs 4) + (-4294967296) ≤ v_iv (n_v vs 3) ∧ v_iv (n_v vs 3) ≤ v_iv (n_v vs 4) + 3 := d13
  obtain ⟨d14, hds⟩ := List.forall_mem_cons.mp hds
  have d14 : v_iv (n_v vs 3) + (-4294967296) ≤ v_iv (n_v vs 4) ∧ v_iv (n_v vs 4) ≤ v_iv (n_v vs 3) + 4 := d14
  have hf : fc_ok [(2, [9, 8, 2], []), (1, [8, 7, 4], []), (9, [7, 0], [7]), (7, [4, 3], [2]), (20, [0, 3, 2], [30, 2000, 1, 1, 7, 1, 0, 0, -1, 0, 0]), (20, [2, 4], [30, 0, 1, 0, 0, -1, 0, 0])] ta ws vs := hf
  obtain ⟨f0, hf⟩ := fc_un (show (2 : Nat) < 100 from by decide) hf
  have f0 : v_iv (n_v vs 9) = v_iv (n_v vs 8) - v_iv (n_v vs 2) := f0
  obtain ⟨f1, hf⟩ := fc_un (show (1 : Nat) < 100 from by decide) hf
  have f1 : v_iv (n_v vs 8) = v_iv (n_v vs 7) + v_iv (n_v vs 4) := f1
  obtain ⟨f2, hf⟩ := fc_un (show (9 : Nat) < 100 from by decide) hf
  have f2 : n_v vs 7 = w_fd ws (v_ad (n_v vs 0)) 7 := f2
  obtain ⟨f3, hf⟩ := fc_un (show (7 : Nat) < 100 from by decide) hf
  have f3 : v_iv (n_v vs 4) < v_iv (n_v vs 3) := f3
  obtain ⟨f4, hf⟩ := fc_un (show (20 : Nat) < 100 from by decide) hf
  have f4 : 1 * w_fi ws (n_v vs 0) 7 + (1 * v_iv (n_v vs 3) + ((-1) * v_iv (n_v vs 2) + 0)) ≤ 2000 := f4
  obtain ⟨f5, hf⟩ := fc_un (show (20 : Nat) < 100 from by decide) hf
  have f5 : 1 * v_iv (n_v vs 2) + ((-1) * v_iv (n_v vs 4) + 0) ≤ 0 := f5
  have g2 : v_iv (n_v vs 7) = w_fi ws (n_v vs 0) 7 := congrArg v_iv f2
  have kz_0_7 : 0 ≤ w_fi ws (n_v vs 0) 7 ∧ w_fi ws (n_v vs 0) 7 ≤ 2000 := tv_rng (th_fd hD hth r0 (g := GG_11) rfl (k := 7) (t := (0, 0, 2000, [])) rfl rfl)
  have rf9 : tv_ok ta (0, 0, 1999, []) (n_v vs 9) := tv_in t9 (by omega) (by omega)
  refine ⟨List.forall_mem_cons.mpr ⟨rf9, (fun _ h => (by cases h))⟩, [], trivial, ?_, (fun _ h => (by cases h))⟩
  rw [List.append_nil]
  exact (fun _ h => (by cases h))
def o_Sy_isWordAt_at_s5010_2 : or_T := (20, 12, [(0, (2, 0, 0, [11])), (2, (0, 0, 2, [])), (3, (0, 1, 3, [])), (4, (0, 0, 2, [])), (7, (0, 0, 2000, [])), (8, (0, 0, 2002, [])), (9, (0, 0, 1999, [])), (11, (0, 1, 3, []))], [(6, [11, 4], [1]), (2, [9, 8, 2], []), (1, [8, 7, 4], []), (9, [7, 0], [7]), (7, [4, 3], [2]), (20, [0, 3, 2], [30, 2000, 1, 1, 7, 1, 0, 0, -1, 0, 0]), (20, [2, 4], [30, 0, 1, 0, 0, -1, 0, 0])], [], [], [(20, [2, 11], [30, 0, 1, 0, 0, -1, 0, 0])], [], [(11, 4, 1, 1), (11, 3, -4294967296, 0), (11, 3, -4294967296, 5), (9, 8, -2, 0), (9, 4, -2, 2000), (9, 3, -4294967296, 1999), (9, 3, -4294967296, 2004), (9, 7, -2, 2), (8, 4, 0, 2000), (8, 3, -4294967296, 1999), (8, 3, -4294967296, 2004), (8, 7, 0, 2), (4, 3, -4294967296, -1), (2, 3, -4294967296, 4), (2, 4, -4294967296, 0), (3, 2, -4294967296, 3), (3, 4, -4294967296, 3), (4, 3, -4294967296, 4)])
theorem oo_Sy_isWordAt_at_s5010_2 {kA : Nat → ClassId} : or_ok kA GG o_Sy_isWordAt_at_s5010_2 := by
  intro A ta ws vs hD hth hl hk hds hf
  have hl : vs.length = 12 := hl
  have hk : ∀ q ∈ ([(0, (2, 0, 0, [11])), (2, (0, 0, 2, [])), (3, (0, 1, 3, [])), (4, (0, 0, 2, [])), (7, (0, 0, 2000, [])), (8, (0, 0, 2002, [])), (9, (0, 0, 1999, [])), (11, (0, 1, 3, []))] : List (Nat × tv_T)), tv_ok ta q.2 (n_v vs q.1) := hk
  obtain ⟨t0, hk⟩ := List.forall_mem_cons.mp hk
  have t0 : tv_ok ta (2, 0, 0, [11]) (n_v vs 0) := t0
  have r0 : ta (v_ad (n_v vs 0)) = some 11 := tv_rg t0
  obtain ⟨t2, hk⟩ := List.forall_mem_cons.mp hk
  have t2 : tv_ok ta (0, 0, 2, []) (n_v vs 2) := t2
  have k2 : 0 ≤ v_iv (n_v vs 2) ∧ v_iv (n_v vs 2) ≤ 2 := tv_rng t2
  obtain ⟨t3, hk⟩ := List.forall_mem_cons.mp hk
  have t3 : tv_ok ta (0, 1, 3, []) (n_v vs 3) := t3
  have k3 : 1 ≤ v_iv (n_v vs 3) ∧ v_iv (n_v vs 3) ≤ 3 := tv_rng t3
  obtain ⟨t4, hk⟩ := List.forall_mem_cons.mp hk
  have t4 : tv_ok ta (0, 0, 2, []) (n_v vs 4) := t4
  have k4 : 0 ≤ v_iv (n_v vs 4) ∧ v_iv (n_v vs 4) ≤ 2 := tv_rng t4
  obtain ⟨t7, hk⟩ := List.forall_mem_cons.mp hk
  have t7 : tv_ok ta (0, 0, 2000, []) (n_v vs 7) := t7
  have k7 : 0 ≤ v_iv (n_v vs 7) ∧ v_iv (n_v vs 7) ≤ 2000 := tv_rng t7
  obtain ⟨t8, hk⟩ := List.forall_mem_cons.mp hk
  have t8 : tv_ok ta (0, 0, 2002, []) (n_v vs 8) := t8
  have k8 : 0 ≤ v_iv (n_v vs 8) ∧ v_iv (n_v vs 8) ≤ 2002 := tv_rng t8
  obtain ⟨t9, hk⟩ := List.forall_mem_cons.mp hk
  have t9 : tv_ok ta (0, 0, 1999, []) (n_v vs 9) := t9
  have k9 : 0 ≤ v_iv (n_v vs 9) ∧ v_iv (n_v vs 9) ≤ 1999 := tv_rng t9
  obtain ⟨t11, hk⟩ := List.forall_mem_cons.mp hk
  have t11 : tv_ok ta (0, 1, 3, []) (n_v vs 11) := t11
  have k11 : 1 ≤ v_iv (n_v vs 11) ∧ v_iv (n_v vs 11) ≤ 3 := tv_rng t11
  have hds : ∀ q ∈ ([(11, 4, 1, 1), (11, 3, -4294967296, 0), (11, 3, -4294967296, 5), (9, 8, -2, 0), (9, 4, -2, 2000), (9, 3, -4294967296, 1999), (9, 3, -4294967296, 2004), (9, 7, -2, 2), (8, 4, 0, 2000), (8, 3, -4294967296, 1999), (8, 3, -4294967296, 2004), (8, 7, 0, 2), (4, 3, -4294967296, -1), (2, 3, -4294967296, 4), (2, 4, -4294967296, 0), (3, 2, -4294967296, 3), (3, 4, -4294967296, 3), (4, 3, -4294967296, 4)] : List of_T), n_iv vs q.2.1 + q.2.2.1 ≤ n_iv vs q.1 ∧ n_iv vs q.1 ≤ n_iv vs q.2.1 + q.2.2.2 := hds
  obtain ⟨d0, hds⟩ := List.forall_mem_cons.mp hds
  have d0 : v_iv (n_v vs 4) + 1 ≤ v_iv (n_v vs 11) ∧ v_iv (n_v vs 11) ≤ v_iv (n_v vs 4) + 1 := d0
  obtain ⟨d1, hds⟩ := List.forall_mem_cons.mp hds
  have d1 : v_iv (n_v vs 3) + (-4294967296) ≤ v_iv (n_v vs 11) ∧ v_iv (n_v vs 11) ≤ v_iv (n_v vs 3) + 0 := d1
  obtain ⟨d2, hds⟩ := List.forall_mem_cons.mp hds
  have d2 : v_iv (n_v vs 3) + (-4294967296) ≤ v_iv (n_v vs 11) ∧ v_iv (n_v vs 11) ≤ v_iv (n_v vs 3) + 5 := d2
  obtain ⟨d3, hds⟩ := List.forall_mem_cons.mp hds
  have d3 : v_iv (n_v vs 8) + (-2) ≤ v_iv (n_v vs 9) ∧ v_iv (n_v vs 9) ≤ v_iv (n_v vs 8) + 0 := d3
  obtain ⟨d4, hds⟩ := List.forall_mem_cons.mp hds
  have d4 : v_iv (n_v vs 4) + (-2) ≤ v_iv (n_v vs 9) ∧ v_iv (n_v vs 9) ≤ v_iv (n_v vs 4) + 2000 := d4
  obtain ⟨d5, hds⟩ := List.forall_mem_cons.mp hds
  have d5 : v_iv (n_v vs 3) + (-4294967296) ≤ v_iv (n_v vs 9) ∧ v_iv (n_v vs 9) ≤ v_iv (n_v vs 3) + 1999 := d5
  obtain ⟨d6, hds⟩ := List.forall_mem_cons.mp hds
  have d6 : v_iv (n_v vs 3) + (-4294967296) ≤ v_iv (n_v vs 9) ∧ v_iv (n_v vs 9) ≤ v_iv (n_v vs 3) + 2004 := d6
  obtain ⟨d7, hds⟩ := List.forall_mem_cons.mp hds
  have d7 : v_iv (n_v vs 7) + (-2) ≤ v_iv (n_v vs 9) ∧ v_iv (n_v vs 9) ≤ v_iv (n_v vs 7) + 2 := d7
  obtain ⟨d8, hds⟩ := List.forall_mem_cons.mp hds
  have d8 : v_iv (n_v vs 4) + 0 ≤ v_iv (n_v vs 8) ∧ v_iv (n_v vs 8) ≤ v_iv (n_v vs 4) + 2000 := d8
  obtain ⟨d9, hds⟩ := List.forall_mem_cons.mp hds
  have d9 : v_iv (n_v vs 3) + (-4294967296) ≤ v_iv (n_v vs 8) ∧ v_iv (n_v vs 8) ≤ v_iv (n_v vs 3) + 1999 := d9
  obtain ⟨d10, hds⟩ := List.forall_mem_cons.mp hds
  have d10 : v_iv (n_v vs 3) + (-4294967296) ≤ v_iv (n_v vs 8) ∧ v_iv (n_v vs 8) ≤ v_iv (n_v vs 3) + 2004 := d10
  obtain ⟨d11, hds⟩ := List.forall_mem_cons.mp hds
  have d11 : v_iv (n_v vs 7) + 0 ≤ v_iv (n_v vs 8) ∧ v_iv (n_v vs 8) ≤ v_iv (n_v vs 7) + 2 := d11
  obtain ⟨d12, hds⟩ := List.forall_mem_cons.mp hds
  have d12 : v_iv (n_v vs 3) + (-4294967296) ≤ v_iv (n_v vs 4) ∧ v_iv (n_v vs 4) ≤ v_iv (n_v vs 3) + (-1) := d12
  obtain ⟨d13, hds⟩ := List.forall_mem_cons.mp hds
  have d13 : v_iv (n_v vs 3) + (-4294967296) ≤ v_iv (n_v vs 2) ∧ v_iv (n_v vs 2) ≤ v_iv (n_v vs 3) + 4 := d13
  obtain ⟨d14, hds⟩ := List.forall_mem_cons.mp hds
  have d14 : v_iv (n_v vs 4) + (-4294967296) ≤ v_iv (n_v vs 2) ∧ v_iv (n_v vs 2) ≤ v_iv (n_v vs 4) + 0 := d14
  obtain ⟨d15, hds⟩ := List.forall_mem_cons.mp hds
  have d15 : v_iv (n_v vs 2) + (-4294967296) ≤ v_iv (n_v vs 3) ∧ v_iv (n_v vs 3) ≤ v_iv (n_v vs 2) + 3 := d15
  obtain ⟨d16, hds⟩ := List.forall_mem_cons.mp hds
  have d16 : v_iv (n_v vs 4) + (-4294967296) ≤ v_iv (n_v vs 3) ∧ v_iv (n_v vs 3) ≤ v_iv (n_v vs 4) + 3 := d16
  obtain ⟨d17, hds⟩ := List.forall_mem_cons.mp hds
  have d17 : v_iv (n_v vs 3) + (-4294967296) ≤ v_iv (n_v vs 4) ∧ v_iv (n_v vs 4) ≤ v_iv (n_v vs 3) + 4 := d17
  have hf : fc_ok [(6, [11, 4], [1]), (2, [9, 8, 2], []), (1, [8, 7, 4], []), (9, [7, 0], [7]), (7, [4, 3], [2]), (20, [0, 3, 2], [30, 2000, 1, 1, 7, 1, 0, 0, -1, 0, 0]), (20, [2, 4], [30, 0, 1, 0, 0, -1, 0, 0])] ta ws vs := hf
  obtain ⟨f0, hf⟩ := fc_un (show (6 : Nat) < 100 from by decide) hf
  have f0 : v_iv (n_v vs 11) = v_iv (n_v vs 4) + 1 := f0
  obtain ⟨f1, hf⟩ := fc_un (show (2 : Nat) < 100 from by decide) hf
  have f1 : v_iv (n_v vs 9) = v_iv (n_v vs 8) - v_iv (n_v vs 2) := f1
  obtain ⟨f2, hf⟩ := fc_un (show (1 : Nat) < 100 from by decide) hf
  have f2 : v_iv (n_v vs 8) = v_iv (n_v vs 7) + v_iv (n_v vs 4) := f2
  obtain ⟨f3, hf⟩ := fc_un (show (9 : Nat) < 100 from by decide) hf
  have f3 : n_v vs 7 = w_fd ws (v_ad (n_v vs 0)) 7 := f3
  obtain ⟨f4, hf⟩ := fc_un (show (7 : Nat) < 100 from by decide) hf
  have f4 : v_iv (n_v vs 4) < v_iv (n_v vs 3) := f4
  obtain ⟨f5, hf⟩ := fc_un (show (20 : Nat) < 100 from by decide) hf
  have f5 : 1 * w_fi ws (n_v vs 0) 7 + (1 * v_iv (n_v vs 3) + ((-1) * v_iv (n_v vs 2) + 0)) ≤ 2000 := f5
  obtain ⟨f6, hf⟩ := fc_un (show (20 : Nat) < 100 from by decide) hf
  have f6 : 1 * v_iv (n_v vs 2) + ((-1) * v_iv (n_v vs 4) + 0) ≤ 0 := f6
  have g3 : v_iv (n_v vs 7) = w_fi ws (n_v vs 0) 7 := congrArg v_iv f3
  have kz_0_7 : 0 ≤ w_fi ws (n_v vs 0) 7 ∧ w_fi ws (n_v vs 0) 7 ≤ 2000 := tv_rng (th_fd hD hth r0 (g := GG_11) rfl (k := 7) (t := (0, 0, 2000, [])) rfl rfl)
  have nf0 : fc_1 (20, [2, 11], [30, 0, 1, 0, 0, -1, 0, 0]) ws (vs) := by
    refine ⟨fun n hn => ?_, ?_⟩
    · have hn : n ∈ [2, 11] := hn
      rw [hl]
      simp only [List.mem_cons, List.not_mem_nil, or_false] at hn
      show n < 12; omega
    · show 1 * v_iv (n_v vs 2) + ((-1) * v_iv (n_v vs 11) + 0) ≤ 0
      omega
  refine ⟨(fun _ h => (by cases h)), [], trivial, ?_, (fun _ h => (by cases h))⟩
  rw [List.append_nil]
  exact List.forall_mem_cons.mpr ⟨⟨show (20 : Nat) < 100 from by decide, nf0⟩, (fun _ h => (by cases h))⟩
def n_Sy_isWordAt_at_s5010_an : List an_T := [(20, [(0, (2, 0, 0, [11])), (1, (2, 0, 0, [5010])), (2, (0, 0, 4, [])), (3, (0, 0, 3, [])), (4, (0, 0, 4, []))], [], (0, 0), [(0, 0, 99980), (1, 4, 4), (0, 0, 100000)], [(2, 3, -1000000000000, 4), (2, 4, -1000000000000, 0), (3, 2, -1000000000000, 3), (3, 4, -1000000000000, 3), (4, 3, -1000000000000, 4)], [((0, 3), (2, 0, 0, [109]))], [], 0, [], [(20, [0, 3, 2], [30, 2000, 1, 1, 7, 1, 0, 0, -1, 0, 0]), (20, [2, 4], [30, 0, 1, 0, 0, -1, 0, 0])])]
def t_Sy_isWordAt_at_s5010_ct : ct_L := [(91, 104, e_jStr_charAt_v165)]
set_option maxRecDepth 100000 in
theorem c_Sy_isWordAt_at_s5010 {l : Launch} {D : va_G} {kA : Nat → ClassId} : ct_ok l D kA GG y_Sy_isWordAt_at_s5010 z_Sy_isWordAt_at_s5010 e_Sy_isWordAt_at_s5010 := chk_all_ok (FT := [(21, 11, 3), (28, 11, 5), (34, 11, 7)]) (PT := []) (CT := t_Sy_isWordAt_at_s5010_ct) (KT := []) (NT := []) (AN := n_Sy_isWordAt_at_s5010_an) (OT := [o_Sy_isWordAt_at_s5010_0, o_Sy_isWordAt_at_s5010_1, o_Sy_isWordAt_at_s5010_2]) 3 200 (List.forall_mem_cons.mpr ⟨oo_Sy_isWordAt_at_s5010_0, List.forall_mem_cons.mpr ⟨oo_Sy_isWordAt_at_s5010_1, List.forall_mem_cons.mpr ⟨oo_Sy_isWordAt_at_s5010_2, List.forall_mem_nil _⟩⟩⟩) (by decide +kernel) ⟨List.forall_mem_cons.mpr ⟨gf_Sy_21, List.forall_mem_cons.mpr ⟨gf_Sy_28, List.forall_mem_cons.mpr ⟨gf_Sy_34, List.forall_mem_nil _⟩⟩⟩, List.forall_mem_nil _, List.forall_mem_cons.mpr ⟨cl_string (y := y_jStr_charAt) (i := 10) rfl rfl (by decide +kernel) rfl c_jStr_charAt_v165 wm_684 wm_11 wm_2231 wm_682 wm_683 ⟨by decide, by decide, by decide +kernel⟩ (by decide), List.forall_mem_nil _⟩, List.forall_mem_nil _, List.forall_mem_nil _, GG_pl⟩ (by decide +kernel)
def o_Sy_isWordAt_at_s5011_0 : or_T := (20, 9, [(0, (2, 0, 0, [11])), (2, (0, 0, 3, [])), (3, (0, 0, 2, [])), (5, (0, 0, 2000, [])), (6, (0, 0, 2000, [])), (7, (0, -3, 2, [])), (8, (0, -3, 2, []))], [(7, [7, 8], [0]), (2, [8, 3, 2], []), (2, [7, 5, 6], []), (9, [6, 0], [7]), (9, [5, 0], [5])], [], [], [(20, [0, 3, 2], [30, 2000, 1, 1, 7, 1, 0, 0, -1, 0, 0]), (20, [2, 2], [30, 0, 1, 0, 0, -1, 0, 0])], [], [(7, 8, 0, 0), (8, 3, -3, 0), (7, 5, -2000, 0)])
theorem oo_Sy_isWordAt_at_s5011_0 {kA : Nat → ClassId} : or_ok kA GG o_Sy_isWordAt_at_s5011_0 := by
  intro A ta ws vs hD hth hl hk hds hf
  have hl : vs.length = 9 := hl
  have hk : ∀ q ∈ ([(0, (2, 0, 0, [11])), (2, (0, 0, 3, [])), (3, (0, 0, 2, [])), (5, (0, 0, 2000, [])), (6, (0, 0, 2000, [])), (7, (0, -3, 2, [])), (8, (0, -3, 2, []))] : List (Nat × tv_T)), tv_ok ta q.2 (n_v vs q.1) := hk
  obtain ⟨t0, hk⟩ := List.forall_mem_cons.mp hk
  have t0 : tv_ok ta (2, 0, 0, [11]) (n_v vs 0) := t0
  have r0 : ta (v_ad (n_v vs 0)) = some 11 := tv_rg t0
  obtain ⟨t2, hk⟩ := List.forall_mem_cons.mp hk
  have t2 : tv_ok ta (0, 0, 3, []) (n_v vs 2) := t2
  have k2 : 0 ≤ v_iv (n_v vs 2) ∧ v_iv (n_v vs 2) ≤ 3 := tv_rng t2
  obtain ⟨t3, hk⟩ := List.forall_mem_cons.mp hk
  have t3 : tv_ok ta (0, 0, 2, []) (n_v vs 3) := t3
  have k3 : 0 ≤ v_iv (n_v vs 3) ∧ v_iv (n_v vs 3) ≤ 2 := tv_rng t3
  obtain ⟨t5, hk⟩ := List.forall_mem_cons.mp hk
  have t5 : tv_ok ta (0, 0, 2000, []) (n_v vs 5) := t5
  have k5 : 0 ≤ v_iv (n_v vs 5) ∧ v_iv (n_v vs 5) ≤ 2000 := tv_rng t5
  obtain ⟨t6, hk⟩ := List.forall_mem_cons.mp hk
  have t6 : tv_ok ta (0, 0, 2000, []) (n_v vs 6) := t6
  have k6 : 0 ≤ v_iv (n_v vs 6) ∧ v_iv (n_v vs 6) ≤ 2000 := tv_rng t6
  obtain ⟨t7, hk⟩ := List.forall_mem_cons.mp hk
  have t7 : tv_ok ta (0, -3, 2, []) (n_v vs 7) := t7
  have k7 : (-3) ≤ v_iv (n_v vs 7) ∧ v_iv (n_v vs 7) ≤ 2 := tv_rng t7
  obtain ⟨t8, hk⟩ := List.forall_mem_cons.mp hk
  have t8 : tv_ok ta (0, -3, 2, []) (n_v vs 8) := t8
  have k8 : (-3) ≤ v_iv (n_v vs 8) ∧ v_iv (n_v vs 8) ≤ 2 := tv_rng t8
  have hds : ∀ q ∈ ([(7, 8, 0, 0), (8, 3, -3, 0), (7, 5, -2000, 0)] : List of_T), n_iv vs q.2.1 + q.2.2.1 ≤ n_iv vs q.1 ∧ n_iv vs q.1 ≤ n_iv vs q.2.1 + q.2.2.2 := hds
  obtain ⟨d0, hds⟩ := List.forall_mem_cons.mp hds
  have d0 : v_iv (n_v vs 8) + 0 ≤ v_iv (n_v vs 7) ∧ v_iv (n_v vs 7) ≤ v_iv (n_v vs 8) + 0 := d0
  obtain ⟨d1, hds⟩ := List.forall_mem_cons.mp hds
  have d1 : v_iv (n_v vs 3) + (-3) ≤ v_iv (n_v vs 8) ∧ v_iv (n_v vs 8) ≤ v_iv (n_v vs 3) + 0 := d1
  obtain ⟨d2, hds⟩ := List.forall_mem_cons.mp hds
  have d2 : v_iv (n_v vs 5) + (-2000) ≤ v_iv (n_v vs 7) ∧ v_iv (n_v vs 7) ≤ v_iv (n_v vs 5) + 0 := d2
  have hf : fc_ok [(7, [7, 8], [0]), (2, [8, 3, 2], []), (2, [7, 5, 6], []), (9, [6, 0], [7]), (9, [5, 0], [5])] ta ws vs := hf
  obtain ⟨f0, hf⟩ := fc_un (show (7 : Nat) < 100 from by decide) hf
  have f0 : v_iv (n_v vs 7) = v_iv (n_v vs 8) := f0
  obtain ⟨f1, hf⟩ := fc_un (show (2 : Nat) < 100 from by decide) hf
  have f1 : v_iv (n_v vs 8) = v_iv (n_v vs 3) - v_iv (n_v vs 2) := f1
  obtain ⟨f2, hf⟩ := fc_un (show (2 : Nat) < 100 from by decide) hf
  have f2 : v_iv (n_v vs 7) = v_iv (n_v vs 5) - v_iv (n_v vs 6) := f2
  obtain ⟨f3, hf⟩ := fc_un (show (9 : Nat) < 100 from by decide) hf
  have f3 : n_v vs 6 = w_fd ws (v_ad (n_v vs 0)) 7 := f3
  obtain ⟨f4, hf⟩ := fc_un (show (9 : Nat) < 100 from by decide) hf
  have f4 : n_v vs 5 = w_fd ws (v_ad (n_v vs 0)) 5 := f4
  have g3 : v_iv (n_v vs 6) = w_fi ws (n_v vs 0) 7 := congrArg v_iv f3
  have g4 : v_iv (n_v vs 5) = w_fi ws (n_v vs 0) 5 := congrArg v_iv f4
  have kz_0_5 : 0 ≤ w_fi ws (n_v vs 0) 5 ∧ w_fi ws (n_v vs 0) 5 ≤ 2000 := tv_rng (th_fd hD hth r0 (g := GG_11) rfl (k := 5) (t := (0, 0, 2000, [])) rfl rfl)
  have kz_0_7 : 0 ≤ w_fi ws (n_v vs 0) 7 ∧ w_fi ws (n_v vs 0) 7 ≤ 2000 := tv_rng (th_fd hD hth r0 (g := GG_11) rfl (k := 7) (t := (0, 0, 2000, [])) rfl rfl)
  have nf0 : fc_1 (20, [0, 3, 2], [30, 2000, 1, 1, 7, 1, 0, 0, -1, 0, 0]) ws (vs) := by
    refine ⟨fun n hn => ?_, ?_⟩
    · have hn : n ∈ [0, 3, 2] := hn
      rw [hl]
      simp only [List.mem_cons, List.not_mem_nil, or_false] at hn
      show n < 9; omega
    · show 1 * w_fi ws (n_v vs 0) 7 + (1 * v_iv (n_v vs 3) + ((-1) * v_iv (n_v vs 2) + 0)) ≤ 2000
      omega
  have nf1 : fc_1 (20, [2, 2], [30, 0, 1, 0, 0, -1, 0, 0]) ws (vs) := by
    refine ⟨fun n hn => ?_, ?_⟩
    · have hn : n ∈ [2, 2] := hn
      rw [hl]
      simp only [List.mem_cons, List.not_mem_nil, or_false] at hn
      show n < 9; omega
    · show 1 * v_iv (n_v vs 2) + ((-1) * v_iv (n_v vs 2) + 0) ≤ 0
      omega
  refine ⟨(fun _ h => (by cases h)), [], trivial, ?_, (fun _ h => (by cases h))⟩
  rw [List.append_nil]
  exact List.forall_mem_cons.mpr ⟨⟨show (20 : Nat) < 100 from by decide, nf0⟩, List.forall_mem_cons.mpr ⟨⟨show (20 : Nat) < 100 from by decide, nf1⟩, (fun _ h => (by cases h))⟩⟩
def o_Sy_isWordAt_at_s5011_1 : or_T := (45, 10, [(0, (2, 0, 0, [11])), (2, (0, 0, 1, [])), (3, (0, 1, 2, [])), (4, (0, 0, 1, [])), (7, (0, 0, 2000, [])), (8, (0, 0, 2001, [])), (9, (0, -1, 2001, []))], [(2, [9, 8, 2], []), (1, [8, 7, 4], []), (9, [7, 0], [7]), (7, [4, 3], [2]), (20, [0, 3, 2], [30, 2000, 1, 1, 7, 1, 0, 0, -1, 0, 0]), (20, [2, 4], [30, 0, 1, 0, 0, -1, 0, 0])], [(9, (0, 0, 1999, []))], [], [], [], [(9, 8, -1, 0), (9, 4, -1, 2000), (9, 3, -4294967296, 1999), (9, 2, -4294967296, 2002), (9, 3, -4294967296, 2003), (9, 7, -1, 1), (8, 4, 0, 2000), (8, 3, -4294967296, 1999), (8, 2, -4294967296, 2002), (8, 3, -4294967296, 2003), (8, 7, 0, 1), (4, 3, -4294967296, -1), (2, 3, -4294967296, 3), (2, 4, -4294967296, 0), (3, 2, -4294967296, 2), (3, 4, -4294967296, 2), (4, 2, -4294967296, 2), (4, 3, -4294967296, 3)])
theorem oo_Sy_isWordAt_at_s5011_1 {kA : Nat → ClassId} : or_ok kA GG o_Sy_isWordAt_at_s5011_1 := by
  intro A ta ws vs hD hth hl hk hds hf
  have hl : vs.length = 10 := hl
  have hk : ∀ q ∈ ([(0, (2, 0, 0, [11])), (2, (0, 0, 1, [])), (3, (0, 1, 2, [])), (4, (0, 0, 1, [])), (7, (0, 0, 2000, [])), (8, (0, 0, 2001, [])), (9, (0, -1, 2001, []))] : List (Nat × tv_T)), tv_ok ta q.2 (n_v vs q.1) := hk
  obtain ⟨t0, hk⟩ := List.forall_mem_cons.mp hk
  have t0 : tv_ok ta (2, 0, 0, [11]) (n_v vs 0) := t0
  have r0 : ta (v_ad (n_v vs 0)) = some 11 := tv_rg t0
  obtain ⟨t2, hk⟩ := List.forall_mem_cons.mp hk
  have t2 : tv_ok ta (0, 0, 1, []) (n_v vs 2) := t2
  have k2 : 0 ≤ v_iv (n_v vs 2) ∧ v_iv (n_v vs 2) ≤ 1 := tv_rng t2
  obtain ⟨t3, hk⟩ := List.forall_mem_cons.mp hk
  have t3 : tv_ok ta (0, 1, 2, []) (n_v vs 3) := t3
  have k3 : 1 ≤ v_iv (n_v vs 3) ∧ v_iv (n_v vs 3) ≤ 2 := tv_rng t3
  obtain ⟨t4, hk⟩ := List.forall_mem_cons.mp hk
  have t4 : tv_ok ta (0, 0, 1, []) (n_v vs 4) := t4
  have k4 : 0 ≤ v_iv (n_v vs 4) ∧ v_iv (n_v vs 4) ≤ 1 := tv_rng t4
  obtain ⟨t7, hk⟩ := List.forall_mem_cons.mp hk
  have t7 : tv_ok ta (0, 0, 2000, []) (n_v vs 7) := t7
  have k7 : 0 ≤ v_iv (n_v vs 7) ∧ v_iv (n_v vs 7) ≤ 2000 := tv_rng t7
  obtain ⟨t8, hk⟩ := List.forall_mem_cons.mp hk
  have t8 : tv_ok ta (0, 0, 2001, []) (n_v vs 8) := t8
  have k8 : 0 ≤ v_iv (n_v vs 8) ∧ v_iv (n_v vs 8) ≤ 2001 := tv_rng t8
  obtain ⟨t9, hk⟩ := List.forall_mem_cons.mp hk
  have t9 : tv_ok ta (0, -1, 2001, []) (n_v vs 9) := t9
  have k9 : (-1) ≤ v_iv (n_v vs 9) ∧ v_iv (n_v vs 9) ≤ 2001 := tv_rng t9
  have hds : ∀ q ∈ ([(9, 8, -1, 0), (9, 4, -1, 2000), (9, 3, -4294967296, 1999), (9, 2, -4294967296, 2002), (9, 3, -4294967296, 2003), (9, 7, -1, 1), (8, 4, 0, 2000), (8, 3, -4294967296, 1999), (8, 2, -4294967296, 2002), (8, 3, -4294967296, 2003), (8, 7, 0, 1), (4, 3, -4294967296, -1), (2, 3, -4294967296, 3), (2, 4, -4294967296, 0), (3, 2, -4294967296, 2), (3, 4, -4294967296, 2), (4, 2, -4294967296, 2), (4, 3, -4294967296, 3)] : List of_T), n_iv vs q.2.1 + q.2.2.1 ≤ n_iv vs q.1 ∧ n_iv vs q.1 ≤ n_iv vs q.2.1 + q.2.2.2 := hds
  obtain ⟨d0, hds⟩ := List.forall_mem_cons.mp hds
  have d0 : v_iv (n_v vs 8) + (-1) ≤ v_iv (n_v vs 9) ∧ v_iv (n_v vs 9) ≤ v_iv (n_v vs 8) + 0 := d0
  obtain ⟨d1, hds⟩ := List.forall_mem_cons.mp hds
  have d1 : v_iv (n_v vs 4) + (-1) ≤ v_iv (n_v vs 9) ∧ v_iv (n_v vs 9) ≤ v_iv (n_v vs 4) + 2000 := d1
  obtain ⟨d2, hds⟩ := List.forall_mem_cons.mp hds
  have d2 : v_iv (n_v vs 3) + (-4294967296) ≤ v_iv (n_v vs 9) ∧ v_iv (n_v vs 9) ≤ v_iv (n_v vs 3) + 1999 := d2
  obtain ⟨d3, hds⟩ := List.forall_mem_cons.mp hds
  have d3 : v_iv (n_v vs 2) + (-4294967296) ≤ v_iv (n_v vs 9) ∧ v_iv (n_v vs 9) ≤ v_iv (n_v vs 2) + 2002 := d3
  obtain ⟨d4, hds⟩ := List.forall_mem_cons.mp hds
  have d4 : v_iv (n_v vs 3) + (-4294967296) ≤ v_iv (n_v vs 9) ∧ v_iv (n_v vs 9) ≤ v_iv (n_v vs 3) + 2003 := d4
  obtain ⟨d5, hds⟩ := List.forall_mem_cons.mp hds
  have d5 : v_iv (n_v vs 7) + (-1) ≤ v_iv (n_v vs 9) ∧ v_iv (n_v vs 9) ≤ v_iv (n_v vs 7) + 1 := d5
  obtain ⟨d6, hds⟩ := List.forall_mem_cons.mp hds
  have d6 : v_iv (n_v vs 4) + 0 ≤ v_iv (n_v vs 8) ∧ v_iv (n_v vs 8) ≤ v_iv (n_v vs 4) + 2000 := d6
  obtain ⟨d7, hds⟩ := List.forall_mem_cons.mp hds
  have d7 : v_iv (n_v vs 3) + (-4294967296) ≤ v_iv (n_v vs 8) ∧ v_iv (n_v vs 8) ≤ v_iv (n_v vs 3) + 1999 := d7
  obtain ⟨d8, hds⟩ := List.forall_mem_cons.mp hds
  have d8 : v_iv (n_v vs 2) + (-4294967296) ≤ v_iv (n_v vs 8) ∧ v_iv (n_v vs 8) ≤ v_iv (n_v vs 2) + 2002 := d8
  obtain ⟨d9, hds⟩ := List.forall_mem_cons.mp hds
  have d9 : v_iv (n_v vs 3) + (-4294967296) ≤ v_iv (n_v vs 8) ∧ v_iv (n_v vs 8) ≤ v_iv (n_v vs 3) + 2003 := d9
  obtain ⟨d10, hds⟩ := List.forall_mem_cons.mp hds
  have d10 : v_iv (n_v vs 7) + 0 ≤ v_iv (n_v vs 8) ∧ v_iv (n_v vs 8) ≤ v_iv (n_v vs 7) + 1 := d10
  obtain ⟨d11, hds⟩ := List.forall_mem_cons.mp hds
  have d11 : v_iv (n_v vs 3) + (-4294967296) ≤ v_iv (n_v vs 4) ∧ v_iv (n_v vs 4) ≤ v_iv (n_v vs 3) + (-1) := d11
  obtain ⟨d12, hds⟩ := List.forall_mem_cons.mp hds
  have d12 : v_iv (n_v vs 3) + (-4294967296) ≤ v_iv (n_v vs 2) ∧ v_iv (n_v vs 2) ≤ v_iv (n_v vs 3) + 3 := d12
  obtain ⟨d13, hds⟩ := List.forall_mem_cons.mp hds
  have d13 : v_iv (n_v vs 4) + (-4294967296) ≤ v_iv (n_v vs 2) ∧ v_iv (n_v vs 2) ≤ v_iv (n_v vs 4) + 0 := d13
  obtain ⟨d14, hds⟩ := List.forall_mem_cons.mp hds
  have d14 : v_iv (n_v vs 2) + (-4294967296) ≤ v_iv (n_v vs 3) ∧ v_iv (n_v vs 3) ≤ v_iv (n_v vs 2) + 2 := d14
  obtain ⟨d15, hds⟩ := List.forall_mem_cons.mp hds
  have d15 : v_iv (n_v vs 4) + (-4294967296) ≤ v_iv (n_v vs 3) ∧ v_iv (n_v vs 3) ≤ v_iv (n_v vs 4) + 2 := d15
  obtain ⟨d16, hds⟩ := List.forall_mem_cons.mp hds
  have d16 : v_iv (n_v vs 2) + (-4294967296) ≤ v_iv (n_v vs 4) ∧ v_iv (n_v vs 4) ≤ v_iv (n_v vs 2) + 2 := d16
  obtain ⟨d17, hds⟩ := List.forall_mem_cons.mp hds
  have d17 : v_iv (n_v vs 3) + (-4294967296) ≤ v_iv (n_v vs 4) ∧ v_iv (n_v vs 4) ≤ v_iv (n_v vs 3) + 3 := d17
  have hf : fc_ok [(2, [9, 8, 2], []), (1, [8, 7, 4], []), (9, [7, 0], [7]), (7, [4, 3], [2]), (20, [0, 3, 2], [30, 2000, 1, 1, 7, 1, 0, 0, -1, 0, 0]), (20, [2, 4], [30, 0, 1, 0, 0, -1, 0, 0])] ta ws vs := hf
  obtain ⟨f0, hf⟩ := fc_un (show (2 : Nat) < 100 from by decide) hf
  have f0 : v_iv (n_v vs 9) = v_iv (n_v vs 8) - v_iv (n_v vs 2) := f0
  obtain ⟨f1, hf⟩ := fc_un (show (1 : Nat) < 100 from by decide) hf
  have f1 : v_iv (n_v vs 8) = v_iv (n_v vs 7) + v_iv (n_v vs 4) := f1
  obtain ⟨f2, hf⟩ := fc_un (show (9 : Nat) < 100 from by decide) hf
  have f2 : n_v vs 7 = w_fd ws (v_ad (n_v vs 0)) 7 := f2
  obtain ⟨f3, hf⟩ := fc_un (show (7 : Nat) < 100 from by decide) hf
  have f3 : v_iv (n_v vs 4) < v_iv (n_v vs 3) := f3
  obtain ⟨f4, hf⟩ := fc_un (show (20 : Nat) < 100 from by decide) hf
  have f4 : 1 * w_fi ws (n_v vs 0) 7 + (1 * v_iv (n_v vs 3) + ((-1) * v_iv (n_v vs 2) + 0)) ≤ 2000 := f4
  obtain ⟨f5, hf⟩ := fc_un (show (20 : Nat) < 100 from by decide) hf
  have f5 : 1 * v_iv (n_v vs 2) + ((-1) * v_iv (n_v vs 4) + 0) ≤ 0 := f5
  have g2 : v_iv (n_v vs 7) = w_fi ws (n_v vs 0) 7 := congrArg v_iv f2
  have kz_0_7 : 0 ≤ w_fi ws (n_v vs 0) 7 ∧ w_fi ws (n_v vs 0) 7 ≤ 2000 := tv_rng (th_fd hD hth r0 (g := GG_11) rfl (k := 7) (t := (0, 0, 2000, [])) rfl rfl)
  have rf9 : tv_ok ta (0, 0, 1999, []) (n_v vs 9) := tv_in t9 (by omega) (by omega)
  refine ⟨List.forall_mem_cons.mpr ⟨rf9, (fun _ h => (by cases h))⟩, [], trivial, ?_, (fun _ h => (by cases h))⟩
  rw [List.append_nil]
  exact (fun _ h => (by cases h))
def o_Sy_isWordAt_at_s5011_2 : or_T := (20, 12, [(0, (2, 0, 0, [11])), (2, (0, 0, 1, [])), (3, (0, 1, 2, [])), (4, (0, 0, 1, [])), (7, (0, 0, 2000, [])), (8, (0, 0, 2001, [])), (9, (0, 0, 1999, [])), (11, (0, 1, 2, []))], [(6, [11, 4], [1]), (2, [9, 8, 2], []), (1, [8, 7, 4], []), (9, [7, 0], [7]), (7, [4, 3], [2]), (20, [0, 3, 2], [30, 2000, 1, 1, 7, 1, 0, 0, -1, 0, 0]), (20, [2, 4], [30, 0, 1, 0, 0, -1, 0, 0])], [], [], [(20, [2, 11], [30, 0, 1, 0, 0, -1, 0, 0])], [], [(11, 4, 1, 1), (11, 3, -4294967296, 0), (11, 2, -4294967296, 3), (11, 3, -4294967296, 4), (9, 8, -1, 0), (9, 4, -1, 2000), (9, 3, -4294967296, 1999), (9, 2, -4294967296, 2002), (9, 3, -4294967296, 2003), (9, 7, -1, 1), (8, 4, 0, 2000), (8, 3, -4294967296, 1999), (8, 2, -4294967296, 2002), (8, 3, -4294967296, 2003), (8, 7, 0, 1), (4, 3, -4294967296, -1), (2, 3, -4294967296, 3), (2, 4, -4294967296, 0), (3, 2, -4294967296, 2), (3, 4, -4294967296, 2), (4, 2, -4294967296, 2), (4, 3, -4294967296, 3)])
theorem oo_Sy_isWordAt_at_s5011_2 {kA : Nat → ClassId} : or_ok kA GG o_Sy_isWordAt_at_s5011_2 := by
  intro A ta ws vs hD hth hl hk hds hf
  have hl : vs.length = 12 := hl
  have hk : ∀ q ∈ ([(0, (2, 0, 0, [11])), (2, (0, 0, 1, [])), (3, (0, 1, 2, [])), (4, (0, 0, 1, [])), (7, (0, 0, 2000, [])), (8, (0, 0, 2001, [])), (9, (0, 0, 1999, [])), (11, (0, 1, 2, []))] : List (Nat × tv_T)), tv_ok ta q.2 (n_v vs q.1) := hk
  obtain ⟨t0, hk⟩ := List.forall_mem_cons.mp hk
  have t0 : tv_ok ta (2, 0, 0, [11]) (n_v vs 0) := t0
  have r0 : ta (v_ad (n_v vs 0)) = some 11 := tv_rg t0
  obtain ⟨t2, hk⟩ := List.forall_mem_cons.mp hk
  have t2 : tv_ok ta (0, 0, 1, []) (n_v vs 2) := t2
  have k2 : 0 ≤ v_iv (n_v vs 2) ∧ v_iv (n_v vs 2) ≤ 1 := tv_rng t2
  obtain ⟨t3, hk⟩ := List.forall_mem_cons.mp hk
  have t3 : tv_ok ta (0, 1, 2, []) (n_v vs 3) := t3
  have k3 : 1 ≤ v_iv (n_v vs 3) ∧ v_iv (n_v vs 3) ≤ 2 := tv_rng t3
  obtain ⟨t4, hk⟩ := List.forall_mem_cons.mp hk
  have t4 : tv_ok ta (0, 0, 1, []) (n_v vs 4) := t4
  have k4 : 0 ≤ v_iv (n_v vs 4) ∧ v_iv (n_v vs 4) ≤ 1 := tv_rng t4
  obtain ⟨t7, hk⟩ := List.forall_mem_cons.mp hk
  have t7 : tv_ok ta (0, 0, 2000, []) (n_v vs 7) := t7
  have k7 : 0 ≤ v_iv (n_v vs 7) ∧ v_iv (n_v vs 7) ≤ 2000 := tv_rng t7
  obtain ⟨t8, hk⟩ := List.forall_mem_cons.mp hk
  have t8 : tv_ok ta (0, 0, 2001, []) (n_v vs 8) := t8
  have k8 : 0 ≤ v_iv (n_v vs 8) ∧ v_iv (n_v vs 8) ≤ 2001 := tv_rng t8
  obtain ⟨t9, hk⟩ := List.forall_mem_cons.mp hk
  have t9 : tv_ok ta (0, 0, 1999, []) (n_v vs 9) := t9
  have k9 : 0 ≤ v_iv (n_v vs 9) ∧ v_iv (n_v vs 9) ≤ 1999 := tv_rng t9
  obtain ⟨t11, hk⟩ := List.forall_mem_cons.mp hk
  have t11 : tv_ok ta (0, 1, 2, []) (n_v vs 11) := t11
  have k11 : 1 ≤ v_iv (n_v vs 11) ∧ v_iv (n_v vs 11) ≤ 2 := tv_rng t11
  have hds : ∀ q ∈ ([(11, 4, 1, 1), (11, 3, -4294967296, 0), (11, 2, -4294967296, 3), (11, 3, -4294967296, 4), (9, 8, -1, 0), (9, 4, -1, 2000), (9, 3, -4294967296, 1999), (9, 2, -4294967296, 2002), (9, 3, -4294967296, 2003), (9, 7, -1, 1), (8, 4, 0, 2000), (8, 3, -4294967296, 1999), (8, 2, -4294967296, 2002), (8, 3, -4294967296, 2003), (8, 7, 0, 1), (4, 3, -4294967296, -1), (2, 3, -4294967296, 3), (2, 4, -4294967296, 0), (3, 2, -4294967296, 2), (3, 4, -4294967296, 2), (4, 2, -4294967296, 2), (4, 3, -4294967296, 3)] : List of_T), n_iv vs q.2.1 + q.2.2.1 ≤ n_iv vs q.1 ∧ n_iv vs q.1 ≤ n_iv vs q.2.1 + q.2.2.2 := hds
  obtain ⟨d0, hds⟩ := List.forall_mem_cons.mp hds
  have d0 : v_iv (n_v vs 4) + 1 ≤ v_iv (n_v vs 11) ∧ v_iv (n_v vs 11) ≤ v_iv (n_v vs 4) + 1 := d0
  obtain ⟨d1, hds⟩ := List.forall_mem_cons.mp hds
  have d1 : v_iv (n_v vs 3) + (-4294967296) ≤ v_iv (n_v vs 11) ∧ v_iv (n_v vs 11) ≤ v_iv (n_v vs 3) + 0 := d1
  obtain ⟨d2, hds⟩ := List.forall_mem_cons.mp hds
  have d2 : v_iv (n_v vs 2) + (-4294967296) ≤ v_iv (n_v vs 11) ∧ v_iv (n_v vs 11) ≤ v_iv (n_v vs 2) + 3 := d2
  obtain ⟨d3, hds⟩ := List.forall_mem_cons.mp hds
  have d3 : v_iv (n_v vs 3) + (-4294967296) ≤ v_iv (n_v vs 11) ∧ v_iv (n_v vs 11) ≤ v_iv (n_v vs 3) + 4 := d3
  obtain ⟨d4, hds⟩ := List.forall_mem_cons.mp hds
  have d4 : v_iv (n_v vs 8) + (-1) ≤ v_iv (n_v vs 9) ∧ v_iv (n_v vs 9) ≤ v_iv (n_v vs 8) + 0 := d4
  obtain ⟨d5, hds⟩ := List.forall_mem_cons.mp hds
  have d5 : v_iv (n_v vs 4) + (-1) ≤ v_iv (n_v vs 9) ∧ v_iv (n_v vs 9) ≤ v_iv (n_v vs 4) + 2000 := d5
  obtain ⟨d6, hds⟩ := List.forall_mem_cons.mp hds
  have d6 : v_iv (n_v vs 3) + (-4294967296) ≤ v_iv (n_v vs 9) ∧ v_iv (n_v vs 9) ≤ v_iv (n_v vs 3) + 1999 := d6
  obtain ⟨d7, hds⟩ := List.forall_mem_cons.mp hds
  have d7 : v_iv (n_v vs 2) + (-4294967296) ≤ v_iv (n_v vs 9) ∧ v_iv (n_v vs 9) ≤ v_iv (n_v vs 2) + 2002 := d7
  obtain ⟨d8, hds⟩ := List.forall_mem_cons.mp hds
  have d8 : v_iv (n_v vs 3) + (-4294967296) ≤ v_iv (n_v vs 9) ∧ v_iv (n_v vs 9) ≤ v_iv (n_v vs 3) + 2003 := d8
  obtain ⟨d9, hds⟩ := List.forall_mem_cons.mp hds
  have d9 : v_iv (n_v vs 7) + (-1) ≤ v_iv (n_v vs 9) ∧ v_iv (n_v vs 9) ≤ v_iv (n_v vs 7) + 1 := d9
  obtain ⟨d10, hds⟩ := List.forall_mem_cons.mp hds
  have d10 : v_iv (n_v vs 4) + 0 ≤ v_iv (n_v vs 8) ∧ v_iv (n_v vs 8) ≤ v_iv (n_v vs 4) + 2000 := d10
  obtain ⟨d11, hds⟩ := List.forall_mem_cons.mp hds
  have d11 : v_iv (n_v vs 3) + (-4294967296) ≤ v_iv (n_v vs 8) ∧ v_iv (n_v vs 8) ≤ v_iv (n_v vs 3) + 1999 := d11
  obtain ⟨d12, hds⟩ := List.forall_mem_cons.mp hds
  have d12 : v_iv (n_v vs 2) + (-4294967296) ≤ v_iv (n_v vs 8) ∧ v_iv (n_v vs 8) ≤ v_iv (n_v vs 2) + 2002 := d12
  obtain ⟨d13, hds⟩ := List.forall_mem_cons.mp hds
  have d13 : v_iv (n_v vs 3) + (-4294967296) ≤ v_iv (n_v vs 8) ∧ v_iv (n_v vs 8) ≤ v_iv (n_v vs 3) + 2003 := d13
  obtain ⟨d14, hds⟩ := List.forall_mem_cons.mp hds
  have d14 : v_iv (n_v vs 7) + 0 ≤ v_iv (n_v vs 8) ∧ v_iv (n_v vs 8) ≤ v_iv (n_v vs 7) + 1 := d14
  obtain ⟨d15, hds⟩ := List.forall_mem_cons.mp hds
  have d15 : v_iv (n_v vs 3) + (-4294967296) ≤ v_iv (n_v vs 4) ∧ v_iv (n_v vs 4) ≤ v_iv (n_v vs 3) + (-1) := d15
  obtain ⟨d16, hds⟩ := List.forall_mem_cons.mp hds
  have d16 : v_iv (n_v vs 3) + (-4294967296) ≤ v_iv (n_v vs 2) ∧ v_iv (n_v vs 2) ≤ v_iv (n_v vs 3) + 3 := d16
  obtain ⟨d17, hds⟩ := List.forall_mem_cons.mp hds
  have d17 : v_iv (n_v vs 4) + (-4294967296) ≤ v_iv (n_v vs 2) ∧ v_iv (n_v vs 2) ≤ v_iv (n_v vs 4) + 0 := d17
  obtain ⟨d18, hds⟩ := List.forall_mem_cons.mp hds
  have d18 : v_iv (n_v vs 2) + (-4294967296) ≤ v_iv (n_v vs 3) ∧ v_iv (n_v vs 3) ≤ v_iv (n_v vs 2) + 2 := d18
  obtain ⟨d19, hds⟩ := List.forall_mem_cons.mp hds
  have d19 : v_iv (n_v vs 4) + (-4294967296) ≤ v_iv (n_v vs 3) ∧ v_iv (n_v vs 3) ≤ v_iv (n_v vs 4) + 2 := d19
  obtain ⟨d20, hds⟩ := List.forall_mem_cons.mp hds
  have d20 : v_iv (n_v vs 2) + (-4294967296) ≤ v_iv (n_v vs 4) ∧ v_iv (n_v vs 4) ≤ v_iv (n_v vs 2) + 2 := d20
  obtain ⟨d21, hds⟩ := List.forall_mem_cons.mp hds
  have d21 : v_iv (n_v vs 3) + (-4294967296) ≤ v_iv (n_v vs 4) ∧ v_iv (n_v vs 4) ≤ v_iv (n_v vs 3) + 3 := d21
  have hf : fc_ok [(6, [11, 4], [1]), (2, [9, 8, 2], []), (1, [8, 7, 4], []), (9, [7, 0], [7]), (7, [4, 3], [2]), (20, [0, 3, 2], [30, 2000, 1, 1, 7, 1, 0, 0, -1, 0, 0]), (20, [2, 4], [30, 0, 1, 0, 0, -1, 0, 0])] ta ws vs := hf
  obtain ⟨f0, hf⟩ := fc_un (show (6 : Nat) < 100 from by decide) hf
  have f0 : v_iv (n_v vs 11) = v_iv (n_v vs 4) + 1 := f0
  obtain ⟨f1, hf⟩ := fc_un (show (2 : Nat) < 100 from by decide) hf
  have f1 : v_iv (n_v vs 9) = v_iv (n_v vs 8) - v_iv (n_v vs 2) := f1
  obtain ⟨f2, hf⟩ := fc_un (show (1 : Nat) < 100 from by decide) hf
  have f2 : v_iv (n_v vs 8) = v_iv (n_v vs 7) + v_iv (n_v vs 4) := f2
  obtain ⟨f3, hf⟩ := fc_un (show (9 : Nat) < 100 from by decide) hf
  have f3 : n_v vs 7 = w_fd ws (v_ad (n_v vs 0)) 7 := f3
  obtain ⟨f4, hf⟩ := fc_un (show (7 : Nat) < 100 from by decide) hf
  have f4 : v_iv (n_v vs 4) < v_iv (n_v vs 3) := f4
  obtain ⟨f5, hf⟩ := fc_un (show (20 : Nat) < 100 from by decide) hf
  have f5 : 1 * w_fi ws (n_v vs 0) 7 + (1 * v_iv (n_v vs 3) + ((-1) * v_iv (n_v vs 2) + 0)) ≤ 2000 := f5
  obtain ⟨f6, hf⟩ := fc_un (show (20 : Nat) < 100 from by decide) hf
  have f6 : 1 * v_iv (n_v vs 2) + ((-1) * v_iv (n_v vs 4) + 0) ≤ 0 := f6
  have g3 : v_iv (n_v vs 7) = w_fi ws (n_v vs 0) 7 := congrArg v_iv f3
  have kz_0_7 : 0 ≤ w_fi ws (n_v vs 0) 7 ∧ w_fi ws (n_v vs 0) 7 ≤ 2000 := tv_rng (th_fd hD hth r0 (g := GG_11) rfl (k := 7) (t := (0, 0, 2000, [])) rfl rfl)
  have nf0 : fc_1 (20, [2, 11], [30, 0, 1, 0, 0, -1, 0, 0]) ws (vs) := by
    refine ⟨fun n hn => ?_, ?_⟩
    · have hn : n ∈ [2, 11] := hn
      rw [hl]
      simp only [List.mem_cons, List.not_mem_nil, or_false] at hn
      show n < 12; omega
    · show 1 * v_iv (n_v vs 2) + ((-1) * v_iv (n_v vs 11) + 0) ≤ 0
      omega
  refine ⟨(fun _ h => (by cases h)), [], trivial, ?_, (fun _ h => (by cases h))⟩
  rw [List.append_nil]
  exact List.forall_mem_cons.mpr ⟨⟨show (20 : Nat) < 100 from by decide, nf0⟩, (fun _ h => (by cases h))⟩
def n_Sy_isWordAt_at_s5011_an : List an_T := [(20, [(0, (2, 0, 0, [11])), (1, (2, 0, 0, [5011])), (2, (0, 0, 3, [])), (3, (0, 0, 2, [])), (4, (0, 0, 3, []))], [], (0, 0), [(0, 0, 99980), (1, 4, 3), (0, 0, 100000)], [(2, 3, -1000000000000, 3), (2, 4, -1000000000000, 0), (3, 2, -1000000000000, 2), (3, 4, -1000000000000, 2), (4, 2, -1000000000000, 2), (4, 3, -1000000000000, 3)], [((0, 3), (2, 0, 0, [109]))], [], 0, [], [(20, [0, 3, 2], [30, 2000, 1, 1, 7, 1, 0, 0, -1, 0, 0]), (20, [2, 4], [30, 0, 1, 0, 0, -1, 0, 0])])]
def t_Sy_isWordAt_at_s5011_ct : ct_L := [(91, 104, e_jStr_charAt_v167)]
set_option maxRecDepth 100000 in
theorem c_Sy_isWordAt_at_s5011 {l : Launch} {D : va_G} {kA : Nat → ClassId} : ct_ok l D kA GG y_Sy_isWordAt_at_s5011 z_Sy_isWordAt_at_s5011 e_Sy_isWordAt_at_s5011 := chk_all_ok (FT := [(21, 11, 3), (28, 11, 5), (34, 11, 7)]) (PT := []) (CT := t_Sy_isWordAt_at_s5011_ct) (KT := []) (NT := []) (AN := n_Sy_isWordAt_at_s5011_an) (OT := [o_Sy_isWordAt_at_s5011_0, o_Sy_isWordAt_at_s5011_1, o_Sy_isWordAt_at_s5011_2]) 3 200 (List.forall_mem_cons.mpr ⟨oo_Sy_isWordAt_at_s5011_0, List.forall_mem_cons.mpr ⟨oo_Sy_isWordAt_at_s5011_1, List.forall_mem_cons.mpr ⟨oo_Sy_isWordAt_at_s5011_2, List.forall_mem_nil _⟩⟩⟩) (by decide +kernel) ⟨List.forall_mem_cons.mpr ⟨gf_Sy_21, List.forall_mem_cons.mpr ⟨gf_Sy_28, List.forall_mem_cons.mpr ⟨gf_Sy_34, List.forall_mem_nil _⟩⟩⟩, List.forall_mem_nil _, List.forall_mem_cons.mpr ⟨cl_string (y := y_jStr_charAt) (i := 11) rfl rfl (by decide +kernel) rfl c_jStr_charAt_v167 wm_684 wm_11 wm_2231 wm_682 wm_683 ⟨by decide, by decide, by decide +kernel⟩ (by decide), List.forall_mem_nil _⟩, List.forall_mem_nil _, List.forall_mem_nil _, GG_pl⟩ (by decide +kernel)
def o_Sy_isWordAt_at_s5012_0 : or_T := (20, 9, [(0, (2, 0, 0, [11])), (2, (0, 0, 23, [])), (3, (0, 0, 16, [])), (5, (0, 0, 2000, [])), (6, (0, 0, 2000, [])), (7, (0, -23, 16, [])), (8, (0, -23, 16, []))], [(7, [7, 8], [0]), (2, [8, 3, 2], []), (2, [7, 5, 6], []), (9, [6, 0], [7]), (9, [5, 0], [5])], [], [], [(20, [0, 3, 2], [30, 2000, 1, 1, 7, 1, 0, 0, -1, 0, 0]), (20, [2, 2], [30, 0, 1, 0, 0, -1, 0, 0])], [], [(7, 8, 0, 0), (8, 3, -23, 0), (7, 5, -2000, 0)])
theorem oo_Sy_isWordAt_at_s5012_0 {kA : Nat → ClassId} : or_ok kA GG o_Sy_isWordAt_at_s5012_0 := by
  intro A ta ws vs hD hth hl hk hds hf
  have hl : vs.length = 9 := hl
  have hk : ∀ q ∈ ([(0, (2, 0, 0, [11])), (2, (0, 0, 23, [])), (3, (0, 0, 16, [])), (5, (0, 0, 2000, [])), (6, (0, 0, 2000, [])), (7, (0, -23, 16, [])), (8, (0, -23, 16, []))] : List (Nat × tv_T)), tv_ok ta q.2 (n_v vs q.1) := hk
  obtain ⟨t0, hk⟩ := List.forall_mem_cons.mp hk
  have t0 : tv_ok ta (2, 0, 0, [11]) (n_v vs 0) := t0
  have r0 : ta (v_ad (n_v vs 0)) = some 11 := tv_rg t0
  obtain ⟨t2, hk⟩ := List.forall_mem_cons.mp hk
  have t2 : tv_ok ta (0, 0, 23, []) (n_v vs 2) := t2
  have k2 : 0 ≤ v_iv (n_v vs 2) ∧ v_iv (n_v vs 2) ≤ 23 := tv_rng t2
  obtain ⟨t3, hk⟩ := List.forall_mem_cons.mp hk
  have t3 : tv_ok ta (0, 0, 16, []) (n_v vs 3) := t3
  have k3 : 0 ≤ v_iv (n_v vs 3) ∧ v_iv (n_v vs 3) ≤ 16 := tv_rng t3
  obtain ⟨t5, hk⟩ := List.forall_mem_cons.mp hk
  have t5 : tv_ok ta (0, 0, 2000, []) (n_v vs 5) := t5
  have k5 : 0 ≤ v_iv (n_v vs 5) ∧ v_iv (n_v vs 5) ≤ 2000 := tv_rng t5
  obtain ⟨t6, hk⟩ := List.forall_mem_cons.mp hk
  have t6 : tv_ok ta (0, 0, 2000, []) (n_v vs 6) := t6
  have k6 : 0 ≤ v_iv (n_v vs 6) ∧ v_iv (n_v vs 6) ≤ 2000 := tv_rng t6
  obtain ⟨t7, hk⟩ := List.forall_mem_cons.mp hk
  have t7 : tv_ok ta (0, -23, 16, []) (n_v vs 7) := t7
  have k7 : (-23) ≤ v_iv (n_v vs 7) ∧ v_iv (n_v vs 7) ≤ 16 := tv_rng t7
  obtain ⟨t8, hk⟩ := List.forall_mem_cons.mp hk
  have t8 : tv_ok ta (0, -23, 16, []) (n_v vs 8) := t8
  have k8 : (-23) ≤ v_iv (n_v vs 8) ∧ v_iv (n_v vs 8) ≤ 16 := tv_rng t8
  have hds : ∀ q ∈ ([(7, 8, 0, 0), (8, 3, -23, 0), (7, 5, -2000, 0)] : List of_T), n_iv vs q.2.1 + q.2.2.1 ≤ n_iv vs q.1 ∧ n_iv vs q.1 ≤ n_iv vs q.2.1 + q.2.2.2 := hds
  obtain ⟨d0, hds⟩ := List.forall_mem_cons.mp hds
  have d0 : v_iv (n_v vs 8) + 0 ≤ v_iv (n_v vs 7) ∧ v_iv (n_v vs 7) ≤ v_iv (n_v vs 8) + 0 := d0
  obtain ⟨d1, hds⟩ := List.forall_mem_cons.mp hds
  have d1 : v_iv (n_v vs 3) + (-23) ≤ v_iv (n_v vs 8) ∧ v_iv (n_v vs 8) ≤ v_iv (n_v vs 3) + 0 := d1
  obtain ⟨d2, hds⟩ := List.forall_mem_cons.mp hds
  have d2 : v_iv (n_v vs 5) + (-2000) ≤ v_iv (n_v vs 7) ∧ v_iv (n_v vs 7) ≤ v_iv (n_v vs 5) + 0 := d2
  have hf : fc_ok [(7, [7, 8], [0]), (2, [8, 3, 2], []), (2, [7, 5, 6], []), (9, [6, 0], [7]), (9, [5, 0], [5])] ta ws vs := hf
  obtain ⟨f0, hf⟩ := fc_un (show (7 : Nat) < 100 from by decide) hf
  have f0 : v_iv (n_v vs 7) = v_iv (n_v vs 8) := f0
  obtain ⟨f1, hf⟩ := fc_un (show (2 : Nat) < 100 from by decide) hf
  have f1 : v_iv (n_v vs 8) = v_iv (n_v vs 3) - v_iv (n_v vs 2) := f1
  obtain ⟨f2, hf⟩ := fc_un (show (2 : Nat) < 100 from by decide) hf
  have f2 : v_iv (n_v vs 7) = v_iv (n_v vs 5) - v_iv (n_v vs 6) := f2
  obtain ⟨f3, hf⟩ := fc_un (show (9 : Nat) < 100 from by decide) hf
  have f3 : n_v vs 6 = w_fd ws (v_ad (n_v vs 0)) 7 := f3
  obtain ⟨f4, hf⟩ := fc_un (show (9 : Nat) < 100 from by decide) hf
  have f4 : n_v vs 5 = w_fd ws (v_ad (n_v vs 0)) 5 := f4
  have g3 : v_iv (n_v vs 6) = w_fi ws (n_v vs 0) 7 := congrArg v_iv f3
  have g4 : v_iv (n_v vs 5) = w_fi ws (n_v vs 0) 5 := congrArg v_iv f4
  have kz_0_5 : 0 ≤ w_fi ws (n_v vs 0) 5 ∧ w_fi ws (n_v vs 0) 5 ≤ 2000 := tv_rng (th_fd hD hth r0 (g := GG_11) rfl (k := 5) (t := (0, 0, 2000, [])) rfl rfl)
  have kz_0_7 : 0 ≤ w_fi ws (n_v vs 0) 7 ∧ w_fi ws (n_v vs 0) 7 ≤ 2000 := tv_rng (th_fd hD hth r0 (g := GG_11) rfl (k := 7) (t := (0, 0, 2000, [])) rfl rfl)
  have nf0 : fc_1 (20, [0, 3, 2], [30, 2000, 1, 1, 7, 1, 0, 0, -1, 0, 0]) ws (vs) := by
    refine ⟨fun n hn => ?_, ?_⟩
    · have hn : n ∈ [0, 3, 2] := hn
      rw [hl]
      simp only [List.mem_cons, List.not_mem_nil, or_false] at hn
      show n < 9; omega
    · show 1 * w_fi ws (n_v vs 0) 7 + (1 * v_iv (n_v vs 3) + ((-1) * v_iv (n_v vs 2) + 0)) ≤ 2000
      omega
  have nf1 : fc_1 (20, [2, 2], [30, 0, 1, 0, 0, -1, 0, 0]) ws (vs) := by
    refine ⟨fun n hn => ?_, ?_⟩
    · have hn : n ∈ [2, 2] := hn
      rw [hl]
      simp only [List.mem_cons, List.not_mem_nil, or_false] at hn
      show n < 9; omega
    · show 1 * v_iv (n_v vs 2) + ((-1) * v_iv (n_v vs 2) + 0) ≤ 0
      omega
  refine ⟨(fun _ h => (by cases h)), [], trivial, ?_, (fun _ h => (by cases h))⟩
  rw [List.append_nil]
  exact List.forall_mem_cons.mpr ⟨⟨show (20 : Nat) < 100 from by decide, nf0⟩, List.forall_mem_cons.mpr ⟨⟨show (20 : Nat) < 100 from by decide, nf1⟩, (fun _ h => (by cases h))⟩⟩
def o_Sy_isWordAt_at_s5012_1 : or_T := (45, 10, [(0, (2, 0, 0, [11])), (2, (0, 0, 15, [])), (3, (0, 1, 16, [])), (4, (0, 0, 15, [])), (7, (0, 0, 2000, [])), (8, (0, 0, 2015, [])), (9, (0, -15, 2015, []))], [(2, [9, 8, 2], []), (1, [8, 7, 4], []), (9, [7, 0], [7]), (7, [4, 3], [2]), (20, [0, 3, 2], [30, 2000, 1, 1, 7, 1, 0, 0, -1, 0, 0]), (20, [2, 4], [30, 0, 1, 0, 0, -1, 0, 0])], [(9, (0, 0, 1999, []))], [], [], [], [(9, 8, -15, 0), (9, 4, -15, 2000), (9, 3, -4294967296, 1999), (9, 3, -4294967296, 2023), (9, 7, -15, 15), (8, 4, 0, 2000), (8, 3, -4294967296, 1999), (8, 3, -4294967296, 2023), (8, 7, 0, 15), (4, 3, -4294967296, -1), (2, 3, -4294967296, 23), (2, 4, -4294967296, 0), (3, 2, -4294967296, 16), (3, 4, -4294967296, 16), (4, 3, -4294967296, 23)])
theorem oo_Sy_isWordAt_at_s5012_1 {kA : Nat → ClassId} : or_ok kA GG o_Sy_isWordAt_at_s5012_1 := by
  intro A ta ws vs hD hth hl hk hds hf
  have hl : vs.length = 10 := hl
  have hk : ∀ q ∈ ([(0, (2, 0, 0, [11])), (2, (0, 0, 15, [])), (3, (0, 1, 16, [])), (4, (0, 0, 15, [])), (7, (0, 0, 2000, [])), (8, (0, 0, 2015, [])), (9, (0, -15, 2015, []))] : List (Nat × tv_T)), tv_ok ta q.2 (n_v vs q.1) := hk
  obtain ⟨t0, hk⟩ := List.forall_mem_cons.mp hk
  have t0 : tv_ok ta (2, 0, 0, [11]) (n_v vs 0) := t0
  have r0 : ta (v_ad (n_v vs 0)) = some 11 := tv_rg t0
  obtain ⟨t2, hk⟩ := List.forall_mem_cons.mp hk
  have t2 : tv_ok ta (0, 0, 15, []) (n_v vs 2) := t2
  have k2 : 0 ≤ v_iv (n_v vs 2) ∧ v_iv (n_v vs 2) ≤ 15 := tv_rng t2
  obtain ⟨t3, hk⟩ := List.forall_mem_cons.mp hk
  have t3 : tv_ok ta (0, 1, 16, []) (n_v vs 3) := t3
  have k3 : 1 ≤ v_iv (n_v vs 3) ∧ v_iv (n_v vs 3) ≤ 16 := tv_rng t3
  obtain ⟨t4, hk⟩ := List.forall_mem_cons.mp hk
  have t4 : tv_ok ta (0, 0, 15, []) (n_v vs 4) := t4
  have k4 : 0 ≤ v_iv (n_v vs 4) ∧ v_iv (n_v vs 4) ≤ 15 := tv_rng t4
  obtain ⟨t7, hk⟩ := List.forall_mem_cons.mp hk
  have t7 : tv_ok ta (0, 0, 2000, []) (n_v vs 7) := t7
  have k7 : 0 ≤ v_iv (n_v vs 7) ∧ v_iv (n_v vs 7) ≤ 2000 := tv_rng t7
  obtain ⟨t8, hk⟩ := List.forall_mem_cons.mp hk
  have t8 : tv_ok ta (0, 0, 2015, []) (n_v vs 8) := t8
  have k8 : 0 ≤ v_iv (n_v vs 8) ∧ v_iv (n_v vs 8) ≤ 2015 := tv_rng t8
  obtain ⟨t9, hk⟩ := List.forall_mem_cons.mp hk
  have t9 : tv_ok ta (0, -15, 2015, []) (n_v vs 9) := t9
  have k9 : (-15) ≤ v_iv (n_v vs 9) ∧ v_iv (n_v vs 9) ≤ 2015 := tv_rng t9
  have hds : ∀ q ∈ ([(9, 8, -15, 0), (9, 4, -15, 2000), (9, 3, -4294967296, 1999), (9, 3, -4294967296, 2023), (9, 7, -15, 15), (8, 4, 0, 2000), (8, 3, -4294967296, 1999), (8, 3, -4294967296, 2023), (8, 7, 0, 15), (4, 3, -4294967296, -1), (2, 3, -4294967296, 23), (2, 4, -4294967296, 0), (3, 2, -4294967296, 16), (3, 4, -4294967296, 16), (4, 3, -4294967296, 23)] : List of_T), n_iv vs q.2.1 + q.2.2.1 ≤ n_iv vs q.1 ∧ n_iv vs q.1 ≤ n_iv vs q.2.1 + q.2.2.2 := hds
  obtain ⟨d0, hds⟩ := List.forall_mem_cons.mp hds
  have d0 : v_iv (n_v vs 8) + (-15) ≤ v_iv (n_v vs 9) ∧ v_iv (n_v vs 9) ≤ v_iv (n_v vs 8) + 0 := d0
  obtain ⟨d1, hds⟩ := List.forall_mem_cons.mp hds
  have d1 : v_iv (n_v vs 4) + (-15) ≤ v_iv (n_v vs 9) ∧ v_iv (n_v vs 9) ≤ v_iv (n_v vs 4) + 2000 := d1
  obtain ⟨d2, hds⟩ := List.forall_mem_cons.mp hds
  have d2 : v_iv (n_v vs 3) + (-4294967296) ≤ v_iv (n_v vs 9) ∧ v_iv (n_v vs 9) ≤ v_iv (n_v vs 3) + 1999 := d2
  obtain ⟨d3, hds⟩ := List.forall_mem_cons.mp hds
  have d3 : v_iv (n_v vs 3) + (-4294967296) ≤ v_iv (n_v vs 9) ∧ v_iv (n_v vs 9) ≤ v_iv (n_v vs 3) + 2023 := d3
  obtain ⟨d4, hds⟩ := List.forall_mem_cons.mp hds
  have d4 : v_iv (n_v vs 7) + (-15) ≤ v_iv (n_v vs 9) ∧ v_iv (n_v vs 9) ≤ v_iv (n_v vs 7) + 15 := d4
  obtain ⟨d5, hds⟩ := List.forall_mem_cons.mp hds
  have d5 : v_iv (n_v vs 4) + 0 ≤ v_iv (n_v vs 8) ∧ v_iv (n_v vs 8) ≤ v_iv (n_v vs 4) + 2000 := d5
  obtain ⟨d6, hds⟩ := List.forall_mem_cons.mp hds
  have d6 : v_iv (n_v vs 3) + (-4294967296) ≤ v_iv (n_v vs 8) ∧ v_iv (n_v vs 8) ≤ v_iv (n_v vs 3) + 1999 := d6
  obtain ⟨d7, hds⟩ := List.forall_mem_cons.mp hds
  have d7 : v_iv (n_v vs 3) + (-4294967296) ≤ v_iv (n_v vs 8) ∧ v_iv (n_v vs 8) ≤ v_iv (n_v vs 3) + 2023 := d7
  obtain ⟨d8, hds⟩ := List.forall_mem_cons.mp hds
  have d8 : v_iv (n_v vs 7) + 0 ≤ v_iv (n_v vs 8) ∧ v_iv (n_v vs 8) ≤ v_iv (n_v vs 7) + 15 := d8
  obtain ⟨d9, hds⟩ := List.forall_mem_cons.mp hds
  have d9 : v_iv (n_v vs 3) + (-4294967296) ≤ v_iv (n_v vs 4) ∧ v_iv (n_v vs 4) ≤ v_iv (n_v vs 3) + (-1) := d9
  obtain ⟨d10, hds⟩ := List.forall_mem_cons.mp hds
  have d10 : v_iv (n_v vs 3) + (-4294967296) ≤ v_iv (n_v vs 2) ∧ v_iv (n_v vs 2) ≤ v_iv (n_v vs 3) + 23 := d10
  obtain ⟨d11, hds⟩ := List.forall_mem_cons.mp hds
  have d11 : v_iv (n_v vs 4) + (-4294967296) ≤ v_iv (n_v vs 2) ∧ v_iv (n_v vs 2) ≤ v_iv (n_v vs 4) + 0 := d11
  obtain ⟨d12, hds⟩ := List.forall_mem_cons.mp hds
  have d12 : v_iv (n_v vs 2) + (-4294967296) ≤ v_iv (n_v vs 3) ∧ v_iv (n_v vs 3) ≤ v_iv (n_v vs 2) + 16 := d12
  obtain ⟨d13, hds⟩ := List.forall_mem_cons.mp hds
  have d13 : v_iv (n_v vs 4) + (-4294967296) ≤ v_iv (n_v vs 3) ∧ v_iv (n_v vs 3) ≤ v_iv (n_v vs 4) + 16 := d13
  obtain ⟨d14, hds⟩ := List.forall_mem_cons.mp hds
  have d14 : v_iv (n_v vs 3) + (-4294967296) ≤ v_iv (n_v vs 4) ∧ v_iv (n_v vs 4) ≤ v_iv (n_v vs 3) + 23 := d14
  have hf : fc_ok [(2, [9, 8, 2], []), (1, [8, 7, 4], []), (9, [7, 0], [7]), (7, [4, 3], [2]), (20, [0, 3, 2], [30, 2000, 1, 1, 7, 1, 0, 0, -1, 0, 0]), (20, [2, 4], [30, 0, 1, 0, 0, -1, 0, 0])] ta ws vs := hf
  obtain ⟨f0, hf⟩ := fc_un (show (2 : Nat) < 100 from by decide) hf
  have f0 : v_iv (n_v vs 9) = v_iv (n_v vs 8) - v_iv (n_v vs 2) := f0
  obtain ⟨f1, hf⟩ := fc_un (show (1 : Nat) < 100 from by decide) hf
  have f1 : v_iv (n_v vs 8) = v_iv (n_v vs 7) + v_iv (n_v vs 4) := f1
  obtain ⟨f2, hf⟩ := fc_un (show (9 : Nat) < 100 from by decide) hf
  have f2 : n_v vs 7 = w_fd ws (v_ad (n_v vs 0)) 7 := f2
  obtain ⟨f3, hf⟩ := fc_un (show (7 : Nat) < 100 from by decide) hf
  have f3 : v_iv (n_v vs 4) < v_iv (n_v vs 3) := f3
  obtain ⟨f4, hf⟩ := fc_un (show (20 : Nat) < 100 from by decide) hf
  have f4 : 1 * w_fi ws (n_v vs 0) 7 + (1 * v_iv (n_v vs 3) + ((-1) * v_iv (n_v vs 2) + 0)) ≤ 2000 := f4
  obtain ⟨f5, hf⟩ := fc_un (show (20 : Nat) < 100 from by decide) hf
  have f5 : 1 * v_iv (n_v vs 2) + ((-1) * v_iv (n_v vs 4) + 0) ≤ 0 := f5
  have g2 : v_iv (n_v vs 7) = w_fi ws (n_v vs 0) 7 := congrArg v_iv f2
  have kz_0_7 : 0 ≤ w_fi ws (n_v vs 0) 7 ∧ w_fi ws (n_v vs 0) 7 ≤ 2000 := tv_rng (th_fd hD hth r0 (g := GG_11) rfl (k := 7) (t := (0, 0, 2000, [])) rfl rfl)
  have rf9 : tv_ok ta (0, 0, 1999, []) (n_v vs 9) := tv_in t9 (by omega) (by omega)
  refine ⟨List.forall_mem_cons.mpr ⟨rf9, (fun _ h => (by cases h))⟩, [], trivial, ?_, (fun _ h => (by cases h))⟩
  rw [List.append_nil]
  exact (fun _ h => (by cases h))
def o_Sy_isWordAt_at_s5012_2 : or_T := (20, 12, [(0, (2, 0, 0, [11])), (2, (0, 0, 15, [])), (3, (0, 1, 16, [])), (4, (0, 0, 15, [])), (7, (0, 0, 2000, [])), (8, (0, 0, 2015, [])), (9, (0, 0, 1999, [])), (11, (0, 1, 16, []))], [(6, [11, 4], [1]), (2, [9, 8, 2], []), (1, [8, 7, 4], []), (9, [7, 0], [7]), (7, [4, 3], [2]), (20, [0, 3, 2], [30, 2000, 1, 1, 7, 1, 0, 0, -1, 0, 0]), (20, [2, 4], [30, 0, 1, 0, 0, -1, 0, 0])], [], [], [(20, [2, 11], [30, 0, 1, 0, 0, -1, 0, 0])], [], [(11, 4, 1, 1), (11, 3, -4294967296, 0), (11, 3, -4294967296, 24), (9, 8, -15, 0), (9, 4, -15, 2000), (9, 3, -4294967296, 1999), (9, 3, -4294967296, 2023), (9, 7, -15, 15), (8, 4, 0, 2000), (8, 3, -4294967296, 1999), (8, 3, -4294967296, 2023), (8, 7, 0, 15), (4, 3, -4294967296, -1), (2, 3, -4294967296, 23), (2, 4, -4294967296, 0), (3, 2, -4294967296, 16), (3, 4, -4294967296, 16), (4, 3, -4294967296, 23)])
theorem oo_Sy_isWordAt_at_s5012_2 {kA : Nat → ClassId} : or_ok kA GG o_Sy_isWordAt_at_s5012_2 := by
  intro A ta ws vs hD hth hl hk hds hf
  have hl : vs.length = 12 := hl
  have hk : ∀ q ∈ ([(0, (2, 0, 0, [11])), (2, (0, 0, 15, [])), (3, (0, 1, 16, [])), (4, (0, 0, 15, [])), (7, (0, 0, 2000, [])), (8, (0, 0, 2015, [])), (9, (0, 0, 1999, [])), (11, (0, 1, 16, []))] : List (Nat × tv_T)), tv_ok ta q.2 (n_v vs q.1) := hk
  obtain ⟨t0, hk⟩ := List.forall_mem_cons.mp hk
  have t0 : tv_ok ta (2, 0, 0, [11]) (n_v vs 0) := t0
  have r0 : ta (v_ad (n_v vs 0)) = some 11 := tv_rg t0
  obtain ⟨t2, hk⟩ := List.forall_mem_cons.mp hk
  have t2 : tv_ok ta (0, 0, 15, []) (n_v vs 2) := t2
  have k2 : 0 ≤ v_iv (n_v vs 2) ∧ v_iv (n_v vs 2) ≤ 15 := tv_rng t2
  obtain ⟨t3, hk⟩ := List.forall_mem_cons.mp hk
  have t3 : tv_ok ta (0, 1, 16, []) (n_v vs 3) := t3
  have k3 : 1 ≤ v_iv (n_v vs 3) ∧ v_iv (n_v vs 3) ≤ 16 := tv_rng t3
  obtain ⟨t4, hk⟩ := List.forall_mem_cons.mp hk
  have t4 : tv_ok ta (0, 0, 15, []) (n_v vs 4) := t4
  have k4 : 0 ≤ v_iv (n_v vs 4) ∧ v_iv (n_v vs 4) ≤ 15 := tv_rng t4
  obtain ⟨t7, hk⟩ := List.forall_mem_cons.mp hk
  have t7 : tv_ok ta (0, 0, 2000, []) (n_v vs 7) := t7
  have k7 : 0 ≤ v_iv (n_v vs 7) ∧ v_iv (n_v vs 7) ≤ 2000 := tv_rng t7
  obtain ⟨t8, hk⟩ := List.forall_mem_cons.mp hk
  have t8 : tv_ok ta (0, 0, 2015, []) (n_v vs 8) := t8
  have k8 : 0 ≤ v_iv (n_v vs 8) ∧ v_iv (n_v vs 8) ≤ 2015 := tv_rng t8
  obtain ⟨t9, hk⟩ := List.forall_mem_cons.mp hk
  have t9 : tv_ok ta (0, 0, 1999, []) (n_v vs 9) := t9
  have k9 : 0 ≤ v_iv (n_v vs 9) ∧ v_iv (n_v vs 9) ≤ 1999 := tv_rng t9
  obtain ⟨t11, hk⟩ := List.forall_mem_cons.mp hk
  have t11 : tv_ok ta (0, 1, 16, []) (n_v vs 11) := t11
  have k11 : 1 ≤ v_iv (n_v vs 11) ∧ v_iv (n_v vs 11) ≤ 16 := tv_rng t11
  have hds : ∀ q ∈ ([(11, 4, 1, 1), (11, 3, -4294967296, 0), (11, 3, -4294967296, 24), (9, 8, -15, 0), (9, 4, -15, 2000), (9, 3, -4294967296, 1999), (9, 3, -4294967296, 2023), (9, 7, -15, 15), (8, 4, 0, 2000), (8, 3, -4294967296, 1999), (8, 3, -4294967296, 2023), (8, 7, 0, 15), (4, 3, -4294967296, -1), (2, 3, -4294967296, 23), (2, 4, -4294967296, 0), (3, 2, -4294967296, 16), (3, 4, -4294967296, 16), (4, 3, -4294967296, 23)] : List of_T), n_iv vs q.2.1 + q.2.2.1 ≤ n_iv vs q.1 ∧ n_iv vs q.1 ≤ n_iv vs q.2.1 + q.2.2.2 := hds
  obtain ⟨d0, hds⟩ := List.forall_mem_cons.mp hds
  have d0 : v_iv (n_v vs 4) + 1 ≤ v_iv (n_v vs 11) ∧ v_iv (n_v vs 11) ≤ v_iv (n_v vs 4) + 1 := d0
  obtain ⟨d1, hds⟩ := List.forall_mem_cons.mp hds
  have d1 : v_iv (n_v vs 3) + (-4294967296) ≤ v_iv (n_v vs 11) ∧ v_iv (n_v vs 11) ≤ v_iv (n_v vs 3) + 0 := d1
  obtain ⟨d2, hds⟩ := List.forall_mem_cons.mp hds
  have d2 : v_iv (n_v vs 3) + (-4294967296) ≤ v_iv (n_v vs 11) ∧ v_iv (n_v vs 11) ≤ v_iv (n_v vs 3) + 24 := d2
  obtain ⟨d3, hds⟩ := List.forall_mem_cons.mp hds
  have d3 : v_iv (n_v vs 8) + (-15) ≤ v_iv (n_v vs 9) ∧ v_iv (n_v vs 9) ≤ v_iv (n_v vs 8) + 0 := d3
  obtain ⟨d4, hds⟩ := List.forall_mem_cons.mp hds
  have d4 : v_iv (n_v vs 4) + (-15) ≤ v_iv (n_v vs 9) ∧ v_iv (n_v vs 9) ≤ v_iv (n_v vs 4) + 2000 := d4
  obtain ⟨d5, hds⟩ := List.forall_mem_cons.mp hds
  have d5 : v_iv (n_v vs 3) + (-4294967296) ≤ v_iv (n_v vs 9) ∧ v_iv (n_v vs 9) ≤ v_iv (n_v vs 3) + 1999 := d5
  obtain ⟨d6, hds⟩ := List.forall_mem_cons.mp hds
  have d6 : v_iv (n_v vs 3) + (-4294967296) ≤ v_iv (n_v vs 9) ∧ v_iv (n_v vs 9) ≤ v_iv (n_v vs 3) + 2023 := d6
  obtain ⟨d7, hds⟩ := List.forall_mem_cons.mp hds
  have d7 : v_iv (n_v vs 7) + (-15) ≤ v_iv (n_v vs 9) ∧ v_iv (n_v vs 9) ≤ v_iv (n_v vs 7) + 15 := d7
  obtain ⟨d8, hds⟩ := List.forall_mem_cons.mp hds
  have d8 : v_iv (n_v vs 4) + 0 ≤ v_iv (n_v vs 8) ∧ v_iv (n_v vs 8) ≤ v_iv (n_v vs 4) + 2000 := d8
  obtain ⟨d9, hds⟩ := List.forall_mem_cons.mp hds
  have d9 : v_iv (n_v vs 3) + (-4294967296) ≤ v_iv (n_v vs 8) ∧ v_iv (n_v vs 8) ≤ v_iv (n_v vs 3) + 1999 := d9
  obtain ⟨d10, hds⟩ := List.forall_mem_cons.mp hds
  have d10 : v_iv (n_v vs 3) + (-4294967296) ≤ v_iv (n_v vs 8) ∧ v_iv (n_v vs 8) ≤ v_iv (n_v vs 3) + 2023 := d10
  obtain ⟨d11, hds⟩ := List.forall_mem_cons.mp hds
  have d11 : v_iv (n_v vs 7) + 0 ≤ v_iv (n_v vs 8) ∧ v_iv (n_v vs 8) ≤ v_iv (n_v vs 7) + 15 := d11
  obtain ⟨d12, hds⟩ := List.forall_mem_cons.mp hds
  have d12 : v_iv (n_v vs 3) + (-4294967296) ≤ v_iv (n_v vs 4) ∧ v_iv (n_v vs 4) ≤ v_iv (n_v vs 3) + (-1) := d12
  obtain ⟨d13, hds⟩ := List.forall_mem_cons.mp hds
  have d13 : v_iv (n_v vs 3) + (-4294967296) ≤ v_iv (n_v vs 2) ∧ v_iv (n_v vs 2) ≤ v_iv (n_v vs 3) + 23 := d13
  obtain ⟨d14, hds⟩ := List.forall_mem_cons.mp hds
  have d14 : v_iv (n_v vs 4) + (-4294967296) ≤ v_iv (n_v vs 2) ∧ v_iv (n_v vs 2) ≤ v_iv (n_v vs 4) + 0 := d14
  obtain ⟨d15, hds⟩ := List.forall_mem_cons.mp hds
  have d15 : v_iv (n_v vs 2) + (-4294967296) ≤ v_iv (n_v vs 3) ∧ v_iv (n_v vs 3) ≤ v_iv (n_v vs 2) + 16 := d15
  obtain ⟨d16, hds⟩ := List.forall_mem_cons.mp hds
  have d16 : v_iv (n_v vs 4) + (-4294967296) ≤ v_iv (n_v vs 3) ∧ v_iv (n_v vs 3) ≤ v_iv (n_v vs 4) + 16 := d16
  obtain ⟨d17, hds⟩ := List.forall_mem_cons.mp hds
  have d17 : v_iv (n_v vs 3) + (-4294967296) ≤ v_iv (n_v vs 4) ∧ v_iv (n_v vs 4) ≤ v_iv (n_v vs 3) + 23 := d17
  have hf : fc_ok [(6, [11, 4], [1]), (2, [9, 8, 2], []), (1, [8, 7, 4], []), (9, [7, 0], [7]), (7, [4, 3], [2]), (20, [0, 3, 2], [30, 2000, 1, 1, 7, 1, 0, 0, -1, 0, 0]), (20, [2, 4], [30, 0, 1, 0, 0, -1, 0, 0])] ta ws vs := hf
  obtain ⟨f0, hf⟩ := fc_un (show (6 : Nat) < 100 from by decide) hf
  have f0 : v_iv (n_v vs 11) = v_iv (n_v vs 4) + 1 := f0
  obtain ⟨f1, hf⟩ := fc_un (show (2 : Nat) < 100 from by decide) hf
  have f1 : v_iv (n_v vs 9) = v_iv (n_v vs 8) - v_iv (n_v vs 2) := f1
  obtain ⟨f2, hf⟩ := fc_un (show (1 : Nat) < 100 from by decide) hf
  have f2 : v_iv (n_v vs 8) = v_iv (n_v vs 7) + v_iv (n_v vs 4) := f2
  obtain ⟨f3, hf⟩ := fc_un (show (9 : Nat) < 100 from by decide) hf
  have f3 : n_v vs 7 = w_fd ws (v_ad (n_v vs 0)) 7 := f3
  obtain ⟨f4, hf⟩ := fc_un (show (7 : Nat) < 100 from by decide) hf
  have f4 : v_iv (n_v vs 4) < v_iv (n_v vs 3) := f4
  obtain ⟨f5, hf⟩ := fc_un (show (20 : Nat) < 100 from by decide) hf
  have f5 : 1 * w_fi ws (n_v vs 0) 7 + (1 * v_iv (n_v vs 3) + ((-1) * v_iv (n_v vs 2) + 0)) ≤ 2000 := f5
  obtain ⟨f6, hf⟩ := fc_un (show (20 : Nat) < 100 from by decide) hf
  have f6 : 1 * v_iv (n_v vs 2) + ((-1) * v_iv (n_v vs 4) + 0) ≤ 0 := f6
  have g3 : v_iv (n_v vs 7) = w_fi ws (n_v vs 0) 7 := congrArg v_iv f3
  have kz_0_7 : 0 ≤ w_fi ws (n_v vs 0) 7 ∧ w_fi ws (n_v vs 0) 7 ≤ 2000 := tv_rng (th_fd hD hth r0 (g := GG_11) rfl (k := 7) (t := (0, 0, 2000, [])) rfl rfl)
  have nf0 : fc_1 (20, [2, 11], [30, 0, 1, 0, 0, -1, 0, 0]) ws (vs) := by
    refine ⟨fun n hn => ?_, ?_⟩
    · have hn : n ∈ [2, 11] := hn
      rw [hl]
      simp only [List.mem_cons, List.not_mem_nil, or_false] at hn
      show n < 12; omega
    · show 1 * v_iv (n_v vs 2) + ((-1) * v_iv (n_v vs 11) + 0) ≤ 0
      omega
  refine ⟨(fun _ h => (by cases h)), [], trivial, ?_, (fun _ h => (by cases h))⟩
  rw [List.append_nil]
  exact List.forall_mem_cons.mpr ⟨⟨show (20 : Nat) < 100 from by decide, nf0⟩, (fun _ h => (by cases h))⟩
def n_Sy_isWordAt_at_s5012_an : List an_T := [(20, [(0, (2, 0, 0, [11])), (1, (2, 0, 0, [5012])), (2, (0, 0, 23, [])), (3, (0, 0, 16, [])), (4, (0, 0, 23, []))], [], (0, 0), [(0, 0, 99980), (1, 4, 23), (0, 0, 100000)], [(2, 3, -1000000000000, 23), (2, 4, -1000000000000, 0), (3, 2, -1000000000000, 16), (3, 4, -1000000000000, 16), (4, 3, -1000000000000, 23)], [((0, 3), (2, 0, 0, [109]))], [], 0, [], [(20, [0, 3, 2], [30, 2000, 1, 1, 7, 1, 0, 0, -1, 0, 0]), (20, [2, 4], [30, 0, 1, 0, 0, -1, 0, 0])])]
def t_Sy_isWordAt_at_s5012_ct : ct_L := [(91, 104, e_jStr_charAt_v169)]
set_option maxRecDepth 100000 in
theorem c_Sy_isWordAt_at_s5012 {l : Launch} {D : va_G} {kA : Nat → ClassId} : ct_ok l D kA GG y_Sy_isWordAt_at_s5012 z_Sy_isWordAt_at_s5012 e_Sy_isWordAt_at_s5012 := chk_all_ok (FT := [(21, 11, 3), (28, 11, 5), (34, 11, 7)]) (PT := []) (CT := t_Sy_isWordAt_at_s5012_ct) (KT := []) (NT := []) (AN := n_Sy_isWordAt_at_s5012_an) (OT := [o_Sy_isWordAt_at_s5012_0, o_Sy_isWordAt_at_s5012_1, o_Sy_isWordAt_at_s5012_2]) 3 200 (List.forall_mem_cons.mpr ⟨oo_Sy_isWordAt_at_s5012_0, List.forall_mem_cons.mpr ⟨oo_Sy_isWordAt_at_s5012_1, List.forall_mem_cons.mpr ⟨oo_Sy_isWordAt_at_s5012_2, List.forall_mem_nil _⟩⟩⟩) (by decide +kernel) ⟨List.forall_mem_cons.mpr ⟨gf_Sy_21, List.forall_mem_cons.mpr ⟨gf_Sy_28, List.forall_mem_cons.mpr ⟨gf_Sy_34, List.forall_mem_nil _⟩⟩⟩, List.forall_mem_nil _, List.forall_mem_cons.mpr ⟨cl_string (y := y_jStr_charAt) (i := 12) rfl rfl (by decide +kernel) rfl c_jStr_charAt_v169 wm_684 wm_11 wm_2231 wm_682 wm_683 ⟨by decide, by decide, by decide +kernel⟩ (by decide), List.forall_mem_nil _⟩, List.forall_mem_nil _, List.forall_mem_nil _, GG_pl⟩ (by decide +kernel)
def n_Mo_isBarred_an : List an_T := [(3, [(0, (2, 0, 0, [150])), (1, (0, 0, 47, [])), (2, (0, -2147483648, 2147483647, [])), (3, (0, -2147483648, 2147483647, [])), (4, (0, 0, 24, []))], [], (0, 0), [(0, 0, 99997), (1, 4, 24), (0, 0, 100000)], [], [], [], 0, [], [])]
def t_Mo_isBarred_ct : ct_L := [(1, 405, e_Mo_has), (1, 475, e_Mo_nodes), (1, 1061, e_Mo_isInBox)]
set_option maxRecDepth 100000 in
theorem c_Mo_isBarred {l : Launch} {D : va_G} {kA : Nat → ClassId} (h_Mo_has : ct_ok l D kA GG y_Mo_has z_Mo_has e_Mo_has) (h_Mo_isInBox : ct_ok l D kA GG y_Mo_isInBox z_Mo_isInBox e_Mo_isInBox) (h_Mo_nodes : ct_ok l D kA GG y_Mo_nodes z_Mo_nodes e_Mo_nodes) : ct_ok l D kA GG y_Mo_isBarred z_Mo_isBarred e_Mo_isBarred := chk_all_ok (FT := []) (PT := []) (CT := t_Mo_isBarred_ct) (KT := []) (NT := []) (AN := n_Mo_isBarred_an) (OT := []) 3 200 (List.forall_mem_nil _) (by decide +kernel) ⟨List.forall_mem_nil _, List.forall_mem_nil _, List.forall_mem_cons.mpr ⟨cl_virtual (y := y_Mo_has) (ci := 13) rfl rfl ⟨_, _, rfl⟩ (by decide +kernel) h_Mo_has wm_3041 wm_9 wm_3038 wm_3040 wv_13_7 ⟨by decide, by decide, by decide +kernel⟩ (by decide), List.forall_mem_cons.mpr ⟨cl_virtual (y := y_Mo_nodes) (ci := 13) rfl rfl ⟨_, _, rfl⟩ (by decide +kernel) h_Mo_nodes wm_3025 wm_9 wm_3022 wm_3024 wv_13_3 ⟨by decide, by decide, by decide +kernel⟩ (by decide), List.forall_mem_cons.mpr ⟨cl_virtual (y := y_Mo_isInBox) (ci := 13) rfl rfl ⟨_, _, rfl⟩ (by decide +kernel) h_Mo_isInBox wm_3688 wm_9 wm_3685 wm_3687 wv_22_1 ⟨by decide, by decide, by decide +kernel⟩ (by decide), List.forall_mem_nil _⟩⟩⟩, List.forall_mem_nil _, List.forall_mem_nil _, GG_pl⟩ (by decide +kernel)
def n_Ho_back_an : List an_T := []
def t_Ho_back_ct : ct_L := [(0, 115, e_Ho_isPlace), (1, 129, e_Ho_forget), (1, 244, e_Gr_step)]
set_option maxRecDepth 100000 in
theorem c_Ho_back {l : Launch} {D : va_G} {kA : Nat → ClassId} (h_Gr_step : ct_ok l D kA GG y_Gr_step z_Gr_step e_Gr_step) (h_Ho_forget : ct_ok l D kA GG y_Ho_forget z_Ho_forget e_Ho_forget) (h_Ho_isPlace : ct_ok l D kA GG y_Ho_isPlace z_Ho_isPlace e_Ho_isPlace) : ct_ok l D kA GG y_Ho_back z_Ho_back e_Ho_back := chk_all_ok (FT := [(13, 12, 0)]) (PT := []) (CT := t_Ho_back_ct) (KT := []) (NT := []) (AN := n_Ho_back_an) (OT := []) 0 200 (List.forall_mem_nil _) (by decide +kernel) ⟨List.forall_mem_cons.mpr ⟨gf_Ho_13, List.forall_mem_nil _⟩, List.forall_mem_nil _, List.forall_mem_cons.mpr ⟨cl_static (y := y_Ho_isPlace) h_Ho_isPlace wm_633 wm_1 wm_631 wm_632 ⟨by decide, by decide, by decide +kernel⟩ (by decide), List.forall_mem_cons.mpr ⟨cl_virtual (y := y_Ho_forget) (ci := 12) rfl rfl ⟨_, _, rfl⟩ (by decide +kernel) h_Ho_forget wm_789 wm_1 wm_786 wm_788 wv_1_13 ⟨by decide, by decide, by decide +kernel⟩ (by decide), List.forall_mem_cons.mpr ⟨cl_virtual (y := y_Gr_step) (ci := 3) rfl rfl ⟨_, _, rfl⟩ (by decide +kernel) h_Gr_step wm_1005 wm_3 wm_1002 wm_1003 wm_1004 ⟨by decide, by decide, by decide +kernel⟩ (by decide), List.forall_mem_nil _⟩⟩⟩, List.forall_mem_nil _, List.forall_mem_nil _, GG_pl⟩ (by decide +kernel)
def n_Mo_crossAtShared_an : List an_T := [(3, [(0, (2, 0, 0, [150])), (1, (0, 0, 47, [])), (2, (0, 0, 47, [])), (3, (1, -2147483648, 2147483647, [])), (5, (1, -2147483648, 2147483647, [])), (7, (1, -2147483648, 2147483647, [])), (9, (1, -2147483648, 2147483647, [])), (11, (1, -2147483648, 2147483647, [])), (13, (1, -2147483648, 2147483647, [])), (15, (1, -2147483648, 2147483647, [])), (17, (1, -2147483648, 2147483647, [])), (19, (0, 0, 24, []))], [], (0, 0), [(0, 0, 99997), (1, 11, 24), (0, 0, 100000)], [], [], [], 0, [], [])]
def t_Mo_crossAtShared_ct : ct_L := [(0, 1107, e_Mo_isOn), (1, 405, e_Mo_has), (1, 475, e_Mo_nodes), (1, 1023, e_Mo_px), (1, 1029, e_Mo_py)]
set_option maxRecDepth 100000 in
theorem c_Mo_crossAtShared {l : Launch} {D : va_G} {kA : Nat → ClassId} (h_Mo_has : ct_ok l D kA GG y_Mo_has z_Mo_has e_Mo_has) (h_Mo_isOn : ct_ok l D kA GG y_Mo_isOn z_Mo_isOn e_Mo_isOn) (h_Mo_nodes : ct_ok l D kA GG y_Mo_nodes z_Mo_nodes e_Mo_nodes) (h_Mo_px : ct_ok l D kA GG y_Mo_px z_Mo_px e_Mo_px) (h_Mo_py : ct_ok l D kA GG y_Mo_py z_Mo_py e_Mo_py) : ct_ok l D kA GG y_Mo_crossAtShared z_Mo_crossAtShared e_Mo_crossAtShared := chk_all_ok (FT := []) (PT := []) (CT := t_Mo_crossAtShared_ct) (KT := []) (NT := []) (AN := n_Mo_crossAtShared_an) (OT := []) 3 336 (List.forall_mem_nil _) (by decide +kernel) ⟨List.forall_mem_nil _, List.forall_mem_nil _, List.forall_mem_cons.mpr ⟨cl_static (y := y_Mo_isOn) h_Mo_isOn wm_3755 wm_9 wm_3753 wm_3754 ⟨by decide, by decide, by decide +kernel⟩ (by decide), List.forall_mem_cons.mpr ⟨cl_virtual (y := y_Mo_has) (ci := 13) rfl rfl ⟨_, _, rfl⟩ (by decide +kernel) h_Mo_has wm_3041 wm_9 wm_3038 wm_3040 wv_13_7 ⟨by decide, by decide, by decide +kernel⟩ (by decide), List.forall_mem_cons.mpr ⟨cl_virtual (y := y_Mo_nodes) (ci := 13) rfl rfl ⟨_, _, rfl⟩ (by decide +kernel) h_Mo_nodes wm_3025 wm_9 wm_3022 wm_3024 wv_13_3 ⟨by decide, by decide, by decide +kernel⟩ (by decide), List.forall_mem_cons.mpr ⟨cl_virtual (y := y_Mo_px) (ci := 13) rfl rfl ⟨_, _, rfl⟩ (by decide +kernel) h_Mo_px wm_3675 wm_9 wm_3672 wm_3674 wv_21_14 ⟨by decide, by decide, by decide +kernel⟩ (by decide), List.forall_mem_cons.mpr ⟨cl_virtual (y := y_Mo_py) (ci := 13) rfl rfl ⟨_, _, rfl⟩ (by decide +kernel) h_Mo_py wm_3679 wm_9 wm_3676 wm_3678 wv_21_15 ⟨by decide, by decide, by decide +kernel⟩ (by decide), List.forall_mem_nil _⟩⟩⟩⟩⟩, List.forall_mem_nil _, List.forall_mem_nil _, GG_pl⟩ (by decide +kernel)
def o_Mo_cut_0 : or_T := (40, 12, [(0, (2, 0, 0, [150])), (1, (0, 0, 159, [])), (3, (0, 1, 160, [])), (4, (2, 0, 0, [183])), (5, (0, 1, 1, [])), (6, (0, 1, 160, [])), (7, (0, 4, 160, [])), (8, (0, 0, 160, [])), (9, (0, 4, 160, [])), (10, (0, 3, 3, []))], [(7, [9, 10], [4]), (2, [9, 7, 8], []), (10, [8, 4, 1], []), (9, [4, 0], [56]), (10, [7, 4, 6], []), (1, [6, 1, 5], []), (7, [1, 3], [2]), (9, [3, 0], [53])], [], [], [(20, [0, 1, 9], [30, 160, 1, 2, 56, 1, 0, 0])], [], [(9, 7, -160, 0), (6, 1, 1, 1), (6, 3, -4294967296, 0), (1, 3, -4294967296, -1)])
theorem oo_Mo_cut_0 {kA : Nat → ClassId} : or_ok kA GG o_Mo_cut_0 := by
  intro A ta ws vs hD hth hl hk hds hf
  have hl : vs.length = 12 := hl
  have hk : ∀ q ∈ ([(0, (2, 0, 0, [150])), (1, (0, 0, 159, [])), (3, (0, 1, 160, [])), (4, (2, 0, 0, [183])), (5, (0, 1, 1, [])), (6, (0, 1, 160, [])), (7, (0, 4, 160, [])), (8, (0, 0, 160, [])), (9, (0, 4, 160, [])), (10, (0, 3, 3, []))] : List (Nat × tv_T)), tv_ok ta q.2 (n_v vs q.1) := hk
  obtain ⟨t0, hk⟩ := List.forall_mem_cons.mp hk
  have t0 : tv_ok ta (2, 0, 0, [150]) (n_v vs 0) := t0
  have r0 : ta (v_ad (n_v vs 0)) = some 150 := tv_rg t0
  obtain ⟨t1, hk⟩ := List.forall_mem_cons.mp hk
  have t1 : tv_ok ta (0, 0, 159, []) (n_v vs 1) := t1
  have k1 : 0 ≤ v_iv (n_v vs 1) ∧ v_iv (n_v vs 1) ≤ 159 := tv_rng t1
  obtain ⟨t3, hk⟩ := List.forall_mem_cons.mp hk
  have t3 : tv_ok ta (0, 1, 160, []) (n_v vs 3) := t3
  have k3 : 1 ≤ v_iv (n_v vs 3) ∧ v_iv (n_v vs 3) ≤ 160 := tv_rng t3
  obtain ⟨t4, hk⟩ := List.forall_mem_cons.mp hk
  have t4 : tv_ok ta (2, 0, 0, [183]) (n_v vs 4) := t4
  have r4 : ta (v_ad (n_v vs 4)) = some 183 := tv_rg t4
  obtain ⟨t5, hk⟩ := List.forall_mem_cons.mp hk
  have t5 : tv_ok ta (0, 1, 1, []) (n_v vs 5) := t5
  have k5 : 1 ≤ v_iv (n_v vs 5) ∧ v_iv (n_v vs 5) ≤ 1 := tv_rng t5
  obtain ⟨t6, hk⟩ := List.forall_mem_cons.mp hk
  have t6 : tv_ok ta (0, 1, 160, []) (n_v vs 6) := t6
  have k6 : 1 ≤ v_iv (n_v vs 6) ∧ v_iv (n_v vs 6) ≤ 160 := tv_rng t6
  obtain ⟨t7, hk⟩ := List.forall_mem_cons.mp hk
  have t7 : tv_ok ta (0, 4, 160, []) (n_v vs 7) := t7
  have k7 : 4 ≤ v_iv (n_v vs 7) ∧ v_iv (n_v vs 7) ≤ 160 := tv_rng t7
  obtain ⟨t8, hk⟩ := List.forall_mem_cons.mp hk
  have t8 : tv_ok ta (0, 0, 160, []) (n_v vs 8) := t8
  have k8 : 0 ≤ v_iv (n_v vs 8) ∧ v_iv (n_v vs 8) ≤ 160 := tv_rng t8
  obtain ⟨t9, hk⟩ := List.forall_mem_cons.mp hk
  have t9 : tv_ok ta (0, 4, 160, []) (n_v vs 9) := t9
  have k9 : 4 ≤ v_iv (n_v vs 9) ∧ v_iv (n_v vs 9) ≤ 160 := tv_rng t9
  obtain ⟨t10, hk⟩ := List.forall_mem_cons.mp hk
  have t10 : tv_ok ta (0, 3, 3, []) (n_v vs 10) := t10
  have k10 : 3 ≤ v_iv (n_v vs 10) ∧ v_iv (n_v vs 10) ≤ 3 := tv_rng t10
  have hds : ∀ q ∈ ([(9, 7, -160, 0), (6, 1, 1, 1), (6, 3, -4294967296, 0), (1, 3, -4294967296, -1)] : List of_T), n_iv vs q.2.1 + q.2.2.1 ≤ n_iv vs q.1 ∧ n_iv vs q.1 ≤ n_iv vs q.2.1 + q.2.2.2 := hds
  obtain ⟨d0, hds⟩ := List.forall_mem_cons.mp hds
  have d0 : v_iv (n_v vs 7) + (-160) ≤ v_iv (n_v vs 9) ∧ v_iv (n_v vs 9) ≤ v_iv (n_v vs 7) + 0 := d0
  obtain ⟨d1, hds⟩ := List.forall_mem_cons.mp hds
  have d1 : v_iv (n_v vs 1) + 1 ≤ v_iv (n_v vs 6) ∧ v_iv (n_v vs 6) ≤ v_iv (n_v vs 1) + 1 := d1
  obtain ⟨d2, hds⟩ := List.forall_mem_cons.mp hds
  have d2 : v_iv (n_v vs 3) + (-4294967296) ≤ v_iv (n_v vs 6) ∧ v_iv (n_v vs 6) ≤ v_iv (n_v vs 3) + 0 := d2
  obtain ⟨d3, hds⟩ := List.forall_mem_cons.mp hds
  have d3 : v_iv (n_v vs 3) + (-4294967296) ≤ v_iv (n_v vs 1) ∧ v_iv (n_v vs 1) ≤ v_iv (n_v vs 3) + (-1) := d3
  have hf : fc_ok [(7, [9, 10], [4]), (2, [9, 7, 8], []), (10, [8, 4, 1], []), (9, [4, 0], [56]), (10, [7, 4, 6], []), (1, [6, 1, 5], []), (7, [1, 3], [2]), (9, [3, 0], [53])] ta ws vs := hf
  obtain ⟨f0, hf⟩ := fc_un (show (7 : Nat) < 100 from by decide) hf
  have f0 : v_iv (n_v vs 10) < v_iv (n_v vs 9) := f0
  obtain ⟨f1, hf⟩ := fc_un (show (2 : Nat) < 100 from by decide) hf
  have f1 : v_iv (n_v vs 9) = v_iv (n_v vs 7) - v_iv (n_v vs 8) := f1
  obtain ⟨f2, hf⟩ := fc_un (show (10 : Nat) < 100 from by decide) hf
  have f2 : v_iv (n_v vs 8) = w_el ws (v_ad (n_v vs 4)) (v_iv (n_v vs 1)).toNat := f2
  obtain ⟨f3, hf⟩ := fc_un (show (9 : Nat) < 100 from by decide) hf
  have f3 : n_v vs 4 = w_fd ws (v_ad (n_v vs 0)) 56 := f3
  obtain ⟨f4, hf⟩ := fc_un (show (10 : Nat) < 100 from by decide) hf
  have f4 : v_iv (n_v vs 7) = w_el ws (v_ad (n_v vs 4)) (v_iv (n_v vs 6)).toNat := f4
  obtain ⟨f5, hf⟩ := fc_un (show (1 : Nat) < 100 from by decide) hf
  have f5 : v_iv (n_v vs 6) = v_iv (n_v vs 1) + v_iv (n_v vs 5) := f5
  obtain ⟨f6, hf⟩ := fc_un (show (7 : Nat) < 100 from by decide) hf
  have f6 : v_iv (n_v vs 1) < v_iv (n_v vs 3) := f6
  obtain ⟨f7, hf⟩ := fc_un (show (9 : Nat) < 100 from by decide) hf
  have f7 : n_v vs 3 = w_fd ws (v_ad (n_v vs 0)) 53 := f7
  have cr_0_56 : ta (w_ar ws (n_v vs 0) 56) = some 183 := tv_rg (th_fd hD hth r0 (g := GG_150) rfl (k := 56) (t := (2, 0, 0, [183])) rfl rfl)
  have ad_4 : v_ad (n_v vs 4) = w_ar ws (n_v vs 0) 56 := congrArg v_ad f3
  rw [ad_4] at f2
  rw [ad_4] at f4
  have g7 : v_iv (n_v vs 3) = w_fi ws (n_v vs 0) 53 := congrArg v_iv f7
  have kz_0_53 : 0 ≤ w_fi ws (n_v vs 0) 53 ∧ w_fi ws (n_v vs 0) 53 ≤ 160 := tv_rng (th_fd hD hth r0 (g := GG_150) rfl (k := 53) (t := (0, 0, 160, [])) rfl rfl)
  have nf0 : fc_1 (20, [0, 1, 9], [30, 160, 1, 2, 56, 1, 0, 0]) ws (vs) := by
    refine ⟨fun n hn => ?_, ?_⟩
    · have hn : n ∈ [0, 1, 9] := hn
      rw [hl]
      simp only [List.mem_cons, List.not_mem_nil, or_false] at hn
      show n < 12; omega
    · show 1 * w_el ws (w_ar ws (n_v vs 0) 56) (v_iv (n_v vs 1)).toNat + (1 * v_iv (n_v vs 9) + 0) ≤ 160
      omega
  refine ⟨(fun _ h => (by cases h)), [], trivial, ?_, (fun _ h => (by cases h))⟩
  rw [List.append_nil]
  exact List.forall_mem_cons.mpr ⟨⟨show (20 : Nat) < 100 from by decide, nf0⟩, (fun _ h => (by cases h))⟩
def o_Mo_cut_1 : or_T := (57, 9, [(0, (2, 0, 0, [150])), (1, (0, 0, 159, [])), (2, (0, 4, 160, [])), (3, (0, 0, 159, [])), (6, (2, 0, 0, [183])), (7, (0, 0, 160, [])), (8, (0, 0, 319, []))], [(1, [8, 7, 3], []), (10, [7, 6, 1], []), (9, [6, 0], [56]), (7, [3, 2], [2]), (20, [0, 1, 2], [30, 160, 1, 2, 56, 1, 0, 0])], [(8, (0, 0, 159, []))], [], [], [], [(8, 3, 0, 160), (8, 2, -4294967296, 159), (8, 7, 0, 159), (3, 2, -4294967296, -1), (2, 1, -4294967296, 160), (2, 3, -4294967296, 160)])
theorem oo_Mo_cut_1 {kA : Nat → ClassId} : or_ok kA GG o_Mo_cut_1 := by
  intro A ta ws vs hD hth hl hk hds hf
  have hl : vs.length = 9 := hl
  have hk : ∀ q ∈ ([(0, (2, 0, 0, [150])), (1, (0, 0, 159, [])), (2, (0, 4, 160, [])), (3, (0, 0, 159, [])), (6, (2, 0, 0, [183])), (7, (0, 0, 160, [])), (8, (0, 0, 319, []))] : List (Nat × tv_T)), tv_ok ta q.2 (n_v vs q.1) := hk
  obtain ⟨t0, hk⟩ := List.forall_mem_cons.mp hk
  have t0 : tv_ok ta (2, 0, 0, [150]) (n_v vs 0) := t0
  have r0 : ta (v_ad (n_v vs 0)) = some 150 := tv_rg t0
  obtain ⟨t1, hk⟩ := List.forall_mem_cons.mp hk
  have t1 : tv_ok ta (0, 0, 159, []) (n_v vs 1) := t1
  have k1 : 0 ≤ v_iv (n_v vs 1) ∧ v_iv (n_v vs 1) ≤ 159 := tv_rng t1
  obtain ⟨t2, hk⟩ := List.forall_mem_cons.mp hk
  have t2 : tv_ok ta (0, 4, 160, []) (n_v vs 2) := t2
  have k2 : 4 ≤ v_iv (n_v vs 2) ∧ v_iv (n_v vs 2) ≤ 160 := tv_rng t2
  obtain ⟨t3, hk⟩ := List.forall_mem_cons.mp hk
  have t3 : tv_ok ta (0, 0, 159, []) (n_v vs 3) := t3
  have k3 : 0 ≤ v_iv (n_v vs 3) ∧ v_iv (n_v vs 3) ≤ 159 := tv_rng t3
  obtain ⟨t6, hk⟩ := List.forall_mem_cons.mp hk
  have t6 : tv_ok ta (2, 0, 0, [183]) (n_v vs 6) := t6
  have r6 : ta (v_ad (n_v vs 6)) = some 183 := tv_rg t6
  obtain ⟨t7, hk⟩ := List.forall_mem_cons.mp hk
  have t7 : tv_ok ta (0, 0, 160, []) (n_v vs 7) := t7
  have k7 : 0 ≤ v_iv (n_v vs 7) ∧ v_iv (n_v vs 7) ≤ 160 := tv_rng t7
  obtain ⟨t8, hk⟩ := List.forall_mem_cons.mp hk
  have t8 : tv_ok ta (0, 0, 319, []) (n_v vs 8) := t8
  have k8 : 0 ≤ v_iv (n_v vs 8) ∧ v_iv (n_v vs 8) ≤ 319 := tv_rng t8
  have hds : ∀ q ∈ ([(8, 3, 0, 160), (8, 2, -4294967296, 159), (8, 7, 0, 159), (3, 2, -4294967296, -1), (2, 1, -4294967296, 160), (2, 3, -4294967296, 160)] : List of_T), n_iv vs q.2.1 + q.2.2.1 ≤ n_iv vs q.1 ∧ n_iv vs q.1 ≤ n_iv vs q.2.1 + q.2.2.2 := hds
  obtain ⟨d0, hds⟩ := List.forall_mem_cons.mp hds
  have d0 : v_iv (n_v vs 3) + 0 ≤ v_iv (n_v vs 8) ∧ v_iv (n_v vs 8) ≤ v_iv (n_v vs 3) + 160 := d0
  obtain ⟨d1, hds⟩ := List.forall_mem_cons.mp hds
  have d1 : v_iv (n_v vs 2) + (-4294967296) ≤ v_iv (n_v vs 8) ∧ v_iv (n_v vs 8) ≤ v_iv (n_v vs 2) + 159 := d1
  obtain ⟨d2, hds⟩ := List.forall_mem_cons.mp hds
  have d2 : v_iv (n_v vs 7) + 0 ≤ v_iv (n_v vs 8) ∧ v_iv (n_v vs 8) ≤ v_iv (n_v vs 7) + 159 := d2
  obtain ⟨d3, hds⟩ := List.forall_mem_cons.mp hds
  have d3 : v_iv (n_v vs 2) + (-4294967296) ≤ v_iv (n_v vs 3) ∧ v_iv (n_v vs 3) ≤ v_iv (n_v vs 2) + (-1) := d3
  obtain ⟨d4, hds⟩ := List.forall_mem_cons.mp hds
  have d4 : v_iv (n_v vs 1) + (-4294967296) ≤ v_iv (n_v vs 2) ∧ v_iv (n_v vs 2) ≤ v_iv (n_v vs 1) + 160 := d4
  obtain ⟨d5, hds⟩ := List.forall_mem_cons.mp hds
  have d5 : v_iv (n_v vs 3) + (-4294967296) ≤ v_iv (n_v vs 2) ∧ v_iv (n_v vs 2) ≤ v_iv (n_v vs 3) + 160 := d5
  have hf : fc_ok [(1, [8, 7, 3], []), (10, [7, 6, 1], []), (9, [6, 0], [56]), (7, [3, 2], [2]), (20, [0, 1, 2], [30, 160, 1, 2, 56, 1, 0, 0])] ta ws vs := hf
  obtain ⟨f0, hf⟩ := fc_un (show (1 : Nat) < 100 from by decide) hf
  have f0 : v_iv (n_v vs 8) = v_iv (n_v vs 7) + v_iv (n_v vs 3) := f0
  obtain ⟨f1, hf⟩ := fc_un (show (10 : Nat) < 100 from by decide) hf
  have f1 : v_iv (n_v vs 7) = w_el ws (v_ad (n_v vs 6)) (v_iv (n_v vs 1)).toNat := f1
  obtain ⟨f2, hf⟩ := fc_un (show (9 : Nat) < 100 from by decide) hf
  have f2 : n_v vs 6 = w_fd ws (v_ad (n_v vs 0)) 56 := f2
  obtain ⟨f3, hf⟩ := fc_un (show (7 : Nat) < 100 from by decide) hf
  have f3 : v_iv (n_v vs 3) < v_iv (n_v vs 2) := f3
  obtain ⟨f4, hf⟩ := fc_un (show (20 : Nat) < 100 from by decide) hf
  have f4 : 1 * w_el ws (w_ar ws (n_v vs 0) 56) (v_iv (n_v vs 1)).toNat + (1 * v_iv (n_v vs 2) + 0) ≤ 160 := f4
  have cr_0_56 : ta (w_ar ws (n_v vs 0) 56) = some 183 := tv_rg (th_fd hD hth r0 (g := GG_150) rfl (k := 56) (t := (2, 0, 0, [183])) rfl rfl)
  have ad_6 : v_ad (n_v vs 6) = w_ar ws (n_v vs 0) 56 := congrArg v_ad f2
  rw [ad_6] at f1
  have rf8 : tv_ok ta (0, 0, 159, []) (n_v vs 8) := tv_in t8 (by omega) (by omega)
  refine ⟨List.forall_mem_cons.mpr ⟨rf8, (fun _ h => (by cases h))⟩, [], trivial, ?_, (fun _ h => (by cases h))⟩
  rw [List.append_nil]
  exact (fun _ h => (by cases h))
def o_Mo_cut_2 : or_T := (76, 15, [(0, (2, 0, 0, [150])), (1, (0, 0, 159, [])), (2, (0, 4, 160, [])), (3, (0, 0, 159, [])), (6, (2, 0, 0, [183])), (7, (0, 0, 160, [])), (8, (0, 0, 159, [])), (10, (0, 0, 160, [])), (13, (0, 0, 159, [])), (14, (0, 0, 319, []))], [(1, [14, 10, 13], []), (10, [10, 6, 1], []), (9, [6, 0], [56]), (1, [8, 7, 3], []), (10, [7, 6, 1], []), (7, [3, 2], [2]), (20, [0, 1, 2], [30, 160, 1, 2, 56, 1, 0, 0])], [(14, (0, 0, 159, []))], [], [], [], [(14, 13, 0, 160), (14, 2, -4294967295, 159), (14, 1, -4294967296, 319), (14, 3, -4294967296, 319), (14, 10, 0, 159), (13, 2, -4294967295, -1), (13, 1, -4294967296, 159), (13, 3, -4294967296, 159), (8, 3, 0, 160), (8, 2, -4294967296, 159), (8, 7, 0, 159), (3, 2, -4294967296, -1), (2, 1, -4294967296, 160), (2, 3, -4294967296, 160)])
theorem oo_Mo_cut_2 {kA : Nat → ClassId} : or_ok kA GG o_Mo_cut_2 := by
  intro A ta ws vs hD hth hl hk hds hf
  have hl : vs.length = 15 := hl
  have hk : ∀ q ∈ ([(0, (2, 0, 0, [150])), (1, (0, 0, 159, [])), (2, (0, 4, 160, [])), (3, (0, 0, 159, [])), (6, (2, 0, 0, [183])), (7, (0, 0, 160, [])), (8, (0, 0, 159, [])), (10, (0, 0, 160, [])), (13, (0, 0, 159, [])), (14, (0, 0, 319, []))] : List (Nat × tv_T)), tv_ok ta q.2 (n_v vs q.1) := hk
  obtain ⟨t0, hk⟩ := List.forall_mem_cons.mp hk
  have t0 : tv_ok ta (2, 0, 0, [150]) (n_v vs 0) := t0
  have r0 : ta (v_ad (n_v vs 0)) = some 150 := tv_rg t0
  obtain ⟨t1, hk⟩ := List.forall_mem_cons.mp hk
  have t1 : tv_ok ta (0, 0, 159, []) (n_v vs 1) := t1
  have k1 : 0 ≤ v_iv (n_v vs 1) ∧ v_iv (n_v vs 1) ≤ 159 := tv_rng t1
  obtain ⟨t2, hk⟩ := List.forall_mem_cons.mp hk
  have t2 : tv_ok ta (0, 4, 160, []) (n_v vs 2) := t2
  have k2 : 4 ≤ v_iv (n_v vs 2) ∧ v_iv (n_v vs 2) ≤ 160 := tv_rng t2
  obtain ⟨t3, hk⟩ := List.forall_mem_cons.mp hk
  have t3 : tv_ok ta (0, 0, 159, []) (n_v vs 3) := t3
  have k3 : 0 ≤ v_iv (n_v vs 3) ∧ v_iv (n_v vs 3) ≤ 159 := tv_rng t3
  obtain ⟨t6, hk⟩ := List.forall_mem_cons.mp hk
  have t6 : tv_ok ta (2, 0, 0, [183]) (n_v vs 6) := t6
  have r6 : ta (v_ad (n_v vs 6)) = some 183 := tv_rg t6
  obtain ⟨t7, hk⟩ := List.forall_mem_cons.mp hk
  have t7 : tv_ok ta (0, 0, 160, []) (n_v vs 7) := t7
  have k7 : 0 ≤ v_iv (n_v vs 7) ∧ v_iv (n_v vs 7) ≤ 160 := tv_rng t7
  obtain ⟨t8, hk⟩ := List.forall_mem_cons.mp hk
  have t8 : tv_ok ta (0, 0, 159, []) (n_v vs 8) := t8
  have k8 : 0 ≤ v_iv (n_v vs 8) ∧ v_iv (n_v vs 8) ≤ 159 := tv_rng t8
  obtain ⟨t10, hk⟩ := List.forall_mem_cons.mp hk
  have t10 : tv_ok ta (0, 0, 160, []) (n_v vs 10) := t10
  have k10 : 0 ≤ v_iv (n_v vs 10) ∧ v_iv (n_v vs 10) ≤ 160 := tv_rng t10
  obtain ⟨t13, hk⟩ := List.forall_mem_cons.mp hk
  have t13 : tv_ok ta (0, 0, 159, []) (n_v vs 13) := t13
  have k13 : 0 ≤ v_iv (n_v vs 13) ∧ v_iv (n_v vs 13) ≤ 159 := tv_rng t13
  obtain ⟨t14, hk⟩ := List.forall_mem_cons.mp hk
  have t14 : tv_ok ta (0, 0, 319, []) (n_v vs 14) := t14
  have k14 : 0 ≤ v_iv (n_v vs 14) ∧ v_iv (n_v vs 14) ≤ 319 := tv_rng t14
  have hds : ∀ q ∈ ([(14, 13, 0, 160), (14, 2, -4294967295, 159), (14, 1, -4294967296, 319), (14, 3, -4294967296, 319), (14, 10, 0, 159), (13, 2, -4294967295, -1), (13, 1, -4294967296, 159), (13, 3, -4294967296, 159), (8, 3, 0, 160), (8, 2, -4294967296, 159), (8, 7, 0, 159), (3, 2, -4294967296, -1), (2, 1, -4294967296, 160), (2, 3, -4294967296, 160)] : List of_T), n_iv vs q.2.1 + q.2.2.1 ≤ n_iv vs q.1 ∧ n_iv vs q.1 ≤ n_iv vs q.2.1 + q.2.2.2 := hds
  obtain ⟨d0, hds⟩ := List.forall_mem_cons.mp hds
  have d0 : v_iv (n_v vs 13) + 0 ≤ v_iv (n_v vs 14) ∧ v_iv (n_v vs 14) ≤ v_iv (n_v vs 13) + 160 := d0
  obtain ⟨d1, hds⟩ := List.forall_mem_cons.mp hds
  have d1 : v_iv (n_v vs 2) + (-4294967295) ≤ v_iv (n_v vs 14) ∧ v_iv (n_v vs 14) ≤ v_iv (n_v vs 2) + 159 := d1
  obtain ⟨d2, hds⟩ := List.forall_mem_cons.mp hds
  have d2 : v_iv (n_v vs 1) + (-4294967296) ≤ v_iv (n_v vs 14) ∧ v_iv (n_v vs 14) ≤ v_iv (n_v vs 1) + 319 := d2
  obtain ⟨d3, hds⟩ := List.forall_mem_cons.mp hds
  have d3 : v_iv (n_v vs 3) + (-4294967296) ≤ v_iv (n_v vs 14) ∧ v_iv (n_v vs 14) ≤ v_iv (n_v vs 3) + 319 := d3
  obtain ⟨d4, hds⟩ := List.forall_mem_cons.mp hds
  have d4 : v_iv (n_v vs 10) + 0 ≤ v_iv (n_v vs 14) ∧ v_iv (n_v vs 14) ≤ v_iv (n_v vs 10) + 159 := d4
  obtain ⟨d5, hds⟩ := List.forall_mem_cons.mp hds
  have d5 : v_iv (n_v vs 2) + (-4294967295) ≤ v_iv (n_v vs 13) ∧ v_iv (n_v vs 13) ≤ v_iv (n_v vs 2) + (-1) := d5
  obtain ⟨d6, hds⟩ := List.forall_mem_cons.mp hds
  have d6 : v_iv (n_v vs 1) + (-4294967296) ≤ v_iv (n_v vs 13) ∧ v_iv (n_v vs 13) ≤ v_iv (n_v vs 1) + 159 := d6
  obtain ⟨d7, hds⟩ := List.forall_mem_cons.mp hds
  have d7 : v_iv (n_v vs 3) + (-4294967296) ≤ v_iv (n_v vs 13) ∧ v_iv (n_v vs 13) ≤ v_iv (n_v vs 3) + 159 := d7
  obtain ⟨d8, hds⟩ := List.forall_mem_cons.mp hds
  have d8 : v_iv (n_v vs 3) + 0 ≤ v_iv (n_v vs 8) ∧ v_iv (n_v vs 8) ≤ v_iv (n_v vs 3) + 160 := d8
  obtain ⟨d9, hds⟩ := List.forall_mem_cons.mp hds
  have d9 : v_iv (n_v vs 2) + (-4294967296) ≤ v_iv (n_v vs 8) ∧ v_iv (n_v vs 8) ≤ v_iv (n_v vs 2) + 159 := d9
  obtain ⟨d10, hds⟩ := List.forall_mem_cons.mp hds
  have d10 : v_iv (n_v vs 7) + 0 ≤ v_iv (n_v vs 8) ∧ v_iv (n_v vs 8) ≤ v_iv (n_v vs 7) + 159 := d10
  obtain ⟨d11, hds⟩ := List.forall_mem_cons.mp hds
  have d11 : v_iv (n_v vs 2) + (-4294967296) ≤ v_iv (n_v vs 3) ∧ v_iv (n_v vs 3) ≤ v_iv (n_v vs 2) + (-1) := d11
  obtain ⟨d12, hds⟩ := List.forall_mem_cons.mp hds
  have d12 : v_iv (n_v vs 1) + (-4294967296) ≤ v_iv (n_v vs 2) ∧ v_iv (n_v vs 2) ≤ v_iv (n_v vs 1) + 160 := d12
  obtain ⟨d13, hds⟩ := List.forall_mem_cons.mp hds
  have d13 : v_iv (n_v vs 3) + (-4294967296) ≤ v_iv (n_v vs 2) ∧ v_iv (n_v vs 2) ≤ v_iv (n_v vs 3) + 160 := d13
  have hf : fc_ok [(1, [14, 10, 13], []), (10, [10, 6, 1], []), (9, [6, 0], [56]), (1, [8, 7, 3], []), (10, [7, 6, 1], []), (7, [3, 2], [2]), (20, [0, 1, 2], [30, 160, 1, 2, 56, 1, 0, 0])] ta ws vs := hf
  obtain ⟨f0, hf⟩ := fc_un (show (1 : Nat) < 100 from by decide) hf
  have f0 : v_iv (n_v vs 14) = v_iv (n_v vs 10) + v_iv (n_v vs 13) := f0
  obtain ⟨f1, hf⟩ := fc_un (show (10 : Nat) < 100 from by decide) hf
  have f1 : v_iv (n_v vs 10) = w_el ws (v_ad (n_v vs 6)) (v_iv (n_v vs 1)).toNat := f1
  obtain ⟨f2, hf⟩ := fc_un (show (9 : Nat) < 100 from by decide) hf
  have f2 : n_v vs 6 = w_fd ws (v_ad (n_v vs 0)) 56 := f2
  obtain ⟨f3, hf⟩ := fc_un (show (1 : Nat) < 100 from by decide) hf
  have f3 : v_iv (n_v vs 8) = v_iv (n_v vs 7) + v_iv (n_v vs 3) := f3
  obtain ⟨f4, hf⟩ := fc_un (show (10 : Nat) < 100 from by decide) hf
  have f4 : v_iv (n_v vs 7) = w_el ws (v_ad (n_v vs 6)) (v_iv (n_v vs 1)).toNat := f4
  obtain ⟨f5, hf⟩ := fc_un (show (7 : Nat) < 100 from by decide) hf
  have f5 : v_iv (n_v vs 3) < v_iv (n_v vs 2) := f5
  obtain ⟨f6, hf⟩ := fc_un (show (20 : Nat) < 100 from by decide) hf
  have f6 : 1 * w_el ws (w_ar ws (n_v vs 0) 56) (v_iv (n_v vs 1)).toNat + (1 * v_iv (n_v vs 2) + 0) ≤ 160 := f6
  have cr_0_56 : ta (w_ar ws (n_v vs 0) 56) = some 183 := tv_rg (th_fd hD hth r0 (g := GG_150) rfl (k := 56) (t := (2, 0, 0, [183])) rfl rfl)
  have ad_6 : v_ad (n_v vs 6) = w_ar ws (n_v vs 0) 56 := congrArg v_ad f2
  rw [ad_6] at f1
  rw [ad_6] at f4
  have rf14 : tv_ok ta (0, 0, 159, []) (n_v vs 14) := tv_in t14 (by omega) (by omega)
  refine ⟨List.forall_mem_cons.mpr ⟨rf14, (fun _ h => (by cases h))⟩, [], trivial, ?_, (fun _ h => (by cases h))⟩
  rw [List.append_nil]
  exact (fun _ h => (by cases h))
def n_Mo_cut_an : List an_T := [(6, [(0, (2, 0, 0, [150])), (1, (0, 0, 160, []))], [], (0, 0), [(0, 0, 99994), (1, 1, 160), (0, 0, 100000), (0, 0, 0), (0, 0, 0)], [(2, 1, -1000000000000, 80)], [((0, 32), (0, 0, 80, []))], [], 0, [], []), (40, [(0, (2, 0, 0, [150])), (1, (0, 0, 159, [])), (2, (0, 4, 160, [])), (3, (0, 0, 160, []))], [], (0, 0), [(0, 0, 99994), (1, 1, 160), (0, 0, 99960), (1, 3, 160), (0, 0, 100000)], [(2, 1, -1000000000000, 160), (2, 3, -1000000000000, 160), (2, 4, -1000000000000, 160), (4, 1, -1000000000000, 80), (4, 2, -1000000000000, 76), (4, 3, -1000000000000, 80)], [((0, 32), (0, 0, 80, []))], [], 0, [], [(20, [0, 1, 2], [30, 160, 1, 2, 56, 1, 0, 0])])]
def t_Mo_cut_ct : ct_L := [(1, 646, e_Mo_edgeOf), (1, 680, e_Mo_toOf), (1, 707, e_Mo_goRound), (1, 713, e_Mo_fromOf), (1, 886, e_Mo_newLine), (1, 898, e_Mo_putAhead), (1, 901, e_Mo_putBehind)]
set_option maxRecDepth 100000 in
theorem c_Mo_cut {l : Launch} {D : va_G} {kA : Nat → ClassId} (h_Mo_edgeOf : ct_ok l D kA GG y_Mo_edgeOf z_Mo_edgeOf e_Mo_edgeOf) (h_Mo_fromOf : ct_ok l D kA GG y_Mo_fromOf z_Mo_fromOf e_Mo_fromOf) (h_Mo_goRound : ct_ok l D kA GG y_Mo_goRound z_Mo_goRound e_Mo_goRound) (h_Mo_newLine : ct_ok l D kA GG y_Mo_newLine z_Mo_newLine e_Mo_newLine) (h_Mo_putAhead : ct_ok l D kA GG y_Mo_putAhead z_Mo_putAhead e_Mo_putAhead) (h_Mo_putBehind : ct_ok l D kA GG y_Mo_putBehind z_Mo_putBehind e_Mo_putBehind) (h_Mo_toOf : ct_ok l D kA GG y_Mo_toOf z_Mo_toOf e_Mo_toOf) : ct_ok l D kA GG y_Mo_cut z_Mo_cut e_Mo_cut := chk_all_ok (FT := [(111, 13, 56), (114, 13, 57), (683, 13, 53)]) (PT := []) (CT := t_Mo_cut_ct) (KT := []) (NT := []) (AN := n_Mo_cut_an) (OT := [o_Mo_cut_0, o_Mo_cut_1, o_Mo_cut_2]) 5 404 (List.forall_mem_cons.mpr ⟨oo_Mo_cut_0, List.forall_mem_cons.mpr ⟨oo_Mo_cut_1, List.forall_mem_cons.mpr ⟨oo_Mo_cut_2, List.forall_mem_nil _⟩⟩⟩) (by decide +kernel) ⟨List.forall_mem_cons.mpr ⟨gf_Mo_111, List.forall_mem_cons.mpr ⟨gf_Mo_114, List.forall_mem_cons.mpr ⟨gf_Mo_683, List.forall_mem_nil _⟩⟩⟩, List.forall_mem_nil _, List.forall_mem_cons.mpr ⟨cl_virtual (y := y_Mo_edgeOf) (ci := 13) rfl rfl ⟨_, _, rfl⟩ (by decide +kernel) h_Mo_edgeOf wm_3195 wm_9 wm_3192 wm_3194 wv_15_7 ⟨by decide, by decide, by decide +kernel⟩ (by decide), List.forall_mem_cons.mpr ⟨cl_virtual (y := y_Mo_toOf) (ci := 13) rfl rfl ⟨_, _, rfl⟩ (by decide +kernel) h_Mo_toOf wm_3263 wm_9 wm_3260 wm_3262 wv_16_8 ⟨by decide, by decide, by decide +kernel⟩ (by decide), List.forall_mem_cons.mpr ⟨cl_virtual (y := y_Mo_goRound) (ci := 13) rfl rfl ⟨_, _, rfl⟩ (by decide +kernel) h_Mo_goRound wm_3255 wm_9 wm_3252 wm_3254 wv_16_6 ⟨by decide, by decide, by decide +kernel⟩ (by decide), List.forall_mem_cons.mpr ⟨cl_virtual (y := y_Mo_fromOf) (ci := 13) rfl rfl ⟨_, _, rfl⟩ (by decide +kernel) h_Mo_fromOf wm_3275 wm_9 wm_3272 wm_3274 wv_16_10 ⟨by decide, by decide, by decide +kernel⟩ (by decide), List.forall_mem_cons.mpr ⟨cl_virtual (y := y_Mo_newLine) (ci := 13) rfl rfl ⟨_, _, rfl⟩ (by decide +kernel) h_Mo_newLine wm_3486 wm_9 wm_3483 wm_3485 wv_19_7 ⟨by decide, by decide, by decide +kernel⟩ (by decide), List.forall_mem_cons.mpr ⟨cl_virtual (y := y_Mo_putAhead) (ci := 13) rfl rfl ⟨_, _, rfl⟩ (by decide +kernel) h_Mo_putAhead wm_3498 wm_9 wm_3495 wm_3497 wv_19_10 ⟨by decide, by decide, by decide +kernel⟩ (by decide), List.forall_mem_cons.mpr ⟨cl_virtual (y := y_Mo_putBehind) (ci := 13) rfl rfl ⟨_, _, rfl⟩ (by decide +kernel) h_Mo_putBehind wm_3502 wm_9 wm_3499 wm_3501 wv_19_11 ⟨by decide, by decide, by decide +kernel⟩ (by decide), List.forall_mem_nil _⟩⟩⟩⟩⟩⟩⟩, List.forall_mem_nil _, List.forall_mem_nil _, GG_pl⟩ (by decide +kernel)
def n_Mo_far_an : List an_T := []
def t_Mo_far_ct : ct_L := [(0, 387, e_Mo_in), (0, 521, e_Mo_isPlace), (1, 475, e_Mo_nodes), (1, 527, e_Mo_take), (1, 550, e_Mo_farFrom)]
set_option maxRecDepth 100000 in
theorem c_Mo_far {l : Launch} {D : va_G} {kA : Nat → ClassId} (h_Mo_farFrom : ct_ok l D kA GG y_Mo_farFrom z_Mo_farFrom e_Mo_farFrom) (h_Mo_in : ct_ok l D kA GG y_Mo_in z_Mo_in e_Mo_in) (h_Mo_isPlace : ct_ok l D kA GG y_Mo_isPlace z_Mo_isPlace e_Mo_isPlace) (h_Mo_nodes : ct_ok l D kA GG y_Mo_nodes z_Mo_nodes e_Mo_nodes) (h_Mo_take : ct_ok l D kA GG y_Mo_take z_Mo_take e_Mo_take) : ct_ok l D kA GG y_Mo_far z_Mo_far e_Mo_far := chk_all_ok (FT := [(38, 13, 19)]) (PT := []) (CT := t_Mo_far_ct) (KT := [(1, 546, .int (1000000), (0, 1000000, 1000000, []))]) (NT := []) (AN := n_Mo_far_an) (OT := []) 0 228 (List.forall_mem_nil _) (by decide +kernel) ⟨List.forall_mem_cons.mpr ⟨gf_Mo_38, List.forall_mem_nil _⟩, List.forall_mem_nil _, List.forall_mem_cons.mpr ⟨cl_static (y := y_Mo_in) h_Mo_in wm_2971 wm_9 wm_2969 wm_2970 ⟨by decide, by decide, by decide +kernel⟩ (by decide), List.forall_mem_cons.mpr ⟨cl_static (y := y_Mo_isPlace) h_Mo_isPlace wm_2978 wm_9 wm_2976 wm_2977 ⟨by decide, by decide, by decide +kernel⟩ (by decide), List.forall_mem_cons.mpr ⟨cl_virtual (y := y_Mo_nodes) (ci := 13) rfl rfl ⟨_, _, rfl⟩ (by decide +kernel) h_Mo_nodes wm_3025 wm_9 wm_3022 wm_3024 wv_13_3 ⟨by decide, by decide, by decide +kernel⟩ (by decide), List.forall_mem_cons.mpr ⟨cl_virtual (y := y_Mo_take) (ci := 13) rfl rfl ⟨_, _, rfl⟩ (by decide +kernel) h_Mo_take wm_3091 wm_9 wm_3088 wm_3090 wv_14_2 ⟨by decide, by decide, by decide +kernel⟩ (by decide), List.forall_mem_cons.mpr ⟨cl_virtual (y := y_Mo_farFrom) (ci := 13) rfl rfl ⟨_, _, rfl⟩ (by decide +kernel) h_Mo_farFrom wm_3287 wm_9 wm_3284 wm_3286 wv_16_12 ⟨by decide, by decide, by decide +kernel⟩ (by decide), List.forall_mem_nil _⟩⟩⟩⟩⟩, List.forall_mem_cons.mpr ⟨kx_Mo_1_546, List.forall_mem_nil _⟩, List.forall_mem_nil _, GG_pl⟩ (by decide +kernel)
def n_Mo_group_an : List an_T := []
def t_Mo_group_ct : ct_L := [(0, 387, e_Mo_in), (0, 521, e_Mo_isPlace), (1, 509, e_Mo_groups), (1, 527, e_Mo_take), (1, 745, e_Mo_sizeOfGroup)]
set_option maxRecDepth 100000 in
theorem c_Mo_group {l : Launch} {D : va_G} {kA : Nat → ClassId} (h_Mo_groups : ct_ok l D kA GG y_Mo_groups z_Mo_groups e_Mo_groups) (h_Mo_in : ct_ok l D kA GG y_Mo_in z_Mo_in e_Mo_in) (h_Mo_isPlace : ct_ok l D kA GG y_Mo_isPlace z_Mo_isPlace e_Mo_isPlace) (h_Mo_sizeOfGroup : ct_ok l D kA GG y_Mo_sizeOfGroup z_Mo_sizeOfGroup e_Mo_sizeOfGroup) (h_Mo_take : ct_ok l D kA GG y_Mo_take z_Mo_take e_Mo_take) : ct_ok l D kA GG y_Mo_group z_Mo_group e_Mo_group := chk_all_ok (FT := [(16, 13, 2), (391, 13, 5)]) (PT := []) (CT := t_Mo_group_ct) (KT := []) (NT := []) (AN := n_Mo_group_an) (OT := []) 0 252 (List.forall_mem_nil _) (by decide +kernel) ⟨List.forall_mem_cons.mpr ⟨gf_Mo_16, List.forall_mem_cons.mpr ⟨gf_Mo_391, List.forall_mem_nil _⟩⟩, List.forall_mem_nil _, List.forall_mem_cons.mpr ⟨cl_static (y := y_Mo_in) h_Mo_in wm_2971 wm_9 wm_2969 wm_2970 ⟨by decide, by decide, by decide +kernel⟩ (by decide), List.forall_mem_cons.mpr ⟨cl_static (y := y_Mo_isPlace) h_Mo_isPlace wm_2978 wm_9 wm_2976 wm_2977 ⟨by decide, by decide, by decide +kernel⟩ (by decide), List.forall_mem_cons.mpr ⟨cl_virtual (y := y_Mo_groups) (ci := 13) rfl rfl ⟨_, _, rfl⟩ (by decide +kernel) h_Mo_groups wm_3070 wm_9 wm_3067 wm_3069 wv_13_14 ⟨by decide, by decide, by decide +kernel⟩ (by decide), List.forall_mem_cons.mpr ⟨cl_virtual (y := y_Mo_take) (ci := 13) rfl rfl ⟨_, _, rfl⟩ (by decide +kernel) h_Mo_take wm_3091 wm_9 wm_3088 wm_3090 wv_14_2 ⟨by decide, by decide, by decide +kernel⟩ (by decide), List.forall_mem_cons.mpr ⟨cl_virtual (y := y_Mo_sizeOfGroup) (ci := 13) rfl rfl ⟨_, _, rfl⟩ (by decide +kernel) h_Mo_sizeOfGroup wm_3351 wm_9 wm_3348 wm_3350 wv_17_9 ⟨by decide, by decide, by decide +kernel⟩ (by decide), List.forall_mem_nil _⟩⟩⟩⟩⟩, List.forall_mem_nil _, List.forall_mem_nil _, GG_pl⟩ (by decide +kernel)
def n_Mo_leastTriangle_an : List an_T := [(6, [(0, (2, 0, 0, [150])), (1, (1, -9223372036854775808, 9223372036854775807, [])), (3, (0, 0, 24, []))], [], (0, 0), [(0, 0, 99994), (1, 2, 24), (0, 0, 100000), (0, 0, 0), (0, 0, 0), (0, 0, 0), (0, 0, 0)], [], [], [], 0, [], []), (17, [(0, (2, 0, 0, [150])), (1, (1, -9223372036854775808, 9223372036854775807, [])), (3, (0, 0, 23, [])), (4, (0, 0, 23, []))], [], (0, 0), [(0, 0, 99994), (1, 2, 24), (0, 0, 99983), (1, 3, 23), (0, 0, 100000), (0, 0, 0), (0, 0, 0)], [], [], [], 0, [], []), (26, [(0, (2, 0, 0, [150])), (1, (1, -9223372036854775808, 9223372036854775807, [])), (3, (0, 1, 23, [])), (4, (0, 0, 22, [])), (5, (0, 0, 22, []))], [], (0, 0), [(0, 0, 99994), (1, 2, 24), (0, 0, 99983), (1, 3, 23), (0, 0, 99974), (1, 4, 22), (0, 0, 100000)], [], [], [], 0, [], [])]
def t_Mo_leastTriangle_ct : ct_L := [(0, 1091, e_Mo_turnOf), (1, 475, e_Mo_nodes), (1, 488, e_Mo_between), (1, 1023, e_Mo_px), (1, 1029, e_Mo_py), (333, 1137, e_jMath_abs2_v173)]
set_option maxRecDepth 100000 in
theorem c_Mo_leastTriangle {l : Launch} {D : va_G} {kA : Nat → ClassId} (h_Mo_between : ct_ok l D kA GG y_Mo_between z_Mo_between e_Mo_between) (h_Mo_nodes : ct_ok l D kA GG y_Mo_nodes z_Mo_nodes e_Mo_nodes) (h_Mo_px : ct_ok l D kA GG y_Mo_px z_Mo_px e_Mo_px) (h_Mo_py : ct_ok l D kA GG y_Mo_py z_Mo_py e_Mo_py) (h_Mo_turnOf : ct_ok l D kA GG y_Mo_turnOf z_Mo_turnOf e_Mo_turnOf) : ct_ok l D kA GG y_Mo_leastTriangle z_Mo_leastTriangle e_Mo_leastTriangle := chk_all_ok (FT := []) (PT := []) (CT := t_Mo_leastTriangle_ct) (KT := [(2, 1007, .long (-1), (1, -1, -1, []))]) (NT := []) (AN := n_Mo_leastTriangle_an) (OT := []) 7 356 (List.forall_mem_nil _) (by decide +kernel) ⟨List.forall_mem_nil _, List.forall_mem_nil _, List.forall_mem_cons.mpr ⟨cl_static (y := y_Mo_turnOf) h_Mo_turnOf wm_3745 wm_9 wm_3743 wm_3744 ⟨by decide, by decide, by decide +kernel⟩ (by decide), List.forall_mem_cons.mpr ⟨cl_virtual (y := y_Mo_nodes) (ci := 13) rfl rfl ⟨_, _, rfl⟩ (by decide +kernel) h_Mo_nodes wm_3025 wm_9 wm_3022 wm_3024 wv_13_3 ⟨by decide, by decide, by decide +kernel⟩ (by decide), List.forall_mem_cons.mpr ⟨cl_virtual (y := y_Mo_between) (ci := 13) rfl rfl ⟨_, _, rfl⟩ (by decide +kernel) h_Mo_between wm_3033 wm_9 wm_3030 wm_3032 wv_13_5 ⟨by decide, by decide, by decide +kernel⟩ (by decide), List.forall_mem_cons.mpr ⟨cl_virtual (y := y_Mo_px) (ci := 13) rfl rfl ⟨_, _, rfl⟩ (by decide +kernel) h_Mo_px wm_3675 wm_9 wm_3672 wm_3674 wv_21_14 ⟨by decide, by decide, by decide +kernel⟩ (by decide), List.forall_mem_cons.mpr ⟨cl_virtual (y := y_Mo_py) (ci := 13) rfl rfl ⟨_, _, rfl⟩ (by decide +kernel) h_Mo_py wm_3679 wm_9 wm_3676 wm_3678 wv_21_15 ⟨by decide, by decide, by decide +kernel⟩ (by decide), List.forall_mem_cons.mpr ⟨cl_static (y := y_jMath_abs2) c_jMath_abs2_v173 wm_2082 wm_10 wm_3769 wm_2081 ⟨by decide, by decide, by decide +kernel⟩ (by decide), List.forall_mem_nil _⟩⟩⟩⟩⟩⟩, List.forall_mem_cons.mpr ⟨⟨kt_mk2 wm_3625, fun _ => Or.inr (Or.inl ⟨rfl, _, rfl, by decide, by decide⟩)⟩, List.forall_mem_nil _⟩, List.forall_mem_nil _, GG_pl⟩ (by decide +kernel)
def o_Re_isWord_at_s5000_0 : or_T := (28, 9, [(0, (2, 0, 0, [8])), (4, (0, 4, 2000, [])), (5, (0, 0, 2000, [])), (6, (0, 4, 4, [])), (7, (0, 4, 4, []))], [(7, [6, 7], [0]), (2, [6, 4, 5], []), (9, [5, 0], [8]), (9, [4, 0], [6])], [], [], [(20, [0], [30, 1996, 1, 1, 8])], [], [(6, 4, -2000, 0)])
theorem oo_Re_isWord_at_s5000_0 {kA : Nat → ClassId} : or_ok kA GG o_Re_isWord_at_s5000_0 := by
  intro A ta ws vs hD hth hl hk hds hf
  have hl : vs.length = 9 := hl
  have hk : ∀ q ∈ ([(0, (2, 0, 0, [8])), (4, (0, 4, 2000, [])), (5, (0, 0, 2000, [])), (6, (0, 4, 4, [])), (7, (0, 4, 4, []))] : List (Nat × tv_T)), tv_ok ta q.2 (n_v vs q.1) := hk
  obtain ⟨t0, hk⟩ := List.forall_mem_cons.mp hk
  have t0 : tv_ok ta (2, 0, 0, [8]) (n_v vs 0) := t0
  have r0 : ta (v_ad (n_v vs 0)) = some 8 := tv_rg t0
  obtain ⟨t4, hk⟩ := List.forall_mem_cons.mp hk
  have t4 : tv_ok ta (0, 4, 2000, []) (n_v vs 4) := t4
  have k4 : 4 ≤ v_iv (n_v vs 4) ∧ v_iv (n_v vs 4) ≤ 2000 := tv_rng t4
  obtain ⟨t5, hk⟩ := List.forall_mem_cons.mp hk
  have t5 : tv_ok ta (0, 0, 2000, []) (n_v vs 5) := t5
  have k5 : 0 ≤ v_iv (n_v vs 5) ∧ v_iv (n_v vs 5) ≤ 2000 := tv_rng t5
  obtain ⟨t6, hk⟩ := List.forall_mem_cons.mp hk
  have t6 : tv_ok ta (0, 4, 4, []) (n_v vs 6) := t6
  have k6 : 4 ≤ v_iv (n_v vs 6) ∧ v_iv (n_v vs 6) ≤ 4 := tv_rng t6
  obtain ⟨t7, hk⟩ := List.forall_mem_cons.mp hk
  have t7 : tv_ok ta (0, 4, 4, []) (n_v vs 7) := t7
  have k7 : 4 ≤ v_iv (n_v vs 7) ∧ v_iv (n_v vs 7) ≤ 4 := tv_rng t7
  have hds : ∀ q ∈ ([(6, 4, -2000, 0)] : List of_T), n_iv vs q.2.1 + q.2.2.1 ≤ n_iv vs q.1 ∧ n_iv vs q.1 ≤ n_iv vs q.2.1 + q.2.2.2 := hds
  obtain ⟨d0, hds⟩ := List.forall_mem_cons.mp hds
  have d0 : v_iv (n_v vs 4) + (-2000) ≤ v_iv (n_v vs 6) ∧ v_iv (n_v vs 6) ≤ v_iv (n_v vs 4) + 0 := d0
  have hf : fc_ok [(7, [6, 7], [0]), (2, [6, 4, 5], []), (9, [5, 0], [8]), (9, [4, 0], [6])] ta ws vs := hf
  obtain ⟨f0, hf⟩ := fc_un (show (7 : Nat) < 100 from by decide) hf
  have f0 : v_iv (n_v vs 6) = v_iv (n_v vs 7) := f0
  obtain ⟨f1, hf⟩ := fc_un (show (2 : Nat) < 100 from by decide) hf
  have f1 : v_iv (n_v vs 6) = v_iv (n_v vs 4) - v_iv (n_v vs 5) := f1
  obtain ⟨f2, hf⟩ := fc_un (show (9 : Nat) < 100 from by decide) hf
  have f2 : n_v vs 5 = w_fd ws (v_ad (n_v vs 0)) 8 := f2
  obtain ⟨f3, hf⟩ := fc_un (show (9 : Nat) < 100 from by decide) hf
  have f3 : n_v vs 4 = w_fd ws (v_ad (n_v vs 0)) 6 := f3
  have g2 : v_iv (n_v vs 5) = w_fi ws (n_v vs 0) 8 := congrArg v_iv f2
  have g3 : v_iv (n_v vs 4) = w_fi ws (n_v vs 0) 6 := congrArg v_iv f3
  have kz_0_6 : 0 ≤ w_fi ws (n_v vs 0) 6 ∧ w_fi ws (n_v vs 0) 6 ≤ 2000 := tv_rng (th_fd hD hth r0 (g := GG_8) rfl (k := 6) (t := (0, 0, 2000, [])) rfl rfl)
  have kz_0_8 : 0 ≤ w_fi ws (n_v vs 0) 8 ∧ w_fi ws (n_v vs 0) 8 ≤ 2000 := tv_rng (th_fd hD hth r0 (g := GG_8) rfl (k := 8) (t := (0, 0, 2000, [])) rfl rfl)
  have nf0 : fc_1 (20, [0], [30, 1996, 1, 1, 8]) ws (vs) := by
    refine ⟨fun n hn => ?_, ?_⟩
    · have hn : n ∈ [0] := hn
      rw [hl]
      simp only [List.mem_cons, List.not_mem_nil, or_false] at hn
      show n < 9; omega
    · show 1 * w_fi ws (n_v vs 0) 8 + 0 ≤ 1996
      omega
  refine ⟨(fun _ h => (by cases h)), [], trivial, ?_, (fun _ h => (by cases h))⟩
  rw [List.append_nil]
  exact List.forall_mem_cons.mpr ⟨⟨show (20 : Nat) < 100 from by decide, nf0⟩, (fun _ h => (by cases h))⟩
def o_Re_isWord_at_s5000_1 : or_T := (46, 7, [(0, (2, 0, 0, [8])), (2, (0, 0, 3, [])), (3, (0, 4, 4, [])), (5, (0, 0, 2000, [])), (6, (0, 0, 2003, []))], [(1, [6, 5, 2], []), (9, [5, 0], [8]), (7, [2, 3], [2]), (20, [0], [30, 1996, 1, 1, 8])], [(6, (0, 0, 1999, []))], [], [], [], [(6, 2, 0, 2000), (6, 5, 0, 3)])
theorem oo_Re_isWord_at_s5000_1 {kA : Nat → ClassId} : or_ok kA GG o_Re_isWord_at_s5000_1 := by
  intro A ta ws vs hD hth hl hk hds hf
  have hl : vs.length = 7 := hl
  have hk : ∀ q ∈ ([(0, (2, 0, 0, [8])), (2, (0, 0, 3, [])), (3, (0, 4, 4, [])), (5, (0, 0, 2000, [])), (6, (0, 0, 2003, []))] : List (Nat × tv_T)), tv_ok ta q.2 (n_v vs q.1) := hk
  obtain ⟨t0, hk⟩ := List.forall_mem_cons.mp hk
  have t0 : tv_ok ta (2, 0, 0, [8]) (n_v vs 0) := t0
  have r0 : ta (v_ad (n_v vs 0)) = some 8 := tv_rg t0
  obtain ⟨t2, hk⟩ := List.forall_mem_cons.mp hk
  have t2 : tv_ok ta (0, 0, 3, []) (n_v vs 2) := t2
  have k2 : 0 ≤ v_iv (n_v vs 2) ∧ v_iv (n_v vs 2) ≤ 3 := tv_rng t2
  obtain ⟨t3, hk⟩ := List.forall_mem_cons.mp hk
  have t3 : tv_ok ta (0, 4, 4, []) (n_v vs 3) := t3
  have k3 : 4 ≤ v_iv (n_v vs 3) ∧ v_iv (n_v vs 3) ≤ 4 := tv_rng t3
  obtain ⟨t5, hk⟩ := List.forall_mem_cons.mp hk
  have t5 : tv_ok ta (0, 0, 2000, []) (n_v vs 5) := t5
  have k5 : 0 ≤ v_iv (n_v vs 5) ∧ v_iv (n_v vs 5) ≤ 2000 := tv_rng t5
  obtain ⟨t6, hk⟩ := List.forall_mem_cons.mp hk
  have t6 : tv_ok ta (0, 0, 2003, []) (n_v vs 6) := t6
  have k6 : 0 ≤ v_iv (n_v vs 6) ∧ v_iv (n_v vs 6) ≤ 2003 := tv_rng t6
  have hds : ∀ q ∈ ([(6, 2, 0, 2000), (6, 5, 0, 3)] : List of_T), n_iv vs q.2.1 + q.2.2.1 ≤ n_iv vs q.1 ∧ n_iv vs q.1 ≤ n_iv vs q.2.1 + q.2.2.2 := hds
  obtain ⟨d0, hds⟩ := List.forall_mem_cons.mp hds
  have d0 : v_iv (n_v vs 2) + 0 ≤ v_iv (n_v vs 6) ∧ v_iv (n_v vs 6) ≤ v_iv (n_v vs 2) + 2000 := d0
  obtain ⟨d1, hds⟩ := List.forall_mem_cons.mp hds
  have d1 : v_iv (n_v vs 5) + 0 ≤ v_iv (n_v vs 6) ∧ v_iv (n_v vs 6) ≤ v_iv (n_v vs 5) + 3 := d1
  have hf : fc_ok [(1, [6, 5, 2], []), (9, [5, 0], [8]), (7, [2, 3], [2]), (20, [0], [30, 1996, 1, 1, 8])] ta ws vs := hf
  obtain ⟨f0, hf⟩ := fc_un (show (1 : Nat) < 100 from by decide) hf
  have f0 : v_iv (n_v vs 6) = v_iv (n_v vs 5) + v_iv (n_v vs 2) := f0
  obtain ⟨f1, hf⟩ := fc_un (show (9 : Nat) < 100 from by decide) hf
  have f1 : n_v vs 5 = w_fd ws (v_ad (n_v vs 0)) 8 := f1
  obtain ⟨f2, hf⟩ := fc_un (show (7 : Nat) < 100 from by decide) hf
  have f2 : v_iv (n_v vs 2) < v_iv (n_v vs 3) := f2
  obtain ⟨f3, hf⟩ := fc_un (show (20 : Nat) < 100 from by decide) hf
  have f3 : 1 * w_fi ws (n_v vs 0) 8 + 0 ≤ 1996 := f3
  have g1 : v_iv (n_v vs 5) = w_fi ws (n_v vs 0) 8 := congrArg v_iv f1
  have kz_0_8 : 0 ≤ w_fi ws (n_v vs 0) 8 ∧ w_fi ws (n_v vs 0) 8 ≤ 2000 := tv_rng (th_fd hD hth r0 (g := GG_8) rfl (k := 8) (t := (0, 0, 2000, [])) rfl rfl)
  have rf6 : tv_ok ta (0, 0, 1999, []) (n_v vs 6) := tv_in t6 (by omega) (by omega)
  refine ⟨List.forall_mem_cons.mpr ⟨rf6, (fun _ h => (by cases h))⟩, [], trivial, ?_, (fun _ h => (by cases h))⟩
  rw [List.append_nil]
  exact (fun _ h => (by cases h))
def n_Re_isWord_at_s5000_an : List an_T := [(28, [(0, (2, 0, 0, [8])), (1, (2, 0, 0, [5000])), (2, (0, 0, 4, []))], [], (0, 0), [(0, 0, 99972), (1, 2, 4), (0, 0, 100000)], [], [], [], 0, [], [(20, [0], [30, 1996, 1, 1, 8])])]
def t_Re_isWord_at_s5000_ct : ct_L := [(58, 84, e_jStr_length_v174), (94, 84, e_jStr_length_v174), (151, 89, e_jStr_charAt_v176)]
set_option maxRecDepth 100000 in
theorem c_Re_isWord_at_s5000 {l : Launch} {D : va_G} {kA : Nat → ClassId} : ct_ok l D kA GG y_Re_isWord_at_s5000 z_Re_isWord_at_s5000 e_Re_isWord_at_s5000 := chk_all_ok (FT := [(9, 8, 0), (35, 8, 6), (38, 8, 7), (41, 8, 8)]) (PT := []) (CT := t_Re_isWord_at_s5000_ct) (KT := []) (NT := []) (AN := n_Re_isWord_at_s5000_an) (OT := [o_Re_isWord_at_s5000_0, o_Re_isWord_at_s5000_1]) 3 200 (List.forall_mem_cons.mpr ⟨oo_Re_isWord_at_s5000_0, List.forall_mem_cons.mpr ⟨oo_Re_isWord_at_s5000_1, List.forall_mem_nil _⟩⟩) (by decide +kernel) ⟨List.forall_mem_cons.mpr ⟨gf_Re_9, List.forall_mem_cons.mpr ⟨gf_Re_35, List.forall_mem_cons.mpr ⟨gf_Re_38, List.forall_mem_cons.mpr ⟨gf_Re_41, List.forall_mem_nil _⟩⟩⟩⟩, List.forall_mem_nil _, List.forall_mem_cons.mpr ⟨cl_string (y := y_jStr_length) (i := 0) rfl rfl (by decide +kernel) rfl c_jStr_length_v174 wm_674 wm_11 wm_671 wm_672 wm_673 ⟨by decide, by decide, by decide +kernel⟩ (by decide), List.forall_mem_cons.mpr ⟨cl_string (y := y_jStr_length) (i := 0) rfl rfl (by decide +kernel) rfl c_jStr_length_v174 wm_674 wm_11 wm_671 wm_672 wm_673 ⟨by decide, by decide, by decide +kernel⟩ (by decide), List.forall_mem_cons.mpr ⟨cl_string (y := y_jStr_charAt) (i := 0) rfl rfl (by decide +kernel) rfl c_jStr_charAt_v176 wm_684 wm_11 wm_681 wm_682 wm_683 ⟨by decide, by decide, by decide +kernel⟩ (by decide), List.forall_mem_nil _⟩⟩⟩, List.forall_mem_nil _, List.forall_mem_nil _, GG_pl⟩ (by decide +kernel)
def o_Re_isWord_at_s5001_0 : or_T := (28, 9, [(0, (2, 0, 0, [8])), (4, (0, 5, 2000, [])), (5, (0, 0, 2000, [])), (6, (0, 5, 5, [])), (7, (0, 5, 5, []))], [(7, [6, 7], [0]), (2, [6, 4, 5], []), (9, [5, 0], [8]), (9, [4, 0], [6])], [], [], [(20, [0], [30, 1995, 1, 1, 8])], [], [(6, 4, -2000, 0)])
theorem oo_Re_isWord_at_s5001_0 {kA : Nat → ClassId} : or_ok kA GG o_Re_isWord_at_s5001_0 := by
  intro A ta ws vs hD hth hl hk hds hf
  have hl : vs.length = 9 := hl
  have hk : ∀ q ∈ ([(0, (2, 0, 0, [8])), (4, (0, 5, 2000, [])), (5, (0, 0, 2000, [])), (6, (0, 5, 5, [])), (7, (0, 5, 5, []))] : List (Nat × tv_T)), tv_ok ta q.2 (n_v vs q.1) := hk
  obtain ⟨t0, hk⟩ := List.forall_mem_cons.mp hk
  have t0 : tv_ok ta (2, 0, 0, [8]) (n_v vs 0) := t0
  have r0 : ta (v_ad (n_v vs 0)) = some 8 := tv_rg t0
  obtain ⟨t4, hk⟩ := List.forall_mem_cons.mp hk
  have t4 : tv_ok ta (0, 5, 2000, []) (n_v vs 4) := t4
  have k4 : 5 ≤ v_iv (n_v vs 4) ∧ v_iv (n_v vs 4) ≤ 2000 := tv_rng t4
  obtain ⟨t5, hk⟩ := List.forall_mem_cons.mp hk
  have t5 : tv_ok ta (0, 0, 2000, []) (n_v vs 5) := t5
  have k5 : 0 ≤ v_iv (n_v vs 5) ∧ v_iv (n_v vs 5) ≤ 2000 := tv_rng t5
  obtain ⟨t6, hk⟩ := List.forall_mem_cons.mp hk
  have t6 : tv_ok ta (0, 5, 5, []) (n_v vs 6) := t6
  have k6 : 5 ≤ v_iv (n_v vs 6) ∧ v_iv (n_v vs 6) ≤ 5 := tv_rng t6
  obtain ⟨t7, hk⟩ := List.forall_mem_cons.mp hk
  have t7 : tv_ok ta (0, 5, 5, []) (n_v vs 7) := t7
  have k7 : 5 ≤ v_iv (n_v vs 7) ∧ v_iv (n_v vs 7) ≤ 5 := tv_rng t7
  have hds : ∀ q ∈ ([(6, 4, -2000, 0)] : List of_T), n_iv vs q.2.1 + q.2.2.1 ≤ n_iv vs q.1 ∧ n_iv vs q.1 ≤ n_iv vs q.2.1 + q.2.2.2 := hds
  obtain ⟨d0, hds⟩ := List.forall_mem_cons.mp hds
  have d0 : v_iv (n_v vs 4) + (-2000) ≤ v_iv (n_v vs 6) ∧ v_iv (n_v vs 6) ≤ v_iv (n_v vs 4) + 0 := d0
  have hf : fc_ok [(7, [6, 7], [0]), (2, [6, 4, 5], []), (9, [5, 0], [8]), (9, [4, 0], [6])] ta ws vs := hf
  obtain ⟨f0, hf⟩ := fc_un (show (7 : Nat) < 100 from by decide) hf
  have f0 : v_iv (n_v vs 6) = v_iv (n_v vs 7) := f0
  obtain ⟨f1, hf⟩ := fc_un (show (2 : Nat) < 100 from by decide) hf
  have f1 : v_iv (n_v vs 6) = v_iv (n_v vs 4) - v_iv (n_v vs 5) := f1
  obtain ⟨f2, hf⟩ := fc_un (show (9 : Nat) < 100 from by decide) hf
  have f2 : n_v vs 5 = w_fd ws (v_ad (n_v vs 0)) 8 := f2
  obtain ⟨f3, hf⟩ := fc_un (show (9 : Nat) < 100 from by decide) hf
  have f3 : n_v vs 4 = w_fd ws (v_ad (n_v vs 0)) 6 := f3
  have g2 : v_iv (n_v vs 5) = w_fi ws (n_v vs 0) 8 := congrArg v_iv f2
  have g3 : v_iv (n_v vs 4) = w_fi ws (n_v vs 0) 6 := congrArg v_iv f3
  have kz_0_6 : 0 ≤ w_fi ws (n_v vs 0) 6 ∧ w_fi ws (n_v vs 0) 6 ≤ 2000 := tv_rng (th_fd hD hth r0 (g := GG_8) rfl (k := 6) (t := (0, 0, 2000, [])) rfl rfl)
  have kz_0_8 : 0 ≤ w_fi ws (n_v vs 0) 8 ∧ w_fi ws (n_v vs 0) 8 ≤ 2000 := tv_rng (th_fd hD hth r0 (g := GG_8) rfl (k := 8) (t := (0, 0, 2000, [])) rfl rfl)
  have nf0 : fc_1 (20, [0], [30, 1995, 1, 1, 8]) ws (vs) := by
    refine ⟨fun n hn => ?_, ?_⟩
    · have hn : n ∈ [0] := hn
      rw [hl]
      simp only [List.mem_cons, List.not_mem_nil, or_false] at hn
      show n < 9; omega
    · show 1 * w_fi ws (n_v vs 0) 8 + 0 ≤ 1995
      omega
  refine ⟨(fun _ h => (by cases h)), [], trivial, ?_, (fun _ h => (by cases h))⟩
  rw [List.append_nil]
  exact List.forall_mem_cons.mpr ⟨⟨show (20 : Nat) < 100 from by decide, nf0⟩, (fun _ h => (by cases h))⟩
def o_Re_isWord_at_s5001_1 : or_T := (46, 7, [(0, (2, 0, 0, [8])), (2, (0, 0, 4, [])), (3, (0, 5, 5, [])), (5, (0, 0, 2000, [])), (6, (0, 0, 2004, []))], [(1, [6, 5, 2], []), (9, [5, 0], [8]), (7, [2, 3], [2]), (20, [0], [30, 1995, 1, 1, 8])], [(6, (0, 0, 1999, []))], [], [], [], [(6, 2, 0, 2000), (6, 5, 0, 4)])
theorem oo_Re_isWord_at_s5001_1 {kA : Nat → ClassId} : or_ok kA GG o_Re_isWord_at_s5001_1 := by
  intro A ta ws vs hD hth hl hk hds hf
  have hl : vs.length = 7 := hl
  have hk : ∀ q ∈ ([(0, (2, 0, 0, [8])), (2, (0, 0, 4, [])), (3, (0, 5, 5, [])), (5, (0, 0, 2000, [])), (6, (0, 0, 2004, []))] : List (Nat × tv_T)), tv_ok ta q.2 (n_v vs q.1) := hk
  obtain ⟨t0, hk⟩ := List.forall_mem_cons.mp hk
  have t0 : tv_ok ta (2, 0, 0, [8]) (n_v vs 0) := t0
  have r0 : ta (v_ad (n_v vs 0)) = some 8 := tv_rg t0
  obtain ⟨t2, hk⟩ := List.forall_mem_cons.mp hk
  have t2 : tv_ok ta (0, 0, 4, []) (n_v vs 2) := t2
  have k2 : 0 ≤ v_iv (n_v vs 2) ∧ v_iv (n_v vs 2) ≤ 4 := tv_rng t2
  obtain ⟨t3, hk⟩ := List.forall_mem_cons.mp hk
  have t3 : tv_ok ta (0, 5, 5, []) (n_v vs 3) := t3
  have k3 : 5 ≤ v_iv (n_v vs 3) ∧ v_iv (n_v vs 3) ≤ 5 := tv_rng t3
  obtain ⟨t5, hk⟩ := List.forall_mem_cons.mp hk
  have t5 : tv_ok ta (0, 0, 2000, []) (n_v vs 5) := t5
  have k5 : 0 ≤ v_iv (n_v vs 5) ∧ v_iv (n_v vs 5) ≤ 2000 := tv_rng t5
  obtain ⟨t6, hk⟩ := List.forall_mem_cons.mp hk
  have t6 : tv_ok ta (0, 0, 2004, []) (n_v vs 6) := t6
  have k6 : 0 ≤ v_iv (n_v vs 6) ∧ v_iv (n_v vs 6) ≤ 2004 := tv_rng t6
  have hds : ∀ q ∈ ([(6, 2, 0, 2000), (6, 5, 0, 4)] : List of_T), n_iv vs q.2.1 + q.2.2.1 ≤ n_iv vs q.1 ∧ n_iv vs q.1 ≤ n_iv vs q.2.1 + q.2.2.2 := hds
  obtain ⟨d0, hds⟩ := List.forall_mem_cons.mp hds
  have d0 : v_iv (n_v vs 2) + 0 ≤ v_iv (n_v vs 6) ∧ v_iv (n_v vs 6) ≤ v_iv (n_v vs 2) + 2000 := d0
  obtain ⟨d1, hds⟩ := List.forall_mem_cons.mp hds
  have d1 : v_iv (n_v vs 5) + 0 ≤ v_iv (n_v vs 6) ∧ v_iv (n_v vs 6) ≤ v_iv (n_v vs 5) + 4 := d1
  have hf : fc_ok [(1, [6, 5, 2], []), (9, [5, 0], [8]), (7, [2, 3], [2]), (20, [0], [30, 1995, 1, 1, 8])] ta ws vs := hf
  obtain ⟨f0, hf⟩ := fc_un (show (1 : Nat) < 100 from by decide) hf
  have f0 : v_iv (n_v vs 6) = v_iv (n_v vs 5) + v_iv (n_v vs 2) := f0
  obtain ⟨f1, hf⟩ := fc_un (show (9 : Nat) < 100 from by decide) hf
  have f1 : n_v vs 5 = w_fd ws (v_ad (n_v vs 0)) 8 := f1
  obtain ⟨f2, hf⟩ := fc_un (show (7 : Nat) < 100 from by decide) hf
  have f2 : v_iv (n_v vs 2) < v_iv (n_v vs 3) := f2
  obtain ⟨f3, hf⟩ := fc_un (show (20 : Nat) < 100 from by decide) hf
  have f3 : 1 * w_fi ws (n_v vs 0) 8 + 0 ≤ 1995 := f3
  have g1 : v_iv (n_v vs 5) = w_fi ws (n_v vs 0) 8 := congrArg v_iv f1
  have kz_0_8 : 0 ≤ w_fi ws (n_v vs 0) 8 ∧ w_fi ws (n_v vs 0) 8 ≤ 2000 := tv_rng (th_fd hD hth r0 (g := GG_8) rfl (k := 8) (t := (0, 0, 2000, [])) rfl rfl)
  have rf6 : tv_ok ta (0, 0, 1999, []) (n_v vs 6) := tv_in t6 (by omega) (by omega)
  refine ⟨List.forall_mem_cons.mpr ⟨rf6, (fun _ h => (by cases h))⟩, [], trivial, ?_, (fun _ h => (by cases h))⟩
  rw [List.append_nil]
  exact (fun _ h => (by cases h))
def n_Re_isWord_at_s5001_an : List an_T := [(28, [(0, (2, 0, 0, [8])), (1, (2, 0, 0, [5001])), (2, (0, 0, 5, []))], [], (0, 0), [(0, 0, 99972), (1, 2, 5), (0, 0, 100000)], [], [], [], 0, [], [(20, [0], [30, 1995, 1, 1, 8])])]
def t_Re_isWord_at_s5001_ct : ct_L := [(58, 84, e_jStr_length_v178), (94, 84, e_jStr_length_v178), (151, 89, e_jStr_charAt_v179)]
set_option maxRecDepth 100000 in
theorem c_Re_isWord_at_s5001 {l : Launch} {D : va_G} {kA : Nat → ClassId} : ct_ok l D kA GG y_Re_isWord_at_s5001 z_Re_isWord_at_s5001 e_Re_isWord_at_s5001 := chk_all_ok (FT := [(9, 8, 0), (35, 8, 6), (38, 8, 7), (41, 8, 8)]) (PT := []) (CT := t_Re_isWord_at_s5001_ct) (KT := []) (NT := []) (AN := n_Re_isWord_at_s5001_an) (OT := [o_Re_isWord_at_s5001_0, o_Re_isWord_at_s5001_1]) 3 200 (List.forall_mem_cons.mpr ⟨oo_Re_isWord_at_s5001_0, List.forall_mem_cons.mpr ⟨oo_Re_isWord_at_s5001_1, List.forall_mem_nil _⟩⟩) (by decide +kernel) ⟨List.forall_mem_cons.mpr ⟨gf_Re_9, List.forall_mem_cons.mpr ⟨gf_Re_35, List.forall_mem_cons.mpr ⟨gf_Re_38, List.forall_mem_cons.mpr ⟨gf_Re_41, List.forall_mem_nil _⟩⟩⟩⟩, List.forall_mem_nil _, List.forall_mem_cons.mpr ⟨cl_string (y := y_jStr_length) (i := 1) rfl rfl (by decide +kernel) rfl c_jStr_length_v178 wm_674 wm_11 wm_671 wm_672 wm_673 ⟨by decide, by decide, by decide +kernel⟩ (by decide), List.forall_mem_cons.mpr ⟨cl_string (y := y_jStr_length) (i := 1) rfl rfl (by decide +kernel) rfl c_jStr_length_v178 wm_674 wm_11 wm_671 wm_672 wm_673 ⟨by decide, by decide, by decide +kernel⟩ (by decide), List.forall_mem_cons.mpr ⟨cl_string (y := y_jStr_charAt) (i := 1) rfl rfl (by decide +kernel) rfl c_jStr_charAt_v179 wm_684 wm_11 wm_681 wm_682 wm_683 ⟨by decide, by decide, by decide +kernel⟩ (by decide), List.forall_mem_nil _⟩⟩⟩, List.forall_mem_nil _, List.forall_mem_nil _, GG_pl⟩ (by decide +kernel)
def o_Re_isWord_at_s5002_0 : or_T := (28, 9, [(0, (2, 0, 0, [8])), (4, (0, 4, 2000, [])), (5, (0, 0, 2000, [])), (6, (0, 4, 4, [])), (7, (0, 4, 4, []))], [(7, [6, 7], [0]), (2, [6, 4, 5], []), (9, [5, 0], [8]), (9, [4, 0], [6])], [], [], [(20, [0], [30, 1996, 1, 1, 8])], [], [(6, 4, -2000, 0)])
theorem oo_Re_isWord_at_s5002_0 {kA : Nat → ClassId} : or_ok kA GG o_Re_isWord_at_s5002_0 := by
  intro A ta ws vs hD hth hl hk hds hf
  have hl : vs.length = 9 := hl
  have hk : ∀ q ∈ ([(0, (2, 0, 0, [8])), (4, (0, 4, 2000, [])), (5, (0, 0, 2000, [])), (6, (0, 4, 4, [])), (7, (0, 4, 4, []))] : List (Nat × tv_T)), tv_ok ta q.2 (n_v vs q.1) := hk
  obtain ⟨t0, hk⟩ := List.forall_mem_cons.mp hk
  have t0 : tv_ok ta (2, 0, 0, [8]) (n_v vs 0) := t0
  have r0 : ta (v_ad (n_v vs 0)) = some 8 := tv_rg t0
  obtain ⟨t4, hk⟩ := List.forall_mem_cons.mp hk
  have t4 : tv_ok ta (0, 4, 2000, []) (n_v vs 4) := t4
  have k4 : 4 ≤ v_iv (n_v vs 4) ∧ v_iv (n_v vs 4) ≤ 2000 := tv_rng t4
  obtain ⟨t5, hk⟩ := List.forall_mem_cons.mp hk
  have t5 : tv_ok ta (0, 0, 2000, []) (n_v vs 5) := t5
  have k5 : 0 ≤ v_iv (n_v vs 5) ∧ v_iv (n_v vs 5) ≤ 2000 := tv_rng t5
  obtain ⟨t6, hk⟩ := List.forall_mem_cons.mp hk
  have t6 : tv_ok ta (0, 4, 4, []) (n_v vs 6) := t6
  have k6 : 4 ≤ v_iv (n_v vs 6) ∧ v_iv (n_v vs 6) ≤ 4 := tv_rng t6
  obtain ⟨t7, hk⟩ := List.forall_mem_cons.mp hk
  have t7 : tv_ok ta (0, 4, 4, []) (n_v vs 7) := t7
  have k7 : 4 ≤ v_iv (n_v vs 7) ∧ v_iv (n_v vs 7) ≤ 4 := tv_rng t7
  have hds : ∀ q ∈ ([(6, 4, -2000, 0)] : List of_T), n_iv vs q.2.1 + q.2.2.1 ≤ n_iv vs q.1 ∧ n_iv vs q.1 ≤ n_iv vs q.2.1 + q.2.2.2 := hds
  obtain ⟨d0, hds⟩ := List.forall_mem_cons.mp hds
  have d0 : v_iv (n_v vs 4) + (-2000) ≤ v_iv (n_v vs 6) ∧ v_iv (n_v vs 6) ≤ v_iv (n_v vs 4) + 0 := d0
  have hf : fc_ok [(7, [6, 7], [0]), (2, [6, 4, 5], []), (9, [5, 0], [8]), (9, [4, 0], [6])] ta ws vs := hf
  obtain ⟨f0, hf⟩ := fc_un (show (7 : Nat) < 100 from by decide) hf
  have f0 : v_iv (n_v vs 6) = v_iv (n_v vs 7) := f0
  obtain ⟨f1, hf⟩ := fc_un (show (2 : Nat) < 100 from by decide) hf
  have f1 : v_iv (n_v vs 6) = v_iv (n_v vs 4) - v_iv (n_v vs 5) := f1
  obtain ⟨f2, hf⟩ := fc_un (show (9 : Nat) < 100 from by decide) hf
  have f2 : n_v vs 5 = w_fd ws (v_ad (n_v vs 0)) 8 := f2
  obtain ⟨f3, hf⟩ := fc_un (show (9 : Nat) < 100 from by decide) hf
  have f3 : n_v vs 4 = w_fd ws (v_ad (n_v vs 0)) 6 := f3
  have g2 : v_iv (n_v vs 5) = w_fi ws (n_v vs 0) 8 := congrArg v_iv f2
  have g3 : v_iv (n_v vs 4) = w_fi ws (n_v vs 0) 6 := congrArg v_iv f3
  have kz_0_6 : 0 ≤ w_fi ws (n_v vs 0) 6 ∧ w_fi ws (n_v vs 0) 6 ≤ 2000 := tv_rng (th_fd hD hth r0 (g := GG_8) rfl (k := 6) (t := (0, 0, 2000, [])) rfl rfl)
  have kz_0_8 : 0 ≤ w_fi ws (n_v vs 0) 8 ∧ w_fi ws (n_v vs 0) 8 ≤ 2000 := tv_rng (th_fd hD hth r0 (g := GG_8) rfl (k := 8) (t := (0, 0, 2000, [])) rfl rfl)
  have nf0 : fc_1 (20, [0], [30, 1996, 1, 1, 8]) ws (vs) := by
    refine ⟨fun n hn => ?_, ?_⟩
    · have hn : n ∈ [0] := hn
      rw [hl]
      simp only [List.mem_cons, List.not_mem_nil, or_false] at hn
      show n < 9; omega
    · show 1 * w_fi ws (n_v vs 0) 8 + 0 ≤ 1996
      omega
  refine ⟨(fun _ h => (by cases h)), [], trivial, ?_, (fun _ h => (by cases h))⟩
  rw [List.append_nil]
  exact List.forall_mem_cons.mpr ⟨⟨show (20 : Nat) < 100 from by decide, nf0⟩, (fun _ h => (by cases h))⟩
def o_Re_isWord_at_s5002_1 : or_T := (46, 7, [(0, (2, 0, 0, [8])), (2, (0, 0, 3, [])), (3, (0, 4, 4, [])), (5, (0, 0, 2000, [])), (6, (0, 0, 2003, []))], [(1, [6, 5, 2], []), (9, [5, 0], [8]), (7, [2, 3], [2]), (20, [0], [30, 1996, 1, 1, 8])], [(6, (0, 0, 1999, []))], [], [], [], [(6, 2, 0, 2000), (6, 5, 0, 3)])
theorem oo_Re_isWord_at_s5002_1 {kA : Nat → ClassId} : or_ok kA GG o_Re_isWord_at_s5002_1 := by
  intro A ta ws vs hD hth hl hk hds hf
  have hl : vs.length = 7 := hl
  have hk : ∀ q ∈ ([(0, (2, 0, 0, [8])), (2, (0, 0, 3, [])), (3, (0, 4, 4, [])), (5, (0, 0, 2000, [])), (6, (0, 0, 2003, []))] : List (Nat × tv_T)), tv_ok ta q.2 (n_v vs q.1) := hk
  obtain ⟨t0, hk⟩ := List.forall_mem_cons.mp hk
  have t0 : tv_ok ta (2, 0, 0, [8]) (n_v vs 0) := t0
  have r0 : ta (v_ad (n_v vs 0)) = some 8 := tv_rg t0
  obtain ⟨t2, hk⟩ := List.forall_mem_cons.mp hk
  have t2 : tv_ok ta (0, 0, 3, []) (n_v vs 2) := t2
  have k2 : 0 ≤ v_iv (n_v vs 2) ∧ v_iv (n_v vs 2) ≤ 3 := tv_rng t2
  obtain ⟨t3, hk⟩ := List.forall_mem_cons.mp hk
  have t3 : tv_ok ta (0, 4, 4, []) (n_v vs 3) := t3
  have k3 : 4 ≤ v_iv (n_v vs 3) ∧ v_iv (n_v vs 3) ≤ 4 := tv_rng t3
  obtain ⟨t5, hk⟩ := List.forall_mem_cons.mp hk
  have t5 : tv_ok ta (0, 0, 2000, []) (n_v vs 5) := t5
  have k5 : 0 ≤ v_iv (n_v vs 5) ∧ v_iv (n_v vs 5) ≤ 2000 := tv_rng t5
  obtain ⟨t6, hk⟩ := List.forall_mem_cons.mp hk
  have t6 : tv_ok ta (0, 0, 2003, []) (n_v vs 6) := t6
  have k6 : 0 ≤ v_iv (n_v vs 6) ∧ v_iv (n_v vs 6) ≤ 2003 := tv_rng t6
  have hds : ∀ q ∈ ([(6, 2, 0, 2000), (6, 5, 0, 3)] : List of_T), n_iv vs q.2.1 + q.2.2.1 ≤ n_iv vs q.1 ∧ n_iv vs q.1 ≤ n_iv vs q.2.1 + q.2.2.2 := hds
  obtain ⟨d0, hds⟩ := List.forall_mem_cons.mp hds
  have d0 : v_iv (n_v vs 2) + 0 ≤ v_iv (n_v vs 6) ∧ v_iv (n_v vs 6) ≤ v_iv (n_v vs 2) + 2000 := d0
  obtain ⟨d1, hds⟩ := List.forall_mem_cons.mp hds
  have d1 : v_iv (n_v vs 5) + 0 ≤ v_iv (n_v vs 6) ∧ v_iv (n_v vs 6) ≤ v_iv (n_v vs 5) + 3 := d1
  have hf : fc_ok [(1, [6, 5, 2], []), (9, [5, 0], [8]), (7, [2, 3], [2]), (20, [0], [30, 1996, 1, 1, 8])] ta ws vs := hf
  obtain ⟨f0, hf⟩ := fc_un (show (1 : Nat) < 100 from by decide) hf
  have f0 : v_iv (n_v vs 6) = v_iv (n_v vs 5) + v_iv (n_v vs 2) := f0
  obtain ⟨f1, hf⟩ := fc_un (show (9 : Nat) < 100 from by decide) hf
  have f1 : n_v vs 5 = w_fd ws (v_ad (n_v vs 0)) 8 := f1
  obtain ⟨f2, hf⟩ := fc_un (show (7 : Nat) < 100 from by decide) hf
  have f2 : v_iv (n_v vs 2) < v_iv (n_v vs 3) := f2
  obtain ⟨f3, hf⟩ := fc_un (show (20 : Nat) < 100 from by decide) hf
  have f3 : 1 * w_fi ws (n_v vs 0) 8 + 0 ≤ 1996 := f3
  have g1 : v_iv (n_v vs 5) = w_fi ws (n_v vs 0) 8 := congrArg v_iv f1
  have kz_0_8 : 0 ≤ w_fi ws (n_v vs 0) 8 ∧ w_fi ws (n_v vs 0) 8 ≤ 2000 := tv_rng (th_fd hD hth r0 (g := GG_8) rfl (k := 8) (t := (0, 0, 2000, [])) rfl rfl)
  have rf6 : tv_ok ta (0, 0, 1999, []) (n_v vs 6) := tv_in t6 (by omega) (by omega)
  refine ⟨List.forall_mem_cons.mpr ⟨rf6, (fun _ h => (by cases h))⟩, [], trivial, ?_, (fun _ h => (by cases h))⟩
  rw [List.append_nil]
  exact (fun _ h => (by cases h))
def n_Re_isWord_at_s5002_an : List an_T := [(28, [(0, (2, 0, 0, [8])), (1, (2, 0, 0, [5002])), (2, (0, 0, 4, []))], [], (0, 0), [(0, 0, 99972), (1, 2, 4), (0, 0, 100000)], [], [], [], 0, [], [(20, [0], [30, 1996, 1, 1, 8])])]
def t_Re_isWord_at_s5002_ct : ct_L := [(58, 84, e_jStr_length_v183), (94, 84, e_jStr_length_v183), (151, 89, e_jStr_charAt_v184)]
set_option maxRecDepth 100000 in
theorem c_Re_isWord_at_s5002 {l : Launch} {D : va_G} {kA : Nat → ClassId} : ct_ok l D kA GG y_Re_isWord_at_s5002 z_Re_isWord_at_s5002 e_Re_isWord_at_s5002 := chk_all_ok (FT := [(9, 8, 0), (35, 8, 6), (38, 8, 7), (41, 8, 8)]) (PT := []) (CT := t_Re_isWord_at_s5002_ct) (KT := []) (NT := []) (AN := n_Re_isWord_at_s5002_an) (OT := [o_Re_isWord_at_s5002_0, o_Re_isWord_at_s5002_1]) 3 200 (List.forall_mem_cons.mpr ⟨oo_Re_isWord_at_s5002_0, List.forall_mem_cons.mpr ⟨oo_Re_isWord_at_s5002_1, List.forall_mem_nil _⟩⟩) (by decide +kernel) ⟨List.forall_mem_cons.mpr ⟨gf_Re_9, List.forall_mem_cons.mpr ⟨gf_Re_35, List.forall_mem_cons.mpr ⟨gf_Re_38, List.forall_mem_cons.mpr ⟨gf_Re_41, List.forall_mem_nil _⟩⟩⟩⟩, List.forall_mem_nil _, List.forall_mem_cons.mpr ⟨cl_string (y := y_jStr_length) (i := 2) rfl rfl (by decide +kernel) rfl c_jStr_length_v183 wm_674 wm_11 wm_671 wm_672 wm_673 ⟨by decide, by decide, by decide +kernel⟩ (by decide), List.forall_mem_cons.mpr ⟨cl_string (y := y_jStr_length) (i := 2) rfl rfl (by decide +kernel) rfl c_jStr_length_v183 wm_674 wm_11 wm_671 wm_672 wm_673 ⟨by decide, by decide, by decide +kernel⟩ (by decide), List.forall_mem_cons.mpr ⟨cl_string (y := y_jStr_charAt) (i := 2) rfl rfl (by decide +kernel) rfl c_jStr_charAt_v184 wm_684 wm_11 wm_681 wm_682 wm_683 ⟨by decide, by decide, by decide +kernel⟩ (by decide), List.forall_mem_nil _⟩⟩⟩, List.forall_mem_nil _, List.forall_mem_nil _, GG_pl⟩ (by decide +kernel)
def o_Re_isWord_at_s5003_0 : or_T := (28, 9, [(0, (2, 0, 0, [8])), (4, (0, 6, 2000, [])), (5, (0, 0, 2000, [])), (6, (0, 6, 6, [])), (7, (0, 6, 6, []))], [(7, [6, 7], [0]), (2, [6, 4, 5], []), (9, [5, 0], [8]), (9, [4, 0], [6])], [], [], [(20, [0], [30, 1994, 1, 1, 8])], [], [(6, 4, -2000, 0)])
theorem oo_Re_isWord_at_s5003_0 {kA : Nat → ClassId} : or_ok kA GG o_Re_isWord_at_s5003_0 := by
  intro A ta ws vs hD hth hl hk hds hf
  have hl : vs.length = 9 := hl
  have hk : ∀ q ∈ ([(0, (2, 0, 0, [8])), (4, (0, 6, 2000, [])), (5, (0, 0, 2000, [])), (6, (0, 6, 6, [])), (7, (0, 6, 6, []))] : List (Nat × tv_T)), tv_ok ta q.2 (n_v vs q.1) := hk
  obtain ⟨t0, hk⟩ := List.forall_mem_cons.mp hk
  have t0 : tv_ok ta (2, 0, 0, [8]) (n_v vs 0) := t0
  have r0 : ta (v_ad (n_v vs 0)) = some 8 := tv_rg t0
  obtain ⟨t4, hk⟩ := List.forall_mem_cons.mp hk
  have t4 : tv_ok ta (0, 6, 2000, []) (n_v vs 4) := t4
  have k4 : 6 ≤ v_iv (n_v vs 4) ∧ v_iv (n_v vs 4) ≤ 2000 := tv_rng t4
  obtain ⟨t5, hk⟩ := List.forall_mem_cons.mp hk
  have t5 : tv_ok ta (0, 0, 2000, []) (n_v vs 5) := t5
  have k5 : 0 ≤ v_iv (n_v vs 5) ∧ v_iv (n_v vs 5) ≤ 2000 := tv_rng t5
  obtain ⟨t6, hk⟩ := List.forall_mem_cons.mp hk
  have t6 : tv_ok ta (0, 6, 6, []) (n_v vs 6) := t6
  have k6 : 6 ≤ v_iv (n_v vs 6) ∧ v_iv (n_v vs 6) ≤ 6 := tv_rng t6
  obtain ⟨t7, hk⟩ := List.forall_mem_cons.mp hk
  have t7 : tv_ok ta (0, 6, 6, []) (n_v vs 7) := t7
  have k7 : 6 ≤ v_iv (n_v vs 7) ∧ v_iv (n_v vs 7) ≤ 6 := tv_rng t7
  have hds : ∀ q ∈ ([(6, 4, -2000, 0)] : List of_T), n_iv vs q.2.1 + q.2.2.1 ≤ n_iv vs q.1 ∧ n_iv vs q.1 ≤ n_iv vs q.2.1 + q.2.2.2 := hds
  obtain ⟨d0, hds⟩ := List.forall_mem_cons.mp hds
  have d0 : v_iv (n_v vs 4) + (-2000) ≤ v_iv (n_v vs 6) ∧ v_iv (n_v vs 6) ≤ v_iv (n_v vs 4) + 0 := d0
  have hf : fc_ok [(7, [6, 7], [0]), (2, [6, 4, 5], []), (9, [5, 0], [8]), (9, [4, 0], [6])] ta ws vs := hf
  obtain ⟨f0, hf⟩ := fc_un (show (7 : Nat) < 100 from by decide) hf
  have f0 : v_iv (n_v vs 6) = v_iv (n_v vs 7) := f0
  obtain ⟨f1, hf⟩ := fc_un (show (2 : Nat) < 100 from by decide) hf
  have f1 : v_iv (n_v vs 6) = v_iv (n_v vs 4) - v_iv (n_v vs 5) := f1
  obtain ⟨f2, hf⟩ := fc_un (show (9 : Nat) < 100 from by decide) hf
  have f2 : n_v vs 5 = w_fd ws (v_ad (n_v vs 0)) 8 := f2
  obtain ⟨f3, hf⟩ := fc_un (show (9 : Nat) < 100 from by decide) hf
  have f3 : n_v vs 4 = w_fd ws (v_ad (n_v vs 0)) 6 := f3
  have g2 : v_iv (n_v vs 5) = w_fi ws (n_v vs 0) 8 := congrArg v_iv f2
  have g3 : v_iv (n_v vs 4) = w_fi ws (n_v vs 0) 6 := congrArg v_iv f3
  have kz_0_6 : 0 ≤ w_fi ws (n_v vs 0) 6 ∧ w_fi ws (n_v vs 0) 6 ≤ 2000 := tv_rng (th_fd hD hth r0 (g := GG_8) rfl (k := 6) (t := (0, 0, 2000, [])) rfl rfl)
  have kz_0_8 : 0 ≤ w_fi ws (n_v vs 0) 8 ∧ w_fi ws (n_v vs 0) 8 ≤ 2000 := tv_rng (th_fd hD hth r0 (g := GG_8) rfl (k := 8) (t := (0, 0, 2000, [])) rfl rfl)
  have nf0 : fc_1 (20, [0], [30, 1994, 1, 1, 8]) ws (vs) := by
    refine ⟨fun n hn => ?_, ?_⟩
    · have hn : n ∈ [0] := hn
      rw [hl]
      simp only [List.mem_cons, List.not_mem_nil, or_false] at hn
      show n < 9; omega
    · show 1 * w_fi ws (n_v vs 0) 8 + 0 ≤ 1994
      omega
  refine ⟨(fun _ h => (by cases h)), [], trivial, ?_, (fun _ h => (by cases h))⟩
  rw [List.append_nil]
  exact List.forall_mem_cons.mpr ⟨⟨show (20 : Nat) < 100 from by decide, nf0⟩, (fun _ h => (by cases h))⟩
def o_Re_isWord_at_s5003_1 : or_T := (46, 7, [(0, (2, 0, 0, [8])), (2, (0, 0, 5, [])), (3, (0, 6, 6, [])), (5, (0, 0, 2000, [])), (6, (0, 0, 2005, []))], [(1, [6, 5, 2], []), (9, [5, 0], [8]), (7, [2, 3], [2]), (20, [0], [30, 1994, 1, 1, 8])], [(6, (0, 0, 1999, []))], [], [], [], [(6, 2, 0, 2000), (6, 5, 0, 5)])
theorem oo_Re_isWord_at_s5003_1 {kA : Nat → ClassId} : or_ok kA GG o_Re_isWord_at_s5003_1 := by
  intro A ta ws vs hD hth hl hk hds hf
  have hl : vs.length = 7 := hl
  have hk : ∀ q ∈ ([(0, (2, 0, 0, [8])), (2, (0, 0, 5, [])), (3, (0, 6, 6, [])), (5, (0, 0, 2000, [])), (6, (0, 0, 2005, []))] : List (Nat × tv_T)), tv_ok ta q.2 (n_v vs q.1) := hk
  obtain ⟨t0, hk⟩ := List.forall_mem_cons.mp hk
  have t0 : tv_ok ta (2, 0, 0, [8]) (n_v vs 0) := t0
  have r0 : ta (v_ad (n_v vs 0)) = some 8 := tv_rg t0
  obtain ⟨t2, hk⟩ := List.forall_mem_cons.mp hk
  have t2 : tv_ok ta (0, 0, 5, []) (n_v vs 2) := t2
  have k2 : 0 ≤ v_iv (n_v vs 2) ∧ v_iv (n_v vs 2) ≤ 5 := tv_rng t2
  obtain ⟨t3, hk⟩ := List.forall_mem_cons.mp hk
  have t3 : tv_ok ta (0, 6, 6, []) (n_v vs 3) := t3
  have k3 : 6 ≤ v_iv (n_v vs 3) ∧ v_iv (n_v vs 3) ≤ 6 := tv_rng t3
  obtain ⟨t5, hk⟩ := List.forall_mem_cons.mp hk
  have t5 : tv_ok ta (0, 0, 2000, []) (n_v vs 5) := t5
  have k5 : 0 ≤ v_iv (n_v vs 5) ∧ v_iv (n_v vs 5) ≤ 2000 := tv_rng t5
  obtain ⟨t6, hk⟩ := List.forall_mem_cons.mp hk
  have t6 : tv_ok ta (0, 0, 2005, []) (n_v vs 6) := t6
  have k6 : 0 ≤ v_iv (n_v vs 6) ∧ v_iv (n_v vs 6) ≤ 2005 := tv_rng t6
  have hds : ∀ q ∈ ([(6, 2, 0, 2000), (6, 5, 0, 5)] : List of_T), n_iv vs q.2.1 + q.2.2.1 ≤ n_iv vs q.1 ∧ n_iv vs q.1 ≤ n_iv vs q.2.1 + q.2.2.2 := hds
  obtain ⟨d0, hds⟩ := List.forall_mem_cons.mp hds
  have d0 : v_iv (n_v vs 2) + 0 ≤ v_iv (n_v vs 6) ∧ v_iv (n_v vs 6) ≤ v_iv (n_v vs 2) + 2000 := d0
  obtain ⟨d1, hds⟩ := List.forall_mem_cons.mp hds
  have d1 : v_iv (n_v vs 5) + 0 ≤ v_iv (n_v vs 6) ∧ v_iv (n_v vs 6) ≤ v_iv (n_v vs 5) + 5 := d1
  have hf : fc_ok [(1, [6, 5, 2], []), (9, [5, 0], [8]), (7, [2, 3], [2]), (20, [0], [30, 1994, 1, 1, 8])] ta ws vs := hf
  obtain ⟨f0, hf⟩ := fc_un (show (1 : Nat) < 100 from by decide) hf
  have f0 : v_iv (n_v vs 6) = v_iv (n_v vs 5) + v_iv (n_v vs 2) := f0
  obtain ⟨f1, hf⟩ := fc_un (show (9 : Nat) < 100 from by decide) hf
  have f1 : n_v vs 5 = w_fd ws (v_ad (n_v vs 0)) 8 := f1
  obtain ⟨f2, hf⟩ := fc_un (show (7 : Nat) < 100 from by decide) hf
  have f2 : v_iv (n_v vs 2) < v_iv (n_v vs 3) := f2
  obtain ⟨f3, hf⟩ := fc_un (show (20 : Nat) < 100 from by decide) hf
  have f3 : 1 * w_fi ws (n_v vs 0) 8 + 0 ≤ 1994 := f3
  have g1 : v_iv (n_v vs 5) = w_fi ws (n_v vs 0) 8 := congrArg v_iv f1
  have kz_0_8 : 0 ≤ w_fi ws (n_v vs 0) 8 ∧ w_fi ws (n_v vs 0) 8 ≤ 2000 := tv_rng (th_fd hD hth r0 (g := GG_8) rfl (k := 8) (t := (0, 0, 2000, [])) rfl rfl)
  have rf6 : tv_ok ta (0, 0, 1999, []) (n_v vs 6) := tv_in t6 (by omega) (by omega)
  refine ⟨List.forall_mem_cons.mpr ⟨rf6, (fun _ h => (by cases h))⟩, [], trivial, ?_, (fun _ h => (by cases h))⟩
  rw [List.append_nil]
  exact (fun _ h => (by cases h))
def n_Re_isWord_at_s5003_an : List an_T := [(28, [(0, (2, 0, 0, [8])), (1, (2, 0, 0, [5003])), (2, (0, 0, 6, []))], [], (0, 0), [(0, 0, 99972), (1, 2, 6), (0, 0, 100000)], [], [], [], 0, [], [(20, [0], [30, 1994, 1, 1, 8])])]
def t_Re_isWord_at_s5003_ct : ct_L := [(58, 84, e_jStr_length_v186), (94, 84, e_jStr_length_v186), (151, 89, e_jStr_charAt_v187)]
set_option maxRecDepth 100000 in
theorem c_Re_isWord_at_s5003 {l : Launch} {D : va_G} {kA : Nat → ClassId} : ct_ok l D kA GG y_Re_isWord_at_s5003 z_Re_isWord_at_s5003 e_Re_isWord_at_s5003 := chk_all_ok (FT := [(9, 8, 0), (35, 8, 6), (38, 8, 7), (41, 8, 8)]) (PT := []) (CT := t_Re_isWord_at_s5003_ct) (KT := []) (NT := []) (AN := n_Re_isWord_at_s5003_an) (OT := [o_Re_isWord_at_s5003_0, o_Re_isWord_at_s5003_1]) 3 200 (List.forall_mem_cons.mpr ⟨oo_Re_isWord_at_s5003_0, List.forall_mem_cons.mpr ⟨oo_Re_isWord_at_s5003_1, List.forall_mem_nil _⟩⟩) (by decide +kernel) ⟨List.forall_mem_cons.mpr ⟨gf_Re_9, List.forall_mem_cons.mpr ⟨gf_Re_35, List.forall_mem_cons.mpr ⟨gf_Re_38, List.forall_mem_cons.mpr ⟨gf_Re_41, List.forall_mem_nil _⟩⟩⟩⟩, List.forall_mem_nil _, List.forall_mem_cons.mpr ⟨cl_string (y := y_jStr_length) (i := 3) rfl rfl (by decide +kernel) rfl c_jStr_length_v186 wm_674 wm_11 wm_671 wm_672 wm_673 ⟨by decide, by decide, by decide +kernel⟩ (by decide), List.forall_mem_cons.mpr ⟨cl_string (y := y_jStr_length) (i := 3) rfl rfl (by decide +kernel) rfl c_jStr_length_v186 wm_674 wm_11 wm_671 wm_672 wm_673 ⟨by decide, by decide, by decide +kernel⟩ (by decide), List.forall_mem_cons.mpr ⟨cl_string (y := y_jStr_charAt) (i := 3) rfl rfl (by decide +kernel) rfl c_jStr_charAt_v187 wm_684 wm_11 wm_681 wm_682 wm_683 ⟨by decide, by decide, by decide +kernel⟩ (by decide), List.forall_mem_nil _⟩⟩⟩, List.forall_mem_nil _, List.forall_mem_nil _, GG_pl⟩ (by decide +kernel)
def n_Ho_label_an : List an_T := []
def t_Ho_label_ct : ct_L := [(1, 197, e_Gr_hasEdge), (1, 323, e_Ho_hasDrawing), (1, 333, e_Dr_labelOf)]
set_option maxRecDepth 100000 in
theorem c_Ho_label {l : Launch} {D : va_G} {kA : Nat → ClassId} (h_Dr_labelOf : ct_ok l D kA GG y_Dr_labelOf z_Dr_labelOf e_Dr_labelOf) (h_Gr_hasEdge : ct_ok l D kA GG y_Gr_hasEdge z_Gr_hasEdge e_Gr_hasEdge) (h_Ho_hasDrawing : ct_ok l D kA GG y_Ho_hasDrawing z_Ho_hasDrawing e_Ho_hasDrawing) : ct_ok l D kA GG y_Ho_label z_Ho_label e_Ho_label := chk_all_ok (FT := [(13, 12, 0), (31, 12, 3)]) (PT := []) (CT := t_Ho_label_ct) (KT := [(1, 315, .int (Int32.ofInt (-2147483648)), (0, -2147483648, -2147483648, []))]) (NT := []) (AN := n_Ho_label_an) (OT := []) 0 200 (List.forall_mem_nil _) (by decide +kernel) ⟨List.forall_mem_cons.mpr ⟨gf_Ho_13, List.forall_mem_cons.mpr ⟨gf_Ho_31, List.forall_mem_nil _⟩⟩, List.forall_mem_nil _, List.forall_mem_cons.mpr ⟨cl_virtual (y := y_Gr_hasEdge) (ci := 3) rfl rfl ⟨_, _, rfl⟩ (by decide +kernel) h_Gr_hasEdge wm_930 wm_3 wm_927 wm_928 wm_929 ⟨by decide, by decide, by decide +kernel⟩ (by decide), List.forall_mem_cons.mpr ⟨cl_virtual (y := y_Ho_hasDrawing) (ci := 12) rfl rfl ⟨_, _, rfl⟩ (by decide +kernel) h_Ho_hasDrawing wm_1859 wm_1 wm_1856 wm_1858 wv_8_15 ⟨by decide, by decide, by decide +kernel⟩ (by decide), List.forall_mem_cons.mpr ⟨cl_virtual (y := y_Dr_labelOf) (ci := 0) rfl rfl ⟨_, _, rfl⟩ (by decide +kernel) h_Dr_labelOf wm_1978 wm_8 wm_1975 wm_1976 wm_1977 ⟨by decide, by decide, by decide +kernel⟩ (by decide), List.forall_mem_nil _⟩⟩⟩, List.forall_mem_cons.mpr ⟨kx_Ho_1_315, List.forall_mem_nil _⟩, List.forall_mem_nil _, GG_pl⟩ (by decide +kernel)
def o_Ho_writeWord_at_s5013_0 : or_T := (2, 4, [(0, (2, 0, 0, [12])), (2, (0, 0, 99999995, [])), (3, (0, 0, 0, []))], [(20, [0, 2], [30, 0, 1, 1, 12, -1, 0, 0])], [], [], [(20, [0, 2, 3], [30, 0, 1, 1, 12, -1, 0, 0, -1, 0, 0]), (24, [0, 0], [])], [], [])
theorem oo_Ho_writeWord_at_s5013_0 {kA : Nat → ClassId} : or_ok kA GG o_Ho_writeWord_at_s5013_0 := by
  intro A ta ws vs hD hth hl hk hds hf
  have hl : vs.length = 4 := hl
  have hk : ∀ q ∈ ([(0, (2, 0, 0, [12])), (2, (0, 0, 99999995, [])), (3, (0, 0, 0, []))] : List (Nat × tv_T)), tv_ok ta q.2 (n_v vs q.1) := hk
  obtain ⟨t0, hk⟩ := List.forall_mem_cons.mp hk
  have t0 : tv_ok ta (2, 0, 0, [12]) (n_v vs 0) := t0
  have r0 : ta (v_ad (n_v vs 0)) = some 12 := tv_rg t0
  obtain ⟨t2, hk⟩ := List.forall_mem_cons.mp hk
  have t2 : tv_ok ta (0, 0, 99999995, []) (n_v vs 2) := t2
  have k2 : 0 ≤ v_iv (n_v vs 2) ∧ v_iv (n_v vs 2) ≤ 99999995 := tv_rng t2
  obtain ⟨t3, hk⟩ := List.forall_mem_cons.mp hk
  have t3 : tv_ok ta (0, 0, 0, []) (n_v vs 3) := t3
  have k3 : 0 ≤ v_iv (n_v vs 3) ∧ v_iv (n_v vs 3) ≤ 0 := tv_rng t3
  have hf : fc_ok [(20, [0, 2], [30, 0, 1, 1, 12, -1, 0, 0])] ta ws vs := hf
  obtain ⟨f0, hf⟩ := fc_un (show (20 : Nat) < 100 from by decide) hf
  have f0 : 1 * w_fi ws (n_v vs 0) 12 + ((-1) * v_iv (n_v vs 2) + 0) ≤ 0 := f0
  have kz_0_12 : 0 ≤ w_fi ws (n_v vs 0) 12 ∧ w_fi ws (n_v vs 0) 12 ≤ 100000000 := tv_rng (th_fd hD hth r0 (g := GG_12) rfl (k := 12) (t := (0, 0, 100000000, [])) rfl rfl)
  have nf0 : fc_1 (20, [0, 2, 3], [30, 0, 1, 1, 12, -1, 0, 0, -1, 0, 0]) ws (vs) := by
    refine ⟨fun n hn => ?_, ?_⟩
    · have hn : n ∈ [0, 2, 3] := hn
      rw [hl]
      simp only [List.mem_cons, List.not_mem_nil, or_false] at hn
      show n < 4; omega
    · show 1 * w_fi ws (n_v vs 0) 12 + ((-1) * v_iv (n_v vs 2) + ((-1) * v_iv (n_v vs 3) + 0)) ≤ 0
      omega
  have nf1 : fc_1 (24, [0, 0], []) ws (vs) := by
    refine ⟨fun n hn => ?_, ?_⟩
    · have hn : n ∈ [0, 0] := hn
      rw [hl]
      simp only [List.mem_cons, List.not_mem_nil, or_false] at hn
      show n < 4; omega
    · show n_v vs 0 = n_v vs 0
      first | rfl | simp only [true_and]
  refine ⟨(fun _ h => (by cases h)), [], trivial, ?_, (fun _ h => (by cases h))⟩
  rw [List.append_nil]
  exact List.forall_mem_cons.mpr ⟨⟨show (20 : Nat) < 100 from by decide, nf0⟩, List.forall_mem_cons.mpr ⟨⟨show (24 : Nat) < 100 from by decide, nf1⟩, (fun _ h => (by cases h))⟩⟩
def o_Ho_writeWord_at_s5013_1 : or_T := (25, 7, [(0, (2, 0, 0, [12])), (2, (0, 0, 99999995, [])), (3, (2, 0, 0, [12])), (5, (0, 5, 5, [])), (6, (0, 5, 5, []))], [(7, [5, 6], [3]), (20, [3, 2, 5], [30, 0, 1, 1, 12, -1, 0, 0, -1, 0, 0]), (24, [0, 3], [])], [], [], [(20, [0, 2], [30, 5, 1, 1, 12, -1, 0, 0])], [], [])
theorem oo_Ho_writeWord_at_s5013_1 {kA : Nat → ClassId} : or_ok kA GG o_Ho_writeWord_at_s5013_1 := by
  intro A ta ws vs hD hth hl hk hds hf
  have hl : vs.length = 7 := hl
  have hk : ∀ q ∈ ([(0, (2, 0, 0, [12])), (2, (0, 0, 99999995, [])), (3, (2, 0, 0, [12])), (5, (0, 5, 5, [])), (6, (0, 5, 5, []))] : List (Nat × tv_T)), tv_ok ta q.2 (n_v vs q.1) := hk
  obtain ⟨t0, hk⟩ := List.forall_mem_cons.mp hk
  have t0 : tv_ok ta (2, 0, 0, [12]) (n_v vs 0) := t0
  have r0 : ta (v_ad (n_v vs 0)) = some 12 := tv_rg t0
  obtain ⟨t2, hk⟩ := List.forall_mem_cons.mp hk
  have t2 : tv_ok ta (0, 0, 99999995, []) (n_v vs 2) := t2
  have k2 : 0 ≤ v_iv (n_v vs 2) ∧ v_iv (n_v vs 2) ≤ 99999995 := tv_rng t2
  obtain ⟨t3, hk⟩ := List.forall_mem_cons.mp hk
  have t3 : tv_ok ta (2, 0, 0, [12]) (n_v vs 3) := t3
  have r3 : ta (v_ad (n_v vs 3)) = some 12 := tv_rg t3
  obtain ⟨t5, hk⟩ := List.forall_mem_cons.mp hk
  have t5 : tv_ok ta (0, 5, 5, []) (n_v vs 5) := t5
  have k5 : 5 ≤ v_iv (n_v vs 5) ∧ v_iv (n_v vs 5) ≤ 5 := tv_rng t5
  obtain ⟨t6, hk⟩ := List.forall_mem_cons.mp hk
  have t6 : tv_ok ta (0, 5, 5, []) (n_v vs 6) := t6
  have k6 : 5 ≤ v_iv (n_v vs 6) ∧ v_iv (n_v vs 6) ≤ 5 := tv_rng t6
  have hf : fc_ok [(7, [5, 6], [3]), (20, [3, 2, 5], [30, 0, 1, 1, 12, -1, 0, 0, -1, 0, 0]), (24, [0, 3], [])] ta ws vs := hf
  obtain ⟨f0, hf⟩ := fc_un (show (7 : Nat) < 100 from by decide) hf
  have f0 : v_iv (n_v vs 6) ≤ v_iv (n_v vs 5) := f0
  obtain ⟨f1, hf⟩ := fc_un (show (20 : Nat) < 100 from by decide) hf
  have f1 : 1 * w_fi ws (n_v vs 3) 12 + ((-1) * v_iv (n_v vs 2) + ((-1) * v_iv (n_v vs 5) + 0)) ≤ 0 := f1
  obtain ⟨f2, hf⟩ := fc_un (show (24 : Nat) < 100 from by decide) hf
  have f2 : n_v vs 0 = n_v vs 3 := f2
  have q3 : n_v vs 3 = n_v vs 0 := f2.symm
  rw [q3] at f1
  have kz_0_12 : 0 ≤ w_fi ws (n_v vs 0) 12 ∧ w_fi ws (n_v vs 0) 12 ≤ 100000000 := tv_rng (th_fd hD hth r0 (g := GG_12) rfl (k := 12) (t := (0, 0, 100000000, [])) rfl rfl)
  have nf0 : fc_1 (20, [0, 2], [30, 5, 1, 1, 12, -1, 0, 0]) ws (vs) := by
    refine ⟨fun n hn => ?_, ?_⟩
    · have hn : n ∈ [0, 2] := hn
      rw [hl]
      simp only [List.mem_cons, List.not_mem_nil, or_false] at hn
      show n < 7; omega
    · show 1 * w_fi ws (n_v vs 0) 12 + ((-1) * v_iv (n_v vs 2) + 0) ≤ 5
      omega
  refine ⟨(fun _ h => (by cases h)), [], trivial, ?_, (fun _ h => (by cases h))⟩
  rw [List.append_nil]
  exact List.forall_mem_cons.mpr ⟨⟨show (20 : Nat) < 100 from by decide, nf0⟩, (fun _ h => (by cases h))⟩
def o_Ho_writeWord_at_s5013_2 : or_T := (16, 8, [(0, (2, 0, 0, [12])), (2, (0, 0, 99999995, [])), (3, (2, 0, 0, [12])), (5, (0, 0, 4, [])), (6, (0, 5, 5, []))], [(7, [5, 6], [2]), (20, [3, 2, 5], [30, 0, 1, 1, 12, -1, 0, 0, -1, 0, 0]), (24, [0, 3], [])], [], [(0, 0, 99999999, [])], [(20, [3, 8], [30, 0, 1, 1, 12, -1, 0, 0]), (23, [8, 2, 5], [0, 1, -1, -1])], [], [])
theorem oo_Ho_writeWord_at_s5013_2 {kA : Nat → ClassId} : or_ok kA GG o_Ho_writeWord_at_s5013_2 := by
  intro A ta ws vs hD hth hl hk hds hf
  have hl : vs.length = 8 := hl
  have hk : ∀ q ∈ ([(0, (2, 0, 0, [12])), (2, (0, 0, 99999995, [])), (3, (2, 0, 0, [12])), (5, (0, 0, 4, [])), (6, (0, 5, 5, []))] : List (Nat × tv_T)), tv_ok ta q.2 (n_v vs q.1) := hk
  obtain ⟨t0, hk⟩ := List.forall_mem_cons.mp hk
  have t0 : tv_ok ta (2, 0, 0, [12]) (n_v vs 0) := t0
  have r0 : ta (v_ad (n_v vs 0)) = some 12 := tv_rg t0
  obtain ⟨t2, hk⟩ := List.forall_mem_cons.mp hk
  have t2 : tv_ok ta (0, 0, 99999995, []) (n_v vs 2) := t2
  have k2 : 0 ≤ v_iv (n_v vs 2) ∧ v_iv (n_v vs 2) ≤ 99999995 := tv_rng t2
  obtain ⟨t3, hk⟩ := List.forall_mem_cons.mp hk
  have t3 : tv_ok ta (2, 0, 0, [12]) (n_v vs 3) := t3
  have r3 : ta (v_ad (n_v vs 3)) = some 12 := tv_rg t3
  obtain ⟨t5, hk⟩ := List.forall_mem_cons.mp hk
  have t5 : tv_ok ta (0, 0, 4, []) (n_v vs 5) := t5
  have k5 : 0 ≤ v_iv (n_v vs 5) ∧ v_iv (n_v vs 5) ≤ 4 := tv_rng t5
  obtain ⟨t6, hk⟩ := List.forall_mem_cons.mp hk
  have t6 : tv_ok ta (0, 5, 5, []) (n_v vs 6) := t6
  have k6 : 5 ≤ v_iv (n_v vs 6) ∧ v_iv (n_v vs 6) ≤ 5 := tv_rng t6
  have hf : fc_ok [(7, [5, 6], [2]), (20, [3, 2, 5], [30, 0, 1, 1, 12, -1, 0, 0, -1, 0, 0]), (24, [0, 3], [])] ta ws vs := hf
  obtain ⟨f0, hf⟩ := fc_un (show (7 : Nat) < 100 from by decide) hf
  have f0 : v_iv (n_v vs 5) < v_iv (n_v vs 6) := f0
  obtain ⟨f1, hf⟩ := fc_un (show (20 : Nat) < 100 from by decide) hf
  have f1 : 1 * w_fi ws (n_v vs 3) 12 + ((-1) * v_iv (n_v vs 2) + ((-1) * v_iv (n_v vs 5) + 0)) ≤ 0 := f1
  obtain ⟨f2, hf⟩ := fc_un (show (24 : Nat) < 100 from by decide) hf
  have f2 : n_v vs 0 = n_v vs 3 := f2
  have q3 : n_v vs 3 = n_v vs 0 := f2.symm
  rw [q3] at f1
  have kz_0_12 : 0 ≤ w_fi ws (n_v vs 0) 12 ∧ w_fi ws (n_v vs 0) 12 ≤ 100000000 := tv_rng (th_fd hD hth r0 (g := GG_12) rfl (k := 12) (t := (0, 0, 100000000, [])) rfl rfl)
  have kv0 : 0 ≤ w_fi ws (n_v vs 0) 12 ∧ w_fi ws (n_v vs 0) 12 ≤ 100000000 := tv_rng (th_fd hD hth r0 (g := GG_12) rfl (k := 12) (t := (0, 0, 100000000, [])) rfl rfl)
  obtain ⟨x, ex, hx⟩ := iv_ex (ta := ta) (lo := 0) (hi := 99999999) (z := w_fi ws (n_v vs 0) 12) (by omega) (by omega) (by omega) (by omega)
  have ex2 : v_iv (Value.int x) = w_fi ws (n_v vs 0) 12 := ex
  have ex3 : 0 ≤ v_iv (Value.int x) ∧ v_iv (Value.int x) ≤ 99999999 := tv_rng hx
  have e_2 : n_v (vs ++ [Value.int x]) 2 = n_v vs 2 := n_v_old (by rw [hl]; decide)
  have e_3 : n_v (vs ++ [Value.int x]) 3 = n_v vs 3 := n_v_old (by rw [hl]; decide)
  have e_5 : n_v (vs ++ [Value.int x]) 5 = n_v vs 5 := n_v_old (by rw [hl]; decide)
  have e_8 : n_v (vs ++ [Value.int x]) 8 = Value.int x := n_v_new hl
  have nf0 : fc_1 (20, [3, 8], [30, 0, 1, 1, 12, -1, 0, 0]) ws (vs ++ [Value.int x]) := by
    refine ⟨fun n hn => ?_, ?_⟩
    · have hn : n ∈ [3, 8] := hn
      rw [List.length_append, hl]
      simp only [List.mem_cons, List.not_mem_nil, or_false] at hn
      show n < 8 + 1; omega
    · show 1 * w_fi ws (n_v (vs ++ [Value.int x]) 3) 12 + ((-1) * v_iv (n_v (vs ++ [Value.int x]) 8) + 0) ≤ 0
      rw [e_3]
      rw [e_8]
      rw [q3]
      omega
  have nf1 : fc_1 (23, [8, 2, 5], [0, 1, -1, -1]) ws (vs ++ [Value.int x]) := by
    refine ⟨fun n hn => ?_, ?_⟩
    · have hn : n ∈ [8, 2, 5] := hn
      rw [List.length_append, hl]
      simp only [List.mem_cons, List.not_mem_nil, or_false] at hn
      show n < 8 + 1; omega
    · show 1 * v_iv (n_v (vs ++ [Value.int x]) 8) + ((-1) * v_iv (n_v (vs ++ [Value.int x]) 2) + ((-1) * v_iv (n_v (vs ++ [Value.int x]) 5) + 0)) ≤ 0
      rw [e_2]
      rw [e_5]
      rw [e_8]
      omega
  exact ⟨(fun _ h => (by cases h)), [Value.int x], ag_one hx, List.forall_mem_cons.mpr ⟨⟨show (20 : Nat) < 100 from by decide, nf0⟩, List.forall_mem_cons.mpr ⟨⟨show (23 : Nat) < 100 from by decide, nf1⟩, (fun _ h => (by cases h))⟩⟩, (fun _ h => (by cases h))⟩
def o_Ho_writeWord_at_s5013_3 : or_T := (2, 10, [(0, (2, 0, 0, [12])), (2, (0, 0, 99999995, [])), (3, (2, 0, 0, [12])), (5, (0, 0, 4, [])), (6, (0, 5, 5, [])), (8, (0, 0, 99999999, [])), (9, (0, 1, 5, []))], [(6, [9, 5], [1]), (23, [8, 2, 5], [0, 1, -1, -1]), (24, [0, 3], []), (20, [3, 8], [30, 1, 1, 1, 12, -1, 0, 0]), (102, [8], [261336857795280739939871698507597986398208, 12012]), (23, [8, 2, 5], [0, 1, -1, -1]), (7, [5, 6], [2])], [], [], [(20, [3, 2, 9], [30, 0, 1, 1, 12, -1, 0, 0, -1, 0, 0])], [], [(9, 5, 1, 1)])
theorem oo_Ho_writeWord_at_s5013_3 {kA : Nat → ClassId} : or_ok kA GG o_Ho_writeWord_at_s5013_3 := by
  intro A ta ws vs hD hth hl hk hds hf
  have hl : vs.length = 10 := hl
  have hk : ∀ q ∈ ([(0, (2, 0, 0, [12])), (2, (0, 0, 99999995, [])), (3, (2, 0, 0, [12])), (5, (0, 0, 4, [])), (6, (0, 5, 5, [])), (8, (0, 0, 99999999, [])), (9, (0, 1, 5, []))] : List (Nat × tv_T)), tv_ok ta q.2 (n_v vs q.1) := hk
  obtain ⟨t0, hk⟩ := List.forall_mem_cons.mp hk
  have t0 : tv_ok ta (2, 0, 0, [12]) (n_v vs 0) := t0
  have r0 : ta (v_ad (n_v vs 0)) = some 12 := tv_rg t0
  obtain ⟨t2, hk⟩ := List.forall_mem_cons.mp hk
  have t2 : tv_ok ta (0, 0, 99999995, []) (n_v vs 2) := t2
  have k2 : 0 ≤ v_iv (n_v vs 2) ∧ v_iv (n_v vs 2) ≤ 99999995 := tv_rng t2
  obtain ⟨t3, hk⟩ := List.forall_mem_cons.mp hk
  have t3 : tv_ok ta (2, 0, 0, [12]) (n_v vs 3) := t3
  have r3 : ta (v_ad (n_v vs 3)) = some 12 := tv_rg t3
  obtain ⟨t5, hk⟩ := List.forall_mem_cons.mp hk
  have t5 : tv_ok ta (0, 0, 4, []) (n_v vs 5) := t5
  have k5 : 0 ≤ v_iv (n_v vs 5) ∧ v_iv (n_v vs 5) ≤ 4 := tv_rng t5
  obtain ⟨t6, hk⟩ := List.forall_mem_cons.mp hk
  have t6 : tv_ok ta (0, 5, 5, []) (n_v vs 6) := t6
  have k6 : 5 ≤ v_iv (n_v vs 6) ∧ v_iv (n_v vs 6) ≤ 5 := tv_rng t6
  obtain ⟨t8, hk⟩ := List.forall_mem_cons.mp hk
  have t8 : tv_ok ta (0, 0, 99999999, []) (n_v vs 8) := t8
  have k8 : 0 ≤ v_iv (n_v vs 8) ∧ v_iv (n_v vs 8) ≤ 99999999 := tv_rng t8
  obtain ⟨t9, hk⟩ := List.forall_mem_cons.mp hk
  have t9 : tv_ok ta (0, 1, 5, []) (n_v vs 9) := t9
  have k9 : 1 ≤ v_iv (n_v vs 9) ∧ v_iv (n_v vs 9) ≤ 5 := tv_rng t9
  have hds : ∀ q ∈ ([(9, 5, 1, 1)] : List of_T), n_iv vs q.2.1 + q.2.2.1 ≤ n_iv vs q.1 ∧ n_iv vs q.1 ≤ n_iv vs q.2.1 + q.2.2.2 := hds
  obtain ⟨d0, hds⟩ := List.forall_mem_cons.mp hds
  have d0 : v_iv (n_v vs 5) + 1 ≤ v_iv (n_v vs 9) ∧ v_iv (n_v vs 9) ≤ v_iv (n_v vs 5) + 1 := d0
  have hf : fc_ok [(6, [9, 5], [1]), (23, [8, 2, 5], [0, 1, -1, -1]), (24, [0, 3], []), (20, [3, 8], [30, 1, 1, 1, 12, -1, 0, 0]), (102, [8], [261336857795280739939871698507597986398208, 12012]), (23, [8, 2, 5], [0, 1, -1, -1]), (7, [5, 6], [2])] ta ws vs := hf
  obtain ⟨f0, hf⟩ := fc_un (show (6 : Nat) < 100 from by decide) hf
  have f0 : v_iv (n_v vs 9) = v_iv (n_v vs 5) + 1 := f0
  obtain ⟨f1, hf⟩ := fc_un (show (23 : Nat) < 100 from by decide) hf
  have f1 : 1 * v_iv (n_v vs 8) + ((-1) * v_iv (n_v vs 2) + ((-1) * v_iv (n_v vs 5) + 0)) ≤ 0 := f1
  obtain ⟨f2, hf⟩ := fc_un (show (24 : Nat) < 100 from by decide) hf
  have f2 : n_v vs 0 = n_v vs 3 := f2
  obtain ⟨f3, hf⟩ := fc_un (show (20 : Nat) < 100 from by decide) hf
  have f3 : 1 * w_fi ws (n_v vs 3) 12 + ((-1) * v_iv (n_v vs 8) + 0) ≤ 1 := f3
  obtain ⟨ta1, w1, le1, ⟨_, s1⟩, hf⟩ := fc_us (show ¬ (102 : Nat) < 100 from by decide) hf
  obtain ⟨f5, hf⟩ := fc_un (show (23 : Nat) < 100 from by decide) hf
  have f5 : 1 * v_iv (n_v vs 8) + ((-1) * v_iv (n_v vs 2) + ((-1) * v_iv (n_v vs 5) + 0)) ≤ 0 := f5
  obtain ⟨f6, hf⟩ := fc_un (show (7 : Nat) < 100 from by decide) hf
  have f6 : v_iv (n_v vs 5) < v_iv (n_v vs 6) := f6
  have q3 : n_v vs 3 = n_v vs 0 := f2.symm
  rw [q3] at f3
  have kz_0_12 : 0 ≤ w_fi ws (n_v vs 0) 12 ∧ w_fi ws (n_v vs 0) 12 ≤ 100000000 := tv_rng (th_fd hD hth r0 (g := GG_12) rfl (k := 12) (t := (0, 0, 100000000, [])) rfl rfl)
  have nf0 : fc_1 (20, [3, 2, 9], [30, 0, 1, 1, 12, -1, 0, 0, -1, 0, 0]) ws (vs) := by
    refine ⟨fun n hn => ?_, ?_⟩
    · have hn : n ∈ [3, 2, 9] := hn
      rw [hl]
      simp only [List.mem_cons, List.not_mem_nil, or_false] at hn
      show n < 10; omega
    · show 1 * w_fi ws (n_v vs 3) 12 + ((-1) * v_iv (n_v vs 2) + ((-1) * v_iv (n_v vs 9) + 0)) ≤ 0
      rw [q3]
      omega
  refine ⟨(fun _ h => (by cases h)), [], trivial, ?_, (fun _ h => (by cases h))⟩
  rw [List.append_nil]
  exact List.forall_mem_cons.mpr ⟨⟨show (20 : Nat) < 100 from by decide, nf0⟩, (fun _ h => (by cases h))⟩
def n_Ho_writeWord_at_s5013_an : List an_T := [(2, [(0, (2, 0, 0, [12])), (1, (2, 0, 0, [5013])), (2, (0, 0, 5, []))], [], (0, 0), [(0, 0, 99998), (1, 5, 5), (0, 0, 100000)], [], [], [(2, 0, 0, [12]), (2, 0, 0, [5013]), (0, 0, 99999995, [])], 0, [], [(20, [3, 2, 5], [30, 0, 1, 1, 12, -1, 0, 0, -1, 0, 0]), (24, [0, 3], [])])]
def t_Ho_writeWord_at_s5013_ct : ct_L := [(1, 447, e_Ho_writeByte), (16, 438, e_jStr_length_v191), (43, 443, e_jStr_charAt_v192)]
set_option maxRecDepth 100000 in
theorem c_Ho_writeWord_at_s5013 {l : Launch} {D : va_G} {kA : Nat → ClassId} (h_Ho_writeByte : ct_ok l D kA GG y_Ho_writeByte z_Ho_writeByte e_Ho_writeByte) : ct_ok l D kA GG y_Ho_writeWord_at_s5013 z_Ho_writeWord_at_s5013 e_Ho_writeWord_at_s5013 := chk_all_ok (FT := []) (PT := []) (CT := t_Ho_writeWord_at_s5013_ct) (KT := []) (NT := []) (AN := n_Ho_writeWord_at_s5013_an) (OT := [o_Ho_writeWord_at_s5013_0, o_Ho_writeWord_at_s5013_1, o_Ho_writeWord_at_s5013_2, o_Ho_writeWord_at_s5013_3]) 3 200 (List.forall_mem_cons.mpr ⟨oo_Ho_writeWord_at_s5013_0, List.forall_mem_cons.mpr ⟨oo_Ho_writeWord_at_s5013_1, List.forall_mem_cons.mpr ⟨oo_Ho_writeWord_at_s5013_2, List.forall_mem_cons.mpr ⟨oo_Ho_writeWord_at_s5013_3, List.forall_mem_nil _⟩⟩⟩⟩) (by decide +kernel) ⟨List.forall_mem_nil _, List.forall_mem_nil _, List.forall_mem_cons.mpr ⟨cl_virtual (y := y_Ho_writeByte) (ci := 12) rfl rfl ⟨_, _, rfl⟩ (by decide +kernel) h_Ho_writeByte wm_2345 wm_1 wm_2342 wm_2344 wv_12_0 ⟨by decide, by decide, by decide +kernel⟩ (by decide), List.forall_mem_cons.mpr ⟨cl_string (y := y_jStr_length) (i := 13) rfl rfl (by decide +kernel) rfl c_jStr_length_v191 wm_674 wm_11 wm_2340 wm_672 wm_673 ⟨by decide, by decide, by decide +kernel⟩ (by decide), List.forall_mem_cons.mpr ⟨cl_string (y := y_jStr_charAt) (i := 13) rfl rfl (by decide +kernel) rfl c_jStr_charAt_v192 wm_684 wm_11 wm_2341 wm_682 wm_683 ⟨by decide, by decide, by decide +kernel⟩ (by decide), List.forall_mem_nil _⟩⟩⟩, List.forall_mem_nil _, List.forall_mem_nil _, GG_pl⟩ (by decide +kernel)
def o_Ho_writeWord_at_s5014_0 : or_T := (2, 4, [(0, (2, 0, 0, [12])), (2, (0, 0, 99999993, [])), (3, (0, 0, 0, []))], [(20, [0, 2], [30, 0, 1, 1, 12, -1, 0, 0])], [], [], [(20, [0, 2, 3], [30, 0, 1, 1, 12, -1, 0, 0, -1, 0, 0]), (24, [0, 0], [])], [], [])
theorem oo_Ho_writeWord_at_s5014_0 {kA : Nat → ClassId} : or_ok kA GG o_Ho_writeWord_at_s5014_0 := by
  intro A ta ws vs hD hth hl hk hds hf
  have hl : vs.length = 4 := hl
  have hk : ∀ q ∈ ([(0, (2, 0, 0, [12])), (2, (0, 0, 99999993, [])), (3, (0, 0, 0, []))] : List (Nat × tv_T)), tv_ok ta q.2 (n_v vs q.1) := hk
  obtain ⟨t0, hk⟩ := List.forall_mem_cons.mp hk
  have t0 : tv_ok ta (2, 0, 0, [12]) (n_v vs 0) := t0
  have r0 : ta (v_ad (n_v vs 0)) = some 12 := tv_rg t0
  obtain ⟨t2, hk⟩ := List.forall_mem_cons.mp hk
  have t2 : tv_ok ta (0, 0, 99999993, []) (n_v vs 2) := t2
  have k2 : 0 ≤ v_iv (n_v vs 2) ∧ v_iv (n_v vs 2) ≤ 99999993 := tv_rng t2
  obtain ⟨t3, hk⟩ := List.forall_mem_cons.mp hk
  have t3 : tv_ok ta (0, 0, 0, []) (n_v vs 3) := t3
  have k3 : 0 ≤ v_iv (n_v vs 3) ∧ v_iv (n_v vs 3) ≤ 0 := tv_rng t3
  have hf : fc_ok [(20, [0, 2], [30, 0, 1, 1, 12, -1, 0, 0])] ta ws vs := hf
  obtain ⟨f0, hf⟩ := fc_un (show (20 : Nat) < 100 from by decide) hf
  have f0 : 1 * w_fi ws (n_v vs 0) 12 + ((-1) * v_iv (n_v vs 2) + 0) ≤ 0 := f0
  have kz_0_12 : 0 ≤ w_fi ws (n_v vs 0) 12 ∧ w_fi ws (n_v vs 0) 12 ≤ 100000000 := tv_rng (th_fd hD hth r0 (g := GG_12) rfl (k := 12) (t := (0, 0, 100000000, [])) rfl rfl)
  have nf0 : fc_1 (20, [0, 2, 3], [30, 0, 1, 1, 12, -1, 0, 0, -1, 0, 0]) ws (vs) := by
    refine ⟨fun n hn => ?_, ?_⟩
    · have hn : n ∈ [0, 2, 3] := hn
      rw [hl]
      simp only [List.mem_cons, List.not_mem_nil, or_false] at hn
      show n < 4; omega
    · show 1 * w_fi ws (n_v vs 0) 12 + ((-1) * v_iv (n_v vs 2) + ((-1) * v_iv (n_v vs 3) + 0)) ≤ 0
      omega
  have nf1 : fc_1 (24, [0, 0], []) ws (vs) := by
    refine ⟨fun n hn => ?_, ?_⟩
    · have hn : n ∈ [0, 0] := hn
      rw [hl]
      simp only [List.mem_cons, List.not_mem_nil, or_false] at hn
      show n < 4; omega
    · show n_v vs 0 = n_v vs 0
      first | rfl | simp only [true_and]
  refine ⟨(fun _ h => (by cases h)), [], trivial, ?_, (fun _ h => (by cases h))⟩
  rw [List.append_nil]
  exact List.forall_mem_cons.mpr ⟨⟨show (20 : Nat) < 100 from by decide, nf0⟩, List.forall_mem_cons.mpr ⟨⟨show (24 : Nat) < 100 from by decide, nf1⟩, (fun _ h => (by cases h))⟩⟩
def o_Ho_writeWord_at_s5014_1 : or_T := (25, 7, [(0, (2, 0, 0, [12])), (2, (0, 0, 99999993, [])), (3, (2, 0, 0, [12])), (5, (0, 7, 7, [])), (6, (0, 7, 7, []))], [(7, [5, 6], [3]), (20, [3, 2, 5], [30, 0, 1, 1, 12, -1, 0, 0, -1, 0, 0]), (24, [0, 3], [])], [], [], [(20, [0, 2], [30, 7, 1, 1, 12, -1, 0, 0])], [], [])
theorem oo_Ho_writeWord_at_s5014_1 {kA : Nat → ClassId} : or_ok kA GG o_Ho_writeWord_at_s5014_1 := by
  intro A ta ws vs hD hth hl hk hds hf
  have hl : vs.length = 7 := hl
  have hk : ∀ q ∈ ([(0, (2, 0, 0, [12])), (2, (0, 0, 99999993, [])), (3, (2, 0, 0, [12])), (5, (0, 7, 7, [])), (6, (0, 7, 7, []))] : List (Nat × tv_T)), tv_ok ta q.2 (n_v vs q.1) := hk
  obtain ⟨t0, hk⟩ := List.forall_mem_cons.mp hk
  have t0 : tv_ok ta (2, 0, 0, [12]) (n_v vs 0) := t0
  have r0 : ta (v_ad (n_v vs 0)) = some 12 := tv_rg t0
  obtain ⟨t2, hk⟩ := List.forall_mem_cons.mp hk
  have t2 : tv_ok ta (0, 0, 99999993, []) (n_v vs 2) := t2
  have k2 : 0 ≤ v_iv (n_v vs 2) ∧ v_iv (n_v vs 2) ≤ 99999993 := tv_rng t2
  obtain ⟨t3, hk⟩ := List.forall_mem_cons.mp hk
  have t3 : tv_ok ta (2, 0, 0, [12]) (n_v vs 3) := t3
  have r3 : ta (v_ad (n_v vs 3)) = some 12 := tv_rg t3
  obtain ⟨t5, hk⟩ := List.forall_mem_cons.mp hk
  have t5 : tv_ok ta (0, 7, 7, []) (n_v vs 5) := t5
  have k5 : 7 ≤ v_iv (n_v vs 5) ∧ v_iv (n_v vs 5) ≤ 7 := tv_rng t5
  obtain ⟨t6, hk⟩ := List.forall_mem_cons.mp hk
  have t6 : tv_ok ta (0, 7, 7, []) (n_v vs 6) := t6
  have k6 : 7 ≤ v_iv (n_v vs 6) ∧ v_iv (n_v vs 6) ≤ 7 := tv_rng t6
  have hf : fc_ok [(7, [5, 6], [3]), (20, [3, 2, 5], [30, 0, 1, 1, 12, -1, 0, 0, -1, 0, 0]), (24, [0, 3], [])] ta ws vs := hf
  obtain ⟨f0, hf⟩ := fc_un (show (7 : Nat) < 100 from by decide) hf
  have f0 : v_iv (n_v vs 6) ≤ v_iv (n_v vs 5) := f0
  obtain ⟨f1, hf⟩ := fc_un (show (20 : Nat) < 100 from by decide) hf
  have f1 : 1 * w_fi ws (n_v vs 3) 12 + ((-1) * v_iv (n_v vs 2) + ((-1) * v_iv (n_v vs 5) + 0)) ≤ 0 := f1
  obtain ⟨f2, hf⟩ := fc_un (show (24 : Nat) < 100 from by decide) hf
  have f2 : n_v vs 0 = n_v vs 3 := f2
  have q3 : n_v vs 3 = n_v vs 0 := f2.symm
  rw [q3] at f1
  have kz_0_12 : 0 ≤ w_fi ws (n_v vs 0) 12 ∧ w_fi ws (n_v vs 0) 12 ≤ 100000000 := tv_rng (th_fd hD hth r0 (g := GG_12) rfl (k := 12) (t := (0, 0, 100000000, [])) rfl rfl)
  have nf0 : fc_1 (20, [0, 2], [30, 7, 1, 1, 12, -1, 0, 0]) ws (vs) := by
    refine ⟨fun n hn => ?_, ?_⟩
    · have hn : n ∈ [0, 2] := hn
      rw [hl]
      simp only [List.mem_cons, List.not_mem_nil, or_false] at hn
      show n < 7; omega
    · show 1 * w_fi ws (n_v vs 0) 12 + ((-1) * v_iv (n_v vs 2) + 0) ≤ 7
      omega
  refine ⟨(fun _ h => (by cases h)), [], trivial, ?_, (fun _ h => (by cases h))⟩
  rw [List.append_nil]
  exact List.forall_mem_cons.mpr ⟨⟨show (20 : Nat) < 100 from by decide, nf0⟩, (fun _ h => (by cases h))⟩
def o_Ho_writeWord_at_s5014_2 : or_T := (16, 8, [(0, (2, 0, 0, [12])), (2, (0, 0, 99999993, [])), (3, (2, 0, 0, [12])), (5, (0, 0, 6, [])), (6, (0, 7, 7, []))], [(7, [5, 6], [2]), (20, [3, 2, 5], [30, 0, 1, 1, 12, -1, 0, 0, -1, 0, 0]), (24, [0, 3], [])], [], [(0, 0, 99999999, [])], [(20, [3, 8], [30, 0, 1, 1, 12, -1, 0, 0]), (23, [8, 2, 5], [0, 1, -1, -1])], [], [])
theorem oo_Ho_writeWord_at_s5014_2 {kA : Nat → ClassId} : or_ok kA GG o_Ho_writeWord_at_s5014_2 := by
  intro A ta ws vs hD hth hl hk hds hf
  have hl : vs.length = 8 := hl
  have hk : ∀ q ∈ ([(0, (2, 0, 0, [12])), (2, (0, 0, 99999993, [])), (3, (2, 0, 0, [12])), (5, (0, 0, 6, [])), (6, (0, 7, 7, []))] : List (Nat × tv_T)), tv_ok ta q.2 (n_v vs q.1) := hk
  obtain ⟨t0, hk⟩ := List.forall_mem_cons.mp hk
  have t0 : tv_ok ta (2, 0, 0, [12]) (n_v vs 0) := t0
  have r0 : ta (v_ad (n_v vs 0)) = some 12 := tv_rg t0
  obtain ⟨t2, hk⟩ := List.forall_mem_cons.mp hk
  have t2 : tv_ok ta (0, 0, 99999993, []) (n_v vs 2) := t2
  have k2 : 0 ≤ v_iv (n_v vs 2) ∧ v_iv (n_v vs 2) ≤ 99999993 := tv_rng t2
  obtain ⟨t3, hk⟩ := List.forall_mem_cons.mp hk
  have t3 : tv_ok ta (2, 0, 0, [12]) (n_v vs 3) := t3
  have r3 : ta (v_ad (n_v vs 3)) = some 12 := tv_rg t3
  obtain ⟨t5, hk⟩ := List.forall_mem_cons.mp hk
  have t5 : tv_ok ta (0, 0, 6, []) (n_v vs 5) := t5
  have k5 : 0 ≤ v_iv (n_v vs 5) ∧ v_iv (n_v vs 5) ≤ 6 := tv_rng t5
  obtain ⟨t6, hk⟩ := List.forall_mem_cons.mp hk
  have t6 : tv_ok ta (0, 7, 7, []) (n_v vs 6) := t6
  have k6 : 7 ≤ v_iv (n_v vs 6) ∧ v_iv (n_v vs 6) ≤ 7 := tv_rng t6
  have hf : fc_ok [(7, [5, 6], [2]), (20, [3, 2, 5], [30, 0, 1, 1, 12, -1, 0, 0, -1, 0, 0]), (24, [0, 3], [])] ta ws vs := hf
  obtain ⟨f0, hf⟩ := fc_un (show (7 : Nat) < 100 from by decide) hf
  have f0 : v_iv (n_v vs 5) < v_iv (n_v vs 6) := f0
  obtain ⟨f1, hf⟩ := fc_un (show (20 : Nat) < 100 from by decide) hf
  have f1 : 1 * w_fi ws (n_v vs 3) 12 + ((-1) * v_iv (n_v vs 2) + ((-1) * v_iv (n_v vs 5) + 0)) ≤ 0 := f1
  obtain ⟨f2, hf⟩ := fc_un (show (24 : Nat) < 100 from by decide) hf
  have f2 : n_v vs 0 = n_v vs 3 := f2
  have q3 : n_v vs 3 = n_v vs 0 := f2.symm
  rw [q3] at f1
  have kz_0_12 : 0 ≤ w_fi ws (n_v vs 0) 12 ∧ w_fi ws (n_v vs 0) 12 ≤ 100000000 := tv_rng (th_fd hD hth r0 (g := GG_12) rfl (k := 12) (t := (0, 0, 100000000, [])) rfl rfl)
  have kv0 : 0 ≤ w_fi ws (n_v vs 0) 12 ∧ w_fi ws (n_v vs 0) 12 ≤ 100000000 := tv_rng (th_fd hD hth r0 (g := GG_12) rfl (k := 12) (t := (0, 0, 100000000, [])) rfl rfl)
  obtain ⟨x, ex, hx⟩ := iv_ex (ta := ta) (lo := 0) (hi := 99999999) (z := w_fi ws (n_v vs 0) 12) (by omega) (by omega) (by omega) (by omega)
  have ex2 : v_iv (Value.int x) = w_fi ws (n_v vs 0) 12 := ex
  have ex3 : 0 ≤ v_iv (Value.int x) ∧ v_iv (Value.int x) ≤ 99999999 := tv_rng hx
  have e_2 : n_v (vs ++ [Value.int x]) 2 = n_v vs 2 := n_v_old (by rw [hl]; decide)
  have e_3 : n_v (vs ++ [Value.int x]) 3 = n_v vs 3 := n_v_old (by rw [hl]; decide)
  have e_5 : n_v (vs ++ [Value.int x]) 5 = n_v vs 5 := n_v_old (by rw [hl]; decide)
  have e_8 : n_v (vs ++ [Value.int x]) 8 = Value.int x := n_v_new hl
  have nf0 : fc_1 (20, [3, 8], [30, 0, 1, 1, 12, -1, 0, 0]) ws (vs ++ [Value.int x]) := by
    refine ⟨fun n hn => ?_, ?_⟩
    · have hn : n ∈ [3, 8] := hn
      rw [List.length_append, hl]
      simp only [List.mem_cons, List.not_mem_nil, or_false] at hn
      show n < 8 + 1; omega
    · show 1 * w_fi ws (n_v (vs ++ [Value.int x]) 3) 12 + ((-1) * v_iv (n_v (vs ++ [Value.int x]) 8) + 0) ≤ 0
      rw [e_3]
      rw [e_8]
      rw [q3]
      omega
  have nf1 : fc_1 (23, [8, 2, 5], [0, 1, -1, -1]) ws (vs ++ [Value.int x]) := by
    refine ⟨fun n hn => ?_, ?_⟩
    · have hn : n ∈ [8, 2, 5] := hn
      rw [List.length_append, hl]
      simp only [List.mem_cons, List.not_mem_nil, or_false] at hn
      show n < 8 + 1; omega
    · show 1 * v_iv (n_v (vs ++ [Value.int x]) 8) + ((-1) * v_iv (n_v (vs ++ [Value.int x]) 2) + ((-1) * v_iv (n_v (vs ++ [Value.int x]) 5) + 0)) ≤ 0
      rw [e_2]
      rw [e_5]
      rw [e_8]
      omega
  exact ⟨(fun _ h => (by cases h)), [Value.int x], ag_one hx, List.forall_mem_cons.mpr ⟨⟨show (20 : Nat) < 100 from by decide, nf0⟩, List.forall_mem_cons.mpr ⟨⟨show (23 : Nat) < 100 from by decide, nf1⟩, (fun _ h => (by cases h))⟩⟩, (fun _ h => (by cases h))⟩
def o_Ho_writeWord_at_s5014_3 : or_T := (2, 10, [(0, (2, 0, 0, [12])), (2, (0, 0, 99999993, [])), (3, (2, 0, 0, [12])), (5, (0, 0, 6, [])), (6, (0, 7, 7, [])), (8, (0, 0, 99999999, [])), (9, (0, 1, 7, []))], [(6, [9, 5], [1]), (23, [8, 2, 5], [0, 1, -1, -1]), (24, [0, 3], []), (20, [3, 8], [30, 1, 1, 1, 12, -1, 0, 0]), (102, [8], [261336857795280739939871698507597986398208, 12012]), (23, [8, 2, 5], [0, 1, -1, -1]), (7, [5, 6], [2])], [], [], [(20, [3, 2, 9], [30, 0, 1, 1, 12, -1, 0, 0, -1, 0, 0])], [], [(9, 5, 1, 1)])
theorem oo_Ho_writeWord_at_s5014_3 {kA : Nat → ClassId} : or_ok kA GG o_Ho_writeWord_at_s5014_3 := by
  intro A ta ws vs hD hth hl hk hds hf
  have hl : vs.length = 10 := hl
  have hk : ∀ q ∈ ([(0, (2, 0, 0, [12])), (2, (0, 0, 99999993, [])), (3, (2, 0, 0, [12])), (5, (0, 0, 6, [])), (6, (0, 7, 7, [])), (8, (0, 0, 99999999, [])), (9, (0, 1, 7, []))] : List (Nat × tv_T)), tv_ok ta q.2 (n_v vs q.1) := hk
  obtain ⟨t0, hk⟩ := List.forall_mem_cons.mp hk
  have t0 : tv_ok ta (2, 0, 0, [12]) (n_v vs 0) := t0
  have r0 : ta (v_ad (n_v vs 0)) = some 12 := tv_rg t0
  obtain ⟨t2, hk⟩ := List.forall_mem_cons.mp hk
  have t2 : tv_ok ta (0, 0, 99999993, []) (n_v vs 2) := t2
  have k2 : 0 ≤ v_iv (n_v vs 2) ∧ v_iv (n_v vs 2) ≤ 99999993 := tv_rng t2
  obtain ⟨t3, hk⟩ := List.forall_mem_cons.mp hk
  have t3 : tv_ok ta (2, 0, 0, [12]) (n_v vs 3) := t3
  have r3 : ta (v_ad (n_v vs 3)) = some 12 := tv_rg t3
  obtain ⟨t5, hk⟩ := List.forall_mem_cons.mp hk
  have t5 : tv_ok ta (0, 0, 6, []) (n_v vs 5) := t5
  have k5 : 0 ≤ v_iv (n_v vs 5) ∧ v_iv (n_v vs 5) ≤ 6 := tv_rng t5
  obtain ⟨t6, hk⟩ := List.forall_mem_cons.mp hk
  have t6 : tv_ok ta (0, 7, 7, []) (n_v vs 6) := t6
  have k6 : 7 ≤ v_iv (n_v vs 6) ∧ v_iv (n_v vs 6) ≤ 7 := tv_rng t6
  obtain ⟨t8, hk⟩ := List.forall_mem_cons.mp hk
  have t8 : tv_ok ta (0, 0, 99999999, []) (n_v vs 8) := t8
  have k8 : 0 ≤ v_iv (n_v vs 8) ∧ v_iv (n_v vs 8) ≤ 99999999 := tv_rng t8
  obtain ⟨t9, hk⟩ := List.forall_mem_cons.mp hk
  have t9 : tv_ok ta (0, 1, 7, []) (n_v vs 9) := t9
  have k9 : 1 ≤ v_iv (n_v vs 9) ∧ v_iv (n_v vs 9) ≤ 7 := tv_rng t9
  have hds : ∀ q ∈ ([(9, 5, 1, 1)] : List of_T), n_iv vs q.2.1 + q.2.2.1 ≤ n_iv vs q.1 ∧ n_iv vs q.1 ≤ n_iv vs q.2.1 + q.2.2.2 := hds
  obtain ⟨d0, hds⟩ := List.forall_mem_cons.mp hds
  have d0 : v_iv (n_v vs 5) + 1 ≤ v_iv (n_v vs 9) ∧ v_iv (n_v vs 9) ≤ v_iv (n_v vs 5) + 1 := d0
  have hf : fc_ok [(6, [9, 5], [1]), (23, [8, 2, 5], [0, 1, -1, -1]), (24, [0, 3], []), (20, [3, 8], [30, 1, 1, 1, 12, -1, 0, 0]), (102, [8], [261336857795280739939871698507597986398208, 12012]), (23, [8, 2, 5], [0, 1, -1, -1]), (7, [5, 6], [2])] ta ws vs := hf
  obtain ⟨f0, hf⟩ := fc_un (show (6 : Nat) < 100 from by decide) hf
  have f0 : v_iv (n_v vs 9) = v_iv (n_v vs 5) + 1 := f0
  obtain ⟨f1, hf⟩ := fc_un (show (23 : Nat) < 100 from by decide) hf
  have f1 : 1 * v_iv (n_v vs 8) + ((-1) * v_iv (n_v vs 2) + ((-1) * v_iv (n_v vs 5) + 0)) ≤ 0 := f1
  obtain ⟨f2, hf⟩ := fc_un (show (24 : Nat) < 100 from by decide) hf
  have f2 : n_v vs 0 = n_v vs 3 := f2
  obtain ⟨f3, hf⟩ := fc_un (show (20 : Nat) < 100 from by decide) hf
  have f3 : 1 * w_fi ws (n_v vs 3) 12 + ((-1) * v_iv (n_v vs 8) + 0) ≤ 1 := f3
  obtain ⟨ta1, w1, le1, ⟨_, s1⟩, hf⟩ := fc_us (show ¬ (102 : Nat) < 100 from by decide) hf
  obtain ⟨f5, hf⟩ := fc_un (show (23 : Nat) < 100 from by decide) hf
  have f5 : 1 * v_iv (n_v vs 8) + ((-1) * v_iv (n_v vs 2) + ((-1) * v_iv (n_v vs 5) + 0)) ≤ 0 := f5
  obtain ⟨f6, hf⟩ := fc_un (show (7 : Nat) < 100 from by decide) hf
  have f6 : v_iv (n_v vs 5) < v_iv (n_v vs 6) := f6
  have q3 : n_v vs 3 = n_v vs 0 := f2.symm
  rw [q3] at f3
  have kz_0_12 : 0 ≤ w_fi ws (n_v vs 0) 12 ∧ w_fi ws (n_v vs 0) 12 ≤ 100000000 := tv_rng (th_fd hD hth r0 (g := GG_12) rfl (k := 12) (t := (0, 0, 100000000, [])) rfl rfl)
  have nf0 : fc_1 (20, [3, 2, 9], [30, 0, 1, 1, 12, -1, 0, 0, -1, 0, 0]) ws (vs) := by
    refine ⟨fun n hn => ?_, ?_⟩
    · have hn : n ∈ [3, 2, 9] := hn
      rw [hl]
      simp only [List.mem_cons, List.not_mem_nil, or_false] at hn
      show n < 10; omega
    · show 1 * w_fi ws (n_v vs 3) 12 + ((-1) * v_iv (n_v vs 2) + ((-1) * v_iv (n_v vs 9) + 0)) ≤ 0
      rw [q3]
      omega
  refine ⟨(fun _ h => (by cases h)), [], trivial, ?_, (fun _ h => (by cases h))⟩
  rw [List.append_nil]
  exact List.forall_mem_cons.mpr ⟨⟨show (20 : Nat) < 100 from by decide, nf0⟩, (fun _ h => (by cases h))⟩
def n_Ho_writeWord_at_s5014_an : List an_T := [(2, [(0, (2, 0, 0, [12])), (1, (2, 0, 0, [5014])), (2, (0, 0, 7, []))], [], (0, 0), [(0, 0, 99998), (1, 5, 7), (0, 0, 100000)], [], [], [(2, 0, 0, [12]), (2, 0, 0, [5014]), (0, 0, 99999993, [])], 0, [], [(20, [3, 2, 5], [30, 0, 1, 1, 12, -1, 0, 0, -1, 0, 0]), (24, [0, 3], [])])]
def t_Ho_writeWord_at_s5014_ct : ct_L := [(1, 447, e_Ho_writeByte), (16, 438, e_jStr_length_v194), (43, 443, e_jStr_charAt_v195)]
set_option maxRecDepth 100000 in
theorem c_Ho_writeWord_at_s5014 {l : Launch} {D : va_G} {kA : Nat → ClassId} (h_Ho_writeByte : ct_ok l D kA GG y_Ho_writeByte z_Ho_writeByte e_Ho_writeByte) : ct_ok l D kA GG y_Ho_writeWord_at_s5014 z_Ho_writeWord_at_s5014 e_Ho_writeWord_at_s5014 := chk_all_ok (FT := []) (PT := []) (CT := t_Ho_writeWord_at_s5014_ct) (KT := []) (NT := []) (AN := n_Ho_writeWord_at_s5014_an) (OT := [o_Ho_writeWord_at_s5014_0, o_Ho_writeWord_at_s5014_1, o_Ho_writeWord_at_s5014_2, o_Ho_writeWord_at_s5014_3]) 3 200 (List.forall_mem_cons.mpr ⟨oo_Ho_writeWord_at_s5014_0, List.forall_mem_cons.mpr ⟨oo_Ho_writeWord_at_s5014_1, List.forall_mem_cons.mpr ⟨oo_Ho_writeWord_at_s5014_2, List.forall_mem_cons.mpr ⟨oo_Ho_writeWord_at_s5014_3, List.forall_mem_nil _⟩⟩⟩⟩) (by decide +kernel) ⟨List.forall_mem_nil _, List.forall_mem_nil _, List.forall_mem_cons.mpr ⟨cl_virtual (y := y_Ho_writeByte) (ci := 12) rfl rfl ⟨_, _, rfl⟩ (by decide +kernel) h_Ho_writeByte wm_2345 wm_1 wm_2342 wm_2344 wv_12_0 ⟨by decide, by decide, by decide +kernel⟩ (by decide), List.forall_mem_cons.mpr ⟨cl_string (y := y_jStr_length) (i := 14) rfl rfl (by decide +kernel) rfl c_jStr_length_v194 wm_674 wm_11 wm_2340 wm_672 wm_673 ⟨by decide, by decide, by decide +kernel⟩ (by decide), List.forall_mem_cons.mpr ⟨cl_string (y := y_jStr_charAt) (i := 14) rfl rfl (by decide +kernel) rfl c_jStr_charAt_v195 wm_684 wm_11 wm_2341 wm_682 wm_683 ⟨by decide, by decide, by decide +kernel⟩ (by decide), List.forall_mem_nil _⟩⟩⟩, List.forall_mem_nil _, List.forall_mem_nil _, GG_pl⟩ (by decide +kernel)
def o_Ho_writeWord_at_s5015_0 : or_T := (2, 4, [(0, (2, 0, 0, [12])), (2, (0, 0, 99999998, [])), (3, (0, 0, 0, []))], [(20, [0, 2], [30, 0, 1, 1, 12, -1, 0, 0])], [], [], [(20, [0, 2, 3], [30, 0, 1, 1, 12, -1, 0, 0, -1, 0, 0]), (24, [0, 0], [])], [], [])
theorem oo_Ho_writeWord_at_s5015_0 {kA : Nat → ClassId} : or_ok kA GG o_Ho_writeWord_at_s5015_0 := by
  intro A ta ws vs hD hth hl hk hds hf
  have hl : vs.length = 4 := hl
  have hk : ∀ q ∈ ([(0, (2, 0, 0, [12])), (2, (0, 0, 99999998, [])), (3, (0, 0, 0, []))] : List (Nat × tv_T)), tv_ok ta q.2 (n_v vs q.1) := hk
  obtain ⟨t0, hk⟩ := List.forall_mem_cons.mp hk
  have t0 : tv_ok ta (2, 0, 0, [12]) (n_v vs 0) := t0
  have r0 : ta (v_ad (n_v vs 0)) = some 12 := tv_rg t0
  obtain ⟨t2, hk⟩ := List.forall_mem_cons.mp hk
  have t2 : tv_ok ta (0, 0, 99999998, []) (n_v vs 2) := t2
  have k2 : 0 ≤ v_iv (n_v vs 2) ∧ v_iv (n_v vs 2) ≤ 99999998 := tv_rng t2
  obtain ⟨t3, hk⟩ := List.forall_mem_cons.mp hk
  have t3 : tv_ok ta (0, 0, 0, []) (n_v vs 3) := t3
  have k3 : 0 ≤ v_iv (n_v vs 3) ∧ v_iv (n_v vs 3) ≤ 0 := tv_rng t3
  have hf : fc_ok [(20, [0, 2], [30, 0, 1, 1, 12, -1, 0, 0])] ta ws vs := hf
  obtain ⟨f0, hf⟩ := fc_un (show (20 : Nat) < 100 from by decide) hf
  have f0 : 1 * w_fi ws (n_v vs 0) 12 + ((-1) * v_iv (n_v vs 2) + 0) ≤ 0 := f0
  have kz_0_12 : 0 ≤ w_fi ws (n_v vs 0) 12 ∧ w_fi ws (n_v vs 0) 12 ≤ 100000000 := tv_rng (th_fd hD hth r0 (g := GG_12) rfl (k := 12) (t := (0, 0, 100000000, [])) rfl rfl)
  have nf0 : fc_1 (20, [0, 2, 3], [30, 0, 1, 1, 12, -1, 0, 0, -1, 0, 0]) ws (vs) := by
    refine ⟨fun n hn => ?_, ?_⟩
    · have hn : n ∈ [0, 2, 3] := hn
      rw [hl]
      simp only [List.mem_cons, List.not_mem_nil, or_false] at hn
      show n < 4; omega
    · show 1 * w_fi ws (n_v vs 0) 12 + ((-1) * v_iv (n_v vs 2) + ((-1) * v_iv (n_v vs 3) + 0)) ≤ 0
      omega
  have nf1 : fc_1 (24, [0, 0], []) ws (vs) := by
    refine ⟨fun n hn => ?_, ?_⟩
    · have hn : n ∈ [0, 0] := hn
      rw [hl]
      simp only [List.mem_cons, List.not_mem_nil, or_false] at hn
      show n < 4; omega
    · show n_v vs 0 = n_v vs 0
      first | rfl | simp only [true_and]
  refine ⟨(fun _ h => (by cases h)), [], trivial, ?_, (fun _ h => (by cases h))⟩
  rw [List.append_nil]
  exact List.forall_mem_cons.mpr ⟨⟨show (20 : Nat) < 100 from by decide, nf0⟩, List.forall_mem_cons.mpr ⟨⟨show (24 : Nat) < 100 from by decide, nf1⟩, (fun _ h => (by cases h))⟩⟩
def o_Ho_writeWord_at_s5015_1 : or_T := (25, 7, [(0, (2, 0, 0, [12])), (2, (0, 0, 99999998, [])), (3, (2, 0, 0, [12])), (5, (0, 2, 2, [])), (6, (0, 2, 2, []))], [(7, [5, 6], [3]), (20, [3, 2, 5], [30, 0, 1, 1, 12, -1, 0, 0, -1, 0, 0]), (24, [0, 3], [])], [], [], [(20, [0, 2], [30, 2, 1, 1, 12, -1, 0, 0])], [], [(5, 2, -4294967296, 2)])
theorem oo_Ho_writeWord_at_s5015_1 {kA : Nat → ClassId} : or_ok kA GG o_Ho_writeWord_at_s5015_1 := by
  intro A ta ws vs hD hth hl hk hds hf
  have hl : vs.length = 7 := hl
  have hk : ∀ q ∈ ([(0, (2, 0, 0, [12])), (2, (0, 0, 99999998, [])), (3, (2, 0, 0, [12])), (5, (0, 2, 2, [])), (6, (0, 2, 2, []))] : List (Nat × tv_T)), tv_ok ta q.2 (n_v vs q.1) := hk
  obtain ⟨t0, hk⟩ := List.forall_mem_cons.mp hk
  have t0 : tv_ok ta (2, 0, 0, [12]) (n_v vs 0) := t0
  have r0 : ta (v_ad (n_v vs 0)) = some 12 := tv_rg t0
  obtain ⟨t2, hk⟩ := List.forall_mem_cons.mp hk
  have t2 : tv_ok ta (0, 0, 99999998, []) (n_v vs 2) := t2
  have k2 : 0 ≤ v_iv (n_v vs 2) ∧ v_iv (n_v vs 2) ≤ 99999998 := tv_rng t2
  obtain ⟨t3, hk⟩ := List.forall_mem_cons.mp hk
  have t3 : tv_ok ta (2, 0, 0, [12]) (n_v vs 3) := t3
  have r3 : ta (v_ad (n_v vs 3)) = some 12 := tv_rg t3
  obtain ⟨t5, hk⟩ := List.forall_mem_cons.mp hk
  have t5 : tv_ok ta (0, 2, 2, []) (n_v vs 5) := t5
  have k5 : 2 ≤ v_iv (n_v vs 5) ∧ v_iv (n_v vs 5) ≤ 2 := tv_rng t5
  obtain ⟨t6, hk⟩ := List.forall_mem_cons.mp hk
  have t6 : tv_ok ta (0, 2, 2, []) (n_v vs 6) := t6
  have k6 : 2 ≤ v_iv (n_v vs 6) ∧ v_iv (n_v vs 6) ≤ 2 := tv_rng t6
  have hds : ∀ q ∈ ([(5, 2, -4294967296, 2)] : List of_T), n_iv vs q.2.1 + q.2.2.1 ≤ n_iv vs q.1 ∧ n_iv vs q.1 ≤ n_iv vs q.2.1 + q.2.2.2 := hds
  obtain ⟨d0, hds⟩ := List.forall_mem_cons.mp hds
  have d0 : v_iv (n_v vs 2) + (-4294967296) ≤ v_iv (n_v vs 5) ∧ v_iv (n_v vs 5) ≤ v_iv (n_v vs 2) + 2 := d0
  have hf : fc_ok [(7, [5, 6], [3]), (20, [3, 2, 5], [30, 0, 1, 1, 12, -1, 0, 0, -1, 0, 0]), (24, [0, 3], [])] ta ws vs := hf
  obtain ⟨f0, hf⟩ := fc_un (show (7 : Nat) < 100 from by decide) hf
  have f0 : v_iv (n_v vs 6) ≤ v_iv (n_v vs 5) := f0
  obtain ⟨f1, hf⟩ := fc_un (show (20 : Nat) < 100 from by decide) hf
  have f1 : 1 * w_fi ws (n_v vs 3) 12 + ((-1) * v_iv (n_v vs 2) + ((-1) * v_iv (n_v vs 5) + 0)) ≤ 0 := f1
  obtain ⟨f2, hf⟩ := fc_un (show (24 : Nat) < 100 from by decide) hf
  have f2 : n_v vs 0 = n_v vs 3 := f2
  have q3 : n_v vs 3 = n_v vs 0 := f2.symm
  rw [q3] at f1
  have kz_0_12 : 0 ≤ w_fi ws (n_v vs 0) 12 ∧ w_fi ws (n_v vs 0) 12 ≤ 100000000 := tv_rng (th_fd hD hth r0 (g := GG_12) rfl (k := 12) (t := (0, 0, 100000000, [])) rfl rfl)
  have nf0 : fc_1 (20, [0, 2], [30, 2, 1, 1, 12, -1, 0, 0]) ws (vs) := by
    refine ⟨fun n hn => ?_, ?_⟩
    · have hn : n ∈ [0, 2] := hn
      rw [hl]
      simp only [List.mem_cons, List.not_mem_nil, or_false] at hn
      show n < 7; omega
    · show 1 * w_fi ws (n_v vs 0) 12 + ((-1) * v_iv (n_v vs 2) + 0) ≤ 2
      omega
  refine ⟨(fun _ h => (by cases h)), [], trivial, ?_, (fun _ h => (by cases h))⟩
  rw [List.append_nil]
  exact List.forall_mem_cons.mpr ⟨⟨show (20 : Nat) < 100 from by decide, nf0⟩, (fun _ h => (by cases h))⟩
def o_Ho_writeWord_at_s5015_2 : or_T := (16, 8, [(0, (2, 0, 0, [12])), (2, (0, 0, 99999998, [])), (3, (2, 0, 0, [12])), (5, (0, 0, 1, [])), (6, (0, 2, 2, []))], [(7, [5, 6], [2]), (20, [3, 2, 5], [30, 0, 1, 1, 12, -1, 0, 0, -1, 0, 0]), (24, [0, 3], [])], [], [(0, 0, 99999999, [])], [(20, [3, 8], [30, 0, 1, 1, 12, -1, 0, 0]), (23, [8, 2, 5], [0, 1, -1, -1])], [], [(5, 2, -4294967296, 2)])
theorem oo_Ho_writeWord_at_s5015_2 {kA : Nat → ClassId} : or_ok kA GG o_Ho_writeWord_at_s5015_2 := by
  intro A ta ws vs hD hth hl hk hds hf
  have hl : vs.length = 8 := hl
  have hk : ∀ q ∈ ([(0, (2, 0, 0, [12])), (2, (0, 0, 99999998, [])), (3, (2, 0, 0, [12])), (5, (0, 0, 1, [])), (6, (0, 2, 2, []))] : List (Nat × tv_T)), tv_ok ta q.2 (n_v vs q.1) := hk
  obtain ⟨t0, hk⟩ := List.forall_mem_cons.mp hk
  have t0 : tv_ok ta (2, 0, 0, [12]) (n_v vs 0) := t0
  have r0 : ta (v_ad (n_v vs 0)) = some 12 := tv_rg t0
  obtain ⟨t2, hk⟩ := List.forall_mem_cons.mp hk
  have t2 : tv_ok ta (0, 0, 99999998, []) (n_v vs 2) := t2
  have k2 : 0 ≤ v_iv (n_v vs 2) ∧ v_iv (n_v vs 2) ≤ 99999998 := tv_rng t2
  obtain ⟨t3, hk⟩ := List.forall_mem_cons.mp hk
  have t3 : tv_ok ta (2, 0, 0, [12]) (n_v vs 3) := t3
  have r3 : ta (v_ad (n_v vs 3)) = some 12 := tv_rg t3
  obtain ⟨t5, hk⟩ := List.forall_mem_cons.mp hk
  have t5 : tv_ok ta (0, 0, 1, []) (n_v vs 5) := t5
  have k5 : 0 ≤ v_iv (n_v vs 5) ∧ v_iv (n_v vs 5) ≤ 1 := tv_rng t5
  obtain ⟨t6, hk⟩ := List.forall_mem_cons.mp hk
  have t6 : tv_ok ta (0, 2, 2, []) (n_v vs 6) := t6
  have k6 : 2 ≤ v_iv (n_v vs 6) ∧ v_iv (n_v vs 6) ≤ 2 := tv_rng t6
  have hds : ∀ q ∈ ([(5, 2, -4294967296, 2)] : List of_T), n_iv vs q.2.1 + q.2.2.1 ≤ n_iv vs q.1 ∧ n_iv vs q.1 ≤ n_iv vs q.2.1 + q.2.2.2 := hds
  obtain ⟨d0, hds⟩ := List.forall_mem_cons.mp hds
  have d0 : v_iv (n_v vs 2) + (-4294967296) ≤ v_iv (n_v vs 5) ∧ v_iv (n_v vs 5) ≤ v_iv (n_v vs 2) + 2 := d0
  have hf : fc_ok [(7, [5, 6], [2]), (20, [3, 2, 5], [30, 0, 1, 1, 12, -1, 0, 0, -1, 0, 0]), (24, [0, 3], [])] ta ws vs := hf
  obtain ⟨f0, hf⟩ := fc_un (show (7 : Nat) < 100 from by decide) hf
  have f0 : v_iv (n_v vs 5) < v_iv (n_v vs 6) := f0
  obtain ⟨f1, hf⟩ := fc_un (show (20 : Nat) < 100 from by decide) hf
  have f1 : 1 * w_fi ws (n_v vs 3) 12 + ((-1) * v_iv (n_v vs 2) + ((-1) * v_iv (n_v vs 5) + 0)) ≤ 0 := f1
  obtain ⟨f2, hf⟩ := fc_un (show (24 : Nat) < 100 from by decide) hf
  have f2 : n_v vs 0 = n_v vs 3 := f2
  have q3 : n_v vs 3 = n_v vs 0 := f2.symm
  rw [q3] at f1
  have kz_0_12 : 0 ≤ w_fi ws (n_v vs 0) 12 ∧ w_fi ws (n_v vs 0) 12 ≤ 100000000 := tv_rng (th_fd hD hth r0 (g := GG_12) rfl (k := 12) (t := (0, 0, 100000000, [])) rfl rfl)
  have kv0 : 0 ≤ w_fi ws (n_v vs 0) 12 ∧ w_fi ws (n_v vs 0) 12 ≤ 100000000 := tv_rng (th_fd hD hth r0 (g := GG_12) rfl (k := 12) (t := (0, 0, 100000000, [])) rfl rfl)
  obtain ⟨x, ex, hx⟩ := iv_ex (ta := ta) (lo := 0) (hi := 99999999) (z := w_fi ws (n_v vs 0) 12) (by omega) (by omega) (by omega) (by omega)
  have ex2 : v_iv (Value.int x) = w_fi ws (n_v vs 0) 12 := ex
  have ex3 : 0 ≤ v_iv (Value.int x) ∧ v_iv (Value.int x) ≤ 99999999 := tv_rng hx
  have e_2 : n_v (vs ++ [Value.int x]) 2 = n_v vs 2 := n_v_old (by rw [hl]; decide)
  have e_3 : n_v (vs ++ [Value.int x]) 3 = n_v vs 3 := n_v_old (by rw [hl]; decide)
  have e_5 : n_v (vs ++ [Value.int x]) 5 = n_v vs 5 := n_v_old (by rw [hl]; decide)
  have e_8 : n_v (vs ++ [Value.int x]) 8 = Value.int x := n_v_new hl
  have nf0 : fc_1 (20, [3, 8], [30, 0, 1, 1, 12, -1, 0, 0]) ws (vs ++ [Value.int x]) := by
    refine ⟨fun n hn => ?_, ?_⟩
    · have hn : n ∈ [3, 8] := hn
      rw [List.length_append, hl]
      simp only [List.mem_cons, List.not_mem_nil, or_false] at hn
      show n < 8 + 1; omega
    · show 1 * w_fi ws (n_v (vs ++ [Value.int x]) 3) 12 + ((-1) * v_iv (n_v (vs ++ [Value.int x]) 8) + 0) ≤ 0
      rw [e_3]
      rw [e_8]
      rw [q3]
      omega
  have nf1 : fc_1 (23, [8, 2, 5], [0, 1, -1, -1]) ws (vs ++ [Value.int x]) := by
    refine ⟨fun n hn => ?_, ?_⟩
    · have hn : n ∈ [8, 2, 5] := hn
      rw [List.length_append, hl]
      simp only [List.mem_cons, List.not_mem_nil, or_false] at hn
      show n < 8 + 1; omega
    · show 1 * v_iv (n_v (vs ++ [Value.int x]) 8) + ((-1) * v_iv (n_v (vs ++ [Value.int x]) 2) + ((-1) * v_iv (n_v (vs ++ [Value.int x]) 5) + 0)) ≤ 0
      rw [e_2]
      rw [e_5]
      rw [e_8]
      omega
  exact ⟨(fun _ h => (by cases h)), [Value.int x], ag_one hx, List.forall_mem_cons.mpr ⟨⟨show (20 : Nat) < 100 from by decide, nf0⟩, List.forall_mem_cons.mpr ⟨⟨show (23 : Nat) < 100 from by decide, nf1⟩, (fun _ h => (by cases h))⟩⟩, (fun _ h => (by cases h))⟩
def o_Ho_writeWord_at_s5015_3 : or_T := (2, 10, [(0, (2, 0, 0, [12])), (2, (0, 0, 99999998, [])), (3, (2, 0, 0, [12])), (5, (0, 0, 1, [])), (6, (0, 2, 2, [])), (8, (0, 0, 99999999, [])), (9, (0, 1, 2, []))], [(6, [9, 5], [1]), (23, [8, 2, 5], [0, 1, -1, -1]), (24, [0, 3], []), (20, [3, 8], [30, 1, 1, 1, 12, -1, 0, 0]), (102, [8], [261336857795280739939871698507597986398208, 12012]), (23, [8, 2, 5], [0, 1, -1, -1]), (7, [5, 6], [2])], [], [], [(20, [3, 2, 9], [30, 0, 1, 1, 12, -1, 0, 0, -1, 0, 0])], [], [(9, 5, 1, 1), (9, 2, -4294967296, 3), (5, 2, -4294967296, 2)])
theorem oo_Ho_writeWord_at_s5015_3 {kA : Nat → ClassId} : or_ok kA GG o_Ho_writeWord_at_s5015_3 := by
  intro A ta ws vs hD hth hl hk hds hf
  have hl : vs.length = 10 := hl
  have hk : ∀ q ∈ ([(0, (2, 0, 0, [12])), (2, (0, 0, 99999998, [])), (3, (2, 0, 0, [12])), (5, (0, 0, 1, [])), (6, (0, 2, 2, [])), (8, (0, 0, 99999999, [])), (9, (0, 1, 2, []))] : List (Nat × tv_T)), tv_ok ta q.2 (n_v vs q.1) := hk
  obtain ⟨t0, hk⟩ := List.forall_mem_cons.mp hk
  have t0 : tv_ok ta (2, 0, 0, [12]) (n_v vs 0) := t0
  have r0 : ta (v_ad (n_v vs 0)) = some 12 := tv_rg t0
  obtain ⟨t2, hk⟩ := List.forall_mem_cons.mp hk
  have t2 : tv_ok ta (0, 0, 99999998, []) (n_v vs 2) := t2
  have k2 : 0 ≤ v_iv (n_v vs 2) ∧ v_iv (n_v vs 2) ≤ 99999998 := tv_rng t2
  obtain ⟨t3, hk⟩ := List.forall_mem_cons.mp hk
  have t3 : tv_ok ta (2, 0, 0, [12]) (n_v vs 3) := t3
  have r3 : ta (v_ad (n_v vs 3)) = some 12 := tv_rg t3
  obtain ⟨t5, hk⟩ := List.forall_mem_cons.mp hk
  have t5 : tv_ok ta (0, 0, 1, []) (n_v vs 5) := t5
  have k5 : 0 ≤ v_iv (n_v vs 5) ∧ v_iv (n_v vs 5) ≤ 1 := tv_rng t5
  obtain ⟨t6, hk⟩ := List.forall_mem_cons.mp hk
  have t6 : tv_ok ta (0, 2, 2, []) (n_v vs 6) := t6
  have k6 : 2 ≤ v_iv (n_v vs 6) ∧ v_iv (n_v vs 6) ≤ 2 := tv_rng t6
  obtain ⟨t8, hk⟩ := List.forall_mem_cons.mp hk
  have t8 : tv_ok ta (0, 0, 99999999, []) (n_v vs 8) := t8
  have k8 : 0 ≤ v_iv (n_v vs 8) ∧ v_iv (n_v vs 8) ≤ 99999999 := tv_rng t8
  obtain ⟨t9, hk⟩ := List.forall_mem_cons.mp hk
  have t9 : tv_ok ta (0, 1, 2, []) (n_v vs 9) := t9
  have k9 : 1 ≤ v_iv (n_v vs 9) ∧ v_iv (n_v vs 9) ≤ 2 := tv_rng t9
  have hds : ∀ q ∈ ([(9, 5, 1, 1), (9, 2, -4294967296, 3), (5, 2, -4294967296, 2)] : List of_T), n_iv vs q.2.1 + q.2.2.1 ≤ n_iv vs q.1 ∧ n_iv vs q.1 ≤ n_iv vs q.2.1 + q.2.2.2 := hds
  obtain ⟨d0, hds⟩ := List.forall_mem_cons.mp hds
  have d0 : v_iv (n_v vs 5) + 1 ≤ v_iv (n_v vs 9) ∧ v_iv (n_v vs 9) ≤ v_iv (n_v vs 5) + 1 := d0
  obtain ⟨d1, hds⟩ := List.forall_mem_cons.mp hds
  have d1 : v_iv (n_v vs 2) + (-4294967296) ≤ v_iv (n_v vs 9) ∧ v_iv (n_v vs 9) ≤ v_iv (n_v vs 2) + 3 := d1
  obtain ⟨d2, hds⟩ := List.forall_mem_cons.mp hds
  have d2 : v_iv (n_v vs 2) + (-4294967296) ≤ v_iv (n_v vs 5) ∧ v_iv (n_v vs 5) ≤ v_iv (n_v vs 2) + 2 := d2
  have hf : fc_ok [(6, [9, 5], [1]), (23, [8, 2, 5], [0, 1, -1, -1]), (24, [0, 3], []), (20, [3, 8], [30, 1, 1, 1, 12, -1, 0, 0]), (102, [8], [261336857795280739939871698507597986398208, 12012]), (23, [8, 2, 5], [0, 1, -1, -1]), (7, [5, 6], [2])] ta ws vs := hf
  obtain ⟨f0, hf⟩ := fc_un (show (6 : Nat) < 100 from by decide) hf
  have f0 : v_iv (n_v vs 9) = v_iv (n_v vs 5) + 1 := f0
  obtain ⟨f1, hf⟩ := fc_un (show (23 : Nat) < 100 from by decide) hf
  have f1 : 1 * v_iv (n_v vs 8) + ((-1) * v_iv (n_v vs 2) + ((-1) * v_iv (n_v vs 5) + 0)) ≤ 0 := f1
  obtain ⟨f2, hf⟩ := fc_un (show (24 : Nat) < 100 from by decide) hf
  have f2 : n_v vs 0 = n_v vs 3 := f2
  obtain ⟨f3, hf⟩ := fc_un (show (20 : Nat) < 100 from by decide) hf
  have f3 : 1 * w_fi ws (n_v vs 3) 12 + ((-1) * v_iv (n_v vs 8) + 0) ≤ 1 := f3
  obtain ⟨ta1, w1, le1, ⟨_, s1⟩, hf⟩ := fc_us (show ¬ (102 : Nat) < 100 from by decide) hf
  obtain ⟨f5, hf⟩ := fc_un (show (23 : Nat) < 100 from by decide) hf
  have f5 : 1 * v_iv (n_v vs 8) + ((-1) * v_iv (n_v vs 2) + ((-1) * v_iv (n_v vs 5) + 0)) ≤ 0 := f5
  obtain ⟨f6, hf⟩ := fc_un (show (7 : Nat) < 100 from by decide) hf
  have f6 : v_iv (n_v vs 5) < v_iv (n_v vs 6) := f6
  have q3 : n_v vs 3 = n_v vs 0 := f2.symm
  rw [q3] at f3
  have kz_0_12 : 0 ≤ w_fi ws (n_v vs 0) 12 ∧ w_fi ws (n_v vs 0) 12 ≤ 100000000 := tv_rng (th_fd hD hth r0 (g := GG_12) rfl (k := 12) (t := (0, 0, 100000000, [])) rfl rfl)
  have nf0 : fc_1 (20, [3, 2, 9], [30, 0, 1, 1, 12, -1, 0, 0, -1, 0, 0]) ws (vs) := by
    refine ⟨fun n hn => ?_, ?_⟩
    · have hn : n ∈ [3, 2, 9] := hn
      rw [hl]
      simp only [List.mem_cons, List.not_mem_nil, or_false] at hn
      show n < 10; omega
    · show 1 * w_fi ws (n_v vs 3) 12 + ((-1) * v_iv (n_v vs 2) + ((-1) * v_iv (n_v vs 9) + 0)) ≤ 0
      rw [q3]
      omega
  refine ⟨(fun _ h => (by cases h)), [], trivial, ?_, (fun _ h => (by cases h))⟩
  rw [List.append_nil]
  exact List.forall_mem_cons.mpr ⟨⟨show (20 : Nat) < 100 from by decide, nf0⟩, (fun _ h => (by cases h))⟩
def n_Ho_writeWord_at_s5015_an : List an_T := [(2, [(0, (2, 0, 0, [12])), (1, (2, 0, 0, [5015])), (2, (0, 0, 2, []))], [], (0, 0), [(0, 0, 99998), (1, 5, 2), (0, 0, 100000)], [(5, 2, -1000000000000, 2)], [], [(2, 0, 0, [12]), (2, 0, 0, [5015]), (0, 0, 99999998, [])], 0, [], [(20, [3, 2, 5], [30, 0, 1, 1, 12, -1, 0, 0, -1, 0, 0]), (24, [0, 3], [])])]
def t_Ho_writeWord_at_s5015_ct : ct_L := [(1, 447, e_Ho_writeByte), (16, 438, e_jStr_length_v199), (43, 443, e_jStr_charAt_v200)]
set_option maxRecDepth 100000 in
theorem c_Ho_writeWord_at_s5015 {l : Launch} {D : va_G} {kA : Nat → ClassId} (h_Ho_writeByte : ct_ok l D kA GG y_Ho_writeByte z_Ho_writeByte e_Ho_writeByte) : ct_ok l D kA GG y_Ho_writeWord_at_s5015 z_Ho_writeWord_at_s5015 e_Ho_writeWord_at_s5015 := chk_all_ok (FT := []) (PT := []) (CT := t_Ho_writeWord_at_s5015_ct) (KT := []) (NT := []) (AN := n_Ho_writeWord_at_s5015_an) (OT := [o_Ho_writeWord_at_s5015_0, o_Ho_writeWord_at_s5015_1, o_Ho_writeWord_at_s5015_2, o_Ho_writeWord_at_s5015_3]) 3 200 (List.forall_mem_cons.mpr ⟨oo_Ho_writeWord_at_s5015_0, List.forall_mem_cons.mpr ⟨oo_Ho_writeWord_at_s5015_1, List.forall_mem_cons.mpr ⟨oo_Ho_writeWord_at_s5015_2, List.forall_mem_cons.mpr ⟨oo_Ho_writeWord_at_s5015_3, List.forall_mem_nil _⟩⟩⟩⟩) (by decide +kernel) ⟨List.forall_mem_nil _, List.forall_mem_nil _, List.forall_mem_cons.mpr ⟨cl_virtual (y := y_Ho_writeByte) (ci := 12) rfl rfl ⟨_, _, rfl⟩ (by decide +kernel) h_Ho_writeByte wm_2345 wm_1 wm_2342 wm_2344 wv_12_0 ⟨by decide, by decide, by decide +kernel⟩ (by decide), List.forall_mem_cons.mpr ⟨cl_string (y := y_jStr_length) (i := 15) rfl rfl (by decide +kernel) rfl c_jStr_length_v199 wm_674 wm_11 wm_2340 wm_672 wm_673 ⟨by decide, by decide, by decide +kernel⟩ (by decide), List.forall_mem_cons.mpr ⟨cl_string (y := y_jStr_charAt) (i := 15) rfl rfl (by decide +kernel) rfl c_jStr_charAt_v200 wm_684 wm_11 wm_2341 wm_682 wm_683 ⟨by decide, by decide, by decide +kernel⟩ (by decide), List.forall_mem_nil _⟩⟩⟩, List.forall_mem_nil _, List.forall_mem_nil _, GG_pl⟩ (by decide +kernel)
def o_Ho_writeWord_at_s5016_0 : or_T := (2, 4, [(0, (2, 0, 0, [12])), (2, (0, 0, 99999994, [])), (3, (0, 0, 0, []))], [(20, [0, 2], [30, 0, 1, 1, 12, -1, 0, 0])], [], [], [(20, [0, 2, 3], [30, 0, 1, 1, 12, -1, 0, 0, -1, 0, 0]), (24, [0, 0], [])], [], [])
theorem oo_Ho_writeWord_at_s5016_0 {kA : Nat → ClassId} : or_ok kA GG o_Ho_writeWord_at_s5016_0 := by
  intro A ta ws vs hD hth hl hk hds hf
  have hl : vs.length = 4 := hl
  have hk : ∀ q ∈ ([(0, (2, 0, 0, [12])), (2, (0, 0, 99999994, [])), (3, (0, 0, 0, []))] : List (Nat × tv_T)), tv_ok ta q.2 (n_v vs q.1) := hk
  obtain ⟨t0, hk⟩ := List.forall_mem_cons.mp hk
  have t0 : tv_ok ta (2, 0, 0, [12]) (n_v vs 0) := t0
  have r0 : ta (v_ad (n_v vs 0)) = some 12 := tv_rg t0
  obtain ⟨t2, hk⟩ := List.forall_mem_cons.mp hk
  have t2 : tv_ok ta (0, 0, 99999994, []) (n_v vs 2) := t2
  have k2 : 0 ≤ v_iv (n_v vs 2) ∧ v_iv (n_v vs 2) ≤ 99999994 := tv_rng t2
  obtain ⟨t3, hk⟩ := List.forall_mem_cons.mp hk
  have t3 : tv_ok ta (0, 0, 0, []) (n_v vs 3) := t3
  have k3 : 0 ≤ v_iv (n_v vs 3) ∧ v_iv (n_v vs 3) ≤ 0 := tv_rng t3
  have hf : fc_ok [(20, [0, 2], [30, 0, 1, 1, 12, -1, 0, 0])] ta ws vs := hf
  obtain ⟨f0, hf⟩ := fc_un (show (20 : Nat) < 100 from by decide) hf
  have f0 : 1 * w_fi ws (n_v vs 0) 12 + ((-1) * v_iv (n_v vs 2) + 0) ≤ 0 := f0
  have kz_0_12 : 0 ≤ w_fi ws (n_v vs 0) 12 ∧ w_fi ws (n_v vs 0) 12 ≤ 100000000 := tv_rng (th_fd hD hth r0 (g := GG_12) rfl (k := 12) (t := (0, 0, 100000000, [])) rfl rfl)
  have nf0 : fc_1 (20, [0, 2, 3], [30, 0, 1, 1, 12, -1, 0, 0, -1, 0, 0]) ws (vs) := by
    refine ⟨fun n hn => ?_, ?_⟩
    · have hn : n ∈ [0, 2, 3] := hn
      rw [hl]
      simp only [List.mem_cons, List.not_mem_nil, or_false] at hn
      show n < 4; omega
    · show 1 * w_fi ws (n_v vs 0) 12 + ((-1) * v_iv (n_v vs 2) + ((-1) * v_iv (n_v vs 3) + 0)) ≤ 0
      omega
  have nf1 : fc_1 (24, [0, 0], []) ws (vs) := by
    refine ⟨fun n hn => ?_, ?_⟩
    · have hn : n ∈ [0, 0] := hn
      rw [hl]
      simp only [List.mem_cons, List.not_mem_nil, or_false] at hn
      show n < 4; omega
    · show n_v vs 0 = n_v vs 0
      first | rfl | simp only [true_and]
  refine ⟨(fun _ h => (by cases h)), [], trivial, ?_, (fun _ h => (by cases h))⟩
  rw [List.append_nil]
  exact List.forall_mem_cons.mpr ⟨⟨show (20 : Nat) < 100 from by decide, nf0⟩, List.forall_mem_cons.mpr ⟨⟨show (24 : Nat) < 100 from by decide, nf1⟩, (fun _ h => (by cases h))⟩⟩
def o_Ho_writeWord_at_s5016_1 : or_T := (25, 7, [(0, (2, 0, 0, [12])), (2, (0, 0, 99999994, [])), (3, (2, 0, 0, [12])), (5, (0, 6, 6, [])), (6, (0, 6, 6, []))], [(7, [5, 6], [3]), (20, [3, 2, 5], [30, 0, 1, 1, 12, -1, 0, 0, -1, 0, 0]), (24, [0, 3], [])], [], [], [(20, [0, 2], [30, 6, 1, 1, 12, -1, 0, 0])], [], [])
theorem oo_Ho_writeWord_at_s5016_1 {kA : Nat → ClassId} : or_ok kA GG o_Ho_writeWord_at_s5016_1 := by
  intro A ta ws vs hD hth hl hk hds hf
  have hl : vs.length = 7 := hl
  have hk : ∀ q ∈ ([(0, (2, 0, 0, [12])), (2, (0, 0, 99999994, [])), (3, (2, 0, 0, [12])), (5, (0, 6, 6, [])), (6, (0, 6, 6, []))] : List (Nat × tv_T)), tv_ok ta q.2 (n_v vs q.1) := hk
  obtain ⟨t0, hk⟩ := List.forall_mem_cons.mp hk
  have t0 : tv_ok ta (2, 0, 0, [12]) (n_v vs 0) := t0
  have r0 : ta (v_ad (n_v vs 0)) = some 12 := tv_rg t0
  obtain ⟨t2, hk⟩ := List.forall_mem_cons.mp hk
  have t2 : tv_ok ta (0, 0, 99999994, []) (n_v vs 2) := t2
  have k2 : 0 ≤ v_iv (n_v vs 2) ∧ v_iv (n_v vs 2) ≤ 99999994 := tv_rng t2
  obtain ⟨t3, hk⟩ := List.forall_mem_cons.mp hk
  have t3 : tv_ok ta (2, 0, 0, [12]) (n_v vs 3) := t3
  have r3 : ta (v_ad (n_v vs 3)) = some 12 := tv_rg t3
  obtain ⟨t5, hk⟩ := List.forall_mem_cons.mp hk
  have t5 : tv_ok ta (0, 6, 6, []) (n_v vs 5) := t5
  have k5 : 6 ≤ v_iv (n_v vs 5) ∧ v_iv (n_v vs 5) ≤ 6 := tv_rng t5
  obtain ⟨t6, hk⟩ := List.forall_mem_cons.mp hk
  have t6 : tv_ok ta (0, 6, 6, []) (n_v vs 6) := t6
  have k6 : 6 ≤ v_iv (n_v vs 6) ∧ v_iv (n_v vs 6) ≤ 6 := tv_rng t6
  have hf : fc_ok [(7, [5, 6], [3]), (20, [3, 2, 5], [30, 0, 1, 1, 12, -1, 0, 0, -1, 0, 0]), (24, [0, 3], [])] ta ws vs := hf
  obtain ⟨f0, hf⟩ := fc_un (show (7 : Nat) < 100 from by decide) hf
  have f0 : v_iv (n_v vs 6) ≤ v_iv (n_v vs 5) := f0
  obtain ⟨f1, hf⟩ := fc_un (show (20 : Nat) < 100 from by decide) hf
  have f1 : 1 * w_fi ws (n_v vs 3) 12 + ((-1) * v_iv (n_v vs 2) + ((-1) * v_iv (n_v vs 5) + 0)) ≤ 0 := f1
  obtain ⟨f2, hf⟩ := fc_un (show (24 : Nat) < 100 from by decide) hf
  have f2 : n_v vs 0 = n_v vs 3 := f2
  have q3 : n_v vs 3 = n_v vs 0 := f2.symm
  rw [q3] at f1
  have kz_0_12 : 0 ≤ w_fi ws (n_v vs 0) 12 ∧ w_fi ws (n_v vs 0) 12 ≤ 100000000 := tv_rng (th_fd hD hth r0 (g := GG_12) rfl (k := 12) (t := (0, 0, 100000000, [])) rfl rfl)
  have nf0 : fc_1 (20, [0, 2], [30, 6, 1, 1, 12, -1, 0, 0]) ws (vs) := by
    refine ⟨fun n hn => ?_, ?_⟩
    · have hn : n ∈ [0, 2] := hn
      rw [hl]
      simp only [List.mem_cons, List.not_mem_nil, or_false] at hn
      show n < 7; omega
    · show 1 * w_fi ws (n_v vs 0) 12 + ((-1) * v_iv (n_v vs 2) + 0) ≤ 6
      omega
  refine ⟨(fun _ h => (by cases h)), [], trivial, ?_, (fun _ h => (by cases h))⟩
  rw [List.append_nil]
  exact List.forall_mem_cons.mpr ⟨⟨show (20 : Nat) < 100 from by decide, nf0⟩, (fun _ h => (by cases h))⟩
def o_Ho_writeWord_at_s5016_2 : or_T := (16, 8, [(0, (2, 0, 0, [12])), (2, (0, 0, 99999994, [])), (3, (2, 0, 0, [12])), (5, (0, 0, 5, [])), (6, (0, 6, 6, []))], [(7, [5, 6], [2]), (20, [3, 2, 5], [30, 0, 1, 1, 12, -1, 0, 0, -1, 0, 0]), (24, [0, 3], [])], [], [(0, 0, 99999999, [])], [(20, [3, 8], [30, 0, 1, 1, 12, -1, 0, 0]), (23, [8, 2, 5], [0, 1, -1, -1])], [], [])
theorem oo_Ho_writeWord_at_s5016_2 {kA : Nat → ClassId} : or_ok kA GG o_Ho_writeWord_at_s5016_2 := by
  intro A ta ws vs hD hth hl hk hds hf
  have hl : vs.length = 8 := hl
  have hk : ∀ q ∈ ([(0, (2, 0, 0, [12])), (2, (0, 0, 99999994, [])), (3, (2, 0, 0, [12])), (5, (0, 0, 5, [])), (6, (0, 6, 6, []))] : List (Nat × tv_T)), tv_ok ta q.2 (n_v vs q.1) := hk
  obtain ⟨t0, hk⟩ := List.forall_mem_cons.mp hk
  have t0 : tv_ok ta (2, 0, 0, [12]) (n_v vs 0) := t0
  have r0 : ta (v_ad (n_v vs 0)) = some 12 := tv_rg t0
  obtain ⟨t2, hk⟩ := List.forall_mem_cons.mp hk
  have t2 : tv_ok ta (0, 0, 99999994, []) (n_v vs 2) := t2
  have k2 : 0 ≤ v_iv (n_v vs 2) ∧ v_iv (n_v vs 2) ≤ 99999994 := tv_rng t2
  obtain ⟨t3, hk⟩ := List.forall_mem_cons.mp hk
  have t3 : tv_ok ta (2, 0, 0, [12]) (n_v vs 3) := t3
  have r3 : ta (v_ad (n_v vs 3)) = some 12 := tv_rg t3
  obtain ⟨t5, hk⟩ := List.forall_mem_cons.mp hk
  have t5 : tv_ok ta (0, 0, 5, []) (n_v vs 5) := t5
  have k5 : 0 ≤ v_iv (n_v vs 5) ∧ v_iv (n_v vs 5) ≤ 5 := tv_rng t5
  obtain ⟨t6, hk⟩ := List.forall_mem_cons.mp hk
  have t6 : tv_ok ta (0, 6, 6, []) (n_v vs 6) := t6
  have k6 : 6 ≤ v_iv (n_v vs 6) ∧ v_iv (n_v vs 6) ≤ 6 := tv_rng t6
  have hf : fc_ok [(7, [5, 6], [2]), (20, [3, 2, 5], [30, 0, 1, 1, 12, -1, 0, 0, -1, 0, 0]), (24, [0, 3], [])] ta ws vs := hf
  obtain ⟨f0, hf⟩ := fc_un (show (7 : Nat) < 100 from by decide) hf
  have f0 : v_iv (n_v vs 5) < v_iv (n_v vs 6) := f0
  obtain ⟨f1, hf⟩ := fc_un (show (20 : Nat) < 100 from by decide) hf
  have f1 : 1 * w_fi ws (n_v vs 3) 12 + ((-1) * v_iv (n_v vs 2) + ((-1) * v_iv (n_v vs 5) + 0)) ≤ 0 := f1
  obtain ⟨f2, hf⟩ := fc_un (show (24 : Nat) < 100 from by decide) hf
  have f2 : n_v vs 0 = n_v vs 3 := f2
  have q3 : n_v vs 3 = n_v vs 0 := f2.symm
  rw [q3] at f1
  have kz_0_12 : 0 ≤ w_fi ws (n_v vs 0) 12 ∧ w_fi ws (n_v vs 0) 12 ≤ 100000000 := tv_rng (th_fd hD hth r0 (g := GG_12) rfl (k := 12) (t := (0, 0, 100000000, [])) rfl rfl)
  have kv0 : 0 ≤ w_fi ws (n_v vs 0) 12 ∧ w_fi ws (n_v vs 0) 12 ≤ 100000000 := tv_rng (th_fd hD hth r0 (g := GG_12) rfl (k := 12) (t := (0, 0, 100000000, [])) rfl rfl)
  obtain ⟨x, ex, hx⟩ := iv_ex (ta := ta) (lo := 0) (hi := 99999999) (z := w_fi ws (n_v vs 0) 12) (by omega) (by omega) (by omega) (by omega)
  have ex2 : v_iv (Value.int x) = w_fi ws (n_v vs 0) 12 := ex
  have ex3 : 0 ≤ v_iv (Value.int x) ∧ v_iv (Value.int x) ≤ 99999999 := tv_rng hx
  have e_2 : n_v (vs ++ [Value.int x]) 2 = n_v vs 2 := n_v_old (by rw [hl]; decide)
  have e_3 : n_v (vs ++ [Value.int x]) 3 = n_v vs 3 := n_v_old (by rw [hl]; decide)
  have e_5 : n_v (vs ++ [Value.int x]) 5 = n_v vs 5 := n_v_old (by rw [hl]; decide)
  have e_8 : n_v (vs ++ [Value.int x]) 8 = Value.int x := n_v_new hl
  have nf0 : fc_1 (20, [3, 8], [30, 0, 1, 1, 12, -1, 0, 0]) ws (vs ++ [Value.int x]) := by
    refine ⟨fun n hn => ?_, ?_⟩
    · have hn : n ∈ [3, 8] := hn
      rw [List.length_append, hl]
      simp only [List.mem_cons, List.not_mem_nil, or_false] at hn
      show n < 8 + 1; omega
    · show 1 * w_fi ws (n_v (vs ++ [Value.int x]) 3) 12 + ((-1) * v_iv (n_v (vs ++ [Value.int x]) 8) + 0) ≤ 0
      rw [e_3]
      rw [e_8]
      rw [q3]
      omega
  have nf1 : fc_1 (23, [8, 2, 5], [0, 1, -1, -1]) ws (vs ++ [Value.int x]) := by
    refine ⟨fun n hn => ?_, ?_⟩
    · have hn : n ∈ [8, 2, 5] := hn
      rw [List.length_append, hl]
      simp only [List.mem_cons, List.not_mem_nil, or_false] at hn
      show n < 8 + 1; omega
    · show 1 * v_iv (n_v (vs ++ [Value.int x]) 8) + ((-1) * v_iv (n_v (vs ++ [Value.int x]) 2) + ((-1) * v_iv (n_v (vs ++ [Value.int x]) 5) + 0)) ≤ 0
      rw [e_2]
      rw [e_5]
      rw [e_8]
      omega
  exact ⟨(fun _ h => (by cases h)), [Value.int x], ag_one hx, List.forall_mem_cons.mpr ⟨⟨show (20 : Nat) < 100 from by decide, nf0⟩, List.forall_mem_cons.mpr ⟨⟨show (23 : Nat) < 100 from by decide, nf1⟩, (fun _ h => (by cases h))⟩⟩, (fun _ h => (by cases h))⟩
def o_Ho_writeWord_at_s5016_3 : or_T := (2, 10, [(0, (2, 0, 0, [12])), (2, (0, 0, 99999994, [])), (3, (2, 0, 0, [12])), (5, (0, 0, 5, [])), (6, (0, 6, 6, [])), (8, (0, 0, 99999999, [])), (9, (0, 1, 6, []))], [(6, [9, 5], [1]), (23, [8, 2, 5], [0, 1, -1, -1]), (24, [0, 3], []), (20, [3, 8], [30, 1, 1, 1, 12, -1, 0, 0]), (102, [8], [261336857795280739939871698507597986398208, 12012]), (23, [8, 2, 5], [0, 1, -1, -1]), (7, [5, 6], [2])], [], [], [(20, [3, 2, 9], [30, 0, 1, 1, 12, -1, 0, 0, -1, 0, 0])], [], [(9, 5, 1, 1)])
theorem oo_Ho_writeWord_at_s5016_3 {kA : Nat → ClassId} : or_ok kA GG o_Ho_writeWord_at_s5016_3 := by
  intro A ta ws vs hD hth hl hk hds hf
  have hl : vs.length = 10 := hl
  have hk : ∀ q ∈ ([(0, (2, 0, 0, [12])), (2, (0, 0, 99999994, [])), (3, (2, 0, 0, [12])), (5, (0, 0, 5, [])), (6, (0, 6, 6, [])), (8, (0, 0, 99999999, [])), (9, (0, 1, 6, []))] : List (Nat × tv_T)), tv_ok ta q.2 (n_v vs q.1) := hk
  obtain ⟨t0, hk⟩ := List.forall_mem_cons.mp hk
  have t0 : tv_ok ta (2, 0, 0, [12]) (n_v vs 0) := t0
  have r0 : ta (v_ad (n_v vs 0)) = some 12 := tv_rg t0
  obtain ⟨t2, hk⟩ := List.forall_mem_cons.mp hk
  have t2 : tv_ok ta (0, 0, 99999994, []) (n_v vs 2) := t2
  have k2 : 0 ≤ v_iv (n_v vs 2) ∧ v_iv (n_v vs 2) ≤ 99999994 := tv_rng t2
  obtain ⟨t3, hk⟩ := List.forall_mem_cons.mp hk
  have t3 : tv_ok ta (2, 0, 0, [12]) (n_v vs 3) := t3
  have r3 : ta (v_ad (n_v vs 3)) = some 12 := tv_rg t3
  obtain ⟨t5, hk⟩ := List.forall_mem_cons.mp hk
  have t5 : tv_ok ta (0, 0, 5, []) (n_v vs 5) := t5
  have k5 : 0 ≤ v_iv (n_v vs 5) ∧ v_iv (n_v vs 5) ≤ 5 := tv_rng t5
  obtain ⟨t6, hk⟩ := List.forall_mem_cons.mp hk
  have t6 : tv_ok ta (0, 6, 6, []) (n_v vs 6) := t6
  have k6 : 6 ≤ v_iv (n_v vs 6) ∧ v_iv (n_v vs 6) ≤ 6 := tv_rng t6
  obtain ⟨t8, hk⟩ := List.forall_mem_cons.mp hk
  have t8 : tv_ok ta (0, 0, 99999999, []) (n_v vs 8) := t8
  have k8 : 0 ≤ v_iv (n_v vs 8) ∧ v_iv (n_v vs 8) ≤ 99999999 := tv_rng t8
  obtain ⟨t9, hk⟩ := List.forall_mem_cons.mp hk
  have t9 : tv_ok ta (0, 1, 6, []) (n_v vs 9) := t9
  have k9 : 1 ≤ v_iv (n_v vs 9) ∧ v_iv (n_v vs 9) ≤ 6 := tv_rng t9
  have hds : ∀ q ∈ ([(9, 5, 1, 1)] : List of_T), n_iv vs q.2.1 + q.2.2.1 ≤ n_iv vs q.1 ∧ n_iv vs q.1 ≤ n_iv vs q.2.1 + q.2.2.2 := hds
  obtain ⟨d0, hds⟩ := List.forall_mem_cons.mp hds
  have d0 : v_iv (n_v vs 5) + 1 ≤ v_iv (n_v vs 9) ∧ v_iv (n_v vs 9) ≤ v_iv (n_v vs 5) + 1 := d0
  have hf : fc_ok [(6, [9, 5], [1]), (23, [8, 2, 5], [0, 1, -1, -1]), (24, [0, 3], []), (20, [3, 8], [30, 1, 1, 1, 12, -1, 0, 0]), (102, [8], [261336857795280739939871698507597986398208, 12012]), (23, [8, 2, 5], [0, 1, -1, -1]), (7, [5, 6], [2])] ta ws vs := hf
  obtain ⟨f0, hf⟩ := fc_un (show (6 : Nat) < 100 from by decide) hf
  have f0 : v_iv (n_v vs 9) = v_iv (n_v vs 5) + 1 := f0
  obtain ⟨f1, hf⟩ := fc_un (show (23 : Nat) < 100 from by decide) hf
  have f1 : 1 * v_iv (n_v vs 8) + ((-1) * v_iv (n_v vs 2) + ((-1) * v_iv (n_v vs 5) + 0)) ≤ 0 := f1
  obtain ⟨f2, hf⟩ := fc_un (show (24 : Nat) < 100 from by decide) hf
  have f2 : n_v vs 0 = n_v vs 3 := f2
  obtain ⟨f3, hf⟩ := fc_un (show (20 : Nat) < 100 from by decide) hf
  have f3 : 1 * w_fi ws (n_v vs 3) 12 + ((-1) * v_iv (n_v vs 8) + 0) ≤ 1 := f3
  obtain ⟨ta1, w1, le1, ⟨_, s1⟩, hf⟩ := fc_us (show ¬ (102 : Nat) < 100 from by decide) hf
  obtain ⟨f5, hf⟩ := fc_un (show (23 : Nat) < 100 from by decide) hf
  have f5 : 1 * v_iv (n_v vs 8) + ((-1) * v_iv (n_v vs 2) + ((-1) * v_iv (n_v vs 5) + 0)) ≤ 0 := f5
  obtain ⟨f6, hf⟩ := fc_un (show (7 : Nat) < 100 from by decide) hf
  have f6 : v_iv (n_v vs 5) < v_iv (n_v vs 6) := f6
  have q3 : n_v vs 3 = n_v vs 0 := f2.symm
  rw [q3] at f3
  have kz_0_12 : 0 ≤ w_fi ws (n_v vs 0) 12 ∧ w_fi ws (n_v vs 0) 12 ≤ 100000000 := tv_rng (th_fd hD hth r0 (g := GG_12) rfl (k := 12) (t := (0, 0, 100000000, [])) rfl rfl)
  have nf0 : fc_1 (20, [3, 2, 9], [30, 0, 1, 1, 12, -1, 0, 0, -1, 0, 0]) ws (vs) := by
    refine ⟨fun n hn => ?_, ?_⟩
    · have hn : n ∈ [3, 2, 9] := hn
      rw [hl]
      simp only [List.mem_cons, List.not_mem_nil, or_false] at hn
      show n < 10; omega
    · show 1 * w_fi ws (n_v vs 3) 12 + ((-1) * v_iv (n_v vs 2) + ((-1) * v_iv (n_v vs 9) + 0)) ≤ 0
      rw [q3]
      omega
  refine ⟨(fun _ h => (by cases h)), [], trivial, ?_, (fun _ h => (by cases h))⟩
  rw [List.append_nil]
  exact List.forall_mem_cons.mpr ⟨⟨show (20 : Nat) < 100 from by decide, nf0⟩, (fun _ h => (by cases h))⟩
def n_Ho_writeWord_at_s5016_an : List an_T := [(2, [(0, (2, 0, 0, [12])), (1, (2, 0, 0, [5016])), (2, (0, 0, 6, []))], [], (0, 0), [(0, 0, 99998), (1, 5, 6), (0, 0, 100000)], [], [], [(2, 0, 0, [12]), (2, 0, 0, [5016]), (0, 0, 99999994, [])], 0, [], [(20, [3, 2, 5], [30, 0, 1, 1, 12, -1, 0, 0, -1, 0, 0]), (24, [0, 3], [])])]
def t_Ho_writeWord_at_s5016_ct : ct_L := [(1, 447, e_Ho_writeByte), (16, 438, e_jStr_length_v204), (43, 443, e_jStr_charAt_v205)]
set_option maxRecDepth 100000 in
theorem c_Ho_writeWord_at_s5016 {l : Launch} {D : va_G} {kA : Nat → ClassId} (h_Ho_writeByte : ct_ok l D kA GG y_Ho_writeByte z_Ho_writeByte e_Ho_writeByte) : ct_ok l D kA GG y_Ho_writeWord_at_s5016 z_Ho_writeWord_at_s5016 e_Ho_writeWord_at_s5016 := chk_all_ok (FT := []) (PT := []) (CT := t_Ho_writeWord_at_s5016_ct) (KT := []) (NT := []) (AN := n_Ho_writeWord_at_s5016_an) (OT := [o_Ho_writeWord_at_s5016_0, o_Ho_writeWord_at_s5016_1, o_Ho_writeWord_at_s5016_2, o_Ho_writeWord_at_s5016_3]) 3 200 (List.forall_mem_cons.mpr ⟨oo_Ho_writeWord_at_s5016_0, List.forall_mem_cons.mpr ⟨oo_Ho_writeWord_at_s5016_1, List.forall_mem_cons.mpr ⟨oo_Ho_writeWord_at_s5016_2, List.forall_mem_cons.mpr ⟨oo_Ho_writeWord_at_s5016_3, List.forall_mem_nil _⟩⟩⟩⟩) (by decide +kernel) ⟨List.forall_mem_nil _, List.forall_mem_nil _, List.forall_mem_cons.mpr ⟨cl_virtual (y := y_Ho_writeByte) (ci := 12) rfl rfl ⟨_, _, rfl⟩ (by decide +kernel) h_Ho_writeByte wm_2345 wm_1 wm_2342 wm_2344 wv_12_0 ⟨by decide, by decide, by decide +kernel⟩ (by decide), List.forall_mem_cons.mpr ⟨cl_string (y := y_jStr_length) (i := 16) rfl rfl (by decide +kernel) rfl c_jStr_length_v204 wm_674 wm_11 wm_2340 wm_672 wm_673 ⟨by decide, by decide, by decide +kernel⟩ (by decide), List.forall_mem_cons.mpr ⟨cl_string (y := y_jStr_charAt) (i := 16) rfl rfl (by decide +kernel) rfl c_jStr_charAt_v205 wm_684 wm_11 wm_2341 wm_682 wm_683 ⟨by decide, by decide, by decide +kernel⟩ (by decide), List.forall_mem_nil _⟩⟩⟩, List.forall_mem_nil _, List.forall_mem_nil _, GG_pl⟩ (by decide +kernel)
def o_Ho_writeWord_at_s5017_0 : or_T := (2, 4, [(0, (2, 0, 0, [12])), (2, (0, 0, 99999997, [])), (3, (0, 0, 0, []))], [(20, [0, 2], [30, 0, 1, 1, 12, -1, 0, 0])], [], [], [(20, [0, 2, 3], [30, 0, 1, 1, 12, -1, 0, 0, -1, 0, 0]), (24, [0, 0], [])], [], [])
theorem oo_Ho_writeWord_at_s5017_0 {kA : Nat → ClassId} : or_ok kA GG o_Ho_writeWord_at_s5017_0 := by
  intro A ta ws vs hD hth hl hk hds hf
  have hl : vs.length = 4 := hl
  have hk : ∀ q ∈ ([(0, (2, 0, 0, [12])), (2, (0, 0, 99999997, [])), (3, (0, 0, 0, []))] : List (Nat × tv_T)), tv_ok ta q.2 (n_v vs q.1) := hk
  obtain ⟨t0, hk⟩ := List.forall_mem_cons.mp hk
  have t0 : tv_ok ta (2, 0, 0, [12]) (n_v vs 0) := t0
  have r0 : ta (v_ad (n_v vs 0)) = some 12 := tv_rg t0
  obtain ⟨t2, hk⟩ := List.forall_mem_cons.mp hk
  have t2 : tv_ok ta (0, 0, 99999997, []) (n_v vs 2) := t2
  have k2 : 0 ≤ v_iv (n_v vs 2) ∧ v_iv (n_v vs 2) ≤ 99999997 := tv_rng t2
  obtain ⟨t3, hk⟩ := List.forall_mem_cons.mp hk
  have t3 : tv_ok ta (0, 0, 0, []) (n_v vs 3) := t3
  have k3 : 0 ≤ v_iv (n_v vs 3) ∧ v_iv (n_v vs 3) ≤ 0 := tv_rng t3
  have hf : fc_ok [(20, [0, 2], [30, 0, 1, 1, 12, -1, 0, 0])] ta ws vs := hf
  obtain ⟨f0, hf⟩ := fc_un (show (20 : Nat) < 100 from by decide) hf
  have f0 : 1 * w_fi ws (n_v vs 0) 12 + ((-1) * v_iv (n_v vs 2) + 0) ≤ 0 := f0
  have kz_0_12 : 0 ≤ w_fi ws (n_v vs 0) 12 ∧ w_fi ws (n_v vs 0) 12 ≤ 100000000 := tv_rng (th_fd hD hth r0 (g := GG_12) rfl (k := 12) (t := (0, 0, 100000000, [])) rfl rfl)
  have nf0 : fc_1 (20, [0, 2, 3], [30, 0, 1, 1, 12, -1, 0, 0, -1, 0, 0]) ws (vs) := by
    refine ⟨fun n hn => ?_, ?_⟩
    · have hn : n ∈ [0, 2, 3] := hn
      rw [hl]
      simp only [List.mem_cons, List.not_mem_nil, or_false] at hn
      show n < 4; omega
    · show 1 * w_fi ws (n_v vs 0) 12 + ((-1) * v_iv (n_v vs 2) + ((-1) * v_iv (n_v vs 3) + 0)) ≤ 0
      omega
  have nf1 : fc_1 (24, [0, 0], []) ws (vs) := by
    refine ⟨fun n hn => ?_, ?_⟩
    · have hn : n ∈ [0, 0] := hn
      rw [hl]
      simp only [List.mem_cons, List.not_mem_nil, or_false] at hn
      show n < 4; omega
    · show n_v vs 0 = n_v vs 0
      first | rfl | simp only [true_and]
  refine ⟨(fun _ h => (by cases h)), [], trivial, ?_, (fun _ h => (by cases h))⟩
  rw [List.append_nil]
  exact List.forall_mem_cons.mpr ⟨⟨show (20 : Nat) < 100 from by decide, nf0⟩, List.forall_mem_cons.mpr ⟨⟨show (24 : Nat) < 100 from by decide, nf1⟩, (fun _ h => (by cases h))⟩⟩
def o_Ho_writeWord_at_s5017_1 : or_T := (25, 7, [(0, (2, 0, 0, [12])), (2, (0, 0, 99999997, [])), (3, (2, 0, 0, [12])), (5, (0, 3, 3, [])), (6, (0, 3, 3, []))], [(7, [5, 6], [3]), (20, [3, 2, 5], [30, 0, 1, 1, 12, -1, 0, 0, -1, 0, 0]), (24, [0, 3], [])], [], [], [(20, [0, 2], [30, 3, 1, 1, 12, -1, 0, 0])], [], [])
theorem oo_Ho_writeWord_at_s5017_1 {kA : Nat → ClassId} : or_ok kA GG o_Ho_writeWord_at_s5017_1 := by
  intro A ta ws vs hD hth hl hk hds hf
  have hl : vs.length = 7 := hl
  have hk : ∀ q ∈ ([(0, (2, 0, 0, [12])), (2, (0, 0, 99999997, [])), (3, (2, 0, 0, [12])), (5, (0, 3, 3, [])), (6, (0, 3, 3, []))] : List (Nat × tv_T)), tv_ok ta q.2 (n_v vs q.1) := hk
  obtain ⟨t0, hk⟩ := List.forall_mem_cons.mp hk
  have t0 : tv_ok ta (2, 0, 0, [12]) (n_v vs 0) := t0
  have r0 : ta (v_ad (n_v vs 0)) = some 12 := tv_rg t0
  obtain ⟨t2, hk⟩ := List.forall_mem_cons.mp hk
  have t2 : tv_ok ta (0, 0, 99999997, []) (n_v vs 2) := t2
  have k2 : 0 ≤ v_iv (n_v vs 2) ∧ v_iv (n_v vs 2) ≤ 99999997 := tv_rng t2
  obtain ⟨t3, hk⟩ := List.forall_mem_cons.mp hk
  have t3 : tv_ok ta (2, 0, 0, [12]) (n_v vs 3) := t3
  have r3 : ta (v_ad (n_v vs 3)) = some 12 := tv_rg t3
  obtain ⟨t5, hk⟩ := List.forall_mem_cons.mp hk
  have t5 : tv_ok ta (0, 3, 3, []) (n_v vs 5) := t5
  have k5 : 3 ≤ v_iv (n_v vs 5) ∧ v_iv (n_v vs 5) ≤ 3 := tv_rng t5
  obtain ⟨t6, hk⟩ := List.forall_mem_cons.mp hk
  have t6 : tv_ok ta (0, 3, 3, []) (n_v vs 6) := t6
  have k6 : 3 ≤ v_iv (n_v vs 6) ∧ v_iv (n_v vs 6) ≤ 3 := tv_rng t6
  have hf : fc_ok [(7, [5, 6], [3]), (20, [3, 2, 5], [30, 0, 1, 1, 12, -1, 0, 0, -1, 0, 0]), (24, [0, 3], [])] ta ws vs := hf
  obtain ⟨f0, hf⟩ := fc_un (show (7 : Nat) < 100 from by decide) hf
  have f0 : v_iv (n_v vs 6) ≤ v_iv (n_v vs 5) := f0
  obtain ⟨f1, hf⟩ := fc_un (show (20 : Nat) < 100 from by decide) hf
  have f1 : 1 * w_fi ws (n_v vs 3) 12 + ((-1) * v_iv (n_v vs 2) + ((-1) * v_iv (n_v vs 5) + 0)) ≤ 0 := f1
  obtain ⟨f2, hf⟩ := fc_un (show (24 : Nat) < 100 from by decide) hf
  have f2 : n_v vs 0 = n_v vs 3 := f2
  have q3 : n_v vs 3 = n_v vs 0 := f2.symm
  rw [q3] at f1
  have kz_0_12 : 0 ≤ w_fi ws (n_v vs 0) 12 ∧ w_fi ws (n_v vs 0) 12 ≤ 100000000 := tv_rng (th_fd hD hth r0 (g := GG_12) rfl (k := 12) (t := (0, 0, 100000000, [])) rfl rfl)
  have nf0 : fc_1 (20, [0, 2], [30, 3, 1, 1, 12, -1, 0, 0]) ws (vs) := by
    refine ⟨fun n hn => ?_, ?_⟩
    · have hn : n ∈ [0, 2] := hn
      rw [hl]
      simp only [List.mem_cons, List.not_mem_nil, or_false] at hn
      show n < 7; omega
    · show 1 * w_fi ws (n_v vs 0) 12 + ((-1) * v_iv (n_v vs 2) + 0) ≤ 3
      omega
  refine ⟨(fun _ h => (by cases h)), [], trivial, ?_, (fun _ h => (by cases h))⟩
  rw [List.append_nil]
  exact List.forall_mem_cons.mpr ⟨⟨show (20 : Nat) < 100 from by decide, nf0⟩, (fun _ h => (by cases h))⟩
def o_Ho_writeWord_at_s5017_2 : or_T := (16, 8, [(0, (2, 0, 0, [12])), (2, (0, 0, 99999997, [])), (3, (2, 0, 0, [12])), (5, (0, 0, 2, [])), (6, (0, 3, 3, []))], [(7, [5, 6], [2]), (20, [3, 2, 5], [30, 0, 1, 1, 12, -1, 0, 0, -1, 0, 0]), (24, [0, 3], [])], [], [(0, 0, 99999999, [])], [(20, [3, 8], [30, 0, 1, 1, 12, -1, 0, 0]), (23, [8, 2, 5], [0, 1, -1, -1])], [], [])
theorem oo_Ho_writeWord_at_s5017_2 {kA : Nat → ClassId} : or_ok kA GG o_Ho_writeWord_at_s5017_2 := by
  intro A ta ws vs hD hth hl hk hds hf
  have hl : vs.length = 8 := hl
  have hk : ∀ q ∈ ([(0, (2, 0, 0, [12])), (2, (0, 0, 99999997, [])), (3, (2, 0, 0, [12])), (5, (0, 0, 2, [])), (6, (0, 3, 3, []))] : List (Nat × tv_T)), tv_ok ta q.2 (n_v vs q.1) := hk
  obtain ⟨t0, hk⟩ := List.forall_mem_cons.mp hk
  have t0 : tv_ok ta (2, 0, 0, [12]) (n_v vs 0) := t0
  have r0 : ta (v_ad (n_v vs 0)) = some 12 := tv_rg t0
  obtain ⟨t2, hk⟩ := List.forall_mem_cons.mp hk
  have t2 : tv_ok ta (0, 0, 99999997, []) (n_v vs 2) := t2
  have k2 : 0 ≤ v_iv (n_v vs 2) ∧ v_iv (n_v vs 2) ≤ 99999997 := tv_rng t2
  obtain ⟨t3, hk⟩ := List.forall_mem_cons.mp hk
  have t3 : tv_ok ta (2, 0, 0, [12]) (n_v vs 3) := t3
  have r3 : ta (v_ad (n_v vs 3)) = some 12 := tv_rg t3
  obtain ⟨t5, hk⟩ := List.forall_mem_cons.mp hk
  have t5 : tv_ok ta (0, 0, 2, []) (n_v vs 5) := t5
  have k5 : 0 ≤ v_iv (n_v vs 5) ∧ v_iv (n_v vs 5) ≤ 2 := tv_rng t5
  obtain ⟨t6, hk⟩ := List.forall_mem_cons.mp hk
  have t6 : tv_ok ta (0, 3, 3, []) (n_v vs 6) := t6
  have k6 : 3 ≤ v_iv (n_v vs 6) ∧ v_iv (n_v vs 6) ≤ 3 := tv_rng t6
  have hf : fc_ok [(7, [5, 6], [2]), (20, [3, 2, 5], [30, 0, 1, 1, 12, -1, 0, 0, -1, 0, 0]), (24, [0, 3], [])] ta ws vs := hf
  obtain ⟨f0, hf⟩ := fc_un (show (7 : Nat) < 100 from by decide) hf
  have f0 : v_iv (n_v vs 5) < v_iv (n_v vs 6) := f0
  obtain ⟨f1, hf⟩ := fc_un (show (20 : Nat) < 100 from by decide) hf
  have f1 : 1 * w_fi ws (n_v vs 3) 12 + ((-1) * v_iv (n_v vs 2) + ((-1) * v_iv (n_v vs 5) + 0)) ≤ 0 := f1
  obtain ⟨f2, hf⟩ := fc_un (show (24 : Nat) < 100 from by decide) hf
  have f2 : n_v vs 0 = n_v vs 3 := f2
  have q3 : n_v vs 3 = n_v vs 0 := f2.symm
  rw [q3] at f1
  have kz_0_12 : 0 ≤ w_fi ws (n_v vs 0) 12 ∧ w_fi ws (n_v vs 0) 12 ≤ 100000000 := tv_rng (th_fd hD hth r0 (g := GG_12) rfl (k := 12) (t := (0, 0, 100000000, [])) rfl rfl)
  have kv0 : 0 ≤ w_fi ws (n_v vs 0) 12 ∧ w_fi ws (n_v vs 0) 12 ≤ 100000000 := tv_rng (th_fd hD hth r0 (g := GG_12) rfl (k := 12) (t := (0, 0, 100000000, [])) rfl rfl)
  obtain ⟨x, ex, hx⟩ := iv_ex (ta := ta) (lo := 0) (hi := 99999999) (z := w_fi ws (n_v vs 0) 12) (by omega) (by omega) (by omega) (by omega)
  have ex2 : v_iv (Value.int x) = w_fi ws (n_v vs 0) 12 := ex
  have ex3 : 0 ≤ v_iv (Value.int x) ∧ v_iv (Value.int x) ≤ 99999999 := tv_rng hx
  have e_2 : n_v (vs ++ [Value.int x]) 2 = n_v vs 2 := n_v_old (by rw [hl]; decide)
  have e_3 : n_v (vs ++ [Value.int x]) 3 = n_v vs 3 := n_v_old (by rw [hl]; decide)
  have e_5 : n_v (vs ++ [Value.int x]) 5 = n_v vs 5 := n_v_old (by rw [hl]; decide)
  have e_8 : n_v (vs ++ [Value.int x]) 8 = Value.int x := n_v_new hl
  have nf0 : fc_1 (20, [3, 8], [30, 0, 1, 1, 12, -1, 0, 0]) ws (vs ++ [Value.int x]) := by
    refine ⟨fun n hn => ?_, ?_⟩
    · have hn : n ∈ [3, 8] := hn
      rw [List.length_append, hl]
      simp only [List.mem_cons, List.not_mem_nil, or_false] at hn
      show n < 8 + 1; omega
    · show 1 * w_fi ws (n_v (vs ++ [Value.int x]) 3) 12 + ((-1) * v_iv (n_v (vs ++ [Value.int x]) 8) + 0) ≤ 0
      rw [e_3]
      rw [e_8]
      rw [q3]
      omega
  have nf1 : fc_1 (23, [8, 2, 5], [0, 1, -1, -1]) ws (vs ++ [Value.int x]) := by
    refine ⟨fun n hn => ?_, ?_⟩
    · have hn : n ∈ [8, 2, 5] := hn
      rw [List.length_append, hl]
      simp only [List.mem_cons, List.not_mem_nil, or_false] at hn
      show n < 8 + 1; omega
    · show 1 * v_iv (n_v (vs ++ [Value.int x]) 8) + ((-1) * v_iv (n_v (vs ++ [Value.int x]) 2) + ((-1) * v_iv (n_v (vs ++ [Value.int x]) 5) + 0)) ≤ 0
      rw [e_2]
      rw [e_5]
      rw [e_8]
      omega
  exact ⟨(fun _ h => (by cases h)), [Value.int x], ag_one hx, List.forall_mem_cons.mpr ⟨⟨show (20 : Nat) < 100 from by decide, nf0⟩, List.forall_mem_cons.mpr ⟨⟨show (23 : Nat) < 100 from by decide, nf1⟩, (fun _ h => (by cases h))⟩⟩, (fun _ h => (by cases h))⟩
def o_Ho_writeWord_at_s5017_3 : or_T := (2, 10, [(0, (2, 0, 0, [12])), (2, (0, 0, 99999997, [])), (3, (2, 0, 0, [12])), (5, (0, 0, 2, [])), (6, (0, 3, 3, [])), (8, (0, 0, 99999999, [])), (9, (0, 1, 3, []))], [(6, [9, 5], [1]), (23, [8, 2, 5], [0, 1, -1, -1]), (24, [0, 3], []), (20, [3, 8], [30, 1, 1, 1, 12, -1, 0, 0]), (102, [8], [261336857795280739939871698507597986398208, 12012]), (23, [8, 2, 5], [0, 1, -1, -1]), (7, [5, 6], [2])], [], [], [(20, [3, 2, 9], [30, 0, 1, 1, 12, -1, 0, 0, -1, 0, 0])], [], [(9, 5, 1, 1)])
theorem oo_Ho_writeWord_at_s5017_3 {kA : Nat → ClassId} : or_ok kA GG o_Ho_writeWord_at_s5017_3 := by
  intro A ta ws vs hD hth hl hk hds hf
  have hl : vs.length = 10 := hl
  have hk : ∀ q ∈ ([(0, (2, 0, 0, [12])), (2, (0, 0, 99999997, [])), (3, (2, 0, 0, [12])), (5, (0, 0, 2, [])), (6, (0, 3, 3, [])), (8, (0, 0, 99999999, [])), (9, (0, 1, 3, []))] : List (Nat × tv_T)), tv_ok ta q.2 (n_v vs q.1) := hk
  obtain ⟨t0, hk⟩ := List.forall_mem_cons.mp hk
  have t0 : tv_ok ta (2, 0, 0, [12]) (n_v vs 0) := t0
  have r0 : ta (v_ad (n_v vs 0)) = some 12 := tv_rg t0
  obtain ⟨t2, hk⟩ := List.forall_mem_cons.mp hk
  have t2 : tv_ok ta (0, 0, 99999997, []) (n_v vs 2) := t2
  have k2 : 0 ≤ v_iv (n_v vs 2) ∧ v_iv (n_v vs 2) ≤ 99999997 := tv_rng t2
  obtain ⟨t3, hk⟩ := List.forall_mem_cons.mp hk
  have t3 : tv_ok ta (2, 0, 0, [12]) (n_v vs 3) := t3
  have r3 : ta (v_ad (n_v vs 3)) = some 12 := tv_rg t3
  obtain ⟨t5, hk⟩ := List.forall_mem_cons.mp hk
  have t5 : tv_ok ta (0, 0, 2, []) (n_v vs 5) := t5
  have k5 : 0 ≤ v_iv (n_v vs 5) ∧ v_iv (n_v vs 5) ≤ 2 := tv_rng t5
  obtain ⟨t6, hk⟩ := List.forall_mem_cons.mp hk
  have t6 : tv_ok ta (0, 3, 3, []) (n_v vs 6) := t6
  have k6 : 3 ≤ v_iv (n_v vs 6) ∧ v_iv (n_v vs 6) ≤ 3 := tv_rng t6
  obtain ⟨t8, hk⟩ := List.forall_mem_cons.mp hk
  have t8 : tv_ok ta (0, 0, 99999999, []) (n_v vs 8) := t8
  have k8 : 0 ≤ v_iv (n_v vs 8) ∧ v_iv (n_v vs 8) ≤ 99999999 := tv_rng t8
  obtain ⟨t9, hk⟩ := List.forall_mem_cons.mp hk
  have t9 : tv_ok ta (0, 1, 3, []) (n_v vs 9) := t9
  have k9 : 1 ≤ v_iv (n_v vs 9) ∧ v_iv (n_v vs 9) ≤ 3 := tv_rng t9
  have hds : ∀ q ∈ ([(9, 5, 1, 1)] : List of_T), n_iv vs q.2.1 + q.2.2.1 ≤ n_iv vs q.1 ∧ n_iv vs q.1 ≤ n_iv vs q.2.1 + q.2.2.2 := hds
  obtain ⟨d0, hds⟩ := List.forall_mem_cons.mp hds
  have d0 : v_iv (n_v vs 5) + 1 ≤ v_iv (n_v vs 9) ∧ v_iv (n_v vs 9) ≤ v_iv (n_v vs 5) + 1 := d0
  have hf : fc_ok [(6, [9, 5], [1]), (23, [8, 2, 5], [0, 1, -1, -1]), (24, [0, 3], []), (20, [3, 8], [30, 1, 1, 1, 12, -1, 0, 0]), (102, [8], [261336857795280739939871698507597986398208, 12012]), (23, [8, 2, 5], [0, 1, -1, -1]), (7, [5, 6], [2])] ta ws vs := hf
  obtain ⟨f0, hf⟩ := fc_un (show (6 : Nat) < 100 from by decide) hf
  have f0 : v_iv (n_v vs 9) = v_iv (n_v vs 5) + 1 := f0
  obtain ⟨f1, hf⟩ := fc_un (show (23 : Nat) < 100 from by decide) hf
  have f1 : 1 * v_iv (n_v vs 8) + ((-1) * v_iv (n_v vs 2) + ((-1) * v_iv (n_v vs 5) + 0)) ≤ 0 := f1
  obtain ⟨f2, hf⟩ := fc_un (show (24 : Nat) < 100 from by decide) hf
  have f2 : n_v vs 0 = n_v vs 3 := f2
  obtain ⟨f3, hf⟩ := fc_un (show (20 : Nat) < 100 from by decide) hf
  have f3 : 1 * w_fi ws (n_v vs 3) 12 + ((-1) * v_iv (n_v vs 8) + 0) ≤ 1 := f3
  obtain ⟨ta1, w1, le1, ⟨_, s1⟩, hf⟩ := fc_us (show ¬ (102 : Nat) < 100 from by decide) hf
  obtain ⟨f5, hf⟩ := fc_un (show (23 : Nat) < 100 from by decide) hf
  have f5 : 1 * v_iv (n_v vs 8) + ((-1) * v_iv (n_v vs 2) + ((-1) * v_iv (n_v vs 5) + 0)) ≤ 0 := f5
  obtain ⟨f6, hf⟩ := fc_un (show (7 : Nat) < 100 from by decide) hf
  have f6 : v_iv (n_v vs 5) < v_iv (n_v vs 6) := f6
  have q3 : n_v vs 3 = n_v vs 0 := f2.symm
  rw [q3] at f3
  have kz_0_12 : 0 ≤ w_fi ws (n_v vs 0) 12 ∧ w_fi ws (n_v vs 0) 12 ≤ 100000000 := tv_rng (th_fd hD hth r0 (g := GG_12) rfl (k := 12) (t := (0, 0, 100000000, [])) rfl rfl)
  have nf0 : fc_1 (20, [3, 2, 9], [30, 0, 1, 1, 12, -1, 0, 0, -1, 0, 0]) ws (vs) := by
    refine ⟨fun n hn => ?_, ?_⟩
    · have hn : n ∈ [3, 2, 9] := hn
      rw [hl]
      simp only [List.mem_cons, List.not_mem_nil, or_false] at hn
      show n < 10; omega
    · show 1 * w_fi ws (n_v vs 3) 12 + ((-1) * v_iv (n_v vs 2) + ((-1) * v_iv (n_v vs 9) + 0)) ≤ 0
      rw [q3]
      omega
  refine ⟨(fun _ h => (by cases h)), [], trivial, ?_, (fun _ h => (by cases h))⟩
  rw [List.append_nil]
  exact List.forall_mem_cons.mpr ⟨⟨show (20 : Nat) < 100 from by decide, nf0⟩, (fun _ h => (by cases h))⟩
def n_Ho_writeWord_at_s5017_an : List an_T := [(2, [(0, (2, 0, 0, [12])), (1, (2, 0, 0, [5017])), (2, (0, 0, 3, []))], [], (0, 0), [(0, 0, 99998), (1, 5, 3), (0, 0, 100000)], [], [], [(2, 0, 0, [12]), (2, 0, 0, [5017]), (0, 0, 99999997, [])], 0, [], [(20, [3, 2, 5], [30, 0, 1, 1, 12, -1, 0, 0, -1, 0, 0]), (24, [0, 3], [])])]
def t_Ho_writeWord_at_s5017_ct : ct_L := [(1, 447, e_Ho_writeByte), (16, 438, e_jStr_length_v207), (43, 443, e_jStr_charAt_v208)]
set_option maxRecDepth 100000 in
theorem c_Ho_writeWord_at_s5017 {l : Launch} {D : va_G} {kA : Nat → ClassId} (h_Ho_writeByte : ct_ok l D kA GG y_Ho_writeByte z_Ho_writeByte e_Ho_writeByte) : ct_ok l D kA GG y_Ho_writeWord_at_s5017 z_Ho_writeWord_at_s5017 e_Ho_writeWord_at_s5017 := chk_all_ok (FT := []) (PT := []) (CT := t_Ho_writeWord_at_s5017_ct) (KT := []) (NT := []) (AN := n_Ho_writeWord_at_s5017_an) (OT := [o_Ho_writeWord_at_s5017_0, o_Ho_writeWord_at_s5017_1, o_Ho_writeWord_at_s5017_2, o_Ho_writeWord_at_s5017_3]) 3 200 (List.forall_mem_cons.mpr ⟨oo_Ho_writeWord_at_s5017_0, List.forall_mem_cons.mpr ⟨oo_Ho_writeWord_at_s5017_1, List.forall_mem_cons.mpr ⟨oo_Ho_writeWord_at_s5017_2, List.forall_mem_cons.mpr ⟨oo_Ho_writeWord_at_s5017_3, List.forall_mem_nil _⟩⟩⟩⟩) (by decide +kernel) ⟨List.forall_mem_nil _, List.forall_mem_nil _, List.forall_mem_cons.mpr ⟨cl_virtual (y := y_Ho_writeByte) (ci := 12) rfl rfl ⟨_, _, rfl⟩ (by decide +kernel) h_Ho_writeByte wm_2345 wm_1 wm_2342 wm_2344 wv_12_0 ⟨by decide, by decide, by decide +kernel⟩ (by decide), List.forall_mem_cons.mpr ⟨cl_string (y := y_jStr_length) (i := 17) rfl rfl (by decide +kernel) rfl c_jStr_length_v207 wm_674 wm_11 wm_2340 wm_672 wm_673 ⟨by decide, by decide, by decide +kernel⟩ (by decide), List.forall_mem_cons.mpr ⟨cl_string (y := y_jStr_charAt) (i := 17) rfl rfl (by decide +kernel) rfl c_jStr_charAt_v208 wm_684 wm_11 wm_2341 wm_682 wm_683 ⟨by decide, by decide, by decide +kernel⟩ (by decide), List.forall_mem_nil _⟩⟩⟩, List.forall_mem_nil _, List.forall_mem_nil _, GG_pl⟩ (by decide +kernel)
def o_Ho_writeWord_at_s5018_0 : or_T := (2, 4, [(0, (2, 0, 0, [12])), (2, (0, 0, 99999998, [])), (3, (0, 0, 0, []))], [(20, [0, 2], [30, 0, 1, 1, 12, -1, 0, 0])], [], [], [(20, [0, 2, 3], [30, 0, 1, 1, 12, -1, 0, 0, -1, 0, 0]), (24, [0, 0], [])], [], [])
theorem oo_Ho_writeWord_at_s5018_0 {kA : Nat → ClassId} : or_ok kA GG o_Ho_writeWord_at_s5018_0 := by
  intro A ta ws vs hD hth hl hk hds hf
  have hl : vs.length = 4 := hl
  have hk : ∀ q ∈ ([(0, (2, 0, 0, [12])), (2, (0, 0, 99999998, [])), (3, (0, 0, 0, []))] : List (Nat × tv_T)), tv_ok ta q.2 (n_v vs q.1) := hk
  obtain ⟨t0, hk⟩ := List.forall_mem_cons.mp hk
  have t0 : tv_ok ta (2, 0, 0, [12]) (n_v vs 0) := t0
  have r0 : ta (v_ad (n_v vs 0)) = some 12 := tv_rg t0
  obtain ⟨t2, hk⟩ := List.forall_mem_cons.mp hk
  have t2 : tv_ok ta (0, 0, 99999998, []) (n_v vs 2) := t2
  have k2 : 0 ≤ v_iv (n_v vs 2) ∧ v_iv (n_v vs 2) ≤ 99999998 := tv_rng t2
  obtain ⟨t3, hk⟩ := List.forall_mem_cons.mp hk
  have t3 : tv_ok ta (0, 0, 0, []) (n_v vs 3) := t3
  have k3 : 0 ≤ v_iv (n_v vs 3) ∧ v_iv (n_v vs 3) ≤ 0 := tv_rng t3
  have hf : fc_ok [(20, [0, 2], [30, 0, 1, 1, 12, -1, 0, 0])] ta ws vs := hf
  obtain ⟨f0, hf⟩ := fc_un (show (20 : Nat) < 100 from by decide) hf
  have f0 : 1 * w_fi ws (n_v vs 0) 12 + ((-1) * v_iv (n_v vs 2) + 0) ≤ 0 := f0
  have kz_0_12 : 0 ≤ w_fi ws (n_v vs 0) 12 ∧ w_fi ws (n_v vs 0) 12 ≤ 100000000 := tv_rng (th_fd hD hth r0 (g := GG_12) rfl (k := 12) (t := (0, 0, 100000000, [])) rfl rfl)
  have nf0 : fc_1 (20, [0, 2, 3], [30, 0, 1, 1, 12, -1, 0, 0, -1, 0, 0]) ws (vs) := by
    refine ⟨fun n hn => ?_, ?_⟩
    · have hn : n ∈ [0, 2, 3] := hn
      rw [hl]
      simp only [List.mem_cons, List.not_mem_nil, or_false] at hn
      show n < 4; omega
    · show 1 * w_fi ws (n_v vs 0) 12 + ((-1) * v_iv (n_v vs 2) + ((-1) * v_iv (n_v vs 3) + 0)) ≤ 0
      omega
  have nf1 : fc_1 (24, [0, 0], []) ws (vs) := by
    refine ⟨fun n hn => ?_, ?_⟩
    · have hn : n ∈ [0, 0] := hn
      rw [hl]
      simp only [List.mem_cons, List.not_mem_nil, or_false] at hn
      show n < 4; omega
    · show n_v vs 0 = n_v vs 0
      first | rfl | simp only [true_and]
  refine ⟨(fun _ h => (by cases h)), [], trivial, ?_, (fun _ h => (by cases h))⟩
  rw [List.append_nil]
  exact List.forall_mem_cons.mpr ⟨⟨show (20 : Nat) < 100 from by decide, nf0⟩, List.forall_mem_cons.mpr ⟨⟨show (24 : Nat) < 100 from by decide, nf1⟩, (fun _ h => (by cases h))⟩⟩
def o_Ho_writeWord_at_s5018_1 : or_T := (25, 7, [(0, (2, 0, 0, [12])), (2, (0, 0, 99999998, [])), (3, (2, 0, 0, [12])), (5, (0, 2, 2, [])), (6, (0, 2, 2, []))], [(7, [5, 6], [3]), (20, [3, 2, 5], [30, 0, 1, 1, 12, -1, 0, 0, -1, 0, 0]), (24, [0, 3], [])], [], [], [(20, [0, 2], [30, 2, 1, 1, 12, -1, 0, 0])], [], [(5, 2, -4294967296, 2)])
theorem oo_Ho_writeWord_at_s5018_1 {kA : Nat → ClassId} : or_ok kA GG o_Ho_writeWord_at_s5018_1 := by
  intro A ta ws vs hD hth hl hk hds hf
  have hl : vs.length = 7 := hl
  have hk : ∀ q ∈ ([(0, (2, 0, 0, [12])), (2, (0, 0, 99999998, [])), (3, (2, 0, 0, [12])), (5, (0, 2, 2, [])), (6, (0, 2, 2, []))] : List (Nat × tv_T)), tv_ok ta q.2 (n_v vs q.1) := hk
  obtain ⟨t0, hk⟩ := List.forall_mem_cons.mp hk
  have t0 : tv_ok ta (2, 0, 0, [12]) (n_v vs 0) := t0
  have r0 : ta (v_ad (n_v vs 0)) = some 12 := tv_rg t0
  obtain ⟨t2, hk⟩ := List.forall_mem_cons.mp hk
  have t2 : tv_ok ta (0, 0, 99999998, []) (n_v vs 2) := t2
  have k2 : 0 ≤ v_iv (n_v vs 2) ∧ v_iv (n_v vs 2) ≤ 99999998 := tv_rng t2
  obtain ⟨t3, hk⟩ := List.forall_mem_cons.mp hk
  have t3 : tv_ok ta (2, 0, 0, [12]) (n_v vs 3) := t3
  have r3 : ta (v_ad (n_v vs 3)) = some 12 := tv_rg t3
  obtain ⟨t5, hk⟩ := List.forall_mem_cons.mp hk
  have t5 : tv_ok ta (0, 2, 2, []) (n_v vs 5) := t5
  have k5 : 2 ≤ v_iv (n_v vs 5) ∧ v_iv (n_v vs 5) ≤ 2 := tv_rng t5
  obtain ⟨t6, hk⟩ := List.forall_mem_cons.mp hk
  have t6 : tv_ok ta (0, 2, 2, []) (n_v vs 6) := t6
  have k6 : 2 ≤ v_iv (n_v vs 6) ∧ v_iv (n_v vs 6) ≤ 2 := tv_rng t6
  have hds : ∀ q ∈ ([(5, 2, -4294967296, 2)] : List of_T), n_iv vs q.2.1 + q.2.2.1 ≤ n_iv vs q.1 ∧ n_iv vs q.1 ≤ n_iv vs q.2.1 + q.2.2.2 := hds
  obtain ⟨d0, hds⟩ := List.forall_mem_cons.mp hds
  have d0 : v_iv (n_v vs 2) + (-4294967296) ≤ v_iv (n_v vs 5) ∧ v_iv (n_v vs 5) ≤ v_iv (n_v vs 2) + 2 := d0
  have hf : fc_ok [(7, [5, 6], [3]), (20, [3, 2, 5], [30, 0, 1, 1, 12, -1, 0, 0, -1, 0, 0]), (24, [0, 3], [])] ta ws vs := hf
  obtain ⟨f0, hf⟩ := fc_un (show (7 : Nat) < 100 from by decide) hf
  have f0 : v_iv (n_v vs 6) ≤ v_iv (n_v vs 5) := f0
  obtain ⟨f1, hf⟩ := fc_un (show (20 : Nat) < 100 from by decide) hf
  have f1 : 1 * w_fi ws (n_v vs 3) 12 + ((-1) * v_iv (n_v vs 2) + ((-1) * v_iv (n_v vs 5) + 0)) ≤ 0 := f1
  obtain ⟨f2, hf⟩ := fc_un (show (24 : Nat) < 100 from by decide) hf
  have f2 : n_v vs 0 = n_v vs 3 := f2
  have q3 : n_v vs 3 = n_v vs 0 := f2.symm
  rw [q3] at f1
  have kz_0_12 : 0 ≤ w_fi ws (n_v vs 0) 12 ∧ w_fi ws (n_v vs 0) 12 ≤ 100000000 := tv_rng (th_fd hD hth r0 (g := GG_12) rfl (k := 12) (t := (0, 0, 100000000, [])) rfl rfl)
  have nf0 : fc_1 (20, [0, 2], [30, 2, 1, 1, 12, -1, 0, 0]) ws (vs) := by
    refine ⟨fun n hn => ?_, ?_⟩
    · have hn : n ∈ [0, 2] := hn
      rw [hl]
      simp only [List.mem_cons, List.not_mem_nil, or_false] at hn
      show n < 7; omega
    · show 1 * w_fi ws (n_v vs 0) 12 + ((-1) * v_iv (n_v vs 2) + 0) ≤ 2
      omega
  refine ⟨(fun _ h => (by cases h)), [], trivial, ?_, (fun _ h => (by cases h))⟩
  rw [List.append_nil]
  exact List.forall_mem_cons.mpr ⟨⟨show (20 : Nat) < 100 from by decide, nf0⟩, (fun _ h => (by cases h))⟩
def o_Ho_writeWord_at_s5018_2 : or_T := (16, 8, [(0, (2, 0, 0, [12])), (2, (0, 0, 99999998, [])), (3, (2, 0, 0, [12])), (5, (0, 0, 1, [])), (6, (0, 2, 2, []))], [(7, [5, 6], [2]), (20, [3, 2, 5], [30, 0, 1, 1, 12, -1, 0, 0, -1, 0, 0]), (24, [0, 3], [])], [], [(0, 0, 99999999, [])], [(20, [3, 8], [30, 0, 1, 1, 12, -1, 0, 0]), (23, [8, 2, 5], [0, 1, -1, -1])], [], [(5, 2, -4294967296, 2)])
theorem oo_Ho_writeWord_at_s5018_2 {kA : Nat → ClassId} : or_ok kA GG o_Ho_writeWord_at_s5018_2 := by
  intro A ta ws vs hD hth hl hk hds hf
  have hl : vs.length = 8 := hl
  have hk : ∀ q ∈ ([(0, (2, 0, 0, [12])), (2, (0, 0, 99999998, [])), (3, (2, 0, 0, [12])), (5, (0, 0, 1, [])), (6, (0, 2, 2, []))] : List (Nat × tv_T)), tv_ok ta q.2 (n_v vs q.1) := hk
  obtain ⟨t0, hk⟩ := List.forall_mem_cons.mp hk
  have t0 : tv_ok ta (2, 0, 0, [12]) (n_v vs 0) := t0
  have r0 : ta (v_ad (n_v vs 0)) = some 12 := tv_rg t0
  obtain ⟨t2, hk⟩ := List.forall_mem_cons.mp hk
  have t2 : tv_ok ta (0, 0, 99999998, []) (n_v vs 2) := t2
  have k2 : 0 ≤ v_iv (n_v vs 2) ∧ v_iv (n_v vs 2) ≤ 99999998 := tv_rng t2
  obtain ⟨t3, hk⟩ := List.forall_mem_cons.mp hk
  have t3 : tv_ok ta (2, 0, 0, [12]) (n_v vs 3) := t3
  have r3 : ta (v_ad (n_v vs 3)) = some 12 := tv_rg t3
  obtain ⟨t5, hk⟩ := List.forall_mem_cons.mp hk
  have t5 : tv_ok ta (0, 0, 1, []) (n_v vs 5) := t5
  have k5 : 0 ≤ v_iv (n_v vs 5) ∧ v_iv (n_v vs 5) ≤ 1 := tv_rng t5
  obtain ⟨t6, hk⟩ := List.forall_mem_cons.mp hk
  have t6 : tv_ok ta (0, 2, 2, []) (n_v vs 6) := t6
  have k6 : 2 ≤ v_iv (n_v vs 6) ∧ v_iv (n_v vs 6) ≤ 2 := tv_rng t6
  have hds : ∀ q ∈ ([(5, 2, -4294967296, 2)] : List of_T), n_iv vs q.2.1 + q.2.2.1 ≤ n_iv vs q.1 ∧ n_iv vs q.1 ≤ n_iv vs q.2.1 + q.2.2.2 := hds
  obtain ⟨d0, hds⟩ := List.forall_mem_cons.mp hds
  have d0 : v_iv (n_v vs 2) + (-4294967296) ≤ v_iv (n_v vs 5) ∧ v_iv (n_v vs 5) ≤ v_iv (n_v vs 2) + 2 := d0
  have hf : fc_ok [(7, [5, 6], [2]), (20, [3, 2, 5], [30, 0, 1, 1, 12, -1, 0, 0, -1, 0, 0]), (24, [0, 3], [])] ta ws vs := hf
  obtain ⟨f0, hf⟩ := fc_un (show (7 : Nat) < 100 from by decide) hf
  have f0 : v_iv (n_v vs 5) < v_iv (n_v vs 6) := f0
  obtain ⟨f1, hf⟩ := fc_un (show (20 : Nat) < 100 from by decide) hf
  have f1 : 1 * w_fi ws (n_v vs 3) 12 + ((-1) * v_iv (n_v vs 2) + ((-1) * v_iv (n_v vs 5) + 0)) ≤ 0 := f1
  obtain ⟨f2, hf⟩ := fc_un (show (24 : Nat) < 100 from by decide) hf
  have f2 : n_v vs 0 = n_v vs 3 := f2
  have q3 : n_v vs 3 = n_v vs 0 := f2.symm
  rw [q3] at f1
  have kz_0_12 : 0 ≤ w_fi ws (n_v vs 0) 12 ∧ w_fi ws (n_v vs 0) 12 ≤ 100000000 := tv_rng (th_fd hD hth r0 (g := GG_12) rfl (k := 12) (t := (0, 0, 100000000, [])) rfl rfl)
  have kv0 : 0 ≤ w_fi ws (n_v vs 0) 12 ∧ w_fi ws (n_v vs 0) 12 ≤ 100000000 := tv_rng (th_fd hD hth r0 (g := GG_12) rfl (k := 12) (t := (0, 0, 100000000, [])) rfl rfl)
  obtain ⟨x, ex, hx⟩ := iv_ex (ta := ta) (lo := 0) (hi := 99999999) (z := w_fi ws (n_v vs 0) 12) (by omega) (by omega) (by omega) (by omega)
  have ex2 : v_iv (Value.int x) = w_fi ws (n_v vs 0) 12 := ex
  have ex3 : 0 ≤ v_iv (Value.int x) ∧ v_iv (Value.int x) ≤ 99999999 := tv_rng hx
  have e_2 : n_v (vs ++ [Value.int x]) 2 = n_v vs 2 := n_v_old (by rw [hl]; decide)
  have e_3 : n_v (vs ++ [Value.int x]) 3 = n_v vs 3 := n_v_old (by rw [hl]; decide)
  have e_5 : n_v (vs ++ [Value.int x]) 5 = n_v vs 5 := n_v_old (by rw [hl]; decide)
  have e_8 : n_v (vs ++ [Value.int x]) 8 = Value.int x := n_v_new hl
  have nf0 : fc_1 (20, [3, 8], [30, 0, 1, 1, 12, -1, 0, 0]) ws (vs ++ [Value.int x]) := by
    refine ⟨fun n hn => ?_, ?_⟩
    · have hn : n ∈ [3, 8] := hn
      rw [List.length_append, hl]
      simp only [List.mem_cons, List.not_mem_nil, or_false] at hn
      show n < 8 + 1; omega
    · show 1 * w_fi ws (n_v (vs ++ [Value.int x]) 3) 12 + ((-1) * v_iv (n_v (vs ++ [Value.int x]) 8) + 0) ≤ 0
      rw [e_3]
      rw [e_8]
      rw [q3]
      omega
  have nf1 : fc_1 (23, [8, 2, 5], [0, 1, -1, -1]) ws (vs ++ [Value.int x]) := by
    refine ⟨fun n hn => ?_, ?_⟩
    · have hn : n ∈ [8, 2, 5] := hn
      rw [List.length_append, hl]
      simp only [List.mem_cons, List.not_mem_nil, or_false] at hn
      show n < 8 + 1; omega
    · show 1 * v_iv (n_v (vs ++ [Value.int x]) 8) + ((-1) * v_iv (n_v (vs ++ [Value.int x]) 2) + ((-1) * v_iv (n_v (vs ++ [Value.int x]) 5) + 0)) ≤ 0
      rw [e_2]
      rw [e_5]
      rw [e_8]
      omega
  exact ⟨(fun _ h => (by cases h)), [Value.int x], ag_one hx, List.forall_mem_cons.mpr ⟨⟨show (20 : Nat) < 100 from by decide, nf0⟩, List.forall_mem_cons.mpr ⟨⟨show (23 : Nat) < 100 from by decide, nf1⟩, (fun _ h => (by cases h))⟩⟩, (fun _ h => (by cases h))⟩
def o_Ho_writeWord_at_s5018_3 : or_T := (2, 10, [(0, (2, 0, 0, [12])), (2, (0, 0, 99999998, [])), (3, (2, 0, 0, [12])), (5, (0, 0, 1, [])), (6, (0, 2, 2, [])), (8, (0, 0, 99999999, [])), (9, (0, 1, 2, []))], [(6, [9, 5], [1]), (23, [8, 2, 5], [0, 1, -1, -1]), (24, [0, 3], []), (20, [3, 8], [30, 1, 1, 1, 12, -1, 0, 0]), (102, [8], [261336857795280739939871698507597986398208, 12012]), (23, [8, 2, 5], [0, 1, -1, -1]), (7, [5, 6], [2])], [], [], [(20, [3, 2, 9], [30, 0, 1, 1, 12, -1, 0, 0, -1, 0, 0])], [], [(9, 5, 1, 1), (9, 2, -4294967296, 3), (5, 2, -4294967296, 2)])
theorem oo_Ho_writeWord_at_s5018_3 {kA : Nat → ClassId} : or_ok kA GG o_Ho_writeWord_at_s5018_3 := by
  intro A ta ws vs hD hth hl hk hds hf
  have hl : vs.length = 10 := hl
  have hk : ∀ q ∈ ([(0, (2, 0, 0, [12])), (2, (0, 0, 99999998, [])), (3, (2, 0, 0, [12])), (5, (0, 0, 1, [])), (6, (0, 2, 2, [])), (8, (0, 0, 99999999, [])), (9, (0, 1, 2, []))] : List (Nat × tv_T)), tv_ok ta q.2 (n_v vs q.1) := hk
  obtain ⟨t0, hk⟩ := List.forall_mem_cons.mp hk
  have t0 : tv_ok ta (2, 0, 0, [12]) (n_v vs 0) := t0
  have r0 : ta (v_ad (n_v vs 0)) = some 12 := tv_rg t0
  obtain ⟨t2, hk⟩ := List.forall_mem_cons.mp hk
  have t2 : tv_ok ta (0, 0, 99999998, []) (n_v vs 2) := t2
  have k2 : 0 ≤ v_iv (n_v vs 2) ∧ v_iv (n_v vs 2) ≤ 99999998 := tv_rng t2
  obtain ⟨t3, hk⟩ := List.forall_mem_cons.mp hk
  have t3 : tv_ok ta (2, 0, 0, [12]) (n_v vs 3) := t3
  have r3 : ta (v_ad (n_v vs 3)) = some 12 := tv_rg t3
  obtain ⟨t5, hk⟩ := List.forall_mem_cons.mp hk
  have t5 : tv_ok ta (0, 0, 1, []) (n_v vs 5) := t5
  have k5 : 0 ≤ v_iv (n_v vs 5) ∧ v_iv (n_v vs 5) ≤ 1 := tv_rng t5
  obtain ⟨t6, hk⟩ := List.forall_mem_cons.mp hk
  have t6 : tv_ok ta (0, 2, 2, []) (n_v vs 6) := t6
  have k6 : 2 ≤ v_iv (n_v vs 6) ∧ v_iv (n_v vs 6) ≤ 2 := tv_rng t6
  obtain ⟨t8, hk⟩ := List.forall_mem_cons.mp hk
  have t8 : tv_ok ta (0, 0, 99999999, []) (n_v vs 8) := t8
  have k8 : 0 ≤ v_iv (n_v vs 8) ∧ v_iv (n_v vs 8) ≤ 99999999 := tv_rng t8
  obtain ⟨t9, hk⟩ := List.forall_mem_cons.mp hk
  have t9 : tv_ok ta (0, 1, 2, []) (n_v vs 9) := t9
  have k9 : 1 ≤ v_iv (n_v vs 9) ∧ v_iv (n_v vs 9) ≤ 2 := tv_rng t9
  have hds : ∀ q ∈ ([(9, 5, 1, 1), (9, 2, -4294967296, 3), (5, 2, -4294967296, 2)] : List of_T), n_iv vs q.2.1 + q.2.2.1 ≤ n_iv vs q.1 ∧ n_iv vs q.1 ≤ n_iv vs q.2.1 + q.2.2.2 := hds
  obtain ⟨d0, hds⟩ := List.forall_mem_cons.mp hds
  have d0 : v_iv (n_v vs 5) + 1 ≤ v_iv (n_v vs 9) ∧ v_iv (n_v vs 9) ≤ v_iv (n_v vs 5) + 1 := d0
  obtain ⟨d1, hds⟩ := List.forall_mem_cons.mp hds
  have d1 : v_iv (n_v vs 2) + (-4294967296) ≤ v_iv (n_v vs 9) ∧ v_iv (n_v vs 9) ≤ v_iv (n_v vs 2) + 3 := d1
  obtain ⟨d2, hds⟩ := List.forall_mem_cons.mp hds
  have d2 : v_iv (n_v vs 2) + (-4294967296) ≤ v_iv (n_v vs 5) ∧ v_iv (n_v vs 5) ≤ v_iv (n_v vs 2) + 2 := d2
  have hf : fc_ok [(6, [9, 5], [1]), (23, [8, 2, 5], [0, 1, -1, -1]), (24, [0, 3], []), (20, [3, 8], [30, 1, 1, 1, 12, -1, 0, 0]), (102, [8], [261336857795280739939871698507597986398208, 12012]), (23, [8, 2, 5], [0, 1, -1, -1]), (7, [5, 6], [2])] ta ws vs := hf
  obtain ⟨f0, hf⟩ := fc_un (show (6 : Nat) < 100 from by decide) hf
  have f0 : v_iv (n_v vs 9) = v_iv (n_v vs 5) + 1 := f0
  obtain ⟨f1, hf⟩ := fc_un (show (23 : Nat) < 100 from by decide) hf
  have f1 : 1 * v_iv (n_v vs 8) + ((-1) * v_iv (n_v vs 2) + ((-1) * v_iv (n_v vs 5) + 0)) ≤ 0 := f1
  obtain ⟨f2, hf⟩ := fc_un (show (24 : Nat) < 100 from by decide) hf
  have f2 : n_v vs 0 = n_v vs 3 := f2
  obtain ⟨f3, hf⟩ := fc_un (show (20 : Nat) < 100 from by decide) hf
  have f3 : 1 * w_fi ws (n_v vs 3) 12 + ((-1) * v_iv (n_v vs 8) + 0) ≤ 1 := f3
  obtain ⟨ta1, w1, le1, ⟨_, s1⟩, hf⟩ := fc_us (show ¬ (102 : Nat) < 100 from by decide) hf
  obtain ⟨f5, hf⟩ := fc_un (show (23 : Nat) < 100 from by decide) hf
  have f5 : 1 * v_iv (n_v vs 8) + ((-1) * v_iv (n_v vs 2) + ((-1) * v_iv (n_v vs 5) + 0)) ≤ 0 := f5
  obtain ⟨f6, hf⟩ := fc_un (show (7 : Nat) < 100 from by decide) hf
  have f6 : v_iv (n_v vs 5) < v_iv (n_v vs 6) := f6
  have q3 : n_v vs 3 = n_v vs 0 := f2.symm
  rw [q3] at f3
  have kz_0_12 : 0 ≤ w_fi ws (n_v vs 0) 12 ∧ w_fi ws (n_v vs 0) 12 ≤ 100000000 := tv_rng (th_fd hD hth r0 (g := GG_12) rfl (k := 12) (t := (0, 0, 100000000, [])) rfl rfl)
  have nf0 : fc_1 (20, [3, 2, 9], [30, 0, 1, 1, 12, -1, 0, 0, -1, 0, 0]) ws (vs) := by
    refine ⟨fun n hn => ?_, ?_⟩
    · have hn : n ∈ [3, 2, 9] := hn
      rw [hl]
      simp only [List.mem_cons, List.not_mem_nil, or_false] at hn
      show n < 10; omega
    · show 1 * w_fi ws (n_v vs 3) 12 + ((-1) * v_iv (n_v vs 2) + ((-1) * v_iv (n_v vs 9) + 0)) ≤ 0
      rw [q3]
      omega
  refine ⟨(fun _ h => (by cases h)), [], trivial, ?_, (fun _ h => (by cases h))⟩
  rw [List.append_nil]
  exact List.forall_mem_cons.mpr ⟨⟨show (20 : Nat) < 100 from by decide, nf0⟩, (fun _ h => (by cases h))⟩
def n_Ho_writeWord_at_s5018_an : List an_T := [(2, [(0, (2, 0, 0, [12])), (1, (2, 0, 0, [5018])), (2, (0, 0, 2, []))], [], (0, 0), [(0, 0, 99998), (1, 5, 2), (0, 0, 100000)], [(5, 2, -1000000000000, 2)], [], [(2, 0, 0, [12]), (2, 0, 0, [5018]), (0, 0, 99999998, [])], 0, [], [(20, [3, 2, 5], [30, 0, 1, 1, 12, -1, 0, 0, -1, 0, 0]), (24, [0, 3], [])])]
def t_Ho_writeWord_at_s5018_ct : ct_L := [(1, 447, e_Ho_writeByte), (16, 438, e_jStr_length_v210), (43, 443, e_jStr_charAt_v211)]
set_option maxRecDepth 100000 in
theorem c_Ho_writeWord_at_s5018 {l : Launch} {D : va_G} {kA : Nat → ClassId} (h_Ho_writeByte : ct_ok l D kA GG y_Ho_writeByte z_Ho_writeByte e_Ho_writeByte) : ct_ok l D kA GG y_Ho_writeWord_at_s5018 z_Ho_writeWord_at_s5018 e_Ho_writeWord_at_s5018 := chk_all_ok (FT := []) (PT := []) (CT := t_Ho_writeWord_at_s5018_ct) (KT := []) (NT := []) (AN := n_Ho_writeWord_at_s5018_an) (OT := [o_Ho_writeWord_at_s5018_0, o_Ho_writeWord_at_s5018_1, o_Ho_writeWord_at_s5018_2, o_Ho_writeWord_at_s5018_3]) 3 200 (List.forall_mem_cons.mpr ⟨oo_Ho_writeWord_at_s5018_0, List.forall_mem_cons.mpr ⟨oo_Ho_writeWord_at_s5018_1, List.forall_mem_cons.mpr ⟨oo_Ho_writeWord_at_s5018_2, List.forall_mem_cons.mpr ⟨oo_Ho_writeWord_at_s5018_3, List.forall_mem_nil _⟩⟩⟩⟩) (by decide +kernel) ⟨List.forall_mem_nil _, List.forall_mem_nil _, List.forall_mem_cons.mpr ⟨cl_virtual (y := y_Ho_writeByte) (ci := 12) rfl rfl ⟨_, _, rfl⟩ (by decide +kernel) h_Ho_writeByte wm_2345 wm_1 wm_2342 wm_2344 wv_12_0 ⟨by decide, by decide, by decide +kernel⟩ (by decide), List.forall_mem_cons.mpr ⟨cl_string (y := y_jStr_length) (i := 18) rfl rfl (by decide +kernel) rfl c_jStr_length_v210 wm_674 wm_11 wm_2340 wm_672 wm_673 ⟨by decide, by decide, by decide +kernel⟩ (by decide), List.forall_mem_cons.mpr ⟨cl_string (y := y_jStr_charAt) (i := 18) rfl rfl (by decide +kernel) rfl c_jStr_charAt_v211 wm_684 wm_11 wm_2341 wm_682 wm_683 ⟨by decide, by decide, by decide +kernel⟩ (by decide), List.forall_mem_nil _⟩⟩⟩, List.forall_mem_nil _, List.forall_mem_nil _, GG_pl⟩ (by decide +kernel)
