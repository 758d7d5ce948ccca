
set_option maxRecDepth 100000 in
theorem c_Mo_styleTokens {l : Launch} {D : va_G} {kA : Nat → ClassId} (h_Mo_byteAt : ct_ok PRD l D kA GG y_Mo_byteAt z_Mo_byteAt e_Mo_byteAt) (h_Mo_in : ct_ok PRD l D kA GG y_Mo_in z_Mo_in e_Mo_in) (h_Mo_isDigit : ct_ok PRD l D kA GG y_Mo_isDigit z_Mo_isDigit e_Mo_isDigit) : ct_ok PRD l D kA GG y_Mo_styleTokens z_Mo_styleTokens e_Mo_styleTokens := chk_all_ok (FT := [(342, 13, 160), (345, 13, 161), (348, 13, 162), (351, 13, 163), (422, 13, 11), (1160, 13, 157)]) (PT := [(419, 13, 10, .int), (422, 13, 11, .int), (1160, 13, 157, .int)]) (CT := t_Mo_styleTokens_ct) (KT := [(2, 1163, .long (99999), (1, 99999, 99999, [])), (2, 1165, .long (10), (1, 10, 10, [])), (2, 1167, .long (48), (1, 48, 48, []))]) (NT := []) (AN := n_Mo_styleTokens_an) (OT := [o_Mo_styleTokens_0, o_Mo_styleTokens_1, o_Mo_styleTokens_2, o_Mo_styleTokens_3, o_Mo_styleTokens_4, o_Mo_styleTokens_5, o_Mo_styleTokens_6, o_Mo_styleTokens_7, o_Mo_styleTokens_8, o_Mo_styleTokens_9, o_Mo_styleTokens_10, o_Mo_styleTokens_11, o_Mo_styleTokens_12, o_Mo_styleTokens_13, o_Mo_styleTokens_14, o_Mo_styleTokens_15, o_Mo_styleTokens_16, o_Mo_styleTokens_17, o_Mo_styleTokens_18, o_Mo_styleTokens_19, o_Mo_styleTokens_20, o_Mo_styleTokens_21, o_Mo_styleTokens_22, o_Mo_styleTokens_23, o_Mo_styleTokens_24, o_Mo_styleTokens_25, o_Mo_styleTokens_26, o_Mo_styleTokens_27, o_Mo_styleTokens_28, o_Mo_styleTokens_29, o_Mo_styleTokens_30, o_Mo_styleTokens_31, o_Mo_styleTokens_32, o_Mo_styleTokens_33, o_Mo_styleTokens_34, o_Mo_styleTokens_35, o_Mo_styleTokens_36, o_Mo_styleTokens_37, o_Mo_styleTokens_38, o_Mo_styleTokens_39, o_Mo_styleTokens_40, o_Mo_styleTokens_41, o_Mo_styleTokens_42, o_Mo_styleTokens_43, o_Mo_styleTokens_44, o_Mo_styleTokens_45, o_Mo_styleTokens_46, o_Mo_styleTokens_47, o_Mo_styleTokens_48, o_Mo_styleTokens_49, o_Mo_styleTokens_50, o_Mo_styleTokens_51, o_Mo_styleTokens_52, o_Mo_styleTokens_53]) 5 1476 (List.forall_mem_cons.mpr ⟨oo_Mo_styleTokens_0, List.forall_mem_cons.mpr ⟨oo_Mo_styleTokens_1, List.forall_mem_cons.mpr ⟨oo_Mo_styleTokens_2, List.forall_mem_cons.mpr ⟨oo_Mo_styleTokens_3, List.forall_mem_cons.mpr ⟨oo_Mo_styleTokens_4, List.forall_mem_cons.mpr ⟨oo_Mo_styleTokens_5, List.forall_mem_cons.mpr ⟨oo_Mo_styleTokens_6, List.forall_mem_cons.mpr ⟨oo_Mo_styleTokens_7, List.forall_mem_cons.mpr ⟨oo_Mo_styleTokens_8, List.forall_mem_cons.mpr ⟨oo_Mo_styleTokens_9, List.forall_mem_cons.mpr ⟨oo_Mo_styleTokens_10, List.forall_mem_cons.mpr ⟨oo_Mo_styleTokens_11, List.forall_mem_cons.mpr ⟨oo_Mo_styleTokens_12, List.forall_mem_cons.mpr ⟨oo_Mo_styleTokens_13, List.forall_mem_cons.mpr ⟨oo_Mo_styleTokens_14, List.forall_mem_cons.mpr ⟨oo_Mo_styleTokens_15, List.forall_mem_cons.mpr ⟨oo_Mo_styleTokens_16, List.forall_mem_cons.mpr ⟨oo_Mo_styleTokens_17, List.forall_mem_cons.mpr ⟨oo_Mo_styleTokens_18, List.forall_mem_cons.mpr ⟨oo_Mo_styleTokens_19, List.forall_mem_cons.mpr ⟨oo_Mo_styleTokens_20, List.forall_mem_cons.mpr ⟨oo_Mo_styleTokens_21, List.forall_mem_cons.mpr ⟨oo_Mo_styleTokens_22, List.forall_mem_cons.mpr ⟨oo_Mo_styleTokens_23, List.forall_mem_cons.mpr ⟨oo_Mo_styleTokens_24, List.forall_mem_cons.mpr ⟨oo_Mo_styleTokens_25, List.forall_mem_cons.mpr ⟨oo_Mo_styleTokens_26, List.forall_mem_cons.mpr ⟨oo_Mo_styleTokens_27, List.forall_mem_cons.mpr ⟨oo_Mo_styleTokens_28, List.forall_mem_cons.mpr ⟨oo_Mo_styleTokens_29, List.forall_mem_cons.mpr ⟨oo_Mo_styleTokens_30, List.forall_mem_cons.mpr ⟨oo_Mo_styleTokens_31, List.forall_mem_cons.mpr ⟨oo_Mo_styleTokens_32, List.forall_mem_cons.mpr ⟨oo_Mo_styleTokens_33, List.forall_mem_cons.mpr ⟨oo_Mo_styleTokens_34, List.forall_mem_cons.mpr ⟨oo_Mo_styleTokens_35, List.forall_mem_cons.mpr ⟨oo_Mo_styleTokens_36, List.forall_mem_cons.mpr ⟨oo_Mo_styleTokens_37, List.forall_mem_cons.mpr ⟨oo_Mo_styleTokens_38, List.forall_mem_cons.mpr ⟨oo_Mo_styleTokens_39, List.forall_mem_cons.mpr ⟨oo_Mo_styleTokens_40, List.forall_mem_cons.mpr ⟨oo_Mo_styleTokens_41, List.forall_mem_cons.mpr ⟨oo_Mo_styleTokens_42, List.forall_mem_cons.mpr ⟨oo_Mo_styleTokens_43, List.forall_mem_cons.mpr ⟨oo_Mo_styleTokens_44, List.forall_mem_cons.mpr ⟨oo_Mo_styleTokens_45, List.forall_mem_cons.mpr ⟨oo_Mo_styleTokens_46, List.forall_mem_cons.mpr ⟨oo_Mo_styleTokens_47, List.forall_mem_cons.mpr ⟨oo_Mo_styleTokens_48, List.forall_mem_cons.mpr ⟨oo_Mo_styleTokens_49, List.forall_mem_cons.mpr ⟨oo_Mo_styleTokens_50, List.forall_mem_cons.mpr ⟨oo_Mo_styleTokens_51, List.forall_mem_cons.mpr ⟨oo_Mo_styleTokens_52, List.forall_mem_cons.mpr ⟨oo_Mo_styleTokens_53, List.forall_mem_nil _⟩⟩⟩⟩⟩⟩⟩⟩⟩⟩⟩⟩⟩⟩⟩⟩⟩⟩⟩⟩⟩⟩⟩⟩⟩⟩⟩⟩⟩⟩⟩⟩⟩⟩⟩⟩⟩⟩⟩⟩⟩⟩⟩⟩⟩⟩⟩⟩⟩⟩⟩⟩⟩⟩) (by decide +kernel) ⟨List.forall_mem_cons.mpr ⟨gf_Mo_342, List.forall_mem_cons.mpr ⟨gf_Mo_345, List.forall_mem_cons.mpr ⟨gf_Mo_348, List.forall_mem_cons.mpr ⟨gf_Mo_351, List.forall_mem_cons.mpr ⟨gf_Mo_422, List.forall_mem_cons.mpr ⟨gf_Mo_1160, List.forall_mem_nil _⟩⟩⟩⟩⟩⟩, List.forall_mem_cons.mpr ⟨pf_Mo_419, List.forall_mem_cons.mpr ⟨pf_Mo_422, List.forall_mem_cons.mpr ⟨pf_Mo_1160, List.forall_mem_nil _⟩⟩⟩, List.forall_mem_cons.mpr ⟨cl_static (y := y_Mo_in) h_Mo_in wm_2971 wm_9 wm_2969 wm_2970 ⟨by decide, by decide, by decide +kernel⟩ (by decide), List.forall_mem_cons.mpr ⟨cl_static (y := y_Mo_isDigit) h_Mo_isDigit wm_2992 wm_9 wm_2990 wm_2991 ⟨by decide, by decide, by decide +kernel⟩ (by decide), List.forall_mem_cons.mpr ⟨cl_virtual (y := y_Mo_byteAt) (ci := 13) rfl rfl ⟨_, _, rfl⟩ (by decide +kernel) h_Mo_byteAt wm_2986 wm_9 wm_2983 wm_2985 wv_12_12 ⟨by decide, by decide, by decide +kernel⟩ (by decide), List.forall_mem_nil _⟩⟩⟩, List.forall_mem_cons.mpr ⟨⟨kt_mk2 wm_3799, fun _ => Or.inr (Or.inl ⟨rfl, _, rfl, by decide, by decide⟩)⟩, List.forall_mem_cons.mpr ⟨⟨kt_mk2 wm_3800, fun _ => Or.inr (Or.inl ⟨rfl, _, rfl, by decide, by decide⟩)⟩, List.forall_mem_cons.mpr ⟨⟨kt_mk2 wm_3801, fun _ => Or.inr (Or.inl ⟨rfl, _, rfl, by decide, by decide⟩)⟩, List.forall_mem_nil _⟩⟩⟩, List.forall_mem_nil _, GG_pl⟩ (by decide +kernel)
set_option maxHeartbeats 4000000 in
theorem vc_Mo_sweeps_0_0 (x2 : Int) (layerMany_0 : Int) (layerItem_0 : Int → Int) (kept_0 : Int → Int) (k2 : 0 ≤ x2 ∧ x2 ≤ 0) (kz_0_101 : 0 ≤ layerMany_0 ∧ layerMany_0 ≤ 76) : KPT (layerMany_0) (layerItem_0) (kept_0) (x2) := by
  first
    | (intro j a b; exfalso; omega)
def o_Mo_sweeps_0 : or_T := (7, 3, [(0, (2, 0, 0, [165])), (2, (0, 0, 0, []))], [], [], [], [(20, [0, 2], [60, 1, 2, 454, 101, 106, 118]), (24, [0, 0], [])], [], [])
theorem oo_Mo_sweeps_0 {kA : Nat → ClassId} : or_ok PRD kA GG o_Mo_sweeps_0 := by
  refine or_mk fun A ta ws vs hD hth hl => ?_
  intro t0 r0 t2 k2
  have kz_0_101 := fdq_125 hD hth r0
  have nf0 : fc_1 PRD (20, [0, 2], [60, 1, 2, 454, 101, 106, 118]) ws (vs) := ⟨nf_in hl rfl, sgq_1333 (vc_Mo_sweeps_0_0 (v_iv (n_v vs 2)) (w_fi ws (n_v vs 0) 101) (w_ei ws (w_ar ws (n_v vs 0) 106)) (w_ei ws (w_ar ws (n_v vs 0) 118)) k2 kz_0_101)⟩
  have nf1 : fc_1 PRD (24, [0, 0], []) ws (vs) := by
    refine ⟨nf_in hl rfl, sgq_1 ?_⟩
    · show n_v vs 0 = n_v vs 0
      first | rfl | simp only [true_and]
  refine ⟨(fun _ h => (by cases h)), [], trivial, ?_, (fun _ h => (by cases h))⟩
  rw [List.append_nil]
  exact List.forall_mem_cons.mpr ⟨⟨show (20 : Nat) < 100 from by decide, nf0⟩, List.forall_mem_cons.mpr ⟨⟨show (24 : Nat) < 100 from by decide, nf1⟩, (fun _ h => (by cases h))⟩⟩
set_option maxHeartbeats 4000000 in
theorem vc_Mo_sweeps_1_0 (x3 : Int) (x5 : Int) (x6 : Int) (layerMany_0 : Int) (itemLayer_0 : Int → Int) (items_0 : Int) (layerSize_0 : Int → Int) (layerItem_0 : Int → Int) (kept_0 : Int → Int) (k3 : 0 ≤ x3 ∧ x3 ≤ 5776) (k5 : 0 ≤ x5 ∧ x5 ≤ 76) (k6 : 0 ≤ x6 ∧ x6 ≤ 5776) (d0 : x6 + 0 ≤ x3 ∧ x3 ≤ x6 + 4294967296) (f1 : x6 = 76 * x5) (g2 : x5 = layerMany_0) (f4 : LSB (items_0) (layerMany_0) (itemLayer_0) (layerSize_0) (layerItem_0)) (f5 : KPT (layerMany_0) (layerItem_0) (kept_0) (x3)) (kz_0_100 : 0 ≤ items_0 ∧ items_0 ≤ 76) (kz_0_101 : 0 ≤ layerMany_0 ∧ layerMany_0 ≤ 76) : LSK (items_0) (layerMany_0) (itemLayer_0) (layerSize_0) (kept_0) := by
  first
    | exact lsb_copy ‹LSB _ _ _ _ _› ‹KPT _ _ _ _› (by omega)
def o_Mo_sweeps_1 : or_T := (38, 8, [(0, (2, 0, 0, [165])), (3, (0, 0, 5776, [])), (4, (0, 76, 76, [])), (5, (0, 0, 76, [])), (6, (0, 0, 5776, []))], [(3, [6, 4, 5], []), (9, [5, 1], [101]), (20, [1], [60, 2, 3, 448, 100, 101, 102, 105, 106]), (20, [1, 3], [60, 1, 2, 454, 101, 106, 118]), (24, [0, 1], [])], [], [], [(20, [1], [60, 2, 3, 455, 100, 101, 102, 105, 118])], [], [(3, 6, 0, 4294967296)])
theorem oo_Mo_sweeps_1 {kA : Nat → ClassId} : or_ok PRD kA GG o_Mo_sweeps_1 := by
  refine or_mk fun A ta ws vs hD hth hl => ?_
  intro t0 r0 t3 k3 t4 k4 t5 k5 t6 k6 d0 f1 f2 f4 f5 f6
  replace f1 := shm_38 f1
  rw [show v_iv (n_v vs 4) = 76 from by omega] at f1
  replace f2 := shm_617 f2
  replace f4 := shm_675 f4
  replace f5 := shm_1333 f5
  replace f6 := shm_5 f6
  have q1 : n_v vs 1 = n_v vs 0 := f6.symm
  simp only [q1] at f2 f4 f5
  have g2 : v_iv (n_v vs 5) = w_fi ws (n_v vs 0) 101 := congrArg v_iv f2
  have kz_0_100 := fdq_162 hD hth r0
  have kz_0_101 := fdq_125 hD hth r0
  have nf0 : fc_1 PRD (20, [1], [60, 2, 3, 455, 100, 101, 102, 105, 118]) ws (vs) := by
    refine ⟨nf_in hl rfl, sgq_1334 ?_⟩
    · show LSK (w_fi ws (n_v vs 1) 100) (w_fi ws (n_v vs 1) 101) (w_ei ws (w_ar ws (n_v vs 1) 102)) (w_ei ws (w_ar ws (n_v vs 1) 105)) (w_ei ws (w_ar ws (n_v vs 1) 118))
      rw [q1]
      exact vc_Mo_sweeps_1_0 (v_iv (n_v vs 3)) (v_iv (n_v vs 5)) (v_iv (n_v vs 6)) (w_fi ws (n_v vs 0) 101) (w_ei ws (w_ar ws (n_v vs 0) 102)) (w_fi ws (n_v vs 0) 100) (w_ei ws (w_ar ws (n_v vs 0) 105)) (w_ei ws (w_ar ws (n_v vs 0) 106)) (w_ei ws (w_ar ws (n_v vs 0) 118)) k3 k5 k6 d0 f1 g2 f4 f5 kz_0_100 kz_0_101
  refine ⟨(fun _ h => (by cases h)), [], trivial, ?_, (fun _ h => (by cases h))⟩
  rw [List.append_nil]
  exact List.forall_mem_cons.mpr ⟨⟨show (20 : Nat) < 100 from by decide, nf0⟩, (fun _ h => (by cases h))⟩
set_option maxHeartbeats 4000000 in
theorem vc_Mo_sweeps_2_0 (x3 : Int) (x9 : Int) (x10 : Int) (all_0 : Int → Int) (turned_0 : Int → Int) (itemLayer_0 : Int → Int) (firstJoint_0 : Int → Int) (lineA_0 : Int → Int) (lineB_0 : Int → Int) (r_0 : Int) (items_0 : Int) (layerMany_0 : Int) (lines_0 : Int) (layerSize_0 : Int → Int) (layerItem_0 : Int → Int) (layerItem_1 : Int → Int) (layerMany_1 : Int) (all_1 : Int → Int) (turned_1 : Int → Int) (itemLayer_1 : Int → Int) (firstJoint_1 : Int → Int) (lineA_1 : Int → Int) (lineB_1 : Int → Int) (r_1 : Int) (items_1 : Int) (lines_1 : Int) (layerSize_1 : Int → Int) (kept_1 : Int → Int) (kept_0 : Int → Int) (k3 : 0 ≤ x3 ∧ x3 ≤ 5775) (k9 : 0 ≤ x9 ∧ x9 ≤ 75) (k10 : 1 ≤ x10 ∧ x10 ≤ 5776) (f0 : x10 = x3 + 1) (h5 : x9 = layerItem_1 (x3)) (f13 : KPT (layerMany_1) (layerItem_1) (kept_1) (x3)) (fe_0_5_1 : r_0 = r_1) (fe_0_100_1 : items_0 = items_1) (fe_0_101_1 : layerMany_0 = layerMany_1) (fe_0_107_1 : lines_0 = lines_1) (hE_0_2_1 : ∀ j : Int, all_0 j = all_1 j) (hE_0_95_1 : ∀ j : Int, turned_0 j = turned_1 j) (hE_0_102_1 : ∀ j : Int, itemLayer_0 j = itemLayer_1 j) (hE_0_104_1 : ∀ j : Int, firstJoint_0 j = firstJoint_1 j) (hE_0_105_1 : ∀ j : Int, layerSize_0 j = layerSize_1 j) (hE_0_106_1 : ∀ j : Int, layerItem_0 j = layerItem_1 j) (hE_0_108_1 : ∀ j : Int, lineA_0 j = lineA_1 j) (hE_0_109_1 : ∀ j : Int, lineB_0 j = lineB_1 j) (hE_0_118_1 : ∀ j : Int, 0 ≤ j → (j = x3 → kept_0 j = x9) ∧ (j ≠ x3 → kept_0 j = kept_1 j)) (kz_0_100 : 0 ≤ items_0 ∧ items_0 ≤ 76) (kz_0_101 : 0 ≤ layerMany_0 ∧ layerMany_0 ≤ 76) (kz_0_107 : 0 ≤ lines_0 ∧ lines_0 ≤ 130) : KPT (layerMany_0) (layerItem_0) (kept_0) (x10) := by
  subst fe_0_5_1
  subst fe_0_100_1
  subst fe_0_101_1
  subst fe_0_107_1
  have e_hE_0_2_1 := funext hE_0_2_1; subst e_hE_0_2_1
  have e_hE_0_95_1 := funext hE_0_95_1; subst e_hE_0_95_1
  have e_hE_0_102_1 := funext hE_0_102_1; subst e_hE_0_102_1
  have e_hE_0_104_1 := funext hE_0_104_1; subst e_hE_0_104_1
  have e_hE_0_105_1 := funext hE_0_105_1; subst e_hE_0_105_1
  have e_hE_0_106_1 := funext hE_0_106_1; subst e_hE_0_106_1
  have e_hE_0_108_1 := funext hE_0_108_1; subst e_hE_0_108_1
  have e_hE_0_109_1 := funext hE_0_109_1; subst e_hE_0_109_1
  first
    | exact kpt_step ‹KPT _ _ _ _› (by omega) (by assumption) rfl (by assumption)
def o_Mo_sweeps_2 : or_T := (7, 11, [(0, (2, 0, 0, [165])), (3, (0, 0, 5775, [])), (7, (2, 0, 0, [250])), (9, (0, 0, 75, [])), (10, (0, 1, 5776, []))], [(6, [10, 3], [1]), (24, [0, 1], []), (100, [7, 3, 9], []), (10, [9, 8, 3], []), (9, [8, 1], [106]), (9, [7, 1], [118]), (20, [1, 3], [60, 1, 2, 454, 101, 106, 118])], [], [], [(20, [1, 10], [60, 1, 2, 454, 101, 106, 118])], [], [(10, 3, 1, 1), (3, 6, -4294967296, -1)])
theorem oo_Mo_sweeps_2 {kA : Nat → ClassId} : or_ok PRD kA GG o_Mo_sweeps_2 := by
  refine or_mk fun A ta ws vs hD hth hl => ?_
  intro t0 r0 t3 k3 t7 r7 t9 k9 t10 k10 d0 d2 f0 f3 ta1 w1 le1 s1 f5 f6 f7 f13
  replace f0 := shm_4 f0
  replace f3 := shm_5 f3
  have s1 : (∀ b j, w_el ws b j = if b = v_ad (n_v vs 7) ∧ j = (v_iv (n_v vs 3)).toNat then v_iv (n_v vs 9) else w_el w1 b j) ∧ ∀ b k, w_fd ws b k = w_fd w1 b k := s1.2
  replace f5 := shm_107 f5
  replace f6 := shm_679 f6
  replace f7 := shm_1335 f7
  replace f13 := shm_1333 f13
  have q1 : n_v vs 1 = n_v vs 0 := f3.symm
  simp only [q1] at f6 f7 f13
  have ar_0_2_1 : w_ar w1 (n_v vs 0) 2 = w_ar ws (n_v vs 0) 2 := congrArg v_ad (s1.2 _ _).symm
  have cr_0_2 := fdq_10 hD hth r0
  have ar_0_95_1 : w_ar w1 (n_v vs 0) 95 = w_ar ws (n_v vs 0) 95 := congrArg v_ad (s1.2 _ _).symm
  have cr_0_95 := fdq_130 hD hth r0
  have ar_0_102_1 : w_ar w1 (n_v vs 0) 102 = w_ar ws (n_v vs 0) 102 := congrArg v_ad (s1.2 _ _).symm
  have cr_0_102 := fdq_159 hD hth r0
  have ar_0_104_1 : w_ar w1 (n_v vs 0) 104 = w_ar ws (n_v vs 0) 104 := congrArg v_ad (s1.2 _ _).symm
  have cr_0_104 := fdq_170 hD hth r0
  have ar_0_105_1 : w_ar w1 (n_v vs 0) 105 = w_ar ws (n_v vs 0) 105 := congrArg v_ad (s1.2 _ _).symm
  have cr_0_105 := fdq_122 hD hth r0
  have ar_0_106_1 : w_ar w1 (n_v vs 0) 106 = w_ar ws (n_v vs 0) 106 := congrArg v_ad (s1.2 _ _).symm
  have cr_0_106 := fdq_123 hD hth r0
  have ar_0_108_1 : w_ar w1 (n_v vs 0) 108 = w_ar ws (n_v vs 0) 108 := congrArg v_ad (s1.2 _ _).symm
  have cr_0_108 := fdq_160 hD hth r0
  have ar_0_109_1 : w_ar w1 (n_v vs 0) 109 = w_ar ws (n_v vs 0) 109 := congrArg v_ad (s1.2 _ _).symm
  have cr_0_109 := fdq_161 hD hth r0
  have ar_0_118_1 : w_ar w1 (n_v vs 0) 118 = w_ar ws (n_v vs 0) 118 := congrArg v_ad (s1.2 _ _).symm
  have ad_8 : v_ad (n_v vs 8) = w_ar ws (n_v vs 0) 106 := (congrArg v_ad f6).trans ar_0_106_1
  have ad_7 : v_ad (n_v vs 7) = w_ar ws (n_v vs 0) 118 := (congrArg v_ad f7).trans ar_0_118_1
  simp only [ad_8] at f5
  have h5 : v_iv (n_v vs 9) = w_ei w1 (w_ar ws (n_v vs 0) 106) (v_iv (n_v vs 3)) := f5
  simp only [ar_0_2_1, ar_0_95_1, ar_0_102_1, ar_0_104_1, ar_0_108_1, ar_0_109_1, ar_0_105_1, ar_0_106_1, ar_0_118_1] at f13
  have fe_0_5_1 : w_fi ws (n_v vs 0) 5 = w_fi w1 (n_v vs 0) 5 := congrArg v_iv (s1.2 _ _)
  have fe_0_100_1 : w_fi ws (n_v vs 0) 100 = w_fi w1 (n_v vs 0) 100 := congrArg v_iv (s1.2 _ _)
  have fe_0_101_1 : w_fi ws (n_v vs 0) 101 = w_fi w1 (n_v vs 0) 101 := congrArg v_iv (s1.2 _ _)
  have fe_0_107_1 : w_fi ws (n_v vs 0) 107 = w_fi w1 (n_v vs 0) 107 := congrArg v_iv (s1.2 _ _)
  have hE_0_2_1 : ∀ j : Int, w_ei ws (w_ar ws (n_v vs 0) 2) j = w_ei w1 (w_ar ws (n_v vs 0) 2) j := el_kp s1.1 r7 cr_0_2 (by decide)
  have hE_0_95_1 : ∀ j : Int, w_ei ws (w_ar ws (n_v vs 0) 95) j = w_ei w1 (w_ar ws (n_v vs 0) 95) j := el_kp s1.1 r7 cr_0_95 (by decide)
  have hE_0_102_1 : ∀ j : Int, w_ei ws (w_ar ws (n_v vs 0) 102) j = w_ei w1 (w_ar ws (n_v vs 0) 102) j := el_kp s1.1 r7 cr_0_102 (by decide)
  have hE_0_104_1 : ∀ j : Int, w_ei ws (w_ar ws (n_v vs 0) 104) j = w_ei w1 (w_ar ws (n_v vs 0) 104) j := el_kp s1.1 r7 cr_0_104 (by decide)
  have hE_0_105_1 : ∀ j : Int, w_ei ws (w_ar ws (n_v vs 0) 105) j = w_ei w1 (w_ar ws (n_v vs 0) 105) j := el_kp s1.1 r7 cr_0_105 (by decide)
  have hE_0_106_1 : ∀ j : Int, w_ei ws (w_ar ws (n_v vs 0) 106) j = w_ei w1 (w_ar ws (n_v vs 0) 106) j := el_kp s1.1 r7 cr_0_106 (by decide)
  have hE_0_108_1 : ∀ j : Int, w_ei ws (w_ar ws (n_v vs 0) 108) j = w_ei w1 (w_ar ws (n_v vs 0) 108) j := el_kp s1.1 r7 cr_0_108 (by decide)
  have hE_0_109_1 : ∀ j : Int, w_ei ws (w_ar ws (n_v vs 0) 109) j = w_ei w1 (w_ar ws (n_v vs 0) 109) j := el_kp s1.1 r7 cr_0_109 (by decide)
  have hE_0_118_1 : ∀ j : Int, 0 ≤ j → (j = v_iv (n_v vs 3) → w_ei ws (w_ar ws (n_v vs 0) 118) j = v_iv (n_v vs 9)) ∧ (j ≠ v_iv (n_v vs 3) → w_ei ws (w_ar ws (n_v vs 0) 118) j = w_ei w1 (w_ar ws (n_v vs 0) 118) j) := fun j hj => ⟨fun h => by unfold w_ei; rw [s1.1, if_pos ⟨ad_7.symm, by rw [h]⟩], fun h => by unfold w_ei; rw [s1.1, if_neg (fun e => h (by have := e.2; omega))]⟩
  have kz_0_100 := fdq_162 hD hth r0
  have kz_0_101 := fdq_125 hD hth r0
  have kz_0_107 := fdq_163 hD hth r0
  have nf0 : fc_1 PRD (20, [1, 10], [60, 1, 2, 454, 101, 106, 118]) ws (vs) := by
    refine ⟨nf_in hl rfl, sgq_1333 ?_⟩
    · show KPT (w_fi ws (n_v vs 1) 101) (w_ei ws (w_ar ws (n_v vs 1) 106)) (w_ei ws (w_ar ws (n_v vs 1) 118)) (v_iv (n_v vs 10))
      rw [q1]
      exact vc_Mo_sweeps_2_0 (v_iv (n_v vs 3)) (v_iv (n_v vs 9)) (v_iv (n_v vs 10)) (w_ei ws (w_ar ws (n_v vs 0) 2)) (w_ei ws (w_ar ws (n_v vs 0) 95)) (w_ei ws (w_ar ws (n_v vs 0) 102)) (w_ei ws (w_ar ws (n_v vs 0) 104)) (w_ei ws (w_ar ws (n_v vs 0) 108)) (w_ei ws (w_ar ws (n_v vs 0) 109)) (w_fi ws (n_v vs 0) 5) (w_fi ws (n_v vs 0) 100) (w_fi ws (n_v vs 0) 101) (w_fi ws (n_v vs 0) 107) (w_ei ws (w_ar ws (n_v vs 0) 105)) (w_ei ws (w_ar ws (n_v vs 0) 106)) (w_ei w1 (w_ar ws (n_v vs 0) 106)) (w_fi w1 (n_v vs 0) 101) (w_ei w1 (w_ar ws (n_v vs 0) 2)) (w_ei w1 (w_ar ws (n_v vs 0) 95)) (w_ei w1 (w_ar ws (n_v vs 0) 102)) (w_ei w1 (w_ar ws (n_v vs 0) 104)) (w_ei w1 (w_ar ws (n_v vs 0) 108)) (w_ei w1 (w_ar ws (n_v vs 0) 109)) (w_fi w1 (n_v vs 0) 5) (w_fi w1 (n_v vs 0) 100) (w_fi w1 (n_v vs 0) 107) (w_ei w1 (w_ar ws (n_v vs 0) 105)) (w_ei w1 (w_ar ws (n_v vs 0) 118)) (w_ei ws (w_ar ws (n_v vs 0) 118)) k3 k9 k10 f0 h5 f13 fe_0_5_1 fe_0_100_1 fe_0_101_1 fe_0_107_1 hE_0_2_1 hE_0_95_1 hE_0_102_1 hE_0_104_1 hE_0_105_1 hE_0_106_1 hE_0_108_1 hE_0_109_1 hE_0_118_1 kz_0_100 kz_0_101 kz_0_107
  refine ⟨(fun _ h => (by cases h)), [], trivial, ?_, (fun _ h => (by cases h))⟩
  rw [List.append_nil]
  exact List.forall_mem_cons.mpr ⟨⟨show (20 : Nat) < 100 from by decide, nf0⟩, (fun _ h => (by cases h))⟩
set_option maxHeartbeats 4000000 in
theorem vc_Mo_sweeps_3_0 (x5 : Int) (layerItem_0 : Int → Int) (kept_0 : Int → Int) (k5 : 0 ≤ x5 ∧ x5 ≤ 0) : KPU (layerItem_0) (kept_0) (x5) := by
  first
    | (intro j a b; exfalso; omega)
def o_Mo_sweeps_3 : or_T := (175, 6, [(5, (0, 0, 0, []))], [(24, [0, 1], [])], [], [], [(20, [1, 5], [60, 0, 2, 470, 106, 118])], [], [])
theorem oo_Mo_sweeps_3 {kA : Nat → ClassId} : or_ok PRD kA GG o_Mo_sweeps_3 := by
  refine or_mk fun A ta ws vs hD hth hl => ?_
  intro t5 k5 f3
  replace f3 := shm_5 f3
  have q1 : n_v vs 1 = n_v vs 0 := f3.symm
  have nf0 : fc_1 PRD (20, [1, 5], [60, 0, 2, 470, 106, 118]) ws (vs) := by
    refine ⟨nf_in hl rfl, sgq_1336 ?_⟩
    · show KPU (w_ei ws (w_ar ws (n_v vs 1) 106)) (w_ei ws (w_ar ws (n_v vs 1) 118)) (v_iv (n_v vs 5))
      rw [q1]
      exact vc_Mo_sweeps_3_0 (v_iv (n_v vs 5)) (w_ei ws (w_ar ws (n_v vs 0) 106)) (w_ei ws (w_ar ws (n_v vs 0) 118)) k5
  refine ⟨(fun _ h => (by cases h)), [], trivial, ?_, (fun _ h => (by cases h))⟩
  rw [List.append_nil]
  exact List.forall_mem_cons.mpr ⟨⟨show (20 : Nat) < 100 from by decide, nf0⟩, (fun _ h => (by cases h))⟩
set_option maxHeartbeats 4000000 in
theorem vc_Mo_sweeps_4_0 (x8 : Int) (x10 : Int) (layerMany_0 : Int) (k8 : 0 ≤ x8 ∧ x8 ≤ 76) (k10 : (-2) ≤ x10 ∧ x10 ≤ 74) (d0 : x8 + (-2) ≤ x10 ∧ x10 ≤ x8 + (-2)) (g1 : x8 = layerMany_0) (kz_0_101 : 0 ≤ layerMany_0 ∧ layerMany_0 ≤ 76) : (x10 + 2) ≤ layerMany_0 := by
  first
    | omega
    | (have h := ‹LSA _ _ _ _ _ _ _ _ _ _›.2.1; omega)
def o_Mo_sweeps_4 : or_T := (96, 11, [(0, (2, 0, 0, [165])), (8, (0, 0, 76, [])), (10, (0, -2, 74, []))], [(9, [8, 1], [101]), (24, [0, 1], [])], [], [], [(20, [10, 1], [50, 1, 0, 1101, 0, 6, 4, 2, 1, 0, 0, 2, 2, 1, 101])], [], [(10, 8, -2, -2)])
theorem oo_Mo_sweeps_4 {kA : Nat → ClassId} : or_ok PRD kA GG o_Mo_sweeps_4 := by
  refine or_mk fun A ta ws vs hD hth hl => ?_
  intro t0 r0 t8 k8 t10 k10 d0 f1 f5
  replace f1 := shm_617 f1
  replace f5 := shm_5 f5
  have q1 : n_v vs 1 = n_v vs 0 := f5.symm
  simp only [q1] at f1
  have g1 : v_iv (n_v vs 8) = w_fi ws (n_v vs 0) 101 := congrArg v_iv f1
  have kz_0_101 := fdq_125 hD hth r0
  have nf0 : fc_1 PRD (20, [10, 1], [50, 1, 0, 1101, 0, 6, 4, 2, 1, 0, 0, 2, 2, 1, 101]) ws (vs) := by
    refine ⟨nf_in hl rfl, sgq_1337 ?_⟩
    · show (v_iv (n_v vs 10) + 2) ≤ w_fi ws (n_v vs 1) 101
      rw [q1]
      exact vc_Mo_sweeps_4_0 (v_iv (n_v vs 8)) (v_iv (n_v vs 10)) (w_fi ws (n_v vs 0) 101) k8 k10 d0 g1 kz_0_101
  refine ⟨(fun _ h => (by cases h)), [], trivial, ?_, (fun _ h => (by cases h))⟩
  rw [List.append_nil]
  exact List.forall_mem_cons.mpr ⟨⟨show (20 : Nat) < 100 from by decide, nf0⟩, (fun _ h => (by cases h))⟩
set_option maxHeartbeats 4000000 in
theorem vc_Mo_sweeps_5_0 (x8 : Int) (k8 : 1 ≤ x8 ∧ x8 ≤ 1) : 1 ≤ x8 := by
  first
    | omega
    | (have h := ‹LSA _ _ _ _ _ _ _ _ _ _›.2.1; omega)
def o_Mo_sweeps_5 : or_T := (63, 9, [(0, (2, 0, 0, [165])), (1, (2, 0, 0, [165])), (8, (0, 1, 1, []))], [(20, [1], [60, 4, 6, 445, 5, 100, 101, 107, 2, 95, 102, 104, 108, 109]), (20, [1], [60, 2, 3, 448, 100, 101, 102, 105, 106]), (20, [1], [60, 2, 3, 455, 100, 101, 102, 105, 118]), (24, [0, 1], [])], [], [], [(20, [8], [50, 0, 0, 0, 2, 0, 1, 1, 0])], [], [])
theorem oo_Mo_sweeps_5 {kA : Nat → ClassId} : or_ok PRD kA GG o_Mo_sweeps_5 := by
  refine or_mk fun A ta ws vs hD hth hl => ?_
  intro t0 r0 t1 r1 t8 k8 f0 f1 f2 f3
  have nf0 : fc_1 PRD (20, [8], [50, 0, 0, 0, 2, 0, 1, 1, 0]) ws (vs) := ⟨nf_in hl rfl, sgq_710 (vc_Mo_sweeps_5_0 (v_iv (n_v vs 8)) k8)⟩
  refine ⟨(fun _ h => (by cases h)), [], trivial, ?_, (fun _ h => (by cases h))⟩
  rw [List.append_nil]
  exact List.forall_mem_cons.mpr ⟨⟨show (20 : Nat) < 100 from by decide, nf0⟩, (fun _ h => (by cases h))⟩
set_option maxHeartbeats 4000000 in
theorem vc_Mo_sweeps_6_0 (x8 : Int) (layerMany_0 : Int) (layerItem_0 : Int → Int) (kept_0 : Int → Int) (k8 : 0 ≤ x8 ∧ x8 ≤ 0) (kz_0_101 : 0 ≤ layerMany_0 ∧ layerMany_0 ≤ 76) : KPT (layerMany_0) (layerItem_0) (kept_0) (x8) := by
  first
    | (intro j a b; exfalso; omega)
def o_Mo_sweeps_6 : or_T := (135, 9, [(0, (2, 0, 0, [165])), (8, (0, 0, 0, []))], [(24, [0, 1], [])], [], [], [(20, [1, 8], [60, 1, 2, 454, 101, 106, 118])], [], [])
theorem oo_Mo_sweeps_6 {kA : Nat → ClassId} : or_ok PRD kA GG o_Mo_sweeps_6 := by
  refine or_mk fun A ta ws vs hD hth hl => ?_
  intro t0 r0 t8 k8 f6
  replace f6 := shm_5 f6
  have q1 : n_v vs 1 = n_v vs 0 := f6.symm
  have kz_0_101 := fdq_125 hD hth r0
  have nf0 : fc_1 PRD (20, [1, 8], [60, 1, 2, 454, 101, 106, 118]) ws (vs) := by
    refine ⟨nf_in hl rfl, sgq_1333 ?_⟩
    · show KPT (w_fi ws (n_v vs 1) 101) (w_ei ws (w_ar ws (n_v vs 1) 106)) (w_ei ws (w_ar ws (n_v vs 1) 118)) (v_iv (n_v vs 8))
      rw [q1]
      exact vc_Mo_sweeps_6_0 (v_iv (n_v vs 8)) (w_fi ws (n_v vs 0) 101) (w_ei ws (w_ar ws (n_v vs 0) 106)) (w_ei ws (w_ar ws (n_v vs 0) 118)) k8 kz_0_101
  refine ⟨(fun _ h => (by cases h)), [], trivial, ?_, (fun _ h => (by cases h))⟩
  rw [List.append_nil]
  exact List.forall_mem_cons.mpr ⟨⟨show (20 : Nat) < 100 from by decide, nf0⟩, (fun _ h => (by cases h))⟩
set_option maxHeartbeats 4000000 in
theorem vc_Mo_sweeps_7_0 (x5 : Int) (x6 : Int) (layerMany_0 : Int) (k5 : 1 ≤ x5 ∧ x5 ≤ 75) (k6 : 2 ≤ x6 ∧ x6 ≤ 76) (d0 : x6 + (-4294967296) ≤ x5 ∧ x5 ≤ x6 + (-1)) (g1 : x6 = layerMany_0) (kz_0_101 : 0 ≤ layerMany_0 ∧ layerMany_0 ≤ 76) : (0 ≤ x5) ∧ ((x5 + 1) ≤ layerMany_0) := by
  first
    | omega
    | (have h := ‹LSA _ _ _ _ _ _ _ _ _ _›.2.1; omega)
def o_Mo_sweeps_7 : or_T := (76, 8, [(0, (2, 0, 0, [165])), (5, (0, 1, 75, [])), (6, (0, 2, 76, []))], [(9, [6, 1], [101]), (24, [0, 1], [])], [], [], [(20, [5, 1], [50, 1, 0, 1101, 2, 6, 0, 2, 0, 0, 1, 0, 0, 6, 4, 2, 1, 0, 0, 1, 2, 1, 101])], [], [(5, 6, -4294967296, -1)])
theorem oo_Mo_sweeps_7 {kA : Nat → ClassId} : or_ok PRD kA GG o_Mo_sweeps_7 := by
  refine or_mk fun A ta ws vs hD hth hl => ?_
  intro t0 r0 t5 k5 t6 k6 d0 f1 f6
  replace f1 := shm_617 f1
  replace f6 := shm_5 f6
  have q1 : n_v vs 1 = n_v vs 0 := f6.symm
  simp only [q1] at f1
  have g1 : v_iv (n_v vs 6) = w_fi ws (n_v vs 0) 101 := congrArg v_iv f1
  have kz_0_101 := fdq_125 hD hth r0
  have nf0 : fc_1 PRD (20, [5, 1], [50, 1, 0, 1101, 2, 6, 0, 2, 0, 0, 1, 0, 0, 6, 4, 2, 1, 0, 0, 1, 2, 1, 101]) ws (vs) := by
    refine ⟨nf_in hl rfl, sgq_721 ?_⟩
    · show (0 ≤ v_iv (n_v vs 5)) ∧ ((v_iv (n_v vs 5) + 1) ≤ w_fi ws (n_v vs 1) 101)
      rw [q1]
      exact vc_Mo_sweeps_7_0 (v_iv (n_v vs 5)) (v_iv (n_v vs 6)) (w_fi ws (n_v vs 0) 101) k5 k6 d0 g1 kz_0_101
  refine ⟨(fun _ h => (by cases h)), [], trivial, ?_, (fun _ h => (by cases h))⟩
  rw [List.append_nil]
  exact List.forall_mem_cons.mpr ⟨⟨show (20 : Nat) < 100 from by decide, nf0⟩, (fun _ h => (by cases h))⟩
set_option maxHeartbeats 4000000 in
theorem vc_Mo_sweeps_8_0 (x5 : Int) (x8 : Int) (k5 : 1 ≤ x5 ∧ x5 ≤ 75) (k8 : 2 ≤ x8 ∧ x8 ≤ 76) (d0 : x5 + 1 ≤ x8 ∧ x8 ≤ x5 + 1) : 1 ≤ x8 := by
  first
    | omega
    | (have h := ‹LSA _ _ _ _ _ _ _ _ _ _›.2.1; omega)
def o_Mo_sweeps_8 : or_T := (63, 9, [(0, (2, 0, 0, [165])), (1, (2, 0, 0, [165])), (5, (0, 1, 75, [])), (6, (0, 2, 76, [])), (8, (0, 2, 76, []))], [(6, [8, 5], [1]), (20, [5, 1], [50, 1, 0, 1101, 2, 6, 0, 2, 0, 0, 1, 0, 0, 6, 4, 2, 1, 0, 0, 1, 2, 1, 101]), (20, [1], [60, 4, 6, 445, 5, 100, 101, 107, 2, 95, 102, 104, 108, 109]), (20, [1], [60, 2, 3, 455, 100, 101, 102, 105, 118]), (20, [5], [50, 0, 0, 0, 2, 0, 1, 1, 0]), (24, [0, 1], []), (20, [1], [60, 2, 3, 448, 100, 101, 102, 105, 106]), (102, [7], [11761017486697315289871219813695237100605646559552557594736471678904323538944]), (7, [5, 6], [2])], [], [], [(20, [8], [50, 0, 0, 0, 2, 0, 1, 1, 0])], [], [(8, 5, 1, 1), (8, 6, -4294967296, 0), (5, 6, -4294967296, -1)])
theorem oo_Mo_sweeps_8 {kA : Nat → ClassId} : or_ok PRD kA GG o_Mo_sweeps_8 := by
  refine or_mk fun A ta ws vs hD hth hl => ?_
  intro t0 r0 t1 r1 t5 k5 t6 k6 t8 k8 d0 d1 d2 f0 f1 f2 f3 f4 f5 f6 ta1 w1 le1 s1 f8
  have nf0 : fc_1 PRD (20, [8], [50, 0, 0, 0, 2, 0, 1, 1, 0]) ws (vs) := ⟨nf_in hl rfl, sgq_710 (vc_Mo_sweeps_8_0 (v_iv (n_v vs 5)) (v_iv (n_v vs 8)) k5 k8 d0)⟩
  refine ⟨(fun _ h => (by cases h)), [], trivial, ?_, (fun _ h => (by cases h))⟩
  rw [List.append_nil]
  exact List.forall_mem_cons.mpr ⟨⟨show (20 : Nat) < 100 from by decide, nf0⟩, (fun _ h => (by cases h))⟩
set_option maxHeartbeats 4000000 in
theorem vc_Mo_sweeps_9_0 (x7 : Int) (layerMany_0 : Int) (layerItem_0 : Int → Int) (kept_0 : Int → Int) (k7 : 0 ≤ x7 ∧ x7 ≤ 0) (kz_0_101 : 0 ≤ layerMany_0 ∧ layerMany_0 ≤ 76) : KPT (layerMany_0) (layerItem_0) (kept_0) (x7) := by
  first
    | (intro j a b; exfalso; omega)
def o_Mo_sweeps_9 : or_T := (135, 8, [(0, (2, 0, 0, [165])), (7, (0, 0, 0, []))], [(24, [0, 1], [])], [], [], [(20, [1, 7], [60, 1, 2, 454, 101, 106, 118])], [], [])
theorem oo_Mo_sweeps_9 {kA : Nat → ClassId} : or_ok PRD kA GG o_Mo_sweeps_9 := by
  refine or_mk fun A ta ws vs hD hth hl => ?_
  intro t0 r0 t7 k7 f5
  replace f5 := shm_5 f5
  have q1 : n_v vs 1 = n_v vs 0 := f5.symm
  have kz_0_101 := fdq_125 hD hth r0
  have nf0 : fc_1 PRD (20, [1, 7], [60, 1, 2, 454, 101, 106, 118]) ws (vs) := by
    refine ⟨nf_in hl rfl, sgq_1333 ?_⟩
    · show KPT (w_fi ws (n_v vs 1) 101) (w_ei ws (w_ar ws (n_v vs 1) 106)) (w_ei ws (w_ar ws (n_v vs 1) 118)) (v_iv (n_v vs 7))
      rw [q1]
      exact vc_Mo_sweeps_9_0 (v_iv (n_v vs 7)) (w_fi ws (n_v vs 0) 101) (w_ei ws (w_ar ws (n_v vs 0) 106)) (w_ei ws (w_ar ws (n_v vs 0) 118)) k7 kz_0_101
  refine ⟨(fun _ h => (by cases h)), [], trivial, ?_, (fun _ h => (by cases h))⟩
  rw [List.append_nil]
  exact List.forall_mem_cons.mpr ⟨⟨show (20 : Nat) < 100 from by decide, nf0⟩, (fun _ h => (by cases h))⟩
set_option maxHeartbeats 4000000 in
theorem vc_Mo_sweeps_10_0 (x5 : Int) (layerMany_0 : Int) (k5 : 0 ≤ x5 ∧ x5 ≤ 74) (f4 : (x5 + 2) ≤ layerMany_0) (kz_0_101 : 0 ≤ layerMany_0 ∧ layerMany_0 ≤ 76) : (0 ≤ x5) ∧ ((x5 + 1) ≤ layerMany_0) := by
  first
    | omega
    | (have h := ‹LSA _ _ _ _ _ _ _ _ _ _›.2.1; omega)
def o_Mo_sweeps_10 : or_T := (105, 7, [(0, (2, 0, 0, [165])), (5, (0, 0, 74, []))], [(20, [5, 1], [50, 1, 0, 1101, 0, 6, 4, 2, 1, 0, 0, 2, 2, 1, 101]), (24, [0, 1], [])], [], [], [(20, [5, 1], [50, 1, 0, 1101, 2, 6, 0, 2, 0, 0, 1, 0, 0, 6, 4, 2, 1, 0, 0, 1, 2, 1, 101])], [], [])
theorem oo_Mo_sweeps_10 {kA : Nat → ClassId} : or_ok PRD kA GG o_Mo_sweeps_10 := by
  refine or_mk fun A ta ws vs hD hth hl => ?_
  intro t0 r0 t5 k5 f4 f5
  replace f4 := shm_1337 f4
  replace f5 := shm_5 f5
  have q1 : n_v vs 1 = n_v vs 0 := f5.symm
  simp only [q1] at f4
  have kz_0_101 := fdq_125 hD hth r0
  have nf0 : fc_1 PRD (20, [5, 1], [50, 1, 0, 1101, 2, 6, 0, 2, 0, 0, 1, 0, 0, 6, 4, 2, 1, 0, 0, 1, 2, 1, 101]) ws (vs) := by
    refine ⟨nf_in hl rfl, sgq_721 ?_⟩
    · show (0 ≤ v_iv (n_v vs 5)) ∧ ((v_iv (n_v vs 5) + 1) ≤ w_fi ws (n_v vs 1) 101)
      rw [q1]
      exact vc_Mo_sweeps_10_0 (v_iv (n_v vs 5)) (w_fi ws (n_v vs 0) 101) k5 f4 kz_0_101
  refine ⟨(fun _ h => (by cases h)), [], trivial, ?_, (fun _ h => (by cases h))⟩
  rw [List.append_nil]
  exact List.forall_mem_cons.mpr ⟨⟨show (20 : Nat) < 100 from by decide, nf0⟩, (fun _ h => (by cases h))⟩
set_option maxHeartbeats 4000000 in
theorem vc_Mo_sweeps_11_0 (x5 : Int) (x7 : Int) (layerMany_0 : Int) (k5 : 0 ≤ x5 ∧ x5 ≤ 74) (k7 : (-1) ≤ x7 ∧ x7 ≤ 73) (d0 : x5 + (-1) ≤ x7 ∧ x7 ≤ x5 + (-1)) (f4 : (x5 + 2) ≤ layerMany_0) (kz_0_101 : 0 ≤ layerMany_0 ∧ layerMany_0 ≤ 76) : (x7 + 2) ≤ layerMany_0 := by
  first
    | omega
    | (have h := ‹LSA _ _ _ _ _ _ _ _ _ _›.2.1; omega)
def o_Mo_sweeps_11 : or_T := (96, 8, [(0, (2, 0, 0, [165])), (5, (0, 0, 74, [])), (7, (0, -1, 73, []))], [(20, [5, 1], [50, 1, 0, 1101, 0, 6, 4, 2, 1, 0, 0, 2, 2, 1, 101]), (24, [0, 1], [])], [], [], [(20, [7, 1], [50, 1, 0, 1101, 0, 6, 4, 2, 1, 0, 0, 2, 2, 1, 101])], [], [(7, 5, -1, -1)])
theorem oo_Mo_sweeps_11 {kA : Nat → ClassId} : or_ok PRD kA GG o_Mo_sweeps_11 := by
  refine or_mk fun A ta ws vs hD hth hl => ?_
  intro t0 r0 t5 k5 t7 k7 d0 f4 f5
  replace f4 := shm_1337 f4
  replace f5 := shm_5 f5
  have q1 : n_v vs 1 = n_v vs 0 := f5.symm
  simp only [q1] at f4
  have kz_0_101 := fdq_125 hD hth r0
  have nf0 : fc_1 PRD (20, [7, 1], [50, 1, 0, 1101, 0, 6, 4, 2, 1, 0, 0, 2, 2, 1, 101]) ws (vs) := by
    refine ⟨nf_in hl rfl, sgq_1337 ?_⟩
    · show (v_iv (n_v vs 7) + 2) ≤ w_fi ws (n_v vs 1) 101
      rw [q1]
      exact vc_Mo_sweeps_11_0 (v_iv (n_v vs 5)) (v_iv (n_v vs 7)) (w_fi ws (n_v vs 0) 101) k5 k7 d0 f4 kz_0_101
  refine ⟨(fun _ h => (by cases h)), [], trivial, ?_, (fun _ h => (by cases h))⟩
  rw [List.append_nil]
  exact List.forall_mem_cons.mpr ⟨⟨show (20 : Nat) < 100 from by decide, nf0⟩, (fun _ h => (by cases h))⟩
set_option maxHeartbeats 4000000 in
theorem vc_Mo_sweeps_12_0 (x6 : Int) (x8 : Int) (x9 : Int) (layerMany_0 : Int) (itemLayer_0 : Int → Int) (items_0 : Int) (layerSize_0 : Int → Int) (layerItem_0 : Int → Int) (kept_0 : Int → Int) (k6 : 0 ≤ x6 ∧ x6 ≤ 5776) (k8 : 0 ≤ x8 ∧ x8 ≤ 76) (k9 : 0 ≤ x9 ∧ x9 ≤ 5776) (d0 : x9 + 0 ≤ x6 ∧ x6 ≤ x9 + 4294967296) (f1 : x9 = 76 * x8) (g2 : x8 = layerMany_0) (f4 : LSB (items_0) (layerMany_0) (itemLayer_0) (layerSize_0) (layerItem_0)) (f5 : KPT (layerMany_0) (layerItem_0) (kept_0) (x6)) (kz_0_100 : 0 ≤ items_0 ∧ items_0 ≤ 76) (kz_0_101 : 0 ≤ layerMany_0 ∧ layerMany_0 ≤ 76) : LSK (items_0) (layerMany_0) (itemLayer_0) (layerSize_0) (kept_0) := by
  first
    | exact lsb_copy ‹LSB _ _ _ _ _› ‹KPT _ _ _ _› (by omega)
def o_Mo_sweeps_12 : or_T := (38, 11, [(0, (2, 0, 0, [165])), (6, (0, 0, 5776, [])), (7, (0, 76, 76, [])), (8, (0, 0, 76, [])), (9, (0, 0, 5776, []))], [(3, [9, 7, 8], []), (9, [8, 1], [101]), (20, [1], [60, 2, 3, 448, 100, 101, 102, 105, 106]), (20, [1, 6], [60, 1, 2, 454, 101, 106, 118]), (24, [0, 1], [])], [], [], [(20, [1], [60, 2, 3, 455, 100, 101, 102, 105, 118])], [], [(6, 9, 0, 4294967296)])
theorem oo_Mo_sweeps_12 {kA : Nat → ClassId} : or_ok PRD kA GG o_Mo_sweeps_12 := by
  refine or_mk fun A ta ws vs hD hth hl => ?_
  intro t0 r0 t6 k6 t7 k7 t8 k8 t9 k9 d0 f1 f2 f4 f5 f6
  replace f1 := shm_38 f1
  rw [show v_iv (n_v vs 7) = 76 from by omega] at f1
  replace f2 := shm_617 f2
  replace f4 := shm_675 f4
  replace f5 := shm_1333 f5
  replace f6 := shm_5 f6
  have q1 : n_v vs 1 = n_v vs 0 := f6.symm
  simp only [q1] at f2 f4 f5
  have g2 : v_iv (n_v vs 8) = w_fi ws (n_v vs 0) 101 := congrArg v_iv f2
  have kz_0_100 := fdq_162 hD hth r0
  have kz_0_101 := fdq_125 hD hth r0
  have nf0 : fc_1 PRD (20, [1], [60, 2, 3, 455, 100, 101, 102, 105, 118]) ws (vs) := by
    refine ⟨nf_in hl rfl, sgq_1334 ?_⟩
    · show LSK (w_fi ws (n_v vs 1) 100) (w_fi ws (n_v vs 1) 101) (w_ei ws (w_ar ws (n_v vs 1) 102)) (w_ei ws (w_ar ws (n_v vs 1) 105)) (w_ei ws (w_ar ws (n_v vs 1) 118))
      rw [q1]
      exact vc_Mo_sweeps_12_0 (v_iv (n_v vs 6)) (v_iv (n_v vs 8)) (v_iv (n_v vs 9)) (w_fi ws (n_v vs 0) 101) (w_ei ws (w_ar ws (n_v vs 0) 102)) (w_fi ws (n_v vs 0) 100) (w_ei ws (w_ar ws (n_v vs 0) 105)) (w_ei ws (w_ar ws (n_v vs 0) 106)) (w_ei ws (w_ar ws (n_v vs 0) 118)) k6 k8 k9 d0 f1 g2 f4 f5 kz_0_100 kz_0_101
  refine ⟨(fun _ h => (by cases h)), [], trivial, ?_, (fun _ h => (by cases h))⟩
  rw [List.append_nil]
  exact List.forall_mem_cons.mpr ⟨⟨show (20 : Nat) < 100 from by decide, nf0⟩, (fun _ h => (by cases h))⟩
set_option maxHeartbeats 4000000 in
theorem vc_Mo_sweeps_13_0 (x6 : Int) (x12 : Int) (x13 : Int) (all_0 : Int → Int) (turned_0 : Int → Int) (itemLayer_0 : Int → Int) (firstJoint_0 : Int → Int) (lineA_0 : Int → Int) (lineB_0 : Int → Int) (r_0 : Int) (items_0 : Int) (layerMany_0 : Int) (lines_0 : Int) (layerSize_0 : Int → Int) (layerItem_0 : Int → Int) (layerItem_1 : Int → Int) (layerMany_1 : Int) (all_1 : Int → Int) (turned_1 : Int → Int) (itemLayer_1 : Int → Int) (firstJoint_1 : Int → Int) (lineA_1 : Int → Int) (lineB_1 : Int → Int) (r_1 : Int) (items_1 : Int) (lines_1 : Int) (layerSize_1 : Int → Int) (kept_1 : Int → Int) (kept_0 : Int → Int) (k6 : 0 ≤ x6 ∧ x6 ≤ 5775) (k12 : 0 ≤ x12 ∧ x12 ≤ 75) (k13 : 1 ≤ x13 ∧ x13 ≤ 5776) (f0 : x13 = x6 + 1) (h5 : x12 = layerItem_1 (x6)) (f13 : KPT (layerMany_1) (layerItem_1) (kept_1) (x6)) (fe_0_5_1 : r_0 = r_1) (fe_0_100_1 : items_0 = items_1) (fe_0_101_1 : layerMany_0 = layerMany_1) (fe_0_107_1 : lines_0 = lines_1) (hE_0_2_1 : ∀ j : Int, all_0 j = all_1 j) (hE_0_95_1 : ∀ j : Int, turned_0 j = turned_1 j) (hE_0_102_1 : ∀ j : Int, itemLayer_0 j = itemLayer_1 j) (hE_0_104_1 : ∀ j : Int, firstJoint_0 j = firstJoint_1 j) (hE_0_105_1 : ∀ j : Int, layerSize_0 j = layerSize_1 j) (hE_0_106_1 : ∀ j : Int, layerItem_0 j = layerItem_1 j) (hE_0_108_1 : ∀ j : Int, lineA_0 j = lineA_1 j) (hE_0_109_1 : ∀ j : Int, lineB_0 j = lineB_1 j) (hE_0_118_1 : ∀ j : Int, 0 ≤ j → (j = x6 → kept_0 j = x12) ∧ (j ≠ x6 → kept_0 j = kept_1 j)) (kz_0_100 : 0 ≤ items_0 ∧ items_0 ≤ 76) (kz_0_101 : 0 ≤ layerMany_0 ∧ layerMany_0 ≤ 76) (kz_0_107 : 0 ≤ lines_0 ∧ lines_0 ≤ 130) : KPT (layerMany_0) (layerItem_0) (kept_0) (x13) := by
  subst fe_0_5_1
  subst fe_0_100_1
  subst fe_0_101_1
  subst fe_0_107_1
  have e_hE_0_2_1 := funext hE_0_2_1; subst e_hE_0_2_1
  have e_hE_0_95_1 := funext hE_0_95_1; subst e_hE_0_95_1
  have e_hE_0_102_1 := funext hE_0_102_1; subst e_hE_0_102_1
  have e_hE_0_104_1 := funext hE_0_104_1; subst e_hE_0_104_1
  have e_hE_0_105_1 := funext hE_0_105_1; subst e_hE_0_105_1
  have e_hE_0_106_1 := funext hE_0_106_1; subst e_hE_0_106_1
  have e_hE_0_108_1 := funext hE_0_108_1; subst e_hE_0_108_1
  have e_hE_0_109_1 := funext hE_0_109_1; subst e_hE_0_109_1
  first
    | exact kpt_step ‹KPT _ _ _ _› (by omega) (by assumption) rfl (by assumption)
def o_Mo_sweeps_13 : or_T := (135, 14, [(0, (2, 0, 0, [165])), (6, (0, 0, 5775, [])), (10, (2, 0, 0, [250])), (12, (0, 0, 75, [])), (13, (0, 1, 5776, []))], [(6, [13, 6], [1]), (24, [0, 1], []), (100, [10, 6, 12], []), (10, [12, 11, 6], []), (9, [11, 1], [106]), (9, [10, 1], [118]), (20, [1, 6], [60, 1, 2, 454, 101, 106, 118])], [], [], [(20, [1, 13], [60, 1, 2, 454, 101, 106, 118])], [], [(13, 6, 1, 1), (6, 9, -4294967296, -1)])
theorem oo_Mo_sweeps_13 {kA : Nat → ClassId} : or_ok PRD kA GG o_Mo_sweeps_13 := by
  refine or_mk fun A ta ws vs hD hth hl => ?_
  intro t0 r0 t6 k6 t10 r10 t12 k12 t13 k13 d0 d2 f0 f3 ta1 w1 le1 s1 f5 f6 f7 f13
  replace f0 := shm_4 f0
  replace f3 := shm_5 f3
  have s1 : (∀ b j, w_el ws b j = if b = v_ad (n_v vs 10) ∧ j = (v_iv (n_v vs 6)).toNat then v_iv (n_v vs 12) else w_el w1 b j) ∧ ∀ b k, w_fd ws b k = w_fd w1 b k := s1.2
  replace f5 := shm_107 f5
  replace f6 := shm_679 f6
  replace f7 := shm_1335 f7
  replace f13 := shm_1333 f13
  have q1 : n_v vs 1 = n_v vs 0 := f3.symm
  simp only [q1] at f6 f7 f13
  have ar_0_2_1 : w_ar w1 (n_v vs 0) 2 = w_ar ws (n_v vs 0) 2 := congrArg v_ad (s1.2 _ _).symm
  have cr_0_2 := fdq_10 hD hth r0
  have ar_0_95_1 : w_ar w1 (n_v vs 0) 95 = w_ar ws (n_v vs 0) 95 := congrArg v_ad (s1.2 _ _).symm
  have cr_0_95 := fdq_130 hD hth r0
  have ar_0_102_1 : w_ar w1 (n_v vs 0) 102 = w_ar ws (n_v vs 0) 102 := congrArg v_ad (s1.2 _ _).symm
  have cr_0_102 := fdq_159 hD hth r0
  have ar_0_104_1 : w_ar w1 (n_v vs 0) 104 = w_ar ws (n_v vs 0) 104 := congrArg v_ad (s1.2 _ _).symm
  have cr_0_104 := fdq_170 hD hth r0
  have ar_0_105_1 : w_ar w1 (n_v vs 0) 105 = w_ar ws (n_v vs 0) 105 := congrArg v_ad (s1.2 _ _).symm
  have cr_0_105 := fdq_122 hD hth r0
  have ar_0_106_1 : w_ar w1 (n_v vs 0) 106 = w_ar ws (n_v vs 0) 106 := congrArg v_ad (s1.2 _ _).symm
  have cr_0_106 := fdq_123 hD hth r0
  have ar_0_108_1 : w_ar w1 (n_v vs 0) 108 = w_ar ws (n_v vs 0) 108 := congrArg v_ad (s1.2 _ _).symm
  have cr_0_108 := fdq_160 hD hth r0
  have ar_0_109_1 : w_ar w1 (n_v vs 0) 109 = w_ar ws (n_v vs 0) 109 := congrArg v_ad (s1.2 _ _).symm
  have cr_0_109 := fdq_161 hD hth r0
  have ar_0_118_1 : w_ar w1 (n_v vs 0) 118 = w_ar ws (n_v vs 0) 118 := congrArg v_ad (s1.2 _ _).symm
  have ad_11 : v_ad (n_v vs 11) = w_ar ws (n_v vs 0) 106 := (congrArg v_ad f6).trans ar_0_106_1
  have ad_10 : v_ad (n_v vs 10) = w_ar ws (n_v vs 0) 118 := (congrArg v_ad f7).trans ar_0_118_1
  simp only [ad_11] at f5
  have h5 : v_iv (n_v vs 12) = w_ei w1 (w_ar ws (n_v vs 0) 106) (v_iv (n_v vs 6)) := f5
  simp only [ar_0_2_1, ar_0_95_1, ar_0_102_1, ar_0_104_1, ar_0_108_1, ar_0_109_1, ar_0_105_1, ar_0_106_1, ar_0_118_1] at f13
  have fe_0_5_1 : w_fi ws (n_v vs 0) 5 = w_fi w1 (n_v vs 0) 5 := congrArg v_iv (s1.2 _ _)
  have fe_0_100_1 : w_fi ws (n_v vs 0) 100 = w_fi w1 (n_v vs 0) 100 := congrArg v_iv (s1.2 _ _)
  have fe_0_101_1 : w_fi ws (n_v vs 0) 101 = w_fi w1 (n_v vs 0) 101 := congrArg v_iv (s1.2 _ _)
  have fe_0_107_1 : w_fi ws (n_v vs 0) 107 = w_fi w1 (n_v vs 0) 107 := congrArg v_iv (s1.2 _ _)
  have hE_0_2_1 : ∀ j : Int, w_ei ws (w_ar ws (n_v vs 0) 2) j = w_ei w1 (w_ar ws (n_v vs 0) 2) j := el_kp s1.1 r10 cr_0_2 (by decide)
  have hE_0_95_1 : ∀ j : Int, w_ei ws (w_ar ws (n_v vs 0) 95) j = w_ei w1 (w_ar ws (n_v vs 0) 95) j := el_kp s1.1 r10 cr_0_95 (by decide)
  have hE_0_102_1 : ∀ j : Int, w_ei ws (w_ar ws (n_v vs 0) 102) j = w_ei w1 (w_ar ws (n_v vs 0) 102) j := el_kp s1.1 r10 cr_0_102 (by decide)
  have hE_0_104_1 : ∀ j : Int, w_ei ws (w_ar ws (n_v vs 0) 104) j = w_ei w1 (w_ar ws (n_v vs 0) 104) j := el_kp s1.1 r10 cr_0_104 (by decide)
  have hE_0_105_1 : ∀ j : Int, w_ei ws (w_ar ws (n_v vs 0) 105) j = w_ei w1 (w_ar ws (n_v vs 0) 105) j := el_kp s1.1 r10 cr_0_105 (by decide)
  have hE_0_106_1 : ∀ j : Int, w_ei ws (w_ar ws (n_v vs 0) 106) j = w_ei w1 (w_ar ws (n_v vs 0) 106) j := el_kp s1.1 r10 cr_0_106 (by decide)
  have hE_0_108_1 : ∀ j : Int, w_ei ws (w_ar ws (n_v vs 0) 108) j = w_ei w1 (w_ar ws (n_v vs 0) 108) j := el_kp s1.1 r10 cr_0_108 (by decide)
  have hE_0_109_1 : ∀ j : Int, w_ei ws (w_ar ws (n_v vs 0) 109) j = w_ei w1 (w_ar ws (n_v vs 0) 109) j := el_kp s1.1 r10 cr_0_109 (by decide)
  have hE_0_118_1 : ∀ j : Int, 0 ≤ j → (j = v_iv (n_v vs 6) → w_ei ws (w_ar ws (n_v vs 0) 118) j = v_iv (n_v vs 12)) ∧ (j ≠ v_iv (n_v vs 6) → w_ei ws (w_ar ws (n_v vs 0) 118) j = w_ei w1 (w_ar ws (n_v vs 0) 118) j) := fun j hj => ⟨fun h => by unfold w_ei; rw [s1.1, if_pos ⟨ad_10.symm, by rw [h]⟩], fun h => by unfold w_ei; rw [s1.1, if_neg (fun e => h (by have := e.2; omega))]⟩
  have kz_0_100 := fdq_162 hD hth r0
  have kz_0_101 := fdq_125 hD hth r0
  have kz_0_107 := fdq_163 hD hth r0
  have nf0 : fc_1 PRD (20, [1, 13], [60, 1, 2, 454, 101, 106, 118]) ws (vs) := by
    refine ⟨nf_in hl rfl, sgq_1333 ?_⟩
    · show KPT (w_fi ws (n_v vs 1) 101) (w_ei ws (w_ar ws (n_v vs 1) 106)) (w_ei ws (w_ar ws (n_v vs 1) 118)) (v_iv (n_v vs 13))
      rw [q1]
      exact vc_Mo_sweeps_13_0 (v_iv (n_v vs 6)) (v_iv (n_v vs 12)) (v_iv (n_v vs 13)) (w_ei ws (w_ar ws (n_v vs 0) 2)) (w_ei ws (w_ar ws (n_v vs 0) 95)) (w_ei ws (w_ar ws (n_v vs 0) 102)) (w_ei ws (w_ar ws (n_v vs 0) 104)) (w_ei ws (w_ar ws (n_v vs 0) 108)) (w_ei ws (w_ar ws (n_v vs 0) 109)) (w_fi ws (n_v vs 0) 5) (w_fi ws (n_v vs 0) 100) (w_fi ws (n_v vs 0) 101) (w_fi ws (n_v vs 0) 107) (w_ei ws (w_ar ws (n_v vs 0) 105)) (w_ei ws (w_ar ws (n_v vs 0) 106)) (w_ei w1 (w_ar ws (n_v vs 0) 106)) (w_fi w1 (n_v vs 0) 101) (w_ei w1 (w_ar ws (n_v vs 0) 2)) (w_ei w1 (w_ar ws (n_v vs 0) 95)) (w_ei w1 (w_ar ws (n_v vs 0) 102)) (w_ei w1 (w_ar ws (n_v vs 0) 104)) (w_ei w1 (w_ar ws (n_v vs 0) 108)) (w_ei w1 (w_ar ws (n_v vs 0) 109)) (w_fi w1 (n_v vs 0) 5) (w_fi w1 (n_v vs 0) 100) (w_fi w1 (n_v vs 0) 107) (w_ei w1 (w_ar ws (n_v vs 0) 105)) (w_ei w1 (w_ar ws (n_v vs 0) 118)) (w_ei ws (w_ar ws (n_v vs 0) 118)) k6 k12 k13 f0 h5 f13 fe_0_5_1 fe_0_100_1 fe_0_101_1 fe_0_107_1 hE_0_2_1 hE_0_95_1 hE_0_102_1 hE_0_104_1 hE_0_105_1 hE_0_106_1 hE_0_108_1 hE_0_109_1 hE_0_118_1 kz_0_100 kz_0_101 kz_0_107
  refine ⟨(fun _ h => (by cases h)), [], trivial, ?_, (fun _ h => (by cases h))⟩
  rw [List.append_nil]
  exact List.forall_mem_cons.mpr ⟨⟨show (20 : Nat) < 100 from by decide, nf0⟩, (fun _ h => (by cases h))⟩
set_option maxHeartbeats 4000000 in
theorem vc_Mo_sweeps_14_0 (x3 : Int) (x5 : Int) (x6 : Int) (layerMany_0 : Int) (itemLayer_0 : Int → Int) (items_0 : Int) (layerSize_0 : Int → Int) (kept_0 : Int → Int) (layerItem_0 : Int → Int) (k3 : 0 ≤ x3 ∧ x3 ≤ 5776) (k5 : 0 ≤ x5 ∧ x5 ≤ 76) (k6 : 0 ≤ x6 ∧ x6 ≤ 5776) (d0 : x6 + 0 ≤ x3 ∧ x3 ≤ x6 + 4294967296) (f1 : x6 = 76 * x5) (g2 : x5 = layerMany_0) (f4 : LSK (items_0) (layerMany_0) (itemLayer_0) (layerSize_0) (kept_0)) (f5 : KPU (layerItem_0) (kept_0) (x3)) (kz_0_100 : 0 ≤ items_0 ∧ items_0 ≤ 76) (kz_0_101 : 0 ≤ layerMany_0 ∧ layerMany_0 ≤ 76) : LSB (items_0) (layerMany_0) (itemLayer_0) (layerSize_0) (layerItem_0) := by
  first
    | exact lsb_copy ‹LSK _ _ _ _ _› ‹KPU _ _ _› (by omega)
def o_Mo_sweeps_14 : or_T := (205, 7, [(0, (2, 0, 0, [165])), (3, (0, 0, 5776, [])), (4, (0, 76, 76, [])), (5, (0, 0, 76, [])), (6, (0, 0, 5776, []))], [(3, [6, 4, 5], []), (9, [5, 1], [101]), (20, [1], [60, 2, 3, 455, 100, 101, 102, 105, 118]), (20, [1, 3], [60, 0, 2, 470, 106, 118]), (24, [0, 1], [])], [], [], [(20, [0], [60, 2, 3, 448, 100, 101, 102, 105, 106])], [], [(3, 6, 0, 4294967296)])
theorem oo_Mo_sweeps_14 {kA : Nat → ClassId} : or_ok PRD kA GG o_Mo_sweeps_14 := by
  refine or_mk fun A ta ws vs hD hth hl => ?_
  intro t0 r0 t3 k3 t4 k4 t5 k5 t6 k6 d0 f1 f2 f4 f5 f6
  replace f1 := shm_38 f1
  rw [show v_iv (n_v vs 4) = 76 from by omega] at f1
  replace f2 := shm_617 f2
  replace f4 := shm_1334 f4
  replace f5 := shm_1336 f5
  replace f6 := shm_5 f6
  have q1 : n_v vs 1 = n_v vs 0 := f6.symm
  simp only [q1] at f2 f4 f5
  have g2 : v_iv (n_v vs 5) = w_fi ws (n_v vs 0) 101 := congrArg v_iv f2
  have kz_0_100 := fdq_162 hD hth r0
  have kz_0_101 := fdq_125 hD hth r0
  have nf0 : fc_1 PRD (20, [0], [60, 2, 3, 448, 100, 101, 102, 105, 106]) ws (vs) := ⟨nf_in hl rfl, sgq_675 (vc_Mo_sweeps_14_0 (v_iv (n_v vs 3)) (v_iv (n_v vs 5)) (v_iv (n_v vs 6)) (w_fi ws (n_v vs 0) 101) (w_ei ws (w_ar ws (n_v vs 0) 102)) (w_fi ws (n_v vs 0) 100) (w_ei ws (w_ar ws (n_v vs 0) 105)) (w_ei ws (w_ar ws (n_v vs 0) 118)) (w_ei ws (w_ar ws (n_v vs 0) 106)) k3 k5 k6 d0 f1 g2 f4 f5 kz_0_100 kz_0_101)⟩
  refine ⟨(fun _ h => (by cases h)), [], trivial, ?_, (fun _ h => (by cases h))⟩
  rw [List.append_nil]
  exact List.forall_mem_cons.mpr ⟨⟨show (20 : Nat) < 100 from by decide, nf0⟩, (fun _ h => (by cases h))⟩
set_option maxHeartbeats 4000000 in
theorem vc_Mo_sweeps_15_0 (x3 : Int) (x9 : Int) (x10 : Int) (all_0 : Int → Int) (turned_0 : Int → Int) (itemLayer_0 : Int → Int) (firstJoint_0 : Int → Int) (lineA_0 : Int → Int) (lineB_0 : Int → Int) (r_0 : Int) (items_0 : Int) (layerMany_0 : Int) (lines_0 : Int) (layerSize_0 : Int → Int) (kept_0 : Int → Int) (kept_1 : Int → Int) (layerMany_1 : Int) (all_1 : Int → Int) (turned_1 : Int → Int) (itemLayer_1 : Int → Int) (firstJoint_1 : Int → Int) (lineA_1 : Int → Int) (lineB_1 : Int → Int) (r_1 : Int) (items_1 : Int) (lines_1 : Int) (layerSize_1 : Int → Int) (layerItem_1 : Int → Int) (layerItem_0 : Int → Int) (k3 : 0 ≤ x3 ∧ x3 ≤ 5775) (k9 : 0 ≤ x9 ∧ x9 ≤ 75) (k10 : 1 ≤ x10 ∧ x10 ≤ 5776) (f0 : x10 = x3 + 1) (h5 : x9 = kept_1 (x3)) (f13 : KPU (layerItem_1) (kept_1) (x3)) (fe_0_5_1 : r_0 = r_1) (fe_0_100_1 : items_0 = items_1) (fe_0_101_1 : layerMany_0 = layerMany_1) (fe_0_107_1 : lines_0 = lines_1) (hE_0_2_1 : ∀ j : Int, all_0 j = all_1 j) (hE_0_95_1 : ∀ j : Int, turned_0 j = turned_1 j) (hE_0_102_1 : ∀ j : Int, itemLayer_0 j = itemLayer_1 j) (hE_0_104_1 : ∀ j : Int, firstJoint_0 j = firstJoint_1 j) (hE_0_105_1 : ∀ j : Int, layerSize_0 j = layerSize_1 j) (hE_0_106_1 : ∀ j : Int, 0 ≤ j → (j = x3 → layerItem_0 j = x9) ∧ (j ≠ x3 → layerItem_0 j = layerItem_1 j)) (hE_0_108_1 : ∀ j : Int, lineA_0 j = lineA_1 j) (hE_0_109_1 : ∀ j : Int, lineB_0 j = lineB_1 j) (hE_0_118_1 : ∀ j : Int, kept_0 j = kept_1 j) (kz_0_100 : 0 ≤ items_0 ∧ items_0 ≤ 76) (kz_0_101 : 0 ≤ layerMany_0 ∧ layerMany_0 ≤ 76) (kz_0_107 : 0 ≤ lines_0 ∧ lines_0 ≤ 130) : KPU (layerItem_0) (kept_0) (x10) := by
  subst fe_0_5_1
  subst fe_0_100_1
  subst fe_0_101_1
  subst fe_0_107_1
  have e_hE_0_2_1 := funext hE_0_2_1; subst e_hE_0_2_1
  have e_hE_0_95_1 := funext hE_0_95_1; subst e_hE_0_95_1
  have e_hE_0_102_1 := funext hE_0_102_1; subst e_hE_0_102_1
  have e_hE_0_104_1 := funext hE_0_104_1; subst e_hE_0_104_1
  have e_hE_0_105_1 := funext hE_0_105_1; subst e_hE_0_105_1
  have e_hE_0_108_1 := funext hE_0_108_1; subst e_hE_0_108_1
  have e_hE_0_109_1 := funext hE_0_109_1; subst e_hE_0_109_1
  have e_hE_0_118_1 := funext hE_0_118_1; subst e_hE_0_118_1
  first
    | exact kpu_step ‹KPU _ _ _› (by omega) (by assumption) rfl (by assumption)
def o_Mo_sweeps_15 : or_T := (175, 11, [(0, (2, 0, 0, [165])), (3, (0, 0, 5775, [])), (7, (2, 0, 0, [239])), (9, (0, 0, 75, [])), (10, (0, 1, 5776, []))], [(6, [10, 3], [1]), (24, [0, 1], []), (100, [7, 3, 9], []), (10, [9, 8, 3], []), (9, [8, 1], [118]), (9, [7, 1], [106]), (20, [1, 3], [60, 0, 2, 470, 106, 118])], [], [], [(20, [1, 10], [60, 0, 2, 470, 106, 118])], [], [(10, 3, 1, 1), (3, 6, -4294967296, -1)])
theorem oo_Mo_sweeps_15 {kA : Nat → ClassId} : or_ok PRD kA GG o_Mo_sweeps_15 := by
  refine or_mk fun A ta ws vs hD hth hl => ?_
  intro t0 r0 t3 k3 t7 r7 t9 k9 t10 k10 d0 d2 f0 f3 ta1 w1 le1 s1 f5 f6 f7 f13
  replace f0 := shm_4 f0
  replace f3 := shm_5 f3
  have s1 : (∀ b j, w_el ws b j = if b = v_ad (n_v vs 7) ∧ j = (v_iv (n_v vs 3)).toNat then v_iv (n_v vs 9) else w_el w1 b j) ∧ ∀ b k, w_fd ws b k = w_fd w1 b k := s1.2
  replace f5 := shm_107 f5
  replace f6 := shm_1335 f6
  replace f7 := shm_679 f7
  replace f13 := shm_1336 f13
  have q1 : n_v vs 1 = n_v vs 0 := f3.symm
  simp only [q1] at f6 f7 f13
  have ar_0_2_1 : w_ar w1 (n_v vs 0) 2 = w_ar ws (n_v vs 0) 2 := congrArg v_ad (s1.2 _ _).symm
  have cr_0_2 := fdq_10 hD hth r0
  have ar_0_95_1 : w_ar w1 (n_v vs 0) 95 = w_ar ws (n_v vs 0) 95 := congrArg v_ad (s1.2 _ _).symm
  have cr_0_95 := fdq_130 hD hth r0
  have ar_0_102_1 : w_ar w1 (n_v vs 0) 102 = w_ar ws (n_v vs 0) 102 := congrArg v_ad (s1.2 _ _).symm
  have cr_0_102 := fdq_159 hD hth r0
  have ar_0_104_1 : w_ar w1 (n_v vs 0) 104 = w_ar ws (n_v vs 0) 104 := congrArg v_ad (s1.2 _ _).symm
  have cr_0_104 := fdq_170 hD hth r0
  have ar_0_105_1 : w_ar w1 (n_v vs 0) 105 = w_ar ws (n_v vs 0) 105 := congrArg v_ad (s1.2 _ _).symm
  have cr_0_105 := fdq_122 hD hth r0
  have ar_0_106_1 : w_ar w1 (n_v vs 0) 106 = w_ar ws (n_v vs 0) 106 := congrArg v_ad (s1.2 _ _).symm
  have ar_0_108_1 : w_ar w1 (n_v vs 0) 108 = w_ar ws (n_v vs 0) 108 := congrArg v_ad (s1.2 _ _).symm
  have cr_0_108 := fdq_160 hD hth r0
  have ar_0_109_1 : w_ar w1 (n_v vs 0) 109 = w_ar ws (n_v vs 0) 109 := congrArg v_ad (s1.2 _ _).symm
  have cr_0_109 := fdq_161 hD hth r0
  have ar_0_118_1 : w_ar w1 (n_v vs 0) 118 = w_ar ws (n_v vs 0) 118 := congrArg v_ad (s1.2 _ _).symm
  have cr_0_118 := fdq_282 hD hth r0
  have ad_8 : v_ad (n_v vs 8) = w_ar ws (n_v vs 0) 118 := (congrArg v_ad f6).trans ar_0_118_1
  have ad_7 : v_ad (n_v vs 7) = w_ar ws (n_v vs 0) 106 := (congrArg v_ad f7).trans ar_0_106_1
  simp only [ad_8] at f5
  have h5 : v_iv (n_v vs 9) = w_ei w1 (w_ar ws (n_v vs 0) 118) (v_iv (n_v vs 3)) := f5
  simp only [ar_0_2_1, ar_0_95_1, ar_0_102_1, ar_0_104_1, ar_0_108_1, ar_0_109_1, ar_0_105_1, ar_0_118_1, ar_0_106_1] at f13
  have fe_0_5_1 : w_fi ws (n_v vs 0) 5 = w_fi w1 (n_v vs 0) 5 := congrArg v_iv (s1.2 _ _)
  have fe_0_100_1 : w_fi ws (n_v vs 0) 100 = w_fi w1 (n_v vs 0) 100 := congrArg v_iv (s1.2 _ _)
  have fe_0_101_1 : w_fi ws (n_v vs 0) 101 = w_fi w1 (n_v vs 0) 101 := congrArg v_iv (s1.2 _ _)
  have fe_0_107_1 : w_fi ws (n_v vs 0) 107 = w_fi w1 (n_v vs 0) 107 := congrArg v_iv (s1.2 _ _)
  have hE_0_2_1 : ∀ j : Int, w_ei ws (w_ar ws (n_v vs 0) 2) j = w_ei w1 (w_ar ws (n_v vs 0) 2) j := el_kp s1.1 r7 cr_0_2 (by decide)
  have hE_0_95_1 : ∀ j : Int, w_ei ws (w_ar ws (n_v vs 0) 95) j = w_ei w1 (w_ar ws (n_v vs 0) 95) j := el_kp s1.1 r7 cr_0_95 (by decide)
  have hE_0_102_1 : ∀ j : Int, w_ei ws (w_ar ws (n_v vs 0) 102) j = w_ei w1 (w_ar ws (n_v vs 0) 102) j := el_kp s1.1 r7 cr_0_102 (by decide)
  have hE_0_104_1 : ∀ j : Int, w_ei ws (w_ar ws (n_v vs 0) 104) j = w_ei w1 (w_ar ws (n_v vs 0) 104) j := el_kp s1.1 r7 cr_0_104 (by decide)
  have hE_0_105_1 : ∀ j : Int, w_ei ws (w_ar ws (n_v vs 0) 105) j = w_ei w1 (w_ar ws (n_v vs 0) 105) j := el_kp s1.1 r7 cr_0_105 (by decide)
  have hE_0_106_1 : ∀ j : Int, 0 ≤ j → (j = v_iv (n_v vs 3) → w_ei ws (w_ar ws (n_v vs 0) 106) j = v_iv (n_v vs 9)) ∧ (j ≠ v_iv (n_v vs 3) → w_ei ws (w_ar ws (n_v vs 0) 106) j = w_ei w1 (w_ar ws (n_v vs 0) 106) j) := fun j hj => ⟨fun h => by unfold w_ei; rw [s1.1, if_pos ⟨ad_7.symm, by rw [h]⟩], fun h => by unfold w_ei; rw [s1.1, if_neg (fun e => h (by have := e.2; omega))]⟩
  have hE_0_108_1 : ∀ j : Int, w_ei ws (w_ar ws (n_v vs 0) 108) j = w_ei w1 (w_ar ws (n_v vs 0) 108) j := el_kp s1.1 r7 cr_0_108 (by decide)
  have hE_0_109_1 : ∀ j : Int, w_ei ws (w_ar ws (n_v vs 0) 109) j = w_ei w1 (w_ar ws (n_v vs 0) 109) j := el_kp s1.1 r7 cr_0_109 (by decide)
  have hE_0_118_1 : ∀ j : Int, w_ei ws (w_ar ws (n_v vs 0) 118) j = w_ei w1 (w_ar ws (n_v vs 0) 118) j := el_kp s1.1 r7 cr_0_118 (by decide)
  have kz_0_100 := fdq_162 hD hth r0
  have kz_0_101 := fdq_125 hD hth r0
  have kz_0_107 := fdq_163 hD hth r0
  have nf0 : fc_1 PRD (20, [1, 10], [60, 0, 2, 470, 106, 118]) ws (vs) := by
    refine ⟨nf_in hl rfl, sgq_1336 ?_⟩
    · show KPU (w_ei ws (w_ar ws (n_v vs 1) 106)) (w_ei ws (w_ar ws (n_v vs 1) 118)) (v_iv (n_v vs 10))
      rw [q1]
      exact vc_Mo_sweeps_15_0 (v_iv (n_v vs 3)) (v_iv (n_v vs 9)) (v_iv (n_v vs 10)) (w_ei ws (w_ar ws (n_v vs 0) 2)) (w_ei ws (w_ar ws (n_v vs 0) 95)) (w_ei ws (w_ar ws (n_v vs 0) 102)) (w_ei ws (w_ar ws (n_v vs 0) 104)) (w_ei ws (w_ar ws (n_v vs 0) 108)) (w_ei ws (w_ar ws (n_v vs 0) 109)) (w_fi ws (n_v vs 0) 5) (w_fi ws (n_v vs 0) 100) (w_fi ws (n_v vs 0) 101) (w_fi ws (n_v vs 0) 107) (w_ei ws (w_ar ws (n_v vs 0) 105)) (w_ei ws (w_ar ws (n_v vs 0) 118)) (w_ei w1 (w_ar ws (n_v vs 0) 118)) (w_fi w1 (n_v vs 0) 101) (w_ei w1 (w_ar ws (n_v vs 0) 2)) (w_ei w1 (w_ar ws (n_v vs 0) 95)) (w_ei w1 (w_ar ws (n_v vs 0) 102)) (w_ei w1 (w_ar ws (n_v vs 0) 104)) (w_ei w1 (w_ar ws (n_v vs 0) 108)) (w_ei w1 (w_ar ws (n_v vs 0) 109)) (w_fi w1 (n_v vs 0) 5) (w_fi w1 (n_v vs 0) 100) (w_fi w1 (n_v vs 0) 107) (w_ei w1 (w_ar ws (n_v vs 0) 105)) (w_ei w1 (w_ar ws (n_v vs 0) 106)) (w_ei ws (w_ar ws (n_v vs 0) 106)) k3 k9 k10 f0 h5 f13 fe_0_5_1 fe_0_100_1 fe_0_101_1 fe_0_107_1 hE_0_2_1 hE_0_95_1 hE_0_102_1 hE_0_104_1 hE_0_105_1 hE_0_106_1 hE_0_108_1 hE_0_109_1 hE_0_118_1 kz_0_100 kz_0_101 kz_0_107
  refine ⟨(fun _ h => (by cases h)), [], trivial, ?_, (fun _ h => (by cases h))⟩
  rw [List.append_nil]
  exact List.forall_mem_cons.mpr ⟨⟨show (20 : Nat) < 100 from by decide, nf0⟩, (fun _ h => (by cases h))⟩
def n_Mo_sweeps_an : List an_T := [(7, [(0, (2, 0, 0, [165])), (1, (0, (Int.negSucc 2147483647), 2147483647, [])), (2, (0, 0, 5776, []))], [], (0, 0), [(0, 0, 99993), (1, 3, 5776), (0, 0, 100000), (0, 0, 0), (0, 0, 0)], [], [], [(2, 0, 0, [165])], 0, [], [(20, [1], [60, 4, 6, 445, 5, 100, 101, 107, 2, 95, 102, 104, 108, 109]), (20, [1], [60, 2, 3, 448, 100, 101, 102, 105, 106]), (20, [1, 3], [60, 1, 2, 454, 101, 106, 118]), (24, [0, 1], [])]), (38, [(0, (2, 0, 0, [165])), (1, (0, (Int.negSucc 2147483647), 2147483647, [])), (2, (0, 0, 10, []))], [], (0, 0), [(0, 0, 99962), (1, 3, 10), (0, 0, 100000), (0, 0, 0), (0, 0, 0)], [], [], [(2, 0, 0, [165])], 0, [], [(20, [1], [60, 4, 6, 445, 5, 100, 101, 107, 2, 95, 102, 104, 108, 109]), (20, [1], [60, 2, 3, 448, 100, 101, 102, 105, 106]), (20, [1], [60, 2, 3, 455, 100, 101, 102, 105, 118]), (24, [0, 1], [])]), (63, [(0, (2, 0, 0, [165])), (1, (0, (Int.negSucc 2147483647), 2147483647, [])), (2, (0, 0, 9, [])), (3, (0, 1, 1, [])), (4, (0, 1, 76, []))], [], (0, 0), [(0, 0, 99962), (1, 3, 10), (0, 0, 99937), (1, 5, 76), (0, 0, 100000)], [], [], [(2, 0, 0, [165])], 0, [], [(20, [1], [60, 4, 6, 445, 5, 100, 101, 107, 2, 95, 102, 104, 108, 109]), (20, [1], [60, 2, 3, 448, 100, 101, 102, 105, 106]), (20, [1], [60, 2, 3, 455, 100, 101, 102, 105, 118]), (20, [5], [50, 0, 0, 0, 2, 0, 1, 1, 0]), (24, [0, 1], [])]), (96, [(0, (2, 0, 0, [165])), (1, (0, (Int.negSucc 2147483647), 2147483647, [])), (2, (0, 0, 9, [])), (3, (0, 0, 0, [])), (4, (0, (Int.negSucc 1), 74, []))], [], (0, 0), [(0, 0, 99962), (1, 3, 10), (0, 0, 99904), (2, 5, (Int.negSucc 1)), (0, 0, 100000)], [], [], [(2, 0, 0, [165])], 0, [], [(20, [1], [60, 4, 6, 445, 5, 100, 101, 107, 2, 95, 102, 104, 108, 109]), (20, [1], [60, 2, 3, 448, 100, 101, 102, 105, 106]), (20, [1], [60, 2, 3, 455, 100, 101, 102, 105, 118]), (20, [5, 1], [50, 1, 0, 1101, 0, 6, 4, 2, 1, 0, 0, 2, 2, 1, 101]), (24, [0, 1], [])]), (135, [(0, (2, 0, 0, [165])), (1, (0, (Int.negSucc 2147483647), 2147483646, [])), (2, (0, 0, 9, [])), (3, (0, 0, 1, [])), (4, (0, (Int.negSucc 2147483647), 2147483646, [])), (5, (0, 0, 5776, []))], [], (0, 0), [(0, 0, 99962), (1, 3, 10), (0, 0, 99865), (1, 6, 5776), (0, 0, 100000)], [(2, 5, (Int.negSucc 999999999999), 0), (5, 2, (Int.negSucc 999999999999), 0)], [], [(2, 0, 0, [165])], 0, [], [(20, [1], [60, 4, 6, 445, 5, 100, 101, 107, 2, 95, 102, 104, 108, 109]), (20, [1], [60, 2, 3, 448, 100, 101, 102, 105, 106]), (20, [1, 6], [60, 1, 2, 454, 101, 106, 118]), (24, [0, 1], [])]), (175, [(0, (2, 0, 0, [165])), (1, (0, (Int.negSucc 2147483647), 2147483647, [])), (2, (0, 0, 5776, []))], [], (0, 0), [(0, 0, 99825), (1, 3, 5776), (0, 0, 100000), (0, 0, 0), (0, 0, 0)], [], [], [(2, 0, 0, [165])], 0, [], [(20, [1], [60, 4, 6, 445, 5, 100, 101, 107, 2, 95, 102, 104, 108, 109]), (20, [1], [60, 2, 3, 455, 100, 101, 102, 105, 118]), (20, [1, 3], [60, 0, 2, 470, 106, 118]), (24, [0, 1], [])])]
def t_Mo_sweeps_ct : ct_L := [(1, 870, e_Mo_crossings), (1, 873, e_Mo_byMeans)]
set_option maxRecDepth 100000 in
theorem c_Mo_sweeps {l : Launch} {D : va_G} {kA : Nat → ClassId} (h_Mo_byMeans : ct_ok PRD l D kA GG y_Mo_byMeans z_Mo_byMeans e_Mo_byMeans) (h_Mo_crossings : ct_ok PRD l D kA GG y_Mo_crossings z_Mo_crossings e_Mo_crossings) : ct_ok PRD l D kA GG y_Mo_sweeps z_Mo_sweeps e_Mo_sweeps := chk_all_ok (FT := [(234, 13, 106), (268, 13, 118), (852, 13, 101)]) (PT := []) (CT := t_Mo_sweeps_ct) (KT := []) (NT := []) (AN := n_Mo_sweeps_an) (OT := [o_Mo_sweeps_0, o_Mo_sweeps_1, o_Mo_sweeps_2, o_Mo_sweeps_3, o_Mo_sweeps_4, o_Mo_sweeps_5, o_Mo_sweeps_6, o_Mo_sweeps_7, o_Mo_sweeps_8, o_Mo_sweeps_9, o_Mo_sweeps_10, o_Mo_sweeps_11, o_Mo_sweeps_12, o_Mo_sweeps_13, o_Mo_sweeps_14, o_Mo_sweeps_15]) 5 516 (List.forall_mem_cons.mpr ⟨oo_Mo_sweeps_0, List.forall_mem_cons.mpr ⟨oo_Mo_sweeps_1, List.forall_mem_cons.mpr ⟨oo_Mo_sweeps_2, List.forall_mem_cons.mpr ⟨oo_Mo_sweeps_3, List.forall_mem_cons.mpr ⟨oo_Mo_sweeps_4, List.forall_mem_cons.mpr ⟨oo_Mo_sweeps_5, List.forall_mem_cons.mpr ⟨oo_Mo_sweeps_6, List.forall_mem_cons.mpr ⟨oo_Mo_sweeps_7, List.forall_mem_cons.mpr ⟨oo_Mo_sweeps_8, List.forall_mem_cons.mpr ⟨oo_Mo_sweeps_9, List.forall_mem_cons.mpr ⟨oo_Mo_sweeps_10, List.forall_mem_cons.mpr ⟨oo_Mo_sweeps_11, List.forall_mem_cons.mpr ⟨oo_Mo_sweeps_12, List.forall_mem_cons.mpr ⟨oo_Mo_sweeps_13, List.forall_mem_cons.mpr ⟨oo_Mo_sweeps_14, List.forall_mem_cons.mpr ⟨oo_Mo_sweeps_15, List.forall_mem_nil _⟩⟩⟩⟩⟩⟩⟩⟩⟩⟩⟩⟩⟩⟩⟩⟩) (by decide +kernel) ⟨List.forall_mem_cons.mpr ⟨gf_Mo_234, List.forall_mem_cons.mpr ⟨gf_Mo_268, List.forall_mem_cons.mpr ⟨gf_Mo_852, List.forall_mem_nil _⟩⟩⟩, List.forall_mem_nil _, List.forall_mem_cons.mpr ⟨cl_virtual (y := y_Mo_crossings) (ci := 13) rfl rfl ⟨_, _, rfl⟩ (by decide +kernel) h_Mo_crossings wm_3462 wm_9 wm_3459 wm_3461 wv_19_1 ⟨by decide, by decide, by decide +kernel⟩ (by decide), List.forall_mem_cons.mpr ⟨cl_virtual (y := y_Mo_byMeans) (ci := 13) rfl rfl ⟨_, _, rfl⟩ (by decide +kernel) h_Mo_byMeans wm_3466 wm_9 wm_3463 wm_3465 wv_19_2 ⟨by decide, by decide, by decide +kernel⟩ (by decide), List.forall_mem_nil _⟩⟩, List.forall_mem_nil _, List.forall_mem_nil _, GG_pl⟩ (by decide +kernel)
set_option maxHeartbeats 4000000 in
theorem vc_Mo_writeNode_0_0 (texts_0 : Int) (gx : Int) (kz_0_170 : 0 ≤ texts_0 ∧ texts_0 ≤ 100000000) (ex2 : gx = texts_0) : 1 * texts_0 + ((-1) * gx + 0) ≤ 0 := by
  first | assumption | omega | grind
set_option maxHeartbeats 4000000 in
theorem vc_Mo_writeNode_0_1 (x2 : Int) (texts_0 : Int) (gx : Int) (k2 : 0 ≤ x2 ∧ x2 ≤ 99999992) (f2 : 1 * texts_0 + ((-1) * x2 + 0) ≤ 0) (kz_0_170 : 0 ≤ texts_0 ∧ texts_0 ≤ 100000000) (ex2 : gx = texts_0) : 1 * gx + ((-1) * x2 + 0) ≤ 0 := by
  first | assumption | omega | grind
def o_Mo_writeNode_0 : or_T := (17, 10, [(0, (2, 0, 0, [165])), (1, (0, 0, 23, [])), (2, (0, 0, 99999992, [])), (3, (0, 0, 66297, [])), (9, (0, 0, 8, []))], [(20, [9, 0, 1], [50, 1, 1, 1005, 1002, 1, 2, 1, 0, 3, 1, 2, 4, 3, 2, 1, 5, 4, 2, 0, 195, 1, 2]), (9, [3, 0], [5]), (20, [0, 2], [30, 0, 1, 1, 170, -1, 0, 0])], [], [(0, 0, 99999992, [])], [(20, [0, 10], [30, 0, 1, 1, 170, -1, 0, 0]), (23, [10, 2], [0, 1, -1])], [], [])
theorem oo_Mo_writeNode_0 {kA : Nat → ClassId} : or_ok PRD kA GG o_Mo_writeNode_0 := by
  refine or_mk fun A ta ws vs hD hth hl => ?_
  intro t0 r0 t1 k1 t2 k2 t3 k3 t9 k9 f0 f1 f2
  replace f0 := shm_636 f0
  replace f1 := shm_110 f1
  replace f2 := shm_131 f2
  have cr_0_2 := fdq_10 hD hth r0
  have g1 : v_iv (n_v vs 3) = w_fi ws (n_v vs 0) 5 := congrArg v_iv f1
  have kz_0_170 := fdq_11 hD hth r0
  have kv0 := fdq_11 hD hth r0
  obtain ⟨x, ex, hx⟩ := iv_ex (ta := ta) (lo := 0) (hi := 99999992) (z := w_fi ws (n_v vs 0) 170) (by omega) (by omega) (by omega) (by omega)
  have ex2 : v_iv (Value.int x) = w_fi ws (n_v vs 0) 170 := ex
  have ex3 : 0 ≤ v_iv (Value.int x) ∧ v_iv (Value.int x) ≤ 99999992 := tv_rng hx
  have e_0 : n_v (vs ++ [Value.int x]) 0 = n_v vs 0 := n_v_old (by rw [hl]; decide)
  have e_2 : n_v (vs ++ [Value.int x]) 2 = n_v vs 2 := n_v_old (by rw [hl]; decide)
  have e_10 : n_v (vs ++ [Value.int x]) 10 = Value.int x := n_v_new hl
  have nf0 : fc_1 PRD (20, [0, 10], [30, 0, 1, 1, 170, -1, 0, 0]) ws (vs ++ [Value.int x]) := by
    refine ⟨nf_inA hl rfl, sgq_131 ?_⟩
    · show 1 * w_fi ws (n_v (vs ++ [Value.int x]) 0) 170 + ((-1) * v_iv (n_v (vs ++ [Value.int x]) 10) + 0) ≤ 0
      simp only [e_0, e_10]
      exact vc_Mo_writeNode_0_0 (w_fi ws (n_v vs 0) 170) (v_iv (Value.int x)) kz_0_170 ex2
  have nf1 : fc_1 PRD (23, [10, 2], [0, 1, -1]) ws (vs ++ [Value.int x]) := by
    refine ⟨nf_inA hl rfl, sgq_7 ?_⟩
    · show 1 * v_iv (n_v (vs ++ [Value.int x]) 10) + ((-1) * v_iv (n_v (vs ++ [Value.int x]) 2) + 0) ≤ 0
      simp only [e_2, e_10]
      exact vc_Mo_writeNode_0_1 (v_iv (n_v vs 2)) (w_fi ws (n_v vs 0) 170) (v_iv (Value.int x)) k2 f2 kz_0_170 ex2
  exact ⟨(fun _ h => (by cases h)), [Value.int x], ag_one hx, List.forall_mem_cons.mpr ⟨⟨show (20 : Nat) < 100 from by decide, nf0⟩, List.forall_mem_cons.mpr ⟨⟨show (23 : Nat) < 100 from by decide, nf1⟩, (fun _ h => (by cases h))⟩⟩, (fun _ h => (by cases h))⟩
set_option maxHeartbeats 4000000 in
theorem vc_Mo_writeNode_1_0 (x2 : Int) (x10 : Int) (texts_0 : Int) (k2 : 0 ≤ x2 ∧ x2 ≤ 99999992) (k10 : 0 ≤ x10 ∧ x10 ≤ 99999992) (f0 : 1 * x10 + ((-1) * x2 + 0) ≤ 0) (f2 : 1 * texts_0 + ((-1) * x10 + 0) ≤ 8) (kz_0_170 : 0 ≤ texts_0 ∧ texts_0 ≤ 100000000) : 1 * texts_0 + ((-1) * x2 + 0) ≤ 8 := by
  first | assumption | omega | grind
def o_Mo_writeNode_1 : or_T := (20, 11, [(0, (2, 0, 0, [165])), (2, (0, 0, 99999992, [])), (10, (0, 0, 99999992, []))], [(23, [10, 2], [0, 1, -1]), (20, [0, 10], [30, 8, 1, 1, 170, -1, 0, 0])], [], [], [(20, [0, 2], [30, 8, 1, 1, 170, -1, 0, 0])], [], [])
theorem oo_Mo_writeNode_1 {kA : Nat → ClassId} : or_ok PRD kA GG o_Mo_writeNode_1 := by
  refine or_mk fun A ta ws vs hD hth hl => ?_
  intro t0 r0 t2 k2 t10 k10 f0 f2
  have kz_0_170 := fdq_11 hD hth r0
  have nf0 : fc_1 PRD (20, [0, 2], [30, 8, 1, 1, 170, -1, 0, 0]) ws (vs) := ⟨nf_in hl rfl, sgq_160 (vc_Mo_writeNode_1_0 (v_iv (n_v vs 2)) (v_iv (n_v vs 10)) (w_fi ws (n_v vs 0) 170) k2 k10 (shm_7 f0) (shm_160 f2) kz_0_170)⟩
  refine ⟨(fun _ h => (by cases h)), [], trivial, ?_, (fun _ h => (by cases h))⟩
  rw [List.append_nil]
  exact List.forall_mem_cons.mpr ⟨⟨show (20 : Nat) < 100 from by decide, nf0⟩, (fun _ h => (by cases h))⟩
def n_Mo_writeNode_an : List an_T := []
def t_Mo_writeNode_ct : ct_L := [(1, 478, e_Mo_longOf), (1, 1285, e_Mo_writeName)]
set_option maxRecDepth 100000 in
theorem c_Mo_writeNode {l : Launch} {D : va_G} {kA : Nat → ClassId} (h_Mo_longOf : ct_ok PRD l D kA GG y_Mo_longOf z_Mo_longOf e_Mo_longOf) (h_Mo_writeName : ct_ok PRD l D kA GG y_Mo_writeName z_Mo_writeName e_Mo_writeName) : ct_ok PRD l D kA GG y_Mo_writeNode z_Mo_writeNode e_Mo_writeNode := chk_all_ok (FT := [(391, 13, 5)]) (PT := []) (CT := t_Mo_writeNode_ct) (KT := []) (NT := []) (AN := n_Mo_writeNode_an) (OT := [o_Mo_writeNode_0, o_Mo_writeNode_1]) 0 200 (List.forall_mem_cons.mpr ⟨oo_Mo_writeNode_0, List.forall_mem_cons.mpr ⟨oo_Mo_writeNode_1, List.forall_mem_nil _⟩⟩) (by decide +kernel) ⟨List.forall_mem_cons.mpr ⟨gf_Mo_391, List.forall_mem_nil _⟩, List.forall_mem_nil _, List.forall_mem_cons.mpr ⟨cl_virtual (y := y_Mo_longOf) (ci := 13) rfl rfl ⟨_, _, rfl⟩ (by decide +kernel) h_Mo_longOf wm_3029 wm_9 wm_3026 wm_3028 wv_13_4 ⟨by decide, by decide, by decide +kernel⟩ (by decide), List.forall_mem_cons.mpr ⟨cl_virtual (y := y_Mo_writeName) (ci := 13) rfl rfl ⟨_, _, rfl⟩ (by decide +kernel) h_Mo_writeName wm_3922 wm_9 wm_3919 wm_3921 wv_24_10 ⟨by decide, by decide, by decide +kernel⟩ (by decide), List.forall_mem_nil _⟩⟩, List.forall_mem_nil _, List.forall_mem_nil _, GG_pl⟩ (by decide +kernel)

set_option maxHeartbeats 4000000 in
theorem vc_Em_pickPiece_at_gn_0_0 (x3 : Int) (blockNodes_0 : Int) (nodes_0o2 : Int) (drawnNodes_0 : Int) (pieceNodes_0 : Int) (pieceEnds_0 : Int) (k3 : 1000000 ≤ x3 ∧ x3 ≤ 1000000) (kz_0_6 : 0 ≤ drawnNodes_0 ∧ drawnNodes_0 ≤ 33554431) (kz_0_16 : 0 ≤ pieceNodes_0 ∧ pieceNodes_0 ≤ 33554431) (kz_0_17 : 0 ≤ pieceEnds_0 ∧ pieceEnds_0 ≤ 33554431) (kz_2_5 : 0 ≤ nodes_0o2 ∧ nodes_0o2 ≤ 24) : PKI (pieceNodes_0) (pieceEnds_0) (drawnNodes_0) (nodes_0o2) (x3) := by
  first
    | assumption
    | exact Or.inl (by omega)
def o_Em_pickPiece_at_gn_0 : or_T := (8, 6, [(0, (2, 0, 0, [1])), (2, (2, 0, 0, [5])), (3, (0, 1000000, 1000000, []))], [], [], [], [(20, [0, 2, 3], [60, 4, 0, 611, 16, 17, 6, 1005]), (24, [2, 2], []), (24, [0, 0], []), (24, [1, 1], [])], [], [])
theorem oo_Em_pickPiece_at_gn_0 {kA : Nat → ClassId} : or_ok PRD kA GG o_Em_pickPiece_at_gn_0 := by
  refine or_mk fun A ta ws vs hD hth hl => ?_
  intro t0 r0 t2 r2 t3 k3
  have kz_0_6 := fdq_53 hD hth r0
  have kz_0_16 := fdq_284 hD hth r0
  have kz_0_17 := fdq_285 hD hth r0
  have kz_2_5 := fdq_82 hD hth r2
  have nf0 : fc_1 PRD (20, [0, 2, 3], [60, 4, 0, 611, 16, 17, 6, 1005]) ws (vs) := ⟨nf_in hl rfl, sgq_1342 (vc_Em_pickPiece_at_gn_0_0 (v_iv (n_v vs 3)) (w_fi ws (n_v vs 0) 5) (w_fi ws (n_v vs 2) 5) (w_fi ws (n_v vs 0) 6) (w_fi ws (n_v vs 0) 16) (w_fi ws (n_v vs 0) 17) k3 kz_0_6 kz_0_16 kz_0_17 kz_2_5)⟩
  have nf1 : fc_1 PRD (24, [2, 2], []) ws (vs) := by
    refine ⟨nf_in hl rfl, sgq_1 ?_⟩
    · show n_v vs 2 = n_v vs 2
      first | rfl | simp only [true_and]
  have nf2 : fc_1 PRD (24, [0, 0], []) ws (vs) := by
    refine ⟨nf_in hl rfl, sgq_1 ?_⟩
    · show n_v vs 0 = n_v vs 0
      first | rfl | simp only [true_and]
  have nf3 : fc_1 PRD (24, [1, 1], []) ws (vs) := by
    refine ⟨nf_in hl rfl, sgq_1 ?_⟩
    · show n_v vs 1 = n_v vs 1
      first | rfl | simp only [true_and]
  refine ⟨(fun _ h => (by cases h)), [], trivial, ?_, (fun _ h => (by cases h))⟩
  rw [List.append_nil]
  exact List.forall_mem_cons.mpr ⟨⟨show (20 : Nat) < 100 from by decide, nf0⟩, List.forall_mem_cons.mpr ⟨⟨show (24 : Nat) < 100 from by decide, nf1⟩, List.forall_mem_cons.mpr ⟨⟨show (24 : Nat) < 100 from by decide, nf2⟩, List.forall_mem_cons.mpr ⟨⟨show (24 : Nat) < 100 from by decide, nf3⟩, (fun _ h => (by cases h))⟩⟩⟩⟩
set_option maxHeartbeats 4000000 in
theorem vc_Em_pickPiece_at_gn_1_0 (x14 : Int) (cycles_0 : Int) (pieceNodes_0 : Int) (pieceEnds_0 : Int) (drawnNodes_0 : Int) (nodes_0o2 : Int) (block_0 : Int → Int) (tail_0o2 : Int → Int) (head_0o2 : Int → Int) (blockNodes_0 : Int) (edges_0o2 : Int) (near_0o2 : Int → Int) (cycles_1 : Int) (pieceEnds_1 : Int) (edges_1o2 : Int) (pieceNodes_1 : Int) (drawnNodes_1 : Int) (nodes_1o2 : Int) (block_1 : Int → Int) (tail_1o2 : Int → Int) (head_1o2 : Int → Int) (blockNodes_1 : Int) (near_1o2 : Int → Int) (k14 : 0 ≤ x14 ∧ x14 ≤ 0) (fe_0_5_1 : blockNodes_0 = blockNodes_1) (fe_0_6_1 : drawnNodes_0 = drawnNodes_1) (fe_0_7_1 : cycles_0 = cycles_1) (fe_0_16_1 : pieceNodes_0 = pieceNodes_1) (fe_0_17_1 : pieceEnds_0 = pieceEnds_1) (fe_2_5_1 : nodes_0o2 = nodes_1o2) (fe_2_6_1 : edges_0o2 = edges_1o2) (hE_0_2_1 : ∀ j : Int, block_0 j = block_1 j) (hE_2_7_1 : ∀ j : Int, tail_0o2 j = tail_1o2 j) (hE_2_8_1 : ∀ j : Int, head_0o2 j = head_1o2 j) (hE_2_9_1 : ∀ j : Int, near_0o2 j = near_1o2 j) (kz_0_5 : 0 ≤ blockNodes_0 ∧ blockNodes_0 ≤ 33554431) (kz_0_6 : 0 ≤ drawnNodes_0 ∧ drawnNodes_0 ≤ 33554431) (kz_0_7 : 0 ≤ cycles_0 ∧ cycles_0 ≤ 50) (kz_0_16 : 0 ≤ pieceNodes_0 ∧ pieceNodes_0 ≤ 33554431) (kz_0_17 : 0 ≤ pieceEnds_0 ∧ pieceEnds_0 ≤ 33554431) (kz_2_5 : 0 ≤ nodes_0o2 ∧ nodes_0o2 ≤ 24) (kz_2_6 : 0 ≤ edges_0o2 ∧ edges_0o2 ≤ 72) : PKA (pieceNodes_0) (pieceEnds_0) (drawnNodes_0) (nodes_0o2) (x14) := by
  subst fe_0_5_1
  subst fe_0_6_1
  subst fe_0_7_1
  subst fe_0_16_1
  subst fe_0_17_1
  subst fe_2_5_1
  subst fe_2_6_1
  have e_hE_0_2_1 := funext hE_0_2_1; subst e_hE_0_2_1
  have e_hE_2_7_1 := funext hE_2_7_1; subst e_hE_2_7_1
  have e_hE_2_8_1 := funext hE_2_8_1; subst e_hE_2_8_1
  have e_hE_2_9_1 := funext hE_2_9_1; subst e_hE_2_9_1
  first
    | exact Or.inl (by omega)
    | (rcases (‹PKI _ _ _ _ _›) with q | ⟨_, q⟩
       · omega
       · exact Or.inr q)
set_option maxHeartbeats 4000000 in
theorem vc_Em_pickPiece_at_gn_1_1 (x14 : Int) (cycles_0 : Int) (pieceNodes_0 : Int) (pieceEnds_0 : Int) (drawnNodes_0 : Int) (nodes_0o2 : Int) (block_0 : Int → Int) (tail_0o2 : Int → Int) (head_0o2 : Int → Int) (blockNodes_0 : Int) (edges_0o2 : Int) (near_0o2 : Int → Int) (cycles_1 : Int) (pieceEnds_1 : Int) (edges_1o2 : Int) (pieceNodes_1 : Int) (drawnNodes_1 : Int) (nodes_1o2 : Int) (block_1 : Int → Int) (tail_1o2 : Int → Int) (head_1o2 : Int → Int) (blockNodes_1 : Int) (near_1o2 : Int → Int) (pieceCycle_0 : Int) (k14 : 0 ≤ x14 ∧ x14 ≤ 0) (fe_0_5_1 : blockNodes_0 = blockNodes_1) (fe_0_6_1 : drawnNodes_0 = drawnNodes_1) (fe_0_7_1 : cycles_0 = cycles_1) (fe_0_16_1 : pieceNodes_0 = pieceNodes_1) (fe_0_17_1 : pieceEnds_0 = pieceEnds_1) (fe_2_5_1 : nodes_0o2 = nodes_1o2) (fe_2_6_1 : edges_0o2 = edges_1o2) (hE_0_2_1 : ∀ j : Int, block_0 j = block_1 j) (hE_2_7_1 : ∀ j : Int, tail_0o2 j = tail_1o2 j) (hE_2_8_1 : ∀ j : Int, head_0o2 j = head_1o2 j) (hE_2_9_1 : ∀ j : Int, near_0o2 j = near_1o2 j) (kz_0_5 : 0 ≤ blockNodes_0 ∧ blockNodes_0 ≤ 33554431) (kz_0_6 : 0 ≤ drawnNodes_0 ∧ drawnNodes_0 ≤ 33554431) (kz_0_7 : 0 ≤ cycles_0 ∧ cycles_0 ≤ 50) (kz_0_16 : 0 ≤ pieceNodes_0 ∧ pieceNodes_0 ≤ 33554431) (kz_0_17 : 0 ≤ pieceEnds_0 ∧ pieceEnds_0 ≤ 33554431) (kz_0_18 : 0 ≤ pieceCycle_0 ∧ pieceCycle_0 ≤ 49) (kz_2_5 : 0 ≤ nodes_0o2 ∧ nodes_0o2 ≤ 24) (kz_2_6 : 0 ≤ edges_0o2 ∧ edges_0o2 ≤ 72) : (x14 = 0) ∨ ((pieceCycle_0 + 1) ≤ cycles_0) := by
  subst fe_0_5_1
  subst fe_0_6_1
  subst fe_0_7_1
  subst fe_0_16_1
  subst fe_0_17_1
  subst fe_2_5_1
  subst fe_2_6_1
  have e_hE_0_2_1 := funext hE_0_2_1; subst e_hE_0_2_1
  have e_hE_2_7_1 := funext hE_2_7_1; subst e_hE_2_7_1
  have e_hE_2_8_1 := funext hE_2_8_1; subst e_hE_2_8_1
  have e_hE_2_9_1 := funext hE_2_9_1; subst e_hE_2_9_1
  first
    | omega
  
def o_Em_pickPiece_at_gn_1 : or_T := (235, 15, [(0, (2, 0, 0, [1])), (1, (0, 0, 71, [])), (2, (2, 0, 0, [5])), (3, (2, 0, 0, [1])), (4, (0, 0, 71, [])), (5, (0, 1000000, 1000000, [])), (7, (0, 0, 72, [])), (9, (0, 0, 33554431, [])), (10, (2, 0, 0, [5])), (11, (0, 0, 72, [])), (12, (0, 0, 49, [])), (13, (0, 1000000, 1000000, [])), (14, (0, 0, 0, []))], [(7, [5, 13], [3]), (20, [12, 3], [50, 1, 0, 1007, 3, 6, 1, 2, 1, 0, 0, 0, 0, 6, 4, 2, 1, 0, 0, 1, 2, 1, 7]), (20, [3, 10, 5], [60, 4, 0, 611, 16, 17, 6, 1005]), (24, [2, 10], []), (20, [3, 10, 4], [60, 3, 3, 600, 5, 1005, 1006, 2, 1007, 1008]), (20, [10], [60, 2, 3, 595, 5, 6, 7, 8, 9]), (20, [3, 10], [60, 1, 3, 599, 1006, 2, 1007, 1008]), (20, [3], [60, 2, 0, 602, 6, 5]), (20, [3], [50, 1, 0, 7, 0, 2, 0, 1, 2, 0, 7]), (24, [0, 3], []), (24, [1, 4], []), (101, [3, 12], [18]), (20, [12, 3], [50, 1, 0, 1007, 3, 6, 1, 2, 1, 0, 0, 0, 0, 6, 4, 2, 1, 0, 0, 1, 2, 1, 7]), (9, [9, 3], [17]), (7, [7, 11], [3]), (9, [11, 10], [6]), (20, [3, 10, 5], [60, 4, 0, 611, 16, 17, 6, 1005]), (20, [3, 10, 4], [60, 3, 3, 600, 5, 1005, 1006, 2, 1007, 1008]), (20, [10], [60, 2, 3, 595, 5, 6, 7, 8, 9]), (20, [3, 10], [60, 1, 3, 599, 1006, 2, 1007, 1008]), (20, [3], [60, 2, 0, 602, 6, 5]), (20, [3], [50, 1, 0, 7, 0, 2, 0, 1, 2, 0, 7])], [], [], [(20, [0, 2, 14], [60, 4, 0, 612, 16, 17, 6, 1005]), (20, [14, 0], [50, 2, 0, 1018, 1007, 3, 6, 1, 2, 1, 0, 0, 0, 0, 7, 4, 3, 2, 1, 18, 0, 1, 2, 1, 7])], [], [(7, 11, 0, 4294967296), (1, 4, -4294967296, 0), (4, 1, -4294967296, 0)])
theorem oo_Em_pickPiece_at_gn_1 {kA : Nat → ClassId} : or_ok PRD kA GG o_Em_pickPiece_at_gn_1 := by
  refine or_mk fun A ta ws vs hD hth hl => ?_
  intro t0 r0 t1 k1 t2 r2 t3 r3 t4 k4 t5 k5 t7 k7 t9 k9 t10 r10 t11 k11 t12 k12 t13 k13 t14 k14 d0 d1 d2 f0 f1 f2 f3 f4 f5 f6 f7 f8 f9 f10 ta1 w1 le1 s1 f12 f13 f14 f15 f16 f17 f18 f19 f20 f21
  replace f9 := shm_5 f9
  have s1 : (∀ b j, w_el ws b j = w_el w1 b j) ∧ ∀ b j, w_fd ws b j = if b = v_ad (n_v vs 3) ∧ j = 18 then n_v vs 12 else w_fd w1 b j := s1.2
  have q3 : n_v vs 3 = n_v vs 0 := f9.symm
  rw [q3] at s1
  have fe_0_5_1 : w_fi ws (n_v vs 0) 5 = w_fi w1 (n_v vs 0) 5 := by show v_iv (w_fd _ _ _) = v_iv (w_fd _ _ _); rw [s1.2, if_neg (fun e => absurd e.2 (by decide))]
  have fe_0_6_1 : w_fi ws (n_v vs 0) 6 = w_fi w1 (n_v vs 0) 6 := by show v_iv (w_fd _ _ _) = v_iv (w_fd _ _ _); rw [s1.2, if_neg (fun e => absurd e.2 (by decide))]
  have fe_0_7_1 : w_fi ws (n_v vs 0) 7 = w_fi w1 (n_v vs 0) 7 := by show v_iv (w_fd _ _ _) = v_iv (w_fd _ _ _); rw [s1.2, if_neg (fun e => absurd e.2 (by decide))]
  have fe_0_16_1 : w_fi ws (n_v vs 0) 16 = w_fi w1 (n_v vs 0) 16 := by show v_iv (w_fd _ _ _) = v_iv (w_fd _ _ _); rw [s1.2, if_neg (fun e => absurd e.2 (by decide))]
  have fe_0_17_1 : w_fi ws (n_v vs 0) 17 = w_fi w1 (n_v vs 0) 17 := by show v_iv (w_fd _ _ _) = v_iv (w_fd _ _ _); rw [s1.2, if_neg (fun e => absurd e.2 (by decide))]
  have fe_2_5_1 : w_fi ws (n_v vs 2) 5 = w_fi w1 (n_v vs 2) 5 := by show v_iv (w_fd _ _ _) = v_iv (w_fd _ _ _); rw [s1.2, if_neg (fun e => absurd e.2 (by decide))]
  have fe_2_6_1 : w_fi ws (n_v vs 2) 6 = w_fi w1 (n_v vs 2) 6 := by show v_iv (w_fd _ _ _) = v_iv (w_fd _ _ _); rw [s1.2, if_neg (fun e => absurd e.2 (by decide))]
  have hE_0_2_1 : ∀ j : Int, w_ei ws (w_ar ws (n_v vs 0) 2) j = w_ei w1 (w_ar ws (n_v vs 0) 2) j := fun j => s1.1 _ _
  have hE_2_7_1 : ∀ j : Int, w_ei ws (w_ar ws (n_v vs 2) 7) j = w_ei w1 (w_ar ws (n_v vs 2) 7) j := fun j => s1.1 _ _
  have hE_2_8_1 : ∀ j : Int, w_ei ws (w_ar ws (n_v vs 2) 8) j = w_ei w1 (w_ar ws (n_v vs 2) 8) j := fun j => s1.1 _ _
  have hE_2_9_1 : ∀ j : Int, w_ei ws (w_ar ws (n_v vs 2) 9) j = w_ei w1 (w_ar ws (n_v vs 2) 9) j := fun j => s1.1 _ _
  have kz_0_5 := fdq_283 hD hth r0
  have kz_0_6 := fdq_53 hD hth r0
  have kz_0_7 := fdq_49 hD hth r0
  have kz_0_16 := fdq_284 hD hth r0
  have kz_0_17 := fdq_285 hD hth r0
  have kz_0_18 := fdq_286 hD hth r0
  have kz_2_5 := fdq_82 hD hth r2
  have kz_2_6 := fdq_59 hD hth r2
  have nf0 : fc_1 PRD (20, [0, 2, 14], [60, 4, 0, 612, 16, 17, 6, 1005]) ws (vs) := ⟨nf_in hl rfl, sgq_1343 (vc_Em_pickPiece_at_gn_1_0 (v_iv (n_v vs 14)) (w_fi ws (n_v vs 0) 7) (w_fi ws (n_v vs 0) 16) (w_fi ws (n_v vs 0) 17) (w_fi ws (n_v vs 0) 6) (w_fi ws (n_v vs 2) 5) (w_ei ws (w_ar ws (n_v vs 0) 2)) (w_ei ws (w_ar ws (n_v vs 2) 7)) (w_ei ws (w_ar ws (n_v vs 2) 8)) (w_fi ws (n_v vs 0) 5) (w_fi ws (n_v vs 2) 6) (w_ei ws (w_ar ws (n_v vs 2) 9)) (w_fi w1 (n_v vs 0) 7) (w_fi w1 (n_v vs 0) 17) (w_fi w1 (n_v vs 2) 6) (w_fi w1 (n_v vs 0) 16) (w_fi w1 (n_v vs 0) 6) (w_fi w1 (n_v vs 2) 5) (w_ei w1 (w_ar ws (n_v vs 0) 2)) (w_ei w1 (w_ar ws (n_v vs 2) 7)) (w_ei w1 (w_ar ws (n_v vs 2) 8)) (w_fi w1 (n_v vs 0) 5) (w_ei w1 (w_ar ws (n_v vs 2) 9)) k14 fe_0_5_1 fe_0_6_1 fe_0_7_1 fe_0_16_1 fe_0_17_1 fe_2_5_1 fe_2_6_1 hE_0_2_1 hE_2_7_1 hE_2_8_1 hE_2_9_1 kz_0_5 kz_0_6 kz_0_7 kz_0_16 kz_0_17 kz_2_5 kz_2_6)⟩
  have nf1 : fc_1 PRD (20, [14, 0], [50, 2, 0, 1018, 1007, 3, 6, 1, 2, 1, 0, 0, 0, 0, 7, 4, 3, 2, 1, 18, 0, 1, 2, 1, 7]) ws (vs) := ⟨nf_in hl rfl, sgq_1344 (vc_Em_pickPiece_at_gn_1_1 (v_iv (n_v vs 14)) (w_fi ws (n_v vs 0) 7) (w_fi ws (n_v vs 0) 16) (w_fi ws (n_v vs 0) 17) (w_fi ws (n_v vs 0) 6) (w_fi ws (n_v vs 2) 5) (w_ei ws (w_ar ws (n_v vs 0) 2)) (w_ei ws (w_ar ws (n_v vs 2) 7)) (w_ei ws (w_ar ws (n_v vs 2) 8)) (w_fi ws (n_v vs 0) 5) (w_fi ws (n_v vs 2) 6) (w_ei ws (w_ar ws (n_v vs 2) 9)) (w_fi w1 (n_v vs 0) 7) (w_fi w1 (n_v vs 0) 17) (w_fi w1 (n_v vs 2) 6) (w_fi w1 (n_v vs 0) 16) (w_fi w1 (n_v vs 0) 6) (w_fi w1 (n_v vs 2) 5) (w_ei w1 (w_ar ws (n_v vs 0) 2)) (w_ei w1 (w_ar ws (n_v vs 2) 7)) (w_ei w1 (w_ar ws (n_v vs 2) 8)) (w_fi w1 (n_v vs 0) 5) (w_ei w1 (w_ar ws (n_v vs 2) 9)) (w_fi ws (n_v vs 0) 18) k14 fe_0_5_1 fe_0_6_1 fe_0_7_1 fe_0_16_1 fe_0_17_1 fe_2_5_1 fe_2_6_1 hE_0_2_1 hE_2_7_1 hE_2_8_1 hE_2_9_1 kz_0_5 kz_0_6 kz_0_7 kz_0_16 kz_0_17 kz_0_18 kz_2_5 kz_2_6)⟩
  refine ⟨(fun _ h => (by cases h)), [], trivial, ?_, (fun _ h => (by cases h))⟩
  rw [List.append_nil]
  exact List.forall_mem_cons.mpr ⟨⟨show (20 : Nat) < 100 from by decide, nf0⟩, List.forall_mem_cons.mpr ⟨⟨show (20 : Nat) < 100 from by decide, nf1⟩, (fun _ h => (by cases h))⟩⟩
set_option maxHeartbeats 4000000 in
theorem vc_Em_pickPiece_at_gn_2_0 (x5 : Int) (x14 : Int) (cycles_0 : Int) (pieceNodes_0 : Int) (pieceEnds_0 : Int) (drawnNodes_0 : Int) (nodes_0o2 : Int) (block_0 : Int → Int) (tail_0o2 : Int → Int) (head_0o2 : Int → Int) (blockNodes_0 : Int) (edges_0o2 : Int) (near_0o2 : Int → Int) (cycles_1 : Int) (pieceEnds_1 : Int) (edges_1o2 : Int) (pieceNodes_1 : Int) (drawnNodes_1 : Int) (nodes_1o2 : Int) (block_1 : Int → Int) (tail_1o2 : Int → Int) (head_1o2 : Int → Int) (blockNodes_1 : Int) (near_1o2 : Int → Int) (k5 : (-2147483648) ≤ x5 ∧ x5 ≤ 999999) (k14 : 1 ≤ x14 ∧ x14 ≤ 1) (f16 : PKI (pieceNodes_1) (pieceEnds_1) (drawnNodes_1) (nodes_1o2) (x5)) (fe_0_5_1 : blockNodes_0 = blockNodes_1) (fe_0_6_1 : drawnNodes_0 = drawnNodes_1) (fe_0_7_1 : cycles_0 = cycles_1) (fe_0_16_1 : pieceNodes_0 = pieceNodes_1) (fe_0_17_1 : pieceEnds_0 = pieceEnds_1) (fe_2_5_1 : nodes_0o2 = nodes_1o2) (fe_2_6_1 : edges_0o2 = edges_1o2) (hE_0_2_1 : ∀ j : Int, block_0 j = block_1 j) (hE_2_7_1 : ∀ j : Int, tail_0o2 j = tail_1o2 j) (hE_2_8_1 : ∀ j : Int, head_0o2 j = head_1o2 j) (hE_2_9_1 : ∀ j : Int, near_0o2 j = near_1o2 j) (kz_0_5 : 0 ≤ blockNodes_0 ∧ blockNodes_0 ≤ 33554431) (kz_0_6 : 0 ≤ drawnNodes_0 ∧ drawnNodes_0 ≤ 33554431) (kz_0_7 : 0 ≤ cycles_0 ∧ cycles_0 ≤ 50) (kz_0_16 : 0 ≤ pieceNodes_0 ∧ pieceNodes_0 ≤ 33554431) (kz_0_17 : 0 ≤ pieceEnds_0 ∧ pieceEnds_0 ≤ 33554431) (kz_2_5 : 0 ≤ nodes_0o2 ∧ nodes_0o2 ≤ 24) (kz_2_6 : 0 ≤ edges_0o2 ∧ edges_0o2 ≤ 72) : PKA (pieceNodes_0) (pieceEnds_0) (drawnNodes_0) (nodes_0o2) (x14) := by
  subst fe_0_5_1
  subst fe_0_6_1
  subst fe_0_7_1
  subst fe_0_16_1
  subst fe_0_17_1
  subst fe_2_5_1
  subst fe_2_6_1
  have e_hE_0_2_1 := funext hE_0_2_1; subst e_hE_0_2_1
  have e_hE_2_7_1 := funext hE_2_7_1; subst e_hE_2_7_1
  have e_hE_2_8_1 := funext hE_2_8_1; subst e_hE_2_8_1
  have e_hE_2_9_1 := funext hE_2_9_1; subst e_hE_2_9_1
  first
    | exact Or.inl (by omega)
    | (rcases (‹PKI _ _ _ _ _›) with q | ⟨_, q⟩
       · omega
       · exact Or.inr q)
set_option maxHeartbeats 4000000 in
theorem vc_Em_pickPiece_at_gn_2_1 (x12 : Int) (x14 : Int) (cycles_0 : Int) (pieceNodes_0 : Int) (pieceEnds_0 : Int) (drawnNodes_0 : Int) (nodes_0o2 : Int) (block_0 : Int → Int) (tail_0o2 : Int → Int) (head_0o2 : Int → Int) (blockNodes_0 : Int) (edges_0o2 : Int) (near_0o2 : Int → Int) (cycles_1 : Int) (pieceEnds_1 : Int) (edges_1o2 : Int) (pieceNodes_1 : Int) (drawnNodes_1 : Int) (nodes_1o2 : Int) (block_1 : Int → Int) (tail_1o2 : Int → Int) (head_1o2 : Int → Int) (blockNodes_1 : Int) (near_1o2 : Int → Int) (pieceCycle_0 : Int) (k12 : 0 ≤ x12 ∧ x12 ≤ 49) (k14 : 1 ≤ x14 ∧ x14 ≤ 1) (f8 : 1 ≤ cycles_0) (f12 : (x12 = 0) ∨ ((x12 + 1) ≤ cycles_1)) (fe_0_5_1 : blockNodes_0 = blockNodes_1) (fe_0_6_1 : drawnNodes_0 = drawnNodes_1) (fe_0_7_1 : cycles_0 = cycles_1) (fe_0_16_1 : pieceNodes_0 = pieceNodes_1) (fe_0_17_1 : pieceEnds_0 = pieceEnds_1) (fe_0_18_1 : pieceCycle_0 = x12) (fe_2_5_1 : nodes_0o2 = nodes_1o2) (fe_2_6_1 : edges_0o2 = edges_1o2) (hE_0_2_1 : ∀ j : Int, block_0 j = block_1 j) (hE_2_7_1 : ∀ j : Int, tail_0o2 j = tail_1o2 j) (hE_2_8_1 : ∀ j : Int, head_0o2 j = head_1o2 j) (hE_2_9_1 : ∀ j : Int, near_0o2 j = near_1o2 j) (kz_0_5 : 0 ≤ blockNodes_0 ∧ blockNodes_0 ≤ 33554431) (kz_0_6 : 0 ≤ drawnNodes_0 ∧ drawnNodes_0 ≤ 33554431) (kz_0_7 : 0 ≤ cycles_0 ∧ cycles_0 ≤ 50) (kz_0_16 : 0 ≤ pieceNodes_0 ∧ pieceNodes_0 ≤ 33554431) (kz_0_17 : 0 ≤ pieceEnds_0 ∧ pieceEnds_0 ≤ 33554431) (kz_0_18 : 0 ≤ pieceCycle_0 ∧ pieceCycle_0 ≤ 49) (kz_2_5 : 0 ≤ nodes_0o2 ∧ nodes_0o2 ≤ 24) (kz_2_6 : 0 ≤ edges_0o2 ∧ edges_0o2 ≤ 72) : (x14 = 0) ∨ ((pieceCycle_0 + 1) ≤ cycles_0) := by
  subst fe_0_5_1
  subst fe_0_6_1
  subst fe_0_7_1
  subst fe_0_16_1
  subst fe_0_17_1
  subst fe_2_5_1
  subst fe_2_6_1
  have e_hE_0_2_1 := funext hE_0_2_1; subst e_hE_0_2_1
  have e_hE_2_7_1 := funext hE_2_7_1; subst e_hE_2_7_1
  have e_hE_2_8_1 := funext hE_2_8_1; subst e_hE_2_8_1
  have e_hE_2_9_1 := funext hE_2_9_1; subst e_hE_2_9_1
  first
    | omega
  
def o_Em_pickPiece_at_gn_2 : or_T := (235, 15, [(0, (2, 0, 0, [1])), (1, (0, 0, 71, [])), (2, (2, 0, 0, [5])), (3, (2, 0, 0, [1])), (4, (0, 0, 71, [])), (5, (0, -2147483648, 999999, [])), (7, (0, 0, 72, [])), (9, (0, 0, 33554431, [])), (10, (2, 0, 0, [5])), (11, (0, 0, 72, [])), (12, (0, 0, 49, [])), (13, (0, 1000000, 1000000, [])), (14, (0, 1, 1, []))], [(7, [5, 13], [2]), (20, [12, 3], [50, 1, 0, 1007, 3, 6, 1, 2, 1, 0, 0, 0, 0, 6, 4, 2, 1, 0, 0, 1, 2, 1, 7]), (20, [3, 10, 5], [60, 4, 0, 611, 16, 17, 6, 1005]), (24, [2, 10], []), (20, [3, 10, 4], [60, 3, 3, 600, 5, 1005, 1006, 2, 1007, 1008]), (20, [10], [60, 2, 3, 595, 5, 6, 7, 8, 9]), (20, [3, 10], [60, 1, 3, 599, 1006, 2, 1007, 1008]), (20, [3], [60, 2, 0, 602, 6, 5]), (20, [3], [50, 1, 0, 7, 0, 2, 0, 1, 2, 0, 7]), (24, [0, 3], []), (24, [1, 4], []), (101, [3, 12], [18]), (20, [12, 3], [50, 1, 0, 1007, 3, 6, 1, 2, 1, 0, 0, 0, 0, 6, 4, 2, 1, 0, 0, 1, 2, 1, 7]), (9, [9, 3], [17]), (7, [7, 11], [3]), (9, [11, 10], [6]), (20, [3, 10, 5], [60, 4, 0, 611, 16, 17, 6, 1005]), (20, [3, 10, 4], [60, 3, 3, 600, 5, 1005, 1006, 2, 1007, 1008]), (20, [10], [60, 2, 3, 595, 5, 6, 7, 8, 9]), (20, [3, 10], [60, 1, 3, 599, 1006, 2, 1007, 1008]), (20, [3], [60, 2, 0, 602, 6, 5]), (20, [3], [50, 1, 0, 7, 0, 2, 0, 1, 2, 0, 7])], [], [], [(20, [0, 2, 14], [60, 4, 0, 612, 16, 17, 6, 1005]), (20, [14, 0], [50, 2, 0, 1018, 1007, 3, 6, 1, 2, 1, 0, 0, 0, 0, 7, 4, 3, 2, 1, 18, 0, 1, 2, 1, 7])], [], [(7, 11, 0, 4294967296), (1, 4, -4294967296, 0), (4, 1, -4294967296, 0)])
theorem oo_Em_pickPiece_at_gn_2 {kA : Nat → ClassId} : or_ok PRD kA GG o_Em_pickPiece_at_gn_2 := by
  refine or_mk fun A ta ws vs hD hth hl => ?_
  intro t0 r0 t1 k1 t2 r2 t3 r3 t4 k4 t5 k5 t7 k7 t9 k9 t10 r10 t11 k11 t12 k12 t13 k13 t14 k14 d0 d1 d2 f0 f1 f2 f3 f4 f5 f6 f7 f8 f9 f10 ta1 w1 le1 s1 f12 f13 f14 f15 f16 f17 f18 f19 f20 f21
  replace f3 := shm_5 f3
  replace f8 := shm_1341 f8
  replace f9 := shm_5 f9
  have s1 : (∀ b j, w_el ws b j = w_el w1 b j) ∧ ∀ b j, w_fd ws b j = if b = v_ad (n_v vs 3) ∧ j = 18 then n_v vs 12 else w_fd w1 b j := s1.2
  replace f12 := shm_346 f12
  replace f16 := shm_1342 f16
  have q10 : n_v vs 10 = n_v vs 2 := f3.symm
  have q3 : n_v vs 3 = n_v vs 0 := f9.symm
  simp only [q3] at f8
  rw [q3] at s1
  simp only [q3, q10] at f12 f16
  have fe_0_5_1 : w_fi ws (n_v vs 0) 5 = w_fi w1 (n_v vs 0) 5 := by show v_iv (w_fd _ _ _) = v_iv (w_fd _ _ _); rw [s1.2, if_neg (fun e => absurd e.2 (by decide))]
  have fe_0_6_1 : w_fi ws (n_v vs 0) 6 = w_fi w1 (n_v vs 0) 6 := by show v_iv (w_fd _ _ _) = v_iv (w_fd _ _ _); rw [s1.2, if_neg (fun e => absurd e.2 (by decide))]
  have fe_0_7_1 : w_fi ws (n_v vs 0) 7 = w_fi w1 (n_v vs 0) 7 := by show v_iv (w_fd _ _ _) = v_iv (w_fd _ _ _); rw [s1.2, if_neg (fun e => absurd e.2 (by decide))]
  have fe_0_16_1 : w_fi ws (n_v vs 0) 16 = w_fi w1 (n_v vs 0) 16 := by show v_iv (w_fd _ _ _) = v_iv (w_fd _ _ _); rw [s1.2, if_neg (fun e => absurd e.2 (by decide))]
  have fe_0_17_1 : w_fi ws (n_v vs 0) 17 = w_fi w1 (n_v vs 0) 17 := by show v_iv (w_fd _ _ _) = v_iv (w_fd _ _ _); rw [s1.2, if_neg (fun e => absurd e.2 (by decide))]
  have fe_0_18_1 : w_fi ws (n_v vs 0) 18 = v_iv (n_v vs 12) := by show v_iv (w_fd _ _ _) = _; rw [s1.2, if_pos ⟨rfl, rfl⟩]
  have fe_2_5_1 : w_fi ws (n_v vs 2) 5 = w_fi w1 (n_v vs 2) 5 := by show v_iv (w_fd _ _ _) = v_iv (w_fd _ _ _); rw [s1.2, if_neg (fun e => absurd e.2 (by decide))]
  have fe_2_6_1 : w_fi ws (n_v vs 2) 6 = w_fi w1 (n_v vs 2) 6 := by show v_iv (w_fd _ _ _) = v_iv (w_fd _ _ _); rw [s1.2, if_neg (fun e => absurd e.2 (by decide))]
  have hE_0_2_1 : ∀ j : Int, w_ei ws (w_ar ws (n_v vs 0) 2) j = w_ei w1 (w_ar ws (n_v vs 0) 2) j := fun j => s1.1 _ _
  have hE_2_7_1 : ∀ j : Int, w_ei ws (w_ar ws (n_v vs 2) 7) j = w_ei w1 (w_ar ws (n_v vs 2) 7) j := fun j => s1.1 _ _
  have hE_2_8_1 : ∀ j : Int, w_ei ws (w_ar ws (n_v vs 2) 8) j = w_ei w1 (w_ar ws (n_v vs 2) 8) j := fun j => s1.1 _ _
  have hE_2_9_1 : ∀ j : Int, w_ei ws (w_ar ws (n_v vs 2) 9) j = w_ei w1 (w_ar ws (n_v vs 2) 9) j := fun j => s1.1 _ _
  have kz_0_5 := fdq_283 hD hth r0
  have kz_0_6 := fdq_53 hD hth r0
  have kz_0_7 := fdq_49 hD hth r0
  have kz_0_16 := fdq_284 hD hth r0
  have kz_0_17 := fdq_285 hD hth r0
  have kz_0_18 := fdq_286 hD hth r0
  have kz_2_5 := fdq_82 hD hth r2
  have kz_2_6 := fdq_59 hD hth r2
  have nf0 : fc_1 PRD (20, [0, 2, 14], [60, 4, 0, 612, 16, 17, 6, 1005]) ws (vs) := ⟨nf_in hl rfl, sgq_1343 (vc_Em_pickPiece_at_gn_2_0 (v_iv (n_v vs 5)) (v_iv (n_v vs 14)) (w_fi ws (n_v vs 0) 7) (w_fi ws (n_v vs 0) 16) (w_fi ws (n_v vs 0) 17) (w_fi ws (n_v vs 0) 6) (w_fi ws (n_v vs 2) 5) (w_ei ws (w_ar ws (n_v vs 0) 2)) (w_ei ws (w_ar ws (n_v vs 2) 7)) (w_ei ws (w_ar ws (n_v vs 2) 8)) (w_fi ws (n_v vs 0) 5) (w_fi ws (n_v vs 2) 6) (w_ei ws (w_ar ws (n_v vs 2) 9)) (w_fi w1 (n_v vs 0) 7) (w_fi w1 (n_v vs 0) 17) (w_fi w1 (n_v vs 2) 6) (w_fi w1 (n_v vs 0) 16) (w_fi w1 (n_v vs 0) 6) (w_fi w1 (n_v vs 2) 5) (w_ei w1 (w_ar ws (n_v vs 0) 2)) (w_ei w1 (w_ar ws (n_v vs 2) 7)) (w_ei w1 (w_ar ws (n_v vs 2) 8)) (w_fi w1 (n_v vs 0) 5) (w_ei w1 (w_ar ws (n_v vs 2) 9)) k5 k14 f16 fe_0_5_1 fe_0_6_1 fe_0_7_1 fe_0_16_1 fe_0_17_1 fe_2_5_1 fe_2_6_1 hE_0_2_1 hE_2_7_1 hE_2_8_1 hE_2_9_1 kz_0_5 kz_0_6 kz_0_7 kz_0_16 kz_0_17 kz_2_5 kz_2_6)⟩
  have nf1 : fc_1 PRD (20, [14, 0], [50, 2, 0, 1018, 1007, 3, 6, 1, 2, 1, 0, 0, 0, 0, 7, 4, 3, 2, 1, 18, 0, 1, 2, 1, 7]) ws (vs) := ⟨nf_in hl rfl, sgq_1344 (vc_Em_pickPiece_at_gn_2_1 (v_iv (n_v vs 12)) (v_iv (n_v vs 14)) (w_fi ws (n_v vs 0) 7) (w_fi ws (n_v vs 0) 16) (w_fi ws (n_v vs 0) 17) (w_fi ws (n_v vs 0) 6) (w_fi ws (n_v vs 2) 5) (w_ei ws (w_ar ws (n_v vs 0) 2)) (w_ei ws (w_ar ws (n_v vs 2) 7)) (w_ei ws (w_ar ws (n_v vs 2) 8)) (w_fi ws (n_v vs 0) 5) (w_fi ws (n_v vs 2) 6) (w_ei ws (w_ar ws (n_v vs 2) 9)) (w_fi w1 (n_v vs 0) 7) (w_fi w1 (n_v vs 0) 17) (w_fi w1 (n_v vs 2) 6) (w_fi w1 (n_v vs 0) 16) (w_fi w1 (n_v vs 0) 6) (w_fi w1 (n_v vs 2) 5) (w_ei w1 (w_ar ws (n_v vs 0) 2)) (w_ei w1 (w_ar ws (n_v vs 2) 7)) (w_ei w1 (w_ar ws (n_v vs 2) 8)) (w_fi w1 (n_v vs 0) 5) (w_ei w1 (w_ar ws (n_v vs 2) 9)) (w_fi ws (n_v vs 0) 18) k12 k14 f8 f12 fe_0_5_1 fe_0_6_1 fe_0_7_1 fe_0_16_1 fe_0_17_1 fe_0_18_1 fe_2_5_1 fe_2_6_1 hE_0_2_1 hE_2_7_1 hE_2_8_1 hE_2_9_1 kz_0_5 kz_0_6 kz_0_7 kz_0_16 kz_0_17 kz_0_18 kz_2_5 kz_2_6)⟩
  refine ⟨(fun _ h => (by cases h)), [], trivial, ?_, (fun _ h => (by cases h))⟩
  rw [List.append_nil]
  exact List.forall_mem_cons.mpr ⟨⟨show (20 : Nat) < 100 from by decide, nf0⟩, List.forall_mem_cons.mpr ⟨⟨show (20 : Nat) < 100 from by decide, nf1⟩, (fun _ h => (by cases h))⟩⟩
set_option maxHeartbeats 4000000 in
theorem vc_Em_pickPiece_at_gn_3_0 (x1 : Int) (x7 : Int) (x11 : Int) (x13 : Int) (x16 : Int) (x18 : Int) (x19 : Int) (x20 : Int) (x22 : Int) (x23 : Int) (x24 : Int) (x25 : Int) (x26 : Int) (x27 : Int) (x28 : Int) (x31 : Int) (x32 : Int) (x33 : Int) (x34 : Int) (x35 : Int) (x36 : Int) (x38 : Int) (x39 : Int) (x40 : Int) (x41 : Int) (x42 : Int) (near_0o2 : Int → Int) (block_0 : Int → Int) (tail_0o2 : Int → Int) (head_0o2 : Int → Int) (blockNodes_0 : Int) (nodes_0o2 : Int) (edges_0o2 : Int) (drawnNodes_0 : Int) (cycles_0 : Int) (near_1o2 : Int → Int) (block_1 : Int → Int) (tail_1o2 : Int → Int) (head_1o2 : Int → Int) (blockNodes_1 : Int) (nodes_1o2 : Int) (edges_1o2 : Int) (drawnNodes_1 : Int) (cycles_1 : Int) (drawnNodes_2 : Int) (blockNodes_2 : Int) (near_2o2 : Int → Int) (nodes_2o2 : Int) (head_2o2 : Int → Int) (tail_2o2 : Int → Int) (block_2 : Int → Int) (edges_2o2 : Int) (pieceEnds_2 : Int) (cycles_2 : Int) (pieceNodes_0 : Int) (pieceNodes_1 : Int) (pieceEnds_0 : Int) (pieceEnds_1 : Int) (k1 : 0 ≤ x1 ∧ x1 ≤ 71) (k7 : 0 ≤ x7 ∧ x7 ≤ 71) (k11 : 1 ≤ x11 ∧ x11 ≤ 72) (k13 : 0 ≤ x13 ∧ x13 ≤ 71) (k16 : 1 ≤ x16 ∧ x16 ≤ 1) (k18 : 0 ≤ x18 ∧ x18 ≤ 23) (k19 : 1 ≤ x19 ∧ x19 ≤ 8388608) (k20 : 1 ≤ x20 ∧ x20 ≤ 1) (k22 : 0 ≤ x22 ∧ x22 ≤ 23) (k23 : 1 ≤ x23 ∧ x23 ≤ 8388608) (k24 : 0 ≤ x24 ∧ x24 ≤ 16777215) (k25 : 0 ≤ x25 ∧ x25 ≤ 33554431) (k26 : (-1) ≤ x26 ∧ x26 ≤ (-1)) (k27 : (-2147483648) ≤ x27 ∧ x27 ≤ 2147483647) (k28 : 1 ≤ x28 ∧ x28 ≤ 16777215) (k31 : 0 ≤ x31 ∧ x31 ≤ 24) (k32 : 0 ≤ x32 ∧ x32 ≤ 33554431) (k33 : (-1) ≤ x33 ∧ x33 ≤ (-1)) (k34 : (-2147483648) ≤ x34 ∧ x34 ≤ 2147483647) (k35 : 0 ≤ x35 ∧ x35 ≤ 33554431) (k36 : 0 ≤ x36 ∧ x36 ≤ 16777215) (k38 : 0 ≤ x38 ∧ x38 ≤ 16777215) (k39 : 0 ≤ x39 ∧ x39 ≤ 16777215) (k40 : 0 ≤ x40 ∧ x40 ≤ 16777215) (k41 : (-2147483648) ≤ x41 ∧ x41 ≤ 999999) (k42 : 1 ≤ x42 ∧ x42 ≤ 72) (d0 : x7 + 1 ≤ x42 ∧ x42 ≤ x7 + 1) (d1 : x11 + (-4294967296) ≤ x42 ∧ x42 ≤ x11 + 0) (d4 : x11 + (-4294967296) ≤ x7 ∧ x7 ≤ x11 + (-1)) (f22 : bvp (x40) = bvp (x39) &&& bvp (x25)) (g23 : x25 = drawnNodes_2) (f24 : bvp (x39) = bvp (x38) &&& bvp (x32)) (g25 : x32 = blockNodes_2) (f26 : NEF (near_2o2) (x31) (x36) (x38)) (g27 : x31 = nodes_2o2) (f29 : x28 ≠ 0) (f32 : SPZ (near_2o2) (x31) (x28) (x35) (x36)) (f33 : bvp (x35) = bvp (x32) &&& bvp (x34)) (f34 : bvp (x34) = bvp (x25) ^^^ bvp (x33)) (f37 : bvp (x28) = bvp (x24) &&& bvp (x27)) (f38 : bvp (x27) = bvp (x25) ^^^ bvp (x26)) (f40 : bvp (x24) = bvp (x19) ||| bvp (x23)) (f41 : bvp (x23) = bvp (x20) <<< (x22).toNat) (h42 : x22 = head_2o2 (x7)) (f44 : bvp (x19) = bvp (x16) <<< (x18).toNat) (h45 : x18 = tail_2o2 (x7)) (f47 : x13 = x1) (h48 : x13 = block_2 (x7)) (g51 : x11 = edges_2o2) (f53 : BLN (blockNodes_2) (nodes_2o2) (edges_2o2) (block_2) (tail_2o2) (head_2o2) (x1)) (f54 : NOK (nodes_2o2) (edges_2o2) (tail_2o2) (head_2o2) (near_2o2)) (f55 : CNE (edges_2o2) (block_2) (tail_2o2) (head_2o2)) (f56 : DBN (drawnNodes_2) (blockNodes_2)) (fe_0_5_1 : blockNodes_0 = blockNodes_1) (fe_0_6_1 : drawnNodes_0 = drawnNodes_1) (fe_0_7_1 : cycles_0 = cycles_1) (fe_0_16_1 : pieceNodes_0 = pieceNodes_1) (fe_0_17_1 : pieceEnds_0 = x40) (fe_2_5_1 : nodes_0o2 = nodes_1o2) (fe_2_6_1 : edges_0o2 = edges_1o2) (fe_0_5_2 : blockNodes_1 = blockNodes_2) (fe_0_6_2 : drawnNodes_1 = drawnNodes_2) (fe_0_7_2 : cycles_1 = cycles_2) (fe_0_16_2 : pieceNodes_1 = x36) (fe_0_17_2 : pieceEnds_1 = pieceEnds_2) (fe_2_5_2 : nodes_1o2 = nodes_2o2) (fe_2_6_2 : edges_1o2 = edges_2o2) (hE_0_2_1 : ∀ j : Int, block_0 j = block_1 j) (hE_0_2_2 : ∀ j : Int, block_1 j = block_2 j) (hE_2_7_1 : ∀ j : Int, tail_0o2 j = tail_1o2 j) (hE_2_7_2 : ∀ j : Int, tail_1o2 j = tail_2o2 j) (hE_2_8_1 : ∀ j : Int, head_0o2 j = head_1o2 j) (hE_2_8_2 : ∀ j : Int, head_1o2 j = head_2o2 j) (hE_2_9_1 : ∀ j : Int, near_0o2 j = near_1o2 j) (hE_2_9_2 : ∀ j : Int, near_1o2 j = near_2o2 j) (kz_0_5 : 0 ≤ blockNodes_0 ∧ blockNodes_0 ≤ 33554431) (kz_0_6 : 0 ≤ drawnNodes_0 ∧ drawnNodes_0 ≤ 33554431) (kz_0_7 : 0 ≤ cycles_0 ∧ cycles_0 ≤ 50) (kz_0_16 : 0 ≤ pieceNodes_0 ∧ pieceNodes_0 ≤ 33554431) (kz_0_17 : 0 ≤ pieceEnds_0 ∧ pieceEnds_0 ≤ 33554431) (kz_2_5 : 0 ≤ nodes_0o2 ∧ nodes_0o2 ≤ 24) (kz_2_6 : 0 ≤ edges_0o2 ∧ edges_0o2 ≤ 72) : PKI (pieceNodes_0) (pieceEnds_0) (drawnNodes_0) (nodes_0o2) (x41) := by
  subst fe_0_5_1
  subst fe_0_6_1
  subst fe_0_7_1
  subst fe_0_16_1
  subst fe_2_5_1
  subst fe_2_6_1
  subst fe_0_5_2
  subst fe_0_6_2
  subst fe_0_7_2
  subst fe_0_17_2
  subst fe_2_5_2
  subst fe_2_6_2
  have e_hE_0_2_1 := funext hE_0_2_1; subst e_hE_0_2_1
  have e_hE_0_2_2 := funext hE_0_2_2; subst e_hE_0_2_2
  have e_hE_2_7_1 := funext hE_2_7_1; subst e_hE_2_7_1
  have e_hE_2_7_2 := funext hE_2_7_2; subst e_hE_2_7_2
  have e_hE_2_8_1 := funext hE_2_8_1; subst e_hE_2_8_1
  have e_hE_2_8_2 := funext hE_2_8_2; subst e_hE_2_8_2
  have e_hE_2_9_1 := funext hE_2_9_1; subst e_hE_2_9_1
  have e_hE_2_9_2 := funext hE_2_9_2; subst e_hE_2_9_2
  first
    | (have o1 : x16 = 1 := by omega
       have o2 : x20 = 1 := by omega
       subst o1 o2
       have hB := (‹BLN _ _ _ _ _ _ _›); have hN := (‹NOK _ _ _ _ _›); have hS := (‹SPZ _ _ _ _ _›); have hD := (‹DBN _ _›)
       have en : nodes_0o2 = x31 := by omega
       have ed : drawnNodes_0 = x25 := by omega
       have eb : blockNodes_0 = x32 := by omega
       subst en ed eb
       exact pki_new (e := x7) (z0 := x13) (x := x18) (y := x22) (q1 := x19) (q2 := x23) (q3 := x24) (r := x27) (m1 := x26) (fr := x28) (r2 := x34) (m2 := x33) (al := x35) (an := x36) (ed := pieceEnds_0) hB hN ‹CNE _ _ _ _› hD (by omega) (by omega) (by omega) (by omega) (by assumption) (by omega) (by assumption) (by assumption) (by assumption) (by assumption) (by assumption) (by assumption) (by omega) (by assumption) (by assumption) (by assumption) (by omega) hS (by omega) rfl (by first | exact Or.inl ⟨by omega, by omega⟩ | exact Or.inr ⟨by omega, x38, x39, by assumption, by assumption, by rw [show pieceEnds_0 = x40 by omega]; assumption⟩) (by omega) (by omega) (by omega) (by omega) (by omega))
def o_Em_pickPiece_at_gn_3 : or_T := (8, 43, [(0, (2, 0, 0, [1])), (1, (0, 0, 71, [])), (2, (2, 0, 0, [5])), (7, (0, 0, 71, [])), (11, (0, 1, 72, [])), (13, (0, 0, 71, [])), (16, (0, 1, 1, [])), (18, (0, 0, 23, [])), (19, (0, 1, 8388608, [])), (20, (0, 1, 1, [])), (22, (0, 0, 23, [])), (23, (0, 1, 8388608, [])), (24, (0, 0, 16777215, [])), (25, (0, 0, 33554431, [])), (26, (0, -1, -1, [])), (27, (0, -2147483648, 2147483647, [])), (28, (0, 1, 16777215, [])), (31, (0, 0, 24, [])), (32, (0, 0, 33554431, [])), (33, (0, -1, -1, [])), (34, (0, -2147483648, 2147483647, [])), (35, (0, 0, 33554431, [])), (36, (0, 0, 16777215, [])), (38, (0, 0, 16777215, [])), (39, (0, 0, 16777215, [])), (40, (0, 0, 16777215, [])), (41, (0, -2147483648, 999999, [])), (42, (0, 1, 72, []))], [(24, [2, 10], []), (24, [0, 3], []), (24, [1, 4], []), (101, [3, 40], [17]), (101, [3, 36], [16]), (16, [40, 39, 25], [0]), (9, [25, 3], [6]), (16, [39, 38, 32], [0]), (9, [32, 3], [5]), (20, [30, 31, 36, 38], [61, 1, 557]), (9, [31, 10], [5]), (9, [30, 10], [9]), (8, [28], [1]), (20, [30, 31, 28, 35, 36], [61, 1, 579]), (16, [35, 32, 34], [0]), (16, [34, 25, 33], [2]), (16, [28, 24, 27], [0]), (16, [27, 25, 26], [2]), (16, [24, 19, 23], [1]), (16, [23, 20, 22], [3]), (10, [22, 21, 7], []), (9, [21, 10], [8]), (16, [19, 16, 18], [3]), (10, [18, 17, 7], []), (9, [17, 10], [7]), (7, [13, 4], [0]), (10, [13, 12, 7], []), (9, [12, 3], [2]), (9, [11, 10], [6]), (20, [3, 10, 4], [60, 3, 3, 600, 5, 1005, 1006, 2, 1007, 1008]), (20, [10], [60, 2, 3, 595, 5, 6, 7, 8, 9]), (20, [3, 10], [60, 1, 3, 599, 1006, 2, 1007, 1008]), (20, [3], [60, 2, 0, 602, 6, 5])], [], [], [(20, [3, 10, 41], [60, 4, 0, 611, 16, 17, 6, 1005])], [], [(42, 7, 1, 1), (42, 11, -4294967296, 0), (7, 11, -4294967296, -1)])
theorem oo_Em_pickPiece_at_gn_3 {kA : Nat → ClassId} : or_ok PRD kA GG o_Em_pickPiece_at_gn_3 := by
  refine or_mk fun A ta ws vs hD hth hl => ?_
  intro t0 r0 t1 k1 t2 r2 t7 k7 t11 k11 t13 k13 t16 k16 t18 k18 t19 k19 t20 k20 t22 k22 t23 k23 t24 k24 t25 k25 t26 k26 t27 k27 t28 k28 t31 k31 t32 k32 t33 k33 t34 k34 t35 k35 t36 k36 t38 k38 t39 k39 t40 k40 t41 k41 t42 k42 d0 d1 d4 f3 f9 f10 ta1 w1 le1 s1 ta2 w2 le2 s2 f22 f23 f24 f25 f26 f27 f28 f29 f32 f33 f34 f37 f38 f40 f41 f42 f43 f44 f45 f46 f47 f48 f49 f51 f53 f54 f55 f56
  replace f3 := shm_5 f3
  replace f9 := shm_5 f9
  replace f10 := shm_5 f10
  have s1 : (∀ b j, w_el ws b j = w_el w1 b j) ∧ ∀ b j, w_fd ws b j = if b = v_ad (n_v vs 3) ∧ j = 17 then n_v vs 40 else w_fd w1 b j := s1.2
  have s2 : (∀ b j, w_el w1 b j = w_el w2 b j) ∧ ∀ b j, w_fd w1 b j = if b = v_ad (n_v vs 3) ∧ j = 16 then n_v vs 36 else w_fd w2 b j := s2.2
  replace f22 := shm_11 f22
  replace f23 := shm_111 f23
  replace f24 := shm_11 f24
  replace f25 := shm_110 f25
  replace f26 := shm_363 f26
  replace f27 := shm_110 f27
  replace f28 := shm_119 f28
  replace f29 := shm_142 f29
  replace f32 := shm_822 f32
  replace f33 := shm_11 f33
  replace f34 := shm_33 f34
  replace f37 := shm_11 f37
  replace f38 := shm_33 f38
  replace f40 := shm_354 f40
  replace f41 := shm_349 f41
  replace f42 := shm_107 f42
  replace f43 := shm_293 f43
  replace f44 := shm_349 f44
  replace f45 := shm_107 f45
  replace f46 := shm_198 f46
  replace f47 := shm_37 f47
  replace f48 := shm_107 f48
  replace f49 := shm_120 f49
  replace f51 := shm_111 f51
  replace f53 := shm_1338 f53
  replace f54 := shm_408 f54
  replace f55 := shm_1339 f55
  replace f56 := shm_1340 f56
  have q10 : n_v vs 10 = n_v vs 2 := f3.symm
  have q3 : n_v vs 3 = n_v vs 0 := f9.symm
  have q4 : n_v vs 4 = n_v vs 1 := f10.symm
  rw [q3] at s1
  rw [q3] at s2
  simp only [q3, q10, q4] at f23 f25 f27 f28 f43 f46 f47 f49 f51 f53 f54 f55 f56
  have ar_0_2_1 : w_ar w1 (n_v vs 0) 2 = w_ar ws (n_v vs 0) 2 := by show v_ad (w_fd w1 _ _) = v_ad (w_fd ws _ _); rw [s1.2, if_neg (fun e => absurd e.2 (by decide))]
  have ar_0_2_2 : w_ar w2 (n_v vs 0) 2 = w_ar ws (n_v vs 0) 2 := by rw [← ar_0_2_1]; show v_ad (w_fd w2 _ _) = v_ad (w_fd w1 _ _); rw [s2.2, if_neg (fun e => absurd e.2 (by decide))]
  have ar_2_7_1 : w_ar w1 (n_v vs 2) 7 = w_ar ws (n_v vs 2) 7 := by show v_ad (w_fd w1 _ _) = v_ad (w_fd ws _ _); rw [s1.2, if_neg (fun e => absurd e.2 (by decide))]
  have ar_2_7_2 : w_ar w2 (n_v vs 2) 7 = w_ar ws (n_v vs 2) 7 := by rw [← ar_2_7_1]; show v_ad (w_fd w2 _ _) = v_ad (w_fd w1 _ _); rw [s2.2, if_neg (fun e => absurd e.2 (by decide))]
  have ar_2_8_1 : w_ar w1 (n_v vs 2) 8 = w_ar ws (n_v vs 2) 8 := by show v_ad (w_fd w1 _ _) = v_ad (w_fd ws _ _); rw [s1.2, if_neg (fun e => absurd e.2 (by decide))]
  have ar_2_8_2 : w_ar w2 (n_v vs 2) 8 = w_ar ws (n_v vs 2) 8 := by rw [← ar_2_8_1]; show v_ad (w_fd w2 _ _) = v_ad (w_fd w1 _ _); rw [s2.2, if_neg (fun e => absurd e.2 (by decide))]
  have ar_2_9_1 : w_ar w1 (n_v vs 2) 9 = w_ar ws (n_v vs 2) 9 := by show v_ad (w_fd w1 _ _) = v_ad (w_fd ws _ _); rw [s1.2, if_neg (fun e => absurd e.2 (by decide))]
  have ar_2_9_2 : w_ar w2 (n_v vs 2) 9 = w_ar ws (n_v vs 2) 9 := by rw [← ar_2_9_1]; show v_ad (w_fd w2 _ _) = v_ad (w_fd w1 _ _); rw [s2.2, if_neg (fun e => absurd e.2 (by decide))]
  have ad_30 : v_ad (n_v vs 30) = w_ar ws (n_v vs 2) 9 := (congrArg v_ad f28).trans ar_2_9_2
  have ad_21 : v_ad (n_v vs 21) = w_ar ws (n_v vs 2) 8 := (congrArg v_ad f43).trans ar_2_8_2
  have ad_17 : v_ad (n_v vs 17) = w_ar ws (n_v vs 2) 7 := (congrArg v_ad f46).trans ar_2_7_2
  have ad_12 : v_ad (n_v vs 12) = w_ar ws (n_v vs 0) 2 := (congrArg v_ad f49).trans ar_0_2_2
  have g23 : v_iv (n_v vs 25) = w_fi w2 (n_v vs 0) 6 := congrArg v_iv f23
  have g25 : v_iv (n_v vs 32) = w_fi w2 (n_v vs 0) 5 := congrArg v_iv f25
  simp only [ad_30] at f26
  have g27 : v_iv (n_v vs 31) = w_fi w2 (n_v vs 2) 5 := congrArg v_iv f27
  simp only [ad_30, ad_21] at f32 f42
  have h42 : v_iv (n_v vs 22) = w_ei w2 (w_ar ws (n_v vs 2) 8) (v_iv (n_v vs 7)) := f42
  simp only [ad_17] at f45
  have h45 : v_iv (n_v vs 18) = w_ei w2 (w_ar ws (n_v vs 2) 7) (v_iv (n_v vs 7)) := f45
  simp only [ad_12] at f48
  have h48 : v_iv (n_v vs 13) = w_ei w2 (w_ar ws (n_v vs 0) 2) (v_iv (n_v vs 7)) := f48
  have g51 : v_iv (n_v vs 11) = w_fi w2 (n_v vs 2) 6 := congrArg v_iv f51
  simp only [ar_0_2_2, ar_2_7_2, ar_2_8_2, ar_2_9_2] at f53 f54 f55
  have fe_0_5_1 : w_fi ws (n_v vs 0) 5 = w_fi w1 (n_v vs 0) 5 := by show v_iv (w_fd _ _ _) = v_iv (w_fd _ _ _); rw [s1.2, if_neg (fun e => absurd e.2 (by decide))]
  have fe_0_6_1 : w_fi ws (n_v vs 0) 6 = w_fi w1 (n_v vs 0) 6 := by show v_iv (w_fd _ _ _) = v_iv (w_fd _ _ _); rw [s1.2, if_neg (fun e => absurd e.2 (by decide))]
  have fe_0_7_1 : w_fi ws (n_v vs 0) 7 = w_fi w1 (n_v vs 0) 7 := by show v_iv (w_fd _ _ _) = v_iv (w_fd _ _ _); rw [s1.2, if_neg (fun e => absurd e.2 (by decide))]
  have fe_0_16_1 : w_fi ws (n_v vs 0) 16 = w_fi w1 (n_v vs 0) 16 := by show v_iv (w_fd _ _ _) = v_iv (w_fd _ _ _); rw [s1.2, if_neg (fun e => absurd e.2 (by decide))]
  have fe_0_17_1 : w_fi ws (n_v vs 0) 17 = v_iv (n_v vs 40) := by show v_iv (w_fd _ _ _) = _; rw [s1.2, if_pos ⟨rfl, rfl⟩]
  have fe_2_5_1 : w_fi ws (n_v vs 2) 5 = w_fi w1 (n_v vs 2) 5 := by show v_iv (w_fd _ _ _) = v_iv (w_fd _ _ _); rw [s1.2, if_neg (fun e => absurd e.2 (by decide))]
  have fe_2_6_1 : w_fi ws (n_v vs 2) 6 = w_fi w1 (n_v vs 2) 6 := by show v_iv (w_fd _ _ _) = v_iv (w_fd _ _ _); rw [s1.2, if_neg (fun e => absurd e.2 (by decide))]
  have fe_0_5_2 : w_fi w1 (n_v vs 0) 5 = w_fi w2 (n_v vs 0) 5 := by show v_iv (w_fd _ _ _) = v_iv (w_fd _ _ _); rw [s2.2, if_neg (fun e => absurd e.2 (by decide))]
  have fe_0_6_2 : w_fi w1 (n_v vs 0) 6 = w_fi w2 (n_v vs 0) 6 := by show v_iv (w_fd _ _ _) = v_iv (w_fd _ _ _); rw [s2.2, if_neg (fun e => absurd e.2 (by decide))]
  have fe_0_7_2 : w_fi w1 (n_v vs 0) 7 = w_fi w2 (n_v vs 0) 7 := by show v_iv (w_fd _ _ _) = v_iv (w_fd _ _ _); rw [s2.2, if_neg (fun e => absurd e.2 (by decide))]
  have fe_0_16_2 : w_fi w1 (n_v vs 0) 16 = v_iv (n_v vs 36) := by show v_iv (w_fd _ _ _) = _; rw [s2.2, if_pos ⟨rfl, rfl⟩]
  have fe_0_17_2 : w_fi w1 (n_v vs 0) 17 = w_fi w2 (n_v vs 0) 17 := by show v_iv (w_fd _ _ _) = v_iv (w_fd _ _ _); rw [s2.2, if_neg (fun e => absurd e.2 (by decide))]
  have fe_2_5_2 : w_fi w1 (n_v vs 2) 5 = w_fi w2 (n_v vs 2) 5 := by show v_iv (w_fd _ _ _) = v_iv (w_fd _ _ _); rw [s2.2, if_neg (fun e => absurd e.2 (by decide))]
  have fe_2_6_2 : w_fi w1 (n_v vs 2) 6 = w_fi w2 (n_v vs 2) 6 := by show v_iv (w_fd _ _ _) = v_iv (w_fd _ _ _); rw [s2.2, if_neg (fun e => absurd e.2 (by decide))]
  have hE_0_2_1 : ∀ j : Int, w_ei ws (w_ar ws (n_v vs 0) 2) j = w_ei w1 (w_ar ws (n_v vs 0) 2) j := fun j => s1.1 _ _
  have hE_0_2_2 : ∀ j : Int, w_ei w1 (w_ar ws (n_v vs 0) 2) j = w_ei w2 (w_ar ws (n_v vs 0) 2) j := fun j => s2.1 _ _
  have hE_2_7_1 : ∀ j : Int, w_ei ws (w_ar ws (n_v vs 2) 7) j = w_ei w1 (w_ar ws (n_v vs 2) 7) j := fun j => s1.1 _ _
  have hE_2_7_2 : ∀ j : Int, w_ei w1 (w_ar ws (n_v vs 2) 7) j = w_ei w2 (w_ar ws (n_v vs 2) 7) j := fun j => s2.1 _ _
  have hE_2_8_1 : ∀ j : Int, w_ei ws (w_ar ws (n_v vs 2) 8) j = w_ei w1 (w_ar ws (n_v vs 2) 8) j := fun j => s1.1 _ _
  have hE_2_8_2 : ∀ j : Int, w_ei w1 (w_ar ws (n_v vs 2) 8) j = w_ei w2 (w_ar ws (n_v vs 2) 8) j := fun j => s2.1 _ _
  have hE_2_9_1 : ∀ j : Int, w_ei ws (w_ar ws (n_v vs 2) 9) j = w_ei w1 (w_ar ws (n_v vs 2) 9) j := fun j => s1.1 _ _
  have hE_2_9_2 : ∀ j : Int, w_ei w1 (w_ar ws (n_v vs 2) 9) j = w_ei w2 (w_ar ws (n_v vs 2) 9) j := fun j => s2.1 _ _
  have kz_0_5 := fdq_283 hD hth r0
  have kz_0_6 := fdq_53 hD hth r0
  have kz_0_7 := fdq_49 hD hth r0
  have kz_0_16 := fdq_284 hD hth r0
  have kz_0_17 := fdq_285 hD hth r0
  have kz_2_5 := fdq_82 hD hth r2
  have kz_2_6 := fdq_59 hD hth r2
  have nf0 : fc_1 PRD (20, [3, 10, 41], [60, 4, 0, 611, 16, 17, 6, 1005]) ws (vs) := by
    refine ⟨nf_in hl rfl, sgq_1342 ?_⟩
    · show PKI (w_fi ws (n_v vs 3) 16) (w_fi ws (n_v vs 3) 17) (w_fi ws (n_v vs 3) 6) (w_fi ws (n_v vs 10) 5) (v_iv (n_v vs 41))
      simp only [q10, q3]
      exact vc_Em_pickPiece_at_gn_3_0 (v_iv (n_v vs 1)) (v_iv (n_v vs 7)) (v_iv (n_v vs 11)) (v_iv (n_v vs 13)) (v_iv (n_v vs 16)) (v_iv (n_v vs 18)) (v_iv (n_v vs 19)) (v_iv (n_v vs 20)) (v_iv (n_v vs 22)) (v_iv (n_v vs 23)) (v_iv (n_v vs 24)) (v_iv (n_v vs 25)) (v_iv (n_v vs 26)) (v_iv (n_v vs 27)) (v_iv (n_v vs 28)) (v_iv (n_v vs 31)) (v_iv (n_v vs 32)) (v_iv (n_v vs 33)) (v_iv (n_v vs 34)) (v_iv (n_v vs 35)) (v_iv (n_v vs 36)) (v_iv (n_v vs 38)) (v_iv (n_v vs 39)) (v_iv (n_v vs 40)) (v_iv (n_v vs 41)) (v_iv (n_v vs 42)) (w_ei ws (w_ar ws (n_v vs 2) 9)) (w_ei ws (w_ar ws (n_v vs 0) 2)) (w_ei ws (w_ar ws (n_v vs 2) 7)) (w_ei ws (w_ar ws (n_v vs 2) 8)) (w_fi ws (n_v vs 0) 5) (w_fi ws (n_v vs 2) 5) (w_fi ws (n_v vs 2) 6) (w_fi ws (n_v vs 0) 6) (w_fi ws (n_v vs 0) 7) (w_ei w1 (w_ar ws (n_v vs 2) 9)) (w_ei w1 (w_ar ws (n_v vs 0) 2)) (w_ei w1 (w_ar ws (n_v vs 2) 7)) (w_ei w1 (w_ar ws (n_v vs 2) 8)) (w_fi w1 (n_v vs 0) 5) (w_fi w1 (n_v vs 2) 5) (w_fi w1 (n_v vs 2) 6) (w_fi w1 (n_v vs 0) 6) (w_fi w1 (n_v vs 0) 7) (w_fi w2 (n_v vs 0) 6) (w_fi w2 (n_v vs 0) 5) (w_ei w2 (w_ar ws (n_v vs 2) 9)) (w_fi w2 (n_v vs 2) 5) (w_ei w2 (w_ar ws (n_v vs 2) 8)) (w_ei w2 (w_ar ws (n_v vs 2) 7)) (w_ei w2 (w_ar ws (n_v vs 0) 2)) (w_fi w2 (n_v vs 2) 6) (w_fi w2 (n_v vs 0) 17) (w_fi w2 (n_v vs 0) 7) (w_fi ws (n_v vs 0) 16) (w_fi w1 (n_v vs 0) 16) (w_fi ws (n_v vs 0) 17) (w_fi w1 (n_v vs 0) 17) k1 k7 k11 k13 k16 k18 k19 k20 k22 k23 k24 k25 k26 k27 k28 k31 k32 k33 k34 k35 k36 k38 k39 k40 k41 k42 d0 d1 d4 f22 g23 f24 g25 f26 g27 f29 f32 f33 f34 f37 f38 f40 f41 h42 f44 h45 f47 h48 g51 f53 f54 f55 f56 fe_0_5_1 fe_0_6_1 fe_0_7_1 fe_0_16_1 fe_0_17_1 fe_2_5_1 fe_2_6_1 fe_0_5_2 fe_0_6_2 fe_0_7_2 fe_0_16_2 fe_0_17_2 fe_2_5_2 fe_2_6_2 hE_0_2_1 hE_0_2_2 hE_2_7_1 hE_2_7_2 hE_2_8_1 hE_2_8_2 hE_2_9_1 hE_2_9_2 kz_0_5 kz_0_6 kz_0_7 kz_0_16 kz_0_17 kz_2_5 kz_2_6
  refine ⟨(fun _ h => (by cases h)), [], trivial, ?_, (fun _ h => (by cases h))⟩
  rw [List.append_nil]
  exact List.forall_mem_cons.mpr ⟨⟨show (20 : Nat) < 100 from by decide, nf0⟩, (fun _ h => (by cases h))⟩
set_option maxHeartbeats 4000000 in
theorem vc_Em_pickPiece_at_gn_4_0 (x42 : Int) (drawnNodes_0 : Int) (nodes_0o2 : Int) (pieceNodes_0 : Int) (pieceEnds_0 : Int) (k42 : 0 ≤ x42 ∧ x42 ≤ 0) (kz_0_6 : 0 ≤ drawnNodes_0 ∧ drawnNodes_0 ≤ 33554431) (kz_0_16 : 0 ≤ pieceNodes_0 ∧ pieceNodes_0 ≤ 33554431) (kz_0_17 : 0 ≤ pieceEnds_0 ∧ pieceEnds_0 ≤ 33554431) (kz_2_5 : 0 ≤ nodes_0o2 ∧ nodes_0o2 ≤ 24) : PKA (pieceNodes_0) (pieceEnds_0) (drawnNodes_0) (nodes_0o2) (x42) := by
  first
    | exact Or.inl (by omega)
    | (rcases (‹PKI _ _ _ _ _›) with q | ⟨_, q⟩
       · omega
       · exact Or.inr q)
set_option maxHeartbeats 4000000 in
theorem vc_Em_pickPiece_at_gn_4_1 (x42 : Int) (cycles_0 : Int) (pieceCycle_0 : Int) (k42 : 0 ≤ x42 ∧ x42 ≤ 0) (kz_0_7 : 0 ≤ cycles_0 ∧ cycles_0 ≤ 50) (kz_0_18 : 0 ≤ pieceCycle_0 ∧ pieceCycle_0 ≤ 49) : (x42 = 0) ∨ ((pieceCycle_0 + 1) ≤ cycles_0) := by
  first
    | omega
  
def o_Em_pickPiece_at_gn_4 : or_T := (184, 43, [(0, (2, 0, 0, [1])), (2, (2, 0, 0, [5])), (42, (0, 0, 0, []))], [], [], [], [(20, [0, 2, 42], [60, 4, 0, 612, 16, 17, 6, 1005]), (20, [42, 0], [50, 2, 0, 1018, 1007, 3, 6, 1, 2, 1, 0, 0, 0, 0, 7, 4, 3, 2, 1, 18, 0, 1, 2, 1, 7])], [], [])
theorem oo_Em_pickPiece_at_gn_4 {kA : Nat → ClassId} : or_ok PRD kA GG o_Em_pickPiece_at_gn_4 := by
  refine or_mk fun A ta ws vs hD hth hl => ?_
  intro t0 r0 t2 r2 t42 k42
  have kz_0_6 := fdq_53 hD hth r0
  have kz_0_7 := fdq_49 hD hth r0
  have kz_0_16 := fdq_284 hD hth r0
  have kz_0_17 := fdq_285 hD hth r0
  have kz_0_18 := fdq_286 hD hth r0
  have kz_2_5 := fdq_82 hD hth r2
  have nf0 : fc_1 PRD (20, [0, 2, 42], [60, 4, 0, 612, 16, 17, 6, 1005]) ws (vs) := ⟨nf_in hl rfl, sgq_1343 (vc_Em_pickPiece_at_gn_4_0 (v_iv (n_v vs 42)) (w_fi ws (n_v vs 0) 6) (w_fi ws (n_v vs 2) 5) (w_fi ws (n_v vs 0) 16) (w_fi ws (n_v vs 0) 17) k42 kz_0_6 kz_0_16 kz_0_17 kz_2_5)⟩
  have nf1 : fc_1 PRD (20, [42, 0], [50, 2, 0, 1018, 1007, 3, 6, 1, 2, 1, 0, 0, 0, 0, 7, 4, 3, 2, 1, 18, 0, 1, 2, 1, 7]) ws (vs) := ⟨nf_in hl rfl, sgq_1344 (vc_Em_pickPiece_at_gn_4_1 (v_iv (n_v vs 42)) (w_fi ws (n_v vs 0) 7) (w_fi ws (n_v vs 0) 18) k42 kz_0_7 kz_0_18)⟩
  refine ⟨(fun _ h => (by cases h)), [], trivial, ?_, (fun _ h => (by cases h))⟩
  rw [List.append_nil]
  exact List.forall_mem_cons.mpr ⟨⟨show (20 : Nat) < 100 from by decide, nf0⟩, List.forall_mem_cons.mpr ⟨⟨show (20 : Nat) < 100 from by decide, nf1⟩, (fun _ h => (by cases h))⟩⟩
set_option maxHeartbeats 4000000 in
theorem vc_Em_pickPiece_at_gn_5_0 (x1 : Int) (x7 : Int) (x11 : Int) (x13 : Int) (x16 : Int) (x18 : Int) (x19 : Int) (x20 : Int) (x22 : Int) (x23 : Int) (x24 : Int) (x25 : Int) (x26 : Int) (x27 : Int) (x28 : Int) (x31 : Int) (x32 : Int) (x33 : Int) (x34 : Int) (x35 : Int) (x36 : Int) (x38 : Int) (x39 : Int) (near_0o2 : Int → Int) (block_0 : Int → Int) (tail_0o2 : Int → Int) (head_0o2 : Int → Int) (blockNodes_0 : Int) (nodes_0o2 : Int) (edges_0o2 : Int) (drawnNodes_0 : Int) (cycles_0 : Int) (near_1o2 : Int → Int) (block_1 : Int → Int) (tail_1o2 : Int → Int) (head_1o2 : Int → Int) (blockNodes_1 : Int) (nodes_1o2 : Int) (edges_1o2 : Int) (drawnNodes_1 : Int) (cycles_1 : Int) (near_2o2 : Int → Int) (drawnNodes_2 : Int) (blockNodes_2 : Int) (nodes_2o2 : Int) (head_2o2 : Int → Int) (tail_2o2 : Int → Int) (block_2 : Int → Int) (edges_2o2 : Int) (pieceEnds_2 : Int) (cycles_2 : Int) (pieceNodes_0 : Int) (pieceNodes_1 : Int) (pieceEnds_0 : Int) (pieceEnds_1 : Int) (k1 : 0 ≤ x1 ∧ x1 ≤ 71) (k7 : 0 ≤ x7 ∧ x7 ≤ 71) (k11 : 1 ≤ x11 ∧ x11 ≤ 72) (k13 : 0 ≤ x13 ∧ x13 ≤ 71) (k16 : 1 ≤ x16 ∧ x16 ≤ 1) (k18 : 0 ≤ x18 ∧ x18 ≤ 23) (k19 : 1 ≤ x19 ∧ x19 ≤ 8388608) (k20 : 1 ≤ x20 ∧ x20 ≤ 1) (k22 : 0 ≤ x22 ∧ x22 ≤ 23) (k23 : 1 ≤ x23 ∧ x23 ≤ 8388608) (k24 : 0 ≤ x24 ∧ x24 ≤ 16777215) (k25 : 0 ≤ x25 ∧ x25 ≤ 33554431) (k26 : (-1) ≤ x26 ∧ x26 ≤ (-1)) (k27 : (-2147483648) ≤ x27 ∧ x27 ≤ 2147483647) (k28 : 0 ≤ x28 ∧ x28 ≤ 0) (k31 : 0 ≤ x31 ∧ x31 ≤ 24) (k32 : 0 ≤ x32 ∧ x32 ≤ 33554431) (k33 : (-1) ≤ x33 ∧ x33 ≤ (-1)) (k34 : (-2147483648) ≤ x34 ∧ x34 ≤ 2147483647) (k35 : 0 ≤ x35 ∧ x35 ≤ 33554431) (k36 : 0 ≤ x36 ∧ x36 ≤ 16777215) (k38 : (-2147483648) ≤ x38 ∧ x38 ≤ 999999) (k39 : 1 ≤ x39 ∧ x39 ≤ 72) (d0 : x7 + 1 ≤ x39 ∧ x39 ≤ x7 + 1) (d1 : x11 + (-4294967296) ≤ x39 ∧ x39 ≤ x11 + 0) (d4 : x11 + (-4294967296) ≤ x7 ∧ x7 ≤ x11 + (-1)) (f20 : x28 = 0) (f23 : SPZ (near_2o2) (x31) (x28) (x35) (x36)) (f24 : bvp (x35) = bvp (x32) &&& bvp (x34)) (f25 : bvp (x34) = bvp (x25) ^^^ bvp (x33)) (g26 : x25 = drawnNodes_2) (g27 : x32 = blockNodes_2) (g28 : x31 = nodes_2o2) (f32 : bvp (x28) = bvp (x24) &&& bvp (x27)) (f33 : bvp (x27) = bvp (x25) ^^^ bvp (x26)) (f35 : bvp (x24) = bvp (x19) ||| bvp (x23)) (f36 : bvp (x23) = bvp (x20) <<< (x22).toNat) (h37 : x22 = head_2o2 (x7)) (f39 : bvp (x19) = bvp (x16) <<< (x18).toNat) (h40 : x18 = tail_2o2 (x7)) (f42 : x13 = x1) (h43 : x13 = block_2 (x7)) (g46 : x11 = edges_2o2) (f48 : BLN (blockNodes_2) (nodes_2o2) (edges_2o2) (block_2) (tail_2o2) (head_2o2) (x1)) (f49 : NOK (nodes_2o2) (edges_2o2) (tail_2o2) (head_2o2) (near_2o2)) (f50 : CNE (edges_2o2) (block_2) (tail_2o2) (head_2o2)) (f51 : DBN (drawnNodes_2) (blockNodes_2)) (fe_0_5_1 : blockNodes_0 = blockNodes_1) (fe_0_6_1 : drawnNodes_0 = drawnNodes_1) (fe_0_7_1 : cycles_0 = cycles_1) (fe_0_16_1 : pieceNodes_0 = pieceNodes_1) (fe_0_17_1 : pieceEnds_0 = x24) (fe_2_5_1 : nodes_0o2 = nodes_1o2) (fe_2_6_1 : edges_0o2 = edges_1o2) (fe_0_5_2 : blockNodes_1 = blockNodes_2) (fe_0_6_2 : drawnNodes_1 = drawnNodes_2) (fe_0_7_2 : cycles_1 = cycles_2) (fe_0_16_2 : pieceNodes_1 = x36) (fe_0_17_2 : pieceEnds_1 = pieceEnds_2) (fe_2_5_2 : nodes_1o2 = nodes_2o2) (fe_2_6_2 : edges_1o2 = edges_2o2) (hE_0_2_1 : ∀ j : Int, block_0 j = block_1 j) (hE_0_2_2 : ∀ j : Int, block_1 j = block_2 j) (hE_2_7_1 : ∀ j : Int, tail_0o2 j = tail_1o2 j) (hE_2_7_2 : ∀ j : Int, tail_1o2 j = tail_2o2 j) (hE_2_8_1 : ∀ j : Int, head_0o2 j = head_1o2 j) (hE_2_8_2 : ∀ j : Int, head_1o2 j = head_2o2 j) (hE_2_9_1 : ∀ j : Int, near_0o2 j = near_1o2 j) (hE_2_9_2 : ∀ j : Int, near_1o2 j = near_2o2 j) (kz_0_5 : 0 ≤ blockNodes_0 ∧ blockNodes_0 ≤ 33554431) (kz_0_6 : 0 ≤ drawnNodes_0 ∧ drawnNodes_0 ≤ 33554431) (kz_0_7 : 0 ≤ cycles_0 ∧ cycles_0 ≤ 50) (kz_0_16 : 0 ≤ pieceNodes_0 ∧ pieceNodes_0 ≤ 33554431) (kz_0_17 : 0 ≤ pieceEnds_0 ∧ pieceEnds_0 ≤ 33554431) (kz_2_5 : 0 ≤ nodes_0o2 ∧ nodes_0o2 ≤ 24) (kz_2_6 : 0 ≤ edges_0o2 ∧ edges_0o2 ≤ 72) : PKI (pieceNodes_0) (pieceEnds_0) (drawnNodes_0) (nodes_0o2) (x38) := by
  subst fe_0_5_1
  subst fe_0_6_1
  subst fe_0_7_1
  subst fe_0_16_1
  subst fe_2_5_1
  subst fe_2_6_1
  subst fe_0_5_2
  subst fe_0_6_2
  subst fe_0_7_2
  subst fe_0_17_2
  subst fe_2_5_2
  subst fe_2_6_2
  have e_hE_0_2_1 := funext hE_0_2_1; subst e_hE_0_2_1
  have e_hE_0_2_2 := funext hE_0_2_2; subst e_hE_0_2_2
  have e_hE_2_7_1 := funext hE_2_7_1; subst e_hE_2_7_1
  have e_hE_2_7_2 := funext hE_2_7_2; subst e_hE_2_7_2
  have e_hE_2_8_1 := funext hE_2_8_1; subst e_hE_2_8_1
  have e_hE_2_8_2 := funext hE_2_8_2; subst e_hE_2_8_2
  have e_hE_2_9_1 := funext hE_2_9_1; subst e_hE_2_9_1
  have e_hE_2_9_2 := funext hE_2_9_2; subst e_hE_2_9_2
  first
    | (have o1 : x16 = 1 := by omega
       have o2 : x20 = 1 := by omega
       subst o1 o2
       have hB := (‹BLN _ _ _ _ _ _ _›); have hN := (‹NOK _ _ _ _ _›); have hS := (‹SPZ _ _ _ _ _›); have hD := (‹DBN _ _›)
       have en : nodes_0o2 = x31 := by omega
       have ed : drawnNodes_0 = x25 := by omega
       have eb : blockNodes_0 = x32 := by omega
       subst en ed eb
       exact pki_new (e := x7) (z0 := x13) (x := x18) (y := x22) (q1 := x19) (q2 := x23) (q3 := x24) (r := x27) (m1 := x26) (fr := x28) (r2 := x34) (m2 := x33) (al := x35) (an := x36) (ed := pieceEnds_0) hB hN ‹CNE _ _ _ _› hD (by omega) (by omega) (by omega) (by omega) (by assumption) (by omega) (by assumption) (by assumption) (by assumption) (by assumption) (by assumption) (by assumption) (by omega) (by assumption) (by assumption) (by assumption) (by omega) hS (by omega) rfl (by first | exact Or.inl ⟨by omega, by omega⟩ | exact Or.inr ⟨by omega, x38, x39, by assumption, by assumption, by rw [show pieceEnds_0 = x40 by omega]; assumption⟩) (by omega) (by omega) (by omega) (by omega) (by omega))
def o_Em_pickPiece_at_gn_5 : or_T := (8, 40, [(0, (2, 0, 0, [1])), (1, (0, 0, 71, [])), (2, (2, 0, 0, [5])), (7, (0, 0, 71, [])), (11, (0, 1, 72, [])), (13, (0, 0, 71, [])), (16, (0, 1, 1, [])), (18, (0, 0, 23, [])), (19, (0, 1, 8388608, [])), (20, (0, 1, 1, [])), (22, (0, 0, 23, [])), (23, (0, 1, 8388608, [])), (24, (0, 0, 16777215, [])), (25, (0, 0, 33554431, [])), (26, (0, -1, -1, [])), (27, (0, -2147483648, 2147483647, [])), (28, (0, 0, 0, [])), (31, (0, 0, 24, [])), (32, (0, 0, 33554431, [])), (33, (0, -1, -1, [])), (34, (0, -2147483648, 2147483647, [])), (35, (0, 0, 33554431, [])), (36, (0, 0, 16777215, [])), (38, (0, -2147483648, 999999, [])), (39, (0, 1, 72, []))], [(24, [2, 10], []), (24, [0, 3], []), (24, [1, 4], []), (101, [3, 24], [17]), (101, [3, 36], [16]), (8, [28], [0]), (20, [30, 31, 28, 35, 36], [61, 1, 579]), (16, [35, 32, 34], [0]), (16, [34, 25, 33], [2]), (9, [25, 3], [6]), (9, [32, 3], [5]), (9, [31, 10], [5]), (9, [30, 10], [9]), (16, [28, 24, 27], [0]), (16, [27, 25, 26], [2]), (16, [24, 19, 23], [1]), (16, [23, 20, 22], [3]), (10, [22, 21, 7], []), (9, [21, 10], [8]), (16, [19, 16, 18], [3]), (10, [18, 17, 7], []), (9, [17, 10], [7]), (7, [13, 4], [0]), (10, [13, 12, 7], []), (9, [12, 3], [2]), (9, [11, 10], [6]), (20, [3, 10, 4], [60, 3, 3, 600, 5, 1005, 1006, 2, 1007, 1008]), (20, [10], [60, 2, 3, 595, 5, 6, 7, 8, 9]), (20, [3, 10], [60, 1, 3, 599, 1006, 2, 1007, 1008]), (20, [3], [60, 2, 0, 602, 6, 5])], [], [], [(20, [3, 10, 38], [60, 4, 0, 611, 16, 17, 6, 1005])], [], [(39, 7, 1, 1), (39, 11, -4294967296, 0), (7, 11, -4294967296, -1)])
theorem oo_Em_pickPiece_at_gn_5 {kA : Nat → ClassId} : or_ok PRD kA GG o_Em_pickPiece_at_gn_5 := by
  refine or_mk fun A ta ws vs hD hth hl => ?_
  intro t0 r0 t1 k1 t2 r2 t7 k7 t11 k11 t13 k13 t16 k16 t18 k18 t19 k19 t20 k20 t22 k22 t23 k23 t24 k24 t25 k25 t26 k26 t27 k27 t28 k28 t31 k31 t32 k32 t33 k33 t34 k34 t35 k35 t36 k36 t38 k38 t39 k39 d0 d1 d4 f2 f8 f9 ta1 w1 le1 s1 ta2 w2 le2 s2 f20 f23 f24 f25 f26 f27 f28 f29 f32 f33 f35 f36 f37 f38 f39 f40 f41 f42 f43 f44 f46 f48 f49 f50 f51
  replace f2 := shm_5 f2
  replace f8 := shm_5 f8
  replace f9 := shm_5 f9
  have s1 : (∀ b j, w_el ws b j = w_el w1 b j) ∧ ∀ b j, w_fd ws b j = if b = v_ad (n_v vs 3) ∧ j = 17 then n_v vs 24 else w_fd w1 b j := s1.2
  have s2 : (∀ b j, w_el w1 b j = w_el w2 b j) ∧ ∀ b j, w_fd w1 b j = if b = v_ad (n_v vs 3) ∧ j = 16 then n_v vs 36 else w_fd w2 b j := s2.2
  replace f20 := shm_192 f20
  replace f23 := shm_822 f23
  replace f24 := shm_11 f24
  replace f25 := shm_33 f25
  replace f26 := shm_111 f26
  replace f27 := shm_110 f27
  replace f28 := shm_110 f28
  replace f29 := shm_119 f29
  replace f32 := shm_11 f32
  replace f33 := shm_33 f33
  replace f35 := shm_354 f35
  replace f36 := shm_349 f36
  replace f37 := shm_107 f37
  replace f38 := shm_293 f38
  replace f39 := shm_349 f39
  replace f40 := shm_107 f40
  replace f41 := shm_198 f41
  replace f42 := shm_37 f42
  replace f43 := shm_107 f43
  replace f44 := shm_120 f44
  replace f46 := shm_111 f46
  replace f48 := shm_1338 f48
  replace f49 := shm_408 f49
  replace f50 := shm_1339 f50
  replace f51 := shm_1340 f51
  have q10 : n_v vs 10 = n_v vs 2 := f2.symm
  have q3 : n_v vs 3 = n_v vs 0 := f8.symm
  have q4 : n_v vs 4 = n_v vs 1 := f9.symm
  rw [q3] at s1
  rw [q3] at s2
  simp only [q3, q10, q4] at f26 f27 f28 f29 f38 f41 f42 f44 f46 f48 f49 f50 f51
  have ar_0_2_1 : w_ar w1 (n_v vs 0) 2 = w_ar ws (n_v vs 0) 2 := by show v_ad (w_fd w1 _ _) = v_ad (w_fd ws _ _); rw [s1.2, if_neg (fun e => absurd e.2 (by decide))]
  have ar_0_2_2 : w_ar w2 (n_v vs 0) 2 = w_ar ws (n_v vs 0) 2 := by rw [← ar_0_2_1]; show v_ad (w_fd w2 _ _) = v_ad (w_fd w1 _ _); rw [s2.2, if_neg (fun e => absurd e.2 (by decide))]
  have ar_2_7_1 : w_ar w1 (n_v vs 2) 7 = w_ar ws (n_v vs 2) 7 := by show v_ad (w_fd w1 _ _) = v_ad (w_fd ws _ _); rw [s1.2, if_neg (fun e => absurd e.2 (by decide))]
  have ar_2_7_2 : w_ar w2 (n_v vs 2) 7 = w_ar ws (n_v vs 2) 7 := by rw [← ar_2_7_1]; show v_ad (w_fd w2 _ _) = v_ad (w_fd w1 _ _); rw [s2.2, if_neg (fun e => absurd e.2 (by decide))]
  have ar_2_8_1 : w_ar w1 (n_v vs 2) 8 = w_ar ws (n_v vs 2) 8 := by show v_ad (w_fd w1 _ _) = v_ad (w_fd ws _ _); rw [s1.2, if_neg (fun e => absurd e.2 (by decide))]
  have ar_2_8_2 : w_ar w2 (n_v vs 2) 8 = w_ar ws (n_v vs 2) 8 := by rw [← ar_2_8_1]; show v_ad (w_fd w2 _ _) = v_ad (w_fd w1 _ _); rw [s2.2, if_neg (fun e => absurd e.2 (by decide))]
  have ar_2_9_1 : w_ar w1 (n_v vs 2) 9 = w_ar ws (n_v vs 2) 9 := by show v_ad (w_fd w1 _ _) = v_ad (w_fd ws _ _); rw [s1.2, if_neg (fun e => absurd e.2 (by decide))]
  have ar_2_9_2 : w_ar w2 (n_v vs 2) 9 = w_ar ws (n_v vs 2) 9 := by rw [← ar_2_9_1]; show v_ad (w_fd w2 _ _) = v_ad (w_fd w1 _ _); rw [s2.2, if_neg (fun e => absurd e.2 (by decide))]
  have ad_30 : v_ad (n_v vs 30) = w_ar ws (n_v vs 2) 9 := (congrArg v_ad f29).trans ar_2_9_2
  have ad_21 : v_ad (n_v vs 21) = w_ar ws (n_v vs 2) 8 := (congrArg v_ad f38).trans ar_2_8_2
  have ad_17 : v_ad (n_v vs 17) = w_ar ws (n_v vs 2) 7 := (congrArg v_ad f41).trans ar_2_7_2
  have ad_12 : v_ad (n_v vs 12) = w_ar ws (n_v vs 0) 2 := (congrArg v_ad f44).trans ar_0_2_2
  simp only [ad_30, ar_0_2_1, ar_2_7_1, ar_2_8_1, ar_2_9_1] at f23
  have g26 : v_iv (n_v vs 25) = w_fi w2 (n_v vs 0) 6 := congrArg v_iv f26
  have g27 : v_iv (n_v vs 32) = w_fi w2 (n_v vs 0) 5 := congrArg v_iv f27
  have g28 : v_iv (n_v vs 31) = w_fi w2 (n_v vs 2) 5 := congrArg v_iv f28
  simp only [ad_21] at f37
  have h37 : v_iv (n_v vs 22) = w_ei w2 (w_ar ws (n_v vs 2) 8) (v_iv (n_v vs 7)) := f37
  simp only [ad_17] at f40
  have h40 : v_iv (n_v vs 18) = w_ei w2 (w_ar ws (n_v vs 2) 7) (v_iv (n_v vs 7)) := f40
  simp only [ad_12] at f43
  have h43 : v_iv (n_v vs 13) = w_ei w2 (w_ar ws (n_v vs 0) 2) (v_iv (n_v vs 7)) := f43
  have g46 : v_iv (n_v vs 11) = w_fi w2 (n_v vs 2) 6 := congrArg v_iv f46
  simp only [ar_0_2_2, ar_2_7_2, ar_2_8_2, ar_2_9_2] at f48 f49 f50
  have fe_0_5_1 : w_fi ws (n_v vs 0) 5 = w_fi w1 (n_v vs 0) 5 := by show v_iv (w_fd _ _ _) = v_iv (w_fd _ _ _); rw [s1.2, if_neg (fun e => absurd e.2 (by decide))]
  have fe_0_6_1 : w_fi ws (n_v vs 0) 6 = w_fi w1 (n_v vs 0) 6 := by show v_iv (w_fd _ _ _) = v_iv (w_fd _ _ _); rw [s1.2, if_neg (fun e => absurd e.2 (by decide))]
  have fe_0_7_1 : w_fi ws (n_v vs 0) 7 = w_fi w1 (n_v vs 0) 7 := by show v_iv (w_fd _ _ _) = v_iv (w_fd _ _ _); rw [s1.2, if_neg (fun e => absurd e.2 (by decide))]
  have fe_0_16_1 : w_fi ws (n_v vs 0) 16 = w_fi w1 (n_v vs 0) 16 := by show v_iv (w_fd _ _ _) = v_iv (w_fd _ _ _); rw [s1.2, if_neg (fun e => absurd e.2 (by decide))]
  have fe_0_17_1 : w_fi ws (n_v vs 0) 17 = v_iv (n_v vs 24) := by show v_iv (w_fd _ _ _) = _; rw [s1.2, if_pos ⟨rfl, rfl⟩]
  have fe_2_5_1 : w_fi ws (n_v vs 2) 5 = w_fi w1 (n_v vs 2) 5 := by show v_iv (w_fd _ _ _) = v_iv (w_fd _ _ _); rw [s1.2, if_neg (fun e => absurd e.2 (by decide))]
  have fe_2_6_1 : w_fi ws (n_v vs 2) 6 = w_fi w1 (n_v vs 2) 6 := by show v_iv (w_fd _ _ _) = v_iv (w_fd _ _ _); rw [s1.2, if_neg (fun e => absurd e.2 (by decide))]
  have fe_0_5_2 : w_fi w1 (n_v vs 0) 5 = w_fi w2 (n_v vs 0) 5 := by show v_iv (w_fd _ _ _) = v_iv (w_fd _ _ _); rw [s2.2, if_neg (fun e => absurd e.2 (by decide))]
  have fe_0_6_2 : w_fi w1 (n_v vs 0) 6 = w_fi w2 (n_v vs 0) 6 := by show v_iv (w_fd _ _ _) = v_iv (w_fd _ _ _); rw [s2.2, if_neg (fun e => absurd e.2 (by decide))]
  have fe_0_7_2 : w_fi w1 (n_v vs 0) 7 = w_fi w2 (n_v vs 0) 7 := by show v_iv (w_fd _ _ _) = v_iv (w_fd _ _ _); rw [s2.2, if_neg (fun e => absurd e.2 (by decide))]
  have fe_0_16_2 : w_fi w1 (n_v vs 0) 16 = v_iv (n_v vs 36) := by show v_iv (w_fd _ _ _) = _; rw [s2.2, if_pos ⟨rfl, rfl⟩]
  have fe_0_17_2 : w_fi w1 (n_v vs 0) 17 = w_fi w2 (n_v vs 0) 17 := by show v_iv (w_fd _ _ _) = v_iv (w_fd _ _ _); rw [s2.2, if_neg (fun e => absurd e.2 (by decide))]
  have fe_2_5_2 : w_fi w1 (n_v vs 2) 5 = w_fi w2 (n_v vs 2) 5 := by show v_iv (w_fd _ _ _) = v_iv (w_fd _ _ _); rw [s2.2, if_neg (fun e => absurd e.2 (by decide))]
  have fe_2_6_2 : w_fi w1 (n_v vs 2) 6 = w_fi w2 (n_v vs 2) 6 := by show v_iv (w_fd _ _ _) = v_iv (w_fd _ _ _); rw [s2.2, if_neg (fun e => absurd e.2 (by decide))]
  have hE_0_2_1 : ∀ j : Int, w_ei ws (w_ar ws (n_v vs 0) 2) j = w_ei w1 (w_ar ws (n_v vs 0) 2) j := fun j => s1.1 _ _
  have hE_0_2_2 : ∀ j : Int, w_ei w1 (w_ar ws (n_v vs 0) 2) j = w_ei w2 (w_ar ws (n_v vs 0) 2) j := fun j => s2.1 _ _
  have hE_2_7_1 : ∀ j : Int, w_ei ws (w_ar ws (n_v vs 2) 7) j = w_ei w1 (w_ar ws (n_v vs 2) 7) j := fun j => s1.1 _ _
  have hE_2_7_2 : ∀ j : Int, w_ei w1 (w_ar ws (n_v vs 2) 7) j = w_ei w2 (w_ar ws (n_v vs 2) 7) j := fun j => s2.1 _ _
  have hE_2_8_1 : ∀ j : Int, w_ei ws (w_ar ws (n_v vs 2) 8) j = w_ei w1 (w_ar ws (n_v vs 2) 8) j := fun j => s1.1 _ _
  have hE_2_8_2 : ∀ j : Int, w_ei w1 (w_ar ws (n_v vs 2) 8) j = w_ei w2 (w_ar ws (n_v vs 2) 8) j := fun j => s2.1 _ _
  have hE_2_9_1 : ∀ j : Int, w_ei ws (w_ar ws (n_v vs 2) 9) j = w_ei w1 (w_ar ws (n_v vs 2) 9) j := fun j => s1.1 _ _
  have hE_2_9_2 : ∀ j : Int, w_ei w1 (w_ar ws (n_v vs 2) 9) j = w_ei w2 (w_ar ws (n_v vs 2) 9) j := fun j => s2.1 _ _
  have kz_0_5 := fdq_283 hD hth r0
  have kz_0_6 := fdq_53 hD hth r0
  have kz_0_7 := fdq_49 hD hth r0
  have kz_0_16 := fdq_284 hD hth r0
  have kz_0_17 := fdq_285 hD hth r0
  have kz_2_5 := fdq_82 hD hth r2
  have kz_2_6 := fdq_59 hD hth r2
  have nf0 : fc_1 PRD (20, [3, 10, 38], [60, 4, 0, 611, 16, 17, 6, 1005]) ws (vs) := by
    refine ⟨nf_in hl rfl, sgq_1342 ?_⟩
    · show PKI (w_fi ws (n_v vs 3) 16) (w_fi ws (n_v vs 3) 17) (w_fi ws (n_v vs 3) 6) (w_fi ws (n_v vs 10) 5) (v_iv (n_v vs 38))
      simp only [q10, q3]
      exact vc_Em_pickPiece_at_gn_5_0 (v_iv (n_v vs 1)) (v_iv (n_v vs 7)) (v_iv (n_v vs 11)) (v_iv (n_v vs 13)) (v_iv (n_v vs 16)) (v_iv (n_v vs 18)) (v_iv (n_v vs 19)) (v_iv (n_v vs 20)) (v_iv (n_v vs 22)) (v_iv (n_v vs 23)) (v_iv (n_v vs 24)) (v_iv (n_v vs 25)) (v_iv (n_v vs 26)) (v_iv (n_v vs 27)) (v_iv (n_v vs 28)) (v_iv (n_v vs 31)) (v_iv (n_v vs 32)) (v_iv (n_v vs 33)) (v_iv (n_v vs 34)) (v_iv (n_v vs 35)) (v_iv (n_v vs 36)) (v_iv (n_v vs 38)) (v_iv (n_v vs 39)) (w_ei ws (w_ar ws (n_v vs 2) 9)) (w_ei ws (w_ar ws (n_v vs 0) 2)) (w_ei ws (w_ar ws (n_v vs 2) 7)) (w_ei ws (w_ar ws (n_v vs 2) 8)) (w_fi ws (n_v vs 0) 5) (w_fi ws (n_v vs 2) 5) (w_fi ws (n_v vs 2) 6) (w_fi ws (n_v vs 0) 6) (w_fi ws (n_v vs 0) 7) (w_ei w1 (w_ar ws (n_v vs 2) 9)) (w_ei w1 (w_ar ws (n_v vs 0) 2)) (w_ei w1 (w_ar ws (n_v vs 2) 7)) (w_ei w1 (w_ar ws (n_v vs 2) 8)) (w_fi w1 (n_v vs 0) 5) (w_fi w1 (n_v vs 2) 5) (w_fi w1 (n_v vs 2) 6) (w_fi w1 (n_v vs 0) 6) (w_fi w1 (n_v vs 0) 7) (w_ei w2 (w_ar ws (n_v vs 2) 9)) (w_fi w2 (n_v vs 0) 6) (w_fi w2 (n_v vs 0) 5) (w_fi w2 (n_v vs 2) 5) (w_ei w2 (w_ar ws (n_v vs 2) 8)) (w_ei w2 (w_ar ws (n_v vs 2) 7)) (w_ei w2 (w_ar ws (n_v vs 0) 2)) (w_fi w2 (n_v vs 2) 6) (w_fi w2 (n_v vs 0) 17) (w_fi w2 (n_v vs 0) 7) (w_fi ws (n_v vs 0) 16) (w_fi w1 (n_v vs 0) 16) (w_fi ws (n_v vs 0) 17) (w_fi w1 (n_v vs 0) 17) k1 k7 k11 k13 k16 k18 k19 k20 k22 k23 k24 k25 k26 k27 k28 k31 k32 k33 k34 k35 k36 k38 k39 d0 d1 d4 f20 f23 f24 f25 g26 g27 g28 f32 f33 f35 f36 h37 f39 h40 f42 h43 g46 f48 f49 f50 f51 fe_0_5_1 fe_0_6_1 fe_0_7_1 fe_0_16_1 fe_0_17_1 fe_2_5_1 fe_2_6_1 fe_0_5_2 fe_0_6_2 fe_0_7_2 fe_0_16_2 fe_0_17_2 fe_2_5_2 fe_2_6_2 hE_0_2_1 hE_0_2_2 hE_2_7_1 hE_2_7_2 hE_2_8_1 hE_2_8_2 hE_2_9_1 hE_2_9_2 kz_0_5 kz_0_6 kz_0_7 kz_0_16 kz_0_17 kz_2_5 kz_2_6
  refine ⟨(fun _ h => (by cases h)), [], trivial, ?_, (fun _ h => (by cases h))⟩
  rw [List.append_nil]
  exact List.forall_mem_cons.mpr ⟨⟨show (20 : Nat) < 100 from by decide, nf0⟩, (fun _ h => (by cases h))⟩
set_option maxHeartbeats 4000000 in
theorem vc_Em_pickPiece_at_gn_6_0 (x39 : Int) (drawnNodes_0 : Int) (nodes_0o2 : Int) (pieceNodes_0 : Int) (pieceEnds_0 : Int) (k39 : 0 ≤ x39 ∧ x39 ≤ 0) (kz_0_6 : 0 ≤ drawnNodes_0 ∧ drawnNodes_0 ≤ 33554431) (kz_0_16 : 0 ≤ pieceNodes_0 ∧ pieceNodes_0 ≤ 33554431) (kz_0_17 : 0 ≤ pieceEnds_0 ∧ pieceEnds_0 ≤ 33554431) (kz_2_5 : 0 ≤ nodes_0o2 ∧ nodes_0o2 ≤ 24) : PKA (pieceNodes_0) (pieceEnds_0) (drawnNodes_0) (nodes_0o2) (x39) := by
  first
    | exact Or.inl (by omega)
    | (rcases (‹PKI _ _ _ _ _›) with q | ⟨_, q⟩
       · omega
       · exact Or.inr q)
set_option maxHeartbeats 4000000 in
theorem vc_Em_pickPiece_at_gn_6_1 (x39 : Int) (cycles_0 : Int) (pieceCycle_0 : Int) (k39 : 0 ≤ x39 ∧ x39 ≤ 0) (kz_0_7 : 0 ≤ cycles_0 ∧ cycles_0 ≤ 50) (kz_0_18 : 0 ≤ pieceCycle_0 ∧ pieceCycle_0 ≤ 49) : (x39 = 0) ∨ ((pieceCycle_0 + 1) ≤ cycles_0) := by
  first
    | omega
  
def o_Em_pickPiece_at_gn_6 : or_T := (184, 40, [(0, (2, 0, 0, [1])), (2, (2, 0, 0, [5])), (39, (0, 0, 0, []))], [], [], [], [(20, [0, 2, 39], [60, 4, 0, 612, 16, 17, 6, 1005]), (20, [39, 0], [50, 2, 0, 1018, 1007, 3, 6, 1, 2, 1, 0, 0, 0, 0, 7, 4, 3, 2, 1, 18, 0, 1, 2, 1, 7])], [], [])
theorem oo_Em_pickPiece_at_gn_6 {kA : Nat → ClassId} : or_ok PRD kA GG o_Em_pickPiece_at_gn_6 := by
  refine or_mk fun A ta ws vs hD hth hl => ?_
  intro t0 r0 t2 r2 t39 k39
  have kz_0_6 := fdq_53 hD hth r0
  have kz_0_7 := fdq_49 hD hth r0
  have kz_0_16 := fdq_284 hD hth r0
  have kz_0_17 := fdq_285 hD hth r0
  have kz_0_18 := fdq_286 hD hth r0
  have kz_2_5 := fdq_82 hD hth r2
  have nf0 : fc_1 PRD (20, [0, 2, 39], [60, 4, 0, 612, 16, 17, 6, 1005]) ws (vs) := ⟨nf_in hl rfl, sgq_1343 (vc_Em_pickPiece_at_gn_6_0 (v_iv (n_v vs 39)) (w_fi ws (n_v vs 0) 6) (w_fi ws (n_v vs 2) 5) (w_fi ws (n_v vs 0) 16) (w_fi ws (n_v vs 0) 17) k39 kz_0_6 kz_0_16 kz_0_17 kz_2_5)⟩
  have nf1 : fc_1 PRD (20, [39, 0], [50, 2, 0, 1018, 1007, 3, 6, 1, 2, 1, 0, 0, 0, 0, 7, 4, 3, 2, 1, 18, 0, 1, 2, 1, 7]) ws (vs) := ⟨nf_in hl rfl, sgq_1344 (vc_Em_pickPiece_at_gn_6_1 (v_iv (n_v vs 39)) (w_fi ws (n_v vs 0) 7) (w_fi ws (n_v vs 0) 18) k39 kz_0_7 kz_0_18)⟩
  refine ⟨(fun _ h => (by cases h)), [], trivial, ?_, (fun _ h => (by cases h))⟩
  rw [List.append_nil]
  exact List.forall_mem_cons.mpr ⟨⟨show (20 : Nat) < 100 from by decide, nf0⟩, List.forall_mem_cons.mpr ⟨⟨show (20 : Nat) < 100 from by decide, nf1⟩, (fun _ h => (by cases h))⟩⟩
def n_Em_pickPiece_at_gn_an : List an_T := [(8, [(0, (2, 0, 0, [1])), (1, (0, 0, 71, [])), (2, (0, (Int.negSucc 2147483647), 1000000, [])), (3, (0, 0, 16777215, [])), (4, (0, 0, 72, []))], [], (0, 0), [(0, 0, 99992), (1, 7, 72), (0, 0, 100000)], [(1, 4, (Int.negSucc 999999999999), 0), (4, 1, (Int.negSucc 999999999999), 0), (6, 7, (Int.negSucc 999999999999), 16777214)], [((0, 16), (0, 0, 33554431, [])), ((0, 17), (0, 0, 33554431, [])), ((0, 0), (2, 0, 0, [5]))], [(2, 0, 0, [1]), (0, 0, 71, []), (2, 0, 0, [5])], 0, [], [(20, [3, 10, 5], [60, 4, 0, 611, 16, 17, 6, 1005]), (24, [2, 10], []), (20, [3, 10, 4], [60, 3, 3, 600, 5, 1005, 1006, 2, 1007, 1008]), (20, [10], [60, 2, 3, 595, 5, 6, 7, 8, 9]), (20, [3, 10], [60, 1, 3, 599, 1006, 2, 1007, 1008]), (20, [3], [60, 2, 0, 602, 6, 5]), (20, [3], [50, 1, 0, 7, 0, 2, 0, 1, 2, 0, 7]), (24, [0, 3], []), (24, [1, 4], [])])]
def t_Em_pickPiece_at_gn_ct : ct_L := [(1, 188, e_Em_countFits), (1, 191, e_Em_firstFit), (360, 180, e_Fa_spread_at_Nenear), (468, 184, e_Fa_nearOf_at_Nenear)]
set_option maxRecDepth 100000 in
theorem c_Em_pickPiece_at_gn {l : Launch} {D : va_G} {kA : Nat → ClassId} (h_Em_countFits : ct_ok PRD l D kA GG y_Em_countFits z_Em_countFits e_Em_countFits) (h_Em_firstFit : ct_ok PRD l D kA GG y_Em_firstFit z_Em_firstFit e_Em_firstFit) (h_Fa_nearOf_at_Nenear : ct_ok PRD l D kA GG y_Fa_nearOf_at_Nenear z_Fa_nearOf_at_Nenear e_Fa_nearOf_at_Nenear) (h_Fa_spread_at_Nenear : ct_ok PRD l D kA GG y_Fa_spread_at_Nenear z_Fa_spread_at_Nenear e_Fa_spread_at_Nenear) : ct_ok PRD l D kA GG y_Em_pickPiece_at_gn z_Em_pickPiece_at_gn e_Em_pickPiece_at_gn := chk_all_ok (FT := [(9, 1, 0), (21, 1, 2), (25, 1, 3), (32, 1, 5), (36, 1, 6), (69, 1, 17), (85, 5, 5), (114, 5, 9), (133, 5, 6), (134, 5, 7), (135, 5, 8)]) (PT := [(66, 1, 16, .int), (69, 1, 17, .int), (72, 1, 18, .int)]) (CT := t_Em_pickPiece_at_gn_ct) (KT := [(0, 179, .int (1000000), (0, 1000000, 1000000, []))]) (NT := []) (AN := n_Em_pickPiece_at_gn_an) (OT := [o_Em_pickPiece_at_gn_0, o_Em_pickPiece_at_gn_1, o_Em_pickPiece_at_gn_2, o_Em_pickPiece_at_gn_3, o_Em_pickPiece_at_gn_4, o_Em_pickPiece_at_gn_5, o_Em_pickPiece_at_gn_6]) 3 628 (List.forall_mem_cons.mpr ⟨oo_Em_pickPiece_at_gn_0, List.forall_mem_cons.mpr ⟨oo_Em_pickPiece_at_gn_1, List.forall_mem_cons.mpr ⟨oo_Em_pickPiece_at_gn_2, List.forall_mem_cons.mpr ⟨oo_Em_pickPiece_at_gn_3, List.forall_mem_cons.mpr ⟨oo_Em_pickPiece_at_gn_4, List.forall_mem_cons.mpr ⟨oo_Em_pickPiece_at_gn_5, List.forall_mem_cons.mpr ⟨oo_Em_pickPiece_at_gn_6, List.forall_mem_nil _⟩⟩⟩⟩⟩⟩⟩) (by decide +kernel) ⟨List.forall_mem_cons.mpr ⟨gf_Em_9, List.forall_mem_cons.mpr ⟨gf_Em_21, List.forall_mem_cons.mpr ⟨gf_Em_25, List.forall_mem_cons.mpr ⟨gf_Em_32, List.forall_mem_cons.mpr ⟨gf_Em_36, List.forall_mem_cons.mpr ⟨gf_Em_69, List.forall_mem_cons.mpr ⟨gf_Em_85, List.forall_mem_cons.mpr ⟨gf_Em_114, List.forall_mem_cons.mpr ⟨gf_Em_133, List.forall_mem_cons.mpr ⟨gf_Em_134, List.forall_mem_cons.mpr ⟨gf_Em_135, List.forall_mem_nil _⟩⟩⟩⟩⟩⟩⟩⟩⟩⟩⟩, List.forall_mem_cons.mpr ⟨pf_Em_66, List.forall_mem_cons.mpr ⟨pf_Em_69, List.forall_mem_cons.mpr ⟨pf_Em_72, List.forall_mem_nil _⟩⟩⟩, List.forall_mem_cons.mpr ⟨cl_virtual (y := y_Em_countFits) (ci := 1) rfl rfl ⟨_, _, rfl⟩ (by decide +kernel) h_Em_countFits wm_1100 wm_5 wm_1097 wm_1099 wv_3_11 ⟨by decide, by decide, by decide +kernel⟩ (by decide), List.forall_mem_cons.mpr ⟨cl_virtual (y := y_Em_firstFit) (ci := 1) rfl rfl ⟨_, _, rfl⟩ (by decide +kernel) h_Em_firstFit wm_1104 wm_5 wm_1101 wm_1103 wv_3_12 ⟨by decide, by decide, by decide +kernel⟩ (by decide), List.forall_mem_cons.mpr ⟨cl_static (y := y_Fa_spread_at_Nenear) h_Fa_spread_at_Nenear wm_821 wm_7 wm_1095 wm_820 ⟨by decide, by decide, by decide +kernel⟩ (by decide), List.forall_mem_cons.mpr ⟨cl_static (y := y_Fa_nearOf_at_Nenear) h_Fa_nearOf_at_Nenear wm_824 wm_7 wm_1096 wm_823 ⟨by decide, by decide, by decide +kernel⟩ (by decide), List.forall_mem_nil _⟩⟩⟩⟩, List.forall_mem_cons.mpr ⟨kx_Em_0_179, List.forall_mem_nil _⟩, List.forall_mem_nil _, GG_pl⟩ (by decide +kernel)
set_option maxHeartbeats 4000000 in
theorem vc_Em_pickPiece_at_gp_0_0 (x3 : Int) (blockNodes_0 : Int) (nodes_0o2 : Int) (drawnNodes_0 : Int) (pieceNodes_0 : Int) (pieceEnds_0 : Int) (k3 : 1000000 ≤ x3 ∧ x3 ≤ 1000000) (kz_0_6 : 0 ≤ drawnNodes_0 ∧ drawnNodes_0 ≤ 33554431) (kz_0_16 : 0 ≤ pieceNodes_0 ∧ pieceNodes_0 ≤ 33554431) (kz_0_17 : 0 ≤ pieceEnds_0 ∧ pieceEnds_0 ≤ 33554431) (kz_2_5 : 0 ≤ nodes_0o2 ∧ nodes_0o2 ≤ 25) : PKI (pieceNodes_0) (pieceEnds_0) (drawnNodes_0) (nodes_0o2) (x3) := by
  first
    | assumption
    | exact Or.inl (by omega)
def o_Em_pickPiece_at_gp_0 : or_T := (8, 6, [(0, (2, 0, 0, [1])), (2, (2, 0, 0, [149])), (3, (0, 1000000, 1000000, []))], [], [], [], [(20, [0, 2, 3], [60, 4, 0, 611, 16, 17, 6, 1005]), (24, [2, 2], []), (24, [0, 0], []), (24, [1, 1], [])], [], [])
theorem oo_Em_pickPiece_at_gp_0 {kA : Nat → ClassId} : or_ok PRD kA GG o_Em_pickPiece_at_gp_0 := by
  refine or_mk fun A ta ws vs hD hth hl => ?_
  intro t0 r0 t2 r2 t3 k3
  have kz_0_6 := fdq_53 hD hth r0
  have kz_0_16 := fdq_284 hD hth r0
  have kz_0_17 := fdq_285 hD hth r0
  have kz_2_5 := fdq_85 hD hth r2
  have nf0 : fc_1 PRD (20, [0, 2, 3], [60, 4, 0, 611, 16, 17, 6, 1005]) ws (vs) := ⟨nf_in hl rfl, sgq_1342 (vc_Em_pickPiece_at_gp_0_0 (v_iv (n_v vs 3)) (w_fi ws (n_v vs 0) 5) (w_fi ws (n_v vs 2) 5) (w_fi ws (n_v vs 0) 6) (w_fi ws (n_v vs 0) 16) (w_fi ws (n_v vs 0) 17) k3 kz_0_6 kz_0_16 kz_0_17 kz_2_5)⟩
  have nf1 : fc_1 PRD (24, [2, 2], []) ws (vs) := by
    refine ⟨nf_in hl rfl, sgq_1 ?_⟩
    · show n_v vs 2 = n_v vs 2
      first | rfl | simp only [true_and]
  have nf2 : fc_1 PRD (24, [0, 0], []) ws (vs) := by
    refine ⟨nf_in hl rfl, sgq_1 ?_⟩
    · show n_v vs 0 = n_v vs 0
      first | rfl | simp only [true_and]
  have nf3 : fc_1 PRD (24, [1, 1], []) ws (vs) := by
    refine ⟨nf_in hl rfl, sgq_1 ?_⟩
    · show n_v vs 1 = n_v vs 1
      first | rfl | simp only [true_and]
  refine ⟨(fun _ h => (by cases h)), [], trivial, ?_, (fun _ h => (by cases h))⟩
  rw [List.append_nil]
  exact List.forall_mem_cons.mpr ⟨⟨show (20 : Nat) < 100 from by decide, nf0⟩, List.forall_mem_cons.mpr ⟨⟨show (24 : Nat) < 100 from by decide, nf1⟩, List.forall_mem_cons.mpr ⟨⟨show (24 : Nat) < 100 from by decide, nf2⟩, List.forall_mem_cons.mpr ⟨⟨show (24 : Nat) < 100 from by decide, nf3⟩, (fun _ h => (by cases h))⟩⟩⟩⟩
set_option maxHeartbeats 4000000 in
theorem vc_Em_pickPiece_at_gp_1_0 (x14 : Int) (cycles_0 : Int) (pieceNodes_0 : Int) (pieceEnds_0 : Int) (drawnNodes_0 : Int) (nodes_0o2 : Int) (block_0 : Int → Int) (tail_0o2 : Int → Int) (head_0o2 : Int → Int) (blockNodes_0 : Int) (edges_0o2 : Int) (near_0o2 : Int → Int) (cycles_1 : Int) (pieceEnds_1 : Int) (edges_1o2 : Int) (pieceNodes_1 : Int) (drawnNodes_1 : Int) (nodes_1o2 : Int) (block_1 : Int → Int) (tail_1o2 : Int → Int) (head_1o2 : Int → Int) (blockNodes_1 : Int) (near_1o2 : Int → Int) (k14 : 0 ≤ x14 ∧ x14 ≤ 0) (fe_0_5_1 : blockNodes_0 = blockNodes_1) (fe_0_6_1 : drawnNodes_0 = drawnNodes_1) (fe_0_7_1 : cycles_0 = cycles_1) (fe_0_16_1 : pieceNodes_0 = pieceNodes_1) (fe_0_17_1 : pieceEnds_0 = pieceEnds_1) (fe_2_5_1 : nodes_0o2 = nodes_1o2) (fe_2_6_1 : edges_0o2 = edges_1o2) (hE_0_2_1 : ∀ j : Int, block_0 j = block_1 j) (hE_2_7_1 : ∀ j : Int, tail_0o2 j = tail_1o2 j) (hE_2_8_1 : ∀ j : Int, head_0o2 j = head_1o2 j) (hE_2_9_1 : ∀ j : Int, near_0o2 j = near_1o2 j) (kz_0_5 : 0 ≤ blockNodes_0 ∧ blockNodes_0 ≤ 33554431) (kz_0_6 : 0 ≤ drawnNodes_0 ∧ drawnNodes_0 ≤ 33554431) (kz_0_7 : 0 ≤ cycles_0 ∧ cycles_0 ≤ 50) (kz_0_16 : 0 ≤ pieceNodes_0 ∧ pieceNodes_0 ≤ 33554431) (kz_0_17 : 0 ≤ pieceEnds_0 ∧ pieceEnds_0 ≤ 33554431) (kz_2_5 : 0 ≤ nodes_0o2 ∧ nodes_0o2 ≤ 25) (kz_2_6 : 0 ≤ edges_0o2 ∧ edges_0o2 ≤ 72) : PKA (pieceNodes_0) (pieceEnds_0) (drawnNodes_0) (nodes_0o2) (x14) := by
  subst fe_0_5_1
  subst fe_0_6_1
  subst fe_0_7_1
  subst fe_0_16_1
  subst fe_0_17_1
  subst fe_2_5_1
  subst fe_2_6_1
  have e_hE_0_2_1 := funext hE_0_2_1; subst e_hE_0_2_1
  have e_hE_2_7_1 := funext hE_2_7_1; subst e_hE_2_7_1
  have e_hE_2_8_1 := funext hE_2_8_1; subst e_hE_2_8_1
  have e_hE_2_9_1 := funext hE_2_9_1; subst e_hE_2_9_1
  first
    | exact Or.inl (by omega)
    | (rcases (‹PKI _ _ _ _ _›) with q | ⟨_, q⟩
       · omega
       · exact Or.inr q)
set_option maxHeartbeats 4000000 in
theorem vc_Em_pickPiece_at_gp_1_1 (x14 : Int) (cycles_0 : Int) (pieceNodes_0 : Int) (pieceEnds_0 : Int) (drawnNodes_0 : Int) (nodes_0o2 : Int) (block_0 : Int → Int) (tail_0o2 : Int → Int) (head_0o2 : Int → Int) (blockNodes_0 : Int) (edges_0o2 : Int) (near_0o2 : Int → Int) (cycles_1 : Int) (pieceEnds_1 : Int) (edges_1o2 : Int) (pieceNodes_1 : Int) (drawnNodes_1 : Int) (nodes_1o2 : Int) (block_1 : Int → Int) (tail_1o2 : Int → Int) (head_1o2 : Int → Int) (blockNodes_1 : Int) (near_1o2 : Int → Int) (pieceCycle_0 : Int) (k14 : 0 ≤ x14 ∧ x14 ≤ 0) (fe_0_5_1 : blockNodes_0 = blockNodes_1) (fe_0_6_1 : drawnNodes_0 = drawnNodes_1) (fe_0_7_1 : cycles_0 = cycles_1) (fe_0_16_1 : pieceNodes_0 = pieceNodes_1) (fe_0_17_1 : pieceEnds_0 = pieceEnds_1) (fe_2_5_1 : nodes_0o2 = nodes_1o2) (fe_2_6_1 : edges_0o2 = edges_1o2) (hE_0_2_1 : ∀ j : Int, block_0 j = block_1 j) (hE_2_7_1 : ∀ j : Int, tail_0o2 j = tail_1o2 j) (hE_2_8_1 : ∀ j : Int, head_0o2 j = head_1o2 j) (hE_2_9_1 : ∀ j : Int, near_0o2 j = near_1o2 j) (kz_0_5 : 0 ≤ blockNodes_0 ∧ blockNodes_0 ≤ 33554431) (kz_0_6 : 0 ≤ drawnNodes_0 ∧ drawnNodes_0 ≤ 33554431) (kz_0_7 : 0 ≤ cycles_0 ∧ cycles_0 ≤ 50) (kz_0_16 : 0 ≤ pieceNodes_0 ∧ pieceNodes_0 ≤ 33554431) (kz_0_17 : 0 ≤ pieceEnds_0 ∧ pieceEnds_0 ≤ 33554431) (kz_0_18 : 0 ≤ pieceCycle_0 ∧ pieceCycle_0 ≤ 49) (kz_2_5 : 0 ≤ nodes_0o2 ∧ nodes_0o2 ≤ 25) (kz_2_6 : 0 ≤ edges_0o2 ∧ edges_0o2 ≤ 72) : (x14 = 0) ∨ ((pieceCycle_0 + 1) ≤ cycles_0) := by
  subst fe_0_5_1
  subst fe_0_6_1
  subst fe_0_7_1
  subst fe_0_16_1
  subst fe_0_17_1
  subst fe_2_5_1
  subst fe_2_6_1
  have e_hE_0_2_1 := funext hE_0_2_1; subst e_hE_0_2_1
  have e_hE_2_7_1 := funext hE_2_7_1; subst e_hE_2_7_1
  have e_hE_2_8_1 := funext hE_2_8_1; subst e_hE_2_8_1
  have e_hE_2_9_1 := funext hE_2_9_1; subst e_hE_2_9_1
  first
    | omega
  
def o_Em_pickPiece_at_gp_1 : or_T := (235, 15, [(0, (2, 0, 0, [1])), (1, (0, 0, 71, [])), (2, (2, 0, 0, [149])), (3, (2, 0, 0, [1])), (4, (0, 0, 71, [])), (5, (0, 1000000, 1000000, [])), (7, (0, 0, 72, [])), (9, (0, 0, 33554431, [])), (10, (2, 0, 0, [149])), (11, (0, 0, 72, [])), (12, (0, 0, 49, [])), (13, (0, 1000000, 1000000, [])), (14, (0, 0, 0, []))], [(7, [5, 13], [3]), (20, [12, 3], [50, 1, 0, 1007, 3, 6, 1, 2, 1, 0, 0, 0, 0, 6, 4, 2, 1, 0, 0, 1, 2, 1, 7]), (20, [3, 10, 5], [60, 4, 0, 611, 16, 17, 6, 1005]), (24, [2, 10], []), (20, [3, 10, 4], [60, 3, 3, 600, 5, 1005, 1006, 2, 1007, 1008]), (20, [10], [60, 2, 3, 595, 5, 6, 7, 8, 9]), (20, [3, 10], [60, 1, 3, 599, 1006, 2, 1007, 1008]), (20, [3], [60, 2, 0, 602, 6, 5]), (20, [3], [50, 1, 0, 7, 0, 2, 0, 1, 2, 0, 7]), (24, [0, 3], []), (24, [1, 4], []), (101, [3, 12], [18]), (20, [12, 3], [50, 1, 0, 1007, 3, 6, 1, 2, 1, 0, 0, 0, 0, 6, 4, 2, 1, 0, 0, 1, 2, 1, 7]), (9, [9, 3], [17]), (7, [7, 11], [3]), (9, [11, 10], [6]), (20, [3, 10, 5], [60, 4, 0, 611, 16, 17, 6, 1005]), (20, [3, 10, 4], [60, 3, 3, 600, 5, 1005, 1006, 2, 1007, 1008]), (20, [10], [60, 2, 3, 595, 5, 6, 7, 8, 9]), (20, [3, 10], [60, 1, 3, 599, 1006, 2, 1007, 1008]), (20, [3], [60, 2, 0, 602, 6, 5]), (20, [3], [50, 1, 0, 7, 0, 2, 0, 1, 2, 0, 7])], [], [], [(20, [0, 2, 14], [60, 4, 0, 612, 16, 17, 6, 1005]), (20, [14, 0], [50, 2, 0, 1018, 1007, 3, 6, 1, 2, 1, 0, 0, 0, 0, 7, 4, 3, 2, 1, 18, 0, 1, 2, 1, 7])], [], [(7, 11, 0, 4294967296), (1, 4, -4294967296, 0), (4, 1, -4294967296, 0)])
theorem oo_Em_pickPiece_at_gp_1 {kA : Nat → ClassId} : or_ok PRD kA GG o_Em_pickPiece_at_gp_1 := by
  refine or_mk fun A ta ws vs hD hth hl => ?_
  intro t0 r0 t1 k1 t2 r2 t3 r3 t4 k4 t5 k5 t7 k7 t9 k9 t10 r10 t11 k11 t12 k12 t13 k13 t14 k14 d0 d1 d2 f0 f1 f2 f3 f4 f5 f6 f7 f8 f9 f10 ta1 w1 le1 s1 f12 f13 f14 f15 f16 f17 f18 f19 f20 f21
  replace f9 := shm_5 f9
  have s1 : (∀ b j, w_el ws b j = w_el w1 b j) ∧ ∀ b j, w_fd ws b j = if b = v_ad (n_v vs 3) ∧ j = 18 then n_v vs 12 else w_fd w1 b j := s1.2
  have q3 : n_v vs 3 = n_v vs 0 := f9.symm
  rw [q3] at s1
  have fe_0_5_1 : w_fi ws (n_v vs 0) 5 = w_fi w1 (n_v vs 0) 5 := by show v_iv (w_fd _ _ _) = v_iv (w_fd _ _ _); rw [s1.2, if_neg (fun e => absurd e.2 (by decide))]
  have fe_0_6_1 : w_fi ws (n_v vs 0) 6 = w_fi w1 (n_v vs 0) 6 := by show v_iv (w_fd _ _ _) = v_iv (w_fd _ _ _); rw [s1.2, if_neg (fun e => absurd e.2 (by decide))]
  have fe_0_7_1 : w_fi ws (n_v vs 0) 7 = w_fi w1 (n_v vs 0) 7 := by show v_iv (w_fd _ _ _) = v_iv (w_fd _ _ _); rw [s1.2, if_neg (fun e => absurd e.2 (by decide))]
  have fe_0_16_1 : w_fi ws (n_v vs 0) 16 = w_fi w1 (n_v vs 0) 16 := by show v_iv (w_fd _ _ _) = v_iv (w_fd _ _ _); rw [s1.2, if_neg (fun e => absurd e.2 (by decide))]
  have fe_0_17_1 : w_fi ws (n_v vs 0) 17 = w_fi w1 (n_v vs 0) 17 := by show v_iv (w_fd _ _ _) = v_iv (w_fd _ _ _); rw [s1.2, if_neg (fun e => absurd e.2 (by decide))]
  have fe_2_5_1 : w_fi ws (n_v vs 2) 5 = w_fi w1 (n_v vs 2) 5 := by show v_iv (w_fd _ _ _) = v_iv (w_fd _ _ _); rw [s1.2, if_neg (fun e => absurd e.2 (by decide))]
  have fe_2_6_1 : w_fi ws (n_v vs 2) 6 = w_fi w1 (n_v vs 2) 6 := by show v_iv (w_fd _ _ _) = v_iv (w_fd _ _ _); rw [s1.2, if_neg (fun e => absurd e.2 (by decide))]
  have hE_0_2_1 : ∀ j : Int, w_ei ws (w_ar ws (n_v vs 0) 2) j = w_ei w1 (w_ar ws (n_v vs 0) 2) j := fun j => s1.1 _ _
  have hE_2_7_1 : ∀ j : Int, w_ei ws (w_ar ws (n_v vs 2) 7) j = w_ei w1 (w_ar ws (n_v vs 2) 7) j := fun j => s1.1 _ _
  have hE_2_8_1 : ∀ j : Int, w_ei ws (w_ar ws (n_v vs 2) 8) j = w_ei w1 (w_ar ws (n_v vs 2) 8) j := fun j => s1.1 _ _
  have hE_2_9_1 : ∀ j : Int, w_ei ws (w_ar ws (n_v vs 2) 9) j = w_ei w1 (w_ar ws (n_v vs 2) 9) j := fun j => s1.1 _ _
  have kz_0_5 := fdq_283 hD hth r0
  have kz_0_6 := fdq_53 hD hth r0
  have kz_0_7 := fdq_49 hD hth r0
  have kz_0_16 := fdq_284 hD hth r0
  have kz_0_17 := fdq_285 hD hth r0
  have kz_0_18 := fdq_286 hD hth r0
  have kz_2_5 := fdq_85 hD hth r2
  have kz_2_6 := fdq_62 hD hth r2
  have nf0 : fc_1 PRD (20, [0, 2, 14], [60, 4, 0, 612, 16, 17, 6, 1005]) ws (vs) := ⟨nf_in hl rfl, sgq_1343 (vc_Em_pickPiece_at_gp_1_0 (v_iv (n_v vs 14)) (w_fi ws (n_v vs 0) 7) (w_fi ws (n_v vs 0) 16) (w_fi ws (n_v vs 0) 17) (w_fi ws (n_v vs 0) 6) (w_fi ws (n_v vs 2) 5) (w_ei ws (w_ar ws (n_v vs 0) 2)) (w_ei ws (w_ar ws (n_v vs 2) 7)) (w_ei ws (w_ar ws (n_v vs 2) 8)) (w_fi ws (n_v vs 0) 5) (w_fi ws (n_v vs 2) 6) (w_ei ws (w_ar ws (n_v vs 2) 9)) (w_fi w1 (n_v vs 0) 7) (w_fi w1 (n_v vs 0) 17) (w_fi w1 (n_v vs 2) 6) (w_fi w1 (n_v vs 0) 16) (w_fi w1 (n_v vs 0) 6) (w_fi w1 (n_v vs 2) 5) (w_ei w1 (w_ar ws (n_v vs 0) 2)) (w_ei w1 (w_ar ws (n_v vs 2) 7)) (w_ei w1 (w_ar ws (n_v vs 2) 8)) (w_fi w1 (n_v vs 0) 5) (w_ei w1 (w_ar ws (n_v vs 2) 9)) k14 fe_0_5_1 fe_0_6_1 fe_0_7_1 fe_0_16_1 fe_0_17_1 fe_2_5_1 fe_2_6_1 hE_0_2_1 hE_2_7_1 hE_2_8_1 hE_2_9_1 kz_0_5 kz_0_6 kz_0_7 kz_0_16 kz_0_17 kz_2_5 kz_2_6)⟩
  have nf1 : fc_1 PRD (20, [14, 0], [50, 2, 0, 1018, 1007, 3, 6, 1, 2, 1, 0, 0, 0, 0, 7, 4, 3, 2, 1, 18, 0, 1, 2, 1, 7]) ws (vs) := ⟨nf_in hl rfl, sgq_1344 (vc_Em_pickPiece_at_gp_1_1 (v_iv (n_v vs 14)) (w_fi ws (n_v vs 0) 7) (w_fi ws (n_v vs 0) 16) (w_fi ws (n_v vs 0) 17) (w_fi ws (n_v vs 0) 6) (w_fi ws (n_v vs 2) 5) (w_ei ws (w_ar ws (n_v vs 0) 2)) (w_ei ws (w_ar ws (n_v vs 2) 7)) (w_ei ws (w_ar ws (n_v vs 2) 8)) (w_fi ws (n_v vs 0) 5) (w_fi ws (n_v vs 2) 6) (w_ei ws (w_ar ws (n_v vs 2) 9)) (w_fi w1 (n_v vs 0) 7) (w_fi w1 (n_v vs 0) 17) (w_fi w1 (n_v vs 2) 6) (w_fi w1 (n_v vs 0) 16) (w_fi w1 (n_v vs 0) 6) (w_fi w1 (n_v vs 2) 5) (w_ei w1 (w_ar ws (n_v vs 0) 2)) (w_ei w1 (w_ar ws (n_v vs 2) 7)) (w_ei w1 (w_ar ws (n_v vs 2) 8)) (w_fi w1 (n_v vs 0) 5) (w_ei w1 (w_ar ws (n_v vs 2) 9)) (w_fi ws (n_v vs 0) 18) k14 fe_0_5_1 fe_0_6_1 fe_0_7_1 fe_0_16_1 fe_0_17_1 fe_2_5_1 fe_2_6_1 hE_0_2_1 hE_2_7_1 hE_2_8_1 hE_2_9_1 kz_0_5 kz_0_6 kz_0_7 kz_0_16 kz_0_17 kz_0_18 kz_2_5 kz_2_6)⟩
  refine ⟨(fun _ h => (by cases h)), [], trivial, ?_, (fun _ h => (by cases h))⟩
  rw [List.append_nil]
  exact List.forall_mem_cons.mpr ⟨⟨show (20 : Nat) < 100 from by decide, nf0⟩, List.forall_mem_cons.mpr ⟨⟨show (20 : Nat) < 100 from by decide, nf1⟩, (fun _ h => (by cases h))⟩⟩
set_option maxHeartbeats 4000000 in
theorem vc_Em_pickPiece_at_gp_2_0 (x5 : Int) (x14 : Int) (cycles_0 : Int) (pieceNodes_0 : Int) (pieceEnds_0 : Int) (drawnNodes_0 : Int) (nodes_0o2 : Int) (block_0 : Int → Int) (tail_0o2 : Int → Int) (head_0o2 : Int → Int) (blockNodes_0 : Int) (edges_0o2 : Int) (near_0o2 : Int → Int) (cycles_1 : Int) (pieceEnds_1 : Int) (edges_1o2 : Int) (pieceNodes_1 : Int) (drawnNodes_1 : Int) (nodes_1o2 : Int) (block_1 : Int → Int) (tail_1o2 : Int → Int) (head_1o2 : Int → Int) (blockNodes_1 : Int) (near_1o2 : Int → Int) (k5 : (-2147483648) ≤ x5 ∧ x5 ≤ 999999) (k14 : 1 ≤ x14 ∧ x14 ≤ 1) (f16 : PKI (pieceNodes_1) (pieceEnds_1) (drawnNodes_1) (nodes_1o2) (x5)) (fe_0_5_1 : blockNodes_0 = blockNodes_1) (fe_0_6_1 : drawnNodes_0 = drawnNodes_1) (fe_0_7_1 : cycles_0 = cycles_1) (fe_0_16_1 : pieceNodes_0 = pieceNodes_1) (fe_0_17_1 : pieceEnds_0 = pieceEnds_1) (fe_2_5_1 : nodes_0o2 = nodes_1o2) (fe_2_6_1 : edges_0o2 = edges_1o2) (hE_0_2_1 : ∀ j : Int, block_0 j = block_1 j) (hE_2_7_1 : ∀ j : Int, tail_0o2 j = tail_1o2 j) (hE_2_8_1 : ∀ j : Int, head_0o2 j = head_1o2 j) (hE_2_9_1 : ∀ j : Int, near_0o2 j = near_1o2 j) (kz_0_5 : 0 ≤ blockNodes_0 ∧ blockNodes_0 ≤ 33554431) (kz_0_6 : 0 ≤ drawnNodes_0 ∧ drawnNodes_0 ≤ 33554431) (kz_0_7 : 0 ≤ cycles_0 ∧ cycles_0 ≤ 50) (kz_0_16 : 0 ≤ pieceNodes_0 ∧ pieceNodes_0 ≤ 33554431) (kz_0_17 : 0 ≤ pieceEnds_0 ∧ pieceEnds_0 ≤ 33554431) (kz_2_5 : 0 ≤ nodes_0o2 ∧ nodes_0o2 ≤ 25) (kz_2_6 : 0 ≤ edges_0o2 ∧ edges_0o2 ≤ 72) : PKA (pieceNodes_0) (pieceEnds_0) (drawnNodes_0) (nodes_0o2) (x14) := by
  subst fe_0_5_1
  subst fe_0_6_1
  subst fe_0_7_1
  subst fe_0_16_1
  subst fe_0_17_1
  subst fe_2_5_1
  subst fe_2_6_1
  have e_hE_0_2_1 := funext hE_0_2_1; subst e_hE_0_2_1
  have e_hE_2_7_1 := funext hE_2_7_1; subst e_hE_2_7_1
  have e_hE_2_8_1 := funext hE_2_8_1; subst e_hE_2_8_1
  have e_hE_2_9_1 := funext hE_2_9_1; subst e_hE_2_9_1
  first
    | exact Or.inl (by omega)
    | (rcases (‹PKI _ _ _ _ _›) with q | ⟨_, q⟩
       · omega
       · exact Or.inr q)
set_option maxHeartbeats 4000000 in
theorem vc_Em_pickPiece_at_gp_2_1 (x12 : Int) (x14 : Int) (cycles_0 : Int) (pieceNodes_0 : Int) (pieceEnds_0 : Int) (drawnNodes_0 : Int) (nodes_0o2 : Int) (block_0 : Int → Int) (tail_0o2 : Int → Int) (head_0o2 : Int → Int) (blockNodes_0 : Int) (edges_0o2 : Int) (near_0o2 : Int → Int) (cycles_1 : Int) (pieceEnds_1 : Int) (edges_1o2 : Int) (pieceNodes_1 : Int) (drawnNodes_1 : Int) (nodes_1o2 : Int) (block_1 : Int → Int) (tail_1o2 : Int → Int) (head_1o2 : Int → Int) (blockNodes_1 : Int) (near_1o2 : Int → Int) (pieceCycle_0 : Int) (k12 : 0 ≤ x12 ∧ x12 ≤ 49) (k14 : 1 ≤ x14 ∧ x14 ≤ 1) (f8 : 1 ≤ cycles_0) (f12 : (x12 = 0) ∨ ((x12 + 1) ≤ cycles_1)) (fe_0_5_1 : blockNodes_0 = blockNodes_1) (fe_0_6_1 : drawnNodes_0 = drawnNodes_1) (fe_0_7_1 : cycles_0 = cycles_1) (fe_0_16_1 : pieceNodes_0 = pieceNodes_1) (fe_0_17_1 : pieceEnds_0 = pieceEnds_1) (fe_0_18_1 : pieceCycle_0 = x12) (fe_2_5_1 : nodes_0o2 = nodes_1o2) (fe_2_6_1 : edges_0o2 = edges_1o2) (hE_0_2_1 : ∀ j : Int, block_0 j = block_1 j) (hE_2_7_1 : ∀ j : Int, tail_0o2 j = tail_1o2 j) (hE_2_8_1 : ∀ j : Int, head_0o2 j = head_1o2 j) (hE_2_9_1 : ∀ j : Int, near_0o2 j = near_1o2 j) (kz_0_5 : 0 ≤ blockNodes_0 ∧ blockNodes_0 ≤ 33554431) (kz_0_6 : 0 ≤ drawnNodes_0 ∧ drawnNodes_0 ≤ 33554431) (kz_0_7 : 0 ≤ cycles_0 ∧ cycles_0 ≤ 50) (kz_0_16 : 0 ≤ pieceNodes_0 ∧ pieceNodes_0 ≤ 33554431) (kz_0_17 : 0 ≤ pieceEnds_0 ∧ pieceEnds_0 ≤ 33554431) (kz_0_18 : 0 ≤ pieceCycle_0 ∧ pieceCycle_0 ≤ 49) (kz_2_5 : 0 ≤ nodes_0o2 ∧ nodes_0o2 ≤ 25) (kz_2_6 : 0 ≤ edges_0o2 ∧ edges_0o2 ≤ 72) : (x14 = 0) ∨ ((pieceCycle_0 + 1) ≤ cycles_0) := by
  subst fe_0_5_1
  subst fe_0_6_1
  subst fe_0_7_1
  subst fe_0_16_1
  subst fe_0_17_1
  subst fe_2_5_1
  subst fe_2_6_1
  have e_hE_0_2_1 := funext hE_0_2_1; subst e_hE_0_2_1
  have e_hE_2_7_1 := funext hE_2_7_1; subst e_hE_2_7_1
  have e_hE_2_8_1 := funext hE_2_8_1; subst e_hE_2_8_1
  have e_hE_2_9_1 := funext hE_2_9_1; subst e_hE_2_9_1
  first
    | omega
  
def o_Em_pickPiece_at_gp_2 : or_T := (235, 15, [(0, (2, 0, 0, [1])), (1, (0, 0, 71, [])), (2, (2, 0, 0, [149])), (3, (2, 0, 0, [1])), (4, (0, 0, 71, [])), (5, (0, -2147483648, 999999, [])), (7, (0, 0, 72, [])), (9, (0, 0, 33554431, [])), (10, (2, 0, 0, [149])), (11, (0, 0, 72, [])), (12, (0, 0, 49, [])), (13, (0, 1000000, 1000000, [])), (14, (0, 1, 1, []))], [(7, [5, 13], [2]), (20, [12, 3], [50, 1, 0, 1007, 3, 6, 1, 2, 1, 0, 0, 0, 0, 6, 4, 2, 1, 0, 0, 1, 2, 1, 7]), (20, [3, 10, 5], [60, 4, 0, 611, 16, 17, 6, 1005]), (24, [2, 10], []), (20, [3, 10, 4], [60, 3, 3, 600, 5, 1005, 1006, 2, 1007, 1008]), (20, [10], [60, 2, 3, 595, 5, 6, 7, 8, 9]), (20, [3, 10], [60, 1, 3, 599, 1006, 2, 1007, 1008]), (20, [3], [60, 2, 0, 602, 6, 5]), (20, [3], [50, 1, 0, 7, 0, 2, 0, 1, 2, 0, 7]), (24, [0, 3], []), (24, [1, 4], []), (101, [3, 12], [18]), (20, [12, 3], [50, 1, 0, 1007, 3, 6, 1, 2, 1, 0, 0, 0, 0, 6, 4, 2, 1, 0, 0, 1, 2, 1, 7]), (9, [9, 3], [17]), (7, [7, 11], [3]), (9, [11, 10], [6]), (20, [3, 10, 5], [60, 4, 0, 611, 16, 17, 6, 1005]), (20, [3, 10, 4], [60, 3, 3, 600, 5, 1005, 1006, 2, 1007, 1008]), (20, [10], [60, 2, 3, 595, 5, 6, 7, 8, 9]), (20, [3, 10], [60, 1, 3, 599, 1006, 2, 1007, 1008]), (20, [3], [60, 2, 0, 602, 6, 5]), (20, [3], [50, 1, 0, 7, 0, 2, 0, 1, 2, 0, 7])], [], [], [(20, [0, 2, 14], [60, 4, 0, 612, 16, 17, 6, 1005]), (20, [14, 0], [50, 2, 0, 1018, 1007, 3, 6, 1, 2, 1, 0, 0, 0, 0, 7, 4, 3, 2, 1, 18, 0, 1, 2, 1, 7])], [], [(7, 11, 0, 4294967296), (1, 4, -4294967296, 0), (4, 1, -4294967296, 0)])
theorem oo_Em_pickPiece_at_gp_2 {kA : Nat → ClassId} : or_ok PRD kA GG o_Em_pickPiece_at_gp_2 := by
  refine or_mk fun A ta ws vs hD hth hl => ?_
  intro t0 r0 t1 k1 t2 r2 t3 r3 t4 k4 t5 k5 t7 k7 t9 k9 t10 r10 t11 k11 t12 k12 t13 k13 t14 k14 d0 d1 d2 f0 f1 f2 f3 f4 f5 f6 f7 f8 f9 f10 ta1 w1 le1 s1 f12 f13 f14 f15 f16 f17 f18 f19 f20 f21
  replace f3 := shm_5 f3
  replace f8 := shm_1341 f8
  replace f9 := shm_5 f9
  have s1 : (∀ b j, w_el ws b j = w_el w1 b j) ∧ ∀ b j, w_fd ws b j = if b = v_ad (n_v vs 3) ∧ j = 18 then n_v vs 12 else w_fd w1 b j := s1.2
  replace f12 := shm_346 f12
  replace f16 := shm_1342 f16
  have q10 : n_v vs 10 = n_v vs 2 := f3.symm
  have q3 : n_v vs 3 = n_v vs 0 := f9.symm
  simp only [q3] at f8
  rw [q3] at s1
  simp only [q3, q10] at f12 f16
  have fe_0_5_1 : w_fi ws (n_v vs 0) 5 = w_fi w1 (n_v vs 0) 5 := by show v_iv (w_fd _ _ _) = v_iv (w_fd _ _ _); rw [s1.2, if_neg (fun e => absurd e.2 (by decide))]
  have fe_0_6_1 : w_fi ws (n_v vs 0) 6 = w_fi w1 (n_v vs 0) 6 := by show v_iv (w_fd _ _ _) = v_iv (w_fd _ _ _); rw [s1.2, if_neg (fun e => absurd e.2 (by decide))]
  have fe_0_7_1 : w_fi ws (n_v vs 0) 7 = w_fi w1 (n_v vs 0) 7 := by show v_iv (w_fd _ _ _) = v_iv (w_fd _ _ _); rw [s1.2, if_neg (fun e => absurd e.2 (by decide))]
  have fe_0_16_1 : w_fi ws (n_v vs 0) 16 = w_fi w1 (n_v vs 0) 16 := by show v_iv (w_fd _ _ _) = v_iv (w_fd _ _ _); rw [s1.2, if_neg (fun e => absurd e.2 (by decide))]
  have fe_0_17_1 : w_fi ws (n_v vs 0) 17 = w_fi w1 (n_v vs 0) 17 := by show v_iv (w_fd _ _ _) = v_iv (w_fd _ _ _); rw [s1.2, if_neg (fun e => absurd e.2 (by decide))]
  have fe_0_18_1 : w_fi ws (n_v vs 0) 18 = v_iv (n_v vs 12) := by show v_iv (w_fd _ _ _) = _; rw [s1.2, if_pos ⟨rfl, rfl⟩]
  have fe_2_5_1 : w_fi ws (n_v vs 2) 5 = w_fi w1 (n_v vs 2) 5 := by show v_iv (w_fd _ _ _) = v_iv (w_fd _ _ _); rw [s1.2, if_neg (fun e => absurd e.2 (by decide))]
  have fe_2_6_1 : w_fi ws (n_v vs 2) 6 = w_fi w1 (n_v vs 2) 6 := by show v_iv (w_fd _ _ _) = v_iv (w_fd _ _ _); rw [s1.2, if_neg (fun e => absurd e.2 (by decide))]
  have hE_0_2_1 : ∀ j : Int, w_ei ws (w_ar ws (n_v vs 0) 2) j = w_ei w1 (w_ar ws (n_v vs 0) 2) j := fun j => s1.1 _ _
  have hE_2_7_1 : ∀ j : Int, w_ei ws (w_ar ws (n_v vs 2) 7) j = w_ei w1 (w_ar ws (n_v vs 2) 7) j := fun j => s1.1 _ _
  have hE_2_8_1 : ∀ j : Int, w_ei ws (w_ar ws (n_v vs 2) 8) j = w_ei w1 (w_ar ws (n_v vs 2) 8) j := fun j => s1.1 _ _
  have hE_2_9_1 : ∀ j : Int, w_ei ws (w_ar ws (n_v vs 2) 9) j = w_ei w1 (w_ar ws (n_v vs 2) 9) j := fun j => s1.1 _ _
  have kz_0_5 := fdq_283 hD hth r0
  have kz_0_6 := fdq_53 hD hth r0
  have kz_0_7 := fdq_49 hD hth r0
  have kz_0_16 := fdq_284 hD hth r0
  have kz_0_17 := fdq_285 hD hth r0
  have kz_0_18 := fdq_286 hD hth r0
  have kz_2_5 := fdq_85 hD hth r2
  have kz_2_6 := fdq_62 hD hth r2
  have nf0 : fc_1 PRD (20, [0, 2, 14], [60, 4, 0, 612, 16, 17, 6, 1005]) ws (vs) := ⟨nf_in hl rfl, sgq_1343 (vc_Em_pickPiece_at_gp_2_0 (v_iv (n_v vs 5)) (v_iv (n_v vs 14)) (w_fi ws (n_v vs 0) 7) (w_fi ws (n_v vs 0) 16) (w_fi ws (n_v vs 0) 17) (w_fi ws (n_v vs 0) 6) (w_fi ws (n_v vs 2) 5) (w_ei ws (w_ar ws (n_v vs 0) 2)) (w_ei ws (w_ar ws (n_v vs 2) 7)) (w_ei ws (w_ar ws (n_v vs 2) 8)) (w_fi ws (n_v vs 0) 5) (w_fi ws (n_v vs 2) 6) (w_ei ws (w_ar ws (n_v vs 2) 9)) (w_fi w1 (n_v vs 0) 7) (w_fi w1 (n_v vs 0) 17) (w_fi w1 (n_v vs 2) 6) (w_fi w1 (n_v vs 0) 16) (w_fi w1 (n_v vs 0) 6) (w_fi w1 (n_v vs 2) 5) (w_ei w1 (w_ar ws (n_v vs 0) 2)) (w_ei w1 (w_ar ws (n_v vs 2) 7)) (w_ei w1 (w_ar ws (n_v vs 2) 8)) (w_fi w1 (n_v vs 0) 5) (w_ei w1 (w_ar ws (n_v vs 2) 9)) k5 k14 f16 fe_0_5_1 fe_0_6_1 fe_0_7_1 fe_0_16_1 fe_0_17_1 fe_2_5_1 fe_2_6_1 hE_0_2_1 hE_2_7_1 hE_2_8_1 hE_2_9_1 kz_0_5 kz_0_6 kz_0_7 kz_0_16 kz_0_17 kz_2_5 kz_2_6)⟩
  have nf1 : fc_1 PRD (20, [14, 0], [50, 2, 0, 1018, 1007, 3, 6, 1, 2, 1, 0, 0, 0, 0, 7, 4, 3, 2, 1, 18, 0, 1, 2, 1, 7]) ws (vs) := ⟨nf_in hl rfl, sgq_1344 (vc_Em_pickPiece_at_gp_2_1 (v_iv (n_v vs 12)) (v_iv (n_v vs 14)) (w_fi ws (n_v vs 0) 7) (w_fi ws (n_v vs 0) 16) (w_fi ws (n_v vs 0) 17) (w_fi ws (n_v vs 0) 6) (w_fi ws (n_v vs 2) 5) (w_ei ws (w_ar ws (n_v vs 0) 2)) (w_ei ws (w_ar ws (n_v vs 2) 7)) (w_ei ws (w_ar ws (n_v vs 2) 8)) (w_fi ws (n_v vs 0) 5) (w_fi ws (n_v vs 2) 6) (w_ei ws (w_ar ws (n_v vs 2) 9)) (w_fi w1 (n_v vs 0) 7) (w_fi w1 (n_v vs 0) 17) (w_fi w1 (n_v vs 2) 6) (w_fi w1 (n_v vs 0) 16) (w_fi w1 (n_v vs 0) 6) (w_fi w1 (n_v vs 2) 5) (w_ei w1 (w_ar ws (n_v vs 0) 2)) (w_ei w1 (w_ar ws (n_v vs 2) 7)) (w_ei w1 (w_ar ws (n_v vs 2) 8)) (w_fi w1 (n_v vs 0) 5) (w_ei w1 (w_ar ws (n_v vs 2) 9)) (w_fi ws (n_v vs 0) 18) k12 k14 f8 f12 fe_0_5_1 fe_0_6_1 fe_0_7_1 fe_0_16_1 fe_0_17_1 fe_0_18_1 fe_2_5_1 fe_2_6_1 hE_0_2_1 hE_2_7_1 hE_2_8_1 hE_2_9_1 kz_0_5 kz_0_6 kz_0_7 kz_0_16 kz_0_17 kz_0_18 kz_2_5 kz_2_6)⟩
  refine ⟨(fun _ h => (by cases h)), [], trivial, ?_, (fun _ h => (by cases h))⟩
  rw [List.append_nil]
  exact List.forall_mem_cons.mpr ⟨⟨show (20 : Nat) < 100 from by decide, nf0⟩, List.forall_mem_cons.mpr ⟨⟨show (20 : Nat) < 100 from by decide, nf1⟩, (fun _ h => (by cases h))⟩⟩
set_option maxHeartbeats 4000000 in
theorem vc_Em_pickPiece_at_gp_3_0 (x1 : Int) (x7 : Int) (x11 : Int) (x13 : Int) (x16 : Int) (x18 : Int) (x19 : Int) (x20 : Int) (x22 : Int) (x23 : Int) (x24 : Int) (x25 : Int) (x26 : Int) (x27 : Int) (x28 : Int) (x31 : Int) (x32 : Int) (x33 : Int) (x34 : Int) (x35 : Int) (x36 : Int) (x38 : Int) (x39 : Int) (x40 : Int) (x41 : Int) (x42 : Int) (near_0o2 : Int → Int) (block_0 : Int → Int) (tail_0o2 : Int → Int) (head_0o2 : Int → Int) (blockNodes_0 : Int) (nodes_0o2 : Int) (edges_0o2 : Int) (drawnNodes_0 : Int) (cycles_0 : Int) (near_1o2 : Int → Int) (block_1 : Int → Int) (tail_1o2 : Int → Int) (head_1o2 : Int → Int) (blockNodes_1 : Int) (nodes_1o2 : Int) (edges_1o2 : Int) (drawnNodes_1 : Int) (cycles_1 : Int) (drawnNodes_2 : Int) (blockNodes_2 : Int) (near_2o2 : Int → Int) (nodes_2o2 : Int) (head_2o2 : Int → Int) (tail_2o2 : Int → Int) (block_2 : Int → Int) (edges_2o2 : Int) (pieceEnds_2 : Int) (cycles_2 : Int) (pieceNodes_0 : Int) (pieceNodes_1 : Int) (pieceEnds_0 : Int) (pieceEnds_1 : Int) (k1 : 0 ≤ x1 ∧ x1 ≤ 71) (k7 : 0 ≤ x7 ∧ x7 ≤ 71) (k11 : 1 ≤ x11 ∧ x11 ≤ 72) (k13 : 0 ≤ x13 ∧ x13 ≤ 71) (k16 : 1 ≤ x16 ∧ x16 ≤ 1) (k18 : 0 ≤ x18 ∧ x18 ≤ 24) (k19 : 1 ≤ x19 ∧ x19 ≤ 16777216) (k20 : 1 ≤ x20 ∧ x20 ≤ 1) (k22 : 0 ≤ x22 ∧ x22 ≤ 24) (k23 : 1 ≤ x23 ∧ x23 ≤ 16777216) (k24 : 0 ≤ x24 ∧ x24 ≤ 33554431) (k25 : 0 ≤ x25 ∧ x25 ≤ 33554431) (k26 : (-1) ≤ x26 ∧ x26 ≤ (-1)) (k27 : (-2147483648) ≤ x27 ∧ x27 ≤ 2147483647) (k28 : 1 ≤ x28 ∧ x28 ≤ 33554431) (k31 : 0 ≤ x31 ∧ x31 ≤ 25) (k32 : 0 ≤ x32 ∧ x32 ≤ 33554431) (k33 : (-1) ≤ x33 ∧ x33 ≤ (-1)) (k34 : (-2147483648) ≤ x34 ∧ x34 ≤ 2147483647) (k35 : 0 ≤ x35 ∧ x35 ≤ 33554431) (k36 : 0 ≤ x36 ∧ x36 ≤ 33554431) (k38 : 0 ≤ x38 ∧ x38 ≤ 33554431) (k39 : 0 ≤ x39 ∧ x39 ≤ 33554431) (k40 : 0 ≤ x40 ∧ x40 ≤ 33554431) (k41 : (-2147483648) ≤ x41 ∧ x41 ≤ 999999) (k42 : 1 ≤ x42 ∧ x42 ≤ 72) (d0 : x7 + 1 ≤ x42 ∧ x42 ≤ x7 + 1) (d1 : x11 + (-4294967296) ≤ x42 ∧ x42 ≤ x11 + 0) (d4 : x11 + (-4294967296) ≤ x7 ∧ x7 ≤ x11 + (-1)) (f22 : bvp (x40) = bvp (x39) &&& bvp (x25)) (g23 : x25 = drawnNodes_2) (f24 : bvp (x39) = bvp (x38) &&& bvp (x32)) (g25 : x32 = blockNodes_2) (f26 : NEF (near_2o2) (x31) (x36) (x38)) (g27 : x31 = nodes_2o2) (f29 : x28 ≠ 0) (f32 : SPZ (near_2o2) (x31) (x28) (x35) (x36)) (f33 : bvp (x35) = bvp (x32) &&& bvp (x34)) (f34 : bvp (x34) = bvp (x25) ^^^ bvp (x33)) (f37 : bvp (x28) = bvp (x24) &&& bvp (x27)) (f38 : bvp (x27) = bvp (x25) ^^^ bvp (x26)) (f40 : bvp (x24) = bvp (x19) ||| bvp (x23)) (f41 : bvp (x23) = bvp (x20) <<< (x22).toNat) (h42 : x22 = head_2o2 (x7)) (f44 : bvp (x19) = bvp (x16) <<< (x18).toNat) (h45 : x18 = tail_2o2 (x7)) (f47 : x13 = x1) (h48 : x13 = block_2 (x7)) (g51 : x11 = edges_2o2) (f53 : BLN (blockNodes_2) (nodes_2o2) (edges_2o2) (block_2) (tail_2o2) (head_2o2) (x1)) (f54 : NOK (nodes_2o2) (edges_2o2) (tail_2o2) (head_2o2) (near_2o2)) (f55 : CNE (edges_2o2) (block_2) (tail_2o2) (head_2o2)) (f56 : DBN (drawnNodes_2) (blockNodes_2)) (fe_0_5_1 : blockNodes_0 = blockNodes_1) (fe_0_6_1 : drawnNodes_0 = drawnNodes_1) (fe_0_7_1 : cycles_0 = cycles_1) (fe_0_16_1 : pieceNodes_0 = pieceNodes_1) (fe_0_17_1 : pieceEnds_0 = x40) (fe_2_5_1 : nodes_0o2 = nodes_1o2) (fe_2_6_1 : edges_0o2 = edges_1o2) (fe_0_5_2 : blockNodes_1 = blockNodes_2) (fe_0_6_2 : drawnNodes_1 = drawnNodes_2) (fe_0_7_2 : cycles_1 = cycles_2) (fe_0_16_2 : pieceNodes_1 = x36) (fe_0_17_2 : pieceEnds_1 = pieceEnds_2) (fe_2_5_2 : nodes_1o2 = nodes_2o2) (fe_2_6_2 : edges_1o2 = edges_2o2) (hE_0_2_1 : ∀ j : Int, block_0 j = block_1 j) (hE_0_2_2 : ∀ j : Int, block_1 j = block_2 j) (hE_2_7_1 : ∀ j : Int, tail_0o2 j = tail_1o2 j) (hE_2_7_2 : ∀ j : Int, tail_1o2 j = tail_2o2 j) (hE_2_8_1 : ∀ j : Int, head_0o2 j = head_1o2 j) (hE_2_8_2 : ∀ j : Int, head_1o2 j = head_2o2 j) (hE_2_9_1 : ∀ j : Int, near_0o2 j = near_1o2 j) (hE_2_9_2 : ∀ j : Int, near_1o2 j = near_2o2 j) (kz_0_5 : 0 ≤ blockNodes_0 ∧ blockNodes_0 ≤ 33554431) (kz_0_6 : 0 ≤ drawnNodes_0 ∧ drawnNodes_0 ≤ 33554431) (kz_0_7 : 0 ≤ cycles_0 ∧ cycles_0 ≤ 50) (kz_0_16 : 0 ≤ pieceNodes_0 ∧ pieceNodes_0 ≤ 33554431) (kz_0_17 : 0 ≤ pieceEnds_0 ∧ pieceEnds_0 ≤ 33554431) (kz_2_5 : 0 ≤ nodes_0o2 ∧ nodes_0o2 ≤ 25) (kz_2_6 : 0 ≤ edges_0o2 ∧ edges_0o2 ≤ 72) : PKI (pieceNodes_0) (pieceEnds_0) (drawnNodes_0) (nodes_0o2) (x41) := by
  subst fe_0_5_1
  subst fe_0_6_1
  subst fe_0_7_1
  subst fe_0_16_1
  subst fe_2_5_1
  subst fe_2_6_1
  subst fe_0_5_2
  subst fe_0_6_2
  subst fe_0_7_2
  subst fe_0_17_2
  subst fe_2_5_2
  subst fe_2_6_2
  have e_hE_0_2_1 := funext hE_0_2_1; subst e_hE_0_2_1
  have e_hE_0_2_2 := funext hE_0_2_2; subst e_hE_0_2_2
  have e_hE_2_7_1 := funext hE_2_7_1; subst e_hE_2_7_1
  have e_hE_2_7_2 := funext hE_2_7_2; subst e_hE_2_7_2
  have e_hE_2_8_1 := funext hE_2_8_1; subst e_hE_2_8_1
  have e_hE_2_8_2 := funext hE_2_8_2; subst e_hE_2_8_2
  have e_hE_2_9_1 := funext hE_2_9_1; subst e_hE_2_9_1
  have e_hE_2_9_2 := funext hE_2_9_2; subst e_hE_2_9_2
  first
    | (have o1 : x16 = 1 := by omega
       have o2 : x20 = 1 := by omega
       subst o1 o2
       have hB := (‹BLN _ _ _ _ _ _ _›); have hN := (‹NOK _ _ _ _ _›); have hS := (‹SPZ _ _ _ _ _›); have hD := (‹DBN _ _›)
       have en : nodes_0o2 = x31 := by omega
       have ed : drawnNodes_0 = x25 := by omega
       have eb : blockNodes_0 = x32 := by omega
       subst en ed eb
       exact pki_new (e := x7) (z0 := x13) (x := x18) (y := x22) (q1 := x19) (q2 := x23) (q3 := x24) (r := x27) (m1 := x26) (fr := x28) (r2 := x34) (m2 := x33) (al := x35) (an := x36) (ed := pieceEnds_0) hB hN ‹CNE _ _ _ _› hD (by omega) (by omega) (by omega) (by omega) (by assumption) (by omega) (by assumption) (by assumption) (by assumption) (by assumption) (by assumption) (by assumption) (by omega) (by assumption) (by assumption) (by assumption) (by omega) hS (by omega) rfl (by first | exact Or.inl ⟨by omega, by omega⟩ | exact Or.inr ⟨by omega, x38, x39, by assumption, by assumption, by rw [show pieceEnds_0 = x40 by omega]; assumption⟩) (by omega) (by omega) (by omega) (by omega) (by omega))
def o_Em_pickPiece_at_gp_3 : or_T := (8, 43, [(0, (2, 0, 0, [1])), (1, (0, 0, 71, [])), (2, (2, 0, 0, [149])), (7, (0, 0, 71, [])), (11, (0, 1, 72, [])), (13, (0, 0, 71, [])), (16, (0, 1, 1, [])), (18, (0, 0, 24, [])), (19, (0, 1, 16777216, [])), (20, (0, 1, 1, [])), (22, (0, 0, 24, [])), (23, (0, 1, 16777216, [])), (24, (0, 0, 33554431, [])), (25, (0, 0, 33554431, [])), (26, (0, -1, -1, [])), (27, (0, -2147483648, 2147483647, [])), (28, (0, 1, 33554431, [])), (31, (0, 0, 25, [])), (32, (0, 0, 33554431, [])), (33, (0, -1, -1, [])), (34, (0, -2147483648, 2147483647, [])), (35, (0, 0, 33554431, [])), (36, (0, 0, 33554431, [])), (38, (0, 0, 33554431, [])), (39, (0, 0, 33554431, [])), (40, (0, 0, 33554431, [])), (41, (0, -2147483648, 999999, [])), (42, (0, 1, 72, []))], [(24, [2, 10], []), (24, [0, 3], []), (24, [1, 4], []), (101, [3, 40], [17]), (101, [3, 36], [16]), (16, [40, 39, 25], [0]), (9, [25, 3], [6]), (16, [39, 38, 32], [0]), (9, [32, 3], [5]), (20, [30, 31, 36, 38], [61, 1, 557]), (9, [31, 10], [5]), (9, [30, 10], [9]), (8, [28], [1]), (20, [30, 31, 28, 35, 36], [61, 1, 579]), (16, [35, 32, 34], [0]), (16, [34, 25, 33], [2]), (16, [28, 24, 27], [0]), (16, [27, 25, 26], [2]), (16, [24, 19, 23], [1]), (16, [23, 20, 22], [3]), (10, [22, 21, 7], []), (9, [21, 10], [8]), (16, [19, 16, 18], [3]), (10, [18, 17, 7], []), (9, [17, 10], [7]), (7, [13, 4], [0]), (10, [13, 12, 7], []), (9, [12, 3], [2]), (9, [11, 10], [6]), (20, [3, 10, 4], [60, 3, 3, 600, 5, 1005, 1006, 2, 1007, 1008]), (20, [10], [60, 2, 3, 595, 5, 6, 7, 8, 9]), (20, [3, 10], [60, 1, 3, 599, 1006, 2, 1007, 1008]), (20, [3], [60, 2, 0, 602, 6, 5])], [], [], [(20, [3, 10, 41], [60, 4, 0, 611, 16, 17, 6, 1005])], [], [(42, 7, 1, 1), (42, 11, -4294967296, 0), (7, 11, -4294967296, -1)])
theorem oo_Em_pickPiece_at_gp_3 {kA : Nat → ClassId} : or_ok PRD kA GG o_Em_pickPiece_at_gp_3 := by
  refine or_mk fun A ta ws vs hD hth hl => ?_
  intro t0 r0 t1 k1 t2 r2 t7 k7 t11 k11 t13 k13 t16 k16 t18 k18 t19 k19 t20 k20 t22 k22 t23 k23 t24 k24 t25 k25 t26 k26 t27 k27 t28 k28 t31 k31 t32 k32 t33 k33 t34 k34 t35 k35 t36 k36 t38 k38 t39 k39 t40 k40 t41 k41 t42 k42 d0 d1 d4 f3 f9 f10 ta1 w1 le1 s1 ta2 w2 le2 s2 f22 f23 f24 f25 f26 f27 f28 f29 f32 f33 f34 f37 f38 f40 f41 f42 f43 f44 f45 f46 f47 f48 f49 f51 f53 f54 f55 f56
  replace f3 := shm_5 f3
  replace f9 := shm_5 f9
  replace f10 := shm_5 f10
  have s1 : (∀ b j, w_el ws b j = w_el w1 b j) ∧ ∀ b j, w_fd ws b j = if b = v_ad (n_v vs 3) ∧ j = 17 then n_v vs 40 else w_fd w1 b j := s1.2
  have s2 : (∀ b j, w_el w1 b j = w_el w2 b j) ∧ ∀ b j, w_fd w1 b j = if b = v_ad (n_v vs 3) ∧ j = 16 then n_v vs 36 else w_fd w2 b j := s2.2
  replace f22 := shm_11 f22
  replace f23 := shm_111 f23
  replace f24 := shm_11 f24
  replace f25 := shm_110 f25
  replace f26 := shm_363 f26
  replace f27 := shm_110 f27
  replace f28 := shm_119 f28
  replace f29 := shm_142 f29
  replace f32 := shm_822 f32
  replace f33 := shm_11 f33
  replace f34 := shm_33 f34
  replace f37 := shm_11 f37
  replace f38 := shm_33 f38
  replace f40 := shm_354 f40
  replace f41 := shm_349 f41
  replace f42 := shm_107 f42
  replace f43 := shm_293 f43
  replace f44 := shm_349 f44
  replace f45 := shm_107 f45
  replace f46 := shm_198 f46
  replace f47 := shm_37 f47
  replace f48 := shm_107 f48
  replace f49 := shm_120 f49
  replace f51 := shm_111 f51
  replace f53 := shm_1338 f53
  replace f54 := shm_408 f54
  replace f55 := shm_1339 f55
  replace f56 := shm_1340 f56
  have q10 : n_v vs 10 = n_v vs 2 := f3.symm
  have q3 : n_v vs 3 = n_v vs 0 := f9.symm
  have q4 : n_v vs 4 = n_v vs 1 := f10.symm
  rw [q3] at s1
  rw [q3] at s2
  simp only [q3, q10, q4] at f23 f25 f27 f28 f43 f46 f47 f49 f51 f53 f54 f55 f56
  have ar_0_2_1 : w_ar w1 (n_v vs 0) 2 = w_ar ws (n_v vs 0) 2 := by show v_ad (w_fd w1 _ _) = v_ad (w_fd ws _ _); rw [s1.2, if_neg (fun e => absurd e.2 (by decide))]
  have ar_0_2_2 : w_ar w2 (n_v vs 0) 2 = w_ar ws (n_v vs 0) 2 := by rw [← ar_0_2_1]; show v_ad (w_fd w2 _ _) = v_ad (w_fd w1 _ _); rw [s2.2, if_neg (fun e => absurd e.2 (by decide))]
  have ar_2_7_1 : w_ar w1 (n_v vs 2) 7 = w_ar ws (n_v vs 2) 7 := by show v_ad (w_fd w1 _ _) = v_ad (w_fd ws _ _); rw [s1.2, if_neg (fun e => absurd e.2 (by decide))]
  have ar_2_7_2 : w_ar w2 (n_v vs 2) 7 = w_ar ws (n_v vs 2) 7 := by rw [← ar_2_7_1]; show v_ad (w_fd w2 _ _) = v_ad (w_fd w1 _ _); rw [s2.2, if_neg (fun e => absurd e.2 (by decide))]
  have ar_2_8_1 : w_ar w1 (n_v vs 2) 8 = w_ar ws (n_v vs 2) 8 := by show v_ad (w_fd w1 _ _) = v_ad (w_fd ws _ _); rw [s1.2, if_neg (fun e => absurd e.2 (by decide))]
  have ar_2_8_2 : w_ar w2 (n_v vs 2) 8 = w_ar ws (n_v vs 2) 8 := by rw [← ar_2_8_1]; show v_ad (w_fd w2 _ _) = v_ad (w_fd w1 _ _); rw [s2.2, if_neg (fun e => absurd e.2 (by decide))]
  have ar_2_9_1 : w_ar w1 (n_v vs 2) 9 = w_ar ws (n_v vs 2) 9 := by show v_ad (w_fd w1 _ _) = v_ad (w_fd ws _ _); rw [s1.2, if_neg (fun e => absurd e.2 (by decide))]
  have ar_2_9_2 : w_ar w2 (n_v vs 2) 9 = w_ar ws (n_v vs 2) 9 := by rw [← ar_2_9_1]; show v_ad (w_fd w2 _ _) = v_ad (w_fd w1 _ _); rw [s2.2, if_neg (fun e => absurd e.2 (by decide))]
  have ad_30 : v_ad (n_v vs 30) = w_ar ws (n_v vs 2) 9 := (congrArg v_ad f28).trans ar_2_9_2
  have ad_21 : v_ad (n_v vs 21) = w_ar ws (n_v vs 2) 8 := (congrArg v_ad f43).trans ar_2_8_2
  have ad_17 : v_ad (n_v vs 17) = w_ar ws (n_v vs 2) 7 := (congrArg v_ad f46).trans ar_2_7_2
  have ad_12 : v_ad (n_v vs 12) = w_ar ws (n_v vs 0) 2 := (congrArg v_ad f49).trans ar_0_2_2
  have g23 : v_iv (n_v vs 25) = w_fi w2 (n_v vs 0) 6 := congrArg v_iv f23
  have g25 : v_iv (n_v vs 32) = w_fi w2 (n_v vs 0) 5 := congrArg v_iv f25
  simp only [ad_30] at f26
  have g27 : v_iv (n_v vs 31) = w_fi w2 (n_v vs 2) 5 := congrArg v_iv f27
  simp only [ad_30, ad_21] at f32 f42
  have h42 : v_iv (n_v vs 22) = w_ei w2 (w_ar ws (n_v vs 2) 8) (v_iv (n_v vs 7)) := f42
  simp only [ad_17] at f45
  have h45 : v_iv (n_v vs 18) = w_ei w2 (w_ar ws (n_v vs 2) 7) (v_iv (n_v vs 7)) := f45
  simp only [ad_12] at f48
  have h48 : v_iv (n_v vs 13) = w_ei w2 (w_ar ws (n_v vs 0) 2) (v_iv (n_v vs 7)) := f48
  have g51 : v_iv (n_v vs 11) = w_fi w2 (n_v vs 2) 6 := congrArg v_iv f51
  simp only [ar_0_2_2, ar_2_7_2, ar_2_8_2, ar_2_9_2] at f53 f54 f55
  have fe_0_5_1 : w_fi ws (n_v vs 0) 5 = w_fi w1 (n_v vs 0) 5 := by show v_iv (w_fd _ _ _) = v_iv (w_fd _ _ _); rw [s1.2, if_neg (fun e => absurd e.2 (by decide))]
  have fe_0_6_1 : w_fi ws (n_v vs 0) 6 = w_fi w1 (n_v vs 0) 6 := by show v_iv (w_fd _ _ _) = v_iv (w_fd _ _ _); rw [s1.2, if_neg (fun e => absurd e.2 (by decide))]
  have fe_0_7_1 : w_fi ws (n_v vs 0) 7 = w_fi w1 (n_v vs 0) 7 := by show v_iv (w_fd _ _ _) = v_iv (w_fd _ _ _); rw [s1.2, if_neg (fun e => absurd e.2 (by decide))]
  have fe_0_16_1 : w_fi ws (n_v vs 0) 16 = w_fi w1 (n_v vs 0) 16 := by show v_iv (w_fd _ _ _) = v_iv (w_fd _ _ _); rw [s1.2, if_neg (fun e => absurd e.2 (by decide))]
  have fe_0_17_1 : w_fi ws (n_v vs 0) 17 = v_iv (n_v vs 40) := by show v_iv (w_fd _ _ _) = _; rw [s1.2, if_pos ⟨rfl, rfl⟩]
  have fe_2_5_1 : w_fi ws (n_v vs 2) 5 = w_fi w1 (n_v vs 2) 5 := by show v_iv (w_fd _ _ _) = v_iv (w_fd _ _ _); rw [s1.2, if_neg (fun e => absurd e.2 (by decide))]
  have fe_2_6_1 : w_fi ws (n_v vs 2) 6 = w_fi w1 (n_v vs 2) 6 := by show v_iv (w_fd _ _ _) = v_iv (w_fd _ _ _); rw [s1.2, if_neg (fun e => absurd e.2 (by decide))]
  have fe_0_5_2 : w_fi w1 (n_v vs 0) 5 = w_fi w2 (n_v vs 0) 5 := by show v_iv (w_fd _ _ _) = v_iv (w_fd _ _ _); rw [s2.2, if_neg (fun e => absurd e.2 (by decide))]
  have fe_0_6_2 : w_fi w1 (n_v vs 0) 6 = w_fi w2 (n_v vs 0) 6 := by show v_iv (w_fd _ _ _) = v_iv (w_fd _ _ _); rw [s2.2, if_neg (fun e => absurd e.2 (by decide))]
  have fe_0_7_2 : w_fi w1 (n_v vs 0) 7 = w_fi w2 (n_v vs 0) 7 := by show v_iv (w_fd _ _ _) = v_iv (w_fd _ _ _); rw [s2.2, if_neg (fun e => absurd e.2 (by decide))]
  have fe_0_16_2 : w_fi w1 (n_v vs 0) 16 = v_iv (n_v vs 36) := by show v_iv (w_fd _ _ _) = _; rw [s2.2, if_pos ⟨rfl, rfl⟩]
  have fe_0_17_2 : w_fi w1 (n_v vs 0) 17 = w_fi w2 (n_v vs 0) 17 := by show v_iv (w_fd _ _ _) = v_iv (w_fd _ _ _); rw [s2.2, if_neg (fun e => absurd e.2 (by decide))]
  have fe_2_5_2 : w_fi w1 (n_v vs 2) 5 = w_fi w2 (n_v vs 2) 5 := by show v_iv (w_fd _ _ _) = v_iv (w_fd _ _ _); rw [s2.2, if_neg (fun e => absurd e.2 (by decide))]
  have fe_2_6_2 : w_fi w1 (n_v vs 2) 6 = w_fi w2 (n_v vs 2) 6 := by show v_iv (w_fd _ _ _) = v_iv (w_fd _ _ _); rw [s2.2, if_neg (fun e => absurd e.2 (by decide))]
  have hE_0_2_1 : ∀ j : Int, w_ei ws (w_ar ws (n_v vs 0) 2) j = w_ei w1 (w_ar ws (n_v vs 0) 2) j := fun j => s1.1 _ _
  have hE_0_2_2 : ∀ j : Int, w_ei w1 (w_ar ws (n_v vs 0) 2) j = w_ei w2 (w_ar ws (n_v vs 0) 2) j := fun j => s2.1 _ _
  have hE_2_7_1 : ∀ j : Int, w_ei ws (w_ar ws (n_v vs 2) 7) j = w_ei w1 (w_ar ws (n_v vs 2) 7) j := fun j => s1.1 _ _
  have hE_2_7_2 : ∀ j : Int, w_ei w1 (w_ar ws (n_v vs 2) 7) j = w_ei w2 (w_ar ws (n_v vs 2) 7) j := fun j => s2.1 _ _
  have hE_2_8_1 : ∀ j : Int, w_ei ws (w_ar ws (n_v vs 2) 8) j = w_ei w1 (w_ar ws (n_v vs 2) 8) j := fun j => s1.1 _ _
  have hE_2_8_2 : ∀ j : Int, w_ei w1 (w_ar ws (n_v vs 2) 8) j = w_ei w2 (w_ar ws (n_v vs 2) 8) j := fun j => s2.1 _ _
  have hE_2_9_1 : ∀ j : Int, w_ei ws (w_ar ws (n_v vs 2) 9) j = w_ei w1 (w_ar ws (n_v vs 2) 9) j := fun j => s1.1 _ _
  have hE_2_9_2 : ∀ j : Int, w_ei w1 (w_ar ws (n_v vs 2) 9) j = w_ei w2 (w_ar ws (n_v vs 2) 9) j := fun j => s2.1 _ _
  have kz_0_5 := fdq_283 hD hth r0
  have kz_0_6 := fdq_53 hD hth r0
  have kz_0_7 := fdq_49 hD hth r0
  have kz_0_16 := fdq_284 hD hth r0
  have kz_0_17 := fdq_285 hD hth r0
  have kz_2_5 := fdq_85 hD hth r2
  have kz_2_6 := fdq_62 hD hth r2
  have nf0 : fc_1 PRD (20, [3, 10, 41], [60, 4, 0, 611, 16, 17, 6, 1005]) ws (vs) := by
    refine ⟨nf_in hl rfl, sgq_1342 ?_⟩
    · show PKI (w_fi ws (n_v vs 3) 16) (w_fi ws (n_v vs 3) 17) (w_fi ws (n_v vs 3) 6) (w_fi ws (n_v vs 10) 5) (v_iv (n_v vs 41))
      simp only [q10, q3]
      exact vc_Em_pickPiece_at_gp_3_0 (v_iv (n_v vs 1)) (v_iv (n_v vs 7)) (v_iv (n_v vs 11)) (v_iv (n_v vs 13)) (v_iv (n_v vs 16)) (v_iv (n_v vs 18)) (v_iv (n_v vs 19)) (v_iv (n_v vs 20)) (v_iv (n_v vs 22)) (v_iv (n_v vs 23)) (v_iv (n_v vs 24)) (v_iv (n_v vs 25)) (v_iv (n_v vs 26)) (v_iv (n_v vs 27)) (v_iv (n_v vs 28)) (v_iv (n_v vs 31)) (v_iv (n_v vs 32)) (v_iv (n_v vs 33)) (v_iv (n_v vs 34)) (v_iv (n_v vs 35)) (v_iv (n_v vs 36)) (v_iv (n_v vs 38)) (v_iv (n_v vs 39)) (v_iv (n_v vs 40)) (v_iv (n_v vs 41)) (v_iv (n_v vs 42)) (w_ei ws (w_ar ws (n_v vs 2) 9)) (w_ei ws (w_ar ws (n_v vs 0) 2)) (w_ei ws (w_ar ws (n_v vs 2) 7)) (w_ei ws (w_ar ws (n_v vs 2) 8)) (w_fi ws (n_v vs 0) 5) (w_fi ws (n_v vs 2) 5) (w_fi ws (n_v vs 2) 6) (w_fi ws (n_v vs 0) 6) (w_fi ws (n_v vs 0) 7) (w_ei w1 (w_ar ws (n_v vs 2) 9)) (w_ei w1 (w_ar ws (n_v vs 0) 2)) (w_ei w1 (w_ar ws (n_v vs 2) 7)) (w_ei w1 (w_ar ws (n_v vs 2) 8)) (w_fi w1 (n_v vs 0) 5) (w_fi w1 (n_v vs 2) 5) (w_fi w1 (n_v vs 2) 6) (w_fi w1 (n_v vs 0) 6) (w_fi w1 (n_v vs 0) 7) (w_fi w2 (n_v vs 0) 6) (w_fi w2 (n_v vs 0) 5) (w_ei w2 (w_ar ws (n_v vs 2) 9)) (w_fi w2 (n_v vs 2) 5) (w_ei w2 (w_ar ws (n_v vs 2) 8)) (w_ei w2 (w_ar ws (n_v vs 2) 7)) (w_ei w2 (w_ar ws (n_v vs 0) 2)) (w_fi w2 (n_v vs 2) 6) (w_fi w2 (n_v vs 0) 17) (w_fi w2 (n_v vs 0) 7) (w_fi ws (n_v vs 0) 16) (w_fi w1 (n_v vs 0) 16) (w_fi ws (n_v vs 0) 17) (w_fi w1 (n_v vs 0) 17) k1 k7 k11 k13 k16 k18 k19 k20 k22 k23 k24 k25 k26 k27 k28 k31 k32 k33 k34 k35 k36 k38 k39 k40 k41 k42 d0 d1 d4 f22 g23 f24 g25 f26 g27 f29 f32 f33 f34 f37 f38 f40 f41 h42 f44 h45 f47 h48 g51 f53 f54 f55 f56 fe_0_5_1 fe_0_6_1 fe_0_7_1 fe_0_16_1 fe_0_17_1 fe_2_5_1 fe_2_6_1 fe_0_5_2 fe_0_6_2 fe_0_7_2 fe_0_16_2 fe_0_17_2 fe_2_5_2 fe_2_6_2 hE_0_2_1 hE_0_2_2 hE_2_7_1 hE_2_7_2 hE_2_8_1 hE_2_8_2 hE_2_9_1 hE_2_9_2 kz_0_5 kz_0_6 kz_0_7 kz_0_16 kz_0_17 kz_2_5 kz_2_6
  refine ⟨(fun _ h => (by cases h)), [], trivial, ?_, (fun _ h => (by cases h))⟩
  rw [List.append_nil]
  exact List.forall_mem_cons.mpr ⟨⟨show (20 : Nat) < 100 from by decide, nf0⟩, (fun _ h => (by cases h))⟩
set_option maxHeartbeats 4000000 in
theorem vc_Em_pickPiece_at_gp_4_0 (x42 : Int) (drawnNodes_0 : Int) (nodes_0o2 : Int) (pieceNodes_0 : Int) (pieceEnds_0 : Int) (k42 : 0 ≤ x42 ∧ x42 ≤ 0) (kz_0_6 : 0 ≤ drawnNodes_0 ∧ drawnNodes_0 ≤ 33554431) (kz_0_16 : 0 ≤ pieceNodes_0 ∧ pieceNodes_0 ≤ 33554431) (kz_0_17 : 0 ≤ pieceEnds_0 ∧ pieceEnds_0 ≤ 33554431) (kz_2_5 : 0 ≤ nodes_0o2 ∧ nodes_0o2 ≤ 25) : PKA (pieceNodes_0) (pieceEnds_0) (drawnNodes_0) (nodes_0o2) (x42) := by
  first
    | exact Or.inl (by omega)
    | (rcases (‹PKI _ _ _ _ _›) with q | ⟨_, q⟩
       · omega
       · exact Or.inr q)
set_option maxHeartbeats 4000000 in
theorem vc_Em_pickPiece_at_gp_4_1 (x42 : Int) (cycles_0 : Int) (pieceCycle_0 : Int) (k42 : 0 ≤ x42 ∧ x42 ≤ 0) (kz_0_7 : 0 ≤ cycles_0 ∧ cycles_0 ≤ 50) (kz_0_18 : 0 ≤ pieceCycle_0 ∧ pieceCycle_0 ≤ 49) : (x42 = 0) ∨ ((pieceCycle_0 + 1) ≤ cycles_0) := by
  first
    | omega
  
def o_Em_pickPiece_at_gp_4 : or_T := (184, 43, [(0, (2, 0, 0, [1])), (2, (2, 0, 0, [149])), (42, (0, 0, 0, []))], [], [], [], [(20, [0, 2, 42], [60, 4, 0, 612, 16, 17, 6, 1005]), (20, [42, 0], [50, 2, 0, 1018, 1007, 3, 6, 1, 2, 1, 0, 0, 0, 0, 7, 4, 3, 2, 1, 18, 0, 1, 2, 1, 7])], [], [])
theorem oo_Em_pickPiece_at_gp_4 {kA : Nat → ClassId} : or_ok PRD kA GG o_Em_pickPiece_at_gp_4 := by
  refine or_mk fun A ta ws vs hD hth hl => ?_
  intro t0 r0 t2 r2 t42 k42
  have kz_0_6 := fdq_53 hD hth r0
  have kz_0_7 := fdq_49 hD hth r0
  have kz_0_16 := fdq_284 hD hth r0
  have kz_0_17 := fdq_285 hD hth r0
  have kz_0_18 := fdq_286 hD hth r0
  have kz_2_5 := fdq_85 hD hth r2
  have nf0 : fc_1 PRD (20, [0, 2, 42], [60, 4, 0, 612, 16, 17, 6, 1005]) ws (vs) := ⟨nf_in hl rfl, sgq_1343 (vc_Em_pickPiece_at_gp_4_0 (v_iv (n_v vs 42)) (w_fi ws (n_v vs 0) 6) (w_fi ws (n_v vs 2) 5) (w_fi ws (n_v vs 0) 16) (w_fi ws (n_v vs 0) 17) k42 kz_0_6 kz_0_16 kz_0_17 kz_2_5)⟩
  have nf1 : fc_1 PRD (20, [42, 0], [50, 2, 0, 1018, 1007, 3, 6, 1, 2, 1, 0, 0, 0, 0, 7, 4, 3, 2, 1, 18, 0, 1, 2, 1, 7]) ws (vs) := ⟨nf_in hl rfl, sgq_1344 (vc_Em_pickPiece_at_gp_4_1 (v_iv (n_v vs 42)) (w_fi ws (n_v vs 0) 7) (w_fi ws (n_v vs 0) 18) k42 kz_0_7 kz_0_18)⟩
  refine ⟨(fun _ h => (by cases h)), [], trivial, ?_, (fun _ h => (by cases h))⟩
  rw [List.append_nil]
  exact List.forall_mem_cons.mpr ⟨⟨show (20 : Nat) < 100 from by decide, nf0⟩, List.forall_mem_cons.mpr ⟨⟨show (20 : Nat) < 100 from by decide, nf1⟩, (fun _ h => (by cases h))⟩⟩
set_option maxHeartbeats 4000000 in
theorem vc_Em_pickPiece_at_gp_5_0 (x1 : Int) (x7 : Int) (x11 : Int) (x13 : Int) (x16 : Int) (x18 : Int) (x19 : Int) (x20 : Int) (x22 : Int) (x23 : Int) (x24 : Int) (x25 : Int) (x26 : Int) (x27 : Int) (x28 : Int) (x31 : Int) (x32 : Int) (x33 : Int) (x34 : Int) (x35 : Int) (x36 : Int) (x38 : Int) (x39 : Int) (near_0o2 : Int → Int) (block_0 : Int → Int) (tail_0o2 : Int → Int) (head_0o2 : Int → Int) (blockNodes_0 : Int) (nodes_0o2 : Int) (edges_0o2 : Int) (drawnNodes_0 : Int) (cycles_0 : Int) (near_1o2 : Int → Int) (block_1 : Int → Int) (tail_1o2 : Int → Int) (head_1o2 : Int → Int) (blockNodes_1 : Int) (nodes_1o2 : Int) (edges_1o2 : Int) (drawnNodes_1 : Int) (cycles_1 : Int) (near_2o2 : Int → Int) (drawnNodes_2 : Int) (blockNodes_2 : Int) (nodes_2o2 : Int) (head_2o2 : Int → Int) (tail_2o2 : Int → Int) (block_2 : Int → Int) (edges_2o2 : Int) (pieceEnds_2 : Int) (cycles_2 : Int) (pieceNodes_0 : Int) (pieceNodes_1 : Int) (pieceEnds_0 : Int) (pieceEnds_1 : Int) (k1 : 0 ≤ x1 ∧ x1 ≤ 71) (k7 : 0 ≤ x7 ∧ x7 ≤ 71) (k11 : 1 ≤ x11 ∧ x11 ≤ 72) (k13 : 0 ≤ x13 ∧ x13 ≤ 71) (k16 : 1 ≤ x16 ∧ x16 ≤ 1) (k18 : 0 ≤ x18 ∧ x18 ≤ 24) (k19 : 1 ≤ x19 ∧ x19 ≤ 16777216) (k20 : 1 ≤ x20 ∧ x20 ≤ 1) (k22 : 0 ≤ x22 ∧ x22 ≤ 24) (k23 : 1 ≤ x23 ∧ x23 ≤ 16777216) (k24 : 0 ≤ x24 ∧ x24 ≤ 33554431) (k25 : 0 ≤ x25 ∧ x25 ≤ 33554431) (k26 : (-1) ≤ x26 ∧ x26 ≤ (-1)) (k27 : (-2147483648) ≤ x27 ∧ x27 ≤ 2147483647) (k28 : 0 ≤ x28 ∧ x28 ≤ 0) (k31 : 0 ≤ x31 ∧ x31 ≤ 25) (k32 : 0 ≤ x32 ∧ x32 ≤ 33554431) (k33 : (-1) ≤ x33 ∧ x33 ≤ (-1)) (k34 : (-2147483648) ≤ x34 ∧ x34 ≤ 2147483647) (k35 : 0 ≤ x35 ∧ x35 ≤ 33554431) (k36 : 0 ≤ x36 ∧ x36 ≤ 33554431) (k38 : (-2147483648) ≤ x38 ∧ x38 ≤ 999999) (k39 : 1 ≤ x39 ∧ x39 ≤ 72) (d0 : x7 + 1 ≤ x39 ∧ x39 ≤ x7 + 1) (d1 : x11 + (-4294967296) ≤ x39 ∧ x39 ≤ x11 + 0) (d4 : x11 + (-4294967296) ≤ x7 ∧ x7 ≤ x11 + (-1)) (f20 : x28 = 0) (f23 : SPZ (near_2o2) (x31) (x28) (x35) (x36)) (f24 : bvp (x35) = bvp (x32) &&& bvp (x34)) (f25 : bvp (x34) = bvp (x25) ^^^ bvp (x33)) (g26 : x25 = drawnNodes_2) (g27 : x32 = blockNodes_2) (g28 : x31 = nodes_2o2) (f32 : bvp (x28) = bvp (x24) &&& bvp (x27)) (f33 : bvp (x27) = bvp (x25) ^^^ bvp (x26)) (f35 : bvp (x24) = bvp (x19) ||| bvp (x23)) (f36 : bvp (x23) = bvp (x20) <<< (x22).toNat) (h37 : x22 = head_2o2 (x7)) (f39 : bvp (x19) = bvp (x16) <<< (x18).toNat) (h40 : x18 = tail_2o2 (x7)) (f42 : x13 = x1) (h43 : x13 = block_2 (x7)) (g46 : x11 = edges_2o2) (f48 : BLN (blockNodes_2) (nodes_2o2) (edges_2o2) (block_2) (tail_2o2) (head_2o2) (x1)) (f49 : NOK (nodes_2o2) (edges_2o2) (tail_2o2) (head_2o2) (near_2o2)) (f50 : CNE (edges_2o2) (block_2) (tail_2o2) (head_2o2)) (f51 : DBN (drawnNodes_2) (blockNodes_2)) (fe_0_5_1 : blockNodes_0 = blockNodes_1) (fe_0_6_1 : drawnNodes_0 = drawnNodes_1) (fe_0_7_1 : cycles_0 = cycles_1) (fe_0_16_1 : pieceNodes_0 = pieceNodes_1) (fe_0_17_1 : pieceEnds_0 = x24) (fe_2_5_1 : nodes_0o2 = nodes_1o2) (fe_2_6_1 : edges_0o2 = edges_1o2) (fe_0_5_2 : blockNodes_1 = blockNodes_2) (fe_0_6_2 : drawnNodes_1 = drawnNodes_2) (fe_0_7_2 : cycles_1 = cycles_2) (fe_0_16_2 : pieceNodes_1 = x36) (fe_0_17_2 : pieceEnds_1 = pieceEnds_2) (fe_2_5_2 : nodes_1o2 = nodes_2o2) (fe_2_6_2 : edges_1o2 = edges_2o2) (hE_0_2_1 : ∀ j : Int, block_0 j = block_1 j) (hE_0_2_2 : ∀ j : Int, block_1 j = block_2 j) (hE_2_7_1 : ∀ j : Int, tail_0o2 j = tail_1o2 j) (hE_2_7_2 : ∀ j : Int, tail_1o2 j = tail_2o2 j) (hE_2_8_1 : ∀ j : Int, head_0o2 j = head_1o2 j) (hE_2_8_2 : ∀ j : Int, head_1o2 j = head_2o2 j) (hE_2_9_1 : ∀ j : Int, near_0o2 j = near_1o2 j) (hE_2_9_2 : ∀ j : Int, near_1o2 j = near_2o2 j) (kz_0_5 : 0 ≤ blockNodes_0 ∧ blockNodes_0 ≤ 33554431) (kz_0_6 : 0 ≤ drawnNodes_0 ∧ drawnNodes_0 ≤ 33554431) (kz_0_7 : 0 ≤ cycles_0 ∧ cycles_0 ≤ 50) (kz_0_16 : 0 ≤ pieceNodes_0 ∧ pieceNodes_0 ≤ 33554431) (kz_0_17 : 0 ≤ pieceEnds_0 ∧ pieceEnds_0 ≤ 33554431) (kz_2_5 : 0 ≤ nodes_0o2 ∧ nodes_0o2 ≤ 25) (kz_2_6 : 0 ≤ edges_0o2 ∧ edges_0o2 ≤ 72) : PKI (pieceNodes_0) (pieceEnds_0) (drawnNodes_0) (nodes_0o2) (x38) := by
  subst fe_0_5_1
  subst fe_0_6_1
  subst fe_0_7_1
  subst fe_0_16_1
  subst fe_2_5_1
  subst fe_2_6_1
  subst fe_0_5_2
  subst fe_0_6_2
  subst fe_0_7_2
  subst fe_0_17_2
  subst fe_2_5_2
  subst fe_2_6_2
  have e_hE_0_2_1 := funext hE_0_2_1; subst e_hE_0_2_1
  have e_hE_0_2_2 := funext hE_0_2_2; subst e_hE_0_2_2
  have e_hE_2_7_1 := funext hE_2_7_1; subst e_hE_2_7_1
  have e_hE_2_7_2 := funext hE_2_7_2; subst e_hE_2_7_2
  have e_hE_2_8_1 := funext hE_2_8_1; subst e_hE_2_8_1
  have e_hE_2_8_2 := funext hE_2_8_2; subst e_hE_2_8_2
  have e_hE_2_9_1 := funext hE_2_9_1; subst e_hE_2_9_1
  have e_hE_2_9_2 := funext hE_2_9_2; subst e_hE_2_9_2
  first
    | (have o1 : x16 = 1 := by omega
       have o2 : x20 = 1 := by omega
       subst o1 o2
       have hB := (‹BLN _ _ _ _ _ _ _›); have hN := (‹NOK _ _ _ _ _›); have hS := (‹SPZ _ _ _ _ _›); have hD := (‹DBN _ _›)
       have en : nodes_0o2 = x31 := by omega
       have ed : drawnNodes_0 = x25 := by omega
       have eb : blockNodes_0 = x32 := by omega
       subst en ed eb
       exact pki_new (e := x7) (z0 := x13) (x := x18) (y := x22) (q1 := x19) (q2 := x23) (q3 := x24) (r := x27) (m1 := x26) (fr := x28) (r2 := x34) (m2 := x33) (al := x35) (an := x36) (ed := pieceEnds_0) hB hN ‹CNE _ _ _ _› hD (by omega) (by omega) (by omega) (by omega) (by assumption) (by omega) (by assumption) (by assumption) (by assumption) (by assumption) (by assumption) (by assumption) (by omega) (by assumption) (by assumption) (by assumption) (by omega) hS (by omega) rfl (by first | exact Or.inl ⟨by omega, by omega⟩ | exact Or.inr ⟨by omega, x38, x39, by assumption, by assumption, by rw [show pieceEnds_0 = x40 by omega]; assumption⟩) (by omega) (by omega) (by omega) (by omega) (by omega))
def o_Em_pickPiece_at_gp_5 : or_T := (8, 40, [(0, (2, 0, 0, [1])), (1, (0, 0, 71, [])), (2, (2, 0, 0, [149])), (7, (0, 0, 71, [])), (11, (0, 1, 72, [])), (13, (0, 0, 71, [])), (16, (0, 1, 1, [])), (18, (0, 0, 24, [])), (19, (0, 1, 16777216, [])), (20, (0, 1, 1, [])), (22, (0, 0, 24, [])), (23, (0, 1, 16777216, [])), (24, (0, 0, 33554431, [])), (25, (0, 0, 33554431, [])), (26, (0, -1, -1, [])), (27, (0, -2147483648, 2147483647, [])), (28, (0, 0, 0, [])), (31, (0, 0, 25, [])), (32, (0, 0, 33554431, [])), (33, (0, -1, -1, [])), (34, (0, -2147483648, 2147483647, [])), (35, (0, 0, 33554431, [])), (36, (0, 0, 33554431, [])), (38, (0, -2147483648, 999999, [])), (39, (0, 1, 72, []))], [(24, [2, 10], []), (24, [0, 3], []), (24, [1, 4], []), (101, [3, 24], [17]), (101, [3, 36], [16]), (8, [28], [0]), (20, [30, 31, 28, 35, 36], [61, 1, 579]), (16, [35, 32, 34], [0]), (16, [34, 25, 33], [2]), (9, [25, 3], [6]), (9, [32, 3], [5]), (9, [31, 10], [5]), (9, [30, 10], [9]), (16, [28, 24, 27], [0]), (16, [27, 25, 26], [2]), (16, [24, 19, 23], [1]), (16, [23, 20, 22], [3]), (10, [22, 21, 7], []), (9, [21, 10], [8]), (16, [19, 16, 18], [3]), (10, [18, 17, 7], []), (9, [17, 10], [7]), (7, [13, 4], [0]), (10, [13, 12, 7], []), (9, [12, 3], [2]), (9, [11, 10], [6]), (20, [3, 10, 4], [60, 3, 3, 600, 5, 1005, 1006, 2, 1007, 1008]), (20, [10], [60, 2, 3, 595, 5, 6, 7, 8, 9]), (20, [3, 10], [60, 1, 3, 599, 1006, 2, 1007, 1008]), (20, [3], [60, 2, 0, 602, 6, 5])], [], [], [(20, [3, 10, 38], [60, 4, 0, 611, 16, 17, 6, 1005])], [], [(39, 7, 1, 1), (39, 11, -4294967296, 0), (7, 11, -4294967296, -1)])
theorem oo_Em_pickPiece_at_gp_5 {kA : Nat → ClassId} : or_ok PRD kA GG o_Em_pickPiece_at_gp_5 := by
  refine or_mk fun A ta ws vs hD hth hl => ?_
  intro t0 r0 t1 k1 t2 r2 t7 k7 t11 k11 t13 k13 t16 k16 t18 k18 t19 k19 t20 k20 t22 k22 t23 k23 t24 k24 t25 k25 t26 k26 t27 k27 t28 k28 t31 k31 t32 k32 t33 k33 t34 k34 t35 k35 t36 k36 t38 k38 t39 k39 d0 d1 d4 f2 f8 f9 ta1 w1 le1 s1 ta2 w2 le2 s2 f20 f23 f24 f25 f26 f27 f28 f29 f32 f33 f35 f36 f37 f38 f39 f40 f41 f42 f43 f44 f46 f48 f49 f50 f51
  replace f2 := shm_5 f2
  replace f8 := shm_5 f8
  replace f9 := shm_5 f9
  have s1 : (∀ b j, w_el ws b j = w_el w1 b j) ∧ ∀ b j, w_fd ws b j = if b = v_ad (n_v vs 3) ∧ j = 17 then n_v vs 24 else w_fd w1 b j := s1.2
  have s2 : (∀ b j, w_el w1 b j = w_el w2 b j) ∧ ∀ b j, w_fd w1 b j = if b = v_ad (n_v vs 3) ∧ j = 16 then n_v vs 36 else w_fd w2 b j := s2.2
  replace f20 := shm_192 f20
  replace f23 := shm_822 f23
  replace f24 := shm_11 f24
  replace f25 := shm_33 f25
  replace f26 := shm_111 f26
  replace f27 := shm_110 f27
  replace f28 := shm_110 f28
  replace f29 := shm_119 f29
  replace f32 := shm_11 f32
  replace f33 := shm_33 f33
  replace f35 := shm_354 f35
  replace f36 := shm_349 f36
  replace f37 := shm_107 f37
  replace f38 := shm_293 f38
  replace f39 := shm_349 f39
  replace f40 := shm_107 f40
  replace f41 := shm_198 f41
  replace f42 := shm_37 f42
  replace f43 := shm_107 f43
  replace f44 := shm_120 f44
  replace f46 := shm_111 f46
  replace f48 := shm_1338 f48
  replace f49 := shm_408 f49
  replace f50 := shm_1339 f50
  replace f51 := shm_1340 f51
  have q10 : n_v vs 10 = n_v vs 2 := f2.symm
  have q3 : n_v vs 3 = n_v vs 0 := f8.symm
  have q4 : n_v vs 4 = n_v vs 1 := f9.symm
  rw [q3] at s1
  rw [q3] at s2
  simp only [q3, q10, q4] at f26 f27 f28 f29 f38 f41 f42 f44 f46 f48 f49 f50 f51
  have ar_0_2_1 : w_ar w1 (n_v vs 0) 2 = w_ar ws (n_v vs 0) 2 := by show v_ad (w_fd w1 _ _) = v_ad (w_fd ws _ _); rw [s1.2, if_neg (fun e => absurd e.2 (by decide))]
  have ar_0_2_2 : w_ar w2 (n_v vs 0) 2 = w_ar ws (n_v vs 0) 2 := by rw [← ar_0_2_1]; show v_ad (w_fd w2 _ _) = v_ad (w_fd w1 _ _); rw [s2.2, if_neg (fun e => absurd e.2 (by decide))]
  have ar_2_7_1 : w_ar w1 (n_v vs 2) 7 = w_ar ws (n_v vs 2) 7 := by show v_ad (w_fd w1 _ _) = v_ad (w_fd ws _ _); rw [s1.2, if_neg (fun e => absurd e.2 (by decide))]
  have ar_2_7_2 : w_ar w2 (n_v vs 2) 7 = w_ar ws (n_v vs 2) 7 := by rw [← ar_2_7_1]; show v_ad (w_fd w2 _ _) = v_ad (w_fd w1 _ _); rw [s2.2, if_neg (fun e => absurd e.2 (by decide))]
  have ar_2_8_1 : w_ar w1 (n_v vs 2) 8 = w_ar ws (n_v vs 2) 8 := by show v_ad (w_fd w1 _ _) = v_ad (w_fd ws _ _); rw [s1.2, if_neg (fun e => absurd e.2 (by decide))]
  have ar_2_8_2 : w_ar w2 (n_v vs 2) 8 = w_ar ws (n_v vs 2) 8 := by rw [← ar_2_8_1]; show v_ad (w_fd w2 _ _) = v_ad (w_fd w1 _ _); rw [s2.2, if_neg (fun e => absurd e.2 (by decide))]
  have ar_2_9_1 : w_ar w1 (n_v vs 2) 9 = w_ar ws (n_v vs 2) 9 := by show v_ad (w_fd w1 _ _) = v_ad (w_fd ws _ _); rw [s1.2, if_neg (fun e => absurd e.2 (by decide))]
  have ar_2_9_2 : w_ar w2 (n_v vs 2) 9 = w_ar ws (n_v vs 2) 9 := by rw [← ar_2_9_1]; show v_ad (w_fd w2 _ _) = v_ad (w_fd w1 _ _); rw [s2.2, if_neg (fun e => absurd e.2 (by decide))]
  have ad_30 : v_ad (n_v vs 30) = w_ar ws (n_v vs 2) 9 := (congrArg v_ad f29).trans ar_2_9_2
  have ad_21 : v_ad (n_v vs 21) = w_ar ws (n_v vs 2) 8 := (congrArg v_ad f38).trans ar_2_8_2
  have ad_17 : v_ad (n_v vs 17) = w_ar ws (n_v vs 2) 7 := (congrArg v_ad f41).trans ar_2_7_2
  have ad_12 : v_ad (n_v vs 12) = w_ar ws (n_v vs 0) 2 := (congrArg v_ad f44).trans ar_0_2_2
  simp only [ad_30, ar_0_2_1, ar_2_7_1, ar_2_8_1, ar_2_9_1] at f23
  have g26 : v_iv (n_v vs 25) = w_fi w2 (n_v vs 0) 6 := congrArg v_iv f26
  have g27 : v_iv (n_v vs 32) = w_fi w2 (n_v vs 0) 5 := congrArg v_iv f27
  have g28 : v_iv (n_v vs 31) = w_fi w2 (n_v vs 2) 5 := congrArg v_iv f28
  simp only [ad_21] at f37
  have h37 : v_iv (n_v vs 22) = w_ei w2 (w_ar ws (n_v vs 2) 8) (v_iv (n_v vs 7)) := f37
  simp only [ad_17] at f40
  have h40 : v_iv (n_v vs 18) = w_ei w2 (w_ar ws (n_v vs 2) 7) (v_iv (n_v vs 7)) := f40
  simp only [ad_12] at f43
  have h43 : v_iv (n_v vs 13) = w_ei w2 (w_ar ws (n_v vs 0) 2) (v_iv (n_v vs 7)) := f43
  have g46 : v_iv (n_v vs 11) = w_fi w2 (n_v vs 2) 6 := congrArg v_iv f46
  simp only [ar_0_2_2, ar_2_7_2, ar_2_8_2, ar_2_9_2] at f48 f49 f50
  have fe_0_5_1 : w_fi ws (n_v vs 0) 5 = w_fi w1 (n_v vs 0) 5 := by show v_iv (w_fd _ _ _) = v_iv (w_fd _ _ _); rw [s1.2, if_neg (fun e => absurd e.2 (by decide))]
  have fe_0_6_1 : w_fi ws (n_v vs 0) 6 = w_fi w1 (n_v vs 0) 6 := by show v_iv (w_fd _ _ _) = v_iv (w_fd _ _ _); rw [s1.2, if_neg (fun e => absurd e.2 (by decide))]
  have fe_0_7_1 : w_fi ws (n_v vs 0) 7 = w_fi w1 (n_v vs 0) 7 := by show v_iv (w_fd _ _ _) = v_iv (w_fd _ _ _); rw [s1.2, if_neg (fun e => absurd e.2 (by decide))]
  have fe_0_16_1 : w_fi ws (n_v vs 0) 16 = w_fi w1 (n_v vs 0) 16 := by show v_iv (w_fd _ _ _) = v_iv (w_fd _ _ _); rw [s1.2, if_neg (fun e => absurd e.2 (by decide))]
  have fe_0_17_1 : w_fi ws (n_v vs 0) 17 = v_iv (n_v vs 24) := by show v_iv (w_fd _ _ _) = _; rw [s1.2, if_pos ⟨rfl, rfl⟩]
  have fe_2_5_1 : w_fi ws (n_v vs 2) 5 = w_fi w1 (n_v vs 2) 5 := by show v_iv (w_fd _ _ _) = v_iv (w_fd _ _ _); rw [s1.2, if_neg (fun e => absurd e.2 (by decide))]
  have fe_2_6_1 : w_fi ws (n_v vs 2) 6 = w_fi w1 (n_v vs 2) 6 := by show v_iv (w_fd _ _ _) = v_iv (w_fd _ _ _); rw [s1.2, if_neg (fun e => absurd e.2 (by decide))]
  have fe_0_5_2 : w_fi w1 (n_v vs 0) 5 = w_fi w2 (n_v vs 0) 5 := by show v_iv (w_fd _ _ _) = v_iv (w_fd _ _ _); rw [s2.2, if_neg (fun e => absurd e.2 (by decide))]
  have fe_0_6_2 : w_fi w1 (n_v vs 0) 6 = w_fi w2 (n_v vs 0) 6 := by show v_iv (w_fd _ _ _) = v_iv (w_fd _ _ _); rw [s2.2, if_neg (fun e => absurd e.2 (by decide))]
  have fe_0_7_2 : w_fi w1 (n_v vs 0) 7 = w_fi w2 (n_v vs 0) 7 := by show v_iv (w_fd _ _ _) = v_iv (w_fd _ _ _); rw [s2.2, if_neg (fun e => absurd e.2 (by decide))]
  have fe_0_16_2 : w_fi w1 (n_v vs 0) 16 = v_iv (n_v vs 36) := by show v_iv (w_fd _ _ _) = _; rw [s2.2, if_pos ⟨rfl, rfl⟩]
  have fe_0_17_2 : w_fi w1 (n_v vs 0) 17 = w_fi w2 (n_v vs 0) 17 := by show v_iv (w_fd _ _ _) = v_iv (w_fd _ _ _); rw [s2.2, if_neg (fun e => absurd e.2 (by decide))]
  have fe_2_5_2 : w_fi w1 (n_v vs 2) 5 = w_fi w2 (n_v vs 2) 5 := by show v_iv (w_fd _ _ _) = v_iv (w_fd _ _ _); rw [s2.2, if_neg (fun e => absurd e.2 (by decide))]
  have fe_2_6_2 : w_fi w1 (n_v vs 2) 6 = w_fi w2 (n_v vs 2) 6 := by show v_iv (w_fd _ _ _) = v_iv (w_fd _ _ _); rw [s2.2, if_neg (fun e => absurd e.2 (by decide))]
  have hE_0_2_1 : ∀ j : Int, w_ei ws (w_ar ws (n_v vs 0) 2) j = w_ei w1 (w_ar ws (n_v vs 0) 2) j := fun j => s1.1 _ _
  have hE_0_2_2 : ∀ j : Int, w_ei w1 (w_ar ws (n_v vs 0) 2) j = w_ei w2 (w_ar ws (n_v vs 0) 2) j := fun j => s2.1 _ _
  have hE_2_7_1 : ∀ j : Int, w_ei ws (w_ar ws (n_v vs 2) 7) j = w_ei w1 (w_ar ws (n_v vs 2) 7) j := fun j => s1.1 _ _
  have hE_2_7_2 : ∀ j : Int, w_ei w1 (w_ar ws (n_v vs 2) 7) j = w_ei w2 (w_ar ws (n_v vs 2) 7) j := fun j => s2.1 _ _
  have hE_2_8_1 : ∀ j : Int, w_ei ws (w_ar ws (n_v vs 2) 8) j = w_ei w1 (w_ar ws (n_v vs 2) 8) j := fun j => s1.1 _ _
  have hE_2_8_2 : ∀ j : Int, w_ei w1 (w_ar ws (n_v vs 2) 8) j = w_ei w2 (w_ar ws (n_v vs 2) 8) j := fun j => s2.1 _ _
  have hE_2_9_1 : ∀ j : Int, w_ei ws (w_ar ws (n_v vs 2) 9) j = w_ei w1 (w_ar ws (n_v vs 2) 9) j := fun j => s1.1 _ _
  have hE_2_9_2 : ∀ j : Int, w_ei w1 (w_ar ws (n_v vs 2) 9) j = w_ei w2 (w_ar ws (n_v vs 2) 9) j := fun j => s2.1 _ _
  have kz_0_5 := fdq_283 hD hth r0
  have kz_0_6 := fdq_53 hD hth r0
  have kz_0_7 := fdq_49 hD hth r0
  have kz_0_16 := fdq_284 hD hth r0
  have kz_0_17 := fdq_285 hD hth r0
  have kz_2_5 := fdq_85 hD hth r2
  have kz_2_6 := fdq_62 hD hth r2
  have nf0 : fc_1 PRD (20, [3, 10, 38], [60, 4, 0, 611, 16, 17, 6, 1005]) ws (vs) := by
    refine ⟨nf_in hl rfl, sgq_1342 ?_⟩
    · show PKI (w_fi ws (n_v vs 3) 16) (w_fi ws (n_v vs 3) 17) (w_fi ws (n_v vs 3) 6) (w_fi ws (n_v vs 10) 5) (v_iv (n_v vs 38))
      simp only [q10, q3]
      exact vc_Em_pickPiece_at_gp_5_0 (v_iv (n_v vs 1)) (v_iv (n_v vs 7)) (v_iv (n_v vs 11)) (v_iv (n_v vs 13)) (v_iv (n_v vs 16)) (v_iv (n_v vs 18)) (v_iv (n_v vs 19)) (v_iv (n_v vs 20)) (v_iv (n_v vs 22)) (v_iv (n_v vs 23)) (v_iv (n_v vs 24)) (v_iv (n_v vs 25)) (v_iv (n_v vs 26)) (v_iv (n_v vs 27)) (v_iv (n_v vs 28)) (v_iv (n_v vs 31)) (v_iv (n_v vs 32)) (v_iv (n_v vs 33)) (v_iv (n_v vs 34)) (v_iv (n_v vs 35)) (v_iv (n_v vs 36)) (v_iv (n_v vs 38)) (v_iv (n_v vs 39)) (w_ei ws (w_ar ws (n_v vs 2) 9)) (w_ei ws (w_ar ws (n_v vs 0) 2)) (w_ei ws (w_ar ws (n_v vs 2) 7)) (w_ei ws (w_ar ws (n_v vs 2) 8)) (w_fi ws (n_v vs 0) 5) (w_fi ws (n_v vs 2) 5) (w_fi ws (n_v vs 2) 6) (w_fi ws (n_v vs 0) 6) (w_fi ws (n_v vs 0) 7) (w_ei w1 (w_ar ws (n_v vs 2) 9)) (w_ei w1 (w_ar ws (n_v vs 0) 2)) (w_ei w1 (w_ar ws (n_v vs 2) 7)) (w_ei w1 (w_ar ws (n_v vs 2) 8)) (w_fi w1 (n_v vs 0) 5) (w_fi w1 (n_v vs 2) 5) (w_fi w1 (n_v vs 2) 6) (w_fi w1 (n_v vs 0) 6) (w_fi w1 (n_v vs 0) 7) (w_ei w2 (w_ar ws (n_v vs 2) 9)) (w_fi w2 (n_v vs 0) 6) (w_fi w2 (n_v vs 0) 5) (w_fi w2 (n_v vs 2) 5) (w_ei w2 (w_ar ws (n_v vs 2) 8)) (w_ei w2 (w_ar ws (n_v vs 2) 7)) (w_ei w2 (w_ar ws (n_v vs 0) 2)) (w_fi w2 (n_v vs 2) 6) (w_fi w2 (n_v vs 0) 17) (w_fi w2 (n_v vs 0) 7) (w_fi ws (n_v vs 0) 16) (w_fi w1 (n_v vs 0) 16) (w_fi ws (n_v vs 0) 17) (w_fi w1 (n_v vs 0) 17) k1 k7 k11 k13 k16 k18 k19 k20 k22 k23 k24 k25 k26 k27 k28 k31 k32 k33 k34 k35 k36 k38 k39 d0 d1 d4 f20 f23 f24 f25 g26 g27 g28 f32 f33 f35 f36 h37 f39 h40 f42 h43 g46 f48 f49 f50 f51 fe_0_5_1 fe_0_6_1 fe_0_7_1 fe_0_16_1 fe_0_17_1 fe_2_5_1 fe_2_6_1 fe_0_5_2 fe_0_6_2 fe_0_7_2 fe_0_16_2 fe_0_17_2 fe_2_5_2 fe_2_6_2 hE_0_2_1 hE_0_2_2 hE_2_7_1 hE_2_7_2 hE_2_8_1 hE_2_8_2 hE_2_9_1 hE_2_9_2 kz_0_5 kz_0_6 kz_0_7 kz_0_16 kz_0_17 kz_2_5 kz_2_6
  refine ⟨(fun _ h => (by cases h)), [], trivial, ?_, (fun _ h => (by cases h))⟩
  rw [List.append_nil]
  exact List.forall_mem_cons.mpr ⟨⟨show (20 : Nat) < 100 from by decide, nf0⟩, (fun _ h => (by cases h))⟩
set_option maxHeartbeats 4000000 in
theorem vc_Em_pickPiece_at_gp_6_0 (x39 : Int) (drawnNodes_0 : Int) (nodes_0o2 : Int) (pieceNodes_0 : Int) (pieceEnds_0 : Int) (k39 : 0 ≤ x39 ∧ x39 ≤ 0) (kz_0_6 : 0 ≤ drawnNodes_0 ∧ drawnNodes_0 ≤ 33554431) (kz_0_16 : 0 ≤ pieceNodes_0 ∧ pieceNodes_0 ≤ 33554431) (kz_0_17 : 0 ≤ pieceEnds_0 ∧ pieceEnds_0 ≤ 33554431) (kz_2_5 : 0 ≤ nodes_0o2 ∧ nodes_0o2 ≤ 25) : PKA (pieceNodes_0) (pieceEnds_0) (drawnNodes_0) (nodes_0o2) (x39) := by
  first
    | exact Or.inl (by omega)
    | (rcases (‹PKI _ _ _ _ _›) with q | ⟨_, q⟩
       · omega
       · exact Or.inr q)
set_option maxHeartbeats 4000000 in
theorem vc_Em_pickPiece_at_gp_6_1 (x39 : Int) (cycles_0 : Int) (pieceCycle_0 : Int) (k39 : 0 ≤ x39 ∧ x39 ≤ 0) (kz_0_7 : 0 ≤ cycles_0 ∧ cycles_0 ≤ 50) (kz_0_18 : 0 ≤ pieceCycle_0 ∧ pieceCycle_0 ≤ 49) : (x39 = 0) ∨ ((pieceCycle_0 + 1) ≤ cycles_0) := by
  first
    | omega
  
def o_Em_pickPiece_at_gp_6 : or_T := (184, 40, [(0, (2, 0, 0, [1])), (2, (2, 0, 0, [149])), (39, (0, 0, 0, []))], [], [], [], [(20, [0, 2, 39], [60, 4, 0, 612, 16, 17, 6, 1005]), (20, [39, 0], [50, 2, 0, 1018, 1007, 3, 6, 1, 2, 1, 0, 0, 0, 0, 7, 4, 3, 2, 1, 18, 0, 1, 2, 1, 7])], [], [])
theorem oo_Em_pickPiece_at_gp_6 {kA : Nat → ClassId} : or_ok PRD kA GG o_Em_pickPiece_at_gp_6 := by
  refine or_mk fun A ta ws vs hD hth hl => ?_
  intro t0 r0 t2 r2 t39 k39
  have kz_0_6 := fdq_53 hD hth r0
  have kz_0_7 := fdq_49 hD hth r0
  have kz_0_16 := fdq_284 hD hth r0
  have kz_0_17 := fdq_285 hD hth r0
  have kz_0_18 := fdq_286 hD hth r0
  have kz_2_5 := fdq_85 hD hth r2
  have nf0 : fc_1 PRD (20, [0, 2, 39], [60, 4, 0, 612, 16, 17, 6, 1005]) ws (vs) := ⟨nf_in hl rfl, sgq_1343 (vc_Em_pickPiece_at_gp_6_0 (v_iv (n_v vs 39)) (w_fi ws (n_v vs 0) 6) (w_fi ws (n_v vs 2) 5) (w_fi ws (n_v vs 0) 16) (w_fi ws (n_v vs 0) 17) k39 kz_0_6 kz_0_16 kz_0_17 kz_2_5)⟩
  have nf1 : fc_1 PRD (20, [39, 0], [50, 2, 0, 1018, 1007, 3, 6, 1, 2, 1, 0, 0, 0, 0, 7, 4, 3, 2, 1, 18, 0, 1, 2, 1, 7]) ws (vs) := ⟨nf_in hl rfl, sgq_1344 (vc_Em_pickPiece_at_gp_6_1 (v_iv (n_v vs 39)) (w_fi ws (n_v vs 0) 7) (w_fi ws (n_v vs 0) 18) k39 kz_0_7 kz_0_18)⟩
  refine ⟨(fun _ h => (by cases h)), [], trivial, ?_, (fun _ h => (by cases h))⟩
  rw [List.append_nil]
  exact List.forall_mem_cons.mpr ⟨⟨show (20 : Nat) < 100 from by decide, nf0⟩, List.forall_mem_cons.mpr ⟨⟨show (20 : Nat) < 100 from by decide, nf1⟩, (fun _ h => (by cases h))⟩⟩
def n_Em_pickPiece_at_gp_an : List an_T := [(8, [(0, (2, 0, 0, [1])), (1, (0, 0, 71, [])), (2, (0, (Int.negSucc 2147483647), 1000000, [])), (3, (0, 0, 33554431, [])), (4, (0, 0, 72, []))], [], (0, 0), [(0, 0, 99992), (1, 7, 72), (0, 0, 100000)], [(1, 4, (Int.negSucc 999999999999), 0), (4, 1, (Int.negSucc 999999999999), 0), (6, 7, (Int.negSucc 999999999999), 33554430)], [((0, 16), (0, 0, 33554431, [])), ((0, 17), (0, 0, 33554431, [])), ((0, 0), (2, 0, 0, [149]))], [(2, 0, 0, [1]), (0, 0, 71, []), (2, 0, 0, [149])], 0, [], [(20, [3, 10, 5], [60, 4, 0, 611, 16, 17, 6, 1005]), (24, [2, 10], []), (20, [3, 10, 4], [60, 3, 3, 600, 5, 1005, 1006, 2, 1007, 1008]), (20, [10], [60, 2, 3, 595, 5, 6, 7, 8, 9]), (20, [3, 10], [60, 1, 3, 599, 1006, 2, 1007, 1008]), (20, [3], [60, 2, 0, 602, 6, 5]), (20, [3], [50, 1, 0, 7, 0, 2, 0, 1, 2, 0, 7]), (24, [0, 3], []), (24, [1, 4], [])])]
def t_Em_pickPiece_at_gp_ct : ct_L := [(1, 188, e_Em_countFits), (1, 191, e_Em_firstFit), (360, 180, e_Fa_spread_at_Npnear), (468, 184, e_Fa_nearOf_at_Npnear)]
set_option maxRecDepth 100000 in
theorem c_Em_pickPiece_at_gp {l : Launch} {D : va_G} {kA : Nat → ClassId} (h_Em_countFits : ct_ok PRD l D kA GG y_Em_countFits z_Em_countFits e_Em_countFits) (h_Em_firstFit : ct_ok PRD l D kA GG y_Em_firstFit z_Em_firstFit e_Em_firstFit) (h_Fa_nearOf_at_Npnear : ct_ok PRD l D kA GG y_Fa_nearOf_at_Npnear z_Fa_nearOf_at_Npnear e_Fa_nearOf_at_Npnear) (h_Fa_spread_at_Npnear : ct_ok PRD l D kA GG y_Fa_spread_at_Npnear z_Fa_spread_at_Npnear e_Fa_spread_at_Npnear) : ct_ok PRD l D kA GG y_Em_pickPiece_at_gp z_Em_pickPiece_at_gp e_Em_pickPiece_at_gp := chk_all_ok (FT := [(9, 1, 0), (21, 1, 2), (25, 1, 3), (32, 1, 5), (36, 1, 6), (69, 1, 17), (85, 5, 5), (114, 5, 9), (133, 5, 6), (134, 5, 7), (135, 5, 8)]) (PT := [(66, 1, 16, .int), (69, 1, 17, .int), (72, 1, 18, .int)]) (CT := t_Em_pickPiece_at_gp_ct) (KT := [(0, 179, .int (1000000), (0, 1000000, 1000000, []))]) (NT := []) (AN := n_Em_pickPiece_at_gp_an) (OT := [o_Em_pickPiece_at_gp_0, o_Em_pickPiece_at_gp_1, o_Em_pickPiece_at_gp_2, o_Em_pickPiece_at_gp_3, o_Em_pickPiece_at_gp_4, o_Em_pickPiece_at_gp_5, o_Em_pickPiece_at_gp_6]) 3 628 (List.forall_mem_cons.mpr ⟨oo_Em_pickPiece_at_gp_0, List.forall_mem_cons.mpr ⟨oo_Em_pickPiece_at_gp_1, List.forall_mem_cons.mpr ⟨oo_Em_pickPiece_at_gp_2, List.forall_mem_cons.mpr ⟨oo_Em_pickPiece_at_gp_3, List.forall_mem_cons.mpr ⟨oo_Em_pickPiece_at_gp_4, List.forall_mem_cons.mpr ⟨oo_Em_pickPiece_at_gp_5, List.forall_mem_cons.mpr ⟨oo_Em_pickPiece_at_gp_6, List.forall_mem_nil _⟩⟩⟩⟩⟩⟩⟩) (by decide +kernel) ⟨List.forall_mem_cons.mpr ⟨gf_Em_9, List.forall_mem_cons.mpr ⟨gf_Em_21, List.forall_mem_cons.mpr ⟨gf_Em_25, List.forall_mem_cons.mpr ⟨gf_Em_32, List.forall_mem_cons.mpr ⟨gf_Em_36, List.forall_mem_cons.mpr ⟨gf_Em_69, List.forall_mem_cons.mpr ⟨gf_Em_85, List.forall_mem_cons.mpr ⟨gf_Em_114, List.forall_mem_cons.mpr ⟨gf_Em_133, List.forall_mem_cons.mpr ⟨gf_Em_134, List.forall_mem_cons.mpr ⟨gf_Em_135, List.forall_mem_nil _⟩⟩⟩⟩⟩⟩⟩⟩⟩⟩⟩, List.forall_mem_cons.mpr ⟨pf_Em_66, List.forall_mem_cons.mpr ⟨pf_Em_69, List.forall_mem_cons.mpr ⟨pf_Em_72, List.forall_mem_nil _⟩⟩⟩, List.forall_mem_cons.mpr ⟨cl_virtual (y := y_Em_countFits) (ci := 1) rfl rfl ⟨_, _, rfl⟩ (by decide +kernel) h_Em_countFits wm_1100 wm_5 wm_1097 wm_1099 wv_3_11 ⟨by decide, by decide, by decide +kernel⟩ (by decide), List.forall_mem_cons.mpr ⟨cl_virtual (y := y_Em_firstFit) (ci := 1) rfl rfl ⟨_, _, rfl⟩ (by decide +kernel) h_Em_firstFit wm_1104 wm_5 wm_1101 wm_1103 wv_3_12 ⟨by decide, by decide, by decide +kernel⟩ (by decide), List.forall_mem_cons.mpr ⟨cl_static (y := y_Fa_spread_at_Npnear) h_Fa_spread_at_Npnear wm_821 wm_7 wm_1095 wm_820 ⟨by decide, by decide, by decide +kernel⟩ (by decide), List.forall_mem_cons.mpr ⟨cl_static (y := y_Fa_nearOf_at_Npnear) h_Fa_nearOf_at_Npnear wm_824 wm_7 wm_1096 wm_823 ⟨by decide, by decide, by decide +kernel⟩ (by decide), List.forall_mem_nil _⟩⟩⟩⟩, List.forall_mem_cons.mpr ⟨kx_Em_0_179, List.forall_mem_nil _⟩, List.forall_mem_nil _, GG_pl⟩ (by decide +kernel)

set_option maxHeartbeats 4000000 in
theorem vc_Fa_orderSmall_0_0 (x2 : Int) (x6 : Int) (x7 : Int) (x8 : Int) (member_0 : Int → Int) (rank_0 : Int → Int) (loop_0 : Int → Int) (member_1 : Int → Int) (rank_1 : Int → Int) (loop_1 : Int → Int) (least_0 : Int → Int) (least_1 : Int → Int) (tail_0o1 : Int → Int) (tail_1o1 : Int → Int) (weight_0o1 : Int → Int) (weight_1o1 : Int → Int) (link_0o1 : Int → Int) (link_1o1 : Int → Int) (k2 : 2 ≤ x2 ∧ x2 ≤ 7) (k6 : 0 ≤ x6 ∧ x6 ≤ 0) (k7 : 0 ≤ x7 ∧ x7 ≤ 0) (k8 : 1 ≤ x8 ∧ x8 ≤ 1) (hE_0_11_1 : ∀ j : Int, loop_0 j = loop_1 j) (hE_0_12_1 : ∀ j : Int, rank_0 j = rank_1 j) (hE_0_13_1 : ∀ j : Int, member_0 j = member_1 j) (hK_0_13 : ∀ j : Int, 0 ≤ j → j < 24 → 0 ≤ member_0 j ∧ member_0 j ≤ 23) (hE_0_14_1 : ∀ j : Int, 0 ≤ j → (j = x6 → least_0 j = x7) ∧ (j ≠ x6 → least_0 j = least_1 j)) (hE_1_7_1 : ∀ j : Int, tail_0o1 j = tail_1o1 j) (hE_1_9_1 : ∀ j : Int, weight_0o1 j = weight_1o1 j) (hK_1_9 : ∀ j : Int, 0 ≤ j → j < 48 → 0 ≤ weight_0o1 j ∧ weight_0o1 j ≤ 9) (hE_1_15_1 : ∀ j : Int, link_0o1 j = link_1o1 j) (hK_1_15 : ∀ j : Int, 0 ≤ j → j < 576 → (-1) ≤ link_0o1 j ∧ link_0o1 j ≤ 47) : LSO (least_0) (member_0) (tail_0o1) (weight_0o1) (link_0o1) (x8) (x2) := by
  have e_hE_0_11_1 := funext hE_0_11_1; subst e_hE_0_11_1
  have e_hE_0_12_1 := funext hE_0_12_1; subst e_hE_0_12_1
  have e_hE_0_13_1 := funext hE_0_13_1; subst e_hE_0_13_1
  have e_hE_1_7_1 := funext hE_1_7_1; subst e_hE_1_7_1
  have e_hE_1_9_1 := funext hE_1_9_1; subst e_hE_1_9_1
  have e_hE_1_15_1 := funext hE_1_15_1; subst e_hE_1_15_1
  first
    | exact lso_start ⟨by assumption, by assumption, by omega, by omega, fun j a b => by have q := hK_0_13 j a (by omega); omega⟩ hE_0_14_1 (by omega) (by omega) (by omega)
set_option maxHeartbeats 4000000 in
theorem vc_Fa_orderSmall_0_1 (x8 : Int) (member_0 : Int → Int) (rank_0 : Int → Int) (loop_0 : Int → Int) (member_1 : Int → Int) (rank_1 : Int → Int) (loop_1 : Int → Int) (tail_0o1 : Int → Int) (tail_1o1 : Int → Int) (weight_0o1 : Int → Int) (weight_1o1 : Int → Int) (link_0o1 : Int → Int) (link_1o1 : Int → Int) (k8 : 1 ≤ x8 ∧ x8 ≤ 1) (hE_0_11_1 : ∀ j : Int, loop_0 j = loop_1 j) (hE_0_12_1 : ∀ j : Int, rank_0 j = rank_1 j) (hE_0_13_1 : ∀ j : Int, member_0 j = member_1 j) (hE_1_7_1 : ∀ j : Int, tail_0o1 j = tail_1o1 j) (hE_1_9_1 : ∀ j : Int, weight_0o1 j = weight_1o1 j) (hE_1_15_1 : ∀ j : Int, link_0o1 j = link_1o1 j) : 1 ≤ x8 := by
  have e_hE_0_11_1 := funext hE_0_11_1; subst e_hE_0_11_1
  have e_hE_0_12_1 := funext hE_0_12_1; subst e_hE_0_12_1
  have e_hE_0_13_1 := funext hE_0_13_1; subst e_hE_0_13_1
  have e_hE_1_7_1 := funext hE_1_7_1; subst e_hE_1_7_1
  have e_hE_1_9_1 := funext hE_1_9_1; subst e_hE_1_9_1
  have e_hE_1_15_1 := funext hE_1_15_1; subst e_hE_1_15_1
  first
    | omega
  
def o_Fa_orderSmall_0 : or_T := (9, 9, [(0, (2, 0, 0, [2])), (1, (2, 0, 0, [3])), (2, (0, 2, 7, [])), (5, (2, 0, 0, [47])), (6, (0, 0, 0, [])), (7, (0, 0, 0, [])), (8, (0, 1, 1, []))], [(9, [5, 0], [14]), (100, [5, 6, 7], [])], [], [], [(20, [0, 1, 8, 2], [60, 0, 5, 712, 14, 13, 1007, 1009, 1015]), (20, [8], [50, 0, 0, 0, 2, 0, 1, 1, 0]), (24, [0, 0], []), (24, [1, 1], []), (24, [2, 2], [])], [], [])
theorem oo_Fa_orderSmall_0 {kA : Nat → ClassId} : or_ok PRD kA GG o_Fa_orderSmall_0 := by
  refine or_mk fun A ta ws vs hD hth hl => ?_
  intro t0 r0 t1 r1 t2 k2 t5 r5 t6 k6 t7 k7 t8 k8 f0 ta1 w1 le1 s1
  replace f0 := shm_115 f0
  have s1 : (∀ b j, w_el ws b j = if b = v_ad (n_v vs 5) ∧ j = (v_iv (n_v vs 6)).toNat then v_iv (n_v vs 7) else w_el w1 b j) ∧ ∀ b k, w_fd ws b k = w_fd w1 b k := s1.2
  have cr_0_11 := fdq_63 hD hth r0
  have cr_0_12 := fdq_287 hD hth r0
  have cr_0_13 := fdq_64 hD hth r0
  have cr_1_7 := fdq_46 hD hth r1
  have cr_1_9 := fdq_112 hD hth r1
  have cr_1_15 := fdq_66 hD hth r1
  have ad_5 : v_ad (n_v vs 5) = w_ar ws (n_v vs 0) 14 := congrArg v_ad f0
  have hE_0_11_1 : ∀ j : Int, w_ei ws (w_ar ws (n_v vs 0) 11) j = w_ei w1 (w_ar ws (n_v vs 0) 11) j := el_kp s1.1 r5 cr_0_11 (by decide)
  have hE_0_12_1 : ∀ j : Int, w_ei ws (w_ar ws (n_v vs 0) 12) j = w_ei w1 (w_ar ws (n_v vs 0) 12) j := el_kp s1.1 r5 cr_0_12 (by decide)
  have hE_0_13_1 : ∀ j : Int, w_ei ws (w_ar ws (n_v vs 0) 13) j = w_ei w1 (w_ar ws (n_v vs 0) 13) j := el_kp s1.1 r5 cr_0_13 (by decide)
  have hK_0_13 := elq_24 hD hth cr_0_13
  have hE_0_14_1 : ∀ j : Int, 0 ≤ j → (j = v_iv (n_v vs 6) → w_ei ws (w_ar ws (n_v vs 0) 14) j = v_iv (n_v vs 7)) ∧ (j ≠ v_iv (n_v vs 6) → w_ei ws (w_ar ws (n_v vs 0) 14) j = w_ei w1 (w_ar ws (n_v vs 0) 14) j) := fun j hj => ⟨fun h => by unfold w_ei; rw [s1.1, if_pos ⟨ad_5.symm, by rw [h]⟩], fun h => by unfold w_ei; rw [s1.1, if_neg (fun e => h (by have := e.2; omega))]⟩
  have hE_1_7_1 : ∀ j : Int, w_ei ws (w_ar ws (n_v vs 1) 7) j = w_ei w1 (w_ar ws (n_v vs 1) 7) j := el_kp s1.1 r5 cr_1_7 (by decide)
  have hE_1_9_1 : ∀ j : Int, w_ei ws (w_ar ws (n_v vs 1) 9) j = w_ei w1 (w_ar ws (n_v vs 1) 9) j := el_kp s1.1 r5 cr_1_9 (by decide)
  have hK_1_9 := elq_57 hD hth cr_1_9
  have hE_1_15_1 : ∀ j : Int, w_ei ws (w_ar ws (n_v vs 1) 15) j = w_ei w1 (w_ar ws (n_v vs 1) 15) j := el_kp s1.1 r5 cr_1_15 (by decide)
  have hK_1_15 := elq_31 hD hth cr_1_15
  have nf0 : fc_1 PRD (20, [0, 1, 8, 2], [60, 0, 5, 712, 14, 13, 1007, 1009, 1015]) ws (vs) := ⟨nf_in hl rfl, sgq_1348 (vc_Fa_orderSmall_0_0 (v_iv (n_v vs 2)) (v_iv (n_v vs 6)) (v_iv (n_v vs 7)) (v_iv (n_v vs 8)) (w_ei ws (w_ar ws (n_v vs 0) 13)) (w_ei ws (w_ar ws (n_v vs 0) 12)) (w_ei ws (w_ar ws (n_v vs 0) 11)) (w_ei w1 (w_ar ws (n_v vs 0) 13)) (w_ei w1 (w_ar ws (n_v vs 0) 12)) (w_ei w1 (w_ar ws (n_v vs 0) 11)) (w_ei ws (w_ar ws (n_v vs 0) 14)) (w_ei w1 (w_ar ws (n_v vs 0) 14)) (w_ei ws (w_ar ws (n_v vs 1) 7)) (w_ei w1 (w_ar ws (n_v vs 1) 7)) (w_ei ws (w_ar ws (n_v vs 1) 9)) (w_ei w1 (w_ar ws (n_v vs 1) 9)) (w_ei ws (w_ar ws (n_v vs 1) 15)) (w_ei w1 (w_ar ws (n_v vs 1) 15)) k2 k6 k7 k8 hE_0_11_1 hE_0_12_1 hE_0_13_1 hK_0_13 hE_0_14_1 hE_1_7_1 hE_1_9_1 hK_1_9 hE_1_15_1 hK_1_15)⟩
  have nf1 : fc_1 PRD (20, [8], [50, 0, 0, 0, 2, 0, 1, 1, 0]) ws (vs) := ⟨nf_in hl rfl, sgq_710 (vc_Fa_orderSmall_0_1 (v_iv (n_v vs 8)) (w_ei ws (w_ar ws (n_v vs 0) 13)) (w_ei ws (w_ar ws (n_v vs 0) 12)) (w_ei ws (w_ar ws (n_v vs 0) 11)) (w_ei w1 (w_ar ws (n_v vs 0) 13)) (w_ei w1 (w_ar ws (n_v vs 0) 12)) (w_ei w1 (w_ar ws (n_v vs 0) 11)) (w_ei ws (w_ar ws (n_v vs 1) 7)) (w_ei w1 (w_ar ws (n_v vs 1) 7)) (w_ei ws (w_ar ws (n_v vs 1) 9)) (w_ei w1 (w_ar ws (n_v vs 1) 9)) (w_ei ws (w_ar ws (n_v vs 1) 15)) (w_ei w1 (w_ar ws (n_v vs 1) 15)) k8 hE_0_11_1 hE_0_12_1 hE_0_13_1 hE_1_7_1 hE_1_9_1 hE_1_15_1)⟩
  have nf2 : fc_1 PRD (24, [0, 0], []) ws (vs) := by
    refine ⟨nf_in hl rfl, sgq_1 ?_⟩
    · show n_v vs 0 = n_v vs 0
      first | rfl | simp only [true_and]
  have nf3 : fc_1 PRD (24, [1, 1], []) ws (vs) := by
    refine ⟨nf_in hl rfl, sgq_1 ?_⟩
    · show n_v vs 1 = n_v vs 1
      first | rfl | simp only [true_and]
  have nf4 : fc_1 PRD (24, [2, 2], []) ws (vs) := by
    refine ⟨nf_in hl rfl, sgq_1 ?_⟩
    · show n_v vs 2 = n_v vs 2
      first | rfl | simp only [true_and]
  refine ⟨(fun _ h => (by cases h)), [], trivial, ?_, (fun _ h => (by cases h))⟩
  rw [List.append_nil]
  exact List.forall_mem_cons.mpr ⟨⟨show (20 : Nat) < 100 from by decide, nf0⟩, List.forall_mem_cons.mpr ⟨⟨show (20 : Nat) < 100 from by decide, nf1⟩, List.forall_mem_cons.mpr ⟨⟨show (24 : Nat) < 100 from by decide, nf2⟩, List.forall_mem_cons.mpr ⟨⟨show (24 : Nat) < 100 from by decide, nf3⟩, List.forall_mem_cons.mpr ⟨⟨show (24 : Nat) < 100 from by decide, nf4⟩, (fun _ h => (by cases h))⟩⟩⟩⟩⟩
set_option maxHeartbeats 4000000 in
theorem vc_Fa_orderSmall_1_0 (x2 : Int) (x7 : Int) (x8 : Int) (x9 : Int) (x10 : Int) (x11 : Int) (x12 : Int) (x14 : Int) (x15 : Int) (least_0 : Int → Int) (member_0 : Int → Int) (tail_0o1 : Int → Int) (weight_0o1 : Int → Int) (link_0o1 : Int → Int) (rank_0 : Int → Int) (k2 : 2 ≤ x2 ∧ x2 ≤ 7) (k7 : 2 ≤ x7 ∧ x7 ≤ 7) (k8 : 4 ≤ x8 ∧ x8 ≤ 128) (k9 : 1 ≤ x9 ∧ x9 ≤ 1) (k10 : 4 ≤ x10 ∧ x10 ≤ 128) (k11 : 1 ≤ x11 ∧ x11 ≤ 1) (k12 : 4 ≤ x12 ∧ x12 ≤ 128) (k14 : 3 ≤ x14 ∧ x14 ≤ 127) (k15 : 0 ≤ x15 ∧ x15 ≤ 0) (d0 : x12 + (-1) ≤ x14 ∧ x14 ≤ x12 + (-1)) (d2 : x7 + (-4294967296) ≤ x2 ∧ x2 ≤ x7 + 0) (d3 : x2 + (-4294967296) ≤ x7 ∧ x7 ≤ x2 + 0) (f1 : bvp (x12) = bvp (x11) <<< (x2).toNat) (f2 : x10 ≤ x8) (f3 : bvp (x10) = bvp (x9) <<< (x2).toNat) (f4 : LSO (least_0) (member_0) (tail_0o1) (weight_0o1) (link_0o1) (x8) (x2)) (f6 : MGD (member_0) (x2)) : OSL (least_0) (rank_0) (member_0) (tail_0o1) (weight_0o1) (link_0o1) (x14) (x15) (x2) := by
  first
    | exact osl_start (e := x10) (one := x9) (e2 := x12) (one2 := x11) (S := x8) ‹LSO _ _ _ _ _ _ _› ‹MGD _ _› (by omega) (by omega) (by assumption) (by omega) (by omega) (by omega) (by omega) (by assumption) (by omega) (by omega) (by omega) (by omega) (by omega)
    | exact osl_next ‹OSK _ _ _ _ _ _ _ _ _ _ _› (Or.inr (by omega)) (by omega)
    | exact osl_next ‹OSK _ _ _ _ _ _ _ _ _ _ _› (Or.inl (by omega)) (by omega)
  
set_option maxHeartbeats 4000000 in
theorem vc_Fa_orderSmall_1_1 (x2 : Int) (x7 : Int) (x15 : Int) (k2 : 2 ≤ x2 ∧ x2 ≤ 7) (k7 : 2 ≤ x7 ∧ x7 ≤ 7) (k15 : 0 ≤ x15 ∧ x15 ≤ 0) (d2 : x7 + (-4294967296) ≤ x2 ∧ x2 ≤ x7 + 0) (d3 : x2 + (-4294967296) ≤ x7 ∧ x7 ≤ x2 + 0) : x15 ≤ x2 := by
  first
    | omega
  
def o_Fa_orderSmall_1 : or_T := (87, 16, [(2, (0, 2, 7, [])), (7, (0, 2, 7, [])), (8, (0, 4, 128, [])), (9, (0, 1, 1, [])), (10, (0, 4, 128, [])), (11, (0, 1, 1, [])), (12, (0, 4, 128, [])), (14, (0, 3, 127, [])), (15, (0, 0, 0, []))], [(16, [12, 11, 7], [3]), (7, [8, 10], [3]), (16, [10, 9, 7], [3]), (20, [5, 6, 8, 7], [60, 0, 5, 712, 14, 13, 1007, 1009, 1015]), (20, [5, 7], [60, 0, 1, 570, 13]), (24, [0, 5], []), (24, [1, 6], []), (24, [2, 7], [])], [], [], [(20, [5, 6, 14, 15, 7], [60, 0, 6, 714, 14, 12, 13, 1007, 1009, 1015]), (20, [15, 7], [50, 0, 0, 0, 2, 1, 0, 1, 1])], [], [(14, 12, -1, -1), (2, 7, -4294967296, 0), (7, 2, -4294967296, 0)])
theorem oo_Fa_orderSmall_1 {kA : Nat → ClassId} : or_ok PRD kA GG o_Fa_orderSmall_1 := by
  refine or_mk fun A ta ws vs hD hth hl => ?_
  intro t2 k2 t7 k7 t8 k8 t9 k9 t10 k10 t11 k11 t12 k12 t14 k14 t15 k15 d0 d2 d3 f1 f2 f3 f4 f6 f9 f10 f11
  replace f1 := shm_349 f1
  replace f2 := shm_2 f2
  replace f3 := shm_349 f3
  replace f4 := shm_1348 f4
  replace f6 := shm_1345 f6
  replace f9 := shm_5 f9
  replace f10 := shm_5 f10
  replace f11 := shm_5 f11
  have q5 : n_v vs 5 = n_v vs 0 := f9.symm
  have q6 : n_v vs 6 = n_v vs 1 := f10.symm
  have q7 : n_v vs 7 = n_v vs 2 := f11.symm
  simp only [q7, q5, q6] at f1 f3 f4 f6
  have nf0 : fc_1 PRD (20, [5, 6, 14, 15, 7], [60, 0, 6, 714, 14, 12, 13, 1007, 1009, 1015]) ws (vs) := by
    refine ⟨nf_in hl rfl, sgq_1349 ?_⟩
    · show OSL (w_ei ws (w_ar ws (n_v vs 5) 14)) (w_ei ws (w_ar ws (n_v vs 5) 12)) (w_ei ws (w_ar ws (n_v vs 5) 13)) (w_ei ws (w_ar ws (n_v vs 6) 7)) (w_ei ws (w_ar ws (n_v vs 6) 9)) (w_ei ws (w_ar ws (n_v vs 6) 15)) (v_iv (n_v vs 14)) (v_iv (n_v vs 15)) (v_iv (n_v vs 7))
      simp only [q5, q6, q7]
      exact vc_Fa_orderSmall_1_0 (v_iv (n_v vs 2)) (v_iv (n_v vs 7)) (v_iv (n_v vs 8)) (v_iv (n_v vs 9)) (v_iv (n_v vs 10)) (v_iv (n_v vs 11)) (v_iv (n_v vs 12)) (v_iv (n_v vs 14)) (v_iv (n_v vs 15)) (w_ei ws (w_ar ws (n_v vs 0) 14)) (w_ei ws (w_ar ws (n_v vs 0) 13)) (w_ei ws (w_ar ws (n_v vs 1) 7)) (w_ei ws (w_ar ws (n_v vs 1) 9)) (w_ei ws (w_ar ws (n_v vs 1) 15)) (w_ei ws (w_ar ws (n_v vs 0) 12)) k2 k7 k8 k9 k10 k11 k12 k14 k15 d0 d2 d3 f1 f2 f3 f4 f6
  have nf1 : fc_1 PRD (20, [15, 7], [50, 0, 0, 0, 2, 1, 0, 1, 1]) ws (vs) := by
    refine ⟨nf_in hl rfl, sgq_360 ?_⟩
    · show v_iv (n_v vs 15) ≤ v_iv (n_v vs 7)
      rw [q7]
      exact vc_Fa_orderSmall_1_1 (v_iv (n_v vs 2)) (v_iv (n_v vs 7)) (v_iv (n_v vs 15)) k2 k7 k15 d2 d3
  refine ⟨(fun _ h => (by cases h)), [], trivial, ?_, (fun _ h => (by cases h))⟩
  rw [List.append_nil]
  exact List.forall_mem_cons.mpr ⟨⟨show (20 : Nat) < 100 from by decide, nf0⟩, List.forall_mem_cons.mpr ⟨⟨show (20 : Nat) < 100 from by decide, nf1⟩, (fun _ h => (by cases h))⟩⟩
set_option maxHeartbeats 4000000 in
theorem vc_Fa_orderSmall_2_0 (x2 : Int) (x7 : Int) (x8 : Int) (x9 : Int) (x10 : Int) (x12 : Int) (x13 : Int) (member_0 : Int → Int) (rank_0 : Int → Int) (loop_0 : Int → Int) (least_1 : Int → Int) (member_1 : Int → Int) (tail_1o1 : Int → Int) (weight_1o1 : Int → Int) (link_1o1 : Int → Int) (rank_1 : Int → Int) (loop_1 : Int → Int) (least_0 : Int → Int) (tail_0o1 : Int → Int) (weight_0o1 : Int → Int) (link_0o1 : Int → Int) (k2 : 2 ≤ x2 ∧ x2 ≤ 7) (k7 : 2 ≤ x7 ∧ x7 ≤ 7) (k8 : 1 ≤ x8 ∧ x8 ≤ 127) (k9 : 1 ≤ x9 ∧ x9 ≤ 1) (k10 : 4 ≤ x10 ∧ x10 ≤ 128) (k12 : 1000000 ≤ x12 ∧ x12 ≤ 1000000) (k13 : 0 ≤ x13 ∧ x13 ≤ 0) (d1 : x7 + (-4294967296) ≤ x2 ∧ x2 ≤ x7 + 0) (d2 : x2 + (-4294967296) ≤ x7 ∧ x7 ≤ x2 + 0) (f9 : x8 < x10) (f10 : bvp (x10) = bvp (x9) <<< (x2).toNat) (f11 : LSO (least_1) (member_1) (tail_1o1) (weight_1o1) (link_1o1) (x8) (x2)) (f12 : 1 ≤ x8) (hE_0_11_1 : ∀ j : Int, loop_0 j = loop_1 j) (hE_0_12_1 : ∀ j : Int, rank_0 j = rank_1 j) (hE_0_13_1 : ∀ j : Int, member_0 j = member_1 j) (hE_0_14_1 : ∀ j : Int, 0 ≤ j → (j = x8 → least_0 j = x12) ∧ (j ≠ x8 → least_0 j = least_1 j)) (hE_1_7_1 : ∀ j : Int, tail_0o1 j = tail_1o1 j) (hE_1_9_1 : ∀ j : Int, weight_0o1 j = weight_1o1 j) (hE_1_15_1 : ∀ j : Int, link_0o1 j = link_1o1 j) : LSJ (least_0) (member_0) (tail_0o1) (weight_0o1) (link_0o1) (x8) (x2) (x13) := by
  have e_hE_0_11_1 := funext hE_0_11_1; subst e_hE_0_11_1
  have e_hE_0_12_1 := funext hE_0_12_1; subst e_hE_0_12_1
  have e_hE_0_13_1 := funext hE_0_13_1; subst e_hE_0_13_1
  have e_hE_1_7_1 := funext hE_1_7_1; subst e_hE_1_7_1
  have e_hE_1_9_1 := funext hE_1_9_1; subst e_hE_1_9_1
  have e_hE_1_15_1 := funext hE_1_15_1; subst e_hE_1_15_1
  first
    | exact lsj_start (e := x10) ‹LSO _ _ _ _ _ _ _› (by omega) (by omega) (shl_pow1 (one := x9) (by assumption) (by omega) (by omega) (by omega) (by omega) (by omega)) hE_0_14_1 rfl (by omega) (by omega)
set_option maxHeartbeats 4000000 in
theorem vc_Fa_orderSmall_2_1 (x2 : Int) (x7 : Int) (x13 : Int) (member_0 : Int → Int) (rank_0 : Int → Int) (loop_0 : Int → Int) (member_1 : Int → Int) (tail_1o1 : Int → Int) (weight_1o1 : Int → Int) (link_1o1 : Int → Int) (rank_1 : Int → Int) (loop_1 : Int → Int) (tail_0o1 : Int → Int) (weight_0o1 : Int → Int) (link_0o1 : Int → Int) (k2 : 2 ≤ x2 ∧ x2 ≤ 7) (k7 : 2 ≤ x7 ∧ x7 ≤ 7) (k13 : 0 ≤ x13 ∧ x13 ≤ 0) (d1 : x7 + (-4294967296) ≤ x2 ∧ x2 ≤ x7 + 0) (d2 : x2 + (-4294967296) ≤ x7 ∧ x7 ≤ x2 + 0) (hE_0_11_1 : ∀ j : Int, loop_0 j = loop_1 j) (hE_0_12_1 : ∀ j : Int, rank_0 j = rank_1 j) (hE_0_13_1 : ∀ j : Int, member_0 j = member_1 j) (hE_1_7_1 : ∀ j : Int, tail_0o1 j = tail_1o1 j) (hE_1_9_1 : ∀ j : Int, weight_0o1 j = weight_1o1 j) (hE_1_15_1 : ∀ j : Int, link_0o1 j = link_1o1 j) : x13 ≤ x2 := by
  have e_hE_0_11_1 := funext hE_0_11_1; subst e_hE_0_11_1
  have e_hE_0_12_1 := funext hE_0_12_1; subst e_hE_0_12_1
  have e_hE_0_13_1 := funext hE_0_13_1; subst e_hE_0_13_1
  have e_hE_1_7_1 := funext hE_1_7_1; subst e_hE_1_7_1
  have e_hE_1_9_1 := funext hE_1_9_1; subst e_hE_1_9_1
  have e_hE_1_15_1 := funext hE_1_15_1; subst e_hE_1_15_1
  first
    | omega
  
def o_Fa_orderSmall_2 : or_T := (27, 14, [(0, (2, 0, 0, [2])), (1, (2, 0, 0, [3])), (2, (0, 2, 7, [])), (3, (0, 0, 24, [])), (4, (0, 0, 24, [])), (5, (2, 0, 0, [2])), (6, (2, 0, 0, [3])), (7, (0, 2, 7, [])), (8, (0, 1, 127, [])), (9, (0, 1, 1, [])), (10, (0, 4, 128, [])), (11, (2, 0, 0, [47])), (12, (0, 1000000, 1000000, [])), (13, (0, 0, 0, []))], [(9, [11, 5], [14]), (20, [8], [50, 0, 0, 0, 2, 0, 1, 1, 0]), (20, [5, 7], [60, 0, 1, 570, 13]), (20, [5, 3, 4, 7], [60, 0, 3, 716, 12, 11, 13]), (20, [7], [50, 0, 0, 2, 6, 0, 2, 0, 2, 1, 0, 0, 2, 1, 0, 0, 7]), (24, [0, 5], []), (24, [1, 6], []), (24, [2, 7], []), (100, [11, 8, 12], []), (7, [8, 10], [2]), (16, [10, 9, 7], [3]), (20, [5, 6, 8, 7], [60, 0, 5, 712, 14, 13, 1007, 1009, 1015]), (20, [8], [50, 0, 0, 0, 2, 0, 1, 1, 0]), (20, [5, 7], [60, 0, 1, 570, 13]), (20, [5, 3, 4, 7], [60, 0, 3, 716, 12, 11, 13]), (20, [7], [50, 0, 0, 2, 6, 0, 2, 0, 2, 1, 0, 0, 2, 1, 0, 0, 7])], [], [], [(20, [5, 6, 8, 7, 13], [60, 0, 5, 713, 14, 13, 1007, 1009, 1015]), (20, [13, 7], [50, 0, 0, 0, 2, 1, 0, 1, 1])], [], [(8, 10, -4294967296, -1), (2, 7, -4294967296, 0), (7, 2, -4294967296, 0)])
theorem oo_Fa_orderSmall_2 {kA : Nat → ClassId} : or_ok PRD kA GG o_Fa_orderSmall_2 := by
  refine or_mk fun A ta ws vs hD hth hl => ?_
  intro t0 r0 t1 r1 t2 k2 t3 k3 t4 k4 t5 r5 t6 r6 t7 k7 t8 k8 t9 k9 t10 k10 t11 r11 t12 k12 t13 k13 d0 d1 d2 f0 f1 f2 f3 f4 f5 f6 f7 ta1 w1 le1 s1 f9 f10 f11 f12 f13 f14 f15
  replace f0 := shm_115 f0
  replace f5 := shm_5 f5
  replace f6 := shm_5 f6
  replace f7 := shm_5 f7
  have s1 : (∀ b j, w_el ws b j = if b = v_ad (n_v vs 11) ∧ j = (v_iv (n_v vs 8)).toNat then v_iv (n_v vs 12) else w_el w1 b j) ∧ ∀ b k, w_fd ws b k = w_fd w1 b k := s1.2
  replace f9 := shm_6 f9
  replace f10 := shm_349 f10
  replace f11 := shm_1348 f11
  replace f12 := shm_710 f12
  have q5 : n_v vs 5 = n_v vs 0 := f5.symm
  have q6 : n_v vs 6 = n_v vs 1 := f6.symm
  have q7 : n_v vs 7 = n_v vs 2 := f7.symm
  simp only [q5, q7, q6] at f0 f10 f11
  have ar_0_11_1 : w_ar w1 (n_v vs 0) 11 = w_ar ws (n_v vs 0) 11 := congrArg v_ad (s1.2 _ _).symm
  have cr_0_11 := fdq_63 hD hth r0
  have ar_0_12_1 : w_ar w1 (n_v vs 0) 12 = w_ar ws (n_v vs 0) 12 := congrArg v_ad (s1.2 _ _).symm
  have cr_0_12 := fdq_287 hD hth r0
  have ar_0_13_1 : w_ar w1 (n_v vs 0) 13 = w_ar ws (n_v vs 0) 13 := congrArg v_ad (s1.2 _ _).symm
  have cr_0_13 := fdq_64 hD hth r0
  have ar_0_14_1 : w_ar w1 (n_v vs 0) 14 = w_ar ws (n_v vs 0) 14 := congrArg v_ad (s1.2 _ _).symm
  have ar_1_7_1 : w_ar w1 (n_v vs 1) 7 = w_ar ws (n_v vs 1) 7 := congrArg v_ad (s1.2 _ _).symm
  have cr_1_7 := fdq_46 hD hth r1
  have ar_1_9_1 : w_ar w1 (n_v vs 1) 9 = w_ar ws (n_v vs 1) 9 := congrArg v_ad (s1.2 _ _).symm
  have cr_1_9 := fdq_112 hD hth r1
  have ar_1_15_1 : w_ar w1 (n_v vs 1) 15 = w_ar ws (n_v vs 1) 15 := congrArg v_ad (s1.2 _ _).symm
  have cr_1_15 := fdq_66 hD hth r1
  have ad_11 : v_ad (n_v vs 11) = w_ar ws (n_v vs 0) 14 := congrArg v_ad f0
  simp only [ar_0_13_1, ar_0_14_1, ar_1_7_1, ar_1_9_1, ar_1_15_1, ar_0_11_1, ar_0_12_1] at f11
  have hE_0_11_1 : ∀ j : Int, w_ei ws (w_ar ws (n_v vs 0) 11) j = w_ei w1 (w_ar ws (n_v vs 0) 11) j := el_kp s1.1 r11 cr_0_11 (by decide)
  have hE_0_12_1 : ∀ j : Int, w_ei ws (w_ar ws (n_v vs 0) 12) j = w_ei w1 (w_ar ws (n_v vs 0) 12) j := el_kp s1.1 r11 cr_0_12 (by decide)
  have hE_0_13_1 : ∀ j : Int, w_ei ws (w_ar ws (n_v vs 0) 13) j = w_ei w1 (w_ar ws (n_v vs 0) 13) j := el_kp s1.1 r11 cr_0_13 (by decide)
  have hE_0_14_1 : ∀ j : Int, 0 ≤ j → (j = v_iv (n_v vs 8) → w_ei ws (w_ar ws (n_v vs 0) 14) j = v_iv (n_v vs 12)) ∧ (j ≠ v_iv (n_v vs 8) → w_ei ws (w_ar ws (n_v vs 0) 14) j = w_ei w1 (w_ar ws (n_v vs 0) 14) j) := fun j hj => ⟨fun h => by unfold w_ei; rw [s1.1, if_pos ⟨ad_11.symm, by rw [h]⟩], fun h => by unfold w_ei; rw [s1.1, if_neg (fun e => h (by have := e.2; omega))]⟩
  have hE_1_7_1 : ∀ j : Int, w_ei ws (w_ar ws (n_v vs 1) 7) j = w_ei w1 (w_ar ws (n_v vs 1) 7) j := el_kp s1.1 r11 cr_1_7 (by decide)
  have hE_1_9_1 : ∀ j : Int, w_ei ws (w_ar ws (n_v vs 1) 9) j = w_ei w1 (w_ar ws (n_v vs 1) 9) j := el_kp s1.1 r11 cr_1_9 (by decide)
  have hE_1_15_1 : ∀ j : Int, w_ei ws (w_ar ws (n_v vs 1) 15) j = w_ei w1 (w_ar ws (n_v vs 1) 15) j := el_kp s1.1 r11 cr_1_15 (by decide)
  have nf0 : fc_1 PRD (20, [5, 6, 8, 7, 13], [60, 0, 5, 713, 14, 13, 1007, 1009, 1015]) ws (vs) := by
    refine ⟨nf_in hl rfl, sgq_1350 ?_⟩
    · show LSJ (w_ei ws (w_ar ws (n_v vs 5) 14)) (w_ei ws (w_ar ws (n_v vs 5) 13)) (w_ei ws (w_ar ws (n_v vs 6) 7)) (w_ei ws (w_ar ws (n_v vs 6) 9)) (w_ei ws (w_ar ws (n_v vs 6) 15)) (v_iv (n_v vs 8)) (v_iv (n_v vs 7)) (v_iv (n_v vs 13))
      simp only [q5, q6, q7]
      exact vc_Fa_orderSmall_2_0 (v_iv (n_v vs 2)) (v_iv (n_v vs 7)) (v_iv (n_v vs 8)) (v_iv (n_v vs 9)) (v_iv (n_v vs 10)) (v_iv (n_v vs 12)) (v_iv (n_v vs 13)) (w_ei ws (w_ar ws (n_v vs 0) 13)) (w_ei ws (w_ar ws (n_v vs 0) 12)) (w_ei ws (w_ar ws (n_v vs 0) 11)) (w_ei w1 (w_ar ws (n_v vs 0) 14)) (w_ei w1 (w_ar ws (n_v vs 0) 13)) (w_ei w1 (w_ar ws (n_v vs 1) 7)) (w_ei w1 (w_ar ws (n_v vs 1) 9)) (w_ei w1 (w_ar ws (n_v vs 1) 15)) (w_ei w1 (w_ar ws (n_v vs 0) 12)) (w_ei w1 (w_ar ws (n_v vs 0) 11)) (w_ei ws (w_ar ws (n_v vs 0) 14)) (w_ei ws (w_ar ws (n_v vs 1) 7)) (w_ei ws (w_ar ws (n_v vs 1) 9)) (w_ei ws (w_ar ws (n_v vs 1) 15)) k2 k7 k8 k9 k10 k12 k13 d1 d2 f9 f10 f11 f12 hE_0_11_1 hE_0_12_1 hE_0_13_1 hE_0_14_1 hE_1_7_1 hE_1_9_1 hE_1_15_1
  have nf1 : fc_1 PRD (20, [13, 7], [50, 0, 0, 0, 2, 1, 0, 1, 1]) ws (vs) := by
    refine ⟨nf_in hl rfl, sgq_360 ?_⟩
    · show v_iv (n_v vs 13) ≤ v_iv (n_v vs 7)
      rw [q7]
      exact vc_Fa_orderSmall_2_1 (v_iv (n_v vs 2)) (v_iv (n_v vs 7)) (v_iv (n_v vs 13)) (w_ei ws (w_ar ws (n_v vs 0) 13)) (w_ei ws (w_ar ws (n_v vs 0) 12)) (w_ei ws (w_ar ws (n_v vs 0) 11)) (w_ei w1 (w_ar ws (n_v vs 0) 13)) (w_ei w1 (w_ar ws (n_v vs 1) 7)) (w_ei w1 (w_ar ws (n_v vs 1) 9)) (w_ei w1 (w_ar ws (n_v vs 1) 15)) (w_ei w1 (w_ar ws (n_v vs 0) 12)) (w_ei w1 (w_ar ws (n_v vs 0) 11)) (w_ei ws (w_ar ws (n_v vs 1) 7)) (w_ei ws (w_ar ws (n_v vs 1) 9)) (w_ei ws (w_ar ws (n_v vs 1) 15)) k2 k7 k13 d1 d2 hE_0_11_1 hE_0_12_1 hE_0_13_1 hE_1_7_1 hE_1_9_1 hE_1_15_1
  refine ⟨(fun _ h => (by cases h)), [], trivial, ?_, (fun _ h => (by cases h))⟩
  rw [List.append_nil]
  exact List.forall_mem_cons.mpr ⟨⟨show (20 : Nat) < 100 from by decide, nf0⟩, List.forall_mem_cons.mpr ⟨⟨show (20 : Nat) < 100 from by decide, nf1⟩, (fun _ h => (by cases h))⟩⟩
set_option maxHeartbeats 4000000 in
theorem vc_Fa_orderSmall_3_0 (x2 : Int) (x8 : Int) (x9 : Int) (x10 : Int) (least_0 : Int → Int) (member_0 : Int → Int) (tail_0o1 : Int → Int) (weight_0o1 : Int → Int) (link_0o1 : Int → Int) (k2 : 2 ≤ x2 ∧ x2 ≤ 7) (k8 : 1 ≤ x8 ∧ x8 ≤ 127) (k9 : 2 ≤ x9 ∧ x9 ≤ 7) (k10 : 2 ≤ x10 ∧ x10 ≤ 128) (f0 : x10 = x8 + 1) (f1 : x2 ≤ x9) (f2 : LSJ (least_0) (member_0) (tail_0o1) (weight_0o1) (link_0o1) (x8) (x2) (x9)) (hK_0_13 : ∀ j : Int, 0 ≤ j → j < 24 → 0 ≤ member_0 j ∧ member_0 j ≤ 23) : LSO (least_0) (member_0) (tail_0o1) (weight_0o1) (link_0o1) (x10) (x2) := by
  first
    | exact lso_next ‹LSJ _ _ _ _ _ _ _ _› (by omega) (by omega)
set_option maxHeartbeats 4000000 in
theorem vc_Fa_orderSmall_3_1 (x8 : Int) (x10 : Int) (k8 : 1 ≤ x8 ∧ x8 ≤ 127) (k10 : 2 ≤ x10 ∧ x10 ≤ 128) (d0 : x8 + 1 ≤ x10 ∧ x10 ≤ x8 + 1) : 1 ≤ x10 := by
  first
    | omega
  
def o_Fa_orderSmall_3 : or_T := (9, 11, [(0, (2, 0, 0, [2])), (2, (0, 2, 7, [])), (8, (0, 1, 127, [])), (9, (0, 2, 7, [])), (10, (0, 2, 128, []))], [(6, [10, 8], [1]), (7, [9, 7], [3]), (20, [5, 6, 8, 7, 9], [60, 0, 5, 713, 14, 13, 1007, 1009, 1015]), (24, [0, 5], []), (24, [1, 6], []), (24, [2, 7], [])], [], [], [(20, [5, 6, 10, 7], [60, 0, 5, 712, 14, 13, 1007, 1009, 1015]), (20, [10], [50, 0, 0, 0, 2, 0, 1, 1, 0])], [], [(10, 8, 1, 1)])
theorem oo_Fa_orderSmall_3 {kA : Nat → ClassId} : or_ok PRD kA GG o_Fa_orderSmall_3 := by
  refine or_mk fun A ta ws vs hD hth hl => ?_
  intro t0 r0 t2 k2 t8 k8 t9 k9 t10 k10 d0 f0 f1 f2 f7 f8 f9
  replace f0 := shm_4 f0
  replace f1 := shm_2 f1
  replace f2 := shm_1350 f2
  replace f7 := shm_5 f7
  replace f8 := shm_5 f8
  replace f9 := shm_5 f9
  have q5 : n_v vs 5 = n_v vs 0 := f7.symm
  have q6 : n_v vs 6 = n_v vs 1 := f8.symm
  have q7 : n_v vs 7 = n_v vs 2 := f9.symm
  simp only [q7, q5, q6] at f1 f2
  have cr_0_13 := fdq_64 hD hth r0
  have hK_0_13 := elq_24 hD hth cr_0_13
  have nf0 : fc_1 PRD (20, [5, 6, 10, 7], [60, 0, 5, 712, 14, 13, 1007, 1009, 1015]) ws (vs) := by
    refine ⟨nf_in hl rfl, sgq_1348 ?_⟩
    · show LSO (w_ei ws (w_ar ws (n_v vs 5) 14)) (w_ei ws (w_ar ws (n_v vs 5) 13)) (w_ei ws (w_ar ws (n_v vs 6) 7)) (w_ei ws (w_ar ws (n_v vs 6) 9)) (w_ei ws (w_ar ws (n_v vs 6) 15)) (v_iv (n_v vs 10)) (v_iv (n_v vs 7))
      simp only [q5, q6, q7]
      exact vc_Fa_orderSmall_3_0 (v_iv (n_v vs 2)) (v_iv (n_v vs 8)) (v_iv (n_v vs 9)) (v_iv (n_v vs 10)) (w_ei ws (w_ar ws (n_v vs 0) 14)) (w_ei ws (w_ar ws (n_v vs 0) 13)) (w_ei ws (w_ar ws (n_v vs 1) 7)) (w_ei ws (w_ar ws (n_v vs 1) 9)) (w_ei ws (w_ar ws (n_v vs 1) 15)) k2 k8 k9 k10 f0 f1 f2 hK_0_13
  have nf1 : fc_1 PRD (20, [10], [50, 0, 0, 0, 2, 0, 1, 1, 0]) ws (vs) := ⟨nf_in hl rfl, sgq_710 (vc_Fa_orderSmall_3_1 (v_iv (n_v vs 8)) (v_iv (n_v vs 10)) k8 k10 d0)⟩
  refine ⟨(fun _ h => (by cases h)), [], trivial, ?_, (fun _ h => (by cases h))⟩
  rw [List.append_nil]
  exact List.forall_mem_cons.mpr ⟨⟨show (20 : Nat) < 100 from by decide, nf0⟩, List.forall_mem_cons.mpr ⟨⟨show (20 : Nat) < 100 from by decide, nf1⟩, (fun _ h => (by cases h))⟩⟩
set_option maxHeartbeats 4000000 in
theorem vc_Fa_orderSmall_4_0 (x2 : Int) (x8 : Int) (x9 : Int) (x10 : Int) (x11 : Int) (x12 : Int) (x13 : Int) (least_0 : Int → Int) (member_0 : Int → Int) (tail_0o1 : Int → Int) (weight_0o1 : Int → Int) (link_0o1 : Int → Int) (k2 : 2 ≤ x2 ∧ x2 ≤ 7) (k8 : 1 ≤ x8 ∧ x8 ≤ 127) (k9 : 0 ≤ x9 ∧ x9 ≤ 6) (k10 : 0 ≤ x10 ∧ x10 ≤ 127) (k11 : 1 ≤ x11 ∧ x11 ≤ 1) (k12 : 0 ≤ x12 ∧ x12 ≤ 0) (k13 : 1 ≤ x13 ∧ x13 ≤ 7) (d0 : x9 + 1 ≤ x13 ∧ x13 ≤ x9 + 1) (f0 : x13 = x9 + 1) (f3 : bvp (x12) = bvp (x10) &&& bvp (x11)) (f4 : bvp (x10) = bvp (x8) >>> (x9).toNat) (f6 : LSJ (least_0) (member_0) (tail_0o1) (weight_0o1) (link_0o1) (x8) (x2) (x9)) : LSJ (least_0) (member_0) (tail_0o1) (weight_0o1) (link_0o1) (x8) (x2) (x13) := by
  first
    | exact lsj_skip ‹LSJ _ _ _ _ _ _ _ _› (fun q => by have b := (bit_one (s := x8) (t := x10) (c := x12) (v := x9) (one := x11) (by assumption) (by assumption) (by omega) (by omega) (by omega) (by omega)).1 q; omega) (by omega)
set_option maxHeartbeats 4000000 in
theorem vc_Fa_orderSmall_4_1 (x2 : Int) (x7 : Int) (x9 : Int) (x13 : Int) (k2 : 2 ≤ x2 ∧ x2 ≤ 7) (k7 : 2 ≤ x7 ∧ x7 ≤ 7) (k9 : 0 ≤ x9 ∧ x9 ≤ 6) (k13 : 1 ≤ x13 ∧ x13 ≤ 7) (d0 : x9 + 1 ≤ x13 ∧ x13 ≤ x9 + 1) (d1 : x7 + (-4294967296) ≤ x13 ∧ x13 ≤ x7 + 0) (d4 : x7 + (-4294967296) ≤ x9 ∧ x9 ≤ x7 + (-1)) (d5 : x7 + (-4294967296) ≤ x2 ∧ x2 ≤ x7 + 0) (d6 : x2 + (-4294967296) ≤ x7 ∧ x7 ≤ x2 + 0) : x13 ≤ x2 := by
  first
    | omega
  
def o_Fa_orderSmall_4 : or_T := (27, 14, [(0, (2, 0, 0, [2])), (1, (2, 0, 0, [3])), (2, (0, 2, 7, [])), (3, (0, 0, 24, [])), (4, (0, 0, 24, [])), (5, (2, 0, 0, [2])), (6, (2, 0, 0, [3])), (7, (0, 2, 7, [])), (8, (0, 1, 127, [])), (9, (0, 0, 6, [])), (10, (0, 0, 127, [])), (11, (0, 1, 1, [])), (12, (0, 0, 0, [])), (13, (0, 1, 7, []))], [(6, [13, 9], [1]), (8, [12], [0]), (12, [12, 10], [2]), (16, [12, 10, 11], [0]), (16, [10, 8, 9], [4]), (7, [9, 7], [2]), (20, [5, 6, 8, 7, 9], [60, 0, 5, 713, 14, 13, 1007, 1009, 1015]), (20, [9, 7], [50, 0, 0, 0, 2, 1, 0, 1, 1]), (20, [5, 7], [60, 0, 1, 570, 13]), (20, [5, 3, 4, 7], [60, 0, 3, 716, 12, 11, 13]), (20, [7], [50, 0, 0, 2, 6, 0, 2, 0, 2, 1, 0, 0, 2, 1, 0, 0, 7]), (24, [0, 5], []), (24, [1, 6], []), (24, [2, 7], [])], [], [], [(20, [5, 6, 8, 7, 13], [60, 0, 5, 713, 14, 13, 1007, 1009, 1015]), (20, [13, 7], [50, 0, 0, 0, 2, 1, 0, 1, 1])], [], [(13, 9, 1, 1), (13, 7, -4294967296, 0), (13, 2, -4294967296, 1), (13, 7, -4294967296, 1), (9, 7, -4294967296, -1), (2, 7, -4294967296, 0), (7, 2, -4294967296, 0), (9, 2, -4294967296, 0), (9, 7, -4294967296, 0)])
theorem oo_Fa_orderSmall_4 {kA : Nat → ClassId} : or_ok PRD kA GG o_Fa_orderSmall_4 := by
  refine or_mk fun A ta ws vs hD hth hl => ?_
  intro t0 r0 t1 r1 t2 k2 t3 k3 t4 k4 t5 r5 t6 r6 t7 k7 t8 k8 t9 k9 t10 k10 t11 k11 t12 k12 t13 k13 d0 d1 d2 d3 d4 d5 d6 d7 d8 f0 f1 f2 f3 f4 f5 f6 f7 f8 f9 f10 f11 f12 f13
  replace f0 := shm_4 f0
  replace f3 := shm_11 f3
  replace f4 := shm_13 f4
  replace f6 := shm_1350 f6
  replace f11 := shm_5 f11
  replace f12 := shm_5 f12
  replace f13 := shm_5 f13
  have q5 : n_v vs 5 = n_v vs 0 := f11.symm
  have q6 : n_v vs 6 = n_v vs 1 := f12.symm
  have q7 : n_v vs 7 = n_v vs 2 := f13.symm
  simp only [q7, q5, q6] at f6
  have nf0 : fc_1 PRD (20, [5, 6, 8, 7, 13], [60, 0, 5, 713, 14, 13, 1007, 1009, 1015]) ws (vs) := by
    refine ⟨nf_in hl rfl, sgq_1350 ?_⟩
    · show LSJ (w_ei ws (w_ar ws (n_v vs 5) 14)) (w_ei ws (w_ar ws (n_v vs 5) 13)) (w_ei ws (w_ar ws (n_v vs 6) 7)) (w_ei ws (w_ar ws (n_v vs 6) 9)) (w_ei ws (w_ar ws (n_v vs 6) 15)) (v_iv (n_v vs 8)) (v_iv (n_v vs 7)) (v_iv (n_v vs 13))
      simp only [q5, q6, q7]
      exact vc_Fa_orderSmall_4_0 (v_iv (n_v vs 2)) (v_iv (n_v vs 8)) (v_iv (n_v vs 9)) (v_iv (n_v vs 10)) (v_iv (n_v vs 11)) (v_iv (n_v vs 12)) (v_iv (n_v vs 13)) (w_ei ws (w_ar ws (n_v vs 0) 14)) (w_ei ws (w_ar ws (n_v vs 0) 13)) (w_ei ws (w_ar ws (n_v vs 1) 7)) (w_ei ws (w_ar ws (n_v vs 1) 9)) (w_ei ws (w_ar ws (n_v vs 1) 15)) k2 k8 k9 k10 k11 k12 k13 d0 f0 f3 f4 f6
  have nf1 : fc_1 PRD (20, [13, 7], [50, 0, 0, 0, 2, 1, 0, 1, 1]) ws (vs) := by
    refine ⟨nf_in hl rfl, sgq_360 ?_⟩
    · show v_iv (n_v vs 13) ≤ v_iv (n_v vs 7)
      rw [q7]
      exact vc_Fa_orderSmall_4_1 (v_iv (n_v vs 2)) (v_iv (n_v vs 7)) (v_iv (n_v vs 9)) (v_iv (n_v vs 13)) k2 k7 k9 k13 d0 d1 d4 d5 d6
  refine ⟨(fun _ h => (by cases h)), [], trivial, ?_, (fun _ h => (by cases h))⟩
  rw [List.append_nil]
  exact List.forall_mem_cons.mpr ⟨⟨show (20 : Nat) < 100 from by decide, nf0⟩, List.forall_mem_cons.mpr ⟨⟨show (20 : Nat) < 100 from by decide, nf1⟩, (fun _ h => (by cases h))⟩⟩
set_option maxHeartbeats 4000000 in
theorem vc_Fa_orderSmall_5_0 (x8 : Int) (x9 : Int) (x10 : Int) (x11 : Int) (x12 : Int) (x14 : Int) (k8 : 1 ≤ x8 ∧ x8 ≤ 127) (k9 : 0 ≤ x9 ∧ x9 ≤ 6) (k10 : 0 ≤ x10 ∧ x10 ≤ 127) (k11 : 1 ≤ x11 ∧ x11 ≤ 1) (k12 : 1 ≤ x12 ∧ x12 ≤ 1) (f4 : bvp (x12) = bvp (x10) &&& bvp (x11)) (f5 : bvp (x10) = bvp (x8) >>> (x9).toNat) : BBT (x8) (x9) := by
  first
    | exact (bit_one (s := x8) (t := x10) (c := x12) (v := x9) (one := x11) (by assumption) (by assumption) (by omega) (by omega) (by omega) (by omega)).2 (by omega)
    | exact (bit_one (s := x8) (t := x12) (c := x14) (v := x11) (one := x13) (by assumption) (by assumption) (by omega) (by omega) (by omega) (by omega)).2 (by omega)
set_option maxHeartbeats 4000000 in
theorem vc_Fa_orderSmall_5_1 (x2 : Int) (x7 : Int) (x8 : Int) (x9 : Int) (k2 : 2 ≤ x2 ∧ x2 ≤ 7) (k7 : 2 ≤ x7 ∧ x7 ≤ 7) (k8 : 1 ≤ x8 ∧ x8 ≤ 127) (k9 : 0 ≤ x9 ∧ x9 ≤ 6) (d0 : x7 + (-4294967296) ≤ x9 ∧ x9 ≤ x7 + (-1)) (d1 : x7 + (-4294967296) ≤ x2 ∧ x2 ≤ x7 + 0) (d2 : x2 + (-4294967296) ≤ x7 ∧ x7 ≤ x2 + 0) : (x8 ≤ 127) ∧ (((x9 + 1) ≤ x2) ∧ (x2 ≤ 7)) := by
  first
    | omega
  
def o_Fa_orderSmall_5 : or_T := (59, 15, [(2, (0, 2, 7, [])), (7, (0, 2, 7, [])), (8, (0, 1, 127, [])), (9, (0, 0, 6, [])), (10, (0, 0, 127, [])), (11, (0, 1, 1, [])), (12, (0, 1, 1, []))], [(16, [12, 10, 11], [0]), (16, [10, 8, 9], [4]), (24, [2, 7], [])], [], [], [(20, [8, 9], [61, 0, 705]), (20, [8, 9, 7], [50, 0, 0, 2, 6, 0, 2, 1, 0, 0, 127, 2, 10, 0, 6, 4, 2, 1, 1, 0, 1, 1, 2, 0, 2, 1, 2, 0, 7])], [], [(9, 7, -4294967296, -1), (2, 7, -4294967296, 0), (7, 2, -4294967296, 0)])
theorem oo_Fa_orderSmall_5 {kA : Nat → ClassId} : or_ok PRD kA GG o_Fa_orderSmall_5 := by
  refine or_mk fun A ta ws vs hD hth hl => ?_
  intro t2 k2 t7 k7 t8 k8 t9 k9 t10 k10 t11 k11 t12 k12 d0 d1 d2 f4 f5 f14
  replace f4 := shm_11 f4
  replace f5 := shm_13 f5
  replace f14 := shm_5 f14
  have q7 : n_v vs 7 = n_v vs 2 := f14.symm
  have nf0 : fc_1 PRD (20, [8, 9], [61, 0, 705]) ws (vs) := ⟨nf_in hl rfl, sgq_1083 (vc_Fa_orderSmall_5_0 (v_iv (n_v vs 8)) (v_iv (n_v vs 9)) (v_iv (n_v vs 10)) (v_iv (n_v vs 11)) (v_iv (n_v vs 12)) (v_iv (n_v vs 14)) k8 k9 k10 k11 k12 f4 f5)⟩
  have nf1 : fc_1 PRD (20, [8, 9, 7], [50, 0, 0, 2, 6, 0, 2, 1, 0, 0, 127, 2, 10, 0, 6, 4, 2, 1, 1, 0, 1, 1, 2, 0, 2, 1, 2, 0, 7]) ws (vs) := by
    refine ⟨nf_in hl rfl, sgq_1084 ?_⟩
    · show (v_iv (n_v vs 8) ≤ 127) ∧ (((v_iv (n_v vs 9) + 1) ≤ v_iv (n_v vs 7)) ∧ (v_iv (n_v vs 7) ≤ 7))
      rw [q7]
      exact vc_Fa_orderSmall_5_1 (v_iv (n_v vs 2)) (v_iv (n_v vs 7)) (v_iv (n_v vs 8)) (v_iv (n_v vs 9)) k2 k7 k8 k9 d0 d1 d2
  refine ⟨(fun _ h => (by cases h)), [], trivial, ?_, (fun _ h => (by cases h))⟩
  rw [List.append_nil]
  exact List.forall_mem_cons.mpr ⟨⟨show (20 : Nat) < 100 from by decide, nf0⟩, List.forall_mem_cons.mpr ⟨⟨show (20 : Nat) < 100 from by decide, nf1⟩, (fun _ h => (by cases h))⟩⟩
set_option maxHeartbeats 4000000 in
theorem vc_Fa_orderSmall_6_0 (x2 : Int) (x8 : Int) (x9 : Int) (x10 : Int) (x11 : Int) (x12 : Int) (x14 : Int) (x15 : Int) (x16 : Int) (x17 : Int) (member_0 : Int → Int) (rank_0 : Int → Int) (loop_0 : Int → Int) (least_1 : Int → Int) (member_1 : Int → Int) (tail_1o1 : Int → Int) (weight_1o1 : Int → Int) (link_1o1 : Int → Int) (rank_1 : Int → Int) (loop_1 : Int → Int) (least_0 : Int → Int) (tail_0o1 : Int → Int) (weight_0o1 : Int → Int) (link_0o1 : Int → Int) (k2 : 2 ≤ x2 ∧ x2 ≤ 7) (k8 : 1 ≤ x8 ∧ x8 ≤ 127) (k9 : 0 ≤ x9 ∧ x9 ≤ 6) (k14 : 0 ≤ x14 ∧ x14 ≤ 1000000) (k15 : 0 ≤ x15 ∧ x15 ≤ 1048575) (k16 : 0 ≤ x16 ∧ x16 ≤ 1000000) (k17 : 1 ≤ x17 ∧ x17 ≤ 7) (f1 : x17 = x9 + 1) (f2 : (-1) * x14 + (1 * x16 + 0) ≤ 0) (f3 : (-1) * x15 + (1 * x16 + 0) ≤ 0) (f17 : (x16 = x14) ∨ (x16 = x15)) (f18 : CAP (least_1) (member_1) (tail_1o1) (weight_1o1) (link_1o1) (x8) (x9) (x2) (x15)) (f19 : BBT (x8) (x9)) (h21 : x14 = least_1 (x8)) (f26 : x9 < x2) (f27 : LSJ (least_1) (member_1) (tail_1o1) (weight_1o1) (link_1o1) (x8) (x2) (x9)) (hE_0_11_1 : ∀ j : Int, loop_0 j = loop_1 j) (hE_0_12_1 : ∀ j : Int, rank_0 j = rank_1 j) (hE_0_13_1 : ∀ j : Int, member_0 j = member_1 j) (hE_0_14_1 : ∀ j : Int, 0 ≤ j → (j = x8 → least_0 j = x16) ∧ (j ≠ x8 → least_0 j = least_1 j)) (hE_1_7_1 : ∀ j : Int, tail_0o1 j = tail_1o1 j) (hE_1_9_1 : ∀ j : Int, weight_0o1 j = weight_1o1 j) (hE_1_15_1 : ∀ j : Int, link_0o1 j = link_1o1 j) : LSJ (least_0) (member_0) (tail_0o1) (weight_0o1) (link_0o1) (x8) (x2) (x17) := by
  have e_hE_0_11_1 := funext hE_0_11_1; subst e_hE_0_11_1
  have e_hE_0_12_1 := funext hE_0_12_1; subst e_hE_0_12_1
  have e_hE_0_13_1 := funext hE_0_13_1; subst e_hE_0_13_1
  have e_hE_1_7_1 := funext hE_1_7_1; subst e_hE_1_7_1
  have e_hE_1_9_1 := funext hE_1_9_1; subst e_hE_1_9_1
  have e_hE_1_15_1 := funext hE_1_15_1; subst e_hE_1_15_1
  first
    | exact lsj_step (p := x8) (x := x16) (y := x14) (z := x15) ‹LSJ _ _ _ _ _ _ _ _› (by omega) ‹BBT _ _› (by assumption) ‹CAP _ _ _ _ _ _ _ _ _› (by omega) (by omega) (by omega) hE_0_14_1 rfl (by omega)
set_option maxHeartbeats 4000000 in
theorem vc_Fa_orderSmall_6_1 (x2 : Int) (x7 : Int) (x9 : Int) (x17 : Int) (member_0 : Int → Int) (rank_0 : Int → Int) (loop_0 : Int → Int) (member_1 : Int → Int) (tail_1o1 : Int → Int) (weight_1o1 : Int → Int) (link_1o1 : Int → Int) (rank_1 : Int → Int) (loop_1 : Int → Int) (tail_0o1 : Int → Int) (weight_0o1 : Int → Int) (link_0o1 : Int → Int) (k2 : 2 ≤ x2 ∧ x2 ≤ 7) (k7 : 2 ≤ x7 ∧ x7 ≤ 7) (k9 : 0 ≤ x9 ∧ x9 ≤ 6) (k17 : 1 ≤ x17 ∧ x17 ≤ 7) (d0 : x9 + 1 ≤ x17 ∧ x17 ≤ x9 + 1) (d1 : x7 + (-4294967296) ≤ x17 ∧ x17 ≤ x7 + 0) (d4 : x7 + (-4294967296) ≤ x9 ∧ x9 ≤ x7 + (-1)) (d5 : x7 + (-4294967296) ≤ x2 ∧ x2 ≤ x7 + 0) (d6 : x2 + (-4294967296) ≤ x7 ∧ x7 ≤ x2 + 0) (hE_0_11_1 : ∀ j : Int, loop_0 j = loop_1 j) (hE_0_12_1 : ∀ j : Int, rank_0 j = rank_1 j) (hE_0_13_1 : ∀ j : Int, member_0 j = member_1 j) (hE_1_7_1 : ∀ j : Int, tail_0o1 j = tail_1o1 j) (hE_1_9_1 : ∀ j : Int, weight_0o1 j = weight_1o1 j) (hE_1_15_1 : ∀ j : Int, link_0o1 j = link_1o1 j) : x17 ≤ x2 := by
  have e_hE_0_11_1 := funext hE_0_11_1; subst e_hE_0_11_1
  have e_hE_0_12_1 := funext hE_0_12_1; subst e_hE_0_12_1
  have e_hE_0_13_1 := funext hE_0_13_1; subst e_hE_0_13_1
  have e_hE_1_7_1 := funext hE_1_7_1; subst e_hE_1_7_1
  have e_hE_1_9_1 := funext hE_1_9_1; subst e_hE_1_9_1
  have e_hE_1_15_1 := funext hE_1_15_1; subst e_hE_1_15_1
  first
    | omega
  
def o_Fa_orderSmall_6 : or_T := (27, 18, [(0, (2, 0, 0, [2])), (1, (2, 0, 0, [3])), (2, (0, 2, 7, [])), (7, (0, 2, 7, [])), (8, (0, 1, 127, [])), (9, (0, 0, 6, [])), (13, (2, 0, 0, [47])), (14, (0, 0, 1000000, [])), (15, (0, 0, 1048575, [])), (16, (0, 0, 1000000, [])), (17, (0, 1, 7, []))], [(9, [13, 5], [14]), (6, [17, 9], [1]), (23, [14, 16], [0, -1, 1]), (23, [15, 16], [0, -1, 1]), (24, [0, 5], []), (24, [1, 6], []), (24, [2, 7], []), (100, [13, 8, 16], []), (20, [16, 14, 15], [50, 0, 0, 3, 6, 1, 2, 1, 0, 1, 1, 1, 2, 1, 0, 1, 2]), (20, [5, 6, 8, 9, 7, 15], [60, 0, 5, 711, 14, 13, 1007, 1009, 1015]), (20, [8, 9], [61, 0, 705]), (10, [14, 13, 8], []), (7, [9, 7], [2]), (20, [5, 6, 8, 7, 9], [60, 0, 5, 713, 14, 13, 1007, 1009, 1015])], [], [], [(20, [5, 6, 8, 7, 17], [60, 0, 5, 713, 14, 13, 1007, 1009, 1015]), (20, [17, 7], [50, 0, 0, 0, 2, 1, 0, 1, 1])], [], [(17, 9, 1, 1), (17, 7, -4294967296, 0), (9, 7, -4294967296, -1), (2, 7, -4294967296, 0), (7, 2, -4294967296, 0)])
theorem oo_Fa_orderSmall_6 {kA : Nat → ClassId} : or_ok PRD kA GG o_Fa_orderSmall_6 := by
  refine or_mk fun A ta ws vs hD hth hl => ?_
  intro t0 r0 t1 r1 t2 k2 t7 k7 t8 k8 t9 k9 t13 r13 t14 k14 t15 k15 t16 k16 t17 k17 d0 d1 d4 d5 d6 f0 f1 f2 f3 f11 f12 f13 ta1 w1 le1 s1 f17 f18 f19 f21 f26 f27
  replace f0 := shm_115 f0
  replace f1 := shm_4 f1
  replace f2 := shm_22 f2
  replace f3 := shm_22 f3
  replace f11 := shm_5 f11
  replace f12 := shm_5 f12
  replace f13 := shm_5 f13
  have s1 : (∀ b j, w_el ws b j = if b = v_ad (n_v vs 13) ∧ j = (v_iv (n_v vs 8)).toNat then v_iv (n_v vs 16) else w_el w1 b j) ∧ ∀ b k, w_fd ws b k = w_fd w1 b k := s1.2
  replace f17 := shm_898 f17
  replace f18 := shm_1086 f18
  replace f19 := shm_1083 f19
  replace f21 := shm_107 f21
  replace f26 := shm_6 f26
  replace f27 := shm_1350 f27
  have q5 : n_v vs 5 = n_v vs 0 := f11.symm
  have q6 : n_v vs 6 = n_v vs 1 := f12.symm
  have q7 : n_v vs 7 = n_v vs 2 := f13.symm
  simp only [q5, q7, q6] at f0 f18 f26 f27
  have ar_0_11_1 : w_ar w1 (n_v vs 0) 11 = w_ar ws (n_v vs 0) 11 := congrArg v_ad (s1.2 _ _).symm
  have cr_0_11 := fdq_63 hD hth r0
  have ar_0_12_1 : w_ar w1 (n_v vs 0) 12 = w_ar ws (n_v vs 0) 12 := congrArg v_ad (s1.2 _ _).symm
  have cr_0_12 := fdq_287 hD hth r0
  have ar_0_13_1 : w_ar w1 (n_v vs 0) 13 = w_ar ws (n_v vs 0) 13 := congrArg v_ad (s1.2 _ _).symm
  have cr_0_13 := fdq_64 hD hth r0
  have ar_0_14_1 : w_ar w1 (n_v vs 0) 14 = w_ar ws (n_v vs 0) 14 := congrArg v_ad (s1.2 _ _).symm
  have ar_1_7_1 : w_ar w1 (n_v vs 1) 7 = w_ar ws (n_v vs 1) 7 := congrArg v_ad (s1.2 _ _).symm
  have cr_1_7 := fdq_46 hD hth r1
  have ar_1_9_1 : w_ar w1 (n_v vs 1) 9 = w_ar ws (n_v vs 1) 9 := congrArg v_ad (s1.2 _ _).symm
  have cr_1_9 := fdq_112 hD hth r1
  have ar_1_15_1 : w_ar w1 (n_v vs 1) 15 = w_ar ws (n_v vs 1) 15 := congrArg v_ad (s1.2 _ _).symm
  have cr_1_15 := fdq_66 hD hth r1
  have ad_13 : v_ad (n_v vs 13) = w_ar ws (n_v vs 0) 14 := congrArg v_ad f0
  simp only [ar_0_13_1, ar_0_14_1, ar_1_7_1, ar_1_9_1, ar_1_15_1, ad_13] at f18 f21
  have h21 : v_iv (n_v vs 14) = w_ei w1 (w_ar ws (n_v vs 0) 14) (v_iv (n_v vs 8)) := f21
  simp only [ar_0_13_1, ar_0_14_1, ar_1_7_1, ar_1_9_1, ar_1_15_1, ar_0_11_1, ar_0_12_1] at f27
  have hE_0_11_1 : ∀ j : Int, w_ei ws (w_ar ws (n_v vs 0) 11) j = w_ei w1 (w_ar ws (n_v vs 0) 11) j := el_kp s1.1 r13 cr_0_11 (by decide)
  have hE_0_12_1 : ∀ j : Int, w_ei ws (w_ar ws (n_v vs 0) 12) j = w_ei w1 (w_ar ws (n_v vs 0) 12) j := el_kp s1.1 r13 cr_0_12 (by decide)
  have hE_0_13_1 : ∀ j : Int, w_ei ws (w_ar ws (n_v vs 0) 13) j = w_ei w1 (w_ar ws (n_v vs 0) 13) j := el_kp s1.1 r13 cr_0_13 (by decide)
  have hE_0_14_1 : ∀ j : Int, 0 ≤ j → (j = v_iv (n_v vs 8) → w_ei ws (w_ar ws (n_v vs 0) 14) j = v_iv (n_v vs 16)) ∧ (j ≠ v_iv (n_v vs 8) → w_ei ws (w_ar ws (n_v vs 0) 14) j = w_ei w1 (w_ar ws (n_v vs 0) 14) j) := fun j hj => ⟨fun h => by unfold w_ei; rw [s1.1, if_pos ⟨ad_13.symm, by rw [h]⟩], fun h => by unfold w_ei; rw [s1.1, if_neg (fun e => h (by have := e.2; omega))]⟩
  have hE_1_7_1 : ∀ j : Int, w_ei ws (w_ar ws (n_v vs 1) 7) j = w_ei w1 (w_ar ws (n_v vs 1) 7) j := el_kp s1.1 r13 cr_1_7 (by decide)
  have hE_1_9_1 : ∀ j : Int, w_ei ws (w_ar ws (n_v vs 1) 9) j = w_ei w1 (w_ar ws (n_v vs 1) 9) j := el_kp s1.1 r13 cr_1_9 (by decide)
  have hE_1_15_1 : ∀ j : Int, w_ei ws (w_ar ws (n_v vs 1) 15) j = w_ei w1 (w_ar ws (n_v vs 1) 15) j := el_kp s1.1 r13 cr_1_15 (by decide)
  have nf0 : fc_1 PRD (20, [5, 6, 8, 7, 17], [60, 0, 5, 713, 14, 13, 1007, 1009, 1015]) ws (vs) := by
    refine ⟨nf_in hl rfl, sgq_1350 ?_⟩
    · show LSJ (w_ei ws (w_ar ws (n_v vs 5) 14)) (w_ei ws (w_ar ws (n_v vs 5) 13)) (w_ei ws (w_ar ws (n_v vs 6) 7)) (w_ei ws (w_ar ws (n_v vs 6) 9)) (w_ei ws (w_ar ws (n_v vs 6) 15)) (v_iv (n_v vs 8)) (v_iv (n_v vs 7)) (v_iv (n_v vs 17))
      simp only [q5, q6, q7]
      exact vc_Fa_orderSmall_6_0 (v_iv (n_v vs 2)) (v_iv (n_v vs 8)) (v_iv (n_v vs 9)) (v_iv (n_v vs 10)) (v_iv (n_v vs 11)) (v_iv (n_v vs 12)) (v_iv (n_v vs 14)) (v_iv (n_v vs 15)) (v_iv (n_v vs 16)) (v_iv (n_v vs 17)) (w_ei ws (w_ar ws (n_v vs 0) 13)) (w_ei ws (w_ar ws (n_v vs 0) 12)) (w_ei ws (w_ar ws (n_v vs 0) 11)) (w_ei w1 (w_ar ws (n_v vs 0) 14)) (w_ei w1 (w_ar ws (n_v vs 0) 13)) (w_ei w1 (w_ar ws (n_v vs 1) 7)) (w_ei w1 (w_ar ws (n_v vs 1) 9)) (w_ei w1 (w_ar ws (n_v vs 1) 15)) (w_ei w1 (w_ar ws (n_v vs 0) 12)) (w_ei w1 (w_ar ws (n_v vs 0) 11)) (w_ei ws (w_ar ws (n_v vs 0) 14)) (w_ei ws (w_ar ws (n_v vs 1) 7)) (w_ei ws (w_ar ws (n_v vs 1) 9)) (w_ei ws (w_ar ws (n_v vs 1) 15)) k2 k8 k9 k14 k15 k16 k17 f1 f2 f3 f17 f18 f19 h21 f26 f27 hE_0_11_1 hE_0_12_1 hE_0_13_1 hE_0_14_1 hE_1_7_1 hE_1_9_1 hE_1_15_1
  have nf1 : fc_1 PRD (20, [17, 7], [50, 0, 0, 0, 2, 1, 0, 1, 1]) ws (vs) := by
    refine ⟨nf_in hl rfl, sgq_360 ?_⟩
    · show v_iv (n_v vs 17) ≤ v_iv (n_v vs 7)
      rw [q7]
      exact vc_Fa_orderSmall_6_1 (v_iv (n_v vs 2)) (v_iv (n_v vs 7)) (v_iv (n_v vs 9)) (v_iv (n_v vs 17)) (w_ei ws (w_ar ws (n_v vs 0) 13)) (w_ei ws (w_ar ws (n_v vs 0) 12)) (w_ei ws (w_ar ws (n_v vs 0) 11)) (w_ei w1 (w_ar ws (n_v vs 0) 13)) (w_ei w1 (w_ar ws (n_v vs 1) 7)) (w_ei w1 (w_ar ws (n_v vs 1) 9)) (w_ei w1 (w_ar ws (n_v vs 1) 15)) (w_ei w1 (w_ar ws (n_v vs 0) 12)) (w_ei w1 (w_ar ws (n_v vs 0) 11)) (w_ei ws (w_ar ws (n_v vs 1) 7)) (w_ei ws (w_ar ws (n_v vs 1) 9)) (w_ei ws (w_ar ws (n_v vs 1) 15)) k2 k7 k9 k17 d0 d1 d4 d5 d6 hE_0_11_1 hE_0_12_1 hE_0_13_1 hE_1_7_1 hE_1_9_1 hE_1_15_1
  refine ⟨(fun _ h => (by cases h)), [], trivial, ?_, (fun _ h => (by cases h))⟩
  rw [List.append_nil]
  exact List.forall_mem_cons.mpr ⟨⟨show (20 : Nat) < 100 from by decide, nf0⟩, List.forall_mem_cons.mpr ⟨⟨show (20 : Nat) < 100 from by decide, nf1⟩, (fun _ h => (by cases h))⟩⟩
set_option maxHeartbeats 4000000 in
theorem vc_Fa_orderSmall_7_0 (x2 : Int) (x8 : Int) (x9 : Int) (least_0 : Int → Int) (rank_0 : Int → Int) (member_0 : Int → Int) (tail_0o1 : Int → Int) (weight_0o1 : Int → Int) (link_0o1 : Int → Int) (k2 : 2 ≤ x2 ∧ x2 ≤ 7) (k8 : 0 ≤ x8 ∧ x8 ≤ 127) (k9 : 2 ≤ x9 ∧ x9 ≤ 7) (f0 : x2 ≤ x9) (f1 : OSL (least_0) (rank_0) (member_0) (tail_0o1) (weight_0o1) (link_0o1) (x8) (x9) (x2)) : ORE (rank_0) (member_0) (x2) := by
  first
    | exact ore_osl ‹OSL _ _ _ _ _ _ _ _ _› (by omega)
  
set_option maxHeartbeats 4000000 in
theorem vc_Fa_orderSmall_7_1 (x2 : Int) (x3 : Int) (x4 : Int) (rank_0 : Int → Int) (member_0 : Int → Int) (loop_0 : Int → Int) (k2 : 2 ≤ x2 ∧ x2 ≤ 7) (k3 : 0 ≤ x3 ∧ x3 ≤ 24) (k4 : 0 ≤ x4 ∧ x4 ≤ 24) (f4 : RKM (rank_0) (loop_0) (member_0) (x3) (x4) (x2)) : RKM (rank_0) (loop_0) (member_0) (x3) (x4) (x2) := by
  first
    | assumption
def o_Fa_orderSmall_7 : or_T := (175, 10, [(2, (0, 2, 7, [])), (3, (0, 0, 24, [])), (4, (0, 0, 24, [])), (8, (0, 0, 127, [])), (9, (0, 2, 7, []))], [(7, [9, 7], [3]), (20, [5, 6, 8, 9, 7], [60, 0, 6, 714, 14, 12, 13, 1007, 1009, 1015]), (20, [5, 3, 4, 7], [60, 0, 3, 716, 12, 11, 13]), (24, [0, 5], []), (24, [1, 6], []), (24, [2, 7], [])], [], [], [(20, [0, 2], [60, 0, 2, 573, 12, 13]), (20, [0, 3, 4, 2], [60, 0, 3, 716, 12, 11, 13])], [], [])
theorem oo_Fa_orderSmall_7 {kA : Nat → ClassId} : or_ok PRD kA GG o_Fa_orderSmall_7 := by
  refine or_mk fun A ta ws vs hD hth hl => ?_
  intro t2 k2 t3 k3 t4 k4 t8 k8 t9 k9 f0 f1 f4 f6 f7 f8
  replace f0 := shm_2 f0
  replace f1 := shm_1349 f1
  replace f4 := shm_1346 f4
  replace f6 := shm_5 f6
  replace f7 := shm_5 f7
  replace f8 := shm_5 f8
  have q5 : n_v vs 5 = n_v vs 0 := f6.symm
  have q6 : n_v vs 6 = n_v vs 1 := f7.symm
  have q7 : n_v vs 7 = n_v vs 2 := f8.symm
  simp only [q7, q5, q6] at f0 f1 f4
  have nf0 : fc_1 PRD (20, [0, 2], [60, 0, 2, 573, 12, 13]) ws (vs) := ⟨nf_in hl rfl, sgq_1351 (vc_Fa_orderSmall_7_0 (v_iv (n_v vs 2)) (v_iv (n_v vs 8)) (v_iv (n_v vs 9)) (w_ei ws (w_ar ws (n_v vs 0) 14)) (w_ei ws (w_ar ws (n_v vs 0) 12)) (w_ei ws (w_ar ws (n_v vs 0) 13)) (w_ei ws (w_ar ws (n_v vs 1) 7)) (w_ei ws (w_ar ws (n_v vs 1) 9)) (w_ei ws (w_ar ws (n_v vs 1) 15)) k2 k8 k9 f0 f1)⟩
  have nf1 : fc_1 PRD (20, [0, 3, 4, 2], [60, 0, 3, 716, 12, 11, 13]) ws (vs) := ⟨nf_in hl rfl, sgq_1346 (vc_Fa_orderSmall_7_1 (v_iv (n_v vs 2)) (v_iv (n_v vs 3)) (v_iv (n_v vs 4)) (w_ei ws (w_ar ws (n_v vs 0) 12)) (w_ei ws (w_ar ws (n_v vs 0) 13)) (w_ei ws (w_ar ws (n_v vs 0) 11)) k2 k3 k4 f4)⟩
  refine ⟨(fun _ h => (by cases h)), [], trivial, ?_, (fun _ h => (by cases h))⟩
  rw [List.append_nil]
  exact List.forall_mem_cons.mpr ⟨⟨show (20 : Nat) < 100 from by decide, nf0⟩, List.forall_mem_cons.mpr ⟨⟨show (20 : Nat) < 100 from by decide, nf1⟩, (fun _ h => (by cases h))⟩⟩
set_option maxHeartbeats 4000000 in
theorem vc_Fa_orderSmall_8_0 (x2 : Int) (x8 : Int) (x9 : Int) (x10 : Int) (x11 : Int) (least_0 : Int → Int) (rank_0 : Int → Int) (member_0 : Int → Int) (tail_0o1 : Int → Int) (weight_0o1 : Int → Int) (link_0o1 : Int → Int) (k2 : 2 ≤ x2 ∧ x2 ≤ 7) (k8 : 0 ≤ x8 ∧ x8 ≤ 127) (k9 : 0 ≤ x9 ∧ x9 ≤ 6) (k10 : 0 ≤ x10 ∧ x10 ≤ 0) (k11 : 0 ≤ x11 ∧ x11 ≤ 0) (f0 : x9 < x2) (f1 : OSL (least_0) (rank_0) (member_0) (tail_0o1) (weight_0o1) (link_0o1) (x8) (x9) (x2)) : OSK (least_0) (rank_0) (member_0) (tail_0o1) (weight_0o1) (link_0o1) (x8) (x9) (x2) (x11) (x10) := by
  first
    | exact osk_start ‹OSL _ _ _ _ _ _ _ _ _› (by omega) (by omega) (by omega)
set_option maxHeartbeats 4000000 in
theorem vc_Fa_orderSmall_8_1 (x2 : Int) (x7 : Int) (x9 : Int) (x11 : Int) (k2 : 2 ≤ x2 ∧ x2 ≤ 7) (k7 : 2 ≤ x7 ∧ x7 ≤ 7) (k9 : 0 ≤ x9 ∧ x9 ≤ 6) (k11 : 0 ≤ x11 ∧ x11 ≤ 0) (d0 : x7 + (-4294967296) ≤ x9 ∧ x9 ≤ x7 + (-1)) (d1 : x7 + (-4294967296) ≤ x2 ∧ x2 ≤ x7 + 0) (d2 : x2 + (-4294967296) ≤ x7 ∧ x7 ≤ x2 + 0) : ((x9 + 1) ≤ x2) ∧ (x11 ≤ x2) := by
  first
    | omega
  
def o_Fa_orderSmall_8 : or_T := (99, 12, [(2, (0, 2, 7, [])), (7, (0, 2, 7, [])), (8, (0, 0, 127, [])), (9, (0, 0, 6, [])), (10, (0, 0, 0, [])), (11, (0, 0, 0, []))], [(7, [9, 7], [2]), (20, [5, 6, 8, 9, 7], [60, 0, 6, 714, 14, 12, 13, 1007, 1009, 1015]), (24, [0, 5], []), (24, [1, 6], []), (24, [2, 7], [])], [], [], [(20, [5, 6, 8, 9, 7, 11, 10], [60, 0, 6, 715, 14, 12, 13, 1007, 1009, 1015]), (20, [9, 7, 11], [50, 0, 0, 2, 10, 0, 6, 4, 2, 1, 0, 0, 1, 1, 1, 0, 2, 1, 2, 1, 1])], [], [(9, 7, -4294967296, -1), (2, 7, -4294967296, 0), (7, 2, -4294967296, 0)])
theorem oo_Fa_orderSmall_8 {kA : Nat → ClassId} : or_ok PRD kA GG o_Fa_orderSmall_8 := by
  refine or_mk fun A ta ws vs hD hth hl => ?_
  intro t2 k2 t7 k7 t8 k8 t9 k9 t10 k10 t11 k11 d0 d1 d2 f0 f1 f6 f7 f8
  replace f0 := shm_6 f0
  replace f1 := shm_1349 f1
  replace f6 := shm_5 f6
  replace f7 := shm_5 f7
  replace f8 := shm_5 f8
  have q5 : n_v vs 5 = n_v vs 0 := f6.symm
  have q6 : n_v vs 6 = n_v vs 1 := f7.symm
  have q7 : n_v vs 7 = n_v vs 2 := f8.symm
  simp only [q7, q5, q6] at f0 f1
  have nf0 : fc_1 PRD (20, [5, 6, 8, 9, 7, 11, 10], [60, 0, 6, 715, 14, 12, 13, 1007, 1009, 1015]) ws (vs) := by
    refine ⟨nf_in hl rfl, sgq_1352 ?_⟩
    · show OSK (w_ei ws (w_ar ws (n_v vs 5) 14)) (w_ei ws (w_ar ws (n_v vs 5) 12)) (w_ei ws (w_ar ws (n_v vs 5) 13)) (w_ei ws (w_ar ws (n_v vs 6) 7)) (w_ei ws (w_ar ws (n_v vs 6) 9)) (w_ei ws (w_ar ws (n_v vs 6) 15)) (v_iv (n_v vs 8)) (v_iv (n_v vs 9)) (v_iv (n_v vs 7)) (v_iv (n_v vs 11)) (v_iv (n_v vs 10))
      simp only [q5, q6, q7]
      exact vc_Fa_orderSmall_8_0 (v_iv (n_v vs 2)) (v_iv (n_v vs 8)) (v_iv (n_v vs 9)) (v_iv (n_v vs 10)) (v_iv (n_v vs 11)) (w_ei ws (w_ar ws (n_v vs 0) 14)) (w_ei ws (w_ar ws (n_v vs 0) 12)) (w_ei ws (w_ar ws (n_v vs 0) 13)) (w_ei ws (w_ar ws (n_v vs 1) 7)) (w_ei ws (w_ar ws (n_v vs 1) 9)) (w_ei ws (w_ar ws (n_v vs 1) 15)) k2 k8 k9 k10 k11 f0 f1
  have nf1 : fc_1 PRD (20, [9, 7, 11], [50, 0, 0, 2, 10, 0, 6, 4, 2, 1, 0, 0, 1, 1, 1, 0, 2, 1, 2, 1, 1]) ws (vs) := by
    refine ⟨nf_in hl rfl, sgq_1353 ?_⟩
    · show ((v_iv (n_v vs 9) + 1) ≤ v_iv (n_v vs 7)) ∧ (v_iv (n_v vs 11) ≤ v_iv (n_v vs 7))
      rw [q7]
      exact vc_Fa_orderSmall_8_1 (v_iv (n_v vs 2)) (v_iv (n_v vs 7)) (v_iv (n_v vs 9)) (v_iv (n_v vs 11)) k2 k7 k9 k11 d0 d1 d2
  refine ⟨(fun _ h => (by cases h)), [], trivial, ?_, (fun _ h => (by cases h))⟩
  rw [List.append_nil]
  exact List.forall_mem_cons.mpr ⟨⟨show (20 : Nat) < 100 from by decide, nf0⟩, List.forall_mem_cons.mpr ⟨⟨show (20 : Nat) < 100 from by decide, nf1⟩, (fun _ h => (by cases h))⟩⟩
set_option maxHeartbeats 4000000 in
theorem vc_Fa_orderSmall_9_0 (x2 : Int) (x8 : Int) (x9 : Int) (x10 : Int) (x11 : Int) (x12 : Int) (least_0 : Int → Int) (rank_0 : Int → Int) (member_0 : Int → Int) (tail_0o1 : Int → Int) (weight_0o1 : Int → Int) (link_0o1 : Int → Int) (k2 : 2 ≤ x2 ∧ x2 ≤ 7) (k8 : 0 ≤ x8 ∧ x8 ≤ 127) (k9 : 0 ≤ x9 ∧ x9 ≤ 6) (k10 : 0 ≤ x10 ∧ x10 ≤ 1) (k11 : 2 ≤ x11 ∧ x11 ≤ 7) (k12 : 1 ≤ x12 ∧ x12 ≤ 7) (f0 : x12 = x9 + 1) (f1 : x2 ≤ x11) (f2 : OSK (least_0) (rank_0) (member_0) (tail_0o1) (weight_0o1) (link_0o1) (x8) (x9) (x2) (x11) (x10)) : OSL (least_0) (rank_0) (member_0) (tail_0o1) (weight_0o1) (link_0o1) (x8) (x12) (x2) := by
  first
    | exact osl_next ‹OSK _ _ _ _ _ _ _ _ _ _ _› (Or.inr (by omega)) (by omega)
    | exact osl_next ‹OSK _ _ _ _ _ _ _ _ _ _ _› (Or.inl (by omega)) (by omega)
set_option maxHeartbeats 4000000 in
theorem vc_Fa_orderSmall_9_1 (x2 : Int) (x7 : Int) (x9 : Int) (x11 : Int) (x12 : Int) (k2 : 2 ≤ x2 ∧ x2 ≤ 7) (k7 : 2 ≤ x7 ∧ x7 ≤ 7) (k9 : 0 ≤ x9 ∧ x9 ≤ 6) (k11 : 2 ≤ x11 ∧ x11 ≤ 7) (k12 : 1 ≤ x12 ∧ x12 ≤ 7) (d0 : x9 + 1 ≤ x12 ∧ x12 ≤ x9 + 1) (d2 : x7 + (-4294967296) ≤ x12 ∧ x12 ≤ x7 + 0) (d3 : x7 + 0 ≤ x11 ∧ x11 ≤ x7 + 4294967296) (d4 : x7 + (-4294967296) ≤ x2 ∧ x2 ≤ x7 + 0) (d5 : x2 + (-4294967296) ≤ x7 ∧ x7 ≤ x2 + 0) (d6 : x2 + (-4294967296) ≤ x9 ∧ x9 ≤ x2 + (-1)) (d8 : x2 + (-4294967296) ≤ x11 ∧ x11 ≤ x2 + 0) : x12 ≤ x2 := by
  first
    | omega
  
def o_Fa_orderSmall_9 : or_T := (87, 13, [(0, (2, 0, 0, [2])), (1, (2, 0, 0, [3])), (2, (0, 2, 7, [])), (3, (0, 0, 24, [])), (4, (0, 0, 24, [])), (5, (2, 0, 0, [2])), (6, (2, 0, 0, [3])), (7, (0, 2, 7, [])), (8, (0, 0, 127, [])), (9, (0, 0, 6, [])), (10, (0, 0, 1, [])), (11, (0, 2, 7, [])), (12, (0, 1, 7, []))], [(6, [12, 9], [1]), (7, [11, 7], [3]), (20, [5, 6, 8, 9, 7, 11, 10], [60, 0, 6, 715, 14, 12, 13, 1007, 1009, 1015]), (20, [9, 7, 11], [50, 0, 0, 2, 10, 0, 6, 4, 2, 1, 0, 0, 1, 1, 1, 0, 2, 1, 2, 1, 1]), (20, [5, 7], [60, 0, 1, 570, 13]), (20, [5, 3, 4, 7], [60, 0, 3, 716, 12, 11, 13]), (20, [7], [50, 0, 0, 2, 6, 0, 2, 0, 2, 1, 0, 0, 2, 1, 0, 0, 7]), (24, [0, 5], []), (24, [1, 6], []), (24, [2, 7], [])], [], [], [(20, [5, 6, 8, 12, 7], [60, 0, 6, 714, 14, 12, 13, 1007, 1009, 1015]), (20, [12, 7], [50, 0, 0, 0, 2, 1, 0, 1, 1])], [], [(12, 9, 1, 1), (12, 2, -4294967296, 0), (12, 7, -4294967296, 0), (11, 7, 0, 4294967296), (2, 7, -4294967296, 0), (7, 2, -4294967296, 0), (9, 2, -4294967296, -1), (9, 7, -4294967296, -1), (11, 2, -4294967296, 0), (11, 7, -4294967296, 0)])
theorem oo_Fa_orderSmall_9 {kA : Nat → ClassId} : or_ok PRD kA GG o_Fa_orderSmall_9 := by
  refine or_mk fun A ta ws vs hD hth hl => ?_
  intro t0 r0 t1 r1 t2 k2 t3 k3 t4 k4 t5 r5 t6 r6 t7 k7 t8 k8 t9 k9 t10 k10 t11 k11 t12 k12 d0 d1 d2 d3 d4 d5 d6 d7 d8 d9 f0 f1 f2 f3 f4 f5 f6 f7 f8 f9
  replace f0 := shm_4 f0
  replace f1 := shm_2 f1
  replace f2 := shm_1352 f2
  replace f7 := shm_5 f7
  replace f8 := shm_5 f8
  replace f9 := shm_5 f9
  have q5 : n_v vs 5 = n_v vs 0 := f7.symm
  have q6 : n_v vs 6 = n_v vs 1 := f8.symm
  have q7 : n_v vs 7 = n_v vs 2 := f9.symm
  simp only [q7, q5, q6] at f1 f2
  have nf0 : fc_1 PRD (20, [5, 6, 8, 12, 7], [60, 0, 6, 714, 14, 12, 13, 1007, 1009, 1015]) ws (vs) := by
    refine ⟨nf_in hl rfl, sgq_1349 ?_⟩
    · show OSL (w_ei ws (w_ar ws (n_v vs 5) 14)) (w_ei ws (w_ar ws (n_v vs 5) 12)) (w_ei ws (w_ar ws (n_v vs 5) 13)) (w_ei ws (w_ar ws (n_v vs 6) 7)) (w_ei ws (w_ar ws (n_v vs 6) 9)) (w_ei ws (w_ar ws (n_v vs 6) 15)) (v_iv (n_v vs 8)) (v_iv (n_v vs 12)) (v_iv (n_v vs 7))
      simp only [q5, q6, q7]
      exact vc_Fa_orderSmall_9_0 (v_iv (n_v vs 2)) (v_iv (n_v vs 8)) (v_iv (n_v vs 9)) (v_iv (n_v vs 10)) (v_iv (n_v vs 11)) (v_iv (n_v vs 12)) (w_ei ws (w_ar ws (n_v vs 0) 14)) (w_ei ws (w_ar ws (n_v vs 0) 12)) (w_ei ws (w_ar ws (n_v vs 0) 13)) (w_ei ws (w_ar ws (n_v vs 1) 7)) (w_ei ws (w_ar ws (n_v vs 1) 9)) (w_ei ws (w_ar ws (n_v vs 1) 15)) k2 k8 k9 k10 k11 k12 f0 f1 f2
  have nf1 : fc_1 PRD (20, [12, 7], [50, 0, 0, 0, 2, 1, 0, 1, 1]) ws (vs) := by
    refine ⟨nf_in hl rfl, sgq_360 ?_⟩
    · show v_iv (n_v vs 12) ≤ v_iv (n_v vs 7)
      rw [q7]
      exact vc_Fa_orderSmall_9_1 (v_iv (n_v vs 2)) (v_iv (n_v vs 7)) (v_iv (n_v vs 9)) (v_iv (n_v vs 11)) (v_iv (n_v vs 12)) k2 k7 k9 k11 k12 d0 d2 d3 d4 d5 d6 d8
  refine ⟨(fun _ h => (by cases h)), [], trivial, ?_, (fun _ h => (by cases h))⟩
  rw [List.append_nil]
  exact List.forall_mem_cons.mpr ⟨⟨show (20 : Nat) < 100 from by decide, nf0⟩, List.forall_mem_cons.mpr ⟨⟨show (20 : Nat) < 100 from by decide, nf1⟩, (fun _ h => (by cases h))⟩⟩
set_option maxHeartbeats 4000000 in
theorem vc_Fa_orderSmall_10_0 (x2 : Int) (x8 : Int) (x9 : Int) (x10 : Int) (x11 : Int) (x12 : Int) (least_0 : Int → Int) (rank_0 : Int → Int) (member_0 : Int → Int) (tail_0o1 : Int → Int) (weight_0o1 : Int → Int) (link_0o1 : Int → Int) (k2 : 2 ≤ x2 ∧ x2 ≤ 7) (k8 : 0 ≤ x8 ∧ x8 ≤ 127) (k9 : 0 ≤ x9 ∧ x9 ≤ 6) (k10 : 1 ≤ x10 ∧ x10 ≤ 1) (k11 : 1 ≤ x11 ∧ x11 ≤ 6) (k12 : 1 ≤ x12 ∧ x12 ≤ 7) (f0 : x12 = x9 + 1) (f1 : x10 ≠ 0) (f3 : OSK (least_0) (rank_0) (member_0) (tail_0o1) (weight_0o1) (link_0o1) (x8) (x9) (x2) (x11) (x10)) : OSL (least_0) (rank_0) (member_0) (tail_0o1) (weight_0o1) (link_0o1) (x8) (x12) (x2) := by
  first
    | exact osl_next ‹OSK _ _ _ _ _ _ _ _ _ _ _› (Or.inr (by omega)) (by omega)
    | exact osl_next ‹OSK _ _ _ _ _ _ _ _ _ _ _› (Or.inl (by omega)) (by omega)
set_option maxHeartbeats 4000000 in
theorem vc_Fa_orderSmall_10_1 (x2 : Int) (x7 : Int) (x9 : Int) (x12 : Int) (k2 : 2 ≤ x2 ∧ x2 ≤ 7) (k7 : 2 ≤ x7 ∧ x7 ≤ 7) (k9 : 0 ≤ x9 ∧ x9 ≤ 6) (k12 : 1 ≤ x12 ∧ x12 ≤ 7) (d0 : x9 + 1 ≤ x12 ∧ x12 ≤ x9 + 1) (d2 : x7 + (-4294967296) ≤ x12 ∧ x12 ≤ x7 + 0) (d4 : x7 + (-4294967296) ≤ x2 ∧ x2 ≤ x7 + 0) (d5 : x2 + (-4294967296) ≤ x7 ∧ x7 ≤ x2 + 0) (d6 : x2 + (-4294967296) ≤ x9 ∧ x9 ≤ x2 + (-1)) : x12 ≤ x2 := by
  first
    | omega
  
def o_Fa_orderSmall_10 : or_T := (87, 13, [(0, (2, 0, 0, [2])), (1, (2, 0, 0, [3])), (2, (0, 2, 7, [])), (3, (0, 0, 24, [])), (4, (0, 0, 24, [])), (5, (2, 0, 0, [2])), (6, (2, 0, 0, [3])), (7, (0, 2, 7, [])), (8, (0, 0, 127, [])), (9, (0, 0, 6, [])), (10, (0, 1, 1, [])), (11, (0, 1, 6, [])), (12, (0, 1, 7, []))], [(6, [12, 9], [1]), (8, [10], [1]), (7, [11, 7], [2]), (20, [5, 6, 8, 9, 7, 11, 10], [60, 0, 6, 715, 14, 12, 13, 1007, 1009, 1015]), (20, [9, 7, 11], [50, 0, 0, 2, 10, 0, 6, 4, 2, 1, 0, 0, 1, 1, 1, 0, 2, 1, 2, 1, 1]), (20, [5, 7], [60, 0, 1, 570, 13]), (20, [5, 3, 4, 7], [60, 0, 3, 716, 12, 11, 13]), (20, [7], [50, 0, 0, 2, 6, 0, 2, 0, 2, 1, 0, 0, 2, 1, 0, 0, 7]), (24, [0, 5], []), (24, [1, 6], []), (24, [2, 7], [])], [], [], [(20, [5, 6, 8, 12, 7], [60, 0, 6, 714, 14, 12, 13, 1007, 1009, 1015]), (20, [12, 7], [50, 0, 0, 0, 2, 1, 0, 1, 1])], [], [(12, 9, 1, 1), (12, 2, -4294967296, 0), (12, 7, -4294967296, 0), (11, 7, -4294967296, -1), (2, 7, -4294967296, 0), (7, 2, -4294967296, 0), (9, 2, -4294967296, -1), (9, 7, -4294967296, -1), (11, 2, -4294967296, 0), (11, 7, -4294967296, 0)])
theorem oo_Fa_orderSmall_10 {kA : Nat → ClassId} : or_ok PRD kA GG o_Fa_orderSmall_10 := by
  refine or_mk fun A ta ws vs hD hth hl => ?_
  intro t0 r0 t1 r1 t2 k2 t3 k3 t4 k4 t5 r5 t6 r6 t7 k7 t8 k8 t9 k9 t10 k10 t11 k11 t12 k12 d0 d1 d2 d3 d4 d5 d6 d7 d8 d9 f0 f1 f2 f3 f4 f5 f6 f7 f8 f9 f10
  replace f0 := shm_4 f0
  replace f1 := shm_142 f1
  replace f3 := shm_1352 f3
  replace f8 := shm_5 f8
  replace f9 := shm_5 f9
  replace f10 := shm_5 f10
  have q5 : n_v vs 5 = n_v vs 0 := f8.symm
  have q6 : n_v vs 6 = n_v vs 1 := f9.symm
  have q7 : n_v vs 7 = n_v vs 2 := f10.symm
  simp only [q7, q5, q6] at f3
  have nf0 : fc_1 PRD (20, [5, 6, 8, 12, 7], [60, 0, 6, 714, 14, 12, 13, 1007, 1009, 1015]) ws (vs) := by
    refine ⟨nf_in hl rfl, sgq_1349 ?_⟩
    · show OSL (w_ei ws (w_ar ws (n_v vs 5) 14)) (w_ei ws (w_ar ws (n_v vs 5) 12)) (w_ei ws (w_ar ws (n_v vs 5) 13)) (w_ei ws (w_ar ws (n_v vs 6) 7)) (w_ei ws (w_ar ws (n_v vs 6) 9)) (w_ei ws (w_ar ws (n_v vs 6) 15)) (v_iv (n_v vs 8)) (v_iv (n_v vs 12)) (v_iv (n_v vs 7))
      simp only [q5, q6, q7]
      exact vc_Fa_orderSmall_10_0 (v_iv (n_v vs 2)) (v_iv (n_v vs 8)) (v_iv (n_v vs 9)) (v_iv (n_v vs 10)) (v_iv (n_v vs 11)) (v_iv (n_v vs 12)) (w_ei ws (w_ar ws (n_v vs 0) 14)) (w_ei ws (w_ar ws (n_v vs 0) 12)) (w_ei ws (w_ar ws (n_v vs 0) 13)) (w_ei ws (w_ar ws (n_v vs 1) 7)) (w_ei ws (w_ar ws (n_v vs 1) 9)) (w_ei ws (w_ar ws (n_v vs 1) 15)) k2 k8 k9 k10 k11 k12 f0 f1 f3
  have nf1 : fc_1 PRD (20, [12, 7], [50, 0, 0, 0, 2, 1, 0, 1, 1]) ws (vs) := by
    refine ⟨nf_in hl rfl, sgq_360 ?_⟩
    · show v_iv (n_v vs 12) ≤ v_iv (n_v vs 7)
      rw [q7]
      exact vc_Fa_orderSmall_10_1 (v_iv (n_v vs 2)) (v_iv (n_v vs 7)) (v_iv (n_v vs 9)) (v_iv (n_v vs 12)) k2 k7 k9 k12 d0 d2 d4 d5 d6
  refine ⟨(fun _ h => (by cases h)), [], trivial, ?_, (fun _ h => (by cases h))⟩
  rw [List.append_nil]
  exact List.forall_mem_cons.mpr ⟨⟨show (20 : Nat) < 100 from by decide, nf0⟩, List.forall_mem_cons.mpr ⟨⟨show (20 : Nat) < 100 from by decide, nf1⟩, (fun _ h => (by cases h))⟩⟩
set_option maxHeartbeats 4000000 in
theorem vc_Fa_orderSmall_11_0 (x2 : Int) (x8 : Int) (x9 : Int) (x10 : Int) (x11 : Int) (x12 : Int) (x13 : Int) (x14 : Int) (x15 : Int) (least_0 : Int → Int) (rank_0 : Int → Int) (member_0 : Int → Int) (tail_0o1 : Int → Int) (weight_0o1 : Int → Int) (link_0o1 : Int → Int) (k2 : 2 ≤ x2 ∧ x2 ≤ 7) (k8 : 0 ≤ x8 ∧ x8 ≤ 127) (k9 : 0 ≤ x9 ∧ x9 ≤ 6) (k10 : 0 ≤ x10 ∧ x10 ≤ 0) (k11 : 0 ≤ x11 ∧ x11 ≤ 6) (k12 : 0 ≤ x12 ∧ x12 ≤ 127) (k13 : 1 ≤ x13 ∧ x13 ≤ 1) (k14 : 0 ≤ x14 ∧ x14 ≤ 0) (k15 : 1 ≤ x15 ∧ x15 ≤ 7) (d0 : x11 + 1 ≤ x15 ∧ x15 ≤ x11 + 1) (f0 : x15 = x11 + 1) (f3 : bvp (x14) = bvp (x12) &&& bvp (x13)) (f4 : bvp (x12) = bvp (x8) >>> (x11).toNat) (f5 : x10 = 0) (f7 : OSK (least_0) (rank_0) (member_0) (tail_0o1) (weight_0o1) (link_0o1) (x8) (x9) (x2) (x11) (x10)) : OSK (least_0) (rank_0) (member_0) (tail_0o1) (weight_0o1) (link_0o1) (x8) (x9) (x2) (x15) (x10) := by
  first
    | exact osk_skip ‹OSK _ _ _ _ _ _ _ _ _ _ _› (by omega) (fun q => by have b := (bit_one (s := x8) (t := x12) (c := x14) (v := x11) (one := x13) (by assumption) (by assumption) (by omega) (by omega) (by omega) (by omega)).1 q; omega) (by omega)
    | exact osk_skip ‹OSK _ _ _ _ _ _ _ _ _ _ _› (by omega) (fun _ => by have h := ‹CAP _ _ _ _ _ _ _ _ _›; unfold CAP at h; omega) (by omega)
set_option maxHeartbeats 4000000 in
theorem vc_Fa_orderSmall_11_1 (x2 : Int) (x7 : Int) (x9 : Int) (x11 : Int) (x15 : Int) (k2 : 2 ≤ x2 ∧ x2 ≤ 7) (k7 : 2 ≤ x7 ∧ x7 ≤ 7) (k9 : 0 ≤ x9 ∧ x9 ≤ 6) (k11 : 0 ≤ x11 ∧ x11 ≤ 6) (k15 : 1 ≤ x15 ∧ x15 ≤ 7) (d0 : x11 + 1 ≤ x15 ∧ x15 ≤ x11 + 1) (d1 : x7 + (-4294967296) ≤ x15 ∧ x15 ≤ x7 + 0) (d4 : x7 + (-4294967296) ≤ x11 ∧ x11 ≤ x7 + (-1)) (d5 : x7 + (-4294967296) ≤ x2 ∧ x2 ≤ x7 + 0) (d6 : x2 + (-4294967296) ≤ x7 ∧ x7 ≤ x2 + 0) (d7 : x2 + (-4294967296) ≤ x9 ∧ x9 ≤ x2 + (-1)) : ((x9 + 1) ≤ x2) ∧ (x15 ≤ x2) := by
  first
    | omega
  
def o_Fa_orderSmall_11 : or_T := (99, 16, [(2, (0, 2, 7, [])), (7, (0, 2, 7, [])), (8, (0, 0, 127, [])), (9, (0, 0, 6, [])), (10, (0, 0, 0, [])), (11, (0, 0, 6, [])), (12, (0, 0, 127, [])), (13, (0, 1, 1, [])), (14, (0, 0, 0, [])), (15, (0, 1, 7, []))], [(6, [15, 11], [1]), (16, [14, 12, 13], [0]), (16, [12, 8, 11], [4]), (8, [10], [0]), (20, [5, 6, 8, 9, 7, 11, 10], [60, 0, 6, 715, 14, 12, 13, 1007, 1009, 1015]), (24, [0, 5], []), (24, [1, 6], []), (24, [2, 7], [])], [], [], [(20, [5, 6, 8, 9, 7, 15, 10], [60, 0, 6, 715, 14, 12, 13, 1007, 1009, 1015]), (20, [9, 7, 15], [50, 0, 0, 2, 10, 0, 6, 4, 2, 1, 0, 0, 1, 1, 1, 0, 2, 1, 2, 1, 1])], [], [(15, 11, 1, 1), (15, 7, -4294967296, 0), (11, 7, -4294967296, -1), (2, 7, -4294967296, 0), (7, 2, -4294967296, 0), (9, 2, -4294967296, -1)])
theorem oo_Fa_orderSmall_11 {kA : Nat → ClassId} : or_ok PRD kA GG o_Fa_orderSmall_11 := by
  refine or_mk fun A ta ws vs hD hth hl => ?_
  intro t2 k2 t7 k7 t8 k8 t9 k9 t10 k10 t11 k11 t12 k12 t13 k13 t14 k14 t15 k15 d0 d1 d4 d5 d6 d7 f0 f3 f4 f5 f7 f12 f13 f14
  replace f0 := shm_4 f0
  replace f3 := shm_11 f3
  replace f4 := shm_13 f4
  replace f5 := shm_192 f5
  replace f7 := shm_1352 f7
  replace f12 := shm_5 f12
  replace f13 := shm_5 f13
  replace f14 := shm_5 f14
  have q5 : n_v vs 5 = n_v vs 0 := f12.symm
  have q6 : n_v vs 6 = n_v vs 1 := f13.symm
  have q7 : n_v vs 7 = n_v vs 2 := f14.symm
  simp only [q7, q5, q6] at f7
  have nf0 : fc_1 PRD (20, [5, 6, 8, 9, 7, 15, 10], [60, 0, 6, 715, 14, 12, 13, 1007, 1009, 1015]) ws (vs) := by
    refine ⟨nf_in hl rfl, sgq_1352 ?_⟩
    · show OSK (w_ei ws (w_ar ws (n_v vs 5) 14)) (w_ei ws (w_ar ws (n_v vs 5) 12)) (w_ei ws (w_ar ws (n_v vs 5) 13)) (w_ei ws (w_ar ws (n_v vs 6) 7)) (w_ei ws (w_ar ws (n_v vs 6) 9)) (w_ei ws (w_ar ws (n_v vs 6) 15)) (v_iv (n_v vs 8)) (v_iv (n_v vs 9)) (v_iv (n_v vs 7)) (v_iv (n_v vs 15)) (v_iv (n_v vs 10))
      simp only [q5, q6, q7]
      exact vc_Fa_orderSmall_11_0 (v_iv (n_v vs 2)) (v_iv (n_v vs 8)) (v_iv (n_v vs 9)) (v_iv (n_v vs 10)) (v_iv (n_v vs 11)) (v_iv (n_v vs 12)) (v_iv (n_v vs 13)) (v_iv (n_v vs 14)) (v_iv (n_v vs 15)) (w_ei ws (w_ar ws (n_v vs 0) 14)) (w_ei ws (w_ar ws (n_v vs 0) 12)) (w_ei ws (w_ar ws (n_v vs 0) 13)) (w_ei ws (w_ar ws (n_v vs 1) 7)) (w_ei ws (w_ar ws (n_v vs 1) 9)) (w_ei ws (w_ar ws (n_v vs 1) 15)) k2 k8 k9 k10 k11 k12 k13 k14 k15 d0 f0 f3 f4 f5 f7
  have nf1 : fc_1 PRD (20, [9, 7, 15], [50, 0, 0, 2, 10, 0, 6, 4, 2, 1, 0, 0, 1, 1, 1, 0, 2, 1, 2, 1, 1]) ws (vs) := by
    refine ⟨nf_in hl rfl, sgq_1353 ?_⟩
    · show ((v_iv (n_v vs 9) + 1) ≤ v_iv (n_v vs 7)) ∧ (v_iv (n_v vs 15) ≤ v_iv (n_v vs 7))
      rw [q7]
      exact vc_Fa_orderSmall_11_1 (v_iv (n_v vs 2)) (v_iv (n_v vs 7)) (v_iv (n_v vs 9)) (v_iv (n_v vs 11)) (v_iv (n_v vs 15)) k2 k7 k9 k11 k15 d0 d1 d4 d5 d6 d7
  refine ⟨(fun _ h => (by cases h)), [], trivial, ?_, (fun _ h => (by cases h))⟩
  rw [List.append_nil]
  exact List.forall_mem_cons.mpr ⟨⟨show (20 : Nat) < 100 from by decide, nf0⟩, List.forall_mem_cons.mpr ⟨⟨show (20 : Nat) < 100 from by decide, nf1⟩, (fun _ h => (by cases h))⟩⟩
set_option maxHeartbeats 4000000 in
theorem vc_Fa_orderSmall_12_0 (x8 : Int) (x9 : Int) (x10 : Int) (x11 : Int) (x12 : Int) (x13 : Int) (x14 : Int) (k8 : 0 ≤ x8 ∧ x8 ≤ 127) (k11 : 0 ≤ x11 ∧ x11 ≤ 6) (k12 : 0 ≤ x12 ∧ x12 ≤ 127) (k13 : 1 ≤ x13 ∧ x13 ≤ 1) (k14 : 1 ≤ x14 ∧ x14 ≤ 1) (f2 : bvp (x14) = bvp (x12) &&& bvp (x13)) (f3 : bvp (x12) = bvp (x8) >>> (x11).toNat) : BBT (x8) (x11) := by
  first
    | exact (bit_one (s := x8) (t := x10) (c := x12) (v := x9) (one := x11) (by assumption) (by assumption) (by omega) (by omega) (by omega) (by omega)).2 (by omega)
    | exact (bit_one (s := x8) (t := x12) (c := x14) (v := x11) (one := x13) (by assumption) (by assumption) (by omega) (by omega) (by omega) (by omega)).2 (by omega)
set_option maxHeartbeats 4000000 in
theorem vc_Fa_orderSmall_12_1 (x2 : Int) (x7 : Int) (x8 : Int) (x11 : Int) (k2 : 2 ≤ x2 ∧ x2 ≤ 7) (k7 : 2 ≤ x7 ∧ x7 ≤ 7) (k8 : 0 ≤ x8 ∧ x8 ≤ 127) (k11 : 0 ≤ x11 ∧ x11 ≤ 6) (d0 : x7 + (-4294967296) ≤ x11 ∧ x11 ≤ x7 + (-1)) (d1 : x7 + (-4294967296) ≤ x2 ∧ x2 ≤ x7 + 0) (d2 : x2 + (-4294967296) ≤ x7 ∧ x7 ≤ x2 + 0) : (x8 ≤ 127) ∧ (((x11 + 1) ≤ x2) ∧ (x2 ≤ 7)) := by
  first
    | omega
  
def o_Fa_orderSmall_12 : or_T := (125, 15, [(2, (0, 2, 7, [])), (7, (0, 2, 7, [])), (8, (0, 0, 127, [])), (11, (0, 0, 6, [])), (12, (0, 0, 127, [])), (13, (0, 1, 1, [])), (14, (0, 1, 1, []))], [(16, [14, 12, 13], [0]), (16, [12, 8, 11], [4]), (24, [2, 7], [])], [], [], [(20, [8, 11], [61, 0, 705]), (20, [8, 11, 7], [50, 0, 0, 2, 6, 0, 2, 1, 0, 0, 127, 2, 10, 0, 6, 4, 2, 1, 1, 0, 1, 1, 2, 0, 2, 1, 2, 0, 7])], [], [(11, 7, -4294967296, -1), (2, 7, -4294967296, 0), (7, 2, -4294967296, 0)])
theorem oo_Fa_orderSmall_12 {kA : Nat → ClassId} : or_ok PRD kA GG o_Fa_orderSmall_12 := by
  refine or_mk fun A ta ws vs hD hth hl => ?_
  intro t2 k2 t7 k7 t8 k8 t11 k11 t12 k12 t13 k13 t14 k14 d0 d1 d2 f2 f3 f13
  replace f2 := shm_11 f2
  replace f3 := shm_13 f3
  replace f13 := shm_5 f13
  have q7 : n_v vs 7 = n_v vs 2 := f13.symm
  have nf0 : fc_1 PRD (20, [8, 11], [61, 0, 705]) ws (vs) := ⟨nf_in hl rfl, sgq_1083 (vc_Fa_orderSmall_12_0 (v_iv (n_v vs 8)) (v_iv (n_v vs 9)) (v_iv (n_v vs 10)) (v_iv (n_v vs 11)) (v_iv (n_v vs 12)) (v_iv (n_v vs 13)) (v_iv (n_v vs 14)) k8 k11 k12 k13 k14 f2 f3)⟩
  have nf1 : fc_1 PRD (20, [8, 11, 7], [50, 0, 0, 2, 6, 0, 2, 1, 0, 0, 127, 2, 10, 0, 6, 4, 2, 1, 1, 0, 1, 1, 2, 0, 2, 1, 2, 0, 7]) ws (vs) := by
    refine ⟨nf_in hl rfl, sgq_1084 ?_⟩
    · show (v_iv (n_v vs 8) ≤ 127) ∧ (((v_iv (n_v vs 11) + 1) ≤ v_iv (n_v vs 7)) ∧ (v_iv (n_v vs 7) ≤ 7))
      rw [q7]
      exact vc_Fa_orderSmall_12_1 (v_iv (n_v vs 2)) (v_iv (n_v vs 7)) (v_iv (n_v vs 8)) (v_iv (n_v vs 11)) k2 k7 k8 k11 d0 d1 d2
  refine ⟨(fun _ h => (by cases h)), [], trivial, ?_, (fun _ h => (by cases h))⟩
  rw [List.append_nil]
  exact List.forall_mem_cons.mpr ⟨⟨show (20 : Nat) < 100 from by decide, nf0⟩, List.forall_mem_cons.mpr ⟨⟨show (20 : Nat) < 100 from by decide, nf1⟩, (fun _ h => (by cases h))⟩⟩
set_option maxHeartbeats 4000000 in
theorem vc_Fa_orderSmall_13_0 (x2 : Int) (x8 : Int) (x9 : Int) (x10 : Int) (x11 : Int) (x12 : Int) (x13 : Int) (x14 : Int) (x15 : Int) (x17 : Int) (x18 : Int) (least_0 : Int → Int) (member_0 : Int → Int) (tail_0o1 : Int → Int) (weight_0o1 : Int → Int) (link_0o1 : Int → Int) (rank_0 : Int → Int) (k2 : 2 ≤ x2 ∧ x2 ≤ 7) (k8 : 0 ≤ x8 ∧ x8 ≤ 127) (k9 : 0 ≤ x9 ∧ x9 ≤ 6) (k10 : 0 ≤ x10 ∧ x10 ≤ 0) (k11 : 0 ≤ x11 ∧ x11 ≤ 6) (k14 : 1 ≤ x14 ∧ x14 ≤ 1) (k15 : 0 ≤ x15 ∧ x15 ≤ 1048575) (k17 : 0 ≤ x17 ∧ x17 ≤ 1000000) (k18 : 1 ≤ x18 ∧ x18 ≤ 7) (f0 : x18 = x11 + 1) (f1 : x15 ≠ x17) (h2 : x17 = least_0 (x8)) (f4 : CAP (least_0) (member_0) (tail_0o1) (weight_0o1) (link_0o1) (x8) (x11) (x2) (x15)) (f7 : x14 ≠ 0) (f11 : x10 = 0) (f13 : OSK (least_0) (rank_0) (member_0) (tail_0o1) (weight_0o1) (link_0o1) (x8) (x9) (x2) (x11) (x10)) : OSK (least_0) (rank_0) (member_0) (tail_0o1) (weight_0o1) (link_0o1) (x8) (x9) (x2) (x18) (x10) := by
  first
    | exact osk_skip ‹OSK _ _ _ _ _ _ _ _ _ _ _› (by omega) (fun _ => by have h := ‹CAP _ _ _ _ _ _ _ _ _›; unfold CAP at h; omega) (by omega)
set_option maxHeartbeats 4000000 in
theorem vc_Fa_orderSmall_13_1 (x2 : Int) (x7 : Int) (x9 : Int) (x11 : Int) (x18 : Int) (k2 : 2 ≤ x2 ∧ x2 ≤ 7) (k7 : 2 ≤ x7 ∧ x7 ≤ 7) (k9 : 0 ≤ x9 ∧ x9 ≤ 6) (k11 : 0 ≤ x11 ∧ x11 ≤ 6) (k18 : 1 ≤ x18 ∧ x18 ≤ 7) (d0 : x11 + 1 ≤ x18 ∧ x18 ≤ x11 + 1) (d1 : x7 + (-4294967296) ≤ x18 ∧ x18 ≤ x7 + 0) (d4 : x7 + (-4294967296) ≤ x11 ∧ x11 ≤ x7 + (-1)) (d5 : x7 + (-4294967296) ≤ x2 ∧ x2 ≤ x7 + 0) (d6 : x2 + (-4294967296) ≤ x7 ∧ x7 ≤ x2 + 0) (d7 : x2 + (-4294967296) ≤ x9 ∧ x9 ≤ x2 + (-1)) : ((x9 + 1) ≤ x2) ∧ (x18 ≤ x2) := by
  first
    | omega
  
def o_Fa_orderSmall_13 : or_T := (99, 19, [(2, (0, 2, 7, [])), (7, (0, 2, 7, [])), (8, (0, 0, 127, [])), (9, (0, 0, 6, [])), (10, (0, 0, 0, [])), (11, (0, 0, 6, [])), (14, (0, 1, 1, [])), (15, (0, 0, 1048575, [])), (17, (0, 0, 1000000, [])), (18, (0, 1, 7, []))], [(6, [18, 11], [1]), (7, [15, 17], [1]), (10, [17, 16, 8], []), (9, [16, 5], [14]), (20, [5, 6, 8, 11, 7, 15], [60, 0, 5, 711, 14, 13, 1007, 1009, 1015]), (8, [14], [1]), (8, [10], [0]), (20, [5, 6, 8, 9, 7, 11, 10], [60, 0, 6, 715, 14, 12, 13, 1007, 1009, 1015]), (24, [0, 5], []), (24, [1, 6], []), (24, [2, 7], [])], [], [], [(20, [5, 6, 8, 9, 7, 18, 10], [60, 0, 6, 715, 14, 12, 13, 1007, 1009, 1015]), (20, [9, 7, 18], [50, 0, 0, 2, 10, 0, 6, 4, 2, 1, 0, 0, 1, 1, 1, 0, 2, 1, 2, 1, 1])], [], [(18, 11, 1, 1), (18, 7, -4294967296, 0), (11, 7, -4294967296, -1), (2, 7, -4294967296, 0), (7, 2, -4294967296, 0), (9, 2, -4294967296, -1)])
theorem oo_Fa_orderSmall_13 {kA : Nat → ClassId} : or_ok PRD kA GG o_Fa_orderSmall_13 := by
  refine or_mk fun A ta ws vs hD hth hl => ?_
  intro t2 k2 t7 k7 t8 k8 t9 k9 t10 k10 t11 k11 t14 k14 t15 k15 t17 k17 t18 k18 d0 d1 d4 d5 d6 d7 f0 f1 f2 f3 f4 f7 f11 f13 f18 f19 f20
  replace f0 := shm_4 f0
  replace f1 := shm_40 f1
  replace f2 := shm_107 f2
  replace f3 := shm_115 f3
  replace f4 := shm_1086 f4
  replace f7 := shm_142 f7
  replace f11 := shm_192 f11
  replace f13 := shm_1352 f13
  replace f18 := shm_5 f18
  replace f19 := shm_5 f19
  replace f20 := shm_5 f20
  have q5 : n_v vs 5 = n_v vs 0 := f18.symm
  have q6 : n_v vs 6 = n_v vs 1 := f19.symm
  have q7 : n_v vs 7 = n_v vs 2 := f20.symm
  simp only [q5, q6, q7] at f3 f4 f13
  have ad_16 : v_ad (n_v vs 16) = w_ar ws (n_v vs 0) 14 := congrArg v_ad f3
  simp only [ad_16] at f2
  have h2 : v_iv (n_v vs 17) = w_ei ws (w_ar ws (n_v vs 0) 14) (v_iv (n_v vs 8)) := f2
  have nf0 : fc_1 PRD (20, [5, 6, 8, 9, 7, 18, 10], [60, 0, 6, 715, 14, 12, 13, 1007, 1009, 1015]) ws (vs) := by
    refine ⟨nf_in hl rfl, sgq_1352 ?_⟩
    · show OSK (w_ei ws (w_ar ws (n_v vs 5) 14)) (w_ei ws (w_ar ws (n_v vs 5) 12)) (w_ei ws (w_ar ws (n_v vs 5) 13)) (w_ei ws (w_ar ws (n_v vs 6) 7)) (w_ei ws (w_ar ws (n_v vs 6) 9)) (w_ei ws (w_ar ws (n_v vs 6) 15)) (v_iv (n_v vs 8)) (v_iv (n_v vs 9)) (v_iv (n_v vs 7)) (v_iv (n_v vs 18)) (v_iv (n_v vs 10))
      simp only [q5, q6, q7]
      exact vc_Fa_orderSmall_13_0 (v_iv (n_v vs 2)) (v_iv (n_v vs 8)) (v_iv (n_v vs 9)) (v_iv (n_v vs 10)) (v_iv (n_v vs 11)) (v_iv (n_v vs 12)) (v_iv (n_v vs 13)) (v_iv (n_v vs 14)) (v_iv (n_v vs 15)) (v_iv (n_v vs 17)) (v_iv (n_v vs 18)) (w_ei ws (w_ar ws (n_v vs 0) 14)) (w_ei ws (w_ar ws (n_v vs 0) 13)) (w_ei ws (w_ar ws (n_v vs 1) 7)) (w_ei ws (w_ar ws (n_v vs 1) 9)) (w_ei ws (w_ar ws (n_v vs 1) 15)) (w_ei ws (w_ar ws (n_v vs 0) 12)) k2 k8 k9 k10 k11 k14 k15 k17 k18 f0 f1 h2 f4 f7 f11 f13
  have nf1 : fc_1 PRD (20, [9, 7, 18], [50, 0, 0, 2, 10, 0, 6, 4, 2, 1, 0, 0, 1, 1, 1, 0, 2, 1, 2, 1, 1]) ws (vs) := by
    refine ⟨nf_in hl rfl, sgq_1353 ?_⟩
    · show ((v_iv (n_v vs 9) + 1) ≤ v_iv (n_v vs 7)) ∧ (v_iv (n_v vs 18) ≤ v_iv (n_v vs 7))
      rw [q7]
      exact vc_Fa_orderSmall_13_1 (v_iv (n_v vs 2)) (v_iv (n_v vs 7)) (v_iv (n_v vs 9)) (v_iv (n_v vs 11)) (v_iv (n_v vs 18)) k2 k7 k9 k11 k18 d0 d1 d4 d5 d6 d7
  refine ⟨(fun _ h => (by cases h)), [], trivial, ?_, (fun _ h => (by cases h))⟩
  rw [List.append_nil]
  exact List.forall_mem_cons.mpr ⟨⟨show (20 : Nat) < 100 from by decide, nf0⟩, List.forall_mem_cons.mpr ⟨⟨show (20 : Nat) < 100 from by decide, nf1⟩, (fun _ h => (by cases h))⟩⟩
set_option maxHeartbeats 4000000 in
theorem vc_Fa_orderSmall_14_0 (x2 : Int) (x8 : Int) (x9 : Int) (x10 : Int) (x11 : Int) (x12 : Int) (x13 : Int) (x14 : Int) (x20 : Int) (x21 : Int) (x22 : Int) (x23 : Int) (x24 : Int) (x25 : Int) (x26 : Int) (x27 : Int) (least_0 : Int → Int) (member_0 : Int → Int) (tail_0o1 : Int → Int) (weight_0o1 : Int → Int) (link_0o1 : Int → Int) (member_1 : Int → Int) (least_1 : Int → Int) (tail_1o1 : Int → Int) (weight_1o1 : Int → Int) (link_1o1 : Int → Int) (rank_1 : Int → Int) (loop_1 : Int → Int) (loop_0 : Int → Int) (rank_0 : Int → Int) (k2 : 2 ≤ x2 ∧ x2 ≤ 7) (k8 : 0 ≤ x8 ∧ x8 ≤ 127) (k9 : 0 ≤ x9 ∧ x9 ≤ 6) (k10 : 0 ≤ x10 ∧ x10 ≤ 0) (k11 : 0 ≤ x11 ∧ x11 ≤ 6) (k20 : 0 ≤ x20 ∧ x20 ≤ 23) (k21 : 1 ≤ x21 ∧ x21 ≤ 1) (k22 : 1 ≤ x22 ∧ x22 ≤ 64) (k23 : (-1) ≤ x23 ∧ x23 ≤ (-1)) (k24 : (-2147483648) ≤ x24 ∧ x24 ≤ 2147483647) (k25 : 0 ≤ x25 ∧ x25 ≤ 127) (k26 : 1 ≤ x26 ∧ x26 ≤ 1) (k27 : 1 ≤ x27 ∧ x27 ≤ 7) (f3 : x27 = x11 + 1) (f4 : bvp (x25) = bvp (x8) &&& bvp (x24)) (f5 : bvp (x24) = bvp (x22) ^^^ bvp (x23)) (f6 : bvp (x22) = bvp (x21) <<< (x11).toNat) (h17 : x20 = member_1 (x11)) (f21 : BBT (x8) (x11)) (f27 : x10 = 0) (f28 : x11 < x2) (f29 : OSK (least_1) (rank_1) (member_1) (tail_1o1) (weight_1o1) (link_1o1) (x8) (x9) (x2) (x11) (x10)) (hE_0_11_1 : ∀ j : Int, loop_0 j = loop_1 j) (hE_0_12_1 : ∀ j : Int, 0 ≤ j → (j = x20 → rank_0 j = x9) ∧ (j ≠ x20 → rank_0 j = rank_1 j)) (hE_0_13_1 : ∀ j : Int, member_0 j = member_1 j) (hE_0_14_1 : ∀ j : Int, least_0 j = least_1 j) (hE_1_7_1 : ∀ j : Int, tail_0o1 j = tail_1o1 j) (hE_1_9_1 : ∀ j : Int, weight_0o1 j = weight_1o1 j) (hE_1_15_1 : ∀ j : Int, link_0o1 j = link_1o1 j) : OSK (least_0) (rank_0) (member_0) (tail_0o1) (weight_0o1) (link_0o1) (x25) (x9) (x2) (x27) (x26) := by
  have e_hE_0_11_1 := funext hE_0_11_1; subst e_hE_0_11_1
  have e_hE_0_13_1 := funext hE_0_13_1; subst e_hE_0_13_1
  have e_hE_0_14_1 := funext hE_0_14_1; subst e_hE_0_14_1
  have e_hE_1_7_1 := funext hE_1_7_1; subst e_hE_1_7_1
  have e_hE_1_9_1 := funext hE_1_9_1; subst e_hE_1_9_1
  have e_hE_1_15_1 := funext hE_1_15_1; subst e_hE_1_15_1
  first
    | exact osk_take (p := x20) (x := x9) (y := x20) (q := x22) (r := x24) (m1 := x23) (one := x21) ‹OSK _ _ _ _ _ _ _ _ _ _ _› (by omega) (by omega) ‹BBT _ _› hE_0_12_1 rfl (by assumption) rfl (by assumption) (by omega) (by assumption) (by omega) (by assumption) (by omega) (by omega) (by omega) (by omega)
set_option maxHeartbeats 4000000 in
theorem vc_Fa_orderSmall_14_1 (x2 : Int) (x7 : Int) (x9 : Int) (x11 : Int) (x27 : Int) (least_0 : Int → Int) (member_0 : Int → Int) (tail_0o1 : Int → Int) (weight_0o1 : Int → Int) (link_0o1 : Int → Int) (member_1 : Int → Int) (least_1 : Int → Int) (tail_1o1 : Int → Int) (weight_1o1 : Int → Int) (link_1o1 : Int → Int) (loop_1 : Int → Int) (loop_0 : Int → Int) (k2 : 2 ≤ x2 ∧ x2 ≤ 7) (k7 : 2 ≤ x7 ∧ x7 ≤ 7) (k9 : 0 ≤ x9 ∧ x9 ≤ 6) (k11 : 0 ≤ x11 ∧ x11 ≤ 6) (k27 : 1 ≤ x27 ∧ x27 ≤ 7) (d0 : x11 + 1 ≤ x27 ∧ x27 ≤ x11 + 1) (d1 : x7 + (-4294967296) ≤ x27 ∧ x27 ≤ x7 + 0) (d5 : x7 + (-4294967296) ≤ x11 ∧ x11 ≤ x7 + (-1)) (d6 : x7 + (-4294967296) ≤ x2 ∧ x2 ≤ x7 + 0) (d7 : x2 + (-4294967296) ≤ x7 ∧ x7 ≤ x2 + 0) (d8 : x2 + (-4294967296) ≤ x9 ∧ x9 ≤ x2 + (-1)) (hE_0_11_1 : ∀ j : Int, loop_0 j = loop_1 j) (hE_0_13_1 : ∀ j : Int, member_0 j = member_1 j) (hE_0_14_1 : ∀ j : Int, least_0 j = least_1 j) (hE_1_7_1 : ∀ j : Int, tail_0o1 j = tail_1o1 j) (hE_1_9_1 : ∀ j : Int, weight_0o1 j = weight_1o1 j) (hE_1_15_1 : ∀ j : Int, link_0o1 j = link_1o1 j) : ((x9 + 1) ≤ x2) ∧ (x27 ≤ x2) := by
  have e_hE_0_11_1 := funext hE_0_11_1; subst e_hE_0_11_1
  have e_hE_0_13_1 := funext hE_0_13_1; subst e_hE_0_13_1
  have e_hE_0_14_1 := funext hE_0_14_1; subst e_hE_0_14_1
  have e_hE_1_7_1 := funext hE_1_7_1; subst e_hE_1_7_1
  have e_hE_1_9_1 := funext hE_1_9_1; subst e_hE_1_9_1
  have e_hE_1_15_1 := funext hE_1_15_1; subst e_hE_1_15_1
  first
    | omega
  
set_option maxHeartbeats 4000000 in
theorem vc_Fa_orderSmall_14_2 (x2 : Int) (x3 : Int) (x4 : Int) (x9 : Int) (x11 : Int) (x20 : Int) (x27 : Int) (least_0 : Int → Int) (member_0 : Int → Int) (tail_0o1 : Int → Int) (weight_0o1 : Int → Int) (link_0o1 : Int → Int) (member_1 : Int → Int) (least_1 : Int → Int) (tail_1o1 : Int → Int) (weight_1o1 : Int → Int) (link_1o1 : Int → Int) (rank_1 : Int → Int) (loop_1 : Int → Int) (loop_0 : Int → Int) (rank_0 : Int → Int) (k2 : 2 ≤ x2 ∧ x2 ≤ 7) (k3 : 0 ≤ x3 ∧ x3 ≤ 24) (k4 : 0 ≤ x4 ∧ x4 ≤ 24) (k9 : 0 ≤ x9 ∧ x9 ≤ 6) (k11 : 0 ≤ x11 ∧ x11 ≤ 6) (k20 : 0 ≤ x20 ∧ x20 ≤ 23) (k27 : 1 ≤ x27 ∧ x27 ≤ 7) (d0 : x11 + 1 ≤ x27 ∧ x27 ≤ x11 + 1) (h17 : x20 = member_1 (x11)) (f28 : x11 < x2) (f32 : RKM (rank_1) (loop_1) (member_1) (x3) (x4) (x2)) (hE_0_11_1 : ∀ j : Int, loop_0 j = loop_1 j) (hE_0_12_1 : ∀ j : Int, 0 ≤ j → (j = x20 → rank_0 j = x9) ∧ (j ≠ x20 → rank_0 j = rank_1 j)) (hE_0_13_1 : ∀ j : Int, member_0 j = member_1 j) (hE_0_14_1 : ∀ j : Int, least_0 j = least_1 j) (hE_1_7_1 : ∀ j : Int, tail_0o1 j = tail_1o1 j) (hE_1_9_1 : ∀ j : Int, weight_0o1 j = weight_1o1 j) (hE_1_15_1 : ∀ j : Int, link_0o1 j = link_1o1 j) : RKM (rank_0) (loop_0) (member_0) (x3) (x4) (x2) := by
  have e_hE_0_11_1 := funext hE_0_11_1; subst e_hE_0_11_1
  have e_hE_0_13_1 := funext hE_0_13_1; subst e_hE_0_13_1
  have e_hE_0_14_1 := funext hE_0_14_1; subst e_hE_0_14_1
  have e_hE_1_7_1 := funext hE_1_7_1; subst e_hE_1_7_1
  have e_hE_1_9_1 := funext hE_1_9_1; subst e_hE_1_9_1
  have e_hE_1_15_1 := funext hE_1_15_1; subst e_hE_1_15_1
  first
    | exact rkm_set (s := x11) ‹RKM _ _ _ _ _ _› hE_0_12_1 rfl (by assumption) (by omega) (by omega)
def o_Fa_orderSmall_14 : or_T := (99, 28, [(0, (2, 0, 0, [2])), (1, (2, 0, 0, [3])), (2, (0, 2, 7, [])), (3, (0, 0, 24, [])), (4, (0, 0, 24, [])), (7, (0, 2, 7, [])), (8, (0, 0, 127, [])), (9, (0, 0, 6, [])), (10, (0, 0, 0, [])), (11, (0, 0, 6, [])), (18, (2, 0, 0, [45])), (20, (0, 0, 23, [])), (21, (0, 1, 1, [])), (22, (0, 1, 64, [])), (23, (0, -1, -1, [])), (24, (0, -2147483648, 2147483647, [])), (25, (0, 0, 127, [])), (26, (0, 1, 1, [])), (27, (0, 1, 7, []))], [(9, [19, 5], [13]), (9, [18, 5], [12]), (6, [27, 11], [1]), (16, [25, 8, 24], [0]), (16, [24, 22, 23], [2]), (16, [22, 21, 11], [3]), (24, [0, 5], []), (24, [1, 6], []), (24, [2, 7], []), (100, [18, 20, 9], []), (10, [20, 19, 11], []), (20, [8, 11], [61, 0, 705]), (8, [10], [0]), (7, [11, 7], [2]), (20, [5, 6, 8, 9, 7, 11, 10], [60, 0, 6, 715, 14, 12, 13, 1007, 1009, 1015]), (20, [5, 3, 4, 7], [60, 0, 3, 716, 12, 11, 13])], [], [], [(20, [5, 6, 25, 9, 7, 27, 26], [60, 0, 6, 715, 14, 12, 13, 1007, 1009, 1015]), (20, [9, 7, 27], [50, 0, 0, 2, 10, 0, 6, 4, 2, 1, 0, 0, 1, 1, 1, 0, 2, 1, 2, 1, 1]), (20, [5, 3, 4, 7], [60, 0, 3, 716, 12, 11, 13])], [], [(27, 11, 1, 1), (27, 7, -4294967296, 0), (11, 7, -4294967296, -1), (2, 7, -4294967296, 0), (7, 2, -4294967296, 0), (9, 2, -4294967296, -1), (9, 7, -4294967296, -1)])
theorem oo_Fa_orderSmall_14 {kA : Nat → ClassId} : or_ok PRD kA GG o_Fa_orderSmall_14 := by
  refine or_mk fun A ta ws vs hD hth hl => ?_
  intro t0 r0 t1 r1 t2 k2 t3 k3 t4 k4 t7 k7 t8 k8 t9 k9 t10 k10 t11 k11 t18 r18 t20 k20 t21 k21 t22 k22 t23 k23 t24 k24 t25 k25 t26 k26 t27 k27 d0 d1 d5 d6 d7 d8 d9 f0 f1 f3 f4 f5 f6 f13 f14 f15 ta1 w1 le1 s1 f17 f21 f27 f28 f29 f32
  replace f0 := shm_361 f0
  replace f1 := shm_103 f1
  replace f3 := shm_4 f3
  replace f4 := shm_11 f4
  replace f5 := shm_33 f5
  replace f6 := shm_349 f6
  replace f13 := shm_5 f13
  replace f14 := shm_5 f14
  replace f15 := shm_5 f15
  have s1 : (∀ b j, w_el ws b j = if b = v_ad (n_v vs 18) ∧ j = (v_iv (n_v vs 20)).toNat then v_iv (n_v vs 9) else w_el w1 b j) ∧ ∀ b k, w_fd ws b k = w_fd w1 b k := s1.2
  replace f17 := shm_107 f17
  replace f21 := shm_1083 f21
  replace f27 := shm_192 f27
  replace f28 := shm_6 f28
  replace f29 := shm_1352 f29
  replace f32 := shm_1346 f32
  have q5 : n_v vs 5 = n_v vs 0 := f13.symm
  have q6 : n_v vs 6 = n_v vs 1 := f14.symm
  have q7 : n_v vs 7 = n_v vs 2 := f15.symm
  simp only [q5, q6, q7] at f0 f1 f28 f29 f32
  have ar_0_11_1 : w_ar w1 (n_v vs 0) 11 = w_ar ws (n_v vs 0) 11 := congrArg v_ad (s1.2 _ _).symm
  have cr_0_11 := fdq_63 hD hth r0
  have ar_0_12_1 : w_ar w1 (n_v vs 0) 12 = w_ar ws (n_v vs 0) 12 := congrArg v_ad (s1.2 _ _).symm
  have ar_0_13_1 : w_ar w1 (n_v vs 0) 13 = w_ar ws (n_v vs 0) 13 := congrArg v_ad (s1.2 _ _).symm
  have cr_0_13 := fdq_64 hD hth r0
  have ar_0_14_1 : w_ar w1 (n_v vs 0) 14 = w_ar ws (n_v vs 0) 14 := congrArg v_ad (s1.2 _ _).symm
  have cr_0_14 := fdq_247 hD hth r0
  have ar_1_7_1 : w_ar w1 (n_v vs 1) 7 = w_ar ws (n_v vs 1) 7 := congrArg v_ad (s1.2 _ _).symm
  have cr_1_7 := fdq_46 hD hth r1
  have ar_1_9_1 : w_ar w1 (n_v vs 1) 9 = w_ar ws (n_v vs 1) 9 := congrArg v_ad (s1.2 _ _).symm
  have cr_1_9 := fdq_112 hD hth r1
  have ar_1_15_1 : w_ar w1 (n_v vs 1) 15 = w_ar ws (n_v vs 1) 15 := congrArg v_ad (s1.2 _ _).symm
  have cr_1_15 := fdq_66 hD hth r1
  have ad_19 : v_ad (n_v vs 19) = w_ar ws (n_v vs 0) 13 := congrArg v_ad f0
  have ad_18 : v_ad (n_v vs 18) = w_ar ws (n_v vs 0) 12 := congrArg v_ad f1
  simp only [ad_19] at f17
  have h17 : v_iv (n_v vs 20) = w_ei w1 (w_ar ws (n_v vs 0) 13) (v_iv (n_v vs 11)) := f17
  simp only [ar_0_13_1, ar_0_14_1, ar_1_7_1, ar_1_9_1, ar_1_15_1, ar_0_12_1, ar_0_11_1] at f29 f32
  have hE_0_11_1 : ∀ j : Int, w_ei ws (w_ar ws (n_v vs 0) 11) j = w_ei w1 (w_ar ws (n_v vs 0) 11) j := el_kp s1.1 r18 cr_0_11 (by decide)
  have hE_0_12_1 : ∀ j : Int, 0 ≤ j → (j = v_iv (n_v vs 20) → w_ei ws (w_ar ws (n_v vs 0) 12) j = v_iv (n_v vs 9)) ∧ (j ≠ v_iv (n_v vs 20) → w_ei ws (w_ar ws (n_v vs 0) 12) j = w_ei w1 (w_ar ws (n_v vs 0) 12) j) := fun j hj => ⟨fun h => by unfold w_ei; rw [s1.1, if_pos ⟨ad_18.symm, by rw [h]⟩], fun h => by unfold w_ei; rw [s1.1, if_neg (fun e => h (by have := e.2; omega))]⟩
  have hE_0_13_1 : ∀ j : Int, w_ei ws (w_ar ws (n_v vs 0) 13) j = w_ei w1 (w_ar ws (n_v vs 0) 13) j := el_kp s1.1 r18 cr_0_13 (by decide)
  have hE_0_14_1 : ∀ j : Int, w_ei ws (w_ar ws (n_v vs 0) 14) j = w_ei w1 (w_ar ws (n_v vs 0) 14) j := el_kp s1.1 r18 cr_0_14 (by decide)
  have hE_1_7_1 : ∀ j : Int, w_ei ws (w_ar ws (n_v vs 1) 7) j = w_ei w1 (w_ar ws (n_v vs 1) 7) j := el_kp s1.1 r18 cr_1_7 (by decide)
  have hE_1_9_1 : ∀ j : Int, w_ei ws (w_ar ws (n_v vs 1) 9) j = w_ei w1 (w_ar ws (n_v vs 1) 9) j := el_kp s1.1 r18 cr_1_9 (by decide)
  have hE_1_15_1 : ∀ j : Int, w_ei ws (w_ar ws (n_v vs 1) 15) j = w_ei w1 (w_ar ws (n_v vs 1) 15) j := el_kp s1.1 r18 cr_1_15 (by decide)
  have nf0 : fc_1 PRD (20, [5, 6, 25, 9, 7, 27, 26], [60, 0, 6, 715, 14, 12, 13, 1007, 1009, 1015]) ws (vs) := by
    refine ⟨nf_in hl rfl, sgq_1352 ?_⟩
    · show OSK (w_ei ws (w_ar ws (n_v vs 5) 14)) (w_ei ws (w_ar ws (n_v vs 5) 12)) (w_ei ws (w_ar ws (n_v vs 5) 13)) (w_ei ws (w_ar ws (n_v vs 6) 7)) (w_ei ws (w_ar ws (n_v vs 6) 9)) (w_ei ws (w_ar ws (n_v vs 6) 15)) (v_iv (n_v vs 25)) (v_iv (n_v vs 9)) (v_iv (n_v vs 7)) (v_iv (n_v vs 27)) (v_iv (n_v vs 26))
      simp only [q5, q6, q7]
      exact vc_Fa_orderSmall_14_0 (v_iv (n_v vs 2)) (v_iv (n_v vs 8)) (v_iv (n_v vs 9)) (v_iv (n_v vs 10)) (v_iv (n_v vs 11)) (v_iv (n_v vs 12)) (v_iv (n_v vs 13)) (v_iv (n_v vs 14)) (v_iv (n_v vs 20)) (v_iv (n_v vs 21)) (v_iv (n_v vs 22)) (v_iv (n_v vs 23)) (v_iv (n_v vs 24)) (v_iv (n_v vs 25)) (v_iv (n_v vs 26)) (v_iv (n_v vs 27)) (w_ei ws (w_ar ws (n_v vs 0) 14)) (w_ei ws (w_ar ws (n_v vs 0) 13)) (w_ei ws (w_ar ws (n_v vs 1) 7)) (w_ei ws (w_ar ws (n_v vs 1) 9)) (w_ei ws (w_ar ws (n_v vs 1) 15)) (w_ei w1 (w_ar ws (n_v vs 0) 13)) (w_ei w1 (w_ar ws (n_v vs 0) 14)) (w_ei w1 (w_ar ws (n_v vs 1) 7)) (w_ei w1 (w_ar ws (n_v vs 1) 9)) (w_ei w1 (w_ar ws (n_v vs 1) 15)) (w_ei w1 (w_ar ws (n_v vs 0) 12)) (w_ei w1 (w_ar ws (n_v vs 0) 11)) (w_ei ws (w_ar ws (n_v vs 0) 11)) (w_ei ws (w_ar ws (n_v vs 0) 12)) k2 k8 k9 k10 k11 k20 k21 k22 k23 k24 k25 k26 k27 f3 f4 f5 f6 h17 f21 f27 f28 f29 hE_0_11_1 hE_0_12_1 hE_0_13_1 hE_0_14_1 hE_1_7_1 hE_1_9_1 hE_1_15_1
  have nf1 : fc_1 PRD (20, [9, 7, 27], [50, 0, 0, 2, 10, 0, 6, 4, 2, 1, 0, 0, 1, 1, 1, 0, 2, 1, 2, 1, 1]) ws (vs) := by
    refine ⟨nf_in hl rfl, sgq_1353 ?_⟩
    · show ((v_iv (n_v vs 9) + 1) ≤ v_iv (n_v vs 7)) ∧ (v_iv (n_v vs 27) ≤ v_iv (n_v vs 7))
      rw [q7]
      exact vc_Fa_orderSmall_14_1 (v_iv (n_v vs 2)) (v_iv (n_v vs 7)) (v_iv (n_v vs 9)) (v_iv (n_v vs 11)) (v_iv (n_v vs 27)) (w_ei ws (w_ar ws (n_v vs 0) 14)) (w_ei ws (w_ar ws (n_v vs 0) 13)) (w_ei ws (w_ar ws (n_v vs 1) 7)) (w_ei ws (w_ar ws (n_v vs 1) 9)) (w_ei ws (w_ar ws (n_v vs 1) 15)) (w_ei w1 (w_ar ws (n_v vs 0) 13)) (w_ei w1 (w_ar ws (n_v vs 0) 14)) (w_ei w1 (w_ar ws (n_v vs 1) 7)) (w_ei w1 (w_ar ws (n_v vs 1) 9)) (w_ei w1 (w_ar ws (n_v vs 1) 15)) (w_ei w1 (w_ar ws (n_v vs 0) 11)) (w_ei ws (w_ar ws (n_v vs 0) 11)) k2 k7 k9 k11 k27 d0 d1 d5 d6 d7 d8 hE_0_11_1 hE_0_13_1 hE_0_14_1 hE_1_7_1 hE_1_9_1 hE_1_15_1
  have nf2 : fc_1 PRD (20, [5, 3, 4, 7], [60, 0, 3, 716, 12, 11, 13]) ws (vs) := by
    refine ⟨nf_in hl rfl, sgq_1346 ?_⟩
    · show RKM (w_ei ws (w_ar ws (n_v vs 5) 12)) (w_ei ws (w_ar ws (n_v vs 5) 11)) (w_ei ws (w_ar ws (n_v vs 5) 13)) (v_iv (n_v vs 3)) (v_iv (n_v vs 4)) (v_iv (n_v vs 7))
      simp only [q5, q7]
      exact vc_Fa_orderSmall_14_2 (v_iv (n_v vs 2)) (v_iv (n_v vs 3)) (v_iv (n_v vs 4)) (v_iv (n_v vs 9)) (v_iv (n_v vs 11)) (v_iv (n_v vs 20)) (v_iv (n_v vs 27)) (w_ei ws (w_ar ws (n_v vs 0) 14)) (w_ei ws (w_ar ws (n_v vs 0) 13)) (w_ei ws (w_ar ws (n_v vs 1) 7)) (w_ei ws (w_ar ws (n_v vs 1) 9)) (w_ei ws (w_ar ws (n_v vs 1) 15)) (w_ei w1 (w_ar ws (n_v vs 0) 13)) (w_ei w1 (w_ar ws (n_v vs 0) 14)) (w_ei w1 (w_ar ws (n_v vs 1) 7)) (w_ei w1 (w_ar ws (n_v vs 1) 9)) (w_ei w1 (w_ar ws (n_v vs 1) 15)) (w_ei w1 (w_ar ws (n_v vs 0) 12)) (w_ei w1 (w_ar ws (n_v vs 0) 11)) (w_ei ws (w_ar ws (n_v vs 0) 11)) (w_ei ws (w_ar ws (n_v vs 0) 12)) k2 k3 k4 k9 k11 k20 k27 d0 h17 f28 f32 hE_0_11_1 hE_0_12_1 hE_0_13_1 hE_0_14_1 hE_1_7_1 hE_1_9_1 hE_1_15_1
  refine ⟨(fun _ h => (by cases h)), [], trivial, ?_, (fun _ h => (by cases h))⟩
  rw [List.append_nil]
  exact List.forall_mem_cons.mpr ⟨⟨show (20 : Nat) < 100 from by decide, nf0⟩, List.forall_mem_cons.mpr ⟨⟨show (20 : Nat) < 100 from by decide, nf1⟩, List.forall_mem_cons.mpr ⟨⟨show (20 : Nat) < 100 from by decide, nf2⟩, (fun _ h => (by cases h))⟩⟩⟩
def n_Fa_orderSmall_an : List an_T := [(9, [(0, (2, 0, 0, [2])), (1, (2, 0, 0, [3])), (2, (0, 2, 7, [])), (3, (0, 1, 128, []))], [], (0, 0), [(0, 0, 99991), (1, 8, 128), (0, 0, 100000), (0, 0, 0), (0, 0, 0)], [(2, 7, (Int.negSucc 999999999999), 0), (7, 2, (Int.negSucc 999999999999), 0)], [], [(2, 0, 0, [2]), (2, 0, 0, [3]), (0, 2, 7, []), (0, 0, 24, []), (0, 0, 24, [])], 0, [], [(20, [5, 6, 8, 7], [60, 0, 5, 712, 14, 13, 1007, 1009, 1015]), (20, [8], [50, 0, 0, 0, 2, 0, 1, 1, 0]), (20, [5, 7], [60, 0, 1, 570, 13]), (20, [5, 3, 4, 7], [60, 0, 3, 716, 12, 11, 13]), (20, [7], [50, 0, 0, 2, 6, 0, 2, 0, 2, 1, 0, 0, 2, 1, 0, 0, 7]), (24, [0, 5], []), (24, [1, 6], []), (24, [2, 7], [])]), (27, [(0, (2, 0, 0, [2])), (1, (2, 0, 0, [3])), (2, (0, 2, 7, [])), (3, (0, 1, 127, [])), (4, (0, 0, 7, []))], [], (0, 0), [(0, 0, 99991), (1, 8, 128), (0, 0, 99973), (1, 9, 7), (0, 0, 100000)], [(2, 7, (Int.negSucc 999999999999), 0), (7, 2, (Int.negSucc 999999999999), 0), (9, 2, (Int.negSucc 999999999999), 0), (9, 7, (Int.negSucc 999999999999), 0)], [], [(2, 0, 0, [2]), (2, 0, 0, [3]), (0, 2, 7, []), (0, 0, 24, []), (0, 0, 24, [])], 0, [], [(20, [5, 6, 8, 7, 9], [60, 0, 5, 713, 14, 13, 1007, 1009, 1015]), (20, [9, 7], [50, 0, 0, 0, 2, 1, 0, 1, 1]), (20, [5, 7], [60, 0, 1, 570, 13]), (20, [5, 3, 4, 7], [60, 0, 3, 716, 12, 11, 13]), (20, [7], [50, 0, 0, 2, 6, 0, 2, 0, 2, 1, 0, 0, 2, 1, 0, 0, 7]), (24, [0, 5], []), (24, [1, 6], []), (24, [2, 7], [])]), (87, [(0, (2, 0, 0, [2])), (1, (2, 0, 0, [3])), (2, (0, 2, 7, [])), (3, (0, 0, 127, [])), (4, (0, 0, 7, []))], [], (0, 0), [(0, 0, 99913), (1, 9, 7), (0, 0, 100000), (0, 0, 0), (0, 0, 0)], [(2, 7, (Int.negSucc 999999999999), 0), (7, 2, (Int.negSucc 999999999999), 0), (9, 2, (Int.negSucc 999999999999), 0), (9, 7, (Int.negSucc 999999999999), 0)], [], [(2, 0, 0, [2]), (2, 0, 0, [3]), (0, 2, 7, []), (0, 0, 24, []), (0, 0, 24, [])], 0, [], [(20, [5, 6, 8, 9, 7], [60, 0, 6, 714, 14, 12, 13, 1007, 1009, 1015]), (20, [9, 7], [50, 0, 0, 0, 2, 1, 0, 1, 1]), (20, [5, 7], [60, 0, 1, 570, 13]), (20, [5, 3, 4, 7], [60, 0, 3, 716, 12, 11, 13]), (20, [7], [50, 0, 0, 2, 6, 0, 2, 0, 2, 1, 0, 0, 2, 1, 0, 0, 7]), (24, [0, 5], []), (24, [1, 6], []), (24, [2, 7], [])]), (99, [(0, (2, 0, 0, [2])), (1, (2, 0, 0, [3])), (2, (0, 2, 7, [])), (3, (0, 0, 127, [])), (4, (0, 0, 6, [])), (5, (0, 0, 1, [])), (6, (0, 0, 7, []))], [], (0, 0), [(0, 0, 99913), (1, 9, 7), (0, 0, 99901), (1, 11, 7), (0, 0, 100000)], [(2, 7, (Int.negSucc 999999999999), 0), (7, 2, (Int.negSucc 999999999999), 0), (9, 2, (Int.negSucc 999999999999), (Int.negSucc 0)), (9, 7, (Int.negSucc 999999999999), (Int.negSucc 0)), (10, 11, (Int.negSucc 999999999999), 0), (11, 2, (Int.negSucc 999999999999), 0), (11, 7, (Int.negSucc 999999999999), 0)], [], [(2, 0, 0, [2]), (2, 0, 0, [3]), (0, 2, 7, []), (0, 0, 24, []), (0, 0, 24, [])], 0, [], [(20, [5, 6, 8, 9, 7, 11, 10], [60, 0, 6, 715, 14, 12, 13, 1007, 1009, 1015]), (20, [9, 7, 11], [50, 0, 0, 2, 10, 0, 6, 4, 2, 1, 0, 0, 1, 1, 1, 0, 2, 1, 2, 1, 1]), (20, [5, 7], [60, 0, 1, 570, 13]), (20, [5, 3, 4, 7], [60, 0, 3, 716, 12, 11, 13]), (20, [7], [50, 0, 0, 2, 6, 0, 2, 0, 2, 1, 0, 0, 2, 1, 0, 0, 7]), (24, [0, 5], []), (24, [1, 6], []), (24, [2, 7], [])])]
def t_Fa_orderSmall_ct : ct_L := [(1, 173, e_Fa_costAhead), (189, 124, e_jMath_min1_v122)]
set_option maxRecDepth 100000 in
theorem c_Fa_orderSmall {l : Launch} {D : va_G} {kA : Nat → ClassId} (h_Fa_costAhead : ct_ok PRD l D kA GG y_Fa_costAhead z_Fa_costAhead e_Fa_costAhead) : ct_ok PRD l D kA GG y_Fa_orderSmall z_Fa_orderSmall e_Fa_orderSmall := chk_all_ok (FT := [(51, 2, 12), (54, 2, 13), (57, 2, 14)]) (PT := []) (CT := t_Fa_orderSmall_ct) (KT := [(0, 172, .int (1000000), (0, 1000000, 1000000, []))]) (NT := []) (AN := n_Fa_orderSmall_an) (OT := [o_Fa_orderSmall_0, o_Fa_orderSmall_1, o_Fa_orderSmall_2, o_Fa_orderSmall_3, o_Fa_orderSmall_4, o_Fa_orderSmall_5, o_Fa_orderSmall_6, o_Fa_orderSmall_7, o_Fa_orderSmall_8, o_Fa_orderSmall_9, o_Fa_orderSmall_10, o_Fa_orderSmall_11, o_Fa_orderSmall_12, o_Fa_orderSmall_13, o_Fa_orderSmall_14]) 5 460 (List.forall_mem_cons.mpr ⟨oo_Fa_orderSmall_0, List.forall_mem_cons.mpr ⟨oo_Fa_orderSmall_1, List.forall_mem_cons.mpr ⟨oo_Fa_orderSmall_2, List.forall_mem_cons.mpr ⟨oo_Fa_orderSmall_3, List.forall_mem_cons.mpr ⟨oo_Fa_orderSmall_4, List.forall_mem_cons.mpr ⟨oo_Fa_orderSmall_5, List.forall_mem_cons.mpr ⟨oo_Fa_orderSmall_6, List.forall_mem_cons.mpr ⟨oo_Fa_orderSmall_7, List.forall_mem_cons.mpr ⟨oo_Fa_orderSmall_8, List.forall_mem_cons.mpr ⟨oo_Fa_orderSmall_9, List.forall_mem_cons.mpr ⟨oo_Fa_orderSmall_10, List.forall_mem_cons.mpr ⟨oo_Fa_orderSmall_11, List.forall_mem_cons.mpr ⟨oo_Fa_orderSmall_12, List.forall_mem_cons.mpr ⟨oo_Fa_orderSmall_13, List.forall_mem_cons.mpr ⟨oo_Fa_orderSmall_14, List.forall_mem_nil _⟩⟩⟩⟩⟩⟩⟩⟩⟩⟩⟩⟩⟩⟩⟩) (by decide +kernel) ⟨List.forall_mem_cons.mpr ⟨gf_Fa_51, List.forall_mem_cons.mpr ⟨gf_Fa_54, List.forall_mem_cons.mpr ⟨gf_Fa_57, List.forall_mem_nil _⟩⟩⟩, List.forall_mem_nil _, List.forall_mem_cons.mpr ⟨cl_virtual (y := y_Fa_costAhead) (ci := 2) rfl rfl ⟨_, _, rfl⟩ (by decide +kernel) h_Fa_costAhead wm_909 wm_7 wm_906 wm_908 wv_2_11 ⟨by decide, by decide, by decide +kernel⟩ (by decide), List.forall_mem_cons.mpr ⟨cl_static (y := y_jMath_min1) c_jMath_min1_v122 wm_658 wm_10 wm_837 wm_657 ⟨by decide, by decide, by decide +kernel⟩ (by decide), List.forall_mem_nil _⟩⟩, List.forall_mem_cons.mpr ⟨kx_Fa_0_172, List.forall_mem_nil _⟩, List.forall_mem_nil _, GG_pl⟩ (by decide +kernel)

set_option maxHeartbeats 4000000 in
theorem vc_Gr_copyFrom_0_0 (x4 : Int) (x5 : Int) (nodes_0o1 : Int) (edges_0o1 : Int) (tail_0o1 : Int → Int) (head_0o1 : Int → Int) (k4 : 0 ≤ x4 ∧ x4 ≤ 24) (k5 : 0 ≤ x5 ∧ x5 ≤ 48) (g2 : x4 = nodes_0o1) (g3 : x5 = edges_0o1) (f4 : GKE (nodes_0o1) (edges_0o1) (tail_0o1) (head_0o1)) (kz_1_0 : 0 ≤ nodes_0o1 ∧ nodes_0o1 ≤ 24) (kz_1_1 : 0 ≤ edges_0o1 ∧ edges_0o1 ≤ 48) : GKN (tail_0o1) (head_0o1) (x4) (x5) := by
  first
    | exact gkn_of ‹GKE _ _ _ _› (by omega) (by omega)
  
def o_Gr_copyFrom_0 : or_T := (1, 6, [(1, (2, 0, 0, [164])), (4, (0, 0, 24, [])), (5, (0, 0, 48, []))], [(9, [2, 1], [7]), (9, [3, 1], [8]), (9, [4, 1], [0]), (9, [5, 1], [1]), (20, [1], [60, 2, 2, 596, 0, 1, 7, 8])], [], [], [(20, [2, 3, 4, 5], [61, 2, 761])], [], [])
theorem oo_Gr_copyFrom_0 {kA : Nat → ClassId} : or_ok PRD kA GG o_Gr_copyFrom_0 := by
  refine or_mk fun A ta ws vs hD hth hl => ?_
  intro t1 r1 t4 k4 t5 k5 f0 f1 f2 f3 f4
  replace f0 := shm_198 f0
  replace f1 := shm_293 f1
  replace f2 := shm_163 f2
  replace f3 := shm_215 f3
  replace f4 := shm_386 f4
  have ad_2 : v_ad (n_v vs 2) = w_ar ws (n_v vs 1) 7 := congrArg v_ad f0
  have ad_3 : v_ad (n_v vs 3) = w_ar ws (n_v vs 1) 8 := congrArg v_ad f1
  have g2 : v_iv (n_v vs 4) = w_fi ws (n_v vs 1) 0 := congrArg v_iv f2
  have g3 : v_iv (n_v vs 5) = w_fi ws (n_v vs 1) 1 := congrArg v_iv f3
  have kz_1_0 := fdq_73 hD hth r1
  have kz_1_1 := fdq_74 hD hth r1
  have nf0 : fc_1 PRD (20, [2, 3, 4, 5], [61, 2, 761]) ws (vs) := by
    refine ⟨nf_in hl rfl, sgq_1354 ?_⟩
    · show GKN (w_ei ws (v_ad (n_v vs 2))) (w_ei ws (v_ad (n_v vs 3))) (v_iv (n_v vs 4)) (v_iv (n_v vs 5))
      simp only [ad_2, ad_3]
      exact vc_Gr_copyFrom_0_0 (v_iv (n_v vs 4)) (v_iv (n_v vs 5)) (w_fi ws (n_v vs 1) 0) (w_fi ws (n_v vs 1) 1) (w_ei ws (w_ar ws (n_v vs 1) 7)) (w_ei ws (w_ar ws (n_v vs 1) 8)) k4 k5 g2 g3 f4 kz_1_0 kz_1_1
  refine ⟨(fun _ h => (by cases h)), [], trivial, ?_, (fun _ h => (by cases h))⟩
  rw [List.append_nil]
  exact List.forall_mem_cons.mpr ⟨⟨show (20 : Nat) < 100 from by decide, nf0⟩, (fun _ h => (by cases h))⟩
set_option maxHeartbeats 4000000 in
theorem vc_Gr_copyFrom_1_0 (x10 : Int) (x13 : Int) (edges_0 : Int) (nodes_0 : Int) (tail_0o1 : Int → Int) (head_0o1 : Int → Int) (nodes_0o1 : Int) (edges_0o1 : Int) (tail_1o1 : Int → Int) (head_1o1 : Int → Int) (nodes_1o1 : Int) (edges_1o1 : Int) (tail_2o1 : Int → Int) (head_2o1 : Int → Int) (nodes_2o1 : Int) (edges_2o1 : Int) (tail_3o1 : Int → Int) (head_3o1 : Int → Int) (nodes_3o1 : Int) (edges_3o1 : Int) (edges_4o1 : Int) (tail_4o1 : Int → Int) (head_4o1 : Int → Int) (nodes_4o1 : Int) (nodes_5o1 : Int) (tail_5o1 : Int → Int) (head_5o1 : Int → Int) (edges_5o1 : Int) (nodes_1 : Int) (edges_1 : Int) (nodes_2 : Int) (edges_2 : Int) (nodes_3 : Int) (edges_3 : Int) (nodes_4 : Int) (k10 : 0 ≤ x10 ∧ x10 ≤ 0) (k13 : 192 ≤ x13 ∧ x13 ≤ 192) (fe_0_0_1 : nodes_0 = nodes_1) (fe_0_1_1 : edges_0 = edges_1) (fe_1_0_1 : nodes_0o1 = nodes_1o1) (fe_1_1_1 : edges_0o1 = edges_1o1) (fe_0_0_2 : nodes_1 = nodes_2) (fe_0_1_2 : edges_1 = edges_2) (fe_1_0_2 : nodes_1o1 = nodes_2o1) (fe_1_1_2 : edges_1o1 = edges_2o1) (fe_0_0_3 : nodes_2 = nodes_3) (fe_0_1_3 : edges_2 = edges_3) (fe_1_0_3 : nodes_2o1 = nodes_3o1) (fe_1_1_3 : edges_2o1 = edges_3o1) (fe_0_0_4 : nodes_3 = nodes_4) (fe_1_0_4 : nodes_3o1 = nodes_4o1) (fe_1_1_4 : edges_3o1 = edges_4o1) (fe_1_0_5 : nodes_4o1 = nodes_5o1) (fe_1_1_5 : edges_4o1 = edges_5o1) (hE_1_7_1 : ∀ j : Int, tail_0o1 j = tail_1o1 j) (hE_1_7_2 : ∀ j : Int, tail_1o1 j = tail_2o1 j) (hE_1_7_3 : ∀ j : Int, tail_2o1 j = tail_3o1 j) (hE_1_7_4 : ∀ j : Int, tail_3o1 j = tail_4o1 j) (hE_1_7_5 : ∀ j : Int, tail_4o1 j = tail_5o1 j) (hE_1_8_1 : ∀ j : Int, head_0o1 j = head_1o1 j) (hE_1_8_2 : ∀ j : Int, head_1o1 j = head_2o1 j) (hE_1_8_3 : ∀ j : Int, head_2o1 j = head_3o1 j) (hE_1_8_4 : ∀ j : Int, head_3o1 j = head_4o1 j) (hE_1_8_5 : ∀ j : Int, head_4o1 j = head_5o1 j) (kz_0_0 : 0 ≤ nodes_0 ∧ nodes_0 ≤ 24) (kz_0_1 : 0 ≤ edges_0 ∧ edges_0 ≤ 48) (kz_1_0 : 0 ≤ nodes_0o1 ∧ nodes_0o1 ≤ 24) (kz_1_1 : 0 ≤ edges_0o1 ∧ edges_0o1 ≤ 48) : x10 + x13 ≤ 192 := by
  subst fe_0_0_1
  subst fe_0_1_1
  subst fe_1_0_1
  subst fe_1_1_1
  subst fe_0_0_2
  subst fe_0_1_2
  subst fe_1_0_2
  subst fe_1_1_2
  subst fe_0_0_3
  subst fe_0_1_3
  subst fe_1_0_3
  subst fe_1_1_3
  subst fe_0_0_4
  subst fe_1_0_4
  subst fe_1_1_4
  subst fe_1_0_5
  subst fe_1_1_5
  have e_hE_1_7_1 := funext hE_1_7_1; subst e_hE_1_7_1
  have e_hE_1_7_2 := funext hE_1_7_2; subst e_hE_1_7_2
  have e_hE_1_7_3 := funext hE_1_7_3; subst e_hE_1_7_3
  have e_hE_1_7_4 := funext hE_1_7_4; subst e_hE_1_7_4
  have e_hE_1_7_5 := funext hE_1_7_5; subst e_hE_1_7_5
  have e_hE_1_8_1 := funext hE_1_8_1; subst e_hE_1_8_1
  have e_hE_1_8_2 := funext hE_1_8_2; subst e_hE_1_8_2
  have e_hE_1_8_3 := funext hE_1_8_3; subst e_hE_1_8_3
  have e_hE_1_8_4 := funext hE_1_8_4; subst e_hE_1_8_4
  have e_hE_1_8_5 := funext hE_1_8_5; subst e_hE_1_8_5
  first
    | omega
  
set_option maxHeartbeats 4000000 in
theorem vc_Gr_copyFrom_1_1 (x12 : Int) (x13 : Int) (edges_0 : Int) (nodes_0 : Int) (tail_0o1 : Int → Int) (head_0o1 : Int → Int) (nodes_0o1 : Int) (edges_0o1 : Int) (tail_1o1 : Int → Int) (head_1o1 : Int → Int) (nodes_1o1 : Int) (edges_1o1 : Int) (tail_2o1 : Int → Int) (head_2o1 : Int → Int) (nodes_2o1 : Int) (edges_2o1 : Int) (tail_3o1 : Int → Int) (head_3o1 : Int → Int) (nodes_3o1 : Int) (edges_3o1 : Int) (edges_4o1 : Int) (tail_4o1 : Int → Int) (head_4o1 : Int → Int) (nodes_4o1 : Int) (nodes_5o1 : Int) (tail_5o1 : Int → Int) (head_5o1 : Int → Int) (edges_5o1 : Int) (nodes_1 : Int) (edges_1 : Int) (nodes_2 : Int) (edges_2 : Int) (nodes_3 : Int) (edges_3 : Int) (nodes_4 : Int) (k12 : 0 ≤ x12 ∧ x12 ≤ 0) (k13 : 192 ≤ x13 ∧ x13 ≤ 192) (fe_0_0_1 : nodes_0 = nodes_1) (fe_0_1_1 : edges_0 = edges_1) (fe_1_0_1 : nodes_0o1 = nodes_1o1) (fe_1_1_1 : edges_0o1 = edges_1o1) (fe_0_0_2 : nodes_1 = nodes_2) (fe_0_1_2 : edges_1 = edges_2) (fe_1_0_2 : nodes_1o1 = nodes_2o1) (fe_1_1_2 : edges_1o1 = edges_2o1) (fe_0_0_3 : nodes_2 = nodes_3) (fe_0_1_3 : edges_2 = edges_3) (fe_1_0_3 : nodes_2o1 = nodes_3o1) (fe_1_1_3 : edges_2o1 = edges_3o1) (fe_0_0_4 : nodes_3 = nodes_4) (fe_1_0_4 : nodes_3o1 = nodes_4o1) (fe_1_1_4 : edges_3o1 = edges_4o1) (fe_1_0_5 : nodes_4o1 = nodes_5o1) (fe_1_1_5 : edges_4o1 = edges_5o1) (hE_1_7_1 : ∀ j : Int, tail_0o1 j = tail_1o1 j) (hE_1_7_2 : ∀ j : Int, tail_1o1 j = tail_2o1 j) (hE_1_7_3 : ∀ j : Int, tail_2o1 j = tail_3o1 j) (hE_1_7_4 : ∀ j : Int, tail_3o1 j = tail_4o1 j) (hE_1_7_5 : ∀ j : Int, tail_4o1 j = tail_5o1 j) (hE_1_8_1 : ∀ j : Int, head_0o1 j = head_1o1 j) (hE_1_8_2 : ∀ j : Int, head_1o1 j = head_2o1 j) (hE_1_8_3 : ∀ j : Int, head_2o1 j = head_3o1 j) (hE_1_8_4 : ∀ j : Int, head_3o1 j = head_4o1 j) (hE_1_8_5 : ∀ j : Int, head_4o1 j = head_5o1 j) (kz_0_0 : 0 ≤ nodes_0 ∧ nodes_0 ≤ 24) (kz_0_1 : 0 ≤ edges_0 ∧ edges_0 ≤ 48) (kz_1_0 : 0 ≤ nodes_0o1 ∧ nodes_0o1 ≤ 24) (kz_1_1 : 0 ≤ edges_0o1 ∧ edges_0o1 ≤ 48) : x12 + x13 ≤ 192 := by
  subst fe_0_0_1
  subst fe_0_1_1
  subst fe_1_0_1
  subst fe_1_1_1
  subst fe_0_0_2
  subst fe_0_1_2
  subst fe_1_0_2
  subst fe_1_1_2
  subst fe_0_0_3
  subst fe_0_1_3
  subst fe_1_0_3
  subst fe_1_1_3
  subst fe_0_0_4
  subst fe_1_0_4
  subst fe_1_1_4
  subst fe_1_0_5
  subst fe_1_1_5
  have e_hE_1_7_1 := funext hE_1_7_1; subst e_hE_1_7_1
  have e_hE_1_7_2 := funext hE_1_7_2; subst e_hE_1_7_2
  have e_hE_1_7_3 := funext hE_1_7_3; subst e_hE_1_7_3
  have e_hE_1_7_4 := funext hE_1_7_4; subst e_hE_1_7_4
  have e_hE_1_7_5 := funext hE_1_7_5; subst e_hE_1_7_5
  have e_hE_1_8_1 := funext hE_1_8_1; subst e_hE_1_8_1
  have e_hE_1_8_2 := funext hE_1_8_2; subst e_hE_1_8_2
  have e_hE_1_8_3 := funext hE_1_8_3; subst e_hE_1_8_3
  have e_hE_1_8_4 := funext hE_1_8_4; subst e_hE_1_8_4
  have e_hE_1_8_5 := funext hE_1_8_5; subst e_hE_1_8_5
  first
    | omega
  
def o_Gr_copyFrom_1 : or_T := (49, 14, [(0, (2, 0, 0, [3])), (1, (2, 0, 0, [164])), (10, (0, 0, 0, [])), (12, (0, 0, 0, [])), (13, (0, 192, 192, []))], [(101, [0, 8], [18]), (101, [0, 7], [17]), (101, [0, 6], [2]), (101, [0, 5], [1]), (101, [0, 4], [0])], [], [], [(21, [10, 13], [192]), (21, [12, 13], [192])], [], [])
theorem oo_Gr_copyFrom_1 {kA : Nat → ClassId} : or_ok PRD kA GG o_Gr_copyFrom_1 := by
  refine or_mk fun A ta ws vs hD hth hl => ?_
  intro t0 r0 t1 r1 t10 k10 t12 k12 t13 k13 ta1 w1 le1 s1 ta2 w2 le2 s2 ta3 w3 le3 s3 ta4 w4 le4 s4 ta5 w5 le5 s5
  have s1 : (∀ b j, w_el ws b j = w_el w1 b j) ∧ ∀ b j, w_fd ws b j = if b = v_ad (n_v vs 0) ∧ j = 18 then n_v vs 8 else w_fd w1 b j := s1.2
  have s2 : (∀ b j, w_el w1 b j = w_el w2 b j) ∧ ∀ b j, w_fd w1 b j = if b = v_ad (n_v vs 0) ∧ j = 17 then n_v vs 7 else w_fd w2 b j := s2.2
  have s3 : (∀ b j, w_el w2 b j = w_el w3 b j) ∧ ∀ b j, w_fd w2 b j = if b = v_ad (n_v vs 0) ∧ j = 2 then n_v vs 6 else w_fd w3 b j := s3.2
  have s4 : (∀ b j, w_el w3 b j = w_el w4 b j) ∧ ∀ b j, w_fd w3 b j = if b = v_ad (n_v vs 0) ∧ j = 1 then n_v vs 5 else w_fd w4 b j := s4.2
  have s5 : (∀ b j, w_el w4 b j = w_el w5 b j) ∧ ∀ b j, w_fd w4 b j = if b = v_ad (n_v vs 0) ∧ j = 0 then n_v vs 4 else w_fd w5 b j := s5.2
  have fe_0_0_1 : w_fi ws (n_v vs 0) 0 = w_fi w1 (n_v vs 0) 0 := by show v_iv (w_fd _ _ _) = v_iv (w_fd _ _ _); rw [s1.2, if_neg (fun e => absurd e.2 (by decide))]
  have fe_0_1_1 : w_fi ws (n_v vs 0) 1 = w_fi w1 (n_v vs 0) 1 := by show v_iv (w_fd _ _ _) = v_iv (w_fd _ _ _); rw [s1.2, if_neg (fun e => absurd e.2 (by decide))]
  have fe_1_0_1 : w_fi ws (n_v vs 1) 0 = w_fi w1 (n_v vs 1) 0 := by show v_iv (w_fd _ _ _) = v_iv (w_fd _ _ _); rw [s1.2, if_neg (fun e => absurd e.2 (by decide))]
  have fe_1_1_1 : w_fi ws (n_v vs 1) 1 = w_fi w1 (n_v vs 1) 1 := by show v_iv (w_fd _ _ _) = v_iv (w_fd _ _ _); rw [s1.2, if_neg (fun e => absurd e.2 (by decide))]
  have fe_0_0_2 : w_fi w1 (n_v vs 0) 0 = w_fi w2 (n_v vs 0) 0 := by show v_iv (w_fd _ _ _) = v_iv (w_fd _ _ _); rw [s2.2, if_neg (fun e => absurd e.2 (by decide))]
  have fe_0_1_2 : w_fi w1 (n_v vs 0) 1 = w_fi w2 (n_v vs 0) 1 := by show v_iv (w_fd _ _ _) = v_iv (w_fd _ _ _); rw [s2.2, if_neg (fun e => absurd e.2 (by decide))]
  have fe_1_0_2 : w_fi w1 (n_v vs 1) 0 = w_fi w2 (n_v vs 1) 0 := by show v_iv (w_fd _ _ _) = v_iv (w_fd _ _ _); rw [s2.2, if_neg (fun e => absurd e.2 (by decide))]
  have fe_1_1_2 : w_fi w1 (n_v vs 1) 1 = w_fi w2 (n_v vs 1) 1 := by show v_iv (w_fd _ _ _) = v_iv (w_fd _ _ _); rw [s2.2, if_neg (fun e => absurd e.2 (by decide))]
  have fe_0_0_3 : w_fi w2 (n_v vs 0) 0 = w_fi w3 (n_v vs 0) 0 := by show v_iv (w_fd _ _ _) = v_iv (w_fd _ _ _); rw [s3.2, if_neg (fun e => absurd e.2 (by decide))]
  have fe_0_1_3 : w_fi w2 (n_v vs 0) 1 = w_fi w3 (n_v vs 0) 1 := by show v_iv (w_fd _ _ _) = v_iv (w_fd _ _ _); rw [s3.2, if_neg (fun e => absurd e.2 (by decide))]
  have fe_1_0_3 : w_fi w2 (n_v vs 1) 0 = w_fi w3 (n_v vs 1) 0 := by show v_iv (w_fd _ _ _) = v_iv (w_fd _ _ _); rw [s3.2, if_neg (fun e => absurd e.2 (by decide))]
  have fe_1_1_3 : w_fi w2 (n_v vs 1) 1 = w_fi w3 (n_v vs 1) 1 := by show v_iv (w_fd _ _ _) = v_iv (w_fd _ _ _); rw [s3.2, if_neg (fun e => absurd e.2 (by decide))]
  have fe_0_0_4 : w_fi w3 (n_v vs 0) 0 = w_fi w4 (n_v vs 0) 0 := by show v_iv (w_fd _ _ _) = v_iv (w_fd _ _ _); rw [s4.2, if_neg (fun e => absurd e.2 (by decide))]
  have fe_1_0_4 : w_fi w3 (n_v vs 1) 0 = w_fi w4 (n_v vs 1) 0 := by show v_iv (w_fd _ _ _) = v_iv (w_fd _ _ _); rw [s4.2, if_neg (fun e => absurd e.2 (by decide))]
  have fe_1_1_4 : w_fi w3 (n_v vs 1) 1 = w_fi w4 (n_v vs 1) 1 := by show v_iv (w_fd _ _ _) = v_iv (w_fd _ _ _); rw [s4.2, if_neg (fun e => by have e1 := e.1; have e2 := r1; rw [e1, r0] at e2; exact absurd (Option.some.inj e2) (by decide))]
  have fe_1_0_5 : w_fi w4 (n_v vs 1) 0 = w_fi w5 (n_v vs 1) 0 := by show v_iv (w_fd _ _ _) = v_iv (w_fd _ _ _); rw [s5.2, if_neg (fun e => by have e1 := e.1; have e2 := r1; rw [e1, r0] at e2; exact absurd (Option.some.inj e2) (by decide))]
  have fe_1_1_5 : w_fi w4 (n_v vs 1) 1 = w_fi w5 (n_v vs 1) 1 := by show v_iv (w_fd _ _ _) = v_iv (w_fd _ _ _); rw [s5.2, if_neg (fun e => absurd e.2 (by decide))]
  have hE_1_7_1 : ∀ j : Int, w_ei ws (w_ar ws (n_v vs 1) 7) j = w_ei w1 (w_ar ws (n_v vs 1) 7) j := fun j => s1.1 _ _
  have hE_1_7_2 : ∀ j : Int, w_ei w1 (w_ar ws (n_v vs 1) 7) j = w_ei w2 (w_ar ws (n_v vs 1) 7) j := fun j => s2.1 _ _
  have hE_1_7_3 : ∀ j : Int, w_ei w2 (w_ar ws (n_v vs 1) 7) j = w_ei w3 (w_ar ws (n_v vs 1) 7) j := fun j => s3.1 _ _
  have hE_1_7_4 : ∀ j : Int, w_ei w3 (w_ar ws (n_v vs 1) 7) j = w_ei w4 (w_ar ws (n_v vs 1) 7) j := fun j => s4.1 _ _
  have hE_1_7_5 : ∀ j : Int, w_ei w4 (w_ar ws (n_v vs 1) 7) j = w_ei w5 (w_ar ws (n_v vs 1) 7) j := fun j => s5.1 _ _
  have hE_1_8_1 : ∀ j : Int, w_ei ws (w_ar ws (n_v vs 1) 8) j = w_ei w1 (w_ar ws (n_v vs 1) 8) j := fun j => s1.1 _ _
  have hE_1_8_2 : ∀ j : Int, w_ei w1 (w_ar ws (n_v vs 1) 8) j = w_ei w2 (w_ar ws (n_v vs 1) 8) j := fun j => s2.1 _ _
  have hE_1_8_3 : ∀ j : Int, w_ei w2 (w_ar ws (n_v vs 1) 8) j = w_ei w3 (w_ar ws (n_v vs 1) 8) j := fun j => s3.1 _ _
  have hE_1_8_4 : ∀ j : Int, w_ei w3 (w_ar ws (n_v vs 1) 8) j = w_ei w4 (w_ar ws (n_v vs 1) 8) j := fun j => s4.1 _ _
  have hE_1_8_5 : ∀ j : Int, w_ei w4 (w_ar ws (n_v vs 1) 8) j = w_ei w5 (w_ar ws (n_v vs 1) 8) j := fun j => s5.1 _ _
  have kz_0_0 := fdq_21 hD hth r0
  have kz_0_1 := fdq_30 hD hth r0
  have kz_1_0 := fdq_73 hD hth r1
  have kz_1_1 := fdq_74 hD hth r1
  have nf0 : fc_1 PRD (21, [10, 13], [192]) ws (vs) := ⟨nf_in hl rfl, sgq_835 (vc_Gr_copyFrom_1_0 (v_iv (n_v vs 10)) (v_iv (n_v vs 13)) (w_fi ws (n_v vs 0) 1) (w_fi ws (n_v vs 0) 0) (w_ei ws (w_ar ws (n_v vs 1) 7)) (w_ei ws (w_ar ws (n_v vs 1) 8)) (w_fi ws (n_v vs 1) 0) (w_fi ws (n_v vs 1) 1) (w_ei w1 (w_ar ws (n_v vs 1) 7)) (w_ei w1 (w_ar ws (n_v vs 1) 8)) (w_fi w1 (n_v vs 1) 0) (w_fi w1 (n_v vs 1) 1) (w_ei w2 (w_ar ws (n_v vs 1) 7)) (w_ei w2 (w_ar ws (n_v vs 1) 8)) (w_fi w2 (n_v vs 1) 0) (w_fi w2 (n_v vs 1) 1) (w_ei w3 (w_ar ws (n_v vs 1) 7)) (w_ei w3 (w_ar ws (n_v vs 1) 8)) (w_fi w3 (n_v vs 1) 0) (w_fi w3 (n_v vs 1) 1) (w_fi w4 (n_v vs 1) 1) (w_ei w4 (w_ar ws (n_v vs 1) 7)) (w_ei w4 (w_ar ws (n_v vs 1) 8)) (w_fi w4 (n_v vs 1) 0) (w_fi w5 (n_v vs 1) 0) (w_ei w5 (w_ar ws (n_v vs 1) 7)) (w_ei w5 (w_ar ws (n_v vs 1) 8)) (w_fi w5 (n_v vs 1) 1) (w_fi w1 (n_v vs 0) 0) (w_fi w1 (n_v vs 0) 1) (w_fi w2 (n_v vs 0) 0) (w_fi w2 (n_v vs 0) 1) (w_fi w3 (n_v vs 0) 0) (w_fi w3 (n_v vs 0) 1) (w_fi w4 (n_v vs 0) 0) k10 k13 fe_0_0_1 fe_0_1_1 fe_1_0_1 fe_1_1_1 fe_0_0_2 fe_0_1_2 fe_1_0_2 fe_1_1_2 fe_0_0_3 fe_0_1_3 fe_1_0_3 fe_1_1_3 fe_0_0_4 fe_1_0_4 fe_1_1_4 fe_1_0_5 fe_1_1_5 hE_1_7_1 hE_1_7_2 hE_1_7_3 hE_1_7_4 hE_1_7_5 hE_1_8_1 hE_1_8_2 hE_1_8_3 hE_1_8_4 hE_1_8_5 kz_0_0 kz_0_1 kz_1_0 kz_1_1)⟩
  have nf1 : fc_1 PRD (21, [12, 13], [192]) ws (vs) := ⟨nf_in hl rfl, sgq_835 (vc_Gr_copyFrom_1_1 (v_iv (n_v vs 12)) (v_iv (n_v vs 13)) (w_fi ws (n_v vs 0) 1) (w_fi ws (n_v vs 0) 0) (w_ei ws (w_ar ws (n_v vs 1) 7)) (w_ei ws (w_ar ws (n_v vs 1) 8)) (w_fi ws (n_v vs 1) 0) (w_fi ws (n_v vs 1) 1) (w_ei w1 (w_ar ws (n_v vs 1) 7)) (w_ei w1 (w_ar ws (n_v vs 1) 8)) (w_fi w1 (n_v vs 1) 0) (w_fi w1 (n_v vs 1) 1) (w_ei w2 (w_ar ws (n_v vs 1) 7)) (w_ei w2 (w_ar ws (n_v vs 1) 8)) (w_fi w2 (n_v vs 1) 0) (w_fi w2 (n_v vs 1) 1) (w_ei w3 (w_ar ws (n_v vs 1) 7)) (w_ei w3 (w_ar ws (n_v vs 1) 8)) (w_fi w3 (n_v vs 1) 0) (w_fi w3 (n_v vs 1) 1) (w_fi w4 (n_v vs 1) 1) (w_ei w4 (w_ar ws (n_v vs 1) 7)) (w_ei w4 (w_ar ws (n_v vs 1) 8)) (w_fi w4 (n_v vs 1) 0) (w_fi w5 (n_v vs 1) 0) (w_ei w5 (w_ar ws (n_v vs 1) 7)) (w_ei w5 (w_ar ws (n_v vs 1) 8)) (w_fi w5 (n_v vs 1) 1) (w_fi w1 (n_v vs 0) 0) (w_fi w1 (n_v vs 0) 1) (w_fi w2 (n_v vs 0) 0) (w_fi w2 (n_v vs 0) 1) (w_fi w3 (n_v vs 0) 0) (w_fi w3 (n_v vs 0) 1) (w_fi w4 (n_v vs 0) 0) k12 k13 fe_0_0_1 fe_0_1_1 fe_1_0_1 fe_1_1_1 fe_0_0_2 fe_0_1_2 fe_1_0_2 fe_1_1_2 fe_0_0_3 fe_0_1_3 fe_1_0_3 fe_1_1_3 fe_0_0_4 fe_1_0_4 fe_1_1_4 fe_1_0_5 fe_1_1_5 hE_1_7_1 hE_1_7_2 hE_1_7_3 hE_1_7_4 hE_1_7_5 hE_1_8_1 hE_1_8_2 hE_1_8_3 hE_1_8_4 hE_1_8_5 kz_0_0 kz_0_1 kz_1_0 kz_1_1)⟩
  refine ⟨(fun _ h => (by cases h)), [], trivial, ?_, (fun _ h => (by cases h))⟩
  rw [List.append_nil]
  exact List.forall_mem_cons.mpr ⟨⟨show (21 : Nat) < 100 from by decide, nf0⟩, List.forall_mem_cons.mpr ⟨⟨show (21 : Nat) < 100 from by decide, nf1⟩, (fun _ h => (by cases h))⟩⟩
set_option maxHeartbeats 4000000 in
theorem vc_Gr_copyFrom_2_0 (x15 : Int) (x18 : Int) (k15 : 0 ≤ x15 ∧ x15 ≤ 0) (k18 : 24 ≤ x18 ∧ x18 ≤ 24) : x15 + x18 ≤ 24 := by
  first
    | omega
  
set_option maxHeartbeats 4000000 in
theorem vc_Gr_copyFrom_2_1 (x17 : Int) (x18 : Int) (k17 : 0 ≤ x17 ∧ x17 ≤ 0) (k18 : 24 ≤ x18 ∧ x18 ≤ 24) : x17 + x18 ≤ 24 := by
  first
    | omega
  
def o_Gr_copyFrom_2 : or_T := (64, 19, [(15, (0, 0, 0, [])), (17, (0, 0, 0, [])), (18, (0, 24, 24, []))], [], [], [], [(21, [15, 18], [24]), (21, [17, 18], [24])], [], [])
theorem oo_Gr_copyFrom_2 {kA : Nat → ClassId} : or_ok PRD kA GG o_Gr_copyFrom_2 := by
  refine or_mk fun A ta ws vs hD hth hl => ?_
  intro t15 k15 t17 k17 t18 k18
  have nf0 : fc_1 PRD (21, [15, 18], [24]) ws (vs) := ⟨nf_in hl rfl, sgq_140 (vc_Gr_copyFrom_2_0 (v_iv (n_v vs 15)) (v_iv (n_v vs 18)) k15 k18)⟩
  have nf1 : fc_1 PRD (21, [17, 18], [24]) ws (vs) := ⟨nf_in hl rfl, sgq_140 (vc_Gr_copyFrom_2_1 (v_iv (n_v vs 17)) (v_iv (n_v vs 18)) k17 k18)⟩
  refine ⟨(fun _ h => (by cases h)), [], trivial, ?_, (fun _ h => (by cases h))⟩
  rw [List.append_nil]
  exact List.forall_mem_cons.mpr ⟨⟨show (21 : Nat) < 100 from by decide, nf0⟩, List.forall_mem_cons.mpr ⟨⟨show (21 : Nat) < 100 from by decide, nf1⟩, (fun _ h => (by cases h))⟩⟩
set_option maxHeartbeats 4000000 in
theorem vc_Gr_copyFrom_3_0 (x20 : Int) (x23 : Int) (k20 : 0 ≤ x20 ∧ x20 ≤ 0) (k23 : 24 ≤ x23 ∧ x23 ≤ 24) : x20 + x23 ≤ 24 := by
  first
    | omega
  
set_option maxHeartbeats 4000000 in
theorem vc_Gr_copyFrom_3_1 (x22 : Int) (x23 : Int) (k22 : 0 ≤ x22 ∧ x22 ≤ 0) (k23 : 24 ≤ x23 ∧ x23 ≤ 24) : x22 + x23 ≤ 24 := by
  first
    | omega
  
def o_Gr_copyFrom_3 : or_T := (79, 24, [(20, (0, 0, 0, [])), (22, (0, 0, 0, [])), (23, (0, 24, 24, []))], [], [], [], [(21, [20, 23], [24]), (21, [22, 23], [24])], [], [])
theorem oo_Gr_copyFrom_3 {kA : Nat → ClassId} : or_ok PRD kA GG o_Gr_copyFrom_3 := by
  refine or_mk fun A ta ws vs hD hth hl => ?_
  intro t20 k20 t22 k22 t23 k23
  have nf0 : fc_1 PRD (21, [20, 23], [24]) ws (vs) := ⟨nf_in hl rfl, sgq_140 (vc_Gr_copyFrom_3_0 (v_iv (n_v vs 20)) (v_iv (n_v vs 23)) k20 k23)⟩
  have nf1 : fc_1 PRD (21, [22, 23], [24]) ws (vs) := ⟨nf_in hl rfl, sgq_140 (vc_Gr_copyFrom_3_1 (v_iv (n_v vs 22)) (v_iv (n_v vs 23)) k22 k23)⟩
  refine ⟨(fun _ h => (by cases h)), [], trivial, ?_, (fun _ h => (by cases h))⟩
  rw [List.append_nil]
  exact List.forall_mem_cons.mpr ⟨⟨show (21 : Nat) < 100 from by decide, nf0⟩, List.forall_mem_cons.mpr ⟨⟨show (21 : Nat) < 100 from by decide, nf1⟩, (fun _ h => (by cases h))⟩⟩
set_option maxHeartbeats 4000000 in
theorem vc_Gr_copyFrom_4_0 (x25 : Int) (x28 : Int) (k25 : 0 ≤ x25 ∧ x25 ≤ 0) (k28 : 24 ≤ x28 ∧ x28 ≤ 24) : x25 + x28 ≤ 24 := by
  first
    | omega
  
set_option maxHeartbeats 4000000 in
theorem vc_Gr_copyFrom_4_1 (x27 : Int) (x28 : Int) (k27 : 0 ≤ x27 ∧ x27 ≤ 0) (k28 : 24 ≤ x28 ∧ x28 ≤ 24) : x27 + x28 ≤ 24 := by
  first
    | omega
  
def o_Gr_copyFrom_4 : or_T := (94, 29, [(25, (0, 0, 0, [])), (27, (0, 0, 0, [])), (28, (0, 24, 24, []))], [], [], [], [(21, [25, 28], [24]), (21, [27, 28], [24])], [], [])
theorem oo_Gr_copyFrom_4 {kA : Nat → ClassId} : or_ok PRD kA GG o_Gr_copyFrom_4 := by
  refine or_mk fun A ta ws vs hD hth hl => ?_
  intro t25 k25 t27 k27 t28 k28
  have nf0 : fc_1 PRD (21, [25, 28], [24]) ws (vs) := ⟨nf_in hl rfl, sgq_140 (vc_Gr_copyFrom_4_0 (v_iv (n_v vs 25)) (v_iv (n_v vs 28)) k25 k28)⟩
  have nf1 : fc_1 PRD (21, [27, 28], [24]) ws (vs) := ⟨nf_in hl rfl, sgq_140 (vc_Gr_copyFrom_4_1 (v_iv (n_v vs 27)) (v_iv (n_v vs 28)) k27 k28)⟩
  refine ⟨(fun _ h => (by cases h)), [], trivial, ?_, (fun _ h => (by cases h))⟩
  rw [List.append_nil]
  exact List.forall_mem_cons.mpr ⟨⟨show (21 : Nat) < 100 from by decide, nf0⟩, List.forall_mem_cons.mpr ⟨⟨show (21 : Nat) < 100 from by decide, nf1⟩, (fun _ h => (by cases h))⟩⟩
set_option maxHeartbeats 4000000 in
theorem vc_Gr_copyFrom_5_0 (x29 : Int) (x32 : Int) (k29 : 0 ≤ x29 ∧ x29 ≤ 0) (k32 : 48 ≤ x32 ∧ x32 ≤ 48) : x29 + x32 ≤ 48 := by
  first
    | omega
  
set_option maxHeartbeats 4000000 in
theorem vc_Gr_copyFrom_5_1 (x31 : Int) (x32 : Int) (k31 : 0 ≤ x31 ∧ x31 ≤ 0) (k32 : 48 ≤ x32 ∧ x32 ≤ 48) : x31 + x32 ≤ 48 := by
  first
    | omega
  
set_option maxHeartbeats 4000000 in
theorem vc_Gr_copyFrom_5_3 (x4 : Int) (nodes_0 : Int) (gy : Int) (k4 : 0 ≤ x4 ∧ x4 ≤ 24) (g1 : x4 = nodes_0) (kz_0_0 : 0 ≤ nodes_0 ∧ nodes_0 ≤ 24) (ey2 : gy = x4) : 1 * gy + ((-1) * x4 + 0) ≤ 0 := by
  first
    | omega
  
set_option maxHeartbeats 4000000 in
theorem vc_Gr_copyFrom_5_4 (x4 : Int) (nodes_0 : Int) (gy : Int) (k4 : 0 ≤ x4 ∧ x4 ≤ 24) (g1 : x4 = nodes_0) (kz_0_0 : 0 ≤ nodes_0 ∧ nodes_0 ≤ 24) (ey2 : gy = x4) : (-1) * gy + (1 * x4 + 0) ≤ 0 := by
  first
    | omega
  
set_option maxHeartbeats 4000000 in
theorem vc_Gr_copyFrom_5_5 (x5 : Int) (edges_0 : Int) (gu : Int) (k5 : 0 ≤ x5 ∧ x5 ≤ 48) (g0 : x5 = edges_0) (kz_0_1 : 0 ≤ edges_0 ∧ edges_0 ≤ 48) (eu2 : gu = x5) : 1 * gu + ((-1) * x5 + 0) ≤ 0 := by
  first
    | omega
  
set_option maxHeartbeats 4000000 in
theorem vc_Gr_copyFrom_5_6 (x5 : Int) (edges_0 : Int) (gu : Int) (k5 : 0 ≤ x5 ∧ x5 ≤ 48) (g0 : x5 = edges_0) (kz_0_1 : 0 ≤ edges_0 ∧ edges_0 ≤ 48) (eu2 : gu = x5) : (-1) * gu + (1 * x5 + 0) ≤ 0 := by
  first
    | omega
  
set_option maxHeartbeats 4000000 in
theorem vc_Gr_copyFrom_5_7 (x4 : Int) (x5 : Int) (x29 : Int) (x31 : Int) (x32 : Int) (edges_0 : Int) (tail_0o1 : Int → Int) (head_0o1 : Int → Int) (a30_0 : Int → Int) (gy : Int) (gu : Int) (k4 : 0 ≤ x4 ∧ x4 ≤ 24) (k5 : 0 ≤ x5 ∧ x5 ≤ 48) (k29 : 0 ≤ x29 ∧ x29 ≤ 0) (k31 : 0 ≤ x31 ∧ x31 ≤ 0) (k32 : 48 ≤ x32 ∧ x32 ≤ 48) (g0 : x5 = edges_0) (f4 : GKN (tail_0o1) (head_0o1) (x4) (x5)) (kz_0_1 : 0 ≤ edges_0 ∧ edges_0 ≤ 48) (ey2 : gy = x4) (eu2 : gu = x5) : CA1 (a30_0) (tail_0o1) (head_0o1) (x29) (x31) (x32) (gy) (gu) := by
  first
    | exact ⟨by omega, by omega, by omega, by omega, gkn_keep (n := x4) (m := x5) (by assumption) (by omega) (by omega)⟩
  
def o_Gr_copyFrom_5 : or_T := (109, 33, [(0, (2, 0, 0, [3])), (3, (2, 0, 0, [155])), (4, (0, 0, 24, [])), (5, (0, 0, 48, [])), (29, (0, 0, 0, [])), (31, (0, 0, 0, [])), (32, (0, 48, 48, []))], [(9, [5, 0], [1]), (9, [4, 0], [0]), (9, [3, 1], [8]), (9, [2, 1], [7]), (20, [2, 3, 4, 5], [61, 2, 761])], [], [(2, 0, 0, [155]), (0, 0, 24, []), (0, 0, 48, [])], [(21, [29, 32], [48]), (21, [31, 32], [48]), (24, [3, 33], []), (23, [34, 4], [0, 1, -1]), (23, [34, 4], [0, -1, 1]), (23, [35, 5], [0, 1, -1]), (23, [35, 5], [0, -1, 1]), (20, [30, 2, 33, 29, 31, 32, 34, 35], [61, 3, 765])], [], [])
theorem oo_Gr_copyFrom_5 {kA : Nat → ClassId} : or_ok PRD kA GG o_Gr_copyFrom_5 := by
  refine or_mk fun A ta ws vs hD hth hl => ?_
  intro t0 r0 t3 r3 t4 k4 t5 k5 t29 k29 t31 k31 t32 k32 f0 f1 f2 f3 f4
  replace f0 := shm_215 f0
  replace f1 := shm_163 f1
  replace f2 := shm_293 f2
  replace f3 := shm_198 f3
  replace f4 := shm_1354 f4
  have ad_3 : v_ad (n_v vs 3) = w_ar ws (n_v vs 1) 8 := congrArg v_ad f2
  have ad_2 : v_ad (n_v vs 2) = w_ar ws (n_v vs 1) 7 := congrArg v_ad f3
  have g0 : v_iv (n_v vs 5) = w_fi ws (n_v vs 0) 1 := congrArg v_iv f0
  have g1 : v_iv (n_v vs 4) = w_fi ws (n_v vs 0) 0 := congrArg v_iv f1
  simp only [ad_2, ad_3] at f4
  have kz_0_0 := fdq_21 hD hth r0
  have kz_0_1 := fdq_30 hD hth r0
  obtain ⟨y, ey, hy⟩ := iv_ex (ta := ta) (lo := 0) (hi := 24) (z := v_iv (n_v vs 4)) (by omega) (by omega) (by omega) (by omega)
  have ey2 : v_iv (Value.int y) = v_iv (n_v vs 4) := ey
  have ey3 : 0 ≤ v_iv (Value.int y) ∧ v_iv (Value.int y) ≤ 24 := tv_rng hy
  obtain ⟨u, eu, hu⟩ := iv_ex (ta := ta) (lo := 0) (hi := 48) (z := v_iv (n_v vs 5)) (by omega) (by omega) (by omega) (by omega)
  have eu2 : v_iv (Value.int u) = v_iv (n_v vs 5) := eu
  have eu3 : 0 ≤ v_iv (Value.int u) ∧ v_iv (Value.int u) ≤ 48 := tv_rng hu
  have e_2 : n_v (vs ++ [n_v vs 3, Value.int y, Value.int u]) 2 = n_v vs 2 := n_v_old (by rw [hl]; decide)
  have e_3 : n_v (vs ++ [n_v vs 3, Value.int y, Value.int u]) 3 = n_v vs 3 := n_v_old (by rw [hl]; decide)
  have e_4 : n_v (vs ++ [n_v vs 3, Value.int y, Value.int u]) 4 = n_v vs 4 := n_v_old (by rw [hl]; decide)
  have e_5 : n_v (vs ++ [n_v vs 3, Value.int y, Value.int u]) 5 = n_v vs 5 := n_v_old (by rw [hl]; decide)
  have e_29 : n_v (vs ++ [n_v vs 3, Value.int y, Value.int u]) 29 = n_v vs 29 := n_v_old (by rw [hl]; decide)
  have e_30 : n_v (vs ++ [n_v vs 3, Value.int y, Value.int u]) 30 = n_v vs 30 := n_v_old (by rw [hl]; decide)
  have e_31 : n_v (vs ++ [n_v vs 3, Value.int y, Value.int u]) 31 = n_v vs 31 := n_v_old (by rw [hl]; decide)
  have e_32 : n_v (vs ++ [n_v vs 3, Value.int y, Value.int u]) 32 = n_v vs 32 := n_v_old (by rw [hl]; decide)
  have e_33 : n_v (vs ++ [n_v vs 3, Value.int y, Value.int u]) 33 = n_v vs 3 := n_v_newk (k := 0) hl rfl
  have e_34 : n_v (vs ++ [n_v vs 3, Value.int y, Value.int u]) 34 = Value.int y := n_v_newk (k := 1) hl rfl
  have e_35 : n_v (vs ++ [n_v vs 3, Value.int y, Value.int u]) 35 = Value.int u := n_v_newk (k := 2) hl rfl
  have nf0 : fc_1 PRD (21, [29, 32], [48]) ws (vs ++ [n_v vs 3, Value.int y, Value.int u]) := by
    refine ⟨nf_inA hl rfl, sgq_858 ?_⟩
    · show v_iv (n_v (vs ++ [n_v vs 3, Value.int y, Value.int u]) 29) + v_iv (n_v (vs ++ [n_v vs 3, Value.int y, Value.int u]) 32) ≤ 48
      simp only [e_29, e_32]
      exact vc_Gr_copyFrom_5_0 (v_iv (n_v vs 29)) (v_iv (n_v vs 32)) k29 k32
  have nf1 : fc_1 PRD (21, [31, 32], [48]) ws (vs ++ [n_v vs 3, Value.int y, Value.int u]) := by
    refine ⟨nf_inA hl rfl, sgq_858 ?_⟩
    · show v_iv (n_v (vs ++ [n_v vs 3, Value.int y, Value.int u]) 31) + v_iv (n_v (vs ++ [n_v vs 3, Value.int y, Value.int u]) 32) ≤ 48
      simp only [e_31, e_32]
      exact vc_Gr_copyFrom_5_1 (v_iv (n_v vs 31)) (v_iv (n_v vs 32)) k31 k32
  have nf2 : fc_1 PRD (24, [3, 33], []) ws (vs ++ [n_v vs 3, Value.int y, Value.int u]) := by
    refine ⟨nf_inA hl rfl, sgq_5 ?_⟩
    · show n_v (vs ++ [n_v vs 3, Value.int y, Value.int u]) 3 = n_v (vs ++ [n_v vs 3, Value.int y, Value.int u]) 33
      first | rfl | simp only [e_3, e_33]
  have nf3 : fc_1 PRD (23, [34, 4], [0, 1, -1]) ws (vs ++ [n_v vs 3, Value.int y, Value.int u]) := by
    refine ⟨nf_inA hl rfl, sgq_7 ?_⟩
    · show 1 * v_iv (n_v (vs ++ [n_v vs 3, Value.int y, Value.int u]) 34) + ((-1) * v_iv (n_v (vs ++ [n_v vs 3, Value.int y, Value.int u]) 4) + 0) ≤ 0
      simp only [e_4, e_34]
      exact vc_Gr_copyFrom_5_3 (v_iv (n_v vs 4)) (w_fi ws (n_v vs 0) 0) (v_iv (Value.int y)) k4 g1 kz_0_0 ey2
  have nf4 : fc_1 PRD (23, [34, 4], [0, -1, 1]) ws (vs ++ [n_v vs 3, Value.int y, Value.int u]) := by
    refine ⟨nf_inA hl rfl, sgq_22 ?_⟩
    · show (-1) * v_iv (n_v (vs ++ [n_v vs 3, Value.int y, Value.int u]) 34) + (1 * v_iv (n_v (vs ++ [n_v vs 3, Value.int y, Value.int u]) 4) + 0) ≤ 0
      simp only [e_4, e_34]
      exact vc_Gr_copyFrom_5_4 (v_iv (n_v vs 4)) (w_fi ws (n_v vs 0) 0) (v_iv (Value.int y)) k4 g1 kz_0_0 ey2
  have nf5 : fc_1 PRD (23, [35, 5], [0, 1, -1]) ws (vs ++ [n_v vs 3, Value.int y, Value.int u]) := by
    refine ⟨nf_inA hl rfl, sgq_7 ?_⟩
    · show 1 * v_iv (n_v (vs ++ [n_v vs 3, Value.int y, Value.int u]) 35) + ((-1) * v_iv (n_v (vs ++ [n_v vs 3, Value.int y, Value.int u]) 5) + 0) ≤ 0
      simp only [e_5, e_35]
      exact vc_Gr_copyFrom_5_5 (v_iv (n_v vs 5)) (w_fi ws (n_v vs 0) 1) (v_iv (Value.int u)) k5 g0 kz_0_1 eu2
  have nf6 : fc_1 PRD (23, [35, 5], [0, -1, 1]) ws (vs ++ [n_v vs 3, Value.int y, Value.int u]) := by
    refine ⟨nf_inA hl rfl, sgq_22 ?_⟩
    · show (-1) * v_iv (n_v (vs ++ [n_v vs 3, Value.int y, Value.int u]) 35) + (1 * v_iv (n_v (vs ++ [n_v vs 3, Value.int y, Value.int u]) 5) + 0) ≤ 0
      simp only [e_5, e_35]
      exact vc_Gr_copyFrom_5_6 (v_iv (n_v vs 5)) (w_fi ws (n_v vs 0) 1) (v_iv (Value.int u)) k5 g0 kz_0_1 eu2
  have nf7 : fc_1 PRD (20, [30, 2, 33, 29, 31, 32, 34, 35], [61, 3, 765]) ws (vs ++ [n_v vs 3, Value.int y, Value.int u]) := by
    refine ⟨nf_inA hl rfl, sgq_1355 ?_⟩
    · show CA1 (w_ei ws (v_ad (n_v (vs ++ [n_v vs 3, Value.int y, Value.int u]) 30))) (w_ei ws (v_ad (n_v (vs ++ [n_v vs 3, Value.int y, Value.int u]) 2))) (w_ei ws (v_ad (n_v (vs ++ [n_v vs 3, Value.int y, Value.int u]) 33))) (v_iv (n_v (vs ++ [n_v vs 3, Value.int y, Value.int u]) 29)) (v_iv (n_v (vs ++ [n_v vs 3, Value.int y, Value.int u]) 31)) (v_iv (n_v (vs ++ [n_v vs 3, Value.int y, Value.int u]) 32)) (v_iv (n_v (vs ++ [n_v vs 3, Value.int y, Value.int u]) 34)) (v_iv (n_v (vs ++ [n_v vs 3, Value.int y, Value.int u]) 35))
      simp only [e_2, e_29, e_30, e_31, e_32, e_33, e_34, e_35, ad_2, ad_3]
      exact vc_Gr_copyFrom_5_7 (v_iv (n_v vs 4)) (v_iv (n_v vs 5)) (v_iv (n_v vs 29)) (v_iv (n_v vs 31)) (v_iv (n_v vs 32)) (w_fi ws (n_v vs 0) 1) (w_ei ws (w_ar ws (n_v vs 1) 7)) (w_ei ws (w_ar ws (n_v vs 1) 8)) (w_ei ws (v_ad (n_v vs 30))) (v_iv (Value.int y)) (v_iv (Value.int u)) k4 k5 k29 k31 k32 g0 f4 kz_0_1 ey2 eu2
  exact ⟨(fun _ h => (by cases h)), [n_v vs 3, Value.int y, Value.int u], ag_three t3 hy hu, List.forall_mem_cons.mpr ⟨⟨show (21 : Nat) < 100 from by decide, nf0⟩, List.forall_mem_cons.mpr ⟨⟨show (21 : Nat) < 100 from by decide, nf1⟩, List.forall_mem_cons.mpr ⟨⟨show (24 : Nat) < 100 from by decide, nf2⟩, List.forall_mem_cons.mpr ⟨⟨show (23 : Nat) < 100 from by decide, nf3⟩, List.forall_mem_cons.mpr ⟨⟨show (23 : Nat) < 100 from by decide, nf4⟩, List.forall_mem_cons.mpr ⟨⟨show (23 : Nat) < 100 from by decide, nf5⟩, List.forall_mem_cons.mpr ⟨⟨show (23 : Nat) < 100 from by decide, nf6⟩, List.forall_mem_cons.mpr ⟨⟨show (20 : Nat) < 100 from by decide, nf7⟩, (fun _ h => (by cases h))⟩⟩⟩⟩⟩⟩⟩⟩, (fun _ h => (by cases h))⟩
set_option maxHeartbeats 4000000 in
theorem vc_Gr_copyFrom_6_0 (x36 : Int) (x39 : Int) (k36 : 0 ≤ x36 ∧ x36 ≤ 0) (k39 : 48 ≤ x39 ∧ x39 ≤ 48) : x36 + x39 ≤ 48 := by
  first
    | omega
  
set_option maxHeartbeats 4000000 in
theorem vc_Gr_copyFrom_6_1 (x38 : Int) (x39 : Int) (k38 : 0 ≤ x38 ∧ x38 ≤ 0) (k39 : 48 ≤ x39 ∧ x39 ≤ 48) : x38 + x39 ≤ 48 := by
  first
    | omega
  
set_option maxHeartbeats 4000000 in
theorem vc_Gr_copyFrom_6_3 (x4 : Int) (nodes_0 : Int) (gy : Int) (k4 : 0 ≤ x4 ∧ x4 ≤ 24) (g1 : x4 = nodes_0) (kz_0_0 : 0 ≤ nodes_0 ∧ nodes_0 ≤ 24) (ey2 : gy = x4) : 1 * gy + ((-1) * x4 + 0) ≤ 0 := by
  first
    | omega
  
set_option maxHeartbeats 4000000 in
theorem vc_Gr_copyFrom_6_4 (x4 : Int) (nodes_0 : Int) (gy : Int) (k4 : 0 ≤ x4 ∧ x4 ≤ 24) (g1 : x4 = nodes_0) (kz_0_0 : 0 ≤ nodes_0 ∧ nodes_0 ≤ 24) (ey2 : gy = x4) : (-1) * gy + (1 * x4 + 0) ≤ 0 := by
  first
    | omega
  
set_option maxHeartbeats 4000000 in
theorem vc_Gr_copyFrom_6_5 (x5 : Int) (edges_0 : Int) (gu : Int) (k5 : 0 ≤ x5 ∧ x5 ≤ 48) (g0 : x5 = edges_0) (kz_0_1 : 0 ≤ edges_0 ∧ edges_0 ≤ 48) (eu2 : gu = x5) : 1 * gu + ((-1) * x5 + 0) ≤ 0 := by
  first
    | omega
  
set_option maxHeartbeats 4000000 in
theorem vc_Gr_copyFrom_6_6 (x5 : Int) (edges_0 : Int) (gu : Int) (k5 : 0 ≤ x5 ∧ x5 ≤ 48) (g0 : x5 = edges_0) (kz_0_1 : 0 ≤ edges_0 ∧ edges_0 ≤ 48) (eu2 : gu = x5) : (-1) * gu + (1 * x5 + 0) ≤ 0 := by
  first
    | omega
  
set_option maxHeartbeats 4000000 in
theorem vc_Gr_copyFrom_6_7 (x4 : Int) (x5 : Int) (x29 : Int) (x31 : Int) (x32 : Int) (x34 : Int) (x35 : Int) (x36 : Int) (x38 : Int) (x39 : Int) (edges_0 : Int) (nodes_0 : Int) (tail_0o1 : Int → Int) (head_0o1 : Int → Int) (a30_0 : Int → Int) (a37_0 : Int → Int) (gy : Int) (gu : Int) (k4 : 0 ≤ x4 ∧ x4 ≤ 24) (k5 : 0 ≤ x5 ∧ x5 ≤ 48) (k29 : 0 ≤ x29 ∧ x29 ≤ 0) (k31 : 0 ≤ x31 ∧ x31 ≤ 0) (k32 : 48 ≤ x32 ∧ x32 ≤ 48) (k34 : 0 ≤ x34 ∧ x34 ≤ 24) (k35 : 0 ≤ x35 ∧ x35 ≤ 48) (k36 : 0 ≤ x36 ∧ x36 ≤ 0) (k38 : 0 ≤ x38 ∧ x38 ≤ 0) (k39 : 48 ≤ x39 ∧ x39 ≤ 48) (g0 : x5 = edges_0) (g1 : x4 = nodes_0) (f7 : 1 * x34 + ((-1) * x4 + 0) ≤ 0) (f8 : (-1) * x34 + (1 * x4 + 0) ≤ 0) (f9 : 1 * x35 + ((-1) * x5 + 0) ≤ 0) (f10 : (-1) * x35 + (1 * x5 + 0) ≤ 0) (f13 : CA2 (a30_0) (tail_0o1) (head_0o1) (x29) (x31) (x32) (x34) (x35)) (kz_0_0 : 0 ≤ nodes_0 ∧ nodes_0 ≤ 24) (kz_0_1 : 0 ≤ edges_0 ∧ edges_0 ≤ 48) (ey2 : gy = x4) (eu2 : gu = x5) : CB1 (a37_0) (head_0o1) (a30_0) (x36) (x38) (x39) (gy) (gu) := by
  first
    | exact cb1_of ‹CA2 _ _ _ _ _ _ _ _› (by omega) (by omega) (by omega) (by omega) (by omega) (by omega)
  
def o_Gr_copyFrom_6 : or_T := (124, 40, [(0, (2, 0, 0, [3])), (4, (0, 0, 24, [])), (5, (0, 0, 48, [])), (29, (0, 0, 0, [])), (30, (2, 0, 0, [52])), (31, (0, 0, 0, [])), (32, (0, 48, 48, [])), (34, (0, 0, 24, [])), (35, (0, 0, 48, [])), (36, (0, 0, 0, [])), (38, (0, 0, 0, [])), (39, (0, 48, 48, []))], [(9, [5, 0], [1]), (9, [4, 0], [0]), (9, [2, 1], [7]), (9, [3, 1], [8]), (24, [3, 33], []), (23, [34, 4], [0, 1, -1]), (23, [34, 4], [0, -1, 1]), (23, [35, 5], [0, 1, -1]), (23, [35, 5], [0, -1, 1]), (20, [30, 2, 33, 29, 31, 32, 34, 35], [61, 3, 766])], [], [(2, 0, 0, [52]), (0, 0, 24, []), (0, 0, 48, [])], [(21, [36, 39], [48]), (21, [38, 39], [48]), (24, [30, 40], []), (23, [41, 4], [0, 1, -1]), (23, [41, 4], [0, -1, 1]), (23, [42, 5], [0, 1, -1]), (23, [42, 5], [0, -1, 1]), (20, [37, 3, 40, 36, 38, 39, 41, 42], [61, 3, 767])], [], [])
theorem oo_Gr_copyFrom_6 {kA : Nat → ClassId} : or_ok PRD kA GG o_Gr_copyFrom_6 := by
  refine or_mk fun A ta ws vs hD hth hl => ?_
  intro t0 r0 t4 k4 t5 k5 t29 k29 t30 r30 t31 k31 t32 k32 t34 k34 t35 k35 t36 k36 t38 k38 t39 k39 f0 f1 f2 f3 f6 f7 f8 f9 f10 f13
  replace f0 := shm_215 f0
  replace f1 := shm_163 f1
  replace f2 := shm_198 f2
  replace f3 := shm_293 f3
  replace f6 := shm_5 f6
  replace f7 := shm_7 f7
  replace f8 := shm_22 f8
  replace f9 := shm_7 f9
  replace f10 := shm_22 f10
  replace f13 := shm_1356 f13
  have q33 : n_v vs 33 = n_v vs 3 := f6.symm
  simp only [q33] at f13
  have ad_2 : v_ad (n_v vs 2) = w_ar ws (n_v vs 1) 7 := congrArg v_ad f2
  have ad_3 : v_ad (n_v vs 3) = w_ar ws (n_v vs 1) 8 := congrArg v_ad f3
  have g0 : v_iv (n_v vs 5) = w_fi ws (n_v vs 0) 1 := congrArg v_iv f0
  have g1 : v_iv (n_v vs 4) = w_fi ws (n_v vs 0) 0 := congrArg v_iv f1
  simp only [ad_2, ad_3] at f13
  have kz_0_0 := fdq_21 hD hth r0
  have kz_0_1 := fdq_30 hD hth r0
  obtain ⟨y, ey, hy⟩ := iv_ex (ta := ta) (lo := 0) (hi := 24) (z := v_iv (n_v vs 4)) (by omega) (by omega) (by omega) (by omega)
  have ey2 : v_iv (Value.int y) = v_iv (n_v vs 4) := ey
  have ey3 : 0 ≤ v_iv (Value.int y) ∧ v_iv (Value.int y) ≤ 24 := tv_rng hy
  obtain ⟨u, eu, hu⟩ := iv_ex (ta := ta) (lo := 0) (hi := 48) (z := v_iv (n_v vs 5)) (by omega) (by omega) (by omega) (by omega)
  have eu2 : v_iv (Value.int u) = v_iv (n_v vs 5) := eu
  have eu3 : 0 ≤ v_iv (Value.int u) ∧ v_iv (Value.int u) ≤ 48 := tv_rng hu
  have e_3 : n_v (vs ++ [n_v vs 30, Value.int y, Value.int u]) 3 = n_v vs 3 := n_v_old (by rw [hl]; decide)
  have e_4 : n_v (vs ++ [n_v vs 30, Value.int y, Value.int u]) 4 = n_v vs 4 := n_v_old (by rw [hl]; decide)
  have e_5 : n_v (vs ++ [n_v vs 30, Value.int y, Value.int u]) 5 = n_v vs 5 := n_v_old (by rw [hl]; decide)
  have e_30 : n_v (vs ++ [n_v vs 30, Value.int y, Value.int u]) 30 = n_v vs 30 := n_v_old (by rw [hl]; decide)
  have e_36 : n_v (vs ++ [n_v vs 30, Value.int y, Value.int u]) 36 = n_v vs 36 := n_v_old (by rw [hl]; decide)
  have e_37 : n_v (vs ++ [n_v vs 30, Value.int y, Value.int u]) 37 = n_v vs 37 := n_v_old (by rw [hl]; decide)
  have e_38 : n_v (vs ++ [n_v vs 30, Value.int y, Value.int u]) 38 = n_v vs 38 := n_v_old (by rw [hl]; decide)
  have e_39 : n_v (vs ++ [n_v vs 30, Value.int y, Value.int u]) 39 = n_v vs 39 := n_v_old (by rw [hl]; decide)
  have e_40 : n_v (vs ++ [n_v vs 30, Value.int y, Value.int u]) 40 = n_v vs 30 := n_v_newk (k := 0) hl rfl
  have e_41 : n_v (vs ++ [n_v vs 30, Value.int y, Value.int u]) 41 = Value.int y := n_v_newk (k := 1) hl rfl
  have e_42 : n_v (vs ++ [n_v vs 30, Value.int y, Value.int u]) 42 = Value.int u := n_v_newk (k := 2) hl rfl
  have nf0 : fc_1 PRD (21, [36, 39], [48]) ws (vs ++ [n_v vs 30, Value.int y, Value.int u]) := by
    refine ⟨nf_inA hl rfl, sgq_858 ?_⟩
    · show v_iv (n_v (vs ++ [n_v vs 30, Value.int y, Value.int u]) 36) + v_iv (n_v (vs ++ [n_v vs 30, Value.int y, Value.int u]) 39) ≤ 48
      simp only [e_36, e_39]
      exact vc_Gr_copyFrom_6_0 (v_iv (n_v vs 36)) (v_iv (n_v vs 39)) k36 k39
  have nf1 : fc_1 PRD (21, [38, 39], [48]) ws (vs ++ [n_v vs 30, Value.int y, Value.int u]) := by
    refine ⟨nf_inA hl rfl, sgq_858 ?_⟩
    · show v_iv (n_v (vs ++ [n_v vs 30, Value.int y, Value.int u]) 38) + v_iv (n_v (vs ++ [n_v vs 30, Value.int y, Value.int u]) 39) ≤ 48
      simp only [e_38, e_39]
      exact vc_Gr_copyFrom_6_1 (v_iv (n_v vs 38)) (v_iv (n_v vs 39)) k38 k39
  have nf2 : fc_1 PRD (24, [30, 40], []) ws (vs ++ [n_v vs 30, Value.int y, Value.int u]) := by
    refine ⟨nf_inA hl rfl, sgq_5 ?_⟩
    · show n_v (vs ++ [n_v vs 30, Value.int y, Value.int u]) 30 = n_v (vs ++ [n_v vs 30, Value.int y, Value.int u]) 40
      first | rfl | simp only [e_30, e_40, q33]
  have nf3 : fc_1 PRD (23, [41, 4], [0, 1, -1]) ws (vs ++ [n_v vs 30, Value.int y, Value.int u]) := by
    refine ⟨nf_inA hl rfl, sgq_7 ?_⟩
    · show 1 * v_iv (n_v (vs ++ [n_v vs 30, Value.int y, Value.int u]) 41) + ((-1) * v_iv (n_v (vs ++ [n_v vs 30, Value.int y, Value.int u]) 4) + 0) ≤ 0
      simp only [e_4, e_41]
      exact vc_Gr_copyFrom_6_3 (v_iv (n_v vs 4)) (w_fi ws (n_v vs 0) 0) (v_iv (Value.int y)) k4 g1 kz_0_0 ey2
  have nf4 : fc_1 PRD (23, [41, 4], [0, -1, 1]) ws (vs ++ [n_v vs 30, Value.int y, Value.int u]) := by
    refine ⟨nf_inA hl rfl, sgq_22 ?_⟩
    · show (-1) * v_iv (n_v (vs ++ [n_v vs 30, Value.int y, Value.int u]) 41) + (1 * v_iv (n_v (vs ++ [n_v vs 30, Value.int y, Value.int u]) 4) + 0) ≤ 0
      simp only [e_4, e_41]
      exact vc_Gr_copyFrom_6_4 (v_iv (n_v vs 4)) (w_fi ws (n_v vs 0) 0) (v_iv (Value.int y)) k4 g1 kz_0_0 ey2
  have nf5 : fc_1 PRD (23, [42, 5], [0, 1, -1]) ws (vs ++ [n_v vs 30, Value.int y, Value.int u]) := by
    refine ⟨nf_inA hl rfl, sgq_7 ?_⟩
    · show 1 * v_iv (n_v (vs ++ [n_v vs 30, Value.int y, Value.int u]) 42) + ((-1) * v_iv (n_v (vs ++ [n_v vs 30, Value.int y, Value.int u]) 5) + 0) ≤ 0
      simp only [e_5, e_42]
      exact vc_Gr_copyFrom_6_5 (v_iv (n_v vs 5)) (w_fi ws (n_v vs 0) 1) (v_iv (Value.int u)) k5 g0 kz_0_1 eu2
  have nf6 : fc_1 PRD (23, [42, 5], [0, -1, 1]) ws (vs ++ [n_v vs 30, Value.int y, Value.int u]) := by
    refine ⟨nf_inA hl rfl, sgq_22 ?_⟩
    · show (-1) * v_iv (n_v (vs ++ [n_v vs 30, Value.int y, Value.int u]) 42) + (1 * v_iv (n_v (vs ++ [n_v vs 30, Value.int y, Value.int u]) 5) + 0) ≤ 0
      simp only [e_5, e_42]
      exact vc_Gr_copyFrom_6_6 (v_iv (n_v vs 5)) (w_fi ws (n_v vs 0) 1) (v_iv (Value.int u)) k5 g0 kz_0_1 eu2
  have nf7 : fc_1 PRD (20, [37, 3, 40, 36, 38, 39, 41, 42], [61, 3, 767]) ws (vs ++ [n_v vs 30, Value.int y, Value.int u]) := by
    refine ⟨nf_inA hl rfl, sgq_1357 ?_⟩
    · show CB1 (w_ei ws (v_ad (n_v (vs ++ [n_v vs 30, Value.int y, Value.int u]) 37))) (w_ei ws (v_ad (n_v (vs ++ [n_v vs 30, Value.int y, Value.int u]) 3))) (w_ei ws (v_ad (n_v (vs ++ [n_v vs 30, Value.int y, Value.int u]) 40))) (v_iv (n_v (vs ++ [n_v vs 30, Value.int y, Value.int u]) 36)) (v_iv (n_v (vs ++ [n_v vs 30, Value.int y, Value.int u]) 38)) (v_iv (n_v (vs ++ [n_v vs 30, Value.int y, Value.int u]) 39)) (v_iv (n_v (vs ++ [n_v vs 30, Value.int y, Value.int u]) 41)) (v_iv (n_v (vs ++ [n_v vs 30, Value.int y, Value.int u]) 42))
      simp only [e_3, e_36, e_37, e_38, e_39, e_40, e_41, e_42, ad_3]
      exact vc_Gr_copyFrom_6_7 (v_iv (n_v vs 4)) (v_iv (n_v vs 5)) (v_iv (n_v vs 29)) (v_iv (n_v vs 31)) (v_iv (n_v vs 32)) (v_iv (n_v vs 34)) (v_iv (n_v vs 35)) (v_iv (n_v vs 36)) (v_iv (n_v vs 38)) (v_iv (n_v vs 39)) (w_fi ws (n_v vs 0) 1) (w_fi ws (n_v vs 0) 0) (w_ei ws (w_ar ws (n_v vs 1) 7)) (w_ei ws (w_ar ws (n_v vs 1) 8)) (w_ei ws (v_ad (n_v vs 30))) (w_ei ws (v_ad (n_v vs 37))) (v_iv (Value.int y)) (v_iv (Value.int u)) k4 k5 k29 k31 k32 k34 k35 k36 k38 k39 g0 g1 f7 f8 f9 f10 f13 kz_0_0 kz_0_1 ey2 eu2
  exact ⟨(fun _ h => (by cases h)), [n_v vs 30, Value.int y, Value.int u], ag_three t30 hy hu, List.forall_mem_cons.mpr ⟨⟨show (21 : Nat) < 100 from by decide, nf0⟩, List.forall_mem_cons.mpr ⟨⟨show (21 : Nat) < 100 from by decide, nf1⟩, List.forall_mem_cons.mpr ⟨⟨show (24 : Nat) < 100 from by decide, nf2⟩, List.forall_mem_cons.mpr ⟨⟨show (23 : Nat) < 100 from by decide, nf3⟩, List.forall_mem_cons.mpr ⟨⟨show (23 : Nat) < 100 from by decide, nf4⟩, List.forall_mem_cons.mpr ⟨⟨show (23 : Nat) < 100 from by decide, nf5⟩, List.forall_mem_cons.mpr ⟨⟨show (23 : Nat) < 100 from by decide, nf6⟩, List.forall_mem_cons.mpr ⟨⟨show (20 : Nat) < 100 from by decide, nf7⟩, (fun _ h => (by cases h))⟩⟩⟩⟩⟩⟩⟩⟩, (fun _ h => (by cases h))⟩
set_option maxHeartbeats 4000000 in
theorem vc_Gr_copyFrom_7_0 (x44 : Int) (x47 : Int) (k44 : 0 ≤ x44 ∧ x44 ≤ 0) (k47 : 48 ≤ x47 ∧ x47 ≤ 48) : x44 + x47 ≤ 48 := by
  first
    | omega
  
set_option maxHeartbeats 4000000 in
theorem vc_Gr_copyFrom_7_1 (x46 : Int) (x47 : Int) (k46 : 0 ≤ x46 ∧ x46 ≤ 0) (k47 : 48 ≤ x47 ∧ x47 ≤ 48) : x46 + x47 ≤ 48 := by
  first
    | omega
  
def o_Gr_copyFrom_7 : or_T := (139, 48, [(44, (0, 0, 0, [])), (46, (0, 0, 0, [])), (47, (0, 48, 48, []))], [], [], [], [(21, [44, 47], [48]), (21, [46, 47], [48])], [], [])
theorem oo_Gr_copyFrom_7 {kA : Nat → ClassId} : or_ok PRD kA GG o_Gr_copyFrom_7 := by
  refine or_mk fun A ta ws vs hD hth hl => ?_
  intro t44 k44 t46 k46 t47 k47
  have nf0 : fc_1 PRD (21, [44, 47], [48]) ws (vs) := ⟨nf_in hl rfl, sgq_858 (vc_Gr_copyFrom_7_0 (v_iv (n_v vs 44)) (v_iv (n_v vs 47)) k44 k47)⟩
  have nf1 : fc_1 PRD (21, [46, 47], [48]) ws (vs) := ⟨nf_in hl rfl, sgq_858 (vc_Gr_copyFrom_7_1 (v_iv (n_v vs 46)) (v_iv (n_v vs 47)) k46 k47)⟩
  refine ⟨(fun _ h => (by cases h)), [], trivial, ?_, (fun _ h => (by cases h))⟩
  rw [List.append_nil]
  exact List.forall_mem_cons.mpr ⟨⟨show (21 : Nat) < 100 from by decide, nf0⟩, List.forall_mem_cons.mpr ⟨⟨show (21 : Nat) < 100 from by decide, nf1⟩, (fun _ h => (by cases h))⟩⟩
set_option maxHeartbeats 4000000 in
theorem vc_Gr_copyFrom_8_0 (x49 : Int) (x52 : Int) (k49 : 0 ≤ x49 ∧ x49 ≤ 0) (k52 : 48 ≤ x52 ∧ x52 ≤ 48) : x49 + x52 ≤ 48 := by
  first
    | omega
  
set_option maxHeartbeats 4000000 in
theorem vc_Gr_copyFrom_8_1 (x51 : Int) (x52 : Int) (k51 : 0 ≤ x51 ∧ x51 ≤ 0) (k52 : 48 ≤ x52 ∧ x52 ≤ 48) : x51 + x52 ≤ 48 := by
  first
    | omega
  
def o_Gr_copyFrom_8 : or_T := (154, 53, [(49, (0, 0, 0, [])), (51, (0, 0, 0, [])), (52, (0, 48, 48, []))], [], [], [], [(21, [49, 52], [48]), (21, [51, 52], [48])], [], [])
theorem oo_Gr_copyFrom_8 {kA : Nat → ClassId} : or_ok PRD kA GG o_Gr_copyFrom_8 := by
  refine or_mk fun A ta ws vs hD hth hl => ?_
  intro t49 k49 t51 k51 t52 k52
  have nf0 : fc_1 PRD (21, [49, 52], [48]) ws (vs) := ⟨nf_in hl rfl, sgq_858 (vc_Gr_copyFrom_8_0 (v_iv (n_v vs 49)) (v_iv (n_v vs 52)) k49 k52)⟩
  have nf1 : fc_1 PRD (21, [51, 52], [48]) ws (vs) := ⟨nf_in hl rfl, sgq_858 (vc_Gr_copyFrom_8_1 (v_iv (n_v vs 51)) (v_iv (n_v vs 52)) k51 k52)⟩
  refine ⟨(fun _ h => (by cases h)), [], trivial, ?_, (fun _ h => (by cases h))⟩
  rw [List.append_nil]
  exact List.forall_mem_cons.mpr ⟨⟨show (21 : Nat) < 100 from by decide, nf0⟩, List.forall_mem_cons.mpr ⟨⟨show (21 : Nat) < 100 from by decide, nf1⟩, (fun _ h => (by cases h))⟩⟩
set_option maxHeartbeats 4000000 in
theorem vc_Gr_copyFrom_9_0 (x54 : Int) (x57 : Int) (k54 : 0 ≤ x54 ∧ x54 ≤ 0) (k57 : 8 ≤ x57 ∧ x57 ≤ 8) : x54 + x57 ≤ 8 := by
  first
    | omega
  
set_option maxHeartbeats 4000000 in
theorem vc_Gr_copyFrom_9_1 (x56 : Int) (x57 : Int) (k56 : 0 ≤ x56 ∧ x56 ≤ 0) (k57 : 8 ≤ x57 ∧ x57 ≤ 8) : x56 + x57 ≤ 8 := by
  first
    | omega
  
def o_Gr_copyFrom_9 : or_T := (169, 58, [(54, (0, 0, 0, [])), (56, (0, 0, 0, [])), (57, (0, 8, 8, []))], [], [], [], [(21, [54, 57], [8]), (21, [56, 57], [8])], [], [])
theorem oo_Gr_copyFrom_9 {kA : Nat → ClassId} : or_ok PRD kA GG o_Gr_copyFrom_9 := by
  refine or_mk fun A ta ws vs hD hth hl => ?_
  intro t54 k54 t56 k56 t57 k57
  have nf0 : fc_1 PRD (21, [54, 57], [8]) ws (vs) := ⟨nf_in hl rfl, sgq_1359 (vc_Gr_copyFrom_9_0 (v_iv (n_v vs 54)) (v_iv (n_v vs 57)) k54 k57)⟩
  have nf1 : fc_1 PRD (21, [56, 57], [8]) ws (vs) := ⟨nf_in hl rfl, sgq_1359 (vc_Gr_copyFrom_9_1 (v_iv (n_v vs 56)) (v_iv (n_v vs 57)) k56 k57)⟩
  refine ⟨(fun _ h => (by cases h)), [], trivial, ?_, (fun _ h => (by cases h))⟩
  rw [List.append_nil]
  exact List.forall_mem_cons.mpr ⟨⟨show (21 : Nat) < 100 from by decide, nf0⟩, List.forall_mem_cons.mpr ⟨⟨show (21 : Nat) < 100 from by decide, nf1⟩, (fun _ h => (by cases h))⟩⟩
set_option maxHeartbeats 4000000 in
theorem vc_Gr_copyFrom_10_0 (x59 : Int) (x62 : Int) (k59 : 0 ≤ x59 ∧ x59 ≤ 0) (k62 : 64 ≤ x62 ∧ x62 ≤ 64) : x59 + x62 ≤ 64 := by
  first
    | omega
  
set_option maxHeartbeats 4000000 in
theorem vc_Gr_copyFrom_10_1 (x61 : Int) (x62 : Int) (k61 : 0 ≤ x61 ∧ x61 ≤ 0) (k62 : 64 ≤ x62 ∧ x62 ≤ 64) : x61 + x62 ≤ 64 := by
  first
    | omega
  
def o_Gr_copyFrom_10 : or_T := (187, 63, [(59, (0, 0, 0, [])), (61, (0, 0, 0, [])), (62, (0, 64, 64, []))], [], [], [], [(21, [59, 62], [64]), (21, [61, 62], [64])], [], [])
theorem oo_Gr_copyFrom_10 {kA : Nat → ClassId} : or_ok PRD kA GG o_Gr_copyFrom_10 := by
  refine or_mk fun A ta ws vs hD hth hl => ?_
  intro t59 k59 t61 k61 t62 k62
  have nf0 : fc_1 PRD (21, [59, 62], [64]) ws (vs) := ⟨nf_in hl rfl, sgq_1360 (vc_Gr_copyFrom_10_0 (v_iv (n_v vs 59)) (v_iv (n_v vs 62)) k59 k62)⟩
  have nf1 : fc_1 PRD (21, [61, 62], [64]) ws (vs) := ⟨nf_in hl rfl, sgq_1360 (vc_Gr_copyFrom_10_1 (v_iv (n_v vs 61)) (v_iv (n_v vs 62)) k61 k62)⟩
  refine ⟨(fun _ h => (by cases h)), [], trivial, ?_, (fun _ h => (by cases h))⟩
  rw [List.append_nil]
  exact List.forall_mem_cons.mpr ⟨⟨show (21 : Nat) < 100 from by decide, nf0⟩, List.forall_mem_cons.mpr ⟨⟨show (21 : Nat) < 100 from by decide, nf1⟩, (fun _ h => (by cases h))⟩⟩
set_option maxHeartbeats 4000000 in
theorem vc_Gr_copyFrom_11_0 (x64 : Int) (x67 : Int) (k64 : 0 ≤ x64 ∧ x64 ≤ 0) (k67 : 8 ≤ x67 ∧ x67 ≤ 8) : x64 + x67 ≤ 8 := by
  first
    | omega
  
set_option maxHeartbeats 4000000 in
theorem vc_Gr_copyFrom_11_1 (x66 : Int) (x67 : Int) (k66 : 0 ≤ x66 ∧ x66 ≤ 0) (k67 : 8 ≤ x67 ∧ x67 ≤ 8) : x66 + x67 ≤ 8 := by
  first
    | omega
  
def o_Gr_copyFrom_11 : or_T := (202, 68, [(64, (0, 0, 0, [])), (66, (0, 0, 0, [])), (67, (0, 8, 8, []))], [], [], [], [(21, [64, 67], [8]), (21, [66, 67], [8])], [], [])
theorem oo_Gr_copyFrom_11 {kA : Nat → ClassId} : or_ok PRD kA GG o_Gr_copyFrom_11 := by
  refine or_mk fun A ta ws vs hD hth hl => ?_
  intro t64 k64 t66 k66 t67 k67
  have nf0 : fc_1 PRD (21, [64, 67], [8]) ws (vs) := ⟨nf_in hl rfl, sgq_1359 (vc_Gr_copyFrom_11_0 (v_iv (n_v vs 64)) (v_iv (n_v vs 67)) k64 k67)⟩
  have nf1 : fc_1 PRD (21, [66, 67], [8]) ws (vs) := ⟨nf_in hl rfl, sgq_1359 (vc_Gr_copyFrom_11_1 (v_iv (n_v vs 66)) (v_iv (n_v vs 67)) k66 k67)⟩
  refine ⟨(fun _ h => (by cases h)), [], trivial, ?_, (fun _ h => (by cases h))⟩
  rw [List.append_nil]
  exact List.forall_mem_cons.mpr ⟨⟨show (21 : Nat) < 100 from by decide, nf0⟩, List.forall_mem_cons.mpr ⟨⟨show (21 : Nat) < 100 from by decide, nf1⟩, (fun _ h => (by cases h))⟩⟩
set_option maxHeartbeats 4000000 in
theorem vc_Gr_copyFrom_12_0 (x4 : Int) (x5 : Int) (x36 : Int) (x38 : Int) (x39 : Int) (x41 : Int) (x42 : Int) (edges_0 : Int) (nodes_0 : Int) (head_0o1 : Int → Int) (tail_0 : Int → Int) (head_0 : Int → Int) (k4 : 0 ≤ x4 ∧ x4 ≤ 24) (k5 : 0 ≤ x5 ∧ x5 ≤ 48) (k36 : 0 ≤ x36 ∧ x36 ≤ 0) (k38 : 0 ≤ x38 ∧ x38 ≤ 0) (k39 : 48 ≤ x39 ∧ x39 ≤ 48) (k41 : 0 ≤ x41 ∧ x41 ≤ 24) (k42 : 0 ≤ x42 ∧ x42 ≤ 48) (g2 : x5 = edges_0) (g3 : x4 = nodes_0) (f9 : 1 * x41 + ((-1) * x4 + 0) ≤ 0) (f10 : (-1) * x41 + (1 * x4 + 0) ≤ 0) (f11 : 1 * x42 + ((-1) * x5 + 0) ≤ 0) (f12 : (-1) * x42 + (1 * x5 + 0) ≤ 0) (f23 : CB2 (head_0) (head_0o1) (tail_0) (x36) (x38) (x39) (x41) (x42)) (kz_0_0 : 0 ≤ nodes_0 ∧ nodes_0 ≤ 24) (kz_0_1 : 0 ≤ edges_0 ∧ edges_0 ≤ 48) : GKE (nodes_0) (edges_0) (tail_0) (head_0) := by
  first
    | exact gke_cb ‹CB2 _ _ _ _ _ _ _ _› (by omega) (by omega)
def o_Gr_copyFrom_12 : or_T := (206, 68, [(0, (2, 0, 0, [3])), (4, (0, 0, 24, [])), (5, (0, 0, 48, [])), (36, (0, 0, 0, [])), (38, (0, 0, 0, [])), (39, (0, 48, 48, [])), (41, (0, 0, 24, [])), (42, (0, 0, 48, []))], [(9, [37, 0], [8]), (9, [30, 0], [7]), (9, [5, 0], [1]), (9, [4, 0], [0]), (9, [2, 1], [7]), (9, [3, 1], [8]), (24, [30, 40], []), (23, [41, 4], [0, 1, -1]), (23, [41, 4], [0, -1, 1]), (23, [42, 5], [0, 1, -1]), (23, [42, 5], [0, -1, 1]), (20, [37, 3, 40, 36, 38, 39, 41, 42], [61, 3, 768])], [], [], [(20, [0], [60, 2, 2, 596, 0, 1, 7, 8])], [], [])
theorem oo_Gr_copyFrom_12 {kA : Nat → ClassId} : or_ok PRD kA GG o_Gr_copyFrom_12 := by
  refine or_mk fun A ta ws vs hD hth hl => ?_
  intro t0 r0 t4 k4 t5 k5 t36 k36 t38 k38 t39 k39 t41 k41 t42 k42 f0 f1 f2 f3 f4 f5 f8 f9 f10 f11 f12 f23
  replace f0 := shm_293 f0
  replace f1 := shm_198 f1
  replace f2 := shm_215 f2
  replace f3 := shm_163 f3
  replace f4 := shm_198 f4
  replace f5 := shm_293 f5
  replace f8 := shm_5 f8
  replace f23 := shm_1358 f23
  have q40 : n_v vs 40 = n_v vs 30 := f8.symm
  simp only [q40] at f23
  have ad_37 : v_ad (n_v vs 37) = w_ar ws (n_v vs 0) 8 := congrArg v_ad f0
  have ad_30 : v_ad (n_v vs 30) = w_ar ws (n_v vs 0) 7 := congrArg v_ad f1
  have ad_2 : v_ad (n_v vs 2) = w_ar ws (n_v vs 1) 7 := congrArg v_ad f4
  have ad_3 : v_ad (n_v vs 3) = w_ar ws (n_v vs 1) 8 := congrArg v_ad f5
  have g2 : v_iv (n_v vs 5) = w_fi ws (n_v vs 0) 1 := congrArg v_iv f2
  have g3 : v_iv (n_v vs 4) = w_fi ws (n_v vs 0) 0 := congrArg v_iv f3
  simp only [ad_2, ad_3, ad_30, ad_37] at f23
  have kz_0_0 := fdq_21 hD hth r0
  have kz_0_1 := fdq_30 hD hth r0
  have nf0 : fc_1 PRD (20, [0], [60, 2, 2, 596, 0, 1, 7, 8]) ws (vs) := ⟨nf_in hl rfl, sgq_386 (vc_Gr_copyFrom_12_0 (v_iv (n_v vs 4)) (v_iv (n_v vs 5)) (v_iv (n_v vs 36)) (v_iv (n_v vs 38)) (v_iv (n_v vs 39)) (v_iv (n_v vs 41)) (v_iv (n_v vs 42)) (w_fi ws (n_v vs 0) 1) (w_fi ws (n_v vs 0) 0) (w_ei ws (w_ar ws (n_v vs 1) 8)) (w_ei ws (w_ar ws (n_v vs 0) 7)) (w_ei ws (w_ar ws (n_v vs 0) 8)) k4 k5 k36 k38 k39 k41 k42 g2 g3 (shm_7 f9) (shm_22 f10) (shm_7 f11) (shm_22 f12) f23 kz_0_0 kz_0_1)⟩
  refine ⟨(fun _ h => (by cases h)), [], trivial, ?_, (fun _ h => (by cases h))⟩
  rw [List.append_nil]
  exact List.forall_mem_cons.mpr ⟨⟨show (20 : Nat) < 100 from by decide, nf0⟩, (fun _ h => (by cases h))⟩
set_option maxHeartbeats 4000000 in
theorem vc_Gr_copyFrom_13_0 (x7 : Int) (x8 : Int) (undone_0 : Int) (done_0 : Int) (past_0 : Int → Int) (k7 : 0 ≤ x7 ∧ x7 ≤ 0) (k8 : 0 ≤ x8 ∧ x8 ≤ 0) (g2 : x8 = undone_0) (g3 : x7 = done_0) (kz_0_17 : 0 ≤ done_0 ∧ done_0 ≤ 30) (kz_0_18 : 0 ≤ undone_0 ∧ undone_0 ≤ 30) : PDQ (done_0) (undone_0) (past_0) := by
  first
    | exact fun h => by omega
  
set_option maxHeartbeats 4000000 in
theorem vc_Gr_copyFrom_13_1 (x7 : Int) (done_0 : Int) (k7 : 0 ≤ x7 ∧ x7 ≤ 0) (g3 : x7 = done_0) (kz_0_17 : 0 ≤ done_0 ∧ done_0 ≤ 30) : done_0 = 0 := by
  first
    | omega
  
set_option maxHeartbeats 4000000 in
theorem vc_Gr_copyFrom_13_2 (x8 : Int) (undone_0 : Int) (k8 : 0 ≤ x8 ∧ x8 ≤ 0) (g2 : x8 = undone_0) (kz_0_18 : 0 ≤ undone_0 ∧ undone_0 ≤ 30) : undone_0 = 0 := by
  first
    | omega
  
set_option maxHeartbeats 4000000 in
theorem vc_Gr_copyFrom_13_3 (x4 : Int) (nodes_0 : Int) (k4 : 0 ≤ x4 ∧ x4 ≤ 24) (g5 : x4 = nodes_0) (kz_0_0 : 0 ≤ nodes_0 ∧ nodes_0 ≤ 24) : nodes_0 = x4 := by
  first
    | omega
  
def o_Gr_copyFrom_13 : or_T := (209, 68, [(0, (2, 0, 0, [3])), (4, (0, 0, 24, [])), (7, (0, 0, 0, [])), (8, (0, 0, 0, []))], [(9, [8, 0], [18]), (9, [7, 0], [17]), (9, [4, 0], [0])], [], [], [(20, [0], [60, 2, 1, 739, 17, 18, 16]), (20, [0], [50, 1, 0, 17, 1, 3, 2, 0, 17, 0, 0]), (20, [0], [50, 1, 0, 18, 1, 3, 2, 0, 18, 0, 0]), (20, [0, 4], [50, 1, 0, 0, 1, 3, 2, 0, 0, 1, 1])], [], [])
theorem oo_Gr_copyFrom_13 {kA : Nat → ClassId} : or_ok PRD kA GG o_Gr_copyFrom_13 := by
  refine or_mk fun A ta ws vs hD hth hl => ?_
  intro t0 r0 t4 k4 t7 k7 t8 k8 f2 f3 f5
  replace f2 := shm_799 f2
  replace f3 := shm_795 f3
  replace f5 := shm_163 f5
  have g2 : v_iv (n_v vs 8) = w_fi ws (n_v vs 0) 18 := congrArg v_iv f2
  have g3 : v_iv (n_v vs 7) = w_fi ws (n_v vs 0) 17 := congrArg v_iv f3
  have g5 : v_iv (n_v vs 4) = w_fi ws (n_v vs 0) 0 := congrArg v_iv f5
  have kz_0_0 := fdq_21 hD hth r0
  have kz_0_17 := fdq_288 hD hth r0
  have kz_0_18 := fdq_289 hD hth r0
  have nf0 : fc_1 PRD (20, [0], [60, 2, 1, 739, 17, 18, 16]) ws (vs) := ⟨nf_in hl rfl, sgq_1361 (vc_Gr_copyFrom_13_0 (v_iv (n_v vs 7)) (v_iv (n_v vs 8)) (w_fi ws (n_v vs 0) 18) (w_fi ws (n_v vs 0) 17) (w_ei ws (w_ar ws (n_v vs 0) 16)) k7 k8 g2 g3 kz_0_17 kz_0_18)⟩
  have nf1 : fc_1 PRD (20, [0], [50, 1, 0, 17, 1, 3, 2, 0, 17, 0, 0]) ws (vs) := ⟨nf_in hl rfl, sgq_841 (vc_Gr_copyFrom_13_1 (v_iv (n_v vs 7)) (w_fi ws (n_v vs 0) 17) k7 g3 kz_0_17)⟩
  have nf2 : fc_1 PRD (20, [0], [50, 1, 0, 18, 1, 3, 2, 0, 18, 0, 0]) ws (vs) := ⟨nf_in hl rfl, sgq_842 (vc_Gr_copyFrom_13_2 (v_iv (n_v vs 8)) (w_fi ws (n_v vs 0) 18) k8 g2 kz_0_18)⟩
  have nf3 : fc_1 PRD (20, [0, 4], [50, 1, 0, 0, 1, 3, 2, 0, 0, 1, 1]) ws (vs) := ⟨nf_in hl rfl, sgq_570 (vc_Gr_copyFrom_13_3 (v_iv (n_v vs 4)) (w_fi ws (n_v vs 0) 0) k4 g5 kz_0_0)⟩
  refine ⟨(fun _ h => (by cases h)), [], trivial, ?_, (fun _ h => (by cases h))⟩
  rw [List.append_nil]
  exact List.forall_mem_cons.mpr ⟨⟨show (20 : Nat) < 100 from by decide, nf0⟩, List.forall_mem_cons.mpr ⟨⟨show (20 : Nat) < 100 from by decide, nf1⟩, List.forall_mem_cons.mpr ⟨⟨show (20 : Nat) < 100 from by decide, nf2⟩, List.forall_mem_cons.mpr ⟨⟨show (20 : Nat) < 100 from by decide, nf3⟩, (fun _ h => (by cases h))⟩⟩⟩⟩
def n_Gr_copyFrom_an : List an_T := []
def t_Gr_copyFrom_ct : ct_L := [(1, 83, e_Gr_relink), (150, 77, e_acp_32), (195, 77, e_acp_33), (240, 77, e_acp_34), (285, 77, e_acp_35), (330, 77, e_acp_36), (375, 77, e_acp_37), (420, 77, e_acp_38), (465, 77, e_acp_39), (510, 77, e_acp_40), (564, 77, e_acp_41), (609, 77, e_acp_42)]
set_option maxRecDepth 100000 in
theorem c_Gr_copyFrom {l : Launch} {D : va_G} {kA : Nat → ClassId} (h_Gr_relink : ct_ok PRD l D kA GG y_Gr_relink z_Gr_relink e_Gr_relink) : ct_ok PRD l D kA GG y_Gr_copyFrom z_Gr_copyFrom e_Gr_copyFrom := chk_all_ok (FT := [(9, 3, 0), (15, 3, 1), (18, 3, 2), (21, 3, 3), (25, 3, 4), (29, 3, 5), (32, 3, 6), (35, 3, 7), (38, 3, 8), (41, 3, 9), (44, 3, 10), (47, 3, 11), (50, 3, 12), (53, 3, 13)]) (PT := [(9, 3, 0, .int), (15, 3, 1, .int), (18, 3, 2, .int), (65, 3, 17, .int), (68, 3, 18, .int)]) (CT := t_Gr_copyFrom_ct) (KT := []) (NT := []) (AN := n_Gr_copyFrom_an) (OT := [o_Gr_copyFrom_0, o_Gr_copyFrom_1, o_Gr_copyFrom_2, o_Gr_copyFrom_3, o_Gr_copyFrom_4, o_Gr_copyFrom_5, o_Gr_copyFrom_6, o_Gr_copyFrom_7, o_Gr_copyFrom_8, o_Gr_copyFrom_9, o_Gr_copyFrom_10, o_Gr_copyFrom_11, o_Gr_copyFrom_12, o_Gr_copyFrom_13]) 0 452 (List.forall_mem_cons.mpr ⟨oo_Gr_copyFrom_0, List.forall_mem_cons.mpr ⟨oo_Gr_copyFrom_1, List.forall_mem_cons.mpr ⟨oo_Gr_copyFrom_2, List.forall_mem_cons.mpr ⟨oo_Gr_copyFrom_3, List.forall_mem_cons.mpr ⟨oo_Gr_copyFrom_4, List.forall_mem_cons.mpr ⟨oo_Gr_copyFrom_5, List.forall_mem_cons.mpr ⟨oo_Gr_copyFrom_6, List.forall_mem_cons.mpr ⟨oo_Gr_copyFrom_7, List.forall_mem_cons.mpr ⟨oo_Gr_copyFrom_8, List.forall_mem_cons.mpr ⟨oo_Gr_copyFrom_9, List.forall_mem_cons.mpr ⟨oo_Gr_copyFrom_10, List.forall_mem_cons.mpr ⟨oo_Gr_copyFrom_11, List.forall_mem_cons.mpr ⟨oo_Gr_copyFrom_12, List.forall_mem_cons.mpr ⟨oo_Gr_copyFrom_13, List.forall_mem_nil _⟩⟩⟩⟩⟩⟩⟩⟩⟩⟩⟩⟩⟩⟩) (by decide +kernel) ⟨List.forall_mem_cons.mpr ⟨gf_Gr_9, List.forall_mem_cons.mpr ⟨gf_Gr_15, List.forall_mem_cons.mpr ⟨gf_Gr_18, List.forall_mem_cons.mpr ⟨gf_Gr_21, List.forall_mem_cons.mpr ⟨gf_Gr_25, List.forall_mem_cons.mpr ⟨gf_Gr_29, List.forall_mem_cons.mpr ⟨gf_Gr_32, List.forall_mem_cons.mpr ⟨gf_Gr_35, List.forall_mem_cons.mpr ⟨gf_Gr_38, List.forall_mem_cons.mpr ⟨gf_Gr_41, List.forall_mem_cons.mpr ⟨gf_Gr_44, List.forall_mem_cons.mpr ⟨gf_Gr_47, List.forall_mem_cons.mpr ⟨gf_Gr_50, List.forall_mem_cons.mpr ⟨gf_Gr_53, List.forall_mem_nil _⟩⟩⟩⟩⟩⟩⟩⟩⟩⟩⟩⟩⟩⟩, List.forall_mem_cons.mpr ⟨pf_Gr_9, List.forall_mem_cons.mpr ⟨pf_Gr_15, List.forall_mem_cons.mpr ⟨pf_Gr_18, List.forall_mem_cons.mpr ⟨pf_Gr_65, List.forall_mem_cons.mpr ⟨pf_Gr_68, List.forall_mem_nil _⟩⟩⟩⟩⟩, List.forall_mem_cons.mpr ⟨cl_virtual (y := y_Gr_relink) (ci := 3) rfl rfl ⟨_, _, rfl⟩ (by decide +kernel) h_Gr_relink wm_785 wm_3 wm_782 wm_784 wv_1_12 ⟨by decide, by decide, by decide +kernel⟩ (by decide), List.forall_mem_cons.mpr ⟨cl_copy rfl rfl (by decide) (by decide) (by decide) wm_748 wm_750 wm_749 wm_15, List.forall_mem_cons.mpr ⟨cl_copy rfl rfl (by decide) (by decide) (by decide) wm_748 wm_750 wm_749 wm_15, List.forall_mem_cons.mpr ⟨cl_copy rfl rfl (by decide) (by decide) (by decide) wm_748 wm_750 wm_749 wm_15, List.forall_mem_cons.mpr ⟨cl_copy rfl rfl (by decide) (by decide) (by decide) wm_748 wm_750 wm_749 wm_15, List.forall_mem_cons.mpr ⟨cl_copyU (na := 3) rfl rfl (by decide) (Or.inl (by decide)) (fun U U_zq xs sp dp n a b c d e f e1 e2 e3 h => ca1_ca2 (U := U) (U_zq := U_zq) (xs := xs) (sp := sp) (dp := dp) (n := n) a b c d e f e1 e2 e3 h) wm_748 wm_750 wm_749 wm_15, List.forall_mem_cons.mpr ⟨cl_copyU (na := 3) rfl rfl (by decide) (Or.inl (by decide)) (fun U U_zq xs sp dp n a b c d e f e1 e2 e3 h => cb1_cb2 (U := U) (U_zq := U_zq) (xs := xs) (sp := sp) (dp := dp) (n := n) a b c d e f e1 e2 e3 h) wm_748 wm_750 wm_749 wm_15, List.forall_mem_cons.mpr ⟨cl_copy rfl rfl (by decide) (by decide) (by decide) wm_748 wm_750 wm_749 wm_15, List.forall_mem_cons.mpr ⟨cl_copy rfl rfl (by decide) (by decide) (by decide) wm_748 wm_750 wm_749 wm_15, List.forall_mem_cons.mpr ⟨cl_copy rfl rfl (by decide) (by decide) (by decide) wm_748 wm_750 wm_749 wm_15, List.forall_mem_cons.mpr ⟨cl_copy rfl rfl (by decide) (by decide) (by decide) wm_748 wm_750 wm_749 wm_15, List.forall_mem_cons.mpr ⟨cl_copy rfl rfl (by decide) (by decide) (by decide) wm_748 wm_750 wm_749 wm_15, List.forall_mem_nil _⟩⟩⟩⟩⟩⟩⟩⟩⟩⟩⟩⟩, List.forall_mem_nil _, List.forall_mem_nil _, GG_pl⟩ (by decide +kernel)

set_option maxHeartbeats 4000000 in
theorem vc_Gr_unpack_0_r0 (x1 : Int) (x6 : Int) (x7 : Int) (past_0 : Int → Int) (done_0 : Int) (undone_0 : Int) (k1 : 0 ≤ x1 ∧ x1 ≤ 30) (k6 : 0 ≤ x6 ∧ x6 ≤ 3660) (k7 : (-2147483648) ≤ x7 ∧ x7 ≤ 2147483647) (h0 : x7 = past_0 (x6)) (f2 : x6 = x1 * 122) (f3 : PDQ (done_0) (undone_0) (past_0)) (f5 : (1 ≤ (done_0 + undone_0)) ∧ (x1 ≤ (done_0 + undone_0))) (kz_0_17 : 0 ≤ done_0 ∧ done_0 ≤ 30) (kz_0_18 : 0 ≤ undone_0 ∧ undone_0 ≤ 30) : 0 ≤ x7 ∧ x7 ≤ 24 := by
  first
    | (have q := pas_cnt (r := x1) (k := x6) (x := x7) (pdq_row (r := x1) ‹PDQ _ _ _› (by omega) (by omega) (by omega)) (by omega) (by omega) (by omega) (by assumption); omega)
def o_Gr_unpack_0 : or_T := (12, 8, [(0, (2, 0, 0, [3])), (1, (0, 0, 30, [])), (2, (2, 0, 0, [61])), (3, (0, 0, 30, [])), (4, (0, 0, 30, [])), (5, (0, 122, 122, [])), (6, (0, 0, 3660, [])), (7, (0, -2147483648, 2147483647, []))], [(10, [7, 2, 6], []), (9, [2, 0], [16]), (3, [6, 1, 5], []), (20, [0], [60, 2, 1, 739, 17, 18, 16]), (20, [0, 3, 4], [50, 2, 0, 17, 18, 2, 7, 1, 3, 2, 0, 17, 1, 1, 1, 3, 2, 0, 18, 1, 2]), (20, [0, 1], [50, 2, 0, 17, 18, 2, 12, 0, 2, 0, 1, 4, 3, 2, 0, 17, 2, 0, 18, 0, 2, 1, 1, 4, 3, 2, 0, 17, 2, 0, 18])], [(7, (0, 0, 24, []))], [], [], [], [])
theorem oo_Gr_unpack_0 {kA : Nat → ClassId} : or_ok PRD kA GG o_Gr_unpack_0 := by
  refine or_mk fun A ta ws vs hD hth hl => ?_
  intro t0 r0 t1 k1 t2 r2 t3 k3 t4 k4 t5 k5 t6 k6 t7 k7 f0 f1 f2 f3 f4 f5
  replace f0 := shm_107 f0
  replace f1 := shm_176 f1
  replace f2 := shm_38 f2
  rw [show v_iv (n_v vs 5) = 122 from by omega] at f2
  have ad_2 : v_ad (n_v vs 2) = w_ar ws (n_v vs 0) 16 := congrArg v_ad f1
  simp only [ad_2] at f0
  have h0 : v_iv (n_v vs 7) = w_ei ws (w_ar ws (n_v vs 0) 16) (v_iv (n_v vs 6)) := f0
  have kz_0_17 := fdq_288 hD hth r0
  have kz_0_18 := fdq_289 hD hth r0
  have hrf0 : 0 ≤ v_iv (n_v vs 7) ∧ v_iv (n_v vs 7) ≤ 24 := vc_Gr_unpack_0_r0 (v_iv (n_v vs 1)) (v_iv (n_v vs 6)) (v_iv (n_v vs 7)) (w_ei ws (w_ar ws (n_v vs 0) 16)) (w_fi ws (n_v vs 0) 17) (w_fi ws (n_v vs 0) 18) k1 k6 k7 h0 f2 (shm_1361 f3) (shm_1363 f5) kz_0_17 kz_0_18
  have rf7 : tv_ok ta (0, 0, 24, []) (n_v vs 7) := tv_in t7 (by first | omega | grind) (by first | omega | grind)
  refine ⟨List.forall_mem_cons.mpr ⟨rf7, (fun _ h => (by cases h))⟩, [], trivial, ?_, (fun _ h => (by cases h))⟩
  rw [List.append_nil]
  exact (fun _ h => (by cases h))
set_option maxHeartbeats 4000000 in
theorem vc_Gr_unpack_1_r0 (x1 : Int) (x6 : Int) (x7 : Int) (x9 : Int) (x10 : Int) (past_0 : Int → Int) (done_0 : Int) (undone_0 : Int) (past_1 : Int → Int) (done_1 : Int) (undone_1 : Int) (k1 : 0 ≤ x1 ∧ x1 ≤ 30) (k6 : 0 ≤ x6 ∧ x6 ≤ 3660) (k9 : 1 ≤ x9 ∧ x9 ≤ 3661) (k10 : (-2147483648) ≤ x10 ∧ x10 ≤ 2147483647) (d0 : x6 + 1 ≤ x9 ∧ x9 ≤ x6 + 1) (h1 : x10 = past_0 (x9)) (f6 : (1 ≤ (done_0 + undone_0)) ∧ (x1 ≤ (done_0 + undone_0))) (f9 : x6 = x1 * 122) (f10 : PDQ (done_1) (undone_1) (past_1)) (fe_0_17_1 : done_0 = done_1) (fe_0_18_1 : undone_0 = undone_1) (hE_0_16_1 : ∀ j : Int, past_0 j = past_1 j) (kz_0_17 : 0 ≤ done_0 ∧ done_0 ≤ 30) (kz_0_18 : 0 ≤ undone_0 ∧ undone_0 ≤ 30) : 0 ≤ x10 ∧ x10 ≤ 48 := by
  subst fe_0_17_1
  subst fe_0_18_1
  have e_hE_0_16_1 := funext hE_0_16_1; subst e_hE_0_16_1
  first
    | (have q := pas_cne (r := x1) (k := x9) (x := x10) (pdq_row (r := x1) ‹PDQ _ _ _› (by omega) (by omega) (by omega)) (by omega) (by omega) (by omega) (by assumption); omega)
def o_Gr_unpack_1 : or_T := (24, 11, [(0, (2, 0, 0, [3])), (1, (0, 0, 30, [])), (2, (2, 0, 0, [61])), (3, (0, 0, 30, [])), (4, (0, 0, 30, [])), (5, (0, 122, 122, [])), (6, (0, 0, 3660, [])), (7, (0, 0, 24, [])), (8, (0, 1, 1, [])), (9, (0, 1, 3661, [])), (10, (0, -2147483648, 2147483647, []))], [(9, [7, 0], [0]), (10, [10, 2, 9], []), (1, [9, 6, 8], []), (9, [2, 0], [16]), (20, [0], [60, 2, 1, 739, 17, 18, 16]), (20, [0, 3, 4], [50, 2, 0, 17, 18, 2, 7, 1, 3, 2, 0, 17, 1, 1, 1, 3, 2, 0, 18, 1, 2]), (20, [0, 1], [50, 2, 0, 17, 18, 2, 12, 0, 2, 0, 1, 4, 3, 2, 0, 17, 2, 0, 18, 0, 2, 1, 1, 4, 3, 2, 0, 17, 2, 0, 18]), (101, [0, 7], [0]), (10, [7, 2, 6], []), (3, [6, 1, 5], []), (20, [0], [60, 2, 1, 739, 17, 18, 16]), (20, [0, 3, 4], [50, 2, 0, 17, 18, 2, 7, 1, 3, 2, 0, 17, 1, 1, 1, 3, 2, 0, 18, 1, 2]), (20, [0, 1], [50, 2, 0, 17, 18, 2, 12, 0, 2, 0, 1, 4, 3, 2, 0, 17, 2, 0, 18, 0, 2, 1, 1, 4, 3, 2, 0, 17, 2, 0, 18])], [(10, (0, 0, 48, []))], [], [], [], [(9, 6, 1, 1)])
theorem oo_Gr_unpack_1 {kA : Nat → ClassId} : or_ok PRD kA GG o_Gr_unpack_1 := by
  refine or_mk fun A ta ws vs hD hth hl => ?_
  intro t0 r0 t1 k1 t2 r2 t3 k3 t4 k4 t5 k5 t6 k6 t7 k7 t8 k8 t9 k9 t10 k10 d0 f0 f1 f2 f3 f4 f5 f6 ta1 w1 le1 s1 f8 f9 f10 f11 f12
  replace f1 := shm_107 f1
  replace f3 := shm_176 f3
  have s1 : (∀ b j, w_el ws b j = w_el w1 b j) ∧ ∀ b j, w_fd ws b j = if b = v_ad (n_v vs 0) ∧ j = 0 then n_v vs 7 else w_fd w1 b j := s1.2
  replace f9 := shm_38 f9
  rw [show v_iv (n_v vs 5) = 122 from by omega] at f9
  replace f10 := shm_1361 f10
  have ar_0_16_1 : w_ar w1 (n_v vs 0) 16 = w_ar ws (n_v vs 0) 16 := by show v_ad (w_fd w1 _ _) = v_ad (w_fd ws _ _); rw [s1.2, if_neg (fun e => absurd e.2 (by decide))]
  have ad_2 : v_ad (n_v vs 2) = w_ar ws (n_v vs 0) 16 := congrArg v_ad f3
  simp only [ad_2] at f1
  have h1 : v_iv (n_v vs 10) = w_ei ws (w_ar ws (n_v vs 0) 16) (v_iv (n_v vs 9)) := f1
  simp only [ar_0_16_1] at f10
  have fe_0_17_1 : w_fi ws (n_v vs 0) 17 = w_fi w1 (n_v vs 0) 17 := by show v_iv (w_fd _ _ _) = v_iv (w_fd _ _ _); rw [s1.2, if_neg (fun e => absurd e.2 (by decide))]
  have fe_0_18_1 : w_fi ws (n_v vs 0) 18 = w_fi w1 (n_v vs 0) 18 := by show v_iv (w_fd _ _ _) = v_iv (w_fd _ _ _); rw [s1.2, if_neg (fun e => absurd e.2 (by decide))]
  have hE_0_16_1 : ∀ j : Int, w_ei ws (w_ar ws (n_v vs 0) 16) j = w_ei w1 (w_ar ws (n_v vs 0) 16) j := fun j => s1.1 _ _
  have kz_0_17 := fdq_288 hD hth r0
  have kz_0_18 := fdq_289 hD hth r0
  have hrf0 : 0 ≤ v_iv (n_v vs 10) ∧ v_iv (n_v vs 10) ≤ 48 := vc_Gr_unpack_1_r0 (v_iv (n_v vs 1)) (v_iv (n_v vs 6)) (v_iv (n_v vs 7)) (v_iv (n_v vs 9)) (v_iv (n_v vs 10)) (w_ei ws (w_ar ws (n_v vs 0) 16)) (w_fi ws (n_v vs 0) 17) (w_fi ws (n_v vs 0) 18) (w_ei w1 (w_ar ws (n_v vs 0) 16)) (w_fi w1 (n_v vs 0) 17) (w_fi w1 (n_v vs 0) 18) k1 k6 k9 k10 d0 h1 (shm_1363 f6) f9 f10 fe_0_17_1 fe_0_18_1 hE_0_16_1 kz_0_17 kz_0_18
  have rf10 : tv_ok ta (0, 0, 48, []) (n_v vs 10) := tv_in t10 (by first | omega | grind) (by first | omega | grind)
  refine ⟨List.forall_mem_cons.mpr ⟨rf10, (fun _ h => (by cases h))⟩, [], trivial, ?_, (fun _ h => (by cases h))⟩
  rw [List.append_nil]
  exact (fun _ h => (by cases h))
set_option maxHeartbeats 4000000 in
theorem vc_Gr_unpack_2_0 (x1 : Int) (x6 : Int) (x7 : Int) (x9 : Int) (x10 : Int) (x11 : Int) (x12 : Int) (nodes_0 : Int) (past_0 : Int → Int) (done_0 : Int) (undone_0 : Int) (past_1 : Int → Int) (done_1 : Int) (undone_1 : Int) (past_2 : Int → Int) (done_2 : Int) (undone_2 : Int) (nodes_1 : Int) (k1 : 0 ≤ x1 ∧ x1 ≤ 30) (k6 : 0 ≤ x6 ∧ x6 ≤ 3660) (k7 : 0 ≤ x7 ∧ x7 ≤ 24) (k9 : 1 ≤ x9 ∧ x9 ≤ 3661) (k10 : 0 ≤ x10 ∧ x10 ≤ 48) (k11 : 2 ≤ x11 ∧ x11 ≤ 3662) (k12 : 0 ≤ x12 ∧ x12 ≤ 0) (d0 : x6 + 2 ≤ x11 ∧ x11 ≤ x6 + 2) (d1 : x6 + 1 ≤ x9 ∧ x9 ≤ x6 + 1) (f3 : x11 = x6 + 2) (f6 : (1 ≤ (done_0 + undone_0)) ∧ (x1 ≤ (done_0 + undone_0))) (h8 : x10 = past_1 (x9)) (h14 : x7 = past_2 (x6)) (f15 : x6 = x1 * 122) (f16 : PDQ (done_2) (undone_2) (past_2)) (fe_0_0_1 : nodes_0 = nodes_1) (fe_0_17_1 : done_0 = done_1) (fe_0_18_1 : undone_0 = undone_1) (fe_0_17_2 : done_1 = done_2) (fe_0_18_2 : undone_1 = undone_2) (hE_0_16_1 : ∀ j : Int, past_0 j = past_1 j) (hE_0_16_2 : ∀ j : Int, past_1 j = past_2 j) (kz_0_0 : 0 ≤ nodes_0 ∧ nodes_0 ≤ 24) (kz_0_17 : 0 ≤ done_0 ∧ done_0 ≤ 30) (kz_0_18 : 0 ≤ undone_0 ∧ undone_0 ≤ 30) : UPN (past_0) (x7) (x10) (x1) (x11) (x12) := by
  subst fe_0_0_1
  subst fe_0_17_1
  subst fe_0_18_1
  subst fe_0_17_2
  subst fe_0_18_2
  have e_hE_0_16_1 := funext hE_0_16_1; subst e_hE_0_16_1
  have e_hE_0_16_2 := funext hE_0_16_2; subst e_hE_0_16_2
  first
    | exact up1_start (k := x6) (p := x9) (pdq_row (r := x1) ‹PDQ _ _ _› (by omega) (by omega) (by omega)) (by omega) (by omega) (by omega) (by assumption) (by omega) (by assumption) (by omega) (by omega)
set_option maxHeartbeats 4000000 in
theorem vc_Gr_unpack_2_1 (x3 : Int) (x4 : Int) (nodes_0 : Int) (past_0 : Int → Int) (done_0 : Int) (undone_0 : Int) (past_1 : Int → Int) (done_1 : Int) (undone_1 : Int) (past_2 : Int → Int) (done_2 : Int) (undone_2 : Int) (nodes_1 : Int) (k3 : 0 ≤ x3 ∧ x3 ≤ 30) (k4 : 0 ≤ x4 ∧ x4 ≤ 30) (f5 : (done_0 = x3) ∧ (undone_0 = x4)) (f16 : PDQ (done_2) (undone_2) (past_2)) (fe_0_0_1 : nodes_0 = nodes_1) (fe_0_17_1 : done_0 = done_1) (fe_0_18_1 : undone_0 = undone_1) (fe_0_17_2 : done_1 = done_2) (fe_0_18_2 : undone_1 = undone_2) (hE_0_16_1 : ∀ j : Int, past_0 j = past_1 j) (hE_0_16_2 : ∀ j : Int, past_1 j = past_2 j) (kz_0_0 : 0 ≤ nodes_0 ∧ nodes_0 ≤ 24) (kz_0_17 : 0 ≤ done_0 ∧ done_0 ≤ 30) (kz_0_18 : 0 ≤ undone_0 ∧ undone_0 ≤ 30) : PDN (past_0) (x3) (x4) := by
  subst fe_0_0_1
  subst fe_0_17_1
  subst fe_0_18_1
  subst fe_0_17_2
  subst fe_0_18_2
  have e_hE_0_16_1 := funext hE_0_16_1; subst e_hE_0_16_1
  have e_hE_0_16_2 := funext hE_0_16_2; subst e_hE_0_16_2
  first
    | exact pdn_of ‹PDQ _ _ _› (by omega) (by omega)
def o_Gr_unpack_2 : or_T := (32, 13, [(0, (2, 0, 0, [3])), (1, (0, 0, 30, [])), (3, (0, 0, 30, [])), (4, (0, 0, 30, [])), (5, (0, 122, 122, [])), (6, (0, 0, 3660, [])), (7, (0, 0, 24, [])), (9, (0, 1, 3661, [])), (10, (0, 0, 48, [])), (11, (0, 2, 3662, [])), (12, (0, 0, 0, []))], [(9, [2, 0], [16]), (6, [11, 6], [2]), (20, [0, 3, 4], [50, 2, 0, 17, 18, 2, 7, 1, 3, 2, 0, 17, 1, 1, 1, 3, 2, 0, 18, 1, 2]), (20, [0, 1], [50, 2, 0, 17, 18, 2, 12, 0, 2, 0, 1, 4, 3, 2, 0, 17, 2, 0, 18, 0, 2, 1, 1, 4, 3, 2, 0, 17, 2, 0, 18]), (101, [0, 10], [1]), (10, [10, 2, 9], []), (101, [0, 7], [0]), (10, [7, 2, 6], []), (3, [6, 1, 5], []), (20, [0], [60, 2, 1, 739, 17, 18, 16])], [], [], [(20, [2, 7, 10, 1, 11, 12], [61, 1, 744]), (20, [2, 3, 4], [61, 1, 740]), (24, [0, 0], []), (24, [1, 1], [])], [], [(11, 6, 2, 2), (9, 6, 1, 1)])
theorem oo_Gr_unpack_2 {kA : Nat → ClassId} : or_ok PRD kA GG o_Gr_unpack_2 := by
  refine or_mk fun A ta ws vs hD hth hl => ?_
  intro t0 r0 t1 k1 t3 k3 t4 k4 t5 k5 t6 k6 t7 k7 t9 k9 t10 k10 t11 k11 t12 k12 d0 d1 f2 f3 f5 f6 ta1 w1 le1 s1 f8 ta2 w2 le2 s2 f14 f15 f16
  replace f2 := shm_176 f2
  replace f3 := shm_849 f3
  replace f5 := shm_1362 f5
  replace f6 := shm_1363 f6
  have s1 : (∀ b j, w_el ws b j = w_el w1 b j) ∧ ∀ b j, w_fd ws b j = if b = v_ad (n_v vs 0) ∧ j = 1 then n_v vs 10 else w_fd w1 b j := s1.2
  replace f8 := shm_107 f8
  have s2 : (∀ b j, w_el w1 b j = w_el w2 b j) ∧ ∀ b j, w_fd w1 b j = if b = v_ad (n_v vs 0) ∧ j = 0 then n_v vs 7 else w_fd w2 b j := s2.2
  replace f14 := shm_107 f14
  replace f15 := shm_38 f15
  rw [show v_iv (n_v vs 5) = 122 from by omega] at f15
  replace f16 := shm_1361 f16
  have ar_0_16_1 : w_ar w1 (n_v vs 0) 16 = w_ar ws (n_v vs 0) 16 := by show v_ad (w_fd w1 _ _) = v_ad (w_fd ws _ _); rw [s1.2, if_neg (fun e => absurd e.2 (by decide))]
  have ar_0_16_2 : w_ar w2 (n_v vs 0) 16 = w_ar ws (n_v vs 0) 16 := by rw [← ar_0_16_1]; show v_ad (w_fd w2 _ _) = v_ad (w_fd w1 _ _); rw [s2.2, if_neg (fun e => absurd e.2 (by decide))]
  have ad_2 : v_ad (n_v vs 2) = w_ar ws (n_v vs 0) 16 := congrArg v_ad f2
  simp only [ad_2] at f8
  have h8 : v_iv (n_v vs 10) = w_ei w1 (w_ar ws (n_v vs 0) 16) (v_iv (n_v vs 9)) := f8
  simp only [ar_0_16_1, ad_2] at f14
  have h14 : v_iv (n_v vs 7) = w_ei w2 (w_ar ws (n_v vs 0) 16) (v_iv (n_v vs 6)) := f14
  simp only [ar_0_16_2] at f16
  have fe_0_0_1 : w_fi ws (n_v vs 0) 0 = w_fi w1 (n_v vs 0) 0 := by show v_iv (w_fd _ _ _) = v_iv (w_fd _ _ _); rw [s1.2, if_neg (fun e => absurd e.2 (by decide))]
  have fe_0_17_1 : w_fi ws (n_v vs 0) 17 = w_fi w1 (n_v vs 0) 17 := by show v_iv (w_fd _ _ _) = v_iv (w_fd _ _ _); rw [s1.2, if_neg (fun e => absurd e.2 (by decide))]
  have fe_0_18_1 : w_fi ws (n_v vs 0) 18 = w_fi w1 (n_v vs 0) 18 := by show v_iv (w_fd _ _ _) = v_iv (w_fd _ _ _); rw [s1.2, if_neg (fun e => absurd e.2 (by decide))]
  have fe_0_17_2 : w_fi w1 (n_v vs 0) 17 = w_fi w2 (n_v vs 0) 17 := by show v_iv (w_fd _ _ _) = v_iv (w_fd _ _ _); rw [s2.2, if_neg (fun e => absurd e.2 (by decide))]
  have fe_0_18_2 : w_fi w1 (n_v vs 0) 18 = w_fi w2 (n_v vs 0) 18 := by show v_iv (w_fd _ _ _) = v_iv (w_fd _ _ _); rw [s2.2, if_neg (fun e => absurd e.2 (by decide))]
  have hE_0_16_1 : ∀ j : Int, w_ei ws (w_ar ws (n_v vs 0) 16) j = w_ei w1 (w_ar ws (n_v vs 0) 16) j := fun j => s1.1 _ _
  have hE_0_16_2 : ∀ j : Int, w_ei w1 (w_ar ws (n_v vs 0) 16) j = w_ei w2 (w_ar ws (n_v vs 0) 16) j := fun j => s2.1 _ _
  have kz_0_0 := fdq_21 hD hth r0
  have kz_0_17 := fdq_288 hD hth r0
  have kz_0_18 := fdq_289 hD hth r0
  have nf0 : fc_1 PRD (20, [2, 7, 10, 1, 11, 12], [61, 1, 744]) ws (vs) := by
    refine ⟨nf_in hl rfl, sgq_1364 ?_⟩
    · show UPN (w_ei ws (v_ad (n_v vs 2))) (v_iv (n_v vs 7)) (v_iv (n_v vs 10)) (v_iv (n_v vs 1)) (v_iv (n_v vs 11)) (v_iv (n_v vs 12))
      rw [ad_2]
      exact vc_Gr_unpack_2_0 (v_iv (n_v vs 1)) (v_iv (n_v vs 6)) (v_iv (n_v vs 7)) (v_iv (n_v vs 9)) (v_iv (n_v vs 10)) (v_iv (n_v vs 11)) (v_iv (n_v vs 12)) (w_fi ws (n_v vs 0) 0) (w_ei ws (w_ar ws (n_v vs 0) 16)) (w_fi ws (n_v vs 0) 17) (w_fi ws (n_v vs 0) 18) (w_ei w1 (w_ar ws (n_v vs 0) 16)) (w_fi w1 (n_v vs 0) 17) (w_fi w1 (n_v vs 0) 18) (w_ei w2 (w_ar ws (n_v vs 0) 16)) (w_fi w2 (n_v vs 0) 17) (w_fi w2 (n_v vs 0) 18) (w_fi w1 (n_v vs 0) 0) k1 k6 k7 k9 k10 k11 k12 d0 d1 f3 f6 h8 h14 f15 f16 fe_0_0_1 fe_0_17_1 fe_0_18_1 fe_0_17_2 fe_0_18_2 hE_0_16_1 hE_0_16_2 kz_0_0 kz_0_17 kz_0_18
  have nf1 : fc_1 PRD (20, [2, 3, 4], [61, 1, 740]) ws (vs) := by
    refine ⟨nf_in hl rfl, sgq_1365 ?_⟩
    · show PDN (w_ei ws (v_ad (n_v vs 2))) (v_iv (n_v vs 3)) (v_iv (n_v vs 4))
      rw [ad_2]
      exact vc_Gr_unpack_2_1 (v_iv (n_v vs 3)) (v_iv (n_v vs 4)) (w_fi ws (n_v vs 0) 0) (w_ei ws (w_ar ws (n_v vs 0) 16)) (w_fi ws (n_v vs 0) 17) (w_fi ws (n_v vs 0) 18) (w_ei w1 (w_ar ws (n_v vs 0) 16)) (w_fi w1 (n_v vs 0) 17) (w_fi w1 (n_v vs 0) 18) (w_ei w2 (w_ar ws (n_v vs 0) 16)) (w_fi w2 (n_v vs 0) 17) (w_fi w2 (n_v vs 0) 18) (w_fi w1 (n_v vs 0) 0) k3 k4 f5 f16 fe_0_0_1 fe_0_17_1 fe_0_18_1 fe_0_17_2 fe_0_18_2 hE_0_16_1 hE_0_16_2 kz_0_0 kz_0_17 kz_0_18
  have nf2 : fc_1 PRD (24, [0, 0], []) ws (vs) := by
    refine ⟨nf_in hl rfl, sgq_1 ?_⟩
    · show n_v vs 0 = n_v vs 0
      first | rfl | simp only [true_and]
  have nf3 : fc_1 PRD (24, [1, 1], []) ws (vs) := by
    refine ⟨nf_in hl rfl, sgq_1 ?_⟩
    · show n_v vs 1 = n_v vs 1
      first | rfl | simp only [true_and]
  refine ⟨(fun _ h => (by cases h)), [], trivial, ?_, (fun _ h => (by cases h))⟩
  rw [List.append_nil]
  exact List.forall_mem_cons.mpr ⟨⟨show (20 : Nat) < 100 from by decide, nf0⟩, List.forall_mem_cons.mpr ⟨⟨show (20 : Nat) < 100 from by decide, nf1⟩, List.forall_mem_cons.mpr ⟨⟨show (24 : Nat) < 100 from by decide, nf2⟩, List.forall_mem_cons.mpr ⟨⟨show (24 : Nat) < 100 from by decide, nf3⟩, (fun _ h => (by cases h))⟩⟩⟩⟩
set_option maxHeartbeats 4000000 in
theorem vc_Gr_unpack_3_0 (x1 : Int) (x6 : Int) (x7 : Int) (x8 : Int) (x9 : Int) (x10 : Int) (x12 : Int) (x13 : Int) (x14 : Int) (x15 : Int) (x17 : Int) (x18 : Int) (edges_0 : Int) (nodes_0 : Int) (past_0 : Int → Int) (tail_0 : Int → Int) (head_0 : Int → Int) (k1 : 0 ≤ x1 ∧ x1 ≤ 30) (k6 : 0 ≤ x6 ∧ x6 ≤ 30) (k7 : 2 ≤ x7 ∧ x7 ≤ 3784) (k8 : 0 ≤ x8 ∧ x8 ≤ 24) (k9 : 0 ≤ x9 ∧ x9 ≤ 24) (k10 : 0 ≤ x10 ∧ x10 ≤ 48) (k13 : 0 ≤ x13 ∧ x13 ≤ 3660) (k17 : 74 ≤ x17 ∧ x17 ≤ 3734) (k18 : 0 ≤ x18 ∧ x18 ≤ 0) (d1 : x13 + 74 ≤ x17 ∧ x17 ≤ x13 + 74) (d4 : x6 + (-4294967296) ≤ x1 ∧ x1 ≤ x6 + 0) (d5 : x1 + (-4294967296) ≤ x6 ∧ x6 ≤ x1 + 0) (g0 : x10 = edges_0) (f4 : x13 = x1 * 122) (g6 : x9 = nodes_0) (f7 : UPN (past_0) (x9) (x10) (x1) (x7) (x8)) (kz_0_0 : 0 ≤ nodes_0 ∧ nodes_0 ≤ 24) (kz_0_1 : 0 ≤ edges_0 ∧ edges_0 ≤ 48) : UP2 (nodes_0) (edges_0) (past_0) (tail_0) (head_0) (x1) (x17) (x18) := by
  first
    | exact up2_start1 ‹UPN _ _ _ _ _ _› (by omega) (by omega) (by omega) (by omega)
def o_Gr_unpack_3 : or_T := (149, 19, [(0, (2, 0, 0, [3])), (1, (0, 0, 30, [])), (6, (0, 0, 30, [])), (7, (0, 2, 3784, [])), (8, (0, 0, 24, [])), (9, (0, 0, 24, [])), (10, (0, 0, 48, [])), (12, (0, 122, 122, [])), (13, (0, 0, 3660, [])), (17, (0, 74, 3734, [])), (18, (0, 0, 0, []))], [(9, [10, 5], [1]), (9, [11, 5], [16]), (3, [13, 6, 12], []), (9, [9, 5], [0]), (20, [11, 9, 10, 6, 7, 8], [61, 1, 744]), (24, [0, 5], []), (24, [1, 6], [])], [], [], [(20, [5, 6, 17, 18], [60, 2, 3, 743, 0, 1, 16, 7, 8])], [], [(17, 13, 74, 74), (1, 6, -4294967296, 0), (6, 1, -4294967296, 0)])
theorem oo_Gr_unpack_3 {kA : Nat → ClassId} : or_ok PRD kA GG o_Gr_unpack_3 := by
  refine or_mk fun A ta ws vs hD hth hl => ?_
  intro t0 r0 t1 k1 t6 k6 t7 k7 t8 k8 t9 k9 t10 k10 t12 k12 t13 k13 t17 k17 t18 k18 d1 d4 d5 f0 f1 f4 f6 f7 f10 f11
  replace f0 := shm_215 f0
  replace f1 := shm_176 f1
  replace f4 := shm_38 f4
  rw [show v_iv (n_v vs 12) = 122 from by omega] at f4
  replace f6 := shm_163 f6
  replace f7 := shm_1364 f7
  replace f10 := shm_5 f10
  replace f11 := shm_5 f11
  have q5 : n_v vs 5 = n_v vs 0 := f10.symm
  have q6 : n_v vs 6 = n_v vs 1 := f11.symm
  simp only [q5, q6] at f0 f1 f4 f6 f7
  have ad_11 : v_ad (n_v vs 11) = w_ar ws (n_v vs 0) 16 := congrArg v_ad f1
  have g0 : v_iv (n_v vs 10) = w_fi ws (n_v vs 0) 1 := congrArg v_iv f0
  have g6 : v_iv (n_v vs 9) = w_fi ws (n_v vs 0) 0 := congrArg v_iv f6
  simp only [ad_11] at f7
  have kz_0_0 := fdq_21 hD hth r0
  have kz_0_1 := fdq_30 hD hth r0
  have nf0 : fc_1 PRD (20, [5, 6, 17, 18], [60, 2, 3, 743, 0, 1, 16, 7, 8]) ws (vs) := by
    refine ⟨nf_in hl rfl, sgq_1366 ?_⟩
    · show UP2 (w_fi ws (n_v vs 5) 0) (w_fi ws (n_v vs 5) 1) (w_ei ws (w_ar ws (n_v vs 5) 16)) (w_ei ws (w_ar ws (n_v vs 5) 7)) (w_ei ws (w_ar ws (n_v vs 5) 8)) (v_iv (n_v vs 6)) (v_iv (n_v vs 17)) (v_iv (n_v vs 18))
      simp only [q5, q6]
      exact vc_Gr_unpack_3_0 (v_iv (n_v vs 1)) (v_iv (n_v vs 6)) (v_iv (n_v vs 7)) (v_iv (n_v vs 8)) (v_iv (n_v vs 9)) (v_iv (n_v vs 10)) (v_iv (n_v vs 12)) (v_iv (n_v vs 13)) (v_iv (n_v vs 14)) (v_iv (n_v vs 15)) (v_iv (n_v vs 17)) (v_iv (n_v vs 18)) (w_fi ws (n_v vs 0) 1) (w_fi ws (n_v vs 0) 0) (w_ei ws (w_ar ws (n_v vs 0) 16)) (w_ei ws (w_ar ws (n_v vs 0) 7)) (w_ei ws (w_ar ws (n_v vs 0) 8)) k1 k6 k7 k8 k9 k10 k13 k17 k18 d1 d4 d5 g0 f4 g6 f7 kz_0_0 kz_0_1
  refine ⟨(fun _ h => (by cases h)), [], trivial, ?_, (fun _ h => (by cases h))⟩
  rw [List.append_nil]
  exact List.forall_mem_cons.mpr ⟨⟨show (20 : Nat) < 100 from by decide, nf0⟩, (fun _ h => (by cases h))⟩
set_option maxHeartbeats 4000000 in
theorem vc_Gr_unpack_4_r0 (x1 : Int) (x6 : Int) (x7 : Int) (x8 : Int) (x9 : Int) (x10 : Int) (a11_0 : Int → Int) (k1 : 0 ≤ x1 ∧ x1 ≤ 30) (k7 : 2 ≤ x7 ∧ x7 ≤ 3784) (k8 : 0 ≤ x8 ∧ x8 ≤ 23) (k9 : 1 ≤ x9 ∧ x9 ≤ 24) (k10 : 0 ≤ x10 ∧ x10 ≤ 48) (f1 : x8 < x9) (f3 : UPN (a11_0) (x9) (x10) (x1) (x7) (x8)) : 2 ≤ x7 ∧ x7 ≤ 3781 := by
  first
    | (have q := up1_idx ‹UPN _ _ _ _ _ _› (by omega); omega)
def o_Gr_unpack_4 : or_T := (50, 14, [(0, (2, 0, 0, [3])), (1, (0, 0, 30, [])), (3, (0, 0, 30, [])), (4, (0, 0, 30, [])), (5, (2, 0, 0, [3])), (6, (0, 0, 30, [])), (7, (0, 2, 3784, [])), (8, (0, 0, 23, [])), (9, (0, 1, 24, [])), (10, (0, 0, 48, [])), (11, (2, 0, 0, [61]))], [(9, [10, 5], [1]), (7, [8, 9], [2]), (9, [9, 5], [0]), (20, [11, 9, 10, 6, 7, 8], [61, 1, 744]), (20, [11, 3, 4], [61, 1, 740]), (20, [5, 3, 4], [50, 2, 0, 17, 18, 2, 7, 1, 3, 2, 0, 17, 1, 1, 1, 3, 2, 0, 18, 1, 2]), (24, [0, 5], []), (24, [1, 6], [])], [(7, (0, 2, 3781, []))], [], [], [], [(8, 9, -4294967296, -1), (1, 6, -4294967296, 0), (6, 1, -4294967296, 0), (8, 7, -4294967296, -2), (8, 9, -4294967296, 0)])
theorem oo_Gr_unpack_4 {kA : Nat → ClassId} : or_ok PRD kA GG o_Gr_unpack_4 := by
  refine or_mk fun A ta ws vs hD hth hl => ?_
  intro t0 r0 t1 k1 t3 k3 t4 k4 t5 r5 t6 k6 t7 k7 t8 k8 t9 k9 t10 k10 t11 r11 d0 d1 d2 d3 d4 f0 f1 f2 f3 f4 f5 f6 f7
  replace f3 := shm_1364 f3
  replace f7 := shm_5 f7
  have q6 : n_v vs 6 = n_v vs 1 := f7.symm
  simp only [q6] at f3
  have hrf0 : 2 ≤ v_iv (n_v vs 7) ∧ v_iv (n_v vs 7) ≤ 3781 := vc_Gr_unpack_4_r0 (v_iv (n_v vs 1)) (v_iv (n_v vs 6)) (v_iv (n_v vs 7)) (v_iv (n_v vs 8)) (v_iv (n_v vs 9)) (v_iv (n_v vs 10)) (w_ei ws (v_ad (n_v vs 11))) k1 k7 k8 k9 k10 (shm_6 f1) f3
  have rf7 : tv_ok ta (0, 2, 3781, []) (n_v vs 7) := tv_in t7 (by first | omega | grind) (by first | omega | grind)
  refine ⟨List.forall_mem_cons.mpr ⟨rf7, (fun _ h => (by cases h))⟩, [], trivial, ?_, (fun _ h => (by cases h))⟩
  rw [List.append_nil]
  exact (fun _ h => (by cases h))
set_option maxHeartbeats 4000000 in
theorem vc_Gr_unpack_5_r0 (x1 : Int) (x6 : Int) (x7 : Int) (x8 : Int) (x9 : Int) (x10 : Int) (x20 : Int) (a11_0 : Int → Int) (k1 : 0 ≤ x1 ∧ x1 ≤ 30) (k7 : 2 ≤ x7 ∧ x7 ≤ 3781) (k8 : 0 ≤ x8 ∧ x8 ≤ 23) (k9 : 1 ≤ x9 ∧ x9 ≤ 24) (k10 : 0 ≤ x10 ∧ x10 ≤ 48) (k20 : 3 ≤ x20 ∧ x20 ≤ 3782) (d0 : x7 + 1 ≤ x20 ∧ x20 ≤ x7 + 1) (f3 : UPN (a11_0) (x9) (x10) (x1) (x7) (x8)) (f9 : x8 < x9) : 3 ≤ x20 ∧ x20 ≤ 3781 := by
  first
    | (have q := up1_idx ‹UPN _ _ _ _ _ _› (by omega); omega)
def o_Gr_unpack_5 : or_T := (68, 21, [(0, (2, 0, 0, [3])), (1, (0, 0, 30, [])), (3, (0, 0, 30, [])), (4, (0, 0, 30, [])), (5, (2, 0, 0, [3])), (6, (0, 0, 30, [])), (7, (0, 2, 3781, [])), (8, (0, 0, 23, [])), (9, (0, 1, 24, [])), (10, (0, 0, 48, [])), (11, (2, 0, 0, [61])), (19, (0, 1, 1, [])), (20, (0, 3, 3782, []))], [(9, [9, 5], [0]), (9, [10, 5], [1]), (1, [20, 7, 19], []), (20, [11, 9, 10, 6, 7, 8], [61, 1, 744]), (20, [11, 3, 4], [61, 1, 740]), (20, [5, 3, 4], [50, 2, 0, 17, 18, 2, 7, 1, 3, 2, 0, 17, 1, 1, 1, 3, 2, 0, 18, 1, 2]), (24, [0, 5], []), (24, [1, 6], []), (102, [14], [281474976710656]), (7, [8, 9], [2])], [(20, (0, 3, 3781, []))], [], [], [], [(20, 7, 1, 1), (8, 9, -4294967296, -1), (1, 6, -4294967296, 0), (6, 1, -4294967296, 0), (8, 7, -4294967296, -2), (8, 9, -4294967296, 0)])
theorem oo_Gr_unpack_5 {kA : Nat → ClassId} : or_ok PRD kA GG o_Gr_unpack_5 := by
  refine or_mk fun A ta ws vs hD hth hl => ?_
  intro t0 r0 t1 k1 t3 k3 t4 k4 t5 r5 t6 k6 t7 k7 t8 k8 t9 k9 t10 k10 t11 r11 t19 k19 t20 k20 d0 d1 d2 d3 d4 d5 f0 f1 f2 f3 f4 f5 f6 f7 ta1 w1 le1 s1 f9
  replace f3 := shm_1364 f3
  replace f7 := shm_5 f7
  have q6 : n_v vs 6 = n_v vs 1 := f7.symm
  simp only [q6] at f3
  have hrf0 : 3 ≤ v_iv (n_v vs 20) ∧ v_iv (n_v vs 20) ≤ 3781 := vc_Gr_unpack_5_r0 (v_iv (n_v vs 1)) (v_iv (n_v vs 6)) (v_iv (n_v vs 7)) (v_iv (n_v vs 8)) (v_iv (n_v vs 9)) (v_iv (n_v vs 10)) (v_iv (n_v vs 20)) (w_ei ws (v_ad (n_v vs 11))) k1 k7 k8 k9 k10 k20 d0 f3 (shm_6 f9)
  have rf20 : tv_ok ta (0, 3, 3781, []) (n_v vs 20) := tv_in t20 (by first | omega | grind) (by first | omega | grind)
  refine ⟨List.forall_mem_cons.mpr ⟨rf20, (fun _ h => (by cases h))⟩, [], trivial, ?_, (fun _ h => (by cases h))⟩
  rw [List.append_nil]
  exact (fun _ h => (by cases h))
set_option maxHeartbeats 4000000 in
theorem vc_Gr_unpack_6_r0 (x1 : Int) (x6 : Int) (x7 : Int) (x8 : Int) (x9 : Int) (x10 : Int) (x20 : Int) (x24 : Int) (a11_0 : Int → Int) (k1 : 0 ≤ x1 ∧ x1 ≤ 30) (k7 : 2 ≤ x7 ∧ x7 ≤ 3781) (k8 : 0 ≤ x8 ∧ x8 ≤ 23) (k9 : 1 ≤ x9 ∧ x9 ≤ 24) (k10 : 0 ≤ x10 ∧ x10 ≤ 48) (k20 : 3 ≤ x20 ∧ x20 ≤ 3781) (k24 : 4 ≤ x24 ∧ x24 ≤ 3783) (d0 : x7 + 2 ≤ x24 ∧ x24 ≤ x7 + 2) (d1 : x7 + 1 ≤ x20 ∧ x20 ≤ x7 + 1) (f3 : UPN (a11_0) (x9) (x10) (x1) (x7) (x8)) (f11 : x8 < x9) : 4 ≤ x24 ∧ x24 ≤ 3781 := by
  first
    | (have q := up1_idx ‹UPN _ _ _ _ _ _› (by omega); omega)
def o_Gr_unpack_6 : or_T := (84, 25, [(0, (2, 0, 0, [3])), (1, (0, 0, 30, [])), (3, (0, 0, 30, [])), (4, (0, 0, 30, [])), (5, (2, 0, 0, [3])), (6, (0, 0, 30, [])), (7, (0, 2, 3781, [])), (8, (0, 0, 23, [])), (9, (0, 1, 24, [])), (10, (0, 0, 48, [])), (11, (2, 0, 0, [61])), (19, (0, 1, 1, [])), (20, (0, 3, 3781, [])), (23, (0, 2, 2, [])), (24, (0, 4, 3783, []))], [(9, [9, 5], [0]), (9, [10, 5], [1]), (1, [24, 7, 23], []), (20, [11, 9, 10, 6, 7, 8], [61, 1, 744]), (20, [11, 3, 4], [61, 1, 740]), (20, [5, 3, 4], [50, 2, 0, 17, 18, 2, 7, 1, 3, 2, 0, 17, 1, 1, 1, 3, 2, 0, 18, 1, 2]), (24, [0, 5], []), (24, [1, 6], []), (102, [21], [281474976710656]), (1, [20, 7, 19], []), (102, [14], [281474976710656]), (7, [8, 9], [2])], [(24, (0, 4, 3781, []))], [], [], [], [(24, 7, 2, 2), (20, 7, 1, 1), (8, 9, -4294967296, -1), (1, 6, -4294967296, 0), (6, 1, -4294967296, 0), (8, 7, -4294967296, -2), (8, 9, -4294967296, 0)])
theorem oo_Gr_unpack_6 {kA : Nat → ClassId} : or_ok PRD kA GG o_Gr_unpack_6 := by
  refine or_mk fun A ta ws vs hD hth hl => ?_
  intro t0 r0 t1 k1 t3 k3 t4 k4 t5 r5 t6 k6 t7 k7 t8 k8 t9 k9 t10 k10 t11 r11 t19 k19 t20 k20 t23 k23 t24 k24 d0 d1 d2 d3 d4 d5 d6 f0 f1 f2 f3 f4 f5 f6 f7 ta1 w1 le1 s1 f9 ta2 w2 le2 s2 f11
  replace f3 := shm_1364 f3
  replace f7 := shm_5 f7
  have q6 : n_v vs 6 = n_v vs 1 := f7.symm
  simp only [q6] at f3
  have hrf0 : 4 ≤ v_iv (n_v vs 24) ∧ v_iv (n_v vs 24) ≤ 3781 := vc_Gr_unpack_6_r0 (v_iv (n_v vs 1)) (v_iv (n_v vs 6)) (v_iv (n_v vs 7)) (v_iv (n_v vs 8)) (v_iv (n_v vs 9)) (v_iv (n_v vs 10)) (v_iv (n_v vs 20)) (v_iv (n_v vs 24)) (w_ei ws (v_ad (n_v vs 11))) k1 k7 k8 k9 k10 k20 k24 d0 d1 f3 (shm_6 f11)
  have rf24 : tv_ok ta (0, 4, 3781, []) (n_v vs 24) := tv_in t24 (by first | omega | grind) (by first | omega | grind)
  refine ⟨List.forall_mem_cons.mpr ⟨rf24, (fun _ h => (by cases h))⟩, [], trivial, ?_, (fun _ h => (by cases h))⟩
  rw [List.append_nil]
  exact (fun _ h => (by cases h))
set_option maxHeartbeats 4000000 in
theorem vc_Gr_unpack_7_r0 (x1 : Int) (x6 : Int) (x7 : Int) (x8 : Int) (x9 : Int) (x10 : Int) (x20 : Int) (x24 : Int) (x25 : Int) (x26 : Int) (x27 : Int) (past_0 : Int → Int) (k1 : 0 ≤ x1 ∧ x1 ≤ 30) (k7 : 2 ≤ x7 ∧ x7 ≤ 3781) (k8 : 0 ≤ x8 ∧ x8 ≤ 23) (k9 : 1 ≤ x9 ∧ x9 ≤ 24) (k10 : 0 ≤ x10 ∧ x10 ≤ 48) (k24 : 4 ≤ x24 ∧ x24 ≤ 3781) (k25 : (-2147483648) ≤ x25 ∧ x25 ≤ 2147483647) (k26 : 255 ≤ x26 ∧ x26 ≤ 255) (k27 : 0 ≤ x27 ∧ x27 ≤ 255) (d0 : x7 + 2 ≤ x24 ∧ x24 ≤ x7 + 2) (f2 : bvp (x27) = bvp (x25) &&& bvp (x26)) (h3 : x25 = past_0 (x24)) (f6 : UPN (past_0) (x9) (x10) (x1) (x7) (x8)) (f14 : x8 < x9) : 0 ≤ x27 ∧ x27 ≤ 8 := by
  first
    | (have v := up1_node (p := x24) (x := x25) ‹UPN _ _ _ _ _ _› (by omega) (by omega) (by assumption); unfold PNW at v; have e := and255p (a := x27) (x := x25) (q := x26) (by assumption) (by omega) (by omega) (by omega) (by omega) (by omega); omega)
    | (have v := up1_node (p := x30) (x := x31) ‹UPN _ _ _ _ _ _› (by omega) (by omega) (by assumption); unfold PNW at v; have e := and255p (a := x35) (x := x33) (q := x34) (by assumption) (by omega) (by omega) (by omega) (by omega) (by omega); omega)
    | (have v := up1_node (p := x38) (x := x39) ‹UPN _ _ _ _ _ _› (by omega) (by omega) (by assumption); unfold PNW at v; omega)
def o_Gr_unpack_7 : or_T := (89, 28, [(0, (2, 0, 0, [3])), (1, (0, 0, 30, [])), (3, (0, 0, 30, [])), (4, (0, 0, 30, [])), (5, (2, 0, 0, [3])), (6, (0, 0, 30, [])), (7, (0, 2, 3781, [])), (8, (0, 0, 23, [])), (9, (0, 1, 24, [])), (10, (0, 0, 48, [])), (11, (2, 0, 0, [61])), (19, (0, 1, 1, [])), (20, (0, 3, 3781, [])), (23, (0, 2, 2, [])), (24, (0, 4, 3781, [])), (25, (0, -2147483648, 2147483647, [])), (26, (0, 255, 255, [])), (27, (0, 0, 255, []))], [(9, [9, 5], [0]), (9, [10, 5], [1]), (16, [27, 25, 26], [0]), (10, [25, 11, 24], []), (1, [24, 7, 23], []), (9, [11, 5], [16]), (20, [11, 9, 10, 6, 7, 8], [61, 1, 744]), (20, [11, 3, 4], [61, 1, 740]), (20, [5, 3, 4], [50, 2, 0, 17, 18, 2, 7, 1, 3, 2, 0, 17, 1, 1, 1, 3, 2, 0, 18, 1, 2]), (24, [0, 5], []), (24, [1, 6], []), (102, [21], [281474976710656]), (1, [20, 7, 19], []), (102, [14], [281474976710656]), (7, [8, 9], [2])], [(27, (0, 0, 8, []))], [], [], [], [(24, 7, 2, 2), (20, 7, 1, 1), (8, 9, -4294967296, -1), (1, 6, -4294967296, 0), (6, 1, -4294967296, 0), (8, 7, -4294967296, -2), (8, 9, -4294967296, 0)])
theorem oo_Gr_unpack_7 {kA : Nat → ClassId} : or_ok PRD kA GG o_Gr_unpack_7 := by
  refine or_mk fun A ta ws vs hD hth hl => ?_
  intro t0 r0 t1 k1 t3 k3 t4 k4 t5 r5 t6 k6 t7 k7 t8 k8 t9 k9 t10 k10 t11 r11 t19 k19 t20 k20 t23 k23 t24 k24 t25 k25 t26 k26 t27 k27 d0 d1 d2 d3 d4 d5 d6 f0 f1 f2 f3 f4 f5 f6 f7 f8 f9 f10 ta1 w1 le1 s1 f12 ta2 w2 le2 s2 f14
  replace f3 := shm_107 f3
  replace f5 := shm_176 f5
  replace f6 := shm_1364 f6
  replace f9 := shm_5 f9
  replace f10 := shm_5 f10
  have q5 : n_v vs 5 = n_v vs 0 := f9.symm
  have q6 : n_v vs 6 = n_v vs 1 := f10.symm
  simp only [q5, q6] at f5 f6
  have ad_11 : v_ad (n_v vs 11) = w_ar ws (n_v vs 0) 16 := congrArg v_ad f5
  simp only [ad_11] at f3
  have h3 : v_iv (n_v vs 25) = w_ei ws (w_ar ws (n_v vs 0) 16) (v_iv (n_v vs 24)) := f3
  simp only [ad_11] at f6
  have hrf0 : 0 ≤ v_iv (n_v vs 27) ∧ v_iv (n_v vs 27) ≤ 8 := vc_Gr_unpack_7_r0 (v_iv (n_v vs 1)) (v_iv (n_v vs 6)) (v_iv (n_v vs 7)) (v_iv (n_v vs 8)) (v_iv (n_v vs 9)) (v_iv (n_v vs 10)) (v_iv (n_v vs 20)) (v_iv (n_v vs 24)) (v_iv (n_v vs 25)) (v_iv (n_v vs 26)) (v_iv (n_v vs 27)) (w_ei ws (w_ar ws (n_v vs 0) 16)) k1 k7 k8 k9 k10 k24 k25 k26 k27 d0 (shm_11 f2) h3 f6 (shm_6 f14)
  have rf27 : tv_ok ta (0, 0, 8, []) (n_v vs 27) := tv_in t27 (by first | omega | grind) (by first | omega | grind)
  refine ⟨List.forall_mem_cons.mpr ⟨rf27, (fun _ h => (by cases h))⟩, [], trivial, ?_, (fun _ h => (by cases h))⟩
  rw [List.append_nil]
  exact (fun _ h => (by cases h))
set_option maxHeartbeats 4000000 in
theorem vc_Gr_unpack_8_r0 (x1 : Int) (x6 : Int) (x7 : Int) (x9 : Int) (x10 : Int) (x20 : Int) (x24 : Int) (x29 : Int) (x30 : Int) (a11_0 : Int → Int) (done_0 : Int) (undone_0 : Int) (a11_1 : Int → Int) (done_1 : Int) (undone_1 : Int) (x27 : Int) (k7 : 2 ≤ x7 ∧ x7 ≤ 3781) (k24 : 4 ≤ x24 ∧ x24 ≤ 3781) (k30 : 4 ≤ x30 ∧ x30 ≤ 3783) (d0 : x7 + 2 ≤ x30 ∧ x30 ≤ x7 + 2) (d1 : x7 + 2 ≤ x24 ∧ x24 ≤ x7 + 2) (fe_0_17_1 : done_0 = done_1) (fe_0_18_1 : undone_0 = undone_1) (hE_11_999_1 : ∀ j : Int, a11_0 j = a11_1 j) (kz_0_17 : 0 ≤ done_0 ∧ done_0 ≤ 30) (kz_0_18 : 0 ≤ undone_0 ∧ undone_0 ≤ 30) : 4 ≤ x30 ∧ x30 ≤ 3781 := by
  subst fe_0_17_1
  subst fe_0_18_1
  have e_hE_11_999_1 := funext hE_11_999_1; subst e_hE_11_999_1
  first
    | omega
def o_Gr_unpack_8 : or_T := (102, 31, [(0, (2, 0, 0, [3])), (1, (0, 0, 30, [])), (3, (0, 0, 30, [])), (4, (0, 0, 30, [])), (5, (2, 0, 0, [3])), (6, (0, 0, 30, [])), (7, (0, 2, 3781, [])), (8, (0, 0, 23, [])), (9, (0, 1, 24, [])), (10, (0, 0, 48, [])), (11, (2, 0, 0, [61])), (19, (0, 1, 1, [])), (20, (0, 3, 3781, [])), (22, (2, 0, 0, [49])), (23, (0, 2, 2, [])), (24, (0, 4, 3781, [])), (29, (0, 2, 2, [])), (30, (0, 4, 3783, []))], [(9, [22, 5], [4]), (9, [9, 5], [0]), (9, [10, 5], [1]), (1, [30, 7, 29], []), (20, [11, 9, 10, 6, 7, 8], [61, 1, 744]), (20, [11, 3, 4], [61, 1, 740]), (20, [5, 3, 4], [50, 2, 0, 17, 18, 2, 7, 1, 3, 2, 0, 17, 1, 1, 1, 3, 2, 0, 18, 1, 2]), (24, [0, 5], []), (24, [1, 6], []), (100, [22, 8, 27], []), (1, [24, 7, 23], []), (20, [11, 9, 10, 6, 7, 8], [61, 1, 744]), (20, [11, 3, 4], [61, 1, 740]), (20, [5, 3, 4], [50, 2, 0, 17, 18, 2, 7, 1, 3, 2, 0, 17, 1, 1, 1, 3, 2, 0, 18, 1, 2]), (102, [21], [281474976710656]), (1, [20, 7, 19], []), (102, [14], [281474976710656]), (7, [8, 9], [2])], [(30, (0, 4, 3781, []))], [], [], [], [(30, 7, 2, 2), (24, 7, 2, 2), (20, 7, 1, 1), (8, 9, -4294967296, -1), (1, 6, -4294967296, 0), (6, 1, -4294967296, 0), (8, 7, -4294967296, -2), (8, 9, -4294967296, 0)])
theorem oo_Gr_unpack_8 {kA : Nat → ClassId} : or_ok PRD kA GG o_Gr_unpack_8 := by
  refine or_mk fun A ta ws vs hD hth hl => ?_
  intro t0 r0 t1 k1 t3 k3 t4 k4 t5 r5 t6 k6 t7 k7 t8 k8 t9 k9 t10 k10 t11 r11 t19 k19 t20 k20 t22 r22 t23 k23 t24 k24 t29 k29 t30 k30 d0 d1 d2 d3 d4 d5 d6 d7 f0 f1 f2 f3 f4 f5 f6 f7 f8 ta1 w1 le1 s1 f10 f11 f12 f13 ta2 w2 le2 s2 f15 ta3 w3 le3 s3 f17
  have s1 : (∀ b j, w_el ws b j = if b = v_ad (n_v vs 22) ∧ j = (v_iv (n_v vs 8)).toNat then v_iv (n_v vs 27) else w_el w1 b j) ∧ ∀ b k, w_fd ws b k = w_fd w1 b k := s1.2
  have cr_11_999 : ta (v_ad (n_v vs 11)) = some 61 := r11
  have fe_0_17_1 : w_fi ws (n_v vs 0) 17 = w_fi w1 (n_v vs 0) 17 := congrArg v_iv (s1.2 _ _)
  have fe_0_18_1 : w_fi ws (n_v vs 0) 18 = w_fi w1 (n_v vs 0) 18 := congrArg v_iv (s1.2 _ _)
  have hE_11_999_1 : ∀ j : Int, w_ei ws (v_ad (n_v vs 11)) j = w_ei w1 (v_ad (n_v vs 11)) j := el_kp s1.1 r22 cr_11_999 (by decide)
  have kz_0_17 := fdq_288 hD hth r0
  have kz_0_18 := fdq_289 hD hth r0
  have hrf0 : 4 ≤ v_iv (n_v vs 30) ∧ v_iv (n_v vs 30) ≤ 3781 := vc_Gr_unpack_8_r0 (v_iv (n_v vs 1)) (v_iv (n_v vs 6)) (v_iv (n_v vs 7)) (v_iv (n_v vs 9)) (v_iv (n_v vs 10)) (v_iv (n_v vs 20)) (v_iv (n_v vs 24)) (v_iv (n_v vs 29)) (v_iv (n_v vs 30)) (w_ei ws (v_ad (n_v vs 11))) (w_fi ws (n_v vs 0) 17) (w_fi ws (n_v vs 0) 18) (w_ei w1 (v_ad (n_v vs 11))) (w_fi w1 (n_v vs 0) 17) (w_fi w1 (n_v vs 0) 18) (v_iv (n_v vs 27)) k7 k24 k30 d0 d1 fe_0_17_1 fe_0_18_1 hE_11_999_1 kz_0_17 kz_0_18
  have rf30 : tv_ok ta (0, 4, 3781, []) (n_v vs 30) := tv_in t30 (by first | omega | grind) (by first | omega | grind)
  refine ⟨List.forall_mem_cons.mpr ⟨rf30, (fun _ h => (by cases h))⟩, [], trivial, ?_, (fun _ h => (by cases h))⟩
  rw [List.append_nil]
  exact (fun _ h => (by cases h))
set_option maxHeartbeats 4000000 in
theorem vc_Gr_unpack_9_r0 (x1 : Int) (x6 : Int) (x7 : Int) (x8 : Int) (x9 : Int) (x10 : Int) (x20 : Int) (x24 : Int) (x29 : Int) (x30 : Int) (x31 : Int) (x33 : Int) (x34 : Int) (x35 : Int) (past_0 : Int → Int) (done_0 : Int) (undone_0 : Int) (past_1 : Int → Int) (done_1 : Int) (undone_1 : Int) (x27 : Int) (k1 : 0 ≤ x1 ∧ x1 ≤ 30) (k7 : 2 ≤ x7 ∧ x7 ≤ 3781) (k8 : 0 ≤ x8 ∧ x8 ≤ 23) (k9 : 1 ≤ x9 ∧ x9 ≤ 24) (k10 : 0 ≤ x10 ∧ x10 ≤ 48) (k30 : 4 ≤ x30 ∧ x30 ≤ 3781) (k31 : (-2147483648) ≤ x31 ∧ x31 ≤ 2147483647) (k33 : (-2147483648) ≤ x33 ∧ x33 ≤ 2147483647) (k34 : 255 ≤ x34 ∧ x34 ≤ 255) (k35 : 0 ≤ x35 ∧ x35 ≤ 255) (d0 : x7 + 2 ≤ x30 ∧ x30 ≤ x7 + 2) (f3 : bvp (x35) = bvp (x33) &&& bvp (x34)) (f4 : x33 = x31 / 256) (h5 : x31 = past_0 (x30)) (f15 : UPN (past_1) (x9) (x10) (x1) (x7) (x8)) (f21 : x8 < x9) (fe_0_17_1 : done_0 = done_1) (fe_0_18_1 : undone_0 = undone_1) (hE_0_16_1 : ∀ j : Int, past_0 j = past_1 j) (kz_0_17 : 0 ≤ done_0 ∧ done_0 ≤ 30) (kz_0_18 : 0 ≤ undone_0 ∧ undone_0 ≤ 30) : 0 ≤ x35 ∧ x35 ≤ 99 := by
  subst fe_0_17_1
  subst fe_0_18_1
  have e_hE_0_16_1 := funext hE_0_16_1; subst e_hE_0_16_1
  first
    | (have v := up1_node (p := x24) (x := x25) ‹UPN _ _ _ _ _ _› (by omega) (by omega) (by assumption); unfold PNW at v; have e := and255p (a := x27) (x := x25) (q := x26) (by assumption) (by omega) (by omega) (by omega) (by omega) (by omega); omega)
    | (have v := up1_node (p := x30) (x := x31) ‹UPN _ _ _ _ _ _› (by omega) (by omega) (by assumption); unfold PNW at v; have e := and255p (a := x35) (x := x33) (q := x34) (by assumption) (by omega) (by omega) (by omega) (by omega) (by omega); omega)
    | (have v := up1_node (p := x38) (x := x39) ‹UPN _ _ _ _ _ _› (by omega) (by omega) (by assumption); unfold PNW at v; omega)
def o_Gr_unpack_9 : or_T := (110, 36, [(0, (2, 0, 0, [3])), (1, (0, 0, 30, [])), (3, (0, 0, 30, [])), (4, (0, 0, 30, [])), (5, (2, 0, 0, [3])), (6, (0, 0, 30, [])), (7, (0, 2, 3781, [])), (8, (0, 0, 23, [])), (9, (0, 1, 24, [])), (10, (0, 0, 48, [])), (11, (2, 0, 0, [61])), (19, (0, 1, 1, [])), (20, (0, 3, 3781, [])), (22, (2, 0, 0, [49])), (23, (0, 2, 2, [])), (24, (0, 4, 3781, [])), (29, (0, 2, 2, [])), (30, (0, 4, 3781, [])), (31, (0, -2147483648, 2147483647, [])), (33, (0, -2147483648, 2147483647, [])), (34, (0, 255, 255, [])), (35, (0, 0, 255, []))], [(9, [22, 5], [4]), (9, [9, 5], [0]), (9, [10, 5], [1]), (16, [35, 33, 34], [0]), (11, [33, 31], [256]), (10, [31, 11, 30], []), (1, [30, 7, 29], []), (9, [11, 5], [16]), (20, [11, 9, 10, 6, 7, 8], [61, 1, 744]), (20, [11, 3, 4], [61, 1, 740]), (20, [5, 3, 4], [50, 2, 0, 17, 18, 2, 7, 1, 3, 2, 0, 17, 1, 1, 1, 3, 2, 0, 18, 1, 2]), (24, [0, 5], []), (24, [1, 6], []), (100, [22, 8, 27], []), (1, [24, 7, 23], []), (20, [11, 9, 10, 6, 7, 8], [61, 1, 744]), (20, [11, 3, 4], [61, 1, 740]), (20, [5, 3, 4], [50, 2, 0, 17, 18, 2, 7, 1, 3, 2, 0, 17, 1, 1, 1, 3, 2, 0, 18, 1, 2]), (102, [21], [281474976710656]), (1, [20, 7, 19], []), (102, [14], [281474976710656]), (7, [8, 9], [2])], [(35, (0, 0, 99, []))], [], [], [], [(30, 7, 2, 2), (24, 7, 2, 2), (20, 7, 1, 1), (8, 9, -4294967296, -1), (1, 6, -4294967296, 0), (6, 1, -4294967296, 0), (8, 7, -4294967296, -2), (8, 9, -4294967296, 0)])
theorem oo_Gr_unpack_9 {kA : Nat → ClassId} : or_ok PRD kA GG o_Gr_unpack_9 := by
  refine or_mk fun A ta ws vs hD hth hl => ?_
  intro t0 r0 t1 k1 t3 k3 t4 k4 t5 r5 t6 k6 t7 k7 t8 k8 t9 k9 t10 k10 t11 r11 t19 k19 t20 k20 t22 r22 t23 k23 t24 k24 t29 k29 t30 k30 t31 k31 t33 k33 t34 k34 t35 k35 d0 d1 d2 d3 d4 d5 d6 d7 f0 f1 f2 f3 f4 f5 f6 f7 f8 f9 f10 f11 f12 ta1 w1 le1 s1 f14 f15 f16 f17 ta2 w2 le2 s2 f19 ta3 w3 le3 s3 f21
  replace f5 := shm_107 f5
  replace f7 := shm_176 f7
  replace f11 := shm_5 f11
  replace f12 := shm_5 f12
  have s1 : (∀ b j, w_el ws b j = if b = v_ad (n_v vs 22) ∧ j = (v_iv (n_v vs 8)).toNat then v_iv (n_v vs 27) else w_el w1 b j) ∧ ∀ b k, w_fd ws b k = w_fd w1 b k := s1.2
  replace f15 := shm_1364 f15
  have q5 : n_v vs 5 = n_v vs 0 := f11.symm
  have q6 : n_v vs 6 = n_v vs 1 := f12.symm
  simp only [q5, q6] at f7 f15
  have ad_11 : v_ad (n_v vs 11) = w_ar ws (n_v vs 0) 16 := congrArg v_ad f7
  have cr_0_16 : ta (w_ar ws (n_v vs 0) 16) = some 61 := by rw [← ad_11]; exact r11
  simp only [ad_11] at f5
  have h5 : v_iv (n_v vs 31) = w_ei ws (w_ar ws (n_v vs 0) 16) (v_iv (n_v vs 30)) := f5
  simp only [ad_11] at f15
  have fe_0_17_1 : w_fi ws (n_v vs 0) 17 = w_fi w1 (n_v vs 0) 17 := congrArg v_iv (s1.2 _ _)
  have fe_0_18_1 : w_fi ws (n_v vs 0) 18 = w_fi w1 (n_v vs 0) 18 := congrArg v_iv (s1.2 _ _)
  have hE_0_16_1 : ∀ j : Int, w_ei ws (w_ar ws (n_v vs 0) 16) j = w_ei w1 (w_ar ws (n_v vs 0) 16) j := el_kp s1.1 r22 cr_0_16 (by decide)
  have kz_0_17 := fdq_288 hD hth r0
  have kz_0_18 := fdq_289 hD hth r0
  have hrf0 : 0 ≤ v_iv (n_v vs 35) ∧ v_iv (n_v vs 35) ≤ 99 := vc_Gr_unpack_9_r0 (v_iv (n_v vs 1)) (v_iv (n_v vs 6)) (v_iv (n_v vs 7)) (v_iv (n_v vs 8)) (v_iv (n_v vs 9)) (v_iv (n_v vs 10)) (v_iv (n_v vs 20)) (v_iv (n_v vs 24)) (v_iv (n_v vs 29)) (v_iv (n_v vs 30)) (v_iv (n_v vs 31)) (v_iv (n_v vs 33)) (v_iv (n_v vs 34)) (v_iv (n_v vs 35)) (w_ei ws (w_ar ws (n_v vs 0) 16)) (w_fi ws (n_v vs 0) 17) (w_fi ws (n_v vs 0) 18) (w_ei w1 (w_ar ws (n_v vs 0) 16)) (w_fi w1 (n_v vs 0) 17) (w_fi w1 (n_v vs 0) 18) (v_iv (n_v vs 27)) k1 k7 k8 k9 k10 k30 k31 k33 k34 k35 d0 (shm_11 f3) (shm_442 f4) h5 f15 (shm_6 f21) fe_0_17_1 fe_0_18_1 hE_0_16_1 kz_0_17 kz_0_18
  have rf35 : tv_ok ta (0, 0, 99, []) (n_v vs 35) := tv_in t35 (by first | omega | grind) (by first | omega | grind)
  refine ⟨List.forall_mem_cons.mpr ⟨rf35, (fun _ h => (by cases h))⟩, [], trivial, ?_, (fun _ h => (by cases h))⟩
  rw [List.append_nil]
  exact (fun _ h => (by cases h))
set_option maxHeartbeats 4000000 in
theorem vc_Gr_unpack_10_r0 (x1 : Int) (x6 : Int) (x7 : Int) (x9 : Int) (x10 : Int) (x20 : Int) (x24 : Int) (x29 : Int) (x30 : Int) (x38 : Int) (nodes_0 : Int) (edges_0 : Int) (a11_0 : Int → Int) (done_0 : Int) (undone_0 : Int) (a11_1 : Int → Int) (done_1 : Int) (undone_1 : Int) (a11_2 : Int → Int) (done_2 : Int) (undone_2 : Int) (nodes_1 : Int) (edges_1 : Int) (nameLength_0 : Int → Int) (nameLength_1 : Int → Int) (x27 : Int) (size_1 : Int → Int) (x35 : Int) (size_2 : Int → Int) (k7 : 2 ≤ x7 ∧ x7 ≤ 3781) (k30 : 4 ≤ x30 ∧ x30 ≤ 3781) (k38 : 4 ≤ x38 ∧ x38 ≤ 3783) (d0 : x7 + 2 ≤ x38 ∧ x38 ≤ x7 + 2) (d1 : x7 + 2 ≤ x30 ∧ x30 ≤ x7 + 2) (fe_0_0_1 : nodes_0 = nodes_1) (fe_0_1_1 : edges_0 = edges_1) (fe_0_17_1 : done_0 = done_1) (fe_0_18_1 : undone_0 = undone_1) (fe_0_17_2 : done_1 = done_2) (fe_0_18_2 : undone_1 = undone_2) (hE_0_4_1 : ∀ j : Int, nameLength_0 j = nameLength_1 j) (hE_0_5_2 : ∀ j : Int, size_1 j = size_2 j) (hE_11_999_1 : ∀ j : Int, a11_0 j = a11_1 j) (hE_11_999_2 : ∀ j : Int, a11_1 j = a11_2 j) (kz_0_0 : 0 ≤ nodes_0 ∧ nodes_0 ≤ 24) (kz_0_1 : 0 ≤ edges_0 ∧ edges_0 ≤ 48) (kz_0_17 : 0 ≤ done_0 ∧ done_0 ≤ 30) (kz_0_18 : 0 ≤ undone_0 ∧ undone_0 ≤ 30) : 4 ≤ x38 ∧ x38 ≤ 3781 := by
  subst fe_0_0_1
  subst fe_0_1_1
  subst fe_0_17_1
  subst fe_0_18_1
  subst fe_0_17_2
  subst fe_0_18_2
  have e_hE_0_4_1 := funext hE_0_4_1; subst e_hE_0_4_1
  have e_hE_0_5_2 := funext hE_0_5_2; subst e_hE_0_5_2
  have e_hE_11_999_1 := funext hE_11_999_1; subst e_hE_11_999_1
  have e_hE_11_999_2 := funext hE_11_999_2; subst e_hE_11_999_2
  first
    | omega
def o_Gr_unpack_10 : or_T := (123, 39, [(0, (2, 0, 0, [3])), (1, (0, 0, 30, [])), (3, (0, 0, 30, [])), (4, (0, 0, 30, [])), (5, (2, 0, 0, [3])), (6, (0, 0, 30, [])), (7, (0, 2, 3781, [])), (8, (0, 0, 23, [])), (9, (0, 1, 24, [])), (10, (0, 0, 48, [])), (11, (2, 0, 0, [61])), (19, (0, 1, 1, [])), (20, (0, 3, 3781, [])), (22, (2, 0, 0, [49])), (23, (0, 2, 2, [])), (24, (0, 4, 3781, [])), (28, (2, 0, 0, [50])), (29, (0, 2, 2, [])), (30, (0, 4, 3781, [])), (37, (0, 2, 2, [])), (38, (0, 4, 3783, []))], [(9, [28, 5], [5]), (9, [22, 5], [4]), (9, [9, 5], [0]), (9, [10, 5], [1]), (1, [38, 7, 37], []), (20, [11, 9, 10, 6, 7, 8], [61, 1, 744]), (20, [11, 3, 4], [61, 1, 740]), (20, [5, 3, 4], [50, 2, 0, 17, 18, 2, 7, 1, 3, 2, 0, 17, 1, 1, 1, 3, 2, 0, 18, 1, 2]), (24, [0, 5], []), (24, [1, 6], []), (100, [28, 8, 35], []), (1, [30, 7, 29], []), (20, [11, 9, 10, 6, 7, 8], [61, 1, 744]), (20, [11, 3, 4], [61, 1, 740]), (20, [5, 3, 4], [50, 2, 0, 17, 18, 2, 7, 1, 3, 2, 0, 17, 1, 1, 1, 3, 2, 0, 18, 1, 2]), (100, [22, 8, 27], []), (1, [24, 7, 23], []), (20, [11, 9, 10, 6, 7, 8], [61, 1, 744]), (20, [11, 3, 4], [61, 1, 740]), (20, [5, 3, 4], [50, 2, 0, 17, 18, 2, 7, 1, 3, 2, 0, 17, 1, 1, 1, 3, 2, 0, 18, 1, 2]), (102, [21], [281474976710656]), (1, [20, 7, 19], []), (102, [14], [281474976710656]), (7, [8, 9], [2])], [(38, (0, 4, 3781, []))], [], [], [], [(38, 7, 2, 2), (30, 7, 2, 2), (24, 7, 2, 2), (20, 7, 1, 1), (8, 9, -4294967296, -1), (1, 6, -4294967296, 0), (6, 1, -4294967296, 0), (8, 7, -4294967296, -2), (8, 9, -4294967296, 0)])
theorem oo_Gr_unpack_10 {kA : Nat → ClassId} : or_ok PRD kA GG o_Gr_unpack_10 := by
  refine or_mk fun A ta ws vs hD hth hl => ?_
  intro t0 r0 t1 k1 t3 k3 t4 k4 t5 r5 t6 k6 t7 k7 t8 k8 t9 k9 t10 k10 t11 r11 t19 k19 t20 k20 t22 r22 t23 k23 t24 k24 t28 r28 t29 k29 t30 k30 t37 k37 t38 k38 d0 d1 d2 d3 d4 d5 d6 d7 d8 f0 f1 f2 f3 f4 f5 f6 f7 f8 f9 ta1 w1 le1 s1 f11 f12 f13 f14 ta2 w2 le2 s2 f16 f17 f18 f19 ta3 w3 le3 s3 f21 ta4 w4 le4 s4 f23
  have s1 : (∀ b j, w_el ws b j = if b = v_ad (n_v vs 28) ∧ j = (v_iv (n_v vs 8)).toNat then v_iv (n_v vs 35) else w_el w1 b j) ∧ ∀ b k, w_fd ws b k = w_fd w1 b k := s1.2
  have s2 : (∀ b j, w_el w1 b j = if b = v_ad (n_v vs 22) ∧ j = (v_iv (n_v vs 8)).toNat then v_iv (n_v vs 27) else w_el w2 b j) ∧ ∀ b k, w_fd w1 b k = w_fd w2 b k := s2.2
  have cr_0_4 := fdq_4 hD hth r0
  have cr_0_5 := fdq_69 hD hth r0
  have cr_11_999 : ta (v_ad (n_v vs 11)) = some 61 := r11
  have fe_0_0_1 : w_fi ws (n_v vs 0) 0 = w_fi w1 (n_v vs 0) 0 := congrArg v_iv (s1.2 _ _)
  have fe_0_1_1 : w_fi ws (n_v vs 0) 1 = w_fi w1 (n_v vs 0) 1 := congrArg v_iv (s1.2 _ _)
  have fe_0_17_1 : w_fi ws (n_v vs 0) 17 = w_fi w1 (n_v vs 0) 17 := congrArg v_iv (s1.2 _ _)
  have fe_0_18_1 : w_fi ws (n_v vs 0) 18 = w_fi w1 (n_v vs 0) 18 := congrArg v_iv (s1.2 _ _)
  have fe_0_17_2 : w_fi w1 (n_v vs 0) 17 = w_fi w2 (n_v vs 0) 17 := congrArg v_iv (s2.2 _ _)
  have fe_0_18_2 : w_fi w1 (n_v vs 0) 18 = w_fi w2 (n_v vs 0) 18 := congrArg v_iv (s2.2 _ _)
  have hE_0_4_1 : ∀ j : Int, w_ei ws (w_ar ws (n_v vs 0) 4) j = w_ei w1 (w_ar ws (n_v vs 0) 4) j := el_kp s1.1 r28 cr_0_4 (by decide)
  have hE_0_5_2 : ∀ j : Int, w_ei w1 (w_ar ws (n_v vs 0) 5) j = w_ei w2 (w_ar ws (n_v vs 0) 5) j := el_kp s2.1 r22 cr_0_5 (by decide)
  have hE_11_999_1 : ∀ j : Int, w_ei ws (v_ad (n_v vs 11)) j = w_ei w1 (v_ad (n_v vs 11)) j := el_kp s1.1 r28 cr_11_999 (by decide)
  have hE_11_999_2 : ∀ j : Int, w_ei w1 (v_ad (n_v vs 11)) j = w_ei w2 (v_ad (n_v vs 11)) j := el_kp s2.1 r22 cr_11_999 (by decide)
  have kz_0_0 := fdq_21 hD hth r0
  have kz_0_1 := fdq_30 hD hth r0
  have kz_0_17 := fdq_288 hD hth r0
  have kz_0_18 := fdq_289 hD hth r0
  have hrf0 : 4 ≤ v_iv (n_v vs 38) ∧ v_iv (n_v vs 38) ≤ 3781 := vc_Gr_unpack_10_r0 (v_iv (n_v vs 1)) (v_iv (n_v vs 6)) (v_iv (n_v vs 7)) (v_iv (n_v vs 9)) (v_iv (n_v vs 10)) (v_iv (n_v vs 20)) (v_iv (n_v vs 24)) (v_iv (n_v vs 29)) (v_iv (n_v vs 30)) (v_iv (n_v vs 38)) (w_fi ws (n_v vs 0) 0) (w_fi ws (n_v vs 0) 1) (w_ei ws (v_ad (n_v vs 11))) (w_fi ws (n_v vs 0) 17) (w_fi ws (n_v vs 0) 18) (w_ei w1 (v_ad (n_v vs 11))) (w_fi w1 (n_v vs 0) 17) (w_fi w1 (n_v vs 0) 18) (w_ei w2 (v_ad (n_v vs 11))) (w_fi w2 (n_v vs 0) 17) (w_fi w2 (n_v vs 0) 18) (w_fi w1 (n_v vs 0) 0) (w_fi w1 (n_v vs 0) 1) (w_ei ws (w_ar ws (n_v vs 0) 4)) (w_ei w1 (w_ar ws (n_v vs 0) 4)) (v_iv (n_v vs 27)) (w_ei w1 (w_ar ws (n_v vs 0) 5)) (v_iv (n_v vs 35)) (w_ei w2 (w_ar ws (n_v vs 0) 5)) k7 k30 k38 d0 d1 fe_0_0_1 fe_0_1_1 fe_0_17_1 fe_0_18_1 fe_0_17_2 fe_0_18_2 hE_0_4_1 hE_0_5_2 hE_11_999_1 hE_11_999_2 kz_0_0 kz_0_1 kz_0_17 kz_0_18
  have rf38 : tv_ok ta (0, 4, 3781, []) (n_v vs 38) := tv_in t38 (by first | omega | grind) (by first | omega | grind)
  refine ⟨List.forall_mem_cons.mpr ⟨rf38, (fun _ h => (by cases h))⟩, [], trivial, ?_, (fun _ h => (by cases h))⟩
  rw [List.append_nil]
  exact (fun _ h => (by cases h))
set_option maxHeartbeats 4000000 in
theorem vc_Gr_unpack_11_r0 (x1 : Int) (x6 : Int) (x7 : Int) (x8 : Int) (x9 : Int) (x10 : Int) (x20 : Int) (x24 : Int) (x29 : Int) (x30 : Int) (x38 : Int) (x39 : Int) (x41 : Int) (nodes_0 : Int) (edges_0 : Int) (past_0 : Int → Int) (done_0 : Int) (undone_0 : Int) (past_1 : Int → Int) (done_1 : Int) (undone_1 : Int) (past_2 : Int → Int) (done_2 : Int) (undone_2 : Int) (nodes_1 : Int) (edges_1 : Int) (nameLength_0 : Int → Int) (nameLength_1 : Int → Int) (x27 : Int) (size_1 : Int → Int) (x35 : Int) (size_2 : Int → Int) (k1 : 0 ≤ x1 ∧ x1 ≤ 30) (k7 : 2 ≤ x7 ∧ x7 ≤ 3781) (k8 : 0 ≤ x8 ∧ x8 ≤ 23) (k9 : 1 ≤ x9 ∧ x9 ≤ 24) (k10 : 0 ≤ x10 ∧ x10 ≤ 48) (k38 : 4 ≤ x38 ∧ x38 ≤ 3781) (k39 : (-2147483648) ≤ x39 ∧ x39 ≤ 2147483647) (k41 : (-2147483648) ≤ x41 ∧ x41 ≤ 2147483647) (d0 : x7 + 2 ≤ x38 ∧ x38 ≤ x7 + 2) (f4 : x41 = x39 / 65536) (h5 : x39 = past_0 (x38)) (f20 : UPN (past_2) (x9) (x10) (x1) (x7) (x8)) (f26 : x8 < x9) (fe_0_0_1 : nodes_0 = nodes_1) (fe_0_1_1 : edges_0 = edges_1) (fe_0_17_1 : done_0 = done_1) (fe_0_18_1 : undone_0 = undone_1) (fe_0_17_2 : done_1 = done_2) (fe_0_18_2 : undone_1 = undone_2) (hE_0_4_1 : ∀ j : Int, nameLength_0 j = nameLength_1 j) (hE_0_5_2 : ∀ j : Int, size_1 j = size_2 j) (hE_0_16_1 : ∀ j : Int, past_0 j = past_1 j) (hE_0_16_2 : ∀ j : Int, past_1 j = past_2 j) (kz_0_0 : 0 ≤ nodes_0 ∧ nodes_0 ≤ 24) (kz_0_1 : 0 ≤ edges_0 ∧ edges_0 ≤ 48) (kz_0_17 : 0 ≤ done_0 ∧ done_0 ≤ 30) (kz_0_18 : 0 ≤ undone_0 ∧ undone_0 ≤ 30) : 0 ≤ x41 ∧ x41 ≤ 7 := by
  subst fe_0_0_1
  subst fe_0_1_1
  subst fe_0_17_1
  subst fe_0_18_1
  subst fe_0_17_2
  subst fe_0_18_2
  have e_hE_0_4_1 := funext hE_0_4_1; subst e_hE_0_4_1
  have e_hE_0_5_2 := funext hE_0_5_2; subst e_hE_0_5_2
  have e_hE_0_16_1 := funext hE_0_16_1; subst e_hE_0_16_1
  have e_hE_0_16_2 := funext hE_0_16_2; subst e_hE_0_16_2
  first
    | (have v := up1_node (p := x38) (x := x39) ‹UPN _ _ _ _ _ _› (by omega) (by omega) (by assumption); unfold PNW at v; omega)
def o_Gr_unpack_11 : or_T := (127, 42, [(0, (2, 0, 0, [3])), (1, (0, 0, 30, [])), (3, (0, 0, 30, [])), (4, (0, 0, 30, [])), (5, (2, 0, 0, [3])), (6, (0, 0, 30, [])), (7, (0, 2, 3781, [])), (8, (0, 0, 23, [])), (9, (0, 1, 24, [])), (10, (0, 0, 48, [])), (11, (2, 0, 0, [61])), (19, (0, 1, 1, [])), (20, (0, 3, 3781, [])), (22, (2, 0, 0, [49])), (23, (0, 2, 2, [])), (24, (0, 4, 3781, [])), (28, (2, 0, 0, [50])), (29, (0, 2, 2, [])), (30, (0, 4, 3781, [])), (37, (0, 2, 2, [])), (38, (0, 4, 3781, [])), (39, (0, -2147483648, 2147483647, [])), (41, (0, -2147483648, 2147483647, []))], [(9, [28, 5], [5]), (9, [22, 5], [4]), (9, [9, 5], [0]), (9, [10, 5], [1]), (11, [41, 39], [65536]), (10, [39, 11, 38], []), (1, [38, 7, 37], []), (9, [11, 5], [16]), (20, [11, 9, 10, 6, 7, 8], [61, 1, 744]), (20, [11, 3, 4], [61, 1, 740]), (20, [5, 3, 4], [50, 2, 0, 17, 18, 2, 7, 1, 3, 2, 0, 17, 1, 1, 1, 3, 2, 0, 18, 1, 2]), (24, [0, 5], []), (24, [1, 6], []), (100, [28, 8, 35], []), (1, [30, 7, 29], []), (20, [11, 9, 10, 6, 7, 8], [61, 1, 744]), (20, [11, 3, 4], [61, 1, 740]), (20, [5, 3, 4], [50, 2, 0, 17, 18, 2, 7, 1, 3, 2, 0, 17, 1, 1, 1, 3, 2, 0, 18, 1, 2]), (100, [22, 8, 27], []), (1, [24, 7, 23], []), (20, [11, 9, 10, 6, 7, 8], [61, 1, 744]), (20, [11, 3, 4], [61, 1, 740]), (20, [5, 3, 4], [50, 2, 0, 17, 18, 2, 7, 1, 3, 2, 0, 17, 1, 1, 1, 3, 2, 0, 18, 1, 2]), (102, [21], [281474976710656]), (1, [20, 7, 19], []), (102, [14], [281474976710656]), (7, [8, 9], [2])], [(41, (0, 0, 7, []))], [], [], [], [(38, 7, 2, 2), (30, 7, 2, 2), (24, 7, 2, 2), (20, 7, 1, 1), (8, 9, -4294967296, -1), (1, 6, -4294967296, 0), (6, 1, -4294967296, 0), (8, 7, -4294967296, -2), (8, 9, -4294967296, 0)])
theorem oo_Gr_unpack_11 {kA : Nat → ClassId} : or_ok PRD kA GG o_Gr_unpack_11 := by
  refine or_mk fun A ta ws vs hD hth hl => ?_
  intro t0 r0 t1 k1 t3 k3 t4 k4 t5 r5 t6 k6 t7 k7 t8 k8 t9 k9 t10 k10 t11 r11 t19 k19 t20 k20 t22 r22 t23 k23 t24 k24 t28 r28 t29 k29 t30 k30 t37 k37 t38 k38 t39 k39 t41 k41 d0 d1 d2 d3 d4 d5 d6 d7 d8 f0 f1 f2 f3 f4 f5 f6 f7 f8 f9 f10 f11 f12 ta1 w1 le1 s1 f14 f15 f16 f17 ta2 w2 le2 s2 f19 f20 f21 f22 ta3 w3 le3 s3 f24 ta4 w4 le4 s4 f26
  replace f5 := shm_107 f5
  replace f7 := shm_176 f7
  replace f11 := shm_5 f11
  replace f12 := shm_5 f12
  have s1 : (∀ b j, w_el ws b j = if b = v_ad (n_v vs 28) ∧ j = (v_iv (n_v vs 8)).toNat then v_iv (n_v vs 35) else w_el w1 b j) ∧ ∀ b k, w_fd ws b k = w_fd w1 b k := s1.2
  have s2 : (∀ b j, w_el w1 b j = if b = v_ad (n_v vs 22) ∧ j = (v_iv (n_v vs 8)).toNat then v_iv (n_v vs 27) else w_el w2 b j) ∧ ∀ b k, w_fd w1 b k = w_fd w2 b k := s2.2
  replace f20 := shm_1364 f20
  have q5 : n_v vs 5 = n_v vs 0 := f11.symm
  have q6 : n_v vs 6 = n_v vs 1 := f12.symm
  simp only [q5, q6] at f7 f20
  have cr_0_4 := fdq_4 hD hth r0
  have cr_0_5 := fdq_69 hD hth r0
  have ad_11 : v_ad (n_v vs 11) = w_ar ws (n_v vs 0) 16 := congrArg v_ad f7
  have cr_0_16 : ta (w_ar ws (n_v vs 0) 16) = some 61 := by rw [← ad_11]; exact r11
  simp only [ad_11] at f5
  have h5 : v_iv (n_v vs 39) = w_ei ws (w_ar ws (n_v vs 0) 16) (v_iv (n_v vs 38)) := f5
  simp only [ad_11] at f20
  have fe_0_0_1 : w_fi ws (n_v vs 0) 0 = w_fi w1 (n_v vs 0) 0 := congrArg v_iv (s1.2 _ _)
  have fe_0_1_1 : w_fi ws (n_v vs 0) 1 = w_fi w1 (n_v vs 0) 1 := congrArg v_iv (s1.2 _ _)
  have fe_0_17_1 : w_fi ws (n_v vs 0) 17 = w_fi w1 (n_v vs 0) 17 := congrArg v_iv (s1.2 _ _)
  have fe_0_18_1 : w_fi ws (n_v vs 0) 18 = w_fi w1 (n_v vs 0) 18 := congrArg v_iv (s1.2 _ _)
  have fe_0_17_2 : w_fi w1 (n_v vs 0) 17 = w_fi w2 (n_v vs 0) 17 := congrArg v_iv (s2.2 _ _)
  have fe_0_18_2 : w_fi w1 (n_v vs 0) 18 = w_fi w2 (n_v vs 0) 18 := congrArg v_iv (s2.2 _ _)
  have hE_0_4_1 : ∀ j : Int, w_ei ws (w_ar ws (n_v vs 0) 4) j = w_ei w1 (w_ar ws (n_v vs 0) 4) j := el_kp s1.1 r28 cr_0_4 (by decide)
  have hE_0_5_2 : ∀ j : Int, w_ei w1 (w_ar ws (n_v vs 0) 5) j = w_ei w2 (w_ar ws (n_v vs 0) 5) j := el_kp s2.1 r22 cr_0_5 (by decide)
  have hE_0_16_1 : ∀ j : Int, w_ei ws (w_ar ws (n_v vs 0) 16) j = w_ei w1 (w_ar ws (n_v vs 0) 16) j := el_kp s1.1 r28 cr_0_16 (by decide)
  have hE_0_16_2 : ∀ j : Int, w_ei w1 (w_ar ws (n_v vs 0) 16) j = w_ei w2 (w_ar ws (n_v vs 0) 16) j := el_kp s2.1 r22 cr_0_16 (by decide)
  have kz_0_0 := fdq_21 hD hth r0
  have kz_0_1 := fdq_30 hD hth r0
  have kz_0_17 := fdq_288 hD hth r0
  have kz_0_18 := fdq_289 hD hth r0
  have hrf0 : 0 ≤ v_iv (n_v vs 41) ∧ v_iv (n_v vs 41) ≤ 7 := vc_Gr_unpack_11_r0 (v_iv (n_v vs 1)) (v_iv (n_v vs 6)) (v_iv (n_v vs 7)) (v_iv (n_v vs 8)) (v_iv (n_v vs 9)) (v_iv (n_v vs 10)) (v_iv (n_v vs 20)) (v_iv (n_v vs 24)) (v_iv (n_v vs 29)) (v_iv (n_v vs 30)) (v_iv (n_v vs 38)) (v_iv (n_v vs 39)) (v_iv (n_v vs 41)) (w_fi ws (n_v vs 0) 0) (w_fi ws (n_v vs 0) 1) (w_ei ws (w_ar ws (n_v vs 0) 16)) (w_fi ws (n_v vs 0) 17) (w_fi ws (n_v vs 0) 18) (w_ei w1 (w_ar ws (n_v vs 0) 16)) (w_fi w1 (n_v vs 0) 17) (w_fi w1 (n_v vs 0) 18) (w_ei w2 (w_ar ws (n_v vs 0) 16)) (w_fi w2 (n_v vs 0) 17) (w_fi w2 (n_v vs 0) 18) (w_fi w1 (n_v vs 0) 0) (w_fi w1 (n_v vs 0) 1) (w_ei ws (w_ar ws (n_v vs 0) 4)) (w_ei w1 (w_ar ws (n_v vs 0) 4)) (v_iv (n_v vs 27)) (w_ei w1 (w_ar ws (n_v vs 0) 5)) (v_iv (n_v vs 35)) (w_ei w2 (w_ar ws (n_v vs 0) 5)) k1 k7 k8 k9 k10 k38 k39 k41 d0 (shm_440 f4) h5 f20 (shm_6 f26) fe_0_0_1 fe_0_1_1 fe_0_17_1 fe_0_18_1 fe_0_17_2 fe_0_18_2 hE_0_4_1 hE_0_5_2 hE_0_16_1 hE_0_16_2 kz_0_0 kz_0_1 kz_0_17 kz_0_18
  have rf41 : tv_ok ta (0, 0, 7, []) (n_v vs 41) := tv_in t41 (by first | omega | grind) (by first | omega | grind)
  refine ⟨List.forall_mem_cons.mpr ⟨rf41, (fun _ h => (by cases h))⟩, [], trivial, ?_, (fun _ h => (by cases h))⟩
  rw [List.append_nil]
  exact (fun _ h => (by cases h))
set_option maxHeartbeats 4000000 in
theorem vc_Gr_unpack_12_0 (x1 : Int) (x6 : Int) (x7 : Int) (x8 : Int) (x9 : Int) (x10 : Int) (x42 : Int) (x43 : Int) (nodes_0 : Int) (edges_0 : Int) (a11_0 : Int → Int) (done_0 : Int) (undone_0 : Int) (a11_1 : Int → Int) (done_1 : Int) (undone_1 : Int) (a11_2 : Int → Int) (done_2 : Int) (undone_2 : Int) (a11_3 : Int → Int) (done_3 : Int) (undone_3 : Int) (nodes_1 : Int) (edges_1 : Int) (nodes_2 : Int) (edges_2 : Int) (nameLength_0 : Int → Int) (nameLength_1 : Int → Int) (nameLength_2 : Int → Int) (size_0 : Int → Int) (size_1 : Int → Int) (size_2 : Int → Int) (size_3 : Int → Int) (groupOf_1 : Int → Int) (groupOf_2 : Int → Int) (groupOf_3 : Int → Int) (k1 : 0 ≤ x1 ∧ x1 ≤ 30) (k7 : 2 ≤ x7 ∧ x7 ≤ 3781) (k8 : 0 ≤ x8 ∧ x8 ≤ 23) (k9 : 1 ≤ x9 ∧ x9 ≤ 24) (k10 : 0 ≤ x10 ∧ x10 ≤ 48) (k42 : 5 ≤ x42 ∧ x42 ≤ 3784) (k43 : 1 ≤ x43 ∧ x43 ≤ 24) (f5 : x43 = x8 + 1) (f6 : x42 = x7 + 3) (f24 : UPN (a11_3) (x9) (x10) (x1) (x7) (x8)) (fe_0_0_1 : nodes_0 = nodes_1) (fe_0_1_1 : edges_0 = edges_1) (fe_0_17_1 : done_0 = done_1) (fe_0_18_1 : undone_0 = undone_1) (fe_0_0_2 : nodes_1 = nodes_2) (fe_0_1_2 : edges_1 = edges_2) (fe_0_17_2 : done_1 = done_2) (fe_0_18_2 : undone_1 = undone_2) (fe_0_17_3 : done_2 = done_3) (fe_0_18_3 : undone_2 = undone_3) (hE_0_4_1 : ∀ j : Int, nameLength_0 j = nameLength_1 j) (hE_0_4_2 : ∀ j : Int, nameLength_1 j = nameLength_2 j) (hE_0_5_1 : ∀ j : Int, size_0 j = size_1 j) (hE_0_5_3 : ∀ j : Int, size_2 j = size_3 j) (hE_0_6_2 : ∀ j : Int, groupOf_1 j = groupOf_2 j) (hE_0_6_3 : ∀ j : Int, groupOf_2 j = groupOf_3 j) (hE_11_999_1 : ∀ j : Int, a11_0 j = a11_1 j) (hE_11_999_2 : ∀ j : Int, a11_1 j = a11_2 j) (hE_11_999_3 : ∀ j : Int, a11_2 j = a11_3 j) (kz_0_0 : 0 ≤ nodes_0 ∧ nodes_0 ≤ 24) (kz_0_1 : 0 ≤ edges_0 ∧ edges_0 ≤ 48) (kz_0_17 : 0 ≤ done_0 ∧ done_0 ≤ 30) (kz_0_18 : 0 ≤ undone_0 ∧ undone_0 ≤ 30) : UPN (a11_0) (x9) (x10) (x1) (x42) (x43) := by
  subst fe_0_0_1
  subst fe_0_1_1
  subst fe_0_17_1
  subst fe_0_18_1
  subst fe_0_0_2
  subst fe_0_1_2
  subst fe_0_17_2
  subst fe_0_18_2
  subst fe_0_17_3
  subst fe_0_18_3
  have e_hE_0_4_1 := funext hE_0_4_1; subst e_hE_0_4_1
  have e_hE_0_4_2 := funext hE_0_4_2; subst e_hE_0_4_2
  have e_hE_0_5_1 := funext hE_0_5_1; subst e_hE_0_5_1
  have e_hE_0_5_3 := funext hE_0_5_3; subst e_hE_0_5_3
  have e_hE_0_6_2 := funext hE_0_6_2; subst e_hE_0_6_2
  have e_hE_0_6_3 := funext hE_0_6_3; subst e_hE_0_6_3
  have e_hE_11_999_1 := funext hE_11_999_1; subst e_hE_11_999_1
  have e_hE_11_999_2 := funext hE_11_999_2; subst e_hE_11_999_2
  have e_hE_11_999_3 := funext hE_11_999_3; subst e_hE_11_999_3
  first
    | exact up1_step ‹UPN _ _ _ _ _ _› rfl rfl (by omega) (by omega)
def o_Gr_unpack_12 : or_T := (32, 44, [(0, (2, 0, 0, [3])), (1, (0, 0, 30, [])), (7, (0, 2, 3781, [])), (8, (0, 0, 23, [])), (9, (0, 1, 24, [])), (10, (0, 0, 48, [])), (11, (2, 0, 0, [61])), (22, (2, 0, 0, [49])), (28, (2, 0, 0, [50])), (36, (2, 0, 0, [51])), (42, (0, 5, 3784, [])), (43, (0, 1, 24, []))], [(6, [43, 8], [1]), (6, [42, 7], [3]), (24, [1, 6], []), (100, [36, 8, 41], []), (100, [28, 8, 35], []), (100, [22, 8, 27], []), (20, [11, 9, 10, 6, 7, 8], [61, 1, 744])], [], [], [(20, [11, 9, 10, 6, 42, 43], [61, 1, 744])], [], [])
theorem oo_Gr_unpack_12 {kA : Nat → ClassId} : or_ok PRD kA GG o_Gr_unpack_12 := by
  refine or_mk fun A ta ws vs hD hth hl => ?_
  intro t0 r0 t1 k1 t7 k7 t8 k8 t9 k9 t10 k10 t11 r11 t22 r22 t28 r28 t36 r36 t42 k42 t43 k43 f5 f6 f11 ta1 w1 le1 s1 ta2 w2 le2 s2 ta3 w3 le3 s3 f24
  replace f5 := shm_4 f5
  replace f6 := shm_853 f6
  replace f11 := shm_5 f11
  have s1 : (∀ b j, w_el ws b j = if b = v_ad (n_v vs 36) ∧ j = (v_iv (n_v vs 8)).toNat then v_iv (n_v vs 41) else w_el w1 b j) ∧ ∀ b k, w_fd ws b k = w_fd w1 b k := s1.2
  have s2 : (∀ b j, w_el w1 b j = if b = v_ad (n_v vs 28) ∧ j = (v_iv (n_v vs 8)).toNat then v_iv (n_v vs 35) else w_el w2 b j) ∧ ∀ b k, w_fd w1 b k = w_fd w2 b k := s2.2
  have s3 : (∀ b j, w_el w2 b j = if b = v_ad (n_v vs 22) ∧ j = (v_iv (n_v vs 8)).toNat then v_iv (n_v vs 27) else w_el w3 b j) ∧ ∀ b k, w_fd w2 b k = w_fd w3 b k := s3.2
  replace f24 := shm_1364 f24
  have q6 : n_v vs 6 = n_v vs 1 := f11.symm
  simp only [q6] at f24
  have cr_0_4 := fdq_4 hD hth r0
  have cr_0_5 := fdq_69 hD hth r0
  have cr_0_6 := fdq_212 hD hth r0
  have cr_11_999 : ta (v_ad (n_v vs 11)) = some 61 := r11
  have fe_0_0_1 : w_fi ws (n_v vs 0) 0 = w_fi w1 (n_v vs 0) 0 := congrArg v_iv (s1.2 _ _)
  have fe_0_1_1 : w_fi ws (n_v vs 0) 1 = w_fi w1 (n_v vs 0) 1 := congrArg v_iv (s1.2 _ _)
  have fe_0_17_1 : w_fi ws (n_v vs 0) 17 = w_fi w1 (n_v vs 0) 17 := congrArg v_iv (s1.2 _ _)
  have fe_0_18_1 : w_fi ws (n_v vs 0) 18 = w_fi w1 (n_v vs 0) 18 := congrArg v_iv (s1.2 _ _)
  have fe_0_0_2 : w_fi w1 (n_v vs 0) 0 = w_fi w2 (n_v vs 0) 0 := congrArg v_iv (s2.2 _ _)
  have fe_0_1_2 : w_fi w1 (n_v vs 0) 1 = w_fi w2 (n_v vs 0) 1 := congrArg v_iv (s2.2 _ _)
  have fe_0_17_2 : w_fi w1 (n_v vs 0) 17 = w_fi w2 (n_v vs 0) 17 := congrArg v_iv (s2.2 _ _)
  have fe_0_18_2 : w_fi w1 (n_v vs 0) 18 = w_fi w2 (n_v vs 0) 18 := congrArg v_iv (s2.2 _ _)
  have fe_0_17_3 : w_fi w2 (n_v vs 0) 17 = w_fi w3 (n_v vs 0) 17 := congrArg v_iv (s3.2 _ _)
  have fe_0_18_3 : w_fi w2 (n_v vs 0) 18 = w_fi w3 (n_v vs 0) 18 := congrArg v_iv (s3.2 _ _)
  have hE_0_4_1 : ∀ j : Int, w_ei ws (w_ar ws (n_v vs 0) 4) j = w_ei w1 (w_ar ws (n_v vs 0) 4) j := el_kp s1.1 r36 cr_0_4 (by decide)
  have hE_0_4_2 : ∀ j : Int, w_ei w1 (w_ar ws (n_v vs 0) 4) j = w_ei w2 (w_ar ws (n_v vs 0) 4) j := el_kp s2.1 r28 cr_0_4 (by decide)
  have hE_0_5_1 : ∀ j : Int, w_ei ws (w_ar ws (n_v vs 0) 5) j = w_ei w1 (w_ar ws (n_v vs 0) 5) j := el_kp s1.1 r36 cr_0_5 (by decide)
  have hE_0_5_3 : ∀ j : Int, w_ei w2 (w_ar ws (n_v vs 0) 5) j = w_ei w3 (w_ar ws (n_v vs 0) 5) j := el_kp s3.1 r22 cr_0_5 (by decide)
  have hE_0_6_2 : ∀ j : Int, w_ei w1 (w_ar ws (n_v vs 0) 6) j = w_ei w2 (w_ar ws (n_v vs 0) 6) j := el_kp s2.1 r28 cr_0_6 (by decide)
  have hE_0_6_3 : ∀ j : Int, w_ei w2 (w_ar ws (n_v vs 0) 6) j = w_ei w3 (w_ar ws (n_v vs 0) 6) j := el_kp s3.1 r22 cr_0_6 (by decide)
  have hE_11_999_1 : ∀ j : Int, w_ei ws (v_ad (n_v vs 11)) j = w_ei w1 (v_ad (n_v vs 11)) j := el_kp s1.1 r36 cr_11_999 (by decide)
  have hE_11_999_2 : ∀ j : Int, w_ei w1 (v_ad (n_v vs 11)) j = w_ei w2 (v_ad (n_v vs 11)) j := el_kp s2.1 r28 cr_11_999 (by decide)
  have hE_11_999_3 : ∀ j : Int, w_ei w2 (v_ad (n_v vs 11)) j = w_ei w3 (v_ad (n_v vs 11)) j := el_kp s3.1 r22 cr_11_999 (by decide)
  have kz_0_0 := fdq_21 hD hth r0
  have kz_0_1 := fdq_30 hD hth r0
  have kz_0_17 := fdq_288 hD hth r0
  have kz_0_18 := fdq_289 hD hth r0
  have nf0 : fc_1 PRD (20, [11, 9, 10, 6, 42, 43], [61, 1, 744]) ws (vs) := by
    refine ⟨nf_in hl rfl, sgq_1364 ?_⟩
    · show UPN (w_ei ws (v_ad (n_v vs 11))) (v_iv (n_v vs 9)) (v_iv (n_v vs 10)) (v_iv (n_v vs 6)) (v_iv (n_v vs 42)) (v_iv (n_v vs 43))
      rw [q6]
      exact vc_Gr_unpack_12_0 (v_iv (n_v vs 1)) (v_iv (n_v vs 6)) (v_iv (n_v vs 7)) (v_iv (n_v vs 8)) (v_iv (n_v vs 9)) (v_iv (n_v vs 10)) (v_iv (n_v vs 42)) (v_iv (n_v vs 43)) (w_fi ws (n_v vs 0) 0) (w_fi ws (n_v vs 0) 1) (w_ei ws (v_ad (n_v vs 11))) (w_fi ws (n_v vs 0) 17) (w_fi ws (n_v vs 0) 18) (w_ei w1 (v_ad (n_v vs 11))) (w_fi w1 (n_v vs 0) 17) (w_fi w1 (n_v vs 0) 18) (w_ei w2 (v_ad (n_v vs 11))) (w_fi w2 (n_v vs 0) 17) (w_fi w2 (n_v vs 0) 18) (w_ei w3 (v_ad (n_v vs 11))) (w_fi w3 (n_v vs 0) 17) (w_fi w3 (n_v vs 0) 18) (w_fi w1 (n_v vs 0) 0) (w_fi w1 (n_v vs 0) 1) (w_fi w2 (n_v vs 0) 0) (w_fi w2 (n_v vs 0) 1) (w_ei ws (w_ar ws (n_v vs 0) 4)) (w_ei w1 (w_ar ws (n_v vs 0) 4)) (w_ei w2 (w_ar ws (n_v vs 0) 4)) (w_ei ws (w_ar ws (n_v vs 0) 5)) (w_ei w1 (w_ar ws (n_v vs 0) 5)) (w_ei w2 (w_ar ws (n_v vs 0) 5)) (w_ei w3 (w_ar ws (n_v vs 0) 5)) (w_ei w1 (w_ar ws (n_v vs 0) 6)) (w_ei w2 (w_ar ws (n_v vs 0) 6)) (w_ei w3 (w_ar ws (n_v vs 0) 6)) k1 k7 k8 k9 k10 k42 k43 f5 f6 f24 fe_0_0_1 fe_0_1_1 fe_0_17_1 fe_0_18_1 fe_0_0_2 fe_0_1_2 fe_0_17_2 fe_0_18_2 fe_0_17_3 fe_0_18_3 hE_0_4_1 hE_0_4_2 hE_0_5_1 hE_0_5_3 hE_0_6_2 hE_0_6_3 hE_11_999_1 hE_11_999_2 hE_11_999_3 kz_0_0 kz_0_1 kz_0_17 kz_0_18
  refine ⟨(fun _ h => (by cases h)), [], trivial, ?_, (fun _ h => (by cases h))⟩
  rw [List.append_nil]
  exact List.forall_mem_cons.mpr ⟨⟨show (20 : Nat) < 100 from by decide, nf0⟩, (fun _ h => (by cases h))⟩
set_option maxHeartbeats 4000000 in
theorem vc_Gr_unpack_13_0 (x1 : Int) (x7 : Int) (x8 : Int) (x10 : Int) (edges_0 : Int) (past_0 : Int → Int) (tail_0 : Int → Int) (head_0 : Int → Int) (nodes_0 : Int) (k1 : 0 ≤ x1 ∧ x1 ≤ 30) (k7 : 74 ≤ x7 ∧ x7 ≤ 3734) (k8 : 0 ≤ x8 ∧ x8 ≤ 48) (k10 : 0 ≤ x10 ∧ x10 ≤ 48) (d0 : x10 + 0 ≤ x8 ∧ x8 ≤ x10 + 4294967296) (g2 : x10 = edges_0) (f3 : UP2 (nodes_0) (edges_0) (past_0) (tail_0) (head_0) (x1) (x7) (x8)) (kz_0_0 : 0 ≤ nodes_0 ∧ nodes_0 ≤ 24) (kz_0_1 : 0 ≤ edges_0 ∧ edges_0 ≤ 48) : GKE (nodes_0) (edges_0) (tail_0) (head_0) := by
  first
    | exact gke_up ‹UP2 _ _ _ _ _ _ _ _› (by omega)
def o_Gr_unpack_13 : or_T := (241, 11, [(0, (2, 0, 0, [3])), (1, (0, 0, 30, [])), (7, (0, 74, 3734, [])), (8, (0, 0, 48, [])), (10, (0, 0, 48, []))], [(9, [10, 5], [1]), (20, [5, 6, 7, 8], [60, 2, 3, 743, 0, 1, 16, 7, 8]), (24, [0, 5], []), (24, [1, 6], [])], [], [], [(20, [5], [60, 2, 2, 596, 0, 1, 7, 8])], [], [(8, 10, 0, 4294967296)])
theorem oo_Gr_unpack_13 {kA : Nat → ClassId} : or_ok PRD kA GG o_Gr_unpack_13 := by
  refine or_mk fun A ta ws vs hD hth hl => ?_
  intro t0 r0 t1 k1 t7 k7 t8 k8 t10 k10 d0 f2 f3 f6 f7
  replace f2 := shm_215 f2
  replace f3 := shm_1366 f3
  replace f6 := shm_5 f6
  replace f7 := shm_5 f7
  have q5 : n_v vs 5 = n_v vs 0 := f6.symm
  have q6 : n_v vs 6 = n_v vs 1 := f7.symm
  simp only [q5, q6] at f2 f3
  have g2 : v_iv (n_v vs 10) = w_fi ws (n_v vs 0) 1 := congrArg v_iv f2
  have kz_0_0 := fdq_21 hD hth r0
  have kz_0_1 := fdq_30 hD hth r0
  have nf0 : fc_1 PRD (20, [5], [60, 2, 2, 596, 0, 1, 7, 8]) ws (vs) := by
    refine ⟨nf_in hl rfl, sgq_386 ?_⟩
    · show GKE (w_fi ws (n_v vs 5) 0) (w_fi ws (n_v vs 5) 1) (w_ei ws (w_ar ws (n_v vs 5) 7)) (w_ei ws (w_ar ws (n_v vs 5) 8))
      rw [q5]
      exact vc_Gr_unpack_13_0 (v_iv (n_v vs 1)) (v_iv (n_v vs 7)) (v_iv (n_v vs 8)) (v_iv (n_v vs 10)) (w_fi ws (n_v vs 0) 1) (w_ei ws (w_ar ws (n_v vs 0) 16)) (w_ei ws (w_ar ws (n_v vs 0) 7)) (w_ei ws (w_ar ws (n_v vs 0) 8)) (w_fi ws (n_v vs 0) 0) k1 k7 k8 k10 d0 g2 f3 kz_0_0 kz_0_1
  refine ⟨(fun _ h => (by cases h)), [], trivial, ?_, (fun _ h => (by cases h))⟩
  rw [List.append_nil]
  exact List.forall_mem_cons.mpr ⟨⟨show (20 : Nat) < 100 from by decide, nf0⟩, (fun _ h => (by cases h))⟩
set_option maxHeartbeats 4000000 in
theorem vc_Gr_unpack_14_0 (x3 : Int) (x4 : Int) (past_0 : Int → Int) (done_0 : Int) (undone_0 : Int) (k3 : 0 ≤ x3 ∧ x3 ≤ 30) (k4 : 0 ≤ x4 ∧ x4 ≤ 30) (f2 : PDN (past_0) (x3) (x4)) (f3 : (done_0 = x3) ∧ (undone_0 = x4)) (kz_0_17 : 0 ≤ done_0 ∧ done_0 ≤ 30) (kz_0_18 : 0 ≤ undone_0 ∧ undone_0 ≤ 30) : PDQ (done_0) (undone_0) (past_0) := by
  first
    | exact pdn_same ‹PDN _ _ _› (by omega) (by omega)
set_option maxHeartbeats 4000000 in
theorem vc_Gr_unpack_14_1 (edges_0 : Int) (tail_0 : Int → Int) (head_0 : Int → Int) (nodes_0 : Int) (f7 : GKE (nodes_0) (edges_0) (tail_0) (head_0)) (kz_0_0 : 0 ≤ nodes_0 ∧ nodes_0 ≤ 24) (kz_0_1 : 0 ≤ edges_0 ∧ edges_0 ≤ 48) : GKE (nodes_0) (edges_0) (tail_0) (head_0) := by
  first
    | assumption
set_option maxHeartbeats 4000000 in
theorem vc_Gr_unpack_14_2 (edges_0 : Int) (near_0 : Int → Int) (tail_0 : Int → Int) (head_0 : Int → Int) (nodes_0 : Int) (f6 : GNB (nodes_0) (edges_0) (near_0) (tail_0) (head_0)) (kz_0_0 : 0 ≤ nodes_0 ∧ nodes_0 ≤ 24) (kz_0_1 : 0 ≤ edges_0 ∧ edges_0 ≤ 48) : GNB (nodes_0) (edges_0) (near_0) (tail_0) (head_0) := by
  first
    | assumption
  
set_option maxHeartbeats 4000000 in
theorem vc_Gr_unpack_14_3 (x1 : Int) (x3 : Int) (x4 : Int) (x6 : Int) (x10 : Int) (done_0 : Int) (undone_0 : Int) (k3 : 0 ≤ x3 ∧ x3 ≤ 30) (k4 : 0 ≤ x4 ∧ x4 ≤ 30) (f3 : (done_0 = x3) ∧ (undone_0 = x4)) (kz_0_17 : 0 ≤ done_0 ∧ done_0 ≤ 30) (kz_0_18 : 0 ≤ undone_0 ∧ undone_0 ≤ 30) : (done_0 = x3) ∧ (undone_0 = x4) := by
  first
    | omega
def o_Gr_unpack_14 : or_T := (244, 11, [(0, (2, 0, 0, [3])), (3, (0, 0, 30, [])), (4, (0, 0, 30, []))], [(9, [9, 5], [16]), (20, [9, 3, 4], [61, 1, 740]), (20, [5, 3, 4], [50, 2, 0, 17, 18, 2, 7, 1, 3, 2, 0, 17, 1, 1, 1, 3, 2, 0, 18, 1, 2]), (24, [0, 5], []), (20, [5], [60, 2, 3, 670, 0, 1, 14, 7, 8]), (20, [5], [60, 2, 2, 596, 0, 1, 7, 8])], [], [], [(20, [0], [60, 2, 1, 739, 17, 18, 16]), (20, [0], [60, 2, 2, 596, 0, 1, 7, 8]), (20, [0], [60, 2, 3, 670, 0, 1, 14, 7, 8]), (20, [0, 3, 4], [50, 2, 0, 17, 18, 2, 7, 1, 3, 2, 0, 17, 1, 1, 1, 3, 2, 0, 18, 1, 2])], [], [])
theorem oo_Gr_unpack_14 {kA : Nat → ClassId} : or_ok PRD kA GG o_Gr_unpack_14 := by
  refine or_mk fun A ta ws vs hD hth hl => ?_
  intro t0 r0 t3 k3 t4 k4 f1 f2 f3 f4 f6 f7
  replace f1 := shm_176 f1
  replace f2 := shm_1365 f2
  replace f3 := shm_1362 f3
  replace f4 := shm_5 f4
  replace f6 := shm_825 f6
  replace f7 := shm_386 f7
  have q5 : n_v vs 5 = n_v vs 0 := f4.symm
  simp only [q5] at f1 f3 f6 f7
  have ad_9 : v_ad (n_v vs 9) = w_ar ws (n_v vs 0) 16 := congrArg v_ad f1
  simp only [ad_9] at f2
  have kz_0_0 := fdq_21 hD hth r0
  have kz_0_1 := fdq_30 hD hth r0
  have kz_0_17 := fdq_288 hD hth r0
  have kz_0_18 := fdq_289 hD hth r0
  have nf0 : fc_1 PRD (20, [0], [60, 2, 1, 739, 17, 18, 16]) ws (vs) := ⟨nf_in hl rfl, sgq_1361 (vc_Gr_unpack_14_0 (v_iv (n_v vs 3)) (v_iv (n_v vs 4)) (w_ei ws (w_ar ws (n_v vs 0) 16)) (w_fi ws (n_v vs 0) 17) (w_fi ws (n_v vs 0) 18) k3 k4 f2 f3 kz_0_17 kz_0_18)⟩
  have nf1 : fc_1 PRD (20, [0], [60, 2, 2, 596, 0, 1, 7, 8]) ws (vs) := ⟨nf_in hl rfl, sgq_386 (vc_Gr_unpack_14_1 (w_fi ws (n_v vs 0) 1) (w_ei ws (w_ar ws (n_v vs 0) 7)) (w_ei ws (w_ar ws (n_v vs 0) 8)) (w_fi ws (n_v vs 0) 0) f7 kz_0_0 kz_0_1)⟩
  have nf2 : fc_1 PRD (20, [0], [60, 2, 3, 670, 0, 1, 14, 7, 8]) ws (vs) := ⟨nf_in hl rfl, sgq_825 (vc_Gr_unpack_14_2 (w_fi ws (n_v vs 0) 1) (w_ei ws (w_ar ws (n_v vs 0) 14)) (w_ei ws (w_ar ws (n_v vs 0) 7)) (w_ei ws (w_ar ws (n_v vs 0) 8)) (w_fi ws (n_v vs 0) 0) f6 kz_0_0 kz_0_1)⟩
  have nf3 : fc_1 PRD (20, [0, 3, 4], [50, 2, 0, 17, 18, 2, 7, 1, 3, 2, 0, 17, 1, 1, 1, 3, 2, 0, 18, 1, 2]) ws (vs) := ⟨nf_in hl rfl, sgq_1362 (vc_Gr_unpack_14_3 (v_iv (n_v vs 1)) (v_iv (n_v vs 3)) (v_iv (n_v vs 4)) (v_iv (n_v vs 6)) (v_iv (n_v vs 10)) (w_fi ws (n_v vs 0) 17) (w_fi ws (n_v vs 0) 18) k3 k4 f3 kz_0_17 kz_0_18)⟩
  refine ⟨(fun _ h => (by cases h)), [], trivial, ?_, (fun _ h => (by cases h))⟩
  rw [List.append_nil]
  exact List.forall_mem_cons.mpr ⟨⟨show (20 : Nat) < 100 from by decide, nf0⟩, List.forall_mem_cons.mpr ⟨⟨show (20 : Nat) < 100 from by decide, nf1⟩, List.forall_mem_cons.mpr ⟨⟨show (20 : Nat) < 100 from by decide, nf2⟩, List.forall_mem_cons.mpr ⟨⟨show (20 : Nat) < 100 from by decide, nf3⟩, (fun _ h => (by cases h))⟩⟩⟩⟩
set_option maxHeartbeats 4000000 in
theorem vc_Gr_unpack_15_r0 (x1 : Int) (x6 : Int) (x7 : Int) (x8 : Int) (x10 : Int) (x12 : Int) (x13 : Int) (x14 : Int) (x15 : Int) (past_0 : Int → Int) (edges_0 : Int) (tail_0 : Int → Int) (head_0 : Int → Int) (nodes_0 : Int) (k1 : 0 ≤ x1 ∧ x1 ≤ 30) (k7 : 74 ≤ x7 ∧ x7 ≤ 3734) (k8 : 0 ≤ x8 ∧ x8 ≤ 47) (k10 : 1 ≤ x10 ∧ x10 ≤ 48) (k12 : 74 ≤ x12 ∧ x12 ≤ 3781) (k13 : (-2147483648) ≤ x13 ∧ x13 ≤ 2147483647) (k14 : 255 ≤ x14 ∧ x14 ≤ 255) (k15 : 0 ≤ x15 ∧ x15 ≤ 255) (d3 : x10 + (-4294967296) ≤ x8 ∧ x8 ≤ x10 + (-1)) (f0 : bvp (x15) = bvp (x13) &&& bvp (x14)) (h1 : x13 = past_0 (x12)) (f2 : x12 = x7 + x8) (g6 : x10 = edges_0) (f7 : UP2 (nodes_0) (edges_0) (past_0) (tail_0) (head_0) (x1) (x7) (x8)) (kz_0_0 : 0 ≤ nodes_0 ∧ nodes_0 ≤ 24) (kz_0_1 : 0 ≤ edges_0 ∧ edges_0 ≤ 48) : 0 ≤ x15 ∧ x15 ≤ 23 := by
  first
    | (have v := up2_edge (p := x12) (x := x13) ‹UP2 _ _ _ _ _ _ _ _› (by omega) (by omega) (by assumption); unfold PEW at v; have e := and255p (a := x15) (x := x13) (q := x14) (by assumption) (by omega) (by omega) (by omega) (by omega) (by omega); omega)
    | (have v := up2_edge (p := x17) (x := x18) ‹UP2 _ _ _ _ _ _ _ _› (by omega) (by omega) (by assumption); unfold PEW at v; have e := and255p (a := x22) (x := x20) (q := x21) (by assumption) (by omega) (by omega) (by omega) (by omega) (by omega); omega)
    | (have v := up2_edge (p := x24) (x := x25) ‹UP2 _ _ _ _ _ _ _ _› (by omega) (by omega) (by assumption); unfold PEW at v; have e := and255p (a := x29) (x := x27) (q := x28) (by assumption) (by omega) (by omega) (by omega) (by omega) (by omega); omega)
    | (have v := up2_edge (p := x31) (x := x32) ‹UP2 _ _ _ _ _ _ _ _› (by omega) (by omega) (by assumption); unfold PEW at v; omega)
def o_Gr_unpack_15 : or_T := (174, 16, [(0, (2, 0, 0, [3])), (1, (0, 0, 30, [])), (3, (0, 0, 30, [])), (4, (0, 0, 30, [])), (5, (2, 0, 0, [3])), (6, (0, 0, 30, [])), (7, (0, 74, 3734, [])), (8, (0, 0, 47, [])), (9, (2, 0, 0, [61])), (10, (0, 1, 48, [])), (11, (2, 0, 0, [52])), (12, (0, 74, 3781, [])), (13, (0, -2147483648, 2147483647, [])), (14, (0, 255, 255, [])), (15, (0, 0, 255, []))], [(16, [15, 13, 14], [0]), (10, [13, 9, 12], []), (1, [12, 7, 8], []), (9, [9, 5], [16]), (9, [11, 5], [7]), (7, [8, 10], [2]), (9, [10, 5], [1]), (20, [5, 6, 7, 8], [60, 2, 3, 743, 0, 1, 16, 7, 8]), (20, [9, 3, 4], [61, 1, 740]), (20, [5, 3, 4], [50, 2, 0, 17, 18, 2, 7, 1, 3, 2, 0, 17, 1, 1, 1, 3, 2, 0, 18, 1, 2]), (24, [0, 5], []), (24, [1, 6], [])], [(15, (0, 0, 23, []))], [], [], [], [(12, 8, 74, 3734), (12, 10, -4294967296, 3733), (12, 7, 0, 47), (8, 10, -4294967296, -1), (1, 6, -4294967296, 0), (6, 1, -4294967296, 0)])
theorem oo_Gr_unpack_15 {kA : Nat → ClassId} : or_ok PRD kA GG o_Gr_unpack_15 := by
  refine or_mk fun A ta ws vs hD hth hl => ?_
  intro t0 r0 t1 k1 t3 k3 t4 k4 t5 r5 t6 k6 t7 k7 t8 k8 t9 r9 t10 k10 t11 r11 t12 k12 t13 k13 t14 k14 t15 k15 d0 d1 d2 d3 d4 d5 f0 f1 f2 f3 f4 f5 f6 f7 f8 f9 f10 f11
  replace f1 := shm_107 f1
  replace f3 := shm_176 f3
  replace f6 := shm_215 f6
  replace f7 := shm_1366 f7
  replace f10 := shm_5 f10
  replace f11 := shm_5 f11
  have q5 : n_v vs 5 = n_v vs 0 := f10.symm
  have q6 : n_v vs 6 = n_v vs 1 := f11.symm
  simp only [q5, q6] at f3 f6 f7
  have ad_9 : v_ad (n_v vs 9) = w_ar ws (n_v vs 0) 16 := congrArg v_ad f3
  simp only [ad_9] at f1
  have h1 : v_iv (n_v vs 13) = w_ei ws (w_ar ws (n_v vs 0) 16) (v_iv (n_v vs 12)) := f1
  have g6 : v_iv (n_v vs 10) = w_fi ws (n_v vs 0) 1 := congrArg v_iv f6
  have kz_0_0 := fdq_21 hD hth r0
  have kz_0_1 := fdq_30 hD hth r0
  have hrf0 : 0 ≤ v_iv (n_v vs 15) ∧ v_iv (n_v vs 15) ≤ 23 := vc_Gr_unpack_15_r0 (v_iv (n_v vs 1)) (v_iv (n_v vs 6)) (v_iv (n_v vs 7)) (v_iv (n_v vs 8)) (v_iv (n_v vs 10)) (v_iv (n_v vs 12)) (v_iv (n_v vs 13)) (v_iv (n_v vs 14)) (v_iv (n_v vs 15)) (w_ei ws (w_ar ws (n_v vs 0) 16)) (w_fi ws (n_v vs 0) 1) (w_ei ws (w_ar ws (n_v vs 0) 7)) (w_ei ws (w_ar ws (n_v vs 0) 8)) (w_fi ws (n_v vs 0) 0) k1 k7 k8 k10 k12 k13 k14 k15 d3 (shm_11 f0) h1 (shm_12 f2) g6 f7 kz_0_0 kz_0_1
  have rf15 : tv_ok ta (0, 0, 23, []) (n_v vs 15) := tv_in t15 (by first | omega | grind) (by first | omega | grind)
  refine ⟨List.forall_mem_cons.mpr ⟨rf15, (fun _ h => (by cases h))⟩, [], trivial, ?_, (fun _ h => (by cases h))⟩
  rw [List.append_nil]
  exact (fun _ h => (by cases h))
set_option maxHeartbeats 4000000 in
theorem vc_Gr_unpack_16_r0 (x1 : Int) (x6 : Int) (x7 : Int) (x8 : Int) (x10 : Int) (x12 : Int) (x13 : Int) (x14 : Int) (x15 : Int) (x17 : Int) (x18 : Int) (x20 : Int) (x21 : Int) (x22 : Int) (edges_0 : Int) (past_0 : Int → Int) (done_0 : Int) (undone_0 : Int) (past_1 : Int → Int) (tail_1 : Int → Int) (head_1 : Int → Int) (nodes_1 : Int) (edges_1 : Int) (done_1 : Int) (undone_1 : Int) (nodes_0 : Int) (head_0 : Int → Int) (k1 : 0 ≤ x1 ∧ x1 ≤ 30) (k7 : 74 ≤ x7 ∧ x7 ≤ 3734) (k8 : 0 ≤ x8 ∧ x8 ≤ 47) (k10 : 1 ≤ x10 ∧ x10 ≤ 48) (k17 : 74 ≤ x17 ∧ x17 ≤ 3781) (k18 : (-2147483648) ≤ x18 ∧ x18 ≤ 2147483647) (k20 : (-2147483648) ≤ x20 ∧ x20 ≤ 2147483647) (k21 : 255 ≤ x21 ∧ x21 ≤ 255) (k22 : 0 ≤ x22 ∧ x22 ≤ 255) (d6 : x10 + (-4294967296) ≤ x8 ∧ x8 ≤ x10 + (-1)) (g1 : x10 = edges_0) (f2 : bvp (x22) = bvp (x20) &&& bvp (x21)) (f3 : x20 = x18 / 256) (h4 : x18 = past_0 (x17)) (f5 : x17 = x7 + x8) (f17 : UP2 (nodes_1) (edges_1) (past_1) (tail_1) (head_1) (x1) (x7) (x8)) (fe_0_0_1 : nodes_0 = nodes_1) (fe_0_1_1 : edges_0 = edges_1) (fe_0_17_1 : done_0 = done_1) (fe_0_18_1 : undone_0 = undone_1) (hE_0_8_1 : ∀ j : Int, head_0 j = head_1 j) (hE_0_16_1 : ∀ j : Int, past_0 j = past_1 j) (kz_0_0 : 0 ≤ nodes_0 ∧ nodes_0 ≤ 24) (kz_0_1 : 0 ≤ edges_0 ∧ edges_0 ≤ 48) (kz_0_17 : 0 ≤ done_0 ∧ done_0 ≤ 30) (kz_0_18 : 0 ≤ undone_0 ∧ undone_0 ≤ 30) : 0 ≤ x22 ∧ x22 ≤ 23 := by
  subst fe_0_0_1
  subst fe_0_1_1
  subst fe_0_17_1
  subst fe_0_18_1
  have e_hE_0_8_1 := funext hE_0_8_1; subst e_hE_0_8_1
  have e_hE_0_16_1 := funext hE_0_16_1; subst e_hE_0_16_1
  first
    | (have v := up2_edge (p := x12) (x := x13) ‹UP2 _ _ _ _ _ _ _ _› (by omega) (by omega) (by assumption); unfold PEW at v; have e := and255p (a := x15) (x := x13) (q := x14) (by assumption) (by omega) (by omega) (by omega) (by omega) (by omega); omega)
    | (have v := up2_edge (p := x17) (x := x18) ‹UP2 _ _ _ _ _ _ _ _› (by omega) (by omega) (by assumption); unfold PEW at v; have e := and255p (a := x22) (x := x20) (q := x21) (by assumption) (by omega) (by omega) (by omega) (by omega) (by omega); omega)
    | (have v := up2_edge (p := x24) (x := x25) ‹UP2 _ _ _ _ _ _ _ _› (by omega) (by omega) (by assumption); unfold PEW at v; have e := and255p (a := x29) (x := x27) (q := x28) (by assumption) (by omega) (by omega) (by omega) (by omega) (by omega); omega)
    | (have v := up2_edge (p := x31) (x := x32) ‹UP2 _ _ _ _ _ _ _ _› (by omega) (by omega) (by assumption); unfold PEW at v; omega)
def o_Gr_unpack_16 : or_T := (195, 23, [(0, (2, 0, 0, [3])), (1, (0, 0, 30, [])), (3, (0, 0, 30, [])), (4, (0, 0, 30, [])), (5, (2, 0, 0, [3])), (6, (0, 0, 30, [])), (7, (0, 74, 3734, [])), (8, (0, 0, 47, [])), (9, (2, 0, 0, [61])), (10, (0, 1, 48, [])), (11, (2, 0, 0, [52])), (12, (0, 74, 3781, [])), (13, (0, -2147483648, 2147483647, [])), (14, (0, 255, 255, [])), (15, (0, 0, 23, [])), (16, (2, 0, 0, [53])), (17, (0, 74, 3781, [])), (18, (0, -2147483648, 2147483647, [])), (20, (0, -2147483648, 2147483647, [])), (21, (0, 255, 255, [])), (22, (0, 0, 255, []))], [(9, [11, 5], [7]), (9, [10, 5], [1]), (16, [22, 20, 21], [0]), (11, [20, 18], [256]), (10, [18, 9, 17], []), (1, [17, 7, 8], []), (9, [9, 5], [16]), (9, [16, 5], [8]), (20, [9, 3, 4], [61, 1, 740]), (20, [5, 3, 4], [50, 2, 0, 17, 18, 2, 7, 1, 3, 2, 0, 17, 1, 1, 1, 3, 2, 0, 18, 1, 2]), (24, [0, 5], []), (24, [1, 6], []), (100, [11, 8, 15], []), (16, [15, 13, 14], [0]), (10, [13, 9, 12], []), (1, [12, 7, 8], []), (7, [8, 10], [2]), (20, [5, 6, 7, 8], [60, 2, 3, 743, 0, 1, 16, 7, 8]), (20, [9, 3, 4], [61, 1, 740]), (20, [5, 3, 4], [50, 2, 0, 17, 18, 2, 7, 1, 3, 2, 0, 17, 1, 1, 1, 3, 2, 0, 18, 1, 2])], [(22, (0, 0, 23, []))], [], [], [], [(17, 8, 74, 3734), (17, 10, -4294967296, 3733), (17, 7, 0, 47), (12, 8, 74, 3734), (12, 10, -4294967296, 3733), (12, 7, 0, 47), (8, 10, -4294967296, -1), (1, 6, -4294967296, 0), (6, 1, -4294967296, 0)])
theorem oo_Gr_unpack_16 {kA : Nat → ClassId} : or_ok PRD kA GG o_Gr_unpack_16 := by
  refine or_mk fun A ta ws vs hD hth hl => ?_
  intro t0 r0 t1 k1 t3 k3 t4 k4 t5 r5 t6 k6 t7 k7 t8 k8 t9 r9 t10 k10 t11 r11 t12 k12 t13 k13 t14 k14 t15 k15 t16 r16 t17 k17 t18 k18 t20 k20 t21 k21 t22 k22 d0 d1 d2 d3 d4 d5 d6 d7 d8 f0 f1 f2 f3 f4 f5 f6 f7 f8 f9 f10 f11 ta1 w1 le1 s1 f13 f14 f15 f16 f17 f18 f19
  replace f1 := shm_215 f1
  replace f4 := shm_107 f4
  replace f6 := shm_176 f6
  replace f10 := shm_5 f10
  replace f11 := shm_5 f11
  have s1 : (∀ b j, w_el ws b j = if b = v_ad (n_v vs 11) ∧ j = (v_iv (n_v vs 8)).toNat then v_iv (n_v vs 15) else w_el w1 b j) ∧ ∀ b k, w_fd ws b k = w_fd w1 b k := s1.2
  replace f17 := shm_1366 f17
  have q5 : n_v vs 5 = n_v vs 0 := f10.symm
  have q6 : n_v vs 6 = n_v vs 1 := f11.symm
  simp only [q5, q6] at f1 f6 f17
  have ar_0_7_1 : w_ar w1 (n_v vs 0) 7 = w_ar ws (n_v vs 0) 7 := congrArg v_ad (s1.2 _ _).symm
  have ar_0_8_1 : w_ar w1 (n_v vs 0) 8 = w_ar ws (n_v vs 0) 8 := congrArg v_ad (s1.2 _ _).symm
  have cr_0_8 := fdq_47 hD hth r0
  have ar_0_16_1 : w_ar w1 (n_v vs 0) 16 = w_ar ws (n_v vs 0) 16 := congrArg v_ad (s1.2 _ _).symm
  have ad_9 : v_ad (n_v vs 9) = w_ar ws (n_v vs 0) 16 := congrArg v_ad f6
  have cr_0_16 : ta (w_ar ws (n_v vs 0) 16) = some 61 := by rw [← ad_9]; exact r9
  have g1 : v_iv (n_v vs 10) = w_fi ws (n_v vs 0) 1 := congrArg v_iv f1
  simp only [ad_9] at f4
  have h4 : v_iv (n_v vs 18) = w_ei ws (w_ar ws (n_v vs 0) 16) (v_iv (n_v vs 17)) := f4
  simp only [ar_0_7_1, ar_0_8_1, ar_0_16_1, ad_9] at f17
  have fe_0_0_1 : w_fi ws (n_v vs 0) 0 = w_fi w1 (n_v vs 0) 0 := congrArg v_iv (s1.2 _ _)
  have fe_0_1_1 : w_fi ws (n_v vs 0) 1 = w_fi w1 (n_v vs 0) 1 := congrArg v_iv (s1.2 _ _)
  have fe_0_17_1 : w_fi ws (n_v vs 0) 17 = w_fi w1 (n_v vs 0) 17 := congrArg v_iv (s1.2 _ _)
  have fe_0_18_1 : w_fi ws (n_v vs 0) 18 = w_fi w1 (n_v vs 0) 18 := congrArg v_iv (s1.2 _ _)
  have hE_0_8_1 : ∀ j : Int, w_ei ws (w_ar ws (n_v vs 0) 8) j = w_ei w1 (w_ar ws (n_v vs 0) 8) j := el_kp s1.1 r11 cr_0_8 (by decide)
  have hE_0_16_1 : ∀ j : Int, w_ei ws (w_ar ws (n_v vs 0) 16) j = w_ei w1 (w_ar ws (n_v vs 0) 16) j := el_kp s1.1 r11 cr_0_16 (by decide)
  have kz_0_0 := fdq_21 hD hth r0
  have kz_0_1 := fdq_30 hD hth r0
  have kz_0_17 := fdq_288 hD hth r0
  have kz_0_18 := fdq_289 hD hth r0
  have hrf0 : 0 ≤ v_iv (n_v vs 22) ∧ v_iv (n_v vs 22) ≤ 23 := vc_Gr_unpack_16_r0 (v_iv (n_v vs 1)) (v_iv (n_v vs 6)) (v_iv (n_v vs 7)) (v_iv (n_v vs 8)) (v_iv (n_v vs 10)) (v_iv (n_v vs 12)) (v_iv (n_v vs 13)) (v_iv (n_v vs 14)) (v_iv (n_v vs 15)) (v_iv (n_v vs 17)) (v_iv (n_v vs 18)) (v_iv (n_v vs 20)) (v_iv (n_v vs 21)) (v_iv (n_v vs 22)) (w_fi ws (n_v vs 0) 1) (w_ei ws (w_ar ws (n_v vs 0) 16)) (w_fi ws (n_v vs 0) 17) (w_fi ws (n_v vs 0) 18) (w_ei w1 (w_ar ws (n_v vs 0) 16)) (w_ei w1 (w_ar ws (n_v vs 0) 7)) (w_ei w1 (w_ar ws (n_v vs 0) 8)) (w_fi w1 (n_v vs 0) 0) (w_fi w1 (n_v vs 0) 1) (w_fi w1 (n_v vs 0) 17) (w_fi w1 (n_v vs 0) 18) (w_fi ws (n_v vs 0) 0) (w_ei ws (w_ar ws (n_v vs 0) 8)) k1 k7 k8 k10 k17 k18 k20 k21 k22 d6 g1 (shm_11 f2) (shm_442 f3) h4 (shm_12 f5) f17 fe_0_0_1 fe_0_1_1 fe_0_17_1 fe_0_18_1 hE_0_8_1 hE_0_16_1 kz_0_0 kz_0_1 kz_0_17 kz_0_18
  have rf22 : tv_ok ta (0, 0, 23, []) (n_v vs 22) := tv_in t22 (by first | omega | grind) (by first | omega | grind)
  refine ⟨List.forall_mem_cons.mpr ⟨rf22, (fun _ h => (by cases h))⟩, [], trivial, ?_, (fun _ h => (by cases h))⟩
  rw [List.append_nil]
  exact (fun _ h => (by cases h))
set_option maxHeartbeats 4000000 in
theorem vc_Gr_unpack_17_r0 (x1 : Int) (x6 : Int) (x7 : Int) (x8 : Int) (x10 : Int) (x12 : Int) (x13 : Int) (x14 : Int) (x15 : Int) (x17 : Int) (x18 : Int) (x20 : Int) (x21 : Int) (x22 : Int) (x24 : Int) (x25 : Int) (x27 : Int) (x28 : Int) (x29 : Int) (edges_0 : Int) (past_0 : Int → Int) (done_0 : Int) (undone_0 : Int) (past_1 : Int → Int) (done_1 : Int) (undone_1 : Int) (past_2 : Int → Int) (tail_2 : Int → Int) (head_2 : Int → Int) (nodes_2 : Int) (edges_2 : Int) (done_2 : Int) (undone_2 : Int) (nodes_0 : Int) (nodes_1 : Int) (edges_1 : Int) (tail_0 : Int → Int) (tail_1 : Int → Int) (head_1 : Int → Int) (k1 : 0 ≤ x1 ∧ x1 ≤ 30) (k7 : 74 ≤ x7 ∧ x7 ≤ 3734) (k8 : 0 ≤ x8 ∧ x8 ≤ 47) (k10 : 1 ≤ x10 ∧ x10 ≤ 48) (k24 : 74 ≤ x24 ∧ x24 ≤ 3781) (k25 : (-2147483648) ≤ x25 ∧ x25 ≤ 2147483647) (k27 : (-2147483648) ≤ x27 ∧ x27 ≤ 2147483647) (k28 : 255 ≤ x28 ∧ x28 ≤ 255) (k29 : 0 ≤ x29 ∧ x29 ≤ 255) (d9 : x10 + (-4294967296) ≤ x8 ∧ x8 ≤ x10 + (-1)) (g2 : x10 = edges_0) (f3 : bvp (x29) = bvp (x27) &&& bvp (x28)) (f4 : x27 = x25 / 65536) (h5 : x25 = past_0 (x24)) (f6 : x24 = x7 + x8) (f24 : UP2 (nodes_2) (edges_2) (past_2) (tail_2) (head_2) (x1) (x7) (x8)) (fe_0_0_1 : nodes_0 = nodes_1) (fe_0_1_1 : edges_0 = edges_1) (fe_0_17_1 : done_0 = done_1) (fe_0_18_1 : undone_0 = undone_1) (fe_0_0_2 : nodes_1 = nodes_2) (fe_0_1_2 : edges_1 = edges_2) (fe_0_17_2 : done_1 = done_2) (fe_0_18_2 : undone_1 = undone_2) (hE_0_7_1 : ∀ j : Int, tail_0 j = tail_1 j) (hE_0_8_2 : ∀ j : Int, head_1 j = head_2 j) (hE_0_16_1 : ∀ j : Int, past_0 j = past_1 j) (hE_0_16_2 : ∀ j : Int, past_1 j = past_2 j) (kz_0_0 : 0 ≤ nodes_0 ∧ nodes_0 ≤ 24) (kz_0_1 : 0 ≤ edges_0 ∧ edges_0 ≤ 48) (kz_0_17 : 0 ≤ done_0 ∧ done_0 ≤ 30) (kz_0_18 : 0 ≤ undone_0 ∧ undone_0 ≤ 30) : 0 ≤ x29 ∧ x29 ≤ 9 := by
  subst fe_0_0_1
  subst fe_0_1_1
  subst fe_0_17_1
  subst fe_0_18_1
  subst fe_0_0_2
  subst fe_0_1_2
  subst fe_0_17_2
  subst fe_0_18_2
  have e_hE_0_7_1 := funext hE_0_7_1; subst e_hE_0_7_1
  have e_hE_0_8_2 := funext hE_0_8_2; subst e_hE_0_8_2
  have e_hE_0_16_1 := funext hE_0_16_1; subst e_hE_0_16_1
  have e_hE_0_16_2 := funext hE_0_16_2; subst e_hE_0_16_2
  first
    | (have v := up2_edge (p := x12) (x := x13) ‹UP2 _ _ _ _ _ _ _ _› (by omega) (by omega) (by assumption); unfold PEW at v; have e := and255p (a := x15) (x := x13) (q := x14) (by assumption) (by omega) (by omega) (by omega) (by omega) (by omega); omega)
    | (have v := up2_edge (p := x17) (x := x18) ‹UP2 _ _ _ _ _ _ _ _› (by omega) (by omega) (by assumption); unfold PEW at v; have e := and255p (a := x22) (x := x20) (q := x21) (by assumption) (by omega) (by omega) (by omega) (by omega) (by omega); omega)
    | (have v := up2_edge (p := x24) (x := x25) ‹UP2 _ _ _ _ _ _ _ _› (by omega) (by omega) (by assumption); unfold PEW at v; have e := and255p (a := x29) (x := x27) (q := x28) (by assumption) (by omega) (by omega) (by omega) (by omega) (by omega); omega)
    | (have v := up2_edge (p := x31) (x := x32) ‹UP2 _ _ _ _ _ _ _ _› (by omega) (by omega) (by assumption); unfold PEW at v; omega)
def o_Gr_unpack_17 : or_T := (216, 30, [(0, (2, 0, 0, [3])), (1, (0, 0, 30, [])), (3, (0, 0, 30, [])), (4, (0, 0, 30, [])), (5, (2, 0, 0, [3])), (6, (0, 0, 30, [])), (7, (0, 74, 3734, [])), (8, (0, 0, 47, [])), (9, (2, 0, 0, [61])), (10, (0, 1, 48, [])), (11, (2, 0, 0, [52])), (12, (0, 74, 3781, [])), (13, (0, -2147483648, 2147483647, [])), (14, (0, 255, 255, [])), (15, (0, 0, 23, [])), (16, (2, 0, 0, [53])), (17, (0, 74, 3781, [])), (18, (0, -2147483648, 2147483647, [])), (20, (0, -2147483648, 2147483647, [])), (21, (0, 255, 255, [])), (22, (0, 0, 23, [])), (24, (0, 74, 3781, [])), (25, (0, -2147483648, 2147483647, [])), (27, (0, -2147483648, 2147483647, [])), (28, (0, 255, 255, [])), (29, (0, 0, 255, []))], [(9, [16, 5], [8]), (9, [11, 5], [7]), (9, [10, 5], [1]), (16, [29, 27, 28], [0]), (11, [27, 25], [65536]), (10, [25, 9, 24], []), (1, [24, 7, 8], []), (9, [9, 5], [16]), (20, [9, 3, 4], [61, 1, 740]), (20, [5, 3, 4], [50, 2, 0, 17, 18, 2, 7, 1, 3, 2, 0, 17, 1, 1, 1, 3, 2, 0, 18, 1, 2]), (24, [0, 5], []), (24, [1, 6], []), (100, [16, 8, 22], []), (16, [22, 20, 21], [0]), (11, [20, 18], [256]), (10, [18, 9, 17], []), (1, [17, 7, 8], []), (20, [9, 3, 4], [61, 1, 740]), (20, [5, 3, 4], [50, 2, 0, 17, 18, 2, 7, 1, 3, 2, 0, 17, 1, 1, 1, 3, 2, 0, 18, 1, 2]), (100, [11, 8, 15], []), (16, [15, 13, 14], [0]), (10, [13, 9, 12], []), (1, [12, 7, 8], []), (7, [8, 10], [2]), (20, [5, 6, 7, 8], [60, 2, 3, 743, 0, 1, 16, 7, 8]), (20, [9, 3, 4], [61, 1, 740]), (20, [5, 3, 4], [50, 2, 0, 17, 18, 2, 7, 1, 3, 2, 0, 17, 1, 1, 1, 3, 2, 0, 18, 1, 2])], [(29, (0, 0, 9, []))], [], [], [], [(24, 8, 74, 3734), (24, 10, -4294967296, 3733), (24, 7, 0, 47), (17, 8, 74, 3734), (17, 10, -4294967296, 3733), (17, 7, 0, 47), (12, 8, 74, 3734), (12, 10, -4294967296, 3733), (12, 7, 0, 47), (8, 10, -4294967296, -1), (1, 6, -4294967296, 0), (6, 1, -4294967296, 0)])
theorem oo_Gr_unpack_17 {kA : Nat → ClassId} : or_ok PRD kA GG o_Gr_unpack_17 := by
  refine or_mk fun A ta ws vs hD hth hl => ?_
  intro t0 r0 t1 k1 t3 k3 t4 k4 t5 r5 t6 k6 t7 k7 t8 k8 t9 r9 t10 k10 t11 r11 t12 k12 t13 k13 t14 k14 t15 k15 t16 r16 t17 k17 t18 k18 t20 k20 t21 k21 t22 k22 t24 k24 t25 k25 t27 k27 t28 k28 t29 k29 d0 d1 d2 d3 d4 d5 d6 d7 d8 d9 d10 d11 f0 f1 f2 f3 f4 f5 f6 f7 f8 f9 f10 f11 ta1 w1 le1 s1 f13 f14 f15 f16 f17 f18 ta2 w2 le2 s2 f20 f21 f22 f23 f24 f25 f26
  replace f2 := shm_215 f2
  replace f5 := shm_107 f5
  replace f7 := shm_176 f7
  replace f10 := shm_5 f10
  replace f11 := shm_5 f11
  have s1 : (∀ b j, w_el ws b j = if b = v_ad (n_v vs 16) ∧ j = (v_iv (n_v vs 8)).toNat then v_iv (n_v vs 22) else w_el w1 b j) ∧ ∀ b k, w_fd ws b k = w_fd w1 b k := s1.2
  have s2 : (∀ b j, w_el w1 b j = if b = v_ad (n_v vs 11) ∧ j = (v_iv (n_v vs 8)).toNat then v_iv (n_v vs 15) else w_el w2 b j) ∧ ∀ b k, w_fd w1 b k = w_fd w2 b k := s2.2
  replace f24 := shm_1366 f24
  have q5 : n_v vs 5 = n_v vs 0 := f10.symm
  have q6 : n_v vs 6 = n_v vs 1 := f11.symm
  simp only [q5, q6] at f2 f7 f24
  have ar_0_7_1 : w_ar w1 (n_v vs 0) 7 = w_ar ws (n_v vs 0) 7 := congrArg v_ad (s1.2 _ _).symm
  have ar_0_7_2 : w_ar w2 (n_v vs 0) 7 = w_ar ws (n_v vs 0) 7 := by rw [← ar_0_7_1]; show v_ad (w_fd w2 _ _) = v_ad (w_fd w1 _ _); rw [s2.2]
  have cr_0_7 := fdq_46 hD hth r0
  have ar_0_8_1 : w_ar w1 (n_v vs 0) 8 = w_ar ws (n_v vs 0) 8 := congrArg v_ad (s1.2 _ _).symm
  have ar_0_8_2 : w_ar w2 (n_v vs 0) 8 = w_ar ws (n_v vs 0) 8 := by rw [← ar_0_8_1]; show v_ad (w_fd w2 _ _) = v_ad (w_fd w1 _ _); rw [s2.2]
  have cr_0_8 := fdq_47 hD hth r0
  have ar_0_16_1 : w_ar w1 (n_v vs 0) 16 = w_ar ws (n_v vs 0) 16 := congrArg v_ad (s1.2 _ _).symm
  have ar_0_16_2 : w_ar w2 (n_v vs 0) 16 = w_ar ws (n_v vs 0) 16 := by rw [← ar_0_16_1]; show v_ad (w_fd w2 _ _) = v_ad (w_fd w1 _ _); rw [s2.2]
  have ad_9 : v_ad (n_v vs 9) = w_ar ws (n_v vs 0) 16 := congrArg v_ad f7
  have cr_0_16 : ta (w_ar ws (n_v vs 0) 16) = some 61 := by rw [← ad_9]; exact r9
  have g2 : v_iv (n_v vs 10) = w_fi ws (n_v vs 0) 1 := congrArg v_iv f2
  simp only [ad_9] at f5
  have h5 : v_iv (n_v vs 25) = w_ei ws (w_ar ws (n_v vs 0) 16) (v_iv (n_v vs 24)) := f5
  simp only [ar_0_7_2, ar_0_8_2, ar_0_16_2, ad_9] at f24
  have fe_0_0_1 : w_fi ws (n_v vs 0) 0 = w_fi w1 (n_v vs 0) 0 := congrArg v_iv (s1.2 _ _)
  have fe_0_1_1 : w_fi ws (n_v vs 0) 1 = w_fi w1 (n_v vs 0) 1 := congrArg v_iv (s1.2 _ _)
  have fe_0_17_1 : w_fi ws (n_v vs 0) 17 = w_fi w1 (n_v vs 0) 17 := congrArg v_iv (s1.2 _ _)
  have fe_0_18_1 : w_fi ws (n_v vs 0) 18 = w_fi w1 (n_v vs 0) 18 := congrArg v_iv (s1.2 _ _)
  have fe_0_0_2 : w_fi w1 (n_v vs 0) 0 = w_fi w2 (n_v vs 0) 0 := congrArg v_iv (s2.2 _ _)
  have fe_0_1_2 : w_fi w1 (n_v vs 0) 1 = w_fi w2 (n_v vs 0) 1 := congrArg v_iv (s2.2 _ _)
  have fe_0_17_2 : w_fi w1 (n_v vs 0) 17 = w_fi w2 (n_v vs 0) 17 := congrArg v_iv (s2.2 _ _)
  have fe_0_18_2 : w_fi w1 (n_v vs 0) 18 = w_fi w2 (n_v vs 0) 18 := congrArg v_iv (s2.2 _ _)
  have hE_0_7_1 : ∀ j : Int, w_ei ws (w_ar ws (n_v vs 0) 7) j = w_ei w1 (w_ar ws (n_v vs 0) 7) j := el_kp s1.1 r16 cr_0_7 (by decide)
  have hE_0_8_2 : ∀ j : Int, w_ei w1 (w_ar ws (n_v vs 0) 8) j = w_ei w2 (w_ar ws (n_v vs 0) 8) j := el_kp s2.1 r11 cr_0_8 (by decide)
  have hE_0_16_1 : ∀ j : Int, w_ei ws (w_ar ws (n_v vs 0) 16) j = w_ei w1 (w_ar ws (n_v vs 0) 16) j := el_kp s1.1 r16 cr_0_16 (by decide)
  have hE_0_16_2 : ∀ j : Int, w_ei w1 (w_ar ws (n_v vs 0) 16) j = w_ei w2 (w_ar ws (n_v vs 0) 16) j := el_kp s2.1 r11 cr_0_16 (by decide)
  have kz_0_0 := fdq_21 hD hth r0
  have kz_0_1 := fdq_30 hD hth r0
  have kz_0_17 := fdq_288 hD hth r0
  have kz_0_18 := fdq_289 hD hth r0
  have hrf0 : 0 ≤ v_iv (n_v vs 29) ∧ v_iv (n_v vs 29) ≤ 9 := vc_Gr_unpack_17_r0 (v_iv (n_v vs 1)) (v_iv (n_v vs 6)) (v_iv (n_v vs 7)) (v_iv (n_v vs 8)) (v_iv (n_v vs 10)) (v_iv (n_v vs 12)) (v_iv (n_v vs 13)) (v_iv (n_v vs 14)) (v_iv (n_v vs 15)) (v_iv (n_v vs 17)) (v_iv (n_v vs 18)) (v_iv (n_v vs 20)) (v_iv (n_v vs 21)) (v_iv (n_v vs 22)) (v_iv (n_v vs 24)) (v_iv (n_v vs 25)) (v_iv (n_v vs 27)) (v_iv (n_v vs 28)) (v_iv (n_v vs 29)) (w_fi ws (n_v vs 0) 1) (w_ei ws (w_ar ws (n_v vs 0) 16)) (w_fi ws (n_v vs 0) 17) (w_fi ws (n_v vs 0) 18) (w_ei w1 (w_ar ws (n_v vs 0) 16)) (w_fi w1 (n_v vs 0) 17) (w_fi w1 (n_v vs 0) 18) (w_ei w2 (w_ar ws (n_v vs 0) 16)) (w_ei w2 (w_ar ws (n_v vs 0) 7)) (w_ei w2 (w_ar ws (n_v vs 0) 8)) (w_fi w2 (n_v vs 0) 0) (w_fi w2 (n_v vs 0) 1) (w_fi w2 (n_v vs 0) 17) (w_fi w2 (n_v vs 0) 18) (w_fi ws (n_v vs 0) 0) (w_fi w1 (n_v vs 0) 0) (w_fi w1 (n_v vs 0) 1) (w_ei ws (w_ar ws (n_v vs 0) 7)) (w_ei w1 (w_ar ws (n_v vs 0) 7)) (w_ei w1 (w_ar ws (n_v vs 0) 8)) k1 k7 k8 k10 k24 k25 k27 k28 k29 d9 g2 (shm_11 f3) (shm_440 f4) h5 (shm_12 f6) f24 fe_0_0_1 fe_0_1_1 fe_0_17_1 fe_0_18_1 fe_0_0_2 fe_0_1_2 fe_0_17_2 fe_0_18_2 hE_0_7_1 hE_0_8_2 hE_0_16_1 hE_0_16_2 kz_0_0 kz_0_1 kz_0_17 kz_0_18
  have rf29 : tv_ok ta (0, 0, 9, []) (n_v vs 29) := tv_in t29 (by first | omega | grind) (by first | omega | grind)
  refine ⟨List.forall_mem_cons.mpr ⟨rf29, (fun _ h => (by cases h))⟩, [], trivial, ?_, (fun _ h => (by cases h))⟩
  rw [List.append_nil]
  exact (fun _ h => (by cases h))
set_option maxHeartbeats 4000000 in
theorem vc_Gr_unpack_18_r0 (x1 : Int) (x6 : Int) (x7 : Int) (x8 : Int) (x10 : Int) (x12 : Int) (x13 : Int) (x14 : Int) (x15 : Int) (x17 : Int) (x18 : Int) (x20 : Int) (x21 : Int) (x22 : Int) (x24 : Int) (x25 : Int) (x27 : Int) (x28 : Int) (x29 : Int) (x31 : Int) (x32 : Int) (x34 : Int) (edges_0 : Int) (past_0 : Int → Int) (done_0 : Int) (undone_0 : Int) (past_1 : Int → Int) (done_1 : Int) (undone_1 : Int) (past_2 : Int → Int) (done_2 : Int) (undone_2 : Int) (past_3 : Int → Int) (tail_3 : Int → Int) (head_3 : Int → Int) (nodes_3 : Int) (edges_3 : Int) (done_3 : Int) (undone_3 : Int) (nodes_0 : Int) (nodes_1 : Int) (edges_1 : Int) (nodes_2 : Int) (edges_2 : Int) (tail_0 : Int → Int) (tail_1 : Int → Int) (tail_2 : Int → Int) (head_0 : Int → Int) (head_1 : Int → Int) (head_2 : Int → Int) (weight_1 : Int → Int) (weight_2 : Int → Int) (weight_3 : Int → Int) (k1 : 0 ≤ x1 ∧ x1 ≤ 30) (k7 : 74 ≤ x7 ∧ x7 ≤ 3734) (k8 : 0 ≤ x8 ∧ x8 ≤ 47) (k10 : 1 ≤ x10 ∧ x10 ≤ 48) (k31 : 74 ≤ x31 ∧ x31 ≤ 3781) (k32 : (-2147483648) ≤ x32 ∧ x32 ≤ 2147483647) (k34 : (-2147483648) ≤ x34 ∧ x34 ≤ 2147483647) (d12 : x10 + (-4294967296) ≤ x8 ∧ x8 ≤ x10 + (-1)) (g3 : x10 = edges_0) (f4 : x34 = x32 / 16777216) (h5 : x32 = past_0 (x31)) (f6 : x31 = x7 + x8) (f31 : UP2 (nodes_3) (edges_3) (past_3) (tail_3) (head_3) (x1) (x7) (x8)) (fe_0_0_1 : nodes_0 = nodes_1) (fe_0_1_1 : edges_0 = edges_1) (fe_0_17_1 : done_0 = done_1) (fe_0_18_1 : undone_0 = undone_1) (fe_0_0_2 : nodes_1 = nodes_2) (fe_0_1_2 : edges_1 = edges_2) (fe_0_17_2 : done_1 = done_2) (fe_0_18_2 : undone_1 = undone_2) (fe_0_0_3 : nodes_2 = nodes_3) (fe_0_1_3 : edges_2 = edges_3) (fe_0_17_3 : done_2 = done_3) (fe_0_18_3 : undone_2 = undone_3) (hE_0_7_1 : ∀ j : Int, tail_0 j = tail_1 j) (hE_0_7_2 : ∀ j : Int, tail_1 j = tail_2 j) (hE_0_8_1 : ∀ j : Int, head_0 j = head_1 j) (hE_0_8_3 : ∀ j : Int, head_2 j = head_3 j) (hE_0_9_2 : ∀ j : Int, weight_1 j = weight_2 j) (hE_0_9_3 : ∀ j : Int, weight_2 j = weight_3 j) (hE_0_16_1 : ∀ j : Int, past_0 j = past_1 j) (hE_0_16_2 : ∀ j : Int, past_1 j = past_2 j) (hE_0_16_3 : ∀ j : Int, past_2 j = past_3 j) (kz_0_0 : 0 ≤ nodes_0 ∧ nodes_0 ≤ 24) (kz_0_1 : 0 ≤ edges_0 ∧ edges_0 ≤ 48) (kz_0_17 : 0 ≤ done_0 ∧ done_0 ≤ 30) (kz_0_18 : 0 ≤ undone_0 ∧ undone_0 ≤ 30) : 0 ≤ x34 ∧ x34 ≤ 1 := by
  subst fe_0_0_1
  subst fe_0_1_1
  subst fe_0_17_1
  subst fe_0_18_1
  subst fe_0_0_2
  subst fe_0_1_2
  subst fe_0_17_2
  subst fe_0_18_2
  subst fe_0_0_3
  subst fe_0_1_3
  subst fe_0_17_3
  subst fe_0_18_3
  have e_hE_0_7_1 := funext hE_0_7_1; subst e_hE_0_7_1
  have e_hE_0_7_2 := funext hE_0_7_2; subst e_hE_0_7_2
  have e_hE_0_8_1 := funext hE_0_8_1; subst e_hE_0_8_1
  have e_hE_0_8_3 := funext hE_0_8_3; subst e_hE_0_8_3
  have e_hE_0_9_2 := funext hE_0_9_2; subst e_hE_0_9_2
  have e_hE_0_9_3 := funext hE_0_9_3; subst e_hE_0_9_3
  have e_hE_0_16_1 := funext hE_0_16_1; subst e_hE_0_16_1
  have e_hE_0_16_2 := funext hE_0_16_2; subst e_hE_0_16_2
  have e_hE_0_16_3 := funext hE_0_16_3; subst e_hE_0_16_3
  first
    | (have v := up2_edge (p := x31) (x := x32) ‹UP2 _ _ _ _ _ _ _ _› (by omega) (by omega) (by assumption); unfold PEW at v; omega)
def o_Gr_unpack_18 : or_T := (233, 35, [(0, (2, 0, 0, [3])), (1, (0, 0, 30, [])), (3, (0, 0, 30, [])), (4, (0, 0, 30, [])), (5, (2, 0, 0, [3])), (6, (0, 0, 30, [])), (7, (0, 74, 3734, [])), (8, (0, 0, 47, [])), (9, (2, 0, 0, [61])), (10, (0, 1, 48, [])), (11, (2, 0, 0, [52])), (12, (0, 74, 3781, [])), (13, (0, -2147483648, 2147483647, [])), (14, (0, 255, 255, [])), (15, (0, 0, 23, [])), (16, (2, 0, 0, [53])), (17, (0, 74, 3781, [])), (18, (0, -2147483648, 2147483647, [])), (20, (0, -2147483648, 2147483647, [])), (21, (0, 255, 255, [])), (22, (0, 0, 23, [])), (23, (2, 0, 0, [54])), (24, (0, 74, 3781, [])), (25, (0, -2147483648, 2147483647, [])), (27, (0, -2147483648, 2147483647, [])), (28, (0, 255, 255, [])), (29, (0, 0, 9, [])), (31, (0, 74, 3781, [])), (32, (0, -2147483648, 2147483647, [])), (34, (0, -2147483648, 2147483647, []))], [(9, [23, 5], [9]), (9, [16, 5], [8]), (9, [11, 5], [7]), (9, [10, 5], [1]), (11, [34, 32], [16777216]), (10, [32, 9, 31], []), (1, [31, 7, 8], []), (9, [9, 5], [16]), (20, [9, 3, 4], [61, 1, 740]), (20, [5, 3, 4], [50, 2, 0, 17, 18, 2, 7, 1, 3, 2, 0, 17, 1, 1, 1, 3, 2, 0, 18, 1, 2]), (24, [0, 5], []), (24, [1, 6], []), (100, [23, 8, 29], []), (16, [29, 27, 28], [0]), (11, [27, 25], [65536]), (10, [25, 9, 24], []), (1, [24, 7, 8], []), (20, [9, 3, 4], [61, 1, 740]), (20, [5, 3, 4], [50, 2, 0, 17, 18, 2, 7, 1, 3, 2, 0, 17, 1, 1, 1, 3, 2, 0, 18, 1, 2]), (100, [16, 8, 22], []), (16, [22, 20, 21], [0]), (11, [20, 18], [256]), (10, [18, 9, 17], []), (1, [17, 7, 8], []), (20, [9, 3, 4], [61, 1, 740]), (20, [5, 3, 4], [50, 2, 0, 17, 18, 2, 7, 1, 3, 2, 0, 17, 1, 1, 1, 3, 2, 0, 18, 1, 2]), (100, [11, 8, 15], []), (16, [15, 13, 14], [0]), (10, [13, 9, 12], []), (1, [12, 7, 8], []), (7, [8, 10], [2]), (20, [5, 6, 7, 8], [60, 2, 3, 743, 0, 1, 16, 7, 8]), (20, [9, 3, 4], [61, 1, 740]), (20, [5, 3, 4], [50, 2, 0, 17, 18, 2, 7, 1, 3, 2, 0, 17, 1, 1, 1, 3, 2, 0, 18, 1, 2])], [(34, (0, 0, 1, []))], [], [], [], [(31, 8, 74, 3734), (31, 10, -4294967296, 3733), (31, 7, 0, 47), (24, 8, 74, 3734), (24, 10, -4294967296, 3733), (24, 7, 0, 47), (17, 8, 74, 3734), (17, 10, -4294967296, 3733), (17, 7, 0, 47), (12, 8, 74, 3734), (12, 10, -4294967296, 3733), (12, 7, 0, 47), (8, 10, -4294967296, -1), (1, 6, -4294967296, 0), (6, 1, -4294967296, 0)])
theorem oo_Gr_unpack_18 {kA : Nat → ClassId} : or_ok PRD kA GG o_Gr_unpack_18 := by
  refine or_mk fun A ta ws vs hD hth hl => ?_
  intro t0 r0 t1 k1 t3 k3 t4 k4 t5 r5 t6 k6 t7 k7 t8 k8 t9 r9 t10 k10 t11 r11 t12 k12 t13 k13 t14 k14 t15 k15 t16 r16 t17 k17 t18 k18 t20 k20 t21 k21 t22 k22 t23 r23 t24 k24 t25 k25 t27 k27 t28 k28 t29 k29 t31 k31 t32 k32 t34 k34 d0 d1 d2 d3 d4 d5 d6 d7 d8 d9 d10 d11 d12 d13 d14 f0 f1 f2 f3 f4 f5 f6 f7 f8 f9 f10 f11 ta1 w1 le1 s1 f13 f14 f15 f16 f17 f18 ta2 w2 le2 s2 f20 f21 f22 f23 f24 f25 ta3 w3 le3 s3 f27 f28 f29 f30 f31 f32 f33
  replace f3 := shm_215 f3
  replace f5 := shm_107 f5
  replace f7 := shm_176 f7
  replace f10 := shm_5 f10
  replace f11 := shm_5 f11
  have s1 : (∀ b j, w_el ws b j = if b = v_ad (n_v vs 23) ∧ j = (v_iv (n_v vs 8)).toNat then v_iv (n_v vs 29) else w_el w1 b j) ∧ ∀ b k, w_fd ws b k = w_fd w1 b k := s1.2
  have s2 : (∀ b j, w_el w1 b j = if b = v_ad (n_v vs 16) ∧ j = (v_iv (n_v vs 8)).toNat then v_iv (n_v vs 22) else w_el w2 b j) ∧ ∀ b k, w_fd w1 b k = w_fd w2 b k := s2.2
  have s3 : (∀ b j, w_el w2 b j = if b = v_ad (n_v vs 11) ∧ j = (v_iv (n_v vs 8)).toNat then v_iv (n_v vs 15) else w_el w3 b j) ∧ ∀ b k, w_fd w2 b k = w_fd w3 b k := s3.2
  replace f31 := shm_1366 f31
  have q5 : n_v vs 5 = n_v vs 0 := f10.symm
  have q6 : n_v vs 6 = n_v vs 1 := f11.symm
  simp only [q5, q6] at f3 f7 f31
  have ar_0_7_1 : w_ar w1 (n_v vs 0) 7 = w_ar ws (n_v vs 0) 7 := congrArg v_ad (s1.2 _ _).symm
  have ar_0_7_2 : w_ar w2 (n_v vs 0) 7 = w_ar ws (n_v vs 0) 7 := by rw [← ar_0_7_1]; show v_ad (w_fd w2 _ _) = v_ad (w_fd w1 _ _); rw [s2.2]
  have ar_0_7_3 : w_ar w3 (n_v vs 0) 7 = w_ar ws (n_v vs 0) 7 := by rw [← ar_0_7_2]; show v_ad (w_fd w3 _ _) = v_ad (w_fd w2 _ _); rw [s3.2]
  have cr_0_7 := fdq_46 hD hth r0
  have ar_0_8_1 : w_ar w1 (n_v vs 0) 8 = w_ar ws (n_v vs 0) 8 := congrArg v_ad (s1.2 _ _).symm
  have ar_0_8_2 : w_ar w2 (n_v vs 0) 8 = w_ar ws (n_v vs 0) 8 := by rw [← ar_0_8_1]; show v_ad (w_fd w2 _ _) = v_ad (w_fd w1 _ _); rw [s2.2]
  have ar_0_8_3 : w_ar w3 (n_v vs 0) 8 = w_ar ws (n_v vs 0) 8 := by rw [← ar_0_8_2]; show v_ad (w_fd w3 _ _) = v_ad (w_fd w2 _ _); rw [s3.2]
  have cr_0_8 := fdq_47 hD hth r0
  have cr_0_9 := fdq_112 hD hth r0
  have ar_0_16_1 : w_ar w1 (n_v vs 0) 16 = w_ar ws (n_v vs 0) 16 := congrArg v_ad (s1.2 _ _).symm
  have ar_0_16_2 : w_ar w2 (n_v vs 0) 16 = w_ar ws (n_v vs 0) 16 := by rw [← ar_0_16_1]; show v_ad (w_fd w2 _ _) = v_ad (w_fd w1 _ _); rw [s2.2]
  have ar_0_16_3 : w_ar w3 (n_v vs 0) 16 = w_ar ws (n_v vs 0) 16 := by rw [← ar_0_16_2]; show v_ad (w_fd w3 _ _) = v_ad (w_fd w2 _ _); rw [s3.2]
  have ad_9 : v_ad (n_v vs 9) = w_ar ws (n_v vs 0) 16 := congrArg v_ad f7
  have cr_0_16 : ta (w_ar ws (n_v vs 0) 16) = some 61 := by rw [← ad_9]; exact r9
  have g3 : v_iv (n_v vs 10) = w_fi ws (n_v vs 0) 1 := congrArg v_iv f3
  simp only [ad_9] at f5
  have h5 : v_iv (n_v vs 32) = w_ei ws (w_ar ws (n_v vs 0) 16) (v_iv (n_v vs 31)) := f5
  simp only [ar_0_7_3, ar_0_8_3, ar_0_16_3, ad_9] at f31
  have fe_0_0_1 : w_fi ws (n_v vs 0) 0 = w_fi w1 (n_v vs 0) 0 := congrArg v_iv (s1.2 _ _)
  have fe_0_1_1 : w_fi ws (n_v vs 0) 1 = w_fi w1 (n_v vs 0) 1 := congrArg v_iv (s1.2 _ _)
  have fe_0_17_1 : w_fi ws (n_v vs 0) 17 = w_fi w1 (n_v vs 0) 17 := congrArg v_iv (s1.2 _ _)
  have fe_0_18_1 : w_fi ws (n_v vs 0) 18 = w_fi w1 (n_v vs 0) 18 := congrArg v_iv (s1.2 _ _)
  have fe_0_0_2 : w_fi w1 (n_v vs 0) 0 = w_fi w2 (n_v vs 0) 0 := congrArg v_iv (s2.2 _ _)
  have fe_0_1_2 : w_fi w1 (n_v vs 0) 1 = w_fi w2 (n_v vs 0) 1 := congrArg v_iv (s2.2 _ _)
  have fe_0_17_2 : w_fi w1 (n_v vs 0) 17 = w_fi w2 (n_v vs 0) 17 := congrArg v_iv (s2.2 _ _)
  have fe_0_18_2 : w_fi w1 (n_v vs 0) 18 = w_fi w2 (n_v vs 0) 18 := congrArg v_iv (s2.2 _ _)
  have fe_0_0_3 : w_fi w2 (n_v vs 0) 0 = w_fi w3 (n_v vs 0) 0 := congrArg v_iv (s3.2 _ _)
  have fe_0_1_3 : w_fi w2 (n_v vs 0) 1 = w_fi w3 (n_v vs 0) 1 := congrArg v_iv (s3.2 _ _)
  have fe_0_17_3 : w_fi w2 (n_v vs 0) 17 = w_fi w3 (n_v vs 0) 17 := congrArg v_iv (s3.2 _ _)
  have fe_0_18_3 : w_fi w2 (n_v vs 0) 18 = w_fi w3 (n_v vs 0) 18 := congrArg v_iv (s3.2 _ _)
  have hE_0_7_1 : ∀ j : Int, w_ei ws (w_ar ws (n_v vs 0) 7) j = w_ei w1 (w_ar ws (n_v vs 0) 7) j := el_kp s1.1 r23 cr_0_7 (by decide)
  have hE_0_7_2 : ∀ j : Int, w_ei w1 (w_ar ws (n_v vs 0) 7) j = w_ei w2 (w_ar ws (n_v vs 0) 7) j := el_kp s2.1 r16 cr_0_7 (by decide)
  have hE_0_8_1 : ∀ j : Int, w_ei ws (w_ar ws (n_v vs 0) 8) j = w_ei w1 (w_ar ws (n_v vs 0) 8) j := el_kp s1.1 r23 cr_0_8 (by decide)
  have hE_0_8_3 : ∀ j : Int, w_ei w2 (w_ar ws (n_v vs 0) 8) j = w_ei w3 (w_ar ws (n_v vs 0) 8) j := el_kp s3.1 r11 cr_0_8 (by decide)
  have hE_0_9_2 : ∀ j : Int, w_ei w1 (w_ar ws (n_v vs 0) 9) j = w_ei w2 (w_ar ws (n_v vs 0) 9) j := el_kp s2.1 r16 cr_0_9 (by decide)
  have hE_0_9_3 : ∀ j : Int, w_ei w2 (w_ar ws (n_v vs 0) 9) j = w_ei w3 (w_ar ws (n_v vs 0) 9) j := el_kp s3.1 r11 cr_0_9 (by decide)
  have hE_0_16_1 : ∀ j : Int, w_ei ws (w_ar ws (n_v vs 0) 16) j = w_ei w1 (w_ar ws (n_v vs 0) 16) j := el_kp s1.1 r23 cr_0_16 (by decide)
  have hE_0_16_2 : ∀ j : Int, w_ei w1 (w_ar ws (n_v vs 0) 16) j = w_ei w2 (w_ar ws (n_v vs 0) 16) j := el_kp s2.1 r16 cr_0_16 (by decide)
  have hE_0_16_3 : ∀ j : Int, w_ei w2 (w_ar ws (n_v vs 0) 16) j = w_ei w3 (w_ar ws (n_v vs 0) 16) j := el_kp s3.1 r11 cr_0_16 (by decide)
  have kz_0_0 := fdq_21 hD hth r0
  have kz_0_1 := fdq_30 hD hth r0
  have kz_0_17 := fdq_288 hD hth r0
  have kz_0_18 := fdq_289 hD hth r0
  have hrf0 : 0 ≤ v_iv (n_v vs 34) ∧ v_iv (n_v vs 34) ≤ 1 := vc_Gr_unpack_18_r0 (v_iv (n_v vs 1)) (v_iv (n_v vs 6)) (v_iv (n_v vs 7)) (v_iv (n_v vs 8)) (v_iv (n_v vs 10)) (v_iv (n_v vs 12)) (v_iv (n_v vs 13)) (v_iv (n_v vs 14)) (v_iv (n_v vs 15)) (v_iv (n_v vs 17)) (v_iv (n_v vs 18)) (v_iv (n_v vs 20)) (v_iv (n_v vs 21)) (v_iv (n_v vs 22)) (v_iv (n_v vs 24)) (v_iv (n_v vs 25)) (v_iv (n_v vs 27)) (v_iv (n_v vs 28)) (v_iv (n_v vs 29)) (v_iv (n_v vs 31)) (v_iv (n_v vs 32)) (v_iv (n_v vs 34)) (w_fi ws (n_v vs 0) 1) (w_ei ws (w_ar ws (n_v vs 0) 16)) (w_fi ws (n_v vs 0) 17) (w_fi ws (n_v vs 0) 18) (w_ei w1 (w_ar ws (n_v vs 0) 16)) (w_fi w1 (n_v vs 0) 17) (w_fi w1 (n_v vs 0) 18) (w_ei w2 (w_ar ws (n_v vs 0) 16)) (w_fi w2 (n_v vs 0) 17) (w_fi w2 (n_v vs 0) 18) (w_ei w3 (w_ar ws (n_v vs 0) 16)) (w_ei w3 (w_ar ws (n_v vs 0) 7)) (w_ei w3 (w_ar ws (n_v vs 0) 8)) (w_fi w3 (n_v vs 0) 0) (w_fi w3 (n_v vs 0) 1) (w_fi w3 (n_v vs 0) 17) (w_fi w3 (n_v vs 0) 18) (w_fi ws (n_v vs 0) 0) (w_fi w1 (n_v vs 0) 0) (w_fi w1 (n_v vs 0) 1) (w_fi w2 (n_v vs 0) 0) (w_fi w2 (n_v vs 0) 1) (w_ei ws (w_ar ws (n_v vs 0) 7)) (w_ei w1 (w_ar ws (n_v vs 0) 7)) (w_ei w2 (w_ar ws (n_v vs 0) 7)) (w_ei ws (w_ar ws (n_v vs 0) 8)) (w_ei w1 (w_ar ws (n_v vs 0) 8)) (w_ei w2 (w_ar ws (n_v vs 0) 8)) (w_ei w1 (w_ar ws (n_v vs 0) 9)) (w_ei w2 (w_ar ws (n_v vs 0) 9)) (w_ei w3 (w_ar ws (n_v vs 0) 9)) k1 k7 k8 k10 k31 k32 k34 d12 g3 (shm_441 f4) h5 (shm_12 f6) f31 fe_0_0_1 fe_0_1_1 fe_0_17_1 fe_0_18_1 fe_0_0_2 fe_0_1_2 fe_0_17_2 fe_0_18_2 fe_0_0_3 fe_0_1_3 fe_0_17_3 fe_0_18_3 hE_0_7_1 hE_0_7_2 hE_0_8_1 hE_0_8_3 hE_0_9_2 hE_0_9_3 hE_0_16_1 hE_0_16_2 hE_0_16_3 kz_0_0 kz_0_1 kz_0_17 kz_0_18
  have rf34 : tv_ok ta (0, 0, 1, []) (n_v vs 34) := tv_in t34 (by first | omega | grind) (by first | omega | grind)
  refine ⟨List.forall_mem_cons.mpr ⟨rf34, (fun _ h => (by cases h))⟩, [], trivial, ?_, (fun _ h => (by cases h))⟩
  rw [List.append_nil]
  exact (fun _ h => (by cases h))
set_option maxHeartbeats 4000000 in
theorem vc_Gr_unpack_19_0 (x1 : Int) (x7 : Int) (x8 : Int) (x10 : Int) (x12 : Int) (x13 : Int) (x14 : Int) (x15 : Int) (x17 : Int) (x18 : Int) (x20 : Int) (x21 : Int) (x22 : Int) (x31 : Int) (x35 : Int) (edges_0 : Int) (past_0 : Int → Int) (done_0 : Int) (undone_0 : Int) (past_1 : Int → Int) (done_1 : Int) (undone_1 : Int) (past_2 : Int → Int) (done_2 : Int) (undone_2 : Int) (past_3 : Int → Int) (done_3 : Int) (undone_3 : Int) (past_4 : Int → Int) (tail_4 : Int → Int) (head_4 : Int → Int) (nodes_4 : Int) (edges_4 : Int) (done_4 : Int) (undone_4 : Int) (nodes_0 : Int) (nodes_1 : Int) (edges_1 : Int) (nodes_2 : Int) (edges_2 : Int) (nodes_3 : Int) (edges_3 : Int) (tail_0 : Int → Int) (tail_1 : Int → Int) (tail_2 : Int → Int) (tail_3 : Int → Int) (head_0 : Int → Int) (head_1 : Int → Int) (head_2 : Int → Int) (head_3 : Int → Int) (weight_0 : Int → Int) (weight_1 : Int → Int) (weight_2 : Int → Int) (weight_3 : Int → Int) (weight_4 : Int → Int) (oneWay_1 : Int → Int) (oneWay_2 : Int → Int) (oneWay_3 : Int → Int) (oneWay_4 : Int → Int) (k1 : 0 ≤ x1 ∧ x1 ≤ 30) (k7 : 74 ≤ x7 ∧ x7 ≤ 3734) (k8 : 0 ≤ x8 ∧ x8 ≤ 47) (k10 : 1 ≤ x10 ∧ x10 ≤ 48) (k12 : 74 ≤ x12 ∧ x12 ≤ 3781) (k13 : (-2147483648) ≤ x13 ∧ x13 ≤ 2147483647) (k14 : 255 ≤ x14 ∧ x14 ≤ 255) (k15 : 0 ≤ x15 ∧ x15 ≤ 23) (k17 : 74 ≤ x17 ∧ x17 ≤ 3781) (k18 : (-2147483648) ≤ x18 ∧ x18 ≤ 2147483647) (k20 : (-2147483648) ≤ x20 ∧ x20 ≤ 2147483647) (k21 : 255 ≤ x21 ∧ x21 ≤ 255) (k22 : 0 ≤ x22 ∧ x22 ≤ 23) (k31 : 74 ≤ x31 ∧ x31 ≤ 3781) (k35 : 1 ≤ x35 ∧ x35 ≤ 48) (d0 : x8 + 1 ≤ x35 ∧ x35 ≤ x8 + 1) (d1 : x10 + (-4294967296) ≤ x35 ∧ x35 ≤ x10 + 0) (d14 : x10 + (-4294967296) ≤ x8 ∧ x8 ≤ x10 + (-1)) (g4 : x10 = edges_0) (f6 : x35 = x8 + 1) (f14 : x31 = x7 + x8) (f25 : bvp (x22) = bvp (x20) &&& bvp (x21)) (f26 : x20 = x18 / 256) (h27 : x18 = past_3 (x17)) (f28 : x17 = x7 + x8) (f32 : bvp (x15) = bvp (x13) &&& bvp (x14)) (h33 : x13 = past_4 (x12)) (f34 : x12 = x7 + x8) (f36 : UP2 (nodes_4) (edges_4) (past_4) (tail_4) (head_4) (x1) (x7) (x8)) (fe_0_0_1 : nodes_0 = nodes_1) (fe_0_1_1 : edges_0 = edges_1) (fe_0_17_1 : done_0 = done_1) (fe_0_18_1 : undone_0 = undone_1) (fe_0_0_2 : nodes_1 = nodes_2) (fe_0_1_2 : edges_1 = edges_2) (fe_0_17_2 : done_1 = done_2) (fe_0_18_2 : undone_1 = undone_2) (fe_0_0_3 : nodes_2 = nodes_3) (fe_0_1_3 : edges_2 = edges_3) (fe_0_17_3 : done_2 = done_3) (fe_0_18_3 : undone_2 = undone_3) (fe_0_0_4 : nodes_3 = nodes_4) (fe_0_1_4 : edges_3 = edges_4) (fe_0_17_4 : done_3 = done_4) (fe_0_18_4 : undone_3 = undone_4) (hE_0_7_1 : ∀ j : Int, tail_0 j = tail_1 j) (hE_0_7_2 : ∀ j : Int, tail_1 j = tail_2 j) (hE_0_7_3 : ∀ j : Int, tail_2 j = tail_3 j) (hE_0_7_4 : ∀ j : Int, 0 ≤ j → (j = x8 → tail_3 j = x15) ∧ (j ≠ x8 → tail_3 j = tail_4 j)) (hE_0_8_1 : ∀ j : Int, head_0 j = head_1 j) (hE_0_8_2 : ∀ j : Int, head_1 j = head_2 j) (hE_0_8_3 : ∀ j : Int, 0 ≤ j → (j = x8 → head_2 j = x22) ∧ (j ≠ x8 → head_2 j = head_3 j)) (hE_0_8_4 : ∀ j : Int, head_3 j = head_4 j) (hE_0_9_1 : ∀ j : Int, weight_0 j = weight_1 j) (hE_0_9_3 : ∀ j : Int, weight_2 j = weight_3 j) (hE_0_9_4 : ∀ j : Int, weight_3 j = weight_4 j) (hE_0_10_2 : ∀ j : Int, oneWay_1 j = oneWay_2 j) (hE_0_10_3 : ∀ j : Int, oneWay_2 j = oneWay_3 j) (hE_0_10_4 : ∀ j : Int, oneWay_3 j = oneWay_4 j) (hE_0_16_1 : ∀ j : Int, past_0 j = past_1 j) (hE_0_16_2 : ∀ j : Int, past_1 j = past_2 j) (hE_0_16_3 : ∀ j : Int, past_2 j = past_3 j) (hE_0_16_4 : ∀ j : Int, past_3 j = past_4 j) (kz_0_0 : 0 ≤ nodes_0 ∧ nodes_0 ≤ 24) (kz_0_1 : 0 ≤ edges_0 ∧ edges_0 ≤ 48) (kz_0_17 : 0 ≤ done_0 ∧ done_0 ≤ 30) (kz_0_18 : 0 ≤ undone_0 ∧ undone_0 ≤ 30) : UP2 (nodes_0) (edges_0) (past_0) (tail_0) (head_0) (x1) (x7) (x35) := by
  subst fe_0_0_1
  subst fe_0_1_1
  subst fe_0_17_1
  subst fe_0_18_1
  subst fe_0_0_2
  subst fe_0_1_2
  subst fe_0_17_2
  subst fe_0_18_2
  subst fe_0_0_3
  subst fe_0_1_3
  subst fe_0_17_3
  subst fe_0_18_3
  subst fe_0_0_4
  subst fe_0_1_4
  subst fe_0_17_4
  subst fe_0_18_4
  have e_hE_0_7_1 := funext hE_0_7_1; subst e_hE_0_7_1
  have e_hE_0_7_2 := funext hE_0_7_2; subst e_hE_0_7_2
  have e_hE_0_7_3 := funext hE_0_7_3; subst e_hE_0_7_3
  have e_hE_0_8_1 := funext hE_0_8_1; subst e_hE_0_8_1
  have e_hE_0_8_2 := funext hE_0_8_2; subst e_hE_0_8_2
  have e_hE_0_8_4 := funext hE_0_8_4; subst e_hE_0_8_4
  have e_hE_0_9_1 := funext hE_0_9_1; subst e_hE_0_9_1
  have e_hE_0_9_3 := funext hE_0_9_3; subst e_hE_0_9_3
  have e_hE_0_9_4 := funext hE_0_9_4; subst e_hE_0_9_4
  have e_hE_0_10_2 := funext hE_0_10_2; subst e_hE_0_10_2
  have e_hE_0_10_3 := funext hE_0_10_3; subst e_hE_0_10_3
  have e_hE_0_10_4 := funext hE_0_10_4; subst e_hE_0_10_4
  have e_hE_0_16_1 := funext hE_0_16_1; subst e_hE_0_16_1
  have e_hE_0_16_2 := funext hE_0_16_2; subst e_hE_0_16_2
  have e_hE_0_16_3 := funext hE_0_16_3; subst e_hE_0_16_3
  have e_hE_0_16_4 := funext hE_0_16_4; subst e_hE_0_16_4
  first
    | (have v := up2_edge (p := x12) (x := x13) ‹UP2 _ _ _ _ _ _ _ _› (by omega) (by omega) (by assumption); unfold PEW at v; have e := and255p (a := x15) (x := x13) (q := x14) (by assumption) (by omega) (by omega) (by omega) (by omega) (by omega); have e2 := and255p (a := x22) (x := x20) (q := x21) (by assumption) (by omega) (by have z := pew_same (p := x12) (q := x17) ‹x13 = past_0 x12› ‹x18 = past_0 x17› (by omega); omega) (by omega) (by omega) (by omega); have z := pew_same (p := x12) (q := x17) ‹x13 = past_0 x12› ‹x18 = past_0 x17› (by omega); exact up2_step (x := x13) (a := x15) (b := x22) ‹UP2 _ _ _ _ _ _ _ _› (up2_edge (p := x12) (x := x13) ‹UP2 _ _ _ _ _ _ _ _› (by omega) (by omega) (by assumption)) e (by omega) hE_0_7_4 rfl hE_0_8_3 rfl (by omega))
def o_Gr_unpack_19 : or_T := (149, 36, [(0, (2, 0, 0, [3])), (1, (0, 0, 30, [])), (7, (0, 74, 3734, [])), (8, (0, 0, 47, [])), (9, (2, 0, 0, [61])), (10, (0, 1, 48, [])), (11, (2, 0, 0, [52])), (12, (0, 74, 3781, [])), (13, (0, -2147483648, 2147483647, [])), (14, (0, 255, 255, [])), (15, (0, 0, 23, [])), (16, (2, 0, 0, [53])), (17, (0, 74, 3781, [])), (18, (0, -2147483648, 2147483647, [])), (20, (0, -2147483648, 2147483647, [])), (21, (0, 255, 255, [])), (22, (0, 0, 23, [])), (23, (2, 0, 0, [54])), (30, (2, 0, 0, [55])), (31, (0, 74, 3781, [])), (35, (0, 1, 48, []))], [(9, [16, 5], [8]), (9, [11, 5], [7]), (9, [10, 5], [1]), (9, [9, 5], [16]), (6, [35, 8], [1]), (24, [0, 5], []), (24, [1, 6], []), (100, [30, 8, 34], []), (1, [31, 7, 8], []), (100, [23, 8, 29], []), (100, [16, 8, 22], []), (16, [22, 20, 21], [0]), (11, [20, 18], [256]), (10, [18, 9, 17], []), (1, [17, 7, 8], []), (100, [11, 8, 15], []), (16, [15, 13, 14], [0]), (10, [13, 9, 12], []), (1, [12, 7, 8], []), (20, [5, 6, 7, 8], [60, 2, 3, 743, 0, 1, 16, 7, 8])], [], [], [(20, [5, 6, 7, 35], [60, 2, 3, 743, 0, 1, 16, 7, 8])], [], [(35, 8, 1, 1), (35, 10, -4294967296, 0), (31, 8, 74, 3734), (24, 8, 74, 3734), (17, 8, 74, 3734), (12, 8, 74, 3734), (8, 10, -4294967296, -1)])
theorem oo_Gr_unpack_19 {kA : Nat → ClassId} : or_ok PRD kA GG o_Gr_unpack_19 := by
  refine or_mk fun A ta ws vs hD hth hl => ?_
  intro t0 r0 t1 k1 t7 k7 t8 k8 t9 r9 t10 k10 t11 r11 t12 k12 t13 k13 t14 k14 t15 k15 t16 r16 t17 k17 t18 k18 t20 k20 t21 k21 t22 k22 t23 r23 t30 r30 t31 k31 t35 k35 d0 d1 d2 d5 d8 d11 d14 f2 f3 f4 f5 f6 f9 f10 ta1 w1 le1 s1 f14 ta2 w2 le2 s2 ta3 w3 le3 s3 f25 f26 f27 f28 ta4 w4 le4 s4 f32 f33 f34 f36
  replace f2 := shm_293 f2
  replace f3 := shm_198 f3
  replace f4 := shm_215 f4
  replace f5 := shm_176 f5
  replace f6 := shm_4 f6
  replace f9 := shm_5 f9
  replace f10 := shm_5 f10
  have s1 : (∀ b j, w_el ws b j = if b = v_ad (n_v vs 30) ∧ j = (v_iv (n_v vs 8)).toNat then v_iv (n_v vs 34) else w_el w1 b j) ∧ ∀ b k, w_fd ws b k = w_fd w1 b k := s1.2
  replace f14 := shm_12 f14
  have s2 : (∀ b j, w_el w1 b j = if b = v_ad (n_v vs 23) ∧ j = (v_iv (n_v vs 8)).toNat then v_iv (n_v vs 29) else w_el w2 b j) ∧ ∀ b k, w_fd w1 b k = w_fd w2 b k := s2.2
  have s3 : (∀ b j, w_el w2 b j = if b = v_ad (n_v vs 16) ∧ j = (v_iv (n_v vs 8)).toNat then v_iv (n_v vs 22) else w_el w3 b j) ∧ ∀ b k, w_fd w2 b k = w_fd w3 b k := s3.2
  replace f25 := shm_11 f25
  replace f26 := shm_442 f26
  replace f27 := shm_107 f27
  replace f28 := shm_12 f28
  have s4 : (∀ b j, w_el w3 b j = if b = v_ad (n_v vs 11) ∧ j = (v_iv (n_v vs 8)).toNat then v_iv (n_v vs 15) else w_el w4 b j) ∧ ∀ b k, w_fd w3 b k = w_fd w4 b k := s4.2
  replace f32 := shm_11 f32
  replace f33 := shm_107 f33
  replace f34 := shm_12 f34
  replace f36 := shm_1366 f36
  have q5 : n_v vs 5 = n_v vs 0 := f9.symm
  have q6 : n_v vs 6 = n_v vs 1 := f10.symm
  simp only [q5, q6] at f2 f3 f4 f5 f36
  have ar_0_7_1 : w_ar w1 (n_v vs 0) 7 = w_ar ws (n_v vs 0) 7 := congrArg v_ad (s1.2 _ _).symm
  have ar_0_7_2 : w_ar w2 (n_v vs 0) 7 = w_ar ws (n_v vs 0) 7 := by rw [← ar_0_7_1]; show v_ad (w_fd w2 _ _) = v_ad (w_fd w1 _ _); rw [s2.2]
  have ar_0_7_3 : w_ar w3 (n_v vs 0) 7 = w_ar ws (n_v vs 0) 7 := by rw [← ar_0_7_2]; show v_ad (w_fd w3 _ _) = v_ad (w_fd w2 _ _); rw [s3.2]
  have ar_0_7_4 : w_ar w4 (n_v vs 0) 7 = w_ar ws (n_v vs 0) 7 := by rw [← ar_0_7_3]; show v_ad (w_fd w4 _ _) = v_ad (w_fd w3 _ _); rw [s4.2]
  have cr_0_7 := fdq_46 hD hth r0
  have ar_0_8_1 : w_ar w1 (n_v vs 0) 8 = w_ar ws (n_v vs 0) 8 := congrArg v_ad (s1.2 _ _).symm
  have ar_0_8_2 : w_ar w2 (n_v vs 0) 8 = w_ar ws (n_v vs 0) 8 := by rw [← ar_0_8_1]; show v_ad (w_fd w2 _ _) = v_ad (w_fd w1 _ _); rw [s2.2]
  have ar_0_8_3 : w_ar w3 (n_v vs 0) 8 = w_ar ws (n_v vs 0) 8 := by rw [← ar_0_8_2]; show v_ad (w_fd w3 _ _) = v_ad (w_fd w2 _ _); rw [s3.2]
  have ar_0_8_4 : w_ar w4 (n_v vs 0) 8 = w_ar ws (n_v vs 0) 8 := by rw [← ar_0_8_3]; show v_ad (w_fd w4 _ _) = v_ad (w_fd w3 _ _); rw [s4.2]
  have cr_0_8 := fdq_47 hD hth r0
  have cr_0_9 := fdq_112 hD hth r0
  have cr_0_10 := fdq_209 hD hth r0
  have ar_0_16_1 : w_ar w1 (n_v vs 0) 16 = w_ar ws (n_v vs 0) 16 := congrArg v_ad (s1.2 _ _).symm
  have ar_0_16_2 : w_ar w2 (n_v vs 0) 16 = w_ar ws (n_v vs 0) 16 := by rw [← ar_0_16_1]; show v_ad (w_fd w2 _ _) = v_ad (w_fd w1 _ _); rw [s2.2]
  have ar_0_16_3 : w_ar w3 (n_v vs 0) 16 = w_ar ws (n_v vs 0) 16 := by rw [← ar_0_16_2]; show v_ad (w_fd w3 _ _) = v_ad (w_fd w2 _ _); rw [s3.2]
  have ar_0_16_4 : w_ar w4 (n_v vs 0) 16 = w_ar ws (n_v vs 0) 16 := by rw [← ar_0_16_3]; show v_ad (w_fd w4 _ _) = v_ad (w_fd w3 _ _); rw [s4.2]
  have ad_16 : v_ad (n_v vs 16) = w_ar ws (n_v vs 0) 8 := congrArg v_ad f2
  have ad_11 : v_ad (n_v vs 11) = w_ar ws (n_v vs 0) 7 := congrArg v_ad f3
  have ad_9 : v_ad (n_v vs 9) = w_ar ws (n_v vs 0) 16 := congrArg v_ad f5
  have cr_0_16 : ta (w_ar ws (n_v vs 0) 16) = some 61 := by rw [← ad_9]; exact r9
  have g4 : v_iv (n_v vs 10) = w_fi ws (n_v vs 0) 1 := congrArg v_iv f4
  simp only [ad_9] at f27
  have h27 : v_iv (n_v vs 18) = w_ei w3 (w_ar ws (n_v vs 0) 16) (v_iv (n_v vs 17)) := f27
  simp only [ad_9] at f33
  have h33 : v_iv (n_v vs 13) = w_ei w4 (w_ar ws (n_v vs 0) 16) (v_iv (n_v vs 12)) := f33
  simp only [ar_0_7_4, ar_0_8_4, ar_0_16_4, ad_9] at f36
  have fe_0_0_1 : w_fi ws (n_v vs 0) 0 = w_fi w1 (n_v vs 0) 0 := congrArg v_iv (s1.2 _ _)
  have fe_0_1_1 : w_fi ws (n_v vs 0) 1 = w_fi w1 (n_v vs 0) 1 := congrArg v_iv (s1.2 _ _)
  have fe_0_17_1 : w_fi ws (n_v vs 0) 17 = w_fi w1 (n_v vs 0) 17 := congrArg v_iv (s1.2 _ _)
  have fe_0_18_1 : w_fi ws (n_v vs 0) 18 = w_fi w1 (n_v vs 0) 18 := congrArg v_iv (s1.2 _ _)
  have fe_0_0_2 : w_fi w1 (n_v vs 0) 0 = w_fi w2 (n_v vs 0) 0 := congrArg v_iv (s2.2 _ _)
  have fe_0_1_2 : w_fi w1 (n_v vs 0) 1 = w_fi w2 (n_v vs 0) 1 := congrArg v_iv (s2.2 _ _)
  have fe_0_17_2 : w_fi w1 (n_v vs 0) 17 = w_fi w2 (n_v vs 0) 17 := congrArg v_iv (s2.2 _ _)
  have fe_0_18_2 : w_fi w1 (n_v vs 0) 18 = w_fi w2 (n_v vs 0) 18 := congrArg v_iv (s2.2 _ _)
  have fe_0_0_3 : w_fi w2 (n_v vs 0) 0 = w_fi w3 (n_v vs 0) 0 := congrArg v_iv (s3.2 _ _)
  have fe_0_1_3 : w_fi w2 (n_v vs 0) 1 = w_fi w3 (n_v vs 0) 1 := congrArg v_iv (s3.2 _ _)
  have fe_0_17_3 : w_fi w2 (n_v vs 0) 17 = w_fi w3 (n_v vs 0) 17 := congrArg v_iv (s3.2 _ _)
  have fe_0_18_3 : w_fi w2 (n_v vs 0) 18 = w_fi w3 (n_v vs 0) 18 := congrArg v_iv (s3.2 _ _)
  have fe_0_0_4 : w_fi w3 (n_v vs 0) 0 = w_fi w4 (n_v vs 0) 0 := congrArg v_iv (s4.2 _ _)
  have fe_0_1_4 : w_fi w3 (n_v vs 0) 1 = w_fi w4 (n_v vs 0) 1 := congrArg v_iv (s4.2 _ _)
  have fe_0_17_4 : w_fi w3 (n_v vs 0) 17 = w_fi w4 (n_v vs 0) 17 := congrArg v_iv (s4.2 _ _)
  have fe_0_18_4 : w_fi w3 (n_v vs 0) 18 = w_fi w4 (n_v vs 0) 18 := congrArg v_iv (s4.2 _ _)
  have hE_0_7_1 : ∀ j : Int, w_ei ws (w_ar ws (n_v vs 0) 7) j = w_ei w1 (w_ar ws (n_v vs 0) 7) j := el_kp s1.1 r30 cr_0_7 (by decide)
  have hE_0_7_2 : ∀ j : Int, w_ei w1 (w_ar ws (n_v vs 0) 7) j = w_ei w2 (w_ar ws (n_v vs 0) 7) j := el_kp s2.1 r23 cr_0_7 (by decide)
  have hE_0_7_3 : ∀ j : Int, w_ei w2 (w_ar ws (n_v vs 0) 7) j = w_ei w3 (w_ar ws (n_v vs 0) 7) j := el_kp s3.1 r16 cr_0_7 (by decide)
  have hE_0_7_4 : ∀ j : Int, 0 ≤ j → (j = v_iv (n_v vs 8) → w_ei w3 (w_ar ws (n_v vs 0) 7) j = v_iv (n_v vs 15)) ∧ (j ≠ v_iv (n_v vs 8) → w_ei w3 (w_ar ws (n_v vs 0) 7) j = w_ei w4 (w_ar ws (n_v vs 0) 7) j) := fun j hj => ⟨fun h => by unfold w_ei; rw [s4.1, if_pos ⟨ad_11.symm, by rw [h]⟩], fun h => by unfold w_ei; rw [s4.1, if_neg (fun e => h (by have := e.2; omega))]⟩
  have hE_0_8_1 : ∀ j : Int, w_ei ws (w_ar ws (n_v vs 0) 8) j = w_ei w1 (w_ar ws (n_v vs 0) 8) j := el_kp s1.1 r30 cr_0_8 (by decide)
  have hE_0_8_2 : ∀ j : Int, w_ei w1 (w_ar ws (n_v vs 0) 8) j = w_ei w2 (w_ar ws (n_v vs 0) 8) j := el_kp s2.1 r23 cr_0_8 (by decide)
  have hE_0_8_3 : ∀ j : Int, 0 ≤ j → (j = v_iv (n_v vs 8) → w_ei w2 (w_ar ws (n_v vs 0) 8) j = v_iv (n_v vs 22)) ∧ (j ≠ v_iv (n_v vs 8) → w_ei w2 (w_ar ws (n_v vs 0) 8) j = w_ei w3 (w_ar ws (n_v vs 0) 8) j) := fun j hj => ⟨fun h => by unfold w_ei; rw [s3.1, if_pos ⟨ad_16.symm, by rw [h]⟩], fun h => by unfold w_ei; rw [s3.1, if_neg (fun e => h (by have := e.2; omega))]⟩
  have hE_0_8_4 : ∀ j : Int, w_ei w3 (w_ar ws (n_v vs 0) 8) j = w_ei w4 (w_ar ws (n_v vs 0) 8) j := el_kp s4.1 r11 cr_0_8 (by decide)
  have hE_0_9_1 : ∀ j : Int, w_ei ws (w_ar ws (n_v vs 0) 9) j = w_ei w1 (w_ar ws (n_v vs 0) 9) j := el_kp s1.1 r30 cr_0_9 (by decide)
  have hE_0_9_3 : ∀ j : Int, w_ei w2 (w_ar ws (n_v vs 0) 9) j = w_ei w3 (w_ar ws (n_v vs 0) 9) j := el_kp s3.1 r16 cr_0_9 (by decide)
  have hE_0_9_4 : ∀ j : Int, w_ei w3 (w_ar ws (n_v vs 0) 9) j = w_ei w4 (w_ar ws (n_v vs 0) 9) j := el_kp s4.1 r11 cr_0_9 (by decide)
  have hE_0_10_2 : ∀ j : Int, w_ei w1 (w_ar ws (n_v vs 0) 10) j = w_ei w2 (w_ar ws (n_v vs 0) 10) j := el_kp s2.1 r23 cr_0_10 (by decide)
  have hE_0_10_3 : ∀ j : Int, w_ei w2 (w_ar ws (n_v vs 0) 10) j = w_ei w3 (w_ar ws (n_v vs 0) 10) j := el_kp s3.1 r16 cr_0_10 (by decide)
  have hE_0_10_4 : ∀ j : Int, w_ei w3 (w_ar ws (n_v vs 0) 10) j = w_ei w4 (w_ar ws (n_v vs 0) 10) j := el_kp s4.1 r11 cr_0_10 (by decide)
  have hE_0_16_1 : ∀ j : Int, w_ei ws (w_ar ws (n_v vs 0) 16) j = w_ei w1 (w_ar ws (n_v vs 0) 16) j := el_kp s1.1 r30 cr_0_16 (by decide)
  have hE_0_16_2 : ∀ j : Int, w_ei w1 (w_ar ws (n_v vs 0) 16) j = w_ei w2 (w_ar ws (n_v vs 0) 16) j := el_kp s2.1 r23 cr_0_16 (by decide)
  have hE_0_16_3 : ∀ j : Int, w_ei w2 (w_ar ws (n_v vs 0) 16) j = w_ei w3 (w_ar ws (n_v vs 0) 16) j := el_kp s3.1 r16 cr_0_16 (by decide)
  have hE_0_16_4 : ∀ j : Int, w_ei w3 (w_ar ws (n_v vs 0) 16) j = w_ei w4 (w_ar ws (n_v vs 0) 16) j := el_kp s4.1 r11 cr_0_16 (by decide)
  have kz_0_0 := fdq_21 hD hth r0
  have kz_0_1 := fdq_30 hD hth r0
  have kz_0_17 := fdq_288 hD hth r0
  have kz_0_18 := fdq_289 hD hth r0
  have nf0 : fc_1 PRD (20, [5, 6, 7, 35], [60, 2, 3, 743, 0, 1, 16, 7, 8]) ws (vs) := by
    refine ⟨nf_in hl rfl, sgq_1366 ?_⟩
    · show UP2 (w_fi ws (n_v vs 5) 0) (w_fi ws (n_v vs 5) 1) (w_ei ws (w_ar ws (n_v vs 5) 16)) (w_ei ws (w_ar ws (n_v vs 5) 7)) (w_ei ws (w_ar ws (n_v vs 5) 8)) (v_iv (n_v vs 6)) (v_iv (n_v vs 7)) (v_iv (n_v vs 35))
      simp only [q5, q6]
      exact vc_Gr_unpack_19_0 (v_iv (n_v vs 1)) (v_iv (n_v vs 7)) (v_iv (n_v vs 8)) (v_iv (n_v vs 10)) (v_iv (n_v vs 12)) (v_iv (n_v vs 13)) (v_iv (n_v vs 14)) (v_iv (n_v vs 15)) (v_iv (n_v vs 17)) (v_iv (n_v vs 18)) (v_iv (n_v vs 20)) (v_iv (n_v vs 21)) (v_iv (n_v vs 22)) (v_iv (n_v vs 31)) (v_iv (n_v vs 35)) (w_fi ws (n_v vs 0) 1) (w_ei ws (w_ar ws (n_v vs 0) 16)) (w_fi ws (n_v vs 0) 17) (w_fi ws (n_v vs 0) 18) (w_ei w1 (w_ar ws (n_v vs 0) 16)) (w_fi w1 (n_v vs 0) 17) (w_fi w1 (n_v vs 0) 18) (w_ei w2 (w_ar ws (n_v vs 0) 16)) (w_fi w2 (n_v vs 0) 17) (w_fi w2 (n_v vs 0) 18) (w_ei w3 (w_ar ws (n_v vs 0) 16)) (w_fi w3 (n_v vs 0) 17) (w_fi w3 (n_v vs 0) 18) (w_ei w4 (w_ar ws (n_v vs 0) 16)) (w_ei w4 (w_ar ws (n_v vs 0) 7)) (w_ei w4 (w_ar ws (n_v vs 0) 8)) (w_fi w4 (n_v vs 0) 0) (w_fi w4 (n_v vs 0) 1) (w_fi w4 (n_v vs 0) 17) (w_fi w4 (n_v vs 0) 18) (w_fi ws (n_v vs 0) 0) (w_fi w1 (n_v vs 0) 0) (w_fi w1 (n_v vs 0) 1) (w_fi w2 (n_v vs 0) 0) (w_fi w2 (n_v vs 0) 1) (w_fi w3 (n_v vs 0) 0) (w_fi w3 (n_v vs 0) 1) (w_ei ws (w_ar ws (n_v vs 0) 7)) (w_ei w1 (w_ar ws (n_v vs 0) 7)) (w_ei w2 (w_ar ws (n_v vs 0) 7)) (w_ei w3 (w_ar ws (n_v vs 0) 7)) (w_ei ws (w_ar ws (n_v vs 0) 8)) (w_ei w1 (w_ar ws (n_v vs 0) 8)) (w_ei w2 (w_ar ws (n_v vs 0) 8)) (w_ei w3 (w_ar ws (n_v vs 0) 8)) (w_ei ws (w_ar ws (n_v vs 0) 9)) (w_ei w1 (w_ar ws (n_v vs 0) 9)) (w_ei w2 (w_ar ws (n_v vs 0) 9)) (w_ei w3 (w_ar ws (n_v vs 0) 9)) (w_ei w4 (w_ar ws (n_v vs 0) 9)) (w_ei w1 (w_ar ws (n_v vs 0) 10)) (w_ei w2 (w_ar ws (n_v vs 0) 10)) (w_ei w3 (w_ar ws (n_v vs 0) 10)) (w_ei w4 (w_ar ws (n_v vs 0) 10)) k1 k7 k8 k10 k12 k13 k14 k15 k17 k18 k20 k21 k22 k31 k35 d0 d1 d14 g4 f6 f14 f25 f26 h27 f28 f32 h33 f34 f36 fe_0_0_1 fe_0_1_1 fe_0_17_1 fe_0_18_1 fe_0_0_2 fe_0_1_2 fe_0_17_2 fe_0_18_2 fe_0_0_3 fe_0_1_3 fe_0_17_3 fe_0_18_3 fe_0_0_4 fe_0_1_4 fe_0_17_4 fe_0_18_4 hE_0_7_1 hE_0_7_2 hE_0_7_3 hE_0_7_4 hE_0_8_1 hE_0_8_2 hE_0_8_3 hE_0_8_4 hE_0_9_1 hE_0_9_3 hE_0_9_4 hE_0_10_2 hE_0_10_3 hE_0_10_4 hE_0_16_1 hE_0_16_2 hE_0_16_3 hE_0_16_4 kz_0_0 kz_0_1 kz_0_17 kz_0_18
  refine ⟨(fun _ h => (by cases h)), [], trivial, ?_, (fun _ h => (by cases h))⟩
  rw [List.append_nil]
  exact List.forall_mem_cons.mpr ⟨⟨show (20 : Nat) < 100 from by decide, nf0⟩, (fun _ h => (by cases h))⟩
def n_Gr_unpack_an : List an_T := [(32, [(0, (2, 0, 0, [3])), (1, (0, 0, 30, [])), (2, (0, 2, 3784, [])), (3, (0, 0, 24, []))], [], (0, 0), [(0, 0, 99968), (1, 7, 3784), (0, 0, 100000)], [(1, 6, (Int.negSucc 999999999999), 0), (6, 1, (Int.negSucc 999999999999), 0), (8, 7, (Int.negSucc 999999999999), (Int.negSucc 1)), (8, 9, (Int.negSucc 999999999999), 0)], [((0, 0), (0, 0, 24, [])), ((0, 1), (0, 0, 48, [])), ((0, 16), (2, 0, 0, [61]))], [(2, 0, 0, [3]), (0, 0, 30, []), (2, 0, 0, [61]), (0, 0, 30, []), (0, 0, 30, [])], 0, [], [(20, [11, 9, 10, 6, 7, 8], [61, 1, 744]), (20, [11, 3, 4], [61, 1, 740]), (20, [5, 3, 4], [50, 2, 0, 17, 18, 2, 7, 1, 3, 2, 0, 17, 1, 1, 1, 3, 2, 0, 18, 1, 2]), (24, [0, 5], []), (24, [1, 6], [])]), (149, [(0, (2, 0, 0, [3])), (1, (0, 0, 30, [])), (2, (0, 74, 3734, [])), (3, (0, 0, 48, []))], [], (0, 0), [(0, 0, 99851), (1, 8, 48), (0, 0, 100000)], [(1, 6, (Int.negSucc 999999999999), 0), (6, 1, (Int.negSucc 999999999999), 0)], [((0, 16), (2, 0, 0, [61]))], [(2, 0, 0, [3]), (0, 0, 30, []), (2, 0, 0, [61]), (0, 0, 30, []), (0, 0, 30, [])], 0, [], [(20, [5, 6, 7, 8], [60, 2, 3, 743, 0, 1, 16, 7, 8]), (20, [9, 3, 4], [61, 1, 740]), (20, [5, 3, 4], [50, 2, 0, 17, 18, 2, 7, 1, 3, 2, 0, 17, 1, 1, 1, 3, 2, 0, 18, 1, 2]), (24, [0, 5], []), (24, [1, 6], [])])]
def t_Gr_unpack_ct : ct_L := [(1, 83, e_Gr_relink), (1, 153, e_Gr_setLetters)]
set_option maxRecDepth 100000 in
theorem c_Gr_unpack {l : Launch} {D : va_G} {kA : Nat → ClassId} (h_Gr_relink : ct_ok PRD l D kA GG y_Gr_relink z_Gr_relink e_Gr_relink) (h_Gr_setLetters : ct_ok PRD l D kA GG y_Gr_setLetters z_Gr_setLetters e_Gr_setLetters) : ct_ok PRD l D kA GG y_Gr_unpack z_Gr_unpack e_Gr_unpack := chk_all_ok (FT := [(9, 3, 0), (15, 3, 1), (25, 3, 4), (29, 3, 5), (32, 3, 6), (35, 3, 7), (38, 3, 8), (41, 3, 9), (44, 3, 10), (62, 3, 16)]) (PT := [(9, 3, 0, .int), (15, 3, 1, .int)]) (CT := t_Gr_unpack_ct) (KT := []) (NT := []) (AN := n_Gr_unpack_an) (OT := [o_Gr_unpack_0, o_Gr_unpack_1, o_Gr_unpack_2, o_Gr_unpack_3, o_Gr_unpack_4, o_Gr_unpack_5, o_Gr_unpack_6, o_Gr_unpack_7, o_Gr_unpack_8, o_Gr_unpack_9, o_Gr_unpack_10, o_Gr_unpack_11, o_Gr_unpack_12, o_Gr_unpack_13, o_Gr_unpack_14, o_Gr_unpack_15, o_Gr_unpack_16, o_Gr_unpack_17, o_Gr_unpack_18, o_Gr_unpack_19]) 3 636 (List.forall_mem_cons.mpr ⟨oo_Gr_unpack_0, List.forall_mem_cons.mpr ⟨oo_Gr_unpack_1, List.forall_mem_cons.mpr ⟨oo_Gr_unpack_2, List.forall_mem_cons.mpr ⟨oo_Gr_unpack_3, List.forall_mem_cons.mpr ⟨oo_Gr_unpack_4, List.forall_mem_cons.mpr ⟨oo_Gr_unpack_5, List.forall_mem_cons.mpr ⟨oo_Gr_unpack_6, List.forall_mem_cons.mpr ⟨oo_Gr_unpack_7, List.forall_mem_cons.mpr ⟨oo_Gr_unpack_8, List.forall_mem_cons.mpr ⟨oo_Gr_unpack_9, List.forall_mem_cons.mpr ⟨oo_Gr_unpack_10, List.forall_mem_cons.mpr ⟨oo_Gr_unpack_11, List.forall_mem_cons.mpr ⟨oo_Gr_unpack_12, List.forall_mem_cons.mpr ⟨oo_Gr_unpack_13, List.forall_mem_cons.mpr ⟨oo_Gr_unpack_14, List.forall_mem_cons.mpr ⟨oo_Gr_unpack_15, List.forall_mem_cons.mpr ⟨oo_Gr_unpack_16, List.forall_mem_cons.mpr ⟨oo_Gr_unpack_17, List.forall_mem_cons.mpr ⟨oo_Gr_unpack_18, List.forall_mem_cons.mpr ⟨oo_Gr_unpack_19, List.forall_mem_nil _⟩⟩⟩⟩⟩⟩⟩⟩⟩⟩⟩⟩⟩⟩⟩⟩⟩⟩⟩⟩) (by decide +kernel) ⟨List.forall_mem_cons.mpr ⟨gf_Gr_9, List.forall_mem_cons.mpr ⟨gf_Gr_15, List.forall_mem_cons.mpr ⟨gf_Gr_25, List.forall_mem_cons.mpr ⟨gf_Gr_29, List.forall_mem_cons.mpr ⟨gf_Gr_32, List.forall_mem_cons.mpr ⟨gf_Gr_35, List.forall_mem_cons.mpr ⟨gf_Gr_38, List.forall_mem_cons.mpr ⟨gf_Gr_41, List.forall_mem_cons.mpr ⟨gf_Gr_44, List.forall_mem_cons.mpr ⟨gf_Gr_62, List.forall_mem_nil _⟩⟩⟩⟩⟩⟩⟩⟩⟩⟩, List.forall_mem_cons.mpr ⟨pf_Gr_9, List.forall_mem_cons.mpr ⟨pf_Gr_15, List.forall_mem_nil _⟩⟩, List.forall_mem_cons.mpr ⟨cl_virtual (y := y_Gr_relink) (ci := 3) rfl rfl ⟨_, _, rfl⟩ (by decide +kernel) h_Gr_relink wm_785 wm_3 wm_782 wm_784 wv_1_12 ⟨by decide, by decide, by decide +kernel⟩ (by decide), List.forall_mem_cons.mpr ⟨cl_virtual (y := y_Gr_setLetters) (ci := 3) rfl rfl ⟨_, _, rfl⟩ (by decide +kernel) h_Gr_setLetters wm_1013 wm_3 wm_1010 wm_1012 wv_3_4 ⟨by decide, by decide, by decide +kernel⟩ (by decide), List.forall_mem_nil _⟩⟩, List.forall_mem_nil _, List.forall_mem_nil _, GG_pl⟩ (by decide +kernel)
set_option maxHeartbeats 4000000 in
theorem vc_La_fillLow_0_0 (x1 : Int) (x3 : Int) (x6 : Int) (k1 : 1 ≤ x1 ∧ x1 ≤ 23) (k3 : 1 ≤ x3 ∧ x3 ≤ 720) (k6 : 720 ≤ x6 ∧ x6 ≤ 16560) (f0 : x6 = x1 * 720) : x6 + x3 ≤ 17280 := by
  first
    | omega
  
set_option maxHeartbeats 4000000 in
theorem vc_La_fillLow_0_1 (x3 : Int) (x8 : Int) (k3 : 1 ≤ x3 ∧ x3 ≤ 720) (k8 : 720 ≤ x8 ∧ x8 ≤ 720) : x8 + x3 ≤ 5040 := by
  first
    | omega
  
def o_La_fillLow_0 : or_T := (26, 9, [(1, (0, 1, 23, [])), (3, (0, 1, 720, [])), (5, (0, 720, 720, [])), (6, (0, 720, 16560, [])), (8, (0, 720, 720, []))], [(3, [6, 1, 5], [])], [], [], [(21, [6, 3], [17280]), (21, [8, 3], [5040])], [], [])
theorem oo_La_fillLow_0 {kA : Nat → ClassId} : or_ok PRD kA GG o_La_fillLow_0 := by
  refine or_mk fun A ta ws vs hD hth hl => ?_
  intro t1 k1 t3 k3 t5 k5 t6 k6 t8 k8 f0
  replace f0 := shm_38 f0
  rw [show v_iv (n_v vs 5) = 720 from by omega] at f0
  have nf0 : fc_1 PRD (21, [6, 3], [17280]) ws (vs) := ⟨nf_in hl rfl, sgq_1367 (vc_La_fillLow_0_0 (v_iv (n_v vs 1)) (v_iv (n_v vs 3)) (v_iv (n_v vs 6)) k1 k3 k6 f0)⟩
  have nf1 : fc_1 PRD (21, [8, 3], [5040]) ws (vs) := ⟨nf_in hl rfl, sgq_1368 (vc_La_fillLow_0_1 (v_iv (n_v vs 3)) (v_iv (n_v vs 8)) k3 k8)⟩
  refine ⟨(fun _ h => (by cases h)), [], trivial, ?_, (fun _ h => (by cases h))⟩
  rw [List.append_nil]
  exact List.forall_mem_cons.mpr ⟨⟨show (21 : Nat) < 100 from by decide, nf0⟩, List.forall_mem_cons.mpr ⟨⟨show (21 : Nat) < 100 from by decide, nf1⟩, (fun _ h => (by cases h))⟩⟩
set_option maxHeartbeats 4000000 in
theorem vc_La_fillLow_1_0 (x3 : Int) (k3 : 2 ≤ x3 ∧ x3 ≤ 6) : (2 ≤ x3) ∧ (x3 ≤ 6) := by
  first
    | omega
  
def o_La_fillLow_1 : or_T := (51, 9, [(3, (0, 2, 6, []))], [], [], [], [(20, [3], [50, 0, 0, 2, 6, 0, 2, 0, 2, 1, 0, 0, 2, 1, 0, 0, 6])], [], [])
theorem oo_La_fillLow_1 {kA : Nat → ClassId} : or_ok PRD kA GG o_La_fillLow_1 := by
  refine or_mk fun A ta ws vs hD hth hl => ?_
  intro t3 k3
  have nf0 : fc_1 PRD (20, [3], [50, 0, 0, 2, 6, 0, 2, 0, 2, 1, 0, 0, 2, 1, 0, 0, 6]) ws (vs) := ⟨nf_in hl rfl, sgq_1369 (vc_La_fillLow_1_0 (v_iv (n_v vs 3)) k3)⟩
  refine ⟨(fun _ h => (by cases h)), [], trivial, ?_, (fun _ h => (by cases h))⟩
  rw [List.append_nil]
  exact List.forall_mem_cons.mpr ⟨⟨show (20 : Nat) < 100 from by decide, nf0⟩, (fun _ h => (by cases h))⟩
set_option maxHeartbeats 4000000 in
theorem vc_La_fillLow_2_0 (x2 : Int) (x5 : Int) (k2 : 1 ≤ x2 ∧ x2 ≤ 720) (k5 : 0 ≤ x5 ∧ x5 ≤ 719) (d0 : x2 + (-4294967296) ≤ x5 ∧ x5 ≤ x2 + (-1)) : (x5 + 1) ≤ x2 := by
  first
    | omega
  
def o_La_fillLow_2 : or_T := (64, 8, [(2, (0, 1, 720, [])), (5, (0, 0, 719, []))], [], [], [], [(20, [5, 2], [50, 0, 0, 0, 6, 4, 2, 1, 0, 0, 1, 1, 1])], [], [(5, 2, -4294967296, -1)])
theorem oo_La_fillLow_2 {kA : Nat → ClassId} : or_ok PRD kA GG o_La_fillLow_2 := by
  refine or_mk fun A ta ws vs hD hth hl => ?_
  intro t2 k2 t5 k5 d0
  have nf0 : fc_1 PRD (20, [5, 2], [50, 0, 0, 0, 6, 4, 2, 1, 0, 0, 1, 1, 1]) ws (vs) := ⟨nf_in hl rfl, sgq_396 (vc_La_fillLow_2_0 (v_iv (n_v vs 2)) (v_iv (n_v vs 5)) k2 k5 d0)⟩
  refine ⟨(fun _ h => (by cases h)), [], trivial, ?_, (fun _ h => (by cases h))⟩
  rw [List.append_nil]
  exact List.forall_mem_cons.mpr ⟨⟨show (20 : Nat) < 100 from by decide, nf0⟩, (fun _ h => (by cases h))⟩
set_option maxHeartbeats 4000000 in
theorem vc_La_fillLow_3_r0 (x3 : Int) (x5 : Int) (x7 : Int) (x10 : Int) (x11 : Int) (k3 : 2 ≤ x3 ∧ x3 ≤ 7) (k5 : 0 ≤ x5 ∧ x5 ≤ 719) (k7 : 2 ≤ x7 ∧ x7 ≤ 7) (k10 : 1440 ≤ x10 ∧ x10 ≤ 5040) (k11 : 1440 ≤ x11 ∧ x11 ≤ 5759) (d3 : x3 + 0 ≤ x7 ∧ x7 ≤ x3 + 4294967296) (d5 : x3 + (-4294967296) ≤ x7 ∧ x7 ≤ x3 + 0) (f0 : x11 = x10 + x5) (f1 : x10 = x3 * 720) (f5 : (2 ≤ x3) ∧ (x3 ≤ 6)) : 1440 ≤ x11 ∧ x11 ≤ 5039 := by
  first
    | omega
  
def o_La_fillLow_3 : or_T := (118, 12, [(0, (2, 0, 0, [4])), (1, (0, 1, 23, [])), (2, (0, 1, 720, [])), (3, (0, 2, 7, [])), (5, (0, 0, 719, [])), (7, (0, 2, 7, [])), (9, (0, 720, 720, [])), (10, (0, 1440, 5040, [])), (11, (0, 1440, 5759, []))], [(1, [11, 10, 5], []), (3, [10, 3, 9], []), (7, [7, 3], [3]), (20, [0], [60, 1, 1, 636, 2, 10]), (20, [1, 0], [50, 1, 0, 1002, 2, 6, 0, 2, 0, 0, 1, 0, 0, 6, 4, 2, 1, 0, 0, 1, 2, 1, 2]), (20, [3], [50, 0, 0, 2, 6, 0, 2, 0, 2, 1, 0, 0, 2, 1, 0, 0, 6]), (20, [5, 2], [50, 0, 0, 0, 6, 4, 2, 1, 0, 0, 1, 1, 1])], [(11, (0, 1440, 5039, []))], [], [], [], [(11, 5, 1440, 5040), (11, 2, -4294967296, 5039), (11, 10, 0, 719), (7, 3, 0, 4294967296), (5, 2, -4294967296, -1), (7, 3, -4294967296, 0)])
theorem oo_La_fillLow_3 {kA : Nat → ClassId} : or_ok PRD kA GG o_La_fillLow_3 := by
  refine or_mk fun A ta ws vs hD hth hl => ?_
  intro t0 r0 t1 k1 t2 k2 t3 k3 t5 k5 t7 k7 t9 k9 t10 k10 t11 k11 d0 d1 d2 d3 d4 d5 f0 f1 f2 f3 f4 f5 f6
  replace f1 := shm_38 f1
  rw [show v_iv (n_v vs 9) = 720 from by omega] at f1
  have hrf0 : 1440 ≤ v_iv (n_v vs 11) ∧ v_iv (n_v vs 11) ≤ 5039 := vc_La_fillLow_3_r0 (v_iv (n_v vs 3)) (v_iv (n_v vs 5)) (v_iv (n_v vs 7)) (v_iv (n_v vs 10)) (v_iv (n_v vs 11)) k3 k5 k7 k10 k11 d3 d5 (shm_12 f0) f1 (shm_1369 f5)
  have rf11 : tv_ok ta (0, 1440, 5039, []) (n_v vs 11) := tv_in t11 (by first | omega | grind) (by first | omega | grind)
  refine ⟨List.forall_mem_cons.mpr ⟨rf11, (fun _ h => (by cases h))⟩, [], trivial, ?_, (fun _ h => (by cases h))⟩
  rw [List.append_nil]
  exact (fun _ h => (by cases h))
set_option maxHeartbeats 4000000 in
theorem vc_La_fillLow_4_r0 (x3 : Int) (x4 : Int) (x5 : Int) (x7 : Int) (x10 : Int) (x12 : Int) (x13 : Int) (x14 : Int) (x15 : Int) (k3 : 2 ≤ x3 ∧ x3 ≤ 7) (k4 : 1 ≤ x4 ∧ x4 ≤ 120) (k5 : 0 ≤ x5 ∧ x5 ≤ 719) (k7 : 0 ≤ x7 ∧ x7 ≤ 6) (k10 : 1 ≤ x10 ∧ x10 ≤ 6) (k12 : 720 ≤ x12 ∧ x12 ≤ 4320) (k13 : 720 ≤ x13 ∧ x13 ≤ 5039) (k14 : 0 ≤ x14 ∧ x14 ≤ 720) (k15 : 720 ≤ x15 ∧ x15 ≤ 5759) (d1 : x13 + 0 ≤ x15 ∧ x15 ≤ x13 + 720) (d2 : x5 + 720 ≤ x15 ∧ x15 ≤ x5 + 5040) (d8 : x3 + (-1) ≤ x10 ∧ x10 ≤ x3 + (-1)) (f0 : x15 = x13 + x14) (f1 : x14 = x7 * x4) (f2 : x13 = x12 + x5) (f3 : x12 = x10 * 720) (f8 : (2 ≤ x3) ∧ (x3 ≤ 6)) : 720 ≤ x15 ∧ x15 ≤ 5039 := by
  first
    | omega
  
def o_La_fillLow_4 : or_T := (92, 16, [(0, (2, 0, 0, [4])), (1, (0, 1, 23, [])), (2, (0, 1, 720, [])), (3, (0, 2, 7, [])), (4, (0, 1, 120, [])), (5, (0, 0, 719, [])), (7, (0, 0, 6, [])), (9, (0, 1, 1, [])), (10, (0, 1, 6, [])), (11, (0, 720, 720, [])), (12, (0, 720, 4320, [])), (13, (0, 720, 5039, [])), (14, (0, 0, 720, [])), (15, (0, 720, 5759, []))], [(1, [15, 13, 14], []), (3, [14, 7, 4], []), (1, [13, 12, 5], []), (3, [12, 10, 11], []), (2, [10, 3, 9], []), (7, [7, 3], [2]), (20, [0], [60, 1, 1, 636, 2, 10]), (20, [1, 0], [50, 1, 0, 1002, 2, 6, 0, 2, 0, 0, 1, 0, 0, 6, 4, 2, 1, 0, 0, 1, 2, 1, 2]), (20, [3], [50, 0, 0, 2, 6, 0, 2, 0, 2, 1, 0, 0, 2, 1, 0, 0, 6]), (20, [5, 2], [50, 0, 0, 0, 6, 4, 2, 1, 0, 0, 1, 1, 1])], [(15, (0, 720, 5039, []))], [], [], [], [(15, 14, 720, 5039), (15, 13, 0, 720), (15, 5, 720, 5040), (15, 2, -4294967296, 5039), (15, 12, 0, 1439), (13, 5, 720, 4320), (13, 2, -4294967296, 4319), (13, 12, 0, 719), (10, 3, -1, -1), (7, 3, -4294967296, -1), (5, 2, -4294967296, -1), (7, 3, -4294967296, 0)])
theorem oo_La_fillLow_4 {kA : Nat → ClassId} : or_ok PRD kA GG o_La_fillLow_4 := by
  refine or_mk fun A ta ws vs hD hth hl => ?_
  intro t0 r0 t1 k1 t2 k2 t3 k3 t4 k4 t5 k5 t7 k7 t9 k9 t10 k10 t11 k11 t12 k12 t13 k13 t14 k14 t15 k15 d0 d1 d2 d3 d4 d5 d6 d7 d8 d9 d10 d11 f0 f1 f2 f3 f4 f5 f6 f7 f8 f9
  replace f3 := shm_38 f3
  rw [show v_iv (n_v vs 11) = 720 from by omega] at f3
  have hrf0 : 720 ≤ v_iv (n_v vs 15) ∧ v_iv (n_v vs 15) ≤ 5039 := vc_La_fillLow_4_r0 (v_iv (n_v vs 3)) (v_iv (n_v vs 4)) (v_iv (n_v vs 5)) (v_iv (n_v vs 7)) (v_iv (n_v vs 10)) (v_iv (n_v vs 12)) (v_iv (n_v vs 13)) (v_iv (n_v vs 14)) (v_iv (n_v vs 15)) k3 k4 k5 k7 k10 k12 k13 k14 k15 d1 d2 d8 (shm_12 f0) (shm_38 f1) (shm_12 f2) f3 (shm_1369 f8)
  have rf15 : tv_ok ta (0, 720, 5039, []) (n_v vs 15) := tv_in t15 (by first | omega | grind) (by first | omega | grind)
  refine ⟨List.forall_mem_cons.mpr ⟨rf15, (fun _ h => (by cases h))⟩, [], trivial, ?_, (fun _ h => (by cases h))⟩
  rw [List.append_nil]
  exact (fun _ h => (by cases h))
def n_La_fillLow_an : List an_T := [(31, [(0, (2, 0, 0, [4])), (1, (0, 1, 23, [])), (2, (0, 1, 720, [])), (3, (0, 2, 8, []))], [], (0, 0), [(0, 0, 99969), (1, 3, 8), (0, 0, 100000), (0, 0, 0), (0, 0, 0), (0, 0, 0), (0, 0, 0)], [], [], [], 0, [], [(20, [0], [60, 1, 1, 636, 2, 10]), (20, [1, 0], [50, 1, 0, 1002, 2, 6, 0, 2, 0, 0, 1, 0, 0, 6, 4, 2, 1, 0, 0, 1, 2, 1, 2])]), (51, [(0, (2, 0, 0, [4])), (1, (0, 1, 23, [])), (2, (0, 1, 720, [])), (3, (0, 2, 7, [])), (4, (0, 1, 120, [])), (5, (0, 0, 1559, []))], [], (0, 0), [(0, 0, 99969), (1, 3, 8), (0, 0, 99949), (1, 5, 1559), (0, 0, 100000), (0, 0, 0), (0, 0, 0)], [], [], [], 0, [], [(20, [0], [60, 1, 1, 636, 2, 10]), (20, [1, 0], [50, 1, 0, 1002, 2, 6, 0, 2, 0, 0, 1, 0, 0, 6, 4, 2, 1, 0, 0, 1, 2, 1, 2]), (20, [3], [50, 0, 0, 2, 6, 0, 2, 0, 2, 1, 0, 0, 2, 1, 0, 0, 6])]), (64, [(0, (2, 0, 0, [4])), (1, (0, 1, 23, [])), (2, (0, 1, 720, [])), (3, (0, 2, 7, [])), (4, (0, 1, 120, [])), (5, (0, 0, 719, [])), (6, (0, (Int.negSucc 2147483647), 1000000, [])), (7, (0, 0, 7, []))], [], (0, 0), [(0, 0, 99969), (1, 3, 8), (0, 0, 99949), (1, 5, 1559), (0, 0, 99936), (1, 7, 7), (0, 0, 100000)], [(5, 2, (Int.negSucc 999999999999), (Int.negSucc 0)), (7, 3, (Int.negSucc 999999999999), 0)], [], [], 0, [], [(20, [0], [60, 1, 1, 636, 2, 10]), (20, [1, 0], [50, 1, 0, 1002, 2, 6, 0, 2, 0, 0, 1, 0, 0, 6, 4, 2, 1, 0, 0, 1, 2, 1, 2]), (20, [3], [50, 0, 0, 2, 6, 0, 2, 0, 2, 1, 0, 0, 2, 1, 0, 0, 6]), (20, [5, 2], [50, 0, 0, 0, 6, 4, 2, 1, 0, 0, 1, 1, 1])])]
def t_La_fillLow_ct : ct_L := [(1, 181, e_La_sizeOf), (18, 85, e_La_countOrders_at_gx), (81, 219, e_acp_43), (132, 85, e_La_countOrders_at_gs), (282, 208, e_jMath_min1_v95), (282, 208, e_jMath_min1_v96)]
set_option maxRecDepth 100000 in
theorem c_La_fillLow {l : Launch} {D : va_G} {kA : Nat → ClassId} (h_La_countOrders_at_gs : ct_ok PRD l D kA GG y_La_countOrders_at_gs z_La_countOrders_at_gs e_La_countOrders_at_gs) (h_La_countOrders_at_gx : ct_ok PRD l D kA GG y_La_countOrders_at_gx z_La_countOrders_at_gx e_La_countOrders_at_gx) (h_La_sizeOf : ct_ok PRD l D kA GG y_La_sizeOf z_La_sizeOf e_La_sizeOf) : ct_ok PRD l D kA GG y_La_fillLow z_La_fillLow e_La_fillLow := chk_all_ok (FT := [(72, 4, 18), (75, 4, 19)]) (PT := []) (CT := t_La_fillLow_ct) (KT := [(0, 197, .int (1000000), (0, 1000000, 1000000, []))]) (NT := []) (AN := n_La_fillLow_an) (OT := [o_La_fillLow_0, o_La_fillLow_1, o_La_fillLow_2, o_La_fillLow_3, o_La_fillLow_4]) 7 308 (List.forall_mem_cons.mpr ⟨oo_La_fillLow_0, List.forall_mem_cons.mpr ⟨oo_La_fillLow_1, List.forall_mem_cons.mpr ⟨oo_La_fillLow_2, List.forall_mem_cons.mpr ⟨oo_La_fillLow_3, List.forall_mem_cons.mpr ⟨oo_La_fillLow_4, List.forall_mem_nil _⟩⟩⟩⟩⟩) (by decide +kernel) ⟨List.forall_mem_cons.mpr ⟨gf_La_72, List.forall_mem_cons.mpr ⟨gf_La_75, List.forall_mem_nil _⟩⟩, List.forall_mem_nil _, List.forall_mem_cons.mpr ⟨cl_virtual (y := y_La_sizeOf) (ci := 4) rfl rfl ⟨_, _, rfl⟩ (by decide +kernel) h_La_sizeOf wm_1382 wm_18 wm_1379 wm_1381 wv_5_4 ⟨by decide, by decide, by decide +kernel⟩ (by decide), List.forall_mem_cons.mpr ⟨cl_static (y := y_La_countOrders_at_gx) h_La_countOrders_at_gx wm_1233 wm_18 wm_1231 wm_1232 ⟨by decide, by decide, by decide +kernel⟩ (by decide), List.forall_mem_cons.mpr ⟨cl_copy rfl rfl (by decide) (by decide) (by decide) wm_1387 wm_750 wm_749 wm_15, List.forall_mem_cons.mpr ⟨cl_static (y := y_La_countOrders_at_gs) h_La_countOrders_at_gs wm_1233 wm_18 wm_1231 wm_1232 ⟨by decide, by decide, by decide +kernel⟩ (by decide), List.forall_mem_cons.mpr ⟨cl_static (y := y_jMath_min1) c_jMath_min1_v95 wm_658 wm_10 wm_1389 wm_657 ⟨by decide, by decide, by decide +kernel⟩ (by decide), List.forall_mem_cons.mpr ⟨cl_static (y := y_jMath_min1) c_jMath_min1_v96 wm_658 wm_10 wm_1389 wm_657 ⟨by decide, by decide, by decide +kernel⟩ (by decide), List.forall_mem_nil _⟩⟩⟩⟩⟩⟩, List.forall_mem_cons.mpr ⟨kx_La_0_197, List.forall_mem_nil _⟩, List.forall_mem_nil _, GG_pl⟩ (by decide +kernel)

set_option maxHeartbeats 4000000 in
theorem vc_La_firstBelow_0_0 (x1 : Int) (x3 : Int) (layerStart_0 : Int → Int) (k1 : 1 ≤ x1 ∧ x1 ≤ 23) (k3 : 0 ≤ x3 ∧ x3 ≤ 6) (f2 : x3 = (layerStart_0 ((x1 + 1)) - layerStart_0 (x1))) : x3 ≤ 6 := by
  first
    | omega
  
def o_La_firstBelow_0 : or_T := (21, 7, [(1, (0, 1, 23, [])), (3, (0, 0, 6, []))], [(20, [3, 0, 1], [50, 0, 1, 1010, 1, 2, 1, 0, 5, 9, 3, 1, 10, 4, 2, 1, 2, 0, 1, 3, 1, 10, 1, 2])], [], [], [(20, [3], [50, 0, 0, 0, 2, 1, 0, 0, 6]), (24, [0, 0], []), (24, [1, 1], [])], [], [])
theorem oo_La_firstBelow_0 {kA : Nat → ClassId} : or_ok PRD kA GG o_La_firstBelow_0 := by
  refine or_mk fun A ta ws vs hD hth hl => ?_
  intro t1 k1 t3 k3 f2
  have nf0 : fc_1 PRD (20, [3], [50, 0, 0, 0, 2, 1, 0, 0, 6]) ws (vs) := ⟨nf_in hl rfl, sgq_395 (vc_La_firstBelow_0_0 (v_iv (n_v vs 1)) (v_iv (n_v vs 3)) (w_ei ws (w_ar ws (n_v vs 0) 10)) k1 k3 (shm_399 f2))⟩
  have nf1 : fc_1 PRD (24, [0, 0], []) ws (vs) := by
    refine ⟨nf_in hl rfl, sgq_1 ?_⟩
    · show n_v vs 0 = n_v vs 0
      first | rfl | simp only [true_and]
  have nf2 : fc_1 PRD (24, [1, 1], []) ws (vs) := by
    refine ⟨nf_in hl rfl, sgq_1 ?_⟩
    · show n_v vs 1 = n_v vs 1
      first | rfl | simp only [true_and]
  refine ⟨(fun _ h => (by cases h)), [], trivial, ?_, (fun _ h => (by cases h))⟩
  rw [List.append_nil]
  exact List.forall_mem_cons.mpr ⟨⟨show (20 : Nat) < 100 from by decide, nf0⟩, List.forall_mem_cons.mpr ⟨⟨show (24 : Nat) < 100 from by decide, nf1⟩, List.forall_mem_cons.mpr ⟨⟨show (24 : Nat) < 100 from by decide, nf2⟩, (fun _ h => (by cases h))⟩⟩⟩
set_option maxHeartbeats 4000000 in
theorem vc_La_firstBelow_1_0 (x1 : Int) (x10 : Int) (layerStart_0 : Int → Int) (k1 : 1 ≤ x1 ∧ x1 ≤ 23) (k10 : 0 ≤ x10 ∧ x10 ≤ 0) : KLT (layerStart_0) (x1) (x10) := by
  first
    | exact klt_zero (by omega)
def o_La_firstBelow_1 : or_T := (81, 11, [(1, (0, 1, 23, [])), (10, (0, 0, 0, []))], [], [], [], [(20, [0, 1, 10], [60, 0, 1, 686, 10])], [], [])
theorem oo_La_firstBelow_1 {kA : Nat → ClassId} : or_ok PRD kA GG o_La_firstBelow_1 := by
  refine or_mk fun A ta ws vs hD hth hl => ?_
  intro t1 k1 t10 k10
  have nf0 : fc_1 PRD (20, [0, 1, 10], [60, 0, 1, 686, 10]) ws (vs) := ⟨nf_in hl rfl, sgq_1097 (vc_La_firstBelow_1_0 (v_iv (n_v vs 1)) (v_iv (n_v vs 10)) (w_ei ws (w_ar ws (n_v vs 0) 10)) k1 k10)⟩
  refine ⟨(fun _ h => (by cases h)), [], trivial, ?_, (fun _ h => (by cases h))⟩
  rw [List.append_nil]
  exact List.forall_mem_cons.mpr ⟨⟨show (20 : Nat) < 100 from by decide, nf0⟩, (fun _ h => (by cases h))⟩
set_option maxHeartbeats 4000000 in
theorem vc_La_firstBelow_2_0 (x6 : Int) (x7 : Int) (x8 : Int) (x9 : Int) (x16 : Int) (x17 : Int) (orders_0 : Int → Int) (k6 : 0 ≤ x6 ∧ x6 ≤ 6) (k7 : 0 ≤ x7 ∧ x7 ≤ 153) (k8 : 1 ≤ x8 ∧ x8 ≤ 720) (k9 : 0 ≤ x9 ∧ x9 ≤ 719) (k16 : 0 ≤ x16 ∧ x16 ≤ 872) (k17 : 0 ≤ x17 ∧ x17 ≤ 262143) (h0 : x17 = orders_0 (x16)) (f1 : x16 = x7 + x9) (f3 : x9 < x8) (f6 : ORD (orders_0)) (f8 : TBC (x6) (x8)) (f9 : TBS (x6) (x7)) (f10 : x6 ≤ 6) : OPD (x17) (x6) := by
  first
    | exact ord_opd2 ‹ORD orders_0› ‹TBC x6 x8› ‹TBS x6 x7› (by omega) (by omega) (by omega) (by omega) (by assumption) (by omega)
  
def o_La_firstBelow_2 : or_T := (63, 18, [(6, (0, 0, 6, [])), (7, (0, 0, 153, [])), (8, (0, 1, 720, [])), (9, (0, 0, 719, [])), (16, (0, 0, 872, [])), (17, (0, 0, 262143, []))], [(10, [17, 15, 16], []), (1, [16, 7, 9], []), (9, [15, 3], [17]), (7, [9, 8], [2]), (20, [3], [60, 0, 1, 648, 17]), (20, [6, 8], [61, 0, 684]), (20, [6, 7], [61, 0, 685]), (20, [6], [50, 0, 0, 0, 2, 1, 0, 0, 6]), (24, [0, 3], [])], [], [], [(20, [17, 6], [61, 0, 687])], [], [])
theorem oo_La_firstBelow_2 {kA : Nat → ClassId} : or_ok PRD kA GG o_La_firstBelow_2 := by
  refine or_mk fun A ta ws vs hD hth hl => ?_
  intro t6 k6 t7 k7 t8 k8 t9 k9 t16 k16 t17 k17 f0 f1 f2 f3 f6 f8 f9 f10 f11
  replace f0 := shm_107 f0
  replace f2 := shm_795 f2
  replace f6 := shm_1096 f6
  replace f11 := shm_5 f11
  have q3 : n_v vs 3 = n_v vs 0 := f11.symm
  simp only [q3] at f2 f6
  have ad_15 : v_ad (n_v vs 15) = w_ar ws (n_v vs 0) 17 := congrArg v_ad f2
  simp only [ad_15] at f0
  have h0 : v_iv (n_v vs 17) = w_ei ws (w_ar ws (n_v vs 0) 17) (v_iv (n_v vs 16)) := f0
  have nf0 : fc_1 PRD (20, [17, 6], [61, 0, 687]) ws (vs) := ⟨nf_in hl rfl, sgq_394 (vc_La_firstBelow_2_0 (v_iv (n_v vs 6)) (v_iv (n_v vs 7)) (v_iv (n_v vs 8)) (v_iv (n_v vs 9)) (v_iv (n_v vs 16)) (v_iv (n_v vs 17)) (w_ei ws (w_ar ws (n_v vs 0) 17)) k6 k7 k8 k9 k16 k17 h0 (shm_12 f1) (shm_6 f3) f6 (shm_1197 f8) (shm_1095 f9) (shm_395 f10))⟩
  refine ⟨(fun _ h => (by cases h)), [], trivial, ?_, (fun _ h => (by cases h))⟩
  rw [List.append_nil]
  exact List.forall_mem_cons.mpr ⟨⟨show (20 : Nat) < 100 from by decide, nf0⟩, (fun _ h => (by cases h))⟩
set_option maxHeartbeats 4000000 in
theorem vc_La_firstBelow_3_0 (x1 : Int) (x6 : Int) (x8 : Int) (x9 : Int) (layerStart_0 : Int → Int) (k1 : 1 ≤ x1 ∧ x1 ≤ 23) (k6 : 0 ≤ x6 ∧ x6 ≤ 6) (k8 : 1 ≤ x8 ∧ x8 ≤ 720) (k9 : 0 ≤ x9 ∧ x9 ≤ 719) (f4 : x9 < x8) (f8 : x6 = (layerStart_0 ((x1 + 1)) - layerStart_0 (x1))) (f9 : TBC (x6) (x8)) : KLT (layerStart_0) (x1) (x9) := by
  first
    | exact klt_tbc (by assumption) ‹TBC _ _› (by omega) (by omega)
def o_La_firstBelow_3 : or_T := (73, 20, [(1, (0, 1, 23, [])), (6, (0, 0, 6, [])), (8, (0, 1, 720, [])), (9, (0, 0, 719, []))], [(7, [9, 8], [2]), (20, [6, 3, 4], [50, 0, 1, 1010, 1, 2, 1, 0, 5, 9, 3, 1, 10, 4, 2, 1, 2, 0, 1, 3, 1, 10, 1, 2]), (20, [6, 8], [61, 0, 684]), (24, [0, 3], []), (24, [1, 4], [])], [], [], [(20, [0, 1, 9], [60, 0, 1, 686, 10])], [], [])
theorem oo_La_firstBelow_3 {kA : Nat → ClassId} : or_ok PRD kA GG o_La_firstBelow_3 := by
  refine or_mk fun A ta ws vs hD hth hl => ?_
  intro t1 k1 t6 k6 t8 k8 t9 k9 f4 f8 f9 f12 f13
  replace f8 := shm_399 f8
  replace f12 := shm_5 f12
  replace f13 := shm_5 f13
  have q3 : n_v vs 3 = n_v vs 0 := f12.symm
  have q4 : n_v vs 4 = n_v vs 1 := f13.symm
  simp only [q3, q4] at f8
  have nf0 : fc_1 PRD (20, [0, 1, 9], [60, 0, 1, 686, 10]) ws (vs) := ⟨nf_in hl rfl, sgq_1097 (vc_La_firstBelow_3_0 (v_iv (n_v vs 1)) (v_iv (n_v vs 6)) (v_iv (n_v vs 8)) (v_iv (n_v vs 9)) (w_ei ws (w_ar ws (n_v vs 0) 10)) k1 k6 k8 k9 (shm_6 f4) f8 (shm_1197 f9))⟩
  refine ⟨(fun _ h => (by cases h)), [], trivial, ?_, (fun _ h => (by cases h))⟩
  rw [List.append_nil]
  exact List.forall_mem_cons.mpr ⟨⟨show (20 : Nat) < 100 from by decide, nf0⟩, (fun _ h => (by cases h))⟩
def n_La_firstBelow_an : List an_T := [(21, [(0, (2, 0, 0, [4])), (1, (0, 1, 23, [])), (2, (0, (Int.negSucc 2147483647), 1000000, [])), (3, (0, 0, 6, [])), (4, (0, 0, 153, [])), (5, (0, 1, 720, [])), (6, (0, 0, 720, []))], [], (0, 0), [(0, 0, 99979), (1, 9, 720), (0, 0, 100000)], [(1, 4, (Int.negSucc 999999999999), 0), (2, 5, (Int.negSucc 999999999999), 0), (4, 1, (Int.negSucc 999999999999), 0), (5, 2, (Int.negSucc 999999999999), 0), (9, 8, (Int.negSucc 999999999999), 0)], [], [(2, 0, 0, [4]), (0, 1, 23, []), (0, (Int.negSucc 2147483647), 1000000, [])], 0, [], [(20, [3], [60, 1, 1, 636, 2, 10]), (20, [4, 3], [50, 1, 0, 1002, 2, 6, 0, 2, 0, 0, 1, 0, 0, 6, 4, 2, 1, 0, 0, 1, 2, 1, 2]), (20, [3], [60, 0, 1, 648, 17]), (20, [6, 3, 4], [50, 0, 1, 1010, 1, 2, 1, 0, 5, 9, 3, 1, 10, 4, 2, 1, 2, 0, 1, 3, 1, 10, 1, 2]), (20, [6, 8], [61, 0, 684]), (20, [6, 7], [61, 0, 685]), (20, [6], [50, 0, 0, 0, 2, 1, 0, 0, 6]), (24, [0, 3], []), (24, [1, 4], [])])]
def t_La_firstBelow_ct : ct_L := [(0, 211, e_La_firstOrder), (1, 181, e_La_sizeOf), (1, 230, e_La_pairCost), (42, 85, e_La_countOrders_at_gx)]
set_option maxRecDepth 100000 in
theorem c_La_firstBelow {l : Launch} {D : va_G} {kA : Nat → ClassId} (h_La_countOrders_at_gx : ct_ok PRD l D kA GG y_La_countOrders_at_gx z_La_countOrders_at_gx e_La_countOrders_at_gx) (h_La_firstOrder : ct_ok PRD l D kA GG y_La_firstOrder z_La_firstOrder e_La_firstOrder) (h_La_pairCost : ct_ok PRD l D kA GG y_La_pairCost z_La_pairCost e_La_pairCost) (h_La_sizeOf : ct_ok PRD l D kA GG y_La_sizeOf z_La_sizeOf e_La_sizeOf) : ct_ok PRD l D kA GG y_La_firstBelow z_La_firstBelow e_La_firstBelow := chk_all_ok (FT := [(69, 4, 17), (72, 4, 18)]) (PT := []) (CT := t_La_firstBelow_ct) (KT := []) (NT := []) (AN := n_La_firstBelow_an) (OT := [o_La_firstBelow_0, o_La_firstBelow_1, o_La_firstBelow_2, o_La_firstBelow_3]) 3 200 (List.forall_mem_cons.mpr ⟨oo_La_firstBelow_0, List.forall_mem_cons.mpr ⟨oo_La_firstBelow_1, List.forall_mem_cons.mpr ⟨oo_La_firstBelow_2, List.forall_mem_cons.mpr ⟨oo_La_firstBelow_3, List.forall_mem_nil _⟩⟩⟩⟩) (by decide +kernel) ⟨List.forall_mem_cons.mpr ⟨gf_La_69, List.forall_mem_cons.mpr ⟨gf_La_72, List.forall_mem_nil _⟩⟩, List.forall_mem_nil _, List.forall_mem_cons.mpr ⟨cl_static (y := y_La_firstOrder) h_La_firstOrder wm_1396 wm_18 wm_1394 wm_1395 ⟨by decide, by decide, by decide +kernel⟩ (by decide), List.forall_mem_cons.mpr ⟨cl_virtual (y := y_La_sizeOf) (ci := 4) rfl rfl ⟨_, _, rfl⟩ (by decide +kernel) h_La_sizeOf wm_1382 wm_18 wm_1379 wm_1381 wv_5_4 ⟨by decide, by decide, by decide +kernel⟩ (by decide), List.forall_mem_cons.mpr ⟨cl_virtual (y := y_La_pairCost) (ci := 4) rfl rfl ⟨_, _, rfl⟩ (by decide +kernel) h_La_pairCost wm_1424 wm_18 wm_1421 wm_1423 wv_5_12 ⟨by decide, by decide, by decide +kernel⟩ (by decide), List.forall_mem_cons.mpr ⟨cl_static (y := y_La_countOrders_at_gx) h_La_countOrders_at_gx wm_1233 wm_18 wm_1231 wm_1232 ⟨by decide, by decide, by decide +kernel⟩ (by decide), List.forall_mem_nil _⟩⟩⟩⟩, List.forall_mem_nil _, List.forall_mem_nil _, GG_pl⟩ (by decide +kernel)
set_option maxHeartbeats 4000000 in
theorem vc_La_seek_at_g1_0_r0 (x2 : Int) (x5 : Int) (k2 : 0 ≤ x2 ∧ x2 ≤ 63) (k5 : 0 ≤ x5 ∧ x5 ≤ 63) (f0 : BCT (x2) (x5)) (f1 : BL1 (x2)) : 0 ≤ x5 ∧ x5 ≤ 1 := by
  first
    | (have w := ‹BL1 _›; unfold BL1 BLe at w; have q := bc6_of ‹BCT _ _› w.1 w.2.1; omega)
    | (have w := ‹BL2 _›; unfold BL2 BLe at w; have q := bc6_of ‹BCT _ _› w.1 w.2.1; omega)
    | (have w := ‹BL3 _›; unfold BL3 BLe at w; have q := bc6_of ‹BCT _ _› w.1 w.2.1; omega)
    | (have w := ‹BL4 _›; unfold BL4 BLe at w; have q := bc6_of ‹BCT _ _› w.1 w.2.1; omega)
    | (have w := ‹BL5 _›; unfold BL5 BLe at w; have q := bc6_of ‹BCT _ _› w.1 w.2.1; omega)
    | (have w := ‹BL6 _›; unfold BL6 BLe at w; have q := bc6_of ‹BCT _ _› w.1 w.2.1; omega)
def o_La_seek_at_g1_0 : or_T := (4, 6, [(2, (0, 0, 63, [])), (5, (0, 0, 63, []))], [(20, [2, 5], [61, 0, 554]), (20, [2], [61, 0, 692])], [(5, (0, 0, 1, []))], [], [], [], [])
theorem oo_La_seek_at_g1_0 {kA : Nat → ClassId} : or_ok PRD kA GG o_La_seek_at_g1_0 := by
  refine or_mk fun A ta ws vs hD hth hl => ?_
  intro t2 k2 t5 k5 f0 f1
  have hrf0 : 0 ≤ v_iv (n_v vs 5) ∧ v_iv (n_v vs 5) ≤ 1 := vc_La_seek_at_g1_0_r0 (v_iv (n_v vs 2)) (v_iv (n_v vs 5)) k2 k5 (shm_15 f0) (shm_1370 f1)
  have rf5 : tv_ok ta (0, 0, 1, []) (n_v vs 5) := tv_in t5 (by first | omega | grind) (by first | omega | grind)
  refine ⟨List.forall_mem_cons.mpr ⟨rf5, (fun _ h => (by cases h))⟩, [], trivial, ?_, (fun _ h => (by cases h))⟩
  rw [List.append_nil]
  exact (fun _ h => (by cases h))
def n_La_seek_at_g1_an : List an_T := []
def t_La_seek_at_g1_ct : ct_L := [(6, 225, e_jInt_bitCount_v123), (81, 208, e_jMath_min1_v124)]
set_option maxRecDepth 100000 in
theorem c_La_seek_at_g1 {l : Launch} {D : va_G} {kA : Nat → ClassId} : ct_ok PRD l D kA GG y_La_seek_at_g1 z_La_seek_at_g1 e_La_seek_at_g1 := chk_all_ok (FT := [(75, 4, 19), (78, 4, 20)]) (PT := []) (CT := t_La_seek_at_g1_ct) (KT := []) (NT := []) (AN := n_La_seek_at_g1_an) (OT := [o_La_seek_at_g1_0]) 0 200 (List.forall_mem_cons.mpr ⟨oo_La_seek_at_g1_0, List.forall_mem_nil _⟩) (by decide +kernel) ⟨List.forall_mem_cons.mpr ⟨gf_La_75, List.forall_mem_cons.mpr ⟨gf_La_78, List.forall_mem_nil _⟩⟩, List.forall_mem_nil _, List.forall_mem_cons.mpr ⟨cl_static (y := y_jInt_bitCount) c_jInt_bitCount_v123 wm_870 wm_17 wm_1412 wm_869 ⟨by decide, by decide, by decide +kernel⟩ (by decide), List.forall_mem_cons.mpr ⟨cl_static (y := y_jMath_min1) c_jMath_min1_v124 wm_658 wm_10 wm_1389 wm_657 ⟨by decide, by decide, by decide +kernel⟩ (by decide), List.forall_mem_nil _⟩⟩, List.forall_mem_nil _, List.forall_mem_nil _, GG_pl⟩ (by decide +kernel)
set_option maxHeartbeats 4000000 in
theorem vc_La_seek_at_g2_0_r0 (x2 : Int) (x5 : Int) (k2 : 0 ≤ x2 ∧ x2 ≤ 63) (k5 : 0 ≤ x5 ∧ x5 ≤ 63) (f0 : BCT (x2) (x5)) (f1 : BL2 (x2)) : 0 ≤ x5 ∧ x5 ≤ 2 := by
  first
    | (have w := ‹BL1 _›; unfold BL1 BLe at w; have q := bc6_of ‹BCT _ _› w.1 w.2.1; omega)
    | (have w := ‹BL2 _›; unfold BL2 BLe at w; have q := bc6_of ‹BCT _ _› w.1 w.2.1; omega)
    | (have w := ‹BL3 _›; unfold BL3 BLe at w; have q := bc6_of ‹BCT _ _› w.1 w.2.1; omega)
    | (have w := ‹BL4 _›; unfold BL4 BLe at w; have q := bc6_of ‹BCT _ _› w.1 w.2.1; omega)
    | (have w := ‹BL5 _›; unfold BL5 BLe at w; have q := bc6_of ‹BCT _ _› w.1 w.2.1; omega)
    | (have w := ‹BL6 _›; unfold BL6 BLe at w; have q := bc6_of ‹BCT _ _› w.1 w.2.1; omega)
def o_La_seek_at_g2_0 : or_T := (4, 6, [(2, (0, 0, 63, [])), (5, (0, 0, 63, []))], [(20, [2, 5], [61, 0, 554]), (20, [2], [61, 0, 694])], [(5, (0, 0, 2, []))], [], [], [], [])
theorem oo_La_seek_at_g2_0 {kA : Nat → ClassId} : or_ok PRD kA GG o_La_seek_at_g2_0 := by
  refine or_mk fun A ta ws vs hD hth hl => ?_
  intro t2 k2 t5 k5 f0 f1
  have hrf0 : 0 ≤ v_iv (n_v vs 5) ∧ v_iv (n_v vs 5) ≤ 2 := vc_La_seek_at_g2_0_r0 (v_iv (n_v vs 2)) (v_iv (n_v vs 5)) k2 k5 (shm_15 f0) (shm_1371 f1)
  have rf5 : tv_ok ta (0, 0, 2, []) (n_v vs 5) := tv_in t5 (by first | omega | grind) (by first | omega | grind)
  refine ⟨List.forall_mem_cons.mpr ⟨rf5, (fun _ h => (by cases h))⟩, [], trivial, ?_, (fun _ h => (by cases h))⟩
  rw [List.append_nil]
  exact (fun _ h => (by cases h))
set_option maxHeartbeats 4000000 in
theorem vc_La_seek_at_g2_1_0 (x1 : Int) (x2 : Int) (x7 : Int) (k1 : 0 ≤ x1 ∧ x1 ≤ 718) (k2 : 0 ≤ x2 ∧ x2 ≤ 63) (k7 : 0 ≤ x7 ∧ x7 ≤ 0) : SK2 (x2) (x7) (x1) (x1) := by
  first
    | exact ske_start (by omega) (by omega)
set_option maxHeartbeats 4000000 in
theorem vc_La_seek_at_g2_1_1 (x2 : Int) (x5 : Int) (k2 : 0 ≤ x2 ∧ x2 ≤ 63) (k5 : 2 ≤ x5 ∧ x5 ≤ 2) (f1 : BCT (x2) (x5)) : PQ6 (x2) (x5) := by
  first
    | exact bc6_of ‹BCT _ _› (by omega) (by omega)
def o_La_seek_at_g2_1 : or_T := (40, 8, [(1, (0, 0, 718, [])), (2, (0, 0, 63, [])), (5, (0, 2, 2, [])), (7, (0, 0, 0, []))], [(20, [2, 5], [61, 0, 554])], [], [], [(20, [2, 7, 1, 1], [61, 0, 695]), (20, [2, 5], [61, 0, 704])], [], [])
theorem oo_La_seek_at_g2_1 {kA : Nat → ClassId} : or_ok PRD kA GG o_La_seek_at_g2_1 := by
  refine or_mk fun A ta ws vs hD hth hl => ?_
  intro t1 k1 t2 k2 t5 k5 t7 k7 f1
  have nf0 : fc_1 PRD (20, [2, 7, 1, 1], [61, 0, 695]) ws (vs) := ⟨nf_in hl rfl, sgq_1372 (vc_La_seek_at_g2_1_0 (v_iv (n_v vs 1)) (v_iv (n_v vs 2)) (v_iv (n_v vs 7)) k1 k2 k7)⟩
  have nf1 : fc_1 PRD (20, [2, 5], [61, 0, 704]) ws (vs) := ⟨nf_in hl rfl, sgq_1373 (vc_La_seek_at_g2_1_1 (v_iv (n_v vs 2)) (v_iv (n_v vs 5)) k2 k5 (shm_15 f1))⟩
  refine ⟨(fun _ h => (by cases h)), [], trivial, ?_, (fun _ h => (by cases h))⟩
  rw [List.append_nil]
  exact List.forall_mem_cons.mpr ⟨⟨show (20 : Nat) < 100 from by decide, nf0⟩, List.forall_mem_cons.mpr ⟨⟨show (20 : Nat) < 100 from by decide, nf1⟩, (fun _ h => (by cases h))⟩⟩
set_option maxHeartbeats 4000000 in
theorem vc_La_seek_at_g2_2_r0 (x1 : Int) (x2 : Int) (x7 : Int) (x8 : Int) (x10 : Int) (x11 : Int) (x12 : Int) (k1 : 0 ≤ x1 ∧ x1 ≤ 718) (k2 : 0 ≤ x2 ∧ x2 ≤ 63) (k7 : 0 ≤ x7 ∧ x7 ≤ 839) (k8 : 0 ≤ x8 ∧ x8 ≤ 5) (k10 : 0 ≤ x10 ∧ x10 ≤ 63) (k11 : 1 ≤ x11 ∧ x11 ≤ 1) (k12 : 1 ≤ x12 ∧ x12 ≤ 1) (d0 : x7 + (-4294967296) ≤ x1 ∧ x1 ≤ x7 + 0) (f6 : bvp (x12) = bvp (x10) &&& bvp (x11)) (f7 : bvp (x10) = bvp (x2) >>> (x8).toNat) (f9 : SK2 (x2) (x8) (x7) (x1)) (f10 : BL2 (x2)) : 0 ≤ x7 ∧ x7 ≤ 719 := by
  first
    | (have b := (bit_one (s := x2) (t := x10) (c := x12) (v := x8) (one := x11) (by assumption) (by assumption) (by omega) (by omega) (by omega) (by omega)).2 (by omega); have w := ske_room (show SKe 1 x2 x8 x7 x1 from ‹SK2 _ _ _ _›) (show BLe 2 x2 from ‹BL2 _›) (by omega) b (by omega); omega)
    | (have b : bit x2 x8 := ‹BBT _ _›; have w := ske_room (show SKe 1 x2 x8 x7 x1 from ‹SK2 _ _ _ _›) (show BLe 2 x2 from ‹BL2 _›) (by omega) b (by omega); omega)
    | (have b := (bit_one (s := x2) (t := x10) (c := x12) (v := x8) (one := x11) (by assumption) (by assumption) (by omega) (by omega) (by omega) (by omega)).2 (by omega); have w := ske_room (show SKe 2 x2 x8 x7 x1 from ‹SK3 _ _ _ _›) (show BLe 3 x2 from ‹BL3 _›) (by omega) b (by omega); omega)
    | (have b : bit x2 x8 := ‹BBT _ _›; have w := ske_room (show SKe 2 x2 x8 x7 x1 from ‹SK3 _ _ _ _›) (show BLe 3 x2 from ‹BL3 _›) (by omega) b (by omega); omega)
    | (have b := (bit_one (s := x2) (t := x10) (c := x12) (v := x8) (one := x11) (by assumption) (by assumption) (by omega) (by omega) (by omega) (by omega)).2 (by omega); have w := ske_room (show SKe 6 x2 x8 x7 x1 from ‹SK4 _ _ _ _›) (show BLe 4 x2 from ‹BL4 _›) (by omega) b (by omega); omega)
    | (have b : bit x2 x8 := ‹BBT _ _›; have w := ske_room (show SKe 6 x2 x8 x7 x1 from ‹SK4 _ _ _ _›) (show BLe 4 x2 from ‹BL4 _›) (by omega) b (by omega); omega)
    | (have b := (bit_one (s := x2) (t := x10) (c := x12) (v := x8) (one := x11) (by assumption) (by assumption) (by omega) (by omega) (by omega) (by omega)).2 (by omega); have w := ske_room (show SKe 24 x2 x8 x7 x1 from ‹SK5 _ _ _ _›) (show BLe 5 x2 from ‹BL5 _›) (by omega) b (by omega); omega)
    | (have b : bit x2 x8 := ‹BBT _ _›; have w := ske_room (show SKe 24 x2 x8 x7 x1 from ‹SK5 _ _ _ _›) (show BLe 5 x2 from ‹BL5 _›) (by omega) b (by omega); omega)
    | (have b := (bit_one (s := x2) (t := x10) (c := x12) (v := x8) (one := x11) (by assumption) (by assumption) (by omega) (by omega) (by omega) (by omega)).2 (by omega); have w := ske_room (show SKe 120 x2 x8 x7 x1 from ‹SK6 _ _ _ _›) (show BLe 6 x2 from ‹BL6 _›) (by omega) b (by omega); omega)
    | (have b : bit x2 x8 := ‹BBT _ _›; have w := ske_room (show SKe 120 x2 x8 x7 x1 from ‹SK6 _ _ _ _›) (show BLe 6 x2 from ‹BL6 _›) (by omega) b (by omega); omega)
def o_La_seek_at_g2_2 : or_T := (84, 23, [(1, (0, 0, 718, [])), (2, (0, 0, 63, [])), (5, (0, 2, 2, [])), (7, (0, 0, 839, [])), (8, (0, 0, 5, [])), (9, (0, 6, 6, [])), (10, (0, 0, 63, [])), (11, (0, 1, 1, [])), (12, (0, 1, 1, [])), (13, (0, 1, 1, [])), (14, (0, 1, 32, [])), (15, (0, -1, -1, [])), (16, (0, -2147483648, 2147483647, [])), (17, (0, 0, 63, [])), (19, (0, 1, 1, [])), (20, (0, 1, 1, []))], [(2, [20, 5, 19], []), (16, [17, 2, 16], [0]), (16, [16, 14, 15], [2]), (16, [14, 13, 8], [3]), (8, [12], [1]), (12, [12, 10], [2]), (16, [12, 10, 11], [0]), (16, [10, 2, 8], [4]), (7, [8, 9], [2]), (20, [2, 8, 7, 1], [61, 0, 695]), (20, [2], [61, 0, 694]), (20, [2, 5], [61, 0, 704])], [(7, (0, 0, 719, []))], [], [], [], [(1, 7, -4294967296, 0), (7, 8, -4294967296, 838)])
theorem oo_La_seek_at_g2_2 {kA : Nat → ClassId} : or_ok PRD kA GG o_La_seek_at_g2_2 := by
  refine or_mk fun A ta ws vs hD hth hl => ?_
  intro t1 k1 t2 k2 t5 k5 t7 k7 t8 k8 t9 k9 t10 k10 t11 k11 t12 k12 t13 k13 t14 k14 t15 k15 t16 k16 t17 k17 t19 k19 t20 k20 d0 d1 f0 f1 f2 f3 f4 f5 f6 f7 f8 f9 f10 f11
  have hrf0 : 0 ≤ v_iv (n_v vs 7) ∧ v_iv (n_v vs 7) ≤ 719 := vc_La_seek_at_g2_2_r0 (v_iv (n_v vs 1)) (v_iv (n_v vs 2)) (v_iv (n_v vs 7)) (v_iv (n_v vs 8)) (v_iv (n_v vs 10)) (v_iv (n_v vs 11)) (v_iv (n_v vs 12)) k1 k2 k7 k8 k10 k11 k12 d0 (shm_11 f6) (shm_13 f7) (shm_1374 f9) (shm_1371 f10)
  have rf7 : tv_ok ta (0, 0, 719, []) (n_v vs 7) := tv_in t7 (by first | omega | grind) (by first | omega | grind)
  refine ⟨List.forall_mem_cons.mpr ⟨rf7, (fun _ h => (by cases h))⟩, [], trivial, ?_, (fun _ h => (by cases h))⟩
  rw [List.append_nil]
  exact (fun _ h => (by cases h))
set_option maxHeartbeats 4000000 in
theorem vc_La_seek_at_g2_3_0 (x2 : Int) (x8 : Int) (x10 : Int) (x11 : Int) (x12 : Int) (x13 : Int) (x14 : Int) (x15 : Int) (x16 : Int) (x17 : Int) (k2 : 0 ≤ x2 ∧ x2 ≤ 63) (k8 : 0 ≤ x8 ∧ x8 ≤ 5) (k10 : 0 ≤ x10 ∧ x10 ≤ 63) (k11 : 1 ≤ x11 ∧ x11 ≤ 1) (k12 : 1 ≤ x12 ∧ x12 ≤ 1) (k13 : 1 ≤ x13 ∧ x13 ≤ 1) (k14 : 1 ≤ x14 ∧ x14 ≤ 32) (k15 : (-1) ≤ x15 ∧ x15 ≤ (-1)) (k16 : (-2147483648) ≤ x16 ∧ x16 ≤ 2147483647) (k17 : 0 ≤ x17 ∧ x17 ≤ 63) (f3 : bvp (x17) = bvp (x2) &&& bvp (x16)) (f4 : bvp (x16) = bvp (x14) ^^^ bvp (x15)) (f5 : bvp (x14) = bvp (x13) <<< (x8).toNat) (f8 : bvp (x12) = bvp (x10) &&& bvp (x11)) (f9 : bvp (x10) = bvp (x2) >>> (x8).toNat) (f12 : BL2 (x2)) : BL1 (x17) := by
  first
    | (have b := (bit_one (s := x2) (t := x10) (c := x12) (v := x8) (one := x11) (by assumption) (by assumption) (by omega) (by omega) (by omega) (by omega)).2 (by omega); exact ble_del1 (k := 2) (k_zq := 1) (x := x2) (q := x14) (r := x16) (m1 := x15) (a := x8) (one := x13) ‹BL2 _› (by omega) (by omega) b (by assumption) (by omega) (by assumption) (by omega) (by assumption) (by omega) (by omega) (by omega))
set_option maxHeartbeats 4000000 in
theorem vc_La_seek_at_g2_3_1 (x2 : Int) (x8 : Int) (x10 : Int) (x11 : Int) (x12 : Int) (k2 : 0 ≤ x2 ∧ x2 ≤ 63) (k8 : 0 ≤ x8 ∧ x8 ≤ 5) (k10 : 0 ≤ x10 ∧ x10 ≤ 63) (k11 : 1 ≤ x11 ∧ x11 ≤ 1) (k12 : 1 ≤ x12 ∧ x12 ≤ 1) (f8 : bvp (x12) = bvp (x10) &&& bvp (x11)) (f9 : bvp (x10) = bvp (x2) >>> (x8).toNat) : BBT (x2) (x8) := by
  first
    | (have b := (bit_one (s := x2) (t := x10) (c := x12) (v := x8) (one := x11) (by assumption) (by assumption) (by omega) (by omega) (by omega) (by omega)).2 (by omega); exact b)
def o_La_seek_at_g2_3 : or_T := (92, 27, [(2, (0, 0, 63, [])), (8, (0, 0, 5, [])), (10, (0, 0, 63, [])), (11, (0, 1, 1, [])), (12, (0, 1, 1, [])), (13, (0, 1, 1, [])), (14, (0, 1, 32, [])), (15, (0, -1, -1, [])), (16, (0, -2147483648, 2147483647, [])), (17, (0, 0, 63, []))], [(16, [17, 2, 16], [0]), (16, [16, 14, 15], [2]), (16, [14, 13, 8], [3]), (16, [12, 10, 11], [0]), (16, [10, 2, 8], [4]), (20, [2], [61, 0, 694])], [], [], [(20, [17], [61, 0, 692]), (20, [2, 8], [61, 0, 705])], [], [])
theorem oo_La_seek_at_g2_3 {kA : Nat → ClassId} : or_ok PRD kA GG o_La_seek_at_g2_3 := by
  refine or_mk fun A ta ws vs hD hth hl => ?_
  intro t2 k2 t8 k8 t10 k10 t11 k11 t12 k12 t13 k13 t14 k14 t15 k15 t16 k16 t17 k17 f3 f4 f5 f8 f9 f12
  have nf0 : fc_1 PRD (20, [17], [61, 0, 692]) ws (vs) := ⟨nf_in hl rfl, sgq_1370 (vc_La_seek_at_g2_3_0 (v_iv (n_v vs 2)) (v_iv (n_v vs 8)) (v_iv (n_v vs 10)) (v_iv (n_v vs 11)) (v_iv (n_v vs 12)) (v_iv (n_v vs 13)) (v_iv (n_v vs 14)) (v_iv (n_v vs 15)) (v_iv (n_v vs 16)) (v_iv (n_v vs 17)) k2 k8 k10 k11 k12 k13 k14 k15 k16 k17 (shm_11 f3) (shm_33 f4) (shm_349 f5) (shm_11 f8) (shm_13 f9) (shm_1371 f12))⟩
  have nf1 : fc_1 PRD (20, [2, 8], [61, 0, 705]) ws (vs) := ⟨nf_in hl rfl, sgq_1083 (vc_La_seek_at_g2_3_1 (v_iv (n_v vs 2)) (v_iv (n_v vs 8)) (v_iv (n_v vs 10)) (v_iv (n_v vs 11)) (v_iv (n_v vs 12)) k2 k8 k10 k11 k12 (shm_11 f8) (shm_13 f9))⟩
  refine ⟨(fun _ h => (by cases h)), [], trivial, ?_, (fun _ h => (by cases h))⟩
  rw [List.append_nil]
  exact List.forall_mem_cons.mpr ⟨⟨show (20 : Nat) < 100 from by decide, nf0⟩, List.forall_mem_cons.mpr ⟨⟨show (20 : Nat) < 100 from by decide, nf1⟩, (fun _ h => (by cases h))⟩⟩
set_option maxHeartbeats 4000000 in
theorem vc_La_seek_at_g2_4_0 (x1 : Int) (x2 : Int) (x7 : Int) (x8 : Int) (x13 : Int) (k1 : 0 ≤ x1 ∧ x1 ≤ 718) (k2 : 0 ≤ x2 ∧ x2 ≤ 63) (k7 : 0 ≤ x7 ∧ x7 ≤ 839) (k8 : 0 ≤ x8 ∧ x8 ≤ 5) (k13 : 1 ≤ x13 ∧ x13 ≤ 6) (d0 : x8 + 1 ≤ x13 ∧ x13 ≤ x8 + 1) (f0 : x13 = x8 + 1) (f6 : SK2 (x2) (x8) (x7) (x1)) : SK2 (x2) (x13) (x7) (x1) := by
  first
    | exact ske_skip (show SKe 1 x2 x8 x7 x1 from ‹SK2 _ _ _ _›) (by omega) (by omega) (by omega)
def o_La_seek_at_g2_4 : or_T := (40, 14, [(1, (0, 0, 718, [])), (2, (0, 0, 63, [])), (7, (0, 0, 839, [])), (8, (0, 0, 5, [])), (13, (0, 1, 6, []))], [(6, [13, 8], [1]), (20, [2, 8, 7, 1], [61, 0, 695])], [], [], [(20, [2, 13, 7, 1], [61, 0, 695])], [], [(13, 8, 1, 1)])
theorem oo_La_seek_at_g2_4 {kA : Nat → ClassId} : or_ok PRD kA GG o_La_seek_at_g2_4 := by
  refine or_mk fun A ta ws vs hD hth hl => ?_
  intro t1 k1 t2 k2 t7 k7 t8 k8 t13 k13 d0 f0 f6
  have nf0 : fc_1 PRD (20, [2, 13, 7, 1], [61, 0, 695]) ws (vs) := ⟨nf_in hl rfl, sgq_1374 (vc_La_seek_at_g2_4_0 (v_iv (n_v vs 1)) (v_iv (n_v vs 2)) (v_iv (n_v vs 7)) (v_iv (n_v vs 8)) (v_iv (n_v vs 13)) k1 k2 k7 k8 k13 d0 (shm_4 f0) (shm_1374 f6))⟩
  refine ⟨(fun _ h => (by cases h)), [], trivial, ?_, (fun _ h => (by cases h))⟩
  rw [List.append_nil]
  exact List.forall_mem_cons.mpr ⟨⟨show (20 : Nat) < 100 from by decide, nf0⟩, (fun _ h => (by cases h))⟩
set_option maxHeartbeats 4000000 in
theorem vc_La_seek_at_g2_5_0 (x1 : Int) (x2 : Int) (x5 : Int) (x7 : Int) (x8 : Int) (x13 : Int) (x14 : Int) (x15 : Int) (x16 : Int) (x17 : Int) (k1 : 0 ≤ x1 ∧ x1 ≤ 718) (k2 : 0 ≤ x2 ∧ x2 ≤ 63) (k5 : 2 ≤ x5 ∧ x5 ≤ 2) (k7 : 0 ≤ x7 ∧ x7 ≤ 719) (k8 : 0 ≤ x8 ∧ x8 ≤ 5) (k13 : 1 ≤ x13 ∧ x13 ≤ 1) (k14 : 1 ≤ x14 ∧ x14 ≤ 1) (k15 : 1 ≤ x15 ∧ x15 ≤ 120) (k16 : 1 ≤ x16 ∧ x16 ≤ 839) (k17 : 1 ≤ x17 ∧ x17 ≤ 6) (d0 : x8 + 1 ≤ x17 ∧ x17 ≤ x8 + 1) (f0 : x17 = x8 + 1) (f1 : x16 = x7 + x15) (f2 : TBC (x14) (x15)) (f3 : x14 = x5 - x13) (f4 : SK2 (x2) (x8) (x7) (x1)) (f5 : BL2 (x2)) (f6 : PQ6 (x2) (x5)) (f8 : BBT (x2) (x8)) : SK2 (x2) (x17) (x16) (x1) := by
  first
    | exact ske_step (v := x15) (show SKe 1 x2 x8 x7 x1 from ‹SK2 _ _ _ _›) (by omega) ‹BBT _ _› (tbc_cap (n := x14) (k := 1) (by assumption) (pq6_cap (k := 2) (one := x13) ‹BL2 _› ‹PQ6 _ _› (by assumption) (by omega)) (by decide)) (by omega) (by omega) (by omega)
    | exact ske_step (v := x24) (show SKe 1 x2 x8 x7 x1 from ‹SK2 _ _ _ _›) (by omega) ‹BBT _ _› (tbc_cap (n := x23) (k := 1) (by assumption) (pq6_cap (k := 2) (one := x22) ‹BL2 _› ‹PQ6 _ _› (by assumption) (by omega)) (by decide)) (by omega) (by omega) (by omega)
def o_La_seek_at_g2_5 : or_T := (40, 18, [(1, (0, 0, 718, [])), (2, (0, 0, 63, [])), (5, (0, 2, 2, [])), (7, (0, 0, 719, [])), (8, (0, 0, 5, [])), (13, (0, 1, 1, [])), (14, (0, 1, 1, [])), (15, (0, 1, 120, [])), (16, (0, 1, 839, [])), (17, (0, 1, 6, []))], [(6, [17, 8], [1]), (1, [16, 7, 15], []), (20, [14, 15], [61, 0, 684]), (2, [14, 5, 13], []), (20, [2, 8, 7, 1], [61, 0, 695]), (20, [2], [61, 0, 694]), (20, [2, 5], [61, 0, 704]), (20, [2, 8], [61, 0, 705])], [], [], [(20, [2, 17, 16, 1], [61, 0, 695])], [], [(17, 8, 1, 1)])
theorem oo_La_seek_at_g2_5 {kA : Nat → ClassId} : or_ok PRD kA GG o_La_seek_at_g2_5 := by
  refine or_mk fun A ta ws vs hD hth hl => ?_
  intro t1 k1 t2 k2 t5 k5 t7 k7 t8 k8 t13 k13 t14 k14 t15 k15 t16 k16 t17 k17 d0 f0 f1 f2 f3 f4 f5 f6 f8
  have nf0 : fc_1 PRD (20, [2, 17, 16, 1], [61, 0, 695]) ws (vs) := ⟨nf_in hl rfl, sgq_1374 (vc_La_seek_at_g2_5_0 (v_iv (n_v vs 1)) (v_iv (n_v vs 2)) (v_iv (n_v vs 5)) (v_iv (n_v vs 7)) (v_iv (n_v vs 8)) (v_iv (n_v vs 13)) (v_iv (n_v vs 14)) (v_iv (n_v vs 15)) (v_iv (n_v vs 16)) (v_iv (n_v vs 17)) k1 k2 k5 k7 k8 k13 k14 k15 k16 k17 d0 (shm_4 f0) (shm_12 f1) (shm_1197 f2) (shm_14 f3) (shm_1374 f4) (shm_1371 f5) (shm_1373 f6) (shm_1083 f8))⟩
  refine ⟨(fun _ h => (by cases h)), [], trivial, ?_, (fun _ h => (by cases h))⟩
  rw [List.append_nil]
  exact List.forall_mem_cons.mpr ⟨⟨show (20 : Nat) < 100 from by decide, nf0⟩, (fun _ h => (by cases h))⟩
set_option maxHeartbeats 4000000 in
theorem vc_La_seek_at_g2_6_0 (x1 : Int) (x2 : Int) (x5 : Int) (x7 : Int) (x8 : Int) (x14 : Int) (x15 : Int) (x22 : Int) (x23 : Int) (x24 : Int) (x25 : Int) (x26 : Int) (k1 : 0 ≤ x1 ∧ x1 ≤ 718) (k2 : 0 ≤ x2 ∧ x2 ≤ 63) (k5 : 2 ≤ x5 ∧ x5 ≤ 2) (k7 : 0 ≤ x7 ∧ x7 ≤ 719) (k8 : 0 ≤ x8 ∧ x8 ≤ 5) (k22 : 1 ≤ x22 ∧ x22 ≤ 1) (k23 : 1 ≤ x23 ∧ x23 ≤ 1) (k24 : 1 ≤ x24 ∧ x24 ≤ 120) (k25 : 1 ≤ x25 ∧ x25 ≤ 839) (k26 : 1 ≤ x26 ∧ x26 ≤ 6) (d0 : x8 + 1 ≤ x26 ∧ x26 ≤ x8 + 1) (f0 : x26 = x8 + 1) (f1 : x25 = x7 + x24) (f2 : TBC (x23) (x24)) (f3 : x23 = x5 - x22) (f7 : SK2 (x2) (x8) (x7) (x1)) (f8 : BL2 (x2)) (f9 : PQ6 (x2) (x5)) (f11 : BBT (x2) (x8)) : SK2 (x2) (x26) (x25) (x1) := by
  first
    | exact ske_step (v := x15) (show SKe 1 x2 x8 x7 x1 from ‹SK2 _ _ _ _›) (by omega) ‹BBT _ _› (tbc_cap (n := x14) (k := 1) (by assumption) (pq6_cap (k := 2) (one := x13) ‹BL2 _› ‹PQ6 _ _› (by assumption) (by omega)) (by decide)) (by omega) (by omega) (by omega)
    | exact ske_step (v := x24) (show SKe 1 x2 x8 x7 x1 from ‹SK2 _ _ _ _›) (by omega) ‹BBT _ _› (tbc_cap (n := x23) (k := 1) (by assumption) (pq6_cap (k := 2) (one := x22) ‹BL2 _› ‹PQ6 _ _› (by assumption) (by omega)) (by decide)) (by omega) (by omega) (by omega)
def o_La_seek_at_g2_6 : or_T := (40, 27, [(1, (0, 0, 718, [])), (2, (0, 0, 63, [])), (5, (0, 2, 2, [])), (7, (0, 0, 719, [])), (8, (0, 0, 5, [])), (22, (0, 1, 1, [])), (23, (0, 1, 1, [])), (24, (0, 1, 120, [])), (25, (0, 1, 839, [])), (26, (0, 1, 6, []))], [(6, [26, 8], [1]), (1, [25, 7, 24], []), (20, [23, 24], [61, 0, 684]), (2, [23, 5, 22], []), (20, [2, 8, 7, 1], [61, 0, 695]), (20, [2], [61, 0, 694]), (20, [2, 5], [61, 0, 704]), (20, [2, 8], [61, 0, 705])], [], [], [(20, [2, 26, 25, 1], [61, 0, 695])], [], [(26, 8, 1, 1)])
theorem oo_La_seek_at_g2_6 {kA : Nat → ClassId} : or_ok PRD kA GG o_La_seek_at_g2_6 := by
  refine or_mk fun A ta ws vs hD hth hl => ?_
  intro t1 k1 t2 k2 t5 k5 t7 k7 t8 k8 t22 k22 t23 k23 t24 k24 t25 k25 t26 k26 d0 f0 f1 f2 f3 f7 f8 f9 f11
  have nf0 : fc_1 PRD (20, [2, 26, 25, 1], [61, 0, 695]) ws (vs) := ⟨nf_in hl rfl, sgq_1374 (vc_La_seek_at_g2_6_0 (v_iv (n_v vs 1)) (v_iv (n_v vs 2)) (v_iv (n_v vs 5)) (v_iv (n_v vs 7)) (v_iv (n_v vs 8)) (v_iv (n_v vs 14)) (v_iv (n_v vs 15)) (v_iv (n_v vs 22)) (v_iv (n_v vs 23)) (v_iv (n_v vs 24)) (v_iv (n_v vs 25)) (v_iv (n_v vs 26)) k1 k2 k5 k7 k8 k22 k23 k24 k25 k26 d0 (shm_4 f0) (shm_12 f1) (shm_1197 f2) (shm_14 f3) (shm_1374 f7) (shm_1371 f8) (shm_1373 f9) (shm_1083 f11))⟩
  refine ⟨(fun _ h => (by cases h)), [], trivial, ?_, (fun _ h => (by cases h))⟩
  rw [List.append_nil]
  exact List.forall_mem_cons.mpr ⟨⟨show (20 : Nat) < 100 from by decide, nf0⟩, (fun _ h => (by cases h))⟩
def n_La_seek_at_g2_an : List an_T := [(40, [(0, (2, 0, 0, [4])), (1, (0, 0, 718, [])), (2, (0, 0, 63, [])), (3, (0, (Int.negSucc 2147483647), 2147483647, [])), (4, (0, (Int.negSucc 2147483646), 1000000, [])), (5, (0, 2, 2, [])), (6, (0, (Int.negSucc 2147483647), 1000000, [])), (7, (0, 0, 839, [])), (8, (0, 0, 6, []))], [], (0, 0), [(0, 0, 99960), (1, 8, 6), (0, 0, 100000), (0, 0, 0), (0, 0, 0)], [(1, 7, (Int.negSucc 999999999999), 0), (7, 8, (Int.negSucc 999999999999), 838)], [], [], 0, [], [(20, [2, 8, 7, 1], [61, 0, 695]), (20, [2], [61, 0, 694]), (20, [2, 5], [61, 0, 704])]), (92, [(0, (2, 0, 0, [4])), (1, (0, 0, 718, [])), (2, (0, 0, 63, [])), (3, (0, (Int.negSucc 2147483647), 2147483647, [])), (4, (0, (Int.negSucc 2147483646), 1000000, [])), (5, (0, 2, 2, [])), (6, (0, (Int.negSucc 2147483647), 1000000, [])), (7, (0, 0, 719, [])), (8, (0, 0, 5, [])), (9, (0, 0, 63, [])), (10, (0, (Int.negSucc 2147483647), 2147483647, [])), (11, (0, 0, 6, []))], [], (0, 0), [(0, 0, 99960), (1, 8, 6), (0, 0, 99908), (1, 11, 6), (0, 0, 100000)], [(1, 7, (Int.negSucc 999999999999), 0)], [], [], 0, [], [(20, [2, 8, 7, 1], [61, 0, 695]), (20, [2], [61, 0, 694]), (20, [2, 5], [61, 0, 704]), (20, [9], [61, 0, 692]), (20, [2, 8], [61, 0, 705])])]
def t_La_seek_at_g2_ct : ct_L := [(6, 225, e_jInt_bitCount_v123), (81, 208, e_jMath_min1_v124), (523, 198, e_La_seek_at_g1), (555, 85, e_La_countOrders_at_gk)]
set_option maxRecDepth 100000 in
theorem c_La_seek_at_g2 {l : Launch} {D : va_G} {kA : Nat → ClassId} (h_La_countOrders_at_gk : ct_ok PRD l D kA GG y_La_countOrders_at_gk z_La_countOrders_at_gk e_La_countOrders_at_gk) (h_La_seek_at_g1 : ct_ok PRD l D kA GG y_La_seek_at_g1 z_La_seek_at_g1 e_La_seek_at_g1) : ct_ok PRD l D kA GG y_La_seek_at_g2 z_La_seek_at_g2 e_La_seek_at_g2 := chk_all_ok (FT := [(75, 4, 19), (78, 4, 20)]) (PT := []) (CT := t_La_seek_at_g2_ct) (KT := []) (NT := []) (AN := n_La_seek_at_g2_an) (OT := [o_La_seek_at_g2_0, o_La_seek_at_g2_1, o_La_seek_at_g2_2, o_La_seek_at_g2_3, o_La_seek_at_g2_4, o_La_seek_at_g2_5, o_La_seek_at_g2_6]) 5 660 (List.forall_mem_cons.mpr ⟨oo_La_seek_at_g2_0, List.forall_mem_cons.mpr ⟨oo_La_seek_at_g2_1, List.forall_mem_cons.mpr ⟨oo_La_seek_at_g2_2, List.forall_mem_cons.mpr ⟨oo_La_seek_at_g2_3, List.forall_mem_cons.mpr ⟨oo_La_seek_at_g2_4, List.forall_mem_cons.mpr ⟨oo_La_seek_at_g2_5, List.forall_mem_cons.mpr ⟨oo_La_seek_at_g2_6, List.forall_mem_nil _⟩⟩⟩⟩⟩⟩⟩) (by decide +kernel) ⟨List.forall_mem_cons.mpr ⟨gf_La_75, List.forall_mem_cons.mpr ⟨gf_La_78, List.forall_mem_nil _⟩⟩, List.forall_mem_nil _, List.forall_mem_cons.mpr ⟨cl_static (y := y_jInt_bitCount) c_jInt_bitCount_v123 wm_870 wm_17 wm_1412 wm_869 ⟨by decide, by decide, by decide +kernel⟩ (by decide), List.forall_mem_cons.mpr ⟨cl_static (y := y_jMath_min1) c_jMath_min1_v124 wm_658 wm_10 wm_1389 wm_657 ⟨by decide, by decide, by decide +kernel⟩ (by decide), List.forall_mem_cons.mpr ⟨cl_virtual (y := y_La_seek_at_g1) (ci := 4) rfl rfl ⟨_, _, rfl⟩ (by decide +kernel) h_La_seek_at_g1 wm_1411 wm_18 wm_1408 wm_1410 wv_5_9 ⟨by decide, by decide, by decide +kernel⟩ (by decide), List.forall_mem_cons.mpr ⟨cl_static (y := y_La_countOrders_at_gk) h_La_countOrders_at_gk wm_1233 wm_18 wm_1231 wm_1232 ⟨by decide, by decide, by decide +kernel⟩ (by decide), List.forall_mem_nil _⟩⟩⟩⟩, List.forall_mem_nil _, List.forall_mem_nil _, GG_pl⟩ (by decide +kernel)
set_option maxHeartbeats 4000000 in
theorem vc_La_seek_at_g3_0_r0 (x2 : Int) (x5 : Int) (k2 : 0 ≤ x2 ∧ x2 ≤ 63) (k5 : 0 ≤ x5 ∧ x5 ≤ 63) (f0 : BCT (x2) (x5)) (f1 : BL3 (x2)) : 0 ≤ x5 ∧ x5 ≤ 3 := by
  first
    | (have w := ‹BL1 _›; unfold BL1 BLe at w; have q := bc6_of ‹BCT _ _› w.1 w.2.1; omega)
    | (have w := ‹BL2 _›; unfold BL2 BLe at w; have q := bc6_of ‹BCT _ _› w.1 w.2.1; omega)
    | (have w := ‹BL3 _›; unfold BL3 BLe at w; have q := bc6_of ‹BCT _ _› w.1 w.2.1; omega)
    | (have w := ‹BL4 _›; unfold BL4 BLe at w; have q := bc6_of ‹BCT _ _› w.1 w.2.1; omega)
    | (have w := ‹BL5 _›; unfold BL5 BLe at w; have q := bc6_of ‹BCT _ _› w.1 w.2.1; omega)
    | (have w := ‹BL6 _›; unfold BL6 BLe at w; have q := bc6_of ‹BCT _ _› w.1 w.2.1; omega)
def o_La_seek_at_g3_0 : or_T := (4, 6, [(2, (0, 0, 63, [])), (5, (0, 0, 63, []))], [(20, [2, 5], [61, 0, 554]), (20, [2], [61, 0, 696])], [(5, (0, 0, 3, []))], [], [], [], [])
theorem oo_La_seek_at_g3_0 {kA : Nat → ClassId} : or_ok PRD kA GG o_La_seek_at_g3_0 := by
  refine or_mk fun A ta ws vs hD hth hl => ?_
  intro t2 k2 t5 k5 f0 f1
  have hrf0 : 0 ≤ v_iv (n_v vs 5) ∧ v_iv (n_v vs 5) ≤ 3 := vc_La_seek_at_g3_0_r0 (v_iv (n_v vs 2)) (v_iv (n_v vs 5)) k2 k5 (shm_15 f0) (shm_1375 f1)
  have rf5 : tv_ok ta (0, 0, 3, []) (n_v vs 5) := tv_in t5 (by first | omega | grind) (by first | omega | grind)
  refine ⟨List.forall_mem_cons.mpr ⟨rf5, (fun _ h => (by cases h))⟩, [], trivial, ?_, (fun _ h => (by cases h))⟩
  rw [List.append_nil]
  exact (fun _ h => (by cases h))
set_option maxHeartbeats 4000000 in
theorem vc_La_seek_at_g3_1_0 (x1 : Int) (x2 : Int) (x7 : Int) (k1 : 0 ≤ x1 ∧ x1 ≤ 714) (k2 : 0 ≤ x2 ∧ x2 ≤ 63) (k7 : 0 ≤ x7 ∧ x7 ≤ 0) : SK3 (x2) (x7) (x1) (x1) := by
  first
    | exact ske_start (by omega) (by omega)
set_option maxHeartbeats 4000000 in
theorem vc_La_seek_at_g3_1_1 (x2 : Int) (x5 : Int) (k2 : 0 ≤ x2 ∧ x2 ≤ 63) (k5 : 2 ≤ x5 ∧ x5 ≤ 3) (f1 : BCT (x2) (x5)) : PQ6 (x2) (x5) := by
  first
    | exact bc6_of ‹BCT _ _› (by omega) (by omega)
def o_La_seek_at_g3_1 : or_T := (40, 8, [(1, (0, 0, 714, [])), (2, (0, 0, 63, [])), (5, (0, 2, 3, [])), (7, (0, 0, 0, []))], [(20, [2, 5], [61, 0, 554])], [], [], [(20, [2, 7, 1, 1], [61, 0, 697]), (20, [2, 5], [61, 0, 704])], [], [])
theorem oo_La_seek_at_g3_1 {kA : Nat → ClassId} : or_ok PRD kA GG o_La_seek_at_g3_1 := by
  refine or_mk fun A ta ws vs hD hth hl => ?_
  intro t1 k1 t2 k2 t5 k5 t7 k7 f1
  have nf0 : fc_1 PRD (20, [2, 7, 1, 1], [61, 0, 697]) ws (vs) := ⟨nf_in hl rfl, sgq_1376 (vc_La_seek_at_g3_1_0 (v_iv (n_v vs 1)) (v_iv (n_v vs 2)) (v_iv (n_v vs 7)) k1 k2 k7)⟩
  have nf1 : fc_1 PRD (20, [2, 5], [61, 0, 704]) ws (vs) := ⟨nf_in hl rfl, sgq_1373 (vc_La_seek_at_g3_1_1 (v_iv (n_v vs 2)) (v_iv (n_v vs 5)) k2 k5 (shm_15 f1))⟩
  refine ⟨(fun _ h => (by cases h)), [], trivial, ?_, (fun _ h => (by cases h))⟩
  rw [List.append_nil]
  exact List.forall_mem_cons.mpr ⟨⟨show (20 : Nat) < 100 from by decide, nf0⟩, List.forall_mem_cons.mpr ⟨⟨show (20 : Nat) < 100 from by decide, nf1⟩, (fun _ h => (by cases h))⟩⟩
set_option maxHeartbeats 4000000 in
theorem vc_La_seek_at_g3_2_r0 (x1 : Int) (x2 : Int) (x7 : Int) (x8 : Int) (x10 : Int) (x11 : Int) (x12 : Int) (k1 : 0 ≤ x1 ∧ x1 ≤ 714) (k2 : 0 ≤ x2 ∧ x2 ≤ 63) (k7 : 0 ≤ x7 ∧ x7 ≤ 838) (k8 : 0 ≤ x8 ∧ x8 ≤ 5) (k10 : 0 ≤ x10 ∧ x10 ≤ 63) (k11 : 1 ≤ x11 ∧ x11 ≤ 1) (k12 : 1 ≤ x12 ∧ x12 ≤ 1) (d1 : x7 + (-4294967296) ≤ x1 ∧ x1 ≤ x7 + 0) (f6 : bvp (x12) = bvp (x10) &&& bvp (x11)) (f7 : bvp (x10) = bvp (x2) >>> (x8).toNat) (f9 : SK3 (x2) (x8) (x7) (x1)) (f10 : BL3 (x2)) : 0 ≤ x7 ∧ x7 ≤ 718 := by
  first
    | (have b := (bit_one (s := x2) (t := x10) (c := x12) (v := x8) (one := x11) (by assumption) (by assumption) (by omega) (by omega) (by omega) (by omega)).2 (by omega); have w := ske_room (show SKe 1 x2 x8 x7 x1 from ‹SK2 _ _ _ _›) (show BLe 2 x2 from ‹BL2 _›) (by omega) b (by omega); omega)
    | (have b : bit x2 x8 := ‹BBT _ _›; have w := ske_room (show SKe 1 x2 x8 x7 x1 from ‹SK2 _ _ _ _›) (show BLe 2 x2 from ‹BL2 _›) (by omega) b (by omega); omega)
    | (have b := (bit_one (s := x2) (t := x10) (c := x12) (v := x8) (one := x11) (by assumption) (by assumption) (by omega) (by omega) (by omega) (by omega)).2 (by omega); have w := ske_room (show SKe 2 x2 x8 x7 x1 from ‹SK3 _ _ _ _›) (show BLe 3 x2 from ‹BL3 _›) (by omega) b (by omega); omega)
    | (have b : bit x2 x8 := ‹BBT _ _›; have w := ske_room (show SKe 2 x2 x8 x7 x1 from ‹SK3 _ _ _ _›) (show BLe 3 x2 from ‹BL3 _›) (by omega) b (by omega); omega)
    | (have b := (bit_one (s := x2) (t := x10) (c := x12) (v := x8) (one := x11) (by assumption) (by assumption) (by omega) (by omega) (by omega) (by omega)).2 (by omega); have w := ske_room (show SKe 6 x2 x8 x7 x1 from ‹SK4 _ _ _ _›) (show BLe 4 x2 from ‹BL4 _›) (by omega) b (by omega); omega)
    | (have b : bit x2 x8 := ‹BBT _ _›; have w := ske_room (show SKe 6 x2 x8 x7 x1 from ‹SK4 _ _ _ _›) (show BLe 4 x2 from ‹BL4 _›) (by omega) b (by omega); omega)
    | (have b := (bit_one (s := x2) (t := x10) (c := x12) (v := x8) (one := x11) (by assumption) (by assumption) (by omega) (by omega) (by omega) (by omega)).2 (by omega); have w := ske_room (show SKe 24 x2 x8 x7 x1 from ‹SK5 _ _ _ _›) (show BLe 5 x2 from ‹BL5 _›) (by omega) b (by omega); omega)
    | (have b : bit x2 x8 := ‹BBT _ _›; have w := ske_room (show SKe 24 x2 x8 x7 x1 from ‹SK5 _ _ _ _›) (show BLe 5 x2 from ‹BL5 _›) (by omega) b (by omega); omega)
    | (have b := (bit_one (s := x2) (t := x10) (c := x12) (v := x8) (one := x11) (by assumption) (by assumption) (by omega) (by omega) (by omega) (by omega)).2 (by omega); have w := ske_room (show SKe 120 x2 x8 x7 x1 from ‹SK6 _ _ _ _›) (show BLe 6 x2 from ‹BL6 _›) (by omega) b (by omega); omega)
    | (have b : bit x2 x8 := ‹BBT _ _›; have w := ske_room (show SKe 120 x2 x8 x7 x1 from ‹SK6 _ _ _ _›) (show BLe 6 x2 from ‹BL6 _›) (by omega) b (by omega); omega)
def o_La_seek_at_g3_2 : or_T := (84, 23, [(1, (0, 0, 714, [])), (2, (0, 0, 63, [])), (5, (0, 2, 3, [])), (7, (0, 0, 838, [])), (8, (0, 0, 5, [])), (9, (0, 6, 6, [])), (10, (0, 0, 63, [])), (11, (0, 1, 1, [])), (12, (0, 1, 1, [])), (13, (0, 1, 1, [])), (14, (0, 1, 32, [])), (15, (0, -1, -1, [])), (16, (0, -2147483648, 2147483647, [])), (17, (0, 0, 63, [])), (19, (0, 1, 1, [])), (20, (0, 1, 2, []))], [(2, [20, 5, 19], []), (16, [17, 2, 16], [0]), (16, [16, 14, 15], [2]), (16, [14, 13, 8], [3]), (8, [12], [1]), (12, [12, 10], [2]), (16, [12, 10, 11], [0]), (16, [10, 2, 8], [4]), (7, [8, 9], [2]), (20, [2, 8, 7, 1], [61, 0, 697]), (20, [2], [61, 0, 696]), (20, [2, 5], [61, 0, 704])], [(7, (0, 0, 718, []))], [], [], [], [(20, 5, -1, -1), (1, 7, -4294967296, 0), (7, 8, -4294967296, 837)])
theorem oo_La_seek_at_g3_2 {kA : Nat → ClassId} : or_ok PRD kA GG o_La_seek_at_g3_2 := by
  refine or_mk fun A ta ws vs hD hth hl => ?_
  intro t1 k1 t2 k2 t5 k5 t7 k7 t8 k8 t9 k9 t10 k10 t11 k11 t12 k12 t13 k13 t14 k14 t15 k15 t16 k16 t17 k17 t19 k19 t20 k20 d0 d1 d2 f0 f1 f2 f3 f4 f5 f6 f7 f8 f9 f10 f11
  have hrf0 : 0 ≤ v_iv (n_v vs 7) ∧ v_iv (n_v vs 7) ≤ 718 := vc_La_seek_at_g3_2_r0 (v_iv (n_v vs 1)) (v_iv (n_v vs 2)) (v_iv (n_v vs 7)) (v_iv (n_v vs 8)) (v_iv (n_v vs 10)) (v_iv (n_v vs 11)) (v_iv (n_v vs 12)) k1 k2 k7 k8 k10 k11 k12 d1 (shm_11 f6) (shm_13 f7) (shm_1377 f9) (shm_1375 f10)
  have rf7 : tv_ok ta (0, 0, 718, []) (n_v vs 7) := tv_in t7 (by first | omega | grind) (by first | omega | grind)
  refine ⟨List.forall_mem_cons.mpr ⟨rf7, (fun _ h => (by cases h))⟩, [], trivial, ?_, (fun _ h => (by cases h))⟩
  rw [List.append_nil]
  exact (fun _ h => (by cases h))
set_option maxHeartbeats 4000000 in
theorem vc_La_seek_at_g3_3_0 (x2 : Int) (x8 : Int) (x10 : Int) (x11 : Int) (x12 : Int) (x13 : Int) (x14 : Int) (x15 : Int) (x16 : Int) (x17 : Int) (k2 : 0 ≤ x2 ∧ x2 ≤ 63) (k8 : 0 ≤ x8 ∧ x8 ≤ 5) (k10 : 0 ≤ x10 ∧ x10 ≤ 63) (k11 : 1 ≤ x11 ∧ x11 ≤ 1) (k12 : 1 ≤ x12 ∧ x12 ≤ 1) (k13 : 1 ≤ x13 ∧ x13 ≤ 1) (k14 : 1 ≤ x14 ∧ x14 ≤ 32) (k15 : (-1) ≤ x15 ∧ x15 ≤ (-1)) (k16 : (-2147483648) ≤ x16 ∧ x16 ≤ 2147483647) (k17 : 0 ≤ x17 ∧ x17 ≤ 63) (f1 : bvp (x17) = bvp (x2) &&& bvp (x16)) (f2 : bvp (x16) = bvp (x14) ^^^ bvp (x15)) (f3 : bvp (x14) = bvp (x13) <<< (x8).toNat) (f6 : bvp (x12) = bvp (x10) &&& bvp (x11)) (f7 : bvp (x10) = bvp (x2) >>> (x8).toNat) (f10 : BL3 (x2)) : BL2 (x17) := by
  first
    | (have b := (bit_one (s := x2) (t := x10) (c := x12) (v := x8) (one := x11) (by assumption) (by assumption) (by omega) (by omega) (by omega) (by omega)).2 (by omega); exact ble_del1 (k := 3) (k_zq := 2) (x := x2) (q := x14) (r := x16) (m1 := x15) (a := x8) (one := x13) ‹BL3 _› (by omega) (by omega) b (by assumption) (by omega) (by assumption) (by omega) (by assumption) (by omega) (by omega) (by omega))
set_option maxHeartbeats 4000000 in
theorem vc_La_seek_at_g3_3_1 (x2 : Int) (x8 : Int) (x10 : Int) (x11 : Int) (x12 : Int) (k2 : 0 ≤ x2 ∧ x2 ≤ 63) (k8 : 0 ≤ x8 ∧ x8 ≤ 5) (k10 : 0 ≤ x10 ∧ x10 ≤ 63) (k11 : 1 ≤ x11 ∧ x11 ≤ 1) (k12 : 1 ≤ x12 ∧ x12 ≤ 1) (f6 : bvp (x12) = bvp (x10) &&& bvp (x11)) (f7 : bvp (x10) = bvp (x2) >>> (x8).toNat) : BBT (x2) (x8) := by
  first
    | (have b := (bit_one (s := x2) (t := x10) (c := x12) (v := x8) (one := x11) (by assumption) (by assumption) (by omega) (by omega) (by omega) (by omega)).2 (by omega); exact b)
def o_La_seek_at_g3_3 : or_T := (92, 27, [(2, (0, 0, 63, [])), (8, (0, 0, 5, [])), (10, (0, 0, 63, [])), (11, (0, 1, 1, [])), (12, (0, 1, 1, [])), (13, (0, 1, 1, [])), (14, (0, 1, 32, [])), (15, (0, -1, -1, [])), (16, (0, -2147483648, 2147483647, [])), (17, (0, 0, 63, []))], [(16, [17, 2, 16], [0]), (16, [16, 14, 15], [2]), (16, [14, 13, 8], [3]), (16, [12, 10, 11], [0]), (16, [10, 2, 8], [4]), (20, [2], [61, 0, 696])], [], [], [(20, [17], [61, 0, 694]), (20, [2, 8], [61, 0, 705])], [], [])
theorem oo_La_seek_at_g3_3 {kA : Nat → ClassId} : or_ok PRD kA GG o_La_seek_at_g3_3 := by
  refine or_mk fun A ta ws vs hD hth hl => ?_
  intro t2 k2 t8 k8 t10 k10 t11 k11 t12 k12 t13 k13 t14 k14 t15 k15 t16 k16 t17 k17 f1 f2 f3 f6 f7 f10
  have nf0 : fc_1 PRD (20, [17], [61, 0, 694]) ws (vs) := ⟨nf_in hl rfl, sgq_1371 (vc_La_seek_at_g3_3_0 (v_iv (n_v vs 2)) (v_iv (n_v vs 8)) (v_iv (n_v vs 10)) (v_iv (n_v vs 11)) (v_iv (n_v vs 12)) (v_iv (n_v vs 13)) (v_iv (n_v vs 14)) (v_iv (n_v vs 15)) (v_iv (n_v vs 16)) (v_iv (n_v vs 17)) k2 k8 k10 k11 k12 k13 k14 k15 k16 k17 (shm_11 f1) (shm_33 f2) (shm_349 f3) (shm_11 f6) (shm_13 f7) (shm_1375 f10))⟩
  have nf1 : fc_1 PRD (20, [2, 8], [61, 0, 705]) ws (vs) := ⟨nf_in hl rfl, sgq_1083 (vc_La_seek_at_g3_3_1 (v_iv (n_v vs 2)) (v_iv (n_v vs 8)) (v_iv (n_v vs 10)) (v_iv (n_v vs 11)) (v_iv (n_v vs 12)) k2 k8 k10 k11 k12 (shm_11 f6) (shm_13 f7))⟩
  refine ⟨(fun _ h => (by cases h)), [], trivial, ?_, (fun _ h => (by cases h))⟩
  rw [List.append_nil]
  exact List.forall_mem_cons.mpr ⟨⟨show (20 : Nat) < 100 from by decide, nf0⟩, List.forall_mem_cons.mpr ⟨⟨show (20 : Nat) < 100 from by decide, nf1⟩, (fun _ h => (by cases h))⟩⟩
set_option maxHeartbeats 4000000 in
theorem vc_La_seek_at_g3_4_0 (x1 : Int) (x2 : Int) (x7 : Int) (x8 : Int) (x13 : Int) (k1 : 0 ≤ x1 ∧ x1 ≤ 714) (k2 : 0 ≤ x2 ∧ x2 ≤ 63) (k7 : 0 ≤ x7 ∧ x7 ≤ 838) (k8 : 0 ≤ x8 ∧ x8 ≤ 5) (k13 : 1 ≤ x13 ∧ x13 ≤ 6) (d0 : x8 + 1 ≤ x13 ∧ x13 ≤ x8 + 1) (f0 : x13 = x8 + 1) (f6 : SK3 (x2) (x8) (x7) (x1)) : SK3 (x2) (x13) (x7) (x1) := by
  first
    | exact ske_skip (show SKe 2 x2 x8 x7 x1 from ‹SK3 _ _ _ _›) (by omega) (by omega) (by omega)
def o_La_seek_at_g3_4 : or_T := (40, 14, [(1, (0, 0, 714, [])), (2, (0, 0, 63, [])), (7, (0, 0, 838, [])), (8, (0, 0, 5, [])), (13, (0, 1, 6, []))], [(6, [13, 8], [1]), (20, [2, 8, 7, 1], [61, 0, 697])], [], [], [(20, [2, 13, 7, 1], [61, 0, 697])], [], [(13, 8, 1, 1)])
theorem oo_La_seek_at_g3_4 {kA : Nat → ClassId} : or_ok PRD kA GG o_La_seek_at_g3_4 := by
  refine or_mk fun A ta ws vs hD hth hl => ?_
  intro t1 k1 t2 k2 t7 k7 t8 k8 t13 k13 d0 f0 f6
  have nf0 : fc_1 PRD (20, [2, 13, 7, 1], [61, 0, 697]) ws (vs) := ⟨nf_in hl rfl, sgq_1377 (vc_La_seek_at_g3_4_0 (v_iv (n_v vs 1)) (v_iv (n_v vs 2)) (v_iv (n_v vs 7)) (v_iv (n_v vs 8)) (v_iv (n_v vs 13)) k1 k2 k7 k8 k13 d0 (shm_4 f0) (shm_1377 f6))⟩
  refine ⟨(fun _ h => (by cases h)), [], trivial, ?_, (fun _ h => (by cases h))⟩
  rw [List.append_nil]
  exact List.forall_mem_cons.mpr ⟨⟨show (20 : Nat) < 100 from by decide, nf0⟩, (fun _ h => (by cases h))⟩
set_option maxHeartbeats 4000000 in
theorem vc_La_seek_at_g3_5_0 (x1 : Int) (x2 : Int) (x5 : Int) (x7 : Int) (x8 : Int) (x13 : Int) (x14 : Int) (x15 : Int) (x16 : Int) (x17 : Int) (k1 : 0 ≤ x1 ∧ x1 ≤ 714) (k2 : 0 ≤ x2 ∧ x2 ≤ 63) (k5 : 2 ≤ x5 ∧ x5 ≤ 3) (k7 : 0 ≤ x7 ∧ x7 ≤ 718) (k8 : 0 ≤ x8 ∧ x8 ≤ 5) (k13 : 1 ≤ x13 ∧ x13 ≤ 1) (k14 : 1 ≤ x14 ∧ x14 ≤ 2) (k15 : 1 ≤ x15 ∧ x15 ≤ 120) (k16 : 1 ≤ x16 ∧ x16 ≤ 838) (k17 : 1 ≤ x17 ∧ x17 ≤ 6) (d0 : x8 + 1 ≤ x17 ∧ x17 ≤ x8 + 1) (f0 : x17 = x8 + 1) (f1 : x16 = x7 + x15) (f2 : TBC (x14) (x15)) (f3 : x14 = x5 - x13) (f4 : SK3 (x2) (x8) (x7) (x1)) (f5 : BL3 (x2)) (f6 : PQ6 (x2) (x5)) (f8 : BBT (x2) (x8)) : SK3 (x2) (x17) (x16) (x1) := by
  first
    | exact ske_step (v := x15) (show SKe 2 x2 x8 x7 x1 from ‹SK3 _ _ _ _›) (by omega) ‹BBT _ _› (tbc_cap (n := x14) (k := 2) (by assumption) (pq6_cap (k := 3) (one := x13) ‹BL3 _› ‹PQ6 _ _› (by assumption) (by omega)) (by decide)) (by omega) (by omega) (by omega)
    | exact ske_step (v := x24) (show SKe 2 x2 x8 x7 x1 from ‹SK3 _ _ _ _›) (by omega) ‹BBT _ _› (tbc_cap (n := x23) (k := 2) (by assumption) (pq6_cap (k := 3) (one := x22) ‹BL3 _› ‹PQ6 _ _› (by assumption) (by omega)) (by decide)) (by omega) (by omega) (by omega)
def o_La_seek_at_g3_5 : or_T := (40, 18, [(1, (0, 0, 714, [])), (2, (0, 0, 63, [])), (5, (0, 2, 3, [])), (7, (0, 0, 718, [])), (8, (0, 0, 5, [])), (13, (0, 1, 1, [])), (14, (0, 1, 2, [])), (15, (0, 1, 120, [])), (16, (0, 1, 838, [])), (17, (0, 1, 6, []))], [(6, [17, 8], [1]), (1, [16, 7, 15], []), (20, [14, 15], [61, 0, 684]), (2, [14, 5, 13], []), (20, [2, 8, 7, 1], [61, 0, 697]), (20, [2], [61, 0, 696]), (20, [2, 5], [61, 0, 704]), (20, [2, 8], [61, 0, 705])], [], [], [(20, [2, 17, 16, 1], [61, 0, 697])], [], [(17, 8, 1, 1)])
theorem oo_La_seek_at_g3_5 {kA : Nat → ClassId} : or_ok PRD kA GG o_La_seek_at_g3_5 := by
  refine or_mk fun A ta ws vs hD hth hl => ?_
  intro t1 k1 t2 k2 t5 k5 t7 k7 t8 k8 t13 k13 t14 k14 t15 k15 t16 k16 t17 k17 d0 f0 f1 f2 f3 f4 f5 f6 f8
  have nf0 : fc_1 PRD (20, [2, 17, 16, 1], [61, 0, 697]) ws (vs) := ⟨nf_in hl rfl, sgq_1377 (vc_La_seek_at_g3_5_0 (v_iv (n_v vs 1)) (v_iv (n_v vs 2)) (v_iv (n_v vs 5)) (v_iv (n_v vs 7)) (v_iv (n_v vs 8)) (v_iv (n_v vs 13)) (v_iv (n_v vs 14)) (v_iv (n_v vs 15)) (v_iv (n_v vs 16)) (v_iv (n_v vs 17)) k1 k2 k5 k7 k8 k13 k14 k15 k16 k17 d0 (shm_4 f0) (shm_12 f1) (shm_1197 f2) (shm_14 f3) (shm_1377 f4) (shm_1375 f5) (shm_1373 f6) (shm_1083 f8))⟩
  refine ⟨(fun _ h => (by cases h)), [], trivial, ?_, (fun _ h => (by cases h))⟩
  rw [List.append_nil]
  exact List.forall_mem_cons.mpr ⟨⟨show (20 : Nat) < 100 from by decide, nf0⟩, (fun _ h => (by cases h))⟩
set_option maxHeartbeats 4000000 in
theorem vc_La_seek_at_g3_6_0 (x1 : Int) (x2 : Int) (x5 : Int) (x7 : Int) (x8 : Int) (x14 : Int) (x15 : Int) (x22 : Int) (x23 : Int) (x24 : Int) (x25 : Int) (x26 : Int) (k1 : 0 ≤ x1 ∧ x1 ≤ 714) (k2 : 0 ≤ x2 ∧ x2 ≤ 63) (k5 : 2 ≤ x5 ∧ x5 ≤ 3) (k7 : 0 ≤ x7 ∧ x7 ≤ 718) (k8 : 0 ≤ x8 ∧ x8 ≤ 5) (k22 : 1 ≤ x22 ∧ x22 ≤ 1) (k23 : 1 ≤ x23 ∧ x23 ≤ 2) (k24 : 1 ≤ x24 ∧ x24 ≤ 120) (k25 : 1 ≤ x25 ∧ x25 ≤ 838) (k26 : 1 ≤ x26 ∧ x26 ≤ 6) (d0 : x8 + 1 ≤ x26 ∧ x26 ≤ x8 + 1) (f0 : x26 = x8 + 1) (f1 : x25 = x7 + x24) (f2 : TBC (x23) (x24)) (f3 : x23 = x5 - x22) (f5 : SK3 (x2) (x8) (x7) (x1)) (f6 : BL3 (x2)) (f7 : PQ6 (x2) (x5)) (f9 : BBT (x2) (x8)) : SK3 (x2) (x26) (x25) (x1) := by
  first
    | exact ske_step (v := x15) (show SKe 2 x2 x8 x7 x1 from ‹SK3 _ _ _ _›) (by omega) ‹BBT _ _› (tbc_cap (n := x14) (k := 2) (by assumption) (pq6_cap (k := 3) (one := x13) ‹BL3 _› ‹PQ6 _ _› (by assumption) (by omega)) (by decide)) (by omega) (by omega) (by omega)
    | exact ske_step (v := x24) (show SKe 2 x2 x8 x7 x1 from ‹SK3 _ _ _ _›) (by omega) ‹BBT _ _› (tbc_cap (n := x23) (k := 2) (by assumption) (pq6_cap (k := 3) (one := x22) ‹BL3 _› ‹PQ6 _ _› (by assumption) (by omega)) (by decide)) (by omega) (by omega) (by omega)
def o_La_seek_at_g3_6 : or_T := (40, 27, [(1, (0, 0, 714, [])), (2, (0, 0, 63, [])), (5, (0, 2, 3, [])), (7, (0, 0, 718, [])), (8, (0, 0, 5, [])), (22, (0, 1, 1, [])), (23, (0, 1, 2, [])), (24, (0, 1, 120, [])), (25, (0, 1, 838, [])), (26, (0, 1, 6, []))], [(6, [26, 8], [1]), (1, [25, 7, 24], []), (20, [23, 24], [61, 0, 684]), (2, [23, 5, 22], []), (20, [2, 8, 7, 1], [61, 0, 697]), (20, [2], [61, 0, 696]), (20, [2, 5], [61, 0, 704]), (20, [2, 8], [61, 0, 705])], [], [], [(20, [2, 26, 25, 1], [61, 0, 697])], [], [(26, 8, 1, 1)])
theorem oo_La_seek_at_g3_6 {kA : Nat → ClassId} : or_ok PRD kA GG o_La_seek_at_g3_6 := by
  refine or_mk fun A ta ws vs hD hth hl => ?_
  intro t1 k1 t2 k2 t5 k5 t7 k7 t8 k8 t22 k22 t23 k23 t24 k24 t25 k25 t26 k26 d0 f0 f1 f2 f3 f5 f6 f7 f9
  have nf0 : fc_1 PRD (20, [2, 26, 25, 1], [61, 0, 697]) ws (vs) := ⟨nf_in hl rfl, sgq_1377 (vc_La_seek_at_g3_6_0 (v_iv (n_v vs 1)) (v_iv (n_v vs 2)) (v_iv (n_v vs 5)) (v_iv (n_v vs 7)) (v_iv (n_v vs 8)) (v_iv (n_v vs 14)) (v_iv (n_v vs 15)) (v_iv (n_v vs 22)) (v_iv (n_v vs 23)) (v_iv (n_v vs 24)) (v_iv (n_v vs 25)) (v_iv (n_v vs 26)) k1 k2 k5 k7 k8 k22 k23 k24 k25 k26 d0 (shm_4 f0) (shm_12 f1) (shm_1197 f2) (shm_14 f3) (shm_1377 f5) (shm_1375 f6) (shm_1373 f7) (shm_1083 f9))⟩
  refine ⟨(fun _ h => (by cases h)), [], trivial, ?_, (fun _ h => (by cases h))⟩
  rw [List.append_nil]
  exact List.forall_mem_cons.mpr ⟨⟨show (20 : Nat) < 100 from by decide, nf0⟩, (fun _ h => (by cases h))⟩
def n_La_seek_at_g3_an : List an_T := [(40, [(0, (2, 0, 0, [4])), (1, (0, 0, 714, [])), (2, (0, 0, 63, [])), (3, (0, (Int.negSucc 2147483647), 2147483647, [])), (4, (0, (Int.negSucc 2147483646), 1000000, [])), (5, (0, 2, 3, [])), (6, (0, (Int.negSucc 2147483647), 1000000, [])), (7, (0, 0, 838, [])), (8, (0, 0, 6, []))], [], (0, 0), [(0, 0, 99960), (1, 8, 6), (0, 0, 100000), (0, 0, 0), (0, 0, 0)], [(1, 7, (Int.negSucc 999999999999), 0), (7, 8, (Int.negSucc 999999999999), 837)], [], [], 0, [], [(20, [2, 8, 7, 1], [61, 0, 697]), (20, [2], [61, 0, 696]), (20, [2, 5], [61, 0, 704])]), (92, [(0, (2, 0, 0, [4])), (1, (0, 0, 714, [])), (2, (0, 0, 63, [])), (3, (0, (Int.negSucc 2147483647), 2147483647, [])), (4, (0, (Int.negSucc 2147483646), 1000000, [])), (5, (0, 2, 3, [])), (6, (0, (Int.negSucc 2147483647), 1000000, [])), (7, (0, 0, 718, [])), (8, (0, 0, 5, [])), (9, (0, 0, 63, [])), (10, (0, (Int.negSucc 2147483647), 2147483647, [])), (11, (0, 0, 6, []))], [], (0, 0), [(0, 0, 99960), (1, 8, 6), (0, 0, 99908), (1, 11, 6), (0, 0, 100000)], [(1, 7, (Int.negSucc 999999999999), 0)], [], [], 0, [], [(20, [2, 8, 7, 1], [61, 0, 697]), (20, [2], [61, 0, 696]), (20, [2, 5], [61, 0, 704]), (20, [9], [61, 0, 694]), (20, [2, 8], [61, 0, 705])])]
def t_La_seek_at_g3_ct : ct_L := [(6, 225, e_jInt_bitCount_v123), (81, 208, e_jMath_min1_v124), (523, 198, e_La_seek_at_g2), (555, 85, e_La_countOrders_at_gk)]
set_option maxRecDepth 100000 in
theorem c_La_seek_at_g3 {l : Launch} {D : va_G} {kA : Nat → ClassId} (h_La_countOrders_at_gk : ct_ok PRD l D kA GG y_La_countOrders_at_gk z_La_countOrders_at_gk e_La_countOrders_at_gk) (h_La_seek_at_g2 : ct_ok PRD l D kA GG y_La_seek_at_g2 z_La_seek_at_g2 e_La_seek_at_g2) : ct_ok PRD l D kA GG y_La_seek_at_g3 z_La_seek_at_g3 e_La_seek_at_g3 := chk_all_ok (FT := [(75, 4, 19), (78, 4, 20)]) (PT := []) (CT := t_La_seek_at_g3_ct) (KT := []) (NT := []) (AN := n_La_seek_at_g3_an) (OT := [o_La_seek_at_g3_0, o_La_seek_at_g3_1, o_La_seek_at_g3_2, o_La_seek_at_g3_3, o_La_seek_at_g3_4, o_La_seek_at_g3_5, o_La_seek_at_g3_6]) 5 660 (List.forall_mem_cons.mpr ⟨oo_La_seek_at_g3_0, List.forall_mem_cons.mpr ⟨oo_La_seek_at_g3_1, List.forall_mem_cons.mpr ⟨oo_La_seek_at_g3_2, List.forall_mem_cons.mpr ⟨oo_La_seek_at_g3_3, List.forall_mem_cons.mpr ⟨oo_La_seek_at_g3_4, List.forall_mem_cons.mpr ⟨oo_La_seek_at_g3_5, List.forall_mem_cons.mpr ⟨oo_La_seek_at_g3_6, List.forall_mem_nil _⟩⟩⟩⟩⟩⟩⟩) (by decide +kernel) ⟨List.forall_mem_cons.mpr ⟨gf_La_75, List.forall_mem_cons.mpr ⟨gf_La_78, List.forall_mem_nil _⟩⟩, List.forall_mem_nil _, List.forall_mem_cons.mpr ⟨cl_static (y := y_jInt_bitCount) c_jInt_bitCount_v123 wm_870 wm_17 wm_1412 wm_869 ⟨by decide, by decide, by decide +kernel⟩ (by decide), List.forall_mem_cons.mpr ⟨cl_static (y := y_jMath_min1) c_jMath_min1_v124 wm_658 wm_10 wm_1389 wm_657 ⟨by decide, by decide, by decide +kernel⟩ (by decide), List.forall_mem_cons.mpr ⟨cl_virtual (y := y_La_seek_at_g2) (ci := 4) rfl rfl ⟨_, _, rfl⟩ (by decide +kernel) h_La_seek_at_g2 wm_1411 wm_18 wm_1408 wm_1410 wv_5_9 ⟨by decide, by decide, by decide +kernel⟩ (by decide), List.forall_mem_cons.mpr ⟨cl_static (y := y_La_countOrders_at_gk) h_La_countOrders_at_gk wm_1233 wm_18 wm_1231 wm_1232 ⟨by decide, by decide, by decide +kernel⟩ (by decide), List.forall_mem_nil _⟩⟩⟩⟩, List.forall_mem_nil _, List.forall_mem_nil _, GG_pl⟩ (by decide +kernel)
set_option maxHeartbeats 4000000 in
theorem vc_La_seek_at_g4_0_r0 (x2 : Int) (x5 : Int) (k2 : 0 ≤ x2 ∧ x2 ≤ 63) (k5 : 0 ≤ x5 ∧ x5 ≤ 63) (f0 : BCT (x2) (x5)) (f1 : BL4 (x2)) : 0 ≤ x5 ∧ x5 ≤ 4 := by
  first
    | (have w := ‹BL1 _›; unfold BL1 BLe at w; have q := bc6_of ‹BCT _ _› w.1 w.2.1; omega)
    | (have w := ‹BL2 _›; unfold BL2 BLe at w; have q := bc6_of ‹BCT _ _› w.1 w.2.1; omega)
    | (have w := ‹BL3 _›; unfold BL3 BLe at w; have q := bc6_of ‹BCT _ _› w.1 w.2.1; omega)
    | (have w := ‹BL4 _›; unfold BL4 BLe at w; have q := bc6_of ‹BCT _ _› w.1 w.2.1; omega)
    | (have w := ‹BL5 _›; unfold BL5 BLe at w; have q := bc6_of ‹BCT _ _› w.1 w.2.1; omega)
    | (have w := ‹BL6 _›; unfold BL6 BLe at w; have q := bc6_of ‹BCT _ _› w.1 w.2.1; omega)
def o_La_seek_at_g4_0 : or_T := (4, 6, [(2, (0, 0, 63, [])), (5, (0, 0, 63, []))], [(20, [2, 5], [61, 0, 554]), (20, [2], [61, 0, 698])], [(5, (0, 0, 4, []))], [], [], [], [])
theorem oo_La_seek_at_g4_0 {kA : Nat → ClassId} : or_ok PRD kA GG o_La_seek_at_g4_0 := by
  refine or_mk fun A ta ws vs hD hth hl => ?_
  intro t2 k2 t5 k5 f0 f1
  have hrf0 : 0 ≤ v_iv (n_v vs 5) ∧ v_iv (n_v vs 5) ≤ 4 := vc_La_seek_at_g4_0_r0 (v_iv (n_v vs 2)) (v_iv (n_v vs 5)) k2 k5 (shm_15 f0) (shm_1378 f1)
  have rf5 : tv_ok ta (0, 0, 4, []) (n_v vs 5) := tv_in t5 (by first | omega | grind) (by first | omega | grind)
  refine ⟨List.forall_mem_cons.mpr ⟨rf5, (fun _ h => (by cases h))⟩, [], trivial, ?_, (fun _ h => (by cases h))⟩
  rw [List.append_nil]
  exact (fun _ h => (by cases h))
set_option maxHeartbeats 4000000 in
theorem vc_La_seek_at_g4_1_0 (x1 : Int) (x2 : Int) (x7 : Int) (k1 : 0 ≤ x1 ∧ x1 ≤ 696) (k2 : 0 ≤ x2 ∧ x2 ≤ 63) (k7 : 0 ≤ x7 ∧ x7 ≤ 0) : SK4 (x2) (x7) (x1) (x1) := by
  first
    | exact ske_start (by omega) (by omega)
set_option maxHeartbeats 4000000 in
theorem vc_La_seek_at_g4_1_1 (x2 : Int) (x5 : Int) (k2 : 0 ≤ x2 ∧ x2 ≤ 63) (k5 : 2 ≤ x5 ∧ x5 ≤ 4) (f1 : BCT (x2) (x5)) : PQ6 (x2) (x5) := by
  first
    | exact bc6_of ‹BCT _ _› (by omega) (by omega)
def o_La_seek_at_g4_1 : or_T := (40, 8, [(1, (0, 0, 696, [])), (2, (0, 0, 63, [])), (5, (0, 2, 4, [])), (7, (0, 0, 0, []))], [(20, [2, 5], [61, 0, 554])], [], [], [(20, [2, 7, 1, 1], [61, 0, 699]), (20, [2, 5], [61, 0, 704])], [], [])
theorem oo_La_seek_at_g4_1 {kA : Nat → ClassId} : or_ok PRD kA GG o_La_seek_at_g4_1 := by
  refine or_mk fun A ta ws vs hD hth hl => ?_
  intro t1 k1 t2 k2 t5 k5 t7 k7 f1
  have nf0 : fc_1 PRD (20, [2, 7, 1, 1], [61, 0, 699]) ws (vs) := ⟨nf_in hl rfl, sgq_1379 (vc_La_seek_at_g4_1_0 (v_iv (n_v vs 1)) (v_iv (n_v vs 2)) (v_iv (n_v vs 7)) k1 k2 k7)⟩
  have nf1 : fc_1 PRD (20, [2, 5], [61, 0, 704]) ws (vs) := ⟨nf_in hl rfl, sgq_1373 (vc_La_seek_at_g4_1_1 (v_iv (n_v vs 2)) (v_iv (n_v vs 5)) k2 k5 (shm_15 f1))⟩
  refine ⟨(fun _ h => (by cases h)), [], trivial, ?_, (fun _ h => (by cases h))⟩
  rw [List.append_nil]
  exact List.forall_mem_cons.mpr ⟨⟨show (20 : Nat) < 100 from by decide, nf0⟩, List.forall_mem_cons.mpr ⟨⟨show (20 : Nat) < 100 from by decide, nf1⟩, (fun _ h => (by cases h))⟩⟩
set_option maxHeartbeats 4000000 in
theorem vc_La_seek_at_g4_2_r0 (x1 : Int) (x2 : Int) (x7 : Int) (x8 : Int) (x10 : Int) (x11 : Int) (x12 : Int) (k1 : 0 ≤ x1 ∧ x1 ≤ 696) (k2 : 0 ≤ x2 ∧ x2 ≤ 63) (k7 : 0 ≤ x7 ∧ x7 ≤ 834) (k8 : 0 ≤ x8 ∧ x8 ≤ 5) (k10 : 0 ≤ x10 ∧ x10 ≤ 63) (k11 : 1 ≤ x11 ∧ x11 ≤ 1) (k12 : 1 ≤ x12 ∧ x12 ≤ 1) (d1 : x7 + (-4294967296) ≤ x1 ∧ x1 ≤ x7 + 0) (f6 : bvp (x12) = bvp (x10) &&& bvp (x11)) (f7 : bvp (x10) = bvp (x2) >>> (x8).toNat) (f9 : SK4 (x2) (x8) (x7) (x1)) (f10 : BL4 (x2)) : 0 ≤ x7 ∧ x7 ≤ 714 := by
  first
    | (have b := (bit_one (s := x2) (t := x10) (c := x12) (v := x8) (one := x11) (by assumption) (by assumption) (by omega) (by omega) (by omega) (by omega)).2 (by omega); have w := ske_room (show SKe 1 x2 x8 x7 x1 from ‹SK2 _ _ _ _›) (show BLe 2 x2 from ‹BL2 _›) (by omega) b (by omega); omega)
    | (have b : bit x2 x8 := ‹BBT _ _›; have w := ske_room (show SKe 1 x2 x8 x7 x1 from ‹SK2 _ _ _ _›) (show BLe 2 x2 from ‹BL2 _›) (by omega) b (by omega); omega)
    | (have b := (bit_one (s := x2) (t := x10) (c := x12) (v := x8) (one := x11) (by assumption) (by assumption) (by omega) (by omega) (by omega) (by omega)).2 (by omega); have w := ske_room (show SKe 2 x2 x8 x7 x1 from ‹SK3 _ _ _ _›) (show BLe 3 x2 from ‹BL3 _›) (by omega) b (by omega); omega)
    | (have b : bit x2 x8 := ‹BBT _ _›; have w := ske_room (show SKe 2 x2 x8 x7 x1 from ‹SK3 _ _ _ _›) (show BLe 3 x2 from ‹BL3 _›) (by omega) b (by omega); omega)
    | (have b := (bit_one (s := x2) (t := x10) (c := x12) (v := x8) (one := x11) (by assumption) (by assumption) (by omega) (by omega) (by omega) (by omega)).2 (by omega); have w := ske_room (show SKe 6 x2 x8 x7 x1 from ‹SK4 _ _ _ _›) (show BLe 4 x2 from ‹BL4 _›) (by omega) b (by omega); omega)
    | (have b : bit x2 x8 := ‹BBT _ _›; have w := ske_room (show SKe 6 x2 x8 x7 x1 from ‹SK4 _ _ _ _›) (show BLe 4 x2 from ‹BL4 _›) (by omega) b (by omega); omega)
    | (have b := (bit_one (s := x2) (t := x10) (c := x12) (v := x8) (one := x11) (by assumption) (by assumption) (by omega) (by omega) (by omega) (by omega)).2 (by omega); have w := ske_room (show SKe 24 x2 x8 x7 x1 from ‹SK5 _ _ _ _›) (show BLe 5 x2 from ‹BL5 _›) (by omega) b (by omega); omega)
    | (have b : bit x2 x8 := ‹BBT _ _›; have w := ske_room (show SKe 24 x2 x8 x7 x1 from ‹SK5 _ _ _ _›) (show BLe 5 x2 from ‹BL5 _›) (by omega) b (by omega); omega)
    | (have b := (bit_one (s := x2) (t := x10) (c := x12) (v := x8) (one := x11) (by assumption) (by assumption) (by omega) (by omega) (by omega) (by omega)).2 (by omega); have w := ske_room (show SKe 120 x2 x8 x7 x1 from ‹SK6 _ _ _ _›) (show BLe 6 x2 from ‹BL6 _›) (by omega) b (by omega); omega)
    | (have b : bit x2 x8 := ‹BBT _ _›; have w := ske_room (show SKe 120 x2 x8 x7 x1 from ‹SK6 _ _ _ _›) (show BLe 6 x2 from ‹BL6 _›) (by omega) b (by omega); omega)
def o_La_seek_at_g4_2 : or_T := (84, 23, [(1, (0, 0, 696, [])), (2, (0, 0, 63, [])), (5, (0, 2, 4, [])), (7, (0, 0, 834, [])), (8, (0, 0, 5, [])), (9, (0, 6, 6, [])), (10, (0, 0, 63, [])), (11, (0, 1, 1, [])), (12, (0, 1, 1, [])), (13, (0, 1, 1, [])), (14, (0, 1, 32, [])), (15, (0, -1, -1, [])), (16, (0, -2147483648, 2147483647, [])), (17, (0, 0, 63, [])), (19, (0, 1, 1, [])), (20, (0, 1, 3, []))], [(2, [20, 5, 19], []), (16, [17, 2, 16], [0]), (16, [16, 14, 15], [2]), (16, [14, 13, 8], [3]), (8, [12], [1]), (12, [12, 10], [2]), (16, [12, 10, 11], [0]), (16, [10, 2, 8], [4]), (7, [8, 9], [2]), (20, [2, 8, 7, 1], [61, 0, 699]), (20, [2], [61, 0, 698]), (20, [2, 5], [61, 0, 704])], [(7, (0, 0, 714, []))], [], [], [], [(20, 5, -1, -1), (1, 7, -4294967296, 0), (7, 8, -4294967296, 833)])
theorem oo_La_seek_at_g4_2 {kA : Nat → ClassId} : or_ok PRD kA GG o_La_seek_at_g4_2 := by
  refine or_mk fun A ta ws vs hD hth hl => ?_
  intro t1 k1 t2 k2 t5 k5 t7 k7 t8 k8 t9 k9 t10 k10 t11 k11 t12 k12 t13 k13 t14 k14 t15 k15 t16 k16 t17 k17 t19 k19 t20 k20 d0 d1 d2 f0 f1 f2 f3 f4 f5 f6 f7 f8 f9 f10 f11
  have hrf0 : 0 ≤ v_iv (n_v vs 7) ∧ v_iv (n_v vs 7) ≤ 714 := vc_La_seek_at_g4_2_r0 (v_iv (n_v vs 1)) (v_iv (n_v vs 2)) (v_iv (n_v vs 7)) (v_iv (n_v vs 8)) (v_iv (n_v vs 10)) (v_iv (n_v vs 11)) (v_iv (n_v vs 12)) k1 k2 k7 k8 k10 k11 k12 d1 (shm_11 f6) (shm_13 f7) (shm_1380 f9) (shm_1378 f10)
  have rf7 : tv_ok ta (0, 0, 714, []) (n_v vs 7) := tv_in t7 (by first | omega | grind) (by first | omega | grind)
  refine ⟨List.forall_mem_cons.mpr ⟨rf7, (fun _ h => (by cases h))⟩, [], trivial, ?_, (fun _ h => (by cases h))⟩
  rw [List.append_nil]
  exact (fun _ h => (by cases h))
set_option maxHeartbeats 4000000 in
theorem vc_La_seek_at_g4_3_0 (x2 : Int) (x8 : Int) (x10 : Int) (x11 : Int) (x12 : Int) (x13 : Int) (x14 : Int) (x15 : Int) (x16 : Int) (x17 : Int) (k2 : 0 ≤ x2 ∧ x2 ≤ 63) (k8 : 0 ≤ x8 ∧ x8 ≤ 5) (k10 : 0 ≤ x10 ∧ x10 ≤ 63) (k11 : 1 ≤ x11 ∧ x11 ≤ 1) (k12 : 1 ≤ x12 ∧ x12 ≤ 1) (k13 : 1 ≤ x13 ∧ x13 ≤ 1) (k14 : 1 ≤ x14 ∧ x14 ≤ 32) (k15 : (-1) ≤ x15 ∧ x15 ≤ (-1)) (k16 : (-2147483648) ≤ x16 ∧ x16 ≤ 2147483647) (k17 : 0 ≤ x17 ∧ x17 ≤ 63) (f1 : bvp (x17) = bvp (x2) &&& bvp (x16)) (f2 : bvp (x16) = bvp (x14) ^^^ bvp (x15)) (f3 : bvp (x14) = bvp (x13) <<< (x8).toNat) (f6 : bvp (x12) = bvp (x10) &&& bvp (x11)) (f7 : bvp (x10) = bvp (x2) >>> (x8).toNat) (f10 : BL4 (x2)) : BL3 (x17) := by
  first
    | (have b := (bit_one (s := x2) (t := x10) (c := x12) (v := x8) (one := x11) (by assumption) (by assumption) (by omega) (by omega) (by omega) (by omega)).2 (by omega); exact ble_del1 (k := 4) (k_zq := 3) (x := x2) (q := x14) (r := x16) (m1 := x15) (a := x8) (one := x13) ‹BL4 _› (by omega) (by omega) b (by assumption) (by omega) (by assumption) (by omega) (by assumption) (by omega) (by omega) (by omega))
set_option maxHeartbeats 4000000 in
theorem vc_La_seek_at_g4_3_1 (x2 : Int) (x8 : Int) (x10 : Int) (x11 : Int) (x12 : Int) (k2 : 0 ≤ x2 ∧ x2 ≤ 63) (k8 : 0 ≤ x8 ∧ x8 ≤ 5) (k10 : 0 ≤ x10 ∧ x10 ≤ 63) (k11 : 1 ≤ x11 ∧ x11 ≤ 1) (k12 : 1 ≤ x12 ∧ x12 ≤ 1) (f6 : bvp (x12) = bvp (x10) &&& bvp (x11)) (f7 : bvp (x10) = bvp (x2) >>> (x8).toNat) : BBT (x2) (x8) := by
  first
    | (have b := (bit_one (s := x2) (t := x10) (c := x12) (v := x8) (one := x11) (by assumption) (by assumption) (by omega) (by omega) (by omega) (by omega)).2 (by omega); exact b)
def o_La_seek_at_g4_3 : or_T := (92, 27, [(2, (0, 0, 63, [])), (8, (0, 0, 5, [])), (10, (0, 0, 63, [])), (11, (0, 1, 1, [])), (12, (0, 1, 1, [])), (13, (0, 1, 1, [])), (14, (0, 1, 32, [])), (15, (0, -1, -1, [])), (16, (0, -2147483648, 2147483647, [])), (17, (0, 0, 63, []))], [(16, [17, 2, 16], [0]), (16, [16, 14, 15], [2]), (16, [14, 13, 8], [3]), (16, [12, 10, 11], [0]), (16, [10, 2, 8], [4]), (20, [2], [61, 0, 698])], [], [], [(20, [17], [61, 0, 696]), (20, [2, 8], [61, 0, 705])], [], [])
theorem oo_La_seek_at_g4_3 {kA : Nat → ClassId} : or_ok PRD kA GG o_La_seek_at_g4_3 := by
  refine or_mk fun A ta ws vs hD hth hl => ?_
  intro t2 k2 t8 k8 t10 k10 t11 k11 t12 k12 t13 k13 t14 k14 t15 k15 t16 k16 t17 k17 f1 f2 f3 f6 f7 f10
  have nf0 : fc_1 PRD (20, [17], [61, 0, 696]) ws (vs) := ⟨nf_in hl rfl, sgq_1375 (vc_La_seek_at_g4_3_0 (v_iv (n_v vs 2)) (v_iv (n_v vs 8)) (v_iv (n_v vs 10)) (v_iv (n_v vs 11)) (v_iv (n_v vs 12)) (v_iv (n_v vs 13)) (v_iv (n_v vs 14)) (v_iv (n_v vs 15)) (v_iv (n_v vs 16)) (v_iv (n_v vs 17)) k2 k8 k10 k11 k12 k13 k14 k15 k16 k17 (shm_11 f1) (shm_33 f2) (shm_349 f3) (shm_11 f6) (shm_13 f7) (shm_1378 f10))⟩
  have nf1 : fc_1 PRD (20, [2, 8], [61, 0, 705]) ws (vs) := ⟨nf_in hl rfl, sgq_1083 (vc_La_seek_at_g4_3_1 (v_iv (n_v vs 2)) (v_iv (n_v vs 8)) (v_iv (n_v vs 10)) (v_iv (n_v vs 11)) (v_iv (n_v vs 12)) k2 k8 k10 k11 k12 (shm_11 f6) (shm_13 f7))⟩
  refine ⟨(fun _ h => (by cases h)), [], trivial, ?_, (fun _ h => (by cases h))⟩
  rw [List.append_nil]
  exact List.forall_mem_cons.mpr ⟨⟨show (20 : Nat) < 100 from by decide, nf0⟩, List.forall_mem_cons.mpr ⟨⟨show (20 : Nat) < 100 from by decide, nf1⟩, (fun _ h => (by cases h))⟩⟩
set_option maxHeartbeats 4000000 in
theorem vc_La_seek_at_g4_4_0 (x1 : Int) (x2 : Int) (x7 : Int) (x8 : Int) (x13 : Int) (k1 : 0 ≤ x1 ∧ x1 ≤ 696) (k2 : 0 ≤ x2 ∧ x2 ≤ 63) (k7 : 0 ≤ x7 ∧ x7 ≤ 834) (k8 : 0 ≤ x8 ∧ x8 ≤ 5) (k13 : 1 ≤ x13 ∧ x13 ≤ 6) (d0 : x8 + 1 ≤ x13 ∧ x13 ≤ x8 + 1) (f0 : x13 = x8 + 1) (f6 : SK4 (x2) (x8) (x7) (x1)) : SK4 (x2) (x13) (x7) (x1) := by
  first
    | exact ske_skip (show SKe 6 x2 x8 x7 x1 from ‹SK4 _ _ _ _›) (by omega) (by omega) (by omega)
def o_La_seek_at_g4_4 : or_T := (40, 14, [(1, (0, 0, 696, [])), (2, (0, 0, 63, [])), (7, (0, 0, 834, [])), (8, (0, 0, 5, [])), (13, (0, 1, 6, []))], [(6, [13, 8], [1]), (20, [2, 8, 7, 1], [61, 0, 699])], [], [], [(20, [2, 13, 7, 1], [61, 0, 699])], [], [(13, 8, 1, 1)])
theorem oo_La_seek_at_g4_4 {kA : Nat → ClassId} : or_ok PRD kA GG o_La_seek_at_g4_4 := by
  refine or_mk fun A ta ws vs hD hth hl => ?_
  intro t1 k1 t2 k2 t7 k7 t8 k8 t13 k13 d0 f0 f6
  have nf0 : fc_1 PRD (20, [2, 13, 7, 1], [61, 0, 699]) ws (vs) := ⟨nf_in hl rfl, sgq_1380 (vc_La_seek_at_g4_4_0 (v_iv (n_v vs 1)) (v_iv (n_v vs 2)) (v_iv (n_v vs 7)) (v_iv (n_v vs 8)) (v_iv (n_v vs 13)) k1 k2 k7 k8 k13 d0 (shm_4 f0) (shm_1380 f6))⟩
  refine ⟨(fun _ h => (by cases h)), [], trivial, ?_, (fun _ h => (by cases h))⟩
  rw [List.append_nil]
  exact List.forall_mem_cons.mpr ⟨⟨show (20 : Nat) < 100 from by decide, nf0⟩, (fun _ h => (by cases h))⟩
set_option maxHeartbeats 4000000 in
theorem vc_La_seek_at_g4_5_0 (x1 : Int) (x2 : Int) (x5 : Int) (x7 : Int) (x8 : Int) (x13 : Int) (x14 : Int) (x15 : Int) (x16 : Int) (x17 : Int) (k1 : 0 ≤ x1 ∧ x1 ≤ 696) (k2 : 0 ≤ x2 ∧ x2 ≤ 63) (k5 : 2 ≤ x5 ∧ x5 ≤ 4) (k7 : 0 ≤ x7 ∧ x7 ≤ 714) (k8 : 0 ≤ x8 ∧ x8 ≤ 5) (k13 : 1 ≤ x13 ∧ x13 ≤ 1) (k14 : 1 ≤ x14 ∧ x14 ≤ 3) (k15 : 1 ≤ x15 ∧ x15 ≤ 120) (k16 : 1 ≤ x16 ∧ x16 ≤ 834) (k17 : 1 ≤ x17 ∧ x17 ≤ 6) (d0 : x8 + 1 ≤ x17 ∧ x17 ≤ x8 + 1) (f0 : x17 = x8 + 1) (f1 : x16 = x7 + x15) (f2 : TBC (x14) (x15)) (f3 : x14 = x5 - x13) (f4 : SK4 (x2) (x8) (x7) (x1)) (f5 : BL4 (x2)) (f6 : PQ6 (x2) (x5)) (f8 : BBT (x2) (x8)) : SK4 (x2) (x17) (x16) (x1) := by
  first
    | exact ske_step (v := x15) (show SKe 6 x2 x8 x7 x1 from ‹SK4 _ _ _ _›) (by omega) ‹BBT _ _› (tbc_cap (n := x14) (k := 3) (by assumption) (pq6_cap (k := 4) (one := x13) ‹BL4 _› ‹PQ6 _ _› (by assumption) (by omega)) (by decide)) (by omega) (by omega) (by omega)
    | exact ske_step (v := x24) (show SKe 6 x2 x8 x7 x1 from ‹SK4 _ _ _ _›) (by omega) ‹BBT _ _› (tbc_cap (n := x23) (k := 3) (by assumption) (pq6_cap (k := 4) (one := x22) ‹BL4 _› ‹PQ6 _ _› (by assumption) (by omega)) (by decide)) (by omega) (by omega) (by omega)
def o_La_seek_at_g4_5 : or_T := (40, 18, [(1, (0, 0, 696, [])), (2, (0, 0, 63, [])), (5, (0, 2, 4, [])), (7, (0, 0, 714, [])), (8, (0, 0, 5, [])), (13, (0, 1, 1, [])), (14, (0, 1, 3, [])), (15, (0, 1, 120, [])), (16, (0, 1, 834, [])), (17, (0, 1, 6, []))], [(6, [17, 8], [1]), (1, [16, 7, 15], []), (20, [14, 15], [61, 0, 684]), (2, [14, 5, 13], []), (20, [2, 8, 7, 1], [61, 0, 699]), (20, [2], [61, 0, 698]), (20, [2, 5], [61, 0, 704]), (20, [2, 8], [61, 0, 705])], [], [], [(20, [2, 17, 16, 1], [61, 0, 699])], [], [(17, 8, 1, 1)])
theorem oo_La_seek_at_g4_5 {kA : Nat → ClassId} : or_ok PRD kA GG o_La_seek_at_g4_5 := by
  refine or_mk fun A ta ws vs hD hth hl => ?_
  intro t1 k1 t2 k2 t5 k5 t7 k7 t8 k8 t13 k13 t14 k14 t15 k15 t16 k16 t17 k17 d0 f0 f1 f2 f3 f4 f5 f6 f8
  have nf0 : fc_1 PRD (20, [2, 17, 16, 1], [61, 0, 699]) ws (vs) := ⟨nf_in hl rfl, sgq_1380 (vc_La_seek_at_g4_5_0 (v_iv (n_v vs 1)) (v_iv (n_v vs 2)) (v_iv (n_v vs 5)) (v_iv (n_v vs 7)) (v_iv (n_v vs 8)) (v_iv (n_v vs 13)) (v_iv (n_v vs 14)) (v_iv (n_v vs 15)) (v_iv (n_v vs 16)) (v_iv (n_v vs 17)) k1 k2 k5 k7 k8 k13 k14 k15 k16 k17 d0 (shm_4 f0) (shm_12 f1) (shm_1197 f2) (shm_14 f3) (shm_1380 f4) (shm_1378 f5) (shm_1373 f6) (shm_1083 f8))⟩
  refine ⟨(fun _ h => (by cases h)), [], trivial, ?_, (fun _ h => (by cases h))⟩
  rw [List.append_nil]
  exact List.forall_mem_cons.mpr ⟨⟨show (20 : Nat) < 100 from by decide, nf0⟩, (fun _ h => (by cases h))⟩
set_option maxHeartbeats 4000000 in
theorem vc_La_seek_at_g4_6_0 (x1 : Int) (x2 : Int) (x5 : Int) (x7 : Int) (x8 : Int) (x14 : Int) (x15 : Int) (x22 : Int) (x23 : Int) (x24 : Int) (x25 : Int) (x26 : Int) (k1 : 0 ≤ x1 ∧ x1 ≤ 696) (k2 : 0 ≤ x2 ∧ x2 ≤ 63) (k5 : 2 ≤ x5 ∧ x5 ≤ 4) (k7 : 0 ≤ x7 ∧ x7 ≤ 714) (k8 : 0 ≤ x8 ∧ x8 ≤ 5) (k22 : 1 ≤ x22 ∧ x22 ≤ 1) (k23 : 1 ≤ x23 ∧ x23 ≤ 3) (k24 : 1 ≤ x24 ∧ x24 ≤ 120) (k25 : 1 ≤ x25 ∧ x25 ≤ 834) (k26 : 1 ≤ x26 ∧ x26 ≤ 6) (d0 : x8 + 1 ≤ x26 ∧ x26 ≤ x8 + 1) (f0 : x26 = x8 + 1) (f1 : x25 = x7 + x24) (f2 : TBC (x23) (x24)) (f3 : x23 = x5 - x22) (f5 : SK4 (x2) (x8) (x7) (x1)) (f6 : BL4 (x2)) (f7 : PQ6 (x2) (x5)) (f9 : BBT (x2) (x8)) : SK4 (x2) (x26) (x25) (x1) := by
  first
    | exact ske_step (v := x15) (show SKe 6 x2 x8 x7 x1 from ‹SK4 _ _ _ _›) (by omega) ‹BBT _ _› (tbc_cap (n := x14) (k := 3) (by assumption) (pq6_cap (k := 4) (one := x13) ‹BL4 _› ‹PQ6 _ _› (by assumption) (by omega)) (by decide)) (by omega) (by omega) (by omega)
    | exact ske_step (v := x24) (show SKe 6 x2 x8 x7 x1 from ‹SK4 _ _ _ _›) (by omega) ‹BBT _ _› (tbc_cap (n := x23) (k := 3) (by assumption) (pq6_cap (k := 4) (one := x22) ‹BL4 _› ‹PQ6 _ _› (by assumption) (by omega)) (by decide)) (by omega) (by omega) (by omega)
def o_La_seek_at_g4_6 : or_T := (40, 27, [(1, (0, 0, 696, [])), (2, (0, 0, 63, [])), (5, (0, 2, 4, [])), (7, (0, 0, 714, [])), (8, (0, 0, 5, [])), (22, (0, 1, 1, [])), (23, (0, 1, 3, [])), (24, (0, 1, 120, [])), (25, (0, 1, 834, [])), (26, (0, 1, 6, []))], [(6, [26, 8], [1]), (1, [25, 7, 24], []), (20, [23, 24], [61, 0, 684]), (2, [23, 5, 22], []), (20, [2, 8, 7, 1], [61, 0, 699]), (20, [2], [61, 0, 698]), (20, [2, 5], [61, 0, 704]), (20, [2, 8], [61, 0, 705])], [], [], [(20, [2, 26, 25, 1], [61, 0, 699])], [], [(26, 8, 1, 1)])
theorem oo_La_seek_at_g4_6 {kA : Nat → ClassId} : or_ok PRD kA GG o_La_seek_at_g4_6 := by
  refine or_mk fun A ta ws vs hD hth hl => ?_
  intro t1 k1 t2 k2 t5 k5 t7 k7 t8 k8 t22 k22 t23 k23 t24 k24 t25 k25 t26 k26 d0 f0 f1 f2 f3 f5 f6 f7 f9
  have nf0 : fc_1 PRD (20, [2, 26, 25, 1], [61, 0, 699]) ws (vs) := ⟨nf_in hl rfl, sgq_1380 (vc_La_seek_at_g4_6_0 (v_iv (n_v vs 1)) (v_iv (n_v vs 2)) (v_iv (n_v vs 5)) (v_iv (n_v vs 7)) (v_iv (n_v vs 8)) (v_iv (n_v vs 14)) (v_iv (n_v vs 15)) (v_iv (n_v vs 22)) (v_iv (n_v vs 23)) (v_iv (n_v vs 24)) (v_iv (n_v vs 25)) (v_iv (n_v vs 26)) k1 k2 k5 k7 k8 k22 k23 k24 k25 k26 d0 (shm_4 f0) (shm_12 f1) (shm_1197 f2) (shm_14 f3) (shm_1380 f5) (shm_1378 f6) (shm_1373 f7) (shm_1083 f9))⟩
  refine ⟨(fun _ h => (by cases h)), [], trivial, ?_, (fun _ h => (by cases h))⟩
  rw [List.append_nil]
  exact List.forall_mem_cons.mpr ⟨⟨show (20 : Nat) < 100 from by decide, nf0⟩, (fun _ h => (by cases h))⟩
def n_La_seek_at_g4_an : List an_T := [(40, [(0, (2, 0, 0, [4])), (1, (0, 0, 696, [])), (2, (0, 0, 63, [])), (3, (0, (Int.negSucc 2147483647), 2147483647, [])), (4, (0, (Int.negSucc 2147483646), 1000000, [])), (5, (0, 2, 4, [])), (6, (0, (Int.negSucc 2147483647), 1000000, [])), (7, (0, 0, 834, [])), (8, (0, 0, 6, []))], [], (0, 0), [(0, 0, 99960), (1, 8, 6), (0, 0, 100000), (0, 0, 0), (0, 0, 0)], [(1, 7, (Int.negSucc 999999999999), 0), (7, 8, (Int.negSucc 999999999999), 833)], [], [], 0, [], [(20, [2, 8, 7, 1], [61, 0, 699]), (20, [2], [61, 0, 698]), (20, [2, 5], [61, 0, 704])]), (92, [(0, (2, 0, 0, [4])), (1, (0, 0, 696, [])), (2, (0, 0, 63, [])), (3, (0, (Int.negSucc 2147483647), 2147483647, [])), (4, (0, (Int.negSucc 2147483646), 1000000, [])), (5, (0, 2, 4, [])), (6, (0, (Int.negSucc 2147483647), 1000000, [])), (7, (0, 0, 714, [])), (8, (0, 0, 5, [])), (9, (0, 0, 63, [])), (10, (0, (Int.negSucc 2147483647), 2147483647, [])), (11, (0, 0, 6, []))], [], (0, 0), [(0, 0, 99960), (1, 8, 6), (0, 0, 99908), (1, 11, 6), (0, 0, 100000)], [(1, 7, (Int.negSucc 999999999999), 0)], [], [], 0, [], [(20, [2, 8, 7, 1], [61, 0, 699]), (20, [2], [61, 0, 698]), (20, [2, 5], [61, 0, 704]), (20, [9], [61, 0, 696]), (20, [2, 8], [61, 0, 705])])]
def t_La_seek_at_g4_ct : ct_L := [(6, 225, e_jInt_bitCount_v123), (81, 208, e_jMath_min1_v124), (523, 198, e_La_seek_at_g3), (555, 85, e_La_countOrders_at_gk)]
set_option maxRecDepth 100000 in
theorem c_La_seek_at_g4 {l : Launch} {D : va_G} {kA : Nat → ClassId} (h_La_countOrders_at_gk : ct_ok PRD l D kA GG y_La_countOrders_at_gk z_La_countOrders_at_gk e_La_countOrders_at_gk) (h_La_seek_at_g3 : ct_ok PRD l D kA GG y_La_seek_at_g3 z_La_seek_at_g3 e_La_seek_at_g3) : ct_ok PRD l D kA GG y_La_seek_at_g4 z_La_seek_at_g4 e_La_seek_at_g4 := chk_all_ok (FT := [(75, 4, 19), (78, 4, 20)]) (PT := []) (CT := t_La_seek_at_g4_ct) (KT := []) (NT := []) (AN := n_La_seek_at_g4_an) (OT := [o_La_seek_at_g4_0, o_La_seek_at_g4_1, o_La_seek_at_g4_2, o_La_seek_at_g4_3, o_La_seek_at_g4_4, o_La_seek_at_g4_5, o_La_seek_at_g4_6]) 5 660 (List.forall_mem_cons.mpr ⟨oo_La_seek_at_g4_0, List.forall_mem_cons.mpr ⟨oo_La_seek_at_g4_1, List.forall_mem_cons.mpr ⟨oo_La_seek_at_g4_2, List.forall_mem_cons.mpr ⟨oo_La_seek_at_g4_3, List.forall_mem_cons.mpr ⟨oo_La_seek_at_g4_4, List.forall_mem_cons.mpr ⟨oo_La_seek_at_g4_5, List.forall_mem_cons.mpr ⟨oo_La_seek_at_g4_6, List.forall_mem_nil _⟩⟩⟩⟩⟩⟩⟩) (by decide +kernel) ⟨List.forall_mem_cons.mpr ⟨gf_La_75, List.forall_mem_cons.mpr ⟨gf_La_78, List.forall_mem_nil _⟩⟩, List.forall_mem_nil _, List.forall_mem_cons.mpr ⟨cl_static (y := y_jInt_bitCount) c_jInt_bitCount_v123 wm_870 wm_17 wm_1412 wm_869 ⟨by decide, by decide, by decide +kernel⟩ (by decide), List.forall_mem_cons.mpr ⟨cl_static (y := y_jMath_min1) c_jMath_min1_v124 wm_658 wm_10 wm_1389 wm_657 ⟨by decide, by decide, by decide +kernel⟩ (by decide), List.forall_mem_cons.mpr ⟨cl_virtual (y := y_La_seek_at_g3) (ci := 4) rfl rfl ⟨_, _, rfl⟩ (by decide +kernel) h_La_seek_at_g3 wm_1411 wm_18 wm_1408 wm_1410 wv_5_9 ⟨by decide, by decide, by decide +kernel⟩ (by decide), List.forall_mem_cons.mpr ⟨cl_static (y := y_La_countOrders_at_gk) h_La_countOrders_at_gk wm_1233 wm_18 wm_1231 wm_1232 ⟨by decide, by decide, by decide +kernel⟩ (by decide), List.forall_mem_nil _⟩⟩⟩⟩, List.forall_mem_nil _, List.forall_mem_nil _, GG_pl⟩ (by decide +kernel)
set_option maxHeartbeats 4000000 in
theorem vc_La_seek_at_g5_0_r0 (x2 : Int) (x5 : Int) (k2 : 0 ≤ x2 ∧ x2 ≤ 63) (k5 : 0 ≤ x5 ∧ x5 ≤ 63) (f0 : BCT (x2) (x5)) (f1 : BL5 (x2)) : 0 ≤ x5 ∧ x5 ≤ 5 := by
  first
    | (have w := ‹BL1 _›; unfold BL1 BLe at w; have q := bc6_of ‹BCT _ _› w.1 w.2.1; omega)
    | (have w := ‹BL2 _›; unfold BL2 BLe at w; have q := bc6_of ‹BCT _ _› w.1 w.2.1; omega)
    | (have w := ‹BL3 _›; unfold BL3 BLe at w; have q := bc6_of ‹BCT _ _› w.1 w.2.1; omega)
    | (have w := ‹BL4 _›; unfold BL4 BLe at w; have q := bc6_of ‹BCT _ _› w.1 w.2.1; omega)
    | (have w := ‹BL5 _›; unfold BL5 BLe at w; have q := bc6_of ‹BCT _ _› w.1 w.2.1; omega)
    | (have w := ‹BL6 _›; unfold BL6 BLe at w; have q := bc6_of ‹BCT _ _› w.1 w.2.1; omega)
def o_La_seek_at_g5_0 : or_T := (4, 6, [(2, (0, 0, 63, [])), (5, (0, 0, 63, []))], [(20, [2, 5], [61, 0, 554]), (20, [2], [61, 0, 700])], [(5, (0, 0, 5, []))], [], [], [], [])
theorem oo_La_seek_at_g5_0 {kA : Nat → ClassId} : or_ok PRD kA GG o_La_seek_at_g5_0 := by
  refine or_mk fun A ta ws vs hD hth hl => ?_
  intro t2 k2 t5 k5 f0 f1
  have hrf0 : 0 ≤ v_iv (n_v vs 5) ∧ v_iv (n_v vs 5) ≤ 5 := vc_La_seek_at_g5_0_r0 (v_iv (n_v vs 2)) (v_iv (n_v vs 5)) k2 k5 (shm_15 f0) (shm_1381 f1)
  have rf5 : tv_ok ta (0, 0, 5, []) (n_v vs 5) := tv_in t5 (by first | omega | grind) (by first | omega | grind)
  refine ⟨List.forall_mem_cons.mpr ⟨rf5, (fun _ h => (by cases h))⟩, [], trivial, ?_, (fun _ h => (by cases h))⟩
  rw [List.append_nil]
  exact (fun _ h => (by cases h))
set_option maxHeartbeats 4000000 in
theorem vc_La_seek_at_g5_1_0 (x1 : Int) (x2 : Int) (x7 : Int) (k1 : 0 ≤ x1 ∧ x1 ≤ 600) (k2 : 0 ≤ x2 ∧ x2 ≤ 63) (k7 : 0 ≤ x7 ∧ x7 ≤ 0) : SK5 (x2) (x7) (x1) (x1) := by
  first
    | exact ske_start (by omega) (by omega)
set_option maxHeartbeats 4000000 in
theorem vc_La_seek_at_g5_1_1 (x2 : Int) (x5 : Int) (k2 : 0 ≤ x2 ∧ x2 ≤ 63) (k5 : 2 ≤ x5 ∧ x5 ≤ 5) (f1 : BCT (x2) (x5)) : PQ6 (x2) (x5) := by
  first
    | exact bc6_of ‹BCT _ _› (by omega) (by omega)
def o_La_seek_at_g5_1 : or_T := (40, 8, [(1, (0, 0, 600, [])), (2, (0, 0, 63, [])), (5, (0, 2, 5, [])), (7, (0, 0, 0, []))], [(20, [2, 5], [61, 0, 554])], [], [], [(20, [2, 7, 1, 1], [61, 0, 701]), (20, [2, 5], [61, 0, 704])], [], [])
theorem oo_La_seek_at_g5_1 {kA : Nat → ClassId} : or_ok PRD kA GG o_La_seek_at_g5_1 := by
  refine or_mk fun A ta ws vs hD hth hl => ?_
  intro t1 k1 t2 k2 t5 k5 t7 k7 f1
  have nf0 : fc_1 PRD (20, [2, 7, 1, 1], [61, 0, 701]) ws (vs) := ⟨nf_in hl rfl, sgq_1382 (vc_La_seek_at_g5_1_0 (v_iv (n_v vs 1)) (v_iv (n_v vs 2)) (v_iv (n_v vs 7)) k1 k2 k7)⟩
  have nf1 : fc_1 PRD (20, [2, 5], [61, 0, 704]) ws (vs) := ⟨nf_in hl rfl, sgq_1373 (vc_La_seek_at_g5_1_1 (v_iv (n_v vs 2)) (v_iv (n_v vs 5)) k2 k5 (shm_15 f1))⟩
  refine ⟨(fun _ h => (by cases h)), [], trivial, ?_, (fun _ h => (by cases h))⟩
  rw [List.append_nil]
  exact List.forall_mem_cons.mpr ⟨⟨show (20 : Nat) < 100 from by decide, nf0⟩, List.forall_mem_cons.mpr ⟨⟨show (20 : Nat) < 100 from by decide, nf1⟩, (fun _ h => (by cases h))⟩⟩
set_option maxHeartbeats 4000000 in
theorem vc_La_seek_at_g5_2_r0 (x1 : Int) (x2 : Int) (x7 : Int) (x8 : Int) (x10 : Int) (x11 : Int) (x12 : Int) (k1 : 0 ≤ x1 ∧ x1 ≤ 600) (k2 : 0 ≤ x2 ∧ x2 ≤ 63) (k7 : 0 ≤ x7 ∧ x7 ≤ 816) (k8 : 0 ≤ x8 ∧ x8 ≤ 5) (k10 : 0 ≤ x10 ∧ x10 ≤ 63) (k11 : 1 ≤ x11 ∧ x11 ≤ 1) (k12 : 1 ≤ x12 ∧ x12 ≤ 1) (d1 : x7 + (-4294967296) ≤ x1 ∧ x1 ≤ x7 + 0) (f6 : bvp (x12) = bvp (x10) &&& bvp (x11)) (f7 : bvp (x10) = bvp (x2) >>> (x8).toNat) (f9 : SK5 (x2) (x8) (x7) (x1)) (f10 : BL5 (x2)) : 0 ≤ x7 ∧ x7 ≤ 696 := by
  first
    | (have b := (bit_one (s := x2) (t := x10) (c := x12) (v := x8) (one := x11) (by assumption) (by assumption) (by omega) (by omega) (by omega) (by omega)).2 (by omega); have w := ske_room (show SKe 1 x2 x8 x7 x1 from ‹SK2 _ _ _ _›) (show BLe 2 x2 from ‹BL2 _›) (by omega) b (by omega); omega)
    | (have b : bit x2 x8 := ‹BBT _ _›; have w := ske_room (show SKe 1 x2 x8 x7 x1 from ‹SK2 _ _ _ _›) (show BLe 2 x2 from ‹BL2 _›) (by omega) b (by omega); omega)
    | (have b := (bit_one (s := x2) (t := x10) (c := x12) (v := x8) (one := x11) (by assumption) (by assumption) (by omega) (by omega) (by omega) (by omega)).2 (by omega); have w := ske_room (show SKe 2 x2 x8 x7 x1 from ‹SK3 _ _ _ _›) (show BLe 3 x2 from ‹BL3 _›) (by omega) b (by omega); omega)
    | (have b : bit x2 x8 := ‹BBT _ _›; have w := ske_room (show SKe 2 x2 x8 x7 x1 from ‹SK3 _ _ _ _›) (show BLe 3 x2 from ‹BL3 _›) (by omega) b (by omega); omega)
    | (have b := (bit_one (s := x2) (t := x10) (c := x12) (v := x8) (one := x11) (by assumption) (by assumption) (by omega) (by omega) (by omega) (by omega)).2 (by omega); have w := ske_room (show SKe 6 x2 x8 x7 x1 from ‹SK4 _ _ _ _›) (show BLe 4 x2 from ‹BL4 _›) (by omega) b (by omega); omega)
    | (have b : bit x2 x8 := ‹BBT _ _›; have w := ske_room (show SKe 6 x2 x8 x7 x1 from ‹SK4 _ _ _ _›) (show BLe 4 x2 from ‹BL4 _›) (by omega) b (by omega); omega)
    | (have b := (bit_one (s := x2) (t := x10) (c := x12) (v := x8) (one := x11) (by assumption) (by assumption) (by omega) (by omega) (by omega) (by omega)).2 (by omega); have w := ske_room (show SKe 24 x2 x8 x7 x1 from ‹SK5 _ _ _ _›) (show BLe 5 x2 from ‹BL5 _›) (by omega) b (by omega); omega)
    | (have b : bit x2 x8 := ‹BBT _ _›; have w := ske_room (show SKe 24 x2 x8 x7 x1 from ‹SK5 _ _ _ _›) (show BLe 5 x2 from ‹BL5 _›) (by omega) b (by omega); omega)
    | (have b := (bit_one (s := x2) (t := x10) (c := x12) (v := x8) (one := x11) (by assumption) (by assumption) (by omega) (by omega) (by omega) (by omega)).2 (by omega); have w := ske_room (show SKe 120 x2 x8 x7 x1 from ‹SK6 _ _ _ _›) (show BLe 6 x2 from ‹BL6 _›) (by omega) b (by omega); omega)
    | (have b : bit x2 x8 := ‹BBT _ _›; have w := ske_room (show SKe 120 x2 x8 x7 x1 from ‹SK6 _ _ _ _›) (show BLe 6 x2 from ‹BL6 _›) (by omega) b (by omega); omega)
def o_La_seek_at_g5_2 : or_T := (84, 23, [(1, (0, 0, 600, [])), (2, (0, 0, 63, [])), (5, (0, 2, 5, [])), (7, (0, 0, 816, [])), (8, (0, 0, 5, [])), (9, (0, 6, 6, [])), (10, (0, 0, 63, [])), (11, (0, 1, 1, [])), (12, (0, 1, 1, [])), (13, (0, 1, 1, [])), (14, (0, 1, 32, [])), (15, (0, -1, -1, [])), (16, (0, -2147483648, 2147483647, [])), (17, (0, 0, 63, [])), (19, (0, 1, 1, [])), (20, (0, 1, 4, []))], [(2, [20, 5, 19], []), (16, [17, 2, 16], [0]), (16, [16, 14, 15], [2]), (16, [14, 13, 8], [3]), (8, [12], [1]), (12, [12, 10], [2]), (16, [12, 10, 11], [0]), (16, [10, 2, 8], [4]), (7, [8, 9], [2]), (20, [2, 8, 7, 1], [61, 0, 701]), (20, [2], [61, 0, 700]), (20, [2, 5], [61, 0, 704])], [(7, (0, 0, 696, []))], [], [], [], [(20, 5, -1, -1), (1, 7, -4294967296, 0), (7, 8, -4294967296, 815)])
theorem oo_La_seek_at_g5_2 {kA : Nat → ClassId} : or_ok PRD kA GG o_La_seek_at_g5_2 := by
  refine or_mk fun A ta ws vs hD hth hl => ?_
  intro t1 k1 t2 k2 t5 k5 t7 k7 t8 k8 t9 k9 t10 k10 t11 k11 t12 k12 t13 k13 t14 k14 t15 k15 t16 k16 t17 k17 t19 k19 t20 k20 d0 d1 d2 f0 f1 f2 f3 f4 f5 f6 f7 f8 f9 f10 f11
  have hrf0 : 0 ≤ v_iv (n_v vs 7) ∧ v_iv (n_v vs 7) ≤ 696 := vc_La_seek_at_g5_2_r0 (v_iv (n_v vs 1)) (v_iv (n_v vs 2)) (v_iv (n_v vs 7)) (v_iv (n_v vs 8)) (v_iv (n_v vs 10)) (v_iv (n_v vs 11)) (v_iv (n_v vs 12)) k1 k2 k7 k8 k10 k11 k12 d1 (shm_11 f6) (shm_13 f7) (shm_1383 f9) (shm_1381 f10)
  have rf7 : tv_ok ta (0, 0, 696, []) (n_v vs 7) := tv_in t7 (by first | omega | grind) (by first | omega | grind)
  refine ⟨List.forall_mem_cons.mpr ⟨rf7, (fun _ h => (by cases h))⟩, [], trivial, ?_, (fun _ h => (by cases h))⟩
  rw [List.append_nil]
  exact (fun _ h => (by cases h))
set_option maxHeartbeats 4000000 in
theorem vc_La_seek_at_g5_3_0 (x2 : Int) (x8 : Int) (x10 : Int) (x11 : Int) (x12 : Int) (x13 : Int) (x14 : Int) (x15 : Int) (x16 : Int) (x17 : Int) (k2 : 0 ≤ x2 ∧ x2 ≤ 63) (k8 : 0 ≤ x8 ∧ x8 ≤ 5) (k10 : 0 ≤ x10 ∧ x10 ≤ 63) (k11 : 1 ≤ x11 ∧ x11 ≤ 1) (k12 : 1 ≤ x12 ∧ x12 ≤ 1) (k13 : 1 ≤ x13 ∧ x13 ≤ 1) (k14 : 1 ≤ x14 ∧ x14 ≤ 32) (k15 : (-1) ≤ x15 ∧ x15 ≤ (-1)) (k16 : (-2147483648) ≤ x16 ∧ x16 ≤ 2147483647) (k17 : 0 ≤ x17 ∧ x17 ≤ 63) (f1 : bvp (x17) = bvp (x2) &&& bvp (x16)) (f2 : bvp (x16) = bvp (x14) ^^^ bvp (x15)) (f3 : bvp (x14) = bvp (x13) <<< (x8).toNat) (f6 : bvp (x12) = bvp (x10) &&& bvp (x11)) (f7 : bvp (x10) = bvp (x2) >>> (x8).toNat) (f10 : BL5 (x2)) : BL4 (x17) := by
  first
    | (have b := (bit_one (s := x2) (t := x10) (c := x12) (v := x8) (one := x11) (by assumption) (by assumption) (by omega) (by omega) (by omega) (by omega)).2 (by omega); exact ble_del1 (k := 5) (k_zq := 4) (x := x2) (q := x14) (r := x16) (m1 := x15) (a := x8) (one := x13) ‹BL5 _› (by omega) (by omega) b (by assumption) (by omega) (by assumption) (by omega) (by assumption) (by omega) (by omega) (by omega))
set_option maxHeartbeats 4000000 in
theorem vc_La_seek_at_g5_3_1 (x2 : Int) (x8 : Int) (x10 : Int) (x11 : Int) (x12 : Int) (k2 : 0 ≤ x2 ∧ x2 ≤ 63) (k8 : 0 ≤ x8 ∧ x8 ≤ 5) (k10 : 0 ≤ x10 ∧ x10 ≤ 63) (k11 : 1 ≤ x11 ∧ x11 ≤ 1) (k12 : 1 ≤ x12 ∧ x12 ≤ 1) (f6 : bvp (x12) = bvp (x10) &&& bvp (x11)) (f7 : bvp (x10) = bvp (x2) >>> (x8).toNat) : BBT (x2) (x8) := by
  first
    | (have b := (bit_one (s := x2) (t := x10) (c := x12) (v := x8) (one := x11) (by assumption) (by assumption) (by omega) (by omega) (by omega) (by omega)).2 (by omega); exact b)
def o_La_seek_at_g5_3 : or_T := (92, 27, [(2, (0, 0, 63, [])), (8, (0, 0, 5, [])), (10, (0, 0, 63, [])), (11, (0, 1, 1, [])), (12, (0, 1, 1, [])), (13, (0, 1, 1, [])), (14, (0, 1, 32, [])), (15, (0, -1, -1, [])), (16, (0, -2147483648, 2147483647, [])), (17, (0, 0, 63, []))], [(16, [17, 2, 16], [0]), (16, [16, 14, 15], [2]), (16, [14, 13, 8], [3]), (16, [12, 10, 11], [0]), (16, [10, 2, 8], [4]), (20, [2], [61, 0, 700])], [], [], [(20, [17], [61, 0, 698]), (20, [2, 8], [61, 0, 705])], [], [])
theorem oo_La_seek_at_g5_3 {kA : Nat → ClassId} : or_ok PRD kA GG o_La_seek_at_g5_3 := by
  refine or_mk fun A ta ws vs hD hth hl => ?_
  intro t2 k2 t8 k8 t10 k10 t11 k11 t12 k12 t13 k13 t14 k14 t15 k15 t16 k16 t17 k17 f1 f2 f3 f6 f7 f10
  have nf0 : fc_1 PRD (20, [17], [61, 0, 698]) ws (vs) := ⟨nf_in hl rfl, sgq_1378 (vc_La_seek_at_g5_3_0 (v_iv (n_v vs 2)) (v_iv (n_v vs 8)) (v_iv (n_v vs 10)) (v_iv (n_v vs 11)) (v_iv (n_v vs 12)) (v_iv (n_v vs 13)) (v_iv (n_v vs 14)) (v_iv (n_v vs 15)) (v_iv (n_v vs 16)) (v_iv (n_v vs 17)) k2 k8 k10 k11 k12 k13 k14 k15 k16 k17 (shm_11 f1) (shm_33 f2) (shm_349 f3) (shm_11 f6) (shm_13 f7) (shm_1381 f10))⟩
  have nf1 : fc_1 PRD (20, [2, 8], [61, 0, 705]) ws (vs) := ⟨nf_in hl rfl, sgq_1083 (vc_La_seek_at_g5_3_1 (v_iv (n_v vs 2)) (v_iv (n_v vs 8)) (v_iv (n_v vs 10)) (v_iv (n_v vs 11)) (v_iv (n_v vs 12)) k2 k8 k10 k11 k12 (shm_11 f6) (shm_13 f7))⟩
  refine ⟨(fun _ h => (by cases h)), [], trivial, ?_, (fun _ h => (by cases h))⟩
  rw [List.append_nil]
  exact List.forall_mem_cons.mpr ⟨⟨show (20 : Nat) < 100 from by decide, nf0⟩, List.forall_mem_cons.mpr ⟨⟨show (20 : Nat) < 100 from by decide, nf1⟩, (fun _ h => (by cases h))⟩⟩
set_option maxHeartbeats 4000000 in
theorem vc_La_seek_at_g5_4_0 (x1 : Int) (x2 : Int) (x7 : Int) (x8 : Int) (x13 : Int) (k1 : 0 ≤ x1 ∧ x1 ≤ 600) (k2 : 0 ≤ x2 ∧ x2 ≤ 63) (k7 : 0 ≤ x7 ∧ x7 ≤ 816) (k8 : 0 ≤ x8 ∧ x8 ≤ 5) (k13 : 1 ≤ x13 ∧ x13 ≤ 6) (d0 : x8 + 1 ≤ x13 ∧ x13 ≤ x8 + 1) (f0 : x13 = x8 + 1) (f6 : SK5 (x2) (x8) (x7) (x1)) : SK5 (x2) (x13) (x7) (x1) := by
  first
    | exact ske_skip (show SKe 24 x2 x8 x7 x1 from ‹SK5 _ _ _ _›) (by omega) (by omega) (by omega)
def o_La_seek_at_g5_4 : or_T := (40, 14, [(1, (0, 0, 600, [])), (2, (0, 0, 63, [])), (7, (0, 0, 816, [])), (8, (0, 0, 5, [])), (13, (0, 1, 6, []))], [(6, [13, 8], [1]), (20, [2, 8, 7, 1], [61, 0, 701])], [], [], [(20, [2, 13, 7, 1], [61, 0, 701])], [], [(13, 8, 1, 1)])
theorem oo_La_seek_at_g5_4 {kA : Nat → ClassId} : or_ok PRD kA GG o_La_seek_at_g5_4 := by
  refine or_mk fun A ta ws vs hD hth hl => ?_
  intro t1 k1 t2 k2 t7 k7 t8 k8 t13 k13 d0 f0 f6
  have nf0 : fc_1 PRD (20, [2, 13, 7, 1], [61, 0, 701]) ws (vs) := ⟨nf_in hl rfl, sgq_1383 (vc_La_seek_at_g5_4_0 (v_iv (n_v vs 1)) (v_iv (n_v vs 2)) (v_iv (n_v vs 7)) (v_iv (n_v vs 8)) (v_iv (n_v vs 13)) k1 k2 k7 k8 k13 d0 (shm_4 f0) (shm_1383 f6))⟩
  refine ⟨(fun _ h => (by cases h)), [], trivial, ?_, (fun _ h => (by cases h))⟩
  rw [List.append_nil]
  exact List.forall_mem_cons.mpr ⟨⟨show (20 : Nat) < 100 from by decide, nf0⟩, (fun _ h => (by cases h))⟩
set_option maxHeartbeats 4000000 in
theorem vc_La_seek_at_g5_5_0 (x1 : Int) (x2 : Int) (x5 : Int) (x7 : Int) (x8 : Int) (x13 : Int) (x14 : Int) (x15 : Int) (x16 : Int) (x17 : Int) (k1 : 0 ≤ x1 ∧ x1 ≤ 600) (k2 : 0 ≤ x2 ∧ x2 ≤ 63) (k5 : 2 ≤ x5 ∧ x5 ≤ 5) (k7 : 0 ≤ x7 ∧ x7 ≤ 696) (k8 : 0 ≤ x8 ∧ x8 ≤ 5) (k13 : 1 ≤ x13 ∧ x13 ≤ 1) (k14 : 1 ≤ x14 ∧ x14 ≤ 4) (k15 : 1 ≤ x15 ∧ x15 ≤ 120) (k16 : 1 ≤ x16 ∧ x16 ≤ 816) (k17 : 1 ≤ x17 ∧ x17 ≤ 6) (d0 : x8 + 1 ≤ x17 ∧ x17 ≤ x8 + 1) (f0 : x17 = x8 + 1) (f1 : x16 = x7 + x15) (f2 : TBC (x14) (x15)) (f3 : x14 = x5 - x13) (f4 : SK5 (x2) (x8) (x7) (x1)) (f5 : BL5 (x2)) (f6 : PQ6 (x2) (x5)) (f8 : BBT (x2) (x8)) : SK5 (x2) (x17) (x16) (x1) := by
  first
    | exact ske_step (v := x15) (show SKe 24 x2 x8 x7 x1 from ‹SK5 _ _ _ _›) (by omega) ‹BBT _ _› (tbc_cap (n := x14) (k := 4) (by assumption) (pq6_cap (k := 5) (one := x13) ‹BL5 _› ‹PQ6 _ _› (by assumption) (by omega)) (by decide)) (by omega) (by omega) (by omega)
    | exact ske_step (v := x24) (show SKe 24 x2 x8 x7 x1 from ‹SK5 _ _ _ _›) (by omega) ‹BBT _ _› (tbc_cap (n := x23) (k := 4) (by assumption) (pq6_cap (k := 5) (one := x22) ‹BL5 _› ‹PQ6 _ _› (by assumption) (by omega)) (by decide)) (by omega) (by omega) (by omega)
def o_La_seek_at_g5_5 : or_T := (40, 18, [(1, (0, 0, 600, [])), (2, (0, 0, 63, [])), (5, (0, 2, 5, [])), (7, (0, 0, 696, [])), (8, (0, 0, 5, [])), (13, (0, 1, 1, [])), (14, (0, 1, 4, [])), (15, (0, 1, 120, [])), (16, (0, 1, 816, [])), (17, (0, 1, 6, []))], [(6, [17, 8], [1]), (1, [16, 7, 15], []), (20, [14, 15], [61, 0, 684]), (2, [14, 5, 13], []), (20, [2, 8, 7, 1], [61, 0, 701]), (20, [2], [61, 0, 700]), (20, [2, 5], [61, 0, 704]), (20, [2, 8], [61, 0, 705])], [], [], [(20, [2, 17, 16, 1], [61, 0, 701])], [], [(17, 8, 1, 1)])
theorem oo_La_seek_at_g5_5 {kA : Nat → ClassId} : or_ok PRD kA GG o_La_seek_at_g5_5 := by
  refine or_mk fun A ta ws vs hD hth hl => ?_
  intro t1 k1 t2 k2 t5 k5 t7 k7 t8 k8 t13 k13 t14 k14 t15 k15 t16 k16 t17 k17 d0 f0 f1 f2 f3 f4 f5 f6 f8
  have nf0 : fc_1 PRD (20, [2, 17, 16, 1], [61, 0, 701]) ws (vs) := ⟨nf_in hl rfl, sgq_1383 (vc_La_seek_at_g5_5_0 (v_iv (n_v vs 1)) (v_iv (n_v vs 2)) (v_iv (n_v vs 5)) (v_iv (n_v vs 7)) (v_iv (n_v vs 8)) (v_iv (n_v vs 13)) (v_iv (n_v vs 14)) (v_iv (n_v vs 15)) (v_iv (n_v vs 16)) (v_iv (n_v vs 17)) k1 k2 k5 k7 k8 k13 k14 k15 k16 k17 d0 (shm_4 f0) (shm_12 f1) (shm_1197 f2) (shm_14 f3) (shm_1383 f4) (shm_1381 f5) (shm_1373 f6) (shm_1083 f8))⟩
  refine ⟨(fun _ h => (by cases h)), [], trivial, ?_, (fun _ h => (by cases h))⟩
  rw [List.append_nil]
  exact List.forall_mem_cons.mpr ⟨⟨show (20 : Nat) < 100 from by decide, nf0⟩, (fun _ h => (by cases h))⟩
set_option maxHeartbeats 4000000 in
theorem vc_La_seek_at_g5_6_0 (x1 : Int) (x2 : Int) (x5 : Int) (x7 : Int) (x8 : Int) (x14 : Int) (x15 : Int) (x22 : Int) (x23 : Int) (x24 : Int) (x25 : Int) (x26 : Int) (k1 : 0 ≤ x1 ∧ x1 ≤ 600) (k2 : 0 ≤ x2 ∧ x2 ≤ 63) (k5 : 2 ≤ x5 ∧ x5 ≤ 5) (k7 : 0 ≤ x7 ∧ x7 ≤ 696) (k8 : 0 ≤ x8 ∧ x8 ≤ 5) (k22 : 1 ≤ x22 ∧ x22 ≤ 1) (k23 : 1 ≤ x23 ∧ x23 ≤ 4) (k24 : 1 ≤ x24 ∧ x24 ≤ 120) (k25 : 1 ≤ x25 ∧ x25 ≤ 816) (k26 : 1 ≤ x26 ∧ x26 ≤ 6) (d0 : x8 + 1 ≤ x26 ∧ x26 ≤ x8 + 1) (f0 : x26 = x8 + 1) (f1 : x25 = x7 + x24) (f2 : TBC (x23) (x24)) (f3 : x23 = x5 - x22) (f5 : SK5 (x2) (x8) (x7) (x1)) (f6 : BL5 (x2)) (f7 : PQ6 (x2) (x5)) (f9 : BBT (x2) (x8)) : SK5 (x2) (x26) (x25) (x1) := by
  first
    | exact ske_step (v := x15) (show SKe 24 x2 x8 x7 x1 from ‹SK5 _ _ _ _›) (by omega) ‹BBT _ _› (tbc_cap (n := x14) (k := 4) (by assumption) (pq6_cap (k := 5) (one := x13) ‹BL5 _› ‹PQ6 _ _› (by assumption) (by omega)) (by decide)) (by omega) (by omega) (by omega)
    | exact ske_step (v := x24) (show SKe 24 x2 x8 x7 x1 from ‹SK5 _ _ _ _›) (by omega) ‹BBT _ _› (tbc_cap (n := x23) (k := 4) (by assumption) (pq6_cap (k := 5) (one := x22) ‹BL5 _› ‹PQ6 _ _› (by assumption) (by omega)) (by decide)) (by omega) (by omega) (by omega)
def o_La_seek_at_g5_6 : or_T := (40, 27, [(1, (0, 0, 600, [])), (2, (0, 0, 63, [])), (5, (0, 2, 5, [])), (7, (0, 0, 696, [])), (8, (0, 0, 5, [])), (22, (0, 1, 1, [])), (23, (0, 1, 4, [])), (24, (0, 1, 120, [])), (25, (0, 1, 816, [])), (26, (0, 1, 6, []))], [(6, [26, 8], [1]), (1, [25, 7, 24], []), (20, [23, 24], [61, 0, 684]), (2, [23, 5, 22], []), (20, [2, 8, 7, 1], [61, 0, 701]), (20, [2], [61, 0, 700]), (20, [2, 5], [61, 0, 704]), (20, [2, 8], [61, 0, 705])], [], [], [(20, [2, 26, 25, 1], [61, 0, 701])], [], [(26, 8, 1, 1)])
theorem oo_La_seek_at_g5_6 {kA : Nat → ClassId} : or_ok PRD kA GG o_La_seek_at_g5_6 := by
  refine or_mk fun A ta ws vs hD hth hl => ?_
  intro t1 k1 t2 k2 t5 k5 t7 k7 t8 k8 t22 k22 t23 k23 t24 k24 t25 k25 t26 k26 d0 f0 f1 f2 f3 f5 f6 f7 f9
  have nf0 : fc_1 PRD (20, [2, 26, 25, 1], [61, 0, 701]) ws (vs) := ⟨nf_in hl rfl, sgq_1383 (vc_La_seek_at_g5_6_0 (v_iv (n_v vs 1)) (v_iv (n_v vs 2)) (v_iv (n_v vs 5)) (v_iv (n_v vs 7)) (v_iv (n_v vs 8)) (v_iv (n_v vs 14)) (v_iv (n_v vs 15)) (v_iv (n_v vs 22)) (v_iv (n_v vs 23)) (v_iv (n_v vs 24)) (v_iv (n_v vs 25)) (v_iv (n_v vs 26)) k1 k2 k5 k7 k8 k22 k23 k24 k25 k26 d0 (shm_4 f0) (shm_12 f1) (shm_1197 f2) (shm_14 f3) (shm_1383 f5) (shm_1381 f6) (shm_1373 f7) (shm_1083 f9))⟩
  refine ⟨(fun _ h => (by cases h)), [], trivial, ?_, (fun _ h => (by cases h))⟩
  rw [List.append_nil]
  exact List.forall_mem_cons.mpr ⟨⟨show (20 : Nat) < 100 from by decide, nf0⟩, (fun _ h => (by cases h))⟩
def n_La_seek_at_g5_an : List an_T := [(40, [(0, (2, 0, 0, [4])), (1, (0, 0, 600, [])), (2, (0, 0, 63, [])), (3, (0, (Int.negSucc 2147483647), 2147483647, [])), (4, (0, (Int.negSucc 2147483646), 1000000, [])), (5, (0, 2, 5, [])), (6, (0, (Int.negSucc 2147483647), 1000000, [])), (7, (0, 0, 816, [])), (8, (0, 0, 6, []))], [], (0, 0), [(0, 0, 99960), (1, 8, 6), (0, 0, 100000), (0, 0, 0), (0, 0, 0)], [(1, 7, (Int.negSucc 999999999999), 0), (7, 8, (Int.negSucc 999999999999), 815)], [], [], 0, [], [(20, [2, 8, 7, 1], [61, 0, 701]), (20, [2], [61, 0, 700]), (20, [2, 5], [61, 0, 704])]), (92, [(0, (2, 0, 0, [4])), (1, (0, 0, 600, [])), (2, (0, 0, 63, [])), (3, (0, (Int.negSucc 2147483647), 2147483647, [])), (4, (0, (Int.negSucc 2147483646), 1000000, [])), (5, (0, 2, 5, [])), (6, (0, (Int.negSucc 2147483647), 1000000, [])), (7, (0, 0, 696, [])), (8, (0, 0, 5, [])), (9, (0, 0, 63, [])), (10, (0, (Int.negSucc 2147483647), 2147483647, [])), (11, (0, 0, 6, []))], [], (0, 0), [(0, 0, 99960), (1, 8, 6), (0, 0, 99908), (1, 11, 6), (0, 0, 100000)], [(1, 7, (Int.negSucc 999999999999), 0)], [], [], 0, [], [(20, [2, 8, 7, 1], [61, 0, 701]), (20, [2], [61, 0, 700]), (20, [2, 5], [61, 0, 704]), (20, [9], [61, 0, 698]), (20, [2, 8], [61, 0, 705])])]
def t_La_seek_at_g5_ct : ct_L := [(6, 225, e_jInt_bitCount_v123), (81, 208, e_jMath_min1_v124), (523, 198, e_La_seek_at_g4), (555, 85, e_La_countOrders_at_gk)]
set_option maxRecDepth 100000 in
theorem c_La_seek_at_g5 {l : Launch} {D : va_G} {kA : Nat → ClassId} (h_La_countOrders_at_gk : ct_ok PRD l D kA GG y_La_countOrders_at_gk z_La_countOrders_at_gk e_La_countOrders_at_gk) (h_La_seek_at_g4 : ct_ok PRD l D kA GG y_La_seek_at_g4 z_La_seek_at_g4 e_La_seek_at_g4) : ct_ok PRD l D kA GG y_La_seek_at_g5 z_La_seek_at_g5 e_La_seek_at_g5 := chk_all_ok (FT := [(75, 4, 19), (78, 4, 20)]) (PT := []) (CT := t_La_seek_at_g5_ct) (KT := []) (NT := []) (AN := n_La_seek_at_g5_an) (OT := [o_La_seek_at_g5_0, o_La_seek_at_g5_1, o_La_seek_at_g5_2, o_La_seek_at_g5_3, o_La_seek_at_g5_4, o_La_seek_at_g5_5, o_La_seek_at_g5_6]) 5 660 (List.forall_mem_cons.mpr ⟨oo_La_seek_at_g5_0, List.forall_mem_cons.mpr ⟨oo_La_seek_at_g5_1, List.forall_mem_cons.mpr ⟨oo_La_seek_at_g5_2, List.forall_mem_cons.mpr ⟨oo_La_seek_at_g5_3, List.forall_mem_cons.mpr ⟨oo_La_seek_at_g5_4, List.forall_mem_cons.mpr ⟨oo_La_seek_at_g5_5, List.forall_mem_cons.mpr ⟨oo_La_seek_at_g5_6, List.forall_mem_nil _⟩⟩⟩⟩⟩⟩⟩) (by decide +kernel) ⟨List.forall_mem_cons.mpr ⟨gf_La_75, List.forall_mem_cons.mpr ⟨gf_La_78, List.forall_mem_nil _⟩⟩, List.forall_mem_nil _, List.forall_mem_cons.mpr ⟨cl_static (y := y_jInt_bitCount) c_jInt_bitCount_v123 wm_870 wm_17 wm_1412 wm_869 ⟨by decide, by decide, by decide +kernel⟩ (by decide), List.forall_mem_cons.mpr ⟨cl_static (y := y_jMath_min1) c_jMath_min1_v124 wm_658 wm_10 wm_1389 wm_657 ⟨by decide, by decide, by decide +kernel⟩ (by decide), List.forall_mem_cons.mpr ⟨cl_virtual (y := y_La_seek_at_g4) (ci := 4) rfl rfl ⟨_, _, rfl⟩ (by decide +kernel) h_La_seek_at_g4 wm_1411 wm_18 wm_1408 wm_1410 wv_5_9 ⟨by decide, by decide, by decide +kernel⟩ (by decide), List.forall_mem_cons.mpr ⟨cl_static (y := y_La_countOrders_at_gk) h_La_countOrders_at_gk wm_1233 wm_18 wm_1231 wm_1232 ⟨by decide, by decide, by decide +kernel⟩ (by decide), List.forall_mem_nil _⟩⟩⟩⟩, List.forall_mem_nil _, List.forall_mem_nil _, GG_pl⟩ (by decide +kernel)
set_option maxHeartbeats 4000000 in
theorem vc_La_seek_at_g6_0_r0 (x2 : Int) (x5 : Int) (k2 : 0 ≤ x2 ∧ x2 ≤ 63) (k5 : 0 ≤ x5 ∧ x5 ≤ 63) (f0 : BCT (x2) (x5)) (f1 : BL6 (x2)) : 0 ≤ x5 ∧ x5 ≤ 6 := by
  first
    | (have w := ‹BL1 _›; unfold BL1 BLe at w; have q := bc6_of ‹BCT _ _› w.1 w.2.1; omega)
    | (have w := ‹BL2 _›; unfold BL2 BLe at w; have q := bc6_of ‹BCT _ _› w.1 w.2.1; omega)
    | (have w := ‹BL3 _›; unfold BL3 BLe at w; have q := bc6_of ‹BCT _ _› w.1 w.2.1; omega)
    | (have w := ‹BL4 _›; unfold BL4 BLe at w; have q := bc6_of ‹BCT _ _› w.1 w.2.1; omega)
    | (have w := ‹BL5 _›; unfold BL5 BLe at w; have q := bc6_of ‹BCT _ _› w.1 w.2.1; omega)
    | (have w := ‹BL6 _›; unfold BL6 BLe at w; have q := bc6_of ‹BCT _ _› w.1 w.2.1; omega)
def o_La_seek_at_g6_0 : or_T := (4, 6, [(2, (0, 0, 63, [])), (5, (0, 0, 63, []))], [(20, [2, 5], [61, 0, 554]), (20, [2], [61, 0, 702])], [(5, (0, 0, 6, []))], [], [], [], [])
theorem oo_La_seek_at_g6_0 {kA : Nat → ClassId} : or_ok PRD kA GG o_La_seek_at_g6_0 := by
  refine or_mk fun A ta ws vs hD hth hl => ?_
  intro t2 k2 t5 k5 f0 f1
  have hrf0 : 0 ≤ v_iv (n_v vs 5) ∧ v_iv (n_v vs 5) ≤ 6 := vc_La_seek_at_g6_0_r0 (v_iv (n_v vs 2)) (v_iv (n_v vs 5)) k2 k5 (shm_15 f0) (shm_1384 f1)
  have rf5 : tv_ok ta (0, 0, 6, []) (n_v vs 5) := tv_in t5 (by first | omega | grind) (by first | omega | grind)
  refine ⟨List.forall_mem_cons.mpr ⟨rf5, (fun _ h => (by cases h))⟩, [], trivial, ?_, (fun _ h => (by cases h))⟩
  rw [List.append_nil]
  exact (fun _ h => (by cases h))
set_option maxHeartbeats 4000000 in
theorem vc_La_seek_at_g6_1_0 (x1 : Int) (x2 : Int) (x7 : Int) (k1 : 0 ≤ x1 ∧ x1 ≤ 0) (k2 : 0 ≤ x2 ∧ x2 ≤ 63) (k7 : 0 ≤ x7 ∧ x7 ≤ 0) : SK6 (x2) (x7) (x1) (x1) := by
  first
    | exact ske_start (by omega) (by omega)
set_option maxHeartbeats 4000000 in
theorem vc_La_seek_at_g6_1_1 (x2 : Int) (x5 : Int) (k2 : 0 ≤ x2 ∧ x2 ≤ 63) (k5 : 2 ≤ x5 ∧ x5 ≤ 6) (f1 : BCT (x2) (x5)) : PQ6 (x2) (x5) := by
  first
    | exact bc6_of ‹BCT _ _› (by omega) (by omega)
def o_La_seek_at_g6_1 : or_T := (40, 8, [(1, (0, 0, 0, [])), (2, (0, 0, 63, [])), (5, (0, 2, 6, [])), (7, (0, 0, 0, []))], [(20, [2, 5], [61, 0, 554])], [], [], [(20, [2, 7, 1, 1], [61, 0, 703]), (20, [2, 5], [61, 0, 704])], [], [])
theorem oo_La_seek_at_g6_1 {kA : Nat → ClassId} : or_ok PRD kA GG o_La_seek_at_g6_1 := by
  refine or_mk fun A ta ws vs hD hth hl => ?_
  intro t1 k1 t2 k2 t5 k5 t7 k7 f1
  have nf0 : fc_1 PRD (20, [2, 7, 1, 1], [61, 0, 703]) ws (vs) := ⟨nf_in hl rfl, sgq_1385 (vc_La_seek_at_g6_1_0 (v_iv (n_v vs 1)) (v_iv (n_v vs 2)) (v_iv (n_v vs 7)) k1 k2 k7)⟩
  have nf1 : fc_1 PRD (20, [2, 5], [61, 0, 704]) ws (vs) := ⟨nf_in hl rfl, sgq_1373 (vc_La_seek_at_g6_1_1 (v_iv (n_v vs 2)) (v_iv (n_v vs 5)) k2 k5 (shm_15 f1))⟩
  refine ⟨(fun _ h => (by cases h)), [], trivial, ?_, (fun _ h => (by cases h))⟩
  rw [List.append_nil]
  exact List.forall_mem_cons.mpr ⟨⟨show (20 : Nat) < 100 from by decide, nf0⟩, List.forall_mem_cons.mpr ⟨⟨show (20 : Nat) < 100 from by decide, nf1⟩, (fun _ h => (by cases h))⟩⟩
set_option maxHeartbeats 4000000 in
theorem vc_La_seek_at_g6_2_r0 (x1 : Int) (x2 : Int) (x7 : Int) (x8 : Int) (x10 : Int) (x11 : Int) (x12 : Int) (k1 : 0 ≤ x1 ∧ x1 ≤ 0) (k2 : 0 ≤ x2 ∧ x2 ≤ 63) (k7 : 0 ≤ x7 ∧ x7 ≤ 720) (k8 : 0 ≤ x8 ∧ x8 ≤ 5) (k10 : 0 ≤ x10 ∧ x10 ≤ 63) (k11 : 1 ≤ x11 ∧ x11 ≤ 1) (k12 : 1 ≤ x12 ∧ x12 ≤ 1) (f6 : bvp (x12) = bvp (x10) &&& bvp (x11)) (f7 : bvp (x10) = bvp (x2) >>> (x8).toNat) (f9 : SK6 (x2) (x8) (x7) (x1)) (f10 : BL6 (x2)) : 0 ≤ x7 ∧ x7 ≤ 600 := by
  first
    | (have b := (bit_one (s := x2) (t := x10) (c := x12) (v := x8) (one := x11) (by assumption) (by assumption) (by omega) (by omega) (by omega) (by omega)).2 (by omega); have w := ske_room (show SKe 1 x2 x8 x7 x1 from ‹SK2 _ _ _ _›) (show BLe 2 x2 from ‹BL2 _›) (by omega) b (by omega); omega)
    | (have b : bit x2 x8 := ‹BBT _ _›; have w := ske_room (show SKe 1 x2 x8 x7 x1 from ‹SK2 _ _ _ _›) (show BLe 2 x2 from ‹BL2 _›) (by omega) b (by omega); omega)
    | (have b := (bit_one (s := x2) (t := x10) (c := x12) (v := x8) (one := x11) (by assumption) (by assumption) (by omega) (by omega) (by omega) (by omega)).2 (by omega); have w := ske_room (show SKe 2 x2 x8 x7 x1 from ‹SK3 _ _ _ _›) (show BLe 3 x2 from ‹BL3 _›) (by omega) b (by omega); omega)
    | (have b : bit x2 x8 := ‹BBT _ _›; have w := ske_room (show SKe 2 x2 x8 x7 x1 from ‹SK3 _ _ _ _›) (show BLe 3 x2 from ‹BL3 _›) (by omega) b (by omega); omega)
    | (have b := (bit_one (s := x2) (t := x10) (c := x12) (v := x8) (one := x11) (by assumption) (by assumption) (by omega) (by omega) (by omega) (by omega)).2 (by omega); have w := ske_room (show SKe 6 x2 x8 x7 x1 from ‹SK4 _ _ _ _›) (show BLe 4 x2 from ‹BL4 _›) (by omega) b (by omega); omega)
    | (have b : bit x2 x8 := ‹BBT _ _›; have w := ske_room (show SKe 6 x2 x8 x7 x1 from ‹SK4 _ _ _ _›) (show BLe 4 x2 from ‹BL4 _›) (by omega) b (by omega); omega)
    | (have b := (bit_one (s := x2) (t := x10) (c := x12) (v := x8) (one := x11) (by assumption) (by assumption) (by omega) (by omega) (by omega) (by omega)).2 (by omega); have w := ske_room (show SKe 24 x2 x8 x7 x1 from ‹SK5 _ _ _ _›) (show BLe 5 x2 from ‹BL5 _›) (by omega) b (by omega); omega)
    | (have b : bit x2 x8 := ‹BBT _ _›; have w := ske_room (show SKe 24 x2 x8 x7 x1 from ‹SK5 _ _ _ _›) (show BLe 5 x2 from ‹BL5 _›) (by omega) b (by omega); omega)
    | (have b := (bit_one (s := x2) (t := x10) (c := x12) (v := x8) (one := x11) (by assumption) (by assumption) (by omega) (by omega) (by omega) (by omega)).2 (by omega); have w := ske_room (show SKe 120 x2 x8 x7 x1 from ‹SK6 _ _ _ _›) (show BLe 6 x2 from ‹BL6 _›) (by omega) b (by omega); omega)
    | (have b : bit x2 x8 := ‹BBT _ _›; have w := ske_room (show SKe 120 x2 x8 x7 x1 from ‹SK6 _ _ _ _›) (show BLe 6 x2 from ‹BL6 _›) (by omega) b (by omega); omega)
def o_La_seek_at_g6_2 : or_T := (84, 23, [(1, (0, 0, 0, [])), (2, (0, 0, 63, [])), (5, (0, 2, 6, [])), (7, (0, 0, 720, [])), (8, (0, 0, 5, [])), (9, (0, 6, 6, [])), (10, (0, 0, 63, [])), (11, (0, 1, 1, [])), (12, (0, 1, 1, [])), (13, (0, 1, 1, [])), (14, (0, 1, 32, [])), (15, (0, -1, -1, [])), (16, (0, -2147483648, 2147483647, [])), (17, (0, 0, 63, [])), (19, (0, 1, 1, [])), (20, (0, 1, 5, []))], [(2, [20, 5, 19], []), (16, [17, 2, 16], [0]), (16, [16, 14, 15], [2]), (16, [14, 13, 8], [3]), (8, [12], [1]), (12, [12, 10], [2]), (16, [12, 10, 11], [0]), (16, [10, 2, 8], [4]), (7, [8, 9], [2]), (20, [2, 8, 7, 1], [61, 0, 703]), (20, [2], [61, 0, 702]), (20, [2, 5], [61, 0, 704])], [(7, (0, 0, 600, []))], [], [], [], [(20, 5, -1, -1)])
theorem oo_La_seek_at_g6_2 {kA : Nat → ClassId} : or_ok PRD kA GG o_La_seek_at_g6_2 := by
  refine or_mk fun A ta ws vs hD hth hl => ?_
  intro t1 k1 t2 k2 t5 k5 t7 k7 t8 k8 t9 k9 t10 k10 t11 k11 t12 k12 t13 k13 t14 k14 t15 k15 t16 k16 t17 k17 t19 k19 t20 k20 d0 f0 f1 f2 f3 f4 f5 f6 f7 f8 f9 f10 f11
  have hrf0 : 0 ≤ v_iv (n_v vs 7) ∧ v_iv (n_v vs 7) ≤ 600 := vc_La_seek_at_g6_2_r0 (v_iv (n_v vs 1)) (v_iv (n_v vs 2)) (v_iv (n_v vs 7)) (v_iv (n_v vs 8)) (v_iv (n_v vs 10)) (v_iv (n_v vs 11)) (v_iv (n_v vs 12)) k1 k2 k7 k8 k10 k11 k12 (shm_11 f6) (shm_13 f7) (shm_1386 f9) (shm_1384 f10)
  have rf7 : tv_ok ta (0, 0, 600, []) (n_v vs 7) := tv_in t7 (by first | omega | grind) (by first | omega | grind)
  refine ⟨List.forall_mem_cons.mpr ⟨rf7, (fun _ h => (by cases h))⟩, [], trivial, ?_, (fun _ h => (by cases h))⟩
  rw [List.append_nil]
  exact (fun _ h => (by cases h))
set_option maxHeartbeats 4000000 in
theorem vc_La_seek_at_g6_3_0 (x2 : Int) (x8 : Int) (x10 : Int) (x11 : Int) (x12 : Int) (x13 : Int) (x14 : Int) (x15 : Int) (x16 : Int) (x17 : Int) (k2 : 0 ≤ x2 ∧ x2 ≤ 63) (k8 : 0 ≤ x8 ∧ x8 ≤ 5) (k10 : 0 ≤ x10 ∧ x10 ≤ 63) (k11 : 1 ≤ x11 ∧ x11 ≤ 1) (k12 : 1 ≤ x12 ∧ x12 ≤ 1) (k13 : 1 ≤ x13 ∧ x13 ≤ 1) (k14 : 1 ≤ x14 ∧ x14 ≤ 32) (k15 : (-1) ≤ x15 ∧ x15 ≤ (-1)) (k16 : (-2147483648) ≤ x16 ∧ x16 ≤ 2147483647) (k17 : 0 ≤ x17 ∧ x17 ≤ 63) (f1 : bvp (x17) = bvp (x2) &&& bvp (x16)) (f2 : bvp (x16) = bvp (x14) ^^^ bvp (x15)) (f3 : bvp (x14) = bvp (x13) <<< (x8).toNat) (f6 : bvp (x12) = bvp (x10) &&& bvp (x11)) (f7 : bvp (x10) = bvp (x2) >>> (x8).toNat) (f10 : BL6 (x2)) : BL5 (x17) := by
  first
    | (have b := (bit_one (s := x2) (t := x10) (c := x12) (v := x8) (one := x11) (by assumption) (by assumption) (by omega) (by omega) (by omega) (by omega)).2 (by omega); exact ble_del1 (k := 6) (k_zq := 5) (x := x2) (q := x14) (r := x16) (m1 := x15) (a := x8) (one := x13) ‹BL6 _› (by omega) (by omega) b (by assumption) (by omega) (by assumption) (by omega) (by assumption) (by omega) (by omega) (by omega))
set_option maxHeartbeats 4000000 in
theorem vc_La_seek_at_g6_3_1 (x2 : Int) (x8 : Int) (x10 : Int) (x11 : Int) (x12 : Int) (k2 : 0 ≤ x2 ∧ x2 ≤ 63) (k8 : 0 ≤ x8 ∧ x8 ≤ 5) (k10 : 0 ≤ x10 ∧ x10 ≤ 63) (k11 : 1 ≤ x11 ∧ x11 ≤ 1) (k12 : 1 ≤ x12 ∧ x12 ≤ 1) (f6 : bvp (x12) = bvp (x10) &&& bvp (x11)) (f7 : bvp (x10) = bvp (x2) >>> (x8).toNat) : BBT (x2) (x8) := by
  first
    | (have b := (bit_one (s := x2) (t := x10) (c := x12) (v := x8) (one := x11) (by assumption) (by assumption) (by omega) (by omega) (by omega) (by omega)).2 (by omega); exact b)
def o_La_seek_at_g6_3 : or_T := (92, 27, [(2, (0, 0, 63, [])), (8, (0, 0, 5, [])), (10, (0, 0, 63, [])), (11, (0, 1, 1, [])), (12, (0, 1, 1, [])), (13, (0, 1, 1, [])), (14, (0, 1, 32, [])), (15, (0, -1, -1, [])), (16, (0, -2147483648, 2147483647, [])), (17, (0, 0, 63, []))], [(16, [17, 2, 16], [0]), (16, [16, 14, 15], [2]), (16, [14, 13, 8], [3]), (16, [12, 10, 11], [0]), (16, [10, 2, 8], [4]), (20, [2], [61, 0, 702])], [], [], [(20, [17], [61, 0, 700]), (20, [2, 8], [61, 0, 705])], [], [])
theorem oo_La_seek_at_g6_3 {kA : Nat → ClassId} : or_ok PRD kA GG o_La_seek_at_g6_3 := by
  refine or_mk fun A ta ws vs hD hth hl => ?_
  intro t2 k2 t8 k8 t10 k10 t11 k11 t12 k12 t13 k13 t14 k14 t15 k15 t16 k16 t17 k17 f1 f2 f3 f6 f7 f10
  have nf0 : fc_1 PRD (20, [17], [61, 0, 700]) ws (vs) := ⟨nf_in hl rfl, sgq_1381 (vc_La_seek_at_g6_3_0 (v_iv (n_v vs 2)) (v_iv (n_v vs 8)) (v_iv (n_v vs 10)) (v_iv (n_v vs 11)) (v_iv (n_v vs 12)) (v_iv (n_v vs 13)) (v_iv (n_v vs 14)) (v_iv (n_v vs 15)) (v_iv (n_v vs 16)) (v_iv (n_v vs 17)) k2 k8 k10 k11 k12 k13 k14 k15 k16 k17 (shm_11 f1) (shm_33 f2) (shm_349 f3) (shm_11 f6) (shm_13 f7) (shm_1384 f10))⟩
  have nf1 : fc_1 PRD (20, [2, 8], [61, 0, 705]) ws (vs) := ⟨nf_in hl rfl, sgq_1083 (vc_La_seek_at_g6_3_1 (v_iv (n_v vs 2)) (v_iv (n_v vs 8)) (v_iv (n_v vs 10)) (v_iv (n_v vs 11)) (v_iv (n_v vs 12)) k2 k8 k10 k11 k12 (shm_11 f6) (shm_13 f7))⟩
  refine ⟨(fun _ h => (by cases h)), [], trivial, ?_, (fun _ h => (by cases h))⟩
  rw [List.append_nil]
  exact List.forall_mem_cons.mpr ⟨⟨show (20 : Nat) < 100 from by decide, nf0⟩, List.forall_mem_cons.mpr ⟨⟨show (20 : Nat) < 100 from by decide, nf1⟩, (fun _ h => (by cases h))⟩⟩
set_option maxHeartbeats 4000000 in
theorem vc_La_seek_at_g6_4_0 (x1 : Int) (x2 : Int) (x7 : Int) (x8 : Int) (x13 : Int) (k1 : 0 ≤ x1 ∧ x1 ≤ 0) (k2 : 0 ≤ x2 ∧ x2 ≤ 63) (k7 : 0 ≤ x7 ∧ x7 ≤ 720) (k8 : 0 ≤ x8 ∧ x8 ≤ 5) (k13 : 1 ≤ x13 ∧ x13 ≤ 6) (d0 : x8 + 1 ≤ x13 ∧ x13 ≤ x8 + 1) (f0 : x13 = x8 + 1) (f6 : SK6 (x2) (x8) (x7) (x1)) : SK6 (x2) (x13) (x7) (x1) := by
  first
    | exact ske_skip (show SKe 120 x2 x8 x7 x1 from ‹SK6 _ _ _ _›) (by omega) (by omega) (by omega)
def o_La_seek_at_g6_4 : or_T := (40, 14, [(1, (0, 0, 0, [])), (2, (0, 0, 63, [])), (7, (0, 0, 720, [])), (8, (0, 0, 5, [])), (13, (0, 1, 6, []))], [(6, [13, 8], [1]), (20, [2, 8, 7, 1], [61, 0, 703])], [], [], [(20, [2, 13, 7, 1], [61, 0, 703])], [], [(13, 8, 1, 1)])
theorem oo_La_seek_at_g6_4 {kA : Nat → ClassId} : or_ok PRD kA GG o_La_seek_at_g6_4 := by
  refine or_mk fun A ta ws vs hD hth hl => ?_
  intro t1 k1 t2 k2 t7 k7 t8 k8 t13 k13 d0 f0 f6
  have nf0 : fc_1 PRD (20, [2, 13, 7, 1], [61, 0, 703]) ws (vs) := ⟨nf_in hl rfl, sgq_1386 (vc_La_seek_at_g6_4_0 (v_iv (n_v vs 1)) (v_iv (n_v vs 2)) (v_iv (n_v vs 7)) (v_iv (n_v vs 8)) (v_iv (n_v vs 13)) k1 k2 k7 k8 k13 d0 (shm_4 f0) (shm_1386 f6))⟩
  refine ⟨(fun _ h => (by cases h)), [], trivial, ?_, (fun _ h => (by cases h))⟩
  rw [List.append_nil]
  exact List.forall_mem_cons.mpr ⟨⟨show (20 : Nat) < 100 from by decide, nf0⟩, (fun _ h => (by cases h))⟩
set_option maxHeartbeats 4000000 in
theorem vc_La_seek_at_g6_5_0 (x1 : Int) (x2 : Int) (x5 : Int) (x7 : Int) (x8 : Int) (x13 : Int) (x14 : Int) (x15 : Int) (x16 : Int) (x17 : Int) (k1 : 0 ≤ x1 ∧ x1 ≤ 0) (k2 : 0 ≤ x2 ∧ x2 ≤ 63) (k5 : 2 ≤ x5 ∧ x5 ≤ 6) (k7 : 0 ≤ x7 ∧ x7 ≤ 600) (k8 : 0 ≤ x8 ∧ x8 ≤ 5) (k13 : 1 ≤ x13 ∧ x13 ≤ 1) (k14 : 1 ≤ x14 ∧ x14 ≤ 5) (k15 : 1 ≤ x15 ∧ x15 ≤ 120) (k16 : 1 ≤ x16 ∧ x16 ≤ 720) (k17 : 1 ≤ x17 ∧ x17 ≤ 6) (d0 : x8 + 1 ≤ x17 ∧ x17 ≤ x8 + 1) (f0 : x17 = x8 + 1) (f1 : x16 = x7 + x15) (f2 : TBC (x14) (x15)) (f3 : x14 = x5 - x13) (f4 : SK6 (x2) (x8) (x7) (x1)) (f5 : BL6 (x2)) (f6 : PQ6 (x2) (x5)) (f8 : BBT (x2) (x8)) : SK6 (x2) (x17) (x16) (x1) := by
  first
    | exact ske_step (v := x15) (show SKe 120 x2 x8 x7 x1 from ‹SK6 _ _ _ _›) (by omega) ‹BBT _ _› (tbc_cap (n := x14) (k := 5) (by assumption) (pq6_cap (k := 6) (one := x13) ‹BL6 _› ‹PQ6 _ _› (by assumption) (by omega)) (by decide)) (by omega) (by omega) (by omega)
    | exact ske_step (v := x24) (show SKe 120 x2 x8 x7 x1 from ‹SK6 _ _ _ _›) (by omega) ‹BBT _ _› (tbc_cap (n := x23) (k := 5) (by assumption) (pq6_cap (k := 6) (one := x22) ‹BL6 _› ‹PQ6 _ _› (by assumption) (by omega)) (by decide)) (by omega) (by omega) (by omega)
def o_La_seek_at_g6_5 : or_T := (40, 18, [(1, (0, 0, 0, [])), (2, (0, 0, 63, [])), (5, (0, 2, 6, [])), (7, (0, 0, 600, [])), (8, (0, 0, 5, [])), (13, (0, 1, 1, [])), (14, (0, 1, 5, [])), (15, (0, 1, 120, [])), (16, (0, 1, 720, [])), (17, (0, 1, 6, []))], [(6, [17, 8], [1]), (1, [16, 7, 15], []), (20, [14, 15], [61, 0, 684]), (2, [14, 5, 13], []), (20, [2, 8, 7, 1], [61, 0, 703]), (20, [2], [61, 0, 702]), (20, [2, 5], [61, 0, 704]), (20, [2, 8], [61, 0, 705])], [], [], [(20, [2, 17, 16, 1], [61, 0, 703])], [], [(17, 8, 1, 1)])
theorem oo_La_seek_at_g6_5 {kA : Nat → ClassId} : or_ok PRD kA GG o_La_seek_at_g6_5 := by
  refine or_mk fun A ta ws vs hD hth hl => ?_
  intro t1 k1 t2 k2 t5 k5 t7 k7 t8 k8 t13 k13 t14 k14 t15 k15 t16 k16 t17 k17 d0 f0 f1 f2 f3 f4 f5 f6 f8
  have nf0 : fc_1 PRD (20, [2, 17, 16, 1], [61, 0, 703]) ws (vs) := ⟨nf_in hl rfl, sgq_1386 (vc_La_seek_at_g6_5_0 (v_iv (n_v vs 1)) (v_iv (n_v vs 2)) (v_iv (n_v vs 5)) (v_iv (n_v vs 7)) (v_iv (n_v vs 8)) (v_iv (n_v vs 13)) (v_iv (n_v vs 14)) (v_iv (n_v vs 15)) (v_iv (n_v vs 16)) (v_iv (n_v vs 17)) k1 k2 k5 k7 k8 k13 k14 k15 k16 k17 d0 (shm_4 f0) (shm_12 f1) (shm_1197 f2) (shm_14 f3) (shm_1386 f4) (shm_1384 f5) (shm_1373 f6) (shm_1083 f8))⟩
  refine ⟨(fun _ h => (by cases h)), [], trivial, ?_, (fun _ h => (by cases h))⟩
  rw [List.append_nil]
  exact List.forall_mem_cons.mpr ⟨⟨show (20 : Nat) < 100 from by decide, nf0⟩, (fun _ h => (by cases h))⟩
set_option maxHeartbeats 4000000 in
theorem vc_La_seek_at_g6_6_0 (x1 : Int) (x2 : Int) (x5 : Int) (x7 : Int) (x8 : Int) (x14 : Int) (x15 : Int) (x22 : Int) (x23 : Int) (x24 : Int) (x25 : Int) (x26 : Int) (k1 : 0 ≤ x1 ∧ x1 ≤ 0) (k2 : 0 ≤ x2 ∧ x2 ≤ 63) (k5 : 2 ≤ x5 ∧ x5 ≤ 6) (k7 : 0 ≤ x7 ∧ x7 ≤ 600) (k8 : 0 ≤ x8 ∧ x8 ≤ 5) (k22 : 1 ≤ x22 ∧ x22 ≤ 1) (k23 : 1 ≤ x23 ∧ x23 ≤ 5) (k24 : 1 ≤ x24 ∧ x24 ≤ 120) (k25 : 1 ≤ x25 ∧ x25 ≤ 720) (k26 : 1 ≤ x26 ∧ x26 ≤ 6) (d0 : x8 + 1 ≤ x26 ∧ x26 ≤ x8 + 1) (f0 : x26 = x8 + 1) (f1 : x25 = x7 + x24) (f2 : TBC (x23) (x24)) (f3 : x23 = x5 - x22) (f5 : SK6 (x2) (x8) (x7) (x1)) (f6 : BL6 (x2)) (f7 : PQ6 (x2) (x5)) (f9 : BBT (x2) (x8)) : SK6 (x2) (x26) (x25) (x1) := by
  first
    | exact ske_step (v := x15) (show SKe 120 x2 x8 x7 x1 from ‹SK6 _ _ _ _›) (by omega) ‹BBT _ _› (tbc_cap (n := x14) (k := 5) (by assumption) (pq6_cap (k := 6) (one := x13) ‹BL6 _› ‹PQ6 _ _› (by assumption) (by omega)) (by decide)) (by omega) (by omega) (by omega)
    | exact ske_step (v := x24) (show SKe 120 x2 x8 x7 x1 from ‹SK6 _ _ _ _›) (by omega) ‹BBT _ _› (tbc_cap (n := x23) (k := 5) (by assumption) (pq6_cap (k := 6) (one := x22) ‹BL6 _› ‹PQ6 _ _› (by assumption) (by omega)) (by decide)) (by omega) (by omega) (by omega)
def o_La_seek_at_g6_6 : or_T := (40, 27, [(1, (0, 0, 0, [])), (2, (0, 0, 63, [])), (5, (0, 2, 6, [])), (7, (0, 0, 600, [])), (8, (0, 0, 5, [])), (22, (0, 1, 1, [])), (23, (0, 1, 5, [])), (24, (0, 1, 120, [])), (25, (0, 1, 720, [])), (26, (0, 1, 6, []))], [(6, [26, 8], [1]), (1, [25, 7, 24], []), (20, [23, 24], [61, 0, 684]), (2, [23, 5, 22], []), (20, [2, 8, 7, 1], [61, 0, 703]), (20, [2], [61, 0, 702]), (20, [2, 5], [61, 0, 704]), (20, [2, 8], [61, 0, 705])], [], [], [(20, [2, 26, 25, 1], [61, 0, 703])], [], [(26, 8, 1, 1)])
theorem oo_La_seek_at_g6_6 {kA : Nat → ClassId} : or_ok PRD kA GG o_La_seek_at_g6_6 := by
  refine or_mk fun A ta ws vs hD hth hl => ?_
  intro t1 k1 t2 k2 t5 k5 t7 k7 t8 k8 t22 k22 t23 k23 t24 k24 t25 k25 t26 k26 d0 f0 f1 f2 f3 f5 f6 f7 f9
  have nf0 : fc_1 PRD (20, [2, 26, 25, 1], [61, 0, 703]) ws (vs) := ⟨nf_in hl rfl, sgq_1386 (vc_La_seek_at_g6_6_0 (v_iv (n_v vs 1)) (v_iv (n_v vs 2)) (v_iv (n_v vs 5)) (v_iv (n_v vs 7)) (v_iv (n_v vs 8)) (v_iv (n_v vs 14)) (v_iv (n_v vs 15)) (v_iv (n_v vs 22)) (v_iv (n_v vs 23)) (v_iv (n_v vs 24)) (v_iv (n_v vs 25)) (v_iv (n_v vs 26)) k1 k2 k5 k7 k8 k22 k23 k24 k25 k26 d0 (shm_4 f0) (shm_12 f1) (shm_1197 f2) (shm_14 f3) (shm_1386 f5) (shm_1384 f6) (shm_1373 f7) (shm_1083 f9))⟩
  refine ⟨(fun _ h => (by cases h)), [], trivial, ?_, (fun _ h => (by cases h))⟩
  rw [List.append_nil]
  exact List.forall_mem_cons.mpr ⟨⟨show (20 : Nat) < 100 from by decide, nf0⟩, (fun _ h => (by cases h))⟩
def n_La_seek_at_g6_an : List an_T := [(40, [(0, (2, 0, 0, [4])), (1, (0, 0, 0, [])), (2, (0, 0, 63, [])), (3, (0, (Int.negSucc 2147483647), 2147483647, [])), (4, (0, 1000000, 1000000, [])), (5, (0, 2, 6, [])), (6, (0, (Int.negSucc 2147483647), 1000000, [])), (7, (0, 0, 720, [])), (8, (0, 0, 6, []))], [], (0, 0), [(0, 0, 99960), (1, 8, 6), (0, 0, 100000), (0, 0, 0), (0, 0, 0)], [], [], [], 0, [], [(20, [2, 8, 7, 1], [61, 0, 703]), (20, [2], [61, 0, 702]), (20, [2, 5], [61, 0, 704])]), (92, [(0, (2, 0, 0, [4])), (1, (0, 0, 0, [])), (2, (0, 0, 63, [])), (3, (0, (Int.negSucc 2147483647), 2147483647, [])), (4, (0, 1000000, 1000000, [])), (5, (0, 2, 6, [])), (6, (0, (Int.negSucc 2147483647), 1000000, [])), (7, (0, 0, 600, [])), (8, (0, 0, 5, [])), (9, (0, 0, 63, [])), (10, (0, (Int.negSucc 2147483647), 2147483647, [])), (11, (0, 0, 6, []))], [], (0, 0), [(0, 0, 99960), (1, 8, 6), (0, 0, 99908), (1, 11, 6), (0, 0, 100000)], [], [], [], 0, [], [(20, [2, 8, 7, 1], [61, 0, 703]), (20, [2], [61, 0, 702]), (20, [2, 5], [61, 0, 704]), (20, [9], [61, 0, 700]), (20, [2, 8], [61, 0, 705])])]
def t_La_seek_at_g6_ct : ct_L := [(6, 225, e_jInt_bitCount_v123), (81, 208, e_jMath_min1_v125), (523, 198, e_La_seek_at_g5), (555, 85, e_La_countOrders_at_gk)]
set_option maxRecDepth 100000 in
theorem c_La_seek_at_g6 {l : Launch} {D : va_G} {kA : Nat → ClassId} (h_La_countOrders_at_gk : ct_ok PRD l D kA GG y_La_countOrders_at_gk z_La_countOrders_at_gk e_La_countOrders_at_gk) (h_La_seek_at_g5 : ct_ok PRD l D kA GG y_La_seek_at_g5 z_La_seek_at_g5 e_La_seek_at_g5) : ct_ok PRD l D kA GG y_La_seek_at_g6 z_La_seek_at_g6 e_La_seek_at_g6 := chk_all_ok (FT := [(75, 4, 19), (78, 4, 20)]) (PT := []) (CT := t_La_seek_at_g6_ct) (KT := []) (NT := []) (AN := n_La_seek_at_g6_an) (OT := [o_La_seek_at_g6_0, o_La_seek_at_g6_1, o_La_seek_at_g6_2, o_La_seek_at_g6_3, o_La_seek_at_g6_4, o_La_seek_at_g6_5, o_La_seek_at_g6_6]) 5 660 (List.forall_mem_cons.mpr ⟨oo_La_seek_at_g6_0, List.forall_mem_cons.mpr ⟨oo_La_seek_at_g6_1, List.forall_mem_cons.mpr ⟨oo_La_seek_at_g6_2, List.forall_mem_cons.mpr ⟨oo_La_seek_at_g6_3, List.forall_mem_cons.mpr ⟨oo_La_seek_at_g6_4, List.forall_mem_cons.mpr ⟨oo_La_seek_at_g6_5, List.forall_mem_cons.mpr ⟨oo_La_seek_at_g6_6, List.forall_mem_nil _⟩⟩⟩⟩⟩⟩⟩) (by decide +kernel) ⟨List.forall_mem_cons.mpr ⟨gf_La_75, List.forall_mem_cons.mpr ⟨gf_La_78, List.forall_mem_nil _⟩⟩, List.forall_mem_nil _, List.forall_mem_cons.mpr ⟨cl_static (y := y_jInt_bitCount) c_jInt_bitCount_v123 wm_870 wm_17 wm_1412 wm_869 ⟨by decide, by decide, by decide +kernel⟩ (by decide), List.forall_mem_cons.mpr ⟨cl_static (y := y_jMath_min1) c_jMath_min1_v125 wm_658 wm_10 wm_1389 wm_657 ⟨by decide, by decide, by decide +kernel⟩ (by decide), List.forall_mem_cons.mpr ⟨cl_virtual (y := y_La_seek_at_g5) (ci := 4) rfl rfl ⟨_, _, rfl⟩ (by decide +kernel) h_La_seek_at_g5 wm_1411 wm_18 wm_1408 wm_1410 wv_5_9 ⟨by decide, by decide, by decide +kernel⟩ (by decide), List.forall_mem_cons.mpr ⟨cl_static (y := y_La_countOrders_at_gk) h_La_countOrders_at_gk wm_1233 wm_18 wm_1231 wm_1232 ⟨by decide, by decide, by decide +kernel⟩ (by decide), List.forall_mem_nil _⟩⟩⟩⟩, List.forall_mem_nil _, List.forall_mem_nil _, GG_pl⟩ (by decide +kernel)

set_option maxHeartbeats 4000000 in
theorem vc_Pl_layMatrix_0_0 (x5 : Int) (x6 : Int) (x7 : Int) (x8 : Int) (x9 : Int) (x10 : Int) (nodes_0o1 : Int) (order_0 : Int → Int) (k5 : 0 ≤ x5 ∧ x5 ≤ 24) (k6 : 1 ≤ x6 ∧ x6 ≤ 1) (k7 : 1 ≤ x7 ∧ x7 ≤ 16777216) (k8 : 1 ≤ x8 ∧ x8 ≤ 1) (k9 : 0 ≤ x9 ∧ x9 ≤ 16777215) (k10 : 0 ≤ x10 ∧ x10 ≤ 0) (d0 : x7 + (-1) ≤ x9 ∧ x9 ≤ x7 + (-1)) (f0 : x9 = x7 - x8) (f1 : bvp (x7) = bvp (x6) <<< (x5).toNat) (g2 : x5 = nodes_0o1) (kz_1_0 : 0 ≤ nodes_0o1 ∧ nodes_0o1 ≤ 24) : MX1 (order_0) (x5) (x9) (x10) := by
  first
    | exact mx1_start (by assumption) (by omega) (by assumption) (by omega) (by omega) (by omega) (by omega) (by omega) (by omega)
set_option maxHeartbeats 4000000 in
theorem vc_Pl_layMatrix_0_1 (x10 : Int) (x11 : Int) (k10 : 0 ≤ x10 ∧ x10 ≤ 0) (k11 : 0 ≤ x11 ∧ x11 ≤ 0) : x11 ≤ x10 := by
  first
    | omega
set_option maxHeartbeats 4000000 in
theorem vc_Pl_layMatrix_0_2 (x5 : Int) (nodes_0o1 : Int) (k5 : 0 ≤ x5 ∧ x5 ≤ 24) (g2 : x5 = nodes_0o1) (kz_1_0 : 0 ≤ nodes_0o1 ∧ nodes_0o1 ≤ 24) : x5 = nodes_0o1 := by
  first
    | omega
def o_Pl_layMatrix_0 : or_T := (19, 12, [(1, (2, 0, 0, [3])), (5, (0, 0, 24, [])), (6, (0, 1, 1, [])), (7, (0, 1, 16777216, [])), (8, (0, 1, 1, [])), (9, (0, 0, 16777215, [])), (10, (0, 0, 0, [])), (11, (0, 0, 0, []))], [(2, [9, 7, 8], []), (16, [7, 6, 5], [3]), (9, [5, 1], [0])], [], [], [(20, [0, 5, 9, 10], [60, 0, 1, 549, 2]), (20, [11, 10], [50, 0, 0, 0, 2, 1, 0, 1, 1]), (20, [5, 1], [50, 1, 0, 1000, 1, 2, 1, 0, 2, 1, 0]), (24, [0, 0], [])], [], [(9, 7, -1, -1)])
theorem oo_Pl_layMatrix_0 {kA : Nat → ClassId} : or_ok PRD kA GG o_Pl_layMatrix_0 := by
  refine or_mk fun A ta ws vs hD hth hl => ?_
  intro t1 r1 t5 k5 t6 k6 t7 k7 t8 k8 t9 k9 t10 k10 t11 k11 d0 f0 f1 f2
  replace f2 := shm_163 f2
  have g2 : v_iv (n_v vs 5) = w_fi ws (n_v vs 1) 0 := congrArg v_iv f2
  have kz_1_0 := fdq_21 hD hth r1
  have nf0 : fc_1 PRD (20, [0, 5, 9, 10], [60, 0, 1, 549, 2]) ws (vs) := ⟨nf_in hl rfl, sgq_1387 (vc_Pl_layMatrix_0_0 (v_iv (n_v vs 5)) (v_iv (n_v vs 6)) (v_iv (n_v vs 7)) (v_iv (n_v vs 8)) (v_iv (n_v vs 9)) (v_iv (n_v vs 10)) (w_fi ws (n_v vs 1) 0) (w_ei ws (w_ar ws (n_v vs 0) 2)) k5 k6 k7 k8 k9 k10 d0 (shm_14 f0) (shm_349 f1) g2 kz_1_0)⟩
  have nf1 : fc_1 PRD (20, [11, 10], [50, 0, 0, 0, 2, 1, 0, 1, 1]) ws (vs) := ⟨nf_in hl rfl, sgq_360 (vc_Pl_layMatrix_0_1 (v_iv (n_v vs 10)) (v_iv (n_v vs 11)) k10 k11)⟩
  have nf2 : fc_1 PRD (20, [5, 1], [50, 1, 0, 1000, 1, 2, 1, 0, 2, 1, 0]) ws (vs) := ⟨nf_in hl rfl, sgq_836 (vc_Pl_layMatrix_0_2 (v_iv (n_v vs 5)) (w_fi ws (n_v vs 1) 0) k5 g2 kz_1_0)⟩
  have nf3 : fc_1 PRD (24, [0, 0], []) ws (vs) := by
    refine ⟨nf_in hl rfl, sgq_1 ?_⟩
    · show n_v vs 0 = n_v vs 0
      first | rfl | simp only [true_and]
  refine ⟨(fun _ h => (by cases h)), [], trivial, ?_, (fun _ h => (by cases h))⟩
  rw [List.append_nil]
  exact List.forall_mem_cons.mpr ⟨⟨show (20 : Nat) < 100 from by decide, nf0⟩, List.forall_mem_cons.mpr ⟨⟨show (20 : Nat) < 100 from by decide, nf1⟩, List.forall_mem_cons.mpr ⟨⟨show (20 : Nat) < 100 from by decide, nf2⟩, List.forall_mem_cons.mpr ⟨⟨show (24 : Nat) < 100 from by decide, nf3⟩, (fun _ h => (by cases h))⟩⟩⟩⟩
set_option maxHeartbeats 4000000 in
theorem vc_Pl_layMatrix_1_0 (x6 : Int) (x7 : Int) (x8 : Int) (x15 : Int) (x16 : Int) (x17 : Int) (x18 : Int) (x19 : Int) (x20 : Int) (order_0 : Int → Int) (k6 : 1 ≤ x6 ∧ x6 ≤ 24) (k7 : 0 ≤ x7 ∧ x7 ≤ 16777215) (k8 : 0 ≤ x8 ∧ x8 ≤ 24) (k15 : 0 ≤ x15 ∧ x15 ≤ 16777215) (k16 : 0 ≤ x16 ∧ x16 ≤ 16777215) (k17 : (-1) ≤ x17 ∧ x17 ≤ (-1)) (k18 : (-2147483648) ≤ x18 ∧ x18 ≤ 2147483647) (k19 : 0 ≤ x19 ∧ x19 ≤ 16777215) (f0 : bvp (x19) = bvp (x7) &&& bvp (x18)) (f1 : bvp (x18) = bvp (x16) ^^^ bvp (x17)) (f2 : bvp (x16) = bvp (x15) &&& bvp (x7)) (f9 : MX1 (order_0) (x6) (x7) (x8)) : MX2 (order_0) (x6) (x19) (x16) (x8) := by
  first
    | exact mx_part2 (r := x18) (m1 := x17) ‹MX1 _ _ _ _› ‹bvp x16 = _› ‹bvp x18 = _› (by omega) ‹bvp x19 = _›
set_option maxHeartbeats 4000000 in
theorem vc_Pl_layMatrix_1_1 (x8 : Int) (x9 : Int) (x20 : Int) (k8 : 0 ≤ x8 ∧ x8 ≤ 24) (k9 : 0 ≤ x9 ∧ x9 ≤ 23) (k20 : 0 ≤ x20 ∧ x20 ≤ 0) (f7 : x9 ≠ x8) (f10 : x9 ≤ x8) : (x20 + 1) ≤ x8 := by
  first
    | omega
set_option maxHeartbeats 4000000 in
theorem vc_Pl_layMatrix_1_2 (x8 : Int) (x9 : Int) (k8 : 0 ≤ x8 ∧ x8 ≤ 24) (k9 : 0 ≤ x9 ∧ x9 ≤ 23) (f7 : x9 ≠ x8) (f10 : x9 ≤ x8) : (x9 + 1) ≤ x8 := by
  first
    | omega
def o_Pl_layMatrix_1 : or_T := (87, 21, [(6, (0, 1, 24, [])), (7, (0, 0, 16777215, [])), (8, (0, 0, 24, [])), (9, (0, 0, 23, [])), (15, (0, 0, 16777215, [])), (16, (0, 0, 16777215, [])), (17, (0, -1, -1, [])), (18, (0, -2147483648, 2147483647, [])), (19, (0, 0, 16777215, [])), (20, (0, 0, 0, []))], [(16, [19, 7, 18], [0]), (16, [18, 16, 17], [2]), (16, [16, 15, 7], [0]), (7, [9, 8], [1]), (20, [5, 6, 7, 8], [60, 0, 1, 549, 2]), (20, [9, 8], [50, 0, 0, 0, 2, 1, 0, 1, 1]), (24, [0, 5], [])], [], [], [(20, [5, 6, 19, 16, 8], [60, 0, 1, 550, 2]), (20, [20, 8], [50, 0, 0, 0, 6, 4, 2, 1, 0, 0, 1, 1, 1]), (20, [9, 8], [50, 0, 0, 0, 6, 4, 2, 1, 0, 0, 1, 1, 1])], [], [])
theorem oo_Pl_layMatrix_1 {kA : Nat → ClassId} : or_ok PRD kA GG o_Pl_layMatrix_1 := by
  refine or_mk fun A ta ws vs hD hth hl => ?_
  intro t6 k6 t7 k7 t8 k8 t9 k9 t15 k15 t16 k16 t17 k17 t18 k18 t19 k19 t20 k20 f0 f1 f2 f7 f9 f10 f12
  replace f0 := shm_11 f0
  replace f1 := shm_33 f1
  replace f2 := shm_11 f2
  replace f7 := shm_40 f7
  replace f9 := shm_1387 f9
  replace f10 := shm_360 f10
  replace f12 := shm_5 f12
  have q5 : n_v vs 5 = n_v vs 0 := f12.symm
  simp only [q5] at f9
  have nf0 : fc_1 PRD (20, [5, 6, 19, 16, 8], [60, 0, 1, 550, 2]) ws (vs) := by
    refine ⟨nf_in hl rfl, sgq_1388 ?_⟩
    · show MX2 (w_ei ws (w_ar ws (n_v vs 5) 2)) (v_iv (n_v vs 6)) (v_iv (n_v vs 19)) (v_iv (n_v vs 16)) (v_iv (n_v vs 8))
      rw [q5]
      exact vc_Pl_layMatrix_1_0 (v_iv (n_v vs 6)) (v_iv (n_v vs 7)) (v_iv (n_v vs 8)) (v_iv (n_v vs 15)) (v_iv (n_v vs 16)) (v_iv (n_v vs 17)) (v_iv (n_v vs 18)) (v_iv (n_v vs 19)) (v_iv (n_v vs 20)) (w_ei ws (w_ar ws (n_v vs 0) 2)) k6 k7 k8 k15 k16 k17 k18 k19 f0 f1 f2 f9
  have nf1 : fc_1 PRD (20, [20, 8], [50, 0, 0, 0, 6, 4, 2, 1, 0, 0, 1, 1, 1]) ws (vs) := ⟨nf_in hl rfl, sgq_396 (vc_Pl_layMatrix_1_1 (v_iv (n_v vs 8)) (v_iv (n_v vs 9)) (v_iv (n_v vs 20)) k8 k9 k20 f7 f10)⟩
  have nf2 : fc_1 PRD (20, [9, 8], [50, 0, 0, 0, 6, 4, 2, 1, 0, 0, 1, 1, 1]) ws (vs) := ⟨nf_in hl rfl, sgq_396 (vc_Pl_layMatrix_1_2 (v_iv (n_v vs 8)) (v_iv (n_v vs 9)) k8 k9 f7 f10)⟩
  refine ⟨(fun _ h => (by cases h)), [], trivial, ?_, (fun _ h => (by cases h))⟩
  rw [List.append_nil]
  exact List.forall_mem_cons.mpr ⟨⟨show (20 : Nat) < 100 from by decide, nf0⟩, List.forall_mem_cons.mpr ⟨⟨show (20 : Nat) < 100 from by decide, nf1⟩, List.forall_mem_cons.mpr ⟨⟨show (20 : Nat) < 100 from by decide, nf2⟩, (fun _ h => (by cases h))⟩⟩⟩
set_option maxHeartbeats 4000000 in
theorem vc_Pl_layMatrix_2_0 (x6 : Int) (x7 : Int) (x8 : Int) (x9 : Int) (x13 : Int) (x14 : Int) (x15 : Int) (x16 : Int) (x17 : Int) (x18 : Int) (x19 : Int) (x20 : Int) (x23 : Int) (x24 : Int) (x25 : Int) (x26 : Int) (x27 : Int) (near_0o10 : Int → Int) (order_0 : Int → Int) (nodes_0o10 : Int) (nodes_1o10 : Int) (order_1 : Int → Int) (near_1o10 : Int → Int) (k6 : 1 ≤ x6 ∧ x6 ≤ 24) (k7 : 0 ≤ x7 ∧ x7 ≤ 16777215) (k8 : 0 ≤ x8 ∧ x8 ≤ 23) (k9 : 0 ≤ x9 ∧ x9 ≤ 23) (k13 : 0 ≤ x13 ∧ x13 ≤ 23) (k14 : 1 ≤ x14 ∧ x14 ≤ 1) (k15 : 0 ≤ x15 ∧ x15 ≤ 23) (k16 : 1 ≤ x16 ∧ x16 ≤ 8388608) (k17 : (-1) ≤ x17 ∧ x17 ≤ (-1)) (k18 : (-2147483648) ≤ x18 ∧ x18 ≤ 2147483647) (k19 : 0 ≤ x19 ∧ x19 ≤ 16777215) (k20 : 1 ≤ x20 ∧ x20 ≤ 24) (k23 : 0 ≤ x23 ∧ x23 ≤ 16777215) (k24 : 0 ≤ x24 ∧ x24 ≤ 16777215) (k25 : (-1) ≤ x25 ∧ x25 ≤ (-1)) (k26 : (-2147483648) ≤ x26 ∧ x26 ≤ 2147483647) (k27 : 0 ≤ x27 ∧ x27 ≤ 16777215) (d0 : x8 + 1 ≤ x20 ∧ x20 ≤ x8 + 1) (d1 : x8 + 0 ≤ x9 ∧ x9 ≤ x8 + 0) (d2 : x6 + (-4294967296) ≤ x9 ∧ x9 ≤ x6 + (-1)) (f0 : bvp (x27) = bvp (x19) &&& bvp (x26)) (f1 : bvp (x26) = bvp (x24) ^^^ bvp (x25)) (f2 : bvp (x24) = bvp (x23) &&& bvp (x19)) (f7 : x20 = x8 + 1) (f8 : bvp (x19) = bvp (x7) &&& bvp (x18)) (f9 : bvp (x18) = bvp (x16) ^^^ bvp (x17)) (f10 : bvp (x16) = bvp (x14) <<< (x15).toNat) (h11 : x15 = order_0 (x8)) (f14 : x6 = nodes_0o10) (f17 : FWN (nodes_1o10) (x7) (x13)) (f20 : MX1 (order_1) (x6) (x7) (x8)) (fe_10_0_1 : nodes_0o10 = nodes_1o10) (hE_0_2_1 : ∀ j : Int, 0 ≤ j → (j = x8 → order_0 j = x13) ∧ (j ≠ x8 → order_0 j = order_1 j)) (hE_10_14_1 : ∀ j : Int, near_0o10 j = near_1o10 j) (kz_10_0 : 0 ≤ nodes_0o10 ∧ nodes_0o10 ≤ 24) : MX2 (order_0) (x6) (x27) (x24) (x20) := by
  subst fe_10_0_1
  have e_hE_10_14_1 := funext hE_10_14_1; subst e_hE_10_14_1
  first
    | exact mx_part2 (r := x18) (m1 := x17) ‹MX1 _ _ _ _› ‹bvp x16 = _› ‹bvp x18 = _› (by omega) ‹bvp x19 = _›
    | exact mx_part2 (r := x26) (m1 := x25) (mx1_take (q := x16) (r := x18) ‹MX1 _ _ _ _› (by omega) ‹FWN _ _ _› (by omega) (by assumption) rfl rfl ‹bvp x16 = _› (by omega) (by assumption) ‹bvp x18 = _› (by omega) ‹bvp x19 = _› (by omega)) ‹bvp x24 = _› ‹bvp x26 = _› (by omega) ‹bvp x27 = _›
set_option maxHeartbeats 4000000 in
theorem vc_Pl_layMatrix_2_1 (x8 : Int) (x9 : Int) (x20 : Int) (x28 : Int) (near_0o10 : Int → Int) (nodes_0o10 : Int) (nodes_1o10 : Int) (near_1o10 : Int → Int) (k8 : 0 ≤ x8 ∧ x8 ≤ 23) (k9 : 0 ≤ x9 ∧ x9 ≤ 23) (k20 : 1 ≤ x20 ∧ x20 ≤ 24) (k28 : 0 ≤ x28 ∧ x28 ≤ 0) (d0 : x8 + 1 ≤ x20 ∧ x20 ≤ x8 + 1) (d1 : x8 + 0 ≤ x9 ∧ x9 ≤ x8 + 0) (fe_10_0_1 : nodes_0o10 = nodes_1o10) (hE_10_14_1 : ∀ j : Int, near_0o10 j = near_1o10 j) (kz_10_0 : 0 ≤ nodes_0o10 ∧ nodes_0o10 ≤ 24) : (x28 + 1) ≤ x20 := by
  subst fe_10_0_1
  have e_hE_10_14_1 := funext hE_10_14_1; subst e_hE_10_14_1
  first
    | omega
set_option maxHeartbeats 4000000 in
theorem vc_Pl_layMatrix_2_2 (x8 : Int) (x9 : Int) (x20 : Int) (near_0o10 : Int → Int) (nodes_0o10 : Int) (nodes_1o10 : Int) (near_1o10 : Int → Int) (k8 : 0 ≤ x8 ∧ x8 ≤ 23) (k9 : 0 ≤ x9 ∧ x9 ≤ 23) (k20 : 1 ≤ x20 ∧ x20 ≤ 24) (d0 : x8 + 1 ≤ x20 ∧ x20 ≤ x8 + 1) (d1 : x8 + 0 ≤ x9 ∧ x9 ≤ x8 + 0) (fe_10_0_1 : nodes_0o10 = nodes_1o10) (hE_10_14_1 : ∀ j : Int, near_0o10 j = near_1o10 j) (kz_10_0 : 0 ≤ nodes_0o10 ∧ nodes_0o10 ≤ 24) : (x9 + 1) ≤ x20 := by
  subst fe_10_0_1
  have e_hE_10_14_1 := funext hE_10_14_1; subst e_hE_10_14_1
  first
    | omega
def o_Pl_layMatrix_2 : or_T := (87, 29, [(0, (2, 0, 0, [6])), (6, (0, 1, 24, [])), (7, (0, 0, 16777215, [])), (8, (0, 0, 23, [])), (9, (0, 0, 23, [])), (10, (2, 0, 0, [3])), (12, (2, 0, 0, [89])), (13, (0, 0, 23, [])), (14, (0, 1, 1, [])), (15, (0, 0, 23, [])), (16, (0, 1, 8388608, [])), (17, (0, -1, -1, [])), (18, (0, -2147483648, 2147483647, [])), (19, (0, 0, 16777215, [])), (20, (0, 1, 24, [])), (23, (0, 0, 16777215, [])), (24, (0, 0, 16777215, [])), (25, (0, -1, -1, [])), (26, (0, -2147483648, 2147483647, [])), (27, (0, 0, 16777215, [])), (28, (0, 0, 0, []))], [(16, [27, 19, 26], [0]), (16, [26, 24, 25], [2]), (16, [24, 23, 19], [0]), (9, [12, 5], [2]), (6, [20, 8], [1]), (16, [19, 7, 18], [0]), (16, [18, 16, 17], [2]), (16, [16, 14, 15], [3]), (10, [15, 12, 8], []), (20, [6, 10], [50, 1, 0, 1000, 1, 2, 1, 0, 2, 1, 0]), (24, [0, 5], []), (100, [12, 8, 13], []), (20, [10, 7, 13], [60, 1, 0, 547, 0]), (20, [5, 6, 7, 8], [60, 0, 1, 549, 2])], [], [], [(20, [5, 6, 27, 24, 20], [60, 0, 1, 550, 2]), (20, [28, 20], [50, 0, 0, 0, 6, 4, 2, 1, 0, 0, 1, 1, 1]), (20, [9, 20], [50, 0, 0, 0, 6, 4, 2, 1, 0, 0, 1, 1, 1])], [], [(20, 8, 1, 1), (9, 8, 0, 0), (9, 6, -4294967296, -1)])
theorem oo_Pl_layMatrix_2 {kA : Nat → ClassId} : or_ok PRD kA GG o_Pl_layMatrix_2 := by
  refine or_mk fun A ta ws vs hD hth hl => ?_
  intro t0 r0 t6 k6 t7 k7 t8 k8 t9 k9 t10 r10 t12 r12 t13 k13 t14 k14 t15 k15 t16 k16 t17 k17 t18 k18 t19 k19 t20 k20 t23 k23 t24 k24 t25 k25 t26 k26 t27 k27 t28 k28 d0 d1 d2 f0 f1 f2 f5 f7 f8 f9 f10 f11 f14 f15 ta1 w1 le1 s1 f17 f20
  replace f0 := shm_11 f0
  replace f1 := shm_33 f1
  replace f2 := shm_11 f2
  replace f5 := shm_120 f5
  replace f7 := shm_4 f7
  replace f8 := shm_11 f8
  replace f9 := shm_33 f9
  replace f10 := shm_349 f10
  replace f11 := shm_107 f11
  replace f14 := shm_836 f14
  replace f15 := shm_5 f15
  have s1 : (∀ b j, w_el ws b j = if b = v_ad (n_v vs 12) ∧ j = (v_iv (n_v vs 8)).toNat then v_iv (n_v vs 13) else w_el w1 b j) ∧ ∀ b k, w_fd ws b k = w_fd w1 b k := s1.2
  replace f17 := shm_884 f17
  replace f20 := shm_1387 f20
  have q5 : n_v vs 5 = n_v vs 0 := f15.symm
  simp only [q5] at f5 f20
  have ar_0_2_1 : w_ar w1 (n_v vs 0) 2 = w_ar ws (n_v vs 0) 2 := congrArg v_ad (s1.2 _ _).symm
  have cr_10_14 := fdq_75 hD hth r10
  have ad_12 : v_ad (n_v vs 12) = w_ar ws (n_v vs 0) 2 := congrArg v_ad f5
  simp only [ad_12] at f11
  have h11 : v_iv (n_v vs 15) = w_ei ws (w_ar ws (n_v vs 0) 2) (v_iv (n_v vs 8)) := f11
  simp only [ar_0_2_1] at f20
  have fe_10_0_1 : w_fi ws (n_v vs 10) 0 = w_fi w1 (n_v vs 10) 0 := congrArg v_iv (s1.2 _ _)
  have hE_0_2_1 : ∀ j : Int, 0 ≤ j → (j = v_iv (n_v vs 8) → w_ei ws (w_ar ws (n_v vs 0) 2) j = v_iv (n_v vs 13)) ∧ (j ≠ v_iv (n_v vs 8) → w_ei ws (w_ar ws (n_v vs 0) 2) j = w_ei w1 (w_ar ws (n_v vs 0) 2) j) := fun j hj => ⟨fun h => by unfold w_ei; rw [s1.1, if_pos ⟨ad_12.symm, by rw [h]⟩], fun h => by unfold w_ei; rw [s1.1, if_neg (fun e => h (by have := e.2; omega))]⟩
  have hE_10_14_1 : ∀ j : Int, w_ei ws (w_ar ws (n_v vs 10) 14) j = w_ei w1 (w_ar ws (n_v vs 10) 14) j := el_kp s1.1 r12 cr_10_14 (by decide)
  have kz_10_0 := fdq_21 hD hth r10
  have nf0 : fc_1 PRD (20, [5, 6, 27, 24, 20], [60, 0, 1, 550, 2]) ws (vs) := by
    refine ⟨nf_in hl rfl, sgq_1388 ?_⟩
    · show MX2 (w_ei ws (w_ar ws (n_v vs 5) 2)) (v_iv (n_v vs 6)) (v_iv (n_v vs 27)) (v_iv (n_v vs 24)) (v_iv (n_v vs 20))
      rw [q5]
      exact vc_Pl_layMatrix_2_0 (v_iv (n_v vs 6)) (v_iv (n_v vs 7)) (v_iv (n_v vs 8)) (v_iv (n_v vs 9)) (v_iv (n_v vs 13)) (v_iv (n_v vs 14)) (v_iv (n_v vs 15)) (v_iv (n_v vs 16)) (v_iv (n_v vs 17)) (v_iv (n_v vs 18)) (v_iv (n_v vs 19)) (v_iv (n_v vs 20)) (v_iv (n_v vs 23)) (v_iv (n_v vs 24)) (v_iv (n_v vs 25)) (v_iv (n_v vs 26)) (v_iv (n_v vs 27)) (w_ei ws (w_ar ws (n_v vs 10) 14)) (w_ei ws (w_ar ws (n_v vs 0) 2)) (w_fi ws (n_v vs 10) 0) (w_fi w1 (n_v vs 10) 0) (w_ei w1 (w_ar ws (n_v vs 0) 2)) (w_ei w1 (w_ar ws (n_v vs 10) 14)) k6 k7 k8 k9 k13 k14 k15 k16 k17 k18 k19 k20 k23 k24 k25 k26 k27 d0 d1 d2 f0 f1 f2 f7 f8 f9 f10 h11 f14 f17 f20 fe_10_0_1 hE_0_2_1 hE_10_14_1 kz_10_0
  have nf1 : fc_1 PRD (20, [28, 20], [50, 0, 0, 0, 6, 4, 2, 1, 0, 0, 1, 1, 1]) ws (vs) := ⟨nf_in hl rfl, sgq_396 (vc_Pl_layMatrix_2_1 (v_iv (n_v vs 8)) (v_iv (n_v vs 9)) (v_iv (n_v vs 20)) (v_iv (n_v vs 28)) (w_ei ws (w_ar ws (n_v vs 10) 14)) (w_fi ws (n_v vs 10) 0) (w_fi w1 (n_v vs 10) 0) (w_ei w1 (w_ar ws (n_v vs 10) 14)) k8 k9 k20 k28 d0 d1 fe_10_0_1 hE_10_14_1 kz_10_0)⟩
  have nf2 : fc_1 PRD (20, [9, 20], [50, 0, 0, 0, 6, 4, 2, 1, 0, 0, 1, 1, 1]) ws (vs) := ⟨nf_in hl rfl, sgq_396 (vc_Pl_layMatrix_2_2 (v_iv (n_v vs 8)) (v_iv (n_v vs 9)) (v_iv (n_v vs 20)) (w_ei ws (w_ar ws (n_v vs 10) 14)) (w_fi ws (n_v vs 10) 0) (w_fi w1 (n_v vs 10) 0) (w_ei w1 (w_ar ws (n_v vs 10) 14)) k8 k9 k20 d0 d1 fe_10_0_1 hE_10_14_1 kz_10_0)⟩
  refine ⟨(fun _ h => (by cases h)), [], trivial, ?_, (fun _ h => (by cases h))⟩
  rw [List.append_nil]
  exact List.forall_mem_cons.mpr ⟨⟨show (20 : Nat) < 100 from by decide, nf0⟩, List.forall_mem_cons.mpr ⟨⟨show (20 : Nat) < 100 from by decide, nf1⟩, List.forall_mem_cons.mpr ⟨⟨show (20 : Nat) < 100 from by decide, nf2⟩, (fun _ h => (by cases h))⟩⟩⟩
set_option maxHeartbeats 4000000 in
theorem vc_Pl_layMatrix_3_0 (x6 : Int) (x7 : Int) (x8 : Int) (x10 : Int) (x11 : Int) (order_0 : Int → Int) (nodes_0o12 : Int) (k6 : 1 ≤ x6 ∧ x6 ≤ 24) (k7 : 0 ≤ x7 ∧ x7 ≤ 16777215) (k8 : 1 ≤ x8 ∧ x8 ≤ 24) (k10 : 0 ≤ x10 ∧ x10 ≤ 16777215) (k11 : 1 ≤ x11 ∧ x11 ≤ 24) (d2 : x6 + 0 ≤ x11 ∧ x11 ≤ x6 + 4294967296) (d4 : x6 + (-4294967296) ≤ x11 ∧ x11 ≤ x6 + 0) (d5 : x8 + (-4294967296) ≤ x11 ∧ x11 ≤ x8 + 0) (f2 : MX2 (order_0) (x6) (x7) (x10) (x8)) (f3 : (x11 + 1) ≤ x8) (f5 : x6 = nodes_0o12) (kz_12_0 : 0 ≤ nodes_0o12 ∧ nodes_0o12 ≤ 24) : MX1 (order_0) (x6) (x7) (x8) := by
  first
    | (have q := mx_few ‹MX2 _ _ _ _ _›; omega)
set_option maxHeartbeats 4000000 in
theorem vc_Pl_layMatrix_3_1 (x8 : Int) (x9 : Int) (x14 : Int) (k8 : 1 ≤ x8 ∧ x8 ≤ 24) (k9 : 0 ≤ x9 ∧ x9 ≤ 23) (k14 : 1 ≤ x14 ∧ x14 ≤ 24) (d0 : x9 + 1 ≤ x14 ∧ x14 ≤ x9 + 1) (f4 : (x9 + 1) ≤ x8) : x14 ≤ x8 := by
  first
    | omega
def o_Pl_layMatrix_3 : or_T := (19, 15, [(0, (2, 0, 0, [6])), (5, (2, 0, 0, [6])), (6, (0, 1, 24, [])), (7, (0, 0, 16777215, [])), (8, (0, 1, 24, [])), (9, (0, 0, 23, [])), (10, (0, 0, 16777215, [])), (11, (0, 1, 24, [])), (12, (2, 0, 0, [3])), (14, (0, 1, 24, []))], [(6, [14, 9], [1]), (7, [11, 6], [3]), (20, [5, 6, 7, 10, 8], [60, 0, 1, 550, 2]), (20, [11, 8], [50, 0, 0, 0, 6, 4, 2, 1, 0, 0, 1, 1, 1]), (20, [9, 8], [50, 0, 0, 0, 6, 4, 2, 1, 0, 0, 1, 1, 1]), (20, [6, 12], [50, 1, 0, 1000, 1, 2, 1, 0, 2, 1, 0]), (24, [0, 5], [])], [], [], [(20, [5, 6, 7, 8], [60, 0, 1, 549, 2]), (20, [14, 8], [50, 0, 0, 0, 2, 1, 0, 1, 1])], [], [(14, 9, 1, 1), (14, 6, -4294967296, 0), (11, 6, 0, 4294967296), (9, 6, -4294967296, -1), (11, 6, -4294967296, 0), (11, 8, -4294967296, 0)])
theorem oo_Pl_layMatrix_3 {kA : Nat → ClassId} : or_ok PRD kA GG o_Pl_layMatrix_3 := by
  refine or_mk fun A ta ws vs hD hth hl => ?_
  intro t0 r0 t5 r5 t6 k6 t7 k7 t8 k8 t9 k9 t10 k10 t11 k11 t12 r12 t14 k14 d0 d1 d2 d3 d4 d5 f0 f1 f2 f3 f4 f5 f6
  replace f2 := shm_1388 f2
  replace f3 := shm_396 f3
  replace f4 := shm_396 f4
  replace f5 := shm_836 f5
  replace f6 := shm_5 f6
  have q5 : n_v vs 5 = n_v vs 0 := f6.symm
  simp only [q5] at f2
  have kz_12_0 := fdq_21 hD hth r12
  have nf0 : fc_1 PRD (20, [5, 6, 7, 8], [60, 0, 1, 549, 2]) ws (vs) := by
    refine ⟨nf_in hl rfl, sgq_1387 ?_⟩
    · show MX1 (w_ei ws (w_ar ws (n_v vs 5) 2)) (v_iv (n_v vs 6)) (v_iv (n_v vs 7)) (v_iv (n_v vs 8))
      rw [q5]
      exact vc_Pl_layMatrix_3_0 (v_iv (n_v vs 6)) (v_iv (n_v vs 7)) (v_iv (n_v vs 8)) (v_iv (n_v vs 10)) (v_iv (n_v vs 11)) (w_ei ws (w_ar ws (n_v vs 0) 2)) (w_fi ws (n_v vs 12) 0) k6 k7 k8 k10 k11 d2 d4 d5 f2 f3 f5 kz_12_0
  have nf1 : fc_1 PRD (20, [14, 8], [50, 0, 0, 0, 2, 1, 0, 1, 1]) ws (vs) := ⟨nf_in hl rfl, sgq_360 (vc_Pl_layMatrix_3_1 (v_iv (n_v vs 8)) (v_iv (n_v vs 9)) (v_iv (n_v vs 14)) k8 k9 k14 d0 f4)⟩
  refine ⟨(fun _ h => (by cases h)), [], trivial, ?_, (fun _ h => (by cases h))⟩
  rw [List.append_nil]
  exact List.forall_mem_cons.mpr ⟨⟨show (20 : Nat) < 100 from by decide, nf0⟩, List.forall_mem_cons.mpr ⟨⟨show (20 : Nat) < 100 from by decide, nf1⟩, (fun _ h => (by cases h))⟩⟩
set_option maxHeartbeats 4000000 in
theorem vc_Pl_layMatrix_4_0 (x6 : Int) (x7 : Int) (x8 : Int) (x10 : Int) (order_0 : Int → Int) (k6 : 1 ≤ x6 ∧ x6 ≤ 24) (k7 : 0 ≤ x7 ∧ x7 ≤ 16777215) (k8 : 0 ≤ x8 ∧ x8 ≤ 24) (k10 : 0 ≤ x10 ∧ x10 ≤ 0) (f1 : x10 = 0) (f3 : MX2 (order_0) (x6) (x7) (x10) (x8)) : MX1 (order_0) (x6) (x7) (x8) := by
  first
    | exact mx_done ‹MX2 _ _ _ _ _› (by omega)
set_option maxHeartbeats 4000000 in
theorem vc_Pl_layMatrix_4_1 (x8 : Int) (x9 : Int) (x14 : Int) (k8 : 0 ≤ x8 ∧ x8 ≤ 24) (k9 : 0 ≤ x9 ∧ x9 ≤ 23) (k14 : 1 ≤ x14 ∧ x14 ≤ 24) (d0 : x9 + 1 ≤ x14 ∧ x14 ≤ x9 + 1) (f5 : (x9 + 1) ≤ x8) : x14 ≤ x8 := by
  first
    | omega
def o_Pl_layMatrix_4 : or_T := (19, 15, [(0, (2, 0, 0, [6])), (5, (2, 0, 0, [6])), (6, (0, 1, 24, [])), (7, (0, 0, 16777215, [])), (8, (0, 0, 24, [])), (9, (0, 0, 23, [])), (10, (0, 0, 0, [])), (11, (0, 0, 23, [])), (12, (2, 0, 0, [3])), (14, (0, 1, 24, []))], [(6, [14, 9], [1]), (8, [10], [0]), (7, [11, 6], [2]), (20, [5, 6, 7, 10, 8], [60, 0, 1, 550, 2]), (20, [11, 8], [50, 0, 0, 0, 6, 4, 2, 1, 0, 0, 1, 1, 1]), (20, [9, 8], [50, 0, 0, 0, 6, 4, 2, 1, 0, 0, 1, 1, 1]), (20, [6, 12], [50, 1, 0, 1000, 1, 2, 1, 0, 2, 1, 0]), (24, [0, 5], [])], [], [], [(20, [5, 6, 7, 8], [60, 0, 1, 549, 2]), (20, [14, 8], [50, 0, 0, 0, 2, 1, 0, 1, 1])], [], [(14, 9, 1, 1), (14, 6, -4294967296, 0), (11, 6, -4294967296, -1), (9, 6, -4294967296, -1), (11, 6, -4294967296, 0), (11, 8, -4294967296, 0)])
theorem oo_Pl_layMatrix_4 {kA : Nat → ClassId} : or_ok PRD kA GG o_Pl_layMatrix_4 := by
  refine or_mk fun A ta ws vs hD hth hl => ?_
  intro t0 r0 t5 r5 t6 k6 t7 k7 t8 k8 t9 k9 t10 k10 t11 k11 t12 r12 t14 k14 d0 d1 d2 d3 d4 d5 f0 f1 f2 f3 f4 f5 f6 f7
  replace f1 := shm_192 f1
  replace f3 := shm_1388 f3
  replace f5 := shm_396 f5
  replace f7 := shm_5 f7
  have q5 : n_v vs 5 = n_v vs 0 := f7.symm
  simp only [q5] at f3
  have nf0 : fc_1 PRD (20, [5, 6, 7, 8], [60, 0, 1, 549, 2]) ws (vs) := by
    refine ⟨nf_in hl rfl, sgq_1387 ?_⟩
    · show MX1 (w_ei ws (w_ar ws (n_v vs 5) 2)) (v_iv (n_v vs 6)) (v_iv (n_v vs 7)) (v_iv (n_v vs 8))
      rw [q5]
      exact vc_Pl_layMatrix_4_0 (v_iv (n_v vs 6)) (v_iv (n_v vs 7)) (v_iv (n_v vs 8)) (v_iv (n_v vs 10)) (w_ei ws (w_ar ws (n_v vs 0) 2)) k6 k7 k8 k10 f1 f3
  have nf1 : fc_1 PRD (20, [14, 8], [50, 0, 0, 0, 2, 1, 0, 1, 1]) ws (vs) := ⟨nf_in hl rfl, sgq_360 (vc_Pl_layMatrix_4_1 (v_iv (n_v vs 8)) (v_iv (n_v vs 9)) (v_iv (n_v vs 14)) k8 k9 k14 d0 f5)⟩
  refine ⟨(fun _ h => (by cases h)), [], trivial, ?_, (fun _ h => (by cases h))⟩
  rw [List.append_nil]
  exact List.forall_mem_cons.mpr ⟨⟨show (20 : Nat) < 100 from by decide, nf0⟩, List.forall_mem_cons.mpr ⟨⟨show (20 : Nat) < 100 from by decide, nf1⟩, (fun _ h => (by cases h))⟩⟩
set_option maxHeartbeats 4000000 in
theorem vc_Pl_layMatrix_5_r0 (x6 : Int) (x7 : Int) (x8 : Int) (x10 : Int) (nodes_0o12 : Int) (order_0 : Int → Int) (k6 : 1 ≤ x6 ∧ x6 ≤ 24) (k7 : 0 ≤ x7 ∧ x7 ≤ 16777215) (k8 : 0 ≤ x8 ∧ x8 ≤ 24) (k10 : 1 ≤ x10 ∧ x10 ≤ 16777215) (f2 : x10 ≠ 0) (f4 : MX2 (order_0) (x6) (x7) (x10) (x8)) (f7 : x6 = nodes_0o12) (kz_12_0 : 0 ≤ nodes_0o12 ∧ nodes_0o12 ≤ 24) : 0 ≤ x8 ∧ x8 ≤ 23 := by
  first
    | (have q := mx_lt ‹MX2 _ _ _ _ _› (mx_some2 ‹MX2 _ _ _ _ _› (by omega) (by omega) (by omega)); have q2 := (‹MX2 _ _ _ _ _›).2.2.1; have q3 := (‹MX2 _ _ _ _ _›).1; omega)
def o_Pl_layMatrix_5 : or_T := (109, 16, [(0, (2, 0, 0, [6])), (5, (2, 0, 0, [6])), (6, (0, 1, 24, [])), (7, (0, 0, 16777215, [])), (8, (0, 0, 24, [])), (9, (0, 0, 23, [])), (10, (0, 1, 16777215, [])), (11, (0, 0, 23, [])), (12, (2, 0, 0, [3])), (14, (2, 0, 0, [89])), (15, (0, 0, 23, []))], [(20, [12, 10, 15], [60, 1, 0, 547, 0]), (9, [14, 5], [2]), (8, [10], [1]), (7, [11, 6], [2]), (20, [5, 6, 7, 10, 8], [60, 0, 1, 550, 2]), (20, [11, 8], [50, 0, 0, 0, 6, 4, 2, 1, 0, 0, 1, 1, 1]), (20, [9, 8], [50, 0, 0, 0, 6, 4, 2, 1, 0, 0, 1, 1, 1]), (20, [6, 12], [50, 1, 0, 1000, 1, 2, 1, 0, 2, 1, 0]), (24, [0, 5], [])], [(8, (0, 0, 23, []))], [], [], [], [(11, 6, -4294967296, -1), (9, 6, -4294967296, -1), (11, 6, -4294967296, 0), (11, 8, -4294967296, 0)])
theorem oo_Pl_layMatrix_5 {kA : Nat → ClassId} : or_ok PRD kA GG o_Pl_layMatrix_5 := by
  refine or_mk fun A ta ws vs hD hth hl => ?_
  intro t0 r0 t5 r5 t6 k6 t7 k7 t8 k8 t9 k9 t10 k10 t11 k11 t12 r12 t14 r14 t15 k15 d0 d1 d2 d3 f0 f1 f2 f3 f4 f5 f6 f7 f8
  replace f4 := shm_1388 f4
  replace f8 := shm_5 f8
  have q5 : n_v vs 5 = n_v vs 0 := f8.symm
  simp only [q5] at f4
  have kz_12_0 := fdq_21 hD hth r12
  have hrf0 : 0 ≤ v_iv (n_v vs 8) ∧ v_iv (n_v vs 8) ≤ 23 := vc_Pl_layMatrix_5_r0 (v_iv (n_v vs 6)) (v_iv (n_v vs 7)) (v_iv (n_v vs 8)) (v_iv (n_v vs 10)) (w_fi ws (n_v vs 12) 0) (w_ei ws (w_ar ws (n_v vs 0) 2)) k6 k7 k8 k10 (shm_142 f2) f4 (shm_836 f7) kz_12_0
  have rf8 : tv_ok ta (0, 0, 23, []) (n_v vs 8) := tv_in t8 (by first | omega | grind) (by first | omega | grind)
  refine ⟨List.forall_mem_cons.mpr ⟨rf8, (fun _ h => (by cases h))⟩, [], trivial, ?_, (fun _ h => (by cases h))⟩
  rw [List.append_nil]
  exact (fun _ h => (by cases h))
set_option maxHeartbeats 4000000 in
theorem vc_Pl_layMatrix_6_0 (x6 : Int) (x7 : Int) (x8 : Int) (x10 : Int) (x15 : Int) (x16 : Int) (x17 : Int) (x18 : Int) (x19 : Int) (x20 : Int) (x21 : Int) (x22 : Int) (order_0 : Int → Int) (nodes_0o12 : Int) (nodes_1o12 : Int) (order_1 : Int → Int) (k6 : 1 ≤ x6 ∧ x6 ≤ 24) (k7 : 0 ≤ x7 ∧ x7 ≤ 16777215) (k8 : 0 ≤ x8 ∧ x8 ≤ 23) (k10 : 1 ≤ x10 ∧ x10 ≤ 16777215) (k15 : 0 ≤ x15 ∧ x15 ≤ 23) (k16 : 1 ≤ x16 ∧ x16 ≤ 1) (k17 : 0 ≤ x17 ∧ x17 ≤ 23) (k18 : 1 ≤ x18 ∧ x18 ≤ 8388608) (k19 : (-1) ≤ x19 ∧ x19 ≤ (-1)) (k20 : (-2147483648) ≤ x20 ∧ x20 ≤ 2147483647) (k21 : 0 ≤ x21 ∧ x21 ≤ 16777215) (k22 : 1 ≤ x22 ∧ x22 ≤ 24) (f1 : x22 = x8 + 1) (f2 : bvp (x21) = bvp (x10) &&& bvp (x20)) (f3 : bvp (x20) = bvp (x18) ^^^ bvp (x19)) (f4 : bvp (x18) = bvp (x16) <<< (x17).toNat) (h5 : x17 = order_0 (x8)) (f10 : x6 = nodes_0o12) (f13 : FWN (nodes_1o12) (x10) (x15)) (f14 : x10 ≠ 0) (f16 : MX2 (order_1) (x6) (x7) (x10) (x8)) (fe_12_0_1 : nodes_0o12 = nodes_1o12) (hE_0_2_1 : ∀ j : Int, 0 ≤ j → (j = x8 → order_0 j = x15) ∧ (j ≠ x8 → order_0 j = order_1 j)) (kz_12_0 : 0 ≤ nodes_0o12 ∧ nodes_0o12 ≤ 24) : MX2 (order_0) (x6) (x7) (x21) (x22) := by
  subst fe_12_0_1
  first
    | exact mx_take2 (q := x18) (r := x20) ‹MX2 _ _ _ _ _› (mx_some2 ‹MX2 _ _ _ _ _› (by omega) (by omega) (by omega)) ‹FWN _ _ _› (by omega) (by assumption) rfl rfl ‹bvp x18 = _› (by omega) (by assumption) ‹bvp x20 = _› (by omega) ‹bvp x21 = _› (by omega)
set_option maxHeartbeats 4000000 in
theorem vc_Pl_layMatrix_6_1 (x8 : Int) (x11 : Int) (x22 : Int) (x23 : Int) (nodes_0o12 : Int) (nodes_1o12 : Int) (k8 : 0 ≤ x8 ∧ x8 ≤ 23) (k11 : 0 ≤ x11 ∧ x11 ≤ 23) (k22 : 1 ≤ x22 ∧ x22 ≤ 24) (k23 : 1 ≤ x23 ∧ x23 ≤ 24) (d0 : x11 + 1 ≤ x23 ∧ x23 ≤ x11 + 1) (d3 : x8 + (-4294967296) ≤ x23 ∧ x23 ≤ x8 + 1) (d4 : x8 + 1 ≤ x22 ∧ x22 ≤ x8 + 1) (d8 : x8 + (-4294967296) ≤ x11 ∧ x11 ≤ x8 + 0) (f8 : (x11 + 1) ≤ x8) (fe_12_0_1 : nodes_0o12 = nodes_1o12) (kz_12_0 : 0 ≤ nodes_0o12 ∧ nodes_0o12 ≤ 24) : (x23 + 1) ≤ x22 := by
  subst fe_12_0_1
  first
    | omega
set_option maxHeartbeats 4000000 in
theorem vc_Pl_layMatrix_6_2 (x8 : Int) (x9 : Int) (x22 : Int) (nodes_0o12 : Int) (nodes_1o12 : Int) (k8 : 0 ≤ x8 ∧ x8 ≤ 23) (k9 : 0 ≤ x9 ∧ x9 ≤ 23) (k22 : 1 ≤ x22 ∧ x22 ≤ 24) (d4 : x8 + 1 ≤ x22 ∧ x22 ≤ x8 + 1) (f9 : (x9 + 1) ≤ x8) (fe_12_0_1 : nodes_0o12 = nodes_1o12) (kz_12_0 : 0 ≤ nodes_0o12 ∧ nodes_0o12 ≤ 24) : (x9 + 1) ≤ x22 := by
  subst fe_12_0_1
  first
    | omega
def o_Pl_layMatrix_6 : or_T := (87, 24, [(0, (2, 0, 0, [6])), (6, (0, 1, 24, [])), (7, (0, 0, 16777215, [])), (8, (0, 0, 23, [])), (9, (0, 0, 23, [])), (10, (0, 1, 16777215, [])), (11, (0, 0, 23, [])), (12, (2, 0, 0, [3])), (15, (0, 0, 23, [])), (16, (0, 1, 1, [])), (17, (0, 0, 23, [])), (18, (0, 1, 8388608, [])), (19, (0, -1, -1, [])), (20, (0, -2147483648, 2147483647, [])), (21, (0, 0, 16777215, [])), (22, (0, 1, 24, [])), (23, (0, 1, 24, []))], [(6, [22, 8], [1]), (16, [21, 10, 20], [0]), (16, [20, 18, 19], [2]), (16, [18, 16, 17], [3]), (10, [17, 14, 8], []), (9, [14, 5], [2]), (20, [11, 8], [50, 0, 0, 0, 6, 4, 2, 1, 0, 0, 1, 1, 1]), (20, [9, 8], [50, 0, 0, 0, 6, 4, 2, 1, 0, 0, 1, 1, 1]), (20, [6, 12], [50, 1, 0, 1000, 1, 2, 1, 0, 2, 1, 0]), (24, [0, 5], []), (100, [14, 8, 15], []), (20, [12, 10, 15], [60, 1, 0, 547, 0]), (8, [10], [1]), (20, [5, 6, 7, 10, 8], [60, 0, 1, 550, 2])], [], [], [(20, [5, 6, 7, 21, 22], [60, 0, 1, 550, 2]), (20, [23, 22], [50, 0, 0, 0, 6, 4, 2, 1, 0, 0, 1, 1, 1]), (20, [9, 22], [50, 0, 0, 0, 6, 4, 2, 1, 0, 0, 1, 1, 1])], [], [(23, 11, 1, 1), (23, 8, -4294967296, 1), (22, 8, 1, 1), (11, 8, -4294967296, 0)])
theorem oo_Pl_layMatrix_6 {kA : Nat → ClassId} : or_ok PRD kA GG o_Pl_layMatrix_6 := by
  refine or_mk fun A ta ws vs hD hth hl => ?_
  intro t0 r0 t6 k6 t7 k7 t8 k8 t9 k9 t10 k10 t11 k11 t12 r12 t15 k15 t16 k16 t17 k17 t18 k18 t19 k19 t20 k20 t21 k21 t22 k22 t23 k23 d0 d3 d4 d8 f1 f2 f3 f4 f5 f6 f8 f9 f10 f11 ta1 w1 le1 s1 f13 f14 f16
  replace f1 := shm_4 f1
  replace f2 := shm_11 f2
  replace f3 := shm_33 f3
  replace f4 := shm_349 f4
  replace f5 := shm_107 f5
  replace f6 := shm_120 f6
  replace f8 := shm_396 f8
  replace f9 := shm_396 f9
  replace f10 := shm_836 f10
  replace f11 := shm_5 f11
  have s1 : (∀ b j, w_el ws b j = if b = v_ad (n_v vs 14) ∧ j = (v_iv (n_v vs 8)).toNat then v_iv (n_v vs 15) else w_el w1 b j) ∧ ∀ b k, w_fd ws b k = w_fd w1 b k := s1.2
  replace f13 := shm_884 f13
  replace f14 := shm_142 f14
  replace f16 := shm_1388 f16
  have q5 : n_v vs 5 = n_v vs 0 := f11.symm
  simp only [q5] at f6 f16
  have ar_0_2_1 : w_ar w1 (n_v vs 0) 2 = w_ar ws (n_v vs 0) 2 := congrArg v_ad (s1.2 _ _).symm
  have ad_14 : v_ad (n_v vs 14) = w_ar ws (n_v vs 0) 2 := congrArg v_ad f6
  simp only [ad_14] at f5
  have h5 : v_iv (n_v vs 17) = w_ei ws (w_ar ws (n_v vs 0) 2) (v_iv (n_v vs 8)) := f5
  simp only [ar_0_2_1] at f16
  have fe_12_0_1 : w_fi ws (n_v vs 12) 0 = w_fi w1 (n_v vs 12) 0 := congrArg v_iv (s1.2 _ _)
  have hE_0_2_1 : ∀ j : Int, 0 ≤ j → (j = v_iv (n_v vs 8) → w_ei ws (w_ar ws (n_v vs 0) 2) j = v_iv (n_v vs 15)) ∧ (j ≠ v_iv (n_v vs 8) → w_ei ws (w_ar ws (n_v vs 0) 2) j = w_ei w1 (w_ar ws (n_v vs 0) 2) j) := fun j hj => ⟨fun h => by unfold w_ei; rw [s1.1, if_pos ⟨ad_14.symm, by rw [h]⟩], fun h => by unfold w_ei; rw [s1.1, if_neg (fun e => h (by have := e.2; omega))]⟩
  have kz_12_0 := fdq_21 hD hth r12
  have nf0 : fc_1 PRD (20, [5, 6, 7, 21, 22], [60, 0, 1, 550, 2]) ws (vs) := by
    refine ⟨nf_in hl rfl, sgq_1388 ?_⟩
    · show MX2 (w_ei ws (w_ar ws (n_v vs 5) 2)) (v_iv (n_v vs 6)) (v_iv (n_v vs 7)) (v_iv (n_v vs 21)) (v_iv (n_v vs 22))
      rw [q5]
      exact vc_Pl_layMatrix_6_0 (v_iv (n_v vs 6)) (v_iv (n_v vs 7)) (v_iv (n_v vs 8)) (v_iv (n_v vs 10)) (v_iv (n_v vs 15)) (v_iv (n_v vs 16)) (v_iv (n_v vs 17)) (v_iv (n_v vs 18)) (v_iv (n_v vs 19)) (v_iv (n_v vs 20)) (v_iv (n_v vs 21)) (v_iv (n_v vs 22)) (w_ei ws (w_ar ws (n_v vs 0) 2)) (w_fi ws (n_v vs 12) 0) (w_fi w1 (n_v vs 12) 0) (w_ei w1 (w_ar ws (n_v vs 0) 2)) k6 k7 k8 k10 k15 k16 k17 k18 k19 k20 k21 k22 f1 f2 f3 f4 h5 f10 f13 f14 f16 fe_12_0_1 hE_0_2_1 kz_12_0
  have nf1 : fc_1 PRD (20, [23, 22], [50, 0, 0, 0, 6, 4, 2, 1, 0, 0, 1, 1, 1]) ws (vs) := ⟨nf_in hl rfl, sgq_396 (vc_Pl_layMatrix_6_1 (v_iv (n_v vs 8)) (v_iv (n_v vs 11)) (v_iv (n_v vs 22)) (v_iv (n_v vs 23)) (w_fi ws (n_v vs 12) 0) (w_fi w1 (n_v vs 12) 0) k8 k11 k22 k23 d0 d3 d4 d8 f8 fe_12_0_1 kz_12_0)⟩
  have nf2 : fc_1 PRD (20, [9, 22], [50, 0, 0, 0, 6, 4, 2, 1, 0, 0, 1, 1, 1]) ws (vs) := ⟨nf_in hl rfl, sgq_396 (vc_Pl_layMatrix_6_2 (v_iv (n_v vs 8)) (v_iv (n_v vs 9)) (v_iv (n_v vs 22)) (w_fi ws (n_v vs 12) 0) (w_fi w1 (n_v vs 12) 0) k8 k9 k22 d4 f9 fe_12_0_1 kz_12_0)⟩
  refine ⟨(fun _ h => (by cases h)), [], trivial, ?_, (fun _ h => (by cases h))⟩
  rw [List.append_nil]
  exact List.forall_mem_cons.mpr ⟨⟨show (20 : Nat) < 100 from by decide, nf0⟩, List.forall_mem_cons.mpr ⟨⟨show (20 : Nat) < 100 from by decide, nf1⟩, List.forall_mem_cons.mpr ⟨⟨show (20 : Nat) < 100 from by decide, nf2⟩, (fun _ h => (by cases h))⟩⟩⟩
def o_Pl_layMatrix_7 : or_T := (195, 27, [(3, (2, 0, 0, [12])), (4, (0, 0, 3072, [])), (20, (2, 0, 0, [15])), (21, (0, 0, 23, [])), (26, (0, -92, 92, []))], [(100, [20, 21, 26], []), (20, [3, 4], [62, 2000000])], [], [], [(20, [3, 4], [62, 2000000])], [], [])
theorem oo_Pl_layMatrix_7 {kA : Nat → ClassId} : or_ok PRD kA GG o_Pl_layMatrix_7 := by
  refine or_mk fun A ta ws vs hD hth hl => ?_
  intro t3 r3 t4 k4 t20 r20 t21 k21 t26 k26 ta1 w1 le1 s1 f1
  have s1 : (∀ b j, w_el ws b j = if b = v_ad (n_v vs 20) ∧ j = (v_iv (n_v vs 21)).toNat then v_iv (n_v vs 26) else w_el w1 b j) ∧ ∀ b k, w_fd ws b k = w_fd w1 b k := s1.2
  replace f1 := shm_161 f1
  have nf0 : fc_1 PRD (20, [3, 4], [62, 2000000]) ws (vs) := by
    refine ⟨nf_in hl rfl, sgq_161 ?_⟩
    · show HY ws (n_v vs 3) (v_iv (n_v vs 4) + (((2000000 : Nat) : Int) - 2000000))
      have hn := hy_ne (k := 3) (g := GG_12) hD hth r3 rfl (by decide) rfl rfl r20 (by decide) s1.2
      have hn0 := hy_ne (k := 0) (g := GG_12) hD hth r3 rfl (by decide) rfl rfl r20 (by decide) s1.2
      exact hy_st (hy_le f1 (by omega)) s1 hn hn0 (by omega) (by omega)
  refine ⟨(fun _ h => (by cases h)), [], trivial, ?_, (fun _ h => (by cases h))⟩
  rw [List.append_nil]
  exact List.forall_mem_cons.mpr ⟨⟨show (20 : Nat) < 100 from by decide, nf0⟩, (fun _ h => (by cases h))⟩
def n_Pl_layMatrix_an : List an_T := [(19, [(0, (2, 0, 0, [6])), (1, (0, 0, 24, [])), (2, (0, 0, 16777215, [])), (3, (0, 0, 24, [])), (4, (0, 0, 24, []))], [], (0, 0), [(0, 0, 99981), (1, 9, 24), (0, 0, 100000), (0, 0, 0), (0, 0, 0)], [(9, 6, (Int.negSucc 999999999999), 0)], [((0, 0), (2, 0, 0, [3])), ((0, 1), (2, 0, 0, [0]))], [(2, 0, 0, [6]), (2, 0, 0, [3]), (2, 0, 0, [0]), (2, 0, 0, [12]), (0, 0, 3072, [])], 0, [], [(20, [5, 6, 7, 8], [60, 0, 1, 549, 2]), (20, [9, 8], [50, 0, 0, 0, 2, 1, 0, 1, 1]), (20, [6, 10], [50, 1, 0, 1000, 1, 2, 1, 0, 2, 1, 0]), (20, [3, 4], [62, 2000000]), (24, [0, 5], [])]), (87, [(0, (2, 0, 0, [6])), (1, (0, 1, 24, [])), (2, (0, 0, 16777215, [])), (3, (0, 0, 24, [])), (4, (0, 0, 23, [])), (5, (0, 0, 16777215, [])), (6, (0, 0, 24, []))], [], (0, 0), [(0, 0, 99981), (1, 9, 24), (0, 0, 99913), (1, 8, 24), (0, 0, 100000)], [(9, 6, (Int.negSucc 999999999999), (Int.negSucc 0)), (11, 6, (Int.negSucc 999999999999), 0), (11, 8, (Int.negSucc 999999999999), 0)], [((0, 0), (2, 0, 0, [3])), ((0, 1), (2, 0, 0, [0]))], [(2, 0, 0, [6]), (2, 0, 0, [3]), (2, 0, 0, [0]), (2, 0, 0, [12]), (0, 0, 3072, [])], 0, [], [(20, [5, 6, 7, 10, 8], [60, 0, 1, 550, 2]), (20, [11, 8], [50, 0, 0, 0, 6, 4, 2, 1, 0, 0, 1, 1, 1]), (20, [9, 8], [50, 0, 0, 0, 6, 4, 2, 1, 0, 0, 1, 1, 1]), (20, [6, 12], [50, 1, 0, 1000, 1, 2, 1, 0, 2, 1, 0]), (20, [3, 4], [62, 2000000]), (24, [0, 5], [])]), (143, [(0, (2, 0, 0, [6])), (1, (0, 0, 24, [])), (2, (0, 0, 16777215, [])), (3, (0, 0, 24, [])), (4, (0, 0, 24, []))], [], (0, 0), [(0, 0, 99857), (1, 9, 24), (0, 0, 100000), (0, 0, 0), (0, 0, 0)], [(9, 6, (Int.negSucc 999999999999), 0)], [((0, 0), (2, 0, 0, [3])), ((0, 1), (2, 0, 0, [0]))], [(2, 0, 0, [6]), (2, 0, 0, [3]), (2, 0, 0, [0]), (2, 0, 0, [12]), (0, 0, 3072, [])], 0, [], [(20, [3, 4], [62, 2000000]), (24, [0, 5], [])]), (212, [(0, (2, 0, 0, [6])), (1, (0, 0, 24, [])), (2, (0, 0, 16777215, [])), (3, (0, 0, 24, [])), (4, (0, 0, 48, []))], [], (0, 0), [(0, 0, 99788), (1, 9, 48), (0, 0, 100000), (0, 0, 0), (0, 0, 0)], [], [((0, 0), (2, 0, 0, [3])), ((0, 1), (2, 0, 0, [0]))], [(2, 0, 0, [6]), (2, 0, 0, [3]), (2, 0, 0, [0]), (2, 0, 0, [12]), (0, 0, 3072, [])], 0, [], [(20, [3, 4], [62, 2000000]), (24, [0, 5], [])])]
def t_Pl_layMatrix_ct : ct_L := [(1, 259, e_Pl_fewestNeighbours), (786, 271, e_jMath_abs1_v53), (846, 150, e_jMath_max1_v131)]
set_option maxRecDepth 100000 in
theorem c_Pl_layMatrix {l : Launch} {D : va_G} {kA : Nat → ClassId} (h_Pl_fewestNeighbours : ct_ok PRD l D kA GG y_Pl_fewestNeighbours z_Pl_fewestNeighbours e_Pl_fewestNeighbours) : ct_ok PRD l D kA GG y_Pl_layMatrix z_Pl_layMatrix e_Pl_layMatrix := chk_all_ok (FT := [(9, 6, 0), (15, 6, 1), (19, 6, 2), (74, 3, 0), (79, 3, 1), (127, 0, 2), (135, 0, 3), (138, 3, 14), (262, 0, 9), (265, 3, 7), (268, 3, 8)]) (PT := [(262, 0, 9, .int)]) (CT := t_Pl_layMatrix_ct) (KT := []) (NT := []) (AN := n_Pl_layMatrix_an) (OT := [o_Pl_layMatrix_0, o_Pl_layMatrix_1, o_Pl_layMatrix_2, o_Pl_layMatrix_3, o_Pl_layMatrix_4, o_Pl_layMatrix_5, o_Pl_layMatrix_6, o_Pl_layMatrix_7]) 5 756 (List.forall_mem_cons.mpr ⟨oo_Pl_layMatrix_0, List.forall_mem_cons.mpr ⟨oo_Pl_layMatrix_1, List.forall_mem_cons.mpr ⟨oo_Pl_layMatrix_2, List.forall_mem_cons.mpr ⟨oo_Pl_layMatrix_3, List.forall_mem_cons.mpr ⟨oo_Pl_layMatrix_4, List.forall_mem_cons.mpr ⟨oo_Pl_layMatrix_5, List.forall_mem_cons.mpr ⟨oo_Pl_layMatrix_6, List.forall_mem_cons.mpr ⟨oo_Pl_layMatrix_7, List.forall_mem_nil _⟩⟩⟩⟩⟩⟩⟩⟩) (by decide +kernel) ⟨List.forall_mem_cons.mpr ⟨gf_Pl_9, List.forall_mem_cons.mpr ⟨gf_Pl_15, List.forall_mem_cons.mpr ⟨gf_Pl_19, List.forall_mem_cons.mpr ⟨gf_Pl_74, List.forall_mem_cons.mpr ⟨gf_Pl_79, List.forall_mem_cons.mpr ⟨gf_Pl_127, List.forall_mem_cons.mpr ⟨gf_Pl_135, List.forall_mem_cons.mpr ⟨gf_Pl_138, List.forall_mem_cons.mpr ⟨gf_Pl_262, List.forall_mem_cons.mpr ⟨gf_Pl_265, List.forall_mem_cons.mpr ⟨gf_Pl_268, List.forall_mem_nil _⟩⟩⟩⟩⟩⟩⟩⟩⟩⟩⟩, List.forall_mem_cons.mpr ⟨pf_Pl_262, List.forall_mem_nil _⟩, List.forall_mem_cons.mpr ⟨cl_virtual (y := y_Pl_fewestNeighbours) (ci := 6) rfl rfl ⟨_, _, rfl⟩ (by decide +kernel) h_Pl_fewestNeighbours wm_1808 wm_21 wm_1805 wm_1807 wv_8_12 ⟨by decide, by decide, by decide +kernel⟩ (by decide), List.forall_mem_cons.mpr ⟨cl_static (y := y_jMath_abs1) c_jMath_abs1_v53 wm_1811 wm_10 wm_1809 wm_1810 ⟨by decide, by decide, by decide +kernel⟩ (by decide), List.forall_mem_cons.mpr ⟨cl_static (y := y_jMath_max1) c_jMath_max1_v131 wm_836 wm_10 wm_1714 wm_835 ⟨by decide, by decide, by decide +kernel⟩ (by decide), List.forall_mem_nil _⟩⟩⟩, List.forall_mem_nil _, List.forall_mem_nil _, GG_pl⟩ (by decide +kernel)
set_option maxHeartbeats 4000000 in
theorem vc_Pl_placeOver_0_0 (x1 : Int) (x6 : Int) (x7 : Int) (parent_0 : Int → Int) (kids_0 : Int → Int) (k1 : 0 ≤ x1 ∧ x1 ≤ 23) (k6 : 0 ≤ x6 ∧ x6 ≤ 0) (k7 : 0 ≤ x7 ∧ x7 ≤ 0) : TQL (parent_0) (kids_0) (x1) (x6) (x7) := by
  first
    | exact tql_start (by omega) (by omega)
set_option maxHeartbeats 4000000 in
theorem vc_Pl_placeOver_0_1 (x1 : Int) (x5 : Int) (x7 : Int) (x_0o3 : Int → Int) (nodes_0o2 : Int) (level_0 : Int → Int) (kids_0 : Int → Int) (k1 : 0 ≤ x1 ∧ x1 ≤ 23) (k7 : 0 ≤ x7 ∧ x7 ≤ 0) (kz_2_0 : 0 ≤ nodes_0o2 ∧ nodes_0o2 ≤ 24) : x7 ≤ nodes_0o2 := by
  first
    | omega
    | assumption
    | (rw [show gy = x5 by omega]; assumption)
def o_Pl_placeOver_0 : or_T := (4, 8, [(1, (0, 0, 23, [])), (2, (2, 0, 0, [3])), (6, (0, 0, 0, [])), (7, (0, 0, 0, []))], [], [], [], [(20, [0, 1, 6, 7], [60, 0, 2, 871, 5, 7]), (20, [7, 2], [50, 1, 0, 1000, 0, 2, 1, 0, 2, 1, 0]), (24, [2, 2], []), (24, [3, 3], []), (24, [1, 1], []), (24, [0, 0], []), (24, [1, 1], [])], [], [])
theorem oo_Pl_placeOver_0 {kA : Nat → ClassId} : or_ok PRD kA GG o_Pl_placeOver_0 := by
  refine or_mk fun A ta ws vs hD hth hl => ?_
  intro t1 k1 t2 r2 t6 k6 t7 k7
  have kz_2_0 := fdq_21 hD hth r2
  have nf0 : fc_1 PRD (20, [0, 1, 6, 7], [60, 0, 2, 871, 5, 7]) ws (vs) := ⟨nf_in hl rfl, sgq_1389 (vc_Pl_placeOver_0_0 (v_iv (n_v vs 1)) (v_iv (n_v vs 6)) (v_iv (n_v vs 7)) (w_ei ws (w_ar ws (n_v vs 0) 5)) (w_ei ws (w_ar ws (n_v vs 0) 7)) k1 k6 k7)⟩
  have nf1 : fc_1 PRD (20, [7, 2], [50, 1, 0, 1000, 0, 2, 1, 0, 2, 1, 0]) ws (vs) := ⟨nf_in hl rfl, sgq_411 (vc_Pl_placeOver_0_1 (v_iv (n_v vs 1)) (v_iv (n_v vs 5)) (v_iv (n_v vs 7)) (w_ei ws (w_ar ws (n_v vs 3) 2)) (w_fi ws (n_v vs 2) 0) (w_ei ws (w_ar ws (n_v vs 0) 4)) (w_ei ws (w_ar ws (n_v vs 0) 7)) k1 k7 kz_2_0)⟩
  have nf2 : fc_1 PRD (24, [2, 2], []) ws (vs) := by
    refine ⟨nf_in hl rfl, sgq_1 ?_⟩
    · show n_v vs 2 = n_v vs 2
      first | rfl | simp only [true_and]
  have nf3 : fc_1 PRD (24, [3, 3], []) ws (vs) := by
    refine ⟨nf_in hl rfl, sgq_1 ?_⟩
    · show n_v vs 3 = n_v vs 3
      first | rfl | simp only [true_and]
  have nf4 : fc_1 PRD (24, [1, 1], []) ws (vs) := by
    refine ⟨nf_in hl rfl, sgq_1 ?_⟩
    · show n_v vs 1 = n_v vs 1
      first | rfl | simp only [true_and]
  have nf5 : fc_1 PRD (24, [0, 0], []) ws (vs) := by
    refine ⟨nf_in hl rfl, sgq_1 ?_⟩
    · show n_v vs 0 = n_v vs 0
      first | rfl | simp only [true_and]
  have nf6 : fc_1 PRD (24, [1, 1], []) ws (vs) := by
    refine ⟨nf_in hl rfl, sgq_1 ?_⟩
    · show n_v vs 1 = n_v vs 1
      first | rfl | simp only [true_and]
  refine ⟨(fun _ h => (by cases h)), [], trivial, ?_, (fun _ h => (by cases h))⟩
  rw [List.append_nil]
  exact List.forall_mem_cons.mpr ⟨⟨show (20 : Nat) < 100 from by decide, nf0⟩, List.forall_mem_cons.mpr ⟨⟨show (20 : Nat) < 100 from by decide, nf1⟩, List.forall_mem_cons.mpr ⟨⟨show (24 : Nat) < 100 from by decide, nf2⟩, List.forall_mem_cons.mpr ⟨⟨show (24 : Nat) < 100 from by decide, nf3⟩, List.forall_mem_cons.mpr ⟨⟨show (24 : Nat) < 100 from by decide, nf4⟩, List.forall_mem_cons.mpr ⟨⟨show (24 : Nat) < 100 from by decide, nf5⟩, List.forall_mem_cons.mpr ⟨⟨show (24 : Nat) < 100 from by decide, nf6⟩, (fun _ h => (by cases h))⟩⟩⟩⟩⟩⟩⟩
set_option maxHeartbeats 4000000 in
theorem vc_Pl_placeOver_1_0 (x1 : Int) (x4 : Int) (x5 : Int) (x8 : Int) (x9 : Int) (x12 : Int) (nodes_0o2 : Int) (order_0 : Int → Int) (parent_0 : Int → Int) (level_0 : Int → Int) (kids_0 : Int → Int) (gx : Int) (gy : Int) (k1 : 0 ≤ x1 ∧ x1 ≤ 23) (k4 : 0 ≤ x4 ∧ x4 ≤ 24) (k5 : 0 ≤ x5 ∧ x5 ≤ 24) (k8 : 0 ≤ x8 ∧ x8 ≤ 24) (k9 : 0 ≤ x9 ∧ x9 ≤ 24) (k12 : 0 ≤ x12 ∧ x12 ≤ 24) (d0 : x12 + 0 ≤ x9 ∧ x9 ≤ x12 + 4294967296) (g3 : x12 = nodes_0o2) (f6 : TQD (nodes_0o2) (order_0) (parent_0) (level_0) (x4)) (f7 : x1 = order_0 (x5)) (f8 : (x5 + 1) ≤ x4) (f9 : TQL (parent_0) (kids_0) (x1) (x8) (x9)) (f10 : x9 ≤ nodes_0o2) (kz_2_0 : 0 ≤ nodes_0o2 ∧ nodes_0o2 ≤ 24) (ex2 : gx = x4) (ey2 : gy = x5) : TQK (order_0) (level_0) (kids_0) (x8) (x4) (x5) := by
  first
    | exact tqk_of (pr := parent_0) (n := nodes_0o2) ‹TQL _ _ _ _ _› (by omega) ‹TQD _ _ _ _ _› (by omega) (by omega) (by assumption)
    | (rw [show gx = x4 by omega, show gy = x5 by omega]; exact tqk_of (pr := parent_0) (n := nodes_0o2) ‹TQL _ _ _ _ _› (by omega) ‹TQD _ _ _ _ _› (by omega) (by omega) (by assumption))
set_option maxHeartbeats 4000000 in
theorem vc_Pl_placeOver_1_1 (x1 : Int) (x4 : Int) (x5 : Int) (x8 : Int) (x9 : Int) (x12 : Int) (nodes_0o2 : Int) (order_0 : Int → Int) (parent_0 : Int → Int) (level_0 : Int → Int) (kids_0 : Int → Int) (gx : Int) (gy : Int) (k1 : 0 ≤ x1 ∧ x1 ≤ 23) (k4 : 0 ≤ x4 ∧ x4 ≤ 24) (k5 : 0 ≤ x5 ∧ x5 ≤ 24) (k8 : 0 ≤ x8 ∧ x8 ≤ 24) (k9 : 0 ≤ x9 ∧ x9 ≤ 24) (k12 : 0 ≤ x12 ∧ x12 ≤ 24) (d0 : x12 + 0 ≤ x9 ∧ x9 ≤ x12 + 4294967296) (g3 : x12 = nodes_0o2) (f6 : TQD (nodes_0o2) (order_0) (parent_0) (level_0) (x4)) (f7 : x1 = order_0 (x5)) (f8 : (x5 + 1) ≤ x4) (f9 : TQL (parent_0) (kids_0) (x1) (x8) (x9)) (f10 : x9 ≤ nodes_0o2) (kz_2_0 : 0 ≤ nodes_0o2 ∧ nodes_0o2 ≤ 24) (ex2 : gx = x4) (ey2 : gy = x5) : TQC (nodes_0o2) (order_0) (parent_0) (x8) (x4) (x5) := by
  first
    | exact tqc_of ‹TQL _ _ _ _ _› (by omega) ‹TQD _ _ _ _ _› (by omega) (by omega) (by assumption) (by omega) (by omega)
    | (rw [show gx = x4 by omega, show gy = x5 by omega]; exact tqc_of ‹TQL _ _ _ _ _› (by omega) ‹TQD _ _ _ _ _› (by omega) (by omega) (by assumption) (by omega) (by omega))
set_option maxHeartbeats 4000000 in
theorem vc_Pl_placeOver_1_2 (x1 : Int) (x14 : Int) (x15 : Int) (k1 : 0 ≤ x1 ∧ x1 ≤ 23) (k14 : 1 ≤ x14 ∧ x14 ≤ 1) (k15 : 1 ≤ x15 ∧ x15 ≤ 8388608) (f0 : bvp (x15) = bvp (x14) <<< (x1).toNat) : TQO (x15) (x1) := by
  first
    | exact tqo_of (by assumption) (by omega)
  
set_option maxHeartbeats 4000000 in
theorem vc_Pl_placeOver_1_3 (x1 : Int) (x4 : Int) (x5 : Int) (x8 : Int) (x_0o3 : Int → Int) (level_0 : Int → Int) (kids_0 : Int → Int) (gx : Int) (gy : Int) (k1 : 0 ≤ x1 ∧ x1 ≤ 23) (k4 : 0 ≤ x4 ∧ x4 ≤ 24) (ex2 : gx = x4) : 1 * gx + ((-1) * x4 + 0) ≤ 0 := by
  first
    | omega
    | assumption
    | (rw [show gy = x5 by omega]; assumption)
set_option maxHeartbeats 4000000 in
theorem vc_Pl_placeOver_1_4 (x1 : Int) (x4 : Int) (x5 : Int) (x8 : Int) (x_0o3 : Int → Int) (level_0 : Int → Int) (kids_0 : Int → Int) (gx : Int) (gy : Int) (k1 : 0 ≤ x1 ∧ x1 ≤ 23) (k4 : 0 ≤ x4 ∧ x4 ≤ 24) (ex2 : gx = x4) : (-1) * gx + (1 * x4 + 0) ≤ 0 := by
  first
    | omega
    | assumption
    | (rw [show gy = x5 by omega]; assumption)
set_option maxHeartbeats 4000000 in
theorem vc_Pl_placeOver_1_5 (x1 : Int) (x5 : Int) (x8 : Int) (x_0o3 : Int → Int) (level_0 : Int → Int) (kids_0 : Int → Int) (gy : Int) (k1 : 0 ≤ x1 ∧ x1 ≤ 23) (k5 : 0 ≤ x5 ∧ x5 ≤ 24) (ey2 : gy = x5) : 1 * gy + ((-1) * x5 + 0) ≤ 0 := by
  first
    | omega
    | assumption
    | (rw [show gy = x5 by omega]; assumption)
set_option maxHeartbeats 4000000 in
theorem vc_Pl_placeOver_1_6 (x1 : Int) (x5 : Int) (x8 : Int) (x_0o3 : Int → Int) (level_0 : Int → Int) (kids_0 : Int → Int) (gy : Int) (k1 : 0 ≤ x1 ∧ x1 ≤ 23) (k5 : 0 ≤ x5 ∧ x5 ≤ 24) (ey2 : gy = x5) : (-1) * gy + (1 * x5 + 0) ≤ 0 := by
  first
    | omega
    | assumption
    | (rw [show gy = x5 by omega]; assumption)
set_option maxHeartbeats 4000000 in
theorem vc_Pl_placeOver_1_7 (x4 : Int) (x5 : Int) (nodes_0o2 : Int) (order_0 : Int → Int) (parent_0 : Int → Int) (x_0o3 : Int → Int) (gx : Int) (gy : Int) (k4 : 0 ≤ x4 ∧ x4 ≤ 24) (k5 : 0 ≤ x5 ∧ x5 ≤ 24) (f4 : TQ0 (nodes_0o2) (order_0) (parent_0) (x_0o3) (x4) (x5)) (kz_2_0 : 0 ≤ nodes_0o2 ∧ nodes_0o2 ≤ 24) (ex2 : gx = x4) (ey2 : gy = x5) : TQ0 (nodes_0o2) (order_0) (parent_0) (x_0o3) (gx) (gy) := by
  first
    | assumption
    | (rw [show gx = x4 by omega, show gy = x5 by omega]; assumption)
set_option maxHeartbeats 4000000 in
theorem vc_Pl_placeOver_1_8 (x4 : Int) (x5 : Int) (nodes_0o2 : Int) (order_0 : Int → Int) (under_0 : Int → Int) (gx : Int) (gy : Int) (k4 : 0 ≤ x4 ∧ x4 ≤ 24) (k5 : 0 ≤ x5 ∧ x5 ≤ 24) (f5 : TQU (nodes_0o2) (order_0) (under_0) (x4) (x5)) (kz_2_0 : 0 ≤ nodes_0o2 ∧ nodes_0o2 ≤ 24) (ex2 : gx = x4) (ey2 : gy = x5) : TQU (nodes_0o2) (order_0) (under_0) (gx) (gy) := by
  first
    | assumption
    | (rw [show gx = x4 by omega, show gy = x5 by omega]; assumption)
set_option maxHeartbeats 4000000 in
theorem vc_Pl_placeOver_1_9 (x1 : Int) (x4 : Int) (x5 : Int) (x8 : Int) (x9 : Int) (x12 : Int) (nodes_0o2 : Int) (order_0 : Int → Int) (parent_0 : Int → Int) (level_0 : Int → Int) (kids_0 : Int → Int) (gx : Int) (gy : Int) (k1 : 0 ≤ x1 ∧ x1 ≤ 23) (k4 : 0 ≤ x4 ∧ x4 ≤ 24) (k5 : 0 ≤ x5 ∧ x5 ≤ 24) (k8 : 0 ≤ x8 ∧ x8 ≤ 24) (k9 : 0 ≤ x9 ∧ x9 ≤ 24) (k12 : 0 ≤ x12 ∧ x12 ≤ 24) (d0 : x12 + 0 ≤ x9 ∧ x9 ≤ x12 + 4294967296) (g3 : x12 = nodes_0o2) (f6 : TQD (nodes_0o2) (order_0) (parent_0) (level_0) (x4)) (f7 : x1 = order_0 (x5)) (f8 : (x5 + 1) ≤ x4) (f9 : TQL (parent_0) (kids_0) (x1) (x8) (x9)) (f10 : x9 ≤ nodes_0o2) (kz_2_0 : 0 ≤ nodes_0o2 ∧ nodes_0o2 ≤ 24) (ex2 : gx = x4) (ey2 : gy = x5) : TQK (order_0) (level_0) (kids_0) (x8) (gx) (gy) := by
  first
    | exact tqk_of (pr := parent_0) (n := nodes_0o2) ‹TQL _ _ _ _ _› (by omega) ‹TQD _ _ _ _ _› (by omega) (by omega) (by assumption)
    | (rw [show gx = x4 by omega, show gy = x5 by omega]; exact tqk_of (pr := parent_0) (n := nodes_0o2) ‹TQL _ _ _ _ _› (by omega) ‹TQD _ _ _ _ _› (by omega) (by omega) (by assumption))
set_option maxHeartbeats 4000000 in
theorem vc_Pl_placeOver_1_10 (x1 : Int) (x4 : Int) (x5 : Int) (x8 : Int) (x9 : Int) (x12 : Int) (nodes_0o2 : Int) (order_0 : Int → Int) (parent_0 : Int → Int) (level_0 : Int → Int) (kids_0 : Int → Int) (gx : Int) (gy : Int) (k1 : 0 ≤ x1 ∧ x1 ≤ 23) (k4 : 0 ≤ x4 ∧ x4 ≤ 24) (k5 : 0 ≤ x5 ∧ x5 ≤ 24) (k8 : 0 ≤ x8 ∧ x8 ≤ 24) (k9 : 0 ≤ x9 ∧ x9 ≤ 24) (k12 : 0 ≤ x12 ∧ x12 ≤ 24) (d0 : x12 + 0 ≤ x9 ∧ x9 ≤ x12 + 4294967296) (g3 : x12 = nodes_0o2) (f6 : TQD (nodes_0o2) (order_0) (parent_0) (level_0) (x4)) (f7 : x1 = order_0 (x5)) (f8 : (x5 + 1) ≤ x4) (f9 : TQL (parent_0) (kids_0) (x1) (x8) (x9)) (f10 : x9 ≤ nodes_0o2) (kz_2_0 : 0 ≤ nodes_0o2 ∧ nodes_0o2 ≤ 24) (ex2 : gx = x4) (ey2 : gy = x5) : TQC (nodes_0o2) (order_0) (parent_0) (x8) (gx) (gy) := by
  first
    | exact tqc_of ‹TQL _ _ _ _ _› (by omega) ‹TQD _ _ _ _ _› (by omega) (by omega) (by assumption) (by omega) (by omega)
    | (rw [show gx = x4 by omega, show gy = x5 by omega]; exact tqc_of ‹TQL _ _ _ _ _› (by omega) ‹TQD _ _ _ _ _› (by omega) (by omega) (by assumption) (by omega) (by omega))
set_option maxHeartbeats 4000000 in
theorem vc_Pl_placeOver_1_11 (x4 : Int) (nodes_0o2 : Int) (order_0 : Int → Int) (parent_0 : Int → Int) (level_0 : Int → Int) (gx : Int) (k4 : 0 ≤ x4 ∧ x4 ≤ 24) (f6 : TQD (nodes_0o2) (order_0) (parent_0) (level_0) (x4)) (kz_2_0 : 0 ≤ nodes_0o2 ∧ nodes_0o2 ≤ 24) (ex2 : gx = x4) : TQD (nodes_0o2) (order_0) (parent_0) (level_0) (gx) := by
  first
    | assumption
    | (rw [show gx = x4 by omega]; assumption)
def o_Pl_placeOver_1 : or_T := (51, 16, [(1, (0, 0, 23, [])), (2, (2, 0, 0, [3])), (4, (0, 0, 24, [])), (5, (0, 0, 24, [])), (8, (0, 0, 24, [])), (9, (0, 0, 24, [])), (12, (0, 0, 24, [])), (14, (0, 1, 1, [])), (15, (0, 1, 8388608, []))], [(16, [15, 14, 7], [3]), (9, [12, 10], [0]), (20, [6, 10, 11, 4, 5], [60, 1, 3, 865, 1000, 2, 5, 2002]), (20, [6, 10, 4, 5], [60, 1, 2, 860, 1000, 2, 6]), (20, [6, 10, 4], [60, 1, 3, 859, 1000, 2, 5, 4]), (20, [7, 6, 5], [50, 0, 1, 1002, 1, 2, 1, 0, 3, 1, 2, 1, 2]), (20, [5, 4], [50, 0, 0, 0, 6, 4, 2, 1, 0, 0, 1, 1, 1]), (20, [6, 7, 8, 9], [60, 0, 2, 871, 5, 7]), (20, [9, 10], [50, 1, 0, 1000, 0, 2, 1, 0, 2, 1, 0]), (24, [2, 10], []), (24, [3, 11], []), (24, [1, 7], []), (24, [0, 6], [])], [], [(0, 0, 24, []), (0, 0, 24, [])], [(20, [6, 8, 4, 5], [60, 0, 3, 861, 2, 4, 7]), (20, [6, 10, 8, 4, 5], [60, 1, 2, 862, 1000, 2, 5]), (20, [15, 7], [61, 0, 877]), (23, [16, 4], [0, 1, -1]), (23, [16, 4], [0, -1, 1]), (23, [17, 5], [0, 1, -1]), (23, [17, 5], [0, -1, 1]), (20, [6, 10, 11, 16, 17], [60, 1, 3, 865, 1000, 2, 5, 2002]), (20, [6, 10, 16, 17], [60, 1, 2, 860, 1000, 2, 6]), (20, [6, 8, 16, 17], [60, 0, 3, 861, 2, 4, 7]), (20, [6, 10, 8, 16, 17], [60, 1, 2, 862, 1000, 2, 5]), (20, [6, 10, 16], [60, 1, 3, 859, 1000, 2, 5, 4])], [], [(9, 12, 0, 4294967296)])
theorem oo_Pl_placeOver_1 {kA : Nat → ClassId} : or_ok PRD kA GG o_Pl_placeOver_1 := by
  refine or_mk fun A ta ws vs hD hth hl => ?_
  intro t1 k1 t2 r2 t4 k4 t5 k5 t8 k8 t9 k9 t12 k12 t14 k14 t15 k15 d0 f0 f3 f4 f5 f6 f7 f8 f9 f10 f11 f12 f13 f14
  replace f0 := shm_349 f0
  replace f3 := shm_163 f3
  replace f4 := shm_1103 f4
  replace f5 := shm_1104 f5
  replace f6 := shm_1107 f6
  replace f7 := shm_428 f7
  replace f8 := shm_396 f8
  replace f9 := shm_1389 f9
  replace f10 := shm_411 f10
  replace f11 := shm_5 f11
  replace f12 := shm_5 f12
  replace f13 := shm_5 f13
  replace f14 := shm_5 f14
  have q10 : n_v vs 10 = n_v vs 2 := f11.symm
  have q11 : n_v vs 11 = n_v vs 3 := f12.symm
  have q7 : n_v vs 7 = n_v vs 1 := f13.symm
  have q6 : n_v vs 6 = n_v vs 0 := f14.symm
  simp only [q7, q6, q10, q11] at f0 f3 f4 f5 f6 f7 f9 f10
  have g3 : v_iv (n_v vs 12) = w_fi ws (n_v vs 2) 0 := congrArg v_iv f3
  have kz_2_0 := fdq_21 hD hth r2
  obtain ⟨x, ex, hx⟩ := iv_ex (ta := ta) (lo := 0) (hi := 24) (z := v_iv (n_v vs 4)) (by omega) (by omega) (by omega) (by omega)
  have ex2 : v_iv (Value.int x) = v_iv (n_v vs 4) := ex
  have ex3 : 0 ≤ v_iv (Value.int x) ∧ v_iv (Value.int x) ≤ 24 := tv_rng hx
  obtain ⟨y, ey, hy⟩ := iv_ex (ta := ta) (lo := 0) (hi := 24) (z := v_iv (n_v vs 5)) (by omega) (by omega) (by omega) (by omega)
  have ey2 : v_iv (Value.int y) = v_iv (n_v vs 5) := ey
  have ey3 : 0 ≤ v_iv (Value.int y) ∧ v_iv (Value.int y) ≤ 24 := tv_rng hy
  have e_4 : n_v (vs ++ [Value.int x, Value.int y]) 4 = n_v vs 4 := n_v_old (by rw [hl]; decide)
  have e_5 : n_v (vs ++ [Value.int x, Value.int y]) 5 = n_v vs 5 := n_v_old (by rw [hl]; decide)
  have e_6 : n_v (vs ++ [Value.int x, Value.int y]) 6 = n_v vs 6 := n_v_old (by rw [hl]; decide)
  have e_7 : n_v (vs ++ [Value.int x, Value.int y]) 7 = n_v vs 7 := n_v_old (by rw [hl]; decide)
  have e_8 : n_v (vs ++ [Value.int x, Value.int y]) 8 = n_v vs 8 := n_v_old (by rw [hl]; decide)
  have e_10 : n_v (vs ++ [Value.int x, Value.int y]) 10 = n_v vs 10 := n_v_old (by rw [hl]; decide)
  have e_11 : n_v (vs ++ [Value.int x, Value.int y]) 11 = n_v vs 11 := n_v_old (by rw [hl]; decide)
  have e_15 : n_v (vs ++ [Value.int x, Value.int y]) 15 = n_v vs 15 := n_v_old (by rw [hl]; decide)
  have e_16 : n_v (vs ++ [Value.int x, Value.int y]) 16 = Value.int x := n_v_new0 hl
  have e_17 : n_v (vs ++ [Value.int x, Value.int y]) 17 = Value.int y := n_v_new1 hl
  have nf0 : fc_1 PRD (20, [6, 8, 4, 5], [60, 0, 3, 861, 2, 4, 7]) ws (vs ++ [Value.int x, Value.int y]) := by
    refine ⟨nf_inA hl rfl, sgq_1105 ?_⟩
    · show TQK (w_ei ws (w_ar ws (n_v (vs ++ [Value.int x, Value.int y]) 6) 2)) (w_ei ws (w_ar ws (n_v (vs ++ [Value.int x, Value.int y]) 6) 4)) (w_ei ws (w_ar ws (n_v (vs ++ [Value.int x, Value.int y]) 6) 7)) (v_iv (n_v (vs ++ [Value.int x, Value.int y]) 8)) (v_iv (n_v (vs ++ [Value.int x, Value.int y]) 4)) (v_iv (n_v (vs ++ [Value.int x, Value.int y]) 5))
      simp only [e_4, e_5, e_6, e_8, q6]
      exact vc_Pl_placeOver_1_0 (v_iv (n_v vs 1)) (v_iv (n_v vs 4)) (v_iv (n_v vs 5)) (v_iv (n_v vs 8)) (v_iv (n_v vs 9)) (v_iv (n_v vs 12)) (w_fi ws (n_v vs 2) 0) (w_ei ws (w_ar ws (n_v vs 0) 2)) (w_ei ws (w_ar ws (n_v vs 0) 5)) (w_ei ws (w_ar ws (n_v vs 0) 4)) (w_ei ws (w_ar ws (n_v vs 0) 7)) (v_iv (Value.int x)) (v_iv (Value.int y)) k1 k4 k5 k8 k9 k12 d0 g3 f6 f7 f8 f9 f10 kz_2_0 ex2 ey2
  have nf1 : fc_1 PRD (20, [6, 10, 8, 4, 5], [60, 1, 2, 862, 1000, 2, 5]) ws (vs ++ [Value.int x, Value.int y]) := by
    refine ⟨nf_inA hl rfl, sgq_1106 ?_⟩
    · show TQC (w_fi ws (n_v (vs ++ [Value.int x, Value.int y]) 10) 0) (w_ei ws (w_ar ws (n_v (vs ++ [Value.int x, Value.int y]) 6) 2)) (w_ei ws (w_ar ws (n_v (vs ++ [Value.int x, Value.int y]) 6) 5)) (v_iv (n_v (vs ++ [Value.int x, Value.int y]) 8)) (v_iv (n_v (vs ++ [Value.int x, Value.int y]) 4)) (v_iv (n_v (vs ++ [Value.int x, Value.int y]) 5))
      simp only [e_4, e_5, e_6, e_8, e_10, q10, q6]
      exact vc_Pl_placeOver_1_1 (v_iv (n_v vs 1)) (v_iv (n_v vs 4)) (v_iv (n_v vs 5)) (v_iv (n_v vs 8)) (v_iv (n_v vs 9)) (v_iv (n_v vs 12)) (w_fi ws (n_v vs 2) 0) (w_ei ws (w_ar ws (n_v vs 0) 2)) (w_ei ws (w_ar ws (n_v vs 0) 5)) (w_ei ws (w_ar ws (n_v vs 0) 4)) (w_ei ws (w_ar ws (n_v vs 0) 7)) (v_iv (Value.int x)) (v_iv (Value.int y)) k1 k4 k5 k8 k9 k12 d0 g3 f6 f7 f8 f9 f10 kz_2_0 ex2 ey2
  have nf2 : fc_1 PRD (20, [15, 7], [61, 0, 877]) ws (vs ++ [Value.int x, Value.int y]) := by
    refine ⟨nf_inA hl rfl, sgq_1390 ?_⟩
    · show TQO (v_iv (n_v (vs ++ [Value.int x, Value.int y]) 15)) (v_iv (n_v (vs ++ [Value.int x, Value.int y]) 7))
      simp only [e_7, e_15, q7]
      exact vc_Pl_placeOver_1_2 (v_iv (n_v vs 1)) (v_iv (n_v vs 14)) (v_iv (n_v vs 15)) k1 k14 k15 f0
  have nf3 : fc_1 PRD (23, [16, 4], [0, 1, -1]) ws (vs ++ [Value.int x, Value.int y]) := by
    refine ⟨nf_inA hl rfl, sgq_7 ?_⟩
    · show 1 * v_iv (n_v (vs ++ [Value.int x, Value.int y]) 16) + ((-1) * v_iv (n_v (vs ++ [Value.int x, Value.int y]) 4) + 0) ≤ 0
      simp only [e_4, e_16]
      exact vc_Pl_placeOver_1_3 (v_iv (n_v vs 1)) (v_iv (n_v vs 4)) (v_iv (n_v vs 5)) (v_iv (n_v vs 8)) (w_ei ws (w_ar ws (n_v vs 3) 2)) (w_ei ws (w_ar ws (n_v vs 0) 4)) (w_ei ws (w_ar ws (n_v vs 0) 7)) (v_iv (Value.int x)) (v_iv (Value.int y)) k1 k4 ex2
  have nf4 : fc_1 PRD (23, [16, 4], [0, -1, 1]) ws (vs ++ [Value.int x, Value.int y]) := by
    refine ⟨nf_inA hl rfl, sgq_22 ?_⟩
    · show (-1) * v_iv (n_v (vs ++ [Value.int x, Value.int y]) 16) + (1 * v_iv (n_v (vs ++ [Value.int x, Value.int y]) 4) + 0) ≤ 0
      simp only [e_4, e_16]
      exact vc_Pl_placeOver_1_4 (v_iv (n_v vs 1)) (v_iv (n_v vs 4)) (v_iv (n_v vs 5)) (v_iv (n_v vs 8)) (w_ei ws (w_ar ws (n_v vs 3) 2)) (w_ei ws (w_ar ws (n_v vs 0) 4)) (w_ei ws (w_ar ws (n_v vs 0) 7)) (v_iv (Value.int x)) (v_iv (Value.int y)) k1 k4 ex2
  have nf5 : fc_1 PRD (23, [17, 5], [0, 1, -1]) ws (vs ++ [Value.int x, Value.int y]) := by
    refine ⟨nf_inA hl rfl, sgq_7 ?_⟩
    · show 1 * v_iv (n_v (vs ++ [Value.int x, Value.int y]) 17) + ((-1) * v_iv (n_v (vs ++ [Value.int x, Value.int y]) 5) + 0) ≤ 0
      simp only [e_5, e_17]
      exact vc_Pl_placeOver_1_5 (v_iv (n_v vs 1)) (v_iv (n_v vs 5)) (v_iv (n_v vs 8)) (w_ei ws (w_ar ws (n_v vs 3) 2)) (w_ei ws (w_ar ws (n_v vs 0) 4)) (w_ei ws (w_ar ws (n_v vs 0) 7)) (v_iv (Value.int y)) k1 k5 ey2
  have nf6 : fc_1 PRD (23, [17, 5], [0, -1, 1]) ws (vs ++ [Value.int x, Value.int y]) := by
    refine ⟨nf_inA hl rfl, sgq_22 ?_⟩
    · show (-1) * v_iv (n_v (vs ++ [Value.int x, Value.int y]) 17) + (1 * v_iv (n_v (vs ++ [Value.int x, Value.int y]) 5) + 0) ≤ 0
      simp only [e_5, e_17]
      exact vc_Pl_placeOver_1_6 (v_iv (n_v vs 1)) (v_iv (n_v vs 5)) (v_iv (n_v vs 8)) (w_ei ws (w_ar ws (n_v vs 3) 2)) (w_ei ws (w_ar ws (n_v vs 0) 4)) (w_ei ws (w_ar ws (n_v vs 0) 7)) (v_iv (Value.int y)) k1 k5 ey2
  have nf7 : fc_1 PRD (20, [6, 10, 11, 16, 17], [60, 1, 3, 865, 1000, 2, 5, 2002]) ws (vs ++ [Value.int x, Value.int y]) := by
    refine ⟨nf_inA hl rfl, sgq_1103 ?_⟩
    · show TQ0 (w_fi ws (n_v (vs ++ [Value.int x, Value.int y]) 10) 0) (w_ei ws (w_ar ws (n_v (vs ++ [Value.int x, Value.int y]) 6) 2)) (w_ei ws (w_ar ws (n_v (vs ++ [Value.int x, Value.int y]) 6) 5)) (w_ei ws (w_ar ws (n_v (vs ++ [Value.int x, Value.int y]) 11) 2)) (v_iv (n_v (vs ++ [Value.int x, Value.int y]) 16)) (v_iv (n_v (vs ++ [Value.int x, Value.int y]) 17))
      simp only [e_6, e_10, e_11, e_16, e_17, q10, q11, q6]
      exact vc_Pl_placeOver_1_7 (v_iv (n_v vs 4)) (v_iv (n_v vs 5)) (w_fi ws (n_v vs 2) 0) (w_ei ws (w_ar ws (n_v vs 0) 2)) (w_ei ws (w_ar ws (n_v vs 0) 5)) (w_ei ws (w_ar ws (n_v vs 3) 2)) (v_iv (Value.int x)) (v_iv (Value.int y)) k4 k5 f4 kz_2_0 ex2 ey2
  have nf8 : fc_1 PRD (20, [6, 10, 16, 17], [60, 1, 2, 860, 1000, 2, 6]) ws (vs ++ [Value.int x, Value.int y]) := by
    refine ⟨nf_inA hl rfl, sgq_1104 ?_⟩
    · show TQU (w_fi ws (n_v (vs ++ [Value.int x, Value.int y]) 10) 0) (w_ei ws (w_ar ws (n_v (vs ++ [Value.int x, Value.int y]) 6) 2)) (w_ei ws (w_ar ws (n_v (vs ++ [Value.int x, Value.int y]) 6) 6)) (v_iv (n_v (vs ++ [Value.int x, Value.int y]) 16)) (v_iv (n_v (vs ++ [Value.int x, Value.int y]) 17))
      simp only [e_6, e_10, e_16, e_17, q10, q6]
      exact vc_Pl_placeOver_1_8 (v_iv (n_v vs 4)) (v_iv (n_v vs 5)) (w_fi ws (n_v vs 2) 0) (w_ei ws (w_ar ws (n_v vs 0) 2)) (w_ei ws (w_ar ws (n_v vs 0) 6)) (v_iv (Value.int x)) (v_iv (Value.int y)) k4 k5 f5 kz_2_0 ex2 ey2
  have nf9 : fc_1 PRD (20, [6, 8, 16, 17], [60, 0, 3, 861, 2, 4, 7]) ws (vs ++ [Value.int x, Value.int y]) := by
    refine ⟨nf_inA hl rfl, sgq_1105 ?_⟩
    · show TQK (w_ei ws (w_ar ws (n_v (vs ++ [Value.int x, Value.int y]) 6) 2)) (w_ei ws (w_ar ws (n_v (vs ++ [Value.int x, Value.int y]) 6) 4)) (w_ei ws (w_ar ws (n_v (vs ++ [Value.int x, Value.int y]) 6) 7)) (v_iv (n_v (vs ++ [Value.int x, Value.int y]) 8)) (v_iv (n_v (vs ++ [Value.int x, Value.int y]) 16)) (v_iv (n_v (vs ++ [Value.int x, Value.int y]) 17))
      simp only [e_6, e_8, e_16, e_17, q6]
      exact vc_Pl_placeOver_1_9 (v_iv (n_v vs 1)) (v_iv (n_v vs 4)) (v_iv (n_v vs 5)) (v_iv (n_v vs 8)) (v_iv (n_v vs 9)) (v_iv (n_v vs 12)) (w_fi ws (n_v vs 2) 0) (w_ei ws (w_ar ws (n_v vs 0) 2)) (w_ei ws (w_ar ws (n_v vs 0) 5)) (w_ei ws (w_ar ws (n_v vs 0) 4)) (w_ei ws (w_ar ws (n_v vs 0) 7)) (v_iv (Value.int x)) (v_iv (Value.int y)) k1 k4 k5 k8 k9 k12 d0 g3 f6 f7 f8 f9 f10 kz_2_0 ex2 ey2
  have nf10 : fc_1 PRD (20, [6, 10, 8, 16, 17], [60, 1, 2, 862, 1000, 2, 5]) ws (vs ++ [Value.int x, Value.int y]) := by
    refine ⟨nf_inA hl rfl, sgq_1106 ?_⟩
    · show TQC (w_fi ws (n_v (vs ++ [Value.int x, Value.int y]) 10) 0) (w_ei ws (w_ar ws (n_v (vs ++ [Value.int x, Value.int y]) 6) 2)) (w_ei ws (w_ar ws (n_v (vs ++ [Value.int x, Value.int y]) 6) 5)) (v_iv (n_v (vs ++ [Value.int x, Value.int y]) 8)) (v_iv (n_v (vs ++ [Value.int x, Value.int y]) 16)) (v_iv (n_v (vs ++ [Value.int x, Value.int y]) 17))
      simp only [e_6, e_8, e_10, e_16, e_17, q10, q6]
      exact vc_Pl_placeOver_1_10 (v_iv (n_v vs 1)) (v_iv (n_v vs 4)) (v_iv (n_v vs 5)) (v_iv (n_v vs 8)) (v_iv (n_v vs 9)) (v_iv (n_v vs 12)) (w_fi ws (n_v vs 2) 0) (w_ei ws (w_ar ws (n_v vs 0) 2)) (w_ei ws (w_ar ws (n_v vs 0) 5)) (w_ei ws (w_ar ws (n_v vs 0) 4)) (w_ei ws (w_ar ws (n_v vs 0) 7)) (v_iv (Value.int x)) (v_iv (Value.int y)) k1 k4 k5 k8 k9 k12 d0 g3 f6 f7 f8 f9 f10 kz_2_0 ex2 ey2
  have nf11 : fc_1 PRD (20, [6, 10, 16], [60, 1, 3, 859, 1000, 2, 5, 4]) ws (vs ++ [Value.int x, Value.int y]) := by
    refine ⟨nf_inA hl rfl, sgq_1107 ?_⟩
    · show TQD (w_fi ws (n_v (vs ++ [Value.int x, Value.int y]) 10) 0) (w_ei ws (w_ar ws (n_v (vs ++ [Value.int x, Value.int y]) 6) 2)) (w_ei ws (w_ar ws (n_v (vs ++ [Value.int x, Value.int y]) 6) 5)) (w_ei ws (w_ar ws (n_v (vs ++ [Value.int x, Value.int y]) 6) 4)) (v_iv (n_v (vs ++ [Value.int x, Value.int y]) 16))
      simp only [e_6, e_10, e_16, q10, q6]
      exact vc_Pl_placeOver_1_11 (v_iv (n_v vs 4)) (w_fi ws (n_v vs 2) 0) (w_ei ws (w_ar ws (n_v vs 0) 2)) (w_ei ws (w_ar ws (n_v vs 0) 5)) (w_ei ws (w_ar ws (n_v vs 0) 4)) (v_iv (Value.int x)) k4 f6 kz_2_0 ex2
  exact ⟨(fun _ h => (by cases h)), [Value.int x, Value.int y], ag_two hx hy, List.forall_mem_cons.mpr ⟨⟨show (20 : Nat) < 100 from by decide, nf0⟩, List.forall_mem_cons.mpr ⟨⟨show (20 : Nat) < 100 from by decide, nf1⟩, List.forall_mem_cons.mpr ⟨⟨show (20 : Nat) < 100 from by decide, nf2⟩, List.forall_mem_cons.mpr ⟨⟨show (23 : Nat) < 100 from by decide, nf3⟩, List.forall_mem_cons.mpr ⟨⟨show (23 : Nat) < 100 from by decide, nf4⟩, List.forall_mem_cons.mpr ⟨⟨show (23 : Nat) < 100 from by decide, nf5⟩, List.forall_mem_cons.mpr ⟨⟨show (23 : Nat) < 100 from by decide, nf6⟩, List.forall_mem_cons.mpr ⟨⟨show (20 : Nat) < 100 from by decide, nf7⟩, List.forall_mem_cons.mpr ⟨⟨show (20 : Nat) < 100 from by decide, nf8⟩, List.forall_mem_cons.mpr ⟨⟨show (20 : Nat) < 100 from by decide, nf9⟩, List.forall_mem_cons.mpr ⟨⟨show (20 : Nat) < 100 from by decide, nf10⟩, List.forall_mem_cons.mpr ⟨⟨show (20 : Nat) < 100 from by decide, nf11⟩, (fun _ h => (by cases h))⟩⟩⟩⟩⟩⟩⟩⟩⟩⟩⟩⟩, (fun _ h => (by cases h))⟩
set_option maxHeartbeats 4000000 in
theorem vc_Pl_placeOver_2_r0 (x1 : Int) (x5 : Int) (x8 : Int) (x16 : Int) (x17 : Int) (x22 : Int) (x23 : Int) (x24 : Int) (x26 : Int) (x27 : Int) (x28 : Int) (x29 : Int) (nodes_0o2 : Int) (x_0o3 : Int → Int) (kids_0 : Int → Int) (order_0 : Int → Int) (level_0 : Int → Int) (parent_0 : Int → Int) (order_1 : Int → Int) (level_1 : Int → Int) (kids_1 : Int → Int) (parent_1 : Int → Int) (nodes_1o2 : Int) (x_1o3 : Int → Int) (k1 : 0 ≤ x1 ∧ x1 ≤ 23) (k8 : 1 ≤ x8 ∧ x8 ≤ 24) (k16 : 0 ≤ x16 ∧ x16 ≤ 24) (k17 : 0 ≤ x17 ∧ x17 ≤ 24) (k22 : 0 ≤ x22 ∧ x22 ≤ 0) (k23 : 0 ≤ x23 ∧ x23 ≤ 23) (k24 : (-40000000) ≤ x24 ∧ x24 ≤ 690000000) (k26 : 0 ≤ x26 ∧ x26 ≤ 23) (k27 : 0 ≤ x27 ∧ x27 ≤ 23) (k28 : (-40000000) ≤ x28 ∧ x28 ≤ 690000000) (k29 : (-80000000) ≤ x29 ∧ x29 ≤ 1380000000) (d0 : x28 + (-40000000) ≤ x29 ∧ x29 ≤ x28 + 690000000) (d1 : x24 + (-40000000) ≤ x29 ∧ x29 ≤ x24 + 690000000) (d2 : x8 + (-1) ≤ x26 ∧ x26 ≤ x8 + (-1)) (f2 : x29 = x24 + x28) (h3 : x28 = x_0o3 (x27)) (h4 : x27 = kids_0 (x26)) (h8 : x24 = x_0o3 (x23)) (h9 : x23 = kids_0 (x22)) (f43 : TQK (order_1) (level_1) (kids_1) (x8) (x16) (x17)) (f44 : TQC (nodes_1o2) (order_1) (parent_1) (x8) (x16) (x17)) (f52 : TQ2 (nodes_1o2) (order_1) (parent_1) (x_1o3) (x8) (x16) (x17)) (fe_2_0_1 : nodes_0o2 = nodes_1o2) (hE_0_2_1 : ∀ j : Int, order_0 j = order_1 j) (hE_0_4_1 : ∀ j : Int, level_0 j = level_1 j) (hE_0_5_1 : ∀ j : Int, parent_0 j = parent_1 j) (hE_0_7_1 : ∀ j : Int, kids_0 j = kids_1 j) (hE_3_2_1 : ∀ j : Int, x_0o3 j = x_1o3 j) (kz_2_0 : 0 ≤ nodes_0o2 ∧ nodes_0o2 ≤ 24) : (-67108864) ≤ x29 ∧ x29 ≤ 67108864 := by
  subst fe_2_0_1
  have e_hE_0_2_1 := funext hE_0_2_1; subst e_hE_0_2_1
  have e_hE_0_4_1 := funext hE_0_4_1; subst e_hE_0_4_1
  have e_hE_0_5_1 := funext hE_0_5_1; subst e_hE_0_5_1
  have e_hE_0_7_1 := funext hE_0_7_1; subst e_hE_0_7_1
  have e_hE_3_2_1 := funext hE_3_2_1; subst e_hE_3_2_1
  first
    | (have h0 := tqk_val (j := x22) (ct := x8) (s := x16) (k := x17) (kd := kids_0) (lv := level_0) ‹TQ2 _ _ _ _ _ _ _› (by assumption) (by assumption) (by omega) (by omega)
       have h1 := tqk_val (j := x26) (ct := x8) (s := x16) (k := x17) (kd := kids_0) (lv := level_0) ‹TQ2 _ _ _ _ _ _ _› (by assumption) (by assumption) (by omega) (by omega)
       rw [← ‹x23 = kids_0 x22›, ← ‹x24 = x_0o3 x23›] at h0
       rw [← ‹x27 = kids_0 x26›, ← ‹x28 = x_0o3 x27›] at h1
       omega)
def o_Pl_placeOver_2 : or_T := (104, 31, [(0, (2, 0, 0, [6])), (1, (0, 0, 23, [])), (2, (2, 0, 0, [3])), (3, (2, 0, 0, [0])), (4, (0, 0, 24, [])), (5, (0, 0, 24, [])), (6, (2, 0, 0, [6])), (7, (0, 0, 23, [])), (8, (0, 1, 24, [])), (9, (0, 1, 24, [])), (10, (2, 0, 0, [3])), (11, (2, 0, 0, [0])), (12, (0, 0, 24, [])), (13, (2, 0, 0, [93])), (15, (0, 1, 8388608, [])), (16, (0, 0, 24, [])), (17, (0, 0, 24, [])), (18, (0, 0, 16777215, [])), (19, (0, 0, 16777215, [])), (20, (2, 0, 0, [14])), (21, (2, 0, 0, [94])), (22, (0, 0, 0, [])), (23, (0, 0, 23, [])), (24, (0, -40000000, 690000000, [])), (25, (0, 1, 1, [])), (26, (0, 0, 23, [])), (27, (0, 0, 23, [])), (28, (0, -40000000, 690000000, [])), (29, (0, -80000000, 1380000000, []))], [(9, [13, 6], [6]), (9, [12, 10], [0]), (1, [29, 24, 28], []), (10, [28, 20, 27], []), (10, [27, 21, 26], []), (2, [26, 8, 25], []), (9, [21, 6], [7]), (9, [20, 11], [2]), (10, [24, 20, 23], []), (10, [23, 21, 22], []), (8, [8], [1]), (20, [6, 8, 4, 5], [60, 0, 3, 861, 2, 4, 7]), (20, [6, 10, 8, 4, 5], [60, 1, 2, 862, 1000, 2, 5]), (20, [15, 7], [61, 0, 877]), (23, [16, 4], [0, 1, -1]), (23, [16, 4], [0, -1, 1]), (23, [17, 5], [0, 1, -1]), (23, [17, 5], [0, -1, 1]), (20, [6, 8, 16, 17], [60, 0, 3, 861, 2, 4, 7]), (20, [6, 10, 8, 16, 17], [60, 1, 2, 862, 1000, 2, 5]), (20, [6, 10, 16], [60, 1, 3, 859, 1000, 2, 5, 4]), (20, [6, 10, 4], [60, 1, 3, 859, 1000, 2, 5, 4]), (20, [7, 6, 5], [50, 0, 1, 1002, 1, 2, 1, 0, 3, 1, 2, 1, 2]), (20, [5, 4], [50, 0, 0, 0, 6, 4, 2, 1, 0, 0, 1, 1, 1]), (20, [6, 7, 8, 9], [60, 0, 2, 871, 5, 7]), (20, [9, 10], [50, 1, 0, 1000, 0, 2, 1, 0, 2, 1, 0]), (24, [2, 10], []), (24, [3, 11], []), (24, [1, 7], []), (24, [0, 6], []), (20, [6, 10, 11, 8, 16, 17], [60, 1, 3, 866, 1000, 2, 5, 2002]), (20, [6, 10, 18, 8, 16, 17], [60, 1, 2, 863, 1000, 2, 7]), (100, [13, 7, 19], []), (13, [19, 15, 18], []), (16, [19, 15, 18], [1]), (20, [6, 8, 4, 5], [60, 0, 3, 861, 2, 4, 7]), (20, [6, 10, 8, 4, 5], [60, 1, 2, 862, 1000, 2, 5]), (20, [15, 7], [61, 0, 877]), (23, [16, 4], [0, 1, -1]), (23, [16, 4], [0, -1, 1]), (23, [17, 5], [0, 1, -1]), (23, [17, 5], [0, -1, 1]), (20, [6, 10, 16, 17], [60, 1, 2, 860, 1000, 2, 6]), (20, [6, 8, 16, 17], [60, 0, 3, 861, 2, 4, 7]), (20, [6, 10, 8, 16, 17], [60, 1, 2, 862, 1000, 2, 5]), (20, [6, 10, 16], [60, 1, 3, 859, 1000, 2, 5, 4]), (20, [6, 10, 4, 5], [60, 1, 2, 860, 1000, 2, 6]), (20, [6, 10, 4], [60, 1, 3, 859, 1000, 2, 5, 4]), (20, [7, 6, 5], [50, 0, 1, 1002, 1, 2, 1, 0, 3, 1, 2, 1, 2]), (20, [5, 4], [50, 0, 0, 0, 6, 4, 2, 1, 0, 0, 1, 1, 1]), (20, [6, 7, 8, 9], [60, 0, 2, 871, 5, 7]), (20, [9, 10], [50, 1, 0, 1000, 0, 2, 1, 0, 2, 1, 0]), (20, [6, 10, 11, 8, 16, 17], [60, 1, 3, 866, 1000, 2, 5, 2002]), (20, [6, 10, 18, 8, 16, 17], [60, 1, 2, 863, 1000, 2, 7]), (102, [17], [16384]), (23, [16, 4], [0, 1, -1]), (23, [16, 4], [0, -1, 1]), (23, [17, 5], [0, 1, -1]), (23, [17, 5], [0, -1, 1]), (7, [9, 12], [3])], [(29, (0, -67108864, 67108864, []))], [], [], [], [(29, 28, -40000000, 690000000), (29, 24, -40000000, 690000000), (26, 8, -1, -1), (26, 9, -4294967296, -1), (9, 12, 0, 4294967296), (1, 7, -4294967296, 0), (7, 1, -4294967296, 0), (8, 9, -4294967296, 0)])
theorem oo_Pl_placeOver_2 {kA : Nat → ClassId} : or_ok PRD kA GG o_Pl_placeOver_2 := by
  refine or_mk fun A ta ws vs hD hth hl => ?_
  intro t0 r0 t1 k1 t2 r2 t3 r3 t4 k4 t5 k5 t6 r6 t7 k7 t8 k8 t9 k9 t10 r10 t11 r11 t12 k12 t13 r13 t15 k15 t16 k16 t17 k17 t18 k18 t19 k19 t20 r20 t21 r21 t22 k22 t23 k23 t24 k24 t25 k25 t26 k26 t27 k27 t28 k28 t29 k29 d0 d1 d2 d3 d4 d5 d6 d7 f0 f1 f2 f3 f4 f5 f6 f7 f8 f9 f10 f11 f12 f13 f14 f15 f16 f17 f18 f19 f20 f21 f22 f23 f24 f25 f26 f27 f28 f29 f30 f31 ta1 w1 le1 s1 f33 f34 f35 f36 f37 f38 f39 f40 f41 f42 f43 f44 f45 f46 f47 f48 f49 f50 f51 f52 f53 ta2 w2 le2 s2 f55 f56 f57 f58 f59
  replace f3 := shm_107 f3
  replace f4 := shm_107 f4
  replace f6 := shm_198 f6
  replace f7 := shm_120 f7
  replace f8 := shm_107 f8
  replace f9 := shm_107 f9
  replace f26 := shm_5 f26
  replace f27 := shm_5 f27
  replace f28 := shm_5 f28
  replace f29 := shm_5 f29
  have s1 : (∀ b j, w_el ws b j = if b = v_ad (n_v vs 13) ∧ j = (v_iv (n_v vs 7)).toNat then v_iv (n_v vs 19) else w_el w1 b j) ∧ ∀ b k, w_fd ws b k = w_fd w1 b k := s1.2
  replace f43 := shm_1105 f43
  replace f44 := shm_1106 f44
  replace f52 := shm_1111 f52
  have q10 : n_v vs 10 = n_v vs 2 := f26.symm
  have q11 : n_v vs 11 = n_v vs 3 := f27.symm
  have q7 : n_v vs 7 = n_v vs 1 := f28.symm
  have q6 : n_v vs 6 = n_v vs 0 := f29.symm
  simp only [q6, q11] at f6 f7
  rw [q7] at s1
  simp only [q6, q10, q11] at f43 f44 f52
  have ar_0_2_1 : w_ar w1 (n_v vs 0) 2 = w_ar ws (n_v vs 0) 2 := congrArg v_ad (s1.2 _ _).symm
  have cr_0_2 := fdq_89 hD hth r0
  have ar_0_4_1 : w_ar w1 (n_v vs 0) 4 = w_ar ws (n_v vs 0) 4 := congrArg v_ad (s1.2 _ _).symm
  have cr_0_4 := fdq_86 hD hth r0
  have ar_0_5_1 : w_ar w1 (n_v vs 0) 5 = w_ar ws (n_v vs 0) 5 := congrArg v_ad (s1.2 _ _).symm
  have cr_0_5 := fdq_90 hD hth r0
  have ar_0_6_1 : w_ar w1 (n_v vs 0) 6 = w_ar ws (n_v vs 0) 6 := congrArg v_ad (s1.2 _ _).symm
  have ar_0_7_1 : w_ar w1 (n_v vs 0) 7 = w_ar ws (n_v vs 0) 7 := congrArg v_ad (s1.2 _ _).symm
  have cr_0_7 := fdq_265 hD hth r0
  have ar_3_2_1 : w_ar w1 (n_v vs 3) 2 = w_ar ws (n_v vs 3) 2 := congrArg v_ad (s1.2 _ _).symm
  have cr_3_2 := fdq_45 hD hth r3
  have ad_21 : v_ad (n_v vs 21) = w_ar ws (n_v vs 0) 7 := congrArg v_ad f6
  have ad_20 : v_ad (n_v vs 20) = w_ar ws (n_v vs 3) 2 := congrArg v_ad f7
  simp only [ad_20] at f3
  have h3 : v_iv (n_v vs 28) = w_ei ws (w_ar ws (n_v vs 3) 2) (v_iv (n_v vs 27)) := f3
  simp only [ad_21] at f4
  have h4 : v_iv (n_v vs 27) = w_ei ws (w_ar ws (n_v vs 0) 7) (v_iv (n_v vs 26)) := f4
  simp only [ad_20] at f8
  have h8 : v_iv (n_v vs 24) = w_ei ws (w_ar ws (n_v vs 3) 2) (v_iv (n_v vs 23)) := f8
  simp only [ad_21] at f9
  have h9 : v_iv (n_v vs 23) = w_ei ws (w_ar ws (n_v vs 0) 7) (v_iv (n_v vs 22)) := f9
  simp only [ar_0_2_1, ar_0_4_1, ar_0_7_1, ar_0_5_1, ar_0_6_1, ar_3_2_1] at f43 f44 f52
  have fe_2_0_1 : w_fi ws (n_v vs 2) 0 = w_fi w1 (n_v vs 2) 0 := congrArg v_iv (s1.2 _ _)
  have hE_0_2_1 : ∀ j : Int, w_ei ws (w_ar ws (n_v vs 0) 2) j = w_ei w1 (w_ar ws (n_v vs 0) 2) j := el_kp s1.1 r13 cr_0_2 (by decide)
  have hE_0_4_1 : ∀ j : Int, w_ei ws (w_ar ws (n_v vs 0) 4) j = w_ei w1 (w_ar ws (n_v vs 0) 4) j := el_kp s1.1 r13 cr_0_4 (by decide)
  have hE_0_5_1 : ∀ j : Int, w_ei ws (w_ar ws (n_v vs 0) 5) j = w_ei w1 (w_ar ws (n_v vs 0) 5) j := el_kp s1.1 r13 cr_0_5 (by decide)
  have hE_0_7_1 : ∀ j : Int, w_ei ws (w_ar ws (n_v vs 0) 7) j = w_ei w1 (w_ar ws (n_v vs 0) 7) j := el_kp s1.1 r13 cr_0_7 (by decide)
  have hE_3_2_1 : ∀ j : Int, w_ei ws (w_ar ws (n_v vs 3) 2) j = w_ei w1 (w_ar ws (n_v vs 3) 2) j := el_kp s1.1 r13 cr_3_2 (by decide)
  have kz_2_0 := fdq_21 hD hth r2
  have hrf0 : (-67108864) ≤ v_iv (n_v vs 29) ∧ v_iv (n_v vs 29) ≤ 67108864 := vc_Pl_placeOver_2_r0 (v_iv (n_v vs 1)) (v_iv (n_v vs 5)) (v_iv (n_v vs 8)) (v_iv (n_v vs 16)) (v_iv (n_v vs 17)) (v_iv (n_v vs 22)) (v_iv (n_v vs 23)) (v_iv (n_v vs 24)) (v_iv (n_v vs 26)) (v_iv (n_v vs 27)) (v_iv (n_v vs 28)) (v_iv (n_v vs 29)) (w_fi ws (n_v vs 2) 0) (w_ei ws (w_ar ws (n_v vs 3) 2)) (w_ei ws (w_ar ws (n_v vs 0) 7)) (w_ei ws (w_ar ws (n_v vs 0) 2)) (w_ei ws (w_ar ws (n_v vs 0) 4)) (w_ei ws (w_ar ws (n_v vs 0) 5)) (w_ei w1 (w_ar ws (n_v vs 0) 2)) (w_ei w1 (w_ar ws (n_v vs 0) 4)) (w_ei w1 (w_ar ws (n_v vs 0) 7)) (w_ei w1 (w_ar ws (n_v vs 0) 5)) (w_fi w1 (n_v vs 2) 0) (w_ei w1 (w_ar ws (n_v vs 3) 2)) k1 k8 k16 k17 k22 k23 k24 k26 k27 k28 k29 d0 d1 d2 (shm_12 f2) h3 h4 h8 h9 f43 f44 f52 fe_2_0_1 hE_0_2_1 hE_0_4_1 hE_0_5_1 hE_0_7_1 hE_3_2_1 kz_2_0
  have rf29 : tv_ok ta (0, -67108864, 67108864, []) (n_v vs 29) := tv_in t29 (by first | omega | grind) (by first | omega | grind)
  refine ⟨List.forall_mem_cons.mpr ⟨rf29, (fun _ h => (by cases h))⟩, [], trivial, ?_, (fun _ h => (by cases h))⟩
  rw [List.append_nil]
  exact (fun _ h => (by cases h))
set_option maxHeartbeats 4000000 in
theorem vc_Pl_placeOver_3_r0 (x1 : Int) (x5 : Int) (x8 : Int) (x16 : Int) (x17 : Int) (x22 : Int) (x23 : Int) (x24 : Int) (x26 : Int) (x27 : Int) (x28 : Int) (x29 : Int) (x31 : Int) (nodes_0o2 : Int) (x_0o3 : Int → Int) (kids_0 : Int → Int) (order_0 : Int → Int) (level_0 : Int → Int) (parent_0 : Int → Int) (order_1 : Int → Int) (level_1 : Int → Int) (kids_1 : Int → Int) (parent_1 : Int → Int) (nodes_1o2 : Int) (x_1o3 : Int → Int) (k1 : 0 ≤ x1 ∧ x1 ≤ 23) (k23 : 0 ≤ x23 ∧ x23 ≤ 23) (k24 : (-40000000) ≤ x24 ∧ x24 ≤ 690000000) (k27 : 0 ≤ x27 ∧ x27 ≤ 23) (k28 : (-40000000) ≤ x28 ∧ x28 ≤ 690000000) (k29 : (-67108864) ≤ x29 ∧ x29 ≤ 67108864) (k31 : (-67108865) ≤ x31 ∧ x31 ≤ 67108864) (f2 : (2 * x31) ≤ x29) (f3 : x29 ≤ ((2 * x31) + 1)) (f4 : x29 = x24 + x28) (h5 : x28 = x_0o3 (x27)) (h10 : x24 = x_0o3 (x23)) (fe_2_0_1 : nodes_0o2 = nodes_1o2) (hE_0_2_1 : ∀ j : Int, order_0 j = order_1 j) (hE_0_4_1 : ∀ j : Int, level_0 j = level_1 j) (hE_0_5_1 : ∀ j : Int, parent_0 j = parent_1 j) (hE_0_7_1 : ∀ j : Int, kids_0 j = kids_1 j) (hE_3_2_1 : ∀ j : Int, x_0o3 j = x_1o3 j) (kz_2_0 : 0 ≤ nodes_0o2 ∧ nodes_0o2 ≤ 24) : (-33554432) ≤ x31 ∧ x31 ≤ 33554432 := by
  subst fe_2_0_1
  have e_hE_0_2_1 := funext hE_0_2_1; subst e_hE_0_2_1
  have e_hE_0_4_1 := funext hE_0_4_1; subst e_hE_0_4_1
  have e_hE_0_5_1 := funext hE_0_5_1; subst e_hE_0_5_1
  have e_hE_0_7_1 := funext hE_0_7_1; subst e_hE_0_7_1
  have e_hE_3_2_1 := funext hE_3_2_1; subst e_hE_3_2_1
  first
    | omega
    | assumption
    | (rw [show gy = x5 by omega]; assumption)
def o_Pl_placeOver_3 : or_T := (107, 32, [(0, (2, 0, 0, [6])), (1, (0, 0, 23, [])), (2, (2, 0, 0, [3])), (3, (2, 0, 0, [0])), (4, (0, 0, 24, [])), (5, (0, 0, 24, [])), (6, (2, 0, 0, [6])), (7, (0, 0, 23, [])), (8, (0, 1, 24, [])), (9, (0, 1, 24, [])), (10, (2, 0, 0, [3])), (11, (2, 0, 0, [0])), (12, (0, 0, 24, [])), (13, (2, 0, 0, [93])), (15, (0, 1, 8388608, [])), (16, (0, 0, 24, [])), (17, (0, 0, 24, [])), (18, (0, 0, 16777215, [])), (19, (0, 0, 16777215, [])), (20, (2, 0, 0, [14])), (21, (2, 0, 0, [94])), (22, (0, 0, 0, [])), (23, (0, 0, 23, [])), (24, (0, -40000000, 690000000, [])), (25, (0, 1, 1, [])), (26, (0, 0, 23, [])), (27, (0, 0, 23, [])), (28, (0, -40000000, 690000000, [])), (29, (0, -67108864, 67108864, [])), (31, (0, -67108865, 67108864, []))], [(9, [13, 6], [6]), (9, [12, 10], [0]), (20, [31, 29], [50, 0, 0, 0, 6, 6, 2, 0, 2, 1, 0, 1, 1]), (20, [29, 31], [50, 0, 0, 0, 2, 1, 0, 4, 6, 6, 2, 0, 2, 1, 1, 0, 1]), (1, [29, 24, 28], []), (10, [28, 20, 27], []), (10, [27, 21, 26], []), (2, [26, 8, 25], []), (9, [21, 6], [7]), (9, [20, 11], [2]), (10, [24, 20, 23], []), (10, [23, 21, 22], []), (8, [8], [1]), (20, [6, 8, 4, 5], [60, 0, 3, 861, 2, 4, 7]), (20, [6, 10, 8, 4, 5], [60, 1, 2, 862, 1000, 2, 5]), (20, [15, 7], [61, 0, 877]), (23, [16, 4], [0, 1, -1]), (23, [16, 4], [0, -1, 1]), (23, [17, 5], [0, 1, -1]), (23, [17, 5], [0, -1, 1]), (20, [6, 8, 16, 17], [60, 0, 3, 861, 2, 4, 7]), (20, [6, 10, 8, 16, 17], [60, 1, 2, 862, 1000, 2, 5]), (20, [6, 10, 16], [60, 1, 3, 859, 1000, 2, 5, 4]), (20, [6, 10, 4], [60, 1, 3, 859, 1000, 2, 5, 4]), (20, [7, 6, 5], [50, 0, 1, 1002, 1, 2, 1, 0, 3, 1, 2, 1, 2]), (20, [5, 4], [50, 0, 0, 0, 6, 4, 2, 1, 0, 0, 1, 1, 1]), (20, [6, 7, 8, 9], [60, 0, 2, 871, 5, 7]), (20, [9, 10], [50, 1, 0, 1000, 0, 2, 1, 0, 2, 1, 0]), (24, [2, 10], []), (24, [3, 11], []), (24, [1, 7], []), (24, [0, 6], []), (20, [6, 10, 11, 8, 16, 17], [60, 1, 3, 866, 1000, 2, 5, 2002]), (20, [6, 10, 18, 8, 16, 17], [60, 1, 2, 863, 1000, 2, 7]), (100, [13, 7, 19], []), (13, [19, 15, 18], []), (16, [19, 15, 18], [1]), (20, [6, 8, 4, 5], [60, 0, 3, 861, 2, 4, 7]), (20, [6, 10, 8, 4, 5], [60, 1, 2, 862, 1000, 2, 5]), (20, [15, 7], [61, 0, 877]), (23, [16, 4], [0, 1, -1]), (23, [16, 4], [0, -1, 1]), (23, [17, 5], [0, 1, -1]), (23, [17, 5], [0, -1, 1]), (20, [6, 10, 16, 17], [60, 1, 2, 860, 1000, 2, 6]), (20, [6, 8, 16, 17], [60, 0, 3, 861, 2, 4, 7]), (20, [6, 10, 8, 16, 17], [60, 1, 2, 862, 1000, 2, 5]), (20, [6, 10, 16], [60, 1, 3, 859, 1000, 2, 5, 4]), (20, [6, 10, 4, 5], [60, 1, 2, 860, 1000, 2, 6]), (20, [6, 10, 4], [60, 1, 3, 859, 1000, 2, 5, 4]), (20, [7, 6, 5], [50, 0, 1, 1002, 1, 2, 1, 0, 3, 1, 2, 1, 2]), (20, [5, 4], [50, 0, 0, 0, 6, 4, 2, 1, 0, 0, 1, 1, 1]), (20, [6, 7, 8, 9], [60, 0, 2, 871, 5, 7]), (20, [9, 10], [50, 1, 0, 1000, 0, 2, 1, 0, 2, 1, 0]), (20, [6, 10, 11, 8, 16, 17], [60, 1, 3, 866, 1000, 2, 5, 2002]), (20, [6, 10, 18, 8, 16, 17], [60, 1, 2, 863, 1000, 2, 7]), (102, [17], [16384]), (23, [16, 4], [0, 1, -1]), (23, [16, 4], [0, -1, 1]), (23, [17, 5], [0, 1, -1]), (23, [17, 5], [0, -1, 1]), (7, [9, 12], [3])], [(31, (0, -33554432, 33554432, []))], [], [], [], [(29, 28, -40000000, 690000000), (29, 24, -40000000, 690000000), (26, 8, -1, -1), (26, 9, -4294967296, -1), (9, 12, 0, 4294967296), (1, 7, -4294967296, 0), (7, 1, -4294967296, 0), (8, 9, -4294967296, 0)])
theorem oo_Pl_placeOver_3 {kA : Nat → ClassId} : or_ok PRD kA GG o_Pl_placeOver_3 := by
  refine or_mk fun A ta ws vs hD hth hl => ?_
  intro t0 r0 t1 k1 t2 r2 t3 r3 t4 k4 t5 k5 t6 r6 t7 k7 t8 k8 t9 k9 t10 r10 t11 r11 t12 k12 t13 r13 t15 k15 t16 k16 t17 k17 t18 k18 t19 k19 t20 r20 t21 r21 t22 k22 t23 k23 t24 k24 t25 k25 t26 k26 t27 k27 t28 k28 t29 k29 t31 k31 d0 d1 d2 d3 d4 d5 d6 d7 f0 f1 f2 f3 f4 f5 f6 f7 f8 f9 f10 f11 f12 f13 f14 f15 f16 f17 f18 f19 f20 f21 f22 f23 f24 f25 f26 f27 f28 f29 f30 f31 f32 f33 ta1 w1 le1 s1 f35 f36 f37 f38 f39 f40 f41 f42 f43 f44 f45 f46 f47 f48 f49 f50 f51 f52 f53 f54 f55 ta2 w2 le2 s2 f57 f58 f59 f60 f61
  replace f5 := shm_107 f5
  replace f9 := shm_120 f9
  replace f10 := shm_107 f10
  replace f29 := shm_5 f29
  replace f30 := shm_5 f30
  have s1 : (∀ b j, w_el ws b j = if b = v_ad (n_v vs 13) ∧ j = (v_iv (n_v vs 7)).toNat then v_iv (n_v vs 19) else w_el w1 b j) ∧ ∀ b k, w_fd ws b k = w_fd w1 b k := s1.2
  have q11 : n_v vs 11 = n_v vs 3 := f29.symm
  have q7 : n_v vs 7 = n_v vs 1 := f30.symm
  simp only [q11] at f9
  rw [q7] at s1
  have cr_0_2 := fdq_89 hD hth r0
  have cr_0_4 := fdq_86 hD hth r0
  have cr_0_5 := fdq_90 hD hth r0
  have cr_0_7 := fdq_265 hD hth r0
  have cr_3_2 := fdq_45 hD hth r3
  have ad_20 : v_ad (n_v vs 20) = w_ar ws (n_v vs 3) 2 := congrArg v_ad f9
  simp only [ad_20] at f5
  have h5 : v_iv (n_v vs 28) = w_ei ws (w_ar ws (n_v vs 3) 2) (v_iv (n_v vs 27)) := f5
  simp only [ad_20] at f10
  have h10 : v_iv (n_v vs 24) = w_ei ws (w_ar ws (n_v vs 3) 2) (v_iv (n_v vs 23)) := f10
  have fe_2_0_1 : w_fi ws (n_v vs 2) 0 = w_fi w1 (n_v vs 2) 0 := congrArg v_iv (s1.2 _ _)
  have hE_0_2_1 : ∀ j : Int, w_ei ws (w_ar ws (n_v vs 0) 2) j = w_ei w1 (w_ar ws (n_v vs 0) 2) j := el_kp s1.1 r13 cr_0_2 (by decide)
  have hE_0_4_1 : ∀ j : Int, w_ei ws (w_ar ws (n_v vs 0) 4) j = w_ei w1 (w_ar ws (n_v vs 0) 4) j := el_kp s1.1 r13 cr_0_4 (by decide)
  have hE_0_5_1 : ∀ j : Int, w_ei ws (w_ar ws (n_v vs 0) 5) j = w_ei w1 (w_ar ws (n_v vs 0) 5) j := el_kp s1.1 r13 cr_0_5 (by decide)
  have hE_0_7_1 : ∀ j : Int, w_ei ws (w_ar ws (n_v vs 0) 7) j = w_ei w1 (w_ar ws (n_v vs 0) 7) j := el_kp s1.1 r13 cr_0_7 (by decide)
  have hE_3_2_1 : ∀ j : Int, w_ei ws (w_ar ws (n_v vs 3) 2) j = w_ei w1 (w_ar ws (n_v vs 3) 2) j := el_kp s1.1 r13 cr_3_2 (by decide)
  have kz_2_0 := fdq_21 hD hth r2
  have hrf0 : (-33554432) ≤ v_iv (n_v vs 31) ∧ v_iv (n_v vs 31) ≤ 33554432 := vc_Pl_placeOver_3_r0 (v_iv (n_v vs 1)) (v_iv (n_v vs 5)) (v_iv (n_v vs 8)) (v_iv (n_v vs 16)) (v_iv (n_v vs 17)) (v_iv (n_v vs 22)) (v_iv (n_v vs 23)) (v_iv (n_v vs 24)) (v_iv (n_v vs 26)) (v_iv (n_v vs 27)) (v_iv (n_v vs 28)) (v_iv (n_v vs 29)) (v_iv (n_v vs 31)) (w_fi ws (n_v vs 2) 0) (w_ei ws (w_ar ws (n_v vs 3) 2)) (w_ei ws (w_ar ws (n_v vs 0) 7)) (w_ei ws (w_ar ws (n_v vs 0) 2)) (w_ei ws (w_ar ws (n_v vs 0) 4)) (w_ei ws (w_ar ws (n_v vs 0) 5)) (w_ei w1 (w_ar ws (n_v vs 0) 2)) (w_ei w1 (w_ar ws (n_v vs 0) 4)) (w_ei w1 (w_ar ws (n_v vs 0) 7)) (w_ei w1 (w_ar ws (n_v vs 0) 5)) (w_fi w1 (n_v vs 2) 0) (w_ei w1 (w_ar ws (n_v vs 3) 2)) k1 k23 k24 k27 k28 k29 k31 (shm_41 f2) (shm_42 f3) (shm_12 f4) h5 h10 fe_2_0_1 hE_0_2_1 hE_0_4_1 hE_0_5_1 hE_0_7_1 hE_3_2_1 kz_2_0
  have rf31 : tv_ok ta (0, -33554432, 33554432, []) (n_v vs 31) := tv_in t31 (by first | omega | grind) (by first | omega | grind)
  refine ⟨List.forall_mem_cons.mpr ⟨rf31, (fun _ h => (by cases h))⟩, [], trivial, ?_, (fun _ h => (by cases h))⟩
  rw [List.append_nil]
  exact (fun _ h => (by cases h))
set_option maxHeartbeats 4000000 in
theorem vc_Pl_placeOver_4_0 (x1 : Int) (x4 : Int) (x5 : Int) (x8 : Int) (x9 : Int) (x12 : Int) (x16 : Int) (x17 : Int) (x22 : Int) (x23 : Int) (x24 : Int) (x26 : Int) (x27 : Int) (x28 : Int) (x29 : Int) (x31 : Int) (nodes_0o2 : Int) (order_0 : Int → Int) (level_0 : Int → Int) (kids_0 : Int → Int) (parent_0 : Int → Int) (x_1o3 : Int → Int) (kids_1 : Int → Int) (order_1 : Int → Int) (level_1 : Int → Int) (parent_1 : Int → Int) (nodes_1o2 : Int) (order_2 : Int → Int) (level_2 : Int → Int) (kids_2 : Int → Int) (parent_2 : Int → Int) (nodes_2o2 : Int) (x_2o3 : Int → Int) (under_0 : Int → Int) (under_1 : Int → Int) (x_0o3 : Int → Int) (k1 : 0 ≤ x1 ∧ x1 ≤ 23) (k4 : 0 ≤ x4 ∧ x4 ≤ 24) (k5 : 0 ≤ x5 ∧ x5 ≤ 24) (k8 : 1 ≤ x8 ∧ x8 ≤ 24) (k9 : 1 ≤ x9 ∧ x9 ≤ 24) (k12 : 0 ≤ x12 ∧ x12 ≤ 24) (k16 : 0 ≤ x16 ∧ x16 ≤ 24) (k17 : 0 ≤ x17 ∧ x17 ≤ 24) (k22 : 0 ≤ x22 ∧ x22 ≤ 0) (k23 : 0 ≤ x23 ∧ x23 ≤ 23) (k24 : (-40000000) ≤ x24 ∧ x24 ≤ 690000000) (k26 : 0 ≤ x26 ∧ x26 ≤ 23) (k27 : 0 ≤ x27 ∧ x27 ≤ 23) (k28 : (-40000000) ≤ x28 ∧ x28 ≤ 690000000) (k29 : (-67108864) ≤ x29 ∧ x29 ≤ 67108864) (k31 : (-33554432) ≤ x31 ∧ x31 ≤ 33554432) (d2 : x8 + (-1) ≤ x26 ∧ x26 ≤ x8 + (-1)) (d4 : x12 + 0 ≤ x9 ∧ x9 ≤ x12 + 4294967296) (g3 : x12 = nodes_0o2) (f4 : (2 * x31) ≤ x29) (f5 : x29 ≤ ((2 * x31) + 1)) (f9 : 1 * x16 + ((-1) * x4 + 0) ≤ 0) (f10 : (-1) * x16 + (1 * x4 + 0) ≤ 0) (f11 : 1 * x17 + ((-1) * x5 + 0) ≤ 0) (f12 : (-1) * x17 + (1 * x5 + 0) ≤ 0) (f18 : (x5 + 1) ≤ x4) (f20 : x9 ≤ nodes_0o2) (f29 : x29 = x24 + x28) (h30 : x28 = x_1o3 (x27)) (h31 : x27 = kids_1 (x26)) (h33 : x24 = x_1o3 (x23)) (h34 : x23 = kids_1 (x22)) (f56 : TQK (order_2) (level_2) (kids_2) (x8) (x4) (x5)) (f68 : TQD (nodes_2o2) (order_2) (parent_2) (level_2) (x4)) (f69 : x1 = order_2 (x5)) (f71 : TQL (parent_2) (kids_2) (x1) (x8) (x9)) (f73 : TQ2 (nodes_2o2) (order_2) (parent_2) (x_2o3) (x8) (x16) (x17)) (fe_2_0_1 : nodes_0o2 = nodes_1o2) (fe_2_0_2 : nodes_1o2 = nodes_2o2) (hE_0_2_1 : ∀ j : Int, order_0 j = order_1 j) (hE_0_2_2 : ∀ j : Int, order_1 j = order_2 j) (hE_0_4_1 : ∀ j : Int, level_0 j = level_1 j) (hE_0_4_2 : ∀ j : Int, level_1 j = level_2 j) (hE_0_5_1 : ∀ j : Int, parent_0 j = parent_1 j) (hE_0_5_2 : ∀ j : Int, parent_1 j = parent_2 j) (hE_0_6_1 : ∀ j : Int, under_0 j = under_1 j) (hE_0_7_1 : ∀ j : Int, kids_0 j = kids_1 j) (hE_0_7_2 : ∀ j : Int, kids_1 j = kids_2 j) (hE_3_2_1 : ∀ j : Int, 0 ≤ j → (j = x1 → x_0o3 j = x31) ∧ (j ≠ x1 → x_0o3 j = x_1o3 j)) (hE_3_2_2 : ∀ j : Int, x_1o3 j = x_2o3 j) (kz_2_0 : 0 ≤ nodes_0o2 ∧ nodes_0o2 ≤ 24) : TQN (nodes_0o2) (order_0) (parent_0) (x_0o3) (x4) (x5) := by
  subst fe_2_0_1
  subst fe_2_0_2
  have e_hE_0_2_1 := funext hE_0_2_1; subst e_hE_0_2_1
  have e_hE_0_2_2 := funext hE_0_2_2; subst e_hE_0_2_2
  have e_hE_0_4_1 := funext hE_0_4_1; subst e_hE_0_4_1
  have e_hE_0_4_2 := funext hE_0_4_2; subst e_hE_0_4_2
  have e_hE_0_5_1 := funext hE_0_5_1; subst e_hE_0_5_1
  have e_hE_0_5_2 := funext hE_0_5_2; subst e_hE_0_5_2
  have e_hE_0_6_1 := funext hE_0_6_1; subst e_hE_0_6_1
  have e_hE_0_7_1 := funext hE_0_7_1; subst e_hE_0_7_1
  have e_hE_0_7_2 := funext hE_0_7_2; subst e_hE_0_7_2
  have e_hE_3_2_2 := funext hE_3_2_2; subst e_hE_3_2_2
  first
    | (have e1 : x16 = x4 := by omega
       have e2 : x17 = x5 := by omega
       subst e1 e2
       first
         | exact tqn_of (x := x_1o3) (ct := x8) (v := x1) (kd := kids_0) (lv := level_0) (w := x9) (y := x31) (by assumption) (by assumption) (by assumption) (by omega) (by assumption) (by omega) (by omega) (by assumption) (by assumption) rfl (Or.inr ⟨by omega, by have k0 : kids_0 0 = x23 := (by rw [‹x23 = _›, show x22 = 0 by omega]); have k1 : kids_0 (x8 - 1) = x27 := (by rw [‹x27 = _›, show x26 = x8 - 1 by omega]); rw [k0, k1]; have q1 := (‹x24 = _›); have q2 := (‹x28 = _›); omega, by have k0 : kids_0 0 = x23 := (by rw [‹x23 = _›, show x22 = 0 by omega]); have k1 : kids_0 (x8 - 1) = x27 := (by rw [‹x27 = _›, show x26 = x8 - 1 by omega]); rw [k0, k1]; have q1 := (‹x24 = _›); have q2 := (‹x28 = _›); omega⟩)
         | exact tqn_of (x := x_1o3) (ct := x8) (v := x1) (kd := kids_0) (lv := level_0) (w := x9) (y := x21) (by assumption) (by assumption) (by assumption) (by omega) (by assumption) (by omega) (by omega) (by assumption) (by assumption) rfl (Or.inl (by omega)))
  
set_option maxHeartbeats 4000000 in
theorem vc_Pl_placeOver_4_1 (x1 : Int) (x4 : Int) (x5 : Int) (x7 : Int) (x8 : Int) (x9 : Int) (x12 : Int) (x15 : Int) (x16 : Int) (x17 : Int) (x18 : Int) (x19 : Int) (nodes_0o2 : Int) (order_0 : Int → Int) (level_0 : Int → Int) (kids_0 : Int → Int) (parent_0 : Int → Int) (x_1o3 : Int → Int) (kids_1 : Int → Int) (order_1 : Int → Int) (level_1 : Int → Int) (parent_1 : Int → Int) (nodes_1o2 : Int) (order_2 : Int → Int) (level_2 : Int → Int) (kids_2 : Int → Int) (parent_2 : Int → Int) (nodes_2o2 : Int) (under_2 : Int → Int) (x_2o3 : Int → Int) (under_0 : Int → Int) (under_1 : Int → Int) (k1 : 0 ≤ x1 ∧ x1 ≤ 23) (k4 : 0 ≤ x4 ∧ x4 ≤ 24) (k5 : 0 ≤ x5 ∧ x5 ≤ 24) (k7 : 0 ≤ x7 ∧ x7 ≤ 23) (k8 : 1 ≤ x8 ∧ x8 ≤ 24) (k9 : 1 ≤ x9 ∧ x9 ≤ 24) (k12 : 0 ≤ x12 ∧ x12 ≤ 24) (k15 : 1 ≤ x15 ∧ x15 ≤ 8388608) (k16 : 0 ≤ x16 ∧ x16 ≤ 24) (k17 : 0 ≤ x17 ∧ x17 ≤ 24) (k18 : 0 ≤ x18 ∧ x18 ≤ 16777215) (k19 : 0 ≤ x19 ∧ x19 ≤ 16777215) (d4 : x12 + 0 ≤ x9 ∧ x9 ≤ x12 + 4294967296) (d5 : x7 + (-4294967296) ≤ x1 ∧ x1 ≤ x7 + 0) (d6 : x1 + (-4294967296) ≤ x7 ∧ x7 ≤ x1 + 0) (g3 : x12 = nodes_0o2) (f9 : 1 * x16 + ((-1) * x4 + 0) ≤ 0) (f10 : (-1) * x16 + (1 * x4 + 0) ≤ 0) (f11 : 1 * x17 + ((-1) * x5 + 0) ≤ 0) (f12 : (-1) * x17 + (1 * x5 + 0) ≤ 0) (f17 : x1 = order_0 (x5)) (f18 : (x5 + 1) ≤ x4) (f20 : x9 ≤ nodes_0o2) (f55 : bvp (x19) = bvp (x15) ||| bvp (x18)) (f58 : TQO (x15) (x1)) (f67 : TQU (nodes_2o2) (order_2) (under_2) (x4) (x5)) (f68 : TQD (nodes_2o2) (order_2) (parent_2) (level_2) (x4)) (f69 : x1 = order_2 (x5)) (f74 : TQP (nodes_2o2) (order_2) (kids_2) (x18) (x8) (x16) (x17)) (fe_2_0_1 : nodes_0o2 = nodes_1o2) (fe_2_0_2 : nodes_1o2 = nodes_2o2) (hE_0_2_1 : ∀ j : Int, order_0 j = order_1 j) (hE_0_2_2 : ∀ j : Int, order_1 j = order_2 j) (hE_0_4_1 : ∀ j : Int, level_0 j = level_1 j) (hE_0_4_2 : ∀ j : Int, level_1 j = level_2 j) (hE_0_5_1 : ∀ j : Int, parent_0 j = parent_1 j) (hE_0_5_2 : ∀ j : Int, parent_1 j = parent_2 j) (hE_0_6_1 : ∀ j : Int, under_0 j = under_1 j) (hE_0_6_2 : ∀ j : Int, 0 ≤ j → (j = x1 → under_1 j = x19) ∧ (j ≠ x1 → under_1 j = under_2 j)) (hE_0_7_1 : ∀ j : Int, kids_0 j = kids_1 j) (hE_0_7_2 : ∀ j : Int, kids_1 j = kids_2 j) (hE_3_2_2 : ∀ j : Int, x_1o3 j = x_2o3 j) (kz_2_0 : 0 ≤ nodes_0o2 ∧ nodes_0o2 ≤ 24) : TQM (nodes_0o2) (order_0) (under_0) (x4) (x5) := by
  subst fe_2_0_1
  subst fe_2_0_2
  have e_hE_0_2_1 := funext hE_0_2_1; subst e_hE_0_2_1
  have e_hE_0_2_2 := funext hE_0_2_2; subst e_hE_0_2_2
  have e_hE_0_4_1 := funext hE_0_4_1; subst e_hE_0_4_1
  have e_hE_0_4_2 := funext hE_0_4_2; subst e_hE_0_4_2
  have e_hE_0_5_1 := funext hE_0_5_1; subst e_hE_0_5_1
  have e_hE_0_5_2 := funext hE_0_5_2; subst e_hE_0_5_2
  have e_hE_0_6_1 := funext hE_0_6_1; subst e_hE_0_6_1
  have e_hE_0_7_1 := funext hE_0_7_1; subst e_hE_0_7_1
  have e_hE_0_7_2 := funext hE_0_7_2; subst e_hE_0_7_2
  have e_hE_3_2_2 := funext hE_3_2_2; subst e_hE_3_2_2
  first
    | (have e1 : x16 = x4 := by omega
       have e2 : x17 = x5 := by omega
       subst e1 e2
       exact tqm_of (un := under_2) (ct := x8) (v := x1) (kd := kids_0) (pr := parent_0) (lv := level_0) (an := x18) (o := x15) (y := x19) (by assumption) (by assumption) (by omega) (by omega) (by assumption) (by omega) (by omega) (by omega) (by assumption) ‹TQO _ _› (by assumption) (by assumption) rfl)
  
def o_Pl_placeOver_4 : or_T := (108, 32, [(0, (2, 0, 0, [6])), (1, (0, 0, 23, [])), (2, (2, 0, 0, [3])), (3, (2, 0, 0, [0])), (4, (0, 0, 24, [])), (5, (0, 0, 24, [])), (7, (0, 0, 23, [])), (8, (0, 1, 24, [])), (9, (0, 1, 24, [])), (12, (0, 0, 24, [])), (13, (2, 0, 0, [93])), (15, (0, 1, 8388608, [])), (16, (0, 0, 24, [])), (17, (0, 0, 24, [])), (18, (0, 0, 16777215, [])), (19, (0, 0, 16777215, [])), (20, (2, 0, 0, [14])), (22, (0, 0, 0, [])), (23, (0, 0, 23, [])), (24, (0, -40000000, 690000000, [])), (26, (0, 0, 23, [])), (27, (0, 0, 23, [])), (28, (0, -40000000, 690000000, [])), (29, (0, -67108864, 67108864, [])), (31, (0, -33554432, 33554432, []))], [(9, [21, 6], [7]), (9, [20, 11], [2]), (9, [13, 6], [6]), (9, [12, 10], [0]), (20, [31, 29], [50, 0, 0, 0, 6, 6, 2, 0, 2, 1, 0, 1, 1]), (20, [29, 31], [50, 0, 0, 0, 2, 1, 0, 4, 6, 6, 2, 0, 2, 1, 1, 0, 1]), (23, [16, 4], [0, 1, -1]), (23, [16, 4], [0, -1, 1]), (23, [17, 5], [0, 1, -1]), (23, [17, 5], [0, -1, 1]), (20, [7, 6, 5], [50, 0, 1, 1002, 1, 2, 1, 0, 3, 1, 2, 1, 2]), (20, [5, 4], [50, 0, 0, 0, 6, 4, 2, 1, 0, 0, 1, 1, 1]), (20, [9, 10], [50, 1, 0, 1000, 0, 2, 1, 0, 2, 1, 0]), (24, [2, 10], []), (24, [3, 11], []), (24, [1, 7], []), (24, [0, 6], []), (100, [20, 7, 31], []), (1, [29, 24, 28], []), (10, [28, 20, 27], []), (10, [27, 21, 26], []), (10, [24, 20, 23], []), (10, [23, 21, 22], []), (100, [13, 7, 19], []), (16, [19, 15, 18], [1]), (20, [6, 8, 4, 5], [60, 0, 3, 861, 2, 4, 7]), (20, [15, 7], [61, 0, 877]), (20, [6, 10, 4, 5], [60, 1, 2, 860, 1000, 2, 6]), (20, [6, 10, 4], [60, 1, 3, 859, 1000, 2, 5, 4]), (20, [7, 6, 5], [50, 0, 1, 1002, 1, 2, 1, 0, 3, 1, 2, 1, 2]), (20, [6, 7, 8, 9], [60, 0, 2, 871, 5, 7]), (20, [6, 10, 11, 8, 16, 17], [60, 1, 3, 866, 1000, 2, 5, 2002]), (20, [6, 10, 18, 8, 16, 17], [60, 1, 2, 863, 1000, 2, 7])], [], [], [(20, [0, 2, 3, 4, 5], [60, 1, 3, 872, 1000, 2, 5, 2002]), (20, [0, 2, 4, 5], [60, 1, 2, 873, 1000, 2, 6])], [], [(26, 8, -1, -1), (9, 12, 0, 4294967296), (1, 7, -4294967296, 0), (7, 1, -4294967296, 0)])
theorem oo_Pl_placeOver_4 {kA : Nat → ClassId} : or_ok PRD kA GG o_Pl_placeOver_4 := by
  refine or_mk fun A ta ws vs hD hth hl => ?_
  intro t0 r0 t1 k1 t2 r2 t3 r3 t4 k4 t5 k5 t7 k7 t8 k8 t9 k9 t12 k12 t13 r13 t15 k15 t16 k16 t17 k17 t18 k18 t19 k19 t20 r20 t22 k22 t23 k23 t24 k24 t26 k26 t27 k27 t28 k28 t29 k29 t31 k31 d2 d4 d5 d6 f0 f1 f2 f3 f4 f5 f9 f10 f11 f12 f17 f18 f20 f21 f22 f23 f24 ta1 w1 le1 s1 f29 f30 f31 f33 f34 ta2 w2 le2 s2 f55 f56 f58 f67 f68 f69 f71 f73 f74
  replace f0 := shm_198 f0
  replace f1 := shm_120 f1
  replace f2 := shm_111 f2
  replace f3 := shm_163 f3
  replace f17 := shm_428 f17
  replace f20 := shm_411 f20
  replace f21 := shm_5 f21
  replace f22 := shm_5 f22
  replace f23 := shm_5 f23
  replace f24 := shm_5 f24
  have s1 : (∀ b j, w_el ws b j = if b = v_ad (n_v vs 20) ∧ j = (v_iv (n_v vs 7)).toNat then v_iv (n_v vs 31) else w_el w1 b j) ∧ ∀ b k, w_fd ws b k = w_fd w1 b k := s1.2
  replace f30 := shm_107 f30
  replace f31 := shm_107 f31
  replace f33 := shm_107 f33
  replace f34 := shm_107 f34
  have s2 : (∀ b j, w_el w1 b j = if b = v_ad (n_v vs 13) ∧ j = (v_iv (n_v vs 7)).toNat then v_iv (n_v vs 19) else w_el w2 b j) ∧ ∀ b k, w_fd w1 b k = w_fd w2 b k := s2.2
  replace f56 := shm_1105 f56
  replace f58 := shm_1390 f58
  replace f67 := shm_1104 f67
  replace f68 := shm_1107 f68
  replace f69 := shm_428 f69
  replace f71 := shm_1389 f71
  replace f73 := shm_1111 f73
  replace f74 := shm_1108 f74
  have q10 : n_v vs 10 = n_v vs 2 := f21.symm
  have q11 : n_v vs 11 = n_v vs 3 := f22.symm
  have q7 : n_v vs 7 = n_v vs 1 := f23.symm
  have q6 : n_v vs 6 = n_v vs 0 := f24.symm
  simp only [q6, q11, q10, q7] at f0 f1 f2 f3 f17 f20
  rw [q7] at s1
  rw [q7] at s2
  simp only [q6, q10, q7, q11] at f56 f58 f67 f68 f69 f71 f73 f74
  have ar_0_2_1 : w_ar w1 (n_v vs 0) 2 = w_ar ws (n_v vs 0) 2 := congrArg v_ad (s1.2 _ _).symm
  have ar_0_2_2 : w_ar w2 (n_v vs 0) 2 = w_ar ws (n_v vs 0) 2 := by rw [← ar_0_2_1]; show v_ad (w_fd w2 _ _) = v_ad (w_fd w1 _ _); rw [s2.2]
  have cr_0_2 := fdq_89 hD hth r0
  have ar_0_4_1 : w_ar w1 (n_v vs 0) 4 = w_ar ws (n_v vs 0) 4 := congrArg v_ad (s1.2 _ _).symm
  have ar_0_4_2 : w_ar w2 (n_v vs 0) 4 = w_ar ws (n_v vs 0) 4 := by rw [← ar_0_4_1]; show v_ad (w_fd w2 _ _) = v_ad (w_fd w1 _ _); rw [s2.2]
  have cr_0_4 := fdq_86 hD hth r0
  have ar_0_5_1 : w_ar w1 (n_v vs 0) 5 = w_ar ws (n_v vs 0) 5 := congrArg v_ad (s1.2 _ _).symm
  have ar_0_5_2 : w_ar w2 (n_v vs 0) 5 = w_ar ws (n_v vs 0) 5 := by rw [← ar_0_5_1]; show v_ad (w_fd w2 _ _) = v_ad (w_fd w1 _ _); rw [s2.2]
  have cr_0_5 := fdq_90 hD hth r0
  have ar_0_6_1 : w_ar w1 (n_v vs 0) 6 = w_ar ws (n_v vs 0) 6 := congrArg v_ad (s1.2 _ _).symm
  have ar_0_6_2 : w_ar w2 (n_v vs 0) 6 = w_ar ws (n_v vs 0) 6 := by rw [← ar_0_6_1]; show v_ad (w_fd w2 _ _) = v_ad (w_fd w1 _ _); rw [s2.2]
  have cr_0_6 := fdq_264 hD hth r0
  have ar_0_7_1 : w_ar w1 (n_v vs 0) 7 = w_ar ws (n_v vs 0) 7 := congrArg v_ad (s1.2 _ _).symm
  have ar_0_7_2 : w_ar w2 (n_v vs 0) 7 = w_ar ws (n_v vs 0) 7 := by rw [← ar_0_7_1]; show v_ad (w_fd w2 _ _) = v_ad (w_fd w1 _ _); rw [s2.2]
  have cr_0_7 := fdq_265 hD hth r0
  have ar_3_2_1 : w_ar w1 (n_v vs 3) 2 = w_ar ws (n_v vs 3) 2 := congrArg v_ad (s1.2 _ _).symm
  have ar_3_2_2 : w_ar w2 (n_v vs 3) 2 = w_ar ws (n_v vs 3) 2 := by rw [← ar_3_2_1]; show v_ad (w_fd w2 _ _) = v_ad (w_fd w1 _ _); rw [s2.2]
  have cr_3_2 := fdq_45 hD hth r3
  have ad_21 : v_ad (n_v vs 21) = w_ar ws (n_v vs 0) 7 := congrArg v_ad f0
  have ad_20 : v_ad (n_v vs 20) = w_ar ws (n_v vs 3) 2 := congrArg v_ad f1
  have ad_13 : v_ad (n_v vs 13) = w_ar ws (n_v vs 0) 6 := congrArg v_ad f2
  have g3 : v_iv (n_v vs 12) = w_fi ws (n_v vs 2) 0 := congrArg v_iv f3
  simp only [ad_20] at f30
  have h30 : v_iv (n_v vs 28) = w_ei w1 (w_ar ws (n_v vs 3) 2) (v_iv (n_v vs 27)) := f30
  simp only [ad_21] at f31
  have h31 : v_iv (n_v vs 27) = w_ei w1 (w_ar ws (n_v vs 0) 7) (v_iv (n_v vs 26)) := f31
  simp only [ad_20] at f33
  have h33 : v_iv (n_v vs 24) = w_ei w1 (w_ar ws (n_v vs 3) 2) (v_iv (n_v vs 23)) := f33
  simp only [ad_21] at f34
  have h34 : v_iv (n_v vs 23) = w_ei w1 (w_ar ws (n_v vs 0) 7) (v_iv (n_v vs 22)) := f34
  simp only [ar_0_2_1, ar_0_4_1, ar_0_7_1, ar_0_5_1, ar_3_2_1, ar_0_2_2, ar_0_4_2, ar_0_7_2, ar_0_5_2, ar_0_6_2, ar_3_2_2] at f56 f67 f68 f69 f71 f73 f74
  have fe_2_0_1 : w_fi ws (n_v vs 2) 0 = w_fi w1 (n_v vs 2) 0 := congrArg v_iv (s1.2 _ _)
  have fe_2_0_2 : w_fi w1 (n_v vs 2) 0 = w_fi w2 (n_v vs 2) 0 := congrArg v_iv (s2.2 _ _)
  have hE_0_2_1 : ∀ j : Int, w_ei ws (w_ar ws (n_v vs 0) 2) j = w_ei w1 (w_ar ws (n_v vs 0) 2) j := el_kp s1.1 r20 cr_0_2 (by decide)
  have hE_0_2_2 : ∀ j : Int, w_ei w1 (w_ar ws (n_v vs 0) 2) j = w_ei w2 (w_ar ws (n_v vs 0) 2) j := el_kp s2.1 r13 cr_0_2 (by decide)
  have hE_0_4_1 : ∀ j : Int, w_ei ws (w_ar ws (n_v vs 0) 4) j = w_ei w1 (w_ar ws (n_v vs 0) 4) j := el_kp s1.1 r20 cr_0_4 (by decide)
  have hE_0_4_2 : ∀ j : Int, w_ei w1 (w_ar ws (n_v vs 0) 4) j = w_ei w2 (w_ar ws (n_v vs 0) 4) j := el_kp s2.1 r13 cr_0_4 (by decide)
  have hE_0_5_1 : ∀ j : Int, w_ei ws (w_ar ws (n_v vs 0) 5) j = w_ei w1 (w_ar ws (n_v vs 0) 5) j := el_kp s1.1 r20 cr_0_5 (by decide)
  have hE_0_5_2 : ∀ j : Int, w_ei w1 (w_ar ws (n_v vs 0) 5) j = w_ei w2 (w_ar ws (n_v vs 0) 5) j := el_kp s2.1 r13 cr_0_5 (by decide)
  have hE_0_6_1 : ∀ j : Int, w_ei ws (w_ar ws (n_v vs 0) 6) j = w_ei w1 (w_ar ws (n_v vs 0) 6) j := el_kp s1.1 r20 cr_0_6 (by decide)
  have hE_0_6_2 : ∀ j : Int, 0 ≤ j → (j = v_iv (n_v vs 1) → w_ei w1 (w_ar ws (n_v vs 0) 6) j = v_iv (n_v vs 19)) ∧ (j ≠ v_iv (n_v vs 1) → w_ei w1 (w_ar ws (n_v vs 0) 6) j = w_ei w2 (w_ar ws (n_v vs 0) 6) j) := fun j hj => ⟨fun h => by unfold w_ei; rw [s2.1, if_pos ⟨ad_13.symm, by rw [h]⟩], fun h => by unfold w_ei; rw [s2.1, if_neg (fun e => h (by have := e.2; omega))]⟩
  have hE_0_7_1 : ∀ j : Int, w_ei ws (w_ar ws (n_v vs 0) 7) j = w_ei w1 (w_ar ws (n_v vs 0) 7) j := el_kp s1.1 r20 cr_0_7 (by decide)
  have hE_0_7_2 : ∀ j : Int, w_ei w1 (w_ar ws (n_v vs 0) 7) j = w_ei w2 (w_ar ws (n_v vs 0) 7) j := el_kp s2.1 r13 cr_0_7 (by decide)
  have hE_3_2_1 : ∀ j : Int, 0 ≤ j → (j = v_iv (n_v vs 1) → w_ei ws (w_ar ws (n_v vs 3) 2) j = v_iv (n_v vs 31)) ∧ (j ≠ v_iv (n_v vs 1) → w_ei ws (w_ar ws (n_v vs 3) 2) j = w_ei w1 (w_ar ws (n_v vs 3) 2) j) := fun j hj => ⟨fun h => by unfold w_ei; rw [s1.1, if_pos ⟨ad_20.symm, by rw [h]⟩], fun h => by unfold w_ei; rw [s1.1, if_neg (fun e => h (by have := e.2; omega))]⟩
  have hE_3_2_2 : ∀ j : Int, w_ei w1 (w_ar ws (n_v vs 3) 2) j = w_ei w2 (w_ar ws (n_v vs 3) 2) j := el_kp s2.1 r13 cr_3_2 (by decide)
  have kz_2_0 := fdq_21 hD hth r2
  have nf0 : fc_1 PRD (20, [0, 2, 3, 4, 5], [60, 1, 3, 872, 1000, 2, 5, 2002]) ws (vs) := ⟨nf_in hl rfl, sgq_1391 (vc_Pl_placeOver_4_0 (v_iv (n_v vs 1)) (v_iv (n_v vs 4)) (v_iv (n_v vs 5)) (v_iv (n_v vs 8)) (v_iv (n_v vs 9)) (v_iv (n_v vs 12)) (v_iv (n_v vs 16)) (v_iv (n_v vs 17)) (v_iv (n_v vs 22)) (v_iv (n_v vs 23)) (v_iv (n_v vs 24)) (v_iv (n_v vs 26)) (v_iv (n_v vs 27)) (v_iv (n_v vs 28)) (v_iv (n_v vs 29)) (v_iv (n_v vs 31)) (w_fi ws (n_v vs 2) 0) (w_ei ws (w_ar ws (n_v vs 0) 2)) (w_ei ws (w_ar ws (n_v vs 0) 4)) (w_ei ws (w_ar ws (n_v vs 0) 7)) (w_ei ws (w_ar ws (n_v vs 0) 5)) (w_ei w1 (w_ar ws (n_v vs 3) 2)) (w_ei w1 (w_ar ws (n_v vs 0) 7)) (w_ei w1 (w_ar ws (n_v vs 0) 2)) (w_ei w1 (w_ar ws (n_v vs 0) 4)) (w_ei w1 (w_ar ws (n_v vs 0) 5)) (w_fi w1 (n_v vs 2) 0) (w_ei w2 (w_ar ws (n_v vs 0) 2)) (w_ei w2 (w_ar ws (n_v vs 0) 4)) (w_ei w2 (w_ar ws (n_v vs 0) 7)) (w_ei w2 (w_ar ws (n_v vs 0) 5)) (w_fi w2 (n_v vs 2) 0) (w_ei w2 (w_ar ws (n_v vs 3) 2)) (w_ei ws (w_ar ws (n_v vs 0) 6)) (w_ei w1 (w_ar ws (n_v vs 0) 6)) (w_ei ws (w_ar ws (n_v vs 3) 2)) k1 k4 k5 k8 k9 k12 k16 k17 k22 k23 k24 k26 k27 k28 k29 k31 d2 d4 g3 (shm_41 f4) (shm_42 f5) (shm_7 f9) (shm_22 f10) (shm_7 f11) (shm_22 f12) (shm_396 f18) f20 (shm_12 f29) h30 h31 h33 h34 f56 f68 f69 f71 f73 fe_2_0_1 fe_2_0_2 hE_0_2_1 hE_0_2_2 hE_0_4_1 hE_0_4_2 hE_0_5_1 hE_0_5_2 hE_0_6_1 hE_0_7_1 hE_0_7_2 hE_3_2_1 hE_3_2_2 kz_2_0)⟩
  have nf1 : fc_1 PRD (20, [0, 2, 4, 5], [60, 1, 2, 873, 1000, 2, 6]) ws (vs) := ⟨nf_in hl rfl, sgq_1392 (vc_Pl_placeOver_4_1 (v_iv (n_v vs 1)) (v_iv (n_v vs 4)) (v_iv (n_v vs 5)) (v_iv (n_v vs 7)) (v_iv (n_v vs 8)) (v_iv (n_v vs 9)) (v_iv (n_v vs 12)) (v_iv (n_v vs 15)) (v_iv (n_v vs 16)) (v_iv (n_v vs 17)) (v_iv (n_v vs 18)) (v_iv (n_v vs 19)) (w_fi ws (n_v vs 2) 0) (w_ei ws (w_ar ws (n_v vs 0) 2)) (w_ei ws (w_ar ws (n_v vs 0) 4)) (w_ei ws (w_ar ws (n_v vs 0) 7)) (w_ei ws (w_ar ws (n_v vs 0) 5)) (w_ei w1 (w_ar ws (n_v vs 3) 2)) (w_ei w1 (w_ar ws (n_v vs 0) 7)) (w_ei w1 (w_ar ws (n_v vs 0) 2)) (w_ei w1 (w_ar ws (n_v vs 0) 4)) (w_ei w1 (w_ar ws (n_v vs 0) 5)) (w_fi w1 (n_v vs 2) 0) (w_ei w2 (w_ar ws (n_v vs 0) 2)) (w_ei w2 (w_ar ws (n_v vs 0) 4)) (w_ei w2 (w_ar ws (n_v vs 0) 7)) (w_ei w2 (w_ar ws (n_v vs 0) 5)) (w_fi w2 (n_v vs 2) 0) (w_ei w2 (w_ar ws (n_v vs 0) 6)) (w_ei w2 (w_ar ws (n_v vs 3) 2)) (w_ei ws (w_ar ws (n_v vs 0) 6)) (w_ei w1 (w_ar ws (n_v vs 0) 6)) k1 k4 k5 k7 k8 k9 k12 k15 k16 k17 k18 k19 d4 d5 d6 g3 (shm_7 f9) (shm_22 f10) (shm_7 f11) (shm_22 f12) f17 (shm_396 f18) f20 (shm_354 f55) f58 f67 f68 f69 f74 fe_2_0_1 fe_2_0_2 hE_0_2_1 hE_0_2_2 hE_0_4_1 hE_0_4_2 hE_0_5_1 hE_0_5_2 hE_0_6_1 hE_0_6_2 hE_0_7_1 hE_0_7_2 hE_3_2_2 kz_2_0)⟩
  refine ⟨(fun _ h => (by cases h)), [], trivial, ?_, (fun _ h => (by cases h))⟩
  rw [List.append_nil]
  exact List.forall_mem_cons.mpr ⟨⟨show (20 : Nat) < 100 from by decide, nf0⟩, List.forall_mem_cons.mpr ⟨⟨show (20 : Nat) < 100 from by decide, nf1⟩, (fun _ h => (by cases h))⟩⟩
set_option maxHeartbeats 4000000 in
theorem vc_Pl_placeOver_5_0 (x1 : Int) (x4 : Int) (x5 : Int) (x8 : Int) (x9 : Int) (x12 : Int) (x16 : Int) (x17 : Int) (x21 : Int) (nodes_0o2 : Int) (order_0 : Int → Int) (level_0 : Int → Int) (kids_0 : Int → Int) (parent_0 : Int → Int) (order_1 : Int → Int) (level_1 : Int → Int) (kids_1 : Int → Int) (parent_1 : Int → Int) (nodes_1o2 : Int) (x_1o3 : Int → Int) (order_2 : Int → Int) (level_2 : Int → Int) (kids_2 : Int → Int) (parent_2 : Int → Int) (nodes_2o2 : Int) (x_2o3 : Int → Int) (under_0 : Int → Int) (under_1 : Int → Int) (x_0o3 : Int → Int) (k1 : 0 ≤ x1 ∧ x1 ≤ 23) (k4 : 0 ≤ x4 ∧ x4 ≤ 24) (k5 : 0 ≤ x5 ∧ x5 ≤ 24) (k8 : 0 ≤ x8 ∧ x8 ≤ 0) (k9 : 0 ≤ x9 ∧ x9 ≤ 24) (k12 : 0 ≤ x12 ∧ x12 ≤ 24) (k16 : 0 ≤ x16 ∧ x16 ≤ 24) (k17 : 0 ≤ x17 ∧ x17 ≤ 24) (k21 : 0 ≤ x21 ∧ x21 ≤ 0) (d0 : x12 + 0 ≤ x9 ∧ x9 ≤ x12 + 4294967296) (g2 : x12 = nodes_0o2) (f6 : 1 * x16 + ((-1) * x4 + 0) ≤ 0) (f7 : (-1) * x16 + (1 * x4 + 0) ≤ 0) (f8 : 1 * x17 + ((-1) * x5 + 0) ≤ 0) (f9 : (-1) * x17 + (1 * x5 + 0) ≤ 0) (f15 : (x5 + 1) ≤ x4) (f17 : x9 ≤ nodes_0o2) (f45 : TQK (order_2) (level_2) (kids_2) (x8) (x4) (x5)) (f57 : TQD (nodes_2o2) (order_2) (parent_2) (level_2) (x4)) (f58 : x1 = order_2 (x5)) (f60 : TQL (parent_2) (kids_2) (x1) (x8) (x9)) (f62 : TQ2 (nodes_2o2) (order_2) (parent_2) (x_2o3) (x8) (x16) (x17)) (fe_2_0_1 : nodes_0o2 = nodes_1o2) (fe_2_0_2 : nodes_1o2 = nodes_2o2) (hE_0_2_1 : ∀ j : Int, order_0 j = order_1 j) (hE_0_2_2 : ∀ j : Int, order_1 j = order_2 j) (hE_0_4_1 : ∀ j : Int, level_0 j = level_1 j) (hE_0_4_2 : ∀ j : Int, level_1 j = level_2 j) (hE_0_5_1 : ∀ j : Int, parent_0 j = parent_1 j) (hE_0_5_2 : ∀ j : Int, parent_1 j = parent_2 j) (hE_0_6_1 : ∀ j : Int, under_0 j = under_1 j) (hE_0_7_1 : ∀ j : Int, kids_0 j = kids_1 j) (hE_0_7_2 : ∀ j : Int, kids_1 j = kids_2 j) (hE_3_2_1 : ∀ j : Int, 0 ≤ j → (j = x1 → x_0o3 j = x21) ∧ (j ≠ x1 → x_0o3 j = x_1o3 j)) (hE_3_2_2 : ∀ j : Int, x_1o3 j = x_2o3 j) (kz_2_0 : 0 ≤ nodes_0o2 ∧ nodes_0o2 ≤ 24) : TQN (nodes_0o2) (order_0) (parent_0) (x_0o3) (x4) (x5) := by
  subst fe_2_0_1
  subst fe_2_0_2
  have e_hE_0_2_1 := funext hE_0_2_1; subst e_hE_0_2_1
  have e_hE_0_2_2 := funext hE_0_2_2; subst e_hE_0_2_2
  have e_hE_0_4_1 := funext hE_0_4_1; subst e_hE_0_4_1
  have e_hE_0_4_2 := funext hE_0_4_2; subst e_hE_0_4_2
  have e_hE_0_5_1 := funext hE_0_5_1; subst e_hE_0_5_1
  have e_hE_0_5_2 := funext hE_0_5_2; subst e_hE_0_5_2
  have e_hE_0_6_1 := funext hE_0_6_1; subst e_hE_0_6_1
  have e_hE_0_7_1 := funext hE_0_7_1; subst e_hE_0_7_1
  have e_hE_0_7_2 := funext hE_0_7_2; subst e_hE_0_7_2
  have e_hE_3_2_2 := funext hE_3_2_2; subst e_hE_3_2_2
  first
    | (have e1 : x16 = x4 := by omega
       have e2 : x17 = x5 := by omega
       subst e1 e2
       first
         | exact tqn_of (x := x_1o3) (ct := x8) (v := x1) (kd := kids_0) (lv := level_0) (w := x9) (y := x31) (by assumption) (by assumption) (by assumption) (by omega) (by assumption) (by omega) (by omega) (by assumption) (by assumption) rfl (Or.inr ⟨by omega, by have k0 : kids_0 0 = x23 := (by rw [‹x23 = _›, show x22 = 0 by omega]); have k1 : kids_0 (x8 - 1) = x27 := (by rw [‹x27 = _›, show x26 = x8 - 1 by omega]); rw [k0, k1]; have q1 := (‹x24 = _›); have q2 := (‹x28 = _›); omega, by have k0 : kids_0 0 = x23 := (by rw [‹x23 = _›, show x22 = 0 by omega]); have k1 : kids_0 (x8 - 1) = x27 := (by rw [‹x27 = _›, show x26 = x8 - 1 by omega]); rw [k0, k1]; have q1 := (‹x24 = _›); have q2 := (‹x28 = _›); omega⟩)
         | exact tqn_of (x := x_1o3) (ct := x8) (v := x1) (kd := kids_0) (lv := level_0) (w := x9) (y := x21) (by assumption) (by assumption) (by assumption) (by omega) (by assumption) (by omega) (by omega) (by assumption) (by assumption) rfl (Or.inl (by omega)))
  
set_option maxHeartbeats 4000000 in
theorem vc_Pl_placeOver_5_1 (x1 : Int) (x4 : Int) (x5 : Int) (x7 : Int) (x8 : Int) (x9 : Int) (x12 : Int) (x15 : Int) (x16 : Int) (x17 : Int) (x18 : Int) (x19 : Int) (nodes_0o2 : Int) (order_0 : Int → Int) (level_0 : Int → Int) (kids_0 : Int → Int) (parent_0 : Int → Int) (order_1 : Int → Int) (level_1 : Int → Int) (kids_1 : Int → Int) (parent_1 : Int → Int) (nodes_1o2 : Int) (x_1o3 : Int → Int) (order_2 : Int → Int) (level_2 : Int → Int) (kids_2 : Int → Int) (parent_2 : Int → Int) (nodes_2o2 : Int) (under_2 : Int → Int) (x_2o3 : Int → Int) (under_0 : Int → Int) (under_1 : Int → Int) (k1 : 0 ≤ x1 ∧ x1 ≤ 23) (k4 : 0 ≤ x4 ∧ x4 ≤ 24) (k5 : 0 ≤ x5 ∧ x5 ≤ 24) (k7 : 0 ≤ x7 ∧ x7 ≤ 23) (k8 : 0 ≤ x8 ∧ x8 ≤ 0) (k9 : 0 ≤ x9 ∧ x9 ≤ 24) (k12 : 0 ≤ x12 ∧ x12 ≤ 24) (k15 : 1 ≤ x15 ∧ x15 ≤ 8388608) (k16 : 0 ≤ x16 ∧ x16 ≤ 24) (k17 : 0 ≤ x17 ∧ x17 ≤ 24) (k18 : 0 ≤ x18 ∧ x18 ≤ 16777215) (k19 : 0 ≤ x19 ∧ x19 ≤ 16777215) (d0 : x12 + 0 ≤ x9 ∧ x9 ≤ x12 + 4294967296) (d1 : x7 + (-4294967296) ≤ x1 ∧ x1 ≤ x7 + 0) (d2 : x1 + (-4294967296) ≤ x7 ∧ x7 ≤ x1 + 0) (g2 : x12 = nodes_0o2) (f6 : 1 * x16 + ((-1) * x4 + 0) ≤ 0) (f7 : (-1) * x16 + (1 * x4 + 0) ≤ 0) (f8 : 1 * x17 + ((-1) * x5 + 0) ≤ 0) (f9 : (-1) * x17 + (1 * x5 + 0) ≤ 0) (f14 : x1 = order_0 (x5)) (f15 : (x5 + 1) ≤ x4) (f17 : x9 ≤ nodes_0o2) (f44 : bvp (x19) = bvp (x15) ||| bvp (x18)) (f47 : TQO (x15) (x1)) (f56 : TQU (nodes_2o2) (order_2) (under_2) (x4) (x5)) (f57 : TQD (nodes_2o2) (order_2) (parent_2) (level_2) (x4)) (f58 : x1 = order_2 (x5)) (f63 : TQP (nodes_2o2) (order_2) (kids_2) (x18) (x8) (x16) (x17)) (fe_2_0_1 : nodes_0o2 = nodes_1o2) (fe_2_0_2 : nodes_1o2 = nodes_2o2) (hE_0_2_1 : ∀ j : Int, order_0 j = order_1 j) (hE_0_2_2 : ∀ j : Int, order_1 j = order_2 j) (hE_0_4_1 : ∀ j : Int, level_0 j = level_1 j) (hE_0_4_2 : ∀ j : Int, level_1 j = level_2 j) (hE_0_5_1 : ∀ j : Int, parent_0 j = parent_1 j) (hE_0_5_2 : ∀ j : Int, parent_1 j = parent_2 j) (hE_0_6_1 : ∀ j : Int, under_0 j = under_1 j) (hE_0_6_2 : ∀ j : Int, 0 ≤ j → (j = x1 → under_1 j = x19) ∧ (j ≠ x1 → under_1 j = under_2 j)) (hE_0_7_1 : ∀ j : Int, kids_0 j = kids_1 j) (hE_0_7_2 : ∀ j : Int, kids_1 j = kids_2 j) (hE_3_2_2 : ∀ j : Int, x_1o3 j = x_2o3 j) (kz_2_0 : 0 ≤ nodes_0o2 ∧ nodes_0o2 ≤ 24) : TQM (nodes_0o2) (order_0) (under_0) (x4) (x5) := by
  subst fe_2_0_1
  subst fe_2_0_2
  have e_hE_0_2_1 := funext hE_0_2_1; subst e_hE_0_2_1
  have e_hE_0_2_2 := funext hE_0_2_2; subst e_hE_0_2_2
  have e_hE_0_4_1 := funext hE_0_4_1; subst e_hE_0_4_1
  have e_hE_0_4_2 := funext hE_0_4_2; subst e_hE_0_4_2
  have e_hE_0_5_1 := funext hE_0_5_1; subst e_hE_0_5_1
  have e_hE_0_5_2 := funext hE_0_5_2; subst e_hE_0_5_2
  have e_hE_0_6_1 := funext hE_0_6_1; subst e_hE_0_6_1
  have e_hE_0_7_1 := funext hE_0_7_1; subst e_hE_0_7_1
  have e_hE_0_7_2 := funext hE_0_7_2; subst e_hE_0_7_2
  have e_hE_3_2_2 := funext hE_3_2_2; subst e_hE_3_2_2
  first
    | (have e1 : x16 = x4 := by omega
       have e2 : x17 = x5 := by omega
       subst e1 e2
       exact tqm_of (un := under_2) (ct := x8) (v := x1) (kd := kids_0) (pr := parent_0) (lv := level_0) (an := x18) (o := x15) (y := x19) (by assumption) (by assumption) (by omega) (by omega) (by assumption) (by omega) (by omega) (by omega) (by assumption) ‹TQO _ _› (by assumption) (by assumption) rfl)
  
def o_Pl_placeOver_5 : or_T := (108, 22, [(0, (2, 0, 0, [6])), (1, (0, 0, 23, [])), (2, (2, 0, 0, [3])), (3, (2, 0, 0, [0])), (4, (0, 0, 24, [])), (5, (0, 0, 24, [])), (7, (0, 0, 23, [])), (8, (0, 0, 0, [])), (9, (0, 0, 24, [])), (12, (0, 0, 24, [])), (13, (2, 0, 0, [93])), (15, (0, 1, 8388608, [])), (16, (0, 0, 24, [])), (17, (0, 0, 24, [])), (18, (0, 0, 16777215, [])), (19, (0, 0, 16777215, [])), (20, (2, 0, 0, [14])), (21, (0, 0, 0, []))], [(9, [20, 11], [2]), (9, [13, 6], [6]), (9, [12, 10], [0]), (23, [16, 4], [0, 1, -1]), (23, [16, 4], [0, -1, 1]), (23, [17, 5], [0, 1, -1]), (23, [17, 5], [0, -1, 1]), (20, [7, 6, 5], [50, 0, 1, 1002, 1, 2, 1, 0, 3, 1, 2, 1, 2]), (20, [5, 4], [50, 0, 0, 0, 6, 4, 2, 1, 0, 0, 1, 1, 1]), (20, [9, 10], [50, 1, 0, 1000, 0, 2, 1, 0, 2, 1, 0]), (24, [2, 10], []), (24, [3, 11], []), (24, [1, 7], []), (24, [0, 6], []), (100, [20, 7, 21], []), (100, [13, 7, 19], []), (16, [19, 15, 18], [1]), (20, [6, 8, 4, 5], [60, 0, 3, 861, 2, 4, 7]), (20, [15, 7], [61, 0, 877]), (20, [6, 10, 4, 5], [60, 1, 2, 860, 1000, 2, 6]), (20, [6, 10, 4], [60, 1, 3, 859, 1000, 2, 5, 4]), (20, [7, 6, 5], [50, 0, 1, 1002, 1, 2, 1, 0, 3, 1, 2, 1, 2]), (20, [6, 7, 8, 9], [60, 0, 2, 871, 5, 7]), (20, [6, 10, 11, 8, 16, 17], [60, 1, 3, 866, 1000, 2, 5, 2002]), (20, [6, 10, 18, 8, 16, 17], [60, 1, 2, 863, 1000, 2, 7])], [], [], [(20, [0, 2, 3, 4, 5], [60, 1, 3, 872, 1000, 2, 5, 2002]), (20, [0, 2, 4, 5], [60, 1, 2, 873, 1000, 2, 6])], [], [(9, 12, 0, 4294967296), (1, 7, -4294967296, 0), (7, 1, -4294967296, 0)])
theorem oo_Pl_placeOver_5 {kA : Nat → ClassId} : or_ok PRD kA GG o_Pl_placeOver_5 := by
  refine or_mk fun A ta ws vs hD hth hl => ?_
  intro t0 r0 t1 k1 t2 r2 t3 r3 t4 k4 t5 k5 t7 k7 t8 k8 t9 k9 t12 k12 t13 r13 t15 k15 t16 k16 t17 k17 t18 k18 t19 k19 t20 r20 t21 k21 d0 d1 d2 f0 f1 f2 f6 f7 f8 f9 f14 f15 f17 f18 f19 f20 f21 ta1 w1 le1 s1 ta2 w2 le2 s2 f44 f45 f47 f56 f57 f58 f60 f62 f63
  replace f0 := shm_120 f0
  replace f1 := shm_111 f1
  replace f2 := shm_163 f2
  replace f14 := shm_428 f14
  replace f17 := shm_411 f17
  replace f18 := shm_5 f18
  replace f19 := shm_5 f19
  replace f20 := shm_5 f20
  replace f21 := shm_5 f21
  have s1 : (∀ b j, w_el ws b j = if b = v_ad (n_v vs 20) ∧ j = (v_iv (n_v vs 7)).toNat then v_iv (n_v vs 21) else w_el w1 b j) ∧ ∀ b k, w_fd ws b k = w_fd w1 b k := s1.2
  have s2 : (∀ b j, w_el w1 b j = if b = v_ad (n_v vs 13) ∧ j = (v_iv (n_v vs 7)).toNat then v_iv (n_v vs 19) else w_el w2 b j) ∧ ∀ b k, w_fd w1 b k = w_fd w2 b k := s2.2
  replace f45 := shm_1105 f45
  replace f47 := shm_1390 f47
  replace f56 := shm_1104 f56
  replace f57 := shm_1107 f57
  replace f58 := shm_428 f58
  replace f60 := shm_1389 f60
  replace f62 := shm_1111 f62
  replace f63 := shm_1108 f63
  have q10 : n_v vs 10 = n_v vs 2 := f18.symm
  have q11 : n_v vs 11 = n_v vs 3 := f19.symm
  have q7 : n_v vs 7 = n_v vs 1 := f20.symm
  have q6 : n_v vs 6 = n_v vs 0 := f21.symm
  simp only [q11, q6, q10, q7] at f0 f1 f2 f14 f17
  rw [q7] at s1
  rw [q7] at s2
  simp only [q6, q10, q7, q11] at f45 f47 f56 f57 f58 f60 f62 f63
  have ar_0_2_1 : w_ar w1 (n_v vs 0) 2 = w_ar ws (n_v vs 0) 2 := congrArg v_ad (s1.2 _ _).symm
  have ar_0_2_2 : w_ar w2 (n_v vs 0) 2 = w_ar ws (n_v vs 0) 2 := by rw [← ar_0_2_1]; show v_ad (w_fd w2 _ _) = v_ad (w_fd w1 _ _); rw [s2.2]
  have cr_0_2 := fdq_89 hD hth r0
  have ar_0_4_1 : w_ar w1 (n_v vs 0) 4 = w_ar ws (n_v vs 0) 4 := congrArg v_ad (s1.2 _ _).symm
  have ar_0_4_2 : w_ar w2 (n_v vs 0) 4 = w_ar ws (n_v vs 0) 4 := by rw [← ar_0_4_1]; show v_ad (w_fd w2 _ _) = v_ad (w_fd w1 _ _); rw [s2.2]
  have cr_0_4 := fdq_86 hD hth r0
  have ar_0_5_1 : w_ar w1 (n_v vs 0) 5 = w_ar ws (n_v vs 0) 5 := congrArg v_ad (s1.2 _ _).symm
  have ar_0_5_2 : w_ar w2 (n_v vs 0) 5 = w_ar ws (n_v vs 0) 5 := by rw [← ar_0_5_1]; show v_ad (w_fd w2 _ _) = v_ad (w_fd w1 _ _); rw [s2.2]
  have cr_0_5 := fdq_90 hD hth r0
  have ar_0_6_1 : w_ar w1 (n_v vs 0) 6 = w_ar ws (n_v vs 0) 6 := congrArg v_ad (s1.2 _ _).symm
  have ar_0_6_2 : w_ar w2 (n_v vs 0) 6 = w_ar ws (n_v vs 0) 6 := by rw [← ar_0_6_1]; show v_ad (w_fd w2 _ _) = v_ad (w_fd w1 _ _); rw [s2.2]
  have cr_0_6 := fdq_264 hD hth r0
  have ar_0_7_1 : w_ar w1 (n_v vs 0) 7 = w_ar ws (n_v vs 0) 7 := congrArg v_ad (s1.2 _ _).symm
  have ar_0_7_2 : w_ar w2 (n_v vs 0) 7 = w_ar ws (n_v vs 0) 7 := by rw [← ar_0_7_1]; show v_ad (w_fd w2 _ _) = v_ad (w_fd w1 _ _); rw [s2.2]
  have cr_0_7 := fdq_265 hD hth r0
  have ar_3_2_1 : w_ar w1 (n_v vs 3) 2 = w_ar ws (n_v vs 3) 2 := congrArg v_ad (s1.2 _ _).symm
  have ar_3_2_2 : w_ar w2 (n_v vs 3) 2 = w_ar ws (n_v vs 3) 2 := by rw [← ar_3_2_1]; show v_ad (w_fd w2 _ _) = v_ad (w_fd w1 _ _); rw [s2.2]
  have cr_3_2 := fdq_45 hD hth r3
  have ad_20 : v_ad (n_v vs 20) = w_ar ws (n_v vs 3) 2 := congrArg v_ad f0
  have ad_13 : v_ad (n_v vs 13) = w_ar ws (n_v vs 0) 6 := congrArg v_ad f1
  have g2 : v_iv (n_v vs 12) = w_fi ws (n_v vs 2) 0 := congrArg v_iv f2
  simp only [ar_0_2_1, ar_0_4_1, ar_0_7_1, ar_0_5_1, ar_3_2_1, ar_0_2_2, ar_0_4_2, ar_0_7_2, ar_0_5_2, ar_0_6_2, ar_3_2_2] at f45 f56 f57 f58 f60 f62 f63
  have fe_2_0_1 : w_fi ws (n_v vs 2) 0 = w_fi w1 (n_v vs 2) 0 := congrArg v_iv (s1.2 _ _)
  have fe_2_0_2 : w_fi w1 (n_v vs 2) 0 = w_fi w2 (n_v vs 2) 0 := congrArg v_iv (s2.2 _ _)
  have hE_0_2_1 : ∀ j : Int, w_ei ws (w_ar ws (n_v vs 0) 2) j = w_ei w1 (w_ar ws (n_v vs 0) 2) j := el_kp s1.1 r20 cr_0_2 (by decide)
  have hE_0_2_2 : ∀ j : Int, w_ei w1 (w_ar ws (n_v vs 0) 2) j = w_ei w2 (w_ar ws (n_v vs 0) 2) j := el_kp s2.1 r13 cr_0_2 (by decide)
  have hE_0_4_1 : ∀ j : Int, w_ei ws (w_ar ws (n_v vs 0) 4) j = w_ei w1 (w_ar ws (n_v vs 0) 4) j := el_kp s1.1 r20 cr_0_4 (by decide)
  have hE_0_4_2 : ∀ j : Int, w_ei w1 (w_ar ws (n_v vs 0) 4) j = w_ei w2 (w_ar ws (n_v vs 0) 4) j := el_kp s2.1 r13 cr_0_4 (by decide)
  have hE_0_5_1 : ∀ j : Int, w_ei ws (w_ar ws (n_v vs 0) 5) j = w_ei w1 (w_ar ws (n_v vs 0) 5) j := el_kp s1.1 r20 cr_0_5 (by decide)
  have hE_0_5_2 : ∀ j : Int, w_ei w1 (w_ar ws (n_v vs 0) 5) j = w_ei w2 (w_ar ws (n_v vs 0) 5) j := el_kp s2.1 r13 cr_0_5 (by decide)
  have hE_0_6_1 : ∀ j : Int, w_ei ws (w_ar ws (n_v vs 0) 6) j = w_ei w1 (w_ar ws (n_v vs 0) 6) j := el_kp s1.1 r20 cr_0_6 (by decide)
  have hE_0_6_2 : ∀ j : Int, 0 ≤ j → (j = v_iv (n_v vs 1) → w_ei w1 (w_ar ws (n_v vs 0) 6) j = v_iv (n_v vs 19)) ∧ (j ≠ v_iv (n_v vs 1) → w_ei w1 (w_ar ws (n_v vs 0) 6) j = w_ei w2 (w_ar ws (n_v vs 0) 6) j) := fun j hj => ⟨fun h => by unfold w_ei; rw [s2.1, if_pos ⟨ad_13.symm, by rw [h]⟩], fun h => by unfold w_ei; rw [s2.1, if_neg (fun e => h (by have := e.2; omega))]⟩
  have hE_0_7_1 : ∀ j : Int, w_ei ws (w_ar ws (n_v vs 0) 7) j = w_ei w1 (w_ar ws (n_v vs 0) 7) j := el_kp s1.1 r20 cr_0_7 (by decide)
  have hE_0_7_2 : ∀ j : Int, w_ei w1 (w_ar ws (n_v vs 0) 7) j = w_ei w2 (w_ar ws (n_v vs 0) 7) j := el_kp s2.1 r13 cr_0_7 (by decide)
  have hE_3_2_1 : ∀ j : Int, 0 ≤ j → (j = v_iv (n_v vs 1) → w_ei ws (w_ar ws (n_v vs 3) 2) j = v_iv (n_v vs 21)) ∧ (j ≠ v_iv (n_v vs 1) → w_ei ws (w_ar ws (n_v vs 3) 2) j = w_ei w1 (w_ar ws (n_v vs 3) 2) j) := fun j hj => ⟨fun h => by unfold w_ei; rw [s1.1, if_pos ⟨ad_20.symm, by rw [h]⟩], fun h => by unfold w_ei; rw [s1.1, if_neg (fun e => h (by have := e.2; omega))]⟩
  have hE_3_2_2 : ∀ j : Int, w_ei w1 (w_ar ws (n_v vs 3) 2) j = w_ei w2 (w_ar ws (n_v vs 3) 2) j := el_kp s2.1 r13 cr_3_2 (by decide)
  have kz_2_0 := fdq_21 hD hth r2
  have nf0 : fc_1 PRD (20, [0, 2, 3, 4, 5], [60, 1, 3, 872, 1000, 2, 5, 2002]) ws (vs) := ⟨nf_in hl rfl, sgq_1391 (vc_Pl_placeOver_5_0 (v_iv (n_v vs 1)) (v_iv (n_v vs 4)) (v_iv (n_v vs 5)) (v_iv (n_v vs 8)) (v_iv (n_v vs 9)) (v_iv (n_v vs 12)) (v_iv (n_v vs 16)) (v_iv (n_v vs 17)) (v_iv (n_v vs 21)) (w_fi ws (n_v vs 2) 0) (w_ei ws (w_ar ws (n_v vs 0) 2)) (w_ei ws (w_ar ws (n_v vs 0) 4)) (w_ei ws (w_ar ws (n_v vs 0) 7)) (w_ei ws (w_ar ws (n_v vs 0) 5)) (w_ei w1 (w_ar ws (n_v vs 0) 2)) (w_ei w1 (w_ar ws (n_v vs 0) 4)) (w_ei w1 (w_ar ws (n_v vs 0) 7)) (w_ei w1 (w_ar ws (n_v vs 0) 5)) (w_fi w1 (n_v vs 2) 0) (w_ei w1 (w_ar ws (n_v vs 3) 2)) (w_ei w2 (w_ar ws (n_v vs 0) 2)) (w_ei w2 (w_ar ws (n_v vs 0) 4)) (w_ei w2 (w_ar ws (n_v vs 0) 7)) (w_ei w2 (w_ar ws (n_v vs 0) 5)) (w_fi w2 (n_v vs 2) 0) (w_ei w2 (w_ar ws (n_v vs 3) 2)) (w_ei ws (w_ar ws (n_v vs 0) 6)) (w_ei w1 (w_ar ws (n_v vs 0) 6)) (w_ei ws (w_ar ws (n_v vs 3) 2)) k1 k4 k5 k8 k9 k12 k16 k17 k21 d0 g2 (shm_7 f6) (shm_22 f7) (shm_7 f8) (shm_22 f9) (shm_396 f15) f17 f45 f57 f58 f60 f62 fe_2_0_1 fe_2_0_2 hE_0_2_1 hE_0_2_2 hE_0_4_1 hE_0_4_2 hE_0_5_1 hE_0_5_2 hE_0_6_1 hE_0_7_1 hE_0_7_2 hE_3_2_1 hE_3_2_2 kz_2_0)⟩
  have nf1 : fc_1 PRD (20, [0, 2, 4, 5], [60, 1, 2, 873, 1000, 2, 6]) ws (vs) := ⟨nf_in hl rfl, sgq_1392 (vc_Pl_placeOver_5_1 (v_iv (n_v vs 1)) (v_iv (n_v vs 4)) (v_iv (n_v vs 5)) (v_iv (n_v vs 7)) (v_iv (n_v vs 8)) (v_iv (n_v vs 9)) (v_iv (n_v vs 12)) (v_iv (n_v vs 15)) (v_iv (n_v vs 16)) (v_iv (n_v vs 17)) (v_iv (n_v vs 18)) (v_iv (n_v vs 19)) (w_fi ws (n_v vs 2) 0) (w_ei ws (w_ar ws (n_v vs 0) 2)) (w_ei ws (w_ar ws (n_v vs 0) 4)) (w_ei ws (w_ar ws (n_v vs 0) 7)) (w_ei ws (w_ar ws (n_v vs 0) 5)) (w_ei w1 (w_ar ws (n_v vs 0) 2)) (w_ei w1 (w_ar ws (n_v vs 0) 4)) (w_ei w1 (w_ar ws (n_v vs 0) 7)) (w_ei w1 (w_ar ws (n_v vs 0) 5)) (w_fi w1 (n_v vs 2) 0) (w_ei w1 (w_ar ws (n_v vs 3) 2)) (w_ei w2 (w_ar ws (n_v vs 0) 2)) (w_ei w2 (w_ar ws (n_v vs 0) 4)) (w_ei w2 (w_ar ws (n_v vs 0) 7)) (w_ei w2 (w_ar ws (n_v vs 0) 5)) (w_fi w2 (n_v vs 2) 0) (w_ei w2 (w_ar ws (n_v vs 0) 6)) (w_ei w2 (w_ar ws (n_v vs 3) 2)) (w_ei ws (w_ar ws (n_v vs 0) 6)) (w_ei w1 (w_ar ws (n_v vs 0) 6)) k1 k4 k5 k7 k8 k9 k12 k15 k16 k17 k18 k19 d0 d1 d2 g2 (shm_7 f6) (shm_22 f7) (shm_7 f8) (shm_22 f9) f14 (shm_396 f15) f17 (shm_354 f44) f47 f56 f57 f58 f63 fe_2_0_1 fe_2_0_2 hE_0_2_1 hE_0_2_2 hE_0_4_1 hE_0_4_2 hE_0_5_1 hE_0_5_2 hE_0_6_1 hE_0_6_2 hE_0_7_1 hE_0_7_2 hE_3_2_2 kz_2_0)⟩
  refine ⟨(fun _ h => (by cases h)), [], trivial, ?_, (fun _ h => (by cases h))⟩
  rw [List.append_nil]
  exact List.forall_mem_cons.mpr ⟨⟨show (20 : Nat) < 100 from by decide, nf0⟩, List.forall_mem_cons.mpr ⟨⟨show (20 : Nat) < 100 from by decide, nf1⟩, (fun _ h => (by cases h))⟩⟩
